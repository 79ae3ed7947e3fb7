theorem adv_ok {hm : Int32} {rd c : Nat → Int32} {n : Nat} (hl : ∀ p, p < 12 → inR (rd p) 4096) (hc : Row c (ctc hm rd n)) (t0 : Nat → Int32) : ∃ (more : Bool) (c' t' : Nat → Int32), f_X0_advance c t0 hm rd = some (b2 more, c', t') ∧ Row c' (ctc hm rd (n + 1)) ∧ Row t' (trpF hm rd (ctc hm rd n)) ∧ (more = false → ∀ k o, k < 12 → o < 12 → ctc hm rd (n + 1) k o = ctc hm rd n k o) := by
  unfold f_X0_advance
  obtain ⟨t, h1, h2⟩ := lup (L := fun f (s : Nat → Int32) i => f_X0_advance_L2 c hm rd (f_X0_advance_X2 c rd) f (nI i) s) (kE := f_X0_advance_X2 c rd) 12 (fun i s => ∀ k o, k < i → o < 32 → (bt (s k) o = true ↔ o < 12 ∧ trpF hm rd (ctc hm rd n) k o = true))
    (fun f i s hi hs => by
      obtain ⟨w, k1, k2⟩ := trapped_ok (hm := hm) hl hc hi
      refine ⟨upd s i w, fun k o hk ho => ?_, ?_⟩
      · by_cases e : k = i
        · rw [e, pk_us]; exact k2 o ho
        · rw [pk_un e]; exact hs k o (by omega) ho
      · show f_X0_advance_L2 c hm rd (f_X0_advance_X2 c rd) (f + 1) (nI i) s = _
        rw [f_X0_advance_L2, if_neg (show ¬ (12 : Int32) ≤ nI i from nI_ge hi (by decide)), k1, bd_some, if_pos (ix_t hi (by decide)), nI_clamp (by omega), nI_1])
    (fun f s hs => by
      show f_X0_advance_L2 c hm rd (f_X0_advance_X2 c rd) (f + 1) (nI 12) s = _
      rw [f_X0_advance_L2, if_pos (by decide)]) 5000 0 t0 (by decide) (by decide) (fun k o hk => absurd hk (Nat.not_lt_zero k))
  have ht : Row t (trpF hm rd (ctc hm rd n)) := h1
  have e2 : f_X0_advance_L2 c hm rd (f_X0_advance_X2 c rd) 5000 0 t0 = f_X0_advance_X2 c rd t := h2
  rw [e2]
  unfold f_X0_advance_X2
  obtain ⟨⟨x, cc⟩, ⟨more, e3, h4, h5, h6⟩, h7⟩ := lup (L := fun f (s : Int32 × (Nat → Int32)) i => f_X0_advance_L30 rd t (f_X0_advance_X30 t) f s.1 (nI i) s.2) (kE := fun s => f_X0_advance_X30 t s.1 s.2) 12
    (fun i s => ∃ more : Bool, s.1 = b2 more ∧ (∀ k o, k < i → o < 32 → (bt (s.2 k) o = true ↔ o < 12 ∧ ctc hm rd (n + 1) k o = true)) ∧ (∀ k, i ≤ k → s.2 k = c k) ∧ (more = false → ∀ k o, k < i → o < 12 → ctc hm rd (n + 1) k o = ctc hm rd n k o))
    (fun f i s hi hs => by
      obtain ⟨x, cc⟩ := s
      obtain ⟨more, e3, h4, h5, h6⟩ := hs
      dsimp only at e3 h4 h5
      subst e3
      obtain ⟨w, k1, k2⟩ := anyt_ok ht (rd i ||| bI i)
      have hci : cc i = c i := h5 i (Nat.le_refl i)
      have hnew : ∀ o, o < 32 → (bt (c i ||| w) o = true ↔ o < 12 ∧ ctc hm rd (n + 1) i o = true) := by
        intro o ho
        rw [b_or, Bool.or_eq_true, hc i o hi ho, k2 o ho, ctc_s]
        constructor
        · rintro (⟨g1, g2⟩ | ⟨g1, p, g2, g3, g4⟩)
          · exact ⟨g1, Or.inl g2⟩
          · rw [moves_bt rd hi (by omega)] at g3
            exact ⟨g1, Or.inr ⟨p, g2, g3, g4⟩⟩
        · rintro ⟨g1, g2 | ⟨p, g2, g3, g4⟩⟩
          · exact Or.inl ⟨g1, g2⟩
          · exact Or.inr ⟨g1, p, g2, by rw [moves_bt rd hi (by omega)]; exact g3, g4⟩
      have hrow : ∀ k o, k < i + 1 → o < 32 → (bt (upd cc i (c i ||| w) k) o = true ↔ o < 12 ∧ ctc hm rd (n + 1) k o = true) := by
        intro k o hk ho
        by_cases e : k = i
        · rw [e, pk_us]; exact hnew o ho
        · rw [pk_un e]; exact h4 k o (by omega) ho
      have hrest : ∀ k, i + 1 ≤ k → upd cc i (c i ||| w) k = c k := fun k hk => by rw [pk_un (by omega)]; exact h5 k (by omega)
      show ∃ s' : Int32 × (Nat → Int32), _ ∧ f_X0_advance_L30 rd t (f_X0_advance_X30 t) (f + 1) (b2 more) (nI i) cc = f_X0_advance_L30 rd t (f_X0_advance_X30 t) f s'.1 (nI (i + 1)) s'.2
      rw [f_X0_advance_L30, if_neg (show ¬ (12 : Int32) ≤ nI i from nI_ge hi (by decide)), if_pos (ix_t hi (by decide)), moves_ok rd hi, bd_some, k1, bd_some, nI_clamp (by omega), nI_1, hci]
      by_cases g : (c i ||| w) = c i
      · rw [if_pos g]
        refine ⟨(b2 more, upd cc i (c i ||| w)), ⟨more, rfl, hrow, hrest, fun hmo k o hk ho => ?_⟩, rfl⟩
        by_cases e : k = i
        · rw [e]
          have a1 := hnew o (by omega)
          rw [g, hc i o hi (by omega)] at a1
          cases x1 : ctc hm rd (n + 1) i o <;> cases x2 : ctc hm rd n i o <;> simp_all
        · exact h6 hmo k o (by omega) ho
      · rw [if_neg g]
        exact ⟨(1, upd cc i (c i ||| w)), ⟨true, rfl, hrow, hrest, fun e => (by cases e)⟩, rfl⟩)
    (fun f s hs => by
      show f_X0_advance_L30 rd t (f_X0_advance_X30 t) (f + 1) s.1 (nI 12) s.2 = _
      rw [f_X0_advance_L30, if_pos (by decide)]) 5000 0 (0, c) (by decide) (by decide) ⟨false, rfl, fun k o hk => absurd hk (Nat.not_lt_zero k), fun k _ => rfl, fun _ k o hk => absurd hk (Nat.not_lt_zero k)⟩
  dsimp only at e3 h4 h7
  subst e3
  refine ⟨more, cc, t, Eq.trans h7 ?_, h4, ht, h6⟩
  unfold f_X0_advance_X30
  rw [if_pos (b2_nar _)]
