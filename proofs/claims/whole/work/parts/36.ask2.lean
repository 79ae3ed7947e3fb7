theorem mxl_up {f : Nat → Nat} : ∀ n k, k < n → f k ≤ mxl f n := by
  intro n
  induction n with
  | zero => intro k h; omega
  | succ n ih =>
    intro k h
    rw [mxl]
    by_cases e : k = n
    · subst e; split <;> omega
    · have := ih k (by omega)
      split <;> omega
theorem mxl_ub {f : Nat → Nat} {b : Nat} : ∀ n, (∀ k, k < n → f k ≤ b) → mxl f n ≤ b := by
  intro n
  induction n with
  | zero => intro _; exact Nat.zero_le _
  | succ n ih =>
    intro h
    rw [mxl]
    have h1 := ih (fun k hk => h k (by omega))
    have h2 := h n (by omega)
    split <;> omega
theorem mxl_inc {f g : Nat → Nat} {n d : Nat} (hd : d < n) (h1 : g d = f d + 1) (h2 : ∀ k, k ≠ d → g k = f k) : mxl g n = if g d ≤ mxl f n then mxl f n else g d := by
  have a1 : mxl f n ≤ mxl g n := mxl_ub n (fun k hk => by
    have := mxl_up (f := g) n k hk
    by_cases e : k = d
    · rw [e] at this ⊢; omega
    · rw [h2 k e] at this; exact this)
  have a2 : g d ≤ mxl g n := mxl_up n d hd
  have a3 : mxl g n ≤ (if g d ≤ mxl f n then mxl f n else g d) := mxl_ub n (fun k hk => by
    have := mxl_up (f := f) n k hk
    by_cases e : k = d
    · rw [e]; split <;> omega
    · rw [h2 k e]; split <;> omega)
  split
  · rename_i g1
    rw [if_pos g1] at a3
    omega
  · rename_i g1
    rw [if_neg g1] at a3
    omega
theorem mxl_cong {f g : Nat → Nat} (h : ∀ k, f k = g k) (n : Nat) : mxl f n = mxl g n := by
  rw [show f = g from funext h]
theorem mask_z (kE : (Nat → Int32) → Option (Int32 × (Nat → Int32) × (Nat → Int32))) (c0 : Nat → Int32) : ∃ c, (∀ d, d < 13 → c d = 0) ∧ f_X10_ask_L44 kE 5000 0 c0 = kE c := by
  obtain ⟨c, h1, h2⟩ := lup (L := fun f (s : Nat → Int32) i => f_X10_ask_L44 kE f (nI i) s) (kE := kE) 13 (fun i s => ∀ d, d < i → s d = 0)
    (fun f i s hi hs => ⟨upd s i 0, fun d hd => by
        by_cases e : d = i
        · rw [e, pk_us]
        · rw [pk_un e]; exact hs d (by omega), by
      show f_X10_ask_L44 kE (f + 1) (nI i) s = _
      rw [f_X10_ask_L44, if_neg (show ¬ (13 : Int32) ≤ nI i from nI_ge hi (by decide)), if_pos (ix_t hi (by decide)), nI_clamp (by omega), nI_1]⟩)
    (fun f s hs => by
      show f_X10_ask_L44 kE (f + 1) (nI 13) s = _
      rw [f_X10_ask_L44, if_pos (by decide)]) 5000 0 c0 (by decide) (by decide) (fun d hd => absurd hd (Nat.not_lt_zero d))
  exact ⟨c, h1, h2⟩
theorem mask_q {rd ap : Nat → Int32} {w : Int32} (hap : ∀ p q, p < 12 → q < 12 → ap (12 * p + q) = nI (fw rd 12 p q)) {p : Nat} (hp : p < 12) (kE : Int32 → (Nat → Int32) → Option (Int32 × (Nat → Int32) × (Nat → Int32))) {c0 : Nat → Int32} (h0 : ∀ d, d < 13 → c0 d = 0) : ∃ c, f_X10_ask_L68 (w, ap) (nI p) kE 5000 0 0 c0 = kE (nI (mL rd w p)) c := by
  obtain ⟨⟨x, c⟩, ⟨h1, h2⟩, h3⟩ := lup (L := fun f (s : Int32 × (Nat → Int32)) i => f_X10_ask_L68 (w, ap) (nI p) kE f s.1 (nI i) s.2) (kE := fun s => kE s.1 s.2) 12
    (fun i s => s.1 = nI (mxl (cnd rd w p i) 13) ∧ ∀ d, d < 13 → s.2 d = nI (cnd rd w p i d))
    (fun f i s hi hs => by
      obtain ⟨x, c⟩ := s
      obtain ⟨e1, e2⟩ := hs
      dsimp only at e1 e2
      subst e1
      show ∃ s' : Int32 × (Nat → Int32), _ ∧ f_X10_ask_L68 (w, ap) (nI p) kE (f + 1) (nI (mxl (cnd rd w p i) 13)) (nI i) c = f_X10_ask_L68 (w, ap) (nI p) kE f s'.1 (nI (i + 1)) s'.2
      rw [f_X10_ask_L68, if_neg (show ¬ (12 : Int32) ≤ nI i from nI_ge hi (by decide))]
      dsimp only
      rw [has_ok w (by omega), bd_some]
      cases g : bt w i with
      | false =>
        have ec : ∀ d, cnd rd w p (i + 1) d = cnd rd w p i d := fun d => by
          unfold cnd
          rw [fb_ct_succ, g]
          rfl
        rw [if_f, nI_1]
        exact ⟨(nI (mxl (cnd rd w p i) 13), c), ⟨by rw [mxl_cong ec 13], fun d hd => by rw [ec d]; exact e2 d hd⟩, rfl⟩
      | true =>
        have hfl := fw_le rd 12 p i
        have hcl : cls rd p i < 13 := by
          unfold cls
          split <;> omega
        have ec : cnd rd w p (i + 1) (cls rd p i) = cnd rd w p i (cls rd p i) + 1 := by
          unfold cnd
          rw [fb_ct_succ, g]
          simp
        have en : ∀ d, d ≠ cls rd p i → cnd rd w p (i + 1) d = cnd rd w p i d := fun d hd => by
          unfold cnd
          rw [fb_ct_succ, g, decide_eq_false (fun e => hd e.symm)]
          rfl
        have hl := cnd_le rd w p (i + 1) (cls rd p i)
        have hm := mxl_le (fun d => cnd_le rd w p i d) 13
        rw [if_t]
        simp only [m_12, nI_add]
        rw [if_pos (ix_t (by omega) (by decide)), nI_clamp (show 12 * p + i < 2 ^ 31 by omega), hap p i hp hi]
        have key : ∀ v : Int32, v = nI (cls rd p i) → ∃ s' : Int32 × (Nat → Int32), (s'.1 = nI (mxl (cnd rd w p (i + 1)) 13) ∧ ∀ d, d < 13 → s'.2 d = nI (cnd rd w p (i + 1) d)) ∧ f_X10_ask_B120 (nI (mxl (cnd rd w p i) 13)) (nI i) c (f_X10_ask_L68 (w, ap) (nI p) kE f) v = f_X10_ask_L68 (w, ap) (nI p) kE f s'.1 (nI (i + 1)) s'.2 := by
          intro v hv
          subst hv
          unfold f_X10_ask_B120
          rw [if_pos (ix_t hcl (by decide)), nI_clamp (show cls rd p i < 2 ^ 31 by omega), pk_us, e2 _ hcl, p_1, nI_1, ← ec]
          have hc : ∀ d, d < 13 → upd c (cls rd p i) (nI (cnd rd w p (i + 1) (cls rd p i))) d = nI (cnd rd w p (i + 1) d) := fun d hd => by
            by_cases e : d = cls rd p i
            · rw [e, pk_us]
            · rw [pk_un e, en d e]; exact e2 d hd
          have hmx := mxl_inc (f := cnd rd w p i) (g := cnd rd w p (i + 1)) hcl ec en
          by_cases g1 : cnd rd w p (i + 1) (cls rd p i) ≤ mxl (cnd rd w p i) 13
          · rw [if_pos (nI_le g1 (by omega))]
            rw [if_pos g1] at hmx
            exact ⟨(_, _), ⟨by rw [hmx]; rfl, hc⟩, rfl⟩
          · rw [if_neg (nI_ge (by omega) (by omega))]
            rw [if_neg g1] at hmx
            exact ⟨(_, _), ⟨by rw [hmx]; rfl, hc⟩, rfl⟩
        by_cases g1 : 12 ≤ fw rd 12 p i
        · rw [if_pos ((lit_le (a := 12) (by decide) (by omega)).mpr g1)]
          exact key _ (by unfold cls; rw [if_neg (by omega)]; rfl)
        · rw [if_neg (fun e => g1 ((lit_le (a := 12) (by decide) (by omega)).mp e))]
          exact key _ (by unfold cls; rw [if_pos (by omega)]))
    (fun f s hs => by
      show f_X10_ask_L68 (w, ap) (nI p) kE (f + 1) s.1 (nI 12) s.2 = _
      rw [f_X10_ask_L68, if_pos (by decide)]) 5000 0 (0, c0) (by decide) (by decide) ⟨by
        have : mxl (cnd rd w p 0) 13 = 0 := Nat.le_antisymm (mxl_ub 13 (fun k _ => cnd_le rd w p 0 k)) (Nat.zero_le _)
        rw [this]; rfl, fun d hd => h0 d hd⟩
  dsimp only at h1 h3
  rw [h1] at h3
  exact ⟨c, h3⟩
theorem mask_loop {rd ap : Nat → Int32} {w : Int32} (hap : ∀ p q, p < 12 → q < 12 → ap (12 * p + q) = nI (fw rd 12 p q)) (hw : ¬ w = 0) (kE : Int32 → Int32 → (Nat → Int32) → Option (Int32 × (Nat → Int32) × (Nat → Int32))) (c0 : Nat → Int32) : ∃ c, f_X10_ask_L27 (w, ap) kE 5000 (-6) 1000000 0 c0 = kE (nI (bst (mL rd w) 11).1) (nI (bst (mL rd w) 11).2) c := by
  have step : ∀ (n p : Nat) (x y : Int32) (c : Nat → Int32), p < 12 → ∃ c', f_X10_ask_L27 (w, ap) kE (n + 1) x y (nI p) c = (if y ≤ nI (mL rd w p) then f_X10_ask_L27 (w, ap) kE n x y (nI (p + 1)) c' else f_X10_ask_L27 (w, ap) kE n (nI p) (nI (mL rd w p)) (nI (p + 1)) c') := by
    intro n p x y c hp
    rw [f_X10_ask_L27, if_neg (show ¬ (12 : Int32) ≤ nI p from nI_ge hp (by decide))]
    dsimp only
    rw [if_neg hw]
    obtain ⟨c1, k1, k2⟩ := mask_z (f_X10_ask_X44 (w, ap) x y (nI p) (f_X10_ask_L27 (w, ap) kE n)) c
    rw [k2]
    unfold f_X10_ask_X44
    obtain ⟨c2, k3⟩ := mask_q (w := w) hap hp (f_X10_ask_X68 x y (nI p) (f_X10_ask_L27 (w, ap) kE n)) k1
    refine ⟨c2, k3.trans ?_⟩
    unfold f_X10_ask_X68 f_X10_ask_B178
    by_cases g : y ≤ nI (mL rd w p)
    · rw [if_pos g, if_pos g, if_pos g, nI_1]
    · rw [if_neg g, if_neg g, if_neg g, nI_1]
  obtain ⟨c1, k1⟩ := step 4999 0 (-6) 1000000 c0 (by decide)
  have l0 := mL_le rd w 0
  rw [if_neg (fun e => by have := (lit_le (a := 1000000) (by decide) (by omega)).mp e; omega)] at k1
  obtain ⟨⟨x, y, c⟩, ⟨h1, h2⟩, h3⟩ := lup (L := fun f (s : Int32 × Int32 × (Nat → Int32)) i => f_X10_ask_L27 (w, ap) kE f s.1 s.2.1 (nI (i + 1)) s.2.2) (kE := fun s => kE s.1 s.2.1 s.2.2) 11
    (fun i s => s.1 = nI (bst (mL rd w) i).1 ∧ s.2.1 = nI (bst (mL rd w) i).2)
    (fun f i s hi hs => by
      obtain ⟨x, y, c⟩ := s
      obtain ⟨e1, e2⟩ := hs
      dsimp only at e1 e2
      subst e1
      subst e2
      have l1 := (bst_le (mL_le rd w) i).2
      have l2 := mL_le rd w (i + 1)
      obtain ⟨c', k⟩ := step f (i + 1) (nI (bst (mL rd w) i).1) (nI (bst (mL rd w) i).2) c (by omega)
      refine ⟨(nI (bst (mL rd w) (i + 1)).1, nI (bst (mL rd w) (i + 1)).2, c'), ⟨rfl, rfl⟩, ?_⟩
      refine Eq.trans k ?_
      dsimp only
      rw [bst]
      by_cases g : (bst (mL rd w) i).2 ≤ mL rd w (i + 1)
      · rw [if_pos (nI_le g (by omega)), if_pos g]
      · rw [if_neg (nI_ge (by omega) (by omega)), if_neg g])
    (fun f s hs => by
      show f_X10_ask_L27 (w, ap) kE (f + 1) s.1 s.2.1 (nI 12) s.2.2 = _
      rw [f_X10_ask_L27, if_pos (by decide)]) 4999 0 (nI 0, nI (mL rd w 0), c1) (by decide) (by decide) ⟨rfl, rfl⟩
  dsimp only at h1 h2 h3
  rw [h1, h2] at h3
  exact ⟨c, k1.trans h3⟩
theorem ok_ask : OK_ask := by
  intro hm rd he cr kg la mi pl br rg sz fs sc nr ss fr tt mrd mhm th bk me mt si sg pz ps ms mp hR hQ ap0 ct p1
  obtain ⟨w, ap, e1, e2, e3, e4⟩ := lair_eq hR ap0
  have t0 : (0 : Int32).toInt = 0 := rfl
  have t1 : (1 : Int32).toInt = 1 := rfl
  unfold f_X9_ask f_X10_ask
  rw [in_ok, bd_some]
  by_cases g1 : p1 < 0
  · have := rg_lo.mp g1
    rw [if_pos g1, decide_eq_false (by omega), if_f]
    exact ⟨_, _, rfl, rfl, rfl, hR, hQ⟩
  · have g1' := n_lo g1
    rw [if_neg g1]
    by_cases g2 : p1 ≤ 1
    · have := rg_le.mp g2
      rw [if_pos g2, decide_eq_true (by omega), if_t, e1, bd_some, e2, bd_some]
      by_cases g3 : w = 0
      · subst g3
        rw [if_pos rfl, f_X10_ask_L27, if_neg (show ¬ (12 : Int32) ≤ 0 by decide)]
        dsimp only
        rw [if_pos rfl]
        unfold f_X10_ask_X27
        rw [if_pos (by decide)]
        exact ⟨_, _, rfl, rfl, rfl, hR, hQ⟩
      · rw [if_neg g3, show f_X2_mostLeft rd 0 w = _ from most_ok (p := 0) e4 (by decide), bd_some, cask_loop e4]
        obtain ⟨c, k⟩ := mask_loop e3 g3 (f_X10_ask_X27 p1 (w, ap)) ct
        rw [k]
        obtain ⟨b1, b2'⟩ := bst_le (mL_le rd w) 11
        generalize bst (mL rd w) 11 = z at b1 b2'
        unfold f_X9_ask_X56 f_X10_ask_X27
        rw [if_neg (nI_pos (by omega))]
        by_cases g4 : p1 = 0
        · rw [if_pos g4, if_pos g4]
          exact ⟨_, _, rfl, rfl, rfl, hR, hQ⟩
        · rw [if_neg g4, if_neg g4]
          exact ⟨_, _, rfl, rfl, rfl, hR, hQ⟩
    · have := n_le g2
      rw [if_neg g2, decide_eq_false (by omega), if_f]
      exact ⟨_, _, rfl, rfl, rfl, hR, hQ⟩
