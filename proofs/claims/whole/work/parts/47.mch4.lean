def updN (T : Nat → Nat) (i v : Nat) : Nat → Nat := fun x => if x = i then v else T x
theorem sweep_ok {hm : Int32} {rd r0 : Nat → Int32} {T : Nat → Nat} {j : Nat} (hj : j < 999999) (hl : ∀ p, p < 12 → inR (rd p) 4096) (hT : Tab r0 T) (hs : Snd hm rd T) (hc : ∀ k o, k < 12 → o < 12 → Cmp hm rd j k o (T (12 * k + o))) (kE : Int32 → (Nat → Int32) → Option (Nat → Int32)) : ∃ (more : Bool) (r' : Nat → Int32) (T' : Nat → Nat), f_X10_layRounds_L52 hm rd kE 5000 0 0 r0 = kE (b2 more) r' ∧ Tab r' T' ∧ Snd hm rd T' ∧ (∀ k o, k < 12 → o < 12 → Cmp hm rd (j + 1) k o (T' (12 * k + o))) ∧ (more = false → ∀ x, x < 144 → T' x = T x) ∧ (more = false → ∀ k o, k < 12 → o < 12 → T (12 * k + o) = 0 ∨ T (12 * k + o) ≤ bsN hm rd T k o (T (12 * k + o)) 12) ∧ (more = true → ∃ y, y < 144 ∧ T' y < T y) := by
  obtain ⟨⟨x, r'⟩, ⟨more, U, e1, h1, h2, h3, h4, h5, h8, h9⟩, h6⟩ := lup (L := fun f (s : Int32 × (Nat → Int32)) i => f_X10_layRounds_L52 hm rd kE f s.1 (nI i) s.2) (kE := fun s => kE s.1 s.2) 144
    (fun i s => ∃ (more : Bool) (U : Nat → Nat), s.1 = b2 more ∧ Tab s.2 U ∧ (∀ x, x < 144 → U x ≤ T x) ∧ Snd hm rd U ∧ (∀ k o, k < 12 → o < 12 → 12 * k + o < i → Cmp hm rd (j + 1) k o (U (12 * k + o))) ∧ (more = false → ∀ x, x < 144 → U x = T x) ∧ (more = false → ∀ k o, k < 12 → o < 12 → 12 * k + o < i → T (12 * k + o) = 0 ∨ T (12 * k + o) ≤ bsN hm rd T k o (T (12 * k + o)) 12) ∧ (more = true → ∃ y, y < 144 ∧ U y < T y))
    (fun f i s hi hst => by
      obtain ⟨x, r⟩ := s
      obtain ⟨more, U, e1, h1, h2, h3, h4, h5, h8, h9⟩ := hst
      dsimp only at e1 h1
      subst e1
      obtain ⟨t1, t2⟩ := h1 i hi
      have hk : i / 12 < 12 := by omega
      have ho : i % 12 < 12 := by omega
      have hio : 12 * (i / 12) + i % 12 = i := by omega
      have hcU : ∀ k o, k < 12 → o < 12 → Cmp hm rd j k o (U (12 * k + o)) := fun k o hk ho m hm' h => Nat.le_trans (h2 _ (by omega)) (hc k o hk ho m hm' h)
      show ∃ s' : Int32 × (Nat → Int32), _ ∧ f_X10_layRounds_L52 hm rd kE (f + 1) (b2 more) (nI i) r = f_X10_layRounds_L52 hm rd kE f s'.1 (nI (i + 1)) s'.2
      rw [f_X10_layRounds_L52, if_neg (show ¬ (144 : Int32) ≤ nI i from nI_ge hi (by decide)), if_pos (ix_t hi (by decide)), nI_clamp (by omega), t1]
      by_cases g0 : U i = 0
      · rw [if_pos (by rw [g0]; decide), nI_1]
        refine ⟨(b2 more, r), ⟨more, U, rfl, h1, h2, h3, fun k o hk' ho' hlt => ?_, h5, fun hmo k o hk' ho' hlt => ?_, h9⟩, rfl⟩
        · by_cases e : 12 * k + o = i
          · rw [e, g0]; exact fun m _ _ => Nat.zero_le m
          · exact h4 k o hk' ho' (by omega)
        · by_cases e : 12 * k + o = i
          · left; rw [e, ← h5 hmo i hi, g0]
          · exact h8 hmo k o hk' ho' (by omega)
      · rw [if_neg (fun g => g0 (by have := (le_lit (a := 0) (k := U i) (by decide) (by omega)).mp g; omega)), l78_ok h1 hi]
        generalize hB : bsN hm rd U (i / 12) (i % 12) (U i) 12 = B
        have hB1 : B ≤ U i := by rw [← hB]; exact bsN_le 12
        have hsn : B < 1000000 → ctc hm rd B (i / 12) (i % 12) = true := by
          intro hlt
          have := bs_snd (hm := hm) hl h3 hk ho
          rw [hio, hB] at this
          exact this hlt
        have hcm : Cmp hm rd (j + 1) (i / 12) (i % 12) B := by
          have := bs_cmp hj hcU hk ho
          rw [hio, hB] at this
          exact this
        have hTab : Tab (upd r i (nI B)) (updN U i B) := by
          intro y hy
          unfold updN
          by_cases e : y = i
          · rw [e, pk_us, if_pos rfl]; exact ⟨rfl, by omega⟩
          · rw [pk_un e, if_neg e]; exact h1 y hy
        have hU2 : ∀ y, y < 144 → updN U i B y ≤ T y := by
          intro y hy
          unfold updN
          by_cases e : y = i
          · rw [e, if_pos rfl]; exact Nat.le_trans hB1 (h2 i hi)
          · rw [if_neg e]; exact h2 y hy
        have hS2 : Snd hm rd (updN U i B) := by
          intro k o hk' ho'
          unfold updN
          by_cases e : 12 * k + o = i
          · rw [if_pos e]
            have e1 : k = i / 12 := by omega
            have e2 : o = i % 12 := by omega
            rw [e1, e2]; exact hsn
          · rw [if_neg e]; exact h3 k o hk' ho'
        have hC2 : ∀ k o, k < 12 → o < 12 → 12 * k + o < i + 1 → Cmp hm rd (j + 1) k o (updN U i B (12 * k + o)) := by
          intro k o hk' ho' hlt
          unfold updN
          by_cases e : 12 * k + o = i
          · rw [if_pos e]
            have e1 : k = i / 12 := by omega
            have e2 : o = i % 12 := by omega
            rw [e1, e2]; exact hcm
          · rw [if_neg e]; exact h4 k o hk' ho' (by omega)
        unfold f_X10_layRounds_X78 f_X10_layRounds_B172 f_X10_layRounds_B177
        rw [nI_clamp (by omega), t1, nI_1]
        cases more with
        | true =>
          rw [if_t]
          refine ⟨(1, upd r i (nI B)), ⟨true, updN U i B, rfl, hTab, hU2, hS2, hC2, fun e => (by cases e), fun e => (by cases e), fun _ => ?_⟩, rfl⟩
          obtain ⟨y, y1, y2⟩ := h9 rfl
          refine ⟨y, y1, ?_⟩
          unfold updN
          by_cases e : y = i
          · rw [if_pos e]
            rw [e] at y2 ⊢
            omega
          · rw [if_neg e]; exact y2
        | false =>
          rw [if_f]
          by_cases g : U i ≤ B
          · rw [if_pos (nI_le g (by omega))]
            refine ⟨(0, upd r i (nI B)), ⟨false, updN U i B, rfl, hTab, hU2, hS2, hC2, fun _ y hy => ?_, fun _ k o hk' ho' hlt => ?_, fun e => (by cases e)⟩, rfl⟩
            · unfold updN
              by_cases e : y = i
              · rw [e, if_pos rfl, ← h5 rfl i hi]; omega
              · rw [if_neg e]; exact h5 rfl y hy
            · by_cases e : 12 * k + o = i
              · right
                have e1 : k = i / 12 := by omega
                have e2 : o = i % 12 := by omega
                rw [e, e1, e2, ← h5 rfl i hi, ← bsN_cong (h5 rfl) 12 (Nat.le_refl _), hB]
                exact g
              · exact h8 rfl k o hk' ho' (by omega)
          · rw [if_neg (nI_ge (by omega) (by omega))]
            refine ⟨(1, upd r i (nI B)), ⟨true, updN U i B, rfl, hTab, hU2, hS2, hC2, fun e => (by cases e), fun e => (by cases e), fun _ => ⟨i, hi, ?_⟩⟩, rfl⟩
            have h10 := h2 i hi
            unfold updN
            rw [if_pos rfl]
            omega)
    (fun f s hst => by
      show f_X10_layRounds_L52 hm rd kE (f + 1) s.1 (nI 144) s.2 = _
      rw [f_X10_layRounds_L52, if_pos (by decide)]) 5000 0 (0, r0) (by decide) (by decide) ⟨false, T, rfl, hT, fun x _ => Nat.le_refl _, hs, fun k o _ _ h => absurd h (Nat.not_lt_zero _), fun _ x _ => rfl, fun _ k o _ _ h => absurd h (Nat.not_lt_zero _), fun e => (by cases e)⟩
  dsimp only at e1 h1 h6
  subst e1
  exact ⟨more, r', U, h6, h1, h3, fun k o hk ho => h4 k o hk ho (by omega), h5, fun e k o hk ho => h8 e k o hk ho (by omega), h9⟩
