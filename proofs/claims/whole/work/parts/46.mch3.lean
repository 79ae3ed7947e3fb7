theorem byN_le (hm : Int32) (rd : Nat → Int32) (T : Nat → Nat) (p o : Nat) : byN hm rd T p o ≤ 1000000 := by
  unfold byN
  split
  · omega
  · split <;> omega
theorem l78_ok {hm : Int32} {rd r : Nat → Int32} {T : Nat → Nat} (hT : Tab r T) {i : Nat} (hi : i < 144) (kE : Int32 → Option (Nat → Int32)) : f_X10_layRounds_L78 hm rd (nI i) r kE 5000 (nI (T i)) 0 = kE (nI (bsN hm rd T (i / 12) (i % 12) (T i) 12)) := by
  have hq : i / 12 < 12 := by omega
  have hr : i % 12 < 12 := by omega
  have ed : nI i / (12 : Int32) = nI (i / 12) := pk_div (d := 12) (by omega) (by decide) (by decide)
  have er : nI i - nI i / (12 : Int32) * (12 : Int32) = nI (i % 12) := pk_rem (d := 12) (by omega) (by decide) (by decide)
  have hTi := (hT i hi).2
  obtain ⟨w, h1, h2⟩ := lup (L := fun f (s : Int32) p => f_X10_layRounds_L78 hm rd (nI i) r kE f s (nI p)) (kE := kE) 12 (fun p s => s = nI (bsN hm rd T (i / 12) (i % 12) (T i) p))
    (fun f p s hp hs => by
      subst hs
      refine ⟨_, rfl, ?_⟩
      show f_X10_layRounds_L78 hm rd (nI i) r kE (f + 1) (nI (bsN hm rd T (i / 12) (i % 12) (T i) p)) (nI p) = _
      have hl := bsN_le (hm := hm) (rd := rd) (T := T) (k := i / 12) (o := i % 12) (b0 := T i) p
      have hb := byN_le hm rd T p (i % 12)
      have key : ∀ b : Bool, b = mvB rd (i / 12) p → f_X10_layRounds_B116 hm rd (nI i) r (nI (bsN hm rd T (i / 12) (i % 12) (T i) p)) (nI p) (f_X10_layRounds_L78 hm rd (nI i) r kE f) (b2 b) = f_X10_layRounds_L78 hm rd (nI i) r kE f (nI (bsN hm rd T (i / 12) (i % 12) (T i) (p + 1))) (nI (p + 1)) := by
        intro b hb'
        unfold f_X10_layRounds_B116
        rw [bsN, ← hb', nI_1]
        cases b with
        | false => rw [if_f, if_neg (fun e => by cases e.1)]
        | true =>
          rw [if_t, er, by_ok hT hp hr, bd_some, bd_some]
          by_cases g : bsN hm rd T (i / 12) (i % 12) (T i) p ≤ byN hm rd T p (i % 12)
          · rw [if_pos (nI_le g (by omega)), if_neg (fun e => by have := e.2; omega)]
          · rw [if_neg (nI_ge (by omega) (by omega)), if_pos ⟨rfl, by omega⟩]
      have k1 := key true
      have k0 := key false
      rw [b2_t] at k1
      rw [b2_f] at k0
      rw [f_X10_layRounds_L78, if_neg (show ¬ (12 : Int32) ≤ nI p from nI_ge hp (by decide)), ed]
      unfold f_X10_layRounds_B111
      by_cases e : p = i / 12
      · rw [if_pos (by rw [e])]
        exact k1 (by rw [e]; exact (mvB_self rd _).symm)
      · rw [if_neg (fun g => e (nI_inj' (by omega) (by omega) g)), if_pos (ix_t hq (by decide)), nI_clamp (by omega), has_ok _ (by omega), bd_some]
        have hmv : mvB rd (i / 12) p = bt (rd (i / 12)) p := by
          unfold mvB
          rw [decide_eq_false e]; rfl
        cases g : bt (rd (i / 12)) p with
        | false => rw [if_f]; exact k0 (by rw [hmv, g])
        | true => rw [if_t]; exact k1 (by rw [hmv, g]))
    (fun f s hs => by
      show f_X10_layRounds_L78 hm rd (nI i) r kE (f + 1) s (nI 12) = _
      rw [f_X10_layRounds_L78, if_pos (by decide)]) 5000 0 (nI (T i)) (by decide) (by decide) rfl
  rw [h1] at h2
  exact h2
