def bsN (hm : Int32) (rd : Nat → Int32) (T : Nat → Nat) (k o b0 : Nat) : Nat → Nat
  | 0 => b0
  | p + 1 => if mvB rd k p = true ∧ byN hm rd T p o < bsN hm rd T k o b0 p then byN hm rd T p o else bsN hm rd T k o b0 p
theorem bsN_le {hm : Int32} {rd : Nat → Int32} {T : Nat → Nat} {k o b0 : Nat} : ∀ i, bsN hm rd T k o b0 i ≤ b0 := by
  intro i
  induction i with
  | zero => exact Nat.le_refl _
  | succ i ih =>
    rw [bsN]
    split
    · rename_i g; omega
    · exact ih
theorem bsN_up {hm : Int32} {rd : Nat → Int32} {T : Nat → Nat} {k o b0 : Nat} : ∀ i p, p < i → mvB rd k p = true → bsN hm rd T k o b0 i ≤ byN hm rd T p o := by
  intro i
  induction i with
  | zero => intro p h; omega
  | succ i ih =>
    intro p h hmv
    rw [bsN]
    by_cases e : p = i
    · rw [e] at hmv ⊢
      split
      · exact Nat.le_refl _
      · rename_i g
        have : ¬ byN hm rd T i o < bsN hm rd T k o b0 i := fun g2 => g ⟨hmv, g2⟩
        omega
    · have := ih p (by omega) hmv
      split
      · rename_i g; omega
      · exact this
theorem bsN_cs {hm : Int32} {rd : Nat → Int32} {T : Nat → Nat} {k o b0 : Nat} : ∀ i, bsN hm rd T k o b0 i = b0 ∨ ∃ p, p < i ∧ mvB rd k p = true ∧ bsN hm rd T k o b0 i = byN hm rd T p o := by
  intro i
  induction i with
  | zero => exact Or.inl rfl
  | succ i ih =>
    rw [bsN]
    split
    · rename_i g; exact Or.inr ⟨i, by omega, g.1, rfl⟩
    · rcases ih with h | ⟨p, h1, h2⟩
      · exact Or.inl h
      · exact Or.inr ⟨p, by omega, h2⟩
def Snd (hm : Int32) (rd : Nat → Int32) (T : Nat → Nat) : Prop := ∀ k o, k < 12 → o < 12 → T (12 * k + o) < 1000000 → ctc hm rd (T (12 * k + o)) k o = true
def Cmp (hm : Int32) (rd : Nat → Int32) (j : Nat) (k o v : Nat) : Prop := ∀ m, m ≤ j → ctc hm rd m k o = true → v ≤ m
/-- one entry's new value is sound -/
theorem bs_snd {hm : Int32} {rd : Nat → Int32} {T : Nat → Nat} (hl : ∀ p, p < 12 → inR (rd p) 4096) (hs : Snd hm rd T) {k o : Nat} (hk : k < 12) (ho : o < 12) (h : bsN hm rd T k o (T (12 * k + o)) 12 < 1000000) : ctc hm rd (bsN hm rd T k o (T (12 * k + o)) 12) k o = true := by
  rcases bsN_cs (hm := hm) (rd := rd) (T := T) (k := k) (o := o) (b0 := T (12 * k + o)) 12 with e | ⟨p, hp, hmv, e⟩
  · rw [e] at h ⊢
    exact hs k o hk ho h
  · rw [e] at h ⊢
    unfold byN at h ⊢
    cases g : tch hm p o with
    | true =>
      rw [if_pos rfl]
      exact (ctc_s hm rd 0 k o).mpr (Or.inr ⟨p, hp, hmv, (trp_iff hm rd _ p o).mpr (Or.inl g)⟩)
    | false =>
      rw [g, if_neg Bool.false_ne_true] at h
      rw [if_neg Bool.false_ne_true]
      by_cases g2 : mbN rd T p o 12 + 1 ≤ 1000000
      · rw [if_pos g2] at h ⊢
        refine (ctc_s hm rd _ k o).mpr (Or.inr ⟨p, hp, hmv, (trp_iff hm rd _ p o).mpr (Or.inr (fun q hq hq2 => ?_))⟩)
        have h1 := mbN_iff.mp (Nat.le_refl (mbN rd T p o 12)) q hq hq2
        have h2 := ctc_up (mbN rd T p o 12 - T (12 * p + q)) (hs p q hp hq (by omega))
        rw [show T (12 * p + q) + (mbN rd T p o 12 - T (12 * p + q)) = mbN rd T p o 12 by omega] at h2
        exact h2
      · rw [if_neg g2] at h
        omega
/-- and one round more complete than the table that it is read from -/
theorem bs_cmp {hm : Int32} {rd : Nat → Int32} {T : Nat → Nat} {j : Nat} (hj : j < 999999) (hc : ∀ k o, k < 12 → o < 12 → Cmp hm rd j k o (T (12 * k + o))) {k o : Nat} (hk : k < 12) (ho : o < 12) : Cmp hm rd (j + 1) k o (bsN hm rd T k o (T (12 * k + o)) 12) := by
  intro m hm' h
  have hle := bsN_le (hm := hm) (rd := rd) (T := T) (k := k) (o := o) (b0 := T (12 * k + o)) 12
  rcases Nat.lt_or_ge j m with g | g
  · obtain rfl : m = j + 1 := by omega
    rcases (ctc_s hm rd j k o).mp h with h1 | ⟨p, hp, hmv, h1⟩
    · have := hc k o hk ho j (Nat.le_refl j) h1
      omega
    · have hu := bsN_up (hm := hm) (rd := rd) (T := T) (k := k) (o := o) (b0 := T (12 * k + o)) 12 p hp hmv
      have hb : byN hm rd T p o ≤ j + 1 := by
        unfold byN
        rcases (trp_iff hm rd _ p o).mp h1 with h2 | h2
        · rw [h2, if_pos rfl]; omega
        · have h3 : mbN rd T p o 12 ≤ j := mbN_iff.mpr (fun q hq hq2 => hc p q hp hq j (Nat.le_refl j) (h2 q hq hq2))
          split
          · omega
          · split <;> omega
      omega
  · have := hc k o hk ho m g h
    omega
