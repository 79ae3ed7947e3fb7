theorem lay_start (hm : Int32) (kE : (Nat → Int32) → Option (Nat → Int32)) (r0 : Nat → Int32) : ∃ r, (∀ i, i < 144 → r i = nI (if tch hm (i / 12) (i % 12) then 0 else 1000000)) ∧ f_X10_layRounds_L2 hm kE 5000 0 r0 = kE r := by
  obtain ⟨r, h1, h2⟩ := lup (L := fun f (s : Nat → Int32) i => f_X10_layRounds_L2 hm kE f (nI i) s) (kE := kE) 144 (fun i s => ∀ x, x < i → s x = nI (if tch hm (x / 12) (x % 12) then 0 else 1000000))
    (fun f i s hi hs => by
      have ed : nI i / (12 : Int32) = nI (i / 12) := pk_div (d := 12) (by omega) (by decide) (by decide)
      have er : nI i - nI i / (12 : Int32) * (12 : Int32) = nI (i % 12) := pk_rem (d := 12) (by omega) (by decide) (by decide)
      refine ⟨upd s i (nI (if tch hm (i / 12) (i % 12) then 0 else 1000000)), fun x hx => ?_, ?_⟩
      · by_cases e : x = i
        · rw [e, pk_us]
        · rw [pk_un e]; exact hs x (by omega)
      · show f_X10_layRounds_L2 hm kE (f + 1) (nI i) s = _
        rw [f_X10_layRounds_L2, if_neg (show ¬ (144 : Int32) ≤ nI i from nI_ge hi (by decide)), er, ed, ist_ok hm (by omega) (by omega), bd_some, nI_1, nI_clamp (by omega)]
        cases tch hm (i / 12) (i % 12) with
        | false => rw [if_f, if_pos (ix_t hi (by decide))]; rfl
        | true => rw [if_t, if_pos (ix_t hi (by decide))]; rfl)
    (fun f s hs => by
      show f_X10_layRounds_L2 hm kE (f + 1) (nI 144) s = _
      rw [f_X10_layRounds_L2, if_pos (by decide)]) 5000 0 r0 (by decide) (by decide) (fun x hx => absurd hx (Nat.not_lt_zero x))
  exact ⟨r, h1, h2⟩
def fT (hm : Int32) (rd : Nat → Int32) (k o : Nat) : Nat := if vN hm rd k o ≤ 144 then vN hm rd k o else 1000000
/-- sound, and complete up to 144: the table is exact -/
theorem exact_T {hm : Int32} {rd r : Nat → Int32} {T : Nat → Nat} (hT : Tab r T) (hs : Snd hm rd T) (hc : ∀ k o, k < 12 → o < 12 → Cmp hm rd 144 k o (T (12 * k + o))) {k o : Nat} (hk : k < 12) (ho : o < 12) : T (12 * k + o) = fT hm rd k o := by
  have h1 := (hT (12 * k + o) (by omega)).2
  unfold fT
  by_cases g : vN hm rd k o ≤ 144
  · rw [if_pos g]
    have h2 := hc k o hk ho (vN hm rd k o) g ((vN_iff g).mpr (Nat.le_refl _))
    have h3 := hs k o hk ho (by omega)
    have h4 := (vN_iff (n := T (12 * k + o)) (by omega)).mp h3
    omega
  · rw [if_neg g]
    have hv : vN hm rd k o = 145 := by have := vN_le hm rd k o; omega
    rcases Nat.lt_or_ge (T (12 * k + o)) 1000000 with q | q
    · have h3 := hs k o hk ho q
      rw [vN_never hk ho hv] at h3
      cases h3
    · omega
theorem cmp_all {hm : Int32} {rd r : Nat → Int32} {T : Nat → Nat} (hl : ∀ p, p < 12 → inR (rd p) 4096) (hT : Tab r T) (hs : Snd hm rd T) {j : Nat} (hc : ∀ k o, k < 12 → o < 12 → Cmp hm rd j k o (T (12 * k + o))) (fix : ∀ j', j' < 999999 → (∀ k o, k < 12 → o < 12 → Cmp hm rd j' k o (T (12 * k + o))) → ∀ k o, k < 12 → o < 12 → Cmp hm rd (j' + 1) k o (T (12 * k + o))) : ∀ d, j + d < 1000 → ∀ k o, k < 12 → o < 12 → Cmp hm rd (j + d) k o (T (12 * k + o)) := by
  intro d
  induction d with
  | zero => intro _; exact hc
  | succ d ih => intro h; exact fix (j + d) (by omega) (ih (by omega))
