theorem mbN_cong {rd : Nat → Int32} {T U : Nat → Nat} (h : ∀ x, x < 144 → U x = T x) {p o : Nat} (hp : p < 12) : ∀ i, i ≤ 12 → mbN rd U p o i = mbN rd T p o i := by
  intro i
  induction i with
  | zero => intro _; rfl
  | succ i ih => intro hi; rw [mbN, mbN, ih (by omega), h (12 * p + i) (by omega)]
theorem byN_cong {hm : Int32} {rd : Nat → Int32} {T U : Nat → Nat} (h : ∀ x, x < 144 → U x = T x) {p o : Nat} (hp : p < 12) : byN hm rd U p o = byN hm rd T p o := by
  unfold byN
  rw [mbN_cong h hp 12 (Nat.le_refl _)]
theorem bsN_cong {hm : Int32} {rd : Nat → Int32} {T U : Nat → Nat} (h : ∀ x, x < 144 → U x = T x) {k o b0 : Nat} : ∀ i, i ≤ 12 → bsN hm rd U k o b0 i = bsN hm rd T k o b0 i := by
  intro i
  induction i with
  | zero => intro _; rfl
  | succ i ih => intro hi; rw [bsN, bsN, ih (by omega), byN_cong h (by omega)]
