/-! shade -/
theorem with_ok (rd : Nat → Int32) (p r : Nat) (hr : r < 12) : f_X2_within rd (nI p) (nI r) = some (rcs rd p r) := by
  unfold f_X2_within
  obtain ⟨w, h1, h2⟩ := lup (L := fun f (s : Int32) i => f_X2_within_L7 rd (nI r) f_X2_within_X7 f s (nI i)) (kE := f_X2_within_X7) r (fun i s => s = rcs rd p i)
    (fun f i s hi hs => ⟨rcs rd p (i + 1), rfl, by
      show f_X2_within_L7 rd (nI r) f_X2_within_X7 (f + 1) s (nI i) = _
      rw [f_X2_within_L7, if_neg (nI_ge hi (by omega)), hs, wd_ok, bd_some, nI_1]
      rfl⟩)
    (fun f s hs => by
      show f_X2_within_L7 rd (nI r) f_X2_within_X7 (f + 1) s (nI r) = _
      rw [f_X2_within_L7, if_pos (nI_le (Nat.le_refl r) (by omega))]) 5000 0 (bI p) (by omega) (by omega) rfl
  refine Eq.trans h2 ?_
  rw [h1]
  rfl
/-- all places are within r of the set -/
def cov (rd : Nat → Int32) (r : Nat) (s : Nat) : Prop := ∀ p, p < 12 → ∃ h, h < 12 ∧ s.testBit h = true ∧ fw rd 12 p h ≤ r
theorem and_0 {x y : Int32} : (x &&& y) = 0 ↔ ∀ j, j < 32 → ¬ (bt x j = true ∧ bt y j = true) := by
  constructor
  · intro h j _ ⟨h1, h2⟩
    have : bt (x &&& y) j = true := by rw [b_and, h1, h2]; rfl
    rw [h, b_0] at this
    cases this
  · intro h
    apply b_ext
    intro j hj
    rw [b_0, b_and]
    have := h j hj
    cases h1 : bt x j <;> cases h2 : bt y j <;> simp_all
theorem near_ok {rd near : Nat → Int32} (hl : LandOK rd) {r : Nat} (hr : r < 12) (hn : ∀ p, p < 12 → near p = rcs rd p r) {s : Nat} (hs : s < 4096) : ∃ b : Bool, f_X6_isNearAll near (nI s) = some (b2 b) ∧ (b = true ↔ cov rd r s) := by
  have hbit : ∀ j, j < 32 → bt (nI s) j = s.testBit j := fun j hj => by rw [bt_nI, decide_eq_true hj, Bool.true_and]
  have one : ∀ p, p < 12 → ((near p &&& nI s) = 0 ↔ ¬ ∃ h, h < 12 ∧ s.testBit h = true ∧ fw rd 12 p h ≤ r) := by
    intro p hp
    rw [hn p hp, and_0]
    constructor
    · rintro h ⟨q, hq, h1, h2⟩
      exact h q (by omega) ⟨(fw_iff hp hq (by omega)).mpr h2, by rw [hbit q (by omega)]; exact h1⟩
    · intro h j hj ⟨h1, h2⟩
      have hj2 := Rk_lt hl.1 hp r h1
      exact h ⟨j, hj2, by rw [← hbit j hj]; exact h2, (fw_iff hp hj2 (by omega)).mp h1⟩
  have loop : ∀ (d i fuel : Nat), i + d = 12 → d < fuel → (∀ p, p < i → ∃ h, h < 12 ∧ s.testBit h = true ∧ fw rd 12 p h ≤ r) → ∃ b : Bool, f_X6_isNearAll_L2 near (nI s) f_X6_isNearAll_X2 fuel (nI i) = some (b2 b) ∧ (b = true ↔ cov rd r s) := by
    intro d
    induction d with
    | zero =>
      intro i fuel hi hf h
      obtain ⟨n, rfl⟩ : ∃ n, fuel = n + 1 := ⟨fuel - 1, by omega⟩
      obtain rfl : i = 12 := by omega
      rw [f_X6_isNearAll_L2, if_pos (by decide)]
      exact ⟨true, rfl, fun _ => h, fun _ => rfl⟩
    | succ d ih =>
      intro i fuel hi hf h
      obtain ⟨n, rfl⟩ : ∃ n, fuel = n + 1 := ⟨fuel - 1, by omega⟩
      rw [f_X6_isNearAll_L2, if_neg (show ¬ (12 : Int32) ≤ nI i from nI_ge (a := i) (b := 12) (by omega) (by decide)), if_pos (ix_t (by omega) (by decide)), nI_clamp (by omega)]
      by_cases g : (near i &&& nI s) = 0
      · rw [if_pos g]
        exact ⟨false, rfl, fun e => (by cases e), fun e => absurd (e i (by omega)) ((one i (by omega)).mp g)⟩
      · rw [if_neg g, nI_1]
        refine ih (i + 1) n (by omega) (by omega) (fun p hp => ?_)
        by_cases e : p = i
        · rw [e]; exact Classical.byContradiction (fun g2 => g ((one i (by omega)).mpr g2))
        · exact h p (by omega)
  exact loop 12 0 5000 (by decide) (by decide) (fun p hp => absurd hp (Nat.not_lt_zero p))
theorem mcov_p {md ap : Nat → Int32} (hap : ∀ p q, p < 12 → q < 12 → ap (12 * p + q) = nI (fw md 12 p q)) {r : Nat} (hr : r < 12) {s : Nat} (hs : s < 4096) {p : Nat} (hp : p < 12) (kE : Int32 → Option (Int32 × (Nat → Int32))) : ∃ b : Bool, f_X10_shade_L81 (nI r) ap (nI s) (nI p) kE 5000 0 0 = kE (b2 b) ∧ (b = true ↔ ∃ h, h < 12 ∧ s.testBit h = true ∧ fw md 12 p h ≤ r) := by
  have hbit : ∀ j, j < 32 → bt (nI s) j = s.testBit j := fun j hj => by rw [bt_nI, decide_eq_true hj, Bool.true_and]
  obtain ⟨w, ⟨b, rfl, h1⟩, h2⟩ := lup (L := fun f (x : Int32) i => f_X10_shade_L81 (nI r) ap (nI s) (nI p) kE f x (nI i)) (kE := kE) 12 (fun i x => ∃ b : Bool, x = b2 b ∧ (b = true ↔ ∃ h, h < i ∧ s.testBit h = true ∧ fw md 12 p h ≤ r))
    (fun f i x hi hx => by
      obtain ⟨b, rfl, hb⟩ := hx
      show ∃ s', _ ∧ f_X10_shade_L81 (nI r) ap (nI s) (nI p) kE (f + 1) (b2 b) (nI i) = f_X10_shade_L81 (nI r) ap (nI s) (nI p) kE f s' (nI (i + 1))
      rw [f_X10_shade_L81, if_neg (show ¬ (12 : Int32) ≤ nI i from nI_ge hi (by decide)), nI_1]
      have up : (∃ h, h < i ∧ s.testBit h = true ∧ fw md 12 p h ≤ r) → ∃ h, h < i + 1 ∧ s.testBit h = true ∧ fw md 12 p h ≤ r := fun ⟨h, h1, h2⟩ => ⟨h, by omega, h2⟩
      cases b with
      | true =>
        rw [if_t]
        exact ⟨1, ⟨true, rfl, fun _ => up (hb.mp rfl), fun _ => rfl⟩, rfl⟩
      | false =>
        have no : ¬ (s.testBit i = true ∧ fw md 12 p i ≤ r) → (false = true ↔ ∃ h, h < i + 1 ∧ s.testBit h = true ∧ fw md 12 p h ≤ r) := by
          intro hno
          constructor
          · intro e; cases e
          · rintro ⟨h, h1, h2⟩
            by_cases e : h = i
            · rw [e] at h2; exact absurd h2 hno
            · exact hb.mpr ⟨h, by omega, h2⟩
        rw [if_f, has_ok _ (by omega), bd_some, hbit i (by omega)]
        cases g : s.testBit i with
        | false =>
          rw [if_f]
          exact ⟨0, ⟨false, rfl, no (fun e => by rw [g] at e; exact absurd e.1 (by decide))⟩, rfl⟩
        | true =>
          rw [if_t]
          simp only [m_12, nI_add]
          rw [if_pos (ix_t (by omega) (by decide)), nI_clamp (by omega), hap p i hp hi]
          have hle := fw_le md 12 p i
          by_cases g2 : r < fw md 12 p i
          · rw [if_pos (nI_lt g2 (by omega))]
            exact ⟨0, ⟨false, rfl, no (fun e => by have := e.2; omega)⟩, rfl⟩
          · rw [if_neg (fun e => g2 ((nI_ltI (by omega) (by omega)).mp e))]
            exact ⟨1, ⟨true, rfl, fun _ => ⟨i, by omega, g, by omega⟩, fun _ => rfl⟩, rfl⟩)
    (fun f x hx => by
      show f_X10_shade_L81 (nI r) ap (nI s) (nI p) kE (f + 1) x (nI 12) = _
      rw [f_X10_shade_L81, if_pos (by decide)]) 5000 0 0 (by decide) (by decide) ⟨false, rfl, fun e => (by cases e), fun ⟨h, h1, _⟩ => absurd h1 (Nat.not_lt_zero h)⟩
  exact ⟨b, h2, h1⟩
theorem mcov_ok {md ap : Nat → Int32} (hap : ∀ p q, p < 12 → q < 12 → ap (12 * p + q) = nI (fw md 12 p q)) {r : Nat} (hr : r < 12) {s : Nat} (hs : s < 4096) (kE : Int32 → Option (Int32 × (Nat → Int32))) (b0 : Bool) : ∃ b : Bool, f_X10_shade_L63 (nI r) ap (nI s) kE 5000 (b2 b0) 0 = kE (b2 b) ∧ (b = true ↔ b0 = true ∧ cov md r s) := by
  have loop : ∀ (d i fuel : Nat) (b1 : Bool), i + d = 12 → d < fuel → (b1 = true ↔ b0 = true ∧ ∀ p, p < i → ∃ h, h < 12 ∧ s.testBit h = true ∧ fw md 12 p h ≤ r) → ∃ b : Bool, f_X10_shade_L63 (nI r) ap (nI s) kE fuel (b2 b1) (nI i) = kE (b2 b) ∧ (b = true ↔ b0 = true ∧ cov md r s) := by
    intro d
    induction d with
    | zero =>
      intro i fuel b1 hi hf h
      obtain ⟨n, rfl⟩ : ∃ n, fuel = n + 1 := ⟨fuel - 1, by omega⟩
      obtain rfl : i = 12 := by omega
      rw [f_X10_shade_L63, if_pos (by decide)]
      exact ⟨b1, rfl, h⟩
    | succ d ih =>
      intro i fuel b1 hi hf h
      obtain ⟨n, rfl⟩ : ∃ n, fuel = n + 1 := ⟨fuel - 1, by omega⟩
      rw [f_X10_shade_L63, if_neg (show ¬ (12 : Int32) ≤ nI i from nI_ge (a := i) (b := 12) (by omega) (by decide))]
      cases b1 with
      | false =>
        rw [if_f]
        exact ⟨false, rfl, fun e => (by cases e), fun e => h.mpr ⟨e.1, fun p hp => e.2 p (by omega)⟩⟩
      | true =>
        rw [if_t]
        obtain ⟨b, k1, k2⟩ := mcov_p hap hr hs (p := i) (by omega) (f_X10_shade_X81 (nI i) (f_X10_shade_L63 (nI r) ap (nI s) kE n))
        rw [k1]
        unfold f_X10_shade_X81
        rw [nI_1]
        refine ih (i + 1) n b (by omega) (by omega) ?_
        rw [k2]
        constructor
        · intro g
          refine ⟨(h.mp rfl).1, fun p hp => ?_⟩
          by_cases e : p = i
          · rw [e]; exact g
          · exact (h.mp rfl).2 p (by omega)
        · exact fun g => g.2 i (by omega)
  exact loop 12 0 5000 b0 (by decide) (by decide) ⟨fun e => ⟨e, fun p hp => absurd hp (Nat.not_lt_zero p)⟩, fun e => e.1⟩
