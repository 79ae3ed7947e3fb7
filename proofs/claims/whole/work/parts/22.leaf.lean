/-! the mathematics: numbers, bits, leaves -/
def b2 (b : Bool) : Int32 := if b then 1 else 0
theorem b2_0 (b : Bool) : b2 b = 0 ↔ b = false := by cases b <;> decide
theorem b2_1 (b : Bool) : b2 b = 1 ↔ b = true := by cases b <;> decide
theorem b2_t : b2 true = 1 := rfl
theorem b2_f : b2 false = 0 := rfl
theorem b2_nar (b : Bool) : vp_nar .boolean (b2 b) = b2 b := by cases b <;> rfl
theorem bt_b2 (b : Bool) (i : Nat) (hi : i < 32) : bt (b2 b) i = (decide (i = 0) && b) := by
  cases b
  · rw [b2_f, b_0, Bool.and_false]
  · exact (by decide +kernel : ∀ i, i < 32 → bt (b2 true) i = (decide (i = 0) && true)) i hi
theorem bt_1 (i : Nat) (hi : i < 32) : bt 1 i = decide (i = 0) := (by decide +kernel : ∀ i, i < 32 → bt 1 i = decide (i = 0)) i hi
theorem bit1 (s : Int32) {k : Nat} (hk : k < 32) : ((s >>> (nI k &&& 31)) &&& (1 : Int32)) = b2 (bt s k) := by
  apply b_ext
  intro i hi
  rw [b_and, b_sshr k hk s hi, bt_1 i hi, bt_b2 _ i hi]
  by_cases h : i = 0
  · subst h
    simp [hk]
  · simp [h]
def bI (k : Nat) : Int32 := (1 : Int32) <<< (nI k &&& 31)
theorem bt_bI {k j : Nat} (hk : k < 32) (hj : j < 32) : bt (bI k) j = decide (j = k) := by
  unfold bI
  rw [b_shl k hk _ hj]
  by_cases h : k ≤ j
  · rw [bt_1 _ (by omega)]
    simp only [h, decide_true, Bool.true_and, decide_eq_decide]
    omega
  · simp [h]
    omega
theorem bt_off (s : Int32) {k j : Nat} (hk : k < 32) (hj : j < 32) : bt (s &&& (bI k ^^^ (-1))) j = (bt s j && !decide (j = k)) := by
  rw [b_and, b_xor, bt_bI hk hj, b_m1 j hj]
  cases bt s j <;> cases decide (j = k) <;> rfl
theorem bt_on (s : Int32) {k j : Nat} (hk : k < 32) (hj : j < 32) : bt (s ||| bI k) j = (bt s j || decide (j = k)) := by
  rw [b_or, bt_bI hk hj]
theorem bt_not (s : Int32) {j : Nat} (hj : j < 32) : bt (s ^^^ (-1)) j = !bt s j := by
  rw [b_xor, b_m1 j hj]
  cases bt s j <;> rfl
theorem nI_lt0 {k : Nat} (h : k < 2 ^ 31) : ¬ nI k < 0 := nI_pos h
theorem lit_le {a k : Nat} (ha : a < 2 ^ 31) (hk : k < 2 ^ 31) : ((OfNat.ofNat a : Int32) ≤ nI k) ↔ a ≤ k := by
  rw [fa_lit]; exact nI_leI ha hk
theorem lit_lt {a k : Nat} (ha : a < 2 ^ 31) (hk : k < 2 ^ 31) : ((OfNat.ofNat a : Int32) < nI k) ↔ a < k := by
  rw [fa_lit]; exact nI_ltI ha hk
theorem le_lit {a k : Nat} (ha : a < 2 ^ 31) (hk : k < 2 ^ 31) : (nI k ≤ (OfNat.ofNat a : Int32)) ↔ k ≤ a := by
  rw [fa_lit]; exact nI_leI hk ha
theorem lt_lit {a k : Nat} (ha : a < 2 ^ 31) (hk : k < 2 ^ 31) : (nI k < (OfNat.ofNat a : Int32)) ↔ k < a := by
  rw [fa_lit]; exact nI_ltI hk ha
theorem eq_lit {a k : Nat} (ha : a < 2 ^ 31) (hk : k < 2 ^ 31) : (nI k = (OfNat.ofNat a : Int32)) ↔ k = a := by
  rw [fa_lit]; exact nI_eq hk ha
theorem holds_ok (s : Int32) {k : Nat} (hk : k < 31) : f_X9_holds s (nI k) = some (b2 (bt s k)) := by
  unfold f_X9_holds
  rw [if_neg (nI_pos (by omega)), if_neg (fun h => by have := (lit_le (a := 31) (by decide) (by omega)).mp h; omega), bit1 s (by omega)]
  cases bt s k <;> rfl
theorem has_ok (s : Int32) {k : Nat} (hk : k < 32) : f_X10_has s (nI k) = some (b2 (bt s k)) := by
  unfold f_X10_has
  rw [bit1 s hk]
  cases bt s k <;> rfl
def isN (n : Nat) (p : Int32) : Bool := decide (0 ≤ p.toInt ∧ p.toInt < n)
theorem isN_in {n : Nat} (hn : n < 2 ^ 31) {p : Int32} : isN n p = true ↔ inR p n := by
  unfold isN inR
  rw [decide_eq_true_iff]
  constructor
  · intro ⟨h1, h2⟩
    have h3 : ¬ p < 0 := fun h => by
      have h4 := Int32.lt_iff_toInt_lt.mp h
      rw [show (0 : Int32).toInt = 0 from rfl] at h4
      omega
    obtain ⟨j, hj, rfl⟩ := nI_of h3
    rw [nI_toInt hj] at h2
    exact ⟨j, by omega, rfl⟩
  · intro ⟨j, hj, e⟩
    subst e
    rw [nI_toInt (by omega)]
    omega
theorem isN_f {n : Nat} (hn : n < 2 ^ 31) {p : Int32} (h : ¬ inR p n) : isN n p = false := by
  cases h2 : isN n p with
  | false => rfl
  | true => exact absurd ((isN_in hn).mp h2) h
theorem isN_t {n : Nat} (hn : n < 2 ^ 31) {k : Nat} (h : k < n) : isN n (nI k) = true := (isN_in hn).mpr ⟨k, h, rfl⟩
theorem rg_lo {p a : Int32} : (p < a) ↔ p.toInt < a.toInt := Int32.lt_iff_toInt_lt
theorem rg_le {p a : Int32} : (p ≤ a) ↔ p.toInt ≤ a.toInt := Int32.le_iff_toInt_le
theorem n_lo {p a : Int32} (h : ¬ p < a) : ¬ p.toInt < a.toInt := fun g => h (rg_lo.mpr g)
theorem n_le {p a : Int32} (h : ¬ p ≤ a) : ¬ p.toInt ≤ a.toInt := fun g => h (rg_le.mpr g)
theorem place_ok (p : Int32) : f_X9_isPlace p = some (b2 (isN 12 p)) := by
  unfold f_X9_isPlace isN
  by_cases h1 : p < 0
  · have h := rg_lo.mp h1
    rw [show (0 : Int32).toInt = 0 from rfl] at h
    rw [if_pos h1, decide_eq_false (by omega)]; rfl
  · have h := n_lo h1
    rw [show (0 : Int32).toInt = 0 from rfl] at h
    rw [if_neg h1]
    by_cases h2 : (12 : Int32) ≤ p
    · have h3 := rg_le.mp h2
      rw [show (12 : Int32).toInt = 12 from rfl] at h3
      rw [if_pos h2, decide_eq_false (by omega)]; rfl
    · have h3 := n_le h2
      rw [show (12 : Int32).toInt = 12 from rfl] at h3
      rw [if_neg h2, decide_eq_true (by omega)]; rfl
theorem one_ok (p : Int32) : f_X9_isOne p = some (b2 (isN 7 p)) := by
  unfold f_X9_isOne isN
  by_cases h1 : p < 0
  · have h := rg_lo.mp h1
    rw [show (0 : Int32).toInt = 0 from rfl] at h
    rw [if_pos h1, decide_eq_false (by omega)]; rfl
  · have h := n_lo h1
    rw [show (0 : Int32).toInt = 0 from rfl] at h
    rw [if_neg h1]
    by_cases h2 : (7 : Int32) ≤ p
    · have h3 := rg_le.mp h2
      rw [show (7 : Int32).toInt = 7 from rfl] at h3
      rw [if_pos h2, decide_eq_false (by omega)]; rfl
    · have h3 := n_le h2
      rw [show (7 : Int32).toInt = 7 from rfl] at h3
      rw [if_neg h2, decide_eq_true (by omega)]; rfl
theorem in_ok (v a b : Int32) : f_X10_in v a b = some (b2 (decide (a.toInt ≤ v.toInt ∧ v.toInt ≤ b.toInt))) := by
  unfold f_X10_in
  by_cases h1 : v < a
  · have h := rg_lo.mp h1
    rw [if_pos h1, decide_eq_false (by omega)]; rfl
  · have h := n_lo h1
    rw [if_neg h1]
    by_cases h2 : b < v
    · have h3 := rg_lo.mp h2
      rw [if_pos h2, decide_eq_false (by omega)]; rfl
    · have h3 := n_lo h2
      rw [if_neg h2, decide_eq_true (by omega)]; rfl
theorem bd_some {α β : Type} (a : α) (f : α → Option β) : (some a).bind f = f a := rfl
theorem mplace_ok (p : Int32) : f_X10_isPlace p = some (b2 (isN 12 p)) := by
  unfold f_X10_isPlace
  rw [in_ok, bd_some, if_pos (b2_nar _)]
  congr 2
  unfold isN
  rw [decide_eq_decide, show (0 : Int32).toInt = 0 from rfl, show (11 : Int32).toInt = 11 from rfl]
  omega
theorem mnum_ok (p : Int32) : f_X10_isNumber p = some (b2 (isN 7 p)) := by
  unfold f_X10_isNumber
  rw [in_ok, bd_some, if_pos (b2_nar _)]
  congr 2
  unfold isN
  rw [decide_eq_decide, show (0 : Int32).toInt = 0 from rfl, show (6 : Int32).toInt = 6 from rfl]
  omega
theorem ix_t {k n : Nat} (h : k < n) (hn : n < 2 ^ 31) : ix (nI k) n = true := ix_of (vp_in_nI h hn)
theorem mk_on (s p : Int32) : f_X9_marked s p 1 = some (s ||| ((1 : Int32) <<< (p &&& 31))) := rfl
theorem mk_off (s p : Int32) : f_X9_marked s p 0 = some (s &&& (((1 : Int32) <<< (p &&& 31)) ^^^ (-1))) := rfl
/-! a set below 2^m by its bits -/
theorem bt_nI (j i : Nat) : bt (nI j) i = (decide (i < 32) && j.testBit i) := by
  unfold bt nI
  show (BitVec.ofNat 32 j).getLsbD i = _
  rw [BitVec.getLsbD_ofNat]
theorem inR_hi {s : Int32} {m i : Nat} (h : inR s (2 ^ m)) (hi : m ≤ i) : bt s i = false := by
  obtain ⟨j, hj, rfl⟩ := h
  rw [bt_nI, Nat.testBit_lt_two_pow (Nat.lt_of_lt_of_le hj (Nat.pow_le_pow_right (by decide) hi)), Bool.and_false]
theorem inR_of {s : Int32} {m : Nat} (h : ∀ i, m ≤ i → i < 32 → bt s i = false) : inR s (2 ^ m) := by
  refine ⟨s.toBitVec.toNat, ?_, ?_⟩
  · apply Nat.lt_pow_two_of_testBit
    intro i hi
    by_cases h32 : i < 32
    · exact h i hi h32
    · exact Nat.testBit_lt_two_pow (Nat.lt_of_lt_of_le s.toBitVec.isLt (Nat.pow_le_pow_right (by decide) (by omega)))
  · apply Int32.toBitVec_inj.mp
    show s.toBitVec = BitVec.ofNat 32 s.toBitVec.toNat
    simp
/-! a loop that counts up -/
theorem lup {S R : Type} {L : Nat → S → Nat → Option R} {kE : S → Option R} (N : Nat) (Inv : Nat → S → Prop) (hs : ∀ n i s, i < N → Inv i s → ∃ s', Inv (i + 1) s' ∧ L (n + 1) s i = L n s' (i + 1)) (hE : ∀ n s, Inv N s → L (n + 1) s N = kE s) : ∀ n i s, i ≤ N → N - i < n → Inv i s → ∃ s', Inv N s' ∧ L n s i = kE s' := by
  intro n
  induction n with
  | zero => intro i s _ h; omega
  | succ n ih =>
    intro i s hi hn hI
    by_cases h : i = N
    · subst h
      exact ⟨s, hI, hE n s hI⟩
    · obtain ⟨s', h1, h2⟩ := hs n i s (by omega) hI
      obtain ⟨s'', h3, h4⟩ := ih (i + 1) s' (by omega) (by omega) h1
      exact ⟨s'', h3, h2.trans h4⟩
/-! counting twelve bits -/
def cn (s : Int32) : Nat := fb_ct (bt s) 12
theorem cn_le (s : Int32) : cn s ≤ 12 := fb_ct_le _ _
theorem b2_nI (b : Bool) : b2 b = nI (if b then 1 else 0) := by cases b <;> rfl
theorem bits_ok (s : Int32) : f_X10_bits s = some (nI (cn s)) := by
  unfold f_X10_bits
  obtain ⟨s', h1, h2⟩ := lup (L := fun n (a : Int32) i => f_X10_bits_L4 s f_X10_bits_X4 n a (nI i)) (kE := f_X10_bits_X4) 12 (fun i a => a = nI (fb_ct (bt s) i))
    (fun n i a hi ha => ⟨_, rfl, by
      show f_X10_bits_L4 s f_X10_bits_X4 (n + 1) a (nI i) = _
      rw [f_X10_bits_L4, if_neg (fun h => by have := (lit_le (a := 12) (by decide) (by omega)).mp h; omega), bit1 s (by omega), ha, b2_nI, nI_add, nI_1, ← fb_ct_succ]⟩)
    (fun n a ha => by
      show f_X10_bits_L4 s f_X10_bits_X4 (n + 1) a (nI 12) = _
      rw [f_X10_bits_L4, if_pos (by decide)]) 5000 0 0 (by decide) (by decide) rfl
  refine Eq.trans h2 ?_
  rw [h1]
  rfl
def bcv (s : Int32) : Int32 := (f_J6_bitCount_0f7a4 s).getD 0
theorem bcv_some (s : Int32) : f_J6_bitCount_0f7a4 s = some (bcv s) := rfl
def bc_chk (a : Nat) : Bool := (List.range 256).all (fun k => bcv (nI (256 * a + k)) == nI (cn (nI (256 * a + k))))
theorem bc_c0 : bc_chk 0 = true := by decide +kernel
theorem bc_c1 : bc_chk 1 = true := by decide +kernel
theorem bc_c2 : bc_chk 2 = true := by decide +kernel
theorem bc_c3 : bc_chk 3 = true := by decide +kernel
theorem bc_c4 : bc_chk 4 = true := by decide +kernel
theorem bc_c5 : bc_chk 5 = true := by decide +kernel
theorem bc_c6 : bc_chk 6 = true := by decide +kernel
theorem bc_c7 : bc_chk 7 = true := by decide +kernel
theorem bc_c8 : bc_chk 8 = true := by decide +kernel
theorem bc_c9 : bc_chk 9 = true := by decide +kernel
theorem bc_c10 : bc_chk 10 = true := by decide +kernel
theorem bc_c11 : bc_chk 11 = true := by decide +kernel
theorem bc_c12 : bc_chk 12 = true := by decide +kernel
theorem bc_c13 : bc_chk 13 = true := by decide +kernel
theorem bc_c14 : bc_chk 14 = true := by decide +kernel
theorem bc_c15 : bc_chk 15 = true := by decide +kernel
theorem bc_all : ∀ a, a < 16 → bc_chk a = true := by
  intro a ha
  rcases (show a = 0 ∨ a = 1 ∨ a = 2 ∨ a = 3 ∨ a = 4 ∨ a = 5 ∨ a = 6 ∨ a = 7 ∨ a = 8 ∨ a = 9 ∨ a = 10 ∨ a = 11 ∨ a = 12 ∨ a = 13 ∨ a = 14 ∨ a = 15 by omega) with rfl | rfl | rfl | rfl | rfl | rfl | rfl | rfl | rfl | rfl | rfl | rfl | rfl | rfl | rfl | rfl
  · exact bc_c0
  · exact bc_c1
  · exact bc_c2
  · exact bc_c3
  · exact bc_c4
  · exact bc_c5
  · exact bc_c6
  · exact bc_c7
  · exact bc_c8
  · exact bc_c9
  · exact bc_c10
  · exact bc_c11
  · exact bc_c12
  · exact bc_c13
  · exact bc_c14
  · exact bc_c15
theorem bc_ok {s : Int32} (h : inR s 4096) : f_J6_bitCount_0f7a4 s = some (nI (cn s)) := by
  obtain ⟨j, hj, rfl⟩ := h
  have h1 := bc_all (j / 256) (by omega)
  unfold bc_chk at h1
  have h2 := List.all_eq_true.mp h1 (j % 256) (List.mem_range.mpr (Nat.mod_lt _ (by decide)))
  rw [show 256 * (j / 256) + j % 256 = j by omega] at h2
  rw [bcv_some, eq_of_beq h2]
