/-! the reader of the pad: one automaton -/
def au (st c : Nat) : Nat := if st = 2 then (if 65 ≤ c ∧ c < 72 then 0 else 3) else if st = 0 then (if c = 46 then 0 else if 65 ≤ c ∧ c < 72 then 1 else 3) else (if c = 62 then 2 else if c = 43 ∨ c = 42 then 0 else if 97 ≤ c ∧ c < 109 then 0 else 3)
def fits (st c : Nat) : Bool := if st = 0 then decide (65 ≤ c ∧ c ≤ 71) || decide (c = 46) else if st = 2 then decide (65 ≤ c ∧ c ≤ 71) else decide (97 ≤ c ∧ c ≤ 108) || decide (c = 62) || decide (c = 43) || decide (c = 42)
def nx (st c : Nat) : Nat := if st = 0 then (if c = 46 then 0 else 1) else if st = 1 then (if c = 62 then 2 else 0) else 0
theorem au_chk : (List.range 3).all (fun st => (List.range 127).all (fun c => (au st c == (if fits st c then nx st c else 3)) && (f_X4_stateBehind (nI st) (nI c) == some (nI (au st c))))) = true := by decide +kernel
theorem au_both {st c : Nat} (hs : st < 3) (hc : c < 127) : au st c = (if fits st c then nx st c else 3) ∧ f_X4_stateBehind (nI st) (nI c) = some (nI (au st c)) := by
  have h1 := List.all_eq_true.mp au_chk st (List.mem_range.mpr hs)
  have h2 := List.all_eq_true.mp h1 c (List.mem_range.mpr hc)
  have h3 := Bool.and_eq_true_iff.mp h2
  exact ⟨eq_of_beq h3.1, eq_of_beq h3.2⟩
theorem nx_lt (st c : Nat) : nx st c < 3 := by
  unfold nx
  split <;> split <;> first | omega | (split <;> omega)
theorem au_lt {st c : Nat} (hs : st < 3) (hc : c < 127) (h : au st c ≠ 3) : au st c < 3 := by
  have h1 := (au_both hs hc).1
  cases g : fits st c
  · rw [g] at h1; exact absurd h1 h
  · rw [g, if_pos rfl] at h1
    rw [h1]
    exact nx_lt st c
def scanR (c : Nat → Nat) (k : Nat) : Nat → Nat → Nat → Int32
  | 0, _, st => if st = 0 then -6 else nI k
  | d + 1, i, st => if au st (c i) = 3 then nI i else scanR c k d (i + 1) (au st (c i))
theorem sign_ok {k : Nat} {sg : Nat → Int32} {i : Nat} (hk : k ≤ 60) (hi : i < k) : f_X4_signAt (nI k) sg (nI i) = some (sg i) := by
  unfold f_X4_signAt
  rw [if_neg (nI_pos (by omega)), if_neg (fun g => by have := (nI_leI (by omega) (by omega)).mp g; omega), if_neg (fun g => by have := (lit_le (a := 60) (by decide) (by omega)).mp g; omega), if_pos (ix_t (by omega) (by decide)), nI_clamp (by omega)]
theorem cfault_loop {k : Nat} {sg : Nat → Int32} {c : Nat → Nat} (hk : k ≤ 60) (hc : ∀ i, i < k → sg i = nI (c i) ∧ c i < 127) : ∀ (d i st fuel : Nat), i + d = k → d < fuel → st < 3 → f_X4_firstFault_L4 (nI k) sg (f_X4_firstFault_X4 (nI k)) fuel (nI st) (nI i) = some (scanR c k d i st) := by
  intro d
  induction d with
  | zero =>
    intro i st fuel hi hf hs
    obtain ⟨n, rfl⟩ : ∃ n, fuel = n + 1 := ⟨fuel - 1, by omega⟩
    obtain rfl : i = k := by omega
    rw [f_X4_firstFault_L4, if_pos (nI_le (Nat.le_refl _) (by omega))]
    unfold f_X4_firstFault_X4 scanR
    by_cases g : st = 0
    · subst g; rfl
    · rw [if_neg (fun e => g ((eq_lit (a := 0) (by decide) (by omega)).mp e)), if_neg g]
  | succ d ih =>
    intro i st fuel hi hf hs
    obtain ⟨n, rfl⟩ : ∃ n, fuel = n + 1 := ⟨fuel - 1, by omega⟩
    obtain ⟨e1, e2⟩ := hc i (by omega)
    rw [f_X4_firstFault_L4, if_neg (fun g => by have := (nI_leI (by omega) (by omega)).mp g; omega), sign_ok hk (by omega), bd_some, e1, (au_both hs e2).2, bd_some]
    rw [scanR]
    by_cases g : au st (c i) = 3
    · rw [g, if_pos (show nI 3 = 3 from rfl), if_pos rfl]
    · have := au_lt hs e2 g
      rw [if_neg (fun e => g ((eq_lit (a := 3) (by decide) (by omega)).mp e)), if_neg g, nI_1]
      exact ih (i + 1) _ n (by omega) (by omega) this
theorem letter_ok {c : Nat} (hc : c < 127) : f_X10_isLetter (nI c) = some (b2 (decide (65 ≤ c ∧ c ≤ 71))) := by
  unfold f_X10_isLetter
  have e1 : (65 : Int32).toInt = 65 := rfl
  have e2 : (71 : Int32).toInt = 71 := rfl
  have e3 : (nI c).toInt = c := nI_toInt (by omega)
  rw [in_ok, bd_some, if_pos (b2_nar _)]
  congr 2
  rw [decide_eq_decide]
  omega
theorem b90_ok {st c : Nat} (hs : st < 3) (hc : c < 127) (p : Int32) (kN : Int32 → Int32 → Option Int32) (b : Bool) : f_X10_faultOf_B90 (nI st) p kN (nI c) (b2 b) = if b then kN (nI (nx st c)) (p + 1) else some p := by
  unfold f_X10_faultOf_B90 nx
  cases b
  · rw [if_f]; rfl
  · rw [if_t]
    rw [if_pos (show true = true from rfl)]
    rcases (show st = 0 ∨ st = 1 ∨ st = 2 by omega) with rfl | rfl | rfl
    · rw [if_pos (show nI 0 = 0 from rfl), if_pos rfl]
      by_cases g : c = 46
      · subst g; rfl
      · rw [if_neg (fun e => g ((eq_lit (a := 46) (by decide) (by omega)).mp e)), if_neg g]; rfl
    · rw [if_neg (show ¬ nI 1 = 0 by decide), if_pos (show nI 1 = 1 from rfl), if_neg (show ¬ 1 = 0 by decide), if_pos rfl]
      by_cases g : c = 62
      · subst g; rfl
      · rw [if_neg (fun e => g ((eq_lit (a := 62) (by decide) (by omega)).mp e)), if_neg g]; rfl
    · rfl
theorem mfault_loop {k : Nat} {sg : Nat → Int32} {c : Nat → Nat} (hk : k ≤ 60) (hc : ∀ i, i < k → sg i = nI (c i) ∧ c i < 127) : ∀ (d i st fuel : Nat), i + d = k → d < fuel → st < 3 → f_X10_faultOf_L4 (nI k) sg (f_X10_faultOf_X4 (nI k)) fuel (nI st) (nI i) = some (scanR c k d i st) := by
  intro d
  induction d with
  | zero =>
    intro i st fuel hi hf hs
    obtain ⟨n, rfl⟩ : ∃ n, fuel = n + 1 := ⟨fuel - 1, by omega⟩
    obtain rfl : i = k := by omega
    rw [f_X10_faultOf_L4, if_pos (nI_le (Nat.le_refl _) (by omega))]
    unfold f_X10_faultOf_X4 scanR
    by_cases g : st = 0
    · subst g; rfl
    · rw [if_neg (fun e => g ((eq_lit (a := 0) (by decide) (by omega)).mp e)), if_neg g]
  | succ d ih =>
    intro i st fuel hi hf hs
    obtain ⟨n, rfl⟩ : ∃ n, fuel = n + 1 := ⟨fuel - 1, by omega⟩
    obtain ⟨e1, e2⟩ := hc i (by omega)
    have hcl : (nI i).toNatClampNeg = i := nI_clamp (by omega)
    have step : ∀ b : Bool, b = fits st (c i) → f_X10_faultOf_B90 (nI st) (nI i) (f_X10_faultOf_L4 (nI k) sg (f_X10_faultOf_X4 (nI k)) n) (nI (c i)) (b2 b) = some (scanR c k (d + 1) i st) := by
      intro b hb
      rw [b90_ok hs e2, scanR, (au_both hs e2).1, ← hb]
      cases b
      · rfl
      · have := nx_lt st (c i)
        rw [if_pos rfl, if_pos rfl, if_neg (by omega), nI_1]
        exact ih (i + 1) _ n (by omega) (by omega) this
    have s1 := step true
    have s0 := step false
    rw [b2_t] at s1
    rw [b2_f] at s0
    have q46 : (nI (c i) = 46) ↔ c i = 46 := eq_lit (a := 46) (by decide) (by omega)
    have q62 : (nI (c i) = 62) ↔ c i = 62 := eq_lit (a := 62) (by decide) (by omega)
    have q43 : (nI (c i) = 43) ↔ c i = 43 := eq_lit (a := 43) (by decide) (by omega)
    have q42 : (nI (c i) = 42) ↔ c i = 42 := eq_lit (a := 42) (by decide) (by omega)
    rw [f_X10_faultOf_L4, if_neg (fun g => by have := (nI_leI (by omega) (by omega)).mp g; omega), if_pos (ix_t (by omega) (by decide)), hcl, e1]
    rcases (show st = 0 ∨ st = 1 ∨ st = 2 by omega) with rfl | rfl | rfl
    · rw [if_pos (show nI 0 = 0 from rfl), letter_ok e2, bd_some]
      by_cases g : 65 ≤ c i ∧ c i ≤ 71
      · rw [decide_eq_true g, if_t]
        exact s1 (by simp [fits, g])
      · rw [decide_eq_false g, if_f]
        by_cases g2 : c i = 46
        · rw [if_pos (q46.mpr g2)]
          exact s1 (by simp [fits, g2])
        · rw [if_neg (fun e => g2 (q46.mp e))]
          exact s0 (by simp [fits, g, g2])
    · rw [if_neg (show ¬ nI 1 = 0 by decide), if_neg (show ¬ nI 1 = 2 by decide), in_ok, bd_some]
      have t1 : (97 : Int32).toInt = 97 := rfl
      have t2 : (108 : Int32).toInt = 108 := rfl
      have t3 : (nI (c i)).toInt = c i := nI_toInt (by omega)
      by_cases g : 97 ≤ c i ∧ c i ≤ 108
      · rw [decide_eq_true (by omega), if_t]
        exact s1 (by simp [fits, g])
      · rw [decide_eq_false (by omega), if_f]
        by_cases g1 : c i = 62
        · rw [if_pos (q62.mpr g1)]
          exact s1 (by simp [fits, g1])
        · rw [if_neg (fun e => g1 (q62.mp e))]
          by_cases g2 : c i = 43
          · rw [if_pos (q43.mpr g2)]
            exact s1 (by simp [fits, g2])
          · rw [if_neg (fun e => g2 (q43.mp e))]
            by_cases g3 : c i = 42
            · rw [if_pos (q42.mpr g3)]
              exact s1 (by simp [fits, g3])
            · rw [if_neg (fun e => g3 (q42.mp e))]
              exact s0 (by simp [fits, g, g1, g2, g3])
    · rw [if_neg (show ¬ nI 2 = 0 by decide), if_pos (show nI 2 = 2 from rfl), letter_ok e2, bd_some]
      exact step _ (by simp [fits])
/-- the pad's text as numbers -/
theorem pad_c {pz : Int32} {ps : Nat → Int32} {ms : Int32} {mp : Nat → Int32} (hQ : RelP pz ps ms mp) : ∃ (k : Nat) (c : Nat → Nat), k ≤ 60 ∧ pz = nI k ∧ ms = nI k ∧ (∀ i, i < k → ps i = nI (c i) ∧ c i < 127) ∧ (∀ i, i < k → mp i = nI (c i) ∧ c i < 127) := by
  obtain ⟨k, hk, e1, e2, h⟩ := hQ
  refine ⟨k, fun i => (ps i).toNatClampNeg, hk, e1, e2, fun i hi => ?_, fun i hi => ?_⟩
  · obtain ⟨_, j, _, h2, h3⟩ := h i hi
    show ps i = nI (ps i).toNatClampNeg ∧ (ps i).toNatClampNeg < 127
    rw [h3, nI_clamp (by omega)]
    exact ⟨rfl, h2⟩
  · obtain ⟨h0, j, _, h2, h3⟩ := h i hi
    show mp i = nI (ps i).toNatClampNeg ∧ (ps i).toNatClampNeg < 127
    rw [h0, h3, nI_clamp (by omega)]
    exact ⟨rfl, h2⟩
theorem cfault_ok {k : Nat} {sg : Nat → Int32} {c : Nat → Nat} (hk : k ≤ 60) (hc : ∀ i, i < k → sg i = nI (c i) ∧ c i < 127) : f_X4_firstFault (nI k) sg = some (scanR c k k 0 0) := cfault_loop hk hc k 0 0 5000 (by omega) (by omega) (by decide)
theorem mfault_ok {k : Nat} {sg : Nat → Int32} {c : Nat → Nat} (hk : k ≤ 60) (hc : ∀ i, i < k → sg i = nI (c i) ∧ c i < 127) : f_X10_faultOf (nI k) sg = some (scanR c k k 0 0) := mfault_loop hk hc k 0 0 5000 (by omega) (by omega) (by decide)
theorem ok_fault : OK_fault := by
  intro hm rd he cr kg la mi pl br rg sz fs sc nr ss fr tt mrd mhm th bk me mt si sg pz ps ms mp hR hQ
  obtain ⟨k, c, hk, rfl, rfl, h1, h2⟩ := pad_c hQ
  unfold f_X9_fault f_X10_fault
  rw [cfault_ok hk h1, mfault_ok hk h2, bd_some]
  exact ⟨_, _, rfl, rfl, rfl, hR, hQ⟩
