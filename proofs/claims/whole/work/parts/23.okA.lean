/-! the plain calls -/
theorem if_f {α : Type} (a b : α) : (if b2 false = 0 then a else b) = a := if_pos rfl
theorem if_t {α : Type} (a b : α) : (if b2 true = 0 then a else b) = b := if_neg (by decide)
theorem if_0 {α : Type} (a b : α) : (if (0 : Int32) = 0 then a else b) = a := if_pos rfl
theorem if_1 {α : Type} (a b : α) : (if (1 : Int32) = 0 then a else b) = b := if_neg (by decide)
theorem or_0 (x : Int32) : x ||| 0 = x := by
  apply b_ext
  intro i _
  rw [b_or, b_0, Bool.or_false]
theorem set_on (s : Int32) {k : Nat} (hk : k < 32) : (s &&& (bI k ^^^ (-1))) ||| bI k = s ||| bI k := by
  apply b_ext
  intro i hi
  rw [b_or, bt_off s hk hi, bt_on s hk hi, bt_bI hk hi]
  cases bt s i <;> cases decide (i = k) <;> rfl
theorem inR_on {s : Int32} {m k : Nat} (h : inR s (2 ^ m)) (hk : k < m) (hm : m ≤ 31) : inR (s ||| bI k) (2 ^ m) := inR_of (fun i hi h32 => by
  rw [bt_on s (by omega) h32, inR_hi h hi, decide_eq_false (by omega)]; rfl)
theorem inR_offs {s : Int32} {m k : Nat} (h : inR s (2 ^ m)) (hk : k < m) (hm : m ≤ 31) : inR (s &&& (bI k ^^^ (-1))) (2 ^ m) := inR_of (fun i hi h32 => by
  rw [bt_off s (by omega) h32, inR_hi h hi]; rfl)
theorem ok_wipe : OK_wipe := by
  intro hm rd he cr kg la mi pl br rg sz fs sc nr ss fr tt mrd mhm th bk me mt si sg pz ps ms mp hR hQ
  obtain ⟨k, hk, rfl, rfl, h⟩ := hQ
  exact ⟨_, _, rfl, rfl, rfl, hR, ⟨0, by decide, rfl, rfl, fun i hi => absurd hi (Nat.not_lt_zero i)⟩⟩
theorem ok_unmeet : OK_unmeet := by
  intro hm rd he cr kg la mi pl br rg sz fs sc nr ss fr tt mrd mhm th bk me mt si sg pz ps ms mp hR hQ
  obtain ⟨h1, h2, h3, h4, h5, h6, h7, h8, ⟨k, hk, rfl, rfl, h⟩, h10⟩ := hR
  exact ⟨_, _, rfl, rfl, rfl, ⟨h1, h2, h3, h4, h5, h6, h7, h8, ⟨0, by decide, rfl, rfl, fun i hi => absurd hi (Nat.not_lt_zero i)⟩, h10⟩, hQ⟩
theorem ok_forget : OK_forget := by
  intro hm rd he cr kg la mi pl br rg sz fs sc nr ss fr tt mrd mhm th bk me mt si sg pz ps ms mp hR hQ
  obtain ⟨h1, h2, h3, h4, h5, h6, h7, h8, h9, ⟨k, hk, rfl, rfl, h⟩⟩ := hR
  exact ⟨_, _, rfl, rfl, rfl, ⟨h1, h2, h3, h4, h5, h6, h7, h8, h9, ⟨0, by decide, rfl, rfl, fun i hi => absurd hi (Nat.not_lt_zero i)⟩⟩, hQ⟩
theorem ok_home : OK_home := by
  intro hm rd he cr kg la mi pl br rg sz fs sc nr ss fr tt mrd mhm th bk me mt si sg pz ps ms mp hR hQ p1 p2 hp2
  obtain ⟨h1, h2, rfl, h4, h5⟩ := hR
  unfold f_X9_home f_X10_home
  rw [place_ok, mplace_ok]
  simp only [bd_some]
  cases hN : isN 12 p1 with
  | false =>
    simp only [if_f]
    exact ⟨_, _, rfl, rfl, rfl, ⟨h1, h2, rfl, h4, h5⟩, hQ⟩
  | true =>
    obtain ⟨k, hk, rfl⟩ := (isN_in (by decide)).mp hN
    simp only [if_t]
    rcases hp2 with rfl | rfl
    · rw [mk_off]
      simp only [bd_some, if_0]
      exact ⟨_, _, rfl, rfl, (or_0 _).symm, ⟨h1, h2, or_0 _, inR_offs (m := 12) h4 hk (by decide), h5⟩, hQ⟩
    · rw [mk_on]
      simp only [bd_some, if_1]
      have e := set_on mhm (k := k) (by omega)
      unfold bI at e
      exact ⟨_, _, rfl, rfl, e.symm, ⟨h1, h2, e, inR_on (m := 12) h4 hk (by decide), h5⟩, hQ⟩
theorem sz_ge {a k : Nat} (ha : a < 2 ^ 31) (hk : k < 2 ^ 31) : ((OfNat.ofNat a : Int32) ≤ nI k) ↔ a ≤ k := lit_le ha hk
theorem ok_say : OK_say := by
  intro hm rd he cr kg la mi pl br rg sz fs sc nr ss fr tt mrd mhm th bk me mt si sg pz ps ms mp hR hQ p1
  obtain ⟨k, hk, rfl, rfl, h⟩ := id hQ
  unfold f_X9_say f_X10_say
  rw [in_ok, bd_some]
  have e33 : (33 : Int32).toInt = 33 := rfl
  have e126 : (126 : Int32).toInt = 126 := rfl
  by_cases h1 : p1 < 33
  · have h2 := rg_lo.mp h1
    rw [if_pos h1, decide_eq_false (by omega), if_f]
    exact ⟨_, _, rfl, rfl, rfl, hR, hQ⟩
  · have h2 := n_lo h1
    rw [if_neg h1]
    by_cases h3 : p1 ≤ 126
    · have h4 := rg_le.mp h3
      rw [if_pos h3, decide_eq_true (by omega), if_t]
      obtain ⟨j, hj, rfl⟩ : inR p1 127 := (isN_in (by decide)).mp (decide_eq_true (by omega))
      have hj2 : 33 ≤ j := by
        rw [nI_toInt (by omega)] at h2
        omega
      unfold f_X4_write
      rw [if_neg (nI_pos (by omega))]
      by_cases h5 : k = 60
      · subst h5
        rw [if_neg (show ¬ nI 60 < 60 by decide), if_pos (show nI 60 = 60 from rfl)]
        exact ⟨_, _, rfl, rfl, rfl, hR, hQ⟩
      · have e1 : nI k < 60 := (lt_lit (a := 60) (by decide) (by omega)).mpr (by omega)
        have e2 : ¬ nI k = 60 := fun g => h5 ((eq_lit (a := 60) (by decide) (by omega)).mp g)
        rw [if_pos e1, if_neg e2, if_pos (ix_t (by omega) (by decide)), if_pos (ix_t (by omega) (by decide)), bd_some, if_1]
        refine ⟨_, _, rfl, rfl, rfl, hR, k + 1, by omega, nI_1 k, nI_1 k, fun i hi => ?_⟩
        show upd mp _ _ i = upd ps _ _ i ∧ _
        rw [nI_clamp (by omega)]
        by_cases hik : i = k
        · subst hik
          refine ⟨by rw [pk_us, pk_us], j, hj2, hj, ?_⟩
          show upd ps _ _ i = _
          rw [pk_us]
        · refine ⟨by rw [pk_un hik, pk_un hik]; exact (h i (by omega)).1, ?_⟩
          show ∃ j, _ ∧ _ ∧ upd ps _ _ i = _
          rw [pk_un hik]
          exact (h i (by omega)).2
    · have h4 := n_le h3
      rw [if_neg h3, decide_eq_false (by omega), if_f]
      exact ⟨_, _, rfl, rfl, rfl, hR, hQ⟩
