theorem rof_ok (rd : Nat → Int32) {k : Nat} (h : k < 12) : f_X2_roadsOf rd (nI k) = some (rd k) := by
  unfold f_X2_roadsOf
  rw [if_neg (nI_pos (by omega)), if_neg (fun g => by have := (lit_le (a := 12) (by decide) (by omega)).mp g; omega), if_pos (ix_t h (by decide)), nI_clamp (by omega)]
theorem plc_ok (f : Nat → Int32) {k : Nat} (h : k < 7) : f_X1_placeOf f (nI k) = some (f k) := by
  unfold f_X1_placeOf
  rw [if_neg (nI_pos (by omega)), if_neg (fun g => by have := (lit_le (a := 7) (by decide) (by omega)).mp g; omega), if_pos (ix_t h (by decide)), nI_clamp (by omega)]
theorem bre_ok (f : Nat → Int32) {k : Nat} (h : k < 7) : f_X1_breathOf f (nI k) = some (f k) := by
  unfold f_X1_breathOf
  rw [if_neg (nI_pos (by omega)), if_neg (fun g => by have := (lit_le (a := 7) (by decide) (by omega)).mp g; omega), if_pos (ix_t h (by decide)), nI_clamp (by omega)]
theorem rei_ok (f : Nat → Int32) {k : Nat} (h : k < 7) : f_X1_reignOf f (nI k) = some (f k) := by
  unfold f_X1_reignOf
  rw [if_neg (nI_pos (by omega)), if_neg (fun g => by have := (lit_le (a := 7) (by decide) (by omega)).mp g; omega), if_pos (ix_t h (by decide)), nI_clamp (by omega)]
theorem told_one {hm : Int32} {rd : Nat → Int32} {he cr kg la mi : Int32} {pl br rg : Nat → Int32} {sz : Int32} {fs sc : Nat → Int32} {nr ss : Int32} {fr tt mrd : Nat → Int32} {mhm th : Int32} {bk : Nat → Int32} {me : Int32} {mt : Nat → Int32} {si : Int32} {sg : Nat → Int32} (hR : RelR hm rd he cr kg la mi pl br rg sz fs sc nr ss fr tt mrd mhm th bk me mt si sg) {w : Int32} {o : Nat} (ho : o < 10) :
    f_X9_toldOfOne he cr pl br rg w (nI o) = ((f_X10_isThere th w).bind (fun x51 => (if x51 = 0 then (some (-2 : Int32)) else (if (nI o) ≤ (3 : Int32) then (if (2 : Int32) ≤ (nI o) then (if (nI o) = (2 : Int32) then (some (((bk (21 : Int32).toNatClampNeg) >>> (w &&& 31)) &&& (1 : Int32))) else (if ix ((14 : Int32) + w) 25 = true then (some (bk ((14 : Int32) + w).toNatClampNeg)) else none)) else (if ix (((7 : Int32) * (nI o)) + w) 25 = true then (some (bk (((7 : Int32) * (nI o)) + w).toNatClampNeg)) else none)) else (some (-2 : Int32)))))) ∧ ∃ r, f_X9_toldOfOne he cr pl br rg w (nI o) = some r := by
  obtain ⟨h1, h2, h3, h4, rfl, h6, ⟨c1, c2, c3, c4, c5⟩, h8⟩ := hR
  unfold f_X9_toldOfOne
  rw [ishere_ok th h6, there_ok, bd_some, bd_some]
  cases hN : (isN 7 w && bt th w.toNatClampNeg) with
  | false => exact ⟨rfl, _, rfl⟩
  | true =>
    obtain ⟨a, ha, rfl⟩ := (isN_in (by decide)).mp (Bool.and_eq_true_iff.mp hN).1
    rw [if_t, if_t]
    obtain ⟨g1, g2, g3⟩ := c1 a ha
    rcases (show o = 0 ∨ o = 1 ∨ o = 2 ∨ o = 3 ∨ 3 < o by omega) with rfl | rfl | rfl | rfl | h3o
    · rw [if_pos (show nI 0 = 0 from rfl), plc_ok pl ha, bd_some, if_pos (show nI 0 ≤ 3 by decide), if_neg (show ¬ 2 ≤ nI 0 by decide), m_7, nI_add, if_pos (ix_t (by omega) (by decide)), nI_clamp (by omega)]
      rw [show 7 * 0 + a = a by omega, g1]
      exact ⟨rfl, _, rfl⟩
    · rw [if_neg (show ¬ nI 1 = 0 by decide), if_pos (show nI 1 = 1 from rfl), bre_ok br ha, bd_some, if_pos (show nI 1 ≤ 3 by decide), if_neg (show ¬ 2 ≤ nI 1 by decide), m_7, nI_add, if_pos (ix_t (by omega) (by decide)), nI_clamp (by omega)]
      rw [show 7 * 1 + a = 7 + a by omega, g2]
      exact ⟨rfl, _, rfl⟩
    · rw [if_neg (show ¬ nI 2 = 0 by decide), if_neg (show ¬ nI 2 = 1 by decide), if_pos (show nI 2 = 2 from rfl), holds_ok cr (by omega), bd_some, if_pos (show nI 2 ≤ 3 by decide), if_pos (show 2 ≤ nI 2 by decide), bit1 _ (by omega)]
      rw [show bk (21 : Int32).toNatClampNeg = cr from c2]
      cases bt cr a
      · exact ⟨rfl, _, rfl⟩
      · exact ⟨rfl, _, rfl⟩
    · rw [if_neg (show ¬ nI 3 = 0 by decide), if_neg (show ¬ nI 3 = 1 by decide), if_neg (show ¬ nI 3 = 2 by decide), if_pos (show nI 3 = 3 from rfl), rei_ok rg ha, bd_some, if_pos (show nI 3 ≤ 3 by decide), if_pos (show 2 ≤ nI 3 by decide), q_14, if_pos (ix_t (by omega) (by decide)), nI_clamp (by omega), g3]
      rw [if_neg (show ¬ nI 3 = 2 by decide)]
      exact ⟨rfl, _, rfl⟩
    · rw [if_neg (fun g => by have := (eq_lit (a := 0) (by decide) (by omega)).mp g; omega), if_neg (fun g => by have := (eq_lit (a := 1) (by decide) (by omega)).mp g; omega), if_neg (fun g => by have := (eq_lit (a := 2) (by decide) (by omega)).mp g; omega), if_neg (fun g => by have := (eq_lit (a := 3) (by decide) (by omega)).mp g; omega), if_neg (fun g => by have := (le_lit (a := 3) (by decide) (by omega)).mp g; omega)]
      exact ⟨rfl, _, rfl⟩
theorem told_eq {hm : Int32} {rd : Nat → Int32} {he cr kg la mi : Int32} {pl br rg : Nat → Int32} {sz : Int32} {fs sc : Nat → Int32} {nr ss : Int32} {fr tt mrd : Nat → Int32} {mhm th : Int32} {bk : Nat → Int32} {me : Int32} {mt : Nat → Int32} {si : Int32} {sg : Nat → Int32} {pz : Int32} {ps : Nat → Int32} {ms : Int32} {mp : Nat → Int32} (hR : RelR hm rd he cr kg la mi pl br rg sz fs sc nr ss fr tt mrd mhm th bk me mt si sg) (hQ : RelP pz ps ms mp) (p1 : Int32) : f_X9_told hm rd he cr kg la mi pl br rg sz ss pz p1 = f_X10_told mhm th me si ms mrd bk p1 ∧ ∃ r, f_X9_told hm rd he cr kg la mi pl br rg sz ss pz p1 = some r := by
  obtain ⟨h1, h2, rfl, h4, rfl, h6, ⟨c1, c2, c3, c4, c5⟩, h8, ⟨n1, hn1, rfl, rfl, _⟩, ⟨n2, hn2, rfl, rfl, _⟩⟩ := id hR
  obtain ⟨n3, hn3, rfl, rfl, _⟩ := hQ
  unfold f_X9_told f_X10_told
  by_cases g1 : p1 < 100
  · rw [if_pos g1, if_pos g1]
    by_cases g2 : p1 < 10
    · rw [if_pos g2, if_pos g2]
      unfold f_X10_told_B185
      by_cases e0 : p1 = 0
      · subst e0; exact ⟨rfl, _, rfl⟩
      rw [if_neg e0, if_neg e0]
      by_cases e1 : p1 = 1
      · subst e1; exact ⟨rfl, _, rfl⟩
      rw [if_neg e1, if_neg e1]
      by_cases e2 : p1 = 2
      · subst e2; rw [if_pos rfl, if_pos rfl]; exact ⟨congrArg some c3.symm, _, rfl⟩
      rw [if_neg e2, if_neg e2]
      by_cases e3 : p1 = 3
      · subst e3; rw [if_pos rfl, if_pos rfl]; exact ⟨congrArg some c4.symm, _, rfl⟩
      rw [if_neg e3, if_neg e3]
      by_cases e4 : p1 = 4
      · subst e4; rw [if_pos rfl, if_pos rfl]; exact ⟨congrArg some c5.symm, _, rfl⟩
      rw [if_neg e4, if_neg e4]
      by_cases e5 : p1 = 5
      · subst e5; exact ⟨rfl, _, rfl⟩
      rw [if_neg e5, if_neg e5]
      by_cases e6 : p1 = 6
      · subst e6; exact ⟨rfl, _, rfl⟩
      rw [if_neg e6, if_neg e6]
      by_cases e7 : p1 = 7
      · subst e7; exact ⟨rfl, _, rfl⟩
      rw [if_neg e7, if_neg e7, in_ok, bd_some]
      have t2 := ti_ne 2 (k := 2) rfl e2
      have t3 := ti_ne 3 (k := 3) rfl e3
      have t4 := ti_ne 4 (k := 4) rfl e4
      have e2' : (2 : Int32).toInt = 2 := rfl
      have e4' : (4 : Int32).toInt = 4 := rfl
      rw [decide_eq_false (by omega), if_f]
      exact ⟨rfl, _, rfl⟩
    · rw [if_neg g2, if_neg g2]
      have g1' := rg_lo.mp g1
      have g2' := n_lo g2
      have e10 : (10 : Int32).toInt = 10 := rfl
      have e100 : (100 : Int32).toInt = 100 := rfl
      obtain ⟨v, hv, rfl⟩ : inR p1 100 := (isN_in (by decide)).mp (decide_eq_true (by omega))
      have er : nI v - nI v / (10 : Int32) * (10 : Int32) = nI (v % 10) := pk_rem (d := 10) (by omega) (by decide) (by decide)
      rw [er]
      obtain ⟨k1, r, k2⟩ := told_one hR (w := nI v / (10 : Int32) - (1 : Int32)) (o := v % 10) (Nat.mod_lt _ (by decide))
      rw [← k1, k2, bd_some]
      exact ⟨rfl, _, rfl⟩
  · rw [if_neg g1, if_neg g1, place_ok, mplace_ok, bd_some, bd_some]
    cases hN : isN 12 (p1 - 100) with
    | false => exact ⟨rfl, _, rfl⟩
    | true =>
      obtain ⟨a, ha, e⟩ := (isN_in (by decide)).mp hN
      rw [if_t, if_t, e, rof_ok rd ha, bd_some, if_pos (ix_t ha (by decide)), nI_clamp (by omega), h1 a ha]
      exact ⟨rfl, _, rfl⟩
theorem ok_told : OK_told := by
  intro hm rd he cr kg la mi pl br rg sz fs sc nr ss fr tt mrd mhm th bk me mt si sg pz ps ms mp hR hQ p1
  obtain ⟨k1, r, k2⟩ := told_eq hR hQ p1
  exact ⟨r, r, k2, k1.symm.trans k2, rfl, hR, hQ⟩
