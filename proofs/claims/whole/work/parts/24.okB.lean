theorem m_2 (k : Nat) : (2 : Int32) * nI k = nI (2 * k) := pk_mul 2 k
theorem m_3 (k : Nat) : (3 : Int32) * nI k = nI (3 * k) := pk_mul 3 k
theorem m_7 (k : Nat) : (7 : Int32) * nI k = nI (7 * k) := pk_mul 7 k
theorem m_8 (k : Nat) : (8 : Int32) * nI k = nI (8 * k) := pk_mul 8 k
theorem m_10 (k : Nat) : (10 : Int32) * nI k = nI (10 * k) := pk_mul 10 k
theorem m_12 (k : Nat) : (12 : Int32) * nI k = nI (12 * k) := pk_mul 12 k
theorem m_75 (k : Nat) : (75 : Int32) * nI k = nI (75 * k) := pk_mul 75 k
theorem m_90 (k : Nat) : (90 : Int32) * nI k = nI (90 * k) := pk_mul 90 k
theorem p_1 (k : Nat) : nI k + (1 : Int32) = nI (k + 1) := nI_add k 1
theorem p_2 (k : Nat) : nI k + (2 : Int32) = nI (k + 2) := nI_add k 2
theorem p_3 (k : Nat) : nI k + (3 : Int32) = nI (k + 3) := nI_add k 3
theorem p_7 (k : Nat) : nI k + (7 : Int32) = nI (k + 7) := nI_add k 7
theorem p_14 (k : Nat) : nI k + (14 : Int32) = nI (k + 14) := nI_add k 14
theorem p_20 (k : Nat) : nI k + (20 : Int32) = nI (k + 20) := nI_add k 20
theorem p_25 (k : Nat) : nI k + (25 : Int32) = nI (k + 25) := nI_add k 25
theorem p_37 (k : Nat) : nI k + (37 : Int32) = nI (k + 37) := nI_add k 37
theorem p_53 (k : Nat) : nI k + (53 : Int32) = nI (k + 53) := nI_add k 53
theorem p_74 (k : Nat) : nI k + (74 : Int32) = nI (k + 74) := nI_add k 74
theorem p_80 (k : Nat) : nI k + (80 : Int32) = nI (k + 80) := nI_add k 80
theorem p_81 (k : Nat) : nI k + (81 : Int32) = nI (k + 81) := nI_add k 81
theorem p_82 (k : Nat) : nI k + (82 : Int32) = nI (k + 82) := nI_add k 82
theorem p_83 (k : Nat) : nI k + (83 : Int32) = nI (k + 83) := nI_add k 83
theorem q_1 (k : Nat) : (1 : Int32) + nI k = nI (1 + k) := nI_add 1 k
theorem q_7 (k : Nat) : (7 : Int32) + nI k = nI (7 + k) := nI_add 7 k
theorem q_14 (k : Nat) : (14 : Int32) + nI k = nI (14 + k) := nI_add 14 k
theorem q_20 (k : Nat) : (20 : Int32) + nI k = nI (20 + k) := nI_add 20 k
theorem q_22 (k : Nat) : (22 : Int32) + nI k = nI (22 + k) := nI_add 22 k
theorem nI_inj' {a b : Nat} (ha : a < 2 ^ 31) (hb : b < 2 ^ 31) (h : nI a = nI b) : a = b := (nI_eq ha hb).mp h
theorem ok_met : OK_met := by
  intro hm rd he cr kg la mi pl br rg sz fs sc nr ss fr tt mrd mhm th bk me mt si sg pz ps ms mp hR hQ p1 p2
  obtain ⟨h1, h2, h3, h4, h5, h6, h7, h8, ⟨n, hn, rfl, rfl, h⟩, h10⟩ := id hR
  unfold f_X9_met f_X10_met
  rw [one_ok, mnum_ok, bd_some, bd_some]
  cases hN : isN 7 p1 with
  | false =>
    rw [if_f, if_f]
    exact ⟨_, _, rfl, rfl, rfl, hR, hQ⟩
  | true =>
    rw [if_t, if_t, one_ok, mnum_ok, bd_some, bd_some]
    cases hN2 : isN 7 p2 with
    | false =>
      rw [if_f, if_f]
      exact ⟨_, _, rfl, rfl, rfl, hR, hQ⟩
    | true =>
      obtain ⟨a, ha, rfl⟩ := (isN_in (by decide)).mp hN
      obtain ⟨b, hb, rfl⟩ := (isN_in (by decide)).mp hN2
      rw [if_t, if_t]
      by_cases hab : nI a = nI b
      · rw [if_pos hab, if_pos hab]
        exact ⟨_, _, rfl, rfl, rfl, hR, hQ⟩
      · rw [if_neg hab, if_neg hab]
        unfold f_X3_add
        rw [if_neg (nI_pos (by omega))]
        by_cases h8' : n = 8
        · subst h8'
          rw [if_neg (show ¬ nI 8 < 8 by decide), if_pos (show nI 8 = 8 from rfl)]
          exact ⟨_, _, rfl, rfl, rfl, hR, hQ⟩
        · have e1 : nI n < 8 := (lt_lit (a := 8) (by decide) (by omega)).mpr (by omega)
          have e2 : ¬ nI n = 8 := fun g => h8' ((eq_lit (a := 8) (by decide) (by omega)).mp g)
          rw [if_pos e1, if_neg e2, if_pos (ix_t (by omega) (by decide)), bd_some, if_1]
          simp only [m_2, p_1]
          rw [if_pos (ix_t (by omega) (by decide)), if_pos (ix_t (by omega) (by decide))]
          refine ⟨_, _, rfl, rfl, rfl, ⟨h1, h2, h3, h4, h5, h6, h7, h8, ⟨n + 1, by omega, rfl, rfl, fun i hi => ?_⟩, h10⟩, hQ⟩
          show upd (upd mt _ _) _ _ (2 * i) = upd fs _ _ i ∧ upd (upd mt _ _) _ _ (2 * i + 1) = upd sc _ _ i ∧ inR (upd fs _ _ i) 7 ∧ inR (upd sc _ _ i) 7 ∧ upd fs _ _ i ≠ upd sc _ _ i
          rw [nI_clamp (by omega), nI_clamp (by omega), nI_clamp (by omega)]
          by_cases hik : i = n
          · subst hik
            rw [pk_un (show 2 * i ≠ 2 * i + 1 by omega), pk_us, pk_us, pk_us, pk_us]
            exact ⟨rfl, rfl, ⟨a, ha, rfl⟩, ⟨b, hb, rfl⟩, hab⟩
          · rw [pk_un (show 2 * i ≠ 2 * n + 1 by omega), pk_un (show 2 * i ≠ 2 * n by omega), pk_un (show 2 * i + 1 ≠ 2 * n + 1 by omega), pk_un (show 2 * i + 1 ≠ 2 * n by omega), pk_un hik, pk_un hik]
            exact h i (by omega)
theorem ok_seen : OK_seen := by
  intro hm rd he cr kg la mi pl br rg sz fs sc nr ss fr tt mrd mhm th bk me mt si sg pz ps ms mp hR hQ p1 p2 p3 hp3
  obtain ⟨h1, h2, h3, h4, h5, h6, h7, h8, h9, ⟨n, hn, rfl, rfl, h⟩⟩ := id hR
  unfold f_X9_seen f_X10_seen
  rw [place_ok, mplace_ok, bd_some, bd_some]
  cases hN : isN 12 p1 with
  | false =>
    rw [if_f, if_f]
    exact ⟨_, _, rfl, rfl, rfl, hR, hQ⟩
  | true =>
    rw [if_t, if_t, place_ok, mplace_ok, bd_some, bd_some]
    cases hN2 : isN 12 p2 with
    | false =>
      rw [if_f, if_f]
      exact ⟨_, _, rfl, rfl, rfl, hR, hQ⟩
    | true =>
      obtain ⟨a, ha, rfl⟩ := (isN_in (by decide)).mp hN
      obtain ⟨b, hb, rfl⟩ := (isN_in (by decide)).mp hN2
      rw [if_t, if_t]
      unfold f_X7_add
      rw [if_neg (nI_pos (by omega))]
      by_cases h8' : n = 8
      · subst h8'
        rw [if_neg (show ¬ nI 8 < 8 by decide), if_pos (show nI 8 = 8 from rfl)]
        exact ⟨_, _, rfl, rfl, rfl, hR, hQ⟩
      · have e1 : nI n < 8 := (lt_lit (a := 8) (by decide) (by omega)).mpr (by omega)
        have e2 : ¬ nI n = 8 := fun g => h8' ((eq_lit (a := 8) (by decide) (by omega)).mp g)
        rw [if_pos e1, if_neg e2, if_pos (ix_t (by omega) (by decide))]
        simp only [m_3, p_1]
        rw [if_pos (ix_t (by omega) (by decide)), if_pos (ix_t (by omega) (by decide))]
        have key : ∀ (v : Int32) (nr2 : Int32), (∀ i, i < n → bt nr2 i = bt nr i) → v = (if bt nr2 n then 1 else 0) → SightIs nr2 (nI (n + 1)) (upd fr (nI n).toNatClampNeg (nI a)) (upd tt (nI n).toNatClampNeg (nI b)) (nI (n + 1)) (upd (upd (upd sg (nI (3 * n)).toNatClampNeg (nI a)) (nI (3 * n + 1)).toNatClampNeg (nI b)) (nI (3 * n + 2)).toNatClampNeg v) := by
          intro v nr2 hb1 hv
          refine ⟨n + 1, by omega, rfl, rfl, fun i hi => ?_⟩
          rw [nI_clamp (by omega), nI_clamp (by omega), nI_clamp (by omega), nI_clamp (by omega)]
          by_cases hik : i = n
          · subst hik
            rw [pk_un (show 3 * i ≠ 3 * i + 2 by omega), pk_un (show 3 * i ≠ 3 * i + 1 by omega), pk_us, pk_un (show 3 * i + 1 ≠ 3 * i + 2 by omega), pk_us, pk_us, pk_us, pk_us]
            exact ⟨rfl, rfl, hv, ⟨a, ha, rfl⟩, ⟨b, hb, rfl⟩⟩
          · rw [pk_un (show 3 * i ≠ 3 * n + 2 by omega), pk_un (show 3 * i ≠ 3 * n + 1 by omega), pk_un (show 3 * i ≠ 3 * n by omega), pk_un (show 3 * i + 1 ≠ 3 * n + 2 by omega), pk_un (show 3 * i + 1 ≠ 3 * n + 1 by omega), pk_un (show 3 * i + 1 ≠ 3 * n by omega), pk_un (show 3 * i + 2 ≠ 3 * n + 2 by omega), pk_un (show 3 * i + 2 ≠ 3 * n + 1 by omega), pk_un (show 3 * i + 2 ≠ 3 * n by omega), pk_un hik, pk_un hik, hb1 i (by omega)]
            exact h i (by omega)
        rcases hp3 with rfl | rfl
        · rw [mk_off, bd_some, bd_some, if_1, if_0]
          unfold f_X10_seen_B75
          simp only [m_3, p_1, p_2]
          rw [if_pos (ix_t (by omega) (by decide))]
          refine ⟨_, _, rfl, rfl, rfl, ⟨h1, h2, h3, h4, h5, h6, h7, h8, h9, key 0 _ (fun i hi => ?_) ?_⟩, hQ⟩
          · have := bt_off nr (k := n) (j := i) (by omega) (by omega)
            unfold bI at this
            rw [this, decide_eq_false (by omega)]
            simp
          · have := bt_off nr (k := n) (j := n) (by omega) (by omega)
            unfold bI at this
            rw [this]
            simp
        · rw [mk_on, bd_some, bd_some, if_1, if_1]
          unfold f_X10_seen_B75
          simp only [m_3, p_1, p_2]
          rw [if_pos (ix_t (by omega) (by decide))]
          refine ⟨_, _, rfl, rfl, rfl, ⟨h1, h2, h3, h4, h5, h6, h7, h8, h9, key 1 _ (fun i hi => ?_) ?_⟩, hQ⟩
          · have := bt_on nr (k := n) (j := i) (by omega) (by omega)
            unfold bI at this
            rw [this, decide_eq_false (by omega)]
            simp
          · have := bt_on nr (k := n) (j := n) (by omega) (by omega)
            unfold bI at this
            rw [this]
            simp
theorem ishere_ok (s : Int32) {p : Int32} (hs : inR s 128) : f_X1_isHere s p = some (b2 (isN 7 p && bt s p.toNatClampNeg)) := by
  unfold f_X1_isHere
  by_cases hp : inR p 31
  · obtain ⟨k, hk, rfl⟩ := hp
    rw [holds_ok s hk, bd_some, if_pos (b2_nar _), nI_clamp (by omega)]
    by_cases h7 : k < 7
    · rw [isN_t (by decide) h7, Bool.true_and]
    · rw [inR_hi (m := 7) hs (by omega), Bool.and_false]
  · have h1 : f_X9_holds s p = some 0 := by
      unfold f_X9_holds
      by_cases h2 : p < 0
      · rw [if_pos h2]
      · rw [if_neg h2]
        obtain ⟨j, hj, rfl⟩ := nI_of h2
        have h3 : ¬ j < 31 := fun g => hp ⟨j, g, rfl⟩
        rw [if_pos ((lit_le (a := 31) (by decide) hj).mpr (by omega))]
    have h4 : isN 7 p = false := isN_f (by decide) (fun ⟨j, hj, e⟩ => hp ⟨j, by omega, e⟩)
    rw [h1, bd_some, h4]
    rfl
theorem there_ok (s : Int32) (p : Int32) : f_X10_isThere s p = some (b2 (isN 7 p && bt s p.toNatClampNeg)) := by
  unfold f_X10_isThere
  rw [mnum_ok, bd_some]
  cases hN : isN 7 p with
  | false => rfl
  | true =>
    obtain ⟨k, hk, rfl⟩ := (isN_in (by decide)).mp hN
    rw [if_t, has_ok s (by omega), bd_some, nI_clamp (by omega), Bool.true_and]
    cases bt s k <;> rfl
theorem in4096 {s : Int32} (h : inR s 128) : inR s 4096 := by
  obtain ⟨j, hj, e⟩ := h
  exact ⟨j, by omega, e⟩
theorem one_is {cr kg la mi : Int32} {pl br rg bk : Nat → Int32} (h : CourtIs cr kg la mi pl br rg bk) {a : Nat} (ha : a < 7) (b q : Int32) : CourtIs (cr &&& (bI a ^^^ (-1))) kg la mi (upd pl a b) (upd br a q) (upd rg a 0) (upd (upd (upd (upd bk a b) (7 + a) q) (14 + a) 0) 21 ((upd (upd (upd bk a b) (7 + a) q) (14 + a) 0) 21 &&& (bI a ^^^ (-1)))) := by
  obtain ⟨c1, c2, c3, c4, c5⟩ := h
  refine ⟨fun k hk => ?_, ?_, ?_, ?_, ?_⟩
  · by_cases hka : k = a
    · subst hka
      rw [pk_un (show k ≠ 21 by omega), pk_un (show k ≠ 14 + k by omega), pk_un (show k ≠ 7 + k by omega), pk_us, pk_us, pk_un (show 7 + k ≠ 21 by omega), pk_un (show 7 + k ≠ 14 + k by omega), pk_us, pk_us, pk_un (show 14 + k ≠ 21 by omega), pk_us, pk_us]
      exact ⟨rfl, rfl, rfl⟩
    · rw [pk_un (show k ≠ 21 by omega), pk_un (show k ≠ 14 + a by omega), pk_un (show k ≠ 7 + a by omega), pk_un hka, pk_un hka, pk_un (show 7 + k ≠ 21 by omega), pk_un (show 7 + k ≠ 14 + a by omega), pk_un (show 7 + k ≠ 7 + a by omega), pk_un (show 7 + k ≠ a by omega), pk_un hka, pk_un (show 14 + k ≠ 21 by omega), pk_un (show 14 + k ≠ 14 + a by omega), pk_un (show 14 + k ≠ 7 + a by omega), pk_un (show 14 + k ≠ a by omega), pk_un hka]
      exact c1 k hk
  · rw [pk_us, pk_un (show 21 ≠ 14 + a by omega), pk_un (show 21 ≠ 7 + a by omega), pk_un (show 21 ≠ a by omega), c2]
  · rw [pk_un (show 22 ≠ 21 by omega), pk_un (show 22 ≠ 14 + a by omega), pk_un (show 22 ≠ 7 + a by omega), pk_un (show 22 ≠ a by omega), c3]
  · rw [pk_un (show 23 ≠ 21 by omega), pk_un (show 23 ≠ 14 + a by omega), pk_un (show 23 ≠ 7 + a by omega), pk_un (show 23 ≠ a by omega), c4]
  · rw [pk_un (show 24 ≠ 21 by omega), pk_un (show 24 ≠ 14 + a by omega), pk_un (show 24 ≠ 7 + a by omega), pk_un (show 24 ≠ a by omega), c5]
theorem mone_ok (th : Int32) (bk : Nat → Int32) {a b q : Nat} (ha : a < 7) (hb : b < 12) (hq : q < 10) : f_X10_one th bk (nI a) (nI b) (nI q) = some (nI (cn (th ||| bI a)), th ||| bI a, upd (upd (upd (upd bk a (nI b)) (7 + a) (nI q)) (14 + a) 0) 21 ((upd (upd (upd bk a (nI b)) (7 + a) (nI q)) (14 + a) 0) 21 &&& (bI a ^^^ (-1)))) := by
  unfold f_X10_one
  have e0 : (0 : Int32).toInt = 0 := rfl
  have e9 : (9 : Int32).toInt = 9 := rfl
  have eq' : (nI q).toInt = q := nI_toInt (by omega)
  rw [mnum_ok, bd_some, isN_t (by decide) ha, if_t, mplace_ok, bd_some, isN_t (by decide) hb, if_t, in_ok, bd_some, decide_eq_true (by omega), if_t, if_pos (ix_t (by omega) (by decide))]
  simp only [q_7, q_14]
  rw [if_pos (ix_t (by omega) (by decide)), if_pos (ix_t (by omega) (by decide)), bits_ok, bd_some, nI_clamp (by omega), nI_clamp (by omega), nI_clamp (by omega)]
  rfl
theorem cone_ok {th cr : Int32} (pl br rg : Nat → Int32) {a b q : Nat} (ha : a < 7) (hb : b < 12) (hq : q < 10) (h6 : inR th 128) : f_X9_one th cr pl br rg (nI a) (nI b) (nI q) = some (nI (cn (th ||| bI a)), th ||| bI a, cr &&& (bI a ^^^ (-1)), upd pl a (nI b), upd br a (nI q), upd rg a 0) := by
  unfold f_X9_one
  rw [one_ok, bd_some, isN_t (by decide) ha, if_t, place_ok, bd_some, isN_t (by decide) hb, if_t, if_neg (nI_pos (by omega)), if_pos ((le_lit (a := 9) (by decide) (by omega)).mpr (by omega))]
  unfold f_X1_enter
  rw [one_ok, bd_some, isN_t (by decide) ha, if_t, mk_on, bd_some, mk_off, bd_some, if_pos (ix_t (by omega) (by decide)), bd_some, nI_clamp (by omega)]
  have hbc : f_J6_bitCount_0f7a4 (th ||| ((1 : Int32) <<< (nI a &&& 31))) = some (nI (cn (th ||| bI a))) := bc_ok (in4096 (inR_on (m := 7) h6 ha (by decide)))
  dsimp only
  rw [hbc, bd_some]
  rfl
theorem ok_one : OK_one := by
  intro hm rd he cr kg la mi pl br rg sz fs sc nr ss fr tt mrd mhm th bk me mt si sg pz ps ms mp hR hQ p1 p2 p3
  obtain ⟨h1, h2, h3, h4, rfl, h6, h7, ⟨d1, d2, d3, d4, d5⟩, h9⟩ := id hR
  by_cases hN : inR p1 7
  · by_cases hN2 : inR p2 12
    · by_cases hN3 : inR p3 10
      · obtain ⟨a, ha, rfl⟩ := hN
        obtain ⟨b, hb, rfl⟩ := hN2
        obtain ⟨q, hq, rfl⟩ := hN3
        rw [mone_ok th bk ha hb hq, cone_ok pl br rg ha hb hq h6]
        refine ⟨_, _, rfl, rfl, rfl, ⟨h1, h2, h3, h4, rfl, inR_on (m := 7) h6 ha (by decide), one_is h7 ha (nI b) (nI q), ⟨fun k hk => ?_, inR_offs (m := 7) d2 ha (by decide), d3, d4, d5⟩, h9⟩, hQ⟩
        dsimp only
        by_cases hka : k = a
        · subst hka
          rw [pk_us, pk_us]
          exact ⟨⟨b, hb, rfl⟩, ⟨q, hq, rfl⟩⟩
        · rw [pk_un hka, pk_un hka]
          exact d1 k hk
      · have g := isN_f (n := 10) (by decide) hN3
        unfold isN at g
        have g := of_decide_eq_false g
        have e0 : (0 : Int32).toInt = 0 := rfl
        have e9 : (9 : Int32).toInt = 9 := rfl
        have e1 : f_X10_one th bk p1 p2 p3 = some (-2, th, bk) := by
          unfold f_X10_one
          rw [mnum_ok, bd_some, (isN_in (by decide)).mpr hN, if_t, mplace_ok, bd_some, (isN_in (by decide)).mpr hN2, if_t, in_ok, bd_some, decide_eq_false (by omega), if_f]
        have e2 : f_X9_one th cr pl br rg p1 p2 p3 = some (-2, th, cr, pl, br, rg) := by
          unfold f_X9_one
          rw [one_ok, bd_some, (isN_in (by decide)).mpr hN, if_t, place_ok, bd_some, (isN_in (by decide)).mpr hN2, if_t]
          by_cases g1 : p3 < 0
          · rw [if_pos g1]
          · have g2 := n_lo g1
            rw [if_neg g1, if_neg (fun g3 => by have := rg_le.mp g3; omega)]
        rw [e1, e2]
        exact ⟨_, _, rfl, rfl, rfl, hR, hQ⟩
    · have e1 : f_X10_one th bk p1 p2 p3 = some (-2, th, bk) := by
        unfold f_X10_one
        rw [mnum_ok, bd_some, (isN_in (by decide)).mpr hN, if_t, mplace_ok, bd_some, isN_f (by decide) hN2, if_f]
      have e2 : f_X9_one th cr pl br rg p1 p2 p3 = some (-2, th, cr, pl, br, rg) := by
        unfold f_X9_one
        rw [one_ok, bd_some, (isN_in (by decide)).mpr hN, if_t, place_ok, bd_some, isN_f (by decide) hN2, if_f]
      rw [e1, e2]
      exact ⟨_, _, rfl, rfl, rfl, hR, hQ⟩
  · have e1 : f_X10_one th bk p1 p2 p3 = some (-1, th, bk) := by
      unfold f_X10_one
      rw [mnum_ok, bd_some, isN_f (by decide) hN, if_f]
    have e2 : f_X9_one th cr pl br rg p1 p2 p3 = some (-1, th, cr, pl, br, rg) := by
      unfold f_X9_one
      rw [one_ok, bd_some, isN_f (by decide) hN, if_f]
    rw [e1, e2]
    exact ⟨_, _, rfl, rfl, rfl, hR, hQ⟩
