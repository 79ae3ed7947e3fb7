theorem nI_m (a k : Nat) : (OfNat.ofNat a : Int32) * nI k = nI (a * k) := by rw [fa_lit]; exact pk_mul a k
theorem nI_p (a k : Nat) : nI k + (OfNat.ofNat a : Int32) = nI (k + a) := by rw [fa_lit]; exact nI_add k a
theorem nI_q (a k : Nat) : (OfNat.ofNat a : Int32) + nI k = nI (a + k) := by rw [fa_lit]; exact nI_add a k
theorem nI_inj' {a b : Nat} (ha : a < 2 ^ 31) (hb : b < 2 ^ 31) (h : nI a = nI b) : a = b := (nI_eq ha hb).mp h
theorem ok_met : OK_met := by
  intro hm rd he cr kg la mi pl br rg sz fs sc nr ss fr tt mrd mhm th bk me mt si sg pz ps ms mp hR hQ p1 p2
  obtain ⟨h1, h2, h3, h4, h5, h6, h7, h8, ⟨n, hn, rfl, rfl, h⟩, h10⟩ := id hR
  unfold f_X9_met f_X10_met
  rw [one_ok, mnum_ok, bd_some, bd_some]
  cases hN : isN 7 p1 with
  | false =>
    rw [if_f, if_f]
    exact ⟨_, _, rfl, rfl, rfl, hR, hQ⟩
  | true =>
    rw [if_t, if_t, one_ok, mnum_ok, bd_some, bd_some]
    cases hN2 : isN 7 p2 with
    | false =>
      rw [if_f, if_f]
      exact ⟨_, _, rfl, rfl, rfl, hR, hQ⟩
    | true =>
      obtain ⟨a, ha, rfl⟩ := (isN_in (by decide)).mp hN
      obtain ⟨b, hb, rfl⟩ := (isN_in (by decide)).mp hN2
      rw [if_t, if_t]
      by_cases hab : nI a = nI b
      · rw [if_pos hab, if_pos hab]
        exact ⟨_, _, rfl, rfl, rfl, hR, hQ⟩
      · rw [if_neg hab, if_neg hab]
        unfold f_X3_add
        rw [if_neg (nI_pos (by omega))]
        by_cases h8' : n = 8
        · subst h8'
          rw [if_neg (show ¬ nI 8 < 8 by decide), if_pos (show nI 8 = 8 from rfl)]
          exact ⟨_, _, rfl, rfl, rfl, hR, hQ⟩
        · have e1 : nI n < 8 := (lt_lit (a := 8) (by decide) (by omega)).mpr (by omega)
          have e2 : ¬ nI n = 8 := fun g => h8' ((eq_lit (a := 8) (by decide) (by omega)).mp g)
          rw [if_pos e1, if_neg e2, if_pos (ix_t (by omega) (by decide)), bd_some, if_1, nI_m, nI_p, if_pos (ix_t (by omega) (by decide)), if_pos (ix_t (by omega) (by decide))]
          refine ⟨_, _, rfl, rfl, rfl, ⟨h1, h2, h3, h4, h5, h6, h7, h8, ⟨n + 1, by omega, nI_1 n, nI_1 n, fun i hi => ?_⟩, h10⟩, hQ⟩
          show upd (upd mt _ _) _ _ (2 * i) = upd fs _ _ i ∧ upd (upd mt _ _) _ _ (2 * i + 1) = upd sc _ _ i ∧ inR (upd fs _ _ i) 7 ∧ inR (upd sc _ _ i) 7 ∧ upd fs _ _ i ≠ upd sc _ _ i
          rw [nI_clamp (by omega), nI_clamp (by omega), nI_clamp (by omega)]
          by_cases hik : i = n
          · subst hik
            rw [pk_un (show 2 * i ≠ 2 * i + 1 by omega), pk_us, pk_us, pk_us, pk_us]
            exact ⟨rfl, rfl, ⟨a, ha, rfl⟩, ⟨b, hb, rfl⟩, hab⟩
          · rw [pk_un (show 2 * i ≠ 2 * n + 1 by omega), pk_un (show 2 * i ≠ 2 * n by omega), pk_un (show 2 * i + 1 ≠ 2 * n + 1 by omega), pk_un (show 2 * i + 1 ≠ 2 * n by omega), pk_un hik, pk_un hik]
            exact h i (by omega)
theorem ok_seen : OK_seen := by
  intro hm rd he cr kg la mi pl br rg sz fs sc nr ss fr tt mrd mhm th bk me mt si sg pz ps ms mp hR hQ p1 p2 p3 hp3
  obtain ⟨h1, h2, h3, h4, h5, h6, h7, h8, h9, ⟨n, hn, rfl, rfl, h⟩⟩ := id hR
  unfold f_X9_seen f_X10_seen
  rw [place_ok, mplace_ok, bd_some, bd_some]
  cases hN : isN 12 p1 with
  | false =>
    rw [if_f, if_f]
    exact ⟨_, _, rfl, rfl, rfl, hR, hQ⟩
  | true =>
    rw [if_t, if_t, place_ok, mplace_ok, bd_some, bd_some]
    cases hN2 : isN 12 p2 with
    | false =>
      rw [if_f, if_f]
      exact ⟨_, _, rfl, rfl, rfl, hR, hQ⟩
    | true =>
      obtain ⟨a, ha, rfl⟩ := (isN_in (by decide)).mp hN
      obtain ⟨b, hb, rfl⟩ := (isN_in (by decide)).mp hN2
      rw [if_t, if_t]
      unfold f_X7_add
      rw [if_neg (nI_pos (by omega))]
      by_cases h8' : n = 8
      · subst h8'
        rw [if_neg (show ¬ nI 8 < 8 by decide), if_pos (show nI 8 = 8 from rfl)]
        exact ⟨_, _, rfl, rfl, rfl, hR, hQ⟩
      · have e1 : nI n < 8 := (lt_lit (a := 8) (by decide) (by omega)).mpr (by omega)
        have e2 : ¬ nI n = 8 := fun g => h8' ((eq_lit (a := 8) (by decide) (by omega)).mp g)
        rw [if_pos e1, if_neg e2, if_pos (ix_t (by omega) (by decide)), nI_m, nI_p, if_pos (ix_t (by omega) (by decide)), if_pos (ix_t (by omega) (by decide))]
        have key : ∀ (v : Int32) (nr2 : Int32), (∀ i, i < n → bt nr2 i = bt nr i) → v = (if bt nr2 n then 1 else 0) → SightIs nr2 (nI n + 1) (upd fr (nI n).toNatClampNeg (nI a)) (upd tt (nI n).toNatClampNeg (nI b)) (nI n + 1) (upd (upd (upd sg (nI (3 * n)).toNatClampNeg (nI a)) (nI (3 * n + 1)).toNatClampNeg (nI b)) (nI (3 * n + 2)).toNatClampNeg v) := by
          intro v nr2 hb1 hv
          refine ⟨n + 1, by omega, nI_1 n, nI_1 n, fun i hi => ?_⟩
          rw [nI_clamp (by omega), nI_clamp (by omega), nI_clamp (by omega), nI_clamp (by omega)]
          by_cases hik : i = n
          · subst hik
            rw [pk_un (show 3 * i ≠ 3 * i + 2 by omega), pk_un (show 3 * i ≠ 3 * i + 1 by omega), pk_us, pk_un (show 3 * i + 1 ≠ 3 * i + 2 by omega), pk_us, pk_us, pk_us, pk_us]
            exact ⟨rfl, rfl, hv, ⟨a, ha, rfl⟩, ⟨b, hb, rfl⟩⟩
          · rw [pk_un (show 3 * i ≠ 3 * n + 2 by omega), pk_un (show 3 * i ≠ 3 * n + 1 by omega), pk_un (show 3 * i ≠ 3 * n by omega), pk_un (show 3 * i + 1 ≠ 3 * n + 2 by omega), pk_un (show 3 * i + 1 ≠ 3 * n + 1 by omega), pk_un (show 3 * i + 1 ≠ 3 * n by omega), pk_un (show 3 * i + 2 ≠ 3 * n + 2 by omega), pk_un (show 3 * i + 2 ≠ 3 * n + 1 by omega), pk_un (show 3 * i + 2 ≠ 3 * n by omega), pk_un hik, pk_un hik, hb1 i (by omega)]
            exact h i (by omega)
        rcases hp3 with rfl | rfl
        · rw [mk_off, bd_some, bd_some, if_1, if_0]
          unfold f_X10_seen_B75
          rw [nI_m, nI_p, if_pos (ix_t (by omega) (by decide))]
          refine ⟨_, _, rfl, rfl, rfl, ⟨h1, h2, h3, h4, h5, h6, h7, h8, h9, key 0 _ (fun i hi => ?_) ?_⟩, hQ⟩
          · have := bt_off nr (k := n) (j := i) (by omega) (by omega)
            unfold bI at this
            rw [this, decide_eq_false (by omega)]
            simp
          · have := bt_off nr (k := n) (j := n) (by omega) (by omega)
            unfold bI at this
            rw [this]
            simp
        · rw [mk_on, bd_some, bd_some, if_1, if_1]
          unfold f_X10_seen_B75
          rw [nI_m, nI_p, if_pos (ix_t (by omega) (by decide))]
          refine ⟨_, _, rfl, rfl, rfl, ⟨h1, h2, h3, h4, h5, h6, h7, h8, h9, key 1 _ (fun i hi => ?_) ?_⟩, hQ⟩
          · have := bt_on nr (k := n) (j := i) (by omega) (by omega)
            unfold bI at this
            rw [this, decide_eq_false (by omega)]
            simp
          · have := bt_on nr (k := n) (j := n) (by omega) (by omega)
            unfold bI at this
            rw [this]
            simp
theorem ishere_ok (s : Int32) {p : Int32} (hs : inR s 128) : f_X1_isHere s p = some (b2 (isN 7 p && bt s p.toNatClampNeg)) := by
  unfold f_X1_isHere
  by_cases hp : inR p 31
  · obtain ⟨k, hk, rfl⟩ := hp
    rw [holds_ok s hk, bd_some, if_pos (b2_nar _), nI_clamp (by omega)]
    by_cases h7 : k < 7
    · rw [isN_t (by decide) h7, Bool.true_and]
    · rw [inR_hi (m := 7) hs (by omega), Bool.and_false]
  · have h1 : f_X9_holds s p = some 0 := by
      unfold f_X9_holds
      by_cases h2 : p < 0
      · rw [if_pos h2]
      · rw [if_neg h2]
        obtain ⟨j, hj, rfl⟩ := nI_of h2
        have h3 : ¬ j < 31 := fun g => hp ⟨j, g, rfl⟩
        rw [if_pos ((lit_le (a := 31) (by decide) hj).mpr (by omega))]
    have h4 : isN 7 p = false := isN_f (by decide) (fun ⟨j, hj, e⟩ => hp ⟨j, by omega, e⟩)
    rw [h1, bd_some, h4]
    rfl
theorem there_ok (s : Int32) (p : Int32) : f_X10_isThere s p = some (b2 (isN 7 p && bt s p.toNatClampNeg)) := by
  unfold f_X10_isThere
  rw [mnum_ok, bd_some]
  cases hN : isN 7 p with
  | false => rfl
  | true =>
    obtain ⟨k, hk, rfl⟩ := (isN_in (by decide)).mp hN
    rw [if_t, has_ok s (by omega), bd_some, nI_clamp (by omega), Bool.true_and]
    cases bt s k <;> rfl
theorem in4096 {s : Int32} (h : inR s 128) : inR s 4096 := by
  obtain ⟨j, hj, e⟩ := h
  exact ⟨j, by omega, e⟩
theorem ok_one : OK_one := by
  intro hm rd he cr kg la mi pl br rg sz fs sc nr ss fr tt mrd mhm th bk me mt si sg pz ps ms mp hR hQ p1 p2 p3
  obtain ⟨h1, h2, h3, h4, rfl, h6, ⟨c1, c2, c3, c4, c5⟩, ⟨d1, d2, d3, d4, d5⟩, h9⟩ := id hR
  unfold f_X9_one f_X10_one
  rw [one_ok, mnum_ok, bd_some, bd_some]
  cases hN : isN 7 p1 with
  | false =>
    rw [if_f, if_f]
    exact ⟨_, _, rfl, rfl, rfl, hR, hQ⟩
  | true =>
    rw [if_t, if_t, place_ok, mplace_ok, bd_some, bd_some]
    cases hN2 : isN 12 p2 with
    | false =>
      rw [if_f, if_f]
      exact ⟨_, _, rfl, rfl, rfl, hR, hQ⟩
    | true =>
      obtain ⟨a, ha, rfl⟩ := (isN_in (by decide)).mp hN
      obtain ⟨b, hb, rfl⟩ := (isN_in (by decide)).mp hN2
      rw [if_t, if_t, in_ok, bd_some]
      have e0 : (0 : Int32).toInt = 0 := rfl
      have e9 : (9 : Int32).toInt = 9 := rfl
      by_cases g1 : p3 < 0
      · have g2 := rg_lo.mp g1
        rw [if_pos g1, decide_eq_false (by omega), if_f]
        exact ⟨_, _, rfl, rfl, rfl, hR, hQ⟩
      · have g2 := fun g => g1 (rg_lo.mpr g)
        rw [if_neg g1]
        by_cases g3 : p3 ≤ 9
        · have g4 := rg_le.mp g3
          obtain ⟨q, hq, rfl⟩ : inR p3 10 := (isN_in (by decide)).mp (decide_eq_true (by omega))
          rw [if_pos g3, decide_eq_true (by omega), if_t, if_pos (ix_t (by omega) (by decide)), nI_q, if_pos (ix_t (by omega) (by decide)), nI_q, if_pos (ix_t (by omega) (by decide)), bits_ok, bd_some]
          unfold f_X1_enter
          rw [one_ok, bd_some, isN_t (by decide) ha, if_t, mk_on, bd_some, mk_off, bd_some, if_pos (ix_t (by omega) (by decide)), bd_some]
          have hin := inR_on (m := 7) h6 ha (by decide)
          rw [bc_ok (in4096 hin), bd_some]
          refine ⟨_, _, rfl, rfl, rfl, ⟨h1, h2, h3, h4, rfl, hin, ⟨fun k hk => ?_, ?_, ?_, ?_, ?_⟩, ⟨fun k hk => ?_, inR_offs (m := 7) d2 ha (by decide), d3, d4, d5⟩, h9⟩, hQ⟩
          · show upd (upd (upd (upd bk _ _) _ _) _ _) 21 _ k = upd pl _ _ k ∧ upd (upd (upd (upd bk _ _) _ _) _ _) 21 _ (7 + k) = upd br _ _ k ∧ upd (upd (upd (upd bk _ _) _ _) _ _) 21 _ (14 + k) = upd rg _ _ k
            rw [nI_clamp (by omega), nI_clamp (by omega), nI_clamp (by omega)]
            by_cases hka : k = a
            · subst hka
              rw [pk_un (show k ≠ 21 by omega), pk_un (show k ≠ 14 + k by omega), pk_un (show k ≠ 7 + k by omega), pk_us, pk_us, pk_un (show 7 + k ≠ 21 by omega), pk_un (show 7 + k ≠ 14 + k by omega), pk_us, pk_us, pk_un (show 14 + k ≠ 21 by omega), pk_us, pk_us]
              exact ⟨rfl, rfl, rfl⟩
            · rw [pk_un (show k ≠ 21 by omega), pk_un (show k ≠ 14 + a by omega), pk_un (show k ≠ 7 + a by omega), pk_un hka, pk_un hka, pk_un (show 7 + k ≠ 21 by omega), pk_un (show 7 + k ≠ 14 + a by omega), pk_un (show 7 + k ≠ 7 + a by omega), pk_un (show 7 + k ≠ a by omega), pk_un hka, pk_un (show 14 + k ≠ 21 by omega), pk_un (show 14 + k ≠ 14 + a by omega), pk_un (show 14 + k ≠ 7 + a by omega), pk_un (show 14 + k ≠ a by omega), pk_un hka]
              exact c1 k hk
          · show upd (upd (upd (upd bk _ _) _ _) _ _) 21 (upd (upd (upd bk _ _) _ _) _ _ 21 &&& _) 21 = _
            rw [pk_us, nI_clamp (by omega), nI_clamp (by omega), nI_clamp (by omega), pk_un (show 21 ≠ 14 + a by omega), pk_un (show 21 ≠ 7 + a by omega), pk_un (show 21 ≠ a by omega), c2]
          · show upd (upd (upd (upd bk _ _) _ _) _ _) 21 _ 22 = _
            rw [nI_clamp (by omega), nI_clamp (by omega), nI_clamp (by omega), pk_un (by decide), pk_un (show 22 ≠ 14 + a by omega), pk_un (show 22 ≠ 7 + a by omega), pk_un (show 22 ≠ a by omega), c3]
          · show upd (upd (upd (upd bk _ _) _ _) _ _) 21 _ 23 = _
            rw [nI_clamp (by omega), nI_clamp (by omega), nI_clamp (by omega), pk_un (by decide), pk_un (show 23 ≠ 14 + a by omega), pk_un (show 23 ≠ 7 + a by omega), pk_un (show 23 ≠ a by omega), c4]
          · show upd (upd (upd (upd bk _ _) _ _) _ _) 21 _ 24 = _
            rw [nI_clamp (by omega), nI_clamp (by omega), nI_clamp (by omega), pk_un (by decide), pk_un (show 24 ≠ 14 + a by omega), pk_un (show 24 ≠ 7 + a by omega), pk_un (show 24 ≠ a by omega), c5]
          · show inR (upd pl _ _ k) 12 ∧ inR (upd br _ _ k) 10
            rw [nI_clamp (by omega)]
            by_cases hka : k = a
            · subst hka
              rw [pk_us, pk_us]
              exact ⟨⟨b, hb, rfl⟩, ⟨q, hq, rfl⟩⟩
            · rw [pk_un hka, pk_un hka]
              exact d1 k hk
        · have g4 := fun g => g3 (rg_le.mpr g)
          rw [if_neg g3, decide_eq_false (by omega), if_f]
          exact ⟨_, _, rfl, rfl, rfl, hR, hQ⟩
