theorem kg_in {kg : Int32} (h : kg = -6 ∨ inR kg 7) (p : Int32) : (if kg = p then (-6 : Int32) else kg) = -6 ∨ inR (if kg = p then (-6 : Int32) else kg) 7 := by
  by_cases e : kg = p
  · rw [if_pos e]; exact Or.inl rfl
  · rw [if_neg e]; exact h
theorem ok_leave : OK_leave := by
  intro hm rd he cr kg la mi pl br rg sz fs sc nr ss fr tt mrd mhm th bk me mt si sg pz ps ms mp hR hQ p1
  obtain ⟨h1, h2, h3, h4, rfl, h6, ⟨c1, c2, c3, c4, c5⟩, ⟨d1, d2, d3, d4, d5⟩, h9⟩ := id hR
  unfold f_X9_leave f_X10_leave
  rw [ishere_ok th h6, there_ok, bd_some, bd_some]
  cases hN : (isN 7 p1 && bt th p1.toNatClampNeg) with
  | false =>
    rw [if_f, if_f]
    exact ⟨_, _, rfl, rfl, rfl, hR, hQ⟩
  | true =>
    obtain ⟨a, ha, rfl⟩ := (isN_in (by decide)).mp (Bool.and_eq_true_iff.mp hN).1
    rw [if_t, if_t]
    have hin := inR_offs (m := 7) h6 ha (by decide)
    have hbc : f_J6_bitCount_0f7a4 (th &&& (((1 : Int32) <<< (nI a &&& 31)) ^^^ (-1))) = some (nI (cn (th &&& (((1 : Int32) <<< (nI a &&& 31)) ^^^ (-1))))) := bc_ok (in4096 hin)
    have e1 : f_X1_depart th kg la (nI a) = some (th &&& (((1 : Int32) <<< (nI a &&& 31)) ^^^ (-1)), if kg = nI a then -6 else kg, if la = nI a then -6 else la) := by
      unfold f_X1_depart
      rw [mk_off, bd_some]
      unfold f_X1_depart_B27
      by_cases g1 : kg = nI a <;> by_cases g2 : la = nI a <;> simp [g1, g2]
    have e22 : bk (22 : Int32).toNatClampNeg = kg := c3
    have e2 : ∀ v : Int32, f_X10_leave_B53 bk (nI a) v (th &&& (((1 : Int32) <<< (nI a &&& 31)) ^^^ (-1))) = some (nI (cn (th &&& (((1 : Int32) <<< (nI a &&& 31)) ^^^ (-1)))), th &&& (((1 : Int32) <<< (nI a &&& 31)) ^^^ (-1)), upd (upd bk 22 v) 23 (if la = nI a then -6 else la)) := by
      intro v
      unfold f_X10_leave_B53
      have e23 : upd bk (22 : Int32).toNatClampNeg v (23 : Int32).toNatClampNeg = la := c4
      rw [e23, bits_ok, bd_some, bd_some]
      by_cases g2 : la = nI a
      · rw [if_pos g2, if_pos g2]; rfl
      · rw [if_neg g2, if_neg g2]; rfl
    have e3 : (if bk (22 : Int32).toNatClampNeg = nI a then f_X10_leave_B53 bk (nI a) (-6) (th &&& (((1 : Int32) <<< (nI a &&& 31)) ^^^ (-1))) else f_X10_leave_B53 bk (nI a) (bk (22 : Int32).toNatClampNeg) (th &&& (((1 : Int32) <<< (nI a &&& 31)) ^^^ (-1)))) = some (nI (cn (th &&& (((1 : Int32) <<< (nI a &&& 31)) ^^^ (-1)))), th &&& (((1 : Int32) <<< (nI a &&& 31)) ^^^ (-1)), upd (upd bk 22 (if kg = nI a then -6 else kg)) 23 (if la = nI a then -6 else la)) := by
      rw [e2, e2, e22]
      by_cases g1 : kg = nI a
      · rw [if_pos g1, if_pos g1]
      · rw [if_neg g1, if_neg g1]
    rw [e1, bd_some, e3]
    dsimp only
    rw [hbc, bd_some]
    refine ⟨_, _, rfl, rfl, rfl, ⟨h1, h2, h3, h4, rfl, hin, ⟨fun k hk => ?_, c2, rfl, rfl, c5⟩, ⟨d1, d2, kg_in d3 _, kg_in d4 _, d5⟩, h9⟩, hQ⟩
    show upd (upd bk 22 _) 23 _ k = _ ∧ upd (upd bk 22 _) 23 _ (7 + k) = _ ∧ upd (upd bk 22 _) 23 _ (14 + k) = _
    rw [pk_un (show k ≠ 23 by omega), pk_un (show k ≠ 22 by omega), pk_un (show 7 + k ≠ 23 by omega), pk_un (show 7 + k ≠ 22 by omega), pk_un (show 14 + k ≠ 23 by omega), pk_un (show 14 + k ≠ 22 by omega)]
    exact c1 k hk
theorem crown_post {hm : Int32} {rd : Nat → Int32} {he cr kg la mi : Int32} {pl br rg : Nat → Int32} {sz : Int32} {fs sc : Nat → Int32} {nr ss : Int32} {fr tt mrd : Nat → Int32} {mhm th : Int32} {bk : Nat → Int32} {me : Int32} {mt : Nat → Int32} {si : Int32} {sg : Nat → Int32} (hR : RelR hm rd he cr kg la mi pl br rg sz fs sc nr ss fr tt mrd mhm th bk me mt si sg) (v : Int32) (hv : v = -6 ∨ inR v 7) : RelR hm rd he cr v (-6) mi pl br rg sz fs sc nr ss fr tt mrd mhm th (upd (upd bk 22 v) 23 (-6)) me mt si sg := by
  obtain ⟨h1, h2, h3, h4, h5, h6, ⟨c1, c2, c3, c4, c5⟩, ⟨d1, d2, d3, d4, d5⟩, h9⟩ := hR
  refine ⟨h1, h2, h3, h4, h5, h6, ⟨fun k hk => ?_, c2, rfl, rfl, c5⟩, ⟨d1, d2, hv, Or.inl rfl, d5⟩, h9⟩
  rw [pk_un (show k ≠ 23 by omega), pk_un (show k ≠ 22 by omega), pk_un (show 7 + k ≠ 23 by omega), pk_un (show 7 + k ≠ 22 by omega), pk_un (show 14 + k ≠ 23 by omega), pk_un (show 14 + k ≠ 22 by omega)]
  exact c1 k hk
theorem ok_crown : OK_crown := by
  intro hm rd he cr kg la mi pl br rg sz fs sc nr ss fr tt mrd mhm th bk me mt si sg pz ps ms mp hR hQ p1
  obtain ⟨h1, h2, h3, h4, rfl, h6, ⟨c1, c2, c3, c4, c5⟩, ⟨d1, d2, d3, d4, d5⟩, h9⟩ := id hR
  have e22 : bk (22 : Int32).toNatClampNeg = kg := c3
  unfold f_X9_crown f_X10_crown
  by_cases hp : p1 = -1
  · subst hp
    rw [if_pos rfl, if_pos rfl]
    unfold f_X9_crown_B21 f_X10_crown_B15
    rw [if_pos rfl, if_neg (by decide), e22]
    exact ⟨_, _, rfl, rfl, rfl, crown_post hR (-6) (Or.inl rfl), hQ⟩
  · rw [if_neg hp, if_neg hp, ishere_ok th h6, there_ok, bd_some, bd_some]
    cases hN : (isN 7 p1 && bt th p1.toNatClampNeg) with
    | false =>
      rw [if_f, if_f]
      exact ⟨_, _, rfl, rfl, rfl, hR, hQ⟩
    | true =>
      obtain ⟨a, ha, rfl⟩ := (isN_in (by decide)).mp (Bool.and_eq_true_iff.mp hN).1
      rw [if_t, if_t]
      unfold f_X9_crown_B21 f_X10_crown_B15
      rw [if_neg hp, if_pos (nI_pos' (by omega)), e22]
      exact ⟨_, _, rfl, rfl, rfl, crown_post hR (nI a) (Or.inr ⟨a, ha, rfl⟩), hQ⟩
/-! roads -/
def sumC (rd : Nat → Int32) (n : Nat) : Nat := fb_sm (fun p => cn (rd p)) n
theorem count_ok {rd : Nat → Int32} (h : ∀ p, p < 12 → inR (rd p) 4096) : f_X2_countRoads rd = some (nI (sumC rd 12) / 2) := by
  unfold f_X2_countRoads
  obtain ⟨s', h1, h2⟩ := lup (L := fun n (a : Int32) i => f_X2_countRoads_L4 rd f_X2_countRoads_X4 n a (nI i)) (kE := f_X2_countRoads_X4) 12 (fun i a => a = nI (sumC rd i))
    (fun n i a hi ha => ⟨_, rfl, by
      show f_X2_countRoads_L4 rd f_X2_countRoads_X4 (n + 1) a (nI i) = _
      rw [f_X2_countRoads_L4, if_neg (fun h => by have := (lit_le (a := 12) (by decide) (by omega)).mp h; omega), if_pos (ix_t hi (by decide)), nI_clamp (by omega), bc_ok (h i hi), bd_some, ha, nI_add, nI_1]
      rfl⟩)
    (fun n a ha => by
      show f_X2_countRoads_L4 rd f_X2_countRoads_X4 (n + 1) a (nI 12) = _
      rw [f_X2_countRoads_L4, if_pos (by decide)]) 5000 0 0 (by decide) (by decide) rfl
  refine Eq.trans h2 ?_
  rw [h1]
  rfl
theorem mcount_ok (rd : Nat → Int32) : f_X10_road_L95 f_X10_road_X95 5000 0 0 rd = some (nI (sumC rd 12) / 2, rd) := by
  obtain ⟨s', h1, h2⟩ := lup (L := fun n (a : Int32) i => f_X10_road_L95 f_X10_road_X95 n a (nI i) rd) (kE := fun a => f_X10_road_X95 a rd) 12 (fun i a => a = nI (sumC rd i))
    (fun n i a hi ha => ⟨_, rfl, by
      show f_X10_road_L95 f_X10_road_X95 (n + 1) a (nI i) rd = _
      rw [f_X10_road_L95, if_neg (fun h => by have := (lit_le (a := 12) (by decide) (by omega)).mp h; omega), if_pos (ix_t hi (by decide)), nI_clamp (by omega), bits_ok, bd_some, ha, nI_add, nI_1]
      rfl⟩)
    (fun n a ha => by
      show f_X10_road_L95 f_X10_road_X95 (n + 1) a (nI 12) rd = _
      rw [f_X10_road_L95, if_pos (by decide)]) 5000 0 0 (by decide) (by decide) rfl
  refine Eq.trans h2 ?_
  rw [h1]
  rfl
def layR (rd : Nat → Int32) (a b : Nat) (is : Bool) : Nat → Int32 := fun p => if p = b then (if is then rd b ||| bI a else rd b &&& (bI a ^^^ (-1))) else if p = a then (if is then rd a ||| bI b else rd a &&& (bI b ^^^ (-1))) else rd p
theorem bt_lay {rd : Nat → Int32} {a b : Nat} (hab : a ≠ b) (ha : a < 12) (hb : b < 12) (is : Bool) {p q : Nat} (hq : q < 32) : bt (layR rd a b is p) q = if (p = a ∧ q = b) ∨ (p = b ∧ q = a) then is else bt (rd p) q := by
  unfold layR
  by_cases h1 : p = b
  · subst h1
    rw [if_pos rfl]
    cases is
    · rw [if_neg Bool.false_ne_true, bt_off _ (by omega) hq]
      by_cases h2 : q = a
      · subst h2; simp
      · rw [if_neg (show ¬ ((p = a ∧ q = p) ∨ (p = p ∧ q = a)) by omega), decide_eq_false h2]; simp
    · rw [if_pos rfl, bt_on _ (by omega) hq]
      by_cases h2 : q = a
      · subst h2; simp
      · rw [if_neg (show ¬ ((p = a ∧ q = p) ∨ (p = p ∧ q = a)) by omega), decide_eq_false h2]; simp
  · rw [if_neg h1]
    by_cases h3 : p = a
    · subst h3
      rw [if_pos rfl]
      cases is
      · rw [if_neg Bool.false_ne_true, bt_off _ (by omega) hq]
        by_cases h2 : q = b
        · subst h2; simp
        · rw [if_neg (show ¬ ((p = p ∧ q = b) ∨ (p = b ∧ q = p)) by omega), decide_eq_false h2]; simp
      · rw [if_pos rfl, bt_on _ (by omega) hq]
        by_cases h2 : q = b
        · subst h2; simp
        · rw [if_neg (show ¬ ((p = p ∧ q = b) ∨ (p = b ∧ q = p)) by omega), decide_eq_false h2]; simp
    · rw [if_neg h3, if_neg (show ¬ ((p = a ∧ q = b) ∨ (p = b ∧ q = a)) by omega)]
theorem lay_ok {rd : Nat → Int32} {a b : Nat} (hab : a ≠ b) (ha : a < 12) (hb : b < 12) (h : LandOK rd) (is : Bool) : LandOK (layR rd a b is) := by
  obtain ⟨h1, h2, h3⟩ := h
  refine ⟨fun p hp => inR_of (m := 12) (fun i hi h32 => ?_), fun p q hp hq => ?_, fun p hp => ?_⟩
  · rw [bt_lay hab ha hb is h32, if_neg (by omega)]
    exact inR_hi (m := 12) (h1 p hp) hi
  · rw [bt_lay hab ha hb is (by omega), bt_lay hab ha hb is (by omega), h2 p q hp hq]
    by_cases g : (p = a ∧ q = b) ∨ (p = b ∧ q = a)
    · rw [if_pos g, if_pos (by omega)]
    · rw [if_neg g, if_neg (by omega)]
  · rw [bt_lay hab ha hb is (by omega), if_neg (by omega)]
    exact h3 p hp
theorem clay_ok (rd : Nat → Int32) {a b : Nat} (hab : a ≠ b) (ha : a < 12) (hb : b < 12) (is : Bool) : f_X2_lay rd (nI a) (nI b) (b2 is) = some (layR rd a b is) := by
  have key : ∀ x y : Int32, x = (if is then rd a ||| bI b else rd a &&& (bI b ^^^ (-1))) → y = (if is then rd b ||| bI a else rd b &&& (bI a ^^^ (-1))) → upd (upd rd a x) b y = layR rd a b is := by
    intro x y hx hy
    subst hx
    subst hy
    funext p
    unfold layR
    by_cases h1 : p = b
    · subst h1
      rw [pk_us, if_pos rfl]
    · rw [pk_un h1, if_neg h1]
      by_cases h2 : p = a
      · subst h2
        rw [pk_us, if_pos rfl]
      · rw [pk_un h2, if_neg h2]
  unfold f_X2_lay
  rw [place_ok, bd_some, isN_t (by decide) ha, if_t, place_ok, bd_some, isN_t (by decide) hb, if_t, if_pos (ix_t ha (by decide)), nI_clamp (by omega)]
  cases is
  · rw [b2_f, mk_off, bd_some, if_pos (ix_t hb (by decide)), nI_clamp (by omega), pk_un (fun e => hab e.symm), mk_off, bd_some]; exact congrArg some (key _ _ rfl rfl)
  · rw [b2_t, mk_on, bd_some, if_pos (ix_t hb (by decide)), nI_clamp (by omega), pk_un (fun e => hab e.symm), mk_on, bd_some]; exact congrArg some (key _ _ rfl rfl)
theorem mlay (rd : Nat → Int32) {a b : Nat} (hab : a ≠ b) (x y : Int32) : upd (upd (upd (upd rd a (rd a &&& (bI b ^^^ (-1)))) b ((upd rd a (rd a &&& (bI b ^^^ (-1)))) b &&& (bI a ^^^ (-1)))) a ((upd (upd rd a (rd a &&& (bI b ^^^ (-1)))) b ((upd rd a (rd a &&& (bI b ^^^ (-1)))) b &&& (bI a ^^^ (-1)))) a ||| x)) b ((upd (upd (upd rd a (rd a &&& (bI b ^^^ (-1)))) b ((upd rd a (rd a &&& (bI b ^^^ (-1)))) b &&& (bI a ^^^ (-1)))) a ((upd (upd rd a (rd a &&& (bI b ^^^ (-1)))) b ((upd rd a (rd a &&& (bI b ^^^ (-1)))) b &&& (bI a ^^^ (-1)))) a ||| x)) b ||| y)
    = fun p => if p = b then (rd b &&& (bI a ^^^ (-1))) ||| y else if p = a then (rd a &&& (bI b ^^^ (-1))) ||| x else rd p := by
  have hba : b ≠ a := fun e => hab e.symm
  funext p
  simp only [upd]
  by_cases h1 : p = b
  · subst h1
    simp [hba]
  · by_cases h2 : p = a
    · subst h2
      simp [hab]
    · simp [h1, h2]
theorem mroad_ok (rd : Nat → Int32) {a b : Nat} (hab : a ≠ b) (ha : a < 12) (hb : b < 12) (is : Bool) : f_X10_road rd (nI a) (nI b) (b2 is) = some (nI (sumC (layR rd a b is) 12) / 2, layR rd a b is) := by
  have hab' : ¬ nI a = nI b := fun e => hab (nI_inj' (by omega) (by omega) e)
  unfold f_X10_road
  rw [mplace_ok, bd_some, isN_t (by decide) ha, if_t, mplace_ok, bd_some, isN_t (by decide) hb, if_t, if_neg hab', if_pos (ix_t ha (by decide)), if_pos (ix_t hb (by decide))]
  unfold f_X10_road_B67 f_X10_road_B87
  rw [nI_clamp (by omega), nI_clamp (by omega)]
  have hm := mlay rd hab
  unfold bI at hm
  cases is
  · rw [if_f, if_f, hm, mcount_ok]
    have e : (fun p => if p = b then (rd b &&& (((1 : Int32) <<< (nI a &&& 31)) ^^^ (-1))) ||| 0 else if p = a then (rd a &&& (((1 : Int32) <<< (nI b &&& 31)) ^^^ (-1))) ||| 0 else rd p) = layR rd a b false := by
      funext p
      unfold layR
      rw [or_0, or_0]
      rfl
    rw [e]
  · rw [if_t, if_t, hm, mcount_ok]
    have e : (fun p => if p = b then (rd b &&& (((1 : Int32) <<< (nI a &&& 31)) ^^^ (-1))) ||| ((1 : Int32) <<< (nI a &&& 31)) else if p = a then (rd a &&& (((1 : Int32) <<< (nI b &&& 31)) ^^^ (-1))) ||| ((1 : Int32) <<< (nI b &&& 31)) else rd p) = layR rd a b true := by
      funext p
      have e1 := set_on (rd b) (k := a) (by omega)
      have e2 := set_on (rd a) (k := b) (by omega)
      unfold bI at e1 e2
      unfold layR bI
      rw [e1, e2]
      rfl
    rw [e]
theorem sumC_congr {f g : Nat → Int32} (h : ∀ p, p < 12 → f p = g p) : sumC f 12 = sumC g 12 := fb_sm_cong (fun k hk => by rw [h k hk])
theorem ok_road : OK_road := by
  intro hm rd he cr kg la mi pl br rg sz fs sc nr ss fr tt mrd mhm th bk me mt si sg pz ps ms mp hR hQ p1 p2 p3 hp3
  obtain ⟨h1, h2, h3⟩ := id hR
  obtain ⟨is, rfl⟩ : ∃ is : Bool, p3 = b2 is := by
    rcases hp3 with rfl | rfl
    · exact ⟨false, rfl⟩
    · exact ⟨true, rfl⟩
  by_cases hN : inR p1 12 ∧ inR p2 12 ∧ p1 ≠ p2
  · obtain ⟨⟨a, ha, rfl⟩, ⟨b, hb, rfl⟩, hne⟩ := hN
    have hab : a ≠ b := fun e => hne (by rw [e])
    have hl := lay_ok hab ha hb h2 is
    have e2 : f_X9_road rd (nI a) (nI b) (b2 is) = some (nI (sumC (layR rd a b is) 12) / 2, layR rd a b is) := by
      unfold f_X9_road
      rw [place_ok, bd_some, isN_t (by decide) ha, if_t, place_ok, bd_some, isN_t (by decide) hb, if_t, if_neg hne, clay_ok rd hab ha hb is, bd_some, count_ok hl.1, bd_some]
    have hc : ∀ p, p < 12 → layR mrd a b is p = layR rd a b is p := by
      intro p hp
      unfold layR
      rw [h1 a ha, h1 b hb, h1 p hp]
    rw [mroad_ok mrd hab ha hb is, e2, sumC_congr hc]
    exact ⟨_, _, rfl, rfl, rfl, ⟨hc, hl, h3⟩, hQ⟩
  · have e1 : ∀ r : Nat → Int32, f_X10_road r p1 p2 (b2 is) = some (-1, r) := by
      intro r
      unfold f_X10_road
      rw [mplace_ok, bd_some]
      cases g1 : isN 12 p1 with
      | false => rw [if_f]
      | true =>
        rw [if_t, mplace_ok, bd_some]
        cases g2 : isN 12 p2 with
        | false => rw [if_f]
        | true =>
          rw [if_t, if_pos (Classical.byContradiction (fun g3 => hN ⟨(isN_in (by decide)).mp g1, (isN_in (by decide)).mp g2, g3⟩))]
    have e2 : f_X9_road rd p1 p2 (b2 is) = some (-1, rd) := by
      unfold f_X9_road
      rw [place_ok, bd_some]
      cases g1 : isN 12 p1 with
      | false => rw [if_f]
      | true =>
        rw [if_t, place_ok, bd_some]
        cases g2 : isN 12 p2 with
        | false => rw [if_f]
        | true =>
          rw [if_t, if_pos (Classical.byContradiction (fun g3 => hN ⟨(isN_in (by decide)).mp g1, (isN_in (by decide)).mp g2, g3⟩))]
    rw [e1, e2]
    exact ⟨_, _, rfl, rfl, rfl, hR, hQ⟩
