/-! judge, done, behind, then -/
theorem rng_ok (p : Int32) (N : Nat) (hN : N < 2 ^ 30) {hi : Int32} (hhi : hi = nI N) : (p < 0 ∧ f_X10_in p 0 hi = some (b2 false)) ∨ (¬ p < 0 ∧ ¬ p ≤ hi ∧ f_X10_in p 0 hi = some (b2 false)) ∨ (∃ w : Nat, w ≤ N ∧ p = nI w ∧ ¬ p < 0 ∧ p ≤ hi ∧ f_X10_in p 0 hi = some (b2 true)) := by
  subst hhi
  have t0 : (0 : Int32).toInt = 0 := rfl
  have tN : (nI N).toInt = N := nI_toInt (by omega)
  rw [in_ok]
  by_cases g1 : p < 0
  · have := rg_lo.mp g1
    exact Or.inl ⟨g1, by rw [decide_eq_false (by omega)]⟩
  · have h1 := n_lo g1
    by_cases g2 : p ≤ nI N
    · have h2 := rg_le.mp g2
      obtain ⟨j, hj, rfl⟩ := nI_of g1
      have tj : (nI j).toInt = j := nI_toInt hj
      exact Or.inr (Or.inr ⟨j, by omega, rfl, g1, g2, by rw [decide_eq_true (by omega)]⟩)
    · have h2 := n_le g2
      exact Or.inr (Or.inl ⟨g1, g2, by rw [decide_eq_false (by omega)]⟩)
theorem scan_pos {c : Nat → Nat} {k : Nat} (hk : k ≤ 60) : ∀ d i st, i + d ≤ k → scanR c k d i st = -6 ∨ ∃ j : Nat, j ≤ 60 ∧ scanR c k d i st = nI j := by
  intro d
  induction d with
  | zero =>
    intro i st _
    rw [scanR]
    by_cases g : st = 0
    · rw [if_pos g]; exact Or.inl rfl
    · rw [if_neg g]; exact Or.inr ⟨k, hk, rfl⟩
  | succ d ih =>
    intro i st hi
    rw [scanR]
    by_cases g : au st (c i) = 3
    · rw [if_pos g]; exact Or.inr ⟨i, by omega, rfl⟩
    · rw [if_neg g]; exact ih (i + 1) _ (by omega)
theorem ok_judge : OK_judge := by
  intro hm rd he cr kg la mi pl br rg sz fs sc nr ss fr tt mrd mhm th bk me mt si sg pz ps ms mp hR hQ t1 t2 t3 t4 t5 t6 t7 t8 t9 t10 tpl tbr trg mto mft mre mac mnw p1
  obtain ⟨r1, r2, rfl, r4, rfl, r6, r7, r8, r9, r10⟩ := id hR
  obtain ⟨k, c, hk, rfl, rfl, h1, h2⟩ := pad_c hQ
  unfold f_X9_judge f_X10_judge
  rcases rng_ok p1 1 (by decide) (hi := 1) rfl with ⟨g, e⟩ | ⟨g1, g2, e⟩ | ⟨w, hw, rfl, g1, g2, e⟩
  · rw [if_pos g, e, bd_some, if_f]
    exact ⟨_, _, rfl, rfl, rfl, hR, hQ⟩
  · rw [if_neg g1, if_neg g2, e, bd_some, if_f]
    exact ⟨_, _, rfl, rfl, rfl, hR, hQ⟩
  · rw [if_neg g1, if_pos g2, e, bd_some, if_t, cfault_ok hk h1, bd_some, mfault_ok hk h2, bd_some]
    rcases scan_pos (c := c) hk k 0 0 (by omega) with g | ⟨j, hj, g⟩
    · obtain ⟨ac, st, wy, to, ft, re, cr', kg', la', mi', pl', br', rg', nw', hX, hY, hI', hO', hst⟩ := go_ok r7 r8 r6 r4 r1 hk h1 h2 g t1 t2 t3 t4 t5 t6 t7 t8 t9 t10 tpl tbr trg mto mft mre mac mnw
      rw [g, if_pos rfl, if_pos (show (-6 : Int32) < 0 by decide), hX, bd_some, hY, bd_some]
      dsimp only
      rcases hst with ⟨e1, e2⟩ | ⟨z, hz, e1, e2⟩
      · rw [e1, e2, if_pos (show (-6 : Int32) < 0 by decide)]
        by_cases w0 : nI w = 0
        · rw [if_pos w0]; exact ⟨_, _, rfl, rfl, rfl, hR, hQ⟩
        · rw [if_neg w0]; exact ⟨_, _, rfl, rfl, rfl, hR, hQ⟩
      · rw [e1, e2, if_neg (nI_pos (by omega))]
        by_cases w0 : nI w = 0
        · rw [if_pos w0, if_pos w0]; exact ⟨_, _, rfl, rfl, rfl, hR, hQ⟩
        · rw [if_neg w0, if_neg w0]; exact ⟨_, _, rfl, rfl, rfl, hR, hQ⟩
    · rw [g, if_neg (nn6 (by omega)), if_neg (nI_pos (by omega))]
      exact ⟨_, _, rfl, rfl, rfl, hR, hQ⟩
abbrev CB : Type := Int32 × Int32 × Int32 × Int32 × Int32 × Int32 × Int32 × Int32 × Int32 × Int32 × (Nat → Int32) × (Nat → Int32) × (Nat → Int32)
abbrev MB : Type := Int32 × Int32 × Int32 × Int32 × (Nat → Int32)
theorem dcb_ok {he cr kg la mi hm : Int32} {rd mrd pl br rg bk : Nat → Int32} (hI : CourtIs cr kg la mi pl br rg bk) (hO : CourtOK cr kg la mi pl br) (hhe : inR he 128) (hhm : inR hm 4096) (hrd : ∀ p, p < 12 → mrd p = rd p) {k : Nat} {c : Nat → Nat} {ps mp : Nat → Int32} (hk : k ≤ 60) (hps : ∀ i, i < k → ps i = nI (c i) ∧ c i < 127) (hmp : ∀ i, i < k → mp i = nI (c i) ∧ c i < 127) (t1 t2 t3 t4 t5 t6 t7 t8 t9 t10 : Int32) (tpl tbr trg : Nat → Int32) (mto mft mre mac : Int32) (mnw : Nat → Int32) : (∃ (x : CB) (y : MB), f_X9_daysCanBe hm rd he cr kg la mi pl br rg (nI k) ps t1 t2 t3 t4 t5 t6 t7 t8 t9 t10 tpl tbr trg = some (0, x) ∧ f_X10_barOfDays hm he (nI k) mto mft mre mac mrd bk mnw mp = some (-5, y)) ∨ (∃ (ac st wy to ft re cr' kg' la' mi' : Int32) (pl' br' rg' nw' : Nat → Int32), f_X9_daysCanBe hm rd he cr kg la mi pl br rg (nI k) ps t1 t2 t3 t4 t5 t6 t7 t8 t9 t10 tpl tbr trg = some (1, ac, st, wy, to, ft, he, cr', kg', la', mi', pl', br', rg') ∧ f_X10_barOfDays hm he (nI k) mto mft mre mac mrd bk mnw mp = some (0, to, ft, re, ac, nw') ∧ CourtIs cr' kg' la' mi' pl' br' rg' nw' ∧ CourtOK cr' kg' la' mi' pl' br') := by
  unfold f_X9_daysCanBe f_X10_barOfDays
  rw [cfault_ok hk hps, bd_some, mfault_ok hk hmp, bd_some]
  rcases scan_pos (c := c) hk k 0 0 (by omega) with g | ⟨j, hj, g⟩
  · obtain ⟨ac, st, wy, to, ft, re, cr', kg', la', mi', pl', br', rg', nw', hX, hY, hI', hO', hst⟩ := go_ok hI hO hhe hhm hrd hk hps hmp g t1 t2 t3 t4 t5 t6 t7 t8 t9 t10 tpl tbr trg mto mft mre mac mnw
    rw [g, if_pos rfl, if_neg (show ¬ (0 : Int32) ≤ -6 by decide), hX, bd_some, hY, bd_some]
    dsimp only
    rcases hst with ⟨e1, e2⟩ | ⟨z, hz, e1, e2⟩
    · rw [e1, if_pos rfl, if_pos (show (-6 : Int32) < 0 by decide)]
      exact Or.inr ⟨_, _, _, _, _, _, _, _, _, _, _, _, _, _, rfl, rfl, hI', hO'⟩
    · rw [e1, if_neg (nn6 (by omega)), if_neg (nI_pos (by omega))]
      exact Or.inl ⟨_, _, rfl, rfl⟩
  · rw [g, if_neg (nn6 (by omega)), if_pos (nI_pos' (by omega))]
    exact Or.inl ⟨_, _, rfl, rfl⟩
theorem mdone_loop (x1 : GT) (kE : (Nat → Int32) → Option (Int32 × Int32 × Int32 × Int32 × Int32 × Int32 × (Nat → Int32) × (Nat → Int32))) (bk : Nat → Int32) : ∃ bk', f_X10_done_L12 x1 kE 5000 0 bk = kE bk' ∧ ∀ k, k < 25 → bk' k = x1.2.2.2.2.2 k := by
  obtain ⟨nw, h1, h2⟩ := lup (L := fun f (s : Nat → Int32) i => f_X10_done_L12 x1 kE f (nI i) s) (kE := kE) 25 (fun i s => ∀ x, x < i → s x = x1.2.2.2.2.2 x)
    (fun f i s hi hs => by
      refine ⟨upd s i (x1.2.2.2.2.2 i), fun x hx => ?_, ?_⟩
      · by_cases e : x = i
        · rw [e, pk_us]
        · rw [pk_un e]; exact hs x (by omega)
      · show f_X10_done_L12 x1 kE (f + 1) (nI i) s = _
        rw [f_X10_done_L12, if_neg (show ¬ (25 : Int32) ≤ nI i from nI_ge (b := 25) hi (by decide)), if_pos (ix_t hi (by decide)), nI_1, nI_clamp (by omega)])
    (fun f s hs => by
      show f_X10_done_L12 x1 kE (f + 1) (nI 25) s = _
      rw [f_X10_done_L12, if_pos (by decide)]) 5000 0 bk (by decide) (by decide) (fun x hx => absurd hx (Nat.not_lt_zero x))
  exact ⟨nw, h2, h1⟩
theorem ok_done : OK_done := by
  intro hm rd he cr kg la mi pl br rg sz fs sc nr ss fr tt mrd mhm th bk me mt si sg pz ps ms mp hR hQ t1 t2 t3 t4 t5 t6 t7 t8 t9 t10 tpl tbr trg mto mft mre mac mnw
  obtain ⟨r1, r2, rfl, r4, rfl, r6, r7, r8, r9, r10⟩ := id hR
  obtain ⟨k, c, hk, rfl, rfl, h1, h2⟩ := pad_c hQ
  unfold f_X9_done f_X10_done
  rcases dcb_ok r7 r8 r6 r4 r1 hk h1 h2 t1 t2 t3 t4 t5 t6 t7 t8 t9 t10 tpl tbr trg mto mft mre mac mnw with ⟨x, y, e1, e2⟩ | ⟨ac, st, wy, to, ft, re, cr', kg', la', mi', pl', br', rg', nw', e1, e2, hI', hO'⟩
  · rw [e1, bd_some, e2, bd_some]
    dsimp only
    rw [if_pos rfl, if_neg (show ¬ (0 : Int32) ≤ -5 by decide)]
    exact ⟨_, _, rfl, rfl, rfl, hR, hQ⟩
  · rw [e1, bd_some, e2, bd_some]
    dsimp only
    obtain ⟨bk', b1, b2'⟩ := mdone_loop (0, to, ft, re, ac, nw') (f_X10_done_X12 (0, to, ft, re, ac, nw')) bk
    rw [if_neg (show ¬ (1 : Int32) = 0 by decide), if_pos (show (0 : Int32) ≤ 0 by decide), b1]
    unfold f_X1_copy f_X10_done_X12
    rw [bd_some]
    dsimp only
    refine ⟨_, _, rfl, rfl, rfl, ⟨r1, r2, rfl, r4, rfl, r6, ci_cpy hI' b2' (fun k hk => ⟨cpy7 _ _ hk, cpy7 _ _ hk, cpy7 _ _ hk⟩), co_cpy hO' (fun k hk => ⟨cpy7 _ _ hk, cpy7 _ _ hk⟩), r9, r10⟩, ⟨0, by decide, rfl, rfl, fun i hi => absurd hi (Nat.not_lt_zero i)⟩⟩
theorem ok_behind : OK_behind := by
  intro hm rd he cr kg la mi pl br rg sz fs sc nr ss fr tt mrd mhm th bk me mt si sg pz ps ms mp hR hQ t1 t2 t3 t4 t5 t6 t7 t8 t9 t10 tpl tbr trg mto mft mre mac mnw p1 p2
  obtain ⟨r1, r2, rfl, r4, rfl, r6, r7, r8, r9, r10⟩ := id hR
  obtain ⟨k, c, hk, rfl, rfl, h1, h2⟩ := pad_c hQ
  unfold f_X9_behind f_X10_behind
  rw [ishere_ok th r6, bd_some, there_ok, bd_some]
  cases hb : (isN 7 p1 && bt th p1.toNatClampNeg) with
  | false =>
    rw [if_f, if_f]
    exact ⟨_, _, rfl, rfl, rfl, hR, hQ⟩
  | true =>
    obtain ⟨a, ha, rfl⟩ := (isN_in (by decide)).mp (Bool.and_eq_true_iff.mp hb).1
    rw [if_t, if_t]
    rcases rng_ok p2 2 (by decide) (hi := 2) rfl with ⟨g, e⟩ | ⟨g1, g2, e⟩ | ⟨w, hw, rfl, g1, g2, e⟩
    · rw [if_pos g, e, bd_some, if_f]
      exact ⟨_, _, rfl, rfl, rfl, hR, hQ⟩
    · rw [if_neg g1, if_neg g2, e, bd_some, if_f]
      exact ⟨_, _, rfl, rfl, rfl, hR, hQ⟩
    · rw [if_neg g1, if_pos g2, e, bd_some, if_t]
      rcases dcb_ok r7 r8 r6 r4 r1 hk h1 h2 t1 t2 t3 t4 t5 t6 t7 t8 t9 t10 tpl tbr trg mto mft mre mac mnw with ⟨x, y, e1, e2⟩ | ⟨ac, st, wy, to, ft, re, cr', kg', la', mi', pl', br', rg', nw', e1, e2, hI', hO'⟩
      · rw [e1, bd_some, e2, bd_some]
        dsimp only
        rw [if_pos rfl, if_neg (show ¬ (0 : Int32) ≤ -5 by decide)]
        exact ⟨_, _, rfl, rfl, rfl, hR, hQ⟩
      · rw [e1, bd_some, e2, bd_some]
        dsimp only
        rw [if_neg (show ¬ (1 : Int32) = 0 by decide), if_pos (show (0 : Int32) ≤ 0 by decide), m_7, nI_add, if_pos (ix_t (by omega) (by decide)), nI_clamp (by omega), plc_ok pl' ha, bd_some, bre_ok br' ha, bd_some, rei_ok rg' ha, bd_some]
        have hc := hI'.1 a ha
        rcases (show w = 0 ∨ w = 1 ∨ w = 2 by omega) with rfl | rfl | rfl
        · rw [if_pos (show nI 0 = 0 from rfl)]
          refine ⟨_, _, rfl, rfl, ?_, hR, hQ⟩
          show pl' a = nw' (7 * 0 + a)
          rw [show 7 * 0 + a = a by omega]
          exact hc.1.symm
        · rw [if_neg (show ¬ nI 1 = 0 by decide), if_pos (show nI 1 = 1 from rfl)]
          refine ⟨_, _, rfl, rfl, ?_, hR, hQ⟩
          show br' a = nw' (7 * 1 + a)
          exact hc.2.1.symm
        · rw [if_neg (show ¬ nI 2 = 0 by decide), if_neg (show ¬ nI 2 = 1 by decide)]
          refine ⟨_, _, rfl, rfl, ?_, hR, hQ⟩
          show rg' a = nw' (7 * 2 + a)
          exact hc.2.2.symm
theorem ok_then : OK_then := by
  intro hm rd he cr kg la mi pl br rg sz fs sc nr ss fr tt mrd mhm th bk me mt si sg pz ps ms mp hR hQ t1 t2 t3 t4 t5 t6 t7 t8 t9 t10 tpl tbr trg mto mft mre mac mnw p1
  obtain ⟨r1, r2, rfl, r4, rfl, r6, r7, r8, r9, r10⟩ := id hR
  obtain ⟨k, c, hk, rfl, rfl, h1, h2⟩ := pad_c hQ
  unfold f_X9_then f_X10_then
  rcases rng_ok p1 4 (by decide) (hi := 4) rfl with ⟨g, e⟩ | ⟨g1, g2, e⟩ | ⟨w, hw, rfl, g1, g2, e⟩
  · rw [if_pos g, e, bd_some, if_f]
    exact ⟨_, _, rfl, rfl, rfl, hR, hQ⟩
  · rw [if_neg g1, if_neg g2, e, bd_some, if_f]
    exact ⟨_, _, rfl, rfl, rfl, hR, hQ⟩
  · rw [if_neg g1, if_pos g2, e, bd_some, if_t]
    rcases dcb_ok r7 r8 r6 r4 r1 hk h1 h2 t1 t2 t3 t4 t5 t6 t7 t8 t9 t10 tpl tbr trg mto mft mre mac mnw with ⟨x, y, e1, e2⟩ | ⟨ac, st, wy, to, ft, re, cr', kg', la', mi', pl', br', rg', nw', e1, e2, hI', hO'⟩
    · rw [e1, bd_some, e2, bd_some]
      dsimp only
      rw [if_pos rfl, if_neg (show ¬ (0 : Int32) ≤ -5 by decide)]
      exact ⟨_, _, rfl, rfl, rfl, hR, hQ⟩
    · rw [e1, bd_some, e2, bd_some]
      dsimp only
      obtain ⟨-, c2, c3, c4, c5⟩ := hI'
      rw [if_neg (show ¬ (1 : Int32) = 0 by decide), if_pos (show (0 : Int32) ≤ 0 by decide)]
      rcases (show w = 0 ∨ w = 1 ∨ w = 2 ∨ w = 3 ∨ w = 4 by omega) with rfl | rfl | rfl | rfl | rfl
      · rw [if_pos (show nI 0 = 0 from rfl), if_neg (show ¬ (3 : Int32) ≤ nI 0 by decide), q_22, if_pos (ix_t (by decide) (by decide)), nI_clamp (by decide)]
        exact ⟨_, _, rfl, rfl, c3.symm, hR, hQ⟩
      · rw [if_neg (show ¬ nI 1 = 0 by decide), if_pos (show nI 1 = 1 from rfl), if_neg (show ¬ (3 : Int32) ≤ nI 1 by decide), q_22, if_pos (ix_t (by decide) (by decide)), nI_clamp (by decide)]
        exact ⟨_, _, rfl, rfl, c4.symm, hR, hQ⟩
      · rw [if_neg (show ¬ nI 2 = 0 by decide), if_neg (show ¬ nI 2 = 1 by decide), if_pos (show nI 2 = 2 from rfl), if_neg (show ¬ (3 : Int32) ≤ nI 2 by decide), q_22, if_pos (ix_t (by decide) (by decide)), nI_clamp (by decide)]
        exact ⟨_, _, rfl, rfl, c5.symm, hR, hQ⟩
      · rw [if_neg (show ¬ nI 3 = 0 by decide), if_neg (show ¬ nI 3 = 1 by decide), if_neg (show ¬ nI 3 = 2 by decide), if_pos (show (3 : Int32) ≤ nI 3 by decide), if_pos (show nI 3 = 3 from rfl), if_pos (show nI 3 = 3 from rfl)]
        exact ⟨_, _, rfl, rfl, rfl, hR, hQ⟩
      · rw [if_neg (show ¬ nI 4 = 0 by decide), if_neg (show ¬ nI 4 = 1 by decide), if_neg (show ¬ nI 4 = 2 by decide), if_pos (show (3 : Int32) ≤ nI 4 by decide), if_neg (show ¬ nI 4 = 3 by decide), if_neg (show ¬ nI 4 = 3 by decide)]
        exact ⟨_, _, rfl, rfl, rfl, hR, hQ⟩
