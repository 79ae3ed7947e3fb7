/-! a year -/
theorem draw_y {x y : Nat} (hx : x < 65537) (hy : y = (75 * x + 74) % 65537) : (75 : Int32) * nI x + (74 : Int32) - ((75 : Int32) * nI x + (74 : Int32)) / (65537 : Int32) * (65537 : Int32) = nI y := by
  rw [m_75, p_74, hy]
  exact pk_rem (d := 65537) (by omega) (by decide) (by decide)
theorem draw_7 {y : Nat} (hy : y < 65537) : nI y - nI y / (7 : Int32) * (7 : Int32) = nI (y % 7) := pk_rem (d := 7) (by omega) (by decide) (by decide)
theorem draw_h {y : Nat} (hy : y < 65537) : nI y / (7 : Int32) - nI y / (7 : Int32) / (8 : Int32) * (8 : Int32) = nI (y / 7 % 8) := by
  rw [show nI y / (7 : Int32) = nI (y / 7) from pk_div (d := 7) (by omega) (by decide) (by decide)]
  exact pk_rem (d := 8) (by omega) (by decide) (by decide)
theorem draw_12 {y : Nat} (hy : y < 65537) : nI y / (56 : Int32) - nI y / (56 : Int32) / (12 : Int32) * (12 : Int32) = nI (y / 56 % 12) := by
  rw [show nI y / (56 : Int32) = nI (y / 56) from pk_div (d := 56) (by omega) (by decide) (by decide)]
  exact pk_rem (d := 12) (by omega) (by decide) (by decide)
theorem draw_77 {y : Nat} (hy : y < 65537) : nI y / (56 : Int32) - nI y / (56 : Int32) / (7 : Int32) * (7 : Int32) = nI (y / 56 % 7) := by
  rw [show nI y / (56 : Int32) = nI (y / 56) from pk_div (d := 56) (by omega) (by decide) (by decide)]
  exact pk_rem (d := 7) (by omega) (by decide) (by decide)
theorem cyear_step {m i x y f : Nat} {he hm : Int32} {rd : Nat → Int32} {x5 : DT} (h53 : x5.2.2.2.2.2.1 = he) (kC : Int32 → Int32 → Int32 → Int32 → Int32 → Int32 → Int32 → (Nat → Int32) → (Nat → Int32) → (Nat → Int32) → Option DT) (hm' : m ≤ 99) (hi : i < m) (hx : x < 65537) (hy : y = (75 * x + 74) % 65537) (ac to ft cr kg la mi : Int32) (pl br rg : Nat → Int32) : f_X8_runYear_L14 hm rd (nI m) x5 kC (f + 1) (nI x) (nI i) ac to ft cr kg la mi pl br rg = (f_X8_kindDrawn (nI (y / 7 % 8))).bind (fun x41 => if x41 = (1 : Int32) then (f_X8_attempt ac to ft he cr kg la mi pl br rg hm rd x41 (nI (y % 7)) (nI (y / 56 % 7))).bind (fun z => f_X8_runYear_L14 hm rd (nI m) x5 kC f (nI y) (nI (i + 1)) z.2.1 z.2.2.1 z.2.2.2.1 z.2.2.2.2.1 z.2.2.2.2.2.1 z.2.2.2.2.2.2.1 z.2.2.2.2.2.2.2.1 z.2.2.2.2.2.2.2.2.1 z.2.2.2.2.2.2.2.2.2.1 z.2.2.2.2.2.2.2.2.2.2) else (f_X8_attempt ac to ft he cr kg la mi pl br rg hm rd x41 (nI (y % 7)) (nI (y / 56 % 12))).bind (fun z => f_X8_runYear_L14 hm rd (nI m) x5 kC f (nI y) (nI (i + 1)) z.2.1 z.2.2.1 z.2.2.2.1 z.2.2.2.2.1 z.2.2.2.2.2.1 z.2.2.2.2.2.2.1 z.2.2.2.2.2.2.2.1 z.2.2.2.2.2.2.2.2.1 z.2.2.2.2.2.2.2.2.2.1 z.2.2.2.2.2.2.2.2.2.2)) := by
  have hy2 : y < 65537 := by omega
  rw [f_X8_runYear_L14, if_neg (nI_ge hi (by omega)), draw_y hx hy, draw_h hy2, draw_7 hy2, draw_12 hy2, draw_77 hy2, nI_1, h53]
theorem myear_step {m i x y g : Nat} {he hm : Int32} {mrd : Nat → Int32} (kM : Int32 → (Nat → Int32) → Option (Int32 × Int32 × Int32 × (Nat → Int32))) (hm' : m ≤ 99) (hi : i < m) (hx : x < 65537) (hy : y = (75 * x + 74) % 65537) (to : Int32) (nw : Nat → Int32) : f_X10_year_L43 hm he mrd (nI m) kM (g + 1) (nI x) (nI i) to nw = (if (3 : Int32) ≤ nI (y / 7 % 8) then (if (5 : Int32) ≤ nI (y / 7 % 8) then (if nI (y / 7 % 8) = (5 : Int32) then (f_X10_rest he nw (nI (y % 7))).bind (fun z => f_X10_year_L43 hm he mrd (nI m) kM g (nI y) (nI (i + 1)) to z.2) else (if nI (y / 7 % 8) = (6 : Int32) then (f_X10_cross he nw (nI (y % 7))).bind (fun z => f_X10_year_L43 hm he mrd (nI m) kM g (nI y) (nI (i + 1)) to z.2) else (f_X10_minute nw).bind (fun z => f_X10_year_L43 hm he mrd (nI m) kM g (nI y) (nI (i + 1)) to z.2))) else (f_X10_touch hm he to nw (nI (y % 7)) (nI (y / 56 % 7))).bind (fun z => f_X10_year_L43 hm he mrd (nI m) kM g (nI y) (nI (i + 1)) z.2.1 z.2.2)) else (f_X10_run he mrd nw (nI (y % 7)) (nI (y / 56 % 12))).bind (fun z => f_X10_year_L43 hm he mrd (nI m) kM g (nI y) (nI (i + 1)) to z.2)) := by
  have hy2 : y < 65537 := by omega
  rw [f_X10_year_L43, if_neg (nI_ge hi (by omega)), draw_y hx hy, draw_h hy2, draw_7 hy2, draw_12 hy2, draw_77 hy2, nI_1]
theorem year_loop {m : Nat} (hm' : m ≤ 99) {he hm : Int32} {rd mrd : Nat → Int32} (hhe : inR he 128) (hhm : inR hm 4096) (hrd : ∀ p, p < 12 → mrd p = rd p) {x5 : DT} (h53 : x5.2.2.2.2.2.1 = he) (kC : Int32 → Int32 → Int32 → Int32 → Int32 → Int32 → Int32 → (Nat → Int32) → (Nat → Int32) → (Nat → Int32) → Option DT) (kM : Int32 → (Nat → Int32) → Option (Int32 × Int32 × Int32 × (Nat → Int32))) : ∀ (d i x f g : Nat) (ac to ft cr kg la mi : Int32) (pl br rg nw : Nat → Int32), i + d = m → d < f → d < g → x < 65537 → CourtIs cr kg la mi pl br rg nw → CourtOK cr kg la mi pl br → ∃ (ac' to' ft' cr' kg' la' mi' : Int32) (pl' br' rg' nw' : Nat → Int32), f_X8_runYear_L14 hm rd (nI m) x5 kC f (nI x) (nI i) ac to ft cr kg la mi pl br rg = kC ac' to' ft' cr' kg' la' mi' pl' br' rg' ∧ f_X10_year_L43 hm he mrd (nI m) kM g (nI x) (nI i) to nw = kM to' nw' ∧ CourtIs cr' kg' la' mi' pl' br' rg' nw' ∧ CourtOK cr' kg' la' mi' pl' br' := by
  intro d
  induction d with
  | zero =>
    intro i x f g ac to ft cr kg la mi pl br rg nw hi hf hg hx hI hO
    obtain ⟨f, rfl⟩ : ∃ f', f = f' + 1 := ⟨f - 1, by omega⟩
    obtain ⟨g, rfl⟩ : ∃ g', g = g' + 1 := ⟨g - 1, by omega⟩
    obtain rfl : i = m := by omega
    have hle : nI i ≤ nI i := nI_le (Nat.le_refl _) (by omega)
    rw [f_X8_runYear_L14, f_X10_year_L43, if_pos hle, if_pos hle]
    exact ⟨_, _, _, _, _, _, _, _, _, _, _, rfl, rfl, hI, hO⟩
  | succ d ih =>
    intro i x f g ac to ft cr kg la mi pl br rg nw hi hf hg hx hI hO
    obtain ⟨f, rfl⟩ : ∃ f', f = f' + 1 := ⟨f - 1, by omega⟩
    obtain ⟨g, rfl⟩ : ∃ g', g = g' + 1 := ⟨g - 1, by omega⟩
    obtain ⟨y, hy⟩ : ∃ y, y = (75 * x + 74) % 65537 := ⟨_, rfl⟩
    have hy2 : y < 65537 := by omega
    have hL := cyear_step (f := f) (hm := hm) (rd := rd) h53 kC hm' (show i < m by omega) hx hy ac to ft cr kg la mi pl br rg
    have hM := myear_step (g := g) (he := he) (hm := hm) (mrd := mrd) kM hm' (show i < m by omega) hx hy to nw
    have key : ∀ (κ w a R : Int32) (tb : Bool) (nw' : Nat → Int32), Sim ac to ft (f_X8_attempt ac to ft he cr kg la mi pl br rg hm rd κ w a) R tb nw' → f_X8_runYear_L14 hm rd (nI m) x5 kC (f + 1) (nI x) (nI i) ac to ft cr kg la mi pl br rg = (f_X8_attempt ac to ft he cr kg la mi pl br rg hm rd κ w a).bind (fun z => f_X8_runYear_L14 hm rd (nI m) x5 kC f (nI y) (nI (i + 1)) z.2.1 z.2.2.1 z.2.2.2.1 z.2.2.2.2.1 z.2.2.2.2.2.1 z.2.2.2.2.2.2.1 z.2.2.2.2.2.2.2.1 z.2.2.2.2.2.2.2.2.1 z.2.2.2.2.2.2.2.2.2.1 z.2.2.2.2.2.2.2.2.2.2) → f_X10_year_L43 hm he mrd (nI m) kM (g + 1) (nI x) (nI i) to nw = f_X10_year_L43 hm he mrd (nI m) kM g (nI y) (nI (i + 1)) (if tb then to + 1 else to) nw' → ∃ (ac' to' ft' cr' kg' la' mi' : Int32) (pl' br' rg' nw' : Nat → Int32), f_X8_runYear_L14 hm rd (nI m) x5 kC (f + 1) (nI x) (nI i) ac to ft cr kg la mi pl br rg = kC ac' to' ft' cr' kg' la' mi' pl' br' rg' ∧ f_X10_year_L43 hm he mrd (nI m) kM (g + 1) (nI x) (nI i) to nw = kM to' nw' ∧ CourtIs cr' kg' la' mi' pl' br' rg' nw' ∧ CourtOK cr' kg' la' mi' pl' br' := by
      intro κ w a R tb nw' hS e1 e2
      obtain ⟨cr', kg', la', mi', pl', br', rg', hX, hI', hO', -, -⟩ := hS
      rw [e1, e2, hX, bd_some]
      dsimp only
      exact ih (i + 1) y f g _ _ _ cr' kg' la' mi' pl' br' rg' nw' (by omega) (by omega) (by omega) hy2 hI' hO'
    have hw : y % 7 < 7 := by omega
    have hh : y / 7 % 8 < 8 := by omega
    generalize y / 7 % 8 = h at hL hM hh
    have grun : f_X8_kindDrawn (nI h) = some 0 → ¬ (3 : Int32) ≤ nI h → ∃ (ac' to' ft' cr' kg' la' mi' : Int32) (pl' br' rg' nw' : Nat → Int32), f_X8_runYear_L14 hm rd (nI m) x5 kC (f + 1) (nI x) (nI i) ac to ft cr kg la mi pl br rg = kC ac' to' ft' cr' kg' la' mi' pl' br' rg' ∧ f_X10_year_L43 hm he mrd (nI m) kM (g + 1) (nI x) (nI i) to nw = kM to' nw' ∧ CourtIs cr' kg' la' mi' pl' br' rg' nw' ∧ CourtOK cr' kg' la' mi' pl' br' := by
      intro k1 k2
      obtain ⟨R, nw', e1, e2⟩ := sim_run (ac := ac) (to := to) (ft := ft) (hm := hm) hrd hhe hw (show y / 56 % 12 < 12 by omega) hI hO
      refine key _ _ _ R false nw' e2 ?_ ?_
      · rw [hL, k1, bd_some, if_neg (by decide)]
      · rw [hM, if_neg k2, e1, bd_some]; rfl
    have gtou : f_X8_kindDrawn (nI h) = some 1 → (3 : Int32) ≤ nI h → ¬ (5 : Int32) ≤ nI h → ∃ (ac' to' ft' cr' kg' la' mi' : Int32) (pl' br' rg' nw' : Nat → Int32), f_X8_runYear_L14 hm rd (nI m) x5 kC (f + 1) (nI x) (nI i) ac to ft cr kg la mi pl br rg = kC ac' to' ft' cr' kg' la' mi' pl' br' rg' ∧ f_X10_year_L43 hm he mrd (nI m) kM (g + 1) (nI x) (nI i) to nw = kM to' nw' ∧ CourtIs cr' kg' la' mi' pl' br' rg' nw' ∧ CourtOK cr' kg' la' mi' pl' br' := by
      intro k1 k2 k3
      obtain ⟨R, tb, nw', e1, e2⟩ := sim_touch (ac := ac) (to := to) (ft := ft) (rd := rd) hhm hhe hw (show y / 56 % 7 < 7 by omega) hI hO
      refine key _ _ _ R tb nw' e2 ?_ ?_
      · rw [hL, k1, bd_some, if_pos rfl]
      · rw [hM, if_pos k2, if_neg k3, e1, bd_some]
    rcases (show h = 0 ∨ h = 1 ∨ h = 2 ∨ h = 3 ∨ h = 4 ∨ h = 5 ∨ h = 6 ∨ h = 7 by omega) with rfl | rfl | rfl | rfl | rfl | rfl | rfl | rfl
    · exact grun (by decide) (by decide)
    · exact grun (by decide) (by decide)
    · exact grun (by decide) (by decide)
    · exact gtou (by decide) (by decide) (by decide)
    · exact gtou (by decide) (by decide) (by decide)
    · obtain ⟨R, nw', e1, e2⟩ := sim_rest (ac := ac) (to := to) (ft := ft) (hm := hm) (rd := rd) hhe hw (nI (y / 56 % 12)) hI hO
      refine key _ _ _ R false nw' e2 ?_ ?_
      · rw [hL, show f_X8_kindDrawn (nI 5) = some 2 by decide, bd_some, if_neg (by decide)]
      · rw [hM, if_pos (by decide), if_pos (by decide), if_pos (by decide), e1, bd_some]; rfl
    · obtain ⟨R, nw', e1, e2⟩ := sim_cross (ac := ac) (to := to) (ft := ft) (hm := hm) (rd := rd) hhe hw (nI (y / 56 % 12)) hI hO
      refine key _ _ _ R false nw' e2 ?_ ?_
      · rw [hL, show f_X8_kindDrawn (nI 6) = some 3 by decide, bd_some, if_neg (by decide)]
      · rw [hM, if_pos (by decide), if_pos (by decide), if_neg (by decide), if_pos (by decide), e1, bd_some]; rfl
    · obtain ⟨R, nw', e1, e2⟩ := sim_min (ac := ac) (to := to) (ft := ft) (he := he) (hm := hm) (rd := rd) (nI (y % 7)) (nI (y / 56 % 12)) hI hO
      refine key _ _ _ R false nw' e2 ?_ ?_
      · rw [hL, show f_X8_kindDrawn (nI 7) = some 4 by decide, bd_some, if_neg (by decide)]
      · rw [hM, if_pos (by decide), if_pos (by decide), if_neg (by decide), if_neg (by decide), e1, bd_some]; rfl
def bsum (he : Int32) (br : Nat → Int32) : Nat → Int32
  | 0 => 0
  | i + 1 => if bt he i = true then bsum he br i + br i else bsum he br i
theorem call_ok {he : Int32} (hhe : inR he 128) (br : Nat → Int32) : f_X1_allBreath he br = some (bsum he br 7) := by
  unfold f_X1_allBreath
  obtain ⟨w, h1, h2⟩ := lup (L := fun f (s : Int32) i => f_X1_allBreath_L4 he br f_X1_allBreath_X4 f s (nI i)) (kE := f_X1_allBreath_X4) 7 (fun i s => s = bsum he br i)
    (fun f i s hi hs => by
      subst hs
      refine ⟨_, rfl, ?_⟩
      show f_X1_allBreath_L4 he br f_X1_allBreath_X4 (f + 1) (bsum he br i) (nI i) = _
      rw [f_X1_allBreath_L4, if_neg (show ¬ (7 : Int32) ≤ nI i from nI_ge (b := 7) hi (by decide)), here_k hhe hi, bd_some, nI_1, bsum]
      cases bt he i with
      | false => rw [if_f, if_neg Bool.false_ne_true]
      | true => rw [if_t, if_pos rfl, if_pos (ix_t hi (by decide)), nI_clamp (by omega)])
    (fun f s hs => by
      show f_X1_allBreath_L4 he br f_X1_allBreath_X4 (f + 1) s (nI 7) = _
      rw [f_X1_allBreath_L4, if_pos (by decide)]) 5000 0 0 (by decide) (by decide) rfl
  refine Eq.trans h2 ?_
  rw [h1]
  rfl
theorem mall_ok {he : Int32} {br nw : Nat → Int32} (hn : ∀ k, k < 7 → nw (7 + k) = br k) (kE : Int32 → Option (Int32 × Int32 × Int32 × (Nat → Int32))) : f_X10_year_L177 he nw kE 5000 0 0 = kE (bsum he br 7) := by
  obtain ⟨w, h1, h2⟩ := lup (L := fun f (s : Int32) i => f_X10_year_L177 he nw kE f s (nI i)) (kE := kE) 7 (fun i s => s = bsum he br i)
    (fun f i s hi hs => by
      subst hs
      refine ⟨_, rfl, ?_⟩
      show f_X10_year_L177 he nw kE (f + 1) (bsum he br i) (nI i) = _
      rw [f_X10_year_L177, if_neg (show ¬ (7 : Int32) ≤ nI i from nI_ge (b := 7) hi (by decide)), has_ok _ (by omega), bd_some, nI_1, bsum]
      cases bt he i with
      | false => rw [if_f, if_neg Bool.false_ne_true, Int32.add_zero]
      | true => rw [if_t, if_pos rfl, q_7, if_pos (ix_t (by omega) (by decide)), nI_clamp (by omega), hn i hi])
    (fun f s hs => by
      show f_X10_year_L177 he nw kE (f + 1) s (nI 7) = _
      rw [f_X10_year_L177, if_pos (by decide)]) 5000 0 0 (by decide) (by decide) rfl
  rw [h1] at h2
  exact h2
theorem year_run {m x : Nat} (hm' : m ≤ 99) (hx : x < 65537) {he cr kg la mi hm : Int32} {rd mrd pl br rg bk nw : Nat → Int32} (hI : CourtIs cr kg la mi pl br rg bk) (hO : CourtOK cr kg la mi pl br) (hhe : inR he 128) (hhm : inR hm 4096) (hrd : ∀ p, p < 12 → mrd p = rd p) (hn : ∀ k, k < 25 → nw k = bk k) (kM : Int32 → (Nat → Int32) → Option (Int32 × Int32 × Int32 × (Nat → Int32))) (t1 t2 t3 t4 t5 t6 t7 t8 t9 t10 : Int32) (tpl tbr trg : Nat → Int32) : ∃ (ac' to' ft' cr' kg' la' mi' : Int32) (pl' br' rg' nw' : Nat → Int32), f_X8_runYear t1 t2 t3 t4 t5 t6 t7 t8 t9 t10 tpl tbr trg hm rd he cr kg la mi pl br rg (nI x) (nI m) = some (ac', -6, -6, to', ft', he, cr', kg', la', mi', pl', br', rg') ∧ f_X10_year_L43 hm he mrd (nI m) kM 5000 (nI x) 0 0 nw = kM to' nw' ∧ CourtIs cr' kg' la' mi' pl' br' rg' nw' ∧ CourtOK cr' kg' la' mi' pl' br' := by
  unfold f_X8_runYear f_X8_begin f_X1_copy
  rw [bd_some, bd_some]
  dsimp only
  generalize hx5 : ((0, -6, -6, 0, -6, he, cr, kg, la, mi, va_cpy pl tpl (0 : Int32).toNatClampNeg (0 : Int32).toNatClampNeg (7 : Int32).toNatClampNeg, va_cpy br tbr (0 : Int32).toNatClampNeg (0 : Int32).toNatClampNeg (7 : Int32).toNatClampNeg, va_cpy rg trg (0 : Int32).toNatClampNeg (0 : Int32).toNatClampNeg (7 : Int32).toNatClampNeg) : DT) = x5
  obtain ⟨ac', to', ft', cr', kg', la', mi', pl', br', rg', nw', hX, hY, hI', hO'⟩ := year_loop hm' (hm := hm) (rd := rd) hhe hhm hrd (x5 := x5) (by rw [← hx5]) (f_X8_runYear_X14 x5) kM m 0 x 5000 5000 0 0 (-6) cr kg la mi _ _ _ nw (by omega) (by omega) (by omega) hx (ci_cpy hI hn (fun k hk => ⟨cpy7 pl tpl hk, cpy7 br tbr hk, cpy7 rg trg hk⟩)) (co_cpy hO (fun k hk => ⟨cpy7 pl tpl hk, cpy7 br tbr hk⟩))
  refine ⟨ac', to', ft', cr', kg', la', mi', pl', br', rg', nw', Eq.trans hX ?_, hY, hI', hO'⟩
  unfold f_X8_runYear_X14
  rw [← hx5]
theorem ok_year : OK_year := by
  intro hm rd he cr kg la mi pl br rg sz fs sc nr ss fr tt mrd mhm th bk me mt si sg pz ps ms mp hR hQ t1 t2 t3 t4 t5 t6 t7 t8 t9 t10 tpl tbr trg mto mft mnw p1 p2 p3
  obtain ⟨r1, r2, rfl, r4, rfl, r6, r7, r8, r9, r10⟩ := id hR
  unfold f_X9_year f_X10_year
  rcases rng_ok p1 9999 (by decide) (hi := 9999) rfl with ⟨g, e⟩ | ⟨g1, g2, e⟩ | ⟨x, hx, rfl, g1, g2, e⟩
  · rw [if_pos g, e, bd_some, if_f]
    exact ⟨_, _, rfl, rfl, rfl, hR, hQ⟩
  · have g3 : (9999 : Int32) < p1 := by
      have h1 := n_le g2
      exact rg_lo.mpr (by omega)
    rw [if_neg g1, if_pos g3, e, bd_some, if_f]
    exact ⟨_, _, rfl, rfl, rfl, hR, hQ⟩
  · have g3 : ¬ (9999 : Int32) < nI x := fun h => by
      have h1 := rg_lo.mp h
      have h2 := rg_le.mp g2
      omega
    rw [if_neg g1, if_neg g3, e, bd_some, if_t, in_ok, bd_some]
    have u1 : (1 : Int32).toInt = 1 := rfl
    have u99 : (99 : Int32).toInt = 99 := rfl
    by_cases k1 : p2 < 1
    · have := rg_lo.mp k1
      rw [if_pos k1, decide_eq_false (by omega), if_f]
      exact ⟨_, _, rfl, rfl, rfl, hR, hQ⟩
    · have k1' := n_lo k1
      rw [if_neg k1]
      by_cases k2 : p2 ≤ 99
      · have k2' := rg_le.mp k2
        rw [if_pos k2, decide_eq_true (by omega), if_t]
        obtain ⟨m, hm', rfl⟩ : inR p2 100 := (isN_in (by decide)).mp (decide_eq_true (by omega))
        rcases rng_ok p3 2 (by decide) (hi := 2) rfl with ⟨g, e⟩ | ⟨g1, g2, e⟩ | ⟨w, hw, rfl, g1, g2, e⟩
        · rw [if_pos g, e, bd_some, if_f]
          exact ⟨_, _, rfl, rfl, rfl, hR, hQ⟩
        · rw [if_neg g1, if_neg g2, e, bd_some, if_f]
          exact ⟨_, _, rfl, rfl, rfl, hR, hQ⟩
        · obtain ⟨nw, e1, e2⟩ := asnow_ok mto mft bk mnw
          rw [if_neg g1, if_pos g2, e, bd_some, if_t, e1, bd_some]
          obtain ⟨ac', to', ft', cr', kg', la', mi', pl', br', rg', nw', hX, hY, hI', hO'⟩ := year_run (m := m) (x := x) (by omega) (by omega) r7 r8 r6 r4 r1 e2 (f_X10_year_X43 th (nI w) (0, -6, nw)) t1 t2 t3 t4 t5 t6 t7 t8 t9 t10 tpl tbr trg
          rw [hX, bd_some]
          dsimp only
          rw [hY]
          unfold f_X10_year_X43
          rw [mall_ok (br := br') (fun k hk => (hI'.1 k hk).2.1), call_ok r6, bd_some]
          unfold f_X10_year_X177
          rw [cl_22, hI'.2.2.1]
          by_cases w0 : nI w = 0
          · rw [if_pos w0, if_pos w0]; exact ⟨_, _, rfl, rfl, rfl, hR, hQ⟩
          · rw [if_neg w0, if_neg w0]
            by_cases w1 : nI w = 1
            · rw [if_pos w1, if_pos w1]; exact ⟨_, _, rfl, rfl, rfl, hR, hQ⟩
            · rw [if_neg w1, if_neg w1]; exact ⟨_, _, rfl, rfl, rfl, hR, hQ⟩
      · have k2' := n_le k2
        rw [if_neg k2, decide_eq_false (by omega), if_f]
        exact ⟨_, _, rfl, rfl, rfl, hR, hQ⟩
