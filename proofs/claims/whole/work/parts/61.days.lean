/-! days: act by act -/
theorem nn6 {j : Nat} (hj : j ≤ 1000) : ¬ nI j = -6 := fun e => nI_pos (n := j) (by omega) (by rw [e]; decide)
theorem scan_step {c : Nat → Nat} {k d i : Nat} (hi : i + (d + 1) = k) (hk : k ≤ 60) (h : scanR c k (d + 1) i 0 = -6) : (c i = 46 ∧ scanR c k d (i + 1) 0 = -6) ∨ (65 ≤ c i ∧ c i < 72 ∧ ∃ d', d = d' + 1 ∧ ((c (i + 1) = 62 ∧ ∃ d'', d' = d'' + 1 ∧ 65 ≤ c (i + 2) ∧ c (i + 2) < 72 ∧ scanR c k d'' (i + 3) 0 = -6) ∨ ((c (i + 1) = 43 ∨ c (i + 1) = 42 ∨ (97 ≤ c (i + 1) ∧ c (i + 1) < 109)) ∧ scanR c k d' (i + 2) 0 = -6))) := by
  rw [scanR] at h
  by_cases g46 : c i = 46
  · have e1 : au 0 (c i) = 0 := by rw [g46]; rfl
    rw [e1, if_neg (by decide)] at h
    exact Or.inl ⟨g46, h⟩
  · by_cases gl : 65 ≤ c i ∧ c i < 72
    · have e1 : au 0 (c i) = 1 := by
        unfold au
        rw [if_neg (by decide), if_pos rfl, if_neg g46, if_pos gl]
      rw [e1, if_neg (by decide)] at h
      cases d with
      | zero =>
        rw [scanR, if_neg (by decide)] at h
        exact absurd h (nn6 (by omega))
      | succ d' =>
        rw [scanR] at h
        by_cases g62 : c (i + 1) = 62
        · have e2 : au 1 (c (i + 1)) = 2 := by rw [g62]; rfl
          rw [e2, if_neg (by decide)] at h
          cases d' with
          | zero =>
            rw [scanR, if_neg (by decide)] at h
            exact absurd h (nn6 (by omega))
          | succ d'' =>
            rw [scanR] at h
            by_cases gl2 : 65 ≤ c (i + 1 + 1) ∧ c (i + 1 + 1) < 72
            · have e3 : au 2 (c (i + 1 + 1)) = 0 := by
                unfold au
                rw [if_pos rfl, if_pos gl2]
              rw [e3, if_neg (by decide)] at h
              exact Or.inr ⟨gl.1, gl.2, d'' + 1, rfl, Or.inl ⟨g62, d'', rfl, gl2.1, gl2.2, h⟩⟩
            · have e3 : au 2 (c (i + 1 + 1)) = 3 := by
                unfold au
                rw [if_pos rfl, if_neg gl2]
              rw [e3, if_pos rfl] at h
              exact absurd h (nn6 (by omega))
        · by_cases g4 : c (i + 1) = 43 ∨ c (i + 1) = 42
          · have e2 : au 1 (c (i + 1)) = 0 := by
              unfold au
              rw [if_neg (by decide), if_neg (by decide), if_neg g62, if_pos g4]
            rw [e2, if_neg (by decide)] at h
            exact Or.inr ⟨gl.1, gl.2, d', rfl, Or.inr ⟨g4.elim Or.inl (fun e => Or.inr (Or.inl e)), h⟩⟩
          · by_cases g9 : 97 ≤ c (i + 1) ∧ c (i + 1) < 109
            · have e2 : au 1 (c (i + 1)) = 0 := by
                unfold au
                rw [if_neg (by decide), if_neg (by decide), if_neg g62, if_neg g4, if_pos g9]
              rw [e2, if_neg (by decide)] at h
              exact Or.inr ⟨gl.1, gl.2, d', rfl, Or.inr ⟨Or.inr (Or.inr g9), h⟩⟩
            · have e2 : au 1 (c (i + 1)) = 3 := by
                unfold au
                rw [if_neg (by decide), if_neg (by decide), if_neg g62, if_neg g4, if_neg g9]
              rw [e2, if_pos rfl] at h
              exact absurd h (nn6 (by omega))
    · have e1 : au 0 (c i) = 3 := by
        unfold au
        rw [if_neg (by decide), if_pos rfl, if_neg g46, if_neg gl]
      rw [e1, if_pos rfl] at h
      exact absurd h (nn6 (by omega))
theorem sign_tot {k j : Nat} (sg : Nat → Int32) (hk : k ≤ 60) (hj : j < 1000) : ∃ v, f_X4_signAt (nI k) sg (nI j) = some v := by
  rcases Nat.lt_or_ge j k with h | h
  · exact ⟨_, sign_ok hk h⟩
  · unfold f_X4_signAt
    rw [if_neg (nI_pos (by omega)), if_pos (nI_le h (by omega))]
    exact ⟨_, rfl⟩
theorem neq_lit {c a : Nat} (ha : a < 2 ^ 31) (hc : c < 2 ^ 31) (h : c ≠ a) : ¬ nI c = nI a := fun e => h ((nI_eq hc ha).mp e)
theorem act_at {k i d : Nat} {c : Nat → Nat} {ps mp : Nat → Int32} (hk : k ≤ 60) (hps : ∀ i, i < k → ps i = nI (c i) ∧ c i < 127) (hmp : ∀ i, i < k → mp i = nI (c i) ∧ c i < 127) (hi : i + (d + 1) = k) (hs : scanR c k (d + 1) i 0 = -6) {he hm : Int32} {rd mrd : Nat → Int32} (hhe : inR he 128) (hhm : inR hm 4096) (hrd : ∀ p, p < 12 → mrd p = rd p) : ∃ (κ w a : Int32) (l d2 : Nat), 1 ≤ l ∧ i + l + d2 = k ∧ scanR c k d2 (i + l) 0 = -6 ∧ f_X4_kindAt (nI k) ps (nI i) = some κ ∧ f_X4_whoAt (nI k) ps (nI i) = some w ∧ f_X4_aimAt (nI k) ps (nI i) = some a ∧ f_X4_lengthAt (nI k) ps (nI i) = some (nI l) ∧ ∀ (g : Nat) (ac to ft re cr kg la mi : Int32) (pl br rg nw : Nat → Int32), CourtIs cr kg la mi pl br rg nw → CourtOK cr kg la mi pl br → ∃ R tb nw', Sim ac to ft (f_X8_attempt ac to ft he cr kg la mi pl br rg hm rd κ w a) R tb nw' ∧ f_X10_goDays_L11 hm he (nI k) mrd mp f_X10_goDays_X11 (g + 1) (nI i) to ft re ac nw = f_X10_goDays_B149 to ft ac (f_X10_goDays_L11 hm he (nI k) mrd mp f_X10_goDays_X11 g) (nI (i + l)) (if tb then to + 1 else to) R nw' := by
  have hil : i < k := by omega
  have s0 : f_X4_signAt (nI k) ps (nI i) = some (nI (c i)) := by rw [sign_ok hk hil, (hps i hil).1]
  have nle : ¬ nI k ≤ nI i := nI_ge hil (by omega)
  rcases scan_step hi hk hs with ⟨g46, h2⟩ | ⟨a1, a2, d', rfl, h2⟩
  · obtain ⟨v, hv⟩ := sign_tot (k := k) (j := i + 1) ps hk (by omega)
    have hkind : f_X4_kindAt (nI k) ps (nI i) = some 4 := by
      unfold f_X4_kindAt
      rw [s0, bd_some, g46, if_pos (show nI 46 = 46 from rfl)]
    refine ⟨4, nI (c i) - 65, v - 97, 1, d, by decide, by omega, h2, hkind, ?_, ?_, ?_, ?_⟩
    · unfold f_X4_whoAt
      rw [s0, bd_some]
    · unfold f_X4_aimAt
      rw [hkind, bd_some, if_neg (by decide), nI_1, hv, bd_some]
    · unfold f_X4_lengthAt
      rw [hkind, bd_some, if_pos rfl]
      rfl
    · intro g ac to ft re cr kg la mi pl br rg nw hI hO
      obtain ⟨R, nw', e1, e2⟩ := sim_min (ac := ac) (to := to) (ft := ft) (he := he) (hm := hm) (rd := rd) (nI (c i) - 65) (v - 97) hI hO
      refine ⟨R, false, nw', e2, ?_⟩
      rw [f_X10_goDays_L11, if_neg nle, if_pos (ix_t (by omega) (by decide)), nI_clamp (by omega), (hmp i hil).1, g46, if_pos (show nI 46 = 46 from rfl), e1, bd_some, nI_1]
      rfl
  · have hi1 : i + 1 < k := by omega
    have s1 : f_X4_signAt (nI k) ps (nI (i + 1)) = some (nI (c (i + 1))) := by rw [sign_ok hk hi1, (hps _ hi1).1]
    have hc1 := (hps _ hi1).2
    have n46 : ¬ nI (c i) = 46 := neq_lit (a := 46) (by decide) (by omega) (by omega)
    have ew : nI (c i) - (65 : Int32) = nI (c i - 65) := pk_sub (a := c i) (b := 65) a1
    have hw : c i - 65 < 7 := by omega
    have hwho : f_X4_whoAt (nI k) ps (nI i) = some (nI (c i - 65)) := by
      unfold f_X4_whoAt
      rw [s0, bd_some, ew]
    rcases h2 with ⟨g62, d'', rfl, b1, b2', h3⟩ | ⟨g, h3⟩
    · have hi2 : i + 2 < k := by omega
      have s2 : f_X4_signAt (nI k) ps (nI (i + 2)) = some (nI (c (i + 2))) := by rw [sign_ok hk hi2, (hps _ hi2).1]
      have ex : nI (c (i + 2)) - (65 : Int32) = nI (c (i + 2) - 65) := pk_sub (a := c (i + 2)) (b := 65) b1
      have hkind : f_X4_kindAt (nI k) ps (nI i) = some 1 := by
        unfold f_X4_kindAt
        rw [s0, bd_some, if_neg n46, nI_1, s1, bd_some, g62, if_neg (by decide), if_neg (by decide), if_pos (show nI 62 = 62 from rfl)]
      refine ⟨1, nI (c i - 65), nI (c (i + 2) - 65), 3, d'', by decide, by omega, h3, hkind, hwho, ?_, ?_, ?_⟩
      · unfold f_X4_aimAt
        rw [hkind, bd_some, if_pos rfl, p_2, s2, bd_some, ex]
      · unfold f_X4_lengthAt
        rw [hkind, bd_some, if_neg (by decide), if_pos rfl]
        rfl
      · intro g ac to ft re cr kg la mi pl br rg nw hI hO
        obtain ⟨R, tb, nw', e1, e2⟩ := sim_touch (ac := ac) (to := to) (ft := ft) (rd := rd) hhm hhe hw (show c (i + 2) - 65 < 7 by omega) hI hO
        refine ⟨R, tb, nw', e2, ?_⟩
        rw [f_X10_goDays_L11, if_neg nle, if_pos (ix_t (by omega) (by decide)), nI_clamp (by omega), (hmp i hil).1, if_neg n46]
        simp only [p_1, p_2, p_3]
        rw [if_pos (ix_t (by omega) (by decide)), nI_clamp (by omega), (hmp _ hi1).1, g62, if_pos (show nI 62 = 62 from rfl), if_pos (ix_t (by omega) (by decide)), nI_clamp (by omega), (hmp _ hi2).1, ew, ex, e1, bd_some]
    · have n62 : ¬ nI (c (i + 1)) = 62 := neq_lit (a := 62) (by decide) (by omega) (by omega)
      have step : ∀ (g : Nat) (to ft re ac : Int32) (nw : Nat → Int32), f_X10_goDays_L11 hm he (nI k) mrd mp f_X10_goDays_X11 (g + 1) (nI i) to ft re ac nw = (if nI (c (i + 1)) = 43 then ((f_X10_rest he nw (nI (c i - 65))).bind (fun x112 => (f_X10_goDays_B149 to ft ac (f_X10_goDays_L11 hm he (nI k) mrd mp f_X10_goDays_X11 g) (nI (i + 2)) to x112.1 x112.2))) else (if nI (c (i + 1)) = 42 then ((f_X10_cross he nw (nI (c i - 65))).bind (fun x127 => (f_X10_goDays_B149 to ft ac (f_X10_goDays_L11 hm he (nI k) mrd mp f_X10_goDays_X11 g) (nI (i + 2)) to x127.1 x127.2))) else ((f_X10_run he mrd nw (nI (c i - 65)) (nI (c (i + 1)) - 97)).bind (fun x140 => (f_X10_goDays_B149 to ft ac (f_X10_goDays_L11 hm he (nI k) mrd mp f_X10_goDays_X11 g) (nI (i + 2)) to x140.1 x140.2))))) := by
        intro g to ft re ac nw
        rw [f_X10_goDays_L11, if_neg nle, if_pos (ix_t (by omega) (by decide)), nI_clamp (by omega), (hmp i hil).1, if_neg n46]
        simp only [p_1, p_2, p_3]
        rw [if_pos (ix_t (by omega) (by decide)), nI_clamp (by omega), (hmp _ hi1).1, if_neg n62, ew]
      have fin : ∀ κ : Int32, f_X4_kindAt (nI k) ps (nI i) = some κ → ¬ κ = 1 → ¬ κ = 4 → (∀ (g : Nat) (ac to ft re cr kg la mi : Int32) (pl br rg nw : Nat → Int32), CourtIs cr kg la mi pl br rg nw → CourtOK cr kg la mi pl br → ∃ R tb nw', Sim ac to ft (f_X8_attempt ac to ft he cr kg la mi pl br rg hm rd κ (nI (c i - 65)) (nI (c (i + 1)) - 97)) R tb nw' ∧ f_X10_goDays_L11 hm he (nI k) mrd mp f_X10_goDays_X11 (g + 1) (nI i) to ft re ac nw = f_X10_goDays_B149 to ft ac (f_X10_goDays_L11 hm he (nI k) mrd mp f_X10_goDays_X11 g) (nI (i + 2)) (if tb then to + 1 else to) R nw') → ∃ (κ w a : Int32) (l d2 : Nat), 1 ≤ l ∧ i + l + d2 = k ∧ scanR c k d2 (i + l) 0 = -6 ∧ f_X4_kindAt (nI k) ps (nI i) = some κ ∧ f_X4_whoAt (nI k) ps (nI i) = some w ∧ f_X4_aimAt (nI k) ps (nI i) = some a ∧ f_X4_lengthAt (nI k) ps (nI i) = some (nI l) ∧ ∀ (g : Nat) (ac to ft re cr kg la mi : Int32) (pl br rg nw : Nat → Int32), CourtIs cr kg la mi pl br rg nw → CourtOK cr kg la mi pl br → ∃ R tb nw', Sim ac to ft (f_X8_attempt ac to ft he cr kg la mi pl br rg hm rd κ w a) R tb nw' ∧ f_X10_goDays_L11 hm he (nI k) mrd mp f_X10_goDays_X11 (g + 1) (nI i) to ft re ac nw = f_X10_goDays_B149 to ft ac (f_X10_goDays_L11 hm he (nI k) mrd mp f_X10_goDays_X11 g) (nI (i + l)) (if tb then to + 1 else to) R nw' := by
        intro κ hkind q1 q4 hsim
        refine ⟨κ, nI (c i - 65), nI (c (i + 1)) - 97, 2, d', by decide, by omega, h3, hkind, hwho, ?_, ?_, hsim⟩
        · unfold f_X4_aimAt
          rw [hkind, bd_some, if_neg q1, nI_1, s1, bd_some]
        · unfold f_X4_lengthAt
          rw [hkind, bd_some, if_neg q4, if_neg q1]
          rfl
      by_cases g43 : c (i + 1) = 43
      · refine fin 2 ?_ (by decide) (by decide) ?_
        · unfold f_X4_kindAt
          rw [s0, bd_some, if_neg n46, nI_1, s1, bd_some, g43, if_neg (by decide), if_pos (show nI 43 = 43 from rfl)]
        · intro g ac to ft re cr kg la mi pl br rg nw hI hO
          obtain ⟨R, nw', e1, e2⟩ := sim_rest (ac := ac) (to := to) (ft := ft) (hm := hm) (rd := rd) hhe hw (nI (c (i + 1)) - 97) hI hO
          refine ⟨R, false, nw', e2, ?_⟩
          rw [step, if_pos (by rw [g43]; rfl), e1, bd_some]
          rfl
      · have n43 : ¬ nI (c (i + 1)) = 43 := neq_lit (a := 43) (by decide) (by omega) g43
        by_cases g42 : c (i + 1) = 42
        · refine fin 3 ?_ (by decide) (by decide) ?_
          · unfold f_X4_kindAt
            rw [s0, bd_some, if_neg n46, nI_1, s1, bd_some, g42, if_pos (show nI 42 = 42 from rfl)]
          · intro g ac to ft re cr kg la mi pl br rg nw hI hO
            obtain ⟨R, nw', e1, e2⟩ := sim_cross (ac := ac) (to := to) (ft := ft) (hm := hm) (rd := rd) hhe hw (nI (c (i + 1)) - 97) hI hO
            refine ⟨R, false, nw', e2, ?_⟩
            rw [step, if_neg n43, if_pos (by rw [g42]; rfl), e1, bd_some]
            rfl
        · have n42 : ¬ nI (c (i + 1)) = 42 := neq_lit (a := 42) (by decide) (by omega) g42
          have g9 : 97 ≤ c (i + 1) ∧ c (i + 1) < 109 := by omega
          refine fin 0 ?_ (by decide) (by decide) ?_
          · unfold f_X4_kindAt
            rw [s0, bd_some, if_neg n46, nI_1, s1, bd_some, if_neg n42, if_neg n43, if_neg n62]
          · intro g ac to ft re cr kg la mi pl br rg nw hI hO
            have ea : nI (c (i + 1)) - (97 : Int32) = nI (c (i + 1) - 97) := pk_sub (a := c (i + 1)) (b := 97) g9.1
            rw [ea]
            obtain ⟨R, nw', e1, e2⟩ := sim_run (ac := ac) (to := to) (ft := ft) (hm := hm) hrd hhe hw (show c (i + 1) - 97 < 12 by omega) hI hO
            refine ⟨R, false, nw', e2, ?_⟩
            rw [step, if_neg n43, if_neg n42, ea, e1, bd_some]
            rfl
abbrev DT : Type := Int32 × Int32 × Int32 × Int32 × Int32 × Int32 × Int32 × Int32 × Int32 × Int32 × (Nat → Int32) × (Nat → Int32) × (Nat → Int32)
abbrev GT : Type := Int32 × Int32 × Int32 × Int32 × Int32 × (Nat → Int32)
/-- days end alike on both sides -/
def DE (he : Int32) (X : Option DT) (Y : Option GT) : Prop := ∃ (ac st wy to ft re cr kg la mi : Int32) (pl br rg nw : Nat → Int32), X = some (ac, st, wy, to, ft, he, cr, kg, la, mi, pl, br, rg) ∧ Y = some (st, to, ft, re, ac, nw) ∧ CourtIs cr kg la mi pl br rg nw ∧ CourtOK cr kg la mi pl br ∧ ((st = -6 ∧ wy = -6) ∨ ∃ z : Nat, z ≤ 60 ∧ st = nI z ∧ wy = re)
theorem days_loop {k : Nat} {c : Nat → Nat} {ps mp : Nat → Int32} (hk : k ≤ 60) (hps : ∀ i, i < k → ps i = nI (c i) ∧ c i < 127) (hmp : ∀ i, i < k → mp i = nI (c i) ∧ c i < 127) {he hm : Int32} {rd mrd : Nat → Int32} (hhe : inR he 128) (hhm : inR hm 4096) (hrd : ∀ p, p < 12 → mrd p = rd p) {x5 : DT} (h51 : x5.2.1 = -6) (h52 : x5.2.2.1 = -6) (h53 : x5.2.2.2.2.2.1 = he) : ∀ (N d i tn f g n t : Nat) (ft re cr kg la mi : Int32) (pl br rg nw : Nat → Int32), d ≤ N → i + d = k → d < f → d < g → tn ≤ i → scanR c k d i 0 = -6 → n ≤ i → t ≤ i → ((t = 0 ∧ ft = -6) ∨ (t ≠ 0 ∧ ∃ z : Nat, z ≤ 60 ∧ ft = nI z)) → CourtIs cr kg la mi pl br rg nw → CourtOK cr kg la mi pl br → DE he (f_X8_runDays_L13 hm rd (nI k) ps x5 (f_X8_runDays_X13 x5) f (nI i) (nI tn) (nI n) (nI t) ft cr kg la mi pl br rg) (f_X10_goDays_L11 hm he (nI k) mrd mp f_X10_goDays_X11 g (nI i) (nI t) ft re (nI n) nw) := by
  have zero : ∀ (i tn f g n t : Nat) (ft re cr kg la mi : Int32) (pl br rg nw : Nat → Int32), i = k → CourtIs cr kg la mi pl br rg nw → CourtOK cr kg la mi pl br → DE he (f_X8_runDays_L13 hm rd (nI k) ps x5 (f_X8_runDays_X13 x5) (f + 1) (nI i) (nI tn) (nI n) (nI t) ft cr kg la mi pl br rg) (f_X10_goDays_L11 hm he (nI k) mrd mp f_X10_goDays_X11 (g + 1) (nI i) (nI t) ft re (nI n) nw) := by
    intro i tn f g n t ft re cr kg la mi pl br rg nw hik hI hO
    subst hik
    have hle : nI i ≤ nI i := nI_le (Nat.le_refl _) (by omega)
    rw [f_X8_runDays_L13, f_X10_goDays_L11, if_pos hle, if_pos hle, ite_self]
    unfold f_X8_runDays_X13 f_X10_goDays_X11
    rw [h51, h52, h53]
    exact ⟨_, _, _, _, _, _, _, _, _, _, _, _, _, _, rfl, rfl, hI, hO, Or.inl ⟨rfl, rfl⟩⟩
  intro N
  induction N with
  | zero =>
    intro d i tn f g n t ft re cr kg la mi pl br rg nw hd hi hf hg htn hs hn ht hft hI hO
    obtain ⟨f, rfl⟩ : ∃ f', f = f' + 1 := ⟨f - 1, by omega⟩
    obtain ⟨g, rfl⟩ : ∃ g', g = g' + 1 := ⟨g - 1, by omega⟩
    exact zero i tn f g n t ft re cr kg la mi pl br rg nw (by omega) hI hO
  | succ N ih =>
    intro d i tn f g n t ft re cr kg la mi pl br rg nw hd hi hf hg htn hs hn ht hft hI hO
    obtain ⟨f, rfl⟩ : ∃ f', f = f' + 1 := ⟨f - 1, by omega⟩
    obtain ⟨g, rfl⟩ : ∃ g', g = g' + 1 := ⟨g - 1, by omega⟩
    cases d with
    | zero => exact zero i tn f g n t ft re cr kg la mi pl br rg nw (by omega) hI hO
    | succ d =>
      obtain ⟨κ, w, a, l, d2, l1, l2, hs2, e1, e2, e3, e4, hact⟩ := act_at hk hps hmp hi hs hhe hhm hrd
      obtain ⟨R, tb, nw', ⟨cr', kg', la', mi', pl', br', rg', hX, hI', hO', htb, r, hr, hRr⟩, hY⟩ := hact g (nI n) (nI t) ft re cr kg la mi pl br rg nw hI hO
      rw [hY, f_X8_runDays_L13, if_neg (show ¬ (60 : Int32) ≤ nI tn from nI_ge (b := 60) (by omega) (by decide)), if_neg (nI_ge (show i < k by omega) (by omega)), e1, bd_some, e2, bd_some, e3, bd_some, h53, hX, bd_some]
      dsimp only
      unfold f_X10_goDays_B149
      by_cases hR0 : R = 0
      · rw [if_pos hR0, if_pos hR0, if_pos (show R ≤ 0 by rw [hR0]; decide), e4, bd_some, nI_add, nI_1, nI_1]
        cases tb with
        | false =>
          rw [if_neg Bool.false_ne_true, if_neg Bool.false_ne_true, if_pos (nI_le (Nat.le_refl t) (by omega)), ite_self]
          unfold f_X10_goDays_B184 f_X10_goDays_B188
          rw [nI_1]
          exact ih d2 (i + l) (tn + 1) f g (n + 1) t ft R cr' kg' la' mi' pl' br' rg' nw' (by omega) (by omega) (by omega) (by omega) (by omega) hs2 (by omega) (by omega) hft hI' hO'
        | true =>
          rw [if_pos rfl, if_pos rfl, nI_1]
          rcases hft with ⟨t0, f0⟩ | ⟨t0, z, hz, f0⟩
          · subst t0
            rw [if_pos (show nI 0 = 0 from rfl), f0, if_neg (show ¬ (0 : Int32) ≤ -6 by decide), if_neg (nI_ge (show 0 < 0 + 1 by decide) (by decide))]
            unfold f_X10_goDays_B188
            rw [nI_1]
            exact ih d2 (i + l) (tn + 1) f g (n + 1) (0 + 1) (nI n) R cr' kg' la' mi' pl' br' rg' nw' (by omega) (by omega) (by omega) (by omega) (by omega) hs2 (by omega) (by omega) (Or.inr ⟨by decide, n, by omega, rfl⟩) hI' hO'
          · rw [if_neg (nI_ne0 (show 0 < t by omega) (by omega)), f0, if_pos (nI_pos' (show z < 2 ^ 31 by omega))]
            unfold f_X10_goDays_B184 f_X10_goDays_B188
            rw [nI_1]
            exact ih d2 (i + l) (tn + 1) f g (n + 1) (t + 1) (nI z) R cr' kg' la' mi' pl' br' rg' nw' (by omega) (by omega) (by omega) (by omega) (by omega) hs2 (by omega) (by omega) (Or.inr ⟨by omega, z, hz, rfl⟩) hI' hO'
      · have htb' : tb = false := by
          cases tb with
          | false => rfl
          | true => exact absurd (htb rfl) hR0
        subst htb'
        have hr0 : r ≠ 0 := fun e => hR0 (by rw [hRr, e]; rfl)
        rw [if_neg hR0, if_neg hR0, if_neg (show ¬ R ≤ 0 by rw [hRr]; exact nI_nle (by omega) (by omega))]
        exact ⟨_, _, _, _, _, _, _, _, _, _, _, _, _, _, rfl, rfl, hI', hO', Or.inr ⟨n, by omega, rfl, rfl⟩⟩
theorem asnow_ok (a b : Int32) (bk nw0 : Nat → Int32) : ∃ nw, f_X10_asNow a b bk nw0 = some (0, -6, nw) ∧ ∀ k, k < 25 → nw k = bk k := by
  unfold f_X10_asNow
  obtain ⟨nw, h1, h2⟩ := lup (L := fun f (s : Nat → Int32) i => f_X10_asNow_L2 bk f_X10_asNow_X2 f (nI i) s) (kE := f_X10_asNow_X2) 25 (fun i s => ∀ x, x < i → s x = bk x)
    (fun f i s hi hs => by
      refine ⟨upd s i (bk i), fun x hx => ?_, ?_⟩
      · by_cases e : x = i
        · rw [e, pk_us]
        · rw [pk_un e]; exact hs x (by omega)
      · show f_X10_asNow_L2 bk f_X10_asNow_X2 (f + 1) (nI i) s = _
        rw [f_X10_asNow_L2, if_neg (show ¬ (25 : Int32) ≤ nI i from nI_ge (b := 25) hi (by decide)), if_pos (ix_t hi (by decide)), nI_1, nI_clamp (by omega)])
    (fun f s hs => by
      show f_X10_asNow_L2 bk f_X10_asNow_X2 (f + 1) (nI 25) s = _
      rw [f_X10_asNow_L2, if_pos (by decide)]) 5000 0 nw0 (by decide) (by decide) (fun x hx => absurd hx (Nat.not_lt_zero x))
  exact ⟨nw, h2, h1⟩
theorem ci_cpy {cr kg la mi : Int32} {pl br rg bk nw : Nat → Int32} (h : CourtIs cr kg la mi pl br rg bk) (hn : ∀ k, k < 25 → nw k = bk k) {pl' br' rg' : Nat → Int32} (h' : ∀ k, k < 7 → pl' k = pl k ∧ br' k = br k ∧ rg' k = rg k) : CourtIs cr kg la mi pl' br' rg' nw := by
  obtain ⟨c1, c2, c3, c4, c5⟩ := h
  refine ⟨fun k hk => ?_, ?_, ?_, ?_, ?_⟩
  · rw [hn k (by omega), hn (7 + k) (by omega), hn (14 + k) (by omega), (h' k hk).1, (h' k hk).2.1, (h' k hk).2.2]
    exact c1 k hk
  · rw [hn 21 (by decide)]; exact c2
  · rw [hn 22 (by decide)]; exact c3
  · rw [hn 23 (by decide)]; exact c4
  · rw [hn 24 (by decide)]; exact c5
theorem co_cpy {cr kg la mi : Int32} {pl br pl' br' : Nat → Int32} (h : CourtOK cr kg la mi pl br) (h' : ∀ k, k < 7 → pl' k = pl k ∧ br' k = br k) : CourtOK cr kg la mi pl' br' := by
  refine ⟨fun k hk => ?_, h.2⟩
  rw [(h' k hk).1, (h' k hk).2]
  exact h.1 k hk
theorem cpy7 (f g : Nat → Int32) {k : Nat} (h : k < 7) : va_cpy f g (0 : Int32).toNatClampNeg (0 : Int32).toNatClampNeg (7 : Int32).toNatClampNeg k = f k := cp12 f g 7 (N := 7) (pk_cl 7) h
theorem go_ok {he cr kg la mi hm : Int32} {rd mrd pl br rg bk : Nat → Int32} (hI : CourtIs cr kg la mi pl br rg bk) (hO : CourtOK cr kg la mi pl br) (hhe : inR he 128) (hhm : inR hm 4096) (hrd : ∀ p, p < 12 → mrd p = rd p) {k : Nat} {c : Nat → Nat} {ps mp : Nat → Int32} (hk : k ≤ 60) (hps : ∀ i, i < k → ps i = nI (c i) ∧ c i < 127) (hmp : ∀ i, i < k → mp i = nI (c i) ∧ c i < 127) (hs : scanR c k k 0 0 = -6) (t1 t2 t3 t4 t5 t6 t7 t8 t9 t10 : Int32) (tpl tbr trg : Nat → Int32) (mto mft mre mac : Int32) (mnw : Nat → Int32) : DE he (f_X8_runDays t1 t2 t3 t4 t5 t6 t7 t8 t9 t10 tpl tbr trg hm rd he cr kg la mi pl br rg (nI k) ps) (f_X10_goDays hm he (nI k) mto mft mre mac mrd bk mnw mp) := by
  unfold f_X8_runDays f_X8_begin f_X1_copy f_X10_goDays
  obtain ⟨nw, e1, e2⟩ := asnow_ok mto mft bk mnw
  rw [bd_some, bd_some, e1, bd_some]
  dsimp only
  refine days_loop hk hps hmp hhe hhm hrd rfl rfl rfl k k 0 0 5000 5000 0 0 (-6) mre cr kg la mi _ _ _ nw (Nat.le_refl _) (by omega) (by omega) (by omega) (Nat.le_refl _) hs (Nat.le_refl _) (Nat.le_refl _) (Or.inl ⟨rfl, rfl⟩) (ci_cpy hI e2 (fun k hk => ⟨cpy7 _ _ hk, cpy7 _ _ hk, cpy7 _ _ hk⟩)) (co_cpy hO (fun k hk => ⟨cpy7 _ _ hk, cpy7 _ _ hk⟩))
