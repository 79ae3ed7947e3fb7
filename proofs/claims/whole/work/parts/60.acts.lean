/-! an act, on both sides -/
abbrev AT : Type := Int32 × Int32 × Int32 × Int32 × Int32 × Int32 × Int32 × Int32 × (Nat → Int32) × (Nat → Int32) × (Nat → Int32)
def Sim (ac to ft : Int32) (X : Option AT) (R : Int32) (tb : Bool) (nw : Nat → Int32) : Prop :=
  ∃ (cr kg la mi : Int32) (pl br rg : Nat → Int32), X = some (R, (if R = 0 then ac + 1 else ac), (if tb then to + 1 else to), (if tb then (if to = 0 then ac else ft) else ft), cr, kg, la, mi, pl, br, rg) ∧ CourtIs cr kg la mi pl br rg nw ∧ CourtOK cr kg la mi pl br ∧ (tb = true → R = 0) ∧ ∃ r : Nat, r < 10 ∧ R = nI r
theorem att_no {ac to ft he cr kg la mi hm p2 p3 p4 : Int32} {pl br rg rd nw : Nat → Int32} {r : Nat} (h : f_X1_reasonAgainst he cr kg la mi pl br hm rd p2 p3 p4 = some (nI r)) (h0 : r ≠ 0) (h1 : r < 10) (hI : CourtIs cr kg la mi pl br rg nw) (hO : CourtOK cr kg la mi pl br) : Sim ac to ft (f_X8_attempt ac to ft he cr kg la mi pl br rg hm rd p2 p3 p4) (nI r) false nw := by
  have hr : ¬ nI r = 0 := nI_ne0 (by omega) (by omega)
  refine ⟨cr, kg, la, mi, pl, br, rg, ?_, hI, hO, fun e => (by cases e), r, h1, rfl⟩
  unfold f_X8_attempt
  rw [h, bd_some, if_neg hr, if_neg hr, if_neg Bool.false_ne_true, if_neg Bool.false_ne_true]
theorem att_yes {ac to ft he cr kg la mi hm p2 p3 p4 cr' kg' la' mi' : Int32} {pl br rg rd nw pl' br' rg' : Nat → Int32} {tb : Bool} (h : f_X1_reasonAgainst he cr kg la mi pl br hm rd p2 p3 p4 = some 0) (ha : f_X1_act cr kg la mi pl br rg p2 p3 p4 = some (cr', kg', la', mi', pl', br', rg')) (htb : tb = decide (p2 = 1)) (hI : CourtIs cr' kg' la' mi' pl' br' rg' nw) (hO : CourtOK cr' kg' la' mi' pl' br') : Sim ac to ft (f_X8_attempt ac to ft he cr kg la mi pl br rg hm rd p2 p3 p4) 0 tb nw := by
  refine ⟨cr', kg', la', mi', pl', br', rg', ?_, hI, hO, fun _ => rfl, 0, by decide, rfl⟩
  unfold f_X8_attempt
  rw [h, bd_some, if_pos rfl, ha, bd_some, if_pos rfl]
  by_cases g : p2 = 1
  · rw [decide_eq_true g] at htb
    subst htb
    rw [if_pos g, if_pos rfl, if_pos rfl]
    by_cases g2 : to = 0
    · rw [if_pos g2, if_pos g2]; rfl
    · rw [if_neg g2, if_neg g2]; rfl
  · rw [decide_eq_false g] at htb
    subst htb
    rw [if_neg g, if_neg Bool.false_ne_true, if_neg Bool.false_ne_true]; rfl
theorem ci_mi {cr kg la mi : Int32} {pl br rg nw : Nat → Int32} (h : CourtIs cr kg la mi pl br rg nw) (v : Int32) : CourtIs cr kg la v pl br rg (upd nw 24 v) := by
  obtain ⟨c1, c2, c3, c4, c5⟩ := h
  refine ⟨fun k hk => ?_, ?_, ?_, ?_, pk_us⟩
  · rw [pk_un (show k ≠ 24 by omega), pk_un (show 7 + k ≠ 24 by omega), pk_un (show 14 + k ≠ 24 by omega)]
    exact c1 k hk
  · rw [pk_un (by decide)]; exact c2
  · rw [pk_un (by decide)]; exact c3
  · rw [pk_un (by decide)]; exact c4
theorem ci_cr {cr kg la mi : Int32} {pl br rg nw : Nat → Int32} (h : CourtIs cr kg la mi pl br rg nw) (v : Int32) : CourtIs v kg la mi pl br rg (upd nw 21 v) := by
  obtain ⟨c1, c2, c3, c4, c5⟩ := h
  refine ⟨fun k hk => ?_, pk_us, ?_, ?_, ?_⟩
  · rw [pk_un (show k ≠ 21 by omega), pk_un (show 7 + k ≠ 21 by omega), pk_un (show 14 + k ≠ 21 by omega)]
    exact c1 k hk
  · rw [pk_un (by decide)]; exact c3
  · rw [pk_un (by decide)]; exact c4
  · rw [pk_un (by decide)]; exact c5
theorem ci_kg {cr kg la mi : Int32} {pl br rg nw : Nat → Int32} (h : CourtIs cr kg la mi pl br rg nw) (v : Int32) : CourtIs cr v la mi pl br rg (upd nw 22 v) := by
  obtain ⟨c1, c2, c3, c4, c5⟩ := h
  refine ⟨fun k hk => ?_, ?_, pk_us, ?_, ?_⟩
  · rw [pk_un (show k ≠ 22 by omega), pk_un (show 7 + k ≠ 22 by omega), pk_un (show 14 + k ≠ 22 by omega)]
    exact c1 k hk
  · rw [pk_un (by decide)]; exact c2
  · rw [pk_un (by decide)]; exact c4
  · rw [pk_un (by decide)]; exact c5
theorem ci_la {cr kg la mi : Int32} {pl br rg nw : Nat → Int32} (h : CourtIs cr kg la mi pl br rg nw) (v : Int32) : CourtIs cr kg v mi pl br rg (upd nw 23 v) := by
  obtain ⟨c1, c2, c3, c4, c5⟩ := h
  refine ⟨fun k hk => ?_, ?_, ?_, pk_us, ?_⟩
  · rw [pk_un (show k ≠ 23 by omega), pk_un (show 7 + k ≠ 23 by omega), pk_un (show 14 + k ≠ 23 by omega)]
    exact c1 k hk
  · rw [pk_un (by decide)]; exact c2
  · rw [pk_un (by decide)]; exact c3
  · rw [pk_un (by decide)]; exact c5
theorem ci_pl {cr kg la mi : Int32} {pl br rg nw : Nat → Int32} (h : CourtIs cr kg la mi pl br rg nw) {j : Nat} (hj : j < 7) (v : Int32) : CourtIs cr kg la mi (upd pl j v) br rg (upd nw j v) := by
  obtain ⟨c1, c2, c3, c4, c5⟩ := h
  refine ⟨fun k hk => ?_, ?_, ?_, ?_, ?_⟩
  · rw [pk_un (show 7 + k ≠ j by omega), pk_un (show 14 + k ≠ j by omega)]
    refine ⟨?_, (c1 k hk).2⟩
    by_cases e : k = j
    · rw [e, pk_us, pk_us]
    · rw [pk_un e, pk_un e]; exact (c1 k hk).1
  · rw [pk_un (by omega)]; exact c2
  · rw [pk_un (by omega)]; exact c3
  · rw [pk_un (by omega)]; exact c4
  · rw [pk_un (by omega)]; exact c5
theorem ci_br {cr kg la mi : Int32} {pl br rg nw : Nat → Int32} (h : CourtIs cr kg la mi pl br rg nw) {j : Nat} (hj : j < 7) (v : Int32) : CourtIs cr kg la mi pl (upd br j v) rg (upd nw (7 + j) v) := by
  obtain ⟨c1, c2, c3, c4, c5⟩ := h
  refine ⟨fun k hk => ?_, ?_, ?_, ?_, ?_⟩
  · rw [pk_un (show k ≠ 7 + j by omega), pk_un (show 14 + k ≠ 7 + j by omega)]
    refine ⟨(c1 k hk).1, ?_, (c1 k hk).2.2⟩
    by_cases e : k = j
    · rw [e, pk_us, pk_us]
    · rw [pk_un (show 7 + k ≠ 7 + j by omega), pk_un e]; exact (c1 k hk).2.1
  · rw [pk_un (by omega)]; exact c2
  · rw [pk_un (by omega)]; exact c3
  · rw [pk_un (by omega)]; exact c4
  · rw [pk_un (by omega)]; exact c5
theorem ci_rg {cr kg la mi : Int32} {pl br rg nw : Nat → Int32} (h : CourtIs cr kg la mi pl br rg nw) {j : Nat} (hj : j < 7) (v : Int32) : CourtIs cr kg la mi pl br (upd rg j v) (upd nw (14 + j) v) := by
  obtain ⟨c1, c2, c3, c4, c5⟩ := h
  refine ⟨fun k hk => ?_, ?_, ?_, ?_, ?_⟩
  · rw [pk_un (show k ≠ 14 + j by omega), pk_un (show 7 + k ≠ 14 + j by omega)]
    refine ⟨(c1 k hk).1, (c1 k hk).2.1, ?_⟩
    by_cases e : k = j
    · rw [e, pk_us, pk_us]
    · rw [pk_un (show 14 + k ≠ 14 + j by omega), pk_un e]; exact (c1 k hk).2.2
  · rw [pk_un (by omega)]; exact c2
  · rw [pk_un (by omega)]; exact c3
  · rw [pk_un (by omega)]; exact c4
  · rw [pk_un (by omega)]; exact c5
theorem co_pl {cr kg la mi : Int32} {pl br : Nat → Int32} (h : CourtOK cr kg la mi pl br) {j : Nat} {v : Int32} (hv : inR v 12) : CourtOK cr kg la mi (upd pl j v) br := by
  refine ⟨fun k hk => ⟨?_, (h.1 k hk).2⟩, h.2⟩
  by_cases e : k = j
  · rw [e, pk_us]; exact hv
  · rw [pk_un e]; exact (h.1 k hk).1
theorem co_br {cr kg la mi : Int32} {pl br : Nat → Int32} (h : CourtOK cr kg la mi pl br) {j : Nat} {v : Int32} (hv : inR v 10) : CourtOK cr kg la mi pl (upd br j v) := by
  refine ⟨fun k hk => ⟨(h.1 k hk).1, ?_⟩, h.2⟩
  by_cases e : k = j
  · rw [e, pk_us]; exact hv
  · rw [pk_un e]; exact (h.1 k hk).2
theorem cl_21 : (21 : Int32).toNatClampNeg = 21 := pk_cl 21
theorem cl_22 : (22 : Int32).toNatClampNeg = 22 := pk_cl 22
theorem cl_23 : (23 : Int32).toNatClampNeg = 23 := pk_cl 23
theorem cl_24 : (24 : Int32).toNatClampNeg = 24 := pk_cl 24
theorem here_k {he : Int32} (h : inR he 128) {k : Nat} (hk : k < 7) : f_X1_isHere he (nI k) = some (b2 (bt he k)) := by
  rw [ishere_ok he h, isN_t (by decide) hk, nI_clamp (by omega), Bool.true_and]
theorem there_k (he : Int32) {k : Nat} (hk : k < 7) : f_X10_isThere he (nI k) = some (b2 (bt he k)) := by
  rw [there_ok, isN_t (by decide) hk, nI_clamp (by omega), Bool.true_and]
theorem bd_id {α : Type} (x : Option α) : x.bind (fun y => some y) = x := by cases x <;> rfl
theorem sim_min {ac to ft he cr kg la mi hm : Int32} {pl br rg rd nw : Nat → Int32} (w a : Int32) (hI : CourtIs cr kg la mi pl br rg nw) (hO : CourtOK cr kg la mi pl br) : ∃ R nw', f_X10_minute nw = some (R, nw') ∧ Sim ac to ft (f_X8_attempt ac to ft he cr kg la mi pl br rg hm rd 4 w a) R false nw' := by
  obtain ⟨c1, c2, c3, c4, c5⟩ := id hI
  obtain ⟨o1, o2, o3, o4, ⟨m, hm', rfl⟩⟩ := id hO
  unfold f_X10_minute
  rw [cl_24, cl_22, pk_un (show 22 ≠ 24 by decide), c5, c3]
  by_cases g : m = 99
  · subst g
    rw [if_pos (show nI 99 = 99 from rfl)]
    refine ⟨nI 9, nw, rfl, att_no (r := 9) ?_ (by decide) (by decide) hI hO⟩
    unfold f_X1_reasonAgainst
    rw [if_pos rfl, if_neg (by decide)]
    rfl
  · rw [if_neg (fun e => g ((eq_lit (a := 99) (by decide) (by omega)).mp e))]
    have hr : f_X1_reasonAgainst he cr kg la (nI m) pl br hm rd 4 w a = some 0 := by
      unfold f_X1_reasonAgainst
      rw [if_pos rfl, if_pos ((lt_lit (a := 99) (by decide) (by omega)).mpr (by omega))]
    have hO' : CourtOK cr kg la (nI m + 1) pl br := ⟨o1, o2, o3, o4, ⟨m + 1, by omega, nI_1 m⟩⟩
    rcases o3 with e | ⟨j, hj, e⟩
    · subst e
      rw [if_pos (show (-6 : Int32) < 0 by decide)]
      refine ⟨0, _, rfl, att_yes (tb := false) hr ?_ (by decide) (ci_mi hI (nI m + 1)) hO'⟩
      unfold f_X1_act
      rw [if_pos rfl, one_ok, bd_some, show isN 7 (-6) = false by decide, if_f]
    · subst e
      rw [if_neg (nI_pos (by omega)), q_14, if_pos (ix_t (by omega) (by decide)), nI_clamp (by omega)]
      refine ⟨0, _, rfl, att_yes (tb := false) hr ?_ (by decide) (ci_rg (ci_mi hI (nI m + 1)) hj _) hO'⟩
      unfold f_X1_act
      rw [if_pos rfl, one_ok, bd_some, isN_t (by decide) hj, if_t, if_pos (ix_t hj (by decide)), nI_clamp (by omega), pk_un (show 14 + j ≠ 24 by omega), (c1 j hj).2.2]
theorem sim_run {ac to ft he cr kg la mi hm : Int32} {pl br rg rd mrd nw : Nat → Int32} (hrd : ∀ p, p < 12 → mrd p = rd p) (hhe : inR he 128) {k a : Nat} (hk : k < 7) (ha : a < 12) (hI : CourtIs cr kg la mi pl br rg nw) (hO : CourtOK cr kg la mi pl br) : ∃ R nw', f_X10_run he mrd nw (nI k) (nI a) = some (R, nw') ∧ Sim ac to ft (f_X8_attempt ac to ft he cr kg la mi pl br rg hm rd 0 (nI k) (nI a)) R false nw' := by
  obtain ⟨c1, c2, c3, c4, c5⟩ := id hI
  obtain ⟨⟨q, hq, eq⟩, ⟨b, hb, eb⟩⟩ := hO.1 k hk
  unfold f_X10_run
  rw [there_k he hk, bd_some]
  cases g1 : bt he k with
  | false =>
    rw [if_f]
    refine ⟨nI 1, nw, rfl, att_no (r := 1) ?_ (by decide) (by decide) hI hO⟩
    unfold f_X1_reasonAgainst
    rw [if_neg (by decide), here_k hhe hk, bd_some, g1, if_f]
    rfl
  | true =>
    have rr : f_X1_reasonAgainst he cr kg la mi pl br hm rd 0 (nI k) (nI a) = if b2 (bt (rd q) a) = 0 then some 2 else if nI b = 0 then some 3 else if b2 (bt cr k) = 0 then some 0 else some 4 := by
      unfold f_X1_reasonAgainst
      rw [if_neg (by decide), here_k hhe hk, bd_some, g1, if_t, if_pos rfl, bd_id]
      unfold f_X1_reasonAgainstRun
      rw [plc_ok pl hk, bd_some, eq, rof_ok rd hq, bd_some, holds_ok _ (by omega), bd_some, bre_ok br hk, bd_some, eb, holds_ok _ (by omega), bd_some]
    rw [if_t, if_pos (ix_t (by omega) (by decide)), nI_clamp (by omega), (c1 k hk).1, eq, if_pos (ix_t hq (by decide)), nI_clamp (by omega), hrd q hq, has_ok _ (by omega), bd_some, cl_21, c2]
    simp only [q_7]
    rw [if_pos (ix_t (by omega) (by decide)), nI_clamp (by omega), (c1 k hk).2.1, eb]
    cases g2 : bt (rd q) a with
    | false =>
      rw [if_f]
      refine ⟨nI 2, nw, rfl, att_no (r := 2) ?_ (by decide) (by decide) hI hO⟩
      rw [rr, g2, if_f]
      rfl
    | true =>
      rw [if_t]
      by_cases g3 : b = 0
      · rw [g3, if_pos (show nI 0 = 0 from rfl)]
        refine ⟨nI 3, nw, rfl, att_no (r := 3) ?_ (by decide) (by decide) hI hO⟩
        rw [rr, g2, if_t, g3, if_pos (show nI 0 = 0 from rfl)]
        rfl
      · have hb0 : ¬ nI b = 0 := nI_ne0 (by omega) (by omega)
        rw [if_neg hb0, has_ok _ (by omega), bd_some]
        cases g4 : bt cr k with
        | true =>
          rw [if_t]
          refine ⟨nI 4, nw, rfl, att_no (r := 4) ?_ (by decide) (by decide) hI hO⟩
          rw [rr, g2, if_t, if_neg hb0, g4, if_t]
          rfl
        | false =>
          rw [if_f, pk_un (show 7 + k ≠ k by omega), (c1 k hk).2.1, eb]
          have e1 : nI b - (1 : Int32) = nI (b - 1) := pk_sub (a := b) (b := 1) (by omega)
          rw [e1]
          refine ⟨0, _, rfl, att_yes (tb := false) ?_ ?_ (by decide) (ci_br (ci_pl hI hk (nI a)) hk (nI (b - 1))) (co_br (co_pl hO ⟨a, ha, rfl⟩) ⟨b - 1, by omega, rfl⟩)⟩
          · rw [rr, g2, if_t, if_neg hb0, g4, if_f]
          · unfold f_X1_act
            rw [if_neg (by decide), one_ok, bd_some, isN_t (by decide) hk, if_t, if_pos rfl, if_pos (ix_t hk (by decide)), nI_clamp (by omega), eb, e1]
theorem sim_touch {ac to ft he cr kg la mi hm : Int32} {pl br rg rd nw : Nat → Int32} (hhm : inR hm 4096) (hhe : inR he 128) {k x : Nat} (hk : k < 7) (hx : x < 7) (hI : CourtIs cr kg la mi pl br rg nw) (hO : CourtOK cr kg la mi pl br) : ∃ R tb nw', f_X10_touch hm he to nw (nI k) (nI x) = some (R, (if tb then to + 1 else to), nw') ∧ Sim ac to ft (f_X8_attempt ac to ft he cr kg la mi pl br rg hm rd 1 (nI k) (nI x)) R tb nw' := by
  obtain ⟨c1, c2, c3, c4, c5⟩ := id hI
  obtain ⟨⟨q, hq, eq⟩, -⟩ := hO.1 k hk
  have no : ∀ r : Nat, r ≠ 0 → r < 10 → f_X1_reasonAgainst he cr kg la mi pl br hm rd 1 (nI k) (nI x) = some (nI r) → ∃ R tb nw', some (nI r, to, nw) = some (R, (if tb then to + 1 else to), nw') ∧ Sim ac to ft (f_X8_attempt ac to ft he cr kg la mi pl br rg hm rd 1 (nI k) (nI x)) R tb nw' := fun r h0 h1 h => ⟨nI r, false, nw, rfl, att_no h h0 h1 hI hO⟩
  unfold f_X10_touch
  rw [there_k he hk, bd_some]
  cases g1 : bt he k with
  | false =>
    rw [if_f]
    refine no 1 (by decide) (by decide) ?_
    unfold f_X1_reasonAgainst
    rw [if_neg (by decide), here_k hhe hk, bd_some, g1, if_f]
    rfl
  | true =>
    have rr : f_X1_reasonAgainst he cr kg la mi pl br hm rd 1 (nI k) (nI x) = f_X1_reasonAgainstTouch he cr kg la pl hm (nI k) (nI x) := by
      unfold f_X1_reasonAgainst
      rw [if_neg (by decide), here_k hhe hk, bd_some, g1, if_t, if_neg (by decide), if_pos rfl, bd_id]
    rw [if_t, there_k he hx, bd_some]
    unfold f_X1_reasonAgainstTouch at rr
    rw [here_k hhe hx, bd_some] at rr
    cases g2 : bt he x with
    | false =>
      rw [g2, if_f] at rr
      rw [if_f]
      exact no 1 (by decide) (by decide) rr
    | true =>
      rw [g2, if_t] at rr
      rw [if_t]
      by_cases g3 : nI k = nI x
      · rw [if_pos g3] at rr
        rw [if_pos g3]
        exact no 2 (by decide) (by decide) rr
      · rw [if_neg g3] at rr
        rw [if_neg g3, cl_22, c3]
        by_cases g4 : kg = nI k
        · rw [if_pos g4.symm, holds_ok _ (by omega), bd_some] at rr
          rw [if_pos g4, cl_21, c2, has_ok _ (by omega), bd_some]
          cases g5 : bt cr k with
          | true =>
            rw [g5, if_t] at rr
            rw [if_t]
            exact no 4 (by decide) (by decide) rr
          | false =>
            rw [g5, if_f, plc_ok pl hk, bd_some, plc_ok pl hx, bd_some] at rr
            rw [if_f, if_pos (ix_t (by omega) (by decide)), if_pos (ix_t (by omega) (by decide)), nI_clamp (by omega), nI_clamp (by omega), (c1 k hk).1, (c1 x hx).1]
            by_cases g6 : pl k = pl x
            · rw [if_pos g6, holds_ok _ (by omega), bd_some] at rr
              rw [if_pos g6, has_ok _ (by omega), bd_some]
              cases g7 : bt cr x with
              | true =>
                rw [g7, if_t] at rr
                rw [if_t]
                exact no 6 (by decide) (by decide) rr
              | false =>
                rw [g7, if_f, bd_some, eq, holds_ok _ (by omega), bd_some] at rr
                rw [if_f, eq, has_ok _ (by omega), bd_some]
                cases g8 : bt hm q with
                | true =>
                  rw [g8, if_t] at rr
                  rw [if_t]
                  exact no 7 (by decide) (by decide) rr
                | false =>
                  rw [g8, if_f] at rr
                  rw [if_f, cl_23, c4]
                  by_cases g9 : la = nI x
                  · rw [if_pos g9.symm] at rr
                    rw [if_pos g9]
                    exact no 8 (by decide) (by decide) rr
                  · rw [if_neg (fun e => g9 e.symm)] at rr
                    rw [if_neg g9]
                    refine ⟨0, true, _, rfl, att_yes (tb := true) rr ?_ (by decide) (ci_la (ci_kg hI (nI x)) (nI k)) ⟨hO.1, hO.2.1, Or.inr ⟨x, hx, rfl⟩, Or.inr ⟨k, hk, rfl⟩, hO.2.2.2.2⟩⟩
                    unfold f_X1_act
                    rw [if_neg (by decide), one_ok, bd_some, isN_t (by decide) hk, if_t, if_neg (by decide), if_pos rfl]
            · rw [if_neg g6] at rr
              rw [if_neg g6]
              exact no 5 (by decide) (by decide) rr
        · rw [if_neg (fun e => g4 e.symm)] at rr
          rw [if_neg g4]
          exact no 3 (by decide) (by decide) rr
theorem rest_r {he cr kg la mi hm : Int32} {pl br rd : Nat → Int32} (hhe : inR he 128) {k : Nat} (hk : k < 7) (a : Int32) (p : Int32) (h1 : ¬ p = 4) (h2 : ¬ p = 0) (h3 : ¬ p = 1) : f_X1_reasonAgainst he cr kg la mi pl br hm rd p (nI k) a = if b2 (bt he k) = 0 then some 1 else some 0 := by
  unfold f_X1_reasonAgainst
  rw [if_neg h1, here_k hhe hk, bd_some, if_neg h2, if_neg h3]
theorem sim_rest {ac to ft he cr kg la mi hm : Int32} {pl br rg rd nw : Nat → Int32} (hhe : inR he 128) {k : Nat} (hk : k < 7) (a : Int32) (hI : CourtIs cr kg la mi pl br rg nw) (hO : CourtOK cr kg la mi pl br) : ∃ R nw', f_X10_rest he nw (nI k) = some (R, nw') ∧ Sim ac to ft (f_X8_attempt ac to ft he cr kg la mi pl br rg hm rd 2 (nI k) a) R false nw' := by
  obtain ⟨c1, c2, c3, c4, c5⟩ := id hI
  obtain ⟨-, ⟨b, hb, eb⟩⟩ := hO.1 k hk
  have rr := rest_r (cr := cr) (kg := kg) (la := la) (mi := mi) (hm := hm) (pl := pl) (br := br) (rd := rd) hhe hk a 2 (by decide) (by decide) (by decide)
  unfold f_X10_rest
  rw [there_k he hk, bd_some]
  cases g1 : bt he k with
  | false =>
    rw [g1, if_f] at rr
    rw [if_f]
    exact ⟨nI 1, nw, rfl, att_no (r := 1) rr (by decide) (by decide) hI hO⟩
  | true =>
    rw [g1, if_t] at rr
    rw [if_t, q_7, if_pos (ix_t (by omega) (by decide)), nI_clamp (by omega), (c1 k hk).2.1, eb, p_2]
    have ha : ∀ v : Int32, (if (9 : Int32) < nI (b + 2) then (9 : Int32) else nI (b + 2)) = v → f_X1_act cr kg la mi pl br rg 2 (nI k) a = some (cr, kg, la, mi, pl, upd br k v, rg) := by
      intro v hv
      unfold f_X1_act
      rw [if_neg (by decide), one_ok, bd_some, isN_t (by decide) hk, if_t, if_neg (by decide), if_neg (by decide), if_pos rfl, if_pos (ix_t hk (by decide)), nI_clamp (by omega), eb, p_2, hv]
    by_cases g : b + 2 ≤ 9
    · rw [if_pos ((le_lit (a := 9) (by decide) (by omega)).mpr g)]
      refine ⟨0, _, rfl, att_yes (tb := false) rr (ha _ ?_) (by decide) (ci_br hI hk (nI (b + 2))) (co_br hO ⟨b + 2, by omega, rfl⟩)⟩
      rw [if_neg (fun e => by have := (lit_lt (a := 9) (by decide) (by omega)).mp e; omega)]
    · rw [if_neg (fun e => g ((le_lit (a := 9) (by decide) (by omega)).mp e))]
      refine ⟨0, _, rfl, att_yes (tb := false) rr (ha _ ?_) (by decide) (ci_br hI hk 9) (co_br hO ⟨9, by decide, rfl⟩)⟩
      rw [if_pos ((lit_lt (a := 9) (by decide) (by omega)).mpr (by omega))]
theorem inR_xor {s : Int32} {m k : Nat} (h : inR s (2 ^ m)) (hk : k < m) (hm : m ≤ 31) : inR (s ^^^ bI k) (2 ^ m) := inR_of (fun i hi h32 => by
  rw [b_xor, bt_bI (by omega) h32, inR_hi h hi, decide_eq_false (by omega)]; rfl)
theorem sim_cross {ac to ft he cr kg la mi hm : Int32} {pl br rg rd nw : Nat → Int32} (hhe : inR he 128) {k : Nat} (hk : k < 7) (a : Int32) (hI : CourtIs cr kg la mi pl br rg nw) (hO : CourtOK cr kg la mi pl br) : ∃ R nw', f_X10_cross he nw (nI k) = some (R, nw') ∧ Sim ac to ft (f_X8_attempt ac to ft he cr kg la mi pl br rg hm rd 3 (nI k) a) R false nw' := by
  obtain ⟨c1, c2, c3, c4, c5⟩ := id hI
  have rr := rest_r (cr := cr) (kg := kg) (la := la) (mi := mi) (hm := hm) (pl := pl) (br := br) (rd := rd) hhe hk a 3 (by decide) (by decide) (by decide)
  unfold f_X10_cross
  rw [there_k he hk, bd_some]
  cases g1 : bt he k with
  | false =>
    rw [g1, if_f] at rr
    rw [if_f]
    exact ⟨nI 1, nw, rfl, att_no (r := 1) rr (by decide) (by decide) hI hO⟩
  | true =>
    rw [g1, if_t] at rr
    rw [if_t, cl_21, c2]
    refine ⟨0, _, rfl, att_yes (tb := false) rr ?_ (by decide) (ci_cr hI _) ⟨hO.1, inR_xor (m := 7) hO.2.1 hk (by decide), hO.2.2⟩⟩
    unfold f_X1_act
    rw [if_neg (by decide), one_ok, bd_some, isN_t (by decide) hk, if_t, if_neg (by decide), if_neg (by decide), if_neg (by decide)]
