/-! flees -/
def flP (hm : Int32) (rd : Nat → Int32) (k o : Nat) (q : Nat) : Bool := mvB rd o q && decide (fT hm rd k q = mbN rd (eT hm rd) k o 12)
def flV (hm : Int32) (rd : Nat → Int32) (k o : Nat) : Int32 := if tch hm k o then -6 else lst (flP hm rd k o)
theorem mb_at {hm : Int32} {rd : Nat → Int32} {k o b : Nat} : mbN rd (eT hm rd) k o 12 ≤ b ↔ ∀ q, q < 12 → mvB rd o q = true → fT hm rd k q ≤ b := by
  rw [mbN_iff]
  constructor
  · intro h q hq hmv
    have := h q hq hmv
    rw [eT_at hm rd hq] at this
    exact this
  · intro h q hq hmv
    rw [eT_at hm rd hq]
    exact h q hq hmv
/-- what is left, all of it at n: the answer -/
theorem fl_end {hm : Int32} {rd : Nat → Int32} {k o n : Nat} {best : Int32} (hb : ∀ q, q < 12 → (bt best q = true ↔ mvB rd o q = true ∧ n ≤ vN hm rd k q)) (hne : ∃ q, q < 12 ∧ bt best q = true) (hn : n ≤ 144) (hall : ∀ q, q < 12 → bt best q = true → vN hm rd k q ≤ n) : lst (bt best) = lst (flP hm rd k o) := by
  have hM : mbN rd (eT hm rd) k o 12 = n := by
    apply Nat.le_antisymm
    · refine mb_at.mpr (fun q hq hmv => ?_)
      have h1 : vN hm rd k q ≤ n := by
        rcases Nat.lt_or_ge (vN hm rd k q) n with g | g
        · omega
        · exact hall q hq ((hb q hq).mpr ⟨hmv, g⟩)
      unfold fT
      rw [if_pos (by omega)]
      exact h1
    · obtain ⟨q, hq, h1⟩ := hne
      have h2 := (hb q hq).mp h1
      have h3 := hall q hq h1
      have h4 := mb_at.mp (Nat.le_refl (mbN rd (eT hm rd) k o 12)) q hq h2.1
      unfold fT at h4
      rw [if_pos (by omega)] at h4
      omega
  refine lst_cong (fun q hq => ?_)
  rw [Bool.eq_iff_iff, hb q hq]
  unfold flP
  rw [Bool.and_eq_true, decide_eq_true_iff, hM]
  constructor
  · rintro ⟨h1, h2⟩
    have h3 := hall q hq ((hb q hq).mpr ⟨h1, h2⟩)
    refine ⟨h1, ?_⟩
    unfold fT
    rw [if_pos (by omega)]
    omega
  · rintro ⟨h1, h2⟩
    refine ⟨h1, ?_⟩
    unfold fT at h2
    split at h2 <;> omega
/-- what is left is never caught -/
theorem fl_never {hm : Int32} {rd : Nat → Int32} {k o n : Nat} {best : Int32} (hb : ∀ q, q < 12 → (bt best q = true ↔ mvB rd o q = true ∧ n ≤ vN hm rd k q)) (hne : ∃ q, q < 12 ∧ bt best q = true) (hn : n ≤ 145) (hall : ∀ q, q < 12 → bt best q = true → vN hm rd k q = 145) : lst (bt best) = lst (flP hm rd k o) := by
  have hM : mbN rd (eT hm rd) k o 12 = 1000000 := by
    apply Nat.le_antisymm
    · exact mb_at.mpr (fun q hq hmv => fT_le hm rd k q)
    · obtain ⟨q, hq, h1⟩ := hne
      have h2 := (hb q hq).mp h1
      have h3 := hall q hq h1
      have h4 := mb_at.mp (Nat.le_refl (mbN rd (eT hm rd) k o 12)) q hq h2.1
      unfold fT at h4
      rw [if_neg (by omega)] at h4
      exact h4
  refine lst_cong (fun q hq => ?_)
  rw [Bool.eq_iff_iff, hb q hq]
  unfold flP
  rw [Bool.and_eq_true, decide_eq_true_iff, hM]
  constructor
  · rintro ⟨h1, h2⟩
    have h3 := hall q hq ((hb q hq).mpr ⟨h1, h2⟩)
    refine ⟨h1, ?_⟩
    unfold fT
    rw [if_neg (by omega)]
  · rintro ⟨h1, h2⟩
    refine ⟨h1, ?_⟩
    unfold fT at h2
    split at h2 <;> omega
theorem oth_loop {hm : Int32} {rd : Nat → Int32} (hl : ∀ p, p < 12 → inR (rd p) 4096) {k o : Nat} (hk : k < 12) (ho : o < 12) : ∀ (d n fuel : Nat) (more : Bool) (best : Int32) (c t : Nat → Int32), n + d = 145 → d < fuel → Row c (ctc hm rd n) → inR best 4096 → (∀ q, q < 12 → (bt best q = true ↔ mvB rd o q = true ∧ n ≤ vN hm rd k q)) → (∃ q, q < 12 ∧ bt best q = true) → (more = false → ∀ q, q < 12 → bt best q = true → vN hm rd k q = 145) → ∃ c' t', f_X0_othersStep_L33 hm rd (nI k) f_X0_othersStep_X33 fuel best (b2 more) (nI n) c t = some (lst (flP hm rd k o), c', t') := by
  intro d
  induction d with
  | zero =>
    intro n fuel more best c t hn hf hc hbr hb hne hmo
    obtain ⟨f, rfl⟩ : ∃ f, fuel = f + 1 := ⟨fuel - 1, by omega⟩
    obtain rfl : n = 145 := by omega
    rw [f_X0_othersStep_L33, if_pos (by decide)]
    unfold f_X0_othersStep_X33
    rw [least_ok, bd_some, fl_never hb hne (Nat.le_refl _) (fun q hq h => by have := ((hb q hq).mp h).2; have := vN_le hm rd k q; omega)]
    exact ⟨c, t, rfl⟩
  | succ d ih =>
    intro n fuel more best c t hn hf hc hbr hb hne hmo
    obtain ⟨f, rfl⟩ : ∃ f, fuel = f + 1 := ⟨fuel - 1, by omega⟩
    rw [f_X0_othersStep_L33, if_neg (fun e => by have := (lit_lt (a := 144) (by decide) (by omega)).mp e; omega)]
    cases more with
    | false =>
      rw [if_f]
      unfold f_X0_othersStep_X33
      rw [least_ok, bd_some, fl_never hb hne (by omega) (hmo rfl)]
      exact ⟨c, t, rfl⟩
    | true =>
      rw [if_t, cby_ok c hk, bd_some]
      have free : ∀ q, q < 12 → (bt (best &&& (c k ^^^ (-1))) q = true ↔ mvB rd o q = true ∧ n + 1 ≤ vN hm rd k q) := by
        intro q hq
        have h1 := hc k q hk (by omega)
        rw [b_and, Bool.and_eq_true, hb q hq, bt_x _ (by omega), h1, vN_iff (by omega)]
        constructor
        · rintro ⟨⟨h2, h3⟩, h4⟩
          refine ⟨h2, ?_⟩
          rcases Nat.lt_or_ge n (vN hm rd k q) with g | g
          · exact g
          · exact absurd ⟨hq, g⟩ h4
        · rintro ⟨h2, h3⟩
          exact ⟨⟨h2, by omega⟩, fun h4 => by have := h4.2; omega⟩
      have hfr : inR (best &&& (c k ^^^ (-1))) 4096 := inR_of (m := 12) (fun i hi h32 => by rw [b_and, inR_hi (m := 12) hbr hi]; rfl)
      by_cases g : (best &&& (c k ^^^ (-1))) = 0
      · rw [if_pos g, least_ok, bd_some, fl_end hb hne (by omega) (fun q hq h => ?_)]
        · exact ⟨c, t, rfl⟩
        · rcases Nat.lt_or_ge n (vN hm rd k q) with g2 | g2
          · have h3 := (free q hq).mpr ⟨((hb q hq).mp h).1, g2⟩
            rw [g, b_0] at h3
            cases h3
          · exact g2
      · rw [if_neg g]
        obtain ⟨more', c', t', a1, a2, a3, a4⟩ := adv_ok (hm := hm) hl hc t
        rw [a1, bd_some]
        dsimp only
        rw [nI_1]
        have hne' : ∃ q, q < 12 ∧ bt (best &&& (c k ^^^ (-1))) q = true := by
          refine Classical.byContradiction (fun hno => g (b_ext (fun i hi => ?_)))
          rw [b_0]
          rcases Nat.lt_or_ge i 12 with h12 | h12
          · exact Bool.eq_false_iff.mpr (fun e => hno ⟨i, h12, e⟩)
          · exact inR_hi (m := 12) hfr h12
        refine ih (n + 1) f more' _ c' t' (by omega) (by omega) a2 hfr free hne' (fun hmo' q hq h => ?_)
        have h1 := ((free q hq).mp h).2
        have hst := stab_never (a4 hmo')
        rcases Nat.lt_or_ge (vN hm rd k q) 145 with q1 | q1
        · have h4 := (vN_iff (hm := hm) (rd := rd) (k := k) (o := q) (n := vN hm rd k q) (by omega)).mpr (Nat.le_refl _)
          have h5 := hst (vN hm rd k q - n) k q hk hq
          rw [show n + (vN hm rd k q - n) = vN hm rd k q by omega, h4] at h5
          have h6 := (vN_iff (n := n) (by omega)).mp h5.symm
          omega
        · have := vN_le hm rd k q
          omega
theorem oth_ok {hm : Int32} {rd : Nat → Int32} (hl : ∀ p, p < 12 → inR (rd p) 4096) {k o : Nat} (hk : k < 12) (ho : o < 12) (c0 t0 : Nat → Int32) : ∃ c' t', f_X0_othersStep c0 t0 hm rd (nI k) (nI o) = some (flV hm rd k o, c', t') := by
  obtain ⟨c, h1, h2⟩ := begin_row hm c0
  unfold f_X0_othersStep flV
  rw [h1, bd_some, cby_ok c hk, bd_some, holds_ok _ (by omega), bd_some]
  have h3 := h2 k o hk (by omega)
  cases g : bt (c k) o with
  | true =>
    rw [if_t, (h3.mp g).2, if_pos rfl]
    exact ⟨c, t0, rfl⟩
  | false =>
    have h4 : tch hm k o = false := by
      cases g4 : tch hm k o with
      | false => rfl
      | true => rw [h3.mpr ⟨ho, g4⟩] at g; cases g
    rw [if_f, h4, if_neg Bool.false_ne_true, moves_ok rd ho, bd_some]
    refine oth_loop hl hk ho 145 0 5000 true _ c t0 (by decide) (by decide) h2 (inR_on (m := 12) (hl o ho) ho (by decide)) (fun q hq => ?_) ⟨o, ho, ?_⟩ (fun e => (by cases e))
    · rw [moves_bt rd ho (by omega)]
      exact ⟨fun h => ⟨h, Nat.zero_le _⟩, fun h => h.1⟩
    · rw [moves_bt rd ho (by omega)]
      exact mvB_self rd o
theorem mflee_loop {hm : Int32} {rd r : Nat → Int32} (hT : Tab r (eT hm rd)) {k o : Nat} (hk : k < 12) (ho : o < 12) : f_X10_flees_L47 rd (nI k) (nI o) r (nI (mbN rd (eT hm rd) k o 12)) (f_X10_flees_X47 r) 5000 (-6) 11 = some (lst (flP hm rd k o), r) := by
  have hml := mbN_le (rd := rd) hT (p := k) (o := o) hk 12 (Nat.le_refl _)
  refine last_down (L := fun f s c => f_X10_flees_L47 rd (nI k) (nI o) r (nI (mbN rd (eT hm rd) k o 12)) (f_X10_flees_X47 r) f s (dx c)) (out := fun x => some (x, r)) (P := flP hm rd k o) (fun f s i hi => ?_) (fun f s => ?_) 12 5000 (-6) (by decide) (by decide) (Or.inl ⟨rfl, fun j a b => absurd a (by omega)⟩)
  · show f_X10_flees_L47 rd (nI k) (nI o) r (nI (mbN rd (eT hm rd) k o 12)) (f_X10_flees_X47 r) (f + 1) s (dx (i + 1)) = f_X10_flees_L47 rd (nI k) (nI o) r (nI (mbN rd (eT hm rd) k o 12)) (f_X10_flees_X47 r) f (if flP hm rd k o i = true then nI i else s) (dx i)
    rw [dx_s, f_X10_flees_L47, if_neg (nI_pos (by omega))]
    have key : ∀ b : Bool, b = mvB rd o i → f_X10_flees_B77 (nI k) r (nI (mbN rd (eT hm rd) k o 12)) s (nI i) (f_X10_flees_L47 rd (nI k) (nI o) r (nI (mbN rd (eT hm rd) k o 12)) (f_X10_flees_X47 r) f) (b2 b) = f_X10_flees_L47 rd (nI k) (nI o) r (nI (mbN rd (eT hm rd) k o 12)) (f_X10_flees_X47 r) f (if flP hm rd k o i = true then nI i else s) (dx i) := by
      intro b hb
      unfold f_X10_flees_B77 flP
      rw [← hb]
      cases b with
      | false =>
        rw [if_f, Bool.false_and, if_neg Bool.false_ne_true]
        rfl
      | true =>
        have hfl := fT_le hm rd k i
        rw [if_t, Bool.true_and]
        simp only [m_12, nI_add]
        rw [if_pos (ix_t (by omega) (by decide)), nI_clamp (by omega), (hT (12 * k + i) (by omega)).1, eT_at hm rd hi]
        by_cases g : fT hm rd k i = mbN rd (eT hm rd) k o 12
        · rw [decide_eq_true g, if_pos rfl, if_pos (by rw [g])]
          rfl
        · rw [decide_eq_false g, if_neg Bool.false_ne_true, if_neg (fun c => g (nI_inj' (by omega) (by omega) c))]
          rfl
    have k1 := key true
    have k0 := key false
    rw [b2_t] at k1
    rw [b2_f] at k0
    unfold f_X10_flees_B72
    by_cases e : i = o
    · rw [if_pos (by rw [e])]
      exact k1 (by rw [e]; exact (mvB_self rd o).symm)
    · rw [if_neg (fun g => e (nI_inj' (by omega) (by omega) g)), if_pos (ix_t ho (by decide)), nI_clamp (by omega), has_ok _ (by omega), bd_some]
      have hmv : mvB rd o i = bt (rd o) i := by
        unfold mvB
        rw [decide_eq_false e]; rfl
      cases g : bt (rd o) i with
      | false => rw [if_f]; exact k0 (by rw [hmv, g])
      | true => rw [if_t]; exact k1 (by rw [hmv, g])
  · show f_X10_flees_L47 rd (nI k) (nI o) r (nI (mbN rd (eT hm rd) k o 12)) (f_X10_flees_X47 r) (f + 1) s (dx 0) = _
    rw [f_X10_flees_L47, if_pos (by decide)]
    rfl
theorem mflee_ok {hm : Int32} {rd : Nat → Int32} (hl : ∀ p, p < 12 → inR (rd p) 4096) (r0 : Nat → Int32) {k o : Nat} (hk : k < 12) (ho : o < 12) : ∃ r, f_X10_flees hm rd r0 (nI k) (nI o) = some (flV hm rd k o, r) := by
  unfold f_X10_flees flV
  rw [mplace_ok, bd_some, isN_t (by decide) hk, if_t, mplace_ok, bd_some, isN_t (by decide) ho, if_t, ist_ok hm hk ho, bd_some]
  cases tch hm k o with
  | true =>
    rw [if_t, if_pos rfl]
    exact ⟨r0, rfl⟩
  | false =>
    obtain ⟨r, e2, e3⟩ := layR_ok (hm := hm) hl r0
    have hT : Tab r (eT hm rd) := e3
    rw [if_f, if_neg Bool.false_ne_true, e2, bd_some, mb_ok hT hk ho, bd_some]
    exact ⟨r, mflee_loop hT hk ho⟩
theorem flV_cong {hm : Int32} {rd sd : Nat → Int32} (h : ∀ p, p < 12 → sd p = rd p) {k o : Nat} (hk : k < 12) (ho : o < 12) : flV hm sd k o = flV hm rd k o := by
  unfold flV
  have mv : ∀ a b, a < 12 → mvB sd a b = mvB rd a b := fun a b ha => by unfold mvB; rw [h a ha]
  have hM : mbN sd (eT hm sd) k o 12 = mbN rd (eT hm rd) k o 12 := by
    apply Nat.le_antisymm
    · refine mb_at.mpr (fun q hq hmv => ?_)
      rw [fT_cong h hk hq]
      exact mb_at.mp (Nat.le_refl _) q hq (by rw [← mv o q ho]; exact hmv)
    · refine mb_at.mpr (fun q hq hmv => ?_)
      rw [← fT_cong h hk hq]
      exact mb_at.mp (Nat.le_refl _) q hq (by rw [mv o q ho]; exact hmv)
  rw [lst_cong (Q := flP hm rd k o) (fun q hq => ?_)]
  unfold flP
  rw [hM, mv o q ho, fT_cong h hk hq]
theorem ok_flees : OK_flees := by
  intro hm rd he cr kg la mi pl br rg sz fs sc nr ss fr tt mrd mhm th bk me mt si sg pz ps ms mp hR hQ c0 t0 r0 p1 p2
  obtain ⟨q1, q2, rfl, -⟩ := id hR
  rcases pl2 (p1 := p1) (p2 := p2) with ⟨a, b, ha, hb, rfl, rfl⟩ | g | ⟨g1, g2⟩
  · obtain ⟨c', t', e1⟩ := oth_ok (hm := mhm) (rd := rd) q2.1 ha hb c0 t0
    obtain ⟨r, e2⟩ := mflee_ok (hm := mhm) (rd := mrd) (fun p hp => by rw [q1 p hp]; exact q2.1 p hp) r0 ha hb
    rw [flV_cong q1 ha hb] at e2
    refine ⟨(flV mhm rd a b, c', t'), _, ?_, e2, rfl, hR, hQ⟩
    unfold f_X9_flees
    rw [place_ok, bd_some, isN_t (by decide) ha, if_t, place_ok, bd_some, isN_t (by decide) hb, if_t, e1, bd_some]
  · unfold f_X9_flees f_X10_flees
    rw [place_ok, bd_some, mplace_ok, bd_some, g, if_f, if_f]
    exact ⟨_, _, rfl, rfl, rfl, hR, hQ⟩
  · unfold f_X9_flees f_X10_flees
    rw [place_ok, bd_some, mplace_ok, bd_some, g1, if_t, if_t, place_ok, bd_some, mplace_ok, bd_some, g2, if_f, if_f]
    exact ⟨_, _, rfl, rfl, rfl, hR, hQ⟩
