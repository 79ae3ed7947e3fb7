theorem lay_loop {hm : Int32} {rd : Nat → Int32} (hl : ∀ p, p < 12 → inR (rd p) 4096) : ∀ (d j fuel : Nat) (more : Bool) (r : Nat → Int32) (T : Nat → Nat), j + d = 146 → d < fuel → Tab r T → Snd hm rd T → (∀ k o, k < 12 → o < 12 → Cmp hm rd j k o (T (12 * k + o))) → (more = false → ∀ k o, k < 12 → o < 12 → T (12 * k + o) = fT hm rd k o) → (j = 146 → more = false) → ∃ r', f_X10_layRounds_L44 hm rd f_X10_layRounds_X44 fuel (b2 more) r = some r' ∧ Tab r' (fun i => fT hm rd (i / 12) (i % 12)) := by
  have fin : ∀ (f : Nat) (r : Nat → Int32) (T : Nat → Nat), Tab r T → (∀ k o, k < 12 → o < 12 → T (12 * k + o) = fT hm rd k o) → ∃ r', f_X10_layRounds_L44 hm rd f_X10_layRounds_X44 (f + 1) (b2 false) r = some r' ∧ Tab r' (fun i => fT hm rd (i / 12) (i % 12)) := by
    intro f r T hT h
    rw [f_X10_layRounds_L44, if_f]
    refine ⟨r, rfl, fun i hi => ?_⟩
    have h1 := h (i / 12) (i % 12) (by omega) (by omega)
    rw [show 12 * (i / 12) + i % 12 = i by omega] at h1
    show r i = nI (fT hm rd (i / 12) (i % 12)) ∧ fT hm rd (i / 12) (i % 12) ≤ 1000000
    rw [← h1]
    exact hT i hi
  intro d
  induction d with
  | zero =>
    intro j fuel more r T hj hf hT hs hc he hlast
    obtain ⟨f, rfl⟩ : ∃ f, fuel = f + 1 := ⟨fuel - 1, by omega⟩
    have hmo := hlast (by omega)
    subst hmo
    exact fin f r T hT (he rfl)
  | succ d ih =>
    intro j fuel more r T hj hf hT hs hc he hlast
    obtain ⟨f, rfl⟩ : ∃ f, fuel = f + 1 := ⟨fuel - 1, by omega⟩
    cases more with
    | false => exact fin f r T hT (he rfl)
    | true =>
      rw [f_X10_layRounds_L44, if_t]
      obtain ⟨more', r', T', a1, a2, a3, a4, a5, a6, a7⟩ := sweep_ok (hm := hm) (j := j) (by omega) hl hT hs hc (f_X10_layRounds_X52 (f_X10_layRounds_L44 hm rd f_X10_layRounds_X44 f))
      rw [a1]
      unfold f_X10_layRounds_X52
      refine ih (j + 1) f more' r' T' (by omega) (by omega) a2 a3 a4 (fun hmo k o hk ho => ?_) (fun hj2 => ?_)
      · have fx : ∀ j', j' < 999999 → (∀ k o, k < 12 → o < 12 → Cmp hm rd j' k o (T (12 * k + o))) → ∀ k o, k < 12 → o < 12 → Cmp hm rd (j' + 1) k o (T (12 * k + o)) := by
          intro j' hj' hcc k o hk ho
          have h1 := bs_cmp hj' hcc hk ho
          rcases a6 hmo k o hk ho with h2 | h2
          · rw [h2]; exact fun m _ _ => Nat.zero_le m
          · exact fun m hm' hct => Nat.le_trans h2 (h1 m hm' hct)
        have h3 := cmp_all hl hT hs hc fx 144 (by omega)
        rw [a5 hmo (12 * k + o) (by omega)]
        exact exact_T hT hs (fun k o hk ho m hm' hct => h3 k o hk ho m (by omega) hct) hk ho
      · cases more' with
        | false => rfl
        | true =>
          obtain ⟨y, y1, y2⟩ := a7 rfl
          have e1 := exact_T hT hs (fun k o hk ho m hm' hct => hc k o hk ho m (by omega) hct) (k := y / 12) (o := y % 12) (by omega) (by omega)
          have e2 := exact_T a2 a3 (fun k o hk ho m hm' hct => a4 k o hk ho m (by omega) hct) (k := y / 12) (o := y % 12) (by omega) (by omega)
          rw [show 12 * (y / 12) + y % 12 = y by omega] at e1 e2
          omega
theorem layR_ok {hm : Int32} {rd : Nat → Int32} (hl : ∀ p, p < 12 → inR (rd p) 4096) (r0 : Nat → Int32) : ∃ r, f_X10_layRounds hm rd r0 = some r ∧ Tab r (fun i => fT hm rd (i / 12) (i % 12)) := by
  unfold f_X10_layRounds
  obtain ⟨r, h1, h2⟩ := lay_start hm (f_X10_layRounds_X2 hm rd) r0
  rw [h2]
  unfold f_X10_layRounds_X2
  have hpos : ∀ k o, k < 12 → o < 12 → (12 * k + o) / 12 = k ∧ (12 * k + o) % 12 = o := fun k o hk ho => ⟨by omega, by omega⟩
  refine lay_loop hl 146 0 5000 true r (fun i => if tch hm (i / 12) (i % 12) then 0 else 1000000) (by decide) (by decide) (fun i hi => ⟨h1 i hi, ?_⟩) (fun k o hk ho => ?_) (fun k o hk ho m hm' hct => ?_) (fun e => (by cases e)) (fun e => (by cases e))
  · dsimp only
    split <;> omega
  · dsimp only
    rw [(hpos k o hk ho).1, (hpos k o hk ho).2]
    cases g : tch hm k o with
    | true => intro _; rw [if_pos rfl]; exact g
    | false => intro h; rw [if_neg Bool.false_ne_true] at h; omega
  · rw [(hpos k o hk ho).1, (hpos k o hk ho).2]
    have hm0 : m = 0 := by omega
    subst hm0
    rw [show tch hm k o = true from hct, if_pos rfl]
    omega
theorem ctc_cong {hm : Int32} {rd sd : Nat → Int32} (h : ∀ p, p < 12 → sd p = rd p) : ∀ n k o, k < 12 → o < 12 → ctc hm sd n k o = ctc hm rd n k o := by
  have mv : ∀ a b, a < 12 → mvB sd a b = mvB rd a b := fun a b ha => by unfold mvB; rw [h a ha]
  intro n
  induction n with
  | zero => intro k o _ _; rfl
  | succ n ih =>
    intro k o hk ho
    have key : ∀ p, p < 12 → (trpF hm sd (ctc hm sd n) p o = true ↔ trpF hm rd (ctc hm rd n) p o = true) := by
      intro p hp
      rw [trp_iff, trp_iff]
      constructor
      · rintro (h1 | h1)
        · exact Or.inl h1
        · exact Or.inr (fun q hq hmv => by rw [← ih p q hp hq]; exact h1 q hq (by rw [mv o q ho]; exact hmv))
      · rintro (h1 | h1)
        · exact Or.inl h1
        · exact Or.inr (fun q hq hmv => by rw [ih p q hp hq]; exact h1 q hq (by rw [← mv o q ho]; exact hmv))
    rw [Bool.eq_iff_iff, ctc_s, ctc_s, ih k o hk ho]
    constructor
    · rintro (h1 | ⟨p, h1, h2, h3⟩)
      · exact Or.inl h1
      · exact Or.inr ⟨p, h1, by rw [← mv k p hk]; exact h2, (key p h1).mp h3⟩
    · rintro (h1 | ⟨p, h1, h2, h3⟩)
      · exact Or.inl h1
      · exact Or.inr ⟨p, h1, by rw [mv k p hk]; exact h2, (key p h1).mpr h3⟩
theorem vN_cong {hm : Int32} {rd sd : Nat → Int32} (h : ∀ p, p < 12 → sd p = rd p) {k o : Nat} (hk : k < 12) (ho : o < 12) : vN hm sd k o = vN hm rd k o := by
  unfold vN
  rw [show (fun n => ctc hm sd n k o) = (fun n => ctc hm rd n k o) from funext (fun n => ctc_cong h n k o hk ho)]
theorem fT_cong {hm : Int32} {rd sd : Nat → Int32} (h : ∀ p, p < 12 → sd p = rd p) {k o : Nat} (hk : k < 12) (ho : o < 12) : fT hm sd k o = fT hm rd k o := by
  unfold fT
  rw [vN_cong h hk ho]
theorem layR_ok2 {hm : Int32} {rd sd : Nat → Int32} (h : ∀ p, p < 12 → sd p = rd p) (hl : ∀ p, p < 12 → inR (rd p) 4096) (r0 : Nat → Int32) : ∃ r, f_X10_layRounds hm sd r0 = some r ∧ Tab r (fun i => fT hm rd (i / 12) (i % 12)) := by
  obtain ⟨r, h1, h2⟩ := layR_ok (hm := hm) (rd := sd) (fun p hp => by rw [h p hp]; exact hl p hp) r0
  refine ⟨r, h1, fun i hi => ?_⟩
  have h3 := h2 i hi
  dsimp only at h3 ⊢
  rw [fT_cong h (by omega) (by omega)] at h3
  exact h3
theorem fT_le (hm : Int32) (rd : Nat → Int32) (k o : Nat) : fT hm rd k o ≤ 1000000 := by
  unfold fT
  split <;> omega
/-- two places, or refused: both sides alike -/
theorem pl2 {p1 p2 : Int32} : (∃ a b, a < 12 ∧ b < 12 ∧ p1 = nI a ∧ p2 = nI b) ∨ isN 12 p1 = false ∨ (isN 12 p1 = true ∧ isN 12 p2 = false) := by
  cases g1 : isN 12 p1 with
  | false => exact Or.inr (Or.inl rfl)
  | true =>
    cases g2 : isN 12 p2 with
    | false => exact Or.inr (Or.inr ⟨rfl, rfl⟩)
    | true =>
      obtain ⟨a, ha, rfl⟩ := (isN_in (by decide)).mp g1
      obtain ⟨b, hb, rfl⟩ := (isN_in (by decide)).mp g2
      exact Or.inl ⟨a, b, ha, hb, rfl, rfl⟩
theorem ok_rounds : OK_rounds := by
  intro hm rd he cr kg la mi pl br rg sz fs sc nr ss fr tt mrd mhm th bk me mt si sg pz ps ms mp hR hQ c0 t0 r0 p1 p2
  obtain ⟨q1, q2, rfl, -⟩ := id hR
  rcases pl2 (p1 := p1) (p2 := p2) with ⟨a, b, ha, hb, rfl, rfl⟩ | g | ⟨g1, g2⟩
  · obtain ⟨c', t', e1, -⟩ := few_ok (hm := mhm) (rd := rd) q2.1 ha hb c0 t0
    obtain ⟨r, e2, e3⟩ := layR_ok2 (hm := mhm) q1 q2.1 r0
    unfold f_X9_rounds f_X10_rounds
    rw [place_ok, bd_some, isN_t (by decide) ha, if_t, place_ok, bd_some, isN_t (by decide) hb, if_t, e1, bd_some]
    rw [mplace_ok, bd_some, isN_t (by decide) ha, if_t, mplace_ok, bd_some, isN_t (by decide) hb, if_t, e2, bd_some]
    simp only [m_12, nI_add]
    have e4 := (e3 (12 * a + b) (by omega)).1
    dsimp only at e4
    rw [show (12 * a + b) / 12 = a by omega, show (12 * a + b) % 12 = b by omega] at e4
    rw [if_pos (ix_t (by omega) (by decide)), nI_clamp (by omega), e4]
    have hf := fT_le mhm rd a b
    by_cases g : fT mhm rd a b < 1000000
    · rw [if_pos ((lt_lit (a := 1000000) (by decide) (by omega)).mpr g)]
      refine ⟨_, _, rfl, rfl, ?_, hR, hQ⟩
      dsimp only
      unfold fT at g ⊢
      unfold rV
      by_cases g2 : vN mhm rd a b ≤ 144
      · rw [if_pos g2, if_pos g2]
      · rw [if_neg g2] at g; omega
    · rw [if_neg (fun e => g ((lt_lit (a := 1000000) (by decide) (by omega)).mp e))]
      refine ⟨_, _, rfl, rfl, ?_, hR, hQ⟩
      dsimp only
      unfold fT at g
      unfold rV
      by_cases g2 : vN mhm rd a b ≤ 144
      · rw [if_pos g2] at g; omega
      · rw [if_neg g2]
  · unfold f_X9_rounds f_X10_rounds
    rw [place_ok, bd_some, mplace_ok, bd_some, g, if_f, if_f]
    exact ⟨_, _, rfl, rfl, rfl, hR, hQ⟩
  · unfold f_X9_rounds f_X10_rounds
    rw [place_ok, bd_some, mplace_ok, bd_some, g1, if_t, if_t, place_ok, bd_some, mplace_ok, bd_some, g2, if_f, if_f]
    exact ⟨_, _, rfl, rfl, rfl, hR, hQ⟩
