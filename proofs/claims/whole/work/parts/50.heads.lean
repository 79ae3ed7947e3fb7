/-! the least place of which P holds -/
def lst (P : Nat → Bool) : Int32 := if fa_first P 12 < 12 then nI (fa_first P 12) else -6
theorem fst_eq {P : Nat → Bool} {N j : Nat} (hj : j < N) (h1 : P j = true) (h2 : ∀ i, i < j → P i = false) : fa_first P N = j := by
  have a1 := fa_first_le P N
  rcases Nat.lt_trichotomy (fa_first P N) j with g | g | g
  · have := fa_first_yes P N (by omega)
    rw [h2 _ g] at this
    cases this
  · exact g
  · have := fa_first_no P N j g
    rw [h1] at this
    cases this
theorem fst_no {P : Nat → Bool} {N : Nat} (h : ∀ i, i < N → P i = false) : ¬ fa_first P N < N := fun g => by
  have := fa_first_yes P N g
  rw [h _ g] at this
  cases this
theorem lst_at {P : Nat → Bool} {j : Nat} (hj : j < 12) (h1 : P j = true) (h2 : ∀ i, i < j → P i = false) : lst P = nI j := by
  unfold lst
  rw [fst_eq hj h1 h2, if_pos hj]
theorem lst_no {P : Nat → Bool} (h : ∀ i, i < 12 → P i = false) : lst P = -6 := by
  unfold lst
  rw [if_neg (fst_no h)]
theorem lst_cong {P Q : Nat → Bool} (h : ∀ i, i < 12 → P i = Q i) : lst P = lst Q := by
  by_cases g : fa_first P 12 < 12
  · rw [lst_at g (fa_first_yes P 12 g) (fun i hi => fa_first_no P 12 i hi), lst_at g (by rw [← h _ g]; exact fa_first_yes P 12 g) (fun i hi => by rw [← h i (by omega)]; exact fa_first_no P 12 i hi)]
  · have e : ∀ i, i < 12 → P i = false := fun i hi => fa_first_no P 12 i (by have := fa_first_le P 12; omega)
    rw [lst_no e, lst_no (fun i hi => by rw [← h i hi]; exact e i hi)]
/-- a loop upwards that ends at the first -/
theorem first_up {R : Type} {L : Nat → Nat → Option R} {P : Nat → Bool} {out : Int32 → Option R} (hs : ∀ f i, i < 12 → L (f + 1) i = if P i = true then out (nI i) else L f (i + 1)) (hE : ∀ f, L (f + 1) 12 = out (-6)) : ∀ d i f, i + d = 12 → d < f → (∀ j, j < i → P j = false) → L f i = out (lst P) := by
  intro d
  induction d with
  | zero =>
    intro i f hi hf hno
    obtain ⟨g, rfl⟩ : ∃ g, f = g + 1 := ⟨f - 1, by omega⟩
    obtain rfl : i = 12 := by omega
    rw [hE, lst_no hno]
  | succ d ih =>
    intro i f hi hf hno
    obtain ⟨g, rfl⟩ : ∃ g, f = g + 1 := ⟨f - 1, by omega⟩
    rw [hs g i (by omega)]
    by_cases e : P i = true
    · rw [if_pos e, lst_at (by omega) e hno]
    · rw [if_neg e]
      refine ih (i + 1) g (by omega) (by omega) (fun j hj => ?_)
      by_cases e2 : j = i
      · rw [e2]; exact Bool.eq_false_iff.mpr e
      · exact hno j (by omega)
/-- a loop downwards that keeps the last -/
theorem last_down {R : Type} {L : Nat → Int32 → Nat → Option R} {P : Nat → Bool} {out : Int32 → Option R} (hs : ∀ f s i, i < 12 → L (f + 1) s (i + 1) = L f (if P i = true then nI i else s) i) (hE : ∀ f s, L (f + 1) s 0 = out s) : ∀ c f s, c ≤ 12 → c < f → (s = -6 ∧ (∀ j, c ≤ j → j < 12 → P j = false) ∨ ∃ j, c ≤ j ∧ j < 12 ∧ P j = true ∧ s = nI j ∧ ∀ i, c ≤ i → i < j → P i = false) → L f s c = out (lst P) := by
  intro c
  induction c with
  | zero =>
    intro f s hc hf h
    obtain ⟨g, rfl⟩ : ∃ g, f = g + 1 := ⟨f - 1, by omega⟩
    rw [hE]
    rcases h with ⟨h1, h2⟩ | ⟨j, h1, h2, h3, h4, h5⟩
    · rw [h1, lst_no (fun i hi => h2 i (Nat.zero_le i) hi)]
    · rw [h4, lst_at h2 h3 (fun i hi => h5 i (Nat.zero_le i) hi)]
  | succ c ih =>
    intro f s hc hf h
    obtain ⟨g, rfl⟩ : ∃ g, f = g + 1 := ⟨f - 1, by omega⟩
    rw [hs g s c (by omega)]
    refine ih g _ (by omega) (by omega) ?_
    by_cases e : P c = true
    · rw [if_pos e]
      exact Or.inr ⟨c, Nat.le_refl c, by omega, e, rfl, fun i h1 h2 => absurd h1 (by omega)⟩
    · rw [if_neg e]
      have e' : P c = false := Bool.eq_false_iff.mpr e
      rcases h with ⟨h1, h2⟩ | ⟨j, h1, h2, h3, h4, h5⟩
      · refine Or.inl ⟨h1, fun j hj hj2 => ?_⟩
        by_cases e2 : j = c
        · rw [e2]; exact e'
        · exact h2 j (by omega) hj2
      · refine Or.inr ⟨j, by omega, h2, h3, h4, fun i hi hi2 => ?_⟩
        by_cases e2 : i = c
        · rw [e2]; exact e'
        · exact h5 i (by omega) hi2
def dx (c : Nat) : Int32 := nI c + (-1)
theorem dx_s (i : Nat) : dx (i + 1) = nI i := by
  unfold dx
  have h := nI_pred i
  rw [← h]
  apply Int32.toBitVec_inj.mp
  rw [Int32.toBitVec_add, Int32.toBitVec_sub, BitVec.sub_eq_add_neg]
  rfl
theorem least_ok (s : Int32) : f_X9_leastOf s = some (lst (bt s)) := by
  unfold f_X9_leastOf
  refine first_up (L := fun f i => f_X9_leastOf_L2 s f_X9_leastOf_X2 f (nI i)) (out := fun x => some x) (P := bt s) (fun f i hi => ?_) (fun f => ?_) 12 0 5000 (by decide) (by decide) (fun j hj => absurd hj (Nat.not_lt_zero j))
  · show f_X9_leastOf_L2 s f_X9_leastOf_X2 (f + 1) (nI i) = _
    rw [f_X9_leastOf_L2, if_neg (show ¬ (12 : Int32) ≤ nI i from nI_ge hi (by decide)), holds_ok s (by omega), bd_some, nI_1]
    cases bt s i with
    | false => rw [if_f, if_neg Bool.false_ne_true]
    | true => rw [if_t, if_pos rfl]
  · show f_X9_leastOf_L2 s f_X9_leastOf_X2 (f + 1) (nI 12) = _
    rw [f_X9_leastOf_L2, if_pos (by decide)]
    rfl
/-! heads -/
def hdP (hm : Int32) (rd : Nat → Int32) (k o : Nat) (p : Nat) : Bool := mvB rd k p && trpF hm rd (ctc hm rd (vN hm rd k o - 1)) p o
def hdV (hm : Int32) (rd : Nat → Int32) (k o : Nat) : Int32 := if 1 ≤ vN hm rd k o ∧ vN hm rd k o ≤ 144 then lst (hdP hm rd k o) else -6
theorem king_ok {hm : Int32} {rd : Nat → Int32} (hl : ∀ p, p < 12 → inR (rd p) 4096) {k o : Nat} (hk : k < 12) (ho : o < 12) (c0 t0 : Nat → Int32) : ∃ c' t', f_X0_kingsStep c0 t0 hm rd (nI k) (nI o) = some (hdV hm rd k o, c', t') := by
  obtain ⟨c', t', h1, h2⟩ := few_ok (hm := hm) hl hk ho c0 t0
  refine ⟨c', t', ?_⟩
  unfold f_X0_kingsStep hdV
  rw [h1, bd_some]
  dsimp only
  unfold rV
  by_cases g1 : vN hm rd k o ≤ 144
  · rw [if_pos g1, if_neg (show ¬ nI (vN hm rd k o) = -6 from fun e => nI_pos (n := vN hm rd k o) (by omega) (by rw [e]; decide))]
    by_cases g2 : vN hm rd k o = 0
    · rw [g2, if_pos (show nI 0 = 0 from rfl), if_neg (fun e => by omega)]
    · rw [if_neg (nI_ne0 (by omega) (by omega)), if_pos ⟨by omega, g1⟩, moves_ok rd hk, bd_some]
      have ht := h2 (by omega) g1
      refine first_up (L := fun f i => f_X0_kingsStep_L34 (nI o) (nI (vN hm rd k o), c', t') (rd k ||| bI k) (f_X0_kingsStep_X34 (nI (vN hm rd k o), c', t')) f (nI i)) (out := fun x => some (x, c', t')) (P := hdP hm rd k o) (fun f i hi => ?_) (fun f => ?_) 12 0 5000 (by decide) (by decide) (fun j hj => absurd hj (Nat.not_lt_zero j))
      · show f_X0_kingsStep_L34 (nI o) (nI (vN hm rd k o), c', t') (rd k ||| bI k) (f_X0_kingsStep_X34 (nI (vN hm rd k o), c', t')) (f + 1) (nI i) = _
        rw [f_X0_kingsStep_L34, if_neg (show ¬ (12 : Int32) ≤ nI i from nI_ge hi (by decide)), holds_ok _ (by omega), bd_some, moves_bt rd hk (by omega), nI_1]
        dsimp only
        unfold hdP
        cases mvB rd k i with
        | false => rw [if_f, Bool.false_and, if_neg Bool.false_ne_true]
        | true =>
          rw [if_t, if_pos (ix_t hi (by decide)), nI_clamp (by omega), holds_ok _ (by omega), bd_some, Bool.true_and]
          have h3 := ht i o hi (by omega)
          cases g3 : bt (t' i) o with
          | false =>
            have h4 : trpF hm rd (ctc hm rd (vN hm rd k o - 1)) i o = false := by
              cases g4 : trpF hm rd (ctc hm rd (vN hm rd k o - 1)) i o with
              | false => rfl
              | true => rw [h3.mpr ⟨ho, g4⟩] at g3; cases g3
            rw [h4, if_f, if_neg Bool.false_ne_true]
          | true => rw [(h3.mp g3).2, if_t, if_pos rfl]
      · show f_X0_kingsStep_L34 (nI o) (nI (vN hm rd k o), c', t') (rd k ||| bI k) (f_X0_kingsStep_X34 (nI (vN hm rd k o), c', t')) (f + 1) (nI 12) = _
        rw [f_X0_kingsStep_L34, if_pos (by decide)]
        rfl
  · rw [if_neg g1, if_pos rfl, if_neg (fun e => g1 e.2)]
/-- the exact table -/
def eT (hm : Int32) (rd : Nat → Int32) : Nat → Nat := fun i => fT hm rd (i / 12) (i % 12)
theorem eT_at (hm : Int32) (rd : Nat → Int32) {k o : Nat} (ho : o < 12) : eT hm rd (12 * k + o) = fT hm rd k o := by
  unfold eT
  rw [show (12 * k + o) / 12 = k by omega, show (12 * k + o) % 12 = o by omega]
theorem fT_iff {hm : Int32} {rd : Nat → Int32} {k o n : Nat} (hn : n ≤ 144) : fT hm rd k o ≤ n ↔ ctc hm rd n k o = true := by
  rw [vN_iff hn]
  unfold fT
  split <;> omega
theorem byN_iff {hm : Int32} {rd : Nat → Int32} {p o n : Nat} (h1 : 1 ≤ n) (h2 : n ≤ 144) : byN hm rd (eT hm rd) p o ≤ n ↔ trpF hm rd (ctc hm rd (n - 1)) p o = true := by
  rw [trp_iff]
  unfold byN
  cases g : tch hm p o with
  | true =>
    rw [if_pos rfl]
    exact ⟨fun _ => Or.inl rfl, fun _ => h1⟩
  | false =>
    rw [if_neg Bool.false_ne_true]
    have e : mbN rd (eT hm rd) p o 12 ≤ n - 1 ↔ ∀ q, q < 12 → mvB rd o q = true → ctc hm rd (n - 1) p q = true := by
      rw [mbN_iff]
      constructor
      · intro h q hq hmv
        have := h q hq hmv
        rw [eT_at hm rd hq] at this
        exact (fT_iff (by omega)).mp this
      · intro h q hq hmv
        rw [eT_at hm rd hq]
        exact (fT_iff (by omega)).mpr (h q hq hmv)
    constructor
    · intro h
      refine Or.inr (e.mp ?_)
      split at h <;> omega
    · rintro (h | h)
      · cases h
      · have := e.mpr h
        split <;> omega
theorem byN_eq {hm : Int32} {rd : Nat → Int32} {k o p : Nat} (hp : p < 12) (h1 : 1 ≤ vN hm rd k o) (h2 : vN hm rd k o ≤ 144) (hmv : mvB rd k p = true) : byN hm rd (eT hm rd) p o = vN hm rd k o ↔ trpF hm rd (ctc hm rd (vN hm rd k o - 1)) p o = true := by
  rw [← byN_iff h1 h2]
  constructor
  · intro h; omega
  · intro h
    have h0 : 1 ≤ byN hm rd (eT hm rd) p o := by
      unfold byN
      split
      · omega
      · split <;> omega
    have h3 := (byN_iff (hm := hm) (rd := rd) (p := p) (o := o) h0 (by omega)).mp (Nat.le_refl _)
    have h4 : ctc hm rd (byN hm rd (eT hm rd) p o - 1 + 1) k o = true := (ctc_s hm rd _ k o).mpr (Or.inr ⟨p, hp, hmv, h3⟩)
    rw [show byN hm rd (eT hm rd) p o - 1 + 1 = byN hm rd (eT hm rd) p o by omega] at h4
    have h5 := (vN_iff (by omega)).mp h4
    omega
theorem mhead_loop {hm : Int32} {rd r : Nat → Int32} (hT : Tab r (eT hm rd)) {k o : Nat} (hk : k < 12) (ho : o < 12) (h1 : 1 ≤ vN hm rd k o) (h2 : vN hm rd k o ≤ 144) : f_X10_heads_L40 hm rd (nI k) (nI o) r (f_X10_heads_X40 r) 5000 (nI (vN hm rd k o)) (-6) 11 = some (lst (hdP hm rd k o), r) := by
  refine last_down (L := fun f s c => f_X10_heads_L40 hm rd (nI k) (nI o) r (f_X10_heads_X40 r) f (nI (vN hm rd k o)) s (dx c)) (out := fun x => some (x, r)) (P := hdP hm rd k o) (fun f s i hi => ?_) (fun f s => ?_) 12 5000 (-6) (by decide) (by decide) (Or.inl ⟨rfl, fun j a b => absurd a (by omega)⟩)
  · show f_X10_heads_L40 hm rd (nI k) (nI o) r (f_X10_heads_X40 r) (f + 1) (nI (vN hm rd k o)) s (dx (i + 1)) = f_X10_heads_L40 hm rd (nI k) (nI o) r (f_X10_heads_X40 r) f (nI (vN hm rd k o)) (if hdP hm rd k o i = true then nI i else s) (dx i)
    rw [dx_s, f_X10_heads_L40, if_neg (nI_pos (by omega)), if_neg (nI_nle (by omega) (by omega)), if_neg (fun e => by have := (lit_le (a := 1000000) (by decide) (by omega)).mp e; omega)]
    have key : ∀ b : Bool, b = mvB rd k i → f_X10_heads_B80 hm rd (nI o) r (nI (vN hm rd k o)) s (nI i) (f_X10_heads_L40 hm rd (nI k) (nI o) r (f_X10_heads_X40 r) f) (b2 b) = f_X10_heads_L40 hm rd (nI k) (nI o) r (f_X10_heads_X40 r) f (nI (vN hm rd k o)) (if hdP hm rd k o i = true then nI i else s) (dx i) := by
      intro b hb
      unfold f_X10_heads_B80 hdP
      rw [← hb]
      cases b with
      | false =>
        rw [if_f, Bool.false_and, if_neg Bool.false_ne_true]
        rfl
      | true =>
        have hbn := byN_le hm rd (eT hm rd) i o
        rw [if_t, by_ok hT hi ho, bd_some, Bool.true_and]
        have e := byN_eq (o := o) hi h1 h2 hb.symm
        by_cases g : trpF hm rd (ctc hm rd (vN hm rd k o - 1)) i o = true
        · rw [if_pos g, if_pos (by rw [e.mpr g])]
          rfl
        · rw [if_neg g, if_neg (fun c => g (e.mp (nI_inj' (by omega) (by omega) c)))]
          rfl
    have k1 := key true
    have k0 := key false
    rw [b2_t] at k1
    rw [b2_f] at k0
    unfold f_X10_heads_B75
    by_cases e : i = k
    · rw [if_pos (by rw [e])]
      exact k1 (by rw [e]; exact (mvB_self rd k).symm)
    · rw [if_neg (fun g => e (nI_inj' (by omega) (by omega) g)), if_pos (ix_t hk (by decide)), nI_clamp (by omega), has_ok _ (by omega), bd_some]
      have hmv : mvB rd k i = bt (rd k) i := by
        unfold mvB
        rw [decide_eq_false e]; rfl
      cases g : bt (rd k) i with
      | false => rw [if_f]; exact k0 (by rw [hmv, g])
      | true => rw [if_t]; exact k1 (by rw [hmv, g])
  · show f_X10_heads_L40 hm rd (nI k) (nI o) r (f_X10_heads_X40 r) (f + 1) (nI (vN hm rd k o)) s (dx 0) = _
    rw [f_X10_heads_L40, if_pos (by decide)]
    rfl
theorem hdV_cong {hm : Int32} {rd sd : Nat → Int32} (h : ∀ p, p < 12 → sd p = rd p) {k o : Nat} (hk : k < 12) (ho : o < 12) : hdV hm sd k o = hdV hm rd k o := by
  unfold hdV
  rw [vN_cong h hk ho, lst_cong (Q := hdP hm rd k o) (fun i hi => ?_)]
  unfold hdP
  rw [vN_cong h hk ho]
  have mv : ∀ a b, a < 12 → mvB sd a b = mvB rd a b := fun a b ha => by unfold mvB; rw [h a ha]
  rw [mv k i hk]
  congr 1
  rw [Bool.eq_iff_iff, trp_iff, trp_iff]
  constructor
  · rintro (h1 | h1)
    · exact Or.inl h1
    · exact Or.inr (fun q hq hmv => by rw [← ctc_cong h _ i q hi hq]; exact h1 q hq (by rw [mv o q ho]; exact hmv))
  · rintro (h1 | h1)
    · exact Or.inl h1
    · exact Or.inr (fun q hq hmv => by rw [ctc_cong h _ i q hi hq]; exact h1 q hq (by rw [← mv o q ho]; exact hmv))
theorem mhead_ok {hm : Int32} {rd : Nat → Int32} (hl : ∀ p, p < 12 → inR (rd p) 4096) (r0 : Nat → Int32) {k o : Nat} (hk : k < 12) (ho : o < 12) : ∃ r, f_X10_heads hm rd r0 (nI k) (nI o) = some (hdV hm rd k o, r) := by
  obtain ⟨r, e2, e3⟩ := layR_ok (hm := hm) hl r0
  refine ⟨r, ?_⟩
  have hT : Tab r (eT hm rd) := e3
  unfold f_X10_heads hdV
  rw [mplace_ok, bd_some, isN_t (by decide) hk, if_t, mplace_ok, bd_some, isN_t (by decide) ho, if_t, e2, bd_some]
  simp only [m_12, nI_add]
  rw [if_pos (ix_t (by omega) (by decide)), nI_clamp (by omega), (hT (12 * k + o) (by omega)).1, eT_at hm rd ho]
  unfold fT
  by_cases g1 : vN hm rd k o ≤ 144
  · rw [if_pos g1]
    by_cases g2 : vN hm rd k o = 0
    · rw [g2, if_neg (fun e => by omega), f_X10_heads_L40, if_neg (by decide), if_pos (by decide)]
      rfl
    · rw [if_pos ⟨by omega, g1⟩]
      exact mhead_loop hT hk ho (by omega) g1
  · rw [if_neg g1, if_neg (fun e => g1 e.2), f_X10_heads_L40, if_neg (by decide), if_neg (by decide), if_pos (by decide)]
    rfl
theorem ok_heads : OK_heads := by
  intro hm rd he cr kg la mi pl br rg sz fs sc nr ss fr tt mrd mhm th bk me mt si sg pz ps ms mp hR hQ c0 t0 r0 p1 p2
  obtain ⟨q1, q2, rfl, -⟩ := id hR
  rcases pl2 (p1 := p1) (p2 := p2) with ⟨a, b, ha, hb, rfl, rfl⟩ | g | ⟨g1, g2⟩
  · obtain ⟨c', t', e1⟩ := king_ok (hm := mhm) (rd := rd) q2.1 ha hb c0 t0
    obtain ⟨r, e2⟩ := mhead_ok (hm := mhm) (rd := mrd) (fun p hp => by rw [q1 p hp]; exact q2.1 p hp) r0 ha hb
    rw [hdV_cong q1 ha hb] at e2
    refine ⟨(hdV mhm rd a b, c', t'), _, ?_, e2, rfl, hR, hQ⟩
    unfold f_X9_heads
    rw [place_ok, bd_some, isN_t (by decide) ha, if_t, place_ok, bd_some, isN_t (by decide) hb, if_t, e1, bd_some]
  · unfold f_X9_heads f_X10_heads
    rw [place_ok, bd_some, mplace_ok, bd_some, g, if_f, if_f]
    exact ⟨_, _, rfl, rfl, rfl, hR, hQ⟩
  · unfold f_X9_heads f_X10_heads
    rw [place_ok, bd_some, mplace_ok, bd_some, g1, if_t, if_t, place_ok, bd_some, mplace_ok, bd_some, g2, if_f, if_f]
    exact ⟨_, _, rfl, rfl, rfl, hR, hQ⟩
