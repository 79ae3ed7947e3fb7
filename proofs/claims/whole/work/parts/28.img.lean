/-! image and restore -/
theorem cpy_step (f g : Nat → Int32) (sp off i : Nat) : upd (va_cpy f g sp off i) (off + i) (f (sp + i)) = va_cpy f g sp off (i + 1) := by
  funext q
  unfold upd va_cpy
  by_cases h : q = off + i
  · subst h
    rw [if_pos rfl, if_pos (by omega), Nat.add_sub_cancel_left]
  · rw [if_neg h]
    by_cases h2 : off ≤ q ∧ q < off + i
    · rw [if_pos h2, if_pos (by omega)]
    · rw [if_neg h2, if_neg (by omega)]
theorem cpy_0 (f g : Nat → Int32) (sp off : Nat) : va_cpy f g sp off 0 = g := by
  funext q
  unfold va_cpy
  rw [if_neg (by omega)]
theorem cpy_in (f g : Nat → Int32) {sp off n q : Nat} (h : q < n) : va_cpy f g sp off n (off + q) = f (sp + q) := by
  unfold va_cpy
  rw [if_pos (by omega), Nat.add_sub_cancel_left]
theorem cpy_out (f g : Nat → Int32) {sp off n q : Nat} (h : q < off ∨ off + n ≤ q) : va_cpy f g sp off n q = g q := by
  unfold va_cpy
  rw [if_neg (by omega)]
theorem RelR_cong {hm : Int32} {rd : Nat → Int32} {he cr kg la mi : Int32} {pl br rg : Nat → Int32} {sz : Int32} {fs sc : Nat → Int32} {nr ss : Int32} {fr tt mrd : Nat → Int32} {mhm th : Int32} {bk : Nat → Int32} {me : Int32} {mt : Nat → Int32} {si : Int32} {sg : Nat → Int32} {rd' pl' br' rg' fs' sc' fr' tt' mrd' bk' mt' sg' : Nat → Int32}
    (hR : RelR hm rd he cr kg la mi pl br rg sz fs sc nr ss fr tt mrd mhm th bk me mt si sg) (e1 : ∀ p, p < 12 → rd' p = rd p) (e2 : ∀ k, k < 7 → pl' k = pl k ∧ br' k = br k ∧ rg' k = rg k) (e3 : ∀ i, i < 8 → fs' i = fs i ∧ sc' i = sc i) (e4 : ∀ i, i < 8 → fr' i = fr i ∧ tt' i = tt i)
    (m1 : ∀ p, p < 12 → mrd' p = mrd p) (m2 : ∀ k, k < 25 → bk' k = bk k) (m3 : ∀ k, k < 16 → mt' k = mt k) (m4 : ∀ k, k < 24 → sg' k = sg k) : RelR hm rd' he cr kg la mi pl' br' rg' sz fs' sc' nr ss fr' tt' mrd' mhm th bk' me mt' si sg' := by
  obtain ⟨h1, ⟨l1, l2, l3⟩, h3, h4, h5, h6, ⟨c1, c2, c3, c4, c5⟩, ⟨d1, d2⟩, ⟨n, hn, g1, g2, g3⟩, ⟨n', hn', k1, k2, k3⟩⟩ := hR
  refine ⟨fun p hp => by rw [m1 p hp, e1 p hp, h1 p hp], ⟨fun p hp => by rw [e1 p hp]; exact l1 p hp, fun p q hp hq => by rw [e1 p hp, e1 q hq]; exact l2 p q hp hq, fun p hp => by rw [e1 p hp]; exact l3 p hp⟩, h3, h4, h5, h6, ⟨fun k hk => ?_, by rw [m2 21 (by decide), c2], by rw [m2 22 (by decide), c3], by rw [m2 23 (by decide), c4], by rw [m2 24 (by decide), c5]⟩, ⟨fun k hk => ?_, d2⟩, ⟨n, hn, g1, g2, fun i hi => ?_⟩, ⟨n', hn', k1, k2, fun i hi => ?_⟩⟩
  · rw [m2 k (by omega), m2 (7 + k) (by omega), m2 (14 + k) (by omega), (e2 k hk).1, (e2 k hk).2.1, (e2 k hk).2.2]
    exact c1 k hk
  · rw [(e2 k hk).1, (e2 k hk).2.1]
    exact d1 k hk
  · rw [m3 _ (by omega), m3 _ (by omega), (e3 i (by omega)).1, (e3 i (by omega)).2]
    exact g3 i hi
  · rw [m4 _ (by omega), m4 _ (by omega), m4 _ (by omega), (e4 i (by omega)).1, (e4 i (by omega)).2]
    exact k3 i hi
theorem cp12 (f g : Nat → Int32) {k : Nat} (n : Int32) {N : Nat} (hn : n.toNatClampNeg = N) (h : k < N) : va_cpy f g (0 : Int32).toNatClampNeg (0 : Int32).toNatClampNeg n.toNatClampNeg k = f k := by
  rw [hn]
  have := cpy_in f g (sp := 0) (off := 0) (n := N) h
  rw [Nat.zero_add] at this
  exact this
/-- the model's image row behind image(n) -/
def imR (n : Nat) (hm th me si : Int32) (rd bk mt sg im : Nat → Int32) : Nat → Int32 := upd (upd (upd (upd (va_cpy sg (va_cpy mt (va_cpy rd (va_cpy bk im 0 (90 * n) 25) 0 (90 * n + 25) 12) 0 (90 * n + 37) 16) 0 (90 * n + 53) 24) (90 * n + 80) hm) (90 * n + 81) th) (90 * n + 82) me) (90 * n + 83) si
theorem imR_out {n : Nat} {hm th me si : Int32} {rd bk mt sg im : Nat → Int32} {q : Nat} (h : q < 90 * n ∨ 90 * n + 90 ≤ q) : imR n hm th me si rd bk mt sg im q = im q := by
  unfold imR
  rw [pk_un (by omega), pk_un (by omega), pk_un (by omega), pk_un (by omega), cpy_out _ _ (by omega), cpy_out _ _ (by omega), cpy_out _ _ (by omega), cpy_out _ _ (by omega)]
theorem imR_bk {n : Nat} {hm th me si : Int32} {rd bk mt sg im : Nat → Int32} {k : Nat} (h : k < 25) : imR n hm th me si rd bk mt sg im (90 * n + k) = bk k := by
  unfold imR
  rw [pk_un (by omega), pk_un (by omega), pk_un (by omega), pk_un (by omega), cpy_out _ _ (by omega), cpy_out _ _ (by omega), cpy_out _ _ (by omega), cpy_in _ _ h, Nat.zero_add]
theorem imR_rd {n : Nat} {hm th me si : Int32} {rd bk mt sg im : Nat → Int32} {k : Nat} (h : k < 12) : imR n hm th me si rd bk mt sg im (90 * n + 25 + k) = rd k := by
  unfold imR
  rw [pk_un (by omega), pk_un (by omega), pk_un (by omega), pk_un (by omega), cpy_out _ _ (by omega), cpy_out _ _ (by omega), cpy_in _ _ h, Nat.zero_add]
theorem imR_mt {n : Nat} {hm th me si : Int32} {rd bk mt sg im : Nat → Int32} {k : Nat} (h : k < 16) : imR n hm th me si rd bk mt sg im (90 * n + 37 + k) = mt k := by
  unfold imR
  rw [pk_un (by omega), pk_un (by omega), pk_un (by omega), pk_un (by omega), cpy_out _ _ (by omega), cpy_in _ _ h, Nat.zero_add]
theorem imR_sg {n : Nat} {hm th me si : Int32} {rd bk mt sg im : Nat → Int32} {k : Nat} (h : k < 24) : imR n hm th me si rd bk mt sg im (90 * n + 53 + k) = sg k := by
  unfold imR
  rw [pk_un (by omega), pk_un (by omega), pk_un (by omega), pk_un (by omega), cpy_in _ _ h, Nat.zero_add]
theorem imR_0 {n : Nat} {hm th me si : Int32} {rd bk mt sg im : Nat → Int32} : imR n hm th me si rd bk mt sg im (90 * n + 80) = hm ∧ imR n hm th me si rd bk mt sg im (90 * n + 81) = th ∧ imR n hm th me si rd bk mt sg im (90 * n + 82) = me ∧ imR n hm th me si rd bk mt sg im (90 * n + 83) = si := by
  unfold imR
  refine ⟨?_, ?_, ?_, ?_⟩
  · rw [pk_un (by omega), pk_un (by omega), pk_un (by omega), pk_us]
  · rw [pk_un (by omega), pk_un (by omega), pk_us]
  · rw [pk_un (by omega), pk_us]
  · rw [pk_us]
theorem mimage_ok (hm th me si : Int32) (rd bk mt sg im ke : Nat → Int32) {n : Nat} (hn : n < 2) : f_X10_image hm th me si rd bk mt sg im ke (nI n) = some (1, imR n hm th me si rd bk mt sg im, upd ke n 1) := by
  have e0 : (0 : Int32).toInt = 0 := rfl
  have e1 : (1 : Int32).toInt = 1 := rfl
  have en : (nI n).toInt = n := nI_toInt (by omega)
  unfold f_X10_image
  rw [in_ok, bd_some, decide_eq_true (by omega), if_t, m_90]
  -- book
  obtain ⟨g1, i1, l1⟩ := lup (L := fun f (g : Nat → Int32) i => f_X10_image_L19 bk (f_X10_image_X19 hm th me si rd mt sg ke (nI n)) f (nI (90 * n)) (nI i) g) (kE := fun g => f_X10_image_X19 hm th me si rd mt sg ke (nI n) (nI (90 * n)) g) 25 (fun i g => g = va_cpy bk im 0 (90 * n) i)
    (fun f i g hi hg => ⟨_, rfl, by
      show f_X10_image_L19 _ _ (f + 1) _ (nI i) g = _
      rw [f_X10_image_L19, if_neg (show ¬ (25 : Int32) ≤ nI i from nI_ge hi (by decide)), if_pos (ix_t hi (by decide)), nI_add, if_pos (ix_t (by omega) (by decide)), nI_clamp (by omega), nI_clamp (by omega), nI_1, hg, ← cpy_step bk im 0 (90 * n) i, Nat.zero_add]⟩)
    (fun f g hg => by
      show f_X10_image_L19 _ _ (f + 1) _ (nI 25) g = _
      rw [f_X10_image_L19, if_pos (by decide)]) 5000 0 im (by decide) (by decide) (cpy_0 _ _ _ _).symm
  refine Eq.trans l1 ?_
  subst i1
  unfold f_X10_image_X19
  obtain ⟨g2, i2, l2⟩ := lup (L := fun f (g : Nat → Int32) i => f_X10_image_L47 rd (nI (90 * n)) (f_X10_image_X47 hm th me si mt sg ke (nI n) (nI (90 * n))) f (nI i) g) (kE := fun g => f_X10_image_X47 hm th me si mt sg ke (nI n) (nI (90 * n)) g) 12 (fun i g => g = va_cpy rd (va_cpy bk im 0 (90 * n) 25) 0 (90 * n + 25) i)
    (fun f i g hi hg => ⟨_, rfl, by
      show f_X10_image_L47 _ _ _ (f + 1) (nI i) g = _
      rw [f_X10_image_L47, if_neg (show ¬ (12 : Int32) ≤ nI i from nI_ge hi (by decide)), if_pos (ix_t hi (by decide)), p_25, nI_add, if_pos (ix_t (by omega) (by decide)), nI_clamp (by omega), nI_clamp (by omega), nI_1, hg, ← cpy_step rd _ 0 (90 * n + 25) i, Nat.zero_add]⟩)
    (fun f g hg => by
      show f_X10_image_L47 _ _ _ (f + 1) (nI 12) g = _
      rw [f_X10_image_L47, if_pos (by decide)]) 5000 0 _ (by decide) (by decide) (cpy_0 _ _ _ _).symm
  refine Eq.trans l2 ?_
  subst i2
  unfold f_X10_image_X47
  obtain ⟨g3, i3, l3⟩ := lup (L := fun f (g : Nat → Int32) i => f_X10_image_L78 mt (nI (90 * n)) (f_X10_image_X78 hm th me si sg ke (nI n) (nI (90 * n))) f (nI i) g) (kE := fun g => f_X10_image_X78 hm th me si sg ke (nI n) (nI (90 * n)) g) 16 (fun i g => g = va_cpy mt (va_cpy rd (va_cpy bk im 0 (90 * n) 25) 0 (90 * n + 25) 12) 0 (90 * n + 37) i)
    (fun f i g hi hg => ⟨_, rfl, by
      show f_X10_image_L78 _ _ _ (f + 1) (nI i) g = _
      rw [f_X10_image_L78, if_neg (show ¬ (16 : Int32) ≤ nI i from nI_ge hi (by decide)), if_pos (ix_t hi (by decide)), p_37, nI_add, if_pos (ix_t (by omega) (by decide)), nI_clamp (by omega), nI_clamp (by omega), nI_1, hg, ← cpy_step mt _ 0 (90 * n + 37) i, Nat.zero_add]⟩)
    (fun f g hg => by
      show f_X10_image_L78 _ _ _ (f + 1) (nI 16) g = _
      rw [f_X10_image_L78, if_pos (by decide)]) 5000 0 _ (by decide) (by decide) (cpy_0 _ _ _ _).symm
  refine Eq.trans l3 ?_
  subst i3
  unfold f_X10_image_X78
  obtain ⟨g4, i4, l4⟩ := lup (L := fun f (g : Nat → Int32) i => f_X10_image_L109 sg (nI (90 * n)) (f_X10_image_X109 hm th me si ke (nI n) (nI (90 * n))) f (nI i) g) (kE := fun g => f_X10_image_X109 hm th me si ke (nI n) (nI (90 * n)) g) 24 (fun i g => g = va_cpy sg (va_cpy mt (va_cpy rd (va_cpy bk im 0 (90 * n) 25) 0 (90 * n + 25) 12) 0 (90 * n + 37) 16) 0 (90 * n + 53) i)
    (fun f i g hi hg => ⟨_, rfl, by
      show f_X10_image_L109 _ _ _ (f + 1) (nI i) g = _
      rw [f_X10_image_L109, if_neg (show ¬ (24 : Int32) ≤ nI i from nI_ge hi (by decide)), if_pos (ix_t hi (by decide)), p_53, nI_add, if_pos (ix_t (by omega) (by decide)), nI_clamp (by omega), nI_clamp (by omega), nI_1, hg, ← cpy_step sg _ 0 (90 * n + 53) i, Nat.zero_add]⟩)
    (fun f g hg => by
      show f_X10_image_L109 _ _ _ (f + 1) (nI 24) g = _
      rw [f_X10_image_L109, if_pos (by decide)]) 5000 0 _ (by decide) (by decide) (cpy_0 _ _ _ _).symm
  refine Eq.trans l4 ?_
  subst i4
  unfold f_X10_image_X109
  simp only [p_80, p_81, p_82, p_83]
  rw [if_pos (ix_t (by omega) (by decide)), if_pos (ix_t (by omega) (by decide)), if_pos (ix_t (by omega) (by decide)), if_pos (ix_t (by omega) (by decide)), if_pos (ix_t hn (by decide)), nI_clamp (by omega), nI_clamp (by omega), nI_clamp (by omega), nI_clamp (by omega), nI_clamp (by omega)]
  rfl

theorem nI_lt2 {p : Int32} (h0 : ¬ p < 0) (h1 : p < 2) : ∃ n, n < 2 ∧ p = nI n := by
  obtain ⟨j, hj, rfl⟩ := nI_of h0
  exact ⟨j, (lt_lit (a := 2) (by decide) hj).mp h1, rfl⟩
theorem bad2 {p : Int32} (h : p < 0 ∨ ¬ p < 2) : f_X10_in p 0 1 = some (b2 false) := by
  have e0 : (0 : Int32).toInt = 0 := rfl
  have e1 : (1 : Int32).toInt = 1 := rfl
  have e2 : (2 : Int32).toInt = 2 := rfl
  rw [in_ok, decide_eq_false]
  rcases h with h | h
  · have := rg_lo.mp h
    omega
  · have := n_lo h
    omega
theorem RelI_out {o : Option (RAd × RCo)} {j : Nat} {im ke im' ke' : Nat → Int32} (h : RelI o j im ke) (h1 : ∀ q, 90 * j ≤ q → q < 90 * j + 90 → im' q = im q) (h2 : ke' j = ke j) : RelI o j im' ke' := by
  cases o with
  | none => exact h2.trans h
  | some r =>
    obtain ⟨k1, k2⟩ := h
    refine ⟨h2.trans k1, ?_⟩
    rw [h1 (90 * j + 80) (by omega) (by omega), h1 (90 * j + 81) (by omega) (by omega), h1 (90 * j + 82) (by omega) (by omega), h1 (90 * j + 83) (by omega) (by omega)]
    exact RelR_cong k2 (fun _ _ => rfl) (fun _ _ => ⟨rfl, rfl, rfl⟩) (fun _ _ => ⟨rfl, rfl⟩) (fun _ _ => ⟨rfl, rfl⟩) (fun p hp => h1 _ (by omega) (by omega)) (fun p hp => h1 _ (by omega) (by omega)) (fun p hp => h1 _ (by omega) (by omega)) (fun p hp => h1 _ (by omega) (by omega))
theorem ok_image : OK_image := by
  intro hm rd he cr kg la mi pl br rg sz fs sc nr ss fr tt mrd mhm th bk me mt si sg hR im ke p1
  refine ⟨fun hb => ?_, fun h0 h1 => ?_⟩
  · have e : f_X10_image mhm th me si mrd bk mt sg im ke p1 = some (-2, im, ke) := by
      unfold f_X10_image
      rw [bad2 hb, bd_some, if_f]
    exact ⟨_, e, rfl, fun o j _ h => h⟩
  · obtain ⟨n, hn, rfl⟩ := nI_lt2 h0 h1
    intro ad
    intros
    refine ⟨_, _, rfl, mimage_ok mhm th me si mrd bk mt sg im ke hn, rfl, ?_, fun o j hj hjn h => ?_⟩
    · rw [nI_clamp (by omega)]
      refine ⟨pk_us, ?_⟩
      dsimp only
      obtain ⟨a0, a1, a2, a3⟩ := imR_0 (n := n) (hm := mhm) (th := th) (me := me) (si := si) (rd := mrd) (bk := bk) (mt := mt) (sg := sg) (im := im)
      rw [a0, a1, a2, a3]
      exact RelR_cong hR (fun p hp => cp12 _ _ 12 rfl hp) (fun k hk => ⟨cp12 _ _ 7 rfl hk, cp12 _ _ 7 rfl hk, cp12 _ _ 7 rfl hk⟩) (fun k hk => ⟨cp12 _ _ 8 rfl hk, cp12 _ _ 8 rfl hk⟩) (fun k hk => ⟨cp12 _ _ 8 rfl hk, cp12 _ _ 8 rfl hk⟩) (fun p hp => imR_rd hp) (fun p hp => imR_bk hp) (fun p hp => imR_mt hp) (fun p hp => imR_sg hp)
    · rw [nI_clamp (by omega)] at hjn
      exact RelI_out h (fun q h1 h2 => imR_out (by omega)) (pk_un hjn)
