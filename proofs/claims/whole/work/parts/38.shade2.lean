noncomputable def covB (rd : Nat → Int32) (r s : Nat) : Bool := @decide (cov rd r s) (Classical.propDecidable _)
theorem covB_iff {rd : Nat → Int32} {r s : Nat} : covB rd r s = true ↔ cov rd r s := by
  unfold covB
  exact @decide_eq_true_iff _ (Classical.propDecidable _)
def cN (s : Nat) : Nat := cn (nI s)
noncomputable def selB (rd : Nat → Int32) (r : Nat) : Nat → Nat
  | 0 => 4095
  | k + 1 => if cN k < cN (selB rd r k) ∧ covB rd r k = true then k else selB rd r k
theorem selB_s (rd : Nat → Int32) (r k : Nat) : selB rd r (k + 1) = if cN k < cN (selB rd r k) ∧ covB rd r k = true then k else selB rd r k := rfl
theorem selB_lt (rd : Nat → Int32) (r : Nat) : ∀ k, k ≤ 4096 → selB rd r k < 4096 := by
  intro k
  induction k with
  | zero => intro _; show 4095 < 4096; omega
  | succ k ih =>
    intro h
    rw [selB]
    split
    · omega
    · exact ih (by omega)
theorem cN_0 : cN 0 = 0 := by decide +kernel
theorem cN_4095 : cN 4095 = 12 := by decide +kernel
theorem selB_1 (rd : Nat → Int32) (r : Nat) : selB rd r 1 = 4095 := by
  rw [selB]
  rw [if_neg]
  · rfl
  · rintro ⟨_, h⟩
    obtain ⟨q, _, h2, _⟩ := (covB_iff.mp h) 0 (by decide)
    rw [Nat.zero_testBit] at h2
    cases h2
theorem selB_e (rd : Nat → Int32) (r : Nat) : selB rd r 4096 = selB rd r 4095 := by
  rw [selB, if_neg]
  rintro ⟨h, _⟩
  have := cn_le (nI (selB rd r 4095))
  rw [cN_4095] at h
  unfold cN at h
  omega
theorem cshade_tab {rd : Nat → Int32} {r : Nat} (hr : r < 12) (kE : (Nat → Int32) → Option (Int32 × (Nat → Int32))) (n0 : Nat → Int32) : ∃ near, (∀ p, p < 12 → near p = rcs rd p r) ∧ f_X6_fewestHomes_L2 rd (nI r) kE 5000 0 n0 = kE near := by
  obtain ⟨c, h1, h2⟩ := lup (L := fun f (s : Nat → Int32) i => f_X6_fewestHomes_L2 rd (nI r) kE f (nI i) s) (kE := kE) 12 (fun i s => ∀ p, p < i → s p = rcs rd p r)
    (fun f i s hi hs => ⟨upd s i (rcs rd i r), fun d hd => by
        by_cases e : d = i
        · rw [e, pk_us]
        · rw [pk_un e]; exact hs d (by omega), by
      show f_X6_fewestHomes_L2 rd (nI r) kE (f + 1) (nI i) s = _
      rw [f_X6_fewestHomes_L2, if_neg (show ¬ (12 : Int32) ≤ nI i from nI_ge hi (by decide)), with_ok rd i r hr, bd_some, if_pos (ix_t hi (by decide)), nI_clamp (by omega), nI_1]⟩)
    (fun f s hs => by
      show f_X6_fewestHomes_L2 rd (nI r) kE (f + 1) (nI 12) s = _
      rw [f_X6_fewestHomes_L2, if_pos (by decide)]) 5000 0 n0 (by decide) (by decide) (fun d hd => absurd hd (Nat.not_lt_zero d))
  exact ⟨c, h1, h2⟩
theorem cshade_ok {rd : Nat → Int32} (hl : LandOK rd) {r : Nat} (hr : r < 12) (n0 : Nat → Int32) : ∃ near, f_X6_fewestHomes n0 rd (nI r) = some (nI (selB rd r 4096), near) := by
  unfold f_X6_fewestHomes
  obtain ⟨near, k1, k2⟩ := cshade_tab (rd := rd) hr f_X6_fewestHomes_X2 n0
  refine ⟨near, k2.trans ?_⟩
  unfold f_X6_fewestHomes_X2
  obtain ⟨⟨x, y⟩, ⟨h1, h2⟩, h3⟩ := lup (L := fun f (s : Int32 × Int32) i => f_X6_fewestHomes_L37 near (f_X6_fewestHomes_X37 near) f s.1 s.2 (nI (i + 1))) (kE := fun s => f_X6_fewestHomes_X37 near s.1) 4094
    (fun i s => s.1 = nI (selB rd r (i + 1)) ∧ s.2 = nI (cN (selB rd r (i + 1))))
    (fun f i s hi hs => by
      obtain ⟨x, y⟩ := s
      obtain ⟨e1, e2⟩ := hs
      dsimp only at e1 e2
      subst e1
      subst e2
      refine ⟨(nI (selB rd r (i + 2)), nI (cN (selB rd r (i + 2)))), ⟨rfl, rfl⟩, ?_⟩
      dsimp only
      have c1 : cN (i + 1) ≤ 12 := cn_le _
      have c2 : cN (selB rd r (i + 1)) ≤ 12 := cn_le _
      have hbc : f_J6_bitCount_0f7a4 (nI (i + 1)) = some (nI (cN (i + 1))) := bc_ok ⟨i + 1, by omega, rfl⟩
      obtain ⟨b, k3, k4⟩ := near_ok hl hr k1 (s := i + 1) (by omega)
      rw [f_X6_fewestHomes_L37, if_neg (show ¬ (4095 : Int32) ≤ nI (i + 1) from nI_ge (a := i + 1) (b := 4095) (by omega) (by decide)), hbc, bd_some, selB_s rd r (i + 1), nI_1]
      by_cases g : cN (i + 1) < cN (selB rd r (i + 1))
      · rw [if_neg (nI_ge g (by omega)), k3, bd_some]
        cases b with
        | false =>
          rw [if_f, if_neg (fun e => by have := k4.mpr (covB_iff.mp e.2); cases this)]
        | true =>
          rw [if_t, bd_some, if_pos ⟨g, covB_iff.mpr (k4.mp rfl)⟩]
      · rw [if_pos (nI_le (by omega) (by omega)), if_neg (fun e => g e.1)])
    (fun f s hs => by
      show f_X6_fewestHomes_L37 near (f_X6_fewestHomes_X37 near) (f + 1) s.1 s.2 (nI 4095) = _
      rw [f_X6_fewestHomes_L37, if_pos (by decide)]) 5000 0 (4095, 12) (by decide) (by decide) ⟨by rw [selB_1]; rfl, by rw [selB_1, cN_4095]; rfl⟩
  dsimp only at h1 h3
  refine Eq.trans h3 ?_
  rw [h1, selB_e]
  rfl
theorem mshade_loop {md ap : Nat → Int32} (hap : ∀ p q, p < 12 → q < 12 → ap (12 * p + q) = nI (fw md 12 p q)) {r : Nat} (hr : r < 12) (kE : Int32 → Option (Int32 × (Nat → Int32))) : f_X10_shade_L33 (nI r) ap kE 5000 4095 0 = kE (nI (selB md r 4096)) := by
  obtain ⟨x, h1, h3⟩ := lup (L := fun f (s : Int32) i => f_X10_shade_L33 (nI r) ap kE f s (nI i)) (kE := kE) 4096 (fun i s => s = nI (selB md r i))
    (fun f i s hi hs => by
      subst hs
      refine ⟨_, rfl, ?_⟩
      show f_X10_shade_L33 (nI r) ap kE (f + 1) (nI (selB md r i)) (nI i) = _
      have c1 : cN i ≤ 12 := cn_le _
      have c2 : cN (selB md r i) ≤ 12 := cn_le _
      have b1 : f_X10_bits (nI i) = some (nI (cN i)) := bits_ok _
      have b3 : f_X10_bits (nI (selB md r i)) = some (nI (cN (selB md r i))) := bits_ok _
      have fin : ∀ b0 : Bool, (b0 = true ↔ cN i < cN (selB md r i)) → f_X10_shade_B58 (nI r) ap (nI (selB md r i)) (nI i) (f_X10_shade_L33 (nI r) ap kE f) (b2 b0) = f_X10_shade_L33 (nI r) ap kE f (nI (selB md r (i + 1))) (nI (i + 1)) := by
        intro b0 hb0
        unfold f_X10_shade_B58
        obtain ⟨b, k1, k2⟩ := mcov_ok hap hr (s := i) (by omega) (f_X10_shade_X63 (nI (selB md r i)) (nI i) (f_X10_shade_L33 (nI r) ap kE f)) b0
        rw [k1]
        unfold f_X10_shade_X63
        rw [selB_s md r i, nI_1]
        cases b with
        | false =>
          rw [if_f, if_neg]
          rintro ⟨g1, g2⟩
          have := k2.mpr ⟨hb0.mpr g1, covB_iff.mp g2⟩
          cases this
        | true =>
          obtain ⟨g1, g2⟩ := k2.mp rfl
          rw [if_t, if_pos ⟨hb0.mp g1, covB_iff.mpr g2⟩]
      rw [f_X10_shade_L33, if_neg (show ¬ (4096 : Int32) ≤ nI i from nI_ge hi (by decide)), b1, bd_some, b3, bd_some]
      by_cases g : cN i < cN (selB md r i)
      · rw [if_neg (nI_ge g (by omega))]
        exact fin true ⟨fun _ => g, fun _ => rfl⟩
      · rw [if_pos (nI_le (by omega) (by omega))]
        exact fin false ⟨fun e => (by cases e), fun e => absurd e g⟩)
    (fun f s hs => by
      show f_X10_shade_L33 (nI r) ap kE (f + 1) s (nI 4096) = _
      rw [f_X10_shade_L33, if_pos (by decide)]) 5000 0 4095 (by decide) (by decide) rfl
  rw [h1] at h3
  exact h3
theorem cov_cong {rd md : Nat → Int32} (h : ∀ p, p < 12 → md p = rd p) (r s : Nat) : cov md r s ↔ cov rd r s := by
  unfold cov
  constructor
  · intro g p hp
    obtain ⟨q, h1, h2, h3⟩ := g p hp
    rw [fw_cong h 12 p q (Nat.le_refl _) hp] at h3
    exact ⟨q, h1, h2, h3⟩
  · intro g p hp
    obtain ⟨q, h1, h2, h3⟩ := g p hp
    exact ⟨q, h1, h2, by rw [fw_cong h 12 p q (Nat.le_refl _) hp]; exact h3⟩
theorem selB_cong {rd md : Nat → Int32} (h : ∀ p, p < 12 → md p = rd p) (r : Nat) : ∀ k, selB md r k = selB rd r k := by
  intro k
  induction k with
  | zero => rfl
  | succ k ih =>
    rw [selB, selB, ih]
    have : covB md r k = covB rd r k := by
      have a := (@covB_iff md r k).trans ((cov_cong h r k).trans (@covB_iff rd r k).symm)
      cases x1 : covB md r k <;> cases x2 : covB rd r k <;> simp_all
    rw [this]
theorem ok_shade : OK_shade := by
  intro hm rd he cr kg la mi pl br rg sz fs sc nr ss fr tt mrd mhm th bk me mt si sg pz ps ms mp hR hQ near ap0 p1 p2
  have t0 : (0 : Int32).toInt = 0 := rfl
  have t1 : (1 : Int32).toInt = 1 := rfl
  have t11 : (11 : Int32).toInt = 11 := rfl
  have t12 : (12 : Int32).toInt = 12 := rfl
  by_cases hN : inR p1 12
  · obtain ⟨r, hr, rfl⟩ := hN
    have hrt : (nI r).toInt = r := nI_toInt (by omega)
    unfold f_X9_shade f_X10_shade
    rw [if_neg (nI_pos (by omega)), if_neg (show ¬ (12 : Int32) ≤ nI r from nI_ge hr (by decide)), in_ok, bd_some, decide_eq_true (by omega), if_t, in_ok, bd_some]
    by_cases g1 : p2 < 0
    · have := rg_lo.mp g1
      rw [if_pos g1, decide_eq_false (by omega), if_f]
      exact ⟨_, _, rfl, rfl, rfl, hR, hQ⟩
    · have g1' := n_lo g1
      rw [if_neg g1]
      by_cases g2 : p2 ≤ 1
      · have g2' := rg_le.mp g2
        obtain ⟨near', e1⟩ := cshade_ok hR.2.1 hr near
        obtain ⟨ap, e2, e3⟩ := layfar_ok mrd ap0
        rw [if_pos g2, decide_eq_true (by omega), if_t, e1, bd_some, e2, bd_some, mshade_loop e3 hr, selB_cong hR.1]
        have hs := selB_lt rd r 4096 (Nat.le_refl _)
        generalize selB rd r 4096 = z at hs
        unfold f_X10_shade_X33
        dsimp only
        obtain ⟨q, hq, rfl⟩ : inR p2 2 := (isN_in (by decide)).mp (decide_eq_true (by omega))
        rcases (show q = 0 ∨ q = 1 by omega) with rfl | rfl
        · rw [if_pos (show nI 0 = 0 from rfl), if_neg (show ¬ nI 0 = 1 by decide), bc_ok ⟨z, hs, rfl⟩, bits_ok, bd_some, bd_some]
          exact ⟨_, _, rfl, rfl, rfl, hR, hQ⟩
        · rw [if_neg (show ¬ nI 1 = 0 by decide), if_pos (show nI 1 = 1 from rfl)]
          exact ⟨_, _, rfl, rfl, rfl, hR, hQ⟩
      · have := n_le g2
        rw [if_neg g2, decide_eq_false (by omega), if_f]
        exact ⟨_, _, rfl, rfl, rfl, hR, hQ⟩
  · have hf := isN_f (n := 12) (by decide) hN
    unfold isN at hf
    have hf := of_decide_eq_false hf
    have e1 : f_X10_shade mrd ap0 p1 p2 = some (-2, ap0) := by
      unfold f_X10_shade
      rw [in_ok, bd_some, decide_eq_false (by omega), if_f]
    have e2 : f_X9_shade rd near p1 p2 = some (-2, near) := by
      unfold f_X9_shade
      by_cases g1 : p1 < 0
      · rw [if_pos g1]
      · have := n_lo g1
        rw [if_neg g1, if_pos (rg_le.mpr (by omega))]
    exact ⟨_, _, e2, e1, rfl, hR, hQ⟩
