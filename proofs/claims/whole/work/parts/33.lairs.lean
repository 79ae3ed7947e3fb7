theorem fw_sym {rd : Nat → Int32} (hl : LandOK rd) {p q : Nat} (hp : p < 12) (hq : q < 12) : fw rd 12 p q = fw rd 12 q p := by
  have key : ∀ a b, a < 12 → b < 12 → fw rd 12 a b < 1000000 → fw rd 12 b a ≤ fw rd 12 a b := fun a b ha hb h => fw_bound hb _ a ha (Rk_sym hl ha hb _ (fw_real 12 a b (Nat.le_refl _) ha hb h))
  have h1 := fw_le rd 12 p q
  have h2 := fw_le rd 12 q p
  rcases Nat.lt_or_ge (fw rd 12 p q) 1000000 with g | g
  · have k1 := key p q hp hq g
    have k2 := key q p hq hp (by omega)
    omega
  · rcases Nat.lt_or_ge (fw rd 12 q p) 1000000 with g2 | g2
    · have k2 := key q p hq hp g2
      omega
    · omega
def good (rd : Nat → Int32) (a b : Nat) (near : Bool) (p : Nat) : Prop := fw rd 12 p a < 1000000 ∧ fw rd 12 p b < 1000000 ∧ decide (fw rd 12 p b < fw rd 12 p a) = near
theorem bt_x (s : Int32) {j : Nat} (hj : j < 32) : bt (s ^^^ (-1)) j = true ↔ ¬ bt s j = true := by
  rw [bt_not s hj]
  cases bt s j <;> simp
theorem fit_ok {rd : Nat → Int32} (hl : LandOK rd) {a b : Nat} (ha : a < 12) (hb : b < 12) (near : Bool) : ∃ w, f_X2_fitting rd (nI a) (nI b) (b2 near) = some w ∧ ∀ j, j < 32 → (bt w j = true ↔ j < 12 ∧ good rd a b near j) := by
  unfold f_X2_fitting
  obtain ⟨⟨x, y, z⟩, ⟨h1, h2, h3⟩, h4⟩ := lup (L := fun n (s : Int32 × Int32 × Int32) i => f_X2_fitting_L16 rd (f_X2_fitting_X16 (b2 near)) n s.1 s.2.1 s.2.2 (nI i)) (kE := fun s => f_X2_fitting_X16 (b2 near) s.1 s.2.1 s.2.2) 12
    (fun i s => s.1 = rcs rd a i ∧ s.2.1 = rcs rd b i ∧ ∀ j, j < 32 → (bt s.2.2 j = true ↔ ∃ k, k < i ∧ Rk rd b k j ∧ ¬ Rk rd a k j))
    (fun n i s hi hs => by
      obtain ⟨x, y, z⟩ := s
      obtain ⟨e1, e2, e3⟩ := hs
      dsimp only at e1 e2 e3
      subst e1
      subst e2
      refine ⟨(rcs rd a (i + 1), rcs rd b (i + 1), z ||| (rcs rd b i &&& (rcs rd a i ^^^ (-1)))), ⟨rfl, rfl, fun j hj => ?_⟩, ?_⟩
      · dsimp only
        rw [b_or, b_and, Bool.or_eq_true, Bool.and_eq_true, e3 j hj, bt_x _ hj]
        constructor
        · rintro (⟨k, hk, h⟩ | h)
          · exact ⟨k, by omega, h⟩
          · exact ⟨i, by omega, h⟩
        · rintro ⟨k, hk, h⟩
          by_cases e : k = i
          · rw [e] at h; exact Or.inr h
          · exact Or.inl ⟨k, by omega, h⟩
      · dsimp only
        rw [f_X2_fitting_L16, if_neg (show ¬ (12 : Int32) ≤ nI i from nI_ge hi (by decide)), wd_ok, bd_some, wd_ok, bd_some, nI_1]
        rfl)
    (fun n s hs => by
      show f_X2_fitting_L16 rd (f_X2_fitting_X16 (b2 near)) (n + 1) s.1 s.2.1 s.2.2 (nI 12) = _
      rw [f_X2_fitting_L16, if_pos (by decide)]) 5000 0 (bI a, bI b, 0) (by decide) (by decide) ⟨rfl, rfl, fun j _ => ⟨fun h => absurd h (by rw [b_0]; decide), fun ⟨k, hk, _⟩ => absurd hk (Nat.not_lt_zero k)⟩⟩
  dsimp only at h1 h2 h3 h4
  subst h1
  subst h2
  have inA : ∀ j, j < 32 → (bt (rcs rd a 12) j = true ↔ j < 12 ∧ fw rd 12 j a < 1000000) := by
    intro j hj
    constructor
    · intro h
      have hj2 := Rk_lt hl.1 ha 12 h
      have := (fw_iff ha hj2 (by decide)).mp h
      rw [fw_sym hl hj2 ha]
      exact ⟨hj2, by omega⟩
    · rintro ⟨h1, h2⟩
      rw [fw_sym hl h1 ha] at h2
      have := fw_11 ha h1 h2
      exact (fw_iff ha h1 (by decide)).mpr (by omega)
  have inB : ∀ j, j < 32 → (bt (rcs rd b 12) j = true ↔ j < 12 ∧ fw rd 12 j b < 1000000) := by
    intro j hj
    constructor
    · intro h
      have hj2 := Rk_lt hl.1 hb 12 h
      have := (fw_iff hb hj2 (by decide)).mp h
      rw [fw_sym hl hj2 hb]
      exact ⟨hj2, by omega⟩
    · rintro ⟨h1, h2⟩
      rw [fw_sym hl h1 hb] at h2
      have := fw_11 hb h1 h2
      exact (fw_iff hb h1 (by decide)).mpr (by omega)
  have inZ : ∀ j, j < 12 → fw rd 12 j a < 1000000 → fw rd 12 j b < 1000000 → (bt z j = true ↔ fw rd 12 j b < fw rd 12 j a) := by
    intro j hj f1 f2
    rw [h3 j (by omega)]
    have s1 := fw_sym hl hj ha
    have s2 := fw_sym hl hj hb
    have g1 := fw_11 hj ha f1
    have g2 := fw_11 hj hb f2
    constructor
    · rintro ⟨k, hk, h5, h6⟩
      have h7 := (fw_iff hb hj (by omega)).mp h5
      have h8 : ¬ fw rd 12 a j ≤ k := fun h => h6 ((fw_iff ha hj (by omega)).mpr h)
      omega
    · intro h
      exact ⟨fw rd 12 b j, by omega, (fw_iff hb hj (by omega)).mpr (Nat.le_refl _), fun h6 => by have := (fw_iff ha hj (by omega)).mp h6; omega⟩
  refine ⟨_, Eq.trans h4 (show f_X2_fitting_X16 (b2 near) (rcs rd a 12) (rcs rd b 12) z = some (if near then (rcs rd a 12 &&& rcs rd b 12) &&& z else (rcs rd a 12 &&& rcs rd b 12) &&& (z ^^^ (-1))) by cases near <;> rfl), fun j hj => ?_⟩
  unfold good
  cases near
  · rw [if_neg Bool.false_ne_true, b_and, b_and, Bool.and_eq_true, Bool.and_eq_true, inA j hj, inB j hj, bt_x z hj]
    constructor
    · rintro ⟨⟨⟨h5, h6⟩, _, h7⟩, h8⟩
      exact ⟨h5, h6, h7, decide_eq_false (fun g => h8 ((inZ j h5 h6 h7).mpr g))⟩
    · rintro ⟨h5, h6, h7, h8⟩
      exact ⟨⟨⟨h5, h6⟩, h5, h7⟩, fun g => of_decide_eq_false h8 ((inZ j h5 h6 h7).mp g)⟩
  · rw [if_pos rfl, b_and, b_and, Bool.and_eq_true, Bool.and_eq_true, inA j hj, inB j hj]
    constructor
    · rintro ⟨⟨⟨h5, h6⟩, _, h7⟩, h8⟩
      exact ⟨h5, h6, h7, decide_eq_true ((inZ j h5 h6 h7).mp h8)⟩
    · rintro ⟨h5, h6, h7, h8⟩
      exact ⟨⟨⟨h5, h6⟩, h5, h7⟩, (inZ j h5 h6 h7).mpr (of_decide_eq_true h8)⟩
/-- the sights as numbers -/
theorem sig_c {nr ss : Int32} {fr tt : Nat → Int32} {si : Int32} {sg : Nat → Int32} (h : SightIs nr ss fr tt si sg) : ∃ (n : Nat) (A B : Nat → Nat), n ≤ 8 ∧ ss = nI n ∧ si = nI n ∧ ∀ i, i < n → fr i = nI (A i) ∧ tt i = nI (B i) ∧ A i < 12 ∧ B i < 12 ∧ sg (3 * i) = nI (A i) ∧ sg (3 * i + 1) = nI (B i) ∧ sg (3 * i + 2) = b2 (bt nr i) := by
  obtain ⟨n, hn, e1, e2, h⟩ := h
  refine ⟨n, fun i => (fr i).toNatClampNeg, fun i => (tt i).toNatClampNeg, hn, e1, e2, fun i hi => ?_⟩
  obtain ⟨g1, g2, g3, ⟨a, ha, ea⟩, ⟨b, hb, eb⟩⟩ := h i hi
  dsimp only
  rw [g1, g2, g3, ea, eb, nI_clamp (by omega), nI_clamp (by omega)]
  exact ⟨rfl, rfl, ha, hb, rfl, rfl, rfl⟩
theorem clair_ok {rd : Nat → Int32} (hl : LandOK rd) {nr : Int32} {fr tt : Nat → Int32} {n : Nat} {A B : Nat → Nat} (hn : n ≤ 8) (h : ∀ i, i < n → fr i = nI (A i) ∧ tt i = nI (B i) ∧ A i < 12 ∧ B i < 12) : ∃ w, f_X7_fitting nr (nI n) fr tt rd = some w ∧ ∀ j, j < 32 → (bt w j = true ↔ j < 12 ∧ ∀ i, i < n → good rd (A i) (B i) (bt nr i) j) := by
  unfold f_X7_fitting
  obtain ⟨w, h1, h2⟩ := lup (L := fun f (s : Int32) i => f_X7_fitting_L6 nr (nI n) fr tt rd f_X7_fitting_X6 f s (nI i)) (kE := f_X7_fitting_X6) n (fun k s => ∀ j, j < 32 → (bt s j = true ↔ j < 12 ∧ ∀ i, i < k → good rd (A i) (B i) (bt nr i) j))
    (fun f i s hi hs => by
      obtain ⟨e1, e2, e3, e4⟩ := h i hi
      obtain ⟨w, k1, k2⟩ := fit_ok hl e3 e4 (bt nr i)
      refine ⟨s &&& w, fun j hj => ?_, ?_⟩
      · rw [b_and, Bool.and_eq_true, hs j hj, k2 j hj]
        constructor
        · rintro ⟨⟨g1, g2⟩, _, g3⟩
          refine ⟨g1, fun q hq => ?_⟩
          by_cases e : q = i
          · rw [e]; exact g3
          · exact g2 q (by omega)
        · rintro ⟨g1, g2⟩
          exact ⟨⟨g1, fun q hq => g2 q (by omega)⟩, g1, g2 i (by omega)⟩
      · show f_X7_fitting_L6 nr (nI n) fr tt rd f_X7_fitting_X6 (f + 1) s (nI i) = _
        rw [f_X7_fitting_L6, if_neg (nI_ge hi (by omega)), if_neg (show ¬ (8 : Int32) ≤ nI i from nI_ge (a := i) (b := 8) (by omega) (by decide)), if_pos (ix_t (by omega) (by decide)), holds_ok _ (by omega), bd_some, nI_clamp (by omega), e1, e2, k1, bd_some, nI_1])
    (fun f s hs => by
      show f_X7_fitting_L6 nr (nI n) fr tt rd f_X7_fitting_X6 (f + 1) s (nI n) = _
      rw [f_X7_fitting_L6, if_pos (nI_le (Nat.le_refl n) (by omega))]) 5000 0 4095 (by omega) (by omega) (fun j hj => by
        have e : bt 4095 j = decide (j < 12) := (by decide +kernel : ∀ i, i < 32 → bt 4095 i = decide (i < 12)) j hj
        rw [e, decide_eq_true_iff]
        exact ⟨fun h => ⟨h, fun i hi => absurd hi (Nat.not_lt_zero i)⟩, fun h => h.1⟩)
  exact ⟨w, h2, h1⟩
