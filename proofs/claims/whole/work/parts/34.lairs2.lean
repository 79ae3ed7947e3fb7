theorem good_cong {rd md : Nat → Int32} (h : ∀ p, p < 12 → md p = rd p) {a b p : Nat} {near : Bool} (hp : p < 12) : good md a b near p ↔ good rd a b near p := by
  unfold good
  rw [fw_cong h 12 p a (Nat.le_refl _) hp, fw_cong h 12 p b (Nat.le_refl _) hp]
theorem mlair_in {md ap sg : Nat → Int32} {nr : Int32} {n : Nat} {A B : Nat → Nat} (hn : n ≤ 8) (h : ∀ i, i < n → A i < 12 ∧ B i < 12 ∧ sg (3 * i) = nI (A i) ∧ sg (3 * i + 1) = nI (B i) ∧ sg (3 * i + 2) = b2 (bt nr i)) (hap : ∀ p q, p < 12 → q < 12 → ap (12 * p + q) = nI (fw md 12 p q)) {p : Nat} (hp : p < 12) (kE : Int32 → Option (Int32 × (Nat → Int32))) : ∃ b : Bool, (b = true ↔ ∀ i, i < n → good md (A i) (B i) (bt nr i) p) ∧ f_X10_lairSet_L19 (nI n) sg ap (nI p) kE 5000 1 0 = kE (b2 b) := by
  obtain ⟨w, h1, h2⟩ := lup (L := fun f (s : Int32) i => f_X10_lairSet_L19 (nI n) sg ap (nI p) kE f s (nI i)) (kE := kE) n (fun k s => ∃ b : Bool, s = b2 b ∧ (b = true ↔ ∀ i, i < k → good md (A i) (B i) (bt nr i) p))
    (fun f i s hi hs => by
      obtain ⟨b, rfl, hb⟩ := hs
      obtain ⟨e3, e4, e5, e6, e7⟩ := h i hi
      show ∃ s', _ ∧ f_X10_lairSet_L19 (nI n) sg ap (nI p) kE (f + 1) (b2 b) (nI i) = f_X10_lairSet_L19 (nI n) sg ap (nI p) kE f s' (nI (i + 1))
      rw [f_X10_lairSet_L19, if_neg (nI_ge hi (by omega))]
      simp only [m_3, m_12, p_1]
      rw [if_pos (ix_t (by omega) (by decide)), nI_clamp (show 3 * i < 2 ^ 31 by omega), e5, nI_add, if_pos (ix_t (by omega) (by decide)), if_pos (ix_t (by omega) (by decide)), nI_clamp (show 3 * i + 1 < 2 ^ 31 by omega), e6, nI_add, if_pos (ix_t (by omega) (by decide)), nI_clamp (show 12 * p + A i < 2 ^ 31 by omega), nI_clamp (show 12 * p + B i < 2 ^ 31 by omega), hap p _ hp e3, hap p _ hp e4]
      have la := fw_le md 12 p (A i)
      have lb := fw_le md 12 p (B i)
      have qa : ((1000000 : Int32) ≤ nI (fw md 12 p (A i))) ↔ 1000000 ≤ fw md 12 p (A i) := lit_le (a := 1000000) (by decide) (by omega)
      have qb : ((1000000 : Int32) ≤ nI (fw md 12 p (B i))) ↔ 1000000 ≤ fw md 12 p (B i) := lit_le (a := 1000000) (by decide) (by omega)
      have qc : (nI (fw md 12 p (A i)) ≤ nI (fw md 12 p (B i))) ↔ fw md 12 p (A i) ≤ fw md 12 p (B i) := nI_leI (by omega) (by omega)
      have no : (¬ good md (A i) (B i) (bt nr i) p ∨ b = false) → (false = true ↔ ∀ q, q < i + 1 → good md (A q) (B q) (bt nr q) p) := by
        intro hno
        constructor
        · intro g; cases g
        · intro g
          rcases hno with hno | hno
          · exact absurd (g i (by omega)) hno
          · have := hb.mpr (fun q hq => g q (by omega))
            rw [hno] at this
            exact this
      cases b with
      | false =>
        rw [if_f]
        exact ⟨0, ⟨false, rfl, no (Or.inr rfl)⟩, rfl⟩
      | true =>
        rw [if_t]
        by_cases g1 : 1000000 ≤ fw md 12 p (A i)
        · rw [if_pos (qa.mpr g1)]
          exact ⟨0, ⟨false, rfl, no (Or.inl (fun g => by have := g.1; omega))⟩, rfl⟩
        · rw [if_neg (fun g => g1 (qa.mp g))]
          by_cases g2 : 1000000 ≤ fw md 12 p (B i)
          · rw [if_pos (qb.mpr g2)]
            exact ⟨0, ⟨false, rfl, no (Or.inl (fun g => by have := g.2.1; omega))⟩, rfl⟩
          · rw [if_neg (fun g => g2 (qb.mp g))]
            have fin : ∀ near : Bool, near = decide (fw md 12 p (B i) < fw md 12 p (A i)) → ∃ s', (∃ b : Bool, s' = b2 b ∧ (b = true ↔ ∀ q, q < i + 1 → good md (A q) (B q) (bt nr q) p)) ∧ f_X10_lairSet_B102 sg (nI i) (f_X10_lairSet_L19 (nI n) sg ap (nI p) kE f) (b2 near) = f_X10_lairSet_L19 (nI n) sg ap (nI p) kE f s' (nI (i + 1)) := by
              intro near hnear
              unfold f_X10_lairSet_B102
              simp only [m_3, p_2]
              rw [if_pos (ix_t (by omega) (by decide)), nI_clamp (show 3 * i + 2 < 2 ^ 31 by omega), e7, nI_1]
              by_cases g3 : near = bt nr i
              · rw [if_pos (by rw [g3])]
                refine ⟨1, ⟨true, rfl, fun _ q hq => ?_, fun _ => rfl⟩, rfl⟩
                by_cases e : q = i
                · rw [e]
                  exact ⟨by omega, by omega, hnear.symm.trans g3⟩
                · exact hb.mp rfl q (by omega)
              · have g4 : ¬ b2 near = b2 (bt nr i) := by
                  cases near <;> cases g5 : bt nr i <;> first | (exact absurd g5.symm g3) | decide
                rw [if_neg g4]
                exact ⟨0, ⟨false, rfl, no (Or.inl (fun g => g3 (hnear.trans g.2.2)))⟩, rfl⟩
            by_cases g3 : fw md 12 p (A i) ≤ fw md 12 p (B i)
            · rw [if_pos (qc.mpr g3)]
              exact fin false (decide_eq_false (by omega)).symm
            · rw [if_neg (fun g => g3 (qc.mp g))]
              exact fin true (decide_eq_true (by omega)).symm)
    (fun f s hs => by
      show f_X10_lairSet_L19 (nI n) sg ap (nI p) kE (f + 1) s (nI n) = _
      rw [f_X10_lairSet_L19, if_pos (nI_le (Nat.le_refl n) (by omega))]) 5000 0 1 (by omega) (by omega) ⟨true, rfl, fun _ i hi => absurd hi (Nat.not_lt_zero i), fun _ => rfl⟩
  obtain ⟨b, rfl, hb⟩ := h1
  exact ⟨b, hb, h2⟩
theorem mlair_ok {md sg ap0 : Nat → Int32} {nr : Int32} {n : Nat} {A B : Nat → Nat} (hn : n ≤ 8) (h : ∀ i, i < n → A i < 12 ∧ B i < 12 ∧ sg (3 * i) = nI (A i) ∧ sg (3 * i + 1) = nI (B i) ∧ sg (3 * i + 2) = b2 (bt nr i)) : ∃ w ap, f_X10_lairSet (nI n) md sg ap0 = some (w, ap) ∧ (∀ p q, p < 12 → q < 12 → ap (12 * p + q) = nI (fw md 12 p q)) ∧ ∀ j, j < 32 → (bt w j = true ↔ j < 12 ∧ ∀ i, i < n → good md (A i) (B i) (bt nr i) j) := by
  obtain ⟨ap, k1, k2⟩ := layfar_ok md ap0
  unfold f_X10_lairSet
  rw [k1, bd_some]
  obtain ⟨w, h1, h2⟩ := lup (L := fun f (s : Int32) i => f_X10_lairSet_L8 (nI n) sg ap (f_X10_lairSet_X8 ap) f s (nI i)) (kE := f_X10_lairSet_X8 ap) 12 (fun k s => ∀ j, j < 32 → (bt s j = true ↔ j < k ∧ ∀ i, i < n → good md (A i) (B i) (bt nr i) j))
    (fun f p s hp hs => by
      show ∃ s', _ ∧ f_X10_lairSet_L8 (nI n) sg ap (f_X10_lairSet_X8 ap) (f + 1) s (nI p) = f_X10_lairSet_L8 (nI n) sg ap (f_X10_lairSet_X8 ap) f s' (nI (p + 1))
      rw [f_X10_lairSet_L8, if_neg (show ¬ (12 : Int32) ≤ nI p from nI_ge hp (by decide))]
      obtain ⟨b, e1, e2⟩ := mlair_in hn h k2 hp (f_X10_lairSet_X19 s (nI p) (f_X10_lairSet_L8 (nI n) sg ap (f_X10_lairSet_X8 ap) f))
      rw [e2]
      unfold f_X10_lairSet_X19
      cases b with
      | false =>
        rw [if_f, or_0, nI_1]
        refine ⟨s, fun j hj => ?_, rfl⟩
        rw [hs j hj]
        constructor
        · rintro ⟨g1, g2⟩; exact ⟨by omega, g2⟩
        · rintro ⟨g1, g2⟩
          by_cases e : j = p
          · rw [e] at g2; exact absurd (e1.mpr g2) (by decide)
          · exact ⟨by omega, g2⟩
      | true =>
        rw [if_t, nI_1]
        refine ⟨s ||| bI p, fun j hj => ?_, rfl⟩
        rw [bt_on s (by omega) hj, Bool.or_eq_true, hs j hj, decide_eq_true_iff]
        constructor
        · rintro (⟨g1, g2⟩ | g)
          · exact ⟨by omega, g2⟩
          · rw [g]; exact ⟨by omega, e1.mp rfl⟩
        · rintro ⟨g1, g2⟩
          by_cases e : j = p
          · exact Or.inr e
          · exact Or.inl ⟨by omega, g2⟩)
    (fun f s hs => by
      show f_X10_lairSet_L8 (nI n) sg ap (f_X10_lairSet_X8 ap) (f + 1) s (nI 12) = _
      rw [f_X10_lairSet_L8, if_pos (by decide)]) 5000 0 0 (by decide) (by decide) (fun j hj => by
        rw [b_0]
        exact ⟨fun g => (by cases g), fun g => absurd g.1 (Nat.not_lt_zero j)⟩)
  exact ⟨w, ap, h2, k2, h1⟩
theorem lair_eq {hm : Int32} {rd : Nat → Int32} {he cr kg la mi : Int32} {pl br rg : Nat → Int32} {sz : Int32} {fs sc : Nat → Int32} {nr ss : Int32} {fr tt mrd : Nat → Int32} {mhm th : Int32} {bk : Nat → Int32} {me : Int32} {mt : Nat → Int32} {si : Int32} {sg : Nat → Int32} (hR : RelR hm rd he cr kg la mi pl br rg sz fs sc nr ss fr tt mrd mhm th bk me mt si sg) (ap0 : Nat → Int32) : ∃ w ap, f_X7_fitting nr ss fr tt rd = some w ∧ f_X10_lairSet si mrd sg ap0 = some (w, ap) ∧ (∀ p q, p < 12 → q < 12 → ap (12 * p + q) = nI (fw rd 12 p q)) ∧ inR w 4096 := by
  obtain ⟨h1, h2, h3, h4, h5, h6, h7, h8, h9, h10⟩ := hR
  obtain ⟨n, A, B, hn, rfl, rfl, hs⟩ := sig_c h10
  obtain ⟨w, e1, e2⟩ := clair_ok h2 (nr := nr) hn (fun i hi => ⟨(hs i hi).1, (hs i hi).2.1, (hs i hi).2.2.1, (hs i hi).2.2.2.1⟩)
  obtain ⟨w', ap, e3, e4, e5⟩ := mlair_ok (md := mrd) (ap0 := ap0) (nr := nr) hn (fun i hi => (hs i hi).2.2)
  have e : w' = w := b_ext (fun j hj => by
    have a1 := e2 j hj
    have a2 := e5 j hj
    have a3 : (j < 12 ∧ ∀ i, i < n → good mrd (A i) (B i) (bt nr i) j) ↔ (j < 12 ∧ ∀ i, i < n → good rd (A i) (B i) (bt nr i) j) := by
      constructor
      · rintro ⟨g1, g2⟩; exact ⟨g1, fun i hi => (good_cong h1 g1).mp (g2 i hi)⟩
      · rintro ⟨g1, g2⟩; exact ⟨g1, fun i hi => (good_cong h1 g1).mpr (g2 i hi)⟩
    have a4 : bt w' j = true ↔ bt w j = true := a2.trans (a3.trans a1.symm)
    cases x1 : bt w' j <;> cases x2 : bt w j <;> simp_all)
  subst e
  refine ⟨w', ap, e1, e3, fun p q hp hq => by rw [e4 p q hp hq, fw_cong h1 12 p q (Nat.le_refl _) hp], inR_of (m := 12) (fun i hi h32 => ?_)⟩
  cases g : bt w' i with
  | false => rfl
  | true => exact absurd ((e2 i h32).mp g).1 (by omega)
theorem ok_lairs : OK_lairs := by
  intro hm rd he cr kg la mi pl br rg sz fs sc nr ss fr tt mrd mhm th bk me mt si sg pz ps ms mp hR hQ ap0
  obtain ⟨w, ap, e1, e2, _, _⟩ := lair_eq hR ap0
  unfold f_X9_lairs f_X10_lairs
  rw [e1, e2, bd_some, bd_some]
  exact ⟨_, _, rfl, rfl, rfl, hR, hQ⟩
