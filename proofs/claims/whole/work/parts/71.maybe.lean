/-! maybe, touches -/
theorem kings_ok {A B : Nat → Nat} {fs sc : Nat → Int32} {n k : Nat} (hn : n ≤ 8) (hk : k < 7) (hAB : ∀ i, i < n → A i < 7 ∧ B i < 7 ∧ A i ≠ B i) (hf : ∀ i, i < n → fs i = nI (A i) ∧ sc i = nI (B i)) (kg to : Int32) : ∃ w kg' to', f_X3_possibleKings (nI n) kg to fs sc (nI k) = some (w, kg', to') ∧ ∀ j, j < 32 → (bt w j = true ↔ ∃ C, C < 2 ^ n ∧ (ply A B k C n).1 / 8 = j) := by
  have hp := pow_le hn
  unfold f_X3_possibleKings
  obtain ⟨⟨w, kg', to'⟩, h1, h2⟩ := lup (L := fun f (s : Int32 × Int32 × Int32) c => f_X3_possibleKings_L4 (nI n) fs sc (nI k) f_X3_possibleKings_X4 f s.1 (nI c) s.2.1 s.2.2) (kE := fun s => f_X3_possibleKings_X4 s.1 s.2.1 s.2.2) (2 ^ n) (fun c s => ∀ j, j < 32 → (bt s.1 j = true ↔ ∃ C, C < c ∧ (ply A B k C n).1 / 8 = j))
    (fun f c s hc hs => by
      obtain ⟨v, kk, tt⟩ := s
      dsimp only at hs
      have hst := (ply_lt (C := c) hk (fun i hi => ⟨(hAB i hi).1, (hAB i hi).2.1⟩) n (Nat.le_refl n)).1
      refine ⟨(v ||| bI ((ply A B k c n).1 / 8), nI ((ply A B k c n).1 / 8), nI (ply A B k c n).2), fun j hj => ?_, ?_⟩
      · dsimp only
        rw [bt_on v (by omega) hj, Bool.or_eq_true, decide_eq_true_iff, hs j hj]
        constructor
        · rintro (⟨C, h3, h4⟩ | h3)
          · exact ⟨C, by omega, h4⟩
          · exact ⟨c, by omega, h3.symm⟩
        · rintro ⟨C, h3, h4⟩
          by_cases e : C = c
          · rw [e] at h4; exact Or.inr h4.symm
          · exact Or.inl ⟨C, by omega, h4⟩
      · show f_X3_possibleKings_L4 (nI n) fs sc (nI k) f_X3_possibleKings_X4 (f + 1) v (nI c) kk tt = _
        rw [f_X3_possibleKings_L4, pow_n n hn, if_neg (nI_ge hc (by omega)), play_ok hn hk hAB hf, bd_some, nI_1]
        rfl)
    (fun f s hs => by
      show f_X3_possibleKings_L4 (nI n) fs sc (nI k) f_X3_possibleKings_X4 (f + 1) s.1 (nI (2 ^ n)) s.2.1 s.2.2 = _
      rw [f_X3_possibleKings_L4, pow_n n hn, if_pos (nI_le (Nat.le_refl _) (by omega))]) 5000 0 (0, kg, to) (Nat.zero_le _) (by omega) (fun j hj => by
        dsimp only
        rw [b_0]
        exact ⟨fun e => (by cases e), fun ⟨C, h, _⟩ => absurd h (Nat.not_lt_zero C)⟩)
  exact ⟨w, kg', to', h2, h1⟩
def Mn (A B : Nat → Nat) (k e n c : Nat) (w : Int32) : Prop := (w = -6 ∧ ∀ C, C < c → (ply A B k C n).1 / 8 ≠ e) ∨ ∃ v : Nat, v ≤ 8 ∧ w = nI v ∧ (∃ C, C < c ∧ (ply A B k C n).1 / 8 = e ∧ (ply A B k C n).2 = v) ∧ ∀ C, C < c → (ply A B k C n).1 / 8 = e → v ≤ (ply A B k C n).2
theorem few_t {A B : Nat → Nat} {fs sc : Nat → Int32} {n k e : Nat} (hn : n ≤ 8) (hk : k < 7) (he : e < 7) (hAB : ∀ i, i < n → A i < 7 ∧ B i < 7 ∧ A i ≠ B i) (hf : ∀ i, i < n → fs i = nI (A i) ∧ sc i = nI (B i)) (kg to : Int32) : ∃ w kg' to', f_X3_fewestTouches (nI n) kg to fs sc (nI k) (nI e) = some (w, kg', to') ∧ Mn A B k e n (2 ^ n) w := by
  have hp := pow_le hn
  unfold f_X3_fewestTouches
  obtain ⟨⟨w, kg', to'⟩, h1, h2⟩ := lup (L := fun f (s : Int32 × Int32 × Int32) c => f_X3_fewestTouches_L6 (nI n) fs sc (nI k) (nI e) f_X3_fewestTouches_X6 f s.1 (nI c) s.2.1 s.2.2) (kE := fun s => f_X3_fewestTouches_X6 s.1 s.2.1 s.2.2) (2 ^ n) (fun c s => Mn A B k e n c s.1)
    (fun f c s hc hs => by
      obtain ⟨v, kk, tt⟩ := s
      dsimp only at hs
      obtain ⟨hst, htt⟩ := ply_lt (C := c) hk (fun i hi => ⟨(hAB i hi).1, (hAB i hi).2.1⟩) n (Nat.le_refl n)
      show ∃ s' : Int32 × Int32 × Int32, Mn A B k e n (c + 1) s'.1 ∧ f_X3_fewestTouches_L6 (nI n) fs sc (nI k) (nI e) f_X3_fewestTouches_X6 (f + 1) v (nI c) kk tt = f_X3_fewestTouches_L6 (nI n) fs sc (nI k) (nI e) f_X3_fewestTouches_X6 f s'.1 (nI (c + 1)) s'.2.1 s'.2.2
      rw [f_X3_fewestTouches_L6, pow_n n hn, if_neg (nI_ge hc (by omega)), play_ok hn hk hAB hf, bd_some, nI_1]
      dsimp only
      have old : ∀ C, C < c + 1 → C ≠ c → C < c := fun C h1 h2 => by omega
      by_cases g : (ply A B k c n).1 / 8 = e
      · rw [if_pos (by rw [g])]
        rcases hs with ⟨e1, h3⟩ | ⟨u, hu, e1, ⟨C, c1, c2, c3⟩, h3⟩
        · rw [if_pos e1]
          refine ⟨(nI (ply A B k c n).2, nI ((ply A B k c n).1 / 8), nI (ply A B k c n).2), Or.inr ⟨(ply A B k c n).2, by omega, rfl, ⟨c, by omega, g, rfl⟩, fun C hC hC2 => ?_⟩, rfl⟩
          by_cases q : C = c
          · rw [q]; exact Nat.le_refl _
          · exact absurd hC2 (h3 C (old C hC q))
        · rw [e1, if_neg (nn6 (by omega))]
          by_cases g2 : u ≤ (ply A B k c n).2
          · rw [if_pos (nI_le g2 (by omega))]
            refine ⟨(nI u, nI ((ply A B k c n).1 / 8), nI (ply A B k c n).2), Or.inr ⟨u, hu, rfl, ⟨C, by omega, c2, c3⟩, fun D hD hD2 => ?_⟩, rfl⟩
            by_cases q : D = c
            · rw [q]; exact g2
            · exact h3 D (old D hD q) hD2
          · rw [if_neg (nI_ge (by omega) (by omega))]
            refine ⟨(nI (ply A B k c n).2, nI ((ply A B k c n).1 / 8), nI (ply A B k c n).2), Or.inr ⟨(ply A B k c n).2, by omega, rfl, ⟨c, by omega, g, rfl⟩, fun D hD hD2 => ?_⟩, rfl⟩
            by_cases q : D = c
            · rw [q]; exact Nat.le_refl _
            · have := h3 D (old D hD q) hD2
              omega
      · rw [if_neg (fun q => g (nI_inj' (by omega) (by omega) q))]
        refine ⟨(v, nI ((ply A B k c n).1 / 8), nI (ply A B k c n).2), ?_, rfl⟩
        rcases hs with ⟨e1, h3⟩ | ⟨u, hu, e1, ⟨C, c1, c2, c3⟩, h3⟩
        · refine Or.inl ⟨e1, fun C hC => ?_⟩
          by_cases q : C = c
          · rw [q]; exact g
          · exact h3 C (old C hC q)
        · refine Or.inr ⟨u, hu, e1, ⟨C, by omega, c2, c3⟩, fun D hD hD2 => ?_⟩
          by_cases q : D = c
          · rw [q] at hD2; exact absurd hD2 g
          · exact h3 D (old D hD q) hD2)
    (fun f s hs => by
      show f_X3_fewestTouches_L6 (nI n) fs sc (nI k) (nI e) f_X3_fewestTouches_X6 (f + 1) s.1 (nI (2 ^ n)) s.2.1 s.2.2 = _
      rw [f_X3_fewestTouches_L6, pow_n n hn, if_pos (nI_le (Nat.le_refl _) (by omega))]) 5000 0 (-6, kg, to) (Nat.zero_le _) (by omega) (Or.inl ⟨rfl, fun C hC => absurd hC (Nat.not_lt_zero C)⟩)
  exact ⟨w, kg', to', h2, h1⟩
/-! the model's table of touches -/
def FT (f : Nat → Int32) (F : Nat → Nat) : Prop := ∀ s, s < 56 → f s = nI (F s) ∧ F s ≤ 1000000
def SndT (A B : Nat → Nat) (k i : Nat) (F : Nat → Nat) : Prop := ∀ s, s < 56 → F s < 1000000 → ∃ C, C < 2 ^ i ∧ ply A B k C i = (s, F s)
def CmpT (A B : Nat → Nat) (k i : Nat) (F : Nat → Nat) : Prop := ∀ C, C < 2 ^ i → F (ply A B k C i).1 ≤ (ply A B k C i).2
theorem ply_lo {A B : Nat → Nat} {k C i : Nat} (h : C < 2 ^ i) : ply A B k C (i + 1) = ply A B k C i := by
  rw [ply, Nat.testBit_lt_two_pow h, if_neg Bool.false_ne_true]
theorem ply_hi {A B : Nat → Nat} {k C i : Nat} (h : C < 2 ^ i) : ply A B k (2 ^ i + C) (i + 1) = (tN (A i) (B i) (ply A B k C i).1, if tN (A i) (B i) (ply A B k C i).1 = (ply A B k C i).1 then (ply A B k C i).2 else (ply A B k C i).2 + 1) := by
  have e : ply A B k (2 ^ i + C) i = ply A B k C i := ply_cong i (fun j hj => Nat.testBit_two_pow_add_gt hj C)
  rw [ply, Nat.testBit_two_pow_add_eq, Nat.testBit_lt_two_pow h, e]
  rfl
theorem t_step {A B : Nat → Nat} {k i : Nat} {F G : Nat → Nat} (hlt : ∀ C, (ply A B k C i).1 < 56) (hs : SndT A B k i F) (hc : CmpT A B k i F) (g1 : ∀ s, s < 56 → G s ≤ F s) (g2 : ∀ q, q < 56 → tN (A i) (B i) q ≠ q → G (tN (A i) (B i) q) ≤ F q + 1) (g3 : ∀ s, s < 56 → G s = F s ∨ ∃ q, q < 56 ∧ tN (A i) (B i) q = s ∧ q ≠ s ∧ G s = F q + 1) : SndT A B k (i + 1) G ∧ CmpT A B k (i + 1) G := by
  have h2 : 2 ^ (i + 1) = 2 ^ i + 2 ^ i := by rw [Nat.pow_succ]; omega
  constructor
  · intro s hs' hlt'
    rcases g3 s hs' with e | ⟨q, hq, q1, q2, q3⟩
    · obtain ⟨C, c1, c2⟩ := hs s hs' (by omega)
      exact ⟨C, by omega, by rw [ply_lo c1, c2, e]⟩
    · obtain ⟨C, c1, c2⟩ := hs q hq (by omega)
      refine ⟨2 ^ i + C, by omega, ?_⟩
      rw [ply_hi c1, c2]
      dsimp only
      rw [q1, if_neg (fun e => q2 e.symm), q3]
  · intro C hC
    rcases Nat.lt_or_ge C (2 ^ i) with h | h
    · rw [ply_lo h]
      exact Nat.le_trans (g1 _ (hlt C)) (hc C h)
    · obtain ⟨D, rfl⟩ : ∃ D, C = 2 ^ i + D := ⟨C - 2 ^ i, by omega⟩
      have hD : D < 2 ^ i := by omega
      rw [ply_hi hD]
      dsimp only
      have h3 := hc D hD
      have h4 := hlt D
      by_cases e : tN (A i) (B i) (ply A B k D i).1 = (ply A B k D i).1
      · rw [if_pos e, e]
        exact Nat.le_trans (g1 _ h4) h3
      · rw [if_neg e]
        have := g2 _ h4 e
        omega
theorem l2_ok {k : Nat} (hk : k < 7) (kE : (Nat → Int32) → Option ((Nat → Int32) × (Nat → Int32))) (f0 : Nat → Int32) : ∃ f, f_X10_layTouches_L2 (nI k) kE 5000 0 f0 = kE f ∧ ∀ s, s < 56 → f s = nI (if s = 8 * k + 7 then 0 else 1000000) := by
  obtain ⟨f, h1, h2⟩ := lup (L := fun n (s : Nat → Int32) i => f_X10_layTouches_L2 (nI k) kE n (nI i) s) (kE := kE) 56 (fun i s => ∀ x, x < i → s x = nI (if x = 8 * k + 7 then 0 else 1000000))
    (fun n i s hi hs => by
      refine ⟨upd s i (nI (if i = 8 * k + 7 then 0 else 1000000)), fun x hx => ?_, ?_⟩
      · by_cases e : x = i
        · rw [e, pk_us]
        · rw [pk_un e]; exact hs x (by omega)
      · show f_X10_layTouches_L2 (nI k) kE (n + 1) (nI i) s = _
        rw [f_X10_layTouches_L2, if_neg (show ¬ (56 : Int32) ≤ nI i from nI_ge (b := 56) hi (by decide)), m_8, p_7, if_pos (ix_t hi (by decide)), if_pos (ix_t hi (by decide)), nI_1, nI_clamp (by omega)]
        by_cases g : i = 8 * k + 7
        · rw [if_pos (by rw [g]), if_pos g]; rfl
        · rw [if_neg (fun e => g (nI_inj' (by omega) (by omega) e)), if_neg g]; rfl)
    (fun n s hs => by
      show f_X10_layTouches_L2 (nI k) kE (n + 1) (nI 56) s = _
      rw [f_X10_layTouches_L2, if_pos (by decide)]) 5000 0 f0 (by decide) (by decide) (fun x hx => absurd hx (Nat.not_lt_zero x))
  exact ⟨f, h2, h1⟩
theorem l49_ok (f : Nat → Int32) (kE : (Nat → Int32) → Option ((Nat → Int32) × (Nat → Int32))) (g0 : Nat → Int32) : ∃ g, f_X10_layTouches_L49 f kE 5000 0 g0 = kE g ∧ ∀ s, s < 56 → g s = f s := by
  obtain ⟨g, h1, h2⟩ := lup (L := fun n (s : Nat → Int32) i => f_X10_layTouches_L49 f kE n (nI i) s) (kE := kE) 56 (fun i s => ∀ x, x < i → s x = f x)
    (fun n i s hi hs => by
      refine ⟨upd s i (f i), fun x hx => ?_, ?_⟩
      · by_cases e : x = i
        · rw [e, pk_us]
        · rw [pk_un e]; exact hs x (by omega)
      · show f_X10_layTouches_L49 f kE (n + 1) (nI i) s = _
        rw [f_X10_layTouches_L49, if_neg (show ¬ (56 : Int32) ≤ nI i from nI_ge (b := 56) hi (by decide)), if_pos (ix_t hi (by decide)), nI_1, nI_clamp (by omega)])
    (fun n s hs => by
      show f_X10_layTouches_L49 f kE (n + 1) (nI 56) s = _
      rw [f_X10_layTouches_L49, if_pos (by decide)]) 5000 0 g0 (by decide) (by decide) (fun x hx => absurd hx (Nat.not_lt_zero x))
  exact ⟨g, h2, h1⟩
theorem l136_ok (f : Nat → Int32) (kE : (Nat → Int32) → Option ((Nat → Int32) × (Nat → Int32))) (g0 : Nat → Int32) : ∃ g, f_X10_layTouches_L136 f kE 5000 0 g0 = kE g ∧ ∀ s, s < 56 → g s = f s := by
  obtain ⟨g, h1, h2⟩ := lup (L := fun n (s : Nat → Int32) i => f_X10_layTouches_L136 f kE n (nI i) s) (kE := kE) 56 (fun i s => ∀ x, x < i → s x = f x)
    (fun n i s hi hs => by
      refine ⟨upd s i (f i), fun x hx => ?_, ?_⟩
      · by_cases e : x = i
        · rw [e, pk_us]
        · rw [pk_un e]; exact hs x (by omega)
      · show f_X10_layTouches_L136 f kE (n + 1) (nI i) s = _
        rw [f_X10_layTouches_L136, if_neg (show ¬ (56 : Int32) ≤ nI i from nI_ge (b := 56) hi (by decide)), if_pos (ix_t hi (by decide)), nI_1, nI_clamp (by omega)])
    (fun n s hs => by
      show f_X10_layTouches_L136 f kE (n + 1) (nI 56) s = _
      rw [f_X10_layTouches_L136, if_pos (by decide)]) 5000 0 g0 (by decide) (by decide) (fun x hx => absurd hx (Nat.not_lt_zero x))
  exact ⟨g, h2, h1⟩
theorem l75_ok {A B : Nat → Nat} {mt f : Nat → Int32} {F : Nat → Nat} {n i : Nat} (hn : n ≤ 8) (hi : i < n) (hAB : ∀ i, i < n → A i < 7 ∧ B i < 7 ∧ A i ≠ B i) (hm : ∀ i, i < n → mt (2 * i) = nI (A i) ∧ mt (2 * i + 1) = nI (B i)) (hF : FT f F) (kE : (Nat → Int32) → Option ((Nat → Int32) × (Nat → Int32))) (g0 : Nat → Int32) (hg0 : ∀ s, s < 56 → g0 s = f s) : ∃ g G, f_X10_layTouches_L75 mt (nI i) f kE 5000 0 g0 = kE g ∧ FT g G ∧ (∀ s, s < 56 → G s ≤ F s) ∧ (∀ q, q < 56 → tN (A i) (B i) q ≠ q → G (tN (A i) (B i) q) ≤ F q + 1) ∧ (∀ s, s < 56 → G s = F s ∨ ∃ q, q < 56 ∧ tN (A i) (B i) q = s ∧ q ≠ s ∧ G s = F q + 1) := by
  obtain ⟨g, ⟨G, h1, h2, h3, h4⟩, h5⟩ := lup (L := fun m (s : Nat → Int32) j => f_X10_layTouches_L75 mt (nI i) f kE m (nI j) s) (kE := kE) 56 (fun j g => ∃ G, FT g G ∧ (∀ s, s < 56 → G s ≤ F s) ∧ (∀ q, q < j → tN (A i) (B i) q ≠ q → G (tN (A i) (B i) q) ≤ F q + 1) ∧ (∀ s, s < 56 → G s = F s ∨ ∃ q, q < 56 ∧ tN (A i) (B i) q = s ∧ q ≠ s ∧ G s = F q + 1))
    (fun m j g hj hs => by
      obtain ⟨G, h1, h2, h3, h4⟩ := hs
      obtain ⟨hA, hB, hne⟩ := hAB i hi
      have hto := tN_lt hA hB hj
      show ∃ g', _ ∧ f_X10_layTouches_L75 mt (nI i) f kE (m + 1) (nI j) g = f_X10_layTouches_L75 mt (nI i) f kE m (nI (j + 1)) g'
      rw [f_X10_layTouches_L75, if_neg (show ¬ (56 : Int32) ≤ nI j from nI_ge (b := 56) hj (by decide)), tat_ok hn hi hAB hm hj, bd_some, nI_1]
      generalize hT : tN (A i) (B i) j = to at hto
      by_cases e : to = j
      · rw [if_pos (by rw [e])]
        refine ⟨g, ⟨G, h1, h2, fun q hq hq2 => ?_, h4⟩, rfl⟩
        by_cases e2 : q = j
        · rw [e2, hT] at hq2; exact absurd e hq2
        · exact h3 q (by omega) hq2
      · rw [if_neg (fun c => e (nI_inj' (by omega) (by omega) c)), if_pos (ix_t hj (by decide)), if_pos (ix_t hto (by decide)), nI_clamp (by omega), nI_clamp (by omega), (h1 to hto).1, (hF j hj).1, p_1]
        have b1 := (h1 to hto).2
        have b2' := (hF j hj).2
        by_cases g2 : G to ≤ F j + 1
        · rw [if_pos (nI_le g2 (by omega))]
          refine ⟨g, ⟨G, h1, h2, fun q hq hq2 => ?_, h4⟩, rfl⟩
          by_cases e2 : q = j
          · rw [e2, hT]; exact g2
          · exact h3 q (by omega) hq2
        · rw [if_neg (nI_ge (by omega) (by omega))]
          have mono : ∀ x, updN G to (F j + 1) x ≤ G x := by
            intro x
            unfold updN
            by_cases e2 : x = to
            · rw [if_pos e2, e2]; omega
            · rw [if_neg e2]; exact Nat.le_refl _
          refine ⟨upd g to (nI (F j + 1)), ⟨updN G to (F j + 1), fun s hs => ?_, fun s hs => Nat.le_trans (mono s) (h2 s hs), fun q hq hq2 => ?_, fun s hs => ?_⟩, rfl⟩
          · unfold updN
            by_cases e2 : s = to
            · rw [e2, pk_us, if_pos rfl]; exact ⟨rfl, by omega⟩
            · rw [pk_un e2, if_neg e2]; exact h1 s hs
          · by_cases e2 : q = j
            · rw [e2, hT]
              unfold updN
              rw [if_pos rfl]
              exact Nat.le_refl _
            · exact Nat.le_trans (mono _) (h3 q (by omega) hq2)
          · unfold updN
            by_cases e2 : s = to
            · rw [if_pos e2]
              exact Or.inr ⟨j, hj, by rw [hT, e2], fun c => e (by rw [← e2, c]), rfl⟩
            · rw [if_neg e2]; exact h4 s hs)
    (fun m s hs => by
      show f_X10_layTouches_L75 mt (nI i) f kE (m + 1) (nI 56) s = _
      rw [f_X10_layTouches_L75, if_pos (by decide)]) 5000 0 g0 (by decide) (by decide) ⟨F, fun s hs => by rw [hg0 s hs]; exact hF s hs, fun s _ => Nat.le_refl _, fun q hq => absurd hq (Nat.not_lt_zero q), fun s _ => Or.inl rfl⟩
  exact ⟨g, G, h5, h1, h2, h3, h4⟩
theorem layT_ok {A B : Nat → Nat} {mt : Nat → Int32} {n k : Nat} (hn : n ≤ 8) (hk : k < 7) (hAB : ∀ i, i < n → A i < 7 ∧ B i < 7 ∧ A i ≠ B i) (hm : ∀ i, i < n → mt (2 * i) = nI (A i) ∧ mt (2 * i + 1) = nI (B i)) (f0 g0 : Nat → Int32) : ∃ f g F, f_X10_layTouches (nI n) mt f0 g0 (nI k) = some (f, g) ∧ FT f F ∧ SndT A B k n F ∧ CmpT A B k n F := by
  unfold f_X10_layTouches
  obtain ⟨f1, e1, e2⟩ := l2_ok hk (f_X10_layTouches_X2 (nI n) mt g0) f0
  rw [e1]
  unfold f_X10_layTouches_X2
  obtain ⟨⟨f, g⟩, ⟨F, h1, h2, h3⟩, h4⟩ := lup (L := fun m (s : (Nat → Int32) × (Nat → Int32)) i => f_X10_layTouches_L39 (nI n) mt f_X10_layTouches_X39 m (nI i) s.1 s.2) (kE := fun s => f_X10_layTouches_X39 s.1 s.2) n (fun i s => ∃ F, FT s.1 F ∧ SndT A B k i F ∧ CmpT A B k i F)
    (fun m i s hi hs => by
      obtain ⟨f, g⟩ := s
      obtain ⟨F, h1, h2, h3⟩ := hs
      dsimp only at h1
      show ∃ s' : (Nat → Int32) × (Nat → Int32), _ ∧ f_X10_layTouches_L39 (nI n) mt f_X10_layTouches_X39 (m + 1) (nI i) f g = f_X10_layTouches_L39 (nI n) mt f_X10_layTouches_X39 m (nI (i + 1)) s'.1 s'.2
      rw [f_X10_layTouches_L39, if_neg (nI_ge hi (by omega))]
      obtain ⟨g1, a1, a2⟩ := l49_ok f (f_X10_layTouches_X49 mt (nI i) f (f_X10_layTouches_L39 (nI n) mt f_X10_layTouches_X39 m)) g
      rw [a1]
      unfold f_X10_layTouches_X49
      obtain ⟨g2, G, b1, b2', b3, b4, b5⟩ := l75_ok hn hi hAB hm h1 (f_X10_layTouches_X75 (nI i) f (f_X10_layTouches_L39 (nI n) mt f_X10_layTouches_X39 m)) g1 a2
      rw [b1]
      unfold f_X10_layTouches_X75
      obtain ⟨g3, c1, c2⟩ := l136_ok g2 (f_X10_layTouches_X136 (nI i) (f_X10_layTouches_L39 (nI n) mt f_X10_layTouches_X39 m) g2) f
      rw [c1]
      unfold f_X10_layTouches_X136
      rw [nI_1]
      have st := t_step (A := A) (B := B) (k := k) (i := i) (fun C => (ply_lt (C := C) hk (fun i hi => ⟨(hAB i hi).1, (hAB i hi).2.1⟩) i (by omega)).1) h2 h3 b3 b4 b5
      exact ⟨(g3, g2), ⟨G, fun s hs => by show g3 s = _ ∧ _; rw [c2 s hs]; exact b2' s hs, st.1, st.2⟩, rfl⟩)
    (fun m s hs => by
      show f_X10_layTouches_L39 (nI n) mt f_X10_layTouches_X39 (m + 1) (nI n) s.1 s.2 = _
      rw [f_X10_layTouches_L39, if_pos (nI_le (Nat.le_refl _) (by omega))]) 5000 0 (f1, g0) (Nat.zero_le _) (by omega) ⟨fun s => if s = 8 * k + 7 then 0 else 1000000, fun s hs => ⟨e2 s hs, by dsimp only; split <;> omega⟩, fun s hs hlt => ⟨0, by decide, by
        dsimp only at hlt ⊢
        by_cases g : s = 8 * k + 7
        · rw [if_pos g, g]; rfl
        · rw [if_neg g] at hlt; omega⟩, fun C hC => by
        show (if 8 * k + 7 = 8 * k + 7 then 0 else 1000000) ≤ 0
        rw [if_pos rfl]
        exact Nat.le_refl _⟩
  exact ⟨f, g, F, h4, h1, h2, h3⟩
theorem ok_maybe : OK_maybe := by
  intro hm rd he cr kg la mi pl br rg sz fs sc nr ss fr tt mrd mhm th bk me mt si sg pz ps ms mp hR hQ mk mto f0 g0 p1
  obtain ⟨n, A, B, hn, rfl, rfl, hAB, hf, hmt⟩ := meet_c hR.2.2.2.2.2.2.2.2.1
  unfold f_X9_maybe f_X10_maybe
  rw [one_ok, mnum_ok, bd_some, bd_some]
  cases hN : isN 7 p1 with
  | false =>
    rw [if_f, if_f]
    exact ⟨_, _, rfl, rfl, rfl, hR, hQ⟩
  | true =>
    obtain ⟨k, hk, rfl⟩ := (isN_in (by decide)).mp hN
    obtain ⟨w, kg', to', e1, e2⟩ := kings_ok hn hk hAB hf mk mto
    obtain ⟨f, g, F, e3, e4, e5, e6⟩ := layT_ok hn hk hAB hmt f0 g0
    rw [if_t, if_t, e1, bd_some, e3, bd_some]
    obtain ⟨w2, h1, h2⟩ := lup (L := fun m (s : Int32) i => f_X10_maybe_L18 (f, g) (f_X10_maybe_X18 (f, g)) m s (nI i)) (kE := f_X10_maybe_X18 (f, g)) 56 (fun i s => ∀ j, j < 32 → (bt s j = true ↔ ∃ q, q < i ∧ F q < 1000000 ∧ q / 8 = j))
      (fun m i s hi hs => by
        have ed : nI i / (8 : Int32) = nI (i / 8) := pk_div (d := 8) (by omega) (by decide) (by decide)
        have hb := (e4 i hi).2
        show ∃ s', _ ∧ f_X10_maybe_L18 (f, g) (f_X10_maybe_X18 (f, g)) (m + 1) s (nI i) = f_X10_maybe_L18 (f, g) (f_X10_maybe_X18 (f, g)) m s' (nI (i + 1))
        rw [f_X10_maybe_L18, if_neg (show ¬ (56 : Int32) ≤ nI i from nI_ge (b := 56) hi (by decide)), if_pos (ix_t hi (by decide)), nI_clamp (by omega), ed, nI_1, or_0, show (f, g).1 i = nI (F i) from (e4 i hi).1]
        by_cases g1 : F i < 1000000
        · rw [if_neg (fun e => by have := (lit_le (a := 1000000) (by decide) (by omega)).mp e; omega)]
          refine ⟨s ||| bI (i / 8), fun j hj => ?_, rfl⟩
          rw [bt_on s (by omega) hj, Bool.or_eq_true, decide_eq_true_iff, hs j hj]
          constructor
          · rintro (⟨q, h3, h4⟩ | h3)
            · exact ⟨q, by omega, h4⟩
            · exact ⟨i, by omega, g1, h3.symm⟩
          · rintro ⟨q, h3, h4, h5⟩
            by_cases e : q = i
            · rw [e] at h5; exact Or.inr h5.symm
            · exact Or.inl ⟨q, by omega, h4, h5⟩
        · rw [if_pos ((lit_le (a := 1000000) (by decide) (by omega)).mpr (by omega))]
          refine ⟨s, fun j hj => ?_, rfl⟩
          rw [hs j hj]
          constructor
          · rintro ⟨q, h3, h4⟩
            exact ⟨q, by omega, h4⟩
          · rintro ⟨q, h3, h4, h5⟩
            by_cases e : q = i
            · rw [e] at h4; exact absurd h4 g1
            · exact ⟨q, by omega, h4, h5⟩)
      (fun m s hs => by
        show f_X10_maybe_L18 (f, g) (f_X10_maybe_X18 (f, g)) (m + 1) s (nI 56) = _
        rw [f_X10_maybe_L18, if_pos (by decide)]) 5000 0 0 (by decide) (by decide) (fun j hj => by
          rw [b_0]
          exact ⟨fun e => (by cases e), fun ⟨q, h, _⟩ => absurd h (Nat.not_lt_zero q)⟩)
    have hw : w = w2 := by
      refine b_ext (fun j hj => ?_)
      rw [Bool.eq_iff_iff, e2 j hj, h1 j hj]
      constructor
      · rintro ⟨C, c1, c2⟩
        obtain ⟨l1, l2⟩ := ply_lt (C := C) hk (fun i hi => ⟨(hAB i hi).1, (hAB i hi).2.1⟩) n (Nat.le_refl n)
        have := e6 C c1
        exact ⟨(ply A B k C n).1, l1, by omega, c2⟩
      · rintro ⟨q, q1, q2, q3⟩
        obtain ⟨C, c1, c2⟩ := e5 q q1 q2
        exact ⟨C, c1, by rw [c2]; exact q3⟩
    refine ⟨_, _, rfl, h2, ?_, hR, hQ⟩
    exact hw
theorem ok_touches : OK_touches := by
  intro hm rd he cr kg la mi pl br rg sz fs sc nr ss fr tt mrd mhm th bk me mt si sg pz ps ms mp hR hQ mk mto f0 g0 p1 p2
  obtain ⟨n, A, B, hn, rfl, rfl, hAB, hf, hmt⟩ := meet_c hR.2.2.2.2.2.2.2.2.1
  unfold f_X9_touches f_X10_touches
  rw [one_ok, mnum_ok, bd_some, bd_some]
  cases hN : isN 7 p1 with
  | false =>
    rw [if_f, if_f]
    exact ⟨_, _, rfl, rfl, rfl, hR, hQ⟩
  | true =>
    rw [if_t, if_t, one_ok, mnum_ok, bd_some, bd_some]
    cases hN2 : isN 7 p2 with
    | false =>
      rw [if_f, if_f]
      exact ⟨_, _, rfl, rfl, rfl, hR, hQ⟩
    | true =>
      obtain ⟨k, hk, rfl⟩ := (isN_in (by decide)).mp hN
      obtain ⟨e, he', rfl⟩ := (isN_in (by decide)).mp hN2
      obtain ⟨w, kg', to', e1, e2⟩ := few_t hn hk he' hAB hf mk mto
      obtain ⟨f, g, F, e3, e4, e5, e6⟩ := layT_ok hn hk hAB hmt f0 g0
      rw [if_t, if_t, e1, bd_some, e3, bd_some]
      obtain ⟨w2, ⟨v, v1, rfl, v2, v3⟩, h2⟩ := lup (L := fun m (s : Int32) i => f_X10_touches_L30 (nI e) (f, g) (f_X10_touches_X30 (f, g)) m s (nI (8 * e + i))) (kE := f_X10_touches_X30 (f, g)) 8 (fun i s => ∃ v : Nat, v ≤ 1000000 ∧ s = nI v ∧ (∀ r, r < i → v ≤ F (8 * e + r)) ∧ (v = 1000000 ∨ ∃ r, r < i ∧ v = F (8 * e + r)))
        (fun m i s hi hs => by
          obtain ⟨v, v1, rfl, v2, v3⟩ := hs
          have hb := (e4 (8 * e + i) (by omega)).2
          show ∃ s', _ ∧ f_X10_touches_L30 (nI e) (f, g) (f_X10_touches_X30 (f, g)) (m + 1) (nI v) (nI (8 * e + i)) = f_X10_touches_L30 (nI e) (f, g) (f_X10_touches_X30 (f, g)) m s' (nI (8 * e + (i + 1)))
          rw [f_X10_touches_L30, m_8, show nI (8 * e) + (8 : Int32) = nI (8 * e + 8) from nI_add _ 8, if_neg (nI_ge (show 8 * e + i < 8 * e + 8 by omega) (by omega)), if_pos (ix_t (by omega) (by decide)), nI_clamp (by omega), nI_1, show (f, g).1 (8 * e + i) = nI (F (8 * e + i)) from (e4 (8 * e + i) (by omega)).1]
          by_cases g1 : v ≤ F (8 * e + i)
          · rw [if_pos (nI_le g1 (by omega))]
            refine ⟨nI v, ⟨v, v1, rfl, fun r hr => ?_, ?_⟩, rfl⟩
            · by_cases q : r = i
              · rw [q]; exact g1
              · exact v2 r (by omega)
            · rcases v3 with h | ⟨r, h3, h4⟩
              · exact Or.inl h
              · exact Or.inr ⟨r, by omega, h4⟩
          · rw [if_neg (nI_ge (by omega) (by omega))]
            refine ⟨nI (F (8 * e + i)), ⟨F (8 * e + i), hb, rfl, fun r hr => ?_, Or.inr ⟨i, by omega, rfl⟩⟩, rfl⟩
            by_cases q : r = i
            · rw [q]; exact Nat.le_refl _
            · have := v2 r (by omega)
              omega)
        (fun m s hs => by
          show f_X10_touches_L30 (nI e) (f, g) (f_X10_touches_X30 (f, g)) (m + 1) s (nI (8 * e + 8)) = _
          rw [f_X10_touches_L30, m_8, show nI (8 * e) + (8 : Int32) = nI (8 * e + 8) from nI_add _ 8, if_pos (nI_le (Nat.le_refl _) (by omega))]) 5000 0 (1000000 : Int32) (by decide) (by decide) ⟨1000000, Nat.le_refl _, rfl, fun r hr => absurd hr (Nat.not_lt_zero r), Or.inl rfl⟩
      have h3 : f_X10_touches_L30 (nI e) (f, g) (f_X10_touches_X30 (f, g)) 5000 (1000000 : Int32) ((8 : Int32) * nI e) = f_X10_touches_X30 (f, g) (nI v) := by
        rw [m_8]
        exact h2
      rw [h3]
      unfold f_X10_touches_X30
      dsimp only
      have toC : ∀ r, r < 8 → F (8 * e + r) < 1000000 → ∃ C, C < 2 ^ n ∧ (ply A B k C n).1 / 8 = e ∧ (ply A B k C n).2 = F (8 * e + r) := by
        intro r hr h
        obtain ⟨C, c1, c2⟩ := e5 (8 * e + r) (by omega) h
        refine ⟨C, c1, ?_, ?_⟩
        · rw [c2]
          show (8 * e + r) / 8 = e
          omega
        · rw [c2]
      by_cases g1 : v < 1000000
      · rw [if_pos ((lt_lit (a := 1000000) (by decide) (by omega)).mpr g1)]
        refine ⟨_, _, rfl, rfl, ?_, hR, hQ⟩
        show w = nI v
        obtain ⟨r, hr, hv⟩ := v3.resolve_left (by omega)
        obtain ⟨C, c1, c2, c3⟩ := toC r hr (by omega)
        rcases e2 with ⟨_, h4⟩ | ⟨u, hu, e7, ⟨D, d1, d2, d3⟩, h4⟩
        · exact absurd c2 (h4 C c1)
        · have h5 := h4 C c1 c2
          have h6 := e6 D d1
          have h7 := v2 ((ply A B k D n).1 - 8 * e) (by omega)
          rw [show 8 * e + ((ply A B k D n).1 - 8 * e) = (ply A B k D n).1 by omega] at h7
          rw [e7]
          congr 1
          omega
      · rw [if_neg (fun q => g1 ((lt_lit (a := 1000000) (by decide) (by omega)).mp q))]
        refine ⟨_, _, rfl, rfl, ?_, hR, hQ⟩
        show w = -6
        rcases e2 with ⟨h4, _⟩ | ⟨u, hu, e7, ⟨D, d1, d2, d3⟩, h4⟩
        · exact h4
        · have h6 := e6 D d1
          have h7 := v2 ((ply A B k D n).1 - 8 * e) (by omega)
          rw [show 8 * e + ((ply A B k D n).1 - 8 * e) = (ply A B k D n).1 by omega] at h7
          omega
