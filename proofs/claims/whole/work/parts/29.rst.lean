theorem cpy_step0 (f g : Nat → Int32) (sp i : Nat) : upd (va_cpy f g sp 0 i) i (f (sp + i)) = va_cpy f g sp 0 (i + 1) := by
  have := cpy_step f g sp 0 i
  rw [Nat.zero_add] at this
  exact this
theorem cpy_in0 (f g : Nat → Int32) {sp n q : Nat} (h : q < n) : va_cpy f g sp 0 n q = f (sp + q) := by
  have := cpy_in f g (sp := sp) (off := 0) (n := n) h
  rw [Nat.zero_add] at this
  exact this
theorem mrestore_ok (hm th me si : Int32) (rd bk mt sg im ke : Nat → Int32) {n : Nat} (hn : n < 2) (hk : ke n = 1) : f_X10_restore hm th me si rd bk mt sg im ke (nI n) = some (1, im (90 * n + 80), im (90 * n + 81), im (90 * n + 82), im (90 * n + 83), va_cpy im rd (90 * n + 25) 0 12, va_cpy im bk (90 * n) 0 25, va_cpy im mt (90 * n + 37) 0 16, va_cpy im sg (90 * n + 53) 0 24) := by
  have e0 : (0 : Int32).toInt = 0 := rfl
  have e1 : (1 : Int32).toInt = 1 := rfl
  have en : (nI n).toInt = n := nI_toInt (by omega)
  unfold f_X10_restore
  rw [in_ok, bd_some, decide_eq_true (by omega), if_t, m_90, if_pos (ix_t hn (by decide)), nI_clamp (by omega), hk, if_1]
  obtain ⟨g25, i25, l25⟩ := lup (L := fun f (g : Nat → Int32) i => f_X10_restore_L31 im (f_X10_restore_X31 rd mt sg im) f (nI (90 * n)) (nI i) g) (kE := fun g => f_X10_restore_X31 rd mt sg im (nI (90 * n)) g) 25 (fun i g => g = va_cpy im bk (90 * n) 0 i)
    (fun f i g hi hg => ⟨_, rfl, by
      show f_X10_restore_L31 _ _ (f + 1) _ (nI i) g = _
      rw [f_X10_restore_L31, if_neg (show ¬ (25 : Int32) ≤ nI i from nI_ge hi (by decide)), nI_add, if_pos (ix_t (by omega) (by decide)), if_pos (ix_t hi (by decide)), nI_clamp (by omega), nI_clamp (by omega), nI_1, hg, ← cpy_step0 im bk (90 * n) i]⟩)
    (fun f g hg => by
      show f_X10_restore_L31 _ _ (f + 1) _ (nI 25) g = _
      rw [f_X10_restore_L31, if_pos (by decide)]) 5000 0 bk (by decide) (by decide) (cpy_0 _ _ _ _).symm
  refine Eq.trans l25 ?_
  subst i25
  unfold f_X10_restore_X31
  obtain ⟨g12, i12, l12⟩ := lup (L := fun f (g : Nat → Int32) i => f_X10_restore_L59 im (nI (90 * n)) (f_X10_restore_X59 mt sg im (nI (90 * n)) (va_cpy im bk (90 * n) 0 25)) f (nI i) g) (kE := fun g => f_X10_restore_X59 mt sg im (nI (90 * n)) (va_cpy im bk (90 * n) 0 25) g) 12 (fun i g => g = va_cpy im rd (90 * n + 25) 0 i)
    (fun f i g hi hg => ⟨_, rfl, by
      show f_X10_restore_L59 _ _ _ (f + 1) (nI i) g = _
      rw [f_X10_restore_L59, if_neg (show ¬ (12 : Int32) ≤ nI i from nI_ge hi (by decide)), p_25, nI_add, if_pos (ix_t (by omega) (by decide)), if_pos (ix_t hi (by decide)), nI_clamp (by omega), nI_clamp (by omega), nI_1, hg, ← cpy_step0 im rd (90 * n + 25) i]⟩)
    (fun f g hg => by
      show f_X10_restore_L59 _ _ _ (f + 1) (nI 12) g = _
      rw [f_X10_restore_L59, if_pos (by decide)]) 5000 0 rd (by decide) (by decide) (cpy_0 _ _ _ _).symm
  refine Eq.trans l12 ?_
  subst i12
  unfold f_X10_restore_X59
  obtain ⟨g16, i16, l16⟩ := lup (L := fun f (g : Nat → Int32) i => f_X10_restore_L90 im (nI (90 * n)) (f_X10_restore_X90 sg im (nI (90 * n)) (va_cpy im bk (90 * n) 0 25) (va_cpy im rd (90 * n + 25) 0 12)) f (nI i) g) (kE := fun g => f_X10_restore_X90 sg im (nI (90 * n)) (va_cpy im bk (90 * n) 0 25) (va_cpy im rd (90 * n + 25) 0 12) g) 16 (fun i g => g = va_cpy im mt (90 * n + 37) 0 i)
    (fun f i g hi hg => ⟨_, rfl, by
      show f_X10_restore_L90 _ _ _ (f + 1) (nI i) g = _
      rw [f_X10_restore_L90, if_neg (show ¬ (16 : Int32) ≤ nI i from nI_ge hi (by decide)), p_37, nI_add, if_pos (ix_t (by omega) (by decide)), if_pos (ix_t hi (by decide)), nI_clamp (by omega), nI_clamp (by omega), nI_1, hg, ← cpy_step0 im mt (90 * n + 37) i]⟩)
    (fun f g hg => by
      show f_X10_restore_L90 _ _ _ (f + 1) (nI 16) g = _
      rw [f_X10_restore_L90, if_pos (by decide)]) 5000 0 mt (by decide) (by decide) (cpy_0 _ _ _ _).symm
  refine Eq.trans l16 ?_
  subst i16
  unfold f_X10_restore_X90
  obtain ⟨g24, i24, l24⟩ := lup (L := fun f (g : Nat → Int32) i => f_X10_restore_L121 im (nI (90 * n)) (f_X10_restore_X121 im (nI (90 * n)) (va_cpy im bk (90 * n) 0 25) (va_cpy im rd (90 * n + 25) 0 12) (va_cpy im mt (90 * n + 37) 0 16)) f (nI i) g) (kE := fun g => f_X10_restore_X121 im (nI (90 * n)) (va_cpy im bk (90 * n) 0 25) (va_cpy im rd (90 * n + 25) 0 12) (va_cpy im mt (90 * n + 37) 0 16) g) 24 (fun i g => g = va_cpy im sg (90 * n + 53) 0 i)
    (fun f i g hi hg => ⟨_, rfl, by
      show f_X10_restore_L121 _ _ _ (f + 1) (nI i) g = _
      rw [f_X10_restore_L121, if_neg (show ¬ (24 : Int32) ≤ nI i from nI_ge hi (by decide)), p_53, nI_add, if_pos (ix_t (by omega) (by decide)), if_pos (ix_t hi (by decide)), nI_clamp (by omega), nI_clamp (by omega), nI_1, hg, ← cpy_step0 im sg (90 * n + 53) i]⟩)
    (fun f g hg => by
      show f_X10_restore_L121 _ _ _ (f + 1) (nI 24) g = _
      rw [f_X10_restore_L121, if_pos (by decide)]) 5000 0 sg (by decide) (by decide) (cpy_0 _ _ _ _).symm
  refine Eq.trans l24 ?_
  subst i24
  unfold f_X10_restore_X121
  simp only [p_80, p_81, p_82, p_83]
  rw [if_pos (ix_t (by omega) (by decide)), if_pos (ix_t (by omega) (by decide)), if_pos (ix_t (by omega) (by decide)), if_pos (ix_t (by omega) (by decide)), nI_clamp (by omega), nI_clamp (by omega), nI_clamp (by omega), nI_clamp (by omega)]
theorem ok_restore : OK_restore := by
  intro hm rd he cr kg la mi pl br rg sz fs sc nr ss fr tt mrd mhm th bk me mt si sg hR im ke p1
  refine ⟨fun hb => ?_, fun h0 h1 hI => ?_, fun h0 h1 r hI => ?_⟩
  · have e : f_X10_restore mhm th me si mrd bk mt sg im ke p1 = some (-2, mhm, th, me, si, mrd, bk, mt, sg) := by
      unfold f_X10_restore
      rw [bad2 hb, bd_some, if_f]
    exact ⟨_, e, rfl, hR⟩
  · obtain ⟨n, hn, rfl⟩ := nI_lt2 h0 h1
    rw [nI_clamp (by omega)] at hI
    have hk : ke n = 0 := hI
    have e : f_X10_restore mhm th me si mrd bk mt sg im ke (nI n) = some (-3, mhm, th, me, si, mrd, bk, mt, sg) := by
      have e0 : (0 : Int32).toInt = 0 := rfl
      have e1 : (1 : Int32).toInt = 1 := rfl
      have en : (nI n).toInt = n := nI_toInt (by omega)
      unfold f_X10_restore
      rw [in_ok, bd_some, decide_eq_true (by omega), if_t, if_pos (ix_t hn (by decide)), nI_clamp (by omega), hk, if_0]
    exact ⟨_, e, rfl, hR⟩
  · obtain ⟨n, hn, rfl⟩ := nI_lt2 h0 h1
    rw [nI_clamp (by omega)] at hI
    obtain ⟨k1, k2⟩ := hI
    intros
    refine ⟨_, _, rfl, mrestore_ok mhm th me si mrd bk mt sg im ke hn k1, rfl, ?_⟩
    exact RelR_cong k2 (fun p hp => cp12 _ _ 12 rfl hp) (fun k hk => ⟨cp12 _ _ 7 rfl hk, cp12 _ _ 7 rfl hk, cp12 _ _ 7 rfl hk⟩) (fun k hk => ⟨cp12 _ _ 8 rfl hk, cp12 _ _ 8 rfl hk⟩) (fun k hk => ⟨cp12 _ _ 8 rfl hk, cp12 _ _ 8 rfl hk⟩) (fun p hp => cpy_in0 _ _ hp) (fun p hp => cpy_in0 _ _ hp) (fun p hp => cpy_in0 _ _ hp) (fun p hp => cpy_in0 _ _ hp)
