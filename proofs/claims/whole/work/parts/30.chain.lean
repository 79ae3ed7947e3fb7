/-! a rising chain of sets below N stands still by step N - c -/
theorem ch_mono {N : Nat} {S : Nat → Nat → Bool} (mono : ∀ k b, b < N → S k b = true → S (k + 1) b = true) (b : Nat) (hb : b < N) (j : Nat) : ∀ d, S j b = true → S (j + d) b = true := by
  intro d
  induction d with
  | zero => exact fun h => h
  | succ d ih => exact fun h => mono (j + d) b hb (ih h)
theorem ch_stab {N : Nat} {S : Nat → Nat → Bool} (stab : ∀ k, (∀ b, b < N → S (k + 1) b = S k b) → ∀ b, b < N → S (k + 2) b = S (k + 1) b) {j : Nat} (h : ∀ b, b < N → S (j + 1) b = S j b) : ∀ d, (∀ b, b < N → S (j + d + 1) b = S (j + d) b) ∧ ∀ b, b < N → S (j + d) b = S j b := by
  intro d
  induction d with
  | zero => exact ⟨h, fun _ _ => rfl⟩
  | succ d ih => exact ⟨stab (j + d) ih.1, fun b hb => (ih.1 b hb).trans (ih.2 b hb)⟩
theorem chain {N c : Nat} {S : Nat → Nat → Bool} (mono : ∀ k b, b < N → S k b = true → S (k + 1) b = true) (stab : ∀ k, (∀ b, b < N → S (k + 1) b = S k b) → ∀ b, b < N → S (k + 2) b = S (k + 1) b) (h0 : c ≤ fb_ct (S 0) N) (hc : c ≤ N) : ∀ n b, b < N → S n b = true → S (N - c) b = true := by
  have key : ∀ k, (∃ j, j ≤ k ∧ ∀ b, b < N → S (j + 1) b = S j b) ∨ c + k ≤ fb_ct (S k) N := by
    intro k
    induction k with
    | zero => exact Or.inr h0
    | succ k ih =>
      rcases ih with ⟨j, h1, h2⟩ | ih
      · exact Or.inl ⟨j, by omega, h2⟩
      · by_cases hs : ∀ b, b < N → S (k + 1) b = S k b
        · exact Or.inl ⟨k, by omega, hs⟩
        · right
          obtain ⟨b, hb, hne⟩ : ∃ b, b < N ∧ S (k + 1) b ≠ S k b := Classical.byContradiction (fun g => hs (fun b hb => Classical.byContradiction (fun g2 => g ⟨b, hb, g2⟩)))
          have hk : S k b = false := by
            cases g : S k b
            · rfl
            · exact absurd ((mono k b hb g).trans g.symm) hne
          have hk1 : S (k + 1) b = true := by
            cases g : S (k + 1) b
            · exact absurd (g.trans hk.symm) hne
            · rfl
          have e1 := fb_ct_upd (S k) true (i := b) (n := N) hb
          rw [hk, if_neg (by decide), if_pos rfl] at e1
          have e2 : fb_ct (fun q => if q = b then true else S k q) N ≤ fb_ct (S (k + 1)) N := fb_ct_sub (fun q hq hq2 => by
            by_cases g : q = b
            · rw [g]; exact hk1
            · rw [if_neg g] at hq2; exact mono k q hq hq2)
          omega
  intro n b hb hn
  rcases key (N - c) with ⟨j, h1, h2⟩ | h
  · have hj : S j b = true := by
      rcases Nat.lt_or_ge n j with g | g
      · have := ch_mono mono b hb n (j - n) hn
        rw [show n + (j - n) = j by omega] at this
        exact this
      · have := (ch_stab stab h2 (n - j)).2 b hb
        rw [show j + (n - j) = n by omega] at this
        rw [← this]; exact hn
    have := ch_mono mono b hb j (N - c - j) hj
    rw [show j + (N - c - j) = N - c by omega] at this
    exact this
  · have h3 : fb_ct (S (N - c)) N = N := Nat.le_antisymm (fb_ct_le _ _) (by omega)
    exact fb_ct_all.mp h3 b hb
/-! widening -/
theorem wide_ex (rd : Nat → Int32) (s : Int32) : ∃ w, f_X2_widened rd s = some w ∧ ∀ j, bt w j = true ↔ (bt s j = true ∨ ∃ p, p < 12 ∧ bt s p = true ∧ bt (rd p) j = true) := by
  obtain ⟨w, h1, h2⟩ := lup (L := fun n (a : Int32) i => f_X2_widened_L4 rd s f_X2_widened_X4 n a (nI i)) (kE := f_X2_widened_X4) 12 (fun i a => ∀ j, bt a j = true ↔ (bt s j = true ∨ ∃ p, p < i ∧ bt s p = true ∧ bt (rd p) j = true))
    (fun n i a hi ha => by
      show ∃ s', _ ∧ f_X2_widened_L4 rd s f_X2_widened_X4 (n + 1) a (nI i) = f_X2_widened_L4 rd s f_X2_widened_X4 n s' (nI (i + 1))
      rw [f_X2_widened_L4, if_neg (show ¬ (12 : Int32) ≤ nI i from nI_ge hi (by decide)), holds_ok s (by omega), bd_some]
      cases g : bt s i with
      | false =>
        refine ⟨a, fun j => ?_, by rw [if_f, nI_1]⟩
        rw [ha j]
        constructor
        · rintro (h | ⟨p, h1, h2, h3⟩)
          · exact Or.inl h
          · exact Or.inr ⟨p, by omega, h2, h3⟩
        · rintro (h | ⟨p, h1, h2, h3⟩)
          · exact Or.inl h
          · by_cases e : p = i
            · rw [e, g] at h2; cases h2
            · exact Or.inr ⟨p, by omega, h2, h3⟩
      | true =>
        refine ⟨a ||| rd i, fun j => ?_, by rw [if_t, if_pos (ix_t hi (by decide)), nI_clamp (by omega), nI_1]⟩
        rw [b_or, Bool.or_eq_true, ha j]
        constructor
        · rintro ((h | ⟨p, h1, h2, h3⟩) | h)
          · exact Or.inl h
          · exact Or.inr ⟨p, by omega, h2, h3⟩
          · exact Or.inr ⟨i, by omega, g, h⟩
        · rintro (h | ⟨p, h1, h2, h3⟩)
          · exact Or.inl (Or.inl h)
          · by_cases e : p = i
            · rw [e] at h3; exact Or.inr h3
            · exact Or.inl (Or.inr ⟨p, by omega, h2, h3⟩))
    (fun n a ha => by
      show f_X2_widened_L4 rd s f_X2_widened_X4 (n + 1) a (nI 12) = _
      rw [f_X2_widened_L4, if_pos (by decide)]) 5000 0 s (by decide) (by decide) (fun j => ⟨fun h => Or.inl h, fun h => h.elim (fun h => h) (fun ⟨p, h, _⟩ => absurd h (Nat.not_lt_zero p))⟩)
  exact ⟨w, h2, h1⟩
def wd (rd : Nat → Int32) (s : Int32) : Int32 := (f_X2_widened rd s).getD 0
theorem wd_ok (rd : Nat → Int32) (s : Int32) : f_X2_widened rd s = some (wd rd s) := by
  obtain ⟨w, h, _⟩ := wide_ex rd s
  unfold wd
  rw [h]
  rfl
theorem wd_bt (rd : Nat → Int32) (s : Int32) (j : Nat) : bt (wd rd s) j = true ↔ (bt s j = true ∨ ∃ p, p < 12 ∧ bt s p = true ∧ bt (rd p) j = true) := by
  obtain ⟨w, h1, h2⟩ := wide_ex rd s
  unfold wd
  rw [h1]
  exact h2 j
def rcs (rd : Nat → Int32) (a : Nat) : Nat → Int32
  | 0 => bI a
  | k + 1 => wd rd (rcs rd a k)
def Rk (rd : Nat → Int32) (a k b : Nat) : Prop := bt (rcs rd a k) b = true
theorem Rk_0 {rd : Nat → Int32} {a b : Nat} (ha : a < 32) (hb : b < 32) : Rk rd a 0 b ↔ b = a := by
  unfold Rk rcs
  rw [bt_bI ha hb, decide_eq_true_iff]
theorem Rk_s {rd : Nat → Int32} {a k b : Nat} : Rk rd a (k + 1) b ↔ (Rk rd a k b ∨ ∃ p, p < 12 ∧ Rk rd a k p ∧ bt (rd p) b = true) := by
  unfold Rk
  rw [rcs]
  exact wd_bt rd _ b
theorem Rk_up {rd : Nat → Int32} {a b : Nat} {k : Nat} (d : Nat) (h : Rk rd a k b) : Rk rd a (k + d) b := by
  induction d with
  | zero => exact h
  | succ d ih => exact Rk_s.mpr (Or.inl ih)
theorem Rk_lt {rd : Nat → Int32} (hl : ∀ p, p < 12 → inR (rd p) 4096) {a b : Nat} (ha : a < 12) : ∀ k, Rk rd a k b → b < 12 := by
  intro k
  induction k with
  | zero =>
    intro h
    by_cases g : b < 32
    · have := (Rk_0 (by omega) g).mp h
      omega
    · unfold Rk at h
      rw [b_big (by omega)] at h
      cases h
  | succ k ih =>
    intro h
    rcases Rk_s.mp h with h | ⟨p, hp, _, h⟩
    · exact ih h
    · rcases Nat.lt_or_ge b 12 with g | g
      · exact g
      · rw [inR_hi (m := 12) (hl p hp) g] at h
        cases h
theorem Rk_cat {rd : Nat → Int32} {a r : Nat} {m : Nat} (h : Rk rd a m r) (hr : r < 32) : ∀ n q, q < 32 → Rk rd r n q → Rk rd a (m + n) q := by
  intro n
  induction n with
  | zero =>
    intro q hq h2
    rw [(Rk_0 hr hq).mp h2]
    exact h
  | succ n ih =>
    intro q hq h2
    rcases Rk_s.mp h2 with h3 | ⟨p, hp, h3, h4⟩
    · exact Rk_s.mpr (Or.inl (ih q hq h3))
    · exact Rk_s.mpr (Or.inr ⟨p, hp, ih p (by omega) h3, h4⟩)
theorem Rk_one {rd : Nat → Int32} {a b : Nat} (ha : a < 12) (h : bt (rd a) b = true) : Rk rd a 1 b := Rk_s.mpr (Or.inr ⟨a, ha, (Rk_0 (by omega) (by omega)).mpr rfl, h⟩)
theorem Rk_sym {rd : Nat → Int32} (hl : LandOK rd) {a b : Nat} (ha : a < 12) (hb : b < 12) : ∀ k, Rk rd a k b → Rk rd b k a := by
  intro k
  induction k generalizing b with
  | zero => intro h; exact (Rk_0 (by omega) (by omega)).mpr ((Rk_0 (by omega) (by omega)).mp h).symm
  | succ k ih =>
    intro h
    rcases Rk_s.mp h with h | ⟨p, hp, h1, h2⟩
    · exact Rk_s.mpr (Or.inl (ih hb h))
    · rw [hl.2.1 p b hp hb] at h2
      have h3 := Rk_cat (Rk_one hb h2) (by omega) k a (by omega) (ih hp h1)
      rw [Nat.add_comm] at h3
      exact h3
theorem Rk_11 {rd : Nat → Int32} {a b : Nat} (ha : a < 12) (hb : b < 12) {n : Nat} (h : Rk rd a n b) : Rk rd a 11 b := by
  refine chain (N := 12) (c := 1) (S := fun k q => bt (rcs rd a k) q) (fun k q _ h => ?_) (fun k hk q hq => ?_) ?_ (by decide) n b hb h
  · exact Rk_s.mpr (Or.inl h)
  · have e1 := @Rk_s rd a (k + 1) q
    have e2 := @Rk_s rd a k q
    have e3 : ∀ p, p < 12 → (Rk rd a (k + 1) p ↔ Rk rd a k p) := fun p hp => by unfold Rk; rw [show bt (rcs rd a (k + 1)) p = bt (rcs rd a k) p from hk p hp]
    have : Rk rd a (k + 2) q ↔ Rk rd a (k + 1) q := by
      rw [e1]
      constructor
      · rintro (h | ⟨p, hp, h1, h2⟩)
        · exact h
        · exact e2.mpr (Or.inr ⟨p, hp, (e3 p hp).mp h1, h2⟩)
      · exact fun h => Or.inl h
    unfold Rk at this
    show bt (rcs rd a (k + 2)) q = bt (rcs rd a (k + 1)) q
    cases g1 : bt (rcs rd a (k + 2)) q <;> cases g2 : bt (rcs rd a (k + 1)) q <;> simp_all
  · exact fb_ct_pos.mpr ⟨a, ha, (Rk_0 (rd := rd) (by omega) (by omega)).mpr rfl⟩
