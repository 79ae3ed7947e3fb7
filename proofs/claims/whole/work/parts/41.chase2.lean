/-- a row of sets holds C -/
def Row (c : Nat → Int32) (C : Nat → Nat → Bool) : Prop := ∀ k o, k < 12 → o < 32 → (bt (c k) o = true ↔ o < 12 ∧ C k o = true)
theorem mvB_lt {rd : Nat → Int32} (hl : ∀ p, p < 12 → inR (rd p) 4096) {a b : Nat} (ha : a < 12) (h : mvB rd a b = true) : b < 12 := by
  unfold mvB at h
  rw [Bool.or_eq_true, decide_eq_true_iff] at h
  rcases h with h | h
  · omega
  · rcases Nat.lt_or_ge b 12 with g | g
    · exact g
    · rw [inR_hi (m := 12) (hl a ha) g] at h; cases h
theorem mvB_self (rd : Nat → Int32) (a : Nat) : mvB rd a a = true := by
  unfold mvB
  rw [decide_eq_true rfl]; rfl
theorem begin_row (hm : Int32) (c0 : Nat → Int32) : ∃ c, f_X0_begin c0 hm = some c ∧ Row c (tch hm) := by
  obtain ⟨c, h1, h2⟩ := begin_ok hm c0
  refine ⟨c, h1, fun k o hk ho => ?_⟩
  rw [h2 k o hk ho]
  constructor
  · intro h
    refine ⟨?_, h⟩
    unfold tch at h
    have := of_decide_eq_true (Bool.and_eq_true_iff.mp h).1
    omega
  · exact fun h => h.2
theorem trapped_ok {hm : Int32} {rd c : Nat → Int32} {C : Nat → Nat → Bool} (hl : ∀ p, p < 12 → inR (rd p) 4096) (hc : Row c C) {k : Nat} (hk : k < 12) : ∃ w, f_X0_trappedBy c hm rd (nI k) = some w ∧ ∀ o, o < 32 → (bt w o = true ↔ o < 12 ∧ trpF hm rd C k o = true) := by
  unfold f_X0_trappedBy
  obtain ⟨w0', k1, k2⟩ := tchat_ok hm hk
  rw [k1, bd_some, cby_ok c hk, bd_some]
  have sub : ∀ o, o < 12 → (((rd o ||| bI o) &&& (c k ^^^ (-1))) = 0 ↔ ∀ q, q < 12 → mvB rd o q = true → C k q = true) := by
    intro o ho
    rw [and_0]
    constructor
    · intro h q hq hmv
      have h1 := h q (by omega)
      rw [moves_bt rd ho (by omega), bt_x _ (by omega)] at h1
      have h2 : bt (c k) q = true := Classical.byContradiction (fun g => h1 ⟨hmv, g⟩)
      exact ((hc k q hk (by omega)).mp h2).2
    · rintro h j hj ⟨h1, h2⟩
      rw [moves_bt rd ho hj] at h1
      rw [bt_x _ hj] at h2
      have hj2 := mvB_lt hl ho h1
      exact h2 ((hc k j hk hj).mpr ⟨hj2, h j hj2 h1⟩)
  obtain ⟨w, h1, h2⟩ := lup (L := fun f (s : Int32) i => f_X0_trappedBy_L16 rd (c k) f_X0_trappedBy_X16 f s (nI i)) (kE := f_X0_trappedBy_X16) 12 (fun i s => ∀ o, o < 32 → (bt s o = true ↔ (tch hm k o = true ∨ (o < i ∧ ∀ q, q < 12 → mvB rd o q = true → C k q = true))))
    (fun f i s hi hs => by
      show ∃ s', _ ∧ f_X0_trappedBy_L16 rd (c k) f_X0_trappedBy_X16 (f + 1) s (nI i) = f_X0_trappedBy_L16 rd (c k) f_X0_trappedBy_X16 f s' (nI (i + 1))
      rw [f_X0_trappedBy_L16, if_neg (show ¬ (12 : Int32) ≤ nI i from nI_ge hi (by decide)), moves_ok rd hi, bd_some, nI_1]
      by_cases g : ((rd i ||| bI i) &&& (c k ^^^ (-1))) = 0
      · rw [if_pos g]
        refine ⟨s ||| bI i, fun o ho => ?_, rfl⟩
        rw [bt_on s (by omega) ho, Bool.or_eq_true, decide_eq_true_iff, hs o ho]
        constructor
        · rintro ((h | ⟨h1, h2⟩) | h)
          · exact Or.inl h
          · exact Or.inr ⟨by omega, h2⟩
          · rw [h]; exact Or.inr ⟨by omega, (sub i hi).mp g⟩
        · rintro (h | ⟨h1, h2⟩)
          · exact Or.inl (Or.inl h)
          · by_cases e : o = i
            · exact Or.inr e
            · exact Or.inl (Or.inr ⟨by omega, h2⟩)
      · rw [if_neg g]
        refine ⟨s, fun o ho => ?_, rfl⟩
        rw [hs o ho]
        constructor
        · rintro (h | ⟨h1, h2⟩)
          · exact Or.inl h
          · exact Or.inr ⟨by omega, h2⟩
        · rintro (h | ⟨h1, h2⟩)
          · exact Or.inl h
          · by_cases e : o = i
            · rw [e] at h2; exact absurd ((sub i hi).mpr h2) g
            · exact Or.inr ⟨by omega, h2⟩)
    (fun f s hs => by
      show f_X0_trappedBy_L16 rd (c k) f_X0_trappedBy_X16 (f + 1) s (nI 12) = _
      rw [f_X0_trappedBy_L16, if_pos (by decide)]) 5000 0 w0' (by decide) (by decide) (fun o ho => by
        rw [k2 o ho]
        exact ⟨fun h => Or.inl h, fun h => h.elim (fun h => h) (fun h => absurd h.1 (Nat.not_lt_zero o))⟩)
  refine ⟨w, h2, fun o ho => ?_⟩
  rw [h1 o ho, trp_iff]
  constructor
  · rintro (h | ⟨h3, h4⟩)
    · refine ⟨?_, Or.inl h⟩
      unfold tch at h
      have := of_decide_eq_true (Bool.and_eq_true_iff.mp h).1
      omega
    · exact ⟨h3, Or.inr h4⟩
  · rintro ⟨h3, h | h⟩
    · exact Or.inl h
    · exact Or.inr ⟨h3, h⟩
theorem anyt_ok {t : Nat → Int32} {P : Nat → Nat → Bool} (ht : Row t P) (s : Int32) : ∃ w, f_X0_trappedByAny t s = some w ∧ ∀ o, o < 32 → (bt w o = true ↔ o < 12 ∧ ∃ p, p < 12 ∧ bt s p = true ∧ P p o = true) := by
  unfold f_X0_trappedByAny
  obtain ⟨w, h1, h2⟩ := lup (L := fun f (a : Int32) i => f_X0_trappedByAny_L4 t s f_X0_trappedByAny_X4 f a (nI i)) (kE := f_X0_trappedByAny_X4) 12 (fun i a => ∀ o, o < 32 → (bt a o = true ↔ o < 12 ∧ ∃ p, p < i ∧ bt s p = true ∧ P p o = true))
    (fun f i a hi ha => by
      show ∃ s', _ ∧ f_X0_trappedByAny_L4 t s f_X0_trappedByAny_X4 (f + 1) a (nI i) = f_X0_trappedByAny_L4 t s f_X0_trappedByAny_X4 f s' (nI (i + 1))
      rw [f_X0_trappedByAny_L4, if_neg (show ¬ (12 : Int32) ≤ nI i from nI_ge hi (by decide)), holds_ok s (by omega), bd_some, nI_1]
      cases g : bt s i with
      | false =>
        rw [if_f]
        refine ⟨a, fun o ho => ?_, rfl⟩
        rw [ha o ho]
        constructor
        · rintro ⟨h0, p, h1, h2⟩; exact ⟨h0, p, by omega, h2⟩
        · rintro ⟨h0, p, h1, h2, h3⟩
          by_cases e : p = i
          · rw [e, g] at h2; cases h2
          · exact ⟨h0, p, by omega, h2, h3⟩
      | true =>
        rw [if_t, if_pos (ix_t hi (by decide)), nI_clamp (by omega)]
        refine ⟨a ||| t i, fun o ho => ?_, rfl⟩
        rw [b_or, Bool.or_eq_true, ha o ho, ht i o hi ho]
        constructor
        · rintro (⟨h0, p, h1, h2⟩ | ⟨h0, h1⟩)
          · exact ⟨h0, p, by omega, h2⟩
          · exact ⟨h0, i, by omega, g, h1⟩
        · rintro ⟨h0, p, h1, h2, h3⟩
          by_cases e : p = i
          · rw [e] at h3; exact Or.inr ⟨h0, h3⟩
          · exact Or.inl ⟨h0, p, by omega, h2, h3⟩)
    (fun f a ha => by
      show f_X0_trappedByAny_L4 t s f_X0_trappedByAny_X4 (f + 1) a (nI 12) = _
      rw [f_X0_trappedByAny_L4, if_pos (by decide)]) 5000 0 0 (by decide) (by decide) (fun o ho => by
        rw [b_0]
        exact ⟨fun h => (by cases h), fun ⟨_, p, h1, _⟩ => absurd h1 (Nat.not_lt_zero p)⟩)
  exact ⟨w, h2, h1⟩
