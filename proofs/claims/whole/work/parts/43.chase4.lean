/-- the fewest rounds; 145: never -/
def vN (hm : Int32) (rd : Nat → Int32) (k o : Nat) : Nat := fa_first (fun n => ctc hm rd n k o) 145
theorem vN_le (hm : Int32) (rd : Nat → Int32) (k o : Nat) : vN hm rd k o ≤ 145 := fa_first_le _ _
theorem vN_iff {hm : Int32} {rd : Nat → Int32} {k o n : Nat} (hn : n ≤ 144) : ctc hm rd n k o = true ↔ vN hm rd k o ≤ n := by
  constructor
  · intro h
    rcases Nat.lt_or_ge n (vN hm rd k o) with g | g
    · have := fa_first_no (fun n => ctc hm rd n k o) 145 n g
      rw [h] at this
      cases this
    · exact g
  · intro h
    have h1 := fa_first_yes (fun n => ctc hm rd n k o) 145 (by unfold vN at h; omega)
    have h2 := ctc_up (n - vN hm rd k o) h1
    rw [show fa_first (fun n => ctc hm rd n k o) 145 + (n - vN hm rd k o) = n by unfold vN at h ⊢; omega] at h2
    exact h2
theorem vN_never {hm : Int32} {rd : Nat → Int32} {k o : Nat} (hk : k < 12) (ho : o < 12) (h : vN hm rd k o = 145) (n : Nat) : ctc hm rd n k o = false := by
  cases g : ctc hm rd n k o with
  | false => rfl
  | true =>
    have := (vN_iff (Nat.le_refl 144)).mp (ctc_144 hk ho g)
    omega
theorem stab_never {hm : Int32} {rd : Nat → Int32} {n : Nat} (h : ∀ k o, k < 12 → o < 12 → ctc hm rd (n + 1) k o = ctc hm rd n k o) : ∀ d k o, k < 12 → o < 12 → ctc hm rd (n + d) k o = ctc hm rd n k o := by
  intro d
  induction d with
  | zero => intro k o _ _; rfl
  | succ d ih =>
    intro k o hk ho
    rw [← h k o hk ho]
    have a1 := ctc_s hm rd (n + d) k o
    have a2 := ctc_s hm rd n k o
    have a3 : ctc hm rd (n + d + 1) k o = true ↔ ctc hm rd (n + 1) k o = true := by
      rw [a1, a2, ih k o hk ho]
      constructor
      · rintro (g | ⟨p, h1, h2, h3⟩)
        · exact Or.inl g
        · refine Or.inr ⟨p, h1, h2, ?_⟩
          rcases (trp_iff hm rd _ p o).mp h3 with h4 | h4
          · exact (trp_iff hm rd _ p o).mpr (Or.inl h4)
          · exact (trp_iff hm rd _ p o).mpr (Or.inr (fun q hq hmv => by rw [← ih p q h1 hq]; exact h4 q hq hmv))
      · rintro (g | ⟨p, h1, h2, h3⟩)
        · exact Or.inl g
        · refine Or.inr ⟨p, h1, h2, ?_⟩
          rcases (trp_iff hm rd _ p o).mp h3 with h4 | h4
          · exact (trp_iff hm rd _ p o).mpr (Or.inl h4)
          · exact (trp_iff hm rd _ p o).mpr (Or.inr (fun q hq hmv => by rw [ih p q h1 hq]; exact h4 q hq hmv))
    show ctc hm rd (n + d + 1) k o = _
    cases x1 : ctc hm rd (n + d + 1) k o <;> cases x2 : ctc hm rd (n + 1) k o <;> simp_all
def rV (hm : Int32) (rd : Nat → Int32) (k o : Nat) : Int32 := if vN hm rd k o ≤ 144 then nI (vN hm rd k o) else -6
theorem few_loop {hm : Int32} {rd : Nat → Int32} (hl : ∀ p, p < 12 → inR (rd p) 4096) {k o : Nat} (hk : k < 12) (ho : o < 12) : ∀ (d n fuel : Nat) (more : Bool) (c t : Nat → Int32), n + d = 145 → d < fuel → Row c (ctc hm rd n) → (∀ m, m < n → ctc hm rd m k o = false) → (more = false → vN hm rd k o = 145) → (1 ≤ n → Row t (trpF hm rd (ctc hm rd (n - 1)))) → ∃ c' t', f_X0_fewestRounds_L11 hm rd (nI k) (nI o) f_X0_fewestRounds_X11 fuel (b2 more) (nI n) c t = some (rV hm rd k o, c', t') ∧ (1 ≤ vN hm rd k o → vN hm rd k o ≤ 144 → Row t' (trpF hm rd (ctc hm rd (vN hm rd k o - 1)))) := by
  intro d
  induction d with
  | zero =>
    intro n fuel more c t hn hf hc hno hmo ht
    obtain ⟨f, rfl⟩ : ∃ f, fuel = f + 1 := ⟨fuel - 1, by omega⟩
    obtain rfl : n = 145 := by omega
    have hv : ¬ vN hm rd k o ≤ 144 := fun h => by
      have := (vN_iff (Nat.le_refl 144)).mpr h
      rw [hno 144 (by decide)] at this
      cases this
    rw [f_X0_fewestRounds_L11, if_pos (by decide)]
    refine ⟨c, t, ?_, fun _ h => absurd h hv⟩
    unfold f_X0_fewestRounds_X11 rV
    rw [if_neg hv]
  | succ d ih =>
    intro n fuel more c t hn hf hc hno hmo ht
    obtain ⟨f, rfl⟩ : ∃ f, fuel = f + 1 := ⟨fuel - 1, by omega⟩
    rw [f_X0_fewestRounds_L11, if_neg (fun e => by have := (lit_lt (a := 144) (by decide) (by omega)).mp e; omega)]
    cases more with
    | false =>
      have hv := hmo rfl
      rw [if_f]
      refine ⟨c, t, ?_, fun _ h => absurd h (by omega)⟩
      unfold f_X0_fewestRounds_X11 rV
      rw [if_neg (by omega)]
    | true =>
      rw [if_t, cby_ok c hk, bd_some, holds_ok _ (by omega), bd_some]
      cases g : bt (c k) o with
      | true =>
        have h1 := ((hc k o hk (by omega)).mp g).2
        have h2 := (vN_iff (n := n) (by omega)).mp h1
        have h3 : vN hm rd k o = n := by
          rcases Nat.lt_or_ge (vN hm rd k o) n with q | q
          · have h4 := (vN_iff (hm := hm) (rd := rd) (k := k) (o := o) (n := vN hm rd k o) (by omega)).mpr (Nat.le_refl _)
            rw [hno _ q] at h4
            cases h4
          · omega
        rw [if_t]
        refine ⟨c, t, ?_, fun h5 h6 => ?_⟩
        · unfold rV
          rw [if_pos (by omega), h3]
        · rw [h3]; exact ht (by omega)
      | false =>
        have hnn : ctc hm rd n k o = false := by
          cases g2 : ctc hm rd n k o with
          | false => rfl
          | true => rw [(hc k o hk (by omega)).mpr ⟨ho, g2⟩] at g; cases g
        obtain ⟨more', c', t', a1, a2, a3, a4⟩ := adv_ok (hm := hm) hl hc t
        rw [if_f, a1, bd_some]
        dsimp only
        rw [nI_1]
        refine ih (n + 1) f more' c' t' (by omega) (by omega) a2 (fun m hm' => ?_) (fun hmo' => ?_) (fun _ => a3)
        · by_cases e : m = n
          · rw [e]; exact hnn
          · exact hno m (by omega)
        · have hst := stab_never (a4 hmo')
          rcases Nat.lt_or_ge (vN hm rd k o) 145 with q | q
          · have h4 := (vN_iff (hm := hm) (rd := rd) (k := k) (o := o) (n := vN hm rd k o) (by omega)).mpr (Nat.le_refl _)
            rcases Nat.lt_or_ge (vN hm rd k o) n with q2 | q2
            · rw [hno _ q2] at h4; cases h4
            · have h5 := hst (vN hm rd k o - n) k o hk ho
              rw [show n + (vN hm rd k o - n) = vN hm rd k o by omega, h4, hnn] at h5
              cases h5
          · have := vN_le hm rd k o
            omega
theorem few_ok {hm : Int32} {rd : Nat → Int32} (hl : ∀ p, p < 12 → inR (rd p) 4096) {k o : Nat} (hk : k < 12) (ho : o < 12) (c0 t0 : Nat → Int32) : ∃ c' t', f_X0_fewestRounds c0 t0 hm rd (nI k) (nI o) = some (rV hm rd k o, c', t') ∧ (1 ≤ vN hm rd k o → vN hm rd k o ≤ 144 → Row t' (trpF hm rd (ctc hm rd (vN hm rd k o - 1)))) := by
  unfold f_X0_fewestRounds
  obtain ⟨c, h1, h2⟩ := begin_row hm c0
  rw [h1, bd_some]
  exact few_loop hl hk ho 145 0 5000 true c t0 (by decide) (by decide) h2 (fun m hm' => absurd hm' (Nat.not_lt_zero m)) (fun e => (by cases e)) (fun e => absurd e (by decide))
