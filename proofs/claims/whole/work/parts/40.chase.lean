/-! the chase by rising numbers of rounds -/
def mvB (rd : Nat → Int32) (a b : Nat) : Bool := decide (b = a) || bt (rd a) b
def tch (hm : Int32) (k o : Nat) : Bool := decide (o = k) && !bt hm k
/-- o caught by k within n rounds; trapped behind the king's move -/
def all12 (f : Nat → Bool) : Bool := (List.range 12).all f
def any12 (f : Nat → Bool) : Bool := (List.range 12).any f
theorem all12_iff {f : Nat → Bool} : all12 f = true ↔ ∀ q, q < 12 → f q = true := by
  unfold all12
  rw [List.all_eq_true]
  exact ⟨fun h q hq => h q (List.mem_range.mpr hq), fun h q hq => h q (List.mem_range.mp hq)⟩
theorem any12_iff {f : Nat → Bool} : any12 f = true ↔ ∃ q, q < 12 ∧ f q = true := by
  unfold any12
  rw [List.any_eq_true]
  exact ⟨fun ⟨q, h1, h2⟩ => ⟨q, List.mem_range.mp h1, h2⟩, fun ⟨q, h1, h2⟩ => ⟨q, List.mem_range.mpr h1, h2⟩⟩
def trpF (hm : Int32) (rd : Nat → Int32) (C : Nat → Nat → Bool) (k o : Nat) : Bool := tch hm k o || all12 (fun q => !mvB rd o q || C k q)
def ctc (hm : Int32) (rd : Nat → Int32) : Nat → Nat → Nat → Bool
  | 0 => tch hm
  | n + 1 => fun k o => ctc hm rd n k o || any12 (fun p => mvB rd k p && trpF hm rd (ctc hm rd n) p o)
theorem ctc_s (hm : Int32) (rd : Nat → Int32) (n k o : Nat) : ctc hm rd (n + 1) k o = true ↔ (ctc hm rd n k o = true ∨ ∃ p, p < 12 ∧ mvB rd k p = true ∧ trpF hm rd (ctc hm rd n) p o = true) := by
  show (ctc hm rd n k o || any12 (fun p => mvB rd k p && trpF hm rd (ctc hm rd n) p o)) = true ↔ _
  rw [Bool.or_eq_true, any12_iff]
  constructor
  · rintro (h | ⟨p, h1, h2⟩)
    · exact Or.inl h
    · exact Or.inr ⟨p, h1, (Bool.and_eq_true_iff.mp h2).1, (Bool.and_eq_true_iff.mp h2).2⟩
  · rintro (h | ⟨p, h1, h2, h3⟩)
    · exact Or.inl h
    · exact Or.inr ⟨p, h1, by rw [h2, h3]; rfl⟩
theorem trp_iff (hm : Int32) (rd : Nat → Int32) (C : Nat → Nat → Bool) (k o : Nat) : trpF hm rd C k o = true ↔ (tch hm k o = true ∨ ∀ q, q < 12 → mvB rd o q = true → C k q = true) := by
  unfold trpF
  rw [Bool.or_eq_true, all12_iff]
  constructor
  · rintro (h | h)
    · exact Or.inl h
    · refine Or.inr (fun q hq hm' => ?_)
      have := h q hq
      rw [hm'] at this
      exact this
  · rintro (h | h)
    · exact Or.inl h
    · refine Or.inr (fun q hq => ?_)
      cases g : mvB rd o q with
      | false => rfl
      | true => rw [h q hq g]; rfl
theorem ctc_up {hm : Int32} {rd : Nat → Int32} {n k o : Nat} (d : Nat) (h : ctc hm rd n k o = true) : ctc hm rd (n + d) k o = true := by
  induction d with
  | zero => exact h
  | succ d ih => exact (ctc_s hm rd (n + d) k o).mpr (Or.inl ih)
/-- it stands still by 144 -/
theorem ctc_144 {hm : Int32} {rd : Nat → Int32} {n k o : Nat} (hk : k < 12) (ho : o < 12) (h : ctc hm rd n k o = true) : ctc hm rd 144 k o = true := by
  have e : ∀ n, ctc hm rd n k o = (fun m b => ctc hm rd m (b / 12) (b % 12)) n (12 * k + o) := fun n => by
    show _ = ctc hm rd n ((12 * k + o) / 12) ((12 * k + o) % 12)
    rw [show (12 * k + o) / 12 = k by omega, show (12 * k + o) % 12 = o by omega]
  rw [e 144]
  refine chain (N := 144) (c := 0) (S := fun m b => ctc hm rd m (b / 12) (b % 12)) (fun m b _ hb => (ctc_s hm rd m _ _).mpr (Or.inl hb)) (fun m hst b hb => ?_) (Nat.zero_le _) (by decide) n (12 * k + o) (by omega) ((e n).symm.trans h)
  have same : ∀ x y, x < 12 → y < 12 → ctc hm rd (m + 1) x y = ctc hm rd m x y := fun x y hx hy => by
    have := hst (12 * x + y) (by omega)
    rw [show (12 * x + y) / 12 = x by omega, show (12 * x + y) % 12 = y by omega] at this
    exact this
  have hx : b / 12 < 12 := by omega
  have hy : b % 12 < 12 := by omega
  show ctc hm rd (m + 2) (b / 12) (b % 12) = ctc hm rd (m + 1) (b / 12) (b % 12)
  have a1 := ctc_s hm rd (m + 1) (b / 12) (b % 12)
  have a2 := ctc_s hm rd m (b / 12) (b % 12)
  have a3 : ctc hm rd (m + 2) (b / 12) (b % 12) = true ↔ ctc hm rd (m + 1) (b / 12) (b % 12) = true := by
    rw [a1]
    constructor
    · rintro (h | ⟨p, h1, h2, h3⟩)
      · exact h
      · refine a2.mpr (Or.inr ⟨p, h1, h2, ?_⟩)
        rcases (trp_iff hm rd _ p _).mp h3 with h4 | h4
        · exact (trp_iff hm rd _ p _).mpr (Or.inl h4)
        · exact (trp_iff hm rd _ p _).mpr (Or.inr (fun q hq hmv => by rw [← same p q h1 hq]; exact h4 q hq hmv))
    · exact fun h => Or.inl h
  cases x1 : ctc hm rd (m + 2) (b / 12) (b % 12) <;> cases x2 : ctc hm rd (m + 1) (b / 12) (b % 12) <;> simp_all
/-! the component's rows hold these sets -/
theorem moves_ok (rd : Nat → Int32) {k : Nat} (hk : k < 12) : f_X2_movesFrom rd (nI k) = some (rd k ||| bI k) := by
  unfold f_X2_movesFrom
  rw [place_ok, bd_some, isN_t (by decide) hk, if_t, if_pos (ix_t hk (by decide)), nI_clamp (by omega)]
  rfl
theorem moves_bt (rd : Nat → Int32) {k q : Nat} (hk : k < 12) (hq : q < 32) : bt (rd k ||| bI k) q = mvB rd k q := by
  rw [bt_on _ (by omega) hq]
  unfold mvB
  cases bt (rd k) q <;> cases decide (q = k) <;> rfl
theorem tchat_ok (hm : Int32) {k : Nat} (hk : k < 12) : ∃ w, f_X2_touchedAt hm (nI k) = some w ∧ ∀ o, o < 32 → bt w o = tch hm k o := by
  unfold f_X2_touchedAt
  rw [holds_ok hm (by omega), bd_some]
  unfold tch
  cases bt hm k with
  | false =>
    rw [if_f]
    refine ⟨_, rfl, fun o ho => ?_⟩
    have := bt_bI (k := k) (j := o) (by omega) ho
    unfold bI at this
    rw [this]
    cases decide (o = k) <;> rfl
  | true =>
    rw [if_t]
    refine ⟨_, rfl, fun o ho => ?_⟩
    rw [b_0]
    cases decide (o = k) <;> rfl
theorem begin_ok (hm : Int32) (c0 : Nat → Int32) : ∃ c, f_X0_begin c0 hm = some c ∧ ∀ k o, k < 12 → o < 32 → bt (c k) o = tch hm k o := by
  unfold f_X0_begin
  obtain ⟨c, h1, h2⟩ := lup (L := fun f (s : Nat → Int32) i => f_X0_begin_L2 hm f_X0_begin_X2 f (nI i) s) (kE := f_X0_begin_X2) 12 (fun i s => ∀ k o, k < i → o < 32 → bt (s k) o = tch hm k o)
    (fun f i s hi hs => by
      obtain ⟨w, k1, k2⟩ := tchat_ok hm hi
      refine ⟨upd s i w, fun k o hk ho => ?_, ?_⟩
      · by_cases e : k = i
        · rw [e, pk_us]; exact k2 o ho
        · rw [pk_un e]; exact hs k o (by omega) ho
      · show f_X0_begin_L2 hm f_X0_begin_X2 (f + 1) (nI i) s = _
        rw [f_X0_begin_L2, if_neg (show ¬ (12 : Int32) ≤ nI i from nI_ge hi (by decide)), k1, bd_some, if_pos (ix_t hi (by decide)), nI_clamp (by omega), nI_1])
    (fun f s hs => by
      show f_X0_begin_L2 hm f_X0_begin_X2 (f + 1) (nI 12) s = _
      rw [f_X0_begin_L2, if_pos (by decide)]) 5000 0 c0 (by decide) (by decide) (fun k o hk => absurd hk (Nat.not_lt_zero k))
  exact ⟨c, h2, h1⟩
theorem cby_ok (c : Nat → Int32) {k : Nat} (hk : k < 12) : f_X0_caughtBy c (nI k) = some (c k) := by
  unfold f_X0_caughtBy
  rw [place_ok, bd_some, isN_t (by decide) hk, if_t, if_pos (ix_t hk (by decide)), nI_clamp (by omega)]
