/-! the model's table of rounds -/
def Tab (r : Nat → Int32) (T : Nat → Nat) : Prop := ∀ i, i < 144 → r i = nI (T i) ∧ T i ≤ 1000000
theorem ist_ok (hm : Int32) {k o : Nat} (hk : k < 12) (ho : o < 12) : f_X10_isTouched hm (nI k) (nI o) = some (b2 (tch hm k o)) := by
  unfold f_X10_isTouched tch
  by_cases e : k = o
  · subst e
    rw [if_pos rfl, has_ok hm (by omega), bd_some, decide_eq_true rfl]
    cases bt hm k <;> rfl
  · rw [if_neg (fun g => e (nI_inj' (by omega) (by omega) g)), decide_eq_false (fun g => e g.symm)]
    rfl
def mbN (rd : Nat → Int32) (T : Nat → Nat) (p o : Nat) : Nat → Nat
  | 0 => 0
  | i + 1 => if mvB rd o i = true ∧ mbN rd T p o i < T (12 * p + i) then T (12 * p + i) else mbN rd T p o i
theorem mbN_le {rd : Nat → Int32} {T : Nat → Nat} {r : Nat → Int32} (hT : Tab r T) {p o : Nat} (hp : p < 12) : ∀ i, i ≤ 12 → mbN rd T p o i ≤ 1000000 := by
  intro i
  induction i with
  | zero => intro _; exact Nat.zero_le _
  | succ i ih =>
    intro h
    rw [mbN]
    have := (hT (12 * p + i) (by omega)).2
    have := ih (by omega)
    split <;> omega
theorem mb_ok {rd r : Nat → Int32} {T : Nat → Nat} (hT : Tab r T) {p o : Nat} (hp : p < 12) (ho : o < 12) : f_X10_mostBehind rd r (nI p) (nI o) = some (nI (mbN rd T p o 12)) := by
  unfold f_X10_mostBehind
  obtain ⟨w, h1, h2⟩ := lup (L := fun f (s : Int32) i => f_X10_mostBehind_L5 rd r (nI p) (nI o) f_X10_mostBehind_X5 f s (nI i)) (kE := f_X10_mostBehind_X5) 12 (fun i s => s = nI (mbN rd T p o i))
    (fun f i s hi hs => by
      subst hs
      refine ⟨_, rfl, ?_⟩
      show f_X10_mostBehind_L5 rd r (nI p) (nI o) f_X10_mostBehind_X5 (f + 1) (nI (mbN rd T p o i)) (nI i) = _
      have hl := mbN_le (rd := rd) hT (p := p) (o := o) hp i (by omega)
      obtain ⟨t1, t2⟩ := hT (12 * p + i) (by omega)
      have key : ∀ b : Bool, b = mvB rd o i → f_X10_mostBehind_B37 r (nI p) (nI (mbN rd T p o i)) (nI i) (f_X10_mostBehind_L5 rd r (nI p) (nI o) f_X10_mostBehind_X5 f) (b2 b) = f_X10_mostBehind_L5 rd r (nI p) (nI o) f_X10_mostBehind_X5 f (nI (mbN rd T p o (i + 1))) (nI (i + 1)) := by
        intro b hb
        unfold f_X10_mostBehind_B37
        rw [mbN, ← hb]
        cases b with
        | false =>
          rw [if_f, if_neg (fun e => by cases e.1), nI_1]
        | true =>
          rw [if_t]
          simp only [m_12, nI_add, nI_1]
          rw [if_pos (ix_t (by omega) (by decide)), nI_clamp (by omega), t1]
          by_cases g : T (12 * p + i) ≤ mbN rd T p o i
          · rw [if_pos (nI_le g (by omega)), if_neg (fun e => by have := e.2; omega)]
          · rw [if_neg (nI_ge (by omega) (by omega)), if_pos ⟨trivial, by omega⟩]
      have k1 := key true
      have k0 := key false
      rw [b2_t] at k1
      rw [b2_f] at k0
      rw [f_X10_mostBehind_L5, if_neg (show ¬ (12 : Int32) ≤ nI i from nI_ge hi (by decide))]
      unfold f_X10_mostBehind_B32
      by_cases e : i = o
      · rw [if_pos (by rw [e])]
        exact k1 (by rw [e]; exact (mvB_self rd o).symm)
      · rw [if_neg (fun g => e (nI_inj' (by omega) (by omega) g)), if_pos (ix_t ho (by decide)), nI_clamp (by omega), has_ok _ (by omega), bd_some]
        have hmv : mvB rd o i = bt (rd o) i := by
          unfold mvB
          rw [decide_eq_false e]; rfl
        cases g : bt (rd o) i with
        | false => rw [if_f]; exact k0 (by rw [hmv, g])
        | true => rw [if_t]; exact k1 (by rw [hmv, g]))
    (fun f s hs => by
      show f_X10_mostBehind_L5 rd r (nI p) (nI o) f_X10_mostBehind_X5 (f + 1) s (nI 12) = _
      rw [f_X10_mostBehind_L5, if_pos (by decide)]) 5000 0 0 (by decide) (by decide) rfl
  refine Eq.trans h2 ?_
  rw [h1]
  rfl
def byN (hm : Int32) (rd : Nat → Int32) (T : Nat → Nat) (p o : Nat) : Nat := if tch hm p o then 1 else if mbN rd T p o 12 + 1 ≤ 1000000 then mbN rd T p o 12 + 1 else 1000000
theorem by_ok {hm : Int32} {rd r : Nat → Int32} {T : Nat → Nat} (hT : Tab r T) {p o : Nat} (hp : p < 12) (ho : o < 12) : f_X10_by hm rd r (nI p) (nI o) = some (nI (byN hm rd T p o)) := by
  unfold f_X10_by byN
  rw [ist_ok hm hp ho, bd_some]
  cases tch hm p o with
  | true =>
    rw [if_t]
    rfl
  | false =>
    have hl := mbN_le (rd := rd) hT (p := p) (o := o) hp 12 (by omega)
    rw [if_f, mb_ok hT hp ho, bd_some, p_1, if_neg Bool.false_ne_true]
    unfold f_X10_by_B21
    by_cases g : mbN rd T p o 12 + 1 ≤ 1000000
    · rw [if_pos ((le_lit (a := 1000000) (by decide) (by omega)).mpr g), if_pos g]
    · rw [if_neg (fun e => g ((le_lit (a := 1000000) (by decide) (by omega)).mp e)), if_neg g]
      rfl
theorem mbN_iff {rd : Nat → Int32} {T : Nat → Nat} {p o b : Nat} : mbN rd T p o 12 ≤ b ↔ ∀ q, q < 12 → mvB rd o q = true → T (12 * p + q) ≤ b := by
  have key : ∀ i, mbN rd T p o i ≤ b ↔ ∀ q, q < i → mvB rd o q = true → T (12 * p + q) ≤ b := by
    intro i
    induction i with
    | zero => exact ⟨fun _ q hq => absurd hq (Nat.not_lt_zero q), fun _ => Nat.zero_le _⟩
    | succ i ih =>
      rw [mbN]
      constructor
      · intro h q hq hmv
        by_cases e : q = i
        · rw [e] at hmv ⊢
          by_cases g : mvB rd o i = true ∧ mbN rd T p o i < T (12 * p + i)
          · rw [if_pos g] at h; exact h
          · rw [if_neg g] at h
            have : ¬ mbN rd T p o i < T (12 * p + i) := fun g2 => g ⟨hmv, g2⟩
            omega
        · refine ih.mp ?_ q (by omega) hmv
          split at h <;> omega
      · intro h
        have h1 := ih.mpr (fun q hq hmv => h q (by omega) hmv)
        split
        · rename_i g
          exact h i (by omega) g.1
        · exact h1
  exact key 12
