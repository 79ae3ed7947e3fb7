/-! meetings: a state is 8 king + last (7: nobody) -/
def tN (a b s : Nat) : Nat := if s / 8 = a then (if b = s % 8 then s else 8 * b + s / 8) else if s / 8 = b then (if a = s % 8 then s else 8 * a + s / 8) else s
def ply (A B : Nat → Nat) (k C : Nat) : Nat → Nat × Nat
  | 0 => (8 * k + 7, 0)
  | i + 1 => if C.testBit i = true then (tN (A i) (B i) (ply A B k C i).1, if tN (A i) (B i) (ply A B k C i).1 = (ply A B k C i).1 then (ply A B k C i).2 else (ply A B k C i).2 + 1) else ply A B k C i
theorem tN_lt {a b s : Nat} (ha : a < 7) (hb : b < 7) (hs : s < 56) : tN a b s < 56 := by
  unfold tN
  split
  · split <;> omega
  · split
    · split <;> omega
    · exact hs
theorem ply_lt {A B : Nat → Nat} {k C n : Nat} (hk : k < 7) (hAB : ∀ i, i < n → A i < 7 ∧ B i < 7) : ∀ i, i ≤ n → (ply A B k C i).1 < 56 ∧ (ply A B k C i).2 ≤ i := by
  intro i
  induction i with
  | zero => intro _; exact ⟨by show 8 * k + 7 < 56; omega, Nat.le_refl _⟩
  | succ i ih =>
    intro hi
    obtain ⟨h1, h2⟩ := ih (by omega)
    have h3 := hAB i (by omega)
    rw [ply]
    split
    · refine ⟨tN_lt h3.1 h3.2 h1, ?_⟩
      dsimp only
      split
      · exact Nat.le_succ_of_le h2
      · exact Nat.succ_le_succ h2
    · exact ⟨h1, by omega⟩
theorem ply_cong {A B : Nat → Nat} {k C D : Nat} : ∀ i, (∀ j, j < i → C.testBit j = D.testBit j) → ply A B k C i = ply A B k D i := by
  intro i
  induction i with
  | zero => intro _; rfl
  | succ i ih =>
    intro h
    rw [ply, ply, ih (fun j hj => h j (by omega)), h i (by omega)]
def lstI (s : Nat) : Int32 := if s % 8 = 7 then -6 else nI (s % 8)
theorem lstI_eq {x s : Nat} (hx : x < 7) : (nI x = lstI s) ↔ x = s % 8 := by
  unfold lstI
  by_cases g : s % 8 = 7
  · rw [if_pos g]
    exact ⟨fun e => absurd e (nn6 (by omega)), fun e => absurd e (by omega)⟩
  · rw [if_neg g, nI_eq (by omega) (by omega)]
theorem tb_nI {C i : Nat} (hi : i < 31) : bt (nI C) i = C.testBit i := by
  rw [bt_nI, decide_eq_true (by omega), Bool.true_and]
theorem b82_ok {C i s t x : Nat} (hi : i < 8) (hx : x < 7) (kN : Int32 → Int32 → Int32 → Int32 → Option (Int32 × Int32)) : f_X3_play_B82 (nI C) (lstI s) (nI i) (nI (s / 8)) (nI t) kN (nI x) = if x = s % 8 then kN (lstI s) (nI (i + 1)) (nI (s / 8)) (nI t) else if C.testBit i = true then kN (nI (s / 8)) (nI (i + 1)) (nI x) (nI (t + 1)) else kN (lstI s) (nI (i + 1)) (nI (s / 8)) (nI t) := by
  unfold f_X3_play_B82
  rw [if_neg (nn6 (by omega)), holds_ok _ (by omega), bd_some, tb_nI (by omega), nI_1, nI_1]
  by_cases g : x = s % 8
  · rw [if_pos ((lstI_eq hx).mpr g), if_pos g]
  · rw [if_neg (fun e => g ((lstI_eq hx).mp e)), if_neg g]
    cases C.testBit i with
    | false => rw [if_f, if_neg Bool.false_ne_true]
    | true => rw [if_t, if_pos rfl]
theorem play_x {A B : Nat → Nat} {k C i s t x : Nat} (hp : ply A B k C i = (s, t)) (hs : s < 56) (hi : i < 8) (hx : x < 7) (hxs : x ≠ s / 8) (htN : tN (A i) (B i) s = if x = s % 8 then s else 8 * x + s / 8) (kN : Int32 → Int32 → Int32 → Int32 → Option (Int32 × Int32)) : f_X3_play_B82 (nI C) (lstI s) (nI i) (nI (s / 8)) (nI t) kN (nI x) = kN (lstI (ply A B k C (i + 1)).1) (nI (i + 1)) (nI ((ply A B k C (i + 1)).1 / 8)) (nI (ply A B k C (i + 1)).2) := by
  rw [b82_ok hi hx, ply, hp]
  dsimp only
  rw [htN]
  by_cases g : x = s % 8
  · rw [if_pos g, if_pos g, if_pos (show s = s from rfl), ite_self]
  · have hne : 8 * x + s / 8 ≠ s := by omega
    rw [if_neg g, if_neg g, if_neg hne]
    cases C.testBit i with
    | false => rw [if_neg Bool.false_ne_true, if_neg Bool.false_ne_true]
    | true =>
      have e1 : lstI (8 * x + s / 8) = nI (s / 8) := by
        unfold lstI
        rw [if_neg (by omega), show (8 * x + s / 8) % 8 = s / 8 by omega]
      rw [if_pos rfl, if_pos rfl]
      show _ = kN (lstI (8 * x + s / 8)) (nI (i + 1)) (nI ((8 * x + s / 8) / 8)) (nI (t + 1))
      rw [e1, show (8 * x + s / 8) / 8 = x by omega]
theorem play_ok {A B : Nat → Nat} {fs sc : Nat → Int32} {n k C : Nat} (hn : n ≤ 8) (hk : k < 7) (hAB : ∀ i, i < n → A i < 7 ∧ B i < 7 ∧ A i ≠ B i) (hf : ∀ i, i < n → fs i = nI (A i) ∧ sc i = nI (B i)) (kg to : Int32) : f_X3_play (nI n) kg to fs sc (nI k) (nI C) = some (nI ((ply A B k C n).1 / 8), nI (ply A B k C n).2) := by
  unfold f_X3_play
  obtain ⟨⟨v, kk, tt⟩, ⟨e1, e2, e3⟩, h2⟩ := lup (L := fun f (s : Int32 × Int32 × Int32) i => f_X3_play_L16 (nI n) fs sc (nI C) f_X3_play_X16 f s.1 (nI i) s.2.1 s.2.2) (kE := fun s => f_X3_play_X16 s.2.1 s.2.2) n (fun i s => s.1 = lstI (ply A B k C i).1 ∧ s.2.1 = nI ((ply A B k C i).1 / 8) ∧ s.2.2 = nI (ply A B k C i).2)
    (fun f i s hi hs => by
      obtain ⟨v, kk, tt⟩ := s
      obtain ⟨e1, e2, e3⟩ := hs
      dsimp only at e1 e2 e3
      subst e1 e2 e3
      obtain ⟨hA, hB, hne⟩ := hAB i hi
      obtain ⟨f1, f2⟩ := hf i hi
      have hst := (ply_lt (C := C) hk (fun i hi => ⟨(hAB i hi).1, (hAB i hi).2.1⟩) i (by omega)).1
      refine ⟨(lstI (ply A B k C (i + 1)).1, nI ((ply A B k C (i + 1)).1 / 8), nI (ply A B k C (i + 1)).2), ⟨rfl, rfl, rfl⟩, ?_⟩
      show f_X3_play_L16 (nI n) fs sc (nI C) f_X3_play_X16 (f + 1) (lstI (ply A B k C i).1) (nI i) (nI ((ply A B k C i).1 / 8)) (nI (ply A B k C i).2) = f_X3_play_L16 (nI n) fs sc (nI C) f_X3_play_X16 f (lstI (ply A B k C (i + 1)).1) (nI (i + 1)) (nI ((ply A B k C (i + 1)).1 / 8)) (nI (ply A B k C (i + 1)).2)
      obtain ⟨s, t, hp⟩ : ∃ s t, ply A B k C i = (s, t) := ⟨_, _, rfl⟩
      rw [hp] at hst
      dsimp only at hst
      rw [f_X3_play_L16, if_neg (nI_ge hi (by omega)), if_neg (show ¬ (8 : Int32) ≤ nI i from nI_ge (b := 8) (by omega) (by decide)), if_pos (ix_t (by omega) (by decide))]
      unfold f_X3_play_B59
      rw [nI_clamp (by omega), f1, f2]
      have hpn : A i ≠ s / 8 → B i ≠ s / 8 → ply A B k C (i + 1) = (s, t) := by
        intro g1 g2
        rw [ply, hp]
        dsimp only
        have e : tN (A i) (B i) s = s := by
          unfold tN
          rw [if_neg (fun e => g1 e.symm), if_neg (fun e => g2 e.symm)]
        rw [e, if_pos (show s = s from rfl), ite_self]
      rw [show (ply A B k C i).1 = s by rw [hp], show (ply A B k C i).2 = t by rw [hp]]
      by_cases gA : A i = s / 8
      · rw [if_pos (by rw [gA]), if_neg (fun e => hne (by rw [gA, nI_inj' (by omega) (by omega) e]))]
        exact play_x hp hst (by omega) hB (fun e => hne (by rw [gA, e])) (by unfold tN; rw [if_pos gA.symm]) _
      · rw [if_neg (fun e => gA (nI_inj' (by omega) (by omega) e))]
        by_cases gB : B i = s / 8
        · rw [if_pos (by rw [gB])]
          exact play_x hp hst (by omega) hA gA (by unfold tN; rw [if_neg (fun e => gA e.symm), if_pos gB.symm]) _
        · rw [if_neg (fun e => gB (nI_inj' (by omega) (by omega) e)), hpn gA gB]
          unfold f_X3_play_B82
          rw [if_pos rfl, nI_1])
    (fun f s hs => by
      show f_X3_play_L16 (nI n) fs sc (nI C) f_X3_play_X16 (f + 1) s.1 (nI n) s.2.1 s.2.2 = _
      rw [f_X3_play_L16, if_pos (nI_le (Nat.le_refl _) (by omega))]) 5000 0 (-6, nI k, 0) (by omega) (by omega) ⟨by show (-6 : Int32) = lstI (8 * k + 7); unfold lstI; rw [if_pos (by omega)], by show nI k = nI ((8 * k + 7) / 8); rw [show (8 * k + 7) / 8 = k by omega], rfl⟩
  dsimp only at e1 e2 e3 h2
  refine Eq.trans h2 ?_
  rw [e2, e3]
  rfl
/-- the meetings as numbers -/
theorem meet_c {sz : Int32} {fs sc : Nat → Int32} {me : Int32} {mt : Nat → Int32} (h : MeetIs sz fs sc me mt) : ∃ (n : Nat) (A B : Nat → Nat), n ≤ 8 ∧ sz = nI n ∧ me = nI n ∧ (∀ i, i < n → A i < 7 ∧ B i < 7 ∧ A i ≠ B i) ∧ (∀ i, i < n → fs i = nI (A i) ∧ sc i = nI (B i)) ∧ (∀ i, i < n → mt (2 * i) = nI (A i) ∧ mt (2 * i + 1) = nI (B i)) := by
  obtain ⟨n, hn, e1, e2, h⟩ := h
  refine ⟨n, fun i => (fs i).toNatClampNeg, fun i => (sc i).toNatClampNeg, hn, e1, e2, fun i hi => ?_, fun i hi => ?_, fun i hi => ?_⟩
  · obtain ⟨h1, h2, ⟨a, ha, ea⟩, ⟨b, hb, eb⟩, hne⟩ := h i hi
    show (fs i).toNatClampNeg < 7 ∧ (sc i).toNatClampNeg < 7 ∧ (fs i).toNatClampNeg ≠ (sc i).toNatClampNeg
    rw [ea, eb] at hne
    rw [ea, eb, nI_clamp (by omega), nI_clamp (by omega)]
    exact ⟨ha, hb, fun e => hne (by rw [e])⟩
  · obtain ⟨h1, h2, ⟨a, ha, ea⟩, ⟨b, hb, eb⟩, hne⟩ := h i hi
    show fs i = nI (fs i).toNatClampNeg ∧ sc i = nI (sc i).toNatClampNeg
    rw [ea, eb, nI_clamp (by omega), nI_clamp (by omega)]
    exact ⟨rfl, rfl⟩
  · obtain ⟨h1, h2, ⟨a, ha, ea⟩, ⟨b, hb, eb⟩, hne⟩ := h i hi
    show mt (2 * i) = nI (fs i).toNatClampNeg ∧ mt (2 * i + 1) = nI (sc i).toNatClampNeg
    rw [h1, h2, ea, eb, nI_clamp (by omega), nI_clamp (by omega)]
    exact ⟨rfl, rfl⟩
theorem pow_n : ∀ n, n ≤ 8 → (1 : Int32) <<< (nI n &&& 31) = nI (2 ^ n) := by
  intro n hn
  rcases (show n = 0 ∨ n = 1 ∨ n = 2 ∨ n = 3 ∨ n = 4 ∨ n = 5 ∨ n = 6 ∨ n = 7 ∨ n = 8 by omega) with rfl | rfl | rfl | rfl | rfl | rfl | rfl | rfl | rfl <;> decide
theorem pow_le {n : Nat} (hn : n ≤ 8) : 2 ^ n ≤ 256 := Nat.pow_le_pow_right (n := 2) (by decide) hn
theorem tat_ok {A B : Nat → Nat} {mt : Nat → Int32} {n i s : Nat} (hn : n ≤ 8) (hi : i < n) (hAB : ∀ i, i < n → A i < 7 ∧ B i < 7 ∧ A i ≠ B i) (hm : ∀ i, i < n → mt (2 * i) = nI (A i) ∧ mt (2 * i + 1) = nI (B i)) (hs : s < 56) : f_X10_touchAt mt (nI i) (nI s) = some (nI (tN (A i) (B i) s)) := by
  obtain ⟨hA, hB, hne⟩ := hAB i hi
  have ed : nI s / (8 : Int32) = nI (s / 8) := pk_div (d := 8) (by omega) (by decide) (by decide)
  have er : nI s - nI s / (8 : Int32) * (8 : Int32) = nI (s % 8) := pk_rem (d := 8) (by omega) (by decide) (by decide)
  have b51 : ∀ x, x < 7 → f_X10_touchAt_B51 (nI s) (nI (s / 8)) (nI x) = some (nI (if x = s % 8 then s else 8 * x + s / 8)) := by
    intro x hx
    unfold f_X10_touchAt_B51
    rw [if_neg (nI_pos (by omega)), er, m_8, nI_add]
    by_cases g : x = s % 8
    · rw [if_pos (by rw [g]), if_pos g]
    · rw [if_neg (fun e => g (nI_inj' (by omega) (by omega) e)), if_neg g]
  unfold f_X10_touchAt
  rw [ed, m_2, p_1, if_pos (ix_t (by omega) (by decide)), if_pos (ix_t (by omega) (by decide)), nI_clamp (by omega), nI_clamp (by omega), (hm i hi).1, (hm i hi).2]
  unfold tN
  by_cases gA : s / 8 = A i
  · rw [if_pos (by rw [gA]), if_pos gA, b51 _ hB]
  · rw [if_neg (fun e => gA (nI_inj' (by omega) (by omega) e)), if_neg gA]
    by_cases gB : s / 8 = B i
    · rw [if_pos (by rw [gB]), if_pos gB, b51 _ hA]
    · rw [if_neg (fun e => gB (nI_inj' (by omega) (by omega) e)), if_neg gB]
      unfold f_X10_touchAt_B51
      rw [if_pos (by decide)]
