/-! chance -/
def sm (f : Nat → Nat) : Nat → Nat
  | 0 => 0
  | n + 1 => sm f n + f n
theorem sm_cong {f g : Nat → Nat} : ∀ n, (∀ j, j < n → f j = g j) → sm f n = sm g n := by
  intro n
  induction n with
  | zero => intro _; rfl
  | succ n ih => intro h; rw [sm, sm, ih (fun j hj => h j (by omega)), h n (by omega)]
theorem sm_0 {f : Nat → Nat} : ∀ n, (∀ j, j < n → f j = 0) → sm f n = 0 := by
  intro n
  induction n with
  | zero => intro _; rfl
  | succ n ih => intro h; rw [sm, ih (fun j hj => h j (by omega)), h n (by omega)]
theorem sm_app (f : Nat → Nat) (a : Nat) : ∀ b, sm f (a + b) = sm f a + sm (fun j => f (a + j)) b := by
  intro b
  induction b with
  | zero => rfl
  | succ b ih =>
    show sm f (a + b) + f (a + b) = sm f a + (sm (fun j => f (a + j)) b + f (a + b))
    rw [ih]
    omega
theorem sm_mul (c : Nat) (f : Nat → Nat) : ∀ n, sm (fun j => c * f j) n = c * sm f n := by
  intro n
  induction n with
  | zero => rfl
  | succ n ih =>
    show sm (fun j => c * f j) n + c * f n = c * (sm f n + f n)
    rw [ih, Nat.mul_add]
theorem sm_plus (f g : Nat → Nat) : ∀ n, sm (fun j => f j + g j) n = sm f n + sm g n := by
  intro n
  induction n with
  | zero => rfl
  | succ n ih =>
    show sm (fun j => f j + g j) n + (f n + g n) = (sm f n + f n) + (sm g n + g n)
    rw [ih]
    omega
theorem sm_upd (φ V : Nat → Nat) {j x : Nat} : ∀ N, sm (fun s => φ s * updN V j (V j + x) s) N = sm (fun s => φ s * V s) N + (if j < N then φ j * x else 0) := by
  intro N
  induction N with
  | zero => rfl
  | succ N ih =>
    show sm (fun s => φ s * updN V j (V j + x) s) N + φ N * updN V j (V j + x) N = sm (fun s => φ s * V s) N + φ N * V N + _
    rw [ih]
    unfold updN
    rcases Nat.lt_trichotomy j N with h | h | h
    · rw [if_pos h, if_neg (by omega), if_pos (by omega)]
      omega
    · rw [if_neg (by omega), if_pos h.symm, if_pos (by omega), h, Nat.mul_add]
      omega
    · rw [if_neg (by omega), if_neg (by omega), if_neg (by omega)]
      omega
def wN (t C : Nat) : Nat → Nat
  | 0 => 1
  | i + 1 => wN t C i * (if C.testBit i = true then t else 10 - t)
theorem wN_cong {t C D : Nat} : ∀ i, (∀ j, j < i → C.testBit j = D.testBit j) → wN t C i = wN t D i := by
  intro i
  induction i with
  | zero => intro _; rfl
  | succ i ih =>
    intro h
    rw [wN, wN, ih (fun j hj => h j (by omega)), h i (by omega)]
/-- the weight of all coins, by a test of the state behind them -/
def EE (A B : Nat → Nat) (k t i : Nat) (φ : Nat → Nat) : Nat := sm (fun C => φ (ply A B k C i).1 * wN t C i) (2 ^ i)
theorem EE_s (A B : Nat → Nat) (k t i : Nat) (φ : Nat → Nat) : EE A B k t (i + 1) φ = (10 - t) * EE A B k t i φ + t * EE A B k t i (fun s => φ (tN (A i) (B i) s)) := by
  unfold EE
  rw [show 2 ^ (i + 1) = 2 ^ i + 2 ^ i by rw [Nat.pow_succ]; omega, sm_app, ← sm_mul, ← sm_mul]
  congr 1
  · refine sm_cong _ (fun C hC => ?_)
    rw [ply_lo hC, wN, Nat.testBit_lt_two_pow hC, if_neg Bool.false_ne_true, ← Nat.mul_assoc, Nat.mul_comm]
  · refine sm_cong _ (fun C hC => ?_)
    rw [ply_hi hC, wN, Nat.testBit_two_pow_add_eq, Nat.testBit_lt_two_pow hC, if_pos (show (!false) = true from rfl), wN_cong (t := t) (C := 2 ^ i + C) (D := C) i (fun j hj => Nat.testBit_two_pow_add_gt hj C), ← Nat.mul_assoc, Nat.mul_comm]
theorem EE_le {A B : Nat → Nat} {k t : Nat} (ht : t ≤ 10) : ∀ i (φ : Nat → Nat), (∀ s, φ s ≤ 1) → EE A B k t i φ ≤ 10 ^ i := by
  intro i
  induction i with
  | zero =>
    intro φ h
    show 0 + φ (8 * k + 7) * 1 ≤ 1
    have := h (8 * k + 7)
    omega
  | succ i ih =>
    intro φ h
    rw [EE_s, Nat.pow_succ]
    have h1 := Nat.mul_le_mul_left (10 - t) (ih φ h)
    have h2 := Nat.mul_le_mul_left t (ih (fun s => φ (tN (A i) (B i) s)) (fun s => h _))
    have h3 : (10 - t) * 10 ^ i + t * 10 ^ i = 10 ^ i * 10 := by
      rw [← Nat.add_mul, Nat.sub_add_cancel ht, Nat.mul_comm]
    omega
theorem cw_ok {n C t : Nat} (hn : n ≤ 8) (ht : t ≤ 10) : f_X3_coinWeight (nI n) (nI C) (nI t) = some (lN (wN t C n)) := by
  have e10 : (10 : Int32) - nI t = nI (10 - t) := pk_sub (a := 10) (b := t) ht
  unfold f_X3_coinWeight
  obtain ⟨w, h1, h2⟩ := lup (L := fun f (s : Int64) i => f_X3_coinWeight_L5 (nI n) (nI C) (nI t) f_X3_coinWeight_X5 f s (nI i)) (kE := f_X3_coinWeight_X5) n (fun i s => s = lN (wN t C i))
    (fun f i s hi hs => by
      subst hs
      refine ⟨_, rfl, ?_⟩
      show f_X3_coinWeight_L5 (nI n) (nI C) (nI t) f_X3_coinWeight_X5 (f + 1) (lN (wN t C i)) (nI i) = _
      rw [f_X3_coinWeight_L5, if_neg (nI_ge hi (by omega)), holds_ok _ (by omega), bd_some, tb_nI (by omega), e10, nI_l (by omega), nI_l (by omega), lN_mul, lN_mul, nI_1, wN]
      cases C.testBit i with
      | false => rw [if_f, if_neg Bool.false_ne_true]
      | true => rw [if_t, if_pos rfl])
    (fun f s hs => by
      show f_X3_coinWeight_L5 (nI n) (nI C) (nI t) f_X3_coinWeight_X5 (f + 1) s (nI n) = _
      rw [f_X3_coinWeight_L5, if_pos (nI_le (Nat.le_refl _) (by omega))]) 5000 0 1 (Nat.zero_le _) (by omega) rfl
  refine Eq.trans h2 ?_
  rw [h1]
  rfl
theorem wall_ok {n : Nat} (hn : n ≤ 8) : f_X3_weightOfAll (nI n) = some (lN (10 ^ n)) := by
  unfold f_X3_weightOfAll
  obtain ⟨w, h1, h2⟩ := lup (L := fun f (s : Int64) i => f_X3_weightOfAll_L4 (nI n) f_X3_weightOfAll_X4 f s (nI i)) (kE := f_X3_weightOfAll_X4) n (fun i s => s = lN (10 ^ i))
    (fun f i s hi hs => by
      subst hs
      refine ⟨_, rfl, ?_⟩
      show f_X3_weightOfAll_L4 (nI n) f_X3_weightOfAll_X4 (f + 1) (lN (10 ^ i)) (nI i) = _
      rw [f_X3_weightOfAll_L4, if_neg (nI_ge hi (by omega)), show lN (10 ^ i) * (10 : Int64) = lN (10 ^ i * 10) from lN_mul _ 10, nI_1, Nat.pow_succ])
    (fun f s hs => by
      show f_X3_weightOfAll_L4 (nI n) f_X3_weightOfAll_X4 (f + 1) s (nI n) = _
      rw [f_X3_weightOfAll_L4, if_pos (nI_le (Nat.le_refl _) (by omega))]) 5000 0 1 (Nat.zero_le _) (by omega) rfl
  refine Eq.trans h2 ?_
  rw [h1]
  rfl
def ind (e s : Nat) : Nat := if s / 8 = e then 1 else 0
theorem wof_ok {A B : Nat → Nat} {fs sc : Nat → Int32} {n k e t : Nat} (hn : n ≤ 8) (hk : k < 7) (he : e < 7) (ht : t ≤ 10) (hAB : ∀ i, i < n → A i < 7 ∧ B i < 7 ∧ A i ≠ B i) (hf : ∀ i, i < n → fs i = nI (A i) ∧ sc i = nI (B i)) (kg to : Int32) : ∃ kg' to', f_X3_weightOf (nI n) kg to fs sc (nI k) (nI e) (nI t) = some (lN (EE A B k t n (ind e)), kg', to') := by
  have hp := pow_le hn
  unfold f_X3_weightOf
  obtain ⟨⟨w, kg', to'⟩, h1, h2⟩ := lup (L := fun f (s : Int64 × Int32 × Int32) c => f_X3_weightOf_L6 (nI n) fs sc (nI k) (nI e) (nI t) f_X3_weightOf_X6 f s.1 (nI c) s.2.1 s.2.2) (kE := fun s => f_X3_weightOf_X6 s.1 s.2.1 s.2.2) (2 ^ n) (fun c s => s.1 = lN (sm (fun C => ind e (ply A B k C n).1 * wN t C n) c))
    (fun f c s hc hs => by
      obtain ⟨v, kk, tt⟩ := s
      dsimp only at hs
      subst hs
      have hst := (ply_lt (C := c) hk (fun i hi => ⟨(hAB i hi).1, (hAB i hi).2.1⟩) n (Nat.le_refl n)).1
      refine ⟨(lN (sm (fun C => ind e (ply A B k C n).1 * wN t C n) (c + 1)), nI ((ply A B k c n).1 / 8), nI (ply A B k c n).2), rfl, ?_⟩
      show f_X3_weightOf_L6 (nI n) fs sc (nI k) (nI e) (nI t) f_X3_weightOf_X6 (f + 1) (lN (sm (fun C => ind e (ply A B k C n).1 * wN t C n) c)) (nI c) kk tt = _
      rw [f_X3_weightOf_L6, pow_n n hn, if_neg (nI_ge hc (by omega)), play_ok hn hk hAB hf, bd_some, cw_ok hn ht, bd_some, lN_add, nI_1, sm]
      dsimp only
      unfold ind
      by_cases g : (ply A B k c n).1 / 8 = e
      · rw [if_pos (by rw [g]), if_pos g, Nat.one_mul]
      · rw [if_neg (fun q => g (nI_inj' (by omega) (by omega) q)), if_neg g, Nat.zero_mul, Nat.add_zero (sm (fun C => (if (ply A B k C n).1 / 8 = e then 1 else 0) * wN t C n) c)])
    (fun f s hs => by
      show f_X3_weightOf_L6 (nI n) fs sc (nI k) (nI e) (nI t) f_X3_weightOf_X6 (f + 1) s.1 (nI (2 ^ n)) s.2.1 s.2.2 = _
      rw [f_X3_weightOf_L6, pow_n n hn, if_pos (nI_le (Nat.le_refl _) (by omega))]) 5000 0 (0, kg, to) (Nat.zero_le _) (by omega) rfl
  dsimp only at h1
  refine ⟨kg', to', Eq.trans h2 ?_⟩
  dsimp only
  rw [h1]
  rfl
/-! Euclid -/
theorem gcd_st (a b : Nat) : Nat.gcd a b = Nat.gcd b (a % b) := by
  rw [Nat.gcd_comm a b, Nat.gcd_rec b a, Nat.gcd_comm]
theorem half_r {b r m : Nat} (hb : b < 2 ^ (m + 1)) (hr : r < b) (h0 : 0 < r) : b % r < 2 ^ m := by
  have h1 := Nat.mod_lt b h0
  have h2 := Nat.div_add_mod b r
  have h3 : 1 ≤ b / r := Nat.div_pos (by omega) h0
  have h4 := Nat.mul_le_mul_left r h3
  rw [Nat.pow_succ] at hb
  omega
theorem cmp0 {b : Nat} (hb : b < 2 ^ 62) : (lg_cmp (lN b) (0 : Int64) = 0) ↔ b = 0 := by
  rw [lg_cmp_eq]
  exact pk_lEQ (a := b) (b := 0) (by omega) (by omega)
theorem ln0 {b : Nat} (hb : b < 2 ^ 62) : (lN b = (0 : Int64)) ↔ b = 0 := pk_lEQ (a := b) (b := 0) (by omega) (by omega)
theorem cg_loop : ∀ (m a b f c : Nat), b < 2 ^ m → a < 2 ^ 62 → b < 2 ^ 62 → c + 2 * m + 1 ≤ 100 → 2 * m + 1 ≤ f → f_X9_commonDivisor_L3 f_X9_commonDivisor_X3 f (lN a) (lN b) (nI c) = some (lN (Nat.gcd a b)) := by
  have e0 : ∀ (a f c : Nat), c < 100 → f_X9_commonDivisor_L3 f_X9_commonDivisor_X3 (f + 1) (lN a) (lN 0) (nI c) = some (lN (Nat.gcd a 0)) := by
    intro a f c hc
    rw [f_X9_commonDivisor_L3, if_neg (show ¬ (100 : Int32) ≤ nI c from nI_ge (b := 100) hc (by decide)), if_pos ((cmp0 (by decide)).mpr rfl), Nat.gcd_zero_right]
    rfl
  have st : ∀ (a b f c : Nat), c < 100 → b ≠ 0 → a < 2 ^ 62 → b < 2 ^ 62 → f_X9_commonDivisor_L3 f_X9_commonDivisor_X3 (f + 1) (lN a) (lN b) (nI c) = f_X9_commonDivisor_L3 f_X9_commonDivisor_X3 f (lN b) (lN (a % b)) (nI (c + 1)) := by
    intro a b f c hc hb ha hb2
    rw [f_X9_commonDivisor_L3, if_neg (show ¬ (100 : Int32) ≤ nI c from nI_ge (b := 100) hc (by decide)), if_neg (fun e => hb ((cmp0 hb2).mp e)), if_neg (fun e => hb ((ln0 hb2).mp e)), pk_lRem (by omega) (by omega) (by omega), nI_1]
  intro m
  induction m with
  | zero =>
    intro a b f c hb _ _ hc hf
    obtain ⟨g, rfl⟩ : ∃ g, f = g + 1 := ⟨f - 1, by omega⟩
    obtain rfl : b = 0 := by omega
    exact e0 a g c (by omega)
  | succ m ih =>
    intro a b f c hb ha hb2 hc hf
    obtain ⟨g, rfl⟩ : ∃ g, f = g + 1 + 1 := ⟨f - 2, by omega⟩
    by_cases h0 : b = 0
    · subst h0
      exact e0 a (g + 1) c (by omega)
    · rw [st a b (g + 1) c (by omega) h0 ha hb2, gcd_st a b]
      have hr := Nat.mod_lt a (show 0 < b by omega)
      generalize a % b = r at hr
      by_cases h1 : r = 0
      · subst h1
        exact e0 b g (c + 1) (by omega)
      · rw [st b r g (c + 1) (by omega) h1 hb2 (by omega), gcd_st b r]
        have hr2 := half_r hb hr (by omega)
        have hr3 := Nat.mod_lt b (show 0 < r by omega)
        exact ih r (b % r) g (c + 1 + 1) hr2 (by omega) (by omega) (by omega) (by omega)
theorem mg_loop (kE : Int64 → Option (Int64 × (Nat → Int64) × (Nat → Int64))) : ∀ (m a b f : Nat), b < 2 ^ m → a < 2 ^ 62 → b < 2 ^ 62 → 2 * m + 1 ≤ f → f_X10_chance_L277 kE f (lN a) (lN b) = kE (lN (Nat.gcd a b)) := by
  have e0 : ∀ (a f : Nat), f_X10_chance_L277 kE (f + 1) (lN a) (lN 0) = kE (lN (Nat.gcd a 0)) := by
    intro a f
    rw [f_X10_chance_L277, if_pos ((cmp0 (by decide)).mpr rfl), Nat.gcd_zero_right]
  have st : ∀ (a b f : Nat), b ≠ 0 → a < 2 ^ 62 → b < 2 ^ 62 → f_X10_chance_L277 kE (f + 1) (lN a) (lN b) = f_X10_chance_L277 kE f (lN b) (lN (a % b)) := by
    intro a b f hb ha hb2
    rw [f_X10_chance_L277, if_neg (fun e => hb ((cmp0 hb2).mp e)), if_neg (fun e => hb ((ln0 hb2).mp e)), pk_lRem (by omega) (by omega) (by omega)]
  intro m
  induction m with
  | zero =>
    intro a b f hb _ _ hf
    obtain ⟨g, rfl⟩ : ∃ g, f = g + 1 := ⟨f - 1, by omega⟩
    obtain rfl : b = 0 := by omega
    exact e0 a g
  | succ m ih =>
    intro a b f hb ha hb2 hf
    obtain ⟨g, rfl⟩ : ∃ g, f = g + 1 + 1 := ⟨f - 2, by omega⟩
    by_cases h0 : b = 0
    · subst h0
      exact e0 a (g + 1)
    · rw [st a b (g + 1) h0 ha hb2, gcd_st a b]
      have hr := Nat.mod_lt a (show 0 < b by omega)
      generalize a % b = r at hr
      by_cases h1 : r = 0
      · subst h1
        exact e0 b g
      · rw [st b r g h1 hb2 (by omega), gcd_st b r]
        have hr2 := half_r hb hr (by omega)
        have hr3 := Nat.mod_lt b (show 0 < r by omega)
        exact ih r (b % r) g hr2 (by omega) (by omega) (by omega)
/-! the model's ways -/
def FW (w : Nat → Int64) (W : Nat → Nat) : Prop := ∀ s, s < 56 → w s = lN (W s)
theorem FW_upd {w : Nat → Int64} {W : Nat → Nat} (h : FW w W) {j v : Nat} : FW (vp_updL w j (lN v)) (updN W j v) := by
  intro s hs
  unfold updN
  by_cases e : s = j
  · rw [e, pk_uLs, if_pos rfl]
  · rw [pk_uLn e, if_neg e]; exact h s hs
theorem l48_ok {k : Nat} (hk : k < 7) (kE : (Nat → Int64) → Option (Int64 × (Nat → Int64) × (Nat → Int64))) (w0 : Nat → Int64) : ∃ w, f_X10_chance_L48 (nI k) kE 5000 0 w0 = kE w ∧ FW w (updN (fun _ => 0) (8 * k + 7) ((fun _ => 0) (8 * k + 7) + 1)) := by
  obtain ⟨f, h1, h2⟩ := lup (L := fun n (s : Nat → Int64) i => f_X10_chance_L48 (nI k) kE n (nI i) s) (kE := kE) 56 (fun i s => ∀ x, x < i → s x = lN (if x = 8 * k + 7 then 1 else 0))
    (fun n i s hi hs => by
      refine ⟨vp_updL s i (lN (if i = 8 * k + 7 then 1 else 0)), fun x hx => ?_, ?_⟩
      · by_cases e : x = i
        · rw [e, pk_uLs]
        · rw [pk_uLn e]; exact hs x (by omega)
      · show f_X10_chance_L48 (nI k) kE (n + 1) (nI i) s = _
        rw [f_X10_chance_L48, if_neg (show ¬ (56 : Int32) ≤ nI i from nI_ge (b := 56) hi (by decide)), m_8, p_7, if_pos (ix_t hi (by decide)), if_pos (ix_t hi (by decide)), nI_1, nI_clamp (by omega)]
        by_cases g : i = 8 * k + 7
        · rw [if_pos (by rw [g]), if_pos g]; rfl
        · rw [if_neg (fun e => g (nI_inj' (by omega) (by omega) e)), if_neg g]; rfl)
    (fun n s hs => by
      show f_X10_chance_L48 (nI k) kE (n + 1) (nI 56) s = _
      rw [f_X10_chance_L48, if_pos (by decide)]) 5000 0 w0 (by decide) (by decide) (fun x hx => absurd hx (Nat.not_lt_zero x))
  refine ⟨f, h2, fun s hs => ?_⟩
  rw [h1 s hs]
  rfl
theorem l108_ok (low : Int64) (kE : Int64 → (Nat → Int64) → Option (Int64 × (Nat → Int64) × (Nat → Int64))) (w0 : Nat → Int64) : ∃ w, f_X10_chance_L108 kE 5000 low 0 w0 = kE low w ∧ FW w (fun _ => 0) := by
  obtain ⟨f, h1, h2⟩ := lup (L := fun n (s : Nat → Int64) i => f_X10_chance_L108 kE n low (nI i) s) (kE := kE low) 56 (fun i s => ∀ x, x < i → s x = lN 0)
    (fun n i s hi hs => by
      refine ⟨vp_updL s i (lN 0), fun x hx => ?_, ?_⟩
      · by_cases e : x = i
        · rw [e, pk_uLs]
        · rw [pk_uLn e]; exact hs x (by omega)
      · show f_X10_chance_L108 kE (n + 1) low (nI i) s = _
        rw [f_X10_chance_L108, if_neg (show ¬ (56 : Int32) ≤ nI i from nI_ge (b := 56) hi (by decide)), if_pos (ix_t hi (by decide)), nI_1, nI_clamp (by omega)]
        rfl)
    (fun n s hs => by
      show f_X10_chance_L108 kE (n + 1) low (nI 56) s = _
      rw [f_X10_chance_L108, if_pos (by decide)]) 5000 0 w0 (by decide) (by decide) (fun x hx => absurd hx (Nat.not_lt_zero x))
  exact ⟨f, h2, h1⟩
theorem l197_ok (v : Nat → Int64) (kE : (Nat → Int64) → Option (Int64 × (Nat → Int64) × (Nat → Int64))) (w0 : Nat → Int64) : ∃ w, f_X10_chance_L197 v kE 5000 0 w0 = kE w ∧ ∀ s, s < 56 → w s = v s := by
  obtain ⟨f, h1, h2⟩ := lup (L := fun n (s : Nat → Int64) i => f_X10_chance_L197 v kE n (nI i) s) (kE := kE) 56 (fun i s => ∀ x, x < i → s x = v x)
    (fun n i s hi hs => by
      refine ⟨vp_updL s i (v i), fun x hx => ?_, ?_⟩
      · by_cases e : x = i
        · rw [e, pk_uLs]
        · rw [pk_uLn e]; exact hs x (by omega)
      · show f_X10_chance_L197 v kE (n + 1) (nI i) s = _
        rw [f_X10_chance_L197, if_neg (show ¬ (56 : Int32) ≤ nI i from nI_ge (b := 56) hi (by decide)), if_pos (ix_t hi (by decide)), nI_1, nI_clamp (by omega)])
    (fun n s hs => by
      show f_X10_chance_L197 v kE (n + 1) (nI 56) s = _
      rw [f_X10_chance_L197, if_pos (by decide)]) 5000 0 w0 (by decide) (by decide) (fun x hx => absurd hx (Nat.not_lt_zero x))
  exact ⟨f, h2, h1⟩
theorem l132_ok {A B : Nat → Nat} {mt : Nat → Int32} {w : Nat → Int64} {W : Nat → Nat} {n i t : Nat} (hn : n ≤ 8) (hi : i < n) (ht : t ≤ 10) (hAB : ∀ i, i < n → A i < 7 ∧ B i < 7 ∧ A i ≠ B i) (hm : ∀ i, i < n → mt (2 * i) = nI (A i) ∧ mt (2 * i + 1) = nI (B i)) (hW : FW w W) (kE : (Nat → Int64) → Option (Int64 × (Nat → Int64) × (Nat → Int64))) (v0 : Nat → Int64) (hv0 : FW v0 (fun _ => 0)) : ∃ v V, f_X10_chance_L132 mt (nI t) (nI i) w kE 5000 0 v0 = kE v ∧ FW v V ∧ ∀ φ : Nat → Nat, sm (fun s => φ s * V s) 56 = (10 - t) * sm (fun s => φ s * W s) 56 + t * sm (fun s => φ (tN (A i) (B i) s) * W s) 56 := by
  have e10 : (10 : Int32) - nI t = nI (10 - t) := pk_sub (a := 10) (b := t) ht
  obtain ⟨v, ⟨V, h1, h2⟩, h3⟩ := lup (L := fun m (s : Nat → Int64) j => f_X10_chance_L132 mt (nI t) (nI i) w kE m (nI j) s) (kE := kE) 56 (fun j v => ∃ V, FW v V ∧ ∀ φ : Nat → Nat, sm (fun s => φ s * V s) 56 = (10 - t) * sm (fun s => φ s * W s) j + t * sm (fun s => φ (tN (A i) (B i) s) * W s) j)
    (fun m j v hj hs => by
      obtain ⟨V, h1, h2⟩ := hs
      obtain ⟨hA, hB, hne⟩ := hAB i hi
      have hto := tN_lt hA hB hj
      show ∃ v', _ ∧ f_X10_chance_L132 mt (nI t) (nI i) w kE (m + 1) (nI j) v = f_X10_chance_L132 mt (nI t) (nI i) w kE m (nI (j + 1)) v'
      rw [f_X10_chance_L132, if_neg (show ¬ (56 : Int32) ≤ nI j from nI_ge (b := 56) hj (by decide)), tat_ok hn hi hAB hm hj, bd_some, nI_1, if_pos (ix_t hto (by decide)), if_pos (ix_t hj (by decide)), nI_clamp (by omega), nI_clamp (by omega), e10, nI_l (by omega), nI_l (by omega), hW j hj, lN_mul, lN_mul, h1 _ hto, lN_add]
      have k1 := FW_upd h1 (j := tN (A i) (B i) j) (v := V (tN (A i) (B i) j) + W j * t)
      rw [k1 j hj, lN_add]
      refine ⟨_, ⟨_, FW_upd k1, fun φ => ?_⟩, rfl⟩
      rw [sm_upd, sm_upd, if_pos hj, if_pos hto, h2 φ]
      show _ = (10 - t) * (sm (fun s => φ s * W s) j + φ j * W j) + t * (sm (fun s => φ (tN (A i) (B i) s) * W s) j + φ (tN (A i) (B i) j) * W j)
      rw [Nat.mul_add, Nat.mul_add, show φ j * (W j * (10 - t)) = (10 - t) * (φ j * W j) by rw [← Nat.mul_assoc, Nat.mul_comm], show φ (tN (A i) (B i) j) * (W j * t) = t * (φ (tN (A i) (B i) j) * W j) by rw [← Nat.mul_assoc, Nat.mul_comm]]
      omega)
    (fun m s hs => by
      show f_X10_chance_L132 mt (nI t) (nI i) w kE (m + 1) (nI 56) s = _
      rw [f_X10_chance_L132, if_pos (by decide)]) 5000 0 v0 (by decide) (by decide) ⟨fun _ => 0, hv0, fun φ => by
        rw [sm_0 56 (fun j _ => Nat.mul_zero _)]
        rfl⟩
  exact ⟨v, V, h3, h1, h2⟩
theorem l88_ok {A B : Nat → Nat} {mt : Nat → Int32} {n k t : Nat} (hn : n ≤ 8) (hk : k < 7) (ht : t ≤ 10) (hAB : ∀ i, i < n → A i < 7 ∧ B i < 7 ∧ A i ≠ B i) (hm : ∀ i, i < n → mt (2 * i) = nI (A i) ∧ mt (2 * i + 1) = nI (B i)) (kE : Int64 → (Nat → Int64) → (Nat → Int64) → Option (Int64 × (Nat → Int64) × (Nat → Int64))) (w0 v0 : Nat → Int64) (hw0 : FW w0 (updN (fun _ => 0) (8 * k + 7) ((fun _ => 0) (8 * k + 7) + 1))) : ∃ w v W, f_X10_chance_L88 (nI n) mt (nI t) kE 5000 1 0 w0 v0 = kE (lN (10 ^ n)) w v ∧ FW w W ∧ ∀ φ : Nat → Nat, sm (fun s => φ s * W s) 56 = EE A B k t n φ := by
  obtain ⟨⟨lo, w, v⟩, ⟨e1, W, h1, h2⟩, h4⟩ := lup (L := fun m (s : Int64 × (Nat → Int64) × (Nat → Int64)) i => f_X10_chance_L88 (nI n) mt (nI t) kE m s.1 (nI i) s.2.1 s.2.2) (kE := fun s => kE s.1 s.2.1 s.2.2) n (fun i s => s.1 = lN (10 ^ i) ∧ ∃ W, FW s.2.1 W ∧ ∀ φ : Nat → Nat, sm (fun s => φ s * W s) 56 = EE A B k t i φ)
    (fun m i s hi hs => by
      obtain ⟨lo, w, v⟩ := s
      obtain ⟨e1, W, h1, h2⟩ := hs
      dsimp only at e1 h1
      subst e1
      show ∃ s' : Int64 × (Nat → Int64) × (Nat → Int64), _ ∧ f_X10_chance_L88 (nI n) mt (nI t) kE (m + 1) (lN (10 ^ i)) (nI i) w v = f_X10_chance_L88 (nI n) mt (nI t) kE m s'.1 (nI (i + 1)) s'.2.1 s'.2.2
      rw [f_X10_chance_L88, if_neg (nI_ge hi (by omega)), show lN (10 ^ i) * (10 : Int64) = lN (10 ^ i * 10) from lN_mul _ 10]
      obtain ⟨v1, a1, a2⟩ := l108_ok (lN (10 ^ i * 10)) (f_X10_chance_X108 mt (nI t) (nI i) w (f_X10_chance_L88 (nI n) mt (nI t) kE m)) v
      rw [a1]
      unfold f_X10_chance_X108
      obtain ⟨v2, V, b1, b2', b3⟩ := l132_ok hn hi ht hAB hm h1 (f_X10_chance_X132 (nI i) w (f_X10_chance_L88 (nI n) mt (nI t) kE m) (lN (10 ^ i * 10))) v1 a2
      rw [b1]
      unfold f_X10_chance_X132
      obtain ⟨w2, c1, c2⟩ := l197_ok v2 (f_X10_chance_X197 (nI i) (f_X10_chance_L88 (nI n) mt (nI t) kE m) (lN (10 ^ i * 10)) v2) w
      rw [c1]
      unfold f_X10_chance_X197
      rw [nI_1]
      refine ⟨(lN (10 ^ i * 10), w2, v2), ⟨by rw [Nat.pow_succ], V, fun s hs => by show w2 s = _; rw [c2 s hs]; exact b2' s hs, fun φ => ?_⟩, rfl⟩
      rw [b3 φ, h2 φ, h2 (fun s => φ (tN (A i) (B i) s)), EE_s])
    (fun m s hs => by
      show f_X10_chance_L88 (nI n) mt (nI t) kE (m + 1) s.1 (nI n) s.2.1 s.2.2 = _
      rw [f_X10_chance_L88, if_pos (nI_le (Nat.le_refl _) (by omega))]) 5000 0 (1, w0, v0) (Nat.zero_le _) (by omega) ⟨rfl, _, hw0, fun φ => by
        rw [sm_upd φ (fun _ => 0) 56, sm_0 56 (fun j _ => Nat.mul_zero _), if_pos (by omega)]
        rfl⟩
  dsimp only at e1 h1 h4
  subst e1
  exact ⟨w, v, W, h4, h1, h2⟩
theorem l239_ok {e : Nat} (he : e < 7) {w : Nat → Int64} {W : Nat → Nat} (hW : FW w W) (kE : Int64 → Option (Int64 × (Nat → Int64) × (Nat → Int64))) : f_X10_chance_L239 (nI e) w kE 5000 0 ((8 : Int32) * nI e) = kE (lN (sm (fun s => ind e s * W s) 56)) := by
  obtain ⟨s', h1, h2⟩ := lup (L := fun m (s : Int64) i => f_X10_chance_L239 (nI e) w kE m s (nI (8 * e + i))) (kE := kE) 8 (fun i s => s = lN (sm (fun r => W (8 * e + r)) i))
    (fun m i s hi hs => by
      subst hs
      refine ⟨_, rfl, ?_⟩
      show f_X10_chance_L239 (nI e) w kE (m + 1) (lN (sm (fun r => W (8 * e + r)) i)) (nI (8 * e + i)) = _
      rw [f_X10_chance_L239, m_8, show nI (8 * e) + (8 : Int32) = nI (8 * e + 8) from nI_add _ 8, if_neg (nI_ge (show 8 * e + i < 8 * e + 8 by omega) (by omega)), if_pos (ix_t (by omega) (by decide)), nI_clamp (by omega), nI_1, hW (8 * e + i) (by omega), lN_add]
      rfl)
    (fun m s hs => by
      show f_X10_chance_L239 (nI e) w kE (m + 1) s (nI (8 * e + 8)) = _
      rw [f_X10_chance_L239, m_8, show nI (8 * e) + (8 : Int32) = nI (8 * e + 8) from nI_add _ 8, if_pos (nI_le (Nat.le_refl _) (by omega))]) 5000 0 0 (by decide) (by decide) rfl
  have h3 : sm (fun s => ind e s * W s) 56 = sm (fun r => W (8 * e + r)) 8 := by
    rw [show 56 = 8 * e + (8 + (56 - 8 * e - 8)) by omega, sm_app, sm_app, sm_0 (8 * e) (fun j hj => ?_), sm_0 (56 - 8 * e - 8) (fun j hj => ?_), sm_cong (g := fun r => W (8 * e + r)) 8 (fun j hj => ?_)]
    · omega
    · unfold ind
      rw [if_pos (by omega), Nat.one_mul]
    · unfold ind
      rw [if_neg (by omega), Nat.zero_mul]
    · unfold ind
      rw [if_neg (by omega), Nat.zero_mul]
  rw [h1] at h2
  rw [m_8, h3]
  exact h2
theorem ok_chance : OK_chance := by
  intro hm rd he cr kg la mi pl br rg sz fs sc nr ss fr tt mrd mhm th bk me mt si sg pz ps ms mp hR hQ mk mto w0 v0 p1 p2 p3 p4
  obtain ⟨n, A, B, hn, rfl, rfl, hAB, hf, hmt⟩ := meet_c hR.2.2.2.2.2.2.2.2.1
  unfold f_X9_chance f_X10_chance
  rw [one_ok, mnum_ok, bd_some, bd_some]
  cases hN : isN 7 p1 with
  | false =>
    rw [if_f, if_f]
    exact ⟨_, _, rfl, rfl, rfl, hR, hQ⟩
  | true =>
    rw [if_t, if_t, one_ok, mnum_ok, bd_some, bd_some]
    cases hN2 : isN 7 p2 with
    | false =>
      rw [if_f, if_f]
      exact ⟨_, _, rfl, rfl, rfl, hR, hQ⟩
    | true =>
      obtain ⟨k, hk, rfl⟩ := (isN_in (by decide)).mp hN
      obtain ⟨e, he', rfl⟩ := (isN_in (by decide)).mp hN2
      rw [if_t, if_t]
      rcases rng_ok p3 10 (by decide) (hi := 10) rfl with ⟨g, q⟩ | ⟨g1, g2, q⟩ | ⟨t, ht, rfl, g1, g2, q⟩
      · rw [if_pos g, q, bd_some, if_f]
        exact ⟨_, _, rfl, rfl, rfl, hR, hQ⟩
      · have g3 : (10 : Int32) < p3 := by
          have h1 := n_le g2
          exact rg_lo.mpr (by omega)
        rw [if_neg g1, if_pos g3, q, bd_some, if_f]
        exact ⟨_, _, rfl, rfl, rfl, hR, hQ⟩
      · have g3 : ¬ (10 : Int32) < nI t := fun h => by
          have h1 := rg_lo.mp h
          have h2 := rg_le.mp g2
          omega
        rw [if_neg g1, if_neg g3, q, bd_some, if_t]
        rcases rng_ok p4 1 (by decide) (hi := 1) rfl with ⟨g, q⟩ | ⟨g1, g2, q⟩ | ⟨p, hp, rfl, g1, g2, q⟩
        · rw [if_pos g, q, bd_some, if_f]
          exact ⟨_, _, rfl, rfl, rfl, hR, hQ⟩
        · rw [if_neg g1, if_neg g2, q, bd_some, if_f]
          exact ⟨_, _, rfl, rfl, rfl, hR, hQ⟩
        · rw [if_neg g1, if_pos g2, q, bd_some, if_t]
          obtain ⟨kg', to', c1⟩ := wof_ok hn hk he' ht hAB hf mk mto
          obtain ⟨w1, m1, m2⟩ := l48_ok hk (f_X10_chance_X48 (nI n) mt v0 (nI e) (nI t) (nI p)) w0
          rw [m1]
          unfold f_X10_chance_X48
          obtain ⟨w, v, W, m3, m4, m5⟩ := l88_ok hn hk ht hAB hmt (f_X10_chance_X88 (nI e) (nI p)) w1 v0 m2
          rw [m3]
          unfold f_X10_chance_X88
          rw [l239_ok he' m4, m5]
          unfold f_X10_chance_X239
          have u1 : EE A B k t n (ind e) ≤ 10 ^ n := EE_le ht n _ (fun s => by unfold ind; split <;> omega)
          have u2 : 10 ^ n ≤ 10 ^ 8 := Nat.pow_le_pow_right (by decide) hn
          have u3 : 0 < 10 ^ n := Nat.pow_pos (by decide)
          generalize EE A B k t n (ind e) = u at u1 c1
          rw [c1, bd_some, wall_ok hn, bd_some]
          generalize 10 ^ n = l at u1 u2 u3
          have u4 : (10 : Nat) ^ 8 = 100000000 := by decide
          rw [u4] at u2
          have g4 : f_X9_commonDivisor (lN l) (lN u) = some (lN (Nat.gcd l u)) := cg_loop 27 l u 5000 0 (by omega) (by omega) (by omega) (by omega) (by omega)
          have g5 : Nat.gcd u l = Nat.gcd l u := Nat.gcd_comm u l
          have g6 : 0 < Nat.gcd l u := Nat.gcd_pos_of_pos_left u u3
          have g7 : Nat.gcd l u ≤ l := Nat.le_of_dvd u3 (Nat.gcd_dvd_left l u)
          dsimp only
          rw [g4, bd_some, mg_loop _ 27 u l 5000 (by omega) (by omega) (by omega) (by omega), g5]
          generalize Nat.gcd l u = d at g6 g7
          unfold f_X9_divided f_X10_chance_X277
          have nc : ¬ lg_cmp (lN d) (0 : Int64) = 0 := fun c => by have := (cmp0 (b := d) (by omega)).mp c; omega
          have nd : ¬ lN d = (0 : Int64) := fun c => by have := (ln0 (b := d) (by omega)).mp c; omega
          by_cases p0 : nI p = 0
          · rw [if_pos p0, if_pos p0, if_neg nc, if_neg nd, if_neg nd, bd_some]
            exact ⟨_, _, rfl, rfl, rfl, hR, hQ⟩
          · rw [if_neg p0, if_neg p0, if_neg nc, if_neg nd, if_neg nd, bd_some]
            exact ⟨_, _, rfl, rfl, rfl, hR, hQ⟩
