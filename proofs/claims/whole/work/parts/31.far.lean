/-! Floyd and Warshall's table -/
def w0 (rd : Nat → Int32) (p q : Nat) : Nat := if p = q then 0 else if bt (rd p) q then 1 else 1000000
def fw (rd : Nat → Int32) : Nat → Nat → Nat → Nat
  | 0 => w0 rd
  | k + 1 => fun p q => if fw rd k p q ≤ fw rd k p k + fw rd k k q then fw rd k p q else fw rd k p k + fw rd k k q
theorem fw_s (rd : Nat → Int32) (k p q : Nat) : fw rd (k + 1) p q = if fw rd k p q ≤ fw rd k p k + fw rd k k q then fw rd k p q else fw rd k p k + fw rd k k q := rfl
theorem fw_d (rd : Nat → Int32) : ∀ k p, fw rd k p p = 0 := by
  intro k
  induction k with
  | zero => intro p; exact if_pos rfl
  | succ k ih => intro p; rw [fw_s, ih p, if_pos (Nat.zero_le _)]
theorem fw_le (rd : Nat → Int32) : ∀ k p q, fw rd k p q ≤ 1000000 := by
  intro k
  induction k with
  | zero =>
    intro p q
    show w0 rd p q ≤ _
    unfold w0
    split
    · omega
    · split <;> omega
  | succ k ih =>
    intro p q
    rw [fw_s]
    have := ih p q
    split <;> omega
theorem fw_c (rd : Nat → Int32) (k p : Nat) : fw rd (k + 1) p k = fw rd k p k := by
  rw [fw_s, fw_d, if_pos (by omega)]
theorem fw_r (rd : Nat → Int32) (k q : Nat) : fw rd (k + 1) k q = fw rd k k q := by
  rw [fw_s, fw_d, if_pos (by omega)]
theorem fw_dn (rd : Nat → Int32) (k p q : Nat) : fw rd (k + 1) p q ≤ fw rd k p q ∧ fw rd (k + 1) p q ≤ fw rd k p k + fw rd k k q := by
  rw [fw_s]
  split <;> omega
theorem fw_cs (rd : Nat → Int32) (k p q : Nat) : fw rd (k + 1) p q = fw rd k p q ∨ fw rd (k + 1) p q = fw rd k p k + fw rd k k q := by
  rw [fw_s]
  split
  · exact Or.inl rfl
  · exact Or.inr rfl
theorem fw_tri (rd : Nat → Int32) : ∀ k r p q, r < k → fw rd k p q ≤ fw rd k p r + fw rd k r q := by
  intro k
  induction k with
  | zero => intro r p q h; omega
  | succ k ih =>
    intro r p q h
    obtain ⟨d1, d2⟩ := fw_dn rd k p q
    by_cases e : r = k
    · subst e
      rw [fw_c, fw_r]
      exact d2
    · have hr : r < k := by omega
      have i1 := ih r p q hr
      have i2 := ih r k q hr
      have i3 := ih r p k hr
      rcases fw_cs rd k p r with e1 | e1 <;> rcases fw_cs rd k r q with e2 | e2 <;> omega
theorem fw_up (rd : Nat → Int32) (k p q : Nat) : fw rd k p q ≤ w0 rd p q := by
  induction k with
  | zero => exact Nat.le_refl _
  | succ k ih => exact Nat.le_trans (fw_dn rd k p q).1 ih
theorem fw_real {rd : Nat → Int32} : ∀ k p q, k ≤ 12 → p < 12 → q < 12 → fw rd k p q < 1000000 → Rk rd p (fw rd k p q) q := by
  intro k
  induction k with
  | zero =>
    intro p q _ hp hq h
    show Rk rd p (w0 rd p q) q
    have h : w0 rd p q < 1000000 := h
    unfold w0 at h ⊢
    by_cases e : p = q
    · rw [if_pos e]
      exact (Rk_0 (by omega) (by omega)).mpr e.symm
    · rw [if_neg e] at h ⊢
      cases g : bt (rd p) q with
      | false => rw [g, if_neg (by decide)] at h; omega
      | true => rw [if_pos rfl]; exact Rk_one hp g
  | succ k ih =>
    intro p q hk hp hq h
    rcases fw_cs rd k p q with e | e
    · rw [e] at h ⊢
      exact ih p q (by omega) hp hq h
    · rw [e] at h ⊢
      exact Rk_cat (ih p k (by omega) hp (by omega) (by omega)) (by omega) _ q (by omega) (ih k q (by omega) (by omega) hq (by omega))
theorem fw_bound {rd : Nat → Int32} {p : Nat} (hp : p < 12) : ∀ n q, q < 12 → Rk rd p n q → fw rd 12 p q ≤ n := by
  intro n
  induction n with
  | zero =>
    intro q hq h
    rw [(Rk_0 (by omega) (by omega)).mp h, fw_d]
    exact Nat.le_refl 0
  | succ n ih =>
    intro q hq h
    rcases Rk_s.mp h with h | ⟨s, hs, h1, h2⟩
    · have := ih q hq h
      omega
    · have h3 := ih s hs h1
      have h4 := fw_tri rd 12 s p q hs
      have h5 := fw_up rd 12 s q
      have h6 : w0 rd s q ≤ 1 := by
        unfold w0
        rw [h2]
        split <;> simp
      omega
theorem fw_11 {rd : Nat → Int32} {p q : Nat} (hp : p < 12) (hq : q < 12) (h : fw rd 12 p q < 1000000) : fw rd 12 p q ≤ 11 := fw_bound hp 11 q hq (Rk_11 hp hq (fw_real 12 p q (Nat.le_refl _) hp hq h))
/-- q within n of p -/
theorem fw_iff {rd : Nat → Int32} {p q n : Nat} (hp : p < 12) (hq : q < 12) (hn : n < 1000000) : Rk rd p n q ↔ fw rd 12 p q ≤ n := by
  constructor
  · exact fun h => fw_bound hp n q hq h
  · intro h
    have := Rk_up (n - fw rd 12 p q) (fw_real (rd := rd) 12 p q (Nat.le_refl _) hp hq (by omega))
    rw [show fw rd 12 p q + (n - fw rd 12 p q) = n by omega] at this
    exact this
/-! the model lays it -/
theorem fw_31 (rd : Nat → Int32) (k p q : Nat) : fw rd k p q < 2 ^ 31 := by
  have := fw_le rd k p q
  omega
theorem lay1 (rd : Nat → Int32) {p : Nat} (hp : p < 12) (kE : (Nat → Int32) → Option (Nat → Int32)) (ap : Nat → Int32) (h0 : ∀ r q, r < p → q < 12 → ap (12 * r + q) = nI (w0 rd r q)) : ∃ ap', (∀ r q, r < p + 1 → q < 12 → ap' (12 * r + q) = nI (w0 rd r q)) ∧ f_X10_layFar_L10 rd (nI p) kE 5000 0 ap = kE ap' := by
  obtain ⟨g, h1, h2⟩ := lup (L := fun n (a : Nat → Int32) i => f_X10_layFar_L10 rd (nI p) kE n (nI i) a) (kE := kE) 12 (fun i a => (∀ r q, r < p → q < 12 → a (12 * r + q) = nI (w0 rd r q)) ∧ ∀ q, q < i → a (12 * p + q) = nI (w0 rd p q))
    (fun n i a hi ha => by
      show ∃ s', _ ∧ f_X10_layFar_L10 rd (nI p) kE (n + 1) (nI i) a = f_X10_layFar_L10 rd (nI p) kE n (nI (i + 1)) s'
      refine ⟨upd a (12 * p + i) (nI (w0 rd p i)), ⟨fun r q hr hq => ?_, fun q hq => ?_⟩, ?_⟩
      · rw [pk_un (by omega)]; exact ha.1 r q hr hq
      · by_cases e : q = i
        · rw [e, pk_us]
        · rw [pk_un (by omega)]; exact ha.2 q (by omega)
      · rw [f_X10_layFar_L10, if_neg (show ¬ (12 : Int32) ≤ nI i from nI_ge hi (by decide))]
        simp only [m_12, nI_add, nI_1]
        have hix : ix (nI (12 * p + i)) 144 = true := ix_t (by omega) (by decide)
        have hcl : (nI (12 * p + i)).toNatClampNeg = 12 * p + i := nI_clamp (by omega)
        unfold w0
        by_cases e : p = i
        · subst e
          rw [if_pos rfl, if_pos hix, hcl, if_pos rfl]
          rfl
        · rw [if_neg (fun g => e (nI_inj' (by omega) (by omega) g)), if_pos (ix_t hp (by decide)), nI_clamp (show p < 2 ^ 31 by omega), has_ok _ (by omega), bd_some, if_neg e]
          cases bt (rd p) i
          · rw [if_f, if_pos hix, hcl]; rfl
          · rw [if_t, if_pos hix, hcl]; rfl)
    (fun n a ha => by
      show f_X10_layFar_L10 rd (nI p) kE (n + 1) (nI 12) a = _
      rw [f_X10_layFar_L10, if_pos (by decide)]) 5000 0 ap (by decide) (by decide) ⟨h0, fun q hq => absurd hq (Nat.not_lt_zero q)⟩
  refine ⟨g, fun r q hr hq => ?_, h2⟩
  by_cases e : r = p
  · rw [e]; exact h1.2 q hq
  · exact h1.1 r q (by omega) hq
theorem lay2 (rd : Nat → Int32) {v p : Nat} (hv : v < 12) (hp : p < 12) (kE : (Nat → Int32) → Option (Nat → Int32)) (ap : Nat → Int32) (h0 : ∀ r q, r < 12 → q < 12 → ap (12 * r + q) = nI (if r < p then fw rd (v + 1) r q else fw rd v r q)) : ∃ ap', (∀ r q, r < 12 → q < 12 → ap' (12 * r + q) = nI (if r < p + 1 then fw rd (v + 1) r q else fw rd v r q)) ∧ f_X10_layFar_L85 (nI v) (nI p) kE 5000 0 ap = kE ap' := by
  obtain ⟨g, h1, h2⟩ := lup (L := fun n (a : Nat → Int32) i => f_X10_layFar_L85 (nI v) (nI p) kE n (nI i) a) (kE := kE) 12 (fun i a => ∀ r q, r < 12 → q < 12 → a (12 * r + q) = nI (if r < p ∨ (r = p ∧ q < i) then fw rd (v + 1) r q else fw rd v r q))
    (fun n i a hi ha => by
      show ∃ s', _ ∧ f_X10_layFar_L85 (nI v) (nI p) kE (n + 1) (nI i) a = f_X10_layFar_L85 (nI v) (nI p) kE n (nI (i + 1)) s'
      refine ⟨upd a (12 * p + i) (nI (fw rd (v + 1) p i)), fun r q hr hq => ?_, ?_⟩
      · by_cases e : r = p ∧ q = i
        · rw [e.1, e.2, pk_us, if_pos (by omega)]
        · rw [pk_un (by omega), ha r q hr hq]
          by_cases c : r < p ∨ (r = p ∧ q < i)
          · rw [if_pos c, if_pos (by omega)]
          · rw [if_neg c, if_neg (by omega)]
      · have a1 : a (12 * p + i) = nI (fw rd v p i) := by rw [ha p i hp hi, if_neg (by omega)]
        have a2 : a (12 * p + v) = nI (fw rd v p v) := by
          rw [ha p v hp hv]
          split
          · rw [fw_c]
          · rfl
        have a3 : a (12 * v + i) = nI (fw rd v v i) := by
          rw [ha v i hv hi]
          split
          · rw [fw_r]
          · rfl
        rw [f_X10_layFar_L85, if_neg (show ¬ (12 : Int32) ≤ nI i from nI_ge hi (by decide))]
        simp only [m_12, nI_add, nI_1]
        rw [if_pos (ix_t (by omega) (by decide)), if_pos (ix_t (by omega) (by decide)), if_pos (ix_t (by omega) (by decide)), nI_clamp (show 12 * p + i < 2 ^ 31 by omega), nI_clamp (show 12 * p + v < 2 ^ 31 by omega), nI_clamp (show 12 * v + i < 2 ^ 31 by omega), a1, a2, a3, nI_add, fw_s]
        have b1 := fw_le rd v p i
        have b2' := fw_le rd v p v
        have b3 := fw_le rd v v i
        by_cases c : fw rd v p i ≤ fw rd v p v + fw rd v v i
        · rw [if_pos (nI_le c (by omega)), if_pos c]
        · rw [if_neg (nI_ge (by omega) (by omega)), if_neg c])
    (fun n a ha => by
      show f_X10_layFar_L85 (nI v) (nI p) kE (n + 1) (nI 12) a = _
      rw [f_X10_layFar_L85, if_pos (by decide)]) 5000 0 ap (by decide) (by decide) (fun r q hr hq => by
        rw [h0 r q hr hq]
        by_cases c : r < p
        · rw [if_pos c, if_pos (by omega)]
        · rw [if_neg c, if_neg (by omega)])
  refine ⟨g, fun r q hr hq => ?_, h2⟩
  rw [h1 r q hr hq]
  by_cases c : r < p + 1
  · rw [if_pos (by omega), if_pos c]
  · rw [if_neg (by omega), if_neg c]
theorem lay3 (rd : Nat → Int32) {v : Nat} (hv : v < 12) (kE : (Nat → Int32) → Option (Nat → Int32)) (ap : Nat → Int32) (h0 : ∀ r q, r < 12 → q < 12 → ap (12 * r + q) = nI (fw rd v r q)) : ∃ ap', (∀ r q, r < 12 → q < 12 → ap' (12 * r + q) = nI (fw rd (v + 1) r q)) ∧ f_X10_layFar_L77 (nI v) kE 5000 0 ap = kE ap' := by
  obtain ⟨g, h1, h2⟩ := lup (L := fun n (a : Nat → Int32) i => f_X10_layFar_L77 (nI v) kE n (nI i) a) (kE := kE) 12 (fun i a => ∀ r q, r < 12 → q < 12 → a (12 * r + q) = nI (if r < i then fw rd (v + 1) r q else fw rd v r q))
    (fun n i a hi ha => by
      show ∃ s', _ ∧ f_X10_layFar_L77 (nI v) kE (n + 1) (nI i) a = f_X10_layFar_L77 (nI v) kE n (nI (i + 1)) s'
      rw [f_X10_layFar_L77, if_neg (show ¬ (12 : Int32) ≤ nI i from nI_ge hi (by decide))]
      obtain ⟨a', k1, k2⟩ := lay2 rd hv hi (f_X10_layFar_X85 (nI i) (f_X10_layFar_L77 (nI v) kE n)) a ha
      refine ⟨a', k1, k2.trans ?_⟩
      unfold f_X10_layFar_X85
      rw [nI_1])
    (fun n a ha => by
      show f_X10_layFar_L77 (nI v) kE (n + 1) (nI 12) a = _
      rw [f_X10_layFar_L77, if_pos (by decide)]) 5000 0 ap (by decide) (by decide) (fun r q hr hq => by rw [h0 r q hr hq, if_neg (by omega)])
  exact ⟨g, fun r q hr hq => by rw [h1 r q hr hq, if_pos hr], h2⟩
theorem layfar_ok (rd ap : Nat → Int32) : ∃ ap', f_X10_layFar rd ap = some ap' ∧ ∀ p q, p < 12 → q < 12 → ap' (12 * p + q) = nI (fw rd 12 p q) := by
  unfold f_X10_layFar
  obtain ⟨g, h1, h2⟩ := lup (L := fun n (a : Nat → Int32) i => f_X10_layFar_L2 rd f_X10_layFar_X2 n (nI i) a) (kE := f_X10_layFar_X2) 12 (fun i a => ∀ r q, r < i → q < 12 → a (12 * r + q) = nI (w0 rd r q))
    (fun n i a hi ha => by
      show ∃ s', _ ∧ f_X10_layFar_L2 rd f_X10_layFar_X2 (n + 1) (nI i) a = f_X10_layFar_L2 rd f_X10_layFar_X2 n (nI (i + 1)) s'
      rw [f_X10_layFar_L2, if_neg (show ¬ (12 : Int32) ≤ nI i from nI_ge hi (by decide))]
      obtain ⟨a', k1, k2⟩ := lay1 rd hi (f_X10_layFar_X10 (nI i) (f_X10_layFar_L2 rd f_X10_layFar_X2 n)) a ha
      refine ⟨a', k1, k2.trans ?_⟩
      unfold f_X10_layFar_X10
      rw [nI_1])
    (fun n a ha => by
      show f_X10_layFar_L2 rd f_X10_layFar_X2 (n + 1) (nI 12) a = _
      rw [f_X10_layFar_L2, if_pos (by decide)]) 5000 0 ap (by decide) (by decide) (fun r q hr => absurd hr (Nat.not_lt_zero r))
  obtain ⟨g', h3, h4⟩ := lup (L := fun n (a : Nat → Int32) i => f_X10_layFar_L69 f_X10_layFar_X69 n (nI i) a) (kE := f_X10_layFar_X69) 12 (fun i a => ∀ r q, r < 12 → q < 12 → a (12 * r + q) = nI (fw rd i r q))
    (fun n i a hi ha => by
      show ∃ s', _ ∧ f_X10_layFar_L69 f_X10_layFar_X69 (n + 1) (nI i) a = f_X10_layFar_L69 f_X10_layFar_X69 n (nI (i + 1)) s'
      rw [f_X10_layFar_L69, if_neg (show ¬ (12 : Int32) ≤ nI i from nI_ge hi (by decide))]
      obtain ⟨a', k1, k2⟩ := lay3 rd hi (f_X10_layFar_X77 (nI i) (f_X10_layFar_L69 f_X10_layFar_X69 n)) a ha
      refine ⟨a', k1, k2.trans ?_⟩
      unfold f_X10_layFar_X77
      rw [nI_1])
    (fun n a ha => by
      show f_X10_layFar_L69 f_X10_layFar_X69 (n + 1) (nI 12) a = _
      rw [f_X10_layFar_L69, if_pos (by decide)]) 5000 0 g (by decide) (by decide) h1
  refine ⟨g', ?_, h3⟩
  refine Eq.trans h2 ?_
  unfold f_X10_layFar_X2
  exact h4
