def cls (rd : Nat → Int32) (p q : Nat) : Nat := if fw rd 12 p q < 12 then fw rd 12 p q else 12
def cnd (rd : Nat → Int32) (w : Int32) (p i d : Nat) : Nat := fb_ct (fun q => bt w q && decide (cls rd p q = d)) i
def mxl (f : Nat → Nat) : Nat → Nat
  | 0 => 0
  | n + 1 => if mxl f n < f n then f n else mxl f n
theorem nI_mx {a b : Nat} (ha : a < 2 ^ 31) (hb : b < 2 ^ 31) : (if nI a < nI b then nI b else nI a) = nI (if a < b then b else a) := by
  by_cases h : a < b
  · rw [if_pos (nI_lt h hb), if_pos h]
  · rw [if_neg (fun g => h ((nI_ltI ha hb).mp g)), if_neg h]
theorem cnd_le (rd : Nat → Int32) (w : Int32) (p i d : Nat) : cnd rd w p i d ≤ i := fb_ct_le _ _
theorem mxl_le {f : Nat → Nat} {m : Nat} (h : ∀ d, f d ≤ m) : ∀ n, mxl f n ≤ m := by
  intro n
  induction n with
  | zero => exact Nat.zero_le _
  | succ n ih =>
    rw [mxl]
    have := h n
    split <;> omega
def mL (rd : Nat → Int32) (w : Int32) (p : Nat) : Nat := mxl (cnd rd w p 12) 13
theorem mL_le (rd : Nat → Int32) (w : Int32) (p : Nat) : mL rd w p ≤ 12 := mxl_le (fun d => cnd_le rd w p 12 d) 13
theorem cn_cls {rd : Nat → Int32} {w s : Int32} {p d : Nat} (h : ∀ q, q < 12 → (bt s q = true ↔ (bt w q = true ∧ cls rd p q = d))) : cn s = cnd rd w p 12 d := by
  unfold cn cnd
  refine fb_ct_cong (fun q hq => ?_)
  have := h q hq
  cases h1 : bt s q <;> cases h2 : bt w q <;> simp_all
theorem sub_in {w s : Int32} (hw : inR w 4096) (h : ∀ j, j < 32 → bt s j = true → bt w j = true) : inR s 4096 := inR_of (m := 12) (fun i hi h32 => by
  cases g : bt s i with
  | false => rfl
  | true =>
    have := h i h32 g
    rw [inR_hi (m := 12) hw hi] at this
    cases this)
theorem most_ok {rd : Nat → Int32} {w : Int32} (hw : inR w 4096) {p : Nat} (hp : p < 12) : f_X2_mostLeft rd (nI p) w = some (nI (mL rd w p)) := by
  unfold f_X2_mostLeft
  have e0 : cn (bI p &&& w) = cnd rd w p 12 0 := cn_cls (fun q hq => by
    rw [b_and, Bool.and_eq_true, bt_bI (by omega) (by omega), decide_eq_true_iff]
    have h1 := fw_iff (rd := rd) hp hq (n := 0) (by decide)
    have h2 := Rk_0 (rd := rd) (a := p) (b := q) (by omega) (by omega)
    unfold cls
    constructor
    · rintro ⟨g1, g2⟩
      have := h1.mp (h2.mpr g1)
      rw [if_pos (by omega)]
      exact ⟨g2, by omega⟩
    · rintro ⟨g1, g2⟩
      refine ⟨h2.mp (h1.mpr ?_), g1⟩
      split at g2 <;> omega)
  have hb0 : f_J6_bitCount_0f7a4 (((1 : Int32) <<< (nI p &&& 31)) &&& w) = some (nI (cn (bI p &&& w))) := bc_ok (s := bI p &&& w) (sub_in hw (fun j hj h => by rw [b_and, Bool.and_eq_true] at h; exact h.2))
  rw [hb0, bd_some, e0]
  obtain ⟨⟨x, y⟩, ⟨h1, h2⟩, h3⟩ := lup (L := fun f (s : Int32 × Int32) i => f_X2_mostLeft_L15 rd w (f_X2_mostLeft_X15 w) f s.1 s.2 (nI (i + 1))) (kE := fun s => f_X2_mostLeft_X15 w s.1 s.2) 11
    (fun i s => s.1 = rcs rd p i ∧ s.2 = nI (mxl (cnd rd w p 12) (i + 1)))
    (fun f i s hi hs => by
      obtain ⟨x, y⟩ := s
      obtain ⟨e1, e2⟩ := hs
      dsimp only at e1 e2
      subst e1
      subst e2
      refine ⟨(rcs rd p (i + 1), nI (mxl (cnd rd w p 12) (i + 2))), ⟨rfl, rfl⟩, ?_⟩
      dsimp only
      have ec : cn ((rcs rd p (i + 1) &&& (rcs rd p i ^^^ (-1))) &&& w) = cnd rd w p 12 (i + 1) := cn_cls (fun q hq => by
        rw [b_and, b_and, Bool.and_eq_true, Bool.and_eq_true, bt_x _ (by omega)]
        have g1 := fw_iff (rd := rd) hp hq (n := i) (by omega)
        have g2 := fw_iff (rd := rd) hp hq (n := i + 1) (by omega)
        unfold Rk at g1 g2
        rw [g1, g2]
        unfold cls
        constructor
        · rintro ⟨⟨a1, a2⟩, a3⟩
          rw [if_pos (by omega)]
          exact ⟨a3, by omega⟩
        · rintro ⟨a1, a2⟩
          split at a2
          · exact ⟨⟨by omega, by omega⟩, a1⟩
          · omega)
      have hbc : f_J6_bitCount_0f7a4 ((rcs rd p (i + 1) &&& (rcs rd p i ^^^ (-1))) &&& w) = some (nI (cn ((rcs rd p (i + 1) &&& (rcs rd p i ^^^ (-1))) &&& w))) := bc_ok (sub_in hw (fun j hj h => by rw [b_and, Bool.and_eq_true] at h; exact h.2))
      have ew : wd rd (rcs rd p i) = rcs rd p (i + 1) := rfl
      have l1 := mxl_le (fun d => cnd_le rd w p 12 d) (i + 1)
      have l2 := cnd_le rd w p 12 (i + 1)
      rw [f_X2_mostLeft_L15, if_neg (show ¬ (12 : Int32) ≤ nI (i + 1) from nI_ge (a := i + 1) (b := 12) (by omega) (by decide)), wd_ok, bd_some, ew, hbc, bd_some, ec, nI_mx (by omega) (by omega), nI_1]
      rfl)
    (fun f s hs => by
      show f_X2_mostLeft_L15 rd w (f_X2_mostLeft_X15 w) (f + 1) s.1 s.2 (nI 12) = _
      rw [f_X2_mostLeft_L15, if_pos (by decide)]) 5000 0 (bI p, nI (cnd rd w p 12 0)) (by decide) (by decide) ⟨rfl, by
        show nI _ = nI (if mxl (cnd rd w p 12) 0 < cnd rd w p 12 0 then cnd rd w p 12 0 else mxl (cnd rd w p 12) 0)
        congr 1
        show _ = (if 0 < cnd rd w p 12 0 then cnd rd w p 12 0 else 0)
        split <;> omega⟩
  dsimp only at h1 h2 h3
  subst h1
  subst h2
  refine Eq.trans h3 ?_
  unfold f_X2_mostLeft_X15
  have ec : cn (w &&& (rcs rd p 11 ^^^ (-1))) = cnd rd w p 12 12 := cn_cls (fun q hq => by
    rw [b_and, Bool.and_eq_true, bt_x _ (by omega)]
    have g1 := fw_iff (rd := rd) hp hq (n := 11) (by omega)
    unfold Rk at g1
    rw [g1]
    unfold cls
    constructor
    · rintro ⟨a1, a2⟩
      rw [if_neg (by omega)]
      exact ⟨a1, rfl⟩
    · rintro ⟨a1, a2⟩
      split at a2
      · omega
      · exact ⟨a1, by omega⟩)
  have hbc : f_J6_bitCount_0f7a4 (w &&& (rcs rd p 11 ^^^ (-1))) = some (nI (cn (w &&& (rcs rd p 11 ^^^ (-1))))) := bc_ok (sub_in hw (fun j hj h => by rw [b_and, Bool.and_eq_true] at h; exact h.1))
  have l1 := mxl_le (fun d => cnd_le rd w p 12 d) (11 + 1)
  have l2 := cnd_le rd w p 12 12
  rw [hbc, bd_some, ec, nI_mx (by omega) (by omega)]
  rfl
def bst (m : Nat → Nat) : Nat → Nat × Nat
  | 0 => (0, m 0)
  | k + 1 => if (bst m k).2 ≤ m (k + 1) then bst m k else (k + 1, m (k + 1))
theorem bst_le {m : Nat → Nat} (h : ∀ p, m p ≤ 12) : ∀ k, (bst m k).1 ≤ k ∧ (bst m k).2 ≤ 12 := by
  intro k
  induction k with
  | zero => exact ⟨Nat.le_refl 0, h 0⟩
  | succ k ih =>
    rw [bst]
    split
    · exact ⟨by omega, ih.2⟩
    · exact ⟨Nat.le_refl _, h _⟩
theorem cask_loop {rd : Nat → Int32} {w : Int32} (hw : inR w 4096) (kE : Int32 → Int32 → Option Int32) : f_X9_ask_L56 rd w kE 5000 0 (nI (mL rd w 0)) 1 = kE (nI (bst (mL rd w) 11).1) (nI (bst (mL rd w) 11).2) := by
  obtain ⟨⟨x, y⟩, ⟨h1, h2⟩, h3⟩ := lup (L := fun f (s : Int32 × Int32) i => f_X9_ask_L56 rd w kE f s.1 s.2 (nI (i + 1))) (kE := fun s => kE s.1 s.2) 11
    (fun i s => s.1 = nI (bst (mL rd w) i).1 ∧ s.2 = nI (bst (mL rd w) i).2)
    (fun f i s hi hs => by
      obtain ⟨x, y⟩ := s
      obtain ⟨e1, e2⟩ := hs
      dsimp only at e1 e2
      subst e1
      subst e2
      refine ⟨(nI (bst (mL rd w) (i + 1)).1, nI (bst (mL rd w) (i + 1)).2), ⟨rfl, rfl⟩, ?_⟩
      dsimp only
      have l1 := (bst_le (mL_le rd w) i).2
      have l2 := mL_le rd w (i + 1)
      rw [f_X9_ask_L56, if_neg (show ¬ (12 : Int32) ≤ nI (i + 1) from nI_ge (a := i + 1) (b := 12) (by omega) (by decide)), most_ok hw (by omega), bd_some, nI_1, bst]
      by_cases g : (bst (mL rd w) i).2 ≤ mL rd w (i + 1)
      · rw [if_pos (nI_le g (by omega)), if_pos g]
      · rw [if_neg (nI_ge (by omega) (by omega)), if_neg g])
    (fun f s hs => by
      show f_X9_ask_L56 rd w kE (f + 1) s.1 s.2 (nI 12) = _
      rw [f_X9_ask_L56, if_pos (by decide)]) 5000 0 (0, nI (mL rd w 0)) (by decide) (by decide) ⟨rfl, rfl⟩
  dsimp only at h1 h2 h3
  rw [h1, h2] at h3
  exact h3
