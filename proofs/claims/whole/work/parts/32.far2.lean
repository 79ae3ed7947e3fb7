def dI (rd : Nat → Int32) (a b : Nat) : Int32 := if fw rd 12 a b < 1000000 then nI (fw rd 12 a b) else -6
theorem dist_loop {rd : Nat → Int32} {a b : Nat} (ha : a < 12) (hb : b < 12) : ∀ (d i fuel : Nat), i + d = 12 → d < fuel → (∀ k, k < i → ¬ Rk rd a k b) → f_X2_distance_L7 rd (nI b) f_X2_distance_X7 fuel (rcs rd a i) (nI i) = some (dI rd a b) := by
  intro d
  induction d with
  | zero =>
    intro i fuel hi hf hn
    obtain ⟨n, rfl⟩ : ∃ n, fuel = n + 1 := ⟨fuel - 1, by omega⟩
    obtain rfl : i = 12 := by omega
    rw [f_X2_distance_L7, if_pos (by decide)]
    unfold f_X2_distance_X7 dI
    rw [if_neg]
    intro h
    exact hn 11 (by decide) ((fw_iff ha hb (by decide)).mpr (fw_11 ha hb h))
  | succ d ih =>
    intro i fuel hi hf hn
    obtain ⟨n, rfl⟩ : ∃ n, fuel = n + 1 := ⟨fuel - 1, by omega⟩
    rw [f_X2_distance_L7, if_neg (show ¬ (12 : Int32) ≤ nI i from nI_ge (a := i) (b := 12) (by omega) (by decide)), holds_ok _ (by omega), bd_some]
    cases g : bt (rcs rd a i) b with
    | true =>
      have h1 := (fw_iff (rd := rd) ha hb (n := i) (by omega)).mp g
      have h2 : fw rd 12 a b = i := by
        rcases Nat.eq_zero_or_pos i with e | e
        · omega
        · have h3 : ¬ fw rd 12 a b ≤ i - 1 := fun h => hn (i - 1) (by omega) ((fw_iff ha hb (by omega)).mpr h)
          omega
      rw [if_t]
      unfold dI
      rw [if_pos (by omega), h2]
    | false =>
      rw [if_f, wd_ok, bd_some, nI_1]
      refine ih (i + 1) n (by omega) (by omega) (fun k hk h => ?_)
      by_cases e : k = i
      · rw [e] at h
        unfold Rk at h
        rw [g] at h
        cases h
      · exact hn k (by omega) h
theorem dist_ok {rd : Nat → Int32} {a b : Nat} (ha : a < 12) (hb : b < 12) : f_X2_distance rd (nI a) (nI b) = some (dI rd a b) := dist_loop ha hb 12 0 5000 (by decide) (by decide) (fun k hk => absurd hk (Nat.not_lt_zero k))
theorem w0_cong {rd md : Nat → Int32} (h : ∀ p, p < 12 → md p = rd p) {p q : Nat} (hp : p < 12) : w0 md p q = w0 rd p q := by
  unfold w0
  rw [h p hp]
theorem fw_cong {rd md : Nat → Int32} (h : ∀ p, p < 12 → md p = rd p) : ∀ k p q, k ≤ 12 → p < 12 → fw md k p q = fw rd k p q := by
  intro k
  induction k with
  | zero => intro p q _ hp; exact w0_cong h hp
  | succ k ih =>
    intro p q hk hp
    rw [fw_s, fw_s, ih p q (by omega) hp, ih p k (by omega) hp, ih k q (by omega) (by omega)]
theorem mfar_ok (md ap : Nat → Int32) {a b : Nat} (ha : a < 12) (hb : b < 12) : ∃ ap', f_X10_far md ap (nI a) (nI b) = some (dI md a b, ap') := by
  obtain ⟨ap', h1, h2⟩ := layfar_ok md ap
  refine ⟨ap', ?_⟩
  unfold f_X10_far
  rw [mplace_ok, bd_some, isN_t (by decide) ha, if_t, mplace_ok, bd_some, isN_t (by decide) hb, if_t, h1, bd_some]
  simp only [m_12, nI_add]
  rw [if_pos (ix_t (by omega) (by decide)), nI_clamp (by omega), h2 a b ha hb]
  have hb1 := fw_le md 12 a b
  unfold dI
  by_cases g : fw md 12 a b < 1000000
  · rw [if_pos ((lt_lit (a := 1000000) (by decide) (by omega)).mpr g), if_pos g]
  · rw [if_neg (fun e => g ((lt_lit (a := 1000000) (by decide) (by omega)).mp e)), if_neg g]
theorem ok_far : OK_far := by
  intro hm rd he cr kg la mi pl br rg sz fs sc nr ss fr tt mrd mhm th bk me mt si sg pz ps ms mp hR hQ ap p1 p2
  by_cases hN : inR p1 12 ∧ inR p2 12
  · obtain ⟨⟨a, ha, rfl⟩, ⟨b, hb, rfl⟩⟩ := hN
    obtain ⟨ap', e1⟩ := mfar_ok mrd ap ha hb
    have e2 : f_X9_far rd (nI a) (nI b) = some (dI rd a b) := by
      unfold f_X9_far
      rw [place_ok, bd_some, isN_t (by decide) ha, if_t, place_ok, bd_some, isN_t (by decide) hb, if_t, dist_ok ha hb, bd_some]
    have e3 : dI mrd a b = dI rd a b := by
      unfold dI
      rw [fw_cong hR.1 12 a b (Nat.le_refl _) ha]
    rw [e3] at e1
    generalize dI rd a b = z at e1 e2
    exact ⟨_, _, e2, e1, rfl, hR, hQ⟩
  · have e1 : f_X10_far mrd ap p1 p2 = some (-1, ap) := by
      unfold f_X10_far
      rw [mplace_ok, bd_some]
      cases g1 : isN 12 p1 with
      | false => rw [if_f]
      | true =>
        rw [if_t, mplace_ok, bd_some]
        cases g2 : isN 12 p2 with
        | false => rw [if_f]
        | true => exact absurd ⟨(isN_in (by decide)).mp g1, (isN_in (by decide)).mp g2⟩ hN
    have e2 : f_X9_far rd p1 p2 = some (-1) := by
      unfold f_X9_far
      rw [place_ok, bd_some]
      cases g1 : isN 12 p1 with
      | false => rw [if_f]
      | true =>
        rw [if_t, place_ok, bd_some]
        cases g2 : isN 12 p2 with
        | false => rw [if_f]
        | true => exact absurd ⟨(isN_in (by decide)).mp g1, (isN_in (by decide)).mp g2⟩ hN
    exact ⟨_, _, e2, e1, rfl, hR, hQ⟩
