abbrev rm_X10_in : Room := { frames := 0, cells := 0, slots := 0, locals := 0 }
set_option maxHeartbeats 4000000 in
set_option maxRecDepth 100000 in
theorem c_X10_in (l : Launch) (D : va_G) (cI cJ cZ cO : ClassId) (sz : Nat) (p0 : Int32) (p1 : Int32) (p2 : Int32) (res : Int32) (hf : f_X10_in p0 p1 p2 = some res) : MetI l yX10_in wsX10_in rm_X10_in [.int p0, .int p1, .int p2] D (tys4 cI cJ cZ cO) [] sz res [] := by
  refine met_z (cc := cX10_in) (maxL := 3) (by decide) rfl (Nat.le_of_ble_eq_true rfl) ?_
  intro p e s m args below meth c Q A hx hb hml hown hts hK hN hA fin H locs ls hP hD hS hl
  replace hown : s.vm.findClass RX10 = some m.cls := hown
  replace hl : lv_has ls 3 [(0, .int p0), (1, .int p1), (2, .int p2)] := hl
  rw [f_X10_in] at hf
  refine lv_iload_n hx hb dX10_in_0 rfl (lv_at hl 0 rfl) ?_
  refine lv_iload_n hx hb dX10_in_1 rfl (lv_at hl 1 rfl) ?_
  refine lv_icmp_lt (tgt := 14) hx hb dX10_in_2 (by decide) (fun hc => ?_) (fun hc => ?_)
  · replace hf := (if_pos hc).symm.trans hf
    refine lv_iconst (v := 0) hx hb dX10_in_14 (by decide) ?_
    obtain rfl := Option.some.inj hf
    exact fin _ _ _ _ nb_0 dX10_in_15 hP hD hS
  · replace hf := (if_neg hc).symm.trans hf
    refine lv_iload_n hx hb dX10_in_5 rfl (lv_at hl 0 rfl) ?_
    refine lv_iload_n hx hb dX10_in_6 rfl (lv_at hl 2 rfl) ?_
    refine lv_icmp_gt (tgt := 14) hx hb dX10_in_7 (by decide) (fun hc => ?_) (fun hc => ?_)
    · replace hf := (if_pos hc).symm.trans hf
      refine lv_iconst (v := 0) hx hb dX10_in_14 (by decide) ?_
      obtain rfl := Option.some.inj hf
      exact fin _ _ _ _ nb_0 dX10_in_15 hP hD hS
    · replace hf := (if_neg hc).symm.trans hf
      refine lv_iconst (v := 1) hx hb dX10_in_10 (by decide) ?_
      refine lv_goto (tgt := 15) hx hb dX10_in_11 (by decide) ?_
      obtain rfl := Option.some.inj hf
      exact fin _ _ _ _ nb_1 dX10_in_15 hP hD hS
abbrev rm_X10_has : Room := { frames := 0, cells := 0, slots := 0, locals := 0 }
set_option maxHeartbeats 4000000 in
set_option maxRecDepth 100000 in
theorem c_X10_has (l : Launch) (D : va_G) (cI cJ cZ cO : ClassId) (sz : Nat) (p0 : Int32) (p1 : Int32) (res : Int32) (hf : f_X10_has p0 p1 = some res) : MetI l yX10_has wsX10_has rm_X10_has [.int p0, .int p1] D (tys4 cI cJ cZ cO) [] sz res [] := by
  refine met_z (cc := cX10_has) (maxL := 2) (by decide) rfl (Nat.le_of_ble_eq_true rfl) ?_
  intro p e s m args below meth c Q A hx hb hml hown hts hK hN hA fin H locs ls hP hD hS hl
  replace hown : s.vm.findClass RX10 = some m.cls := hown
  replace hl : lv_has ls 2 [(0, .int p0), (1, .int p1)] := hl
  rw [f_X10_has] at hf
  refine lv_iload_n hx hb dX10_has_0 rfl (lv_at hl 0 rfl) ?_
  refine lv_iload_n hx hb dX10_has_1 rfl (lv_at hl 1 rfl) ?_
  refine lv_ishr hx hb dX10_has_2 ?_
  refine lv_iconst (v := 1) hx hb dX10_has_3 (by decide) ?_
  refine lv_iand hx hb dX10_has_4 ?_
  refine lv_iconst (v := 1) hx hb dX10_has_5 (by decide) ?_
  refine lv_icmp_ne (tgt := 13) hx hb dX10_has_6 (by decide) (fun hc => ?_) (fun hc => ?_)
  · replace hf := (if_neg hc).symm.trans hf
    refine lv_iconst (v := 0) hx hb dX10_has_13 (by decide) ?_
    obtain rfl := Option.some.inj hf
    exact fin _ _ _ _ nb_0 dX10_has_14 hP hD hS
  · replace hf := (if_pos hc).symm.trans hf
    refine lv_iconst (v := 1) hx hb dX10_has_9 (by decide) ?_
    refine lv_goto (tgt := 14) hx hb dX10_has_10 (by decide) ?_
    obtain rfl := Option.some.inj hf
    exact fin _ _ _ _ nb_1 dX10_has_14 hP hD hS
abbrev rm_X10_bits : Room := { frames := 0, cells := 0, slots := 0, locals := 0 }
set_option maxHeartbeats 4000000 in
set_option maxRecDepth 100000 in
theorem c_X10_bits (l : Launch) (D : va_G) (cI cJ cZ cO : ClassId) (sz : Nat) (p0 : Int32) (res : Int32) (hf : f_X10_bits p0 = some res) : MetI l yX10_bits wsX10_bits rm_X10_bits [.int p0] D (tys4 cI cJ cZ cO) [] sz res [] := by
  refine met_i (cc := cX10_bits) (maxL := 3) (by decide) rfl (Nat.le_of_ble_eq_true rfl) ?_
  intro p e s m args below meth c Q A hx hb hml hown hts hK hN hA fin H locs ls hP hD hS hl
  replace hown : s.vm.findClass RX10 = some m.cls := hown
  replace hl : lv_has ls 3 [(0, .int p0)] := hl
  rw [f_X10_bits] at hf
  refine lv_iconst (v := 0) hx hb dX10_bits_0 (by decide) ?_
  refine lv_istore_n (lv' := [(1, .int (0 : Int32)), (0, .int p0)]) hx hb dX10_bits_1 rfl hl (by decide) rfl (fun ls hl => ?_)
  refine lv_iconst (v := 0) hx hb dX10_bits_2 (by decide) ?_
  refine lv_istore_n (lv' := [(2, .int (0 : Int32)), (1, .int (0 : Int32)), (0, .int p0)]) hx hb dX10_bits_3 rfl hl (by decide) rfl (fun ls hl => ?_)
  have hX4 : ∀ (x4v1 : Int32) (H : Heap) (locs : List Loc) (ls : Array Slot), va_P D vwCl [] H → va_D A [] → va_S A s.heap H locs → lv_has ls 3 [(1, .int x4v1)] → f_X10_bits_X4 x4v1 = some res → W p l e rm_X10_bits s m args below meth c H locs 0 0 Q (F0 m 24 ls []) := by
    intro x4v1 H locs ls hP hD hS hl hf
    rw [f_X10_bits_X4] at hf
    refine lv_iload_n hx hb dX10_bits_24 rfl (lv_at hl 0 rfl) ?_
    obtain rfl := Option.some.inj hf
    exact fin _ _ _ _ dX10_bits_25 hP hD hS
  have hL4 : ∀ (n4 : Nat), ∀ (l4v1 : Int32) (l4v2 : Int32) (H : Heap) (locs : List Loc) (ls : Array Slot), va_P D vwCl [] H → va_D A [] → va_S A s.heap H locs → lv_has ls 3 [(0, .int p0), (1, .int l4v1), (2, .int l4v2)] → f_X10_bits_L4 p0 f_X10_bits_X4 n4 l4v1 l4v2 = some res → W p l e rm_X10_bits s m args below meth c H locs 0 0 Q (F0 m 4 ls []) := by
    intro n4
    induction n4 with
    | zero =>
      intro l4v1 l4v2 H locs ls hP hD hS hl hf
      rw [f_X10_bits_L4] at hf
      cases hf
    | succ n4 ih4 =>
      intro l4v1 l4v2 H locs ls hP hD hS hl hf
      rw [f_X10_bits_L4] at hf
      refine lv_iload_n hx hb dX10_bits_4 rfl (lv_at hl 2 rfl) ?_
      refine lv_bipush (v := 12) hx hb dX10_bits_5 (by decide) ?_
      refine lv_icmp_ge (tgt := 24) hx hb dX10_bits_7 (by decide) (fun hc => ?_) (fun hc => ?_)
      · replace hf := (if_pos hc).symm.trans hf
        exact hX4 l4v1 _ _ _ hP hD hS (lv_sub hl [1] rfl) hf
      · replace hf := (if_neg hc).symm.trans hf
        refine lv_iload_n hx hb dX10_bits_10 rfl (lv_at hl 1 rfl) ?_
        refine lv_iload_n hx hb dX10_bits_11 rfl (lv_at hl 0 rfl) ?_
        refine lv_iload_n hx hb dX10_bits_12 rfl (lv_at hl 2 rfl) ?_
        refine lv_ishr hx hb dX10_bits_13 ?_
        refine lv_iconst (v := 1) hx hb dX10_bits_14 (by decide) ?_
        refine lv_iand hx hb dX10_bits_15 ?_
        refine lv_iadd hx hb dX10_bits_16 ?_
        refine lv_istore_n (lv' := [(1, .int (l4v1 + ((p0 >>> (l4v2 &&& 31)) &&& (1 : Int32)))), (0, .int p0), (2, .int l4v2)]) hx hb dX10_bits_17 rfl hl (by decide) rfl (fun ls hl => ?_)
        refine lv_iinc (v := l4v2 + 1) (lv' := [(2, .int (l4v2 + 1)), (1, .int (l4v1 + ((p0 >>> (l4v2 &&& 31)) &&& (1 : Int32)))), (0, .int p0)]) hx hb dX10_bits_18 hl (k := 2) rfl rfl (by decide) rfl (fun ls hl => ?_)
        refine lv_goto (tgt := 4) hx hb dX10_bits_21 (by decide) ?_
        exact ih4 (l4v1 + ((p0 >>> (l4v2 &&& 31)) &&& (1 : Int32))) (l4v2 + 1) _ _ _ hP hD hS (lv_sub hl [2, 1, 0] rfl) hf
  exact hL4 5000 (0 : Int32) (0 : Int32) _ _ _ hP hD hS (lv_sub hl [2, 1, 0] rfl) hf
abbrev rm_X10_isPlace : Room := { frames := 1, cells := 0, slots := 0, locals := 22 }
set_option maxHeartbeats 4000000 in
set_option maxRecDepth 100000 in
theorem c_X10_isPlace (l : Launch) (D : va_G) (cI cJ cZ cO : ClassId) (sz : Nat) (p0 : Int32) (res : Int32) (hf : f_X10_isPlace p0 = some res) : MetI l yX10_isPlace wsX10_isPlace rm_X10_isPlace [.int p0] D (tys4 cI cJ cZ cO) [] sz res [] := by
  refine met_z (cc := cX10_isPlace) (maxL := 1) (by decide) rfl (Nat.le_of_ble_eq_true rfl) ?_
  intro p e s m args below meth c Q A hx hb hml hown hts hK hN hA fin H locs ls hP hD hS hl
  replace hown : s.vm.findClass RX10 = some m.cls := hown
  replace hl : lv_has ls 1 [(0, .int p0)] := hl
  rw [f_X10_isPlace] at hf
  have hcw57 := va_cwS (R := rm_X10_isPlace) (rm := rm_X10_in) 3 hts gX10_isPlace_X10_in rfl rfl rfl (by decide +kernel) ⟨Nat.le_of_ble_eq_true rfl, Nat.le_of_ble_eq_true rfl⟩
  refine lv_iload_n hx hb dX10_isPlace_0 rfl (lv_at hl 0 rfl) ?_
  refine lv_iconst (v := 0) hx hb dX10_isPlace_1 (by decide) ?_
  refine lv_bipush (v := 11) hx hb dX10_isPlace_2 (by decide) ?_
  obtain ⟨x4, hx4, hf⟩ := bd_if hf
  refine cs_i (wr := []) (ws' := []) ⟨hx, hb, hml, hown, hts⟩ hcw57 hK hN hP hD hS hA (c_X10_in l D cI cJ cZ cO _ p0 (0 : Int32) (11 : Int32) x4 hx4) [] [] [] rfl rfl rfl rfl (by decide) rfl rfl rfl hl.1 rfl (Nat.le_of_ble_eq_true rfl) dX10_isPlace_4 ⟨Nat.zero_le _, Nat.zero_le _⟩ (fun H locs hP hD hS => ?_)
  obtain ⟨hz7, hf⟩ := ok_if hf
  obtain rfl := Option.some.inj hf
  exact fin _ _ _ _ (zr_ok hz7) dX10_isPlace_7 hP hD hS
abbrev rm_X10_isNumber : Room := { frames := 1, cells := 0, slots := 0, locals := 22 }
set_option maxHeartbeats 4000000 in
set_option maxRecDepth 100000 in
theorem c_X10_isNumber (l : Launch) (D : va_G) (cI cJ cZ cO : ClassId) (sz : Nat) (p0 : Int32) (res : Int32) (hf : f_X10_isNumber p0 = some res) : MetI l yX10_isNumber wsX10_isNumber rm_X10_isNumber [.int p0] D (tys4 cI cJ cZ cO) [] sz res [] := by
  refine met_z (cc := cX10_isNumber) (maxL := 1) (by decide) rfl (Nat.le_of_ble_eq_true rfl) ?_
  intro p e s m args below meth c Q A hx hb hml hown hts hK hN hA fin H locs ls hP hD hS hl
  replace hown : s.vm.findClass RX10 = some m.cls := hown
  replace hl : lv_has ls 1 [(0, .int p0)] := hl
  rw [f_X10_isNumber] at hf
  have hcw57 := va_cwS (R := rm_X10_isNumber) (rm := rm_X10_in) 3 hts gX10_isNumber_X10_in rfl rfl rfl (by decide +kernel) ⟨Nat.le_of_ble_eq_true rfl, Nat.le_of_ble_eq_true rfl⟩
  refine lv_iload_n hx hb dX10_isNumber_0 rfl (lv_at hl 0 rfl) ?_
  refine lv_iconst (v := 0) hx hb dX10_isNumber_1 (by decide) ?_
  refine lv_bipush (v := 6) hx hb dX10_isNumber_2 (by decide) ?_
  obtain ⟨x4, hx4, hf⟩ := bd_if hf
  refine cs_i (wr := []) (ws' := []) ⟨hx, hb, hml, hown, hts⟩ hcw57 hK hN hP hD hS hA (c_X10_in l D cI cJ cZ cO _ p0 (0 : Int32) (6 : Int32) x4 hx4) [] [] [] rfl rfl rfl rfl (by decide) rfl rfl rfl hl.1 rfl (Nat.le_of_ble_eq_true rfl) dX10_isNumber_4 ⟨Nat.zero_le _, Nat.zero_le _⟩ (fun H locs hP hD hS => ?_)
  obtain ⟨hz7, hf⟩ := ok_if hf
  obtain rfl := Option.some.inj hf
  exact fin _ _ _ _ (zr_ok hz7) dX10_isNumber_7 hP hD hS
abbrev rm_X10_isThere : Room := { frames := 2, cells := 0, slots := 0, locals := 42 }
theorem ms_X10_isThere_X10 : ∀ w ∈ u_ws RX10 TX10 24, w ∈ wsX10_isThere := fun w h => List.mem_cons_of_mem _ (List.mem_append_right _ (h))
set_option maxHeartbeats 4000000 in
set_option maxRecDepth 100000 in
theorem c_X10_isThere (l : Launch) (D : va_G) (cI cJ cZ cO : ClassId) (sz : Nat) (a_t : Nat) (a_t_roads : Nat) (a_t_book : Nat) (a_t_now : Nat) (a_t_meeting : Nat) (a_t_sight : Nat) (a_t_pad : Nat) (a_t_apart : Nat) (a_t_rounds : Nat) (a_t_fewest : Nat) (a_t_nextFewest : Nat) (a_t_ways : Nat) (a_t_nextWays : Nat) (a_t_counts : Nat) (a_t_image : Nat) (a_t_isKept : Nat) (t_homes : Int32) (t_there : Int32) (t_meetings : Int32) (t_sights : Int32) (t_signs : Int32) (t_touched : Int32) (t_firstTouch : Int32) (t_reason : Int32) (t_acts : Int32) (p1 : Int32) (res : Int32) (hf : f_X10_isThere t_there p1 = some res) : MetI l yX10_isThere wsX10_isThere rm_X10_isThere [.ref a_t, .int p1] D (tys4 cI cJ cZ cO) [(a_t, .inr (10, [.ref a_t_roads, .int t_homes, .int t_there, .ref a_t_book, .ref a_t_now, .int t_meetings, .ref a_t_meeting, .int t_sights, .ref a_t_sight, .int t_signs, .ref a_t_pad, .int t_touched, .int t_firstTouch, .int t_reason, .int t_acts, .ref a_t_apart, .ref a_t_rounds, .ref a_t_fewest, .ref a_t_nextFewest, .ref a_t_ways, .ref a_t_nextWays, .ref a_t_counts, .ref a_t_image, .ref a_t_isKept]))] sz res [(a_t, .inr (10, [.ref a_t_roads, .int t_homes, .int t_there, .ref a_t_book, .ref a_t_now, .int t_meetings, .ref a_t_meeting, .int t_sights, .ref a_t_sight, .int t_signs, .ref a_t_pad, .int t_touched, .int t_firstTouch, .int t_reason, .int t_acts, .ref a_t_apart, .ref a_t_rounds, .ref a_t_fewest, .ref a_t_nextFewest, .ref a_t_ways, .ref a_t_nextWays, .ref a_t_counts, .ref a_t_image, .ref a_t_isKept]))] := by
  refine met_z (cc := cX10_isThere) (maxL := 2) (by decide) rfl (Nat.le_of_ble_eq_true rfl) ?_
  intro p e s m args below meth c Q A hx hb hml hown hts hK hN hA fin H locs ls hP hD hS hl
  replace hown : s.vm.findClass RX10 = some m.cls := hown
  replace hl : lv_has ls 2 [(0, .ref a_t), (1, .int p1)] := hl
  rw [f_X10_isThere] at hf
  have hcw61 := va_cwS (R := rm_X10_isThere) (rm := rm_X10_isNumber) 1 hts gX10_isThere_X10_isNumber rfl rfl rfl (by decide +kernel) ⟨Nat.le_of_ble_eq_true rfl, Nat.le_of_ble_eq_true rfl⟩
  have hw65 := hts (.fieldLink RX10 65 "TouchReignModel" "there" "I") (by decide +kernel)
  have hmsX10 := ms_X10_isThere_X10
  have hcw69 := va_cwS (R := rm_X10_isThere) (rm := rm_X10_has) 2 hts gX10_isThere_X10_has rfl rfl rfl (by decide +kernel) ⟨Nat.le_of_ble_eq_true rfl, Nat.le_of_ble_eq_true rfl⟩
  refine lv_iload_n hx hb dX10_isThere_0 rfl (lv_at hl 1 rfl) ?_
  obtain ⟨x1, hx1, hf⟩ := bd_if hf
  refine cs_i (wr := [(a_t, .inr (10, [.ref a_t_roads, .int t_homes, .int t_there, .ref a_t_book, .ref a_t_now, .int t_meetings, .ref a_t_meeting, .int t_sights, .ref a_t_sight, .int t_signs, .ref a_t_pad, .int t_touched, .int t_firstTouch, .int t_reason, .int t_acts, .ref a_t_apart, .ref a_t_rounds, .ref a_t_fewest, .ref a_t_nextFewest, .ref a_t_ways, .ref a_t_nextWays, .ref a_t_counts, .ref a_t_image, .ref a_t_isKept]))]) (ws' := [(a_t, .inr (10, [.ref a_t_roads, .int t_homes, .int t_there, .ref a_t_book, .ref a_t_now, .int t_meetings, .ref a_t_meeting, .int t_sights, .ref a_t_sight, .int t_signs, .ref a_t_pad, .int t_touched, .int t_firstTouch, .int t_reason, .int t_acts, .ref a_t_apart, .ref a_t_rounds, .ref a_t_fewest, .ref a_t_nextFewest, .ref a_t_ways, .ref a_t_nextWays, .ref a_t_counts, .ref a_t_image, .ref a_t_isKept]))]) ⟨hx, hb, hml, hown, hts⟩ hcw61 hK hN hP hD hS hA (c_X10_isNumber l D cI cJ cZ cO _ p1 x1 hx1) [] [0] [0] rfl rfl rfl rfl (by decide) rfl rfl rfl hl.1 rfl (Nat.le_of_ble_eq_true rfl) dX10_isThere_1 ⟨Nat.zero_le _, Nat.zero_le _⟩ (fun H locs hP hD hS => ?_)
  refine lv_if_eq (tgt := 22) hx hb dX10_isThere_4 (by decide) (fun hc => ?_) (fun hc => ?_)
  · replace hf := (if_pos hc).symm.trans hf
    refine lv_iconst (v := 0) hx hb dX10_isThere_22 (by decide) ?_
    obtain rfl := Option.some.inj hf
    exact fin _ _ _ _ nb_0 dX10_isThere_23 hP hD hS
  · replace hf := (if_neg hc).symm.trans hf
    refine lv_aload_n hx hb dX10_isThere_7 rfl (lv_at hl 0 rfl) ?_
    refine va_get (D := D) (ci := 10) (v := .int t_there) (C := RX10) (T := TX10) (N := 24) hx hb hts hmsX10 hown hK hP 0 rfl rfl 2 (by decide) hw65 (fun _ h9 => h9) rfl dX10_isThere_8 ?_
    refine lv_iload_n hx hb dX10_isThere_11 rfl (lv_at hl 1 rfl) ?_
    obtain ⟨x12, hx12, hf⟩ := bd_if hf
    refine cs_i (wr := [(a_t, .inr (10, [.ref a_t_roads, .int t_homes, .int t_there, .ref a_t_book, .ref a_t_now, .int t_meetings, .ref a_t_meeting, .int t_sights, .ref a_t_sight, .int t_signs, .ref a_t_pad, .int t_touched, .int t_firstTouch, .int t_reason, .int t_acts, .ref a_t_apart, .ref a_t_rounds, .ref a_t_fewest, .ref a_t_nextFewest, .ref a_t_ways, .ref a_t_nextWays, .ref a_t_counts, .ref a_t_image, .ref a_t_isKept]))]) (ws' := [(a_t, .inr (10, [.ref a_t_roads, .int t_homes, .int t_there, .ref a_t_book, .ref a_t_now, .int t_meetings, .ref a_t_meeting, .int t_sights, .ref a_t_sight, .int t_signs, .ref a_t_pad, .int t_touched, .int t_firstTouch, .int t_reason, .int t_acts, .ref a_t_apart, .ref a_t_rounds, .ref a_t_fewest, .ref a_t_nextFewest, .ref a_t_ways, .ref a_t_nextWays, .ref a_t_counts, .ref a_t_image, .ref a_t_isKept]))]) ⟨hx, hb, hml, hown, hts⟩ hcw69 hK hN hP hD hS hA (c_X10_has l D cI cJ cZ cO _ t_there p1 x12 hx12) [] [0] [0] rfl rfl rfl rfl (by decide) rfl rfl rfl hl.1 rfl (Nat.le_of_ble_eq_true rfl) dX10_isThere_12 ⟨Nat.zero_le _, Nat.zero_le _⟩ (fun H locs hP hD hS => ?_)
    refine lv_if_eq (tgt := 22) hx hb dX10_isThere_15 (by decide) (fun hc => ?_) (fun hc => ?_)
    · replace hf := (if_pos hc).symm.trans hf
      refine lv_iconst (v := 0) hx hb dX10_isThere_22 (by decide) ?_
      obtain rfl := Option.some.inj hf
      exact fin _ _ _ _ nb_0 dX10_isThere_23 hP hD hS
    · replace hf := (if_neg hc).symm.trans hf
      refine lv_iconst (v := 1) hx hb dX10_isThere_18 (by decide) ?_
      refine lv_goto (tgt := 23) hx hb dX10_isThere_19 (by decide) ?_
      obtain rfl := Option.some.inj hf
      exact fin _ _ _ _ nb_1 dX10_isThere_23 hP hD hS
abbrev rm_X10_road : Room := { frames := 2, cells := 0, slots := 0, locals := 42 }
theorem ms_X10_road_X10 : ∀ w ∈ u_ws RX10 TX10 24, w ∈ wsX10_road := fun w h => List.mem_cons_of_mem _ (List.mem_append_right _ (h))
set_option maxHeartbeats 4000000 in
set_option maxRecDepth 100000 in
theorem c_X10_road (l : Launch) (D : va_G) (cI cJ cZ cO : ClassId) (sz : Nat) (a_t : Nat) (a_t_roads : Nat) (a_t_book : Nat) (a_t_now : Nat) (a_t_meeting : Nat) (a_t_sight : Nat) (a_t_pad : Nat) (a_t_apart : Nat) (a_t_rounds : Nat) (a_t_fewest : Nat) (a_t_nextFewest : Nat) (a_t_ways : Nat) (a_t_nextWays : Nat) (a_t_counts : Nat) (a_t_image : Nat) (a_t_isKept : Nat) (t_homes : Int32) (t_there : Int32) (t_meetings : Int32) (t_sights : Int32) (t_signs : Int32) (t_touched : Int32) (t_firstTouch : Int32) (t_reason : Int32) (t_acts : Int32) (t_roads : Nat → Int32) (p1 : Int32) (p2 : Int32) (p3 : Int32) (res : Int32 × (Nat → Int32)) (hf : f_X10_road t_roads p1 p2 p3 = some res) : MetI l yX10_road wsX10_road rm_X10_road [.ref a_t, .int p1, .int p2, .int p3] D (tys4 cI cJ cZ cO) [(a_t, .inr (10, [.ref a_t_roads, .int t_homes, .int t_there, .ref a_t_book, .ref a_t_now, .int t_meetings, .ref a_t_meeting, .int t_sights, .ref a_t_sight, .int t_signs, .ref a_t_pad, .int t_touched, .int t_firstTouch, .int t_reason, .int t_acts, .ref a_t_apart, .ref a_t_rounds, .ref a_t_fewest, .ref a_t_nextFewest, .ref a_t_ways, .ref a_t_nextWays, .ref a_t_counts, .ref a_t_image, .ref a_t_isKept])), (a_t_roads, .inl (cI, 12, .inl t_roads))] sz res.1 [(a_t, .inr (10, [.ref a_t_roads, .int t_homes, .int t_there, .ref a_t_book, .ref a_t_now, .int t_meetings, .ref a_t_meeting, .int t_sights, .ref a_t_sight, .int t_signs, .ref a_t_pad, .int t_touched, .int t_firstTouch, .int t_reason, .int t_acts, .ref a_t_apart, .ref a_t_rounds, .ref a_t_fewest, .ref a_t_nextFewest, .ref a_t_ways, .ref a_t_nextWays, .ref a_t_counts, .ref a_t_image, .ref a_t_isKept])), (a_t_roads, .inl (cI, 12, .inl res.2))] := by
  refine met_i (cc := cX10_road) (maxL := 6) (by decide) rfl (Nat.le_of_ble_eq_true rfl) ?_
  intro p e s m args below meth c Q A hx hb hml hown hts hK hN hA fin H locs ls hP hD hS hl
  replace hown : s.vm.findClass RX10 = some m.cls := hown
  replace hl : lv_has ls 6 [(0, .ref a_t), (1, .int p1), (2, .int p2), (3, .int p3)] := hl
  rw [f_X10_road] at hf
  have hcw73 := va_cwS (R := rm_X10_road) (rm := rm_X10_isPlace) 1 hts gX10_road_X10_isPlace rfl rfl rfl (by decide +kernel) ⟨Nat.le_of_ble_eq_true rfl, Nat.le_of_ble_eq_true rfl⟩
  have hw7 := hts (.fieldLink RX10 7 "TouchReignModel" "roads" "[I") (by decide +kernel)
  have hmsX10 := ms_X10_road_X10
  have hcw76 := va_cwS (R := rm_X10_road) (rm := rm_X10_bits) 1 hts gX10_road_X10_bits rfl rfl rfl (by decide +kernel) ⟨Nat.le_of_ble_eq_true rfl, Nat.le_of_ble_eq_true rfl⟩
  refine lv_iload_n hx hb dX10_road_0 rfl (lv_at hl 1 rfl) ?_
  obtain ⟨x1, hx1, hf⟩ := bd_if hf
  refine cs_i (wr := [(a_t, .inr (10, [.ref a_t_roads, .int t_homes, .int t_there, .ref a_t_book, .ref a_t_now, .int t_meetings, .ref a_t_meeting, .int t_sights, .ref a_t_sight, .int t_signs, .ref a_t_pad, .int t_touched, .int t_firstTouch, .int t_reason, .int t_acts, .ref a_t_apart, .ref a_t_rounds, .ref a_t_fewest, .ref a_t_nextFewest, .ref a_t_ways, .ref a_t_nextWays, .ref a_t_counts, .ref a_t_image, .ref a_t_isKept])), (a_t_roads, .inl (cI, 12, .inl t_roads))]) (ws' := [(a_t, .inr (10, [.ref a_t_roads, .int t_homes, .int t_there, .ref a_t_book, .ref a_t_now, .int t_meetings, .ref a_t_meeting, .int t_sights, .ref a_t_sight, .int t_signs, .ref a_t_pad, .int t_touched, .int t_firstTouch, .int t_reason, .int t_acts, .ref a_t_apart, .ref a_t_rounds, .ref a_t_fewest, .ref a_t_nextFewest, .ref a_t_ways, .ref a_t_nextWays, .ref a_t_counts, .ref a_t_image, .ref a_t_isKept])), (a_t_roads, .inl (cI, 12, .inl t_roads))]) ⟨hx, hb, hml, hown, hts⟩ hcw73 hK hN hP hD hS hA (c_X10_isPlace l D cI cJ cZ cO _ p1 x1 hx1) [] [0, 1] [0, 1] rfl rfl rfl rfl (by decide) rfl rfl rfl hl.1 rfl (Nat.le_of_ble_eq_true rfl) dX10_road_1 ⟨Nat.zero_le _, Nat.zero_le _⟩ (fun H locs hP hD hS => ?_)
  refine lv_if_eq (tgt := 19) hx hb dX10_road_4 (by decide) (fun hc => ?_) (fun hc => ?_)
  · replace hf := (if_pos hc).symm.trans hf
    refine lv_iconst (v := -1) hx hb dX10_road_19 (by decide) ?_
    obtain rfl := Option.some.inj hf
    exact fin _ _ _ _ dX10_road_20 hP hD hS
  · replace hf := (if_neg hc).symm.trans hf
    refine lv_iload_n hx hb dX10_road_7 rfl (lv_at hl 2 rfl) ?_
    obtain ⟨x8, hx8, hf⟩ := bd_if hf
    refine cs_i (wr := [(a_t, .inr (10, [.ref a_t_roads, .int t_homes, .int t_there, .ref a_t_book, .ref a_t_now, .int t_meetings, .ref a_t_meeting, .int t_sights, .ref a_t_sight, .int t_signs, .ref a_t_pad, .int t_touched, .int t_firstTouch, .int t_reason, .int t_acts, .ref a_t_apart, .ref a_t_rounds, .ref a_t_fewest, .ref a_t_nextFewest, .ref a_t_ways, .ref a_t_nextWays, .ref a_t_counts, .ref a_t_image, .ref a_t_isKept])), (a_t_roads, .inl (cI, 12, .inl t_roads))]) (ws' := [(a_t, .inr (10, [.ref a_t_roads, .int t_homes, .int t_there, .ref a_t_book, .ref a_t_now, .int t_meetings, .ref a_t_meeting, .int t_sights, .ref a_t_sight, .int t_signs, .ref a_t_pad, .int t_touched, .int t_firstTouch, .int t_reason, .int t_acts, .ref a_t_apart, .ref a_t_rounds, .ref a_t_fewest, .ref a_t_nextFewest, .ref a_t_ways, .ref a_t_nextWays, .ref a_t_counts, .ref a_t_image, .ref a_t_isKept])), (a_t_roads, .inl (cI, 12, .inl t_roads))]) ⟨hx, hb, hml, hown, hts⟩ hcw73 hK hN hP hD hS hA (c_X10_isPlace l D cI cJ cZ cO _ p2 x8 hx8) [] [0, 1] [0, 1] rfl rfl rfl rfl (by decide) rfl rfl rfl hl.1 rfl (Nat.le_of_ble_eq_true rfl) dX10_road_8 ⟨Nat.zero_le _, Nat.zero_le _⟩ (fun H locs hP hD hS => ?_)
    refine lv_if_eq (tgt := 19) hx hb dX10_road_11 (by decide) (fun hc => ?_) (fun hc => ?_)
    · replace hf := (if_pos hc).symm.trans hf
      refine lv_iconst (v := -1) hx hb dX10_road_19 (by decide) ?_
      obtain rfl := Option.some.inj hf
      exact fin _ _ _ _ dX10_road_20 hP hD hS
    · replace hf := (if_neg hc).symm.trans hf
      refine lv_iload_n hx hb dX10_road_14 rfl (lv_at hl 1 rfl) ?_
      refine lv_iload_n hx hb dX10_road_15 rfl (lv_at hl 2 rfl) ?_
      refine lv_icmp_ne (tgt := 21) hx hb dX10_road_16 (by decide) (fun hc => ?_) (fun hc => ?_)
      · replace hf := (if_neg hc).symm.trans hf
        refine lv_aload_n hx hb dX10_road_21 rfl (lv_at hl 0 rfl) ?_
        refine va_get (D := D) (ci := 10) (v := .ref a_t_roads) (C := RX10) (T := TX10) (N := 24) hx hb hts hmsX10 hown hK hP 0 rfl rfl 0 (by decide) hw7 (fun _ h9 => h9) rfl dX10_road_22 ?_
        refine lv_iload_n hx hb dX10_road_25 rfl (lv_at hl 1 rfl) ?_
        refine lv_dup2_11 hx hb dX10_road_26 rfl rfl ?_
        obtain ⟨hi27, hf⟩ := ix_if hf
        refine va_iald (D := D) hx hb hK hP 1 0 rfl rfl hi27 dX10_road_27 ?_
        refine lv_iconst (v := 1) hx hb dX10_road_28 (by decide) ?_
        refine lv_iload_n hx hb dX10_road_29 rfl (lv_at hl 2 rfl) ?_
        refine lv_ishl hx hb dX10_road_30 ?_
        refine lv_iconst (v := -1) hx hb dX10_road_31 (by decide) ?_
        refine lv_ixor hx hb dX10_road_32 ?_
        refine lv_iand hx hb dX10_road_33 ?_
        refine va_iast (D := D) hx hb hK hP hD hS 1 0 rfl rfl hi27 dX10_road_34 (fun H locs hP hD hS => ?_)
        replace hP : va_P D vwCl [(a_t, .inr (10, [.ref a_t_roads, .int t_homes, .int t_there, .ref a_t_book, .ref a_t_now, .int t_meetings, .ref a_t_meeting, .int t_sights, .ref a_t_sight, .int t_signs, .ref a_t_pad, .int t_touched, .int t_firstTouch, .int t_reason, .int t_acts, .ref a_t_apart, .ref a_t_rounds, .ref a_t_fewest, .ref a_t_nextFewest, .ref a_t_ways, .ref a_t_nextWays, .ref a_t_counts, .ref a_t_image, .ref a_t_isKept])), (a_t_roads, .inl (cI, 12, .inl (upd t_roads p1.toNatClampNeg ((t_roads p1.toNatClampNeg) &&& (((1 : Int32) <<< (p2 &&& 31)) ^^^ (-1 : Int32))))))] H := hP
        replace hD : va_D A [(a_t, .inr (10, [.ref a_t_roads, .int t_homes, .int t_there, .ref a_t_book, .ref a_t_now, .int t_meetings, .ref a_t_meeting, .int t_sights, .ref a_t_sight, .int t_signs, .ref a_t_pad, .int t_touched, .int t_firstTouch, .int t_reason, .int t_acts, .ref a_t_apart, .ref a_t_rounds, .ref a_t_fewest, .ref a_t_nextFewest, .ref a_t_ways, .ref a_t_nextWays, .ref a_t_counts, .ref a_t_image, .ref a_t_isKept])), (a_t_roads, .inl (cI, 12, .inl (upd t_roads p1.toNatClampNeg ((t_roads p1.toNatClampNeg) &&& (((1 : Int32) <<< (p2 &&& 31)) ^^^ (-1 : Int32))))))] := hD
        refine lv_aload_n hx hb dX10_road_35 rfl (lv_at hl 0 rfl) ?_
        refine va_get (D := D) (ci := 10) (v := .ref a_t_roads) (C := RX10) (T := TX10) (N := 24) hx hb hts hmsX10 hown hK hP 0 rfl rfl 0 (by decide) hw7 (fun _ h9 => h9) rfl dX10_road_36 ?_
        refine lv_iload_n hx hb dX10_road_39 rfl (lv_at hl 2 rfl) ?_
        refine lv_dup2_11 hx hb dX10_road_40 rfl rfl ?_
        obtain ⟨hi41, hf⟩ := ix_if hf
        refine va_iald (D := D) hx hb hK hP 1 0 rfl rfl hi41 dX10_road_41 ?_
        refine lv_iconst (v := 1) hx hb dX10_road_42 (by decide) ?_
        refine lv_iload_n hx hb dX10_road_43 rfl (lv_at hl 1 rfl) ?_
        refine lv_ishl hx hb dX10_road_44 ?_
        refine lv_iconst (v := -1) hx hb dX10_road_45 (by decide) ?_
        refine lv_ixor hx hb dX10_road_46 ?_
        refine lv_iand hx hb dX10_road_47 ?_
        refine va_iast (D := D) hx hb hK hP hD hS 1 0 rfl rfl hi41 dX10_road_48 (fun H locs hP hD hS => ?_)
        replace hP : va_P D vwCl [(a_t, .inr (10, [.ref a_t_roads, .int t_homes, .int t_there, .ref a_t_book, .ref a_t_now, .int t_meetings, .ref a_t_meeting, .int t_sights, .ref a_t_sight, .int t_signs, .ref a_t_pad, .int t_touched, .int t_firstTouch, .int t_reason, .int t_acts, .ref a_t_apart, .ref a_t_rounds, .ref a_t_fewest, .ref a_t_nextFewest, .ref a_t_ways, .ref a_t_nextWays, .ref a_t_counts, .ref a_t_image, .ref a_t_isKept])), (a_t_roads, .inl (cI, 12, .inl (upd (upd t_roads p1.toNatClampNeg ((t_roads p1.toNatClampNeg) &&& (((1 : Int32) <<< (p2 &&& 31)) ^^^ (-1 : Int32)))) p2.toNatClampNeg (((upd t_roads p1.toNatClampNeg ((t_roads p1.toNatClampNeg) &&& (((1 : Int32) <<< (p2 &&& 31)) ^^^ (-1 : Int32)))) p2.toNatClampNeg) &&& (((1 : Int32) <<< (p1 &&& 31)) ^^^ (-1 : Int32))))))] H := hP
        replace hD : va_D A [(a_t, .inr (10, [.ref a_t_roads, .int t_homes, .int t_there, .ref a_t_book, .ref a_t_now, .int t_meetings, .ref a_t_meeting, .int t_sights, .ref a_t_sight, .int t_signs, .ref a_t_pad, .int t_touched, .int t_firstTouch, .int t_reason, .int t_acts, .ref a_t_apart, .ref a_t_rounds, .ref a_t_fewest, .ref a_t_nextFewest, .ref a_t_ways, .ref a_t_nextWays, .ref a_t_counts, .ref a_t_image, .ref a_t_isKept])), (a_t_roads, .inl (cI, 12, .inl (upd (upd t_roads p1.toNatClampNeg ((t_roads p1.toNatClampNeg) &&& (((1 : Int32) <<< (p2 &&& 31)) ^^^ (-1 : Int32)))) p2.toNatClampNeg (((upd t_roads p1.toNatClampNeg ((t_roads p1.toNatClampNeg) &&& (((1 : Int32) <<< (p2 &&& 31)) ^^^ (-1 : Int32)))) p2.toNatClampNeg) &&& (((1 : Int32) <<< (p1 &&& 31)) ^^^ (-1 : Int32))))))] := hD
        refine lv_aload_n hx hb dX10_road_49 rfl (lv_at hl 0 rfl) ?_
        refine va_get (D := D) (ci := 10) (v := .ref a_t_roads) (C := RX10) (T := TX10) (N := 24) hx hb hts hmsX10 hown hK hP 0 rfl rfl 0 (by decide) hw7 (fun _ h9 => h9) rfl dX10_road_50 ?_
        refine lv_iload_n hx hb dX10_road_53 rfl (lv_at hl 1 rfl) ?_
        refine lv_dup2_11 hx hb dX10_road_54 rfl rfl ?_
        refine va_iald (D := D) hx hb hK hP 1 0 rfl rfl hi27 dX10_road_55 ?_
        refine lv_iload_n hx hb dX10_road_56 rfl (lv_at hl 3 rfl) ?_
        have hB67 : ∀ (b67s0 : Int32) (b67t_roads : Nat → Int32) (H : Heap) (locs : List Loc) (ls : Array Slot), va_P D vwCl [(a_t, .inr (10, [.ref a_t_roads, .int t_homes, .int t_there, .ref a_t_book, .ref a_t_now, .int t_meetings, .ref a_t_meeting, .int t_sights, .ref a_t_sight, .int t_signs, .ref a_t_pad, .int t_touched, .int t_firstTouch, .int t_reason, .int t_acts, .ref a_t_apart, .ref a_t_rounds, .ref a_t_fewest, .ref a_t_nextFewest, .ref a_t_ways, .ref a_t_nextWays, .ref a_t_counts, .ref a_t_image, .ref a_t_isKept])), (a_t_roads, .inl (cI, 12, .inl b67t_roads))] H → va_D A [(a_t, .inr (10, [.ref a_t_roads, .int t_homes, .int t_there, .ref a_t_book, .ref a_t_now, .int t_meetings, .ref a_t_meeting, .int t_sights, .ref a_t_sight, .int t_signs, .ref a_t_pad, .int t_touched, .int t_firstTouch, .int t_reason, .int t_acts, .ref a_t_apart, .ref a_t_rounds, .ref a_t_fewest, .ref a_t_nextFewest, .ref a_t_ways, .ref a_t_nextWays, .ref a_t_counts, .ref a_t_image, .ref a_t_isKept])), (a_t_roads, .inl (cI, 12, .inl b67t_roads))] → va_S A s.heap H locs → lv_has ls 6 [(0, .ref a_t), (1, .int p1), (2, .int p2), (3, .int p3)] → f_X10_road_B67 t_roads p1 p2 p3 b67s0 b67t_roads = some res → W p l e rm_X10_road s m args below meth c H locs 0 0 Q (F0 m 67 ls [.int b67s0, .int ((upd (upd t_roads p1.toNatClampNeg ((t_roads p1.toNatClampNeg) &&& (((1 : Int32) <<< (p2 &&& 31)) ^^^ (-1 : Int32)))) p2.toNatClampNeg (((upd t_roads p1.toNatClampNeg ((t_roads p1.toNatClampNeg) &&& (((1 : Int32) <<< (p2 &&& 31)) ^^^ (-1 : Int32)))) p2.toNatClampNeg) &&& (((1 : Int32) <<< (p1 &&& 31)) ^^^ (-1 : Int32)))) p1.toNatClampNeg), .int p1, .ref a_t_roads]) := by
          intro b67s0 b67t_roads H locs ls hP hD hS hl hf
          rw [f_X10_road_B67] at hf
          refine lv_ior hx hb dX10_road_67 ?_
          refine va_iast (D := D) hx hb hK hP hD hS 1 0 rfl rfl hi27 dX10_road_68 (fun H locs hP hD hS => ?_)
          replace hP : va_P D vwCl [(a_t, .inr (10, [.ref a_t_roads, .int t_homes, .int t_there, .ref a_t_book, .ref a_t_now, .int t_meetings, .ref a_t_meeting, .int t_sights, .ref a_t_sight, .int t_signs, .ref a_t_pad, .int t_touched, .int t_firstTouch, .int t_reason, .int t_acts, .ref a_t_apart, .ref a_t_rounds, .ref a_t_fewest, .ref a_t_nextFewest, .ref a_t_ways, .ref a_t_nextWays, .ref a_t_counts, .ref a_t_image, .ref a_t_isKept])), (a_t_roads, .inl (cI, 12, .inl (upd b67t_roads p1.toNatClampNeg (((upd (upd t_roads p1.toNatClampNeg ((t_roads p1.toNatClampNeg) &&& (((1 : Int32) <<< (p2 &&& 31)) ^^^ (-1 : Int32)))) p2.toNatClampNeg (((upd t_roads p1.toNatClampNeg ((t_roads p1.toNatClampNeg) &&& (((1 : Int32) <<< (p2 &&& 31)) ^^^ (-1 : Int32)))) p2.toNatClampNeg) &&& (((1 : Int32) <<< (p1 &&& 31)) ^^^ (-1 : Int32)))) p1.toNatClampNeg) ||| b67s0))))] H := hP
          replace hD : va_D A [(a_t, .inr (10, [.ref a_t_roads, .int t_homes, .int t_there, .ref a_t_book, .ref a_t_now, .int t_meetings, .ref a_t_meeting, .int t_sights, .ref a_t_sight, .int t_signs, .ref a_t_pad, .int t_touched, .int t_firstTouch, .int t_reason, .int t_acts, .ref a_t_apart, .ref a_t_rounds, .ref a_t_fewest, .ref a_t_nextFewest, .ref a_t_ways, .ref a_t_nextWays, .ref a_t_counts, .ref a_t_image, .ref a_t_isKept])), (a_t_roads, .inl (cI, 12, .inl (upd b67t_roads p1.toNatClampNeg (((upd (upd t_roads p1.toNatClampNeg ((t_roads p1.toNatClampNeg) &&& (((1 : Int32) <<< (p2 &&& 31)) ^^^ (-1 : Int32)))) p2.toNatClampNeg (((upd t_roads p1.toNatClampNeg ((t_roads p1.toNatClampNeg) &&& (((1 : Int32) <<< (p2 &&& 31)) ^^^ (-1 : Int32)))) p2.toNatClampNeg) &&& (((1 : Int32) <<< (p1 &&& 31)) ^^^ (-1 : Int32)))) p1.toNatClampNeg) ||| b67s0))))] := hD
          refine lv_aload_n hx hb dX10_road_69 rfl (lv_at hl 0 rfl) ?_
          refine va_get (D := D) (ci := 10) (v := .ref a_t_roads) (C := RX10) (T := TX10) (N := 24) hx hb hts hmsX10 hown hK hP 0 rfl rfl 0 (by decide) hw7 (fun _ h9 => h9) rfl dX10_road_70 ?_
          refine lv_iload_n hx hb dX10_road_73 rfl (lv_at hl 2 rfl) ?_
          refine lv_dup2_11 hx hb dX10_road_74 rfl rfl ?_
          refine va_iald (D := D) hx hb hK hP 1 0 rfl rfl hi41 dX10_road_75 ?_
          refine lv_iload_n hx hb dX10_road_76 rfl (lv_at hl 3 rfl) ?_
          have hB87 : ∀ (b87s0 : Int32) (b87t_roads : Nat → Int32) (H : Heap) (locs : List Loc) (ls : Array Slot), va_P D vwCl [(a_t, .inr (10, [.ref a_t_roads, .int t_homes, .int t_there, .ref a_t_book, .ref a_t_now, .int t_meetings, .ref a_t_meeting, .int t_sights, .ref a_t_sight, .int t_signs, .ref a_t_pad, .int t_touched, .int t_firstTouch, .int t_reason, .int t_acts, .ref a_t_apart, .ref a_t_rounds, .ref a_t_fewest, .ref a_t_nextFewest, .ref a_t_ways, .ref a_t_nextWays, .ref a_t_counts, .ref a_t_image, .ref a_t_isKept])), (a_t_roads, .inl (cI, 12, .inl b87t_roads))] H → va_D A [(a_t, .inr (10, [.ref a_t_roads, .int t_homes, .int t_there, .ref a_t_book, .ref a_t_now, .int t_meetings, .ref a_t_meeting, .int t_sights, .ref a_t_sight, .int t_signs, .ref a_t_pad, .int t_touched, .int t_firstTouch, .int t_reason, .int t_acts, .ref a_t_apart, .ref a_t_rounds, .ref a_t_fewest, .ref a_t_nextFewest, .ref a_t_ways, .ref a_t_nextWays, .ref a_t_counts, .ref a_t_image, .ref a_t_isKept])), (a_t_roads, .inl (cI, 12, .inl b87t_roads))] → va_S A s.heap H locs → lv_has ls 6 [(0, .ref a_t)] → f_X10_road_B87 t_roads p1 p2 b67s0 b67t_roads b87s0 b87t_roads = some res → W p l e rm_X10_road s m args below meth c H locs 0 0 Q (F0 m 87 ls [.int b87s0, .int ((upd b67t_roads p1.toNatClampNeg (((upd (upd t_roads p1.toNatClampNeg ((t_roads p1.toNatClampNeg) &&& (((1 : Int32) <<< (p2 &&& 31)) ^^^ (-1 : Int32)))) p2.toNatClampNeg (((upd t_roads p1.toNatClampNeg ((t_roads p1.toNatClampNeg) &&& (((1 : Int32) <<< (p2 &&& 31)) ^^^ (-1 : Int32)))) p2.toNatClampNeg) &&& (((1 : Int32) <<< (p1 &&& 31)) ^^^ (-1 : Int32)))) p1.toNatClampNeg) ||| b67s0)) p2.toNatClampNeg), .int p2, .ref a_t_roads]) := by
            intro b87s0 b87t_roads H locs ls hP hD hS hl hf
            rw [f_X10_road_B87] at hf
            refine lv_ior hx hb dX10_road_87 ?_
            refine va_iast (D := D) hx hb hK hP hD hS 1 0 rfl rfl hi41 dX10_road_88 (fun H locs hP hD hS => ?_)
            replace hP : va_P D vwCl [(a_t, .inr (10, [.ref a_t_roads, .int t_homes, .int t_there, .ref a_t_book, .ref a_t_now, .int t_meetings, .ref a_t_meeting, .int t_sights, .ref a_t_sight, .int t_signs, .ref a_t_pad, .int t_touched, .int t_firstTouch, .int t_reason, .int t_acts, .ref a_t_apart, .ref a_t_rounds, .ref a_t_fewest, .ref a_t_nextFewest, .ref a_t_ways, .ref a_t_nextWays, .ref a_t_counts, .ref a_t_image, .ref a_t_isKept])), (a_t_roads, .inl (cI, 12, .inl (upd b87t_roads p2.toNatClampNeg (((upd b67t_roads p1.toNatClampNeg (((upd (upd t_roads p1.toNatClampNeg ((t_roads p1.toNatClampNeg) &&& (((1 : Int32) <<< (p2 &&& 31)) ^^^ (-1 : Int32)))) p2.toNatClampNeg (((upd t_roads p1.toNatClampNeg ((t_roads p1.toNatClampNeg) &&& (((1 : Int32) <<< (p2 &&& 31)) ^^^ (-1 : Int32)))) p2.toNatClampNeg) &&& (((1 : Int32) <<< (p1 &&& 31)) ^^^ (-1 : Int32)))) p1.toNatClampNeg) ||| b67s0)) p2.toNatClampNeg) ||| b87s0))))] H := hP
            replace hD : va_D A [(a_t, .inr (10, [.ref a_t_roads, .int t_homes, .int t_there, .ref a_t_book, .ref a_t_now, .int t_meetings, .ref a_t_meeting, .int t_sights, .ref a_t_sight, .int t_signs, .ref a_t_pad, .int t_touched, .int t_firstTouch, .int t_reason, .int t_acts, .ref a_t_apart, .ref a_t_rounds, .ref a_t_fewest, .ref a_t_nextFewest, .ref a_t_ways, .ref a_t_nextWays, .ref a_t_counts, .ref a_t_image, .ref a_t_isKept])), (a_t_roads, .inl (cI, 12, .inl (upd b87t_roads p2.toNatClampNeg (((upd b67t_roads p1.toNatClampNeg (((upd (upd t_roads p1.toNatClampNeg ((t_roads p1.toNatClampNeg) &&& (((1 : Int32) <<< (p2 &&& 31)) ^^^ (-1 : Int32)))) p2.toNatClampNeg (((upd t_roads p1.toNatClampNeg ((t_roads p1.toNatClampNeg) &&& (((1 : Int32) <<< (p2 &&& 31)) ^^^ (-1 : Int32)))) p2.toNatClampNeg) &&& (((1 : Int32) <<< (p1 &&& 31)) ^^^ (-1 : Int32)))) p1.toNatClampNeg) ||| b67s0)) p2.toNatClampNeg) ||| b87s0))))] := hD
            refine lv_iconst (v := 0) hx hb dX10_road_89 (by decide) ?_
            refine lv_istore (lv' := [(4, .int (0 : Int32)), (0, .ref a_t)]) hx hb dX10_road_90 hl (by decide) rfl (fun ls hl => ?_)
            refine lv_iconst (v := 0) hx hb dX10_road_92 (by decide) ?_
            refine lv_istore (lv' := [(5, .int (0 : Int32)), (4, .int (0 : Int32)), (0, .ref a_t)]) hx hb dX10_road_93 hl (by decide) rfl (fun ls hl => ?_)
            have hX95 : ∀ (x95v4 : Int32) (x95t_roads : Nat → Int32) (H : Heap) (locs : List Loc) (ls : Array Slot), va_P D vwCl [(a_t, .inr (10, [.ref a_t_roads, .int t_homes, .int t_there, .ref a_t_book, .ref a_t_now, .int t_meetings, .ref a_t_meeting, .int t_sights, .ref a_t_sight, .int t_signs, .ref a_t_pad, .int t_touched, .int t_firstTouch, .int t_reason, .int t_acts, .ref a_t_apart, .ref a_t_rounds, .ref a_t_fewest, .ref a_t_nextFewest, .ref a_t_ways, .ref a_t_nextWays, .ref a_t_counts, .ref a_t_image, .ref a_t_isKept])), (a_t_roads, .inl (cI, 12, .inl x95t_roads))] H → va_D A [(a_t, .inr (10, [.ref a_t_roads, .int t_homes, .int t_there, .ref a_t_book, .ref a_t_now, .int t_meetings, .ref a_t_meeting, .int t_sights, .ref a_t_sight, .int t_signs, .ref a_t_pad, .int t_touched, .int t_firstTouch, .int t_reason, .int t_acts, .ref a_t_apart, .ref a_t_rounds, .ref a_t_fewest, .ref a_t_nextFewest, .ref a_t_ways, .ref a_t_nextWays, .ref a_t_counts, .ref a_t_image, .ref a_t_isKept])), (a_t_roads, .inl (cI, 12, .inl x95t_roads))] → va_S A s.heap H locs → lv_has ls 6 [(4, .int x95v4)] → f_X10_road_X95 x95v4 x95t_roads = some res → W p l e rm_X10_road s m args below meth c H locs 0 0 Q (F0 m 123 ls []) := by
              intro x95v4 x95t_roads H locs ls hP hD hS hl hf
              rw [f_X10_road_X95] at hf
              refine lv_iload hx hb dX10_road_123 (lv_at hl 0 rfl) ?_
              refine lv_iconst (v := 2) hx hb dX10_road_125 (by decide) ?_
              refine lv_idiv hx hb dX10_road_126 (by decide) ?_
              obtain rfl := Option.some.inj hf
              exact fin _ _ _ _ dX10_road_127 hP hD hS
            have hL95 : ∀ (n95 : Nat), ∀ (l95v4 : Int32) (l95v5 : Int32) (l95t_roads : Nat → Int32) (H : Heap) (locs : List Loc) (ls : Array Slot), va_P D vwCl [(a_t, .inr (10, [.ref a_t_roads, .int t_homes, .int t_there, .ref a_t_book, .ref a_t_now, .int t_meetings, .ref a_t_meeting, .int t_sights, .ref a_t_sight, .int t_signs, .ref a_t_pad, .int t_touched, .int t_firstTouch, .int t_reason, .int t_acts, .ref a_t_apart, .ref a_t_rounds, .ref a_t_fewest, .ref a_t_nextFewest, .ref a_t_ways, .ref a_t_nextWays, .ref a_t_counts, .ref a_t_image, .ref a_t_isKept])), (a_t_roads, .inl (cI, 12, .inl l95t_roads))] H → va_D A [(a_t, .inr (10, [.ref a_t_roads, .int t_homes, .int t_there, .ref a_t_book, .ref a_t_now, .int t_meetings, .ref a_t_meeting, .int t_sights, .ref a_t_sight, .int t_signs, .ref a_t_pad, .int t_touched, .int t_firstTouch, .int t_reason, .int t_acts, .ref a_t_apart, .ref a_t_rounds, .ref a_t_fewest, .ref a_t_nextFewest, .ref a_t_ways, .ref a_t_nextWays, .ref a_t_counts, .ref a_t_image, .ref a_t_isKept])), (a_t_roads, .inl (cI, 12, .inl l95t_roads))] → va_S A s.heap H locs → lv_has ls 6 [(0, .ref a_t), (4, .int l95v4), (5, .int l95v5)] → f_X10_road_L95 f_X10_road_X95 n95 l95v4 l95v5 l95t_roads = some res → W p l e rm_X10_road s m args below meth c H locs 0 0 Q (F0 m 95 ls []) := by
              intro n95
              induction n95 with
              | zero =>
                intro l95v4 l95v5 l95t_roads H locs ls hP hD hS hl hf
                rw [f_X10_road_L95] at hf
                cases hf
              | succ n95 ih95 =>
                intro l95v4 l95v5 l95t_roads H locs ls hP hD hS hl hf
                rw [f_X10_road_L95] at hf
                refine lv_iload hx hb dX10_road_95 (lv_at hl 2 rfl) ?_
                refine lv_bipush (v := 12) hx hb dX10_road_97 (by decide) ?_
                refine lv_icmp_ge (tgt := 123) hx hb dX10_road_99 (by decide) (fun hc => ?_) (fun hc => ?_)
                · replace hf := (if_pos hc).symm.trans hf
                  exact hX95 l95v4 l95t_roads _ _ _ hP hD hS (lv_sub hl [1] rfl) hf
                · replace hf := (if_neg hc).symm.trans hf
                  refine lv_iload hx hb dX10_road_102 (lv_at hl 1 rfl) ?_
                  refine lv_aload_n hx hb dX10_road_104 rfl (lv_at hl 0 rfl) ?_
                  refine va_get (D := D) (ci := 10) (v := .ref a_t_roads) (C := RX10) (T := TX10) (N := 24) hx hb hts hmsX10 hown hK hP 0 rfl rfl 0 (by decide) hw7 (fun _ h9 => h9) rfl dX10_road_105 ?_
                  refine lv_iload hx hb dX10_road_108 (lv_at hl 2 rfl) ?_
                  obtain ⟨hi110, hf⟩ := ix_if hf
                  refine va_iald (D := D) hx hb hK hP 1 0 rfl rfl hi110 dX10_road_110 ?_
                  obtain ⟨x111, hx111, hf⟩ := bd_if hf
                  refine cs_i (wr := [(a_t, .inr (10, [.ref a_t_roads, .int t_homes, .int t_there, .ref a_t_book, .ref a_t_now, .int t_meetings, .ref a_t_meeting, .int t_sights, .ref a_t_sight, .int t_signs, .ref a_t_pad, .int t_touched, .int t_firstTouch, .int t_reason, .int t_acts, .ref a_t_apart, .ref a_t_rounds, .ref a_t_fewest, .ref a_t_nextFewest, .ref a_t_ways, .ref a_t_nextWays, .ref a_t_counts, .ref a_t_image, .ref a_t_isKept])), (a_t_roads, .inl (cI, 12, .inl l95t_roads))]) (ws' := [(a_t, .inr (10, [.ref a_t_roads, .int t_homes, .int t_there, .ref a_t_book, .ref a_t_now, .int t_meetings, .ref a_t_meeting, .int t_sights, .ref a_t_sight, .int t_signs, .ref a_t_pad, .int t_touched, .int t_firstTouch, .int t_reason, .int t_acts, .ref a_t_apart, .ref a_t_rounds, .ref a_t_fewest, .ref a_t_nextFewest, .ref a_t_ways, .ref a_t_nextWays, .ref a_t_counts, .ref a_t_image, .ref a_t_isKept])), (a_t_roads, .inl (cI, 12, .inl l95t_roads))]) ⟨hx, hb, hml, hown, hts⟩ hcw76 hK hN hP hD hS hA (c_X10_bits l D cI cJ cZ cO _ (l95t_roads l95v5.toNatClampNeg) x111 hx111) [] [0, 1] [0, 1] rfl rfl rfl rfl (by decide) rfl rfl rfl hl.1 rfl (Nat.le_of_ble_eq_true rfl) dX10_road_111 ⟨Nat.zero_le _, Nat.zero_le _⟩ (fun H locs hP hD hS => ?_)
                  refine lv_iadd hx hb dX10_road_114 ?_
                  refine lv_istore (lv' := [(4, .int (l95v4 + x111)), (0, .ref a_t), (5, .int l95v5)]) hx hb dX10_road_115 hl (by decide) rfl (fun ls hl => ?_)
                  refine lv_iinc (v := l95v5 + 1) (lv' := [(5, .int (l95v5 + 1)), (4, .int (l95v4 + x111)), (0, .ref a_t)]) hx hb dX10_road_117 hl (k := 2) rfl rfl (by decide) rfl (fun ls hl => ?_)
                  refine lv_goto (tgt := 95) hx hb dX10_road_120 (by decide) ?_
                  exact ih95 (l95v4 + x111) (l95v5 + 1) l95t_roads _ _ _ hP hD hS (lv_sub hl [2, 1, 0] rfl) hf
            exact hL95 5000 (0 : Int32) (0 : Int32) (upd b87t_roads p2.toNatClampNeg (((upd b67t_roads p1.toNatClampNeg (((upd (upd t_roads p1.toNatClampNeg ((t_roads p1.toNatClampNeg) &&& (((1 : Int32) <<< (p2 &&& 31)) ^^^ (-1 : Int32)))) p2.toNatClampNeg (((upd t_roads p1.toNatClampNeg ((t_roads p1.toNatClampNeg) &&& (((1 : Int32) <<< (p2 &&& 31)) ^^^ (-1 : Int32)))) p2.toNatClampNeg) &&& (((1 : Int32) <<< (p1 &&& 31)) ^^^ (-1 : Int32)))) p1.toNatClampNeg) ||| b67s0)) p2.toNatClampNeg) ||| b87s0)) _ _ _ hP hD hS (lv_sub hl [2, 1, 0] rfl) hf
          refine lv_if_eq (tgt := 86) hx hb dX10_road_77 (by decide) (fun hc => ?_) (fun hc => ?_)
          · replace hf := (if_pos hc).symm.trans hf
            refine lv_iconst (v := 0) hx hb dX10_road_86 (by decide) ?_
            exact hB87 (0 : Int32) (upd b67t_roads p1.toNatClampNeg (((upd (upd t_roads p1.toNatClampNeg ((t_roads p1.toNatClampNeg) &&& (((1 : Int32) <<< (p2 &&& 31)) ^^^ (-1 : Int32)))) p2.toNatClampNeg (((upd t_roads p1.toNatClampNeg ((t_roads p1.toNatClampNeg) &&& (((1 : Int32) <<< (p2 &&& 31)) ^^^ (-1 : Int32)))) p2.toNatClampNeg) &&& (((1 : Int32) <<< (p1 &&& 31)) ^^^ (-1 : Int32)))) p1.toNatClampNeg) ||| b67s0)) _ _ _ hP hD hS (lv_sub hl [0] rfl) hf
          · replace hf := (if_neg hc).symm.trans hf
            refine lv_iconst (v := 1) hx hb dX10_road_80 (by decide) ?_
            refine lv_iload_n hx hb dX10_road_81 rfl (lv_at hl 1 rfl) ?_
            refine lv_ishl hx hb dX10_road_82 ?_
            refine lv_goto (tgt := 87) hx hb dX10_road_83 (by decide) ?_
            exact hB87 ((1 : Int32) <<< (p1 &&& 31)) (upd b67t_roads p1.toNatClampNeg (((upd (upd t_roads p1.toNatClampNeg ((t_roads p1.toNatClampNeg) &&& (((1 : Int32) <<< (p2 &&& 31)) ^^^ (-1 : Int32)))) p2.toNatClampNeg (((upd t_roads p1.toNatClampNeg ((t_roads p1.toNatClampNeg) &&& (((1 : Int32) <<< (p2 &&& 31)) ^^^ (-1 : Int32)))) p2.toNatClampNeg) &&& (((1 : Int32) <<< (p1 &&& 31)) ^^^ (-1 : Int32)))) p1.toNatClampNeg) ||| b67s0)) _ _ _ hP hD hS (lv_sub hl [0] rfl) hf
        refine lv_if_eq (tgt := 66) hx hb dX10_road_57 (by decide) (fun hc => ?_) (fun hc => ?_)
        · replace hf := (if_pos hc).symm.trans hf
          refine lv_iconst (v := 0) hx hb dX10_road_66 (by decide) ?_
          exact hB67 (0 : Int32) (upd (upd t_roads p1.toNatClampNeg ((t_roads p1.toNatClampNeg) &&& (((1 : Int32) <<< (p2 &&& 31)) ^^^ (-1 : Int32)))) p2.toNatClampNeg (((upd t_roads p1.toNatClampNeg ((t_roads p1.toNatClampNeg) &&& (((1 : Int32) <<< (p2 &&& 31)) ^^^ (-1 : Int32)))) p2.toNatClampNeg) &&& (((1 : Int32) <<< (p1 &&& 31)) ^^^ (-1 : Int32)))) _ _ _ hP hD hS (lv_sub hl [0, 1, 2, 3] rfl) hf
        · replace hf := (if_neg hc).symm.trans hf
          refine lv_iconst (v := 1) hx hb dX10_road_60 (by decide) ?_
          refine lv_iload_n hx hb dX10_road_61 rfl (lv_at hl 2 rfl) ?_
          refine lv_ishl hx hb dX10_road_62 ?_
          refine lv_goto (tgt := 67) hx hb dX10_road_63 (by decide) ?_
          exact hB67 ((1 : Int32) <<< (p2 &&& 31)) (upd (upd t_roads p1.toNatClampNeg ((t_roads p1.toNatClampNeg) &&& (((1 : Int32) <<< (p2 &&& 31)) ^^^ (-1 : Int32)))) p2.toNatClampNeg (((upd t_roads p1.toNatClampNeg ((t_roads p1.toNatClampNeg) &&& (((1 : Int32) <<< (p2 &&& 31)) ^^^ (-1 : Int32)))) p2.toNatClampNeg) &&& (((1 : Int32) <<< (p1 &&& 31)) ^^^ (-1 : Int32)))) _ _ _ hP hD hS (lv_sub hl [0, 1, 2, 3] rfl) hf
      · replace hf := (if_pos hc).symm.trans hf
        refine lv_iconst (v := -1) hx hb dX10_road_19 (by decide) ?_
        obtain rfl := Option.some.inj hf
        exact fin _ _ _ _ dX10_road_20 hP hD hS
abbrev rm_X10_home : Room := { frames := 2, cells := 0, slots := 0, locals := 42 }
theorem ms_X10_home_X10 : ∀ w ∈ u_ws RX10 TX10 24, w ∈ wsX10_home := fun w h => List.mem_cons_of_mem _ (List.mem_append_right _ (h))
set_option maxHeartbeats 4000000 in
set_option maxRecDepth 100000 in
theorem c_X10_home (l : Launch) (D : va_G) (cI cJ cZ cO : ClassId) (sz : Nat) (a_t : Nat) (a_t_roads : Nat) (a_t_book : Nat) (a_t_now : Nat) (a_t_meeting : Nat) (a_t_sight : Nat) (a_t_pad : Nat) (a_t_apart : Nat) (a_t_rounds : Nat) (a_t_fewest : Nat) (a_t_nextFewest : Nat) (a_t_ways : Nat) (a_t_nextWays : Nat) (a_t_counts : Nat) (a_t_image : Nat) (a_t_isKept : Nat) (t_homes : Int32) (t_there : Int32) (t_meetings : Int32) (t_sights : Int32) (t_signs : Int32) (t_touched : Int32) (t_firstTouch : Int32) (t_reason : Int32) (t_acts : Int32) (p1 : Int32) (p2 : Int32) (res : Int32 × Int32) (hf : f_X10_home t_homes p1 p2 = some res) : MetI l yX10_home wsX10_home rm_X10_home [.ref a_t, .int p1, .int p2] D (tys4 cI cJ cZ cO) [(a_t, .inr (10, [.ref a_t_roads, .int t_homes, .int t_there, .ref a_t_book, .ref a_t_now, .int t_meetings, .ref a_t_meeting, .int t_sights, .ref a_t_sight, .int t_signs, .ref a_t_pad, .int t_touched, .int t_firstTouch, .int t_reason, .int t_acts, .ref a_t_apart, .ref a_t_rounds, .ref a_t_fewest, .ref a_t_nextFewest, .ref a_t_ways, .ref a_t_nextWays, .ref a_t_counts, .ref a_t_image, .ref a_t_isKept]))] sz res.1 [(a_t, .inr (10, [.ref a_t_roads, .int res.2, .int t_there, .ref a_t_book, .ref a_t_now, .int t_meetings, .ref a_t_meeting, .int t_sights, .ref a_t_sight, .int t_signs, .ref a_t_pad, .int t_touched, .int t_firstTouch, .int t_reason, .int t_acts, .ref a_t_apart, .ref a_t_rounds, .ref a_t_fewest, .ref a_t_nextFewest, .ref a_t_ways, .ref a_t_nextWays, .ref a_t_counts, .ref a_t_image, .ref a_t_isKept]))] := by
  refine met_i (cc := cX10_home) (maxL := 3) (by decide) rfl (Nat.le_of_ble_eq_true rfl) ?_
  intro p e s m args below meth c Q A hx hb hml hown hts hK hN hA fin H locs ls hP hD hS hl
  replace hown : s.vm.findClass RX10 = some m.cls := hown
  replace hl : lv_has ls 3 [(0, .ref a_t), (1, .int p1), (2, .int p2)] := hl
  rw [f_X10_home] at hf
  have hcw73 := va_cwS (R := rm_X10_home) (rm := rm_X10_isPlace) 1 hts gX10_home_X10_isPlace rfl rfl rfl (by decide +kernel) ⟨Nat.le_of_ble_eq_true rfl, Nat.le_of_ble_eq_true rfl⟩
  have hw80 := hts (.fieldLink RX10 80 "TouchReignModel" "homes" "I") (by decide +kernel)
  have hmsX10 := ms_X10_home_X10
  refine lv_iload_n hx hb dX10_home_0 rfl (lv_at hl 1 rfl) ?_
  obtain ⟨x1, hx1, hf⟩ := bd_if hf
  refine cs_i (wr := [(a_t, .inr (10, [.ref a_t_roads, .int t_homes, .int t_there, .ref a_t_book, .ref a_t_now, .int t_meetings, .ref a_t_meeting, .int t_sights, .ref a_t_sight, .int t_signs, .ref a_t_pad, .int t_touched, .int t_firstTouch, .int t_reason, .int t_acts, .ref a_t_apart, .ref a_t_rounds, .ref a_t_fewest, .ref a_t_nextFewest, .ref a_t_ways, .ref a_t_nextWays, .ref a_t_counts, .ref a_t_image, .ref a_t_isKept]))]) (ws' := [(a_t, .inr (10, [.ref a_t_roads, .int t_homes, .int t_there, .ref a_t_book, .ref a_t_now, .int t_meetings, .ref a_t_meeting, .int t_sights, .ref a_t_sight, .int t_signs, .ref a_t_pad, .int t_touched, .int t_firstTouch, .int t_reason, .int t_acts, .ref a_t_apart, .ref a_t_rounds, .ref a_t_fewest, .ref a_t_nextFewest, .ref a_t_ways, .ref a_t_nextWays, .ref a_t_counts, .ref a_t_image, .ref a_t_isKept]))]) ⟨hx, hb, hml, hown, hts⟩ hcw73 hK hN hP hD hS hA (c_X10_isPlace l D cI cJ cZ cO _ p1 x1 hx1) [] [0] [0] rfl rfl rfl rfl (by decide) rfl rfl rfl hl.1 rfl (Nat.le_of_ble_eq_true rfl) dX10_home_1 ⟨Nat.zero_le _, Nat.zero_le _⟩ (fun H locs hP hD hS => ?_)
  refine lv_if_ne (tgt := 9) hx hb dX10_home_4 (by decide) (fun hc => ?_) (fun hc => ?_)
  · replace hf := (if_neg hc).symm.trans hf
    refine lv_aload_n hx hb dX10_home_9 rfl (lv_at hl 0 rfl) ?_
    refine lv_dup hx hb dX10_home_10 rfl ?_
    refine va_get (D := D) (ci := 10) (v := .int t_homes) (C := RX10) (T := TX10) (N := 24) hx hb hts hmsX10 hown hK hP 0 rfl rfl 1 (by decide) hw80 (fun _ h9 => h9) rfl dX10_home_11 ?_
    refine lv_iconst (v := 1) hx hb dX10_home_14 (by decide) ?_
    refine lv_iload_n hx hb dX10_home_15 rfl (lv_at hl 1 rfl) ?_
    refine lv_ishl hx hb dX10_home_16 ?_
    refine lv_iconst (v := -1) hx hb dX10_home_17 (by decide) ?_
    refine lv_ixor hx hb dX10_home_18 ?_
    refine lv_iand hx hb dX10_home_19 ?_
    refine va_put (D := D) (ci := 10) (v := .int (t_homes &&& (((1 : Int32) <<< (p1 &&& 31)) ^^^ (-1 : Int32)))) (ty := .int) (C := RX10) (T := TX10) (N := 24) hx hb hts hmsX10 tyX10 tyX10_ok nmX10 hown hK hP hD hS 0 rfl rfl 1 (by decide) hw80 (fun _ h9 => h9) rfl (by decide +kernel) rfl rfl (Nat.le_of_ble_eq_true rfl) dX10_home_20 (fun H locs hP hD hS => ?_)
    replace hP : va_P D vwCl [(a_t, .inr (10, [.ref a_t_roads, .int (t_homes &&& (((1 : Int32) <<< (p1 &&& 31)) ^^^ (-1 : Int32))), .int t_there, .ref a_t_book, .ref a_t_now, .int t_meetings, .ref a_t_meeting, .int t_sights, .ref a_t_sight, .int t_signs, .ref a_t_pad, .int t_touched, .int t_firstTouch, .int t_reason, .int t_acts, .ref a_t_apart, .ref a_t_rounds, .ref a_t_fewest, .ref a_t_nextFewest, .ref a_t_ways, .ref a_t_nextWays, .ref a_t_counts, .ref a_t_image, .ref a_t_isKept]))] H := hP
    replace hD : va_D A [(a_t, .inr (10, [.ref a_t_roads, .int (t_homes &&& (((1 : Int32) <<< (p1 &&& 31)) ^^^ (-1 : Int32))), .int t_there, .ref a_t_book, .ref a_t_now, .int t_meetings, .ref a_t_meeting, .int t_sights, .ref a_t_sight, .int t_signs, .ref a_t_pad, .int t_touched, .int t_firstTouch, .int t_reason, .int t_acts, .ref a_t_apart, .ref a_t_rounds, .ref a_t_fewest, .ref a_t_nextFewest, .ref a_t_ways, .ref a_t_nextWays, .ref a_t_counts, .ref a_t_image, .ref a_t_isKept]))] := hD
    refine lv_aload_n hx hb dX10_home_23 rfl (lv_at hl 0 rfl) ?_
    refine lv_dup hx hb dX10_home_24 rfl ?_
    refine va_get (D := D) (ci := 10) (v := .int (t_homes &&& (((1 : Int32) <<< (p1 &&& 31)) ^^^ (-1 : Int32)))) (C := RX10) (T := TX10) (N := 24) hx hb hts hmsX10 hown hK hP 0 rfl rfl 1 (by decide) hw80 (fun _ h9 => h9) rfl dX10_home_25 ?_
    refine lv_iload_n hx hb dX10_home_28 rfl (lv_at hl 2 rfl) ?_
    refine lv_if_eq (tgt := 38) hx hb dX10_home_29 (by decide) (fun hc => ?_) (fun hc => ?_)
    · replace hf := (if_pos hc).symm.trans hf
      refine lv_iconst (v := 0) hx hb dX10_home_38 (by decide) ?_
      refine lv_ior hx hb dX10_home_39 ?_
      refine va_put (D := D) (ci := 10) (v := .int ((t_homes &&& (((1 : Int32) <<< (p1 &&& 31)) ^^^ (-1 : Int32))) ||| (0 : Int32))) (ty := .int) (C := RX10) (T := TX10) (N := 24) hx hb hts hmsX10 tyX10 tyX10_ok nmX10 hown hK hP hD hS 0 rfl rfl 1 (by decide) hw80 (fun _ h9 => h9) rfl (by decide +kernel) rfl rfl (Nat.le_of_ble_eq_true rfl) dX10_home_40 (fun H locs hP hD hS => ?_)
      replace hP : va_P D vwCl [(a_t, .inr (10, [.ref a_t_roads, .int ((t_homes &&& (((1 : Int32) <<< (p1 &&& 31)) ^^^ (-1 : Int32))) ||| (0 : Int32)), .int t_there, .ref a_t_book, .ref a_t_now, .int t_meetings, .ref a_t_meeting, .int t_sights, .ref a_t_sight, .int t_signs, .ref a_t_pad, .int t_touched, .int t_firstTouch, .int t_reason, .int t_acts, .ref a_t_apart, .ref a_t_rounds, .ref a_t_fewest, .ref a_t_nextFewest, .ref a_t_ways, .ref a_t_nextWays, .ref a_t_counts, .ref a_t_image, .ref a_t_isKept]))] H := hP
      replace hD : va_D A [(a_t, .inr (10, [.ref a_t_roads, .int ((t_homes &&& (((1 : Int32) <<< (p1 &&& 31)) ^^^ (-1 : Int32))) ||| (0 : Int32)), .int t_there, .ref a_t_book, .ref a_t_now, .int t_meetings, .ref a_t_meeting, .int t_sights, .ref a_t_sight, .int t_signs, .ref a_t_pad, .int t_touched, .int t_firstTouch, .int t_reason, .int t_acts, .ref a_t_apart, .ref a_t_rounds, .ref a_t_fewest, .ref a_t_nextFewest, .ref a_t_ways, .ref a_t_nextWays, .ref a_t_counts, .ref a_t_image, .ref a_t_isKept]))] := hD
      refine lv_aload_n hx hb dX10_home_43 rfl (lv_at hl 0 rfl) ?_
      refine va_get (D := D) (ci := 10) (v := .int ((t_homes &&& (((1 : Int32) <<< (p1 &&& 31)) ^^^ (-1 : Int32))) ||| (0 : Int32))) (C := RX10) (T := TX10) (N := 24) hx hb hts hmsX10 hown hK hP 0 rfl rfl 1 (by decide) hw80 (fun _ h9 => h9) rfl dX10_home_44 ?_
      obtain rfl := Option.some.inj hf
      exact fin _ _ _ _ dX10_home_47 hP hD hS
    · replace hf := (if_neg hc).symm.trans hf
      refine lv_iconst (v := 1) hx hb dX10_home_32 (by decide) ?_
      refine lv_iload_n hx hb dX10_home_33 rfl (lv_at hl 1 rfl) ?_
      refine lv_ishl hx hb dX10_home_34 ?_
      refine lv_goto (tgt := 39) hx hb dX10_home_35 (by decide) ?_
      refine lv_ior hx hb dX10_home_39 ?_
      refine va_put (D := D) (ci := 10) (v := .int ((t_homes &&& (((1 : Int32) <<< (p1 &&& 31)) ^^^ (-1 : Int32))) ||| ((1 : Int32) <<< (p1 &&& 31)))) (ty := .int) (C := RX10) (T := TX10) (N := 24) hx hb hts hmsX10 tyX10 tyX10_ok nmX10 hown hK hP hD hS 0 rfl rfl 1 (by decide) hw80 (fun _ h9 => h9) rfl (by decide +kernel) rfl rfl (Nat.le_of_ble_eq_true rfl) dX10_home_40 (fun H locs hP hD hS => ?_)
      replace hP : va_P D vwCl [(a_t, .inr (10, [.ref a_t_roads, .int ((t_homes &&& (((1 : Int32) <<< (p1 &&& 31)) ^^^ (-1 : Int32))) ||| ((1 : Int32) <<< (p1 &&& 31))), .int t_there, .ref a_t_book, .ref a_t_now, .int t_meetings, .ref a_t_meeting, .int t_sights, .ref a_t_sight, .int t_signs, .ref a_t_pad, .int t_touched, .int t_firstTouch, .int t_reason, .int t_acts, .ref a_t_apart, .ref a_t_rounds, .ref a_t_fewest, .ref a_t_nextFewest, .ref a_t_ways, .ref a_t_nextWays, .ref a_t_counts, .ref a_t_image, .ref a_t_isKept]))] H := hP
      replace hD : va_D A [(a_t, .inr (10, [.ref a_t_roads, .int ((t_homes &&& (((1 : Int32) <<< (p1 &&& 31)) ^^^ (-1 : Int32))) ||| ((1 : Int32) <<< (p1 &&& 31))), .int t_there, .ref a_t_book, .ref a_t_now, .int t_meetings, .ref a_t_meeting, .int t_sights, .ref a_t_sight, .int t_signs, .ref a_t_pad, .int t_touched, .int t_firstTouch, .int t_reason, .int t_acts, .ref a_t_apart, .ref a_t_rounds, .ref a_t_fewest, .ref a_t_nextFewest, .ref a_t_ways, .ref a_t_nextWays, .ref a_t_counts, .ref a_t_image, .ref a_t_isKept]))] := hD
      refine lv_aload_n hx hb dX10_home_43 rfl (lv_at hl 0 rfl) ?_
      refine va_get (D := D) (ci := 10) (v := .int ((t_homes &&& (((1 : Int32) <<< (p1 &&& 31)) ^^^ (-1 : Int32))) ||| ((1 : Int32) <<< (p1 &&& 31)))) (C := RX10) (T := TX10) (N := 24) hx hb hts hmsX10 hown hK hP 0 rfl rfl 1 (by decide) hw80 (fun _ h9 => h9) rfl dX10_home_44 ?_
      obtain rfl := Option.some.inj hf
      exact fin _ _ _ _ dX10_home_47 hP hD hS
  · replace hf := (if_pos hc).symm.trans hf
    refine lv_iconst (v := -1) hx hb dX10_home_7 (by decide) ?_
    obtain rfl := Option.some.inj hf
    exact fin _ _ _ _ dX10_home_8 hP hD hS
abbrev rm_X10_one : Room := { frames := 2, cells := 0, slots := 0, locals := 42 }
theorem ms_X10_one_X10 : ∀ w ∈ u_ws RX10 TX10 24, w ∈ wsX10_one := fun w h => List.mem_cons_of_mem _ (List.mem_append_right _ (h))
set_option maxHeartbeats 4000000 in
set_option maxRecDepth 100000 in
theorem c_X10_one (l : Launch) (D : va_G) (cI cJ cZ cO : ClassId) (sz : Nat) (a_t : Nat) (a_t_roads : Nat) (a_t_book : Nat) (a_t_now : Nat) (a_t_meeting : Nat) (a_t_sight : Nat) (a_t_pad : Nat) (a_t_apart : Nat) (a_t_rounds : Nat) (a_t_fewest : Nat) (a_t_nextFewest : Nat) (a_t_ways : Nat) (a_t_nextWays : Nat) (a_t_counts : Nat) (a_t_image : Nat) (a_t_isKept : Nat) (t_homes : Int32) (t_there : Int32) (t_meetings : Int32) (t_sights : Int32) (t_signs : Int32) (t_touched : Int32) (t_firstTouch : Int32) (t_reason : Int32) (t_acts : Int32) (t_book : Nat → Int32) (p1 : Int32) (p2 : Int32) (p3 : Int32) (res : Int32 × Int32 × (Nat → Int32)) (hf : f_X10_one t_there t_book p1 p2 p3 = some res) : MetI l yX10_one wsX10_one rm_X10_one [.ref a_t, .int p1, .int p2, .int p3] D (tys4 cI cJ cZ cO) [(a_t, .inr (10, [.ref a_t_roads, .int t_homes, .int t_there, .ref a_t_book, .ref a_t_now, .int t_meetings, .ref a_t_meeting, .int t_sights, .ref a_t_sight, .int t_signs, .ref a_t_pad, .int t_touched, .int t_firstTouch, .int t_reason, .int t_acts, .ref a_t_apart, .ref a_t_rounds, .ref a_t_fewest, .ref a_t_nextFewest, .ref a_t_ways, .ref a_t_nextWays, .ref a_t_counts, .ref a_t_image, .ref a_t_isKept])), (a_t_book, .inl (cI, 25, .inl t_book))] sz res.1 [(a_t, .inr (10, [.ref a_t_roads, .int t_homes, .int res.2.1, .ref a_t_book, .ref a_t_now, .int t_meetings, .ref a_t_meeting, .int t_sights, .ref a_t_sight, .int t_signs, .ref a_t_pad, .int t_touched, .int t_firstTouch, .int t_reason, .int t_acts, .ref a_t_apart, .ref a_t_rounds, .ref a_t_fewest, .ref a_t_nextFewest, .ref a_t_ways, .ref a_t_nextWays, .ref a_t_counts, .ref a_t_image, .ref a_t_isKept])), (a_t_book, .inl (cI, 25, .inl res.2.2))] := by
  refine met_i (cc := cX10_one) (maxL := 4) (by decide) rfl (Nat.le_of_ble_eq_true rfl) ?_
  intro p e s m args below meth c Q A hx hb hml hown hts hK hN hA fin H locs ls hP hD hS hl
  replace hown : s.vm.findClass RX10 = some m.cls := hown
  replace hl : lv_has ls 4 [(0, .ref a_t), (1, .int p1), (2, .int p2), (3, .int p3)] := hl
  rw [f_X10_one] at hf
  have hcw61 := va_cwS (R := rm_X10_one) (rm := rm_X10_isNumber) 1 hts gX10_one_X10_isNumber rfl rfl rfl (by decide +kernel) ⟨Nat.le_of_ble_eq_true rfl, Nat.le_of_ble_eq_true rfl⟩
  have hcw73 := va_cwS (R := rm_X10_one) (rm := rm_X10_isPlace) 1 hts gX10_one_X10_isPlace rfl rfl rfl (by decide +kernel) ⟨Nat.le_of_ble_eq_true rfl, Nat.le_of_ble_eq_true rfl⟩
  have hcw57 := va_cwS (R := rm_X10_one) (rm := rm_X10_in) 3 hts gX10_one_X10_in rfl rfl rfl (by decide +kernel) ⟨Nat.le_of_ble_eq_true rfl, Nat.le_of_ble_eq_true rfl⟩
  have hw65 := hts (.fieldLink RX10 65 "TouchReignModel" "there" "I") (by decide +kernel)
  have hmsX10 := ms_X10_one_X10
  have hw13 := hts (.fieldLink RX10 13 "TouchReignModel" "book" "[I") (by decide +kernel)
  have hcw76 := va_cwS (R := rm_X10_one) (rm := rm_X10_bits) 1 hts gX10_one_X10_bits rfl rfl rfl (by decide +kernel) ⟨Nat.le_of_ble_eq_true rfl, Nat.le_of_ble_eq_true rfl⟩
  refine lv_iload_n hx hb dX10_one_0 rfl (lv_at hl 1 rfl) ?_
  obtain ⟨x1, hx1, hf⟩ := bd_if hf
  refine cs_i (wr := [(a_t, .inr (10, [.ref a_t_roads, .int t_homes, .int t_there, .ref a_t_book, .ref a_t_now, .int t_meetings, .ref a_t_meeting, .int t_sights, .ref a_t_sight, .int t_signs, .ref a_t_pad, .int t_touched, .int t_firstTouch, .int t_reason, .int t_acts, .ref a_t_apart, .ref a_t_rounds, .ref a_t_fewest, .ref a_t_nextFewest, .ref a_t_ways, .ref a_t_nextWays, .ref a_t_counts, .ref a_t_image, .ref a_t_isKept])), (a_t_book, .inl (cI, 25, .inl t_book))]) (ws' := [(a_t, .inr (10, [.ref a_t_roads, .int t_homes, .int t_there, .ref a_t_book, .ref a_t_now, .int t_meetings, .ref a_t_meeting, .int t_sights, .ref a_t_sight, .int t_signs, .ref a_t_pad, .int t_touched, .int t_firstTouch, .int t_reason, .int t_acts, .ref a_t_apart, .ref a_t_rounds, .ref a_t_fewest, .ref a_t_nextFewest, .ref a_t_ways, .ref a_t_nextWays, .ref a_t_counts, .ref a_t_image, .ref a_t_isKept])), (a_t_book, .inl (cI, 25, .inl t_book))]) ⟨hx, hb, hml, hown, hts⟩ hcw61 hK hN hP hD hS hA (c_X10_isNumber l D cI cJ cZ cO _ p1 x1 hx1) [] [0, 1] [0, 1] rfl rfl rfl rfl (by decide) rfl rfl rfl hl.1 rfl (Nat.le_of_ble_eq_true rfl) dX10_one_1 ⟨Nat.zero_le _, Nat.zero_le _⟩ (fun H locs hP hD hS => ?_)
  refine lv_if_ne (tgt := 9) hx hb dX10_one_4 (by decide) (fun hc => ?_) (fun hc => ?_)
  · replace hf := (if_neg hc).symm.trans hf
    refine lv_iload_n hx hb dX10_one_9 rfl (lv_at hl 2 rfl) ?_
    obtain ⟨x10, hx10, hf⟩ := bd_if hf
    refine cs_i (wr := [(a_t, .inr (10, [.ref a_t_roads, .int t_homes, .int t_there, .ref a_t_book, .ref a_t_now, .int t_meetings, .ref a_t_meeting, .int t_sights, .ref a_t_sight, .int t_signs, .ref a_t_pad, .int t_touched, .int t_firstTouch, .int t_reason, .int t_acts, .ref a_t_apart, .ref a_t_rounds, .ref a_t_fewest, .ref a_t_nextFewest, .ref a_t_ways, .ref a_t_nextWays, .ref a_t_counts, .ref a_t_image, .ref a_t_isKept])), (a_t_book, .inl (cI, 25, .inl t_book))]) (ws' := [(a_t, .inr (10, [.ref a_t_roads, .int t_homes, .int t_there, .ref a_t_book, .ref a_t_now, .int t_meetings, .ref a_t_meeting, .int t_sights, .ref a_t_sight, .int t_signs, .ref a_t_pad, .int t_touched, .int t_firstTouch, .int t_reason, .int t_acts, .ref a_t_apart, .ref a_t_rounds, .ref a_t_fewest, .ref a_t_nextFewest, .ref a_t_ways, .ref a_t_nextWays, .ref a_t_counts, .ref a_t_image, .ref a_t_isKept])), (a_t_book, .inl (cI, 25, .inl t_book))]) ⟨hx, hb, hml, hown, hts⟩ hcw73 hK hN hP hD hS hA (c_X10_isPlace l D cI cJ cZ cO _ p2 x10 hx10) [] [0, 1] [0, 1] rfl rfl rfl rfl (by decide) rfl rfl rfl hl.1 rfl (Nat.le_of_ble_eq_true rfl) dX10_one_10 ⟨Nat.zero_le _, Nat.zero_le _⟩ (fun H locs hP hD hS => ?_)
    refine lv_if_eq (tgt := 26) hx hb dX10_one_13 (by decide) (fun hc => ?_) (fun hc => ?_)
    · replace hf := (if_pos hc).symm.trans hf
      refine lv_bipush (v := -2) hx hb dX10_one_26 (by decide) ?_
      obtain rfl := Option.some.inj hf
      exact fin _ _ _ _ dX10_one_28 hP hD hS
    · replace hf := (if_neg hc).symm.trans hf
      refine lv_iload_n hx hb dX10_one_16 rfl (lv_at hl 3 rfl) ?_
      refine lv_iconst (v := 0) hx hb dX10_one_17 (by decide) ?_
      refine lv_bipush (v := 9) hx hb dX10_one_18 (by decide) ?_
      obtain ⟨x20, hx20, hf⟩ := bd_if hf
      refine cs_i (wr := [(a_t, .inr (10, [.ref a_t_roads, .int t_homes, .int t_there, .ref a_t_book, .ref a_t_now, .int t_meetings, .ref a_t_meeting, .int t_sights, .ref a_t_sight, .int t_signs, .ref a_t_pad, .int t_touched, .int t_firstTouch, .int t_reason, .int t_acts, .ref a_t_apart, .ref a_t_rounds, .ref a_t_fewest, .ref a_t_nextFewest, .ref a_t_ways, .ref a_t_nextWays, .ref a_t_counts, .ref a_t_image, .ref a_t_isKept])), (a_t_book, .inl (cI, 25, .inl t_book))]) (ws' := [(a_t, .inr (10, [.ref a_t_roads, .int t_homes, .int t_there, .ref a_t_book, .ref a_t_now, .int t_meetings, .ref a_t_meeting, .int t_sights, .ref a_t_sight, .int t_signs, .ref a_t_pad, .int t_touched, .int t_firstTouch, .int t_reason, .int t_acts, .ref a_t_apart, .ref a_t_rounds, .ref a_t_fewest, .ref a_t_nextFewest, .ref a_t_ways, .ref a_t_nextWays, .ref a_t_counts, .ref a_t_image, .ref a_t_isKept])), (a_t_book, .inl (cI, 25, .inl t_book))]) ⟨hx, hb, hml, hown, hts⟩ hcw57 hK hN hP hD hS hA (c_X10_in l D cI cJ cZ cO _ p3 (0 : Int32) (9 : Int32) x20 hx20) [] [0, 1] [0, 1] rfl rfl rfl rfl (by decide) rfl rfl rfl hl.1 rfl (Nat.le_of_ble_eq_true rfl) dX10_one_20 ⟨Nat.zero_le _, Nat.zero_le _⟩ (fun H locs hP hD hS => ?_)
      refine lv_if_ne (tgt := 29) hx hb dX10_one_23 (by decide) (fun hc => ?_) (fun hc => ?_)
      · replace hf := (if_neg hc).symm.trans hf
        refine lv_aload_n hx hb dX10_one_29 rfl (lv_at hl 0 rfl) ?_
        refine lv_dup hx hb dX10_one_30 rfl ?_
        refine va_get (D := D) (ci := 10) (v := .int t_there) (C := RX10) (T := TX10) (N := 24) hx hb hts hmsX10 hown hK hP 0 rfl rfl 2 (by decide) hw65 (fun _ h9 => h9) rfl dX10_one_31 ?_
        refine lv_iconst (v := 1) hx hb dX10_one_34 (by decide) ?_
        refine lv_iload_n hx hb dX10_one_35 rfl (lv_at hl 1 rfl) ?_
        refine lv_ishl hx hb dX10_one_36 ?_
        refine lv_ior hx hb dX10_one_37 ?_
        refine va_put (D := D) (ci := 10) (v := .int (t_there ||| ((1 : Int32) <<< (p1 &&& 31)))) (ty := .int) (C := RX10) (T := TX10) (N := 24) hx hb hts hmsX10 tyX10 tyX10_ok nmX10 hown hK hP hD hS 0 rfl rfl 2 (by decide) hw65 (fun _ h9 => h9) rfl (by decide +kernel) rfl rfl (Nat.le_of_ble_eq_true rfl) dX10_one_38 (fun H locs hP hD hS => ?_)
        replace hP : va_P D vwCl [(a_t, .inr (10, [.ref a_t_roads, .int t_homes, .int (t_there ||| ((1 : Int32) <<< (p1 &&& 31))), .ref a_t_book, .ref a_t_now, .int t_meetings, .ref a_t_meeting, .int t_sights, .ref a_t_sight, .int t_signs, .ref a_t_pad, .int t_touched, .int t_firstTouch, .int t_reason, .int t_acts, .ref a_t_apart, .ref a_t_rounds, .ref a_t_fewest, .ref a_t_nextFewest, .ref a_t_ways, .ref a_t_nextWays, .ref a_t_counts, .ref a_t_image, .ref a_t_isKept])), (a_t_book, .inl (cI, 25, .inl t_book))] H := hP
        replace hD : va_D A [(a_t, .inr (10, [.ref a_t_roads, .int t_homes, .int (t_there ||| ((1 : Int32) <<< (p1 &&& 31))), .ref a_t_book, .ref a_t_now, .int t_meetings, .ref a_t_meeting, .int t_sights, .ref a_t_sight, .int t_signs, .ref a_t_pad, .int t_touched, .int t_firstTouch, .int t_reason, .int t_acts, .ref a_t_apart, .ref a_t_rounds, .ref a_t_fewest, .ref a_t_nextFewest, .ref a_t_ways, .ref a_t_nextWays, .ref a_t_counts, .ref a_t_image, .ref a_t_isKept])), (a_t_book, .inl (cI, 25, .inl t_book))] := hD
        refine lv_aload_n hx hb dX10_one_41 rfl (lv_at hl 0 rfl) ?_
        refine va_get (D := D) (ci := 10) (v := .ref a_t_book) (C := RX10) (T := TX10) (N := 24) hx hb hts hmsX10 hown hK hP 0 rfl rfl 3 (by decide) hw13 (fun _ h9 => h9) rfl dX10_one_42 ?_
        refine lv_iload_n hx hb dX10_one_45 rfl (lv_at hl 1 rfl) ?_
        refine lv_iload_n hx hb dX10_one_46 rfl (lv_at hl 2 rfl) ?_
        obtain ⟨hi47, hf⟩ := ix_if hf
        refine va_iast (D := D) hx hb hK hP hD hS 1 0 rfl rfl hi47 dX10_one_47 (fun H locs hP hD hS => ?_)
        replace hP : va_P D vwCl [(a_t, .inr (10, [.ref a_t_roads, .int t_homes, .int (t_there ||| ((1 : Int32) <<< (p1 &&& 31))), .ref a_t_book, .ref a_t_now, .int t_meetings, .ref a_t_meeting, .int t_sights, .ref a_t_sight, .int t_signs, .ref a_t_pad, .int t_touched, .int t_firstTouch, .int t_reason, .int t_acts, .ref a_t_apart, .ref a_t_rounds, .ref a_t_fewest, .ref a_t_nextFewest, .ref a_t_ways, .ref a_t_nextWays, .ref a_t_counts, .ref a_t_image, .ref a_t_isKept])), (a_t_book, .inl (cI, 25, .inl (upd t_book p1.toNatClampNeg p2)))] H := hP
        replace hD : va_D A [(a_t, .inr (10, [.ref a_t_roads, .int t_homes, .int (t_there ||| ((1 : Int32) <<< (p1 &&& 31))), .ref a_t_book, .ref a_t_now, .int t_meetings, .ref a_t_meeting, .int t_sights, .ref a_t_sight, .int t_signs, .ref a_t_pad, .int t_touched, .int t_firstTouch, .int t_reason, .int t_acts, .ref a_t_apart, .ref a_t_rounds, .ref a_t_fewest, .ref a_t_nextFewest, .ref a_t_ways, .ref a_t_nextWays, .ref a_t_counts, .ref a_t_image, .ref a_t_isKept])), (a_t_book, .inl (cI, 25, .inl (upd t_book p1.toNatClampNeg p2)))] := hD
        refine lv_aload_n hx hb dX10_one_48 rfl (lv_at hl 0 rfl) ?_
        refine va_get (D := D) (ci := 10) (v := .ref a_t_book) (C := RX10) (T := TX10) (N := 24) hx hb hts hmsX10 hown hK hP 0 rfl rfl 3 (by decide) hw13 (fun _ h9 => h9) rfl dX10_one_49 ?_
        refine lv_bipush (v := 7) hx hb dX10_one_52 (by decide) ?_
        refine lv_iload_n hx hb dX10_one_54 rfl (lv_at hl 1 rfl) ?_
        refine lv_iadd hx hb dX10_one_55 ?_
        refine lv_iload_n hx hb dX10_one_56 rfl (lv_at hl 3 rfl) ?_
        obtain ⟨hi57, hf⟩ := ix_if hf
        refine va_iast (D := D) hx hb hK hP hD hS 1 0 rfl rfl hi57 dX10_one_57 (fun H locs hP hD hS => ?_)
        replace hP : va_P D vwCl [(a_t, .inr (10, [.ref a_t_roads, .int t_homes, .int (t_there ||| ((1 : Int32) <<< (p1 &&& 31))), .ref a_t_book, .ref a_t_now, .int t_meetings, .ref a_t_meeting, .int t_sights, .ref a_t_sight, .int t_signs, .ref a_t_pad, .int t_touched, .int t_firstTouch, .int t_reason, .int t_acts, .ref a_t_apart, .ref a_t_rounds, .ref a_t_fewest, .ref a_t_nextFewest, .ref a_t_ways, .ref a_t_nextWays, .ref a_t_counts, .ref a_t_image, .ref a_t_isKept])), (a_t_book, .inl (cI, 25, .inl (upd (upd t_book p1.toNatClampNeg p2) ((7 : Int32) + p1).toNatClampNeg p3)))] H := hP
        replace hD : va_D A [(a_t, .inr (10, [.ref a_t_roads, .int t_homes, .int (t_there ||| ((1 : Int32) <<< (p1 &&& 31))), .ref a_t_book, .ref a_t_now, .int t_meetings, .ref a_t_meeting, .int t_sights, .ref a_t_sight, .int t_signs, .ref a_t_pad, .int t_touched, .int t_firstTouch, .int t_reason, .int t_acts, .ref a_t_apart, .ref a_t_rounds, .ref a_t_fewest, .ref a_t_nextFewest, .ref a_t_ways, .ref a_t_nextWays, .ref a_t_counts, .ref a_t_image, .ref a_t_isKept])), (a_t_book, .inl (cI, 25, .inl (upd (upd t_book p1.toNatClampNeg p2) ((7 : Int32) + p1).toNatClampNeg p3)))] := hD
        refine lv_aload_n hx hb dX10_one_58 rfl (lv_at hl 0 rfl) ?_
        refine va_get (D := D) (ci := 10) (v := .ref a_t_book) (C := RX10) (T := TX10) (N := 24) hx hb hts hmsX10 hown hK hP 0 rfl rfl 3 (by decide) hw13 (fun _ h9 => h9) rfl dX10_one_59 ?_
        refine lv_bipush (v := 14) hx hb dX10_one_62 (by decide) ?_
        refine lv_iload_n hx hb dX10_one_64 rfl (lv_at hl 1 rfl) ?_
        refine lv_iadd hx hb dX10_one_65 ?_
        refine lv_iconst (v := 0) hx hb dX10_one_66 (by decide) ?_
        obtain ⟨hi67, hf⟩ := ix_if hf
        refine va_iast (D := D) hx hb hK hP hD hS 1 0 rfl rfl hi67 dX10_one_67 (fun H locs hP hD hS => ?_)
        replace hP : va_P D vwCl [(a_t, .inr (10, [.ref a_t_roads, .int t_homes, .int (t_there ||| ((1 : Int32) <<< (p1 &&& 31))), .ref a_t_book, .ref a_t_now, .int t_meetings, .ref a_t_meeting, .int t_sights, .ref a_t_sight, .int t_signs, .ref a_t_pad, .int t_touched, .int t_firstTouch, .int t_reason, .int t_acts, .ref a_t_apart, .ref a_t_rounds, .ref a_t_fewest, .ref a_t_nextFewest, .ref a_t_ways, .ref a_t_nextWays, .ref a_t_counts, .ref a_t_image, .ref a_t_isKept])), (a_t_book, .inl (cI, 25, .inl (upd (upd (upd t_book p1.toNatClampNeg p2) ((7 : Int32) + p1).toNatClampNeg p3) ((14 : Int32) + p1).toNatClampNeg (0 : Int32))))] H := hP
        replace hD : va_D A [(a_t, .inr (10, [.ref a_t_roads, .int t_homes, .int (t_there ||| ((1 : Int32) <<< (p1 &&& 31))), .ref a_t_book, .ref a_t_now, .int t_meetings, .ref a_t_meeting, .int t_sights, .ref a_t_sight, .int t_signs, .ref a_t_pad, .int t_touched, .int t_firstTouch, .int t_reason, .int t_acts, .ref a_t_apart, .ref a_t_rounds, .ref a_t_fewest, .ref a_t_nextFewest, .ref a_t_ways, .ref a_t_nextWays, .ref a_t_counts, .ref a_t_image, .ref a_t_isKept])), (a_t_book, .inl (cI, 25, .inl (upd (upd (upd t_book p1.toNatClampNeg p2) ((7 : Int32) + p1).toNatClampNeg p3) ((14 : Int32) + p1).toNatClampNeg (0 : Int32))))] := hD
        refine lv_aload_n hx hb dX10_one_68 rfl (lv_at hl 0 rfl) ?_
        refine va_get (D := D) (ci := 10) (v := .ref a_t_book) (C := RX10) (T := TX10) (N := 24) hx hb hts hmsX10 hown hK hP 0 rfl rfl 3 (by decide) hw13 (fun _ h9 => h9) rfl dX10_one_69 ?_
        refine lv_bipush (v := 21) hx hb dX10_one_72 (by decide) ?_
        refine lv_dup2_11 hx hb dX10_one_74 rfl rfl ?_
        refine va_iald (D := D) hx hb hK hP 1 0 rfl rfl (ix_in rfl) dX10_one_75 ?_
        refine lv_iconst (v := 1) hx hb dX10_one_76 (by decide) ?_
        refine lv_iload_n hx hb dX10_one_77 rfl (lv_at hl 1 rfl) ?_
        refine lv_ishl hx hb dX10_one_78 ?_
        refine lv_iconst (v := -1) hx hb dX10_one_79 (by decide) ?_
        refine lv_ixor hx hb dX10_one_80 ?_
        refine lv_iand hx hb dX10_one_81 ?_
        refine va_iast (D := D) hx hb hK hP hD hS 1 0 rfl rfl (ix_in rfl) dX10_one_82 (fun H locs hP hD hS => ?_)
        replace hP : va_P D vwCl [(a_t, .inr (10, [.ref a_t_roads, .int t_homes, .int (t_there ||| ((1 : Int32) <<< (p1 &&& 31))), .ref a_t_book, .ref a_t_now, .int t_meetings, .ref a_t_meeting, .int t_sights, .ref a_t_sight, .int t_signs, .ref a_t_pad, .int t_touched, .int t_firstTouch, .int t_reason, .int t_acts, .ref a_t_apart, .ref a_t_rounds, .ref a_t_fewest, .ref a_t_nextFewest, .ref a_t_ways, .ref a_t_nextWays, .ref a_t_counts, .ref a_t_image, .ref a_t_isKept])), (a_t_book, .inl (cI, 25, .inl (upd (upd (upd (upd t_book p1.toNatClampNeg p2) ((7 : Int32) + p1).toNatClampNeg p3) ((14 : Int32) + p1).toNatClampNeg (0 : Int32)) (21 : Int32).toNatClampNeg (((upd (upd (upd t_book p1.toNatClampNeg p2) ((7 : Int32) + p1).toNatClampNeg p3) ((14 : Int32) + p1).toNatClampNeg (0 : Int32)) (21 : Int32).toNatClampNeg) &&& (((1 : Int32) <<< (p1 &&& 31)) ^^^ (-1 : Int32))))))] H := hP
        replace hD : va_D A [(a_t, .inr (10, [.ref a_t_roads, .int t_homes, .int (t_there ||| ((1 : Int32) <<< (p1 &&& 31))), .ref a_t_book, .ref a_t_now, .int t_meetings, .ref a_t_meeting, .int t_sights, .ref a_t_sight, .int t_signs, .ref a_t_pad, .int t_touched, .int t_firstTouch, .int t_reason, .int t_acts, .ref a_t_apart, .ref a_t_rounds, .ref a_t_fewest, .ref a_t_nextFewest, .ref a_t_ways, .ref a_t_nextWays, .ref a_t_counts, .ref a_t_image, .ref a_t_isKept])), (a_t_book, .inl (cI, 25, .inl (upd (upd (upd (upd t_book p1.toNatClampNeg p2) ((7 : Int32) + p1).toNatClampNeg p3) ((14 : Int32) + p1).toNatClampNeg (0 : Int32)) (21 : Int32).toNatClampNeg (((upd (upd (upd t_book p1.toNatClampNeg p2) ((7 : Int32) + p1).toNatClampNeg p3) ((14 : Int32) + p1).toNatClampNeg (0 : Int32)) (21 : Int32).toNatClampNeg) &&& (((1 : Int32) <<< (p1 &&& 31)) ^^^ (-1 : Int32))))))] := hD
        refine lv_aload_n hx hb dX10_one_83 rfl (lv_at hl 0 rfl) ?_
        refine va_get (D := D) (ci := 10) (v := .int (t_there ||| ((1 : Int32) <<< (p1 &&& 31)))) (C := RX10) (T := TX10) (N := 24) hx hb hts hmsX10 hown hK hP 0 rfl rfl 2 (by decide) hw65 (fun _ h9 => h9) rfl dX10_one_84 ?_
        obtain ⟨x87, hx87, hf⟩ := bd_if hf
        refine cs_i (wr := [(a_t, .inr (10, [.ref a_t_roads, .int t_homes, .int (t_there ||| ((1 : Int32) <<< (p1 &&& 31))), .ref a_t_book, .ref a_t_now, .int t_meetings, .ref a_t_meeting, .int t_sights, .ref a_t_sight, .int t_signs, .ref a_t_pad, .int t_touched, .int t_firstTouch, .int t_reason, .int t_acts, .ref a_t_apart, .ref a_t_rounds, .ref a_t_fewest, .ref a_t_nextFewest, .ref a_t_ways, .ref a_t_nextWays, .ref a_t_counts, .ref a_t_image, .ref a_t_isKept])), (a_t_book, .inl (cI, 25, .inl (upd (upd (upd (upd t_book p1.toNatClampNeg p2) ((7 : Int32) + p1).toNatClampNeg p3) ((14 : Int32) + p1).toNatClampNeg (0 : Int32)) (21 : Int32).toNatClampNeg (((upd (upd (upd t_book p1.toNatClampNeg p2) ((7 : Int32) + p1).toNatClampNeg p3) ((14 : Int32) + p1).toNatClampNeg (0 : Int32)) (21 : Int32).toNatClampNeg) &&& (((1 : Int32) <<< (p1 &&& 31)) ^^^ (-1 : Int32))))))]) (ws' := [(a_t, .inr (10, [.ref a_t_roads, .int t_homes, .int (t_there ||| ((1 : Int32) <<< (p1 &&& 31))), .ref a_t_book, .ref a_t_now, .int t_meetings, .ref a_t_meeting, .int t_sights, .ref a_t_sight, .int t_signs, .ref a_t_pad, .int t_touched, .int t_firstTouch, .int t_reason, .int t_acts, .ref a_t_apart, .ref a_t_rounds, .ref a_t_fewest, .ref a_t_nextFewest, .ref a_t_ways, .ref a_t_nextWays, .ref a_t_counts, .ref a_t_image, .ref a_t_isKept])), (a_t_book, .inl (cI, 25, .inl (upd (upd (upd (upd t_book p1.toNatClampNeg p2) ((7 : Int32) + p1).toNatClampNeg p3) ((14 : Int32) + p1).toNatClampNeg (0 : Int32)) (21 : Int32).toNatClampNeg (((upd (upd (upd t_book p1.toNatClampNeg p2) ((7 : Int32) + p1).toNatClampNeg p3) ((14 : Int32) + p1).toNatClampNeg (0 : Int32)) (21 : Int32).toNatClampNeg) &&& (((1 : Int32) <<< (p1 &&& 31)) ^^^ (-1 : Int32))))))]) ⟨hx, hb, hml, hown, hts⟩ hcw76 hK hN hP hD hS hA (c_X10_bits l D cI cJ cZ cO _ (t_there ||| ((1 : Int32) <<< (p1 &&& 31))) x87 hx87) [] [0, 1] [0, 1] rfl rfl rfl rfl (by decide) rfl rfl rfl hl.1 rfl (Nat.le_of_ble_eq_true rfl) dX10_one_87 ⟨Nat.zero_le _, Nat.zero_le _⟩ (fun H locs hP hD hS => ?_)
        obtain rfl := Option.some.inj hf
        exact fin _ _ _ _ dX10_one_90 hP hD hS
      · replace hf := (if_pos hc).symm.trans hf
        refine lv_bipush (v := -2) hx hb dX10_one_26 (by decide) ?_
        obtain rfl := Option.some.inj hf
        exact fin _ _ _ _ dX10_one_28 hP hD hS
  · replace hf := (if_pos hc).symm.trans hf
    refine lv_iconst (v := -1) hx hb dX10_one_7 (by decide) ?_
    obtain rfl := Option.some.inj hf
    exact fin _ _ _ _ dX10_one_8 hP hD hS
abbrev rm_X10_leave : Room := { frames := 3, cells := 0, slots := 0, locals := 63 }
theorem ms_X10_leave_X10 : ∀ w ∈ u_ws RX10 TX10 24, w ∈ wsX10_leave := fun w h => List.mem_cons_of_mem _ (List.mem_append_right _ (h))
set_option maxHeartbeats 4000000 in
set_option maxRecDepth 100000 in
theorem c_X10_leave (l : Launch) (D : va_G) (cI cJ cZ cO : ClassId) (sz : Nat) (a_t : Nat) (a_t_roads : Nat) (a_t_book : Nat) (a_t_now : Nat) (a_t_meeting : Nat) (a_t_sight : Nat) (a_t_pad : Nat) (a_t_apart : Nat) (a_t_rounds : Nat) (a_t_fewest : Nat) (a_t_nextFewest : Nat) (a_t_ways : Nat) (a_t_nextWays : Nat) (a_t_counts : Nat) (a_t_image : Nat) (a_t_isKept : Nat) (t_homes : Int32) (t_there : Int32) (t_meetings : Int32) (t_sights : Int32) (t_signs : Int32) (t_touched : Int32) (t_firstTouch : Int32) (t_reason : Int32) (t_acts : Int32) (t_book : Nat → Int32) (p1 : Int32) (res : Int32 × Int32 × (Nat → Int32)) (hf : f_X10_leave t_there t_book p1 = some res) : MetI l yX10_leave wsX10_leave rm_X10_leave [.ref a_t, .int p1] D (tys4 cI cJ cZ cO) [(a_t, .inr (10, [.ref a_t_roads, .int t_homes, .int t_there, .ref a_t_book, .ref a_t_now, .int t_meetings, .ref a_t_meeting, .int t_sights, .ref a_t_sight, .int t_signs, .ref a_t_pad, .int t_touched, .int t_firstTouch, .int t_reason, .int t_acts, .ref a_t_apart, .ref a_t_rounds, .ref a_t_fewest, .ref a_t_nextFewest, .ref a_t_ways, .ref a_t_nextWays, .ref a_t_counts, .ref a_t_image, .ref a_t_isKept])), (a_t_book, .inl (cI, 25, .inl t_book))] sz res.1 [(a_t, .inr (10, [.ref a_t_roads, .int t_homes, .int res.2.1, .ref a_t_book, .ref a_t_now, .int t_meetings, .ref a_t_meeting, .int t_sights, .ref a_t_sight, .int t_signs, .ref a_t_pad, .int t_touched, .int t_firstTouch, .int t_reason, .int t_acts, .ref a_t_apart, .ref a_t_rounds, .ref a_t_fewest, .ref a_t_nextFewest, .ref a_t_ways, .ref a_t_nextWays, .ref a_t_counts, .ref a_t_image, .ref a_t_isKept])), (a_t_book, .inl (cI, 25, .inl res.2.2))] := by
  refine met_i (cc := cX10_leave) (maxL := 2) (by decide) rfl (Nat.le_of_ble_eq_true rfl) ?_
  intro p e s m args below meth c Q A hx hb hml hown hts hK hN hA fin H locs ls hP hD hS hl
  replace hown : s.vm.findClass RX10 = some m.cls := hown
  replace hl : lv_has ls 2 [(0, .ref a_t), (1, .int p1)] := hl
  rw [f_X10_leave] at hf
  have hcw83 := cwV (R := rm_X10_leave) (rm := rm_X10_isThere) 1 hts gX10_leave_X10_isThere rfl rfl rfl (by decide +kernel) ⟨Nat.le_of_ble_eq_true rfl, Nat.le_of_ble_eq_true rfl⟩
  have hw65 := hts (.fieldLink RX10 65 "TouchReignModel" "there" "I") (by decide +kernel)
  have hmsX10 := ms_X10_leave_X10
  have hw13 := hts (.fieldLink RX10 13 "TouchReignModel" "book" "[I") (by decide +kernel)
  have hcw76 := va_cwS (R := rm_X10_leave) (rm := rm_X10_bits) 1 hts gX10_leave_X10_bits rfl rfl rfl (by decide +kernel) ⟨Nat.le_of_ble_eq_true rfl, Nat.le_of_ble_eq_true rfl⟩
  refine lv_aload_n hx hb dX10_leave_0 rfl (lv_at hl 0 rfl) ?_
  refine lv_iload_n hx hb dX10_leave_1 rfl (lv_at hl 1 rfl) ?_
  obtain ⟨x2, hx2, hf⟩ := bd_if hf
  refine cv_i (wr := [(a_t_book, .inl (cI, 25, .inl t_book))]) (ws' := [(a_t, .inr (10, [.ref a_t_roads, .int t_homes, .int t_there, .ref a_t_book, .ref a_t_now, .int t_meetings, .ref a_t_meeting, .int t_sights, .ref a_t_sight, .int t_signs, .ref a_t_pad, .int t_touched, .int t_firstTouch, .int t_reason, .int t_acts, .ref a_t_apart, .ref a_t_rounds, .ref a_t_fewest, .ref a_t_nextFewest, .ref a_t_ways, .ref a_t_nextWays, .ref a_t_counts, .ref a_t_image, .ref a_t_isKept])), (a_t_book, .inl (cI, 25, .inl t_book))]) ⟨hx, hb, hml, hown, hts⟩ hcw83 hK hN hP hD hS hA (c_X10_isThere l D cI cJ cZ cO _ a_t a_t_roads a_t_book a_t_now a_t_meeting a_t_sight a_t_pad a_t_apart a_t_rounds a_t_fewest a_t_nextFewest a_t_ways a_t_nextWays a_t_counts a_t_image a_t_isKept t_homes t_there t_meetings t_sights t_signs t_touched t_firstTouch t_reason t_acts p1 x2 hx2) (q := (RX10, TX10, 24)) (ci := 10) (q0 := 0) rfl rfl [0] [1] [1, 0] rfl rfl rfl rfl (by decide) rfl rfl rfl hl.1 rfl (Nat.le_of_ble_eq_true rfl) dX10_leave_2 ⟨Nat.zero_le _, Nat.zero_le _⟩ (fun H locs hP hD hS => ?_)
  refine lv_if_ne (tgt := 10) hx hb dX10_leave_5 (by decide) (fun hc => ?_) (fun hc => ?_)
  · replace hf := (if_neg hc).symm.trans hf
    refine lv_aload_n hx hb dX10_leave_10 rfl (lv_at hl 0 rfl) ?_
    refine lv_dup hx hb dX10_leave_11 rfl ?_
    refine va_get (D := D) (ci := 10) (v := .int t_there) (C := RX10) (T := TX10) (N := 24) hx hb hts hmsX10 hown hK hP 0 rfl rfl 2 (by decide) hw65 (fun _ h9 => h9) rfl dX10_leave_12 ?_
    refine lv_iconst (v := 1) hx hb dX10_leave_15 (by decide) ?_
    refine lv_iload_n hx hb dX10_leave_16 rfl (lv_at hl 1 rfl) ?_
    refine lv_ishl hx hb dX10_leave_17 ?_
    refine lv_iconst (v := -1) hx hb dX10_leave_18 (by decide) ?_
    refine lv_ixor hx hb dX10_leave_19 ?_
    refine lv_iand hx hb dX10_leave_20 ?_
    refine va_put (D := D) (ci := 10) (v := .int (t_there &&& (((1 : Int32) <<< (p1 &&& 31)) ^^^ (-1 : Int32)))) (ty := .int) (C := RX10) (T := TX10) (N := 24) hx hb hts hmsX10 tyX10 tyX10_ok nmX10 hown hK hP hD hS 0 rfl rfl 2 (by decide) hw65 (fun _ h9 => h9) rfl (by decide +kernel) rfl rfl (Nat.le_of_ble_eq_true rfl) dX10_leave_21 (fun H locs hP hD hS => ?_)
    replace hP : va_P D vwCl [(a_t, .inr (10, [.ref a_t_roads, .int t_homes, .int (t_there &&& (((1 : Int32) <<< (p1 &&& 31)) ^^^ (-1 : Int32))), .ref a_t_book, .ref a_t_now, .int t_meetings, .ref a_t_meeting, .int t_sights, .ref a_t_sight, .int t_signs, .ref a_t_pad, .int t_touched, .int t_firstTouch, .int t_reason, .int t_acts, .ref a_t_apart, .ref a_t_rounds, .ref a_t_fewest, .ref a_t_nextFewest, .ref a_t_ways, .ref a_t_nextWays, .ref a_t_counts, .ref a_t_image, .ref a_t_isKept])), (a_t_book, .inl (cI, 25, .inl t_book))] H := hP
    replace hD : va_D A [(a_t, .inr (10, [.ref a_t_roads, .int t_homes, .int (t_there &&& (((1 : Int32) <<< (p1 &&& 31)) ^^^ (-1 : Int32))), .ref a_t_book, .ref a_t_now, .int t_meetings, .ref a_t_meeting, .int t_sights, .ref a_t_sight, .int t_signs, .ref a_t_pad, .int t_touched, .int t_firstTouch, .int t_reason, .int t_acts, .ref a_t_apart, .ref a_t_rounds, .ref a_t_fewest, .ref a_t_nextFewest, .ref a_t_ways, .ref a_t_nextWays, .ref a_t_counts, .ref a_t_image, .ref a_t_isKept])), (a_t_book, .inl (cI, 25, .inl t_book))] := hD
    refine lv_aload_n hx hb dX10_leave_24 rfl (lv_at hl 0 rfl) ?_
    refine va_get (D := D) (ci := 10) (v := .ref a_t_book) (C := RX10) (T := TX10) (N := 24) hx hb hts hmsX10 hown hK hP 0 rfl rfl 3 (by decide) hw13 (fun _ h9 => h9) rfl dX10_leave_25 ?_
    refine lv_bipush (v := 22) hx hb dX10_leave_28 (by decide) ?_
    refine lv_aload_n hx hb dX10_leave_30 rfl (lv_at hl 0 rfl) ?_
    refine va_get (D := D) (ci := 10) (v := .ref a_t_book) (C := RX10) (T := TX10) (N := 24) hx hb hts hmsX10 hown hK hP 0 rfl rfl 3 (by decide) hw13 (fun _ h9 => h9) rfl dX10_leave_31 ?_
    refine lv_bipush (v := 22) hx hb dX10_leave_34 (by decide) ?_
    refine va_iald (D := D) hx hb hK hP 1 0 rfl rfl (ix_in rfl) dX10_leave_36 ?_
    refine lv_iload_n hx hb dX10_leave_37 rfl (lv_at hl 1 rfl) ?_
    have hB53 : ∀ (b53s0 : Int32) (b53t_there : Int32) (H : Heap) (locs : List Loc) (ls : Array Slot), va_P D vwCl [(a_t, .inr (10, [.ref a_t_roads, .int t_homes, .int b53t_there, .ref a_t_book, .ref a_t_now, .int t_meetings, .ref a_t_meeting, .int t_sights, .ref a_t_sight, .int t_signs, .ref a_t_pad, .int t_touched, .int t_firstTouch, .int t_reason, .int t_acts, .ref a_t_apart, .ref a_t_rounds, .ref a_t_fewest, .ref a_t_nextFewest, .ref a_t_ways, .ref a_t_nextWays, .ref a_t_counts, .ref a_t_image, .ref a_t_isKept])), (a_t_book, .inl (cI, 25, .inl t_book))] H → va_D A [(a_t, .inr (10, [.ref a_t_roads, .int t_homes, .int b53t_there, .ref a_t_book, .ref a_t_now, .int t_meetings, .ref a_t_meeting, .int t_sights, .ref a_t_sight, .int t_signs, .ref a_t_pad, .int t_touched, .int t_firstTouch, .int t_reason, .int t_acts, .ref a_t_apart, .ref a_t_rounds, .ref a_t_fewest, .ref a_t_nextFewest, .ref a_t_ways, .ref a_t_nextWays, .ref a_t_counts, .ref a_t_image, .ref a_t_isKept])), (a_t_book, .inl (cI, 25, .inl t_book))] → va_S A s.heap H locs → lv_has ls 2 [(0, .ref a_t), (1, .int p1)] → f_X10_leave_B53 t_book p1 b53s0 b53t_there = some res → W p l e rm_X10_leave s m args below meth c H locs 0 0 Q (F0 m 53 ls [.int b53s0, .int (22 : Int32), .ref a_t_book]) := by
      intro b53s0 b53t_there H locs ls hP hD hS hl hf
      rw [f_X10_leave_B53] at hf
      refine va_iast (D := D) hx hb hK hP hD hS 1 0 rfl rfl (ix_in rfl) dX10_leave_53 (fun H locs hP hD hS => ?_)
      replace hP : va_P D vwCl [(a_t, .inr (10, [.ref a_t_roads, .int t_homes, .int b53t_there, .ref a_t_book, .ref a_t_now, .int t_meetings, .ref a_t_meeting, .int t_sights, .ref a_t_sight, .int t_signs, .ref a_t_pad, .int t_touched, .int t_firstTouch, .int t_reason, .int t_acts, .ref a_t_apart, .ref a_t_rounds, .ref a_t_fewest, .ref a_t_nextFewest, .ref a_t_ways, .ref a_t_nextWays, .ref a_t_counts, .ref a_t_image, .ref a_t_isKept])), (a_t_book, .inl (cI, 25, .inl (upd t_book (22 : Int32).toNatClampNeg b53s0)))] H := hP
      replace hD : va_D A [(a_t, .inr (10, [.ref a_t_roads, .int t_homes, .int b53t_there, .ref a_t_book, .ref a_t_now, .int t_meetings, .ref a_t_meeting, .int t_sights, .ref a_t_sight, .int t_signs, .ref a_t_pad, .int t_touched, .int t_firstTouch, .int t_reason, .int t_acts, .ref a_t_apart, .ref a_t_rounds, .ref a_t_fewest, .ref a_t_nextFewest, .ref a_t_ways, .ref a_t_nextWays, .ref a_t_counts, .ref a_t_image, .ref a_t_isKept])), (a_t_book, .inl (cI, 25, .inl (upd t_book (22 : Int32).toNatClampNeg b53s0)))] := hD
      refine lv_aload_n hx hb dX10_leave_54 rfl (lv_at hl 0 rfl) ?_
      refine va_get (D := D) (ci := 10) (v := .ref a_t_book) (C := RX10) (T := TX10) (N := 24) hx hb hts hmsX10 hown hK hP 0 rfl rfl 3 (by decide) hw13 (fun _ h9 => h9) rfl dX10_leave_55 ?_
      refine lv_bipush (v := 23) hx hb dX10_leave_58 (by decide) ?_
      refine lv_aload_n hx hb dX10_leave_60 rfl (lv_at hl 0 rfl) ?_
      refine va_get (D := D) (ci := 10) (v := .ref a_t_book) (C := RX10) (T := TX10) (N := 24) hx hb hts hmsX10 hown hK hP 0 rfl rfl 3 (by decide) hw13 (fun _ h9 => h9) rfl dX10_leave_61 ?_
      refine lv_bipush (v := 23) hx hb dX10_leave_64 (by decide) ?_
      refine va_iald (D := D) hx hb hK hP 1 0 rfl rfl (ix_in rfl) dX10_leave_66 ?_
      refine lv_iload_n hx hb dX10_leave_67 rfl (lv_at hl 1 rfl) ?_
      refine lv_icmp_ne (tgt := 76) hx hb dX10_leave_68 (by decide) (fun hc => ?_) (fun hc => ?_)
      · replace hf := (if_neg hc).symm.trans hf
        refine lv_aload_n hx hb dX10_leave_76 rfl (lv_at hl 0 rfl) ?_
        refine va_get (D := D) (ci := 10) (v := .ref a_t_book) (C := RX10) (T := TX10) (N := 24) hx hb hts hmsX10 hown hK hP 0 rfl rfl 3 (by decide) hw13 (fun _ h9 => h9) rfl dX10_leave_77 ?_
        refine lv_bipush (v := 23) hx hb dX10_leave_80 (by decide) ?_
        refine va_iald (D := D) hx hb hK hP 1 0 rfl rfl (ix_in rfl) dX10_leave_82 ?_
        refine va_iast (D := D) hx hb hK hP hD hS 1 0 rfl rfl (ix_in rfl) dX10_leave_83 (fun H locs hP hD hS => ?_)
        replace hP : va_P D vwCl [(a_t, .inr (10, [.ref a_t_roads, .int t_homes, .int b53t_there, .ref a_t_book, .ref a_t_now, .int t_meetings, .ref a_t_meeting, .int t_sights, .ref a_t_sight, .int t_signs, .ref a_t_pad, .int t_touched, .int t_firstTouch, .int t_reason, .int t_acts, .ref a_t_apart, .ref a_t_rounds, .ref a_t_fewest, .ref a_t_nextFewest, .ref a_t_ways, .ref a_t_nextWays, .ref a_t_counts, .ref a_t_image, .ref a_t_isKept])), (a_t_book, .inl (cI, 25, .inl (upd (upd t_book (22 : Int32).toNatClampNeg b53s0) (23 : Int32).toNatClampNeg ((upd t_book (22 : Int32).toNatClampNeg b53s0) (23 : Int32).toNatClampNeg))))] H := hP
        replace hD : va_D A [(a_t, .inr (10, [.ref a_t_roads, .int t_homes, .int b53t_there, .ref a_t_book, .ref a_t_now, .int t_meetings, .ref a_t_meeting, .int t_sights, .ref a_t_sight, .int t_signs, .ref a_t_pad, .int t_touched, .int t_firstTouch, .int t_reason, .int t_acts, .ref a_t_apart, .ref a_t_rounds, .ref a_t_fewest, .ref a_t_nextFewest, .ref a_t_ways, .ref a_t_nextWays, .ref a_t_counts, .ref a_t_image, .ref a_t_isKept])), (a_t_book, .inl (cI, 25, .inl (upd (upd t_book (22 : Int32).toNatClampNeg b53s0) (23 : Int32).toNatClampNeg ((upd t_book (22 : Int32).toNatClampNeg b53s0) (23 : Int32).toNatClampNeg))))] := hD
        refine lv_aload_n hx hb dX10_leave_84 rfl (lv_at hl 0 rfl) ?_
        refine va_get (D := D) (ci := 10) (v := .int b53t_there) (C := RX10) (T := TX10) (N := 24) hx hb hts hmsX10 hown hK hP 0 rfl rfl 2 (by decide) hw65 (fun _ h9 => h9) rfl dX10_leave_85 ?_
        obtain ⟨x88, hx88, hf⟩ := bd_if hf
        refine cs_i (wr := [(a_t, .inr (10, [.ref a_t_roads, .int t_homes, .int b53t_there, .ref a_t_book, .ref a_t_now, .int t_meetings, .ref a_t_meeting, .int t_sights, .ref a_t_sight, .int t_signs, .ref a_t_pad, .int t_touched, .int t_firstTouch, .int t_reason, .int t_acts, .ref a_t_apart, .ref a_t_rounds, .ref a_t_fewest, .ref a_t_nextFewest, .ref a_t_ways, .ref a_t_nextWays, .ref a_t_counts, .ref a_t_image, .ref a_t_isKept])), (a_t_book, .inl (cI, 25, .inl (upd (upd t_book (22 : Int32).toNatClampNeg b53s0) (23 : Int32).toNatClampNeg ((upd t_book (22 : Int32).toNatClampNeg b53s0) (23 : Int32).toNatClampNeg))))]) (ws' := [(a_t, .inr (10, [.ref a_t_roads, .int t_homes, .int b53t_there, .ref a_t_book, .ref a_t_now, .int t_meetings, .ref a_t_meeting, .int t_sights, .ref a_t_sight, .int t_signs, .ref a_t_pad, .int t_touched, .int t_firstTouch, .int t_reason, .int t_acts, .ref a_t_apart, .ref a_t_rounds, .ref a_t_fewest, .ref a_t_nextFewest, .ref a_t_ways, .ref a_t_nextWays, .ref a_t_counts, .ref a_t_image, .ref a_t_isKept])), (a_t_book, .inl (cI, 25, .inl (upd (upd t_book (22 : Int32).toNatClampNeg b53s0) (23 : Int32).toNatClampNeg ((upd t_book (22 : Int32).toNatClampNeg b53s0) (23 : Int32).toNatClampNeg))))]) ⟨hx, hb, hml, hown, hts⟩ hcw76 hK hN hP hD hS hA (c_X10_bits l D cI cJ cZ cO _ b53t_there x88 hx88) [] [0, 1] [0, 1] rfl rfl rfl rfl (by decide) rfl rfl rfl hl.1 rfl (Nat.le_of_ble_eq_true rfl) dX10_leave_88 ⟨Nat.zero_le _, Nat.zero_le _⟩ (fun H locs hP hD hS => ?_)
        obtain rfl := Option.some.inj hf
        exact fin _ _ _ _ dX10_leave_91 hP hD hS
      · replace hf := (if_pos hc).symm.trans hf
        refine lv_bipush (v := -6) hx hb dX10_leave_71 (by decide) ?_
        refine lv_goto (tgt := 83) hx hb dX10_leave_73 (by decide) ?_
        refine va_iast (D := D) hx hb hK hP hD hS 1 0 rfl rfl (ix_in rfl) dX10_leave_83 (fun H locs hP hD hS => ?_)
        replace hP : va_P D vwCl [(a_t, .inr (10, [.ref a_t_roads, .int t_homes, .int b53t_there, .ref a_t_book, .ref a_t_now, .int t_meetings, .ref a_t_meeting, .int t_sights, .ref a_t_sight, .int t_signs, .ref a_t_pad, .int t_touched, .int t_firstTouch, .int t_reason, .int t_acts, .ref a_t_apart, .ref a_t_rounds, .ref a_t_fewest, .ref a_t_nextFewest, .ref a_t_ways, .ref a_t_nextWays, .ref a_t_counts, .ref a_t_image, .ref a_t_isKept])), (a_t_book, .inl (cI, 25, .inl (upd (upd t_book (22 : Int32).toNatClampNeg b53s0) (23 : Int32).toNatClampNeg (-6 : Int32))))] H := hP
        replace hD : va_D A [(a_t, .inr (10, [.ref a_t_roads, .int t_homes, .int b53t_there, .ref a_t_book, .ref a_t_now, .int t_meetings, .ref a_t_meeting, .int t_sights, .ref a_t_sight, .int t_signs, .ref a_t_pad, .int t_touched, .int t_firstTouch, .int t_reason, .int t_acts, .ref a_t_apart, .ref a_t_rounds, .ref a_t_fewest, .ref a_t_nextFewest, .ref a_t_ways, .ref a_t_nextWays, .ref a_t_counts, .ref a_t_image, .ref a_t_isKept])), (a_t_book, .inl (cI, 25, .inl (upd (upd t_book (22 : Int32).toNatClampNeg b53s0) (23 : Int32).toNatClampNeg (-6 : Int32))))] := hD
        refine lv_aload_n hx hb dX10_leave_84 rfl (lv_at hl 0 rfl) ?_
        refine va_get (D := D) (ci := 10) (v := .int b53t_there) (C := RX10) (T := TX10) (N := 24) hx hb hts hmsX10 hown hK hP 0 rfl rfl 2 (by decide) hw65 (fun _ h9 => h9) rfl dX10_leave_85 ?_
        obtain ⟨x88_1, hx88_1, hf⟩ := bd_if hf
        refine cs_i (wr := [(a_t, .inr (10, [.ref a_t_roads, .int t_homes, .int b53t_there, .ref a_t_book, .ref a_t_now, .int t_meetings, .ref a_t_meeting, .int t_sights, .ref a_t_sight, .int t_signs, .ref a_t_pad, .int t_touched, .int t_firstTouch, .int t_reason, .int t_acts, .ref a_t_apart, .ref a_t_rounds, .ref a_t_fewest, .ref a_t_nextFewest, .ref a_t_ways, .ref a_t_nextWays, .ref a_t_counts, .ref a_t_image, .ref a_t_isKept])), (a_t_book, .inl (cI, 25, .inl (upd (upd t_book (22 : Int32).toNatClampNeg b53s0) (23 : Int32).toNatClampNeg (-6 : Int32))))]) (ws' := [(a_t, .inr (10, [.ref a_t_roads, .int t_homes, .int b53t_there, .ref a_t_book, .ref a_t_now, .int t_meetings, .ref a_t_meeting, .int t_sights, .ref a_t_sight, .int t_signs, .ref a_t_pad, .int t_touched, .int t_firstTouch, .int t_reason, .int t_acts, .ref a_t_apart, .ref a_t_rounds, .ref a_t_fewest, .ref a_t_nextFewest, .ref a_t_ways, .ref a_t_nextWays, .ref a_t_counts, .ref a_t_image, .ref a_t_isKept])), (a_t_book, .inl (cI, 25, .inl (upd (upd t_book (22 : Int32).toNatClampNeg b53s0) (23 : Int32).toNatClampNeg (-6 : Int32))))]) ⟨hx, hb, hml, hown, hts⟩ hcw76 hK hN hP hD hS hA (c_X10_bits l D cI cJ cZ cO _ b53t_there x88_1 hx88_1) [] [0, 1] [0, 1] rfl rfl rfl rfl (by decide) rfl rfl rfl hl.1 rfl (Nat.le_of_ble_eq_true rfl) dX10_leave_88 ⟨Nat.zero_le _, Nat.zero_le _⟩ (fun H locs hP hD hS => ?_)
        obtain rfl := Option.some.inj hf
        exact fin _ _ _ _ dX10_leave_91 hP hD hS
    refine lv_icmp_ne (tgt := 46) hx hb dX10_leave_38 (by decide) (fun hc => ?_) (fun hc => ?_)
    · replace hf := (if_neg hc).symm.trans hf
      refine lv_aload_n hx hb dX10_leave_46 rfl (lv_at hl 0 rfl) ?_
      refine va_get (D := D) (ci := 10) (v := .ref a_t_book) (C := RX10) (T := TX10) (N := 24) hx hb hts hmsX10 hown hK hP 0 rfl rfl 3 (by decide) hw13 (fun _ h9 => h9) rfl dX10_leave_47 ?_
      refine lv_bipush (v := 22) hx hb dX10_leave_50 (by decide) ?_
      refine va_iald (D := D) hx hb hK hP 1 0 rfl rfl (ix_in rfl) dX10_leave_52 ?_
      exact hB53 (t_book (22 : Int32).toNatClampNeg) (t_there &&& (((1 : Int32) <<< (p1 &&& 31)) ^^^ (-1 : Int32))) _ _ _ hP hD hS (lv_sub hl [0, 1] rfl) hf
    · replace hf := (if_pos hc).symm.trans hf
      refine lv_bipush (v := -6) hx hb dX10_leave_41 (by decide) ?_
      refine lv_goto (tgt := 53) hx hb dX10_leave_43 (by decide) ?_
      exact hB53 (-6 : Int32) (t_there &&& (((1 : Int32) <<< (p1 &&& 31)) ^^^ (-1 : Int32))) _ _ _ hP hD hS (lv_sub hl [0, 1] rfl) hf
  · replace hf := (if_pos hc).symm.trans hf
    refine lv_iconst (v := -1) hx hb dX10_leave_8 (by decide) ?_
    obtain rfl := Option.some.inj hf
    exact fin _ _ _ _ dX10_leave_9 hP hD hS
abbrev rm_X10_crown : Room := { frames := 3, cells := 0, slots := 0, locals := 63 }
theorem ms_X10_crown_X10 : ∀ w ∈ u_ws RX10 TX10 24, w ∈ wsX10_crown := fun w h => List.mem_cons_of_mem _ (List.mem_append_right _ (h))
set_option maxHeartbeats 4000000 in
set_option maxRecDepth 100000 in
theorem c_X10_crown (l : Launch) (D : va_G) (cI cJ cZ cO : ClassId) (sz : Nat) (a_t : Nat) (a_t_roads : Nat) (a_t_book : Nat) (a_t_now : Nat) (a_t_meeting : Nat) (a_t_sight : Nat) (a_t_pad : Nat) (a_t_apart : Nat) (a_t_rounds : Nat) (a_t_fewest : Nat) (a_t_nextFewest : Nat) (a_t_ways : Nat) (a_t_nextWays : Nat) (a_t_counts : Nat) (a_t_image : Nat) (a_t_isKept : Nat) (t_homes : Int32) (t_there : Int32) (t_meetings : Int32) (t_sights : Int32) (t_signs : Int32) (t_touched : Int32) (t_firstTouch : Int32) (t_reason : Int32) (t_acts : Int32) (t_book : Nat → Int32) (p1 : Int32) (res : Int32 × (Nat → Int32)) (hf : f_X10_crown t_there t_book p1 = some res) : MetI l yX10_crown wsX10_crown rm_X10_crown [.ref a_t, .int p1] D (tys4 cI cJ cZ cO) [(a_t, .inr (10, [.ref a_t_roads, .int t_homes, .int t_there, .ref a_t_book, .ref a_t_now, .int t_meetings, .ref a_t_meeting, .int t_sights, .ref a_t_sight, .int t_signs, .ref a_t_pad, .int t_touched, .int t_firstTouch, .int t_reason, .int t_acts, .ref a_t_apart, .ref a_t_rounds, .ref a_t_fewest, .ref a_t_nextFewest, .ref a_t_ways, .ref a_t_nextWays, .ref a_t_counts, .ref a_t_image, .ref a_t_isKept])), (a_t_book, .inl (cI, 25, .inl t_book))] sz res.1 [(a_t, .inr (10, [.ref a_t_roads, .int t_homes, .int t_there, .ref a_t_book, .ref a_t_now, .int t_meetings, .ref a_t_meeting, .int t_sights, .ref a_t_sight, .int t_signs, .ref a_t_pad, .int t_touched, .int t_firstTouch, .int t_reason, .int t_acts, .ref a_t_apart, .ref a_t_rounds, .ref a_t_fewest, .ref a_t_nextFewest, .ref a_t_ways, .ref a_t_nextWays, .ref a_t_counts, .ref a_t_image, .ref a_t_isKept])), (a_t_book, .inl (cI, 25, .inl res.2))] := by
  refine met_i (cc := cX10_crown) (maxL := 3) (by decide) rfl (Nat.le_of_ble_eq_true rfl) ?_
  intro p e s m args below meth c Q A hx hb hml hown hts hK hN hA fin H locs ls hP hD hS hl
  replace hown : s.vm.findClass RX10 = some m.cls := hown
  replace hl : lv_has ls 3 [(0, .ref a_t), (1, .int p1)] := hl
  rw [f_X10_crown] at hf
  have hw13 := hts (.fieldLink RX10 13 "TouchReignModel" "book" "[I") (by decide +kernel)
  have hmsX10 := ms_X10_crown_X10
  have hcw83 := cwV (R := rm_X10_crown) (rm := rm_X10_isThere) 1 hts gX10_crown_X10_isThere rfl rfl rfl (by decide +kernel) ⟨Nat.le_of_ble_eq_true rfl, Nat.le_of_ble_eq_true rfl⟩
  refine lv_iload_n hx hb dX10_crown_0 rfl (lv_at hl 1 rfl) ?_
  refine lv_iconst (v := -1) hx hb dX10_crown_1 (by decide) ?_
  have hB15 : ∀ (H : Heap) (locs : List Loc) (ls : Array Slot), va_P D vwCl [(a_t, .inr (10, [.ref a_t_roads, .int t_homes, .int t_there, .ref a_t_book, .ref a_t_now, .int t_meetings, .ref a_t_meeting, .int t_sights, .ref a_t_sight, .int t_signs, .ref a_t_pad, .int t_touched, .int t_firstTouch, .int t_reason, .int t_acts, .ref a_t_apart, .ref a_t_rounds, .ref a_t_fewest, .ref a_t_nextFewest, .ref a_t_ways, .ref a_t_nextWays, .ref a_t_counts, .ref a_t_image, .ref a_t_isKept])), (a_t_book, .inl (cI, 25, .inl t_book))] H → va_D A [(a_t, .inr (10, [.ref a_t_roads, .int t_homes, .int t_there, .ref a_t_book, .ref a_t_now, .int t_meetings, .ref a_t_meeting, .int t_sights, .ref a_t_sight, .int t_signs, .ref a_t_pad, .int t_touched, .int t_firstTouch, .int t_reason, .int t_acts, .ref a_t_apart, .ref a_t_rounds, .ref a_t_fewest, .ref a_t_nextFewest, .ref a_t_ways, .ref a_t_nextWays, .ref a_t_counts, .ref a_t_image, .ref a_t_isKept])), (a_t_book, .inl (cI, 25, .inl t_book))] → va_S A s.heap H locs → lv_has ls 3 [(0, .ref a_t), (1, .int p1)] → f_X10_crown_B15 t_book p1 = some res → W p l e rm_X10_crown s m args below meth c H locs 0 0 Q (F0 m 15 ls []) := by
    intro  H locs ls hP hD hS hl hf
    rw [f_X10_crown_B15] at hf
    refine lv_aload_n hx hb dX10_crown_15 rfl (lv_at hl 0 rfl) ?_
    refine va_get (D := D) (ci := 10) (v := .ref a_t_book) (C := RX10) (T := TX10) (N := 24) hx hb hts hmsX10 hown hK hP 0 rfl rfl 3 (by decide) hw13 (fun _ h9 => h9) rfl dX10_crown_16 ?_
    refine lv_bipush (v := 22) hx hb dX10_crown_19 (by decide) ?_
    refine va_iald (D := D) hx hb hK hP 1 0 rfl rfl (ix_in rfl) dX10_crown_21 ?_
    refine lv_istore_n (lv' := [(2, .int (t_book (22 : Int32).toNatClampNeg)), (0, .ref a_t), (1, .int p1)]) hx hb dX10_crown_22 rfl hl (by decide) rfl (fun ls hl => ?_)
    refine lv_aload_n hx hb dX10_crown_23 rfl (lv_at hl 1 rfl) ?_
    refine va_get (D := D) (ci := 10) (v := .ref a_t_book) (C := RX10) (T := TX10) (N := 24) hx hb hts hmsX10 hown hK hP 0 rfl rfl 3 (by decide) hw13 (fun _ h9 => h9) rfl dX10_crown_24 ?_
    refine lv_bipush (v := 22) hx hb dX10_crown_27 (by decide) ?_
    refine lv_iload_n hx hb dX10_crown_29 rfl (lv_at hl 2 rfl) ?_
    have hB39 : ∀ (b39v2 : Int32) (b39s0 : Int32) (H : Heap) (locs : List Loc) (ls : Array Slot), va_P D vwCl [(a_t, .inr (10, [.ref a_t_roads, .int t_homes, .int t_there, .ref a_t_book, .ref a_t_now, .int t_meetings, .ref a_t_meeting, .int t_sights, .ref a_t_sight, .int t_signs, .ref a_t_pad, .int t_touched, .int t_firstTouch, .int t_reason, .int t_acts, .ref a_t_apart, .ref a_t_rounds, .ref a_t_fewest, .ref a_t_nextFewest, .ref a_t_ways, .ref a_t_nextWays, .ref a_t_counts, .ref a_t_image, .ref a_t_isKept])), (a_t_book, .inl (cI, 25, .inl t_book))] H → va_D A [(a_t, .inr (10, [.ref a_t_roads, .int t_homes, .int t_there, .ref a_t_book, .ref a_t_now, .int t_meetings, .ref a_t_meeting, .int t_sights, .ref a_t_sight, .int t_signs, .ref a_t_pad, .int t_touched, .int t_firstTouch, .int t_reason, .int t_acts, .ref a_t_apart, .ref a_t_rounds, .ref a_t_fewest, .ref a_t_nextFewest, .ref a_t_ways, .ref a_t_nextWays, .ref a_t_counts, .ref a_t_image, .ref a_t_isKept])), (a_t_book, .inl (cI, 25, .inl t_book))] → va_S A s.heap H locs → lv_has ls 3 [(0, .ref a_t), (2, .int b39v2)] → f_X10_crown_B39 t_book b39v2 b39s0 = some res → W p l e rm_X10_crown s m args below meth c H locs 0 0 Q (F0 m 39 ls [.int b39s0, .int (22 : Int32), .ref a_t_book]) := by
      intro b39v2 b39s0 H locs ls hP hD hS hl hf
      rw [f_X10_crown_B39] at hf
      refine va_iast (D := D) hx hb hK hP hD hS 1 0 rfl rfl (ix_in rfl) dX10_crown_39 (fun H locs hP hD hS => ?_)
      replace hP : va_P D vwCl [(a_t, .inr (10, [.ref a_t_roads, .int t_homes, .int t_there, .ref a_t_book, .ref a_t_now, .int t_meetings, .ref a_t_meeting, .int t_sights, .ref a_t_sight, .int t_signs, .ref a_t_pad, .int t_touched, .int t_firstTouch, .int t_reason, .int t_acts, .ref a_t_apart, .ref a_t_rounds, .ref a_t_fewest, .ref a_t_nextFewest, .ref a_t_ways, .ref a_t_nextWays, .ref a_t_counts, .ref a_t_image, .ref a_t_isKept])), (a_t_book, .inl (cI, 25, .inl (upd t_book (22 : Int32).toNatClampNeg b39s0)))] H := hP
      replace hD : va_D A [(a_t, .inr (10, [.ref a_t_roads, .int t_homes, .int t_there, .ref a_t_book, .ref a_t_now, .int t_meetings, .ref a_t_meeting, .int t_sights, .ref a_t_sight, .int t_signs, .ref a_t_pad, .int t_touched, .int t_firstTouch, .int t_reason, .int t_acts, .ref a_t_apart, .ref a_t_rounds, .ref a_t_fewest, .ref a_t_nextFewest, .ref a_t_ways, .ref a_t_nextWays, .ref a_t_counts, .ref a_t_image, .ref a_t_isKept])), (a_t_book, .inl (cI, 25, .inl (upd t_book (22 : Int32).toNatClampNeg b39s0)))] := hD
      refine lv_aload_n hx hb dX10_crown_40 rfl (lv_at hl 0 rfl) ?_
      refine va_get (D := D) (ci := 10) (v := .ref a_t_book) (C := RX10) (T := TX10) (N := 24) hx hb hts hmsX10 hown hK hP 0 rfl rfl 3 (by decide) hw13 (fun _ h9 => h9) rfl dX10_crown_41 ?_
      refine lv_bipush (v := 23) hx hb dX10_crown_44 (by decide) ?_
      refine lv_bipush (v := -6) hx hb dX10_crown_46 (by decide) ?_
      refine va_iast (D := D) hx hb hK hP hD hS 1 0 rfl rfl (ix_in rfl) dX10_crown_48 (fun H locs hP hD hS => ?_)
      replace hP : va_P D vwCl [(a_t, .inr (10, [.ref a_t_roads, .int t_homes, .int t_there, .ref a_t_book, .ref a_t_now, .int t_meetings, .ref a_t_meeting, .int t_sights, .ref a_t_sight, .int t_signs, .ref a_t_pad, .int t_touched, .int t_firstTouch, .int t_reason, .int t_acts, .ref a_t_apart, .ref a_t_rounds, .ref a_t_fewest, .ref a_t_nextFewest, .ref a_t_ways, .ref a_t_nextWays, .ref a_t_counts, .ref a_t_image, .ref a_t_isKept])), (a_t_book, .inl (cI, 25, .inl (upd (upd t_book (22 : Int32).toNatClampNeg b39s0) (23 : Int32).toNatClampNeg (-6 : Int32))))] H := hP
      replace hD : va_D A [(a_t, .inr (10, [.ref a_t_roads, .int t_homes, .int t_there, .ref a_t_book, .ref a_t_now, .int t_meetings, .ref a_t_meeting, .int t_sights, .ref a_t_sight, .int t_signs, .ref a_t_pad, .int t_touched, .int t_firstTouch, .int t_reason, .int t_acts, .ref a_t_apart, .ref a_t_rounds, .ref a_t_fewest, .ref a_t_nextFewest, .ref a_t_ways, .ref a_t_nextWays, .ref a_t_counts, .ref a_t_image, .ref a_t_isKept])), (a_t_book, .inl (cI, 25, .inl (upd (upd t_book (22 : Int32).toNatClampNeg b39s0) (23 : Int32).toNatClampNeg (-6 : Int32))))] := hD
      refine lv_iload_n hx hb dX10_crown_49 rfl (lv_at hl 1 rfl) ?_
      obtain rfl := Option.some.inj hf
      exact fin _ _ _ _ dX10_crown_50 hP hD hS
    refine lv_if_ge (tgt := 38) hx hb dX10_crown_30 (by decide) (fun hc => ?_) (fun hc => ?_)
    · replace hf := (if_pos hc).symm.trans hf
      refine lv_iload_n hx hb dX10_crown_38 rfl (lv_at hl 2 rfl) ?_
      exact hB39 (t_book (22 : Int32).toNatClampNeg) p1 _ _ _ hP hD hS (lv_sub hl [1, 0] rfl) hf
    · replace hf := (if_neg hc).symm.trans hf
      refine lv_bipush (v := -6) hx hb dX10_crown_33 (by decide) ?_
      refine lv_goto (tgt := 39) hx hb dX10_crown_35 (by decide) ?_
      exact hB39 (t_book (22 : Int32).toNatClampNeg) (-6 : Int32) _ _ _ hP hD hS (lv_sub hl [1, 0] rfl) hf
  refine lv_icmp_eq (tgt := 15) hx hb dX10_crown_2 (by decide) (fun hc => ?_) (fun hc => ?_)
  · replace hf := (if_pos hc).symm.trans hf
    exact hB15 _ _ _ hP hD hS (lv_sub hl [0, 1] rfl) hf
  · replace hf := (if_neg hc).symm.trans hf
    refine lv_aload_n hx hb dX10_crown_5 rfl (lv_at hl 0 rfl) ?_
    refine lv_iload_n hx hb dX10_crown_6 rfl (lv_at hl 1 rfl) ?_
    obtain ⟨x7, hx7, hf⟩ := bd_if hf
    refine cv_i (wr := [(a_t_book, .inl (cI, 25, .inl t_book))]) (ws' := [(a_t, .inr (10, [.ref a_t_roads, .int t_homes, .int t_there, .ref a_t_book, .ref a_t_now, .int t_meetings, .ref a_t_meeting, .int t_sights, .ref a_t_sight, .int t_signs, .ref a_t_pad, .int t_touched, .int t_firstTouch, .int t_reason, .int t_acts, .ref a_t_apart, .ref a_t_rounds, .ref a_t_fewest, .ref a_t_nextFewest, .ref a_t_ways, .ref a_t_nextWays, .ref a_t_counts, .ref a_t_image, .ref a_t_isKept])), (a_t_book, .inl (cI, 25, .inl t_book))]) ⟨hx, hb, hml, hown, hts⟩ hcw83 hK hN hP hD hS hA (c_X10_isThere l D cI cJ cZ cO _ a_t a_t_roads a_t_book a_t_now a_t_meeting a_t_sight a_t_pad a_t_apart a_t_rounds a_t_fewest a_t_nextFewest a_t_ways a_t_nextWays a_t_counts a_t_image a_t_isKept t_homes t_there t_meetings t_sights t_signs t_touched t_firstTouch t_reason t_acts p1 x7 hx7) (q := (RX10, TX10, 24)) (ci := 10) (q0 := 0) rfl rfl [0] [1] [1, 0] rfl rfl rfl rfl (by decide) rfl rfl rfl hl.1 rfl (Nat.le_of_ble_eq_true rfl) dX10_crown_7 ⟨Nat.zero_le _, Nat.zero_le _⟩ (fun H locs hP hD hS => ?_)
    refine lv_if_ne (tgt := 15) hx hb dX10_crown_10 (by decide) (fun hc => ?_) (fun hc => ?_)
    · replace hf := (if_neg hc).symm.trans hf
      exact hB15 _ _ _ hP hD hS (lv_sub hl [0, 1] rfl) hf
    · replace hf := (if_pos hc).symm.trans hf
      refine lv_iconst (v := -1) hx hb dX10_crown_13 (by decide) ?_
      obtain rfl := Option.some.inj hf
      exact fin _ _ _ _ dX10_crown_14 hP hD hS
abbrev rm_X10_say : Room := { frames := 1, cells := 0, slots := 0, locals := 22 }
theorem ms_X10_say_X10 : ∀ w ∈ u_ws RX10 TX10 24, w ∈ wsX10_say := fun w h => List.mem_cons_of_mem _ (List.mem_append_right _ (h))
set_option maxHeartbeats 4000000 in
set_option maxRecDepth 100000 in
theorem c_X10_say (l : Launch) (D : va_G) (cI cJ cZ cO : ClassId) (sz : Nat) (a_t : Nat) (a_t_roads : Nat) (a_t_book : Nat) (a_t_now : Nat) (a_t_meeting : Nat) (a_t_sight : Nat) (a_t_pad : Nat) (a_t_apart : Nat) (a_t_rounds : Nat) (a_t_fewest : Nat) (a_t_nextFewest : Nat) (a_t_ways : Nat) (a_t_nextWays : Nat) (a_t_counts : Nat) (a_t_image : Nat) (a_t_isKept : Nat) (t_homes : Int32) (t_there : Int32) (t_meetings : Int32) (t_sights : Int32) (t_signs : Int32) (t_touched : Int32) (t_firstTouch : Int32) (t_reason : Int32) (t_acts : Int32) (t_pad : Nat → Int32) (p1 : Int32) (res : Int32 × Int32 × (Nat → Int32)) (hf : f_X10_say t_signs t_pad p1 = some res) : MetI l yX10_say wsX10_say rm_X10_say [.ref a_t, .int p1] D (tys4 cI cJ cZ cO) [(a_t, .inr (10, [.ref a_t_roads, .int t_homes, .int t_there, .ref a_t_book, .ref a_t_now, .int t_meetings, .ref a_t_meeting, .int t_sights, .ref a_t_sight, .int t_signs, .ref a_t_pad, .int t_touched, .int t_firstTouch, .int t_reason, .int t_acts, .ref a_t_apart, .ref a_t_rounds, .ref a_t_fewest, .ref a_t_nextFewest, .ref a_t_ways, .ref a_t_nextWays, .ref a_t_counts, .ref a_t_image, .ref a_t_isKept])), (a_t_pad, .inl (cI, 60, .inl t_pad))] sz res.1 [(a_t, .inr (10, [.ref a_t_roads, .int t_homes, .int t_there, .ref a_t_book, .ref a_t_now, .int t_meetings, .ref a_t_meeting, .int t_sights, .ref a_t_sight, .int res.2.1, .ref a_t_pad, .int t_touched, .int t_firstTouch, .int t_reason, .int t_acts, .ref a_t_apart, .ref a_t_rounds, .ref a_t_fewest, .ref a_t_nextFewest, .ref a_t_ways, .ref a_t_nextWays, .ref a_t_counts, .ref a_t_image, .ref a_t_isKept])), (a_t_pad, .inl (cI, 60, .inl res.2.2))] := by
  refine met_i (cc := cX10_say) (maxL := 2) (by decide) rfl (Nat.le_of_ble_eq_true rfl) ?_
  intro p e s m args below meth c Q A hx hb hml hown hts hK hN hA fin H locs ls hP hD hS hl
  replace hown : s.vm.findClass RX10 = some m.cls := hown
  replace hl : lv_has ls 2 [(0, .ref a_t), (1, .int p1)] := hl
  rw [f_X10_say] at hf
  have hcw57 := va_cwS (R := rm_X10_say) (rm := rm_X10_in) 3 hts gX10_say_X10_in rfl rfl rfl (by decide +kernel) ⟨Nat.le_of_ble_eq_true rfl, Nat.le_of_ble_eq_true rfl⟩
  have hw86 := hts (.fieldLink RX10 86 "TouchReignModel" "signs" "I") (by decide +kernel)
  have hmsX10 := ms_X10_say_X10
  have hw25 := hts (.fieldLink RX10 25 "TouchReignModel" "pad" "[I") (by decide +kernel)
  refine lv_iload_n hx hb dX10_say_0 rfl (lv_at hl 1 rfl) ?_
  refine lv_bipush (v := 33) hx hb dX10_say_1 (by decide) ?_
  refine lv_bipush (v := 126) hx hb dX10_say_3 (by decide) ?_
  obtain ⟨x5, hx5, hf⟩ := bd_if hf
  refine cs_i (wr := [(a_t, .inr (10, [.ref a_t_roads, .int t_homes, .int t_there, .ref a_t_book, .ref a_t_now, .int t_meetings, .ref a_t_meeting, .int t_sights, .ref a_t_sight, .int t_signs, .ref a_t_pad, .int t_touched, .int t_firstTouch, .int t_reason, .int t_acts, .ref a_t_apart, .ref a_t_rounds, .ref a_t_fewest, .ref a_t_nextFewest, .ref a_t_ways, .ref a_t_nextWays, .ref a_t_counts, .ref a_t_image, .ref a_t_isKept])), (a_t_pad, .inl (cI, 60, .inl t_pad))]) (ws' := [(a_t, .inr (10, [.ref a_t_roads, .int t_homes, .int t_there, .ref a_t_book, .ref a_t_now, .int t_meetings, .ref a_t_meeting, .int t_sights, .ref a_t_sight, .int t_signs, .ref a_t_pad, .int t_touched, .int t_firstTouch, .int t_reason, .int t_acts, .ref a_t_apart, .ref a_t_rounds, .ref a_t_fewest, .ref a_t_nextFewest, .ref a_t_ways, .ref a_t_nextWays, .ref a_t_counts, .ref a_t_image, .ref a_t_isKept])), (a_t_pad, .inl (cI, 60, .inl t_pad))]) ⟨hx, hb, hml, hown, hts⟩ hcw57 hK hN hP hD hS hA (c_X10_in l D cI cJ cZ cO _ p1 (33 : Int32) (126 : Int32) x5 hx5) [] [0, 1] [0, 1] rfl rfl rfl rfl (by decide) rfl rfl rfl hl.1 rfl (Nat.le_of_ble_eq_true rfl) dX10_say_5 ⟨Nat.zero_le _, Nat.zero_le _⟩ (fun H locs hP hD hS => ?_)
  refine lv_if_ne (tgt := 14) hx hb dX10_say_8 (by decide) (fun hc => ?_) (fun hc => ?_)
  · replace hf := (if_neg hc).symm.trans hf
    refine lv_aload_n hx hb dX10_say_14 rfl (lv_at hl 0 rfl) ?_
    refine va_get (D := D) (ci := 10) (v := .int t_signs) (C := RX10) (T := TX10) (N := 24) hx hb hts hmsX10 hown hK hP 0 rfl rfl 9 (by decide) hw86 (fun _ h9 => h9) rfl dX10_say_15 ?_
    refine lv_bipush (v := 60) hx hb dX10_say_18 (by decide) ?_
    refine lv_icmp_ne (tgt := 26) hx hb dX10_say_20 (by decide) (fun hc => ?_) (fun hc => ?_)
    · replace hf := (if_neg hc).symm.trans hf
      refine lv_aload_n hx hb dX10_say_26 rfl (lv_at hl 0 rfl) ?_
      refine va_get (D := D) (ci := 10) (v := .ref a_t_pad) (C := RX10) (T := TX10) (N := 24) hx hb hts hmsX10 hown hK hP 0 rfl rfl 10 (by decide) hw25 (fun _ h9 => h9) rfl dX10_say_27 ?_
      refine lv_aload_n hx hb dX10_say_30 rfl (lv_at hl 0 rfl) ?_
      refine va_get (D := D) (ci := 10) (v := .int t_signs) (C := RX10) (T := TX10) (N := 24) hx hb hts hmsX10 hown hK hP 0 rfl rfl 9 (by decide) hw86 (fun _ h9 => h9) rfl dX10_say_31 ?_
      refine lv_iload_n hx hb dX10_say_34 rfl (lv_at hl 1 rfl) ?_
      obtain ⟨hi35, hf⟩ := ix_if hf
      refine va_iast (D := D) hx hb hK hP hD hS 1 0 rfl rfl hi35 dX10_say_35 (fun H locs hP hD hS => ?_)
      replace hP : va_P D vwCl [(a_t, .inr (10, [.ref a_t_roads, .int t_homes, .int t_there, .ref a_t_book, .ref a_t_now, .int t_meetings, .ref a_t_meeting, .int t_sights, .ref a_t_sight, .int t_signs, .ref a_t_pad, .int t_touched, .int t_firstTouch, .int t_reason, .int t_acts, .ref a_t_apart, .ref a_t_rounds, .ref a_t_fewest, .ref a_t_nextFewest, .ref a_t_ways, .ref a_t_nextWays, .ref a_t_counts, .ref a_t_image, .ref a_t_isKept])), (a_t_pad, .inl (cI, 60, .inl (upd t_pad t_signs.toNatClampNeg p1)))] H := hP
      replace hD : va_D A [(a_t, .inr (10, [.ref a_t_roads, .int t_homes, .int t_there, .ref a_t_book, .ref a_t_now, .int t_meetings, .ref a_t_meeting, .int t_sights, .ref a_t_sight, .int t_signs, .ref a_t_pad, .int t_touched, .int t_firstTouch, .int t_reason, .int t_acts, .ref a_t_apart, .ref a_t_rounds, .ref a_t_fewest, .ref a_t_nextFewest, .ref a_t_ways, .ref a_t_nextWays, .ref a_t_counts, .ref a_t_image, .ref a_t_isKept])), (a_t_pad, .inl (cI, 60, .inl (upd t_pad t_signs.toNatClampNeg p1)))] := hD
      refine lv_aload_n hx hb dX10_say_36 rfl (lv_at hl 0 rfl) ?_
      refine lv_dup hx hb dX10_say_37 rfl ?_
      refine va_get (D := D) (ci := 10) (v := .int t_signs) (C := RX10) (T := TX10) (N := 24) hx hb hts hmsX10 hown hK hP 0 rfl rfl 9 (by decide) hw86 (fun _ h9 => h9) rfl dX10_say_38 ?_
      refine lv_iconst (v := 1) hx hb dX10_say_41 (by decide) ?_
      refine lv_iadd hx hb dX10_say_42 ?_
      refine va_put (D := D) (ci := 10) (v := .int (t_signs + (1 : Int32))) (ty := .int) (C := RX10) (T := TX10) (N := 24) hx hb hts hmsX10 tyX10 tyX10_ok nmX10 hown hK hP hD hS 0 rfl rfl 9 (by decide) hw86 (fun _ h9 => h9) rfl (by decide +kernel) rfl rfl (Nat.le_of_ble_eq_true rfl) dX10_say_43 (fun H locs hP hD hS => ?_)
      replace hP : va_P D vwCl [(a_t, .inr (10, [.ref a_t_roads, .int t_homes, .int t_there, .ref a_t_book, .ref a_t_now, .int t_meetings, .ref a_t_meeting, .int t_sights, .ref a_t_sight, .int (t_signs + (1 : Int32)), .ref a_t_pad, .int t_touched, .int t_firstTouch, .int t_reason, .int t_acts, .ref a_t_apart, .ref a_t_rounds, .ref a_t_fewest, .ref a_t_nextFewest, .ref a_t_ways, .ref a_t_nextWays, .ref a_t_counts, .ref a_t_image, .ref a_t_isKept])), (a_t_pad, .inl (cI, 60, .inl (upd t_pad t_signs.toNatClampNeg p1)))] H := hP
      replace hD : va_D A [(a_t, .inr (10, [.ref a_t_roads, .int t_homes, .int t_there, .ref a_t_book, .ref a_t_now, .int t_meetings, .ref a_t_meeting, .int t_sights, .ref a_t_sight, .int (t_signs + (1 : Int32)), .ref a_t_pad, .int t_touched, .int t_firstTouch, .int t_reason, .int t_acts, .ref a_t_apart, .ref a_t_rounds, .ref a_t_fewest, .ref a_t_nextFewest, .ref a_t_ways, .ref a_t_nextWays, .ref a_t_counts, .ref a_t_image, .ref a_t_isKept])), (a_t_pad, .inl (cI, 60, .inl (upd t_pad t_signs.toNatClampNeg p1)))] := hD
      refine lv_aload_n hx hb dX10_say_46 rfl (lv_at hl 0 rfl) ?_
      refine va_get (D := D) (ci := 10) (v := .int (t_signs + (1 : Int32))) (C := RX10) (T := TX10) (N := 24) hx hb hts hmsX10 hown hK hP 0 rfl rfl 9 (by decide) hw86 (fun _ h9 => h9) rfl dX10_say_47 ?_
      obtain rfl := Option.some.inj hf
      exact fin _ _ _ _ dX10_say_50 hP hD hS
    · replace hf := (if_pos hc).symm.trans hf
      refine lv_bipush (v := -4) hx hb dX10_say_23 (by decide) ?_
      obtain rfl := Option.some.inj hf
      exact fin _ _ _ _ dX10_say_25 hP hD hS
  · replace hf := (if_pos hc).symm.trans hf
    refine lv_bipush (v := -2) hx hb dX10_say_11 (by decide) ?_
    obtain rfl := Option.some.inj hf
    exact fin _ _ _ _ dX10_say_13 hP hD hS
abbrev rm_X10_wipe : Room := { frames := 0, cells := 0, slots := 0, locals := 0 }
theorem ms_X10_wipe_X10 : ∀ w ∈ u_ws RX10 TX10 24, w ∈ wsX10_wipe := fun w h => List.mem_cons_of_mem _ (List.mem_append_right _ (h))
set_option maxHeartbeats 4000000 in
set_option maxRecDepth 100000 in
theorem c_X10_wipe (l : Launch) (D : va_G) (cI cJ cZ cO : ClassId) (sz : Nat) (a_t : Nat) (a_t_roads : Nat) (a_t_book : Nat) (a_t_now : Nat) (a_t_meeting : Nat) (a_t_sight : Nat) (a_t_pad : Nat) (a_t_apart : Nat) (a_t_rounds : Nat) (a_t_fewest : Nat) (a_t_nextFewest : Nat) (a_t_ways : Nat) (a_t_nextWays : Nat) (a_t_counts : Nat) (a_t_image : Nat) (a_t_isKept : Nat) (t_homes : Int32) (t_there : Int32) (t_meetings : Int32) (t_sights : Int32) (t_signs : Int32) (t_touched : Int32) (t_firstTouch : Int32) (t_reason : Int32) (t_acts : Int32) (res : Int32 × Int32) (hf : f_X10_wipe t_signs = some res) : MetI l yX10_wipe wsX10_wipe rm_X10_wipe [.ref a_t] D (tys4 cI cJ cZ cO) [(a_t, .inr (10, [.ref a_t_roads, .int t_homes, .int t_there, .ref a_t_book, .ref a_t_now, .int t_meetings, .ref a_t_meeting, .int t_sights, .ref a_t_sight, .int t_signs, .ref a_t_pad, .int t_touched, .int t_firstTouch, .int t_reason, .int t_acts, .ref a_t_apart, .ref a_t_rounds, .ref a_t_fewest, .ref a_t_nextFewest, .ref a_t_ways, .ref a_t_nextWays, .ref a_t_counts, .ref a_t_image, .ref a_t_isKept]))] sz res.1 [(a_t, .inr (10, [.ref a_t_roads, .int t_homes, .int t_there, .ref a_t_book, .ref a_t_now, .int t_meetings, .ref a_t_meeting, .int t_sights, .ref a_t_sight, .int res.2, .ref a_t_pad, .int t_touched, .int t_firstTouch, .int t_reason, .int t_acts, .ref a_t_apart, .ref a_t_rounds, .ref a_t_fewest, .ref a_t_nextFewest, .ref a_t_ways, .ref a_t_nextWays, .ref a_t_counts, .ref a_t_image, .ref a_t_isKept]))] := by
  refine met_i (cc := cX10_wipe) (maxL := 2) (by decide) rfl (Nat.le_of_ble_eq_true rfl) ?_
  intro p e s m args below meth c Q A hx hb hml hown hts hK hN hA fin H locs ls hP hD hS hl
  replace hown : s.vm.findClass RX10 = some m.cls := hown
  replace hl : lv_has ls 2 [(0, .ref a_t)] := hl
  rw [f_X10_wipe] at hf
  have hw86 := hts (.fieldLink RX10 86 "TouchReignModel" "signs" "I") (by decide +kernel)
  have hmsX10 := ms_X10_wipe_X10
  refine lv_aload_n hx hb dX10_wipe_0 rfl (lv_at hl 0 rfl) ?_
  refine va_get (D := D) (ci := 10) (v := .int t_signs) (C := RX10) (T := TX10) (N := 24) hx hb hts hmsX10 hown hK hP 0 rfl rfl 9 (by decide) hw86 (fun _ h9 => h9) rfl dX10_wipe_1 ?_
  refine lv_istore_n (lv' := [(1, .int t_signs), (0, .ref a_t)]) hx hb dX10_wipe_4 rfl hl (by decide) rfl (fun ls hl => ?_)
  refine lv_aload_n hx hb dX10_wipe_5 rfl (lv_at hl 1 rfl) ?_
  refine lv_iconst (v := 0) hx hb dX10_wipe_6 (by decide) ?_
  refine va_put (D := D) (ci := 10) (v := .int (0 : Int32)) (ty := .int) (C := RX10) (T := TX10) (N := 24) hx hb hts hmsX10 tyX10 tyX10_ok nmX10 hown hK hP hD hS 0 rfl rfl 9 (by decide) hw86 (fun _ h9 => h9) rfl (by decide +kernel) rfl rfl (Nat.le_of_ble_eq_true rfl) dX10_wipe_7 (fun H locs hP hD hS => ?_)
  replace hP : va_P D vwCl [(a_t, .inr (10, [.ref a_t_roads, .int t_homes, .int t_there, .ref a_t_book, .ref a_t_now, .int t_meetings, .ref a_t_meeting, .int t_sights, .ref a_t_sight, .int (0 : Int32), .ref a_t_pad, .int t_touched, .int t_firstTouch, .int t_reason, .int t_acts, .ref a_t_apart, .ref a_t_rounds, .ref a_t_fewest, .ref a_t_nextFewest, .ref a_t_ways, .ref a_t_nextWays, .ref a_t_counts, .ref a_t_image, .ref a_t_isKept]))] H := hP
  replace hD : va_D A [(a_t, .inr (10, [.ref a_t_roads, .int t_homes, .int t_there, .ref a_t_book, .ref a_t_now, .int t_meetings, .ref a_t_meeting, .int t_sights, .ref a_t_sight, .int (0 : Int32), .ref a_t_pad, .int t_touched, .int t_firstTouch, .int t_reason, .int t_acts, .ref a_t_apart, .ref a_t_rounds, .ref a_t_fewest, .ref a_t_nextFewest, .ref a_t_ways, .ref a_t_nextWays, .ref a_t_counts, .ref a_t_image, .ref a_t_isKept]))] := hD
  refine lv_iload_n hx hb dX10_wipe_10 rfl (lv_at hl 0 rfl) ?_
  obtain rfl := Option.some.inj hf
  exact fin _ _ _ _ dX10_wipe_11 hP hD hS
abbrev rm_X10_isLetter : Room := { frames := 1, cells := 0, slots := 0, locals := 22 }
set_option maxHeartbeats 4000000 in
set_option maxRecDepth 100000 in
theorem c_X10_isLetter (l : Launch) (D : va_G) (cI cJ cZ cO : ClassId) (sz : Nat) (p0 : Int32) (res : Int32) (hf : f_X10_isLetter p0 = some res) : MetI l yX10_isLetter wsX10_isLetter rm_X10_isLetter [.int p0] D (tys4 cI cJ cZ cO) [] sz res [] := by
  refine met_z (cc := cX10_isLetter) (maxL := 1) (by decide) rfl (Nat.le_of_ble_eq_true rfl) ?_
  intro p e s m args below meth c Q A hx hb hml hown hts hK hN hA fin H locs ls hP hD hS hl
  replace hown : s.vm.findClass RX10 = some m.cls := hown
  replace hl : lv_has ls 1 [(0, .int p0)] := hl
  rw [f_X10_isLetter] at hf
  have hcw57 := va_cwS (R := rm_X10_isLetter) (rm := rm_X10_in) 3 hts gX10_isLetter_X10_in rfl rfl rfl (by decide +kernel) ⟨Nat.le_of_ble_eq_true rfl, Nat.le_of_ble_eq_true rfl⟩
  refine lv_iload_n hx hb dX10_isLetter_0 rfl (lv_at hl 0 rfl) ?_
  refine lv_bipush (v := 65) hx hb dX10_isLetter_1 (by decide) ?_
  refine lv_bipush (v := 71) hx hb dX10_isLetter_3 (by decide) ?_
  obtain ⟨x5, hx5, hf⟩ := bd_if hf
  refine cs_i (wr := []) (ws' := []) ⟨hx, hb, hml, hown, hts⟩ hcw57 hK hN hP hD hS hA (c_X10_in l D cI cJ cZ cO _ p0 (65 : Int32) (71 : Int32) x5 hx5) [] [] [] rfl rfl rfl rfl (by decide) rfl rfl rfl hl.1 rfl (Nat.le_of_ble_eq_true rfl) dX10_isLetter_5 ⟨Nat.zero_le _, Nat.zero_le _⟩ (fun H locs hP hD hS => ?_)
  obtain ⟨hz8, hf⟩ := ok_if hf
  obtain rfl := Option.some.inj hf
  exact fin _ _ _ _ (zr_ok hz8) dX10_isLetter_8 hP hD hS
abbrev rm_X10_faultOf : Room := { frames := 2, cells := 0, slots := 0, locals := 42 }
theorem ms_X10_faultOf_X10 : ∀ w ∈ u_ws RX10 TX10 24, w ∈ wsX10_faultOf := fun w h => List.mem_cons_of_mem _ (List.mem_append_right _ (h))
set_option maxHeartbeats 4000000 in
set_option maxRecDepth 100000 in
theorem c_X10_faultOf (l : Launch) (D : va_G) (cI cJ cZ cO : ClassId) (sz : Nat) (a_t : Nat) (a_t_roads : Nat) (a_t_book : Nat) (a_t_now : Nat) (a_t_meeting : Nat) (a_t_sight : Nat) (a_t_pad : Nat) (a_t_apart : Nat) (a_t_rounds : Nat) (a_t_fewest : Nat) (a_t_nextFewest : Nat) (a_t_ways : Nat) (a_t_nextWays : Nat) (a_t_counts : Nat) (a_t_image : Nat) (a_t_isKept : Nat) (t_homes : Int32) (t_there : Int32) (t_meetings : Int32) (t_sights : Int32) (t_signs : Int32) (t_touched : Int32) (t_firstTouch : Int32) (t_reason : Int32) (t_acts : Int32) (t_pad : Nat → Int32) (res : Int32) (hf : f_X10_faultOf t_signs t_pad = some res) : MetI l yX10_faultOf wsX10_faultOf rm_X10_faultOf [.ref a_t] D (tys4 cI cJ cZ cO) [(a_t, .inr (10, [.ref a_t_roads, .int t_homes, .int t_there, .ref a_t_book, .ref a_t_now, .int t_meetings, .ref a_t_meeting, .int t_sights, .ref a_t_sight, .int t_signs, .ref a_t_pad, .int t_touched, .int t_firstTouch, .int t_reason, .int t_acts, .ref a_t_apart, .ref a_t_rounds, .ref a_t_fewest, .ref a_t_nextFewest, .ref a_t_ways, .ref a_t_nextWays, .ref a_t_counts, .ref a_t_image, .ref a_t_isKept])), (a_t_pad, .inl (cI, 60, .inl t_pad))] sz res [(a_t, .inr (10, [.ref a_t_roads, .int t_homes, .int t_there, .ref a_t_book, .ref a_t_now, .int t_meetings, .ref a_t_meeting, .int t_sights, .ref a_t_sight, .int t_signs, .ref a_t_pad, .int t_touched, .int t_firstTouch, .int t_reason, .int t_acts, .ref a_t_apart, .ref a_t_rounds, .ref a_t_fewest, .ref a_t_nextFewest, .ref a_t_ways, .ref a_t_nextWays, .ref a_t_counts, .ref a_t_image, .ref a_t_isKept])), (a_t_pad, .inl (cI, 60, .inl t_pad))] := by
  refine met_i (cc := cX10_faultOf) (maxL := 5) (by decide) rfl (Nat.le_of_ble_eq_true rfl) ?_
  intro p e s m args below meth c Q A hx hb hml hown hts hK hN hA fin H locs ls hP hD hS hl
  replace hown : s.vm.findClass RX10 = some m.cls := hown
  replace hl : lv_has ls 5 [(0, .ref a_t)] := hl
  rw [f_X10_faultOf] at hf
  have hw86 := hts (.fieldLink RX10 86 "TouchReignModel" "signs" "I") (by decide +kernel)
  have hmsX10 := ms_X10_faultOf_X10
  have hw25 := hts (.fieldLink RX10 25 "TouchReignModel" "pad" "[I") (by decide +kernel)
  have hcw57 := va_cwS (R := rm_X10_faultOf) (rm := rm_X10_in) 3 hts gX10_faultOf_X10_in rfl rfl rfl (by decide +kernel) ⟨Nat.le_of_ble_eq_true rfl, Nat.le_of_ble_eq_true rfl⟩
  have hcw89 := va_cwS (R := rm_X10_faultOf) (rm := rm_X10_isLetter) 1 hts gX10_faultOf_X10_isLetter rfl rfl rfl (by decide +kernel) ⟨Nat.le_of_ble_eq_true rfl, Nat.le_of_ble_eq_true rfl⟩
  refine lv_iconst (v := 0) hx hb dX10_faultOf_0 (by decide) ?_
  refine lv_istore_n (lv' := [(1, .int (0 : Int32)), (0, .ref a_t)]) hx hb dX10_faultOf_1 rfl hl (by decide) rfl (fun ls hl => ?_)
  refine lv_iconst (v := 0) hx hb dX10_faultOf_2 (by decide) ?_
  refine lv_istore_n (lv' := [(2, .int (0 : Int32)), (1, .int (0 : Int32)), (0, .ref a_t)]) hx hb dX10_faultOf_3 rfl hl (by decide) rfl (fun ls hl => ?_)
  have hX4 : ∀ (x4v1 : Int32) (H : Heap) (locs : List Loc) (ls : Array Slot), va_P D vwCl [(a_t, .inr (10, [.ref a_t_roads, .int t_homes, .int t_there, .ref a_t_book, .ref a_t_now, .int t_meetings, .ref a_t_meeting, .int t_sights, .ref a_t_sight, .int t_signs, .ref a_t_pad, .int t_touched, .int t_firstTouch, .int t_reason, .int t_acts, .ref a_t_apart, .ref a_t_rounds, .ref a_t_fewest, .ref a_t_nextFewest, .ref a_t_ways, .ref a_t_nextWays, .ref a_t_counts, .ref a_t_image, .ref a_t_isKept])), (a_t_pad, .inl (cI, 60, .inl t_pad))] H → va_D A [(a_t, .inr (10, [.ref a_t_roads, .int t_homes, .int t_there, .ref a_t_book, .ref a_t_now, .int t_meetings, .ref a_t_meeting, .int t_sights, .ref a_t_sight, .int t_signs, .ref a_t_pad, .int t_touched, .int t_firstTouch, .int t_reason, .int t_acts, .ref a_t_apart, .ref a_t_rounds, .ref a_t_fewest, .ref a_t_nextFewest, .ref a_t_ways, .ref a_t_nextWays, .ref a_t_counts, .ref a_t_image, .ref a_t_isKept])), (a_t_pad, .inl (cI, 60, .inl t_pad))] → va_S A s.heap H locs → lv_has ls 5 [(0, .ref a_t), (1, .int x4v1)] → f_X10_faultOf_X4 t_signs x4v1 = some res → W p l e rm_X10_faultOf s m args below meth c H locs 0 0 Q (F0 m 140 ls []) := by
    intro x4v1 H locs ls hP hD hS hl hf
    rw [f_X10_faultOf_X4] at hf
    refine lv_iload_n hx hb dX10_faultOf_140 rfl (lv_at hl 1 rfl) ?_
    refine lv_if_ne (tgt := 149) hx hb dX10_faultOf_141 (by decide) (fun hc => ?_) (fun hc => ?_)
    · replace hf := (if_neg hc).symm.trans hf
      refine lv_aload_n hx hb dX10_faultOf_149 rfl (lv_at hl 0 rfl) ?_
      refine va_get (D := D) (ci := 10) (v := .int t_signs) (C := RX10) (T := TX10) (N := 24) hx hb hts hmsX10 hown hK hP 0 rfl rfl 9 (by decide) hw86 (fun _ h9 => h9) rfl dX10_faultOf_150 ?_
      obtain rfl := Option.some.inj hf
      exact fin _ _ _ _ dX10_faultOf_153 hP hD hS
    · replace hf := (if_pos hc).symm.trans hf
      refine lv_bipush (v := -6) hx hb dX10_faultOf_144 (by decide) ?_
      refine lv_goto (tgt := 153) hx hb dX10_faultOf_146 (by decide) ?_
      obtain rfl := Option.some.inj hf
      exact fin _ _ _ _ dX10_faultOf_153 hP hD hS
  have hL4 : ∀ (n4 : Nat), ∀ (l4v1 : Int32) (l4v2 : Int32) (H : Heap) (locs : List Loc) (ls : Array Slot), va_P D vwCl [(a_t, .inr (10, [.ref a_t_roads, .int t_homes, .int t_there, .ref a_t_book, .ref a_t_now, .int t_meetings, .ref a_t_meeting, .int t_sights, .ref a_t_sight, .int t_signs, .ref a_t_pad, .int t_touched, .int t_firstTouch, .int t_reason, .int t_acts, .ref a_t_apart, .ref a_t_rounds, .ref a_t_fewest, .ref a_t_nextFewest, .ref a_t_ways, .ref a_t_nextWays, .ref a_t_counts, .ref a_t_image, .ref a_t_isKept])), (a_t_pad, .inl (cI, 60, .inl t_pad))] H → va_D A [(a_t, .inr (10, [.ref a_t_roads, .int t_homes, .int t_there, .ref a_t_book, .ref a_t_now, .int t_meetings, .ref a_t_meeting, .int t_sights, .ref a_t_sight, .int t_signs, .ref a_t_pad, .int t_touched, .int t_firstTouch, .int t_reason, .int t_acts, .ref a_t_apart, .ref a_t_rounds, .ref a_t_fewest, .ref a_t_nextFewest, .ref a_t_ways, .ref a_t_nextWays, .ref a_t_counts, .ref a_t_image, .ref a_t_isKept])), (a_t_pad, .inl (cI, 60, .inl t_pad))] → va_S A s.heap H locs → lv_has ls 5 [(0, .ref a_t), (1, .int l4v1), (2, .int l4v2)] → f_X10_faultOf_L4 t_signs t_pad (f_X10_faultOf_X4 t_signs) n4 l4v1 l4v2 = some res → W p l e rm_X10_faultOf s m args below meth c H locs 0 0 Q (F0 m 4 ls []) := by
    intro n4
    induction n4 with
    | zero =>
      intro l4v1 l4v2 H locs ls hP hD hS hl hf
      rw [f_X10_faultOf_L4] at hf
      cases hf
    | succ n4 ih4 =>
      intro l4v1 l4v2 H locs ls hP hD hS hl hf
      rw [f_X10_faultOf_L4] at hf
      refine lv_iload_n hx hb dX10_faultOf_4 rfl (lv_at hl 2 rfl) ?_
      refine lv_aload_n hx hb dX10_faultOf_5 rfl (lv_at hl 0 rfl) ?_
      refine va_get (D := D) (ci := 10) (v := .int t_signs) (C := RX10) (T := TX10) (N := 24) hx hb hts hmsX10 hown hK hP 0 rfl rfl 9 (by decide) hw86 (fun _ h9 => h9) rfl dX10_faultOf_6 ?_
      refine lv_icmp_ge (tgt := 140) hx hb dX10_faultOf_9 (by decide) (fun hc => ?_) (fun hc => ?_)
      · replace hf := (if_pos hc).symm.trans hf
        exact hX4 l4v1 _ _ _ hP hD hS (lv_sub hl [0, 1] rfl) hf
      · replace hf := (if_neg hc).symm.trans hf
        refine lv_aload_n hx hb dX10_faultOf_12 rfl (lv_at hl 0 rfl) ?_
        refine va_get (D := D) (ci := 10) (v := .ref a_t_pad) (C := RX10) (T := TX10) (N := 24) hx hb hts hmsX10 hown hK hP 0 rfl rfl 10 (by decide) hw25 (fun _ h9 => h9) rfl dX10_faultOf_13 ?_
        refine lv_iload_n hx hb dX10_faultOf_16 rfl (lv_at hl 2 rfl) ?_
        obtain ⟨hi17, hf⟩ := ix_if hf
        refine va_iald (D := D) hx hb hK hP 1 0 rfl rfl hi17 dX10_faultOf_17 ?_
        refine lv_istore_n (lv' := [(3, .int (t_pad l4v2.toNatClampNeg)), (0, .ref a_t), (1, .int l4v1), (2, .int l4v2)]) hx hb dX10_faultOf_18 rfl hl (by decide) rfl (fun ls hl => ?_)
        refine lv_iload_n hx hb dX10_faultOf_19 rfl (lv_at hl 2 rfl) ?_
        have hB90 : ∀ (b90v3 : Int32) (b90s0 : Int32) (H : Heap) (locs : List Loc) (ls : Array Slot), va_P D vwCl [(a_t, .inr (10, [.ref a_t_roads, .int t_homes, .int t_there, .ref a_t_book, .ref a_t_now, .int t_meetings, .ref a_t_meeting, .int t_sights, .ref a_t_sight, .int t_signs, .ref a_t_pad, .int t_touched, .int t_firstTouch, .int t_reason, .int t_acts, .ref a_t_apart, .ref a_t_rounds, .ref a_t_fewest, .ref a_t_nextFewest, .ref a_t_ways, .ref a_t_nextWays, .ref a_t_counts, .ref a_t_image, .ref a_t_isKept])), (a_t_pad, .inl (cI, 60, .inl t_pad))] H → va_D A [(a_t, .inr (10, [.ref a_t_roads, .int t_homes, .int t_there, .ref a_t_book, .ref a_t_now, .int t_meetings, .ref a_t_meeting, .int t_sights, .ref a_t_sight, .int t_signs, .ref a_t_pad, .int t_touched, .int t_firstTouch, .int t_reason, .int t_acts, .ref a_t_apart, .ref a_t_rounds, .ref a_t_fewest, .ref a_t_nextFewest, .ref a_t_ways, .ref a_t_nextWays, .ref a_t_counts, .ref a_t_image, .ref a_t_isKept])), (a_t_pad, .inl (cI, 60, .inl t_pad))] → va_S A s.heap H locs → lv_has ls 5 [(0, .ref a_t), (1, .int l4v1), (2, .int l4v2), (3, .int b90v3)] → f_X10_faultOf_B90 l4v1 l4v2 (f_X10_faultOf_L4 t_signs t_pad (f_X10_faultOf_X4 t_signs) n4) b90v3 b90s0 = some res → W p l e rm_X10_faultOf s m args below meth c H locs 0 0 Q (F0 m 90 ls [.int b90s0]) := by
          intro b90v3 b90s0 H locs ls hP hD hS hl hf
          rw [f_X10_faultOf_B90] at hf
          refine lv_istore (lv' := [(4, .int b90s0), (0, .ref a_t), (1, .int l4v1), (2, .int l4v2), (3, .int b90v3)]) hx hb dX10_faultOf_90 hl (by decide) rfl (fun ls hl => ?_)
          refine lv_iload hx hb dX10_faultOf_92 (lv_at hl 0 rfl) ?_
          refine lv_if_ne (tgt := 99) hx hb dX10_faultOf_94 (by decide) (fun hc => ?_) (fun hc => ?_)
          · replace hf := (if_neg hc).symm.trans hf
            refine lv_iload_n hx hb dX10_faultOf_99 rfl (lv_at hl 2 rfl) ?_
            refine lv_if_ne (tgt := 117) hx hb dX10_faultOf_100 (by decide) (fun hc => ?_) (fun hc => ?_)
            · replace hf := (if_neg hc).symm.trans hf
              refine lv_iload_n hx hb dX10_faultOf_117 rfl (lv_at hl 2 rfl) ?_
              refine lv_iconst (v := 1) hx hb dX10_faultOf_118 (by decide) ?_
              refine lv_icmp_ne (tgt := 132) hx hb dX10_faultOf_119 (by decide) (fun hc => ?_) (fun hc => ?_)
              · replace hf := (if_neg hc).symm.trans hf
                refine lv_iconst (v := 0) hx hb dX10_faultOf_132 (by decide) ?_
                refine lv_istore_n (lv' := [(1, .int (0 : Int32)), (4, .int b90s0), (0, .ref a_t), (2, .int l4v2), (3, .int b90v3)]) hx hb dX10_faultOf_133 rfl hl (by decide) rfl (fun ls hl => ?_)
                refine lv_iinc (v := l4v2 + 1) (lv' := [(2, .int (l4v2 + 1)), (1, .int (0 : Int32)), (4, .int b90s0), (0, .ref a_t), (3, .int b90v3)]) hx hb dX10_faultOf_134 hl (k := 3) rfl rfl (by decide) rfl (fun ls hl => ?_)
                refine lv_goto (tgt := 4) hx hb dX10_faultOf_137 (by decide) ?_
                exact ih4 (0 : Int32) (l4v2 + 1) _ _ _ hP hD hS (lv_sub hl [3, 1, 0] rfl) hf
              · replace hf := (if_pos hc).symm.trans hf
                refine lv_iload_n hx hb dX10_faultOf_122 rfl (lv_at hl 4 rfl) ?_
                refine lv_bipush (v := 62) hx hb dX10_faultOf_123 (by decide) ?_
                refine lv_icmp_ne (tgt := 132) hx hb dX10_faultOf_125 (by decide) (fun hc => ?_) (fun hc => ?_)
                · replace hf := (if_neg hc).symm.trans hf
                  refine lv_iconst (v := 0) hx hb dX10_faultOf_132 (by decide) ?_
                  refine lv_istore_n (lv' := [(1, .int (0 : Int32)), (4, .int b90s0), (0, .ref a_t), (2, .int l4v2), (3, .int b90v3)]) hx hb dX10_faultOf_133 rfl hl (by decide) rfl (fun ls hl => ?_)
                  refine lv_iinc (v := l4v2 + 1) (lv' := [(2, .int (l4v2 + 1)), (1, .int (0 : Int32)), (4, .int b90s0), (0, .ref a_t), (3, .int b90v3)]) hx hb dX10_faultOf_134 hl (k := 3) rfl rfl (by decide) rfl (fun ls hl => ?_)
                  refine lv_goto (tgt := 4) hx hb dX10_faultOf_137 (by decide) ?_
                  exact ih4 (0 : Int32) (l4v2 + 1) _ _ _ hP hD hS (lv_sub hl [3, 1, 0] rfl) hf
                · replace hf := (if_pos hc).symm.trans hf
                  refine lv_iconst (v := 2) hx hb dX10_faultOf_128 (by decide) ?_
                  refine lv_goto (tgt := 133) hx hb dX10_faultOf_129 (by decide) ?_
                  refine lv_istore_n (lv' := [(1, .int (2 : Int32)), (4, .int b90s0), (0, .ref a_t), (2, .int l4v2), (3, .int b90v3)]) hx hb dX10_faultOf_133 rfl hl (by decide) rfl (fun ls hl => ?_)
                  refine lv_iinc (v := l4v2 + 1) (lv' := [(2, .int (l4v2 + 1)), (1, .int (2 : Int32)), (4, .int b90s0), (0, .ref a_t), (3, .int b90v3)]) hx hb dX10_faultOf_134 hl (k := 3) rfl rfl (by decide) rfl (fun ls hl => ?_)
                  refine lv_goto (tgt := 4) hx hb dX10_faultOf_137 (by decide) ?_
                  exact ih4 (2 : Int32) (l4v2 + 1) _ _ _ hP hD hS (lv_sub hl [3, 1, 0] rfl) hf
            · replace hf := (if_pos hc).symm.trans hf
              refine lv_iload_n hx hb dX10_faultOf_103 rfl (lv_at hl 4 rfl) ?_
              refine lv_bipush (v := 46) hx hb dX10_faultOf_104 (by decide) ?_
              refine lv_icmp_ne (tgt := 113) hx hb dX10_faultOf_106 (by decide) (fun hc => ?_) (fun hc => ?_)
              · replace hf := (if_neg hc).symm.trans hf
                refine lv_iconst (v := 1) hx hb dX10_faultOf_113 (by decide) ?_
                refine lv_goto (tgt := 133) hx hb dX10_faultOf_114 (by decide) ?_
                refine lv_istore_n (lv' := [(1, .int (1 : Int32)), (4, .int b90s0), (0, .ref a_t), (2, .int l4v2), (3, .int b90v3)]) hx hb dX10_faultOf_133 rfl hl (by decide) rfl (fun ls hl => ?_)
                refine lv_iinc (v := l4v2 + 1) (lv' := [(2, .int (l4v2 + 1)), (1, .int (1 : Int32)), (4, .int b90s0), (0, .ref a_t), (3, .int b90v3)]) hx hb dX10_faultOf_134 hl (k := 3) rfl rfl (by decide) rfl (fun ls hl => ?_)
                refine lv_goto (tgt := 4) hx hb dX10_faultOf_137 (by decide) ?_
                exact ih4 (1 : Int32) (l4v2 + 1) _ _ _ hP hD hS (lv_sub hl [3, 1, 0] rfl) hf
              · replace hf := (if_pos hc).symm.trans hf
                refine lv_iconst (v := 0) hx hb dX10_faultOf_109 (by decide) ?_
                refine lv_goto (tgt := 133) hx hb dX10_faultOf_110 (by decide) ?_
                refine lv_istore_n (lv' := [(1, .int (0 : Int32)), (4, .int b90s0), (0, .ref a_t), (2, .int l4v2), (3, .int b90v3)]) hx hb dX10_faultOf_133 rfl hl (by decide) rfl (fun ls hl => ?_)
                refine lv_iinc (v := l4v2 + 1) (lv' := [(2, .int (l4v2 + 1)), (1, .int (0 : Int32)), (4, .int b90s0), (0, .ref a_t), (3, .int b90v3)]) hx hb dX10_faultOf_134 hl (k := 3) rfl rfl (by decide) rfl (fun ls hl => ?_)
                refine lv_goto (tgt := 4) hx hb dX10_faultOf_137 (by decide) ?_
                exact ih4 (0 : Int32) (l4v2 + 1) _ _ _ hP hD hS (lv_sub hl [3, 1, 0] rfl) hf
          · replace hf := (if_pos hc).symm.trans hf
            refine lv_iload_n hx hb dX10_faultOf_97 rfl (lv_at hl 3 rfl) ?_
            obtain rfl := Option.some.inj hf
            exact fin _ _ _ _ dX10_faultOf_98 hP hD hS
        refine lv_if_ne (tgt := 44) hx hb dX10_faultOf_20 (by decide) (fun hc => ?_) (fun hc => ?_)
        · replace hf := (if_neg hc).symm.trans hf
          refine lv_iload_n hx hb dX10_faultOf_44 rfl (lv_at hl 2 rfl) ?_
          refine lv_iconst (v := 2) hx hb dX10_faultOf_45 (by decide) ?_
          refine lv_icmp_ne (tgt := 56) hx hb dX10_faultOf_46 (by decide) (fun hc => ?_) (fun hc => ?_)
          · replace hf := (if_neg hc).symm.trans hf
            refine lv_iload_n hx hb dX10_faultOf_56 rfl (lv_at hl 0 rfl) ?_
            refine lv_bipush (v := 97) hx hb dX10_faultOf_57 (by decide) ?_
            refine lv_bipush (v := 108) hx hb dX10_faultOf_59 (by decide) ?_
            obtain ⟨x61, hx61, hf⟩ := bd_if hf
            refine cs_i (wr := [(a_t, .inr (10, [.ref a_t_roads, .int t_homes, .int t_there, .ref a_t_book, .ref a_t_now, .int t_meetings, .ref a_t_meeting, .int t_sights, .ref a_t_sight, .int t_signs, .ref a_t_pad, .int t_touched, .int t_firstTouch, .int t_reason, .int t_acts, .ref a_t_apart, .ref a_t_rounds, .ref a_t_fewest, .ref a_t_nextFewest, .ref a_t_ways, .ref a_t_nextWays, .ref a_t_counts, .ref a_t_image, .ref a_t_isKept])), (a_t_pad, .inl (cI, 60, .inl t_pad))]) (ws' := [(a_t, .inr (10, [.ref a_t_roads, .int t_homes, .int t_there, .ref a_t_book, .ref a_t_now, .int t_meetings, .ref a_t_meeting, .int t_sights, .ref a_t_sight, .int t_signs, .ref a_t_pad, .int t_touched, .int t_firstTouch, .int t_reason, .int t_acts, .ref a_t_apart, .ref a_t_rounds, .ref a_t_fewest, .ref a_t_nextFewest, .ref a_t_ways, .ref a_t_nextWays, .ref a_t_counts, .ref a_t_image, .ref a_t_isKept])), (a_t_pad, .inl (cI, 60, .inl t_pad))]) ⟨hx, hb, hml, hown, hts⟩ hcw57 hK hN hP hD hS hA (c_X10_in l D cI cJ cZ cO _ (t_pad l4v2.toNatClampNeg) (97 : Int32) (108 : Int32) x61 hx61) [] [0, 1] [0, 1] rfl rfl rfl rfl (by decide) rfl rfl rfl hl.1 rfl (Nat.le_of_ble_eq_true rfl) dX10_faultOf_61 ⟨Nat.zero_le _, Nat.zero_le _⟩ (fun H locs hP hD hS => ?_)
            refine lv_if_ne (tgt := 85) hx hb dX10_faultOf_64 (by decide) (fun hc => ?_) (fun hc => ?_)
            · replace hf := (if_neg hc).symm.trans hf
              refine lv_iconst (v := 1) hx hb dX10_faultOf_85 (by decide) ?_
              refine lv_goto (tgt := 90) hx hb dX10_faultOf_86 (by decide) ?_
              exact hB90 (t_pad l4v2.toNatClampNeg) (1 : Int32) _ _ _ hP hD hS (lv_sub hl [1, 2, 3, 0] rfl) hf
            · replace hf := (if_pos hc).symm.trans hf
              refine lv_iload_n hx hb dX10_faultOf_67 rfl (lv_at hl 0 rfl) ?_
              refine lv_bipush (v := 62) hx hb dX10_faultOf_68 (by decide) ?_
              refine lv_icmp_eq (tgt := 85) hx hb dX10_faultOf_70 (by decide) (fun hc => ?_) (fun hc => ?_)
              · replace hf := (if_pos hc).symm.trans hf
                refine lv_iconst (v := 1) hx hb dX10_faultOf_85 (by decide) ?_
                refine lv_goto (tgt := 90) hx hb dX10_faultOf_86 (by decide) ?_
                exact hB90 (t_pad l4v2.toNatClampNeg) (1 : Int32) _ _ _ hP hD hS (lv_sub hl [1, 2, 3, 0] rfl) hf
              · replace hf := (if_neg hc).symm.trans hf
                refine lv_iload_n hx hb dX10_faultOf_73 rfl (lv_at hl 0 rfl) ?_
                refine lv_bipush (v := 43) hx hb dX10_faultOf_74 (by decide) ?_
                refine lv_icmp_eq (tgt := 85) hx hb dX10_faultOf_76 (by decide) (fun hc => ?_) (fun hc => ?_)
                · replace hf := (if_pos hc).symm.trans hf
                  refine lv_iconst (v := 1) hx hb dX10_faultOf_85 (by decide) ?_
                  refine lv_goto (tgt := 90) hx hb dX10_faultOf_86 (by decide) ?_
                  exact hB90 (t_pad l4v2.toNatClampNeg) (1 : Int32) _ _ _ hP hD hS (lv_sub hl [1, 2, 3, 0] rfl) hf
                · replace hf := (if_neg hc).symm.trans hf
                  refine lv_iload_n hx hb dX10_faultOf_79 rfl (lv_at hl 0 rfl) ?_
                  refine lv_bipush (v := 42) hx hb dX10_faultOf_80 (by decide) ?_
                  refine lv_icmp_ne (tgt := 89) hx hb dX10_faultOf_82 (by decide) (fun hc => ?_) (fun hc => ?_)
                  · replace hf := (if_neg hc).symm.trans hf
                    refine lv_iconst (v := 0) hx hb dX10_faultOf_89 (by decide) ?_
                    exact hB90 (t_pad l4v2.toNatClampNeg) (0 : Int32) _ _ _ hP hD hS (lv_sub hl [1, 2, 3, 0] rfl) hf
                  · replace hf := (if_pos hc).symm.trans hf
                    refine lv_iconst (v := 1) hx hb dX10_faultOf_85 (by decide) ?_
                    refine lv_goto (tgt := 90) hx hb dX10_faultOf_86 (by decide) ?_
                    exact hB90 (t_pad l4v2.toNatClampNeg) (1 : Int32) _ _ _ hP hD hS (lv_sub hl [1, 2, 3, 0] rfl) hf
          · replace hf := (if_pos hc).symm.trans hf
            refine lv_iload_n hx hb dX10_faultOf_49 rfl (lv_at hl 0 rfl) ?_
            obtain ⟨x50, hx50, hf⟩ := bd_if hf
            refine cs_i (wr := [(a_t, .inr (10, [.ref a_t_roads, .int t_homes, .int t_there, .ref a_t_book, .ref a_t_now, .int t_meetings, .ref a_t_meeting, .int t_sights, .ref a_t_sight, .int t_signs, .ref a_t_pad, .int t_touched, .int t_firstTouch, .int t_reason, .int t_acts, .ref a_t_apart, .ref a_t_rounds, .ref a_t_fewest, .ref a_t_nextFewest, .ref a_t_ways, .ref a_t_nextWays, .ref a_t_counts, .ref a_t_image, .ref a_t_isKept])), (a_t_pad, .inl (cI, 60, .inl t_pad))]) (ws' := [(a_t, .inr (10, [.ref a_t_roads, .int t_homes, .int t_there, .ref a_t_book, .ref a_t_now, .int t_meetings, .ref a_t_meeting, .int t_sights, .ref a_t_sight, .int t_signs, .ref a_t_pad, .int t_touched, .int t_firstTouch, .int t_reason, .int t_acts, .ref a_t_apart, .ref a_t_rounds, .ref a_t_fewest, .ref a_t_nextFewest, .ref a_t_ways, .ref a_t_nextWays, .ref a_t_counts, .ref a_t_image, .ref a_t_isKept])), (a_t_pad, .inl (cI, 60, .inl t_pad))]) ⟨hx, hb, hml, hown, hts⟩ hcw89 hK hN hP hD hS hA (c_X10_isLetter l D cI cJ cZ cO _ (t_pad l4v2.toNatClampNeg) x50 hx50) [] [0, 1] [0, 1] rfl rfl rfl rfl (by decide) rfl rfl rfl hl.1 rfl (Nat.le_of_ble_eq_true rfl) dX10_faultOf_50 ⟨Nat.zero_le _, Nat.zero_le _⟩ (fun H locs hP hD hS => ?_)
            refine lv_goto (tgt := 90) hx hb dX10_faultOf_53 (by decide) ?_
            exact hB90 (t_pad l4v2.toNatClampNeg) x50 _ _ _ hP hD hS (lv_sub hl [1, 2, 3, 0] rfl) hf
        · replace hf := (if_pos hc).symm.trans hf
          refine lv_iload_n hx hb dX10_faultOf_23 rfl (lv_at hl 0 rfl) ?_
          obtain ⟨x24, hx24, hf⟩ := bd_if hf
          refine cs_i (wr := [(a_t, .inr (10, [.ref a_t_roads, .int t_homes, .int t_there, .ref a_t_book, .ref a_t_now, .int t_meetings, .ref a_t_meeting, .int t_sights, .ref a_t_sight, .int t_signs, .ref a_t_pad, .int t_touched, .int t_firstTouch, .int t_reason, .int t_acts, .ref a_t_apart, .ref a_t_rounds, .ref a_t_fewest, .ref a_t_nextFewest, .ref a_t_ways, .ref a_t_nextWays, .ref a_t_counts, .ref a_t_image, .ref a_t_isKept])), (a_t_pad, .inl (cI, 60, .inl t_pad))]) (ws' := [(a_t, .inr (10, [.ref a_t_roads, .int t_homes, .int t_there, .ref a_t_book, .ref a_t_now, .int t_meetings, .ref a_t_meeting, .int t_sights, .ref a_t_sight, .int t_signs, .ref a_t_pad, .int t_touched, .int t_firstTouch, .int t_reason, .int t_acts, .ref a_t_apart, .ref a_t_rounds, .ref a_t_fewest, .ref a_t_nextFewest, .ref a_t_ways, .ref a_t_nextWays, .ref a_t_counts, .ref a_t_image, .ref a_t_isKept])), (a_t_pad, .inl (cI, 60, .inl t_pad))]) ⟨hx, hb, hml, hown, hts⟩ hcw89 hK hN hP hD hS hA (c_X10_isLetter l D cI cJ cZ cO _ (t_pad l4v2.toNatClampNeg) x24 hx24) [] [0, 1] [0, 1] rfl rfl rfl rfl (by decide) rfl rfl rfl hl.1 rfl (Nat.le_of_ble_eq_true rfl) dX10_faultOf_24 ⟨Nat.zero_le _, Nat.zero_le _⟩ (fun H locs hP hD hS => ?_)
          refine lv_if_ne (tgt := 36) hx hb dX10_faultOf_27 (by decide) (fun hc => ?_) (fun hc => ?_)
          · replace hf := (if_neg hc).symm.trans hf
            refine lv_iconst (v := 1) hx hb dX10_faultOf_36 (by decide) ?_
            refine lv_goto (tgt := 90) hx hb dX10_faultOf_37 (by decide) ?_
            exact hB90 (t_pad l4v2.toNatClampNeg) (1 : Int32) _ _ _ hP hD hS (lv_sub hl [1, 2, 3, 0] rfl) hf
          · replace hf := (if_pos hc).symm.trans hf
            refine lv_iload_n hx hb dX10_faultOf_30 rfl (lv_at hl 0 rfl) ?_
            refine lv_bipush (v := 46) hx hb dX10_faultOf_31 (by decide) ?_
            refine lv_icmp_ne (tgt := 40) hx hb dX10_faultOf_33 (by decide) (fun hc => ?_) (fun hc => ?_)
            · replace hf := (if_neg hc).symm.trans hf
              refine lv_iconst (v := 0) hx hb dX10_faultOf_40 (by decide) ?_
              refine lv_goto (tgt := 90) hx hb dX10_faultOf_41 (by decide) ?_
              exact hB90 (t_pad l4v2.toNatClampNeg) (0 : Int32) _ _ _ hP hD hS (lv_sub hl [1, 2, 3, 0] rfl) hf
            · replace hf := (if_pos hc).symm.trans hf
              refine lv_iconst (v := 1) hx hb dX10_faultOf_36 (by decide) ?_
              refine lv_goto (tgt := 90) hx hb dX10_faultOf_37 (by decide) ?_
              exact hB90 (t_pad l4v2.toNatClampNeg) (1 : Int32) _ _ _ hP hD hS (lv_sub hl [1, 2, 3, 0] rfl) hf
  exact hL4 5000 (0 : Int32) (0 : Int32) _ _ _ hP hD hS (lv_sub hl [2, 1, 0] rfl) hf
abbrev rm_X10_fault : Room := { frames := 3, cells := 0, slots := 0, locals := 66 }
set_option maxHeartbeats 4000000 in
set_option maxRecDepth 100000 in
theorem c_X10_fault (l : Launch) (D : va_G) (cI cJ cZ cO : ClassId) (sz : Nat) (a_t : Nat) (a_t_roads : Nat) (a_t_book : Nat) (a_t_now : Nat) (a_t_meeting : Nat) (a_t_sight : Nat) (a_t_pad : Nat) (a_t_apart : Nat) (a_t_rounds : Nat) (a_t_fewest : Nat) (a_t_nextFewest : Nat) (a_t_ways : Nat) (a_t_nextWays : Nat) (a_t_counts : Nat) (a_t_image : Nat) (a_t_isKept : Nat) (t_homes : Int32) (t_there : Int32) (t_meetings : Int32) (t_sights : Int32) (t_signs : Int32) (t_touched : Int32) (t_firstTouch : Int32) (t_reason : Int32) (t_acts : Int32) (t_pad : Nat → Int32) (res : Int32) (hf : f_X10_fault t_signs t_pad = some res) : MetI l yX10_fault wsX10_fault rm_X10_fault [.ref a_t] D (tys4 cI cJ cZ cO) [(a_t, .inr (10, [.ref a_t_roads, .int t_homes, .int t_there, .ref a_t_book, .ref a_t_now, .int t_meetings, .ref a_t_meeting, .int t_sights, .ref a_t_sight, .int t_signs, .ref a_t_pad, .int t_touched, .int t_firstTouch, .int t_reason, .int t_acts, .ref a_t_apart, .ref a_t_rounds, .ref a_t_fewest, .ref a_t_nextFewest, .ref a_t_ways, .ref a_t_nextWays, .ref a_t_counts, .ref a_t_image, .ref a_t_isKept])), (a_t_pad, .inl (cI, 60, .inl t_pad))] sz res [(a_t, .inr (10, [.ref a_t_roads, .int t_homes, .int t_there, .ref a_t_book, .ref a_t_now, .int t_meetings, .ref a_t_meeting, .int t_sights, .ref a_t_sight, .int t_signs, .ref a_t_pad, .int t_touched, .int t_firstTouch, .int t_reason, .int t_acts, .ref a_t_apart, .ref a_t_rounds, .ref a_t_fewest, .ref a_t_nextFewest, .ref a_t_ways, .ref a_t_nextWays, .ref a_t_counts, .ref a_t_image, .ref a_t_isKept])), (a_t_pad, .inl (cI, 60, .inl t_pad))] := by
  refine met_i (cc := cX10_fault) (maxL := 1) (by decide) rfl (Nat.le_of_ble_eq_true rfl) ?_
  intro p e s m args below meth c Q A hx hb hml hown hts hK hN hA fin H locs ls hP hD hS hl
  replace hown : s.vm.findClass RX10 = some m.cls := hown
  replace hl : lv_has ls 1 [(0, .ref a_t)] := hl
  rw [f_X10_fault] at hf
  have hcw92 := cwV (R := rm_X10_fault) (rm := rm_X10_faultOf) 0 hts gX10_fault_X10_faultOf rfl rfl rfl (by decide +kernel) ⟨Nat.le_of_ble_eq_true rfl, Nat.le_of_ble_eq_true rfl⟩
  refine lv_aload_n hx hb dX10_fault_0 rfl (lv_at hl 0 rfl) ?_
  obtain ⟨x1, hx1, hf⟩ := bd_if hf
  refine cv_i (wr := []) (ws' := [(a_t, .inr (10, [.ref a_t_roads, .int t_homes, .int t_there, .ref a_t_book, .ref a_t_now, .int t_meetings, .ref a_t_meeting, .int t_sights, .ref a_t_sight, .int t_signs, .ref a_t_pad, .int t_touched, .int t_firstTouch, .int t_reason, .int t_acts, .ref a_t_apart, .ref a_t_rounds, .ref a_t_fewest, .ref a_t_nextFewest, .ref a_t_ways, .ref a_t_nextWays, .ref a_t_counts, .ref a_t_image, .ref a_t_isKept])), (a_t_pad, .inl (cI, 60, .inl t_pad))]) ⟨hx, hb, hml, hown, hts⟩ hcw92 hK hN hP hD hS hA (c_X10_faultOf l D cI cJ cZ cO _ a_t a_t_roads a_t_book a_t_now a_t_meeting a_t_sight a_t_pad a_t_apart a_t_rounds a_t_fewest a_t_nextFewest a_t_ways a_t_nextWays a_t_counts a_t_image a_t_isKept t_homes t_there t_meetings t_sights t_signs t_touched t_firstTouch t_reason t_acts t_pad x1 hx1) (q := (RX10, TX10, 24)) (ci := 10) (q0 := 0) rfl rfl [0, 1] [] [0, 1] rfl rfl rfl rfl (by decide) rfl rfl rfl hl.1 rfl (Nat.le_of_ble_eq_true rfl) dX10_fault_1 ⟨Nat.zero_le _, Nat.zero_le _⟩ (fun H locs hP hD hS => ?_)
  obtain rfl := Option.some.inj hf
  exact fin _ _ _ _ dX10_fault_4 hP hD hS
abbrev rm_X10_asNow : Room := { frames := 0, cells := 0, slots := 0, locals := 0 }
theorem ms_X10_asNow_X10 : ∀ w ∈ u_ws RX10 TX10 24, w ∈ wsX10_asNow := fun w h => List.mem_cons_of_mem _ (List.mem_append_right _ (h))
set_option maxHeartbeats 4000000 in
set_option maxRecDepth 100000 in
theorem c_X10_asNow (l : Launch) (D : va_G) (cI cJ cZ cO : ClassId) (sz : Nat) (a_t : Nat) (a_t_roads : Nat) (a_t_book : Nat) (a_t_now : Nat) (a_t_meeting : Nat) (a_t_sight : Nat) (a_t_pad : Nat) (a_t_apart : Nat) (a_t_rounds : Nat) (a_t_fewest : Nat) (a_t_nextFewest : Nat) (a_t_ways : Nat) (a_t_nextWays : Nat) (a_t_counts : Nat) (a_t_image : Nat) (a_t_isKept : Nat) (t_homes : Int32) (t_there : Int32) (t_meetings : Int32) (t_sights : Int32) (t_signs : Int32) (t_touched : Int32) (t_firstTouch : Int32) (t_reason : Int32) (t_acts : Int32) (t_book : Nat → Int32) (t_now : Nat → Int32) (res : Int32 × Int32 × (Nat → Int32)) (hf : f_X10_asNow t_touched t_firstTouch t_book t_now = some res) : MetV l yX10_asNow wsX10_asNow rm_X10_asNow [.ref a_t] D (tys4 cI cJ cZ cO) [(a_t, .inr (10, [.ref a_t_roads, .int t_homes, .int t_there, .ref a_t_book, .ref a_t_now, .int t_meetings, .ref a_t_meeting, .int t_sights, .ref a_t_sight, .int t_signs, .ref a_t_pad, .int t_touched, .int t_firstTouch, .int t_reason, .int t_acts, .ref a_t_apart, .ref a_t_rounds, .ref a_t_fewest, .ref a_t_nextFewest, .ref a_t_ways, .ref a_t_nextWays, .ref a_t_counts, .ref a_t_image, .ref a_t_isKept])), (a_t_book, .inl (cI, 25, .inl t_book)), (a_t_now, .inl (cI, 25, .inl t_now))] sz [(a_t, .inr (10, [.ref a_t_roads, .int t_homes, .int t_there, .ref a_t_book, .ref a_t_now, .int t_meetings, .ref a_t_meeting, .int t_sights, .ref a_t_sight, .int t_signs, .ref a_t_pad, .int res.1, .int res.2.1, .int t_reason, .int t_acts, .ref a_t_apart, .ref a_t_rounds, .ref a_t_fewest, .ref a_t_nextFewest, .ref a_t_ways, .ref a_t_nextWays, .ref a_t_counts, .ref a_t_image, .ref a_t_isKept])), (a_t_book, .inl (cI, 25, .inl t_book)), (a_t_now, .inl (cI, 25, .inl res.2.2))] := by
  refine met_v (cc := cX10_asNow) (maxL := 2) (by decide) rfl (Nat.le_of_ble_eq_true rfl) ?_
  intro p e s m args below meth c Q A hx hb hml hown hts hK hN hA fin H locs ls hP hD hS hl
  replace hown : s.vm.findClass RX10 = some m.cls := hown
  replace hl : lv_has ls 2 [(0, .ref a_t)] := hl
  rw [f_X10_asNow] at hf
  have hw96 := hts (.fieldLink RX10 96 "TouchReignModel" "touched" "I") (by decide +kernel)
  have hmsX10 := ms_X10_asNow_X10
  have hw99 := hts (.fieldLink RX10 99 "TouchReignModel" "firstTouch" "I") (by decide +kernel)
  have hw16 := hts (.fieldLink RX10 16 "TouchReignModel" "now" "[I") (by decide +kernel)
  have hw13 := hts (.fieldLink RX10 13 "TouchReignModel" "book" "[I") (by decide +kernel)
  refine lv_iconst (v := 0) hx hb dX10_asNow_0 (by decide) ?_
  refine lv_istore_n (lv' := [(1, .int (0 : Int32)), (0, .ref a_t)]) hx hb dX10_asNow_1 rfl hl (by decide) rfl (fun ls hl => ?_)
  have hX2 : ∀ (x2t_now : Nat → Int32) (H : Heap) (locs : List Loc) (ls : Array Slot), va_P D vwCl [(a_t, .inr (10, [.ref a_t_roads, .int t_homes, .int t_there, .ref a_t_book, .ref a_t_now, .int t_meetings, .ref a_t_meeting, .int t_sights, .ref a_t_sight, .int t_signs, .ref a_t_pad, .int t_touched, .int t_firstTouch, .int t_reason, .int t_acts, .ref a_t_apart, .ref a_t_rounds, .ref a_t_fewest, .ref a_t_nextFewest, .ref a_t_ways, .ref a_t_nextWays, .ref a_t_counts, .ref a_t_image, .ref a_t_isKept])), (a_t_book, .inl (cI, 25, .inl t_book)), (a_t_now, .inl (cI, 25, .inl x2t_now))] H → va_D A [(a_t, .inr (10, [.ref a_t_roads, .int t_homes, .int t_there, .ref a_t_book, .ref a_t_now, .int t_meetings, .ref a_t_meeting, .int t_sights, .ref a_t_sight, .int t_signs, .ref a_t_pad, .int t_touched, .int t_firstTouch, .int t_reason, .int t_acts, .ref a_t_apart, .ref a_t_rounds, .ref a_t_fewest, .ref a_t_nextFewest, .ref a_t_ways, .ref a_t_nextWays, .ref a_t_counts, .ref a_t_image, .ref a_t_isKept])), (a_t_book, .inl (cI, 25, .inl t_book)), (a_t_now, .inl (cI, 25, .inl x2t_now))] → va_S A s.heap H locs → lv_has ls 2 [(0, .ref a_t)] → f_X10_asNow_X2 x2t_now = some res → W p l e rm_X10_asNow s m args below meth c H locs 0 0 Q (F0 m 26 ls []) := by
    intro x2t_now H locs ls hP hD hS hl hf
    rw [f_X10_asNow_X2] at hf
    refine lv_aload_n hx hb dX10_asNow_26 rfl (lv_at hl 0 rfl) ?_
    refine lv_iconst (v := 0) hx hb dX10_asNow_27 (by decide) ?_
    refine va_put (D := D) (ci := 10) (v := .int (0 : Int32)) (ty := .int) (C := RX10) (T := TX10) (N := 24) hx hb hts hmsX10 tyX10 tyX10_ok nmX10 hown hK hP hD hS 0 rfl rfl 11 (by decide) hw96 (fun _ h9 => h9) rfl (by decide +kernel) rfl rfl (Nat.le_of_ble_eq_true rfl) dX10_asNow_28 (fun H locs hP hD hS => ?_)
    replace hP : va_P D vwCl [(a_t, .inr (10, [.ref a_t_roads, .int t_homes, .int t_there, .ref a_t_book, .ref a_t_now, .int t_meetings, .ref a_t_meeting, .int t_sights, .ref a_t_sight, .int t_signs, .ref a_t_pad, .int (0 : Int32), .int t_firstTouch, .int t_reason, .int t_acts, .ref a_t_apart, .ref a_t_rounds, .ref a_t_fewest, .ref a_t_nextFewest, .ref a_t_ways, .ref a_t_nextWays, .ref a_t_counts, .ref a_t_image, .ref a_t_isKept])), (a_t_book, .inl (cI, 25, .inl t_book)), (a_t_now, .inl (cI, 25, .inl x2t_now))] H := hP
    replace hD : va_D A [(a_t, .inr (10, [.ref a_t_roads, .int t_homes, .int t_there, .ref a_t_book, .ref a_t_now, .int t_meetings, .ref a_t_meeting, .int t_sights, .ref a_t_sight, .int t_signs, .ref a_t_pad, .int (0 : Int32), .int t_firstTouch, .int t_reason, .int t_acts, .ref a_t_apart, .ref a_t_rounds, .ref a_t_fewest, .ref a_t_nextFewest, .ref a_t_ways, .ref a_t_nextWays, .ref a_t_counts, .ref a_t_image, .ref a_t_isKept])), (a_t_book, .inl (cI, 25, .inl t_book)), (a_t_now, .inl (cI, 25, .inl x2t_now))] := hD
    refine lv_aload_n hx hb dX10_asNow_31 rfl (lv_at hl 0 rfl) ?_
    refine lv_bipush (v := -6) hx hb dX10_asNow_32 (by decide) ?_
    refine va_put (D := D) (ci := 10) (v := .int (-6 : Int32)) (ty := .int) (C := RX10) (T := TX10) (N := 24) hx hb hts hmsX10 tyX10 tyX10_ok nmX10 hown hK hP hD hS 0 rfl rfl 12 (by decide) hw99 (fun _ h9 => h9) rfl (by decide +kernel) rfl rfl (Nat.le_of_ble_eq_true rfl) dX10_asNow_34 (fun H locs hP hD hS => ?_)
    replace hP : va_P D vwCl [(a_t, .inr (10, [.ref a_t_roads, .int t_homes, .int t_there, .ref a_t_book, .ref a_t_now, .int t_meetings, .ref a_t_meeting, .int t_sights, .ref a_t_sight, .int t_signs, .ref a_t_pad, .int (0 : Int32), .int (-6 : Int32), .int t_reason, .int t_acts, .ref a_t_apart, .ref a_t_rounds, .ref a_t_fewest, .ref a_t_nextFewest, .ref a_t_ways, .ref a_t_nextWays, .ref a_t_counts, .ref a_t_image, .ref a_t_isKept])), (a_t_book, .inl (cI, 25, .inl t_book)), (a_t_now, .inl (cI, 25, .inl x2t_now))] H := hP
    replace hD : va_D A [(a_t, .inr (10, [.ref a_t_roads, .int t_homes, .int t_there, .ref a_t_book, .ref a_t_now, .int t_meetings, .ref a_t_meeting, .int t_sights, .ref a_t_sight, .int t_signs, .ref a_t_pad, .int (0 : Int32), .int (-6 : Int32), .int t_reason, .int t_acts, .ref a_t_apart, .ref a_t_rounds, .ref a_t_fewest, .ref a_t_nextFewest, .ref a_t_ways, .ref a_t_nextWays, .ref a_t_counts, .ref a_t_image, .ref a_t_isKept])), (a_t_book, .inl (cI, 25, .inl t_book)), (a_t_now, .inl (cI, 25, .inl x2t_now))] := hD
    obtain rfl := Option.some.inj hf
    exact fin _ _ _ _ dX10_asNow_37 hP hD hS
  have hL2 : ∀ (n2 : Nat), ∀ (l2v1 : Int32) (l2t_now : Nat → Int32) (H : Heap) (locs : List Loc) (ls : Array Slot), va_P D vwCl [(a_t, .inr (10, [.ref a_t_roads, .int t_homes, .int t_there, .ref a_t_book, .ref a_t_now, .int t_meetings, .ref a_t_meeting, .int t_sights, .ref a_t_sight, .int t_signs, .ref a_t_pad, .int t_touched, .int t_firstTouch, .int t_reason, .int t_acts, .ref a_t_apart, .ref a_t_rounds, .ref a_t_fewest, .ref a_t_nextFewest, .ref a_t_ways, .ref a_t_nextWays, .ref a_t_counts, .ref a_t_image, .ref a_t_isKept])), (a_t_book, .inl (cI, 25, .inl t_book)), (a_t_now, .inl (cI, 25, .inl l2t_now))] H → va_D A [(a_t, .inr (10, [.ref a_t_roads, .int t_homes, .int t_there, .ref a_t_book, .ref a_t_now, .int t_meetings, .ref a_t_meeting, .int t_sights, .ref a_t_sight, .int t_signs, .ref a_t_pad, .int t_touched, .int t_firstTouch, .int t_reason, .int t_acts, .ref a_t_apart, .ref a_t_rounds, .ref a_t_fewest, .ref a_t_nextFewest, .ref a_t_ways, .ref a_t_nextWays, .ref a_t_counts, .ref a_t_image, .ref a_t_isKept])), (a_t_book, .inl (cI, 25, .inl t_book)), (a_t_now, .inl (cI, 25, .inl l2t_now))] → va_S A s.heap H locs → lv_has ls 2 [(0, .ref a_t), (1, .int l2v1)] → f_X10_asNow_L2 t_book f_X10_asNow_X2 n2 l2v1 l2t_now = some res → W p l e rm_X10_asNow s m args below meth c H locs 0 0 Q (F0 m 2 ls []) := by
    intro n2
    induction n2 with
    | zero =>
      intro l2v1 l2t_now H locs ls hP hD hS hl hf
      rw [f_X10_asNow_L2] at hf
      cases hf
    | succ n2 ih2 =>
      intro l2v1 l2t_now H locs ls hP hD hS hl hf
      rw [f_X10_asNow_L2] at hf
      refine lv_iload_n hx hb dX10_asNow_2 rfl (lv_at hl 1 rfl) ?_
      refine lv_bipush (v := 25) hx hb dX10_asNow_3 (by decide) ?_
      refine lv_icmp_ge (tgt := 26) hx hb dX10_asNow_5 (by decide) (fun hc => ?_) (fun hc => ?_)
      · replace hf := (if_pos hc).symm.trans hf
        exact hX2 l2t_now _ _ _ hP hD hS (lv_sub hl [0] rfl) hf
      · replace hf := (if_neg hc).symm.trans hf
        refine lv_aload_n hx hb dX10_asNow_8 rfl (lv_at hl 0 rfl) ?_
        refine va_get (D := D) (ci := 10) (v := .ref a_t_now) (C := RX10) (T := TX10) (N := 24) hx hb hts hmsX10 hown hK hP 0 rfl rfl 4 (by decide) hw16 (fun _ h9 => h9) rfl dX10_asNow_9 ?_
        refine lv_iload_n hx hb dX10_asNow_12 rfl (lv_at hl 1 rfl) ?_
        refine lv_aload_n hx hb dX10_asNow_13 rfl (lv_at hl 0 rfl) ?_
        refine va_get (D := D) (ci := 10) (v := .ref a_t_book) (C := RX10) (T := TX10) (N := 24) hx hb hts hmsX10 hown hK hP 0 rfl rfl 3 (by decide) hw13 (fun _ h9 => h9) rfl dX10_asNow_14 ?_
        refine lv_iload_n hx hb dX10_asNow_17 rfl (lv_at hl 1 rfl) ?_
        obtain ⟨hi18, hf⟩ := ix_if hf
        refine va_iald (D := D) hx hb hK hP 1 0 rfl rfl hi18 dX10_asNow_18 ?_
        refine va_iast (D := D) hx hb hK hP hD hS 2 0 rfl rfl hi18 dX10_asNow_19 (fun H locs hP hD hS => ?_)
        replace hP : va_P D vwCl [(a_t, .inr (10, [.ref a_t_roads, .int t_homes, .int t_there, .ref a_t_book, .ref a_t_now, .int t_meetings, .ref a_t_meeting, .int t_sights, .ref a_t_sight, .int t_signs, .ref a_t_pad, .int t_touched, .int t_firstTouch, .int t_reason, .int t_acts, .ref a_t_apart, .ref a_t_rounds, .ref a_t_fewest, .ref a_t_nextFewest, .ref a_t_ways, .ref a_t_nextWays, .ref a_t_counts, .ref a_t_image, .ref a_t_isKept])), (a_t_book, .inl (cI, 25, .inl t_book)), (a_t_now, .inl (cI, 25, .inl (upd l2t_now l2v1.toNatClampNeg (t_book l2v1.toNatClampNeg))))] H := hP
        replace hD : va_D A [(a_t, .inr (10, [.ref a_t_roads, .int t_homes, .int t_there, .ref a_t_book, .ref a_t_now, .int t_meetings, .ref a_t_meeting, .int t_sights, .ref a_t_sight, .int t_signs, .ref a_t_pad, .int t_touched, .int t_firstTouch, .int t_reason, .int t_acts, .ref a_t_apart, .ref a_t_rounds, .ref a_t_fewest, .ref a_t_nextFewest, .ref a_t_ways, .ref a_t_nextWays, .ref a_t_counts, .ref a_t_image, .ref a_t_isKept])), (a_t_book, .inl (cI, 25, .inl t_book)), (a_t_now, .inl (cI, 25, .inl (upd l2t_now l2v1.toNatClampNeg (t_book l2v1.toNatClampNeg))))] := hD
        refine lv_iinc (v := l2v1 + 1) (lv' := [(1, .int (l2v1 + 1)), (0, .ref a_t)]) hx hb dX10_asNow_20 hl (k := 1) rfl rfl (by decide) rfl (fun ls hl => ?_)
        refine lv_goto (tgt := 2) hx hb dX10_asNow_23 (by decide) ?_
        exact ih2 (l2v1 + 1) (upd l2t_now l2v1.toNatClampNeg (t_book l2v1.toNatClampNeg)) _ _ _ hP hD hS (lv_sub hl [1, 0] rfl) hf
  exact hL2 5000 (0 : Int32) t_now _ _ _ hP hD hS (lv_sub hl [1, 0] rfl) hf
abbrev rm_X10_run : Room := { frames := 3, cells := 0, slots := 0, locals := 63 }
theorem ms_X10_run_X10 : ∀ w ∈ u_ws RX10 TX10 24, w ∈ wsX10_run := fun w h => List.mem_cons_of_mem _ (List.mem_append_right _ (h))
set_option maxHeartbeats 4000000 in
set_option maxRecDepth 100000 in
theorem c_X10_run (l : Launch) (D : va_G) (cI cJ cZ cO : ClassId) (sz : Nat) (a_t : Nat) (a_t_roads : Nat) (a_t_book : Nat) (a_t_now : Nat) (a_t_meeting : Nat) (a_t_sight : Nat) (a_t_pad : Nat) (a_t_apart : Nat) (a_t_rounds : Nat) (a_t_fewest : Nat) (a_t_nextFewest : Nat) (a_t_ways : Nat) (a_t_nextWays : Nat) (a_t_counts : Nat) (a_t_image : Nat) (a_t_isKept : Nat) (t_homes : Int32) (t_there : Int32) (t_meetings : Int32) (t_sights : Int32) (t_signs : Int32) (t_touched : Int32) (t_firstTouch : Int32) (t_reason : Int32) (t_acts : Int32) (t_roads : Nat → Int32) (t_now : Nat → Int32) (p1 : Int32) (p2 : Int32) (res : Int32 × (Nat → Int32)) (hf : f_X10_run t_there t_roads t_now p1 p2 = some res) : MetI l yX10_run wsX10_run rm_X10_run [.ref a_t, .int p1, .int p2] D (tys4 cI cJ cZ cO) [(a_t, .inr (10, [.ref a_t_roads, .int t_homes, .int t_there, .ref a_t_book, .ref a_t_now, .int t_meetings, .ref a_t_meeting, .int t_sights, .ref a_t_sight, .int t_signs, .ref a_t_pad, .int t_touched, .int t_firstTouch, .int t_reason, .int t_acts, .ref a_t_apart, .ref a_t_rounds, .ref a_t_fewest, .ref a_t_nextFewest, .ref a_t_ways, .ref a_t_nextWays, .ref a_t_counts, .ref a_t_image, .ref a_t_isKept])), (a_t_roads, .inl (cI, 12, .inl t_roads)), (a_t_now, .inl (cI, 25, .inl t_now))] sz res.1 [(a_t, .inr (10, [.ref a_t_roads, .int t_homes, .int t_there, .ref a_t_book, .ref a_t_now, .int t_meetings, .ref a_t_meeting, .int t_sights, .ref a_t_sight, .int t_signs, .ref a_t_pad, .int t_touched, .int t_firstTouch, .int t_reason, .int t_acts, .ref a_t_apart, .ref a_t_rounds, .ref a_t_fewest, .ref a_t_nextFewest, .ref a_t_ways, .ref a_t_nextWays, .ref a_t_counts, .ref a_t_image, .ref a_t_isKept])), (a_t_roads, .inl (cI, 12, .inl t_roads)), (a_t_now, .inl (cI, 25, .inl res.2))] := by
  refine met_i (cc := cX10_run) (maxL := 3) (by decide) rfl (Nat.le_of_ble_eq_true rfl) ?_
  intro p e s m args below meth c Q A hx hb hml hown hts hK hN hA fin H locs ls hP hD hS hl
  replace hown : s.vm.findClass RX10 = some m.cls := hown
  replace hl : lv_has ls 3 [(0, .ref a_t), (1, .int p1), (2, .int p2)] := hl
  rw [f_X10_run] at hf
  have hcw83 := cwV (R := rm_X10_run) (rm := rm_X10_isThere) 1 hts gX10_run_X10_isThere rfl rfl rfl (by decide +kernel) ⟨Nat.le_of_ble_eq_true rfl, Nat.le_of_ble_eq_true rfl⟩
  have hw7 := hts (.fieldLink RX10 7 "TouchReignModel" "roads" "[I") (by decide +kernel)
  have hmsX10 := ms_X10_run_X10
  have hw16 := hts (.fieldLink RX10 16 "TouchReignModel" "now" "[I") (by decide +kernel)
  have hcw69 := va_cwS (R := rm_X10_run) (rm := rm_X10_has) 2 hts gX10_run_X10_has rfl rfl rfl (by decide +kernel) ⟨Nat.le_of_ble_eq_true rfl, Nat.le_of_ble_eq_true rfl⟩
  refine lv_aload_n hx hb dX10_run_0 rfl (lv_at hl 0 rfl) ?_
  refine lv_iload_n hx hb dX10_run_1 rfl (lv_at hl 1 rfl) ?_
  obtain ⟨x2, hx2, hf⟩ := bd_if hf
  refine cv_i (wr := [(a_t_roads, .inl (cI, 12, .inl t_roads)), (a_t_now, .inl (cI, 25, .inl t_now))]) (ws' := [(a_t, .inr (10, [.ref a_t_roads, .int t_homes, .int t_there, .ref a_t_book, .ref a_t_now, .int t_meetings, .ref a_t_meeting, .int t_sights, .ref a_t_sight, .int t_signs, .ref a_t_pad, .int t_touched, .int t_firstTouch, .int t_reason, .int t_acts, .ref a_t_apart, .ref a_t_rounds, .ref a_t_fewest, .ref a_t_nextFewest, .ref a_t_ways, .ref a_t_nextWays, .ref a_t_counts, .ref a_t_image, .ref a_t_isKept])), (a_t_roads, .inl (cI, 12, .inl t_roads)), (a_t_now, .inl (cI, 25, .inl t_now))]) ⟨hx, hb, hml, hown, hts⟩ hcw83 hK hN hP hD hS hA (c_X10_isThere l D cI cJ cZ cO _ a_t a_t_roads a_t_book a_t_now a_t_meeting a_t_sight a_t_pad a_t_apart a_t_rounds a_t_fewest a_t_nextFewest a_t_ways a_t_nextWays a_t_counts a_t_image a_t_isKept t_homes t_there t_meetings t_sights t_signs t_touched t_firstTouch t_reason t_acts p1 x2 hx2) (q := (RX10, TX10, 24)) (ci := 10) (q0 := 0) rfl rfl [0] [1, 2] [2, 0, 1] rfl rfl rfl rfl (by decide) rfl rfl rfl hl.1 rfl (Nat.le_of_ble_eq_true rfl) dX10_run_2 ⟨Nat.zero_le _, Nat.zero_le _⟩ (fun H locs hP hD hS => ?_)
  refine lv_if_ne (tgt := 10) hx hb dX10_run_5 (by decide) (fun hc => ?_) (fun hc => ?_)
  · replace hf := (if_neg hc).symm.trans hf
    refine lv_aload_n hx hb dX10_run_10 rfl (lv_at hl 0 rfl) ?_
    refine va_get (D := D) (ci := 10) (v := .ref a_t_roads) (C := RX10) (T := TX10) (N := 24) hx hb hts hmsX10 hown hK hP 0 rfl rfl 0 (by decide) hw7 (fun _ h9 => h9) rfl dX10_run_11 ?_
    refine lv_aload_n hx hb dX10_run_14 rfl (lv_at hl 0 rfl) ?_
    refine va_get (D := D) (ci := 10) (v := .ref a_t_now) (C := RX10) (T := TX10) (N := 24) hx hb hts hmsX10 hown hK hP 0 rfl rfl 4 (by decide) hw16 (fun _ h9 => h9) rfl dX10_run_15 ?_
    refine lv_iload_n hx hb dX10_run_18 rfl (lv_at hl 1 rfl) ?_
    obtain ⟨hi19, hf⟩ := ix_if hf
    refine va_iald (D := D) hx hb hK hP 2 0 rfl rfl hi19 dX10_run_19 ?_
    obtain ⟨hi20, hf⟩ := ix_if hf
    refine va_iald (D := D) hx hb hK hP 1 0 rfl rfl hi20 dX10_run_20 ?_
    refine lv_iload_n hx hb dX10_run_21 rfl (lv_at hl 2 rfl) ?_
    obtain ⟨x22, hx22, hf⟩ := bd_if hf
    refine cs_i (wr := [(a_t, .inr (10, [.ref a_t_roads, .int t_homes, .int t_there, .ref a_t_book, .ref a_t_now, .int t_meetings, .ref a_t_meeting, .int t_sights, .ref a_t_sight, .int t_signs, .ref a_t_pad, .int t_touched, .int t_firstTouch, .int t_reason, .int t_acts, .ref a_t_apart, .ref a_t_rounds, .ref a_t_fewest, .ref a_t_nextFewest, .ref a_t_ways, .ref a_t_nextWays, .ref a_t_counts, .ref a_t_image, .ref a_t_isKept])), (a_t_roads, .inl (cI, 12, .inl t_roads)), (a_t_now, .inl (cI, 25, .inl t_now))]) (ws' := [(a_t, .inr (10, [.ref a_t_roads, .int t_homes, .int t_there, .ref a_t_book, .ref a_t_now, .int t_meetings, .ref a_t_meeting, .int t_sights, .ref a_t_sight, .int t_signs, .ref a_t_pad, .int t_touched, .int t_firstTouch, .int t_reason, .int t_acts, .ref a_t_apart, .ref a_t_rounds, .ref a_t_fewest, .ref a_t_nextFewest, .ref a_t_ways, .ref a_t_nextWays, .ref a_t_counts, .ref a_t_image, .ref a_t_isKept])), (a_t_roads, .inl (cI, 12, .inl t_roads)), (a_t_now, .inl (cI, 25, .inl t_now))]) ⟨hx, hb, hml, hown, hts⟩ hcw69 hK hN hP hD hS hA (c_X10_has l D cI cJ cZ cO _ (t_roads (t_now p1.toNatClampNeg).toNatClampNeg) p2 x22 hx22) [] [0, 1, 2] [0, 1, 2] rfl rfl rfl rfl (by decide) rfl rfl rfl hl.1 rfl (Nat.le_of_ble_eq_true rfl) dX10_run_22 ⟨Nat.zero_le _, Nat.zero_le _⟩ (fun H locs hP hD hS => ?_)
    refine lv_if_ne (tgt := 30) hx hb dX10_run_25 (by decide) (fun hc => ?_) (fun hc => ?_)
    · replace hf := (if_neg hc).symm.trans hf
      refine lv_aload_n hx hb dX10_run_30 rfl (lv_at hl 0 rfl) ?_
      refine va_get (D := D) (ci := 10) (v := .ref a_t_now) (C := RX10) (T := TX10) (N := 24) hx hb hts hmsX10 hown hK hP 0 rfl rfl 4 (by decide) hw16 (fun _ h9 => h9) rfl dX10_run_31 ?_
      refine lv_bipush (v := 7) hx hb dX10_run_34 (by decide) ?_
      refine lv_iload_n hx hb dX10_run_36 rfl (lv_at hl 1 rfl) ?_
      refine lv_iadd hx hb dX10_run_37 ?_
      obtain ⟨hi38, hf⟩ := ix_if hf
      refine va_iald (D := D) hx hb hK hP 2 0 rfl rfl hi38 dX10_run_38 ?_
      refine lv_if_ne (tgt := 44) hx hb dX10_run_39 (by decide) (fun hc => ?_) (fun hc => ?_)
      · replace hf := (if_neg hc).symm.trans hf
        refine lv_aload_n hx hb dX10_run_44 rfl (lv_at hl 0 rfl) ?_
        refine va_get (D := D) (ci := 10) (v := .ref a_t_now) (C := RX10) (T := TX10) (N := 24) hx hb hts hmsX10 hown hK hP 0 rfl rfl 4 (by decide) hw16 (fun _ h9 => h9) rfl dX10_run_45 ?_
        refine lv_bipush (v := 21) hx hb dX10_run_48 (by decide) ?_
        refine va_iald (D := D) hx hb hK hP 2 0 rfl rfl (ix_in rfl) dX10_run_50 ?_
        refine lv_iload_n hx hb dX10_run_51 rfl (lv_at hl 1 rfl) ?_
        obtain ⟨x52, hx52, hf⟩ := bd_if hf
        refine cs_i (wr := [(a_t, .inr (10, [.ref a_t_roads, .int t_homes, .int t_there, .ref a_t_book, .ref a_t_now, .int t_meetings, .ref a_t_meeting, .int t_sights, .ref a_t_sight, .int t_signs, .ref a_t_pad, .int t_touched, .int t_firstTouch, .int t_reason, .int t_acts, .ref a_t_apart, .ref a_t_rounds, .ref a_t_fewest, .ref a_t_nextFewest, .ref a_t_ways, .ref a_t_nextWays, .ref a_t_counts, .ref a_t_image, .ref a_t_isKept])), (a_t_roads, .inl (cI, 12, .inl t_roads)), (a_t_now, .inl (cI, 25, .inl t_now))]) (ws' := [(a_t, .inr (10, [.ref a_t_roads, .int t_homes, .int t_there, .ref a_t_book, .ref a_t_now, .int t_meetings, .ref a_t_meeting, .int t_sights, .ref a_t_sight, .int t_signs, .ref a_t_pad, .int t_touched, .int t_firstTouch, .int t_reason, .int t_acts, .ref a_t_apart, .ref a_t_rounds, .ref a_t_fewest, .ref a_t_nextFewest, .ref a_t_ways, .ref a_t_nextWays, .ref a_t_counts, .ref a_t_image, .ref a_t_isKept])), (a_t_roads, .inl (cI, 12, .inl t_roads)), (a_t_now, .inl (cI, 25, .inl t_now))]) ⟨hx, hb, hml, hown, hts⟩ hcw69 hK hN hP hD hS hA (c_X10_has l D cI cJ cZ cO _ (t_now (21 : Int32).toNatClampNeg) p1 x52 hx52) [] [0, 1, 2] [0, 1, 2] rfl rfl rfl rfl (by decide) rfl rfl rfl hl.1 rfl (Nat.le_of_ble_eq_true rfl) dX10_run_52 ⟨Nat.zero_le _, Nat.zero_le _⟩ (fun H locs hP hD hS => ?_)
        refine lv_if_eq (tgt := 60) hx hb dX10_run_55 (by decide) (fun hc => ?_) (fun hc => ?_)
        · replace hf := (if_pos hc).symm.trans hf
          refine lv_aload_n hx hb dX10_run_60 rfl (lv_at hl 0 rfl) ?_
          refine va_get (D := D) (ci := 10) (v := .ref a_t_now) (C := RX10) (T := TX10) (N := 24) hx hb hts hmsX10 hown hK hP 0 rfl rfl 4 (by decide) hw16 (fun _ h9 => h9) rfl dX10_run_61 ?_
          refine lv_iload_n hx hb dX10_run_64 rfl (lv_at hl 1 rfl) ?_
          refine lv_iload_n hx hb dX10_run_65 rfl (lv_at hl 2 rfl) ?_
          refine va_iast (D := D) hx hb hK hP hD hS 2 0 rfl rfl hi19 dX10_run_66 (fun H locs hP hD hS => ?_)
          replace hP : va_P D vwCl [(a_t, .inr (10, [.ref a_t_roads, .int t_homes, .int t_there, .ref a_t_book, .ref a_t_now, .int t_meetings, .ref a_t_meeting, .int t_sights, .ref a_t_sight, .int t_signs, .ref a_t_pad, .int t_touched, .int t_firstTouch, .int t_reason, .int t_acts, .ref a_t_apart, .ref a_t_rounds, .ref a_t_fewest, .ref a_t_nextFewest, .ref a_t_ways, .ref a_t_nextWays, .ref a_t_counts, .ref a_t_image, .ref a_t_isKept])), (a_t_roads, .inl (cI, 12, .inl t_roads)), (a_t_now, .inl (cI, 25, .inl (upd t_now p1.toNatClampNeg p2)))] H := hP
          replace hD : va_D A [(a_t, .inr (10, [.ref a_t_roads, .int t_homes, .int t_there, .ref a_t_book, .ref a_t_now, .int t_meetings, .ref a_t_meeting, .int t_sights, .ref a_t_sight, .int t_signs, .ref a_t_pad, .int t_touched, .int t_firstTouch, .int t_reason, .int t_acts, .ref a_t_apart, .ref a_t_rounds, .ref a_t_fewest, .ref a_t_nextFewest, .ref a_t_ways, .ref a_t_nextWays, .ref a_t_counts, .ref a_t_image, .ref a_t_isKept])), (a_t_roads, .inl (cI, 12, .inl t_roads)), (a_t_now, .inl (cI, 25, .inl (upd t_now p1.toNatClampNeg p2)))] := hD
          refine lv_aload_n hx hb dX10_run_67 rfl (lv_at hl 0 rfl) ?_
          refine va_get (D := D) (ci := 10) (v := .ref a_t_now) (C := RX10) (T := TX10) (N := 24) hx hb hts hmsX10 hown hK hP 0 rfl rfl 4 (by decide) hw16 (fun _ h9 => h9) rfl dX10_run_68 ?_
          refine lv_bipush (v := 7) hx hb dX10_run_71 (by decide) ?_
          refine lv_iload_n hx hb dX10_run_73 rfl (lv_at hl 1 rfl) ?_
          refine lv_iadd hx hb dX10_run_74 ?_
          refine lv_dup2_11 hx hb dX10_run_75 rfl rfl ?_
          refine va_iald (D := D) hx hb hK hP 2 0 rfl rfl hi38 dX10_run_76 ?_
          refine lv_iconst (v := 1) hx hb dX10_run_77 (by decide) ?_
          refine lv_isub hx hb dX10_run_78 ?_
          refine va_iast (D := D) hx hb hK hP hD hS 2 0 rfl rfl hi38 dX10_run_79 (fun H locs hP hD hS => ?_)
          replace hP : va_P D vwCl [(a_t, .inr (10, [.ref a_t_roads, .int t_homes, .int t_there, .ref a_t_book, .ref a_t_now, .int t_meetings, .ref a_t_meeting, .int t_sights, .ref a_t_sight, .int t_signs, .ref a_t_pad, .int t_touched, .int t_firstTouch, .int t_reason, .int t_acts, .ref a_t_apart, .ref a_t_rounds, .ref a_t_fewest, .ref a_t_nextFewest, .ref a_t_ways, .ref a_t_nextWays, .ref a_t_counts, .ref a_t_image, .ref a_t_isKept])), (a_t_roads, .inl (cI, 12, .inl t_roads)), (a_t_now, .inl (cI, 25, .inl (upd (upd t_now p1.toNatClampNeg p2) ((7 : Int32) + p1).toNatClampNeg (((upd t_now p1.toNatClampNeg p2) ((7 : Int32) + p1).toNatClampNeg) - (1 : Int32)))))] H := hP
          replace hD : va_D A [(a_t, .inr (10, [.ref a_t_roads, .int t_homes, .int t_there, .ref a_t_book, .ref a_t_now, .int t_meetings, .ref a_t_meeting, .int t_sights, .ref a_t_sight, .int t_signs, .ref a_t_pad, .int t_touched, .int t_firstTouch, .int t_reason, .int t_acts, .ref a_t_apart, .ref a_t_rounds, .ref a_t_fewest, .ref a_t_nextFewest, .ref a_t_ways, .ref a_t_nextWays, .ref a_t_counts, .ref a_t_image, .ref a_t_isKept])), (a_t_roads, .inl (cI, 12, .inl t_roads)), (a_t_now, .inl (cI, 25, .inl (upd (upd t_now p1.toNatClampNeg p2) ((7 : Int32) + p1).toNatClampNeg (((upd t_now p1.toNatClampNeg p2) ((7 : Int32) + p1).toNatClampNeg) - (1 : Int32)))))] := hD
          refine lv_iconst (v := 0) hx hb dX10_run_80 (by decide) ?_
          obtain rfl := Option.some.inj hf
          exact fin _ _ _ _ dX10_run_81 hP hD hS
        · replace hf := (if_neg hc).symm.trans hf
          refine lv_iconst (v := 4) hx hb dX10_run_58 (by decide) ?_
          obtain rfl := Option.some.inj hf
          exact fin _ _ _ _ dX10_run_59 hP hD hS
      · replace hf := (if_pos hc).symm.trans hf
        refine lv_iconst (v := 3) hx hb dX10_run_42 (by decide) ?_
        obtain rfl := Option.some.inj hf
        exact fin _ _ _ _ dX10_run_43 hP hD hS
    · replace hf := (if_pos hc).symm.trans hf
      refine lv_iconst (v := 2) hx hb dX10_run_28 (by decide) ?_
      obtain rfl := Option.some.inj hf
      exact fin _ _ _ _ dX10_run_29 hP hD hS
  · replace hf := (if_pos hc).symm.trans hf
    refine lv_iconst (v := 1) hx hb dX10_run_8 (by decide) ?_
    obtain rfl := Option.some.inj hf
    exact fin _ _ _ _ dX10_run_9 hP hD hS
abbrev rm_X10_touch : Room := { frames := 3, cells := 0, slots := 0, locals := 63 }
theorem ms_X10_touch_X10 : ∀ w ∈ u_ws RX10 TX10 24, w ∈ wsX10_touch := fun w h => List.mem_cons_of_mem _ (List.mem_append_right _ (h))
set_option maxHeartbeats 4000000 in
set_option maxRecDepth 100000 in
theorem c_X10_touch (l : Launch) (D : va_G) (cI cJ cZ cO : ClassId) (sz : Nat) (a_t : Nat) (a_t_roads : Nat) (a_t_book : Nat) (a_t_now : Nat) (a_t_meeting : Nat) (a_t_sight : Nat) (a_t_pad : Nat) (a_t_apart : Nat) (a_t_rounds : Nat) (a_t_fewest : Nat) (a_t_nextFewest : Nat) (a_t_ways : Nat) (a_t_nextWays : Nat) (a_t_counts : Nat) (a_t_image : Nat) (a_t_isKept : Nat) (t_homes : Int32) (t_there : Int32) (t_meetings : Int32) (t_sights : Int32) (t_signs : Int32) (t_touched : Int32) (t_firstTouch : Int32) (t_reason : Int32) (t_acts : Int32) (t_now : Nat → Int32) (p1 : Int32) (p2 : Int32) (res : Int32 × Int32 × (Nat → Int32)) (hf : f_X10_touch t_homes t_there t_touched t_now p1 p2 = some res) : MetI l yX10_touch wsX10_touch rm_X10_touch [.ref a_t, .int p1, .int p2] D (tys4 cI cJ cZ cO) [(a_t, .inr (10, [.ref a_t_roads, .int t_homes, .int t_there, .ref a_t_book, .ref a_t_now, .int t_meetings, .ref a_t_meeting, .int t_sights, .ref a_t_sight, .int t_signs, .ref a_t_pad, .int t_touched, .int t_firstTouch, .int t_reason, .int t_acts, .ref a_t_apart, .ref a_t_rounds, .ref a_t_fewest, .ref a_t_nextFewest, .ref a_t_ways, .ref a_t_nextWays, .ref a_t_counts, .ref a_t_image, .ref a_t_isKept])), (a_t_now, .inl (cI, 25, .inl t_now))] sz res.1 [(a_t, .inr (10, [.ref a_t_roads, .int t_homes, .int t_there, .ref a_t_book, .ref a_t_now, .int t_meetings, .ref a_t_meeting, .int t_sights, .ref a_t_sight, .int t_signs, .ref a_t_pad, .int res.2.1, .int t_firstTouch, .int t_reason, .int t_acts, .ref a_t_apart, .ref a_t_rounds, .ref a_t_fewest, .ref a_t_nextFewest, .ref a_t_ways, .ref a_t_nextWays, .ref a_t_counts, .ref a_t_image, .ref a_t_isKept])), (a_t_now, .inl (cI, 25, .inl res.2.2))] := by
  refine met_i (cc := cX10_touch) (maxL := 3) (by decide) rfl (Nat.le_of_ble_eq_true rfl) ?_
  intro p e s m args below meth c Q A hx hb hml hown hts hK hN hA fin H locs ls hP hD hS hl
  replace hown : s.vm.findClass RX10 = some m.cls := hown
  replace hl : lv_has ls 3 [(0, .ref a_t), (1, .int p1), (2, .int p2)] := hl
  rw [f_X10_touch] at hf
  have hcw83 := cwV (R := rm_X10_touch) (rm := rm_X10_isThere) 1 hts gX10_touch_X10_isThere rfl rfl rfl (by decide +kernel) ⟨Nat.le_of_ble_eq_true rfl, Nat.le_of_ble_eq_true rfl⟩
  have hw16 := hts (.fieldLink RX10 16 "TouchReignModel" "now" "[I") (by decide +kernel)
  have hmsX10 := ms_X10_touch_X10
  have hcw69 := va_cwS (R := rm_X10_touch) (rm := rm_X10_has) 2 hts gX10_touch_X10_has rfl rfl rfl (by decide +kernel) ⟨Nat.le_of_ble_eq_true rfl, Nat.le_of_ble_eq_true rfl⟩
  have hw80 := hts (.fieldLink RX10 80 "TouchReignModel" "homes" "I") (by decide +kernel)
  have hw96 := hts (.fieldLink RX10 96 "TouchReignModel" "touched" "I") (by decide +kernel)
  refine lv_aload_n hx hb dX10_touch_0 rfl (lv_at hl 0 rfl) ?_
  refine lv_iload_n hx hb dX10_touch_1 rfl (lv_at hl 1 rfl) ?_
  obtain ⟨x2, hx2, hf⟩ := bd_if hf
  refine cv_i (wr := [(a_t_now, .inl (cI, 25, .inl t_now))]) (ws' := [(a_t, .inr (10, [.ref a_t_roads, .int t_homes, .int t_there, .ref a_t_book, .ref a_t_now, .int t_meetings, .ref a_t_meeting, .int t_sights, .ref a_t_sight, .int t_signs, .ref a_t_pad, .int t_touched, .int t_firstTouch, .int t_reason, .int t_acts, .ref a_t_apart, .ref a_t_rounds, .ref a_t_fewest, .ref a_t_nextFewest, .ref a_t_ways, .ref a_t_nextWays, .ref a_t_counts, .ref a_t_image, .ref a_t_isKept])), (a_t_now, .inl (cI, 25, .inl t_now))]) ⟨hx, hb, hml, hown, hts⟩ hcw83 hK hN hP hD hS hA (c_X10_isThere l D cI cJ cZ cO _ a_t a_t_roads a_t_book a_t_now a_t_meeting a_t_sight a_t_pad a_t_apart a_t_rounds a_t_fewest a_t_nextFewest a_t_ways a_t_nextWays a_t_counts a_t_image a_t_isKept t_homes t_there t_meetings t_sights t_signs t_touched t_firstTouch t_reason t_acts p1 x2 hx2) (q := (RX10, TX10, 24)) (ci := 10) (q0 := 0) rfl rfl [0] [1] [1, 0] rfl rfl rfl rfl (by decide) rfl rfl rfl hl.1 rfl (Nat.le_of_ble_eq_true rfl) dX10_touch_2 ⟨Nat.zero_le _, Nat.zero_le _⟩ (fun H locs hP hD hS => ?_)
  refine lv_if_eq (tgt := 16) hx hb dX10_touch_5 (by decide) (fun hc => ?_) (fun hc => ?_)
  · replace hf := (if_pos hc).symm.trans hf
    refine lv_iconst (v := 1) hx hb dX10_touch_16 (by decide) ?_
    obtain rfl := Option.some.inj hf
    exact fin _ _ _ _ dX10_touch_17 hP hD hS
  · replace hf := (if_neg hc).symm.trans hf
    refine lv_aload_n hx hb dX10_touch_8 rfl (lv_at hl 0 rfl) ?_
    refine lv_iload_n hx hb dX10_touch_9 rfl (lv_at hl 2 rfl) ?_
    obtain ⟨x10, hx10, hf⟩ := bd_if hf
    refine cv_i (wr := [(a_t_now, .inl (cI, 25, .inl t_now))]) (ws' := [(a_t, .inr (10, [.ref a_t_roads, .int t_homes, .int t_there, .ref a_t_book, .ref a_t_now, .int t_meetings, .ref a_t_meeting, .int t_sights, .ref a_t_sight, .int t_signs, .ref a_t_pad, .int t_touched, .int t_firstTouch, .int t_reason, .int t_acts, .ref a_t_apart, .ref a_t_rounds, .ref a_t_fewest, .ref a_t_nextFewest, .ref a_t_ways, .ref a_t_nextWays, .ref a_t_counts, .ref a_t_image, .ref a_t_isKept])), (a_t_now, .inl (cI, 25, .inl t_now))]) ⟨hx, hb, hml, hown, hts⟩ hcw83 hK hN hP hD hS hA (c_X10_isThere l D cI cJ cZ cO _ a_t a_t_roads a_t_book a_t_now a_t_meeting a_t_sight a_t_pad a_t_apart a_t_rounds a_t_fewest a_t_nextFewest a_t_ways a_t_nextWays a_t_counts a_t_image a_t_isKept t_homes t_there t_meetings t_sights t_signs t_touched t_firstTouch t_reason t_acts p2 x10 hx10) (q := (RX10, TX10, 24)) (ci := 10) (q0 := 0) rfl rfl [0] [1] [1, 0] rfl rfl rfl rfl (by decide) rfl rfl rfl hl.1 rfl (Nat.le_of_ble_eq_true rfl) dX10_touch_10 ⟨Nat.zero_le _, Nat.zero_le _⟩ (fun H locs hP hD hS => ?_)
    refine lv_if_ne (tgt := 18) hx hb dX10_touch_13 (by decide) (fun hc => ?_) (fun hc => ?_)
    · replace hf := (if_neg hc).symm.trans hf
      refine lv_iload_n hx hb dX10_touch_18 rfl (lv_at hl 1 rfl) ?_
      refine lv_iload_n hx hb dX10_touch_19 rfl (lv_at hl 2 rfl) ?_
      refine lv_icmp_ne (tgt := 25) hx hb dX10_touch_20 (by decide) (fun hc => ?_) (fun hc => ?_)
      · replace hf := (if_neg hc).symm.trans hf
        refine lv_aload_n hx hb dX10_touch_25 rfl (lv_at hl 0 rfl) ?_
        refine va_get (D := D) (ci := 10) (v := .ref a_t_now) (C := RX10) (T := TX10) (N := 24) hx hb hts hmsX10 hown hK hP 0 rfl rfl 4 (by decide) hw16 (fun _ h9 => h9) rfl dX10_touch_26 ?_
        refine lv_bipush (v := 22) hx hb dX10_touch_29 (by decide) ?_
        refine va_iald (D := D) hx hb hK hP 1 0 rfl rfl (ix_in rfl) dX10_touch_31 ?_
        refine lv_iload_n hx hb dX10_touch_32 rfl (lv_at hl 1 rfl) ?_
        refine lv_icmp_eq (tgt := 38) hx hb dX10_touch_33 (by decide) (fun hc => ?_) (fun hc => ?_)
        · replace hf := (if_pos hc).symm.trans hf
          refine lv_aload_n hx hb dX10_touch_38 rfl (lv_at hl 0 rfl) ?_
          refine va_get (D := D) (ci := 10) (v := .ref a_t_now) (C := RX10) (T := TX10) (N := 24) hx hb hts hmsX10 hown hK hP 0 rfl rfl 4 (by decide) hw16 (fun _ h9 => h9) rfl dX10_touch_39 ?_
          refine lv_bipush (v := 21) hx hb dX10_touch_42 (by decide) ?_
          refine va_iald (D := D) hx hb hK hP 1 0 rfl rfl (ix_in rfl) dX10_touch_44 ?_
          refine lv_iload_n hx hb dX10_touch_45 rfl (lv_at hl 1 rfl) ?_
          obtain ⟨x46, hx46, hf⟩ := bd_if hf
          refine cs_i (wr := [(a_t, .inr (10, [.ref a_t_roads, .int t_homes, .int t_there, .ref a_t_book, .ref a_t_now, .int t_meetings, .ref a_t_meeting, .int t_sights, .ref a_t_sight, .int t_signs, .ref a_t_pad, .int t_touched, .int t_firstTouch, .int t_reason, .int t_acts, .ref a_t_apart, .ref a_t_rounds, .ref a_t_fewest, .ref a_t_nextFewest, .ref a_t_ways, .ref a_t_nextWays, .ref a_t_counts, .ref a_t_image, .ref a_t_isKept])), (a_t_now, .inl (cI, 25, .inl t_now))]) (ws' := [(a_t, .inr (10, [.ref a_t_roads, .int t_homes, .int t_there, .ref a_t_book, .ref a_t_now, .int t_meetings, .ref a_t_meeting, .int t_sights, .ref a_t_sight, .int t_signs, .ref a_t_pad, .int t_touched, .int t_firstTouch, .int t_reason, .int t_acts, .ref a_t_apart, .ref a_t_rounds, .ref a_t_fewest, .ref a_t_nextFewest, .ref a_t_ways, .ref a_t_nextWays, .ref a_t_counts, .ref a_t_image, .ref a_t_isKept])), (a_t_now, .inl (cI, 25, .inl t_now))]) ⟨hx, hb, hml, hown, hts⟩ hcw69 hK hN hP hD hS hA (c_X10_has l D cI cJ cZ cO _ (t_now (21 : Int32).toNatClampNeg) p1 x46 hx46) [] [0, 1] [0, 1] rfl rfl rfl rfl (by decide) rfl rfl rfl hl.1 rfl (Nat.le_of_ble_eq_true rfl) dX10_touch_46 ⟨Nat.zero_le _, Nat.zero_le _⟩ (fun H locs hP hD hS => ?_)
          refine lv_if_eq (tgt := 54) hx hb dX10_touch_49 (by decide) (fun hc => ?_) (fun hc => ?_)
          · replace hf := (if_pos hc).symm.trans hf
            refine lv_aload_n hx hb dX10_touch_54 rfl (lv_at hl 0 rfl) ?_
            refine va_get (D := D) (ci := 10) (v := .ref a_t_now) (C := RX10) (T := TX10) (N := 24) hx hb hts hmsX10 hown hK hP 0 rfl rfl 4 (by decide) hw16 (fun _ h9 => h9) rfl dX10_touch_55 ?_
            refine lv_iload_n hx hb dX10_touch_58 rfl (lv_at hl 1 rfl) ?_
            obtain ⟨hi59, hf⟩ := ix_if hf
            refine va_iald (D := D) hx hb hK hP 1 0 rfl rfl hi59 dX10_touch_59 ?_
            refine lv_aload_n hx hb dX10_touch_60 rfl (lv_at hl 0 rfl) ?_
            refine va_get (D := D) (ci := 10) (v := .ref a_t_now) (C := RX10) (T := TX10) (N := 24) hx hb hts hmsX10 hown hK hP 0 rfl rfl 4 (by decide) hw16 (fun _ h9 => h9) rfl dX10_touch_61 ?_
            refine lv_iload_n hx hb dX10_touch_64 rfl (lv_at hl 2 rfl) ?_
            obtain ⟨hi65, hf⟩ := ix_if hf
            refine va_iald (D := D) hx hb hK hP 1 0 rfl rfl hi65 dX10_touch_65 ?_
            refine lv_icmp_eq (tgt := 71) hx hb dX10_touch_66 (by decide) (fun hc => ?_) (fun hc => ?_)
            · replace hf := (if_pos hc).symm.trans hf
              refine lv_aload_n hx hb dX10_touch_71 rfl (lv_at hl 0 rfl) ?_
              refine va_get (D := D) (ci := 10) (v := .ref a_t_now) (C := RX10) (T := TX10) (N := 24) hx hb hts hmsX10 hown hK hP 0 rfl rfl 4 (by decide) hw16 (fun _ h9 => h9) rfl dX10_touch_72 ?_
              refine lv_bipush (v := 21) hx hb dX10_touch_75 (by decide) ?_
              refine va_iald (D := D) hx hb hK hP 1 0 rfl rfl (ix_in rfl) dX10_touch_77 ?_
              refine lv_iload_n hx hb dX10_touch_78 rfl (lv_at hl 2 rfl) ?_
              obtain ⟨x79, hx79, hf⟩ := bd_if hf
              refine cs_i (wr := [(a_t, .inr (10, [.ref a_t_roads, .int t_homes, .int t_there, .ref a_t_book, .ref a_t_now, .int t_meetings, .ref a_t_meeting, .int t_sights, .ref a_t_sight, .int t_signs, .ref a_t_pad, .int t_touched, .int t_firstTouch, .int t_reason, .int t_acts, .ref a_t_apart, .ref a_t_rounds, .ref a_t_fewest, .ref a_t_nextFewest, .ref a_t_ways, .ref a_t_nextWays, .ref a_t_counts, .ref a_t_image, .ref a_t_isKept])), (a_t_now, .inl (cI, 25, .inl t_now))]) (ws' := [(a_t, .inr (10, [.ref a_t_roads, .int t_homes, .int t_there, .ref a_t_book, .ref a_t_now, .int t_meetings, .ref a_t_meeting, .int t_sights, .ref a_t_sight, .int t_signs, .ref a_t_pad, .int t_touched, .int t_firstTouch, .int t_reason, .int t_acts, .ref a_t_apart, .ref a_t_rounds, .ref a_t_fewest, .ref a_t_nextFewest, .ref a_t_ways, .ref a_t_nextWays, .ref a_t_counts, .ref a_t_image, .ref a_t_isKept])), (a_t_now, .inl (cI, 25, .inl t_now))]) ⟨hx, hb, hml, hown, hts⟩ hcw69 hK hN hP hD hS hA (c_X10_has l D cI cJ cZ cO _ (t_now (21 : Int32).toNatClampNeg) p2 x79 hx79) [] [0, 1] [0, 1] rfl rfl rfl rfl (by decide) rfl rfl rfl hl.1 rfl (Nat.le_of_ble_eq_true rfl) dX10_touch_79 ⟨Nat.zero_le _, Nat.zero_le _⟩ (fun H locs hP hD hS => ?_)
              refine lv_if_eq (tgt := 88) hx hb dX10_touch_82 (by decide) (fun hc => ?_) (fun hc => ?_)
              · replace hf := (if_pos hc).symm.trans hf
                refine lv_aload_n hx hb dX10_touch_88 rfl (lv_at hl 0 rfl) ?_
                refine va_get (D := D) (ci := 10) (v := .int t_homes) (C := RX10) (T := TX10) (N := 24) hx hb hts hmsX10 hown hK hP 0 rfl rfl 1 (by decide) hw80 (fun _ h9 => h9) rfl dX10_touch_89 ?_
                refine lv_aload_n hx hb dX10_touch_92 rfl (lv_at hl 0 rfl) ?_
                refine va_get (D := D) (ci := 10) (v := .ref a_t_now) (C := RX10) (T := TX10) (N := 24) hx hb hts hmsX10 hown hK hP 0 rfl rfl 4 (by decide) hw16 (fun _ h9 => h9) rfl dX10_touch_93 ?_
                refine lv_iload_n hx hb dX10_touch_96 rfl (lv_at hl 1 rfl) ?_
                refine va_iald (D := D) hx hb hK hP 1 0 rfl rfl hi59 dX10_touch_97 ?_
                obtain ⟨x98, hx98, hf⟩ := bd_if hf
                refine cs_i (wr := [(a_t, .inr (10, [.ref a_t_roads, .int t_homes, .int t_there, .ref a_t_book, .ref a_t_now, .int t_meetings, .ref a_t_meeting, .int t_sights, .ref a_t_sight, .int t_signs, .ref a_t_pad, .int t_touched, .int t_firstTouch, .int t_reason, .int t_acts, .ref a_t_apart, .ref a_t_rounds, .ref a_t_fewest, .ref a_t_nextFewest, .ref a_t_ways, .ref a_t_nextWays, .ref a_t_counts, .ref a_t_image, .ref a_t_isKept])), (a_t_now, .inl (cI, 25, .inl t_now))]) (ws' := [(a_t, .inr (10, [.ref a_t_roads, .int t_homes, .int t_there, .ref a_t_book, .ref a_t_now, .int t_meetings, .ref a_t_meeting, .int t_sights, .ref a_t_sight, .int t_signs, .ref a_t_pad, .int t_touched, .int t_firstTouch, .int t_reason, .int t_acts, .ref a_t_apart, .ref a_t_rounds, .ref a_t_fewest, .ref a_t_nextFewest, .ref a_t_ways, .ref a_t_nextWays, .ref a_t_counts, .ref a_t_image, .ref a_t_isKept])), (a_t_now, .inl (cI, 25, .inl t_now))]) ⟨hx, hb, hml, hown, hts⟩ hcw69 hK hN hP hD hS hA (c_X10_has l D cI cJ cZ cO _ t_homes (t_now p1.toNatClampNeg) x98 hx98) [] [0, 1] [0, 1] rfl rfl rfl rfl (by decide) rfl rfl rfl hl.1 rfl (Nat.le_of_ble_eq_true rfl) dX10_touch_98 ⟨Nat.zero_le _, Nat.zero_le _⟩ (fun H locs hP hD hS => ?_)
                refine lv_if_eq (tgt := 107) hx hb dX10_touch_101 (by decide) (fun hc => ?_) (fun hc => ?_)
                · replace hf := (if_pos hc).symm.trans hf
                  refine lv_aload_n hx hb dX10_touch_107 rfl (lv_at hl 0 rfl) ?_
                  refine va_get (D := D) (ci := 10) (v := .ref a_t_now) (C := RX10) (T := TX10) (N := 24) hx hb hts hmsX10 hown hK hP 0 rfl rfl 4 (by decide) hw16 (fun _ h9 => h9) rfl dX10_touch_108 ?_
                  refine lv_bipush (v := 23) hx hb dX10_touch_111 (by decide) ?_
                  refine va_iald (D := D) hx hb hK hP 1 0 rfl rfl (ix_in rfl) dX10_touch_113 ?_
                  refine lv_iload_n hx hb dX10_touch_114 rfl (lv_at hl 2 rfl) ?_
                  refine lv_icmp_ne (tgt := 121) hx hb dX10_touch_115 (by decide) (fun hc => ?_) (fun hc => ?_)
                  · replace hf := (if_neg hc).symm.trans hf
                    refine lv_aload_n hx hb dX10_touch_121 rfl (lv_at hl 0 rfl) ?_
                    refine va_get (D := D) (ci := 10) (v := .ref a_t_now) (C := RX10) (T := TX10) (N := 24) hx hb hts hmsX10 hown hK hP 0 rfl rfl 4 (by decide) hw16 (fun _ h9 => h9) rfl dX10_touch_122 ?_
                    refine lv_bipush (v := 22) hx hb dX10_touch_125 (by decide) ?_
                    refine lv_iload_n hx hb dX10_touch_127 rfl (lv_at hl 2 rfl) ?_
                    refine va_iast (D := D) hx hb hK hP hD hS 1 0 rfl rfl (ix_in rfl) dX10_touch_128 (fun H locs hP hD hS => ?_)
                    replace hP : va_P D vwCl [(a_t, .inr (10, [.ref a_t_roads, .int t_homes, .int t_there, .ref a_t_book, .ref a_t_now, .int t_meetings, .ref a_t_meeting, .int t_sights, .ref a_t_sight, .int t_signs, .ref a_t_pad, .int t_touched, .int t_firstTouch, .int t_reason, .int t_acts, .ref a_t_apart, .ref a_t_rounds, .ref a_t_fewest, .ref a_t_nextFewest, .ref a_t_ways, .ref a_t_nextWays, .ref a_t_counts, .ref a_t_image, .ref a_t_isKept])), (a_t_now, .inl (cI, 25, .inl (upd t_now (22 : Int32).toNatClampNeg p2)))] H := hP
                    replace hD : va_D A [(a_t, .inr (10, [.ref a_t_roads, .int t_homes, .int t_there, .ref a_t_book, .ref a_t_now, .int t_meetings, .ref a_t_meeting, .int t_sights, .ref a_t_sight, .int t_signs, .ref a_t_pad, .int t_touched, .int t_firstTouch, .int t_reason, .int t_acts, .ref a_t_apart, .ref a_t_rounds, .ref a_t_fewest, .ref a_t_nextFewest, .ref a_t_ways, .ref a_t_nextWays, .ref a_t_counts, .ref a_t_image, .ref a_t_isKept])), (a_t_now, .inl (cI, 25, .inl (upd t_now (22 : Int32).toNatClampNeg p2)))] := hD
                    refine lv_aload_n hx hb dX10_touch_129 rfl (lv_at hl 0 rfl) ?_
                    refine va_get (D := D) (ci := 10) (v := .ref a_t_now) (C := RX10) (T := TX10) (N := 24) hx hb hts hmsX10 hown hK hP 0 rfl rfl 4 (by decide) hw16 (fun _ h9 => h9) rfl dX10_touch_130 ?_
                    refine lv_bipush (v := 23) hx hb dX10_touch_133 (by decide) ?_
                    refine lv_iload_n hx hb dX10_touch_135 rfl (lv_at hl 1 rfl) ?_
                    refine va_iast (D := D) hx hb hK hP hD hS 1 0 rfl rfl (ix_in rfl) dX10_touch_136 (fun H locs hP hD hS => ?_)
                    replace hP : va_P D vwCl [(a_t, .inr (10, [.ref a_t_roads, .int t_homes, .int t_there, .ref a_t_book, .ref a_t_now, .int t_meetings, .ref a_t_meeting, .int t_sights, .ref a_t_sight, .int t_signs, .ref a_t_pad, .int t_touched, .int t_firstTouch, .int t_reason, .int t_acts, .ref a_t_apart, .ref a_t_rounds, .ref a_t_fewest, .ref a_t_nextFewest, .ref a_t_ways, .ref a_t_nextWays, .ref a_t_counts, .ref a_t_image, .ref a_t_isKept])), (a_t_now, .inl (cI, 25, .inl (upd (upd t_now (22 : Int32).toNatClampNeg p2) (23 : Int32).toNatClampNeg p1)))] H := hP
                    replace hD : va_D A [(a_t, .inr (10, [.ref a_t_roads, .int t_homes, .int t_there, .ref a_t_book, .ref a_t_now, .int t_meetings, .ref a_t_meeting, .int t_sights, .ref a_t_sight, .int t_signs, .ref a_t_pad, .int t_touched, .int t_firstTouch, .int t_reason, .int t_acts, .ref a_t_apart, .ref a_t_rounds, .ref a_t_fewest, .ref a_t_nextFewest, .ref a_t_ways, .ref a_t_nextWays, .ref a_t_counts, .ref a_t_image, .ref a_t_isKept])), (a_t_now, .inl (cI, 25, .inl (upd (upd t_now (22 : Int32).toNatClampNeg p2) (23 : Int32).toNatClampNeg p1)))] := hD
                    refine lv_aload_n hx hb dX10_touch_137 rfl (lv_at hl 0 rfl) ?_
                    refine lv_dup hx hb dX10_touch_138 rfl ?_
                    refine va_get (D := D) (ci := 10) (v := .int t_touched) (C := RX10) (T := TX10) (N := 24) hx hb hts hmsX10 hown hK hP 0 rfl rfl 11 (by decide) hw96 (fun _ h9 => h9) rfl dX10_touch_139 ?_
                    refine lv_iconst (v := 1) hx hb dX10_touch_142 (by decide) ?_
                    refine lv_iadd hx hb dX10_touch_143 ?_
                    refine va_put (D := D) (ci := 10) (v := .int (t_touched + (1 : Int32))) (ty := .int) (C := RX10) (T := TX10) (N := 24) hx hb hts hmsX10 tyX10 tyX10_ok nmX10 hown hK hP hD hS 0 rfl rfl 11 (by decide) hw96 (fun _ h9 => h9) rfl (by decide +kernel) rfl rfl (Nat.le_of_ble_eq_true rfl) dX10_touch_144 (fun H locs hP hD hS => ?_)
                    replace hP : va_P D vwCl [(a_t, .inr (10, [.ref a_t_roads, .int t_homes, .int t_there, .ref a_t_book, .ref a_t_now, .int t_meetings, .ref a_t_meeting, .int t_sights, .ref a_t_sight, .int t_signs, .ref a_t_pad, .int (t_touched + (1 : Int32)), .int t_firstTouch, .int t_reason, .int t_acts, .ref a_t_apart, .ref a_t_rounds, .ref a_t_fewest, .ref a_t_nextFewest, .ref a_t_ways, .ref a_t_nextWays, .ref a_t_counts, .ref a_t_image, .ref a_t_isKept])), (a_t_now, .inl (cI, 25, .inl (upd (upd t_now (22 : Int32).toNatClampNeg p2) (23 : Int32).toNatClampNeg p1)))] H := hP
                    replace hD : va_D A [(a_t, .inr (10, [.ref a_t_roads, .int t_homes, .int t_there, .ref a_t_book, .ref a_t_now, .int t_meetings, .ref a_t_meeting, .int t_sights, .ref a_t_sight, .int t_signs, .ref a_t_pad, .int (t_touched + (1 : Int32)), .int t_firstTouch, .int t_reason, .int t_acts, .ref a_t_apart, .ref a_t_rounds, .ref a_t_fewest, .ref a_t_nextFewest, .ref a_t_ways, .ref a_t_nextWays, .ref a_t_counts, .ref a_t_image, .ref a_t_isKept])), (a_t_now, .inl (cI, 25, .inl (upd (upd t_now (22 : Int32).toNatClampNeg p2) (23 : Int32).toNatClampNeg p1)))] := hD
                    refine lv_iconst (v := 0) hx hb dX10_touch_147 (by decide) ?_
                    obtain rfl := Option.some.inj hf
                    exact fin _ _ _ _ dX10_touch_148 hP hD hS
                  · replace hf := (if_pos hc).symm.trans hf
                    refine lv_bipush (v := 8) hx hb dX10_touch_118 (by decide) ?_
                    obtain rfl := Option.some.inj hf
                    exact fin _ _ _ _ dX10_touch_120 hP hD hS
                · replace hf := (if_neg hc).symm.trans hf
                  refine lv_bipush (v := 7) hx hb dX10_touch_104 (by decide) ?_
                  obtain rfl := Option.some.inj hf
                  exact fin _ _ _ _ dX10_touch_106 hP hD hS
              · replace hf := (if_neg hc).symm.trans hf
                refine lv_bipush (v := 6) hx hb dX10_touch_85 (by decide) ?_
                obtain rfl := Option.some.inj hf
                exact fin _ _ _ _ dX10_touch_87 hP hD hS
            · replace hf := (if_neg hc).symm.trans hf
              refine lv_iconst (v := 5) hx hb dX10_touch_69 (by decide) ?_
              obtain rfl := Option.some.inj hf
              exact fin _ _ _ _ dX10_touch_70 hP hD hS
          · replace hf := (if_neg hc).symm.trans hf
            refine lv_iconst (v := 4) hx hb dX10_touch_52 (by decide) ?_
            obtain rfl := Option.some.inj hf
            exact fin _ _ _ _ dX10_touch_53 hP hD hS
        · replace hf := (if_neg hc).symm.trans hf
          refine lv_iconst (v := 3) hx hb dX10_touch_36 (by decide) ?_
          obtain rfl := Option.some.inj hf
          exact fin _ _ _ _ dX10_touch_37 hP hD hS
      · replace hf := (if_pos hc).symm.trans hf
        refine lv_iconst (v := 2) hx hb dX10_touch_23 (by decide) ?_
        obtain rfl := Option.some.inj hf
        exact fin _ _ _ _ dX10_touch_24 hP hD hS
    · replace hf := (if_pos hc).symm.trans hf
      refine lv_iconst (v := 1) hx hb dX10_touch_16 (by decide) ?_
      obtain rfl := Option.some.inj hf
      exact fin _ _ _ _ dX10_touch_17 hP hD hS
abbrev rm_X10_rest : Room := { frames := 3, cells := 0, slots := 0, locals := 63 }
theorem ms_X10_rest_X10 : ∀ w ∈ u_ws RX10 TX10 24, w ∈ wsX10_rest := fun w h => List.mem_cons_of_mem _ (List.mem_append_right _ (h))
set_option maxHeartbeats 4000000 in
set_option maxRecDepth 100000 in
theorem c_X10_rest (l : Launch) (D : va_G) (cI cJ cZ cO : ClassId) (sz : Nat) (a_t : Nat) (a_t_roads : Nat) (a_t_book : Nat) (a_t_now : Nat) (a_t_meeting : Nat) (a_t_sight : Nat) (a_t_pad : Nat) (a_t_apart : Nat) (a_t_rounds : Nat) (a_t_fewest : Nat) (a_t_nextFewest : Nat) (a_t_ways : Nat) (a_t_nextWays : Nat) (a_t_counts : Nat) (a_t_image : Nat) (a_t_isKept : Nat) (t_homes : Int32) (t_there : Int32) (t_meetings : Int32) (t_sights : Int32) (t_signs : Int32) (t_touched : Int32) (t_firstTouch : Int32) (t_reason : Int32) (t_acts : Int32) (t_now : Nat → Int32) (p1 : Int32) (res : Int32 × (Nat → Int32)) (hf : f_X10_rest t_there t_now p1 = some res) : MetI l yX10_rest wsX10_rest rm_X10_rest [.ref a_t, .int p1] D (tys4 cI cJ cZ cO) [(a_t, .inr (10, [.ref a_t_roads, .int t_homes, .int t_there, .ref a_t_book, .ref a_t_now, .int t_meetings, .ref a_t_meeting, .int t_sights, .ref a_t_sight, .int t_signs, .ref a_t_pad, .int t_touched, .int t_firstTouch, .int t_reason, .int t_acts, .ref a_t_apart, .ref a_t_rounds, .ref a_t_fewest, .ref a_t_nextFewest, .ref a_t_ways, .ref a_t_nextWays, .ref a_t_counts, .ref a_t_image, .ref a_t_isKept])), (a_t_now, .inl (cI, 25, .inl t_now))] sz res.1 [(a_t, .inr (10, [.ref a_t_roads, .int t_homes, .int t_there, .ref a_t_book, .ref a_t_now, .int t_meetings, .ref a_t_meeting, .int t_sights, .ref a_t_sight, .int t_signs, .ref a_t_pad, .int t_touched, .int t_firstTouch, .int t_reason, .int t_acts, .ref a_t_apart, .ref a_t_rounds, .ref a_t_fewest, .ref a_t_nextFewest, .ref a_t_ways, .ref a_t_nextWays, .ref a_t_counts, .ref a_t_image, .ref a_t_isKept])), (a_t_now, .inl (cI, 25, .inl res.2))] := by
  refine met_i (cc := cX10_rest) (maxL := 2) (by decide) rfl (Nat.le_of_ble_eq_true rfl) ?_
  intro p e s m args below meth c Q A hx hb hml hown hts hK hN hA fin H locs ls hP hD hS hl
  replace hown : s.vm.findClass RX10 = some m.cls := hown
  replace hl : lv_has ls 2 [(0, .ref a_t), (1, .int p1)] := hl
  rw [f_X10_rest] at hf
  have hcw83 := cwV (R := rm_X10_rest) (rm := rm_X10_isThere) 1 hts gX10_rest_X10_isThere rfl rfl rfl (by decide +kernel) ⟨Nat.le_of_ble_eq_true rfl, Nat.le_of_ble_eq_true rfl⟩
  have hw16 := hts (.fieldLink RX10 16 "TouchReignModel" "now" "[I") (by decide +kernel)
  have hmsX10 := ms_X10_rest_X10
  refine lv_aload_n hx hb dX10_rest_0 rfl (lv_at hl 0 rfl) ?_
  refine lv_iload_n hx hb dX10_rest_1 rfl (lv_at hl 1 rfl) ?_
  obtain ⟨x2, hx2, hf⟩ := bd_if hf
  refine cv_i (wr := [(a_t_now, .inl (cI, 25, .inl t_now))]) (ws' := [(a_t, .inr (10, [.ref a_t_roads, .int t_homes, .int t_there, .ref a_t_book, .ref a_t_now, .int t_meetings, .ref a_t_meeting, .int t_sights, .ref a_t_sight, .int t_signs, .ref a_t_pad, .int t_touched, .int t_firstTouch, .int t_reason, .int t_acts, .ref a_t_apart, .ref a_t_rounds, .ref a_t_fewest, .ref a_t_nextFewest, .ref a_t_ways, .ref a_t_nextWays, .ref a_t_counts, .ref a_t_image, .ref a_t_isKept])), (a_t_now, .inl (cI, 25, .inl t_now))]) ⟨hx, hb, hml, hown, hts⟩ hcw83 hK hN hP hD hS hA (c_X10_isThere l D cI cJ cZ cO _ a_t a_t_roads a_t_book a_t_now a_t_meeting a_t_sight a_t_pad a_t_apart a_t_rounds a_t_fewest a_t_nextFewest a_t_ways a_t_nextWays a_t_counts a_t_image a_t_isKept t_homes t_there t_meetings t_sights t_signs t_touched t_firstTouch t_reason t_acts p1 x2 hx2) (q := (RX10, TX10, 24)) (ci := 10) (q0 := 0) rfl rfl [0] [1] [1, 0] rfl rfl rfl rfl (by decide) rfl rfl rfl hl.1 rfl (Nat.le_of_ble_eq_true rfl) dX10_rest_2 ⟨Nat.zero_le _, Nat.zero_le _⟩ (fun H locs hP hD hS => ?_)
  refine lv_if_ne (tgt := 10) hx hb dX10_rest_5 (by decide) (fun hc => ?_) (fun hc => ?_)
  · replace hf := (if_neg hc).symm.trans hf
    refine lv_aload_n hx hb dX10_rest_10 rfl (lv_at hl 0 rfl) ?_
    refine va_get (D := D) (ci := 10) (v := .ref a_t_now) (C := RX10) (T := TX10) (N := 24) hx hb hts hmsX10 hown hK hP 0 rfl rfl 4 (by decide) hw16 (fun _ h9 => h9) rfl dX10_rest_11 ?_
    refine lv_bipush (v := 7) hx hb dX10_rest_14 (by decide) ?_
    refine lv_iload_n hx hb dX10_rest_16 rfl (lv_at hl 1 rfl) ?_
    refine lv_iadd hx hb dX10_rest_17 ?_
    refine lv_aload_n hx hb dX10_rest_18 rfl (lv_at hl 0 rfl) ?_
    refine va_get (D := D) (ci := 10) (v := .ref a_t_now) (C := RX10) (T := TX10) (N := 24) hx hb hts hmsX10 hown hK hP 0 rfl rfl 4 (by decide) hw16 (fun _ h9 => h9) rfl dX10_rest_19 ?_
    refine lv_bipush (v := 7) hx hb dX10_rest_22 (by decide) ?_
    refine lv_iload_n hx hb dX10_rest_24 rfl (lv_at hl 1 rfl) ?_
    refine lv_iadd hx hb dX10_rest_25 ?_
    obtain ⟨hi26, hf⟩ := ix_if hf
    refine va_iald (D := D) hx hb hK hP 1 0 rfl rfl hi26 dX10_rest_26 ?_
    refine lv_iconst (v := 2) hx hb dX10_rest_27 (by decide) ?_
    refine lv_iadd hx hb dX10_rest_28 ?_
    refine lv_bipush (v := 9) hx hb dX10_rest_29 (by decide) ?_
    refine lv_icmp_le (tgt := 39) hx hb dX10_rest_31 (by decide) (fun hc => ?_) (fun hc => ?_)
    · replace hf := (if_pos hc).symm.trans hf
      refine lv_aload_n hx hb dX10_rest_39 rfl (lv_at hl 0 rfl) ?_
      refine va_get (D := D) (ci := 10) (v := .ref a_t_now) (C := RX10) (T := TX10) (N := 24) hx hb hts hmsX10 hown hK hP 0 rfl rfl 4 (by decide) hw16 (fun _ h9 => h9) rfl dX10_rest_40 ?_
      refine lv_bipush (v := 7) hx hb dX10_rest_43 (by decide) ?_
      refine lv_iload_n hx hb dX10_rest_45 rfl (lv_at hl 1 rfl) ?_
      refine lv_iadd hx hb dX10_rest_46 ?_
      refine va_iald (D := D) hx hb hK hP 1 0 rfl rfl hi26 dX10_rest_47 ?_
      refine lv_iconst (v := 2) hx hb dX10_rest_48 (by decide) ?_
      refine lv_iadd hx hb dX10_rest_49 ?_
      refine va_iast (D := D) hx hb hK hP hD hS 1 0 rfl rfl hi26 dX10_rest_50 (fun H locs hP hD hS => ?_)
      replace hP : va_P D vwCl [(a_t, .inr (10, [.ref a_t_roads, .int t_homes, .int t_there, .ref a_t_book, .ref a_t_now, .int t_meetings, .ref a_t_meeting, .int t_sights, .ref a_t_sight, .int t_signs, .ref a_t_pad, .int t_touched, .int t_firstTouch, .int t_reason, .int t_acts, .ref a_t_apart, .ref a_t_rounds, .ref a_t_fewest, .ref a_t_nextFewest, .ref a_t_ways, .ref a_t_nextWays, .ref a_t_counts, .ref a_t_image, .ref a_t_isKept])), (a_t_now, .inl (cI, 25, .inl (upd t_now ((7 : Int32) + p1).toNatClampNeg ((t_now ((7 : Int32) + p1).toNatClampNeg) + (2 : Int32)))))] H := hP
      replace hD : va_D A [(a_t, .inr (10, [.ref a_t_roads, .int t_homes, .int t_there, .ref a_t_book, .ref a_t_now, .int t_meetings, .ref a_t_meeting, .int t_sights, .ref a_t_sight, .int t_signs, .ref a_t_pad, .int t_touched, .int t_firstTouch, .int t_reason, .int t_acts, .ref a_t_apart, .ref a_t_rounds, .ref a_t_fewest, .ref a_t_nextFewest, .ref a_t_ways, .ref a_t_nextWays, .ref a_t_counts, .ref a_t_image, .ref a_t_isKept])), (a_t_now, .inl (cI, 25, .inl (upd t_now ((7 : Int32) + p1).toNatClampNeg ((t_now ((7 : Int32) + p1).toNatClampNeg) + (2 : Int32)))))] := hD
      refine lv_iconst (v := 0) hx hb dX10_rest_51 (by decide) ?_
      obtain rfl := Option.some.inj hf
      exact fin _ _ _ _ dX10_rest_52 hP hD hS
    · replace hf := (if_neg hc).symm.trans hf
      refine lv_bipush (v := 9) hx hb dX10_rest_34 (by decide) ?_
      refine lv_goto (tgt := 50) hx hb dX10_rest_36 (by decide) ?_
      refine va_iast (D := D) hx hb hK hP hD hS 1 0 rfl rfl hi26 dX10_rest_50 (fun H locs hP hD hS => ?_)
      replace hP : va_P D vwCl [(a_t, .inr (10, [.ref a_t_roads, .int t_homes, .int t_there, .ref a_t_book, .ref a_t_now, .int t_meetings, .ref a_t_meeting, .int t_sights, .ref a_t_sight, .int t_signs, .ref a_t_pad, .int t_touched, .int t_firstTouch, .int t_reason, .int t_acts, .ref a_t_apart, .ref a_t_rounds, .ref a_t_fewest, .ref a_t_nextFewest, .ref a_t_ways, .ref a_t_nextWays, .ref a_t_counts, .ref a_t_image, .ref a_t_isKept])), (a_t_now, .inl (cI, 25, .inl (upd t_now ((7 : Int32) + p1).toNatClampNeg (9 : Int32))))] H := hP
      replace hD : va_D A [(a_t, .inr (10, [.ref a_t_roads, .int t_homes, .int t_there, .ref a_t_book, .ref a_t_now, .int t_meetings, .ref a_t_meeting, .int t_sights, .ref a_t_sight, .int t_signs, .ref a_t_pad, .int t_touched, .int t_firstTouch, .int t_reason, .int t_acts, .ref a_t_apart, .ref a_t_rounds, .ref a_t_fewest, .ref a_t_nextFewest, .ref a_t_ways, .ref a_t_nextWays, .ref a_t_counts, .ref a_t_image, .ref a_t_isKept])), (a_t_now, .inl (cI, 25, .inl (upd t_now ((7 : Int32) + p1).toNatClampNeg (9 : Int32))))] := hD
      refine lv_iconst (v := 0) hx hb dX10_rest_51 (by decide) ?_
      obtain rfl := Option.some.inj hf
      exact fin _ _ _ _ dX10_rest_52 hP hD hS
  · replace hf := (if_pos hc).symm.trans hf
    refine lv_iconst (v := 1) hx hb dX10_rest_8 (by decide) ?_
    obtain rfl := Option.some.inj hf
    exact fin _ _ _ _ dX10_rest_9 hP hD hS
abbrev rm_X10_cross : Room := { frames := 3, cells := 0, slots := 0, locals := 63 }
theorem ms_X10_cross_X10 : ∀ w ∈ u_ws RX10 TX10 24, w ∈ wsX10_cross := fun w h => List.mem_cons_of_mem _ (List.mem_append_right _ (h))
set_option maxHeartbeats 4000000 in
set_option maxRecDepth 100000 in
theorem c_X10_cross (l : Launch) (D : va_G) (cI cJ cZ cO : ClassId) (sz : Nat) (a_t : Nat) (a_t_roads : Nat) (a_t_book : Nat) (a_t_now : Nat) (a_t_meeting : Nat) (a_t_sight : Nat) (a_t_pad : Nat) (a_t_apart : Nat) (a_t_rounds : Nat) (a_t_fewest : Nat) (a_t_nextFewest : Nat) (a_t_ways : Nat) (a_t_nextWays : Nat) (a_t_counts : Nat) (a_t_image : Nat) (a_t_isKept : Nat) (t_homes : Int32) (t_there : Int32) (t_meetings : Int32) (t_sights : Int32) (t_signs : Int32) (t_touched : Int32) (t_firstTouch : Int32) (t_reason : Int32) (t_acts : Int32) (t_now : Nat → Int32) (p1 : Int32) (res : Int32 × (Nat → Int32)) (hf : f_X10_cross t_there t_now p1 = some res) : MetI l yX10_cross wsX10_cross rm_X10_cross [.ref a_t, .int p1] D (tys4 cI cJ cZ cO) [(a_t, .inr (10, [.ref a_t_roads, .int t_homes, .int t_there, .ref a_t_book, .ref a_t_now, .int t_meetings, .ref a_t_meeting, .int t_sights, .ref a_t_sight, .int t_signs, .ref a_t_pad, .int t_touched, .int t_firstTouch, .int t_reason, .int t_acts, .ref a_t_apart, .ref a_t_rounds, .ref a_t_fewest, .ref a_t_nextFewest, .ref a_t_ways, .ref a_t_nextWays, .ref a_t_counts, .ref a_t_image, .ref a_t_isKept])), (a_t_now, .inl (cI, 25, .inl t_now))] sz res.1 [(a_t, .inr (10, [.ref a_t_roads, .int t_homes, .int t_there, .ref a_t_book, .ref a_t_now, .int t_meetings, .ref a_t_meeting, .int t_sights, .ref a_t_sight, .int t_signs, .ref a_t_pad, .int t_touched, .int t_firstTouch, .int t_reason, .int t_acts, .ref a_t_apart, .ref a_t_rounds, .ref a_t_fewest, .ref a_t_nextFewest, .ref a_t_ways, .ref a_t_nextWays, .ref a_t_counts, .ref a_t_image, .ref a_t_isKept])), (a_t_now, .inl (cI, 25, .inl res.2))] := by
  refine met_i (cc := cX10_cross) (maxL := 2) (by decide) rfl (Nat.le_of_ble_eq_true rfl) ?_
  intro p e s m args below meth c Q A hx hb hml hown hts hK hN hA fin H locs ls hP hD hS hl
  replace hown : s.vm.findClass RX10 = some m.cls := hown
  replace hl : lv_has ls 2 [(0, .ref a_t), (1, .int p1)] := hl
  rw [f_X10_cross] at hf
  have hcw83 := cwV (R := rm_X10_cross) (rm := rm_X10_isThere) 1 hts gX10_cross_X10_isThere rfl rfl rfl (by decide +kernel) ⟨Nat.le_of_ble_eq_true rfl, Nat.le_of_ble_eq_true rfl⟩
  have hw16 := hts (.fieldLink RX10 16 "TouchReignModel" "now" "[I") (by decide +kernel)
  have hmsX10 := ms_X10_cross_X10
  refine lv_aload_n hx hb dX10_cross_0 rfl (lv_at hl 0 rfl) ?_
  refine lv_iload_n hx hb dX10_cross_1 rfl (lv_at hl 1 rfl) ?_
  obtain ⟨x2, hx2, hf⟩ := bd_if hf
  refine cv_i (wr := [(a_t_now, .inl (cI, 25, .inl t_now))]) (ws' := [(a_t, .inr (10, [.ref a_t_roads, .int t_homes, .int t_there, .ref a_t_book, .ref a_t_now, .int t_meetings, .ref a_t_meeting, .int t_sights, .ref a_t_sight, .int t_signs, .ref a_t_pad, .int t_touched, .int t_firstTouch, .int t_reason, .int t_acts, .ref a_t_apart, .ref a_t_rounds, .ref a_t_fewest, .ref a_t_nextFewest, .ref a_t_ways, .ref a_t_nextWays, .ref a_t_counts, .ref a_t_image, .ref a_t_isKept])), (a_t_now, .inl (cI, 25, .inl t_now))]) ⟨hx, hb, hml, hown, hts⟩ hcw83 hK hN hP hD hS hA (c_X10_isThere l D cI cJ cZ cO _ a_t a_t_roads a_t_book a_t_now a_t_meeting a_t_sight a_t_pad a_t_apart a_t_rounds a_t_fewest a_t_nextFewest a_t_ways a_t_nextWays a_t_counts a_t_image a_t_isKept t_homes t_there t_meetings t_sights t_signs t_touched t_firstTouch t_reason t_acts p1 x2 hx2) (q := (RX10, TX10, 24)) (ci := 10) (q0 := 0) rfl rfl [0] [1] [1, 0] rfl rfl rfl rfl (by decide) rfl rfl rfl hl.1 rfl (Nat.le_of_ble_eq_true rfl) dX10_cross_2 ⟨Nat.zero_le _, Nat.zero_le _⟩ (fun H locs hP hD hS => ?_)
  refine lv_if_ne (tgt := 10) hx hb dX10_cross_5 (by decide) (fun hc => ?_) (fun hc => ?_)
  · replace hf := (if_neg hc).symm.trans hf
    refine lv_aload_n hx hb dX10_cross_10 rfl (lv_at hl 0 rfl) ?_
    refine va_get (D := D) (ci := 10) (v := .ref a_t_now) (C := RX10) (T := TX10) (N := 24) hx hb hts hmsX10 hown hK hP 0 rfl rfl 4 (by decide) hw16 (fun _ h9 => h9) rfl dX10_cross_11 ?_
    refine lv_bipush (v := 21) hx hb dX10_cross_14 (by decide) ?_
    refine lv_dup2_11 hx hb dX10_cross_16 rfl rfl ?_
    refine va_iald (D := D) hx hb hK hP 1 0 rfl rfl (ix_in rfl) dX10_cross_17 ?_
    refine lv_iconst (v := 1) hx hb dX10_cross_18 (by decide) ?_
    refine lv_iload_n hx hb dX10_cross_19 rfl (lv_at hl 1 rfl) ?_
    refine lv_ishl hx hb dX10_cross_20 ?_
    refine lv_ixor hx hb dX10_cross_21 ?_
    refine va_iast (D := D) hx hb hK hP hD hS 1 0 rfl rfl (ix_in rfl) dX10_cross_22 (fun H locs hP hD hS => ?_)
    replace hP : va_P D vwCl [(a_t, .inr (10, [.ref a_t_roads, .int t_homes, .int t_there, .ref a_t_book, .ref a_t_now, .int t_meetings, .ref a_t_meeting, .int t_sights, .ref a_t_sight, .int t_signs, .ref a_t_pad, .int t_touched, .int t_firstTouch, .int t_reason, .int t_acts, .ref a_t_apart, .ref a_t_rounds, .ref a_t_fewest, .ref a_t_nextFewest, .ref a_t_ways, .ref a_t_nextWays, .ref a_t_counts, .ref a_t_image, .ref a_t_isKept])), (a_t_now, .inl (cI, 25, .inl (upd t_now (21 : Int32).toNatClampNeg ((t_now (21 : Int32).toNatClampNeg) ^^^ ((1 : Int32) <<< (p1 &&& 31))))))] H := hP
    replace hD : va_D A [(a_t, .inr (10, [.ref a_t_roads, .int t_homes, .int t_there, .ref a_t_book, .ref a_t_now, .int t_meetings, .ref a_t_meeting, .int t_sights, .ref a_t_sight, .int t_signs, .ref a_t_pad, .int t_touched, .int t_firstTouch, .int t_reason, .int t_acts, .ref a_t_apart, .ref a_t_rounds, .ref a_t_fewest, .ref a_t_nextFewest, .ref a_t_ways, .ref a_t_nextWays, .ref a_t_counts, .ref a_t_image, .ref a_t_isKept])), (a_t_now, .inl (cI, 25, .inl (upd t_now (21 : Int32).toNatClampNeg ((t_now (21 : Int32).toNatClampNeg) ^^^ ((1 : Int32) <<< (p1 &&& 31))))))] := hD
    refine lv_iconst (v := 0) hx hb dX10_cross_23 (by decide) ?_
    obtain rfl := Option.some.inj hf
    exact fin _ _ _ _ dX10_cross_24 hP hD hS
  · replace hf := (if_pos hc).symm.trans hf
    refine lv_iconst (v := 1) hx hb dX10_cross_8 (by decide) ?_
    obtain rfl := Option.some.inj hf
    exact fin _ _ _ _ dX10_cross_9 hP hD hS
abbrev rm_X10_minute : Room := { frames := 0, cells := 0, slots := 0, locals := 0 }
theorem ms_X10_minute_X10 : ∀ w ∈ u_ws RX10 TX10 24, w ∈ wsX10_minute := fun w h => List.mem_cons_of_mem _ (List.mem_append_right _ (h))
set_option maxHeartbeats 4000000 in
set_option maxRecDepth 100000 in
theorem c_X10_minute (l : Launch) (D : va_G) (cI cJ cZ cO : ClassId) (sz : Nat) (a_t : Nat) (a_t_roads : Nat) (a_t_book : Nat) (a_t_now : Nat) (a_t_meeting : Nat) (a_t_sight : Nat) (a_t_pad : Nat) (a_t_apart : Nat) (a_t_rounds : Nat) (a_t_fewest : Nat) (a_t_nextFewest : Nat) (a_t_ways : Nat) (a_t_nextWays : Nat) (a_t_counts : Nat) (a_t_image : Nat) (a_t_isKept : Nat) (t_homes : Int32) (t_there : Int32) (t_meetings : Int32) (t_sights : Int32) (t_signs : Int32) (t_touched : Int32) (t_firstTouch : Int32) (t_reason : Int32) (t_acts : Int32) (t_now : Nat → Int32) (res : Int32 × (Nat → Int32)) (hf : f_X10_minute t_now = some res) : MetI l yX10_minute wsX10_minute rm_X10_minute [.ref a_t] D (tys4 cI cJ cZ cO) [(a_t, .inr (10, [.ref a_t_roads, .int t_homes, .int t_there, .ref a_t_book, .ref a_t_now, .int t_meetings, .ref a_t_meeting, .int t_sights, .ref a_t_sight, .int t_signs, .ref a_t_pad, .int t_touched, .int t_firstTouch, .int t_reason, .int t_acts, .ref a_t_apart, .ref a_t_rounds, .ref a_t_fewest, .ref a_t_nextFewest, .ref a_t_ways, .ref a_t_nextWays, .ref a_t_counts, .ref a_t_image, .ref a_t_isKept])), (a_t_now, .inl (cI, 25, .inl t_now))] sz res.1 [(a_t, .inr (10, [.ref a_t_roads, .int t_homes, .int t_there, .ref a_t_book, .ref a_t_now, .int t_meetings, .ref a_t_meeting, .int t_sights, .ref a_t_sight, .int t_signs, .ref a_t_pad, .int t_touched, .int t_firstTouch, .int t_reason, .int t_acts, .ref a_t_apart, .ref a_t_rounds, .ref a_t_fewest, .ref a_t_nextFewest, .ref a_t_ways, .ref a_t_nextWays, .ref a_t_counts, .ref a_t_image, .ref a_t_isKept])), (a_t_now, .inl (cI, 25, .inl res.2))] := by
  refine met_i (cc := cX10_minute) (maxL := 1) (by decide) rfl (Nat.le_of_ble_eq_true rfl) ?_
  intro p e s m args below meth c Q A hx hb hml hown hts hK hN hA fin H locs ls hP hD hS hl
  replace hown : s.vm.findClass RX10 = some m.cls := hown
  replace hl : lv_has ls 1 [(0, .ref a_t)] := hl
  rw [f_X10_minute] at hf
  have hw16 := hts (.fieldLink RX10 16 "TouchReignModel" "now" "[I") (by decide +kernel)
  have hmsX10 := ms_X10_minute_X10
  refine lv_aload_n hx hb dX10_minute_0 rfl (lv_at hl 0 rfl) ?_
  refine va_get (D := D) (ci := 10) (v := .ref a_t_now) (C := RX10) (T := TX10) (N := 24) hx hb hts hmsX10 hown hK hP 0 rfl rfl 4 (by decide) hw16 (fun _ h9 => h9) rfl dX10_minute_1 ?_
  refine lv_bipush (v := 24) hx hb dX10_minute_4 (by decide) ?_
  refine va_iald (D := D) hx hb hK hP 1 0 rfl rfl (ix_in rfl) dX10_minute_6 ?_
  refine lv_bipush (v := 99) hx hb dX10_minute_7 (by decide) ?_
  refine lv_icmp_ne (tgt := 15) hx hb dX10_minute_9 (by decide) (fun hc => ?_) (fun hc => ?_)
  · replace hf := (if_neg hc).symm.trans hf
    refine lv_aload_n hx hb dX10_minute_15 rfl (lv_at hl 0 rfl) ?_
    refine va_get (D := D) (ci := 10) (v := .ref a_t_now) (C := RX10) (T := TX10) (N := 24) hx hb hts hmsX10 hown hK hP 0 rfl rfl 4 (by decide) hw16 (fun _ h9 => h9) rfl dX10_minute_16 ?_
    refine lv_bipush (v := 24) hx hb dX10_minute_19 (by decide) ?_
    refine lv_dup2_11 hx hb dX10_minute_21 rfl rfl ?_
    refine va_iald (D := D) hx hb hK hP 1 0 rfl rfl (ix_in rfl) dX10_minute_22 ?_
    refine lv_iconst (v := 1) hx hb dX10_minute_23 (by decide) ?_
    refine lv_iadd hx hb dX10_minute_24 ?_
    refine va_iast (D := D) hx hb hK hP hD hS 1 0 rfl rfl (ix_in rfl) dX10_minute_25 (fun H locs hP hD hS => ?_)
    replace hP : va_P D vwCl [(a_t, .inr (10, [.ref a_t_roads, .int t_homes, .int t_there, .ref a_t_book, .ref a_t_now, .int t_meetings, .ref a_t_meeting, .int t_sights, .ref a_t_sight, .int t_signs, .ref a_t_pad, .int t_touched, .int t_firstTouch, .int t_reason, .int t_acts, .ref a_t_apart, .ref a_t_rounds, .ref a_t_fewest, .ref a_t_nextFewest, .ref a_t_ways, .ref a_t_nextWays, .ref a_t_counts, .ref a_t_image, .ref a_t_isKept])), (a_t_now, .inl (cI, 25, .inl (upd t_now (24 : Int32).toNatClampNeg ((t_now (24 : Int32).toNatClampNeg) + (1 : Int32)))))] H := hP
    replace hD : va_D A [(a_t, .inr (10, [.ref a_t_roads, .int t_homes, .int t_there, .ref a_t_book, .ref a_t_now, .int t_meetings, .ref a_t_meeting, .int t_sights, .ref a_t_sight, .int t_signs, .ref a_t_pad, .int t_touched, .int t_firstTouch, .int t_reason, .int t_acts, .ref a_t_apart, .ref a_t_rounds, .ref a_t_fewest, .ref a_t_nextFewest, .ref a_t_ways, .ref a_t_nextWays, .ref a_t_counts, .ref a_t_image, .ref a_t_isKept])), (a_t_now, .inl (cI, 25, .inl (upd t_now (24 : Int32).toNatClampNeg ((t_now (24 : Int32).toNatClampNeg) + (1 : Int32)))))] := hD
    refine lv_aload_n hx hb dX10_minute_26 rfl (lv_at hl 0 rfl) ?_
    refine va_get (D := D) (ci := 10) (v := .ref a_t_now) (C := RX10) (T := TX10) (N := 24) hx hb hts hmsX10 hown hK hP 0 rfl rfl 4 (by decide) hw16 (fun _ h9 => h9) rfl dX10_minute_27 ?_
    refine lv_bipush (v := 22) hx hb dX10_minute_30 (by decide) ?_
    refine va_iald (D := D) hx hb hK hP 1 0 rfl rfl (ix_in rfl) dX10_minute_32 ?_
    refine lv_if_lt (tgt := 55) hx hb dX10_minute_33 (by decide) (fun hc => ?_) (fun hc => ?_)
    · replace hf := (if_pos hc).symm.trans hf
      refine lv_iconst (v := 0) hx hb dX10_minute_55 (by decide) ?_
      obtain rfl := Option.some.inj hf
      exact fin _ _ _ _ dX10_minute_56 hP hD hS
    · replace hf := (if_neg hc).symm.trans hf
      refine lv_aload_n hx hb dX10_minute_36 rfl (lv_at hl 0 rfl) ?_
      refine va_get (D := D) (ci := 10) (v := .ref a_t_now) (C := RX10) (T := TX10) (N := 24) hx hb hts hmsX10 hown hK hP 0 rfl rfl 4 (by decide) hw16 (fun _ h9 => h9) rfl dX10_minute_37 ?_
      refine lv_bipush (v := 14) hx hb dX10_minute_40 (by decide) ?_
      refine lv_aload_n hx hb dX10_minute_42 rfl (lv_at hl 0 rfl) ?_
      refine va_get (D := D) (ci := 10) (v := .ref a_t_now) (C := RX10) (T := TX10) (N := 24) hx hb hts hmsX10 hown hK hP 0 rfl rfl 4 (by decide) hw16 (fun _ h9 => h9) rfl dX10_minute_43 ?_
      refine lv_bipush (v := 22) hx hb dX10_minute_46 (by decide) ?_
      refine va_iald (D := D) hx hb hK hP 1 0 rfl rfl (ix_in rfl) dX10_minute_48 ?_
      refine lv_iadd hx hb dX10_minute_49 ?_
      refine lv_dup2_11 hx hb dX10_minute_50 rfl rfl ?_
      obtain ⟨hi51, hf⟩ := ix_if hf
      refine va_iald (D := D) hx hb hK hP 1 0 rfl rfl hi51 dX10_minute_51 ?_
      refine lv_iconst (v := 1) hx hb dX10_minute_52 (by decide) ?_
      refine lv_iadd hx hb dX10_minute_53 ?_
      refine va_iast (D := D) hx hb hK hP hD hS 1 0 rfl rfl hi51 dX10_minute_54 (fun H locs hP hD hS => ?_)
      replace hP : va_P D vwCl [(a_t, .inr (10, [.ref a_t_roads, .int t_homes, .int t_there, .ref a_t_book, .ref a_t_now, .int t_meetings, .ref a_t_meeting, .int t_sights, .ref a_t_sight, .int t_signs, .ref a_t_pad, .int t_touched, .int t_firstTouch, .int t_reason, .int t_acts, .ref a_t_apart, .ref a_t_rounds, .ref a_t_fewest, .ref a_t_nextFewest, .ref a_t_ways, .ref a_t_nextWays, .ref a_t_counts, .ref a_t_image, .ref a_t_isKept])), (a_t_now, .inl (cI, 25, .inl (upd (upd t_now (24 : Int32).toNatClampNeg ((t_now (24 : Int32).toNatClampNeg) + (1 : Int32))) ((14 : Int32) + ((upd t_now (24 : Int32).toNatClampNeg ((t_now (24 : Int32).toNatClampNeg) + (1 : Int32))) (22 : Int32).toNatClampNeg)).toNatClampNeg (((upd t_now (24 : Int32).toNatClampNeg ((t_now (24 : Int32).toNatClampNeg) + (1 : Int32))) ((14 : Int32) + ((upd t_now (24 : Int32).toNatClampNeg ((t_now (24 : Int32).toNatClampNeg) + (1 : Int32))) (22 : Int32).toNatClampNeg)).toNatClampNeg) + (1 : Int32)))))] H := hP
      replace hD : va_D A [(a_t, .inr (10, [.ref a_t_roads, .int t_homes, .int t_there, .ref a_t_book, .ref a_t_now, .int t_meetings, .ref a_t_meeting, .int t_sights, .ref a_t_sight, .int t_signs, .ref a_t_pad, .int t_touched, .int t_firstTouch, .int t_reason, .int t_acts, .ref a_t_apart, .ref a_t_rounds, .ref a_t_fewest, .ref a_t_nextFewest, .ref a_t_ways, .ref a_t_nextWays, .ref a_t_counts, .ref a_t_image, .ref a_t_isKept])), (a_t_now, .inl (cI, 25, .inl (upd (upd t_now (24 : Int32).toNatClampNeg ((t_now (24 : Int32).toNatClampNeg) + (1 : Int32))) ((14 : Int32) + ((upd t_now (24 : Int32).toNatClampNeg ((t_now (24 : Int32).toNatClampNeg) + (1 : Int32))) (22 : Int32).toNatClampNeg)).toNatClampNeg (((upd t_now (24 : Int32).toNatClampNeg ((t_now (24 : Int32).toNatClampNeg) + (1 : Int32))) ((14 : Int32) + ((upd t_now (24 : Int32).toNatClampNeg ((t_now (24 : Int32).toNatClampNeg) + (1 : Int32))) (22 : Int32).toNatClampNeg)).toNatClampNeg) + (1 : Int32)))))] := hD
      refine lv_iconst (v := 0) hx hb dX10_minute_55 (by decide) ?_
      obtain rfl := Option.some.inj hf
      exact fin _ _ _ _ dX10_minute_56 hP hD hS
  · replace hf := (if_pos hc).symm.trans hf
    refine lv_bipush (v := 9) hx hb dX10_minute_12 (by decide) ?_
    obtain rfl := Option.some.inj hf
    exact fin _ _ _ _ dX10_minute_14 hP hD hS
abbrev rm_X10_goDays : Room := { frames := 4, cells := 0, slots := 0, locals := 85 }
theorem ms_X10_goDays_X10 : ∀ w ∈ u_ws RX10 TX10 24, w ∈ wsX10_goDays := fun w h => List.mem_cons_of_mem _ (List.mem_append_right _ (h))
set_option maxHeartbeats 4000000 in
set_option maxRecDepth 100000 in
theorem c_X10_goDays (l : Launch) (D : va_G) (cI cJ cZ cO : ClassId) (sz : Nat) (a_t : Nat) (a_t_roads : Nat) (a_t_book : Nat) (a_t_now : Nat) (a_t_meeting : Nat) (a_t_sight : Nat) (a_t_pad : Nat) (a_t_apart : Nat) (a_t_rounds : Nat) (a_t_fewest : Nat) (a_t_nextFewest : Nat) (a_t_ways : Nat) (a_t_nextWays : Nat) (a_t_counts : Nat) (a_t_image : Nat) (a_t_isKept : Nat) (t_homes : Int32) (t_there : Int32) (t_meetings : Int32) (t_sights : Int32) (t_signs : Int32) (t_touched : Int32) (t_firstTouch : Int32) (t_reason : Int32) (t_acts : Int32) (t_roads : Nat → Int32) (t_book : Nat → Int32) (t_now : Nat → Int32) (t_pad : Nat → Int32) (res : Int32 × Int32 × Int32 × Int32 × Int32 × (Nat → Int32)) (hf : f_X10_goDays t_homes t_there t_signs t_touched t_firstTouch t_reason t_acts t_roads t_book t_now t_pad = some res) : MetI l yX10_goDays wsX10_goDays rm_X10_goDays [.ref a_t] D (tys4 cI cJ cZ cO) [(a_t, .inr (10, [.ref a_t_roads, .int t_homes, .int t_there, .ref a_t_book, .ref a_t_now, .int t_meetings, .ref a_t_meeting, .int t_sights, .ref a_t_sight, .int t_signs, .ref a_t_pad, .int t_touched, .int t_firstTouch, .int t_reason, .int t_acts, .ref a_t_apart, .ref a_t_rounds, .ref a_t_fewest, .ref a_t_nextFewest, .ref a_t_ways, .ref a_t_nextWays, .ref a_t_counts, .ref a_t_image, .ref a_t_isKept])), (a_t_roads, .inl (cI, 12, .inl t_roads)), (a_t_book, .inl (cI, 25, .inl t_book)), (a_t_now, .inl (cI, 25, .inl t_now)), (a_t_pad, .inl (cI, 60, .inl t_pad))] sz res.1 [(a_t, .inr (10, [.ref a_t_roads, .int t_homes, .int t_there, .ref a_t_book, .ref a_t_now, .int t_meetings, .ref a_t_meeting, .int t_sights, .ref a_t_sight, .int t_signs, .ref a_t_pad, .int res.2.1, .int res.2.2.1, .int res.2.2.2.1, .int res.2.2.2.2.1, .ref a_t_apart, .ref a_t_rounds, .ref a_t_fewest, .ref a_t_nextFewest, .ref a_t_ways, .ref a_t_nextWays, .ref a_t_counts, .ref a_t_image, .ref a_t_isKept])), (a_t_roads, .inl (cI, 12, .inl t_roads)), (a_t_book, .inl (cI, 25, .inl t_book)), (a_t_now, .inl (cI, 25, .inl res.2.2.2.2.2)), (a_t_pad, .inl (cI, 60, .inl t_pad))] := by
  refine met_i (cc := cX10_goDays) (maxL := 5) (by decide) rfl (Nat.le_of_ble_eq_true rfl) ?_
  intro p e s m args below meth c Q A hx hb hml hown hts hK hN hA fin H locs ls hP hD hS hl
  replace hown : s.vm.findClass RX10 = some m.cls := hown
  replace hl : lv_has ls 5 [(0, .ref a_t)] := hl
  rw [f_X10_goDays] at hf
  have hcw102 := cwV (R := rm_X10_goDays) (rm := rm_X10_asNow) 0 hts gX10_goDays_X10_asNow rfl rfl rfl (by decide +kernel) ⟨Nat.le_of_ble_eq_true rfl, Nat.le_of_ble_eq_true rfl⟩
  have hw105 := hts (.fieldLink RX10 105 "TouchReignModel" "acts" "I") (by decide +kernel)
  have hmsX10 := ms_X10_goDays_X10
  have hw86 := hts (.fieldLink RX10 86 "TouchReignModel" "signs" "I") (by decide +kernel)
  have hw96 := hts (.fieldLink RX10 96 "TouchReignModel" "touched" "I") (by decide +kernel)
  have hw25 := hts (.fieldLink RX10 25 "TouchReignModel" "pad" "[I") (by decide +kernel)
  have hw111 := hts (.fieldLink RX10 111 "TouchReignModel" "reason" "I") (by decide +kernel)
  have hw99 := hts (.fieldLink RX10 99 "TouchReignModel" "firstTouch" "I") (by decide +kernel)
  have hcw124 := cwV (R := rm_X10_goDays) (rm := rm_X10_run) 2 hts gX10_goDays_X10_run rfl rfl rfl (by decide +kernel) ⟨Nat.le_of_ble_eq_true rfl, Nat.le_of_ble_eq_true rfl⟩
  have hcw121 := cwV (R := rm_X10_goDays) (rm := rm_X10_cross) 1 hts gX10_goDays_X10_cross rfl rfl rfl (by decide +kernel) ⟨Nat.le_of_ble_eq_true rfl, Nat.le_of_ble_eq_true rfl⟩
  have hcw118 := cwV (R := rm_X10_goDays) (rm := rm_X10_rest) 1 hts gX10_goDays_X10_rest rfl rfl rfl (by decide +kernel) ⟨Nat.le_of_ble_eq_true rfl, Nat.le_of_ble_eq_true rfl⟩
  have hcw114 := cwV (R := rm_X10_goDays) (rm := rm_X10_touch) 2 hts gX10_goDays_X10_touch rfl rfl rfl (by decide +kernel) ⟨Nat.le_of_ble_eq_true rfl, Nat.le_of_ble_eq_true rfl⟩
  have hcw108 := cwV (R := rm_X10_goDays) (rm := rm_X10_minute) 0 hts gX10_goDays_X10_minute rfl rfl rfl (by decide +kernel) ⟨Nat.le_of_ble_eq_true rfl, Nat.le_of_ble_eq_true rfl⟩
  refine lv_aload_n hx hb dX10_goDays_0 rfl (lv_at hl 0 rfl) ?_
  obtain ⟨x1, hx1, hf⟩ := bd_if hf
  refine cv_v (wr := [(a_t_roads, .inl (cI, 12, .inl t_roads)), (a_t_pad, .inl (cI, 60, .inl t_pad))]) (ws' := [(a_t, .inr (10, [.ref a_t_roads, .int t_homes, .int t_there, .ref a_t_book, .ref a_t_now, .int t_meetings, .ref a_t_meeting, .int t_sights, .ref a_t_sight, .int t_signs, .ref a_t_pad, .int x1.1, .int x1.2.1, .int t_reason, .int t_acts, .ref a_t_apart, .ref a_t_rounds, .ref a_t_fewest, .ref a_t_nextFewest, .ref a_t_ways, .ref a_t_nextWays, .ref a_t_counts, .ref a_t_image, .ref a_t_isKept])), (a_t_roads, .inl (cI, 12, .inl t_roads)), (a_t_book, .inl (cI, 25, .inl t_book)), (a_t_now, .inl (cI, 25, .inl x1.2.2)), (a_t_pad, .inl (cI, 60, .inl t_pad))]) ⟨hx, hb, hml, hown, hts⟩ hcw102 hK hN hP hD hS hA (c_X10_asNow l D cI cJ cZ cO _ a_t a_t_roads a_t_book a_t_now a_t_meeting a_t_sight a_t_pad a_t_apart a_t_rounds a_t_fewest a_t_nextFewest a_t_ways a_t_nextWays a_t_counts a_t_image a_t_isKept t_homes t_there t_meetings t_sights t_signs t_touched t_firstTouch t_reason t_acts t_book t_now x1 hx1) (q := (RX10, TX10, 24)) (ci := 10) (q0 := 0) rfl rfl [0, 2, 3] [1, 4] [2, 0, 3, 4, 1] rfl rfl rfl rfl (by decide) rfl rfl rfl hl.1 rfl (Nat.le_of_ble_eq_true rfl) dX10_goDays_1 ⟨Nat.zero_le _, Nat.zero_le _⟩ (fun H locs hP hD hS => ?_)
  refine lv_aload_n hx hb dX10_goDays_4 rfl (lv_at hl 0 rfl) ?_
  refine lv_iconst (v := 0) hx hb dX10_goDays_5 (by decide) ?_
  refine va_put (D := D) (ci := 10) (v := .int (0 : Int32)) (ty := .int) (C := RX10) (T := TX10) (N := 24) hx hb hts hmsX10 tyX10 tyX10_ok nmX10 hown hK hP hD hS 0 rfl rfl 14 (by decide) hw105 (fun _ h9 => h9) rfl (by decide +kernel) rfl rfl (Nat.le_of_ble_eq_true rfl) dX10_goDays_6 (fun H locs hP hD hS => ?_)
  replace hP : va_P D vwCl [(a_t, .inr (10, [.ref a_t_roads, .int t_homes, .int t_there, .ref a_t_book, .ref a_t_now, .int t_meetings, .ref a_t_meeting, .int t_sights, .ref a_t_sight, .int t_signs, .ref a_t_pad, .int x1.1, .int x1.2.1, .int t_reason, .int (0 : Int32), .ref a_t_apart, .ref a_t_rounds, .ref a_t_fewest, .ref a_t_nextFewest, .ref a_t_ways, .ref a_t_nextWays, .ref a_t_counts, .ref a_t_image, .ref a_t_isKept])), (a_t_roads, .inl (cI, 12, .inl t_roads)), (a_t_book, .inl (cI, 25, .inl t_book)), (a_t_now, .inl (cI, 25, .inl x1.2.2)), (a_t_pad, .inl (cI, 60, .inl t_pad))] H := hP
  replace hD : va_D A [(a_t, .inr (10, [.ref a_t_roads, .int t_homes, .int t_there, .ref a_t_book, .ref a_t_now, .int t_meetings, .ref a_t_meeting, .int t_sights, .ref a_t_sight, .int t_signs, .ref a_t_pad, .int x1.1, .int x1.2.1, .int t_reason, .int (0 : Int32), .ref a_t_apart, .ref a_t_rounds, .ref a_t_fewest, .ref a_t_nextFewest, .ref a_t_ways, .ref a_t_nextWays, .ref a_t_counts, .ref a_t_image, .ref a_t_isKept])), (a_t_roads, .inl (cI, 12, .inl t_roads)), (a_t_book, .inl (cI, 25, .inl t_book)), (a_t_now, .inl (cI, 25, .inl x1.2.2)), (a_t_pad, .inl (cI, 60, .inl t_pad))] := hD
  refine lv_iconst (v := 0) hx hb dX10_goDays_9 (by decide) ?_
  refine lv_istore_n (lv' := [(1, .int (0 : Int32)), (0, .ref a_t)]) hx hb dX10_goDays_10 rfl hl (by decide) rfl (fun ls hl => ?_)
  have hX11 : ∀ (x11t_touched : Int32) (x11t_firstTouch : Int32) (x11t_reason : Int32) (x11t_acts : Int32) (x11t_now : Nat → Int32) (H : Heap) (locs : List Loc) (ls : Array Slot), va_P D vwCl [(a_t, .inr (10, [.ref a_t_roads, .int t_homes, .int t_there, .ref a_t_book, .ref a_t_now, .int t_meetings, .ref a_t_meeting, .int t_sights, .ref a_t_sight, .int t_signs, .ref a_t_pad, .int x11t_touched, .int x11t_firstTouch, .int x11t_reason, .int x11t_acts, .ref a_t_apart, .ref a_t_rounds, .ref a_t_fewest, .ref a_t_nextFewest, .ref a_t_ways, .ref a_t_nextWays, .ref a_t_counts, .ref a_t_image, .ref a_t_isKept])), (a_t_roads, .inl (cI, 12, .inl t_roads)), (a_t_book, .inl (cI, 25, .inl t_book)), (a_t_now, .inl (cI, 25, .inl x11t_now)), (a_t_pad, .inl (cI, 60, .inl t_pad))] H → va_D A [(a_t, .inr (10, [.ref a_t_roads, .int t_homes, .int t_there, .ref a_t_book, .ref a_t_now, .int t_meetings, .ref a_t_meeting, .int t_sights, .ref a_t_sight, .int t_signs, .ref a_t_pad, .int x11t_touched, .int x11t_firstTouch, .int x11t_reason, .int x11t_acts, .ref a_t_apart, .ref a_t_rounds, .ref a_t_fewest, .ref a_t_nextFewest, .ref a_t_ways, .ref a_t_nextWays, .ref a_t_counts, .ref a_t_image, .ref a_t_isKept])), (a_t_roads, .inl (cI, 12, .inl t_roads)), (a_t_book, .inl (cI, 25, .inl t_book)), (a_t_now, .inl (cI, 25, .inl x11t_now)), (a_t_pad, .inl (cI, 60, .inl t_pad))] → va_S A s.heap H locs → lv_has ls 5 [] → f_X10_goDays_X11 x11t_touched x11t_firstTouch x11t_reason x11t_acts x11t_now = some res → W p l e rm_X10_goDays s m args below meth c H locs 0 0 Q (F0 m 204 ls []) := by
    intro x11t_touched x11t_firstTouch x11t_reason x11t_acts x11t_now H locs ls hP hD hS hl hf
    rw [f_X10_goDays_X11] at hf
    refine lv_bipush (v := -6) hx hb dX10_goDays_204 (by decide) ?_
    obtain rfl := Option.some.inj hf
    exact fin _ _ _ _ dX10_goDays_206 hP hD hS
  have hL11 : ∀ (n11 : Nat), ∀ (l11v1 : Int32) (l11t_touched : Int32) (l11t_firstTouch : Int32) (l11t_reason : Int32) (l11t_acts : Int32) (l11t_now : Nat → Int32) (H : Heap) (locs : List Loc) (ls : Array Slot), va_P D vwCl [(a_t, .inr (10, [.ref a_t_roads, .int t_homes, .int t_there, .ref a_t_book, .ref a_t_now, .int t_meetings, .ref a_t_meeting, .int t_sights, .ref a_t_sight, .int t_signs, .ref a_t_pad, .int l11t_touched, .int l11t_firstTouch, .int l11t_reason, .int l11t_acts, .ref a_t_apart, .ref a_t_rounds, .ref a_t_fewest, .ref a_t_nextFewest, .ref a_t_ways, .ref a_t_nextWays, .ref a_t_counts, .ref a_t_image, .ref a_t_isKept])), (a_t_roads, .inl (cI, 12, .inl t_roads)), (a_t_book, .inl (cI, 25, .inl t_book)), (a_t_now, .inl (cI, 25, .inl l11t_now)), (a_t_pad, .inl (cI, 60, .inl t_pad))] H → va_D A [(a_t, .inr (10, [.ref a_t_roads, .int t_homes, .int t_there, .ref a_t_book, .ref a_t_now, .int t_meetings, .ref a_t_meeting, .int t_sights, .ref a_t_sight, .int t_signs, .ref a_t_pad, .int l11t_touched, .int l11t_firstTouch, .int l11t_reason, .int l11t_acts, .ref a_t_apart, .ref a_t_rounds, .ref a_t_fewest, .ref a_t_nextFewest, .ref a_t_ways, .ref a_t_nextWays, .ref a_t_counts, .ref a_t_image, .ref a_t_isKept])), (a_t_roads, .inl (cI, 12, .inl t_roads)), (a_t_book, .inl (cI, 25, .inl t_book)), (a_t_now, .inl (cI, 25, .inl l11t_now)), (a_t_pad, .inl (cI, 60, .inl t_pad))] → va_S A s.heap H locs → lv_has ls 5 [(0, .ref a_t), (1, .int l11v1)] → f_X10_goDays_L11 t_homes t_there t_signs t_roads t_pad f_X10_goDays_X11 n11 l11v1 l11t_touched l11t_firstTouch l11t_reason l11t_acts l11t_now = some res → W p l e rm_X10_goDays s m args below meth c H locs 0 0 Q (F0 m 11 ls []) := by
    intro n11
    induction n11 with
    | zero =>
      intro l11v1 l11t_touched l11t_firstTouch l11t_reason l11t_acts l11t_now H locs ls hP hD hS hl hf
      rw [f_X10_goDays_L11] at hf
      cases hf
    | succ n11 ih11 =>
      intro l11v1 l11t_touched l11t_firstTouch l11t_reason l11t_acts l11t_now H locs ls hP hD hS hl hf
      rw [f_X10_goDays_L11] at hf
      refine lv_iload_n hx hb dX10_goDays_11 rfl (lv_at hl 1 rfl) ?_
      refine lv_aload_n hx hb dX10_goDays_12 rfl (lv_at hl 0 rfl) ?_
      refine va_get (D := D) (ci := 10) (v := .int t_signs) (C := RX10) (T := TX10) (N := 24) hx hb hts hmsX10 hown hK hP 0 rfl rfl 9 (by decide) hw86 (fun _ h9 => h9) rfl dX10_goDays_13 ?_
      refine lv_icmp_ge (tgt := 204) hx hb dX10_goDays_16 (by decide) (fun hc => ?_) (fun hc => ?_)
      · replace hf := (if_pos hc).symm.trans hf
        exact hX11 l11t_touched l11t_firstTouch l11t_reason l11t_acts l11t_now _ _ _ hP hD hS (lv_sub hl [] rfl) hf
      · replace hf := (if_neg hc).symm.trans hf
        refine lv_aload_n hx hb dX10_goDays_19 rfl (lv_at hl 0 rfl) ?_
        refine va_get (D := D) (ci := 10) (v := .int l11t_touched) (C := RX10) (T := TX10) (N := 24) hx hb hts hmsX10 hown hK hP 0 rfl rfl 11 (by decide) hw96 (fun _ h9 => h9) rfl dX10_goDays_20 ?_
        refine lv_istore_n (lv' := [(2, .int l11t_touched), (0, .ref a_t), (1, .int l11v1)]) hx hb dX10_goDays_23 rfl hl (by decide) rfl (fun ls hl => ?_)
        refine lv_aload_n hx hb dX10_goDays_24 rfl (lv_at hl 1 rfl) ?_
        refine va_get (D := D) (ci := 10) (v := .ref a_t_pad) (C := RX10) (T := TX10) (N := 24) hx hb hts hmsX10 hown hK hP 0 rfl rfl 10 (by decide) hw25 (fun _ h9 => h9) rfl dX10_goDays_25 ?_
        refine lv_iload_n hx hb dX10_goDays_28 rfl (lv_at hl 2 rfl) ?_
        obtain ⟨hi29, hf⟩ := ix_if hf
        refine va_iald (D := D) hx hb hK hP 4 0 rfl rfl hi29 dX10_goDays_29 ?_
        refine lv_bipush (v := 46) hx hb dX10_goDays_30 (by decide) ?_
        have hB149 : ∀ (b149v1 : Int32) (b149t_touched : Int32) (b149t_reason : Int32) (b149t_now : Nat → Int32) (H : Heap) (locs : List Loc) (ls : Array Slot), va_P D vwCl [(a_t, .inr (10, [.ref a_t_roads, .int t_homes, .int t_there, .ref a_t_book, .ref a_t_now, .int t_meetings, .ref a_t_meeting, .int t_sights, .ref a_t_sight, .int t_signs, .ref a_t_pad, .int b149t_touched, .int l11t_firstTouch, .int b149t_reason, .int l11t_acts, .ref a_t_apart, .ref a_t_rounds, .ref a_t_fewest, .ref a_t_nextFewest, .ref a_t_ways, .ref a_t_nextWays, .ref a_t_counts, .ref a_t_image, .ref a_t_isKept])), (a_t_roads, .inl (cI, 12, .inl t_roads)), (a_t_book, .inl (cI, 25, .inl t_book)), (a_t_now, .inl (cI, 25, .inl b149t_now)), (a_t_pad, .inl (cI, 60, .inl t_pad))] H → va_D A [(a_t, .inr (10, [.ref a_t_roads, .int t_homes, .int t_there, .ref a_t_book, .ref a_t_now, .int t_meetings, .ref a_t_meeting, .int t_sights, .ref a_t_sight, .int t_signs, .ref a_t_pad, .int b149t_touched, .int l11t_firstTouch, .int b149t_reason, .int l11t_acts, .ref a_t_apart, .ref a_t_rounds, .ref a_t_fewest, .ref a_t_nextFewest, .ref a_t_ways, .ref a_t_nextWays, .ref a_t_counts, .ref a_t_image, .ref a_t_isKept])), (a_t_roads, .inl (cI, 12, .inl t_roads)), (a_t_book, .inl (cI, 25, .inl t_book)), (a_t_now, .inl (cI, 25, .inl b149t_now)), (a_t_pad, .inl (cI, 60, .inl t_pad))] → va_S A s.heap H locs → lv_has ls 5 [(0, .ref a_t), (1, .int b149v1), (2, .int l11t_touched)] → f_X10_goDays_B149 l11t_touched l11t_firstTouch l11t_acts (f_X10_goDays_L11 t_homes t_there t_signs t_roads t_pad f_X10_goDays_X11 n11) b149v1 b149t_touched b149t_reason b149t_now = some res → W p l e rm_X10_goDays s m args below meth c H locs 0 0 Q (F0 m 149 ls []) := by
          intro b149v1 b149t_touched b149t_reason b149t_now H locs ls hP hD hS hl hf
          rw [f_X10_goDays_B149] at hf
          refine lv_aload_n hx hb dX10_goDays_149 rfl (lv_at hl 0 rfl) ?_
          refine va_get (D := D) (ci := 10) (v := .int b149t_reason) (C := RX10) (T := TX10) (N := 24) hx hb hts hmsX10 hown hK hP 0 rfl rfl 13 (by decide) hw111 (fun _ h9 => h9) rfl dX10_goDays_150 ?_
          refine lv_if_le (tgt := 161) hx hb dX10_goDays_153 (by decide) (fun hc => ?_) (fun hc => ?_)
          · replace hf := (if_pos hc).symm.trans hf
            refine lv_aload_n hx hb dX10_goDays_161 rfl (lv_at hl 0 rfl) ?_
            refine lv_aload_n hx hb dX10_goDays_162 rfl (lv_at hl 0 rfl) ?_
            refine va_get (D := D) (ci := 10) (v := .int l11t_firstTouch) (C := RX10) (T := TX10) (N := 24) hx hb hts hmsX10 hown hK hP 0 rfl rfl 12 (by decide) hw99 (fun _ h9 => h9) rfl dX10_goDays_163 ?_
            have hB188 : ∀ (b188s0 : Int32) (H : Heap) (locs : List Loc) (ls : Array Slot), va_P D vwCl [(a_t, .inr (10, [.ref a_t_roads, .int t_homes, .int t_there, .ref a_t_book, .ref a_t_now, .int t_meetings, .ref a_t_meeting, .int t_sights, .ref a_t_sight, .int t_signs, .ref a_t_pad, .int b149t_touched, .int l11t_firstTouch, .int b149t_reason, .int l11t_acts, .ref a_t_apart, .ref a_t_rounds, .ref a_t_fewest, .ref a_t_nextFewest, .ref a_t_ways, .ref a_t_nextWays, .ref a_t_counts, .ref a_t_image, .ref a_t_isKept])), (a_t_roads, .inl (cI, 12, .inl t_roads)), (a_t_book, .inl (cI, 25, .inl t_book)), (a_t_now, .inl (cI, 25, .inl b149t_now)), (a_t_pad, .inl (cI, 60, .inl t_pad))] H → va_D A [(a_t, .inr (10, [.ref a_t_roads, .int t_homes, .int t_there, .ref a_t_book, .ref a_t_now, .int t_meetings, .ref a_t_meeting, .int t_sights, .ref a_t_sight, .int t_signs, .ref a_t_pad, .int b149t_touched, .int l11t_firstTouch, .int b149t_reason, .int l11t_acts, .ref a_t_apart, .ref a_t_rounds, .ref a_t_fewest, .ref a_t_nextFewest, .ref a_t_ways, .ref a_t_nextWays, .ref a_t_counts, .ref a_t_image, .ref a_t_isKept])), (a_t_roads, .inl (cI, 12, .inl t_roads)), (a_t_book, .inl (cI, 25, .inl t_book)), (a_t_now, .inl (cI, 25, .inl b149t_now)), (a_t_pad, .inl (cI, 60, .inl t_pad))] → va_S A s.heap H locs → lv_has ls 5 [(0, .ref a_t), (1, .int b149v1)] → f_X10_goDays_B188 l11t_acts (f_X10_goDays_L11 t_homes t_there t_signs t_roads t_pad f_X10_goDays_X11 n11) b149v1 b149t_touched b149t_reason b149t_now b188s0 = some res → W p l e rm_X10_goDays s m args below meth c H locs 0 0 Q (F0 m 188 ls [.int b188s0, .ref a_t]) := by
              intro b188s0 H locs ls hP hD hS hl hf
              rw [f_X10_goDays_B188] at hf
              refine va_put (D := D) (ci := 10) (v := .int b188s0) (ty := .int) (C := RX10) (T := TX10) (N := 24) hx hb hts hmsX10 tyX10 tyX10_ok nmX10 hown hK hP hD hS 0 rfl rfl 12 (by decide) hw99 (fun _ h9 => h9) rfl (by decide +kernel) rfl rfl (Nat.le_of_ble_eq_true rfl) dX10_goDays_188 (fun H locs hP hD hS => ?_)
              replace hP : va_P D vwCl [(a_t, .inr (10, [.ref a_t_roads, .int t_homes, .int t_there, .ref a_t_book, .ref a_t_now, .int t_meetings, .ref a_t_meeting, .int t_sights, .ref a_t_sight, .int t_signs, .ref a_t_pad, .int b149t_touched, .int b188s0, .int b149t_reason, .int l11t_acts, .ref a_t_apart, .ref a_t_rounds, .ref a_t_fewest, .ref a_t_nextFewest, .ref a_t_ways, .ref a_t_nextWays, .ref a_t_counts, .ref a_t_image, .ref a_t_isKept])), (a_t_roads, .inl (cI, 12, .inl t_roads)), (a_t_book, .inl (cI, 25, .inl t_book)), (a_t_now, .inl (cI, 25, .inl b149t_now)), (a_t_pad, .inl (cI, 60, .inl t_pad))] H := hP
              replace hD : va_D A [(a_t, .inr (10, [.ref a_t_roads, .int t_homes, .int t_there, .ref a_t_book, .ref a_t_now, .int t_meetings, .ref a_t_meeting, .int t_sights, .ref a_t_sight, .int t_signs, .ref a_t_pad, .int b149t_touched, .int b188s0, .int b149t_reason, .int l11t_acts, .ref a_t_apart, .ref a_t_rounds, .ref a_t_fewest, .ref a_t_nextFewest, .ref a_t_ways, .ref a_t_nextWays, .ref a_t_counts, .ref a_t_image, .ref a_t_isKept])), (a_t_roads, .inl (cI, 12, .inl t_roads)), (a_t_book, .inl (cI, 25, .inl t_book)), (a_t_now, .inl (cI, 25, .inl b149t_now)), (a_t_pad, .inl (cI, 60, .inl t_pad))] := hD
              refine lv_aload_n hx hb dX10_goDays_191 rfl (lv_at hl 0 rfl) ?_
              refine lv_dup hx hb dX10_goDays_192 rfl ?_
              refine va_get (D := D) (ci := 10) (v := .int l11t_acts) (C := RX10) (T := TX10) (N := 24) hx hb hts hmsX10 hown hK hP 0 rfl rfl 14 (by decide) hw105 (fun _ h9 => h9) rfl dX10_goDays_193 ?_
              refine lv_iconst (v := 1) hx hb dX10_goDays_196 (by decide) ?_
              refine lv_iadd hx hb dX10_goDays_197 ?_
              refine va_put (D := D) (ci := 10) (v := .int (l11t_acts + (1 : Int32))) (ty := .int) (C := RX10) (T := TX10) (N := 24) hx hb hts hmsX10 tyX10 tyX10_ok nmX10 hown hK hP hD hS 0 rfl rfl 14 (by decide) hw105 (fun _ h9 => h9) rfl (by decide +kernel) rfl rfl (Nat.le_of_ble_eq_true rfl) dX10_goDays_198 (fun H locs hP hD hS => ?_)
              replace hP : va_P D vwCl [(a_t, .inr (10, [.ref a_t_roads, .int t_homes, .int t_there, .ref a_t_book, .ref a_t_now, .int t_meetings, .ref a_t_meeting, .int t_sights, .ref a_t_sight, .int t_signs, .ref a_t_pad, .int b149t_touched, .int b188s0, .int b149t_reason, .int (l11t_acts + (1 : Int32)), .ref a_t_apart, .ref a_t_rounds, .ref a_t_fewest, .ref a_t_nextFewest, .ref a_t_ways, .ref a_t_nextWays, .ref a_t_counts, .ref a_t_image, .ref a_t_isKept])), (a_t_roads, .inl (cI, 12, .inl t_roads)), (a_t_book, .inl (cI, 25, .inl t_book)), (a_t_now, .inl (cI, 25, .inl b149t_now)), (a_t_pad, .inl (cI, 60, .inl t_pad))] H := hP
              replace hD : va_D A [(a_t, .inr (10, [.ref a_t_roads, .int t_homes, .int t_there, .ref a_t_book, .ref a_t_now, .int t_meetings, .ref a_t_meeting, .int t_sights, .ref a_t_sight, .int t_signs, .ref a_t_pad, .int b149t_touched, .int b188s0, .int b149t_reason, .int (l11t_acts + (1 : Int32)), .ref a_t_apart, .ref a_t_rounds, .ref a_t_fewest, .ref a_t_nextFewest, .ref a_t_ways, .ref a_t_nextWays, .ref a_t_counts, .ref a_t_image, .ref a_t_isKept])), (a_t_roads, .inl (cI, 12, .inl t_roads)), (a_t_book, .inl (cI, 25, .inl t_book)), (a_t_now, .inl (cI, 25, .inl b149t_now)), (a_t_pad, .inl (cI, 60, .inl t_pad))] := hD
              refine lv_goto (tgt := 11) hx hb dX10_goDays_201 (by decide) ?_
              exact ih11 b149v1 b149t_touched b188s0 b149t_reason (l11t_acts + (1 : Int32)) b149t_now _ _ _ hP hD hS (lv_sub hl [0, 1] rfl) hf
            have hB184 : ∀ (H : Heap) (locs : List Loc) (ls : Array Slot), va_P D vwCl [(a_t, .inr (10, [.ref a_t_roads, .int t_homes, .int t_there, .ref a_t_book, .ref a_t_now, .int t_meetings, .ref a_t_meeting, .int t_sights, .ref a_t_sight, .int t_signs, .ref a_t_pad, .int b149t_touched, .int l11t_firstTouch, .int b149t_reason, .int l11t_acts, .ref a_t_apart, .ref a_t_rounds, .ref a_t_fewest, .ref a_t_nextFewest, .ref a_t_ways, .ref a_t_nextWays, .ref a_t_counts, .ref a_t_image, .ref a_t_isKept])), (a_t_roads, .inl (cI, 12, .inl t_roads)), (a_t_book, .inl (cI, 25, .inl t_book)), (a_t_now, .inl (cI, 25, .inl b149t_now)), (a_t_pad, .inl (cI, 60, .inl t_pad))] H → va_D A [(a_t, .inr (10, [.ref a_t_roads, .int t_homes, .int t_there, .ref a_t_book, .ref a_t_now, .int t_meetings, .ref a_t_meeting, .int t_sights, .ref a_t_sight, .int t_signs, .ref a_t_pad, .int b149t_touched, .int l11t_firstTouch, .int b149t_reason, .int l11t_acts, .ref a_t_apart, .ref a_t_rounds, .ref a_t_fewest, .ref a_t_nextFewest, .ref a_t_ways, .ref a_t_nextWays, .ref a_t_counts, .ref a_t_image, .ref a_t_isKept])), (a_t_roads, .inl (cI, 12, .inl t_roads)), (a_t_book, .inl (cI, 25, .inl t_book)), (a_t_now, .inl (cI, 25, .inl b149t_now)), (a_t_pad, .inl (cI, 60, .inl t_pad))] → va_S A s.heap H locs → lv_has ls 5 [(0, .ref a_t), (1, .int b149v1)] → f_X10_goDays_B184 l11t_firstTouch l11t_acts (f_X10_goDays_L11 t_homes t_there t_signs t_roads t_pad f_X10_goDays_X11 n11) b149v1 b149t_touched b149t_reason b149t_now = some res → W p l e rm_X10_goDays s m args below meth c H locs 0 0 Q (F0 m 184 ls [.ref a_t]) := by
              intro  H locs ls hP hD hS hl hf
              rw [f_X10_goDays_B184] at hf
              refine lv_aload_n hx hb dX10_goDays_184 rfl (lv_at hl 0 rfl) ?_
              refine va_get (D := D) (ci := 10) (v := .int l11t_firstTouch) (C := RX10) (T := TX10) (N := 24) hx hb hts hmsX10 hown hK hP 0 rfl rfl 12 (by decide) hw99 (fun _ h9 => h9) rfl dX10_goDays_185 ?_
              exact hB188 l11t_firstTouch _ _ _ hP hD hS (lv_sub hl [0, 1] rfl) hf
            refine lv_if_ge (tgt := 184) hx hb dX10_goDays_166 (by decide) (fun hc => ?_) (fun hc => ?_)
            · replace hf := (if_pos hc).symm.trans hf
              exact hB184 _ _ _ hP hD hS (lv_sub hl [0, 1] rfl) hf
            · replace hf := (if_neg hc).symm.trans hf
              refine lv_aload_n hx hb dX10_goDays_169 rfl (lv_at hl 0 rfl) ?_
              refine va_get (D := D) (ci := 10) (v := .int b149t_touched) (C := RX10) (T := TX10) (N := 24) hx hb hts hmsX10 hown hK hP 0 rfl rfl 11 (by decide) hw96 (fun _ h9 => h9) rfl dX10_goDays_170 ?_
              refine lv_iload_n hx hb dX10_goDays_173 rfl (lv_at hl 2 rfl) ?_
              refine lv_icmp_le (tgt := 184) hx hb dX10_goDays_174 (by decide) (fun hc => ?_) (fun hc => ?_)
              · replace hf := (if_pos hc).symm.trans hf
                exact hB184 _ _ _ hP hD hS (lv_sub hl [0, 1] rfl) hf
              · replace hf := (if_neg hc).symm.trans hf
                refine lv_aload_n hx hb dX10_goDays_177 rfl (lv_at hl 0 rfl) ?_
                refine va_get (D := D) (ci := 10) (v := .int l11t_acts) (C := RX10) (T := TX10) (N := 24) hx hb hts hmsX10 hown hK hP 0 rfl rfl 14 (by decide) hw105 (fun _ h9 => h9) rfl dX10_goDays_178 ?_
                refine lv_goto (tgt := 188) hx hb dX10_goDays_181 (by decide) ?_
                exact hB188 l11t_acts _ _ _ hP hD hS (lv_sub hl [0, 1] rfl) hf
          · replace hf := (if_neg hc).symm.trans hf
            refine lv_aload_n hx hb dX10_goDays_156 rfl (lv_at hl 0 rfl) ?_
            refine va_get (D := D) (ci := 10) (v := .int l11t_acts) (C := RX10) (T := TX10) (N := 24) hx hb hts hmsX10 hown hK hP 0 rfl rfl 14 (by decide) hw105 (fun _ h9 => h9) rfl dX10_goDays_157 ?_
            obtain rfl := Option.some.inj hf
            exact fin _ _ _ _ dX10_goDays_160 hP hD hS
        refine lv_icmp_ne (tgt := 49) hx hb dX10_goDays_32 (by decide) (fun hc => ?_) (fun hc => ?_)
        · replace hf := (if_neg hc).symm.trans hf
          refine lv_aload_n hx hb dX10_goDays_49 rfl (lv_at hl 1 rfl) ?_
          refine va_get (D := D) (ci := 10) (v := .ref a_t_pad) (C := RX10) (T := TX10) (N := 24) hx hb hts hmsX10 hown hK hP 0 rfl rfl 10 (by decide) hw25 (fun _ h9 => h9) rfl dX10_goDays_50 ?_
          refine lv_iload_n hx hb dX10_goDays_53 rfl (lv_at hl 2 rfl) ?_
          refine va_iald (D := D) hx hb hK hP 4 0 rfl rfl hi29 dX10_goDays_54 ?_
          refine lv_bipush (v := 65) hx hb dX10_goDays_55 (by decide) ?_
          refine lv_isub hx hb dX10_goDays_57 ?_
          refine lv_istore_n (lv' := [(3, .int ((t_pad l11v1.toNatClampNeg) - (65 : Int32))), (2, .int l11t_touched), (0, .ref a_t), (1, .int l11v1)]) hx hb dX10_goDays_58 rfl hl (by decide) rfl (fun ls hl => ?_)
          refine lv_aload_n hx hb dX10_goDays_59 rfl (lv_at hl 2 rfl) ?_
          refine va_get (D := D) (ci := 10) (v := .ref a_t_pad) (C := RX10) (T := TX10) (N := 24) hx hb hts hmsX10 hown hK hP 0 rfl rfl 10 (by decide) hw25 (fun _ h9 => h9) rfl dX10_goDays_60 ?_
          refine lv_iload_n hx hb dX10_goDays_63 rfl (lv_at hl 3 rfl) ?_
          refine lv_iconst (v := 1) hx hb dX10_goDays_64 (by decide) ?_
          refine lv_iadd hx hb dX10_goDays_65 ?_
          obtain ⟨hi66, hf⟩ := ix_if hf
          refine va_iald (D := D) hx hb hK hP 4 0 rfl rfl hi66 dX10_goDays_66 ?_
          refine lv_istore (lv' := [(4, .int (t_pad (l11v1 + (1 : Int32)).toNatClampNeg)), (3, .int ((t_pad l11v1.toNatClampNeg) - (65 : Int32))), (2, .int l11t_touched), (0, .ref a_t), (1, .int l11v1)]) hx hb dX10_goDays_67 hl (by decide) rfl (fun ls hl => ?_)
          refine lv_iload hx hb dX10_goDays_69 (lv_at hl 0 rfl) ?_
          refine lv_bipush (v := 62) hx hb dX10_goDays_71 (by decide) ?_
          refine lv_icmp_ne (tgt := 102) hx hb dX10_goDays_73 (by decide) (fun hc => ?_) (fun hc => ?_)
          · replace hf := (if_neg hc).symm.trans hf
            refine lv_aload_n hx hb dX10_goDays_102 rfl (lv_at hl 3 rfl) ?_
            refine lv_iload hx hb dX10_goDays_103 (lv_at hl 0 rfl) ?_
            refine lv_bipush (v := 43) hx hb dX10_goDays_105 (by decide) ?_
            refine lv_icmp_ne (tgt := 118) hx hb dX10_goDays_107 (by decide) (fun hc => ?_) (fun hc => ?_)
            · replace hf := (if_neg hc).symm.trans hf
              refine lv_iload hx hb dX10_goDays_118 (lv_at hl 0 rfl) ?_
              refine lv_bipush (v := 42) hx hb dX10_goDays_120 (by decide) ?_
              refine lv_icmp_ne (tgt := 133) hx hb dX10_goDays_122 (by decide) (fun hc => ?_) (fun hc => ?_)
              · replace hf := (if_neg hc).symm.trans hf
                refine lv_aload_n hx hb dX10_goDays_133 rfl (lv_at hl 3 rfl) ?_
                refine lv_iload_n hx hb dX10_goDays_134 rfl (lv_at hl 1 rfl) ?_
                refine lv_iload hx hb dX10_goDays_135 (lv_at hl 0 rfl) ?_
                refine lv_bipush (v := 97) hx hb dX10_goDays_137 (by decide) ?_
                refine lv_isub hx hb dX10_goDays_139 ?_
                obtain ⟨x140, hx140, hf⟩ := bd_if hf
                refine cv_i (wr := [(a_t_book, .inl (cI, 25, .inl t_book)), (a_t_pad, .inl (cI, 60, .inl t_pad))]) (ws' := [(a_t, .inr (10, [.ref a_t_roads, .int t_homes, .int t_there, .ref a_t_book, .ref a_t_now, .int t_meetings, .ref a_t_meeting, .int t_sights, .ref a_t_sight, .int t_signs, .ref a_t_pad, .int l11t_touched, .int l11t_firstTouch, .int l11t_reason, .int l11t_acts, .ref a_t_apart, .ref a_t_rounds, .ref a_t_fewest, .ref a_t_nextFewest, .ref a_t_ways, .ref a_t_nextWays, .ref a_t_counts, .ref a_t_image, .ref a_t_isKept])), (a_t_roads, .inl (cI, 12, .inl t_roads)), (a_t_book, .inl (cI, 25, .inl t_book)), (a_t_now, .inl (cI, 25, .inl x140.2)), (a_t_pad, .inl (cI, 60, .inl t_pad))]) ⟨hx, hb, hml, hown, hts⟩ hcw124 hK hN hP hD hS hA (c_X10_run l D cI cJ cZ cO _ a_t a_t_roads a_t_book a_t_now a_t_meeting a_t_sight a_t_pad a_t_apart a_t_rounds a_t_fewest a_t_nextFewest a_t_ways a_t_nextWays a_t_counts a_t_image a_t_isKept t_homes t_there t_meetings t_sights t_signs l11t_touched l11t_firstTouch l11t_reason l11t_acts t_roads l11t_now ((t_pad l11v1.toNatClampNeg) - (65 : Int32)) ((t_pad (l11v1 + (1 : Int32)).toNatClampNeg) - (97 : Int32)) x140 hx140) (q := (RX10, TX10, 24)) (ci := 10) (q0 := 0) rfl rfl [0, 1, 3] [2, 4] [2, 3, 0, 4, 1] rfl rfl rfl rfl (by decide) rfl rfl rfl hl.1 rfl (Nat.le_of_ble_eq_true rfl) dX10_goDays_140 ⟨Nat.zero_le _, Nat.zero_le _⟩ (fun H locs hP hD hS => ?_)
                refine va_put (D := D) (ci := 10) (v := .int x140.1) (ty := .int) (C := RX10) (T := TX10) (N := 24) hx hb hts hmsX10 tyX10 tyX10_ok nmX10 hown hK hP hD hS 0 rfl rfl 13 (by decide) hw111 (fun _ h9 => h9) rfl (by decide +kernel) rfl rfl (Nat.le_of_ble_eq_true rfl) dX10_goDays_143 (fun H locs hP hD hS => ?_)
                replace hP : va_P D vwCl [(a_t, .inr (10, [.ref a_t_roads, .int t_homes, .int t_there, .ref a_t_book, .ref a_t_now, .int t_meetings, .ref a_t_meeting, .int t_sights, .ref a_t_sight, .int t_signs, .ref a_t_pad, .int l11t_touched, .int l11t_firstTouch, .int x140.1, .int l11t_acts, .ref a_t_apart, .ref a_t_rounds, .ref a_t_fewest, .ref a_t_nextFewest, .ref a_t_ways, .ref a_t_nextWays, .ref a_t_counts, .ref a_t_image, .ref a_t_isKept])), (a_t_roads, .inl (cI, 12, .inl t_roads)), (a_t_book, .inl (cI, 25, .inl t_book)), (a_t_now, .inl (cI, 25, .inl x140.2)), (a_t_pad, .inl (cI, 60, .inl t_pad))] H := hP
                replace hD : va_D A [(a_t, .inr (10, [.ref a_t_roads, .int t_homes, .int t_there, .ref a_t_book, .ref a_t_now, .int t_meetings, .ref a_t_meeting, .int t_sights, .ref a_t_sight, .int t_signs, .ref a_t_pad, .int l11t_touched, .int l11t_firstTouch, .int x140.1, .int l11t_acts, .ref a_t_apart, .ref a_t_rounds, .ref a_t_fewest, .ref a_t_nextFewest, .ref a_t_ways, .ref a_t_nextWays, .ref a_t_counts, .ref a_t_image, .ref a_t_isKept])), (a_t_roads, .inl (cI, 12, .inl t_roads)), (a_t_book, .inl (cI, 25, .inl t_book)), (a_t_now, .inl (cI, 25, .inl x140.2)), (a_t_pad, .inl (cI, 60, .inl t_pad))] := hD
                refine lv_iinc (v := l11v1 + 2) (lv' := [(1, .int (l11v1 + 2)), (4, .int (t_pad (l11v1 + (1 : Int32)).toNatClampNeg)), (3, .int ((t_pad l11v1.toNatClampNeg) - (65 : Int32))), (2, .int l11t_touched), (0, .ref a_t)]) hx hb dX10_goDays_146 hl (k := 4) rfl rfl (by decide) rfl (fun ls hl => ?_)
                exact hB149 (l11v1 + 2) l11t_touched x140.1 x140.2 _ _ _ hP hD hS (lv_sub hl [4, 0, 3] rfl) hf
              · replace hf := (if_pos hc).symm.trans hf
                refine lv_aload_n hx hb dX10_goDays_125 rfl (lv_at hl 3 rfl) ?_
                refine lv_iload_n hx hb dX10_goDays_126 rfl (lv_at hl 1 rfl) ?_
                obtain ⟨x127, hx127, hf⟩ := bd_if hf
                refine cv_i (wr := [(a_t_roads, .inl (cI, 12, .inl t_roads)), (a_t_book, .inl (cI, 25, .inl t_book)), (a_t_pad, .inl (cI, 60, .inl t_pad))]) (ws' := [(a_t, .inr (10, [.ref a_t_roads, .int t_homes, .int t_there, .ref a_t_book, .ref a_t_now, .int t_meetings, .ref a_t_meeting, .int t_sights, .ref a_t_sight, .int t_signs, .ref a_t_pad, .int l11t_touched, .int l11t_firstTouch, .int l11t_reason, .int l11t_acts, .ref a_t_apart, .ref a_t_rounds, .ref a_t_fewest, .ref a_t_nextFewest, .ref a_t_ways, .ref a_t_nextWays, .ref a_t_counts, .ref a_t_image, .ref a_t_isKept])), (a_t_roads, .inl (cI, 12, .inl t_roads)), (a_t_book, .inl (cI, 25, .inl t_book)), (a_t_now, .inl (cI, 25, .inl x127.2)), (a_t_pad, .inl (cI, 60, .inl t_pad))]) ⟨hx, hb, hml, hown, hts⟩ hcw121 hK hN hP hD hS hA (c_X10_cross l D cI cJ cZ cO _ a_t a_t_roads a_t_book a_t_now a_t_meeting a_t_sight a_t_pad a_t_apart a_t_rounds a_t_fewest a_t_nextFewest a_t_ways a_t_nextWays a_t_counts a_t_image a_t_isKept t_homes t_there t_meetings t_sights t_signs l11t_touched l11t_firstTouch l11t_reason l11t_acts l11t_now ((t_pad l11v1.toNatClampNeg) - (65 : Int32)) x127 hx127) (q := (RX10, TX10, 24)) (ci := 10) (q0 := 0) rfl rfl [0, 3] [1, 2, 4] [3, 0, 1, 4, 2] rfl rfl rfl rfl (by decide) rfl rfl rfl hl.1 rfl (Nat.le_of_ble_eq_true rfl) dX10_goDays_127 ⟨Nat.zero_le _, Nat.zero_le _⟩ (fun H locs hP hD hS => ?_)
                refine lv_goto (tgt := 143) hx hb dX10_goDays_130 (by decide) ?_
                refine va_put (D := D) (ci := 10) (v := .int x127.1) (ty := .int) (C := RX10) (T := TX10) (N := 24) hx hb hts hmsX10 tyX10 tyX10_ok nmX10 hown hK hP hD hS 0 rfl rfl 13 (by decide) hw111 (fun _ h9 => h9) rfl (by decide +kernel) rfl rfl (Nat.le_of_ble_eq_true rfl) dX10_goDays_143 (fun H locs hP hD hS => ?_)
                replace hP : va_P D vwCl [(a_t, .inr (10, [.ref a_t_roads, .int t_homes, .int t_there, .ref a_t_book, .ref a_t_now, .int t_meetings, .ref a_t_meeting, .int t_sights, .ref a_t_sight, .int t_signs, .ref a_t_pad, .int l11t_touched, .int l11t_firstTouch, .int x127.1, .int l11t_acts, .ref a_t_apart, .ref a_t_rounds, .ref a_t_fewest, .ref a_t_nextFewest, .ref a_t_ways, .ref a_t_nextWays, .ref a_t_counts, .ref a_t_image, .ref a_t_isKept])), (a_t_roads, .inl (cI, 12, .inl t_roads)), (a_t_book, .inl (cI, 25, .inl t_book)), (a_t_now, .inl (cI, 25, .inl x127.2)), (a_t_pad, .inl (cI, 60, .inl t_pad))] H := hP
                replace hD : va_D A [(a_t, .inr (10, [.ref a_t_roads, .int t_homes, .int t_there, .ref a_t_book, .ref a_t_now, .int t_meetings, .ref a_t_meeting, .int t_sights, .ref a_t_sight, .int t_signs, .ref a_t_pad, .int l11t_touched, .int l11t_firstTouch, .int x127.1, .int l11t_acts, .ref a_t_apart, .ref a_t_rounds, .ref a_t_fewest, .ref a_t_nextFewest, .ref a_t_ways, .ref a_t_nextWays, .ref a_t_counts, .ref a_t_image, .ref a_t_isKept])), (a_t_roads, .inl (cI, 12, .inl t_roads)), (a_t_book, .inl (cI, 25, .inl t_book)), (a_t_now, .inl (cI, 25, .inl x127.2)), (a_t_pad, .inl (cI, 60, .inl t_pad))] := hD
                refine lv_iinc (v := l11v1 + 2) (lv' := [(1, .int (l11v1 + 2)), (4, .int (t_pad (l11v1 + (1 : Int32)).toNatClampNeg)), (3, .int ((t_pad l11v1.toNatClampNeg) - (65 : Int32))), (2, .int l11t_touched), (0, .ref a_t)]) hx hb dX10_goDays_146 hl (k := 4) rfl rfl (by decide) rfl (fun ls hl => ?_)
                exact hB149 (l11v1 + 2) l11t_touched x127.1 x127.2 _ _ _ hP hD hS (lv_sub hl [4, 0, 3] rfl) hf
            · replace hf := (if_pos hc).symm.trans hf
              refine lv_aload_n hx hb dX10_goDays_110 rfl (lv_at hl 3 rfl) ?_
              refine lv_iload_n hx hb dX10_goDays_111 rfl (lv_at hl 1 rfl) ?_
              obtain ⟨x112, hx112, hf⟩ := bd_if hf
              refine cv_i (wr := [(a_t_roads, .inl (cI, 12, .inl t_roads)), (a_t_book, .inl (cI, 25, .inl t_book)), (a_t_pad, .inl (cI, 60, .inl t_pad))]) (ws' := [(a_t, .inr (10, [.ref a_t_roads, .int t_homes, .int t_there, .ref a_t_book, .ref a_t_now, .int t_meetings, .ref a_t_meeting, .int t_sights, .ref a_t_sight, .int t_signs, .ref a_t_pad, .int l11t_touched, .int l11t_firstTouch, .int l11t_reason, .int l11t_acts, .ref a_t_apart, .ref a_t_rounds, .ref a_t_fewest, .ref a_t_nextFewest, .ref a_t_ways, .ref a_t_nextWays, .ref a_t_counts, .ref a_t_image, .ref a_t_isKept])), (a_t_roads, .inl (cI, 12, .inl t_roads)), (a_t_book, .inl (cI, 25, .inl t_book)), (a_t_now, .inl (cI, 25, .inl x112.2)), (a_t_pad, .inl (cI, 60, .inl t_pad))]) ⟨hx, hb, hml, hown, hts⟩ hcw118 hK hN hP hD hS hA (c_X10_rest l D cI cJ cZ cO _ a_t a_t_roads a_t_book a_t_now a_t_meeting a_t_sight a_t_pad a_t_apart a_t_rounds a_t_fewest a_t_nextFewest a_t_ways a_t_nextWays a_t_counts a_t_image a_t_isKept t_homes t_there t_meetings t_sights t_signs l11t_touched l11t_firstTouch l11t_reason l11t_acts l11t_now ((t_pad l11v1.toNatClampNeg) - (65 : Int32)) x112 hx112) (q := (RX10, TX10, 24)) (ci := 10) (q0 := 0) rfl rfl [0, 3] [1, 2, 4] [3, 0, 1, 4, 2] rfl rfl rfl rfl (by decide) rfl rfl rfl hl.1 rfl (Nat.le_of_ble_eq_true rfl) dX10_goDays_112 ⟨Nat.zero_le _, Nat.zero_le _⟩ (fun H locs hP hD hS => ?_)
              refine lv_goto (tgt := 143) hx hb dX10_goDays_115 (by decide) ?_
              refine va_put (D := D) (ci := 10) (v := .int x112.1) (ty := .int) (C := RX10) (T := TX10) (N := 24) hx hb hts hmsX10 tyX10 tyX10_ok nmX10 hown hK hP hD hS 0 rfl rfl 13 (by decide) hw111 (fun _ h9 => h9) rfl (by decide +kernel) rfl rfl (Nat.le_of_ble_eq_true rfl) dX10_goDays_143 (fun H locs hP hD hS => ?_)
              replace hP : va_P D vwCl [(a_t, .inr (10, [.ref a_t_roads, .int t_homes, .int t_there, .ref a_t_book, .ref a_t_now, .int t_meetings, .ref a_t_meeting, .int t_sights, .ref a_t_sight, .int t_signs, .ref a_t_pad, .int l11t_touched, .int l11t_firstTouch, .int x112.1, .int l11t_acts, .ref a_t_apart, .ref a_t_rounds, .ref a_t_fewest, .ref a_t_nextFewest, .ref a_t_ways, .ref a_t_nextWays, .ref a_t_counts, .ref a_t_image, .ref a_t_isKept])), (a_t_roads, .inl (cI, 12, .inl t_roads)), (a_t_book, .inl (cI, 25, .inl t_book)), (a_t_now, .inl (cI, 25, .inl x112.2)), (a_t_pad, .inl (cI, 60, .inl t_pad))] H := hP
              replace hD : va_D A [(a_t, .inr (10, [.ref a_t_roads, .int t_homes, .int t_there, .ref a_t_book, .ref a_t_now, .int t_meetings, .ref a_t_meeting, .int t_sights, .ref a_t_sight, .int t_signs, .ref a_t_pad, .int l11t_touched, .int l11t_firstTouch, .int x112.1, .int l11t_acts, .ref a_t_apart, .ref a_t_rounds, .ref a_t_fewest, .ref a_t_nextFewest, .ref a_t_ways, .ref a_t_nextWays, .ref a_t_counts, .ref a_t_image, .ref a_t_isKept])), (a_t_roads, .inl (cI, 12, .inl t_roads)), (a_t_book, .inl (cI, 25, .inl t_book)), (a_t_now, .inl (cI, 25, .inl x112.2)), (a_t_pad, .inl (cI, 60, .inl t_pad))] := hD
              refine lv_iinc (v := l11v1 + 2) (lv' := [(1, .int (l11v1 + 2)), (4, .int (t_pad (l11v1 + (1 : Int32)).toNatClampNeg)), (3, .int ((t_pad l11v1.toNatClampNeg) - (65 : Int32))), (2, .int l11t_touched), (0, .ref a_t)]) hx hb dX10_goDays_146 hl (k := 4) rfl rfl (by decide) rfl (fun ls hl => ?_)
              exact hB149 (l11v1 + 2) l11t_touched x112.1 x112.2 _ _ _ hP hD hS (lv_sub hl [4, 0, 3] rfl) hf
          · replace hf := (if_pos hc).symm.trans hf
            refine lv_aload_n hx hb dX10_goDays_76 rfl (lv_at hl 3 rfl) ?_
            refine lv_aload_n hx hb dX10_goDays_77 rfl (lv_at hl 3 rfl) ?_
            refine lv_iload_n hx hb dX10_goDays_78 rfl (lv_at hl 1 rfl) ?_
            refine lv_aload_n hx hb dX10_goDays_79 rfl (lv_at hl 3 rfl) ?_
            refine va_get (D := D) (ci := 10) (v := .ref a_t_pad) (C := RX10) (T := TX10) (N := 24) hx hb hts hmsX10 hown hK hP 0 rfl rfl 10 (by decide) hw25 (fun _ h9 => h9) rfl dX10_goDays_80 ?_
            refine lv_iload_n hx hb dX10_goDays_83 rfl (lv_at hl 4 rfl) ?_
            refine lv_iconst (v := 2) hx hb dX10_goDays_84 (by decide) ?_
            refine lv_iadd hx hb dX10_goDays_85 ?_
            obtain ⟨hi86, hf⟩ := ix_if hf
            refine va_iald (D := D) hx hb hK hP 4 0 rfl rfl hi86 dX10_goDays_86 ?_
            refine lv_bipush (v := 65) hx hb dX10_goDays_87 (by decide) ?_
            refine lv_isub hx hb dX10_goDays_89 ?_
            obtain ⟨x90, hx90, hf⟩ := bd_if hf
            refine cv_i (wr := [(a_t_roads, .inl (cI, 12, .inl t_roads)), (a_t_book, .inl (cI, 25, .inl t_book)), (a_t_pad, .inl (cI, 60, .inl t_pad))]) (ws' := [(a_t, .inr (10, [.ref a_t_roads, .int t_homes, .int t_there, .ref a_t_book, .ref a_t_now, .int t_meetings, .ref a_t_meeting, .int t_sights, .ref a_t_sight, .int t_signs, .ref a_t_pad, .int x90.2.1, .int l11t_firstTouch, .int l11t_reason, .int l11t_acts, .ref a_t_apart, .ref a_t_rounds, .ref a_t_fewest, .ref a_t_nextFewest, .ref a_t_ways, .ref a_t_nextWays, .ref a_t_counts, .ref a_t_image, .ref a_t_isKept])), (a_t_roads, .inl (cI, 12, .inl t_roads)), (a_t_book, .inl (cI, 25, .inl t_book)), (a_t_now, .inl (cI, 25, .inl x90.2.2)), (a_t_pad, .inl (cI, 60, .inl t_pad))]) ⟨hx, hb, hml, hown, hts⟩ hcw114 hK hN hP hD hS hA (c_X10_touch l D cI cJ cZ cO _ a_t a_t_roads a_t_book a_t_now a_t_meeting a_t_sight a_t_pad a_t_apart a_t_rounds a_t_fewest a_t_nextFewest a_t_ways a_t_nextWays a_t_counts a_t_image a_t_isKept t_homes t_there t_meetings t_sights t_signs l11t_touched l11t_firstTouch l11t_reason l11t_acts l11t_now ((t_pad l11v1.toNatClampNeg) - (65 : Int32)) ((t_pad (l11v1 + (2 : Int32)).toNatClampNeg) - (65 : Int32)) x90 hx90) (q := (RX10, TX10, 24)) (ci := 10) (q0 := 0) rfl rfl [0, 3] [1, 2, 4] [3, 0, 1, 4, 2] rfl rfl rfl rfl (by decide) rfl rfl rfl hl.1 rfl (Nat.le_of_ble_eq_true rfl) dX10_goDays_90 ⟨Nat.zero_le _, Nat.zero_le _⟩ (fun H locs hP hD hS => ?_)
            refine va_put (D := D) (ci := 10) (v := .int x90.1) (ty := .int) (C := RX10) (T := TX10) (N := 24) hx hb hts hmsX10 tyX10 tyX10_ok nmX10 hown hK hP hD hS 0 rfl rfl 13 (by decide) hw111 (fun _ h9 => h9) rfl (by decide +kernel) rfl rfl (Nat.le_of_ble_eq_true rfl) dX10_goDays_93 (fun H locs hP hD hS => ?_)
            replace hP : va_P D vwCl [(a_t, .inr (10, [.ref a_t_roads, .int t_homes, .int t_there, .ref a_t_book, .ref a_t_now, .int t_meetings, .ref a_t_meeting, .int t_sights, .ref a_t_sight, .int t_signs, .ref a_t_pad, .int x90.2.1, .int l11t_firstTouch, .int x90.1, .int l11t_acts, .ref a_t_apart, .ref a_t_rounds, .ref a_t_fewest, .ref a_t_nextFewest, .ref a_t_ways, .ref a_t_nextWays, .ref a_t_counts, .ref a_t_image, .ref a_t_isKept])), (a_t_roads, .inl (cI, 12, .inl t_roads)), (a_t_book, .inl (cI, 25, .inl t_book)), (a_t_now, .inl (cI, 25, .inl x90.2.2)), (a_t_pad, .inl (cI, 60, .inl t_pad))] H := hP
            replace hD : va_D A [(a_t, .inr (10, [.ref a_t_roads, .int t_homes, .int t_there, .ref a_t_book, .ref a_t_now, .int t_meetings, .ref a_t_meeting, .int t_sights, .ref a_t_sight, .int t_signs, .ref a_t_pad, .int x90.2.1, .int l11t_firstTouch, .int x90.1, .int l11t_acts, .ref a_t_apart, .ref a_t_rounds, .ref a_t_fewest, .ref a_t_nextFewest, .ref a_t_ways, .ref a_t_nextWays, .ref a_t_counts, .ref a_t_image, .ref a_t_isKept])), (a_t_roads, .inl (cI, 12, .inl t_roads)), (a_t_book, .inl (cI, 25, .inl t_book)), (a_t_now, .inl (cI, 25, .inl x90.2.2)), (a_t_pad, .inl (cI, 60, .inl t_pad))] := hD
            refine lv_iinc (v := l11v1 + 3) (lv' := [(1, .int (l11v1 + 3)), (4, .int (t_pad (l11v1 + (1 : Int32)).toNatClampNeg)), (3, .int ((t_pad l11v1.toNatClampNeg) - (65 : Int32))), (2, .int l11t_touched), (0, .ref a_t)]) hx hb dX10_goDays_96 hl (k := 4) rfl rfl (by decide) rfl (fun ls hl => ?_)
            refine lv_goto (tgt := 149) hx hb dX10_goDays_99 (by decide) ?_
            exact hB149 (l11v1 + 3) x90.2.1 x90.1 x90.2.2 _ _ _ hP hD hS (lv_sub hl [4, 0, 3] rfl) hf
        · replace hf := (if_pos hc).symm.trans hf
          refine lv_aload_n hx hb dX10_goDays_35 rfl (lv_at hl 1 rfl) ?_
          refine lv_aload_n hx hb dX10_goDays_36 rfl (lv_at hl 1 rfl) ?_
          obtain ⟨x37, hx37, hf⟩ := bd_if hf
          refine cv_i (wr := [(a_t_roads, .inl (cI, 12, .inl t_roads)), (a_t_book, .inl (cI, 25, .inl t_book)), (a_t_pad, .inl (cI, 60, .inl t_pad))]) (ws' := [(a_t, .inr (10, [.ref a_t_roads, .int t_homes, .int t_there, .ref a_t_book, .ref a_t_now, .int t_meetings, .ref a_t_meeting, .int t_sights, .ref a_t_sight, .int t_signs, .ref a_t_pad, .int l11t_touched, .int l11t_firstTouch, .int l11t_reason, .int l11t_acts, .ref a_t_apart, .ref a_t_rounds, .ref a_t_fewest, .ref a_t_nextFewest, .ref a_t_ways, .ref a_t_nextWays, .ref a_t_counts, .ref a_t_image, .ref a_t_isKept])), (a_t_roads, .inl (cI, 12, .inl t_roads)), (a_t_book, .inl (cI, 25, .inl t_book)), (a_t_now, .inl (cI, 25, .inl x37.2)), (a_t_pad, .inl (cI, 60, .inl t_pad))]) ⟨hx, hb, hml, hown, hts⟩ hcw108 hK hN hP hD hS hA (c_X10_minute l D cI cJ cZ cO _ a_t a_t_roads a_t_book a_t_now a_t_meeting a_t_sight a_t_pad a_t_apart a_t_rounds a_t_fewest a_t_nextFewest a_t_ways a_t_nextWays a_t_counts a_t_image a_t_isKept t_homes t_there t_meetings t_sights t_signs l11t_touched l11t_firstTouch l11t_reason l11t_acts l11t_now x37 hx37) (q := (RX10, TX10, 24)) (ci := 10) (q0 := 0) rfl rfl [0, 3] [1, 2, 4] [3, 0, 1, 4, 2] rfl rfl rfl rfl (by decide) rfl rfl rfl hl.1 rfl (Nat.le_of_ble_eq_true rfl) dX10_goDays_37 ⟨Nat.zero_le _, Nat.zero_le _⟩ (fun H locs hP hD hS => ?_)
          refine va_put (D := D) (ci := 10) (v := .int x37.1) (ty := .int) (C := RX10) (T := TX10) (N := 24) hx hb hts hmsX10 tyX10 tyX10_ok nmX10 hown hK hP hD hS 0 rfl rfl 13 (by decide) hw111 (fun _ h9 => h9) rfl (by decide +kernel) rfl rfl (Nat.le_of_ble_eq_true rfl) dX10_goDays_40 (fun H locs hP hD hS => ?_)
          replace hP : va_P D vwCl [(a_t, .inr (10, [.ref a_t_roads, .int t_homes, .int t_there, .ref a_t_book, .ref a_t_now, .int t_meetings, .ref a_t_meeting, .int t_sights, .ref a_t_sight, .int t_signs, .ref a_t_pad, .int l11t_touched, .int l11t_firstTouch, .int x37.1, .int l11t_acts, .ref a_t_apart, .ref a_t_rounds, .ref a_t_fewest, .ref a_t_nextFewest, .ref a_t_ways, .ref a_t_nextWays, .ref a_t_counts, .ref a_t_image, .ref a_t_isKept])), (a_t_roads, .inl (cI, 12, .inl t_roads)), (a_t_book, .inl (cI, 25, .inl t_book)), (a_t_now, .inl (cI, 25, .inl x37.2)), (a_t_pad, .inl (cI, 60, .inl t_pad))] H := hP
          replace hD : va_D A [(a_t, .inr (10, [.ref a_t_roads, .int t_homes, .int t_there, .ref a_t_book, .ref a_t_now, .int t_meetings, .ref a_t_meeting, .int t_sights, .ref a_t_sight, .int t_signs, .ref a_t_pad, .int l11t_touched, .int l11t_firstTouch, .int x37.1, .int l11t_acts, .ref a_t_apart, .ref a_t_rounds, .ref a_t_fewest, .ref a_t_nextFewest, .ref a_t_ways, .ref a_t_nextWays, .ref a_t_counts, .ref a_t_image, .ref a_t_isKept])), (a_t_roads, .inl (cI, 12, .inl t_roads)), (a_t_book, .inl (cI, 25, .inl t_book)), (a_t_now, .inl (cI, 25, .inl x37.2)), (a_t_pad, .inl (cI, 60, .inl t_pad))] := hD
          refine lv_iinc (v := l11v1 + 1) (lv' := [(1, .int (l11v1 + 1)), (2, .int l11t_touched), (0, .ref a_t)]) hx hb dX10_goDays_43 hl (k := 2) rfl rfl (by decide) rfl (fun ls hl => ?_)
          refine lv_goto (tgt := 149) hx hb dX10_goDays_46 (by decide) ?_
          exact hB149 (l11v1 + 1) l11t_touched x37.1 x37.2 _ _ _ hP hD hS (lv_sub hl [2, 0, 1] rfl) hf
  exact hL11 5000 (0 : Int32) x1.1 x1.2.1 t_reason (0 : Int32) x1.2.2 _ _ _ hP hD hS (lv_sub hl [1, 0] rfl) hf
abbrev rm_X10_judge : Room := { frames := 5, cells := 0, slots := 0, locals := 109 }
theorem ms_X10_judge_X10 : ∀ w ∈ u_ws RX10 TX10 24, w ∈ wsX10_judge := fun w h => List.mem_cons_of_mem _ (List.mem_append_right _ (h))
set_option maxHeartbeats 4000000 in
set_option maxRecDepth 100000 in
theorem c_X10_judge (l : Launch) (D : va_G) (cI cJ cZ cO : ClassId) (sz : Nat) (a_t : Nat) (a_t_roads : Nat) (a_t_book : Nat) (a_t_now : Nat) (a_t_meeting : Nat) (a_t_sight : Nat) (a_t_pad : Nat) (a_t_apart : Nat) (a_t_rounds : Nat) (a_t_fewest : Nat) (a_t_nextFewest : Nat) (a_t_ways : Nat) (a_t_nextWays : Nat) (a_t_counts : Nat) (a_t_image : Nat) (a_t_isKept : Nat) (t_homes : Int32) (t_there : Int32) (t_meetings : Int32) (t_sights : Int32) (t_signs : Int32) (t_touched : Int32) (t_firstTouch : Int32) (t_reason : Int32) (t_acts : Int32) (t_roads : Nat → Int32) (t_book : Nat → Int32) (t_now : Nat → Int32) (t_pad : Nat → Int32) (p1 : Int32) (res : Int32 × Int32 × Int32 × Int32 × Int32 × (Nat → Int32)) (hf : f_X10_judge t_homes t_there t_signs t_touched t_firstTouch t_reason t_acts t_roads t_book t_now t_pad p1 = some res) : MetI l yX10_judge wsX10_judge rm_X10_judge [.ref a_t, .int p1] D (tys4 cI cJ cZ cO) [(a_t, .inr (10, [.ref a_t_roads, .int t_homes, .int t_there, .ref a_t_book, .ref a_t_now, .int t_meetings, .ref a_t_meeting, .int t_sights, .ref a_t_sight, .int t_signs, .ref a_t_pad, .int t_touched, .int t_firstTouch, .int t_reason, .int t_acts, .ref a_t_apart, .ref a_t_rounds, .ref a_t_fewest, .ref a_t_nextFewest, .ref a_t_ways, .ref a_t_nextWays, .ref a_t_counts, .ref a_t_image, .ref a_t_isKept])), (a_t_roads, .inl (cI, 12, .inl t_roads)), (a_t_book, .inl (cI, 25, .inl t_book)), (a_t_now, .inl (cI, 25, .inl t_now)), (a_t_pad, .inl (cI, 60, .inl t_pad))] sz res.1 [(a_t, .inr (10, [.ref a_t_roads, .int t_homes, .int t_there, .ref a_t_book, .ref a_t_now, .int t_meetings, .ref a_t_meeting, .int t_sights, .ref a_t_sight, .int t_signs, .ref a_t_pad, .int res.2.1, .int res.2.2.1, .int res.2.2.2.1, .int res.2.2.2.2.1, .ref a_t_apart, .ref a_t_rounds, .ref a_t_fewest, .ref a_t_nextFewest, .ref a_t_ways, .ref a_t_nextWays, .ref a_t_counts, .ref a_t_image, .ref a_t_isKept])), (a_t_roads, .inl (cI, 12, .inl t_roads)), (a_t_book, .inl (cI, 25, .inl t_book)), (a_t_now, .inl (cI, 25, .inl res.2.2.2.2.2)), (a_t_pad, .inl (cI, 60, .inl t_pad))] := by
  refine met_i (cc := cX10_judge) (maxL := 3) (by decide) rfl (Nat.le_of_ble_eq_true rfl) ?_
  intro p e s m args below meth c Q A hx hb hml hown hts hK hN hA fin H locs ls hP hD hS hl
  replace hown : s.vm.findClass RX10 = some m.cls := hown
  replace hl : lv_has ls 3 [(0, .ref a_t), (1, .int p1)] := hl
  rw [f_X10_judge] at hf
  have hcw57 := va_cwS (R := rm_X10_judge) (rm := rm_X10_in) 3 hts gX10_judge_X10_in rfl rfl rfl (by decide +kernel) ⟨Nat.le_of_ble_eq_true rfl, Nat.le_of_ble_eq_true rfl⟩
  have hcw92 := cwV (R := rm_X10_judge) (rm := rm_X10_faultOf) 0 hts gX10_judge_X10_faultOf rfl rfl rfl (by decide +kernel) ⟨Nat.le_of_ble_eq_true rfl, Nat.le_of_ble_eq_true rfl⟩
  have hcw127 := cwV (R := rm_X10_judge) (rm := rm_X10_goDays) 0 hts gX10_judge_X10_goDays rfl rfl rfl (by decide +kernel) ⟨Nat.le_of_ble_eq_true rfl, Nat.le_of_ble_eq_true rfl⟩
  have hw111 := hts (.fieldLink RX10 111 "TouchReignModel" "reason" "I") (by decide +kernel)
  have hmsX10 := ms_X10_judge_X10
  refine lv_iload_n hx hb dX10_judge_0 rfl (lv_at hl 1 rfl) ?_
  refine lv_iconst (v := 0) hx hb dX10_judge_1 (by decide) ?_
  refine lv_iconst (v := 1) hx hb dX10_judge_2 (by decide) ?_
  obtain ⟨x3, hx3, hf⟩ := bd_if hf
  refine cs_i (wr := [(a_t, .inr (10, [.ref a_t_roads, .int t_homes, .int t_there, .ref a_t_book, .ref a_t_now, .int t_meetings, .ref a_t_meeting, .int t_sights, .ref a_t_sight, .int t_signs, .ref a_t_pad, .int t_touched, .int t_firstTouch, .int t_reason, .int t_acts, .ref a_t_apart, .ref a_t_rounds, .ref a_t_fewest, .ref a_t_nextFewest, .ref a_t_ways, .ref a_t_nextWays, .ref a_t_counts, .ref a_t_image, .ref a_t_isKept])), (a_t_roads, .inl (cI, 12, .inl t_roads)), (a_t_book, .inl (cI, 25, .inl t_book)), (a_t_now, .inl (cI, 25, .inl t_now)), (a_t_pad, .inl (cI, 60, .inl t_pad))]) (ws' := [(a_t, .inr (10, [.ref a_t_roads, .int t_homes, .int t_there, .ref a_t_book, .ref a_t_now, .int t_meetings, .ref a_t_meeting, .int t_sights, .ref a_t_sight, .int t_signs, .ref a_t_pad, .int t_touched, .int t_firstTouch, .int t_reason, .int t_acts, .ref a_t_apart, .ref a_t_rounds, .ref a_t_fewest, .ref a_t_nextFewest, .ref a_t_ways, .ref a_t_nextWays, .ref a_t_counts, .ref a_t_image, .ref a_t_isKept])), (a_t_roads, .inl (cI, 12, .inl t_roads)), (a_t_book, .inl (cI, 25, .inl t_book)), (a_t_now, .inl (cI, 25, .inl t_now)), (a_t_pad, .inl (cI, 60, .inl t_pad))]) ⟨hx, hb, hml, hown, hts⟩ hcw57 hK hN hP hD hS hA (c_X10_in l D cI cJ cZ cO _ p1 (0 : Int32) (1 : Int32) x3 hx3) [] [0, 1, 2, 3, 4] [0, 1, 2, 3, 4] rfl rfl rfl rfl (by decide) rfl rfl rfl hl.1 rfl (Nat.le_of_ble_eq_true rfl) dX10_judge_3 ⟨Nat.zero_le _, Nat.zero_le _⟩ (fun H locs hP hD hS => ?_)
  refine lv_if_ne (tgt := 12) hx hb dX10_judge_6 (by decide) (fun hc => ?_) (fun hc => ?_)
  · replace hf := (if_neg hc).symm.trans hf
    refine lv_aload_n hx hb dX10_judge_12 rfl (lv_at hl 0 rfl) ?_
    obtain ⟨x13, hx13, hf⟩ := bd_if hf
    refine cv_i (wr := [(a_t_roads, .inl (cI, 12, .inl t_roads)), (a_t_book, .inl (cI, 25, .inl t_book)), (a_t_now, .inl (cI, 25, .inl t_now))]) (ws' := [(a_t, .inr (10, [.ref a_t_roads, .int t_homes, .int t_there, .ref a_t_book, .ref a_t_now, .int t_meetings, .ref a_t_meeting, .int t_sights, .ref a_t_sight, .int t_signs, .ref a_t_pad, .int t_touched, .int t_firstTouch, .int t_reason, .int t_acts, .ref a_t_apart, .ref a_t_rounds, .ref a_t_fewest, .ref a_t_nextFewest, .ref a_t_ways, .ref a_t_nextWays, .ref a_t_counts, .ref a_t_image, .ref a_t_isKept])), (a_t_roads, .inl (cI, 12, .inl t_roads)), (a_t_book, .inl (cI, 25, .inl t_book)), (a_t_now, .inl (cI, 25, .inl t_now)), (a_t_pad, .inl (cI, 60, .inl t_pad))]) ⟨hx, hb, hml, hown, hts⟩ hcw92 hK hN hP hD hS hA (c_X10_faultOf l D cI cJ cZ cO _ a_t a_t_roads a_t_book a_t_now a_t_meeting a_t_sight a_t_pad a_t_apart a_t_rounds a_t_fewest a_t_nextFewest a_t_ways a_t_nextWays a_t_counts a_t_image a_t_isKept t_homes t_there t_meetings t_sights t_signs t_touched t_firstTouch t_reason t_acts t_pad x13 hx13) (q := (RX10, TX10, 24)) (ci := 10) (q0 := 0) rfl rfl [0, 4] [1, 2, 3] [3, 0, 1, 2, 4] rfl rfl rfl rfl (by decide) rfl rfl rfl hl.1 rfl (Nat.le_of_ble_eq_true rfl) dX10_judge_13 ⟨Nat.zero_le _, Nat.zero_le _⟩ (fun H locs hP hD hS => ?_)
    refine lv_if_lt (tgt := 22) hx hb dX10_judge_16 (by decide) (fun hc => ?_) (fun hc => ?_)
    · replace hf := (if_pos hc).symm.trans hf
      refine lv_aload_n hx hb dX10_judge_22 rfl (lv_at hl 0 rfl) ?_
      obtain ⟨x23, hx23, hf⟩ := bd_if hf
      refine cv_i (wr := []) (ws' := [(a_t, .inr (10, [.ref a_t_roads, .int t_homes, .int t_there, .ref a_t_book, .ref a_t_now, .int t_meetings, .ref a_t_meeting, .int t_sights, .ref a_t_sight, .int t_signs, .ref a_t_pad, .int x23.2.1, .int x23.2.2.1, .int x23.2.2.2.1, .int x23.2.2.2.2.1, .ref a_t_apart, .ref a_t_rounds, .ref a_t_fewest, .ref a_t_nextFewest, .ref a_t_ways, .ref a_t_nextWays, .ref a_t_counts, .ref a_t_image, .ref a_t_isKept])), (a_t_roads, .inl (cI, 12, .inl t_roads)), (a_t_book, .inl (cI, 25, .inl t_book)), (a_t_now, .inl (cI, 25, .inl x23.2.2.2.2.2)), (a_t_pad, .inl (cI, 60, .inl t_pad))]) ⟨hx, hb, hml, hown, hts⟩ hcw127 hK hN hP hD hS hA (c_X10_goDays l D cI cJ cZ cO _ a_t a_t_roads a_t_book a_t_now a_t_meeting a_t_sight a_t_pad a_t_apart a_t_rounds a_t_fewest a_t_nextFewest a_t_ways a_t_nextWays a_t_counts a_t_image a_t_isKept t_homes t_there t_meetings t_sights t_signs t_touched t_firstTouch t_reason t_acts t_roads t_book t_now t_pad x23 hx23) (q := (RX10, TX10, 24)) (ci := 10) (q0 := 0) rfl rfl [0, 1, 2, 3, 4] [] [0, 1, 2, 3, 4] rfl rfl rfl rfl (by decide) rfl rfl rfl hl.1 rfl (Nat.le_of_ble_eq_true rfl) dX10_judge_23 ⟨Nat.zero_le _, Nat.zero_le _⟩ (fun H locs hP hD hS => ?_)
      refine lv_istore_n (lv' := [(2, .int x23.1), (0, .ref a_t), (1, .int p1)]) hx hb dX10_judge_26 rfl hl (by decide) rfl (fun ls hl => ?_)
      refine lv_iload_n hx hb dX10_judge_27 rfl (lv_at hl 0 rfl) ?_
      refine lv_if_lt (tgt := 35) hx hb dX10_judge_28 (by decide) (fun hc => ?_) (fun hc => ?_)
      · replace hf := (if_pos hc).symm.trans hf
        refine lv_iload_n hx hb dX10_judge_35 rfl (lv_at hl 0 rfl) ?_
        refine lv_goto (tgt := 43) hx hb dX10_judge_36 (by decide) ?_
        obtain rfl := Option.some.inj hf
        exact fin _ _ _ _ dX10_judge_43 hP hD hS
      · replace hf := (if_neg hc).symm.trans hf
        refine lv_iload_n hx hb dX10_judge_31 rfl (lv_at hl 2 rfl) ?_
        refine lv_if_ne (tgt := 39) hx hb dX10_judge_32 (by decide) (fun hc => ?_) (fun hc => ?_)
        · replace hf := (if_neg hc).symm.trans hf
          refine lv_aload_n hx hb dX10_judge_39 rfl (lv_at hl 1 rfl) ?_
          refine va_get (D := D) (ci := 10) (v := .int x23.2.2.2.1) (C := RX10) (T := TX10) (N := 24) hx hb hts hmsX10 hown hK hP 0 rfl rfl 13 (by decide) hw111 (fun _ h9 => h9) rfl dX10_judge_40 ?_
          obtain rfl := Option.some.inj hf
          exact fin _ _ _ _ dX10_judge_43 hP hD hS
        · replace hf := (if_pos hc).symm.trans hf
          refine lv_iload_n hx hb dX10_judge_35 rfl (lv_at hl 0 rfl) ?_
          refine lv_goto (tgt := 43) hx hb dX10_judge_36 (by decide) ?_
          obtain rfl := Option.some.inj hf
          exact fin _ _ _ _ dX10_judge_43 hP hD hS
    · replace hf := (if_neg hc).symm.trans hf
      refine lv_bipush (v := -5) hx hb dX10_judge_19 (by decide) ?_
      obtain rfl := Option.some.inj hf
      exact fin _ _ _ _ dX10_judge_21 hP hD hS
  · replace hf := (if_pos hc).symm.trans hf
    refine lv_bipush (v := -2) hx hb dX10_judge_9 (by decide) ?_
    obtain rfl := Option.some.inj hf
    exact fin _ _ _ _ dX10_judge_11 hP hD hS
abbrev rm_X10_barOfDays : Room := { frames := 5, cells := 0, slots := 0, locals := 109 }
set_option maxHeartbeats 4000000 in
set_option maxRecDepth 100000 in
theorem c_X10_barOfDays (l : Launch) (D : va_G) (cI cJ cZ cO : ClassId) (sz : Nat) (a_t : Nat) (a_t_roads : Nat) (a_t_book : Nat) (a_t_now : Nat) (a_t_meeting : Nat) (a_t_sight : Nat) (a_t_pad : Nat) (a_t_apart : Nat) (a_t_rounds : Nat) (a_t_fewest : Nat) (a_t_nextFewest : Nat) (a_t_ways : Nat) (a_t_nextWays : Nat) (a_t_counts : Nat) (a_t_image : Nat) (a_t_isKept : Nat) (t_homes : Int32) (t_there : Int32) (t_meetings : Int32) (t_sights : Int32) (t_signs : Int32) (t_touched : Int32) (t_firstTouch : Int32) (t_reason : Int32) (t_acts : Int32) (t_roads : Nat → Int32) (t_book : Nat → Int32) (t_now : Nat → Int32) (t_pad : Nat → Int32) (res : Int32 × Int32 × Int32 × Int32 × Int32 × (Nat → Int32)) (hf : f_X10_barOfDays t_homes t_there t_signs t_touched t_firstTouch t_reason t_acts t_roads t_book t_now t_pad = some res) : MetI l yX10_barOfDays wsX10_barOfDays rm_X10_barOfDays [.ref a_t] D (tys4 cI cJ cZ cO) [(a_t, .inr (10, [.ref a_t_roads, .int t_homes, .int t_there, .ref a_t_book, .ref a_t_now, .int t_meetings, .ref a_t_meeting, .int t_sights, .ref a_t_sight, .int t_signs, .ref a_t_pad, .int t_touched, .int t_firstTouch, .int t_reason, .int t_acts, .ref a_t_apart, .ref a_t_rounds, .ref a_t_fewest, .ref a_t_nextFewest, .ref a_t_ways, .ref a_t_nextWays, .ref a_t_counts, .ref a_t_image, .ref a_t_isKept])), (a_t_roads, .inl (cI, 12, .inl t_roads)), (a_t_book, .inl (cI, 25, .inl t_book)), (a_t_now, .inl (cI, 25, .inl t_now)), (a_t_pad, .inl (cI, 60, .inl t_pad))] sz res.1 [(a_t, .inr (10, [.ref a_t_roads, .int t_homes, .int t_there, .ref a_t_book, .ref a_t_now, .int t_meetings, .ref a_t_meeting, .int t_sights, .ref a_t_sight, .int t_signs, .ref a_t_pad, .int res.2.1, .int res.2.2.1, .int res.2.2.2.1, .int res.2.2.2.2.1, .ref a_t_apart, .ref a_t_rounds, .ref a_t_fewest, .ref a_t_nextFewest, .ref a_t_ways, .ref a_t_nextWays, .ref a_t_counts, .ref a_t_image, .ref a_t_isKept])), (a_t_roads, .inl (cI, 12, .inl t_roads)), (a_t_book, .inl (cI, 25, .inl t_book)), (a_t_now, .inl (cI, 25, .inl res.2.2.2.2.2)), (a_t_pad, .inl (cI, 60, .inl t_pad))] := by
  refine met_i (cc := cX10_barOfDays) (maxL := 1) (by decide) rfl (Nat.le_of_ble_eq_true rfl) ?_
  intro p e s m args below meth c Q A hx hb hml hown hts hK hN hA fin H locs ls hP hD hS hl
  replace hown : s.vm.findClass RX10 = some m.cls := hown
  replace hl : lv_has ls 1 [(0, .ref a_t)] := hl
  rw [f_X10_barOfDays] at hf
  have hcw92 := cwV (R := rm_X10_barOfDays) (rm := rm_X10_faultOf) 0 hts gX10_barOfDays_X10_faultOf rfl rfl rfl (by decide +kernel) ⟨Nat.le_of_ble_eq_true rfl, Nat.le_of_ble_eq_true rfl⟩
  have hcw127 := cwV (R := rm_X10_barOfDays) (rm := rm_X10_goDays) 0 hts gX10_barOfDays_X10_goDays rfl rfl rfl (by decide +kernel) ⟨Nat.le_of_ble_eq_true rfl, Nat.le_of_ble_eq_true rfl⟩
  refine lv_aload_n hx hb dX10_barOfDays_0 rfl (lv_at hl 0 rfl) ?_
  obtain ⟨x1, hx1, hf⟩ := bd_if hf
  refine cv_i (wr := [(a_t_roads, .inl (cI, 12, .inl t_roads)), (a_t_book, .inl (cI, 25, .inl t_book)), (a_t_now, .inl (cI, 25, .inl t_now))]) (ws' := [(a_t, .inr (10, [.ref a_t_roads, .int t_homes, .int t_there, .ref a_t_book, .ref a_t_now, .int t_meetings, .ref a_t_meeting, .int t_sights, .ref a_t_sight, .int t_signs, .ref a_t_pad, .int t_touched, .int t_firstTouch, .int t_reason, .int t_acts, .ref a_t_apart, .ref a_t_rounds, .ref a_t_fewest, .ref a_t_nextFewest, .ref a_t_ways, .ref a_t_nextWays, .ref a_t_counts, .ref a_t_image, .ref a_t_isKept])), (a_t_roads, .inl (cI, 12, .inl t_roads)), (a_t_book, .inl (cI, 25, .inl t_book)), (a_t_now, .inl (cI, 25, .inl t_now)), (a_t_pad, .inl (cI, 60, .inl t_pad))]) ⟨hx, hb, hml, hown, hts⟩ hcw92 hK hN hP hD hS hA (c_X10_faultOf l D cI cJ cZ cO _ a_t a_t_roads a_t_book a_t_now a_t_meeting a_t_sight a_t_pad a_t_apart a_t_rounds a_t_fewest a_t_nextFewest a_t_ways a_t_nextWays a_t_counts a_t_image a_t_isKept t_homes t_there t_meetings t_sights t_signs t_touched t_firstTouch t_reason t_acts t_pad x1 hx1) (q := (RX10, TX10, 24)) (ci := 10) (q0 := 0) rfl rfl [0, 4] [1, 2, 3] [3, 0, 1, 2, 4] rfl rfl rfl rfl (by decide) rfl rfl rfl hl.1 rfl (Nat.le_of_ble_eq_true rfl) dX10_barOfDays_1 ⟨Nat.zero_le _, Nat.zero_le _⟩ (fun H locs hP hD hS => ?_)
  refine lv_if_ge (tgt := 14) hx hb dX10_barOfDays_4 (by decide) (fun hc => ?_) (fun hc => ?_)
  · replace hf := (if_pos hc).symm.trans hf
    refine lv_bipush (v := -5) hx hb dX10_barOfDays_14 (by decide) ?_
    refine lv_goto (tgt := 20) hx hb dX10_barOfDays_16 (by decide) ?_
    obtain rfl := Option.some.inj hf
    exact fin _ _ _ _ dX10_barOfDays_20 hP hD hS
  · replace hf := (if_neg hc).symm.trans hf
    refine lv_aload_n hx hb dX10_barOfDays_7 rfl (lv_at hl 0 rfl) ?_
    obtain ⟨x8, hx8, hf⟩ := bd_if hf
    refine cv_i (wr := []) (ws' := [(a_t, .inr (10, [.ref a_t_roads, .int t_homes, .int t_there, .ref a_t_book, .ref a_t_now, .int t_meetings, .ref a_t_meeting, .int t_sights, .ref a_t_sight, .int t_signs, .ref a_t_pad, .int x8.2.1, .int x8.2.2.1, .int x8.2.2.2.1, .int x8.2.2.2.2.1, .ref a_t_apart, .ref a_t_rounds, .ref a_t_fewest, .ref a_t_nextFewest, .ref a_t_ways, .ref a_t_nextWays, .ref a_t_counts, .ref a_t_image, .ref a_t_isKept])), (a_t_roads, .inl (cI, 12, .inl t_roads)), (a_t_book, .inl (cI, 25, .inl t_book)), (a_t_now, .inl (cI, 25, .inl x8.2.2.2.2.2)), (a_t_pad, .inl (cI, 60, .inl t_pad))]) ⟨hx, hb, hml, hown, hts⟩ hcw127 hK hN hP hD hS hA (c_X10_goDays l D cI cJ cZ cO _ a_t a_t_roads a_t_book a_t_now a_t_meeting a_t_sight a_t_pad a_t_apart a_t_rounds a_t_fewest a_t_nextFewest a_t_ways a_t_nextWays a_t_counts a_t_image a_t_isKept t_homes t_there t_meetings t_sights t_signs t_touched t_firstTouch t_reason t_acts t_roads t_book t_now t_pad x8 hx8) (q := (RX10, TX10, 24)) (ci := 10) (q0 := 0) rfl rfl [0, 1, 2, 3, 4] [] [0, 1, 2, 3, 4] rfl rfl rfl rfl (by decide) rfl rfl rfl hl.1 rfl (Nat.le_of_ble_eq_true rfl) dX10_barOfDays_8 ⟨Nat.zero_le _, Nat.zero_le _⟩ (fun H locs hP hD hS => ?_)
    refine lv_if_lt (tgt := 19) hx hb dX10_barOfDays_11 (by decide) (fun hc => ?_) (fun hc => ?_)
    · replace hf := (if_pos hc).symm.trans hf
      refine lv_iconst (v := 0) hx hb dX10_barOfDays_19 (by decide) ?_
      obtain rfl := Option.some.inj hf
      exact fin _ _ _ _ dX10_barOfDays_20 hP hD hS
    · replace hf := (if_neg hc).symm.trans hf
      refine lv_bipush (v := -5) hx hb dX10_barOfDays_14 (by decide) ?_
      refine lv_goto (tgt := 20) hx hb dX10_barOfDays_16 (by decide) ?_
      obtain rfl := Option.some.inj hf
      exact fin _ _ _ _ dX10_barOfDays_20 hP hD hS
abbrev rm_X10_done : Room := { frames := 6, cells := 0, slots := 0, locals := 129 }
theorem ms_X10_done_X10 : ∀ w ∈ u_ws RX10 TX10 24, w ∈ wsX10_done := fun w h => List.mem_cons_of_mem _ (List.mem_append_right _ (h))
set_option maxHeartbeats 4000000 in
set_option maxRecDepth 100000 in
theorem c_X10_done (l : Launch) (D : va_G) (cI cJ cZ cO : ClassId) (sz : Nat) (a_t : Nat) (a_t_roads : Nat) (a_t_book : Nat) (a_t_now : Nat) (a_t_meeting : Nat) (a_t_sight : Nat) (a_t_pad : Nat) (a_t_apart : Nat) (a_t_rounds : Nat) (a_t_fewest : Nat) (a_t_nextFewest : Nat) (a_t_ways : Nat) (a_t_nextWays : Nat) (a_t_counts : Nat) (a_t_image : Nat) (a_t_isKept : Nat) (t_homes : Int32) (t_there : Int32) (t_meetings : Int32) (t_sights : Int32) (t_signs : Int32) (t_touched : Int32) (t_firstTouch : Int32) (t_reason : Int32) (t_acts : Int32) (t_roads : Nat → Int32) (t_book : Nat → Int32) (t_now : Nat → Int32) (t_pad : Nat → Int32) (res : Int32 × Int32 × Int32 × Int32 × Int32 × Int32 × (Nat → Int32) × (Nat → Int32)) (hf : f_X10_done t_homes t_there t_signs t_touched t_firstTouch t_reason t_acts t_roads t_book t_now t_pad = some res) : MetI l yX10_done wsX10_done rm_X10_done [.ref a_t] D (tys4 cI cJ cZ cO) [(a_t, .inr (10, [.ref a_t_roads, .int t_homes, .int t_there, .ref a_t_book, .ref a_t_now, .int t_meetings, .ref a_t_meeting, .int t_sights, .ref a_t_sight, .int t_signs, .ref a_t_pad, .int t_touched, .int t_firstTouch, .int t_reason, .int t_acts, .ref a_t_apart, .ref a_t_rounds, .ref a_t_fewest, .ref a_t_nextFewest, .ref a_t_ways, .ref a_t_nextWays, .ref a_t_counts, .ref a_t_image, .ref a_t_isKept])), (a_t_roads, .inl (cI, 12, .inl t_roads)), (a_t_book, .inl (cI, 25, .inl t_book)), (a_t_now, .inl (cI, 25, .inl t_now)), (a_t_pad, .inl (cI, 60, .inl t_pad))] sz res.1 [(a_t, .inr (10, [.ref a_t_roads, .int t_homes, .int t_there, .ref a_t_book, .ref a_t_now, .int t_meetings, .ref a_t_meeting, .int t_sights, .ref a_t_sight, .int res.2.1, .ref a_t_pad, .int res.2.2.1, .int res.2.2.2.1, .int res.2.2.2.2.1, .int res.2.2.2.2.2.1, .ref a_t_apart, .ref a_t_rounds, .ref a_t_fewest, .ref a_t_nextFewest, .ref a_t_ways, .ref a_t_nextWays, .ref a_t_counts, .ref a_t_image, .ref a_t_isKept])), (a_t_roads, .inl (cI, 12, .inl t_roads)), (a_t_book, .inl (cI, 25, .inl res.2.2.2.2.2.2.1)), (a_t_now, .inl (cI, 25, .inl res.2.2.2.2.2.2.2)), (a_t_pad, .inl (cI, 60, .inl t_pad))] := by
  refine met_i (cc := cX10_done) (maxL := 2) (by decide) rfl (Nat.le_of_ble_eq_true rfl) ?_
  intro p e s m args below meth c Q A hx hb hml hown hts hK hN hA fin H locs ls hP hD hS hl
  replace hown : s.vm.findClass RX10 = some m.cls := hown
  replace hl : lv_has ls 2 [(0, .ref a_t)] := hl
  rw [f_X10_done] at hf
  have hcw130 := cwV (R := rm_X10_done) (rm := rm_X10_barOfDays) 0 hts gX10_done_X10_barOfDays rfl rfl rfl (by decide +kernel) ⟨Nat.le_of_ble_eq_true rfl, Nat.le_of_ble_eq_true rfl⟩
  have hw86 := hts (.fieldLink RX10 86 "TouchReignModel" "signs" "I") (by decide +kernel)
  have hmsX10 := ms_X10_done_X10
  have hw105 := hts (.fieldLink RX10 105 "TouchReignModel" "acts" "I") (by decide +kernel)
  have hw13 := hts (.fieldLink RX10 13 "TouchReignModel" "book" "[I") (by decide +kernel)
  have hw16 := hts (.fieldLink RX10 16 "TouchReignModel" "now" "[I") (by decide +kernel)
  refine lv_aload_n hx hb dX10_done_0 rfl (lv_at hl 0 rfl) ?_
  obtain ⟨x1, hx1, hf⟩ := bd_if hf
  refine cv_i (wr := []) (ws' := [(a_t, .inr (10, [.ref a_t_roads, .int t_homes, .int t_there, .ref a_t_book, .ref a_t_now, .int t_meetings, .ref a_t_meeting, .int t_sights, .ref a_t_sight, .int t_signs, .ref a_t_pad, .int x1.2.1, .int x1.2.2.1, .int x1.2.2.2.1, .int x1.2.2.2.2.1, .ref a_t_apart, .ref a_t_rounds, .ref a_t_fewest, .ref a_t_nextFewest, .ref a_t_ways, .ref a_t_nextWays, .ref a_t_counts, .ref a_t_image, .ref a_t_isKept])), (a_t_roads, .inl (cI, 12, .inl t_roads)), (a_t_book, .inl (cI, 25, .inl t_book)), (a_t_now, .inl (cI, 25, .inl x1.2.2.2.2.2)), (a_t_pad, .inl (cI, 60, .inl t_pad))]) ⟨hx, hb, hml, hown, hts⟩ hcw130 hK hN hP hD hS hA (c_X10_barOfDays l D cI cJ cZ cO _ a_t a_t_roads a_t_book a_t_now a_t_meeting a_t_sight a_t_pad a_t_apart a_t_rounds a_t_fewest a_t_nextFewest a_t_ways a_t_nextWays a_t_counts a_t_image a_t_isKept t_homes t_there t_meetings t_sights t_signs t_touched t_firstTouch t_reason t_acts t_roads t_book t_now t_pad x1 hx1) (q := (RX10, TX10, 24)) (ci := 10) (q0 := 0) rfl rfl [0, 1, 2, 3, 4] [] [0, 1, 2, 3, 4] rfl rfl rfl rfl (by decide) rfl rfl rfl hl.1 rfl (Nat.le_of_ble_eq_true rfl) dX10_done_1 ⟨Nat.zero_le _, Nat.zero_le _⟩ (fun H locs hP hD hS => ?_)
  refine lv_if_ge (tgt := 10) hx hb dX10_done_4 (by decide) (fun hc => ?_) (fun hc => ?_)
  · replace hf := (if_pos hc).symm.trans hf
    refine lv_iconst (v := 0) hx hb dX10_done_10 (by decide) ?_
    refine lv_istore_n (lv' := [(1, .int (0 : Int32)), (0, .ref a_t)]) hx hb dX10_done_11 rfl hl (by decide) rfl (fun ls hl => ?_)
    have hX12 : ∀ (x12t_book : Nat → Int32) (H : Heap) (locs : List Loc) (ls : Array Slot), va_P D vwCl [(a_t, .inr (10, [.ref a_t_roads, .int t_homes, .int t_there, .ref a_t_book, .ref a_t_now, .int t_meetings, .ref a_t_meeting, .int t_sights, .ref a_t_sight, .int t_signs, .ref a_t_pad, .int x1.2.1, .int x1.2.2.1, .int x1.2.2.2.1, .int x1.2.2.2.2.1, .ref a_t_apart, .ref a_t_rounds, .ref a_t_fewest, .ref a_t_nextFewest, .ref a_t_ways, .ref a_t_nextWays, .ref a_t_counts, .ref a_t_image, .ref a_t_isKept])), (a_t_roads, .inl (cI, 12, .inl t_roads)), (a_t_book, .inl (cI, 25, .inl x12t_book)), (a_t_now, .inl (cI, 25, .inl x1.2.2.2.2.2)), (a_t_pad, .inl (cI, 60, .inl t_pad))] H → va_D A [(a_t, .inr (10, [.ref a_t_roads, .int t_homes, .int t_there, .ref a_t_book, .ref a_t_now, .int t_meetings, .ref a_t_meeting, .int t_sights, .ref a_t_sight, .int t_signs, .ref a_t_pad, .int x1.2.1, .int x1.2.2.1, .int x1.2.2.2.1, .int x1.2.2.2.2.1, .ref a_t_apart, .ref a_t_rounds, .ref a_t_fewest, .ref a_t_nextFewest, .ref a_t_ways, .ref a_t_nextWays, .ref a_t_counts, .ref a_t_image, .ref a_t_isKept])), (a_t_roads, .inl (cI, 12, .inl t_roads)), (a_t_book, .inl (cI, 25, .inl x12t_book)), (a_t_now, .inl (cI, 25, .inl x1.2.2.2.2.2)), (a_t_pad, .inl (cI, 60, .inl t_pad))] → va_S A s.heap H locs → lv_has ls 2 [(0, .ref a_t)] → f_X10_done_X12 x1 x12t_book = some res → W p l e rm_X10_done s m args below meth c H locs 0 0 Q (F0 m 36 ls []) := by
      intro x12t_book H locs ls hP hD hS hl hf
      rw [f_X10_done_X12] at hf
      refine lv_aload_n hx hb dX10_done_36 rfl (lv_at hl 0 rfl) ?_
      refine lv_iconst (v := 0) hx hb dX10_done_37 (by decide) ?_
      refine va_put (D := D) (ci := 10) (v := .int (0 : Int32)) (ty := .int) (C := RX10) (T := TX10) (N := 24) hx hb hts hmsX10 tyX10 tyX10_ok nmX10 hown hK hP hD hS 0 rfl rfl 9 (by decide) hw86 (fun _ h9 => h9) rfl (by decide +kernel) rfl rfl (Nat.le_of_ble_eq_true rfl) dX10_done_38 (fun H locs hP hD hS => ?_)
      replace hP : va_P D vwCl [(a_t, .inr (10, [.ref a_t_roads, .int t_homes, .int t_there, .ref a_t_book, .ref a_t_now, .int t_meetings, .ref a_t_meeting, .int t_sights, .ref a_t_sight, .int (0 : Int32), .ref a_t_pad, .int x1.2.1, .int x1.2.2.1, .int x1.2.2.2.1, .int x1.2.2.2.2.1, .ref a_t_apart, .ref a_t_rounds, .ref a_t_fewest, .ref a_t_nextFewest, .ref a_t_ways, .ref a_t_nextWays, .ref a_t_counts, .ref a_t_image, .ref a_t_isKept])), (a_t_roads, .inl (cI, 12, .inl t_roads)), (a_t_book, .inl (cI, 25, .inl x12t_book)), (a_t_now, .inl (cI, 25, .inl x1.2.2.2.2.2)), (a_t_pad, .inl (cI, 60, .inl t_pad))] H := hP
      replace hD : va_D A [(a_t, .inr (10, [.ref a_t_roads, .int t_homes, .int t_there, .ref a_t_book, .ref a_t_now, .int t_meetings, .ref a_t_meeting, .int t_sights, .ref a_t_sight, .int (0 : Int32), .ref a_t_pad, .int x1.2.1, .int x1.2.2.1, .int x1.2.2.2.1, .int x1.2.2.2.2.1, .ref a_t_apart, .ref a_t_rounds, .ref a_t_fewest, .ref a_t_nextFewest, .ref a_t_ways, .ref a_t_nextWays, .ref a_t_counts, .ref a_t_image, .ref a_t_isKept])), (a_t_roads, .inl (cI, 12, .inl t_roads)), (a_t_book, .inl (cI, 25, .inl x12t_book)), (a_t_now, .inl (cI, 25, .inl x1.2.2.2.2.2)), (a_t_pad, .inl (cI, 60, .inl t_pad))] := hD
      refine lv_aload_n hx hb dX10_done_41 rfl (lv_at hl 0 rfl) ?_
      refine va_get (D := D) (ci := 10) (v := .int x1.2.2.2.2.1) (C := RX10) (T := TX10) (N := 24) hx hb hts hmsX10 hown hK hP 0 rfl rfl 14 (by decide) hw105 (fun _ h9 => h9) rfl dX10_done_42 ?_
      obtain rfl := Option.some.inj hf
      exact fin _ _ _ _ dX10_done_45 hP hD hS
    have hL12 : ∀ (n12 : Nat), ∀ (l12v1 : Int32) (l12t_book : Nat → Int32) (H : Heap) (locs : List Loc) (ls : Array Slot), va_P D vwCl [(a_t, .inr (10, [.ref a_t_roads, .int t_homes, .int t_there, .ref a_t_book, .ref a_t_now, .int t_meetings, .ref a_t_meeting, .int t_sights, .ref a_t_sight, .int t_signs, .ref a_t_pad, .int x1.2.1, .int x1.2.2.1, .int x1.2.2.2.1, .int x1.2.2.2.2.1, .ref a_t_apart, .ref a_t_rounds, .ref a_t_fewest, .ref a_t_nextFewest, .ref a_t_ways, .ref a_t_nextWays, .ref a_t_counts, .ref a_t_image, .ref a_t_isKept])), (a_t_roads, .inl (cI, 12, .inl t_roads)), (a_t_book, .inl (cI, 25, .inl l12t_book)), (a_t_now, .inl (cI, 25, .inl x1.2.2.2.2.2)), (a_t_pad, .inl (cI, 60, .inl t_pad))] H → va_D A [(a_t, .inr (10, [.ref a_t_roads, .int t_homes, .int t_there, .ref a_t_book, .ref a_t_now, .int t_meetings, .ref a_t_meeting, .int t_sights, .ref a_t_sight, .int t_signs, .ref a_t_pad, .int x1.2.1, .int x1.2.2.1, .int x1.2.2.2.1, .int x1.2.2.2.2.1, .ref a_t_apart, .ref a_t_rounds, .ref a_t_fewest, .ref a_t_nextFewest, .ref a_t_ways, .ref a_t_nextWays, .ref a_t_counts, .ref a_t_image, .ref a_t_isKept])), (a_t_roads, .inl (cI, 12, .inl t_roads)), (a_t_book, .inl (cI, 25, .inl l12t_book)), (a_t_now, .inl (cI, 25, .inl x1.2.2.2.2.2)), (a_t_pad, .inl (cI, 60, .inl t_pad))] → va_S A s.heap H locs → lv_has ls 2 [(0, .ref a_t), (1, .int l12v1)] → f_X10_done_L12 x1 (f_X10_done_X12 x1) n12 l12v1 l12t_book = some res → W p l e rm_X10_done s m args below meth c H locs 0 0 Q (F0 m 12 ls []) := by
      intro n12
      induction n12 with
      | zero =>
        intro l12v1 l12t_book H locs ls hP hD hS hl hf
        rw [f_X10_done_L12] at hf
        cases hf
      | succ n12 ih12 =>
        intro l12v1 l12t_book H locs ls hP hD hS hl hf
        rw [f_X10_done_L12] at hf
        refine lv_iload_n hx hb dX10_done_12 rfl (lv_at hl 1 rfl) ?_
        refine lv_bipush (v := 25) hx hb dX10_done_13 (by decide) ?_
        refine lv_icmp_ge (tgt := 36) hx hb dX10_done_15 (by decide) (fun hc => ?_) (fun hc => ?_)
        · replace hf := (if_pos hc).symm.trans hf
          exact hX12 l12t_book _ _ _ hP hD hS (lv_sub hl [0] rfl) hf
        · replace hf := (if_neg hc).symm.trans hf
          refine lv_aload_n hx hb dX10_done_18 rfl (lv_at hl 0 rfl) ?_
          refine va_get (D := D) (ci := 10) (v := .ref a_t_book) (C := RX10) (T := TX10) (N := 24) hx hb hts hmsX10 hown hK hP 0 rfl rfl 3 (by decide) hw13 (fun _ h9 => h9) rfl dX10_done_19 ?_
          refine lv_iload_n hx hb dX10_done_22 rfl (lv_at hl 1 rfl) ?_
          refine lv_aload_n hx hb dX10_done_23 rfl (lv_at hl 0 rfl) ?_
          refine va_get (D := D) (ci := 10) (v := .ref a_t_now) (C := RX10) (T := TX10) (N := 24) hx hb hts hmsX10 hown hK hP 0 rfl rfl 4 (by decide) hw16 (fun _ h9 => h9) rfl dX10_done_24 ?_
          refine lv_iload_n hx hb dX10_done_27 rfl (lv_at hl 1 rfl) ?_
          obtain ⟨hi28, hf⟩ := ix_if hf
          refine va_iald (D := D) hx hb hK hP 3 0 rfl rfl hi28 dX10_done_28 ?_
          refine va_iast (D := D) hx hb hK hP hD hS 2 0 rfl rfl hi28 dX10_done_29 (fun H locs hP hD hS => ?_)
          replace hP : va_P D vwCl [(a_t, .inr (10, [.ref a_t_roads, .int t_homes, .int t_there, .ref a_t_book, .ref a_t_now, .int t_meetings, .ref a_t_meeting, .int t_sights, .ref a_t_sight, .int t_signs, .ref a_t_pad, .int x1.2.1, .int x1.2.2.1, .int x1.2.2.2.1, .int x1.2.2.2.2.1, .ref a_t_apart, .ref a_t_rounds, .ref a_t_fewest, .ref a_t_nextFewest, .ref a_t_ways, .ref a_t_nextWays, .ref a_t_counts, .ref a_t_image, .ref a_t_isKept])), (a_t_roads, .inl (cI, 12, .inl t_roads)), (a_t_book, .inl (cI, 25, .inl (upd l12t_book l12v1.toNatClampNeg (x1.2.2.2.2.2 l12v1.toNatClampNeg)))), (a_t_now, .inl (cI, 25, .inl x1.2.2.2.2.2)), (a_t_pad, .inl (cI, 60, .inl t_pad))] H := hP
          replace hD : va_D A [(a_t, .inr (10, [.ref a_t_roads, .int t_homes, .int t_there, .ref a_t_book, .ref a_t_now, .int t_meetings, .ref a_t_meeting, .int t_sights, .ref a_t_sight, .int t_signs, .ref a_t_pad, .int x1.2.1, .int x1.2.2.1, .int x1.2.2.2.1, .int x1.2.2.2.2.1, .ref a_t_apart, .ref a_t_rounds, .ref a_t_fewest, .ref a_t_nextFewest, .ref a_t_ways, .ref a_t_nextWays, .ref a_t_counts, .ref a_t_image, .ref a_t_isKept])), (a_t_roads, .inl (cI, 12, .inl t_roads)), (a_t_book, .inl (cI, 25, .inl (upd l12t_book l12v1.toNatClampNeg (x1.2.2.2.2.2 l12v1.toNatClampNeg)))), (a_t_now, .inl (cI, 25, .inl x1.2.2.2.2.2)), (a_t_pad, .inl (cI, 60, .inl t_pad))] := hD
          refine lv_iinc (v := l12v1 + 1) (lv' := [(1, .int (l12v1 + 1)), (0, .ref a_t)]) hx hb dX10_done_30 hl (k := 1) rfl rfl (by decide) rfl (fun ls hl => ?_)
          refine lv_goto (tgt := 12) hx hb dX10_done_33 (by decide) ?_
          exact ih12 (l12v1 + 1) (upd l12t_book l12v1.toNatClampNeg (x1.2.2.2.2.2 l12v1.toNatClampNeg)) _ _ _ hP hD hS (lv_sub hl [1, 0] rfl) hf
    exact hL12 5000 (0 : Int32) t_book _ _ _ hP hD hS (lv_sub hl [1, 0] rfl) hf
  · replace hf := (if_neg hc).symm.trans hf
    refine lv_bipush (v := -5) hx hb dX10_done_7 (by decide) ?_
    obtain rfl := Option.some.inj hf
    exact fin _ _ _ _ dX10_done_9 hP hD hS
abbrev rm_X10_behind : Room := { frames := 6, cells := 0, slots := 0, locals := 129 }
theorem ms_X10_behind_X10 : ∀ w ∈ u_ws RX10 TX10 24, w ∈ wsX10_behind := fun w h => List.mem_cons_of_mem _ (List.mem_append_right _ (h))
set_option maxHeartbeats 4000000 in
set_option maxRecDepth 100000 in
theorem c_X10_behind (l : Launch) (D : va_G) (cI cJ cZ cO : ClassId) (sz : Nat) (a_t : Nat) (a_t_roads : Nat) (a_t_book : Nat) (a_t_now : Nat) (a_t_meeting : Nat) (a_t_sight : Nat) (a_t_pad : Nat) (a_t_apart : Nat) (a_t_rounds : Nat) (a_t_fewest : Nat) (a_t_nextFewest : Nat) (a_t_ways : Nat) (a_t_nextWays : Nat) (a_t_counts : Nat) (a_t_image : Nat) (a_t_isKept : Nat) (t_homes : Int32) (t_there : Int32) (t_meetings : Int32) (t_sights : Int32) (t_signs : Int32) (t_touched : Int32) (t_firstTouch : Int32) (t_reason : Int32) (t_acts : Int32) (t_roads : Nat → Int32) (t_book : Nat → Int32) (t_now : Nat → Int32) (t_pad : Nat → Int32) (p1 : Int32) (p2 : Int32) (res : Int32 × Int32 × Int32 × Int32 × Int32 × (Nat → Int32)) (hf : f_X10_behind t_homes t_there t_signs t_touched t_firstTouch t_reason t_acts t_roads t_book t_now t_pad p1 p2 = some res) : MetI l yX10_behind wsX10_behind rm_X10_behind [.ref a_t, .int p1, .int p2] D (tys4 cI cJ cZ cO) [(a_t, .inr (10, [.ref a_t_roads, .int t_homes, .int t_there, .ref a_t_book, .ref a_t_now, .int t_meetings, .ref a_t_meeting, .int t_sights, .ref a_t_sight, .int t_signs, .ref a_t_pad, .int t_touched, .int t_firstTouch, .int t_reason, .int t_acts, .ref a_t_apart, .ref a_t_rounds, .ref a_t_fewest, .ref a_t_nextFewest, .ref a_t_ways, .ref a_t_nextWays, .ref a_t_counts, .ref a_t_image, .ref a_t_isKept])), (a_t_roads, .inl (cI, 12, .inl t_roads)), (a_t_book, .inl (cI, 25, .inl t_book)), (a_t_now, .inl (cI, 25, .inl t_now)), (a_t_pad, .inl (cI, 60, .inl t_pad))] sz res.1 [(a_t, .inr (10, [.ref a_t_roads, .int t_homes, .int t_there, .ref a_t_book, .ref a_t_now, .int t_meetings, .ref a_t_meeting, .int t_sights, .ref a_t_sight, .int t_signs, .ref a_t_pad, .int res.2.1, .int res.2.2.1, .int res.2.2.2.1, .int res.2.2.2.2.1, .ref a_t_apart, .ref a_t_rounds, .ref a_t_fewest, .ref a_t_nextFewest, .ref a_t_ways, .ref a_t_nextWays, .ref a_t_counts, .ref a_t_image, .ref a_t_isKept])), (a_t_roads, .inl (cI, 12, .inl t_roads)), (a_t_book, .inl (cI, 25, .inl t_book)), (a_t_now, .inl (cI, 25, .inl res.2.2.2.2.2)), (a_t_pad, .inl (cI, 60, .inl t_pad))] := by
  refine met_i (cc := cX10_behind) (maxL := 3) (by decide) rfl (Nat.le_of_ble_eq_true rfl) ?_
  intro p e s m args below meth c Q A hx hb hml hown hts hK hN hA fin H locs ls hP hD hS hl
  replace hown : s.vm.findClass RX10 = some m.cls := hown
  replace hl : lv_has ls 3 [(0, .ref a_t), (1, .int p1), (2, .int p2)] := hl
  rw [f_X10_behind] at hf
  have hcw83 := cwV (R := rm_X10_behind) (rm := rm_X10_isThere) 1 hts gX10_behind_X10_isThere rfl rfl rfl (by decide +kernel) ⟨Nat.le_of_ble_eq_true rfl, Nat.le_of_ble_eq_true rfl⟩
  have hcw57 := va_cwS (R := rm_X10_behind) (rm := rm_X10_in) 3 hts gX10_behind_X10_in rfl rfl rfl (by decide +kernel) ⟨Nat.le_of_ble_eq_true rfl, Nat.le_of_ble_eq_true rfl⟩
  have hcw130 := cwV (R := rm_X10_behind) (rm := rm_X10_barOfDays) 0 hts gX10_behind_X10_barOfDays rfl rfl rfl (by decide +kernel) ⟨Nat.le_of_ble_eq_true rfl, Nat.le_of_ble_eq_true rfl⟩
  have hw16 := hts (.fieldLink RX10 16 "TouchReignModel" "now" "[I") (by decide +kernel)
  have hmsX10 := ms_X10_behind_X10
  refine lv_aload_n hx hb dX10_behind_0 rfl (lv_at hl 0 rfl) ?_
  refine lv_iload_n hx hb dX10_behind_1 rfl (lv_at hl 1 rfl) ?_
  obtain ⟨x2, hx2, hf⟩ := bd_if hf
  refine cv_i (wr := [(a_t_roads, .inl (cI, 12, .inl t_roads)), (a_t_book, .inl (cI, 25, .inl t_book)), (a_t_now, .inl (cI, 25, .inl t_now)), (a_t_pad, .inl (cI, 60, .inl t_pad))]) (ws' := [(a_t, .inr (10, [.ref a_t_roads, .int t_homes, .int t_there, .ref a_t_book, .ref a_t_now, .int t_meetings, .ref a_t_meeting, .int t_sights, .ref a_t_sight, .int t_signs, .ref a_t_pad, .int t_touched, .int t_firstTouch, .int t_reason, .int t_acts, .ref a_t_apart, .ref a_t_rounds, .ref a_t_fewest, .ref a_t_nextFewest, .ref a_t_ways, .ref a_t_nextWays, .ref a_t_counts, .ref a_t_image, .ref a_t_isKept])), (a_t_roads, .inl (cI, 12, .inl t_roads)), (a_t_book, .inl (cI, 25, .inl t_book)), (a_t_now, .inl (cI, 25, .inl t_now)), (a_t_pad, .inl (cI, 60, .inl t_pad))]) ⟨hx, hb, hml, hown, hts⟩ hcw83 hK hN hP hD hS hA (c_X10_isThere l D cI cJ cZ cO _ a_t a_t_roads a_t_book a_t_now a_t_meeting a_t_sight a_t_pad a_t_apart a_t_rounds a_t_fewest a_t_nextFewest a_t_ways a_t_nextWays a_t_counts a_t_image a_t_isKept t_homes t_there t_meetings t_sights t_signs t_touched t_firstTouch t_reason t_acts p1 x2 hx2) (q := (RX10, TX10, 24)) (ci := 10) (q0 := 0) rfl rfl [0] [1, 2, 3, 4] [4, 0, 1, 2, 3] rfl rfl rfl rfl (by decide) rfl rfl rfl hl.1 rfl (Nat.le_of_ble_eq_true rfl) dX10_behind_2 ⟨Nat.zero_le _, Nat.zero_le _⟩ (fun H locs hP hD hS => ?_)
  refine lv_if_ne (tgt := 10) hx hb dX10_behind_5 (by decide) (fun hc => ?_) (fun hc => ?_)
  · replace hf := (if_neg hc).symm.trans hf
    refine lv_iload_n hx hb dX10_behind_10 rfl (lv_at hl 2 rfl) ?_
    refine lv_iconst (v := 0) hx hb dX10_behind_11 (by decide) ?_
    refine lv_iconst (v := 2) hx hb dX10_behind_12 (by decide) ?_
    obtain ⟨x13, hx13, hf⟩ := bd_if hf
    refine cs_i (wr := [(a_t, .inr (10, [.ref a_t_roads, .int t_homes, .int t_there, .ref a_t_book, .ref a_t_now, .int t_meetings, .ref a_t_meeting, .int t_sights, .ref a_t_sight, .int t_signs, .ref a_t_pad, .int t_touched, .int t_firstTouch, .int t_reason, .int t_acts, .ref a_t_apart, .ref a_t_rounds, .ref a_t_fewest, .ref a_t_nextFewest, .ref a_t_ways, .ref a_t_nextWays, .ref a_t_counts, .ref a_t_image, .ref a_t_isKept])), (a_t_roads, .inl (cI, 12, .inl t_roads)), (a_t_book, .inl (cI, 25, .inl t_book)), (a_t_now, .inl (cI, 25, .inl t_now)), (a_t_pad, .inl (cI, 60, .inl t_pad))]) (ws' := [(a_t, .inr (10, [.ref a_t_roads, .int t_homes, .int t_there, .ref a_t_book, .ref a_t_now, .int t_meetings, .ref a_t_meeting, .int t_sights, .ref a_t_sight, .int t_signs, .ref a_t_pad, .int t_touched, .int t_firstTouch, .int t_reason, .int t_acts, .ref a_t_apart, .ref a_t_rounds, .ref a_t_fewest, .ref a_t_nextFewest, .ref a_t_ways, .ref a_t_nextWays, .ref a_t_counts, .ref a_t_image, .ref a_t_isKept])), (a_t_roads, .inl (cI, 12, .inl t_roads)), (a_t_book, .inl (cI, 25, .inl t_book)), (a_t_now, .inl (cI, 25, .inl t_now)), (a_t_pad, .inl (cI, 60, .inl t_pad))]) ⟨hx, hb, hml, hown, hts⟩ hcw57 hK hN hP hD hS hA (c_X10_in l D cI cJ cZ cO _ p2 (0 : Int32) (2 : Int32) x13 hx13) [] [0, 1, 2, 3, 4] [0, 1, 2, 3, 4] rfl rfl rfl rfl (by decide) rfl rfl rfl hl.1 rfl (Nat.le_of_ble_eq_true rfl) dX10_behind_13 ⟨Nat.zero_le _, Nat.zero_le _⟩ (fun H locs hP hD hS => ?_)
    refine lv_if_ne (tgt := 22) hx hb dX10_behind_16 (by decide) (fun hc => ?_) (fun hc => ?_)
    · replace hf := (if_neg hc).symm.trans hf
      refine lv_aload_n hx hb dX10_behind_22 rfl (lv_at hl 0 rfl) ?_
      obtain ⟨x23, hx23, hf⟩ := bd_if hf
      refine cv_i (wr := []) (ws' := [(a_t, .inr (10, [.ref a_t_roads, .int t_homes, .int t_there, .ref a_t_book, .ref a_t_now, .int t_meetings, .ref a_t_meeting, .int t_sights, .ref a_t_sight, .int t_signs, .ref a_t_pad, .int x23.2.1, .int x23.2.2.1, .int x23.2.2.2.1, .int x23.2.2.2.2.1, .ref a_t_apart, .ref a_t_rounds, .ref a_t_fewest, .ref a_t_nextFewest, .ref a_t_ways, .ref a_t_nextWays, .ref a_t_counts, .ref a_t_image, .ref a_t_isKept])), (a_t_roads, .inl (cI, 12, .inl t_roads)), (a_t_book, .inl (cI, 25, .inl t_book)), (a_t_now, .inl (cI, 25, .inl x23.2.2.2.2.2)), (a_t_pad, .inl (cI, 60, .inl t_pad))]) ⟨hx, hb, hml, hown, hts⟩ hcw130 hK hN hP hD hS hA (c_X10_barOfDays l D cI cJ cZ cO _ a_t a_t_roads a_t_book a_t_now a_t_meeting a_t_sight a_t_pad a_t_apart a_t_rounds a_t_fewest a_t_nextFewest a_t_ways a_t_nextWays a_t_counts a_t_image a_t_isKept t_homes t_there t_meetings t_sights t_signs t_touched t_firstTouch t_reason t_acts t_roads t_book t_now t_pad x23 hx23) (q := (RX10, TX10, 24)) (ci := 10) (q0 := 0) rfl rfl [0, 1, 2, 3, 4] [] [0, 1, 2, 3, 4] rfl rfl rfl rfl (by decide) rfl rfl rfl hl.1 rfl (Nat.le_of_ble_eq_true rfl) dX10_behind_23 ⟨Nat.zero_le _, Nat.zero_le _⟩ (fun H locs hP hD hS => ?_)
      refine lv_if_ge (tgt := 34) hx hb dX10_behind_26 (by decide) (fun hc => ?_) (fun hc => ?_)
      · replace hf := (if_pos hc).symm.trans hf
        refine lv_aload_n hx hb dX10_behind_34 rfl (lv_at hl 0 rfl) ?_
        refine va_get (D := D) (ci := 10) (v := .ref a_t_now) (C := RX10) (T := TX10) (N := 24) hx hb hts hmsX10 hown hK hP 0 rfl rfl 4 (by decide) hw16 (fun _ h9 => h9) rfl dX10_behind_35 ?_
        refine lv_bipush (v := 7) hx hb dX10_behind_38 (by decide) ?_
        refine lv_iload_n hx hb dX10_behind_40 rfl (lv_at hl 2 rfl) ?_
        refine lv_imul hx hb dX10_behind_41 ?_
        refine lv_iload_n hx hb dX10_behind_42 rfl (lv_at hl 1 rfl) ?_
        refine lv_iadd hx hb dX10_behind_43 ?_
        obtain ⟨hi44, hf⟩ := ix_if hf
        refine va_iald (D := D) hx hb hK hP 3 0 rfl rfl hi44 dX10_behind_44 ?_
        obtain rfl := Option.some.inj hf
        exact fin _ _ _ _ dX10_behind_45 hP hD hS
      · replace hf := (if_neg hc).symm.trans hf
        refine lv_bipush (v := -5) hx hb dX10_behind_29 (by decide) ?_
        refine lv_goto (tgt := 45) hx hb dX10_behind_31 (by decide) ?_
        obtain rfl := Option.some.inj hf
        exact fin _ _ _ _ dX10_behind_45 hP hD hS
    · replace hf := (if_pos hc).symm.trans hf
      refine lv_bipush (v := -2) hx hb dX10_behind_19 (by decide) ?_
      obtain rfl := Option.some.inj hf
      exact fin _ _ _ _ dX10_behind_21 hP hD hS
  · replace hf := (if_pos hc).symm.trans hf
    refine lv_iconst (v := -1) hx hb dX10_behind_8 (by decide) ?_
    obtain rfl := Option.some.inj hf
    exact fin _ _ _ _ dX10_behind_9 hP hD hS
abbrev rm_X10_then : Room := { frames := 6, cells := 0, slots := 0, locals := 129 }
theorem ms_X10_then_X10 : ∀ w ∈ u_ws RX10 TX10 24, w ∈ wsX10_then := fun w h => List.mem_cons_of_mem _ (List.mem_append_right _ (h))
set_option maxHeartbeats 4000000 in
set_option maxRecDepth 100000 in
theorem c_X10_then (l : Launch) (D : va_G) (cI cJ cZ cO : ClassId) (sz : Nat) (a_t : Nat) (a_t_roads : Nat) (a_t_book : Nat) (a_t_now : Nat) (a_t_meeting : Nat) (a_t_sight : Nat) (a_t_pad : Nat) (a_t_apart : Nat) (a_t_rounds : Nat) (a_t_fewest : Nat) (a_t_nextFewest : Nat) (a_t_ways : Nat) (a_t_nextWays : Nat) (a_t_counts : Nat) (a_t_image : Nat) (a_t_isKept : Nat) (t_homes : Int32) (t_there : Int32) (t_meetings : Int32) (t_sights : Int32) (t_signs : Int32) (t_touched : Int32) (t_firstTouch : Int32) (t_reason : Int32) (t_acts : Int32) (t_roads : Nat → Int32) (t_book : Nat → Int32) (t_now : Nat → Int32) (t_pad : Nat → Int32) (p1 : Int32) (res : Int32 × Int32 × Int32 × Int32 × Int32 × (Nat → Int32)) (hf : f_X10_then t_homes t_there t_signs t_touched t_firstTouch t_reason t_acts t_roads t_book t_now t_pad p1 = some res) : MetI l yX10_then wsX10_then rm_X10_then [.ref a_t, .int p1] D (tys4 cI cJ cZ cO) [(a_t, .inr (10, [.ref a_t_roads, .int t_homes, .int t_there, .ref a_t_book, .ref a_t_now, .int t_meetings, .ref a_t_meeting, .int t_sights, .ref a_t_sight, .int t_signs, .ref a_t_pad, .int t_touched, .int t_firstTouch, .int t_reason, .int t_acts, .ref a_t_apart, .ref a_t_rounds, .ref a_t_fewest, .ref a_t_nextFewest, .ref a_t_ways, .ref a_t_nextWays, .ref a_t_counts, .ref a_t_image, .ref a_t_isKept])), (a_t_roads, .inl (cI, 12, .inl t_roads)), (a_t_book, .inl (cI, 25, .inl t_book)), (a_t_now, .inl (cI, 25, .inl t_now)), (a_t_pad, .inl (cI, 60, .inl t_pad))] sz res.1 [(a_t, .inr (10, [.ref a_t_roads, .int t_homes, .int t_there, .ref a_t_book, .ref a_t_now, .int t_meetings, .ref a_t_meeting, .int t_sights, .ref a_t_sight, .int t_signs, .ref a_t_pad, .int res.2.1, .int res.2.2.1, .int res.2.2.2.1, .int res.2.2.2.2.1, .ref a_t_apart, .ref a_t_rounds, .ref a_t_fewest, .ref a_t_nextFewest, .ref a_t_ways, .ref a_t_nextWays, .ref a_t_counts, .ref a_t_image, .ref a_t_isKept])), (a_t_roads, .inl (cI, 12, .inl t_roads)), (a_t_book, .inl (cI, 25, .inl t_book)), (a_t_now, .inl (cI, 25, .inl res.2.2.2.2.2)), (a_t_pad, .inl (cI, 60, .inl t_pad))] := by
  refine met_i (cc := cX10_then) (maxL := 2) (by decide) rfl (Nat.le_of_ble_eq_true rfl) ?_
  intro p e s m args below meth c Q A hx hb hml hown hts hK hN hA fin H locs ls hP hD hS hl
  replace hown : s.vm.findClass RX10 = some m.cls := hown
  replace hl : lv_has ls 2 [(0, .ref a_t), (1, .int p1)] := hl
  rw [f_X10_then] at hf
  have hcw57 := va_cwS (R := rm_X10_then) (rm := rm_X10_in) 3 hts gX10_then_X10_in rfl rfl rfl (by decide +kernel) ⟨Nat.le_of_ble_eq_true rfl, Nat.le_of_ble_eq_true rfl⟩
  have hcw130 := cwV (R := rm_X10_then) (rm := rm_X10_barOfDays) 0 hts gX10_then_X10_barOfDays rfl rfl rfl (by decide +kernel) ⟨Nat.le_of_ble_eq_true rfl, Nat.le_of_ble_eq_true rfl⟩
  have hw99 := hts (.fieldLink RX10 99 "TouchReignModel" "firstTouch" "I") (by decide +kernel)
  have hmsX10 := ms_X10_then_X10
  have hw96 := hts (.fieldLink RX10 96 "TouchReignModel" "touched" "I") (by decide +kernel)
  have hw16 := hts (.fieldLink RX10 16 "TouchReignModel" "now" "[I") (by decide +kernel)
  refine lv_iload_n hx hb dX10_then_0 rfl (lv_at hl 1 rfl) ?_
  refine lv_iconst (v := 0) hx hb dX10_then_1 (by decide) ?_
  refine lv_iconst (v := 4) hx hb dX10_then_2 (by decide) ?_
  obtain ⟨x3, hx3, hf⟩ := bd_if hf
  refine cs_i (wr := [(a_t, .inr (10, [.ref a_t_roads, .int t_homes, .int t_there, .ref a_t_book, .ref a_t_now, .int t_meetings, .ref a_t_meeting, .int t_sights, .ref a_t_sight, .int t_signs, .ref a_t_pad, .int t_touched, .int t_firstTouch, .int t_reason, .int t_acts, .ref a_t_apart, .ref a_t_rounds, .ref a_t_fewest, .ref a_t_nextFewest, .ref a_t_ways, .ref a_t_nextWays, .ref a_t_counts, .ref a_t_image, .ref a_t_isKept])), (a_t_roads, .inl (cI, 12, .inl t_roads)), (a_t_book, .inl (cI, 25, .inl t_book)), (a_t_now, .inl (cI, 25, .inl t_now)), (a_t_pad, .inl (cI, 60, .inl t_pad))]) (ws' := [(a_t, .inr (10, [.ref a_t_roads, .int t_homes, .int t_there, .ref a_t_book, .ref a_t_now, .int t_meetings, .ref a_t_meeting, .int t_sights, .ref a_t_sight, .int t_signs, .ref a_t_pad, .int t_touched, .int t_firstTouch, .int t_reason, .int t_acts, .ref a_t_apart, .ref a_t_rounds, .ref a_t_fewest, .ref a_t_nextFewest, .ref a_t_ways, .ref a_t_nextWays, .ref a_t_counts, .ref a_t_image, .ref a_t_isKept])), (a_t_roads, .inl (cI, 12, .inl t_roads)), (a_t_book, .inl (cI, 25, .inl t_book)), (a_t_now, .inl (cI, 25, .inl t_now)), (a_t_pad, .inl (cI, 60, .inl t_pad))]) ⟨hx, hb, hml, hown, hts⟩ hcw57 hK hN hP hD hS hA (c_X10_in l D cI cJ cZ cO _ p1 (0 : Int32) (4 : Int32) x3 hx3) [] [0, 1, 2, 3, 4] [0, 1, 2, 3, 4] rfl rfl rfl rfl (by decide) rfl rfl rfl hl.1 rfl (Nat.le_of_ble_eq_true rfl) dX10_then_3 ⟨Nat.zero_le _, Nat.zero_le _⟩ (fun H locs hP hD hS => ?_)
  refine lv_if_ne (tgt := 12) hx hb dX10_then_6 (by decide) (fun hc => ?_) (fun hc => ?_)
  · replace hf := (if_neg hc).symm.trans hf
    refine lv_aload_n hx hb dX10_then_12 rfl (lv_at hl 0 rfl) ?_
    obtain ⟨x13, hx13, hf⟩ := bd_if hf
    refine cv_i (wr := []) (ws' := [(a_t, .inr (10, [.ref a_t_roads, .int t_homes, .int t_there, .ref a_t_book, .ref a_t_now, .int t_meetings, .ref a_t_meeting, .int t_sights, .ref a_t_sight, .int t_signs, .ref a_t_pad, .int x13.2.1, .int x13.2.2.1, .int x13.2.2.2.1, .int x13.2.2.2.2.1, .ref a_t_apart, .ref a_t_rounds, .ref a_t_fewest, .ref a_t_nextFewest, .ref a_t_ways, .ref a_t_nextWays, .ref a_t_counts, .ref a_t_image, .ref a_t_isKept])), (a_t_roads, .inl (cI, 12, .inl t_roads)), (a_t_book, .inl (cI, 25, .inl t_book)), (a_t_now, .inl (cI, 25, .inl x13.2.2.2.2.2)), (a_t_pad, .inl (cI, 60, .inl t_pad))]) ⟨hx, hb, hml, hown, hts⟩ hcw130 hK hN hP hD hS hA (c_X10_barOfDays l D cI cJ cZ cO _ a_t a_t_roads a_t_book a_t_now a_t_meeting a_t_sight a_t_pad a_t_apart a_t_rounds a_t_fewest a_t_nextFewest a_t_ways a_t_nextWays a_t_counts a_t_image a_t_isKept t_homes t_there t_meetings t_sights t_signs t_touched t_firstTouch t_reason t_acts t_roads t_book t_now t_pad x13 hx13) (q := (RX10, TX10, 24)) (ci := 10) (q0 := 0) rfl rfl [0, 1, 2, 3, 4] [] [0, 1, 2, 3, 4] rfl rfl rfl rfl (by decide) rfl rfl rfl hl.1 rfl (Nat.le_of_ble_eq_true rfl) dX10_then_13 ⟨Nat.zero_le _, Nat.zero_le _⟩ (fun H locs hP hD hS => ?_)
    refine lv_if_ge (tgt := 22) hx hb dX10_then_16 (by decide) (fun hc => ?_) (fun hc => ?_)
    · replace hf := (if_pos hc).symm.trans hf
      refine lv_iload_n hx hb dX10_then_22 rfl (lv_at hl 1 rfl) ?_
      refine lv_iconst (v := 3) hx hb dX10_then_23 (by decide) ?_
      refine lv_icmp_ge (tgt := 39) hx hb dX10_then_24 (by decide) (fun hc => ?_) (fun hc => ?_)
      · replace hf := (if_pos hc).symm.trans hf
        refine lv_iload_n hx hb dX10_then_39 rfl (lv_at hl 1 rfl) ?_
        refine lv_iconst (v := 3) hx hb dX10_then_40 (by decide) ?_
        refine lv_icmp_ne (tgt := 51) hx hb dX10_then_41 (by decide) (fun hc => ?_) (fun hc => ?_)
        · replace hf := (if_neg hc).symm.trans hf
          refine lv_aload_n hx hb dX10_then_51 rfl (lv_at hl 0 rfl) ?_
          refine va_get (D := D) (ci := 10) (v := .int x13.2.2.1) (C := RX10) (T := TX10) (N := 24) hx hb hts hmsX10 hown hK hP 0 rfl rfl 12 (by decide) hw99 (fun _ h9 => h9) rfl dX10_then_52 ?_
          obtain rfl := Option.some.inj hf
          exact fin _ _ _ _ dX10_then_55 hP hD hS
        · replace hf := (if_pos hc).symm.trans hf
          refine lv_aload_n hx hb dX10_then_44 rfl (lv_at hl 0 rfl) ?_
          refine va_get (D := D) (ci := 10) (v := .int x13.2.1) (C := RX10) (T := TX10) (N := 24) hx hb hts hmsX10 hown hK hP 0 rfl rfl 11 (by decide) hw96 (fun _ h9 => h9) rfl dX10_then_45 ?_
          refine lv_goto (tgt := 55) hx hb dX10_then_48 (by decide) ?_
          obtain rfl := Option.some.inj hf
          exact fin _ _ _ _ dX10_then_55 hP hD hS
      · replace hf := (if_neg hc).symm.trans hf
        refine lv_aload_n hx hb dX10_then_27 rfl (lv_at hl 0 rfl) ?_
        refine va_get (D := D) (ci := 10) (v := .ref a_t_now) (C := RX10) (T := TX10) (N := 24) hx hb hts hmsX10 hown hK hP 0 rfl rfl 4 (by decide) hw16 (fun _ h9 => h9) rfl dX10_then_28 ?_
        refine lv_bipush (v := 22) hx hb dX10_then_31 (by decide) ?_
        refine lv_iload_n hx hb dX10_then_33 rfl (lv_at hl 1 rfl) ?_
        refine lv_iadd hx hb dX10_then_34 ?_
        obtain ⟨hi35, hf⟩ := ix_if hf
        refine va_iald (D := D) hx hb hK hP 3 0 rfl rfl hi35 dX10_then_35 ?_
        refine lv_goto (tgt := 55) hx hb dX10_then_36 (by decide) ?_
        obtain rfl := Option.some.inj hf
        exact fin _ _ _ _ dX10_then_55 hP hD hS
    · replace hf := (if_neg hc).symm.trans hf
      refine lv_bipush (v := -5) hx hb dX10_then_19 (by decide) ?_
      obtain rfl := Option.some.inj hf
      exact fin _ _ _ _ dX10_then_21 hP hD hS
  · replace hf := (if_pos hc).symm.trans hf
    refine lv_bipush (v := -2) hx hb dX10_then_9 (by decide) ?_
    obtain rfl := Option.some.inj hf
    exact fin _ _ _ _ dX10_then_11 hP hD hS
abbrev rm_X10_layFar : Room := { frames := 1, cells := 0, slots := 0, locals := 21 }
theorem ms_X10_layFar_X10 : ∀ w ∈ u_ws RX10 TX10 24, w ∈ wsX10_layFar := fun w h => List.mem_cons_of_mem _ (List.mem_append_right _ (h))
set_option maxHeartbeats 4000000 in
set_option maxRecDepth 100000 in
theorem c_X10_layFar (l : Launch) (D : va_G) (cI cJ cZ cO : ClassId) (sz : Nat) (a_t : Nat) (a_t_roads : Nat) (a_t_book : Nat) (a_t_now : Nat) (a_t_meeting : Nat) (a_t_sight : Nat) (a_t_pad : Nat) (a_t_apart : Nat) (a_t_rounds : Nat) (a_t_fewest : Nat) (a_t_nextFewest : Nat) (a_t_ways : Nat) (a_t_nextWays : Nat) (a_t_counts : Nat) (a_t_image : Nat) (a_t_isKept : Nat) (t_homes : Int32) (t_there : Int32) (t_meetings : Int32) (t_sights : Int32) (t_signs : Int32) (t_touched : Int32) (t_firstTouch : Int32) (t_reason : Int32) (t_acts : Int32) (t_roads : Nat → Int32) (t_apart : Nat → Int32) (res : (Nat → Int32)) (hf : f_X10_layFar t_roads t_apart = some res) : MetV l yX10_layFar wsX10_layFar rm_X10_layFar [.ref a_t] D (tys4 cI cJ cZ cO) [(a_t, .inr (10, [.ref a_t_roads, .int t_homes, .int t_there, .ref a_t_book, .ref a_t_now, .int t_meetings, .ref a_t_meeting, .int t_sights, .ref a_t_sight, .int t_signs, .ref a_t_pad, .int t_touched, .int t_firstTouch, .int t_reason, .int t_acts, .ref a_t_apart, .ref a_t_rounds, .ref a_t_fewest, .ref a_t_nextFewest, .ref a_t_ways, .ref a_t_nextWays, .ref a_t_counts, .ref a_t_image, .ref a_t_isKept])), (a_t_roads, .inl (cI, 12, .inl t_roads)), (a_t_apart, .inl (cI, 144, .inl t_apart))] sz [(a_t, .inr (10, [.ref a_t_roads, .int t_homes, .int t_there, .ref a_t_book, .ref a_t_now, .int t_meetings, .ref a_t_meeting, .int t_sights, .ref a_t_sight, .int t_signs, .ref a_t_pad, .int t_touched, .int t_firstTouch, .int t_reason, .int t_acts, .ref a_t_apart, .ref a_t_rounds, .ref a_t_fewest, .ref a_t_nextFewest, .ref a_t_ways, .ref a_t_nextWays, .ref a_t_counts, .ref a_t_image, .ref a_t_isKept])), (a_t_roads, .inl (cI, 12, .inl t_roads)), (a_t_apart, .inl (cI, 144, .inl res))] := by
  refine met_v (cc := cX10_layFar) (maxL := 5) (by decide) rfl (Nat.le_of_ble_eq_true rfl) ?_
  intro p e s m args below meth c Q A hx hb hml hown hts hK hN hA fin H locs ls hP hD hS hl
  replace hown : s.vm.findClass RX10 = some m.cls := hown
  replace hl : lv_has ls 5 [(0, .ref a_t)] := hl
  rw [f_X10_layFar] at hf
  have hw28 := hts (.fieldLink RX10 28 "TouchReignModel" "apart" "[I") (by decide +kernel)
  have hmsX10 := ms_X10_layFar_X10
  have hw7 := hts (.fieldLink RX10 7 "TouchReignModel" "roads" "[I") (by decide +kernel)
  have hcw69 := va_cwS (R := rm_X10_layFar) (rm := rm_X10_has) 2 hts gX10_layFar_X10_has rfl rfl rfl (by decide +kernel) ⟨Nat.le_of_ble_eq_true rfl, Nat.le_of_ble_eq_true rfl⟩
  have hc133 := hts (.constant RX10 133 (1000000)) (by decide +kernel)
  refine lv_iconst (v := 0) hx hb dX10_layFar_0 (by decide) ?_
  refine lv_istore_n (lv' := [(1, .int (0 : Int32)), (0, .ref a_t)]) hx hb dX10_layFar_1 rfl hl (by decide) rfl (fun ls hl => ?_)
  have hX2 : ∀ (x2t_apart : Nat → Int32) (H : Heap) (locs : List Loc) (ls : Array Slot), va_P D vwCl [(a_t, .inr (10, [.ref a_t_roads, .int t_homes, .int t_there, .ref a_t_book, .ref a_t_now, .int t_meetings, .ref a_t_meeting, .int t_sights, .ref a_t_sight, .int t_signs, .ref a_t_pad, .int t_touched, .int t_firstTouch, .int t_reason, .int t_acts, .ref a_t_apart, .ref a_t_rounds, .ref a_t_fewest, .ref a_t_nextFewest, .ref a_t_ways, .ref a_t_nextWays, .ref a_t_counts, .ref a_t_image, .ref a_t_isKept])), (a_t_roads, .inl (cI, 12, .inl t_roads)), (a_t_apart, .inl (cI, 144, .inl x2t_apart))] H → va_D A [(a_t, .inr (10, [.ref a_t_roads, .int t_homes, .int t_there, .ref a_t_book, .ref a_t_now, .int t_meetings, .ref a_t_meeting, .int t_sights, .ref a_t_sight, .int t_signs, .ref a_t_pad, .int t_touched, .int t_firstTouch, .int t_reason, .int t_acts, .ref a_t_apart, .ref a_t_rounds, .ref a_t_fewest, .ref a_t_nextFewest, .ref a_t_ways, .ref a_t_nextWays, .ref a_t_counts, .ref a_t_image, .ref a_t_isKept])), (a_t_roads, .inl (cI, 12, .inl t_roads)), (a_t_apart, .inl (cI, 144, .inl x2t_apart))] → va_S A s.heap H locs → lv_has ls 5 [(0, .ref a_t)] → f_X10_layFar_X2 x2t_apart = some res → W p l e rm_X10_layFar s m args below meth c H locs 0 0 Q (F0 m 67 ls []) := by
    intro x2t_apart H locs ls hP hD hS hl hf
    rw [f_X10_layFar_X2] at hf
    refine lv_iconst (v := 0) hx hb dX10_layFar_67 (by decide) ?_
    refine lv_istore_n (lv' := [(1, .int (0 : Int32)), (0, .ref a_t)]) hx hb dX10_layFar_68 rfl hl (by decide) rfl (fun ls hl => ?_)
    have hX69 : ∀ (x69t_apart : Nat → Int32) (H : Heap) (locs : List Loc) (ls : Array Slot), va_P D vwCl [(a_t, .inr (10, [.ref a_t_roads, .int t_homes, .int t_there, .ref a_t_book, .ref a_t_now, .int t_meetings, .ref a_t_meeting, .int t_sights, .ref a_t_sight, .int t_signs, .ref a_t_pad, .int t_touched, .int t_firstTouch, .int t_reason, .int t_acts, .ref a_t_apart, .ref a_t_rounds, .ref a_t_fewest, .ref a_t_nextFewest, .ref a_t_ways, .ref a_t_nextWays, .ref a_t_counts, .ref a_t_image, .ref a_t_isKept])), (a_t_roads, .inl (cI, 12, .inl t_roads)), (a_t_apart, .inl (cI, 144, .inl x69t_apart))] H → va_D A [(a_t, .inr (10, [.ref a_t_roads, .int t_homes, .int t_there, .ref a_t_book, .ref a_t_now, .int t_meetings, .ref a_t_meeting, .int t_sights, .ref a_t_sight, .int t_signs, .ref a_t_pad, .int t_touched, .int t_firstTouch, .int t_reason, .int t_acts, .ref a_t_apart, .ref a_t_rounds, .ref a_t_fewest, .ref a_t_nextFewest, .ref a_t_ways, .ref a_t_nextWays, .ref a_t_counts, .ref a_t_image, .ref a_t_isKept])), (a_t_roads, .inl (cI, 12, .inl t_roads)), (a_t_apart, .inl (cI, 144, .inl x69t_apart))] → va_S A s.heap H locs → lv_has ls 5 [] → f_X10_layFar_X69 x69t_apart = some res → W p l e rm_X10_layFar s m args below meth c H locs 0 0 Q (F0 m 177 ls []) := by
      intro x69t_apart H locs ls hP hD hS hl hf
      rw [f_X10_layFar_X69] at hf
      obtain rfl := Option.some.inj hf
      exact fin _ _ _ _ dX10_layFar_177 hP hD hS
    have hL69 : ∀ (n69 : Nat), ∀ (l69v1 : Int32) (l69t_apart : Nat → Int32) (H : Heap) (locs : List Loc) (ls : Array Slot), va_P D vwCl [(a_t, .inr (10, [.ref a_t_roads, .int t_homes, .int t_there, .ref a_t_book, .ref a_t_now, .int t_meetings, .ref a_t_meeting, .int t_sights, .ref a_t_sight, .int t_signs, .ref a_t_pad, .int t_touched, .int t_firstTouch, .int t_reason, .int t_acts, .ref a_t_apart, .ref a_t_rounds, .ref a_t_fewest, .ref a_t_nextFewest, .ref a_t_ways, .ref a_t_nextWays, .ref a_t_counts, .ref a_t_image, .ref a_t_isKept])), (a_t_roads, .inl (cI, 12, .inl t_roads)), (a_t_apart, .inl (cI, 144, .inl l69t_apart))] H → va_D A [(a_t, .inr (10, [.ref a_t_roads, .int t_homes, .int t_there, .ref a_t_book, .ref a_t_now, .int t_meetings, .ref a_t_meeting, .int t_sights, .ref a_t_sight, .int t_signs, .ref a_t_pad, .int t_touched, .int t_firstTouch, .int t_reason, .int t_acts, .ref a_t_apart, .ref a_t_rounds, .ref a_t_fewest, .ref a_t_nextFewest, .ref a_t_ways, .ref a_t_nextWays, .ref a_t_counts, .ref a_t_image, .ref a_t_isKept])), (a_t_roads, .inl (cI, 12, .inl t_roads)), (a_t_apart, .inl (cI, 144, .inl l69t_apart))] → va_S A s.heap H locs → lv_has ls 5 [(0, .ref a_t), (1, .int l69v1)] → f_X10_layFar_L69 f_X10_layFar_X69 n69 l69v1 l69t_apart = some res → W p l e rm_X10_layFar s m args below meth c H locs 0 0 Q (F0 m 69 ls []) := by
      intro n69
      induction n69 with
      | zero =>
        intro l69v1 l69t_apart H locs ls hP hD hS hl hf
        rw [f_X10_layFar_L69] at hf
        cases hf
      | succ n69 ih69 =>
        intro l69v1 l69t_apart H locs ls hP hD hS hl hf
        rw [f_X10_layFar_L69] at hf
        refine lv_iload_n hx hb dX10_layFar_69 rfl (lv_at hl 1 rfl) ?_
        refine lv_bipush (v := 12) hx hb dX10_layFar_70 (by decide) ?_
        refine lv_icmp_ge (tgt := 177) hx hb dX10_layFar_72 (by decide) (fun hc => ?_) (fun hc => ?_)
        · replace hf := (if_pos hc).symm.trans hf
          exact hX69 l69t_apart _ _ _ hP hD hS (lv_sub hl [] rfl) hf
        · replace hf := (if_neg hc).symm.trans hf
          refine lv_iconst (v := 0) hx hb dX10_layFar_75 (by decide) ?_
          refine lv_istore_n (lv' := [(2, .int (0 : Int32)), (0, .ref a_t), (1, .int l69v1)]) hx hb dX10_layFar_76 rfl hl (by decide) rfl (fun ls hl => ?_)
          have hX77 : ∀ (x77t_apart : Nat → Int32) (H : Heap) (locs : List Loc) (ls : Array Slot), va_P D vwCl [(a_t, .inr (10, [.ref a_t_roads, .int t_homes, .int t_there, .ref a_t_book, .ref a_t_now, .int t_meetings, .ref a_t_meeting, .int t_sights, .ref a_t_sight, .int t_signs, .ref a_t_pad, .int t_touched, .int t_firstTouch, .int t_reason, .int t_acts, .ref a_t_apart, .ref a_t_rounds, .ref a_t_fewest, .ref a_t_nextFewest, .ref a_t_ways, .ref a_t_nextWays, .ref a_t_counts, .ref a_t_image, .ref a_t_isKept])), (a_t_roads, .inl (cI, 12, .inl t_roads)), (a_t_apart, .inl (cI, 144, .inl x77t_apart))] H → va_D A [(a_t, .inr (10, [.ref a_t_roads, .int t_homes, .int t_there, .ref a_t_book, .ref a_t_now, .int t_meetings, .ref a_t_meeting, .int t_sights, .ref a_t_sight, .int t_signs, .ref a_t_pad, .int t_touched, .int t_firstTouch, .int t_reason, .int t_acts, .ref a_t_apart, .ref a_t_rounds, .ref a_t_fewest, .ref a_t_nextFewest, .ref a_t_ways, .ref a_t_nextWays, .ref a_t_counts, .ref a_t_image, .ref a_t_isKept])), (a_t_roads, .inl (cI, 12, .inl t_roads)), (a_t_apart, .inl (cI, 144, .inl x77t_apart))] → va_S A s.heap H locs → lv_has ls 5 [(0, .ref a_t), (1, .int l69v1)] → f_X10_layFar_X77 l69v1 (f_X10_layFar_L69 f_X10_layFar_X69 n69) x77t_apart = some res → W p l e rm_X10_layFar s m args below meth c H locs 0 0 Q (F0 m 171 ls []) := by
            intro x77t_apart H locs ls hP hD hS hl hf
            rw [f_X10_layFar_X77] at hf
            refine lv_iinc (v := l69v1 + 1) (lv' := [(1, .int (l69v1 + 1)), (0, .ref a_t)]) hx hb dX10_layFar_171 hl (k := 1) rfl rfl (by decide) rfl (fun ls hl => ?_)
            refine lv_goto (tgt := 69) hx hb dX10_layFar_174 (by decide) ?_
            exact ih69 (l69v1 + 1) x77t_apart _ _ _ hP hD hS (lv_sub hl [1, 0] rfl) hf
          have hL77 : ∀ (n77 : Nat), ∀ (l77v2 : Int32) (l77t_apart : Nat → Int32) (H : Heap) (locs : List Loc) (ls : Array Slot), va_P D vwCl [(a_t, .inr (10, [.ref a_t_roads, .int t_homes, .int t_there, .ref a_t_book, .ref a_t_now, .int t_meetings, .ref a_t_meeting, .int t_sights, .ref a_t_sight, .int t_signs, .ref a_t_pad, .int t_touched, .int t_firstTouch, .int t_reason, .int t_acts, .ref a_t_apart, .ref a_t_rounds, .ref a_t_fewest, .ref a_t_nextFewest, .ref a_t_ways, .ref a_t_nextWays, .ref a_t_counts, .ref a_t_image, .ref a_t_isKept])), (a_t_roads, .inl (cI, 12, .inl t_roads)), (a_t_apart, .inl (cI, 144, .inl l77t_apart))] H → va_D A [(a_t, .inr (10, [.ref a_t_roads, .int t_homes, .int t_there, .ref a_t_book, .ref a_t_now, .int t_meetings, .ref a_t_meeting, .int t_sights, .ref a_t_sight, .int t_signs, .ref a_t_pad, .int t_touched, .int t_firstTouch, .int t_reason, .int t_acts, .ref a_t_apart, .ref a_t_rounds, .ref a_t_fewest, .ref a_t_nextFewest, .ref a_t_ways, .ref a_t_nextWays, .ref a_t_counts, .ref a_t_image, .ref a_t_isKept])), (a_t_roads, .inl (cI, 12, .inl t_roads)), (a_t_apart, .inl (cI, 144, .inl l77t_apart))] → va_S A s.heap H locs → lv_has ls 5 [(0, .ref a_t), (1, .int l69v1), (2, .int l77v2)] → f_X10_layFar_L77 l69v1 (f_X10_layFar_X77 l69v1 (f_X10_layFar_L69 f_X10_layFar_X69 n69)) n77 l77v2 l77t_apart = some res → W p l e rm_X10_layFar s m args below meth c H locs 0 0 Q (F0 m 77 ls []) := by
            intro n77
            induction n77 with
            | zero =>
              intro l77v2 l77t_apart H locs ls hP hD hS hl hf
              rw [f_X10_layFar_L77] at hf
              cases hf
            | succ n77 ih77 =>
              intro l77v2 l77t_apart H locs ls hP hD hS hl hf
              rw [f_X10_layFar_L77] at hf
              refine lv_iload_n hx hb dX10_layFar_77 rfl (lv_at hl 2 rfl) ?_
              refine lv_bipush (v := 12) hx hb dX10_layFar_78 (by decide) ?_
              refine lv_icmp_ge (tgt := 171) hx hb dX10_layFar_80 (by decide) (fun hc => ?_) (fun hc => ?_)
              · replace hf := (if_pos hc).symm.trans hf
                exact hX77 l77t_apart _ _ _ hP hD hS (lv_sub hl [0, 1] rfl) hf
              · replace hf := (if_neg hc).symm.trans hf
                refine lv_iconst (v := 0) hx hb dX10_layFar_83 (by decide) ?_
                refine lv_istore_n (lv' := [(3, .int (0 : Int32)), (0, .ref a_t), (1, .int l69v1), (2, .int l77v2)]) hx hb dX10_layFar_84 rfl hl (by decide) rfl (fun ls hl => ?_)
                have hX85 : ∀ (x85t_apart : Nat → Int32) (H : Heap) (locs : List Loc) (ls : Array Slot), va_P D vwCl [(a_t, .inr (10, [.ref a_t_roads, .int t_homes, .int t_there, .ref a_t_book, .ref a_t_now, .int t_meetings, .ref a_t_meeting, .int t_sights, .ref a_t_sight, .int t_signs, .ref a_t_pad, .int t_touched, .int t_firstTouch, .int t_reason, .int t_acts, .ref a_t_apart, .ref a_t_rounds, .ref a_t_fewest, .ref a_t_nextFewest, .ref a_t_ways, .ref a_t_nextWays, .ref a_t_counts, .ref a_t_image, .ref a_t_isKept])), (a_t_roads, .inl (cI, 12, .inl t_roads)), (a_t_apart, .inl (cI, 144, .inl x85t_apart))] H → va_D A [(a_t, .inr (10, [.ref a_t_roads, .int t_homes, .int t_there, .ref a_t_book, .ref a_t_now, .int t_meetings, .ref a_t_meeting, .int t_sights, .ref a_t_sight, .int t_signs, .ref a_t_pad, .int t_touched, .int t_firstTouch, .int t_reason, .int t_acts, .ref a_t_apart, .ref a_t_rounds, .ref a_t_fewest, .ref a_t_nextFewest, .ref a_t_ways, .ref a_t_nextWays, .ref a_t_counts, .ref a_t_image, .ref a_t_isKept])), (a_t_roads, .inl (cI, 12, .inl t_roads)), (a_t_apart, .inl (cI, 144, .inl x85t_apart))] → va_S A s.heap H locs → lv_has ls 5 [(0, .ref a_t), (1, .int l69v1), (2, .int l77v2)] → f_X10_layFar_X85 l77v2 (f_X10_layFar_L77 l69v1 (f_X10_layFar_X77 l69v1 (f_X10_layFar_L69 f_X10_layFar_X69 n69)) n77) x85t_apart = some res → W p l e rm_X10_layFar s m args below meth c H locs 0 0 Q (F0 m 165 ls []) := by
                  intro x85t_apart H locs ls hP hD hS hl hf
                  rw [f_X10_layFar_X85] at hf
                  refine lv_iinc (v := l77v2 + 1) (lv' := [(2, .int (l77v2 + 1)), (0, .ref a_t), (1, .int l69v1)]) hx hb dX10_layFar_165 hl (k := 2) rfl rfl (by decide) rfl (fun ls hl => ?_)
                  refine lv_goto (tgt := 77) hx hb dX10_layFar_168 (by decide) ?_
                  exact ih77 (l77v2 + 1) x85t_apart _ _ _ hP hD hS (lv_sub hl [1, 2, 0] rfl) hf
                have hL85 : ∀ (n85 : Nat), ∀ (l85v3 : Int32) (l85t_apart : Nat → Int32) (H : Heap) (locs : List Loc) (ls : Array Slot), va_P D vwCl [(a_t, .inr (10, [.ref a_t_roads, .int t_homes, .int t_there, .ref a_t_book, .ref a_t_now, .int t_meetings, .ref a_t_meeting, .int t_sights, .ref a_t_sight, .int t_signs, .ref a_t_pad, .int t_touched, .int t_firstTouch, .int t_reason, .int t_acts, .ref a_t_apart, .ref a_t_rounds, .ref a_t_fewest, .ref a_t_nextFewest, .ref a_t_ways, .ref a_t_nextWays, .ref a_t_counts, .ref a_t_image, .ref a_t_isKept])), (a_t_roads, .inl (cI, 12, .inl t_roads)), (a_t_apart, .inl (cI, 144, .inl l85t_apart))] H → va_D A [(a_t, .inr (10, [.ref a_t_roads, .int t_homes, .int t_there, .ref a_t_book, .ref a_t_now, .int t_meetings, .ref a_t_meeting, .int t_sights, .ref a_t_sight, .int t_signs, .ref a_t_pad, .int t_touched, .int t_firstTouch, .int t_reason, .int t_acts, .ref a_t_apart, .ref a_t_rounds, .ref a_t_fewest, .ref a_t_nextFewest, .ref a_t_ways, .ref a_t_nextWays, .ref a_t_counts, .ref a_t_image, .ref a_t_isKept])), (a_t_roads, .inl (cI, 12, .inl t_roads)), (a_t_apart, .inl (cI, 144, .inl l85t_apart))] → va_S A s.heap H locs → lv_has ls 5 [(0, .ref a_t), (1, .int l69v1), (2, .int l77v2), (3, .int l85v3)] → f_X10_layFar_L85 l69v1 l77v2 (f_X10_layFar_X85 l77v2 (f_X10_layFar_L77 l69v1 (f_X10_layFar_X77 l69v1 (f_X10_layFar_L69 f_X10_layFar_X69 n69)) n77)) n85 l85v3 l85t_apart = some res → W p l e rm_X10_layFar s m args below meth c H locs 0 0 Q (F0 m 85 ls []) := by
                  intro n85
                  induction n85 with
                  | zero =>
                    intro l85v3 l85t_apart H locs ls hP hD hS hl hf
                    rw [f_X10_layFar_L85] at hf
                    cases hf
                  | succ n85 ih85 =>
                    intro l85v3 l85t_apart H locs ls hP hD hS hl hf
                    rw [f_X10_layFar_L85] at hf
                    refine lv_iload_n hx hb dX10_layFar_85 rfl (lv_at hl 3 rfl) ?_
                    refine lv_bipush (v := 12) hx hb dX10_layFar_86 (by decide) ?_
                    refine lv_icmp_ge (tgt := 165) hx hb dX10_layFar_88 (by decide) (fun hc => ?_) (fun hc => ?_)
                    · replace hf := (if_pos hc).symm.trans hf
                      exact hX85 l85t_apart _ _ _ hP hD hS (lv_sub hl [0, 1, 2] rfl) hf
                    · replace hf := (if_neg hc).symm.trans hf
                      refine lv_aload_n hx hb dX10_layFar_91 rfl (lv_at hl 0 rfl) ?_
                      refine va_get (D := D) (ci := 10) (v := .ref a_t_apart) (C := RX10) (T := TX10) (N := 24) hx hb hts hmsX10 hown hK hP 0 rfl rfl 15 (by decide) hw28 (fun _ h9 => h9) rfl dX10_layFar_92 ?_
                      refine lv_bipush (v := 12) hx hb dX10_layFar_95 (by decide) ?_
                      refine lv_iload_n hx hb dX10_layFar_97 rfl (lv_at hl 2 rfl) ?_
                      refine lv_imul hx hb dX10_layFar_98 ?_
                      refine lv_iload_n hx hb dX10_layFar_99 rfl (lv_at hl 1 rfl) ?_
                      refine lv_iadd hx hb dX10_layFar_100 ?_
                      obtain ⟨hi101, hf⟩ := ix_if hf
                      refine va_iald (D := D) hx hb hK hP 2 0 rfl rfl hi101 dX10_layFar_101 ?_
                      refine lv_aload_n hx hb dX10_layFar_102 rfl (lv_at hl 0 rfl) ?_
                      refine va_get (D := D) (ci := 10) (v := .ref a_t_apart) (C := RX10) (T := TX10) (N := 24) hx hb hts hmsX10 hown hK hP 0 rfl rfl 15 (by decide) hw28 (fun _ h9 => h9) rfl dX10_layFar_103 ?_
                      refine lv_bipush (v := 12) hx hb dX10_layFar_106 (by decide) ?_
                      refine lv_iload_n hx hb dX10_layFar_108 rfl (lv_at hl 1 rfl) ?_
                      refine lv_imul hx hb dX10_layFar_109 ?_
                      refine lv_iload_n hx hb dX10_layFar_110 rfl (lv_at hl 3 rfl) ?_
                      refine lv_iadd hx hb dX10_layFar_111 ?_
                      obtain ⟨hi112, hf⟩ := ix_if hf
                      refine va_iald (D := D) hx hb hK hP 2 0 rfl rfl hi112 dX10_layFar_112 ?_
                      refine lv_iadd hx hb dX10_layFar_113 ?_
                      refine lv_istore (lv' := [(4, .int ((l85t_apart (((12 : Int32) * l77v2) + l69v1).toNatClampNeg) + (l85t_apart (((12 : Int32) * l69v1) + l85v3).toNatClampNeg))), (0, .ref a_t), (1, .int l69v1), (2, .int l77v2), (3, .int l85v3)]) hx hb dX10_layFar_114 hl (by decide) rfl (fun ls hl => ?_)
                      refine lv_aload_n hx hb dX10_layFar_116 rfl (lv_at hl 1 rfl) ?_
                      refine va_get (D := D) (ci := 10) (v := .ref a_t_apart) (C := RX10) (T := TX10) (N := 24) hx hb hts hmsX10 hown hK hP 0 rfl rfl 15 (by decide) hw28 (fun _ h9 => h9) rfl dX10_layFar_117 ?_
                      refine lv_bipush (v := 12) hx hb dX10_layFar_120 (by decide) ?_
                      refine lv_iload_n hx hb dX10_layFar_122 rfl (lv_at hl 3 rfl) ?_
                      refine lv_imul hx hb dX10_layFar_123 ?_
                      refine lv_iload_n hx hb dX10_layFar_124 rfl (lv_at hl 4 rfl) ?_
                      refine lv_iadd hx hb dX10_layFar_125 ?_
                      refine lv_iload hx hb dX10_layFar_126 (lv_at hl 0 rfl) ?_
                      refine lv_aload_n hx hb dX10_layFar_128 rfl (lv_at hl 1 rfl) ?_
                      refine va_get (D := D) (ci := 10) (v := .ref a_t_apart) (C := RX10) (T := TX10) (N := 24) hx hb hts hmsX10 hown hK hP 0 rfl rfl 15 (by decide) hw28 (fun _ h9 => h9) rfl dX10_layFar_129 ?_
                      refine lv_bipush (v := 12) hx hb dX10_layFar_132 (by decide) ?_
                      refine lv_iload_n hx hb dX10_layFar_134 rfl (lv_at hl 3 rfl) ?_
                      refine lv_imul hx hb dX10_layFar_135 ?_
                      refine lv_iload_n hx hb dX10_layFar_136 rfl (lv_at hl 4 rfl) ?_
                      refine lv_iadd hx hb dX10_layFar_137 ?_
                      obtain ⟨hi138, hf⟩ := ix_if hf
                      refine va_iald (D := D) hx hb hK hP 2 0 rfl rfl hi138 dX10_layFar_138 ?_
                      refine lv_icmp_ge (tgt := 147) hx hb dX10_layFar_139 (by decide) (fun hc => ?_) (fun hc => ?_)
                      · replace hf := (if_pos hc).symm.trans hf
                        refine lv_aload_n hx hb dX10_layFar_147 rfl (lv_at hl 1 rfl) ?_
                        refine va_get (D := D) (ci := 10) (v := .ref a_t_apart) (C := RX10) (T := TX10) (N := 24) hx hb hts hmsX10 hown hK hP 0 rfl rfl 15 (by decide) hw28 (fun _ h9 => h9) rfl dX10_layFar_148 ?_
                        refine lv_bipush (v := 12) hx hb dX10_layFar_151 (by decide) ?_
                        refine lv_iload_n hx hb dX10_layFar_153 rfl (lv_at hl 3 rfl) ?_
                        refine lv_imul hx hb dX10_layFar_154 ?_
                        refine lv_iload_n hx hb dX10_layFar_155 rfl (lv_at hl 4 rfl) ?_
                        refine lv_iadd hx hb dX10_layFar_156 ?_
                        refine va_iald (D := D) hx hb hK hP 2 0 rfl rfl hi138 dX10_layFar_157 ?_
                        refine va_iast (D := D) hx hb hK hP hD hS 2 0 rfl rfl hi138 dX10_layFar_158 (fun H locs hP hD hS => ?_)
                        replace hP : va_P D vwCl [(a_t, .inr (10, [.ref a_t_roads, .int t_homes, .int t_there, .ref a_t_book, .ref a_t_now, .int t_meetings, .ref a_t_meeting, .int t_sights, .ref a_t_sight, .int t_signs, .ref a_t_pad, .int t_touched, .int t_firstTouch, .int t_reason, .int t_acts, .ref a_t_apart, .ref a_t_rounds, .ref a_t_fewest, .ref a_t_nextFewest, .ref a_t_ways, .ref a_t_nextWays, .ref a_t_counts, .ref a_t_image, .ref a_t_isKept])), (a_t_roads, .inl (cI, 12, .inl t_roads)), (a_t_apart, .inl (cI, 144, .inl (upd l85t_apart (((12 : Int32) * l77v2) + l85v3).toNatClampNeg (l85t_apart (((12 : Int32) * l77v2) + l85v3).toNatClampNeg))))] H := hP
                        replace hD : va_D A [(a_t, .inr (10, [.ref a_t_roads, .int t_homes, .int t_there, .ref a_t_book, .ref a_t_now, .int t_meetings, .ref a_t_meeting, .int t_sights, .ref a_t_sight, .int t_signs, .ref a_t_pad, .int t_touched, .int t_firstTouch, .int t_reason, .int t_acts, .ref a_t_apart, .ref a_t_rounds, .ref a_t_fewest, .ref a_t_nextFewest, .ref a_t_ways, .ref a_t_nextWays, .ref a_t_counts, .ref a_t_image, .ref a_t_isKept])), (a_t_roads, .inl (cI, 12, .inl t_roads)), (a_t_apart, .inl (cI, 144, .inl (upd l85t_apart (((12 : Int32) * l77v2) + l85v3).toNatClampNeg (l85t_apart (((12 : Int32) * l77v2) + l85v3).toNatClampNeg))))] := hD
                        refine lv_iinc (v := l85v3 + 1) (lv' := [(3, .int (l85v3 + 1)), (4, .int ((l85t_apart (((12 : Int32) * l77v2) + l69v1).toNatClampNeg) + (l85t_apart (((12 : Int32) * l69v1) + l85v3).toNatClampNeg))), (0, .ref a_t), (1, .int l69v1), (2, .int l77v2)]) hx hb dX10_layFar_159 hl (k := 4) rfl rfl (by decide) rfl (fun ls hl => ?_)
                        refine lv_goto (tgt := 85) hx hb dX10_layFar_162 (by decide) ?_
                        exact ih85 (l85v3 + 1) (upd l85t_apart (((12 : Int32) * l77v2) + l85v3).toNatClampNeg (l85t_apart (((12 : Int32) * l77v2) + l85v3).toNatClampNeg)) _ _ _ hP hD hS (lv_sub hl [2, 3, 4, 0] rfl) hf
                      · replace hf := (if_neg hc).symm.trans hf
                        refine lv_iload hx hb dX10_layFar_142 (lv_at hl 0 rfl) ?_
                        refine lv_goto (tgt := 158) hx hb dX10_layFar_144 (by decide) ?_
                        refine va_iast (D := D) hx hb hK hP hD hS 2 0 rfl rfl hi138 dX10_layFar_158 (fun H locs hP hD hS => ?_)
                        replace hP : va_P D vwCl [(a_t, .inr (10, [.ref a_t_roads, .int t_homes, .int t_there, .ref a_t_book, .ref a_t_now, .int t_meetings, .ref a_t_meeting, .int t_sights, .ref a_t_sight, .int t_signs, .ref a_t_pad, .int t_touched, .int t_firstTouch, .int t_reason, .int t_acts, .ref a_t_apart, .ref a_t_rounds, .ref a_t_fewest, .ref a_t_nextFewest, .ref a_t_ways, .ref a_t_nextWays, .ref a_t_counts, .ref a_t_image, .ref a_t_isKept])), (a_t_roads, .inl (cI, 12, .inl t_roads)), (a_t_apart, .inl (cI, 144, .inl (upd l85t_apart (((12 : Int32) * l77v2) + l85v3).toNatClampNeg ((l85t_apart (((12 : Int32) * l77v2) + l69v1).toNatClampNeg) + (l85t_apart (((12 : Int32) * l69v1) + l85v3).toNatClampNeg)))))] H := hP
                        replace hD : va_D A [(a_t, .inr (10, [.ref a_t_roads, .int t_homes, .int t_there, .ref a_t_book, .ref a_t_now, .int t_meetings, .ref a_t_meeting, .int t_sights, .ref a_t_sight, .int t_signs, .ref a_t_pad, .int t_touched, .int t_firstTouch, .int t_reason, .int t_acts, .ref a_t_apart, .ref a_t_rounds, .ref a_t_fewest, .ref a_t_nextFewest, .ref a_t_ways, .ref a_t_nextWays, .ref a_t_counts, .ref a_t_image, .ref a_t_isKept])), (a_t_roads, .inl (cI, 12, .inl t_roads)), (a_t_apart, .inl (cI, 144, .inl (upd l85t_apart (((12 : Int32) * l77v2) + l85v3).toNatClampNeg ((l85t_apart (((12 : Int32) * l77v2) + l69v1).toNatClampNeg) + (l85t_apart (((12 : Int32) * l69v1) + l85v3).toNatClampNeg)))))] := hD
                        refine lv_iinc (v := l85v3 + 1) (lv' := [(3, .int (l85v3 + 1)), (4, .int ((l85t_apart (((12 : Int32) * l77v2) + l69v1).toNatClampNeg) + (l85t_apart (((12 : Int32) * l69v1) + l85v3).toNatClampNeg))), (0, .ref a_t), (1, .int l69v1), (2, .int l77v2)]) hx hb dX10_layFar_159 hl (k := 4) rfl rfl (by decide) rfl (fun ls hl => ?_)
                        refine lv_goto (tgt := 85) hx hb dX10_layFar_162 (by decide) ?_
                        exact ih85 (l85v3 + 1) (upd l85t_apart (((12 : Int32) * l77v2) + l85v3).toNatClampNeg ((l85t_apart (((12 : Int32) * l77v2) + l69v1).toNatClampNeg) + (l85t_apart (((12 : Int32) * l69v1) + l85v3).toNatClampNeg))) _ _ _ hP hD hS (lv_sub hl [2, 3, 4, 0] rfl) hf
                exact hL85 5000 (0 : Int32) l77t_apart _ _ _ hP hD hS (lv_sub hl [1, 2, 3, 0] rfl) hf
          exact hL77 5000 (0 : Int32) l69t_apart _ _ _ hP hD hS (lv_sub hl [1, 2, 0] rfl) hf
    exact hL69 5000 (0 : Int32) x2t_apart _ _ _ hP hD hS (lv_sub hl [1, 0] rfl) hf
  have hL2 : ∀ (n2 : Nat), ∀ (l2v1 : Int32) (l2t_apart : Nat → Int32) (H : Heap) (locs : List Loc) (ls : Array Slot), va_P D vwCl [(a_t, .inr (10, [.ref a_t_roads, .int t_homes, .int t_there, .ref a_t_book, .ref a_t_now, .int t_meetings, .ref a_t_meeting, .int t_sights, .ref a_t_sight, .int t_signs, .ref a_t_pad, .int t_touched, .int t_firstTouch, .int t_reason, .int t_acts, .ref a_t_apart, .ref a_t_rounds, .ref a_t_fewest, .ref a_t_nextFewest, .ref a_t_ways, .ref a_t_nextWays, .ref a_t_counts, .ref a_t_image, .ref a_t_isKept])), (a_t_roads, .inl (cI, 12, .inl t_roads)), (a_t_apart, .inl (cI, 144, .inl l2t_apart))] H → va_D A [(a_t, .inr (10, [.ref a_t_roads, .int t_homes, .int t_there, .ref a_t_book, .ref a_t_now, .int t_meetings, .ref a_t_meeting, .int t_sights, .ref a_t_sight, .int t_signs, .ref a_t_pad, .int t_touched, .int t_firstTouch, .int t_reason, .int t_acts, .ref a_t_apart, .ref a_t_rounds, .ref a_t_fewest, .ref a_t_nextFewest, .ref a_t_ways, .ref a_t_nextWays, .ref a_t_counts, .ref a_t_image, .ref a_t_isKept])), (a_t_roads, .inl (cI, 12, .inl t_roads)), (a_t_apart, .inl (cI, 144, .inl l2t_apart))] → va_S A s.heap H locs → lv_has ls 5 [(0, .ref a_t), (1, .int l2v1)] → f_X10_layFar_L2 t_roads f_X10_layFar_X2 n2 l2v1 l2t_apart = some res → W p l e rm_X10_layFar s m args below meth c H locs 0 0 Q (F0 m 2 ls []) := by
    intro n2
    induction n2 with
    | zero =>
      intro l2v1 l2t_apart H locs ls hP hD hS hl hf
      rw [f_X10_layFar_L2] at hf
      cases hf
    | succ n2 ih2 =>
      intro l2v1 l2t_apart H locs ls hP hD hS hl hf
      rw [f_X10_layFar_L2] at hf
      refine lv_iload_n hx hb dX10_layFar_2 rfl (lv_at hl 1 rfl) ?_
      refine lv_bipush (v := 12) hx hb dX10_layFar_3 (by decide) ?_
      refine lv_icmp_ge (tgt := 67) hx hb dX10_layFar_5 (by decide) (fun hc => ?_) (fun hc => ?_)
      · replace hf := (if_pos hc).symm.trans hf
        exact hX2 l2t_apart _ _ _ hP hD hS (lv_sub hl [0] rfl) hf
      · replace hf := (if_neg hc).symm.trans hf
        refine lv_iconst (v := 0) hx hb dX10_layFar_8 (by decide) ?_
        refine lv_istore_n (lv' := [(2, .int (0 : Int32)), (0, .ref a_t), (1, .int l2v1)]) hx hb dX10_layFar_9 rfl hl (by decide) rfl (fun ls hl => ?_)
        have hX10 : ∀ (x10t_apart : Nat → Int32) (H : Heap) (locs : List Loc) (ls : Array Slot), va_P D vwCl [(a_t, .inr (10, [.ref a_t_roads, .int t_homes, .int t_there, .ref a_t_book, .ref a_t_now, .int t_meetings, .ref a_t_meeting, .int t_sights, .ref a_t_sight, .int t_signs, .ref a_t_pad, .int t_touched, .int t_firstTouch, .int t_reason, .int t_acts, .ref a_t_apart, .ref a_t_rounds, .ref a_t_fewest, .ref a_t_nextFewest, .ref a_t_ways, .ref a_t_nextWays, .ref a_t_counts, .ref a_t_image, .ref a_t_isKept])), (a_t_roads, .inl (cI, 12, .inl t_roads)), (a_t_apart, .inl (cI, 144, .inl x10t_apart))] H → va_D A [(a_t, .inr (10, [.ref a_t_roads, .int t_homes, .int t_there, .ref a_t_book, .ref a_t_now, .int t_meetings, .ref a_t_meeting, .int t_sights, .ref a_t_sight, .int t_signs, .ref a_t_pad, .int t_touched, .int t_firstTouch, .int t_reason, .int t_acts, .ref a_t_apart, .ref a_t_rounds, .ref a_t_fewest, .ref a_t_nextFewest, .ref a_t_ways, .ref a_t_nextWays, .ref a_t_counts, .ref a_t_image, .ref a_t_isKept])), (a_t_roads, .inl (cI, 12, .inl t_roads)), (a_t_apart, .inl (cI, 144, .inl x10t_apart))] → va_S A s.heap H locs → lv_has ls 5 [(0, .ref a_t), (1, .int l2v1)] → f_X10_layFar_X10 l2v1 (f_X10_layFar_L2 t_roads f_X10_layFar_X2 n2) x10t_apart = some res → W p l e rm_X10_layFar s m args below meth c H locs 0 0 Q (F0 m 61 ls []) := by
          intro x10t_apart H locs ls hP hD hS hl hf
          rw [f_X10_layFar_X10] at hf
          refine lv_iinc (v := l2v1 + 1) (lv' := [(1, .int (l2v1 + 1)), (0, .ref a_t)]) hx hb dX10_layFar_61 hl (k := 1) rfl rfl (by decide) rfl (fun ls hl => ?_)
          refine lv_goto (tgt := 2) hx hb dX10_layFar_64 (by decide) ?_
          exact ih2 (l2v1 + 1) x10t_apart _ _ _ hP hD hS (lv_sub hl [1, 0] rfl) hf
        have hL10 : ∀ (n10 : Nat), ∀ (l10v2 : Int32) (l10t_apart : Nat → Int32) (H : Heap) (locs : List Loc) (ls : Array Slot), va_P D vwCl [(a_t, .inr (10, [.ref a_t_roads, .int t_homes, .int t_there, .ref a_t_book, .ref a_t_now, .int t_meetings, .ref a_t_meeting, .int t_sights, .ref a_t_sight, .int t_signs, .ref a_t_pad, .int t_touched, .int t_firstTouch, .int t_reason, .int t_acts, .ref a_t_apart, .ref a_t_rounds, .ref a_t_fewest, .ref a_t_nextFewest, .ref a_t_ways, .ref a_t_nextWays, .ref a_t_counts, .ref a_t_image, .ref a_t_isKept])), (a_t_roads, .inl (cI, 12, .inl t_roads)), (a_t_apart, .inl (cI, 144, .inl l10t_apart))] H → va_D A [(a_t, .inr (10, [.ref a_t_roads, .int t_homes, .int t_there, .ref a_t_book, .ref a_t_now, .int t_meetings, .ref a_t_meeting, .int t_sights, .ref a_t_sight, .int t_signs, .ref a_t_pad, .int t_touched, .int t_firstTouch, .int t_reason, .int t_acts, .ref a_t_apart, .ref a_t_rounds, .ref a_t_fewest, .ref a_t_nextFewest, .ref a_t_ways, .ref a_t_nextWays, .ref a_t_counts, .ref a_t_image, .ref a_t_isKept])), (a_t_roads, .inl (cI, 12, .inl t_roads)), (a_t_apart, .inl (cI, 144, .inl l10t_apart))] → va_S A s.heap H locs → lv_has ls 5 [(0, .ref a_t), (1, .int l2v1), (2, .int l10v2)] → f_X10_layFar_L10 t_roads l2v1 (f_X10_layFar_X10 l2v1 (f_X10_layFar_L2 t_roads f_X10_layFar_X2 n2)) n10 l10v2 l10t_apart = some res → W p l e rm_X10_layFar s m args below meth c H locs 0 0 Q (F0 m 10 ls []) := by
          intro n10
          induction n10 with
          | zero =>
            intro l10v2 l10t_apart H locs ls hP hD hS hl hf
            rw [f_X10_layFar_L10] at hf
            cases hf
          | succ n10 ih10 =>
            intro l10v2 l10t_apart H locs ls hP hD hS hl hf
            rw [f_X10_layFar_L10] at hf
            refine lv_iload_n hx hb dX10_layFar_10 rfl (lv_at hl 2 rfl) ?_
            refine lv_bipush (v := 12) hx hb dX10_layFar_11 (by decide) ?_
            refine lv_icmp_ge (tgt := 61) hx hb dX10_layFar_13 (by decide) (fun hc => ?_) (fun hc => ?_)
            · replace hf := (if_pos hc).symm.trans hf
              exact hX10 l10t_apart _ _ _ hP hD hS (lv_sub hl [0, 1] rfl) hf
            · replace hf := (if_neg hc).symm.trans hf
              refine lv_aload_n hx hb dX10_layFar_16 rfl (lv_at hl 0 rfl) ?_
              refine va_get (D := D) (ci := 10) (v := .ref a_t_apart) (C := RX10) (T := TX10) (N := 24) hx hb hts hmsX10 hown hK hP 0 rfl rfl 15 (by decide) hw28 (fun _ h9 => h9) rfl dX10_layFar_17 ?_
              refine lv_bipush (v := 12) hx hb dX10_layFar_20 (by decide) ?_
              refine lv_iload_n hx hb dX10_layFar_22 rfl (lv_at hl 1 rfl) ?_
              refine lv_imul hx hb dX10_layFar_23 ?_
              refine lv_iload_n hx hb dX10_layFar_24 rfl (lv_at hl 2 rfl) ?_
              refine lv_iadd hx hb dX10_layFar_25 ?_
              refine lv_iload_n hx hb dX10_layFar_26 rfl (lv_at hl 1 rfl) ?_
              refine lv_iload_n hx hb dX10_layFar_27 rfl (lv_at hl 2 rfl) ?_
              refine lv_icmp_ne (tgt := 35) hx hb dX10_layFar_28 (by decide) (fun hc => ?_) (fun hc => ?_)
              · replace hf := (if_neg hc).symm.trans hf
                refine lv_aload_n hx hb dX10_layFar_35 rfl (lv_at hl 0 rfl) ?_
                refine va_get (D := D) (ci := 10) (v := .ref a_t_roads) (C := RX10) (T := TX10) (N := 24) hx hb hts hmsX10 hown hK hP 0 rfl rfl 0 (by decide) hw7 (fun _ h9 => h9) rfl dX10_layFar_36 ?_
                refine lv_iload_n hx hb dX10_layFar_39 rfl (lv_at hl 1 rfl) ?_
                obtain ⟨hi40, hf⟩ := ix_if hf
                refine va_iald (D := D) hx hb hK hP 1 0 rfl rfl hi40 dX10_layFar_40 ?_
                refine lv_iload_n hx hb dX10_layFar_41 rfl (lv_at hl 2 rfl) ?_
                obtain ⟨x42, hx42, hf⟩ := bd_if hf
                refine cs_i (wr := [(a_t, .inr (10, [.ref a_t_roads, .int t_homes, .int t_there, .ref a_t_book, .ref a_t_now, .int t_meetings, .ref a_t_meeting, .int t_sights, .ref a_t_sight, .int t_signs, .ref a_t_pad, .int t_touched, .int t_firstTouch, .int t_reason, .int t_acts, .ref a_t_apart, .ref a_t_rounds, .ref a_t_fewest, .ref a_t_nextFewest, .ref a_t_ways, .ref a_t_nextWays, .ref a_t_counts, .ref a_t_image, .ref a_t_isKept])), (a_t_roads, .inl (cI, 12, .inl t_roads)), (a_t_apart, .inl (cI, 144, .inl l10t_apart))]) (ws' := [(a_t, .inr (10, [.ref a_t_roads, .int t_homes, .int t_there, .ref a_t_book, .ref a_t_now, .int t_meetings, .ref a_t_meeting, .int t_sights, .ref a_t_sight, .int t_signs, .ref a_t_pad, .int t_touched, .int t_firstTouch, .int t_reason, .int t_acts, .ref a_t_apart, .ref a_t_rounds, .ref a_t_fewest, .ref a_t_nextFewest, .ref a_t_ways, .ref a_t_nextWays, .ref a_t_counts, .ref a_t_image, .ref a_t_isKept])), (a_t_roads, .inl (cI, 12, .inl t_roads)), (a_t_apart, .inl (cI, 144, .inl l10t_apart))]) ⟨hx, hb, hml, hown, hts⟩ hcw69 hK hN hP hD hS hA (c_X10_has l D cI cJ cZ cO _ (t_roads l2v1.toNatClampNeg) l10v2 x42 hx42) [] [0, 1, 2] [0, 1, 2] rfl rfl rfl rfl (by decide) rfl rfl rfl hl.1 rfl (Nat.le_of_ble_eq_true rfl) dX10_layFar_42 ⟨Nat.zero_le _, Nat.zero_le _⟩ (fun H locs hP hD hS => ?_)
                refine lv_if_eq (tgt := 52) hx hb dX10_layFar_45 (by decide) (fun hc => ?_) (fun hc => ?_)
                · replace hf := (if_pos hc).symm.trans hf
                  refine lv_ldc (v := 1000000) hx hb hown hc133 dX10_layFar_52 ?_
                  obtain ⟨hi54, hf⟩ := ix_if hf
                  refine va_iast (D := D) hx hb hK hP hD hS 2 0 rfl rfl hi54 dX10_layFar_54 (fun H locs hP hD hS => ?_)
                  replace hP : va_P D vwCl [(a_t, .inr (10, [.ref a_t_roads, .int t_homes, .int t_there, .ref a_t_book, .ref a_t_now, .int t_meetings, .ref a_t_meeting, .int t_sights, .ref a_t_sight, .int t_signs, .ref a_t_pad, .int t_touched, .int t_firstTouch, .int t_reason, .int t_acts, .ref a_t_apart, .ref a_t_rounds, .ref a_t_fewest, .ref a_t_nextFewest, .ref a_t_ways, .ref a_t_nextWays, .ref a_t_counts, .ref a_t_image, .ref a_t_isKept])), (a_t_roads, .inl (cI, 12, .inl t_roads)), (a_t_apart, .inl (cI, 144, .inl (upd l10t_apart (((12 : Int32) * l2v1) + l10v2).toNatClampNeg (1000000 : Int32))))] H := hP
                  replace hD : va_D A [(a_t, .inr (10, [.ref a_t_roads, .int t_homes, .int t_there, .ref a_t_book, .ref a_t_now, .int t_meetings, .ref a_t_meeting, .int t_sights, .ref a_t_sight, .int t_signs, .ref a_t_pad, .int t_touched, .int t_firstTouch, .int t_reason, .int t_acts, .ref a_t_apart, .ref a_t_rounds, .ref a_t_fewest, .ref a_t_nextFewest, .ref a_t_ways, .ref a_t_nextWays, .ref a_t_counts, .ref a_t_image, .ref a_t_isKept])), (a_t_roads, .inl (cI, 12, .inl t_roads)), (a_t_apart, .inl (cI, 144, .inl (upd l10t_apart (((12 : Int32) * l2v1) + l10v2).toNatClampNeg (1000000 : Int32))))] := hD
                  refine lv_iinc (v := l10v2 + 1) (lv' := [(2, .int (l10v2 + 1)), (0, .ref a_t), (1, .int l2v1)]) hx hb dX10_layFar_55 hl (k := 2) rfl rfl (by decide) rfl (fun ls hl => ?_)
                  refine lv_goto (tgt := 10) hx hb dX10_layFar_58 (by decide) ?_
                  exact ih10 (l10v2 + 1) (upd l10t_apart (((12 : Int32) * l2v1) + l10v2).toNatClampNeg (1000000 : Int32)) _ _ _ hP hD hS (lv_sub hl [1, 2, 0] rfl) hf
                · replace hf := (if_neg hc).symm.trans hf
                  refine lv_iconst (v := 1) hx hb dX10_layFar_48 (by decide) ?_
                  refine lv_goto (tgt := 54) hx hb dX10_layFar_49 (by decide) ?_
                  obtain ⟨hi54_1, hf⟩ := ix_if hf
                  refine va_iast (D := D) hx hb hK hP hD hS 2 0 rfl rfl hi54_1 dX10_layFar_54 (fun H locs hP hD hS => ?_)
                  replace hP : va_P D vwCl [(a_t, .inr (10, [.ref a_t_roads, .int t_homes, .int t_there, .ref a_t_book, .ref a_t_now, .int t_meetings, .ref a_t_meeting, .int t_sights, .ref a_t_sight, .int t_signs, .ref a_t_pad, .int t_touched, .int t_firstTouch, .int t_reason, .int t_acts, .ref a_t_apart, .ref a_t_rounds, .ref a_t_fewest, .ref a_t_nextFewest, .ref a_t_ways, .ref a_t_nextWays, .ref a_t_counts, .ref a_t_image, .ref a_t_isKept])), (a_t_roads, .inl (cI, 12, .inl t_roads)), (a_t_apart, .inl (cI, 144, .inl (upd l10t_apart (((12 : Int32) * l2v1) + l10v2).toNatClampNeg (1 : Int32))))] H := hP
                  replace hD : va_D A [(a_t, .inr (10, [.ref a_t_roads, .int t_homes, .int t_there, .ref a_t_book, .ref a_t_now, .int t_meetings, .ref a_t_meeting, .int t_sights, .ref a_t_sight, .int t_signs, .ref a_t_pad, .int t_touched, .int t_firstTouch, .int t_reason, .int t_acts, .ref a_t_apart, .ref a_t_rounds, .ref a_t_fewest, .ref a_t_nextFewest, .ref a_t_ways, .ref a_t_nextWays, .ref a_t_counts, .ref a_t_image, .ref a_t_isKept])), (a_t_roads, .inl (cI, 12, .inl t_roads)), (a_t_apart, .inl (cI, 144, .inl (upd l10t_apart (((12 : Int32) * l2v1) + l10v2).toNatClampNeg (1 : Int32))))] := hD
                  refine lv_iinc (v := l10v2 + 1) (lv' := [(2, .int (l10v2 + 1)), (0, .ref a_t), (1, .int l2v1)]) hx hb dX10_layFar_55 hl (k := 2) rfl rfl (by decide) rfl (fun ls hl => ?_)
                  refine lv_goto (tgt := 10) hx hb dX10_layFar_58 (by decide) ?_
                  exact ih10 (l10v2 + 1) (upd l10t_apart (((12 : Int32) * l2v1) + l10v2).toNatClampNeg (1 : Int32)) _ _ _ hP hD hS (lv_sub hl [1, 2, 0] rfl) hf
              · replace hf := (if_pos hc).symm.trans hf
                refine lv_iconst (v := 0) hx hb dX10_layFar_31 (by decide) ?_
                refine lv_goto (tgt := 54) hx hb dX10_layFar_32 (by decide) ?_
                obtain ⟨hi54_2, hf⟩ := ix_if hf
                refine va_iast (D := D) hx hb hK hP hD hS 2 0 rfl rfl hi54_2 dX10_layFar_54 (fun H locs hP hD hS => ?_)
                replace hP : va_P D vwCl [(a_t, .inr (10, [.ref a_t_roads, .int t_homes, .int t_there, .ref a_t_book, .ref a_t_now, .int t_meetings, .ref a_t_meeting, .int t_sights, .ref a_t_sight, .int t_signs, .ref a_t_pad, .int t_touched, .int t_firstTouch, .int t_reason, .int t_acts, .ref a_t_apart, .ref a_t_rounds, .ref a_t_fewest, .ref a_t_nextFewest, .ref a_t_ways, .ref a_t_nextWays, .ref a_t_counts, .ref a_t_image, .ref a_t_isKept])), (a_t_roads, .inl (cI, 12, .inl t_roads)), (a_t_apart, .inl (cI, 144, .inl (upd l10t_apart (((12 : Int32) * l2v1) + l10v2).toNatClampNeg (0 : Int32))))] H := hP
                replace hD : va_D A [(a_t, .inr (10, [.ref a_t_roads, .int t_homes, .int t_there, .ref a_t_book, .ref a_t_now, .int t_meetings, .ref a_t_meeting, .int t_sights, .ref a_t_sight, .int t_signs, .ref a_t_pad, .int t_touched, .int t_firstTouch, .int t_reason, .int t_acts, .ref a_t_apart, .ref a_t_rounds, .ref a_t_fewest, .ref a_t_nextFewest, .ref a_t_ways, .ref a_t_nextWays, .ref a_t_counts, .ref a_t_image, .ref a_t_isKept])), (a_t_roads, .inl (cI, 12, .inl t_roads)), (a_t_apart, .inl (cI, 144, .inl (upd l10t_apart (((12 : Int32) * l2v1) + l10v2).toNatClampNeg (0 : Int32))))] := hD
                refine lv_iinc (v := l10v2 + 1) (lv' := [(2, .int (l10v2 + 1)), (0, .ref a_t), (1, .int l2v1)]) hx hb dX10_layFar_55 hl (k := 2) rfl rfl (by decide) rfl (fun ls hl => ?_)
                refine lv_goto (tgt := 10) hx hb dX10_layFar_58 (by decide) ?_
                exact ih10 (l10v2 + 1) (upd l10t_apart (((12 : Int32) * l2v1) + l10v2).toNatClampNeg (0 : Int32)) _ _ _ hP hD hS (lv_sub hl [1, 2, 0] rfl) hf
        exact hL10 5000 (0 : Int32) l2t_apart _ _ _ hP hD hS (lv_sub hl [1, 2, 0] rfl) hf
  exact hL2 5000 (0 : Int32) t_apart _ _ _ hP hD hS (lv_sub hl [1, 0] rfl) hf
