abbrev rm_X10_far : Room := { frames := 2, cells := 0, slots := 0, locals := 45 }
theorem ms_X10_far_X10 : ∀ w ∈ u_ws RX10 TX10 24, w ∈ wsX10_far := fun w h => List.mem_cons_of_mem _ (List.mem_append_right _ (h))
set_option maxHeartbeats 4000000 in
set_option maxRecDepth 100000 in
theorem c_X10_far (l : Launch) (D : va_G) (cI cJ cZ cO : ClassId) (sz : Nat) (a_t : Nat) (a_t_roads : Nat) (a_t_book : Nat) (a_t_now : Nat) (a_t_meeting : Nat) (a_t_sight : Nat) (a_t_pad : Nat) (a_t_apart : Nat) (a_t_rounds : Nat) (a_t_fewest : Nat) (a_t_nextFewest : Nat) (a_t_ways : Nat) (a_t_nextWays : Nat) (a_t_counts : Nat) (a_t_image : Nat) (a_t_isKept : Nat) (t_homes : Int32) (t_there : Int32) (t_meetings : Int32) (t_sights : Int32) (t_signs : Int32) (t_touched : Int32) (t_firstTouch : Int32) (t_reason : Int32) (t_acts : Int32) (t_roads : Nat → Int32) (t_apart : Nat → Int32) (p1 : Int32) (p2 : Int32) (res : Int32 × (Nat → Int32)) (hf : f_X10_far t_roads t_apart p1 p2 = some res) : MetI l yX10_far wsX10_far rm_X10_far [.ref a_t, .int p1, .int p2] D (tys4 cI cJ cZ cO) [(a_t, .inr (10, [.ref a_t_roads, .int t_homes, .int t_there, .ref a_t_book, .ref a_t_now, .int t_meetings, .ref a_t_meeting, .int t_sights, .ref a_t_sight, .int t_signs, .ref a_t_pad, .int t_touched, .int t_firstTouch, .int t_reason, .int t_acts, .ref a_t_apart, .ref a_t_rounds, .ref a_t_fewest, .ref a_t_nextFewest, .ref a_t_ways, .ref a_t_nextWays, .ref a_t_counts, .ref a_t_image, .ref a_t_isKept])), (a_t_roads, .inl (cI, 12, .inl t_roads)), (a_t_apart, .inl (cI, 144, .inl t_apart))] sz res.1 [(a_t, .inr (10, [.ref a_t_roads, .int t_homes, .int t_there, .ref a_t_book, .ref a_t_now, .int t_meetings, .ref a_t_meeting, .int t_sights, .ref a_t_sight, .int t_signs, .ref a_t_pad, .int t_touched, .int t_firstTouch, .int t_reason, .int t_acts, .ref a_t_apart, .ref a_t_rounds, .ref a_t_fewest, .ref a_t_nextFewest, .ref a_t_ways, .ref a_t_nextWays, .ref a_t_counts, .ref a_t_image, .ref a_t_isKept])), (a_t_roads, .inl (cI, 12, .inl t_roads)), (a_t_apart, .inl (cI, 144, .inl res.2))] := by
  refine met_i (cc := cX10_far) (maxL := 3) (by decide) rfl (Nat.le_of_ble_eq_true rfl) ?_
  intro p e s m args below meth c Q A hx hb hml hown hts hK hN hA fin H locs ls hP hD hS hl
  replace hown : s.vm.findClass RX10 = some m.cls := hown
  replace hl : lv_has ls 3 [(0, .ref a_t), (1, .int p1), (2, .int p2)] := hl
  rw [f_X10_far] at hf
  have hcw73 := va_cwS (R := rm_X10_far) (rm := rm_X10_isPlace) 1 hts gX10_far_X10_isPlace rfl rfl rfl (by decide +kernel) ⟨Nat.le_of_ble_eq_true rfl, Nat.le_of_ble_eq_true rfl⟩
  have hcw134 := cwV (R := rm_X10_far) (rm := rm_X10_layFar) 0 hts gX10_far_X10_layFar rfl rfl rfl (by decide +kernel) ⟨Nat.le_of_ble_eq_true rfl, Nat.le_of_ble_eq_true rfl⟩
  have hw28 := hts (.fieldLink RX10 28 "TouchReignModel" "apart" "[I") (by decide +kernel)
  have hmsX10 := ms_X10_far_X10
  have hc133 := hts (.constant RX10 133 (1000000)) (by decide +kernel)
  refine lv_iload_n hx hb dX10_far_0 rfl (lv_at hl 1 rfl) ?_
  obtain ⟨x1, hx1, hf⟩ := bd_if hf
  refine cs_i (wr := [(a_t, .inr (10, [.ref a_t_roads, .int t_homes, .int t_there, .ref a_t_book, .ref a_t_now, .int t_meetings, .ref a_t_meeting, .int t_sights, .ref a_t_sight, .int t_signs, .ref a_t_pad, .int t_touched, .int t_firstTouch, .int t_reason, .int t_acts, .ref a_t_apart, .ref a_t_rounds, .ref a_t_fewest, .ref a_t_nextFewest, .ref a_t_ways, .ref a_t_nextWays, .ref a_t_counts, .ref a_t_image, .ref a_t_isKept])), (a_t_roads, .inl (cI, 12, .inl t_roads)), (a_t_apart, .inl (cI, 144, .inl t_apart))]) (ws' := [(a_t, .inr (10, [.ref a_t_roads, .int t_homes, .int t_there, .ref a_t_book, .ref a_t_now, .int t_meetings, .ref a_t_meeting, .int t_sights, .ref a_t_sight, .int t_signs, .ref a_t_pad, .int t_touched, .int t_firstTouch, .int t_reason, .int t_acts, .ref a_t_apart, .ref a_t_rounds, .ref a_t_fewest, .ref a_t_nextFewest, .ref a_t_ways, .ref a_t_nextWays, .ref a_t_counts, .ref a_t_image, .ref a_t_isKept])), (a_t_roads, .inl (cI, 12, .inl t_roads)), (a_t_apart, .inl (cI, 144, .inl t_apart))]) ⟨hx, hb, hml, hown, hts⟩ hcw73 hK hN hP hD hS hA (c_X10_isPlace l D cI cJ cZ cO _ p1 x1 hx1) [] [0, 1, 2] [0, 1, 2] rfl rfl rfl rfl (by decide) rfl rfl rfl hl.1 rfl (Nat.le_of_ble_eq_true rfl) dX10_far_1 ⟨Nat.zero_le _, Nat.zero_le _⟩ (fun H locs hP hD hS => ?_)
  refine lv_if_eq (tgt := 14) hx hb dX10_far_4 (by decide) (fun hc => ?_) (fun hc => ?_)
  · replace hf := (if_pos hc).symm.trans hf
    refine lv_iconst (v := -1) hx hb dX10_far_14 (by decide) ?_
    obtain rfl := Option.some.inj hf
    exact fin _ _ _ _ dX10_far_15 hP hD hS
  · replace hf := (if_neg hc).symm.trans hf
    refine lv_iload_n hx hb dX10_far_7 rfl (lv_at hl 2 rfl) ?_
    obtain ⟨x8, hx8, hf⟩ := bd_if hf
    refine cs_i (wr := [(a_t, .inr (10, [.ref a_t_roads, .int t_homes, .int t_there, .ref a_t_book, .ref a_t_now, .int t_meetings, .ref a_t_meeting, .int t_sights, .ref a_t_sight, .int t_signs, .ref a_t_pad, .int t_touched, .int t_firstTouch, .int t_reason, .int t_acts, .ref a_t_apart, .ref a_t_rounds, .ref a_t_fewest, .ref a_t_nextFewest, .ref a_t_ways, .ref a_t_nextWays, .ref a_t_counts, .ref a_t_image, .ref a_t_isKept])), (a_t_roads, .inl (cI, 12, .inl t_roads)), (a_t_apart, .inl (cI, 144, .inl t_apart))]) (ws' := [(a_t, .inr (10, [.ref a_t_roads, .int t_homes, .int t_there, .ref a_t_book, .ref a_t_now, .int t_meetings, .ref a_t_meeting, .int t_sights, .ref a_t_sight, .int t_signs, .ref a_t_pad, .int t_touched, .int t_firstTouch, .int t_reason, .int t_acts, .ref a_t_apart, .ref a_t_rounds, .ref a_t_fewest, .ref a_t_nextFewest, .ref a_t_ways, .ref a_t_nextWays, .ref a_t_counts, .ref a_t_image, .ref a_t_isKept])), (a_t_roads, .inl (cI, 12, .inl t_roads)), (a_t_apart, .inl (cI, 144, .inl t_apart))]) ⟨hx, hb, hml, hown, hts⟩ hcw73 hK hN hP hD hS hA (c_X10_isPlace l D cI cJ cZ cO _ p2 x8 hx8) [] [0, 1, 2] [0, 1, 2] rfl rfl rfl rfl (by decide) rfl rfl rfl hl.1 rfl (Nat.le_of_ble_eq_true rfl) dX10_far_8 ⟨Nat.zero_le _, Nat.zero_le _⟩ (fun H locs hP hD hS => ?_)
    refine lv_if_ne (tgt := 16) hx hb dX10_far_11 (by decide) (fun hc => ?_) (fun hc => ?_)
    · replace hf := (if_neg hc).symm.trans hf
      refine lv_aload_n hx hb dX10_far_16 rfl (lv_at hl 0 rfl) ?_
      obtain ⟨x17, hx17, hf⟩ := bd_if hf
      refine cv_v (wr := []) (ws' := [(a_t, .inr (10, [.ref a_t_roads, .int t_homes, .int t_there, .ref a_t_book, .ref a_t_now, .int t_meetings, .ref a_t_meeting, .int t_sights, .ref a_t_sight, .int t_signs, .ref a_t_pad, .int t_touched, .int t_firstTouch, .int t_reason, .int t_acts, .ref a_t_apart, .ref a_t_rounds, .ref a_t_fewest, .ref a_t_nextFewest, .ref a_t_ways, .ref a_t_nextWays, .ref a_t_counts, .ref a_t_image, .ref a_t_isKept])), (a_t_roads, .inl (cI, 12, .inl t_roads)), (a_t_apart, .inl (cI, 144, .inl x17))]) ⟨hx, hb, hml, hown, hts⟩ hcw134 hK hN hP hD hS hA (c_X10_layFar l D cI cJ cZ cO _ a_t a_t_roads a_t_book a_t_now a_t_meeting a_t_sight a_t_pad a_t_apart a_t_rounds a_t_fewest a_t_nextFewest a_t_ways a_t_nextWays a_t_counts a_t_image a_t_isKept t_homes t_there t_meetings t_sights t_signs t_touched t_firstTouch t_reason t_acts t_roads t_apart x17 hx17) (q := (RX10, TX10, 24)) (ci := 10) (q0 := 0) rfl rfl [0, 1, 2] [] [0, 1, 2] rfl rfl rfl rfl (by decide) rfl rfl rfl hl.1 rfl (Nat.le_of_ble_eq_true rfl) dX10_far_17 ⟨Nat.zero_le _, Nat.zero_le _⟩ (fun H locs hP hD hS => ?_)
      refine lv_aload_n hx hb dX10_far_20 rfl (lv_at hl 0 rfl) ?_
      refine va_get (D := D) (ci := 10) (v := .ref a_t_apart) (C := RX10) (T := TX10) (N := 24) hx hb hts hmsX10 hown hK hP 0 rfl rfl 15 (by decide) hw28 (fun _ h9 => h9) rfl dX10_far_21 ?_
      refine lv_bipush (v := 12) hx hb dX10_far_24 (by decide) ?_
      refine lv_iload_n hx hb dX10_far_26 rfl (lv_at hl 1 rfl) ?_
      refine lv_imul hx hb dX10_far_27 ?_
      refine lv_iload_n hx hb dX10_far_28 rfl (lv_at hl 2 rfl) ?_
      refine lv_iadd hx hb dX10_far_29 ?_
      obtain ⟨hi30, hf⟩ := ix_if hf
      refine va_iald (D := D) hx hb hK hP 2 0 rfl rfl hi30 dX10_far_30 ?_
      refine lv_ldc (v := 1000000) hx hb hown hc133 dX10_far_31 ?_
      refine lv_icmp_lt (tgt := 41) hx hb dX10_far_33 (by decide) (fun hc => ?_) (fun hc => ?_)
      · replace hf := (if_pos hc).symm.trans hf
        refine lv_aload_n hx hb dX10_far_41 rfl (lv_at hl 0 rfl) ?_
        refine va_get (D := D) (ci := 10) (v := .ref a_t_apart) (C := RX10) (T := TX10) (N := 24) hx hb hts hmsX10 hown hK hP 0 rfl rfl 15 (by decide) hw28 (fun _ h9 => h9) rfl dX10_far_42 ?_
        refine lv_bipush (v := 12) hx hb dX10_far_45 (by decide) ?_
        refine lv_iload_n hx hb dX10_far_47 rfl (lv_at hl 1 rfl) ?_
        refine lv_imul hx hb dX10_far_48 ?_
        refine lv_iload_n hx hb dX10_far_49 rfl (lv_at hl 2 rfl) ?_
        refine lv_iadd hx hb dX10_far_50 ?_
        refine va_iald (D := D) hx hb hK hP 2 0 rfl rfl hi30 dX10_far_51 ?_
        obtain rfl := Option.some.inj hf
        exact fin _ _ _ _ dX10_far_52 hP hD hS
      · replace hf := (if_neg hc).symm.trans hf
        refine lv_bipush (v := -6) hx hb dX10_far_36 (by decide) ?_
        refine lv_goto (tgt := 52) hx hb dX10_far_38 (by decide) ?_
        obtain rfl := Option.some.inj hf
        exact fin _ _ _ _ dX10_far_52 hP hD hS
    · replace hf := (if_pos hc).symm.trans hf
      refine lv_iconst (v := -1) hx hb dX10_far_14 (by decide) ?_
      obtain rfl := Option.some.inj hf
      exact fin _ _ _ _ dX10_far_15 hP hD hS
abbrev rm_X10_isTouched : Room := { frames := 1, cells := 0, slots := 0, locals := 21 }
theorem ms_X10_isTouched_X10 : ∀ w ∈ u_ws RX10 TX10 24, w ∈ wsX10_isTouched := fun w h => List.mem_cons_of_mem _ (List.mem_append_right _ (h))
set_option maxHeartbeats 4000000 in
set_option maxRecDepth 100000 in
theorem c_X10_isTouched (l : Launch) (D : va_G) (cI cJ cZ cO : ClassId) (sz : Nat) (a_t : Nat) (a_t_roads : Nat) (a_t_book : Nat) (a_t_now : Nat) (a_t_meeting : Nat) (a_t_sight : Nat) (a_t_pad : Nat) (a_t_apart : Nat) (a_t_rounds : Nat) (a_t_fewest : Nat) (a_t_nextFewest : Nat) (a_t_ways : Nat) (a_t_nextWays : Nat) (a_t_counts : Nat) (a_t_image : Nat) (a_t_isKept : Nat) (t_homes : Int32) (t_there : Int32) (t_meetings : Int32) (t_sights : Int32) (t_signs : Int32) (t_touched : Int32) (t_firstTouch : Int32) (t_reason : Int32) (t_acts : Int32) (p1 : Int32) (p2 : Int32) (res : Int32) (hf : f_X10_isTouched t_homes p1 p2 = some res) : MetI l yX10_isTouched wsX10_isTouched rm_X10_isTouched [.ref a_t, .int p1, .int p2] D (tys4 cI cJ cZ cO) [(a_t, .inr (10, [.ref a_t_roads, .int t_homes, .int t_there, .ref a_t_book, .ref a_t_now, .int t_meetings, .ref a_t_meeting, .int t_sights, .ref a_t_sight, .int t_signs, .ref a_t_pad, .int t_touched, .int t_firstTouch, .int t_reason, .int t_acts, .ref a_t_apart, .ref a_t_rounds, .ref a_t_fewest, .ref a_t_nextFewest, .ref a_t_ways, .ref a_t_nextWays, .ref a_t_counts, .ref a_t_image, .ref a_t_isKept]))] sz res [(a_t, .inr (10, [.ref a_t_roads, .int t_homes, .int t_there, .ref a_t_book, .ref a_t_now, .int t_meetings, .ref a_t_meeting, .int t_sights, .ref a_t_sight, .int t_signs, .ref a_t_pad, .int t_touched, .int t_firstTouch, .int t_reason, .int t_acts, .ref a_t_apart, .ref a_t_rounds, .ref a_t_fewest, .ref a_t_nextFewest, .ref a_t_ways, .ref a_t_nextWays, .ref a_t_counts, .ref a_t_image, .ref a_t_isKept]))] := by
  refine met_z (cc := cX10_isTouched) (maxL := 3) (by decide) rfl (Nat.le_of_ble_eq_true rfl) ?_
  intro p e s m args below meth c Q A hx hb hml hown hts hK hN hA fin H locs ls hP hD hS hl
  replace hown : s.vm.findClass RX10 = some m.cls := hown
  replace hl : lv_has ls 3 [(0, .ref a_t), (1, .int p1), (2, .int p2)] := hl
  rw [f_X10_isTouched] at hf
  have hw80 := hts (.fieldLink RX10 80 "TouchReignModel" "homes" "I") (by decide +kernel)
  have hmsX10 := ms_X10_isTouched_X10
  have hcw69 := va_cwS (R := rm_X10_isTouched) (rm := rm_X10_has) 2 hts gX10_isTouched_X10_has rfl rfl rfl (by decide +kernel) ⟨Nat.le_of_ble_eq_true rfl, Nat.le_of_ble_eq_true rfl⟩
  refine lv_iload_n hx hb dX10_isTouched_0 rfl (lv_at hl 1 rfl) ?_
  refine lv_iload_n hx hb dX10_isTouched_1 rfl (lv_at hl 2 rfl) ?_
  refine lv_icmp_ne (tgt := 20) hx hb dX10_isTouched_2 (by decide) (fun hc => ?_) (fun hc => ?_)
  · replace hf := (if_neg hc).symm.trans hf
    refine lv_iconst (v := 0) hx hb dX10_isTouched_20 (by decide) ?_
    obtain rfl := Option.some.inj hf
    exact fin _ _ _ _ nb_0 dX10_isTouched_21 hP hD hS
  · replace hf := (if_pos hc).symm.trans hf
    refine lv_aload_n hx hb dX10_isTouched_5 rfl (lv_at hl 0 rfl) ?_
    refine va_get (D := D) (ci := 10) (v := .int t_homes) (C := RX10) (T := TX10) (N := 24) hx hb hts hmsX10 hown hK hP 0 rfl rfl 1 (by decide) hw80 (fun _ h9 => h9) rfl dX10_isTouched_6 ?_
    refine lv_iload_n hx hb dX10_isTouched_9 rfl (lv_at hl 1 rfl) ?_
    obtain ⟨x10, hx10, hf⟩ := bd_if hf
    refine cs_i (wr := [(a_t, .inr (10, [.ref a_t_roads, .int t_homes, .int t_there, .ref a_t_book, .ref a_t_now, .int t_meetings, .ref a_t_meeting, .int t_sights, .ref a_t_sight, .int t_signs, .ref a_t_pad, .int t_touched, .int t_firstTouch, .int t_reason, .int t_acts, .ref a_t_apart, .ref a_t_rounds, .ref a_t_fewest, .ref a_t_nextFewest, .ref a_t_ways, .ref a_t_nextWays, .ref a_t_counts, .ref a_t_image, .ref a_t_isKept]))]) (ws' := [(a_t, .inr (10, [.ref a_t_roads, .int t_homes, .int t_there, .ref a_t_book, .ref a_t_now, .int t_meetings, .ref a_t_meeting, .int t_sights, .ref a_t_sight, .int t_signs, .ref a_t_pad, .int t_touched, .int t_firstTouch, .int t_reason, .int t_acts, .ref a_t_apart, .ref a_t_rounds, .ref a_t_fewest, .ref a_t_nextFewest, .ref a_t_ways, .ref a_t_nextWays, .ref a_t_counts, .ref a_t_image, .ref a_t_isKept]))]) ⟨hx, hb, hml, hown, hts⟩ hcw69 hK hN hP hD hS hA (c_X10_has l D cI cJ cZ cO _ t_homes p1 x10 hx10) [] [0] [0] rfl rfl rfl rfl (by decide) rfl rfl rfl hl.1 rfl (Nat.le_of_ble_eq_true rfl) dX10_isTouched_10 ⟨Nat.zero_le _, Nat.zero_le _⟩ (fun H locs hP hD hS => ?_)
    refine lv_if_ne (tgt := 20) hx hb dX10_isTouched_13 (by decide) (fun hc => ?_) (fun hc => ?_)
    · replace hf := (if_neg hc).symm.trans hf
      refine lv_iconst (v := 0) hx hb dX10_isTouched_20 (by decide) ?_
      obtain rfl := Option.some.inj hf
      exact fin _ _ _ _ nb_0 dX10_isTouched_21 hP hD hS
    · replace hf := (if_pos hc).symm.trans hf
      refine lv_iconst (v := 1) hx hb dX10_isTouched_16 (by decide) ?_
      refine lv_goto (tgt := 21) hx hb dX10_isTouched_17 (by decide) ?_
      obtain rfl := Option.some.inj hf
      exact fin _ _ _ _ nb_1 dX10_isTouched_21 hP hD hS
abbrev rm_X10_mostBehind : Room := { frames := 1, cells := 0, slots := 0, locals := 21 }
theorem ms_X10_mostBehind_X10 : ∀ w ∈ u_ws RX10 TX10 24, w ∈ wsX10_mostBehind := fun w h => List.mem_cons_of_mem _ (List.mem_append_right _ (h))
set_option maxHeartbeats 4000000 in
set_option maxRecDepth 100000 in
theorem c_X10_mostBehind (l : Launch) (D : va_G) (cI cJ cZ cO : ClassId) (sz : Nat) (a_t : Nat) (a_t_roads : Nat) (a_t_book : Nat) (a_t_now : Nat) (a_t_meeting : Nat) (a_t_sight : Nat) (a_t_pad : Nat) (a_t_apart : Nat) (a_t_rounds : Nat) (a_t_fewest : Nat) (a_t_nextFewest : Nat) (a_t_ways : Nat) (a_t_nextWays : Nat) (a_t_counts : Nat) (a_t_image : Nat) (a_t_isKept : Nat) (t_homes : Int32) (t_there : Int32) (t_meetings : Int32) (t_sights : Int32) (t_signs : Int32) (t_touched : Int32) (t_firstTouch : Int32) (t_reason : Int32) (t_acts : Int32) (t_roads : Nat → Int32) (t_rounds : Nat → Int32) (p1 : Int32) (p2 : Int32) (res : Int32) (hf : f_X10_mostBehind t_roads t_rounds p1 p2 = some res) : MetI l yX10_mostBehind wsX10_mostBehind rm_X10_mostBehind [.ref a_t, .int p1, .int p2] D (tys4 cI cJ cZ cO) [(a_t, .inr (10, [.ref a_t_roads, .int t_homes, .int t_there, .ref a_t_book, .ref a_t_now, .int t_meetings, .ref a_t_meeting, .int t_sights, .ref a_t_sight, .int t_signs, .ref a_t_pad, .int t_touched, .int t_firstTouch, .int t_reason, .int t_acts, .ref a_t_apart, .ref a_t_rounds, .ref a_t_fewest, .ref a_t_nextFewest, .ref a_t_ways, .ref a_t_nextWays, .ref a_t_counts, .ref a_t_image, .ref a_t_isKept])), (a_t_roads, .inl (cI, 12, .inl t_roads)), (a_t_rounds, .inl (cI, 144, .inl t_rounds))] sz res [(a_t, .inr (10, [.ref a_t_roads, .int t_homes, .int t_there, .ref a_t_book, .ref a_t_now, .int t_meetings, .ref a_t_meeting, .int t_sights, .ref a_t_sight, .int t_signs, .ref a_t_pad, .int t_touched, .int t_firstTouch, .int t_reason, .int t_acts, .ref a_t_apart, .ref a_t_rounds, .ref a_t_fewest, .ref a_t_nextFewest, .ref a_t_ways, .ref a_t_nextWays, .ref a_t_counts, .ref a_t_image, .ref a_t_isKept])), (a_t_roads, .inl (cI, 12, .inl t_roads)), (a_t_rounds, .inl (cI, 144, .inl t_rounds))] := by
  refine met_i (cc := cX10_mostBehind) (maxL := 6) (by decide) rfl (Nat.le_of_ble_eq_true rfl) ?_
  intro p e s m args below meth c Q A hx hb hml hown hts hK hN hA fin H locs ls hP hD hS hl
  replace hown : s.vm.findClass RX10 = some m.cls := hown
  replace hl : lv_has ls 6 [(0, .ref a_t), (1, .int p1), (2, .int p2)] := hl
  rw [f_X10_mostBehind] at hf
  have hw31 := hts (.fieldLink RX10 31 "TouchReignModel" "rounds" "[I") (by decide +kernel)
  have hmsX10 := ms_X10_mostBehind_X10
  have hw7 := hts (.fieldLink RX10 7 "TouchReignModel" "roads" "[I") (by decide +kernel)
  have hcw69 := va_cwS (R := rm_X10_mostBehind) (rm := rm_X10_has) 2 hts gX10_mostBehind_X10_has rfl rfl rfl (by decide +kernel) ⟨Nat.le_of_ble_eq_true rfl, Nat.le_of_ble_eq_true rfl⟩
  refine lv_iconst (v := 0) hx hb dX10_mostBehind_0 (by decide) ?_
  refine lv_istore_n (lv' := [(3, .int (0 : Int32)), (0, .ref a_t), (1, .int p1), (2, .int p2)]) hx hb dX10_mostBehind_1 rfl hl (by decide) rfl (fun ls hl => ?_)
  refine lv_iconst (v := 0) hx hb dX10_mostBehind_2 (by decide) ?_
  refine lv_istore (lv' := [(4, .int (0 : Int32)), (3, .int (0 : Int32)), (0, .ref a_t), (1, .int p1), (2, .int p2)]) hx hb dX10_mostBehind_3 hl (by decide) rfl (fun ls hl => ?_)
  have hX5 : ∀ (x5v3 : Int32) (H : Heap) (locs : List Loc) (ls : Array Slot), va_P D vwCl [(a_t, .inr (10, [.ref a_t_roads, .int t_homes, .int t_there, .ref a_t_book, .ref a_t_now, .int t_meetings, .ref a_t_meeting, .int t_sights, .ref a_t_sight, .int t_signs, .ref a_t_pad, .int t_touched, .int t_firstTouch, .int t_reason, .int t_acts, .ref a_t_apart, .ref a_t_rounds, .ref a_t_fewest, .ref a_t_nextFewest, .ref a_t_ways, .ref a_t_nextWays, .ref a_t_counts, .ref a_t_image, .ref a_t_isKept])), (a_t_roads, .inl (cI, 12, .inl t_roads)), (a_t_rounds, .inl (cI, 144, .inl t_rounds))] H → va_D A [(a_t, .inr (10, [.ref a_t_roads, .int t_homes, .int t_there, .ref a_t_book, .ref a_t_now, .int t_meetings, .ref a_t_meeting, .int t_sights, .ref a_t_sight, .int t_signs, .ref a_t_pad, .int t_touched, .int t_firstTouch, .int t_reason, .int t_acts, .ref a_t_apart, .ref a_t_rounds, .ref a_t_fewest, .ref a_t_nextFewest, .ref a_t_ways, .ref a_t_nextWays, .ref a_t_counts, .ref a_t_image, .ref a_t_isKept])), (a_t_roads, .inl (cI, 12, .inl t_roads)), (a_t_rounds, .inl (cI, 144, .inl t_rounds))] → va_S A s.heap H locs → lv_has ls 6 [(3, .int x5v3)] → f_X10_mostBehind_X5 x5v3 = some res → W p l e rm_X10_mostBehind s m args below meth c H locs 0 0 Q (F0 m 83 ls []) := by
    intro x5v3 H locs ls hP hD hS hl hf
    rw [f_X10_mostBehind_X5] at hf
    refine lv_iload_n hx hb dX10_mostBehind_83 rfl (lv_at hl 0 rfl) ?_
    obtain rfl := Option.some.inj hf
    exact fin _ _ _ _ dX10_mostBehind_84 hP hD hS
  have hL5 : ∀ (n5 : Nat), ∀ (l5v3 : Int32) (l5v4 : Int32) (H : Heap) (locs : List Loc) (ls : Array Slot), va_P D vwCl [(a_t, .inr (10, [.ref a_t_roads, .int t_homes, .int t_there, .ref a_t_book, .ref a_t_now, .int t_meetings, .ref a_t_meeting, .int t_sights, .ref a_t_sight, .int t_signs, .ref a_t_pad, .int t_touched, .int t_firstTouch, .int t_reason, .int t_acts, .ref a_t_apart, .ref a_t_rounds, .ref a_t_fewest, .ref a_t_nextFewest, .ref a_t_ways, .ref a_t_nextWays, .ref a_t_counts, .ref a_t_image, .ref a_t_isKept])), (a_t_roads, .inl (cI, 12, .inl t_roads)), (a_t_rounds, .inl (cI, 144, .inl t_rounds))] H → va_D A [(a_t, .inr (10, [.ref a_t_roads, .int t_homes, .int t_there, .ref a_t_book, .ref a_t_now, .int t_meetings, .ref a_t_meeting, .int t_sights, .ref a_t_sight, .int t_signs, .ref a_t_pad, .int t_touched, .int t_firstTouch, .int t_reason, .int t_acts, .ref a_t_apart, .ref a_t_rounds, .ref a_t_fewest, .ref a_t_nextFewest, .ref a_t_ways, .ref a_t_nextWays, .ref a_t_counts, .ref a_t_image, .ref a_t_isKept])), (a_t_roads, .inl (cI, 12, .inl t_roads)), (a_t_rounds, .inl (cI, 144, .inl t_rounds))] → va_S A s.heap H locs → lv_has ls 6 [(0, .ref a_t), (1, .int p1), (2, .int p2), (3, .int l5v3), (4, .int l5v4)] → f_X10_mostBehind_L5 t_roads t_rounds p1 p2 f_X10_mostBehind_X5 n5 l5v3 l5v4 = some res → W p l e rm_X10_mostBehind s m args below meth c H locs 0 0 Q (F0 m 5 ls []) := by
    intro n5
    induction n5 with
    | zero =>
      intro l5v3 l5v4 H locs ls hP hD hS hl hf
      rw [f_X10_mostBehind_L5] at hf
      cases hf
    | succ n5 ih5 =>
      intro l5v3 l5v4 H locs ls hP hD hS hl hf
      rw [f_X10_mostBehind_L5] at hf
      refine lv_iload hx hb dX10_mostBehind_5 (lv_at hl 4 rfl) ?_
      refine lv_bipush (v := 12) hx hb dX10_mostBehind_7 (by decide) ?_
      refine lv_icmp_ge (tgt := 83) hx hb dX10_mostBehind_9 (by decide) (fun hc => ?_) (fun hc => ?_)
      · replace hf := (if_pos hc).symm.trans hf
        exact hX5 l5v3 _ _ _ hP hD hS (lv_sub hl [3] rfl) hf
      · replace hf := (if_neg hc).symm.trans hf
        refine lv_iload hx hb dX10_mostBehind_12 (lv_at hl 4 rfl) ?_
        refine lv_iload_n hx hb dX10_mostBehind_14 rfl (lv_at hl 2 rfl) ?_
        have hB37 : ∀ (b37s0 : Int32) (H : Heap) (locs : List Loc) (ls : Array Slot), va_P D vwCl [(a_t, .inr (10, [.ref a_t_roads, .int t_homes, .int t_there, .ref a_t_book, .ref a_t_now, .int t_meetings, .ref a_t_meeting, .int t_sights, .ref a_t_sight, .int t_signs, .ref a_t_pad, .int t_touched, .int t_firstTouch, .int t_reason, .int t_acts, .ref a_t_apart, .ref a_t_rounds, .ref a_t_fewest, .ref a_t_nextFewest, .ref a_t_ways, .ref a_t_nextWays, .ref a_t_counts, .ref a_t_image, .ref a_t_isKept])), (a_t_roads, .inl (cI, 12, .inl t_roads)), (a_t_rounds, .inl (cI, 144, .inl t_rounds))] H → va_D A [(a_t, .inr (10, [.ref a_t_roads, .int t_homes, .int t_there, .ref a_t_book, .ref a_t_now, .int t_meetings, .ref a_t_meeting, .int t_sights, .ref a_t_sight, .int t_signs, .ref a_t_pad, .int t_touched, .int t_firstTouch, .int t_reason, .int t_acts, .ref a_t_apart, .ref a_t_rounds, .ref a_t_fewest, .ref a_t_nextFewest, .ref a_t_ways, .ref a_t_nextWays, .ref a_t_counts, .ref a_t_image, .ref a_t_isKept])), (a_t_roads, .inl (cI, 12, .inl t_roads)), (a_t_rounds, .inl (cI, 144, .inl t_rounds))] → va_S A s.heap H locs → lv_has ls 6 [(0, .ref a_t), (1, .int p1), (2, .int p2), (3, .int l5v3), (4, .int l5v4)] → f_X10_mostBehind_B37 t_rounds p1 l5v3 l5v4 (f_X10_mostBehind_L5 t_roads t_rounds p1 p2 f_X10_mostBehind_X5 n5) b37s0 = some res → W p l e rm_X10_mostBehind s m args below meth c H locs 0 0 Q (F0 m 37 ls [.int b37s0]) := by
          intro b37s0 H locs ls hP hD hS hl hf
          rw [f_X10_mostBehind_B37] at hf
          refine lv_istore (lv' := [(5, .int b37s0), (0, .ref a_t), (1, .int p1), (2, .int p2), (3, .int l5v3), (4, .int l5v4)]) hx hb dX10_mostBehind_37 hl (by decide) rfl (fun ls hl => ?_)
          refine lv_iload hx hb dX10_mostBehind_39 (lv_at hl 0 rfl) ?_
          refine lv_if_eq (tgt := 75) hx hb dX10_mostBehind_41 (by decide) (fun hc => ?_) (fun hc => ?_)
          · replace hf := (if_pos hc).symm.trans hf
            refine lv_iload_n hx hb dX10_mostBehind_75 rfl (lv_at hl 4 rfl) ?_
            refine lv_istore_n (lv' := [(3, .int l5v3), (5, .int b37s0), (0, .ref a_t), (1, .int p1), (2, .int p2), (4, .int l5v4)]) hx hb dX10_mostBehind_76 rfl hl (by decide) rfl (fun ls hl => ?_)
            refine lv_iinc (v := l5v4 + 1) (lv' := [(4, .int (l5v4 + 1)), (3, .int l5v3), (5, .int b37s0), (0, .ref a_t), (1, .int p1), (2, .int p2)]) hx hb dX10_mostBehind_77 hl (k := 5) rfl rfl (by decide) rfl (fun ls hl => ?_)
            refine lv_goto (tgt := 5) hx hb dX10_mostBehind_80 (by decide) ?_
            exact ih5 l5v3 (l5v4 + 1) _ _ _ hP hD hS (lv_sub hl [3, 4, 5, 1, 0] rfl) hf
          · replace hf := (if_neg hc).symm.trans hf
            refine lv_aload_n hx hb dX10_mostBehind_44 rfl (lv_at hl 1 rfl) ?_
            refine va_get (D := D) (ci := 10) (v := .ref a_t_rounds) (C := RX10) (T := TX10) (N := 24) hx hb hts hmsX10 hown hK hP 0 rfl rfl 16 (by decide) hw31 (fun _ h9 => h9) rfl dX10_mostBehind_45 ?_
            refine lv_bipush (v := 12) hx hb dX10_mostBehind_48 (by decide) ?_
            refine lv_iload_n hx hb dX10_mostBehind_50 rfl (lv_at hl 2 rfl) ?_
            refine lv_imul hx hb dX10_mostBehind_51 ?_
            refine lv_iload hx hb dX10_mostBehind_52 (lv_at hl 5 rfl) ?_
            refine lv_iadd hx hb dX10_mostBehind_54 ?_
            obtain ⟨hi55, hf⟩ := ix_if hf
            refine va_iald (D := D) hx hb hK hP 2 0 rfl rfl hi55 dX10_mostBehind_55 ?_
            refine lv_iload_n hx hb dX10_mostBehind_56 rfl (lv_at hl 4 rfl) ?_
            refine lv_icmp_le (tgt := 75) hx hb dX10_mostBehind_57 (by decide) (fun hc => ?_) (fun hc => ?_)
            · replace hf := (if_pos hc).symm.trans hf
              refine lv_iload_n hx hb dX10_mostBehind_75 rfl (lv_at hl 4 rfl) ?_
              refine lv_istore_n (lv' := [(3, .int l5v3), (5, .int b37s0), (0, .ref a_t), (1, .int p1), (2, .int p2), (4, .int l5v4)]) hx hb dX10_mostBehind_76 rfl hl (by decide) rfl (fun ls hl => ?_)
              refine lv_iinc (v := l5v4 + 1) (lv' := [(4, .int (l5v4 + 1)), (3, .int l5v3), (5, .int b37s0), (0, .ref a_t), (1, .int p1), (2, .int p2)]) hx hb dX10_mostBehind_77 hl (k := 5) rfl rfl (by decide) rfl (fun ls hl => ?_)
              refine lv_goto (tgt := 5) hx hb dX10_mostBehind_80 (by decide) ?_
              exact ih5 l5v3 (l5v4 + 1) _ _ _ hP hD hS (lv_sub hl [3, 4, 5, 1, 0] rfl) hf
            · replace hf := (if_neg hc).symm.trans hf
              refine lv_aload_n hx hb dX10_mostBehind_60 rfl (lv_at hl 1 rfl) ?_
              refine va_get (D := D) (ci := 10) (v := .ref a_t_rounds) (C := RX10) (T := TX10) (N := 24) hx hb hts hmsX10 hown hK hP 0 rfl rfl 16 (by decide) hw31 (fun _ h9 => h9) rfl dX10_mostBehind_61 ?_
              refine lv_bipush (v := 12) hx hb dX10_mostBehind_64 (by decide) ?_
              refine lv_iload_n hx hb dX10_mostBehind_66 rfl (lv_at hl 2 rfl) ?_
              refine lv_imul hx hb dX10_mostBehind_67 ?_
              refine lv_iload hx hb dX10_mostBehind_68 (lv_at hl 5 rfl) ?_
              refine lv_iadd hx hb dX10_mostBehind_70 ?_
              refine va_iald (D := D) hx hb hK hP 2 0 rfl rfl hi55 dX10_mostBehind_71 ?_
              refine lv_goto (tgt := 76) hx hb dX10_mostBehind_72 (by decide) ?_
              refine lv_istore_n (lv' := [(3, .int (t_rounds (((12 : Int32) * p1) + l5v4).toNatClampNeg)), (5, .int b37s0), (0, .ref a_t), (1, .int p1), (2, .int p2), (4, .int l5v4)]) hx hb dX10_mostBehind_76 rfl hl (by decide) rfl (fun ls hl => ?_)
              refine lv_iinc (v := l5v4 + 1) (lv' := [(4, .int (l5v4 + 1)), (3, .int (t_rounds (((12 : Int32) * p1) + l5v4).toNatClampNeg)), (5, .int b37s0), (0, .ref a_t), (1, .int p1), (2, .int p2)]) hx hb dX10_mostBehind_77 hl (k := 5) rfl rfl (by decide) rfl (fun ls hl => ?_)
              refine lv_goto (tgt := 5) hx hb dX10_mostBehind_80 (by decide) ?_
              exact ih5 (t_rounds (((12 : Int32) * p1) + l5v4).toNatClampNeg) (l5v4 + 1) _ _ _ hP hD hS (lv_sub hl [3, 4, 5, 1, 0] rfl) hf
        have hB32 : ∀ (H : Heap) (locs : List Loc) (ls : Array Slot), va_P D vwCl [(a_t, .inr (10, [.ref a_t_roads, .int t_homes, .int t_there, .ref a_t_book, .ref a_t_now, .int t_meetings, .ref a_t_meeting, .int t_sights, .ref a_t_sight, .int t_signs, .ref a_t_pad, .int t_touched, .int t_firstTouch, .int t_reason, .int t_acts, .ref a_t_apart, .ref a_t_rounds, .ref a_t_fewest, .ref a_t_nextFewest, .ref a_t_ways, .ref a_t_nextWays, .ref a_t_counts, .ref a_t_image, .ref a_t_isKept])), (a_t_roads, .inl (cI, 12, .inl t_roads)), (a_t_rounds, .inl (cI, 144, .inl t_rounds))] H → va_D A [(a_t, .inr (10, [.ref a_t_roads, .int t_homes, .int t_there, .ref a_t_book, .ref a_t_now, .int t_meetings, .ref a_t_meeting, .int t_sights, .ref a_t_sight, .int t_signs, .ref a_t_pad, .int t_touched, .int t_firstTouch, .int t_reason, .int t_acts, .ref a_t_apart, .ref a_t_rounds, .ref a_t_fewest, .ref a_t_nextFewest, .ref a_t_ways, .ref a_t_nextWays, .ref a_t_counts, .ref a_t_image, .ref a_t_isKept])), (a_t_roads, .inl (cI, 12, .inl t_roads)), (a_t_rounds, .inl (cI, 144, .inl t_rounds))] → va_S A s.heap H locs → lv_has ls 6 [(0, .ref a_t), (1, .int p1), (2, .int p2), (3, .int l5v3), (4, .int l5v4)] → f_X10_mostBehind_B32 t_rounds p1 l5v3 l5v4 (f_X10_mostBehind_L5 t_roads t_rounds p1 p2 f_X10_mostBehind_X5 n5) = some res → W p l e rm_X10_mostBehind s m args below meth c H locs 0 0 Q (F0 m 32 ls []) := by
          intro  H locs ls hP hD hS hl hf
          rw [f_X10_mostBehind_B32] at hf
          refine lv_iconst (v := 1) hx hb dX10_mostBehind_32 (by decide) ?_
          refine lv_goto (tgt := 37) hx hb dX10_mostBehind_33 (by decide) ?_
          exact hB37 (1 : Int32) _ _ _ hP hD hS (lv_sub hl [0, 1, 2, 3, 4] rfl) hf
        refine lv_icmp_eq (tgt := 32) hx hb dX10_mostBehind_15 (by decide) (fun hc => ?_) (fun hc => ?_)
        · replace hf := (if_pos hc).symm.trans hf
          exact hB32 _ _ _ hP hD hS (lv_sub hl [0, 1, 2, 3, 4] rfl) hf
        · replace hf := (if_neg hc).symm.trans hf
          refine lv_aload_n hx hb dX10_mostBehind_18 rfl (lv_at hl 0 rfl) ?_
          refine va_get (D := D) (ci := 10) (v := .ref a_t_roads) (C := RX10) (T := TX10) (N := 24) hx hb hts hmsX10 hown hK hP 0 rfl rfl 0 (by decide) hw7 (fun _ h9 => h9) rfl dX10_mostBehind_19 ?_
          refine lv_iload_n hx hb dX10_mostBehind_22 rfl (lv_at hl 2 rfl) ?_
          obtain ⟨hi23, hf⟩ := ix_if hf
          refine va_iald (D := D) hx hb hK hP 1 0 rfl rfl hi23 dX10_mostBehind_23 ?_
          refine lv_iload hx hb dX10_mostBehind_24 (lv_at hl 4 rfl) ?_
          obtain ⟨x26, hx26, hf⟩ := bd_if hf
          refine cs_i (wr := [(a_t, .inr (10, [.ref a_t_roads, .int t_homes, .int t_there, .ref a_t_book, .ref a_t_now, .int t_meetings, .ref a_t_meeting, .int t_sights, .ref a_t_sight, .int t_signs, .ref a_t_pad, .int t_touched, .int t_firstTouch, .int t_reason, .int t_acts, .ref a_t_apart, .ref a_t_rounds, .ref a_t_fewest, .ref a_t_nextFewest, .ref a_t_ways, .ref a_t_nextWays, .ref a_t_counts, .ref a_t_image, .ref a_t_isKept])), (a_t_roads, .inl (cI, 12, .inl t_roads)), (a_t_rounds, .inl (cI, 144, .inl t_rounds))]) (ws' := [(a_t, .inr (10, [.ref a_t_roads, .int t_homes, .int t_there, .ref a_t_book, .ref a_t_now, .int t_meetings, .ref a_t_meeting, .int t_sights, .ref a_t_sight, .int t_signs, .ref a_t_pad, .int t_touched, .int t_firstTouch, .int t_reason, .int t_acts, .ref a_t_apart, .ref a_t_rounds, .ref a_t_fewest, .ref a_t_nextFewest, .ref a_t_ways, .ref a_t_nextWays, .ref a_t_counts, .ref a_t_image, .ref a_t_isKept])), (a_t_roads, .inl (cI, 12, .inl t_roads)), (a_t_rounds, .inl (cI, 144, .inl t_rounds))]) ⟨hx, hb, hml, hown, hts⟩ hcw69 hK hN hP hD hS hA (c_X10_has l D cI cJ cZ cO _ (t_roads p2.toNatClampNeg) l5v4 x26 hx26) [] [0, 1, 2] [0, 1, 2] rfl rfl rfl rfl (by decide) rfl rfl rfl hl.1 rfl (Nat.le_of_ble_eq_true rfl) dX10_mostBehind_26 ⟨Nat.zero_le _, Nat.zero_le _⟩ (fun H locs hP hD hS => ?_)
          refine lv_if_eq (tgt := 36) hx hb dX10_mostBehind_29 (by decide) (fun hc => ?_) (fun hc => ?_)
          · replace hf := (if_pos hc).symm.trans hf
            refine lv_iconst (v := 0) hx hb dX10_mostBehind_36 (by decide) ?_
            exact hB37 (0 : Int32) _ _ _ hP hD hS (lv_sub hl [0, 1, 2, 3, 4] rfl) hf
          · replace hf := (if_neg hc).symm.trans hf
            exact hB32 _ _ _ hP hD hS (lv_sub hl [0, 1, 2, 3, 4] rfl) hf
  exact hL5 5000 (0 : Int32) (0 : Int32) _ _ _ hP hD hS (lv_sub hl [2, 3, 4, 1, 0] rfl) hf
abbrev rm_X10_by : Room := { frames := 2, cells := 0, slots := 0, locals := 46 }
set_option maxHeartbeats 4000000 in
set_option maxRecDepth 100000 in
theorem c_X10_by (l : Launch) (D : va_G) (cI cJ cZ cO : ClassId) (sz : Nat) (a_t : Nat) (a_t_roads : Nat) (a_t_book : Nat) (a_t_now : Nat) (a_t_meeting : Nat) (a_t_sight : Nat) (a_t_pad : Nat) (a_t_apart : Nat) (a_t_rounds : Nat) (a_t_fewest : Nat) (a_t_nextFewest : Nat) (a_t_ways : Nat) (a_t_nextWays : Nat) (a_t_counts : Nat) (a_t_image : Nat) (a_t_isKept : Nat) (t_homes : Int32) (t_there : Int32) (t_meetings : Int32) (t_sights : Int32) (t_signs : Int32) (t_touched : Int32) (t_firstTouch : Int32) (t_reason : Int32) (t_acts : Int32) (t_roads : Nat → Int32) (t_rounds : Nat → Int32) (p1 : Int32) (p2 : Int32) (res : Int32) (hf : f_X10_by t_homes t_roads t_rounds p1 p2 = some res) : MetI l yX10_by wsX10_by rm_X10_by [.ref a_t, .int p1, .int p2] D (tys4 cI cJ cZ cO) [(a_t, .inr (10, [.ref a_t_roads, .int t_homes, .int t_there, .ref a_t_book, .ref a_t_now, .int t_meetings, .ref a_t_meeting, .int t_sights, .ref a_t_sight, .int t_signs, .ref a_t_pad, .int t_touched, .int t_firstTouch, .int t_reason, .int t_acts, .ref a_t_apart, .ref a_t_rounds, .ref a_t_fewest, .ref a_t_nextFewest, .ref a_t_ways, .ref a_t_nextWays, .ref a_t_counts, .ref a_t_image, .ref a_t_isKept])), (a_t_roads, .inl (cI, 12, .inl t_roads)), (a_t_rounds, .inl (cI, 144, .inl t_rounds))] sz res [(a_t, .inr (10, [.ref a_t_roads, .int t_homes, .int t_there, .ref a_t_book, .ref a_t_now, .int t_meetings, .ref a_t_meeting, .int t_sights, .ref a_t_sight, .int t_signs, .ref a_t_pad, .int t_touched, .int t_firstTouch, .int t_reason, .int t_acts, .ref a_t_apart, .ref a_t_rounds, .ref a_t_fewest, .ref a_t_nextFewest, .ref a_t_ways, .ref a_t_nextWays, .ref a_t_counts, .ref a_t_image, .ref a_t_isKept])), (a_t_roads, .inl (cI, 12, .inl t_roads)), (a_t_rounds, .inl (cI, 144, .inl t_rounds))] := by
  refine met_i (cc := cX10_by) (maxL := 4) (by decide) rfl (Nat.le_of_ble_eq_true rfl) ?_
  intro p e s m args below meth c Q A hx hb hml hown hts hK hN hA fin H locs ls hP hD hS hl
  replace hown : s.vm.findClass RX10 = some m.cls := hown
  replace hl : lv_has ls 4 [(0, .ref a_t), (1, .int p1), (2, .int p2)] := hl
  rw [f_X10_by] at hf
  have hcw137 := cwV (R := rm_X10_by) (rm := rm_X10_isTouched) 2 hts gX10_by_X10_isTouched rfl rfl rfl (by decide +kernel) ⟨Nat.le_of_ble_eq_true rfl, Nat.le_of_ble_eq_true rfl⟩
  have hc133 := hts (.constant RX10 133 (1000000)) (by decide +kernel)
  have hcw140 := cwV (R := rm_X10_by) (rm := rm_X10_mostBehind) 2 hts gX10_by_X10_mostBehind rfl rfl rfl (by decide +kernel) ⟨Nat.le_of_ble_eq_true rfl, Nat.le_of_ble_eq_true rfl⟩
  refine lv_aload_n hx hb dX10_by_0 rfl (lv_at hl 0 rfl) ?_
  refine lv_iload_n hx hb dX10_by_1 rfl (lv_at hl 1 rfl) ?_
  refine lv_iload_n hx hb dX10_by_2 rfl (lv_at hl 2 rfl) ?_
  obtain ⟨x3, hx3, hf⟩ := bd_if hf
  refine cv_i (wr := [(a_t_roads, .inl (cI, 12, .inl t_roads)), (a_t_rounds, .inl (cI, 144, .inl t_rounds))]) (ws' := [(a_t, .inr (10, [.ref a_t_roads, .int t_homes, .int t_there, .ref a_t_book, .ref a_t_now, .int t_meetings, .ref a_t_meeting, .int t_sights, .ref a_t_sight, .int t_signs, .ref a_t_pad, .int t_touched, .int t_firstTouch, .int t_reason, .int t_acts, .ref a_t_apart, .ref a_t_rounds, .ref a_t_fewest, .ref a_t_nextFewest, .ref a_t_ways, .ref a_t_nextWays, .ref a_t_counts, .ref a_t_image, .ref a_t_isKept])), (a_t_roads, .inl (cI, 12, .inl t_roads)), (a_t_rounds, .inl (cI, 144, .inl t_rounds))]) ⟨hx, hb, hml, hown, hts⟩ hcw137 hK hN hP hD hS hA (c_X10_isTouched l D cI cJ cZ cO _ a_t a_t_roads a_t_book a_t_now a_t_meeting a_t_sight a_t_pad a_t_apart a_t_rounds a_t_fewest a_t_nextFewest a_t_ways a_t_nextWays a_t_counts a_t_image a_t_isKept t_homes t_there t_meetings t_sights t_signs t_touched t_firstTouch t_reason t_acts p1 p2 x3 hx3) (q := (RX10, TX10, 24)) (ci := 10) (q0 := 0) rfl rfl [0] [1, 2] [2, 0, 1] rfl rfl rfl rfl (by decide) rfl rfl rfl hl.1 rfl (Nat.le_of_ble_eq_true rfl) dX10_by_3 ⟨Nat.zero_le _, Nat.zero_le _⟩ (fun H locs hP hD hS => ?_)
  have hB21 : ∀ (b21s0 : Int32) (H : Heap) (locs : List Loc) (ls : Array Slot), va_P D vwCl [(a_t, .inr (10, [.ref a_t_roads, .int t_homes, .int t_there, .ref a_t_book, .ref a_t_now, .int t_meetings, .ref a_t_meeting, .int t_sights, .ref a_t_sight, .int t_signs, .ref a_t_pad, .int t_touched, .int t_firstTouch, .int t_reason, .int t_acts, .ref a_t_apart, .ref a_t_rounds, .ref a_t_fewest, .ref a_t_nextFewest, .ref a_t_ways, .ref a_t_nextWays, .ref a_t_counts, .ref a_t_image, .ref a_t_isKept])), (a_t_roads, .inl (cI, 12, .inl t_roads)), (a_t_rounds, .inl (cI, 144, .inl t_rounds))] H → va_D A [(a_t, .inr (10, [.ref a_t_roads, .int t_homes, .int t_there, .ref a_t_book, .ref a_t_now, .int t_meetings, .ref a_t_meeting, .int t_sights, .ref a_t_sight, .int t_signs, .ref a_t_pad, .int t_touched, .int t_firstTouch, .int t_reason, .int t_acts, .ref a_t_apart, .ref a_t_rounds, .ref a_t_fewest, .ref a_t_nextFewest, .ref a_t_ways, .ref a_t_nextWays, .ref a_t_counts, .ref a_t_image, .ref a_t_isKept])), (a_t_roads, .inl (cI, 12, .inl t_roads)), (a_t_rounds, .inl (cI, 144, .inl t_rounds))] → va_S A s.heap H locs → lv_has ls 4 [] → f_X10_by_B21 b21s0 = some res → W p l e rm_X10_by s m args below meth c H locs 0 0 Q (F0 m 21 ls [.int b21s0]) := by
    intro b21s0 H locs ls hP hD hS hl hf
    rw [f_X10_by_B21] at hf
    refine lv_istore_n (lv' := [(3, .int b21s0)]) hx hb dX10_by_21 rfl hl (by decide) rfl (fun ls hl => ?_)
    refine lv_iload_n hx hb dX10_by_22 rfl (lv_at hl 0 rfl) ?_
    refine lv_ldc (v := 1000000) hx hb hown hc133 dX10_by_23 ?_
    refine lv_icmp_le (tgt := 33) hx hb dX10_by_25 (by decide) (fun hc => ?_) (fun hc => ?_)
    · replace hf := (if_pos hc).symm.trans hf
      refine lv_iload_n hx hb dX10_by_33 rfl (lv_at hl 0 rfl) ?_
      obtain rfl := Option.some.inj hf
      exact fin _ _ _ _ dX10_by_34 hP hD hS
    · replace hf := (if_neg hc).symm.trans hf
      refine lv_ldc (v := 1000000) hx hb hown hc133 dX10_by_28 ?_
      refine lv_goto (tgt := 34) hx hb dX10_by_30 (by decide) ?_
      obtain rfl := Option.some.inj hf
      exact fin _ _ _ _ dX10_by_34 hP hD hS
  refine lv_if_eq (tgt := 13) hx hb dX10_by_6 (by decide) (fun hc => ?_) (fun hc => ?_)
  · replace hf := (if_pos hc).symm.trans hf
    refine lv_aload_n hx hb dX10_by_13 rfl (lv_at hl 0 rfl) ?_
    refine lv_iload_n hx hb dX10_by_14 rfl (lv_at hl 1 rfl) ?_
    refine lv_iload_n hx hb dX10_by_15 rfl (lv_at hl 2 rfl) ?_
    obtain ⟨x16, hx16, hf⟩ := bd_if hf
    refine cv_i (wr := []) (ws' := [(a_t, .inr (10, [.ref a_t_roads, .int t_homes, .int t_there, .ref a_t_book, .ref a_t_now, .int t_meetings, .ref a_t_meeting, .int t_sights, .ref a_t_sight, .int t_signs, .ref a_t_pad, .int t_touched, .int t_firstTouch, .int t_reason, .int t_acts, .ref a_t_apart, .ref a_t_rounds, .ref a_t_fewest, .ref a_t_nextFewest, .ref a_t_ways, .ref a_t_nextWays, .ref a_t_counts, .ref a_t_image, .ref a_t_isKept])), (a_t_roads, .inl (cI, 12, .inl t_roads)), (a_t_rounds, .inl (cI, 144, .inl t_rounds))]) ⟨hx, hb, hml, hown, hts⟩ hcw140 hK hN hP hD hS hA (c_X10_mostBehind l D cI cJ cZ cO _ a_t a_t_roads a_t_book a_t_now a_t_meeting a_t_sight a_t_pad a_t_apart a_t_rounds a_t_fewest a_t_nextFewest a_t_ways a_t_nextWays a_t_counts a_t_image a_t_isKept t_homes t_there t_meetings t_sights t_signs t_touched t_firstTouch t_reason t_acts t_roads t_rounds p1 p2 x16 hx16) (q := (RX10, TX10, 24)) (ci := 10) (q0 := 0) rfl rfl [0, 1, 2] [] [0, 1, 2] rfl rfl rfl rfl (by decide) rfl rfl rfl hl.1 rfl (Nat.le_of_ble_eq_true rfl) dX10_by_16 ⟨Nat.zero_le _, Nat.zero_le _⟩ (fun H locs hP hD hS => ?_)
    refine lv_iconst (v := 1) hx hb dX10_by_19 (by decide) ?_
    refine lv_iadd hx hb dX10_by_20 ?_
    exact hB21 (x16 + (1 : Int32)) _ _ _ hP hD hS (lv_sub hl [] rfl) hf
  · replace hf := (if_neg hc).symm.trans hf
    refine lv_iconst (v := 1) hx hb dX10_by_9 (by decide) ?_
    refine lv_goto (tgt := 21) hx hb dX10_by_10 (by decide) ?_
    exact hB21 (1 : Int32) _ _ _ hP hD hS (lv_sub hl [] rfl) hf
abbrev rm_X10_layRounds : Room := { frames := 3, cells := 0, slots := 0, locals := 69 }
theorem ms_X10_layRounds_X10 : ∀ w ∈ u_ws RX10 TX10 24, w ∈ wsX10_layRounds := fun w h => List.mem_cons_of_mem _ (List.mem_append_right _ (h))
set_option maxHeartbeats 4000000 in
set_option maxRecDepth 100000 in
theorem c_X10_layRounds (l : Launch) (D : va_G) (cI cJ cZ cO : ClassId) (sz : Nat) (a_t : Nat) (a_t_roads : Nat) (a_t_book : Nat) (a_t_now : Nat) (a_t_meeting : Nat) (a_t_sight : Nat) (a_t_pad : Nat) (a_t_apart : Nat) (a_t_rounds : Nat) (a_t_fewest : Nat) (a_t_nextFewest : Nat) (a_t_ways : Nat) (a_t_nextWays : Nat) (a_t_counts : Nat) (a_t_image : Nat) (a_t_isKept : Nat) (t_homes : Int32) (t_there : Int32) (t_meetings : Int32) (t_sights : Int32) (t_signs : Int32) (t_touched : Int32) (t_firstTouch : Int32) (t_reason : Int32) (t_acts : Int32) (t_roads : Nat → Int32) (t_rounds : Nat → Int32) (res : (Nat → Int32)) (hf : f_X10_layRounds t_homes t_roads t_rounds = some res) : MetV l yX10_layRounds wsX10_layRounds rm_X10_layRounds [.ref a_t] D (tys4 cI cJ cZ cO) [(a_t, .inr (10, [.ref a_t_roads, .int t_homes, .int t_there, .ref a_t_book, .ref a_t_now, .int t_meetings, .ref a_t_meeting, .int t_sights, .ref a_t_sight, .int t_signs, .ref a_t_pad, .int t_touched, .int t_firstTouch, .int t_reason, .int t_acts, .ref a_t_apart, .ref a_t_rounds, .ref a_t_fewest, .ref a_t_nextFewest, .ref a_t_ways, .ref a_t_nextWays, .ref a_t_counts, .ref a_t_image, .ref a_t_isKept])), (a_t_roads, .inl (cI, 12, .inl t_roads)), (a_t_rounds, .inl (cI, 144, .inl t_rounds))] sz [(a_t, .inr (10, [.ref a_t_roads, .int t_homes, .int t_there, .ref a_t_book, .ref a_t_now, .int t_meetings, .ref a_t_meeting, .int t_sights, .ref a_t_sight, .int t_signs, .ref a_t_pad, .int t_touched, .int t_firstTouch, .int t_reason, .int t_acts, .ref a_t_apart, .ref a_t_rounds, .ref a_t_fewest, .ref a_t_nextFewest, .ref a_t_ways, .ref a_t_nextWays, .ref a_t_counts, .ref a_t_image, .ref a_t_isKept])), (a_t_roads, .inl (cI, 12, .inl t_roads)), (a_t_rounds, .inl (cI, 144, .inl res))] := by
  refine met_v (cc := cX10_layRounds) (maxL := 6) (by decide) rfl (Nat.le_of_ble_eq_true rfl) ?_
  intro p e s m args below meth c Q A hx hb hml hown hts hK hN hA fin H locs ls hP hD hS hl
  replace hown : s.vm.findClass RX10 = some m.cls := hown
  replace hl : lv_has ls 6 [(0, .ref a_t)] := hl
  rw [f_X10_layRounds] at hf
  have hw31 := hts (.fieldLink RX10 31 "TouchReignModel" "rounds" "[I") (by decide +kernel)
  have hmsX10 := ms_X10_layRounds_X10
  have hcw143 := cwV (R := rm_X10_layRounds) (rm := rm_X10_by) 2 hts gX10_layRounds_X10_by rfl rfl rfl (by decide +kernel) ⟨Nat.le_of_ble_eq_true rfl, Nat.le_of_ble_eq_true rfl⟩
  have hw7 := hts (.fieldLink RX10 7 "TouchReignModel" "roads" "[I") (by decide +kernel)
  have hcw69 := va_cwS (R := rm_X10_layRounds) (rm := rm_X10_has) 2 hts gX10_layRounds_X10_has rfl rfl rfl (by decide +kernel) ⟨Nat.le_of_ble_eq_true rfl, Nat.le_of_ble_eq_true rfl⟩
  have hcw137 := cwV (R := rm_X10_layRounds) (rm := rm_X10_isTouched) 2 hts gX10_layRounds_X10_isTouched rfl rfl rfl (by decide +kernel) ⟨Nat.le_of_ble_eq_true rfl, Nat.le_of_ble_eq_true rfl⟩
  have hc133 := hts (.constant RX10 133 (1000000)) (by decide +kernel)
  refine lv_iconst (v := 0) hx hb dX10_layRounds_0 (by decide) ?_
  refine lv_istore_n (lv' := [(1, .int (0 : Int32)), (0, .ref a_t)]) hx hb dX10_layRounds_1 rfl hl (by decide) rfl (fun ls hl => ?_)
  have hX2 : ∀ (x2t_rounds : Nat → Int32) (H : Heap) (locs : List Loc) (ls : Array Slot), va_P D vwCl [(a_t, .inr (10, [.ref a_t_roads, .int t_homes, .int t_there, .ref a_t_book, .ref a_t_now, .int t_meetings, .ref a_t_meeting, .int t_sights, .ref a_t_sight, .int t_signs, .ref a_t_pad, .int t_touched, .int t_firstTouch, .int t_reason, .int t_acts, .ref a_t_apart, .ref a_t_rounds, .ref a_t_fewest, .ref a_t_nextFewest, .ref a_t_ways, .ref a_t_nextWays, .ref a_t_counts, .ref a_t_image, .ref a_t_isKept])), (a_t_roads, .inl (cI, 12, .inl t_roads)), (a_t_rounds, .inl (cI, 144, .inl x2t_rounds))] H → va_D A [(a_t, .inr (10, [.ref a_t_roads, .int t_homes, .int t_there, .ref a_t_book, .ref a_t_now, .int t_meetings, .ref a_t_meeting, .int t_sights, .ref a_t_sight, .int t_signs, .ref a_t_pad, .int t_touched, .int t_firstTouch, .int t_reason, .int t_acts, .ref a_t_apart, .ref a_t_rounds, .ref a_t_fewest, .ref a_t_nextFewest, .ref a_t_ways, .ref a_t_nextWays, .ref a_t_counts, .ref a_t_image, .ref a_t_isKept])), (a_t_roads, .inl (cI, 12, .inl t_roads)), (a_t_rounds, .inl (cI, 144, .inl x2t_rounds))] → va_S A s.heap H locs → lv_has ls 6 [(0, .ref a_t)] → f_X10_layRounds_X2 t_homes t_roads x2t_rounds = some res → W p l e rm_X10_layRounds s m args below meth c H locs 0 0 Q (F0 m 42 ls []) := by
    intro x2t_rounds H locs ls hP hD hS hl hf
    rw [f_X10_layRounds_X2] at hf
    refine lv_iconst (v := 1) hx hb dX10_layRounds_42 (by decide) ?_
    refine lv_istore_n (lv' := [(1, .int (1 : Int32)), (0, .ref a_t)]) hx hb dX10_layRounds_43 rfl hl (by decide) rfl (fun ls hl => ?_)
    have hX44 : ∀ (x44t_rounds : Nat → Int32) (H : Heap) (locs : List Loc) (ls : Array Slot), va_P D vwCl [(a_t, .inr (10, [.ref a_t_roads, .int t_homes, .int t_there, .ref a_t_book, .ref a_t_now, .int t_meetings, .ref a_t_meeting, .int t_sights, .ref a_t_sight, .int t_signs, .ref a_t_pad, .int t_touched, .int t_firstTouch, .int t_reason, .int t_acts, .ref a_t_apart, .ref a_t_rounds, .ref a_t_fewest, .ref a_t_nextFewest, .ref a_t_ways, .ref a_t_nextWays, .ref a_t_counts, .ref a_t_image, .ref a_t_isKept])), (a_t_roads, .inl (cI, 12, .inl t_roads)), (a_t_rounds, .inl (cI, 144, .inl x44t_rounds))] H → va_D A [(a_t, .inr (10, [.ref a_t_roads, .int t_homes, .int t_there, .ref a_t_book, .ref a_t_now, .int t_meetings, .ref a_t_meeting, .int t_sights, .ref a_t_sight, .int t_signs, .ref a_t_pad, .int t_touched, .int t_firstTouch, .int t_reason, .int t_acts, .ref a_t_apart, .ref a_t_rounds, .ref a_t_fewest, .ref a_t_nextFewest, .ref a_t_ways, .ref a_t_nextWays, .ref a_t_counts, .ref a_t_image, .ref a_t_isKept])), (a_t_roads, .inl (cI, 12, .inl t_roads)), (a_t_rounds, .inl (cI, 144, .inl x44t_rounds))] → va_S A s.heap H locs → lv_has ls 6 [] → f_X10_layRounds_X44 x44t_rounds = some res → W p l e rm_X10_layRounds s m args below meth c H locs 0 0 Q (F0 m 194 ls []) := by
      intro x44t_rounds H locs ls hP hD hS hl hf
      rw [f_X10_layRounds_X44] at hf
      obtain rfl := Option.some.inj hf
      exact fin _ _ _ _ dX10_layRounds_194 hP hD hS
    have hL44 : ∀ (n44 : Nat), ∀ (l44v1 : Int32) (l44t_rounds : Nat → Int32) (H : Heap) (locs : List Loc) (ls : Array Slot), va_P D vwCl [(a_t, .inr (10, [.ref a_t_roads, .int t_homes, .int t_there, .ref a_t_book, .ref a_t_now, .int t_meetings, .ref a_t_meeting, .int t_sights, .ref a_t_sight, .int t_signs, .ref a_t_pad, .int t_touched, .int t_firstTouch, .int t_reason, .int t_acts, .ref a_t_apart, .ref a_t_rounds, .ref a_t_fewest, .ref a_t_nextFewest, .ref a_t_ways, .ref a_t_nextWays, .ref a_t_counts, .ref a_t_image, .ref a_t_isKept])), (a_t_roads, .inl (cI, 12, .inl t_roads)), (a_t_rounds, .inl (cI, 144, .inl l44t_rounds))] H → va_D A [(a_t, .inr (10, [.ref a_t_roads, .int t_homes, .int t_there, .ref a_t_book, .ref a_t_now, .int t_meetings, .ref a_t_meeting, .int t_sights, .ref a_t_sight, .int t_signs, .ref a_t_pad, .int t_touched, .int t_firstTouch, .int t_reason, .int t_acts, .ref a_t_apart, .ref a_t_rounds, .ref a_t_fewest, .ref a_t_nextFewest, .ref a_t_ways, .ref a_t_nextWays, .ref a_t_counts, .ref a_t_image, .ref a_t_isKept])), (a_t_roads, .inl (cI, 12, .inl t_roads)), (a_t_rounds, .inl (cI, 144, .inl l44t_rounds))] → va_S A s.heap H locs → lv_has ls 6 [(0, .ref a_t), (1, .int l44v1)] → f_X10_layRounds_L44 t_homes t_roads f_X10_layRounds_X44 n44 l44v1 l44t_rounds = some res → W p l e rm_X10_layRounds s m args below meth c H locs 0 0 Q (F0 m 44 ls []) := by
      intro n44
      induction n44 with
      | zero =>
        intro l44v1 l44t_rounds H locs ls hP hD hS hl hf
        rw [f_X10_layRounds_L44] at hf
        cases hf
      | succ n44 ih44 =>
        intro l44v1 l44t_rounds H locs ls hP hD hS hl hf
        rw [f_X10_layRounds_L44] at hf
        refine lv_iload_n hx hb dX10_layRounds_44 rfl (lv_at hl 1 rfl) ?_
        refine lv_if_eq (tgt := 194) hx hb dX10_layRounds_45 (by decide) (fun hc => ?_) (fun hc => ?_)
        · replace hf := (if_pos hc).symm.trans hf
          exact hX44 l44t_rounds _ _ _ hP hD hS (lv_sub hl [] rfl) hf
        · replace hf := (if_neg hc).symm.trans hf
          refine lv_iconst (v := 0) hx hb dX10_layRounds_48 (by decide) ?_
          refine lv_istore_n (lv' := [(1, .int (0 : Int32)), (0, .ref a_t)]) hx hb dX10_layRounds_49 rfl hl (by decide) rfl (fun ls hl => ?_)
          refine lv_iconst (v := 0) hx hb dX10_layRounds_50 (by decide) ?_
          refine lv_istore_n (lv' := [(2, .int (0 : Int32)), (1, .int (0 : Int32)), (0, .ref a_t)]) hx hb dX10_layRounds_51 rfl hl (by decide) rfl (fun ls hl => ?_)
          have hX52 : ∀ (x52v1 : Int32) (x52t_rounds : Nat → Int32) (H : Heap) (locs : List Loc) (ls : Array Slot), va_P D vwCl [(a_t, .inr (10, [.ref a_t_roads, .int t_homes, .int t_there, .ref a_t_book, .ref a_t_now, .int t_meetings, .ref a_t_meeting, .int t_sights, .ref a_t_sight, .int t_signs, .ref a_t_pad, .int t_touched, .int t_firstTouch, .int t_reason, .int t_acts, .ref a_t_apart, .ref a_t_rounds, .ref a_t_fewest, .ref a_t_nextFewest, .ref a_t_ways, .ref a_t_nextWays, .ref a_t_counts, .ref a_t_image, .ref a_t_isKept])), (a_t_roads, .inl (cI, 12, .inl t_roads)), (a_t_rounds, .inl (cI, 144, .inl x52t_rounds))] H → va_D A [(a_t, .inr (10, [.ref a_t_roads, .int t_homes, .int t_there, .ref a_t_book, .ref a_t_now, .int t_meetings, .ref a_t_meeting, .int t_sights, .ref a_t_sight, .int t_signs, .ref a_t_pad, .int t_touched, .int t_firstTouch, .int t_reason, .int t_acts, .ref a_t_apart, .ref a_t_rounds, .ref a_t_fewest, .ref a_t_nextFewest, .ref a_t_ways, .ref a_t_nextWays, .ref a_t_counts, .ref a_t_image, .ref a_t_isKept])), (a_t_roads, .inl (cI, 12, .inl t_roads)), (a_t_rounds, .inl (cI, 144, .inl x52t_rounds))] → va_S A s.heap H locs → lv_has ls 6 [(0, .ref a_t), (1, .int x52v1)] → f_X10_layRounds_X52 (f_X10_layRounds_L44 t_homes t_roads f_X10_layRounds_X44 n44) x52v1 x52t_rounds = some res → W p l e rm_X10_layRounds s m args below meth c H locs 0 0 Q (F0 m 191 ls []) := by
            intro x52v1 x52t_rounds H locs ls hP hD hS hl hf
            rw [f_X10_layRounds_X52] at hf
            refine lv_goto (tgt := 44) hx hb dX10_layRounds_191 (by decide) ?_
            exact ih44 x52v1 x52t_rounds _ _ _ hP hD hS (lv_sub hl [0, 1] rfl) hf
          have hL52 : ∀ (n52 : Nat), ∀ (l52v1 : Int32) (l52v2 : Int32) (l52t_rounds : Nat → Int32) (H : Heap) (locs : List Loc) (ls : Array Slot), va_P D vwCl [(a_t, .inr (10, [.ref a_t_roads, .int t_homes, .int t_there, .ref a_t_book, .ref a_t_now, .int t_meetings, .ref a_t_meeting, .int t_sights, .ref a_t_sight, .int t_signs, .ref a_t_pad, .int t_touched, .int t_firstTouch, .int t_reason, .int t_acts, .ref a_t_apart, .ref a_t_rounds, .ref a_t_fewest, .ref a_t_nextFewest, .ref a_t_ways, .ref a_t_nextWays, .ref a_t_counts, .ref a_t_image, .ref a_t_isKept])), (a_t_roads, .inl (cI, 12, .inl t_roads)), (a_t_rounds, .inl (cI, 144, .inl l52t_rounds))] H → va_D A [(a_t, .inr (10, [.ref a_t_roads, .int t_homes, .int t_there, .ref a_t_book, .ref a_t_now, .int t_meetings, .ref a_t_meeting, .int t_sights, .ref a_t_sight, .int t_signs, .ref a_t_pad, .int t_touched, .int t_firstTouch, .int t_reason, .int t_acts, .ref a_t_apart, .ref a_t_rounds, .ref a_t_fewest, .ref a_t_nextFewest, .ref a_t_ways, .ref a_t_nextWays, .ref a_t_counts, .ref a_t_image, .ref a_t_isKept])), (a_t_roads, .inl (cI, 12, .inl t_roads)), (a_t_rounds, .inl (cI, 144, .inl l52t_rounds))] → va_S A s.heap H locs → lv_has ls 6 [(0, .ref a_t), (1, .int l52v1), (2, .int l52v2)] → f_X10_layRounds_L52 t_homes t_roads (f_X10_layRounds_X52 (f_X10_layRounds_L44 t_homes t_roads f_X10_layRounds_X44 n44)) n52 l52v1 l52v2 l52t_rounds = some res → W p l e rm_X10_layRounds s m args below meth c H locs 0 0 Q (F0 m 52 ls []) := by
            intro n52
            induction n52 with
            | zero =>
              intro l52v1 l52v2 l52t_rounds H locs ls hP hD hS hl hf
              rw [f_X10_layRounds_L52] at hf
              cases hf
            | succ n52 ih52 =>
              intro l52v1 l52v2 l52t_rounds H locs ls hP hD hS hl hf
              rw [f_X10_layRounds_L52] at hf
              refine lv_iload_n hx hb dX10_layRounds_52 rfl (lv_at hl 2 rfl) ?_
              refine lv_sipush (v := 144) hx hb dX10_layRounds_53 (by decide) ?_
              refine lv_icmp_ge (tgt := 191) hx hb dX10_layRounds_56 (by decide) (fun hc => ?_) (fun hc => ?_)
              · replace hf := (if_pos hc).symm.trans hf
                exact hX52 l52v1 l52t_rounds _ _ _ hP hD hS (lv_sub hl [0, 1] rfl) hf
              · replace hf := (if_neg hc).symm.trans hf
                refine lv_aload_n hx hb dX10_layRounds_59 rfl (lv_at hl 0 rfl) ?_
                refine va_get (D := D) (ci := 10) (v := .ref a_t_rounds) (C := RX10) (T := TX10) (N := 24) hx hb hts hmsX10 hown hK hP 0 rfl rfl 16 (by decide) hw31 (fun _ h9 => h9) rfl dX10_layRounds_60 ?_
                refine lv_iload_n hx hb dX10_layRounds_63 rfl (lv_at hl 2 rfl) ?_
                obtain ⟨hi64, hf⟩ := ix_if hf
                refine va_iald (D := D) hx hb hK hP 2 0 rfl rfl hi64 dX10_layRounds_64 ?_
                refine lv_if_le (tgt := 185) hx hb dX10_layRounds_65 (by decide) (fun hc => ?_) (fun hc => ?_)
                · replace hf := (if_pos hc).symm.trans hf
                  refine lv_iinc (v := l52v2 + 1) (lv' := [(2, .int (l52v2 + 1)), (0, .ref a_t), (1, .int l52v1)]) hx hb dX10_layRounds_185 hl (k := 2) rfl rfl (by decide) rfl (fun ls hl => ?_)
                  refine lv_goto (tgt := 52) hx hb dX10_layRounds_188 (by decide) ?_
                  exact ih52 l52v1 (l52v2 + 1) l52t_rounds _ _ _ hP hD hS (lv_sub hl [1, 2, 0] rfl) hf
                · replace hf := (if_neg hc).symm.trans hf
                  refine lv_aload_n hx hb dX10_layRounds_68 rfl (lv_at hl 0 rfl) ?_
                  refine va_get (D := D) (ci := 10) (v := .ref a_t_rounds) (C := RX10) (T := TX10) (N := 24) hx hb hts hmsX10 hown hK hP 0 rfl rfl 16 (by decide) hw31 (fun _ h9 => h9) rfl dX10_layRounds_69 ?_
                  refine lv_iload_n hx hb dX10_layRounds_72 rfl (lv_at hl 2 rfl) ?_
                  refine va_iald (D := D) hx hb hK hP 2 0 rfl rfl hi64 dX10_layRounds_73 ?_
                  refine lv_istore_n (lv' := [(3, .int (l52t_rounds l52v2.toNatClampNeg)), (0, .ref a_t), (1, .int l52v1), (2, .int l52v2)]) hx hb dX10_layRounds_74 rfl hl (by decide) rfl (fun ls hl => ?_)
                  refine lv_iconst (v := 0) hx hb dX10_layRounds_75 (by decide) ?_
                  refine lv_istore (lv' := [(4, .int (0 : Int32)), (3, .int (l52t_rounds l52v2.toNatClampNeg)), (0, .ref a_t), (1, .int l52v1), (2, .int l52v2)]) hx hb dX10_layRounds_76 hl (by decide) rfl (fun ls hl => ?_)
                  have hX78 : ∀ (x78v3 : Int32) (H : Heap) (locs : List Loc) (ls : Array Slot), va_P D vwCl [(a_t, .inr (10, [.ref a_t_roads, .int t_homes, .int t_there, .ref a_t_book, .ref a_t_now, .int t_meetings, .ref a_t_meeting, .int t_sights, .ref a_t_sight, .int t_signs, .ref a_t_pad, .int t_touched, .int t_firstTouch, .int t_reason, .int t_acts, .ref a_t_apart, .ref a_t_rounds, .ref a_t_fewest, .ref a_t_nextFewest, .ref a_t_ways, .ref a_t_nextWays, .ref a_t_counts, .ref a_t_image, .ref a_t_isKept])), (a_t_roads, .inl (cI, 12, .inl t_roads)), (a_t_rounds, .inl (cI, 144, .inl l52t_rounds))] H → va_D A [(a_t, .inr (10, [.ref a_t_roads, .int t_homes, .int t_there, .ref a_t_book, .ref a_t_now, .int t_meetings, .ref a_t_meeting, .int t_sights, .ref a_t_sight, .int t_signs, .ref a_t_pad, .int t_touched, .int t_firstTouch, .int t_reason, .int t_acts, .ref a_t_apart, .ref a_t_rounds, .ref a_t_fewest, .ref a_t_nextFewest, .ref a_t_ways, .ref a_t_nextWays, .ref a_t_counts, .ref a_t_image, .ref a_t_isKept])), (a_t_roads, .inl (cI, 12, .inl t_roads)), (a_t_rounds, .inl (cI, 144, .inl l52t_rounds))] → va_S A s.heap H locs → lv_has ls 6 [(0, .ref a_t), (1, .int l52v1), (2, .int l52v2), (3, .int x78v3)] → f_X10_layRounds_X78 l52v1 l52v2 l52t_rounds (f_X10_layRounds_L52 t_homes t_roads (f_X10_layRounds_X52 (f_X10_layRounds_L44 t_homes t_roads f_X10_layRounds_X44 n44)) n52) x78v3 = some res → W p l e rm_X10_layRounds s m args below meth c H locs 0 0 Q (F0 m 158 ls []) := by
                    intro x78v3 H locs ls hP hD hS hl hf
                    rw [f_X10_layRounds_X78] at hf
                    refine lv_iload_n hx hb dX10_layRounds_158 rfl (lv_at hl 1 rfl) ?_
                    have hB177 : ∀ (b177s0 : Int32) (H : Heap) (locs : List Loc) (ls : Array Slot), va_P D vwCl [(a_t, .inr (10, [.ref a_t_roads, .int t_homes, .int t_there, .ref a_t_book, .ref a_t_now, .int t_meetings, .ref a_t_meeting, .int t_sights, .ref a_t_sight, .int t_signs, .ref a_t_pad, .int t_touched, .int t_firstTouch, .int t_reason, .int t_acts, .ref a_t_apart, .ref a_t_rounds, .ref a_t_fewest, .ref a_t_nextFewest, .ref a_t_ways, .ref a_t_nextWays, .ref a_t_counts, .ref a_t_image, .ref a_t_isKept])), (a_t_roads, .inl (cI, 12, .inl t_roads)), (a_t_rounds, .inl (cI, 144, .inl l52t_rounds))] H → va_D A [(a_t, .inr (10, [.ref a_t_roads, .int t_homes, .int t_there, .ref a_t_book, .ref a_t_now, .int t_meetings, .ref a_t_meeting, .int t_sights, .ref a_t_sight, .int t_signs, .ref a_t_pad, .int t_touched, .int t_firstTouch, .int t_reason, .int t_acts, .ref a_t_apart, .ref a_t_rounds, .ref a_t_fewest, .ref a_t_nextFewest, .ref a_t_ways, .ref a_t_nextWays, .ref a_t_counts, .ref a_t_image, .ref a_t_isKept])), (a_t_roads, .inl (cI, 12, .inl t_roads)), (a_t_rounds, .inl (cI, 144, .inl l52t_rounds))] → va_S A s.heap H locs → lv_has ls 6 [(0, .ref a_t), (2, .int l52v2), (3, .int x78v3)] → f_X10_layRounds_B177 l52v2 l52t_rounds (f_X10_layRounds_L52 t_homes t_roads (f_X10_layRounds_X52 (f_X10_layRounds_L44 t_homes t_roads f_X10_layRounds_X44 n44)) n52) x78v3 b177s0 = some res → W p l e rm_X10_layRounds s m args below meth c H locs 0 0 Q (F0 m 177 ls [.int b177s0]) := by
                      intro b177s0 H locs ls hP hD hS hl hf
                      rw [f_X10_layRounds_B177] at hf
                      refine lv_istore_n (lv' := [(1, .int b177s0), (0, .ref a_t), (2, .int l52v2), (3, .int x78v3)]) hx hb dX10_layRounds_177 rfl hl (by decide) rfl (fun ls hl => ?_)
                      refine lv_aload_n hx hb dX10_layRounds_178 rfl (lv_at hl 1 rfl) ?_
                      refine va_get (D := D) (ci := 10) (v := .ref a_t_rounds) (C := RX10) (T := TX10) (N := 24) hx hb hts hmsX10 hown hK hP 0 rfl rfl 16 (by decide) hw31 (fun _ h9 => h9) rfl dX10_layRounds_179 ?_
                      refine lv_iload_n hx hb dX10_layRounds_182 rfl (lv_at hl 2 rfl) ?_
                      refine lv_iload_n hx hb dX10_layRounds_183 rfl (lv_at hl 3 rfl) ?_
                      refine va_iast (D := D) hx hb hK hP hD hS 2 0 rfl rfl hi64 dX10_layRounds_184 (fun H locs hP hD hS => ?_)
                      replace hP : va_P D vwCl [(a_t, .inr (10, [.ref a_t_roads, .int t_homes, .int t_there, .ref a_t_book, .ref a_t_now, .int t_meetings, .ref a_t_meeting, .int t_sights, .ref a_t_sight, .int t_signs, .ref a_t_pad, .int t_touched, .int t_firstTouch, .int t_reason, .int t_acts, .ref a_t_apart, .ref a_t_rounds, .ref a_t_fewest, .ref a_t_nextFewest, .ref a_t_ways, .ref a_t_nextWays, .ref a_t_counts, .ref a_t_image, .ref a_t_isKept])), (a_t_roads, .inl (cI, 12, .inl t_roads)), (a_t_rounds, .inl (cI, 144, .inl (upd l52t_rounds l52v2.toNatClampNeg x78v3)))] H := hP
                      replace hD : va_D A [(a_t, .inr (10, [.ref a_t_roads, .int t_homes, .int t_there, .ref a_t_book, .ref a_t_now, .int t_meetings, .ref a_t_meeting, .int t_sights, .ref a_t_sight, .int t_signs, .ref a_t_pad, .int t_touched, .int t_firstTouch, .int t_reason, .int t_acts, .ref a_t_apart, .ref a_t_rounds, .ref a_t_fewest, .ref a_t_nextFewest, .ref a_t_ways, .ref a_t_nextWays, .ref a_t_counts, .ref a_t_image, .ref a_t_isKept])), (a_t_roads, .inl (cI, 12, .inl t_roads)), (a_t_rounds, .inl (cI, 144, .inl (upd l52t_rounds l52v2.toNatClampNeg x78v3)))] := hD
                      refine lv_iinc (v := l52v2 + 1) (lv' := [(2, .int (l52v2 + 1)), (1, .int b177s0), (0, .ref a_t), (3, .int x78v3)]) hx hb dX10_layRounds_185 hl (k := 2) rfl rfl (by decide) rfl (fun ls hl => ?_)
                      refine lv_goto (tgt := 52) hx hb dX10_layRounds_188 (by decide) ?_
                      exact ih52 b177s0 (l52v2 + 1) (upd l52t_rounds l52v2.toNatClampNeg x78v3) _ _ _ hP hD hS (lv_sub hl [2, 1, 0] rfl) hf
                    have hB172 : ∀ (H : Heap) (locs : List Loc) (ls : Array Slot), va_P D vwCl [(a_t, .inr (10, [.ref a_t_roads, .int t_homes, .int t_there, .ref a_t_book, .ref a_t_now, .int t_meetings, .ref a_t_meeting, .int t_sights, .ref a_t_sight, .int t_signs, .ref a_t_pad, .int t_touched, .int t_firstTouch, .int t_reason, .int t_acts, .ref a_t_apart, .ref a_t_rounds, .ref a_t_fewest, .ref a_t_nextFewest, .ref a_t_ways, .ref a_t_nextWays, .ref a_t_counts, .ref a_t_image, .ref a_t_isKept])), (a_t_roads, .inl (cI, 12, .inl t_roads)), (a_t_rounds, .inl (cI, 144, .inl l52t_rounds))] H → va_D A [(a_t, .inr (10, [.ref a_t_roads, .int t_homes, .int t_there, .ref a_t_book, .ref a_t_now, .int t_meetings, .ref a_t_meeting, .int t_sights, .ref a_t_sight, .int t_signs, .ref a_t_pad, .int t_touched, .int t_firstTouch, .int t_reason, .int t_acts, .ref a_t_apart, .ref a_t_rounds, .ref a_t_fewest, .ref a_t_nextFewest, .ref a_t_ways, .ref a_t_nextWays, .ref a_t_counts, .ref a_t_image, .ref a_t_isKept])), (a_t_roads, .inl (cI, 12, .inl t_roads)), (a_t_rounds, .inl (cI, 144, .inl l52t_rounds))] → va_S A s.heap H locs → lv_has ls 6 [(0, .ref a_t), (2, .int l52v2), (3, .int x78v3)] → f_X10_layRounds_B172 l52v2 l52t_rounds (f_X10_layRounds_L52 t_homes t_roads (f_X10_layRounds_X52 (f_X10_layRounds_L44 t_homes t_roads f_X10_layRounds_X44 n44)) n52) x78v3 = some res → W p l e rm_X10_layRounds s m args below meth c H locs 0 0 Q (F0 m 172 ls []) := by
                      intro  H locs ls hP hD hS hl hf
                      rw [f_X10_layRounds_B172] at hf
                      refine lv_iconst (v := 1) hx hb dX10_layRounds_172 (by decide) ?_
                      refine lv_goto (tgt := 177) hx hb dX10_layRounds_173 (by decide) ?_
                      exact hB177 (1 : Int32) _ _ _ hP hD hS (lv_sub hl [0, 1, 2] rfl) hf
                    refine lv_if_ne (tgt := 172) hx hb dX10_layRounds_159 (by decide) (fun hc => ?_) (fun hc => ?_)
                    · replace hf := (if_neg hc).symm.trans hf
                      exact hB172 _ _ _ hP hD hS (lv_sub hl [0, 2, 3] rfl) hf
                    · replace hf := (if_pos hc).symm.trans hf
                      refine lv_iload_n hx hb dX10_layRounds_162 rfl (lv_at hl 3 rfl) ?_
                      refine lv_aload_n hx hb dX10_layRounds_163 rfl (lv_at hl 0 rfl) ?_
                      refine va_get (D := D) (ci := 10) (v := .ref a_t_rounds) (C := RX10) (T := TX10) (N := 24) hx hb hts hmsX10 hown hK hP 0 rfl rfl 16 (by decide) hw31 (fun _ h9 => h9) rfl dX10_layRounds_164 ?_
                      refine lv_iload_n hx hb dX10_layRounds_167 rfl (lv_at hl 2 rfl) ?_
                      refine va_iald (D := D) hx hb hK hP 2 0 rfl rfl hi64 dX10_layRounds_168 ?_
                      refine lv_icmp_ge (tgt := 176) hx hb dX10_layRounds_169 (by decide) (fun hc => ?_) (fun hc => ?_)
                      · replace hf := (if_pos hc).symm.trans hf
                        refine lv_iconst (v := 0) hx hb dX10_layRounds_176 (by decide) ?_
                        exact hB177 (0 : Int32) _ _ _ hP hD hS (lv_sub hl [0, 2, 3] rfl) hf
                      · replace hf := (if_neg hc).symm.trans hf
                        exact hB172 _ _ _ hP hD hS (lv_sub hl [0, 2, 3] rfl) hf
                  have hL78 : ∀ (n78 : Nat), ∀ (l78v3 : Int32) (l78v4 : Int32) (H : Heap) (locs : List Loc) (ls : Array Slot), va_P D vwCl [(a_t, .inr (10, [.ref a_t_roads, .int t_homes, .int t_there, .ref a_t_book, .ref a_t_now, .int t_meetings, .ref a_t_meeting, .int t_sights, .ref a_t_sight, .int t_signs, .ref a_t_pad, .int t_touched, .int t_firstTouch, .int t_reason, .int t_acts, .ref a_t_apart, .ref a_t_rounds, .ref a_t_fewest, .ref a_t_nextFewest, .ref a_t_ways, .ref a_t_nextWays, .ref a_t_counts, .ref a_t_image, .ref a_t_isKept])), (a_t_roads, .inl (cI, 12, .inl t_roads)), (a_t_rounds, .inl (cI, 144, .inl l52t_rounds))] H → va_D A [(a_t, .inr (10, [.ref a_t_roads, .int t_homes, .int t_there, .ref a_t_book, .ref a_t_now, .int t_meetings, .ref a_t_meeting, .int t_sights, .ref a_t_sight, .int t_signs, .ref a_t_pad, .int t_touched, .int t_firstTouch, .int t_reason, .int t_acts, .ref a_t_apart, .ref a_t_rounds, .ref a_t_fewest, .ref a_t_nextFewest, .ref a_t_ways, .ref a_t_nextWays, .ref a_t_counts, .ref a_t_image, .ref a_t_isKept])), (a_t_roads, .inl (cI, 12, .inl t_roads)), (a_t_rounds, .inl (cI, 144, .inl l52t_rounds))] → va_S A s.heap H locs → lv_has ls 6 [(0, .ref a_t), (1, .int l52v1), (2, .int l52v2), (3, .int l78v3), (4, .int l78v4)] → f_X10_layRounds_L78 t_homes t_roads l52v2 l52t_rounds (f_X10_layRounds_X78 l52v1 l52v2 l52t_rounds (f_X10_layRounds_L52 t_homes t_roads (f_X10_layRounds_X52 (f_X10_layRounds_L44 t_homes t_roads f_X10_layRounds_X44 n44)) n52)) n78 l78v3 l78v4 = some res → W p l e rm_X10_layRounds s m args below meth c H locs 0 0 Q (F0 m 78 ls []) := by
                    intro n78
                    induction n78 with
                    | zero =>
                      intro l78v3 l78v4 H locs ls hP hD hS hl hf
                      rw [f_X10_layRounds_L78] at hf
                      cases hf
                    | succ n78 ih78 =>
                      intro l78v3 l78v4 H locs ls hP hD hS hl hf
                      rw [f_X10_layRounds_L78] at hf
                      refine lv_iload hx hb dX10_layRounds_78 (lv_at hl 4 rfl) ?_
                      refine lv_bipush (v := 12) hx hb dX10_layRounds_80 (by decide) ?_
                      refine lv_icmp_ge (tgt := 158) hx hb dX10_layRounds_82 (by decide) (fun hc => ?_) (fun hc => ?_)
                      · replace hf := (if_pos hc).symm.trans hf
                        exact hX78 l78v3 _ _ _ hP hD hS (lv_sub hl [0, 1, 2, 3] rfl) hf
                      · replace hf := (if_neg hc).symm.trans hf
                        refine lv_iload hx hb dX10_layRounds_85 (lv_at hl 4 rfl) ?_
                        refine lv_iload_n hx hb dX10_layRounds_87 rfl (lv_at hl 2 rfl) ?_
                        refine lv_bipush (v := 12) hx hb dX10_layRounds_88 (by decide) ?_
                        refine lv_idiv hx hb dX10_layRounds_90 (by decide) ?_
                        have hB116 : ∀ (b116s0 : Int32) (H : Heap) (locs : List Loc) (ls : Array Slot), va_P D vwCl [(a_t, .inr (10, [.ref a_t_roads, .int t_homes, .int t_there, .ref a_t_book, .ref a_t_now, .int t_meetings, .ref a_t_meeting, .int t_sights, .ref a_t_sight, .int t_signs, .ref a_t_pad, .int t_touched, .int t_firstTouch, .int t_reason, .int t_acts, .ref a_t_apart, .ref a_t_rounds, .ref a_t_fewest, .ref a_t_nextFewest, .ref a_t_ways, .ref a_t_nextWays, .ref a_t_counts, .ref a_t_image, .ref a_t_isKept])), (a_t_roads, .inl (cI, 12, .inl t_roads)), (a_t_rounds, .inl (cI, 144, .inl l52t_rounds))] H → va_D A [(a_t, .inr (10, [.ref a_t_roads, .int t_homes, .int t_there, .ref a_t_book, .ref a_t_now, .int t_meetings, .ref a_t_meeting, .int t_sights, .ref a_t_sight, .int t_signs, .ref a_t_pad, .int t_touched, .int t_firstTouch, .int t_reason, .int t_acts, .ref a_t_apart, .ref a_t_rounds, .ref a_t_fewest, .ref a_t_nextFewest, .ref a_t_ways, .ref a_t_nextWays, .ref a_t_counts, .ref a_t_image, .ref a_t_isKept])), (a_t_roads, .inl (cI, 12, .inl t_roads)), (a_t_rounds, .inl (cI, 144, .inl l52t_rounds))] → va_S A s.heap H locs → lv_has ls 6 [(0, .ref a_t), (1, .int l52v1), (2, .int l52v2), (3, .int l78v3), (4, .int l78v4)] → f_X10_layRounds_B116 t_homes t_roads l52v2 l52t_rounds l78v3 l78v4 (f_X10_layRounds_L78 t_homes t_roads l52v2 l52t_rounds (f_X10_layRounds_X78 l52v1 l52v2 l52t_rounds (f_X10_layRounds_L52 t_homes t_roads (f_X10_layRounds_X52 (f_X10_layRounds_L44 t_homes t_roads f_X10_layRounds_X44 n44)) n52)) n78) b116s0 = some res → W p l e rm_X10_layRounds s m args below meth c H locs 0 0 Q (F0 m 116 ls [.int b116s0]) := by
                          intro b116s0 H locs ls hP hD hS hl hf
                          rw [f_X10_layRounds_B116] at hf
                          refine lv_istore (lv' := [(5, .int b116s0), (0, .ref a_t), (1, .int l52v1), (2, .int l52v2), (3, .int l78v3), (4, .int l78v4)]) hx hb dX10_layRounds_116 hl (by decide) rfl (fun ls hl => ?_)
                          refine lv_iload hx hb dX10_layRounds_118 (lv_at hl 0 rfl) ?_
                          refine lv_if_eq (tgt := 150) hx hb dX10_layRounds_120 (by decide) (fun hc => ?_) (fun hc => ?_)
                          · replace hf := (if_pos hc).symm.trans hf
                            refine lv_iload_n hx hb dX10_layRounds_150 rfl (lv_at hl 4 rfl) ?_
                            refine lv_istore_n (lv' := [(3, .int l78v3), (5, .int b116s0), (0, .ref a_t), (1, .int l52v1), (2, .int l52v2), (4, .int l78v4)]) hx hb dX10_layRounds_151 rfl hl (by decide) rfl (fun ls hl => ?_)
                            refine lv_iinc (v := l78v4 + 1) (lv' := [(4, .int (l78v4 + 1)), (3, .int l78v3), (5, .int b116s0), (0, .ref a_t), (1, .int l52v1), (2, .int l52v2)]) hx hb dX10_layRounds_152 hl (k := 5) rfl rfl (by decide) rfl (fun ls hl => ?_)
                            refine lv_goto (tgt := 78) hx hb dX10_layRounds_155 (by decide) ?_
                            exact ih78 l78v3 (l78v4 + 1) _ _ _ hP hD hS (lv_sub hl [3, 4, 5, 1, 0] rfl) hf
                          · replace hf := (if_neg hc).symm.trans hf
                            refine lv_aload_n hx hb dX10_layRounds_123 rfl (lv_at hl 1 rfl) ?_
                            refine lv_iload hx hb dX10_layRounds_124 (lv_at hl 5 rfl) ?_
                            refine lv_iload_n hx hb dX10_layRounds_126 rfl (lv_at hl 3 rfl) ?_
                            refine lv_bipush (v := 12) hx hb dX10_layRounds_127 (by decide) ?_
                            refine lv_irem hx hb dX10_layRounds_129 (by decide) ?_
                            obtain ⟨x130, hx130, hf⟩ := bd_if hf
                            refine cv_i (wr := []) (ws' := [(a_t, .inr (10, [.ref a_t_roads, .int t_homes, .int t_there, .ref a_t_book, .ref a_t_now, .int t_meetings, .ref a_t_meeting, .int t_sights, .ref a_t_sight, .int t_signs, .ref a_t_pad, .int t_touched, .int t_firstTouch, .int t_reason, .int t_acts, .ref a_t_apart, .ref a_t_rounds, .ref a_t_fewest, .ref a_t_nextFewest, .ref a_t_ways, .ref a_t_nextWays, .ref a_t_counts, .ref a_t_image, .ref a_t_isKept])), (a_t_roads, .inl (cI, 12, .inl t_roads)), (a_t_rounds, .inl (cI, 144, .inl l52t_rounds))]) ⟨hx, hb, hml, hown, hts⟩ hcw143 hK hN hP hD hS hA (c_X10_by l D cI cJ cZ cO _ a_t a_t_roads a_t_book a_t_now a_t_meeting a_t_sight a_t_pad a_t_apart a_t_rounds a_t_fewest a_t_nextFewest a_t_ways a_t_nextWays a_t_counts a_t_image a_t_isKept t_homes t_there t_meetings t_sights t_signs t_touched t_firstTouch t_reason t_acts t_roads l52t_rounds l78v4 (l52v2 - l52v2 / (12 : Int32) * (12 : Int32)) x130 hx130) (q := (RX10, TX10, 24)) (ci := 10) (q0 := 0) rfl rfl [0, 1, 2] [] [0, 1, 2] rfl rfl rfl rfl (by decide) rfl rfl rfl hl.1 rfl (Nat.le_of_ble_eq_true rfl) dX10_layRounds_130 ⟨Nat.zero_le _, Nat.zero_le _⟩ (fun H locs hP hD hS => ?_)
                            refine lv_iload_n hx hb dX10_layRounds_133 rfl (lv_at hl 4 rfl) ?_
                            refine lv_icmp_ge (tgt := 150) hx hb dX10_layRounds_134 (by decide) (fun hc => ?_) (fun hc => ?_)
                            · replace hf := (if_pos hc).symm.trans hf
                              refine lv_iload_n hx hb dX10_layRounds_150 rfl (lv_at hl 4 rfl) ?_
                              refine lv_istore_n (lv' := [(3, .int l78v3), (5, .int b116s0), (0, .ref a_t), (1, .int l52v1), (2, .int l52v2), (4, .int l78v4)]) hx hb dX10_layRounds_151 rfl hl (by decide) rfl (fun ls hl => ?_)
                              refine lv_iinc (v := l78v4 + 1) (lv' := [(4, .int (l78v4 + 1)), (3, .int l78v3), (5, .int b116s0), (0, .ref a_t), (1, .int l52v1), (2, .int l52v2)]) hx hb dX10_layRounds_152 hl (k := 5) rfl rfl (by decide) rfl (fun ls hl => ?_)
                              refine lv_goto (tgt := 78) hx hb dX10_layRounds_155 (by decide) ?_
                              exact ih78 l78v3 (l78v4 + 1) _ _ _ hP hD hS (lv_sub hl [3, 4, 5, 1, 0] rfl) hf
                            · replace hf := (if_neg hc).symm.trans hf
                              refine lv_aload_n hx hb dX10_layRounds_137 rfl (lv_at hl 1 rfl) ?_
                              refine lv_iload hx hb dX10_layRounds_138 (lv_at hl 5 rfl) ?_
                              refine lv_iload_n hx hb dX10_layRounds_140 rfl (lv_at hl 3 rfl) ?_
                              refine lv_bipush (v := 12) hx hb dX10_layRounds_141 (by decide) ?_
                              refine lv_irem hx hb dX10_layRounds_143 (by decide) ?_
                              obtain ⟨x144, hx144, hf⟩ := bd_if hf
                              refine cv_i (wr := []) (ws' := [(a_t, .inr (10, [.ref a_t_roads, .int t_homes, .int t_there, .ref a_t_book, .ref a_t_now, .int t_meetings, .ref a_t_meeting, .int t_sights, .ref a_t_sight, .int t_signs, .ref a_t_pad, .int t_touched, .int t_firstTouch, .int t_reason, .int t_acts, .ref a_t_apart, .ref a_t_rounds, .ref a_t_fewest, .ref a_t_nextFewest, .ref a_t_ways, .ref a_t_nextWays, .ref a_t_counts, .ref a_t_image, .ref a_t_isKept])), (a_t_roads, .inl (cI, 12, .inl t_roads)), (a_t_rounds, .inl (cI, 144, .inl l52t_rounds))]) ⟨hx, hb, hml, hown, hts⟩ hcw143 hK hN hP hD hS hA (c_X10_by l D cI cJ cZ cO _ a_t a_t_roads a_t_book a_t_now a_t_meeting a_t_sight a_t_pad a_t_apart a_t_rounds a_t_fewest a_t_nextFewest a_t_ways a_t_nextWays a_t_counts a_t_image a_t_isKept t_homes t_there t_meetings t_sights t_signs t_touched t_firstTouch t_reason t_acts t_roads l52t_rounds l78v4 (l52v2 - l52v2 / (12 : Int32) * (12 : Int32)) x144 hx144) (q := (RX10, TX10, 24)) (ci := 10) (q0 := 0) rfl rfl [0, 1, 2] [] [0, 1, 2] rfl rfl rfl rfl (by decide) rfl rfl rfl hl.1 rfl (Nat.le_of_ble_eq_true rfl) dX10_layRounds_144 ⟨Nat.zero_le _, Nat.zero_le _⟩ (fun H locs hP hD hS => ?_)
                              refine lv_goto (tgt := 151) hx hb dX10_layRounds_147 (by decide) ?_
                              refine lv_istore_n (lv' := [(3, .int x144), (5, .int b116s0), (0, .ref a_t), (1, .int l52v1), (2, .int l52v2), (4, .int l78v4)]) hx hb dX10_layRounds_151 rfl hl (by decide) rfl (fun ls hl => ?_)
                              refine lv_iinc (v := l78v4 + 1) (lv' := [(4, .int (l78v4 + 1)), (3, .int x144), (5, .int b116s0), (0, .ref a_t), (1, .int l52v1), (2, .int l52v2)]) hx hb dX10_layRounds_152 hl (k := 5) rfl rfl (by decide) rfl (fun ls hl => ?_)
                              refine lv_goto (tgt := 78) hx hb dX10_layRounds_155 (by decide) ?_
                              exact ih78 x144 (l78v4 + 1) _ _ _ hP hD hS (lv_sub hl [3, 4, 5, 1, 0] rfl) hf
                        have hB111 : ∀ (H : Heap) (locs : List Loc) (ls : Array Slot), va_P D vwCl [(a_t, .inr (10, [.ref a_t_roads, .int t_homes, .int t_there, .ref a_t_book, .ref a_t_now, .int t_meetings, .ref a_t_meeting, .int t_sights, .ref a_t_sight, .int t_signs, .ref a_t_pad, .int t_touched, .int t_firstTouch, .int t_reason, .int t_acts, .ref a_t_apart, .ref a_t_rounds, .ref a_t_fewest, .ref a_t_nextFewest, .ref a_t_ways, .ref a_t_nextWays, .ref a_t_counts, .ref a_t_image, .ref a_t_isKept])), (a_t_roads, .inl (cI, 12, .inl t_roads)), (a_t_rounds, .inl (cI, 144, .inl l52t_rounds))] H → va_D A [(a_t, .inr (10, [.ref a_t_roads, .int t_homes, .int t_there, .ref a_t_book, .ref a_t_now, .int t_meetings, .ref a_t_meeting, .int t_sights, .ref a_t_sight, .int t_signs, .ref a_t_pad, .int t_touched, .int t_firstTouch, .int t_reason, .int t_acts, .ref a_t_apart, .ref a_t_rounds, .ref a_t_fewest, .ref a_t_nextFewest, .ref a_t_ways, .ref a_t_nextWays, .ref a_t_counts, .ref a_t_image, .ref a_t_isKept])), (a_t_roads, .inl (cI, 12, .inl t_roads)), (a_t_rounds, .inl (cI, 144, .inl l52t_rounds))] → va_S A s.heap H locs → lv_has ls 6 [(0, .ref a_t), (1, .int l52v1), (2, .int l52v2), (3, .int l78v3), (4, .int l78v4)] → f_X10_layRounds_B111 t_homes t_roads l52v2 l52t_rounds l78v3 l78v4 (f_X10_layRounds_L78 t_homes t_roads l52v2 l52t_rounds (f_X10_layRounds_X78 l52v1 l52v2 l52t_rounds (f_X10_layRounds_L52 t_homes t_roads (f_X10_layRounds_X52 (f_X10_layRounds_L44 t_homes t_roads f_X10_layRounds_X44 n44)) n52)) n78) = some res → W p l e rm_X10_layRounds s m args below meth c H locs 0 0 Q (F0 m 111 ls []) := by
                          intro  H locs ls hP hD hS hl hf
                          rw [f_X10_layRounds_B111] at hf
                          refine lv_iconst (v := 1) hx hb dX10_layRounds_111 (by decide) ?_
                          refine lv_goto (tgt := 116) hx hb dX10_layRounds_112 (by decide) ?_
                          exact hB116 (1 : Int32) _ _ _ hP hD hS (lv_sub hl [0, 1, 2, 3, 4] rfl) hf
                        refine lv_icmp_eq (tgt := 111) hx hb dX10_layRounds_91 (by decide) (fun hc => ?_) (fun hc => ?_)
                        · replace hf := (if_pos hc).symm.trans hf
                          exact hB111 _ _ _ hP hD hS (lv_sub hl [0, 1, 2, 3, 4] rfl) hf
                        · replace hf := (if_neg hc).symm.trans hf
                          refine lv_aload_n hx hb dX10_layRounds_94 rfl (lv_at hl 0 rfl) ?_
                          refine va_get (D := D) (ci := 10) (v := .ref a_t_roads) (C := RX10) (T := TX10) (N := 24) hx hb hts hmsX10 hown hK hP 0 rfl rfl 0 (by decide) hw7 (fun _ h9 => h9) rfl dX10_layRounds_95 ?_
                          refine lv_iload_n hx hb dX10_layRounds_98 rfl (lv_at hl 2 rfl) ?_
                          refine lv_bipush (v := 12) hx hb dX10_layRounds_99 (by decide) ?_
                          refine lv_idiv hx hb dX10_layRounds_101 (by decide) ?_
                          obtain ⟨hi102, hf⟩ := ix_if hf
                          refine va_iald (D := D) hx hb hK hP 1 0 rfl rfl hi102 dX10_layRounds_102 ?_
                          refine lv_iload hx hb dX10_layRounds_103 (lv_at hl 4 rfl) ?_
                          obtain ⟨x105, hx105, hf⟩ := bd_if hf
                          refine cs_i (wr := [(a_t, .inr (10, [.ref a_t_roads, .int t_homes, .int t_there, .ref a_t_book, .ref a_t_now, .int t_meetings, .ref a_t_meeting, .int t_sights, .ref a_t_sight, .int t_signs, .ref a_t_pad, .int t_touched, .int t_firstTouch, .int t_reason, .int t_acts, .ref a_t_apart, .ref a_t_rounds, .ref a_t_fewest, .ref a_t_nextFewest, .ref a_t_ways, .ref a_t_nextWays, .ref a_t_counts, .ref a_t_image, .ref a_t_isKept])), (a_t_roads, .inl (cI, 12, .inl t_roads)), (a_t_rounds, .inl (cI, 144, .inl l52t_rounds))]) (ws' := [(a_t, .inr (10, [.ref a_t_roads, .int t_homes, .int t_there, .ref a_t_book, .ref a_t_now, .int t_meetings, .ref a_t_meeting, .int t_sights, .ref a_t_sight, .int t_signs, .ref a_t_pad, .int t_touched, .int t_firstTouch, .int t_reason, .int t_acts, .ref a_t_apart, .ref a_t_rounds, .ref a_t_fewest, .ref a_t_nextFewest, .ref a_t_ways, .ref a_t_nextWays, .ref a_t_counts, .ref a_t_image, .ref a_t_isKept])), (a_t_roads, .inl (cI, 12, .inl t_roads)), (a_t_rounds, .inl (cI, 144, .inl l52t_rounds))]) ⟨hx, hb, hml, hown, hts⟩ hcw69 hK hN hP hD hS hA (c_X10_has l D cI cJ cZ cO _ (t_roads (l52v2 / (12 : Int32)).toNatClampNeg) l78v4 x105 hx105) [] [0, 1, 2] [0, 1, 2] rfl rfl rfl rfl (by decide) rfl rfl rfl hl.1 rfl (Nat.le_of_ble_eq_true rfl) dX10_layRounds_105 ⟨Nat.zero_le _, Nat.zero_le _⟩ (fun H locs hP hD hS => ?_)
                          refine lv_if_eq (tgt := 115) hx hb dX10_layRounds_108 (by decide) (fun hc => ?_) (fun hc => ?_)
                          · replace hf := (if_pos hc).symm.trans hf
                            refine lv_iconst (v := 0) hx hb dX10_layRounds_115 (by decide) ?_
                            exact hB116 (0 : Int32) _ _ _ hP hD hS (lv_sub hl [0, 1, 2, 3, 4] rfl) hf
                          · replace hf := (if_neg hc).symm.trans hf
                            exact hB111 _ _ _ hP hD hS (lv_sub hl [0, 1, 2, 3, 4] rfl) hf
                  exact hL78 5000 (l52t_rounds l52v2.toNatClampNeg) (0 : Int32) _ _ _ hP hD hS (lv_sub hl [2, 3, 4, 1, 0] rfl) hf
          exact hL52 5000 (0 : Int32) (0 : Int32) l44t_rounds _ _ _ hP hD hS (lv_sub hl [2, 1, 0] rfl) hf
    exact hL44 5000 (1 : Int32) x2t_rounds _ _ _ hP hD hS (lv_sub hl [1, 0] rfl) hf
  have hL2 : ∀ (n2 : Nat), ∀ (l2v1 : Int32) (l2t_rounds : Nat → Int32) (H : Heap) (locs : List Loc) (ls : Array Slot), va_P D vwCl [(a_t, .inr (10, [.ref a_t_roads, .int t_homes, .int t_there, .ref a_t_book, .ref a_t_now, .int t_meetings, .ref a_t_meeting, .int t_sights, .ref a_t_sight, .int t_signs, .ref a_t_pad, .int t_touched, .int t_firstTouch, .int t_reason, .int t_acts, .ref a_t_apart, .ref a_t_rounds, .ref a_t_fewest, .ref a_t_nextFewest, .ref a_t_ways, .ref a_t_nextWays, .ref a_t_counts, .ref a_t_image, .ref a_t_isKept])), (a_t_roads, .inl (cI, 12, .inl t_roads)), (a_t_rounds, .inl (cI, 144, .inl l2t_rounds))] H → va_D A [(a_t, .inr (10, [.ref a_t_roads, .int t_homes, .int t_there, .ref a_t_book, .ref a_t_now, .int t_meetings, .ref a_t_meeting, .int t_sights, .ref a_t_sight, .int t_signs, .ref a_t_pad, .int t_touched, .int t_firstTouch, .int t_reason, .int t_acts, .ref a_t_apart, .ref a_t_rounds, .ref a_t_fewest, .ref a_t_nextFewest, .ref a_t_ways, .ref a_t_nextWays, .ref a_t_counts, .ref a_t_image, .ref a_t_isKept])), (a_t_roads, .inl (cI, 12, .inl t_roads)), (a_t_rounds, .inl (cI, 144, .inl l2t_rounds))] → va_S A s.heap H locs → lv_has ls 6 [(0, .ref a_t), (1, .int l2v1)] → f_X10_layRounds_L2 t_homes (f_X10_layRounds_X2 t_homes t_roads) n2 l2v1 l2t_rounds = some res → W p l e rm_X10_layRounds s m args below meth c H locs 0 0 Q (F0 m 2 ls []) := by
    intro n2
    induction n2 with
    | zero =>
      intro l2v1 l2t_rounds H locs ls hP hD hS hl hf
      rw [f_X10_layRounds_L2] at hf
      cases hf
    | succ n2 ih2 =>
      intro l2v1 l2t_rounds H locs ls hP hD hS hl hf
      rw [f_X10_layRounds_L2] at hf
      refine lv_iload_n hx hb dX10_layRounds_2 rfl (lv_at hl 1 rfl) ?_
      refine lv_sipush (v := 144) hx hb dX10_layRounds_3 (by decide) ?_
      refine lv_icmp_ge (tgt := 42) hx hb dX10_layRounds_6 (by decide) (fun hc => ?_) (fun hc => ?_)
      · replace hf := (if_pos hc).symm.trans hf
        exact hX2 l2t_rounds _ _ _ hP hD hS (lv_sub hl [0] rfl) hf
      · replace hf := (if_neg hc).symm.trans hf
        refine lv_aload_n hx hb dX10_layRounds_9 rfl (lv_at hl 0 rfl) ?_
        refine va_get (D := D) (ci := 10) (v := .ref a_t_rounds) (C := RX10) (T := TX10) (N := 24) hx hb hts hmsX10 hown hK hP 0 rfl rfl 16 (by decide) hw31 (fun _ h9 => h9) rfl dX10_layRounds_10 ?_
        refine lv_iload_n hx hb dX10_layRounds_13 rfl (lv_at hl 1 rfl) ?_
        refine lv_aload_n hx hb dX10_layRounds_14 rfl (lv_at hl 0 rfl) ?_
        refine lv_iload_n hx hb dX10_layRounds_15 rfl (lv_at hl 1 rfl) ?_
        refine lv_bipush (v := 12) hx hb dX10_layRounds_16 (by decide) ?_
        refine lv_idiv hx hb dX10_layRounds_18 (by decide) ?_
        refine lv_iload_n hx hb dX10_layRounds_19 rfl (lv_at hl 1 rfl) ?_
        refine lv_bipush (v := 12) hx hb dX10_layRounds_20 (by decide) ?_
        refine lv_irem hx hb dX10_layRounds_22 (by decide) ?_
        obtain ⟨x23, hx23, hf⟩ := bd_if hf
        refine cv_i (wr := [(a_t_roads, .inl (cI, 12, .inl t_roads)), (a_t_rounds, .inl (cI, 144, .inl l2t_rounds))]) (ws' := [(a_t, .inr (10, [.ref a_t_roads, .int t_homes, .int t_there, .ref a_t_book, .ref a_t_now, .int t_meetings, .ref a_t_meeting, .int t_sights, .ref a_t_sight, .int t_signs, .ref a_t_pad, .int t_touched, .int t_firstTouch, .int t_reason, .int t_acts, .ref a_t_apart, .ref a_t_rounds, .ref a_t_fewest, .ref a_t_nextFewest, .ref a_t_ways, .ref a_t_nextWays, .ref a_t_counts, .ref a_t_image, .ref a_t_isKept])), (a_t_roads, .inl (cI, 12, .inl t_roads)), (a_t_rounds, .inl (cI, 144, .inl l2t_rounds))]) ⟨hx, hb, hml, hown, hts⟩ hcw137 hK hN hP hD hS hA (c_X10_isTouched l D cI cJ cZ cO _ a_t a_t_roads a_t_book a_t_now a_t_meeting a_t_sight a_t_pad a_t_apart a_t_rounds a_t_fewest a_t_nextFewest a_t_ways a_t_nextWays a_t_counts a_t_image a_t_isKept t_homes t_there t_meetings t_sights t_signs t_touched t_firstTouch t_reason t_acts (l2v1 / (12 : Int32)) (l2v1 - l2v1 / (12 : Int32) * (12 : Int32)) x23 hx23) (q := (RX10, TX10, 24)) (ci := 10) (q0 := 0) rfl rfl [0] [1, 2] [2, 0, 1] rfl rfl rfl rfl (by decide) rfl rfl rfl hl.1 rfl (Nat.le_of_ble_eq_true rfl) dX10_layRounds_23 ⟨Nat.zero_le _, Nat.zero_le _⟩ (fun H locs hP hD hS => ?_)
        refine lv_if_eq (tgt := 33) hx hb dX10_layRounds_26 (by decide) (fun hc => ?_) (fun hc => ?_)
        · replace hf := (if_pos hc).symm.trans hf
          refine lv_ldc (v := 1000000) hx hb hown hc133 dX10_layRounds_33 ?_
          obtain ⟨hi35, hf⟩ := ix_if hf
          refine va_iast (D := D) hx hb hK hP hD hS 2 0 rfl rfl hi35 dX10_layRounds_35 (fun H locs hP hD hS => ?_)
          replace hP : va_P D vwCl [(a_t, .inr (10, [.ref a_t_roads, .int t_homes, .int t_there, .ref a_t_book, .ref a_t_now, .int t_meetings, .ref a_t_meeting, .int t_sights, .ref a_t_sight, .int t_signs, .ref a_t_pad, .int t_touched, .int t_firstTouch, .int t_reason, .int t_acts, .ref a_t_apart, .ref a_t_rounds, .ref a_t_fewest, .ref a_t_nextFewest, .ref a_t_ways, .ref a_t_nextWays, .ref a_t_counts, .ref a_t_image, .ref a_t_isKept])), (a_t_roads, .inl (cI, 12, .inl t_roads)), (a_t_rounds, .inl (cI, 144, .inl (upd l2t_rounds l2v1.toNatClampNeg (1000000 : Int32))))] H := hP
          replace hD : va_D A [(a_t, .inr (10, [.ref a_t_roads, .int t_homes, .int t_there, .ref a_t_book, .ref a_t_now, .int t_meetings, .ref a_t_meeting, .int t_sights, .ref a_t_sight, .int t_signs, .ref a_t_pad, .int t_touched, .int t_firstTouch, .int t_reason, .int t_acts, .ref a_t_apart, .ref a_t_rounds, .ref a_t_fewest, .ref a_t_nextFewest, .ref a_t_ways, .ref a_t_nextWays, .ref a_t_counts, .ref a_t_image, .ref a_t_isKept])), (a_t_roads, .inl (cI, 12, .inl t_roads)), (a_t_rounds, .inl (cI, 144, .inl (upd l2t_rounds l2v1.toNatClampNeg (1000000 : Int32))))] := hD
          refine lv_iinc (v := l2v1 + 1) (lv' := [(1, .int (l2v1 + 1)), (0, .ref a_t)]) hx hb dX10_layRounds_36 hl (k := 1) rfl rfl (by decide) rfl (fun ls hl => ?_)
          refine lv_goto (tgt := 2) hx hb dX10_layRounds_39 (by decide) ?_
          exact ih2 (l2v1 + 1) (upd l2t_rounds l2v1.toNatClampNeg (1000000 : Int32)) _ _ _ hP hD hS (lv_sub hl [1, 0] rfl) hf
        · replace hf := (if_neg hc).symm.trans hf
          refine lv_iconst (v := 0) hx hb dX10_layRounds_29 (by decide) ?_
          refine lv_goto (tgt := 35) hx hb dX10_layRounds_30 (by decide) ?_
          obtain ⟨hi35_1, hf⟩ := ix_if hf
          refine va_iast (D := D) hx hb hK hP hD hS 2 0 rfl rfl hi35_1 dX10_layRounds_35 (fun H locs hP hD hS => ?_)
          replace hP : va_P D vwCl [(a_t, .inr (10, [.ref a_t_roads, .int t_homes, .int t_there, .ref a_t_book, .ref a_t_now, .int t_meetings, .ref a_t_meeting, .int t_sights, .ref a_t_sight, .int t_signs, .ref a_t_pad, .int t_touched, .int t_firstTouch, .int t_reason, .int t_acts, .ref a_t_apart, .ref a_t_rounds, .ref a_t_fewest, .ref a_t_nextFewest, .ref a_t_ways, .ref a_t_nextWays, .ref a_t_counts, .ref a_t_image, .ref a_t_isKept])), (a_t_roads, .inl (cI, 12, .inl t_roads)), (a_t_rounds, .inl (cI, 144, .inl (upd l2t_rounds l2v1.toNatClampNeg (0 : Int32))))] H := hP
          replace hD : va_D A [(a_t, .inr (10, [.ref a_t_roads, .int t_homes, .int t_there, .ref a_t_book, .ref a_t_now, .int t_meetings, .ref a_t_meeting, .int t_sights, .ref a_t_sight, .int t_signs, .ref a_t_pad, .int t_touched, .int t_firstTouch, .int t_reason, .int t_acts, .ref a_t_apart, .ref a_t_rounds, .ref a_t_fewest, .ref a_t_nextFewest, .ref a_t_ways, .ref a_t_nextWays, .ref a_t_counts, .ref a_t_image, .ref a_t_isKept])), (a_t_roads, .inl (cI, 12, .inl t_roads)), (a_t_rounds, .inl (cI, 144, .inl (upd l2t_rounds l2v1.toNatClampNeg (0 : Int32))))] := hD
          refine lv_iinc (v := l2v1 + 1) (lv' := [(1, .int (l2v1 + 1)), (0, .ref a_t)]) hx hb dX10_layRounds_36 hl (k := 1) rfl rfl (by decide) rfl (fun ls hl => ?_)
          refine lv_goto (tgt := 2) hx hb dX10_layRounds_39 (by decide) ?_
          exact ih2 (l2v1 + 1) (upd l2t_rounds l2v1.toNatClampNeg (0 : Int32)) _ _ _ hP hD hS (lv_sub hl [1, 0] rfl) hf
  exact hL2 5000 (0 : Int32) t_rounds _ _ _ hP hD hS (lv_sub hl [1, 0] rfl) hf
abbrev rm_X10_rounds : Room := { frames := 4, cells := 0, slots := 0, locals := 94 }
theorem ms_X10_rounds_X10 : ∀ w ∈ u_ws RX10 TX10 24, w ∈ wsX10_rounds := fun w h => List.mem_cons_of_mem _ (List.mem_append_right _ (h))
set_option maxHeartbeats 4000000 in
set_option maxRecDepth 100000 in
theorem c_X10_rounds (l : Launch) (D : va_G) (cI cJ cZ cO : ClassId) (sz : Nat) (a_t : Nat) (a_t_roads : Nat) (a_t_book : Nat) (a_t_now : Nat) (a_t_meeting : Nat) (a_t_sight : Nat) (a_t_pad : Nat) (a_t_apart : Nat) (a_t_rounds : Nat) (a_t_fewest : Nat) (a_t_nextFewest : Nat) (a_t_ways : Nat) (a_t_nextWays : Nat) (a_t_counts : Nat) (a_t_image : Nat) (a_t_isKept : Nat) (t_homes : Int32) (t_there : Int32) (t_meetings : Int32) (t_sights : Int32) (t_signs : Int32) (t_touched : Int32) (t_firstTouch : Int32) (t_reason : Int32) (t_acts : Int32) (t_roads : Nat → Int32) (t_rounds : Nat → Int32) (p1 : Int32) (p2 : Int32) (res : Int32 × (Nat → Int32)) (hf : f_X10_rounds t_homes t_roads t_rounds p1 p2 = some res) : MetI l yX10_rounds wsX10_rounds rm_X10_rounds [.ref a_t, .int p1, .int p2] D (tys4 cI cJ cZ cO) [(a_t, .inr (10, [.ref a_t_roads, .int t_homes, .int t_there, .ref a_t_book, .ref a_t_now, .int t_meetings, .ref a_t_meeting, .int t_sights, .ref a_t_sight, .int t_signs, .ref a_t_pad, .int t_touched, .int t_firstTouch, .int t_reason, .int t_acts, .ref a_t_apart, .ref a_t_rounds, .ref a_t_fewest, .ref a_t_nextFewest, .ref a_t_ways, .ref a_t_nextWays, .ref a_t_counts, .ref a_t_image, .ref a_t_isKept])), (a_t_roads, .inl (cI, 12, .inl t_roads)), (a_t_rounds, .inl (cI, 144, .inl t_rounds))] sz res.1 [(a_t, .inr (10, [.ref a_t_roads, .int t_homes, .int t_there, .ref a_t_book, .ref a_t_now, .int t_meetings, .ref a_t_meeting, .int t_sights, .ref a_t_sight, .int t_signs, .ref a_t_pad, .int t_touched, .int t_firstTouch, .int t_reason, .int t_acts, .ref a_t_apart, .ref a_t_rounds, .ref a_t_fewest, .ref a_t_nextFewest, .ref a_t_ways, .ref a_t_nextWays, .ref a_t_counts, .ref a_t_image, .ref a_t_isKept])), (a_t_roads, .inl (cI, 12, .inl t_roads)), (a_t_rounds, .inl (cI, 144, .inl res.2))] := by
  refine met_i (cc := cX10_rounds) (maxL := 4) (by decide) rfl (Nat.le_of_ble_eq_true rfl) ?_
  intro p e s m args below meth c Q A hx hb hml hown hts hK hN hA fin H locs ls hP hD hS hl
  replace hown : s.vm.findClass RX10 = some m.cls := hown
  replace hl : lv_has ls 4 [(0, .ref a_t), (1, .int p1), (2, .int p2)] := hl
  rw [f_X10_rounds] at hf
  have hcw73 := va_cwS (R := rm_X10_rounds) (rm := rm_X10_isPlace) 1 hts gX10_rounds_X10_isPlace rfl rfl rfl (by decide +kernel) ⟨Nat.le_of_ble_eq_true rfl, Nat.le_of_ble_eq_true rfl⟩
  have hcw146 := cwV (R := rm_X10_rounds) (rm := rm_X10_layRounds) 0 hts gX10_rounds_X10_layRounds rfl rfl rfl (by decide +kernel) ⟨Nat.le_of_ble_eq_true rfl, Nat.le_of_ble_eq_true rfl⟩
  have hw31 := hts (.fieldLink RX10 31 "TouchReignModel" "rounds" "[I") (by decide +kernel)
  have hmsX10 := ms_X10_rounds_X10
  have hc133 := hts (.constant RX10 133 (1000000)) (by decide +kernel)
  refine lv_iload_n hx hb dX10_rounds_0 rfl (lv_at hl 1 rfl) ?_
  obtain ⟨x1, hx1, hf⟩ := bd_if hf
  refine cs_i (wr := [(a_t, .inr (10, [.ref a_t_roads, .int t_homes, .int t_there, .ref a_t_book, .ref a_t_now, .int t_meetings, .ref a_t_meeting, .int t_sights, .ref a_t_sight, .int t_signs, .ref a_t_pad, .int t_touched, .int t_firstTouch, .int t_reason, .int t_acts, .ref a_t_apart, .ref a_t_rounds, .ref a_t_fewest, .ref a_t_nextFewest, .ref a_t_ways, .ref a_t_nextWays, .ref a_t_counts, .ref a_t_image, .ref a_t_isKept])), (a_t_roads, .inl (cI, 12, .inl t_roads)), (a_t_rounds, .inl (cI, 144, .inl t_rounds))]) (ws' := [(a_t, .inr (10, [.ref a_t_roads, .int t_homes, .int t_there, .ref a_t_book, .ref a_t_now, .int t_meetings, .ref a_t_meeting, .int t_sights, .ref a_t_sight, .int t_signs, .ref a_t_pad, .int t_touched, .int t_firstTouch, .int t_reason, .int t_acts, .ref a_t_apart, .ref a_t_rounds, .ref a_t_fewest, .ref a_t_nextFewest, .ref a_t_ways, .ref a_t_nextWays, .ref a_t_counts, .ref a_t_image, .ref a_t_isKept])), (a_t_roads, .inl (cI, 12, .inl t_roads)), (a_t_rounds, .inl (cI, 144, .inl t_rounds))]) ⟨hx, hb, hml, hown, hts⟩ hcw73 hK hN hP hD hS hA (c_X10_isPlace l D cI cJ cZ cO _ p1 x1 hx1) [] [0, 1, 2] [0, 1, 2] rfl rfl rfl rfl (by decide) rfl rfl rfl hl.1 rfl (Nat.le_of_ble_eq_true rfl) dX10_rounds_1 ⟨Nat.zero_le _, Nat.zero_le _⟩ (fun H locs hP hD hS => ?_)
  refine lv_if_eq (tgt := 14) hx hb dX10_rounds_4 (by decide) (fun hc => ?_) (fun hc => ?_)
  · replace hf := (if_pos hc).symm.trans hf
    refine lv_iconst (v := -1) hx hb dX10_rounds_14 (by decide) ?_
    obtain rfl := Option.some.inj hf
    exact fin _ _ _ _ dX10_rounds_15 hP hD hS
  · replace hf := (if_neg hc).symm.trans hf
    refine lv_iload_n hx hb dX10_rounds_7 rfl (lv_at hl 2 rfl) ?_
    obtain ⟨x8, hx8, hf⟩ := bd_if hf
    refine cs_i (wr := [(a_t, .inr (10, [.ref a_t_roads, .int t_homes, .int t_there, .ref a_t_book, .ref a_t_now, .int t_meetings, .ref a_t_meeting, .int t_sights, .ref a_t_sight, .int t_signs, .ref a_t_pad, .int t_touched, .int t_firstTouch, .int t_reason, .int t_acts, .ref a_t_apart, .ref a_t_rounds, .ref a_t_fewest, .ref a_t_nextFewest, .ref a_t_ways, .ref a_t_nextWays, .ref a_t_counts, .ref a_t_image, .ref a_t_isKept])), (a_t_roads, .inl (cI, 12, .inl t_roads)), (a_t_rounds, .inl (cI, 144, .inl t_rounds))]) (ws' := [(a_t, .inr (10, [.ref a_t_roads, .int t_homes, .int t_there, .ref a_t_book, .ref a_t_now, .int t_meetings, .ref a_t_meeting, .int t_sights, .ref a_t_sight, .int t_signs, .ref a_t_pad, .int t_touched, .int t_firstTouch, .int t_reason, .int t_acts, .ref a_t_apart, .ref a_t_rounds, .ref a_t_fewest, .ref a_t_nextFewest, .ref a_t_ways, .ref a_t_nextWays, .ref a_t_counts, .ref a_t_image, .ref a_t_isKept])), (a_t_roads, .inl (cI, 12, .inl t_roads)), (a_t_rounds, .inl (cI, 144, .inl t_rounds))]) ⟨hx, hb, hml, hown, hts⟩ hcw73 hK hN hP hD hS hA (c_X10_isPlace l D cI cJ cZ cO _ p2 x8 hx8) [] [0, 1, 2] [0, 1, 2] rfl rfl rfl rfl (by decide) rfl rfl rfl hl.1 rfl (Nat.le_of_ble_eq_true rfl) dX10_rounds_8 ⟨Nat.zero_le _, Nat.zero_le _⟩ (fun H locs hP hD hS => ?_)
    refine lv_if_ne (tgt := 16) hx hb dX10_rounds_11 (by decide) (fun hc => ?_) (fun hc => ?_)
    · replace hf := (if_neg hc).symm.trans hf
      refine lv_aload_n hx hb dX10_rounds_16 rfl (lv_at hl 0 rfl) ?_
      obtain ⟨x17, hx17, hf⟩ := bd_if hf
      refine cv_v (wr := []) (ws' := [(a_t, .inr (10, [.ref a_t_roads, .int t_homes, .int t_there, .ref a_t_book, .ref a_t_now, .int t_meetings, .ref a_t_meeting, .int t_sights, .ref a_t_sight, .int t_signs, .ref a_t_pad, .int t_touched, .int t_firstTouch, .int t_reason, .int t_acts, .ref a_t_apart, .ref a_t_rounds, .ref a_t_fewest, .ref a_t_nextFewest, .ref a_t_ways, .ref a_t_nextWays, .ref a_t_counts, .ref a_t_image, .ref a_t_isKept])), (a_t_roads, .inl (cI, 12, .inl t_roads)), (a_t_rounds, .inl (cI, 144, .inl x17))]) ⟨hx, hb, hml, hown, hts⟩ hcw146 hK hN hP hD hS hA (c_X10_layRounds l D cI cJ cZ cO _ a_t a_t_roads a_t_book a_t_now a_t_meeting a_t_sight a_t_pad a_t_apart a_t_rounds a_t_fewest a_t_nextFewest a_t_ways a_t_nextWays a_t_counts a_t_image a_t_isKept t_homes t_there t_meetings t_sights t_signs t_touched t_firstTouch t_reason t_acts t_roads t_rounds x17 hx17) (q := (RX10, TX10, 24)) (ci := 10) (q0 := 0) rfl rfl [0, 1, 2] [] [0, 1, 2] rfl rfl rfl rfl (by decide) rfl rfl rfl hl.1 rfl (Nat.le_of_ble_eq_true rfl) dX10_rounds_17 ⟨Nat.zero_le _, Nat.zero_le _⟩ (fun H locs hP hD hS => ?_)
      refine lv_aload_n hx hb dX10_rounds_20 rfl (lv_at hl 0 rfl) ?_
      refine va_get (D := D) (ci := 10) (v := .ref a_t_rounds) (C := RX10) (T := TX10) (N := 24) hx hb hts hmsX10 hown hK hP 0 rfl rfl 16 (by decide) hw31 (fun _ h9 => h9) rfl dX10_rounds_21 ?_
      refine lv_bipush (v := 12) hx hb dX10_rounds_24 (by decide) ?_
      refine lv_iload_n hx hb dX10_rounds_26 rfl (lv_at hl 1 rfl) ?_
      refine lv_imul hx hb dX10_rounds_27 ?_
      refine lv_iload_n hx hb dX10_rounds_28 rfl (lv_at hl 2 rfl) ?_
      refine lv_iadd hx hb dX10_rounds_29 ?_
      obtain ⟨hi30, hf⟩ := ix_if hf
      refine va_iald (D := D) hx hb hK hP 2 0 rfl rfl hi30 dX10_rounds_30 ?_
      refine lv_istore_n (lv' := [(3, .int (x17 (((12 : Int32) * p1) + p2).toNatClampNeg)), (0, .ref a_t), (1, .int p1), (2, .int p2)]) hx hb dX10_rounds_31 rfl hl (by decide) rfl (fun ls hl => ?_)
      refine lv_iload_n hx hb dX10_rounds_32 rfl (lv_at hl 0 rfl) ?_
      refine lv_ldc (v := 1000000) hx hb hown hc133 dX10_rounds_33 ?_
      refine lv_icmp_lt (tgt := 43) hx hb dX10_rounds_35 (by decide) (fun hc => ?_) (fun hc => ?_)
      · replace hf := (if_pos hc).symm.trans hf
        refine lv_iload_n hx hb dX10_rounds_43 rfl (lv_at hl 0 rfl) ?_
        obtain rfl := Option.some.inj hf
        exact fin _ _ _ _ dX10_rounds_44 hP hD hS
      · replace hf := (if_neg hc).symm.trans hf
        refine lv_bipush (v := -6) hx hb dX10_rounds_38 (by decide) ?_
        refine lv_goto (tgt := 44) hx hb dX10_rounds_40 (by decide) ?_
        obtain rfl := Option.some.inj hf
        exact fin _ _ _ _ dX10_rounds_44 hP hD hS
    · replace hf := (if_pos hc).symm.trans hf
      refine lv_iconst (v := -1) hx hb dX10_rounds_14 (by decide) ?_
      obtain rfl := Option.some.inj hf
      exact fin _ _ _ _ dX10_rounds_15 hP hD hS
abbrev rm_X10_heads : Room := { frames := 4, cells := 0, slots := 0, locals := 94 }
theorem ms_X10_heads_X10 : ∀ w ∈ u_ws RX10 TX10 24, w ∈ wsX10_heads := fun w h => List.mem_cons_of_mem _ (List.mem_append_right _ (h))
set_option maxHeartbeats 4000000 in
set_option maxRecDepth 100000 in
theorem c_X10_heads (l : Launch) (D : va_G) (cI cJ cZ cO : ClassId) (sz : Nat) (a_t : Nat) (a_t_roads : Nat) (a_t_book : Nat) (a_t_now : Nat) (a_t_meeting : Nat) (a_t_sight : Nat) (a_t_pad : Nat) (a_t_apart : Nat) (a_t_rounds : Nat) (a_t_fewest : Nat) (a_t_nextFewest : Nat) (a_t_ways : Nat) (a_t_nextWays : Nat) (a_t_counts : Nat) (a_t_image : Nat) (a_t_isKept : Nat) (t_homes : Int32) (t_there : Int32) (t_meetings : Int32) (t_sights : Int32) (t_signs : Int32) (t_touched : Int32) (t_firstTouch : Int32) (t_reason : Int32) (t_acts : Int32) (t_roads : Nat → Int32) (t_rounds : Nat → Int32) (p1 : Int32) (p2 : Int32) (res : Int32 × (Nat → Int32)) (hf : f_X10_heads t_homes t_roads t_rounds p1 p2 = some res) : MetI l yX10_heads wsX10_heads rm_X10_heads [.ref a_t, .int p1, .int p2] D (tys4 cI cJ cZ cO) [(a_t, .inr (10, [.ref a_t_roads, .int t_homes, .int t_there, .ref a_t_book, .ref a_t_now, .int t_meetings, .ref a_t_meeting, .int t_sights, .ref a_t_sight, .int t_signs, .ref a_t_pad, .int t_touched, .int t_firstTouch, .int t_reason, .int t_acts, .ref a_t_apart, .ref a_t_rounds, .ref a_t_fewest, .ref a_t_nextFewest, .ref a_t_ways, .ref a_t_nextWays, .ref a_t_counts, .ref a_t_image, .ref a_t_isKept])), (a_t_roads, .inl (cI, 12, .inl t_roads)), (a_t_rounds, .inl (cI, 144, .inl t_rounds))] sz res.1 [(a_t, .inr (10, [.ref a_t_roads, .int t_homes, .int t_there, .ref a_t_book, .ref a_t_now, .int t_meetings, .ref a_t_meeting, .int t_sights, .ref a_t_sight, .int t_signs, .ref a_t_pad, .int t_touched, .int t_firstTouch, .int t_reason, .int t_acts, .ref a_t_apart, .ref a_t_rounds, .ref a_t_fewest, .ref a_t_nextFewest, .ref a_t_ways, .ref a_t_nextWays, .ref a_t_counts, .ref a_t_image, .ref a_t_isKept])), (a_t_roads, .inl (cI, 12, .inl t_roads)), (a_t_rounds, .inl (cI, 144, .inl res.2))] := by
  refine met_i (cc := cX10_heads) (maxL := 7) (by decide) rfl (Nat.le_of_ble_eq_true rfl) ?_
  intro p e s m args below meth c Q A hx hb hml hown hts hK hN hA fin H locs ls hP hD hS hl
  replace hown : s.vm.findClass RX10 = some m.cls := hown
  replace hl : lv_has ls 7 [(0, .ref a_t), (1, .int p1), (2, .int p2)] := hl
  rw [f_X10_heads] at hf
  have hcw73 := va_cwS (R := rm_X10_heads) (rm := rm_X10_isPlace) 1 hts gX10_heads_X10_isPlace rfl rfl rfl (by decide +kernel) ⟨Nat.le_of_ble_eq_true rfl, Nat.le_of_ble_eq_true rfl⟩
  have hcw146 := cwV (R := rm_X10_heads) (rm := rm_X10_layRounds) 0 hts gX10_heads_X10_layRounds rfl rfl rfl (by decide +kernel) ⟨Nat.le_of_ble_eq_true rfl, Nat.le_of_ble_eq_true rfl⟩
  have hw31 := hts (.fieldLink RX10 31 "TouchReignModel" "rounds" "[I") (by decide +kernel)
  have hmsX10 := ms_X10_heads_X10
  have hc133 := hts (.constant RX10 133 (1000000)) (by decide +kernel)
  have hcw143 := cwV (R := rm_X10_heads) (rm := rm_X10_by) 2 hts gX10_heads_X10_by rfl rfl rfl (by decide +kernel) ⟨Nat.le_of_ble_eq_true rfl, Nat.le_of_ble_eq_true rfl⟩
  have hw7 := hts (.fieldLink RX10 7 "TouchReignModel" "roads" "[I") (by decide +kernel)
  have hcw69 := va_cwS (R := rm_X10_heads) (rm := rm_X10_has) 2 hts gX10_heads_X10_has rfl rfl rfl (by decide +kernel) ⟨Nat.le_of_ble_eq_true rfl, Nat.le_of_ble_eq_true rfl⟩
  refine lv_iload_n hx hb dX10_heads_0 rfl (lv_at hl 1 rfl) ?_
  obtain ⟨x1, hx1, hf⟩ := bd_if hf
  refine cs_i (wr := [(a_t, .inr (10, [.ref a_t_roads, .int t_homes, .int t_there, .ref a_t_book, .ref a_t_now, .int t_meetings, .ref a_t_meeting, .int t_sights, .ref a_t_sight, .int t_signs, .ref a_t_pad, .int t_touched, .int t_firstTouch, .int t_reason, .int t_acts, .ref a_t_apart, .ref a_t_rounds, .ref a_t_fewest, .ref a_t_nextFewest, .ref a_t_ways, .ref a_t_nextWays, .ref a_t_counts, .ref a_t_image, .ref a_t_isKept])), (a_t_roads, .inl (cI, 12, .inl t_roads)), (a_t_rounds, .inl (cI, 144, .inl t_rounds))]) (ws' := [(a_t, .inr (10, [.ref a_t_roads, .int t_homes, .int t_there, .ref a_t_book, .ref a_t_now, .int t_meetings, .ref a_t_meeting, .int t_sights, .ref a_t_sight, .int t_signs, .ref a_t_pad, .int t_touched, .int t_firstTouch, .int t_reason, .int t_acts, .ref a_t_apart, .ref a_t_rounds, .ref a_t_fewest, .ref a_t_nextFewest, .ref a_t_ways, .ref a_t_nextWays, .ref a_t_counts, .ref a_t_image, .ref a_t_isKept])), (a_t_roads, .inl (cI, 12, .inl t_roads)), (a_t_rounds, .inl (cI, 144, .inl t_rounds))]) ⟨hx, hb, hml, hown, hts⟩ hcw73 hK hN hP hD hS hA (c_X10_isPlace l D cI cJ cZ cO _ p1 x1 hx1) [] [0, 1, 2] [0, 1, 2] rfl rfl rfl rfl (by decide) rfl rfl rfl hl.1 rfl (Nat.le_of_ble_eq_true rfl) dX10_heads_1 ⟨Nat.zero_le _, Nat.zero_le _⟩ (fun H locs hP hD hS => ?_)
  refine lv_if_eq (tgt := 14) hx hb dX10_heads_4 (by decide) (fun hc => ?_) (fun hc => ?_)
  · replace hf := (if_pos hc).symm.trans hf
    refine lv_iconst (v := -1) hx hb dX10_heads_14 (by decide) ?_
    obtain rfl := Option.some.inj hf
    exact fin _ _ _ _ dX10_heads_15 hP hD hS
  · replace hf := (if_neg hc).symm.trans hf
    refine lv_iload_n hx hb dX10_heads_7 rfl (lv_at hl 2 rfl) ?_
    obtain ⟨x8, hx8, hf⟩ := bd_if hf
    refine cs_i (wr := [(a_t, .inr (10, [.ref a_t_roads, .int t_homes, .int t_there, .ref a_t_book, .ref a_t_now, .int t_meetings, .ref a_t_meeting, .int t_sights, .ref a_t_sight, .int t_signs, .ref a_t_pad, .int t_touched, .int t_firstTouch, .int t_reason, .int t_acts, .ref a_t_apart, .ref a_t_rounds, .ref a_t_fewest, .ref a_t_nextFewest, .ref a_t_ways, .ref a_t_nextWays, .ref a_t_counts, .ref a_t_image, .ref a_t_isKept])), (a_t_roads, .inl (cI, 12, .inl t_roads)), (a_t_rounds, .inl (cI, 144, .inl t_rounds))]) (ws' := [(a_t, .inr (10, [.ref a_t_roads, .int t_homes, .int t_there, .ref a_t_book, .ref a_t_now, .int t_meetings, .ref a_t_meeting, .int t_sights, .ref a_t_sight, .int t_signs, .ref a_t_pad, .int t_touched, .int t_firstTouch, .int t_reason, .int t_acts, .ref a_t_apart, .ref a_t_rounds, .ref a_t_fewest, .ref a_t_nextFewest, .ref a_t_ways, .ref a_t_nextWays, .ref a_t_counts, .ref a_t_image, .ref a_t_isKept])), (a_t_roads, .inl (cI, 12, .inl t_roads)), (a_t_rounds, .inl (cI, 144, .inl t_rounds))]) ⟨hx, hb, hml, hown, hts⟩ hcw73 hK hN hP hD hS hA (c_X10_isPlace l D cI cJ cZ cO _ p2 x8 hx8) [] [0, 1, 2] [0, 1, 2] rfl rfl rfl rfl (by decide) rfl rfl rfl hl.1 rfl (Nat.le_of_ble_eq_true rfl) dX10_heads_8 ⟨Nat.zero_le _, Nat.zero_le _⟩ (fun H locs hP hD hS => ?_)
    refine lv_if_ne (tgt := 16) hx hb dX10_heads_11 (by decide) (fun hc => ?_) (fun hc => ?_)
    · replace hf := (if_neg hc).symm.trans hf
      refine lv_aload_n hx hb dX10_heads_16 rfl (lv_at hl 0 rfl) ?_
      obtain ⟨x17, hx17, hf⟩ := bd_if hf
      refine cv_v (wr := []) (ws' := [(a_t, .inr (10, [.ref a_t_roads, .int t_homes, .int t_there, .ref a_t_book, .ref a_t_now, .int t_meetings, .ref a_t_meeting, .int t_sights, .ref a_t_sight, .int t_signs, .ref a_t_pad, .int t_touched, .int t_firstTouch, .int t_reason, .int t_acts, .ref a_t_apart, .ref a_t_rounds, .ref a_t_fewest, .ref a_t_nextFewest, .ref a_t_ways, .ref a_t_nextWays, .ref a_t_counts, .ref a_t_image, .ref a_t_isKept])), (a_t_roads, .inl (cI, 12, .inl t_roads)), (a_t_rounds, .inl (cI, 144, .inl x17))]) ⟨hx, hb, hml, hown, hts⟩ hcw146 hK hN hP hD hS hA (c_X10_layRounds l D cI cJ cZ cO _ a_t a_t_roads a_t_book a_t_now a_t_meeting a_t_sight a_t_pad a_t_apart a_t_rounds a_t_fewest a_t_nextFewest a_t_ways a_t_nextWays a_t_counts a_t_image a_t_isKept t_homes t_there t_meetings t_sights t_signs t_touched t_firstTouch t_reason t_acts t_roads t_rounds x17 hx17) (q := (RX10, TX10, 24)) (ci := 10) (q0 := 0) rfl rfl [0, 1, 2] [] [0, 1, 2] rfl rfl rfl rfl (by decide) rfl rfl rfl hl.1 rfl (Nat.le_of_ble_eq_true rfl) dX10_heads_17 ⟨Nat.zero_le _, Nat.zero_le _⟩ (fun H locs hP hD hS => ?_)
      refine lv_aload_n hx hb dX10_heads_20 rfl (lv_at hl 0 rfl) ?_
      refine va_get (D := D) (ci := 10) (v := .ref a_t_rounds) (C := RX10) (T := TX10) (N := 24) hx hb hts hmsX10 hown hK hP 0 rfl rfl 16 (by decide) hw31 (fun _ h9 => h9) rfl dX10_heads_21 ?_
      refine lv_bipush (v := 12) hx hb dX10_heads_24 (by decide) ?_
      refine lv_iload_n hx hb dX10_heads_26 rfl (lv_at hl 1 rfl) ?_
      refine lv_imul hx hb dX10_heads_27 ?_
      refine lv_iload_n hx hb dX10_heads_28 rfl (lv_at hl 2 rfl) ?_
      refine lv_iadd hx hb dX10_heads_29 ?_
      obtain ⟨hi30, hf⟩ := ix_if hf
      refine va_iald (D := D) hx hb hK hP 2 0 rfl rfl hi30 dX10_heads_30 ?_
      refine lv_istore_n (lv' := [(3, .int (x17 (((12 : Int32) * p1) + p2).toNatClampNeg)), (0, .ref a_t), (1, .int p1), (2, .int p2)]) hx hb dX10_heads_31 rfl hl (by decide) rfl (fun ls hl => ?_)
      refine lv_bipush (v := -6) hx hb dX10_heads_32 (by decide) ?_
      refine lv_istore (lv' := [(4, .int (-6 : Int32)), (3, .int (x17 (((12 : Int32) * p1) + p2).toNatClampNeg)), (0, .ref a_t), (1, .int p1), (2, .int p2)]) hx hb dX10_heads_34 hl (by decide) rfl (fun ls hl => ?_)
      refine lv_bipush (v := 11) hx hb dX10_heads_36 (by decide) ?_
      refine lv_istore (lv' := [(5, .int (11 : Int32)), (4, .int (-6 : Int32)), (3, .int (x17 (((12 : Int32) * p1) + p2).toNatClampNeg)), (0, .ref a_t), (1, .int p1), (2, .int p2)]) hx hb dX10_heads_38 hl (by decide) rfl (fun ls hl => ?_)
      have hX40 : ∀ (x40v4 : Int32) (H : Heap) (locs : List Loc) (ls : Array Slot), va_P D vwCl [(a_t, .inr (10, [.ref a_t_roads, .int t_homes, .int t_there, .ref a_t_book, .ref a_t_now, .int t_meetings, .ref a_t_meeting, .int t_sights, .ref a_t_sight, .int t_signs, .ref a_t_pad, .int t_touched, .int t_firstTouch, .int t_reason, .int t_acts, .ref a_t_apart, .ref a_t_rounds, .ref a_t_fewest, .ref a_t_nextFewest, .ref a_t_ways, .ref a_t_nextWays, .ref a_t_counts, .ref a_t_image, .ref a_t_isKept])), (a_t_roads, .inl (cI, 12, .inl t_roads)), (a_t_rounds, .inl (cI, 144, .inl x17))] H → va_D A [(a_t, .inr (10, [.ref a_t_roads, .int t_homes, .int t_there, .ref a_t_book, .ref a_t_now, .int t_meetings, .ref a_t_meeting, .int t_sights, .ref a_t_sight, .int t_signs, .ref a_t_pad, .int t_touched, .int t_firstTouch, .int t_reason, .int t_acts, .ref a_t_apart, .ref a_t_rounds, .ref a_t_fewest, .ref a_t_nextFewest, .ref a_t_ways, .ref a_t_nextWays, .ref a_t_counts, .ref a_t_image, .ref a_t_isKept])), (a_t_roads, .inl (cI, 12, .inl t_roads)), (a_t_rounds, .inl (cI, 144, .inl x17))] → va_S A s.heap H locs → lv_has ls 7 [(4, .int x40v4)] → f_X10_heads_X40 x17 x40v4 = some res → W p l e rm_X10_heads s m args below meth c H locs 0 0 Q (F0 m 113 ls []) := by
        intro x40v4 H locs ls hP hD hS hl hf
        rw [f_X10_heads_X40] at hf
        refine lv_iload hx hb dX10_heads_113 (lv_at hl 0 rfl) ?_
        obtain rfl := Option.some.inj hf
        exact fin _ _ _ _ dX10_heads_115 hP hD hS
      have hL40 : ∀ (n40 : Nat), ∀ (l40v3 : Int32) (l40v4 : Int32) (l40v5 : Int32) (H : Heap) (locs : List Loc) (ls : Array Slot), va_P D vwCl [(a_t, .inr (10, [.ref a_t_roads, .int t_homes, .int t_there, .ref a_t_book, .ref a_t_now, .int t_meetings, .ref a_t_meeting, .int t_sights, .ref a_t_sight, .int t_signs, .ref a_t_pad, .int t_touched, .int t_firstTouch, .int t_reason, .int t_acts, .ref a_t_apart, .ref a_t_rounds, .ref a_t_fewest, .ref a_t_nextFewest, .ref a_t_ways, .ref a_t_nextWays, .ref a_t_counts, .ref a_t_image, .ref a_t_isKept])), (a_t_roads, .inl (cI, 12, .inl t_roads)), (a_t_rounds, .inl (cI, 144, .inl x17))] H → va_D A [(a_t, .inr (10, [.ref a_t_roads, .int t_homes, .int t_there, .ref a_t_book, .ref a_t_now, .int t_meetings, .ref a_t_meeting, .int t_sights, .ref a_t_sight, .int t_signs, .ref a_t_pad, .int t_touched, .int t_firstTouch, .int t_reason, .int t_acts, .ref a_t_apart, .ref a_t_rounds, .ref a_t_fewest, .ref a_t_nextFewest, .ref a_t_ways, .ref a_t_nextWays, .ref a_t_counts, .ref a_t_image, .ref a_t_isKept])), (a_t_roads, .inl (cI, 12, .inl t_roads)), (a_t_rounds, .inl (cI, 144, .inl x17))] → va_S A s.heap H locs → lv_has ls 7 [(0, .ref a_t), (1, .int p1), (2, .int p2), (3, .int l40v3), (4, .int l40v4), (5, .int l40v5)] → f_X10_heads_L40 t_homes t_roads p1 p2 x17 (f_X10_heads_X40 x17) n40 l40v3 l40v4 l40v5 = some res → W p l e rm_X10_heads s m args below meth c H locs 0 0 Q (F0 m 40 ls []) := by
        intro n40
        induction n40 with
        | zero =>
          intro l40v3 l40v4 l40v5 H locs ls hP hD hS hl hf
          rw [f_X10_heads_L40] at hf
          cases hf
        | succ n40 ih40 =>
          intro l40v3 l40v4 l40v5 H locs ls hP hD hS hl hf
          rw [f_X10_heads_L40] at hf
          refine lv_iload hx hb dX10_heads_40 (lv_at hl 5 rfl) ?_
          refine lv_if_lt (tgt := 113) hx hb dX10_heads_42 (by decide) (fun hc => ?_) (fun hc => ?_)
          · replace hf := (if_pos hc).symm.trans hf
            exact hX40 l40v4 _ _ _ hP hD hS (lv_sub hl [4] rfl) hf
          · replace hf := (if_neg hc).symm.trans hf
            refine lv_iload_n hx hb dX10_heads_45 rfl (lv_at hl 3 rfl) ?_
            refine lv_if_le (tgt := 113) hx hb dX10_heads_46 (by decide) (fun hc => ?_) (fun hc => ?_)
            · replace hf := (if_pos hc).symm.trans hf
              exact hX40 l40v4 _ _ _ hP hD hS (lv_sub hl [4] rfl) hf
            · replace hf := (if_neg hc).symm.trans hf
              refine lv_iload_n hx hb dX10_heads_49 rfl (lv_at hl 3 rfl) ?_
              refine lv_ldc (v := 1000000) hx hb hown hc133 dX10_heads_50 ?_
              refine lv_icmp_ge (tgt := 113) hx hb dX10_heads_52 (by decide) (fun hc => ?_) (fun hc => ?_)
              · replace hf := (if_pos hc).symm.trans hf
                exact hX40 l40v4 _ _ _ hP hD hS (lv_sub hl [4] rfl) hf
              · replace hf := (if_neg hc).symm.trans hf
                refine lv_iload hx hb dX10_heads_55 (lv_at hl 5 rfl) ?_
                refine lv_iload_n hx hb dX10_heads_57 rfl (lv_at hl 1 rfl) ?_
                have hB80 : ∀ (b80s0 : Int32) (H : Heap) (locs : List Loc) (ls : Array Slot), va_P D vwCl [(a_t, .inr (10, [.ref a_t_roads, .int t_homes, .int t_there, .ref a_t_book, .ref a_t_now, .int t_meetings, .ref a_t_meeting, .int t_sights, .ref a_t_sight, .int t_signs, .ref a_t_pad, .int t_touched, .int t_firstTouch, .int t_reason, .int t_acts, .ref a_t_apart, .ref a_t_rounds, .ref a_t_fewest, .ref a_t_nextFewest, .ref a_t_ways, .ref a_t_nextWays, .ref a_t_counts, .ref a_t_image, .ref a_t_isKept])), (a_t_roads, .inl (cI, 12, .inl t_roads)), (a_t_rounds, .inl (cI, 144, .inl x17))] H → va_D A [(a_t, .inr (10, [.ref a_t_roads, .int t_homes, .int t_there, .ref a_t_book, .ref a_t_now, .int t_meetings, .ref a_t_meeting, .int t_sights, .ref a_t_sight, .int t_signs, .ref a_t_pad, .int t_touched, .int t_firstTouch, .int t_reason, .int t_acts, .ref a_t_apart, .ref a_t_rounds, .ref a_t_fewest, .ref a_t_nextFewest, .ref a_t_ways, .ref a_t_nextWays, .ref a_t_counts, .ref a_t_image, .ref a_t_isKept])), (a_t_roads, .inl (cI, 12, .inl t_roads)), (a_t_rounds, .inl (cI, 144, .inl x17))] → va_S A s.heap H locs → lv_has ls 7 [(0, .ref a_t), (1, .int p1), (2, .int p2), (3, .int l40v3), (4, .int l40v4), (5, .int l40v5)] → f_X10_heads_B80 t_homes t_roads p2 x17 l40v3 l40v4 l40v5 (f_X10_heads_L40 t_homes t_roads p1 p2 x17 (f_X10_heads_X40 x17) n40) b80s0 = some res → W p l e rm_X10_heads s m args below meth c H locs 0 0 Q (F0 m 80 ls [.int b80s0]) := by
                  intro b80s0 H locs ls hP hD hS hl hf
                  rw [f_X10_heads_B80] at hf
                  refine lv_istore (lv' := [(6, .int b80s0), (0, .ref a_t), (1, .int p1), (2, .int p2), (3, .int l40v3), (4, .int l40v4), (5, .int l40v5)]) hx hb dX10_heads_80 hl (by decide) rfl (fun ls hl => ?_)
                  refine lv_iload hx hb dX10_heads_82 (lv_at hl 0 rfl) ?_
                  refine lv_if_eq (tgt := 103) hx hb dX10_heads_84 (by decide) (fun hc => ?_) (fun hc => ?_)
                  · replace hf := (if_pos hc).symm.trans hf
                    refine lv_iload hx hb dX10_heads_103 (lv_at hl 5 rfl) ?_
                    refine lv_istore (lv' := [(4, .int l40v4), (6, .int b80s0), (0, .ref a_t), (1, .int p1), (2, .int p2), (3, .int l40v3), (5, .int l40v5)]) hx hb dX10_heads_105 hl (by decide) rfl (fun ls hl => ?_)
                    refine lv_iinc (v := l40v5 + (-1)) (lv' := [(5, .int (l40v5 + (-1))), (4, .int l40v4), (6, .int b80s0), (0, .ref a_t), (1, .int p1), (2, .int p2), (3, .int l40v3)]) hx hb dX10_heads_107 hl (k := 6) rfl rfl (by decide) rfl (fun ls hl => ?_)
                    refine lv_goto (tgt := 40) hx hb dX10_heads_110 (by decide) ?_
                    exact ih40 l40v3 l40v4 (l40v5 + (-1)) _ _ _ hP hD hS (lv_sub hl [3, 4, 5, 6, 1, 0] rfl) hf
                  · replace hf := (if_neg hc).symm.trans hf
                    refine lv_aload_n hx hb dX10_heads_87 rfl (lv_at hl 1 rfl) ?_
                    refine lv_iload hx hb dX10_heads_88 (lv_at hl 6 rfl) ?_
                    refine lv_iload_n hx hb dX10_heads_90 rfl (lv_at hl 3 rfl) ?_
                    obtain ⟨x91, hx91, hf⟩ := bd_if hf
                    refine cv_i (wr := []) (ws' := [(a_t, .inr (10, [.ref a_t_roads, .int t_homes, .int t_there, .ref a_t_book, .ref a_t_now, .int t_meetings, .ref a_t_meeting, .int t_sights, .ref a_t_sight, .int t_signs, .ref a_t_pad, .int t_touched, .int t_firstTouch, .int t_reason, .int t_acts, .ref a_t_apart, .ref a_t_rounds, .ref a_t_fewest, .ref a_t_nextFewest, .ref a_t_ways, .ref a_t_nextWays, .ref a_t_counts, .ref a_t_image, .ref a_t_isKept])), (a_t_roads, .inl (cI, 12, .inl t_roads)), (a_t_rounds, .inl (cI, 144, .inl x17))]) ⟨hx, hb, hml, hown, hts⟩ hcw143 hK hN hP hD hS hA (c_X10_by l D cI cJ cZ cO _ a_t a_t_roads a_t_book a_t_now a_t_meeting a_t_sight a_t_pad a_t_apart a_t_rounds a_t_fewest a_t_nextFewest a_t_ways a_t_nextWays a_t_counts a_t_image a_t_isKept t_homes t_there t_meetings t_sights t_signs t_touched t_firstTouch t_reason t_acts t_roads x17 l40v5 p2 x91 hx91) (q := (RX10, TX10, 24)) (ci := 10) (q0 := 0) rfl rfl [0, 1, 2] [] [0, 1, 2] rfl rfl rfl rfl (by decide) rfl rfl rfl hl.1 rfl (Nat.le_of_ble_eq_true rfl) dX10_heads_91 ⟨Nat.zero_le _, Nat.zero_le _⟩ (fun H locs hP hD hS => ?_)
                    refine lv_iload_n hx hb dX10_heads_94 rfl (lv_at hl 4 rfl) ?_
                    refine lv_icmp_ne (tgt := 103) hx hb dX10_heads_95 (by decide) (fun hc => ?_) (fun hc => ?_)
                    · replace hf := (if_neg hc).symm.trans hf
                      refine lv_iload hx hb dX10_heads_103 (lv_at hl 5 rfl) ?_
                      refine lv_istore (lv' := [(4, .int l40v4), (6, .int b80s0), (0, .ref a_t), (1, .int p1), (2, .int p2), (3, .int l40v3), (5, .int l40v5)]) hx hb dX10_heads_105 hl (by decide) rfl (fun ls hl => ?_)
                      refine lv_iinc (v := l40v5 + (-1)) (lv' := [(5, .int (l40v5 + (-1))), (4, .int l40v4), (6, .int b80s0), (0, .ref a_t), (1, .int p1), (2, .int p2), (3, .int l40v3)]) hx hb dX10_heads_107 hl (k := 6) rfl rfl (by decide) rfl (fun ls hl => ?_)
                      refine lv_goto (tgt := 40) hx hb dX10_heads_110 (by decide) ?_
                      exact ih40 l40v3 l40v4 (l40v5 + (-1)) _ _ _ hP hD hS (lv_sub hl [3, 4, 5, 6, 1, 0] rfl) hf
                    · replace hf := (if_pos hc).symm.trans hf
                      refine lv_iload hx hb dX10_heads_98 (lv_at hl 6 rfl) ?_
                      refine lv_goto (tgt := 105) hx hb dX10_heads_100 (by decide) ?_
                      refine lv_istore (lv' := [(4, .int l40v5), (6, .int b80s0), (0, .ref a_t), (1, .int p1), (2, .int p2), (3, .int l40v3), (5, .int l40v5)]) hx hb dX10_heads_105 hl (by decide) rfl (fun ls hl => ?_)
                      refine lv_iinc (v := l40v5 + (-1)) (lv' := [(5, .int (l40v5 + (-1))), (4, .int l40v5), (6, .int b80s0), (0, .ref a_t), (1, .int p1), (2, .int p2), (3, .int l40v3)]) hx hb dX10_heads_107 hl (k := 6) rfl rfl (by decide) rfl (fun ls hl => ?_)
                      refine lv_goto (tgt := 40) hx hb dX10_heads_110 (by decide) ?_
                      exact ih40 l40v3 l40v5 (l40v5 + (-1)) _ _ _ hP hD hS (lv_sub hl [3, 4, 5, 6, 1, 0] rfl) hf
                have hB75 : ∀ (H : Heap) (locs : List Loc) (ls : Array Slot), va_P D vwCl [(a_t, .inr (10, [.ref a_t_roads, .int t_homes, .int t_there, .ref a_t_book, .ref a_t_now, .int t_meetings, .ref a_t_meeting, .int t_sights, .ref a_t_sight, .int t_signs, .ref a_t_pad, .int t_touched, .int t_firstTouch, .int t_reason, .int t_acts, .ref a_t_apart, .ref a_t_rounds, .ref a_t_fewest, .ref a_t_nextFewest, .ref a_t_ways, .ref a_t_nextWays, .ref a_t_counts, .ref a_t_image, .ref a_t_isKept])), (a_t_roads, .inl (cI, 12, .inl t_roads)), (a_t_rounds, .inl (cI, 144, .inl x17))] H → va_D A [(a_t, .inr (10, [.ref a_t_roads, .int t_homes, .int t_there, .ref a_t_book, .ref a_t_now, .int t_meetings, .ref a_t_meeting, .int t_sights, .ref a_t_sight, .int t_signs, .ref a_t_pad, .int t_touched, .int t_firstTouch, .int t_reason, .int t_acts, .ref a_t_apart, .ref a_t_rounds, .ref a_t_fewest, .ref a_t_nextFewest, .ref a_t_ways, .ref a_t_nextWays, .ref a_t_counts, .ref a_t_image, .ref a_t_isKept])), (a_t_roads, .inl (cI, 12, .inl t_roads)), (a_t_rounds, .inl (cI, 144, .inl x17))] → va_S A s.heap H locs → lv_has ls 7 [(0, .ref a_t), (1, .int p1), (2, .int p2), (3, .int l40v3), (4, .int l40v4), (5, .int l40v5)] → f_X10_heads_B75 t_homes t_roads p2 x17 l40v3 l40v4 l40v5 (f_X10_heads_L40 t_homes t_roads p1 p2 x17 (f_X10_heads_X40 x17) n40) = some res → W p l e rm_X10_heads s m args below meth c H locs 0 0 Q (F0 m 75 ls []) := by
                  intro  H locs ls hP hD hS hl hf
                  rw [f_X10_heads_B75] at hf
                  refine lv_iconst (v := 1) hx hb dX10_heads_75 (by decide) ?_
                  refine lv_goto (tgt := 80) hx hb dX10_heads_76 (by decide) ?_
                  exact hB80 (1 : Int32) _ _ _ hP hD hS (lv_sub hl [0, 1, 2, 3, 4, 5] rfl) hf
                refine lv_icmp_eq (tgt := 75) hx hb dX10_heads_58 (by decide) (fun hc => ?_) (fun hc => ?_)
                · replace hf := (if_pos hc).symm.trans hf
                  exact hB75 _ _ _ hP hD hS (lv_sub hl [0, 1, 2, 3, 4, 5] rfl) hf
                · replace hf := (if_neg hc).symm.trans hf
                  refine lv_aload_n hx hb dX10_heads_61 rfl (lv_at hl 0 rfl) ?_
                  refine va_get (D := D) (ci := 10) (v := .ref a_t_roads) (C := RX10) (T := TX10) (N := 24) hx hb hts hmsX10 hown hK hP 0 rfl rfl 0 (by decide) hw7 (fun _ h9 => h9) rfl dX10_heads_62 ?_
                  refine lv_iload_n hx hb dX10_heads_65 rfl (lv_at hl 1 rfl) ?_
                  obtain ⟨hi66, hf⟩ := ix_if hf
                  refine va_iald (D := D) hx hb hK hP 1 0 rfl rfl hi66 dX10_heads_66 ?_
                  refine lv_iload hx hb dX10_heads_67 (lv_at hl 5 rfl) ?_
                  obtain ⟨x69, hx69, hf⟩ := bd_if hf
                  refine cs_i (wr := [(a_t, .inr (10, [.ref a_t_roads, .int t_homes, .int t_there, .ref a_t_book, .ref a_t_now, .int t_meetings, .ref a_t_meeting, .int t_sights, .ref a_t_sight, .int t_signs, .ref a_t_pad, .int t_touched, .int t_firstTouch, .int t_reason, .int t_acts, .ref a_t_apart, .ref a_t_rounds, .ref a_t_fewest, .ref a_t_nextFewest, .ref a_t_ways, .ref a_t_nextWays, .ref a_t_counts, .ref a_t_image, .ref a_t_isKept])), (a_t_roads, .inl (cI, 12, .inl t_roads)), (a_t_rounds, .inl (cI, 144, .inl x17))]) (ws' := [(a_t, .inr (10, [.ref a_t_roads, .int t_homes, .int t_there, .ref a_t_book, .ref a_t_now, .int t_meetings, .ref a_t_meeting, .int t_sights, .ref a_t_sight, .int t_signs, .ref a_t_pad, .int t_touched, .int t_firstTouch, .int t_reason, .int t_acts, .ref a_t_apart, .ref a_t_rounds, .ref a_t_fewest, .ref a_t_nextFewest, .ref a_t_ways, .ref a_t_nextWays, .ref a_t_counts, .ref a_t_image, .ref a_t_isKept])), (a_t_roads, .inl (cI, 12, .inl t_roads)), (a_t_rounds, .inl (cI, 144, .inl x17))]) ⟨hx, hb, hml, hown, hts⟩ hcw69 hK hN hP hD hS hA (c_X10_has l D cI cJ cZ cO _ (t_roads p1.toNatClampNeg) l40v5 x69 hx69) [] [0, 1, 2] [0, 1, 2] rfl rfl rfl rfl (by decide) rfl rfl rfl hl.1 rfl (Nat.le_of_ble_eq_true rfl) dX10_heads_69 ⟨Nat.zero_le _, Nat.zero_le _⟩ (fun H locs hP hD hS => ?_)
                  refine lv_if_eq (tgt := 79) hx hb dX10_heads_72 (by decide) (fun hc => ?_) (fun hc => ?_)
                  · replace hf := (if_pos hc).symm.trans hf
                    refine lv_iconst (v := 0) hx hb dX10_heads_79 (by decide) ?_
                    exact hB80 (0 : Int32) _ _ _ hP hD hS (lv_sub hl [0, 1, 2, 3, 4, 5] rfl) hf
                  · replace hf := (if_neg hc).symm.trans hf
                    exact hB75 _ _ _ hP hD hS (lv_sub hl [0, 1, 2, 3, 4, 5] rfl) hf
      exact hL40 5000 (x17 (((12 : Int32) * p1) + p2).toNatClampNeg) (-6 : Int32) (11 : Int32) _ _ _ hP hD hS (lv_sub hl [3, 4, 5, 2, 1, 0] rfl) hf
    · replace hf := (if_pos hc).symm.trans hf
      refine lv_iconst (v := -1) hx hb dX10_heads_14 (by decide) ?_
      obtain rfl := Option.some.inj hf
      exact fin _ _ _ _ dX10_heads_15 hP hD hS
abbrev rm_X10_flees : Room := { frames := 4, cells := 0, slots := 0, locals := 94 }
theorem ms_X10_flees_X10 : ∀ w ∈ u_ws RX10 TX10 24, w ∈ wsX10_flees := fun w h => List.mem_cons_of_mem _ (List.mem_append_right _ (h))
set_option maxHeartbeats 4000000 in
set_option maxRecDepth 100000 in
theorem c_X10_flees (l : Launch) (D : va_G) (cI cJ cZ cO : ClassId) (sz : Nat) (a_t : Nat) (a_t_roads : Nat) (a_t_book : Nat) (a_t_now : Nat) (a_t_meeting : Nat) (a_t_sight : Nat) (a_t_pad : Nat) (a_t_apart : Nat) (a_t_rounds : Nat) (a_t_fewest : Nat) (a_t_nextFewest : Nat) (a_t_ways : Nat) (a_t_nextWays : Nat) (a_t_counts : Nat) (a_t_image : Nat) (a_t_isKept : Nat) (t_homes : Int32) (t_there : Int32) (t_meetings : Int32) (t_sights : Int32) (t_signs : Int32) (t_touched : Int32) (t_firstTouch : Int32) (t_reason : Int32) (t_acts : Int32) (t_roads : Nat → Int32) (t_rounds : Nat → Int32) (p1 : Int32) (p2 : Int32) (res : Int32 × (Nat → Int32)) (hf : f_X10_flees t_homes t_roads t_rounds p1 p2 = some res) : MetI l yX10_flees wsX10_flees rm_X10_flees [.ref a_t, .int p1, .int p2] D (tys4 cI cJ cZ cO) [(a_t, .inr (10, [.ref a_t_roads, .int t_homes, .int t_there, .ref a_t_book, .ref a_t_now, .int t_meetings, .ref a_t_meeting, .int t_sights, .ref a_t_sight, .int t_signs, .ref a_t_pad, .int t_touched, .int t_firstTouch, .int t_reason, .int t_acts, .ref a_t_apart, .ref a_t_rounds, .ref a_t_fewest, .ref a_t_nextFewest, .ref a_t_ways, .ref a_t_nextWays, .ref a_t_counts, .ref a_t_image, .ref a_t_isKept])), (a_t_roads, .inl (cI, 12, .inl t_roads)), (a_t_rounds, .inl (cI, 144, .inl t_rounds))] sz res.1 [(a_t, .inr (10, [.ref a_t_roads, .int t_homes, .int t_there, .ref a_t_book, .ref a_t_now, .int t_meetings, .ref a_t_meeting, .int t_sights, .ref a_t_sight, .int t_signs, .ref a_t_pad, .int t_touched, .int t_firstTouch, .int t_reason, .int t_acts, .ref a_t_apart, .ref a_t_rounds, .ref a_t_fewest, .ref a_t_nextFewest, .ref a_t_ways, .ref a_t_nextWays, .ref a_t_counts, .ref a_t_image, .ref a_t_isKept])), (a_t_roads, .inl (cI, 12, .inl t_roads)), (a_t_rounds, .inl (cI, 144, .inl res.2))] := by
  refine met_i (cc := cX10_flees) (maxL := 7) (by decide) rfl (Nat.le_of_ble_eq_true rfl) ?_
  intro p e s m args below meth c Q A hx hb hml hown hts hK hN hA fin H locs ls hP hD hS hl
  replace hown : s.vm.findClass RX10 = some m.cls := hown
  replace hl : lv_has ls 7 [(0, .ref a_t), (1, .int p1), (2, .int p2)] := hl
  rw [f_X10_flees] at hf
  have hcw73 := va_cwS (R := rm_X10_flees) (rm := rm_X10_isPlace) 1 hts gX10_flees_X10_isPlace rfl rfl rfl (by decide +kernel) ⟨Nat.le_of_ble_eq_true rfl, Nat.le_of_ble_eq_true rfl⟩
  have hcw137 := cwV (R := rm_X10_flees) (rm := rm_X10_isTouched) 2 hts gX10_flees_X10_isTouched rfl rfl rfl (by decide +kernel) ⟨Nat.le_of_ble_eq_true rfl, Nat.le_of_ble_eq_true rfl⟩
  have hcw146 := cwV (R := rm_X10_flees) (rm := rm_X10_layRounds) 0 hts gX10_flees_X10_layRounds rfl rfl rfl (by decide +kernel) ⟨Nat.le_of_ble_eq_true rfl, Nat.le_of_ble_eq_true rfl⟩
  have hcw140 := cwV (R := rm_X10_flees) (rm := rm_X10_mostBehind) 2 hts gX10_flees_X10_mostBehind rfl rfl rfl (by decide +kernel) ⟨Nat.le_of_ble_eq_true rfl, Nat.le_of_ble_eq_true rfl⟩
  have hw31 := hts (.fieldLink RX10 31 "TouchReignModel" "rounds" "[I") (by decide +kernel)
  have hmsX10 := ms_X10_flees_X10
  have hw7 := hts (.fieldLink RX10 7 "TouchReignModel" "roads" "[I") (by decide +kernel)
  have hcw69 := va_cwS (R := rm_X10_flees) (rm := rm_X10_has) 2 hts gX10_flees_X10_has rfl rfl rfl (by decide +kernel) ⟨Nat.le_of_ble_eq_true rfl, Nat.le_of_ble_eq_true rfl⟩
  refine lv_iload_n hx hb dX10_flees_0 rfl (lv_at hl 1 rfl) ?_
  obtain ⟨x1, hx1, hf⟩ := bd_if hf
  refine cs_i (wr := [(a_t, .inr (10, [.ref a_t_roads, .int t_homes, .int t_there, .ref a_t_book, .ref a_t_now, .int t_meetings, .ref a_t_meeting, .int t_sights, .ref a_t_sight, .int t_signs, .ref a_t_pad, .int t_touched, .int t_firstTouch, .int t_reason, .int t_acts, .ref a_t_apart, .ref a_t_rounds, .ref a_t_fewest, .ref a_t_nextFewest, .ref a_t_ways, .ref a_t_nextWays, .ref a_t_counts, .ref a_t_image, .ref a_t_isKept])), (a_t_roads, .inl (cI, 12, .inl t_roads)), (a_t_rounds, .inl (cI, 144, .inl t_rounds))]) (ws' := [(a_t, .inr (10, [.ref a_t_roads, .int t_homes, .int t_there, .ref a_t_book, .ref a_t_now, .int t_meetings, .ref a_t_meeting, .int t_sights, .ref a_t_sight, .int t_signs, .ref a_t_pad, .int t_touched, .int t_firstTouch, .int t_reason, .int t_acts, .ref a_t_apart, .ref a_t_rounds, .ref a_t_fewest, .ref a_t_nextFewest, .ref a_t_ways, .ref a_t_nextWays, .ref a_t_counts, .ref a_t_image, .ref a_t_isKept])), (a_t_roads, .inl (cI, 12, .inl t_roads)), (a_t_rounds, .inl (cI, 144, .inl t_rounds))]) ⟨hx, hb, hml, hown, hts⟩ hcw73 hK hN hP hD hS hA (c_X10_isPlace l D cI cJ cZ cO _ p1 x1 hx1) [] [0, 1, 2] [0, 1, 2] rfl rfl rfl rfl (by decide) rfl rfl rfl hl.1 rfl (Nat.le_of_ble_eq_true rfl) dX10_flees_1 ⟨Nat.zero_le _, Nat.zero_le _⟩ (fun H locs hP hD hS => ?_)
  refine lv_if_eq (tgt := 14) hx hb dX10_flees_4 (by decide) (fun hc => ?_) (fun hc => ?_)
  · replace hf := (if_pos hc).symm.trans hf
    refine lv_iconst (v := -1) hx hb dX10_flees_14 (by decide) ?_
    obtain rfl := Option.some.inj hf
    exact fin _ _ _ _ dX10_flees_15 hP hD hS
  · replace hf := (if_neg hc).symm.trans hf
    refine lv_iload_n hx hb dX10_flees_7 rfl (lv_at hl 2 rfl) ?_
    obtain ⟨x8, hx8, hf⟩ := bd_if hf
    refine cs_i (wr := [(a_t, .inr (10, [.ref a_t_roads, .int t_homes, .int t_there, .ref a_t_book, .ref a_t_now, .int t_meetings, .ref a_t_meeting, .int t_sights, .ref a_t_sight, .int t_signs, .ref a_t_pad, .int t_touched, .int t_firstTouch, .int t_reason, .int t_acts, .ref a_t_apart, .ref a_t_rounds, .ref a_t_fewest, .ref a_t_nextFewest, .ref a_t_ways, .ref a_t_nextWays, .ref a_t_counts, .ref a_t_image, .ref a_t_isKept])), (a_t_roads, .inl (cI, 12, .inl t_roads)), (a_t_rounds, .inl (cI, 144, .inl t_rounds))]) (ws' := [(a_t, .inr (10, [.ref a_t_roads, .int t_homes, .int t_there, .ref a_t_book, .ref a_t_now, .int t_meetings, .ref a_t_meeting, .int t_sights, .ref a_t_sight, .int t_signs, .ref a_t_pad, .int t_touched, .int t_firstTouch, .int t_reason, .int t_acts, .ref a_t_apart, .ref a_t_rounds, .ref a_t_fewest, .ref a_t_nextFewest, .ref a_t_ways, .ref a_t_nextWays, .ref a_t_counts, .ref a_t_image, .ref a_t_isKept])), (a_t_roads, .inl (cI, 12, .inl t_roads)), (a_t_rounds, .inl (cI, 144, .inl t_rounds))]) ⟨hx, hb, hml, hown, hts⟩ hcw73 hK hN hP hD hS hA (c_X10_isPlace l D cI cJ cZ cO _ p2 x8 hx8) [] [0, 1, 2] [0, 1, 2] rfl rfl rfl rfl (by decide) rfl rfl rfl hl.1 rfl (Nat.le_of_ble_eq_true rfl) dX10_flees_8 ⟨Nat.zero_le _, Nat.zero_le _⟩ (fun H locs hP hD hS => ?_)
    refine lv_if_ne (tgt := 16) hx hb dX10_flees_11 (by decide) (fun hc => ?_) (fun hc => ?_)
    · replace hf := (if_neg hc).symm.trans hf
      refine lv_aload_n hx hb dX10_flees_16 rfl (lv_at hl 0 rfl) ?_
      refine lv_iload_n hx hb dX10_flees_17 rfl (lv_at hl 1 rfl) ?_
      refine lv_iload_n hx hb dX10_flees_18 rfl (lv_at hl 2 rfl) ?_
      obtain ⟨x19, hx19, hf⟩ := bd_if hf
      refine cv_i (wr := [(a_t_roads, .inl (cI, 12, .inl t_roads)), (a_t_rounds, .inl (cI, 144, .inl t_rounds))]) (ws' := [(a_t, .inr (10, [.ref a_t_roads, .int t_homes, .int t_there, .ref a_t_book, .ref a_t_now, .int t_meetings, .ref a_t_meeting, .int t_sights, .ref a_t_sight, .int t_signs, .ref a_t_pad, .int t_touched, .int t_firstTouch, .int t_reason, .int t_acts, .ref a_t_apart, .ref a_t_rounds, .ref a_t_fewest, .ref a_t_nextFewest, .ref a_t_ways, .ref a_t_nextWays, .ref a_t_counts, .ref a_t_image, .ref a_t_isKept])), (a_t_roads, .inl (cI, 12, .inl t_roads)), (a_t_rounds, .inl (cI, 144, .inl t_rounds))]) ⟨hx, hb, hml, hown, hts⟩ hcw137 hK hN hP hD hS hA (c_X10_isTouched l D cI cJ cZ cO _ a_t a_t_roads a_t_book a_t_now a_t_meeting a_t_sight a_t_pad a_t_apart a_t_rounds a_t_fewest a_t_nextFewest a_t_ways a_t_nextWays a_t_counts a_t_image a_t_isKept t_homes t_there t_meetings t_sights t_signs t_touched t_firstTouch t_reason t_acts p1 p2 x19 hx19) (q := (RX10, TX10, 24)) (ci := 10) (q0 := 0) rfl rfl [0] [1, 2] [2, 0, 1] rfl rfl rfl rfl (by decide) rfl rfl rfl hl.1 rfl (Nat.le_of_ble_eq_true rfl) dX10_flees_19 ⟨Nat.zero_le _, Nat.zero_le _⟩ (fun H locs hP hD hS => ?_)
      refine lv_if_eq (tgt := 28) hx hb dX10_flees_22 (by decide) (fun hc => ?_) (fun hc => ?_)
      · replace hf := (if_pos hc).symm.trans hf
        refine lv_aload_n hx hb dX10_flees_28 rfl (lv_at hl 0 rfl) ?_
        obtain ⟨x29, hx29, hf⟩ := bd_if hf
        refine cv_v (wr := []) (ws' := [(a_t, .inr (10, [.ref a_t_roads, .int t_homes, .int t_there, .ref a_t_book, .ref a_t_now, .int t_meetings, .ref a_t_meeting, .int t_sights, .ref a_t_sight, .int t_signs, .ref a_t_pad, .int t_touched, .int t_firstTouch, .int t_reason, .int t_acts, .ref a_t_apart, .ref a_t_rounds, .ref a_t_fewest, .ref a_t_nextFewest, .ref a_t_ways, .ref a_t_nextWays, .ref a_t_counts, .ref a_t_image, .ref a_t_isKept])), (a_t_roads, .inl (cI, 12, .inl t_roads)), (a_t_rounds, .inl (cI, 144, .inl x29))]) ⟨hx, hb, hml, hown, hts⟩ hcw146 hK hN hP hD hS hA (c_X10_layRounds l D cI cJ cZ cO _ a_t a_t_roads a_t_book a_t_now a_t_meeting a_t_sight a_t_pad a_t_apart a_t_rounds a_t_fewest a_t_nextFewest a_t_ways a_t_nextWays a_t_counts a_t_image a_t_isKept t_homes t_there t_meetings t_sights t_signs t_touched t_firstTouch t_reason t_acts t_roads t_rounds x29 hx29) (q := (RX10, TX10, 24)) (ci := 10) (q0 := 0) rfl rfl [0, 1, 2] [] [0, 1, 2] rfl rfl rfl rfl (by decide) rfl rfl rfl hl.1 rfl (Nat.le_of_ble_eq_true rfl) dX10_flees_29 ⟨Nat.zero_le _, Nat.zero_le _⟩ (fun H locs hP hD hS => ?_)
        refine lv_aload_n hx hb dX10_flees_32 rfl (lv_at hl 0 rfl) ?_
        refine lv_iload_n hx hb dX10_flees_33 rfl (lv_at hl 1 rfl) ?_
        refine lv_iload_n hx hb dX10_flees_34 rfl (lv_at hl 2 rfl) ?_
        obtain ⟨x35, hx35, hf⟩ := bd_if hf
        refine cv_i (wr := []) (ws' := [(a_t, .inr (10, [.ref a_t_roads, .int t_homes, .int t_there, .ref a_t_book, .ref a_t_now, .int t_meetings, .ref a_t_meeting, .int t_sights, .ref a_t_sight, .int t_signs, .ref a_t_pad, .int t_touched, .int t_firstTouch, .int t_reason, .int t_acts, .ref a_t_apart, .ref a_t_rounds, .ref a_t_fewest, .ref a_t_nextFewest, .ref a_t_ways, .ref a_t_nextWays, .ref a_t_counts, .ref a_t_image, .ref a_t_isKept])), (a_t_roads, .inl (cI, 12, .inl t_roads)), (a_t_rounds, .inl (cI, 144, .inl x29))]) ⟨hx, hb, hml, hown, hts⟩ hcw140 hK hN hP hD hS hA (c_X10_mostBehind l D cI cJ cZ cO _ a_t a_t_roads a_t_book a_t_now a_t_meeting a_t_sight a_t_pad a_t_apart a_t_rounds a_t_fewest a_t_nextFewest a_t_ways a_t_nextWays a_t_counts a_t_image a_t_isKept t_homes t_there t_meetings t_sights t_signs t_touched t_firstTouch t_reason t_acts t_roads x29 p1 p2 x35 hx35) (q := (RX10, TX10, 24)) (ci := 10) (q0 := 0) rfl rfl [0, 1, 2] [] [0, 1, 2] rfl rfl rfl rfl (by decide) rfl rfl rfl hl.1 rfl (Nat.le_of_ble_eq_true rfl) dX10_flees_35 ⟨Nat.zero_le _, Nat.zero_le _⟩ (fun H locs hP hD hS => ?_)
        refine lv_istore_n (lv' := [(3, .int x35), (0, .ref a_t), (1, .int p1), (2, .int p2)]) hx hb dX10_flees_38 rfl hl (by decide) rfl (fun ls hl => ?_)
        refine lv_bipush (v := -6) hx hb dX10_flees_39 (by decide) ?_
        refine lv_istore (lv' := [(4, .int (-6 : Int32)), (3, .int x35), (0, .ref a_t), (1, .int p1), (2, .int p2)]) hx hb dX10_flees_41 hl (by decide) rfl (fun ls hl => ?_)
        refine lv_bipush (v := 11) hx hb dX10_flees_43 (by decide) ?_
        refine lv_istore (lv' := [(5, .int (11 : Int32)), (4, .int (-6 : Int32)), (3, .int x35), (0, .ref a_t), (1, .int p1), (2, .int p2)]) hx hb dX10_flees_45 hl (by decide) rfl (fun ls hl => ?_)
        have hX47 : ∀ (x47v4 : Int32) (H : Heap) (locs : List Loc) (ls : Array Slot), va_P D vwCl [(a_t, .inr (10, [.ref a_t_roads, .int t_homes, .int t_there, .ref a_t_book, .ref a_t_now, .int t_meetings, .ref a_t_meeting, .int t_sights, .ref a_t_sight, .int t_signs, .ref a_t_pad, .int t_touched, .int t_firstTouch, .int t_reason, .int t_acts, .ref a_t_apart, .ref a_t_rounds, .ref a_t_fewest, .ref a_t_nextFewest, .ref a_t_ways, .ref a_t_nextWays, .ref a_t_counts, .ref a_t_image, .ref a_t_isKept])), (a_t_roads, .inl (cI, 12, .inl t_roads)), (a_t_rounds, .inl (cI, 144, .inl x29))] H → va_D A [(a_t, .inr (10, [.ref a_t_roads, .int t_homes, .int t_there, .ref a_t_book, .ref a_t_now, .int t_meetings, .ref a_t_meeting, .int t_sights, .ref a_t_sight, .int t_signs, .ref a_t_pad, .int t_touched, .int t_firstTouch, .int t_reason, .int t_acts, .ref a_t_apart, .ref a_t_rounds, .ref a_t_fewest, .ref a_t_nextFewest, .ref a_t_ways, .ref a_t_nextWays, .ref a_t_counts, .ref a_t_image, .ref a_t_isKept])), (a_t_roads, .inl (cI, 12, .inl t_roads)), (a_t_rounds, .inl (cI, 144, .inl x29))] → va_S A s.heap H locs → lv_has ls 7 [(4, .int x47v4)] → f_X10_flees_X47 x29 x47v4 = some res → W p l e rm_X10_flees s m args below meth c H locs 0 0 Q (F0 m 115 ls []) := by
          intro x47v4 H locs ls hP hD hS hl hf
          rw [f_X10_flees_X47] at hf
          refine lv_iload hx hb dX10_flees_115 (lv_at hl 0 rfl) ?_
          obtain rfl := Option.some.inj hf
          exact fin _ _ _ _ dX10_flees_117 hP hD hS
        have hL47 : ∀ (n47 : Nat), ∀ (l47v4 : Int32) (l47v5 : Int32) (H : Heap) (locs : List Loc) (ls : Array Slot), va_P D vwCl [(a_t, .inr (10, [.ref a_t_roads, .int t_homes, .int t_there, .ref a_t_book, .ref a_t_now, .int t_meetings, .ref a_t_meeting, .int t_sights, .ref a_t_sight, .int t_signs, .ref a_t_pad, .int t_touched, .int t_firstTouch, .int t_reason, .int t_acts, .ref a_t_apart, .ref a_t_rounds, .ref a_t_fewest, .ref a_t_nextFewest, .ref a_t_ways, .ref a_t_nextWays, .ref a_t_counts, .ref a_t_image, .ref a_t_isKept])), (a_t_roads, .inl (cI, 12, .inl t_roads)), (a_t_rounds, .inl (cI, 144, .inl x29))] H → va_D A [(a_t, .inr (10, [.ref a_t_roads, .int t_homes, .int t_there, .ref a_t_book, .ref a_t_now, .int t_meetings, .ref a_t_meeting, .int t_sights, .ref a_t_sight, .int t_signs, .ref a_t_pad, .int t_touched, .int t_firstTouch, .int t_reason, .int t_acts, .ref a_t_apart, .ref a_t_rounds, .ref a_t_fewest, .ref a_t_nextFewest, .ref a_t_ways, .ref a_t_nextWays, .ref a_t_counts, .ref a_t_image, .ref a_t_isKept])), (a_t_roads, .inl (cI, 12, .inl t_roads)), (a_t_rounds, .inl (cI, 144, .inl x29))] → va_S A s.heap H locs → lv_has ls 7 [(0, .ref a_t), (1, .int p1), (2, .int p2), (3, .int x35), (4, .int l47v4), (5, .int l47v5)] → f_X10_flees_L47 t_roads p1 p2 x29 x35 (f_X10_flees_X47 x29) n47 l47v4 l47v5 = some res → W p l e rm_X10_flees s m args below meth c H locs 0 0 Q (F0 m 47 ls []) := by
          intro n47
          induction n47 with
          | zero =>
            intro l47v4 l47v5 H locs ls hP hD hS hl hf
            rw [f_X10_flees_L47] at hf
            cases hf
          | succ n47 ih47 =>
            intro l47v4 l47v5 H locs ls hP hD hS hl hf
            rw [f_X10_flees_L47] at hf
            refine lv_iload hx hb dX10_flees_47 (lv_at hl 5 rfl) ?_
            refine lv_if_lt (tgt := 115) hx hb dX10_flees_49 (by decide) (fun hc => ?_) (fun hc => ?_)
            · replace hf := (if_pos hc).symm.trans hf
              exact hX47 l47v4 _ _ _ hP hD hS (lv_sub hl [4] rfl) hf
            · replace hf := (if_neg hc).symm.trans hf
              refine lv_iload hx hb dX10_flees_52 (lv_at hl 5 rfl) ?_
              refine lv_iload_n hx hb dX10_flees_54 rfl (lv_at hl 2 rfl) ?_
              have hB77 : ∀ (b77s0 : Int32) (H : Heap) (locs : List Loc) (ls : Array Slot), va_P D vwCl [(a_t, .inr (10, [.ref a_t_roads, .int t_homes, .int t_there, .ref a_t_book, .ref a_t_now, .int t_meetings, .ref a_t_meeting, .int t_sights, .ref a_t_sight, .int t_signs, .ref a_t_pad, .int t_touched, .int t_firstTouch, .int t_reason, .int t_acts, .ref a_t_apart, .ref a_t_rounds, .ref a_t_fewest, .ref a_t_nextFewest, .ref a_t_ways, .ref a_t_nextWays, .ref a_t_counts, .ref a_t_image, .ref a_t_isKept])), (a_t_roads, .inl (cI, 12, .inl t_roads)), (a_t_rounds, .inl (cI, 144, .inl x29))] H → va_D A [(a_t, .inr (10, [.ref a_t_roads, .int t_homes, .int t_there, .ref a_t_book, .ref a_t_now, .int t_meetings, .ref a_t_meeting, .int t_sights, .ref a_t_sight, .int t_signs, .ref a_t_pad, .int t_touched, .int t_firstTouch, .int t_reason, .int t_acts, .ref a_t_apart, .ref a_t_rounds, .ref a_t_fewest, .ref a_t_nextFewest, .ref a_t_ways, .ref a_t_nextWays, .ref a_t_counts, .ref a_t_image, .ref a_t_isKept])), (a_t_roads, .inl (cI, 12, .inl t_roads)), (a_t_rounds, .inl (cI, 144, .inl x29))] → va_S A s.heap H locs → lv_has ls 7 [(0, .ref a_t), (1, .int p1), (2, .int p2), (3, .int x35), (4, .int l47v4), (5, .int l47v5)] → f_X10_flees_B77 p1 x29 x35 l47v4 l47v5 (f_X10_flees_L47 t_roads p1 p2 x29 x35 (f_X10_flees_X47 x29) n47) b77s0 = some res → W p l e rm_X10_flees s m args below meth c H locs 0 0 Q (F0 m 77 ls [.int b77s0]) := by
                intro b77s0 H locs ls hP hD hS hl hf
                rw [f_X10_flees_B77] at hf
                refine lv_istore (lv' := [(6, .int b77s0), (0, .ref a_t), (1, .int p1), (2, .int p2), (3, .int x35), (4, .int l47v4), (5, .int l47v5)]) hx hb dX10_flees_77 hl (by decide) rfl (fun ls hl => ?_)
                refine lv_iload hx hb dX10_flees_79 (lv_at hl 0 rfl) ?_
                refine lv_if_eq (tgt := 105) hx hb dX10_flees_81 (by decide) (fun hc => ?_) (fun hc => ?_)
                · replace hf := (if_pos hc).symm.trans hf
                  refine lv_iload hx hb dX10_flees_105 (lv_at hl 5 rfl) ?_
                  refine lv_istore (lv' := [(4, .int l47v4), (6, .int b77s0), (0, .ref a_t), (1, .int p1), (2, .int p2), (3, .int x35), (5, .int l47v5)]) hx hb dX10_flees_107 hl (by decide) rfl (fun ls hl => ?_)
                  refine lv_iinc (v := l47v5 + (-1)) (lv' := [(5, .int (l47v5 + (-1))), (4, .int l47v4), (6, .int b77s0), (0, .ref a_t), (1, .int p1), (2, .int p2), (3, .int x35)]) hx hb dX10_flees_109 hl (k := 6) rfl rfl (by decide) rfl (fun ls hl => ?_)
                  refine lv_goto (tgt := 47) hx hb dX10_flees_112 (by decide) ?_
                  exact ih47 l47v4 (l47v5 + (-1)) _ _ _ hP hD hS (lv_sub hl [3, 4, 5, 6, 1, 0] rfl) hf
                · replace hf := (if_neg hc).symm.trans hf
                  refine lv_aload_n hx hb dX10_flees_84 rfl (lv_at hl 1 rfl) ?_
                  refine va_get (D := D) (ci := 10) (v := .ref a_t_rounds) (C := RX10) (T := TX10) (N := 24) hx hb hts hmsX10 hown hK hP 0 rfl rfl 16 (by decide) hw31 (fun _ h9 => h9) rfl dX10_flees_85 ?_
                  refine lv_bipush (v := 12) hx hb dX10_flees_88 (by decide) ?_
                  refine lv_iload_n hx hb dX10_flees_90 rfl (lv_at hl 2 rfl) ?_
                  refine lv_imul hx hb dX10_flees_91 ?_
                  refine lv_iload hx hb dX10_flees_92 (lv_at hl 6 rfl) ?_
                  refine lv_iadd hx hb dX10_flees_94 ?_
                  obtain ⟨hi95, hf⟩ := ix_if hf
                  refine va_iald (D := D) hx hb hK hP 2 0 rfl rfl hi95 dX10_flees_95 ?_
                  refine lv_iload_n hx hb dX10_flees_96 rfl (lv_at hl 4 rfl) ?_
                  refine lv_icmp_ne (tgt := 105) hx hb dX10_flees_97 (by decide) (fun hc => ?_) (fun hc => ?_)
                  · replace hf := (if_neg hc).symm.trans hf
                    refine lv_iload hx hb dX10_flees_105 (lv_at hl 5 rfl) ?_
                    refine lv_istore (lv' := [(4, .int l47v4), (6, .int b77s0), (0, .ref a_t), (1, .int p1), (2, .int p2), (3, .int x35), (5, .int l47v5)]) hx hb dX10_flees_107 hl (by decide) rfl (fun ls hl => ?_)
                    refine lv_iinc (v := l47v5 + (-1)) (lv' := [(5, .int (l47v5 + (-1))), (4, .int l47v4), (6, .int b77s0), (0, .ref a_t), (1, .int p1), (2, .int p2), (3, .int x35)]) hx hb dX10_flees_109 hl (k := 6) rfl rfl (by decide) rfl (fun ls hl => ?_)
                    refine lv_goto (tgt := 47) hx hb dX10_flees_112 (by decide) ?_
                    exact ih47 l47v4 (l47v5 + (-1)) _ _ _ hP hD hS (lv_sub hl [3, 4, 5, 6, 1, 0] rfl) hf
                  · replace hf := (if_pos hc).symm.trans hf
                    refine lv_iload hx hb dX10_flees_100 (lv_at hl 6 rfl) ?_
                    refine lv_goto (tgt := 107) hx hb dX10_flees_102 (by decide) ?_
                    refine lv_istore (lv' := [(4, .int l47v5), (6, .int b77s0), (0, .ref a_t), (1, .int p1), (2, .int p2), (3, .int x35), (5, .int l47v5)]) hx hb dX10_flees_107 hl (by decide) rfl (fun ls hl => ?_)
                    refine lv_iinc (v := l47v5 + (-1)) (lv' := [(5, .int (l47v5 + (-1))), (4, .int l47v5), (6, .int b77s0), (0, .ref a_t), (1, .int p1), (2, .int p2), (3, .int x35)]) hx hb dX10_flees_109 hl (k := 6) rfl rfl (by decide) rfl (fun ls hl => ?_)
                    refine lv_goto (tgt := 47) hx hb dX10_flees_112 (by decide) ?_
                    exact ih47 l47v5 (l47v5 + (-1)) _ _ _ hP hD hS (lv_sub hl [3, 4, 5, 6, 1, 0] rfl) hf
              have hB72 : ∀ (H : Heap) (locs : List Loc) (ls : Array Slot), va_P D vwCl [(a_t, .inr (10, [.ref a_t_roads, .int t_homes, .int t_there, .ref a_t_book, .ref a_t_now, .int t_meetings, .ref a_t_meeting, .int t_sights, .ref a_t_sight, .int t_signs, .ref a_t_pad, .int t_touched, .int t_firstTouch, .int t_reason, .int t_acts, .ref a_t_apart, .ref a_t_rounds, .ref a_t_fewest, .ref a_t_nextFewest, .ref a_t_ways, .ref a_t_nextWays, .ref a_t_counts, .ref a_t_image, .ref a_t_isKept])), (a_t_roads, .inl (cI, 12, .inl t_roads)), (a_t_rounds, .inl (cI, 144, .inl x29))] H → va_D A [(a_t, .inr (10, [.ref a_t_roads, .int t_homes, .int t_there, .ref a_t_book, .ref a_t_now, .int t_meetings, .ref a_t_meeting, .int t_sights, .ref a_t_sight, .int t_signs, .ref a_t_pad, .int t_touched, .int t_firstTouch, .int t_reason, .int t_acts, .ref a_t_apart, .ref a_t_rounds, .ref a_t_fewest, .ref a_t_nextFewest, .ref a_t_ways, .ref a_t_nextWays, .ref a_t_counts, .ref a_t_image, .ref a_t_isKept])), (a_t_roads, .inl (cI, 12, .inl t_roads)), (a_t_rounds, .inl (cI, 144, .inl x29))] → va_S A s.heap H locs → lv_has ls 7 [(0, .ref a_t), (1, .int p1), (2, .int p2), (3, .int x35), (4, .int l47v4), (5, .int l47v5)] → f_X10_flees_B72 p1 x29 x35 l47v4 l47v5 (f_X10_flees_L47 t_roads p1 p2 x29 x35 (f_X10_flees_X47 x29) n47) = some res → W p l e rm_X10_flees s m args below meth c H locs 0 0 Q (F0 m 72 ls []) := by
                intro  H locs ls hP hD hS hl hf
                rw [f_X10_flees_B72] at hf
                refine lv_iconst (v := 1) hx hb dX10_flees_72 (by decide) ?_
                refine lv_goto (tgt := 77) hx hb dX10_flees_73 (by decide) ?_
                exact hB77 (1 : Int32) _ _ _ hP hD hS (lv_sub hl [0, 1, 2, 3, 4, 5] rfl) hf
              refine lv_icmp_eq (tgt := 72) hx hb dX10_flees_55 (by decide) (fun hc => ?_) (fun hc => ?_)
              · replace hf := (if_pos hc).symm.trans hf
                exact hB72 _ _ _ hP hD hS (lv_sub hl [0, 1, 2, 3, 4, 5] rfl) hf
              · replace hf := (if_neg hc).symm.trans hf
                refine lv_aload_n hx hb dX10_flees_58 rfl (lv_at hl 0 rfl) ?_
                refine va_get (D := D) (ci := 10) (v := .ref a_t_roads) (C := RX10) (T := TX10) (N := 24) hx hb hts hmsX10 hown hK hP 0 rfl rfl 0 (by decide) hw7 (fun _ h9 => h9) rfl dX10_flees_59 ?_
                refine lv_iload_n hx hb dX10_flees_62 rfl (lv_at hl 2 rfl) ?_
                obtain ⟨hi63, hf⟩ := ix_if hf
                refine va_iald (D := D) hx hb hK hP 1 0 rfl rfl hi63 dX10_flees_63 ?_
                refine lv_iload hx hb dX10_flees_64 (lv_at hl 5 rfl) ?_
                obtain ⟨x66, hx66, hf⟩ := bd_if hf
                refine cs_i (wr := [(a_t, .inr (10, [.ref a_t_roads, .int t_homes, .int t_there, .ref a_t_book, .ref a_t_now, .int t_meetings, .ref a_t_meeting, .int t_sights, .ref a_t_sight, .int t_signs, .ref a_t_pad, .int t_touched, .int t_firstTouch, .int t_reason, .int t_acts, .ref a_t_apart, .ref a_t_rounds, .ref a_t_fewest, .ref a_t_nextFewest, .ref a_t_ways, .ref a_t_nextWays, .ref a_t_counts, .ref a_t_image, .ref a_t_isKept])), (a_t_roads, .inl (cI, 12, .inl t_roads)), (a_t_rounds, .inl (cI, 144, .inl x29))]) (ws' := [(a_t, .inr (10, [.ref a_t_roads, .int t_homes, .int t_there, .ref a_t_book, .ref a_t_now, .int t_meetings, .ref a_t_meeting, .int t_sights, .ref a_t_sight, .int t_signs, .ref a_t_pad, .int t_touched, .int t_firstTouch, .int t_reason, .int t_acts, .ref a_t_apart, .ref a_t_rounds, .ref a_t_fewest, .ref a_t_nextFewest, .ref a_t_ways, .ref a_t_nextWays, .ref a_t_counts, .ref a_t_image, .ref a_t_isKept])), (a_t_roads, .inl (cI, 12, .inl t_roads)), (a_t_rounds, .inl (cI, 144, .inl x29))]) ⟨hx, hb, hml, hown, hts⟩ hcw69 hK hN hP hD hS hA (c_X10_has l D cI cJ cZ cO _ (t_roads p2.toNatClampNeg) l47v5 x66 hx66) [] [0, 1, 2] [0, 1, 2] rfl rfl rfl rfl (by decide) rfl rfl rfl hl.1 rfl (Nat.le_of_ble_eq_true rfl) dX10_flees_66 ⟨Nat.zero_le _, Nat.zero_le _⟩ (fun H locs hP hD hS => ?_)
                refine lv_if_eq (tgt := 76) hx hb dX10_flees_69 (by decide) (fun hc => ?_) (fun hc => ?_)
                · replace hf := (if_pos hc).symm.trans hf
                  refine lv_iconst (v := 0) hx hb dX10_flees_76 (by decide) ?_
                  exact hB77 (0 : Int32) _ _ _ hP hD hS (lv_sub hl [0, 1, 2, 3, 4, 5] rfl) hf
                · replace hf := (if_neg hc).symm.trans hf
                  exact hB72 _ _ _ hP hD hS (lv_sub hl [0, 1, 2, 3, 4, 5] rfl) hf
        exact hL47 5000 (-6 : Int32) (11 : Int32) _ _ _ hP hD hS (lv_sub hl [3, 4, 5, 2, 1, 0] rfl) hf
      · replace hf := (if_neg hc).symm.trans hf
        refine lv_bipush (v := -6) hx hb dX10_flees_25 (by decide) ?_
        obtain rfl := Option.some.inj hf
        exact fin _ _ _ _ dX10_flees_27 hP hD hS
    · replace hf := (if_pos hc).symm.trans hf
      refine lv_iconst (v := -1) hx hb dX10_flees_14 (by decide) ?_
      obtain rfl := Option.some.inj hf
      exact fin _ _ _ _ dX10_flees_15 hP hD hS
abbrev rm_X10_shade : Room := { frames := 2, cells := 0, slots := 0, locals := 45 }
theorem ms_X10_shade_X10 : ∀ w ∈ u_ws RX10 TX10 24, w ∈ wsX10_shade := fun w h => List.mem_cons_of_mem _ (List.mem_append_right _ (h))
set_option maxHeartbeats 4000000 in
set_option maxRecDepth 100000 in
theorem c_X10_shade (l : Launch) (D : va_G) (cI cJ cZ cO : ClassId) (sz : Nat) (a_t : Nat) (a_t_roads : Nat) (a_t_book : Nat) (a_t_now : Nat) (a_t_meeting : Nat) (a_t_sight : Nat) (a_t_pad : Nat) (a_t_apart : Nat) (a_t_rounds : Nat) (a_t_fewest : Nat) (a_t_nextFewest : Nat) (a_t_ways : Nat) (a_t_nextWays : Nat) (a_t_counts : Nat) (a_t_image : Nat) (a_t_isKept : Nat) (t_homes : Int32) (t_there : Int32) (t_meetings : Int32) (t_sights : Int32) (t_signs : Int32) (t_touched : Int32) (t_firstTouch : Int32) (t_reason : Int32) (t_acts : Int32) (t_roads : Nat → Int32) (t_apart : Nat → Int32) (p1 : Int32) (p2 : Int32) (res : Int32 × (Nat → Int32)) (hf : f_X10_shade t_roads t_apart p1 p2 = some res) : MetI l yX10_shade wsX10_shade rm_X10_shade [.ref a_t, .int p1, .int p2] D (tys4 cI cJ cZ cO) [(a_t, .inr (10, [.ref a_t_roads, .int t_homes, .int t_there, .ref a_t_book, .ref a_t_now, .int t_meetings, .ref a_t_meeting, .int t_sights, .ref a_t_sight, .int t_signs, .ref a_t_pad, .int t_touched, .int t_firstTouch, .int t_reason, .int t_acts, .ref a_t_apart, .ref a_t_rounds, .ref a_t_fewest, .ref a_t_nextFewest, .ref a_t_ways, .ref a_t_nextWays, .ref a_t_counts, .ref a_t_image, .ref a_t_isKept])), (a_t_roads, .inl (cI, 12, .inl t_roads)), (a_t_apart, .inl (cI, 144, .inl t_apart))] sz res.1 [(a_t, .inr (10, [.ref a_t_roads, .int t_homes, .int t_there, .ref a_t_book, .ref a_t_now, .int t_meetings, .ref a_t_meeting, .int t_sights, .ref a_t_sight, .int t_signs, .ref a_t_pad, .int t_touched, .int t_firstTouch, .int t_reason, .int t_acts, .ref a_t_apart, .ref a_t_rounds, .ref a_t_fewest, .ref a_t_nextFewest, .ref a_t_ways, .ref a_t_nextWays, .ref a_t_counts, .ref a_t_image, .ref a_t_isKept])), (a_t_roads, .inl (cI, 12, .inl t_roads)), (a_t_apart, .inl (cI, 144, .inl res.2))] := by
  refine met_i (cc := cX10_shade) (maxL := 9) (by decide) rfl (Nat.le_of_ble_eq_true rfl) ?_
  intro p e s m args below meth c Q A hx hb hml hown hts hK hN hA fin H locs ls hP hD hS hl
  replace hown : s.vm.findClass RX10 = some m.cls := hown
  replace hl : lv_has ls 9 [(0, .ref a_t), (1, .int p1), (2, .int p2)] := hl
  rw [f_X10_shade] at hf
  have hcw57 := va_cwS (R := rm_X10_shade) (rm := rm_X10_in) 3 hts gX10_shade_X10_in rfl rfl rfl (by decide +kernel) ⟨Nat.le_of_ble_eq_true rfl, Nat.le_of_ble_eq_true rfl⟩
  have hcw134 := cwV (R := rm_X10_shade) (rm := rm_X10_layFar) 0 hts gX10_shade_X10_layFar rfl rfl rfl (by decide +kernel) ⟨Nat.le_of_ble_eq_true rfl, Nat.le_of_ble_eq_true rfl⟩
  have hcw76 := va_cwS (R := rm_X10_shade) (rm := rm_X10_bits) 1 hts gX10_shade_X10_bits rfl rfl rfl (by decide +kernel) ⟨Nat.le_of_ble_eq_true rfl, Nat.le_of_ble_eq_true rfl⟩
  have hcw69 := va_cwS (R := rm_X10_shade) (rm := rm_X10_has) 2 hts gX10_shade_X10_has rfl rfl rfl (by decide +kernel) ⟨Nat.le_of_ble_eq_true rfl, Nat.le_of_ble_eq_true rfl⟩
  have hw28 := hts (.fieldLink RX10 28 "TouchReignModel" "apart" "[I") (by decide +kernel)
  have hmsX10 := ms_X10_shade_X10
  refine lv_iload_n hx hb dX10_shade_0 rfl (lv_at hl 1 rfl) ?_
  refine lv_iconst (v := 0) hx hb dX10_shade_1 (by decide) ?_
  refine lv_bipush (v := 11) hx hb dX10_shade_2 (by decide) ?_
  obtain ⟨x4, hx4, hf⟩ := bd_if hf
  refine cs_i (wr := [(a_t, .inr (10, [.ref a_t_roads, .int t_homes, .int t_there, .ref a_t_book, .ref a_t_now, .int t_meetings, .ref a_t_meeting, .int t_sights, .ref a_t_sight, .int t_signs, .ref a_t_pad, .int t_touched, .int t_firstTouch, .int t_reason, .int t_acts, .ref a_t_apart, .ref a_t_rounds, .ref a_t_fewest, .ref a_t_nextFewest, .ref a_t_ways, .ref a_t_nextWays, .ref a_t_counts, .ref a_t_image, .ref a_t_isKept])), (a_t_roads, .inl (cI, 12, .inl t_roads)), (a_t_apart, .inl (cI, 144, .inl t_apart))]) (ws' := [(a_t, .inr (10, [.ref a_t_roads, .int t_homes, .int t_there, .ref a_t_book, .ref a_t_now, .int t_meetings, .ref a_t_meeting, .int t_sights, .ref a_t_sight, .int t_signs, .ref a_t_pad, .int t_touched, .int t_firstTouch, .int t_reason, .int t_acts, .ref a_t_apart, .ref a_t_rounds, .ref a_t_fewest, .ref a_t_nextFewest, .ref a_t_ways, .ref a_t_nextWays, .ref a_t_counts, .ref a_t_image, .ref a_t_isKept])), (a_t_roads, .inl (cI, 12, .inl t_roads)), (a_t_apart, .inl (cI, 144, .inl t_apart))]) ⟨hx, hb, hml, hown, hts⟩ hcw57 hK hN hP hD hS hA (c_X10_in l D cI cJ cZ cO _ p1 (0 : Int32) (11 : Int32) x4 hx4) [] [0, 1, 2] [0, 1, 2] rfl rfl rfl rfl (by decide) rfl rfl rfl hl.1 rfl (Nat.le_of_ble_eq_true rfl) dX10_shade_4 ⟨Nat.zero_le _, Nat.zero_le _⟩ (fun H locs hP hD hS => ?_)
  refine lv_if_eq (tgt := 19) hx hb dX10_shade_7 (by decide) (fun hc => ?_) (fun hc => ?_)
  · replace hf := (if_pos hc).symm.trans hf
    refine lv_bipush (v := -2) hx hb dX10_shade_19 (by decide) ?_
    obtain rfl := Option.some.inj hf
    exact fin _ _ _ _ dX10_shade_21 hP hD hS
  · replace hf := (if_neg hc).symm.trans hf
    refine lv_iload_n hx hb dX10_shade_10 rfl (lv_at hl 2 rfl) ?_
    refine lv_iconst (v := 0) hx hb dX10_shade_11 (by decide) ?_
    refine lv_iconst (v := 1) hx hb dX10_shade_12 (by decide) ?_
    obtain ⟨x13, hx13, hf⟩ := bd_if hf
    refine cs_i (wr := [(a_t, .inr (10, [.ref a_t_roads, .int t_homes, .int t_there, .ref a_t_book, .ref a_t_now, .int t_meetings, .ref a_t_meeting, .int t_sights, .ref a_t_sight, .int t_signs, .ref a_t_pad, .int t_touched, .int t_firstTouch, .int t_reason, .int t_acts, .ref a_t_apart, .ref a_t_rounds, .ref a_t_fewest, .ref a_t_nextFewest, .ref a_t_ways, .ref a_t_nextWays, .ref a_t_counts, .ref a_t_image, .ref a_t_isKept])), (a_t_roads, .inl (cI, 12, .inl t_roads)), (a_t_apart, .inl (cI, 144, .inl t_apart))]) (ws' := [(a_t, .inr (10, [.ref a_t_roads, .int t_homes, .int t_there, .ref a_t_book, .ref a_t_now, .int t_meetings, .ref a_t_meeting, .int t_sights, .ref a_t_sight, .int t_signs, .ref a_t_pad, .int t_touched, .int t_firstTouch, .int t_reason, .int t_acts, .ref a_t_apart, .ref a_t_rounds, .ref a_t_fewest, .ref a_t_nextFewest, .ref a_t_ways, .ref a_t_nextWays, .ref a_t_counts, .ref a_t_image, .ref a_t_isKept])), (a_t_roads, .inl (cI, 12, .inl t_roads)), (a_t_apart, .inl (cI, 144, .inl t_apart))]) ⟨hx, hb, hml, hown, hts⟩ hcw57 hK hN hP hD hS hA (c_X10_in l D cI cJ cZ cO _ p2 (0 : Int32) (1 : Int32) x13 hx13) [] [0, 1, 2] [0, 1, 2] rfl rfl rfl rfl (by decide) rfl rfl rfl hl.1 rfl (Nat.le_of_ble_eq_true rfl) dX10_shade_13 ⟨Nat.zero_le _, Nat.zero_le _⟩ (fun H locs hP hD hS => ?_)
    refine lv_if_ne (tgt := 22) hx hb dX10_shade_16 (by decide) (fun hc => ?_) (fun hc => ?_)
    · replace hf := (if_neg hc).symm.trans hf
      refine lv_aload_n hx hb dX10_shade_22 rfl (lv_at hl 0 rfl) ?_
      obtain ⟨x23, hx23, hf⟩ := bd_if hf
      refine cv_v (wr := []) (ws' := [(a_t, .inr (10, [.ref a_t_roads, .int t_homes, .int t_there, .ref a_t_book, .ref a_t_now, .int t_meetings, .ref a_t_meeting, .int t_sights, .ref a_t_sight, .int t_signs, .ref a_t_pad, .int t_touched, .int t_firstTouch, .int t_reason, .int t_acts, .ref a_t_apart, .ref a_t_rounds, .ref a_t_fewest, .ref a_t_nextFewest, .ref a_t_ways, .ref a_t_nextWays, .ref a_t_counts, .ref a_t_image, .ref a_t_isKept])), (a_t_roads, .inl (cI, 12, .inl t_roads)), (a_t_apart, .inl (cI, 144, .inl x23))]) ⟨hx, hb, hml, hown, hts⟩ hcw134 hK hN hP hD hS hA (c_X10_layFar l D cI cJ cZ cO _ a_t a_t_roads a_t_book a_t_now a_t_meeting a_t_sight a_t_pad a_t_apart a_t_rounds a_t_fewest a_t_nextFewest a_t_ways a_t_nextWays a_t_counts a_t_image a_t_isKept t_homes t_there t_meetings t_sights t_signs t_touched t_firstTouch t_reason t_acts t_roads t_apart x23 hx23) (q := (RX10, TX10, 24)) (ci := 10) (q0 := 0) rfl rfl [0, 1, 2] [] [0, 1, 2] rfl rfl rfl rfl (by decide) rfl rfl rfl hl.1 rfl (Nat.le_of_ble_eq_true rfl) dX10_shade_23 ⟨Nat.zero_le _, Nat.zero_le _⟩ (fun H locs hP hD hS => ?_)
      refine lv_sipush (v := 4095) hx hb dX10_shade_26 (by decide) ?_
      refine lv_istore_n (lv' := [(3, .int (4095 : Int32)), (0, .ref a_t), (1, .int p1), (2, .int p2)]) hx hb dX10_shade_29 rfl hl (by decide) rfl (fun ls hl => ?_)
      refine lv_iconst (v := 0) hx hb dX10_shade_30 (by decide) ?_
      refine lv_istore (lv' := [(4, .int (0 : Int32)), (3, .int (4095 : Int32)), (0, .ref a_t), (1, .int p1), (2, .int p2)]) hx hb dX10_shade_31 hl (by decide) rfl (fun ls hl => ?_)
      have hX33 : ∀ (x33v3 : Int32) (H : Heap) (locs : List Loc) (ls : Array Slot), va_P D vwCl [(a_t, .inr (10, [.ref a_t_roads, .int t_homes, .int t_there, .ref a_t_book, .ref a_t_now, .int t_meetings, .ref a_t_meeting, .int t_sights, .ref a_t_sight, .int t_signs, .ref a_t_pad, .int t_touched, .int t_firstTouch, .int t_reason, .int t_acts, .ref a_t_apart, .ref a_t_rounds, .ref a_t_fewest, .ref a_t_nextFewest, .ref a_t_ways, .ref a_t_nextWays, .ref a_t_counts, .ref a_t_image, .ref a_t_isKept])), (a_t_roads, .inl (cI, 12, .inl t_roads)), (a_t_apart, .inl (cI, 144, .inl x23))] H → va_D A [(a_t, .inr (10, [.ref a_t_roads, .int t_homes, .int t_there, .ref a_t_book, .ref a_t_now, .int t_meetings, .ref a_t_meeting, .int t_sights, .ref a_t_sight, .int t_signs, .ref a_t_pad, .int t_touched, .int t_firstTouch, .int t_reason, .int t_acts, .ref a_t_apart, .ref a_t_rounds, .ref a_t_fewest, .ref a_t_nextFewest, .ref a_t_ways, .ref a_t_nextWays, .ref a_t_counts, .ref a_t_image, .ref a_t_isKept])), (a_t_roads, .inl (cI, 12, .inl t_roads)), (a_t_apart, .inl (cI, 144, .inl x23))] → va_S A s.heap H locs → lv_has ls 9 [(2, .int p2), (3, .int x33v3)] → f_X10_shade_X33 p2 x23 x33v3 = some res → W p l e rm_X10_shade s m args below meth c H locs 0 0 Q (F0 m 161 ls []) := by
        intro x33v3 H locs ls hP hD hS hl hf
        rw [f_X10_shade_X33] at hf
        refine lv_iload_n hx hb dX10_shade_161 rfl (lv_at hl 0 rfl) ?_
        refine lv_iconst (v := 1) hx hb dX10_shade_162 (by decide) ?_
        refine lv_icmp_ne (tgt := 170) hx hb dX10_shade_163 (by decide) (fun hc => ?_) (fun hc => ?_)
        · replace hf := (if_neg hc).symm.trans hf
          refine lv_iload_n hx hb dX10_shade_170 rfl (lv_at hl 1 rfl) ?_
          obtain ⟨x171, hx171, hf⟩ := bd_if hf
          refine cs_i (wr := [(a_t, .inr (10, [.ref a_t_roads, .int t_homes, .int t_there, .ref a_t_book, .ref a_t_now, .int t_meetings, .ref a_t_meeting, .int t_sights, .ref a_t_sight, .int t_signs, .ref a_t_pad, .int t_touched, .int t_firstTouch, .int t_reason, .int t_acts, .ref a_t_apart, .ref a_t_rounds, .ref a_t_fewest, .ref a_t_nextFewest, .ref a_t_ways, .ref a_t_nextWays, .ref a_t_counts, .ref a_t_image, .ref a_t_isKept])), (a_t_roads, .inl (cI, 12, .inl t_roads)), (a_t_apart, .inl (cI, 144, .inl x23))]) (ws' := [(a_t, .inr (10, [.ref a_t_roads, .int t_homes, .int t_there, .ref a_t_book, .ref a_t_now, .int t_meetings, .ref a_t_meeting, .int t_sights, .ref a_t_sight, .int t_signs, .ref a_t_pad, .int t_touched, .int t_firstTouch, .int t_reason, .int t_acts, .ref a_t_apart, .ref a_t_rounds, .ref a_t_fewest, .ref a_t_nextFewest, .ref a_t_ways, .ref a_t_nextWays, .ref a_t_counts, .ref a_t_image, .ref a_t_isKept])), (a_t_roads, .inl (cI, 12, .inl t_roads)), (a_t_apart, .inl (cI, 144, .inl x23))]) ⟨hx, hb, hml, hown, hts⟩ hcw76 hK hN hP hD hS hA (c_X10_bits l D cI cJ cZ cO _ x33v3 x171 hx171) [] [0, 1, 2] [0, 1, 2] rfl rfl rfl rfl (by decide) rfl rfl rfl hl.1 rfl (Nat.le_of_ble_eq_true rfl) dX10_shade_171 ⟨Nat.zero_le _, Nat.zero_le _⟩ (fun H locs hP hD hS => ?_)
          obtain rfl := Option.some.inj hf
          exact fin _ _ _ _ dX10_shade_174 hP hD hS
        · replace hf := (if_pos hc).symm.trans hf
          refine lv_iload_n hx hb dX10_shade_166 rfl (lv_at hl 1 rfl) ?_
          refine lv_goto (tgt := 174) hx hb dX10_shade_167 (by decide) ?_
          obtain rfl := Option.some.inj hf
          exact fin _ _ _ _ dX10_shade_174 hP hD hS
      have hL33 : ∀ (n33 : Nat), ∀ (l33v3 : Int32) (l33v4 : Int32) (H : Heap) (locs : List Loc) (ls : Array Slot), va_P D vwCl [(a_t, .inr (10, [.ref a_t_roads, .int t_homes, .int t_there, .ref a_t_book, .ref a_t_now, .int t_meetings, .ref a_t_meeting, .int t_sights, .ref a_t_sight, .int t_signs, .ref a_t_pad, .int t_touched, .int t_firstTouch, .int t_reason, .int t_acts, .ref a_t_apart, .ref a_t_rounds, .ref a_t_fewest, .ref a_t_nextFewest, .ref a_t_ways, .ref a_t_nextWays, .ref a_t_counts, .ref a_t_image, .ref a_t_isKept])), (a_t_roads, .inl (cI, 12, .inl t_roads)), (a_t_apart, .inl (cI, 144, .inl x23))] H → va_D A [(a_t, .inr (10, [.ref a_t_roads, .int t_homes, .int t_there, .ref a_t_book, .ref a_t_now, .int t_meetings, .ref a_t_meeting, .int t_sights, .ref a_t_sight, .int t_signs, .ref a_t_pad, .int t_touched, .int t_firstTouch, .int t_reason, .int t_acts, .ref a_t_apart, .ref a_t_rounds, .ref a_t_fewest, .ref a_t_nextFewest, .ref a_t_ways, .ref a_t_nextWays, .ref a_t_counts, .ref a_t_image, .ref a_t_isKept])), (a_t_roads, .inl (cI, 12, .inl t_roads)), (a_t_apart, .inl (cI, 144, .inl x23))] → va_S A s.heap H locs → lv_has ls 9 [(0, .ref a_t), (1, .int p1), (2, .int p2), (3, .int l33v3), (4, .int l33v4)] → f_X10_shade_L33 p1 x23 (f_X10_shade_X33 p2 x23) n33 l33v3 l33v4 = some res → W p l e rm_X10_shade s m args below meth c H locs 0 0 Q (F0 m 33 ls []) := by
        intro n33
        induction n33 with
        | zero =>
          intro l33v3 l33v4 H locs ls hP hD hS hl hf
          rw [f_X10_shade_L33] at hf
          cases hf
        | succ n33 ih33 =>
          intro l33v3 l33v4 H locs ls hP hD hS hl hf
          rw [f_X10_shade_L33] at hf
          refine lv_iload hx hb dX10_shade_33 (lv_at hl 4 rfl) ?_
          refine lv_sipush (v := 4096) hx hb dX10_shade_35 (by decide) ?_
          refine lv_icmp_ge (tgt := 161) hx hb dX10_shade_38 (by decide) (fun hc => ?_) (fun hc => ?_)
          · replace hf := (if_pos hc).symm.trans hf
            exact hX33 l33v3 _ _ _ hP hD hS (lv_sub hl [2, 3] rfl) hf
          · replace hf := (if_neg hc).symm.trans hf
            refine lv_iload hx hb dX10_shade_41 (lv_at hl 4 rfl) ?_
            obtain ⟨x43, hx43, hf⟩ := bd_if hf
            refine cs_i (wr := [(a_t, .inr (10, [.ref a_t_roads, .int t_homes, .int t_there, .ref a_t_book, .ref a_t_now, .int t_meetings, .ref a_t_meeting, .int t_sights, .ref a_t_sight, .int t_signs, .ref a_t_pad, .int t_touched, .int t_firstTouch, .int t_reason, .int t_acts, .ref a_t_apart, .ref a_t_rounds, .ref a_t_fewest, .ref a_t_nextFewest, .ref a_t_ways, .ref a_t_nextWays, .ref a_t_counts, .ref a_t_image, .ref a_t_isKept])), (a_t_roads, .inl (cI, 12, .inl t_roads)), (a_t_apart, .inl (cI, 144, .inl x23))]) (ws' := [(a_t, .inr (10, [.ref a_t_roads, .int t_homes, .int t_there, .ref a_t_book, .ref a_t_now, .int t_meetings, .ref a_t_meeting, .int t_sights, .ref a_t_sight, .int t_signs, .ref a_t_pad, .int t_touched, .int t_firstTouch, .int t_reason, .int t_acts, .ref a_t_apart, .ref a_t_rounds, .ref a_t_fewest, .ref a_t_nextFewest, .ref a_t_ways, .ref a_t_nextWays, .ref a_t_counts, .ref a_t_image, .ref a_t_isKept])), (a_t_roads, .inl (cI, 12, .inl t_roads)), (a_t_apart, .inl (cI, 144, .inl x23))]) ⟨hx, hb, hml, hown, hts⟩ hcw76 hK hN hP hD hS hA (c_X10_bits l D cI cJ cZ cO _ l33v4 x43 hx43) [] [0, 1, 2] [0, 1, 2] rfl rfl rfl rfl (by decide) rfl rfl rfl hl.1 rfl (Nat.le_of_ble_eq_true rfl) dX10_shade_43 ⟨Nat.zero_le _, Nat.zero_le _⟩ (fun H locs hP hD hS => ?_)
            refine lv_iload_n hx hb dX10_shade_46 rfl (lv_at hl 3 rfl) ?_
            obtain ⟨x47, hx47, hf⟩ := bd_if hf
            refine cs_i (wr := [(a_t, .inr (10, [.ref a_t_roads, .int t_homes, .int t_there, .ref a_t_book, .ref a_t_now, .int t_meetings, .ref a_t_meeting, .int t_sights, .ref a_t_sight, .int t_signs, .ref a_t_pad, .int t_touched, .int t_firstTouch, .int t_reason, .int t_acts, .ref a_t_apart, .ref a_t_rounds, .ref a_t_fewest, .ref a_t_nextFewest, .ref a_t_ways, .ref a_t_nextWays, .ref a_t_counts, .ref a_t_image, .ref a_t_isKept])), (a_t_roads, .inl (cI, 12, .inl t_roads)), (a_t_apart, .inl (cI, 144, .inl x23))]) (ws' := [(a_t, .inr (10, [.ref a_t_roads, .int t_homes, .int t_there, .ref a_t_book, .ref a_t_now, .int t_meetings, .ref a_t_meeting, .int t_sights, .ref a_t_sight, .int t_signs, .ref a_t_pad, .int t_touched, .int t_firstTouch, .int t_reason, .int t_acts, .ref a_t_apart, .ref a_t_rounds, .ref a_t_fewest, .ref a_t_nextFewest, .ref a_t_ways, .ref a_t_nextWays, .ref a_t_counts, .ref a_t_image, .ref a_t_isKept])), (a_t_roads, .inl (cI, 12, .inl t_roads)), (a_t_apart, .inl (cI, 144, .inl x23))]) ⟨hx, hb, hml, hown, hts⟩ hcw76 hK hN hP hD hS hA (c_X10_bits l D cI cJ cZ cO _ l33v3 x47 hx47) [] [0, 1, 2] [0, 1, 2] rfl rfl rfl rfl (by decide) rfl rfl rfl hl.1 rfl (Nat.le_of_ble_eq_true rfl) dX10_shade_47 ⟨Nat.zero_le _, Nat.zero_le _⟩ (fun H locs hP hD hS => ?_)
            have hB58 : ∀ (b58s0 : Int32) (H : Heap) (locs : List Loc) (ls : Array Slot), va_P D vwCl [(a_t, .inr (10, [.ref a_t_roads, .int t_homes, .int t_there, .ref a_t_book, .ref a_t_now, .int t_meetings, .ref a_t_meeting, .int t_sights, .ref a_t_sight, .int t_signs, .ref a_t_pad, .int t_touched, .int t_firstTouch, .int t_reason, .int t_acts, .ref a_t_apart, .ref a_t_rounds, .ref a_t_fewest, .ref a_t_nextFewest, .ref a_t_ways, .ref a_t_nextWays, .ref a_t_counts, .ref a_t_image, .ref a_t_isKept])), (a_t_roads, .inl (cI, 12, .inl t_roads)), (a_t_apart, .inl (cI, 144, .inl x23))] H → va_D A [(a_t, .inr (10, [.ref a_t_roads, .int t_homes, .int t_there, .ref a_t_book, .ref a_t_now, .int t_meetings, .ref a_t_meeting, .int t_sights, .ref a_t_sight, .int t_signs, .ref a_t_pad, .int t_touched, .int t_firstTouch, .int t_reason, .int t_acts, .ref a_t_apart, .ref a_t_rounds, .ref a_t_fewest, .ref a_t_nextFewest, .ref a_t_ways, .ref a_t_nextWays, .ref a_t_counts, .ref a_t_image, .ref a_t_isKept])), (a_t_roads, .inl (cI, 12, .inl t_roads)), (a_t_apart, .inl (cI, 144, .inl x23))] → va_S A s.heap H locs → lv_has ls 9 [(0, .ref a_t), (1, .int p1), (2, .int p2), (3, .int l33v3), (4, .int l33v4)] → f_X10_shade_B58 p1 x23 l33v3 l33v4 (f_X10_shade_L33 p1 x23 (f_X10_shade_X33 p2 x23) n33) b58s0 = some res → W p l e rm_X10_shade s m args below meth c H locs 0 0 Q (F0 m 58 ls [.int b58s0]) := by
              intro b58s0 H locs ls hP hD hS hl hf
              rw [f_X10_shade_B58] at hf
              refine lv_istore (lv' := [(5, .int b58s0), (0, .ref a_t), (1, .int p1), (2, .int p2), (3, .int l33v3), (4, .int l33v4)]) hx hb dX10_shade_58 hl (by decide) rfl (fun ls hl => ?_)
              refine lv_iconst (v := 0) hx hb dX10_shade_60 (by decide) ?_
              refine lv_istore (lv' := [(6, .int (0 : Int32)), (5, .int b58s0), (0, .ref a_t), (1, .int p1), (2, .int p2), (3, .int l33v3), (4, .int l33v4)]) hx hb dX10_shade_61 hl (by decide) rfl (fun ls hl => ?_)
              have hX63 : ∀ (x63v5 : Int32) (H : Heap) (locs : List Loc) (ls : Array Slot), va_P D vwCl [(a_t, .inr (10, [.ref a_t_roads, .int t_homes, .int t_there, .ref a_t_book, .ref a_t_now, .int t_meetings, .ref a_t_meeting, .int t_sights, .ref a_t_sight, .int t_signs, .ref a_t_pad, .int t_touched, .int t_firstTouch, .int t_reason, .int t_acts, .ref a_t_apart, .ref a_t_rounds, .ref a_t_fewest, .ref a_t_nextFewest, .ref a_t_ways, .ref a_t_nextWays, .ref a_t_counts, .ref a_t_image, .ref a_t_isKept])), (a_t_roads, .inl (cI, 12, .inl t_roads)), (a_t_apart, .inl (cI, 144, .inl x23))] H → va_D A [(a_t, .inr (10, [.ref a_t_roads, .int t_homes, .int t_there, .ref a_t_book, .ref a_t_now, .int t_meetings, .ref a_t_meeting, .int t_sights, .ref a_t_sight, .int t_signs, .ref a_t_pad, .int t_touched, .int t_firstTouch, .int t_reason, .int t_acts, .ref a_t_apart, .ref a_t_rounds, .ref a_t_fewest, .ref a_t_nextFewest, .ref a_t_ways, .ref a_t_nextWays, .ref a_t_counts, .ref a_t_image, .ref a_t_isKept])), (a_t_roads, .inl (cI, 12, .inl t_roads)), (a_t_apart, .inl (cI, 144, .inl x23))] → va_S A s.heap H locs → lv_has ls 9 [(0, .ref a_t), (1, .int p1), (2, .int p2), (3, .int l33v3), (4, .int l33v4), (5, .int x63v5)] → f_X10_shade_X63 l33v3 l33v4 (f_X10_shade_L33 p1 x23 (f_X10_shade_X33 p2 x23) n33) x63v5 = some res → W p l e rm_X10_shade s m args below meth c H locs 0 0 Q (F0 m 143 ls []) := by
                intro x63v5 H locs ls hP hD hS hl hf
                rw [f_X10_shade_X63] at hf
                refine lv_iload hx hb dX10_shade_143 (lv_at hl 5 rfl) ?_
                refine lv_if_eq (tgt := 153) hx hb dX10_shade_145 (by decide) (fun hc => ?_) (fun hc => ?_)
                · replace hf := (if_pos hc).symm.trans hf
                  refine lv_iload_n hx hb dX10_shade_153 rfl (lv_at hl 3 rfl) ?_
                  refine lv_istore_n (lv' := [(3, .int l33v3), (0, .ref a_t), (1, .int p1), (2, .int p2), (4, .int l33v4), (5, .int x63v5)]) hx hb dX10_shade_154 rfl hl (by decide) rfl (fun ls hl => ?_)
                  refine lv_iinc (v := l33v4 + 1) (lv' := [(4, .int (l33v4 + 1)), (3, .int l33v3), (0, .ref a_t), (1, .int p1), (2, .int p2), (5, .int x63v5)]) hx hb dX10_shade_155 hl (k := 4) rfl rfl (by decide) rfl (fun ls hl => ?_)
                  refine lv_goto (tgt := 33) hx hb dX10_shade_158 (by decide) ?_
                  exact ih33 l33v3 (l33v4 + 1) _ _ _ hP hD hS (lv_sub hl [2, 3, 4, 1, 0] rfl) hf
                · replace hf := (if_neg hc).symm.trans hf
                  refine lv_iload hx hb dX10_shade_148 (lv_at hl 4 rfl) ?_
                  refine lv_goto (tgt := 154) hx hb dX10_shade_150 (by decide) ?_
                  refine lv_istore_n (lv' := [(3, .int l33v4), (0, .ref a_t), (1, .int p1), (2, .int p2), (4, .int l33v4), (5, .int x63v5)]) hx hb dX10_shade_154 rfl hl (by decide) rfl (fun ls hl => ?_)
                  refine lv_iinc (v := l33v4 + 1) (lv' := [(4, .int (l33v4 + 1)), (3, .int l33v4), (0, .ref a_t), (1, .int p1), (2, .int p2), (5, .int x63v5)]) hx hb dX10_shade_155 hl (k := 4) rfl rfl (by decide) rfl (fun ls hl => ?_)
                  refine lv_goto (tgt := 33) hx hb dX10_shade_158 (by decide) ?_
                  exact ih33 l33v4 (l33v4 + 1) _ _ _ hP hD hS (lv_sub hl [2, 3, 4, 1, 0] rfl) hf
              have hL63 : ∀ (n63 : Nat), ∀ (l63v5 : Int32) (l63v6 : Int32) (H : Heap) (locs : List Loc) (ls : Array Slot), va_P D vwCl [(a_t, .inr (10, [.ref a_t_roads, .int t_homes, .int t_there, .ref a_t_book, .ref a_t_now, .int t_meetings, .ref a_t_meeting, .int t_sights, .ref a_t_sight, .int t_signs, .ref a_t_pad, .int t_touched, .int t_firstTouch, .int t_reason, .int t_acts, .ref a_t_apart, .ref a_t_rounds, .ref a_t_fewest, .ref a_t_nextFewest, .ref a_t_ways, .ref a_t_nextWays, .ref a_t_counts, .ref a_t_image, .ref a_t_isKept])), (a_t_roads, .inl (cI, 12, .inl t_roads)), (a_t_apart, .inl (cI, 144, .inl x23))] H → va_D A [(a_t, .inr (10, [.ref a_t_roads, .int t_homes, .int t_there, .ref a_t_book, .ref a_t_now, .int t_meetings, .ref a_t_meeting, .int t_sights, .ref a_t_sight, .int t_signs, .ref a_t_pad, .int t_touched, .int t_firstTouch, .int t_reason, .int t_acts, .ref a_t_apart, .ref a_t_rounds, .ref a_t_fewest, .ref a_t_nextFewest, .ref a_t_ways, .ref a_t_nextWays, .ref a_t_counts, .ref a_t_image, .ref a_t_isKept])), (a_t_roads, .inl (cI, 12, .inl t_roads)), (a_t_apart, .inl (cI, 144, .inl x23))] → va_S A s.heap H locs → lv_has ls 9 [(0, .ref a_t), (1, .int p1), (2, .int p2), (3, .int l33v3), (4, .int l33v4), (5, .int l63v5), (6, .int l63v6)] → f_X10_shade_L63 p1 x23 l33v4 (f_X10_shade_X63 l33v3 l33v4 (f_X10_shade_L33 p1 x23 (f_X10_shade_X33 p2 x23) n33)) n63 l63v5 l63v6 = some res → W p l e rm_X10_shade s m args below meth c H locs 0 0 Q (F0 m 63 ls []) := by
                intro n63
                induction n63 with
                | zero =>
                  intro l63v5 l63v6 H locs ls hP hD hS hl hf
                  rw [f_X10_shade_L63] at hf
                  cases hf
                | succ n63 ih63 =>
                  intro l63v5 l63v6 H locs ls hP hD hS hl hf
                  rw [f_X10_shade_L63] at hf
                  refine lv_iload hx hb dX10_shade_63 (lv_at hl 6 rfl) ?_
                  refine lv_bipush (v := 12) hx hb dX10_shade_65 (by decide) ?_
                  refine lv_icmp_ge (tgt := 143) hx hb dX10_shade_67 (by decide) (fun hc => ?_) (fun hc => ?_)
                  · replace hf := (if_pos hc).symm.trans hf
                    exact hX63 l63v5 _ _ _ hP hD hS (lv_sub hl [0, 1, 2, 3, 4, 5] rfl) hf
                  · replace hf := (if_neg hc).symm.trans hf
                    refine lv_iload hx hb dX10_shade_70 (lv_at hl 5 rfl) ?_
                    refine lv_if_eq (tgt := 143) hx hb dX10_shade_72 (by decide) (fun hc => ?_) (fun hc => ?_)
                    · replace hf := (if_pos hc).symm.trans hf
                      exact hX63 l63v5 _ _ _ hP hD hS (lv_sub hl [0, 1, 2, 3, 4, 5] rfl) hf
                    · replace hf := (if_neg hc).symm.trans hf
                      refine lv_iconst (v := 0) hx hb dX10_shade_75 (by decide) ?_
                      refine lv_istore (lv' := [(7, .int (0 : Int32)), (0, .ref a_t), (1, .int p1), (2, .int p2), (3, .int l33v3), (4, .int l33v4), (5, .int l63v5), (6, .int l63v6)]) hx hb dX10_shade_76 hl (by decide) rfl (fun ls hl => ?_)
                      refine lv_iconst (v := 0) hx hb dX10_shade_78 (by decide) ?_
                      refine lv_istore (lv' := [(8, .int (0 : Int32)), (7, .int (0 : Int32)), (0, .ref a_t), (1, .int p1), (2, .int p2), (3, .int l33v3), (4, .int l33v4), (5, .int l63v5), (6, .int l63v6)]) hx hb dX10_shade_79 hl (by decide) rfl (fun ls hl => ?_)
                      have hX81 : ∀ (x81v7 : Int32) (H : Heap) (locs : List Loc) (ls : Array Slot), va_P D vwCl [(a_t, .inr (10, [.ref a_t_roads, .int t_homes, .int t_there, .ref a_t_book, .ref a_t_now, .int t_meetings, .ref a_t_meeting, .int t_sights, .ref a_t_sight, .int t_signs, .ref a_t_pad, .int t_touched, .int t_firstTouch, .int t_reason, .int t_acts, .ref a_t_apart, .ref a_t_rounds, .ref a_t_fewest, .ref a_t_nextFewest, .ref a_t_ways, .ref a_t_nextWays, .ref a_t_counts, .ref a_t_image, .ref a_t_isKept])), (a_t_roads, .inl (cI, 12, .inl t_roads)), (a_t_apart, .inl (cI, 144, .inl x23))] H → va_D A [(a_t, .inr (10, [.ref a_t_roads, .int t_homes, .int t_there, .ref a_t_book, .ref a_t_now, .int t_meetings, .ref a_t_meeting, .int t_sights, .ref a_t_sight, .int t_signs, .ref a_t_pad, .int t_touched, .int t_firstTouch, .int t_reason, .int t_acts, .ref a_t_apart, .ref a_t_rounds, .ref a_t_fewest, .ref a_t_nextFewest, .ref a_t_ways, .ref a_t_nextWays, .ref a_t_counts, .ref a_t_image, .ref a_t_isKept])), (a_t_roads, .inl (cI, 12, .inl t_roads)), (a_t_apart, .inl (cI, 144, .inl x23))] → va_S A s.heap H locs → lv_has ls 9 [(0, .ref a_t), (1, .int p1), (2, .int p2), (3, .int l33v3), (4, .int l33v4), (6, .int l63v6), (7, .int x81v7)] → f_X10_shade_X81 l63v6 (f_X10_shade_L63 p1 x23 l33v4 (f_X10_shade_X63 l33v3 l33v4 (f_X10_shade_L33 p1 x23 (f_X10_shade_X33 p2 x23) n33)) n63) x81v7 = some res → W p l e rm_X10_shade s m args below meth c H locs 0 0 Q (F0 m 133 ls []) := by
                        intro x81v7 H locs ls hP hD hS hl hf
                        rw [f_X10_shade_X81] at hf
                        refine lv_iload hx hb dX10_shade_133 (lv_at hl 6 rfl) ?_
                        refine lv_istore (lv' := [(5, .int x81v7), (0, .ref a_t), (1, .int p1), (2, .int p2), (3, .int l33v3), (4, .int l33v4), (6, .int l63v6), (7, .int x81v7)]) hx hb dX10_shade_135 hl (by decide) rfl (fun ls hl => ?_)
                        refine lv_iinc (v := l63v6 + 1) (lv' := [(6, .int (l63v6 + 1)), (5, .int x81v7), (0, .ref a_t), (1, .int p1), (2, .int p2), (3, .int l33v3), (4, .int l33v4), (7, .int x81v7)]) hx hb dX10_shade_137 hl (k := 6) rfl rfl (by decide) rfl (fun ls hl => ?_)
                        refine lv_goto (tgt := 63) hx hb dX10_shade_140 (by decide) ?_
                        exact ih63 x81v7 (l63v6 + 1) _ _ _ hP hD hS (lv_sub hl [2, 3, 4, 5, 6, 1, 0] rfl) hf
                      have hL81 : ∀ (n81 : Nat), ∀ (l81v7 : Int32) (l81v8 : Int32) (H : Heap) (locs : List Loc) (ls : Array Slot), va_P D vwCl [(a_t, .inr (10, [.ref a_t_roads, .int t_homes, .int t_there, .ref a_t_book, .ref a_t_now, .int t_meetings, .ref a_t_meeting, .int t_sights, .ref a_t_sight, .int t_signs, .ref a_t_pad, .int t_touched, .int t_firstTouch, .int t_reason, .int t_acts, .ref a_t_apart, .ref a_t_rounds, .ref a_t_fewest, .ref a_t_nextFewest, .ref a_t_ways, .ref a_t_nextWays, .ref a_t_counts, .ref a_t_image, .ref a_t_isKept])), (a_t_roads, .inl (cI, 12, .inl t_roads)), (a_t_apart, .inl (cI, 144, .inl x23))] H → va_D A [(a_t, .inr (10, [.ref a_t_roads, .int t_homes, .int t_there, .ref a_t_book, .ref a_t_now, .int t_meetings, .ref a_t_meeting, .int t_sights, .ref a_t_sight, .int t_signs, .ref a_t_pad, .int t_touched, .int t_firstTouch, .int t_reason, .int t_acts, .ref a_t_apart, .ref a_t_rounds, .ref a_t_fewest, .ref a_t_nextFewest, .ref a_t_ways, .ref a_t_nextWays, .ref a_t_counts, .ref a_t_image, .ref a_t_isKept])), (a_t_roads, .inl (cI, 12, .inl t_roads)), (a_t_apart, .inl (cI, 144, .inl x23))] → va_S A s.heap H locs → lv_has ls 9 [(0, .ref a_t), (1, .int p1), (2, .int p2), (3, .int l33v3), (4, .int l33v4), (6, .int l63v6), (7, .int l81v7), (8, .int l81v8)] → f_X10_shade_L81 p1 x23 l33v4 l63v6 (f_X10_shade_X81 l63v6 (f_X10_shade_L63 p1 x23 l33v4 (f_X10_shade_X63 l33v3 l33v4 (f_X10_shade_L33 p1 x23 (f_X10_shade_X33 p2 x23) n33)) n63)) n81 l81v7 l81v8 = some res → W p l e rm_X10_shade s m args below meth c H locs 0 0 Q (F0 m 81 ls []) := by
                        intro n81
                        induction n81 with
                        | zero =>
                          intro l81v7 l81v8 H locs ls hP hD hS hl hf
                          rw [f_X10_shade_L81] at hf
                          cases hf
                        | succ n81 ih81 =>
                          intro l81v7 l81v8 H locs ls hP hD hS hl hf
                          rw [f_X10_shade_L81] at hf
                          refine lv_iload hx hb dX10_shade_81 (lv_at hl 7 rfl) ?_
                          refine lv_bipush (v := 12) hx hb dX10_shade_83 (by decide) ?_
                          refine lv_icmp_ge (tgt := 133) hx hb dX10_shade_85 (by decide) (fun hc => ?_) (fun hc => ?_)
                          · replace hf := (if_pos hc).symm.trans hf
                            exact hX81 l81v7 _ _ _ hP hD hS (lv_sub hl [0, 1, 2, 3, 4, 5, 6] rfl) hf
                          · replace hf := (if_neg hc).symm.trans hf
                            refine lv_iload hx hb dX10_shade_88 (lv_at hl 6 rfl) ?_
                            refine lv_if_ne (tgt := 120) hx hb dX10_shade_90 (by decide) (fun hc => ?_) (fun hc => ?_)
                            · replace hf := (if_neg hc).symm.trans hf
                              refine lv_iconst (v := 1) hx hb dX10_shade_120 (by decide) ?_
                              refine lv_goto (tgt := 125) hx hb dX10_shade_121 (by decide) ?_
                              refine lv_istore (lv' := [(7, .int (1 : Int32)), (0, .ref a_t), (1, .int p1), (2, .int p2), (3, .int l33v3), (4, .int l33v4), (6, .int l63v6), (8, .int l81v8)]) hx hb dX10_shade_125 hl (by decide) rfl (fun ls hl => ?_)
                              refine lv_iinc (v := l81v8 + 1) (lv' := [(8, .int (l81v8 + 1)), (7, .int (1 : Int32)), (0, .ref a_t), (1, .int p1), (2, .int p2), (3, .int l33v3), (4, .int l33v4), (6, .int l63v6)]) hx hb dX10_shade_127 hl (k := 7) rfl rfl (by decide) rfl (fun ls hl => ?_)
                              refine lv_goto (tgt := 81) hx hb dX10_shade_130 (by decide) ?_
                              exact ih81 (1 : Int32) (l81v8 + 1) _ _ _ hP hD hS (lv_sub hl [2, 3, 4, 5, 6, 7, 1, 0] rfl) hf
                            · replace hf := (if_pos hc).symm.trans hf
                              refine lv_iload hx hb dX10_shade_93 (lv_at hl 4 rfl) ?_
                              refine lv_iload hx hb dX10_shade_95 (lv_at hl 7 rfl) ?_
                              obtain ⟨x97, hx97, hf⟩ := bd_if hf
                              refine cs_i (wr := [(a_t, .inr (10, [.ref a_t_roads, .int t_homes, .int t_there, .ref a_t_book, .ref a_t_now, .int t_meetings, .ref a_t_meeting, .int t_sights, .ref a_t_sight, .int t_signs, .ref a_t_pad, .int t_touched, .int t_firstTouch, .int t_reason, .int t_acts, .ref a_t_apart, .ref a_t_rounds, .ref a_t_fewest, .ref a_t_nextFewest, .ref a_t_ways, .ref a_t_nextWays, .ref a_t_counts, .ref a_t_image, .ref a_t_isKept])), (a_t_roads, .inl (cI, 12, .inl t_roads)), (a_t_apart, .inl (cI, 144, .inl x23))]) (ws' := [(a_t, .inr (10, [.ref a_t_roads, .int t_homes, .int t_there, .ref a_t_book, .ref a_t_now, .int t_meetings, .ref a_t_meeting, .int t_sights, .ref a_t_sight, .int t_signs, .ref a_t_pad, .int t_touched, .int t_firstTouch, .int t_reason, .int t_acts, .ref a_t_apart, .ref a_t_rounds, .ref a_t_fewest, .ref a_t_nextFewest, .ref a_t_ways, .ref a_t_nextWays, .ref a_t_counts, .ref a_t_image, .ref a_t_isKept])), (a_t_roads, .inl (cI, 12, .inl t_roads)), (a_t_apart, .inl (cI, 144, .inl x23))]) ⟨hx, hb, hml, hown, hts⟩ hcw69 hK hN hP hD hS hA (c_X10_has l D cI cJ cZ cO _ l33v4 l81v8 x97 hx97) [] [0, 1, 2] [0, 1, 2] rfl rfl rfl rfl (by decide) rfl rfl rfl hl.1 rfl (Nat.le_of_ble_eq_true rfl) dX10_shade_97 ⟨Nat.zero_le _, Nat.zero_le _⟩ (fun H locs hP hD hS => ?_)
                              refine lv_if_eq (tgt := 124) hx hb dX10_shade_100 (by decide) (fun hc => ?_) (fun hc => ?_)
                              · replace hf := (if_pos hc).symm.trans hf
                                refine lv_iconst (v := 0) hx hb dX10_shade_124 (by decide) ?_
                                refine lv_istore (lv' := [(7, .int (0 : Int32)), (0, .ref a_t), (1, .int p1), (2, .int p2), (3, .int l33v3), (4, .int l33v4), (6, .int l63v6), (8, .int l81v8)]) hx hb dX10_shade_125 hl (by decide) rfl (fun ls hl => ?_)
                                refine lv_iinc (v := l81v8 + 1) (lv' := [(8, .int (l81v8 + 1)), (7, .int (0 : Int32)), (0, .ref a_t), (1, .int p1), (2, .int p2), (3, .int l33v3), (4, .int l33v4), (6, .int l63v6)]) hx hb dX10_shade_127 hl (k := 7) rfl rfl (by decide) rfl (fun ls hl => ?_)
                                refine lv_goto (tgt := 81) hx hb dX10_shade_130 (by decide) ?_
                                exact ih81 (0 : Int32) (l81v8 + 1) _ _ _ hP hD hS (lv_sub hl [2, 3, 4, 5, 6, 7, 1, 0] rfl) hf
                              · replace hf := (if_neg hc).symm.trans hf
                                refine lv_aload_n hx hb dX10_shade_103 rfl (lv_at hl 0 rfl) ?_
                                refine va_get (D := D) (ci := 10) (v := .ref a_t_apart) (C := RX10) (T := TX10) (N := 24) hx hb hts hmsX10 hown hK hP 0 rfl rfl 15 (by decide) hw28 (fun _ h9 => h9) rfl dX10_shade_104 ?_
                                refine lv_bipush (v := 12) hx hb dX10_shade_107 (by decide) ?_
                                refine lv_iload hx hb dX10_shade_109 (lv_at hl 5 rfl) ?_
                                refine lv_imul hx hb dX10_shade_111 ?_
                                refine lv_iload hx hb dX10_shade_112 (lv_at hl 7 rfl) ?_
                                refine lv_iadd hx hb dX10_shade_114 ?_
                                obtain ⟨hi115, hf⟩ := ix_if hf
                                refine va_iald (D := D) hx hb hK hP 2 0 rfl rfl hi115 dX10_shade_115 ?_
                                refine lv_iload_n hx hb dX10_shade_116 rfl (lv_at hl 1 rfl) ?_
                                refine lv_icmp_gt (tgt := 124) hx hb dX10_shade_117 (by decide) (fun hc => ?_) (fun hc => ?_)
                                · replace hf := (if_pos hc).symm.trans hf
                                  refine lv_iconst (v := 0) hx hb dX10_shade_124 (by decide) ?_
                                  refine lv_istore (lv' := [(7, .int (0 : Int32)), (0, .ref a_t), (1, .int p1), (2, .int p2), (3, .int l33v3), (4, .int l33v4), (6, .int l63v6), (8, .int l81v8)]) hx hb dX10_shade_125 hl (by decide) rfl (fun ls hl => ?_)
                                  refine lv_iinc (v := l81v8 + 1) (lv' := [(8, .int (l81v8 + 1)), (7, .int (0 : Int32)), (0, .ref a_t), (1, .int p1), (2, .int p2), (3, .int l33v3), (4, .int l33v4), (6, .int l63v6)]) hx hb dX10_shade_127 hl (k := 7) rfl rfl (by decide) rfl (fun ls hl => ?_)
                                  refine lv_goto (tgt := 81) hx hb dX10_shade_130 (by decide) ?_
                                  exact ih81 (0 : Int32) (l81v8 + 1) _ _ _ hP hD hS (lv_sub hl [2, 3, 4, 5, 6, 7, 1, 0] rfl) hf
                                · replace hf := (if_neg hc).symm.trans hf
                                  refine lv_iconst (v := 1) hx hb dX10_shade_120 (by decide) ?_
                                  refine lv_goto (tgt := 125) hx hb dX10_shade_121 (by decide) ?_
                                  refine lv_istore (lv' := [(7, .int (1 : Int32)), (0, .ref a_t), (1, .int p1), (2, .int p2), (3, .int l33v3), (4, .int l33v4), (6, .int l63v6), (8, .int l81v8)]) hx hb dX10_shade_125 hl (by decide) rfl (fun ls hl => ?_)
                                  refine lv_iinc (v := l81v8 + 1) (lv' := [(8, .int (l81v8 + 1)), (7, .int (1 : Int32)), (0, .ref a_t), (1, .int p1), (2, .int p2), (3, .int l33v3), (4, .int l33v4), (6, .int l63v6)]) hx hb dX10_shade_127 hl (k := 7) rfl rfl (by decide) rfl (fun ls hl => ?_)
                                  refine lv_goto (tgt := 81) hx hb dX10_shade_130 (by decide) ?_
                                  exact ih81 (1 : Int32) (l81v8 + 1) _ _ _ hP hD hS (lv_sub hl [2, 3, 4, 5, 6, 7, 1, 0] rfl) hf
                      exact hL81 5000 (0 : Int32) (0 : Int32) _ _ _ hP hD hS (lv_sub hl [2, 3, 4, 5, 6, 8, 1, 0] rfl) hf
              exact hL63 5000 b58s0 (0 : Int32) _ _ _ hP hD hS (lv_sub hl [2, 3, 4, 5, 6, 1, 0] rfl) hf
            refine lv_icmp_ge (tgt := 57) hx hb dX10_shade_50 (by decide) (fun hc => ?_) (fun hc => ?_)
            · replace hf := (if_pos hc).symm.trans hf
              refine lv_iconst (v := 0) hx hb dX10_shade_57 (by decide) ?_
              exact hB58 (0 : Int32) _ _ _ hP hD hS (lv_sub hl [0, 1, 2, 3, 4] rfl) hf
            · replace hf := (if_neg hc).symm.trans hf
              refine lv_iconst (v := 1) hx hb dX10_shade_53 (by decide) ?_
              refine lv_goto (tgt := 58) hx hb dX10_shade_54 (by decide) ?_
              exact hB58 (1 : Int32) _ _ _ hP hD hS (lv_sub hl [0, 1, 2, 3, 4] rfl) hf
      exact hL33 5000 (4095 : Int32) (0 : Int32) _ _ _ hP hD hS (lv_sub hl [2, 3, 4, 1, 0] rfl) hf
    · replace hf := (if_pos hc).symm.trans hf
      refine lv_bipush (v := -2) hx hb dX10_shade_19 (by decide) ?_
      obtain rfl := Option.some.inj hf
      exact fin _ _ _ _ dX10_shade_21 hP hD hS
abbrev rm_X10_met : Room := { frames := 2, cells := 0, slots := 0, locals := 42 }
theorem ms_X10_met_X10 : ∀ w ∈ u_ws RX10 TX10 24, w ∈ wsX10_met := fun w h => List.mem_cons_of_mem _ (List.mem_append_right _ (h))
set_option maxHeartbeats 4000000 in
set_option maxRecDepth 100000 in
theorem c_X10_met (l : Launch) (D : va_G) (cI cJ cZ cO : ClassId) (sz : Nat) (a_t : Nat) (a_t_roads : Nat) (a_t_book : Nat) (a_t_now : Nat) (a_t_meeting : Nat) (a_t_sight : Nat) (a_t_pad : Nat) (a_t_apart : Nat) (a_t_rounds : Nat) (a_t_fewest : Nat) (a_t_nextFewest : Nat) (a_t_ways : Nat) (a_t_nextWays : Nat) (a_t_counts : Nat) (a_t_image : Nat) (a_t_isKept : Nat) (t_homes : Int32) (t_there : Int32) (t_meetings : Int32) (t_sights : Int32) (t_signs : Int32) (t_touched : Int32) (t_firstTouch : Int32) (t_reason : Int32) (t_acts : Int32) (t_meeting : Nat → Int32) (p1 : Int32) (p2 : Int32) (res : Int32 × Int32 × (Nat → Int32)) (hf : f_X10_met t_meetings t_meeting p1 p2 = some res) : MetI l yX10_met wsX10_met rm_X10_met [.ref a_t, .int p1, .int p2] D (tys4 cI cJ cZ cO) [(a_t, .inr (10, [.ref a_t_roads, .int t_homes, .int t_there, .ref a_t_book, .ref a_t_now, .int t_meetings, .ref a_t_meeting, .int t_sights, .ref a_t_sight, .int t_signs, .ref a_t_pad, .int t_touched, .int t_firstTouch, .int t_reason, .int t_acts, .ref a_t_apart, .ref a_t_rounds, .ref a_t_fewest, .ref a_t_nextFewest, .ref a_t_ways, .ref a_t_nextWays, .ref a_t_counts, .ref a_t_image, .ref a_t_isKept])), (a_t_meeting, .inl (cI, 16, .inl t_meeting))] sz res.1 [(a_t, .inr (10, [.ref a_t_roads, .int t_homes, .int t_there, .ref a_t_book, .ref a_t_now, .int res.2.1, .ref a_t_meeting, .int t_sights, .ref a_t_sight, .int t_signs, .ref a_t_pad, .int t_touched, .int t_firstTouch, .int t_reason, .int t_acts, .ref a_t_apart, .ref a_t_rounds, .ref a_t_fewest, .ref a_t_nextFewest, .ref a_t_ways, .ref a_t_nextWays, .ref a_t_counts, .ref a_t_image, .ref a_t_isKept])), (a_t_meeting, .inl (cI, 16, .inl res.2.2))] := by
  refine met_i (cc := cX10_met) (maxL := 3) (by decide) rfl (Nat.le_of_ble_eq_true rfl) ?_
  intro p e s m args below meth c Q A hx hb hml hown hts hK hN hA fin H locs ls hP hD hS hl
  replace hown : s.vm.findClass RX10 = some m.cls := hown
  replace hl : lv_has ls 3 [(0, .ref a_t), (1, .int p1), (2, .int p2)] := hl
  rw [f_X10_met] at hf
  have hcw61 := va_cwS (R := rm_X10_met) (rm := rm_X10_isNumber) 1 hts gX10_met_X10_isNumber rfl rfl rfl (by decide +kernel) ⟨Nat.le_of_ble_eq_true rfl, Nat.le_of_ble_eq_true rfl⟩
  have hw149 := hts (.fieldLink RX10 149 "TouchReignModel" "meetings" "I") (by decide +kernel)
  have hmsX10 := ms_X10_met_X10
  have hw19 := hts (.fieldLink RX10 19 "TouchReignModel" "meeting" "[I") (by decide +kernel)
  refine lv_iload_n hx hb dX10_met_0 rfl (lv_at hl 1 rfl) ?_
  obtain ⟨x1, hx1, hf⟩ := bd_if hf
  refine cs_i (wr := [(a_t, .inr (10, [.ref a_t_roads, .int t_homes, .int t_there, .ref a_t_book, .ref a_t_now, .int t_meetings, .ref a_t_meeting, .int t_sights, .ref a_t_sight, .int t_signs, .ref a_t_pad, .int t_touched, .int t_firstTouch, .int t_reason, .int t_acts, .ref a_t_apart, .ref a_t_rounds, .ref a_t_fewest, .ref a_t_nextFewest, .ref a_t_ways, .ref a_t_nextWays, .ref a_t_counts, .ref a_t_image, .ref a_t_isKept])), (a_t_meeting, .inl (cI, 16, .inl t_meeting))]) (ws' := [(a_t, .inr (10, [.ref a_t_roads, .int t_homes, .int t_there, .ref a_t_book, .ref a_t_now, .int t_meetings, .ref a_t_meeting, .int t_sights, .ref a_t_sight, .int t_signs, .ref a_t_pad, .int t_touched, .int t_firstTouch, .int t_reason, .int t_acts, .ref a_t_apart, .ref a_t_rounds, .ref a_t_fewest, .ref a_t_nextFewest, .ref a_t_ways, .ref a_t_nextWays, .ref a_t_counts, .ref a_t_image, .ref a_t_isKept])), (a_t_meeting, .inl (cI, 16, .inl t_meeting))]) ⟨hx, hb, hml, hown, hts⟩ hcw61 hK hN hP hD hS hA (c_X10_isNumber l D cI cJ cZ cO _ p1 x1 hx1) [] [0, 1] [0, 1] rfl rfl rfl rfl (by decide) rfl rfl rfl hl.1 rfl (Nat.le_of_ble_eq_true rfl) dX10_met_1 ⟨Nat.zero_le _, Nat.zero_le _⟩ (fun H locs hP hD hS => ?_)
  refine lv_if_eq (tgt := 19) hx hb dX10_met_4 (by decide) (fun hc => ?_) (fun hc => ?_)
  · replace hf := (if_pos hc).symm.trans hf
    refine lv_iconst (v := -1) hx hb dX10_met_19 (by decide) ?_
    obtain rfl := Option.some.inj hf
    exact fin _ _ _ _ dX10_met_20 hP hD hS
  · replace hf := (if_neg hc).symm.trans hf
    refine lv_iload_n hx hb dX10_met_7 rfl (lv_at hl 2 rfl) ?_
    obtain ⟨x8, hx8, hf⟩ := bd_if hf
    refine cs_i (wr := [(a_t, .inr (10, [.ref a_t_roads, .int t_homes, .int t_there, .ref a_t_book, .ref a_t_now, .int t_meetings, .ref a_t_meeting, .int t_sights, .ref a_t_sight, .int t_signs, .ref a_t_pad, .int t_touched, .int t_firstTouch, .int t_reason, .int t_acts, .ref a_t_apart, .ref a_t_rounds, .ref a_t_fewest, .ref a_t_nextFewest, .ref a_t_ways, .ref a_t_nextWays, .ref a_t_counts, .ref a_t_image, .ref a_t_isKept])), (a_t_meeting, .inl (cI, 16, .inl t_meeting))]) (ws' := [(a_t, .inr (10, [.ref a_t_roads, .int t_homes, .int t_there, .ref a_t_book, .ref a_t_now, .int t_meetings, .ref a_t_meeting, .int t_sights, .ref a_t_sight, .int t_signs, .ref a_t_pad, .int t_touched, .int t_firstTouch, .int t_reason, .int t_acts, .ref a_t_apart, .ref a_t_rounds, .ref a_t_fewest, .ref a_t_nextFewest, .ref a_t_ways, .ref a_t_nextWays, .ref a_t_counts, .ref a_t_image, .ref a_t_isKept])), (a_t_meeting, .inl (cI, 16, .inl t_meeting))]) ⟨hx, hb, hml, hown, hts⟩ hcw61 hK hN hP hD hS hA (c_X10_isNumber l D cI cJ cZ cO _ p2 x8 hx8) [] [0, 1] [0, 1] rfl rfl rfl rfl (by decide) rfl rfl rfl hl.1 rfl (Nat.le_of_ble_eq_true rfl) dX10_met_8 ⟨Nat.zero_le _, Nat.zero_le _⟩ (fun H locs hP hD hS => ?_)
    refine lv_if_eq (tgt := 19) hx hb dX10_met_11 (by decide) (fun hc => ?_) (fun hc => ?_)
    · replace hf := (if_pos hc).symm.trans hf
      refine lv_iconst (v := -1) hx hb dX10_met_19 (by decide) ?_
      obtain rfl := Option.some.inj hf
      exact fin _ _ _ _ dX10_met_20 hP hD hS
    · replace hf := (if_neg hc).symm.trans hf
      refine lv_iload_n hx hb dX10_met_14 rfl (lv_at hl 1 rfl) ?_
      refine lv_iload_n hx hb dX10_met_15 rfl (lv_at hl 2 rfl) ?_
      refine lv_icmp_ne (tgt := 21) hx hb dX10_met_16 (by decide) (fun hc => ?_) (fun hc => ?_)
      · replace hf := (if_neg hc).symm.trans hf
        refine lv_aload_n hx hb dX10_met_21 rfl (lv_at hl 0 rfl) ?_
        refine va_get (D := D) (ci := 10) (v := .int t_meetings) (C := RX10) (T := TX10) (N := 24) hx hb hts hmsX10 hown hK hP 0 rfl rfl 5 (by decide) hw149 (fun _ h9 => h9) rfl dX10_met_22 ?_
        refine lv_bipush (v := 8) hx hb dX10_met_25 (by decide) ?_
        refine lv_icmp_ne (tgt := 33) hx hb dX10_met_27 (by decide) (fun hc => ?_) (fun hc => ?_)
        · replace hf := (if_neg hc).symm.trans hf
          refine lv_aload_n hx hb dX10_met_33 rfl (lv_at hl 0 rfl) ?_
          refine va_get (D := D) (ci := 10) (v := .ref a_t_meeting) (C := RX10) (T := TX10) (N := 24) hx hb hts hmsX10 hown hK hP 0 rfl rfl 6 (by decide) hw19 (fun _ h9 => h9) rfl dX10_met_34 ?_
          refine lv_iconst (v := 2) hx hb dX10_met_37 (by decide) ?_
          refine lv_aload_n hx hb dX10_met_38 rfl (lv_at hl 0 rfl) ?_
          refine va_get (D := D) (ci := 10) (v := .int t_meetings) (C := RX10) (T := TX10) (N := 24) hx hb hts hmsX10 hown hK hP 0 rfl rfl 5 (by decide) hw149 (fun _ h9 => h9) rfl dX10_met_39 ?_
          refine lv_imul hx hb dX10_met_42 ?_
          refine lv_iload_n hx hb dX10_met_43 rfl (lv_at hl 1 rfl) ?_
          obtain ⟨hi44, hf⟩ := ix_if hf
          refine va_iast (D := D) hx hb hK hP hD hS 1 0 rfl rfl hi44 dX10_met_44 (fun H locs hP hD hS => ?_)
          replace hP : va_P D vwCl [(a_t, .inr (10, [.ref a_t_roads, .int t_homes, .int t_there, .ref a_t_book, .ref a_t_now, .int t_meetings, .ref a_t_meeting, .int t_sights, .ref a_t_sight, .int t_signs, .ref a_t_pad, .int t_touched, .int t_firstTouch, .int t_reason, .int t_acts, .ref a_t_apart, .ref a_t_rounds, .ref a_t_fewest, .ref a_t_nextFewest, .ref a_t_ways, .ref a_t_nextWays, .ref a_t_counts, .ref a_t_image, .ref a_t_isKept])), (a_t_meeting, .inl (cI, 16, .inl (upd t_meeting ((2 : Int32) * t_meetings).toNatClampNeg p1)))] H := hP
          replace hD : va_D A [(a_t, .inr (10, [.ref a_t_roads, .int t_homes, .int t_there, .ref a_t_book, .ref a_t_now, .int t_meetings, .ref a_t_meeting, .int t_sights, .ref a_t_sight, .int t_signs, .ref a_t_pad, .int t_touched, .int t_firstTouch, .int t_reason, .int t_acts, .ref a_t_apart, .ref a_t_rounds, .ref a_t_fewest, .ref a_t_nextFewest, .ref a_t_ways, .ref a_t_nextWays, .ref a_t_counts, .ref a_t_image, .ref a_t_isKept])), (a_t_meeting, .inl (cI, 16, .inl (upd t_meeting ((2 : Int32) * t_meetings).toNatClampNeg p1)))] := hD
          refine lv_aload_n hx hb dX10_met_45 rfl (lv_at hl 0 rfl) ?_
          refine va_get (D := D) (ci := 10) (v := .ref a_t_meeting) (C := RX10) (T := TX10) (N := 24) hx hb hts hmsX10 hown hK hP 0 rfl rfl 6 (by decide) hw19 (fun _ h9 => h9) rfl dX10_met_46 ?_
          refine lv_iconst (v := 2) hx hb dX10_met_49 (by decide) ?_
          refine lv_aload_n hx hb dX10_met_50 rfl (lv_at hl 0 rfl) ?_
          refine va_get (D := D) (ci := 10) (v := .int t_meetings) (C := RX10) (T := TX10) (N := 24) hx hb hts hmsX10 hown hK hP 0 rfl rfl 5 (by decide) hw149 (fun _ h9 => h9) rfl dX10_met_51 ?_
          refine lv_imul hx hb dX10_met_54 ?_
          refine lv_iconst (v := 1) hx hb dX10_met_55 (by decide) ?_
          refine lv_iadd hx hb dX10_met_56 ?_
          refine lv_iload_n hx hb dX10_met_57 rfl (lv_at hl 2 rfl) ?_
          obtain ⟨hi58, hf⟩ := ix_if hf
          refine va_iast (D := D) hx hb hK hP hD hS 1 0 rfl rfl hi58 dX10_met_58 (fun H locs hP hD hS => ?_)
          replace hP : va_P D vwCl [(a_t, .inr (10, [.ref a_t_roads, .int t_homes, .int t_there, .ref a_t_book, .ref a_t_now, .int t_meetings, .ref a_t_meeting, .int t_sights, .ref a_t_sight, .int t_signs, .ref a_t_pad, .int t_touched, .int t_firstTouch, .int t_reason, .int t_acts, .ref a_t_apart, .ref a_t_rounds, .ref a_t_fewest, .ref a_t_nextFewest, .ref a_t_ways, .ref a_t_nextWays, .ref a_t_counts, .ref a_t_image, .ref a_t_isKept])), (a_t_meeting, .inl (cI, 16, .inl (upd (upd t_meeting ((2 : Int32) * t_meetings).toNatClampNeg p1) (((2 : Int32) * t_meetings) + (1 : Int32)).toNatClampNeg p2)))] H := hP
          replace hD : va_D A [(a_t, .inr (10, [.ref a_t_roads, .int t_homes, .int t_there, .ref a_t_book, .ref a_t_now, .int t_meetings, .ref a_t_meeting, .int t_sights, .ref a_t_sight, .int t_signs, .ref a_t_pad, .int t_touched, .int t_firstTouch, .int t_reason, .int t_acts, .ref a_t_apart, .ref a_t_rounds, .ref a_t_fewest, .ref a_t_nextFewest, .ref a_t_ways, .ref a_t_nextWays, .ref a_t_counts, .ref a_t_image, .ref a_t_isKept])), (a_t_meeting, .inl (cI, 16, .inl (upd (upd t_meeting ((2 : Int32) * t_meetings).toNatClampNeg p1) (((2 : Int32) * t_meetings) + (1 : Int32)).toNatClampNeg p2)))] := hD
          refine lv_aload_n hx hb dX10_met_59 rfl (lv_at hl 0 rfl) ?_
          refine lv_dup hx hb dX10_met_60 rfl ?_
          refine va_get (D := D) (ci := 10) (v := .int t_meetings) (C := RX10) (T := TX10) (N := 24) hx hb hts hmsX10 hown hK hP 0 rfl rfl 5 (by decide) hw149 (fun _ h9 => h9) rfl dX10_met_61 ?_
          refine lv_iconst (v := 1) hx hb dX10_met_64 (by decide) ?_
          refine lv_iadd hx hb dX10_met_65 ?_
          refine va_put (D := D) (ci := 10) (v := .int (t_meetings + (1 : Int32))) (ty := .int) (C := RX10) (T := TX10) (N := 24) hx hb hts hmsX10 tyX10 tyX10_ok nmX10 hown hK hP hD hS 0 rfl rfl 5 (by decide) hw149 (fun _ h9 => h9) rfl (by decide +kernel) rfl rfl (Nat.le_of_ble_eq_true rfl) dX10_met_66 (fun H locs hP hD hS => ?_)
          replace hP : va_P D vwCl [(a_t, .inr (10, [.ref a_t_roads, .int t_homes, .int t_there, .ref a_t_book, .ref a_t_now, .int (t_meetings + (1 : Int32)), .ref a_t_meeting, .int t_sights, .ref a_t_sight, .int t_signs, .ref a_t_pad, .int t_touched, .int t_firstTouch, .int t_reason, .int t_acts, .ref a_t_apart, .ref a_t_rounds, .ref a_t_fewest, .ref a_t_nextFewest, .ref a_t_ways, .ref a_t_nextWays, .ref a_t_counts, .ref a_t_image, .ref a_t_isKept])), (a_t_meeting, .inl (cI, 16, .inl (upd (upd t_meeting ((2 : Int32) * t_meetings).toNatClampNeg p1) (((2 : Int32) * t_meetings) + (1 : Int32)).toNatClampNeg p2)))] H := hP
          replace hD : va_D A [(a_t, .inr (10, [.ref a_t_roads, .int t_homes, .int t_there, .ref a_t_book, .ref a_t_now, .int (t_meetings + (1 : Int32)), .ref a_t_meeting, .int t_sights, .ref a_t_sight, .int t_signs, .ref a_t_pad, .int t_touched, .int t_firstTouch, .int t_reason, .int t_acts, .ref a_t_apart, .ref a_t_rounds, .ref a_t_fewest, .ref a_t_nextFewest, .ref a_t_ways, .ref a_t_nextWays, .ref a_t_counts, .ref a_t_image, .ref a_t_isKept])), (a_t_meeting, .inl (cI, 16, .inl (upd (upd t_meeting ((2 : Int32) * t_meetings).toNatClampNeg p1) (((2 : Int32) * t_meetings) + (1 : Int32)).toNatClampNeg p2)))] := hD
          refine lv_aload_n hx hb dX10_met_69 rfl (lv_at hl 0 rfl) ?_
          refine va_get (D := D) (ci := 10) (v := .int (t_meetings + (1 : Int32))) (C := RX10) (T := TX10) (N := 24) hx hb hts hmsX10 hown hK hP 0 rfl rfl 5 (by decide) hw149 (fun _ h9 => h9) rfl dX10_met_70 ?_
          obtain rfl := Option.some.inj hf
          exact fin _ _ _ _ dX10_met_73 hP hD hS
        · replace hf := (if_pos hc).symm.trans hf
          refine lv_bipush (v := -4) hx hb dX10_met_30 (by decide) ?_
          obtain rfl := Option.some.inj hf
          exact fin _ _ _ _ dX10_met_32 hP hD hS
      · replace hf := (if_pos hc).symm.trans hf
        refine lv_iconst (v := -1) hx hb dX10_met_19 (by decide) ?_
        obtain rfl := Option.some.inj hf
        exact fin _ _ _ _ dX10_met_20 hP hD hS
abbrev rm_X10_unmeet : Room := { frames := 0, cells := 0, slots := 0, locals := 0 }
theorem ms_X10_unmeet_X10 : ∀ w ∈ u_ws RX10 TX10 24, w ∈ wsX10_unmeet := fun w h => List.mem_cons_of_mem _ (List.mem_append_right _ (h))
set_option maxHeartbeats 4000000 in
set_option maxRecDepth 100000 in
theorem c_X10_unmeet (l : Launch) (D : va_G) (cI cJ cZ cO : ClassId) (sz : Nat) (a_t : Nat) (a_t_roads : Nat) (a_t_book : Nat) (a_t_now : Nat) (a_t_meeting : Nat) (a_t_sight : Nat) (a_t_pad : Nat) (a_t_apart : Nat) (a_t_rounds : Nat) (a_t_fewest : Nat) (a_t_nextFewest : Nat) (a_t_ways : Nat) (a_t_nextWays : Nat) (a_t_counts : Nat) (a_t_image : Nat) (a_t_isKept : Nat) (t_homes : Int32) (t_there : Int32) (t_meetings : Int32) (t_sights : Int32) (t_signs : Int32) (t_touched : Int32) (t_firstTouch : Int32) (t_reason : Int32) (t_acts : Int32) (res : Int32 × Int32) (hf : f_X10_unmeet t_meetings = some res) : MetI l yX10_unmeet wsX10_unmeet rm_X10_unmeet [.ref a_t] D (tys4 cI cJ cZ cO) [(a_t, .inr (10, [.ref a_t_roads, .int t_homes, .int t_there, .ref a_t_book, .ref a_t_now, .int t_meetings, .ref a_t_meeting, .int t_sights, .ref a_t_sight, .int t_signs, .ref a_t_pad, .int t_touched, .int t_firstTouch, .int t_reason, .int t_acts, .ref a_t_apart, .ref a_t_rounds, .ref a_t_fewest, .ref a_t_nextFewest, .ref a_t_ways, .ref a_t_nextWays, .ref a_t_counts, .ref a_t_image, .ref a_t_isKept]))] sz res.1 [(a_t, .inr (10, [.ref a_t_roads, .int t_homes, .int t_there, .ref a_t_book, .ref a_t_now, .int res.2, .ref a_t_meeting, .int t_sights, .ref a_t_sight, .int t_signs, .ref a_t_pad, .int t_touched, .int t_firstTouch, .int t_reason, .int t_acts, .ref a_t_apart, .ref a_t_rounds, .ref a_t_fewest, .ref a_t_nextFewest, .ref a_t_ways, .ref a_t_nextWays, .ref a_t_counts, .ref a_t_image, .ref a_t_isKept]))] := by
  refine met_i (cc := cX10_unmeet) (maxL := 2) (by decide) rfl (Nat.le_of_ble_eq_true rfl) ?_
  intro p e s m args below meth c Q A hx hb hml hown hts hK hN hA fin H locs ls hP hD hS hl
  replace hown : s.vm.findClass RX10 = some m.cls := hown
  replace hl : lv_has ls 2 [(0, .ref a_t)] := hl
  rw [f_X10_unmeet] at hf
  have hw149 := hts (.fieldLink RX10 149 "TouchReignModel" "meetings" "I") (by decide +kernel)
  have hmsX10 := ms_X10_unmeet_X10
  refine lv_aload_n hx hb dX10_unmeet_0 rfl (lv_at hl 0 rfl) ?_
  refine va_get (D := D) (ci := 10) (v := .int t_meetings) (C := RX10) (T := TX10) (N := 24) hx hb hts hmsX10 hown hK hP 0 rfl rfl 5 (by decide) hw149 (fun _ h9 => h9) rfl dX10_unmeet_1 ?_
  refine lv_istore_n (lv' := [(1, .int t_meetings), (0, .ref a_t)]) hx hb dX10_unmeet_4 rfl hl (by decide) rfl (fun ls hl => ?_)
  refine lv_aload_n hx hb dX10_unmeet_5 rfl (lv_at hl 1 rfl) ?_
  refine lv_iconst (v := 0) hx hb dX10_unmeet_6 (by decide) ?_
  refine va_put (D := D) (ci := 10) (v := .int (0 : Int32)) (ty := .int) (C := RX10) (T := TX10) (N := 24) hx hb hts hmsX10 tyX10 tyX10_ok nmX10 hown hK hP hD hS 0 rfl rfl 5 (by decide) hw149 (fun _ h9 => h9) rfl (by decide +kernel) rfl rfl (Nat.le_of_ble_eq_true rfl) dX10_unmeet_7 (fun H locs hP hD hS => ?_)
  replace hP : va_P D vwCl [(a_t, .inr (10, [.ref a_t_roads, .int t_homes, .int t_there, .ref a_t_book, .ref a_t_now, .int (0 : Int32), .ref a_t_meeting, .int t_sights, .ref a_t_sight, .int t_signs, .ref a_t_pad, .int t_touched, .int t_firstTouch, .int t_reason, .int t_acts, .ref a_t_apart, .ref a_t_rounds, .ref a_t_fewest, .ref a_t_nextFewest, .ref a_t_ways, .ref a_t_nextWays, .ref a_t_counts, .ref a_t_image, .ref a_t_isKept]))] H := hP
  replace hD : va_D A [(a_t, .inr (10, [.ref a_t_roads, .int t_homes, .int t_there, .ref a_t_book, .ref a_t_now, .int (0 : Int32), .ref a_t_meeting, .int t_sights, .ref a_t_sight, .int t_signs, .ref a_t_pad, .int t_touched, .int t_firstTouch, .int t_reason, .int t_acts, .ref a_t_apart, .ref a_t_rounds, .ref a_t_fewest, .ref a_t_nextFewest, .ref a_t_ways, .ref a_t_nextWays, .ref a_t_counts, .ref a_t_image, .ref a_t_isKept]))] := hD
  refine lv_iload_n hx hb dX10_unmeet_10 rfl (lv_at hl 0 rfl) ?_
  obtain rfl := Option.some.inj hf
  exact fin _ _ _ _ dX10_unmeet_11 hP hD hS
abbrev rm_X10_touchAt : Room := { frames := 0, cells := 0, slots := 0, locals := 0 }
theorem ms_X10_touchAt_X10 : ∀ w ∈ u_ws RX10 TX10 24, w ∈ wsX10_touchAt := fun w h => List.mem_cons_of_mem _ (List.mem_append_right _ (h))
set_option maxHeartbeats 4000000 in
set_option maxRecDepth 100000 in
theorem c_X10_touchAt (l : Launch) (D : va_G) (cI cJ cZ cO : ClassId) (sz : Nat) (a_t : Nat) (a_t_roads : Nat) (a_t_book : Nat) (a_t_now : Nat) (a_t_meeting : Nat) (a_t_sight : Nat) (a_t_pad : Nat) (a_t_apart : Nat) (a_t_rounds : Nat) (a_t_fewest : Nat) (a_t_nextFewest : Nat) (a_t_ways : Nat) (a_t_nextWays : Nat) (a_t_counts : Nat) (a_t_image : Nat) (a_t_isKept : Nat) (t_homes : Int32) (t_there : Int32) (t_meetings : Int32) (t_sights : Int32) (t_signs : Int32) (t_touched : Int32) (t_firstTouch : Int32) (t_reason : Int32) (t_acts : Int32) (t_meeting : Nat → Int32) (p1 : Int32) (p2 : Int32) (res : Int32) (hf : f_X10_touchAt t_meeting p1 p2 = some res) : MetI l yX10_touchAt wsX10_touchAt rm_X10_touchAt [.ref a_t, .int p1, .int p2] D (tys4 cI cJ cZ cO) [(a_t, .inr (10, [.ref a_t_roads, .int t_homes, .int t_there, .ref a_t_book, .ref a_t_now, .int t_meetings, .ref a_t_meeting, .int t_sights, .ref a_t_sight, .int t_signs, .ref a_t_pad, .int t_touched, .int t_firstTouch, .int t_reason, .int t_acts, .ref a_t_apart, .ref a_t_rounds, .ref a_t_fewest, .ref a_t_nextFewest, .ref a_t_ways, .ref a_t_nextWays, .ref a_t_counts, .ref a_t_image, .ref a_t_isKept])), (a_t_meeting, .inl (cI, 16, .inl t_meeting))] sz res [(a_t, .inr (10, [.ref a_t_roads, .int t_homes, .int t_there, .ref a_t_book, .ref a_t_now, .int t_meetings, .ref a_t_meeting, .int t_sights, .ref a_t_sight, .int t_signs, .ref a_t_pad, .int t_touched, .int t_firstTouch, .int t_reason, .int t_acts, .ref a_t_apart, .ref a_t_rounds, .ref a_t_fewest, .ref a_t_nextFewest, .ref a_t_ways, .ref a_t_nextWays, .ref a_t_counts, .ref a_t_image, .ref a_t_isKept])), (a_t_meeting, .inl (cI, 16, .inl t_meeting))] := by
  refine met_i (cc := cX10_touchAt) (maxL := 7) (by decide) rfl (Nat.le_of_ble_eq_true rfl) ?_
  intro p e s m args below meth c Q A hx hb hml hown hts hK hN hA fin H locs ls hP hD hS hl
  replace hown : s.vm.findClass RX10 = some m.cls := hown
  replace hl : lv_has ls 7 [(0, .ref a_t), (1, .int p1), (2, .int p2)] := hl
  rw [f_X10_touchAt] at hf
  have hw19 := hts (.fieldLink RX10 19 "TouchReignModel" "meeting" "[I") (by decide +kernel)
  have hmsX10 := ms_X10_touchAt_X10
  refine lv_iload_n hx hb dX10_touchAt_0 rfl (lv_at hl 2 rfl) ?_
  refine lv_bipush (v := 8) hx hb dX10_touchAt_1 (by decide) ?_
  refine lv_idiv hx hb dX10_touchAt_3 (by decide) ?_
  refine lv_istore_n (lv' := [(3, .int (p2 / (8 : Int32))), (0, .ref a_t), (1, .int p1), (2, .int p2)]) hx hb dX10_touchAt_4 rfl hl (by decide) rfl (fun ls hl => ?_)
  refine lv_aload_n hx hb dX10_touchAt_5 rfl (lv_at hl 1 rfl) ?_
  refine va_get (D := D) (ci := 10) (v := .ref a_t_meeting) (C := RX10) (T := TX10) (N := 24) hx hb hts hmsX10 hown hK hP 0 rfl rfl 6 (by decide) hw19 (fun _ h9 => h9) rfl dX10_touchAt_6 ?_
  refine lv_iconst (v := 2) hx hb dX10_touchAt_9 (by decide) ?_
  refine lv_iload_n hx hb dX10_touchAt_10 rfl (lv_at hl 2 rfl) ?_
  refine lv_imul hx hb dX10_touchAt_11 ?_
  obtain ⟨hi12, hf⟩ := ix_if hf
  refine va_iald (D := D) hx hb hK hP 1 0 rfl rfl hi12 dX10_touchAt_12 ?_
  refine lv_istore (lv' := [(4, .int (t_meeting ((2 : Int32) * p1).toNatClampNeg)), (3, .int (p2 / (8 : Int32))), (0, .ref a_t), (1, .int p1), (2, .int p2)]) hx hb dX10_touchAt_13 hl (by decide) rfl (fun ls hl => ?_)
  refine lv_aload_n hx hb dX10_touchAt_15 rfl (lv_at hl 2 rfl) ?_
  refine va_get (D := D) (ci := 10) (v := .ref a_t_meeting) (C := RX10) (T := TX10) (N := 24) hx hb hts hmsX10 hown hK hP 0 rfl rfl 6 (by decide) hw19 (fun _ h9 => h9) rfl dX10_touchAt_16 ?_
  refine lv_iconst (v := 2) hx hb dX10_touchAt_19 (by decide) ?_
  refine lv_iload_n hx hb dX10_touchAt_20 rfl (lv_at hl 3 rfl) ?_
  refine lv_imul hx hb dX10_touchAt_21 ?_
  refine lv_iconst (v := 1) hx hb dX10_touchAt_22 (by decide) ?_
  refine lv_iadd hx hb dX10_touchAt_23 ?_
  obtain ⟨hi24, hf⟩ := ix_if hf
  refine va_iald (D := D) hx hb hK hP 1 0 rfl rfl hi24 dX10_touchAt_24 ?_
  refine lv_istore (lv' := [(5, .int (t_meeting (((2 : Int32) * p1) + (1 : Int32)).toNatClampNeg)), (4, .int (t_meeting ((2 : Int32) * p1).toNatClampNeg)), (3, .int (p2 / (8 : Int32))), (0, .ref a_t), (1, .int p1), (2, .int p2)]) hx hb dX10_touchAt_25 hl (by decide) rfl (fun ls hl => ?_)
  refine lv_iload_n hx hb dX10_touchAt_27 rfl (lv_at hl 2 rfl) ?_
  refine lv_iload hx hb dX10_touchAt_28 (lv_at hl 1 rfl) ?_
  have hB51 : ∀ (b51v3 : Int32) (b51s0 : Int32) (H : Heap) (locs : List Loc) (ls : Array Slot), va_P D vwCl [(a_t, .inr (10, [.ref a_t_roads, .int t_homes, .int t_there, .ref a_t_book, .ref a_t_now, .int t_meetings, .ref a_t_meeting, .int t_sights, .ref a_t_sight, .int t_signs, .ref a_t_pad, .int t_touched, .int t_firstTouch, .int t_reason, .int t_acts, .ref a_t_apart, .ref a_t_rounds, .ref a_t_fewest, .ref a_t_nextFewest, .ref a_t_ways, .ref a_t_nextWays, .ref a_t_counts, .ref a_t_image, .ref a_t_isKept])), (a_t_meeting, .inl (cI, 16, .inl t_meeting))] H → va_D A [(a_t, .inr (10, [.ref a_t_roads, .int t_homes, .int t_there, .ref a_t_book, .ref a_t_now, .int t_meetings, .ref a_t_meeting, .int t_sights, .ref a_t_sight, .int t_signs, .ref a_t_pad, .int t_touched, .int t_firstTouch, .int t_reason, .int t_acts, .ref a_t_apart, .ref a_t_rounds, .ref a_t_fewest, .ref a_t_nextFewest, .ref a_t_ways, .ref a_t_nextWays, .ref a_t_counts, .ref a_t_image, .ref a_t_isKept])), (a_t_meeting, .inl (cI, 16, .inl t_meeting))] → va_S A s.heap H locs → lv_has ls 7 [(2, .int p2), (3, .int b51v3)] → f_X10_touchAt_B51 p2 b51v3 b51s0 = some res → W p l e rm_X10_touchAt s m args below meth c H locs 0 0 Q (F0 m 51 ls [.int b51s0]) := by
    intro b51v3 b51s0 H locs ls hP hD hS hl hf
    rw [f_X10_touchAt_B51] at hf
    refine lv_istore (lv' := [(6, .int b51s0), (2, .int p2), (3, .int b51v3)]) hx hb dX10_touchAt_51 hl (by decide) rfl (fun ls hl => ?_)
    refine lv_iload hx hb dX10_touchAt_53 (lv_at hl 0 rfl) ?_
    refine lv_if_lt (tgt := 67) hx hb dX10_touchAt_55 (by decide) (fun hc => ?_) (fun hc => ?_)
    · replace hf := (if_pos hc).symm.trans hf
      refine lv_iload_n hx hb dX10_touchAt_67 rfl (lv_at hl 1 rfl) ?_
      refine lv_goto (tgt := 78) hx hb dX10_touchAt_68 (by decide) ?_
      obtain rfl := Option.some.inj hf
      exact fin _ _ _ _ dX10_touchAt_78 hP hD hS
    · replace hf := (if_neg hc).symm.trans hf
      refine lv_iload hx hb dX10_touchAt_58 (lv_at hl 0 rfl) ?_
      refine lv_iload_n hx hb dX10_touchAt_60 rfl (lv_at hl 1 rfl) ?_
      refine lv_bipush (v := 8) hx hb dX10_touchAt_61 (by decide) ?_
      refine lv_irem hx hb dX10_touchAt_63 (by decide) ?_
      refine lv_icmp_ne (tgt := 71) hx hb dX10_touchAt_64 (by decide) (fun hc => ?_) (fun hc => ?_)
      · replace hf := (if_neg hc).symm.trans hf
        refine lv_bipush (v := 8) hx hb dX10_touchAt_71 (by decide) ?_
        refine lv_iload hx hb dX10_touchAt_73 (lv_at hl 0 rfl) ?_
        refine lv_imul hx hb dX10_touchAt_75 ?_
        refine lv_iload_n hx hb dX10_touchAt_76 rfl (lv_at hl 2 rfl) ?_
        refine lv_iadd hx hb dX10_touchAt_77 ?_
        obtain rfl := Option.some.inj hf
        exact fin _ _ _ _ dX10_touchAt_78 hP hD hS
      · replace hf := (if_pos hc).symm.trans hf
        refine lv_iload_n hx hb dX10_touchAt_67 rfl (lv_at hl 1 rfl) ?_
        refine lv_goto (tgt := 78) hx hb dX10_touchAt_68 (by decide) ?_
        obtain rfl := Option.some.inj hf
        exact fin _ _ _ _ dX10_touchAt_78 hP hD hS
  refine lv_icmp_ne (tgt := 38) hx hb dX10_touchAt_30 (by decide) (fun hc => ?_) (fun hc => ?_)
  · replace hf := (if_neg hc).symm.trans hf
    refine lv_iload_n hx hb dX10_touchAt_38 rfl (lv_at hl 2 rfl) ?_
    refine lv_iload hx hb dX10_touchAt_39 (lv_at hl 0 rfl) ?_
    refine lv_icmp_ne (tgt := 49) hx hb dX10_touchAt_41 (by decide) (fun hc => ?_) (fun hc => ?_)
    · replace hf := (if_neg hc).symm.trans hf
      refine lv_bipush (v := -6) hx hb dX10_touchAt_49 (by decide) ?_
      exact hB51 (p2 / (8 : Int32)) (-6 : Int32) _ _ _ hP hD hS (lv_sub hl [5, 2] rfl) hf
    · replace hf := (if_pos hc).symm.trans hf
      refine lv_iload hx hb dX10_touchAt_44 (lv_at hl 1 rfl) ?_
      refine lv_goto (tgt := 51) hx hb dX10_touchAt_46 (by decide) ?_
      exact hB51 (p2 / (8 : Int32)) (t_meeting ((2 : Int32) * p1).toNatClampNeg) _ _ _ hP hD hS (lv_sub hl [5, 2] rfl) hf
  · replace hf := (if_pos hc).symm.trans hf
    refine lv_iload hx hb dX10_touchAt_33 (lv_at hl 0 rfl) ?_
    refine lv_goto (tgt := 51) hx hb dX10_touchAt_35 (by decide) ?_
    exact hB51 (p2 / (8 : Int32)) (t_meeting (((2 : Int32) * p1) + (1 : Int32)).toNatClampNeg) _ _ _ hP hD hS (lv_sub hl [5, 2] rfl) hf
abbrev rm_X10_layTouches : Room := { frames := 1, cells := 0, slots := 0, locals := 26 }
theorem ms_X10_layTouches_X10 : ∀ w ∈ u_ws RX10 TX10 24, w ∈ wsX10_layTouches := fun w h => List.mem_cons_of_mem _ (List.mem_append_right _ (h))
set_option maxHeartbeats 4000000 in
set_option maxRecDepth 100000 in
theorem c_X10_layTouches (l : Launch) (D : va_G) (cI cJ cZ cO : ClassId) (sz : Nat) (a_t : Nat) (a_t_roads : Nat) (a_t_book : Nat) (a_t_now : Nat) (a_t_meeting : Nat) (a_t_sight : Nat) (a_t_pad : Nat) (a_t_apart : Nat) (a_t_rounds : Nat) (a_t_fewest : Nat) (a_t_nextFewest : Nat) (a_t_ways : Nat) (a_t_nextWays : Nat) (a_t_counts : Nat) (a_t_image : Nat) (a_t_isKept : Nat) (t_homes : Int32) (t_there : Int32) (t_meetings : Int32) (t_sights : Int32) (t_signs : Int32) (t_touched : Int32) (t_firstTouch : Int32) (t_reason : Int32) (t_acts : Int32) (t_meeting : Nat → Int32) (t_fewest : Nat → Int32) (t_nextFewest : Nat → Int32) (p1 : Int32) (res : (Nat → Int32) × (Nat → Int32)) (hf : f_X10_layTouches t_meetings t_meeting t_fewest t_nextFewest p1 = some res) : MetV l yX10_layTouches wsX10_layTouches rm_X10_layTouches [.ref a_t, .int p1] D (tys4 cI cJ cZ cO) [(a_t, .inr (10, [.ref a_t_roads, .int t_homes, .int t_there, .ref a_t_book, .ref a_t_now, .int t_meetings, .ref a_t_meeting, .int t_sights, .ref a_t_sight, .int t_signs, .ref a_t_pad, .int t_touched, .int t_firstTouch, .int t_reason, .int t_acts, .ref a_t_apart, .ref a_t_rounds, .ref a_t_fewest, .ref a_t_nextFewest, .ref a_t_ways, .ref a_t_nextWays, .ref a_t_counts, .ref a_t_image, .ref a_t_isKept])), (a_t_meeting, .inl (cI, 16, .inl t_meeting)), (a_t_fewest, .inl (cI, 56, .inl t_fewest)), (a_t_nextFewest, .inl (cI, 56, .inl t_nextFewest))] sz [(a_t, .inr (10, [.ref a_t_roads, .int t_homes, .int t_there, .ref a_t_book, .ref a_t_now, .int t_meetings, .ref a_t_meeting, .int t_sights, .ref a_t_sight, .int t_signs, .ref a_t_pad, .int t_touched, .int t_firstTouch, .int t_reason, .int t_acts, .ref a_t_apart, .ref a_t_rounds, .ref a_t_fewest, .ref a_t_nextFewest, .ref a_t_ways, .ref a_t_nextWays, .ref a_t_counts, .ref a_t_image, .ref a_t_isKept])), (a_t_meeting, .inl (cI, 16, .inl t_meeting)), (a_t_fewest, .inl (cI, 56, .inl res.1)), (a_t_nextFewest, .inl (cI, 56, .inl res.2))] := by
  refine met_v (cc := cX10_layTouches) (maxL := 5) (by decide) rfl (Nat.le_of_ble_eq_true rfl) ?_
  intro p e s m args below meth c Q A hx hb hml hown hts hK hN hA fin H locs ls hP hD hS hl
  replace hown : s.vm.findClass RX10 = some m.cls := hown
  replace hl : lv_has ls 5 [(0, .ref a_t), (1, .int p1)] := hl
  rw [f_X10_layTouches] at hf
  have hw149 := hts (.fieldLink RX10 149 "TouchReignModel" "meetings" "I") (by decide +kernel)
  have hmsX10 := ms_X10_layTouches_X10
  have hw34 := hts (.fieldLink RX10 34 "TouchReignModel" "fewest" "[I") (by decide +kernel)
  have hw37 := hts (.fieldLink RX10 37 "TouchReignModel" "nextFewest" "[I") (by decide +kernel)
  have hcw152 := cwV (R := rm_X10_layTouches) (rm := rm_X10_touchAt) 2 hts gX10_layTouches_X10_touchAt rfl rfl rfl (by decide +kernel) ⟨Nat.le_of_ble_eq_true rfl, Nat.le_of_ble_eq_true rfl⟩
  have hc133 := hts (.constant RX10 133 (1000000)) (by decide +kernel)
  refine lv_iconst (v := 0) hx hb dX10_layTouches_0 (by decide) ?_
  refine lv_istore_n (lv' := [(2, .int (0 : Int32)), (0, .ref a_t), (1, .int p1)]) hx hb dX10_layTouches_1 rfl hl (by decide) rfl (fun ls hl => ?_)
  have hX2 : ∀ (x2t_fewest : Nat → Int32) (H : Heap) (locs : List Loc) (ls : Array Slot), va_P D vwCl [(a_t, .inr (10, [.ref a_t_roads, .int t_homes, .int t_there, .ref a_t_book, .ref a_t_now, .int t_meetings, .ref a_t_meeting, .int t_sights, .ref a_t_sight, .int t_signs, .ref a_t_pad, .int t_touched, .int t_firstTouch, .int t_reason, .int t_acts, .ref a_t_apart, .ref a_t_rounds, .ref a_t_fewest, .ref a_t_nextFewest, .ref a_t_ways, .ref a_t_nextWays, .ref a_t_counts, .ref a_t_image, .ref a_t_isKept])), (a_t_meeting, .inl (cI, 16, .inl t_meeting)), (a_t_fewest, .inl (cI, 56, .inl x2t_fewest)), (a_t_nextFewest, .inl (cI, 56, .inl t_nextFewest))] H → va_D A [(a_t, .inr (10, [.ref a_t_roads, .int t_homes, .int t_there, .ref a_t_book, .ref a_t_now, .int t_meetings, .ref a_t_meeting, .int t_sights, .ref a_t_sight, .int t_signs, .ref a_t_pad, .int t_touched, .int t_firstTouch, .int t_reason, .int t_acts, .ref a_t_apart, .ref a_t_rounds, .ref a_t_fewest, .ref a_t_nextFewest, .ref a_t_ways, .ref a_t_nextWays, .ref a_t_counts, .ref a_t_image, .ref a_t_isKept])), (a_t_meeting, .inl (cI, 16, .inl t_meeting)), (a_t_fewest, .inl (cI, 56, .inl x2t_fewest)), (a_t_nextFewest, .inl (cI, 56, .inl t_nextFewest))] → va_S A s.heap H locs → lv_has ls 5 [(0, .ref a_t)] → f_X10_layTouches_X2 t_meetings t_meeting t_nextFewest x2t_fewest = some res → W p l e rm_X10_layTouches s m args below meth c H locs 0 0 Q (F0 m 37 ls []) := by
    intro x2t_fewest H locs ls hP hD hS hl hf
    rw [f_X10_layTouches_X2] at hf
    refine lv_iconst (v := 0) hx hb dX10_layTouches_37 (by decide) ?_
    refine lv_istore_n (lv' := [(2, .int (0 : Int32)), (0, .ref a_t)]) hx hb dX10_layTouches_38 rfl hl (by decide) rfl (fun ls hl => ?_)
    have hX39 : ∀ (x39t_fewest : Nat → Int32) (x39t_nextFewest : Nat → Int32) (H : Heap) (locs : List Loc) (ls : Array Slot), va_P D vwCl [(a_t, .inr (10, [.ref a_t_roads, .int t_homes, .int t_there, .ref a_t_book, .ref a_t_now, .int t_meetings, .ref a_t_meeting, .int t_sights, .ref a_t_sight, .int t_signs, .ref a_t_pad, .int t_touched, .int t_firstTouch, .int t_reason, .int t_acts, .ref a_t_apart, .ref a_t_rounds, .ref a_t_fewest, .ref a_t_nextFewest, .ref a_t_ways, .ref a_t_nextWays, .ref a_t_counts, .ref a_t_image, .ref a_t_isKept])), (a_t_meeting, .inl (cI, 16, .inl t_meeting)), (a_t_fewest, .inl (cI, 56, .inl x39t_fewest)), (a_t_nextFewest, .inl (cI, 56, .inl x39t_nextFewest))] H → va_D A [(a_t, .inr (10, [.ref a_t_roads, .int t_homes, .int t_there, .ref a_t_book, .ref a_t_now, .int t_meetings, .ref a_t_meeting, .int t_sights, .ref a_t_sight, .int t_signs, .ref a_t_pad, .int t_touched, .int t_firstTouch, .int t_reason, .int t_acts, .ref a_t_apart, .ref a_t_rounds, .ref a_t_fewest, .ref a_t_nextFewest, .ref a_t_ways, .ref a_t_nextWays, .ref a_t_counts, .ref a_t_image, .ref a_t_isKept])), (a_t_meeting, .inl (cI, 16, .inl t_meeting)), (a_t_fewest, .inl (cI, 56, .inl x39t_fewest)), (a_t_nextFewest, .inl (cI, 56, .inl x39t_nextFewest))] → va_S A s.heap H locs → lv_has ls 5 [] → f_X10_layTouches_X39 x39t_fewest x39t_nextFewest = some res → W p l e rm_X10_layTouches s m args below meth c H locs 0 0 Q (F0 m 166 ls []) := by
      intro x39t_fewest x39t_nextFewest H locs ls hP hD hS hl hf
      rw [f_X10_layTouches_X39] at hf
      obtain rfl := Option.some.inj hf
      exact fin _ _ _ _ dX10_layTouches_166 hP hD hS
    have hL39 : ∀ (n39 : Nat), ∀ (l39v2 : Int32) (l39t_fewest : Nat → Int32) (l39t_nextFewest : Nat → Int32) (H : Heap) (locs : List Loc) (ls : Array Slot), va_P D vwCl [(a_t, .inr (10, [.ref a_t_roads, .int t_homes, .int t_there, .ref a_t_book, .ref a_t_now, .int t_meetings, .ref a_t_meeting, .int t_sights, .ref a_t_sight, .int t_signs, .ref a_t_pad, .int t_touched, .int t_firstTouch, .int t_reason, .int t_acts, .ref a_t_apart, .ref a_t_rounds, .ref a_t_fewest, .ref a_t_nextFewest, .ref a_t_ways, .ref a_t_nextWays, .ref a_t_counts, .ref a_t_image, .ref a_t_isKept])), (a_t_meeting, .inl (cI, 16, .inl t_meeting)), (a_t_fewest, .inl (cI, 56, .inl l39t_fewest)), (a_t_nextFewest, .inl (cI, 56, .inl l39t_nextFewest))] H → va_D A [(a_t, .inr (10, [.ref a_t_roads, .int t_homes, .int t_there, .ref a_t_book, .ref a_t_now, .int t_meetings, .ref a_t_meeting, .int t_sights, .ref a_t_sight, .int t_signs, .ref a_t_pad, .int t_touched, .int t_firstTouch, .int t_reason, .int t_acts, .ref a_t_apart, .ref a_t_rounds, .ref a_t_fewest, .ref a_t_nextFewest, .ref a_t_ways, .ref a_t_nextWays, .ref a_t_counts, .ref a_t_image, .ref a_t_isKept])), (a_t_meeting, .inl (cI, 16, .inl t_meeting)), (a_t_fewest, .inl (cI, 56, .inl l39t_fewest)), (a_t_nextFewest, .inl (cI, 56, .inl l39t_nextFewest))] → va_S A s.heap H locs → lv_has ls 5 [(0, .ref a_t), (2, .int l39v2)] → f_X10_layTouches_L39 t_meetings t_meeting f_X10_layTouches_X39 n39 l39v2 l39t_fewest l39t_nextFewest = some res → W p l e rm_X10_layTouches s m args below meth c H locs 0 0 Q (F0 m 39 ls []) := by
      intro n39
      induction n39 with
      | zero =>
        intro l39v2 l39t_fewest l39t_nextFewest H locs ls hP hD hS hl hf
        rw [f_X10_layTouches_L39] at hf
        cases hf
      | succ n39 ih39 =>
        intro l39v2 l39t_fewest l39t_nextFewest H locs ls hP hD hS hl hf
        rw [f_X10_layTouches_L39] at hf
        refine lv_iload_n hx hb dX10_layTouches_39 rfl (lv_at hl 1 rfl) ?_
        refine lv_aload_n hx hb dX10_layTouches_40 rfl (lv_at hl 0 rfl) ?_
        refine va_get (D := D) (ci := 10) (v := .int t_meetings) (C := RX10) (T := TX10) (N := 24) hx hb hts hmsX10 hown hK hP 0 rfl rfl 5 (by decide) hw149 (fun _ h9 => h9) rfl dX10_layTouches_41 ?_
        refine lv_icmp_ge (tgt := 166) hx hb dX10_layTouches_44 (by decide) (fun hc => ?_) (fun hc => ?_)
        · replace hf := (if_pos hc).symm.trans hf
          exact hX39 l39t_fewest l39t_nextFewest _ _ _ hP hD hS (lv_sub hl [] rfl) hf
        · replace hf := (if_neg hc).symm.trans hf
          refine lv_iconst (v := 0) hx hb dX10_layTouches_47 (by decide) ?_
          refine lv_istore_n (lv' := [(3, .int (0 : Int32)), (0, .ref a_t), (2, .int l39v2)]) hx hb dX10_layTouches_48 rfl hl (by decide) rfl (fun ls hl => ?_)
          have hX49 : ∀ (x49t_nextFewest : Nat → Int32) (H : Heap) (locs : List Loc) (ls : Array Slot), va_P D vwCl [(a_t, .inr (10, [.ref a_t_roads, .int t_homes, .int t_there, .ref a_t_book, .ref a_t_now, .int t_meetings, .ref a_t_meeting, .int t_sights, .ref a_t_sight, .int t_signs, .ref a_t_pad, .int t_touched, .int t_firstTouch, .int t_reason, .int t_acts, .ref a_t_apart, .ref a_t_rounds, .ref a_t_fewest, .ref a_t_nextFewest, .ref a_t_ways, .ref a_t_nextWays, .ref a_t_counts, .ref a_t_image, .ref a_t_isKept])), (a_t_meeting, .inl (cI, 16, .inl t_meeting)), (a_t_fewest, .inl (cI, 56, .inl l39t_fewest)), (a_t_nextFewest, .inl (cI, 56, .inl x49t_nextFewest))] H → va_D A [(a_t, .inr (10, [.ref a_t_roads, .int t_homes, .int t_there, .ref a_t_book, .ref a_t_now, .int t_meetings, .ref a_t_meeting, .int t_sights, .ref a_t_sight, .int t_signs, .ref a_t_pad, .int t_touched, .int t_firstTouch, .int t_reason, .int t_acts, .ref a_t_apart, .ref a_t_rounds, .ref a_t_fewest, .ref a_t_nextFewest, .ref a_t_ways, .ref a_t_nextWays, .ref a_t_counts, .ref a_t_image, .ref a_t_isKept])), (a_t_meeting, .inl (cI, 16, .inl t_meeting)), (a_t_fewest, .inl (cI, 56, .inl l39t_fewest)), (a_t_nextFewest, .inl (cI, 56, .inl x49t_nextFewest))] → va_S A s.heap H locs → lv_has ls 5 [(0, .ref a_t), (2, .int l39v2)] → f_X10_layTouches_X49 t_meeting l39v2 l39t_fewest (f_X10_layTouches_L39 t_meetings t_meeting f_X10_layTouches_X39 n39) x49t_nextFewest = some res → W p l e rm_X10_layTouches s m args below meth c H locs 0 0 Q (F0 m 73 ls []) := by
            intro x49t_nextFewest H locs ls hP hD hS hl hf
            rw [f_X10_layTouches_X49] at hf
            refine lv_iconst (v := 0) hx hb dX10_layTouches_73 (by decide) ?_
            refine lv_istore_n (lv' := [(3, .int (0 : Int32)), (0, .ref a_t), (2, .int l39v2)]) hx hb dX10_layTouches_74 rfl hl (by decide) rfl (fun ls hl => ?_)
            have hX75 : ∀ (x75t_nextFewest : Nat → Int32) (H : Heap) (locs : List Loc) (ls : Array Slot), va_P D vwCl [(a_t, .inr (10, [.ref a_t_roads, .int t_homes, .int t_there, .ref a_t_book, .ref a_t_now, .int t_meetings, .ref a_t_meeting, .int t_sights, .ref a_t_sight, .int t_signs, .ref a_t_pad, .int t_touched, .int t_firstTouch, .int t_reason, .int t_acts, .ref a_t_apart, .ref a_t_rounds, .ref a_t_fewest, .ref a_t_nextFewest, .ref a_t_ways, .ref a_t_nextWays, .ref a_t_counts, .ref a_t_image, .ref a_t_isKept])), (a_t_meeting, .inl (cI, 16, .inl t_meeting)), (a_t_fewest, .inl (cI, 56, .inl l39t_fewest)), (a_t_nextFewest, .inl (cI, 56, .inl x75t_nextFewest))] H → va_D A [(a_t, .inr (10, [.ref a_t_roads, .int t_homes, .int t_there, .ref a_t_book, .ref a_t_now, .int t_meetings, .ref a_t_meeting, .int t_sights, .ref a_t_sight, .int t_signs, .ref a_t_pad, .int t_touched, .int t_firstTouch, .int t_reason, .int t_acts, .ref a_t_apart, .ref a_t_rounds, .ref a_t_fewest, .ref a_t_nextFewest, .ref a_t_ways, .ref a_t_nextWays, .ref a_t_counts, .ref a_t_image, .ref a_t_isKept])), (a_t_meeting, .inl (cI, 16, .inl t_meeting)), (a_t_fewest, .inl (cI, 56, .inl l39t_fewest)), (a_t_nextFewest, .inl (cI, 56, .inl x75t_nextFewest))] → va_S A s.heap H locs → lv_has ls 5 [(0, .ref a_t), (2, .int l39v2)] → f_X10_layTouches_X75 l39v2 l39t_fewest (f_X10_layTouches_L39 t_meetings t_meeting f_X10_layTouches_X39 n39) x75t_nextFewest = some res → W p l e rm_X10_layTouches s m args below meth c H locs 0 0 Q (F0 m 134 ls []) := by
              intro x75t_nextFewest H locs ls hP hD hS hl hf
              rw [f_X10_layTouches_X75] at hf
              refine lv_iconst (v := 0) hx hb dX10_layTouches_134 (by decide) ?_
              refine lv_istore_n (lv' := [(3, .int (0 : Int32)), (0, .ref a_t), (2, .int l39v2)]) hx hb dX10_layTouches_135 rfl hl (by decide) rfl (fun ls hl => ?_)
              have hX136 : ∀ (x136t_fewest : Nat → Int32) (H : Heap) (locs : List Loc) (ls : Array Slot), va_P D vwCl [(a_t, .inr (10, [.ref a_t_roads, .int t_homes, .int t_there, .ref a_t_book, .ref a_t_now, .int t_meetings, .ref a_t_meeting, .int t_sights, .ref a_t_sight, .int t_signs, .ref a_t_pad, .int t_touched, .int t_firstTouch, .int t_reason, .int t_acts, .ref a_t_apart, .ref a_t_rounds, .ref a_t_fewest, .ref a_t_nextFewest, .ref a_t_ways, .ref a_t_nextWays, .ref a_t_counts, .ref a_t_image, .ref a_t_isKept])), (a_t_meeting, .inl (cI, 16, .inl t_meeting)), (a_t_fewest, .inl (cI, 56, .inl x136t_fewest)), (a_t_nextFewest, .inl (cI, 56, .inl x75t_nextFewest))] H → va_D A [(a_t, .inr (10, [.ref a_t_roads, .int t_homes, .int t_there, .ref a_t_book, .ref a_t_now, .int t_meetings, .ref a_t_meeting, .int t_sights, .ref a_t_sight, .int t_signs, .ref a_t_pad, .int t_touched, .int t_firstTouch, .int t_reason, .int t_acts, .ref a_t_apart, .ref a_t_rounds, .ref a_t_fewest, .ref a_t_nextFewest, .ref a_t_ways, .ref a_t_nextWays, .ref a_t_counts, .ref a_t_image, .ref a_t_isKept])), (a_t_meeting, .inl (cI, 16, .inl t_meeting)), (a_t_fewest, .inl (cI, 56, .inl x136t_fewest)), (a_t_nextFewest, .inl (cI, 56, .inl x75t_nextFewest))] → va_S A s.heap H locs → lv_has ls 5 [(0, .ref a_t), (2, .int l39v2)] → f_X10_layTouches_X136 l39v2 (f_X10_layTouches_L39 t_meetings t_meeting f_X10_layTouches_X39 n39) x75t_nextFewest x136t_fewest = some res → W p l e rm_X10_layTouches s m args below meth c H locs 0 0 Q (F0 m 160 ls []) := by
                intro x136t_fewest H locs ls hP hD hS hl hf
                rw [f_X10_layTouches_X136] at hf
                refine lv_iinc (v := l39v2 + 1) (lv' := [(2, .int (l39v2 + 1)), (0, .ref a_t)]) hx hb dX10_layTouches_160 hl (k := 1) rfl rfl (by decide) rfl (fun ls hl => ?_)
                refine lv_goto (tgt := 39) hx hb dX10_layTouches_163 (by decide) ?_
                exact ih39 (l39v2 + 1) x136t_fewest x75t_nextFewest _ _ _ hP hD hS (lv_sub hl [1, 0] rfl) hf
              have hL136 : ∀ (n136 : Nat), ∀ (l136v3 : Int32) (l136t_fewest : Nat → Int32) (H : Heap) (locs : List Loc) (ls : Array Slot), va_P D vwCl [(a_t, .inr (10, [.ref a_t_roads, .int t_homes, .int t_there, .ref a_t_book, .ref a_t_now, .int t_meetings, .ref a_t_meeting, .int t_sights, .ref a_t_sight, .int t_signs, .ref a_t_pad, .int t_touched, .int t_firstTouch, .int t_reason, .int t_acts, .ref a_t_apart, .ref a_t_rounds, .ref a_t_fewest, .ref a_t_nextFewest, .ref a_t_ways, .ref a_t_nextWays, .ref a_t_counts, .ref a_t_image, .ref a_t_isKept])), (a_t_meeting, .inl (cI, 16, .inl t_meeting)), (a_t_fewest, .inl (cI, 56, .inl l136t_fewest)), (a_t_nextFewest, .inl (cI, 56, .inl x75t_nextFewest))] H → va_D A [(a_t, .inr (10, [.ref a_t_roads, .int t_homes, .int t_there, .ref a_t_book, .ref a_t_now, .int t_meetings, .ref a_t_meeting, .int t_sights, .ref a_t_sight, .int t_signs, .ref a_t_pad, .int t_touched, .int t_firstTouch, .int t_reason, .int t_acts, .ref a_t_apart, .ref a_t_rounds, .ref a_t_fewest, .ref a_t_nextFewest, .ref a_t_ways, .ref a_t_nextWays, .ref a_t_counts, .ref a_t_image, .ref a_t_isKept])), (a_t_meeting, .inl (cI, 16, .inl t_meeting)), (a_t_fewest, .inl (cI, 56, .inl l136t_fewest)), (a_t_nextFewest, .inl (cI, 56, .inl x75t_nextFewest))] → va_S A s.heap H locs → lv_has ls 5 [(0, .ref a_t), (2, .int l39v2), (3, .int l136v3)] → f_X10_layTouches_L136 x75t_nextFewest (f_X10_layTouches_X136 l39v2 (f_X10_layTouches_L39 t_meetings t_meeting f_X10_layTouches_X39 n39) x75t_nextFewest) n136 l136v3 l136t_fewest = some res → W p l e rm_X10_layTouches s m args below meth c H locs 0 0 Q (F0 m 136 ls []) := by
                intro n136
                induction n136 with
                | zero =>
                  intro l136v3 l136t_fewest H locs ls hP hD hS hl hf
                  rw [f_X10_layTouches_L136] at hf
                  cases hf
                | succ n136 ih136 =>
                  intro l136v3 l136t_fewest H locs ls hP hD hS hl hf
                  rw [f_X10_layTouches_L136] at hf
                  refine lv_iload_n hx hb dX10_layTouches_136 rfl (lv_at hl 2 rfl) ?_
                  refine lv_bipush (v := 56) hx hb dX10_layTouches_137 (by decide) ?_
                  refine lv_icmp_ge (tgt := 160) hx hb dX10_layTouches_139 (by decide) (fun hc => ?_) (fun hc => ?_)
                  · replace hf := (if_pos hc).symm.trans hf
                    exact hX136 l136t_fewest _ _ _ hP hD hS (lv_sub hl [0, 1] rfl) hf
                  · replace hf := (if_neg hc).symm.trans hf
                    refine lv_aload_n hx hb dX10_layTouches_142 rfl (lv_at hl 0 rfl) ?_
                    refine va_get (D := D) (ci := 10) (v := .ref a_t_fewest) (C := RX10) (T := TX10) (N := 24) hx hb hts hmsX10 hown hK hP 0 rfl rfl 17 (by decide) hw34 (fun _ h9 => h9) rfl dX10_layTouches_143 ?_
                    refine lv_iload_n hx hb dX10_layTouches_146 rfl (lv_at hl 2 rfl) ?_
                    refine lv_aload_n hx hb dX10_layTouches_147 rfl (lv_at hl 0 rfl) ?_
                    refine va_get (D := D) (ci := 10) (v := .ref a_t_nextFewest) (C := RX10) (T := TX10) (N := 24) hx hb hts hmsX10 hown hK hP 0 rfl rfl 18 (by decide) hw37 (fun _ h9 => h9) rfl dX10_layTouches_148 ?_
                    refine lv_iload_n hx hb dX10_layTouches_151 rfl (lv_at hl 2 rfl) ?_
                    obtain ⟨hi152, hf⟩ := ix_if hf
                    refine va_iald (D := D) hx hb hK hP 3 0 rfl rfl hi152 dX10_layTouches_152 ?_
                    refine va_iast (D := D) hx hb hK hP hD hS 2 0 rfl rfl hi152 dX10_layTouches_153 (fun H locs hP hD hS => ?_)
                    replace hP : va_P D vwCl [(a_t, .inr (10, [.ref a_t_roads, .int t_homes, .int t_there, .ref a_t_book, .ref a_t_now, .int t_meetings, .ref a_t_meeting, .int t_sights, .ref a_t_sight, .int t_signs, .ref a_t_pad, .int t_touched, .int t_firstTouch, .int t_reason, .int t_acts, .ref a_t_apart, .ref a_t_rounds, .ref a_t_fewest, .ref a_t_nextFewest, .ref a_t_ways, .ref a_t_nextWays, .ref a_t_counts, .ref a_t_image, .ref a_t_isKept])), (a_t_meeting, .inl (cI, 16, .inl t_meeting)), (a_t_fewest, .inl (cI, 56, .inl (upd l136t_fewest l136v3.toNatClampNeg (x75t_nextFewest l136v3.toNatClampNeg)))), (a_t_nextFewest, .inl (cI, 56, .inl x75t_nextFewest))] H := hP
                    replace hD : va_D A [(a_t, .inr (10, [.ref a_t_roads, .int t_homes, .int t_there, .ref a_t_book, .ref a_t_now, .int t_meetings, .ref a_t_meeting, .int t_sights, .ref a_t_sight, .int t_signs, .ref a_t_pad, .int t_touched, .int t_firstTouch, .int t_reason, .int t_acts, .ref a_t_apart, .ref a_t_rounds, .ref a_t_fewest, .ref a_t_nextFewest, .ref a_t_ways, .ref a_t_nextWays, .ref a_t_counts, .ref a_t_image, .ref a_t_isKept])), (a_t_meeting, .inl (cI, 16, .inl t_meeting)), (a_t_fewest, .inl (cI, 56, .inl (upd l136t_fewest l136v3.toNatClampNeg (x75t_nextFewest l136v3.toNatClampNeg)))), (a_t_nextFewest, .inl (cI, 56, .inl x75t_nextFewest))] := hD
                    refine lv_iinc (v := l136v3 + 1) (lv' := [(3, .int (l136v3 + 1)), (0, .ref a_t), (2, .int l39v2)]) hx hb dX10_layTouches_154 hl (k := 2) rfl rfl (by decide) rfl (fun ls hl => ?_)
                    refine lv_goto (tgt := 136) hx hb dX10_layTouches_157 (by decide) ?_
                    exact ih136 (l136v3 + 1) (upd l136t_fewest l136v3.toNatClampNeg (x75t_nextFewest l136v3.toNatClampNeg)) _ _ _ hP hD hS (lv_sub hl [1, 2, 0] rfl) hf
              exact hL136 5000 (0 : Int32) l39t_fewest _ _ _ hP hD hS (lv_sub hl [1, 2, 0] rfl) hf
            have hL75 : ∀ (n75 : Nat), ∀ (l75v3 : Int32) (l75t_nextFewest : Nat → Int32) (H : Heap) (locs : List Loc) (ls : Array Slot), va_P D vwCl [(a_t, .inr (10, [.ref a_t_roads, .int t_homes, .int t_there, .ref a_t_book, .ref a_t_now, .int t_meetings, .ref a_t_meeting, .int t_sights, .ref a_t_sight, .int t_signs, .ref a_t_pad, .int t_touched, .int t_firstTouch, .int t_reason, .int t_acts, .ref a_t_apart, .ref a_t_rounds, .ref a_t_fewest, .ref a_t_nextFewest, .ref a_t_ways, .ref a_t_nextWays, .ref a_t_counts, .ref a_t_image, .ref a_t_isKept])), (a_t_meeting, .inl (cI, 16, .inl t_meeting)), (a_t_fewest, .inl (cI, 56, .inl l39t_fewest)), (a_t_nextFewest, .inl (cI, 56, .inl l75t_nextFewest))] H → va_D A [(a_t, .inr (10, [.ref a_t_roads, .int t_homes, .int t_there, .ref a_t_book, .ref a_t_now, .int t_meetings, .ref a_t_meeting, .int t_sights, .ref a_t_sight, .int t_signs, .ref a_t_pad, .int t_touched, .int t_firstTouch, .int t_reason, .int t_acts, .ref a_t_apart, .ref a_t_rounds, .ref a_t_fewest, .ref a_t_nextFewest, .ref a_t_ways, .ref a_t_nextWays, .ref a_t_counts, .ref a_t_image, .ref a_t_isKept])), (a_t_meeting, .inl (cI, 16, .inl t_meeting)), (a_t_fewest, .inl (cI, 56, .inl l39t_fewest)), (a_t_nextFewest, .inl (cI, 56, .inl l75t_nextFewest))] → va_S A s.heap H locs → lv_has ls 5 [(0, .ref a_t), (2, .int l39v2), (3, .int l75v3)] → f_X10_layTouches_L75 t_meeting l39v2 l39t_fewest (f_X10_layTouches_X75 l39v2 l39t_fewest (f_X10_layTouches_L39 t_meetings t_meeting f_X10_layTouches_X39 n39)) n75 l75v3 l75t_nextFewest = some res → W p l e rm_X10_layTouches s m args below meth c H locs 0 0 Q (F0 m 75 ls []) := by
              intro n75
              induction n75 with
              | zero =>
                intro l75v3 l75t_nextFewest H locs ls hP hD hS hl hf
                rw [f_X10_layTouches_L75] at hf
                cases hf
              | succ n75 ih75 =>
                intro l75v3 l75t_nextFewest H locs ls hP hD hS hl hf
                rw [f_X10_layTouches_L75] at hf
                refine lv_iload_n hx hb dX10_layTouches_75 rfl (lv_at hl 2 rfl) ?_
                refine lv_bipush (v := 56) hx hb dX10_layTouches_76 (by decide) ?_
                refine lv_icmp_ge (tgt := 134) hx hb dX10_layTouches_78 (by decide) (fun hc => ?_) (fun hc => ?_)
                · replace hf := (if_pos hc).symm.trans hf
                  exact hX75 l75t_nextFewest _ _ _ hP hD hS (lv_sub hl [0, 1] rfl) hf
                · replace hf := (if_neg hc).symm.trans hf
                  refine lv_aload_n hx hb dX10_layTouches_81 rfl (lv_at hl 0 rfl) ?_
                  refine lv_iload_n hx hb dX10_layTouches_82 rfl (lv_at hl 1 rfl) ?_
                  refine lv_iload_n hx hb dX10_layTouches_83 rfl (lv_at hl 2 rfl) ?_
                  obtain ⟨x84, hx84, hf⟩ := bd_if hf
                  refine cv_i (wr := [(a_t_fewest, .inl (cI, 56, .inl l39t_fewest)), (a_t_nextFewest, .inl (cI, 56, .inl l75t_nextFewest))]) (ws' := [(a_t, .inr (10, [.ref a_t_roads, .int t_homes, .int t_there, .ref a_t_book, .ref a_t_now, .int t_meetings, .ref a_t_meeting, .int t_sights, .ref a_t_sight, .int t_signs, .ref a_t_pad, .int t_touched, .int t_firstTouch, .int t_reason, .int t_acts, .ref a_t_apart, .ref a_t_rounds, .ref a_t_fewest, .ref a_t_nextFewest, .ref a_t_ways, .ref a_t_nextWays, .ref a_t_counts, .ref a_t_image, .ref a_t_isKept])), (a_t_meeting, .inl (cI, 16, .inl t_meeting)), (a_t_fewest, .inl (cI, 56, .inl l39t_fewest)), (a_t_nextFewest, .inl (cI, 56, .inl l75t_nextFewest))]) ⟨hx, hb, hml, hown, hts⟩ hcw152 hK hN hP hD hS hA (c_X10_touchAt l D cI cJ cZ cO _ a_t a_t_roads a_t_book a_t_now a_t_meeting a_t_sight a_t_pad a_t_apart a_t_rounds a_t_fewest a_t_nextFewest a_t_ways a_t_nextWays a_t_counts a_t_image a_t_isKept t_homes t_there t_meetings t_sights t_signs t_touched t_firstTouch t_reason t_acts t_meeting l39v2 l75v3 x84 hx84) (q := (RX10, TX10, 24)) (ci := 10) (q0 := 0) rfl rfl [0, 1] [2, 3] [2, 3, 0, 1] rfl rfl rfl rfl (by decide) rfl rfl rfl hl.1 rfl (Nat.le_of_ble_eq_true rfl) dX10_layTouches_84 ⟨Nat.zero_le _, Nat.zero_le _⟩ (fun H locs hP hD hS => ?_)
                  refine lv_istore (lv' := [(4, .int x84), (0, .ref a_t), (2, .int l39v2), (3, .int l75v3)]) hx hb dX10_layTouches_87 hl (by decide) rfl (fun ls hl => ?_)
                  refine lv_iload hx hb dX10_layTouches_89 (lv_at hl 0 rfl) ?_
                  refine lv_iload_n hx hb dX10_layTouches_91 rfl (lv_at hl 3 rfl) ?_
                  refine lv_icmp_eq (tgt := 128) hx hb dX10_layTouches_92 (by decide) (fun hc => ?_) (fun hc => ?_)
                  · replace hf := (if_pos hc).symm.trans hf
                    refine lv_iinc (v := l75v3 + 1) (lv' := [(3, .int (l75v3 + 1)), (4, .int x84), (0, .ref a_t), (2, .int l39v2)]) hx hb dX10_layTouches_128 hl (k := 3) rfl rfl (by decide) rfl (fun ls hl => ?_)
                    refine lv_goto (tgt := 75) hx hb dX10_layTouches_131 (by decide) ?_
                    exact ih75 (l75v3 + 1) l75t_nextFewest _ _ _ hP hD hS (lv_sub hl [2, 3, 0] rfl) hf
                  · replace hf := (if_neg hc).symm.trans hf
                    refine lv_aload_n hx hb dX10_layTouches_95 rfl (lv_at hl 1 rfl) ?_
                    refine va_get (D := D) (ci := 10) (v := .ref a_t_fewest) (C := RX10) (T := TX10) (N := 24) hx hb hts hmsX10 hown hK hP 0 rfl rfl 17 (by decide) hw34 (fun _ h9 => h9) rfl dX10_layTouches_96 ?_
                    refine lv_iload_n hx hb dX10_layTouches_99 rfl (lv_at hl 3 rfl) ?_
                    obtain ⟨hi100, hf⟩ := ix_if hf
                    refine va_iald (D := D) hx hb hK hP 2 0 rfl rfl hi100 dX10_layTouches_100 ?_
                    refine lv_iconst (v := 1) hx hb dX10_layTouches_101 (by decide) ?_
                    refine lv_iadd hx hb dX10_layTouches_102 ?_
                    refine lv_aload_n hx hb dX10_layTouches_103 rfl (lv_at hl 1 rfl) ?_
                    refine va_get (D := D) (ci := 10) (v := .ref a_t_nextFewest) (C := RX10) (T := TX10) (N := 24) hx hb hts hmsX10 hown hK hP 0 rfl rfl 18 (by decide) hw37 (fun _ h9 => h9) rfl dX10_layTouches_104 ?_
                    refine lv_iload hx hb dX10_layTouches_107 (lv_at hl 0 rfl) ?_
                    obtain ⟨hi109, hf⟩ := ix_if hf
                    refine va_iald (D := D) hx hb hK hP 3 0 rfl rfl hi109 dX10_layTouches_109 ?_
                    refine lv_icmp_ge (tgt := 128) hx hb dX10_layTouches_110 (by decide) (fun hc => ?_) (fun hc => ?_)
                    · replace hf := (if_pos hc).symm.trans hf
                      refine lv_iinc (v := l75v3 + 1) (lv' := [(3, .int (l75v3 + 1)), (4, .int x84), (0, .ref a_t), (2, .int l39v2)]) hx hb dX10_layTouches_128 hl (k := 3) rfl rfl (by decide) rfl (fun ls hl => ?_)
                      refine lv_goto (tgt := 75) hx hb dX10_layTouches_131 (by decide) ?_
                      exact ih75 (l75v3 + 1) l75t_nextFewest _ _ _ hP hD hS (lv_sub hl [2, 3, 0] rfl) hf
                    · replace hf := (if_neg hc).symm.trans hf
                      refine lv_aload_n hx hb dX10_layTouches_113 rfl (lv_at hl 1 rfl) ?_
                      refine va_get (D := D) (ci := 10) (v := .ref a_t_nextFewest) (C := RX10) (T := TX10) (N := 24) hx hb hts hmsX10 hown hK hP 0 rfl rfl 18 (by decide) hw37 (fun _ h9 => h9) rfl dX10_layTouches_114 ?_
                      refine lv_iload hx hb dX10_layTouches_117 (lv_at hl 0 rfl) ?_
                      refine lv_aload_n hx hb dX10_layTouches_119 rfl (lv_at hl 1 rfl) ?_
                      refine va_get (D := D) (ci := 10) (v := .ref a_t_fewest) (C := RX10) (T := TX10) (N := 24) hx hb hts hmsX10 hown hK hP 0 rfl rfl 17 (by decide) hw34 (fun _ h9 => h9) rfl dX10_layTouches_120 ?_
                      refine lv_iload_n hx hb dX10_layTouches_123 rfl (lv_at hl 3 rfl) ?_
                      refine va_iald (D := D) hx hb hK hP 2 0 rfl rfl hi100 dX10_layTouches_124 ?_
                      refine lv_iconst (v := 1) hx hb dX10_layTouches_125 (by decide) ?_
                      refine lv_iadd hx hb dX10_layTouches_126 ?_
                      refine va_iast (D := D) hx hb hK hP hD hS 3 0 rfl rfl hi109 dX10_layTouches_127 (fun H locs hP hD hS => ?_)
                      replace hP : va_P D vwCl [(a_t, .inr (10, [.ref a_t_roads, .int t_homes, .int t_there, .ref a_t_book, .ref a_t_now, .int t_meetings, .ref a_t_meeting, .int t_sights, .ref a_t_sight, .int t_signs, .ref a_t_pad, .int t_touched, .int t_firstTouch, .int t_reason, .int t_acts, .ref a_t_apart, .ref a_t_rounds, .ref a_t_fewest, .ref a_t_nextFewest, .ref a_t_ways, .ref a_t_nextWays, .ref a_t_counts, .ref a_t_image, .ref a_t_isKept])), (a_t_meeting, .inl (cI, 16, .inl t_meeting)), (a_t_fewest, .inl (cI, 56, .inl l39t_fewest)), (a_t_nextFewest, .inl (cI, 56, .inl (upd l75t_nextFewest x84.toNatClampNeg ((l39t_fewest l75v3.toNatClampNeg) + (1 : Int32)))))] H := hP
                      replace hD : va_D A [(a_t, .inr (10, [.ref a_t_roads, .int t_homes, .int t_there, .ref a_t_book, .ref a_t_now, .int t_meetings, .ref a_t_meeting, .int t_sights, .ref a_t_sight, .int t_signs, .ref a_t_pad, .int t_touched, .int t_firstTouch, .int t_reason, .int t_acts, .ref a_t_apart, .ref a_t_rounds, .ref a_t_fewest, .ref a_t_nextFewest, .ref a_t_ways, .ref a_t_nextWays, .ref a_t_counts, .ref a_t_image, .ref a_t_isKept])), (a_t_meeting, .inl (cI, 16, .inl t_meeting)), (a_t_fewest, .inl (cI, 56, .inl l39t_fewest)), (a_t_nextFewest, .inl (cI, 56, .inl (upd l75t_nextFewest x84.toNatClampNeg ((l39t_fewest l75v3.toNatClampNeg) + (1 : Int32)))))] := hD
                      refine lv_iinc (v := l75v3 + 1) (lv' := [(3, .int (l75v3 + 1)), (4, .int x84), (0, .ref a_t), (2, .int l39v2)]) hx hb dX10_layTouches_128 hl (k := 3) rfl rfl (by decide) rfl (fun ls hl => ?_)
                      refine lv_goto (tgt := 75) hx hb dX10_layTouches_131 (by decide) ?_
                      exact ih75 (l75v3 + 1) (upd l75t_nextFewest x84.toNatClampNeg ((l39t_fewest l75v3.toNatClampNeg) + (1 : Int32))) _ _ _ hP hD hS (lv_sub hl [2, 3, 0] rfl) hf
            exact hL75 5000 (0 : Int32) x49t_nextFewest _ _ _ hP hD hS (lv_sub hl [1, 2, 0] rfl) hf
          have hL49 : ∀ (n49 : Nat), ∀ (l49v3 : Int32) (l49t_nextFewest : Nat → Int32) (H : Heap) (locs : List Loc) (ls : Array Slot), va_P D vwCl [(a_t, .inr (10, [.ref a_t_roads, .int t_homes, .int t_there, .ref a_t_book, .ref a_t_now, .int t_meetings, .ref a_t_meeting, .int t_sights, .ref a_t_sight, .int t_signs, .ref a_t_pad, .int t_touched, .int t_firstTouch, .int t_reason, .int t_acts, .ref a_t_apart, .ref a_t_rounds, .ref a_t_fewest, .ref a_t_nextFewest, .ref a_t_ways, .ref a_t_nextWays, .ref a_t_counts, .ref a_t_image, .ref a_t_isKept])), (a_t_meeting, .inl (cI, 16, .inl t_meeting)), (a_t_fewest, .inl (cI, 56, .inl l39t_fewest)), (a_t_nextFewest, .inl (cI, 56, .inl l49t_nextFewest))] H → va_D A [(a_t, .inr (10, [.ref a_t_roads, .int t_homes, .int t_there, .ref a_t_book, .ref a_t_now, .int t_meetings, .ref a_t_meeting, .int t_sights, .ref a_t_sight, .int t_signs, .ref a_t_pad, .int t_touched, .int t_firstTouch, .int t_reason, .int t_acts, .ref a_t_apart, .ref a_t_rounds, .ref a_t_fewest, .ref a_t_nextFewest, .ref a_t_ways, .ref a_t_nextWays, .ref a_t_counts, .ref a_t_image, .ref a_t_isKept])), (a_t_meeting, .inl (cI, 16, .inl t_meeting)), (a_t_fewest, .inl (cI, 56, .inl l39t_fewest)), (a_t_nextFewest, .inl (cI, 56, .inl l49t_nextFewest))] → va_S A s.heap H locs → lv_has ls 5 [(0, .ref a_t), (2, .int l39v2), (3, .int l49v3)] → f_X10_layTouches_L49 l39t_fewest (f_X10_layTouches_X49 t_meeting l39v2 l39t_fewest (f_X10_layTouches_L39 t_meetings t_meeting f_X10_layTouches_X39 n39)) n49 l49v3 l49t_nextFewest = some res → W p l e rm_X10_layTouches s m args below meth c H locs 0 0 Q (F0 m 49 ls []) := by
            intro n49
            induction n49 with
            | zero =>
              intro l49v3 l49t_nextFewest H locs ls hP hD hS hl hf
              rw [f_X10_layTouches_L49] at hf
              cases hf
            | succ n49 ih49 =>
              intro l49v3 l49t_nextFewest H locs ls hP hD hS hl hf
              rw [f_X10_layTouches_L49] at hf
              refine lv_iload_n hx hb dX10_layTouches_49 rfl (lv_at hl 2 rfl) ?_
              refine lv_bipush (v := 56) hx hb dX10_layTouches_50 (by decide) ?_
              refine lv_icmp_ge (tgt := 73) hx hb dX10_layTouches_52 (by decide) (fun hc => ?_) (fun hc => ?_)
              · replace hf := (if_pos hc).symm.trans hf
                exact hX49 l49t_nextFewest _ _ _ hP hD hS (lv_sub hl [0, 1] rfl) hf
              · replace hf := (if_neg hc).symm.trans hf
                refine lv_aload_n hx hb dX10_layTouches_55 rfl (lv_at hl 0 rfl) ?_
                refine va_get (D := D) (ci := 10) (v := .ref a_t_nextFewest) (C := RX10) (T := TX10) (N := 24) hx hb hts hmsX10 hown hK hP 0 rfl rfl 18 (by decide) hw37 (fun _ h9 => h9) rfl dX10_layTouches_56 ?_
                refine lv_iload_n hx hb dX10_layTouches_59 rfl (lv_at hl 2 rfl) ?_
                refine lv_aload_n hx hb dX10_layTouches_60 rfl (lv_at hl 0 rfl) ?_
                refine va_get (D := D) (ci := 10) (v := .ref a_t_fewest) (C := RX10) (T := TX10) (N := 24) hx hb hts hmsX10 hown hK hP 0 rfl rfl 17 (by decide) hw34 (fun _ h9 => h9) rfl dX10_layTouches_61 ?_
                refine lv_iload_n hx hb dX10_layTouches_64 rfl (lv_at hl 2 rfl) ?_
                obtain ⟨hi65, hf⟩ := ix_if hf
                refine va_iald (D := D) hx hb hK hP 2 0 rfl rfl hi65 dX10_layTouches_65 ?_
                refine va_iast (D := D) hx hb hK hP hD hS 3 0 rfl rfl hi65 dX10_layTouches_66 (fun H locs hP hD hS => ?_)
                replace hP : va_P D vwCl [(a_t, .inr (10, [.ref a_t_roads, .int t_homes, .int t_there, .ref a_t_book, .ref a_t_now, .int t_meetings, .ref a_t_meeting, .int t_sights, .ref a_t_sight, .int t_signs, .ref a_t_pad, .int t_touched, .int t_firstTouch, .int t_reason, .int t_acts, .ref a_t_apart, .ref a_t_rounds, .ref a_t_fewest, .ref a_t_nextFewest, .ref a_t_ways, .ref a_t_nextWays, .ref a_t_counts, .ref a_t_image, .ref a_t_isKept])), (a_t_meeting, .inl (cI, 16, .inl t_meeting)), (a_t_fewest, .inl (cI, 56, .inl l39t_fewest)), (a_t_nextFewest, .inl (cI, 56, .inl (upd l49t_nextFewest l49v3.toNatClampNeg (l39t_fewest l49v3.toNatClampNeg))))] H := hP
                replace hD : va_D A [(a_t, .inr (10, [.ref a_t_roads, .int t_homes, .int t_there, .ref a_t_book, .ref a_t_now, .int t_meetings, .ref a_t_meeting, .int t_sights, .ref a_t_sight, .int t_signs, .ref a_t_pad, .int t_touched, .int t_firstTouch, .int t_reason, .int t_acts, .ref a_t_apart, .ref a_t_rounds, .ref a_t_fewest, .ref a_t_nextFewest, .ref a_t_ways, .ref a_t_nextWays, .ref a_t_counts, .ref a_t_image, .ref a_t_isKept])), (a_t_meeting, .inl (cI, 16, .inl t_meeting)), (a_t_fewest, .inl (cI, 56, .inl l39t_fewest)), (a_t_nextFewest, .inl (cI, 56, .inl (upd l49t_nextFewest l49v3.toNatClampNeg (l39t_fewest l49v3.toNatClampNeg))))] := hD
                refine lv_iinc (v := l49v3 + 1) (lv' := [(3, .int (l49v3 + 1)), (0, .ref a_t), (2, .int l39v2)]) hx hb dX10_layTouches_67 hl (k := 2) rfl rfl (by decide) rfl (fun ls hl => ?_)
                refine lv_goto (tgt := 49) hx hb dX10_layTouches_70 (by decide) ?_
                exact ih49 (l49v3 + 1) (upd l49t_nextFewest l49v3.toNatClampNeg (l39t_fewest l49v3.toNatClampNeg)) _ _ _ hP hD hS (lv_sub hl [1, 2, 0] rfl) hf
          exact hL49 5000 (0 : Int32) l39t_nextFewest _ _ _ hP hD hS (lv_sub hl [1, 2, 0] rfl) hf
    exact hL39 5000 (0 : Int32) x2t_fewest t_nextFewest _ _ _ hP hD hS (lv_sub hl [1, 0] rfl) hf
  have hL2 : ∀ (n2 : Nat), ∀ (l2v2 : Int32) (l2t_fewest : Nat → Int32) (H : Heap) (locs : List Loc) (ls : Array Slot), va_P D vwCl [(a_t, .inr (10, [.ref a_t_roads, .int t_homes, .int t_there, .ref a_t_book, .ref a_t_now, .int t_meetings, .ref a_t_meeting, .int t_sights, .ref a_t_sight, .int t_signs, .ref a_t_pad, .int t_touched, .int t_firstTouch, .int t_reason, .int t_acts, .ref a_t_apart, .ref a_t_rounds, .ref a_t_fewest, .ref a_t_nextFewest, .ref a_t_ways, .ref a_t_nextWays, .ref a_t_counts, .ref a_t_image, .ref a_t_isKept])), (a_t_meeting, .inl (cI, 16, .inl t_meeting)), (a_t_fewest, .inl (cI, 56, .inl l2t_fewest)), (a_t_nextFewest, .inl (cI, 56, .inl t_nextFewest))] H → va_D A [(a_t, .inr (10, [.ref a_t_roads, .int t_homes, .int t_there, .ref a_t_book, .ref a_t_now, .int t_meetings, .ref a_t_meeting, .int t_sights, .ref a_t_sight, .int t_signs, .ref a_t_pad, .int t_touched, .int t_firstTouch, .int t_reason, .int t_acts, .ref a_t_apart, .ref a_t_rounds, .ref a_t_fewest, .ref a_t_nextFewest, .ref a_t_ways, .ref a_t_nextWays, .ref a_t_counts, .ref a_t_image, .ref a_t_isKept])), (a_t_meeting, .inl (cI, 16, .inl t_meeting)), (a_t_fewest, .inl (cI, 56, .inl l2t_fewest)), (a_t_nextFewest, .inl (cI, 56, .inl t_nextFewest))] → va_S A s.heap H locs → lv_has ls 5 [(0, .ref a_t), (1, .int p1), (2, .int l2v2)] → f_X10_layTouches_L2 p1 (f_X10_layTouches_X2 t_meetings t_meeting t_nextFewest) n2 l2v2 l2t_fewest = some res → W p l e rm_X10_layTouches s m args below meth c H locs 0 0 Q (F0 m 2 ls []) := by
    intro n2
    induction n2 with
    | zero =>
      intro l2v2 l2t_fewest H locs ls hP hD hS hl hf
      rw [f_X10_layTouches_L2] at hf
      cases hf
    | succ n2 ih2 =>
      intro l2v2 l2t_fewest H locs ls hP hD hS hl hf
      rw [f_X10_layTouches_L2] at hf
      refine lv_iload_n hx hb dX10_layTouches_2 rfl (lv_at hl 2 rfl) ?_
      refine lv_bipush (v := 56) hx hb dX10_layTouches_3 (by decide) ?_
      refine lv_icmp_ge (tgt := 37) hx hb dX10_layTouches_5 (by decide) (fun hc => ?_) (fun hc => ?_)
      · replace hf := (if_pos hc).symm.trans hf
        exact hX2 l2t_fewest _ _ _ hP hD hS (lv_sub hl [0] rfl) hf
      · replace hf := (if_neg hc).symm.trans hf
        refine lv_aload_n hx hb dX10_layTouches_8 rfl (lv_at hl 0 rfl) ?_
        refine va_get (D := D) (ci := 10) (v := .ref a_t_fewest) (C := RX10) (T := TX10) (N := 24) hx hb hts hmsX10 hown hK hP 0 rfl rfl 17 (by decide) hw34 (fun _ h9 => h9) rfl dX10_layTouches_9 ?_
        refine lv_iload_n hx hb dX10_layTouches_12 rfl (lv_at hl 2 rfl) ?_
        refine lv_iload_n hx hb dX10_layTouches_13 rfl (lv_at hl 2 rfl) ?_
        refine lv_bipush (v := 8) hx hb dX10_layTouches_14 (by decide) ?_
        refine lv_iload_n hx hb dX10_layTouches_16 rfl (lv_at hl 1 rfl) ?_
        refine lv_imul hx hb dX10_layTouches_17 ?_
        refine lv_bipush (v := 7) hx hb dX10_layTouches_18 (by decide) ?_
        refine lv_iadd hx hb dX10_layTouches_20 ?_
        refine lv_icmp_ne (tgt := 28) hx hb dX10_layTouches_21 (by decide) (fun hc => ?_) (fun hc => ?_)
        · replace hf := (if_neg hc).symm.trans hf
          refine lv_ldc (v := 1000000) hx hb hown hc133 dX10_layTouches_28 ?_
          obtain ⟨hi30, hf⟩ := ix_if hf
          refine va_iast (D := D) hx hb hK hP hD hS 2 0 rfl rfl hi30 dX10_layTouches_30 (fun H locs hP hD hS => ?_)
          replace hP : va_P D vwCl [(a_t, .inr (10, [.ref a_t_roads, .int t_homes, .int t_there, .ref a_t_book, .ref a_t_now, .int t_meetings, .ref a_t_meeting, .int t_sights, .ref a_t_sight, .int t_signs, .ref a_t_pad, .int t_touched, .int t_firstTouch, .int t_reason, .int t_acts, .ref a_t_apart, .ref a_t_rounds, .ref a_t_fewest, .ref a_t_nextFewest, .ref a_t_ways, .ref a_t_nextWays, .ref a_t_counts, .ref a_t_image, .ref a_t_isKept])), (a_t_meeting, .inl (cI, 16, .inl t_meeting)), (a_t_fewest, .inl (cI, 56, .inl (upd l2t_fewest l2v2.toNatClampNeg (1000000 : Int32)))), (a_t_nextFewest, .inl (cI, 56, .inl t_nextFewest))] H := hP
          replace hD : va_D A [(a_t, .inr (10, [.ref a_t_roads, .int t_homes, .int t_there, .ref a_t_book, .ref a_t_now, .int t_meetings, .ref a_t_meeting, .int t_sights, .ref a_t_sight, .int t_signs, .ref a_t_pad, .int t_touched, .int t_firstTouch, .int t_reason, .int t_acts, .ref a_t_apart, .ref a_t_rounds, .ref a_t_fewest, .ref a_t_nextFewest, .ref a_t_ways, .ref a_t_nextWays, .ref a_t_counts, .ref a_t_image, .ref a_t_isKept])), (a_t_meeting, .inl (cI, 16, .inl t_meeting)), (a_t_fewest, .inl (cI, 56, .inl (upd l2t_fewest l2v2.toNatClampNeg (1000000 : Int32)))), (a_t_nextFewest, .inl (cI, 56, .inl t_nextFewest))] := hD
          refine lv_iinc (v := l2v2 + 1) (lv' := [(2, .int (l2v2 + 1)), (0, .ref a_t), (1, .int p1)]) hx hb dX10_layTouches_31 hl (k := 2) rfl rfl (by decide) rfl (fun ls hl => ?_)
          refine lv_goto (tgt := 2) hx hb dX10_layTouches_34 (by decide) ?_
          exact ih2 (l2v2 + 1) (upd l2t_fewest l2v2.toNatClampNeg (1000000 : Int32)) _ _ _ hP hD hS (lv_sub hl [1, 2, 0] rfl) hf
        · replace hf := (if_pos hc).symm.trans hf
          refine lv_iconst (v := 0) hx hb dX10_layTouches_24 (by decide) ?_
          refine lv_goto (tgt := 30) hx hb dX10_layTouches_25 (by decide) ?_
          obtain ⟨hi30_1, hf⟩ := ix_if hf
          refine va_iast (D := D) hx hb hK hP hD hS 2 0 rfl rfl hi30_1 dX10_layTouches_30 (fun H locs hP hD hS => ?_)
          replace hP : va_P D vwCl [(a_t, .inr (10, [.ref a_t_roads, .int t_homes, .int t_there, .ref a_t_book, .ref a_t_now, .int t_meetings, .ref a_t_meeting, .int t_sights, .ref a_t_sight, .int t_signs, .ref a_t_pad, .int t_touched, .int t_firstTouch, .int t_reason, .int t_acts, .ref a_t_apart, .ref a_t_rounds, .ref a_t_fewest, .ref a_t_nextFewest, .ref a_t_ways, .ref a_t_nextWays, .ref a_t_counts, .ref a_t_image, .ref a_t_isKept])), (a_t_meeting, .inl (cI, 16, .inl t_meeting)), (a_t_fewest, .inl (cI, 56, .inl (upd l2t_fewest l2v2.toNatClampNeg (0 : Int32)))), (a_t_nextFewest, .inl (cI, 56, .inl t_nextFewest))] H := hP
          replace hD : va_D A [(a_t, .inr (10, [.ref a_t_roads, .int t_homes, .int t_there, .ref a_t_book, .ref a_t_now, .int t_meetings, .ref a_t_meeting, .int t_sights, .ref a_t_sight, .int t_signs, .ref a_t_pad, .int t_touched, .int t_firstTouch, .int t_reason, .int t_acts, .ref a_t_apart, .ref a_t_rounds, .ref a_t_fewest, .ref a_t_nextFewest, .ref a_t_ways, .ref a_t_nextWays, .ref a_t_counts, .ref a_t_image, .ref a_t_isKept])), (a_t_meeting, .inl (cI, 16, .inl t_meeting)), (a_t_fewest, .inl (cI, 56, .inl (upd l2t_fewest l2v2.toNatClampNeg (0 : Int32)))), (a_t_nextFewest, .inl (cI, 56, .inl t_nextFewest))] := hD
          refine lv_iinc (v := l2v2 + 1) (lv' := [(2, .int (l2v2 + 1)), (0, .ref a_t), (1, .int p1)]) hx hb dX10_layTouches_31 hl (k := 2) rfl rfl (by decide) rfl (fun ls hl => ?_)
          refine lv_goto (tgt := 2) hx hb dX10_layTouches_34 (by decide) ?_
          exact ih2 (l2v2 + 1) (upd l2t_fewest l2v2.toNatClampNeg (0 : Int32)) _ _ _ hP hD hS (lv_sub hl [1, 2, 0] rfl) hf
  exact hL2 5000 (0 : Int32) t_fewest _ _ _ hP hD hS (lv_sub hl [1, 2, 0] rfl) hf
abbrev rm_X10_maybe : Room := { frames := 2, cells := 0, slots := 0, locals := 50 }
theorem ms_X10_maybe_X10 : ∀ w ∈ u_ws RX10 TX10 24, w ∈ wsX10_maybe := fun w h => List.mem_cons_of_mem _ (List.mem_append_right _ (h))
set_option maxHeartbeats 4000000 in
set_option maxRecDepth 100000 in
theorem c_X10_maybe (l : Launch) (D : va_G) (cI cJ cZ cO : ClassId) (sz : Nat) (a_t : Nat) (a_t_roads : Nat) (a_t_book : Nat) (a_t_now : Nat) (a_t_meeting : Nat) (a_t_sight : Nat) (a_t_pad : Nat) (a_t_apart : Nat) (a_t_rounds : Nat) (a_t_fewest : Nat) (a_t_nextFewest : Nat) (a_t_ways : Nat) (a_t_nextWays : Nat) (a_t_counts : Nat) (a_t_image : Nat) (a_t_isKept : Nat) (t_homes : Int32) (t_there : Int32) (t_meetings : Int32) (t_sights : Int32) (t_signs : Int32) (t_touched : Int32) (t_firstTouch : Int32) (t_reason : Int32) (t_acts : Int32) (t_meeting : Nat → Int32) (t_fewest : Nat → Int32) (t_nextFewest : Nat → Int32) (p1 : Int32) (res : Int32 × (Nat → Int32) × (Nat → Int32)) (hf : f_X10_maybe t_meetings t_meeting t_fewest t_nextFewest p1 = some res) : MetI l yX10_maybe wsX10_maybe rm_X10_maybe [.ref a_t, .int p1] D (tys4 cI cJ cZ cO) [(a_t, .inr (10, [.ref a_t_roads, .int t_homes, .int t_there, .ref a_t_book, .ref a_t_now, .int t_meetings, .ref a_t_meeting, .int t_sights, .ref a_t_sight, .int t_signs, .ref a_t_pad, .int t_touched, .int t_firstTouch, .int t_reason, .int t_acts, .ref a_t_apart, .ref a_t_rounds, .ref a_t_fewest, .ref a_t_nextFewest, .ref a_t_ways, .ref a_t_nextWays, .ref a_t_counts, .ref a_t_image, .ref a_t_isKept])), (a_t_meeting, .inl (cI, 16, .inl t_meeting)), (a_t_fewest, .inl (cI, 56, .inl t_fewest)), (a_t_nextFewest, .inl (cI, 56, .inl t_nextFewest))] sz res.1 [(a_t, .inr (10, [.ref a_t_roads, .int t_homes, .int t_there, .ref a_t_book, .ref a_t_now, .int t_meetings, .ref a_t_meeting, .int t_sights, .ref a_t_sight, .int t_signs, .ref a_t_pad, .int t_touched, .int t_firstTouch, .int t_reason, .int t_acts, .ref a_t_apart, .ref a_t_rounds, .ref a_t_fewest, .ref a_t_nextFewest, .ref a_t_ways, .ref a_t_nextWays, .ref a_t_counts, .ref a_t_image, .ref a_t_isKept])), (a_t_meeting, .inl (cI, 16, .inl t_meeting)), (a_t_fewest, .inl (cI, 56, .inl res.2.1)), (a_t_nextFewest, .inl (cI, 56, .inl res.2.2))] := by
  refine met_i (cc := cX10_maybe) (maxL := 4) (by decide) rfl (Nat.le_of_ble_eq_true rfl) ?_
  intro p e s m args below meth c Q A hx hb hml hown hts hK hN hA fin H locs ls hP hD hS hl
  replace hown : s.vm.findClass RX10 = some m.cls := hown
  replace hl : lv_has ls 4 [(0, .ref a_t), (1, .int p1)] := hl
  rw [f_X10_maybe] at hf
  have hcw61 := va_cwS (R := rm_X10_maybe) (rm := rm_X10_isNumber) 1 hts gX10_maybe_X10_isNumber rfl rfl rfl (by decide +kernel) ⟨Nat.le_of_ble_eq_true rfl, Nat.le_of_ble_eq_true rfl⟩
  have hcw155 := cwV (R := rm_X10_maybe) (rm := rm_X10_layTouches) 1 hts gX10_maybe_X10_layTouches rfl rfl rfl (by decide +kernel) ⟨Nat.le_of_ble_eq_true rfl, Nat.le_of_ble_eq_true rfl⟩
  have hw34 := hts (.fieldLink RX10 34 "TouchReignModel" "fewest" "[I") (by decide +kernel)
  have hmsX10 := ms_X10_maybe_X10
  have hc133 := hts (.constant RX10 133 (1000000)) (by decide +kernel)
  refine lv_iload_n hx hb dX10_maybe_0 rfl (lv_at hl 1 rfl) ?_
  obtain ⟨x1, hx1, hf⟩ := bd_if hf
  refine cs_i (wr := [(a_t, .inr (10, [.ref a_t_roads, .int t_homes, .int t_there, .ref a_t_book, .ref a_t_now, .int t_meetings, .ref a_t_meeting, .int t_sights, .ref a_t_sight, .int t_signs, .ref a_t_pad, .int t_touched, .int t_firstTouch, .int t_reason, .int t_acts, .ref a_t_apart, .ref a_t_rounds, .ref a_t_fewest, .ref a_t_nextFewest, .ref a_t_ways, .ref a_t_nextWays, .ref a_t_counts, .ref a_t_image, .ref a_t_isKept])), (a_t_meeting, .inl (cI, 16, .inl t_meeting)), (a_t_fewest, .inl (cI, 56, .inl t_fewest)), (a_t_nextFewest, .inl (cI, 56, .inl t_nextFewest))]) (ws' := [(a_t, .inr (10, [.ref a_t_roads, .int t_homes, .int t_there, .ref a_t_book, .ref a_t_now, .int t_meetings, .ref a_t_meeting, .int t_sights, .ref a_t_sight, .int t_signs, .ref a_t_pad, .int t_touched, .int t_firstTouch, .int t_reason, .int t_acts, .ref a_t_apart, .ref a_t_rounds, .ref a_t_fewest, .ref a_t_nextFewest, .ref a_t_ways, .ref a_t_nextWays, .ref a_t_counts, .ref a_t_image, .ref a_t_isKept])), (a_t_meeting, .inl (cI, 16, .inl t_meeting)), (a_t_fewest, .inl (cI, 56, .inl t_fewest)), (a_t_nextFewest, .inl (cI, 56, .inl t_nextFewest))]) ⟨hx, hb, hml, hown, hts⟩ hcw61 hK hN hP hD hS hA (c_X10_isNumber l D cI cJ cZ cO _ p1 x1 hx1) [] [0, 1, 2, 3] [0, 1, 2, 3] rfl rfl rfl rfl (by decide) rfl rfl rfl hl.1 rfl (Nat.le_of_ble_eq_true rfl) dX10_maybe_1 ⟨Nat.zero_le _, Nat.zero_le _⟩ (fun H locs hP hD hS => ?_)
  refine lv_if_ne (tgt := 9) hx hb dX10_maybe_4 (by decide) (fun hc => ?_) (fun hc => ?_)
  · replace hf := (if_neg hc).symm.trans hf
    refine lv_aload_n hx hb dX10_maybe_9 rfl (lv_at hl 0 rfl) ?_
    refine lv_iload_n hx hb dX10_maybe_10 rfl (lv_at hl 1 rfl) ?_
    obtain ⟨x11, hx11, hf⟩ := bd_if hf
    refine cv_v (wr := []) (ws' := [(a_t, .inr (10, [.ref a_t_roads, .int t_homes, .int t_there, .ref a_t_book, .ref a_t_now, .int t_meetings, .ref a_t_meeting, .int t_sights, .ref a_t_sight, .int t_signs, .ref a_t_pad, .int t_touched, .int t_firstTouch, .int t_reason, .int t_acts, .ref a_t_apart, .ref a_t_rounds, .ref a_t_fewest, .ref a_t_nextFewest, .ref a_t_ways, .ref a_t_nextWays, .ref a_t_counts, .ref a_t_image, .ref a_t_isKept])), (a_t_meeting, .inl (cI, 16, .inl t_meeting)), (a_t_fewest, .inl (cI, 56, .inl x11.1)), (a_t_nextFewest, .inl (cI, 56, .inl x11.2))]) ⟨hx, hb, hml, hown, hts⟩ hcw155 hK hN hP hD hS hA (c_X10_layTouches l D cI cJ cZ cO _ a_t a_t_roads a_t_book a_t_now a_t_meeting a_t_sight a_t_pad a_t_apart a_t_rounds a_t_fewest a_t_nextFewest a_t_ways a_t_nextWays a_t_counts a_t_image a_t_isKept t_homes t_there t_meetings t_sights t_signs t_touched t_firstTouch t_reason t_acts t_meeting t_fewest t_nextFewest p1 x11 hx11) (q := (RX10, TX10, 24)) (ci := 10) (q0 := 0) rfl rfl [0, 1, 2, 3] [] [0, 1, 2, 3] rfl rfl rfl rfl (by decide) rfl rfl rfl hl.1 rfl (Nat.le_of_ble_eq_true rfl) dX10_maybe_11 ⟨Nat.zero_le _, Nat.zero_le _⟩ (fun H locs hP hD hS => ?_)
    refine lv_iconst (v := 0) hx hb dX10_maybe_14 (by decide) ?_
    refine lv_istore_n (lv' := [(2, .int (0 : Int32)), (0, .ref a_t), (1, .int p1)]) hx hb dX10_maybe_15 rfl hl (by decide) rfl (fun ls hl => ?_)
    refine lv_iconst (v := 0) hx hb dX10_maybe_16 (by decide) ?_
    refine lv_istore_n (lv' := [(3, .int (0 : Int32)), (2, .int (0 : Int32)), (0, .ref a_t), (1, .int p1)]) hx hb dX10_maybe_17 rfl hl (by decide) rfl (fun ls hl => ?_)
    have hX18 : ∀ (x18v2 : Int32) (H : Heap) (locs : List Loc) (ls : Array Slot), va_P D vwCl [(a_t, .inr (10, [.ref a_t_roads, .int t_homes, .int t_there, .ref a_t_book, .ref a_t_now, .int t_meetings, .ref a_t_meeting, .int t_sights, .ref a_t_sight, .int t_signs, .ref a_t_pad, .int t_touched, .int t_firstTouch, .int t_reason, .int t_acts, .ref a_t_apart, .ref a_t_rounds, .ref a_t_fewest, .ref a_t_nextFewest, .ref a_t_ways, .ref a_t_nextWays, .ref a_t_counts, .ref a_t_image, .ref a_t_isKept])), (a_t_meeting, .inl (cI, 16, .inl t_meeting)), (a_t_fewest, .inl (cI, 56, .inl x11.1)), (a_t_nextFewest, .inl (cI, 56, .inl x11.2))] H → va_D A [(a_t, .inr (10, [.ref a_t_roads, .int t_homes, .int t_there, .ref a_t_book, .ref a_t_now, .int t_meetings, .ref a_t_meeting, .int t_sights, .ref a_t_sight, .int t_signs, .ref a_t_pad, .int t_touched, .int t_firstTouch, .int t_reason, .int t_acts, .ref a_t_apart, .ref a_t_rounds, .ref a_t_fewest, .ref a_t_nextFewest, .ref a_t_ways, .ref a_t_nextWays, .ref a_t_counts, .ref a_t_image, .ref a_t_isKept])), (a_t_meeting, .inl (cI, 16, .inl t_meeting)), (a_t_fewest, .inl (cI, 56, .inl x11.1)), (a_t_nextFewest, .inl (cI, 56, .inl x11.2))] → va_S A s.heap H locs → lv_has ls 4 [(2, .int x18v2)] → f_X10_maybe_X18 x11 x18v2 = some res → W p l e rm_X10_maybe s m args below meth c H locs 0 0 Q (F0 m 54 ls []) := by
      intro x18v2 H locs ls hP hD hS hl hf
      rw [f_X10_maybe_X18] at hf
      refine lv_iload_n hx hb dX10_maybe_54 rfl (lv_at hl 0 rfl) ?_
      obtain rfl := Option.some.inj hf
      exact fin _ _ _ _ dX10_maybe_55 hP hD hS
    have hL18 : ∀ (n18 : Nat), ∀ (l18v2 : Int32) (l18v3 : Int32) (H : Heap) (locs : List Loc) (ls : Array Slot), va_P D vwCl [(a_t, .inr (10, [.ref a_t_roads, .int t_homes, .int t_there, .ref a_t_book, .ref a_t_now, .int t_meetings, .ref a_t_meeting, .int t_sights, .ref a_t_sight, .int t_signs, .ref a_t_pad, .int t_touched, .int t_firstTouch, .int t_reason, .int t_acts, .ref a_t_apart, .ref a_t_rounds, .ref a_t_fewest, .ref a_t_nextFewest, .ref a_t_ways, .ref a_t_nextWays, .ref a_t_counts, .ref a_t_image, .ref a_t_isKept])), (a_t_meeting, .inl (cI, 16, .inl t_meeting)), (a_t_fewest, .inl (cI, 56, .inl x11.1)), (a_t_nextFewest, .inl (cI, 56, .inl x11.2))] H → va_D A [(a_t, .inr (10, [.ref a_t_roads, .int t_homes, .int t_there, .ref a_t_book, .ref a_t_now, .int t_meetings, .ref a_t_meeting, .int t_sights, .ref a_t_sight, .int t_signs, .ref a_t_pad, .int t_touched, .int t_firstTouch, .int t_reason, .int t_acts, .ref a_t_apart, .ref a_t_rounds, .ref a_t_fewest, .ref a_t_nextFewest, .ref a_t_ways, .ref a_t_nextWays, .ref a_t_counts, .ref a_t_image, .ref a_t_isKept])), (a_t_meeting, .inl (cI, 16, .inl t_meeting)), (a_t_fewest, .inl (cI, 56, .inl x11.1)), (a_t_nextFewest, .inl (cI, 56, .inl x11.2))] → va_S A s.heap H locs → lv_has ls 4 [(0, .ref a_t), (2, .int l18v2), (3, .int l18v3)] → f_X10_maybe_L18 x11 (f_X10_maybe_X18 x11) n18 l18v2 l18v3 = some res → W p l e rm_X10_maybe s m args below meth c H locs 0 0 Q (F0 m 18 ls []) := by
      intro n18
      induction n18 with
      | zero =>
        intro l18v2 l18v3 H locs ls hP hD hS hl hf
        rw [f_X10_maybe_L18] at hf
        cases hf
      | succ n18 ih18 =>
        intro l18v2 l18v3 H locs ls hP hD hS hl hf
        rw [f_X10_maybe_L18] at hf
        refine lv_iload_n hx hb dX10_maybe_18 rfl (lv_at hl 2 rfl) ?_
        refine lv_bipush (v := 56) hx hb dX10_maybe_19 (by decide) ?_
        refine lv_icmp_ge (tgt := 54) hx hb dX10_maybe_21 (by decide) (fun hc => ?_) (fun hc => ?_)
        · replace hf := (if_pos hc).symm.trans hf
          exact hX18 l18v2 _ _ _ hP hD hS (lv_sub hl [1] rfl) hf
        · replace hf := (if_neg hc).symm.trans hf
          refine lv_iload_n hx hb dX10_maybe_24 rfl (lv_at hl 1 rfl) ?_
          refine lv_aload_n hx hb dX10_maybe_25 rfl (lv_at hl 0 rfl) ?_
          refine va_get (D := D) (ci := 10) (v := .ref a_t_fewest) (C := RX10) (T := TX10) (N := 24) hx hb hts hmsX10 hown hK hP 0 rfl rfl 17 (by decide) hw34 (fun _ h9 => h9) rfl dX10_maybe_26 ?_
          refine lv_iload_n hx hb dX10_maybe_29 rfl (lv_at hl 2 rfl) ?_
          obtain ⟨hi30, hf⟩ := ix_if hf
          refine va_iald (D := D) hx hb hK hP 2 0 rfl rfl hi30 dX10_maybe_30 ?_
          refine lv_ldc (v := 1000000) hx hb hown hc133 dX10_maybe_31 ?_
          refine lv_icmp_ge (tgt := 45) hx hb dX10_maybe_33 (by decide) (fun hc => ?_) (fun hc => ?_)
          · replace hf := (if_pos hc).symm.trans hf
            refine lv_iconst (v := 0) hx hb dX10_maybe_45 (by decide) ?_
            refine lv_ior hx hb dX10_maybe_46 ?_
            refine lv_istore_n (lv' := [(2, .int (l18v2 ||| (0 : Int32))), (0, .ref a_t), (3, .int l18v3)]) hx hb dX10_maybe_47 rfl hl (by decide) rfl (fun ls hl => ?_)
            refine lv_iinc (v := l18v3 + 1) (lv' := [(3, .int (l18v3 + 1)), (2, .int (l18v2 ||| (0 : Int32))), (0, .ref a_t)]) hx hb dX10_maybe_48 hl (k := 2) rfl rfl (by decide) rfl (fun ls hl => ?_)
            refine lv_goto (tgt := 18) hx hb dX10_maybe_51 (by decide) ?_
            exact ih18 (l18v2 ||| (0 : Int32)) (l18v3 + 1) _ _ _ hP hD hS (lv_sub hl [2, 1, 0] rfl) hf
          · replace hf := (if_neg hc).symm.trans hf
            refine lv_iconst (v := 1) hx hb dX10_maybe_36 (by decide) ?_
            refine lv_iload_n hx hb dX10_maybe_37 rfl (lv_at hl 2 rfl) ?_
            refine lv_bipush (v := 8) hx hb dX10_maybe_38 (by decide) ?_
            refine lv_idiv hx hb dX10_maybe_40 (by decide) ?_
            refine lv_ishl hx hb dX10_maybe_41 ?_
            refine lv_goto (tgt := 46) hx hb dX10_maybe_42 (by decide) ?_
            refine lv_ior hx hb dX10_maybe_46 ?_
            refine lv_istore_n (lv' := [(2, .int (l18v2 ||| ((1 : Int32) <<< ((l18v3 / (8 : Int32)) &&& 31)))), (0, .ref a_t), (3, .int l18v3)]) hx hb dX10_maybe_47 rfl hl (by decide) rfl (fun ls hl => ?_)
            refine lv_iinc (v := l18v3 + 1) (lv' := [(3, .int (l18v3 + 1)), (2, .int (l18v2 ||| ((1 : Int32) <<< ((l18v3 / (8 : Int32)) &&& 31)))), (0, .ref a_t)]) hx hb dX10_maybe_48 hl (k := 2) rfl rfl (by decide) rfl (fun ls hl => ?_)
            refine lv_goto (tgt := 18) hx hb dX10_maybe_51 (by decide) ?_
            exact ih18 (l18v2 ||| ((1 : Int32) <<< ((l18v3 / (8 : Int32)) &&& 31))) (l18v3 + 1) _ _ _ hP hD hS (lv_sub hl [2, 1, 0] rfl) hf
    exact hL18 5000 (0 : Int32) (0 : Int32) _ _ _ hP hD hS (lv_sub hl [2, 1, 0] rfl) hf
  · replace hf := (if_pos hc).symm.trans hf
    refine lv_iconst (v := -1) hx hb dX10_maybe_7 (by decide) ?_
    obtain rfl := Option.some.inj hf
    exact fin _ _ _ _ dX10_maybe_8 hP hD hS
abbrev rm_X10_touches : Room := { frames := 2, cells := 0, slots := 0, locals := 50 }
theorem ms_X10_touches_X10 : ∀ w ∈ u_ws RX10 TX10 24, w ∈ wsX10_touches := fun w h => List.mem_cons_of_mem _ (List.mem_append_right _ (h))
set_option maxHeartbeats 4000000 in
set_option maxRecDepth 100000 in
theorem c_X10_touches (l : Launch) (D : va_G) (cI cJ cZ cO : ClassId) (sz : Nat) (a_t : Nat) (a_t_roads : Nat) (a_t_book : Nat) (a_t_now : Nat) (a_t_meeting : Nat) (a_t_sight : Nat) (a_t_pad : Nat) (a_t_apart : Nat) (a_t_rounds : Nat) (a_t_fewest : Nat) (a_t_nextFewest : Nat) (a_t_ways : Nat) (a_t_nextWays : Nat) (a_t_counts : Nat) (a_t_image : Nat) (a_t_isKept : Nat) (t_homes : Int32) (t_there : Int32) (t_meetings : Int32) (t_sights : Int32) (t_signs : Int32) (t_touched : Int32) (t_firstTouch : Int32) (t_reason : Int32) (t_acts : Int32) (t_meeting : Nat → Int32) (t_fewest : Nat → Int32) (t_nextFewest : Nat → Int32) (p1 : Int32) (p2 : Int32) (res : Int32 × (Nat → Int32) × (Nat → Int32)) (hf : f_X10_touches t_meetings t_meeting t_fewest t_nextFewest p1 p2 = some res) : MetI l yX10_touches wsX10_touches rm_X10_touches [.ref a_t, .int p1, .int p2] D (tys4 cI cJ cZ cO) [(a_t, .inr (10, [.ref a_t_roads, .int t_homes, .int t_there, .ref a_t_book, .ref a_t_now, .int t_meetings, .ref a_t_meeting, .int t_sights, .ref a_t_sight, .int t_signs, .ref a_t_pad, .int t_touched, .int t_firstTouch, .int t_reason, .int t_acts, .ref a_t_apart, .ref a_t_rounds, .ref a_t_fewest, .ref a_t_nextFewest, .ref a_t_ways, .ref a_t_nextWays, .ref a_t_counts, .ref a_t_image, .ref a_t_isKept])), (a_t_meeting, .inl (cI, 16, .inl t_meeting)), (a_t_fewest, .inl (cI, 56, .inl t_fewest)), (a_t_nextFewest, .inl (cI, 56, .inl t_nextFewest))] sz res.1 [(a_t, .inr (10, [.ref a_t_roads, .int t_homes, .int t_there, .ref a_t_book, .ref a_t_now, .int t_meetings, .ref a_t_meeting, .int t_sights, .ref a_t_sight, .int t_signs, .ref a_t_pad, .int t_touched, .int t_firstTouch, .int t_reason, .int t_acts, .ref a_t_apart, .ref a_t_rounds, .ref a_t_fewest, .ref a_t_nextFewest, .ref a_t_ways, .ref a_t_nextWays, .ref a_t_counts, .ref a_t_image, .ref a_t_isKept])), (a_t_meeting, .inl (cI, 16, .inl t_meeting)), (a_t_fewest, .inl (cI, 56, .inl res.2.1)), (a_t_nextFewest, .inl (cI, 56, .inl res.2.2))] := by
  refine met_i (cc := cX10_touches) (maxL := 5) (by decide) rfl (Nat.le_of_ble_eq_true rfl) ?_
  intro p e s m args below meth c Q A hx hb hml hown hts hK hN hA fin H locs ls hP hD hS hl
  replace hown : s.vm.findClass RX10 = some m.cls := hown
  replace hl : lv_has ls 5 [(0, .ref a_t), (1, .int p1), (2, .int p2)] := hl
  rw [f_X10_touches] at hf
  have hcw61 := va_cwS (R := rm_X10_touches) (rm := rm_X10_isNumber) 1 hts gX10_touches_X10_isNumber rfl rfl rfl (by decide +kernel) ⟨Nat.le_of_ble_eq_true rfl, Nat.le_of_ble_eq_true rfl⟩
  have hcw155 := cwV (R := rm_X10_touches) (rm := rm_X10_layTouches) 1 hts gX10_touches_X10_layTouches rfl rfl rfl (by decide +kernel) ⟨Nat.le_of_ble_eq_true rfl, Nat.le_of_ble_eq_true rfl⟩
  have hc133 := hts (.constant RX10 133 (1000000)) (by decide +kernel)
  have hw34 := hts (.fieldLink RX10 34 "TouchReignModel" "fewest" "[I") (by decide +kernel)
  have hmsX10 := ms_X10_touches_X10
  refine lv_iload_n hx hb dX10_touches_0 rfl (lv_at hl 1 rfl) ?_
  obtain ⟨x1, hx1, hf⟩ := bd_if hf
  refine cs_i (wr := [(a_t, .inr (10, [.ref a_t_roads, .int t_homes, .int t_there, .ref a_t_book, .ref a_t_now, .int t_meetings, .ref a_t_meeting, .int t_sights, .ref a_t_sight, .int t_signs, .ref a_t_pad, .int t_touched, .int t_firstTouch, .int t_reason, .int t_acts, .ref a_t_apart, .ref a_t_rounds, .ref a_t_fewest, .ref a_t_nextFewest, .ref a_t_ways, .ref a_t_nextWays, .ref a_t_counts, .ref a_t_image, .ref a_t_isKept])), (a_t_meeting, .inl (cI, 16, .inl t_meeting)), (a_t_fewest, .inl (cI, 56, .inl t_fewest)), (a_t_nextFewest, .inl (cI, 56, .inl t_nextFewest))]) (ws' := [(a_t, .inr (10, [.ref a_t_roads, .int t_homes, .int t_there, .ref a_t_book, .ref a_t_now, .int t_meetings, .ref a_t_meeting, .int t_sights, .ref a_t_sight, .int t_signs, .ref a_t_pad, .int t_touched, .int t_firstTouch, .int t_reason, .int t_acts, .ref a_t_apart, .ref a_t_rounds, .ref a_t_fewest, .ref a_t_nextFewest, .ref a_t_ways, .ref a_t_nextWays, .ref a_t_counts, .ref a_t_image, .ref a_t_isKept])), (a_t_meeting, .inl (cI, 16, .inl t_meeting)), (a_t_fewest, .inl (cI, 56, .inl t_fewest)), (a_t_nextFewest, .inl (cI, 56, .inl t_nextFewest))]) ⟨hx, hb, hml, hown, hts⟩ hcw61 hK hN hP hD hS hA (c_X10_isNumber l D cI cJ cZ cO _ p1 x1 hx1) [] [0, 1, 2, 3] [0, 1, 2, 3] rfl rfl rfl rfl (by decide) rfl rfl rfl hl.1 rfl (Nat.le_of_ble_eq_true rfl) dX10_touches_1 ⟨Nat.zero_le _, Nat.zero_le _⟩ (fun H locs hP hD hS => ?_)
  refine lv_if_eq (tgt := 14) hx hb dX10_touches_4 (by decide) (fun hc => ?_) (fun hc => ?_)
  · replace hf := (if_pos hc).symm.trans hf
    refine lv_iconst (v := -1) hx hb dX10_touches_14 (by decide) ?_
    obtain rfl := Option.some.inj hf
    exact fin _ _ _ _ dX10_touches_15 hP hD hS
  · replace hf := (if_neg hc).symm.trans hf
    refine lv_iload_n hx hb dX10_touches_7 rfl (lv_at hl 2 rfl) ?_
    obtain ⟨x8, hx8, hf⟩ := bd_if hf
    refine cs_i (wr := [(a_t, .inr (10, [.ref a_t_roads, .int t_homes, .int t_there, .ref a_t_book, .ref a_t_now, .int t_meetings, .ref a_t_meeting, .int t_sights, .ref a_t_sight, .int t_signs, .ref a_t_pad, .int t_touched, .int t_firstTouch, .int t_reason, .int t_acts, .ref a_t_apart, .ref a_t_rounds, .ref a_t_fewest, .ref a_t_nextFewest, .ref a_t_ways, .ref a_t_nextWays, .ref a_t_counts, .ref a_t_image, .ref a_t_isKept])), (a_t_meeting, .inl (cI, 16, .inl t_meeting)), (a_t_fewest, .inl (cI, 56, .inl t_fewest)), (a_t_nextFewest, .inl (cI, 56, .inl t_nextFewest))]) (ws' := [(a_t, .inr (10, [.ref a_t_roads, .int t_homes, .int t_there, .ref a_t_book, .ref a_t_now, .int t_meetings, .ref a_t_meeting, .int t_sights, .ref a_t_sight, .int t_signs, .ref a_t_pad, .int t_touched, .int t_firstTouch, .int t_reason, .int t_acts, .ref a_t_apart, .ref a_t_rounds, .ref a_t_fewest, .ref a_t_nextFewest, .ref a_t_ways, .ref a_t_nextWays, .ref a_t_counts, .ref a_t_image, .ref a_t_isKept])), (a_t_meeting, .inl (cI, 16, .inl t_meeting)), (a_t_fewest, .inl (cI, 56, .inl t_fewest)), (a_t_nextFewest, .inl (cI, 56, .inl t_nextFewest))]) ⟨hx, hb, hml, hown, hts⟩ hcw61 hK hN hP hD hS hA (c_X10_isNumber l D cI cJ cZ cO _ p2 x8 hx8) [] [0, 1, 2, 3] [0, 1, 2, 3] rfl rfl rfl rfl (by decide) rfl rfl rfl hl.1 rfl (Nat.le_of_ble_eq_true rfl) dX10_touches_8 ⟨Nat.zero_le _, Nat.zero_le _⟩ (fun H locs hP hD hS => ?_)
    refine lv_if_ne (tgt := 16) hx hb dX10_touches_11 (by decide) (fun hc => ?_) (fun hc => ?_)
    · replace hf := (if_neg hc).symm.trans hf
      refine lv_aload_n hx hb dX10_touches_16 rfl (lv_at hl 0 rfl) ?_
      refine lv_iload_n hx hb dX10_touches_17 rfl (lv_at hl 1 rfl) ?_
      obtain ⟨x18, hx18, hf⟩ := bd_if hf
      refine cv_v (wr := []) (ws' := [(a_t, .inr (10, [.ref a_t_roads, .int t_homes, .int t_there, .ref a_t_book, .ref a_t_now, .int t_meetings, .ref a_t_meeting, .int t_sights, .ref a_t_sight, .int t_signs, .ref a_t_pad, .int t_touched, .int t_firstTouch, .int t_reason, .int t_acts, .ref a_t_apart, .ref a_t_rounds, .ref a_t_fewest, .ref a_t_nextFewest, .ref a_t_ways, .ref a_t_nextWays, .ref a_t_counts, .ref a_t_image, .ref a_t_isKept])), (a_t_meeting, .inl (cI, 16, .inl t_meeting)), (a_t_fewest, .inl (cI, 56, .inl x18.1)), (a_t_nextFewest, .inl (cI, 56, .inl x18.2))]) ⟨hx, hb, hml, hown, hts⟩ hcw155 hK hN hP hD hS hA (c_X10_layTouches l D cI cJ cZ cO _ a_t a_t_roads a_t_book a_t_now a_t_meeting a_t_sight a_t_pad a_t_apart a_t_rounds a_t_fewest a_t_nextFewest a_t_ways a_t_nextWays a_t_counts a_t_image a_t_isKept t_homes t_there t_meetings t_sights t_signs t_touched t_firstTouch t_reason t_acts t_meeting t_fewest t_nextFewest p1 x18 hx18) (q := (RX10, TX10, 24)) (ci := 10) (q0 := 0) rfl rfl [0, 1, 2, 3] [] [0, 1, 2, 3] rfl rfl rfl rfl (by decide) rfl rfl rfl hl.1 rfl (Nat.le_of_ble_eq_true rfl) dX10_touches_18 ⟨Nat.zero_le _, Nat.zero_le _⟩ (fun H locs hP hD hS => ?_)
      refine lv_ldc (v := 1000000) hx hb hown hc133 dX10_touches_21 ?_
      refine lv_istore_n (lv' := [(3, .int (1000000 : Int32)), (0, .ref a_t), (1, .int p1), (2, .int p2)]) hx hb dX10_touches_23 rfl hl (by decide) rfl (fun ls hl => ?_)
      refine lv_bipush (v := 8) hx hb dX10_touches_24 (by decide) ?_
      refine lv_iload_n hx hb dX10_touches_26 rfl (lv_at hl 3 rfl) ?_
      refine lv_imul hx hb dX10_touches_27 ?_
      refine lv_istore (lv' := [(4, .int ((8 : Int32) * p2)), (3, .int (1000000 : Int32)), (0, .ref a_t), (1, .int p1), (2, .int p2)]) hx hb dX10_touches_28 hl (by decide) rfl (fun ls hl => ?_)
      have hX30 : ∀ (x30v3 : Int32) (H : Heap) (locs : List Loc) (ls : Array Slot), va_P D vwCl [(a_t, .inr (10, [.ref a_t_roads, .int t_homes, .int t_there, .ref a_t_book, .ref a_t_now, .int t_meetings, .ref a_t_meeting, .int t_sights, .ref a_t_sight, .int t_signs, .ref a_t_pad, .int t_touched, .int t_firstTouch, .int t_reason, .int t_acts, .ref a_t_apart, .ref a_t_rounds, .ref a_t_fewest, .ref a_t_nextFewest, .ref a_t_ways, .ref a_t_nextWays, .ref a_t_counts, .ref a_t_image, .ref a_t_isKept])), (a_t_meeting, .inl (cI, 16, .inl t_meeting)), (a_t_fewest, .inl (cI, 56, .inl x18.1)), (a_t_nextFewest, .inl (cI, 56, .inl x18.2))] H → va_D A [(a_t, .inr (10, [.ref a_t_roads, .int t_homes, .int t_there, .ref a_t_book, .ref a_t_now, .int t_meetings, .ref a_t_meeting, .int t_sights, .ref a_t_sight, .int t_signs, .ref a_t_pad, .int t_touched, .int t_firstTouch, .int t_reason, .int t_acts, .ref a_t_apart, .ref a_t_rounds, .ref a_t_fewest, .ref a_t_nextFewest, .ref a_t_ways, .ref a_t_nextWays, .ref a_t_counts, .ref a_t_image, .ref a_t_isKept])), (a_t_meeting, .inl (cI, 16, .inl t_meeting)), (a_t_fewest, .inl (cI, 56, .inl x18.1)), (a_t_nextFewest, .inl (cI, 56, .inl x18.2))] → va_S A s.heap H locs → lv_has ls 5 [(3, .int x30v3)] → f_X10_touches_X30 x18 x30v3 = some res → W p l e rm_X10_touches s m args below meth c H locs 0 0 Q (F0 m 71 ls []) := by
        intro x30v3 H locs ls hP hD hS hl hf
        rw [f_X10_touches_X30] at hf
        refine lv_iload_n hx hb dX10_touches_71 rfl (lv_at hl 0 rfl) ?_
        refine lv_ldc (v := 1000000) hx hb hown hc133 dX10_touches_72 ?_
        refine lv_icmp_lt (tgt := 82) hx hb dX10_touches_74 (by decide) (fun hc => ?_) (fun hc => ?_)
        · replace hf := (if_pos hc).symm.trans hf
          refine lv_iload_n hx hb dX10_touches_82 rfl (lv_at hl 0 rfl) ?_
          obtain rfl := Option.some.inj hf
          exact fin _ _ _ _ dX10_touches_83 hP hD hS
        · replace hf := (if_neg hc).symm.trans hf
          refine lv_bipush (v := -6) hx hb dX10_touches_77 (by decide) ?_
          refine lv_goto (tgt := 83) hx hb dX10_touches_79 (by decide) ?_
          obtain rfl := Option.some.inj hf
          exact fin _ _ _ _ dX10_touches_83 hP hD hS
      have hL30 : ∀ (n30 : Nat), ∀ (l30v3 : Int32) (l30v4 : Int32) (H : Heap) (locs : List Loc) (ls : Array Slot), va_P D vwCl [(a_t, .inr (10, [.ref a_t_roads, .int t_homes, .int t_there, .ref a_t_book, .ref a_t_now, .int t_meetings, .ref a_t_meeting, .int t_sights, .ref a_t_sight, .int t_signs, .ref a_t_pad, .int t_touched, .int t_firstTouch, .int t_reason, .int t_acts, .ref a_t_apart, .ref a_t_rounds, .ref a_t_fewest, .ref a_t_nextFewest, .ref a_t_ways, .ref a_t_nextWays, .ref a_t_counts, .ref a_t_image, .ref a_t_isKept])), (a_t_meeting, .inl (cI, 16, .inl t_meeting)), (a_t_fewest, .inl (cI, 56, .inl x18.1)), (a_t_nextFewest, .inl (cI, 56, .inl x18.2))] H → va_D A [(a_t, .inr (10, [.ref a_t_roads, .int t_homes, .int t_there, .ref a_t_book, .ref a_t_now, .int t_meetings, .ref a_t_meeting, .int t_sights, .ref a_t_sight, .int t_signs, .ref a_t_pad, .int t_touched, .int t_firstTouch, .int t_reason, .int t_acts, .ref a_t_apart, .ref a_t_rounds, .ref a_t_fewest, .ref a_t_nextFewest, .ref a_t_ways, .ref a_t_nextWays, .ref a_t_counts, .ref a_t_image, .ref a_t_isKept])), (a_t_meeting, .inl (cI, 16, .inl t_meeting)), (a_t_fewest, .inl (cI, 56, .inl x18.1)), (a_t_nextFewest, .inl (cI, 56, .inl x18.2))] → va_S A s.heap H locs → lv_has ls 5 [(0, .ref a_t), (2, .int p2), (3, .int l30v3), (4, .int l30v4)] → f_X10_touches_L30 p2 x18 (f_X10_touches_X30 x18) n30 l30v3 l30v4 = some res → W p l e rm_X10_touches s m args below meth c H locs 0 0 Q (F0 m 30 ls []) := by
        intro n30
        induction n30 with
        | zero =>
          intro l30v3 l30v4 H locs ls hP hD hS hl hf
          rw [f_X10_touches_L30] at hf
          cases hf
        | succ n30 ih30 =>
          intro l30v3 l30v4 H locs ls hP hD hS hl hf
          rw [f_X10_touches_L30] at hf
          refine lv_iload hx hb dX10_touches_30 (lv_at hl 3 rfl) ?_
          refine lv_bipush (v := 8) hx hb dX10_touches_32 (by decide) ?_
          refine lv_iload_n hx hb dX10_touches_34 rfl (lv_at hl 1 rfl) ?_
          refine lv_imul hx hb dX10_touches_35 ?_
          refine lv_bipush (v := 8) hx hb dX10_touches_36 (by decide) ?_
          refine lv_iadd hx hb dX10_touches_38 ?_
          refine lv_icmp_ge (tgt := 71) hx hb dX10_touches_39 (by decide) (fun hc => ?_) (fun hc => ?_)
          · replace hf := (if_pos hc).symm.trans hf
            exact hX30 l30v3 _ _ _ hP hD hS (lv_sub hl [2] rfl) hf
          · replace hf := (if_neg hc).symm.trans hf
            refine lv_aload_n hx hb dX10_touches_42 rfl (lv_at hl 0 rfl) ?_
            refine va_get (D := D) (ci := 10) (v := .ref a_t_fewest) (C := RX10) (T := TX10) (N := 24) hx hb hts hmsX10 hown hK hP 0 rfl rfl 17 (by decide) hw34 (fun _ h9 => h9) rfl dX10_touches_43 ?_
            refine lv_iload hx hb dX10_touches_46 (lv_at hl 3 rfl) ?_
            obtain ⟨hi48, hf⟩ := ix_if hf
            refine va_iald (D := D) hx hb hK hP 2 0 rfl rfl hi48 dX10_touches_48 ?_
            refine lv_iload_n hx hb dX10_touches_49 rfl (lv_at hl 2 rfl) ?_
            refine lv_icmp_ge (tgt := 63) hx hb dX10_touches_50 (by decide) (fun hc => ?_) (fun hc => ?_)
            · replace hf := (if_pos hc).symm.trans hf
              refine lv_iload_n hx hb dX10_touches_63 rfl (lv_at hl 2 rfl) ?_
              refine lv_istore_n (lv' := [(3, .int l30v3), (0, .ref a_t), (2, .int p2), (4, .int l30v4)]) hx hb dX10_touches_64 rfl hl (by decide) rfl (fun ls hl => ?_)
              refine lv_iinc (v := l30v4 + 1) (lv' := [(4, .int (l30v4 + 1)), (3, .int l30v3), (0, .ref a_t), (2, .int p2)]) hx hb dX10_touches_65 hl (k := 3) rfl rfl (by decide) rfl (fun ls hl => ?_)
              refine lv_goto (tgt := 30) hx hb dX10_touches_68 (by decide) ?_
              exact ih30 l30v3 (l30v4 + 1) _ _ _ hP hD hS (lv_sub hl [2, 3, 1, 0] rfl) hf
            · replace hf := (if_neg hc).symm.trans hf
              refine lv_aload_n hx hb dX10_touches_53 rfl (lv_at hl 0 rfl) ?_
              refine va_get (D := D) (ci := 10) (v := .ref a_t_fewest) (C := RX10) (T := TX10) (N := 24) hx hb hts hmsX10 hown hK hP 0 rfl rfl 17 (by decide) hw34 (fun _ h9 => h9) rfl dX10_touches_54 ?_
              refine lv_iload hx hb dX10_touches_57 (lv_at hl 3 rfl) ?_
              refine va_iald (D := D) hx hb hK hP 2 0 rfl rfl hi48 dX10_touches_59 ?_
              refine lv_goto (tgt := 64) hx hb dX10_touches_60 (by decide) ?_
              refine lv_istore_n (lv' := [(3, .int (x18.1 l30v4.toNatClampNeg)), (0, .ref a_t), (2, .int p2), (4, .int l30v4)]) hx hb dX10_touches_64 rfl hl (by decide) rfl (fun ls hl => ?_)
              refine lv_iinc (v := l30v4 + 1) (lv' := [(4, .int (l30v4 + 1)), (3, .int (x18.1 l30v4.toNatClampNeg)), (0, .ref a_t), (2, .int p2)]) hx hb dX10_touches_65 hl (k := 3) rfl rfl (by decide) rfl (fun ls hl => ?_)
              refine lv_goto (tgt := 30) hx hb dX10_touches_68 (by decide) ?_
              exact ih30 (x18.1 l30v4.toNatClampNeg) (l30v4 + 1) _ _ _ hP hD hS (lv_sub hl [2, 3, 1, 0] rfl) hf
      exact hL30 5000 (1000000 : Int32) ((8 : Int32) * p2) _ _ _ hP hD hS (lv_sub hl [2, 4, 1, 0] rfl) hf
    · replace hf := (if_pos hc).symm.trans hf
      refine lv_iconst (v := -1) hx hb dX10_touches_14 (by decide) ?_
      obtain rfl := Option.some.inj hf
      exact fin _ _ _ _ dX10_touches_15 hP hD hS
abbrev rm_X10_chance : Room := { frames := 2, cells := 0, slots := 0, locals := 42 }
theorem ms_X10_chance_X10 : ∀ w ∈ u_ws RX10 TX10 24, w ∈ wsX10_chance := fun w h => List.mem_cons_of_mem _ (List.mem_append_right _ (h))
set_option maxHeartbeats 4000000 in
set_option maxRecDepth 100000 in
theorem c_X10_chance (l : Launch) (D : va_G) (cI cJ cZ cO : ClassId) (sz : Nat) (a_t : Nat) (a_t_roads : Nat) (a_t_book : Nat) (a_t_now : Nat) (a_t_meeting : Nat) (a_t_sight : Nat) (a_t_pad : Nat) (a_t_apart : Nat) (a_t_rounds : Nat) (a_t_fewest : Nat) (a_t_nextFewest : Nat) (a_t_ways : Nat) (a_t_nextWays : Nat) (a_t_counts : Nat) (a_t_image : Nat) (a_t_isKept : Nat) (t_homes : Int32) (t_there : Int32) (t_meetings : Int32) (t_sights : Int32) (t_signs : Int32) (t_touched : Int32) (t_firstTouch : Int32) (t_reason : Int32) (t_acts : Int32) (t_meeting : Nat → Int32) (t_ways : Nat → Int64) (t_nextWays : Nat → Int64) (p1 : Int32) (p2 : Int32) (p3 : Int32) (p4 : Int32) (res : Int64 × (Nat → Int64) × (Nat → Int64)) (hf : f_X10_chance t_meetings t_meeting t_ways t_nextWays p1 p2 p3 p4 = some res) : MetL l yX10_chance wsX10_chance rm_X10_chance [.ref a_t, .int p1, .int p2, .int p3, .int p4] D (tys4 cI cJ cZ cO) [(a_t, .inr (10, [.ref a_t_roads, .int t_homes, .int t_there, .ref a_t_book, .ref a_t_now, .int t_meetings, .ref a_t_meeting, .int t_sights, .ref a_t_sight, .int t_signs, .ref a_t_pad, .int t_touched, .int t_firstTouch, .int t_reason, .int t_acts, .ref a_t_apart, .ref a_t_rounds, .ref a_t_fewest, .ref a_t_nextFewest, .ref a_t_ways, .ref a_t_nextWays, .ref a_t_counts, .ref a_t_image, .ref a_t_isKept])), (a_t_meeting, .inl (cI, 16, .inl t_meeting)), (a_t_ways, .inl (cJ, 56, .inr (.inl t_ways))), (a_t_nextWays, .inl (cJ, 56, .inr (.inl t_nextWays)))] sz res.1 [(a_t, .inr (10, [.ref a_t_roads, .int t_homes, .int t_there, .ref a_t_book, .ref a_t_now, .int t_meetings, .ref a_t_meeting, .int t_sights, .ref a_t_sight, .int t_signs, .ref a_t_pad, .int t_touched, .int t_firstTouch, .int t_reason, .int t_acts, .ref a_t_apart, .ref a_t_rounds, .ref a_t_fewest, .ref a_t_nextFewest, .ref a_t_ways, .ref a_t_nextWays, .ref a_t_counts, .ref a_t_image, .ref a_t_isKept])), (a_t_meeting, .inl (cI, 16, .inl t_meeting)), (a_t_ways, .inl (cJ, 56, .inr (.inl res.2.1))), (a_t_nextWays, .inl (cJ, 56, .inr (.inl res.2.2)))] := by
  refine met_l (cc := cX10_chance) (maxL := 15) (by decide) rfl (Nat.le_of_ble_eq_true rfl) ?_
  intro p e s m args below meth c Q A hx hb hml hown hts hK hN hA fin H locs ls hP hD hS hl
  replace hown : s.vm.findClass RX10 = some m.cls := hown
  replace hl : lv_has ls 15 [(0, .ref a_t), (1, .int p1), (2, .int p2), (3, .int p3), (4, .int p4)] := hl
  rw [f_X10_chance] at hf
  have hcw61 := va_cwS (R := rm_X10_chance) (rm := rm_X10_isNumber) 1 hts gX10_chance_X10_isNumber rfl rfl rfl (by decide +kernel) ⟨Nat.le_of_ble_eq_true rfl, Nat.le_of_ble_eq_true rfl⟩
  have hc159 := hts (.constantLong RX10 159 (-1000000000000000001)) (by decide +kernel)
  have hcw57 := va_cwS (R := rm_X10_chance) (rm := rm_X10_in) 3 hts gX10_chance_X10_in rfl rfl rfl (by decide +kernel) ⟨Nat.le_of_ble_eq_true rfl, Nat.le_of_ble_eq_true rfl⟩
  have hc161 := hts (.constantLong RX10 161 (-1000000000000000002)) (by decide +kernel)
  have hw40 := hts (.fieldLink RX10 40 "TouchReignModel" "ways" "[J") (by decide +kernel)
  have hmsX10 := ms_X10_chance_X10
  have hw149 := hts (.fieldLink RX10 149 "TouchReignModel" "meetings" "I") (by decide +kernel)
  have hc163 := hts (.constantLong RX10 163 (10)) (by decide +kernel)
  have hw44 := hts (.fieldLink RX10 44 "TouchReignModel" "nextWays" "[J") (by decide +kernel)
  have hcw152 := cwV (R := rm_X10_chance) (rm := rm_X10_touchAt) 2 hts gX10_chance_X10_touchAt rfl rfl rfl (by decide +kernel) ⟨Nat.le_of_ble_eq_true rfl, Nat.le_of_ble_eq_true rfl⟩
  refine lv_iload_n hx hb dX10_chance_0 rfl (lv_at hl 1 rfl) ?_
  obtain ⟨x1, hx1, hf⟩ := bd_if hf
  refine cs_i (wr := [(a_t, .inr (10, [.ref a_t_roads, .int t_homes, .int t_there, .ref a_t_book, .ref a_t_now, .int t_meetings, .ref a_t_meeting, .int t_sights, .ref a_t_sight, .int t_signs, .ref a_t_pad, .int t_touched, .int t_firstTouch, .int t_reason, .int t_acts, .ref a_t_apart, .ref a_t_rounds, .ref a_t_fewest, .ref a_t_nextFewest, .ref a_t_ways, .ref a_t_nextWays, .ref a_t_counts, .ref a_t_image, .ref a_t_isKept])), (a_t_meeting, .inl (cI, 16, .inl t_meeting)), (a_t_ways, .inl (cJ, 56, .inr (.inl t_ways))), (a_t_nextWays, .inl (cJ, 56, .inr (.inl t_nextWays)))]) (ws' := [(a_t, .inr (10, [.ref a_t_roads, .int t_homes, .int t_there, .ref a_t_book, .ref a_t_now, .int t_meetings, .ref a_t_meeting, .int t_sights, .ref a_t_sight, .int t_signs, .ref a_t_pad, .int t_touched, .int t_firstTouch, .int t_reason, .int t_acts, .ref a_t_apart, .ref a_t_rounds, .ref a_t_fewest, .ref a_t_nextFewest, .ref a_t_ways, .ref a_t_nextWays, .ref a_t_counts, .ref a_t_image, .ref a_t_isKept])), (a_t_meeting, .inl (cI, 16, .inl t_meeting)), (a_t_ways, .inl (cJ, 56, .inr (.inl t_ways))), (a_t_nextWays, .inl (cJ, 56, .inr (.inl t_nextWays)))]) ⟨hx, hb, hml, hown, hts⟩ hcw61 hK hN hP hD hS hA (c_X10_isNumber l D cI cJ cZ cO _ p1 x1 hx1) [] [0, 1, 2, 3] [0, 1, 2, 3] rfl rfl rfl rfl (by decide) rfl rfl rfl hl.1 rfl (Nat.le_of_ble_eq_true rfl) dX10_chance_1 ⟨Nat.zero_le _, Nat.zero_le _⟩ (fun H locs hP hD hS => ?_)
  refine lv_if_eq (tgt := 14) hx hb dX10_chance_4 (by decide) (fun hc => ?_) (fun hc => ?_)
  · replace hf := (if_pos hc).symm.trans hf
    refine lv_ldc2 (v := -1000000000000000001) hx hb hown hc159 dX10_chance_14 ?_
    obtain rfl := Option.some.inj hf
    exact fin _ _ _ _ dX10_chance_17 hP hD hS
  · replace hf := (if_neg hc).symm.trans hf
    refine lv_iload_n hx hb dX10_chance_7 rfl (lv_at hl 2 rfl) ?_
    obtain ⟨x8, hx8, hf⟩ := bd_if hf
    refine cs_i (wr := [(a_t, .inr (10, [.ref a_t_roads, .int t_homes, .int t_there, .ref a_t_book, .ref a_t_now, .int t_meetings, .ref a_t_meeting, .int t_sights, .ref a_t_sight, .int t_signs, .ref a_t_pad, .int t_touched, .int t_firstTouch, .int t_reason, .int t_acts, .ref a_t_apart, .ref a_t_rounds, .ref a_t_fewest, .ref a_t_nextFewest, .ref a_t_ways, .ref a_t_nextWays, .ref a_t_counts, .ref a_t_image, .ref a_t_isKept])), (a_t_meeting, .inl (cI, 16, .inl t_meeting)), (a_t_ways, .inl (cJ, 56, .inr (.inl t_ways))), (a_t_nextWays, .inl (cJ, 56, .inr (.inl t_nextWays)))]) (ws' := [(a_t, .inr (10, [.ref a_t_roads, .int t_homes, .int t_there, .ref a_t_book, .ref a_t_now, .int t_meetings, .ref a_t_meeting, .int t_sights, .ref a_t_sight, .int t_signs, .ref a_t_pad, .int t_touched, .int t_firstTouch, .int t_reason, .int t_acts, .ref a_t_apart, .ref a_t_rounds, .ref a_t_fewest, .ref a_t_nextFewest, .ref a_t_ways, .ref a_t_nextWays, .ref a_t_counts, .ref a_t_image, .ref a_t_isKept])), (a_t_meeting, .inl (cI, 16, .inl t_meeting)), (a_t_ways, .inl (cJ, 56, .inr (.inl t_ways))), (a_t_nextWays, .inl (cJ, 56, .inr (.inl t_nextWays)))]) ⟨hx, hb, hml, hown, hts⟩ hcw61 hK hN hP hD hS hA (c_X10_isNumber l D cI cJ cZ cO _ p2 x8 hx8) [] [0, 1, 2, 3] [0, 1, 2, 3] rfl rfl rfl rfl (by decide) rfl rfl rfl hl.1 rfl (Nat.le_of_ble_eq_true rfl) dX10_chance_8 ⟨Nat.zero_le _, Nat.zero_le _⟩ (fun H locs hP hD hS => ?_)
    refine lv_if_ne (tgt := 18) hx hb dX10_chance_11 (by decide) (fun hc => ?_) (fun hc => ?_)
    · replace hf := (if_neg hc).symm.trans hf
      refine lv_iload_n hx hb dX10_chance_18 rfl (lv_at hl 3 rfl) ?_
      refine lv_iconst (v := 0) hx hb dX10_chance_19 (by decide) ?_
      refine lv_bipush (v := 10) hx hb dX10_chance_20 (by decide) ?_
      obtain ⟨x22, hx22, hf⟩ := bd_if hf
      refine cs_i (wr := [(a_t, .inr (10, [.ref a_t_roads, .int t_homes, .int t_there, .ref a_t_book, .ref a_t_now, .int t_meetings, .ref a_t_meeting, .int t_sights, .ref a_t_sight, .int t_signs, .ref a_t_pad, .int t_touched, .int t_firstTouch, .int t_reason, .int t_acts, .ref a_t_apart, .ref a_t_rounds, .ref a_t_fewest, .ref a_t_nextFewest, .ref a_t_ways, .ref a_t_nextWays, .ref a_t_counts, .ref a_t_image, .ref a_t_isKept])), (a_t_meeting, .inl (cI, 16, .inl t_meeting)), (a_t_ways, .inl (cJ, 56, .inr (.inl t_ways))), (a_t_nextWays, .inl (cJ, 56, .inr (.inl t_nextWays)))]) (ws' := [(a_t, .inr (10, [.ref a_t_roads, .int t_homes, .int t_there, .ref a_t_book, .ref a_t_now, .int t_meetings, .ref a_t_meeting, .int t_sights, .ref a_t_sight, .int t_signs, .ref a_t_pad, .int t_touched, .int t_firstTouch, .int t_reason, .int t_acts, .ref a_t_apart, .ref a_t_rounds, .ref a_t_fewest, .ref a_t_nextFewest, .ref a_t_ways, .ref a_t_nextWays, .ref a_t_counts, .ref a_t_image, .ref a_t_isKept])), (a_t_meeting, .inl (cI, 16, .inl t_meeting)), (a_t_ways, .inl (cJ, 56, .inr (.inl t_ways))), (a_t_nextWays, .inl (cJ, 56, .inr (.inl t_nextWays)))]) ⟨hx, hb, hml, hown, hts⟩ hcw57 hK hN hP hD hS hA (c_X10_in l D cI cJ cZ cO _ p3 (0 : Int32) (10 : Int32) x22 hx22) [] [0, 1, 2, 3] [0, 1, 2, 3] rfl rfl rfl rfl (by decide) rfl rfl rfl hl.1 rfl (Nat.le_of_ble_eq_true rfl) dX10_chance_22 ⟨Nat.zero_le _, Nat.zero_le _⟩ (fun H locs hP hD hS => ?_)
      refine lv_if_eq (tgt := 38) hx hb dX10_chance_25 (by decide) (fun hc => ?_) (fun hc => ?_)
      · replace hf := (if_pos hc).symm.trans hf
        refine lv_ldc2 (v := -1000000000000000002) hx hb hown hc161 dX10_chance_38 ?_
        obtain rfl := Option.some.inj hf
        exact fin _ _ _ _ dX10_chance_41 hP hD hS
      · replace hf := (if_neg hc).symm.trans hf
        refine lv_iload hx hb dX10_chance_28 (lv_at hl 4 rfl) ?_
        refine lv_iconst (v := 0) hx hb dX10_chance_30 (by decide) ?_
        refine lv_iconst (v := 1) hx hb dX10_chance_31 (by decide) ?_
        obtain ⟨x32, hx32, hf⟩ := bd_if hf
        refine cs_i (wr := [(a_t, .inr (10, [.ref a_t_roads, .int t_homes, .int t_there, .ref a_t_book, .ref a_t_now, .int t_meetings, .ref a_t_meeting, .int t_sights, .ref a_t_sight, .int t_signs, .ref a_t_pad, .int t_touched, .int t_firstTouch, .int t_reason, .int t_acts, .ref a_t_apart, .ref a_t_rounds, .ref a_t_fewest, .ref a_t_nextFewest, .ref a_t_ways, .ref a_t_nextWays, .ref a_t_counts, .ref a_t_image, .ref a_t_isKept])), (a_t_meeting, .inl (cI, 16, .inl t_meeting)), (a_t_ways, .inl (cJ, 56, .inr (.inl t_ways))), (a_t_nextWays, .inl (cJ, 56, .inr (.inl t_nextWays)))]) (ws' := [(a_t, .inr (10, [.ref a_t_roads, .int t_homes, .int t_there, .ref a_t_book, .ref a_t_now, .int t_meetings, .ref a_t_meeting, .int t_sights, .ref a_t_sight, .int t_signs, .ref a_t_pad, .int t_touched, .int t_firstTouch, .int t_reason, .int t_acts, .ref a_t_apart, .ref a_t_rounds, .ref a_t_fewest, .ref a_t_nextFewest, .ref a_t_ways, .ref a_t_nextWays, .ref a_t_counts, .ref a_t_image, .ref a_t_isKept])), (a_t_meeting, .inl (cI, 16, .inl t_meeting)), (a_t_ways, .inl (cJ, 56, .inr (.inl t_ways))), (a_t_nextWays, .inl (cJ, 56, .inr (.inl t_nextWays)))]) ⟨hx, hb, hml, hown, hts⟩ hcw57 hK hN hP hD hS hA (c_X10_in l D cI cJ cZ cO _ p4 (0 : Int32) (1 : Int32) x32 hx32) [] [0, 1, 2, 3] [0, 1, 2, 3] rfl rfl rfl rfl (by decide) rfl rfl rfl hl.1 rfl (Nat.le_of_ble_eq_true rfl) dX10_chance_32 ⟨Nat.zero_le _, Nat.zero_le _⟩ (fun H locs hP hD hS => ?_)
        refine lv_if_ne (tgt := 42) hx hb dX10_chance_35 (by decide) (fun hc => ?_) (fun hc => ?_)
        · replace hf := (if_neg hc).symm.trans hf
          refine lv_lconst (v := 1) hx hb dX10_chance_42 (by decide) ?_
          refine lv_lstore (lv' := [(5, .long (1 : Int64)), (0, .ref a_t), (1, .int p1), (2, .int p2), (3, .int p3), (4, .int p4)]) hx hb dX10_chance_43 hl (by decide) rfl (fun ls hl => ?_)
          refine lv_iconst (v := 0) hx hb dX10_chance_45 (by decide) ?_
          refine lv_istore (lv' := [(7, .int (0 : Int32)), (5, .long (1 : Int64)), (0, .ref a_t), (1, .int p1), (2, .int p2), (3, .int p3), (4, .int p4)]) hx hb dX10_chance_46 hl (by decide) rfl (fun ls hl => ?_)
          have hX48 : ∀ (x48t_ways : Nat → Int64) (H : Heap) (locs : List Loc) (ls : Array Slot), va_P D vwCl [(a_t, .inr (10, [.ref a_t_roads, .int t_homes, .int t_there, .ref a_t_book, .ref a_t_now, .int t_meetings, .ref a_t_meeting, .int t_sights, .ref a_t_sight, .int t_signs, .ref a_t_pad, .int t_touched, .int t_firstTouch, .int t_reason, .int t_acts, .ref a_t_apart, .ref a_t_rounds, .ref a_t_fewest, .ref a_t_nextFewest, .ref a_t_ways, .ref a_t_nextWays, .ref a_t_counts, .ref a_t_image, .ref a_t_isKept])), (a_t_meeting, .inl (cI, 16, .inl t_meeting)), (a_t_ways, .inl (cJ, 56, .inr (.inl x48t_ways))), (a_t_nextWays, .inl (cJ, 56, .inr (.inl t_nextWays)))] H → va_D A [(a_t, .inr (10, [.ref a_t_roads, .int t_homes, .int t_there, .ref a_t_book, .ref a_t_now, .int t_meetings, .ref a_t_meeting, .int t_sights, .ref a_t_sight, .int t_signs, .ref a_t_pad, .int t_touched, .int t_firstTouch, .int t_reason, .int t_acts, .ref a_t_apart, .ref a_t_rounds, .ref a_t_fewest, .ref a_t_nextFewest, .ref a_t_ways, .ref a_t_nextWays, .ref a_t_counts, .ref a_t_image, .ref a_t_isKept])), (a_t_meeting, .inl (cI, 16, .inl t_meeting)), (a_t_ways, .inl (cJ, 56, .inr (.inl x48t_ways))), (a_t_nextWays, .inl (cJ, 56, .inr (.inl t_nextWays)))] → va_S A s.heap H locs → lv_has ls 15 [(0, .ref a_t), (2, .int p2), (3, .int p3), (4, .int p4), (5, .long (1 : Int64))] → f_X10_chance_X48 t_meetings t_meeting t_nextWays p2 p3 p4 x48t_ways = some res → W p l e rm_X10_chance s m args below meth c H locs 0 0 Q (F0 m 85 ls []) := by
            intro x48t_ways H locs ls hP hD hS hl hf
            rw [f_X10_chance_X48] at hf
            refine lv_iconst (v := 0) hx hb dX10_chance_85 (by decide) ?_
            refine lv_istore (lv' := [(7, .int (0 : Int32)), (0, .ref a_t), (2, .int p2), (3, .int p3), (4, .int p4), (5, .long (1 : Int64))]) hx hb dX10_chance_86 hl (by decide) rfl (fun ls hl => ?_)
            have hX88 : ∀ (x88v5 : Int64) (x88t_ways : Nat → Int64) (x88t_nextWays : Nat → Int64) (H : Heap) (locs : List Loc) (ls : Array Slot), va_P D vwCl [(a_t, .inr (10, [.ref a_t_roads, .int t_homes, .int t_there, .ref a_t_book, .ref a_t_now, .int t_meetings, .ref a_t_meeting, .int t_sights, .ref a_t_sight, .int t_signs, .ref a_t_pad, .int t_touched, .int t_firstTouch, .int t_reason, .int t_acts, .ref a_t_apart, .ref a_t_rounds, .ref a_t_fewest, .ref a_t_nextFewest, .ref a_t_ways, .ref a_t_nextWays, .ref a_t_counts, .ref a_t_image, .ref a_t_isKept])), (a_t_meeting, .inl (cI, 16, .inl t_meeting)), (a_t_ways, .inl (cJ, 56, .inr (.inl x88t_ways))), (a_t_nextWays, .inl (cJ, 56, .inr (.inl x88t_nextWays)))] H → va_D A [(a_t, .inr (10, [.ref a_t_roads, .int t_homes, .int t_there, .ref a_t_book, .ref a_t_now, .int t_meetings, .ref a_t_meeting, .int t_sights, .ref a_t_sight, .int t_signs, .ref a_t_pad, .int t_touched, .int t_firstTouch, .int t_reason, .int t_acts, .ref a_t_apart, .ref a_t_rounds, .ref a_t_fewest, .ref a_t_nextFewest, .ref a_t_ways, .ref a_t_nextWays, .ref a_t_counts, .ref a_t_image, .ref a_t_isKept])), (a_t_meeting, .inl (cI, 16, .inl t_meeting)), (a_t_ways, .inl (cJ, 56, .inr (.inl x88t_ways))), (a_t_nextWays, .inl (cJ, 56, .inr (.inl x88t_nextWays)))] → va_S A s.heap H locs → lv_has ls 15 [(0, .ref a_t), (2, .int p2), (4, .int p4), (5, .long x88v5)] → f_X10_chance_X88 p2 p4 x88v5 x88t_ways x88t_nextWays = some res → W p l e rm_X10_chance s m args below meth c H locs 0 0 Q (F0 m 230 ls []) := by
              intro x88v5 x88t_ways x88t_nextWays H locs ls hP hD hS hl hf
              rw [f_X10_chance_X88] at hf
              refine lv_lconst (v := 0) hx hb dX10_chance_230 (by decide) ?_
              refine lv_lstore (lv' := [(7, .long (0 : Int64)), (0, .ref a_t), (2, .int p2), (4, .int p4), (5, .long x88v5)]) hx hb dX10_chance_231 hl (by decide) rfl (fun ls hl => ?_)
              refine lv_bipush (v := 8) hx hb dX10_chance_233 (by decide) ?_
              refine lv_iload_n hx hb dX10_chance_235 rfl (lv_at hl 2 rfl) ?_
              refine lv_imul hx hb dX10_chance_236 ?_
              refine lv_istore (lv' := [(9, .int ((8 : Int32) * p2)), (7, .long (0 : Int64)), (0, .ref a_t), (2, .int p2), (4, .int p4), (5, .long x88v5)]) hx hb dX10_chance_237 hl (by decide) rfl (fun ls hl => ?_)
              have hX239 : ∀ (x239v7 : Int64) (H : Heap) (locs : List Loc) (ls : Array Slot), va_P D vwCl [(a_t, .inr (10, [.ref a_t_roads, .int t_homes, .int t_there, .ref a_t_book, .ref a_t_now, .int t_meetings, .ref a_t_meeting, .int t_sights, .ref a_t_sight, .int t_signs, .ref a_t_pad, .int t_touched, .int t_firstTouch, .int t_reason, .int t_acts, .ref a_t_apart, .ref a_t_rounds, .ref a_t_fewest, .ref a_t_nextFewest, .ref a_t_ways, .ref a_t_nextWays, .ref a_t_counts, .ref a_t_image, .ref a_t_isKept])), (a_t_meeting, .inl (cI, 16, .inl t_meeting)), (a_t_ways, .inl (cJ, 56, .inr (.inl x88t_ways))), (a_t_nextWays, .inl (cJ, 56, .inr (.inl x88t_nextWays)))] H → va_D A [(a_t, .inr (10, [.ref a_t_roads, .int t_homes, .int t_there, .ref a_t_book, .ref a_t_now, .int t_meetings, .ref a_t_meeting, .int t_sights, .ref a_t_sight, .int t_signs, .ref a_t_pad, .int t_touched, .int t_firstTouch, .int t_reason, .int t_acts, .ref a_t_apart, .ref a_t_rounds, .ref a_t_fewest, .ref a_t_nextFewest, .ref a_t_ways, .ref a_t_nextWays, .ref a_t_counts, .ref a_t_image, .ref a_t_isKept])), (a_t_meeting, .inl (cI, 16, .inl t_meeting)), (a_t_ways, .inl (cJ, 56, .inr (.inl x88t_ways))), (a_t_nextWays, .inl (cJ, 56, .inr (.inl x88t_nextWays)))] → va_S A s.heap H locs → lv_has ls 15 [(4, .int p4), (5, .long x88v5), (7, .long x239v7)] → f_X10_chance_X239 p4 x88v5 x88t_ways x88t_nextWays x239v7 = some res → W p l e rm_X10_chance s m args below meth c H locs 0 0 Q (F0 m 269 ls []) := by
                intro x239v7 H locs ls hP hD hS hl hf
                rw [f_X10_chance_X239] at hf
                refine lv_lload hx hb dX10_chance_269 (lv_at hl 2 rfl) ?_
                refine lv_lstore (lv' := [(9, .long x239v7), (4, .int p4), (5, .long x88v5), (7, .long x239v7)]) hx hb dX10_chance_271 hl (by decide) rfl (fun ls hl => ?_)
                refine lv_lload hx hb dX10_chance_273 (lv_at hl 2 rfl) ?_
                refine lv_lstore (lv' := [(11, .long x88v5), (9, .long x239v7), (4, .int p4), (5, .long x88v5), (7, .long x239v7)]) hx hb dX10_chance_275 hl (by decide) rfl (fun ls hl => ?_)
                have hX277 : ∀ (x277v9 : Int64) (H : Heap) (locs : List Loc) (ls : Array Slot), va_P D vwCl [(a_t, .inr (10, [.ref a_t_roads, .int t_homes, .int t_there, .ref a_t_book, .ref a_t_now, .int t_meetings, .ref a_t_meeting, .int t_sights, .ref a_t_sight, .int t_signs, .ref a_t_pad, .int t_touched, .int t_firstTouch, .int t_reason, .int t_acts, .ref a_t_apart, .ref a_t_rounds, .ref a_t_fewest, .ref a_t_nextFewest, .ref a_t_ways, .ref a_t_nextWays, .ref a_t_counts, .ref a_t_image, .ref a_t_isKept])), (a_t_meeting, .inl (cI, 16, .inl t_meeting)), (a_t_ways, .inl (cJ, 56, .inr (.inl x88t_ways))), (a_t_nextWays, .inl (cJ, 56, .inr (.inl x88t_nextWays)))] H → va_D A [(a_t, .inr (10, [.ref a_t_roads, .int t_homes, .int t_there, .ref a_t_book, .ref a_t_now, .int t_meetings, .ref a_t_meeting, .int t_sights, .ref a_t_sight, .int t_signs, .ref a_t_pad, .int t_touched, .int t_firstTouch, .int t_reason, .int t_acts, .ref a_t_apart, .ref a_t_rounds, .ref a_t_fewest, .ref a_t_nextFewest, .ref a_t_ways, .ref a_t_nextWays, .ref a_t_counts, .ref a_t_image, .ref a_t_isKept])), (a_t_meeting, .inl (cI, 16, .inl t_meeting)), (a_t_ways, .inl (cJ, 56, .inr (.inl x88t_ways))), (a_t_nextWays, .inl (cJ, 56, .inr (.inl x88t_nextWays)))] → va_S A s.heap H locs → lv_has ls 15 [(4, .int p4), (5, .long x88v5), (7, .long x239v7), (9, .long x277v9)] → f_X10_chance_X277 p4 x88v5 x88t_ways x88t_nextWays x239v7 x277v9 = some res → W p l e rm_X10_chance s m args below meth c H locs 0 0 Q (F0 m 302 ls []) := by
                  intro x277v9 H locs ls hP hD hS hl hf
                  rw [f_X10_chance_X277] at hf
                  refine lv_iload hx hb dX10_chance_302 (lv_at hl 0 rfl) ?_
                  refine lv_if_ne (tgt := 315) hx hb dX10_chance_304 (by decide) (fun hc => ?_) (fun hc => ?_)
                  · replace hf := (if_neg hc).symm.trans hf
                    refine lv_lload hx hb dX10_chance_315 (lv_at hl 1 rfl) ?_
                    refine lv_lload hx hb dX10_chance_317 (lv_at hl 3 rfl) ?_
                    obtain ⟨hz319, hf⟩ := nz_if hf
                    refine lv_ldiv hx hb dX10_chance_319 hz319 ?_
                    obtain rfl := Option.some.inj hf
                    exact fin _ _ _ _ dX10_chance_320 hP hD hS
                  · replace hf := (if_pos hc).symm.trans hf
                    refine lv_lload hx hb dX10_chance_307 (lv_at hl 2 rfl) ?_
                    refine lv_lload hx hb dX10_chance_309 (lv_at hl 3 rfl) ?_
                    obtain ⟨hz311, hf⟩ := nz_if hf
                    refine lv_ldiv hx hb dX10_chance_311 hz311 ?_
                    refine lv_goto (tgt := 320) hx hb dX10_chance_312 (by decide) ?_
                    obtain rfl := Option.some.inj hf
                    exact fin _ _ _ _ dX10_chance_320 hP hD hS
                have hL277 : ∀ (n277 : Nat), ∀ (l277v9 : Int64) (l277v11 : Int64) (H : Heap) (locs : List Loc) (ls : Array Slot), va_P D vwCl [(a_t, .inr (10, [.ref a_t_roads, .int t_homes, .int t_there, .ref a_t_book, .ref a_t_now, .int t_meetings, .ref a_t_meeting, .int t_sights, .ref a_t_sight, .int t_signs, .ref a_t_pad, .int t_touched, .int t_firstTouch, .int t_reason, .int t_acts, .ref a_t_apart, .ref a_t_rounds, .ref a_t_fewest, .ref a_t_nextFewest, .ref a_t_ways, .ref a_t_nextWays, .ref a_t_counts, .ref a_t_image, .ref a_t_isKept])), (a_t_meeting, .inl (cI, 16, .inl t_meeting)), (a_t_ways, .inl (cJ, 56, .inr (.inl x88t_ways))), (a_t_nextWays, .inl (cJ, 56, .inr (.inl x88t_nextWays)))] H → va_D A [(a_t, .inr (10, [.ref a_t_roads, .int t_homes, .int t_there, .ref a_t_book, .ref a_t_now, .int t_meetings, .ref a_t_meeting, .int t_sights, .ref a_t_sight, .int t_signs, .ref a_t_pad, .int t_touched, .int t_firstTouch, .int t_reason, .int t_acts, .ref a_t_apart, .ref a_t_rounds, .ref a_t_fewest, .ref a_t_nextFewest, .ref a_t_ways, .ref a_t_nextWays, .ref a_t_counts, .ref a_t_image, .ref a_t_isKept])), (a_t_meeting, .inl (cI, 16, .inl t_meeting)), (a_t_ways, .inl (cJ, 56, .inr (.inl x88t_ways))), (a_t_nextWays, .inl (cJ, 56, .inr (.inl x88t_nextWays)))] → va_S A s.heap H locs → lv_has ls 15 [(4, .int p4), (5, .long x88v5), (7, .long x239v7), (9, .long l277v9), (11, .long l277v11)] → f_X10_chance_L277 (f_X10_chance_X277 p4 x88v5 x88t_ways x88t_nextWays x239v7) n277 l277v9 l277v11 = some res → W p l e rm_X10_chance s m args below meth c H locs 0 0 Q (F0 m 277 ls []) := by
                  intro n277
                  induction n277 with
                  | zero =>
                    intro l277v9 l277v11 H locs ls hP hD hS hl hf
                    rw [f_X10_chance_L277] at hf
                    cases hf
                  | succ n277 ih277 =>
                    intro l277v9 l277v11 H locs ls hP hD hS hl hf
                    rw [f_X10_chance_L277] at hf
                    refine lv_lload hx hb dX10_chance_277 (lv_at hl 4 rfl) ?_
                    refine lv_lconst (v := 0) hx hb dX10_chance_279 (by decide) ?_
                    refine W.lcmp hx hb dX10_chance_280 ?_
                    refine lv_if_eq (tgt := 302) hx hb dX10_chance_281 (by decide) (fun hc => ?_) (fun hc => ?_)
                    · replace hf := (if_pos hc).symm.trans hf
                      exact hX277 l277v9 _ _ _ hP hD hS (lv_sub hl [0, 1, 2, 3] rfl) hf
                    · replace hf := (if_neg hc).symm.trans hf
                      refine lv_lload hx hb dX10_chance_284 (lv_at hl 3 rfl) ?_
                      refine lv_lload hx hb dX10_chance_286 (lv_at hl 4 rfl) ?_
                      obtain ⟨hz288, hf⟩ := nz_if hf
                      refine lv_lrem hx hb dX10_chance_288 hz288 ?_
                      refine lv_lstore (lv' := [(13, .long (l277v9 - l277v9 / l277v11 * l277v11)), (4, .int p4), (5, .long x88v5), (7, .long x239v7), (9, .long l277v9), (11, .long l277v11)]) hx hb dX10_chance_289 hl (by decide) rfl (fun ls hl => ?_)
                      refine lv_lload hx hb dX10_chance_291 (lv_at hl 5 rfl) ?_
                      refine lv_lstore (lv' := [(9, .long l277v11), (13, .long (l277v9 - l277v9 / l277v11 * l277v11)), (4, .int p4), (5, .long x88v5), (7, .long x239v7), (11, .long l277v11)]) hx hb dX10_chance_293 hl (by decide) rfl (fun ls hl => ?_)
                      refine lv_lload hx hb dX10_chance_295 (lv_at hl 1 rfl) ?_
                      refine lv_lstore (lv' := [(11, .long (l277v9 - l277v9 / l277v11 * l277v11)), (9, .long l277v11), (13, .long (l277v9 - l277v9 / l277v11 * l277v11)), (4, .int p4), (5, .long x88v5), (7, .long x239v7)]) hx hb dX10_chance_297 hl (by decide) rfl (fun ls hl => ?_)
                      refine lv_goto (tgt := 277) hx hb dX10_chance_299 (by decide) ?_
                      exact ih277 l277v11 (l277v9 - l277v9 / l277v11 * l277v11) _ _ _ hP hD hS (lv_sub hl [3, 4, 5, 1, 0] rfl) hf
                exact hL277 5000 x239v7 x88v5 _ _ _ hP hD hS (lv_sub hl [2, 3, 4, 1, 0] rfl) hf
              have hL239 : ∀ (n239 : Nat), ∀ (l239v7 : Int64) (l239v9 : Int32) (H : Heap) (locs : List Loc) (ls : Array Slot), va_P D vwCl [(a_t, .inr (10, [.ref a_t_roads, .int t_homes, .int t_there, .ref a_t_book, .ref a_t_now, .int t_meetings, .ref a_t_meeting, .int t_sights, .ref a_t_sight, .int t_signs, .ref a_t_pad, .int t_touched, .int t_firstTouch, .int t_reason, .int t_acts, .ref a_t_apart, .ref a_t_rounds, .ref a_t_fewest, .ref a_t_nextFewest, .ref a_t_ways, .ref a_t_nextWays, .ref a_t_counts, .ref a_t_image, .ref a_t_isKept])), (a_t_meeting, .inl (cI, 16, .inl t_meeting)), (a_t_ways, .inl (cJ, 56, .inr (.inl x88t_ways))), (a_t_nextWays, .inl (cJ, 56, .inr (.inl x88t_nextWays)))] H → va_D A [(a_t, .inr (10, [.ref a_t_roads, .int t_homes, .int t_there, .ref a_t_book, .ref a_t_now, .int t_meetings, .ref a_t_meeting, .int t_sights, .ref a_t_sight, .int t_signs, .ref a_t_pad, .int t_touched, .int t_firstTouch, .int t_reason, .int t_acts, .ref a_t_apart, .ref a_t_rounds, .ref a_t_fewest, .ref a_t_nextFewest, .ref a_t_ways, .ref a_t_nextWays, .ref a_t_counts, .ref a_t_image, .ref a_t_isKept])), (a_t_meeting, .inl (cI, 16, .inl t_meeting)), (a_t_ways, .inl (cJ, 56, .inr (.inl x88t_ways))), (a_t_nextWays, .inl (cJ, 56, .inr (.inl x88t_nextWays)))] → va_S A s.heap H locs → lv_has ls 15 [(0, .ref a_t), (2, .int p2), (4, .int p4), (5, .long x88v5), (7, .long l239v7), (9, .int l239v9)] → f_X10_chance_L239 p2 x88t_ways (f_X10_chance_X239 p4 x88v5 x88t_ways x88t_nextWays) n239 l239v7 l239v9 = some res → W p l e rm_X10_chance s m args below meth c H locs 0 0 Q (F0 m 239 ls []) := by
                intro n239
                induction n239 with
                | zero =>
                  intro l239v7 l239v9 H locs ls hP hD hS hl hf
                  rw [f_X10_chance_L239] at hf
                  cases hf
                | succ n239 ih239 =>
                  intro l239v7 l239v9 H locs ls hP hD hS hl hf
                  rw [f_X10_chance_L239] at hf
                  refine lv_iload hx hb dX10_chance_239 (lv_at hl 5 rfl) ?_
                  refine lv_bipush (v := 8) hx hb dX10_chance_241 (by decide) ?_
                  refine lv_iload_n hx hb dX10_chance_243 rfl (lv_at hl 1 rfl) ?_
                  refine lv_imul hx hb dX10_chance_244 ?_
                  refine lv_bipush (v := 8) hx hb dX10_chance_245 (by decide) ?_
                  refine lv_iadd hx hb dX10_chance_247 ?_
                  refine lv_icmp_ge (tgt := 269) hx hb dX10_chance_248 (by decide) (fun hc => ?_) (fun hc => ?_)
                  · replace hf := (if_pos hc).symm.trans hf
                    exact hX239 l239v7 _ _ _ hP hD hS (lv_sub hl [2, 3, 4] rfl) hf
                  · replace hf := (if_neg hc).symm.trans hf
                    refine lv_lload hx hb dX10_chance_251 (lv_at hl 4 rfl) ?_
                    refine lv_aload_n hx hb dX10_chance_253 rfl (lv_at hl 0 rfl) ?_
                    refine va_get (D := D) (ci := 10) (v := .ref a_t_ways) (C := RX10) (T := TX10) (N := 24) hx hb hts hmsX10 hown hK hP 0 rfl rfl 19 (by decide) hw40 (fun _ h9 => h9) rfl dX10_chance_254 ?_
                    refine lv_iload hx hb dX10_chance_257 (lv_at hl 5 rfl) ?_
                    obtain ⟨hi259, hf⟩ := ix_if hf
                    refine va_lald (D := D) hx hb hK hP 2 1 rfl rfl hi259 dX10_chance_259 ?_
                    refine lv_ladd hx hb dX10_chance_260 ?_
                    refine lv_lstore (lv' := [(7, .long (l239v7 + (x88t_ways l239v9.toNatClampNeg))), (0, .ref a_t), (2, .int p2), (4, .int p4), (5, .long x88v5), (9, .int l239v9)]) hx hb dX10_chance_261 hl (by decide) rfl (fun ls hl => ?_)
                    refine lv_iinc (v := l239v9 + 1) (lv' := [(9, .int (l239v9 + 1)), (7, .long (l239v7 + (x88t_ways l239v9.toNatClampNeg))), (0, .ref a_t), (2, .int p2), (4, .int p4), (5, .long x88v5)]) hx hb dX10_chance_263 hl (k := 5) rfl rfl (by decide) rfl (fun ls hl => ?_)
                    refine lv_goto (tgt := 239) hx hb dX10_chance_266 (by decide) ?_
                    exact ih239 (l239v7 + (x88t_ways l239v9.toNatClampNeg)) (l239v9 + 1) _ _ _ hP hD hS (lv_sub hl [2, 3, 4, 5, 1, 0] rfl) hf
              exact hL239 5000 (0 : Int64) ((8 : Int32) * p2) _ _ _ hP hD hS (lv_sub hl [2, 3, 4, 5, 1, 0] rfl) hf
            have hL88 : ∀ (n88 : Nat), ∀ (l88v5 : Int64) (l88v7 : Int32) (l88t_ways : Nat → Int64) (l88t_nextWays : Nat → Int64) (H : Heap) (locs : List Loc) (ls : Array Slot), va_P D vwCl [(a_t, .inr (10, [.ref a_t_roads, .int t_homes, .int t_there, .ref a_t_book, .ref a_t_now, .int t_meetings, .ref a_t_meeting, .int t_sights, .ref a_t_sight, .int t_signs, .ref a_t_pad, .int t_touched, .int t_firstTouch, .int t_reason, .int t_acts, .ref a_t_apart, .ref a_t_rounds, .ref a_t_fewest, .ref a_t_nextFewest, .ref a_t_ways, .ref a_t_nextWays, .ref a_t_counts, .ref a_t_image, .ref a_t_isKept])), (a_t_meeting, .inl (cI, 16, .inl t_meeting)), (a_t_ways, .inl (cJ, 56, .inr (.inl l88t_ways))), (a_t_nextWays, .inl (cJ, 56, .inr (.inl l88t_nextWays)))] H → va_D A [(a_t, .inr (10, [.ref a_t_roads, .int t_homes, .int t_there, .ref a_t_book, .ref a_t_now, .int t_meetings, .ref a_t_meeting, .int t_sights, .ref a_t_sight, .int t_signs, .ref a_t_pad, .int t_touched, .int t_firstTouch, .int t_reason, .int t_acts, .ref a_t_apart, .ref a_t_rounds, .ref a_t_fewest, .ref a_t_nextFewest, .ref a_t_ways, .ref a_t_nextWays, .ref a_t_counts, .ref a_t_image, .ref a_t_isKept])), (a_t_meeting, .inl (cI, 16, .inl t_meeting)), (a_t_ways, .inl (cJ, 56, .inr (.inl l88t_ways))), (a_t_nextWays, .inl (cJ, 56, .inr (.inl l88t_nextWays)))] → va_S A s.heap H locs → lv_has ls 15 [(0, .ref a_t), (2, .int p2), (3, .int p3), (4, .int p4), (5, .long l88v5), (7, .int l88v7)] → f_X10_chance_L88 t_meetings t_meeting p3 (f_X10_chance_X88 p2 p4) n88 l88v5 l88v7 l88t_ways l88t_nextWays = some res → W p l e rm_X10_chance s m args below meth c H locs 0 0 Q (F0 m 88 ls []) := by
              intro n88
              induction n88 with
              | zero =>
                intro l88v5 l88v7 l88t_ways l88t_nextWays H locs ls hP hD hS hl hf
                rw [f_X10_chance_L88] at hf
                cases hf
              | succ n88 ih88 =>
                intro l88v5 l88v7 l88t_ways l88t_nextWays H locs ls hP hD hS hl hf
                rw [f_X10_chance_L88] at hf
                refine lv_iload hx hb dX10_chance_88 (lv_at hl 5 rfl) ?_
                refine lv_aload_n hx hb dX10_chance_90 rfl (lv_at hl 0 rfl) ?_
                refine va_get (D := D) (ci := 10) (v := .int t_meetings) (C := RX10) (T := TX10) (N := 24) hx hb hts hmsX10 hown hK hP 0 rfl rfl 5 (by decide) hw149 (fun _ h9 => h9) rfl dX10_chance_91 ?_
                refine lv_icmp_ge (tgt := 230) hx hb dX10_chance_94 (by decide) (fun hc => ?_) (fun hc => ?_)
                · replace hf := (if_pos hc).symm.trans hf
                  exact hX88 l88v5 l88t_ways l88t_nextWays _ _ _ hP hD hS (lv_sub hl [0, 1, 3, 4] rfl) hf
                · replace hf := (if_neg hc).symm.trans hf
                  refine lv_lload hx hb dX10_chance_97 (lv_at hl 4 rfl) ?_
                  refine lv_ldc2 (v := 10) hx hb hown hc163 dX10_chance_99 ?_
                  refine lv_lmul hx hb dX10_chance_102 ?_
                  refine lv_lstore (lv' := [(5, .long (l88v5 * (10 : Int64))), (0, .ref a_t), (2, .int p2), (3, .int p3), (4, .int p4), (7, .int l88v7)]) hx hb dX10_chance_103 hl (by decide) rfl (fun ls hl => ?_)
                  refine lv_iconst (v := 0) hx hb dX10_chance_105 (by decide) ?_
                  refine lv_istore (lv' := [(8, .int (0 : Int32)), (5, .long (l88v5 * (10 : Int64))), (0, .ref a_t), (2, .int p2), (3, .int p3), (4, .int p4), (7, .int l88v7)]) hx hb dX10_chance_106 hl (by decide) rfl (fun ls hl => ?_)
                  have hX108 : ∀ (x108v5 : Int64) (x108t_nextWays : Nat → Int64) (H : Heap) (locs : List Loc) (ls : Array Slot), va_P D vwCl [(a_t, .inr (10, [.ref a_t_roads, .int t_homes, .int t_there, .ref a_t_book, .ref a_t_now, .int t_meetings, .ref a_t_meeting, .int t_sights, .ref a_t_sight, .int t_signs, .ref a_t_pad, .int t_touched, .int t_firstTouch, .int t_reason, .int t_acts, .ref a_t_apart, .ref a_t_rounds, .ref a_t_fewest, .ref a_t_nextFewest, .ref a_t_ways, .ref a_t_nextWays, .ref a_t_counts, .ref a_t_image, .ref a_t_isKept])), (a_t_meeting, .inl (cI, 16, .inl t_meeting)), (a_t_ways, .inl (cJ, 56, .inr (.inl l88t_ways))), (a_t_nextWays, .inl (cJ, 56, .inr (.inl x108t_nextWays)))] H → va_D A [(a_t, .inr (10, [.ref a_t_roads, .int t_homes, .int t_there, .ref a_t_book, .ref a_t_now, .int t_meetings, .ref a_t_meeting, .int t_sights, .ref a_t_sight, .int t_signs, .ref a_t_pad, .int t_touched, .int t_firstTouch, .int t_reason, .int t_acts, .ref a_t_apart, .ref a_t_rounds, .ref a_t_fewest, .ref a_t_nextFewest, .ref a_t_ways, .ref a_t_nextWays, .ref a_t_counts, .ref a_t_image, .ref a_t_isKept])), (a_t_meeting, .inl (cI, 16, .inl t_meeting)), (a_t_ways, .inl (cJ, 56, .inr (.inl l88t_ways))), (a_t_nextWays, .inl (cJ, 56, .inr (.inl x108t_nextWays)))] → va_S A s.heap H locs → lv_has ls 15 [(0, .ref a_t), (2, .int p2), (3, .int p3), (4, .int p4), (5, .long x108v5), (7, .int l88v7)] → f_X10_chance_X108 t_meeting p3 l88v7 l88t_ways (f_X10_chance_L88 t_meetings t_meeting p3 (f_X10_chance_X88 p2 p4) n88) x108v5 x108t_nextWays = some res → W p l e rm_X10_chance s m args below meth c H locs 0 0 Q (F0 m 129 ls []) := by
                    intro x108v5 x108t_nextWays H locs ls hP hD hS hl hf
                    rw [f_X10_chance_X108] at hf
                    refine lv_iconst (v := 0) hx hb dX10_chance_129 (by decide) ?_
                    refine lv_istore (lv' := [(8, .int (0 : Int32)), (0, .ref a_t), (2, .int p2), (3, .int p3), (4, .int p4), (5, .long x108v5), (7, .int l88v7)]) hx hb dX10_chance_130 hl (by decide) rfl (fun ls hl => ?_)
                    have hX132 : ∀ (x132t_nextWays : Nat → Int64) (H : Heap) (locs : List Loc) (ls : Array Slot), va_P D vwCl [(a_t, .inr (10, [.ref a_t_roads, .int t_homes, .int t_there, .ref a_t_book, .ref a_t_now, .int t_meetings, .ref a_t_meeting, .int t_sights, .ref a_t_sight, .int t_signs, .ref a_t_pad, .int t_touched, .int t_firstTouch, .int t_reason, .int t_acts, .ref a_t_apart, .ref a_t_rounds, .ref a_t_fewest, .ref a_t_nextFewest, .ref a_t_ways, .ref a_t_nextWays, .ref a_t_counts, .ref a_t_image, .ref a_t_isKept])), (a_t_meeting, .inl (cI, 16, .inl t_meeting)), (a_t_ways, .inl (cJ, 56, .inr (.inl l88t_ways))), (a_t_nextWays, .inl (cJ, 56, .inr (.inl x132t_nextWays)))] H → va_D A [(a_t, .inr (10, [.ref a_t_roads, .int t_homes, .int t_there, .ref a_t_book, .ref a_t_now, .int t_meetings, .ref a_t_meeting, .int t_sights, .ref a_t_sight, .int t_signs, .ref a_t_pad, .int t_touched, .int t_firstTouch, .int t_reason, .int t_acts, .ref a_t_apart, .ref a_t_rounds, .ref a_t_fewest, .ref a_t_nextFewest, .ref a_t_ways, .ref a_t_nextWays, .ref a_t_counts, .ref a_t_image, .ref a_t_isKept])), (a_t_meeting, .inl (cI, 16, .inl t_meeting)), (a_t_ways, .inl (cJ, 56, .inr (.inl l88t_ways))), (a_t_nextWays, .inl (cJ, 56, .inr (.inl x132t_nextWays)))] → va_S A s.heap H locs → lv_has ls 15 [(0, .ref a_t), (2, .int p2), (3, .int p3), (4, .int p4), (5, .long x108v5), (7, .int l88v7)] → f_X10_chance_X132 l88v7 l88t_ways (f_X10_chance_L88 t_meetings t_meeting p3 (f_X10_chance_X88 p2 p4) n88) x108v5 x132t_nextWays = some res → W p l e rm_X10_chance s m args below meth c H locs 0 0 Q (F0 m 194 ls []) := by
                      intro x132t_nextWays H locs ls hP hD hS hl hf
                      rw [f_X10_chance_X132] at hf
                      refine lv_iconst (v := 0) hx hb dX10_chance_194 (by decide) ?_
                      refine lv_istore (lv' := [(8, .int (0 : Int32)), (0, .ref a_t), (2, .int p2), (3, .int p3), (4, .int p4), (5, .long x108v5), (7, .int l88v7)]) hx hb dX10_chance_195 hl (by decide) rfl (fun ls hl => ?_)
                      have hX197 : ∀ (x197t_ways : Nat → Int64) (H : Heap) (locs : List Loc) (ls : Array Slot), va_P D vwCl [(a_t, .inr (10, [.ref a_t_roads, .int t_homes, .int t_there, .ref a_t_book, .ref a_t_now, .int t_meetings, .ref a_t_meeting, .int t_sights, .ref a_t_sight, .int t_signs, .ref a_t_pad, .int t_touched, .int t_firstTouch, .int t_reason, .int t_acts, .ref a_t_apart, .ref a_t_rounds, .ref a_t_fewest, .ref a_t_nextFewest, .ref a_t_ways, .ref a_t_nextWays, .ref a_t_counts, .ref a_t_image, .ref a_t_isKept])), (a_t_meeting, .inl (cI, 16, .inl t_meeting)), (a_t_ways, .inl (cJ, 56, .inr (.inl x197t_ways))), (a_t_nextWays, .inl (cJ, 56, .inr (.inl x132t_nextWays)))] H → va_D A [(a_t, .inr (10, [.ref a_t_roads, .int t_homes, .int t_there, .ref a_t_book, .ref a_t_now, .int t_meetings, .ref a_t_meeting, .int t_sights, .ref a_t_sight, .int t_signs, .ref a_t_pad, .int t_touched, .int t_firstTouch, .int t_reason, .int t_acts, .ref a_t_apart, .ref a_t_rounds, .ref a_t_fewest, .ref a_t_nextFewest, .ref a_t_ways, .ref a_t_nextWays, .ref a_t_counts, .ref a_t_image, .ref a_t_isKept])), (a_t_meeting, .inl (cI, 16, .inl t_meeting)), (a_t_ways, .inl (cJ, 56, .inr (.inl x197t_ways))), (a_t_nextWays, .inl (cJ, 56, .inr (.inl x132t_nextWays)))] → va_S A s.heap H locs → lv_has ls 15 [(0, .ref a_t), (2, .int p2), (3, .int p3), (4, .int p4), (5, .long x108v5), (7, .int l88v7)] → f_X10_chance_X197 l88v7 (f_X10_chance_L88 t_meetings t_meeting p3 (f_X10_chance_X88 p2 p4) n88) x108v5 x132t_nextWays x197t_ways = some res → W p l e rm_X10_chance s m args below meth c H locs 0 0 Q (F0 m 224 ls []) := by
                        intro x197t_ways H locs ls hP hD hS hl hf
                        rw [f_X10_chance_X197] at hf
                        refine lv_iinc (v := l88v7 + 1) (lv' := [(7, .int (l88v7 + 1)), (0, .ref a_t), (2, .int p2), (3, .int p3), (4, .int p4), (5, .long x108v5)]) hx hb dX10_chance_224 hl (k := 5) rfl rfl (by decide) rfl (fun ls hl => ?_)
                        refine lv_goto (tgt := 88) hx hb dX10_chance_227 (by decide) ?_
                        exact ih88 x108v5 (l88v7 + 1) x197t_ways x132t_nextWays _ _ _ hP hD hS (lv_sub hl [1, 2, 3, 4, 5, 0] rfl) hf
                      have hL197 : ∀ (n197 : Nat), ∀ (l197v8 : Int32) (l197t_ways : Nat → Int64) (H : Heap) (locs : List Loc) (ls : Array Slot), va_P D vwCl [(a_t, .inr (10, [.ref a_t_roads, .int t_homes, .int t_there, .ref a_t_book, .ref a_t_now, .int t_meetings, .ref a_t_meeting, .int t_sights, .ref a_t_sight, .int t_signs, .ref a_t_pad, .int t_touched, .int t_firstTouch, .int t_reason, .int t_acts, .ref a_t_apart, .ref a_t_rounds, .ref a_t_fewest, .ref a_t_nextFewest, .ref a_t_ways, .ref a_t_nextWays, .ref a_t_counts, .ref a_t_image, .ref a_t_isKept])), (a_t_meeting, .inl (cI, 16, .inl t_meeting)), (a_t_ways, .inl (cJ, 56, .inr (.inl l197t_ways))), (a_t_nextWays, .inl (cJ, 56, .inr (.inl x132t_nextWays)))] H → va_D A [(a_t, .inr (10, [.ref a_t_roads, .int t_homes, .int t_there, .ref a_t_book, .ref a_t_now, .int t_meetings, .ref a_t_meeting, .int t_sights, .ref a_t_sight, .int t_signs, .ref a_t_pad, .int t_touched, .int t_firstTouch, .int t_reason, .int t_acts, .ref a_t_apart, .ref a_t_rounds, .ref a_t_fewest, .ref a_t_nextFewest, .ref a_t_ways, .ref a_t_nextWays, .ref a_t_counts, .ref a_t_image, .ref a_t_isKept])), (a_t_meeting, .inl (cI, 16, .inl t_meeting)), (a_t_ways, .inl (cJ, 56, .inr (.inl l197t_ways))), (a_t_nextWays, .inl (cJ, 56, .inr (.inl x132t_nextWays)))] → va_S A s.heap H locs → lv_has ls 15 [(0, .ref a_t), (2, .int p2), (3, .int p3), (4, .int p4), (5, .long x108v5), (7, .int l88v7), (8, .int l197v8)] → f_X10_chance_L197 x132t_nextWays (f_X10_chance_X197 l88v7 (f_X10_chance_L88 t_meetings t_meeting p3 (f_X10_chance_X88 p2 p4) n88) x108v5 x132t_nextWays) n197 l197v8 l197t_ways = some res → W p l e rm_X10_chance s m args below meth c H locs 0 0 Q (F0 m 197 ls []) := by
                        intro n197
                        induction n197 with
                        | zero =>
                          intro l197v8 l197t_ways H locs ls hP hD hS hl hf
                          rw [f_X10_chance_L197] at hf
                          cases hf
                        | succ n197 ih197 =>
                          intro l197v8 l197t_ways H locs ls hP hD hS hl hf
                          rw [f_X10_chance_L197] at hf
                          refine lv_iload hx hb dX10_chance_197 (lv_at hl 6 rfl) ?_
                          refine lv_bipush (v := 56) hx hb dX10_chance_199 (by decide) ?_
                          refine lv_icmp_ge (tgt := 224) hx hb dX10_chance_201 (by decide) (fun hc => ?_) (fun hc => ?_)
                          · replace hf := (if_pos hc).symm.trans hf
                            exact hX197 l197t_ways _ _ _ hP hD hS (lv_sub hl [0, 1, 2, 3, 4, 5] rfl) hf
                          · replace hf := (if_neg hc).symm.trans hf
                            refine lv_aload_n hx hb dX10_chance_204 rfl (lv_at hl 0 rfl) ?_
                            refine va_get (D := D) (ci := 10) (v := .ref a_t_ways) (C := RX10) (T := TX10) (N := 24) hx hb hts hmsX10 hown hK hP 0 rfl rfl 19 (by decide) hw40 (fun _ h9 => h9) rfl dX10_chance_205 ?_
                            refine lv_iload hx hb dX10_chance_208 (lv_at hl 6 rfl) ?_
                            refine lv_aload_n hx hb dX10_chance_210 rfl (lv_at hl 0 rfl) ?_
                            refine va_get (D := D) (ci := 10) (v := .ref a_t_nextWays) (C := RX10) (T := TX10) (N := 24) hx hb hts hmsX10 hown hK hP 0 rfl rfl 20 (by decide) hw44 (fun _ h9 => h9) rfl dX10_chance_211 ?_
                            refine lv_iload hx hb dX10_chance_214 (lv_at hl 6 rfl) ?_
                            obtain ⟨hi216, hf⟩ := ix_if hf
                            refine va_lald (D := D) hx hb hK hP 3 1 rfl rfl hi216 dX10_chance_216 ?_
                            refine va_last (D := D) hx hb hK hP hD hS 2 1 rfl rfl hi216 dX10_chance_217 (fun H locs hP hD hS => ?_)
                            replace hP : va_P D vwCl [(a_t, .inr (10, [.ref a_t_roads, .int t_homes, .int t_there, .ref a_t_book, .ref a_t_now, .int t_meetings, .ref a_t_meeting, .int t_sights, .ref a_t_sight, .int t_signs, .ref a_t_pad, .int t_touched, .int t_firstTouch, .int t_reason, .int t_acts, .ref a_t_apart, .ref a_t_rounds, .ref a_t_fewest, .ref a_t_nextFewest, .ref a_t_ways, .ref a_t_nextWays, .ref a_t_counts, .ref a_t_image, .ref a_t_isKept])), (a_t_meeting, .inl (cI, 16, .inl t_meeting)), (a_t_ways, .inl (cJ, 56, .inr (.inl (vp_updL l197t_ways l197v8.toNatClampNeg (x132t_nextWays l197v8.toNatClampNeg))))), (a_t_nextWays, .inl (cJ, 56, .inr (.inl x132t_nextWays)))] H := hP
                            replace hD : va_D A [(a_t, .inr (10, [.ref a_t_roads, .int t_homes, .int t_there, .ref a_t_book, .ref a_t_now, .int t_meetings, .ref a_t_meeting, .int t_sights, .ref a_t_sight, .int t_signs, .ref a_t_pad, .int t_touched, .int t_firstTouch, .int t_reason, .int t_acts, .ref a_t_apart, .ref a_t_rounds, .ref a_t_fewest, .ref a_t_nextFewest, .ref a_t_ways, .ref a_t_nextWays, .ref a_t_counts, .ref a_t_image, .ref a_t_isKept])), (a_t_meeting, .inl (cI, 16, .inl t_meeting)), (a_t_ways, .inl (cJ, 56, .inr (.inl (vp_updL l197t_ways l197v8.toNatClampNeg (x132t_nextWays l197v8.toNatClampNeg))))), (a_t_nextWays, .inl (cJ, 56, .inr (.inl x132t_nextWays)))] := hD
                            refine lv_iinc (v := l197v8 + 1) (lv' := [(8, .int (l197v8 + 1)), (0, .ref a_t), (2, .int p2), (3, .int p3), (4, .int p4), (5, .long x108v5), (7, .int l88v7)]) hx hb dX10_chance_218 hl (k := 6) rfl rfl (by decide) rfl (fun ls hl => ?_)
                            refine lv_goto (tgt := 197) hx hb dX10_chance_221 (by decide) ?_
                            exact ih197 (l197v8 + 1) (vp_updL l197t_ways l197v8.toNatClampNeg (x132t_nextWays l197v8.toNatClampNeg)) _ _ _ hP hD hS (lv_sub hl [1, 2, 3, 4, 5, 6, 0] rfl) hf
                      exact hL197 5000 (0 : Int32) l88t_ways _ _ _ hP hD hS (lv_sub hl [1, 2, 3, 4, 5, 6, 0] rfl) hf
                    have hL132 : ∀ (n132 : Nat), ∀ (l132v8 : Int32) (l132t_nextWays : Nat → Int64) (H : Heap) (locs : List Loc) (ls : Array Slot), va_P D vwCl [(a_t, .inr (10, [.ref a_t_roads, .int t_homes, .int t_there, .ref a_t_book, .ref a_t_now, .int t_meetings, .ref a_t_meeting, .int t_sights, .ref a_t_sight, .int t_signs, .ref a_t_pad, .int t_touched, .int t_firstTouch, .int t_reason, .int t_acts, .ref a_t_apart, .ref a_t_rounds, .ref a_t_fewest, .ref a_t_nextFewest, .ref a_t_ways, .ref a_t_nextWays, .ref a_t_counts, .ref a_t_image, .ref a_t_isKept])), (a_t_meeting, .inl (cI, 16, .inl t_meeting)), (a_t_ways, .inl (cJ, 56, .inr (.inl l88t_ways))), (a_t_nextWays, .inl (cJ, 56, .inr (.inl l132t_nextWays)))] H → va_D A [(a_t, .inr (10, [.ref a_t_roads, .int t_homes, .int t_there, .ref a_t_book, .ref a_t_now, .int t_meetings, .ref a_t_meeting, .int t_sights, .ref a_t_sight, .int t_signs, .ref a_t_pad, .int t_touched, .int t_firstTouch, .int t_reason, .int t_acts, .ref a_t_apart, .ref a_t_rounds, .ref a_t_fewest, .ref a_t_nextFewest, .ref a_t_ways, .ref a_t_nextWays, .ref a_t_counts, .ref a_t_image, .ref a_t_isKept])), (a_t_meeting, .inl (cI, 16, .inl t_meeting)), (a_t_ways, .inl (cJ, 56, .inr (.inl l88t_ways))), (a_t_nextWays, .inl (cJ, 56, .inr (.inl l132t_nextWays)))] → va_S A s.heap H locs → lv_has ls 15 [(0, .ref a_t), (2, .int p2), (3, .int p3), (4, .int p4), (5, .long x108v5), (7, .int l88v7), (8, .int l132v8)] → f_X10_chance_L132 t_meeting p3 l88v7 l88t_ways (f_X10_chance_X132 l88v7 l88t_ways (f_X10_chance_L88 t_meetings t_meeting p3 (f_X10_chance_X88 p2 p4) n88) x108v5) n132 l132v8 l132t_nextWays = some res → W p l e rm_X10_chance s m args below meth c H locs 0 0 Q (F0 m 132 ls []) := by
                      intro n132
                      induction n132 with
                      | zero =>
                        intro l132v8 l132t_nextWays H locs ls hP hD hS hl hf
                        rw [f_X10_chance_L132] at hf
                        cases hf
                      | succ n132 ih132 =>
                        intro l132v8 l132t_nextWays H locs ls hP hD hS hl hf
                        rw [f_X10_chance_L132] at hf
                        refine lv_iload hx hb dX10_chance_132 (lv_at hl 6 rfl) ?_
                        refine lv_bipush (v := 56) hx hb dX10_chance_134 (by decide) ?_
                        refine lv_icmp_ge (tgt := 194) hx hb dX10_chance_136 (by decide) (fun hc => ?_) (fun hc => ?_)
                        · replace hf := (if_pos hc).symm.trans hf
                          exact hX132 l132t_nextWays _ _ _ hP hD hS (lv_sub hl [0, 1, 2, 3, 4, 5] rfl) hf
                        · replace hf := (if_neg hc).symm.trans hf
                          refine lv_aload_n hx hb dX10_chance_139 rfl (lv_at hl 0 rfl) ?_
                          refine va_get (D := D) (ci := 10) (v := .ref a_t_nextWays) (C := RX10) (T := TX10) (N := 24) hx hb hts hmsX10 hown hK hP 0 rfl rfl 20 (by decide) hw44 (fun _ h9 => h9) rfl dX10_chance_140 ?_
                          refine lv_aload_n hx hb dX10_chance_143 rfl (lv_at hl 0 rfl) ?_
                          refine lv_iload hx hb dX10_chance_144 (lv_at hl 5 rfl) ?_
                          refine lv_iload hx hb dX10_chance_146 (lv_at hl 6 rfl) ?_
                          obtain ⟨x148, hx148, hf⟩ := bd_if hf
                          refine cv_i (wr := [(a_t_ways, .inl (cJ, 56, .inr (.inl l88t_ways))), (a_t_nextWays, .inl (cJ, 56, .inr (.inl l132t_nextWays)))]) (ws' := [(a_t, .inr (10, [.ref a_t_roads, .int t_homes, .int t_there, .ref a_t_book, .ref a_t_now, .int t_meetings, .ref a_t_meeting, .int t_sights, .ref a_t_sight, .int t_signs, .ref a_t_pad, .int t_touched, .int t_firstTouch, .int t_reason, .int t_acts, .ref a_t_apart, .ref a_t_rounds, .ref a_t_fewest, .ref a_t_nextFewest, .ref a_t_ways, .ref a_t_nextWays, .ref a_t_counts, .ref a_t_image, .ref a_t_isKept])), (a_t_meeting, .inl (cI, 16, .inl t_meeting)), (a_t_ways, .inl (cJ, 56, .inr (.inl l88t_ways))), (a_t_nextWays, .inl (cJ, 56, .inr (.inl l132t_nextWays)))]) ⟨hx, hb, hml, hown, hts⟩ hcw152 hK hN hP hD hS hA (c_X10_touchAt l D cI cJ cZ cO _ a_t a_t_roads a_t_book a_t_now a_t_meeting a_t_sight a_t_pad a_t_apart a_t_rounds a_t_fewest a_t_nextFewest a_t_ways a_t_nextWays a_t_counts a_t_image a_t_isKept t_homes t_there t_meetings t_sights t_signs t_touched t_firstTouch t_reason t_acts t_meeting l88v7 l132v8 x148 hx148) (q := (RX10, TX10, 24)) (ci := 10) (q0 := 0) rfl rfl [0, 1] [2, 3] [2, 3, 0, 1] rfl rfl rfl rfl (by decide) rfl rfl rfl hl.1 rfl (Nat.le_of_ble_eq_true rfl) dX10_chance_148 ⟨Nat.zero_le _, Nat.zero_le _⟩ (fun H locs hP hD hS => ?_)
                          refine lv_dup2_11 hx hb dX10_chance_151 rfl rfl ?_
                          obtain ⟨hi152, hf⟩ := ix_if hf
                          refine va_lald (D := D) hx hb hK hP 3 1 rfl rfl hi152 dX10_chance_152 ?_
                          refine lv_aload_n hx hb dX10_chance_153 rfl (lv_at hl 0 rfl) ?_
                          refine va_get (D := D) (ci := 10) (v := .ref a_t_ways) (C := RX10) (T := TX10) (N := 24) hx hb hts hmsX10 hown hK hP 0 rfl rfl 19 (by decide) hw40 (fun _ h9 => h9) rfl dX10_chance_154 ?_
                          refine lv_iload hx hb dX10_chance_157 (lv_at hl 6 rfl) ?_
                          obtain ⟨hi159, hf⟩ := ix_if hf
                          refine va_lald (D := D) hx hb hK hP 2 1 rfl rfl hi159 dX10_chance_159 ?_
                          refine lv_iload_n hx hb dX10_chance_160 rfl (lv_at hl 2 rfl) ?_
                          refine lv_i2l (v := p3.toInt64) hx hb dX10_chance_161 rfl ?_
                          refine lv_lmul hx hb dX10_chance_162 ?_
                          refine lv_ladd hx hb dX10_chance_163 ?_
                          refine va_last (D := D) hx hb hK hP hD hS 3 1 rfl rfl hi152 dX10_chance_164 (fun H locs hP hD hS => ?_)
                          replace hP : va_P D vwCl [(a_t, .inr (10, [.ref a_t_roads, .int t_homes, .int t_there, .ref a_t_book, .ref a_t_now, .int t_meetings, .ref a_t_meeting, .int t_sights, .ref a_t_sight, .int t_signs, .ref a_t_pad, .int t_touched, .int t_firstTouch, .int t_reason, .int t_acts, .ref a_t_apart, .ref a_t_rounds, .ref a_t_fewest, .ref a_t_nextFewest, .ref a_t_ways, .ref a_t_nextWays, .ref a_t_counts, .ref a_t_image, .ref a_t_isKept])), (a_t_meeting, .inl (cI, 16, .inl t_meeting)), (a_t_ways, .inl (cJ, 56, .inr (.inl l88t_ways))), (a_t_nextWays, .inl (cJ, 56, .inr (.inl (vp_updL l132t_nextWays x148.toNatClampNeg ((l132t_nextWays x148.toNatClampNeg) + ((l88t_ways l132v8.toNatClampNeg) * p3.toInt64))))))] H := hP
                          replace hD : va_D A [(a_t, .inr (10, [.ref a_t_roads, .int t_homes, .int t_there, .ref a_t_book, .ref a_t_now, .int t_meetings, .ref a_t_meeting, .int t_sights, .ref a_t_sight, .int t_signs, .ref a_t_pad, .int t_touched, .int t_firstTouch, .int t_reason, .int t_acts, .ref a_t_apart, .ref a_t_rounds, .ref a_t_fewest, .ref a_t_nextFewest, .ref a_t_ways, .ref a_t_nextWays, .ref a_t_counts, .ref a_t_image, .ref a_t_isKept])), (a_t_meeting, .inl (cI, 16, .inl t_meeting)), (a_t_ways, .inl (cJ, 56, .inr (.inl l88t_ways))), (a_t_nextWays, .inl (cJ, 56, .inr (.inl (vp_updL l132t_nextWays x148.toNatClampNeg ((l132t_nextWays x148.toNatClampNeg) + ((l88t_ways l132v8.toNatClampNeg) * p3.toInt64))))))] := hD
                          refine lv_aload_n hx hb dX10_chance_165 rfl (lv_at hl 0 rfl) ?_
                          refine va_get (D := D) (ci := 10) (v := .ref a_t_nextWays) (C := RX10) (T := TX10) (N := 24) hx hb hts hmsX10 hown hK hP 0 rfl rfl 20 (by decide) hw44 (fun _ h9 => h9) rfl dX10_chance_166 ?_
                          refine lv_iload hx hb dX10_chance_169 (lv_at hl 6 rfl) ?_
                          refine lv_dup2_11 hx hb dX10_chance_171 rfl rfl ?_
                          refine va_lald (D := D) hx hb hK hP 3 1 rfl rfl hi159 dX10_chance_172 ?_
                          refine lv_aload_n hx hb dX10_chance_173 rfl (lv_at hl 0 rfl) ?_
                          refine va_get (D := D) (ci := 10) (v := .ref a_t_ways) (C := RX10) (T := TX10) (N := 24) hx hb hts hmsX10 hown hK hP 0 rfl rfl 19 (by decide) hw40 (fun _ h9 => h9) rfl dX10_chance_174 ?_
                          refine lv_iload hx hb dX10_chance_177 (lv_at hl 6 rfl) ?_
                          refine va_lald (D := D) hx hb hK hP 2 1 rfl rfl hi159 dX10_chance_179 ?_
                          refine lv_bipush (v := 10) hx hb dX10_chance_180 (by decide) ?_
                          refine lv_iload_n hx hb dX10_chance_182 rfl (lv_at hl 2 rfl) ?_
                          refine lv_isub hx hb dX10_chance_183 ?_
                          refine lv_i2l (v := ((10 : Int32) - p3).toInt64) hx hb dX10_chance_184 rfl ?_
                          refine lv_lmul hx hb dX10_chance_185 ?_
                          refine lv_ladd hx hb dX10_chance_186 ?_
                          refine va_last (D := D) hx hb hK hP hD hS 3 1 rfl rfl hi159 dX10_chance_187 (fun H locs hP hD hS => ?_)
                          replace hP : va_P D vwCl [(a_t, .inr (10, [.ref a_t_roads, .int t_homes, .int t_there, .ref a_t_book, .ref a_t_now, .int t_meetings, .ref a_t_meeting, .int t_sights, .ref a_t_sight, .int t_signs, .ref a_t_pad, .int t_touched, .int t_firstTouch, .int t_reason, .int t_acts, .ref a_t_apart, .ref a_t_rounds, .ref a_t_fewest, .ref a_t_nextFewest, .ref a_t_ways, .ref a_t_nextWays, .ref a_t_counts, .ref a_t_image, .ref a_t_isKept])), (a_t_meeting, .inl (cI, 16, .inl t_meeting)), (a_t_ways, .inl (cJ, 56, .inr (.inl l88t_ways))), (a_t_nextWays, .inl (cJ, 56, .inr (.inl (vp_updL (vp_updL l132t_nextWays x148.toNatClampNeg ((l132t_nextWays x148.toNatClampNeg) + ((l88t_ways l132v8.toNatClampNeg) * p3.toInt64))) l132v8.toNatClampNeg (((vp_updL l132t_nextWays x148.toNatClampNeg ((l132t_nextWays x148.toNatClampNeg) + ((l88t_ways l132v8.toNatClampNeg) * p3.toInt64))) l132v8.toNatClampNeg) + ((l88t_ways l132v8.toNatClampNeg) * (((10 : Int32) - p3).toInt64)))))))] H := hP
                          replace hD : va_D A [(a_t, .inr (10, [.ref a_t_roads, .int t_homes, .int t_there, .ref a_t_book, .ref a_t_now, .int t_meetings, .ref a_t_meeting, .int t_sights, .ref a_t_sight, .int t_signs, .ref a_t_pad, .int t_touched, .int t_firstTouch, .int t_reason, .int t_acts, .ref a_t_apart, .ref a_t_rounds, .ref a_t_fewest, .ref a_t_nextFewest, .ref a_t_ways, .ref a_t_nextWays, .ref a_t_counts, .ref a_t_image, .ref a_t_isKept])), (a_t_meeting, .inl (cI, 16, .inl t_meeting)), (a_t_ways, .inl (cJ, 56, .inr (.inl l88t_ways))), (a_t_nextWays, .inl (cJ, 56, .inr (.inl (vp_updL (vp_updL l132t_nextWays x148.toNatClampNeg ((l132t_nextWays x148.toNatClampNeg) + ((l88t_ways l132v8.toNatClampNeg) * p3.toInt64))) l132v8.toNatClampNeg (((vp_updL l132t_nextWays x148.toNatClampNeg ((l132t_nextWays x148.toNatClampNeg) + ((l88t_ways l132v8.toNatClampNeg) * p3.toInt64))) l132v8.toNatClampNeg) + ((l88t_ways l132v8.toNatClampNeg) * (((10 : Int32) - p3).toInt64)))))))] := hD
                          refine lv_iinc (v := l132v8 + 1) (lv' := [(8, .int (l132v8 + 1)), (0, .ref a_t), (2, .int p2), (3, .int p3), (4, .int p4), (5, .long x108v5), (7, .int l88v7)]) hx hb dX10_chance_188 hl (k := 6) rfl rfl (by decide) rfl (fun ls hl => ?_)
                          refine lv_goto (tgt := 132) hx hb dX10_chance_191 (by decide) ?_
                          exact ih132 (l132v8 + 1) (vp_updL (vp_updL l132t_nextWays x148.toNatClampNeg ((l132t_nextWays x148.toNatClampNeg) + ((l88t_ways l132v8.toNatClampNeg) * p3.toInt64))) l132v8.toNatClampNeg (((vp_updL l132t_nextWays x148.toNatClampNeg ((l132t_nextWays x148.toNatClampNeg) + ((l88t_ways l132v8.toNatClampNeg) * p3.toInt64))) l132v8.toNatClampNeg) + ((l88t_ways l132v8.toNatClampNeg) * (((10 : Int32) - p3).toInt64)))) _ _ _ hP hD hS (lv_sub hl [1, 2, 3, 4, 5, 6, 0] rfl) hf
                    exact hL132 5000 (0 : Int32) x108t_nextWays _ _ _ hP hD hS (lv_sub hl [1, 2, 3, 4, 5, 6, 0] rfl) hf
                  have hL108 : ∀ (n108 : Nat), ∀ (l108v5 : Int64) (l108v8 : Int32) (l108t_nextWays : Nat → Int64) (H : Heap) (locs : List Loc) (ls : Array Slot), va_P D vwCl [(a_t, .inr (10, [.ref a_t_roads, .int t_homes, .int t_there, .ref a_t_book, .ref a_t_now, .int t_meetings, .ref a_t_meeting, .int t_sights, .ref a_t_sight, .int t_signs, .ref a_t_pad, .int t_touched, .int t_firstTouch, .int t_reason, .int t_acts, .ref a_t_apart, .ref a_t_rounds, .ref a_t_fewest, .ref a_t_nextFewest, .ref a_t_ways, .ref a_t_nextWays, .ref a_t_counts, .ref a_t_image, .ref a_t_isKept])), (a_t_meeting, .inl (cI, 16, .inl t_meeting)), (a_t_ways, .inl (cJ, 56, .inr (.inl l88t_ways))), (a_t_nextWays, .inl (cJ, 56, .inr (.inl l108t_nextWays)))] H → va_D A [(a_t, .inr (10, [.ref a_t_roads, .int t_homes, .int t_there, .ref a_t_book, .ref a_t_now, .int t_meetings, .ref a_t_meeting, .int t_sights, .ref a_t_sight, .int t_signs, .ref a_t_pad, .int t_touched, .int t_firstTouch, .int t_reason, .int t_acts, .ref a_t_apart, .ref a_t_rounds, .ref a_t_fewest, .ref a_t_nextFewest, .ref a_t_ways, .ref a_t_nextWays, .ref a_t_counts, .ref a_t_image, .ref a_t_isKept])), (a_t_meeting, .inl (cI, 16, .inl t_meeting)), (a_t_ways, .inl (cJ, 56, .inr (.inl l88t_ways))), (a_t_nextWays, .inl (cJ, 56, .inr (.inl l108t_nextWays)))] → va_S A s.heap H locs → lv_has ls 15 [(0, .ref a_t), (2, .int p2), (3, .int p3), (4, .int p4), (5, .long l108v5), (7, .int l88v7), (8, .int l108v8)] → f_X10_chance_L108 (f_X10_chance_X108 t_meeting p3 l88v7 l88t_ways (f_X10_chance_L88 t_meetings t_meeting p3 (f_X10_chance_X88 p2 p4) n88)) n108 l108v5 l108v8 l108t_nextWays = some res → W p l e rm_X10_chance s m args below meth c H locs 0 0 Q (F0 m 108 ls []) := by
                    intro n108
                    induction n108 with
                    | zero =>
                      intro l108v5 l108v8 l108t_nextWays H locs ls hP hD hS hl hf
                      rw [f_X10_chance_L108] at hf
                      cases hf
                    | succ n108 ih108 =>
                      intro l108v5 l108v8 l108t_nextWays H locs ls hP hD hS hl hf
                      rw [f_X10_chance_L108] at hf
                      refine lv_iload hx hb dX10_chance_108 (lv_at hl 6 rfl) ?_
                      refine lv_bipush (v := 56) hx hb dX10_chance_110 (by decide) ?_
                      refine lv_icmp_ge (tgt := 129) hx hb dX10_chance_112 (by decide) (fun hc => ?_) (fun hc => ?_)
                      · replace hf := (if_pos hc).symm.trans hf
                        exact hX108 l108v5 l108t_nextWays _ _ _ hP hD hS (lv_sub hl [0, 1, 2, 3, 4, 5] rfl) hf
                      · replace hf := (if_neg hc).symm.trans hf
                        refine lv_aload_n hx hb dX10_chance_115 rfl (lv_at hl 0 rfl) ?_
                        refine va_get (D := D) (ci := 10) (v := .ref a_t_nextWays) (C := RX10) (T := TX10) (N := 24) hx hb hts hmsX10 hown hK hP 0 rfl rfl 20 (by decide) hw44 (fun _ h9 => h9) rfl dX10_chance_116 ?_
                        refine lv_iload hx hb dX10_chance_119 (lv_at hl 6 rfl) ?_
                        refine lv_lconst (v := 0) hx hb dX10_chance_121 (by decide) ?_
                        obtain ⟨hi122, hf⟩ := ix_if hf
                        refine va_last (D := D) hx hb hK hP hD hS 3 1 rfl rfl hi122 dX10_chance_122 (fun H locs hP hD hS => ?_)
                        replace hP : va_P D vwCl [(a_t, .inr (10, [.ref a_t_roads, .int t_homes, .int t_there, .ref a_t_book, .ref a_t_now, .int t_meetings, .ref a_t_meeting, .int t_sights, .ref a_t_sight, .int t_signs, .ref a_t_pad, .int t_touched, .int t_firstTouch, .int t_reason, .int t_acts, .ref a_t_apart, .ref a_t_rounds, .ref a_t_fewest, .ref a_t_nextFewest, .ref a_t_ways, .ref a_t_nextWays, .ref a_t_counts, .ref a_t_image, .ref a_t_isKept])), (a_t_meeting, .inl (cI, 16, .inl t_meeting)), (a_t_ways, .inl (cJ, 56, .inr (.inl l88t_ways))), (a_t_nextWays, .inl (cJ, 56, .inr (.inl (vp_updL l108t_nextWays l108v8.toNatClampNeg (0 : Int64)))))] H := hP
                        replace hD : va_D A [(a_t, .inr (10, [.ref a_t_roads, .int t_homes, .int t_there, .ref a_t_book, .ref a_t_now, .int t_meetings, .ref a_t_meeting, .int t_sights, .ref a_t_sight, .int t_signs, .ref a_t_pad, .int t_touched, .int t_firstTouch, .int t_reason, .int t_acts, .ref a_t_apart, .ref a_t_rounds, .ref a_t_fewest, .ref a_t_nextFewest, .ref a_t_ways, .ref a_t_nextWays, .ref a_t_counts, .ref a_t_image, .ref a_t_isKept])), (a_t_meeting, .inl (cI, 16, .inl t_meeting)), (a_t_ways, .inl (cJ, 56, .inr (.inl l88t_ways))), (a_t_nextWays, .inl (cJ, 56, .inr (.inl (vp_updL l108t_nextWays l108v8.toNatClampNeg (0 : Int64)))))] := hD
                        refine lv_iinc (v := l108v8 + 1) (lv' := [(8, .int (l108v8 + 1)), (0, .ref a_t), (2, .int p2), (3, .int p3), (4, .int p4), (5, .long l108v5), (7, .int l88v7)]) hx hb dX10_chance_123 hl (k := 6) rfl rfl (by decide) rfl (fun ls hl => ?_)
                        refine lv_goto (tgt := 108) hx hb dX10_chance_126 (by decide) ?_
                        exact ih108 l108v5 (l108v8 + 1) (vp_updL l108t_nextWays l108v8.toNatClampNeg (0 : Int64)) _ _ _ hP hD hS (lv_sub hl [1, 2, 3, 4, 5, 6, 0] rfl) hf
                  exact hL108 5000 (l88v5 * (10 : Int64)) (0 : Int32) l88t_nextWays _ _ _ hP hD hS (lv_sub hl [2, 3, 4, 5, 1, 6, 0] rfl) hf
            exact hL88 5000 (1 : Int64) (0 : Int32) x48t_ways t_nextWays _ _ _ hP hD hS (lv_sub hl [1, 2, 3, 4, 5, 0] rfl) hf
          have hL48 : ∀ (n48 : Nat), ∀ (l48v7 : Int32) (l48t_ways : Nat → Int64) (H : Heap) (locs : List Loc) (ls : Array Slot), va_P D vwCl [(a_t, .inr (10, [.ref a_t_roads, .int t_homes, .int t_there, .ref a_t_book, .ref a_t_now, .int t_meetings, .ref a_t_meeting, .int t_sights, .ref a_t_sight, .int t_signs, .ref a_t_pad, .int t_touched, .int t_firstTouch, .int t_reason, .int t_acts, .ref a_t_apart, .ref a_t_rounds, .ref a_t_fewest, .ref a_t_nextFewest, .ref a_t_ways, .ref a_t_nextWays, .ref a_t_counts, .ref a_t_image, .ref a_t_isKept])), (a_t_meeting, .inl (cI, 16, .inl t_meeting)), (a_t_ways, .inl (cJ, 56, .inr (.inl l48t_ways))), (a_t_nextWays, .inl (cJ, 56, .inr (.inl t_nextWays)))] H → va_D A [(a_t, .inr (10, [.ref a_t_roads, .int t_homes, .int t_there, .ref a_t_book, .ref a_t_now, .int t_meetings, .ref a_t_meeting, .int t_sights, .ref a_t_sight, .int t_signs, .ref a_t_pad, .int t_touched, .int t_firstTouch, .int t_reason, .int t_acts, .ref a_t_apart, .ref a_t_rounds, .ref a_t_fewest, .ref a_t_nextFewest, .ref a_t_ways, .ref a_t_nextWays, .ref a_t_counts, .ref a_t_image, .ref a_t_isKept])), (a_t_meeting, .inl (cI, 16, .inl t_meeting)), (a_t_ways, .inl (cJ, 56, .inr (.inl l48t_ways))), (a_t_nextWays, .inl (cJ, 56, .inr (.inl t_nextWays)))] → va_S A s.heap H locs → lv_has ls 15 [(0, .ref a_t), (1, .int p1), (2, .int p2), (3, .int p3), (4, .int p4), (5, .long (1 : Int64)), (7, .int l48v7)] → f_X10_chance_L48 p1 (f_X10_chance_X48 t_meetings t_meeting t_nextWays p2 p3 p4) n48 l48v7 l48t_ways = some res → W p l e rm_X10_chance s m args below meth c H locs 0 0 Q (F0 m 48 ls []) := by
            intro n48
            induction n48 with
            | zero =>
              intro l48v7 l48t_ways H locs ls hP hD hS hl hf
              rw [f_X10_chance_L48] at hf
              cases hf
            | succ n48 ih48 =>
              intro l48v7 l48t_ways H locs ls hP hD hS hl hf
              rw [f_X10_chance_L48] at hf
              refine lv_iload hx hb dX10_chance_48 (lv_at hl 6 rfl) ?_
              refine lv_bipush (v := 56) hx hb dX10_chance_50 (by decide) ?_
              refine lv_icmp_ge (tgt := 85) hx hb dX10_chance_52 (by decide) (fun hc => ?_) (fun hc => ?_)
              · replace hf := (if_pos hc).symm.trans hf
                exact hX48 l48t_ways _ _ _ hP hD hS (lv_sub hl [0, 2, 3, 4, 5] rfl) hf
              · replace hf := (if_neg hc).symm.trans hf
                refine lv_aload_n hx hb dX10_chance_55 rfl (lv_at hl 0 rfl) ?_
                refine va_get (D := D) (ci := 10) (v := .ref a_t_ways) (C := RX10) (T := TX10) (N := 24) hx hb hts hmsX10 hown hK hP 0 rfl rfl 19 (by decide) hw40 (fun _ h9 => h9) rfl dX10_chance_56 ?_
                refine lv_iload hx hb dX10_chance_59 (lv_at hl 6 rfl) ?_
                refine lv_iload hx hb dX10_chance_61 (lv_at hl 6 rfl) ?_
                refine lv_bipush (v := 8) hx hb dX10_chance_63 (by decide) ?_
                refine lv_iload_n hx hb dX10_chance_65 rfl (lv_at hl 1 rfl) ?_
                refine lv_imul hx hb dX10_chance_66 ?_
                refine lv_bipush (v := 7) hx hb dX10_chance_67 (by decide) ?_
                refine lv_iadd hx hb dX10_chance_69 ?_
                refine lv_icmp_ne (tgt := 77) hx hb dX10_chance_70 (by decide) (fun hc => ?_) (fun hc => ?_)
                · replace hf := (if_neg hc).symm.trans hf
                  refine lv_lconst (v := 0) hx hb dX10_chance_77 (by decide) ?_
                  obtain ⟨hi78, hf⟩ := ix_if hf
                  refine va_last (D := D) hx hb hK hP hD hS 2 1 rfl rfl hi78 dX10_chance_78 (fun H locs hP hD hS => ?_)
                  replace hP : va_P D vwCl [(a_t, .inr (10, [.ref a_t_roads, .int t_homes, .int t_there, .ref a_t_book, .ref a_t_now, .int t_meetings, .ref a_t_meeting, .int t_sights, .ref a_t_sight, .int t_signs, .ref a_t_pad, .int t_touched, .int t_firstTouch, .int t_reason, .int t_acts, .ref a_t_apart, .ref a_t_rounds, .ref a_t_fewest, .ref a_t_nextFewest, .ref a_t_ways, .ref a_t_nextWays, .ref a_t_counts, .ref a_t_image, .ref a_t_isKept])), (a_t_meeting, .inl (cI, 16, .inl t_meeting)), (a_t_ways, .inl (cJ, 56, .inr (.inl (vp_updL l48t_ways l48v7.toNatClampNeg (0 : Int64))))), (a_t_nextWays, .inl (cJ, 56, .inr (.inl t_nextWays)))] H := hP
                  replace hD : va_D A [(a_t, .inr (10, [.ref a_t_roads, .int t_homes, .int t_there, .ref a_t_book, .ref a_t_now, .int t_meetings, .ref a_t_meeting, .int t_sights, .ref a_t_sight, .int t_signs, .ref a_t_pad, .int t_touched, .int t_firstTouch, .int t_reason, .int t_acts, .ref a_t_apart, .ref a_t_rounds, .ref a_t_fewest, .ref a_t_nextFewest, .ref a_t_ways, .ref a_t_nextWays, .ref a_t_counts, .ref a_t_image, .ref a_t_isKept])), (a_t_meeting, .inl (cI, 16, .inl t_meeting)), (a_t_ways, .inl (cJ, 56, .inr (.inl (vp_updL l48t_ways l48v7.toNatClampNeg (0 : Int64))))), (a_t_nextWays, .inl (cJ, 56, .inr (.inl t_nextWays)))] := hD
                  refine lv_iinc (v := l48v7 + 1) (lv' := [(7, .int (l48v7 + 1)), (0, .ref a_t), (1, .int p1), (2, .int p2), (3, .int p3), (4, .int p4), (5, .long (1 : Int64))]) hx hb dX10_chance_79 hl (k := 6) rfl rfl (by decide) rfl (fun ls hl => ?_)
                  refine lv_goto (tgt := 48) hx hb dX10_chance_82 (by decide) ?_
                  exact ih48 (l48v7 + 1) (vp_updL l48t_ways l48v7.toNatClampNeg (0 : Int64)) _ _ _ hP hD hS (lv_sub hl [1, 2, 3, 4, 5, 6, 0] rfl) hf
                · replace hf := (if_pos hc).symm.trans hf
                  refine lv_lconst (v := 1) hx hb dX10_chance_73 (by decide) ?_
                  refine lv_goto (tgt := 78) hx hb dX10_chance_74 (by decide) ?_
                  obtain ⟨hi78_1, hf⟩ := ix_if hf
                  refine va_last (D := D) hx hb hK hP hD hS 2 1 rfl rfl hi78_1 dX10_chance_78 (fun H locs hP hD hS => ?_)
                  replace hP : va_P D vwCl [(a_t, .inr (10, [.ref a_t_roads, .int t_homes, .int t_there, .ref a_t_book, .ref a_t_now, .int t_meetings, .ref a_t_meeting, .int t_sights, .ref a_t_sight, .int t_signs, .ref a_t_pad, .int t_touched, .int t_firstTouch, .int t_reason, .int t_acts, .ref a_t_apart, .ref a_t_rounds, .ref a_t_fewest, .ref a_t_nextFewest, .ref a_t_ways, .ref a_t_nextWays, .ref a_t_counts, .ref a_t_image, .ref a_t_isKept])), (a_t_meeting, .inl (cI, 16, .inl t_meeting)), (a_t_ways, .inl (cJ, 56, .inr (.inl (vp_updL l48t_ways l48v7.toNatClampNeg (1 : Int64))))), (a_t_nextWays, .inl (cJ, 56, .inr (.inl t_nextWays)))] H := hP
                  replace hD : va_D A [(a_t, .inr (10, [.ref a_t_roads, .int t_homes, .int t_there, .ref a_t_book, .ref a_t_now, .int t_meetings, .ref a_t_meeting, .int t_sights, .ref a_t_sight, .int t_signs, .ref a_t_pad, .int t_touched, .int t_firstTouch, .int t_reason, .int t_acts, .ref a_t_apart, .ref a_t_rounds, .ref a_t_fewest, .ref a_t_nextFewest, .ref a_t_ways, .ref a_t_nextWays, .ref a_t_counts, .ref a_t_image, .ref a_t_isKept])), (a_t_meeting, .inl (cI, 16, .inl t_meeting)), (a_t_ways, .inl (cJ, 56, .inr (.inl (vp_updL l48t_ways l48v7.toNatClampNeg (1 : Int64))))), (a_t_nextWays, .inl (cJ, 56, .inr (.inl t_nextWays)))] := hD
                  refine lv_iinc (v := l48v7 + 1) (lv' := [(7, .int (l48v7 + 1)), (0, .ref a_t), (1, .int p1), (2, .int p2), (3, .int p3), (4, .int p4), (5, .long (1 : Int64))]) hx hb dX10_chance_79 hl (k := 6) rfl rfl (by decide) rfl (fun ls hl => ?_)
                  refine lv_goto (tgt := 48) hx hb dX10_chance_82 (by decide) ?_
                  exact ih48 (l48v7 + 1) (vp_updL l48t_ways l48v7.toNatClampNeg (1 : Int64)) _ _ _ hP hD hS (lv_sub hl [1, 2, 3, 4, 5, 6, 0] rfl) hf
          exact hL48 5000 (0 : Int32) t_ways _ _ _ hP hD hS (lv_sub hl [2, 3, 4, 5, 6, 1, 0] rfl) hf
        · replace hf := (if_pos hc).symm.trans hf
          refine lv_ldc2 (v := -1000000000000000002) hx hb hown hc161 dX10_chance_38 ?_
          obtain rfl := Option.some.inj hf
          exact fin _ _ _ _ dX10_chance_41 hP hD hS
    · replace hf := (if_pos hc).symm.trans hf
      refine lv_ldc2 (v := -1000000000000000001) hx hb hown hc159 dX10_chance_14 ?_
      obtain rfl := Option.some.inj hf
      exact fin _ _ _ _ dX10_chance_17 hP hD hS
