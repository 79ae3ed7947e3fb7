abbrev rm_X10_seen : Room := { frames := 2, cells := 0, slots := 0, locals := 42 }
theorem ms_X10_seen_X10 : ∀ w ∈ u_ws RX10 TX10 24, w ∈ wsX10_seen := fun w h => List.mem_cons_of_mem _ (List.mem_append_right _ (h))
set_option maxHeartbeats 4000000 in
set_option maxRecDepth 100000 in
theorem c_X10_seen (l : Launch) (D : va_G) (cI cJ cZ cO : ClassId) (sz : Nat) (a_t : Nat) (a_t_roads : Nat) (a_t_book : Nat) (a_t_now : Nat) (a_t_meeting : Nat) (a_t_sight : Nat) (a_t_pad : Nat) (a_t_apart : Nat) (a_t_rounds : Nat) (a_t_fewest : Nat) (a_t_nextFewest : Nat) (a_t_ways : Nat) (a_t_nextWays : Nat) (a_t_counts : Nat) (a_t_image : Nat) (a_t_isKept : Nat) (t_homes : Int32) (t_there : Int32) (t_meetings : Int32) (t_sights : Int32) (t_signs : Int32) (t_touched : Int32) (t_firstTouch : Int32) (t_reason : Int32) (t_acts : Int32) (t_sight : Nat → Int32) (p1 : Int32) (p2 : Int32) (p3 : Int32) (res : Int32 × Int32 × (Nat → Int32)) (hf : f_X10_seen t_sights t_sight p1 p2 p3 = some res) : MetI l yX10_seen wsX10_seen rm_X10_seen [.ref a_t, .int p1, .int p2, .int p3] D (tys4 cI cJ cZ cO) [(a_t, .inr (10, [.ref a_t_roads, .int t_homes, .int t_there, .ref a_t_book, .ref a_t_now, .int t_meetings, .ref a_t_meeting, .int t_sights, .ref a_t_sight, .int t_signs, .ref a_t_pad, .int t_touched, .int t_firstTouch, .int t_reason, .int t_acts, .ref a_t_apart, .ref a_t_rounds, .ref a_t_fewest, .ref a_t_nextFewest, .ref a_t_ways, .ref a_t_nextWays, .ref a_t_counts, .ref a_t_image, .ref a_t_isKept])), (a_t_sight, .inl (cI, 24, .inl t_sight))] sz res.1 [(a_t, .inr (10, [.ref a_t_roads, .int t_homes, .int t_there, .ref a_t_book, .ref a_t_now, .int t_meetings, .ref a_t_meeting, .int res.2.1, .ref a_t_sight, .int t_signs, .ref a_t_pad, .int t_touched, .int t_firstTouch, .int t_reason, .int t_acts, .ref a_t_apart, .ref a_t_rounds, .ref a_t_fewest, .ref a_t_nextFewest, .ref a_t_ways, .ref a_t_nextWays, .ref a_t_counts, .ref a_t_image, .ref a_t_isKept])), (a_t_sight, .inl (cI, 24, .inl res.2.2))] := by
  refine met_i (cc := cX10_seen) (maxL := 4) (by decide) rfl (Nat.le_of_ble_eq_true rfl) ?_
  intro p e s m args below meth c Q A hx hb hml hown hts hK hN hA fin H locs ls hP hD hS hl
  replace hown : s.vm.findClass RX10 = some m.cls := hown
  replace hl : lv_has ls 4 [(0, .ref a_t), (1, .int p1), (2, .int p2), (3, .int p3)] := hl
  rw [f_X10_seen] at hf
  have hcw73 := va_cwS (R := rm_X10_seen) (rm := rm_X10_isPlace) 1 hts gX10_seen_X10_isPlace rfl rfl rfl (by decide +kernel) ⟨Nat.le_of_ble_eq_true rfl, Nat.le_of_ble_eq_true rfl⟩
  have hw165 := hts (.fieldLink RX10 165 "TouchReignModel" "sights" "I") (by decide +kernel)
  have hmsX10 := ms_X10_seen_X10
  have hw22 := hts (.fieldLink RX10 22 "TouchReignModel" "sight" "[I") (by decide +kernel)
  refine lv_iload_n hx hb dX10_seen_0 rfl (lv_at hl 1 rfl) ?_
  obtain ⟨x1, hx1, hf⟩ := bd_if hf
  refine cs_i (wr := [(a_t, .inr (10, [.ref a_t_roads, .int t_homes, .int t_there, .ref a_t_book, .ref a_t_now, .int t_meetings, .ref a_t_meeting, .int t_sights, .ref a_t_sight, .int t_signs, .ref a_t_pad, .int t_touched, .int t_firstTouch, .int t_reason, .int t_acts, .ref a_t_apart, .ref a_t_rounds, .ref a_t_fewest, .ref a_t_nextFewest, .ref a_t_ways, .ref a_t_nextWays, .ref a_t_counts, .ref a_t_image, .ref a_t_isKept])), (a_t_sight, .inl (cI, 24, .inl t_sight))]) (ws' := [(a_t, .inr (10, [.ref a_t_roads, .int t_homes, .int t_there, .ref a_t_book, .ref a_t_now, .int t_meetings, .ref a_t_meeting, .int t_sights, .ref a_t_sight, .int t_signs, .ref a_t_pad, .int t_touched, .int t_firstTouch, .int t_reason, .int t_acts, .ref a_t_apart, .ref a_t_rounds, .ref a_t_fewest, .ref a_t_nextFewest, .ref a_t_ways, .ref a_t_nextWays, .ref a_t_counts, .ref a_t_image, .ref a_t_isKept])), (a_t_sight, .inl (cI, 24, .inl t_sight))]) ⟨hx, hb, hml, hown, hts⟩ hcw73 hK hN hP hD hS hA (c_X10_isPlace l D cI cJ cZ cO _ p1 x1 hx1) [] [0, 1] [0, 1] rfl rfl rfl rfl (by decide) rfl rfl rfl hl.1 rfl (Nat.le_of_ble_eq_true rfl) dX10_seen_1 ⟨Nat.zero_le _, Nat.zero_le _⟩ (fun H locs hP hD hS => ?_)
  refine lv_if_eq (tgt := 14) hx hb dX10_seen_4 (by decide) (fun hc => ?_) (fun hc => ?_)
  · replace hf := (if_pos hc).symm.trans hf
    refine lv_iconst (v := -1) hx hb dX10_seen_14 (by decide) ?_
    obtain rfl := Option.some.inj hf
    exact fin _ _ _ _ dX10_seen_15 hP hD hS
  · replace hf := (if_neg hc).symm.trans hf
    refine lv_iload_n hx hb dX10_seen_7 rfl (lv_at hl 2 rfl) ?_
    obtain ⟨x8, hx8, hf⟩ := bd_if hf
    refine cs_i (wr := [(a_t, .inr (10, [.ref a_t_roads, .int t_homes, .int t_there, .ref a_t_book, .ref a_t_now, .int t_meetings, .ref a_t_meeting, .int t_sights, .ref a_t_sight, .int t_signs, .ref a_t_pad, .int t_touched, .int t_firstTouch, .int t_reason, .int t_acts, .ref a_t_apart, .ref a_t_rounds, .ref a_t_fewest, .ref a_t_nextFewest, .ref a_t_ways, .ref a_t_nextWays, .ref a_t_counts, .ref a_t_image, .ref a_t_isKept])), (a_t_sight, .inl (cI, 24, .inl t_sight))]) (ws' := [(a_t, .inr (10, [.ref a_t_roads, .int t_homes, .int t_there, .ref a_t_book, .ref a_t_now, .int t_meetings, .ref a_t_meeting, .int t_sights, .ref a_t_sight, .int t_signs, .ref a_t_pad, .int t_touched, .int t_firstTouch, .int t_reason, .int t_acts, .ref a_t_apart, .ref a_t_rounds, .ref a_t_fewest, .ref a_t_nextFewest, .ref a_t_ways, .ref a_t_nextWays, .ref a_t_counts, .ref a_t_image, .ref a_t_isKept])), (a_t_sight, .inl (cI, 24, .inl t_sight))]) ⟨hx, hb, hml, hown, hts⟩ hcw73 hK hN hP hD hS hA (c_X10_isPlace l D cI cJ cZ cO _ p2 x8 hx8) [] [0, 1] [0, 1] rfl rfl rfl rfl (by decide) rfl rfl rfl hl.1 rfl (Nat.le_of_ble_eq_true rfl) dX10_seen_8 ⟨Nat.zero_le _, Nat.zero_le _⟩ (fun H locs hP hD hS => ?_)
    refine lv_if_ne (tgt := 16) hx hb dX10_seen_11 (by decide) (fun hc => ?_) (fun hc => ?_)
    · replace hf := (if_neg hc).symm.trans hf
      refine lv_aload_n hx hb dX10_seen_16 rfl (lv_at hl 0 rfl) ?_
      refine va_get (D := D) (ci := 10) (v := .int t_sights) (C := RX10) (T := TX10) (N := 24) hx hb hts hmsX10 hown hK hP 0 rfl rfl 7 (by decide) hw165 (fun _ h9 => h9) rfl dX10_seen_17 ?_
      refine lv_bipush (v := 8) hx hb dX10_seen_20 (by decide) ?_
      refine lv_icmp_ne (tgt := 28) hx hb dX10_seen_22 (by decide) (fun hc => ?_) (fun hc => ?_)
      · replace hf := (if_neg hc).symm.trans hf
        refine lv_aload_n hx hb dX10_seen_28 rfl (lv_at hl 0 rfl) ?_
        refine va_get (D := D) (ci := 10) (v := .ref a_t_sight) (C := RX10) (T := TX10) (N := 24) hx hb hts hmsX10 hown hK hP 0 rfl rfl 8 (by decide) hw22 (fun _ h9 => h9) rfl dX10_seen_29 ?_
        refine lv_iconst (v := 3) hx hb dX10_seen_32 (by decide) ?_
        refine lv_aload_n hx hb dX10_seen_33 rfl (lv_at hl 0 rfl) ?_
        refine va_get (D := D) (ci := 10) (v := .int t_sights) (C := RX10) (T := TX10) (N := 24) hx hb hts hmsX10 hown hK hP 0 rfl rfl 7 (by decide) hw165 (fun _ h9 => h9) rfl dX10_seen_34 ?_
        refine lv_imul hx hb dX10_seen_37 ?_
        refine lv_iload_n hx hb dX10_seen_38 rfl (lv_at hl 1 rfl) ?_
        obtain ⟨hi39, hf⟩ := ix_if hf
        refine va_iast (D := D) hx hb hK hP hD hS 1 0 rfl rfl hi39 dX10_seen_39 (fun H locs hP hD hS => ?_)
        replace hP : va_P D vwCl [(a_t, .inr (10, [.ref a_t_roads, .int t_homes, .int t_there, .ref a_t_book, .ref a_t_now, .int t_meetings, .ref a_t_meeting, .int t_sights, .ref a_t_sight, .int t_signs, .ref a_t_pad, .int t_touched, .int t_firstTouch, .int t_reason, .int t_acts, .ref a_t_apart, .ref a_t_rounds, .ref a_t_fewest, .ref a_t_nextFewest, .ref a_t_ways, .ref a_t_nextWays, .ref a_t_counts, .ref a_t_image, .ref a_t_isKept])), (a_t_sight, .inl (cI, 24, .inl (upd t_sight ((3 : Int32) * t_sights).toNatClampNeg p1)))] H := hP
        replace hD : va_D A [(a_t, .inr (10, [.ref a_t_roads, .int t_homes, .int t_there, .ref a_t_book, .ref a_t_now, .int t_meetings, .ref a_t_meeting, .int t_sights, .ref a_t_sight, .int t_signs, .ref a_t_pad, .int t_touched, .int t_firstTouch, .int t_reason, .int t_acts, .ref a_t_apart, .ref a_t_rounds, .ref a_t_fewest, .ref a_t_nextFewest, .ref a_t_ways, .ref a_t_nextWays, .ref a_t_counts, .ref a_t_image, .ref a_t_isKept])), (a_t_sight, .inl (cI, 24, .inl (upd t_sight ((3 : Int32) * t_sights).toNatClampNeg p1)))] := hD
        refine lv_aload_n hx hb dX10_seen_40 rfl (lv_at hl 0 rfl) ?_
        refine va_get (D := D) (ci := 10) (v := .ref a_t_sight) (C := RX10) (T := TX10) (N := 24) hx hb hts hmsX10 hown hK hP 0 rfl rfl 8 (by decide) hw22 (fun _ h9 => h9) rfl dX10_seen_41 ?_
        refine lv_iconst (v := 3) hx hb dX10_seen_44 (by decide) ?_
        refine lv_aload_n hx hb dX10_seen_45 rfl (lv_at hl 0 rfl) ?_
        refine va_get (D := D) (ci := 10) (v := .int t_sights) (C := RX10) (T := TX10) (N := 24) hx hb hts hmsX10 hown hK hP 0 rfl rfl 7 (by decide) hw165 (fun _ h9 => h9) rfl dX10_seen_46 ?_
        refine lv_imul hx hb dX10_seen_49 ?_
        refine lv_iconst (v := 1) hx hb dX10_seen_50 (by decide) ?_
        refine lv_iadd hx hb dX10_seen_51 ?_
        refine lv_iload_n hx hb dX10_seen_52 rfl (lv_at hl 2 rfl) ?_
        obtain ⟨hi53, hf⟩ := ix_if hf
        refine va_iast (D := D) hx hb hK hP hD hS 1 0 rfl rfl hi53 dX10_seen_53 (fun H locs hP hD hS => ?_)
        replace hP : va_P D vwCl [(a_t, .inr (10, [.ref a_t_roads, .int t_homes, .int t_there, .ref a_t_book, .ref a_t_now, .int t_meetings, .ref a_t_meeting, .int t_sights, .ref a_t_sight, .int t_signs, .ref a_t_pad, .int t_touched, .int t_firstTouch, .int t_reason, .int t_acts, .ref a_t_apart, .ref a_t_rounds, .ref a_t_fewest, .ref a_t_nextFewest, .ref a_t_ways, .ref a_t_nextWays, .ref a_t_counts, .ref a_t_image, .ref a_t_isKept])), (a_t_sight, .inl (cI, 24, .inl (upd (upd t_sight ((3 : Int32) * t_sights).toNatClampNeg p1) (((3 : Int32) * t_sights) + (1 : Int32)).toNatClampNeg p2)))] H := hP
        replace hD : va_D A [(a_t, .inr (10, [.ref a_t_roads, .int t_homes, .int t_there, .ref a_t_book, .ref a_t_now, .int t_meetings, .ref a_t_meeting, .int t_sights, .ref a_t_sight, .int t_signs, .ref a_t_pad, .int t_touched, .int t_firstTouch, .int t_reason, .int t_acts, .ref a_t_apart, .ref a_t_rounds, .ref a_t_fewest, .ref a_t_nextFewest, .ref a_t_ways, .ref a_t_nextWays, .ref a_t_counts, .ref a_t_image, .ref a_t_isKept])), (a_t_sight, .inl (cI, 24, .inl (upd (upd t_sight ((3 : Int32) * t_sights).toNatClampNeg p1) (((3 : Int32) * t_sights) + (1 : Int32)).toNatClampNeg p2)))] := hD
        refine lv_aload_n hx hb dX10_seen_54 rfl (lv_at hl 0 rfl) ?_
        refine va_get (D := D) (ci := 10) (v := .ref a_t_sight) (C := RX10) (T := TX10) (N := 24) hx hb hts hmsX10 hown hK hP 0 rfl rfl 8 (by decide) hw22 (fun _ h9 => h9) rfl dX10_seen_55 ?_
        refine lv_iconst (v := 3) hx hb dX10_seen_58 (by decide) ?_
        refine lv_aload_n hx hb dX10_seen_59 rfl (lv_at hl 0 rfl) ?_
        refine va_get (D := D) (ci := 10) (v := .int t_sights) (C := RX10) (T := TX10) (N := 24) hx hb hts hmsX10 hown hK hP 0 rfl rfl 7 (by decide) hw165 (fun _ h9 => h9) rfl dX10_seen_60 ?_
        refine lv_imul hx hb dX10_seen_63 ?_
        refine lv_iconst (v := 2) hx hb dX10_seen_64 (by decide) ?_
        refine lv_iadd hx hb dX10_seen_65 ?_
        refine lv_iload_n hx hb dX10_seen_66 rfl (lv_at hl 3 rfl) ?_
        have hB75 : ∀ (b75s0 : Int32) (b75t_sight : Nat → Int32) (H : Heap) (locs : List Loc) (ls : Array Slot), va_P D vwCl [(a_t, .inr (10, [.ref a_t_roads, .int t_homes, .int t_there, .ref a_t_book, .ref a_t_now, .int t_meetings, .ref a_t_meeting, .int t_sights, .ref a_t_sight, .int t_signs, .ref a_t_pad, .int t_touched, .int t_firstTouch, .int t_reason, .int t_acts, .ref a_t_apart, .ref a_t_rounds, .ref a_t_fewest, .ref a_t_nextFewest, .ref a_t_ways, .ref a_t_nextWays, .ref a_t_counts, .ref a_t_image, .ref a_t_isKept])), (a_t_sight, .inl (cI, 24, .inl b75t_sight))] H → va_D A [(a_t, .inr (10, [.ref a_t_roads, .int t_homes, .int t_there, .ref a_t_book, .ref a_t_now, .int t_meetings, .ref a_t_meeting, .int t_sights, .ref a_t_sight, .int t_signs, .ref a_t_pad, .int t_touched, .int t_firstTouch, .int t_reason, .int t_acts, .ref a_t_apart, .ref a_t_rounds, .ref a_t_fewest, .ref a_t_nextFewest, .ref a_t_ways, .ref a_t_nextWays, .ref a_t_counts, .ref a_t_image, .ref a_t_isKept])), (a_t_sight, .inl (cI, 24, .inl b75t_sight))] → va_S A s.heap H locs → lv_has ls 4 [(0, .ref a_t)] → f_X10_seen_B75 t_sights b75s0 b75t_sight = some res → W p l e rm_X10_seen s m args below meth c H locs 0 0 Q (F0 m 75 ls [.int b75s0, .int (((3 : Int32) * t_sights) + (2 : Int32)), .ref a_t_sight]) := by
          intro b75s0 b75t_sight H locs ls hP hD hS hl hf
          rw [f_X10_seen_B75] at hf
          obtain ⟨hi75, hf⟩ := ix_if hf
          refine va_iast (D := D) hx hb hK hP hD hS 1 0 rfl rfl hi75 dX10_seen_75 (fun H locs hP hD hS => ?_)
          replace hP : va_P D vwCl [(a_t, .inr (10, [.ref a_t_roads, .int t_homes, .int t_there, .ref a_t_book, .ref a_t_now, .int t_meetings, .ref a_t_meeting, .int t_sights, .ref a_t_sight, .int t_signs, .ref a_t_pad, .int t_touched, .int t_firstTouch, .int t_reason, .int t_acts, .ref a_t_apart, .ref a_t_rounds, .ref a_t_fewest, .ref a_t_nextFewest, .ref a_t_ways, .ref a_t_nextWays, .ref a_t_counts, .ref a_t_image, .ref a_t_isKept])), (a_t_sight, .inl (cI, 24, .inl (upd b75t_sight (((3 : Int32) * t_sights) + (2 : Int32)).toNatClampNeg b75s0)))] H := hP
          replace hD : va_D A [(a_t, .inr (10, [.ref a_t_roads, .int t_homes, .int t_there, .ref a_t_book, .ref a_t_now, .int t_meetings, .ref a_t_meeting, .int t_sights, .ref a_t_sight, .int t_signs, .ref a_t_pad, .int t_touched, .int t_firstTouch, .int t_reason, .int t_acts, .ref a_t_apart, .ref a_t_rounds, .ref a_t_fewest, .ref a_t_nextFewest, .ref a_t_ways, .ref a_t_nextWays, .ref a_t_counts, .ref a_t_image, .ref a_t_isKept])), (a_t_sight, .inl (cI, 24, .inl (upd b75t_sight (((3 : Int32) * t_sights) + (2 : Int32)).toNatClampNeg b75s0)))] := hD
          refine lv_aload_n hx hb dX10_seen_76 rfl (lv_at hl 0 rfl) ?_
          refine lv_dup hx hb dX10_seen_77 rfl ?_
          refine va_get (D := D) (ci := 10) (v := .int t_sights) (C := RX10) (T := TX10) (N := 24) hx hb hts hmsX10 hown hK hP 0 rfl rfl 7 (by decide) hw165 (fun _ h9 => h9) rfl dX10_seen_78 ?_
          refine lv_iconst (v := 1) hx hb dX10_seen_81 (by decide) ?_
          refine lv_iadd hx hb dX10_seen_82 ?_
          refine va_put (D := D) (ci := 10) (v := .int (t_sights + (1 : Int32))) (ty := .int) (C := RX10) (T := TX10) (N := 24) hx hb hts hmsX10 tyX10 tyX10_ok nmX10 hown hK hP hD hS 0 rfl rfl 7 (by decide) hw165 (fun _ h9 => h9) rfl (by decide +kernel) rfl rfl (Nat.le_of_ble_eq_true rfl) dX10_seen_83 (fun H locs hP hD hS => ?_)
          replace hP : va_P D vwCl [(a_t, .inr (10, [.ref a_t_roads, .int t_homes, .int t_there, .ref a_t_book, .ref a_t_now, .int t_meetings, .ref a_t_meeting, .int (t_sights + (1 : Int32)), .ref a_t_sight, .int t_signs, .ref a_t_pad, .int t_touched, .int t_firstTouch, .int t_reason, .int t_acts, .ref a_t_apart, .ref a_t_rounds, .ref a_t_fewest, .ref a_t_nextFewest, .ref a_t_ways, .ref a_t_nextWays, .ref a_t_counts, .ref a_t_image, .ref a_t_isKept])), (a_t_sight, .inl (cI, 24, .inl (upd b75t_sight (((3 : Int32) * t_sights) + (2 : Int32)).toNatClampNeg b75s0)))] H := hP
          replace hD : va_D A [(a_t, .inr (10, [.ref a_t_roads, .int t_homes, .int t_there, .ref a_t_book, .ref a_t_now, .int t_meetings, .ref a_t_meeting, .int (t_sights + (1 : Int32)), .ref a_t_sight, .int t_signs, .ref a_t_pad, .int t_touched, .int t_firstTouch, .int t_reason, .int t_acts, .ref a_t_apart, .ref a_t_rounds, .ref a_t_fewest, .ref a_t_nextFewest, .ref a_t_ways, .ref a_t_nextWays, .ref a_t_counts, .ref a_t_image, .ref a_t_isKept])), (a_t_sight, .inl (cI, 24, .inl (upd b75t_sight (((3 : Int32) * t_sights) + (2 : Int32)).toNatClampNeg b75s0)))] := hD
          refine lv_aload_n hx hb dX10_seen_86 rfl (lv_at hl 0 rfl) ?_
          refine va_get (D := D) (ci := 10) (v := .int (t_sights + (1 : Int32))) (C := RX10) (T := TX10) (N := 24) hx hb hts hmsX10 hown hK hP 0 rfl rfl 7 (by decide) hw165 (fun _ h9 => h9) rfl dX10_seen_87 ?_
          obtain rfl := Option.some.inj hf
          exact fin _ _ _ _ dX10_seen_90 hP hD hS
        refine lv_if_eq (tgt := 74) hx hb dX10_seen_67 (by decide) (fun hc => ?_) (fun hc => ?_)
        · replace hf := (if_pos hc).symm.trans hf
          refine lv_iconst (v := 0) hx hb dX10_seen_74 (by decide) ?_
          exact hB75 (0 : Int32) (upd (upd t_sight ((3 : Int32) * t_sights).toNatClampNeg p1) (((3 : Int32) * t_sights) + (1 : Int32)).toNatClampNeg p2) _ _ _ hP hD hS (lv_sub hl [0] rfl) hf
        · replace hf := (if_neg hc).symm.trans hf
          refine lv_iconst (v := 1) hx hb dX10_seen_70 (by decide) ?_
          refine lv_goto (tgt := 75) hx hb dX10_seen_71 (by decide) ?_
          exact hB75 (1 : Int32) (upd (upd t_sight ((3 : Int32) * t_sights).toNatClampNeg p1) (((3 : Int32) * t_sights) + (1 : Int32)).toNatClampNeg p2) _ _ _ hP hD hS (lv_sub hl [0] rfl) hf
      · replace hf := (if_pos hc).symm.trans hf
        refine lv_bipush (v := -4) hx hb dX10_seen_25 (by decide) ?_
        obtain rfl := Option.some.inj hf
        exact fin _ _ _ _ dX10_seen_27 hP hD hS
    · replace hf := (if_pos hc).symm.trans hf
      refine lv_iconst (v := -1) hx hb dX10_seen_14 (by decide) ?_
      obtain rfl := Option.some.inj hf
      exact fin _ _ _ _ dX10_seen_15 hP hD hS
abbrev rm_X10_forget : Room := { frames := 0, cells := 0, slots := 0, locals := 0 }
theorem ms_X10_forget_X10 : ∀ w ∈ u_ws RX10 TX10 24, w ∈ wsX10_forget := fun w h => List.mem_cons_of_mem _ (List.mem_append_right _ (h))
set_option maxHeartbeats 4000000 in
set_option maxRecDepth 100000 in
theorem c_X10_forget (l : Launch) (D : va_G) (cI cJ cZ cO : ClassId) (sz : Nat) (a_t : Nat) (a_t_roads : Nat) (a_t_book : Nat) (a_t_now : Nat) (a_t_meeting : Nat) (a_t_sight : Nat) (a_t_pad : Nat) (a_t_apart : Nat) (a_t_rounds : Nat) (a_t_fewest : Nat) (a_t_nextFewest : Nat) (a_t_ways : Nat) (a_t_nextWays : Nat) (a_t_counts : Nat) (a_t_image : Nat) (a_t_isKept : Nat) (t_homes : Int32) (t_there : Int32) (t_meetings : Int32) (t_sights : Int32) (t_signs : Int32) (t_touched : Int32) (t_firstTouch : Int32) (t_reason : Int32) (t_acts : Int32) (res : Int32 × Int32) (hf : f_X10_forget t_sights = some res) : MetI l yX10_forget wsX10_forget rm_X10_forget [.ref a_t] D (tys4 cI cJ cZ cO) [(a_t, .inr (10, [.ref a_t_roads, .int t_homes, .int t_there, .ref a_t_book, .ref a_t_now, .int t_meetings, .ref a_t_meeting, .int t_sights, .ref a_t_sight, .int t_signs, .ref a_t_pad, .int t_touched, .int t_firstTouch, .int t_reason, .int t_acts, .ref a_t_apart, .ref a_t_rounds, .ref a_t_fewest, .ref a_t_nextFewest, .ref a_t_ways, .ref a_t_nextWays, .ref a_t_counts, .ref a_t_image, .ref a_t_isKept]))] sz res.1 [(a_t, .inr (10, [.ref a_t_roads, .int t_homes, .int t_there, .ref a_t_book, .ref a_t_now, .int t_meetings, .ref a_t_meeting, .int res.2, .ref a_t_sight, .int t_signs, .ref a_t_pad, .int t_touched, .int t_firstTouch, .int t_reason, .int t_acts, .ref a_t_apart, .ref a_t_rounds, .ref a_t_fewest, .ref a_t_nextFewest, .ref a_t_ways, .ref a_t_nextWays, .ref a_t_counts, .ref a_t_image, .ref a_t_isKept]))] := by
  refine met_i (cc := cX10_forget) (maxL := 2) (by decide) rfl (Nat.le_of_ble_eq_true rfl) ?_
  intro p e s m args below meth c Q A hx hb hml hown hts hK hN hA fin H locs ls hP hD hS hl
  replace hown : s.vm.findClass RX10 = some m.cls := hown
  replace hl : lv_has ls 2 [(0, .ref a_t)] := hl
  rw [f_X10_forget] at hf
  have hw165 := hts (.fieldLink RX10 165 "TouchReignModel" "sights" "I") (by decide +kernel)
  have hmsX10 := ms_X10_forget_X10
  refine lv_aload_n hx hb dX10_forget_0 rfl (lv_at hl 0 rfl) ?_
  refine va_get (D := D) (ci := 10) (v := .int t_sights) (C := RX10) (T := TX10) (N := 24) hx hb hts hmsX10 hown hK hP 0 rfl rfl 7 (by decide) hw165 (fun _ h9 => h9) rfl dX10_forget_1 ?_
  refine lv_istore_n (lv' := [(1, .int t_sights), (0, .ref a_t)]) hx hb dX10_forget_4 rfl hl (by decide) rfl (fun ls hl => ?_)
  refine lv_aload_n hx hb dX10_forget_5 rfl (lv_at hl 1 rfl) ?_
  refine lv_iconst (v := 0) hx hb dX10_forget_6 (by decide) ?_
  refine va_put (D := D) (ci := 10) (v := .int (0 : Int32)) (ty := .int) (C := RX10) (T := TX10) (N := 24) hx hb hts hmsX10 tyX10 tyX10_ok nmX10 hown hK hP hD hS 0 rfl rfl 7 (by decide) hw165 (fun _ h9 => h9) rfl (by decide +kernel) rfl rfl (Nat.le_of_ble_eq_true rfl) dX10_forget_7 (fun H locs hP hD hS => ?_)
  replace hP : va_P D vwCl [(a_t, .inr (10, [.ref a_t_roads, .int t_homes, .int t_there, .ref a_t_book, .ref a_t_now, .int t_meetings, .ref a_t_meeting, .int (0 : Int32), .ref a_t_sight, .int t_signs, .ref a_t_pad, .int t_touched, .int t_firstTouch, .int t_reason, .int t_acts, .ref a_t_apart, .ref a_t_rounds, .ref a_t_fewest, .ref a_t_nextFewest, .ref a_t_ways, .ref a_t_nextWays, .ref a_t_counts, .ref a_t_image, .ref a_t_isKept]))] H := hP
  replace hD : va_D A [(a_t, .inr (10, [.ref a_t_roads, .int t_homes, .int t_there, .ref a_t_book, .ref a_t_now, .int t_meetings, .ref a_t_meeting, .int (0 : Int32), .ref a_t_sight, .int t_signs, .ref a_t_pad, .int t_touched, .int t_firstTouch, .int t_reason, .int t_acts, .ref a_t_apart, .ref a_t_rounds, .ref a_t_fewest, .ref a_t_nextFewest, .ref a_t_ways, .ref a_t_nextWays, .ref a_t_counts, .ref a_t_image, .ref a_t_isKept]))] := hD
  refine lv_iload_n hx hb dX10_forget_10 rfl (lv_at hl 0 rfl) ?_
  obtain rfl := Option.some.inj hf
  exact fin _ _ _ _ dX10_forget_11 hP hD hS
abbrev rm_X10_lairSet : Room := { frames := 2, cells := 0, slots := 0, locals := 45 }
theorem ms_X10_lairSet_X10 : ∀ w ∈ u_ws RX10 TX10 24, w ∈ wsX10_lairSet := fun w h => List.mem_cons_of_mem _ (List.mem_append_right _ (h))
set_option maxHeartbeats 4000000 in
set_option maxRecDepth 100000 in
theorem c_X10_lairSet (l : Launch) (D : va_G) (cI cJ cZ cO : ClassId) (sz : Nat) (a_t : Nat) (a_t_roads : Nat) (a_t_book : Nat) (a_t_now : Nat) (a_t_meeting : Nat) (a_t_sight : Nat) (a_t_pad : Nat) (a_t_apart : Nat) (a_t_rounds : Nat) (a_t_fewest : Nat) (a_t_nextFewest : Nat) (a_t_ways : Nat) (a_t_nextWays : Nat) (a_t_counts : Nat) (a_t_image : Nat) (a_t_isKept : Nat) (t_homes : Int32) (t_there : Int32) (t_meetings : Int32) (t_sights : Int32) (t_signs : Int32) (t_touched : Int32) (t_firstTouch : Int32) (t_reason : Int32) (t_acts : Int32) (t_roads : Nat → Int32) (t_sight : Nat → Int32) (t_apart : Nat → Int32) (res : Int32 × (Nat → Int32)) (hf : f_X10_lairSet t_sights t_roads t_sight t_apart = some res) : MetI l yX10_lairSet wsX10_lairSet rm_X10_lairSet [.ref a_t] D (tys4 cI cJ cZ cO) [(a_t, .inr (10, [.ref a_t_roads, .int t_homes, .int t_there, .ref a_t_book, .ref a_t_now, .int t_meetings, .ref a_t_meeting, .int t_sights, .ref a_t_sight, .int t_signs, .ref a_t_pad, .int t_touched, .int t_firstTouch, .int t_reason, .int t_acts, .ref a_t_apart, .ref a_t_rounds, .ref a_t_fewest, .ref a_t_nextFewest, .ref a_t_ways, .ref a_t_nextWays, .ref a_t_counts, .ref a_t_image, .ref a_t_isKept])), (a_t_roads, .inl (cI, 12, .inl t_roads)), (a_t_sight, .inl (cI, 24, .inl t_sight)), (a_t_apart, .inl (cI, 144, .inl t_apart))] sz res.1 [(a_t, .inr (10, [.ref a_t_roads, .int t_homes, .int t_there, .ref a_t_book, .ref a_t_now, .int t_meetings, .ref a_t_meeting, .int t_sights, .ref a_t_sight, .int t_signs, .ref a_t_pad, .int t_touched, .int t_firstTouch, .int t_reason, .int t_acts, .ref a_t_apart, .ref a_t_rounds, .ref a_t_fewest, .ref a_t_nextFewest, .ref a_t_ways, .ref a_t_nextWays, .ref a_t_counts, .ref a_t_image, .ref a_t_isKept])), (a_t_roads, .inl (cI, 12, .inl t_roads)), (a_t_sight, .inl (cI, 24, .inl t_sight)), (a_t_apart, .inl (cI, 144, .inl res.2))] := by
  refine met_i (cc := cX10_lairSet) (maxL := 7) (by decide) rfl (Nat.le_of_ble_eq_true rfl) ?_
  intro p e s m args below meth c Q A hx hb hml hown hts hK hN hA fin H locs ls hP hD hS hl
  replace hown : s.vm.findClass RX10 = some m.cls := hown
  replace hl : lv_has ls 7 [(0, .ref a_t)] := hl
  rw [f_X10_lairSet] at hf
  have hcw134 := cwV (R := rm_X10_lairSet) (rm := rm_X10_layFar) 0 hts gX10_lairSet_X10_layFar rfl rfl rfl (by decide +kernel) ⟨Nat.le_of_ble_eq_true rfl, Nat.le_of_ble_eq_true rfl⟩
  have hw165 := hts (.fieldLink RX10 165 "TouchReignModel" "sights" "I") (by decide +kernel)
  have hmsX10 := ms_X10_lairSet_X10
  have hw28 := hts (.fieldLink RX10 28 "TouchReignModel" "apart" "[I") (by decide +kernel)
  have hw22 := hts (.fieldLink RX10 22 "TouchReignModel" "sight" "[I") (by decide +kernel)
  have hc133 := hts (.constant RX10 133 (1000000)) (by decide +kernel)
  refine lv_aload_n hx hb dX10_lairSet_0 rfl (lv_at hl 0 rfl) ?_
  obtain ⟨x1, hx1, hf⟩ := bd_if hf
  refine cv_v (wr := [(a_t_sight, .inl (cI, 24, .inl t_sight))]) (ws' := [(a_t, .inr (10, [.ref a_t_roads, .int t_homes, .int t_there, .ref a_t_book, .ref a_t_now, .int t_meetings, .ref a_t_meeting, .int t_sights, .ref a_t_sight, .int t_signs, .ref a_t_pad, .int t_touched, .int t_firstTouch, .int t_reason, .int t_acts, .ref a_t_apart, .ref a_t_rounds, .ref a_t_fewest, .ref a_t_nextFewest, .ref a_t_ways, .ref a_t_nextWays, .ref a_t_counts, .ref a_t_image, .ref a_t_isKept])), (a_t_roads, .inl (cI, 12, .inl t_roads)), (a_t_sight, .inl (cI, 24, .inl t_sight)), (a_t_apart, .inl (cI, 144, .inl x1))]) ⟨hx, hb, hml, hown, hts⟩ hcw134 hK hN hP hD hS hA (c_X10_layFar l D cI cJ cZ cO _ a_t a_t_roads a_t_book a_t_now a_t_meeting a_t_sight a_t_pad a_t_apart a_t_rounds a_t_fewest a_t_nextFewest a_t_ways a_t_nextWays a_t_counts a_t_image a_t_isKept t_homes t_there t_meetings t_sights t_signs t_touched t_firstTouch t_reason t_acts t_roads t_apart x1 hx1) (q := (RX10, TX10, 24)) (ci := 10) (q0 := 0) rfl rfl [0, 1, 3] [2] [1, 2, 0, 3] rfl rfl rfl rfl (by decide) rfl rfl rfl hl.1 rfl (Nat.le_of_ble_eq_true rfl) dX10_lairSet_1 ⟨Nat.zero_le _, Nat.zero_le _⟩ (fun H locs hP hD hS => ?_)
  refine lv_iconst (v := 0) hx hb dX10_lairSet_4 (by decide) ?_
  refine lv_istore_n (lv' := [(1, .int (0 : Int32)), (0, .ref a_t)]) hx hb dX10_lairSet_5 rfl hl (by decide) rfl (fun ls hl => ?_)
  refine lv_iconst (v := 0) hx hb dX10_lairSet_6 (by decide) ?_
  refine lv_istore_n (lv' := [(2, .int (0 : Int32)), (1, .int (0 : Int32)), (0, .ref a_t)]) hx hb dX10_lairSet_7 rfl hl (by decide) rfl (fun ls hl => ?_)
  have hX8 : ∀ (x8v1 : Int32) (H : Heap) (locs : List Loc) (ls : Array Slot), va_P D vwCl [(a_t, .inr (10, [.ref a_t_roads, .int t_homes, .int t_there, .ref a_t_book, .ref a_t_now, .int t_meetings, .ref a_t_meeting, .int t_sights, .ref a_t_sight, .int t_signs, .ref a_t_pad, .int t_touched, .int t_firstTouch, .int t_reason, .int t_acts, .ref a_t_apart, .ref a_t_rounds, .ref a_t_fewest, .ref a_t_nextFewest, .ref a_t_ways, .ref a_t_nextWays, .ref a_t_counts, .ref a_t_image, .ref a_t_isKept])), (a_t_roads, .inl (cI, 12, .inl t_roads)), (a_t_sight, .inl (cI, 24, .inl t_sight)), (a_t_apart, .inl (cI, 144, .inl x1))] H → va_D A [(a_t, .inr (10, [.ref a_t_roads, .int t_homes, .int t_there, .ref a_t_book, .ref a_t_now, .int t_meetings, .ref a_t_meeting, .int t_sights, .ref a_t_sight, .int t_signs, .ref a_t_pad, .int t_touched, .int t_firstTouch, .int t_reason, .int t_acts, .ref a_t_apart, .ref a_t_rounds, .ref a_t_fewest, .ref a_t_nextFewest, .ref a_t_ways, .ref a_t_nextWays, .ref a_t_counts, .ref a_t_image, .ref a_t_isKept])), (a_t_roads, .inl (cI, 12, .inl t_roads)), (a_t_sight, .inl (cI, 24, .inl t_sight)), (a_t_apart, .inl (cI, 144, .inl x1))] → va_S A s.heap H locs → lv_has ls 7 [(1, .int x8v1)] → f_X10_lairSet_X8 x1 x8v1 = some res → W p l e rm_X10_lairSet s m args below meth c H locs 0 0 Q (F0 m 148 ls []) := by
    intro x8v1 H locs ls hP hD hS hl hf
    rw [f_X10_lairSet_X8] at hf
    refine lv_iload_n hx hb dX10_lairSet_148 rfl (lv_at hl 0 rfl) ?_
    obtain rfl := Option.some.inj hf
    exact fin _ _ _ _ dX10_lairSet_149 hP hD hS
  have hL8 : ∀ (n8 : Nat), ∀ (l8v1 : Int32) (l8v2 : Int32) (H : Heap) (locs : List Loc) (ls : Array Slot), va_P D vwCl [(a_t, .inr (10, [.ref a_t_roads, .int t_homes, .int t_there, .ref a_t_book, .ref a_t_now, .int t_meetings, .ref a_t_meeting, .int t_sights, .ref a_t_sight, .int t_signs, .ref a_t_pad, .int t_touched, .int t_firstTouch, .int t_reason, .int t_acts, .ref a_t_apart, .ref a_t_rounds, .ref a_t_fewest, .ref a_t_nextFewest, .ref a_t_ways, .ref a_t_nextWays, .ref a_t_counts, .ref a_t_image, .ref a_t_isKept])), (a_t_roads, .inl (cI, 12, .inl t_roads)), (a_t_sight, .inl (cI, 24, .inl t_sight)), (a_t_apart, .inl (cI, 144, .inl x1))] H → va_D A [(a_t, .inr (10, [.ref a_t_roads, .int t_homes, .int t_there, .ref a_t_book, .ref a_t_now, .int t_meetings, .ref a_t_meeting, .int t_sights, .ref a_t_sight, .int t_signs, .ref a_t_pad, .int t_touched, .int t_firstTouch, .int t_reason, .int t_acts, .ref a_t_apart, .ref a_t_rounds, .ref a_t_fewest, .ref a_t_nextFewest, .ref a_t_ways, .ref a_t_nextWays, .ref a_t_counts, .ref a_t_image, .ref a_t_isKept])), (a_t_roads, .inl (cI, 12, .inl t_roads)), (a_t_sight, .inl (cI, 24, .inl t_sight)), (a_t_apart, .inl (cI, 144, .inl x1))] → va_S A s.heap H locs → lv_has ls 7 [(0, .ref a_t), (1, .int l8v1), (2, .int l8v2)] → f_X10_lairSet_L8 t_sights t_sight x1 (f_X10_lairSet_X8 x1) n8 l8v1 l8v2 = some res → W p l e rm_X10_lairSet s m args below meth c H locs 0 0 Q (F0 m 8 ls []) := by
    intro n8
    induction n8 with
    | zero =>
      intro l8v1 l8v2 H locs ls hP hD hS hl hf
      rw [f_X10_lairSet_L8] at hf
      cases hf
    | succ n8 ih8 =>
      intro l8v1 l8v2 H locs ls hP hD hS hl hf
      rw [f_X10_lairSet_L8] at hf
      refine lv_iload_n hx hb dX10_lairSet_8 rfl (lv_at hl 2 rfl) ?_
      refine lv_bipush (v := 12) hx hb dX10_lairSet_9 (by decide) ?_
      refine lv_icmp_ge (tgt := 148) hx hb dX10_lairSet_11 (by decide) (fun hc => ?_) (fun hc => ?_)
      · replace hf := (if_pos hc).symm.trans hf
        exact hX8 l8v1 _ _ _ hP hD hS (lv_sub hl [1] rfl) hf
      · replace hf := (if_neg hc).symm.trans hf
        refine lv_iconst (v := 1) hx hb dX10_lairSet_14 (by decide) ?_
        refine lv_istore_n (lv' := [(3, .int (1 : Int32)), (0, .ref a_t), (1, .int l8v1), (2, .int l8v2)]) hx hb dX10_lairSet_15 rfl hl (by decide) rfl (fun ls hl => ?_)
        refine lv_iconst (v := 0) hx hb dX10_lairSet_16 (by decide) ?_
        refine lv_istore (lv' := [(4, .int (0 : Int32)), (3, .int (1 : Int32)), (0, .ref a_t), (1, .int l8v1), (2, .int l8v2)]) hx hb dX10_lairSet_17 hl (by decide) rfl (fun ls hl => ?_)
        have hX19 : ∀ (x19v3 : Int32) (H : Heap) (locs : List Loc) (ls : Array Slot), va_P D vwCl [(a_t, .inr (10, [.ref a_t_roads, .int t_homes, .int t_there, .ref a_t_book, .ref a_t_now, .int t_meetings, .ref a_t_meeting, .int t_sights, .ref a_t_sight, .int t_signs, .ref a_t_pad, .int t_touched, .int t_firstTouch, .int t_reason, .int t_acts, .ref a_t_apart, .ref a_t_rounds, .ref a_t_fewest, .ref a_t_nextFewest, .ref a_t_ways, .ref a_t_nextWays, .ref a_t_counts, .ref a_t_image, .ref a_t_isKept])), (a_t_roads, .inl (cI, 12, .inl t_roads)), (a_t_sight, .inl (cI, 24, .inl t_sight)), (a_t_apart, .inl (cI, 144, .inl x1))] H → va_D A [(a_t, .inr (10, [.ref a_t_roads, .int t_homes, .int t_there, .ref a_t_book, .ref a_t_now, .int t_meetings, .ref a_t_meeting, .int t_sights, .ref a_t_sight, .int t_signs, .ref a_t_pad, .int t_touched, .int t_firstTouch, .int t_reason, .int t_acts, .ref a_t_apart, .ref a_t_rounds, .ref a_t_fewest, .ref a_t_nextFewest, .ref a_t_ways, .ref a_t_nextWays, .ref a_t_counts, .ref a_t_image, .ref a_t_isKept])), (a_t_roads, .inl (cI, 12, .inl t_roads)), (a_t_sight, .inl (cI, 24, .inl t_sight)), (a_t_apart, .inl (cI, 144, .inl x1))] → va_S A s.heap H locs → lv_has ls 7 [(0, .ref a_t), (1, .int l8v1), (2, .int l8v2), (3, .int x19v3)] → f_X10_lairSet_X19 l8v1 l8v2 (f_X10_lairSet_L8 t_sights t_sight x1 (f_X10_lairSet_X8 x1) n8) x19v3 = some res → W p l e rm_X10_lairSet s m args below meth c H locs 0 0 Q (F0 m 128 ls []) := by
          intro x19v3 H locs ls hP hD hS hl hf
          rw [f_X10_lairSet_X19] at hf
          refine lv_iload_n hx hb dX10_lairSet_128 rfl (lv_at hl 1 rfl) ?_
          refine lv_iload_n hx hb dX10_lairSet_129 rfl (lv_at hl 3 rfl) ?_
          refine lv_if_eq (tgt := 139) hx hb dX10_lairSet_130 (by decide) (fun hc => ?_) (fun hc => ?_)
          · replace hf := (if_pos hc).symm.trans hf
            refine lv_iconst (v := 0) hx hb dX10_lairSet_139 (by decide) ?_
            refine lv_ior hx hb dX10_lairSet_140 ?_
            refine lv_istore_n (lv' := [(1, .int (l8v1 ||| (0 : Int32))), (0, .ref a_t), (2, .int l8v2), (3, .int x19v3)]) hx hb dX10_lairSet_141 rfl hl (by decide) rfl (fun ls hl => ?_)
            refine lv_iinc (v := l8v2 + 1) (lv' := [(2, .int (l8v2 + 1)), (1, .int (l8v1 ||| (0 : Int32))), (0, .ref a_t), (3, .int x19v3)]) hx hb dX10_lairSet_142 hl (k := 2) rfl rfl (by decide) rfl (fun ls hl => ?_)
            refine lv_goto (tgt := 8) hx hb dX10_lairSet_145 (by decide) ?_
            exact ih8 (l8v1 ||| (0 : Int32)) (l8v2 + 1) _ _ _ hP hD hS (lv_sub hl [2, 1, 0] rfl) hf
          · replace hf := (if_neg hc).symm.trans hf
            refine lv_iconst (v := 1) hx hb dX10_lairSet_133 (by decide) ?_
            refine lv_iload_n hx hb dX10_lairSet_134 rfl (lv_at hl 2 rfl) ?_
            refine lv_ishl hx hb dX10_lairSet_135 ?_
            refine lv_goto (tgt := 140) hx hb dX10_lairSet_136 (by decide) ?_
            refine lv_ior hx hb dX10_lairSet_140 ?_
            refine lv_istore_n (lv' := [(1, .int (l8v1 ||| ((1 : Int32) <<< (l8v2 &&& 31)))), (0, .ref a_t), (2, .int l8v2), (3, .int x19v3)]) hx hb dX10_lairSet_141 rfl hl (by decide) rfl (fun ls hl => ?_)
            refine lv_iinc (v := l8v2 + 1) (lv' := [(2, .int (l8v2 + 1)), (1, .int (l8v1 ||| ((1 : Int32) <<< (l8v2 &&& 31)))), (0, .ref a_t), (3, .int x19v3)]) hx hb dX10_lairSet_142 hl (k := 2) rfl rfl (by decide) rfl (fun ls hl => ?_)
            refine lv_goto (tgt := 8) hx hb dX10_lairSet_145 (by decide) ?_
            exact ih8 (l8v1 ||| ((1 : Int32) <<< (l8v2 &&& 31))) (l8v2 + 1) _ _ _ hP hD hS (lv_sub hl [2, 1, 0] rfl) hf
        have hL19 : ∀ (n19 : Nat), ∀ (l19v3 : Int32) (l19v4 : Int32) (H : Heap) (locs : List Loc) (ls : Array Slot), va_P D vwCl [(a_t, .inr (10, [.ref a_t_roads, .int t_homes, .int t_there, .ref a_t_book, .ref a_t_now, .int t_meetings, .ref a_t_meeting, .int t_sights, .ref a_t_sight, .int t_signs, .ref a_t_pad, .int t_touched, .int t_firstTouch, .int t_reason, .int t_acts, .ref a_t_apart, .ref a_t_rounds, .ref a_t_fewest, .ref a_t_nextFewest, .ref a_t_ways, .ref a_t_nextWays, .ref a_t_counts, .ref a_t_image, .ref a_t_isKept])), (a_t_roads, .inl (cI, 12, .inl t_roads)), (a_t_sight, .inl (cI, 24, .inl t_sight)), (a_t_apart, .inl (cI, 144, .inl x1))] H → va_D A [(a_t, .inr (10, [.ref a_t_roads, .int t_homes, .int t_there, .ref a_t_book, .ref a_t_now, .int t_meetings, .ref a_t_meeting, .int t_sights, .ref a_t_sight, .int t_signs, .ref a_t_pad, .int t_touched, .int t_firstTouch, .int t_reason, .int t_acts, .ref a_t_apart, .ref a_t_rounds, .ref a_t_fewest, .ref a_t_nextFewest, .ref a_t_ways, .ref a_t_nextWays, .ref a_t_counts, .ref a_t_image, .ref a_t_isKept])), (a_t_roads, .inl (cI, 12, .inl t_roads)), (a_t_sight, .inl (cI, 24, .inl t_sight)), (a_t_apart, .inl (cI, 144, .inl x1))] → va_S A s.heap H locs → lv_has ls 7 [(0, .ref a_t), (1, .int l8v1), (2, .int l8v2), (3, .int l19v3), (4, .int l19v4)] → f_X10_lairSet_L19 t_sights t_sight x1 l8v2 (f_X10_lairSet_X19 l8v1 l8v2 (f_X10_lairSet_L8 t_sights t_sight x1 (f_X10_lairSet_X8 x1) n8)) n19 l19v3 l19v4 = some res → W p l e rm_X10_lairSet s m args below meth c H locs 0 0 Q (F0 m 19 ls []) := by
          intro n19
          induction n19 with
          | zero =>
            intro l19v3 l19v4 H locs ls hP hD hS hl hf
            rw [f_X10_lairSet_L19] at hf
            cases hf
          | succ n19 ih19 =>
            intro l19v3 l19v4 H locs ls hP hD hS hl hf
            rw [f_X10_lairSet_L19] at hf
            refine lv_iload hx hb dX10_lairSet_19 (lv_at hl 4 rfl) ?_
            refine lv_aload_n hx hb dX10_lairSet_21 rfl (lv_at hl 0 rfl) ?_
            refine va_get (D := D) (ci := 10) (v := .int t_sights) (C := RX10) (T := TX10) (N := 24) hx hb hts hmsX10 hown hK hP 0 rfl rfl 7 (by decide) hw165 (fun _ h9 => h9) rfl dX10_lairSet_22 ?_
            refine lv_icmp_ge (tgt := 128) hx hb dX10_lairSet_25 (by decide) (fun hc => ?_) (fun hc => ?_)
            · replace hf := (if_pos hc).symm.trans hf
              exact hX19 l19v3 _ _ _ hP hD hS (lv_sub hl [0, 1, 2, 3] rfl) hf
            · replace hf := (if_neg hc).symm.trans hf
              refine lv_aload_n hx hb dX10_lairSet_28 rfl (lv_at hl 0 rfl) ?_
              refine va_get (D := D) (ci := 10) (v := .ref a_t_apart) (C := RX10) (T := TX10) (N := 24) hx hb hts hmsX10 hown hK hP 0 rfl rfl 15 (by decide) hw28 (fun _ h9 => h9) rfl dX10_lairSet_29 ?_
              refine lv_bipush (v := 12) hx hb dX10_lairSet_32 (by decide) ?_
              refine lv_iload_n hx hb dX10_lairSet_34 rfl (lv_at hl 2 rfl) ?_
              refine lv_imul hx hb dX10_lairSet_35 ?_
              refine lv_aload_n hx hb dX10_lairSet_36 rfl (lv_at hl 0 rfl) ?_
              refine va_get (D := D) (ci := 10) (v := .ref a_t_sight) (C := RX10) (T := TX10) (N := 24) hx hb hts hmsX10 hown hK hP 0 rfl rfl 8 (by decide) hw22 (fun _ h9 => h9) rfl dX10_lairSet_37 ?_
              refine lv_iconst (v := 3) hx hb dX10_lairSet_40 (by decide) ?_
              refine lv_iload hx hb dX10_lairSet_41 (lv_at hl 4 rfl) ?_
              refine lv_imul hx hb dX10_lairSet_43 ?_
              obtain ⟨hi44, hf⟩ := ix_if hf
              refine va_iald (D := D) hx hb hK hP 2 0 rfl rfl hi44 dX10_lairSet_44 ?_
              refine lv_iadd hx hb dX10_lairSet_45 ?_
              obtain ⟨hi46, hf⟩ := ix_if hf
              refine va_iald (D := D) hx hb hK hP 3 0 rfl rfl hi46 dX10_lairSet_46 ?_
              refine lv_istore (lv' := [(5, .int (x1 (((12 : Int32) * l8v2) + (t_sight ((3 : Int32) * l19v4).toNatClampNeg)).toNatClampNeg)), (0, .ref a_t), (1, .int l8v1), (2, .int l8v2), (3, .int l19v3), (4, .int l19v4)]) hx hb dX10_lairSet_47 hl (by decide) rfl (fun ls hl => ?_)
              refine lv_aload_n hx hb dX10_lairSet_49 rfl (lv_at hl 1 rfl) ?_
              refine va_get (D := D) (ci := 10) (v := .ref a_t_apart) (C := RX10) (T := TX10) (N := 24) hx hb hts hmsX10 hown hK hP 0 rfl rfl 15 (by decide) hw28 (fun _ h9 => h9) rfl dX10_lairSet_50 ?_
              refine lv_bipush (v := 12) hx hb dX10_lairSet_53 (by decide) ?_
              refine lv_iload_n hx hb dX10_lairSet_55 rfl (lv_at hl 3 rfl) ?_
              refine lv_imul hx hb dX10_lairSet_56 ?_
              refine lv_aload_n hx hb dX10_lairSet_57 rfl (lv_at hl 1 rfl) ?_
              refine va_get (D := D) (ci := 10) (v := .ref a_t_sight) (C := RX10) (T := TX10) (N := 24) hx hb hts hmsX10 hown hK hP 0 rfl rfl 8 (by decide) hw22 (fun _ h9 => h9) rfl dX10_lairSet_58 ?_
              refine lv_iconst (v := 3) hx hb dX10_lairSet_61 (by decide) ?_
              refine lv_iload hx hb dX10_lairSet_62 (lv_at hl 5 rfl) ?_
              refine lv_imul hx hb dX10_lairSet_64 ?_
              refine lv_iconst (v := 1) hx hb dX10_lairSet_65 (by decide) ?_
              refine lv_iadd hx hb dX10_lairSet_66 ?_
              obtain ⟨hi67, hf⟩ := ix_if hf
              refine va_iald (D := D) hx hb hK hP 2 0 rfl rfl hi67 dX10_lairSet_67 ?_
              refine lv_iadd hx hb dX10_lairSet_68 ?_
              obtain ⟨hi69, hf⟩ := ix_if hf
              refine va_iald (D := D) hx hb hK hP 3 0 rfl rfl hi69 dX10_lairSet_69 ?_
              refine lv_istore (lv' := [(6, .int (x1 (((12 : Int32) * l8v2) + (t_sight (((3 : Int32) * l19v4) + (1 : Int32)).toNatClampNeg)).toNatClampNeg)), (5, .int (x1 (((12 : Int32) * l8v2) + (t_sight ((3 : Int32) * l19v4).toNatClampNeg)).toNatClampNeg)), (0, .ref a_t), (1, .int l8v1), (2, .int l8v2), (3, .int l19v3), (4, .int l19v4)]) hx hb dX10_lairSet_70 hl (by decide) rfl (fun ls hl => ?_)
              refine lv_iload_n hx hb dX10_lairSet_72 rfl (lv_at hl 5 rfl) ?_
              refine lv_if_eq (tgt := 120) hx hb dX10_lairSet_73 (by decide) (fun hc => ?_) (fun hc => ?_)
              · replace hf := (if_pos hc).symm.trans hf
                refine lv_iconst (v := 0) hx hb dX10_lairSet_120 (by decide) ?_
                refine lv_istore_n (lv' := [(3, .int (0 : Int32)), (6, .int (x1 (((12 : Int32) * l8v2) + (t_sight (((3 : Int32) * l19v4) + (1 : Int32)).toNatClampNeg)).toNatClampNeg)), (5, .int (x1 (((12 : Int32) * l8v2) + (t_sight ((3 : Int32) * l19v4).toNatClampNeg)).toNatClampNeg)), (0, .ref a_t), (1, .int l8v1), (2, .int l8v2), (4, .int l19v4)]) hx hb dX10_lairSet_121 rfl hl (by decide) rfl (fun ls hl => ?_)
                refine lv_iinc (v := l19v4 + 1) (lv' := [(4, .int (l19v4 + 1)), (3, .int (0 : Int32)), (6, .int (x1 (((12 : Int32) * l8v2) + (t_sight (((3 : Int32) * l19v4) + (1 : Int32)).toNatClampNeg)).toNatClampNeg)), (5, .int (x1 (((12 : Int32) * l8v2) + (t_sight ((3 : Int32) * l19v4).toNatClampNeg)).toNatClampNeg)), (0, .ref a_t), (1, .int l8v1), (2, .int l8v2)]) hx hb dX10_lairSet_122 hl (k := 6) rfl rfl (by decide) rfl (fun ls hl => ?_)
                refine lv_goto (tgt := 19) hx hb dX10_lairSet_125 (by decide) ?_
                exact ih19 (0 : Int32) (l19v4 + 1) _ _ _ hP hD hS (lv_sub hl [4, 5, 6, 1, 0] rfl) hf
              · replace hf := (if_neg hc).symm.trans hf
                refine lv_iload hx hb dX10_lairSet_76 (lv_at hl 1 rfl) ?_
                refine lv_ldc (v := 1000000) hx hb hown hc133 dX10_lairSet_78 ?_
                refine lv_icmp_ge (tgt := 120) hx hb dX10_lairSet_80 (by decide) (fun hc => ?_) (fun hc => ?_)
                · replace hf := (if_pos hc).symm.trans hf
                  refine lv_iconst (v := 0) hx hb dX10_lairSet_120 (by decide) ?_
                  refine lv_istore_n (lv' := [(3, .int (0 : Int32)), (6, .int (x1 (((12 : Int32) * l8v2) + (t_sight (((3 : Int32) * l19v4) + (1 : Int32)).toNatClampNeg)).toNatClampNeg)), (5, .int (x1 (((12 : Int32) * l8v2) + (t_sight ((3 : Int32) * l19v4).toNatClampNeg)).toNatClampNeg)), (0, .ref a_t), (1, .int l8v1), (2, .int l8v2), (4, .int l19v4)]) hx hb dX10_lairSet_121 rfl hl (by decide) rfl (fun ls hl => ?_)
                  refine lv_iinc (v := l19v4 + 1) (lv' := [(4, .int (l19v4 + 1)), (3, .int (0 : Int32)), (6, .int (x1 (((12 : Int32) * l8v2) + (t_sight (((3 : Int32) * l19v4) + (1 : Int32)).toNatClampNeg)).toNatClampNeg)), (5, .int (x1 (((12 : Int32) * l8v2) + (t_sight ((3 : Int32) * l19v4).toNatClampNeg)).toNatClampNeg)), (0, .ref a_t), (1, .int l8v1), (2, .int l8v2)]) hx hb dX10_lairSet_122 hl (k := 6) rfl rfl (by decide) rfl (fun ls hl => ?_)
                  refine lv_goto (tgt := 19) hx hb dX10_lairSet_125 (by decide) ?_
                  exact ih19 (0 : Int32) (l19v4 + 1) _ _ _ hP hD hS (lv_sub hl [4, 5, 6, 1, 0] rfl) hf
                · replace hf := (if_neg hc).symm.trans hf
                  refine lv_iload hx hb dX10_lairSet_83 (lv_at hl 0 rfl) ?_
                  refine lv_ldc (v := 1000000) hx hb hown hc133 dX10_lairSet_85 ?_
                  refine lv_icmp_ge (tgt := 120) hx hb dX10_lairSet_87 (by decide) (fun hc => ?_) (fun hc => ?_)
                  · replace hf := (if_pos hc).symm.trans hf
                    refine lv_iconst (v := 0) hx hb dX10_lairSet_120 (by decide) ?_
                    refine lv_istore_n (lv' := [(3, .int (0 : Int32)), (6, .int (x1 (((12 : Int32) * l8v2) + (t_sight (((3 : Int32) * l19v4) + (1 : Int32)).toNatClampNeg)).toNatClampNeg)), (5, .int (x1 (((12 : Int32) * l8v2) + (t_sight ((3 : Int32) * l19v4).toNatClampNeg)).toNatClampNeg)), (0, .ref a_t), (1, .int l8v1), (2, .int l8v2), (4, .int l19v4)]) hx hb dX10_lairSet_121 rfl hl (by decide) rfl (fun ls hl => ?_)
                    refine lv_iinc (v := l19v4 + 1) (lv' := [(4, .int (l19v4 + 1)), (3, .int (0 : Int32)), (6, .int (x1 (((12 : Int32) * l8v2) + (t_sight (((3 : Int32) * l19v4) + (1 : Int32)).toNatClampNeg)).toNatClampNeg)), (5, .int (x1 (((12 : Int32) * l8v2) + (t_sight ((3 : Int32) * l19v4).toNatClampNeg)).toNatClampNeg)), (0, .ref a_t), (1, .int l8v1), (2, .int l8v2)]) hx hb dX10_lairSet_122 hl (k := 6) rfl rfl (by decide) rfl (fun ls hl => ?_)
                    refine lv_goto (tgt := 19) hx hb dX10_lairSet_125 (by decide) ?_
                    exact ih19 (0 : Int32) (l19v4 + 1) _ _ _ hP hD hS (lv_sub hl [4, 5, 6, 1, 0] rfl) hf
                  · replace hf := (if_neg hc).symm.trans hf
                    refine lv_iload hx hb dX10_lairSet_90 (lv_at hl 0 rfl) ?_
                    refine lv_iload hx hb dX10_lairSet_92 (lv_at hl 1 rfl) ?_
                    have hB102 : ∀ (b102s0 : Int32) (H : Heap) (locs : List Loc) (ls : Array Slot), va_P D vwCl [(a_t, .inr (10, [.ref a_t_roads, .int t_homes, .int t_there, .ref a_t_book, .ref a_t_now, .int t_meetings, .ref a_t_meeting, .int t_sights, .ref a_t_sight, .int t_signs, .ref a_t_pad, .int t_touched, .int t_firstTouch, .int t_reason, .int t_acts, .ref a_t_apart, .ref a_t_rounds, .ref a_t_fewest, .ref a_t_nextFewest, .ref a_t_ways, .ref a_t_nextWays, .ref a_t_counts, .ref a_t_image, .ref a_t_isKept])), (a_t_roads, .inl (cI, 12, .inl t_roads)), (a_t_sight, .inl (cI, 24, .inl t_sight)), (a_t_apart, .inl (cI, 144, .inl x1))] H → va_D A [(a_t, .inr (10, [.ref a_t_roads, .int t_homes, .int t_there, .ref a_t_book, .ref a_t_now, .int t_meetings, .ref a_t_meeting, .int t_sights, .ref a_t_sight, .int t_signs, .ref a_t_pad, .int t_touched, .int t_firstTouch, .int t_reason, .int t_acts, .ref a_t_apart, .ref a_t_rounds, .ref a_t_fewest, .ref a_t_nextFewest, .ref a_t_ways, .ref a_t_nextWays, .ref a_t_counts, .ref a_t_image, .ref a_t_isKept])), (a_t_roads, .inl (cI, 12, .inl t_roads)), (a_t_sight, .inl (cI, 24, .inl t_sight)), (a_t_apart, .inl (cI, 144, .inl x1))] → va_S A s.heap H locs → lv_has ls 7 [(0, .ref a_t), (1, .int l8v1), (2, .int l8v2), (4, .int l19v4)] → f_X10_lairSet_B102 t_sight l19v4 (f_X10_lairSet_L19 t_sights t_sight x1 l8v2 (f_X10_lairSet_X19 l8v1 l8v2 (f_X10_lairSet_L8 t_sights t_sight x1 (f_X10_lairSet_X8 x1) n8)) n19) b102s0 = some res → W p l e rm_X10_lairSet s m args below meth c H locs 0 0 Q (F0 m 102 ls [.int b102s0]) := by
                      intro b102s0 H locs ls hP hD hS hl hf
                      rw [f_X10_lairSet_B102] at hf
                      refine lv_aload_n hx hb dX10_lairSet_102 rfl (lv_at hl 0 rfl) ?_
                      refine va_get (D := D) (ci := 10) (v := .ref a_t_sight) (C := RX10) (T := TX10) (N := 24) hx hb hts hmsX10 hown hK hP 0 rfl rfl 8 (by decide) hw22 (fun _ h9 => h9) rfl dX10_lairSet_103 ?_
                      refine lv_iconst (v := 3) hx hb dX10_lairSet_106 (by decide) ?_
                      refine lv_iload hx hb dX10_lairSet_107 (lv_at hl 3 rfl) ?_
                      refine lv_imul hx hb dX10_lairSet_109 ?_
                      refine lv_iconst (v := 2) hx hb dX10_lairSet_110 (by decide) ?_
                      refine lv_iadd hx hb dX10_lairSet_111 ?_
                      obtain ⟨hi112, hf⟩ := ix_if hf
                      refine va_iald (D := D) hx hb hK hP 2 0 rfl rfl hi112 dX10_lairSet_112 ?_
                      refine lv_icmp_ne (tgt := 120) hx hb dX10_lairSet_113 (by decide) (fun hc => ?_) (fun hc => ?_)
                      · replace hf := (if_neg hc).symm.trans hf
                        refine lv_iconst (v := 0) hx hb dX10_lairSet_120 (by decide) ?_
                        refine lv_istore_n (lv' := [(3, .int (0 : Int32)), (0, .ref a_t), (1, .int l8v1), (2, .int l8v2), (4, .int l19v4)]) hx hb dX10_lairSet_121 rfl hl (by decide) rfl (fun ls hl => ?_)
                        refine lv_iinc (v := l19v4 + 1) (lv' := [(4, .int (l19v4 + 1)), (3, .int (0 : Int32)), (0, .ref a_t), (1, .int l8v1), (2, .int l8v2)]) hx hb dX10_lairSet_122 hl (k := 4) rfl rfl (by decide) rfl (fun ls hl => ?_)
                        refine lv_goto (tgt := 19) hx hb dX10_lairSet_125 (by decide) ?_
                        exact ih19 (0 : Int32) (l19v4 + 1) _ _ _ hP hD hS (lv_sub hl [2, 3, 4, 1, 0] rfl) hf
                      · replace hf := (if_pos hc).symm.trans hf
                        refine lv_iconst (v := 1) hx hb dX10_lairSet_116 (by decide) ?_
                        refine lv_goto (tgt := 121) hx hb dX10_lairSet_117 (by decide) ?_
                        refine lv_istore_n (lv' := [(3, .int (1 : Int32)), (0, .ref a_t), (1, .int l8v1), (2, .int l8v2), (4, .int l19v4)]) hx hb dX10_lairSet_121 rfl hl (by decide) rfl (fun ls hl => ?_)
                        refine lv_iinc (v := l19v4 + 1) (lv' := [(4, .int (l19v4 + 1)), (3, .int (1 : Int32)), (0, .ref a_t), (1, .int l8v1), (2, .int l8v2)]) hx hb dX10_lairSet_122 hl (k := 4) rfl rfl (by decide) rfl (fun ls hl => ?_)
                        refine lv_goto (tgt := 19) hx hb dX10_lairSet_125 (by decide) ?_
                        exact ih19 (1 : Int32) (l19v4 + 1) _ _ _ hP hD hS (lv_sub hl [2, 3, 4, 1, 0] rfl) hf
                    refine lv_icmp_ge (tgt := 101) hx hb dX10_lairSet_94 (by decide) (fun hc => ?_) (fun hc => ?_)
                    · replace hf := (if_pos hc).symm.trans hf
                      refine lv_iconst (v := 0) hx hb dX10_lairSet_101 (by decide) ?_
                      exact hB102 (0 : Int32) _ _ _ hP hD hS (lv_sub hl [2, 3, 4, 6] rfl) hf
                    · replace hf := (if_neg hc).symm.trans hf
                      refine lv_iconst (v := 1) hx hb dX10_lairSet_97 (by decide) ?_
                      refine lv_goto (tgt := 102) hx hb dX10_lairSet_98 (by decide) ?_
                      exact hB102 (1 : Int32) _ _ _ hP hD hS (lv_sub hl [2, 3, 4, 6] rfl) hf
        exact hL19 5000 (1 : Int32) (0 : Int32) _ _ _ hP hD hS (lv_sub hl [2, 3, 4, 1, 0] rfl) hf
  exact hL8 5000 (0 : Int32) (0 : Int32) _ _ _ hP hD hS (lv_sub hl [2, 1, 0] rfl) hf
abbrev rm_X10_lairs : Room := { frames := 3, cells := 0, slots := 0, locals := 71 }
set_option maxHeartbeats 4000000 in
set_option maxRecDepth 100000 in
theorem c_X10_lairs (l : Launch) (D : va_G) (cI cJ cZ cO : ClassId) (sz : Nat) (a_t : Nat) (a_t_roads : Nat) (a_t_book : Nat) (a_t_now : Nat) (a_t_meeting : Nat) (a_t_sight : Nat) (a_t_pad : Nat) (a_t_apart : Nat) (a_t_rounds : Nat) (a_t_fewest : Nat) (a_t_nextFewest : Nat) (a_t_ways : Nat) (a_t_nextWays : Nat) (a_t_counts : Nat) (a_t_image : Nat) (a_t_isKept : Nat) (t_homes : Int32) (t_there : Int32) (t_meetings : Int32) (t_sights : Int32) (t_signs : Int32) (t_touched : Int32) (t_firstTouch : Int32) (t_reason : Int32) (t_acts : Int32) (t_roads : Nat → Int32) (t_sight : Nat → Int32) (t_apart : Nat → Int32) (res : Int32 × (Nat → Int32)) (hf : f_X10_lairs t_sights t_roads t_sight t_apart = some res) : MetI l yX10_lairs wsX10_lairs rm_X10_lairs [.ref a_t] D (tys4 cI cJ cZ cO) [(a_t, .inr (10, [.ref a_t_roads, .int t_homes, .int t_there, .ref a_t_book, .ref a_t_now, .int t_meetings, .ref a_t_meeting, .int t_sights, .ref a_t_sight, .int t_signs, .ref a_t_pad, .int t_touched, .int t_firstTouch, .int t_reason, .int t_acts, .ref a_t_apart, .ref a_t_rounds, .ref a_t_fewest, .ref a_t_nextFewest, .ref a_t_ways, .ref a_t_nextWays, .ref a_t_counts, .ref a_t_image, .ref a_t_isKept])), (a_t_roads, .inl (cI, 12, .inl t_roads)), (a_t_sight, .inl (cI, 24, .inl t_sight)), (a_t_apart, .inl (cI, 144, .inl t_apart))] sz res.1 [(a_t, .inr (10, [.ref a_t_roads, .int t_homes, .int t_there, .ref a_t_book, .ref a_t_now, .int t_meetings, .ref a_t_meeting, .int t_sights, .ref a_t_sight, .int t_signs, .ref a_t_pad, .int t_touched, .int t_firstTouch, .int t_reason, .int t_acts, .ref a_t_apart, .ref a_t_rounds, .ref a_t_fewest, .ref a_t_nextFewest, .ref a_t_ways, .ref a_t_nextWays, .ref a_t_counts, .ref a_t_image, .ref a_t_isKept])), (a_t_roads, .inl (cI, 12, .inl t_roads)), (a_t_sight, .inl (cI, 24, .inl t_sight)), (a_t_apart, .inl (cI, 144, .inl res.2))] := by
  refine met_i (cc := cX10_lairs) (maxL := 1) (by decide) rfl (Nat.le_of_ble_eq_true rfl) ?_
  intro p e s m args below meth c Q A hx hb hml hown hts hK hN hA fin H locs ls hP hD hS hl
  replace hown : s.vm.findClass RX10 = some m.cls := hown
  replace hl : lv_has ls 1 [(0, .ref a_t)] := hl
  rw [f_X10_lairs] at hf
  have hcw168 := cwV (R := rm_X10_lairs) (rm := rm_X10_lairSet) 0 hts gX10_lairs_X10_lairSet rfl rfl rfl (by decide +kernel) ⟨Nat.le_of_ble_eq_true rfl, Nat.le_of_ble_eq_true rfl⟩
  refine lv_aload_n hx hb dX10_lairs_0 rfl (lv_at hl 0 rfl) ?_
  obtain ⟨x1, hx1, hf⟩ := bd_if hf
  refine cv_i (wr := []) (ws' := [(a_t, .inr (10, [.ref a_t_roads, .int t_homes, .int t_there, .ref a_t_book, .ref a_t_now, .int t_meetings, .ref a_t_meeting, .int t_sights, .ref a_t_sight, .int t_signs, .ref a_t_pad, .int t_touched, .int t_firstTouch, .int t_reason, .int t_acts, .ref a_t_apart, .ref a_t_rounds, .ref a_t_fewest, .ref a_t_nextFewest, .ref a_t_ways, .ref a_t_nextWays, .ref a_t_counts, .ref a_t_image, .ref a_t_isKept])), (a_t_roads, .inl (cI, 12, .inl t_roads)), (a_t_sight, .inl (cI, 24, .inl t_sight)), (a_t_apart, .inl (cI, 144, .inl x1.2))]) ⟨hx, hb, hml, hown, hts⟩ hcw168 hK hN hP hD hS hA (c_X10_lairSet l D cI cJ cZ cO _ a_t a_t_roads a_t_book a_t_now a_t_meeting a_t_sight a_t_pad a_t_apart a_t_rounds a_t_fewest a_t_nextFewest a_t_ways a_t_nextWays a_t_counts a_t_image a_t_isKept t_homes t_there t_meetings t_sights t_signs t_touched t_firstTouch t_reason t_acts t_roads t_sight t_apart x1 hx1) (q := (RX10, TX10, 24)) (ci := 10) (q0 := 0) rfl rfl [0, 1, 2, 3] [] [0, 1, 2, 3] rfl rfl rfl rfl (by decide) rfl rfl rfl hl.1 rfl (Nat.le_of_ble_eq_true rfl) dX10_lairs_1 ⟨Nat.zero_le _, Nat.zero_le _⟩ (fun H locs hP hD hS => ?_)
  obtain rfl := Option.some.inj hf
  exact fin _ _ _ _ dX10_lairs_4 hP hD hS
abbrev rm_X10_ask : Room := { frames := 3, cells := 0, slots := 0, locals := 71 }
theorem ms_X10_ask_X10 : ∀ w ∈ u_ws RX10 TX10 24, w ∈ wsX10_ask := fun w h => List.mem_cons_of_mem _ (List.mem_append_right _ (h))
set_option maxHeartbeats 4000000 in
set_option maxRecDepth 100000 in
theorem c_X10_ask (l : Launch) (D : va_G) (cI cJ cZ cO : ClassId) (sz : Nat) (a_t : Nat) (a_t_roads : Nat) (a_t_book : Nat) (a_t_now : Nat) (a_t_meeting : Nat) (a_t_sight : Nat) (a_t_pad : Nat) (a_t_apart : Nat) (a_t_rounds : Nat) (a_t_fewest : Nat) (a_t_nextFewest : Nat) (a_t_ways : Nat) (a_t_nextWays : Nat) (a_t_counts : Nat) (a_t_image : Nat) (a_t_isKept : Nat) (t_homes : Int32) (t_there : Int32) (t_meetings : Int32) (t_sights : Int32) (t_signs : Int32) (t_touched : Int32) (t_firstTouch : Int32) (t_reason : Int32) (t_acts : Int32) (t_roads : Nat → Int32) (t_sight : Nat → Int32) (t_apart : Nat → Int32) (t_counts : Nat → Int32) (p1 : Int32) (res : Int32 × (Nat → Int32) × (Nat → Int32)) (hf : f_X10_ask t_sights t_roads t_sight t_apart t_counts p1 = some res) : MetI l yX10_ask wsX10_ask rm_X10_ask [.ref a_t, .int p1] D (tys4 cI cJ cZ cO) [(a_t, .inr (10, [.ref a_t_roads, .int t_homes, .int t_there, .ref a_t_book, .ref a_t_now, .int t_meetings, .ref a_t_meeting, .int t_sights, .ref a_t_sight, .int t_signs, .ref a_t_pad, .int t_touched, .int t_firstTouch, .int t_reason, .int t_acts, .ref a_t_apart, .ref a_t_rounds, .ref a_t_fewest, .ref a_t_nextFewest, .ref a_t_ways, .ref a_t_nextWays, .ref a_t_counts, .ref a_t_image, .ref a_t_isKept])), (a_t_roads, .inl (cI, 12, .inl t_roads)), (a_t_sight, .inl (cI, 24, .inl t_sight)), (a_t_apart, .inl (cI, 144, .inl t_apart)), (a_t_counts, .inl (cI, 13, .inl t_counts))] sz res.1 [(a_t, .inr (10, [.ref a_t_roads, .int t_homes, .int t_there, .ref a_t_book, .ref a_t_now, .int t_meetings, .ref a_t_meeting, .int t_sights, .ref a_t_sight, .int t_signs, .ref a_t_pad, .int t_touched, .int t_firstTouch, .int t_reason, .int t_acts, .ref a_t_apart, .ref a_t_rounds, .ref a_t_fewest, .ref a_t_nextFewest, .ref a_t_ways, .ref a_t_nextWays, .ref a_t_counts, .ref a_t_image, .ref a_t_isKept])), (a_t_roads, .inl (cI, 12, .inl t_roads)), (a_t_sight, .inl (cI, 24, .inl t_sight)), (a_t_apart, .inl (cI, 144, .inl res.2.1)), (a_t_counts, .inl (cI, 13, .inl res.2.2))] := by
  refine met_i (cc := cX10_ask) (maxL := 9) (by decide) rfl (Nat.le_of_ble_eq_true rfl) ?_
  intro p e s m args below meth c Q A hx hb hml hown hts hK hN hA fin H locs ls hP hD hS hl
  replace hown : s.vm.findClass RX10 = some m.cls := hown
  replace hl : lv_has ls 9 [(0, .ref a_t), (1, .int p1)] := hl
  rw [f_X10_ask] at hf
  have hcw57 := va_cwS (R := rm_X10_ask) (rm := rm_X10_in) 3 hts gX10_ask_X10_in rfl rfl rfl (by decide +kernel) ⟨Nat.le_of_ble_eq_true rfl, Nat.le_of_ble_eq_true rfl⟩
  have hcw168 := cwV (R := rm_X10_ask) (rm := rm_X10_lairSet) 0 hts gX10_ask_X10_lairSet rfl rfl rfl (by decide +kernel) ⟨Nat.le_of_ble_eq_true rfl, Nat.le_of_ble_eq_true rfl⟩
  have hc133 := hts (.constant RX10 133 (1000000)) (by decide +kernel)
  have hcw69 := va_cwS (R := rm_X10_ask) (rm := rm_X10_has) 2 hts gX10_ask_X10_has rfl rfl rfl (by decide +kernel) ⟨Nat.le_of_ble_eq_true rfl, Nat.le_of_ble_eq_true rfl⟩
  have hw28 := hts (.fieldLink RX10 28 "TouchReignModel" "apart" "[I") (by decide +kernel)
  have hmsX10 := ms_X10_ask_X10
  have hw47 := hts (.fieldLink RX10 47 "TouchReignModel" "counts" "[I") (by decide +kernel)
  refine lv_iload_n hx hb dX10_ask_0 rfl (lv_at hl 1 rfl) ?_
  refine lv_iconst (v := 0) hx hb dX10_ask_1 (by decide) ?_
  refine lv_iconst (v := 1) hx hb dX10_ask_2 (by decide) ?_
  obtain ⟨x3, hx3, hf⟩ := bd_if hf
  refine cs_i (wr := [(a_t, .inr (10, [.ref a_t_roads, .int t_homes, .int t_there, .ref a_t_book, .ref a_t_now, .int t_meetings, .ref a_t_meeting, .int t_sights, .ref a_t_sight, .int t_signs, .ref a_t_pad, .int t_touched, .int t_firstTouch, .int t_reason, .int t_acts, .ref a_t_apart, .ref a_t_rounds, .ref a_t_fewest, .ref a_t_nextFewest, .ref a_t_ways, .ref a_t_nextWays, .ref a_t_counts, .ref a_t_image, .ref a_t_isKept])), (a_t_roads, .inl (cI, 12, .inl t_roads)), (a_t_sight, .inl (cI, 24, .inl t_sight)), (a_t_apart, .inl (cI, 144, .inl t_apart)), (a_t_counts, .inl (cI, 13, .inl t_counts))]) (ws' := [(a_t, .inr (10, [.ref a_t_roads, .int t_homes, .int t_there, .ref a_t_book, .ref a_t_now, .int t_meetings, .ref a_t_meeting, .int t_sights, .ref a_t_sight, .int t_signs, .ref a_t_pad, .int t_touched, .int t_firstTouch, .int t_reason, .int t_acts, .ref a_t_apart, .ref a_t_rounds, .ref a_t_fewest, .ref a_t_nextFewest, .ref a_t_ways, .ref a_t_nextWays, .ref a_t_counts, .ref a_t_image, .ref a_t_isKept])), (a_t_roads, .inl (cI, 12, .inl t_roads)), (a_t_sight, .inl (cI, 24, .inl t_sight)), (a_t_apart, .inl (cI, 144, .inl t_apart)), (a_t_counts, .inl (cI, 13, .inl t_counts))]) ⟨hx, hb, hml, hown, hts⟩ hcw57 hK hN hP hD hS hA (c_X10_in l D cI cJ cZ cO _ p1 (0 : Int32) (1 : Int32) x3 hx3) [] [0, 1, 2, 3, 4] [0, 1, 2, 3, 4] rfl rfl rfl rfl (by decide) rfl rfl rfl hl.1 rfl (Nat.le_of_ble_eq_true rfl) dX10_ask_3 ⟨Nat.zero_le _, Nat.zero_le _⟩ (fun H locs hP hD hS => ?_)
  refine lv_if_ne (tgt := 12) hx hb dX10_ask_6 (by decide) (fun hc => ?_) (fun hc => ?_)
  · replace hf := (if_neg hc).symm.trans hf
    refine lv_aload_n hx hb dX10_ask_12 rfl (lv_at hl 0 rfl) ?_
    obtain ⟨x13, hx13, hf⟩ := bd_if hf
    refine cv_i (wr := [(a_t_counts, .inl (cI, 13, .inl t_counts))]) (ws' := [(a_t, .inr (10, [.ref a_t_roads, .int t_homes, .int t_there, .ref a_t_book, .ref a_t_now, .int t_meetings, .ref a_t_meeting, .int t_sights, .ref a_t_sight, .int t_signs, .ref a_t_pad, .int t_touched, .int t_firstTouch, .int t_reason, .int t_acts, .ref a_t_apart, .ref a_t_rounds, .ref a_t_fewest, .ref a_t_nextFewest, .ref a_t_ways, .ref a_t_nextWays, .ref a_t_counts, .ref a_t_image, .ref a_t_isKept])), (a_t_roads, .inl (cI, 12, .inl t_roads)), (a_t_sight, .inl (cI, 24, .inl t_sight)), (a_t_apart, .inl (cI, 144, .inl x13.2)), (a_t_counts, .inl (cI, 13, .inl t_counts))]) ⟨hx, hb, hml, hown, hts⟩ hcw168 hK hN hP hD hS hA (c_X10_lairSet l D cI cJ cZ cO _ a_t a_t_roads a_t_book a_t_now a_t_meeting a_t_sight a_t_pad a_t_apart a_t_rounds a_t_fewest a_t_nextFewest a_t_ways a_t_nextWays a_t_counts a_t_image a_t_isKept t_homes t_there t_meetings t_sights t_signs t_touched t_firstTouch t_reason t_acts t_roads t_sight t_apart x13 hx13) (q := (RX10, TX10, 24)) (ci := 10) (q0 := 0) rfl rfl [0, 1, 2, 3] [4] [1, 2, 3, 4, 0] rfl rfl rfl rfl (by decide) rfl rfl rfl hl.1 rfl (Nat.le_of_ble_eq_true rfl) dX10_ask_13 ⟨Nat.zero_le _, Nat.zero_le _⟩ (fun H locs hP hD hS => ?_)
    refine lv_istore_n (lv' := [(2, .int x13.1), (0, .ref a_t), (1, .int p1)]) hx hb dX10_ask_16 rfl hl (by decide) rfl (fun ls hl => ?_)
    refine lv_bipush (v := -6) hx hb dX10_ask_17 (by decide) ?_
    refine lv_istore_n (lv' := [(3, .int (-6 : Int32)), (2, .int x13.1), (0, .ref a_t), (1, .int p1)]) hx hb dX10_ask_19 rfl hl (by decide) rfl (fun ls hl => ?_)
    refine lv_ldc (v := 1000000) hx hb hown hc133 dX10_ask_20 ?_
    refine lv_istore (lv' := [(4, .int (1000000 : Int32)), (3, .int (-6 : Int32)), (2, .int x13.1), (0, .ref a_t), (1, .int p1)]) hx hb dX10_ask_22 hl (by decide) rfl (fun ls hl => ?_)
    refine lv_iconst (v := 0) hx hb dX10_ask_24 (by decide) ?_
    refine lv_istore (lv' := [(5, .int (0 : Int32)), (4, .int (1000000 : Int32)), (3, .int (-6 : Int32)), (2, .int x13.1), (0, .ref a_t), (1, .int p1)]) hx hb dX10_ask_25 hl (by decide) rfl (fun ls hl => ?_)
    have hX27 : ∀ (x27v3 : Int32) (x27v4 : Int32) (x27t_counts : Nat → Int32) (H : Heap) (locs : List Loc) (ls : Array Slot), va_P D vwCl [(a_t, .inr (10, [.ref a_t_roads, .int t_homes, .int t_there, .ref a_t_book, .ref a_t_now, .int t_meetings, .ref a_t_meeting, .int t_sights, .ref a_t_sight, .int t_signs, .ref a_t_pad, .int t_touched, .int t_firstTouch, .int t_reason, .int t_acts, .ref a_t_apart, .ref a_t_rounds, .ref a_t_fewest, .ref a_t_nextFewest, .ref a_t_ways, .ref a_t_nextWays, .ref a_t_counts, .ref a_t_image, .ref a_t_isKept])), (a_t_roads, .inl (cI, 12, .inl t_roads)), (a_t_sight, .inl (cI, 24, .inl t_sight)), (a_t_apart, .inl (cI, 144, .inl x13.2)), (a_t_counts, .inl (cI, 13, .inl x27t_counts))] H → va_D A [(a_t, .inr (10, [.ref a_t_roads, .int t_homes, .int t_there, .ref a_t_book, .ref a_t_now, .int t_meetings, .ref a_t_meeting, .int t_sights, .ref a_t_sight, .int t_signs, .ref a_t_pad, .int t_touched, .int t_firstTouch, .int t_reason, .int t_acts, .ref a_t_apart, .ref a_t_rounds, .ref a_t_fewest, .ref a_t_nextFewest, .ref a_t_ways, .ref a_t_nextWays, .ref a_t_counts, .ref a_t_image, .ref a_t_isKept])), (a_t_roads, .inl (cI, 12, .inl t_roads)), (a_t_sight, .inl (cI, 24, .inl t_sight)), (a_t_apart, .inl (cI, 144, .inl x13.2)), (a_t_counts, .inl (cI, 13, .inl x27t_counts))] → va_S A s.heap H locs → lv_has ls 9 [(1, .int p1), (3, .int x27v3), (4, .int x27v4)] → f_X10_ask_X27 p1 x13 x27v3 x27v4 x27t_counts = some res → W p l e rm_X10_ask s m args below meth c H locs 0 0 Q (F0 m 201 ls []) := by
      intro x27v3 x27v4 x27t_counts H locs ls hP hD hS hl hf
      rw [f_X10_ask_X27] at hf
      refine lv_iload_n hx hb dX10_ask_201 rfl (lv_at hl 1 rfl) ?_
      refine lv_if_lt (tgt := 209) hx hb dX10_ask_202 (by decide) (fun hc => ?_) (fun hc => ?_)
      · replace hf := (if_pos hc).symm.trans hf
        refine lv_iload_n hx hb dX10_ask_209 rfl (lv_at hl 1 rfl) ?_
        refine lv_goto (tgt := 215) hx hb dX10_ask_210 (by decide) ?_
        obtain rfl := Option.some.inj hf
        exact fin _ _ _ _ dX10_ask_215 hP hD hS
      · replace hf := (if_neg hc).symm.trans hf
        refine lv_iload_n hx hb dX10_ask_205 rfl (lv_at hl 0 rfl) ?_
        refine lv_if_ne (tgt := 213) hx hb dX10_ask_206 (by decide) (fun hc => ?_) (fun hc => ?_)
        · replace hf := (if_neg hc).symm.trans hf
          refine lv_iload hx hb dX10_ask_213 (lv_at hl 2 rfl) ?_
          obtain rfl := Option.some.inj hf
          exact fin _ _ _ _ dX10_ask_215 hP hD hS
        · replace hf := (if_pos hc).symm.trans hf
          refine lv_iload_n hx hb dX10_ask_209 rfl (lv_at hl 1 rfl) ?_
          refine lv_goto (tgt := 215) hx hb dX10_ask_210 (by decide) ?_
          obtain rfl := Option.some.inj hf
          exact fin _ _ _ _ dX10_ask_215 hP hD hS
    have hL27 : ∀ (n27 : Nat), ∀ (l27v3 : Int32) (l27v4 : Int32) (l27v5 : Int32) (l27t_counts : Nat → Int32) (H : Heap) (locs : List Loc) (ls : Array Slot), va_P D vwCl [(a_t, .inr (10, [.ref a_t_roads, .int t_homes, .int t_there, .ref a_t_book, .ref a_t_now, .int t_meetings, .ref a_t_meeting, .int t_sights, .ref a_t_sight, .int t_signs, .ref a_t_pad, .int t_touched, .int t_firstTouch, .int t_reason, .int t_acts, .ref a_t_apart, .ref a_t_rounds, .ref a_t_fewest, .ref a_t_nextFewest, .ref a_t_ways, .ref a_t_nextWays, .ref a_t_counts, .ref a_t_image, .ref a_t_isKept])), (a_t_roads, .inl (cI, 12, .inl t_roads)), (a_t_sight, .inl (cI, 24, .inl t_sight)), (a_t_apart, .inl (cI, 144, .inl x13.2)), (a_t_counts, .inl (cI, 13, .inl l27t_counts))] H → va_D A [(a_t, .inr (10, [.ref a_t_roads, .int t_homes, .int t_there, .ref a_t_book, .ref a_t_now, .int t_meetings, .ref a_t_meeting, .int t_sights, .ref a_t_sight, .int t_signs, .ref a_t_pad, .int t_touched, .int t_firstTouch, .int t_reason, .int t_acts, .ref a_t_apart, .ref a_t_rounds, .ref a_t_fewest, .ref a_t_nextFewest, .ref a_t_ways, .ref a_t_nextWays, .ref a_t_counts, .ref a_t_image, .ref a_t_isKept])), (a_t_roads, .inl (cI, 12, .inl t_roads)), (a_t_sight, .inl (cI, 24, .inl t_sight)), (a_t_apart, .inl (cI, 144, .inl x13.2)), (a_t_counts, .inl (cI, 13, .inl l27t_counts))] → va_S A s.heap H locs → lv_has ls 9 [(0, .ref a_t), (1, .int p1), (2, .int x13.1), (3, .int l27v3), (4, .int l27v4), (5, .int l27v5)] → f_X10_ask_L27 x13 (f_X10_ask_X27 p1 x13) n27 l27v3 l27v4 l27v5 l27t_counts = some res → W p l e rm_X10_ask s m args below meth c H locs 0 0 Q (F0 m 27 ls []) := by
      intro n27
      induction n27 with
      | zero =>
        intro l27v3 l27v4 l27v5 l27t_counts H locs ls hP hD hS hl hf
        rw [f_X10_ask_L27] at hf
        cases hf
      | succ n27 ih27 =>
        intro l27v3 l27v4 l27v5 l27t_counts H locs ls hP hD hS hl hf
        rw [f_X10_ask_L27] at hf
        refine lv_iload hx hb dX10_ask_27 (lv_at hl 5 rfl) ?_
        refine lv_bipush (v := 12) hx hb dX10_ask_29 (by decide) ?_
        refine lv_icmp_ge (tgt := 201) hx hb dX10_ask_31 (by decide) (fun hc => ?_) (fun hc => ?_)
        · replace hf := (if_pos hc).symm.trans hf
          exact hX27 l27v3 l27v4 l27t_counts _ _ _ hP hD hS (lv_sub hl [1, 3, 4] rfl) hf
        · replace hf := (if_neg hc).symm.trans hf
          refine lv_iload_n hx hb dX10_ask_34 rfl (lv_at hl 2 rfl) ?_
          refine lv_if_eq (tgt := 201) hx hb dX10_ask_35 (by decide) (fun hc => ?_) (fun hc => ?_)
          · replace hf := (if_pos hc).symm.trans hf
            exact hX27 l27v3 l27v4 l27t_counts _ _ _ hP hD hS (lv_sub hl [1, 3, 4] rfl) hf
          · replace hf := (if_neg hc).symm.trans hf
            refine lv_iconst (v := 0) hx hb dX10_ask_38 (by decide) ?_
            refine lv_istore (lv' := [(6, .int (0 : Int32)), (0, .ref a_t), (1, .int p1), (2, .int x13.1), (3, .int l27v3), (4, .int l27v4), (5, .int l27v5)]) hx hb dX10_ask_39 hl (by decide) rfl (fun ls hl => ?_)
            refine lv_iconst (v := 0) hx hb dX10_ask_41 (by decide) ?_
            refine lv_istore (lv' := [(7, .int (0 : Int32)), (6, .int (0 : Int32)), (0, .ref a_t), (1, .int p1), (2, .int x13.1), (3, .int l27v3), (4, .int l27v4), (5, .int l27v5)]) hx hb dX10_ask_42 hl (by decide) rfl (fun ls hl => ?_)
            have hX44 : ∀ (x44t_counts : Nat → Int32) (H : Heap) (locs : List Loc) (ls : Array Slot), va_P D vwCl [(a_t, .inr (10, [.ref a_t_roads, .int t_homes, .int t_there, .ref a_t_book, .ref a_t_now, .int t_meetings, .ref a_t_meeting, .int t_sights, .ref a_t_sight, .int t_signs, .ref a_t_pad, .int t_touched, .int t_firstTouch, .int t_reason, .int t_acts, .ref a_t_apart, .ref a_t_rounds, .ref a_t_fewest, .ref a_t_nextFewest, .ref a_t_ways, .ref a_t_nextWays, .ref a_t_counts, .ref a_t_image, .ref a_t_isKept])), (a_t_roads, .inl (cI, 12, .inl t_roads)), (a_t_sight, .inl (cI, 24, .inl t_sight)), (a_t_apart, .inl (cI, 144, .inl x13.2)), (a_t_counts, .inl (cI, 13, .inl x44t_counts))] H → va_D A [(a_t, .inr (10, [.ref a_t_roads, .int t_homes, .int t_there, .ref a_t_book, .ref a_t_now, .int t_meetings, .ref a_t_meeting, .int t_sights, .ref a_t_sight, .int t_signs, .ref a_t_pad, .int t_touched, .int t_firstTouch, .int t_reason, .int t_acts, .ref a_t_apart, .ref a_t_rounds, .ref a_t_fewest, .ref a_t_nextFewest, .ref a_t_ways, .ref a_t_nextWays, .ref a_t_counts, .ref a_t_image, .ref a_t_isKept])), (a_t_roads, .inl (cI, 12, .inl t_roads)), (a_t_sight, .inl (cI, 24, .inl t_sight)), (a_t_apart, .inl (cI, 144, .inl x13.2)), (a_t_counts, .inl (cI, 13, .inl x44t_counts))] → va_S A s.heap H locs → lv_has ls 9 [(0, .ref a_t), (1, .int p1), (2, .int x13.1), (3, .int l27v3), (4, .int l27v4), (5, .int l27v5), (6, .int (0 : Int32))] → f_X10_ask_X44 x13 l27v3 l27v4 l27v5 (f_X10_ask_L27 x13 (f_X10_ask_X27 p1 x13) n27) x44t_counts = some res → W p l e rm_X10_ask s m args below meth c H locs 0 0 Q (F0 m 65 ls []) := by
              intro x44t_counts H locs ls hP hD hS hl hf
              rw [f_X10_ask_X44] at hf
              refine lv_iconst (v := 0) hx hb dX10_ask_65 (by decide) ?_
              refine lv_istore (lv' := [(7, .int (0 : Int32)), (0, .ref a_t), (1, .int p1), (2, .int x13.1), (3, .int l27v3), (4, .int l27v4), (5, .int l27v5), (6, .int (0 : Int32))]) hx hb dX10_ask_66 hl (by decide) rfl (fun ls hl => ?_)
              have hX68 : ∀ (x68v6 : Int32) (x68t_counts : Nat → Int32) (H : Heap) (locs : List Loc) (ls : Array Slot), va_P D vwCl [(a_t, .inr (10, [.ref a_t_roads, .int t_homes, .int t_there, .ref a_t_book, .ref a_t_now, .int t_meetings, .ref a_t_meeting, .int t_sights, .ref a_t_sight, .int t_signs, .ref a_t_pad, .int t_touched, .int t_firstTouch, .int t_reason, .int t_acts, .ref a_t_apart, .ref a_t_rounds, .ref a_t_fewest, .ref a_t_nextFewest, .ref a_t_ways, .ref a_t_nextWays, .ref a_t_counts, .ref a_t_image, .ref a_t_isKept])), (a_t_roads, .inl (cI, 12, .inl t_roads)), (a_t_sight, .inl (cI, 24, .inl t_sight)), (a_t_apart, .inl (cI, 144, .inl x13.2)), (a_t_counts, .inl (cI, 13, .inl x68t_counts))] H → va_D A [(a_t, .inr (10, [.ref a_t_roads, .int t_homes, .int t_there, .ref a_t_book, .ref a_t_now, .int t_meetings, .ref a_t_meeting, .int t_sights, .ref a_t_sight, .int t_signs, .ref a_t_pad, .int t_touched, .int t_firstTouch, .int t_reason, .int t_acts, .ref a_t_apart, .ref a_t_rounds, .ref a_t_fewest, .ref a_t_nextFewest, .ref a_t_ways, .ref a_t_nextWays, .ref a_t_counts, .ref a_t_image, .ref a_t_isKept])), (a_t_roads, .inl (cI, 12, .inl t_roads)), (a_t_sight, .inl (cI, 24, .inl t_sight)), (a_t_apart, .inl (cI, 144, .inl x13.2)), (a_t_counts, .inl (cI, 13, .inl x68t_counts))] → va_S A s.heap H locs → lv_has ls 9 [(0, .ref a_t), (1, .int p1), (2, .int x13.1), (3, .int l27v3), (4, .int l27v4), (5, .int l27v5), (6, .int x68v6)] → f_X10_ask_X68 l27v3 l27v4 l27v5 (f_X10_ask_L27 x13 (f_X10_ask_X27 p1 x13) n27) x68v6 x68t_counts = some res → W p l e rm_X10_ask s m args below meth c H locs 0 0 Q (F0 m 165 ls []) := by
                intro x68v6 x68t_counts H locs ls hP hD hS hl hf
                rw [f_X10_ask_X68] at hf
                refine lv_iload hx hb dX10_ask_165 (lv_at hl 6 rfl) ?_
                refine lv_iload hx hb dX10_ask_167 (lv_at hl 4 rfl) ?_
                have hB178 : ∀ (b178s0 : Int32) (H : Heap) (locs : List Loc) (ls : Array Slot), va_P D vwCl [(a_t, .inr (10, [.ref a_t_roads, .int t_homes, .int t_there, .ref a_t_book, .ref a_t_now, .int t_meetings, .ref a_t_meeting, .int t_sights, .ref a_t_sight, .int t_signs, .ref a_t_pad, .int t_touched, .int t_firstTouch, .int t_reason, .int t_acts, .ref a_t_apart, .ref a_t_rounds, .ref a_t_fewest, .ref a_t_nextFewest, .ref a_t_ways, .ref a_t_nextWays, .ref a_t_counts, .ref a_t_image, .ref a_t_isKept])), (a_t_roads, .inl (cI, 12, .inl t_roads)), (a_t_sight, .inl (cI, 24, .inl t_sight)), (a_t_apart, .inl (cI, 144, .inl x13.2)), (a_t_counts, .inl (cI, 13, .inl x68t_counts))] H → va_D A [(a_t, .inr (10, [.ref a_t_roads, .int t_homes, .int t_there, .ref a_t_book, .ref a_t_now, .int t_meetings, .ref a_t_meeting, .int t_sights, .ref a_t_sight, .int t_signs, .ref a_t_pad, .int t_touched, .int t_firstTouch, .int t_reason, .int t_acts, .ref a_t_apart, .ref a_t_rounds, .ref a_t_fewest, .ref a_t_nextFewest, .ref a_t_ways, .ref a_t_nextWays, .ref a_t_counts, .ref a_t_image, .ref a_t_isKept])), (a_t_roads, .inl (cI, 12, .inl t_roads)), (a_t_sight, .inl (cI, 24, .inl t_sight)), (a_t_apart, .inl (cI, 144, .inl x13.2)), (a_t_counts, .inl (cI, 13, .inl x68t_counts))] → va_S A s.heap H locs → lv_has ls 9 [(0, .ref a_t), (1, .int p1), (2, .int x13.1), (4, .int l27v4), (5, .int l27v5), (6, .int x68v6)] → f_X10_ask_B178 l27v4 l27v5 (f_X10_ask_L27 x13 (f_X10_ask_X27 p1 x13) n27) x68v6 x68t_counts b178s0 = some res → W p l e rm_X10_ask s m args below meth c H locs 0 0 Q (F0 m 178 ls [.int b178s0]) := by
                  intro b178s0 H locs ls hP hD hS hl hf
                  rw [f_X10_ask_B178] at hf
                  refine lv_istore_n (lv' := [(3, .int b178s0), (0, .ref a_t), (1, .int p1), (2, .int x13.1), (4, .int l27v4), (5, .int l27v5), (6, .int x68v6)]) hx hb dX10_ask_178 rfl hl (by decide) rfl (fun ls hl => ?_)
                  refine lv_iload hx hb dX10_ask_179 (lv_at hl 6 rfl) ?_
                  refine lv_iload hx hb dX10_ask_181 (lv_at hl 4 rfl) ?_
                  refine lv_icmp_ge (tgt := 191) hx hb dX10_ask_183 (by decide) (fun hc => ?_) (fun hc => ?_)
                  · replace hf := (if_pos hc).symm.trans hf
                    refine lv_iload hx hb dX10_ask_191 (lv_at hl 4 rfl) ?_
                    refine lv_istore (lv' := [(4, .int l27v4), (3, .int b178s0), (0, .ref a_t), (1, .int p1), (2, .int x13.1), (5, .int l27v5), (6, .int x68v6)]) hx hb dX10_ask_193 hl (by decide) rfl (fun ls hl => ?_)
                    refine lv_iinc (v := l27v5 + 1) (lv' := [(5, .int (l27v5 + 1)), (4, .int l27v4), (3, .int b178s0), (0, .ref a_t), (1, .int p1), (2, .int x13.1), (6, .int x68v6)]) hx hb dX10_ask_195 hl (k := 5) rfl rfl (by decide) rfl (fun ls hl => ?_)
                    refine lv_goto (tgt := 27) hx hb dX10_ask_198 (by decide) ?_
                    exact ih27 b178s0 l27v4 (l27v5 + 1) x68t_counts _ _ _ hP hD hS (lv_sub hl [3, 4, 5, 2, 1, 0] rfl) hf
                  · replace hf := (if_neg hc).symm.trans hf
                    refine lv_iload hx hb dX10_ask_186 (lv_at hl 6 rfl) ?_
                    refine lv_goto (tgt := 193) hx hb dX10_ask_188 (by decide) ?_
                    refine lv_istore (lv' := [(4, .int x68v6), (3, .int b178s0), (0, .ref a_t), (1, .int p1), (2, .int x13.1), (5, .int l27v5), (6, .int x68v6)]) hx hb dX10_ask_193 hl (by decide) rfl (fun ls hl => ?_)
                    refine lv_iinc (v := l27v5 + 1) (lv' := [(5, .int (l27v5 + 1)), (4, .int x68v6), (3, .int b178s0), (0, .ref a_t), (1, .int p1), (2, .int x13.1), (6, .int x68v6)]) hx hb dX10_ask_195 hl (k := 5) rfl rfl (by decide) rfl (fun ls hl => ?_)
                    refine lv_goto (tgt := 27) hx hb dX10_ask_198 (by decide) ?_
                    exact ih27 b178s0 x68v6 (l27v5 + 1) x68t_counts _ _ _ hP hD hS (lv_sub hl [3, 4, 5, 2, 1, 0] rfl) hf
                refine lv_icmp_ge (tgt := 177) hx hb dX10_ask_169 (by decide) (fun hc => ?_) (fun hc => ?_)
                · replace hf := (if_pos hc).symm.trans hf
                  refine lv_iload_n hx hb dX10_ask_177 rfl (lv_at hl 3 rfl) ?_
                  exact hB178 l27v3 _ _ _ hP hD hS (lv_sub hl [0, 1, 2, 4, 5, 6] rfl) hf
                · replace hf := (if_neg hc).symm.trans hf
                  refine lv_iload hx hb dX10_ask_172 (lv_at hl 5 rfl) ?_
                  refine lv_goto (tgt := 178) hx hb dX10_ask_174 (by decide) ?_
                  exact hB178 l27v5 _ _ _ hP hD hS (lv_sub hl [0, 1, 2, 4, 5, 6] rfl) hf
              have hL68 : ∀ (n68 : Nat), ∀ (l68v6 : Int32) (l68v7 : Int32) (l68t_counts : Nat → Int32) (H : Heap) (locs : List Loc) (ls : Array Slot), va_P D vwCl [(a_t, .inr (10, [.ref a_t_roads, .int t_homes, .int t_there, .ref a_t_book, .ref a_t_now, .int t_meetings, .ref a_t_meeting, .int t_sights, .ref a_t_sight, .int t_signs, .ref a_t_pad, .int t_touched, .int t_firstTouch, .int t_reason, .int t_acts, .ref a_t_apart, .ref a_t_rounds, .ref a_t_fewest, .ref a_t_nextFewest, .ref a_t_ways, .ref a_t_nextWays, .ref a_t_counts, .ref a_t_image, .ref a_t_isKept])), (a_t_roads, .inl (cI, 12, .inl t_roads)), (a_t_sight, .inl (cI, 24, .inl t_sight)), (a_t_apart, .inl (cI, 144, .inl x13.2)), (a_t_counts, .inl (cI, 13, .inl l68t_counts))] H → va_D A [(a_t, .inr (10, [.ref a_t_roads, .int t_homes, .int t_there, .ref a_t_book, .ref a_t_now, .int t_meetings, .ref a_t_meeting, .int t_sights, .ref a_t_sight, .int t_signs, .ref a_t_pad, .int t_touched, .int t_firstTouch, .int t_reason, .int t_acts, .ref a_t_apart, .ref a_t_rounds, .ref a_t_fewest, .ref a_t_nextFewest, .ref a_t_ways, .ref a_t_nextWays, .ref a_t_counts, .ref a_t_image, .ref a_t_isKept])), (a_t_roads, .inl (cI, 12, .inl t_roads)), (a_t_sight, .inl (cI, 24, .inl t_sight)), (a_t_apart, .inl (cI, 144, .inl x13.2)), (a_t_counts, .inl (cI, 13, .inl l68t_counts))] → va_S A s.heap H locs → lv_has ls 9 [(0, .ref a_t), (1, .int p1), (2, .int x13.1), (3, .int l27v3), (4, .int l27v4), (5, .int l27v5), (6, .int l68v6), (7, .int l68v7)] → f_X10_ask_L68 x13 l27v5 (f_X10_ask_X68 l27v3 l27v4 l27v5 (f_X10_ask_L27 x13 (f_X10_ask_X27 p1 x13) n27)) n68 l68v6 l68v7 l68t_counts = some res → W p l e rm_X10_ask s m args below meth c H locs 0 0 Q (F0 m 68 ls []) := by
                intro n68
                induction n68 with
                | zero =>
                  intro l68v6 l68v7 l68t_counts H locs ls hP hD hS hl hf
                  rw [f_X10_ask_L68] at hf
                  cases hf
                | succ n68 ih68 =>
                  intro l68v6 l68v7 l68t_counts H locs ls hP hD hS hl hf
                  rw [f_X10_ask_L68] at hf
                  refine lv_iload hx hb dX10_ask_68 (lv_at hl 7 rfl) ?_
                  refine lv_bipush (v := 12) hx hb dX10_ask_70 (by decide) ?_
                  refine lv_icmp_ge (tgt := 165) hx hb dX10_ask_72 (by decide) (fun hc => ?_) (fun hc => ?_)
                  · replace hf := (if_pos hc).symm.trans hf
                    exact hX68 l68v6 l68t_counts _ _ _ hP hD hS (lv_sub hl [0, 1, 2, 3, 4, 5, 6] rfl) hf
                  · replace hf := (if_neg hc).symm.trans hf
                    refine lv_iload_n hx hb dX10_ask_75 rfl (lv_at hl 2 rfl) ?_
                    refine lv_iload hx hb dX10_ask_76 (lv_at hl 7 rfl) ?_
                    obtain ⟨x78, hx78, hf⟩ := bd_if hf
                    refine cs_i (wr := [(a_t, .inr (10, [.ref a_t_roads, .int t_homes, .int t_there, .ref a_t_book, .ref a_t_now, .int t_meetings, .ref a_t_meeting, .int t_sights, .ref a_t_sight, .int t_signs, .ref a_t_pad, .int t_touched, .int t_firstTouch, .int t_reason, .int t_acts, .ref a_t_apart, .ref a_t_rounds, .ref a_t_fewest, .ref a_t_nextFewest, .ref a_t_ways, .ref a_t_nextWays, .ref a_t_counts, .ref a_t_image, .ref a_t_isKept])), (a_t_roads, .inl (cI, 12, .inl t_roads)), (a_t_sight, .inl (cI, 24, .inl t_sight)), (a_t_apart, .inl (cI, 144, .inl x13.2)), (a_t_counts, .inl (cI, 13, .inl l68t_counts))]) (ws' := [(a_t, .inr (10, [.ref a_t_roads, .int t_homes, .int t_there, .ref a_t_book, .ref a_t_now, .int t_meetings, .ref a_t_meeting, .int t_sights, .ref a_t_sight, .int t_signs, .ref a_t_pad, .int t_touched, .int t_firstTouch, .int t_reason, .int t_acts, .ref a_t_apart, .ref a_t_rounds, .ref a_t_fewest, .ref a_t_nextFewest, .ref a_t_ways, .ref a_t_nextWays, .ref a_t_counts, .ref a_t_image, .ref a_t_isKept])), (a_t_roads, .inl (cI, 12, .inl t_roads)), (a_t_sight, .inl (cI, 24, .inl t_sight)), (a_t_apart, .inl (cI, 144, .inl x13.2)), (a_t_counts, .inl (cI, 13, .inl l68t_counts))]) ⟨hx, hb, hml, hown, hts⟩ hcw69 hK hN hP hD hS hA (c_X10_has l D cI cJ cZ cO _ x13.1 l68v7 x78 hx78) [] [0, 1, 2, 3, 4] [0, 1, 2, 3, 4] rfl rfl rfl rfl (by decide) rfl rfl rfl hl.1 rfl (Nat.le_of_ble_eq_true rfl) dX10_ask_78 ⟨Nat.zero_le _, Nat.zero_le _⟩ (fun H locs hP hD hS => ?_)
                    refine lv_if_eq (tgt := 159) hx hb dX10_ask_81 (by decide) (fun hc => ?_) (fun hc => ?_)
                    · replace hf := (if_pos hc).symm.trans hf
                      refine lv_iinc (v := l68v7 + 1) (lv' := [(7, .int (l68v7 + 1)), (0, .ref a_t), (1, .int p1), (2, .int x13.1), (3, .int l27v3), (4, .int l27v4), (5, .int l27v5), (6, .int l68v6)]) hx hb dX10_ask_159 hl (k := 7) rfl rfl (by decide) rfl (fun ls hl => ?_)
                      refine lv_goto (tgt := 68) hx hb dX10_ask_162 (by decide) ?_
                      exact ih68 l68v6 (l68v7 + 1) l68t_counts _ _ _ hP hD hS (lv_sub hl [1, 2, 3, 4, 5, 6, 7, 0] rfl) hf
                    · replace hf := (if_neg hc).symm.trans hf
                      refine lv_aload_n hx hb dX10_ask_84 rfl (lv_at hl 0 rfl) ?_
                      refine va_get (D := D) (ci := 10) (v := .ref a_t_apart) (C := RX10) (T := TX10) (N := 24) hx hb hts hmsX10 hown hK hP 0 rfl rfl 15 (by decide) hw28 (fun _ h9 => h9) rfl dX10_ask_85 ?_
                      refine lv_bipush (v := 12) hx hb dX10_ask_88 (by decide) ?_
                      refine lv_iload hx hb dX10_ask_90 (lv_at hl 5 rfl) ?_
                      refine lv_imul hx hb dX10_ask_92 ?_
                      refine lv_iload hx hb dX10_ask_93 (lv_at hl 7 rfl) ?_
                      refine lv_iadd hx hb dX10_ask_95 ?_
                      obtain ⟨hi96, hf⟩ := ix_if hf
                      refine va_iald (D := D) hx hb hK hP 3 0 rfl rfl hi96 dX10_ask_96 ?_
                      refine lv_bipush (v := 12) hx hb dX10_ask_97 (by decide) ?_
                      have hB120 : ∀ (b120s0 : Int32) (H : Heap) (locs : List Loc) (ls : Array Slot), va_P D vwCl [(a_t, .inr (10, [.ref a_t_roads, .int t_homes, .int t_there, .ref a_t_book, .ref a_t_now, .int t_meetings, .ref a_t_meeting, .int t_sights, .ref a_t_sight, .int t_signs, .ref a_t_pad, .int t_touched, .int t_firstTouch, .int t_reason, .int t_acts, .ref a_t_apart, .ref a_t_rounds, .ref a_t_fewest, .ref a_t_nextFewest, .ref a_t_ways, .ref a_t_nextWays, .ref a_t_counts, .ref a_t_image, .ref a_t_isKept])), (a_t_roads, .inl (cI, 12, .inl t_roads)), (a_t_sight, .inl (cI, 24, .inl t_sight)), (a_t_apart, .inl (cI, 144, .inl x13.2)), (a_t_counts, .inl (cI, 13, .inl l68t_counts))] H → va_D A [(a_t, .inr (10, [.ref a_t_roads, .int t_homes, .int t_there, .ref a_t_book, .ref a_t_now, .int t_meetings, .ref a_t_meeting, .int t_sights, .ref a_t_sight, .int t_signs, .ref a_t_pad, .int t_touched, .int t_firstTouch, .int t_reason, .int t_acts, .ref a_t_apart, .ref a_t_rounds, .ref a_t_fewest, .ref a_t_nextFewest, .ref a_t_ways, .ref a_t_nextWays, .ref a_t_counts, .ref a_t_image, .ref a_t_isKept])), (a_t_roads, .inl (cI, 12, .inl t_roads)), (a_t_sight, .inl (cI, 24, .inl t_sight)), (a_t_apart, .inl (cI, 144, .inl x13.2)), (a_t_counts, .inl (cI, 13, .inl l68t_counts))] → va_S A s.heap H locs → lv_has ls 9 [(0, .ref a_t), (1, .int p1), (2, .int x13.1), (3, .int l27v3), (4, .int l27v4), (5, .int l27v5), (6, .int l68v6), (7, .int l68v7)] → f_X10_ask_B120 l68v6 l68v7 l68t_counts (f_X10_ask_L68 x13 l27v5 (f_X10_ask_X68 l27v3 l27v4 l27v5 (f_X10_ask_L27 x13 (f_X10_ask_X27 p1 x13) n27)) n68) b120s0 = some res → W p l e rm_X10_ask s m args below meth c H locs 0 0 Q (F0 m 120 ls [.int b120s0]) := by
                        intro b120s0 H locs ls hP hD hS hl hf
                        rw [f_X10_ask_B120] at hf
                        refine lv_istore (lv' := [(8, .int b120s0), (0, .ref a_t), (1, .int p1), (2, .int x13.1), (3, .int l27v3), (4, .int l27v4), (5, .int l27v5), (6, .int l68v6), (7, .int l68v7)]) hx hb dX10_ask_120 hl (by decide) rfl (fun ls hl => ?_)
                        refine lv_aload_n hx hb dX10_ask_122 rfl (lv_at hl 1 rfl) ?_
                        refine va_get (D := D) (ci := 10) (v := .ref a_t_counts) (C := RX10) (T := TX10) (N := 24) hx hb hts hmsX10 hown hK hP 0 rfl rfl 21 (by decide) hw47 (fun _ h9 => h9) rfl dX10_ask_123 ?_
                        refine lv_iload hx hb dX10_ask_126 (lv_at hl 0 rfl) ?_
                        refine lv_dup2_11 hx hb dX10_ask_128 rfl rfl ?_
                        obtain ⟨hi129, hf⟩ := ix_if hf
                        refine va_iald (D := D) hx hb hK hP 4 0 rfl rfl hi129 dX10_ask_129 ?_
                        refine lv_iconst (v := 1) hx hb dX10_ask_130 (by decide) ?_
                        refine lv_iadd hx hb dX10_ask_131 ?_
                        refine va_iast (D := D) hx hb hK hP hD hS 4 0 rfl rfl hi129 dX10_ask_132 (fun H locs hP hD hS => ?_)
                        replace hP : va_P D vwCl [(a_t, .inr (10, [.ref a_t_roads, .int t_homes, .int t_there, .ref a_t_book, .ref a_t_now, .int t_meetings, .ref a_t_meeting, .int t_sights, .ref a_t_sight, .int t_signs, .ref a_t_pad, .int t_touched, .int t_firstTouch, .int t_reason, .int t_acts, .ref a_t_apart, .ref a_t_rounds, .ref a_t_fewest, .ref a_t_nextFewest, .ref a_t_ways, .ref a_t_nextWays, .ref a_t_counts, .ref a_t_image, .ref a_t_isKept])), (a_t_roads, .inl (cI, 12, .inl t_roads)), (a_t_sight, .inl (cI, 24, .inl t_sight)), (a_t_apart, .inl (cI, 144, .inl x13.2)), (a_t_counts, .inl (cI, 13, .inl (upd l68t_counts b120s0.toNatClampNeg ((l68t_counts b120s0.toNatClampNeg) + (1 : Int32)))))] H := hP
                        replace hD : va_D A [(a_t, .inr (10, [.ref a_t_roads, .int t_homes, .int t_there, .ref a_t_book, .ref a_t_now, .int t_meetings, .ref a_t_meeting, .int t_sights, .ref a_t_sight, .int t_signs, .ref a_t_pad, .int t_touched, .int t_firstTouch, .int t_reason, .int t_acts, .ref a_t_apart, .ref a_t_rounds, .ref a_t_fewest, .ref a_t_nextFewest, .ref a_t_ways, .ref a_t_nextWays, .ref a_t_counts, .ref a_t_image, .ref a_t_isKept])), (a_t_roads, .inl (cI, 12, .inl t_roads)), (a_t_sight, .inl (cI, 24, .inl t_sight)), (a_t_apart, .inl (cI, 144, .inl x13.2)), (a_t_counts, .inl (cI, 13, .inl (upd l68t_counts b120s0.toNatClampNeg ((l68t_counts b120s0.toNatClampNeg) + (1 : Int32)))))] := hD
                        refine lv_aload_n hx hb dX10_ask_133 rfl (lv_at hl 1 rfl) ?_
                        refine va_get (D := D) (ci := 10) (v := .ref a_t_counts) (C := RX10) (T := TX10) (N := 24) hx hb hts hmsX10 hown hK hP 0 rfl rfl 21 (by decide) hw47 (fun _ h9 => h9) rfl dX10_ask_134 ?_
                        refine lv_iload hx hb dX10_ask_137 (lv_at hl 0 rfl) ?_
                        refine va_iald (D := D) hx hb hK hP 4 0 rfl rfl hi129 dX10_ask_139 ?_
                        refine lv_iload hx hb dX10_ask_140 (lv_at hl 7 rfl) ?_
                        refine lv_icmp_le (tgt := 155) hx hb dX10_ask_142 (by decide) (fun hc => ?_) (fun hc => ?_)
                        · replace hf := (if_pos hc).symm.trans hf
                          refine lv_iload hx hb dX10_ask_155 (lv_at hl 7 rfl) ?_
                          refine lv_istore (lv' := [(6, .int l68v6), (8, .int b120s0), (0, .ref a_t), (1, .int p1), (2, .int x13.1), (3, .int l27v3), (4, .int l27v4), (5, .int l27v5), (7, .int l68v7)]) hx hb dX10_ask_157 hl (by decide) rfl (fun ls hl => ?_)
                          refine lv_iinc (v := l68v7 + 1) (lv' := [(7, .int (l68v7 + 1)), (6, .int l68v6), (8, .int b120s0), (0, .ref a_t), (1, .int p1), (2, .int x13.1), (3, .int l27v3), (4, .int l27v4), (5, .int l27v5)]) hx hb dX10_ask_159 hl (k := 8) rfl rfl (by decide) rfl (fun ls hl => ?_)
                          refine lv_goto (tgt := 68) hx hb dX10_ask_162 (by decide) ?_
                          exact ih68 l68v6 (l68v7 + 1) (upd l68t_counts b120s0.toNatClampNeg ((l68t_counts b120s0.toNatClampNeg) + (1 : Int32))) _ _ _ hP hD hS (lv_sub hl [3, 4, 5, 6, 7, 8, 1, 0] rfl) hf
                        · replace hf := (if_neg hc).symm.trans hf
                          refine lv_aload_n hx hb dX10_ask_145 rfl (lv_at hl 1 rfl) ?_
                          refine va_get (D := D) (ci := 10) (v := .ref a_t_counts) (C := RX10) (T := TX10) (N := 24) hx hb hts hmsX10 hown hK hP 0 rfl rfl 21 (by decide) hw47 (fun _ h9 => h9) rfl dX10_ask_146 ?_
                          refine lv_iload hx hb dX10_ask_149 (lv_at hl 0 rfl) ?_
                          refine va_iald (D := D) hx hb hK hP 4 0 rfl rfl hi129 dX10_ask_151 ?_
                          refine lv_goto (tgt := 157) hx hb dX10_ask_152 (by decide) ?_
                          refine lv_istore (lv' := [(6, .int ((upd l68t_counts b120s0.toNatClampNeg ((l68t_counts b120s0.toNatClampNeg) + (1 : Int32))) b120s0.toNatClampNeg)), (8, .int b120s0), (0, .ref a_t), (1, .int p1), (2, .int x13.1), (3, .int l27v3), (4, .int l27v4), (5, .int l27v5), (7, .int l68v7)]) hx hb dX10_ask_157 hl (by decide) rfl (fun ls hl => ?_)
                          refine lv_iinc (v := l68v7 + 1) (lv' := [(7, .int (l68v7 + 1)), (6, .int ((upd l68t_counts b120s0.toNatClampNeg ((l68t_counts b120s0.toNatClampNeg) + (1 : Int32))) b120s0.toNatClampNeg)), (8, .int b120s0), (0, .ref a_t), (1, .int p1), (2, .int x13.1), (3, .int l27v3), (4, .int l27v4), (5, .int l27v5)]) hx hb dX10_ask_159 hl (k := 8) rfl rfl (by decide) rfl (fun ls hl => ?_)
                          refine lv_goto (tgt := 68) hx hb dX10_ask_162 (by decide) ?_
                          exact ih68 ((upd l68t_counts b120s0.toNatClampNeg ((l68t_counts b120s0.toNatClampNeg) + (1 : Int32))) b120s0.toNatClampNeg) (l68v7 + 1) (upd l68t_counts b120s0.toNatClampNeg ((l68t_counts b120s0.toNatClampNeg) + (1 : Int32))) _ _ _ hP hD hS (lv_sub hl [3, 4, 5, 6, 7, 8, 1, 0] rfl) hf
                      refine lv_icmp_ge (tgt := 118) hx hb dX10_ask_99 (by decide) (fun hc => ?_) (fun hc => ?_)
                      · replace hf := (if_pos hc).symm.trans hf
                        refine lv_bipush (v := 12) hx hb dX10_ask_118 (by decide) ?_
                        exact hB120 (12 : Int32) _ _ _ hP hD hS (lv_sub hl [0, 1, 2, 3, 4, 5, 6, 7] rfl) hf
                      · replace hf := (if_neg hc).symm.trans hf
                        refine lv_aload_n hx hb dX10_ask_102 rfl (lv_at hl 0 rfl) ?_
                        refine va_get (D := D) (ci := 10) (v := .ref a_t_apart) (C := RX10) (T := TX10) (N := 24) hx hb hts hmsX10 hown hK hP 0 rfl rfl 15 (by decide) hw28 (fun _ h9 => h9) rfl dX10_ask_103 ?_
                        refine lv_bipush (v := 12) hx hb dX10_ask_106 (by decide) ?_
                        refine lv_iload hx hb dX10_ask_108 (lv_at hl 5 rfl) ?_
                        refine lv_imul hx hb dX10_ask_110 ?_
                        refine lv_iload hx hb dX10_ask_111 (lv_at hl 7 rfl) ?_
                        refine lv_iadd hx hb dX10_ask_113 ?_
                        refine va_iald (D := D) hx hb hK hP 3 0 rfl rfl hi96 dX10_ask_114 ?_
                        refine lv_goto (tgt := 120) hx hb dX10_ask_115 (by decide) ?_
                        exact hB120 (x13.2 (((12 : Int32) * l27v5) + l68v7).toNatClampNeg) _ _ _ hP hD hS (lv_sub hl [0, 1, 2, 3, 4, 5, 6, 7] rfl) hf
              exact hL68 5000 (0 : Int32) (0 : Int32) x44t_counts _ _ _ hP hD hS (lv_sub hl [1, 2, 3, 4, 5, 6, 7, 0] rfl) hf
            have hL44 : ∀ (n44 : Nat), ∀ (l44v7 : Int32) (l44t_counts : Nat → Int32) (H : Heap) (locs : List Loc) (ls : Array Slot), va_P D vwCl [(a_t, .inr (10, [.ref a_t_roads, .int t_homes, .int t_there, .ref a_t_book, .ref a_t_now, .int t_meetings, .ref a_t_meeting, .int t_sights, .ref a_t_sight, .int t_signs, .ref a_t_pad, .int t_touched, .int t_firstTouch, .int t_reason, .int t_acts, .ref a_t_apart, .ref a_t_rounds, .ref a_t_fewest, .ref a_t_nextFewest, .ref a_t_ways, .ref a_t_nextWays, .ref a_t_counts, .ref a_t_image, .ref a_t_isKept])), (a_t_roads, .inl (cI, 12, .inl t_roads)), (a_t_sight, .inl (cI, 24, .inl t_sight)), (a_t_apart, .inl (cI, 144, .inl x13.2)), (a_t_counts, .inl (cI, 13, .inl l44t_counts))] H → va_D A [(a_t, .inr (10, [.ref a_t_roads, .int t_homes, .int t_there, .ref a_t_book, .ref a_t_now, .int t_meetings, .ref a_t_meeting, .int t_sights, .ref a_t_sight, .int t_signs, .ref a_t_pad, .int t_touched, .int t_firstTouch, .int t_reason, .int t_acts, .ref a_t_apart, .ref a_t_rounds, .ref a_t_fewest, .ref a_t_nextFewest, .ref a_t_ways, .ref a_t_nextWays, .ref a_t_counts, .ref a_t_image, .ref a_t_isKept])), (a_t_roads, .inl (cI, 12, .inl t_roads)), (a_t_sight, .inl (cI, 24, .inl t_sight)), (a_t_apart, .inl (cI, 144, .inl x13.2)), (a_t_counts, .inl (cI, 13, .inl l44t_counts))] → va_S A s.heap H locs → lv_has ls 9 [(0, .ref a_t), (1, .int p1), (2, .int x13.1), (3, .int l27v3), (4, .int l27v4), (5, .int l27v5), (6, .int (0 : Int32)), (7, .int l44v7)] → f_X10_ask_L44 (f_X10_ask_X44 x13 l27v3 l27v4 l27v5 (f_X10_ask_L27 x13 (f_X10_ask_X27 p1 x13) n27)) n44 l44v7 l44t_counts = some res → W p l e rm_X10_ask s m args below meth c H locs 0 0 Q (F0 m 44 ls []) := by
              intro n44
              induction n44 with
              | zero =>
                intro l44v7 l44t_counts H locs ls hP hD hS hl hf
                rw [f_X10_ask_L44] at hf
                cases hf
              | succ n44 ih44 =>
                intro l44v7 l44t_counts H locs ls hP hD hS hl hf
                rw [f_X10_ask_L44] at hf
                refine lv_iload hx hb dX10_ask_44 (lv_at hl 7 rfl) ?_
                refine lv_bipush (v := 13) hx hb dX10_ask_46 (by decide) ?_
                refine lv_icmp_ge (tgt := 65) hx hb dX10_ask_48 (by decide) (fun hc => ?_) (fun hc => ?_)
                · replace hf := (if_pos hc).symm.trans hf
                  exact hX44 l44t_counts _ _ _ hP hD hS (lv_sub hl [0, 1, 2, 3, 4, 5, 6] rfl) hf
                · replace hf := (if_neg hc).symm.trans hf
                  refine lv_aload_n hx hb dX10_ask_51 rfl (lv_at hl 0 rfl) ?_
                  refine va_get (D := D) (ci := 10) (v := .ref a_t_counts) (C := RX10) (T := TX10) (N := 24) hx hb hts hmsX10 hown hK hP 0 rfl rfl 21 (by decide) hw47 (fun _ h9 => h9) rfl dX10_ask_52 ?_
                  refine lv_iload hx hb dX10_ask_55 (lv_at hl 7 rfl) ?_
                  refine lv_iconst (v := 0) hx hb dX10_ask_57 (by decide) ?_
                  obtain ⟨hi58, hf⟩ := ix_if hf
                  refine va_iast (D := D) hx hb hK hP hD hS 4 0 rfl rfl hi58 dX10_ask_58 (fun H locs hP hD hS => ?_)
                  replace hP : va_P D vwCl [(a_t, .inr (10, [.ref a_t_roads, .int t_homes, .int t_there, .ref a_t_book, .ref a_t_now, .int t_meetings, .ref a_t_meeting, .int t_sights, .ref a_t_sight, .int t_signs, .ref a_t_pad, .int t_touched, .int t_firstTouch, .int t_reason, .int t_acts, .ref a_t_apart, .ref a_t_rounds, .ref a_t_fewest, .ref a_t_nextFewest, .ref a_t_ways, .ref a_t_nextWays, .ref a_t_counts, .ref a_t_image, .ref a_t_isKept])), (a_t_roads, .inl (cI, 12, .inl t_roads)), (a_t_sight, .inl (cI, 24, .inl t_sight)), (a_t_apart, .inl (cI, 144, .inl x13.2)), (a_t_counts, .inl (cI, 13, .inl (upd l44t_counts l44v7.toNatClampNeg (0 : Int32))))] H := hP
                  replace hD : va_D A [(a_t, .inr (10, [.ref a_t_roads, .int t_homes, .int t_there, .ref a_t_book, .ref a_t_now, .int t_meetings, .ref a_t_meeting, .int t_sights, .ref a_t_sight, .int t_signs, .ref a_t_pad, .int t_touched, .int t_firstTouch, .int t_reason, .int t_acts, .ref a_t_apart, .ref a_t_rounds, .ref a_t_fewest, .ref a_t_nextFewest, .ref a_t_ways, .ref a_t_nextWays, .ref a_t_counts, .ref a_t_image, .ref a_t_isKept])), (a_t_roads, .inl (cI, 12, .inl t_roads)), (a_t_sight, .inl (cI, 24, .inl t_sight)), (a_t_apart, .inl (cI, 144, .inl x13.2)), (a_t_counts, .inl (cI, 13, .inl (upd l44t_counts l44v7.toNatClampNeg (0 : Int32))))] := hD
                  refine lv_iinc (v := l44v7 + 1) (lv' := [(7, .int (l44v7 + 1)), (0, .ref a_t), (1, .int p1), (2, .int x13.1), (3, .int l27v3), (4, .int l27v4), (5, .int l27v5), (6, .int (0 : Int32))]) hx hb dX10_ask_59 hl (k := 7) rfl rfl (by decide) rfl (fun ls hl => ?_)
                  refine lv_goto (tgt := 44) hx hb dX10_ask_62 (by decide) ?_
                  exact ih44 (l44v7 + 1) (upd l44t_counts l44v7.toNatClampNeg (0 : Int32)) _ _ _ hP hD hS (lv_sub hl [1, 2, 3, 4, 5, 6, 7, 0] rfl) hf
            exact hL44 5000 (0 : Int32) l27t_counts _ _ _ hP hD hS (lv_sub hl [2, 3, 4, 5, 6, 7, 1, 0] rfl) hf
    exact hL27 5000 (-6 : Int32) (1000000 : Int32) (0 : Int32) t_counts _ _ _ hP hD hS (lv_sub hl [4, 5, 3, 2, 1, 0] rfl) hf
  · replace hf := (if_pos hc).symm.trans hf
    refine lv_bipush (v := -2) hx hb dX10_ask_9 (by decide) ?_
    obtain rfl := Option.some.inj hf
    exact fin _ _ _ _ dX10_ask_11 hP hD hS
abbrev rm_X10_year : Room := { frames := 4, cells := 0, slots := 0, locals := 85 }
theorem ms_X10_year_X10 : ∀ w ∈ u_ws RX10 TX10 24, w ∈ wsX10_year := fun w h => List.mem_cons_of_mem _ (List.mem_append_right _ (h))
set_option maxHeartbeats 4000000 in
set_option maxRecDepth 100000 in
theorem c_X10_year (l : Launch) (D : va_G) (cI cJ cZ cO : ClassId) (sz : Nat) (a_t : Nat) (a_t_roads : Nat) (a_t_book : Nat) (a_t_now : Nat) (a_t_meeting : Nat) (a_t_sight : Nat) (a_t_pad : Nat) (a_t_apart : Nat) (a_t_rounds : Nat) (a_t_fewest : Nat) (a_t_nextFewest : Nat) (a_t_ways : Nat) (a_t_nextWays : Nat) (a_t_counts : Nat) (a_t_image : Nat) (a_t_isKept : Nat) (t_homes : Int32) (t_there : Int32) (t_meetings : Int32) (t_sights : Int32) (t_signs : Int32) (t_touched : Int32) (t_firstTouch : Int32) (t_reason : Int32) (t_acts : Int32) (t_roads : Nat → Int32) (t_book : Nat → Int32) (t_now : Nat → Int32) (p1 : Int32) (p2 : Int32) (p3 : Int32) (res : Int32 × Int32 × Int32 × (Nat → Int32)) (hf : f_X10_year t_homes t_there t_touched t_firstTouch t_roads t_book t_now p1 p2 p3 = some res) : MetI l yX10_year wsX10_year rm_X10_year [.ref a_t, .int p1, .int p2, .int p3] D (tys4 cI cJ cZ cO) [(a_t, .inr (10, [.ref a_t_roads, .int t_homes, .int t_there, .ref a_t_book, .ref a_t_now, .int t_meetings, .ref a_t_meeting, .int t_sights, .ref a_t_sight, .int t_signs, .ref a_t_pad, .int t_touched, .int t_firstTouch, .int t_reason, .int t_acts, .ref a_t_apart, .ref a_t_rounds, .ref a_t_fewest, .ref a_t_nextFewest, .ref a_t_ways, .ref a_t_nextWays, .ref a_t_counts, .ref a_t_image, .ref a_t_isKept])), (a_t_roads, .inl (cI, 12, .inl t_roads)), (a_t_book, .inl (cI, 25, .inl t_book)), (a_t_now, .inl (cI, 25, .inl t_now))] sz res.1 [(a_t, .inr (10, [.ref a_t_roads, .int t_homes, .int t_there, .ref a_t_book, .ref a_t_now, .int t_meetings, .ref a_t_meeting, .int t_sights, .ref a_t_sight, .int t_signs, .ref a_t_pad, .int res.2.1, .int res.2.2.1, .int t_reason, .int t_acts, .ref a_t_apart, .ref a_t_rounds, .ref a_t_fewest, .ref a_t_nextFewest, .ref a_t_ways, .ref a_t_nextWays, .ref a_t_counts, .ref a_t_image, .ref a_t_isKept])), (a_t_roads, .inl (cI, 12, .inl t_roads)), (a_t_book, .inl (cI, 25, .inl t_book)), (a_t_now, .inl (cI, 25, .inl res.2.2.2))] := by
  refine met_i (cc := cX10_year) (maxL := 8) (by decide) rfl (Nat.le_of_ble_eq_true rfl) ?_
  intro p e s m args below meth c Q A hx hb hml hown hts hK hN hA fin H locs ls hP hD hS hl
  replace hown : s.vm.findClass RX10 = some m.cls := hown
  replace hl : lv_has ls 8 [(0, .ref a_t), (1, .int p1), (2, .int p2), (3, .int p3)] := hl
  rw [f_X10_year] at hf
  have hcw57 := va_cwS (R := rm_X10_year) (rm := rm_X10_in) 3 hts gX10_year_X10_in rfl rfl rfl (by decide +kernel) ⟨Nat.le_of_ble_eq_true rfl, Nat.le_of_ble_eq_true rfl⟩
  have hcw102 := cwV (R := rm_X10_year) (rm := rm_X10_asNow) 0 hts gX10_year_X10_asNow rfl rfl rfl (by decide +kernel) ⟨Nat.le_of_ble_eq_true rfl, Nat.le_of_ble_eq_true rfl⟩
  have hw16 := hts (.fieldLink RX10 16 "TouchReignModel" "now" "[I") (by decide +kernel)
  have hmsX10 := ms_X10_year_X10
  have hw96 := hts (.fieldLink RX10 96 "TouchReignModel" "touched" "I") (by decide +kernel)
  have hw65 := hts (.fieldLink RX10 65 "TouchReignModel" "there" "I") (by decide +kernel)
  have hcw69 := va_cwS (R := rm_X10_year) (rm := rm_X10_has) 2 hts gX10_year_X10_has rfl rfl rfl (by decide +kernel) ⟨Nat.le_of_ble_eq_true rfl, Nat.le_of_ble_eq_true rfl⟩
  have hc171 := hts (.constant RX10 171 (65537)) (by decide +kernel)
  have hcw108 := cwV (R := rm_X10_year) (rm := rm_X10_minute) 0 hts gX10_year_X10_minute rfl rfl rfl (by decide +kernel) ⟨Nat.le_of_ble_eq_true rfl, Nat.le_of_ble_eq_true rfl⟩
  have hcw121 := cwV (R := rm_X10_year) (rm := rm_X10_cross) 1 hts gX10_year_X10_cross rfl rfl rfl (by decide +kernel) ⟨Nat.le_of_ble_eq_true rfl, Nat.le_of_ble_eq_true rfl⟩
  have hcw118 := cwV (R := rm_X10_year) (rm := rm_X10_rest) 1 hts gX10_year_X10_rest rfl rfl rfl (by decide +kernel) ⟨Nat.le_of_ble_eq_true rfl, Nat.le_of_ble_eq_true rfl⟩
  have hcw114 := cwV (R := rm_X10_year) (rm := rm_X10_touch) 2 hts gX10_year_X10_touch rfl rfl rfl (by decide +kernel) ⟨Nat.le_of_ble_eq_true rfl, Nat.le_of_ble_eq_true rfl⟩
  have hcw124 := cwV (R := rm_X10_year) (rm := rm_X10_run) 2 hts gX10_year_X10_run rfl rfl rfl (by decide +kernel) ⟨Nat.le_of_ble_eq_true rfl, Nat.le_of_ble_eq_true rfl⟩
  refine lv_iload_n hx hb dX10_year_0 rfl (lv_at hl 1 rfl) ?_
  refine lv_iconst (v := 0) hx hb dX10_year_1 (by decide) ?_
  refine lv_sipush (v := 9999) hx hb dX10_year_2 (by decide) ?_
  obtain ⟨x5, hx5, hf⟩ := bd_if hf
  refine cs_i (wr := [(a_t, .inr (10, [.ref a_t_roads, .int t_homes, .int t_there, .ref a_t_book, .ref a_t_now, .int t_meetings, .ref a_t_meeting, .int t_sights, .ref a_t_sight, .int t_signs, .ref a_t_pad, .int t_touched, .int t_firstTouch, .int t_reason, .int t_acts, .ref a_t_apart, .ref a_t_rounds, .ref a_t_fewest, .ref a_t_nextFewest, .ref a_t_ways, .ref a_t_nextWays, .ref a_t_counts, .ref a_t_image, .ref a_t_isKept])), (a_t_roads, .inl (cI, 12, .inl t_roads)), (a_t_book, .inl (cI, 25, .inl t_book)), (a_t_now, .inl (cI, 25, .inl t_now))]) (ws' := [(a_t, .inr (10, [.ref a_t_roads, .int t_homes, .int t_there, .ref a_t_book, .ref a_t_now, .int t_meetings, .ref a_t_meeting, .int t_sights, .ref a_t_sight, .int t_signs, .ref a_t_pad, .int t_touched, .int t_firstTouch, .int t_reason, .int t_acts, .ref a_t_apart, .ref a_t_rounds, .ref a_t_fewest, .ref a_t_nextFewest, .ref a_t_ways, .ref a_t_nextWays, .ref a_t_counts, .ref a_t_image, .ref a_t_isKept])), (a_t_roads, .inl (cI, 12, .inl t_roads)), (a_t_book, .inl (cI, 25, .inl t_book)), (a_t_now, .inl (cI, 25, .inl t_now))]) ⟨hx, hb, hml, hown, hts⟩ hcw57 hK hN hP hD hS hA (c_X10_in l D cI cJ cZ cO _ p1 (0 : Int32) (9999 : Int32) x5 hx5) [] [0, 1, 2, 3] [0, 1, 2, 3] rfl rfl rfl rfl (by decide) rfl rfl rfl hl.1 rfl (Nat.le_of_ble_eq_true rfl) dX10_year_5 ⟨Nat.zero_le _, Nat.zero_le _⟩ (fun H locs hP hD hS => ?_)
  refine lv_if_eq (tgt := 30) hx hb dX10_year_8 (by decide) (fun hc => ?_) (fun hc => ?_)
  · replace hf := (if_pos hc).symm.trans hf
    refine lv_bipush (v := -2) hx hb dX10_year_30 (by decide) ?_
    obtain rfl := Option.some.inj hf
    exact fin _ _ _ _ dX10_year_32 hP hD hS
  · replace hf := (if_neg hc).symm.trans hf
    refine lv_iload_n hx hb dX10_year_11 rfl (lv_at hl 2 rfl) ?_
    refine lv_iconst (v := 1) hx hb dX10_year_12 (by decide) ?_
    refine lv_bipush (v := 99) hx hb dX10_year_13 (by decide) ?_
    obtain ⟨x15, hx15, hf⟩ := bd_if hf
    refine cs_i (wr := [(a_t, .inr (10, [.ref a_t_roads, .int t_homes, .int t_there, .ref a_t_book, .ref a_t_now, .int t_meetings, .ref a_t_meeting, .int t_sights, .ref a_t_sight, .int t_signs, .ref a_t_pad, .int t_touched, .int t_firstTouch, .int t_reason, .int t_acts, .ref a_t_apart, .ref a_t_rounds, .ref a_t_fewest, .ref a_t_nextFewest, .ref a_t_ways, .ref a_t_nextWays, .ref a_t_counts, .ref a_t_image, .ref a_t_isKept])), (a_t_roads, .inl (cI, 12, .inl t_roads)), (a_t_book, .inl (cI, 25, .inl t_book)), (a_t_now, .inl (cI, 25, .inl t_now))]) (ws' := [(a_t, .inr (10, [.ref a_t_roads, .int t_homes, .int t_there, .ref a_t_book, .ref a_t_now, .int t_meetings, .ref a_t_meeting, .int t_sights, .ref a_t_sight, .int t_signs, .ref a_t_pad, .int t_touched, .int t_firstTouch, .int t_reason, .int t_acts, .ref a_t_apart, .ref a_t_rounds, .ref a_t_fewest, .ref a_t_nextFewest, .ref a_t_ways, .ref a_t_nextWays, .ref a_t_counts, .ref a_t_image, .ref a_t_isKept])), (a_t_roads, .inl (cI, 12, .inl t_roads)), (a_t_book, .inl (cI, 25, .inl t_book)), (a_t_now, .inl (cI, 25, .inl t_now))]) ⟨hx, hb, hml, hown, hts⟩ hcw57 hK hN hP hD hS hA (c_X10_in l D cI cJ cZ cO _ p2 (1 : Int32) (99 : Int32) x15 hx15) [] [0, 1, 2, 3] [0, 1, 2, 3] rfl rfl rfl rfl (by decide) rfl rfl rfl hl.1 rfl (Nat.le_of_ble_eq_true rfl) dX10_year_15 ⟨Nat.zero_le _, Nat.zero_le _⟩ (fun H locs hP hD hS => ?_)
    refine lv_if_eq (tgt := 30) hx hb dX10_year_18 (by decide) (fun hc => ?_) (fun hc => ?_)
    · replace hf := (if_pos hc).symm.trans hf
      refine lv_bipush (v := -2) hx hb dX10_year_30 (by decide) ?_
      obtain rfl := Option.some.inj hf
      exact fin _ _ _ _ dX10_year_32 hP hD hS
    · replace hf := (if_neg hc).symm.trans hf
      refine lv_iload_n hx hb dX10_year_21 rfl (lv_at hl 3 rfl) ?_
      refine lv_iconst (v := 0) hx hb dX10_year_22 (by decide) ?_
      refine lv_iconst (v := 2) hx hb dX10_year_23 (by decide) ?_
      obtain ⟨x24, hx24, hf⟩ := bd_if hf
      refine cs_i (wr := [(a_t, .inr (10, [.ref a_t_roads, .int t_homes, .int t_there, .ref a_t_book, .ref a_t_now, .int t_meetings, .ref a_t_meeting, .int t_sights, .ref a_t_sight, .int t_signs, .ref a_t_pad, .int t_touched, .int t_firstTouch, .int t_reason, .int t_acts, .ref a_t_apart, .ref a_t_rounds, .ref a_t_fewest, .ref a_t_nextFewest, .ref a_t_ways, .ref a_t_nextWays, .ref a_t_counts, .ref a_t_image, .ref a_t_isKept])), (a_t_roads, .inl (cI, 12, .inl t_roads)), (a_t_book, .inl (cI, 25, .inl t_book)), (a_t_now, .inl (cI, 25, .inl t_now))]) (ws' := [(a_t, .inr (10, [.ref a_t_roads, .int t_homes, .int t_there, .ref a_t_book, .ref a_t_now, .int t_meetings, .ref a_t_meeting, .int t_sights, .ref a_t_sight, .int t_signs, .ref a_t_pad, .int t_touched, .int t_firstTouch, .int t_reason, .int t_acts, .ref a_t_apart, .ref a_t_rounds, .ref a_t_fewest, .ref a_t_nextFewest, .ref a_t_ways, .ref a_t_nextWays, .ref a_t_counts, .ref a_t_image, .ref a_t_isKept])), (a_t_roads, .inl (cI, 12, .inl t_roads)), (a_t_book, .inl (cI, 25, .inl t_book)), (a_t_now, .inl (cI, 25, .inl t_now))]) ⟨hx, hb, hml, hown, hts⟩ hcw57 hK hN hP hD hS hA (c_X10_in l D cI cJ cZ cO _ p3 (0 : Int32) (2 : Int32) x24 hx24) [] [0, 1, 2, 3] [0, 1, 2, 3] rfl rfl rfl rfl (by decide) rfl rfl rfl hl.1 rfl (Nat.le_of_ble_eq_true rfl) dX10_year_24 ⟨Nat.zero_le _, Nat.zero_le _⟩ (fun H locs hP hD hS => ?_)
      refine lv_if_ne (tgt := 33) hx hb dX10_year_27 (by decide) (fun hc => ?_) (fun hc => ?_)
      · replace hf := (if_neg hc).symm.trans hf
        refine lv_aload_n hx hb dX10_year_33 rfl (lv_at hl 0 rfl) ?_
        obtain ⟨x34, hx34, hf⟩ := bd_if hf
        refine cv_v (wr := [(a_t_roads, .inl (cI, 12, .inl t_roads))]) (ws' := [(a_t, .inr (10, [.ref a_t_roads, .int t_homes, .int t_there, .ref a_t_book, .ref a_t_now, .int t_meetings, .ref a_t_meeting, .int t_sights, .ref a_t_sight, .int t_signs, .ref a_t_pad, .int x34.1, .int x34.2.1, .int t_reason, .int t_acts, .ref a_t_apart, .ref a_t_rounds, .ref a_t_fewest, .ref a_t_nextFewest, .ref a_t_ways, .ref a_t_nextWays, .ref a_t_counts, .ref a_t_image, .ref a_t_isKept])), (a_t_roads, .inl (cI, 12, .inl t_roads)), (a_t_book, .inl (cI, 25, .inl t_book)), (a_t_now, .inl (cI, 25, .inl x34.2.2))]) ⟨hx, hb, hml, hown, hts⟩ hcw102 hK hN hP hD hS hA (c_X10_asNow l D cI cJ cZ cO _ a_t a_t_roads a_t_book a_t_now a_t_meeting a_t_sight a_t_pad a_t_apart a_t_rounds a_t_fewest a_t_nextFewest a_t_ways a_t_nextWays a_t_counts a_t_image a_t_isKept t_homes t_there t_meetings t_sights t_signs t_touched t_firstTouch t_reason t_acts t_book t_now x34 hx34) (q := (RX10, TX10, 24)) (ci := 10) (q0 := 0) rfl rfl [0, 2, 3] [1] [1, 0, 2, 3] rfl rfl rfl rfl (by decide) rfl rfl rfl hl.1 rfl (Nat.le_of_ble_eq_true rfl) dX10_year_34 ⟨Nat.zero_le _, Nat.zero_le _⟩ (fun H locs hP hD hS => ?_)
        refine lv_iload_n hx hb dX10_year_37 rfl (lv_at hl 1 rfl) ?_
        refine lv_istore (lv' := [(4, .int p1), (0, .ref a_t), (1, .int p1), (2, .int p2), (3, .int p3)]) hx hb dX10_year_38 hl (by decide) rfl (fun ls hl => ?_)
        refine lv_iconst (v := 0) hx hb dX10_year_40 (by decide) ?_
        refine lv_istore (lv' := [(5, .int (0 : Int32)), (4, .int p1), (0, .ref a_t), (1, .int p1), (2, .int p2), (3, .int p3)]) hx hb dX10_year_41 hl (by decide) rfl (fun ls hl => ?_)
        have hX43 : ∀ (x43t_touched : Int32) (x43t_now : Nat → Int32) (H : Heap) (locs : List Loc) (ls : Array Slot), va_P D vwCl [(a_t, .inr (10, [.ref a_t_roads, .int t_homes, .int t_there, .ref a_t_book, .ref a_t_now, .int t_meetings, .ref a_t_meeting, .int t_sights, .ref a_t_sight, .int t_signs, .ref a_t_pad, .int x43t_touched, .int x34.2.1, .int t_reason, .int t_acts, .ref a_t_apart, .ref a_t_rounds, .ref a_t_fewest, .ref a_t_nextFewest, .ref a_t_ways, .ref a_t_nextWays, .ref a_t_counts, .ref a_t_image, .ref a_t_isKept])), (a_t_roads, .inl (cI, 12, .inl t_roads)), (a_t_book, .inl (cI, 25, .inl t_book)), (a_t_now, .inl (cI, 25, .inl x43t_now))] H → va_D A [(a_t, .inr (10, [.ref a_t_roads, .int t_homes, .int t_there, .ref a_t_book, .ref a_t_now, .int t_meetings, .ref a_t_meeting, .int t_sights, .ref a_t_sight, .int t_signs, .ref a_t_pad, .int x43t_touched, .int x34.2.1, .int t_reason, .int t_acts, .ref a_t_apart, .ref a_t_rounds, .ref a_t_fewest, .ref a_t_nextFewest, .ref a_t_ways, .ref a_t_nextWays, .ref a_t_counts, .ref a_t_image, .ref a_t_isKept])), (a_t_roads, .inl (cI, 12, .inl t_roads)), (a_t_book, .inl (cI, 25, .inl t_book)), (a_t_now, .inl (cI, 25, .inl x43t_now))] → va_S A s.heap H locs → lv_has ls 8 [(0, .ref a_t), (3, .int p3)] → f_X10_year_X43 t_there p3 x34 x43t_touched x43t_now = some res → W p l e rm_X10_year s m args below meth c H locs 0 0 Q (F0 m 171 ls []) := by
          intro x43t_touched x43t_now H locs ls hP hD hS hl hf
          rw [f_X10_year_X43] at hf
          refine lv_iconst (v := 0) hx hb dX10_year_171 (by decide) ?_
          refine lv_istore (lv' := [(5, .int (0 : Int32)), (0, .ref a_t), (3, .int p3)]) hx hb dX10_year_172 hl (by decide) rfl (fun ls hl => ?_)
          refine lv_iconst (v := 0) hx hb dX10_year_174 (by decide) ?_
          refine lv_istore (lv' := [(6, .int (0 : Int32)), (5, .int (0 : Int32)), (0, .ref a_t), (3, .int p3)]) hx hb dX10_year_175 hl (by decide) rfl (fun ls hl => ?_)
          have hX177 : ∀ (x177v5 : Int32) (H : Heap) (locs : List Loc) (ls : Array Slot), va_P D vwCl [(a_t, .inr (10, [.ref a_t_roads, .int t_homes, .int t_there, .ref a_t_book, .ref a_t_now, .int t_meetings, .ref a_t_meeting, .int t_sights, .ref a_t_sight, .int t_signs, .ref a_t_pad, .int x43t_touched, .int x34.2.1, .int t_reason, .int t_acts, .ref a_t_apart, .ref a_t_rounds, .ref a_t_fewest, .ref a_t_nextFewest, .ref a_t_ways, .ref a_t_nextWays, .ref a_t_counts, .ref a_t_image, .ref a_t_isKept])), (a_t_roads, .inl (cI, 12, .inl t_roads)), (a_t_book, .inl (cI, 25, .inl t_book)), (a_t_now, .inl (cI, 25, .inl x43t_now))] H → va_D A [(a_t, .inr (10, [.ref a_t_roads, .int t_homes, .int t_there, .ref a_t_book, .ref a_t_now, .int t_meetings, .ref a_t_meeting, .int t_sights, .ref a_t_sight, .int t_signs, .ref a_t_pad, .int x43t_touched, .int x34.2.1, .int t_reason, .int t_acts, .ref a_t_apart, .ref a_t_rounds, .ref a_t_fewest, .ref a_t_nextFewest, .ref a_t_ways, .ref a_t_nextWays, .ref a_t_counts, .ref a_t_image, .ref a_t_isKept])), (a_t_roads, .inl (cI, 12, .inl t_roads)), (a_t_book, .inl (cI, 25, .inl t_book)), (a_t_now, .inl (cI, 25, .inl x43t_now))] → va_S A s.heap H locs → lv_has ls 8 [(0, .ref a_t), (3, .int p3), (5, .int x177v5)] → f_X10_year_X177 p3 x34 x43t_touched x43t_now x177v5 = some res → W p l e rm_X10_year s m args below meth c H locs 0 0 Q (F0 m 221 ls []) := by
            intro x177v5 H locs ls hP hD hS hl hf
            rw [f_X10_year_X177] at hf
            refine lv_iload_n hx hb dX10_year_221 rfl (lv_at hl 1 rfl) ?_
            refine lv_if_ne (tgt := 232) hx hb dX10_year_222 (by decide) (fun hc => ?_) (fun hc => ?_)
            · replace hf := (if_neg hc).symm.trans hf
              refine lv_iload_n hx hb dX10_year_232 rfl (lv_at hl 1 rfl) ?_
              refine lv_iconst (v := 1) hx hb dX10_year_233 (by decide) ?_
              refine lv_icmp_ne (tgt := 247) hx hb dX10_year_234 (by decide) (fun hc => ?_) (fun hc => ?_)
              · replace hf := (if_neg hc).symm.trans hf
                refine lv_iload hx hb dX10_year_247 (lv_at hl 2 rfl) ?_
                obtain rfl := Option.some.inj hf
                exact fin _ _ _ _ dX10_year_249 hP hD hS
              · replace hf := (if_pos hc).symm.trans hf
                refine lv_aload_n hx hb dX10_year_237 rfl (lv_at hl 0 rfl) ?_
                refine va_get (D := D) (ci := 10) (v := .ref a_t_now) (C := RX10) (T := TX10) (N := 24) hx hb hts hmsX10 hown hK hP 0 rfl rfl 4 (by decide) hw16 (fun _ h9 => h9) rfl dX10_year_238 ?_
                refine lv_bipush (v := 22) hx hb dX10_year_241 (by decide) ?_
                refine va_iald (D := D) hx hb hK hP 3 0 rfl rfl (ix_in rfl) dX10_year_243 ?_
                refine lv_goto (tgt := 249) hx hb dX10_year_244 (by decide) ?_
                obtain rfl := Option.some.inj hf
                exact fin _ _ _ _ dX10_year_249 hP hD hS
            · replace hf := (if_pos hc).symm.trans hf
              refine lv_aload_n hx hb dX10_year_225 rfl (lv_at hl 0 rfl) ?_
              refine va_get (D := D) (ci := 10) (v := .int x43t_touched) (C := RX10) (T := TX10) (N := 24) hx hb hts hmsX10 hown hK hP 0 rfl rfl 11 (by decide) hw96 (fun _ h9 => h9) rfl dX10_year_226 ?_
              refine lv_goto (tgt := 249) hx hb dX10_year_229 (by decide) ?_
              obtain rfl := Option.some.inj hf
              exact fin _ _ _ _ dX10_year_249 hP hD hS
          have hL177 : ∀ (n177 : Nat), ∀ (l177v5 : Int32) (l177v6 : Int32) (H : Heap) (locs : List Loc) (ls : Array Slot), va_P D vwCl [(a_t, .inr (10, [.ref a_t_roads, .int t_homes, .int t_there, .ref a_t_book, .ref a_t_now, .int t_meetings, .ref a_t_meeting, .int t_sights, .ref a_t_sight, .int t_signs, .ref a_t_pad, .int x43t_touched, .int x34.2.1, .int t_reason, .int t_acts, .ref a_t_apart, .ref a_t_rounds, .ref a_t_fewest, .ref a_t_nextFewest, .ref a_t_ways, .ref a_t_nextWays, .ref a_t_counts, .ref a_t_image, .ref a_t_isKept])), (a_t_roads, .inl (cI, 12, .inl t_roads)), (a_t_book, .inl (cI, 25, .inl t_book)), (a_t_now, .inl (cI, 25, .inl x43t_now))] H → va_D A [(a_t, .inr (10, [.ref a_t_roads, .int t_homes, .int t_there, .ref a_t_book, .ref a_t_now, .int t_meetings, .ref a_t_meeting, .int t_sights, .ref a_t_sight, .int t_signs, .ref a_t_pad, .int x43t_touched, .int x34.2.1, .int t_reason, .int t_acts, .ref a_t_apart, .ref a_t_rounds, .ref a_t_fewest, .ref a_t_nextFewest, .ref a_t_ways, .ref a_t_nextWays, .ref a_t_counts, .ref a_t_image, .ref a_t_isKept])), (a_t_roads, .inl (cI, 12, .inl t_roads)), (a_t_book, .inl (cI, 25, .inl t_book)), (a_t_now, .inl (cI, 25, .inl x43t_now))] → va_S A s.heap H locs → lv_has ls 8 [(0, .ref a_t), (3, .int p3), (5, .int l177v5), (6, .int l177v6)] → f_X10_year_L177 t_there x43t_now (f_X10_year_X177 p3 x34 x43t_touched x43t_now) n177 l177v5 l177v6 = some res → W p l e rm_X10_year s m args below meth c H locs 0 0 Q (F0 m 177 ls []) := by
            intro n177
            induction n177 with
            | zero =>
              intro l177v5 l177v6 H locs ls hP hD hS hl hf
              rw [f_X10_year_L177] at hf
              cases hf
            | succ n177 ih177 =>
              intro l177v5 l177v6 H locs ls hP hD hS hl hf
              rw [f_X10_year_L177] at hf
              refine lv_iload hx hb dX10_year_177 (lv_at hl 3 rfl) ?_
              refine lv_bipush (v := 7) hx hb dX10_year_179 (by decide) ?_
              refine lv_icmp_ge (tgt := 221) hx hb dX10_year_181 (by decide) (fun hc => ?_) (fun hc => ?_)
              · replace hf := (if_pos hc).symm.trans hf
                exact hX177 l177v5 _ _ _ hP hD hS (lv_sub hl [0, 1, 2] rfl) hf
              · replace hf := (if_neg hc).symm.trans hf
                refine lv_iload hx hb dX10_year_184 (lv_at hl 2 rfl) ?_
                refine lv_aload_n hx hb dX10_year_186 rfl (lv_at hl 0 rfl) ?_
                refine va_get (D := D) (ci := 10) (v := .int t_there) (C := RX10) (T := TX10) (N := 24) hx hb hts hmsX10 hown hK hP 0 rfl rfl 2 (by decide) hw65 (fun _ h9 => h9) rfl dX10_year_187 ?_
                refine lv_iload hx hb dX10_year_190 (lv_at hl 3 rfl) ?_
                obtain ⟨x192, hx192, hf⟩ := bd_if hf
                refine cs_i (wr := [(a_t, .inr (10, [.ref a_t_roads, .int t_homes, .int t_there, .ref a_t_book, .ref a_t_now, .int t_meetings, .ref a_t_meeting, .int t_sights, .ref a_t_sight, .int t_signs, .ref a_t_pad, .int x43t_touched, .int x34.2.1, .int t_reason, .int t_acts, .ref a_t_apart, .ref a_t_rounds, .ref a_t_fewest, .ref a_t_nextFewest, .ref a_t_ways, .ref a_t_nextWays, .ref a_t_counts, .ref a_t_image, .ref a_t_isKept])), (a_t_roads, .inl (cI, 12, .inl t_roads)), (a_t_book, .inl (cI, 25, .inl t_book)), (a_t_now, .inl (cI, 25, .inl x43t_now))]) (ws' := [(a_t, .inr (10, [.ref a_t_roads, .int t_homes, .int t_there, .ref a_t_book, .ref a_t_now, .int t_meetings, .ref a_t_meeting, .int t_sights, .ref a_t_sight, .int t_signs, .ref a_t_pad, .int x43t_touched, .int x34.2.1, .int t_reason, .int t_acts, .ref a_t_apart, .ref a_t_rounds, .ref a_t_fewest, .ref a_t_nextFewest, .ref a_t_ways, .ref a_t_nextWays, .ref a_t_counts, .ref a_t_image, .ref a_t_isKept])), (a_t_roads, .inl (cI, 12, .inl t_roads)), (a_t_book, .inl (cI, 25, .inl t_book)), (a_t_now, .inl (cI, 25, .inl x43t_now))]) ⟨hx, hb, hml, hown, hts⟩ hcw69 hK hN hP hD hS hA (c_X10_has l D cI cJ cZ cO _ t_there l177v6 x192 hx192) [] [0, 1, 2, 3] [0, 1, 2, 3] rfl rfl rfl rfl (by decide) rfl rfl rfl hl.1 rfl (Nat.le_of_ble_eq_true rfl) dX10_year_192 ⟨Nat.zero_le _, Nat.zero_le _⟩ (fun H locs hP hD hS => ?_)
                refine lv_if_eq (tgt := 211) hx hb dX10_year_195 (by decide) (fun hc => ?_) (fun hc => ?_)
                · replace hf := (if_pos hc).symm.trans hf
                  refine lv_iconst (v := 0) hx hb dX10_year_211 (by decide) ?_
                  refine lv_iadd hx hb dX10_year_212 ?_
                  refine lv_istore (lv' := [(5, .int (l177v5 + (0 : Int32))), (0, .ref a_t), (3, .int p3), (6, .int l177v6)]) hx hb dX10_year_213 hl (by decide) rfl (fun ls hl => ?_)
                  refine lv_iinc (v := l177v6 + 1) (lv' := [(6, .int (l177v6 + 1)), (5, .int (l177v5 + (0 : Int32))), (0, .ref a_t), (3, .int p3)]) hx hb dX10_year_215 hl (k := 3) rfl rfl (by decide) rfl (fun ls hl => ?_)
                  refine lv_goto (tgt := 177) hx hb dX10_year_218 (by decide) ?_
                  exact ih177 (l177v5 + (0 : Int32)) (l177v6 + 1) _ _ _ hP hD hS (lv_sub hl [2, 3, 1, 0] rfl) hf
                · replace hf := (if_neg hc).symm.trans hf
                  refine lv_aload_n hx hb dX10_year_198 rfl (lv_at hl 0 rfl) ?_
                  refine va_get (D := D) (ci := 10) (v := .ref a_t_now) (C := RX10) (T := TX10) (N := 24) hx hb hts hmsX10 hown hK hP 0 rfl rfl 4 (by decide) hw16 (fun _ h9 => h9) rfl dX10_year_199 ?_
                  refine lv_bipush (v := 7) hx hb dX10_year_202 (by decide) ?_
                  refine lv_iload hx hb dX10_year_204 (lv_at hl 3 rfl) ?_
                  refine lv_iadd hx hb dX10_year_206 ?_
                  obtain ⟨hi207, hf⟩ := ix_if hf
                  refine va_iald (D := D) hx hb hK hP 3 0 rfl rfl hi207 dX10_year_207 ?_
                  refine lv_goto (tgt := 212) hx hb dX10_year_208 (by decide) ?_
                  refine lv_iadd hx hb dX10_year_212 ?_
                  refine lv_istore (lv' := [(5, .int (l177v5 + (x43t_now ((7 : Int32) + l177v6).toNatClampNeg))), (0, .ref a_t), (3, .int p3), (6, .int l177v6)]) hx hb dX10_year_213 hl (by decide) rfl (fun ls hl => ?_)
                  refine lv_iinc (v := l177v6 + 1) (lv' := [(6, .int (l177v6 + 1)), (5, .int (l177v5 + (x43t_now ((7 : Int32) + l177v6).toNatClampNeg))), (0, .ref a_t), (3, .int p3)]) hx hb dX10_year_215 hl (k := 3) rfl rfl (by decide) rfl (fun ls hl => ?_)
                  refine lv_goto (tgt := 177) hx hb dX10_year_218 (by decide) ?_
                  exact ih177 (l177v5 + (x43t_now ((7 : Int32) + l177v6).toNatClampNeg)) (l177v6 + 1) _ _ _ hP hD hS (lv_sub hl [2, 3, 1, 0] rfl) hf
          exact hL177 5000 (0 : Int32) (0 : Int32) _ _ _ hP hD hS (lv_sub hl [2, 3, 1, 0] rfl) hf
        have hL43 : ∀ (n43 : Nat), ∀ (l43v4 : Int32) (l43v5 : Int32) (l43t_touched : Int32) (l43t_now : Nat → Int32) (H : Heap) (locs : List Loc) (ls : Array Slot), va_P D vwCl [(a_t, .inr (10, [.ref a_t_roads, .int t_homes, .int t_there, .ref a_t_book, .ref a_t_now, .int t_meetings, .ref a_t_meeting, .int t_sights, .ref a_t_sight, .int t_signs, .ref a_t_pad, .int l43t_touched, .int x34.2.1, .int t_reason, .int t_acts, .ref a_t_apart, .ref a_t_rounds, .ref a_t_fewest, .ref a_t_nextFewest, .ref a_t_ways, .ref a_t_nextWays, .ref a_t_counts, .ref a_t_image, .ref a_t_isKept])), (a_t_roads, .inl (cI, 12, .inl t_roads)), (a_t_book, .inl (cI, 25, .inl t_book)), (a_t_now, .inl (cI, 25, .inl l43t_now))] H → va_D A [(a_t, .inr (10, [.ref a_t_roads, .int t_homes, .int t_there, .ref a_t_book, .ref a_t_now, .int t_meetings, .ref a_t_meeting, .int t_sights, .ref a_t_sight, .int t_signs, .ref a_t_pad, .int l43t_touched, .int x34.2.1, .int t_reason, .int t_acts, .ref a_t_apart, .ref a_t_rounds, .ref a_t_fewest, .ref a_t_nextFewest, .ref a_t_ways, .ref a_t_nextWays, .ref a_t_counts, .ref a_t_image, .ref a_t_isKept])), (a_t_roads, .inl (cI, 12, .inl t_roads)), (a_t_book, .inl (cI, 25, .inl t_book)), (a_t_now, .inl (cI, 25, .inl l43t_now))] → va_S A s.heap H locs → lv_has ls 8 [(0, .ref a_t), (2, .int p2), (3, .int p3), (4, .int l43v4), (5, .int l43v5)] → f_X10_year_L43 t_homes t_there t_roads p2 (f_X10_year_X43 t_there p3 x34) n43 l43v4 l43v5 l43t_touched l43t_now = some res → W p l e rm_X10_year s m args below meth c H locs 0 0 Q (F0 m 43 ls []) := by
          intro n43
          induction n43 with
          | zero =>
            intro l43v4 l43v5 l43t_touched l43t_now H locs ls hP hD hS hl hf
            rw [f_X10_year_L43] at hf
            cases hf
          | succ n43 ih43 =>
            intro l43v4 l43v5 l43t_touched l43t_now H locs ls hP hD hS hl hf
            rw [f_X10_year_L43] at hf
            refine lv_iload hx hb dX10_year_43 (lv_at hl 4 rfl) ?_
            refine lv_iload_n hx hb dX10_year_45 rfl (lv_at hl 1 rfl) ?_
            refine lv_icmp_ge (tgt := 171) hx hb dX10_year_46 (by decide) (fun hc => ?_) (fun hc => ?_)
            · replace hf := (if_pos hc).symm.trans hf
              exact hX43 l43t_touched l43t_now _ _ _ hP hD hS (lv_sub hl [0, 2] rfl) hf
            · replace hf := (if_neg hc).symm.trans hf
              refine lv_bipush (v := 75) hx hb dX10_year_49 (by decide) ?_
              refine lv_iload hx hb dX10_year_51 (lv_at hl 3 rfl) ?_
              refine lv_imul hx hb dX10_year_53 ?_
              refine lv_bipush (v := 74) hx hb dX10_year_54 (by decide) ?_
              refine lv_iadd hx hb dX10_year_56 ?_
              refine lv_ldc (v := 65537) hx hb hown hc171 dX10_year_57 ?_
              refine lv_irem hx hb dX10_year_59 (by decide) ?_
              refine lv_istore (lv' := [(4, .int ((((75 : Int32) * l43v4) + (74 : Int32)) - (((75 : Int32) * l43v4) + (74 : Int32)) / (65537 : Int32) * (65537 : Int32))), (0, .ref a_t), (2, .int p2), (3, .int p3), (5, .int l43v5)]) hx hb dX10_year_60 hl (by decide) rfl (fun ls hl => ?_)
              refine lv_iload hx hb dX10_year_62 (lv_at hl 0 rfl) ?_
              refine lv_bipush (v := 7) hx hb dX10_year_64 (by decide) ?_
              refine lv_irem hx hb dX10_year_66 (by decide) ?_
              refine lv_istore (lv' := [(6, .int (((((75 : Int32) * l43v4) + (74 : Int32)) - (((75 : Int32) * l43v4) + (74 : Int32)) / (65537 : Int32) * (65537 : Int32)) - ((((75 : Int32) * l43v4) + (74 : Int32)) - (((75 : Int32) * l43v4) + (74 : Int32)) / (65537 : Int32) * (65537 : Int32)) / (7 : Int32) * (7 : Int32))), (4, .int ((((75 : Int32) * l43v4) + (74 : Int32)) - (((75 : Int32) * l43v4) + (74 : Int32)) / (65537 : Int32) * (65537 : Int32))), (0, .ref a_t), (2, .int p2), (3, .int p3), (5, .int l43v5)]) hx hb dX10_year_67 hl (by decide) rfl (fun ls hl => ?_)
              refine lv_iload hx hb dX10_year_69 (lv_at hl 1 rfl) ?_
              refine lv_bipush (v := 7) hx hb dX10_year_71 (by decide) ?_
              refine lv_idiv hx hb dX10_year_73 (by decide) ?_
              refine lv_bipush (v := 8) hx hb dX10_year_74 (by decide) ?_
              refine lv_irem hx hb dX10_year_76 (by decide) ?_
              refine lv_istore (lv' := [(7, .int ((((((75 : Int32) * l43v4) + (74 : Int32)) - (((75 : Int32) * l43v4) + (74 : Int32)) / (65537 : Int32) * (65537 : Int32)) / (7 : Int32)) - (((((75 : Int32) * l43v4) + (74 : Int32)) - (((75 : Int32) * l43v4) + (74 : Int32)) / (65537 : Int32) * (65537 : Int32)) / (7 : Int32)) / (8 : Int32) * (8 : Int32))), (6, .int (((((75 : Int32) * l43v4) + (74 : Int32)) - (((75 : Int32) * l43v4) + (74 : Int32)) / (65537 : Int32) * (65537 : Int32)) - ((((75 : Int32) * l43v4) + (74 : Int32)) - (((75 : Int32) * l43v4) + (74 : Int32)) / (65537 : Int32) * (65537 : Int32)) / (7 : Int32) * (7 : Int32))), (4, .int ((((75 : Int32) * l43v4) + (74 : Int32)) - (((75 : Int32) * l43v4) + (74 : Int32)) / (65537 : Int32) * (65537 : Int32))), (0, .ref a_t), (2, .int p2), (3, .int p3), (5, .int l43v5)]) hx hb dX10_year_77 hl (by decide) rfl (fun ls hl => ?_)
              refine lv_iload hx hb dX10_year_79 (lv_at hl 0 rfl) ?_
              refine lv_iconst (v := 3) hx hb dX10_year_81 (by decide) ?_
              refine lv_icmp_ge (tgt := 103) hx hb dX10_year_82 (by decide) (fun hc => ?_) (fun hc => ?_)
              · replace hf := (if_pos hc).symm.trans hf
                refine lv_iload hx hb dX10_year_103 (lv_at hl 0 rfl) ?_
                refine lv_iconst (v := 5) hx hb dX10_year_105 (by decide) ?_
                refine lv_icmp_ge (tgt := 127) hx hb dX10_year_106 (by decide) (fun hc => ?_) (fun hc => ?_)
                · replace hf := (if_pos hc).symm.trans hf
                  refine lv_iload hx hb dX10_year_127 (lv_at hl 0 rfl) ?_
                  refine lv_iconst (v := 5) hx hb dX10_year_129 (by decide) ?_
                  refine lv_icmp_ne (tgt := 143) hx hb dX10_year_130 (by decide) (fun hc => ?_) (fun hc => ?_)
                  · replace hf := (if_neg hc).symm.trans hf
                    refine lv_iload hx hb dX10_year_143 (lv_at hl 0 rfl) ?_
                    refine lv_bipush (v := 6) hx hb dX10_year_145 (by decide) ?_
                    refine lv_icmp_ne (tgt := 160) hx hb dX10_year_147 (by decide) (fun hc => ?_) (fun hc => ?_)
                    · replace hf := (if_neg hc).symm.trans hf
                      refine lv_aload_n hx hb dX10_year_160 rfl (lv_at hl 3 rfl) ?_
                      obtain ⟨x161, hx161, hf⟩ := bd_if hf
                      refine cv_i (wr := [(a_t_roads, .inl (cI, 12, .inl t_roads)), (a_t_book, .inl (cI, 25, .inl t_book))]) (ws' := [(a_t, .inr (10, [.ref a_t_roads, .int t_homes, .int t_there, .ref a_t_book, .ref a_t_now, .int t_meetings, .ref a_t_meeting, .int t_sights, .ref a_t_sight, .int t_signs, .ref a_t_pad, .int l43t_touched, .int x34.2.1, .int t_reason, .int t_acts, .ref a_t_apart, .ref a_t_rounds, .ref a_t_fewest, .ref a_t_nextFewest, .ref a_t_ways, .ref a_t_nextWays, .ref a_t_counts, .ref a_t_image, .ref a_t_isKept])), (a_t_roads, .inl (cI, 12, .inl t_roads)), (a_t_book, .inl (cI, 25, .inl t_book)), (a_t_now, .inl (cI, 25, .inl x161.2))]) ⟨hx, hb, hml, hown, hts⟩ hcw108 hK hN hP hD hS hA (c_X10_minute l D cI cJ cZ cO _ a_t a_t_roads a_t_book a_t_now a_t_meeting a_t_sight a_t_pad a_t_apart a_t_rounds a_t_fewest a_t_nextFewest a_t_ways a_t_nextWays a_t_counts a_t_image a_t_isKept t_homes t_there t_meetings t_sights t_signs l43t_touched x34.2.1 t_reason t_acts l43t_now x161 hx161) (q := (RX10, TX10, 24)) (ci := 10) (q0 := 0) rfl rfl [0, 3] [1, 2] [2, 0, 1, 3] rfl rfl rfl rfl (by decide) rfl rfl rfl hl.1 rfl (Nat.le_of_ble_eq_true rfl) dX10_year_161 ⟨Nat.zero_le _, Nat.zero_le _⟩ (fun H locs hP hD hS => ?_)
                      refine lv_pop hx hb dX10_year_164 rfl ?_
                      refine lv_iinc (v := l43v5 + 1) (lv' := [(5, .int (l43v5 + 1)), (7, .int ((((((75 : Int32) * l43v4) + (74 : Int32)) - (((75 : Int32) * l43v4) + (74 : Int32)) / (65537 : Int32) * (65537 : Int32)) / (7 : Int32)) - (((((75 : Int32) * l43v4) + (74 : Int32)) - (((75 : Int32) * l43v4) + (74 : Int32)) / (65537 : Int32) * (65537 : Int32)) / (7 : Int32)) / (8 : Int32) * (8 : Int32))), (6, .int (((((75 : Int32) * l43v4) + (74 : Int32)) - (((75 : Int32) * l43v4) + (74 : Int32)) / (65537 : Int32) * (65537 : Int32)) - ((((75 : Int32) * l43v4) + (74 : Int32)) - (((75 : Int32) * l43v4) + (74 : Int32)) / (65537 : Int32) * (65537 : Int32)) / (7 : Int32) * (7 : Int32))), (4, .int ((((75 : Int32) * l43v4) + (74 : Int32)) - (((75 : Int32) * l43v4) + (74 : Int32)) / (65537 : Int32) * (65537 : Int32))), (0, .ref a_t), (2, .int p2), (3, .int p3)]) hx hb dX10_year_165 hl (k := 6) rfl rfl (by decide) rfl (fun ls hl => ?_)
                      refine lv_goto (tgt := 43) hx hb dX10_year_168 (by decide) ?_
                      exact ih43 ((((75 : Int32) * l43v4) + (74 : Int32)) - (((75 : Int32) * l43v4) + (74 : Int32)) / (65537 : Int32) * (65537 : Int32)) (l43v5 + 1) l43t_touched x161.2 _ _ _ hP hD hS (lv_sub hl [4, 5, 6, 3, 0] rfl) hf
                    · replace hf := (if_pos hc).symm.trans hf
                      refine lv_aload_n hx hb dX10_year_150 rfl (lv_at hl 3 rfl) ?_
                      refine lv_iload hx hb dX10_year_151 (lv_at hl 1 rfl) ?_
                      obtain ⟨x153, hx153, hf⟩ := bd_if hf
                      refine cv_i (wr := [(a_t_roads, .inl (cI, 12, .inl t_roads)), (a_t_book, .inl (cI, 25, .inl t_book))]) (ws' := [(a_t, .inr (10, [.ref a_t_roads, .int t_homes, .int t_there, .ref a_t_book, .ref a_t_now, .int t_meetings, .ref a_t_meeting, .int t_sights, .ref a_t_sight, .int t_signs, .ref a_t_pad, .int l43t_touched, .int x34.2.1, .int t_reason, .int t_acts, .ref a_t_apart, .ref a_t_rounds, .ref a_t_fewest, .ref a_t_nextFewest, .ref a_t_ways, .ref a_t_nextWays, .ref a_t_counts, .ref a_t_image, .ref a_t_isKept])), (a_t_roads, .inl (cI, 12, .inl t_roads)), (a_t_book, .inl (cI, 25, .inl t_book)), (a_t_now, .inl (cI, 25, .inl x153.2))]) ⟨hx, hb, hml, hown, hts⟩ hcw121 hK hN hP hD hS hA (c_X10_cross l D cI cJ cZ cO _ a_t a_t_roads a_t_book a_t_now a_t_meeting a_t_sight a_t_pad a_t_apart a_t_rounds a_t_fewest a_t_nextFewest a_t_ways a_t_nextWays a_t_counts a_t_image a_t_isKept t_homes t_there t_meetings t_sights t_signs l43t_touched x34.2.1 t_reason t_acts l43t_now (((((75 : Int32) * l43v4) + (74 : Int32)) - (((75 : Int32) * l43v4) + (74 : Int32)) / (65537 : Int32) * (65537 : Int32)) - ((((75 : Int32) * l43v4) + (74 : Int32)) - (((75 : Int32) * l43v4) + (74 : Int32)) / (65537 : Int32) * (65537 : Int32)) / (7 : Int32) * (7 : Int32)) x153 hx153) (q := (RX10, TX10, 24)) (ci := 10) (q0 := 0) rfl rfl [0, 3] [1, 2] [2, 0, 1, 3] rfl rfl rfl rfl (by decide) rfl rfl rfl hl.1 rfl (Nat.le_of_ble_eq_true rfl) dX10_year_153 ⟨Nat.zero_le _, Nat.zero_le _⟩ (fun H locs hP hD hS => ?_)
                      refine lv_pop hx hb dX10_year_156 rfl ?_
                      refine lv_goto (tgt := 165) hx hb dX10_year_157 (by decide) ?_
                      refine lv_iinc (v := l43v5 + 1) (lv' := [(5, .int (l43v5 + 1)), (7, .int ((((((75 : Int32) * l43v4) + (74 : Int32)) - (((75 : Int32) * l43v4) + (74 : Int32)) / (65537 : Int32) * (65537 : Int32)) / (7 : Int32)) - (((((75 : Int32) * l43v4) + (74 : Int32)) - (((75 : Int32) * l43v4) + (74 : Int32)) / (65537 : Int32) * (65537 : Int32)) / (7 : Int32)) / (8 : Int32) * (8 : Int32))), (6, .int (((((75 : Int32) * l43v4) + (74 : Int32)) - (((75 : Int32) * l43v4) + (74 : Int32)) / (65537 : Int32) * (65537 : Int32)) - ((((75 : Int32) * l43v4) + (74 : Int32)) - (((75 : Int32) * l43v4) + (74 : Int32)) / (65537 : Int32) * (65537 : Int32)) / (7 : Int32) * (7 : Int32))), (4, .int ((((75 : Int32) * l43v4) + (74 : Int32)) - (((75 : Int32) * l43v4) + (74 : Int32)) / (65537 : Int32) * (65537 : Int32))), (0, .ref a_t), (2, .int p2), (3, .int p3)]) hx hb dX10_year_165 hl (k := 6) rfl rfl (by decide) rfl (fun ls hl => ?_)
                      refine lv_goto (tgt := 43) hx hb dX10_year_168 (by decide) ?_
                      exact ih43 ((((75 : Int32) * l43v4) + (74 : Int32)) - (((75 : Int32) * l43v4) + (74 : Int32)) / (65537 : Int32) * (65537 : Int32)) (l43v5 + 1) l43t_touched x153.2 _ _ _ hP hD hS (lv_sub hl [4, 5, 6, 3, 0] rfl) hf
                  · replace hf := (if_pos hc).symm.trans hf
                    refine lv_aload_n hx hb dX10_year_133 rfl (lv_at hl 3 rfl) ?_
                    refine lv_iload hx hb dX10_year_134 (lv_at hl 1 rfl) ?_
                    obtain ⟨x136, hx136, hf⟩ := bd_if hf
                    refine cv_i (wr := [(a_t_roads, .inl (cI, 12, .inl t_roads)), (a_t_book, .inl (cI, 25, .inl t_book))]) (ws' := [(a_t, .inr (10, [.ref a_t_roads, .int t_homes, .int t_there, .ref a_t_book, .ref a_t_now, .int t_meetings, .ref a_t_meeting, .int t_sights, .ref a_t_sight, .int t_signs, .ref a_t_pad, .int l43t_touched, .int x34.2.1, .int t_reason, .int t_acts, .ref a_t_apart, .ref a_t_rounds, .ref a_t_fewest, .ref a_t_nextFewest, .ref a_t_ways, .ref a_t_nextWays, .ref a_t_counts, .ref a_t_image, .ref a_t_isKept])), (a_t_roads, .inl (cI, 12, .inl t_roads)), (a_t_book, .inl (cI, 25, .inl t_book)), (a_t_now, .inl (cI, 25, .inl x136.2))]) ⟨hx, hb, hml, hown, hts⟩ hcw118 hK hN hP hD hS hA (c_X10_rest l D cI cJ cZ cO _ a_t a_t_roads a_t_book a_t_now a_t_meeting a_t_sight a_t_pad a_t_apart a_t_rounds a_t_fewest a_t_nextFewest a_t_ways a_t_nextWays a_t_counts a_t_image a_t_isKept t_homes t_there t_meetings t_sights t_signs l43t_touched x34.2.1 t_reason t_acts l43t_now (((((75 : Int32) * l43v4) + (74 : Int32)) - (((75 : Int32) * l43v4) + (74 : Int32)) / (65537 : Int32) * (65537 : Int32)) - ((((75 : Int32) * l43v4) + (74 : Int32)) - (((75 : Int32) * l43v4) + (74 : Int32)) / (65537 : Int32) * (65537 : Int32)) / (7 : Int32) * (7 : Int32)) x136 hx136) (q := (RX10, TX10, 24)) (ci := 10) (q0 := 0) rfl rfl [0, 3] [1, 2] [2, 0, 1, 3] rfl rfl rfl rfl (by decide) rfl rfl rfl hl.1 rfl (Nat.le_of_ble_eq_true rfl) dX10_year_136 ⟨Nat.zero_le _, Nat.zero_le _⟩ (fun H locs hP hD hS => ?_)
                    refine lv_pop hx hb dX10_year_139 rfl ?_
                    refine lv_goto (tgt := 165) hx hb dX10_year_140 (by decide) ?_
                    refine lv_iinc (v := l43v5 + 1) (lv' := [(5, .int (l43v5 + 1)), (7, .int ((((((75 : Int32) * l43v4) + (74 : Int32)) - (((75 : Int32) * l43v4) + (74 : Int32)) / (65537 : Int32) * (65537 : Int32)) / (7 : Int32)) - (((((75 : Int32) * l43v4) + (74 : Int32)) - (((75 : Int32) * l43v4) + (74 : Int32)) / (65537 : Int32) * (65537 : Int32)) / (7 : Int32)) / (8 : Int32) * (8 : Int32))), (6, .int (((((75 : Int32) * l43v4) + (74 : Int32)) - (((75 : Int32) * l43v4) + (74 : Int32)) / (65537 : Int32) * (65537 : Int32)) - ((((75 : Int32) * l43v4) + (74 : Int32)) - (((75 : Int32) * l43v4) + (74 : Int32)) / (65537 : Int32) * (65537 : Int32)) / (7 : Int32) * (7 : Int32))), (4, .int ((((75 : Int32) * l43v4) + (74 : Int32)) - (((75 : Int32) * l43v4) + (74 : Int32)) / (65537 : Int32) * (65537 : Int32))), (0, .ref a_t), (2, .int p2), (3, .int p3)]) hx hb dX10_year_165 hl (k := 6) rfl rfl (by decide) rfl (fun ls hl => ?_)
                    refine lv_goto (tgt := 43) hx hb dX10_year_168 (by decide) ?_
                    exact ih43 ((((75 : Int32) * l43v4) + (74 : Int32)) - (((75 : Int32) * l43v4) + (74 : Int32)) / (65537 : Int32) * (65537 : Int32)) (l43v5 + 1) l43t_touched x136.2 _ _ _ hP hD hS (lv_sub hl [4, 5, 6, 3, 0] rfl) hf
                · replace hf := (if_neg hc).symm.trans hf
                  refine lv_aload_n hx hb dX10_year_109 rfl (lv_at hl 3 rfl) ?_
                  refine lv_iload hx hb dX10_year_110 (lv_at hl 1 rfl) ?_
                  refine lv_iload hx hb dX10_year_112 (lv_at hl 2 rfl) ?_
                  refine lv_bipush (v := 56) hx hb dX10_year_114 (by decide) ?_
                  refine lv_idiv hx hb dX10_year_116 (by decide) ?_
                  refine lv_bipush (v := 7) hx hb dX10_year_117 (by decide) ?_
                  refine lv_irem hx hb dX10_year_119 (by decide) ?_
                  obtain ⟨x120, hx120, hf⟩ := bd_if hf
                  refine cv_i (wr := [(a_t_roads, .inl (cI, 12, .inl t_roads)), (a_t_book, .inl (cI, 25, .inl t_book))]) (ws' := [(a_t, .inr (10, [.ref a_t_roads, .int t_homes, .int t_there, .ref a_t_book, .ref a_t_now, .int t_meetings, .ref a_t_meeting, .int t_sights, .ref a_t_sight, .int t_signs, .ref a_t_pad, .int x120.2.1, .int x34.2.1, .int t_reason, .int t_acts, .ref a_t_apart, .ref a_t_rounds, .ref a_t_fewest, .ref a_t_nextFewest, .ref a_t_ways, .ref a_t_nextWays, .ref a_t_counts, .ref a_t_image, .ref a_t_isKept])), (a_t_roads, .inl (cI, 12, .inl t_roads)), (a_t_book, .inl (cI, 25, .inl t_book)), (a_t_now, .inl (cI, 25, .inl x120.2.2))]) ⟨hx, hb, hml, hown, hts⟩ hcw114 hK hN hP hD hS hA (c_X10_touch l D cI cJ cZ cO _ a_t a_t_roads a_t_book a_t_now a_t_meeting a_t_sight a_t_pad a_t_apart a_t_rounds a_t_fewest a_t_nextFewest a_t_ways a_t_nextWays a_t_counts a_t_image a_t_isKept t_homes t_there t_meetings t_sights t_signs l43t_touched x34.2.1 t_reason t_acts l43t_now (((((75 : Int32) * l43v4) + (74 : Int32)) - (((75 : Int32) * l43v4) + (74 : Int32)) / (65537 : Int32) * (65537 : Int32)) - ((((75 : Int32) * l43v4) + (74 : Int32)) - (((75 : Int32) * l43v4) + (74 : Int32)) / (65537 : Int32) * (65537 : Int32)) / (7 : Int32) * (7 : Int32)) ((((((75 : Int32) * l43v4) + (74 : Int32)) - (((75 : Int32) * l43v4) + (74 : Int32)) / (65537 : Int32) * (65537 : Int32)) / (56 : Int32)) - (((((75 : Int32) * l43v4) + (74 : Int32)) - (((75 : Int32) * l43v4) + (74 : Int32)) / (65537 : Int32) * (65537 : Int32)) / (56 : Int32)) / (7 : Int32) * (7 : Int32)) x120 hx120) (q := (RX10, TX10, 24)) (ci := 10) (q0 := 0) rfl rfl [0, 3] [1, 2] [2, 0, 1, 3] rfl rfl rfl rfl (by decide) rfl rfl rfl hl.1 rfl (Nat.le_of_ble_eq_true rfl) dX10_year_120 ⟨Nat.zero_le _, Nat.zero_le _⟩ (fun H locs hP hD hS => ?_)
                  refine lv_pop hx hb dX10_year_123 rfl ?_
                  refine lv_goto (tgt := 165) hx hb dX10_year_124 (by decide) ?_
                  refine lv_iinc (v := l43v5 + 1) (lv' := [(5, .int (l43v5 + 1)), (7, .int ((((((75 : Int32) * l43v4) + (74 : Int32)) - (((75 : Int32) * l43v4) + (74 : Int32)) / (65537 : Int32) * (65537 : Int32)) / (7 : Int32)) - (((((75 : Int32) * l43v4) + (74 : Int32)) - (((75 : Int32) * l43v4) + (74 : Int32)) / (65537 : Int32) * (65537 : Int32)) / (7 : Int32)) / (8 : Int32) * (8 : Int32))), (6, .int (((((75 : Int32) * l43v4) + (74 : Int32)) - (((75 : Int32) * l43v4) + (74 : Int32)) / (65537 : Int32) * (65537 : Int32)) - ((((75 : Int32) * l43v4) + (74 : Int32)) - (((75 : Int32) * l43v4) + (74 : Int32)) / (65537 : Int32) * (65537 : Int32)) / (7 : Int32) * (7 : Int32))), (4, .int ((((75 : Int32) * l43v4) + (74 : Int32)) - (((75 : Int32) * l43v4) + (74 : Int32)) / (65537 : Int32) * (65537 : Int32))), (0, .ref a_t), (2, .int p2), (3, .int p3)]) hx hb dX10_year_165 hl (k := 6) rfl rfl (by decide) rfl (fun ls hl => ?_)
                  refine lv_goto (tgt := 43) hx hb dX10_year_168 (by decide) ?_
                  exact ih43 ((((75 : Int32) * l43v4) + (74 : Int32)) - (((75 : Int32) * l43v4) + (74 : Int32)) / (65537 : Int32) * (65537 : Int32)) (l43v5 + 1) x120.2.1 x120.2.2 _ _ _ hP hD hS (lv_sub hl [4, 5, 6, 3, 0] rfl) hf
              · replace hf := (if_neg hc).symm.trans hf
                refine lv_aload_n hx hb dX10_year_85 rfl (lv_at hl 3 rfl) ?_
                refine lv_iload hx hb dX10_year_86 (lv_at hl 1 rfl) ?_
                refine lv_iload hx hb dX10_year_88 (lv_at hl 2 rfl) ?_
                refine lv_bipush (v := 56) hx hb dX10_year_90 (by decide) ?_
                refine lv_idiv hx hb dX10_year_92 (by decide) ?_
                refine lv_bipush (v := 12) hx hb dX10_year_93 (by decide) ?_
                refine lv_irem hx hb dX10_year_95 (by decide) ?_
                obtain ⟨x96, hx96, hf⟩ := bd_if hf
                refine cv_i (wr := [(a_t_book, .inl (cI, 25, .inl t_book))]) (ws' := [(a_t, .inr (10, [.ref a_t_roads, .int t_homes, .int t_there, .ref a_t_book, .ref a_t_now, .int t_meetings, .ref a_t_meeting, .int t_sights, .ref a_t_sight, .int t_signs, .ref a_t_pad, .int l43t_touched, .int x34.2.1, .int t_reason, .int t_acts, .ref a_t_apart, .ref a_t_rounds, .ref a_t_fewest, .ref a_t_nextFewest, .ref a_t_ways, .ref a_t_nextWays, .ref a_t_counts, .ref a_t_image, .ref a_t_isKept])), (a_t_roads, .inl (cI, 12, .inl t_roads)), (a_t_book, .inl (cI, 25, .inl t_book)), (a_t_now, .inl (cI, 25, .inl x96.2))]) ⟨hx, hb, hml, hown, hts⟩ hcw124 hK hN hP hD hS hA (c_X10_run l D cI cJ cZ cO _ a_t a_t_roads a_t_book a_t_now a_t_meeting a_t_sight a_t_pad a_t_apart a_t_rounds a_t_fewest a_t_nextFewest a_t_ways a_t_nextWays a_t_counts a_t_image a_t_isKept t_homes t_there t_meetings t_sights t_signs l43t_touched x34.2.1 t_reason t_acts t_roads l43t_now (((((75 : Int32) * l43v4) + (74 : Int32)) - (((75 : Int32) * l43v4) + (74 : Int32)) / (65537 : Int32) * (65537 : Int32)) - ((((75 : Int32) * l43v4) + (74 : Int32)) - (((75 : Int32) * l43v4) + (74 : Int32)) / (65537 : Int32) * (65537 : Int32)) / (7 : Int32) * (7 : Int32)) ((((((75 : Int32) * l43v4) + (74 : Int32)) - (((75 : Int32) * l43v4) + (74 : Int32)) / (65537 : Int32) * (65537 : Int32)) / (56 : Int32)) - (((((75 : Int32) * l43v4) + (74 : Int32)) - (((75 : Int32) * l43v4) + (74 : Int32)) / (65537 : Int32) * (65537 : Int32)) / (56 : Int32)) / (12 : Int32) * (12 : Int32)) x96 hx96) (q := (RX10, TX10, 24)) (ci := 10) (q0 := 0) rfl rfl [0, 1, 3] [2] [1, 2, 0, 3] rfl rfl rfl rfl (by decide) rfl rfl rfl hl.1 rfl (Nat.le_of_ble_eq_true rfl) dX10_year_96 ⟨Nat.zero_le _, Nat.zero_le _⟩ (fun H locs hP hD hS => ?_)
                refine lv_pop hx hb dX10_year_99 rfl ?_
                refine lv_goto (tgt := 165) hx hb dX10_year_100 (by decide) ?_
                refine lv_iinc (v := l43v5 + 1) (lv' := [(5, .int (l43v5 + 1)), (7, .int ((((((75 : Int32) * l43v4) + (74 : Int32)) - (((75 : Int32) * l43v4) + (74 : Int32)) / (65537 : Int32) * (65537 : Int32)) / (7 : Int32)) - (((((75 : Int32) * l43v4) + (74 : Int32)) - (((75 : Int32) * l43v4) + (74 : Int32)) / (65537 : Int32) * (65537 : Int32)) / (7 : Int32)) / (8 : Int32) * (8 : Int32))), (6, .int (((((75 : Int32) * l43v4) + (74 : Int32)) - (((75 : Int32) * l43v4) + (74 : Int32)) / (65537 : Int32) * (65537 : Int32)) - ((((75 : Int32) * l43v4) + (74 : Int32)) - (((75 : Int32) * l43v4) + (74 : Int32)) / (65537 : Int32) * (65537 : Int32)) / (7 : Int32) * (7 : Int32))), (4, .int ((((75 : Int32) * l43v4) + (74 : Int32)) - (((75 : Int32) * l43v4) + (74 : Int32)) / (65537 : Int32) * (65537 : Int32))), (0, .ref a_t), (2, .int p2), (3, .int p3)]) hx hb dX10_year_165 hl (k := 6) rfl rfl (by decide) rfl (fun ls hl => ?_)
                refine lv_goto (tgt := 43) hx hb dX10_year_168 (by decide) ?_
                exact ih43 ((((75 : Int32) * l43v4) + (74 : Int32)) - (((75 : Int32) * l43v4) + (74 : Int32)) / (65537 : Int32) * (65537 : Int32)) (l43v5 + 1) l43t_touched x96.2 _ _ _ hP hD hS (lv_sub hl [4, 5, 6, 3, 0] rfl) hf
        exact hL43 5000 p1 (0 : Int32) x34.1 x34.2.2 _ _ _ hP hD hS (lv_sub hl [2, 4, 5, 1, 0] rfl) hf
      · replace hf := (if_pos hc).symm.trans hf
        refine lv_bipush (v := -2) hx hb dX10_year_30 (by decide) ?_
        obtain rfl := Option.some.inj hf
        exact fin _ _ _ _ dX10_year_32 hP hD hS
abbrev rm_X10_image : Room := { frames := 1, cells := 0, slots := 0, locals := 22 }
theorem ms_X10_image_X10 : ∀ w ∈ u_ws RX10 TX10 24, w ∈ wsX10_image := fun w h => List.mem_cons_of_mem _ (List.mem_append_right _ (h))
set_option maxHeartbeats 4000000 in
set_option maxRecDepth 100000 in
theorem c_X10_image (l : Launch) (D : va_G) (cI cJ cZ cO : ClassId) (sz : Nat) (a_t : Nat) (a_t_roads : Nat) (a_t_book : Nat) (a_t_now : Nat) (a_t_meeting : Nat) (a_t_sight : Nat) (a_t_pad : Nat) (a_t_apart : Nat) (a_t_rounds : Nat) (a_t_fewest : Nat) (a_t_nextFewest : Nat) (a_t_ways : Nat) (a_t_nextWays : Nat) (a_t_counts : Nat) (a_t_image : Nat) (a_t_isKept : Nat) (t_homes : Int32) (t_there : Int32) (t_meetings : Int32) (t_sights : Int32) (t_signs : Int32) (t_touched : Int32) (t_firstTouch : Int32) (t_reason : Int32) (t_acts : Int32) (t_roads : Nat → Int32) (t_book : Nat → Int32) (t_meeting : Nat → Int32) (t_sight : Nat → Int32) (t_image : Nat → Int32) (t_isKept : Nat → Int32) (p1 : Int32) (res : Int32 × (Nat → Int32) × (Nat → Int32)) (hf : f_X10_image t_homes t_there t_meetings t_sights t_roads t_book t_meeting t_sight t_image t_isKept p1 = some res) : MetI l yX10_image wsX10_image rm_X10_image [.ref a_t, .int p1] D (tys4 cI cJ cZ cO) [(a_t, .inr (10, [.ref a_t_roads, .int t_homes, .int t_there, .ref a_t_book, .ref a_t_now, .int t_meetings, .ref a_t_meeting, .int t_sights, .ref a_t_sight, .int t_signs, .ref a_t_pad, .int t_touched, .int t_firstTouch, .int t_reason, .int t_acts, .ref a_t_apart, .ref a_t_rounds, .ref a_t_fewest, .ref a_t_nextFewest, .ref a_t_ways, .ref a_t_nextWays, .ref a_t_counts, .ref a_t_image, .ref a_t_isKept])), (a_t_roads, .inl (cI, 12, .inl t_roads)), (a_t_book, .inl (cI, 25, .inl t_book)), (a_t_meeting, .inl (cI, 16, .inl t_meeting)), (a_t_sight, .inl (cI, 24, .inl t_sight)), (a_t_image, .inl (cI, 180, .inl t_image)), (a_t_isKept, .inl (cZ, 2, .inl t_isKept))] sz res.1 [(a_t, .inr (10, [.ref a_t_roads, .int t_homes, .int t_there, .ref a_t_book, .ref a_t_now, .int t_meetings, .ref a_t_meeting, .int t_sights, .ref a_t_sight, .int t_signs, .ref a_t_pad, .int t_touched, .int t_firstTouch, .int t_reason, .int t_acts, .ref a_t_apart, .ref a_t_rounds, .ref a_t_fewest, .ref a_t_nextFewest, .ref a_t_ways, .ref a_t_nextWays, .ref a_t_counts, .ref a_t_image, .ref a_t_isKept])), (a_t_roads, .inl (cI, 12, .inl t_roads)), (a_t_book, .inl (cI, 25, .inl t_book)), (a_t_meeting, .inl (cI, 16, .inl t_meeting)), (a_t_sight, .inl (cI, 24, .inl t_sight)), (a_t_image, .inl (cI, 180, .inl res.2.1)), (a_t_isKept, .inl (cZ, 2, .inl res.2.2))] := by
  refine met_i (cc := cX10_image) (maxL := 4) (by decide) rfl (Nat.le_of_ble_eq_true rfl) ?_
  intro p e s m args below meth c Q A hx hb hml hown hts hK hN hA fin H locs ls hP hD hS hl
  replace hown : s.vm.findClass RX10 = some m.cls := hown
  replace hl : lv_has ls 4 [(0, .ref a_t), (1, .int p1)] := hl
  rw [f_X10_image] at hf
  have hcw57 := va_cwS (R := rm_X10_image) (rm := rm_X10_in) 3 hts gX10_image_X10_in rfl rfl rfl (by decide +kernel) ⟨Nat.le_of_ble_eq_true rfl, Nat.le_of_ble_eq_true rfl⟩
  have hw50 := hts (.fieldLink RX10 50 "TouchReignModel" "image" "[I") (by decide +kernel)
  have hmsX10 := ms_X10_image_X10
  have hw80 := hts (.fieldLink RX10 80 "TouchReignModel" "homes" "I") (by decide +kernel)
  have hw65 := hts (.fieldLink RX10 65 "TouchReignModel" "there" "I") (by decide +kernel)
  have hw149 := hts (.fieldLink RX10 149 "TouchReignModel" "meetings" "I") (by decide +kernel)
  have hw165 := hts (.fieldLink RX10 165 "TouchReignModel" "sights" "I") (by decide +kernel)
  have hw53 := hts (.fieldLink RX10 53 "TouchReignModel" "isKept" "[Z") (by decide +kernel)
  have hw22 := hts (.fieldLink RX10 22 "TouchReignModel" "sight" "[I") (by decide +kernel)
  have hw19 := hts (.fieldLink RX10 19 "TouchReignModel" "meeting" "[I") (by decide +kernel)
  have hw7 := hts (.fieldLink RX10 7 "TouchReignModel" "roads" "[I") (by decide +kernel)
  have hw13 := hts (.fieldLink RX10 13 "TouchReignModel" "book" "[I") (by decide +kernel)
  refine lv_iload_n hx hb dX10_image_0 rfl (lv_at hl 1 rfl) ?_
  refine lv_iconst (v := 0) hx hb dX10_image_1 (by decide) ?_
  refine lv_iconst (v := 1) hx hb dX10_image_2 (by decide) ?_
  obtain ⟨x3, hx3, hf⟩ := bd_if hf
  refine cs_i (wr := [(a_t, .inr (10, [.ref a_t_roads, .int t_homes, .int t_there, .ref a_t_book, .ref a_t_now, .int t_meetings, .ref a_t_meeting, .int t_sights, .ref a_t_sight, .int t_signs, .ref a_t_pad, .int t_touched, .int t_firstTouch, .int t_reason, .int t_acts, .ref a_t_apart, .ref a_t_rounds, .ref a_t_fewest, .ref a_t_nextFewest, .ref a_t_ways, .ref a_t_nextWays, .ref a_t_counts, .ref a_t_image, .ref a_t_isKept])), (a_t_roads, .inl (cI, 12, .inl t_roads)), (a_t_book, .inl (cI, 25, .inl t_book)), (a_t_meeting, .inl (cI, 16, .inl t_meeting)), (a_t_sight, .inl (cI, 24, .inl t_sight)), (a_t_image, .inl (cI, 180, .inl t_image)), (a_t_isKept, .inl (cZ, 2, .inl t_isKept))]) (ws' := [(a_t, .inr (10, [.ref a_t_roads, .int t_homes, .int t_there, .ref a_t_book, .ref a_t_now, .int t_meetings, .ref a_t_meeting, .int t_sights, .ref a_t_sight, .int t_signs, .ref a_t_pad, .int t_touched, .int t_firstTouch, .int t_reason, .int t_acts, .ref a_t_apart, .ref a_t_rounds, .ref a_t_fewest, .ref a_t_nextFewest, .ref a_t_ways, .ref a_t_nextWays, .ref a_t_counts, .ref a_t_image, .ref a_t_isKept])), (a_t_roads, .inl (cI, 12, .inl t_roads)), (a_t_book, .inl (cI, 25, .inl t_book)), (a_t_meeting, .inl (cI, 16, .inl t_meeting)), (a_t_sight, .inl (cI, 24, .inl t_sight)), (a_t_image, .inl (cI, 180, .inl t_image)), (a_t_isKept, .inl (cZ, 2, .inl t_isKept))]) ⟨hx, hb, hml, hown, hts⟩ hcw57 hK hN hP hD hS hA (c_X10_in l D cI cJ cZ cO _ p1 (0 : Int32) (1 : Int32) x3 hx3) [] [0, 1, 2, 3, 4, 5, 6] [0, 1, 2, 3, 4, 5, 6] rfl rfl rfl rfl (by decide) rfl rfl rfl hl.1 rfl (Nat.le_of_ble_eq_true rfl) dX10_image_3 ⟨Nat.zero_le _, Nat.zero_le _⟩ (fun H locs hP hD hS => ?_)
  refine lv_if_ne (tgt := 12) hx hb dX10_image_6 (by decide) (fun hc => ?_) (fun hc => ?_)
  · replace hf := (if_neg hc).symm.trans hf
    refine lv_bipush (v := 90) hx hb dX10_image_12 (by decide) ?_
    refine lv_iload_n hx hb dX10_image_14 rfl (lv_at hl 1 rfl) ?_
    refine lv_imul hx hb dX10_image_15 ?_
    refine lv_istore_n (lv' := [(2, .int ((90 : Int32) * p1)), (0, .ref a_t), (1, .int p1)]) hx hb dX10_image_16 rfl hl (by decide) rfl (fun ls hl => ?_)
    refine lv_iconst (v := 0) hx hb dX10_image_17 (by decide) ?_
    refine lv_istore_n (lv' := [(3, .int (0 : Int32)), (2, .int ((90 : Int32) * p1)), (0, .ref a_t), (1, .int p1)]) hx hb dX10_image_18 rfl hl (by decide) rfl (fun ls hl => ?_)
    have hX19 : ∀ (x19v2 : Int32) (x19t_image : Nat → Int32) (H : Heap) (locs : List Loc) (ls : Array Slot), va_P D vwCl [(a_t, .inr (10, [.ref a_t_roads, .int t_homes, .int t_there, .ref a_t_book, .ref a_t_now, .int t_meetings, .ref a_t_meeting, .int t_sights, .ref a_t_sight, .int t_signs, .ref a_t_pad, .int t_touched, .int t_firstTouch, .int t_reason, .int t_acts, .ref a_t_apart, .ref a_t_rounds, .ref a_t_fewest, .ref a_t_nextFewest, .ref a_t_ways, .ref a_t_nextWays, .ref a_t_counts, .ref a_t_image, .ref a_t_isKept])), (a_t_roads, .inl (cI, 12, .inl t_roads)), (a_t_book, .inl (cI, 25, .inl t_book)), (a_t_meeting, .inl (cI, 16, .inl t_meeting)), (a_t_sight, .inl (cI, 24, .inl t_sight)), (a_t_image, .inl (cI, 180, .inl x19t_image)), (a_t_isKept, .inl (cZ, 2, .inl t_isKept))] H → va_D A [(a_t, .inr (10, [.ref a_t_roads, .int t_homes, .int t_there, .ref a_t_book, .ref a_t_now, .int t_meetings, .ref a_t_meeting, .int t_sights, .ref a_t_sight, .int t_signs, .ref a_t_pad, .int t_touched, .int t_firstTouch, .int t_reason, .int t_acts, .ref a_t_apart, .ref a_t_rounds, .ref a_t_fewest, .ref a_t_nextFewest, .ref a_t_ways, .ref a_t_nextWays, .ref a_t_counts, .ref a_t_image, .ref a_t_isKept])), (a_t_roads, .inl (cI, 12, .inl t_roads)), (a_t_book, .inl (cI, 25, .inl t_book)), (a_t_meeting, .inl (cI, 16, .inl t_meeting)), (a_t_sight, .inl (cI, 24, .inl t_sight)), (a_t_image, .inl (cI, 180, .inl x19t_image)), (a_t_isKept, .inl (cZ, 2, .inl t_isKept))] → va_S A s.heap H locs → lv_has ls 4 [(0, .ref a_t), (1, .int p1), (2, .int x19v2)] → f_X10_image_X19 t_homes t_there t_meetings t_sights t_roads t_meeting t_sight t_isKept p1 x19v2 x19t_image = some res → W p l e rm_X10_image s m args below meth c H locs 0 0 Q (F0 m 45 ls []) := by
      intro x19v2 x19t_image H locs ls hP hD hS hl hf
      rw [f_X10_image_X19] at hf
      refine lv_iconst (v := 0) hx hb dX10_image_45 (by decide) ?_
      refine lv_istore_n (lv' := [(3, .int (0 : Int32)), (0, .ref a_t), (1, .int p1), (2, .int x19v2)]) hx hb dX10_image_46 rfl hl (by decide) rfl (fun ls hl => ?_)
      have hX47 : ∀ (x47t_image : Nat → Int32) (H : Heap) (locs : List Loc) (ls : Array Slot), va_P D vwCl [(a_t, .inr (10, [.ref a_t_roads, .int t_homes, .int t_there, .ref a_t_book, .ref a_t_now, .int t_meetings, .ref a_t_meeting, .int t_sights, .ref a_t_sight, .int t_signs, .ref a_t_pad, .int t_touched, .int t_firstTouch, .int t_reason, .int t_acts, .ref a_t_apart, .ref a_t_rounds, .ref a_t_fewest, .ref a_t_nextFewest, .ref a_t_ways, .ref a_t_nextWays, .ref a_t_counts, .ref a_t_image, .ref a_t_isKept])), (a_t_roads, .inl (cI, 12, .inl t_roads)), (a_t_book, .inl (cI, 25, .inl t_book)), (a_t_meeting, .inl (cI, 16, .inl t_meeting)), (a_t_sight, .inl (cI, 24, .inl t_sight)), (a_t_image, .inl (cI, 180, .inl x47t_image)), (a_t_isKept, .inl (cZ, 2, .inl t_isKept))] H → va_D A [(a_t, .inr (10, [.ref a_t_roads, .int t_homes, .int t_there, .ref a_t_book, .ref a_t_now, .int t_meetings, .ref a_t_meeting, .int t_sights, .ref a_t_sight, .int t_signs, .ref a_t_pad, .int t_touched, .int t_firstTouch, .int t_reason, .int t_acts, .ref a_t_apart, .ref a_t_rounds, .ref a_t_fewest, .ref a_t_nextFewest, .ref a_t_ways, .ref a_t_nextWays, .ref a_t_counts, .ref a_t_image, .ref a_t_isKept])), (a_t_roads, .inl (cI, 12, .inl t_roads)), (a_t_book, .inl (cI, 25, .inl t_book)), (a_t_meeting, .inl (cI, 16, .inl t_meeting)), (a_t_sight, .inl (cI, 24, .inl t_sight)), (a_t_image, .inl (cI, 180, .inl x47t_image)), (a_t_isKept, .inl (cZ, 2, .inl t_isKept))] → va_S A s.heap H locs → lv_has ls 4 [(0, .ref a_t), (1, .int p1), (2, .int x19v2)] → f_X10_image_X47 t_homes t_there t_meetings t_sights t_meeting t_sight t_isKept p1 x19v2 x47t_image = some res → W p l e rm_X10_image s m args below meth c H locs 0 0 Q (F0 m 76 ls []) := by
        intro x47t_image H locs ls hP hD hS hl hf
        rw [f_X10_image_X47] at hf
        refine lv_iconst (v := 0) hx hb dX10_image_76 (by decide) ?_
        refine lv_istore_n (lv' := [(3, .int (0 : Int32)), (0, .ref a_t), (1, .int p1), (2, .int x19v2)]) hx hb dX10_image_77 rfl hl (by decide) rfl (fun ls hl => ?_)
        have hX78 : ∀ (x78t_image : Nat → Int32) (H : Heap) (locs : List Loc) (ls : Array Slot), va_P D vwCl [(a_t, .inr (10, [.ref a_t_roads, .int t_homes, .int t_there, .ref a_t_book, .ref a_t_now, .int t_meetings, .ref a_t_meeting, .int t_sights, .ref a_t_sight, .int t_signs, .ref a_t_pad, .int t_touched, .int t_firstTouch, .int t_reason, .int t_acts, .ref a_t_apart, .ref a_t_rounds, .ref a_t_fewest, .ref a_t_nextFewest, .ref a_t_ways, .ref a_t_nextWays, .ref a_t_counts, .ref a_t_image, .ref a_t_isKept])), (a_t_roads, .inl (cI, 12, .inl t_roads)), (a_t_book, .inl (cI, 25, .inl t_book)), (a_t_meeting, .inl (cI, 16, .inl t_meeting)), (a_t_sight, .inl (cI, 24, .inl t_sight)), (a_t_image, .inl (cI, 180, .inl x78t_image)), (a_t_isKept, .inl (cZ, 2, .inl t_isKept))] H → va_D A [(a_t, .inr (10, [.ref a_t_roads, .int t_homes, .int t_there, .ref a_t_book, .ref a_t_now, .int t_meetings, .ref a_t_meeting, .int t_sights, .ref a_t_sight, .int t_signs, .ref a_t_pad, .int t_touched, .int t_firstTouch, .int t_reason, .int t_acts, .ref a_t_apart, .ref a_t_rounds, .ref a_t_fewest, .ref a_t_nextFewest, .ref a_t_ways, .ref a_t_nextWays, .ref a_t_counts, .ref a_t_image, .ref a_t_isKept])), (a_t_roads, .inl (cI, 12, .inl t_roads)), (a_t_book, .inl (cI, 25, .inl t_book)), (a_t_meeting, .inl (cI, 16, .inl t_meeting)), (a_t_sight, .inl (cI, 24, .inl t_sight)), (a_t_image, .inl (cI, 180, .inl x78t_image)), (a_t_isKept, .inl (cZ, 2, .inl t_isKept))] → va_S A s.heap H locs → lv_has ls 4 [(0, .ref a_t), (1, .int p1), (2, .int x19v2)] → f_X10_image_X78 t_homes t_there t_meetings t_sights t_sight t_isKept p1 x19v2 x78t_image = some res → W p l e rm_X10_image s m args below meth c H locs 0 0 Q (F0 m 107 ls []) := by
          intro x78t_image H locs ls hP hD hS hl hf
          rw [f_X10_image_X78] at hf
          refine lv_iconst (v := 0) hx hb dX10_image_107 (by decide) ?_
          refine lv_istore_n (lv' := [(3, .int (0 : Int32)), (0, .ref a_t), (1, .int p1), (2, .int x19v2)]) hx hb dX10_image_108 rfl hl (by decide) rfl (fun ls hl => ?_)
          have hX109 : ∀ (x109t_image : Nat → Int32) (H : Heap) (locs : List Loc) (ls : Array Slot), va_P D vwCl [(a_t, .inr (10, [.ref a_t_roads, .int t_homes, .int t_there, .ref a_t_book, .ref a_t_now, .int t_meetings, .ref a_t_meeting, .int t_sights, .ref a_t_sight, .int t_signs, .ref a_t_pad, .int t_touched, .int t_firstTouch, .int t_reason, .int t_acts, .ref a_t_apart, .ref a_t_rounds, .ref a_t_fewest, .ref a_t_nextFewest, .ref a_t_ways, .ref a_t_nextWays, .ref a_t_counts, .ref a_t_image, .ref a_t_isKept])), (a_t_roads, .inl (cI, 12, .inl t_roads)), (a_t_book, .inl (cI, 25, .inl t_book)), (a_t_meeting, .inl (cI, 16, .inl t_meeting)), (a_t_sight, .inl (cI, 24, .inl t_sight)), (a_t_image, .inl (cI, 180, .inl x109t_image)), (a_t_isKept, .inl (cZ, 2, .inl t_isKept))] H → va_D A [(a_t, .inr (10, [.ref a_t_roads, .int t_homes, .int t_there, .ref a_t_book, .ref a_t_now, .int t_meetings, .ref a_t_meeting, .int t_sights, .ref a_t_sight, .int t_signs, .ref a_t_pad, .int t_touched, .int t_firstTouch, .int t_reason, .int t_acts, .ref a_t_apart, .ref a_t_rounds, .ref a_t_fewest, .ref a_t_nextFewest, .ref a_t_ways, .ref a_t_nextWays, .ref a_t_counts, .ref a_t_image, .ref a_t_isKept])), (a_t_roads, .inl (cI, 12, .inl t_roads)), (a_t_book, .inl (cI, 25, .inl t_book)), (a_t_meeting, .inl (cI, 16, .inl t_meeting)), (a_t_sight, .inl (cI, 24, .inl t_sight)), (a_t_image, .inl (cI, 180, .inl x109t_image)), (a_t_isKept, .inl (cZ, 2, .inl t_isKept))] → va_S A s.heap H locs → lv_has ls 4 [(0, .ref a_t), (1, .int p1), (2, .int x19v2)] → f_X10_image_X109 t_homes t_there t_meetings t_sights t_isKept p1 x19v2 x109t_image = some res → W p l e rm_X10_image s m args below meth c H locs 0 0 Q (F0 m 138 ls []) := by
            intro x109t_image H locs ls hP hD hS hl hf
            rw [f_X10_image_X109] at hf
            refine lv_aload_n hx hb dX10_image_138 rfl (lv_at hl 0 rfl) ?_
            refine va_get (D := D) (ci := 10) (v := .ref a_t_image) (C := RX10) (T := TX10) (N := 24) hx hb hts hmsX10 hown hK hP 0 rfl rfl 22 (by decide) hw50 (fun _ h9 => h9) rfl dX10_image_139 ?_
            refine lv_iload_n hx hb dX10_image_142 rfl (lv_at hl 2 rfl) ?_
            refine lv_bipush (v := 80) hx hb dX10_image_143 (by decide) ?_
            refine lv_iadd hx hb dX10_image_145 ?_
            refine lv_aload_n hx hb dX10_image_146 rfl (lv_at hl 0 rfl) ?_
            refine va_get (D := D) (ci := 10) (v := .int t_homes) (C := RX10) (T := TX10) (N := 24) hx hb hts hmsX10 hown hK hP 0 rfl rfl 1 (by decide) hw80 (fun _ h9 => h9) rfl dX10_image_147 ?_
            obtain ⟨hi150, hf⟩ := ix_if hf
            refine va_iast (D := D) hx hb hK hP hD hS 5 0 rfl rfl hi150 dX10_image_150 (fun H locs hP hD hS => ?_)
            replace hP : va_P D vwCl [(a_t, .inr (10, [.ref a_t_roads, .int t_homes, .int t_there, .ref a_t_book, .ref a_t_now, .int t_meetings, .ref a_t_meeting, .int t_sights, .ref a_t_sight, .int t_signs, .ref a_t_pad, .int t_touched, .int t_firstTouch, .int t_reason, .int t_acts, .ref a_t_apart, .ref a_t_rounds, .ref a_t_fewest, .ref a_t_nextFewest, .ref a_t_ways, .ref a_t_nextWays, .ref a_t_counts, .ref a_t_image, .ref a_t_isKept])), (a_t_roads, .inl (cI, 12, .inl t_roads)), (a_t_book, .inl (cI, 25, .inl t_book)), (a_t_meeting, .inl (cI, 16, .inl t_meeting)), (a_t_sight, .inl (cI, 24, .inl t_sight)), (a_t_image, .inl (cI, 180, .inl (upd x109t_image (x19v2 + (80 : Int32)).toNatClampNeg t_homes))), (a_t_isKept, .inl (cZ, 2, .inl t_isKept))] H := hP
            replace hD : va_D A [(a_t, .inr (10, [.ref a_t_roads, .int t_homes, .int t_there, .ref a_t_book, .ref a_t_now, .int t_meetings, .ref a_t_meeting, .int t_sights, .ref a_t_sight, .int t_signs, .ref a_t_pad, .int t_touched, .int t_firstTouch, .int t_reason, .int t_acts, .ref a_t_apart, .ref a_t_rounds, .ref a_t_fewest, .ref a_t_nextFewest, .ref a_t_ways, .ref a_t_nextWays, .ref a_t_counts, .ref a_t_image, .ref a_t_isKept])), (a_t_roads, .inl (cI, 12, .inl t_roads)), (a_t_book, .inl (cI, 25, .inl t_book)), (a_t_meeting, .inl (cI, 16, .inl t_meeting)), (a_t_sight, .inl (cI, 24, .inl t_sight)), (a_t_image, .inl (cI, 180, .inl (upd x109t_image (x19v2 + (80 : Int32)).toNatClampNeg t_homes))), (a_t_isKept, .inl (cZ, 2, .inl t_isKept))] := hD
            refine lv_aload_n hx hb dX10_image_151 rfl (lv_at hl 0 rfl) ?_
            refine va_get (D := D) (ci := 10) (v := .ref a_t_image) (C := RX10) (T := TX10) (N := 24) hx hb hts hmsX10 hown hK hP 0 rfl rfl 22 (by decide) hw50 (fun _ h9 => h9) rfl dX10_image_152 ?_
            refine lv_iload_n hx hb dX10_image_155 rfl (lv_at hl 2 rfl) ?_
            refine lv_bipush (v := 81) hx hb dX10_image_156 (by decide) ?_
            refine lv_iadd hx hb dX10_image_158 ?_
            refine lv_aload_n hx hb dX10_image_159 rfl (lv_at hl 0 rfl) ?_
            refine va_get (D := D) (ci := 10) (v := .int t_there) (C := RX10) (T := TX10) (N := 24) hx hb hts hmsX10 hown hK hP 0 rfl rfl 2 (by decide) hw65 (fun _ h9 => h9) rfl dX10_image_160 ?_
            obtain ⟨hi163, hf⟩ := ix_if hf
            refine va_iast (D := D) hx hb hK hP hD hS 5 0 rfl rfl hi163 dX10_image_163 (fun H locs hP hD hS => ?_)
            replace hP : va_P D vwCl [(a_t, .inr (10, [.ref a_t_roads, .int t_homes, .int t_there, .ref a_t_book, .ref a_t_now, .int t_meetings, .ref a_t_meeting, .int t_sights, .ref a_t_sight, .int t_signs, .ref a_t_pad, .int t_touched, .int t_firstTouch, .int t_reason, .int t_acts, .ref a_t_apart, .ref a_t_rounds, .ref a_t_fewest, .ref a_t_nextFewest, .ref a_t_ways, .ref a_t_nextWays, .ref a_t_counts, .ref a_t_image, .ref a_t_isKept])), (a_t_roads, .inl (cI, 12, .inl t_roads)), (a_t_book, .inl (cI, 25, .inl t_book)), (a_t_meeting, .inl (cI, 16, .inl t_meeting)), (a_t_sight, .inl (cI, 24, .inl t_sight)), (a_t_image, .inl (cI, 180, .inl (upd (upd x109t_image (x19v2 + (80 : Int32)).toNatClampNeg t_homes) (x19v2 + (81 : Int32)).toNatClampNeg t_there))), (a_t_isKept, .inl (cZ, 2, .inl t_isKept))] H := hP
            replace hD : va_D A [(a_t, .inr (10, [.ref a_t_roads, .int t_homes, .int t_there, .ref a_t_book, .ref a_t_now, .int t_meetings, .ref a_t_meeting, .int t_sights, .ref a_t_sight, .int t_signs, .ref a_t_pad, .int t_touched, .int t_firstTouch, .int t_reason, .int t_acts, .ref a_t_apart, .ref a_t_rounds, .ref a_t_fewest, .ref a_t_nextFewest, .ref a_t_ways, .ref a_t_nextWays, .ref a_t_counts, .ref a_t_image, .ref a_t_isKept])), (a_t_roads, .inl (cI, 12, .inl t_roads)), (a_t_book, .inl (cI, 25, .inl t_book)), (a_t_meeting, .inl (cI, 16, .inl t_meeting)), (a_t_sight, .inl (cI, 24, .inl t_sight)), (a_t_image, .inl (cI, 180, .inl (upd (upd x109t_image (x19v2 + (80 : Int32)).toNatClampNeg t_homes) (x19v2 + (81 : Int32)).toNatClampNeg t_there))), (a_t_isKept, .inl (cZ, 2, .inl t_isKept))] := hD
            refine lv_aload_n hx hb dX10_image_164 rfl (lv_at hl 0 rfl) ?_
            refine va_get (D := D) (ci := 10) (v := .ref a_t_image) (C := RX10) (T := TX10) (N := 24) hx hb hts hmsX10 hown hK hP 0 rfl rfl 22 (by decide) hw50 (fun _ h9 => h9) rfl dX10_image_165 ?_
            refine lv_iload_n hx hb dX10_image_168 rfl (lv_at hl 2 rfl) ?_
            refine lv_bipush (v := 82) hx hb dX10_image_169 (by decide) ?_
            refine lv_iadd hx hb dX10_image_171 ?_
            refine lv_aload_n hx hb dX10_image_172 rfl (lv_at hl 0 rfl) ?_
            refine va_get (D := D) (ci := 10) (v := .int t_meetings) (C := RX10) (T := TX10) (N := 24) hx hb hts hmsX10 hown hK hP 0 rfl rfl 5 (by decide) hw149 (fun _ h9 => h9) rfl dX10_image_173 ?_
            obtain ⟨hi176, hf⟩ := ix_if hf
            refine va_iast (D := D) hx hb hK hP hD hS 5 0 rfl rfl hi176 dX10_image_176 (fun H locs hP hD hS => ?_)
            replace hP : va_P D vwCl [(a_t, .inr (10, [.ref a_t_roads, .int t_homes, .int t_there, .ref a_t_book, .ref a_t_now, .int t_meetings, .ref a_t_meeting, .int t_sights, .ref a_t_sight, .int t_signs, .ref a_t_pad, .int t_touched, .int t_firstTouch, .int t_reason, .int t_acts, .ref a_t_apart, .ref a_t_rounds, .ref a_t_fewest, .ref a_t_nextFewest, .ref a_t_ways, .ref a_t_nextWays, .ref a_t_counts, .ref a_t_image, .ref a_t_isKept])), (a_t_roads, .inl (cI, 12, .inl t_roads)), (a_t_book, .inl (cI, 25, .inl t_book)), (a_t_meeting, .inl (cI, 16, .inl t_meeting)), (a_t_sight, .inl (cI, 24, .inl t_sight)), (a_t_image, .inl (cI, 180, .inl (upd (upd (upd x109t_image (x19v2 + (80 : Int32)).toNatClampNeg t_homes) (x19v2 + (81 : Int32)).toNatClampNeg t_there) (x19v2 + (82 : Int32)).toNatClampNeg t_meetings))), (a_t_isKept, .inl (cZ, 2, .inl t_isKept))] H := hP
            replace hD : va_D A [(a_t, .inr (10, [.ref a_t_roads, .int t_homes, .int t_there, .ref a_t_book, .ref a_t_now, .int t_meetings, .ref a_t_meeting, .int t_sights, .ref a_t_sight, .int t_signs, .ref a_t_pad, .int t_touched, .int t_firstTouch, .int t_reason, .int t_acts, .ref a_t_apart, .ref a_t_rounds, .ref a_t_fewest, .ref a_t_nextFewest, .ref a_t_ways, .ref a_t_nextWays, .ref a_t_counts, .ref a_t_image, .ref a_t_isKept])), (a_t_roads, .inl (cI, 12, .inl t_roads)), (a_t_book, .inl (cI, 25, .inl t_book)), (a_t_meeting, .inl (cI, 16, .inl t_meeting)), (a_t_sight, .inl (cI, 24, .inl t_sight)), (a_t_image, .inl (cI, 180, .inl (upd (upd (upd x109t_image (x19v2 + (80 : Int32)).toNatClampNeg t_homes) (x19v2 + (81 : Int32)).toNatClampNeg t_there) (x19v2 + (82 : Int32)).toNatClampNeg t_meetings))), (a_t_isKept, .inl (cZ, 2, .inl t_isKept))] := hD
            refine lv_aload_n hx hb dX10_image_177 rfl (lv_at hl 0 rfl) ?_
            refine va_get (D := D) (ci := 10) (v := .ref a_t_image) (C := RX10) (T := TX10) (N := 24) hx hb hts hmsX10 hown hK hP 0 rfl rfl 22 (by decide) hw50 (fun _ h9 => h9) rfl dX10_image_178 ?_
            refine lv_iload_n hx hb dX10_image_181 rfl (lv_at hl 2 rfl) ?_
            refine lv_bipush (v := 83) hx hb dX10_image_182 (by decide) ?_
            refine lv_iadd hx hb dX10_image_184 ?_
            refine lv_aload_n hx hb dX10_image_185 rfl (lv_at hl 0 rfl) ?_
            refine va_get (D := D) (ci := 10) (v := .int t_sights) (C := RX10) (T := TX10) (N := 24) hx hb hts hmsX10 hown hK hP 0 rfl rfl 7 (by decide) hw165 (fun _ h9 => h9) rfl dX10_image_186 ?_
            obtain ⟨hi189, hf⟩ := ix_if hf
            refine va_iast (D := D) hx hb hK hP hD hS 5 0 rfl rfl hi189 dX10_image_189 (fun H locs hP hD hS => ?_)
            replace hP : va_P D vwCl [(a_t, .inr (10, [.ref a_t_roads, .int t_homes, .int t_there, .ref a_t_book, .ref a_t_now, .int t_meetings, .ref a_t_meeting, .int t_sights, .ref a_t_sight, .int t_signs, .ref a_t_pad, .int t_touched, .int t_firstTouch, .int t_reason, .int t_acts, .ref a_t_apart, .ref a_t_rounds, .ref a_t_fewest, .ref a_t_nextFewest, .ref a_t_ways, .ref a_t_nextWays, .ref a_t_counts, .ref a_t_image, .ref a_t_isKept])), (a_t_roads, .inl (cI, 12, .inl t_roads)), (a_t_book, .inl (cI, 25, .inl t_book)), (a_t_meeting, .inl (cI, 16, .inl t_meeting)), (a_t_sight, .inl (cI, 24, .inl t_sight)), (a_t_image, .inl (cI, 180, .inl (upd (upd (upd (upd x109t_image (x19v2 + (80 : Int32)).toNatClampNeg t_homes) (x19v2 + (81 : Int32)).toNatClampNeg t_there) (x19v2 + (82 : Int32)).toNatClampNeg t_meetings) (x19v2 + (83 : Int32)).toNatClampNeg t_sights))), (a_t_isKept, .inl (cZ, 2, .inl t_isKept))] H := hP
            replace hD : va_D A [(a_t, .inr (10, [.ref a_t_roads, .int t_homes, .int t_there, .ref a_t_book, .ref a_t_now, .int t_meetings, .ref a_t_meeting, .int t_sights, .ref a_t_sight, .int t_signs, .ref a_t_pad, .int t_touched, .int t_firstTouch, .int t_reason, .int t_acts, .ref a_t_apart, .ref a_t_rounds, .ref a_t_fewest, .ref a_t_nextFewest, .ref a_t_ways, .ref a_t_nextWays, .ref a_t_counts, .ref a_t_image, .ref a_t_isKept])), (a_t_roads, .inl (cI, 12, .inl t_roads)), (a_t_book, .inl (cI, 25, .inl t_book)), (a_t_meeting, .inl (cI, 16, .inl t_meeting)), (a_t_sight, .inl (cI, 24, .inl t_sight)), (a_t_image, .inl (cI, 180, .inl (upd (upd (upd (upd x109t_image (x19v2 + (80 : Int32)).toNatClampNeg t_homes) (x19v2 + (81 : Int32)).toNatClampNeg t_there) (x19v2 + (82 : Int32)).toNatClampNeg t_meetings) (x19v2 + (83 : Int32)).toNatClampNeg t_sights))), (a_t_isKept, .inl (cZ, 2, .inl t_isKept))] := hD
            refine lv_aload_n hx hb dX10_image_190 rfl (lv_at hl 0 rfl) ?_
            refine va_get (D := D) (ci := 10) (v := .ref a_t_isKept) (C := RX10) (T := TX10) (N := 24) hx hb hts hmsX10 hown hK hP 0 rfl rfl 23 (by decide) hw53 (fun _ h9 => h9) rfl dX10_image_191 ?_
            refine lv_iload_n hx hb dX10_image_194 rfl (lv_at hl 1 rfl) ?_
            refine lv_iconst (v := 1) hx hb dX10_image_195 (by decide) ?_
            obtain ⟨hi196, hf⟩ := ix_if hf
            refine va_zast (D := D) hx hb hK hP hD hS 6 2 rfl rfl hi196 dX10_image_196 (fun H locs hP hD hS => ?_)
            replace hP : va_P D vwCl [(a_t, .inr (10, [.ref a_t_roads, .int t_homes, .int t_there, .ref a_t_book, .ref a_t_now, .int t_meetings, .ref a_t_meeting, .int t_sights, .ref a_t_sight, .int t_signs, .ref a_t_pad, .int t_touched, .int t_firstTouch, .int t_reason, .int t_acts, .ref a_t_apart, .ref a_t_rounds, .ref a_t_fewest, .ref a_t_nextFewest, .ref a_t_ways, .ref a_t_nextWays, .ref a_t_counts, .ref a_t_image, .ref a_t_isKept])), (a_t_roads, .inl (cI, 12, .inl t_roads)), (a_t_book, .inl (cI, 25, .inl t_book)), (a_t_meeting, .inl (cI, 16, .inl t_meeting)), (a_t_sight, .inl (cI, 24, .inl t_sight)), (a_t_image, .inl (cI, 180, .inl (upd (upd (upd (upd x109t_image (x19v2 + (80 : Int32)).toNatClampNeg t_homes) (x19v2 + (81 : Int32)).toNatClampNeg t_there) (x19v2 + (82 : Int32)).toNatClampNeg t_meetings) (x19v2 + (83 : Int32)).toNatClampNeg t_sights))), (a_t_isKept, .inl (cZ, 2, .inl (upd t_isKept p1.toNatClampNeg (vp_nar .boolean (1 : Int32)))))] H := hP
            replace hD : va_D A [(a_t, .inr (10, [.ref a_t_roads, .int t_homes, .int t_there, .ref a_t_book, .ref a_t_now, .int t_meetings, .ref a_t_meeting, .int t_sights, .ref a_t_sight, .int t_signs, .ref a_t_pad, .int t_touched, .int t_firstTouch, .int t_reason, .int t_acts, .ref a_t_apart, .ref a_t_rounds, .ref a_t_fewest, .ref a_t_nextFewest, .ref a_t_ways, .ref a_t_nextWays, .ref a_t_counts, .ref a_t_image, .ref a_t_isKept])), (a_t_roads, .inl (cI, 12, .inl t_roads)), (a_t_book, .inl (cI, 25, .inl t_book)), (a_t_meeting, .inl (cI, 16, .inl t_meeting)), (a_t_sight, .inl (cI, 24, .inl t_sight)), (a_t_image, .inl (cI, 180, .inl (upd (upd (upd (upd x109t_image (x19v2 + (80 : Int32)).toNatClampNeg t_homes) (x19v2 + (81 : Int32)).toNatClampNeg t_there) (x19v2 + (82 : Int32)).toNatClampNeg t_meetings) (x19v2 + (83 : Int32)).toNatClampNeg t_sights))), (a_t_isKept, .inl (cZ, 2, .inl (upd t_isKept p1.toNatClampNeg (vp_nar .boolean (1 : Int32)))))] := hD
            refine lv_iconst (v := 1) hx hb dX10_image_197 (by decide) ?_
            obtain rfl := Option.some.inj hf
            exact fin _ _ _ _ dX10_image_198 hP hD hS
          have hL109 : ∀ (n109 : Nat), ∀ (l109v3 : Int32) (l109t_image : Nat → Int32) (H : Heap) (locs : List Loc) (ls : Array Slot), va_P D vwCl [(a_t, .inr (10, [.ref a_t_roads, .int t_homes, .int t_there, .ref a_t_book, .ref a_t_now, .int t_meetings, .ref a_t_meeting, .int t_sights, .ref a_t_sight, .int t_signs, .ref a_t_pad, .int t_touched, .int t_firstTouch, .int t_reason, .int t_acts, .ref a_t_apart, .ref a_t_rounds, .ref a_t_fewest, .ref a_t_nextFewest, .ref a_t_ways, .ref a_t_nextWays, .ref a_t_counts, .ref a_t_image, .ref a_t_isKept])), (a_t_roads, .inl (cI, 12, .inl t_roads)), (a_t_book, .inl (cI, 25, .inl t_book)), (a_t_meeting, .inl (cI, 16, .inl t_meeting)), (a_t_sight, .inl (cI, 24, .inl t_sight)), (a_t_image, .inl (cI, 180, .inl l109t_image)), (a_t_isKept, .inl (cZ, 2, .inl t_isKept))] H → va_D A [(a_t, .inr (10, [.ref a_t_roads, .int t_homes, .int t_there, .ref a_t_book, .ref a_t_now, .int t_meetings, .ref a_t_meeting, .int t_sights, .ref a_t_sight, .int t_signs, .ref a_t_pad, .int t_touched, .int t_firstTouch, .int t_reason, .int t_acts, .ref a_t_apart, .ref a_t_rounds, .ref a_t_fewest, .ref a_t_nextFewest, .ref a_t_ways, .ref a_t_nextWays, .ref a_t_counts, .ref a_t_image, .ref a_t_isKept])), (a_t_roads, .inl (cI, 12, .inl t_roads)), (a_t_book, .inl (cI, 25, .inl t_book)), (a_t_meeting, .inl (cI, 16, .inl t_meeting)), (a_t_sight, .inl (cI, 24, .inl t_sight)), (a_t_image, .inl (cI, 180, .inl l109t_image)), (a_t_isKept, .inl (cZ, 2, .inl t_isKept))] → va_S A s.heap H locs → lv_has ls 4 [(0, .ref a_t), (1, .int p1), (2, .int x19v2), (3, .int l109v3)] → f_X10_image_L109 t_sight x19v2 (f_X10_image_X109 t_homes t_there t_meetings t_sights t_isKept p1 x19v2) n109 l109v3 l109t_image = some res → W p l e rm_X10_image s m args below meth c H locs 0 0 Q (F0 m 109 ls []) := by
            intro n109
            induction n109 with
            | zero =>
              intro l109v3 l109t_image H locs ls hP hD hS hl hf
              rw [f_X10_image_L109] at hf
              cases hf
            | succ n109 ih109 =>
              intro l109v3 l109t_image H locs ls hP hD hS hl hf
              rw [f_X10_image_L109] at hf
              refine lv_iload_n hx hb dX10_image_109 rfl (lv_at hl 3 rfl) ?_
              refine lv_bipush (v := 24) hx hb dX10_image_110 (by decide) ?_
              refine lv_icmp_ge (tgt := 138) hx hb dX10_image_112 (by decide) (fun hc => ?_) (fun hc => ?_)
              · replace hf := (if_pos hc).symm.trans hf
                exact hX109 l109t_image _ _ _ hP hD hS (lv_sub hl [0, 1, 2] rfl) hf
              · replace hf := (if_neg hc).symm.trans hf
                refine lv_aload_n hx hb dX10_image_115 rfl (lv_at hl 0 rfl) ?_
                refine va_get (D := D) (ci := 10) (v := .ref a_t_image) (C := RX10) (T := TX10) (N := 24) hx hb hts hmsX10 hown hK hP 0 rfl rfl 22 (by decide) hw50 (fun _ h9 => h9) rfl dX10_image_116 ?_
                refine lv_iload_n hx hb dX10_image_119 rfl (lv_at hl 2 rfl) ?_
                refine lv_bipush (v := 53) hx hb dX10_image_120 (by decide) ?_
                refine lv_iadd hx hb dX10_image_122 ?_
                refine lv_iload_n hx hb dX10_image_123 rfl (lv_at hl 3 rfl) ?_
                refine lv_iadd hx hb dX10_image_124 ?_
                refine lv_aload_n hx hb dX10_image_125 rfl (lv_at hl 0 rfl) ?_
                refine va_get (D := D) (ci := 10) (v := .ref a_t_sight) (C := RX10) (T := TX10) (N := 24) hx hb hts hmsX10 hown hK hP 0 rfl rfl 8 (by decide) hw22 (fun _ h9 => h9) rfl dX10_image_126 ?_
                refine lv_iload_n hx hb dX10_image_129 rfl (lv_at hl 3 rfl) ?_
                obtain ⟨hi130, hf⟩ := ix_if hf
                refine va_iald (D := D) hx hb hK hP 4 0 rfl rfl hi130 dX10_image_130 ?_
                obtain ⟨hi131, hf⟩ := ix_if hf
                refine va_iast (D := D) hx hb hK hP hD hS 5 0 rfl rfl hi131 dX10_image_131 (fun H locs hP hD hS => ?_)
                replace hP : va_P D vwCl [(a_t, .inr (10, [.ref a_t_roads, .int t_homes, .int t_there, .ref a_t_book, .ref a_t_now, .int t_meetings, .ref a_t_meeting, .int t_sights, .ref a_t_sight, .int t_signs, .ref a_t_pad, .int t_touched, .int t_firstTouch, .int t_reason, .int t_acts, .ref a_t_apart, .ref a_t_rounds, .ref a_t_fewest, .ref a_t_nextFewest, .ref a_t_ways, .ref a_t_nextWays, .ref a_t_counts, .ref a_t_image, .ref a_t_isKept])), (a_t_roads, .inl (cI, 12, .inl t_roads)), (a_t_book, .inl (cI, 25, .inl t_book)), (a_t_meeting, .inl (cI, 16, .inl t_meeting)), (a_t_sight, .inl (cI, 24, .inl t_sight)), (a_t_image, .inl (cI, 180, .inl (upd l109t_image ((x19v2 + (53 : Int32)) + l109v3).toNatClampNeg (t_sight l109v3.toNatClampNeg)))), (a_t_isKept, .inl (cZ, 2, .inl t_isKept))] H := hP
                replace hD : va_D A [(a_t, .inr (10, [.ref a_t_roads, .int t_homes, .int t_there, .ref a_t_book, .ref a_t_now, .int t_meetings, .ref a_t_meeting, .int t_sights, .ref a_t_sight, .int t_signs, .ref a_t_pad, .int t_touched, .int t_firstTouch, .int t_reason, .int t_acts, .ref a_t_apart, .ref a_t_rounds, .ref a_t_fewest, .ref a_t_nextFewest, .ref a_t_ways, .ref a_t_nextWays, .ref a_t_counts, .ref a_t_image, .ref a_t_isKept])), (a_t_roads, .inl (cI, 12, .inl t_roads)), (a_t_book, .inl (cI, 25, .inl t_book)), (a_t_meeting, .inl (cI, 16, .inl t_meeting)), (a_t_sight, .inl (cI, 24, .inl t_sight)), (a_t_image, .inl (cI, 180, .inl (upd l109t_image ((x19v2 + (53 : Int32)) + l109v3).toNatClampNeg (t_sight l109v3.toNatClampNeg)))), (a_t_isKept, .inl (cZ, 2, .inl t_isKept))] := hD
                refine lv_iinc (v := l109v3 + 1) (lv' := [(3, .int (l109v3 + 1)), (0, .ref a_t), (1, .int p1), (2, .int x19v2)]) hx hb dX10_image_132 hl (k := 3) rfl rfl (by decide) rfl (fun ls hl => ?_)
                refine lv_goto (tgt := 109) hx hb dX10_image_135 (by decide) ?_
                exact ih109 (l109v3 + 1) (upd l109t_image ((x19v2 + (53 : Int32)) + l109v3).toNatClampNeg (t_sight l109v3.toNatClampNeg)) _ _ _ hP hD hS (lv_sub hl [1, 2, 3, 0] rfl) hf
          exact hL109 5000 (0 : Int32) x78t_image _ _ _ hP hD hS (lv_sub hl [1, 2, 3, 0] rfl) hf
        have hL78 : ∀ (n78 : Nat), ∀ (l78v3 : Int32) (l78t_image : Nat → Int32) (H : Heap) (locs : List Loc) (ls : Array Slot), va_P D vwCl [(a_t, .inr (10, [.ref a_t_roads, .int t_homes, .int t_there, .ref a_t_book, .ref a_t_now, .int t_meetings, .ref a_t_meeting, .int t_sights, .ref a_t_sight, .int t_signs, .ref a_t_pad, .int t_touched, .int t_firstTouch, .int t_reason, .int t_acts, .ref a_t_apart, .ref a_t_rounds, .ref a_t_fewest, .ref a_t_nextFewest, .ref a_t_ways, .ref a_t_nextWays, .ref a_t_counts, .ref a_t_image, .ref a_t_isKept])), (a_t_roads, .inl (cI, 12, .inl t_roads)), (a_t_book, .inl (cI, 25, .inl t_book)), (a_t_meeting, .inl (cI, 16, .inl t_meeting)), (a_t_sight, .inl (cI, 24, .inl t_sight)), (a_t_image, .inl (cI, 180, .inl l78t_image)), (a_t_isKept, .inl (cZ, 2, .inl t_isKept))] H → va_D A [(a_t, .inr (10, [.ref a_t_roads, .int t_homes, .int t_there, .ref a_t_book, .ref a_t_now, .int t_meetings, .ref a_t_meeting, .int t_sights, .ref a_t_sight, .int t_signs, .ref a_t_pad, .int t_touched, .int t_firstTouch, .int t_reason, .int t_acts, .ref a_t_apart, .ref a_t_rounds, .ref a_t_fewest, .ref a_t_nextFewest, .ref a_t_ways, .ref a_t_nextWays, .ref a_t_counts, .ref a_t_image, .ref a_t_isKept])), (a_t_roads, .inl (cI, 12, .inl t_roads)), (a_t_book, .inl (cI, 25, .inl t_book)), (a_t_meeting, .inl (cI, 16, .inl t_meeting)), (a_t_sight, .inl (cI, 24, .inl t_sight)), (a_t_image, .inl (cI, 180, .inl l78t_image)), (a_t_isKept, .inl (cZ, 2, .inl t_isKept))] → va_S A s.heap H locs → lv_has ls 4 [(0, .ref a_t), (1, .int p1), (2, .int x19v2), (3, .int l78v3)] → f_X10_image_L78 t_meeting x19v2 (f_X10_image_X78 t_homes t_there t_meetings t_sights t_sight t_isKept p1 x19v2) n78 l78v3 l78t_image = some res → W p l e rm_X10_image s m args below meth c H locs 0 0 Q (F0 m 78 ls []) := by
          intro n78
          induction n78 with
          | zero =>
            intro l78v3 l78t_image H locs ls hP hD hS hl hf
            rw [f_X10_image_L78] at hf
            cases hf
          | succ n78 ih78 =>
            intro l78v3 l78t_image H locs ls hP hD hS hl hf
            rw [f_X10_image_L78] at hf
            refine lv_iload_n hx hb dX10_image_78 rfl (lv_at hl 3 rfl) ?_
            refine lv_bipush (v := 16) hx hb dX10_image_79 (by decide) ?_
            refine lv_icmp_ge (tgt := 107) hx hb dX10_image_81 (by decide) (fun hc => ?_) (fun hc => ?_)
            · replace hf := (if_pos hc).symm.trans hf
              exact hX78 l78t_image _ _ _ hP hD hS (lv_sub hl [0, 1, 2] rfl) hf
            · replace hf := (if_neg hc).symm.trans hf
              refine lv_aload_n hx hb dX10_image_84 rfl (lv_at hl 0 rfl) ?_
              refine va_get (D := D) (ci := 10) (v := .ref a_t_image) (C := RX10) (T := TX10) (N := 24) hx hb hts hmsX10 hown hK hP 0 rfl rfl 22 (by decide) hw50 (fun _ h9 => h9) rfl dX10_image_85 ?_
              refine lv_iload_n hx hb dX10_image_88 rfl (lv_at hl 2 rfl) ?_
              refine lv_bipush (v := 37) hx hb dX10_image_89 (by decide) ?_
              refine lv_iadd hx hb dX10_image_91 ?_
              refine lv_iload_n hx hb dX10_image_92 rfl (lv_at hl 3 rfl) ?_
              refine lv_iadd hx hb dX10_image_93 ?_
              refine lv_aload_n hx hb dX10_image_94 rfl (lv_at hl 0 rfl) ?_
              refine va_get (D := D) (ci := 10) (v := .ref a_t_meeting) (C := RX10) (T := TX10) (N := 24) hx hb hts hmsX10 hown hK hP 0 rfl rfl 6 (by decide) hw19 (fun _ h9 => h9) rfl dX10_image_95 ?_
              refine lv_iload_n hx hb dX10_image_98 rfl (lv_at hl 3 rfl) ?_
              obtain ⟨hi99, hf⟩ := ix_if hf
              refine va_iald (D := D) hx hb hK hP 3 0 rfl rfl hi99 dX10_image_99 ?_
              obtain ⟨hi100, hf⟩ := ix_if hf
              refine va_iast (D := D) hx hb hK hP hD hS 5 0 rfl rfl hi100 dX10_image_100 (fun H locs hP hD hS => ?_)
              replace hP : va_P D vwCl [(a_t, .inr (10, [.ref a_t_roads, .int t_homes, .int t_there, .ref a_t_book, .ref a_t_now, .int t_meetings, .ref a_t_meeting, .int t_sights, .ref a_t_sight, .int t_signs, .ref a_t_pad, .int t_touched, .int t_firstTouch, .int t_reason, .int t_acts, .ref a_t_apart, .ref a_t_rounds, .ref a_t_fewest, .ref a_t_nextFewest, .ref a_t_ways, .ref a_t_nextWays, .ref a_t_counts, .ref a_t_image, .ref a_t_isKept])), (a_t_roads, .inl (cI, 12, .inl t_roads)), (a_t_book, .inl (cI, 25, .inl t_book)), (a_t_meeting, .inl (cI, 16, .inl t_meeting)), (a_t_sight, .inl (cI, 24, .inl t_sight)), (a_t_image, .inl (cI, 180, .inl (upd l78t_image ((x19v2 + (37 : Int32)) + l78v3).toNatClampNeg (t_meeting l78v3.toNatClampNeg)))), (a_t_isKept, .inl (cZ, 2, .inl t_isKept))] H := hP
              replace hD : va_D A [(a_t, .inr (10, [.ref a_t_roads, .int t_homes, .int t_there, .ref a_t_book, .ref a_t_now, .int t_meetings, .ref a_t_meeting, .int t_sights, .ref a_t_sight, .int t_signs, .ref a_t_pad, .int t_touched, .int t_firstTouch, .int t_reason, .int t_acts, .ref a_t_apart, .ref a_t_rounds, .ref a_t_fewest, .ref a_t_nextFewest, .ref a_t_ways, .ref a_t_nextWays, .ref a_t_counts, .ref a_t_image, .ref a_t_isKept])), (a_t_roads, .inl (cI, 12, .inl t_roads)), (a_t_book, .inl (cI, 25, .inl t_book)), (a_t_meeting, .inl (cI, 16, .inl t_meeting)), (a_t_sight, .inl (cI, 24, .inl t_sight)), (a_t_image, .inl (cI, 180, .inl (upd l78t_image ((x19v2 + (37 : Int32)) + l78v3).toNatClampNeg (t_meeting l78v3.toNatClampNeg)))), (a_t_isKept, .inl (cZ, 2, .inl t_isKept))] := hD
              refine lv_iinc (v := l78v3 + 1) (lv' := [(3, .int (l78v3 + 1)), (0, .ref a_t), (1, .int p1), (2, .int x19v2)]) hx hb dX10_image_101 hl (k := 3) rfl rfl (by decide) rfl (fun ls hl => ?_)
              refine lv_goto (tgt := 78) hx hb dX10_image_104 (by decide) ?_
              exact ih78 (l78v3 + 1) (upd l78t_image ((x19v2 + (37 : Int32)) + l78v3).toNatClampNeg (t_meeting l78v3.toNatClampNeg)) _ _ _ hP hD hS (lv_sub hl [1, 2, 3, 0] rfl) hf
        exact hL78 5000 (0 : Int32) x47t_image _ _ _ hP hD hS (lv_sub hl [1, 2, 3, 0] rfl) hf
      have hL47 : ∀ (n47 : Nat), ∀ (l47v3 : Int32) (l47t_image : Nat → Int32) (H : Heap) (locs : List Loc) (ls : Array Slot), va_P D vwCl [(a_t, .inr (10, [.ref a_t_roads, .int t_homes, .int t_there, .ref a_t_book, .ref a_t_now, .int t_meetings, .ref a_t_meeting, .int t_sights, .ref a_t_sight, .int t_signs, .ref a_t_pad, .int t_touched, .int t_firstTouch, .int t_reason, .int t_acts, .ref a_t_apart, .ref a_t_rounds, .ref a_t_fewest, .ref a_t_nextFewest, .ref a_t_ways, .ref a_t_nextWays, .ref a_t_counts, .ref a_t_image, .ref a_t_isKept])), (a_t_roads, .inl (cI, 12, .inl t_roads)), (a_t_book, .inl (cI, 25, .inl t_book)), (a_t_meeting, .inl (cI, 16, .inl t_meeting)), (a_t_sight, .inl (cI, 24, .inl t_sight)), (a_t_image, .inl (cI, 180, .inl l47t_image)), (a_t_isKept, .inl (cZ, 2, .inl t_isKept))] H → va_D A [(a_t, .inr (10, [.ref a_t_roads, .int t_homes, .int t_there, .ref a_t_book, .ref a_t_now, .int t_meetings, .ref a_t_meeting, .int t_sights, .ref a_t_sight, .int t_signs, .ref a_t_pad, .int t_touched, .int t_firstTouch, .int t_reason, .int t_acts, .ref a_t_apart, .ref a_t_rounds, .ref a_t_fewest, .ref a_t_nextFewest, .ref a_t_ways, .ref a_t_nextWays, .ref a_t_counts, .ref a_t_image, .ref a_t_isKept])), (a_t_roads, .inl (cI, 12, .inl t_roads)), (a_t_book, .inl (cI, 25, .inl t_book)), (a_t_meeting, .inl (cI, 16, .inl t_meeting)), (a_t_sight, .inl (cI, 24, .inl t_sight)), (a_t_image, .inl (cI, 180, .inl l47t_image)), (a_t_isKept, .inl (cZ, 2, .inl t_isKept))] → va_S A s.heap H locs → lv_has ls 4 [(0, .ref a_t), (1, .int p1), (2, .int x19v2), (3, .int l47v3)] → f_X10_image_L47 t_roads x19v2 (f_X10_image_X47 t_homes t_there t_meetings t_sights t_meeting t_sight t_isKept p1 x19v2) n47 l47v3 l47t_image = some res → W p l e rm_X10_image s m args below meth c H locs 0 0 Q (F0 m 47 ls []) := by
        intro n47
        induction n47 with
        | zero =>
          intro l47v3 l47t_image H locs ls hP hD hS hl hf
          rw [f_X10_image_L47] at hf
          cases hf
        | succ n47 ih47 =>
          intro l47v3 l47t_image H locs ls hP hD hS hl hf
          rw [f_X10_image_L47] at hf
          refine lv_iload_n hx hb dX10_image_47 rfl (lv_at hl 3 rfl) ?_
          refine lv_bipush (v := 12) hx hb dX10_image_48 (by decide) ?_
          refine lv_icmp_ge (tgt := 76) hx hb dX10_image_50 (by decide) (fun hc => ?_) (fun hc => ?_)
          · replace hf := (if_pos hc).symm.trans hf
            exact hX47 l47t_image _ _ _ hP hD hS (lv_sub hl [0, 1, 2] rfl) hf
          · replace hf := (if_neg hc).symm.trans hf
            refine lv_aload_n hx hb dX10_image_53 rfl (lv_at hl 0 rfl) ?_
            refine va_get (D := D) (ci := 10) (v := .ref a_t_image) (C := RX10) (T := TX10) (N := 24) hx hb hts hmsX10 hown hK hP 0 rfl rfl 22 (by decide) hw50 (fun _ h9 => h9) rfl dX10_image_54 ?_
            refine lv_iload_n hx hb dX10_image_57 rfl (lv_at hl 2 rfl) ?_
            refine lv_bipush (v := 25) hx hb dX10_image_58 (by decide) ?_
            refine lv_iadd hx hb dX10_image_60 ?_
            refine lv_iload_n hx hb dX10_image_61 rfl (lv_at hl 3 rfl) ?_
            refine lv_iadd hx hb dX10_image_62 ?_
            refine lv_aload_n hx hb dX10_image_63 rfl (lv_at hl 0 rfl) ?_
            refine va_get (D := D) (ci := 10) (v := .ref a_t_roads) (C := RX10) (T := TX10) (N := 24) hx hb hts hmsX10 hown hK hP 0 rfl rfl 0 (by decide) hw7 (fun _ h9 => h9) rfl dX10_image_64 ?_
            refine lv_iload_n hx hb dX10_image_67 rfl (lv_at hl 3 rfl) ?_
            obtain ⟨hi68, hf⟩ := ix_if hf
            refine va_iald (D := D) hx hb hK hP 1 0 rfl rfl hi68 dX10_image_68 ?_
            obtain ⟨hi69, hf⟩ := ix_if hf
            refine va_iast (D := D) hx hb hK hP hD hS 5 0 rfl rfl hi69 dX10_image_69 (fun H locs hP hD hS => ?_)
            replace hP : va_P D vwCl [(a_t, .inr (10, [.ref a_t_roads, .int t_homes, .int t_there, .ref a_t_book, .ref a_t_now, .int t_meetings, .ref a_t_meeting, .int t_sights, .ref a_t_sight, .int t_signs, .ref a_t_pad, .int t_touched, .int t_firstTouch, .int t_reason, .int t_acts, .ref a_t_apart, .ref a_t_rounds, .ref a_t_fewest, .ref a_t_nextFewest, .ref a_t_ways, .ref a_t_nextWays, .ref a_t_counts, .ref a_t_image, .ref a_t_isKept])), (a_t_roads, .inl (cI, 12, .inl t_roads)), (a_t_book, .inl (cI, 25, .inl t_book)), (a_t_meeting, .inl (cI, 16, .inl t_meeting)), (a_t_sight, .inl (cI, 24, .inl t_sight)), (a_t_image, .inl (cI, 180, .inl (upd l47t_image ((x19v2 + (25 : Int32)) + l47v3).toNatClampNeg (t_roads l47v3.toNatClampNeg)))), (a_t_isKept, .inl (cZ, 2, .inl t_isKept))] H := hP
            replace hD : va_D A [(a_t, .inr (10, [.ref a_t_roads, .int t_homes, .int t_there, .ref a_t_book, .ref a_t_now, .int t_meetings, .ref a_t_meeting, .int t_sights, .ref a_t_sight, .int t_signs, .ref a_t_pad, .int t_touched, .int t_firstTouch, .int t_reason, .int t_acts, .ref a_t_apart, .ref a_t_rounds, .ref a_t_fewest, .ref a_t_nextFewest, .ref a_t_ways, .ref a_t_nextWays, .ref a_t_counts, .ref a_t_image, .ref a_t_isKept])), (a_t_roads, .inl (cI, 12, .inl t_roads)), (a_t_book, .inl (cI, 25, .inl t_book)), (a_t_meeting, .inl (cI, 16, .inl t_meeting)), (a_t_sight, .inl (cI, 24, .inl t_sight)), (a_t_image, .inl (cI, 180, .inl (upd l47t_image ((x19v2 + (25 : Int32)) + l47v3).toNatClampNeg (t_roads l47v3.toNatClampNeg)))), (a_t_isKept, .inl (cZ, 2, .inl t_isKept))] := hD
            refine lv_iinc (v := l47v3 + 1) (lv' := [(3, .int (l47v3 + 1)), (0, .ref a_t), (1, .int p1), (2, .int x19v2)]) hx hb dX10_image_70 hl (k := 3) rfl rfl (by decide) rfl (fun ls hl => ?_)
            refine lv_goto (tgt := 47) hx hb dX10_image_73 (by decide) ?_
            exact ih47 (l47v3 + 1) (upd l47t_image ((x19v2 + (25 : Int32)) + l47v3).toNatClampNeg (t_roads l47v3.toNatClampNeg)) _ _ _ hP hD hS (lv_sub hl [1, 2, 3, 0] rfl) hf
      exact hL47 5000 (0 : Int32) x19t_image _ _ _ hP hD hS (lv_sub hl [1, 2, 3, 0] rfl) hf
    have hL19 : ∀ (n19 : Nat), ∀ (l19v2 : Int32) (l19v3 : Int32) (l19t_image : Nat → Int32) (H : Heap) (locs : List Loc) (ls : Array Slot), va_P D vwCl [(a_t, .inr (10, [.ref a_t_roads, .int t_homes, .int t_there, .ref a_t_book, .ref a_t_now, .int t_meetings, .ref a_t_meeting, .int t_sights, .ref a_t_sight, .int t_signs, .ref a_t_pad, .int t_touched, .int t_firstTouch, .int t_reason, .int t_acts, .ref a_t_apart, .ref a_t_rounds, .ref a_t_fewest, .ref a_t_nextFewest, .ref a_t_ways, .ref a_t_nextWays, .ref a_t_counts, .ref a_t_image, .ref a_t_isKept])), (a_t_roads, .inl (cI, 12, .inl t_roads)), (a_t_book, .inl (cI, 25, .inl t_book)), (a_t_meeting, .inl (cI, 16, .inl t_meeting)), (a_t_sight, .inl (cI, 24, .inl t_sight)), (a_t_image, .inl (cI, 180, .inl l19t_image)), (a_t_isKept, .inl (cZ, 2, .inl t_isKept))] H → va_D A [(a_t, .inr (10, [.ref a_t_roads, .int t_homes, .int t_there, .ref a_t_book, .ref a_t_now, .int t_meetings, .ref a_t_meeting, .int t_sights, .ref a_t_sight, .int t_signs, .ref a_t_pad, .int t_touched, .int t_firstTouch, .int t_reason, .int t_acts, .ref a_t_apart, .ref a_t_rounds, .ref a_t_fewest, .ref a_t_nextFewest, .ref a_t_ways, .ref a_t_nextWays, .ref a_t_counts, .ref a_t_image, .ref a_t_isKept])), (a_t_roads, .inl (cI, 12, .inl t_roads)), (a_t_book, .inl (cI, 25, .inl t_book)), (a_t_meeting, .inl (cI, 16, .inl t_meeting)), (a_t_sight, .inl (cI, 24, .inl t_sight)), (a_t_image, .inl (cI, 180, .inl l19t_image)), (a_t_isKept, .inl (cZ, 2, .inl t_isKept))] → va_S A s.heap H locs → lv_has ls 4 [(0, .ref a_t), (1, .int p1), (2, .int l19v2), (3, .int l19v3)] → f_X10_image_L19 t_book (f_X10_image_X19 t_homes t_there t_meetings t_sights t_roads t_meeting t_sight t_isKept p1) n19 l19v2 l19v3 l19t_image = some res → W p l e rm_X10_image s m args below meth c H locs 0 0 Q (F0 m 19 ls []) := by
      intro n19
      induction n19 with
      | zero =>
        intro l19v2 l19v3 l19t_image H locs ls hP hD hS hl hf
        rw [f_X10_image_L19] at hf
        cases hf
      | succ n19 ih19 =>
        intro l19v2 l19v3 l19t_image H locs ls hP hD hS hl hf
        rw [f_X10_image_L19] at hf
        refine lv_iload_n hx hb dX10_image_19 rfl (lv_at hl 3 rfl) ?_
        refine lv_bipush (v := 25) hx hb dX10_image_20 (by decide) ?_
        refine lv_icmp_ge (tgt := 45) hx hb dX10_image_22 (by decide) (fun hc => ?_) (fun hc => ?_)
        · replace hf := (if_pos hc).symm.trans hf
          exact hX19 l19v2 l19t_image _ _ _ hP hD hS (lv_sub hl [0, 1, 2] rfl) hf
        · replace hf := (if_neg hc).symm.trans hf
          refine lv_aload_n hx hb dX10_image_25 rfl (lv_at hl 0 rfl) ?_
          refine va_get (D := D) (ci := 10) (v := .ref a_t_image) (C := RX10) (T := TX10) (N := 24) hx hb hts hmsX10 hown hK hP 0 rfl rfl 22 (by decide) hw50 (fun _ h9 => h9) rfl dX10_image_26 ?_
          refine lv_iload_n hx hb dX10_image_29 rfl (lv_at hl 2 rfl) ?_
          refine lv_iload_n hx hb dX10_image_30 rfl (lv_at hl 3 rfl) ?_
          refine lv_iadd hx hb dX10_image_31 ?_
          refine lv_aload_n hx hb dX10_image_32 rfl (lv_at hl 0 rfl) ?_
          refine va_get (D := D) (ci := 10) (v := .ref a_t_book) (C := RX10) (T := TX10) (N := 24) hx hb hts hmsX10 hown hK hP 0 rfl rfl 3 (by decide) hw13 (fun _ h9 => h9) rfl dX10_image_33 ?_
          refine lv_iload_n hx hb dX10_image_36 rfl (lv_at hl 3 rfl) ?_
          obtain ⟨hi37, hf⟩ := ix_if hf
          refine va_iald (D := D) hx hb hK hP 2 0 rfl rfl hi37 dX10_image_37 ?_
          obtain ⟨hi38, hf⟩ := ix_if hf
          refine va_iast (D := D) hx hb hK hP hD hS 5 0 rfl rfl hi38 dX10_image_38 (fun H locs hP hD hS => ?_)
          replace hP : va_P D vwCl [(a_t, .inr (10, [.ref a_t_roads, .int t_homes, .int t_there, .ref a_t_book, .ref a_t_now, .int t_meetings, .ref a_t_meeting, .int t_sights, .ref a_t_sight, .int t_signs, .ref a_t_pad, .int t_touched, .int t_firstTouch, .int t_reason, .int t_acts, .ref a_t_apart, .ref a_t_rounds, .ref a_t_fewest, .ref a_t_nextFewest, .ref a_t_ways, .ref a_t_nextWays, .ref a_t_counts, .ref a_t_image, .ref a_t_isKept])), (a_t_roads, .inl (cI, 12, .inl t_roads)), (a_t_book, .inl (cI, 25, .inl t_book)), (a_t_meeting, .inl (cI, 16, .inl t_meeting)), (a_t_sight, .inl (cI, 24, .inl t_sight)), (a_t_image, .inl (cI, 180, .inl (upd l19t_image (l19v2 + l19v3).toNatClampNeg (t_book l19v3.toNatClampNeg)))), (a_t_isKept, .inl (cZ, 2, .inl t_isKept))] H := hP
          replace hD : va_D A [(a_t, .inr (10, [.ref a_t_roads, .int t_homes, .int t_there, .ref a_t_book, .ref a_t_now, .int t_meetings, .ref a_t_meeting, .int t_sights, .ref a_t_sight, .int t_signs, .ref a_t_pad, .int t_touched, .int t_firstTouch, .int t_reason, .int t_acts, .ref a_t_apart, .ref a_t_rounds, .ref a_t_fewest, .ref a_t_nextFewest, .ref a_t_ways, .ref a_t_nextWays, .ref a_t_counts, .ref a_t_image, .ref a_t_isKept])), (a_t_roads, .inl (cI, 12, .inl t_roads)), (a_t_book, .inl (cI, 25, .inl t_book)), (a_t_meeting, .inl (cI, 16, .inl t_meeting)), (a_t_sight, .inl (cI, 24, .inl t_sight)), (a_t_image, .inl (cI, 180, .inl (upd l19t_image (l19v2 + l19v3).toNatClampNeg (t_book l19v3.toNatClampNeg)))), (a_t_isKept, .inl (cZ, 2, .inl t_isKept))] := hD
          refine lv_iinc (v := l19v3 + 1) (lv' := [(3, .int (l19v3 + 1)), (0, .ref a_t), (1, .int p1), (2, .int l19v2)]) hx hb dX10_image_39 hl (k := 3) rfl rfl (by decide) rfl (fun ls hl => ?_)
          refine lv_goto (tgt := 19) hx hb dX10_image_42 (by decide) ?_
          exact ih19 l19v2 (l19v3 + 1) (upd l19t_image (l19v2 + l19v3).toNatClampNeg (t_book l19v3.toNatClampNeg)) _ _ _ hP hD hS (lv_sub hl [1, 2, 3, 0] rfl) hf
    exact hL19 5000 ((90 : Int32) * p1) (0 : Int32) t_image _ _ _ hP hD hS (lv_sub hl [2, 3, 1, 0] rfl) hf
  · replace hf := (if_pos hc).symm.trans hf
    refine lv_bipush (v := -2) hx hb dX10_image_9 (by decide) ?_
    obtain rfl := Option.some.inj hf
    exact fin _ _ _ _ dX10_image_11 hP hD hS
abbrev rm_X10_restore : Room := { frames := 1, cells := 0, slots := 0, locals := 22 }
theorem ms_X10_restore_X10 : ∀ w ∈ u_ws RX10 TX10 24, w ∈ wsX10_restore := fun w h => List.mem_cons_of_mem _ (List.mem_append_right _ (h))
set_option maxHeartbeats 4000000 in
set_option maxRecDepth 100000 in
theorem c_X10_restore (l : Launch) (D : va_G) (cI cJ cZ cO : ClassId) (sz : Nat) (a_t : Nat) (a_t_roads : Nat) (a_t_book : Nat) (a_t_now : Nat) (a_t_meeting : Nat) (a_t_sight : Nat) (a_t_pad : Nat) (a_t_apart : Nat) (a_t_rounds : Nat) (a_t_fewest : Nat) (a_t_nextFewest : Nat) (a_t_ways : Nat) (a_t_nextWays : Nat) (a_t_counts : Nat) (a_t_image : Nat) (a_t_isKept : Nat) (t_homes : Int32) (t_there : Int32) (t_meetings : Int32) (t_sights : Int32) (t_signs : Int32) (t_touched : Int32) (t_firstTouch : Int32) (t_reason : Int32) (t_acts : Int32) (t_roads : Nat → Int32) (t_book : Nat → Int32) (t_meeting : Nat → Int32) (t_sight : Nat → Int32) (t_image : Nat → Int32) (t_isKept : Nat → Int32) (p1 : Int32) (res : Int32 × Int32 × Int32 × Int32 × Int32 × (Nat → Int32) × (Nat → Int32) × (Nat → Int32) × (Nat → Int32)) (hf : f_X10_restore t_homes t_there t_meetings t_sights t_roads t_book t_meeting t_sight t_image t_isKept p1 = some res) : MetI l yX10_restore wsX10_restore rm_X10_restore [.ref a_t, .int p1] D (tys4 cI cJ cZ cO) [(a_t, .inr (10, [.ref a_t_roads, .int t_homes, .int t_there, .ref a_t_book, .ref a_t_now, .int t_meetings, .ref a_t_meeting, .int t_sights, .ref a_t_sight, .int t_signs, .ref a_t_pad, .int t_touched, .int t_firstTouch, .int t_reason, .int t_acts, .ref a_t_apart, .ref a_t_rounds, .ref a_t_fewest, .ref a_t_nextFewest, .ref a_t_ways, .ref a_t_nextWays, .ref a_t_counts, .ref a_t_image, .ref a_t_isKept])), (a_t_roads, .inl (cI, 12, .inl t_roads)), (a_t_book, .inl (cI, 25, .inl t_book)), (a_t_meeting, .inl (cI, 16, .inl t_meeting)), (a_t_sight, .inl (cI, 24, .inl t_sight)), (a_t_image, .inl (cI, 180, .inl t_image)), (a_t_isKept, .inl (cZ, 2, .inl t_isKept))] sz res.1 [(a_t, .inr (10, [.ref a_t_roads, .int res.2.1, .int res.2.2.1, .ref a_t_book, .ref a_t_now, .int res.2.2.2.1, .ref a_t_meeting, .int res.2.2.2.2.1, .ref a_t_sight, .int t_signs, .ref a_t_pad, .int t_touched, .int t_firstTouch, .int t_reason, .int t_acts, .ref a_t_apart, .ref a_t_rounds, .ref a_t_fewest, .ref a_t_nextFewest, .ref a_t_ways, .ref a_t_nextWays, .ref a_t_counts, .ref a_t_image, .ref a_t_isKept])), (a_t_roads, .inl (cI, 12, .inl res.2.2.2.2.2.1)), (a_t_book, .inl (cI, 25, .inl res.2.2.2.2.2.2.1)), (a_t_meeting, .inl (cI, 16, .inl res.2.2.2.2.2.2.2.1)), (a_t_sight, .inl (cI, 24, .inl res.2.2.2.2.2.2.2.2)), (a_t_image, .inl (cI, 180, .inl t_image)), (a_t_isKept, .inl (cZ, 2, .inl t_isKept))] := by
  refine met_i (cc := cX10_restore) (maxL := 4) (by decide) rfl (Nat.le_of_ble_eq_true rfl) ?_
  intro p e s m args below meth c Q A hx hb hml hown hts hK hN hA fin H locs ls hP hD hS hl
  replace hown : s.vm.findClass RX10 = some m.cls := hown
  replace hl : lv_has ls 4 [(0, .ref a_t), (1, .int p1)] := hl
  rw [f_X10_restore] at hf
  have hcw57 := va_cwS (R := rm_X10_restore) (rm := rm_X10_in) 3 hts gX10_restore_X10_in rfl rfl rfl (by decide +kernel) ⟨Nat.le_of_ble_eq_true rfl, Nat.le_of_ble_eq_true rfl⟩
  have hw53 := hts (.fieldLink RX10 53 "TouchReignModel" "isKept" "[Z") (by decide +kernel)
  have hmsX10 := ms_X10_restore_X10
  have hw50 := hts (.fieldLink RX10 50 "TouchReignModel" "image" "[I") (by decide +kernel)
  have hw80 := hts (.fieldLink RX10 80 "TouchReignModel" "homes" "I") (by decide +kernel)
  have hw65 := hts (.fieldLink RX10 65 "TouchReignModel" "there" "I") (by decide +kernel)
  have hw149 := hts (.fieldLink RX10 149 "TouchReignModel" "meetings" "I") (by decide +kernel)
  have hw165 := hts (.fieldLink RX10 165 "TouchReignModel" "sights" "I") (by decide +kernel)
  have hw22 := hts (.fieldLink RX10 22 "TouchReignModel" "sight" "[I") (by decide +kernel)
  have hw19 := hts (.fieldLink RX10 19 "TouchReignModel" "meeting" "[I") (by decide +kernel)
  have hw7 := hts (.fieldLink RX10 7 "TouchReignModel" "roads" "[I") (by decide +kernel)
  have hw13 := hts (.fieldLink RX10 13 "TouchReignModel" "book" "[I") (by decide +kernel)
  refine lv_iload_n hx hb dX10_restore_0 rfl (lv_at hl 1 rfl) ?_
  refine lv_iconst (v := 0) hx hb dX10_restore_1 (by decide) ?_
  refine lv_iconst (v := 1) hx hb dX10_restore_2 (by decide) ?_
  obtain ⟨x3, hx3, hf⟩ := bd_if hf
  refine cs_i (wr := [(a_t, .inr (10, [.ref a_t_roads, .int t_homes, .int t_there, .ref a_t_book, .ref a_t_now, .int t_meetings, .ref a_t_meeting, .int t_sights, .ref a_t_sight, .int t_signs, .ref a_t_pad, .int t_touched, .int t_firstTouch, .int t_reason, .int t_acts, .ref a_t_apart, .ref a_t_rounds, .ref a_t_fewest, .ref a_t_nextFewest, .ref a_t_ways, .ref a_t_nextWays, .ref a_t_counts, .ref a_t_image, .ref a_t_isKept])), (a_t_roads, .inl (cI, 12, .inl t_roads)), (a_t_book, .inl (cI, 25, .inl t_book)), (a_t_meeting, .inl (cI, 16, .inl t_meeting)), (a_t_sight, .inl (cI, 24, .inl t_sight)), (a_t_image, .inl (cI, 180, .inl t_image)), (a_t_isKept, .inl (cZ, 2, .inl t_isKept))]) (ws' := [(a_t, .inr (10, [.ref a_t_roads, .int t_homes, .int t_there, .ref a_t_book, .ref a_t_now, .int t_meetings, .ref a_t_meeting, .int t_sights, .ref a_t_sight, .int t_signs, .ref a_t_pad, .int t_touched, .int t_firstTouch, .int t_reason, .int t_acts, .ref a_t_apart, .ref a_t_rounds, .ref a_t_fewest, .ref a_t_nextFewest, .ref a_t_ways, .ref a_t_nextWays, .ref a_t_counts, .ref a_t_image, .ref a_t_isKept])), (a_t_roads, .inl (cI, 12, .inl t_roads)), (a_t_book, .inl (cI, 25, .inl t_book)), (a_t_meeting, .inl (cI, 16, .inl t_meeting)), (a_t_sight, .inl (cI, 24, .inl t_sight)), (a_t_image, .inl (cI, 180, .inl t_image)), (a_t_isKept, .inl (cZ, 2, .inl t_isKept))]) ⟨hx, hb, hml, hown, hts⟩ hcw57 hK hN hP hD hS hA (c_X10_in l D cI cJ cZ cO _ p1 (0 : Int32) (1 : Int32) x3 hx3) [] [0, 1, 2, 3, 4, 5, 6] [0, 1, 2, 3, 4, 5, 6] rfl rfl rfl rfl (by decide) rfl rfl rfl hl.1 rfl (Nat.le_of_ble_eq_true rfl) dX10_restore_3 ⟨Nat.zero_le _, Nat.zero_le _⟩ (fun H locs hP hD hS => ?_)
  refine lv_if_ne (tgt := 12) hx hb dX10_restore_6 (by decide) (fun hc => ?_) (fun hc => ?_)
  · replace hf := (if_neg hc).symm.trans hf
    refine lv_aload_n hx hb dX10_restore_12 rfl (lv_at hl 0 rfl) ?_
    refine va_get (D := D) (ci := 10) (v := .ref a_t_isKept) (C := RX10) (T := TX10) (N := 24) hx hb hts hmsX10 hown hK hP 0 rfl rfl 23 (by decide) hw53 (fun _ h9 => h9) rfl dX10_restore_13 ?_
    refine lv_iload_n hx hb dX10_restore_16 rfl (lv_at hl 1 rfl) ?_
    obtain ⟨hi17, hf⟩ := ix_if hf
    refine va_zald (D := D) hx hb hK hP 6 2 rfl rfl hi17 dX10_restore_17 ?_
    refine lv_if_ne (tgt := 24) hx hb dX10_restore_18 (by decide) (fun hc => ?_) (fun hc => ?_)
    · replace hf := (if_neg hc).symm.trans hf
      refine lv_bipush (v := 90) hx hb dX10_restore_24 (by decide) ?_
      refine lv_iload_n hx hb dX10_restore_26 rfl (lv_at hl 1 rfl) ?_
      refine lv_imul hx hb dX10_restore_27 ?_
      refine lv_istore_n (lv' := [(2, .int ((90 : Int32) * p1)), (0, .ref a_t), (1, .int p1)]) hx hb dX10_restore_28 rfl hl (by decide) rfl (fun ls hl => ?_)
      refine lv_iconst (v := 0) hx hb dX10_restore_29 (by decide) ?_
      refine lv_istore_n (lv' := [(3, .int (0 : Int32)), (2, .int ((90 : Int32) * p1)), (0, .ref a_t), (1, .int p1)]) hx hb dX10_restore_30 rfl hl (by decide) rfl (fun ls hl => ?_)
      have hX31 : ∀ (x31v2 : Int32) (x31t_book : Nat → Int32) (H : Heap) (locs : List Loc) (ls : Array Slot), va_P D vwCl [(a_t, .inr (10, [.ref a_t_roads, .int t_homes, .int t_there, .ref a_t_book, .ref a_t_now, .int t_meetings, .ref a_t_meeting, .int t_sights, .ref a_t_sight, .int t_signs, .ref a_t_pad, .int t_touched, .int t_firstTouch, .int t_reason, .int t_acts, .ref a_t_apart, .ref a_t_rounds, .ref a_t_fewest, .ref a_t_nextFewest, .ref a_t_ways, .ref a_t_nextWays, .ref a_t_counts, .ref a_t_image, .ref a_t_isKept])), (a_t_roads, .inl (cI, 12, .inl t_roads)), (a_t_book, .inl (cI, 25, .inl x31t_book)), (a_t_meeting, .inl (cI, 16, .inl t_meeting)), (a_t_sight, .inl (cI, 24, .inl t_sight)), (a_t_image, .inl (cI, 180, .inl t_image)), (a_t_isKept, .inl (cZ, 2, .inl t_isKept))] H → va_D A [(a_t, .inr (10, [.ref a_t_roads, .int t_homes, .int t_there, .ref a_t_book, .ref a_t_now, .int t_meetings, .ref a_t_meeting, .int t_sights, .ref a_t_sight, .int t_signs, .ref a_t_pad, .int t_touched, .int t_firstTouch, .int t_reason, .int t_acts, .ref a_t_apart, .ref a_t_rounds, .ref a_t_fewest, .ref a_t_nextFewest, .ref a_t_ways, .ref a_t_nextWays, .ref a_t_counts, .ref a_t_image, .ref a_t_isKept])), (a_t_roads, .inl (cI, 12, .inl t_roads)), (a_t_book, .inl (cI, 25, .inl x31t_book)), (a_t_meeting, .inl (cI, 16, .inl t_meeting)), (a_t_sight, .inl (cI, 24, .inl t_sight)), (a_t_image, .inl (cI, 180, .inl t_image)), (a_t_isKept, .inl (cZ, 2, .inl t_isKept))] → va_S A s.heap H locs → lv_has ls 4 [(0, .ref a_t), (2, .int x31v2)] → f_X10_restore_X31 t_roads t_meeting t_sight t_image x31v2 x31t_book = some res → W p l e rm_X10_restore s m args below meth c H locs 0 0 Q (F0 m 57 ls []) := by
        intro x31v2 x31t_book H locs ls hP hD hS hl hf
        rw [f_X10_restore_X31] at hf
        refine lv_iconst (v := 0) hx hb dX10_restore_57 (by decide) ?_
        refine lv_istore_n (lv' := [(3, .int (0 : Int32)), (0, .ref a_t), (2, .int x31v2)]) hx hb dX10_restore_58 rfl hl (by decide) rfl (fun ls hl => ?_)
        have hX59 : ∀ (x59t_roads : Nat → Int32) (H : Heap) (locs : List Loc) (ls : Array Slot), va_P D vwCl [(a_t, .inr (10, [.ref a_t_roads, .int t_homes, .int t_there, .ref a_t_book, .ref a_t_now, .int t_meetings, .ref a_t_meeting, .int t_sights, .ref a_t_sight, .int t_signs, .ref a_t_pad, .int t_touched, .int t_firstTouch, .int t_reason, .int t_acts, .ref a_t_apart, .ref a_t_rounds, .ref a_t_fewest, .ref a_t_nextFewest, .ref a_t_ways, .ref a_t_nextWays, .ref a_t_counts, .ref a_t_image, .ref a_t_isKept])), (a_t_roads, .inl (cI, 12, .inl x59t_roads)), (a_t_book, .inl (cI, 25, .inl x31t_book)), (a_t_meeting, .inl (cI, 16, .inl t_meeting)), (a_t_sight, .inl (cI, 24, .inl t_sight)), (a_t_image, .inl (cI, 180, .inl t_image)), (a_t_isKept, .inl (cZ, 2, .inl t_isKept))] H → va_D A [(a_t, .inr (10, [.ref a_t_roads, .int t_homes, .int t_there, .ref a_t_book, .ref a_t_now, .int t_meetings, .ref a_t_meeting, .int t_sights, .ref a_t_sight, .int t_signs, .ref a_t_pad, .int t_touched, .int t_firstTouch, .int t_reason, .int t_acts, .ref a_t_apart, .ref a_t_rounds, .ref a_t_fewest, .ref a_t_nextFewest, .ref a_t_ways, .ref a_t_nextWays, .ref a_t_counts, .ref a_t_image, .ref a_t_isKept])), (a_t_roads, .inl (cI, 12, .inl x59t_roads)), (a_t_book, .inl (cI, 25, .inl x31t_book)), (a_t_meeting, .inl (cI, 16, .inl t_meeting)), (a_t_sight, .inl (cI, 24, .inl t_sight)), (a_t_image, .inl (cI, 180, .inl t_image)), (a_t_isKept, .inl (cZ, 2, .inl t_isKept))] → va_S A s.heap H locs → lv_has ls 4 [(0, .ref a_t), (2, .int x31v2)] → f_X10_restore_X59 t_meeting t_sight t_image x31v2 x31t_book x59t_roads = some res → W p l e rm_X10_restore s m args below meth c H locs 0 0 Q (F0 m 88 ls []) := by
          intro x59t_roads H locs ls hP hD hS hl hf
          rw [f_X10_restore_X59] at hf
          refine lv_iconst (v := 0) hx hb dX10_restore_88 (by decide) ?_
          refine lv_istore_n (lv' := [(3, .int (0 : Int32)), (0, .ref a_t), (2, .int x31v2)]) hx hb dX10_restore_89 rfl hl (by decide) rfl (fun ls hl => ?_)
          have hX90 : ∀ (x90t_meeting : Nat → Int32) (H : Heap) (locs : List Loc) (ls : Array Slot), va_P D vwCl [(a_t, .inr (10, [.ref a_t_roads, .int t_homes, .int t_there, .ref a_t_book, .ref a_t_now, .int t_meetings, .ref a_t_meeting, .int t_sights, .ref a_t_sight, .int t_signs, .ref a_t_pad, .int t_touched, .int t_firstTouch, .int t_reason, .int t_acts, .ref a_t_apart, .ref a_t_rounds, .ref a_t_fewest, .ref a_t_nextFewest, .ref a_t_ways, .ref a_t_nextWays, .ref a_t_counts, .ref a_t_image, .ref a_t_isKept])), (a_t_roads, .inl (cI, 12, .inl x59t_roads)), (a_t_book, .inl (cI, 25, .inl x31t_book)), (a_t_meeting, .inl (cI, 16, .inl x90t_meeting)), (a_t_sight, .inl (cI, 24, .inl t_sight)), (a_t_image, .inl (cI, 180, .inl t_image)), (a_t_isKept, .inl (cZ, 2, .inl t_isKept))] H → va_D A [(a_t, .inr (10, [.ref a_t_roads, .int t_homes, .int t_there, .ref a_t_book, .ref a_t_now, .int t_meetings, .ref a_t_meeting, .int t_sights, .ref a_t_sight, .int t_signs, .ref a_t_pad, .int t_touched, .int t_firstTouch, .int t_reason, .int t_acts, .ref a_t_apart, .ref a_t_rounds, .ref a_t_fewest, .ref a_t_nextFewest, .ref a_t_ways, .ref a_t_nextWays, .ref a_t_counts, .ref a_t_image, .ref a_t_isKept])), (a_t_roads, .inl (cI, 12, .inl x59t_roads)), (a_t_book, .inl (cI, 25, .inl x31t_book)), (a_t_meeting, .inl (cI, 16, .inl x90t_meeting)), (a_t_sight, .inl (cI, 24, .inl t_sight)), (a_t_image, .inl (cI, 180, .inl t_image)), (a_t_isKept, .inl (cZ, 2, .inl t_isKept))] → va_S A s.heap H locs → lv_has ls 4 [(0, .ref a_t), (2, .int x31v2)] → f_X10_restore_X90 t_sight t_image x31v2 x31t_book x59t_roads x90t_meeting = some res → W p l e rm_X10_restore s m args below meth c H locs 0 0 Q (F0 m 119 ls []) := by
            intro x90t_meeting H locs ls hP hD hS hl hf
            rw [f_X10_restore_X90] at hf
            refine lv_iconst (v := 0) hx hb dX10_restore_119 (by decide) ?_
            refine lv_istore_n (lv' := [(3, .int (0 : Int32)), (0, .ref a_t), (2, .int x31v2)]) hx hb dX10_restore_120 rfl hl (by decide) rfl (fun ls hl => ?_)
            have hX121 : ∀ (x121t_sight : Nat → Int32) (H : Heap) (locs : List Loc) (ls : Array Slot), va_P D vwCl [(a_t, .inr (10, [.ref a_t_roads, .int t_homes, .int t_there, .ref a_t_book, .ref a_t_now, .int t_meetings, .ref a_t_meeting, .int t_sights, .ref a_t_sight, .int t_signs, .ref a_t_pad, .int t_touched, .int t_firstTouch, .int t_reason, .int t_acts, .ref a_t_apart, .ref a_t_rounds, .ref a_t_fewest, .ref a_t_nextFewest, .ref a_t_ways, .ref a_t_nextWays, .ref a_t_counts, .ref a_t_image, .ref a_t_isKept])), (a_t_roads, .inl (cI, 12, .inl x59t_roads)), (a_t_book, .inl (cI, 25, .inl x31t_book)), (a_t_meeting, .inl (cI, 16, .inl x90t_meeting)), (a_t_sight, .inl (cI, 24, .inl x121t_sight)), (a_t_image, .inl (cI, 180, .inl t_image)), (a_t_isKept, .inl (cZ, 2, .inl t_isKept))] H → va_D A [(a_t, .inr (10, [.ref a_t_roads, .int t_homes, .int t_there, .ref a_t_book, .ref a_t_now, .int t_meetings, .ref a_t_meeting, .int t_sights, .ref a_t_sight, .int t_signs, .ref a_t_pad, .int t_touched, .int t_firstTouch, .int t_reason, .int t_acts, .ref a_t_apart, .ref a_t_rounds, .ref a_t_fewest, .ref a_t_nextFewest, .ref a_t_ways, .ref a_t_nextWays, .ref a_t_counts, .ref a_t_image, .ref a_t_isKept])), (a_t_roads, .inl (cI, 12, .inl x59t_roads)), (a_t_book, .inl (cI, 25, .inl x31t_book)), (a_t_meeting, .inl (cI, 16, .inl x90t_meeting)), (a_t_sight, .inl (cI, 24, .inl x121t_sight)), (a_t_image, .inl (cI, 180, .inl t_image)), (a_t_isKept, .inl (cZ, 2, .inl t_isKept))] → va_S A s.heap H locs → lv_has ls 4 [(0, .ref a_t), (2, .int x31v2)] → f_X10_restore_X121 t_image x31v2 x31t_book x59t_roads x90t_meeting x121t_sight = some res → W p l e rm_X10_restore s m args below meth c H locs 0 0 Q (F0 m 150 ls []) := by
              intro x121t_sight H locs ls hP hD hS hl hf
              rw [f_X10_restore_X121] at hf
              refine lv_aload_n hx hb dX10_restore_150 rfl (lv_at hl 0 rfl) ?_
              refine lv_aload_n hx hb dX10_restore_151 rfl (lv_at hl 0 rfl) ?_
              refine va_get (D := D) (ci := 10) (v := .ref a_t_image) (C := RX10) (T := TX10) (N := 24) hx hb hts hmsX10 hown hK hP 0 rfl rfl 22 (by decide) hw50 (fun _ h9 => h9) rfl dX10_restore_152 ?_
              refine lv_iload_n hx hb dX10_restore_155 rfl (lv_at hl 1 rfl) ?_
              refine lv_bipush (v := 80) hx hb dX10_restore_156 (by decide) ?_
              refine lv_iadd hx hb dX10_restore_158 ?_
              obtain ⟨hi159, hf⟩ := ix_if hf
              refine va_iald (D := D) hx hb hK hP 5 0 rfl rfl hi159 dX10_restore_159 ?_
              refine va_put (D := D) (ci := 10) (v := .int (t_image (x31v2 + (80 : Int32)).toNatClampNeg)) (ty := .int) (C := RX10) (T := TX10) (N := 24) hx hb hts hmsX10 tyX10 tyX10_ok nmX10 hown hK hP hD hS 0 rfl rfl 1 (by decide) hw80 (fun _ h9 => h9) rfl (by decide +kernel) rfl rfl (Nat.le_of_ble_eq_true rfl) dX10_restore_160 (fun H locs hP hD hS => ?_)
              replace hP : va_P D vwCl [(a_t, .inr (10, [.ref a_t_roads, .int (t_image (x31v2 + (80 : Int32)).toNatClampNeg), .int t_there, .ref a_t_book, .ref a_t_now, .int t_meetings, .ref a_t_meeting, .int t_sights, .ref a_t_sight, .int t_signs, .ref a_t_pad, .int t_touched, .int t_firstTouch, .int t_reason, .int t_acts, .ref a_t_apart, .ref a_t_rounds, .ref a_t_fewest, .ref a_t_nextFewest, .ref a_t_ways, .ref a_t_nextWays, .ref a_t_counts, .ref a_t_image, .ref a_t_isKept])), (a_t_roads, .inl (cI, 12, .inl x59t_roads)), (a_t_book, .inl (cI, 25, .inl x31t_book)), (a_t_meeting, .inl (cI, 16, .inl x90t_meeting)), (a_t_sight, .inl (cI, 24, .inl x121t_sight)), (a_t_image, .inl (cI, 180, .inl t_image)), (a_t_isKept, .inl (cZ, 2, .inl t_isKept))] H := hP
              replace hD : va_D A [(a_t, .inr (10, [.ref a_t_roads, .int (t_image (x31v2 + (80 : Int32)).toNatClampNeg), .int t_there, .ref a_t_book, .ref a_t_now, .int t_meetings, .ref a_t_meeting, .int t_sights, .ref a_t_sight, .int t_signs, .ref a_t_pad, .int t_touched, .int t_firstTouch, .int t_reason, .int t_acts, .ref a_t_apart, .ref a_t_rounds, .ref a_t_fewest, .ref a_t_nextFewest, .ref a_t_ways, .ref a_t_nextWays, .ref a_t_counts, .ref a_t_image, .ref a_t_isKept])), (a_t_roads, .inl (cI, 12, .inl x59t_roads)), (a_t_book, .inl (cI, 25, .inl x31t_book)), (a_t_meeting, .inl (cI, 16, .inl x90t_meeting)), (a_t_sight, .inl (cI, 24, .inl x121t_sight)), (a_t_image, .inl (cI, 180, .inl t_image)), (a_t_isKept, .inl (cZ, 2, .inl t_isKept))] := hD
              refine lv_aload_n hx hb dX10_restore_163 rfl (lv_at hl 0 rfl) ?_
              refine lv_aload_n hx hb dX10_restore_164 rfl (lv_at hl 0 rfl) ?_
              refine va_get (D := D) (ci := 10) (v := .ref a_t_image) (C := RX10) (T := TX10) (N := 24) hx hb hts hmsX10 hown hK hP 0 rfl rfl 22 (by decide) hw50 (fun _ h9 => h9) rfl dX10_restore_165 ?_
              refine lv_iload_n hx hb dX10_restore_168 rfl (lv_at hl 1 rfl) ?_
              refine lv_bipush (v := 81) hx hb dX10_restore_169 (by decide) ?_
              refine lv_iadd hx hb dX10_restore_171 ?_
              obtain ⟨hi172, hf⟩ := ix_if hf
              refine va_iald (D := D) hx hb hK hP 5 0 rfl rfl hi172 dX10_restore_172 ?_
              refine va_put (D := D) (ci := 10) (v := .int (t_image (x31v2 + (81 : Int32)).toNatClampNeg)) (ty := .int) (C := RX10) (T := TX10) (N := 24) hx hb hts hmsX10 tyX10 tyX10_ok nmX10 hown hK hP hD hS 0 rfl rfl 2 (by decide) hw65 (fun _ h9 => h9) rfl (by decide +kernel) rfl rfl (Nat.le_of_ble_eq_true rfl) dX10_restore_173 (fun H locs hP hD hS => ?_)
              replace hP : va_P D vwCl [(a_t, .inr (10, [.ref a_t_roads, .int (t_image (x31v2 + (80 : Int32)).toNatClampNeg), .int (t_image (x31v2 + (81 : Int32)).toNatClampNeg), .ref a_t_book, .ref a_t_now, .int t_meetings, .ref a_t_meeting, .int t_sights, .ref a_t_sight, .int t_signs, .ref a_t_pad, .int t_touched, .int t_firstTouch, .int t_reason, .int t_acts, .ref a_t_apart, .ref a_t_rounds, .ref a_t_fewest, .ref a_t_nextFewest, .ref a_t_ways, .ref a_t_nextWays, .ref a_t_counts, .ref a_t_image, .ref a_t_isKept])), (a_t_roads, .inl (cI, 12, .inl x59t_roads)), (a_t_book, .inl (cI, 25, .inl x31t_book)), (a_t_meeting, .inl (cI, 16, .inl x90t_meeting)), (a_t_sight, .inl (cI, 24, .inl x121t_sight)), (a_t_image, .inl (cI, 180, .inl t_image)), (a_t_isKept, .inl (cZ, 2, .inl t_isKept))] H := hP
              replace hD : va_D A [(a_t, .inr (10, [.ref a_t_roads, .int (t_image (x31v2 + (80 : Int32)).toNatClampNeg), .int (t_image (x31v2 + (81 : Int32)).toNatClampNeg), .ref a_t_book, .ref a_t_now, .int t_meetings, .ref a_t_meeting, .int t_sights, .ref a_t_sight, .int t_signs, .ref a_t_pad, .int t_touched, .int t_firstTouch, .int t_reason, .int t_acts, .ref a_t_apart, .ref a_t_rounds, .ref a_t_fewest, .ref a_t_nextFewest, .ref a_t_ways, .ref a_t_nextWays, .ref a_t_counts, .ref a_t_image, .ref a_t_isKept])), (a_t_roads, .inl (cI, 12, .inl x59t_roads)), (a_t_book, .inl (cI, 25, .inl x31t_book)), (a_t_meeting, .inl (cI, 16, .inl x90t_meeting)), (a_t_sight, .inl (cI, 24, .inl x121t_sight)), (a_t_image, .inl (cI, 180, .inl t_image)), (a_t_isKept, .inl (cZ, 2, .inl t_isKept))] := hD
              refine lv_aload_n hx hb dX10_restore_176 rfl (lv_at hl 0 rfl) ?_
              refine lv_aload_n hx hb dX10_restore_177 rfl (lv_at hl 0 rfl) ?_
              refine va_get (D := D) (ci := 10) (v := .ref a_t_image) (C := RX10) (T := TX10) (N := 24) hx hb hts hmsX10 hown hK hP 0 rfl rfl 22 (by decide) hw50 (fun _ h9 => h9) rfl dX10_restore_178 ?_
              refine lv_iload_n hx hb dX10_restore_181 rfl (lv_at hl 1 rfl) ?_
              refine lv_bipush (v := 82) hx hb dX10_restore_182 (by decide) ?_
              refine lv_iadd hx hb dX10_restore_184 ?_
              obtain ⟨hi185, hf⟩ := ix_if hf
              refine va_iald (D := D) hx hb hK hP 5 0 rfl rfl hi185 dX10_restore_185 ?_
              refine va_put (D := D) (ci := 10) (v := .int (t_image (x31v2 + (82 : Int32)).toNatClampNeg)) (ty := .int) (C := RX10) (T := TX10) (N := 24) hx hb hts hmsX10 tyX10 tyX10_ok nmX10 hown hK hP hD hS 0 rfl rfl 5 (by decide) hw149 (fun _ h9 => h9) rfl (by decide +kernel) rfl rfl (Nat.le_of_ble_eq_true rfl) dX10_restore_186 (fun H locs hP hD hS => ?_)
              replace hP : va_P D vwCl [(a_t, .inr (10, [.ref a_t_roads, .int (t_image (x31v2 + (80 : Int32)).toNatClampNeg), .int (t_image (x31v2 + (81 : Int32)).toNatClampNeg), .ref a_t_book, .ref a_t_now, .int (t_image (x31v2 + (82 : Int32)).toNatClampNeg), .ref a_t_meeting, .int t_sights, .ref a_t_sight, .int t_signs, .ref a_t_pad, .int t_touched, .int t_firstTouch, .int t_reason, .int t_acts, .ref a_t_apart, .ref a_t_rounds, .ref a_t_fewest, .ref a_t_nextFewest, .ref a_t_ways, .ref a_t_nextWays, .ref a_t_counts, .ref a_t_image, .ref a_t_isKept])), (a_t_roads, .inl (cI, 12, .inl x59t_roads)), (a_t_book, .inl (cI, 25, .inl x31t_book)), (a_t_meeting, .inl (cI, 16, .inl x90t_meeting)), (a_t_sight, .inl (cI, 24, .inl x121t_sight)), (a_t_image, .inl (cI, 180, .inl t_image)), (a_t_isKept, .inl (cZ, 2, .inl t_isKept))] H := hP
              replace hD : va_D A [(a_t, .inr (10, [.ref a_t_roads, .int (t_image (x31v2 + (80 : Int32)).toNatClampNeg), .int (t_image (x31v2 + (81 : Int32)).toNatClampNeg), .ref a_t_book, .ref a_t_now, .int (t_image (x31v2 + (82 : Int32)).toNatClampNeg), .ref a_t_meeting, .int t_sights, .ref a_t_sight, .int t_signs, .ref a_t_pad, .int t_touched, .int t_firstTouch, .int t_reason, .int t_acts, .ref a_t_apart, .ref a_t_rounds, .ref a_t_fewest, .ref a_t_nextFewest, .ref a_t_ways, .ref a_t_nextWays, .ref a_t_counts, .ref a_t_image, .ref a_t_isKept])), (a_t_roads, .inl (cI, 12, .inl x59t_roads)), (a_t_book, .inl (cI, 25, .inl x31t_book)), (a_t_meeting, .inl (cI, 16, .inl x90t_meeting)), (a_t_sight, .inl (cI, 24, .inl x121t_sight)), (a_t_image, .inl (cI, 180, .inl t_image)), (a_t_isKept, .inl (cZ, 2, .inl t_isKept))] := hD
              refine lv_aload_n hx hb dX10_restore_189 rfl (lv_at hl 0 rfl) ?_
              refine lv_aload_n hx hb dX10_restore_190 rfl (lv_at hl 0 rfl) ?_
              refine va_get (D := D) (ci := 10) (v := .ref a_t_image) (C := RX10) (T := TX10) (N := 24) hx hb hts hmsX10 hown hK hP 0 rfl rfl 22 (by decide) hw50 (fun _ h9 => h9) rfl dX10_restore_191 ?_
              refine lv_iload_n hx hb dX10_restore_194 rfl (lv_at hl 1 rfl) ?_
              refine lv_bipush (v := 83) hx hb dX10_restore_195 (by decide) ?_
              refine lv_iadd hx hb dX10_restore_197 ?_
              obtain ⟨hi198, hf⟩ := ix_if hf
              refine va_iald (D := D) hx hb hK hP 5 0 rfl rfl hi198 dX10_restore_198 ?_
              refine va_put (D := D) (ci := 10) (v := .int (t_image (x31v2 + (83 : Int32)).toNatClampNeg)) (ty := .int) (C := RX10) (T := TX10) (N := 24) hx hb hts hmsX10 tyX10 tyX10_ok nmX10 hown hK hP hD hS 0 rfl rfl 7 (by decide) hw165 (fun _ h9 => h9) rfl (by decide +kernel) rfl rfl (Nat.le_of_ble_eq_true rfl) dX10_restore_199 (fun H locs hP hD hS => ?_)
              replace hP : va_P D vwCl [(a_t, .inr (10, [.ref a_t_roads, .int (t_image (x31v2 + (80 : Int32)).toNatClampNeg), .int (t_image (x31v2 + (81 : Int32)).toNatClampNeg), .ref a_t_book, .ref a_t_now, .int (t_image (x31v2 + (82 : Int32)).toNatClampNeg), .ref a_t_meeting, .int (t_image (x31v2 + (83 : Int32)).toNatClampNeg), .ref a_t_sight, .int t_signs, .ref a_t_pad, .int t_touched, .int t_firstTouch, .int t_reason, .int t_acts, .ref a_t_apart, .ref a_t_rounds, .ref a_t_fewest, .ref a_t_nextFewest, .ref a_t_ways, .ref a_t_nextWays, .ref a_t_counts, .ref a_t_image, .ref a_t_isKept])), (a_t_roads, .inl (cI, 12, .inl x59t_roads)), (a_t_book, .inl (cI, 25, .inl x31t_book)), (a_t_meeting, .inl (cI, 16, .inl x90t_meeting)), (a_t_sight, .inl (cI, 24, .inl x121t_sight)), (a_t_image, .inl (cI, 180, .inl t_image)), (a_t_isKept, .inl (cZ, 2, .inl t_isKept))] H := hP
              replace hD : va_D A [(a_t, .inr (10, [.ref a_t_roads, .int (t_image (x31v2 + (80 : Int32)).toNatClampNeg), .int (t_image (x31v2 + (81 : Int32)).toNatClampNeg), .ref a_t_book, .ref a_t_now, .int (t_image (x31v2 + (82 : Int32)).toNatClampNeg), .ref a_t_meeting, .int (t_image (x31v2 + (83 : Int32)).toNatClampNeg), .ref a_t_sight, .int t_signs, .ref a_t_pad, .int t_touched, .int t_firstTouch, .int t_reason, .int t_acts, .ref a_t_apart, .ref a_t_rounds, .ref a_t_fewest, .ref a_t_nextFewest, .ref a_t_ways, .ref a_t_nextWays, .ref a_t_counts, .ref a_t_image, .ref a_t_isKept])), (a_t_roads, .inl (cI, 12, .inl x59t_roads)), (a_t_book, .inl (cI, 25, .inl x31t_book)), (a_t_meeting, .inl (cI, 16, .inl x90t_meeting)), (a_t_sight, .inl (cI, 24, .inl x121t_sight)), (a_t_image, .inl (cI, 180, .inl t_image)), (a_t_isKept, .inl (cZ, 2, .inl t_isKept))] := hD
              refine lv_iconst (v := 1) hx hb dX10_restore_202 (by decide) ?_
              obtain rfl := Option.some.inj hf
              exact fin _ _ _ _ dX10_restore_203 hP hD hS
            have hL121 : ∀ (n121 : Nat), ∀ (l121v3 : Int32) (l121t_sight : Nat → Int32) (H : Heap) (locs : List Loc) (ls : Array Slot), va_P D vwCl [(a_t, .inr (10, [.ref a_t_roads, .int t_homes, .int t_there, .ref a_t_book, .ref a_t_now, .int t_meetings, .ref a_t_meeting, .int t_sights, .ref a_t_sight, .int t_signs, .ref a_t_pad, .int t_touched, .int t_firstTouch, .int t_reason, .int t_acts, .ref a_t_apart, .ref a_t_rounds, .ref a_t_fewest, .ref a_t_nextFewest, .ref a_t_ways, .ref a_t_nextWays, .ref a_t_counts, .ref a_t_image, .ref a_t_isKept])), (a_t_roads, .inl (cI, 12, .inl x59t_roads)), (a_t_book, .inl (cI, 25, .inl x31t_book)), (a_t_meeting, .inl (cI, 16, .inl x90t_meeting)), (a_t_sight, .inl (cI, 24, .inl l121t_sight)), (a_t_image, .inl (cI, 180, .inl t_image)), (a_t_isKept, .inl (cZ, 2, .inl t_isKept))] H → va_D A [(a_t, .inr (10, [.ref a_t_roads, .int t_homes, .int t_there, .ref a_t_book, .ref a_t_now, .int t_meetings, .ref a_t_meeting, .int t_sights, .ref a_t_sight, .int t_signs, .ref a_t_pad, .int t_touched, .int t_firstTouch, .int t_reason, .int t_acts, .ref a_t_apart, .ref a_t_rounds, .ref a_t_fewest, .ref a_t_nextFewest, .ref a_t_ways, .ref a_t_nextWays, .ref a_t_counts, .ref a_t_image, .ref a_t_isKept])), (a_t_roads, .inl (cI, 12, .inl x59t_roads)), (a_t_book, .inl (cI, 25, .inl x31t_book)), (a_t_meeting, .inl (cI, 16, .inl x90t_meeting)), (a_t_sight, .inl (cI, 24, .inl l121t_sight)), (a_t_image, .inl (cI, 180, .inl t_image)), (a_t_isKept, .inl (cZ, 2, .inl t_isKept))] → va_S A s.heap H locs → lv_has ls 4 [(0, .ref a_t), (2, .int x31v2), (3, .int l121v3)] → f_X10_restore_L121 t_image x31v2 (f_X10_restore_X121 t_image x31v2 x31t_book x59t_roads x90t_meeting) n121 l121v3 l121t_sight = some res → W p l e rm_X10_restore s m args below meth c H locs 0 0 Q (F0 m 121 ls []) := by
              intro n121
              induction n121 with
              | zero =>
                intro l121v3 l121t_sight H locs ls hP hD hS hl hf
                rw [f_X10_restore_L121] at hf
                cases hf
              | succ n121 ih121 =>
                intro l121v3 l121t_sight H locs ls hP hD hS hl hf
                rw [f_X10_restore_L121] at hf
                refine lv_iload_n hx hb dX10_restore_121 rfl (lv_at hl 2 rfl) ?_
                refine lv_bipush (v := 24) hx hb dX10_restore_122 (by decide) ?_
                refine lv_icmp_ge (tgt := 150) hx hb dX10_restore_124 (by decide) (fun hc => ?_) (fun hc => ?_)
                · replace hf := (if_pos hc).symm.trans hf
                  exact hX121 l121t_sight _ _ _ hP hD hS (lv_sub hl [0, 1] rfl) hf
                · replace hf := (if_neg hc).symm.trans hf
                  refine lv_aload_n hx hb dX10_restore_127 rfl (lv_at hl 0 rfl) ?_
                  refine va_get (D := D) (ci := 10) (v := .ref a_t_sight) (C := RX10) (T := TX10) (N := 24) hx hb hts hmsX10 hown hK hP 0 rfl rfl 8 (by decide) hw22 (fun _ h9 => h9) rfl dX10_restore_128 ?_
                  refine lv_iload_n hx hb dX10_restore_131 rfl (lv_at hl 2 rfl) ?_
                  refine lv_aload_n hx hb dX10_restore_132 rfl (lv_at hl 0 rfl) ?_
                  refine va_get (D := D) (ci := 10) (v := .ref a_t_image) (C := RX10) (T := TX10) (N := 24) hx hb hts hmsX10 hown hK hP 0 rfl rfl 22 (by decide) hw50 (fun _ h9 => h9) rfl dX10_restore_133 ?_
                  refine lv_iload_n hx hb dX10_restore_136 rfl (lv_at hl 1 rfl) ?_
                  refine lv_bipush (v := 53) hx hb dX10_restore_137 (by decide) ?_
                  refine lv_iadd hx hb dX10_restore_139 ?_
                  refine lv_iload_n hx hb dX10_restore_140 rfl (lv_at hl 2 rfl) ?_
                  refine lv_iadd hx hb dX10_restore_141 ?_
                  obtain ⟨hi142, hf⟩ := ix_if hf
                  refine va_iald (D := D) hx hb hK hP 5 0 rfl rfl hi142 dX10_restore_142 ?_
                  obtain ⟨hi143, hf⟩ := ix_if hf
                  refine va_iast (D := D) hx hb hK hP hD hS 4 0 rfl rfl hi143 dX10_restore_143 (fun H locs hP hD hS => ?_)
                  replace hP : va_P D vwCl [(a_t, .inr (10, [.ref a_t_roads, .int t_homes, .int t_there, .ref a_t_book, .ref a_t_now, .int t_meetings, .ref a_t_meeting, .int t_sights, .ref a_t_sight, .int t_signs, .ref a_t_pad, .int t_touched, .int t_firstTouch, .int t_reason, .int t_acts, .ref a_t_apart, .ref a_t_rounds, .ref a_t_fewest, .ref a_t_nextFewest, .ref a_t_ways, .ref a_t_nextWays, .ref a_t_counts, .ref a_t_image, .ref a_t_isKept])), (a_t_roads, .inl (cI, 12, .inl x59t_roads)), (a_t_book, .inl (cI, 25, .inl x31t_book)), (a_t_meeting, .inl (cI, 16, .inl x90t_meeting)), (a_t_sight, .inl (cI, 24, .inl (upd l121t_sight l121v3.toNatClampNeg (t_image ((x31v2 + (53 : Int32)) + l121v3).toNatClampNeg)))), (a_t_image, .inl (cI, 180, .inl t_image)), (a_t_isKept, .inl (cZ, 2, .inl t_isKept))] H := hP
                  replace hD : va_D A [(a_t, .inr (10, [.ref a_t_roads, .int t_homes, .int t_there, .ref a_t_book, .ref a_t_now, .int t_meetings, .ref a_t_meeting, .int t_sights, .ref a_t_sight, .int t_signs, .ref a_t_pad, .int t_touched, .int t_firstTouch, .int t_reason, .int t_acts, .ref a_t_apart, .ref a_t_rounds, .ref a_t_fewest, .ref a_t_nextFewest, .ref a_t_ways, .ref a_t_nextWays, .ref a_t_counts, .ref a_t_image, .ref a_t_isKept])), (a_t_roads, .inl (cI, 12, .inl x59t_roads)), (a_t_book, .inl (cI, 25, .inl x31t_book)), (a_t_meeting, .inl (cI, 16, .inl x90t_meeting)), (a_t_sight, .inl (cI, 24, .inl (upd l121t_sight l121v3.toNatClampNeg (t_image ((x31v2 + (53 : Int32)) + l121v3).toNatClampNeg)))), (a_t_image, .inl (cI, 180, .inl t_image)), (a_t_isKept, .inl (cZ, 2, .inl t_isKept))] := hD
                  refine lv_iinc (v := l121v3 + 1) (lv' := [(3, .int (l121v3 + 1)), (0, .ref a_t), (2, .int x31v2)]) hx hb dX10_restore_144 hl (k := 2) rfl rfl (by decide) rfl (fun ls hl => ?_)
                  refine lv_goto (tgt := 121) hx hb dX10_restore_147 (by decide) ?_
                  exact ih121 (l121v3 + 1) (upd l121t_sight l121v3.toNatClampNeg (t_image ((x31v2 + (53 : Int32)) + l121v3).toNatClampNeg)) _ _ _ hP hD hS (lv_sub hl [1, 2, 0] rfl) hf
            exact hL121 5000 (0 : Int32) t_sight _ _ _ hP hD hS (lv_sub hl [1, 2, 0] rfl) hf
          have hL90 : ∀ (n90 : Nat), ∀ (l90v3 : Int32) (l90t_meeting : Nat → Int32) (H : Heap) (locs : List Loc) (ls : Array Slot), va_P D vwCl [(a_t, .inr (10, [.ref a_t_roads, .int t_homes, .int t_there, .ref a_t_book, .ref a_t_now, .int t_meetings, .ref a_t_meeting, .int t_sights, .ref a_t_sight, .int t_signs, .ref a_t_pad, .int t_touched, .int t_firstTouch, .int t_reason, .int t_acts, .ref a_t_apart, .ref a_t_rounds, .ref a_t_fewest, .ref a_t_nextFewest, .ref a_t_ways, .ref a_t_nextWays, .ref a_t_counts, .ref a_t_image, .ref a_t_isKept])), (a_t_roads, .inl (cI, 12, .inl x59t_roads)), (a_t_book, .inl (cI, 25, .inl x31t_book)), (a_t_meeting, .inl (cI, 16, .inl l90t_meeting)), (a_t_sight, .inl (cI, 24, .inl t_sight)), (a_t_image, .inl (cI, 180, .inl t_image)), (a_t_isKept, .inl (cZ, 2, .inl t_isKept))] H → va_D A [(a_t, .inr (10, [.ref a_t_roads, .int t_homes, .int t_there, .ref a_t_book, .ref a_t_now, .int t_meetings, .ref a_t_meeting, .int t_sights, .ref a_t_sight, .int t_signs, .ref a_t_pad, .int t_touched, .int t_firstTouch, .int t_reason, .int t_acts, .ref a_t_apart, .ref a_t_rounds, .ref a_t_fewest, .ref a_t_nextFewest, .ref a_t_ways, .ref a_t_nextWays, .ref a_t_counts, .ref a_t_image, .ref a_t_isKept])), (a_t_roads, .inl (cI, 12, .inl x59t_roads)), (a_t_book, .inl (cI, 25, .inl x31t_book)), (a_t_meeting, .inl (cI, 16, .inl l90t_meeting)), (a_t_sight, .inl (cI, 24, .inl t_sight)), (a_t_image, .inl (cI, 180, .inl t_image)), (a_t_isKept, .inl (cZ, 2, .inl t_isKept))] → va_S A s.heap H locs → lv_has ls 4 [(0, .ref a_t), (2, .int x31v2), (3, .int l90v3)] → f_X10_restore_L90 t_image x31v2 (f_X10_restore_X90 t_sight t_image x31v2 x31t_book x59t_roads) n90 l90v3 l90t_meeting = some res → W p l e rm_X10_restore s m args below meth c H locs 0 0 Q (F0 m 90 ls []) := by
            intro n90
            induction n90 with
            | zero =>
              intro l90v3 l90t_meeting H locs ls hP hD hS hl hf
              rw [f_X10_restore_L90] at hf
              cases hf
            | succ n90 ih90 =>
              intro l90v3 l90t_meeting H locs ls hP hD hS hl hf
              rw [f_X10_restore_L90] at hf
              refine lv_iload_n hx hb dX10_restore_90 rfl (lv_at hl 2 rfl) ?_
              refine lv_bipush (v := 16) hx hb dX10_restore_91 (by decide) ?_
              refine lv_icmp_ge (tgt := 119) hx hb dX10_restore_93 (by decide) (fun hc => ?_) (fun hc => ?_)
              · replace hf := (if_pos hc).symm.trans hf
                exact hX90 l90t_meeting _ _ _ hP hD hS (lv_sub hl [0, 1] rfl) hf
              · replace hf := (if_neg hc).symm.trans hf
                refine lv_aload_n hx hb dX10_restore_96 rfl (lv_at hl 0 rfl) ?_
                refine va_get (D := D) (ci := 10) (v := .ref a_t_meeting) (C := RX10) (T := TX10) (N := 24) hx hb hts hmsX10 hown hK hP 0 rfl rfl 6 (by decide) hw19 (fun _ h9 => h9) rfl dX10_restore_97 ?_
                refine lv_iload_n hx hb dX10_restore_100 rfl (lv_at hl 2 rfl) ?_
                refine lv_aload_n hx hb dX10_restore_101 rfl (lv_at hl 0 rfl) ?_
                refine va_get (D := D) (ci := 10) (v := .ref a_t_image) (C := RX10) (T := TX10) (N := 24) hx hb hts hmsX10 hown hK hP 0 rfl rfl 22 (by decide) hw50 (fun _ h9 => h9) rfl dX10_restore_102 ?_
                refine lv_iload_n hx hb dX10_restore_105 rfl (lv_at hl 1 rfl) ?_
                refine lv_bipush (v := 37) hx hb dX10_restore_106 (by decide) ?_
                refine lv_iadd hx hb dX10_restore_108 ?_
                refine lv_iload_n hx hb dX10_restore_109 rfl (lv_at hl 2 rfl) ?_
                refine lv_iadd hx hb dX10_restore_110 ?_
                obtain ⟨hi111, hf⟩ := ix_if hf
                refine va_iald (D := D) hx hb hK hP 5 0 rfl rfl hi111 dX10_restore_111 ?_
                obtain ⟨hi112, hf⟩ := ix_if hf
                refine va_iast (D := D) hx hb hK hP hD hS 3 0 rfl rfl hi112 dX10_restore_112 (fun H locs hP hD hS => ?_)
                replace hP : va_P D vwCl [(a_t, .inr (10, [.ref a_t_roads, .int t_homes, .int t_there, .ref a_t_book, .ref a_t_now, .int t_meetings, .ref a_t_meeting, .int t_sights, .ref a_t_sight, .int t_signs, .ref a_t_pad, .int t_touched, .int t_firstTouch, .int t_reason, .int t_acts, .ref a_t_apart, .ref a_t_rounds, .ref a_t_fewest, .ref a_t_nextFewest, .ref a_t_ways, .ref a_t_nextWays, .ref a_t_counts, .ref a_t_image, .ref a_t_isKept])), (a_t_roads, .inl (cI, 12, .inl x59t_roads)), (a_t_book, .inl (cI, 25, .inl x31t_book)), (a_t_meeting, .inl (cI, 16, .inl (upd l90t_meeting l90v3.toNatClampNeg (t_image ((x31v2 + (37 : Int32)) + l90v3).toNatClampNeg)))), (a_t_sight, .inl (cI, 24, .inl t_sight)), (a_t_image, .inl (cI, 180, .inl t_image)), (a_t_isKept, .inl (cZ, 2, .inl t_isKept))] H := hP
                replace hD : va_D A [(a_t, .inr (10, [.ref a_t_roads, .int t_homes, .int t_there, .ref a_t_book, .ref a_t_now, .int t_meetings, .ref a_t_meeting, .int t_sights, .ref a_t_sight, .int t_signs, .ref a_t_pad, .int t_touched, .int t_firstTouch, .int t_reason, .int t_acts, .ref a_t_apart, .ref a_t_rounds, .ref a_t_fewest, .ref a_t_nextFewest, .ref a_t_ways, .ref a_t_nextWays, .ref a_t_counts, .ref a_t_image, .ref a_t_isKept])), (a_t_roads, .inl (cI, 12, .inl x59t_roads)), (a_t_book, .inl (cI, 25, .inl x31t_book)), (a_t_meeting, .inl (cI, 16, .inl (upd l90t_meeting l90v3.toNatClampNeg (t_image ((x31v2 + (37 : Int32)) + l90v3).toNatClampNeg)))), (a_t_sight, .inl (cI, 24, .inl t_sight)), (a_t_image, .inl (cI, 180, .inl t_image)), (a_t_isKept, .inl (cZ, 2, .inl t_isKept))] := hD
                refine lv_iinc (v := l90v3 + 1) (lv' := [(3, .int (l90v3 + 1)), (0, .ref a_t), (2, .int x31v2)]) hx hb dX10_restore_113 hl (k := 2) rfl rfl (by decide) rfl (fun ls hl => ?_)
                refine lv_goto (tgt := 90) hx hb dX10_restore_116 (by decide) ?_
                exact ih90 (l90v3 + 1) (upd l90t_meeting l90v3.toNatClampNeg (t_image ((x31v2 + (37 : Int32)) + l90v3).toNatClampNeg)) _ _ _ hP hD hS (lv_sub hl [1, 2, 0] rfl) hf
          exact hL90 5000 (0 : Int32) t_meeting _ _ _ hP hD hS (lv_sub hl [1, 2, 0] rfl) hf
        have hL59 : ∀ (n59 : Nat), ∀ (l59v3 : Int32) (l59t_roads : Nat → Int32) (H : Heap) (locs : List Loc) (ls : Array Slot), va_P D vwCl [(a_t, .inr (10, [.ref a_t_roads, .int t_homes, .int t_there, .ref a_t_book, .ref a_t_now, .int t_meetings, .ref a_t_meeting, .int t_sights, .ref a_t_sight, .int t_signs, .ref a_t_pad, .int t_touched, .int t_firstTouch, .int t_reason, .int t_acts, .ref a_t_apart, .ref a_t_rounds, .ref a_t_fewest, .ref a_t_nextFewest, .ref a_t_ways, .ref a_t_nextWays, .ref a_t_counts, .ref a_t_image, .ref a_t_isKept])), (a_t_roads, .inl (cI, 12, .inl l59t_roads)), (a_t_book, .inl (cI, 25, .inl x31t_book)), (a_t_meeting, .inl (cI, 16, .inl t_meeting)), (a_t_sight, .inl (cI, 24, .inl t_sight)), (a_t_image, .inl (cI, 180, .inl t_image)), (a_t_isKept, .inl (cZ, 2, .inl t_isKept))] H → va_D A [(a_t, .inr (10, [.ref a_t_roads, .int t_homes, .int t_there, .ref a_t_book, .ref a_t_now, .int t_meetings, .ref a_t_meeting, .int t_sights, .ref a_t_sight, .int t_signs, .ref a_t_pad, .int t_touched, .int t_firstTouch, .int t_reason, .int t_acts, .ref a_t_apart, .ref a_t_rounds, .ref a_t_fewest, .ref a_t_nextFewest, .ref a_t_ways, .ref a_t_nextWays, .ref a_t_counts, .ref a_t_image, .ref a_t_isKept])), (a_t_roads, .inl (cI, 12, .inl l59t_roads)), (a_t_book, .inl (cI, 25, .inl x31t_book)), (a_t_meeting, .inl (cI, 16, .inl t_meeting)), (a_t_sight, .inl (cI, 24, .inl t_sight)), (a_t_image, .inl (cI, 180, .inl t_image)), (a_t_isKept, .inl (cZ, 2, .inl t_isKept))] → va_S A s.heap H locs → lv_has ls 4 [(0, .ref a_t), (2, .int x31v2), (3, .int l59v3)] → f_X10_restore_L59 t_image x31v2 (f_X10_restore_X59 t_meeting t_sight t_image x31v2 x31t_book) n59 l59v3 l59t_roads = some res → W p l e rm_X10_restore s m args below meth c H locs 0 0 Q (F0 m 59 ls []) := by
          intro n59
          induction n59 with
          | zero =>
            intro l59v3 l59t_roads H locs ls hP hD hS hl hf
            rw [f_X10_restore_L59] at hf
            cases hf
          | succ n59 ih59 =>
            intro l59v3 l59t_roads H locs ls hP hD hS hl hf
            rw [f_X10_restore_L59] at hf
            refine lv_iload_n hx hb dX10_restore_59 rfl (lv_at hl 2 rfl) ?_
            refine lv_bipush (v := 12) hx hb dX10_restore_60 (by decide) ?_
            refine lv_icmp_ge (tgt := 88) hx hb dX10_restore_62 (by decide) (fun hc => ?_) (fun hc => ?_)
            · replace hf := (if_pos hc).symm.trans hf
              exact hX59 l59t_roads _ _ _ hP hD hS (lv_sub hl [0, 1] rfl) hf
            · replace hf := (if_neg hc).symm.trans hf
              refine lv_aload_n hx hb dX10_restore_65 rfl (lv_at hl 0 rfl) ?_
              refine va_get (D := D) (ci := 10) (v := .ref a_t_roads) (C := RX10) (T := TX10) (N := 24) hx hb hts hmsX10 hown hK hP 0 rfl rfl 0 (by decide) hw7 (fun _ h9 => h9) rfl dX10_restore_66 ?_
              refine lv_iload_n hx hb dX10_restore_69 rfl (lv_at hl 2 rfl) ?_
              refine lv_aload_n hx hb dX10_restore_70 rfl (lv_at hl 0 rfl) ?_
              refine va_get (D := D) (ci := 10) (v := .ref a_t_image) (C := RX10) (T := TX10) (N := 24) hx hb hts hmsX10 hown hK hP 0 rfl rfl 22 (by decide) hw50 (fun _ h9 => h9) rfl dX10_restore_71 ?_
              refine lv_iload_n hx hb dX10_restore_74 rfl (lv_at hl 1 rfl) ?_
              refine lv_bipush (v := 25) hx hb dX10_restore_75 (by decide) ?_
              refine lv_iadd hx hb dX10_restore_77 ?_
              refine lv_iload_n hx hb dX10_restore_78 rfl (lv_at hl 2 rfl) ?_
              refine lv_iadd hx hb dX10_restore_79 ?_
              obtain ⟨hi80, hf⟩ := ix_if hf
              refine va_iald (D := D) hx hb hK hP 5 0 rfl rfl hi80 dX10_restore_80 ?_
              obtain ⟨hi81, hf⟩ := ix_if hf
              refine va_iast (D := D) hx hb hK hP hD hS 1 0 rfl rfl hi81 dX10_restore_81 (fun H locs hP hD hS => ?_)
              replace hP : va_P D vwCl [(a_t, .inr (10, [.ref a_t_roads, .int t_homes, .int t_there, .ref a_t_book, .ref a_t_now, .int t_meetings, .ref a_t_meeting, .int t_sights, .ref a_t_sight, .int t_signs, .ref a_t_pad, .int t_touched, .int t_firstTouch, .int t_reason, .int t_acts, .ref a_t_apart, .ref a_t_rounds, .ref a_t_fewest, .ref a_t_nextFewest, .ref a_t_ways, .ref a_t_nextWays, .ref a_t_counts, .ref a_t_image, .ref a_t_isKept])), (a_t_roads, .inl (cI, 12, .inl (upd l59t_roads l59v3.toNatClampNeg (t_image ((x31v2 + (25 : Int32)) + l59v3).toNatClampNeg)))), (a_t_book, .inl (cI, 25, .inl x31t_book)), (a_t_meeting, .inl (cI, 16, .inl t_meeting)), (a_t_sight, .inl (cI, 24, .inl t_sight)), (a_t_image, .inl (cI, 180, .inl t_image)), (a_t_isKept, .inl (cZ, 2, .inl t_isKept))] H := hP
              replace hD : va_D A [(a_t, .inr (10, [.ref a_t_roads, .int t_homes, .int t_there, .ref a_t_book, .ref a_t_now, .int t_meetings, .ref a_t_meeting, .int t_sights, .ref a_t_sight, .int t_signs, .ref a_t_pad, .int t_touched, .int t_firstTouch, .int t_reason, .int t_acts, .ref a_t_apart, .ref a_t_rounds, .ref a_t_fewest, .ref a_t_nextFewest, .ref a_t_ways, .ref a_t_nextWays, .ref a_t_counts, .ref a_t_image, .ref a_t_isKept])), (a_t_roads, .inl (cI, 12, .inl (upd l59t_roads l59v3.toNatClampNeg (t_image ((x31v2 + (25 : Int32)) + l59v3).toNatClampNeg)))), (a_t_book, .inl (cI, 25, .inl x31t_book)), (a_t_meeting, .inl (cI, 16, .inl t_meeting)), (a_t_sight, .inl (cI, 24, .inl t_sight)), (a_t_image, .inl (cI, 180, .inl t_image)), (a_t_isKept, .inl (cZ, 2, .inl t_isKept))] := hD
              refine lv_iinc (v := l59v3 + 1) (lv' := [(3, .int (l59v3 + 1)), (0, .ref a_t), (2, .int x31v2)]) hx hb dX10_restore_82 hl (k := 2) rfl rfl (by decide) rfl (fun ls hl => ?_)
              refine lv_goto (tgt := 59) hx hb dX10_restore_85 (by decide) ?_
              exact ih59 (l59v3 + 1) (upd l59t_roads l59v3.toNatClampNeg (t_image ((x31v2 + (25 : Int32)) + l59v3).toNatClampNeg)) _ _ _ hP hD hS (lv_sub hl [1, 2, 0] rfl) hf
        exact hL59 5000 (0 : Int32) t_roads _ _ _ hP hD hS (lv_sub hl [1, 2, 0] rfl) hf
      have hL31 : ∀ (n31 : Nat), ∀ (l31v2 : Int32) (l31v3 : Int32) (l31t_book : Nat → Int32) (H : Heap) (locs : List Loc) (ls : Array Slot), va_P D vwCl [(a_t, .inr (10, [.ref a_t_roads, .int t_homes, .int t_there, .ref a_t_book, .ref a_t_now, .int t_meetings, .ref a_t_meeting, .int t_sights, .ref a_t_sight, .int t_signs, .ref a_t_pad, .int t_touched, .int t_firstTouch, .int t_reason, .int t_acts, .ref a_t_apart, .ref a_t_rounds, .ref a_t_fewest, .ref a_t_nextFewest, .ref a_t_ways, .ref a_t_nextWays, .ref a_t_counts, .ref a_t_image, .ref a_t_isKept])), (a_t_roads, .inl (cI, 12, .inl t_roads)), (a_t_book, .inl (cI, 25, .inl l31t_book)), (a_t_meeting, .inl (cI, 16, .inl t_meeting)), (a_t_sight, .inl (cI, 24, .inl t_sight)), (a_t_image, .inl (cI, 180, .inl t_image)), (a_t_isKept, .inl (cZ, 2, .inl t_isKept))] H → va_D A [(a_t, .inr (10, [.ref a_t_roads, .int t_homes, .int t_there, .ref a_t_book, .ref a_t_now, .int t_meetings, .ref a_t_meeting, .int t_sights, .ref a_t_sight, .int t_signs, .ref a_t_pad, .int t_touched, .int t_firstTouch, .int t_reason, .int t_acts, .ref a_t_apart, .ref a_t_rounds, .ref a_t_fewest, .ref a_t_nextFewest, .ref a_t_ways, .ref a_t_nextWays, .ref a_t_counts, .ref a_t_image, .ref a_t_isKept])), (a_t_roads, .inl (cI, 12, .inl t_roads)), (a_t_book, .inl (cI, 25, .inl l31t_book)), (a_t_meeting, .inl (cI, 16, .inl t_meeting)), (a_t_sight, .inl (cI, 24, .inl t_sight)), (a_t_image, .inl (cI, 180, .inl t_image)), (a_t_isKept, .inl (cZ, 2, .inl t_isKept))] → va_S A s.heap H locs → lv_has ls 4 [(0, .ref a_t), (2, .int l31v2), (3, .int l31v3)] → f_X10_restore_L31 t_image (f_X10_restore_X31 t_roads t_meeting t_sight t_image) n31 l31v2 l31v3 l31t_book = some res → W p l e rm_X10_restore s m args below meth c H locs 0 0 Q (F0 m 31 ls []) := by
        intro n31
        induction n31 with
        | zero =>
          intro l31v2 l31v3 l31t_book H locs ls hP hD hS hl hf
          rw [f_X10_restore_L31] at hf
          cases hf
        | succ n31 ih31 =>
          intro l31v2 l31v3 l31t_book H locs ls hP hD hS hl hf
          rw [f_X10_restore_L31] at hf
          refine lv_iload_n hx hb dX10_restore_31 rfl (lv_at hl 2 rfl) ?_
          refine lv_bipush (v := 25) hx hb dX10_restore_32 (by decide) ?_
          refine lv_icmp_ge (tgt := 57) hx hb dX10_restore_34 (by decide) (fun hc => ?_) (fun hc => ?_)
          · replace hf := (if_pos hc).symm.trans hf
            exact hX31 l31v2 l31t_book _ _ _ hP hD hS (lv_sub hl [0, 1] rfl) hf
          · replace hf := (if_neg hc).symm.trans hf
            refine lv_aload_n hx hb dX10_restore_37 rfl (lv_at hl 0 rfl) ?_
            refine va_get (D := D) (ci := 10) (v := .ref a_t_book) (C := RX10) (T := TX10) (N := 24) hx hb hts hmsX10 hown hK hP 0 rfl rfl 3 (by decide) hw13 (fun _ h9 => h9) rfl dX10_restore_38 ?_
            refine lv_iload_n hx hb dX10_restore_41 rfl (lv_at hl 2 rfl) ?_
            refine lv_aload_n hx hb dX10_restore_42 rfl (lv_at hl 0 rfl) ?_
            refine va_get (D := D) (ci := 10) (v := .ref a_t_image) (C := RX10) (T := TX10) (N := 24) hx hb hts hmsX10 hown hK hP 0 rfl rfl 22 (by decide) hw50 (fun _ h9 => h9) rfl dX10_restore_43 ?_
            refine lv_iload_n hx hb dX10_restore_46 rfl (lv_at hl 1 rfl) ?_
            refine lv_iload_n hx hb dX10_restore_47 rfl (lv_at hl 2 rfl) ?_
            refine lv_iadd hx hb dX10_restore_48 ?_
            obtain ⟨hi49, hf⟩ := ix_if hf
            refine va_iald (D := D) hx hb hK hP 5 0 rfl rfl hi49 dX10_restore_49 ?_
            obtain ⟨hi50, hf⟩ := ix_if hf
            refine va_iast (D := D) hx hb hK hP hD hS 2 0 rfl rfl hi50 dX10_restore_50 (fun H locs hP hD hS => ?_)
            replace hP : va_P D vwCl [(a_t, .inr (10, [.ref a_t_roads, .int t_homes, .int t_there, .ref a_t_book, .ref a_t_now, .int t_meetings, .ref a_t_meeting, .int t_sights, .ref a_t_sight, .int t_signs, .ref a_t_pad, .int t_touched, .int t_firstTouch, .int t_reason, .int t_acts, .ref a_t_apart, .ref a_t_rounds, .ref a_t_fewest, .ref a_t_nextFewest, .ref a_t_ways, .ref a_t_nextWays, .ref a_t_counts, .ref a_t_image, .ref a_t_isKept])), (a_t_roads, .inl (cI, 12, .inl t_roads)), (a_t_book, .inl (cI, 25, .inl (upd l31t_book l31v3.toNatClampNeg (t_image (l31v2 + l31v3).toNatClampNeg)))), (a_t_meeting, .inl (cI, 16, .inl t_meeting)), (a_t_sight, .inl (cI, 24, .inl t_sight)), (a_t_image, .inl (cI, 180, .inl t_image)), (a_t_isKept, .inl (cZ, 2, .inl t_isKept))] H := hP
            replace hD : va_D A [(a_t, .inr (10, [.ref a_t_roads, .int t_homes, .int t_there, .ref a_t_book, .ref a_t_now, .int t_meetings, .ref a_t_meeting, .int t_sights, .ref a_t_sight, .int t_signs, .ref a_t_pad, .int t_touched, .int t_firstTouch, .int t_reason, .int t_acts, .ref a_t_apart, .ref a_t_rounds, .ref a_t_fewest, .ref a_t_nextFewest, .ref a_t_ways, .ref a_t_nextWays, .ref a_t_counts, .ref a_t_image, .ref a_t_isKept])), (a_t_roads, .inl (cI, 12, .inl t_roads)), (a_t_book, .inl (cI, 25, .inl (upd l31t_book l31v3.toNatClampNeg (t_image (l31v2 + l31v3).toNatClampNeg)))), (a_t_meeting, .inl (cI, 16, .inl t_meeting)), (a_t_sight, .inl (cI, 24, .inl t_sight)), (a_t_image, .inl (cI, 180, .inl t_image)), (a_t_isKept, .inl (cZ, 2, .inl t_isKept))] := hD
            refine lv_iinc (v := l31v3 + 1) (lv' := [(3, .int (l31v3 + 1)), (0, .ref a_t), (2, .int l31v2)]) hx hb dX10_restore_51 hl (k := 2) rfl rfl (by decide) rfl (fun ls hl => ?_)
            refine lv_goto (tgt := 31) hx hb dX10_restore_54 (by decide) ?_
            exact ih31 l31v2 (l31v3 + 1) (upd l31t_book l31v3.toNatClampNeg (t_image (l31v2 + l31v3).toNatClampNeg)) _ _ _ hP hD hS (lv_sub hl [1, 2, 0] rfl) hf
      exact hL31 5000 ((90 : Int32) * p1) (0 : Int32) t_book _ _ _ hP hD hS (lv_sub hl [2, 1, 0] rfl) hf
    · replace hf := (if_pos hc).symm.trans hf
      refine lv_bipush (v := -3) hx hb dX10_restore_21 (by decide) ?_
      obtain rfl := Option.some.inj hf
      exact fin _ _ _ _ dX10_restore_23 hP hD hS
  · replace hf := (if_pos hc).symm.trans hf
    refine lv_bipush (v := -2) hx hb dX10_restore_9 (by decide) ?_
    obtain rfl := Option.some.inj hf
    exact fin _ _ _ _ dX10_restore_11 hP hD hS
abbrev rm_X10_told : Room := { frames := 3, cells := 0, slots := 0, locals := 63 }
theorem ms_X10_told_X10 : ∀ w ∈ u_ws RX10 TX10 24, w ∈ wsX10_told := fun w h => List.mem_cons_of_mem _ (List.mem_append_right _ (h))
set_option maxHeartbeats 4000000 in
set_option maxRecDepth 100000 in
theorem c_X10_told (l : Launch) (D : va_G) (cI cJ cZ cO : ClassId) (sz : Nat) (a_t : Nat) (a_t_roads : Nat) (a_t_book : Nat) (a_t_now : Nat) (a_t_meeting : Nat) (a_t_sight : Nat) (a_t_pad : Nat) (a_t_apart : Nat) (a_t_rounds : Nat) (a_t_fewest : Nat) (a_t_nextFewest : Nat) (a_t_ways : Nat) (a_t_nextWays : Nat) (a_t_counts : Nat) (a_t_image : Nat) (a_t_isKept : Nat) (t_homes : Int32) (t_there : Int32) (t_meetings : Int32) (t_sights : Int32) (t_signs : Int32) (t_touched : Int32) (t_firstTouch : Int32) (t_reason : Int32) (t_acts : Int32) (t_roads : Nat → Int32) (t_book : Nat → Int32) (p1 : Int32) (res : Int32) (hf : f_X10_told t_homes t_there t_meetings t_sights t_signs t_roads t_book p1 = some res) : MetI l yX10_told wsX10_told rm_X10_told [.ref a_t, .int p1] D (tys4 cI cJ cZ cO) [(a_t, .inr (10, [.ref a_t_roads, .int t_homes, .int t_there, .ref a_t_book, .ref a_t_now, .int t_meetings, .ref a_t_meeting, .int t_sights, .ref a_t_sight, .int t_signs, .ref a_t_pad, .int t_touched, .int t_firstTouch, .int t_reason, .int t_acts, .ref a_t_apart, .ref a_t_rounds, .ref a_t_fewest, .ref a_t_nextFewest, .ref a_t_ways, .ref a_t_nextWays, .ref a_t_counts, .ref a_t_image, .ref a_t_isKept])), (a_t_roads, .inl (cI, 12, .inl t_roads)), (a_t_book, .inl (cI, 25, .inl t_book))] sz res [(a_t, .inr (10, [.ref a_t_roads, .int t_homes, .int t_there, .ref a_t_book, .ref a_t_now, .int t_meetings, .ref a_t_meeting, .int t_sights, .ref a_t_sight, .int t_signs, .ref a_t_pad, .int t_touched, .int t_firstTouch, .int t_reason, .int t_acts, .ref a_t_apart, .ref a_t_rounds, .ref a_t_fewest, .ref a_t_nextFewest, .ref a_t_ways, .ref a_t_nextWays, .ref a_t_counts, .ref a_t_image, .ref a_t_isKept])), (a_t_roads, .inl (cI, 12, .inl t_roads)), (a_t_book, .inl (cI, 25, .inl t_book))] := by
  refine met_i (cc := cX10_told) (maxL := 4) (by decide) rfl (Nat.le_of_ble_eq_true rfl) ?_
  intro p e s m args below meth c Q A hx hb hml hown hts hK hN hA fin H locs ls hP hD hS hl
  replace hown : s.vm.findClass RX10 = some m.cls := hown
  replace hl : lv_has ls 4 [(0, .ref a_t), (1, .int p1)] := hl
  rw [f_X10_told] at hf
  have hcw57 := va_cwS (R := rm_X10_told) (rm := rm_X10_in) 3 hts gX10_told_X10_in rfl rfl rfl (by decide +kernel) ⟨Nat.le_of_ble_eq_true rfl, Nat.le_of_ble_eq_true rfl⟩
  have hw13 := hts (.fieldLink RX10 13 "TouchReignModel" "book" "[I") (by decide +kernel)
  have hmsX10 := ms_X10_told_X10
  have hw86 := hts (.fieldLink RX10 86 "TouchReignModel" "signs" "I") (by decide +kernel)
  have hw65 := hts (.fieldLink RX10 65 "TouchReignModel" "there" "I") (by decide +kernel)
  have hw80 := hts (.fieldLink RX10 80 "TouchReignModel" "homes" "I") (by decide +kernel)
  have hw149 := hts (.fieldLink RX10 149 "TouchReignModel" "meetings" "I") (by decide +kernel)
  have hw165 := hts (.fieldLink RX10 165 "TouchReignModel" "sights" "I") (by decide +kernel)
  have hcw83 := cwV (R := rm_X10_told) (rm := rm_X10_isThere) 1 hts gX10_told_X10_isThere rfl rfl rfl (by decide +kernel) ⟨Nat.le_of_ble_eq_true rfl, Nat.le_of_ble_eq_true rfl⟩
  have hcw73 := va_cwS (R := rm_X10_told) (rm := rm_X10_isPlace) 1 hts gX10_told_X10_isPlace rfl rfl rfl (by decide +kernel) ⟨Nat.le_of_ble_eq_true rfl, Nat.le_of_ble_eq_true rfl⟩
  have hw7 := hts (.fieldLink RX10 7 "TouchReignModel" "roads" "[I") (by decide +kernel)
  refine lv_iload_n hx hb dX10_told_0 rfl (lv_at hl 1 rfl) ?_
  refine lv_bipush (v := 100) hx hb dX10_told_1 (by decide) ?_
  refine lv_icmp_lt (tgt := 31) hx hb dX10_told_3 (by decide) (fun hc => ?_) (fun hc => ?_)
  · replace hf := (if_pos hc).symm.trans hf
    refine lv_iload_n hx hb dX10_told_31 rfl (lv_at hl 1 rfl) ?_
    refine lv_bipush (v := 10) hx hb dX10_told_32 (by decide) ?_
    refine lv_icmp_lt (tgt := 113) hx hb dX10_told_34 (by decide) (fun hc => ?_) (fun hc => ?_)
    · replace hf := (if_pos hc).symm.trans hf
      refine lv_iload_n hx hb dX10_told_113 rfl (lv_at hl 1 rfl) ?_
      have hB185 : ∀ (H : Heap) (locs : List Loc) (ls : Array Slot), va_P D vwCl [(a_t, .inr (10, [.ref a_t_roads, .int t_homes, .int t_there, .ref a_t_book, .ref a_t_now, .int t_meetings, .ref a_t_meeting, .int t_sights, .ref a_t_sight, .int t_signs, .ref a_t_pad, .int t_touched, .int t_firstTouch, .int t_reason, .int t_acts, .ref a_t_apart, .ref a_t_rounds, .ref a_t_fewest, .ref a_t_nextFewest, .ref a_t_ways, .ref a_t_nextWays, .ref a_t_counts, .ref a_t_image, .ref a_t_isKept])), (a_t_roads, .inl (cI, 12, .inl t_roads)), (a_t_book, .inl (cI, 25, .inl t_book))] H → va_D A [(a_t, .inr (10, [.ref a_t_roads, .int t_homes, .int t_there, .ref a_t_book, .ref a_t_now, .int t_meetings, .ref a_t_meeting, .int t_sights, .ref a_t_sight, .int t_signs, .ref a_t_pad, .int t_touched, .int t_firstTouch, .int t_reason, .int t_acts, .ref a_t_apart, .ref a_t_rounds, .ref a_t_fewest, .ref a_t_nextFewest, .ref a_t_ways, .ref a_t_nextWays, .ref a_t_counts, .ref a_t_image, .ref a_t_isKept])), (a_t_roads, .inl (cI, 12, .inl t_roads)), (a_t_book, .inl (cI, 25, .inl t_book))] → va_S A s.heap H locs → lv_has ls 4 [(0, .ref a_t), (1, .int p1)] → f_X10_told_B185 t_book p1 = some res → W p l e rm_X10_told s m args below meth c H locs 0 0 Q (F0 m 185 ls []) := by
        intro  H locs ls hP hD hS hl hf
        rw [f_X10_told_B185] at hf
        refine lv_iload_n hx hb dX10_told_185 rfl (lv_at hl 1 rfl) ?_
        refine lv_iconst (v := 2) hx hb dX10_told_186 (by decide) ?_
        refine lv_iconst (v := 4) hx hb dX10_told_187 (by decide) ?_
        obtain ⟨x188, hx188, hf⟩ := bd_if hf
        refine cs_i (wr := [(a_t, .inr (10, [.ref a_t_roads, .int t_homes, .int t_there, .ref a_t_book, .ref a_t_now, .int t_meetings, .ref a_t_meeting, .int t_sights, .ref a_t_sight, .int t_signs, .ref a_t_pad, .int t_touched, .int t_firstTouch, .int t_reason, .int t_acts, .ref a_t_apart, .ref a_t_rounds, .ref a_t_fewest, .ref a_t_nextFewest, .ref a_t_ways, .ref a_t_nextWays, .ref a_t_counts, .ref a_t_image, .ref a_t_isKept])), (a_t_roads, .inl (cI, 12, .inl t_roads)), (a_t_book, .inl (cI, 25, .inl t_book))]) (ws' := [(a_t, .inr (10, [.ref a_t_roads, .int t_homes, .int t_there, .ref a_t_book, .ref a_t_now, .int t_meetings, .ref a_t_meeting, .int t_sights, .ref a_t_sight, .int t_signs, .ref a_t_pad, .int t_touched, .int t_firstTouch, .int t_reason, .int t_acts, .ref a_t_apart, .ref a_t_rounds, .ref a_t_fewest, .ref a_t_nextFewest, .ref a_t_ways, .ref a_t_nextWays, .ref a_t_counts, .ref a_t_image, .ref a_t_isKept])), (a_t_roads, .inl (cI, 12, .inl t_roads)), (a_t_book, .inl (cI, 25, .inl t_book))]) ⟨hx, hb, hml, hown, hts⟩ hcw57 hK hN hP hD hS hA (c_X10_in l D cI cJ cZ cO _ p1 (2 : Int32) (4 : Int32) x188 hx188) [] [0, 1, 2] [0, 1, 2] rfl rfl rfl rfl (by decide) rfl rfl rfl hl.1 rfl (Nat.le_of_ble_eq_true rfl) dX10_told_188 ⟨Nat.zero_le _, Nat.zero_le _⟩ (fun H locs hP hD hS => ?_)
        refine lv_if_eq (tgt := 206) hx hb dX10_told_191 (by decide) (fun hc => ?_) (fun hc => ?_)
        · replace hf := (if_pos hc).symm.trans hf
          refine lv_bipush (v := -2) hx hb dX10_told_206 (by decide) ?_
          obtain rfl := Option.some.inj hf
          exact fin _ _ _ _ dX10_told_208 hP hD hS
        · replace hf := (if_neg hc).symm.trans hf
          refine lv_aload_n hx hb dX10_told_194 rfl (lv_at hl 0 rfl) ?_
          refine va_get (D := D) (ci := 10) (v := .ref a_t_book) (C := RX10) (T := TX10) (N := 24) hx hb hts hmsX10 hown hK hP 0 rfl rfl 3 (by decide) hw13 (fun _ h9 => h9) rfl dX10_told_195 ?_
          refine lv_bipush (v := 20) hx hb dX10_told_198 (by decide) ?_
          refine lv_iload_n hx hb dX10_told_200 rfl (lv_at hl 1 rfl) ?_
          refine lv_iadd hx hb dX10_told_201 ?_
          obtain ⟨hi202, hf⟩ := ix_if hf
          refine va_iald (D := D) hx hb hK hP 2 0 rfl rfl hi202 dX10_told_202 ?_
          refine lv_goto (tgt := 208) hx hb dX10_told_203 (by decide) ?_
          obtain rfl := Option.some.inj hf
          exact fin _ _ _ _ dX10_told_208 hP hD hS
      by_cases hc : p1 = (0 : Int32)
      · replace hf := (if_pos hc).symm.trans hf
        refine lv_tableIn (tgt := 160) hx hb dX10_told_114 (by rw [hc]; decide) (by rw [hc]; decide) (off := 46) (by rw [hc]; decide) (by decide) ?_
        refine lv_aload_n hx hb dX10_told_160 rfl (lv_at hl 0 rfl) ?_
        refine va_get (D := D) (ci := 10) (v := .int t_signs) (C := RX10) (T := TX10) (N := 24) hx hb hts hmsX10 hown hK hP 0 rfl rfl 9 (by decide) hw86 (fun _ h9 => h9) rfl dX10_told_161 ?_
        obtain rfl := Option.some.inj hf
        exact fin _ _ _ _ dX10_told_164 hP hD hS
      replace hf := (if_neg hc).symm.trans hf
      have e0 := ti_ne (k := 0) (0 : Int32) (by decide) hc
      clear hc
      by_cases hc : p1 = (1 : Int32)
      · replace hf := (if_pos hc).symm.trans hf
        refine lv_tableIn (tgt := 165) hx hb dX10_told_114 (by rw [hc]; decide) (by rw [hc]; decide) (off := 51) (by rw [hc]; decide) (by decide) ?_
        refine lv_aload_n hx hb dX10_told_165 rfl (lv_at hl 0 rfl) ?_
        refine va_get (D := D) (ci := 10) (v := .int t_there) (C := RX10) (T := TX10) (N := 24) hx hb hts hmsX10 hown hK hP 0 rfl rfl 2 (by decide) hw65 (fun _ h9 => h9) rfl dX10_told_166 ?_
        obtain rfl := Option.some.inj hf
        exact fin _ _ _ _ dX10_told_169 hP hD hS
      replace hf := (if_neg hc).symm.trans hf
      have e1 := ti_ne (k := 1) (1 : Int32) (by decide) hc
      clear hc
      by_cases hc : p1 = (2 : Int32)
      · replace hf := (if_pos hc).symm.trans hf
        refine lv_tableIn (tgt := 185) hx hb dX10_told_114 (by rw [hc]; decide) (by rw [hc]; decide) (off := 71) (by rw [hc]; decide) (by decide) ?_
        exact hB185 _ _ _ hP hD hS (lv_sub hl [0, 1] rfl) hf
      replace hf := (if_neg hc).symm.trans hf
      have e2 := ti_ne (k := 2) (2 : Int32) (by decide) hc
      clear hc
      by_cases hc : p1 = (3 : Int32)
      · replace hf := (if_pos hc).symm.trans hf
        refine lv_tableIn (tgt := 185) hx hb dX10_told_114 (by rw [hc]; decide) (by rw [hc]; decide) (off := 71) (by rw [hc]; decide) (by decide) ?_
        exact hB185 _ _ _ hP hD hS (lv_sub hl [0, 1] rfl) hf
      replace hf := (if_neg hc).symm.trans hf
      have e3 := ti_ne (k := 3) (3 : Int32) (by decide) hc
      clear hc
      by_cases hc : p1 = (4 : Int32)
      · replace hf := (if_pos hc).symm.trans hf
        refine lv_tableIn (tgt := 185) hx hb dX10_told_114 (by rw [hc]; decide) (by rw [hc]; decide) (off := 71) (by rw [hc]; decide) (by decide) ?_
        exact hB185 _ _ _ hP hD hS (lv_sub hl [0, 1] rfl) hf
      replace hf := (if_neg hc).symm.trans hf
      have e4 := ti_ne (k := 4) (4 : Int32) (by decide) hc
      clear hc
      by_cases hc : p1 = (5 : Int32)
      · replace hf := (if_pos hc).symm.trans hf
        refine lv_tableIn (tgt := 170) hx hb dX10_told_114 (by rw [hc]; decide) (by rw [hc]; decide) (off := 56) (by rw [hc]; decide) (by decide) ?_
        refine lv_aload_n hx hb dX10_told_170 rfl (lv_at hl 0 rfl) ?_
        refine va_get (D := D) (ci := 10) (v := .int t_homes) (C := RX10) (T := TX10) (N := 24) hx hb hts hmsX10 hown hK hP 0 rfl rfl 1 (by decide) hw80 (fun _ h9 => h9) rfl dX10_told_171 ?_
        obtain rfl := Option.some.inj hf
        exact fin _ _ _ _ dX10_told_174 hP hD hS
      replace hf := (if_neg hc).symm.trans hf
      have e5 := ti_ne (k := 5) (5 : Int32) (by decide) hc
      clear hc
      by_cases hc : p1 = (6 : Int32)
      · replace hf := (if_pos hc).symm.trans hf
        refine lv_tableIn (tgt := 175) hx hb dX10_told_114 (by rw [hc]; decide) (by rw [hc]; decide) (off := 61) (by rw [hc]; decide) (by decide) ?_
        refine lv_aload_n hx hb dX10_told_175 rfl (lv_at hl 0 rfl) ?_
        refine va_get (D := D) (ci := 10) (v := .int t_meetings) (C := RX10) (T := TX10) (N := 24) hx hb hts hmsX10 hown hK hP 0 rfl rfl 5 (by decide) hw149 (fun _ h9 => h9) rfl dX10_told_176 ?_
        obtain rfl := Option.some.inj hf
        exact fin _ _ _ _ dX10_told_179 hP hD hS
      replace hf := (if_neg hc).symm.trans hf
      have e6 := ti_ne (k := 6) (6 : Int32) (by decide) hc
      clear hc
      by_cases hc : p1 = (7 : Int32)
      · replace hf := (if_pos hc).symm.trans hf
        refine lv_tableIn (tgt := 180) hx hb dX10_told_114 (by rw [hc]; decide) (by rw [hc]; decide) (off := 66) (by rw [hc]; decide) (by decide) ?_
        refine lv_aload_n hx hb dX10_told_180 rfl (lv_at hl 0 rfl) ?_
        refine va_get (D := D) (ci := 10) (v := .int t_sights) (C := RX10) (T := TX10) (N := 24) hx hb hts hmsX10 hown hK hP 0 rfl rfl 7 (by decide) hw165 (fun _ h9 => h9) rfl dX10_told_181 ?_
        obtain rfl := Option.some.inj hf
        exact fin _ _ _ _ dX10_told_184 hP hD hS
      replace hf := (if_neg hc).symm.trans hf
      have e7 := ti_ne (k := 7) (7 : Int32) (by decide) hc
      clear hc
      refine lv_tableOut (tgt := 185) hx hb dX10_told_114 (by omega) (by decide) ?_
      exact hB185 _ _ _ hP hD hS (lv_sub hl [0, 1] rfl) hf
    · replace hf := (if_neg hc).symm.trans hf
      refine lv_iload_n hx hb dX10_told_37 rfl (lv_at hl 1 rfl) ?_
      refine lv_bipush (v := 10) hx hb dX10_told_38 (by decide) ?_
      refine lv_idiv hx hb dX10_told_40 (by decide) ?_
      refine lv_iconst (v := 1) hx hb dX10_told_41 (by decide) ?_
      refine lv_isub hx hb dX10_told_42 ?_
      refine lv_istore_n (lv' := [(2, .int ((p1 / (10 : Int32)) - (1 : Int32))), (0, .ref a_t), (1, .int p1)]) hx hb dX10_told_43 rfl hl (by decide) rfl (fun ls hl => ?_)
      refine lv_iload_n hx hb dX10_told_44 rfl (lv_at hl 2 rfl) ?_
      refine lv_bipush (v := 10) hx hb dX10_told_45 (by decide) ?_
      refine lv_irem hx hb dX10_told_47 (by decide) ?_
      refine lv_istore_n (lv' := [(3, .int (p1 - p1 / (10 : Int32) * (10 : Int32))), (2, .int ((p1 / (10 : Int32)) - (1 : Int32))), (0, .ref a_t), (1, .int p1)]) hx hb dX10_told_48 rfl hl (by decide) rfl (fun ls hl => ?_)
      refine lv_aload_n hx hb dX10_told_49 rfl (lv_at hl 2 rfl) ?_
      refine lv_iload_n hx hb dX10_told_50 rfl (lv_at hl 1 rfl) ?_
      obtain ⟨x51, hx51, hf⟩ := bd_if hf
      refine cv_i (wr := [(a_t_roads, .inl (cI, 12, .inl t_roads)), (a_t_book, .inl (cI, 25, .inl t_book))]) (ws' := [(a_t, .inr (10, [.ref a_t_roads, .int t_homes, .int t_there, .ref a_t_book, .ref a_t_now, .int t_meetings, .ref a_t_meeting, .int t_sights, .ref a_t_sight, .int t_signs, .ref a_t_pad, .int t_touched, .int t_firstTouch, .int t_reason, .int t_acts, .ref a_t_apart, .ref a_t_rounds, .ref a_t_fewest, .ref a_t_nextFewest, .ref a_t_ways, .ref a_t_nextWays, .ref a_t_counts, .ref a_t_image, .ref a_t_isKept])), (a_t_roads, .inl (cI, 12, .inl t_roads)), (a_t_book, .inl (cI, 25, .inl t_book))]) ⟨hx, hb, hml, hown, hts⟩ hcw83 hK hN hP hD hS hA (c_X10_isThere l D cI cJ cZ cO _ a_t a_t_roads a_t_book a_t_now a_t_meeting a_t_sight a_t_pad a_t_apart a_t_rounds a_t_fewest a_t_nextFewest a_t_ways a_t_nextWays a_t_counts a_t_image a_t_isKept t_homes t_there t_meetings t_sights t_signs t_touched t_firstTouch t_reason t_acts ((p1 / (10 : Int32)) - (1 : Int32)) x51 hx51) (q := (RX10, TX10, 24)) (ci := 10) (q0 := 0) rfl rfl [0] [1, 2] [2, 0, 1] rfl rfl rfl rfl (by decide) rfl rfl rfl hl.1 rfl (Nat.le_of_ble_eq_true rfl) dX10_told_51 ⟨Nat.zero_le _, Nat.zero_le _⟩ (fun H locs hP hD hS => ?_)
      refine lv_if_eq (tgt := 62) hx hb dX10_told_54 (by decide) (fun hc => ?_) (fun hc => ?_)
      · replace hf := (if_pos hc).symm.trans hf
        refine lv_bipush (v := -2) hx hb dX10_told_62 (by decide) ?_
        obtain rfl := Option.some.inj hf
        exact fin _ _ _ _ dX10_told_64 hP hD hS
      · replace hf := (if_neg hc).symm.trans hf
        refine lv_iload_n hx hb dX10_told_57 rfl (lv_at hl 0 rfl) ?_
        refine lv_iconst (v := 3) hx hb dX10_told_58 (by decide) ?_
        refine lv_icmp_le (tgt := 65) hx hb dX10_told_59 (by decide) (fun hc => ?_) (fun hc => ?_)
        · replace hf := (if_pos hc).symm.trans hf
          refine lv_iload_n hx hb dX10_told_65 rfl (lv_at hl 0 rfl) ?_
          refine lv_iconst (v := 2) hx hb dX10_told_66 (by decide) ?_
          refine lv_icmp_ge (tgt := 84) hx hb dX10_told_67 (by decide) (fun hc => ?_) (fun hc => ?_)
          · replace hf := (if_pos hc).symm.trans hf
            refine lv_iload_n hx hb dX10_told_84 rfl (lv_at hl 0 rfl) ?_
            refine lv_iconst (v := 2) hx hb dX10_told_85 (by decide) ?_
            refine lv_icmp_ne (tgt := 103) hx hb dX10_told_86 (by decide) (fun hc => ?_) (fun hc => ?_)
            · replace hf := (if_neg hc).symm.trans hf
              refine lv_aload_n hx hb dX10_told_103 rfl (lv_at hl 2 rfl) ?_
              refine va_get (D := D) (ci := 10) (v := .ref a_t_book) (C := RX10) (T := TX10) (N := 24) hx hb hts hmsX10 hown hK hP 0 rfl rfl 3 (by decide) hw13 (fun _ h9 => h9) rfl dX10_told_104 ?_
              refine lv_bipush (v := 14) hx hb dX10_told_107 (by decide) ?_
              refine lv_iload_n hx hb dX10_told_109 rfl (lv_at hl 1 rfl) ?_
              refine lv_iadd hx hb dX10_told_110 ?_
              obtain ⟨hi111, hf⟩ := ix_if hf
              refine va_iald (D := D) hx hb hK hP 2 0 rfl rfl hi111 dX10_told_111 ?_
              obtain rfl := Option.some.inj hf
              exact fin _ _ _ _ dX10_told_112 hP hD hS
            · replace hf := (if_pos hc).symm.trans hf
              refine lv_aload_n hx hb dX10_told_89 rfl (lv_at hl 2 rfl) ?_
              refine va_get (D := D) (ci := 10) (v := .ref a_t_book) (C := RX10) (T := TX10) (N := 24) hx hb hts hmsX10 hown hK hP 0 rfl rfl 3 (by decide) hw13 (fun _ h9 => h9) rfl dX10_told_90 ?_
              refine lv_bipush (v := 21) hx hb dX10_told_93 (by decide) ?_
              refine va_iald (D := D) hx hb hK hP 2 0 rfl rfl (ix_in rfl) dX10_told_95 ?_
              refine lv_iload_n hx hb dX10_told_96 rfl (lv_at hl 1 rfl) ?_
              refine lv_ishr hx hb dX10_told_97 ?_
              refine lv_iconst (v := 1) hx hb dX10_told_98 (by decide) ?_
              refine lv_iand hx hb dX10_told_99 ?_
              refine lv_goto (tgt := 112) hx hb dX10_told_100 (by decide) ?_
              obtain rfl := Option.some.inj hf
              exact fin _ _ _ _ dX10_told_112 hP hD hS
          · replace hf := (if_neg hc).symm.trans hf
            refine lv_aload_n hx hb dX10_told_70 rfl (lv_at hl 2 rfl) ?_
            refine va_get (D := D) (ci := 10) (v := .ref a_t_book) (C := RX10) (T := TX10) (N := 24) hx hb hts hmsX10 hown hK hP 0 rfl rfl 3 (by decide) hw13 (fun _ h9 => h9) rfl dX10_told_71 ?_
            refine lv_bipush (v := 7) hx hb dX10_told_74 (by decide) ?_
            refine lv_iload_n hx hb dX10_told_76 rfl (lv_at hl 0 rfl) ?_
            refine lv_imul hx hb dX10_told_77 ?_
            refine lv_iload_n hx hb dX10_told_78 rfl (lv_at hl 1 rfl) ?_
            refine lv_iadd hx hb dX10_told_79 ?_
            obtain ⟨hi80, hf⟩ := ix_if hf
            refine va_iald (D := D) hx hb hK hP 2 0 rfl rfl hi80 dX10_told_80 ?_
            refine lv_goto (tgt := 112) hx hb dX10_told_81 (by decide) ?_
            obtain rfl := Option.some.inj hf
            exact fin _ _ _ _ dX10_told_112 hP hD hS
        · replace hf := (if_neg hc).symm.trans hf
          refine lv_bipush (v := -2) hx hb dX10_told_62 (by decide) ?_
          obtain rfl := Option.some.inj hf
          exact fin _ _ _ _ dX10_told_64 hP hD hS
  · replace hf := (if_neg hc).symm.trans hf
    refine lv_iload_n hx hb dX10_told_6 rfl (lv_at hl 1 rfl) ?_
    refine lv_bipush (v := 100) hx hb dX10_told_7 (by decide) ?_
    refine lv_isub hx hb dX10_told_9 ?_
    obtain ⟨x10, hx10, hf⟩ := bd_if hf
    refine cs_i (wr := [(a_t, .inr (10, [.ref a_t_roads, .int t_homes, .int t_there, .ref a_t_book, .ref a_t_now, .int t_meetings, .ref a_t_meeting, .int t_sights, .ref a_t_sight, .int t_signs, .ref a_t_pad, .int t_touched, .int t_firstTouch, .int t_reason, .int t_acts, .ref a_t_apart, .ref a_t_rounds, .ref a_t_fewest, .ref a_t_nextFewest, .ref a_t_ways, .ref a_t_nextWays, .ref a_t_counts, .ref a_t_image, .ref a_t_isKept])), (a_t_roads, .inl (cI, 12, .inl t_roads)), (a_t_book, .inl (cI, 25, .inl t_book))]) (ws' := [(a_t, .inr (10, [.ref a_t_roads, .int t_homes, .int t_there, .ref a_t_book, .ref a_t_now, .int t_meetings, .ref a_t_meeting, .int t_sights, .ref a_t_sight, .int t_signs, .ref a_t_pad, .int t_touched, .int t_firstTouch, .int t_reason, .int t_acts, .ref a_t_apart, .ref a_t_rounds, .ref a_t_fewest, .ref a_t_nextFewest, .ref a_t_ways, .ref a_t_nextWays, .ref a_t_counts, .ref a_t_image, .ref a_t_isKept])), (a_t_roads, .inl (cI, 12, .inl t_roads)), (a_t_book, .inl (cI, 25, .inl t_book))]) ⟨hx, hb, hml, hown, hts⟩ hcw73 hK hN hP hD hS hA (c_X10_isPlace l D cI cJ cZ cO _ (p1 - (100 : Int32)) x10 hx10) [] [0, 1, 2] [0, 1, 2] rfl rfl rfl rfl (by decide) rfl rfl rfl hl.1 rfl (Nat.le_of_ble_eq_true rfl) dX10_told_10 ⟨Nat.zero_le _, Nat.zero_le _⟩ (fun H locs hP hD hS => ?_)
    refine lv_if_eq (tgt := 28) hx hb dX10_told_13 (by decide) (fun hc => ?_) (fun hc => ?_)
    · replace hf := (if_pos hc).symm.trans hf
      refine lv_bipush (v := -2) hx hb dX10_told_28 (by decide) ?_
      obtain rfl := Option.some.inj hf
      exact fin _ _ _ _ dX10_told_30 hP hD hS
    · replace hf := (if_neg hc).symm.trans hf
      refine lv_aload_n hx hb dX10_told_16 rfl (lv_at hl 0 rfl) ?_
      refine va_get (D := D) (ci := 10) (v := .ref a_t_roads) (C := RX10) (T := TX10) (N := 24) hx hb hts hmsX10 hown hK hP 0 rfl rfl 0 (by decide) hw7 (fun _ h9 => h9) rfl dX10_told_17 ?_
      refine lv_iload_n hx hb dX10_told_20 rfl (lv_at hl 1 rfl) ?_
      refine lv_bipush (v := 100) hx hb dX10_told_21 (by decide) ?_
      refine lv_isub hx hb dX10_told_23 ?_
      obtain ⟨hi24, hf⟩ := ix_if hf
      refine va_iald (D := D) hx hb hK hP 1 0 rfl rfl hi24 dX10_told_24 ?_
      refine lv_goto (tgt := 30) hx hb dX10_told_25 (by decide) ?_
      obtain rfl := Option.some.inj hf
      exact fin _ _ _ _ dX10_told_30 hP hD hS
