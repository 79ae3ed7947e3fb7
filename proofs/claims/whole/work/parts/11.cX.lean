abbrev rm_X9_holds : Room := { frames := 0, cells := 0, slots := 0, locals := 0 }
set_option maxHeartbeats 4000000 in
set_option maxRecDepth 100000 in
theorem c_X9_holds (l : Launch) (D : va_G) (cI cJ cZ cO : ClassId) (sz : Nat) (p0 : Int32) (p1 : Int32) (res : Int32) (hf : f_X9_holds p0 p1 = some res) : MetI l yX9_holds wsX9_holds rm_X9_holds [.int p0, .int p1] D (tys4 cI cJ cZ cO) [] sz res [] := by
  refine met_z (cc := cX9_holds) (maxL := 2) (by decide) rfl (Nat.le_of_ble_eq_true rfl) ?_
  intro p e s m args below meth c Q A hx hb hml hown hts hK hN hA fin H locs ls hP hD hS hl
  replace hown : s.vm.findClass RX9 = some m.cls := hown
  replace hl : lv_has ls 2 [(0, .int p0), (1, .int p1)] := hl
  rw [f_X9_holds] at hf
  refine lv_iload_n hx hb dX9_holds_0 rfl (lv_at hl 1 rfl) ?_
  refine lv_if_lt (tgt := 23) hx hb dX9_holds_1 (by decide) (fun hc => ?_) (fun hc => ?_)
  · replace hf := (if_pos hc).symm.trans hf
    refine lv_iconst (v := 0) hx hb dX9_holds_23 (by decide) ?_
    obtain rfl := Option.some.inj hf
    exact fin _ _ _ _ nb_0 dX9_holds_24 hP hD hS
  · replace hf := (if_neg hc).symm.trans hf
    refine lv_iload_n hx hb dX9_holds_4 rfl (lv_at hl 1 rfl) ?_
    refine lv_bipush (v := 31) hx hb dX9_holds_5 (by decide) ?_
    refine lv_icmp_ge (tgt := 23) hx hb dX9_holds_7 (by decide) (fun hc => ?_) (fun hc => ?_)
    · replace hf := (if_pos hc).symm.trans hf
      refine lv_iconst (v := 0) hx hb dX9_holds_23 (by decide) ?_
      obtain rfl := Option.some.inj hf
      exact fin _ _ _ _ nb_0 dX9_holds_24 hP hD hS
    · replace hf := (if_neg hc).symm.trans hf
      refine lv_iload_n hx hb dX9_holds_10 rfl (lv_at hl 0 rfl) ?_
      refine lv_iload_n hx hb dX9_holds_11 rfl (lv_at hl 1 rfl) ?_
      refine lv_ishr hx hb dX9_holds_12 ?_
      refine lv_iconst (v := 1) hx hb dX9_holds_13 (by decide) ?_
      refine lv_iand hx hb dX9_holds_14 ?_
      refine lv_iconst (v := 1) hx hb dX9_holds_15 (by decide) ?_
      refine lv_icmp_ne (tgt := 23) hx hb dX9_holds_16 (by decide) (fun hc => ?_) (fun hc => ?_)
      · replace hf := (if_neg hc).symm.trans hf
        refine lv_iconst (v := 0) hx hb dX9_holds_23 (by decide) ?_
        obtain rfl := Option.some.inj hf
        exact fin _ _ _ _ nb_0 dX9_holds_24 hP hD hS
      · replace hf := (if_pos hc).symm.trans hf
        refine lv_iconst (v := 1) hx hb dX9_holds_19 (by decide) ?_
        refine lv_goto (tgt := 24) hx hb dX9_holds_20 (by decide) ?_
        obtain rfl := Option.some.inj hf
        exact fin _ _ _ _ nb_1 dX9_holds_24 hP hD hS
abbrev rm_X2_touchedAt : Room := { frames := 1, cells := 0, slots := 0, locals := 21 }
theorem ms_X2_touchedAt_X2 : ∀ w ∈ u_ws RX2 TX2 2, w ∈ wsX2_touchedAt := fun w h => List.mem_cons_of_mem _ (List.mem_append_right _ (h))
set_option maxHeartbeats 4000000 in
set_option maxRecDepth 100000 in
theorem c_X2_touchedAt (l : Launch) (D : va_G) (cI cJ cZ cO : ClassId) (sz : Nat) (a_t : Nat) (a_t_roads : Nat) (t_homes : Int32) (p1 : Int32) (res : Int32) (hf : f_X2_touchedAt t_homes p1 = some res) : MetI l yX2_touchedAt wsX2_touchedAt rm_X2_touchedAt [.ref a_t, .int p1] D (tys4 cI cJ cZ cO) [(a_t, .inr (2, [.ref a_t_roads, .int t_homes]))] sz res [(a_t, .inr (2, [.ref a_t_roads, .int t_homes]))] := by
  refine met_i (cc := cX2_touchedAt) (maxL := 2) (by decide) rfl (Nat.le_of_ble_eq_true rfl) ?_
  intro p e s m args below meth c Q A hx hb hml hown hts hK hN hA fin H locs ls hP hD hS hl
  replace hown : s.vm.findClass RX2 = some m.cls := hown
  replace hl : lv_has ls 2 [(0, .ref a_t), (1, .int p1)] := hl
  rw [f_X2_touchedAt] at hf
  have hw15 := hts (.fieldLink RX2 15 "TouchReign$Land" "homes" "I") (by decide +kernel)
  have hmsX2 := ms_X2_touchedAt_X2
  have hiniX9 := hts (.initialized RX9) (by decide +kernel)
  have hcw39 := va_cnB (R := rm_X2_touchedAt) (rm := rm_X9_holds) 2 hts gX2_touchedAt_X9_holds_n39 rfl rfl rfl (hN.1 (.methodLinkNest RX2 39 yX9_holds RX9) (by decide +kernel)) hiniX9 (by decide +kernel) ⟨Nat.le_of_ble_eq_true rfl, Nat.le_of_ble_eq_true rfl⟩
  have hst39 := hts (.static yX9_holds) (by decide +kernel)
  refine lv_aload_n hx hb dX2_touchedAt_0 rfl (lv_at hl 0 rfl) ?_
  refine va_get (D := D) (ci := 2) (v := .int t_homes) (C := RX2) (T := TX2) (N := 2) hx hb hts hmsX2 hown hK hP 0 rfl rfl 1 (by decide) hw15 (fun _ h9 => h9) rfl dX2_touchedAt_1 ?_
  refine lv_iload_n hx hb dX2_touchedAt_4 rfl (lv_at hl 1 rfl) ?_
  obtain ⟨x5, hx5, hf⟩ := bd_if hf
  refine cn_i (wr := [(a_t, .inr (2, [.ref a_t_roads, .int t_homes]))]) (ws' := [(a_t, .inr (2, [.ref a_t_roads, .int t_homes]))]) ⟨hx, hb, hml, hown, hts⟩ ⟨hcw39, hst39, trivial⟩ hK hN hP hD hS hA (c_X9_holds l D cI cJ cZ cO _ t_homes p1 x5 hx5) [] [0] [0] rfl rfl rfl rfl (by decide) rfl rfl rfl hl.1 rfl (Nat.le_of_ble_eq_true rfl) dX2_touchedAt_5 ⟨Nat.zero_le _, Nat.zero_le _⟩ (fun H locs hP hD hS => ?_)
  refine lv_if_eq (tgt := 15) hx hb dX2_touchedAt_8 (by decide) (fun hc => ?_) (fun hc => ?_)
  · replace hf := (if_pos hc).symm.trans hf
    refine lv_iconst (v := 1) hx hb dX2_touchedAt_15 (by decide) ?_
    refine lv_iload_n hx hb dX2_touchedAt_16 rfl (lv_at hl 1 rfl) ?_
    refine lv_ishl hx hb dX2_touchedAt_17 ?_
    obtain rfl := Option.some.inj hf
    exact fin _ _ _ _ dX2_touchedAt_18 hP hD hS
  · replace hf := (if_neg hc).symm.trans hf
    refine lv_iconst (v := 0) hx hb dX2_touchedAt_11 (by decide) ?_
    refine lv_goto (tgt := 18) hx hb dX2_touchedAt_12 (by decide) ?_
    obtain rfl := Option.some.inj hf
    exact fin _ _ _ _ dX2_touchedAt_18 hP hD hS
abbrev rm_X0_begin : Room := { frames := 2, cells := 0, slots := 0, locals := 42 }
theorem ms_X0_begin_X0 : ∀ w ∈ u_ws RX0 TX0 2, w ∈ wsX0_begin := fun w h => List.mem_cons_of_mem _ (List.mem_append_left _ (List.mem_append_right _ (h)))
set_option maxHeartbeats 4000000 in
set_option maxRecDepth 100000 in
theorem c_X0_begin (l : Launch) (D : va_G) (cI cJ cZ cO : ClassId) (sz : Nat) (a_t : Nat) (a_t_caught : Nat) (a_t_trapped : Nat) (a_o1 : Nat) (a_o1_roads : Nat) (t_caught : Nat → Int32) (o1_homes : Int32) (res : (Nat → Int32)) (hf : f_X0_begin t_caught o1_homes = some res) : MetV l yX0_begin wsX0_begin rm_X0_begin [.ref a_t, .ref a_o1] D (tys4 cI cJ cZ cO) [(a_t, .inr (0, [.ref a_t_caught, .ref a_t_trapped])), (a_t_caught, .inl (cI, 12, .inl t_caught)), (a_o1, .inr (2, [.ref a_o1_roads, .int o1_homes]))] sz [(a_t, .inr (0, [.ref a_t_caught, .ref a_t_trapped])), (a_t_caught, .inl (cI, 12, .inl res)), (a_o1, .inr (2, [.ref a_o1_roads, .int o1_homes]))] := by
  refine met_v (cc := cX0_begin) (maxL := 3) (by decide) rfl (Nat.le_of_ble_eq_true rfl) ?_
  intro p e s m args below meth c Q A hx hb hml hown hts hK hN hA fin H locs ls hP hD hS hl
  replace hown : s.vm.findClass RX0 = some m.cls := hown
  replace hl : lv_has ls 3 [(0, .ref a_t), (1, .ref a_o1)] := hl
  rw [f_X0_begin] at hf
  have hw9 := hts (.fieldLink RX0 9 "TouchReign$Chase" "caught" "[I") (by decide +kernel)
  have hmsX0 := ms_X0_begin_X0
  have hcw18 := cwV (R := rm_X0_begin) (rm := rm_X2_touchedAt) 1 hts gX0_begin_X2_touchedAt rfl rfl rfl (by decide +kernel) ⟨Nat.le_of_ble_eq_true rfl, Nat.le_of_ble_eq_true rfl⟩
  refine lv_iconst (v := 0) hx hb dX0_begin_0 (by decide) ?_
  refine lv_istore_n (lv' := [(2, .int (0 : Int32)), (0, .ref a_t), (1, .ref a_o1)]) hx hb dX0_begin_1 rfl hl (by decide) rfl (fun ls hl => ?_)
  have hX2 : ∀ (x2t_caught : Nat → Int32) (H : Heap) (locs : List Loc) (ls : Array Slot), va_P D vwCl [(a_t, .inr (0, [.ref a_t_caught, .ref a_t_trapped])), (a_t_caught, .inl (cI, 12, .inl x2t_caught)), (a_o1, .inr (2, [.ref a_o1_roads, .int o1_homes]))] H → va_D A [(a_t, .inr (0, [.ref a_t_caught, .ref a_t_trapped])), (a_t_caught, .inl (cI, 12, .inl x2t_caught)), (a_o1, .inr (2, [.ref a_o1_roads, .int o1_homes]))] → va_S A s.heap H locs → lv_has ls 3 [] → f_X0_begin_X2 x2t_caught = some res → W p l e rm_X0_begin s m args below meth c H locs 0 0 Q (F0 m 25 ls []) := by
    intro x2t_caught H locs ls hP hD hS hl hf
    rw [f_X0_begin_X2] at hf
    obtain rfl := Option.some.inj hf
    exact fin _ _ _ _ dX0_begin_25 hP hD hS
  have hL2 : ∀ (n2 : Nat), ∀ (l2v2 : Int32) (l2t_caught : Nat → Int32) (H : Heap) (locs : List Loc) (ls : Array Slot), va_P D vwCl [(a_t, .inr (0, [.ref a_t_caught, .ref a_t_trapped])), (a_t_caught, .inl (cI, 12, .inl l2t_caught)), (a_o1, .inr (2, [.ref a_o1_roads, .int o1_homes]))] H → va_D A [(a_t, .inr (0, [.ref a_t_caught, .ref a_t_trapped])), (a_t_caught, .inl (cI, 12, .inl l2t_caught)), (a_o1, .inr (2, [.ref a_o1_roads, .int o1_homes]))] → va_S A s.heap H locs → lv_has ls 3 [(0, .ref a_t), (1, .ref a_o1), (2, .int l2v2)] → f_X0_begin_L2 o1_homes f_X0_begin_X2 n2 l2v2 l2t_caught = some res → W p l e rm_X0_begin s m args below meth c H locs 0 0 Q (F0 m 2 ls []) := by
    intro n2
    induction n2 with
    | zero =>
      intro l2v2 l2t_caught H locs ls hP hD hS hl hf
      rw [f_X0_begin_L2] at hf
      cases hf
    | succ n2 ih2 =>
      intro l2v2 l2t_caught H locs ls hP hD hS hl hf
      rw [f_X0_begin_L2] at hf
      refine lv_iload_n hx hb dX0_begin_2 rfl (lv_at hl 2 rfl) ?_
      refine lv_bipush (v := 12) hx hb dX0_begin_3 (by decide) ?_
      refine lv_icmp_ge (tgt := 25) hx hb dX0_begin_5 (by decide) (fun hc => ?_) (fun hc => ?_)
      · replace hf := (if_pos hc).symm.trans hf
        exact hX2 l2t_caught _ _ _ hP hD hS (lv_sub hl [] rfl) hf
      · replace hf := (if_neg hc).symm.trans hf
        refine lv_aload_n hx hb dX0_begin_8 rfl (lv_at hl 0 rfl) ?_
        refine va_get (D := D) (ci := 0) (v := .ref a_t_caught) (C := RX0) (T := TX0) (N := 2) hx hb hts hmsX0 hown hK hP 0 rfl rfl 0 (by decide) hw9 (fun _ h9 => h9) rfl dX0_begin_9 ?_
        refine lv_iload_n hx hb dX0_begin_12 rfl (lv_at hl 2 rfl) ?_
        refine lv_aload_n hx hb dX0_begin_13 rfl (lv_at hl 1 rfl) ?_
        refine lv_iload_n hx hb dX0_begin_14 rfl (lv_at hl 2 rfl) ?_
        obtain ⟨x15, hx15, hf⟩ := bd_if hf
        refine cv_i (wr := [(a_t, .inr (0, [.ref a_t_caught, .ref a_t_trapped])), (a_t_caught, .inl (cI, 12, .inl l2t_caught))]) (ws' := [(a_t, .inr (0, [.ref a_t_caught, .ref a_t_trapped])), (a_t_caught, .inl (cI, 12, .inl l2t_caught)), (a_o1, .inr (2, [.ref a_o1_roads, .int o1_homes]))]) ⟨hx, hb, hml, hown, hts⟩ hcw18 hK hN hP hD hS hA (c_X2_touchedAt l D cI cJ cZ cO _ a_o1 a_o1_roads o1_homes l2v2 x15 hx15) (q := (RX2, TX2, 2)) (ci := 2) (q0 := 2) rfl rfl [2] [0, 1] [0, 1, 2] rfl rfl rfl rfl (by decide) rfl rfl rfl hl.1 rfl (Nat.le_of_ble_eq_true rfl) dX0_begin_15 ⟨Nat.zero_le _, Nat.zero_le _⟩ (fun H locs hP hD hS => ?_)
        obtain ⟨hi18, hf⟩ := ix_if hf
        refine va_iast (D := D) hx hb hK hP hD hS 1 0 rfl rfl hi18 dX0_begin_18 (fun H locs hP hD hS => ?_)
        replace hP : va_P D vwCl [(a_t, .inr (0, [.ref a_t_caught, .ref a_t_trapped])), (a_t_caught, .inl (cI, 12, .inl (upd l2t_caught l2v2.toNatClampNeg x15))), (a_o1, .inr (2, [.ref a_o1_roads, .int o1_homes]))] H := hP
        replace hD : va_D A [(a_t, .inr (0, [.ref a_t_caught, .ref a_t_trapped])), (a_t_caught, .inl (cI, 12, .inl (upd l2t_caught l2v2.toNatClampNeg x15))), (a_o1, .inr (2, [.ref a_o1_roads, .int o1_homes]))] := hD
        refine lv_iinc (v := l2v2 + 1) (lv' := [(2, .int (l2v2 + 1)), (0, .ref a_t), (1, .ref a_o1)]) hx hb dX0_begin_19 hl (k := 2) rfl rfl (by decide) rfl (fun ls hl => ?_)
        refine lv_goto (tgt := 2) hx hb dX0_begin_22 (by decide) ?_
        exact ih2 (l2v2 + 1) (upd l2t_caught l2v2.toNatClampNeg x15) _ _ _ hP hD hS (lv_sub hl [1, 2, 0] rfl) hf
  exact hL2 5000 (0 : Int32) t_caught _ _ _ hP hD hS (lv_sub hl [1, 2, 0] rfl) hf
abbrev rm_X9_isPlace : Room := { frames := 0, cells := 0, slots := 0, locals := 0 }
set_option maxHeartbeats 4000000 in
set_option maxRecDepth 100000 in
theorem c_X9_isPlace (l : Launch) (D : va_G) (cI cJ cZ cO : ClassId) (sz : Nat) (p0 : Int32) (res : Int32) (hf : f_X9_isPlace p0 = some res) : MetI l yX9_isPlace wsX9_isPlace rm_X9_isPlace [.int p0] D (tys4 cI cJ cZ cO) [] sz res [] := by
  refine met_z (cc := cX9_isPlace) (maxL := 1) (by decide) rfl (Nat.le_of_ble_eq_true rfl) ?_
  intro p e s m args below meth c Q A hx hb hml hown hts hK hN hA fin H locs ls hP hD hS hl
  replace hown : s.vm.findClass RX9 = some m.cls := hown
  replace hl : lv_has ls 1 [(0, .int p0)] := hl
  rw [f_X9_isPlace] at hf
  refine lv_iload_n hx hb dX9_isPlace_0 rfl (lv_at hl 0 rfl) ?_
  refine lv_if_lt (tgt := 14) hx hb dX9_isPlace_1 (by decide) (fun hc => ?_) (fun hc => ?_)
  · replace hf := (if_pos hc).symm.trans hf
    refine lv_iconst (v := 0) hx hb dX9_isPlace_14 (by decide) ?_
    obtain rfl := Option.some.inj hf
    exact fin _ _ _ _ nb_0 dX9_isPlace_15 hP hD hS
  · replace hf := (if_neg hc).symm.trans hf
    refine lv_iload_n hx hb dX9_isPlace_4 rfl (lv_at hl 0 rfl) ?_
    refine lv_bipush (v := 12) hx hb dX9_isPlace_5 (by decide) ?_
    refine lv_icmp_ge (tgt := 14) hx hb dX9_isPlace_7 (by decide) (fun hc => ?_) (fun hc => ?_)
    · replace hf := (if_pos hc).symm.trans hf
      refine lv_iconst (v := 0) hx hb dX9_isPlace_14 (by decide) ?_
      obtain rfl := Option.some.inj hf
      exact fin _ _ _ _ nb_0 dX9_isPlace_15 hP hD hS
    · replace hf := (if_neg hc).symm.trans hf
      refine lv_iconst (v := 1) hx hb dX9_isPlace_10 (by decide) ?_
      refine lv_goto (tgt := 15) hx hb dX9_isPlace_11 (by decide) ?_
      obtain rfl := Option.some.inj hf
      exact fin _ _ _ _ nb_1 dX9_isPlace_15 hP hD hS
abbrev rm_X0_caughtBy : Room := { frames := 1, cells := 0, slots := 0, locals := 20 }
theorem ms_X0_caughtBy_X0 : ∀ w ∈ u_ws RX0 TX0 2, w ∈ wsX0_caughtBy := fun w h => List.mem_cons_of_mem _ (List.mem_append_right _ (h))
set_option maxHeartbeats 4000000 in
set_option maxRecDepth 100000 in
theorem c_X0_caughtBy (l : Launch) (D : va_G) (cI cJ cZ cO : ClassId) (sz : Nat) (a_t : Nat) (a_t_caught : Nat) (a_t_trapped : Nat) (t_caught : Nat → Int32) (p1 : Int32) (res : Int32) (hf : f_X0_caughtBy t_caught p1 = some res) : MetI l yX0_caughtBy wsX0_caughtBy rm_X0_caughtBy [.ref a_t, .int p1] D (tys4 cI cJ cZ cO) [(a_t, .inr (0, [.ref a_t_caught, .ref a_t_trapped])), (a_t_caught, .inl (cI, 12, .inl t_caught))] sz res [(a_t, .inr (0, [.ref a_t_caught, .ref a_t_trapped])), (a_t_caught, .inl (cI, 12, .inl t_caught))] := by
  refine met_i (cc := cX0_caughtBy) (maxL := 2) (by decide) rfl (Nat.le_of_ble_eq_true rfl) ?_
  intro p e s m args below meth c Q A hx hb hml hown hts hK hN hA fin H locs ls hP hD hS hl
  replace hown : s.vm.findClass RX0 = some m.cls := hown
  replace hl : lv_has ls 2 [(0, .ref a_t), (1, .int p1)] := hl
  rw [f_X0_caughtBy] at hf
  have hiniX9 := hts (.initialized RX9) (by decide +kernel)
  have hcw41 := va_cnB (R := rm_X0_caughtBy) (rm := rm_X9_isPlace) 1 hts gX0_caughtBy_X9_isPlace_n41 rfl rfl rfl (hN.1 (.methodLinkNest RX0 41 yX9_isPlace RX9) (by decide +kernel)) hiniX9 (by decide +kernel) ⟨Nat.le_of_ble_eq_true rfl, Nat.le_of_ble_eq_true rfl⟩
  have hst41 := hts (.static yX9_isPlace) (by decide +kernel)
  have hw9 := hts (.fieldLink RX0 9 "TouchReign$Chase" "caught" "[I") (by decide +kernel)
  have hmsX0 := ms_X0_caughtBy_X0
  refine lv_iload_n hx hb dX0_caughtBy_0 rfl (lv_at hl 1 rfl) ?_
  obtain ⟨x1, hx1, hf⟩ := bd_if hf
  refine cn_i (wr := [(a_t, .inr (0, [.ref a_t_caught, .ref a_t_trapped])), (a_t_caught, .inl (cI, 12, .inl t_caught))]) (ws' := [(a_t, .inr (0, [.ref a_t_caught, .ref a_t_trapped])), (a_t_caught, .inl (cI, 12, .inl t_caught))]) ⟨hx, hb, hml, hown, hts⟩ ⟨hcw41, hst41, trivial⟩ hK hN hP hD hS hA (c_X9_isPlace l D cI cJ cZ cO _ p1 x1 hx1) [] [0, 1] [0, 1] rfl rfl rfl rfl (by decide) rfl rfl rfl hl.1 rfl (Nat.le_of_ble_eq_true rfl) dX0_caughtBy_1 ⟨Nat.zero_le _, Nat.zero_le _⟩ (fun H locs hP hD hS => ?_)
  refine lv_if_eq (tgt := 16) hx hb dX0_caughtBy_4 (by decide) (fun hc => ?_) (fun hc => ?_)
  · replace hf := (if_pos hc).symm.trans hf
    refine lv_iconst (v := 0) hx hb dX0_caughtBy_16 (by decide) ?_
    obtain rfl := Option.some.inj hf
    exact fin _ _ _ _ dX0_caughtBy_17 hP hD hS
  · replace hf := (if_neg hc).symm.trans hf
    refine lv_aload_n hx hb dX0_caughtBy_7 rfl (lv_at hl 0 rfl) ?_
    refine va_get (D := D) (ci := 0) (v := .ref a_t_caught) (C := RX0) (T := TX0) (N := 2) hx hb hts hmsX0 hown hK hP 0 rfl rfl 0 (by decide) hw9 (fun _ h9 => h9) rfl dX0_caughtBy_8 ?_
    refine lv_iload_n hx hb dX0_caughtBy_11 rfl (lv_at hl 1 rfl) ?_
    obtain ⟨hi12, hf⟩ := ix_if hf
    refine va_iald (D := D) hx hb hK hP 1 0 rfl rfl hi12 dX0_caughtBy_12 ?_
    refine lv_goto (tgt := 17) hx hb dX0_caughtBy_13 (by decide) ?_
    obtain rfl := Option.some.inj hf
    exact fin _ _ _ _ dX0_caughtBy_17 hP hD hS
abbrev rm_X2_movesFrom : Room := { frames := 1, cells := 0, slots := 0, locals := 20 }
theorem ms_X2_movesFrom_X2 : ∀ w ∈ u_ws RX2 TX2 2, w ∈ wsX2_movesFrom := fun w h => List.mem_cons_of_mem _ (List.mem_append_right _ (h))
set_option maxHeartbeats 4000000 in
set_option maxRecDepth 100000 in
theorem c_X2_movesFrom (l : Launch) (D : va_G) (cI cJ cZ cO : ClassId) (sz : Nat) (a_t : Nat) (a_t_roads : Nat) (t_homes : Int32) (t_roads : Nat → Int32) (p1 : Int32) (res : Int32) (hf : f_X2_movesFrom t_roads p1 = some res) : MetI l yX2_movesFrom wsX2_movesFrom rm_X2_movesFrom [.ref a_t, .int p1] D (tys4 cI cJ cZ cO) [(a_t, .inr (2, [.ref a_t_roads, .int t_homes])), (a_t_roads, .inl (cI, 12, .inl t_roads))] sz res [(a_t, .inr (2, [.ref a_t_roads, .int t_homes])), (a_t_roads, .inl (cI, 12, .inl t_roads))] := by
  refine met_i (cc := cX2_movesFrom) (maxL := 2) (by decide) rfl (Nat.le_of_ble_eq_true rfl) ?_
  intro p e s m args below meth c Q A hx hb hml hown hts hK hN hA fin H locs ls hP hD hS hl
  replace hown : s.vm.findClass RX2 = some m.cls := hown
  replace hl : lv_has ls 2 [(0, .ref a_t), (1, .int p1)] := hl
  rw [f_X2_movesFrom] at hf
  have hiniX9 := hts (.initialized RX9) (by decide +kernel)
  have hcw25 := va_cnB (R := rm_X2_movesFrom) (rm := rm_X9_isPlace) 1 hts gX2_movesFrom_X9_isPlace_n25 rfl rfl rfl (hN.1 (.methodLinkNest RX2 25 yX9_isPlace RX9) (by decide +kernel)) hiniX9 (by decide +kernel) ⟨Nat.le_of_ble_eq_true rfl, Nat.le_of_ble_eq_true rfl⟩
  have hst25 := hts (.static yX9_isPlace) (by decide +kernel)
  have hw9 := hts (.fieldLink RX2 9 "TouchReign$Land" "roads" "[I") (by decide +kernel)
  have hmsX2 := ms_X2_movesFrom_X2
  refine lv_iload_n hx hb dX2_movesFrom_0 rfl (lv_at hl 1 rfl) ?_
  obtain ⟨x1, hx1, hf⟩ := bd_if hf
  refine cn_i (wr := [(a_t, .inr (2, [.ref a_t_roads, .int t_homes])), (a_t_roads, .inl (cI, 12, .inl t_roads))]) (ws' := [(a_t, .inr (2, [.ref a_t_roads, .int t_homes])), (a_t_roads, .inl (cI, 12, .inl t_roads))]) ⟨hx, hb, hml, hown, hts⟩ ⟨hcw25, hst25, trivial⟩ hK hN hP hD hS hA (c_X9_isPlace l D cI cJ cZ cO _ p1 x1 hx1) [] [0, 1] [0, 1] rfl rfl rfl rfl (by decide) rfl rfl rfl hl.1 rfl (Nat.le_of_ble_eq_true rfl) dX2_movesFrom_1 ⟨Nat.zero_le _, Nat.zero_le _⟩ (fun H locs hP hD hS => ?_)
  refine lv_if_eq (tgt := 20) hx hb dX2_movesFrom_4 (by decide) (fun hc => ?_) (fun hc => ?_)
  · replace hf := (if_pos hc).symm.trans hf
    refine lv_iconst (v := 0) hx hb dX2_movesFrom_20 (by decide) ?_
    obtain rfl := Option.some.inj hf
    exact fin _ _ _ _ dX2_movesFrom_21 hP hD hS
  · replace hf := (if_neg hc).symm.trans hf
    refine lv_aload_n hx hb dX2_movesFrom_7 rfl (lv_at hl 0 rfl) ?_
    refine va_get (D := D) (ci := 2) (v := .ref a_t_roads) (C := RX2) (T := TX2) (N := 2) hx hb hts hmsX2 hown hK hP 0 rfl rfl 0 (by decide) hw9 (fun _ h9 => h9) rfl dX2_movesFrom_8 ?_
    refine lv_iload_n hx hb dX2_movesFrom_11 rfl (lv_at hl 1 rfl) ?_
    obtain ⟨hi12, hf⟩ := ix_if hf
    refine va_iald (D := D) hx hb hK hP 1 0 rfl rfl hi12 dX2_movesFrom_12 ?_
    refine lv_iconst (v := 1) hx hb dX2_movesFrom_13 (by decide) ?_
    refine lv_iload_n hx hb dX2_movesFrom_14 rfl (lv_at hl 1 rfl) ?_
    refine lv_ishl hx hb dX2_movesFrom_15 ?_
    refine lv_ior hx hb dX2_movesFrom_16 ?_
    refine lv_goto (tgt := 21) hx hb dX2_movesFrom_17 (by decide) ?_
    obtain rfl := Option.some.inj hf
    exact fin _ _ _ _ dX2_movesFrom_21 hP hD hS
abbrev rm_X0_trappedBy : Room := { frames := 2, cells := 0, slots := 0, locals := 42 }
set_option maxHeartbeats 4000000 in
set_option maxRecDepth 100000 in
theorem c_X0_trappedBy (l : Launch) (D : va_G) (cI cJ cZ cO : ClassId) (sz : Nat) (a_t : Nat) (a_t_caught : Nat) (a_t_trapped : Nat) (a_o1 : Nat) (a_o1_roads : Nat) (t_caught : Nat → Int32) (o1_homes : Int32) (o1_roads : Nat → Int32) (p2 : Int32) (res : Int32) (hf : f_X0_trappedBy t_caught o1_homes o1_roads p2 = some res) : MetI l yX0_trappedBy wsX0_trappedBy rm_X0_trappedBy [.ref a_t, .ref a_o1, .int p2] D (tys4 cI cJ cZ cO) [(a_t, .inr (0, [.ref a_t_caught, .ref a_t_trapped])), (a_t_caught, .inl (cI, 12, .inl t_caught)), (a_o1, .inr (2, [.ref a_o1_roads, .int o1_homes])), (a_o1_roads, .inl (cI, 12, .inl o1_roads))] sz res [(a_t, .inr (0, [.ref a_t_caught, .ref a_t_trapped])), (a_t_caught, .inl (cI, 12, .inl t_caught)), (a_o1, .inr (2, [.ref a_o1_roads, .int o1_homes])), (a_o1_roads, .inl (cI, 12, .inl o1_roads))] := by
  refine met_i (cc := cX0_trappedBy) (maxL := 6) (by decide) rfl (Nat.le_of_ble_eq_true rfl) ?_
  intro p e s m args below meth c Q A hx hb hml hown hts hK hN hA fin H locs ls hP hD hS hl
  replace hown : s.vm.findClass RX0 = some m.cls := hown
  replace hl : lv_has ls 6 [(0, .ref a_t), (1, .ref a_o1), (2, .int p2)] := hl
  rw [f_X0_trappedBy] at hf
  have hcw18 := cwV (R := rm_X0_trappedBy) (rm := rm_X2_touchedAt) 1 hts gX0_trappedBy_X2_touchedAt rfl rfl rfl (by decide +kernel) ⟨Nat.le_of_ble_eq_true rfl, Nat.le_of_ble_eq_true rfl⟩
  have hcw34 := cwV (R := rm_X0_trappedBy) (rm := rm_X0_caughtBy) 1 hts gX0_trappedBy_X0_caughtBy rfl rfl rfl (by decide +kernel) ⟨Nat.le_of_ble_eq_true rfl, Nat.le_of_ble_eq_true rfl⟩
  have hcw28 := cwV (R := rm_X0_trappedBy) (rm := rm_X2_movesFrom) 1 hts gX0_trappedBy_X2_movesFrom rfl rfl rfl (by decide +kernel) ⟨Nat.le_of_ble_eq_true rfl, Nat.le_of_ble_eq_true rfl⟩
  refine lv_aload_n hx hb dX0_trappedBy_0 rfl (lv_at hl 1 rfl) ?_
  refine lv_iload_n hx hb dX0_trappedBy_1 rfl (lv_at hl 2 rfl) ?_
  obtain ⟨x2, hx2, hf⟩ := bd_if hf
  refine cv_i (wr := [(a_t, .inr (0, [.ref a_t_caught, .ref a_t_trapped])), (a_t_caught, .inl (cI, 12, .inl t_caught)), (a_o1_roads, .inl (cI, 12, .inl o1_roads))]) (ws' := [(a_t, .inr (0, [.ref a_t_caught, .ref a_t_trapped])), (a_t_caught, .inl (cI, 12, .inl t_caught)), (a_o1, .inr (2, [.ref a_o1_roads, .int o1_homes])), (a_o1_roads, .inl (cI, 12, .inl o1_roads))]) ⟨hx, hb, hml, hown, hts⟩ hcw18 hK hN hP hD hS hA (c_X2_touchedAt l D cI cJ cZ cO _ a_o1 a_o1_roads o1_homes p2 x2 hx2) (q := (RX2, TX2, 2)) (ci := 2) (q0 := 2) rfl rfl [2] [0, 1, 3] [0, 1, 3, 2] rfl rfl rfl rfl (by decide) rfl rfl rfl hl.1 rfl (Nat.le_of_ble_eq_true rfl) dX0_trappedBy_2 ⟨Nat.zero_le _, Nat.zero_le _⟩ (fun H locs hP hD hS => ?_)
  refine lv_istore_n (lv' := [(3, .int x2), (0, .ref a_t), (1, .ref a_o1), (2, .int p2)]) hx hb dX0_trappedBy_5 rfl hl (by decide) rfl (fun ls hl => ?_)
  refine lv_aload_n hx hb dX0_trappedBy_6 rfl (lv_at hl 1 rfl) ?_
  refine lv_iload_n hx hb dX0_trappedBy_7 rfl (lv_at hl 3 rfl) ?_
  obtain ⟨x8, hx8, hf⟩ := bd_if hf
  refine cv_i (wr := [(a_o1, .inr (2, [.ref a_o1_roads, .int o1_homes])), (a_o1_roads, .inl (cI, 12, .inl o1_roads))]) (ws' := [(a_t, .inr (0, [.ref a_t_caught, .ref a_t_trapped])), (a_t_caught, .inl (cI, 12, .inl t_caught)), (a_o1, .inr (2, [.ref a_o1_roads, .int o1_homes])), (a_o1_roads, .inl (cI, 12, .inl o1_roads))]) ⟨hx, hb, hml, hown, hts⟩ hcw34 hK hN hP hD hS hA (c_X0_caughtBy l D cI cJ cZ cO _ a_t a_t_caught a_t_trapped t_caught p2 x8 hx8) (q := (RX0, TX0, 2)) (ci := 0) (q0 := 0) rfl rfl [0, 1] [2, 3] [2, 3, 0, 1] rfl rfl rfl rfl (by decide) rfl rfl rfl hl.1 rfl (Nat.le_of_ble_eq_true rfl) dX0_trappedBy_8 ⟨Nat.zero_le _, Nat.zero_le _⟩ (fun H locs hP hD hS => ?_)
  refine lv_istore (lv' := [(4, .int x8), (3, .int x2), (0, .ref a_t), (1, .ref a_o1), (2, .int p2)]) hx hb dX0_trappedBy_11 hl (by decide) rfl (fun ls hl => ?_)
  refine lv_iconst (v := 0) hx hb dX0_trappedBy_13 (by decide) ?_
  refine lv_istore (lv' := [(5, .int (0 : Int32)), (4, .int x8), (3, .int x2), (0, .ref a_t), (1, .ref a_o1), (2, .int p2)]) hx hb dX0_trappedBy_14 hl (by decide) rfl (fun ls hl => ?_)
  have hX16 : ∀ (x16v3 : Int32) (H : Heap) (locs : List Loc) (ls : Array Slot), va_P D vwCl [(a_t, .inr (0, [.ref a_t_caught, .ref a_t_trapped])), (a_t_caught, .inl (cI, 12, .inl t_caught)), (a_o1, .inr (2, [.ref a_o1_roads, .int o1_homes])), (a_o1_roads, .inl (cI, 12, .inl o1_roads))] H → va_D A [(a_t, .inr (0, [.ref a_t_caught, .ref a_t_trapped])), (a_t_caught, .inl (cI, 12, .inl t_caught)), (a_o1, .inr (2, [.ref a_o1_roads, .int o1_homes])), (a_o1_roads, .inl (cI, 12, .inl o1_roads))] → va_S A s.heap H locs → lv_has ls 6 [(3, .int x16v3)] → f_X0_trappedBy_X16 x16v3 = some res → W p l e rm_X0_trappedBy s m args below meth c H locs 0 0 Q (F0 m 50 ls []) := by
    intro x16v3 H locs ls hP hD hS hl hf
    rw [f_X0_trappedBy_X16] at hf
    refine lv_iload_n hx hb dX0_trappedBy_50 rfl (lv_at hl 0 rfl) ?_
    obtain rfl := Option.some.inj hf
    exact fin _ _ _ _ dX0_trappedBy_51 hP hD hS
  have hL16 : ∀ (n16 : Nat), ∀ (l16v3 : Int32) (l16v5 : Int32) (H : Heap) (locs : List Loc) (ls : Array Slot), va_P D vwCl [(a_t, .inr (0, [.ref a_t_caught, .ref a_t_trapped])), (a_t_caught, .inl (cI, 12, .inl t_caught)), (a_o1, .inr (2, [.ref a_o1_roads, .int o1_homes])), (a_o1_roads, .inl (cI, 12, .inl o1_roads))] H → va_D A [(a_t, .inr (0, [.ref a_t_caught, .ref a_t_trapped])), (a_t_caught, .inl (cI, 12, .inl t_caught)), (a_o1, .inr (2, [.ref a_o1_roads, .int o1_homes])), (a_o1_roads, .inl (cI, 12, .inl o1_roads))] → va_S A s.heap H locs → lv_has ls 6 [(1, .ref a_o1), (3, .int l16v3), (4, .int x8), (5, .int l16v5)] → f_X0_trappedBy_L16 o1_roads x8 f_X0_trappedBy_X16 n16 l16v3 l16v5 = some res → W p l e rm_X0_trappedBy s m args below meth c H locs 0 0 Q (F0 m 16 ls []) := by
    intro n16
    induction n16 with
    | zero =>
      intro l16v3 l16v5 H locs ls hP hD hS hl hf
      rw [f_X0_trappedBy_L16] at hf
      cases hf
    | succ n16 ih16 =>
      intro l16v3 l16v5 H locs ls hP hD hS hl hf
      rw [f_X0_trappedBy_L16] at hf
      refine lv_iload hx hb dX0_trappedBy_16 (lv_at hl 3 rfl) ?_
      refine lv_bipush (v := 12) hx hb dX0_trappedBy_18 (by decide) ?_
      refine lv_icmp_ge (tgt := 50) hx hb dX0_trappedBy_20 (by decide) (fun hc => ?_) (fun hc => ?_)
      · replace hf := (if_pos hc).symm.trans hf
        exact hX16 l16v3 _ _ _ hP hD hS (lv_sub hl [1] rfl) hf
      · replace hf := (if_neg hc).symm.trans hf
        refine lv_aload_n hx hb dX0_trappedBy_23 rfl (lv_at hl 0 rfl) ?_
        refine lv_iload hx hb dX0_trappedBy_24 (lv_at hl 3 rfl) ?_
        obtain ⟨x26, hx26, hf⟩ := bd_if hf
        refine cv_i (wr := [(a_t, .inr (0, [.ref a_t_caught, .ref a_t_trapped])), (a_t_caught, .inl (cI, 12, .inl t_caught))]) (ws' := [(a_t, .inr (0, [.ref a_t_caught, .ref a_t_trapped])), (a_t_caught, .inl (cI, 12, .inl t_caught)), (a_o1, .inr (2, [.ref a_o1_roads, .int o1_homes])), (a_o1_roads, .inl (cI, 12, .inl o1_roads))]) ⟨hx, hb, hml, hown, hts⟩ hcw28 hK hN hP hD hS hA (c_X2_movesFrom l D cI cJ cZ cO _ a_o1 a_o1_roads o1_homes o1_roads l16v5 x26 hx26) (q := (RX2, TX2, 2)) (ci := 2) (q0 := 2) rfl rfl [2, 3] [0, 1] [0, 1, 2, 3] rfl rfl rfl rfl (by decide) rfl rfl rfl hl.1 rfl (Nat.le_of_ble_eq_true rfl) dX0_trappedBy_26 ⟨Nat.zero_le _, Nat.zero_le _⟩ (fun H locs hP hD hS => ?_)
        refine lv_iload hx hb dX0_trappedBy_29 (lv_at hl 2 rfl) ?_
        refine lv_iconst (v := -1) hx hb dX0_trappedBy_31 (by decide) ?_
        refine lv_ixor hx hb dX0_trappedBy_32 ?_
        refine lv_iand hx hb dX0_trappedBy_33 ?_
        refine lv_if_ne (tgt := 44) hx hb dX0_trappedBy_34 (by decide) (fun hc => ?_) (fun hc => ?_)
        · replace hf := (if_neg hc).symm.trans hf
          refine lv_iinc (v := l16v5 + 1) (lv' := [(5, .int (l16v5 + 1)), (1, .ref a_o1), (3, .int l16v3), (4, .int x8)]) hx hb dX0_trappedBy_44 hl (k := 3) rfl rfl (by decide) rfl (fun ls hl => ?_)
          refine lv_goto (tgt := 16) hx hb dX0_trappedBy_47 (by decide) ?_
          exact ih16 l16v3 (l16v5 + 1) _ _ _ hP hD hS (lv_sub hl [1, 2, 3, 0] rfl) hf
        · replace hf := (if_pos hc).symm.trans hf
          refine lv_iload_n hx hb dX0_trappedBy_37 rfl (lv_at hl 1 rfl) ?_
          refine lv_iconst (v := 1) hx hb dX0_trappedBy_38 (by decide) ?_
          refine lv_iload hx hb dX0_trappedBy_39 (lv_at hl 3 rfl) ?_
          refine lv_ishl hx hb dX0_trappedBy_41 ?_
          refine lv_ior hx hb dX0_trappedBy_42 ?_
          refine lv_istore_n (lv' := [(3, .int (l16v3 ||| ((1 : Int32) <<< (l16v5 &&& 31)))), (1, .ref a_o1), (4, .int x8), (5, .int l16v5)]) hx hb dX0_trappedBy_43 rfl hl (by decide) rfl (fun ls hl => ?_)
          refine lv_iinc (v := l16v5 + 1) (lv' := [(5, .int (l16v5 + 1)), (3, .int (l16v3 ||| ((1 : Int32) <<< (l16v5 &&& 31)))), (1, .ref a_o1), (4, .int x8)]) hx hb dX0_trappedBy_44 hl (k := 3) rfl rfl (by decide) rfl (fun ls hl => ?_)
          refine lv_goto (tgt := 16) hx hb dX0_trappedBy_47 (by decide) ?_
          exact ih16 (l16v3 ||| ((1 : Int32) <<< (l16v5 &&& 31))) (l16v5 + 1) _ _ _ hP hD hS (lv_sub hl [2, 1, 3, 0] rfl) hf
  exact hL16 5000 x2 (0 : Int32) _ _ _ hP hD hS (lv_sub hl [4, 2, 1, 0] rfl) hf
abbrev rm_X0_trappedByAny : Room := { frames := 1, cells := 0, slots := 0, locals := 21 }
theorem ms_X0_trappedByAny_X0 : ∀ w ∈ u_ws RX0 TX0 2, w ∈ wsX0_trappedByAny := fun w h => List.mem_cons_of_mem _ (List.mem_append_right _ (h))
set_option maxHeartbeats 4000000 in
set_option maxRecDepth 100000 in
theorem c_X0_trappedByAny (l : Launch) (D : va_G) (cI cJ cZ cO : ClassId) (sz : Nat) (a_t : Nat) (a_t_caught : Nat) (a_t_trapped : Nat) (t_trapped : Nat → Int32) (p1 : Int32) (res : Int32) (hf : f_X0_trappedByAny t_trapped p1 = some res) : MetI l yX0_trappedByAny wsX0_trappedByAny rm_X0_trappedByAny [.ref a_t, .int p1] D (tys4 cI cJ cZ cO) [(a_t, .inr (0, [.ref a_t_caught, .ref a_t_trapped])), (a_t_trapped, .inl (cI, 12, .inl t_trapped))] sz res [(a_t, .inr (0, [.ref a_t_caught, .ref a_t_trapped])), (a_t_trapped, .inl (cI, 12, .inl t_trapped))] := by
  refine met_i (cc := cX0_trappedByAny) (maxL := 4) (by decide) rfl (Nat.le_of_ble_eq_true rfl) ?_
  intro p e s m args below meth c Q A hx hb hml hown hts hK hN hA fin H locs ls hP hD hS hl
  replace hown : s.vm.findClass RX0 = some m.cls := hown
  replace hl : lv_has ls 4 [(0, .ref a_t), (1, .int p1)] := hl
  rw [f_X0_trappedByAny] at hf
  have hiniX9 := hts (.initialized RX9) (by decide +kernel)
  have hcw37 := va_cnB (R := rm_X0_trappedByAny) (rm := rm_X9_holds) 2 hts gX0_trappedByAny_X9_holds_n37 rfl rfl rfl (hN.1 (.methodLinkNest RX0 37 yX9_holds RX9) (by decide +kernel)) hiniX9 (by decide +kernel) ⟨Nat.le_of_ble_eq_true rfl, Nat.le_of_ble_eq_true rfl⟩
  have hst37 := hts (.static yX9_holds) (by decide +kernel)
  have hw15 := hts (.fieldLink RX0 15 "TouchReign$Chase" "trapped" "[I") (by decide +kernel)
  have hmsX0 := ms_X0_trappedByAny_X0
  refine lv_iconst (v := 0) hx hb dX0_trappedByAny_0 (by decide) ?_
  refine lv_istore_n (lv' := [(2, .int (0 : Int32)), (0, .ref a_t), (1, .int p1)]) hx hb dX0_trappedByAny_1 rfl hl (by decide) rfl (fun ls hl => ?_)
  refine lv_iconst (v := 0) hx hb dX0_trappedByAny_2 (by decide) ?_
  refine lv_istore_n (lv' := [(3, .int (0 : Int32)), (2, .int (0 : Int32)), (0, .ref a_t), (1, .int p1)]) hx hb dX0_trappedByAny_3 rfl hl (by decide) rfl (fun ls hl => ?_)
  have hX4 : ∀ (x4v2 : Int32) (H : Heap) (locs : List Loc) (ls : Array Slot), va_P D vwCl [(a_t, .inr (0, [.ref a_t_caught, .ref a_t_trapped])), (a_t_trapped, .inl (cI, 12, .inl t_trapped))] H → va_D A [(a_t, .inr (0, [.ref a_t_caught, .ref a_t_trapped])), (a_t_trapped, .inl (cI, 12, .inl t_trapped))] → va_S A s.heap H locs → lv_has ls 4 [(2, .int x4v2)] → f_X0_trappedByAny_X4 x4v2 = some res → W p l e rm_X0_trappedByAny s m args below meth c H locs 0 0 Q (F0 m 33 ls []) := by
    intro x4v2 H locs ls hP hD hS hl hf
    rw [f_X0_trappedByAny_X4] at hf
    refine lv_iload_n hx hb dX0_trappedByAny_33 rfl (lv_at hl 0 rfl) ?_
    obtain rfl := Option.some.inj hf
    exact fin _ _ _ _ dX0_trappedByAny_34 hP hD hS
  have hL4 : ∀ (n4 : Nat), ∀ (l4v2 : Int32) (l4v3 : Int32) (H : Heap) (locs : List Loc) (ls : Array Slot), va_P D vwCl [(a_t, .inr (0, [.ref a_t_caught, .ref a_t_trapped])), (a_t_trapped, .inl (cI, 12, .inl t_trapped))] H → va_D A [(a_t, .inr (0, [.ref a_t_caught, .ref a_t_trapped])), (a_t_trapped, .inl (cI, 12, .inl t_trapped))] → va_S A s.heap H locs → lv_has ls 4 [(0, .ref a_t), (1, .int p1), (2, .int l4v2), (3, .int l4v3)] → f_X0_trappedByAny_L4 t_trapped p1 f_X0_trappedByAny_X4 n4 l4v2 l4v3 = some res → W p l e rm_X0_trappedByAny s m args below meth c H locs 0 0 Q (F0 m 4 ls []) := by
    intro n4
    induction n4 with
    | zero =>
      intro l4v2 l4v3 H locs ls hP hD hS hl hf
      rw [f_X0_trappedByAny_L4] at hf
      cases hf
    | succ n4 ih4 =>
      intro l4v2 l4v3 H locs ls hP hD hS hl hf
      rw [f_X0_trappedByAny_L4] at hf
      refine lv_iload_n hx hb dX0_trappedByAny_4 rfl (lv_at hl 3 rfl) ?_
      refine lv_bipush (v := 12) hx hb dX0_trappedByAny_5 (by decide) ?_
      refine lv_icmp_ge (tgt := 33) hx hb dX0_trappedByAny_7 (by decide) (fun hc => ?_) (fun hc => ?_)
      · replace hf := (if_pos hc).symm.trans hf
        exact hX4 l4v2 _ _ _ hP hD hS (lv_sub hl [2] rfl) hf
      · replace hf := (if_neg hc).symm.trans hf
        refine lv_iload_n hx hb dX0_trappedByAny_10 rfl (lv_at hl 1 rfl) ?_
        refine lv_iload_n hx hb dX0_trappedByAny_11 rfl (lv_at hl 3 rfl) ?_
        obtain ⟨x12, hx12, hf⟩ := bd_if hf
        refine cn_i (wr := [(a_t, .inr (0, [.ref a_t_caught, .ref a_t_trapped])), (a_t_trapped, .inl (cI, 12, .inl t_trapped))]) (ws' := [(a_t, .inr (0, [.ref a_t_caught, .ref a_t_trapped])), (a_t_trapped, .inl (cI, 12, .inl t_trapped))]) ⟨hx, hb, hml, hown, hts⟩ ⟨hcw37, hst37, trivial⟩ hK hN hP hD hS hA (c_X9_holds l D cI cJ cZ cO _ p1 l4v3 x12 hx12) [] [0, 1] [0, 1] rfl rfl rfl rfl (by decide) rfl rfl rfl hl.1 rfl (Nat.le_of_ble_eq_true rfl) dX0_trappedByAny_12 ⟨Nat.zero_le _, Nat.zero_le _⟩ (fun H locs hP hD hS => ?_)
        refine lv_if_eq (tgt := 27) hx hb dX0_trappedByAny_15 (by decide) (fun hc => ?_) (fun hc => ?_)
        · replace hf := (if_pos hc).symm.trans hf
          refine lv_iinc (v := l4v3 + 1) (lv' := [(3, .int (l4v3 + 1)), (0, .ref a_t), (1, .int p1), (2, .int l4v2)]) hx hb dX0_trappedByAny_27 hl (k := 3) rfl rfl (by decide) rfl (fun ls hl => ?_)
          refine lv_goto (tgt := 4) hx hb dX0_trappedByAny_30 (by decide) ?_
          exact ih4 l4v2 (l4v3 + 1) _ _ _ hP hD hS (lv_sub hl [1, 2, 3, 0] rfl) hf
        · replace hf := (if_neg hc).symm.trans hf
          refine lv_iload_n hx hb dX0_trappedByAny_18 rfl (lv_at hl 2 rfl) ?_
          refine lv_aload_n hx hb dX0_trappedByAny_19 rfl (lv_at hl 0 rfl) ?_
          refine va_get (D := D) (ci := 0) (v := .ref a_t_trapped) (C := RX0) (T := TX0) (N := 2) hx hb hts hmsX0 hown hK hP 0 rfl rfl 1 (by decide) hw15 (fun _ h9 => h9) rfl dX0_trappedByAny_20 ?_
          refine lv_iload_n hx hb dX0_trappedByAny_23 rfl (lv_at hl 3 rfl) ?_
          obtain ⟨hi24, hf⟩ := ix_if hf
          refine va_iald (D := D) hx hb hK hP 1 0 rfl rfl hi24 dX0_trappedByAny_24 ?_
          refine lv_ior hx hb dX0_trappedByAny_25 ?_
          refine lv_istore_n (lv' := [(2, .int (l4v2 ||| (t_trapped l4v3.toNatClampNeg))), (0, .ref a_t), (1, .int p1), (3, .int l4v3)]) hx hb dX0_trappedByAny_26 rfl hl (by decide) rfl (fun ls hl => ?_)
          refine lv_iinc (v := l4v3 + 1) (lv' := [(3, .int (l4v3 + 1)), (2, .int (l4v2 ||| (t_trapped l4v3.toNatClampNeg))), (0, .ref a_t), (1, .int p1)]) hx hb dX0_trappedByAny_27 hl (k := 3) rfl rfl (by decide) rfl (fun ls hl => ?_)
          refine lv_goto (tgt := 4) hx hb dX0_trappedByAny_30 (by decide) ?_
          exact ih4 (l4v2 ||| (t_trapped l4v3.toNatClampNeg)) (l4v3 + 1) _ _ _ hP hD hS (lv_sub hl [2, 3, 1, 0] rfl) hf
  exact hL4 5000 (0 : Int32) (0 : Int32) _ _ _ hP hD hS (lv_sub hl [2, 3, 1, 0] rfl) hf
abbrev rm_X0_advance : Room := { frames := 3, cells := 0, slots := 0, locals := 67 }
theorem ms_X0_advance_X0 : ∀ w ∈ u_ws RX0 TX0 2, w ∈ wsX0_advance := fun w h => List.mem_cons_of_mem _ (List.mem_append_left _ (List.mem_append_right _ (h)))
set_option maxHeartbeats 4000000 in
set_option maxRecDepth 100000 in
theorem c_X0_advance (l : Launch) (D : va_G) (cI cJ cZ cO : ClassId) (sz : Nat) (a_t : Nat) (a_t_caught : Nat) (a_t_trapped : Nat) (a_o1 : Nat) (a_o1_roads : Nat) (t_caught : Nat → Int32) (t_trapped : Nat → Int32) (o1_homes : Int32) (o1_roads : Nat → Int32) (res : Int32 × (Nat → Int32) × (Nat → Int32)) (hf : f_X0_advance t_caught t_trapped o1_homes o1_roads = some res) : MetI l yX0_advance wsX0_advance rm_X0_advance [.ref a_t, .ref a_o1] D (tys4 cI cJ cZ cO) [(a_t, .inr (0, [.ref a_t_caught, .ref a_t_trapped])), (a_t_caught, .inl (cI, 12, .inl t_caught)), (a_t_trapped, .inl (cI, 12, .inl t_trapped)), (a_o1, .inr (2, [.ref a_o1_roads, .int o1_homes])), (a_o1_roads, .inl (cI, 12, .inl o1_roads))] sz res.1 [(a_t, .inr (0, [.ref a_t_caught, .ref a_t_trapped])), (a_t_caught, .inl (cI, 12, .inl res.2.1)), (a_t_trapped, .inl (cI, 12, .inl res.2.2)), (a_o1, .inr (2, [.ref a_o1_roads, .int o1_homes])), (a_o1_roads, .inl (cI, 12, .inl o1_roads))] := by
  refine met_z (cc := cX0_advance) (maxL := 5) (by decide) rfl (Nat.le_of_ble_eq_true rfl) ?_
  intro p e s m args below meth c Q A hx hb hml hown hts hK hN hA fin H locs ls hP hD hS hl
  replace hown : s.vm.findClass RX0 = some m.cls := hown
  replace hl : lv_has ls 5 [(0, .ref a_t), (1, .ref a_o1)] := hl
  rw [f_X0_advance] at hf
  have hw9 := hts (.fieldLink RX0 9 "TouchReign$Chase" "caught" "[I") (by decide +kernel)
  have hmsX0 := ms_X0_advance_X0
  have hcw28 := cwV (R := rm_X0_advance) (rm := rm_X2_movesFrom) 1 hts gX0_advance_X2_movesFrom rfl rfl rfl (by decide +kernel) ⟨Nat.le_of_ble_eq_true rfl, Nat.le_of_ble_eq_true rfl⟩
  have hcw31 := cwV (R := rm_X0_advance) (rm := rm_X0_trappedByAny) 1 hts gX0_advance_X0_trappedByAny rfl rfl rfl (by decide +kernel) ⟨Nat.le_of_ble_eq_true rfl, Nat.le_of_ble_eq_true rfl⟩
  have hw15 := hts (.fieldLink RX0 15 "TouchReign$Chase" "trapped" "[I") (by decide +kernel)
  have hcw24 := cwV (R := rm_X0_advance) (rm := rm_X0_trappedBy) 2 hts gX0_advance_X0_trappedBy rfl rfl rfl (by decide +kernel) ⟨Nat.le_of_ble_eq_true rfl, Nat.le_of_ble_eq_true rfl⟩
  refine lv_iconst (v := 0) hx hb dX0_advance_0 (by decide) ?_
  refine lv_istore_n (lv' := [(2, .int (0 : Int32)), (0, .ref a_t), (1, .ref a_o1)]) hx hb dX0_advance_1 rfl hl (by decide) rfl (fun ls hl => ?_)
  have hX2 : ∀ (x2t_trapped : Nat → Int32) (H : Heap) (locs : List Loc) (ls : Array Slot), va_P D vwCl [(a_t, .inr (0, [.ref a_t_caught, .ref a_t_trapped])), (a_t_caught, .inl (cI, 12, .inl t_caught)), (a_t_trapped, .inl (cI, 12, .inl x2t_trapped)), (a_o1, .inr (2, [.ref a_o1_roads, .int o1_homes])), (a_o1_roads, .inl (cI, 12, .inl o1_roads))] H → va_D A [(a_t, .inr (0, [.ref a_t_caught, .ref a_t_trapped])), (a_t_caught, .inl (cI, 12, .inl t_caught)), (a_t_trapped, .inl (cI, 12, .inl x2t_trapped)), (a_o1, .inr (2, [.ref a_o1_roads, .int o1_homes])), (a_o1_roads, .inl (cI, 12, .inl o1_roads))] → va_S A s.heap H locs → lv_has ls 5 [(0, .ref a_t), (1, .ref a_o1)] → f_X0_advance_X2 t_caught o1_roads x2t_trapped = some res → W p l e rm_X0_advance s m args below meth c H locs 0 0 Q (F0 m 26 ls []) := by
    intro x2t_trapped H locs ls hP hD hS hl hf
    rw [f_X0_advance_X2] at hf
    refine lv_iconst (v := 0) hx hb dX0_advance_26 (by decide) ?_
    refine lv_istore_n (lv' := [(2, .int (0 : Int32)), (0, .ref a_t), (1, .ref a_o1)]) hx hb dX0_advance_27 rfl hl (by decide) rfl (fun ls hl => ?_)
    refine lv_iconst (v := 0) hx hb dX0_advance_28 (by decide) ?_
    refine lv_istore_n (lv' := [(3, .int (0 : Int32)), (2, .int (0 : Int32)), (0, .ref a_t), (1, .ref a_o1)]) hx hb dX0_advance_29 rfl hl (by decide) rfl (fun ls hl => ?_)
    have hX30 : ∀ (x30v2 : Int32) (x30t_caught : Nat → Int32) (H : Heap) (locs : List Loc) (ls : Array Slot), va_P D vwCl [(a_t, .inr (0, [.ref a_t_caught, .ref a_t_trapped])), (a_t_caught, .inl (cI, 12, .inl x30t_caught)), (a_t_trapped, .inl (cI, 12, .inl x2t_trapped)), (a_o1, .inr (2, [.ref a_o1_roads, .int o1_homes])), (a_o1_roads, .inl (cI, 12, .inl o1_roads))] H → va_D A [(a_t, .inr (0, [.ref a_t_caught, .ref a_t_trapped])), (a_t_caught, .inl (cI, 12, .inl x30t_caught)), (a_t_trapped, .inl (cI, 12, .inl x2t_trapped)), (a_o1, .inr (2, [.ref a_o1_roads, .int o1_homes])), (a_o1_roads, .inl (cI, 12, .inl o1_roads))] → va_S A s.heap H locs → lv_has ls 5 [(2, .int x30v2)] → f_X0_advance_X30 x2t_trapped x30v2 x30t_caught = some res → W p l e rm_X0_advance s m args below meth c H locs 0 0 Q (F0 m 81 ls []) := by
      intro x30v2 x30t_caught H locs ls hP hD hS hl hf
      rw [f_X0_advance_X30] at hf
      refine lv_iload_n hx hb dX0_advance_81 rfl (lv_at hl 0 rfl) ?_
      obtain ⟨hz82, hf⟩ := ok_if hf
      obtain rfl := Option.some.inj hf
      exact fin _ _ _ _ (zr_ok hz82) dX0_advance_82 hP hD hS
    have hL30 : ∀ (n30 : Nat), ∀ (l30v2 : Int32) (l30v3 : Int32) (l30t_caught : Nat → Int32) (H : Heap) (locs : List Loc) (ls : Array Slot), va_P D vwCl [(a_t, .inr (0, [.ref a_t_caught, .ref a_t_trapped])), (a_t_caught, .inl (cI, 12, .inl l30t_caught)), (a_t_trapped, .inl (cI, 12, .inl x2t_trapped)), (a_o1, .inr (2, [.ref a_o1_roads, .int o1_homes])), (a_o1_roads, .inl (cI, 12, .inl o1_roads))] H → va_D A [(a_t, .inr (0, [.ref a_t_caught, .ref a_t_trapped])), (a_t_caught, .inl (cI, 12, .inl l30t_caught)), (a_t_trapped, .inl (cI, 12, .inl x2t_trapped)), (a_o1, .inr (2, [.ref a_o1_roads, .int o1_homes])), (a_o1_roads, .inl (cI, 12, .inl o1_roads))] → va_S A s.heap H locs → lv_has ls 5 [(0, .ref a_t), (1, .ref a_o1), (2, .int l30v2), (3, .int l30v3)] → f_X0_advance_L30 o1_roads x2t_trapped (f_X0_advance_X30 x2t_trapped) n30 l30v2 l30v3 l30t_caught = some res → W p l e rm_X0_advance s m args below meth c H locs 0 0 Q (F0 m 30 ls []) := by
      intro n30
      induction n30 with
      | zero =>
        intro l30v2 l30v3 l30t_caught H locs ls hP hD hS hl hf
        rw [f_X0_advance_L30] at hf
        cases hf
      | succ n30 ih30 =>
        intro l30v2 l30v3 l30t_caught H locs ls hP hD hS hl hf
        rw [f_X0_advance_L30] at hf
        refine lv_iload_n hx hb dX0_advance_30 rfl (lv_at hl 3 rfl) ?_
        refine lv_bipush (v := 12) hx hb dX0_advance_31 (by decide) ?_
        refine lv_icmp_ge (tgt := 81) hx hb dX0_advance_33 (by decide) (fun hc => ?_) (fun hc => ?_)
        · replace hf := (if_pos hc).symm.trans hf
          exact hX30 l30v2 l30t_caught _ _ _ hP hD hS (lv_sub hl [2] rfl) hf
        · replace hf := (if_neg hc).symm.trans hf
          refine lv_aload_n hx hb dX0_advance_36 rfl (lv_at hl 0 rfl) ?_
          refine va_get (D := D) (ci := 0) (v := .ref a_t_caught) (C := RX0) (T := TX0) (N := 2) hx hb hts hmsX0 hown hK hP 0 rfl rfl 0 (by decide) hw9 (fun _ h9 => h9) rfl dX0_advance_37 ?_
          refine lv_iload_n hx hb dX0_advance_40 rfl (lv_at hl 3 rfl) ?_
          obtain ⟨hi41, hf⟩ := ix_if hf
          refine va_iald (D := D) hx hb hK hP 1 0 rfl rfl hi41 dX0_advance_41 ?_
          refine lv_aload_n hx hb dX0_advance_42 rfl (lv_at hl 0 rfl) ?_
          refine lv_aload_n hx hb dX0_advance_43 rfl (lv_at hl 1 rfl) ?_
          refine lv_iload_n hx hb dX0_advance_44 rfl (lv_at hl 3 rfl) ?_
          obtain ⟨x45, hx45, hf⟩ := bd_if hf
          refine cv_i (wr := [(a_t, .inr (0, [.ref a_t_caught, .ref a_t_trapped])), (a_t_caught, .inl (cI, 12, .inl l30t_caught)), (a_t_trapped, .inl (cI, 12, .inl x2t_trapped))]) (ws' := [(a_t, .inr (0, [.ref a_t_caught, .ref a_t_trapped])), (a_t_caught, .inl (cI, 12, .inl l30t_caught)), (a_t_trapped, .inl (cI, 12, .inl x2t_trapped)), (a_o1, .inr (2, [.ref a_o1_roads, .int o1_homes])), (a_o1_roads, .inl (cI, 12, .inl o1_roads))]) ⟨hx, hb, hml, hown, hts⟩ hcw28 hK hN hP hD hS hA (c_X2_movesFrom l D cI cJ cZ cO _ a_o1 a_o1_roads o1_homes o1_roads l30v3 x45 hx45) (q := (RX2, TX2, 2)) (ci := 2) (q0 := 3) rfl rfl [3, 4] [0, 1, 2] [0, 1, 2, 3, 4] rfl rfl rfl rfl (by decide) rfl rfl rfl hl.1 rfl (Nat.le_of_ble_eq_true rfl) dX0_advance_45 ⟨Nat.zero_le _, Nat.zero_le _⟩ (fun H locs hP hD hS => ?_)
          obtain ⟨x48, hx48, hf⟩ := bd_if hf
          refine cv_i (wr := [(a_t_caught, .inl (cI, 12, .inl l30t_caught)), (a_o1, .inr (2, [.ref a_o1_roads, .int o1_homes])), (a_o1_roads, .inl (cI, 12, .inl o1_roads))]) (ws' := [(a_t, .inr (0, [.ref a_t_caught, .ref a_t_trapped])), (a_t_caught, .inl (cI, 12, .inl l30t_caught)), (a_t_trapped, .inl (cI, 12, .inl x2t_trapped)), (a_o1, .inr (2, [.ref a_o1_roads, .int o1_homes])), (a_o1_roads, .inl (cI, 12, .inl o1_roads))]) ⟨hx, hb, hml, hown, hts⟩ hcw31 hK hN hP hD hS hA (c_X0_trappedByAny l D cI cJ cZ cO _ a_t a_t_caught a_t_trapped x2t_trapped x45 x48 hx48) (q := (RX0, TX0, 2)) (ci := 0) (q0 := 0) rfl rfl [0, 2] [1, 3, 4] [3, 0, 4, 1, 2] rfl rfl rfl rfl (by decide) rfl rfl rfl hl.1 rfl (Nat.le_of_ble_eq_true rfl) dX0_advance_48 ⟨Nat.zero_le _, Nat.zero_le _⟩ (fun H locs hP hD hS => ?_)
          refine lv_ior hx hb dX0_advance_51 ?_
          refine lv_istore (lv' := [(4, .int ((l30t_caught l30v3.toNatClampNeg) ||| x48)), (0, .ref a_t), (1, .ref a_o1), (2, .int l30v2), (3, .int l30v3)]) hx hb dX0_advance_52 hl (by decide) rfl (fun ls hl => ?_)
          refine lv_iload hx hb dX0_advance_54 (lv_at hl 0 rfl) ?_
          refine lv_aload_n hx hb dX0_advance_56 rfl (lv_at hl 1 rfl) ?_
          refine va_get (D := D) (ci := 0) (v := .ref a_t_caught) (C := RX0) (T := TX0) (N := 2) hx hb hts hmsX0 hown hK hP 0 rfl rfl 0 (by decide) hw9 (fun _ h9 => h9) rfl dX0_advance_57 ?_
          refine lv_iload_n hx hb dX0_advance_60 rfl (lv_at hl 4 rfl) ?_
          refine va_iald (D := D) hx hb hK hP 1 0 rfl rfl hi41 dX0_advance_61 ?_
          refine lv_icmp_eq (tgt := 67) hx hb dX0_advance_62 (by decide) (fun hc => ?_) (fun hc => ?_)
          · replace hf := (if_pos hc).symm.trans hf
            refine lv_aload_n hx hb dX0_advance_67 rfl (lv_at hl 1 rfl) ?_
            refine va_get (D := D) (ci := 0) (v := .ref a_t_caught) (C := RX0) (T := TX0) (N := 2) hx hb hts hmsX0 hown hK hP 0 rfl rfl 0 (by decide) hw9 (fun _ h9 => h9) rfl dX0_advance_68 ?_
            refine lv_iload_n hx hb dX0_advance_71 rfl (lv_at hl 4 rfl) ?_
            refine lv_iload hx hb dX0_advance_72 (lv_at hl 0 rfl) ?_
            refine va_iast (D := D) hx hb hK hP hD hS 1 0 rfl rfl hi41 dX0_advance_74 (fun H locs hP hD hS => ?_)
            replace hP : va_P D vwCl [(a_t, .inr (0, [.ref a_t_caught, .ref a_t_trapped])), (a_t_caught, .inl (cI, 12, .inl (upd l30t_caught l30v3.toNatClampNeg ((l30t_caught l30v3.toNatClampNeg) ||| x48)))), (a_t_trapped, .inl (cI, 12, .inl x2t_trapped)), (a_o1, .inr (2, [.ref a_o1_roads, .int o1_homes])), (a_o1_roads, .inl (cI, 12, .inl o1_roads))] H := hP
            replace hD : va_D A [(a_t, .inr (0, [.ref a_t_caught, .ref a_t_trapped])), (a_t_caught, .inl (cI, 12, .inl (upd l30t_caught l30v3.toNatClampNeg ((l30t_caught l30v3.toNatClampNeg) ||| x48)))), (a_t_trapped, .inl (cI, 12, .inl x2t_trapped)), (a_o1, .inr (2, [.ref a_o1_roads, .int o1_homes])), (a_o1_roads, .inl (cI, 12, .inl o1_roads))] := hD
            refine lv_iinc (v := l30v3 + 1) (lv' := [(3, .int (l30v3 + 1)), (4, .int ((l30t_caught l30v3.toNatClampNeg) ||| x48)), (0, .ref a_t), (1, .ref a_o1), (2, .int l30v2)]) hx hb dX0_advance_75 hl (k := 4) rfl rfl (by decide) rfl (fun ls hl => ?_)
            refine lv_goto (tgt := 30) hx hb dX0_advance_78 (by decide) ?_
            exact ih30 l30v2 (l30v3 + 1) (upd l30t_caught l30v3.toNatClampNeg ((l30t_caught l30v3.toNatClampNeg) ||| x48)) _ _ _ hP hD hS (lv_sub hl [2, 3, 4, 0] rfl) hf
          · replace hf := (if_neg hc).symm.trans hf
            refine lv_iconst (v := 1) hx hb dX0_advance_65 (by decide) ?_
            refine lv_istore_n (lv' := [(2, .int (1 : Int32)), (4, .int ((l30t_caught l30v3.toNatClampNeg) ||| x48)), (0, .ref a_t), (1, .ref a_o1), (3, .int l30v3)]) hx hb dX0_advance_66 rfl hl (by decide) rfl (fun ls hl => ?_)
            refine lv_aload_n hx hb dX0_advance_67 rfl (lv_at hl 2 rfl) ?_
            refine va_get (D := D) (ci := 0) (v := .ref a_t_caught) (C := RX0) (T := TX0) (N := 2) hx hb hts hmsX0 hown hK hP 0 rfl rfl 0 (by decide) hw9 (fun _ h9 => h9) rfl dX0_advance_68 ?_
            refine lv_iload_n hx hb dX0_advance_71 rfl (lv_at hl 4 rfl) ?_
            refine lv_iload hx hb dX0_advance_72 (lv_at hl 1 rfl) ?_
            refine va_iast (D := D) hx hb hK hP hD hS 1 0 rfl rfl hi41 dX0_advance_74 (fun H locs hP hD hS => ?_)
            replace hP : va_P D vwCl [(a_t, .inr (0, [.ref a_t_caught, .ref a_t_trapped])), (a_t_caught, .inl (cI, 12, .inl (upd l30t_caught l30v3.toNatClampNeg ((l30t_caught l30v3.toNatClampNeg) ||| x48)))), (a_t_trapped, .inl (cI, 12, .inl x2t_trapped)), (a_o1, .inr (2, [.ref a_o1_roads, .int o1_homes])), (a_o1_roads, .inl (cI, 12, .inl o1_roads))] H := hP
            replace hD : va_D A [(a_t, .inr (0, [.ref a_t_caught, .ref a_t_trapped])), (a_t_caught, .inl (cI, 12, .inl (upd l30t_caught l30v3.toNatClampNeg ((l30t_caught l30v3.toNatClampNeg) ||| x48)))), (a_t_trapped, .inl (cI, 12, .inl x2t_trapped)), (a_o1, .inr (2, [.ref a_o1_roads, .int o1_homes])), (a_o1_roads, .inl (cI, 12, .inl o1_roads))] := hD
            refine lv_iinc (v := l30v3 + 1) (lv' := [(3, .int (l30v3 + 1)), (2, .int (1 : Int32)), (4, .int ((l30t_caught l30v3.toNatClampNeg) ||| x48)), (0, .ref a_t), (1, .ref a_o1)]) hx hb dX0_advance_75 hl (k := 4) rfl rfl (by decide) rfl (fun ls hl => ?_)
            refine lv_goto (tgt := 30) hx hb dX0_advance_78 (by decide) ?_
            exact ih30 (1 : Int32) (l30v3 + 1) (upd l30t_caught l30v3.toNatClampNeg ((l30t_caught l30v3.toNatClampNeg) ||| x48)) _ _ _ hP hD hS (lv_sub hl [3, 4, 1, 0] rfl) hf
    exact hL30 5000 (0 : Int32) (0 : Int32) t_caught _ _ _ hP hD hS (lv_sub hl [2, 3, 1, 0] rfl) hf
  have hL2 : ∀ (n2 : Nat), ∀ (l2v2 : Int32) (l2t_trapped : Nat → Int32) (H : Heap) (locs : List Loc) (ls : Array Slot), va_P D vwCl [(a_t, .inr (0, [.ref a_t_caught, .ref a_t_trapped])), (a_t_caught, .inl (cI, 12, .inl t_caught)), (a_t_trapped, .inl (cI, 12, .inl l2t_trapped)), (a_o1, .inr (2, [.ref a_o1_roads, .int o1_homes])), (a_o1_roads, .inl (cI, 12, .inl o1_roads))] H → va_D A [(a_t, .inr (0, [.ref a_t_caught, .ref a_t_trapped])), (a_t_caught, .inl (cI, 12, .inl t_caught)), (a_t_trapped, .inl (cI, 12, .inl l2t_trapped)), (a_o1, .inr (2, [.ref a_o1_roads, .int o1_homes])), (a_o1_roads, .inl (cI, 12, .inl o1_roads))] → va_S A s.heap H locs → lv_has ls 5 [(0, .ref a_t), (1, .ref a_o1), (2, .int l2v2)] → f_X0_advance_L2 t_caught o1_homes o1_roads (f_X0_advance_X2 t_caught o1_roads) n2 l2v2 l2t_trapped = some res → W p l e rm_X0_advance s m args below meth c H locs 0 0 Q (F0 m 2 ls []) := by
    intro n2
    induction n2 with
    | zero =>
      intro l2v2 l2t_trapped H locs ls hP hD hS hl hf
      rw [f_X0_advance_L2] at hf
      cases hf
    | succ n2 ih2 =>
      intro l2v2 l2t_trapped H locs ls hP hD hS hl hf
      rw [f_X0_advance_L2] at hf
      refine lv_iload_n hx hb dX0_advance_2 rfl (lv_at hl 2 rfl) ?_
      refine lv_bipush (v := 12) hx hb dX0_advance_3 (by decide) ?_
      refine lv_icmp_ge (tgt := 26) hx hb dX0_advance_5 (by decide) (fun hc => ?_) (fun hc => ?_)
      · replace hf := (if_pos hc).symm.trans hf
        exact hX2 l2t_trapped _ _ _ hP hD hS (lv_sub hl [0, 1] rfl) hf
      · replace hf := (if_neg hc).symm.trans hf
        refine lv_aload_n hx hb dX0_advance_8 rfl (lv_at hl 0 rfl) ?_
        refine va_get (D := D) (ci := 0) (v := .ref a_t_trapped) (C := RX0) (T := TX0) (N := 2) hx hb hts hmsX0 hown hK hP 0 rfl rfl 1 (by decide) hw15 (fun _ h9 => h9) rfl dX0_advance_9 ?_
        refine lv_iload_n hx hb dX0_advance_12 rfl (lv_at hl 2 rfl) ?_
        refine lv_aload_n hx hb dX0_advance_13 rfl (lv_at hl 0 rfl) ?_
        refine lv_aload_n hx hb dX0_advance_14 rfl (lv_at hl 1 rfl) ?_
        refine lv_iload_n hx hb dX0_advance_15 rfl (lv_at hl 2 rfl) ?_
        obtain ⟨x16, hx16, hf⟩ := bd_if hf
        refine cv_i (wr := [(a_t_trapped, .inl (cI, 12, .inl l2t_trapped))]) (ws' := [(a_t, .inr (0, [.ref a_t_caught, .ref a_t_trapped])), (a_t_caught, .inl (cI, 12, .inl t_caught)), (a_t_trapped, .inl (cI, 12, .inl l2t_trapped)), (a_o1, .inr (2, [.ref a_o1_roads, .int o1_homes])), (a_o1_roads, .inl (cI, 12, .inl o1_roads))]) ⟨hx, hb, hml, hown, hts⟩ hcw24 hK hN hP hD hS hA (c_X0_trappedBy l D cI cJ cZ cO _ a_t a_t_caught a_t_trapped a_o1 a_o1_roads t_caught o1_homes o1_roads l2v2 x16 hx16) (q := (RX0, TX0, 2)) (ci := 0) (q0 := 0) rfl rfl [0, 1, 3, 4] [2] [1, 2, 0, 3, 4] rfl rfl rfl rfl (by decide) rfl rfl rfl hl.1 rfl (Nat.le_of_ble_eq_true rfl) dX0_advance_16 ⟨Nat.zero_le _, Nat.zero_le _⟩ (fun H locs hP hD hS => ?_)
        obtain ⟨hi19, hf⟩ := ix_if hf
        refine va_iast (D := D) hx hb hK hP hD hS 2 0 rfl rfl hi19 dX0_advance_19 (fun H locs hP hD hS => ?_)
        replace hP : va_P D vwCl [(a_t, .inr (0, [.ref a_t_caught, .ref a_t_trapped])), (a_t_caught, .inl (cI, 12, .inl t_caught)), (a_t_trapped, .inl (cI, 12, .inl (upd l2t_trapped l2v2.toNatClampNeg x16))), (a_o1, .inr (2, [.ref a_o1_roads, .int o1_homes])), (a_o1_roads, .inl (cI, 12, .inl o1_roads))] H := hP
        replace hD : va_D A [(a_t, .inr (0, [.ref a_t_caught, .ref a_t_trapped])), (a_t_caught, .inl (cI, 12, .inl t_caught)), (a_t_trapped, .inl (cI, 12, .inl (upd l2t_trapped l2v2.toNatClampNeg x16))), (a_o1, .inr (2, [.ref a_o1_roads, .int o1_homes])), (a_o1_roads, .inl (cI, 12, .inl o1_roads))] := hD
        refine lv_iinc (v := l2v2 + 1) (lv' := [(2, .int (l2v2 + 1)), (0, .ref a_t), (1, .ref a_o1)]) hx hb dX0_advance_20 hl (k := 2) rfl rfl (by decide) rfl (fun ls hl => ?_)
        refine lv_goto (tgt := 2) hx hb dX0_advance_23 (by decide) ?_
        exact ih2 (l2v2 + 1) (upd l2t_trapped l2v2.toNatClampNeg x16) _ _ _ hP hD hS (lv_sub hl [1, 2, 0] rfl) hf
  exact hL2 5000 (0 : Int32) t_trapped _ _ _ hP hD hS (lv_sub hl [1, 2, 0] rfl) hf
abbrev rm_X0_fewestRounds : Room := { frames := 4, cells := 0, slots := 0, locals := 91 }
set_option maxHeartbeats 4000000 in
set_option maxRecDepth 100000 in
theorem c_X0_fewestRounds (l : Launch) (D : va_G) (cI cJ cZ cO : ClassId) (sz : Nat) (a_t : Nat) (a_t_caught : Nat) (a_t_trapped : Nat) (a_o1 : Nat) (a_o1_roads : Nat) (t_caught : Nat → Int32) (t_trapped : Nat → Int32) (o1_homes : Int32) (o1_roads : Nat → Int32) (p2 : Int32) (p3 : Int32) (res : Int32 × (Nat → Int32) × (Nat → Int32)) (hf : f_X0_fewestRounds t_caught t_trapped o1_homes o1_roads p2 p3 = some res) : MetI l yX0_fewestRounds wsX0_fewestRounds rm_X0_fewestRounds [.ref a_t, .ref a_o1, .int p2, .int p3] D (tys4 cI cJ cZ cO) [(a_t, .inr (0, [.ref a_t_caught, .ref a_t_trapped])), (a_t_caught, .inl (cI, 12, .inl t_caught)), (a_t_trapped, .inl (cI, 12, .inl t_trapped)), (a_o1, .inr (2, [.ref a_o1_roads, .int o1_homes])), (a_o1_roads, .inl (cI, 12, .inl o1_roads))] sz res.1 [(a_t, .inr (0, [.ref a_t_caught, .ref a_t_trapped])), (a_t_caught, .inl (cI, 12, .inl res.2.1)), (a_t_trapped, .inl (cI, 12, .inl res.2.2)), (a_o1, .inr (2, [.ref a_o1_roads, .int o1_homes])), (a_o1_roads, .inl (cI, 12, .inl o1_roads))] := by
  refine met_i (cc := cX0_fewestRounds) (maxL := 6) (by decide) rfl (Nat.le_of_ble_eq_true rfl) ?_
  intro p e s m args below meth c Q A hx hb hml hown hts hK hN hA fin H locs ls hP hD hS hl
  replace hown : s.vm.findClass RX0 = some m.cls := hown
  replace hl : lv_has ls 6 [(0, .ref a_t), (1, .ref a_o1), (2, .int p2), (3, .int p3)] := hl
  rw [f_X0_fewestRounds] at hf
  have hcw45 := cwV (R := rm_X0_fewestRounds) (rm := rm_X0_begin) 1 hts gX0_fewestRounds_X0_begin rfl rfl rfl (by decide +kernel) ⟨Nat.le_of_ble_eq_true rfl, Nat.le_of_ble_eq_true rfl⟩
  have hcw34 := cwV (R := rm_X0_fewestRounds) (rm := rm_X0_caughtBy) 1 hts gX0_fewestRounds_X0_caughtBy rfl rfl rfl (by decide +kernel) ⟨Nat.le_of_ble_eq_true rfl, Nat.le_of_ble_eq_true rfl⟩
  have hiniX9 := hts (.initialized RX9) (by decide +kernel)
  have hcw37 := va_cnB (R := rm_X0_fewestRounds) (rm := rm_X9_holds) 2 hts gX0_fewestRounds_X9_holds_n37 rfl rfl rfl (hN.1 (.methodLinkNest RX0 37 yX9_holds RX9) (by decide +kernel)) hiniX9 (by decide +kernel) ⟨Nat.le_of_ble_eq_true rfl, Nat.le_of_ble_eq_true rfl⟩
  have hst37 := hts (.static yX9_holds) (by decide +kernel)
  have hcw49 := cwV (R := rm_X0_fewestRounds) (rm := rm_X0_advance) 1 hts gX0_fewestRounds_X0_advance rfl rfl rfl (by decide +kernel) ⟨Nat.le_of_ble_eq_true rfl, Nat.le_of_ble_eq_true rfl⟩
  refine lv_aload_n hx hb dX0_fewestRounds_0 rfl (lv_at hl 0 rfl) ?_
  refine lv_aload_n hx hb dX0_fewestRounds_1 rfl (lv_at hl 1 rfl) ?_
  obtain ⟨x2, hx2, hf⟩ := bd_if hf
  refine cv_v (wr := [(a_t_trapped, .inl (cI, 12, .inl t_trapped)), (a_o1_roads, .inl (cI, 12, .inl o1_roads))]) (ws' := [(a_t, .inr (0, [.ref a_t_caught, .ref a_t_trapped])), (a_t_caught, .inl (cI, 12, .inl x2)), (a_t_trapped, .inl (cI, 12, .inl t_trapped)), (a_o1, .inr (2, [.ref a_o1_roads, .int o1_homes])), (a_o1_roads, .inl (cI, 12, .inl o1_roads))]) ⟨hx, hb, hml, hown, hts⟩ hcw45 hK hN hP hD hS hA (c_X0_begin l D cI cJ cZ cO _ a_t a_t_caught a_t_trapped a_o1 a_o1_roads t_caught o1_homes x2 hx2) (q := (RX0, TX0, 2)) (ci := 0) (q0 := 0) rfl rfl [0, 1, 3] [2, 4] [2, 3, 0, 4, 1] rfl rfl rfl rfl (by decide) rfl rfl rfl hl.1 rfl (Nat.le_of_ble_eq_true rfl) dX0_fewestRounds_2 ⟨Nat.zero_le _, Nat.zero_le _⟩ (fun H locs hP hD hS => ?_)
  refine lv_iconst (v := 1) hx hb dX0_fewestRounds_5 (by decide) ?_
  refine lv_istore (lv' := [(4, .int (1 : Int32)), (0, .ref a_t), (1, .ref a_o1), (2, .int p2), (3, .int p3)]) hx hb dX0_fewestRounds_6 hl (by decide) rfl (fun ls hl => ?_)
  refine lv_iconst (v := 0) hx hb dX0_fewestRounds_8 (by decide) ?_
  refine lv_istore (lv' := [(5, .int (0 : Int32)), (4, .int (1 : Int32)), (0, .ref a_t), (1, .ref a_o1), (2, .int p2), (3, .int p3)]) hx hb dX0_fewestRounds_9 hl (by decide) rfl (fun ls hl => ?_)
  have hX11 : ∀ (x11t_caught : Nat → Int32) (x11t_trapped : Nat → Int32) (H : Heap) (locs : List Loc) (ls : Array Slot), va_P D vwCl [(a_t, .inr (0, [.ref a_t_caught, .ref a_t_trapped])), (a_t_caught, .inl (cI, 12, .inl x11t_caught)), (a_t_trapped, .inl (cI, 12, .inl x11t_trapped)), (a_o1, .inr (2, [.ref a_o1_roads, .int o1_homes])), (a_o1_roads, .inl (cI, 12, .inl o1_roads))] H → va_D A [(a_t, .inr (0, [.ref a_t_caught, .ref a_t_trapped])), (a_t_caught, .inl (cI, 12, .inl x11t_caught)), (a_t_trapped, .inl (cI, 12, .inl x11t_trapped)), (a_o1, .inr (2, [.ref a_o1_roads, .int o1_homes])), (a_o1_roads, .inl (cI, 12, .inl o1_roads))] → va_S A s.heap H locs → lv_has ls 6 [] → f_X0_fewestRounds_X11 x11t_caught x11t_trapped = some res → W p l e rm_X0_fewestRounds s m args below meth c H locs 0 0 Q (F0 m 52 ls []) := by
    intro x11t_caught x11t_trapped H locs ls hP hD hS hl hf
    rw [f_X0_fewestRounds_X11] at hf
    refine lv_bipush (v := -6) hx hb dX0_fewestRounds_52 (by decide) ?_
    obtain rfl := Option.some.inj hf
    exact fin _ _ _ _ dX0_fewestRounds_54 hP hD hS
  have hL11 : ∀ (n11 : Nat), ∀ (l11v4 : Int32) (l11v5 : Int32) (l11t_caught : Nat → Int32) (l11t_trapped : Nat → Int32) (H : Heap) (locs : List Loc) (ls : Array Slot), va_P D vwCl [(a_t, .inr (0, [.ref a_t_caught, .ref a_t_trapped])), (a_t_caught, .inl (cI, 12, .inl l11t_caught)), (a_t_trapped, .inl (cI, 12, .inl l11t_trapped)), (a_o1, .inr (2, [.ref a_o1_roads, .int o1_homes])), (a_o1_roads, .inl (cI, 12, .inl o1_roads))] H → va_D A [(a_t, .inr (0, [.ref a_t_caught, .ref a_t_trapped])), (a_t_caught, .inl (cI, 12, .inl l11t_caught)), (a_t_trapped, .inl (cI, 12, .inl l11t_trapped)), (a_o1, .inr (2, [.ref a_o1_roads, .int o1_homes])), (a_o1_roads, .inl (cI, 12, .inl o1_roads))] → va_S A s.heap H locs → lv_has ls 6 [(0, .ref a_t), (1, .ref a_o1), (2, .int p2), (3, .int p3), (4, .int l11v4), (5, .int l11v5)] → f_X0_fewestRounds_L11 o1_homes o1_roads p2 p3 f_X0_fewestRounds_X11 n11 l11v4 l11v5 l11t_caught l11t_trapped = some res → W p l e rm_X0_fewestRounds s m args below meth c H locs 0 0 Q (F0 m 11 ls []) := by
    intro n11
    induction n11 with
    | zero =>
      intro l11v4 l11v5 l11t_caught l11t_trapped H locs ls hP hD hS hl hf
      rw [f_X0_fewestRounds_L11] at hf
      cases hf
    | succ n11 ih11 =>
      intro l11v4 l11v5 l11t_caught l11t_trapped H locs ls hP hD hS hl hf
      rw [f_X0_fewestRounds_L11] at hf
      refine lv_iload hx hb dX0_fewestRounds_11 (lv_at hl 5 rfl) ?_
      refine lv_sipush (v := 144) hx hb dX0_fewestRounds_13 (by decide) ?_
      refine lv_icmp_gt (tgt := 52) hx hb dX0_fewestRounds_16 (by decide) (fun hc => ?_) (fun hc => ?_)
      · replace hf := (if_pos hc).symm.trans hf
        exact hX11 l11t_caught l11t_trapped _ _ _ hP hD hS (lv_sub hl [] rfl) hf
      · replace hf := (if_neg hc).symm.trans hf
        refine lv_iload hx hb dX0_fewestRounds_19 (lv_at hl 4 rfl) ?_
        refine lv_if_eq (tgt := 52) hx hb dX0_fewestRounds_21 (by decide) (fun hc => ?_) (fun hc => ?_)
        · replace hf := (if_pos hc).symm.trans hf
          exact hX11 l11t_caught l11t_trapped _ _ _ hP hD hS (lv_sub hl [] rfl) hf
        · replace hf := (if_neg hc).symm.trans hf
          refine lv_aload_n hx hb dX0_fewestRounds_24 rfl (lv_at hl 0 rfl) ?_
          refine lv_iload_n hx hb dX0_fewestRounds_25 rfl (lv_at hl 2 rfl) ?_
          obtain ⟨x26, hx26, hf⟩ := bd_if hf
          refine cv_i (wr := [(a_t_trapped, .inl (cI, 12, .inl l11t_trapped)), (a_o1, .inr (2, [.ref a_o1_roads, .int o1_homes])), (a_o1_roads, .inl (cI, 12, .inl o1_roads))]) (ws' := [(a_t, .inr (0, [.ref a_t_caught, .ref a_t_trapped])), (a_t_caught, .inl (cI, 12, .inl l11t_caught)), (a_t_trapped, .inl (cI, 12, .inl l11t_trapped)), (a_o1, .inr (2, [.ref a_o1_roads, .int o1_homes])), (a_o1_roads, .inl (cI, 12, .inl o1_roads))]) ⟨hx, hb, hml, hown, hts⟩ hcw34 hK hN hP hD hS hA (c_X0_caughtBy l D cI cJ cZ cO _ a_t a_t_caught a_t_trapped l11t_caught p2 x26 hx26) (q := (RX0, TX0, 2)) (ci := 0) (q0 := 0) rfl rfl [0, 1] [2, 3, 4] [3, 4, 0, 1, 2] rfl rfl rfl rfl (by decide) rfl rfl rfl hl.1 rfl (Nat.le_of_ble_eq_true rfl) dX0_fewestRounds_26 ⟨Nat.zero_le _, Nat.zero_le _⟩ (fun H locs hP hD hS => ?_)
          refine lv_iload_n hx hb dX0_fewestRounds_29 rfl (lv_at hl 3 rfl) ?_
          obtain ⟨x30, hx30, hf⟩ := bd_if hf
          refine cn_i (wr := [(a_t, .inr (0, [.ref a_t_caught, .ref a_t_trapped])), (a_t_caught, .inl (cI, 12, .inl l11t_caught)), (a_t_trapped, .inl (cI, 12, .inl l11t_trapped)), (a_o1, .inr (2, [.ref a_o1_roads, .int o1_homes])), (a_o1_roads, .inl (cI, 12, .inl o1_roads))]) (ws' := [(a_t, .inr (0, [.ref a_t_caught, .ref a_t_trapped])), (a_t_caught, .inl (cI, 12, .inl l11t_caught)), (a_t_trapped, .inl (cI, 12, .inl l11t_trapped)), (a_o1, .inr (2, [.ref a_o1_roads, .int o1_homes])), (a_o1_roads, .inl (cI, 12, .inl o1_roads))]) ⟨hx, hb, hml, hown, hts⟩ ⟨hcw37, hst37, trivial⟩ hK hN hP hD hS hA (c_X9_holds l D cI cJ cZ cO _ x26 p3 x30 hx30) [] [0, 1, 2, 3, 4] [0, 1, 2, 3, 4] rfl rfl rfl rfl (by decide) rfl rfl rfl hl.1 rfl (Nat.le_of_ble_eq_true rfl) dX0_fewestRounds_30 ⟨Nat.zero_le _, Nat.zero_le _⟩ (fun H locs hP hD hS => ?_)
          refine lv_if_eq (tgt := 39) hx hb dX0_fewestRounds_33 (by decide) (fun hc => ?_) (fun hc => ?_)
          · replace hf := (if_pos hc).symm.trans hf
            refine lv_aload_n hx hb dX0_fewestRounds_39 rfl (lv_at hl 0 rfl) ?_
            refine lv_aload_n hx hb dX0_fewestRounds_40 rfl (lv_at hl 1 rfl) ?_
            obtain ⟨x41, hx41, hf⟩ := bd_if hf
            refine cv_i (wr := []) (ws' := [(a_t, .inr (0, [.ref a_t_caught, .ref a_t_trapped])), (a_t_caught, .inl (cI, 12, .inl x41.2.1)), (a_t_trapped, .inl (cI, 12, .inl x41.2.2)), (a_o1, .inr (2, [.ref a_o1_roads, .int o1_homes])), (a_o1_roads, .inl (cI, 12, .inl o1_roads))]) ⟨hx, hb, hml, hown, hts⟩ hcw49 hK hN hP hD hS hA (c_X0_advance l D cI cJ cZ cO _ a_t a_t_caught a_t_trapped a_o1 a_o1_roads l11t_caught l11t_trapped o1_homes o1_roads x41 hx41) (q := (RX0, TX0, 2)) (ci := 0) (q0 := 0) rfl rfl [0, 1, 2, 3, 4] [] [0, 1, 2, 3, 4] rfl rfl rfl rfl (by decide) rfl rfl rfl hl.1 rfl (Nat.le_of_ble_eq_true rfl) dX0_fewestRounds_41 ⟨Nat.zero_le _, Nat.zero_le _⟩ (fun H locs hP hD hS => ?_)
            refine lv_istore (lv' := [(4, .int x41.1), (0, .ref a_t), (1, .ref a_o1), (2, .int p2), (3, .int p3), (5, .int l11v5)]) hx hb dX0_fewestRounds_44 hl (by decide) rfl (fun ls hl => ?_)
            refine lv_iinc (v := l11v5 + 1) (lv' := [(5, .int (l11v5 + 1)), (4, .int x41.1), (0, .ref a_t), (1, .ref a_o1), (2, .int p2), (3, .int p3)]) hx hb dX0_fewestRounds_46 hl (k := 5) rfl rfl (by decide) rfl (fun ls hl => ?_)
            refine lv_goto (tgt := 11) hx hb dX0_fewestRounds_49 (by decide) ?_
            exact ih11 x41.1 (l11v5 + 1) x41.2.1 x41.2.2 _ _ _ hP hD hS (lv_sub hl [2, 3, 4, 5, 1, 0] rfl) hf
          · replace hf := (if_neg hc).symm.trans hf
            refine lv_iload hx hb dX0_fewestRounds_36 (lv_at hl 5 rfl) ?_
            obtain rfl := Option.some.inj hf
            exact fin _ _ _ _ dX0_fewestRounds_38 hP hD hS
  exact hL11 5000 (1 : Int32) (0 : Int32) x2 t_trapped _ _ _ hP hD hS (lv_sub hl [2, 3, 4, 5, 1, 0] rfl) hf
abbrev rm_X0_kingsStep : Room := { frames := 5, cells := 0, slots := 0, locals := 116 }
theorem ms_X0_kingsStep_X0 : ∀ w ∈ u_ws RX0 TX0 2, w ∈ wsX0_kingsStep := fun w h => List.mem_cons_of_mem _ (List.mem_append_left _ (List.mem_append_right _ (h)))
set_option maxHeartbeats 4000000 in
set_option maxRecDepth 100000 in
theorem c_X0_kingsStep (l : Launch) (D : va_G) (cI cJ cZ cO : ClassId) (sz : Nat) (a_t : Nat) (a_t_caught : Nat) (a_t_trapped : Nat) (a_o1 : Nat) (a_o1_roads : Nat) (t_caught : Nat → Int32) (t_trapped : Nat → Int32) (o1_homes : Int32) (o1_roads : Nat → Int32) (p2 : Int32) (p3 : Int32) (res : Int32 × (Nat → Int32) × (Nat → Int32)) (hf : f_X0_kingsStep t_caught t_trapped o1_homes o1_roads p2 p3 = some res) : MetI l yX0_kingsStep wsX0_kingsStep rm_X0_kingsStep [.ref a_t, .ref a_o1, .int p2, .int p3] D (tys4 cI cJ cZ cO) [(a_t, .inr (0, [.ref a_t_caught, .ref a_t_trapped])), (a_t_caught, .inl (cI, 12, .inl t_caught)), (a_t_trapped, .inl (cI, 12, .inl t_trapped)), (a_o1, .inr (2, [.ref a_o1_roads, .int o1_homes])), (a_o1_roads, .inl (cI, 12, .inl o1_roads))] sz res.1 [(a_t, .inr (0, [.ref a_t_caught, .ref a_t_trapped])), (a_t_caught, .inl (cI, 12, .inl res.2.1)), (a_t_trapped, .inl (cI, 12, .inl res.2.2)), (a_o1, .inr (2, [.ref a_o1_roads, .int o1_homes])), (a_o1_roads, .inl (cI, 12, .inl o1_roads))] := by
  refine met_i (cc := cX0_kingsStep) (maxL := 7) (by decide) rfl (Nat.le_of_ble_eq_true rfl) ?_
  intro p e s m args below meth c Q A hx hb hml hown hts hK hN hA fin H locs ls hP hD hS hl
  replace hown : s.vm.findClass RX0 = some m.cls := hown
  replace hl : lv_has ls 7 [(0, .ref a_t), (1, .ref a_o1), (2, .int p2), (3, .int p3)] := hl
  rw [f_X0_kingsStep] at hf
  have hcw53 := cwV (R := rm_X0_kingsStep) (rm := rm_X0_fewestRounds) 3 hts gX0_kingsStep_X0_fewestRounds rfl rfl rfl (by decide +kernel) ⟨Nat.le_of_ble_eq_true rfl, Nat.le_of_ble_eq_true rfl⟩
  have hcw28 := cwV (R := rm_X0_kingsStep) (rm := rm_X2_movesFrom) 1 hts gX0_kingsStep_X2_movesFrom rfl rfl rfl (by decide +kernel) ⟨Nat.le_of_ble_eq_true rfl, Nat.le_of_ble_eq_true rfl⟩
  have hiniX9 := hts (.initialized RX9) (by decide +kernel)
  have hcw37 := va_cnB (R := rm_X0_kingsStep) (rm := rm_X9_holds) 2 hts gX0_kingsStep_X9_holds_n37 rfl rfl rfl (hN.1 (.methodLinkNest RX0 37 yX9_holds RX9) (by decide +kernel)) hiniX9 (by decide +kernel) ⟨Nat.le_of_ble_eq_true rfl, Nat.le_of_ble_eq_true rfl⟩
  have hst37 := hts (.static yX9_holds) (by decide +kernel)
  have hw15 := hts (.fieldLink RX0 15 "TouchReign$Chase" "trapped" "[I") (by decide +kernel)
  have hmsX0 := ms_X0_kingsStep_X0
  refine lv_aload_n hx hb dX0_kingsStep_0 rfl (lv_at hl 0 rfl) ?_
  refine lv_aload_n hx hb dX0_kingsStep_1 rfl (lv_at hl 1 rfl) ?_
  refine lv_iload_n hx hb dX0_kingsStep_2 rfl (lv_at hl 2 rfl) ?_
  refine lv_iload_n hx hb dX0_kingsStep_3 rfl (lv_at hl 3 rfl) ?_
  obtain ⟨x4, hx4, hf⟩ := bd_if hf
  refine cv_i (wr := []) (ws' := [(a_t, .inr (0, [.ref a_t_caught, .ref a_t_trapped])), (a_t_caught, .inl (cI, 12, .inl x4.2.1)), (a_t_trapped, .inl (cI, 12, .inl x4.2.2)), (a_o1, .inr (2, [.ref a_o1_roads, .int o1_homes])), (a_o1_roads, .inl (cI, 12, .inl o1_roads))]) ⟨hx, hb, hml, hown, hts⟩ hcw53 hK hN hP hD hS hA (c_X0_fewestRounds l D cI cJ cZ cO _ a_t a_t_caught a_t_trapped a_o1 a_o1_roads t_caught t_trapped o1_homes o1_roads p2 p3 x4 hx4) (q := (RX0, TX0, 2)) (ci := 0) (q0 := 0) rfl rfl [0, 1, 2, 3, 4] [] [0, 1, 2, 3, 4] rfl rfl rfl rfl (by decide) rfl rfl rfl hl.1 rfl (Nat.le_of_ble_eq_true rfl) dX0_kingsStep_4 ⟨Nat.zero_le _, Nat.zero_le _⟩ (fun H locs hP hD hS => ?_)
  refine lv_istore (lv' := [(4, .int x4.1), (0, .ref a_t), (1, .ref a_o1), (2, .int p2), (3, .int p3)]) hx hb dX0_kingsStep_7 hl (by decide) rfl (fun ls hl => ?_)
  refine lv_iload hx hb dX0_kingsStep_9 (lv_at hl 0 rfl) ?_
  refine lv_bipush (v := -6) hx hb dX0_kingsStep_11 (by decide) ?_
  refine lv_icmp_eq (tgt := 21) hx hb dX0_kingsStep_13 (by decide) (fun hc => ?_) (fun hc => ?_)
  · replace hf := (if_pos hc).symm.trans hf
    refine lv_bipush (v := -6) hx hb dX0_kingsStep_21 (by decide) ?_
    obtain rfl := Option.some.inj hf
    exact fin _ _ _ _ dX0_kingsStep_23 hP hD hS
  · replace hf := (if_neg hc).symm.trans hf
    refine lv_iload hx hb dX0_kingsStep_16 (lv_at hl 0 rfl) ?_
    refine lv_if_ne (tgt := 24) hx hb dX0_kingsStep_18 (by decide) (fun hc => ?_) (fun hc => ?_)
    · replace hf := (if_neg hc).symm.trans hf
      refine lv_aload_n hx hb dX0_kingsStep_24 rfl (lv_at hl 2 rfl) ?_
      refine lv_iload_n hx hb dX0_kingsStep_25 rfl (lv_at hl 3 rfl) ?_
      obtain ⟨x26, hx26, hf⟩ := bd_if hf
      refine cv_i (wr := [(a_t, .inr (0, [.ref a_t_caught, .ref a_t_trapped])), (a_t_caught, .inl (cI, 12, .inl x4.2.1)), (a_t_trapped, .inl (cI, 12, .inl x4.2.2))]) (ws' := [(a_t, .inr (0, [.ref a_t_caught, .ref a_t_trapped])), (a_t_caught, .inl (cI, 12, .inl x4.2.1)), (a_t_trapped, .inl (cI, 12, .inl x4.2.2)), (a_o1, .inr (2, [.ref a_o1_roads, .int o1_homes])), (a_o1_roads, .inl (cI, 12, .inl o1_roads))]) ⟨hx, hb, hml, hown, hts⟩ hcw28 hK hN hP hD hS hA (c_X2_movesFrom l D cI cJ cZ cO _ a_o1 a_o1_roads o1_homes o1_roads p2 x26 hx26) (q := (RX2, TX2, 2)) (ci := 2) (q0 := 3) rfl rfl [3, 4] [0, 1, 2] [0, 1, 2, 3, 4] rfl rfl rfl rfl (by decide) rfl rfl rfl hl.1 rfl (Nat.le_of_ble_eq_true rfl) dX0_kingsStep_26 ⟨Nat.zero_le _, Nat.zero_le _⟩ (fun H locs hP hD hS => ?_)
      refine lv_istore (lv' := [(5, .int x26), (4, .int x4.1), (0, .ref a_t), (1, .ref a_o1), (2, .int p2), (3, .int p3)]) hx hb dX0_kingsStep_29 hl (by decide) rfl (fun ls hl => ?_)
      refine lv_iconst (v := 0) hx hb dX0_kingsStep_31 (by decide) ?_
      refine lv_istore (lv' := [(6, .int (0 : Int32)), (5, .int x26), (4, .int x4.1), (0, .ref a_t), (1, .ref a_o1), (2, .int p2), (3, .int p3)]) hx hb dX0_kingsStep_32 hl (by decide) rfl (fun ls hl => ?_)
      have hX34 : ∀ (H : Heap) (locs : List Loc) (ls : Array Slot), va_P D vwCl [(a_t, .inr (0, [.ref a_t_caught, .ref a_t_trapped])), (a_t_caught, .inl (cI, 12, .inl x4.2.1)), (a_t_trapped, .inl (cI, 12, .inl x4.2.2)), (a_o1, .inr (2, [.ref a_o1_roads, .int o1_homes])), (a_o1_roads, .inl (cI, 12, .inl o1_roads))] H → va_D A [(a_t, .inr (0, [.ref a_t_caught, .ref a_t_trapped])), (a_t_caught, .inl (cI, 12, .inl x4.2.1)), (a_t_trapped, .inl (cI, 12, .inl x4.2.2)), (a_o1, .inr (2, [.ref a_o1_roads, .int o1_homes])), (a_o1_roads, .inl (cI, 12, .inl o1_roads))] → va_S A s.heap H locs → lv_has ls 7 [] → f_X0_kingsStep_X34 x4 = some res → W p l e rm_X0_kingsStep s m args below meth c H locs 0 0 Q (F0 m 74 ls []) := by
        intro  H locs ls hP hD hS hl hf
        rw [f_X0_kingsStep_X34] at hf
        refine lv_bipush (v := -6) hx hb dX0_kingsStep_74 (by decide) ?_
        obtain rfl := Option.some.inj hf
        exact fin _ _ _ _ dX0_kingsStep_76 hP hD hS
      have hL34 : ∀ (n34 : Nat), ∀ (l34v6 : Int32) (H : Heap) (locs : List Loc) (ls : Array Slot), va_P D vwCl [(a_t, .inr (0, [.ref a_t_caught, .ref a_t_trapped])), (a_t_caught, .inl (cI, 12, .inl x4.2.1)), (a_t_trapped, .inl (cI, 12, .inl x4.2.2)), (a_o1, .inr (2, [.ref a_o1_roads, .int o1_homes])), (a_o1_roads, .inl (cI, 12, .inl o1_roads))] H → va_D A [(a_t, .inr (0, [.ref a_t_caught, .ref a_t_trapped])), (a_t_caught, .inl (cI, 12, .inl x4.2.1)), (a_t_trapped, .inl (cI, 12, .inl x4.2.2)), (a_o1, .inr (2, [.ref a_o1_roads, .int o1_homes])), (a_o1_roads, .inl (cI, 12, .inl o1_roads))] → va_S A s.heap H locs → lv_has ls 7 [(0, .ref a_t), (3, .int p3), (5, .int x26), (6, .int l34v6)] → f_X0_kingsStep_L34 p3 x4 x26 (f_X0_kingsStep_X34 x4) n34 l34v6 = some res → W p l e rm_X0_kingsStep s m args below meth c H locs 0 0 Q (F0 m 34 ls []) := by
        intro n34
        induction n34 with
        | zero =>
          intro l34v6 H locs ls hP hD hS hl hf
          rw [f_X0_kingsStep_L34] at hf
          cases hf
        | succ n34 ih34 =>
          intro l34v6 H locs ls hP hD hS hl hf
          rw [f_X0_kingsStep_L34] at hf
          refine lv_iload hx hb dX0_kingsStep_34 (lv_at hl 3 rfl) ?_
          refine lv_bipush (v := 12) hx hb dX0_kingsStep_36 (by decide) ?_
          refine lv_icmp_ge (tgt := 74) hx hb dX0_kingsStep_38 (by decide) (fun hc => ?_) (fun hc => ?_)
          · replace hf := (if_pos hc).symm.trans hf
            exact hX34 _ _ _ hP hD hS (lv_sub hl [] rfl) hf
          · replace hf := (if_neg hc).symm.trans hf
            refine lv_iload hx hb dX0_kingsStep_41 (lv_at hl 2 rfl) ?_
            refine lv_iload hx hb dX0_kingsStep_43 (lv_at hl 3 rfl) ?_
            obtain ⟨x45, hx45, hf⟩ := bd_if hf
            refine cn_i (wr := [(a_t, .inr (0, [.ref a_t_caught, .ref a_t_trapped])), (a_t_caught, .inl (cI, 12, .inl x4.2.1)), (a_t_trapped, .inl (cI, 12, .inl x4.2.2)), (a_o1, .inr (2, [.ref a_o1_roads, .int o1_homes])), (a_o1_roads, .inl (cI, 12, .inl o1_roads))]) (ws' := [(a_t, .inr (0, [.ref a_t_caught, .ref a_t_trapped])), (a_t_caught, .inl (cI, 12, .inl x4.2.1)), (a_t_trapped, .inl (cI, 12, .inl x4.2.2)), (a_o1, .inr (2, [.ref a_o1_roads, .int o1_homes])), (a_o1_roads, .inl (cI, 12, .inl o1_roads))]) ⟨hx, hb, hml, hown, hts⟩ ⟨hcw37, hst37, trivial⟩ hK hN hP hD hS hA (c_X9_holds l D cI cJ cZ cO _ x26 l34v6 x45 hx45) [] [0, 1, 2, 3, 4] [0, 1, 2, 3, 4] rfl rfl rfl rfl (by decide) rfl rfl rfl hl.1 rfl (Nat.le_of_ble_eq_true rfl) dX0_kingsStep_45 ⟨Nat.zero_le _, Nat.zero_le _⟩ (fun H locs hP hD hS => ?_)
            refine lv_if_eq (tgt := 68) hx hb dX0_kingsStep_48 (by decide) (fun hc => ?_) (fun hc => ?_)
            · replace hf := (if_pos hc).symm.trans hf
              refine lv_iinc (v := l34v6 + 1) (lv' := [(6, .int (l34v6 + 1)), (0, .ref a_t), (3, .int p3), (5, .int x26)]) hx hb dX0_kingsStep_68 hl (k := 3) rfl rfl (by decide) rfl (fun ls hl => ?_)
              refine lv_goto (tgt := 34) hx hb dX0_kingsStep_71 (by decide) ?_
              exact ih34 (l34v6 + 1) _ _ _ hP hD hS (lv_sub hl [1, 2, 3, 0] rfl) hf
            · replace hf := (if_neg hc).symm.trans hf
              refine lv_aload_n hx hb dX0_kingsStep_51 rfl (lv_at hl 0 rfl) ?_
              refine va_get (D := D) (ci := 0) (v := .ref a_t_trapped) (C := RX0) (T := TX0) (N := 2) hx hb hts hmsX0 hown hK hP 0 rfl rfl 1 (by decide) hw15 (fun _ h9 => h9) rfl dX0_kingsStep_52 ?_
              refine lv_iload hx hb dX0_kingsStep_55 (lv_at hl 3 rfl) ?_
              obtain ⟨hi57, hf⟩ := ix_if hf
              refine va_iald (D := D) hx hb hK hP 2 0 rfl rfl hi57 dX0_kingsStep_57 ?_
              refine lv_iload_n hx hb dX0_kingsStep_58 rfl (lv_at hl 1 rfl) ?_
              obtain ⟨x59, hx59, hf⟩ := bd_if hf
              refine cn_i (wr := [(a_t, .inr (0, [.ref a_t_caught, .ref a_t_trapped])), (a_t_caught, .inl (cI, 12, .inl x4.2.1)), (a_t_trapped, .inl (cI, 12, .inl x4.2.2)), (a_o1, .inr (2, [.ref a_o1_roads, .int o1_homes])), (a_o1_roads, .inl (cI, 12, .inl o1_roads))]) (ws' := [(a_t, .inr (0, [.ref a_t_caught, .ref a_t_trapped])), (a_t_caught, .inl (cI, 12, .inl x4.2.1)), (a_t_trapped, .inl (cI, 12, .inl x4.2.2)), (a_o1, .inr (2, [.ref a_o1_roads, .int o1_homes])), (a_o1_roads, .inl (cI, 12, .inl o1_roads))]) ⟨hx, hb, hml, hown, hts⟩ ⟨hcw37, hst37, trivial⟩ hK hN hP hD hS hA (c_X9_holds l D cI cJ cZ cO _ (x4.2.2 l34v6.toNatClampNeg) p3 x59 hx59) [] [0, 1, 2, 3, 4] [0, 1, 2, 3, 4] rfl rfl rfl rfl (by decide) rfl rfl rfl hl.1 rfl (Nat.le_of_ble_eq_true rfl) dX0_kingsStep_59 ⟨Nat.zero_le _, Nat.zero_le _⟩ (fun H locs hP hD hS => ?_)
              refine lv_if_eq (tgt := 68) hx hb dX0_kingsStep_62 (by decide) (fun hc => ?_) (fun hc => ?_)
              · replace hf := (if_pos hc).symm.trans hf
                refine lv_iinc (v := l34v6 + 1) (lv' := [(6, .int (l34v6 + 1)), (0, .ref a_t), (3, .int p3), (5, .int x26)]) hx hb dX0_kingsStep_68 hl (k := 3) rfl rfl (by decide) rfl (fun ls hl => ?_)
                refine lv_goto (tgt := 34) hx hb dX0_kingsStep_71 (by decide) ?_
                exact ih34 (l34v6 + 1) _ _ _ hP hD hS (lv_sub hl [1, 2, 3, 0] rfl) hf
              · replace hf := (if_neg hc).symm.trans hf
                refine lv_iload hx hb dX0_kingsStep_65 (lv_at hl 3 rfl) ?_
                obtain rfl := Option.some.inj hf
                exact fin _ _ _ _ dX0_kingsStep_67 hP hD hS
      exact hL34 5000 (0 : Int32) _ _ _ hP hD hS (lv_sub hl [3, 6, 1, 0] rfl) hf
    · replace hf := (if_pos hc).symm.trans hf
      refine lv_bipush (v := -6) hx hb dX0_kingsStep_21 (by decide) ?_
      obtain rfl := Option.some.inj hf
      exact fin _ _ _ _ dX0_kingsStep_23 hP hD hS
abbrev rm_X9_leastOf : Room := { frames := 1, cells := 0, slots := 0, locals := 21 }
set_option maxHeartbeats 4000000 in
set_option maxRecDepth 100000 in
theorem c_X9_leastOf (l : Launch) (D : va_G) (cI cJ cZ cO : ClassId) (sz : Nat) (p0 : Int32) (res : Int32) (hf : f_X9_leastOf p0 = some res) : MetI l yX9_leastOf wsX9_leastOf rm_X9_leastOf [.int p0] D (tys4 cI cJ cZ cO) [] sz res [] := by
  refine met_i (cc := cX9_leastOf) (maxL := 2) (by decide) rfl (Nat.le_of_ble_eq_true rfl) ?_
  intro p e s m args below meth c Q A hx hb hml hown hts hK hN hA fin H locs ls hP hD hS hl
  replace hown : s.vm.findClass RX9 = some m.cls := hown
  replace hl : lv_has ls 2 [(0, .int p0)] := hl
  rw [f_X9_leastOf] at hf
  have hcw248 := va_cwS (R := rm_X9_leastOf) (rm := rm_X9_holds) 2 hts gX9_leastOf_X9_holds rfl rfl rfl (by decide +kernel) ⟨Nat.le_of_ble_eq_true rfl, Nat.le_of_ble_eq_true rfl⟩
  refine lv_iconst (v := 0) hx hb dX9_leastOf_0 (by decide) ?_
  refine lv_istore_n (lv' := [(1, .int (0 : Int32)), (0, .int p0)]) hx hb dX9_leastOf_1 rfl hl (by decide) rfl (fun ls hl => ?_)
  have hX2 : ∀ (H : Heap) (locs : List Loc) (ls : Array Slot), va_P D vwCl [] H → va_D A [] → va_S A s.heap H locs → lv_has ls 2 [] → f_X9_leastOf_X2 = some res → W p l e rm_X9_leastOf s m args below meth c H locs 0 0 Q (F0 m 24 ls []) := by
    intro  H locs ls hP hD hS hl hf
    rw [f_X9_leastOf_X2] at hf
    refine lv_bipush (v := -6) hx hb dX9_leastOf_24 (by decide) ?_
    obtain rfl := Option.some.inj hf
    exact fin _ _ _ _ dX9_leastOf_26 hP hD hS
  have hL2 : ∀ (n2 : Nat), ∀ (l2v1 : Int32) (H : Heap) (locs : List Loc) (ls : Array Slot), va_P D vwCl [] H → va_D A [] → va_S A s.heap H locs → lv_has ls 2 [(0, .int p0), (1, .int l2v1)] → f_X9_leastOf_L2 p0 f_X9_leastOf_X2 n2 l2v1 = some res → W p l e rm_X9_leastOf s m args below meth c H locs 0 0 Q (F0 m 2 ls []) := by
    intro n2
    induction n2 with
    | zero =>
      intro l2v1 H locs ls hP hD hS hl hf
      rw [f_X9_leastOf_L2] at hf
      cases hf
    | succ n2 ih2 =>
      intro l2v1 H locs ls hP hD hS hl hf
      rw [f_X9_leastOf_L2] at hf
      refine lv_iload_n hx hb dX9_leastOf_2 rfl (lv_at hl 1 rfl) ?_
      refine lv_bipush (v := 12) hx hb dX9_leastOf_3 (by decide) ?_
      refine lv_icmp_ge (tgt := 24) hx hb dX9_leastOf_5 (by decide) (fun hc => ?_) (fun hc => ?_)
      · replace hf := (if_pos hc).symm.trans hf
        exact hX2 _ _ _ hP hD hS (lv_sub hl [] rfl) hf
      · replace hf := (if_neg hc).symm.trans hf
        refine lv_iload_n hx hb dX9_leastOf_8 rfl (lv_at hl 0 rfl) ?_
        refine lv_iload_n hx hb dX9_leastOf_9 rfl (lv_at hl 1 rfl) ?_
        obtain ⟨x10, hx10, hf⟩ := bd_if hf
        refine cs_i (wr := []) (ws' := []) ⟨hx, hb, hml, hown, hts⟩ hcw248 hK hN hP hD hS hA (c_X9_holds l D cI cJ cZ cO _ p0 l2v1 x10 hx10) [] [] [] rfl rfl rfl rfl (by decide) rfl rfl rfl hl.1 rfl (Nat.le_of_ble_eq_true rfl) dX9_leastOf_10 ⟨Nat.zero_le _, Nat.zero_le _⟩ (fun H locs hP hD hS => ?_)
        refine lv_if_eq (tgt := 18) hx hb dX9_leastOf_13 (by decide) (fun hc => ?_) (fun hc => ?_)
        · replace hf := (if_pos hc).symm.trans hf
          refine lv_iinc (v := l2v1 + 1) (lv' := [(1, .int (l2v1 + 1)), (0, .int p0)]) hx hb dX9_leastOf_18 hl (k := 1) rfl rfl (by decide) rfl (fun ls hl => ?_)
          refine lv_goto (tgt := 2) hx hb dX9_leastOf_21 (by decide) ?_
          exact ih2 (l2v1 + 1) _ _ _ hP hD hS (lv_sub hl [1, 0] rfl) hf
        · replace hf := (if_neg hc).symm.trans hf
          refine lv_iload_n hx hb dX9_leastOf_16 rfl (lv_at hl 1 rfl) ?_
          obtain rfl := Option.some.inj hf
          exact fin _ _ _ _ dX9_leastOf_17 hP hD hS
  exact hL2 5000 (0 : Int32) _ _ _ hP hD hS (lv_sub hl [1, 0] rfl) hf
abbrev rm_X0_othersStep : Room := { frames := 4, cells := 0, slots := 0, locals := 91 }
set_option maxHeartbeats 4000000 in
set_option maxRecDepth 100000 in
theorem c_X0_othersStep (l : Launch) (D : va_G) (cI cJ cZ cO : ClassId) (sz : Nat) (a_t : Nat) (a_t_caught : Nat) (a_t_trapped : Nat) (a_o1 : Nat) (a_o1_roads : Nat) (t_caught : Nat → Int32) (t_trapped : Nat → Int32) (o1_homes : Int32) (o1_roads : Nat → Int32) (p2 : Int32) (p3 : Int32) (res : Int32 × (Nat → Int32) × (Nat → Int32)) (hf : f_X0_othersStep t_caught t_trapped o1_homes o1_roads p2 p3 = some res) : MetI l yX0_othersStep wsX0_othersStep rm_X0_othersStep [.ref a_t, .ref a_o1, .int p2, .int p3] D (tys4 cI cJ cZ cO) [(a_t, .inr (0, [.ref a_t_caught, .ref a_t_trapped])), (a_t_caught, .inl (cI, 12, .inl t_caught)), (a_t_trapped, .inl (cI, 12, .inl t_trapped)), (a_o1, .inr (2, [.ref a_o1_roads, .int o1_homes])), (a_o1_roads, .inl (cI, 12, .inl o1_roads))] sz res.1 [(a_t, .inr (0, [.ref a_t_caught, .ref a_t_trapped])), (a_t_caught, .inl (cI, 12, .inl res.2.1)), (a_t_trapped, .inl (cI, 12, .inl res.2.2)), (a_o1, .inr (2, [.ref a_o1_roads, .int o1_homes])), (a_o1_roads, .inl (cI, 12, .inl o1_roads))] := by
  refine met_i (cc := cX0_othersStep) (maxL := 8) (by decide) rfl (Nat.le_of_ble_eq_true rfl) ?_
  intro p e s m args below meth c Q A hx hb hml hown hts hK hN hA fin H locs ls hP hD hS hl
  replace hown : s.vm.findClass RX0 = some m.cls := hown
  replace hl : lv_has ls 8 [(0, .ref a_t), (1, .ref a_o1), (2, .int p2), (3, .int p3)] := hl
  rw [f_X0_othersStep] at hf
  have hcw45 := cwV (R := rm_X0_othersStep) (rm := rm_X0_begin) 1 hts gX0_othersStep_X0_begin rfl rfl rfl (by decide +kernel) ⟨Nat.le_of_ble_eq_true rfl, Nat.le_of_ble_eq_true rfl⟩
  have hcw34 := cwV (R := rm_X0_othersStep) (rm := rm_X0_caughtBy) 1 hts gX0_othersStep_X0_caughtBy rfl rfl rfl (by decide +kernel) ⟨Nat.le_of_ble_eq_true rfl, Nat.le_of_ble_eq_true rfl⟩
  have hiniX9 := hts (.initialized RX9) (by decide +kernel)
  have hcw37 := va_cnB (R := rm_X0_othersStep) (rm := rm_X9_holds) 2 hts gX0_othersStep_X9_holds_n37 rfl rfl rfl (hN.1 (.methodLinkNest RX0 37 yX9_holds RX9) (by decide +kernel)) hiniX9 (by decide +kernel) ⟨Nat.le_of_ble_eq_true rfl, Nat.le_of_ble_eq_true rfl⟩
  have hst37 := hts (.static yX9_holds) (by decide +kernel)
  have hcw28 := cwV (R := rm_X0_othersStep) (rm := rm_X2_movesFrom) 1 hts gX0_othersStep_X2_movesFrom rfl rfl rfl (by decide +kernel) ⟨Nat.le_of_ble_eq_true rfl, Nat.le_of_ble_eq_true rfl⟩
  have hcw57 := va_cnB (R := rm_X0_othersStep) (rm := rm_X9_leastOf) 1 hts gX0_othersStep_X9_leastOf_n57 rfl rfl rfl (hN.1 (.methodLinkNest RX0 57 yX9_leastOf RX9) (by decide +kernel)) hiniX9 (by decide +kernel) ⟨Nat.le_of_ble_eq_true rfl, Nat.le_of_ble_eq_true rfl⟩
  have hst57 := hts (.static yX9_leastOf) (by decide +kernel)
  have hcw49 := cwV (R := rm_X0_othersStep) (rm := rm_X0_advance) 1 hts gX0_othersStep_X0_advance rfl rfl rfl (by decide +kernel) ⟨Nat.le_of_ble_eq_true rfl, Nat.le_of_ble_eq_true rfl⟩
  refine lv_aload_n hx hb dX0_othersStep_0 rfl (lv_at hl 0 rfl) ?_
  refine lv_aload_n hx hb dX0_othersStep_1 rfl (lv_at hl 1 rfl) ?_
  obtain ⟨x2, hx2, hf⟩ := bd_if hf
  refine cv_v (wr := [(a_t_trapped, .inl (cI, 12, .inl t_trapped)), (a_o1_roads, .inl (cI, 12, .inl o1_roads))]) (ws' := [(a_t, .inr (0, [.ref a_t_caught, .ref a_t_trapped])), (a_t_caught, .inl (cI, 12, .inl x2)), (a_t_trapped, .inl (cI, 12, .inl t_trapped)), (a_o1, .inr (2, [.ref a_o1_roads, .int o1_homes])), (a_o1_roads, .inl (cI, 12, .inl o1_roads))]) ⟨hx, hb, hml, hown, hts⟩ hcw45 hK hN hP hD hS hA (c_X0_begin l D cI cJ cZ cO _ a_t a_t_caught a_t_trapped a_o1 a_o1_roads t_caught o1_homes x2 hx2) (q := (RX0, TX0, 2)) (ci := 0) (q0 := 0) rfl rfl [0, 1, 3] [2, 4] [2, 3, 0, 4, 1] rfl rfl rfl rfl (by decide) rfl rfl rfl hl.1 rfl (Nat.le_of_ble_eq_true rfl) dX0_othersStep_2 ⟨Nat.zero_le _, Nat.zero_le _⟩ (fun H locs hP hD hS => ?_)
  refine lv_aload_n hx hb dX0_othersStep_5 rfl (lv_at hl 0 rfl) ?_
  refine lv_iload_n hx hb dX0_othersStep_6 rfl (lv_at hl 2 rfl) ?_
  obtain ⟨x7, hx7, hf⟩ := bd_if hf
  refine cv_i (wr := [(a_t_trapped, .inl (cI, 12, .inl t_trapped)), (a_o1, .inr (2, [.ref a_o1_roads, .int o1_homes])), (a_o1_roads, .inl (cI, 12, .inl o1_roads))]) (ws' := [(a_t, .inr (0, [.ref a_t_caught, .ref a_t_trapped])), (a_t_caught, .inl (cI, 12, .inl x2)), (a_t_trapped, .inl (cI, 12, .inl t_trapped)), (a_o1, .inr (2, [.ref a_o1_roads, .int o1_homes])), (a_o1_roads, .inl (cI, 12, .inl o1_roads))]) ⟨hx, hb, hml, hown, hts⟩ hcw34 hK hN hP hD hS hA (c_X0_caughtBy l D cI cJ cZ cO _ a_t a_t_caught a_t_trapped x2 p2 x7 hx7) (q := (RX0, TX0, 2)) (ci := 0) (q0 := 0) rfl rfl [0, 1] [2, 3, 4] [3, 4, 0, 1, 2] rfl rfl rfl rfl (by decide) rfl rfl rfl hl.1 rfl (Nat.le_of_ble_eq_true rfl) dX0_othersStep_7 ⟨Nat.zero_le _, Nat.zero_le _⟩ (fun H locs hP hD hS => ?_)
  refine lv_iload_n hx hb dX0_othersStep_10 rfl (lv_at hl 3 rfl) ?_
  obtain ⟨x11, hx11, hf⟩ := bd_if hf
  refine cn_i (wr := [(a_t, .inr (0, [.ref a_t_caught, .ref a_t_trapped])), (a_t_caught, .inl (cI, 12, .inl x2)), (a_t_trapped, .inl (cI, 12, .inl t_trapped)), (a_o1, .inr (2, [.ref a_o1_roads, .int o1_homes])), (a_o1_roads, .inl (cI, 12, .inl o1_roads))]) (ws' := [(a_t, .inr (0, [.ref a_t_caught, .ref a_t_trapped])), (a_t_caught, .inl (cI, 12, .inl x2)), (a_t_trapped, .inl (cI, 12, .inl t_trapped)), (a_o1, .inr (2, [.ref a_o1_roads, .int o1_homes])), (a_o1_roads, .inl (cI, 12, .inl o1_roads))]) ⟨hx, hb, hml, hown, hts⟩ ⟨hcw37, hst37, trivial⟩ hK hN hP hD hS hA (c_X9_holds l D cI cJ cZ cO _ x7 p3 x11 hx11) [] [0, 1, 2, 3, 4] [0, 1, 2, 3, 4] rfl rfl rfl rfl (by decide) rfl rfl rfl hl.1 rfl (Nat.le_of_ble_eq_true rfl) dX0_othersStep_11 ⟨Nat.zero_le _, Nat.zero_le _⟩ (fun H locs hP hD hS => ?_)
  refine lv_if_eq (tgt := 20) hx hb dX0_othersStep_14 (by decide) (fun hc => ?_) (fun hc => ?_)
  · replace hf := (if_pos hc).symm.trans hf
    refine lv_aload_n hx hb dX0_othersStep_20 rfl (lv_at hl 1 rfl) ?_
    refine lv_iload_n hx hb dX0_othersStep_21 rfl (lv_at hl 3 rfl) ?_
    obtain ⟨x22, hx22, hf⟩ := bd_if hf
    refine cv_i (wr := [(a_t, .inr (0, [.ref a_t_caught, .ref a_t_trapped])), (a_t_caught, .inl (cI, 12, .inl x2)), (a_t_trapped, .inl (cI, 12, .inl t_trapped))]) (ws' := [(a_t, .inr (0, [.ref a_t_caught, .ref a_t_trapped])), (a_t_caught, .inl (cI, 12, .inl x2)), (a_t_trapped, .inl (cI, 12, .inl t_trapped)), (a_o1, .inr (2, [.ref a_o1_roads, .int o1_homes])), (a_o1_roads, .inl (cI, 12, .inl o1_roads))]) ⟨hx, hb, hml, hown, hts⟩ hcw28 hK hN hP hD hS hA (c_X2_movesFrom l D cI cJ cZ cO _ a_o1 a_o1_roads o1_homes o1_roads p3 x22 hx22) (q := (RX2, TX2, 2)) (ci := 2) (q0 := 3) rfl rfl [3, 4] [0, 1, 2] [0, 1, 2, 3, 4] rfl rfl rfl rfl (by decide) rfl rfl rfl hl.1 rfl (Nat.le_of_ble_eq_true rfl) dX0_othersStep_22 ⟨Nat.zero_le _, Nat.zero_le _⟩ (fun H locs hP hD hS => ?_)
    refine lv_istore (lv' := [(4, .int x22), (0, .ref a_t), (1, .ref a_o1), (2, .int p2), (3, .int p3)]) hx hb dX0_othersStep_25 hl (by decide) rfl (fun ls hl => ?_)
    refine lv_iconst (v := 1) hx hb dX0_othersStep_27 (by decide) ?_
    refine lv_istore (lv' := [(5, .int (1 : Int32)), (4, .int x22), (0, .ref a_t), (1, .ref a_o1), (2, .int p2), (3, .int p3)]) hx hb dX0_othersStep_28 hl (by decide) rfl (fun ls hl => ?_)
    refine lv_iconst (v := 0) hx hb dX0_othersStep_30 (by decide) ?_
    refine lv_istore (lv' := [(6, .int (0 : Int32)), (5, .int (1 : Int32)), (4, .int x22), (0, .ref a_t), (1, .ref a_o1), (2, .int p2), (3, .int p3)]) hx hb dX0_othersStep_31 hl (by decide) rfl (fun ls hl => ?_)
    have hX33 : ∀ (x33v4 : Int32) (x33t_caught : Nat → Int32) (x33t_trapped : Nat → Int32) (H : Heap) (locs : List Loc) (ls : Array Slot), va_P D vwCl [(a_t, .inr (0, [.ref a_t_caught, .ref a_t_trapped])), (a_t_caught, .inl (cI, 12, .inl x33t_caught)), (a_t_trapped, .inl (cI, 12, .inl x33t_trapped)), (a_o1, .inr (2, [.ref a_o1_roads, .int o1_homes])), (a_o1_roads, .inl (cI, 12, .inl o1_roads))] H → va_D A [(a_t, .inr (0, [.ref a_t_caught, .ref a_t_trapped])), (a_t_caught, .inl (cI, 12, .inl x33t_caught)), (a_t_trapped, .inl (cI, 12, .inl x33t_trapped)), (a_o1, .inr (2, [.ref a_o1_roads, .int o1_homes])), (a_o1_roads, .inl (cI, 12, .inl o1_roads))] → va_S A s.heap H locs → lv_has ls 8 [(4, .int x33v4)] → f_X0_othersStep_X33 x33v4 x33t_caught x33t_trapped = some res → W p l e rm_X0_othersStep s m args below meth c H locs 0 0 Q (F0 m 86 ls []) := by
      intro x33v4 x33t_caught x33t_trapped H locs ls hP hD hS hl hf
      rw [f_X0_othersStep_X33] at hf
      refine lv_iload hx hb dX0_othersStep_86 (lv_at hl 0 rfl) ?_
      obtain ⟨x88, hx88, hf⟩ := bd_if hf
      refine cn_i (wr := [(a_t, .inr (0, [.ref a_t_caught, .ref a_t_trapped])), (a_t_caught, .inl (cI, 12, .inl x33t_caught)), (a_t_trapped, .inl (cI, 12, .inl x33t_trapped)), (a_o1, .inr (2, [.ref a_o1_roads, .int o1_homes])), (a_o1_roads, .inl (cI, 12, .inl o1_roads))]) (ws' := [(a_t, .inr (0, [.ref a_t_caught, .ref a_t_trapped])), (a_t_caught, .inl (cI, 12, .inl x33t_caught)), (a_t_trapped, .inl (cI, 12, .inl x33t_trapped)), (a_o1, .inr (2, [.ref a_o1_roads, .int o1_homes])), (a_o1_roads, .inl (cI, 12, .inl o1_roads))]) ⟨hx, hb, hml, hown, hts⟩ ⟨hcw57, hst57, trivial⟩ hK hN hP hD hS hA (c_X9_leastOf l D cI cJ cZ cO _ x33v4 x88 hx88) [] [0, 1, 2, 3, 4] [0, 1, 2, 3, 4] rfl rfl rfl rfl (by decide) rfl rfl rfl hl.1 rfl (Nat.le_of_ble_eq_true rfl) dX0_othersStep_88 ⟨Nat.zero_le _, Nat.zero_le _⟩ (fun H locs hP hD hS => ?_)
      obtain rfl := Option.some.inj hf
      exact fin _ _ _ _ dX0_othersStep_91 hP hD hS
    have hL33 : ∀ (n33 : Nat), ∀ (l33v4 : Int32) (l33v5 : Int32) (l33v6 : Int32) (l33t_caught : Nat → Int32) (l33t_trapped : Nat → Int32) (H : Heap) (locs : List Loc) (ls : Array Slot), va_P D vwCl [(a_t, .inr (0, [.ref a_t_caught, .ref a_t_trapped])), (a_t_caught, .inl (cI, 12, .inl l33t_caught)), (a_t_trapped, .inl (cI, 12, .inl l33t_trapped)), (a_o1, .inr (2, [.ref a_o1_roads, .int o1_homes])), (a_o1_roads, .inl (cI, 12, .inl o1_roads))] H → va_D A [(a_t, .inr (0, [.ref a_t_caught, .ref a_t_trapped])), (a_t_caught, .inl (cI, 12, .inl l33t_caught)), (a_t_trapped, .inl (cI, 12, .inl l33t_trapped)), (a_o1, .inr (2, [.ref a_o1_roads, .int o1_homes])), (a_o1_roads, .inl (cI, 12, .inl o1_roads))] → va_S A s.heap H locs → lv_has ls 8 [(0, .ref a_t), (1, .ref a_o1), (2, .int p2), (4, .int l33v4), (5, .int l33v5), (6, .int l33v6)] → f_X0_othersStep_L33 o1_homes o1_roads p2 f_X0_othersStep_X33 n33 l33v4 l33v5 l33v6 l33t_caught l33t_trapped = some res → W p l e rm_X0_othersStep s m args below meth c H locs 0 0 Q (F0 m 33 ls []) := by
      intro n33
      induction n33 with
      | zero =>
        intro l33v4 l33v5 l33v6 l33t_caught l33t_trapped H locs ls hP hD hS hl hf
        rw [f_X0_othersStep_L33] at hf
        cases hf
      | succ n33 ih33 =>
        intro l33v4 l33v5 l33v6 l33t_caught l33t_trapped H locs ls hP hD hS hl hf
        rw [f_X0_othersStep_L33] at hf
        refine lv_iload hx hb dX0_othersStep_33 (lv_at hl 5 rfl) ?_
        refine lv_sipush (v := 144) hx hb dX0_othersStep_35 (by decide) ?_
        refine lv_icmp_gt (tgt := 86) hx hb dX0_othersStep_38 (by decide) (fun hc => ?_) (fun hc => ?_)
        · replace hf := (if_pos hc).symm.trans hf
          exact hX33 l33v4 l33t_caught l33t_trapped _ _ _ hP hD hS (lv_sub hl [3] rfl) hf
        · replace hf := (if_neg hc).symm.trans hf
          refine lv_iload hx hb dX0_othersStep_41 (lv_at hl 4 rfl) ?_
          refine lv_if_eq (tgt := 86) hx hb dX0_othersStep_43 (by decide) (fun hc => ?_) (fun hc => ?_)
          · replace hf := (if_pos hc).symm.trans hf
            exact hX33 l33v4 l33t_caught l33t_trapped _ _ _ hP hD hS (lv_sub hl [3] rfl) hf
          · replace hf := (if_neg hc).symm.trans hf
            refine lv_iload hx hb dX0_othersStep_46 (lv_at hl 3 rfl) ?_
            refine lv_aload_n hx hb dX0_othersStep_48 rfl (lv_at hl 0 rfl) ?_
            refine lv_iload_n hx hb dX0_othersStep_49 rfl (lv_at hl 2 rfl) ?_
            obtain ⟨x50, hx50, hf⟩ := bd_if hf
            refine cv_i (wr := [(a_t_trapped, .inl (cI, 12, .inl l33t_trapped)), (a_o1, .inr (2, [.ref a_o1_roads, .int o1_homes])), (a_o1_roads, .inl (cI, 12, .inl o1_roads))]) (ws' := [(a_t, .inr (0, [.ref a_t_caught, .ref a_t_trapped])), (a_t_caught, .inl (cI, 12, .inl l33t_caught)), (a_t_trapped, .inl (cI, 12, .inl l33t_trapped)), (a_o1, .inr (2, [.ref a_o1_roads, .int o1_homes])), (a_o1_roads, .inl (cI, 12, .inl o1_roads))]) ⟨hx, hb, hml, hown, hts⟩ hcw34 hK hN hP hD hS hA (c_X0_caughtBy l D cI cJ cZ cO _ a_t a_t_caught a_t_trapped l33t_caught p2 x50 hx50) (q := (RX0, TX0, 2)) (ci := 0) (q0 := 0) rfl rfl [0, 1] [2, 3, 4] [3, 4, 0, 1, 2] rfl rfl rfl rfl (by decide) rfl rfl rfl hl.1 rfl (Nat.le_of_ble_eq_true rfl) dX0_othersStep_50 ⟨Nat.zero_le _, Nat.zero_le _⟩ (fun H locs hP hD hS => ?_)
            refine lv_iconst (v := -1) hx hb dX0_othersStep_53 (by decide) ?_
            refine lv_ixor hx hb dX0_othersStep_54 ?_
            refine lv_iand hx hb dX0_othersStep_55 ?_
            refine lv_istore (lv' := [(7, .int (l33v4 &&& (x50 ^^^ (-1 : Int32)))), (0, .ref a_t), (1, .ref a_o1), (2, .int p2), (4, .int l33v4), (5, .int l33v5), (6, .int l33v6)]) hx hb dX0_othersStep_56 hl (by decide) rfl (fun ls hl => ?_)
            refine lv_iload hx hb dX0_othersStep_58 (lv_at hl 0 rfl) ?_
            refine lv_if_ne (tgt := 69) hx hb dX0_othersStep_60 (by decide) (fun hc => ?_) (fun hc => ?_)
            · replace hf := (if_neg hc).symm.trans hf
              refine lv_iload hx hb dX0_othersStep_69 (lv_at hl 0 rfl) ?_
              refine lv_istore (lv' := [(4, .int (l33v4 &&& (x50 ^^^ (-1 : Int32)))), (7, .int (l33v4 &&& (x50 ^^^ (-1 : Int32)))), (0, .ref a_t), (1, .ref a_o1), (2, .int p2), (5, .int l33v5), (6, .int l33v6)]) hx hb dX0_othersStep_71 hl (by decide) rfl (fun ls hl => ?_)
              refine lv_aload_n hx hb dX0_othersStep_73 rfl (lv_at hl 2 rfl) ?_
              refine lv_aload_n hx hb dX0_othersStep_74 rfl (lv_at hl 3 rfl) ?_
              obtain ⟨x75, hx75, hf⟩ := bd_if hf
              refine cv_i (wr := []) (ws' := [(a_t, .inr (0, [.ref a_t_caught, .ref a_t_trapped])), (a_t_caught, .inl (cI, 12, .inl x75.2.1)), (a_t_trapped, .inl (cI, 12, .inl x75.2.2)), (a_o1, .inr (2, [.ref a_o1_roads, .int o1_homes])), (a_o1_roads, .inl (cI, 12, .inl o1_roads))]) ⟨hx, hb, hml, hown, hts⟩ hcw49 hK hN hP hD hS hA (c_X0_advance l D cI cJ cZ cO _ a_t a_t_caught a_t_trapped a_o1 a_o1_roads l33t_caught l33t_trapped o1_homes o1_roads x75 hx75) (q := (RX0, TX0, 2)) (ci := 0) (q0 := 0) rfl rfl [0, 1, 2, 3, 4] [] [0, 1, 2, 3, 4] rfl rfl rfl rfl (by decide) rfl rfl rfl hl.1 rfl (Nat.le_of_ble_eq_true rfl) dX0_othersStep_75 ⟨Nat.zero_le _, Nat.zero_le _⟩ (fun H locs hP hD hS => ?_)
              refine lv_istore (lv' := [(5, .int x75.1), (4, .int (l33v4 &&& (x50 ^^^ (-1 : Int32)))), (7, .int (l33v4 &&& (x50 ^^^ (-1 : Int32)))), (0, .ref a_t), (1, .ref a_o1), (2, .int p2), (6, .int l33v6)]) hx hb dX0_othersStep_78 hl (by decide) rfl (fun ls hl => ?_)
              refine lv_iinc (v := l33v6 + 1) (lv' := [(6, .int (l33v6 + 1)), (5, .int x75.1), (4, .int (l33v4 &&& (x50 ^^^ (-1 : Int32)))), (7, .int (l33v4 &&& (x50 ^^^ (-1 : Int32)))), (0, .ref a_t), (1, .ref a_o1), (2, .int p2)]) hx hb dX0_othersStep_80 hl (k := 6) rfl rfl (by decide) rfl (fun ls hl => ?_)
              refine lv_goto (tgt := 33) hx hb dX0_othersStep_83 (by decide) ?_
              exact ih33 (l33v4 &&& (x50 ^^^ (-1 : Int32))) x75.1 (l33v6 + 1) x75.2.1 x75.2.2 _ _ _ hP hD hS (lv_sub hl [4, 5, 6, 2, 1, 0] rfl) hf
            · replace hf := (if_pos hc).symm.trans hf
              refine lv_iload hx hb dX0_othersStep_63 (lv_at hl 4 rfl) ?_
              obtain ⟨x65, hx65, hf⟩ := bd_if hf
              refine cn_i (wr := [(a_t, .inr (0, [.ref a_t_caught, .ref a_t_trapped])), (a_t_caught, .inl (cI, 12, .inl l33t_caught)), (a_t_trapped, .inl (cI, 12, .inl l33t_trapped)), (a_o1, .inr (2, [.ref a_o1_roads, .int o1_homes])), (a_o1_roads, .inl (cI, 12, .inl o1_roads))]) (ws' := [(a_t, .inr (0, [.ref a_t_caught, .ref a_t_trapped])), (a_t_caught, .inl (cI, 12, .inl l33t_caught)), (a_t_trapped, .inl (cI, 12, .inl l33t_trapped)), (a_o1, .inr (2, [.ref a_o1_roads, .int o1_homes])), (a_o1_roads, .inl (cI, 12, .inl o1_roads))]) ⟨hx, hb, hml, hown, hts⟩ ⟨hcw57, hst57, trivial⟩ hK hN hP hD hS hA (c_X9_leastOf l D cI cJ cZ cO _ l33v4 x65 hx65) [] [0, 1, 2, 3, 4] [0, 1, 2, 3, 4] rfl rfl rfl rfl (by decide) rfl rfl rfl hl.1 rfl (Nat.le_of_ble_eq_true rfl) dX0_othersStep_65 ⟨Nat.zero_le _, Nat.zero_le _⟩ (fun H locs hP hD hS => ?_)
              obtain rfl := Option.some.inj hf
              exact fin _ _ _ _ dX0_othersStep_68 hP hD hS
    exact hL33 5000 x22 (1 : Int32) (0 : Int32) x2 t_trapped _ _ _ hP hD hS (lv_sub hl [3, 4, 5, 2, 1, 0] rfl) hf
  · replace hf := (if_neg hc).symm.trans hf
    refine lv_bipush (v := -6) hx hb dX0_othersStep_17 (by decide) ?_
    obtain rfl := Option.some.inj hf
    exact fin _ _ _ _ dX0_othersStep_19 hP hD hS
abbrev rm_X1_copy : Room := { frames := 1, cells := 0, slots := 0, locals := 60 }
theorem ms_X1_copy_X1 : ∀ w ∈ u_ws RX1 TX1 8, w ∈ wsX1_copy := fun w h => List.mem_cons_of_mem _ (List.mem_append_right _ (h))
set_option maxHeartbeats 4000000 in
set_option maxRecDepth 100000 in
theorem c_X1_copy (l : Launch) (D : va_G) (cI cJ cZ cO : ClassId) (sz : Nat) (a_t : Nat) (a_t_places : Nat) (a_t_breaths : Nat) (a_t_reigns : Nat) (a_o1 : Nat) (a_o1_places : Nat) (a_o1_breaths : Nat) (a_o1_reigns : Nat) (t_here : Int32) (t_crossed : Int32) (t_king : Int32) (t_last : Int32) (t_minute : Int32) (t_places : Nat → Int32) (t_breaths : Nat → Int32) (t_reigns : Nat → Int32) (o1_here : Int32) (o1_crossed : Int32) (o1_king : Int32) (o1_last : Int32) (o1_minute : Int32) (o1_places : Nat → Int32) (o1_breaths : Nat → Int32) (o1_reigns : Nat → Int32) (res : Int32 × Int32 × Int32 × Int32 × Int32 × (Nat → Int32) × (Nat → Int32) × (Nat → Int32)) (hf : f_X1_copy t_here t_crossed t_king t_last t_minute t_places t_breaths t_reigns o1_here o1_crossed o1_king o1_last o1_minute o1_places o1_breaths o1_reigns = some res) : MetV l yX1_copy wsX1_copy rm_X1_copy [.ref a_t, .ref a_o1] D (tys4 cI cJ cZ cO) [(a_t, .inr (1, [.ref a_t_places, .ref a_t_breaths, .ref a_t_reigns, .int t_here, .int t_crossed, .int t_king, .int t_last, .int t_minute])), (a_t_places, .inl (cI, 7, .inl t_places)), (a_t_breaths, .inl (cI, 7, .inl t_breaths)), (a_t_reigns, .inl (cI, 7, .inl t_reigns)), (a_o1, .inr (1, [.ref a_o1_places, .ref a_o1_breaths, .ref a_o1_reigns, .int o1_here, .int o1_crossed, .int o1_king, .int o1_last, .int o1_minute])), (a_o1_places, .inl (cI, 7, .inl o1_places)), (a_o1_breaths, .inl (cI, 7, .inl o1_breaths)), (a_o1_reigns, .inl (cI, 7, .inl o1_reigns))] sz [(a_t, .inr (1, [.ref a_t_places, .ref a_t_breaths, .ref a_t_reigns, .int res.1, .int res.2.1, .int res.2.2.1, .int res.2.2.2.1, .int res.2.2.2.2.1])), (a_t_places, .inl (cI, 7, .inl res.2.2.2.2.2.1)), (a_t_breaths, .inl (cI, 7, .inl res.2.2.2.2.2.2.1)), (a_t_reigns, .inl (cI, 7, .inl res.2.2.2.2.2.2.2)), (a_o1, .inr (1, [.ref a_o1_places, .ref a_o1_breaths, .ref a_o1_reigns, .int o1_here, .int o1_crossed, .int o1_king, .int o1_last, .int o1_minute])), (a_o1_places, .inl (cI, 7, .inl o1_places)), (a_o1_breaths, .inl (cI, 7, .inl o1_breaths)), (a_o1_reigns, .inl (cI, 7, .inl o1_reigns))] := by
  refine met_v (cc := cX1_copy) (maxL := 2) (by decide) rfl (Nat.le_of_ble_eq_true rfl) ?_
  intro p e s m args below meth c Q A hx hb hml hown hts hK hN hA fin H locs ls hP hD hS hl
  replace hown : s.vm.findClass RX1 = some m.cls := hown
  replace hl : lv_has ls 2 [(0, .ref a_t), (1, .ref a_o1)] := hl
  rw [f_X1_copy] at hf
  have hw9 := hts (.fieldLink RX1 9 "TouchReign$Court" "places" "[I") (by decide +kernel)
  have hmsX1 := ms_X1_copy_X1
  have hacl := hts (.methodLink RX1 37 arraycopyName) (by decide +kernel)
  have hacn := hts (.native arraycopyName) (by decide +kernel)
  have hacs := hts (.static arraycopyName) (by decide +kernel)
  have haci := hts (.initialized "java/lang/System") (by decide +kernel)
  have hw15 := hts (.fieldLink RX1 15 "TouchReign$Court" "breaths" "[I") (by decide +kernel)
  have hw18 := hts (.fieldLink RX1 18 "TouchReign$Court" "reigns" "[I") (by decide +kernel)
  have hw21 := hts (.fieldLink RX1 21 "TouchReign$Court" "here" "I") (by decide +kernel)
  have hw25 := hts (.fieldLink RX1 25 "TouchReign$Court" "crossed" "I") (by decide +kernel)
  have hw28 := hts (.fieldLink RX1 28 "TouchReign$Court" "king" "I") (by decide +kernel)
  have hw31 := hts (.fieldLink RX1 31 "TouchReign$Court" "last" "I") (by decide +kernel)
  have hw34 := hts (.fieldLink RX1 34 "TouchReign$Court" "minute" "I") (by decide +kernel)
  refine lv_aload_n hx hb dX1_copy_0 rfl (lv_at hl 1 rfl) ?_
  refine va_get (D := D) (ci := 1) (v := .ref a_o1_places) (C := RX1) (T := TX1) (N := 8) hx hb hts hmsX1 hown hK hP 4 rfl rfl 0 (by decide) hw9 (fun _ h9 => h9) rfl dX1_copy_1 ?_
  refine lv_iconst (v := 0) hx hb dX1_copy_4 (by decide) ?_
  refine lv_aload_n hx hb dX1_copy_5 rfl (lv_at hl 0 rfl) ?_
  refine va_get (D := D) (ci := 1) (v := .ref a_t_places) (C := RX1) (T := TX1) (N := 8) hx hb hts hmsX1 hown hK hP 0 rfl rfl 0 (by decide) hw9 (fun _ h9 => h9) rfl dX1_copy_6 ?_
  refine lv_iconst (v := 0) hx hb dX1_copy_9 (by decide) ?_
  refine lv_bipush (v := 7) hx hb dX1_copy_10 (by decide) ?_
  refine va_copyi (D := D) hx hb (hml.trans hl.1.symm) hown hacl hacn hacs haci hK hP hD hS 5 1 0 0 rfl rfl rfl rfl rfl (by decide) (by decide) (by decide) (by decide) (by decide) (fun _ _ => rfl) (Nat.le_of_ble_eq_true rfl) (Nat.le_of_ble_eq_true rfl) dX1_copy_12 (fun H locs hP hD hS => ?_)
  replace hP : va_P D vwCl [(a_t, .inr (1, [.ref a_t_places, .ref a_t_breaths, .ref a_t_reigns, .int t_here, .int t_crossed, .int t_king, .int t_last, .int t_minute])), (a_t_places, .inl (cI, 7, .inl (va_cpy o1_places t_places (0 : Int32).toNatClampNeg (0 : Int32).toNatClampNeg (7 : Int32).toNatClampNeg))), (a_t_breaths, .inl (cI, 7, .inl t_breaths)), (a_t_reigns, .inl (cI, 7, .inl t_reigns)), (a_o1, .inr (1, [.ref a_o1_places, .ref a_o1_breaths, .ref a_o1_reigns, .int o1_here, .int o1_crossed, .int o1_king, .int o1_last, .int o1_minute])), (a_o1_places, .inl (cI, 7, .inl o1_places)), (a_o1_breaths, .inl (cI, 7, .inl o1_breaths)), (a_o1_reigns, .inl (cI, 7, .inl o1_reigns))] H := hP
  replace hD : va_D A [(a_t, .inr (1, [.ref a_t_places, .ref a_t_breaths, .ref a_t_reigns, .int t_here, .int t_crossed, .int t_king, .int t_last, .int t_minute])), (a_t_places, .inl (cI, 7, .inl (va_cpy o1_places t_places (0 : Int32).toNatClampNeg (0 : Int32).toNatClampNeg (7 : Int32).toNatClampNeg))), (a_t_breaths, .inl (cI, 7, .inl t_breaths)), (a_t_reigns, .inl (cI, 7, .inl t_reigns)), (a_o1, .inr (1, [.ref a_o1_places, .ref a_o1_breaths, .ref a_o1_reigns, .int o1_here, .int o1_crossed, .int o1_king, .int o1_last, .int o1_minute])), (a_o1_places, .inl (cI, 7, .inl o1_places)), (a_o1_breaths, .inl (cI, 7, .inl o1_breaths)), (a_o1_reigns, .inl (cI, 7, .inl o1_reigns))] := hD
  refine lv_aload_n hx hb dX1_copy_15 rfl (lv_at hl 1 rfl) ?_
  refine va_get (D := D) (ci := 1) (v := .ref a_o1_breaths) (C := RX1) (T := TX1) (N := 8) hx hb hts hmsX1 hown hK hP 4 rfl rfl 1 (by decide) hw15 (fun _ h9 => h9) rfl dX1_copy_16 ?_
  refine lv_iconst (v := 0) hx hb dX1_copy_19 (by decide) ?_
  refine lv_aload_n hx hb dX1_copy_20 rfl (lv_at hl 0 rfl) ?_
  refine va_get (D := D) (ci := 1) (v := .ref a_t_breaths) (C := RX1) (T := TX1) (N := 8) hx hb hts hmsX1 hown hK hP 0 rfl rfl 1 (by decide) hw15 (fun _ h9 => h9) rfl dX1_copy_21 ?_
  refine lv_iconst (v := 0) hx hb dX1_copy_24 (by decide) ?_
  refine lv_bipush (v := 7) hx hb dX1_copy_25 (by decide) ?_
  refine va_copyi (D := D) hx hb (hml.trans hl.1.symm) hown hacl hacn hacs haci hK hP hD hS 6 2 0 0 rfl rfl rfl rfl rfl (by decide) (by decide) (by decide) (by decide) (by decide) (fun _ _ => rfl) (Nat.le_of_ble_eq_true rfl) (Nat.le_of_ble_eq_true rfl) dX1_copy_27 (fun H locs hP hD hS => ?_)
  replace hP : va_P D vwCl [(a_t, .inr (1, [.ref a_t_places, .ref a_t_breaths, .ref a_t_reigns, .int t_here, .int t_crossed, .int t_king, .int t_last, .int t_minute])), (a_t_places, .inl (cI, 7, .inl (va_cpy o1_places t_places (0 : Int32).toNatClampNeg (0 : Int32).toNatClampNeg (7 : Int32).toNatClampNeg))), (a_t_breaths, .inl (cI, 7, .inl (va_cpy o1_breaths t_breaths (0 : Int32).toNatClampNeg (0 : Int32).toNatClampNeg (7 : Int32).toNatClampNeg))), (a_t_reigns, .inl (cI, 7, .inl t_reigns)), (a_o1, .inr (1, [.ref a_o1_places, .ref a_o1_breaths, .ref a_o1_reigns, .int o1_here, .int o1_crossed, .int o1_king, .int o1_last, .int o1_minute])), (a_o1_places, .inl (cI, 7, .inl o1_places)), (a_o1_breaths, .inl (cI, 7, .inl o1_breaths)), (a_o1_reigns, .inl (cI, 7, .inl o1_reigns))] H := hP
  replace hD : va_D A [(a_t, .inr (1, [.ref a_t_places, .ref a_t_breaths, .ref a_t_reigns, .int t_here, .int t_crossed, .int t_king, .int t_last, .int t_minute])), (a_t_places, .inl (cI, 7, .inl (va_cpy o1_places t_places (0 : Int32).toNatClampNeg (0 : Int32).toNatClampNeg (7 : Int32).toNatClampNeg))), (a_t_breaths, .inl (cI, 7, .inl (va_cpy o1_breaths t_breaths (0 : Int32).toNatClampNeg (0 : Int32).toNatClampNeg (7 : Int32).toNatClampNeg))), (a_t_reigns, .inl (cI, 7, .inl t_reigns)), (a_o1, .inr (1, [.ref a_o1_places, .ref a_o1_breaths, .ref a_o1_reigns, .int o1_here, .int o1_crossed, .int o1_king, .int o1_last, .int o1_minute])), (a_o1_places, .inl (cI, 7, .inl o1_places)), (a_o1_breaths, .inl (cI, 7, .inl o1_breaths)), (a_o1_reigns, .inl (cI, 7, .inl o1_reigns))] := hD
  refine lv_aload_n hx hb dX1_copy_30 rfl (lv_at hl 1 rfl) ?_
  refine va_get (D := D) (ci := 1) (v := .ref a_o1_reigns) (C := RX1) (T := TX1) (N := 8) hx hb hts hmsX1 hown hK hP 4 rfl rfl 2 (by decide) hw18 (fun _ h9 => h9) rfl dX1_copy_31 ?_
  refine lv_iconst (v := 0) hx hb dX1_copy_34 (by decide) ?_
  refine lv_aload_n hx hb dX1_copy_35 rfl (lv_at hl 0 rfl) ?_
  refine va_get (D := D) (ci := 1) (v := .ref a_t_reigns) (C := RX1) (T := TX1) (N := 8) hx hb hts hmsX1 hown hK hP 0 rfl rfl 2 (by decide) hw18 (fun _ h9 => h9) rfl dX1_copy_36 ?_
  refine lv_iconst (v := 0) hx hb dX1_copy_39 (by decide) ?_
  refine lv_bipush (v := 7) hx hb dX1_copy_40 (by decide) ?_
  refine va_copyi (D := D) hx hb (hml.trans hl.1.symm) hown hacl hacn hacs haci hK hP hD hS 7 3 0 0 rfl rfl rfl rfl rfl (by decide) (by decide) (by decide) (by decide) (by decide) (fun _ _ => rfl) (Nat.le_of_ble_eq_true rfl) (Nat.le_of_ble_eq_true rfl) dX1_copy_42 (fun H locs hP hD hS => ?_)
  replace hP : va_P D vwCl [(a_t, .inr (1, [.ref a_t_places, .ref a_t_breaths, .ref a_t_reigns, .int t_here, .int t_crossed, .int t_king, .int t_last, .int t_minute])), (a_t_places, .inl (cI, 7, .inl (va_cpy o1_places t_places (0 : Int32).toNatClampNeg (0 : Int32).toNatClampNeg (7 : Int32).toNatClampNeg))), (a_t_breaths, .inl (cI, 7, .inl (va_cpy o1_breaths t_breaths (0 : Int32).toNatClampNeg (0 : Int32).toNatClampNeg (7 : Int32).toNatClampNeg))), (a_t_reigns, .inl (cI, 7, .inl (va_cpy o1_reigns t_reigns (0 : Int32).toNatClampNeg (0 : Int32).toNatClampNeg (7 : Int32).toNatClampNeg))), (a_o1, .inr (1, [.ref a_o1_places, .ref a_o1_breaths, .ref a_o1_reigns, .int o1_here, .int o1_crossed, .int o1_king, .int o1_last, .int o1_minute])), (a_o1_places, .inl (cI, 7, .inl o1_places)), (a_o1_breaths, .inl (cI, 7, .inl o1_breaths)), (a_o1_reigns, .inl (cI, 7, .inl o1_reigns))] H := hP
  replace hD : va_D A [(a_t, .inr (1, [.ref a_t_places, .ref a_t_breaths, .ref a_t_reigns, .int t_here, .int t_crossed, .int t_king, .int t_last, .int t_minute])), (a_t_places, .inl (cI, 7, .inl (va_cpy o1_places t_places (0 : Int32).toNatClampNeg (0 : Int32).toNatClampNeg (7 : Int32).toNatClampNeg))), (a_t_breaths, .inl (cI, 7, .inl (va_cpy o1_breaths t_breaths (0 : Int32).toNatClampNeg (0 : Int32).toNatClampNeg (7 : Int32).toNatClampNeg))), (a_t_reigns, .inl (cI, 7, .inl (va_cpy o1_reigns t_reigns (0 : Int32).toNatClampNeg (0 : Int32).toNatClampNeg (7 : Int32).toNatClampNeg))), (a_o1, .inr (1, [.ref a_o1_places, .ref a_o1_breaths, .ref a_o1_reigns, .int o1_here, .int o1_crossed, .int o1_king, .int o1_last, .int o1_minute])), (a_o1_places, .inl (cI, 7, .inl o1_places)), (a_o1_breaths, .inl (cI, 7, .inl o1_breaths)), (a_o1_reigns, .inl (cI, 7, .inl o1_reigns))] := hD
  refine lv_aload_n hx hb dX1_copy_45 rfl (lv_at hl 0 rfl) ?_
  refine lv_aload_n hx hb dX1_copy_46 rfl (lv_at hl 1 rfl) ?_
  refine va_get (D := D) (ci := 1) (v := .int o1_here) (C := RX1) (T := TX1) (N := 8) hx hb hts hmsX1 hown hK hP 4 rfl rfl 3 (by decide) hw21 (fun _ h9 => h9) rfl dX1_copy_47 ?_
  refine va_put (D := D) (ci := 1) (v := .int o1_here) (ty := .int) (C := RX1) (T := TX1) (N := 8) hx hb hts hmsX1 tyX1 tyX1_ok nmX1 hown hK hP hD hS 0 rfl rfl 3 (by decide) hw21 (fun _ h9 => h9) rfl (by decide +kernel) rfl rfl (Nat.le_of_ble_eq_true rfl) dX1_copy_50 (fun H locs hP hD hS => ?_)
  replace hP : va_P D vwCl [(a_t, .inr (1, [.ref a_t_places, .ref a_t_breaths, .ref a_t_reigns, .int o1_here, .int t_crossed, .int t_king, .int t_last, .int t_minute])), (a_t_places, .inl (cI, 7, .inl (va_cpy o1_places t_places (0 : Int32).toNatClampNeg (0 : Int32).toNatClampNeg (7 : Int32).toNatClampNeg))), (a_t_breaths, .inl (cI, 7, .inl (va_cpy o1_breaths t_breaths (0 : Int32).toNatClampNeg (0 : Int32).toNatClampNeg (7 : Int32).toNatClampNeg))), (a_t_reigns, .inl (cI, 7, .inl (va_cpy o1_reigns t_reigns (0 : Int32).toNatClampNeg (0 : Int32).toNatClampNeg (7 : Int32).toNatClampNeg))), (a_o1, .inr (1, [.ref a_o1_places, .ref a_o1_breaths, .ref a_o1_reigns, .int o1_here, .int o1_crossed, .int o1_king, .int o1_last, .int o1_minute])), (a_o1_places, .inl (cI, 7, .inl o1_places)), (a_o1_breaths, .inl (cI, 7, .inl o1_breaths)), (a_o1_reigns, .inl (cI, 7, .inl o1_reigns))] H := hP
  replace hD : va_D A [(a_t, .inr (1, [.ref a_t_places, .ref a_t_breaths, .ref a_t_reigns, .int o1_here, .int t_crossed, .int t_king, .int t_last, .int t_minute])), (a_t_places, .inl (cI, 7, .inl (va_cpy o1_places t_places (0 : Int32).toNatClampNeg (0 : Int32).toNatClampNeg (7 : Int32).toNatClampNeg))), (a_t_breaths, .inl (cI, 7, .inl (va_cpy o1_breaths t_breaths (0 : Int32).toNatClampNeg (0 : Int32).toNatClampNeg (7 : Int32).toNatClampNeg))), (a_t_reigns, .inl (cI, 7, .inl (va_cpy o1_reigns t_reigns (0 : Int32).toNatClampNeg (0 : Int32).toNatClampNeg (7 : Int32).toNatClampNeg))), (a_o1, .inr (1, [.ref a_o1_places, .ref a_o1_breaths, .ref a_o1_reigns, .int o1_here, .int o1_crossed, .int o1_king, .int o1_last, .int o1_minute])), (a_o1_places, .inl (cI, 7, .inl o1_places)), (a_o1_breaths, .inl (cI, 7, .inl o1_breaths)), (a_o1_reigns, .inl (cI, 7, .inl o1_reigns))] := hD
  refine lv_aload_n hx hb dX1_copy_53 rfl (lv_at hl 0 rfl) ?_
  refine lv_aload_n hx hb dX1_copy_54 rfl (lv_at hl 1 rfl) ?_
  refine va_get (D := D) (ci := 1) (v := .int o1_crossed) (C := RX1) (T := TX1) (N := 8) hx hb hts hmsX1 hown hK hP 4 rfl rfl 4 (by decide) hw25 (fun _ h9 => h9) rfl dX1_copy_55 ?_
  refine va_put (D := D) (ci := 1) (v := .int o1_crossed) (ty := .int) (C := RX1) (T := TX1) (N := 8) hx hb hts hmsX1 tyX1 tyX1_ok nmX1 hown hK hP hD hS 0 rfl rfl 4 (by decide) hw25 (fun _ h9 => h9) rfl (by decide +kernel) rfl rfl (Nat.le_of_ble_eq_true rfl) dX1_copy_58 (fun H locs hP hD hS => ?_)
  replace hP : va_P D vwCl [(a_t, .inr (1, [.ref a_t_places, .ref a_t_breaths, .ref a_t_reigns, .int o1_here, .int o1_crossed, .int t_king, .int t_last, .int t_minute])), (a_t_places, .inl (cI, 7, .inl (va_cpy o1_places t_places (0 : Int32).toNatClampNeg (0 : Int32).toNatClampNeg (7 : Int32).toNatClampNeg))), (a_t_breaths, .inl (cI, 7, .inl (va_cpy o1_breaths t_breaths (0 : Int32).toNatClampNeg (0 : Int32).toNatClampNeg (7 : Int32).toNatClampNeg))), (a_t_reigns, .inl (cI, 7, .inl (va_cpy o1_reigns t_reigns (0 : Int32).toNatClampNeg (0 : Int32).toNatClampNeg (7 : Int32).toNatClampNeg))), (a_o1, .inr (1, [.ref a_o1_places, .ref a_o1_breaths, .ref a_o1_reigns, .int o1_here, .int o1_crossed, .int o1_king, .int o1_last, .int o1_minute])), (a_o1_places, .inl (cI, 7, .inl o1_places)), (a_o1_breaths, .inl (cI, 7, .inl o1_breaths)), (a_o1_reigns, .inl (cI, 7, .inl o1_reigns))] H := hP
  replace hD : va_D A [(a_t, .inr (1, [.ref a_t_places, .ref a_t_breaths, .ref a_t_reigns, .int o1_here, .int o1_crossed, .int t_king, .int t_last, .int t_minute])), (a_t_places, .inl (cI, 7, .inl (va_cpy o1_places t_places (0 : Int32).toNatClampNeg (0 : Int32).toNatClampNeg (7 : Int32).toNatClampNeg))), (a_t_breaths, .inl (cI, 7, .inl (va_cpy o1_breaths t_breaths (0 : Int32).toNatClampNeg (0 : Int32).toNatClampNeg (7 : Int32).toNatClampNeg))), (a_t_reigns, .inl (cI, 7, .inl (va_cpy o1_reigns t_reigns (0 : Int32).toNatClampNeg (0 : Int32).toNatClampNeg (7 : Int32).toNatClampNeg))), (a_o1, .inr (1, [.ref a_o1_places, .ref a_o1_breaths, .ref a_o1_reigns, .int o1_here, .int o1_crossed, .int o1_king, .int o1_last, .int o1_minute])), (a_o1_places, .inl (cI, 7, .inl o1_places)), (a_o1_breaths, .inl (cI, 7, .inl o1_breaths)), (a_o1_reigns, .inl (cI, 7, .inl o1_reigns))] := hD
  refine lv_aload_n hx hb dX1_copy_61 rfl (lv_at hl 0 rfl) ?_
  refine lv_aload_n hx hb dX1_copy_62 rfl (lv_at hl 1 rfl) ?_
  refine va_get (D := D) (ci := 1) (v := .int o1_king) (C := RX1) (T := TX1) (N := 8) hx hb hts hmsX1 hown hK hP 4 rfl rfl 5 (by decide) hw28 (fun _ h9 => h9) rfl dX1_copy_63 ?_
  refine va_put (D := D) (ci := 1) (v := .int o1_king) (ty := .int) (C := RX1) (T := TX1) (N := 8) hx hb hts hmsX1 tyX1 tyX1_ok nmX1 hown hK hP hD hS 0 rfl rfl 5 (by decide) hw28 (fun _ h9 => h9) rfl (by decide +kernel) rfl rfl (Nat.le_of_ble_eq_true rfl) dX1_copy_66 (fun H locs hP hD hS => ?_)
  replace hP : va_P D vwCl [(a_t, .inr (1, [.ref a_t_places, .ref a_t_breaths, .ref a_t_reigns, .int o1_here, .int o1_crossed, .int o1_king, .int t_last, .int t_minute])), (a_t_places, .inl (cI, 7, .inl (va_cpy o1_places t_places (0 : Int32).toNatClampNeg (0 : Int32).toNatClampNeg (7 : Int32).toNatClampNeg))), (a_t_breaths, .inl (cI, 7, .inl (va_cpy o1_breaths t_breaths (0 : Int32).toNatClampNeg (0 : Int32).toNatClampNeg (7 : Int32).toNatClampNeg))), (a_t_reigns, .inl (cI, 7, .inl (va_cpy o1_reigns t_reigns (0 : Int32).toNatClampNeg (0 : Int32).toNatClampNeg (7 : Int32).toNatClampNeg))), (a_o1, .inr (1, [.ref a_o1_places, .ref a_o1_breaths, .ref a_o1_reigns, .int o1_here, .int o1_crossed, .int o1_king, .int o1_last, .int o1_minute])), (a_o1_places, .inl (cI, 7, .inl o1_places)), (a_o1_breaths, .inl (cI, 7, .inl o1_breaths)), (a_o1_reigns, .inl (cI, 7, .inl o1_reigns))] H := hP
  replace hD : va_D A [(a_t, .inr (1, [.ref a_t_places, .ref a_t_breaths, .ref a_t_reigns, .int o1_here, .int o1_crossed, .int o1_king, .int t_last, .int t_minute])), (a_t_places, .inl (cI, 7, .inl (va_cpy o1_places t_places (0 : Int32).toNatClampNeg (0 : Int32).toNatClampNeg (7 : Int32).toNatClampNeg))), (a_t_breaths, .inl (cI, 7, .inl (va_cpy o1_breaths t_breaths (0 : Int32).toNatClampNeg (0 : Int32).toNatClampNeg (7 : Int32).toNatClampNeg))), (a_t_reigns, .inl (cI, 7, .inl (va_cpy o1_reigns t_reigns (0 : Int32).toNatClampNeg (0 : Int32).toNatClampNeg (7 : Int32).toNatClampNeg))), (a_o1, .inr (1, [.ref a_o1_places, .ref a_o1_breaths, .ref a_o1_reigns, .int o1_here, .int o1_crossed, .int o1_king, .int o1_last, .int o1_minute])), (a_o1_places, .inl (cI, 7, .inl o1_places)), (a_o1_breaths, .inl (cI, 7, .inl o1_breaths)), (a_o1_reigns, .inl (cI, 7, .inl o1_reigns))] := hD
  refine lv_aload_n hx hb dX1_copy_69 rfl (lv_at hl 0 rfl) ?_
  refine lv_aload_n hx hb dX1_copy_70 rfl (lv_at hl 1 rfl) ?_
  refine va_get (D := D) (ci := 1) (v := .int o1_last) (C := RX1) (T := TX1) (N := 8) hx hb hts hmsX1 hown hK hP 4 rfl rfl 6 (by decide) hw31 (fun _ h9 => h9) rfl dX1_copy_71 ?_
  refine va_put (D := D) (ci := 1) (v := .int o1_last) (ty := .int) (C := RX1) (T := TX1) (N := 8) hx hb hts hmsX1 tyX1 tyX1_ok nmX1 hown hK hP hD hS 0 rfl rfl 6 (by decide) hw31 (fun _ h9 => h9) rfl (by decide +kernel) rfl rfl (Nat.le_of_ble_eq_true rfl) dX1_copy_74 (fun H locs hP hD hS => ?_)
  replace hP : va_P D vwCl [(a_t, .inr (1, [.ref a_t_places, .ref a_t_breaths, .ref a_t_reigns, .int o1_here, .int o1_crossed, .int o1_king, .int o1_last, .int t_minute])), (a_t_places, .inl (cI, 7, .inl (va_cpy o1_places t_places (0 : Int32).toNatClampNeg (0 : Int32).toNatClampNeg (7 : Int32).toNatClampNeg))), (a_t_breaths, .inl (cI, 7, .inl (va_cpy o1_breaths t_breaths (0 : Int32).toNatClampNeg (0 : Int32).toNatClampNeg (7 : Int32).toNatClampNeg))), (a_t_reigns, .inl (cI, 7, .inl (va_cpy o1_reigns t_reigns (0 : Int32).toNatClampNeg (0 : Int32).toNatClampNeg (7 : Int32).toNatClampNeg))), (a_o1, .inr (1, [.ref a_o1_places, .ref a_o1_breaths, .ref a_o1_reigns, .int o1_here, .int o1_crossed, .int o1_king, .int o1_last, .int o1_minute])), (a_o1_places, .inl (cI, 7, .inl o1_places)), (a_o1_breaths, .inl (cI, 7, .inl o1_breaths)), (a_o1_reigns, .inl (cI, 7, .inl o1_reigns))] H := hP
  replace hD : va_D A [(a_t, .inr (1, [.ref a_t_places, .ref a_t_breaths, .ref a_t_reigns, .int o1_here, .int o1_crossed, .int o1_king, .int o1_last, .int t_minute])), (a_t_places, .inl (cI, 7, .inl (va_cpy o1_places t_places (0 : Int32).toNatClampNeg (0 : Int32).toNatClampNeg (7 : Int32).toNatClampNeg))), (a_t_breaths, .inl (cI, 7, .inl (va_cpy o1_breaths t_breaths (0 : Int32).toNatClampNeg (0 : Int32).toNatClampNeg (7 : Int32).toNatClampNeg))), (a_t_reigns, .inl (cI, 7, .inl (va_cpy o1_reigns t_reigns (0 : Int32).toNatClampNeg (0 : Int32).toNatClampNeg (7 : Int32).toNatClampNeg))), (a_o1, .inr (1, [.ref a_o1_places, .ref a_o1_breaths, .ref a_o1_reigns, .int o1_here, .int o1_crossed, .int o1_king, .int o1_last, .int o1_minute])), (a_o1_places, .inl (cI, 7, .inl o1_places)), (a_o1_breaths, .inl (cI, 7, .inl o1_breaths)), (a_o1_reigns, .inl (cI, 7, .inl o1_reigns))] := hD
  refine lv_aload_n hx hb dX1_copy_77 rfl (lv_at hl 0 rfl) ?_
  refine lv_aload_n hx hb dX1_copy_78 rfl (lv_at hl 1 rfl) ?_
  refine va_get (D := D) (ci := 1) (v := .int o1_minute) (C := RX1) (T := TX1) (N := 8) hx hb hts hmsX1 hown hK hP 4 rfl rfl 7 (by decide) hw34 (fun _ h9 => h9) rfl dX1_copy_79 ?_
  refine va_put (D := D) (ci := 1) (v := .int o1_minute) (ty := .int) (C := RX1) (T := TX1) (N := 8) hx hb hts hmsX1 tyX1 tyX1_ok nmX1 hown hK hP hD hS 0 rfl rfl 7 (by decide) hw34 (fun _ h9 => h9) rfl (by decide +kernel) rfl rfl (Nat.le_of_ble_eq_true rfl) dX1_copy_82 (fun H locs hP hD hS => ?_)
  replace hP : va_P D vwCl [(a_t, .inr (1, [.ref a_t_places, .ref a_t_breaths, .ref a_t_reigns, .int o1_here, .int o1_crossed, .int o1_king, .int o1_last, .int o1_minute])), (a_t_places, .inl (cI, 7, .inl (va_cpy o1_places t_places (0 : Int32).toNatClampNeg (0 : Int32).toNatClampNeg (7 : Int32).toNatClampNeg))), (a_t_breaths, .inl (cI, 7, .inl (va_cpy o1_breaths t_breaths (0 : Int32).toNatClampNeg (0 : Int32).toNatClampNeg (7 : Int32).toNatClampNeg))), (a_t_reigns, .inl (cI, 7, .inl (va_cpy o1_reigns t_reigns (0 : Int32).toNatClampNeg (0 : Int32).toNatClampNeg (7 : Int32).toNatClampNeg))), (a_o1, .inr (1, [.ref a_o1_places, .ref a_o1_breaths, .ref a_o1_reigns, .int o1_here, .int o1_crossed, .int o1_king, .int o1_last, .int o1_minute])), (a_o1_places, .inl (cI, 7, .inl o1_places)), (a_o1_breaths, .inl (cI, 7, .inl o1_breaths)), (a_o1_reigns, .inl (cI, 7, .inl o1_reigns))] H := hP
  replace hD : va_D A [(a_t, .inr (1, [.ref a_t_places, .ref a_t_breaths, .ref a_t_reigns, .int o1_here, .int o1_crossed, .int o1_king, .int o1_last, .int o1_minute])), (a_t_places, .inl (cI, 7, .inl (va_cpy o1_places t_places (0 : Int32).toNatClampNeg (0 : Int32).toNatClampNeg (7 : Int32).toNatClampNeg))), (a_t_breaths, .inl (cI, 7, .inl (va_cpy o1_breaths t_breaths (0 : Int32).toNatClampNeg (0 : Int32).toNatClampNeg (7 : Int32).toNatClampNeg))), (a_t_reigns, .inl (cI, 7, .inl (va_cpy o1_reigns t_reigns (0 : Int32).toNatClampNeg (0 : Int32).toNatClampNeg (7 : Int32).toNatClampNeg))), (a_o1, .inr (1, [.ref a_o1_places, .ref a_o1_breaths, .ref a_o1_reigns, .int o1_here, .int o1_crossed, .int o1_king, .int o1_last, .int o1_minute])), (a_o1_places, .inl (cI, 7, .inl o1_places)), (a_o1_breaths, .inl (cI, 7, .inl o1_breaths)), (a_o1_reigns, .inl (cI, 7, .inl o1_reigns))] := hD
  obtain rfl := Option.some.inj hf
  exact fin _ _ _ _ dX1_copy_85 hP hD hS
abbrev rm_X9_isOne : Room := { frames := 0, cells := 0, slots := 0, locals := 0 }
set_option maxHeartbeats 4000000 in
set_option maxRecDepth 100000 in
theorem c_X9_isOne (l : Launch) (D : va_G) (cI cJ cZ cO : ClassId) (sz : Nat) (p0 : Int32) (res : Int32) (hf : f_X9_isOne p0 = some res) : MetI l yX9_isOne wsX9_isOne rm_X9_isOne [.int p0] D (tys4 cI cJ cZ cO) [] sz res [] := by
  refine met_z (cc := cX9_isOne) (maxL := 1) (by decide) rfl (Nat.le_of_ble_eq_true rfl) ?_
  intro p e s m args below meth c Q A hx hb hml hown hts hK hN hA fin H locs ls hP hD hS hl
  replace hown : s.vm.findClass RX9 = some m.cls := hown
  replace hl : lv_has ls 1 [(0, .int p0)] := hl
  rw [f_X9_isOne] at hf
  refine lv_iload_n hx hb dX9_isOne_0 rfl (lv_at hl 0 rfl) ?_
  refine lv_if_lt (tgt := 14) hx hb dX9_isOne_1 (by decide) (fun hc => ?_) (fun hc => ?_)
  · replace hf := (if_pos hc).symm.trans hf
    refine lv_iconst (v := 0) hx hb dX9_isOne_14 (by decide) ?_
    obtain rfl := Option.some.inj hf
    exact fin _ _ _ _ nb_0 dX9_isOne_15 hP hD hS
  · replace hf := (if_neg hc).symm.trans hf
    refine lv_iload_n hx hb dX9_isOne_4 rfl (lv_at hl 0 rfl) ?_
    refine lv_bipush (v := 7) hx hb dX9_isOne_5 (by decide) ?_
    refine lv_icmp_ge (tgt := 14) hx hb dX9_isOne_7 (by decide) (fun hc => ?_) (fun hc => ?_)
    · replace hf := (if_pos hc).symm.trans hf
      refine lv_iconst (v := 0) hx hb dX9_isOne_14 (by decide) ?_
      obtain rfl := Option.some.inj hf
      exact fin _ _ _ _ nb_0 dX9_isOne_15 hP hD hS
    · replace hf := (if_neg hc).symm.trans hf
      refine lv_iconst (v := 1) hx hb dX9_isOne_10 (by decide) ?_
      refine lv_goto (tgt := 15) hx hb dX9_isOne_11 (by decide) ?_
      obtain rfl := Option.some.inj hf
      exact fin _ _ _ _ nb_1 dX9_isOne_15 hP hD hS
abbrev rm_X9_marked : Room := { frames := 0, cells := 0, slots := 0, locals := 0 }
set_option maxHeartbeats 4000000 in
set_option maxRecDepth 100000 in
theorem c_X9_marked (l : Launch) (D : va_G) (cI cJ cZ cO : ClassId) (sz : Nat) (p0 : Int32) (p1 : Int32) (p2 : Int32) (res : Int32) (hf : f_X9_marked p0 p1 p2 = some res) : MetI l yX9_marked wsX9_marked rm_X9_marked [.int p0, .int p1, .int p2] D (tys4 cI cJ cZ cO) [] sz res [] := by
  refine met_i (cc := cX9_marked) (maxL := 3) (by decide) rfl (Nat.le_of_ble_eq_true rfl) ?_
  intro p e s m args below meth c Q A hx hb hml hown hts hK hN hA fin H locs ls hP hD hS hl
  replace hown : s.vm.findClass RX9 = some m.cls := hown
  replace hl : lv_has ls 3 [(0, .int p0), (1, .int p1), (2, .int p2)] := hl
  rw [f_X9_marked] at hf
  refine lv_iload_n hx hb dX9_marked_0 rfl (lv_at hl 2 rfl) ?_
  refine lv_if_eq (tgt := 12) hx hb dX9_marked_1 (by decide) (fun hc => ?_) (fun hc => ?_)
  · replace hf := (if_pos hc).symm.trans hf
    refine lv_iload_n hx hb dX9_marked_12 rfl (lv_at hl 0 rfl) ?_
    refine lv_iconst (v := 1) hx hb dX9_marked_13 (by decide) ?_
    refine lv_iload_n hx hb dX9_marked_14 rfl (lv_at hl 1 rfl) ?_
    refine lv_ishl hx hb dX9_marked_15 ?_
    refine lv_iconst (v := -1) hx hb dX9_marked_16 (by decide) ?_
    refine lv_ixor hx hb dX9_marked_17 ?_
    refine lv_iand hx hb dX9_marked_18 ?_
    obtain rfl := Option.some.inj hf
    exact fin _ _ _ _ dX9_marked_19 hP hD hS
  · replace hf := (if_neg hc).symm.trans hf
    refine lv_iload_n hx hb dX9_marked_4 rfl (lv_at hl 0 rfl) ?_
    refine lv_iconst (v := 1) hx hb dX9_marked_5 (by decide) ?_
    refine lv_iload_n hx hb dX9_marked_6 rfl (lv_at hl 1 rfl) ?_
    refine lv_ishl hx hb dX9_marked_7 ?_
    refine lv_ior hx hb dX9_marked_8 ?_
    refine lv_goto (tgt := 19) hx hb dX9_marked_9 (by decide) ?_
    obtain rfl := Option.some.inj hf
    exact fin _ _ _ _ dX9_marked_19 hP hD hS
abbrev rm_X1_enter : Room := { frames := 1, cells := 0, slots := 0, locals := 22 }
theorem ms_X1_enter_X1 : ∀ w ∈ u_ws RX1 TX1 8, w ∈ wsX1_enter := fun w h => List.mem_cons_of_mem _ (List.mem_append_right _ (h))
set_option maxHeartbeats 4000000 in
set_option maxRecDepth 100000 in
theorem c_X1_enter (l : Launch) (D : va_G) (cI cJ cZ cO : ClassId) (sz : Nat) (a_t : Nat) (a_t_places : Nat) (a_t_breaths : Nat) (a_t_reigns : Nat) (t_here : Int32) (t_crossed : Int32) (t_king : Int32) (t_last : Int32) (t_minute : Int32) (t_places : Nat → Int32) (t_breaths : Nat → Int32) (t_reigns : Nat → Int32) (p1 : Int32) (p2 : Int32) (p3 : Int32) (res : Int32 × Int32 × (Nat → Int32) × (Nat → Int32) × (Nat → Int32)) (hf : f_X1_enter t_here t_crossed t_places t_breaths t_reigns p1 p2 p3 = some res) : MetV l yX1_enter wsX1_enter rm_X1_enter [.ref a_t, .int p1, .int p2, .int p3] D (tys4 cI cJ cZ cO) [(a_t, .inr (1, [.ref a_t_places, .ref a_t_breaths, .ref a_t_reigns, .int t_here, .int t_crossed, .int t_king, .int t_last, .int t_minute])), (a_t_places, .inl (cI, 7, .inl t_places)), (a_t_breaths, .inl (cI, 7, .inl t_breaths)), (a_t_reigns, .inl (cI, 7, .inl t_reigns))] sz [(a_t, .inr (1, [.ref a_t_places, .ref a_t_breaths, .ref a_t_reigns, .int res.1, .int res.2.1, .int t_king, .int t_last, .int t_minute])), (a_t_places, .inl (cI, 7, .inl res.2.2.1)), (a_t_breaths, .inl (cI, 7, .inl res.2.2.2.1)), (a_t_reigns, .inl (cI, 7, .inl res.2.2.2.2))] := by
  refine met_v (cc := cX1_enter) (maxL := 4) (by decide) rfl (Nat.le_of_ble_eq_true rfl) ?_
  intro p e s m args below meth c Q A hx hb hml hown hts hK hN hA fin H locs ls hP hD hS hl
  replace hown : s.vm.findClass RX1 = some m.cls := hown
  replace hl : lv_has ls 4 [(0, .ref a_t), (1, .int p1), (2, .int p2), (3, .int p3)] := hl
  rw [f_X1_enter] at hf
  have hiniX9 := hts (.initialized RX9) (by decide +kernel)
  have hcw43 := va_cnB (R := rm_X1_enter) (rm := rm_X9_isOne) 1 hts gX1_enter_X9_isOne_n43 rfl rfl rfl (hN.1 (.methodLinkNest RX1 43 yX9_isOne RX9) (by decide +kernel)) hiniX9 (by decide +kernel) ⟨Nat.le_of_ble_eq_true rfl, Nat.le_of_ble_eq_true rfl⟩
  have hst43 := hts (.static yX9_isOne) (by decide +kernel)
  have hw21 := hts (.fieldLink RX1 21 "TouchReign$Court" "here" "I") (by decide +kernel)
  have hmsX1 := ms_X1_enter_X1
  have hcw47 := va_cnB (R := rm_X1_enter) (rm := rm_X9_marked) 3 hts gX1_enter_X9_marked_n47 rfl rfl rfl (hN.1 (.methodLinkNest RX1 47 yX9_marked RX9) (by decide +kernel)) hiniX9 (by decide +kernel) ⟨Nat.le_of_ble_eq_true rfl, Nat.le_of_ble_eq_true rfl⟩
  have hst47 := hts (.static yX9_marked) (by decide +kernel)
  have hw25 := hts (.fieldLink RX1 25 "TouchReign$Court" "crossed" "I") (by decide +kernel)
  have hw9 := hts (.fieldLink RX1 9 "TouchReign$Court" "places" "[I") (by decide +kernel)
  have hw15 := hts (.fieldLink RX1 15 "TouchReign$Court" "breaths" "[I") (by decide +kernel)
  have hw18 := hts (.fieldLink RX1 18 "TouchReign$Court" "reigns" "[I") (by decide +kernel)
  refine lv_iload_n hx hb dX1_enter_0 rfl (lv_at hl 1 rfl) ?_
  obtain ⟨x1, hx1, hf⟩ := bd_if hf
  refine cn_i (wr := [(a_t, .inr (1, [.ref a_t_places, .ref a_t_breaths, .ref a_t_reigns, .int t_here, .int t_crossed, .int t_king, .int t_last, .int t_minute])), (a_t_places, .inl (cI, 7, .inl t_places)), (a_t_breaths, .inl (cI, 7, .inl t_breaths)), (a_t_reigns, .inl (cI, 7, .inl t_reigns))]) (ws' := [(a_t, .inr (1, [.ref a_t_places, .ref a_t_breaths, .ref a_t_reigns, .int t_here, .int t_crossed, .int t_king, .int t_last, .int t_minute])), (a_t_places, .inl (cI, 7, .inl t_places)), (a_t_breaths, .inl (cI, 7, .inl t_breaths)), (a_t_reigns, .inl (cI, 7, .inl t_reigns))]) ⟨hx, hb, hml, hown, hts⟩ ⟨hcw43, hst43, trivial⟩ hK hN hP hD hS hA (c_X9_isOne l D cI cJ cZ cO _ p1 x1 hx1) [] [0, 1, 2, 3] [0, 1, 2, 3] rfl rfl rfl rfl (by decide) rfl rfl rfl hl.1 rfl (Nat.le_of_ble_eq_true rfl) dX1_enter_1 ⟨Nat.zero_le _, Nat.zero_le _⟩ (fun H locs hP hD hS => ?_)
  refine lv_if_ne (tgt := 8) hx hb dX1_enter_4 (by decide) (fun hc => ?_) (fun hc => ?_)
  · replace hf := (if_neg hc).symm.trans hf
    refine lv_aload_n hx hb dX1_enter_8 rfl (lv_at hl 0 rfl) ?_
    refine lv_aload_n hx hb dX1_enter_9 rfl (lv_at hl 0 rfl) ?_
    refine va_get (D := D) (ci := 1) (v := .int t_here) (C := RX1) (T := TX1) (N := 8) hx hb hts hmsX1 hown hK hP 0 rfl rfl 3 (by decide) hw21 (fun _ h9 => h9) rfl dX1_enter_10 ?_
    refine lv_iload_n hx hb dX1_enter_13 rfl (lv_at hl 1 rfl) ?_
    refine lv_iconst (v := 1) hx hb dX1_enter_14 (by decide) ?_
    obtain ⟨x15, hx15, hf⟩ := bd_if hf
    refine cn_i (wr := [(a_t, .inr (1, [.ref a_t_places, .ref a_t_breaths, .ref a_t_reigns, .int t_here, .int t_crossed, .int t_king, .int t_last, .int t_minute])), (a_t_places, .inl (cI, 7, .inl t_places)), (a_t_breaths, .inl (cI, 7, .inl t_breaths)), (a_t_reigns, .inl (cI, 7, .inl t_reigns))]) (ws' := [(a_t, .inr (1, [.ref a_t_places, .ref a_t_breaths, .ref a_t_reigns, .int t_here, .int t_crossed, .int t_king, .int t_last, .int t_minute])), (a_t_places, .inl (cI, 7, .inl t_places)), (a_t_breaths, .inl (cI, 7, .inl t_breaths)), (a_t_reigns, .inl (cI, 7, .inl t_reigns))]) ⟨hx, hb, hml, hown, hts⟩ ⟨hcw47, hst47, trivial⟩ hK hN hP hD hS hA (c_X9_marked l D cI cJ cZ cO _ t_here p1 (1 : Int32) x15 hx15) [] [0, 1, 2, 3] [0, 1, 2, 3] rfl rfl rfl rfl (by decide) rfl rfl rfl hl.1 rfl (Nat.le_of_ble_eq_true rfl) dX1_enter_15 ⟨Nat.zero_le _, Nat.zero_le _⟩ (fun H locs hP hD hS => ?_)
    refine va_put (D := D) (ci := 1) (v := .int x15) (ty := .int) (C := RX1) (T := TX1) (N := 8) hx hb hts hmsX1 tyX1 tyX1_ok nmX1 hown hK hP hD hS 0 rfl rfl 3 (by decide) hw21 (fun _ h9 => h9) rfl (by decide +kernel) rfl rfl (Nat.le_of_ble_eq_true rfl) dX1_enter_18 (fun H locs hP hD hS => ?_)
    replace hP : va_P D vwCl [(a_t, .inr (1, [.ref a_t_places, .ref a_t_breaths, .ref a_t_reigns, .int x15, .int t_crossed, .int t_king, .int t_last, .int t_minute])), (a_t_places, .inl (cI, 7, .inl t_places)), (a_t_breaths, .inl (cI, 7, .inl t_breaths)), (a_t_reigns, .inl (cI, 7, .inl t_reigns))] H := hP
    replace hD : va_D A [(a_t, .inr (1, [.ref a_t_places, .ref a_t_breaths, .ref a_t_reigns, .int x15, .int t_crossed, .int t_king, .int t_last, .int t_minute])), (a_t_places, .inl (cI, 7, .inl t_places)), (a_t_breaths, .inl (cI, 7, .inl t_breaths)), (a_t_reigns, .inl (cI, 7, .inl t_reigns))] := hD
    refine lv_aload_n hx hb dX1_enter_21 rfl (lv_at hl 0 rfl) ?_
    refine lv_aload_n hx hb dX1_enter_22 rfl (lv_at hl 0 rfl) ?_
    refine va_get (D := D) (ci := 1) (v := .int t_crossed) (C := RX1) (T := TX1) (N := 8) hx hb hts hmsX1 hown hK hP 0 rfl rfl 4 (by decide) hw25 (fun _ h9 => h9) rfl dX1_enter_23 ?_
    refine lv_iload_n hx hb dX1_enter_26 rfl (lv_at hl 1 rfl) ?_
    refine lv_iconst (v := 0) hx hb dX1_enter_27 (by decide) ?_
    obtain ⟨x28, hx28, hf⟩ := bd_if hf
    refine cn_i (wr := [(a_t, .inr (1, [.ref a_t_places, .ref a_t_breaths, .ref a_t_reigns, .int x15, .int t_crossed, .int t_king, .int t_last, .int t_minute])), (a_t_places, .inl (cI, 7, .inl t_places)), (a_t_breaths, .inl (cI, 7, .inl t_breaths)), (a_t_reigns, .inl (cI, 7, .inl t_reigns))]) (ws' := [(a_t, .inr (1, [.ref a_t_places, .ref a_t_breaths, .ref a_t_reigns, .int x15, .int t_crossed, .int t_king, .int t_last, .int t_minute])), (a_t_places, .inl (cI, 7, .inl t_places)), (a_t_breaths, .inl (cI, 7, .inl t_breaths)), (a_t_reigns, .inl (cI, 7, .inl t_reigns))]) ⟨hx, hb, hml, hown, hts⟩ ⟨hcw47, hst47, trivial⟩ hK hN hP hD hS hA (c_X9_marked l D cI cJ cZ cO _ t_crossed p1 (0 : Int32) x28 hx28) [] [0, 1, 2, 3] [0, 1, 2, 3] rfl rfl rfl rfl (by decide) rfl rfl rfl hl.1 rfl (Nat.le_of_ble_eq_true rfl) dX1_enter_28 ⟨Nat.zero_le _, Nat.zero_le _⟩ (fun H locs hP hD hS => ?_)
    refine va_put (D := D) (ci := 1) (v := .int x28) (ty := .int) (C := RX1) (T := TX1) (N := 8) hx hb hts hmsX1 tyX1 tyX1_ok nmX1 hown hK hP hD hS 0 rfl rfl 4 (by decide) hw25 (fun _ h9 => h9) rfl (by decide +kernel) rfl rfl (Nat.le_of_ble_eq_true rfl) dX1_enter_31 (fun H locs hP hD hS => ?_)
    replace hP : va_P D vwCl [(a_t, .inr (1, [.ref a_t_places, .ref a_t_breaths, .ref a_t_reigns, .int x15, .int x28, .int t_king, .int t_last, .int t_minute])), (a_t_places, .inl (cI, 7, .inl t_places)), (a_t_breaths, .inl (cI, 7, .inl t_breaths)), (a_t_reigns, .inl (cI, 7, .inl t_reigns))] H := hP
    replace hD : va_D A [(a_t, .inr (1, [.ref a_t_places, .ref a_t_breaths, .ref a_t_reigns, .int x15, .int x28, .int t_king, .int t_last, .int t_minute])), (a_t_places, .inl (cI, 7, .inl t_places)), (a_t_breaths, .inl (cI, 7, .inl t_breaths)), (a_t_reigns, .inl (cI, 7, .inl t_reigns))] := hD
    refine lv_aload_n hx hb dX1_enter_34 rfl (lv_at hl 0 rfl) ?_
    refine va_get (D := D) (ci := 1) (v := .ref a_t_places) (C := RX1) (T := TX1) (N := 8) hx hb hts hmsX1 hown hK hP 0 rfl rfl 0 (by decide) hw9 (fun _ h9 => h9) rfl dX1_enter_35 ?_
    refine lv_iload_n hx hb dX1_enter_38 rfl (lv_at hl 1 rfl) ?_
    refine lv_iload_n hx hb dX1_enter_39 rfl (lv_at hl 2 rfl) ?_
    obtain ⟨hi40, hf⟩ := ix_if hf
    refine va_iast (D := D) hx hb hK hP hD hS 1 0 rfl rfl hi40 dX1_enter_40 (fun H locs hP hD hS => ?_)
    replace hP : va_P D vwCl [(a_t, .inr (1, [.ref a_t_places, .ref a_t_breaths, .ref a_t_reigns, .int x15, .int x28, .int t_king, .int t_last, .int t_minute])), (a_t_places, .inl (cI, 7, .inl (upd t_places p1.toNatClampNeg p2))), (a_t_breaths, .inl (cI, 7, .inl t_breaths)), (a_t_reigns, .inl (cI, 7, .inl t_reigns))] H := hP
    replace hD : va_D A [(a_t, .inr (1, [.ref a_t_places, .ref a_t_breaths, .ref a_t_reigns, .int x15, .int x28, .int t_king, .int t_last, .int t_minute])), (a_t_places, .inl (cI, 7, .inl (upd t_places p1.toNatClampNeg p2))), (a_t_breaths, .inl (cI, 7, .inl t_breaths)), (a_t_reigns, .inl (cI, 7, .inl t_reigns))] := hD
    refine lv_aload_n hx hb dX1_enter_41 rfl (lv_at hl 0 rfl) ?_
    refine va_get (D := D) (ci := 1) (v := .ref a_t_breaths) (C := RX1) (T := TX1) (N := 8) hx hb hts hmsX1 hown hK hP 0 rfl rfl 1 (by decide) hw15 (fun _ h9 => h9) rfl dX1_enter_42 ?_
    refine lv_iload_n hx hb dX1_enter_45 rfl (lv_at hl 1 rfl) ?_
    refine lv_iload_n hx hb dX1_enter_46 rfl (lv_at hl 3 rfl) ?_
    refine va_iast (D := D) hx hb hK hP hD hS 2 0 rfl rfl hi40 dX1_enter_47 (fun H locs hP hD hS => ?_)
    replace hP : va_P D vwCl [(a_t, .inr (1, [.ref a_t_places, .ref a_t_breaths, .ref a_t_reigns, .int x15, .int x28, .int t_king, .int t_last, .int t_minute])), (a_t_places, .inl (cI, 7, .inl (upd t_places p1.toNatClampNeg p2))), (a_t_breaths, .inl (cI, 7, .inl (upd t_breaths p1.toNatClampNeg p3))), (a_t_reigns, .inl (cI, 7, .inl t_reigns))] H := hP
    replace hD : va_D A [(a_t, .inr (1, [.ref a_t_places, .ref a_t_breaths, .ref a_t_reigns, .int x15, .int x28, .int t_king, .int t_last, .int t_minute])), (a_t_places, .inl (cI, 7, .inl (upd t_places p1.toNatClampNeg p2))), (a_t_breaths, .inl (cI, 7, .inl (upd t_breaths p1.toNatClampNeg p3))), (a_t_reigns, .inl (cI, 7, .inl t_reigns))] := hD
    refine lv_aload_n hx hb dX1_enter_48 rfl (lv_at hl 0 rfl) ?_
    refine va_get (D := D) (ci := 1) (v := .ref a_t_reigns) (C := RX1) (T := TX1) (N := 8) hx hb hts hmsX1 hown hK hP 0 rfl rfl 2 (by decide) hw18 (fun _ h9 => h9) rfl dX1_enter_49 ?_
    refine lv_iload_n hx hb dX1_enter_52 rfl (lv_at hl 1 rfl) ?_
    refine lv_iconst (v := 0) hx hb dX1_enter_53 (by decide) ?_
    refine va_iast (D := D) hx hb hK hP hD hS 3 0 rfl rfl hi40 dX1_enter_54 (fun H locs hP hD hS => ?_)
    replace hP : va_P D vwCl [(a_t, .inr (1, [.ref a_t_places, .ref a_t_breaths, .ref a_t_reigns, .int x15, .int x28, .int t_king, .int t_last, .int t_minute])), (a_t_places, .inl (cI, 7, .inl (upd t_places p1.toNatClampNeg p2))), (a_t_breaths, .inl (cI, 7, .inl (upd t_breaths p1.toNatClampNeg p3))), (a_t_reigns, .inl (cI, 7, .inl (upd t_reigns p1.toNatClampNeg (0 : Int32))))] H := hP
    replace hD : va_D A [(a_t, .inr (1, [.ref a_t_places, .ref a_t_breaths, .ref a_t_reigns, .int x15, .int x28, .int t_king, .int t_last, .int t_minute])), (a_t_places, .inl (cI, 7, .inl (upd t_places p1.toNatClampNeg p2))), (a_t_breaths, .inl (cI, 7, .inl (upd t_breaths p1.toNatClampNeg p3))), (a_t_reigns, .inl (cI, 7, .inl (upd t_reigns p1.toNatClampNeg (0 : Int32))))] := hD
    obtain rfl := Option.some.inj hf
    exact fin _ _ _ _ dX1_enter_55 hP hD hS
  · replace hf := (if_pos hc).symm.trans hf
    obtain rfl := Option.some.inj hf
    exact fin _ _ _ _ dX1_enter_7 hP hD hS
abbrev rm_X1_depart : Room := { frames := 1, cells := 0, slots := 0, locals := 22 }
theorem ms_X1_depart_X1 : ∀ w ∈ u_ws RX1 TX1 8, w ∈ wsX1_depart := fun w h => List.mem_cons_of_mem _ (List.mem_append_right _ (h))
set_option maxHeartbeats 4000000 in
set_option maxRecDepth 100000 in
theorem c_X1_depart (l : Launch) (D : va_G) (cI cJ cZ cO : ClassId) (sz : Nat) (a_t : Nat) (a_t_places : Nat) (a_t_breaths : Nat) (a_t_reigns : Nat) (t_here : Int32) (t_crossed : Int32) (t_king : Int32) (t_last : Int32) (t_minute : Int32) (p1 : Int32) (res : Int32 × Int32 × Int32) (hf : f_X1_depart t_here t_king t_last p1 = some res) : MetV l yX1_depart wsX1_depart rm_X1_depart [.ref a_t, .int p1] D (tys4 cI cJ cZ cO) [(a_t, .inr (1, [.ref a_t_places, .ref a_t_breaths, .ref a_t_reigns, .int t_here, .int t_crossed, .int t_king, .int t_last, .int t_minute]))] sz [(a_t, .inr (1, [.ref a_t_places, .ref a_t_breaths, .ref a_t_reigns, .int res.1, .int t_crossed, .int res.2.1, .int res.2.2, .int t_minute]))] := by
  refine met_v (cc := cX1_depart) (maxL := 2) (by decide) rfl (Nat.le_of_ble_eq_true rfl) ?_
  intro p e s m args below meth c Q A hx hb hml hown hts hK hN hA fin H locs ls hP hD hS hl
  replace hown : s.vm.findClass RX1 = some m.cls := hown
  replace hl : lv_has ls 2 [(0, .ref a_t), (1, .int p1)] := hl
  rw [f_X1_depart] at hf
  have hw21 := hts (.fieldLink RX1 21 "TouchReign$Court" "here" "I") (by decide +kernel)
  have hmsX1 := ms_X1_depart_X1
  have hiniX9 := hts (.initialized RX9) (by decide +kernel)
  have hcw47 := va_cnB (R := rm_X1_depart) (rm := rm_X9_marked) 3 hts gX1_depart_X9_marked_n47 rfl rfl rfl (hN.1 (.methodLinkNest RX1 47 yX9_marked RX9) (by decide +kernel)) hiniX9 (by decide +kernel) ⟨Nat.le_of_ble_eq_true rfl, Nat.le_of_ble_eq_true rfl⟩
  have hst47 := hts (.static yX9_marked) (by decide +kernel)
  have hw28 := hts (.fieldLink RX1 28 "TouchReign$Court" "king" "I") (by decide +kernel)
  have hw31 := hts (.fieldLink RX1 31 "TouchReign$Court" "last" "I") (by decide +kernel)
  refine lv_aload_n hx hb dX1_depart_0 rfl (lv_at hl 0 rfl) ?_
  refine lv_aload_n hx hb dX1_depart_1 rfl (lv_at hl 0 rfl) ?_
  refine va_get (D := D) (ci := 1) (v := .int t_here) (C := RX1) (T := TX1) (N := 8) hx hb hts hmsX1 hown hK hP 0 rfl rfl 3 (by decide) hw21 (fun _ h9 => h9) rfl dX1_depart_2 ?_
  refine lv_iload_n hx hb dX1_depart_5 rfl (lv_at hl 1 rfl) ?_
  refine lv_iconst (v := 0) hx hb dX1_depart_6 (by decide) ?_
  obtain ⟨x7, hx7, hf⟩ := bd_if hf
  refine cn_i (wr := [(a_t, .inr (1, [.ref a_t_places, .ref a_t_breaths, .ref a_t_reigns, .int t_here, .int t_crossed, .int t_king, .int t_last, .int t_minute]))]) (ws' := [(a_t, .inr (1, [.ref a_t_places, .ref a_t_breaths, .ref a_t_reigns, .int t_here, .int t_crossed, .int t_king, .int t_last, .int t_minute]))]) ⟨hx, hb, hml, hown, hts⟩ ⟨hcw47, hst47, trivial⟩ hK hN hP hD hS hA (c_X9_marked l D cI cJ cZ cO _ t_here p1 (0 : Int32) x7 hx7) [] [0] [0] rfl rfl rfl rfl (by decide) rfl rfl rfl hl.1 rfl (Nat.le_of_ble_eq_true rfl) dX1_depart_7 ⟨Nat.zero_le _, Nat.zero_le _⟩ (fun H locs hP hD hS => ?_)
  refine va_put (D := D) (ci := 1) (v := .int x7) (ty := .int) (C := RX1) (T := TX1) (N := 8) hx hb hts hmsX1 tyX1 tyX1_ok nmX1 hown hK hP hD hS 0 rfl rfl 3 (by decide) hw21 (fun _ h9 => h9) rfl (by decide +kernel) rfl rfl (Nat.le_of_ble_eq_true rfl) dX1_depart_10 (fun H locs hP hD hS => ?_)
  replace hP : va_P D vwCl [(a_t, .inr (1, [.ref a_t_places, .ref a_t_breaths, .ref a_t_reigns, .int x7, .int t_crossed, .int t_king, .int t_last, .int t_minute]))] H := hP
  replace hD : va_D A [(a_t, .inr (1, [.ref a_t_places, .ref a_t_breaths, .ref a_t_reigns, .int x7, .int t_crossed, .int t_king, .int t_last, .int t_minute]))] := hD
  refine lv_aload_n hx hb dX1_depart_13 rfl (lv_at hl 0 rfl) ?_
  refine va_get (D := D) (ci := 1) (v := .int t_king) (C := RX1) (T := TX1) (N := 8) hx hb hts hmsX1 hown hK hP 0 rfl rfl 5 (by decide) hw28 (fun _ h9 => h9) rfl dX1_depart_14 ?_
  refine lv_iload_n hx hb dX1_depart_17 rfl (lv_at hl 1 rfl) ?_
  have hB27 : ∀ (b27t_king : Int32) (H : Heap) (locs : List Loc) (ls : Array Slot), va_P D vwCl [(a_t, .inr (1, [.ref a_t_places, .ref a_t_breaths, .ref a_t_reigns, .int x7, .int t_crossed, .int b27t_king, .int t_last, .int t_minute]))] H → va_D A [(a_t, .inr (1, [.ref a_t_places, .ref a_t_breaths, .ref a_t_reigns, .int x7, .int t_crossed, .int b27t_king, .int t_last, .int t_minute]))] → va_S A s.heap H locs → lv_has ls 2 [(0, .ref a_t), (1, .int p1)] → f_X1_depart_B27 t_last p1 x7 b27t_king = some res → W p l e rm_X1_depart s m args below meth c H locs 0 0 Q (F0 m 27 ls []) := by
    intro b27t_king H locs ls hP hD hS hl hf
    rw [f_X1_depart_B27] at hf
    refine lv_aload_n hx hb dX1_depart_27 rfl (lv_at hl 0 rfl) ?_
    refine va_get (D := D) (ci := 1) (v := .int t_last) (C := RX1) (T := TX1) (N := 8) hx hb hts hmsX1 hown hK hP 0 rfl rfl 6 (by decide) hw31 (fun _ h9 => h9) rfl dX1_depart_28 ?_
    refine lv_iload_n hx hb dX1_depart_31 rfl (lv_at hl 1 rfl) ?_
    refine lv_icmp_ne (tgt := 41) hx hb dX1_depart_32 (by decide) (fun hc => ?_) (fun hc => ?_)
    · replace hf := (if_neg hc).symm.trans hf
      obtain rfl := Option.some.inj hf
      exact fin _ _ _ _ dX1_depart_41 hP hD hS
    · replace hf := (if_pos hc).symm.trans hf
      refine lv_aload_n hx hb dX1_depart_35 rfl (lv_at hl 0 rfl) ?_
      refine lv_bipush (v := -6) hx hb dX1_depart_36 (by decide) ?_
      refine va_put (D := D) (ci := 1) (v := .int (-6 : Int32)) (ty := .int) (C := RX1) (T := TX1) (N := 8) hx hb hts hmsX1 tyX1 tyX1_ok nmX1 hown hK hP hD hS 0 rfl rfl 6 (by decide) hw31 (fun _ h9 => h9) rfl (by decide +kernel) rfl rfl (Nat.le_of_ble_eq_true rfl) dX1_depart_38 (fun H locs hP hD hS => ?_)
      replace hP : va_P D vwCl [(a_t, .inr (1, [.ref a_t_places, .ref a_t_breaths, .ref a_t_reigns, .int x7, .int t_crossed, .int b27t_king, .int (-6 : Int32), .int t_minute]))] H := hP
      replace hD : va_D A [(a_t, .inr (1, [.ref a_t_places, .ref a_t_breaths, .ref a_t_reigns, .int x7, .int t_crossed, .int b27t_king, .int (-6 : Int32), .int t_minute]))] := hD
      obtain rfl := Option.some.inj hf
      exact fin _ _ _ _ dX1_depart_41 hP hD hS
  refine lv_icmp_ne (tgt := 27) hx hb dX1_depart_18 (by decide) (fun hc => ?_) (fun hc => ?_)
  · replace hf := (if_neg hc).symm.trans hf
    exact hB27 t_king _ _ _ hP hD hS (lv_sub hl [0, 1] rfl) hf
  · replace hf := (if_pos hc).symm.trans hf
    refine lv_aload_n hx hb dX1_depart_21 rfl (lv_at hl 0 rfl) ?_
    refine lv_bipush (v := -6) hx hb dX1_depart_22 (by decide) ?_
    refine va_put (D := D) (ci := 1) (v := .int (-6 : Int32)) (ty := .int) (C := RX1) (T := TX1) (N := 8) hx hb hts hmsX1 tyX1 tyX1_ok nmX1 hown hK hP hD hS 0 rfl rfl 5 (by decide) hw28 (fun _ h9 => h9) rfl (by decide +kernel) rfl rfl (Nat.le_of_ble_eq_true rfl) dX1_depart_24 (fun H locs hP hD hS => ?_)
    replace hP : va_P D vwCl [(a_t, .inr (1, [.ref a_t_places, .ref a_t_breaths, .ref a_t_reigns, .int x7, .int t_crossed, .int (-6 : Int32), .int t_last, .int t_minute]))] H := hP
    replace hD : va_D A [(a_t, .inr (1, [.ref a_t_places, .ref a_t_breaths, .ref a_t_reigns, .int x7, .int t_crossed, .int (-6 : Int32), .int t_last, .int t_minute]))] := hD
    exact hB27 (-6 : Int32) _ _ _ hP hD hS (lv_sub hl [0, 1] rfl) hf
abbrev rm_X1_isHere : Room := { frames := 1, cells := 0, slots := 0, locals := 21 }
theorem ms_X1_isHere_X1 : ∀ w ∈ u_ws RX1 TX1 8, w ∈ wsX1_isHere := fun w h => List.mem_cons_of_mem _ (List.mem_append_right _ (h))
set_option maxHeartbeats 4000000 in
set_option maxRecDepth 100000 in
theorem c_X1_isHere (l : Launch) (D : va_G) (cI cJ cZ cO : ClassId) (sz : Nat) (a_t : Nat) (a_t_places : Nat) (a_t_breaths : Nat) (a_t_reigns : Nat) (t_here : Int32) (t_crossed : Int32) (t_king : Int32) (t_last : Int32) (t_minute : Int32) (p1 : Int32) (res : Int32) (hf : f_X1_isHere t_here p1 = some res) : MetI l yX1_isHere wsX1_isHere rm_X1_isHere [.ref a_t, .int p1] D (tys4 cI cJ cZ cO) [(a_t, .inr (1, [.ref a_t_places, .ref a_t_breaths, .ref a_t_reigns, .int t_here, .int t_crossed, .int t_king, .int t_last, .int t_minute]))] sz res [(a_t, .inr (1, [.ref a_t_places, .ref a_t_breaths, .ref a_t_reigns, .int t_here, .int t_crossed, .int t_king, .int t_last, .int t_minute]))] := by
  refine met_z (cc := cX1_isHere) (maxL := 2) (by decide) rfl (Nat.le_of_ble_eq_true rfl) ?_
  intro p e s m args below meth c Q A hx hb hml hown hts hK hN hA fin H locs ls hP hD hS hl
  replace hown : s.vm.findClass RX1 = some m.cls := hown
  replace hl : lv_has ls 2 [(0, .ref a_t), (1, .int p1)] := hl
  rw [f_X1_isHere] at hf
  have hw21 := hts (.fieldLink RX1 21 "TouchReign$Court" "here" "I") (by decide +kernel)
  have hmsX1 := ms_X1_isHere_X1
  have hiniX9 := hts (.initialized RX9) (by decide +kernel)
  have hcw51 := va_cnB (R := rm_X1_isHere) (rm := rm_X9_holds) 2 hts gX1_isHere_X9_holds_n51 rfl rfl rfl (hN.1 (.methodLinkNest RX1 51 yX9_holds RX9) (by decide +kernel)) hiniX9 (by decide +kernel) ⟨Nat.le_of_ble_eq_true rfl, Nat.le_of_ble_eq_true rfl⟩
  have hst51 := hts (.static yX9_holds) (by decide +kernel)
  refine lv_aload_n hx hb dX1_isHere_0 rfl (lv_at hl 0 rfl) ?_
  refine va_get (D := D) (ci := 1) (v := .int t_here) (C := RX1) (T := TX1) (N := 8) hx hb hts hmsX1 hown hK hP 0 rfl rfl 3 (by decide) hw21 (fun _ h9 => h9) rfl dX1_isHere_1 ?_
  refine lv_iload_n hx hb dX1_isHere_4 rfl (lv_at hl 1 rfl) ?_
  obtain ⟨x5, hx5, hf⟩ := bd_if hf
  refine cn_i (wr := [(a_t, .inr (1, [.ref a_t_places, .ref a_t_breaths, .ref a_t_reigns, .int t_here, .int t_crossed, .int t_king, .int t_last, .int t_minute]))]) (ws' := [(a_t, .inr (1, [.ref a_t_places, .ref a_t_breaths, .ref a_t_reigns, .int t_here, .int t_crossed, .int t_king, .int t_last, .int t_minute]))]) ⟨hx, hb, hml, hown, hts⟩ ⟨hcw51, hst51, trivial⟩ hK hN hP hD hS hA (c_X9_holds l D cI cJ cZ cO _ t_here p1 x5 hx5) [] [0] [0] rfl rfl rfl rfl (by decide) rfl rfl rfl hl.1 rfl (Nat.le_of_ble_eq_true rfl) dX1_isHere_5 ⟨Nat.zero_le _, Nat.zero_le _⟩ (fun H locs hP hD hS => ?_)
  obtain ⟨hz8, hf⟩ := ok_if hf
  obtain rfl := Option.some.inj hf
  exact fin _ _ _ _ (zr_ok hz8) dX1_isHere_8 hP hD hS
abbrev rm_X1_placeOf : Room := { frames := 0, cells := 0, slots := 0, locals := 0 }
theorem ms_X1_placeOf_X1 : ∀ w ∈ u_ws RX1 TX1 8, w ∈ wsX1_placeOf := fun w h => List.mem_cons_of_mem _ (List.mem_append_right _ (h))
set_option maxHeartbeats 4000000 in
set_option maxRecDepth 100000 in
theorem c_X1_placeOf (l : Launch) (D : va_G) (cI cJ cZ cO : ClassId) (sz : Nat) (a_t : Nat) (a_t_places : Nat) (a_t_breaths : Nat) (a_t_reigns : Nat) (t_here : Int32) (t_crossed : Int32) (t_king : Int32) (t_last : Int32) (t_minute : Int32) (t_places : Nat → Int32) (p1 : Int32) (res : Int32) (hf : f_X1_placeOf t_places p1 = some res) : MetI l yX1_placeOf wsX1_placeOf rm_X1_placeOf [.ref a_t, .int p1] D (tys4 cI cJ cZ cO) [(a_t, .inr (1, [.ref a_t_places, .ref a_t_breaths, .ref a_t_reigns, .int t_here, .int t_crossed, .int t_king, .int t_last, .int t_minute])), (a_t_places, .inl (cI, 7, .inl t_places))] sz res [(a_t, .inr (1, [.ref a_t_places, .ref a_t_breaths, .ref a_t_reigns, .int t_here, .int t_crossed, .int t_king, .int t_last, .int t_minute])), (a_t_places, .inl (cI, 7, .inl t_places))] := by
  refine met_i (cc := cX1_placeOf) (maxL := 2) (by decide) rfl (Nat.le_of_ble_eq_true rfl) ?_
  intro p e s m args below meth c Q A hx hb hml hown hts hK hN hA fin H locs ls hP hD hS hl
  replace hown : s.vm.findClass RX1 = some m.cls := hown
  replace hl : lv_has ls 2 [(0, .ref a_t), (1, .int p1)] := hl
  rw [f_X1_placeOf] at hf
  have hw9 := hts (.fieldLink RX1 9 "TouchReign$Court" "places" "[I") (by decide +kernel)
  have hmsX1 := ms_X1_placeOf_X1
  refine lv_iload_n hx hb dX1_placeOf_0 rfl (lv_at hl 1 rfl) ?_
  refine lv_if_lt (tgt := 19) hx hb dX1_placeOf_1 (by decide) (fun hc => ?_) (fun hc => ?_)
  · replace hf := (if_pos hc).symm.trans hf
    refine lv_bipush (v := -6) hx hb dX1_placeOf_19 (by decide) ?_
    obtain rfl := Option.some.inj hf
    exact fin _ _ _ _ dX1_placeOf_21 hP hD hS
  · replace hf := (if_neg hc).symm.trans hf
    refine lv_iload_n hx hb dX1_placeOf_4 rfl (lv_at hl 1 rfl) ?_
    refine lv_bipush (v := 7) hx hb dX1_placeOf_5 (by decide) ?_
    refine lv_icmp_ge (tgt := 19) hx hb dX1_placeOf_7 (by decide) (fun hc => ?_) (fun hc => ?_)
    · replace hf := (if_pos hc).symm.trans hf
      refine lv_bipush (v := -6) hx hb dX1_placeOf_19 (by decide) ?_
      obtain rfl := Option.some.inj hf
      exact fin _ _ _ _ dX1_placeOf_21 hP hD hS
    · replace hf := (if_neg hc).symm.trans hf
      refine lv_aload_n hx hb dX1_placeOf_10 rfl (lv_at hl 0 rfl) ?_
      refine va_get (D := D) (ci := 1) (v := .ref a_t_places) (C := RX1) (T := TX1) (N := 8) hx hb hts hmsX1 hown hK hP 0 rfl rfl 0 (by decide) hw9 (fun _ h9 => h9) rfl dX1_placeOf_11 ?_
      refine lv_iload_n hx hb dX1_placeOf_14 rfl (lv_at hl 1 rfl) ?_
      obtain ⟨hi15, hf⟩ := ix_if hf
      refine va_iald (D := D) hx hb hK hP 1 0 rfl rfl hi15 dX1_placeOf_15 ?_
      refine lv_goto (tgt := 21) hx hb dX1_placeOf_16 (by decide) ?_
      obtain rfl := Option.some.inj hf
      exact fin _ _ _ _ dX1_placeOf_21 hP hD hS
abbrev rm_X1_breathOf : Room := { frames := 0, cells := 0, slots := 0, locals := 0 }
theorem ms_X1_breathOf_X1 : ∀ w ∈ u_ws RX1 TX1 8, w ∈ wsX1_breathOf := fun w h => List.mem_cons_of_mem _ (List.mem_append_right _ (h))
set_option maxHeartbeats 4000000 in
set_option maxRecDepth 100000 in
theorem c_X1_breathOf (l : Launch) (D : va_G) (cI cJ cZ cO : ClassId) (sz : Nat) (a_t : Nat) (a_t_places : Nat) (a_t_breaths : Nat) (a_t_reigns : Nat) (t_here : Int32) (t_crossed : Int32) (t_king : Int32) (t_last : Int32) (t_minute : Int32) (t_breaths : Nat → Int32) (p1 : Int32) (res : Int32) (hf : f_X1_breathOf t_breaths p1 = some res) : MetI l yX1_breathOf wsX1_breathOf rm_X1_breathOf [.ref a_t, .int p1] D (tys4 cI cJ cZ cO) [(a_t, .inr (1, [.ref a_t_places, .ref a_t_breaths, .ref a_t_reigns, .int t_here, .int t_crossed, .int t_king, .int t_last, .int t_minute])), (a_t_breaths, .inl (cI, 7, .inl t_breaths))] sz res [(a_t, .inr (1, [.ref a_t_places, .ref a_t_breaths, .ref a_t_reigns, .int t_here, .int t_crossed, .int t_king, .int t_last, .int t_minute])), (a_t_breaths, .inl (cI, 7, .inl t_breaths))] := by
  refine met_i (cc := cX1_breathOf) (maxL := 2) (by decide) rfl (Nat.le_of_ble_eq_true rfl) ?_
  intro p e s m args below meth c Q A hx hb hml hown hts hK hN hA fin H locs ls hP hD hS hl
  replace hown : s.vm.findClass RX1 = some m.cls := hown
  replace hl : lv_has ls 2 [(0, .ref a_t), (1, .int p1)] := hl
  rw [f_X1_breathOf] at hf
  have hw15 := hts (.fieldLink RX1 15 "TouchReign$Court" "breaths" "[I") (by decide +kernel)
  have hmsX1 := ms_X1_breathOf_X1
  refine lv_iload_n hx hb dX1_breathOf_0 rfl (lv_at hl 1 rfl) ?_
  refine lv_if_lt (tgt := 19) hx hb dX1_breathOf_1 (by decide) (fun hc => ?_) (fun hc => ?_)
  · replace hf := (if_pos hc).symm.trans hf
    refine lv_iconst (v := 0) hx hb dX1_breathOf_19 (by decide) ?_
    obtain rfl := Option.some.inj hf
    exact fin _ _ _ _ dX1_breathOf_20 hP hD hS
  · replace hf := (if_neg hc).symm.trans hf
    refine lv_iload_n hx hb dX1_breathOf_4 rfl (lv_at hl 1 rfl) ?_
    refine lv_bipush (v := 7) hx hb dX1_breathOf_5 (by decide) ?_
    refine lv_icmp_ge (tgt := 19) hx hb dX1_breathOf_7 (by decide) (fun hc => ?_) (fun hc => ?_)
    · replace hf := (if_pos hc).symm.trans hf
      refine lv_iconst (v := 0) hx hb dX1_breathOf_19 (by decide) ?_
      obtain rfl := Option.some.inj hf
      exact fin _ _ _ _ dX1_breathOf_20 hP hD hS
    · replace hf := (if_neg hc).symm.trans hf
      refine lv_aload_n hx hb dX1_breathOf_10 rfl (lv_at hl 0 rfl) ?_
      refine va_get (D := D) (ci := 1) (v := .ref a_t_breaths) (C := RX1) (T := TX1) (N := 8) hx hb hts hmsX1 hown hK hP 0 rfl rfl 1 (by decide) hw15 (fun _ h9 => h9) rfl dX1_breathOf_11 ?_
      refine lv_iload_n hx hb dX1_breathOf_14 rfl (lv_at hl 1 rfl) ?_
      obtain ⟨hi15, hf⟩ := ix_if hf
      refine va_iald (D := D) hx hb hK hP 1 0 rfl rfl hi15 dX1_breathOf_15 ?_
      refine lv_goto (tgt := 20) hx hb dX1_breathOf_16 (by decide) ?_
      obtain rfl := Option.some.inj hf
      exact fin _ _ _ _ dX1_breathOf_20 hP hD hS
abbrev rm_X1_reignOf : Room := { frames := 0, cells := 0, slots := 0, locals := 0 }
theorem ms_X1_reignOf_X1 : ∀ w ∈ u_ws RX1 TX1 8, w ∈ wsX1_reignOf := fun w h => List.mem_cons_of_mem _ (List.mem_append_right _ (h))
set_option maxHeartbeats 4000000 in
set_option maxRecDepth 100000 in
theorem c_X1_reignOf (l : Launch) (D : va_G) (cI cJ cZ cO : ClassId) (sz : Nat) (a_t : Nat) (a_t_places : Nat) (a_t_breaths : Nat) (a_t_reigns : Nat) (t_here : Int32) (t_crossed : Int32) (t_king : Int32) (t_last : Int32) (t_minute : Int32) (t_reigns : Nat → Int32) (p1 : Int32) (res : Int32) (hf : f_X1_reignOf t_reigns p1 = some res) : MetI l yX1_reignOf wsX1_reignOf rm_X1_reignOf [.ref a_t, .int p1] D (tys4 cI cJ cZ cO) [(a_t, .inr (1, [.ref a_t_places, .ref a_t_breaths, .ref a_t_reigns, .int t_here, .int t_crossed, .int t_king, .int t_last, .int t_minute])), (a_t_reigns, .inl (cI, 7, .inl t_reigns))] sz res [(a_t, .inr (1, [.ref a_t_places, .ref a_t_breaths, .ref a_t_reigns, .int t_here, .int t_crossed, .int t_king, .int t_last, .int t_minute])), (a_t_reigns, .inl (cI, 7, .inl t_reigns))] := by
  refine met_i (cc := cX1_reignOf) (maxL := 2) (by decide) rfl (Nat.le_of_ble_eq_true rfl) ?_
  intro p e s m args below meth c Q A hx hb hml hown hts hK hN hA fin H locs ls hP hD hS hl
  replace hown : s.vm.findClass RX1 = some m.cls := hown
  replace hl : lv_has ls 2 [(0, .ref a_t), (1, .int p1)] := hl
  rw [f_X1_reignOf] at hf
  have hw18 := hts (.fieldLink RX1 18 "TouchReign$Court" "reigns" "[I") (by decide +kernel)
  have hmsX1 := ms_X1_reignOf_X1
  refine lv_iload_n hx hb dX1_reignOf_0 rfl (lv_at hl 1 rfl) ?_
  refine lv_if_lt (tgt := 19) hx hb dX1_reignOf_1 (by decide) (fun hc => ?_) (fun hc => ?_)
  · replace hf := (if_pos hc).symm.trans hf
    refine lv_iconst (v := 0) hx hb dX1_reignOf_19 (by decide) ?_
    obtain rfl := Option.some.inj hf
    exact fin _ _ _ _ dX1_reignOf_20 hP hD hS
  · replace hf := (if_neg hc).symm.trans hf
    refine lv_iload_n hx hb dX1_reignOf_4 rfl (lv_at hl 1 rfl) ?_
    refine lv_bipush (v := 7) hx hb dX1_reignOf_5 (by decide) ?_
    refine lv_icmp_ge (tgt := 19) hx hb dX1_reignOf_7 (by decide) (fun hc => ?_) (fun hc => ?_)
    · replace hf := (if_pos hc).symm.trans hf
      refine lv_iconst (v := 0) hx hb dX1_reignOf_19 (by decide) ?_
      obtain rfl := Option.some.inj hf
      exact fin _ _ _ _ dX1_reignOf_20 hP hD hS
    · replace hf := (if_neg hc).symm.trans hf
      refine lv_aload_n hx hb dX1_reignOf_10 rfl (lv_at hl 0 rfl) ?_
      refine va_get (D := D) (ci := 1) (v := .ref a_t_reigns) (C := RX1) (T := TX1) (N := 8) hx hb hts hmsX1 hown hK hP 0 rfl rfl 2 (by decide) hw18 (fun _ h9 => h9) rfl dX1_reignOf_11 ?_
      refine lv_iload_n hx hb dX1_reignOf_14 rfl (lv_at hl 1 rfl) ?_
      obtain ⟨hi15, hf⟩ := ix_if hf
      refine va_iald (D := D) hx hb hK hP 1 0 rfl rfl hi15 dX1_reignOf_15 ?_
      refine lv_goto (tgt := 20) hx hb dX1_reignOf_16 (by decide) ?_
      obtain rfl := Option.some.inj hf
      exact fin _ _ _ _ dX1_reignOf_20 hP hD hS
abbrev rm_X1_allBreath : Room := { frames := 2, cells := 0, slots := 0, locals := 42 }
theorem ms_X1_allBreath_X1 : ∀ w ∈ u_ws RX1 TX1 8, w ∈ wsX1_allBreath := fun w h => List.mem_cons_of_mem _ (List.mem_append_right _ (h))
set_option maxHeartbeats 4000000 in
set_option maxRecDepth 100000 in
theorem c_X1_allBreath (l : Launch) (D : va_G) (cI cJ cZ cO : ClassId) (sz : Nat) (a_t : Nat) (a_t_places : Nat) (a_t_breaths : Nat) (a_t_reigns : Nat) (t_here : Int32) (t_crossed : Int32) (t_king : Int32) (t_last : Int32) (t_minute : Int32) (t_breaths : Nat → Int32) (res : Int32) (hf : f_X1_allBreath t_here t_breaths = some res) : MetI l yX1_allBreath wsX1_allBreath rm_X1_allBreath [.ref a_t] D (tys4 cI cJ cZ cO) [(a_t, .inr (1, [.ref a_t_places, .ref a_t_breaths, .ref a_t_reigns, .int t_here, .int t_crossed, .int t_king, .int t_last, .int t_minute])), (a_t_breaths, .inl (cI, 7, .inl t_breaths))] sz res [(a_t, .inr (1, [.ref a_t_places, .ref a_t_breaths, .ref a_t_reigns, .int t_here, .int t_crossed, .int t_king, .int t_last, .int t_minute])), (a_t_breaths, .inl (cI, 7, .inl t_breaths))] := by
  refine met_i (cc := cX1_allBreath) (maxL := 3) (by decide) rfl (Nat.le_of_ble_eq_true rfl) ?_
  intro p e s m args below meth c Q A hx hb hml hown hts hK hN hA fin H locs ls hP hD hS hl
  replace hown : s.vm.findClass RX1 = some m.cls := hown
  replace hl : lv_has ls 3 [(0, .ref a_t)] := hl
  rw [f_X1_allBreath] at hf
  have hcw55 := cwV (R := rm_X1_allBreath) (rm := rm_X1_isHere) 1 hts gX1_allBreath_X1_isHere rfl rfl rfl (by decide +kernel) ⟨Nat.le_of_ble_eq_true rfl, Nat.le_of_ble_eq_true rfl⟩
  have hw15 := hts (.fieldLink RX1 15 "TouchReign$Court" "breaths" "[I") (by decide +kernel)
  have hmsX1 := ms_X1_allBreath_X1
  refine lv_iconst (v := 0) hx hb dX1_allBreath_0 (by decide) ?_
  refine lv_istore_n (lv' := [(1, .int (0 : Int32)), (0, .ref a_t)]) hx hb dX1_allBreath_1 rfl hl (by decide) rfl (fun ls hl => ?_)
  refine lv_iconst (v := 0) hx hb dX1_allBreath_2 (by decide) ?_
  refine lv_istore_n (lv' := [(2, .int (0 : Int32)), (1, .int (0 : Int32)), (0, .ref a_t)]) hx hb dX1_allBreath_3 rfl hl (by decide) rfl (fun ls hl => ?_)
  have hX4 : ∀ (x4v1 : Int32) (H : Heap) (locs : List Loc) (ls : Array Slot), va_P D vwCl [(a_t, .inr (1, [.ref a_t_places, .ref a_t_breaths, .ref a_t_reigns, .int t_here, .int t_crossed, .int t_king, .int t_last, .int t_minute])), (a_t_breaths, .inl (cI, 7, .inl t_breaths))] H → va_D A [(a_t, .inr (1, [.ref a_t_places, .ref a_t_breaths, .ref a_t_reigns, .int t_here, .int t_crossed, .int t_king, .int t_last, .int t_minute])), (a_t_breaths, .inl (cI, 7, .inl t_breaths))] → va_S A s.heap H locs → lv_has ls 3 [(1, .int x4v1)] → f_X1_allBreath_X4 x4v1 = some res → W p l e rm_X1_allBreath s m args below meth c H locs 0 0 Q (F0 m 33 ls []) := by
    intro x4v1 H locs ls hP hD hS hl hf
    rw [f_X1_allBreath_X4] at hf
    refine lv_iload_n hx hb dX1_allBreath_33 rfl (lv_at hl 0 rfl) ?_
    obtain rfl := Option.some.inj hf
    exact fin _ _ _ _ dX1_allBreath_34 hP hD hS
  have hL4 : ∀ (n4 : Nat), ∀ (l4v1 : Int32) (l4v2 : Int32) (H : Heap) (locs : List Loc) (ls : Array Slot), va_P D vwCl [(a_t, .inr (1, [.ref a_t_places, .ref a_t_breaths, .ref a_t_reigns, .int t_here, .int t_crossed, .int t_king, .int t_last, .int t_minute])), (a_t_breaths, .inl (cI, 7, .inl t_breaths))] H → va_D A [(a_t, .inr (1, [.ref a_t_places, .ref a_t_breaths, .ref a_t_reigns, .int t_here, .int t_crossed, .int t_king, .int t_last, .int t_minute])), (a_t_breaths, .inl (cI, 7, .inl t_breaths))] → va_S A s.heap H locs → lv_has ls 3 [(0, .ref a_t), (1, .int l4v1), (2, .int l4v2)] → f_X1_allBreath_L4 t_here t_breaths f_X1_allBreath_X4 n4 l4v1 l4v2 = some res → W p l e rm_X1_allBreath s m args below meth c H locs 0 0 Q (F0 m 4 ls []) := by
    intro n4
    induction n4 with
    | zero =>
      intro l4v1 l4v2 H locs ls hP hD hS hl hf
      rw [f_X1_allBreath_L4] at hf
      cases hf
    | succ n4 ih4 =>
      intro l4v1 l4v2 H locs ls hP hD hS hl hf
      rw [f_X1_allBreath_L4] at hf
      refine lv_iload_n hx hb dX1_allBreath_4 rfl (lv_at hl 2 rfl) ?_
      refine lv_bipush (v := 7) hx hb dX1_allBreath_5 (by decide) ?_
      refine lv_icmp_ge (tgt := 33) hx hb dX1_allBreath_7 (by decide) (fun hc => ?_) (fun hc => ?_)
      · replace hf := (if_pos hc).symm.trans hf
        exact hX4 l4v1 _ _ _ hP hD hS (lv_sub hl [1] rfl) hf
      · replace hf := (if_neg hc).symm.trans hf
        refine lv_aload_n hx hb dX1_allBreath_10 rfl (lv_at hl 0 rfl) ?_
        refine lv_iload_n hx hb dX1_allBreath_11 rfl (lv_at hl 2 rfl) ?_
        obtain ⟨x12, hx12, hf⟩ := bd_if hf
        refine cv_i (wr := [(a_t_breaths, .inl (cI, 7, .inl t_breaths))]) (ws' := [(a_t, .inr (1, [.ref a_t_places, .ref a_t_breaths, .ref a_t_reigns, .int t_here, .int t_crossed, .int t_king, .int t_last, .int t_minute])), (a_t_breaths, .inl (cI, 7, .inl t_breaths))]) ⟨hx, hb, hml, hown, hts⟩ hcw55 hK hN hP hD hS hA (c_X1_isHere l D cI cJ cZ cO _ a_t a_t_places a_t_breaths a_t_reigns t_here t_crossed t_king t_last t_minute l4v2 x12 hx12) (q := (RX1, TX1, 8)) (ci := 1) (q0 := 0) rfl rfl [0] [1] [1, 0] rfl rfl rfl rfl (by decide) rfl rfl rfl hl.1 rfl (Nat.le_of_ble_eq_true rfl) dX1_allBreath_12 ⟨Nat.zero_le _, Nat.zero_le _⟩ (fun H locs hP hD hS => ?_)
        refine lv_if_eq (tgt := 27) hx hb dX1_allBreath_15 (by decide) (fun hc => ?_) (fun hc => ?_)
        · replace hf := (if_pos hc).symm.trans hf
          refine lv_iinc (v := l4v2 + 1) (lv' := [(2, .int (l4v2 + 1)), (0, .ref a_t), (1, .int l4v1)]) hx hb dX1_allBreath_27 hl (k := 2) rfl rfl (by decide) rfl (fun ls hl => ?_)
          refine lv_goto (tgt := 4) hx hb dX1_allBreath_30 (by decide) ?_
          exact ih4 l4v1 (l4v2 + 1) _ _ _ hP hD hS (lv_sub hl [1, 2, 0] rfl) hf
        · replace hf := (if_neg hc).symm.trans hf
          refine lv_iload_n hx hb dX1_allBreath_18 rfl (lv_at hl 1 rfl) ?_
          refine lv_aload_n hx hb dX1_allBreath_19 rfl (lv_at hl 0 rfl) ?_
          refine va_get (D := D) (ci := 1) (v := .ref a_t_breaths) (C := RX1) (T := TX1) (N := 8) hx hb hts hmsX1 hown hK hP 0 rfl rfl 1 (by decide) hw15 (fun _ h9 => h9) rfl dX1_allBreath_20 ?_
          refine lv_iload_n hx hb dX1_allBreath_23 rfl (lv_at hl 2 rfl) ?_
          obtain ⟨hi24, hf⟩ := ix_if hf
          refine va_iald (D := D) hx hb hK hP 1 0 rfl rfl hi24 dX1_allBreath_24 ?_
          refine lv_iadd hx hb dX1_allBreath_25 ?_
          refine lv_istore_n (lv' := [(1, .int (l4v1 + (t_breaths l4v2.toNatClampNeg))), (0, .ref a_t), (2, .int l4v2)]) hx hb dX1_allBreath_26 rfl hl (by decide) rfl (fun ls hl => ?_)
          refine lv_iinc (v := l4v2 + 1) (lv' := [(2, .int (l4v2 + 1)), (1, .int (l4v1 + (t_breaths l4v2.toNatClampNeg))), (0, .ref a_t)]) hx hb dX1_allBreath_27 hl (k := 2) rfl rfl (by decide) rfl (fun ls hl => ?_)
          refine lv_goto (tgt := 4) hx hb dX1_allBreath_30 (by decide) ?_
          exact ih4 (l4v1 + (t_breaths l4v2.toNatClampNeg)) (l4v2 + 1) _ _ _ hP hD hS (lv_sub hl [2, 1, 0] rfl) hf
  exact hL4 5000 (0 : Int32) (0 : Int32) _ _ _ hP hD hS (lv_sub hl [2, 1, 0] rfl) hf
abbrev rm_X2_roadsOf : Room := { frames := 0, cells := 0, slots := 0, locals := 0 }
theorem ms_X2_roadsOf_X2 : ∀ w ∈ u_ws RX2 TX2 2, w ∈ wsX2_roadsOf := fun w h => List.mem_cons_of_mem _ (List.mem_append_right _ (h))
set_option maxHeartbeats 4000000 in
set_option maxRecDepth 100000 in
theorem c_X2_roadsOf (l : Launch) (D : va_G) (cI cJ cZ cO : ClassId) (sz : Nat) (a_t : Nat) (a_t_roads : Nat) (t_homes : Int32) (t_roads : Nat → Int32) (p1 : Int32) (res : Int32) (hf : f_X2_roadsOf t_roads p1 = some res) : MetI l yX2_roadsOf wsX2_roadsOf rm_X2_roadsOf [.ref a_t, .int p1] D (tys4 cI cJ cZ cO) [(a_t, .inr (2, [.ref a_t_roads, .int t_homes])), (a_t_roads, .inl (cI, 12, .inl t_roads))] sz res [(a_t, .inr (2, [.ref a_t_roads, .int t_homes])), (a_t_roads, .inl (cI, 12, .inl t_roads))] := by
  refine met_i (cc := cX2_roadsOf) (maxL := 2) (by decide) rfl (Nat.le_of_ble_eq_true rfl) ?_
  intro p e s m args below meth c Q A hx hb hml hown hts hK hN hA fin H locs ls hP hD hS hl
  replace hown : s.vm.findClass RX2 = some m.cls := hown
  replace hl : lv_has ls 2 [(0, .ref a_t), (1, .int p1)] := hl
  rw [f_X2_roadsOf] at hf
  have hw9 := hts (.fieldLink RX2 9 "TouchReign$Land" "roads" "[I") (by decide +kernel)
  have hmsX2 := ms_X2_roadsOf_X2
  refine lv_iload_n hx hb dX2_roadsOf_0 rfl (lv_at hl 1 rfl) ?_
  refine lv_if_lt (tgt := 19) hx hb dX2_roadsOf_1 (by decide) (fun hc => ?_) (fun hc => ?_)
  · replace hf := (if_pos hc).symm.trans hf
    refine lv_iconst (v := 0) hx hb dX2_roadsOf_19 (by decide) ?_
    obtain rfl := Option.some.inj hf
    exact fin _ _ _ _ dX2_roadsOf_20 hP hD hS
  · replace hf := (if_neg hc).symm.trans hf
    refine lv_iload_n hx hb dX2_roadsOf_4 rfl (lv_at hl 1 rfl) ?_
    refine lv_bipush (v := 12) hx hb dX2_roadsOf_5 (by decide) ?_
    refine lv_icmp_ge (tgt := 19) hx hb dX2_roadsOf_7 (by decide) (fun hc => ?_) (fun hc => ?_)
    · replace hf := (if_pos hc).symm.trans hf
      refine lv_iconst (v := 0) hx hb dX2_roadsOf_19 (by decide) ?_
      obtain rfl := Option.some.inj hf
      exact fin _ _ _ _ dX2_roadsOf_20 hP hD hS
    · replace hf := (if_neg hc).symm.trans hf
      refine lv_aload_n hx hb dX2_roadsOf_10 rfl (lv_at hl 0 rfl) ?_
      refine va_get (D := D) (ci := 2) (v := .ref a_t_roads) (C := RX2) (T := TX2) (N := 2) hx hb hts hmsX2 hown hK hP 0 rfl rfl 0 (by decide) hw9 (fun _ h9 => h9) rfl dX2_roadsOf_11 ?_
      refine lv_iload_n hx hb dX2_roadsOf_14 rfl (lv_at hl 1 rfl) ?_
      obtain ⟨hi15, hf⟩ := ix_if hf
      refine va_iald (D := D) hx hb hK hP 1 0 rfl rfl hi15 dX2_roadsOf_15 ?_
      refine lv_goto (tgt := 20) hx hb dX2_roadsOf_16 (by decide) ?_
      obtain rfl := Option.some.inj hf
      exact fin _ _ _ _ dX2_roadsOf_20 hP hD hS
abbrev rm_X1_reasonAgainstRun : Room := { frames := 1, cells := 0, slots := 0, locals := 21 }
theorem ms_X1_reasonAgainstRun_X1 : ∀ w ∈ u_ws RX1 TX1 8, w ∈ wsX1_reasonAgainstRun := fun w h => List.mem_cons_of_mem _ (List.mem_append_left _ (List.mem_append_right _ (h)))
set_option maxHeartbeats 4000000 in
set_option maxRecDepth 100000 in
theorem c_X1_reasonAgainstRun (l : Launch) (D : va_G) (cI cJ cZ cO : ClassId) (sz : Nat) (a_t : Nat) (a_t_places : Nat) (a_t_breaths : Nat) (a_t_reigns : Nat) (a_o1 : Nat) (a_o1_roads : Nat) (t_here : Int32) (t_crossed : Int32) (t_king : Int32) (t_last : Int32) (t_minute : Int32) (t_places : Nat → Int32) (t_breaths : Nat → Int32) (o1_homes : Int32) (o1_roads : Nat → Int32) (p2 : Int32) (p3 : Int32) (res : Int32) (hf : f_X1_reasonAgainstRun t_crossed t_places t_breaths o1_roads p2 p3 = some res) : MetI l yX1_reasonAgainstRun wsX1_reasonAgainstRun rm_X1_reasonAgainstRun [.ref a_t, .ref a_o1, .int p2, .int p3] D (tys4 cI cJ cZ cO) [(a_t, .inr (1, [.ref a_t_places, .ref a_t_breaths, .ref a_t_reigns, .int t_here, .int t_crossed, .int t_king, .int t_last, .int t_minute])), (a_t_places, .inl (cI, 7, .inl t_places)), (a_t_breaths, .inl (cI, 7, .inl t_breaths)), (a_o1, .inr (2, [.ref a_o1_roads, .int o1_homes])), (a_o1_roads, .inl (cI, 12, .inl o1_roads))] sz res [(a_t, .inr (1, [.ref a_t_places, .ref a_t_breaths, .ref a_t_reigns, .int t_here, .int t_crossed, .int t_king, .int t_last, .int t_minute])), (a_t_places, .inl (cI, 7, .inl t_places)), (a_t_breaths, .inl (cI, 7, .inl t_breaths)), (a_o1, .inr (2, [.ref a_o1_roads, .int o1_homes])), (a_o1_roads, .inl (cI, 12, .inl o1_roads))] := by
  refine met_i (cc := cX1_reasonAgainstRun) (maxL := 4) (by decide) rfl (Nat.le_of_ble_eq_true rfl) ?_
  intro p e s m args below meth c Q A hx hb hml hown hts hK hN hA fin H locs ls hP hD hS hl
  replace hown : s.vm.findClass RX1 = some m.cls := hown
  replace hl : lv_has ls 4 [(0, .ref a_t), (1, .ref a_o1), (2, .int p2), (3, .int p3)] := hl
  rw [f_X1_reasonAgainstRun] at hf
  have hcw65 := cwV (R := rm_X1_reasonAgainstRun) (rm := rm_X1_placeOf) 1 hts gX1_reasonAgainstRun_X1_placeOf rfl rfl rfl (by decide +kernel) ⟨Nat.le_of_ble_eq_true rfl, Nat.le_of_ble_eq_true rfl⟩
  have hcw69 := cwV (R := rm_X1_reasonAgainstRun) (rm := rm_X2_roadsOf) 1 hts gX1_reasonAgainstRun_X2_roadsOf rfl rfl rfl (by decide +kernel) ⟨Nat.le_of_ble_eq_true rfl, Nat.le_of_ble_eq_true rfl⟩
  have hiniX9 := hts (.initialized RX9) (by decide +kernel)
  have hcw51 := va_cnB (R := rm_X1_reasonAgainstRun) (rm := rm_X9_holds) 2 hts gX1_reasonAgainstRun_X9_holds_n51 rfl rfl rfl (hN.1 (.methodLinkNest RX1 51 yX9_holds RX9) (by decide +kernel)) hiniX9 (by decide +kernel) ⟨Nat.le_of_ble_eq_true rfl, Nat.le_of_ble_eq_true rfl⟩
  have hst51 := hts (.static yX9_holds) (by decide +kernel)
  have hcw74 := cwV (R := rm_X1_reasonAgainstRun) (rm := rm_X1_breathOf) 1 hts gX1_reasonAgainstRun_X1_breathOf rfl rfl rfl (by decide +kernel) ⟨Nat.le_of_ble_eq_true rfl, Nat.le_of_ble_eq_true rfl⟩
  have hw25 := hts (.fieldLink RX1 25 "TouchReign$Court" "crossed" "I") (by decide +kernel)
  have hmsX1 := ms_X1_reasonAgainstRun_X1
  refine lv_aload_n hx hb dX1_reasonAgainstRun_0 rfl (lv_at hl 1 rfl) ?_
  refine lv_aload_n hx hb dX1_reasonAgainstRun_1 rfl (lv_at hl 0 rfl) ?_
  refine lv_iload_n hx hb dX1_reasonAgainstRun_2 rfl (lv_at hl 2 rfl) ?_
  obtain ⟨x3, hx3, hf⟩ := bd_if hf
  refine cv_i (wr := [(a_t_breaths, .inl (cI, 7, .inl t_breaths)), (a_o1, .inr (2, [.ref a_o1_roads, .int o1_homes])), (a_o1_roads, .inl (cI, 12, .inl o1_roads))]) (ws' := [(a_t, .inr (1, [.ref a_t_places, .ref a_t_breaths, .ref a_t_reigns, .int t_here, .int t_crossed, .int t_king, .int t_last, .int t_minute])), (a_t_places, .inl (cI, 7, .inl t_places)), (a_t_breaths, .inl (cI, 7, .inl t_breaths)), (a_o1, .inr (2, [.ref a_o1_roads, .int o1_homes])), (a_o1_roads, .inl (cI, 12, .inl o1_roads))]) ⟨hx, hb, hml, hown, hts⟩ hcw65 hK hN hP hD hS hA (c_X1_placeOf l D cI cJ cZ cO _ a_t a_t_places a_t_breaths a_t_reigns t_here t_crossed t_king t_last t_minute t_places p2 x3 hx3) (q := (RX1, TX1, 8)) (ci := 1) (q0 := 0) rfl rfl [0, 1] [2, 3, 4] [3, 4, 0, 1, 2] rfl rfl rfl rfl (by decide) rfl rfl rfl hl.1 rfl (Nat.le_of_ble_eq_true rfl) dX1_reasonAgainstRun_3 ⟨Nat.zero_le _, Nat.zero_le _⟩ (fun H locs hP hD hS => ?_)
  obtain ⟨x6, hx6, hf⟩ := bd_if hf
  refine cv_i (wr := [(a_t, .inr (1, [.ref a_t_places, .ref a_t_breaths, .ref a_t_reigns, .int t_here, .int t_crossed, .int t_king, .int t_last, .int t_minute])), (a_t_places, .inl (cI, 7, .inl t_places)), (a_t_breaths, .inl (cI, 7, .inl t_breaths))]) (ws' := [(a_t, .inr (1, [.ref a_t_places, .ref a_t_breaths, .ref a_t_reigns, .int t_here, .int t_crossed, .int t_king, .int t_last, .int t_minute])), (a_t_places, .inl (cI, 7, .inl t_places)), (a_t_breaths, .inl (cI, 7, .inl t_breaths)), (a_o1, .inr (2, [.ref a_o1_roads, .int o1_homes])), (a_o1_roads, .inl (cI, 12, .inl o1_roads))]) ⟨hx, hb, hml, hown, hts⟩ hcw69 hK hN hP hD hS hA (c_X2_roadsOf l D cI cJ cZ cO _ a_o1 a_o1_roads o1_homes o1_roads x3 x6 hx6) (q := (RX2, TX2, 2)) (ci := 2) (q0 := 3) rfl rfl [3, 4] [0, 1, 2] [0, 1, 2, 3, 4] rfl rfl rfl rfl (by decide) rfl rfl rfl hl.1 rfl (Nat.le_of_ble_eq_true rfl) dX1_reasonAgainstRun_6 ⟨Nat.zero_le _, Nat.zero_le _⟩ (fun H locs hP hD hS => ?_)
  refine lv_iload_n hx hb dX1_reasonAgainstRun_9 rfl (lv_at hl 3 rfl) ?_
  obtain ⟨x10, hx10, hf⟩ := bd_if hf
  refine cn_i (wr := [(a_t, .inr (1, [.ref a_t_places, .ref a_t_breaths, .ref a_t_reigns, .int t_here, .int t_crossed, .int t_king, .int t_last, .int t_minute])), (a_t_places, .inl (cI, 7, .inl t_places)), (a_t_breaths, .inl (cI, 7, .inl t_breaths)), (a_o1, .inr (2, [.ref a_o1_roads, .int o1_homes])), (a_o1_roads, .inl (cI, 12, .inl o1_roads))]) (ws' := [(a_t, .inr (1, [.ref a_t_places, .ref a_t_breaths, .ref a_t_reigns, .int t_here, .int t_crossed, .int t_king, .int t_last, .int t_minute])), (a_t_places, .inl (cI, 7, .inl t_places)), (a_t_breaths, .inl (cI, 7, .inl t_breaths)), (a_o1, .inr (2, [.ref a_o1_roads, .int o1_homes])), (a_o1_roads, .inl (cI, 12, .inl o1_roads))]) ⟨hx, hb, hml, hown, hts⟩ ⟨hcw51, hst51, trivial⟩ hK hN hP hD hS hA (c_X9_holds l D cI cJ cZ cO _ x6 p3 x10 hx10) [] [0, 1, 2, 3, 4] [0, 1, 2, 3, 4] rfl rfl rfl rfl (by decide) rfl rfl rfl hl.1 rfl (Nat.le_of_ble_eq_true rfl) dX1_reasonAgainstRun_10 ⟨Nat.zero_le _, Nat.zero_le _⟩ (fun H locs hP hD hS => ?_)
  refine lv_if_ne (tgt := 18) hx hb dX1_reasonAgainstRun_13 (by decide) (fun hc => ?_) (fun hc => ?_)
  · replace hf := (if_neg hc).symm.trans hf
    refine lv_aload_n hx hb dX1_reasonAgainstRun_18 rfl (lv_at hl 0 rfl) ?_
    refine lv_iload_n hx hb dX1_reasonAgainstRun_19 rfl (lv_at hl 2 rfl) ?_
    obtain ⟨x20, hx20, hf⟩ := bd_if hf
    refine cv_i (wr := [(a_t_places, .inl (cI, 7, .inl t_places)), (a_o1, .inr (2, [.ref a_o1_roads, .int o1_homes])), (a_o1_roads, .inl (cI, 12, .inl o1_roads))]) (ws' := [(a_t, .inr (1, [.ref a_t_places, .ref a_t_breaths, .ref a_t_reigns, .int t_here, .int t_crossed, .int t_king, .int t_last, .int t_minute])), (a_t_places, .inl (cI, 7, .inl t_places)), (a_t_breaths, .inl (cI, 7, .inl t_breaths)), (a_o1, .inr (2, [.ref a_o1_roads, .int o1_homes])), (a_o1_roads, .inl (cI, 12, .inl o1_roads))]) ⟨hx, hb, hml, hown, hts⟩ hcw74 hK hN hP hD hS hA (c_X1_breathOf l D cI cJ cZ cO _ a_t a_t_places a_t_breaths a_t_reigns t_here t_crossed t_king t_last t_minute t_breaths p2 x20 hx20) (q := (RX1, TX1, 8)) (ci := 1) (q0 := 0) rfl rfl [0, 2] [1, 3, 4] [3, 0, 4, 1, 2] rfl rfl rfl rfl (by decide) rfl rfl rfl hl.1 rfl (Nat.le_of_ble_eq_true rfl) dX1_reasonAgainstRun_20 ⟨Nat.zero_le _, Nat.zero_le _⟩ (fun H locs hP hD hS => ?_)
    refine lv_if_ne (tgt := 28) hx hb dX1_reasonAgainstRun_23 (by decide) (fun hc => ?_) (fun hc => ?_)
    · replace hf := (if_neg hc).symm.trans hf
      refine lv_aload_n hx hb dX1_reasonAgainstRun_28 rfl (lv_at hl 0 rfl) ?_
      refine va_get (D := D) (ci := 1) (v := .int t_crossed) (C := RX1) (T := TX1) (N := 8) hx hb hts hmsX1 hown hK hP 0 rfl rfl 4 (by decide) hw25 (fun _ h9 => h9) rfl dX1_reasonAgainstRun_29 ?_
      refine lv_iload_n hx hb dX1_reasonAgainstRun_32 rfl (lv_at hl 2 rfl) ?_
      obtain ⟨x33, hx33, hf⟩ := bd_if hf
      refine cn_i (wr := [(a_t, .inr (1, [.ref a_t_places, .ref a_t_breaths, .ref a_t_reigns, .int t_here, .int t_crossed, .int t_king, .int t_last, .int t_minute])), (a_t_places, .inl (cI, 7, .inl t_places)), (a_t_breaths, .inl (cI, 7, .inl t_breaths)), (a_o1, .inr (2, [.ref a_o1_roads, .int o1_homes])), (a_o1_roads, .inl (cI, 12, .inl o1_roads))]) (ws' := [(a_t, .inr (1, [.ref a_t_places, .ref a_t_breaths, .ref a_t_reigns, .int t_here, .int t_crossed, .int t_king, .int t_last, .int t_minute])), (a_t_places, .inl (cI, 7, .inl t_places)), (a_t_breaths, .inl (cI, 7, .inl t_breaths)), (a_o1, .inr (2, [.ref a_o1_roads, .int o1_homes])), (a_o1_roads, .inl (cI, 12, .inl o1_roads))]) ⟨hx, hb, hml, hown, hts⟩ ⟨hcw51, hst51, trivial⟩ hK hN hP hD hS hA (c_X9_holds l D cI cJ cZ cO _ t_crossed p2 x33 hx33) [] [0, 1, 2, 3, 4] [0, 1, 2, 3, 4] rfl rfl rfl rfl (by decide) rfl rfl rfl hl.1 rfl (Nat.le_of_ble_eq_true rfl) dX1_reasonAgainstRun_33 ⟨Nat.zero_le _, Nat.zero_le _⟩ (fun H locs hP hD hS => ?_)
      refine lv_if_eq (tgt := 43) hx hb dX1_reasonAgainstRun_36 (by decide) (fun hc => ?_) (fun hc => ?_)
      · replace hf := (if_pos hc).symm.trans hf
        refine lv_iconst (v := 0) hx hb dX1_reasonAgainstRun_43 (by decide) ?_
        obtain rfl := Option.some.inj hf
        exact fin _ _ _ _ dX1_reasonAgainstRun_44 hP hD hS
      · replace hf := (if_neg hc).symm.trans hf
        refine lv_iconst (v := 4) hx hb dX1_reasonAgainstRun_39 (by decide) ?_
        refine lv_goto (tgt := 44) hx hb dX1_reasonAgainstRun_40 (by decide) ?_
        obtain rfl := Option.some.inj hf
        exact fin _ _ _ _ dX1_reasonAgainstRun_44 hP hD hS
    · replace hf := (if_pos hc).symm.trans hf
      refine lv_iconst (v := 3) hx hb dX1_reasonAgainstRun_26 (by decide) ?_
      obtain rfl := Option.some.inj hf
      exact fin _ _ _ _ dX1_reasonAgainstRun_27 hP hD hS
  · replace hf := (if_pos hc).symm.trans hf
    refine lv_iconst (v := 2) hx hb dX1_reasonAgainstRun_16 (by decide) ?_
    obtain rfl := Option.some.inj hf
    exact fin _ _ _ _ dX1_reasonAgainstRun_17 hP hD hS
abbrev rm_X1_reasonAgainstTouch : Room := { frames := 2, cells := 0, slots := 0, locals := 42 }
theorem ms_X1_reasonAgainstTouch_X1 : ∀ w ∈ u_ws RX1 TX1 8, w ∈ wsX1_reasonAgainstTouch := fun w h => List.mem_cons_of_mem _ (List.mem_append_left _ (List.mem_append_right _ (h)))
theorem ms_X1_reasonAgainstTouch_X2 : ∀ w ∈ u_ws RX2 TX2 2, w ∈ wsX1_reasonAgainstTouch := fun w h => List.mem_cons_of_mem _ (List.mem_append_right _ (h))
set_option maxHeartbeats 4000000 in
set_option maxRecDepth 100000 in
theorem c_X1_reasonAgainstTouch (l : Launch) (D : va_G) (cI cJ cZ cO : ClassId) (sz : Nat) (a_t : Nat) (a_t_places : Nat) (a_t_breaths : Nat) (a_t_reigns : Nat) (a_o1 : Nat) (a_o1_roads : Nat) (t_here : Int32) (t_crossed : Int32) (t_king : Int32) (t_last : Int32) (t_minute : Int32) (t_places : Nat → Int32) (o1_homes : Int32) (p2 : Int32) (p3 : Int32) (res : Int32) (hf : f_X1_reasonAgainstTouch t_here t_crossed t_king t_last t_places o1_homes p2 p3 = some res) : MetI l yX1_reasonAgainstTouch wsX1_reasonAgainstTouch rm_X1_reasonAgainstTouch [.ref a_t, .ref a_o1, .int p2, .int p3] D (tys4 cI cJ cZ cO) [(a_t, .inr (1, [.ref a_t_places, .ref a_t_breaths, .ref a_t_reigns, .int t_here, .int t_crossed, .int t_king, .int t_last, .int t_minute])), (a_t_places, .inl (cI, 7, .inl t_places)), (a_o1, .inr (2, [.ref a_o1_roads, .int o1_homes]))] sz res [(a_t, .inr (1, [.ref a_t_places, .ref a_t_breaths, .ref a_t_reigns, .int t_here, .int t_crossed, .int t_king, .int t_last, .int t_minute])), (a_t_places, .inl (cI, 7, .inl t_places)), (a_o1, .inr (2, [.ref a_o1_roads, .int o1_homes]))] := by
  refine met_i (cc := cX1_reasonAgainstTouch) (maxL := 4) (by decide) rfl (Nat.le_of_ble_eq_true rfl) ?_
  intro p e s m args below meth c Q A hx hb hml hown hts hK hN hA fin H locs ls hP hD hS hl
  replace hown : s.vm.findClass RX1 = some m.cls := hown
  replace hl : lv_has ls 4 [(0, .ref a_t), (1, .ref a_o1), (2, .int p2), (3, .int p3)] := hl
  rw [f_X1_reasonAgainstTouch] at hf
  have hcw55 := cwV (R := rm_X1_reasonAgainstTouch) (rm := rm_X1_isHere) 1 hts gX1_reasonAgainstTouch_X1_isHere rfl rfl rfl (by decide +kernel) ⟨Nat.le_of_ble_eq_true rfl, Nat.le_of_ble_eq_true rfl⟩
  have hw28 := hts (.fieldLink RX1 28 "TouchReign$Court" "king" "I") (by decide +kernel)
  have hmsX1 := ms_X1_reasonAgainstTouch_X1
  have hw25 := hts (.fieldLink RX1 25 "TouchReign$Court" "crossed" "I") (by decide +kernel)
  have hiniX9 := hts (.initialized RX9) (by decide +kernel)
  have hcw51 := va_cnB (R := rm_X1_reasonAgainstTouch) (rm := rm_X9_holds) 2 hts gX1_reasonAgainstTouch_X9_holds_n51 rfl rfl rfl (hN.1 (.methodLinkNest RX1 51 yX9_holds RX9) (by decide +kernel)) hiniX9 (by decide +kernel) ⟨Nat.le_of_ble_eq_true rfl, Nat.le_of_ble_eq_true rfl⟩
  have hst51 := hts (.static yX9_holds) (by decide +kernel)
  have hcw65 := cwV (R := rm_X1_reasonAgainstTouch) (rm := rm_X1_placeOf) 1 hts gX1_reasonAgainstTouch_X1_placeOf rfl rfl rfl (by decide +kernel) ⟨Nat.le_of_ble_eq_true rfl, Nat.le_of_ble_eq_true rfl⟩
  have hw77 := hts (.fieldLink RX1 77 "TouchReign$Land" "homes" "I") (by decide +kernel)
  have hmsX2 := ms_X1_reasonAgainstTouch_X2
  have hw31 := hts (.fieldLink RX1 31 "TouchReign$Court" "last" "I") (by decide +kernel)
  refine lv_aload_n hx hb dX1_reasonAgainstTouch_0 rfl (lv_at hl 0 rfl) ?_
  refine lv_iload_n hx hb dX1_reasonAgainstTouch_1 rfl (lv_at hl 3 rfl) ?_
  obtain ⟨x2, hx2, hf⟩ := bd_if hf
  refine cv_i (wr := [(a_t_places, .inl (cI, 7, .inl t_places)), (a_o1, .inr (2, [.ref a_o1_roads, .int o1_homes]))]) (ws' := [(a_t, .inr (1, [.ref a_t_places, .ref a_t_breaths, .ref a_t_reigns, .int t_here, .int t_crossed, .int t_king, .int t_last, .int t_minute])), (a_t_places, .inl (cI, 7, .inl t_places)), (a_o1, .inr (2, [.ref a_o1_roads, .int o1_homes]))]) ⟨hx, hb, hml, hown, hts⟩ hcw55 hK hN hP hD hS hA (c_X1_isHere l D cI cJ cZ cO _ a_t a_t_places a_t_breaths a_t_reigns t_here t_crossed t_king t_last t_minute p3 x2 hx2) (q := (RX1, TX1, 8)) (ci := 1) (q0 := 0) rfl rfl [0] [1, 2] [2, 0, 1] rfl rfl rfl rfl (by decide) rfl rfl rfl hl.1 rfl (Nat.le_of_ble_eq_true rfl) dX1_reasonAgainstTouch_2 ⟨Nat.zero_le _, Nat.zero_le _⟩ (fun H locs hP hD hS => ?_)
  refine lv_if_ne (tgt := 10) hx hb dX1_reasonAgainstTouch_5 (by decide) (fun hc => ?_) (fun hc => ?_)
  · replace hf := (if_neg hc).symm.trans hf
    refine lv_iload_n hx hb dX1_reasonAgainstTouch_10 rfl (lv_at hl 2 rfl) ?_
    refine lv_iload_n hx hb dX1_reasonAgainstTouch_11 rfl (lv_at hl 3 rfl) ?_
    refine lv_icmp_ne (tgt := 17) hx hb dX1_reasonAgainstTouch_12 (by decide) (fun hc => ?_) (fun hc => ?_)
    · replace hf := (if_neg hc).symm.trans hf
      refine lv_iload_n hx hb dX1_reasonAgainstTouch_17 rfl (lv_at hl 2 rfl) ?_
      refine lv_aload_n hx hb dX1_reasonAgainstTouch_18 rfl (lv_at hl 0 rfl) ?_
      refine va_get (D := D) (ci := 1) (v := .int t_king) (C := RX1) (T := TX1) (N := 8) hx hb hts hmsX1 hown hK hP 0 rfl rfl 5 (by decide) hw28 (fun _ h9 => h9) rfl dX1_reasonAgainstTouch_19 ?_
      refine lv_icmp_eq (tgt := 27) hx hb dX1_reasonAgainstTouch_22 (by decide) (fun hc => ?_) (fun hc => ?_)
      · replace hf := (if_pos hc).symm.trans hf
        refine lv_aload_n hx hb dX1_reasonAgainstTouch_27 rfl (lv_at hl 0 rfl) ?_
        refine va_get (D := D) (ci := 1) (v := .int t_crossed) (C := RX1) (T := TX1) (N := 8) hx hb hts hmsX1 hown hK hP 0 rfl rfl 4 (by decide) hw25 (fun _ h9 => h9) rfl dX1_reasonAgainstTouch_28 ?_
        refine lv_iload_n hx hb dX1_reasonAgainstTouch_31 rfl (lv_at hl 2 rfl) ?_
        obtain ⟨x32, hx32, hf⟩ := bd_if hf
        refine cn_i (wr := [(a_t, .inr (1, [.ref a_t_places, .ref a_t_breaths, .ref a_t_reigns, .int t_here, .int t_crossed, .int t_king, .int t_last, .int t_minute])), (a_t_places, .inl (cI, 7, .inl t_places)), (a_o1, .inr (2, [.ref a_o1_roads, .int o1_homes]))]) (ws' := [(a_t, .inr (1, [.ref a_t_places, .ref a_t_breaths, .ref a_t_reigns, .int t_here, .int t_crossed, .int t_king, .int t_last, .int t_minute])), (a_t_places, .inl (cI, 7, .inl t_places)), (a_o1, .inr (2, [.ref a_o1_roads, .int o1_homes]))]) ⟨hx, hb, hml, hown, hts⟩ ⟨hcw51, hst51, trivial⟩ hK hN hP hD hS hA (c_X9_holds l D cI cJ cZ cO _ t_crossed p2 x32 hx32) [] [0, 1, 2] [0, 1, 2] rfl rfl rfl rfl (by decide) rfl rfl rfl hl.1 rfl (Nat.le_of_ble_eq_true rfl) dX1_reasonAgainstTouch_32 ⟨Nat.zero_le _, Nat.zero_le _⟩ (fun H locs hP hD hS => ?_)
        refine lv_if_eq (tgt := 40) hx hb dX1_reasonAgainstTouch_35 (by decide) (fun hc => ?_) (fun hc => ?_)
        · replace hf := (if_pos hc).symm.trans hf
          refine lv_aload_n hx hb dX1_reasonAgainstTouch_40 rfl (lv_at hl 0 rfl) ?_
          refine lv_iload_n hx hb dX1_reasonAgainstTouch_41 rfl (lv_at hl 2 rfl) ?_
          obtain ⟨x42, hx42, hf⟩ := bd_if hf
          refine cv_i (wr := [(a_o1, .inr (2, [.ref a_o1_roads, .int o1_homes]))]) (ws' := [(a_t, .inr (1, [.ref a_t_places, .ref a_t_breaths, .ref a_t_reigns, .int t_here, .int t_crossed, .int t_king, .int t_last, .int t_minute])), (a_t_places, .inl (cI, 7, .inl t_places)), (a_o1, .inr (2, [.ref a_o1_roads, .int o1_homes]))]) ⟨hx, hb, hml, hown, hts⟩ hcw65 hK hN hP hD hS hA (c_X1_placeOf l D cI cJ cZ cO _ a_t a_t_places a_t_breaths a_t_reigns t_here t_crossed t_king t_last t_minute t_places p2 x42 hx42) (q := (RX1, TX1, 8)) (ci := 1) (q0 := 0) rfl rfl [0, 1] [2] [1, 2, 0] rfl rfl rfl rfl (by decide) rfl rfl rfl hl.1 rfl (Nat.le_of_ble_eq_true rfl) dX1_reasonAgainstTouch_42 ⟨Nat.zero_le _, Nat.zero_le _⟩ (fun H locs hP hD hS => ?_)
          refine lv_aload_n hx hb dX1_reasonAgainstTouch_45 rfl (lv_at hl 0 rfl) ?_
          refine lv_iload_n hx hb dX1_reasonAgainstTouch_46 rfl (lv_at hl 3 rfl) ?_
          obtain ⟨x47, hx47, hf⟩ := bd_if hf
          refine cv_i (wr := [(a_o1, .inr (2, [.ref a_o1_roads, .int o1_homes]))]) (ws' := [(a_t, .inr (1, [.ref a_t_places, .ref a_t_breaths, .ref a_t_reigns, .int t_here, .int t_crossed, .int t_king, .int t_last, .int t_minute])), (a_t_places, .inl (cI, 7, .inl t_places)), (a_o1, .inr (2, [.ref a_o1_roads, .int o1_homes]))]) ⟨hx, hb, hml, hown, hts⟩ hcw65 hK hN hP hD hS hA (c_X1_placeOf l D cI cJ cZ cO _ a_t a_t_places a_t_breaths a_t_reigns t_here t_crossed t_king t_last t_minute t_places p3 x47 hx47) (q := (RX1, TX1, 8)) (ci := 1) (q0 := 0) rfl rfl [0, 1] [2] [1, 2, 0] rfl rfl rfl rfl (by decide) rfl rfl rfl hl.1 rfl (Nat.le_of_ble_eq_true rfl) dX1_reasonAgainstTouch_47 ⟨Nat.zero_le _, Nat.zero_le _⟩ (fun H locs hP hD hS => ?_)
          refine lv_icmp_eq (tgt := 55) hx hb dX1_reasonAgainstTouch_50 (by decide) (fun hc => ?_) (fun hc => ?_)
          · replace hf := (if_pos hc).symm.trans hf
            refine lv_aload_n hx hb dX1_reasonAgainstTouch_55 rfl (lv_at hl 0 rfl) ?_
            refine va_get (D := D) (ci := 1) (v := .int t_crossed) (C := RX1) (T := TX1) (N := 8) hx hb hts hmsX1 hown hK hP 0 rfl rfl 4 (by decide) hw25 (fun _ h9 => h9) rfl dX1_reasonAgainstTouch_56 ?_
            refine lv_iload_n hx hb dX1_reasonAgainstTouch_59 rfl (lv_at hl 3 rfl) ?_
            obtain ⟨x60, hx60, hf⟩ := bd_if hf
            refine cn_i (wr := [(a_t, .inr (1, [.ref a_t_places, .ref a_t_breaths, .ref a_t_reigns, .int t_here, .int t_crossed, .int t_king, .int t_last, .int t_minute])), (a_t_places, .inl (cI, 7, .inl t_places)), (a_o1, .inr (2, [.ref a_o1_roads, .int o1_homes]))]) (ws' := [(a_t, .inr (1, [.ref a_t_places, .ref a_t_breaths, .ref a_t_reigns, .int t_here, .int t_crossed, .int t_king, .int t_last, .int t_minute])), (a_t_places, .inl (cI, 7, .inl t_places)), (a_o1, .inr (2, [.ref a_o1_roads, .int o1_homes]))]) ⟨hx, hb, hml, hown, hts⟩ ⟨hcw51, hst51, trivial⟩ hK hN hP hD hS hA (c_X9_holds l D cI cJ cZ cO _ t_crossed p3 x60 hx60) [] [0, 1, 2] [0, 1, 2] rfl rfl rfl rfl (by decide) rfl rfl rfl hl.1 rfl (Nat.le_of_ble_eq_true rfl) dX1_reasonAgainstTouch_60 ⟨Nat.zero_le _, Nat.zero_le _⟩ (fun H locs hP hD hS => ?_)
            refine lv_if_eq (tgt := 69) hx hb dX1_reasonAgainstTouch_63 (by decide) (fun hc => ?_) (fun hc => ?_)
            · replace hf := (if_pos hc).symm.trans hf
              refine lv_aload_n hx hb dX1_reasonAgainstTouch_69 rfl (lv_at hl 1 rfl) ?_
              refine va_get (D := D) (ci := 2) (v := .int o1_homes) (C := RX2) (T := TX2) (N := 2) hx hb hts hmsX2 hown hK hP 2 rfl rfl 1 (by decide) hw77 (fun _ h9 => h9) rfl dX1_reasonAgainstTouch_70 ?_
              refine lv_aload_n hx hb dX1_reasonAgainstTouch_73 rfl (lv_at hl 0 rfl) ?_
              refine lv_iload_n hx hb dX1_reasonAgainstTouch_74 rfl (lv_at hl 2 rfl) ?_
              obtain ⟨x75, hx75, hf⟩ := bd_if hf
              refine cv_i (wr := [(a_o1, .inr (2, [.ref a_o1_roads, .int o1_homes]))]) (ws' := [(a_t, .inr (1, [.ref a_t_places, .ref a_t_breaths, .ref a_t_reigns, .int t_here, .int t_crossed, .int t_king, .int t_last, .int t_minute])), (a_t_places, .inl (cI, 7, .inl t_places)), (a_o1, .inr (2, [.ref a_o1_roads, .int o1_homes]))]) ⟨hx, hb, hml, hown, hts⟩ hcw65 hK hN hP hD hS hA (c_X1_placeOf l D cI cJ cZ cO _ a_t a_t_places a_t_breaths a_t_reigns t_here t_crossed t_king t_last t_minute t_places p2 x75 hx75) (q := (RX1, TX1, 8)) (ci := 1) (q0 := 0) rfl rfl [0, 1] [2] [1, 2, 0] rfl rfl rfl rfl (by decide) rfl rfl rfl hl.1 rfl (Nat.le_of_ble_eq_true rfl) dX1_reasonAgainstTouch_75 ⟨Nat.zero_le _, Nat.zero_le _⟩ (fun H locs hP hD hS => ?_)
              obtain ⟨x78, hx78, hf⟩ := bd_if hf
              refine cn_i (wr := [(a_t, .inr (1, [.ref a_t_places, .ref a_t_breaths, .ref a_t_reigns, .int t_here, .int t_crossed, .int t_king, .int t_last, .int t_minute])), (a_t_places, .inl (cI, 7, .inl t_places)), (a_o1, .inr (2, [.ref a_o1_roads, .int o1_homes]))]) (ws' := [(a_t, .inr (1, [.ref a_t_places, .ref a_t_breaths, .ref a_t_reigns, .int t_here, .int t_crossed, .int t_king, .int t_last, .int t_minute])), (a_t_places, .inl (cI, 7, .inl t_places)), (a_o1, .inr (2, [.ref a_o1_roads, .int o1_homes]))]) ⟨hx, hb, hml, hown, hts⟩ ⟨hcw51, hst51, trivial⟩ hK hN hP hD hS hA (c_X9_holds l D cI cJ cZ cO _ o1_homes x75 x78 hx78) [] [0, 1, 2] [0, 1, 2] rfl rfl rfl rfl (by decide) rfl rfl rfl hl.1 rfl (Nat.le_of_ble_eq_true rfl) dX1_reasonAgainstTouch_78 ⟨Nat.zero_le _, Nat.zero_le _⟩ (fun H locs hP hD hS => ?_)
              refine lv_if_eq (tgt := 87) hx hb dX1_reasonAgainstTouch_81 (by decide) (fun hc => ?_) (fun hc => ?_)
              · replace hf := (if_pos hc).symm.trans hf
                refine lv_iload_n hx hb dX1_reasonAgainstTouch_87 rfl (lv_at hl 3 rfl) ?_
                refine lv_aload_n hx hb dX1_reasonAgainstTouch_88 rfl (lv_at hl 0 rfl) ?_
                refine va_get (D := D) (ci := 1) (v := .int t_last) (C := RX1) (T := TX1) (N := 8) hx hb hts hmsX1 hown hK hP 0 rfl rfl 6 (by decide) hw31 (fun _ h9 => h9) rfl dX1_reasonAgainstTouch_89 ?_
                refine lv_icmp_ne (tgt := 100) hx hb dX1_reasonAgainstTouch_92 (by decide) (fun hc => ?_) (fun hc => ?_)
                · replace hf := (if_neg hc).symm.trans hf
                  refine lv_iconst (v := 0) hx hb dX1_reasonAgainstTouch_100 (by decide) ?_
                  obtain rfl := Option.some.inj hf
                  exact fin _ _ _ _ dX1_reasonAgainstTouch_101 hP hD hS
                · replace hf := (if_pos hc).symm.trans hf
                  refine lv_bipush (v := 8) hx hb dX1_reasonAgainstTouch_95 (by decide) ?_
                  refine lv_goto (tgt := 101) hx hb dX1_reasonAgainstTouch_97 (by decide) ?_
                  obtain rfl := Option.some.inj hf
                  exact fin _ _ _ _ dX1_reasonAgainstTouch_101 hP hD hS
              · replace hf := (if_neg hc).symm.trans hf
                refine lv_bipush (v := 7) hx hb dX1_reasonAgainstTouch_84 (by decide) ?_
                obtain rfl := Option.some.inj hf
                exact fin _ _ _ _ dX1_reasonAgainstTouch_86 hP hD hS
            · replace hf := (if_neg hc).symm.trans hf
              refine lv_bipush (v := 6) hx hb dX1_reasonAgainstTouch_66 (by decide) ?_
              obtain rfl := Option.some.inj hf
              exact fin _ _ _ _ dX1_reasonAgainstTouch_68 hP hD hS
          · replace hf := (if_neg hc).symm.trans hf
            refine lv_iconst (v := 5) hx hb dX1_reasonAgainstTouch_53 (by decide) ?_
            obtain rfl := Option.some.inj hf
            exact fin _ _ _ _ dX1_reasonAgainstTouch_54 hP hD hS
        · replace hf := (if_neg hc).symm.trans hf
          refine lv_iconst (v := 4) hx hb dX1_reasonAgainstTouch_38 (by decide) ?_
          obtain rfl := Option.some.inj hf
          exact fin _ _ _ _ dX1_reasonAgainstTouch_39 hP hD hS
      · replace hf := (if_neg hc).symm.trans hf
        refine lv_iconst (v := 3) hx hb dX1_reasonAgainstTouch_25 (by decide) ?_
        obtain rfl := Option.some.inj hf
        exact fin _ _ _ _ dX1_reasonAgainstTouch_26 hP hD hS
    · replace hf := (if_pos hc).symm.trans hf
      refine lv_iconst (v := 2) hx hb dX1_reasonAgainstTouch_15 (by decide) ?_
      obtain rfl := Option.some.inj hf
      exact fin _ _ _ _ dX1_reasonAgainstTouch_16 hP hD hS
  · replace hf := (if_pos hc).symm.trans hf
    refine lv_iconst (v := 1) hx hb dX1_reasonAgainstTouch_8 (by decide) ?_
    obtain rfl := Option.some.inj hf
    exact fin _ _ _ _ dX1_reasonAgainstTouch_9 hP hD hS
abbrev rm_X1_reasonAgainst : Room := { frames := 3, cells := 0, slots := 0, locals := 65 }
theorem ms_X1_reasonAgainst_X1 : ∀ w ∈ u_ws RX1 TX1 8, w ∈ wsX1_reasonAgainst := fun w h => List.mem_cons_of_mem _ (List.mem_append_left _ (List.mem_append_right _ (h)))
set_option maxHeartbeats 4000000 in
set_option maxRecDepth 100000 in
theorem c_X1_reasonAgainst (l : Launch) (D : va_G) (cI cJ cZ cO : ClassId) (sz : Nat) (a_t : Nat) (a_t_places : Nat) (a_t_breaths : Nat) (a_t_reigns : Nat) (a_o1 : Nat) (a_o1_roads : Nat) (t_here : Int32) (t_crossed : Int32) (t_king : Int32) (t_last : Int32) (t_minute : Int32) (t_places : Nat → Int32) (t_breaths : Nat → Int32) (o1_homes : Int32) (o1_roads : Nat → Int32) (p2 : Int32) (p3 : Int32) (p4 : Int32) (res : Int32) (hf : f_X1_reasonAgainst t_here t_crossed t_king t_last t_minute t_places t_breaths o1_homes o1_roads p2 p3 p4 = some res) : MetI l yX1_reasonAgainst wsX1_reasonAgainst rm_X1_reasonAgainst [.ref a_t, .ref a_o1, .int p2, .int p3, .int p4] D (tys4 cI cJ cZ cO) [(a_t, .inr (1, [.ref a_t_places, .ref a_t_breaths, .ref a_t_reigns, .int t_here, .int t_crossed, .int t_king, .int t_last, .int t_minute])), (a_t_places, .inl (cI, 7, .inl t_places)), (a_t_breaths, .inl (cI, 7, .inl t_breaths)), (a_o1, .inr (2, [.ref a_o1_roads, .int o1_homes])), (a_o1_roads, .inl (cI, 12, .inl o1_roads))] sz res [(a_t, .inr (1, [.ref a_t_places, .ref a_t_breaths, .ref a_t_reigns, .int t_here, .int t_crossed, .int t_king, .int t_last, .int t_minute])), (a_t_places, .inl (cI, 7, .inl t_places)), (a_t_breaths, .inl (cI, 7, .inl t_breaths)), (a_o1, .inr (2, [.ref a_o1_roads, .int o1_homes])), (a_o1_roads, .inl (cI, 12, .inl o1_roads))] := by
  refine met_i (cc := cX1_reasonAgainst) (maxL := 5) (by decide) rfl (Nat.le_of_ble_eq_true rfl) ?_
  intro p e s m args below meth c Q A hx hb hml hown hts hK hN hA fin H locs ls hP hD hS hl
  replace hown : s.vm.findClass RX1 = some m.cls := hown
  replace hl : lv_has ls 5 [(0, .ref a_t), (1, .ref a_o1), (2, .int p2), (3, .int p3), (4, .int p4)] := hl
  rw [f_X1_reasonAgainst] at hf
  have hcw55 := cwV (R := rm_X1_reasonAgainst) (rm := rm_X1_isHere) 1 hts gX1_reasonAgainst_X1_isHere rfl rfl rfl (by decide +kernel) ⟨Nat.le_of_ble_eq_true rfl, Nat.le_of_ble_eq_true rfl⟩
  have hcw62 := cwV (R := rm_X1_reasonAgainst) (rm := rm_X1_reasonAgainstTouch) 3 hts gX1_reasonAgainst_X1_reasonAgainstTouch rfl rfl rfl (by decide +kernel) ⟨Nat.le_of_ble_eq_true rfl, Nat.le_of_ble_eq_true rfl⟩
  have hcw58 := cwV (R := rm_X1_reasonAgainst) (rm := rm_X1_reasonAgainstRun) 3 hts gX1_reasonAgainst_X1_reasonAgainstRun rfl rfl rfl (by decide +kernel) ⟨Nat.le_of_ble_eq_true rfl, Nat.le_of_ble_eq_true rfl⟩
  have hw34 := hts (.fieldLink RX1 34 "TouchReign$Court" "minute" "I") (by decide +kernel)
  have hmsX1 := ms_X1_reasonAgainst_X1
  refine lv_iload_n hx hb dX1_reasonAgainst_0 rfl (lv_at hl 2 rfl) ?_
  refine lv_iconst (v := 4) hx hb dX1_reasonAgainst_1 (by decide) ?_
  refine lv_icmp_ne (tgt := 21) hx hb dX1_reasonAgainst_2 (by decide) (fun hc => ?_) (fun hc => ?_)
  · replace hf := (if_neg hc).symm.trans hf
    refine lv_aload_n hx hb dX1_reasonAgainst_21 rfl (lv_at hl 0 rfl) ?_
    refine lv_iload_n hx hb dX1_reasonAgainst_22 rfl (lv_at hl 3 rfl) ?_
    obtain ⟨x23, hx23, hf⟩ := bd_if hf
    refine cv_i (wr := [(a_t_places, .inl (cI, 7, .inl t_places)), (a_t_breaths, .inl (cI, 7, .inl t_breaths)), (a_o1, .inr (2, [.ref a_o1_roads, .int o1_homes])), (a_o1_roads, .inl (cI, 12, .inl o1_roads))]) (ws' := [(a_t, .inr (1, [.ref a_t_places, .ref a_t_breaths, .ref a_t_reigns, .int t_here, .int t_crossed, .int t_king, .int t_last, .int t_minute])), (a_t_places, .inl (cI, 7, .inl t_places)), (a_t_breaths, .inl (cI, 7, .inl t_breaths)), (a_o1, .inr (2, [.ref a_o1_roads, .int o1_homes])), (a_o1_roads, .inl (cI, 12, .inl o1_roads))]) ⟨hx, hb, hml, hown, hts⟩ hcw55 hK hN hP hD hS hA (c_X1_isHere l D cI cJ cZ cO _ a_t a_t_places a_t_breaths a_t_reigns t_here t_crossed t_king t_last t_minute p3 x23 hx23) (q := (RX1, TX1, 8)) (ci := 1) (q0 := 0) rfl rfl [0] [1, 2, 3, 4] [4, 0, 1, 2, 3] rfl rfl rfl rfl (by decide) rfl rfl rfl hl.1 rfl (Nat.le_of_ble_eq_true rfl) dX1_reasonAgainst_23 ⟨Nat.zero_le _, Nat.zero_le _⟩ (fun H locs hP hD hS => ?_)
    refine lv_if_ne (tgt := 31) hx hb dX1_reasonAgainst_26 (by decide) (fun hc => ?_) (fun hc => ?_)
    · replace hf := (if_neg hc).symm.trans hf
      refine lv_iload_n hx hb dX1_reasonAgainst_31 rfl (lv_at hl 2 rfl) ?_
      refine lv_if_ne (tgt := 44) hx hb dX1_reasonAgainst_32 (by decide) (fun hc => ?_) (fun hc => ?_)
      · replace hf := (if_neg hc).symm.trans hf
        refine lv_iload_n hx hb dX1_reasonAgainst_44 rfl (lv_at hl 2 rfl) ?_
        refine lv_iconst (v := 1) hx hb dX1_reasonAgainst_45 (by decide) ?_
        refine lv_icmp_ne (tgt := 60) hx hb dX1_reasonAgainst_46 (by decide) (fun hc => ?_) (fun hc => ?_)
        · replace hf := (if_neg hc).symm.trans hf
          refine lv_iconst (v := 0) hx hb dX1_reasonAgainst_60 (by decide) ?_
          obtain rfl := Option.some.inj hf
          exact fin _ _ _ _ dX1_reasonAgainst_61 hP hD hS
        · replace hf := (if_pos hc).symm.trans hf
          refine lv_aload_n hx hb dX1_reasonAgainst_49 rfl (lv_at hl 0 rfl) ?_
          refine lv_aload_n hx hb dX1_reasonAgainst_50 rfl (lv_at hl 1 rfl) ?_
          refine lv_iload_n hx hb dX1_reasonAgainst_51 rfl (lv_at hl 3 rfl) ?_
          refine lv_iload hx hb dX1_reasonAgainst_52 (lv_at hl 4 rfl) ?_
          obtain ⟨x54, hx54, hf⟩ := bd_if hf
          refine cv_i (wr := [(a_t_breaths, .inl (cI, 7, .inl t_breaths)), (a_o1_roads, .inl (cI, 12, .inl o1_roads))]) (ws' := [(a_t, .inr (1, [.ref a_t_places, .ref a_t_breaths, .ref a_t_reigns, .int t_here, .int t_crossed, .int t_king, .int t_last, .int t_minute])), (a_t_places, .inl (cI, 7, .inl t_places)), (a_t_breaths, .inl (cI, 7, .inl t_breaths)), (a_o1, .inr (2, [.ref a_o1_roads, .int o1_homes])), (a_o1_roads, .inl (cI, 12, .inl o1_roads))]) ⟨hx, hb, hml, hown, hts⟩ hcw62 hK hN hP hD hS hA (c_X1_reasonAgainstTouch l D cI cJ cZ cO _ a_t a_t_places a_t_breaths a_t_reigns a_o1 a_o1_roads t_here t_crossed t_king t_last t_minute t_places o1_homes p3 p4 x54 hx54) (q := (RX1, TX1, 8)) (ci := 1) (q0 := 0) rfl rfl [0, 1, 3] [2, 4] [2, 3, 0, 4, 1] rfl rfl rfl rfl (by decide) rfl rfl rfl hl.1 rfl (Nat.le_of_ble_eq_true rfl) dX1_reasonAgainst_54 ⟨Nat.zero_le _, Nat.zero_le _⟩ (fun H locs hP hD hS => ?_)
          refine lv_goto (tgt := 61) hx hb dX1_reasonAgainst_57 (by decide) ?_
          obtain rfl := Option.some.inj hf
          exact fin _ _ _ _ dX1_reasonAgainst_61 hP hD hS
      · replace hf := (if_pos hc).symm.trans hf
        refine lv_aload_n hx hb dX1_reasonAgainst_35 rfl (lv_at hl 0 rfl) ?_
        refine lv_aload_n hx hb dX1_reasonAgainst_36 rfl (lv_at hl 1 rfl) ?_
        refine lv_iload_n hx hb dX1_reasonAgainst_37 rfl (lv_at hl 3 rfl) ?_
        refine lv_iload hx hb dX1_reasonAgainst_38 (lv_at hl 4 rfl) ?_
        obtain ⟨x40, hx40, hf⟩ := bd_if hf
        refine cv_i (wr := []) (ws' := [(a_t, .inr (1, [.ref a_t_places, .ref a_t_breaths, .ref a_t_reigns, .int t_here, .int t_crossed, .int t_king, .int t_last, .int t_minute])), (a_t_places, .inl (cI, 7, .inl t_places)), (a_t_breaths, .inl (cI, 7, .inl t_breaths)), (a_o1, .inr (2, [.ref a_o1_roads, .int o1_homes])), (a_o1_roads, .inl (cI, 12, .inl o1_roads))]) ⟨hx, hb, hml, hown, hts⟩ hcw58 hK hN hP hD hS hA (c_X1_reasonAgainstRun l D cI cJ cZ cO _ a_t a_t_places a_t_breaths a_t_reigns a_o1 a_o1_roads t_here t_crossed t_king t_last t_minute t_places t_breaths o1_homes o1_roads p3 p4 x40 hx40) (q := (RX1, TX1, 8)) (ci := 1) (q0 := 0) rfl rfl [0, 1, 2, 3, 4] [] [0, 1, 2, 3, 4] rfl rfl rfl rfl (by decide) rfl rfl rfl hl.1 rfl (Nat.le_of_ble_eq_true rfl) dX1_reasonAgainst_40 ⟨Nat.zero_le _, Nat.zero_le _⟩ (fun H locs hP hD hS => ?_)
        obtain rfl := Option.some.inj hf
        exact fin _ _ _ _ dX1_reasonAgainst_43 hP hD hS
    · replace hf := (if_pos hc).symm.trans hf
      refine lv_iconst (v := 1) hx hb dX1_reasonAgainst_29 (by decide) ?_
      obtain rfl := Option.some.inj hf
      exact fin _ _ _ _ dX1_reasonAgainst_30 hP hD hS
  · replace hf := (if_pos hc).symm.trans hf
    refine lv_aload_n hx hb dX1_reasonAgainst_5 rfl (lv_at hl 0 rfl) ?_
    refine va_get (D := D) (ci := 1) (v := .int t_minute) (C := RX1) (T := TX1) (N := 8) hx hb hts hmsX1 hown hK hP 0 rfl rfl 7 (by decide) hw34 (fun _ h9 => h9) rfl dX1_reasonAgainst_6 ?_
    refine lv_bipush (v := 99) hx hb dX1_reasonAgainst_9 (by decide) ?_
    refine lv_icmp_lt (tgt := 19) hx hb dX1_reasonAgainst_11 (by decide) (fun hc => ?_) (fun hc => ?_)
    · replace hf := (if_pos hc).symm.trans hf
      refine lv_iconst (v := 0) hx hb dX1_reasonAgainst_19 (by decide) ?_
      obtain rfl := Option.some.inj hf
      exact fin _ _ _ _ dX1_reasonAgainst_20 hP hD hS
    · replace hf := (if_neg hc).symm.trans hf
      refine lv_bipush (v := 9) hx hb dX1_reasonAgainst_14 (by decide) ?_
      refine lv_goto (tgt := 20) hx hb dX1_reasonAgainst_16 (by decide) ?_
      obtain rfl := Option.some.inj hf
      exact fin _ _ _ _ dX1_reasonAgainst_20 hP hD hS
abbrev rm_X1_act : Room := { frames := 1, cells := 0, slots := 0, locals := 21 }
theorem ms_X1_act_X1 : ∀ w ∈ u_ws RX1 TX1 8, w ∈ wsX1_act := fun w h => List.mem_cons_of_mem _ (List.mem_append_right _ (h))
set_option maxHeartbeats 4000000 in
set_option maxRecDepth 100000 in
theorem c_X1_act (l : Launch) (D : va_G) (cI cJ cZ cO : ClassId) (sz : Nat) (a_t : Nat) (a_t_places : Nat) (a_t_breaths : Nat) (a_t_reigns : Nat) (t_here : Int32) (t_crossed : Int32) (t_king : Int32) (t_last : Int32) (t_minute : Int32) (t_places : Nat → Int32) (t_breaths : Nat → Int32) (t_reigns : Nat → Int32) (p1 : Int32) (p2 : Int32) (p3 : Int32) (res : Int32 × Int32 × Int32 × Int32 × (Nat → Int32) × (Nat → Int32) × (Nat → Int32)) (hf : f_X1_act t_crossed t_king t_last t_minute t_places t_breaths t_reigns p1 p2 p3 = some res) : MetV l yX1_act wsX1_act rm_X1_act [.ref a_t, .int p1, .int p2, .int p3] D (tys4 cI cJ cZ cO) [(a_t, .inr (1, [.ref a_t_places, .ref a_t_breaths, .ref a_t_reigns, .int t_here, .int t_crossed, .int t_king, .int t_last, .int t_minute])), (a_t_places, .inl (cI, 7, .inl t_places)), (a_t_breaths, .inl (cI, 7, .inl t_breaths)), (a_t_reigns, .inl (cI, 7, .inl t_reigns))] sz [(a_t, .inr (1, [.ref a_t_places, .ref a_t_breaths, .ref a_t_reigns, .int t_here, .int res.1, .int res.2.1, .int res.2.2.1, .int res.2.2.2.1])), (a_t_places, .inl (cI, 7, .inl res.2.2.2.2.1)), (a_t_breaths, .inl (cI, 7, .inl res.2.2.2.2.2.1)), (a_t_reigns, .inl (cI, 7, .inl res.2.2.2.2.2.2))] := by
  refine met_v (cc := cX1_act) (maxL := 4) (by decide) rfl (Nat.le_of_ble_eq_true rfl) ?_
  intro p e s m args below meth c Q A hx hb hml hown hts hK hN hA fin H locs ls hP hD hS hl
  replace hown : s.vm.findClass RX1 = some m.cls := hown
  replace hl : lv_has ls 4 [(0, .ref a_t), (1, .int p1), (2, .int p2), (3, .int p3)] := hl
  rw [f_X1_act] at hf
  have hiniX9 := hts (.initialized RX9) (by decide +kernel)
  have hcw43 := va_cnB (R := rm_X1_act) (rm := rm_X9_isOne) 1 hts gX1_act_X9_isOne_n43 rfl rfl rfl (hN.1 (.methodLinkNest RX1 43 yX9_isOne RX9) (by decide +kernel)) hiniX9 (by decide +kernel) ⟨Nat.le_of_ble_eq_true rfl, Nat.le_of_ble_eq_true rfl⟩
  have hst43 := hts (.static yX9_isOne) (by decide +kernel)
  have hw25 := hts (.fieldLink RX1 25 "TouchReign$Court" "crossed" "I") (by decide +kernel)
  have hmsX1 := ms_X1_act_X1
  have hw15 := hts (.fieldLink RX1 15 "TouchReign$Court" "breaths" "[I") (by decide +kernel)
  have hmminl := hts (.methodLink RX1 80 Lib.Math.min.name) (by decide +kernel)
  have hmmins := hts (.static Lib.Math.min.name) (by decide +kernel)
  have hmi := hts (.initialized "java/lang/Math") (by decide +kernel)
  have hmminc := hts (.code Lib.Math.min.name Lib.Math.min.code 2 (some .int)) (by decide +kernel)
  have hw28 := hts (.fieldLink RX1 28 "TouchReign$Court" "king" "I") (by decide +kernel)
  have hw31 := hts (.fieldLink RX1 31 "TouchReign$Court" "last" "I") (by decide +kernel)
  have hw9 := hts (.fieldLink RX1 9 "TouchReign$Court" "places" "[I") (by decide +kernel)
  have hw34 := hts (.fieldLink RX1 34 "TouchReign$Court" "minute" "I") (by decide +kernel)
  have hw18 := hts (.fieldLink RX1 18 "TouchReign$Court" "reigns" "[I") (by decide +kernel)
  refine lv_iload_n hx hb dX1_act_0 rfl (lv_at hl 1 rfl) ?_
  refine lv_iconst (v := 4) hx hb dX1_act_1 (by decide) ?_
  refine lv_icmp_ne (tgt := 39) hx hb dX1_act_2 (by decide) (fun hc => ?_) (fun hc => ?_)
  · replace hf := (if_neg hc).symm.trans hf
    refine lv_iload_n hx hb dX1_act_39 rfl (lv_at hl 2 rfl) ?_
    obtain ⟨x40, hx40, hf⟩ := bd_if hf
    refine cn_i (wr := [(a_t, .inr (1, [.ref a_t_places, .ref a_t_breaths, .ref a_t_reigns, .int t_here, .int t_crossed, .int t_king, .int t_last, .int t_minute])), (a_t_places, .inl (cI, 7, .inl t_places)), (a_t_breaths, .inl (cI, 7, .inl t_breaths)), (a_t_reigns, .inl (cI, 7, .inl t_reigns))]) (ws' := [(a_t, .inr (1, [.ref a_t_places, .ref a_t_breaths, .ref a_t_reigns, .int t_here, .int t_crossed, .int t_king, .int t_last, .int t_minute])), (a_t_places, .inl (cI, 7, .inl t_places)), (a_t_breaths, .inl (cI, 7, .inl t_breaths)), (a_t_reigns, .inl (cI, 7, .inl t_reigns))]) ⟨hx, hb, hml, hown, hts⟩ ⟨hcw43, hst43, trivial⟩ hK hN hP hD hS hA (c_X9_isOne l D cI cJ cZ cO _ p2 x40 hx40) [] [0, 1, 2, 3] [0, 1, 2, 3] rfl rfl rfl rfl (by decide) rfl rfl rfl hl.1 rfl (Nat.le_of_ble_eq_true rfl) dX1_act_40 ⟨Nat.zero_le _, Nat.zero_le _⟩ (fun H locs hP hD hS => ?_)
    refine lv_if_ne (tgt := 47) hx hb dX1_act_43 (by decide) (fun hc => ?_) (fun hc => ?_)
    · replace hf := (if_neg hc).symm.trans hf
      refine lv_iload_n hx hb dX1_act_47 rfl (lv_at hl 1 rfl) ?_
      refine lv_if_ne (tgt := 71) hx hb dX1_act_48 (by decide) (fun hc => ?_) (fun hc => ?_)
      · replace hf := (if_neg hc).symm.trans hf
        refine lv_iload_n hx hb dX1_act_71 rfl (lv_at hl 1 rfl) ?_
        refine lv_iconst (v := 1) hx hb dX1_act_72 (by decide) ?_
        refine lv_icmp_ne (tgt := 89) hx hb dX1_act_73 (by decide) (fun hc => ?_) (fun hc => ?_)
        · replace hf := (if_neg hc).symm.trans hf
          refine lv_iload_n hx hb dX1_act_89 rfl (lv_at hl 1 rfl) ?_
          refine lv_iconst (v := 2) hx hb dX1_act_90 (by decide) ?_
          refine lv_icmp_ne (tgt := 116) hx hb dX1_act_91 (by decide) (fun hc => ?_) (fun hc => ?_)
          · replace hf := (if_neg hc).symm.trans hf
            refine lv_aload_n hx hb dX1_act_116 rfl (lv_at hl 0 rfl) ?_
            refine lv_dup hx hb dX1_act_117 rfl ?_
            refine va_get (D := D) (ci := 1) (v := .int t_crossed) (C := RX1) (T := TX1) (N := 8) hx hb hts hmsX1 hown hK hP 0 rfl rfl 4 (by decide) hw25 (fun _ h9 => h9) rfl dX1_act_118 ?_
            refine lv_iconst (v := 1) hx hb dX1_act_121 (by decide) ?_
            refine lv_iload_n hx hb dX1_act_122 rfl (lv_at hl 2 rfl) ?_
            refine lv_ishl hx hb dX1_act_123 ?_
            refine lv_ixor hx hb dX1_act_124 ?_
            refine va_put (D := D) (ci := 1) (v := .int (t_crossed ^^^ ((1 : Int32) <<< (p2 &&& 31)))) (ty := .int) (C := RX1) (T := TX1) (N := 8) hx hb hts hmsX1 tyX1 tyX1_ok nmX1 hown hK hP hD hS 0 rfl rfl 4 (by decide) hw25 (fun _ h9 => h9) rfl (by decide +kernel) rfl rfl (Nat.le_of_ble_eq_true rfl) dX1_act_125 (fun H locs hP hD hS => ?_)
            replace hP : va_P D vwCl [(a_t, .inr (1, [.ref a_t_places, .ref a_t_breaths, .ref a_t_reigns, .int t_here, .int (t_crossed ^^^ ((1 : Int32) <<< (p2 &&& 31))), .int t_king, .int t_last, .int t_minute])), (a_t_places, .inl (cI, 7, .inl t_places)), (a_t_breaths, .inl (cI, 7, .inl t_breaths)), (a_t_reigns, .inl (cI, 7, .inl t_reigns))] H := hP
            replace hD : va_D A [(a_t, .inr (1, [.ref a_t_places, .ref a_t_breaths, .ref a_t_reigns, .int t_here, .int (t_crossed ^^^ ((1 : Int32) <<< (p2 &&& 31))), .int t_king, .int t_last, .int t_minute])), (a_t_places, .inl (cI, 7, .inl t_places)), (a_t_breaths, .inl (cI, 7, .inl t_breaths)), (a_t_reigns, .inl (cI, 7, .inl t_reigns))] := hD
            obtain rfl := Option.some.inj hf
            exact fin _ _ _ _ dX1_act_128 hP hD hS
          · replace hf := (if_pos hc).symm.trans hf
            refine lv_aload_n hx hb dX1_act_94 rfl (lv_at hl 0 rfl) ?_
            refine va_get (D := D) (ci := 1) (v := .ref a_t_breaths) (C := RX1) (T := TX1) (N := 8) hx hb hts hmsX1 hown hK hP 0 rfl rfl 1 (by decide) hw15 (fun _ h9 => h9) rfl dX1_act_95 ?_
            refine lv_iload_n hx hb dX1_act_98 rfl (lv_at hl 2 rfl) ?_
            refine lv_aload_n hx hb dX1_act_99 rfl (lv_at hl 0 rfl) ?_
            refine va_get (D := D) (ci := 1) (v := .ref a_t_breaths) (C := RX1) (T := TX1) (N := 8) hx hb hts hmsX1 hown hK hP 0 rfl rfl 1 (by decide) hw15 (fun _ h9 => h9) rfl dX1_act_100 ?_
            refine lv_iload_n hx hb dX1_act_103 rfl (lv_at hl 2 rfl) ?_
            obtain ⟨hi104, hf⟩ := ix_if hf
            refine va_iald (D := D) hx hb hK hP 2 0 rfl rfl hi104 dX1_act_104 ?_
            refine lv_iconst (v := 2) hx hb dX1_act_105 (by decide) ?_
            refine lv_iadd hx hb dX1_act_106 ?_
            refine lv_bipush (v := 9) hx hb dX1_act_107 (by decide) ?_
            refine va_mmin hx hb (hml.trans hl.1.symm) hown hmminl hmmins hmi hmminc (Nat.le_of_ble_eq_true rfl) (Nat.le_of_ble_eq_true rfl) (Nat.zero_le _) (Nat.zero_le _) dX1_act_109 ?_
            refine va_iast (D := D) hx hb hK hP hD hS 2 0 rfl rfl hi104 dX1_act_112 (fun H locs hP hD hS => ?_)
            replace hP : va_P D vwCl [(a_t, .inr (1, [.ref a_t_places, .ref a_t_breaths, .ref a_t_reigns, .int t_here, .int t_crossed, .int t_king, .int t_last, .int t_minute])), (a_t_places, .inl (cI, 7, .inl t_places)), (a_t_breaths, .inl (cI, 7, .inl (upd t_breaths p2.toNatClampNeg (if (9 : Int32) < ((t_breaths p2.toNatClampNeg) + (2 : Int32)) then (9 : Int32) else ((t_breaths p2.toNatClampNeg) + (2 : Int32)))))), (a_t_reigns, .inl (cI, 7, .inl t_reigns))] H := hP
            replace hD : va_D A [(a_t, .inr (1, [.ref a_t_places, .ref a_t_breaths, .ref a_t_reigns, .int t_here, .int t_crossed, .int t_king, .int t_last, .int t_minute])), (a_t_places, .inl (cI, 7, .inl t_places)), (a_t_breaths, .inl (cI, 7, .inl (upd t_breaths p2.toNatClampNeg (if (9 : Int32) < ((t_breaths p2.toNatClampNeg) + (2 : Int32)) then (9 : Int32) else ((t_breaths p2.toNatClampNeg) + (2 : Int32)))))), (a_t_reigns, .inl (cI, 7, .inl t_reigns))] := hD
            refine lv_goto (tgt := 128) hx hb dX1_act_113 (by decide) ?_
            obtain rfl := Option.some.inj hf
            exact fin _ _ _ _ dX1_act_128 hP hD hS
        · replace hf := (if_pos hc).symm.trans hf
          refine lv_aload_n hx hb dX1_act_76 rfl (lv_at hl 0 rfl) ?_
          refine lv_iload_n hx hb dX1_act_77 rfl (lv_at hl 3 rfl) ?_
          refine va_put (D := D) (ci := 1) (v := .int p3) (ty := .int) (C := RX1) (T := TX1) (N := 8) hx hb hts hmsX1 tyX1 tyX1_ok nmX1 hown hK hP hD hS 0 rfl rfl 5 (by decide) hw28 (fun _ h9 => h9) rfl (by decide +kernel) rfl rfl (Nat.le_of_ble_eq_true rfl) dX1_act_78 (fun H locs hP hD hS => ?_)
          replace hP : va_P D vwCl [(a_t, .inr (1, [.ref a_t_places, .ref a_t_breaths, .ref a_t_reigns, .int t_here, .int t_crossed, .int p3, .int t_last, .int t_minute])), (a_t_places, .inl (cI, 7, .inl t_places)), (a_t_breaths, .inl (cI, 7, .inl t_breaths)), (a_t_reigns, .inl (cI, 7, .inl t_reigns))] H := hP
          replace hD : va_D A [(a_t, .inr (1, [.ref a_t_places, .ref a_t_breaths, .ref a_t_reigns, .int t_here, .int t_crossed, .int p3, .int t_last, .int t_minute])), (a_t_places, .inl (cI, 7, .inl t_places)), (a_t_breaths, .inl (cI, 7, .inl t_breaths)), (a_t_reigns, .inl (cI, 7, .inl t_reigns))] := hD
          refine lv_aload_n hx hb dX1_act_81 rfl (lv_at hl 0 rfl) ?_
          refine lv_iload_n hx hb dX1_act_82 rfl (lv_at hl 2 rfl) ?_
          refine va_put (D := D) (ci := 1) (v := .int p2) (ty := .int) (C := RX1) (T := TX1) (N := 8) hx hb hts hmsX1 tyX1 tyX1_ok nmX1 hown hK hP hD hS 0 rfl rfl 6 (by decide) hw31 (fun _ h9 => h9) rfl (by decide +kernel) rfl rfl (Nat.le_of_ble_eq_true rfl) dX1_act_83 (fun H locs hP hD hS => ?_)
          replace hP : va_P D vwCl [(a_t, .inr (1, [.ref a_t_places, .ref a_t_breaths, .ref a_t_reigns, .int t_here, .int t_crossed, .int p3, .int p2, .int t_minute])), (a_t_places, .inl (cI, 7, .inl t_places)), (a_t_breaths, .inl (cI, 7, .inl t_breaths)), (a_t_reigns, .inl (cI, 7, .inl t_reigns))] H := hP
          replace hD : va_D A [(a_t, .inr (1, [.ref a_t_places, .ref a_t_breaths, .ref a_t_reigns, .int t_here, .int t_crossed, .int p3, .int p2, .int t_minute])), (a_t_places, .inl (cI, 7, .inl t_places)), (a_t_breaths, .inl (cI, 7, .inl t_breaths)), (a_t_reigns, .inl (cI, 7, .inl t_reigns))] := hD
          refine lv_goto (tgt := 128) hx hb dX1_act_86 (by decide) ?_
          obtain rfl := Option.some.inj hf
          exact fin _ _ _ _ dX1_act_128 hP hD hS
      · replace hf := (if_pos hc).symm.trans hf
        refine lv_aload_n hx hb dX1_act_51 rfl (lv_at hl 0 rfl) ?_
        refine va_get (D := D) (ci := 1) (v := .ref a_t_places) (C := RX1) (T := TX1) (N := 8) hx hb hts hmsX1 hown hK hP 0 rfl rfl 0 (by decide) hw9 (fun _ h9 => h9) rfl dX1_act_52 ?_
        refine lv_iload_n hx hb dX1_act_55 rfl (lv_at hl 2 rfl) ?_
        refine lv_iload_n hx hb dX1_act_56 rfl (lv_at hl 3 rfl) ?_
        obtain ⟨hi57, hf⟩ := ix_if hf
        refine va_iast (D := D) hx hb hK hP hD hS 1 0 rfl rfl hi57 dX1_act_57 (fun H locs hP hD hS => ?_)
        replace hP : va_P D vwCl [(a_t, .inr (1, [.ref a_t_places, .ref a_t_breaths, .ref a_t_reigns, .int t_here, .int t_crossed, .int t_king, .int t_last, .int t_minute])), (a_t_places, .inl (cI, 7, .inl (upd t_places p2.toNatClampNeg p3))), (a_t_breaths, .inl (cI, 7, .inl t_breaths)), (a_t_reigns, .inl (cI, 7, .inl t_reigns))] H := hP
        replace hD : va_D A [(a_t, .inr (1, [.ref a_t_places, .ref a_t_breaths, .ref a_t_reigns, .int t_here, .int t_crossed, .int t_king, .int t_last, .int t_minute])), (a_t_places, .inl (cI, 7, .inl (upd t_places p2.toNatClampNeg p3))), (a_t_breaths, .inl (cI, 7, .inl t_breaths)), (a_t_reigns, .inl (cI, 7, .inl t_reigns))] := hD
        refine lv_aload_n hx hb dX1_act_58 rfl (lv_at hl 0 rfl) ?_
        refine va_get (D := D) (ci := 1) (v := .ref a_t_breaths) (C := RX1) (T := TX1) (N := 8) hx hb hts hmsX1 hown hK hP 0 rfl rfl 1 (by decide) hw15 (fun _ h9 => h9) rfl dX1_act_59 ?_
        refine lv_iload_n hx hb dX1_act_62 rfl (lv_at hl 2 rfl) ?_
        refine lv_dup2_11 hx hb dX1_act_63 rfl rfl ?_
        refine va_iald (D := D) hx hb hK hP 2 0 rfl rfl hi57 dX1_act_64 ?_
        refine lv_iconst (v := 1) hx hb dX1_act_65 (by decide) ?_
        refine lv_isub hx hb dX1_act_66 ?_
        refine va_iast (D := D) hx hb hK hP hD hS 2 0 rfl rfl hi57 dX1_act_67 (fun H locs hP hD hS => ?_)
        replace hP : va_P D vwCl [(a_t, .inr (1, [.ref a_t_places, .ref a_t_breaths, .ref a_t_reigns, .int t_here, .int t_crossed, .int t_king, .int t_last, .int t_minute])), (a_t_places, .inl (cI, 7, .inl (upd t_places p2.toNatClampNeg p3))), (a_t_breaths, .inl (cI, 7, .inl (upd t_breaths p2.toNatClampNeg ((t_breaths p2.toNatClampNeg) - (1 : Int32))))), (a_t_reigns, .inl (cI, 7, .inl t_reigns))] H := hP
        replace hD : va_D A [(a_t, .inr (1, [.ref a_t_places, .ref a_t_breaths, .ref a_t_reigns, .int t_here, .int t_crossed, .int t_king, .int t_last, .int t_minute])), (a_t_places, .inl (cI, 7, .inl (upd t_places p2.toNatClampNeg p3))), (a_t_breaths, .inl (cI, 7, .inl (upd t_breaths p2.toNatClampNeg ((t_breaths p2.toNatClampNeg) - (1 : Int32))))), (a_t_reigns, .inl (cI, 7, .inl t_reigns))] := hD
        refine lv_goto (tgt := 128) hx hb dX1_act_68 (by decide) ?_
        obtain rfl := Option.some.inj hf
        exact fin _ _ _ _ dX1_act_128 hP hD hS
    · replace hf := (if_pos hc).symm.trans hf
      obtain rfl := Option.some.inj hf
      exact fin _ _ _ _ dX1_act_46 hP hD hS
  · replace hf := (if_pos hc).symm.trans hf
    refine lv_aload_n hx hb dX1_act_5 rfl (lv_at hl 0 rfl) ?_
    refine lv_dup hx hb dX1_act_6 rfl ?_
    refine va_get (D := D) (ci := 1) (v := .int t_minute) (C := RX1) (T := TX1) (N := 8) hx hb hts hmsX1 hown hK hP 0 rfl rfl 7 (by decide) hw34 (fun _ h9 => h9) rfl dX1_act_7 ?_
    refine lv_iconst (v := 1) hx hb dX1_act_10 (by decide) ?_
    refine lv_iadd hx hb dX1_act_11 ?_
    refine va_put (D := D) (ci := 1) (v := .int (t_minute + (1 : Int32))) (ty := .int) (C := RX1) (T := TX1) (N := 8) hx hb hts hmsX1 tyX1 tyX1_ok nmX1 hown hK hP hD hS 0 rfl rfl 7 (by decide) hw34 (fun _ h9 => h9) rfl (by decide +kernel) rfl rfl (Nat.le_of_ble_eq_true rfl) dX1_act_12 (fun H locs hP hD hS => ?_)
    replace hP : va_P D vwCl [(a_t, .inr (1, [.ref a_t_places, .ref a_t_breaths, .ref a_t_reigns, .int t_here, .int t_crossed, .int t_king, .int t_last, .int (t_minute + (1 : Int32))])), (a_t_places, .inl (cI, 7, .inl t_places)), (a_t_breaths, .inl (cI, 7, .inl t_breaths)), (a_t_reigns, .inl (cI, 7, .inl t_reigns))] H := hP
    replace hD : va_D A [(a_t, .inr (1, [.ref a_t_places, .ref a_t_breaths, .ref a_t_reigns, .int t_here, .int t_crossed, .int t_king, .int t_last, .int (t_minute + (1 : Int32))])), (a_t_places, .inl (cI, 7, .inl t_places)), (a_t_breaths, .inl (cI, 7, .inl t_breaths)), (a_t_reigns, .inl (cI, 7, .inl t_reigns))] := hD
    refine lv_aload_n hx hb dX1_act_15 rfl (lv_at hl 0 rfl) ?_
    refine va_get (D := D) (ci := 1) (v := .int t_king) (C := RX1) (T := TX1) (N := 8) hx hb hts hmsX1 hown hK hP 0 rfl rfl 5 (by decide) hw28 (fun _ h9 => h9) rfl dX1_act_16 ?_
    obtain ⟨x19, hx19, hf⟩ := bd_if hf
    refine cn_i (wr := [(a_t, .inr (1, [.ref a_t_places, .ref a_t_breaths, .ref a_t_reigns, .int t_here, .int t_crossed, .int t_king, .int t_last, .int (t_minute + (1 : Int32))])), (a_t_places, .inl (cI, 7, .inl t_places)), (a_t_breaths, .inl (cI, 7, .inl t_breaths)), (a_t_reigns, .inl (cI, 7, .inl t_reigns))]) (ws' := [(a_t, .inr (1, [.ref a_t_places, .ref a_t_breaths, .ref a_t_reigns, .int t_here, .int t_crossed, .int t_king, .int t_last, .int (t_minute + (1 : Int32))])), (a_t_places, .inl (cI, 7, .inl t_places)), (a_t_breaths, .inl (cI, 7, .inl t_breaths)), (a_t_reigns, .inl (cI, 7, .inl t_reigns))]) ⟨hx, hb, hml, hown, hts⟩ ⟨hcw43, hst43, trivial⟩ hK hN hP hD hS hA (c_X9_isOne l D cI cJ cZ cO _ t_king x19 hx19) [] [0, 1, 2, 3] [0, 1, 2, 3] rfl rfl rfl rfl (by decide) rfl rfl rfl hl.1 rfl (Nat.le_of_ble_eq_true rfl) dX1_act_19 ⟨Nat.zero_le _, Nat.zero_le _⟩ (fun H locs hP hD hS => ?_)
    refine lv_if_eq (tgt := 38) hx hb dX1_act_22 (by decide) (fun hc => ?_) (fun hc => ?_)
    · replace hf := (if_pos hc).symm.trans hf
      obtain rfl := Option.some.inj hf
      exact fin _ _ _ _ dX1_act_38 hP hD hS
    · replace hf := (if_neg hc).symm.trans hf
      refine lv_aload_n hx hb dX1_act_25 rfl (lv_at hl 0 rfl) ?_
      refine va_get (D := D) (ci := 1) (v := .ref a_t_reigns) (C := RX1) (T := TX1) (N := 8) hx hb hts hmsX1 hown hK hP 0 rfl rfl 2 (by decide) hw18 (fun _ h9 => h9) rfl dX1_act_26 ?_
      refine lv_aload_n hx hb dX1_act_29 rfl (lv_at hl 0 rfl) ?_
      refine va_get (D := D) (ci := 1) (v := .int t_king) (C := RX1) (T := TX1) (N := 8) hx hb hts hmsX1 hown hK hP 0 rfl rfl 5 (by decide) hw28 (fun _ h9 => h9) rfl dX1_act_30 ?_
      refine lv_dup2_11 hx hb dX1_act_33 rfl rfl ?_
      obtain ⟨hi34, hf⟩ := ix_if hf
      refine va_iald (D := D) hx hb hK hP 3 0 rfl rfl hi34 dX1_act_34 ?_
      refine lv_iconst (v := 1) hx hb dX1_act_35 (by decide) ?_
      refine lv_iadd hx hb dX1_act_36 ?_
      refine va_iast (D := D) hx hb hK hP hD hS 3 0 rfl rfl hi34 dX1_act_37 (fun H locs hP hD hS => ?_)
      replace hP : va_P D vwCl [(a_t, .inr (1, [.ref a_t_places, .ref a_t_breaths, .ref a_t_reigns, .int t_here, .int t_crossed, .int t_king, .int t_last, .int (t_minute + (1 : Int32))])), (a_t_places, .inl (cI, 7, .inl t_places)), (a_t_breaths, .inl (cI, 7, .inl t_breaths)), (a_t_reigns, .inl (cI, 7, .inl (upd t_reigns t_king.toNatClampNeg ((t_reigns t_king.toNatClampNeg) + (1 : Int32)))))] H := hP
      replace hD : va_D A [(a_t, .inr (1, [.ref a_t_places, .ref a_t_breaths, .ref a_t_reigns, .int t_here, .int t_crossed, .int t_king, .int t_last, .int (t_minute + (1 : Int32))])), (a_t_places, .inl (cI, 7, .inl t_places)), (a_t_breaths, .inl (cI, 7, .inl t_breaths)), (a_t_reigns, .inl (cI, 7, .inl (upd t_reigns t_king.toNatClampNeg ((t_reigns t_king.toNatClampNeg) + (1 : Int32)))))] := hD
      obtain rfl := Option.some.inj hf
      exact fin _ _ _ _ dX1_act_38 hP hD hS
abbrev rm_X2_copy : Room := { frames := 1, cells := 0, slots := 0, locals := 60 }
theorem ms_X2_copy_X2 : ∀ w ∈ u_ws RX2 TX2 2, w ∈ wsX2_copy := fun w h => List.mem_cons_of_mem _ (List.mem_append_right _ (h))
set_option maxHeartbeats 4000000 in
set_option maxRecDepth 100000 in
theorem c_X2_copy (l : Launch) (D : va_G) (cI cJ cZ cO : ClassId) (sz : Nat) (a_t : Nat) (a_t_roads : Nat) (a_o1 : Nat) (a_o1_roads : Nat) (t_homes : Int32) (t_roads : Nat → Int32) (o1_homes : Int32) (o1_roads : Nat → Int32) (res : Int32 × (Nat → Int32)) (hf : f_X2_copy t_homes t_roads o1_homes o1_roads = some res) : MetV l yX2_copy wsX2_copy rm_X2_copy [.ref a_t, .ref a_o1] D (tys4 cI cJ cZ cO) [(a_t, .inr (2, [.ref a_t_roads, .int t_homes])), (a_t_roads, .inl (cI, 12, .inl t_roads)), (a_o1, .inr (2, [.ref a_o1_roads, .int o1_homes])), (a_o1_roads, .inl (cI, 12, .inl o1_roads))] sz [(a_t, .inr (2, [.ref a_t_roads, .int res.1])), (a_t_roads, .inl (cI, 12, .inl res.2)), (a_o1, .inr (2, [.ref a_o1_roads, .int o1_homes])), (a_o1_roads, .inl (cI, 12, .inl o1_roads))] := by
  refine met_v (cc := cX2_copy) (maxL := 2) (by decide) rfl (Nat.le_of_ble_eq_true rfl) ?_
  intro p e s m args below meth c Q A hx hb hml hown hts hK hN hA fin H locs ls hP hD hS hl
  replace hown : s.vm.findClass RX2 = some m.cls := hown
  replace hl : lv_has ls 2 [(0, .ref a_t), (1, .ref a_o1)] := hl
  rw [f_X2_copy] at hf
  have hw9 := hts (.fieldLink RX2 9 "TouchReign$Land" "roads" "[I") (by decide +kernel)
  have hmsX2 := ms_X2_copy_X2
  have hacl := hts (.methodLink RX2 19 arraycopyName) (by decide +kernel)
  have hacn := hts (.native arraycopyName) (by decide +kernel)
  have hacs := hts (.static arraycopyName) (by decide +kernel)
  have haci := hts (.initialized "java/lang/System") (by decide +kernel)
  have hw15 := hts (.fieldLink RX2 15 "TouchReign$Land" "homes" "I") (by decide +kernel)
  refine lv_aload_n hx hb dX2_copy_0 rfl (lv_at hl 1 rfl) ?_
  refine va_get (D := D) (ci := 2) (v := .ref a_o1_roads) (C := RX2) (T := TX2) (N := 2) hx hb hts hmsX2 hown hK hP 2 rfl rfl 0 (by decide) hw9 (fun _ h9 => h9) rfl dX2_copy_1 ?_
  refine lv_iconst (v := 0) hx hb dX2_copy_4 (by decide) ?_
  refine lv_aload_n hx hb dX2_copy_5 rfl (lv_at hl 0 rfl) ?_
  refine va_get (D := D) (ci := 2) (v := .ref a_t_roads) (C := RX2) (T := TX2) (N := 2) hx hb hts hmsX2 hown hK hP 0 rfl rfl 0 (by decide) hw9 (fun _ h9 => h9) rfl dX2_copy_6 ?_
  refine lv_iconst (v := 0) hx hb dX2_copy_9 (by decide) ?_
  refine lv_bipush (v := 12) hx hb dX2_copy_10 (by decide) ?_
  refine va_copyi (D := D) hx hb (hml.trans hl.1.symm) hown hacl hacn hacs haci hK hP hD hS 3 1 0 0 rfl rfl rfl rfl rfl (by decide) (by decide) (by decide) (by decide) (by decide) (fun _ _ => rfl) (Nat.le_of_ble_eq_true rfl) (Nat.le_of_ble_eq_true rfl) dX2_copy_12 (fun H locs hP hD hS => ?_)
  replace hP : va_P D vwCl [(a_t, .inr (2, [.ref a_t_roads, .int t_homes])), (a_t_roads, .inl (cI, 12, .inl (va_cpy o1_roads t_roads (0 : Int32).toNatClampNeg (0 : Int32).toNatClampNeg (12 : Int32).toNatClampNeg))), (a_o1, .inr (2, [.ref a_o1_roads, .int o1_homes])), (a_o1_roads, .inl (cI, 12, .inl o1_roads))] H := hP
  replace hD : va_D A [(a_t, .inr (2, [.ref a_t_roads, .int t_homes])), (a_t_roads, .inl (cI, 12, .inl (va_cpy o1_roads t_roads (0 : Int32).toNatClampNeg (0 : Int32).toNatClampNeg (12 : Int32).toNatClampNeg))), (a_o1, .inr (2, [.ref a_o1_roads, .int o1_homes])), (a_o1_roads, .inl (cI, 12, .inl o1_roads))] := hD
  refine lv_aload_n hx hb dX2_copy_15 rfl (lv_at hl 0 rfl) ?_
  refine lv_aload_n hx hb dX2_copy_16 rfl (lv_at hl 1 rfl) ?_
  refine va_get (D := D) (ci := 2) (v := .int o1_homes) (C := RX2) (T := TX2) (N := 2) hx hb hts hmsX2 hown hK hP 2 rfl rfl 1 (by decide) hw15 (fun _ h9 => h9) rfl dX2_copy_17 ?_
  refine va_put (D := D) (ci := 2) (v := .int o1_homes) (ty := .int) (C := RX2) (T := TX2) (N := 2) hx hb hts hmsX2 tyX2 tyX2_ok nmX2 hown hK hP hD hS 0 rfl rfl 1 (by decide) hw15 (fun _ h9 => h9) rfl (by decide +kernel) rfl rfl (Nat.le_of_ble_eq_true rfl) dX2_copy_20 (fun H locs hP hD hS => ?_)
  replace hP : va_P D vwCl [(a_t, .inr (2, [.ref a_t_roads, .int o1_homes])), (a_t_roads, .inl (cI, 12, .inl (va_cpy o1_roads t_roads (0 : Int32).toNatClampNeg (0 : Int32).toNatClampNeg (12 : Int32).toNatClampNeg))), (a_o1, .inr (2, [.ref a_o1_roads, .int o1_homes])), (a_o1_roads, .inl (cI, 12, .inl o1_roads))] H := hP
  replace hD : va_D A [(a_t, .inr (2, [.ref a_t_roads, .int o1_homes])), (a_t_roads, .inl (cI, 12, .inl (va_cpy o1_roads t_roads (0 : Int32).toNatClampNeg (0 : Int32).toNatClampNeg (12 : Int32).toNatClampNeg))), (a_o1, .inr (2, [.ref a_o1_roads, .int o1_homes])), (a_o1_roads, .inl (cI, 12, .inl o1_roads))] := hD
  obtain rfl := Option.some.inj hf
  exact fin _ _ _ _ dX2_copy_23 hP hD hS
abbrev rm_X2_lay : Room := { frames := 1, cells := 0, slots := 0, locals := 22 }
theorem ms_X2_lay_X2 : ∀ w ∈ u_ws RX2 TX2 2, w ∈ wsX2_lay := fun w h => List.mem_cons_of_mem _ (List.mem_append_right _ (h))
set_option maxHeartbeats 4000000 in
set_option maxRecDepth 100000 in
theorem c_X2_lay (l : Launch) (D : va_G) (cI cJ cZ cO : ClassId) (sz : Nat) (a_t : Nat) (a_t_roads : Nat) (t_homes : Int32) (t_roads : Nat → Int32) (p1 : Int32) (p2 : Int32) (p3 : Int32) (res : (Nat → Int32)) (hf : f_X2_lay t_roads p1 p2 p3 = some res) : MetV l yX2_lay wsX2_lay rm_X2_lay [.ref a_t, .int p1, .int p2, .int p3] D (tys4 cI cJ cZ cO) [(a_t, .inr (2, [.ref a_t_roads, .int t_homes])), (a_t_roads, .inl (cI, 12, .inl t_roads))] sz [(a_t, .inr (2, [.ref a_t_roads, .int t_homes])), (a_t_roads, .inl (cI, 12, .inl res))] := by
  refine met_v (cc := cX2_lay) (maxL := 4) (by decide) rfl (Nat.le_of_ble_eq_true rfl) ?_
  intro p e s m args below meth c Q A hx hb hml hown hts hK hN hA fin H locs ls hP hD hS hl
  replace hown : s.vm.findClass RX2 = some m.cls := hown
  replace hl : lv_has ls 4 [(0, .ref a_t), (1, .int p1), (2, .int p2), (3, .int p3)] := hl
  rw [f_X2_lay] at hf
  have hiniX9 := hts (.initialized RX9) (by decide +kernel)
  have hcw25 := va_cnB (R := rm_X2_lay) (rm := rm_X9_isPlace) 1 hts gX2_lay_X9_isPlace_n25 rfl rfl rfl (hN.1 (.methodLinkNest RX2 25 yX9_isPlace RX9) (by decide +kernel)) hiniX9 (by decide +kernel) ⟨Nat.le_of_ble_eq_true rfl, Nat.le_of_ble_eq_true rfl⟩
  have hst25 := hts (.static yX9_isPlace) (by decide +kernel)
  have hw9 := hts (.fieldLink RX2 9 "TouchReign$Land" "roads" "[I") (by decide +kernel)
  have hmsX2 := ms_X2_lay_X2
  have hcw29 := va_cnB (R := rm_X2_lay) (rm := rm_X9_marked) 3 hts gX2_lay_X9_marked_n29 rfl rfl rfl (hN.1 (.methodLinkNest RX2 29 yX9_marked RX9) (by decide +kernel)) hiniX9 (by decide +kernel) ⟨Nat.le_of_ble_eq_true rfl, Nat.le_of_ble_eq_true rfl⟩
  have hst29 := hts (.static yX9_marked) (by decide +kernel)
  refine lv_iload_n hx hb dX2_lay_0 rfl (lv_at hl 1 rfl) ?_
  obtain ⟨x1, hx1, hf⟩ := bd_if hf
  refine cn_i (wr := [(a_t, .inr (2, [.ref a_t_roads, .int t_homes])), (a_t_roads, .inl (cI, 12, .inl t_roads))]) (ws' := [(a_t, .inr (2, [.ref a_t_roads, .int t_homes])), (a_t_roads, .inl (cI, 12, .inl t_roads))]) ⟨hx, hb, hml, hown, hts⟩ ⟨hcw25, hst25, trivial⟩ hK hN hP hD hS hA (c_X9_isPlace l D cI cJ cZ cO _ p1 x1 hx1) [] [0, 1] [0, 1] rfl rfl rfl rfl (by decide) rfl rfl rfl hl.1 rfl (Nat.le_of_ble_eq_true rfl) dX2_lay_1 ⟨Nat.zero_le _, Nat.zero_le _⟩ (fun H locs hP hD hS => ?_)
  refine lv_if_eq (tgt := 14) hx hb dX2_lay_4 (by decide) (fun hc => ?_) (fun hc => ?_)
  · replace hf := (if_pos hc).symm.trans hf
    obtain rfl := Option.some.inj hf
    exact fin _ _ _ _ dX2_lay_14 hP hD hS
  · replace hf := (if_neg hc).symm.trans hf
    refine lv_iload_n hx hb dX2_lay_7 rfl (lv_at hl 2 rfl) ?_
    obtain ⟨x8, hx8, hf⟩ := bd_if hf
    refine cn_i (wr := [(a_t, .inr (2, [.ref a_t_roads, .int t_homes])), (a_t_roads, .inl (cI, 12, .inl t_roads))]) (ws' := [(a_t, .inr (2, [.ref a_t_roads, .int t_homes])), (a_t_roads, .inl (cI, 12, .inl t_roads))]) ⟨hx, hb, hml, hown, hts⟩ ⟨hcw25, hst25, trivial⟩ hK hN hP hD hS hA (c_X9_isPlace l D cI cJ cZ cO _ p2 x8 hx8) [] [0, 1] [0, 1] rfl rfl rfl rfl (by decide) rfl rfl rfl hl.1 rfl (Nat.le_of_ble_eq_true rfl) dX2_lay_8 ⟨Nat.zero_le _, Nat.zero_le _⟩ (fun H locs hP hD hS => ?_)
    refine lv_if_ne (tgt := 15) hx hb dX2_lay_11 (by decide) (fun hc => ?_) (fun hc => ?_)
    · replace hf := (if_neg hc).symm.trans hf
      refine lv_aload_n hx hb dX2_lay_15 rfl (lv_at hl 0 rfl) ?_
      refine va_get (D := D) (ci := 2) (v := .ref a_t_roads) (C := RX2) (T := TX2) (N := 2) hx hb hts hmsX2 hown hK hP 0 rfl rfl 0 (by decide) hw9 (fun _ h9 => h9) rfl dX2_lay_16 ?_
      refine lv_iload_n hx hb dX2_lay_19 rfl (lv_at hl 1 rfl) ?_
      refine lv_aload_n hx hb dX2_lay_20 rfl (lv_at hl 0 rfl) ?_
      refine va_get (D := D) (ci := 2) (v := .ref a_t_roads) (C := RX2) (T := TX2) (N := 2) hx hb hts hmsX2 hown hK hP 0 rfl rfl 0 (by decide) hw9 (fun _ h9 => h9) rfl dX2_lay_21 ?_
      refine lv_iload_n hx hb dX2_lay_24 rfl (lv_at hl 1 rfl) ?_
      obtain ⟨hi25, hf⟩ := ix_if hf
      refine va_iald (D := D) hx hb hK hP 1 0 rfl rfl hi25 dX2_lay_25 ?_
      refine lv_iload_n hx hb dX2_lay_26 rfl (lv_at hl 2 rfl) ?_
      refine lv_iload_n hx hb dX2_lay_27 rfl (lv_at hl 3 rfl) ?_
      obtain ⟨x28, hx28, hf⟩ := bd_if hf
      refine cn_i (wr := [(a_t, .inr (2, [.ref a_t_roads, .int t_homes])), (a_t_roads, .inl (cI, 12, .inl t_roads))]) (ws' := [(a_t, .inr (2, [.ref a_t_roads, .int t_homes])), (a_t_roads, .inl (cI, 12, .inl t_roads))]) ⟨hx, hb, hml, hown, hts⟩ ⟨hcw29, hst29, trivial⟩ hK hN hP hD hS hA (c_X9_marked l D cI cJ cZ cO _ (t_roads p1.toNatClampNeg) p2 p3 x28 hx28) [] [0, 1] [0, 1] rfl rfl rfl rfl (by decide) rfl rfl rfl hl.1 rfl (Nat.le_of_ble_eq_true rfl) dX2_lay_28 ⟨Nat.zero_le _, Nat.zero_le _⟩ (fun H locs hP hD hS => ?_)
      refine va_iast (D := D) hx hb hK hP hD hS 1 0 rfl rfl hi25 dX2_lay_31 (fun H locs hP hD hS => ?_)
      replace hP : va_P D vwCl [(a_t, .inr (2, [.ref a_t_roads, .int t_homes])), (a_t_roads, .inl (cI, 12, .inl (upd t_roads p1.toNatClampNeg x28)))] H := hP
      replace hD : va_D A [(a_t, .inr (2, [.ref a_t_roads, .int t_homes])), (a_t_roads, .inl (cI, 12, .inl (upd t_roads p1.toNatClampNeg x28)))] := hD
      refine lv_aload_n hx hb dX2_lay_32 rfl (lv_at hl 0 rfl) ?_
      refine va_get (D := D) (ci := 2) (v := .ref a_t_roads) (C := RX2) (T := TX2) (N := 2) hx hb hts hmsX2 hown hK hP 0 rfl rfl 0 (by decide) hw9 (fun _ h9 => h9) rfl dX2_lay_33 ?_
      refine lv_iload_n hx hb dX2_lay_36 rfl (lv_at hl 2 rfl) ?_
      refine lv_aload_n hx hb dX2_lay_37 rfl (lv_at hl 0 rfl) ?_
      refine va_get (D := D) (ci := 2) (v := .ref a_t_roads) (C := RX2) (T := TX2) (N := 2) hx hb hts hmsX2 hown hK hP 0 rfl rfl 0 (by decide) hw9 (fun _ h9 => h9) rfl dX2_lay_38 ?_
      refine lv_iload_n hx hb dX2_lay_41 rfl (lv_at hl 2 rfl) ?_
      obtain ⟨hi42, hf⟩ := ix_if hf
      refine va_iald (D := D) hx hb hK hP 1 0 rfl rfl hi42 dX2_lay_42 ?_
      refine lv_iload_n hx hb dX2_lay_43 rfl (lv_at hl 1 rfl) ?_
      refine lv_iload_n hx hb dX2_lay_44 rfl (lv_at hl 3 rfl) ?_
      obtain ⟨x45, hx45, hf⟩ := bd_if hf
      refine cn_i (wr := [(a_t, .inr (2, [.ref a_t_roads, .int t_homes])), (a_t_roads, .inl (cI, 12, .inl (upd t_roads p1.toNatClampNeg x28)))]) (ws' := [(a_t, .inr (2, [.ref a_t_roads, .int t_homes])), (a_t_roads, .inl (cI, 12, .inl (upd t_roads p1.toNatClampNeg x28)))]) ⟨hx, hb, hml, hown, hts⟩ ⟨hcw29, hst29, trivial⟩ hK hN hP hD hS hA (c_X9_marked l D cI cJ cZ cO _ ((upd t_roads p1.toNatClampNeg x28) p2.toNatClampNeg) p1 p3 x45 hx45) [] [0, 1] [0, 1] rfl rfl rfl rfl (by decide) rfl rfl rfl hl.1 rfl (Nat.le_of_ble_eq_true rfl) dX2_lay_45 ⟨Nat.zero_le _, Nat.zero_le _⟩ (fun H locs hP hD hS => ?_)
      refine va_iast (D := D) hx hb hK hP hD hS 1 0 rfl rfl hi42 dX2_lay_48 (fun H locs hP hD hS => ?_)
      replace hP : va_P D vwCl [(a_t, .inr (2, [.ref a_t_roads, .int t_homes])), (a_t_roads, .inl (cI, 12, .inl (upd (upd t_roads p1.toNatClampNeg x28) p2.toNatClampNeg x45)))] H := hP
      replace hD : va_D A [(a_t, .inr (2, [.ref a_t_roads, .int t_homes])), (a_t_roads, .inl (cI, 12, .inl (upd (upd t_roads p1.toNatClampNeg x28) p2.toNatClampNeg x45)))] := hD
      obtain rfl := Option.some.inj hf
      exact fin _ _ _ _ dX2_lay_49 hP hD hS
    · replace hf := (if_pos hc).symm.trans hf
      obtain rfl := Option.some.inj hf
      exact fin _ _ _ _ dX2_lay_14 hP hD hS
abbrev rm_J6_bitCount_0f7a4 : Room := { frames := 0, cells := 0, slots := 0, locals := 0 }
set_option maxHeartbeats 4000000 in
set_option maxRecDepth 100000 in
theorem c_J6_bitCount_0f7a4 (l : Launch) (D : va_G) (cI cJ cZ cO : ClassId) (sz : Nat) (p0 : Int32) (res : Int32) (hf : f_J6_bitCount_0f7a4 p0 = some res) : MetI l yJ6_bitCount_0f7a4 wsJ6_bitCount_0f7a4 rm_J6_bitCount_0f7a4 [.int p0] D (tys4 cI cJ cZ cO) [] sz res [] := by
  refine met_i (cc := cJ6_bitCount_0f7a4) (maxL := 1) (by decide) rfl (Nat.le_of_ble_eq_true rfl) ?_
  intro p e s m args below meth c Q A hx hb hml hown hts hK hN hA fin H locs ls hP hD hS hl
  replace hown : s.vm.findClass RJ6 = some m.cls := hown
  replace hl : lv_has ls 1 [(0, .int p0)] := hl
  rw [f_J6_bitCount_0f7a4] at hf
  have hc265 := hts (.constant RJ6 265 (1431655765)) (by decide +kernel)
  have hc266 := hts (.constant RJ6 266 (858993459)) (by decide +kernel)
  have hc267 := hts (.constant RJ6 267 (252645135)) (by decide +kernel)
  refine lv_iload_n hx hb dJ6_bitCount_0f7a4_0 rfl (lv_at hl 0 rfl) ?_
  refine lv_iload_n hx hb dJ6_bitCount_0f7a4_1 rfl (lv_at hl 0 rfl) ?_
  refine lv_iconst (v := 1) hx hb dJ6_bitCount_0f7a4_2 (by decide) ?_
  refine lv_iushr (v := (p0.toUInt32 >>> ((1 : Int32).toUInt32 &&& Int32.toUInt32 31)).toInt32) hx hb dJ6_bitCount_0f7a4_3 rfl ?_
  refine lv_ldcw (v := 1431655765) hx hb hown hc265 dJ6_bitCount_0f7a4_4 ?_
  refine lv_iand hx hb dJ6_bitCount_0f7a4_7 ?_
  refine lv_isub hx hb dJ6_bitCount_0f7a4_8 ?_
  refine lv_istore_n (lv' := [(0, .int (p0 - (((p0.toUInt32 >>> ((1 : Int32).toUInt32 &&& Int32.toUInt32 31)).toInt32) &&& (1431655765 : Int32))))]) hx hb dJ6_bitCount_0f7a4_9 rfl hl (by decide) rfl (fun ls hl => ?_)
  refine lv_iload_n hx hb dJ6_bitCount_0f7a4_10 rfl (lv_at hl 0 rfl) ?_
  refine lv_ldcw (v := 858993459) hx hb hown hc266 dJ6_bitCount_0f7a4_11 ?_
  refine lv_iand hx hb dJ6_bitCount_0f7a4_14 ?_
  refine lv_iload_n hx hb dJ6_bitCount_0f7a4_15 rfl (lv_at hl 0 rfl) ?_
  refine lv_iconst (v := 2) hx hb dJ6_bitCount_0f7a4_16 (by decide) ?_
  refine lv_iushr (v := ((p0 - (((p0.toUInt32 >>> ((1 : Int32).toUInt32 &&& Int32.toUInt32 31)).toInt32) &&& (1431655765 : Int32))).toUInt32 >>> ((2 : Int32).toUInt32 &&& Int32.toUInt32 31)).toInt32) hx hb dJ6_bitCount_0f7a4_17 rfl ?_
  refine lv_ldcw (v := 858993459) hx hb hown hc266 dJ6_bitCount_0f7a4_18 ?_
  refine lv_iand hx hb dJ6_bitCount_0f7a4_21 ?_
  refine lv_iadd hx hb dJ6_bitCount_0f7a4_22 ?_
  refine lv_istore_n (lv' := [(0, .int (((p0 - (((p0.toUInt32 >>> ((1 : Int32).toUInt32 &&& Int32.toUInt32 31)).toInt32) &&& (1431655765 : Int32))) &&& (858993459 : Int32)) + ((((p0 - (((p0.toUInt32 >>> ((1 : Int32).toUInt32 &&& Int32.toUInt32 31)).toInt32) &&& (1431655765 : Int32))).toUInt32 >>> ((2 : Int32).toUInt32 &&& Int32.toUInt32 31)).toInt32) &&& (858993459 : Int32))))]) hx hb dJ6_bitCount_0f7a4_23 rfl hl (by decide) rfl (fun ls hl => ?_)
  refine lv_iload_n hx hb dJ6_bitCount_0f7a4_24 rfl (lv_at hl 0 rfl) ?_
  refine lv_iload_n hx hb dJ6_bitCount_0f7a4_25 rfl (lv_at hl 0 rfl) ?_
  refine lv_iconst (v := 4) hx hb dJ6_bitCount_0f7a4_26 (by decide) ?_
  refine lv_iushr (v := ((((p0 - (((p0.toUInt32 >>> ((1 : Int32).toUInt32 &&& Int32.toUInt32 31)).toInt32) &&& (1431655765 : Int32))) &&& (858993459 : Int32)) + ((((p0 - (((p0.toUInt32 >>> ((1 : Int32).toUInt32 &&& Int32.toUInt32 31)).toInt32) &&& (1431655765 : Int32))).toUInt32 >>> ((2 : Int32).toUInt32 &&& Int32.toUInt32 31)).toInt32) &&& (858993459 : Int32))).toUInt32 >>> ((4 : Int32).toUInt32 &&& Int32.toUInt32 31)).toInt32) hx hb dJ6_bitCount_0f7a4_27 rfl ?_
  refine lv_iadd hx hb dJ6_bitCount_0f7a4_28 ?_
  refine lv_ldcw (v := 252645135) hx hb hown hc267 dJ6_bitCount_0f7a4_29 ?_
  refine lv_iand hx hb dJ6_bitCount_0f7a4_32 ?_
  refine lv_istore_n (lv' := [(0, .int (((((p0 - (((p0.toUInt32 >>> ((1 : Int32).toUInt32 &&& Int32.toUInt32 31)).toInt32) &&& (1431655765 : Int32))) &&& (858993459 : Int32)) + ((((p0 - (((p0.toUInt32 >>> ((1 : Int32).toUInt32 &&& Int32.toUInt32 31)).toInt32) &&& (1431655765 : Int32))).toUInt32 >>> ((2 : Int32).toUInt32 &&& Int32.toUInt32 31)).toInt32) &&& (858993459 : Int32))) + (((((p0 - (((p0.toUInt32 >>> ((1 : Int32).toUInt32 &&& Int32.toUInt32 31)).toInt32) &&& (1431655765 : Int32))) &&& (858993459 : Int32)) + ((((p0 - (((p0.toUInt32 >>> ((1 : Int32).toUInt32 &&& Int32.toUInt32 31)).toInt32) &&& (1431655765 : Int32))).toUInt32 >>> ((2 : Int32).toUInt32 &&& Int32.toUInt32 31)).toInt32) &&& (858993459 : Int32))).toUInt32 >>> ((4 : Int32).toUInt32 &&& Int32.toUInt32 31)).toInt32)) &&& (252645135 : Int32)))]) hx hb dJ6_bitCount_0f7a4_33 rfl hl (by decide) rfl (fun ls hl => ?_)
  refine lv_iload_n hx hb dJ6_bitCount_0f7a4_34 rfl (lv_at hl 0 rfl) ?_
  refine lv_iload_n hx hb dJ6_bitCount_0f7a4_35 rfl (lv_at hl 0 rfl) ?_
  refine lv_bipush (v := 8) hx hb dJ6_bitCount_0f7a4_36 (by decide) ?_
  refine lv_iushr (v := ((((((p0 - (((p0.toUInt32 >>> ((1 : Int32).toUInt32 &&& Int32.toUInt32 31)).toInt32) &&& (1431655765 : Int32))) &&& (858993459 : Int32)) + ((((p0 - (((p0.toUInt32 >>> ((1 : Int32).toUInt32 &&& Int32.toUInt32 31)).toInt32) &&& (1431655765 : Int32))).toUInt32 >>> ((2 : Int32).toUInt32 &&& Int32.toUInt32 31)).toInt32) &&& (858993459 : Int32))) + (((((p0 - (((p0.toUInt32 >>> ((1 : Int32).toUInt32 &&& Int32.toUInt32 31)).toInt32) &&& (1431655765 : Int32))) &&& (858993459 : Int32)) + ((((p0 - (((p0.toUInt32 >>> ((1 : Int32).toUInt32 &&& Int32.toUInt32 31)).toInt32) &&& (1431655765 : Int32))).toUInt32 >>> ((2 : Int32).toUInt32 &&& Int32.toUInt32 31)).toInt32) &&& (858993459 : Int32))).toUInt32 >>> ((4 : Int32).toUInt32 &&& Int32.toUInt32 31)).toInt32)) &&& (252645135 : Int32)).toUInt32 >>> ((8 : Int32).toUInt32 &&& Int32.toUInt32 31)).toInt32) hx hb dJ6_bitCount_0f7a4_38 rfl ?_
  refine lv_iadd hx hb dJ6_bitCount_0f7a4_39 ?_
  refine lv_istore_n (lv' := [(0, .int ((((((p0 - (((p0.toUInt32 >>> ((1 : Int32).toUInt32 &&& Int32.toUInt32 31)).toInt32) &&& (1431655765 : Int32))) &&& (858993459 : Int32)) + ((((p0 - (((p0.toUInt32 >>> ((1 : Int32).toUInt32 &&& Int32.toUInt32 31)).toInt32) &&& (1431655765 : Int32))).toUInt32 >>> ((2 : Int32).toUInt32 &&& Int32.toUInt32 31)).toInt32) &&& (858993459 : Int32))) + (((((p0 - (((p0.toUInt32 >>> ((1 : Int32).toUInt32 &&& Int32.toUInt32 31)).toInt32) &&& (1431655765 : Int32))) &&& (858993459 : Int32)) + ((((p0 - (((p0.toUInt32 >>> ((1 : Int32).toUInt32 &&& Int32.toUInt32 31)).toInt32) &&& (1431655765 : Int32))).toUInt32 >>> ((2 : Int32).toUInt32 &&& Int32.toUInt32 31)).toInt32) &&& (858993459 : Int32))).toUInt32 >>> ((4 : Int32).toUInt32 &&& Int32.toUInt32 31)).toInt32)) &&& (252645135 : Int32)) + (((((((p0 - (((p0.toUInt32 >>> ((1 : Int32).toUInt32 &&& Int32.toUInt32 31)).toInt32) &&& (1431655765 : Int32))) &&& (858993459 : Int32)) + ((((p0 - (((p0.toUInt32 >>> ((1 : Int32).toUInt32 &&& Int32.toUInt32 31)).toInt32) &&& (1431655765 : Int32))).toUInt32 >>> ((2 : Int32).toUInt32 &&& Int32.toUInt32 31)).toInt32) &&& (858993459 : Int32))) + (((((p0 - (((p0.toUInt32 >>> ((1 : Int32).toUInt32 &&& Int32.toUInt32 31)).toInt32) &&& (1431655765 : Int32))) &&& (858993459 : Int32)) + ((((p0 - (((p0.toUInt32 >>> ((1 : Int32).toUInt32 &&& Int32.toUInt32 31)).toInt32) &&& (1431655765 : Int32))).toUInt32 >>> ((2 : Int32).toUInt32 &&& Int32.toUInt32 31)).toInt32) &&& (858993459 : Int32))).toUInt32 >>> ((4 : Int32).toUInt32 &&& Int32.toUInt32 31)).toInt32)) &&& (252645135 : Int32)).toUInt32 >>> ((8 : Int32).toUInt32 &&& Int32.toUInt32 31)).toInt32)))]) hx hb dJ6_bitCount_0f7a4_40 rfl hl (by decide) rfl (fun ls hl => ?_)
  refine lv_iload_n hx hb dJ6_bitCount_0f7a4_41 rfl (lv_at hl 0 rfl) ?_
  refine lv_iload_n hx hb dJ6_bitCount_0f7a4_42 rfl (lv_at hl 0 rfl) ?_
  refine lv_bipush (v := 16) hx hb dJ6_bitCount_0f7a4_43 (by decide) ?_
  refine lv_iushr (v := (((((((p0 - (((p0.toUInt32 >>> ((1 : Int32).toUInt32 &&& Int32.toUInt32 31)).toInt32) &&& (1431655765 : Int32))) &&& (858993459 : Int32)) + ((((p0 - (((p0.toUInt32 >>> ((1 : Int32).toUInt32 &&& Int32.toUInt32 31)).toInt32) &&& (1431655765 : Int32))).toUInt32 >>> ((2 : Int32).toUInt32 &&& Int32.toUInt32 31)).toInt32) &&& (858993459 : Int32))) + (((((p0 - (((p0.toUInt32 >>> ((1 : Int32).toUInt32 &&& Int32.toUInt32 31)).toInt32) &&& (1431655765 : Int32))) &&& (858993459 : Int32)) + ((((p0 - (((p0.toUInt32 >>> ((1 : Int32).toUInt32 &&& Int32.toUInt32 31)).toInt32) &&& (1431655765 : Int32))).toUInt32 >>> ((2 : Int32).toUInt32 &&& Int32.toUInt32 31)).toInt32) &&& (858993459 : Int32))).toUInt32 >>> ((4 : Int32).toUInt32 &&& Int32.toUInt32 31)).toInt32)) &&& (252645135 : Int32)) + (((((((p0 - (((p0.toUInt32 >>> ((1 : Int32).toUInt32 &&& Int32.toUInt32 31)).toInt32) &&& (1431655765 : Int32))) &&& (858993459 : Int32)) + ((((p0 - (((p0.toUInt32 >>> ((1 : Int32).toUInt32 &&& Int32.toUInt32 31)).toInt32) &&& (1431655765 : Int32))).toUInt32 >>> ((2 : Int32).toUInt32 &&& Int32.toUInt32 31)).toInt32) &&& (858993459 : Int32))) + (((((p0 - (((p0.toUInt32 >>> ((1 : Int32).toUInt32 &&& Int32.toUInt32 31)).toInt32) &&& (1431655765 : Int32))) &&& (858993459 : Int32)) + ((((p0 - (((p0.toUInt32 >>> ((1 : Int32).toUInt32 &&& Int32.toUInt32 31)).toInt32) &&& (1431655765 : Int32))).toUInt32 >>> ((2 : Int32).toUInt32 &&& Int32.toUInt32 31)).toInt32) &&& (858993459 : Int32))).toUInt32 >>> ((4 : Int32).toUInt32 &&& Int32.toUInt32 31)).toInt32)) &&& (252645135 : Int32)).toUInt32 >>> ((8 : Int32).toUInt32 &&& Int32.toUInt32 31)).toInt32)).toUInt32 >>> ((16 : Int32).toUInt32 &&& Int32.toUInt32 31)).toInt32) hx hb dJ6_bitCount_0f7a4_45 rfl ?_
  refine lv_iadd hx hb dJ6_bitCount_0f7a4_46 ?_
  refine lv_istore_n (lv' := [(0, .int (((((((p0 - (((p0.toUInt32 >>> ((1 : Int32).toUInt32 &&& Int32.toUInt32 31)).toInt32) &&& (1431655765 : Int32))) &&& (858993459 : Int32)) + ((((p0 - (((p0.toUInt32 >>> ((1 : Int32).toUInt32 &&& Int32.toUInt32 31)).toInt32) &&& (1431655765 : Int32))).toUInt32 >>> ((2 : Int32).toUInt32 &&& Int32.toUInt32 31)).toInt32) &&& (858993459 : Int32))) + (((((p0 - (((p0.toUInt32 >>> ((1 : Int32).toUInt32 &&& Int32.toUInt32 31)).toInt32) &&& (1431655765 : Int32))) &&& (858993459 : Int32)) + ((((p0 - (((p0.toUInt32 >>> ((1 : Int32).toUInt32 &&& Int32.toUInt32 31)).toInt32) &&& (1431655765 : Int32))).toUInt32 >>> ((2 : Int32).toUInt32 &&& Int32.toUInt32 31)).toInt32) &&& (858993459 : Int32))).toUInt32 >>> ((4 : Int32).toUInt32 &&& Int32.toUInt32 31)).toInt32)) &&& (252645135 : Int32)) + (((((((p0 - (((p0.toUInt32 >>> ((1 : Int32).toUInt32 &&& Int32.toUInt32 31)).toInt32) &&& (1431655765 : Int32))) &&& (858993459 : Int32)) + ((((p0 - (((p0.toUInt32 >>> ((1 : Int32).toUInt32 &&& Int32.toUInt32 31)).toInt32) &&& (1431655765 : Int32))).toUInt32 >>> ((2 : Int32).toUInt32 &&& Int32.toUInt32 31)).toInt32) &&& (858993459 : Int32))) + (((((p0 - (((p0.toUInt32 >>> ((1 : Int32).toUInt32 &&& Int32.toUInt32 31)).toInt32) &&& (1431655765 : Int32))) &&& (858993459 : Int32)) + ((((p0 - (((p0.toUInt32 >>> ((1 : Int32).toUInt32 &&& Int32.toUInt32 31)).toInt32) &&& (1431655765 : Int32))).toUInt32 >>> ((2 : Int32).toUInt32 &&& Int32.toUInt32 31)).toInt32) &&& (858993459 : Int32))).toUInt32 >>> ((4 : Int32).toUInt32 &&& Int32.toUInt32 31)).toInt32)) &&& (252645135 : Int32)).toUInt32 >>> ((8 : Int32).toUInt32 &&& Int32.toUInt32 31)).toInt32)) + ((((((((p0 - (((p0.toUInt32 >>> ((1 : Int32).toUInt32 &&& Int32.toUInt32 31)).toInt32) &&& (1431655765 : Int32))) &&& (858993459 : Int32)) + ((((p0 - (((p0.toUInt32 >>> ((1 : Int32).toUInt32 &&& Int32.toUInt32 31)).toInt32) &&& (1431655765 : Int32))).toUInt32 >>> ((2 : Int32).toUInt32 &&& Int32.toUInt32 31)).toInt32) &&& (858993459 : Int32))) + (((((p0 - (((p0.toUInt32 >>> ((1 : Int32).toUInt32 &&& Int32.toUInt32 31)).toInt32) &&& (1431655765 : Int32))) &&& (858993459 : Int32)) + ((((p0 - (((p0.toUInt32 >>> ((1 : Int32).toUInt32 &&& Int32.toUInt32 31)).toInt32) &&& (1431655765 : Int32))).toUInt32 >>> ((2 : Int32).toUInt32 &&& Int32.toUInt32 31)).toInt32) &&& (858993459 : Int32))).toUInt32 >>> ((4 : Int32).toUInt32 &&& Int32.toUInt32 31)).toInt32)) &&& (252645135 : Int32)) + (((((((p0 - (((p0.toUInt32 >>> ((1 : Int32).toUInt32 &&& Int32.toUInt32 31)).toInt32) &&& (1431655765 : Int32))) &&& (858993459 : Int32)) + ((((p0 - (((p0.toUInt32 >>> ((1 : Int32).toUInt32 &&& Int32.toUInt32 31)).toInt32) &&& (1431655765 : Int32))).toUInt32 >>> ((2 : Int32).toUInt32 &&& Int32.toUInt32 31)).toInt32) &&& (858993459 : Int32))) + (((((p0 - (((p0.toUInt32 >>> ((1 : Int32).toUInt32 &&& Int32.toUInt32 31)).toInt32) &&& (1431655765 : Int32))) &&& (858993459 : Int32)) + ((((p0 - (((p0.toUInt32 >>> ((1 : Int32).toUInt32 &&& Int32.toUInt32 31)).toInt32) &&& (1431655765 : Int32))).toUInt32 >>> ((2 : Int32).toUInt32 &&& Int32.toUInt32 31)).toInt32) &&& (858993459 : Int32))).toUInt32 >>> ((4 : Int32).toUInt32 &&& Int32.toUInt32 31)).toInt32)) &&& (252645135 : Int32)).toUInt32 >>> ((8 : Int32).toUInt32 &&& Int32.toUInt32 31)).toInt32)).toUInt32 >>> ((16 : Int32).toUInt32 &&& Int32.toUInt32 31)).toInt32)))]) hx hb dJ6_bitCount_0f7a4_47 rfl hl (by decide) rfl (fun ls hl => ?_)
  refine lv_iload_n hx hb dJ6_bitCount_0f7a4_48 rfl (lv_at hl 0 rfl) ?_
  refine lv_bipush (v := 63) hx hb dJ6_bitCount_0f7a4_49 (by decide) ?_
  refine lv_iand hx hb dJ6_bitCount_0f7a4_51 ?_
  obtain rfl := Option.some.inj hf
  exact fin _ _ _ _ dJ6_bitCount_0f7a4_52 hP hD hS
abbrev rm_X2_countRoads : Room := { frames := 1, cells := 0, slots := 0, locals := 20 }
theorem ms_X2_countRoads_X2 : ∀ w ∈ u_ws RX2 TX2 2, w ∈ wsX2_countRoads := fun w h => List.mem_cons_of_mem _ (List.mem_append_right _ (h))
set_option maxHeartbeats 4000000 in
set_option maxRecDepth 100000 in
theorem c_X2_countRoads (l : Launch) (D : va_G) (cI cJ cZ cO : ClassId) (sz : Nat) (a_t : Nat) (a_t_roads : Nat) (t_homes : Int32) (t_roads : Nat → Int32) (res : Int32) (hf : f_X2_countRoads t_roads = some res) : MetI l yX2_countRoads wsX2_countRoads rm_X2_countRoads [.ref a_t] D (tys4 cI cJ cZ cO) [(a_t, .inr (2, [.ref a_t_roads, .int t_homes])), (a_t_roads, .inl (cI, 12, .inl t_roads))] sz res [(a_t, .inr (2, [.ref a_t_roads, .int t_homes])), (a_t_roads, .inl (cI, 12, .inl t_roads))] := by
  refine met_i (cc := cX2_countRoads) (maxL := 3) (by decide) rfl (Nat.le_of_ble_eq_true rfl) ?_
  intro p e s m args below meth c Q A hx hb hml hown hts hK hN hA fin H locs ls hP hD hS hl
  replace hown : s.vm.findClass RX2 = some m.cls := hown
  replace hl : lv_has ls 3 [(0, .ref a_t)] := hl
  rw [f_X2_countRoads] at hf
  have hw9 := hts (.fieldLink RX2 9 "TouchReign$Land" "roads" "[I") (by decide +kernel)
  have hmsX2 := ms_X2_countRoads_X2
  have hcw33 := va_cwS (R := rm_X2_countRoads) (rm := rm_J6_bitCount_0f7a4) 1 hts gX2_countRoads_J6_bitCount_0f7a4 rfl rfl rfl (by decide +kernel) ⟨Nat.le_of_ble_eq_true rfl, Nat.le_of_ble_eq_true rfl⟩
  refine lv_iconst (v := 0) hx hb dX2_countRoads_0 (by decide) ?_
  refine lv_istore_n (lv' := [(1, .int (0 : Int32)), (0, .ref a_t)]) hx hb dX2_countRoads_1 rfl hl (by decide) rfl (fun ls hl => ?_)
  refine lv_iconst (v := 0) hx hb dX2_countRoads_2 (by decide) ?_
  refine lv_istore_n (lv' := [(2, .int (0 : Int32)), (1, .int (0 : Int32)), (0, .ref a_t)]) hx hb dX2_countRoads_3 rfl hl (by decide) rfl (fun ls hl => ?_)
  have hX4 : ∀ (x4v1 : Int32) (H : Heap) (locs : List Loc) (ls : Array Slot), va_P D vwCl [(a_t, .inr (2, [.ref a_t_roads, .int t_homes])), (a_t_roads, .inl (cI, 12, .inl t_roads))] H → va_D A [(a_t, .inr (2, [.ref a_t_roads, .int t_homes])), (a_t_roads, .inl (cI, 12, .inl t_roads))] → va_S A s.heap H locs → lv_has ls 3 [(1, .int x4v1)] → f_X2_countRoads_X4 x4v1 = some res → W p l e rm_X2_countRoads s m args below meth c H locs 0 0 Q (F0 m 28 ls []) := by
    intro x4v1 H locs ls hP hD hS hl hf
    rw [f_X2_countRoads_X4] at hf
    refine lv_iload_n hx hb dX2_countRoads_28 rfl (lv_at hl 0 rfl) ?_
    refine lv_iconst (v := 2) hx hb dX2_countRoads_29 (by decide) ?_
    refine lv_idiv hx hb dX2_countRoads_30 (by decide) ?_
    obtain rfl := Option.some.inj hf
    exact fin _ _ _ _ dX2_countRoads_31 hP hD hS
  have hL4 : ∀ (n4 : Nat), ∀ (l4v1 : Int32) (l4v2 : Int32) (H : Heap) (locs : List Loc) (ls : Array Slot), va_P D vwCl [(a_t, .inr (2, [.ref a_t_roads, .int t_homes])), (a_t_roads, .inl (cI, 12, .inl t_roads))] H → va_D A [(a_t, .inr (2, [.ref a_t_roads, .int t_homes])), (a_t_roads, .inl (cI, 12, .inl t_roads))] → va_S A s.heap H locs → lv_has ls 3 [(0, .ref a_t), (1, .int l4v1), (2, .int l4v2)] → f_X2_countRoads_L4 t_roads f_X2_countRoads_X4 n4 l4v1 l4v2 = some res → W p l e rm_X2_countRoads s m args below meth c H locs 0 0 Q (F0 m 4 ls []) := by
    intro n4
    induction n4 with
    | zero =>
      intro l4v1 l4v2 H locs ls hP hD hS hl hf
      rw [f_X2_countRoads_L4] at hf
      cases hf
    | succ n4 ih4 =>
      intro l4v1 l4v2 H locs ls hP hD hS hl hf
      rw [f_X2_countRoads_L4] at hf
      refine lv_iload_n hx hb dX2_countRoads_4 rfl (lv_at hl 2 rfl) ?_
      refine lv_bipush (v := 12) hx hb dX2_countRoads_5 (by decide) ?_
      refine lv_icmp_ge (tgt := 28) hx hb dX2_countRoads_7 (by decide) (fun hc => ?_) (fun hc => ?_)
      · replace hf := (if_pos hc).symm.trans hf
        exact hX4 l4v1 _ _ _ hP hD hS (lv_sub hl [1] rfl) hf
      · replace hf := (if_neg hc).symm.trans hf
        refine lv_iload_n hx hb dX2_countRoads_10 rfl (lv_at hl 1 rfl) ?_
        refine lv_aload_n hx hb dX2_countRoads_11 rfl (lv_at hl 0 rfl) ?_
        refine va_get (D := D) (ci := 2) (v := .ref a_t_roads) (C := RX2) (T := TX2) (N := 2) hx hb hts hmsX2 hown hK hP 0 rfl rfl 0 (by decide) hw9 (fun _ h9 => h9) rfl dX2_countRoads_12 ?_
        refine lv_iload_n hx hb dX2_countRoads_15 rfl (lv_at hl 2 rfl) ?_
        obtain ⟨hi16, hf⟩ := ix_if hf
        refine va_iald (D := D) hx hb hK hP 1 0 rfl rfl hi16 dX2_countRoads_16 ?_
        obtain ⟨x17, hx17, hf⟩ := bd_if hf
        refine cs_i (wr := [(a_t, .inr (2, [.ref a_t_roads, .int t_homes])), (a_t_roads, .inl (cI, 12, .inl t_roads))]) (ws' := [(a_t, .inr (2, [.ref a_t_roads, .int t_homes])), (a_t_roads, .inl (cI, 12, .inl t_roads))]) ⟨hx, hb, hml, hown, hts⟩ hcw33 hK hN hP hD hS hA (c_J6_bitCount_0f7a4 l D cI cJ cZ cO _ (t_roads l4v2.toNatClampNeg) x17 hx17) [] [0, 1] [0, 1] rfl rfl rfl rfl (by decide) rfl rfl rfl hl.1 rfl (Nat.le_of_ble_eq_true rfl) dX2_countRoads_17 ⟨Nat.zero_le _, Nat.zero_le _⟩ (fun H locs hP hD hS => ?_)
        refine lv_iadd hx hb dX2_countRoads_20 ?_
        refine lv_istore_n (lv' := [(1, .int (l4v1 + x17)), (0, .ref a_t), (2, .int l4v2)]) hx hb dX2_countRoads_21 rfl hl (by decide) rfl (fun ls hl => ?_)
        refine lv_iinc (v := l4v2 + 1) (lv' := [(2, .int (l4v2 + 1)), (1, .int (l4v1 + x17)), (0, .ref a_t)]) hx hb dX2_countRoads_22 hl (k := 2) rfl rfl (by decide) rfl (fun ls hl => ?_)
        refine lv_goto (tgt := 4) hx hb dX2_countRoads_25 (by decide) ?_
        exact ih4 (l4v1 + x17) (l4v2 + 1) _ _ _ hP hD hS (lv_sub hl [2, 1, 0] rfl) hf
  exact hL4 5000 (0 : Int32) (0 : Int32) _ _ _ hP hD hS (lv_sub hl [2, 1, 0] rfl) hf
abbrev rm_X2_widened : Room := { frames := 1, cells := 0, slots := 0, locals := 21 }
theorem ms_X2_widened_X2 : ∀ w ∈ u_ws RX2 TX2 2, w ∈ wsX2_widened := fun w h => List.mem_cons_of_mem _ (List.mem_append_right _ (h))
set_option maxHeartbeats 4000000 in
set_option maxRecDepth 100000 in
theorem c_X2_widened (l : Launch) (D : va_G) (cI cJ cZ cO : ClassId) (sz : Nat) (a_t : Nat) (a_t_roads : Nat) (t_homes : Int32) (t_roads : Nat → Int32) (p1 : Int32) (res : Int32) (hf : f_X2_widened t_roads p1 = some res) : MetI l yX2_widened wsX2_widened rm_X2_widened [.ref a_t, .int p1] D (tys4 cI cJ cZ cO) [(a_t, .inr (2, [.ref a_t_roads, .int t_homes])), (a_t_roads, .inl (cI, 12, .inl t_roads))] sz res [(a_t, .inr (2, [.ref a_t_roads, .int t_homes])), (a_t_roads, .inl (cI, 12, .inl t_roads))] := by
  refine met_i (cc := cX2_widened) (maxL := 4) (by decide) rfl (Nat.le_of_ble_eq_true rfl) ?_
  intro p e s m args below meth c Q A hx hb hml hown hts hK hN hA fin H locs ls hP hD hS hl
  replace hown : s.vm.findClass RX2 = some m.cls := hown
  replace hl : lv_has ls 4 [(0, .ref a_t), (1, .int p1)] := hl
  rw [f_X2_widened] at hf
  have hiniX9 := hts (.initialized RX9) (by decide +kernel)
  have hcw39 := va_cnB (R := rm_X2_widened) (rm := rm_X9_holds) 2 hts gX2_widened_X9_holds_n39 rfl rfl rfl (hN.1 (.methodLinkNest RX2 39 yX9_holds RX9) (by decide +kernel)) hiniX9 (by decide +kernel) ⟨Nat.le_of_ble_eq_true rfl, Nat.le_of_ble_eq_true rfl⟩
  have hst39 := hts (.static yX9_holds) (by decide +kernel)
  have hw9 := hts (.fieldLink RX2 9 "TouchReign$Land" "roads" "[I") (by decide +kernel)
  have hmsX2 := ms_X2_widened_X2
  refine lv_iload_n hx hb dX2_widened_0 rfl (lv_at hl 1 rfl) ?_
  refine lv_istore_n (lv' := [(2, .int p1), (0, .ref a_t), (1, .int p1)]) hx hb dX2_widened_1 rfl hl (by decide) rfl (fun ls hl => ?_)
  refine lv_iconst (v := 0) hx hb dX2_widened_2 (by decide) ?_
  refine lv_istore_n (lv' := [(3, .int (0 : Int32)), (2, .int p1), (0, .ref a_t), (1, .int p1)]) hx hb dX2_widened_3 rfl hl (by decide) rfl (fun ls hl => ?_)
  have hX4 : ∀ (x4v2 : Int32) (H : Heap) (locs : List Loc) (ls : Array Slot), va_P D vwCl [(a_t, .inr (2, [.ref a_t_roads, .int t_homes])), (a_t_roads, .inl (cI, 12, .inl t_roads))] H → va_D A [(a_t, .inr (2, [.ref a_t_roads, .int t_homes])), (a_t_roads, .inl (cI, 12, .inl t_roads))] → va_S A s.heap H locs → lv_has ls 4 [(2, .int x4v2)] → f_X2_widened_X4 x4v2 = some res → W p l e rm_X2_widened s m args below meth c H locs 0 0 Q (F0 m 33 ls []) := by
    intro x4v2 H locs ls hP hD hS hl hf
    rw [f_X2_widened_X4] at hf
    refine lv_iload_n hx hb dX2_widened_33 rfl (lv_at hl 0 rfl) ?_
    obtain rfl := Option.some.inj hf
    exact fin _ _ _ _ dX2_widened_34 hP hD hS
  have hL4 : ∀ (n4 : Nat), ∀ (l4v2 : Int32) (l4v3 : Int32) (H : Heap) (locs : List Loc) (ls : Array Slot), va_P D vwCl [(a_t, .inr (2, [.ref a_t_roads, .int t_homes])), (a_t_roads, .inl (cI, 12, .inl t_roads))] H → va_D A [(a_t, .inr (2, [.ref a_t_roads, .int t_homes])), (a_t_roads, .inl (cI, 12, .inl t_roads))] → va_S A s.heap H locs → lv_has ls 4 [(0, .ref a_t), (1, .int p1), (2, .int l4v2), (3, .int l4v3)] → f_X2_widened_L4 t_roads p1 f_X2_widened_X4 n4 l4v2 l4v3 = some res → W p l e rm_X2_widened s m args below meth c H locs 0 0 Q (F0 m 4 ls []) := by
    intro n4
    induction n4 with
    | zero =>
      intro l4v2 l4v3 H locs ls hP hD hS hl hf
      rw [f_X2_widened_L4] at hf
      cases hf
    | succ n4 ih4 =>
      intro l4v2 l4v3 H locs ls hP hD hS hl hf
      rw [f_X2_widened_L4] at hf
      refine lv_iload_n hx hb dX2_widened_4 rfl (lv_at hl 3 rfl) ?_
      refine lv_bipush (v := 12) hx hb dX2_widened_5 (by decide) ?_
      refine lv_icmp_ge (tgt := 33) hx hb dX2_widened_7 (by decide) (fun hc => ?_) (fun hc => ?_)
      · replace hf := (if_pos hc).symm.trans hf
        exact hX4 l4v2 _ _ _ hP hD hS (lv_sub hl [2] rfl) hf
      · replace hf := (if_neg hc).symm.trans hf
        refine lv_iload_n hx hb dX2_widened_10 rfl (lv_at hl 1 rfl) ?_
        refine lv_iload_n hx hb dX2_widened_11 rfl (lv_at hl 3 rfl) ?_
        obtain ⟨x12, hx12, hf⟩ := bd_if hf
        refine cn_i (wr := [(a_t, .inr (2, [.ref a_t_roads, .int t_homes])), (a_t_roads, .inl (cI, 12, .inl t_roads))]) (ws' := [(a_t, .inr (2, [.ref a_t_roads, .int t_homes])), (a_t_roads, .inl (cI, 12, .inl t_roads))]) ⟨hx, hb, hml, hown, hts⟩ ⟨hcw39, hst39, trivial⟩ hK hN hP hD hS hA (c_X9_holds l D cI cJ cZ cO _ p1 l4v3 x12 hx12) [] [0, 1] [0, 1] rfl rfl rfl rfl (by decide) rfl rfl rfl hl.1 rfl (Nat.le_of_ble_eq_true rfl) dX2_widened_12 ⟨Nat.zero_le _, Nat.zero_le _⟩ (fun H locs hP hD hS => ?_)
        refine lv_if_eq (tgt := 27) hx hb dX2_widened_15 (by decide) (fun hc => ?_) (fun hc => ?_)
        · replace hf := (if_pos hc).symm.trans hf
          refine lv_iinc (v := l4v3 + 1) (lv' := [(3, .int (l4v3 + 1)), (0, .ref a_t), (1, .int p1), (2, .int l4v2)]) hx hb dX2_widened_27 hl (k := 3) rfl rfl (by decide) rfl (fun ls hl => ?_)
          refine lv_goto (tgt := 4) hx hb dX2_widened_30 (by decide) ?_
          exact ih4 l4v2 (l4v3 + 1) _ _ _ hP hD hS (lv_sub hl [1, 2, 3, 0] rfl) hf
        · replace hf := (if_neg hc).symm.trans hf
          refine lv_iload_n hx hb dX2_widened_18 rfl (lv_at hl 2 rfl) ?_
          refine lv_aload_n hx hb dX2_widened_19 rfl (lv_at hl 0 rfl) ?_
          refine va_get (D := D) (ci := 2) (v := .ref a_t_roads) (C := RX2) (T := TX2) (N := 2) hx hb hts hmsX2 hown hK hP 0 rfl rfl 0 (by decide) hw9 (fun _ h9 => h9) rfl dX2_widened_20 ?_
          refine lv_iload_n hx hb dX2_widened_23 rfl (lv_at hl 3 rfl) ?_
          obtain ⟨hi24, hf⟩ := ix_if hf
          refine va_iald (D := D) hx hb hK hP 1 0 rfl rfl hi24 dX2_widened_24 ?_
          refine lv_ior hx hb dX2_widened_25 ?_
          refine lv_istore_n (lv' := [(2, .int (l4v2 ||| (t_roads l4v3.toNatClampNeg))), (0, .ref a_t), (1, .int p1), (3, .int l4v3)]) hx hb dX2_widened_26 rfl hl (by decide) rfl (fun ls hl => ?_)
          refine lv_iinc (v := l4v3 + 1) (lv' := [(3, .int (l4v3 + 1)), (2, .int (l4v2 ||| (t_roads l4v3.toNatClampNeg))), (0, .ref a_t), (1, .int p1)]) hx hb dX2_widened_27 hl (k := 3) rfl rfl (by decide) rfl (fun ls hl => ?_)
          refine lv_goto (tgt := 4) hx hb dX2_widened_30 (by decide) ?_
          exact ih4 (l4v2 ||| (t_roads l4v3.toNatClampNeg)) (l4v3 + 1) _ _ _ hP hD hS (lv_sub hl [2, 3, 1, 0] rfl) hf
  exact hL4 5000 p1 (0 : Int32) _ _ _ hP hD hS (lv_sub hl [2, 3, 1, 0] rfl) hf
abbrev rm_X2_distance : Room := { frames := 2, cells := 0, slots := 0, locals := 44 }
set_option maxHeartbeats 4000000 in
set_option maxRecDepth 100000 in
theorem c_X2_distance (l : Launch) (D : va_G) (cI cJ cZ cO : ClassId) (sz : Nat) (a_t : Nat) (a_t_roads : Nat) (t_homes : Int32) (t_roads : Nat → Int32) (p1 : Int32) (p2 : Int32) (res : Int32) (hf : f_X2_distance t_roads p1 p2 = some res) : MetI l yX2_distance wsX2_distance rm_X2_distance [.ref a_t, .int p1, .int p2] D (tys4 cI cJ cZ cO) [(a_t, .inr (2, [.ref a_t_roads, .int t_homes])), (a_t_roads, .inl (cI, 12, .inl t_roads))] sz res [(a_t, .inr (2, [.ref a_t_roads, .int t_homes])), (a_t_roads, .inl (cI, 12, .inl t_roads))] := by
  refine met_i (cc := cX2_distance) (maxL := 5) (by decide) rfl (Nat.le_of_ble_eq_true rfl) ?_
  intro p e s m args below meth c Q A hx hb hml hown hts hK hN hA fin H locs ls hP hD hS hl
  replace hown : s.vm.findClass RX2 = some m.cls := hown
  replace hl : lv_has ls 5 [(0, .ref a_t), (1, .int p1), (2, .int p2)] := hl
  rw [f_X2_distance] at hf
  have hiniX9 := hts (.initialized RX9) (by decide +kernel)
  have hcw39 := va_cnB (R := rm_X2_distance) (rm := rm_X9_holds) 2 hts gX2_distance_X9_holds_n39 rfl rfl rfl (hN.1 (.methodLinkNest RX2 39 yX9_holds RX9) (by decide +kernel)) hiniX9 (by decide +kernel) ⟨Nat.le_of_ble_eq_true rfl, Nat.le_of_ble_eq_true rfl⟩
  have hst39 := hts (.static yX9_holds) (by decide +kernel)
  have hcw43 := cwV (R := rm_X2_distance) (rm := rm_X2_widened) 1 hts gX2_distance_X2_widened rfl rfl rfl (by decide +kernel) ⟨Nat.le_of_ble_eq_true rfl, Nat.le_of_ble_eq_true rfl⟩
  refine lv_iconst (v := 1) hx hb dX2_distance_0 (by decide) ?_
  refine lv_iload_n hx hb dX2_distance_1 rfl (lv_at hl 1 rfl) ?_
  refine lv_ishl hx hb dX2_distance_2 ?_
  refine lv_istore_n (lv' := [(3, .int ((1 : Int32) <<< (p1 &&& 31))), (0, .ref a_t), (1, .int p1), (2, .int p2)]) hx hb dX2_distance_3 rfl hl (by decide) rfl (fun ls hl => ?_)
  refine lv_iconst (v := 0) hx hb dX2_distance_4 (by decide) ?_
  refine lv_istore (lv' := [(4, .int (0 : Int32)), (3, .int ((1 : Int32) <<< (p1 &&& 31))), (0, .ref a_t), (1, .int p1), (2, .int p2)]) hx hb dX2_distance_5 hl (by decide) rfl (fun ls hl => ?_)
  have hX7 : ∀ (H : Heap) (locs : List Loc) (ls : Array Slot), va_P D vwCl [(a_t, .inr (2, [.ref a_t_roads, .int t_homes])), (a_t_roads, .inl (cI, 12, .inl t_roads))] H → va_D A [(a_t, .inr (2, [.ref a_t_roads, .int t_homes])), (a_t_roads, .inl (cI, 12, .inl t_roads))] → va_S A s.heap H locs → lv_has ls 5 [] → f_X2_distance_X7 = some res → W p l e rm_X2_distance s m args below meth c H locs 0 0 Q (F0 m 37 ls []) := by
    intro  H locs ls hP hD hS hl hf
    rw [f_X2_distance_X7] at hf
    refine lv_bipush (v := -6) hx hb dX2_distance_37 (by decide) ?_
    obtain rfl := Option.some.inj hf
    exact fin _ _ _ _ dX2_distance_39 hP hD hS
  have hL7 : ∀ (n7 : Nat), ∀ (l7v3 : Int32) (l7v4 : Int32) (H : Heap) (locs : List Loc) (ls : Array Slot), va_P D vwCl [(a_t, .inr (2, [.ref a_t_roads, .int t_homes])), (a_t_roads, .inl (cI, 12, .inl t_roads))] H → va_D A [(a_t, .inr (2, [.ref a_t_roads, .int t_homes])), (a_t_roads, .inl (cI, 12, .inl t_roads))] → va_S A s.heap H locs → lv_has ls 5 [(0, .ref a_t), (2, .int p2), (3, .int l7v3), (4, .int l7v4)] → f_X2_distance_L7 t_roads p2 f_X2_distance_X7 n7 l7v3 l7v4 = some res → W p l e rm_X2_distance s m args below meth c H locs 0 0 Q (F0 m 7 ls []) := by
    intro n7
    induction n7 with
    | zero =>
      intro l7v3 l7v4 H locs ls hP hD hS hl hf
      rw [f_X2_distance_L7] at hf
      cases hf
    | succ n7 ih7 =>
      intro l7v3 l7v4 H locs ls hP hD hS hl hf
      rw [f_X2_distance_L7] at hf
      refine lv_iload hx hb dX2_distance_7 (lv_at hl 3 rfl) ?_
      refine lv_bipush (v := 12) hx hb dX2_distance_9 (by decide) ?_
      refine lv_icmp_ge (tgt := 37) hx hb dX2_distance_11 (by decide) (fun hc => ?_) (fun hc => ?_)
      · replace hf := (if_pos hc).symm.trans hf
        exact hX7 _ _ _ hP hD hS (lv_sub hl [] rfl) hf
      · replace hf := (if_neg hc).symm.trans hf
        refine lv_iload_n hx hb dX2_distance_14 rfl (lv_at hl 2 rfl) ?_
        refine lv_iload_n hx hb dX2_distance_15 rfl (lv_at hl 1 rfl) ?_
        obtain ⟨x16, hx16, hf⟩ := bd_if hf
        refine cn_i (wr := [(a_t, .inr (2, [.ref a_t_roads, .int t_homes])), (a_t_roads, .inl (cI, 12, .inl t_roads))]) (ws' := [(a_t, .inr (2, [.ref a_t_roads, .int t_homes])), (a_t_roads, .inl (cI, 12, .inl t_roads))]) ⟨hx, hb, hml, hown, hts⟩ ⟨hcw39, hst39, trivial⟩ hK hN hP hD hS hA (c_X9_holds l D cI cJ cZ cO _ l7v3 p2 x16 hx16) [] [0, 1] [0, 1] rfl rfl rfl rfl (by decide) rfl rfl rfl hl.1 rfl (Nat.le_of_ble_eq_true rfl) dX2_distance_16 ⟨Nat.zero_le _, Nat.zero_le _⟩ (fun H locs hP hD hS => ?_)
        refine lv_if_eq (tgt := 25) hx hb dX2_distance_19 (by decide) (fun hc => ?_) (fun hc => ?_)
        · replace hf := (if_pos hc).symm.trans hf
          refine lv_aload_n hx hb dX2_distance_25 rfl (lv_at hl 0 rfl) ?_
          refine lv_iload_n hx hb dX2_distance_26 rfl (lv_at hl 2 rfl) ?_
          obtain ⟨x27, hx27, hf⟩ := bd_if hf
          refine cv_i (wr := []) (ws' := [(a_t, .inr (2, [.ref a_t_roads, .int t_homes])), (a_t_roads, .inl (cI, 12, .inl t_roads))]) ⟨hx, hb, hml, hown, hts⟩ hcw43 hK hN hP hD hS hA (c_X2_widened l D cI cJ cZ cO _ a_t a_t_roads t_homes t_roads l7v3 x27 hx27) (q := (RX2, TX2, 2)) (ci := 2) (q0 := 0) rfl rfl [0, 1] [] [0, 1] rfl rfl rfl rfl (by decide) rfl rfl rfl hl.1 rfl (Nat.le_of_ble_eq_true rfl) dX2_distance_27 ⟨Nat.zero_le _, Nat.zero_le _⟩ (fun H locs hP hD hS => ?_)
          refine lv_istore_n (lv' := [(3, .int x27), (0, .ref a_t), (2, .int p2), (4, .int l7v4)]) hx hb dX2_distance_30 rfl hl (by decide) rfl (fun ls hl => ?_)
          refine lv_iinc (v := l7v4 + 1) (lv' := [(4, .int (l7v4 + 1)), (3, .int x27), (0, .ref a_t), (2, .int p2)]) hx hb dX2_distance_31 hl (k := 3) rfl rfl (by decide) rfl (fun ls hl => ?_)
          refine lv_goto (tgt := 7) hx hb dX2_distance_34 (by decide) ?_
          exact ih7 x27 (l7v4 + 1) _ _ _ hP hD hS (lv_sub hl [2, 3, 1, 0] rfl) hf
        · replace hf := (if_neg hc).symm.trans hf
          refine lv_iload hx hb dX2_distance_22 (lv_at hl 3 rfl) ?_
          obtain rfl := Option.some.inj hf
          exact fin _ _ _ _ dX2_distance_24 hP hD hS
  exact hL7 5000 ((1 : Int32) <<< (p1 &&& 31)) (0 : Int32) _ _ _ hP hD hS (lv_sub hl [2, 4, 1, 0] rfl) hf
abbrev rm_X2_within : Room := { frames := 2, cells := 0, slots := 0, locals := 44 }
set_option maxHeartbeats 4000000 in
set_option maxRecDepth 100000 in
theorem c_X2_within (l : Launch) (D : va_G) (cI cJ cZ cO : ClassId) (sz : Nat) (a_t : Nat) (a_t_roads : Nat) (t_homes : Int32) (t_roads : Nat → Int32) (p1 : Int32) (p2 : Int32) (res : Int32) (hf : f_X2_within t_roads p1 p2 = some res) : MetI l yX2_within wsX2_within rm_X2_within [.ref a_t, .int p1, .int p2] D (tys4 cI cJ cZ cO) [(a_t, .inr (2, [.ref a_t_roads, .int t_homes])), (a_t_roads, .inl (cI, 12, .inl t_roads))] sz res [(a_t, .inr (2, [.ref a_t_roads, .int t_homes])), (a_t_roads, .inl (cI, 12, .inl t_roads))] := by
  refine met_i (cc := cX2_within) (maxL := 5) (by decide) rfl (Nat.le_of_ble_eq_true rfl) ?_
  intro p e s m args below meth c Q A hx hb hml hown hts hK hN hA fin H locs ls hP hD hS hl
  replace hown : s.vm.findClass RX2 = some m.cls := hown
  replace hl : lv_has ls 5 [(0, .ref a_t), (1, .int p1), (2, .int p2)] := hl
  rw [f_X2_within] at hf
  have hcw43 := cwV (R := rm_X2_within) (rm := rm_X2_widened) 1 hts gX2_within_X2_widened rfl rfl rfl (by decide +kernel) ⟨Nat.le_of_ble_eq_true rfl, Nat.le_of_ble_eq_true rfl⟩
  refine lv_iconst (v := 1) hx hb dX2_within_0 (by decide) ?_
  refine lv_iload_n hx hb dX2_within_1 rfl (lv_at hl 1 rfl) ?_
  refine lv_ishl hx hb dX2_within_2 ?_
  refine lv_istore_n (lv' := [(3, .int ((1 : Int32) <<< (p1 &&& 31))), (0, .ref a_t), (1, .int p1), (2, .int p2)]) hx hb dX2_within_3 rfl hl (by decide) rfl (fun ls hl => ?_)
  refine lv_iconst (v := 0) hx hb dX2_within_4 (by decide) ?_
  refine lv_istore (lv' := [(4, .int (0 : Int32)), (3, .int ((1 : Int32) <<< (p1 &&& 31))), (0, .ref a_t), (1, .int p1), (2, .int p2)]) hx hb dX2_within_5 hl (by decide) rfl (fun ls hl => ?_)
  have hX7 : ∀ (x7v3 : Int32) (H : Heap) (locs : List Loc) (ls : Array Slot), va_P D vwCl [(a_t, .inr (2, [.ref a_t_roads, .int t_homes])), (a_t_roads, .inl (cI, 12, .inl t_roads))] H → va_D A [(a_t, .inr (2, [.ref a_t_roads, .int t_homes])), (a_t_roads, .inl (cI, 12, .inl t_roads))] → va_S A s.heap H locs → lv_has ls 5 [(3, .int x7v3)] → f_X2_within_X7 x7v3 = some res → W p l e rm_X2_within s m args below meth c H locs 0 0 Q (F0 m 25 ls []) := by
    intro x7v3 H locs ls hP hD hS hl hf
    rw [f_X2_within_X7] at hf
    refine lv_iload_n hx hb dX2_within_25 rfl (lv_at hl 0 rfl) ?_
    obtain rfl := Option.some.inj hf
    exact fin _ _ _ _ dX2_within_26 hP hD hS
  have hL7 : ∀ (n7 : Nat), ∀ (l7v3 : Int32) (l7v4 : Int32) (H : Heap) (locs : List Loc) (ls : Array Slot), va_P D vwCl [(a_t, .inr (2, [.ref a_t_roads, .int t_homes])), (a_t_roads, .inl (cI, 12, .inl t_roads))] H → va_D A [(a_t, .inr (2, [.ref a_t_roads, .int t_homes])), (a_t_roads, .inl (cI, 12, .inl t_roads))] → va_S A s.heap H locs → lv_has ls 5 [(0, .ref a_t), (2, .int p2), (3, .int l7v3), (4, .int l7v4)] → f_X2_within_L7 t_roads p2 f_X2_within_X7 n7 l7v3 l7v4 = some res → W p l e rm_X2_within s m args below meth c H locs 0 0 Q (F0 m 7 ls []) := by
    intro n7
    induction n7 with
    | zero =>
      intro l7v3 l7v4 H locs ls hP hD hS hl hf
      rw [f_X2_within_L7] at hf
      cases hf
    | succ n7 ih7 =>
      intro l7v3 l7v4 H locs ls hP hD hS hl hf
      rw [f_X2_within_L7] at hf
      refine lv_iload hx hb dX2_within_7 (lv_at hl 3 rfl) ?_
      refine lv_iload_n hx hb dX2_within_9 rfl (lv_at hl 1 rfl) ?_
      refine lv_icmp_ge (tgt := 25) hx hb dX2_within_10 (by decide) (fun hc => ?_) (fun hc => ?_)
      · replace hf := (if_pos hc).symm.trans hf
        exact hX7 l7v3 _ _ _ hP hD hS (lv_sub hl [2] rfl) hf
      · replace hf := (if_neg hc).symm.trans hf
        refine lv_aload_n hx hb dX2_within_13 rfl (lv_at hl 0 rfl) ?_
        refine lv_iload_n hx hb dX2_within_14 rfl (lv_at hl 2 rfl) ?_
        obtain ⟨x15, hx15, hf⟩ := bd_if hf
        refine cv_i (wr := []) (ws' := [(a_t, .inr (2, [.ref a_t_roads, .int t_homes])), (a_t_roads, .inl (cI, 12, .inl t_roads))]) ⟨hx, hb, hml, hown, hts⟩ hcw43 hK hN hP hD hS hA (c_X2_widened l D cI cJ cZ cO _ a_t a_t_roads t_homes t_roads l7v3 x15 hx15) (q := (RX2, TX2, 2)) (ci := 2) (q0 := 0) rfl rfl [0, 1] [] [0, 1] rfl rfl rfl rfl (by decide) rfl rfl rfl hl.1 rfl (Nat.le_of_ble_eq_true rfl) dX2_within_15 ⟨Nat.zero_le _, Nat.zero_le _⟩ (fun H locs hP hD hS => ?_)
        refine lv_istore_n (lv' := [(3, .int x15), (0, .ref a_t), (2, .int p2), (4, .int l7v4)]) hx hb dX2_within_18 rfl hl (by decide) rfl (fun ls hl => ?_)
        refine lv_iinc (v := l7v4 + 1) (lv' := [(4, .int (l7v4 + 1)), (3, .int x15), (0, .ref a_t), (2, .int p2)]) hx hb dX2_within_19 hl (k := 3) rfl rfl (by decide) rfl (fun ls hl => ?_)
        refine lv_goto (tgt := 7) hx hb dX2_within_22 (by decide) ?_
        exact ih7 x15 (l7v4 + 1) _ _ _ hP hD hS (lv_sub hl [2, 3, 1, 0] rfl) hf
  exact hL7 5000 ((1 : Int32) <<< (p1 &&& 31)) (0 : Int32) _ _ _ hP hD hS (lv_sub hl [2, 4, 1, 0] rfl) hf
abbrev rm_X2_mostLeft : Room := { frames := 2, cells := 0, slots := 0, locals := 44 }
set_option maxHeartbeats 4000000 in
set_option maxRecDepth 100000 in
theorem c_X2_mostLeft (l : Launch) (D : va_G) (cI cJ cZ cO : ClassId) (sz : Nat) (a_t : Nat) (a_t_roads : Nat) (t_homes : Int32) (t_roads : Nat → Int32) (p1 : Int32) (p2 : Int32) (res : Int32) (hf : f_X2_mostLeft t_roads p1 p2 = some res) : MetI l yX2_mostLeft wsX2_mostLeft rm_X2_mostLeft [.ref a_t, .int p1, .int p2] D (tys4 cI cJ cZ cO) [(a_t, .inr (2, [.ref a_t_roads, .int t_homes])), (a_t_roads, .inl (cI, 12, .inl t_roads))] sz res [(a_t, .inr (2, [.ref a_t_roads, .int t_homes])), (a_t_roads, .inl (cI, 12, .inl t_roads))] := by
  refine met_i (cc := cX2_mostLeft) (maxL := 7) (by decide) rfl (Nat.le_of_ble_eq_true rfl) ?_
  intro p e s m args below meth c Q A hx hb hml hown hts hK hN hA fin H locs ls hP hD hS hl
  replace hown : s.vm.findClass RX2 = some m.cls := hown
  replace hl : lv_has ls 7 [(0, .ref a_t), (1, .int p1), (2, .int p2)] := hl
  rw [f_X2_mostLeft] at hf
  have hcw33 := va_cwS (R := rm_X2_mostLeft) (rm := rm_J6_bitCount_0f7a4) 1 hts gX2_mostLeft_J6_bitCount_0f7a4 rfl rfl rfl (by decide +kernel) ⟨Nat.le_of_ble_eq_true rfl, Nat.le_of_ble_eq_true rfl⟩
  have hmmaxl := hts (.methodLink RX2 46 Lib.Math.max.name) (by decide +kernel)
  have hmmaxs := hts (.static Lib.Math.max.name) (by decide +kernel)
  have hmi := hts (.initialized "java/lang/Math") (by decide +kernel)
  have hmmaxc := hts (.code Lib.Math.max.name Lib.Math.max.code 2 (some .int)) (by decide +kernel)
  have hcw43 := cwV (R := rm_X2_mostLeft) (rm := rm_X2_widened) 1 hts gX2_mostLeft_X2_widened rfl rfl rfl (by decide +kernel) ⟨Nat.le_of_ble_eq_true rfl, Nat.le_of_ble_eq_true rfl⟩
  refine lv_iconst (v := 1) hx hb dX2_mostLeft_0 (by decide) ?_
  refine lv_iload_n hx hb dX2_mostLeft_1 rfl (lv_at hl 1 rfl) ?_
  refine lv_ishl hx hb dX2_mostLeft_2 ?_
  refine lv_istore_n (lv' := [(3, .int ((1 : Int32) <<< (p1 &&& 31))), (0, .ref a_t), (1, .int p1), (2, .int p2)]) hx hb dX2_mostLeft_3 rfl hl (by decide) rfl (fun ls hl => ?_)
  refine lv_iload_n hx hb dX2_mostLeft_4 rfl (lv_at hl 0 rfl) ?_
  refine lv_iload_n hx hb dX2_mostLeft_5 rfl (lv_at hl 3 rfl) ?_
  refine lv_iand hx hb dX2_mostLeft_6 ?_
  obtain ⟨x7, hx7, hf⟩ := bd_if hf
  refine cs_i (wr := [(a_t, .inr (2, [.ref a_t_roads, .int t_homes])), (a_t_roads, .inl (cI, 12, .inl t_roads))]) (ws' := [(a_t, .inr (2, [.ref a_t_roads, .int t_homes])), (a_t_roads, .inl (cI, 12, .inl t_roads))]) ⟨hx, hb, hml, hown, hts⟩ hcw33 hK hN hP hD hS hA (c_J6_bitCount_0f7a4 l D cI cJ cZ cO _ (((1 : Int32) <<< (p1 &&& 31)) &&& p2) x7 hx7) [] [0, 1] [0, 1] rfl rfl rfl rfl (by decide) rfl rfl rfl hl.1 rfl (Nat.le_of_ble_eq_true rfl) dX2_mostLeft_7 ⟨Nat.zero_le _, Nat.zero_le _⟩ (fun H locs hP hD hS => ?_)
  refine lv_istore (lv' := [(4, .int x7), (3, .int ((1 : Int32) <<< (p1 &&& 31))), (0, .ref a_t), (1, .int p1), (2, .int p2)]) hx hb dX2_mostLeft_10 hl (by decide) rfl (fun ls hl => ?_)
  refine lv_iconst (v := 1) hx hb dX2_mostLeft_12 (by decide) ?_
  refine lv_istore (lv' := [(5, .int (1 : Int32)), (4, .int x7), (3, .int ((1 : Int32) <<< (p1 &&& 31))), (0, .ref a_t), (1, .int p1), (2, .int p2)]) hx hb dX2_mostLeft_13 hl (by decide) rfl (fun ls hl => ?_)
  have hX15 : ∀ (x15v3 : Int32) (x15v4 : Int32) (H : Heap) (locs : List Loc) (ls : Array Slot), va_P D vwCl [(a_t, .inr (2, [.ref a_t_roads, .int t_homes])), (a_t_roads, .inl (cI, 12, .inl t_roads))] H → va_D A [(a_t, .inr (2, [.ref a_t_roads, .int t_homes])), (a_t_roads, .inl (cI, 12, .inl t_roads))] → va_S A s.heap H locs → lv_has ls 7 [(2, .int p2), (3, .int x15v3), (4, .int x15v4)] → f_X2_mostLeft_X15 p2 x15v3 x15v4 = some res → W p l e rm_X2_mostLeft s m args below meth c H locs 0 0 Q (F0 m 56 ls []) := by
    intro x15v3 x15v4 H locs ls hP hD hS hl hf
    rw [f_X2_mostLeft_X15] at hf
    refine lv_iload hx hb dX2_mostLeft_56 (lv_at hl 2 rfl) ?_
    refine lv_iload_n hx hb dX2_mostLeft_58 rfl (lv_at hl 0 rfl) ?_
    refine lv_iload_n hx hb dX2_mostLeft_59 rfl (lv_at hl 1 rfl) ?_
    refine lv_iconst (v := -1) hx hb dX2_mostLeft_60 (by decide) ?_
    refine lv_ixor hx hb dX2_mostLeft_61 ?_
    refine lv_iand hx hb dX2_mostLeft_62 ?_
    obtain ⟨x63, hx63, hf⟩ := bd_if hf
    refine cs_i (wr := [(a_t, .inr (2, [.ref a_t_roads, .int t_homes])), (a_t_roads, .inl (cI, 12, .inl t_roads))]) (ws' := [(a_t, .inr (2, [.ref a_t_roads, .int t_homes])), (a_t_roads, .inl (cI, 12, .inl t_roads))]) ⟨hx, hb, hml, hown, hts⟩ hcw33 hK hN hP hD hS hA (c_J6_bitCount_0f7a4 l D cI cJ cZ cO _ (p2 &&& (x15v3 ^^^ (-1 : Int32))) x63 hx63) [] [0, 1] [0, 1] rfl rfl rfl rfl (by decide) rfl rfl rfl hl.1 rfl (Nat.le_of_ble_eq_true rfl) dX2_mostLeft_63 ⟨Nat.zero_le _, Nat.zero_le _⟩ (fun H locs hP hD hS => ?_)
    refine va_mmax hx hb (hml.trans hl.1.symm) hown hmmaxl hmmaxs hmi hmmaxc (Nat.le_of_ble_eq_true rfl) (Nat.le_of_ble_eq_true rfl) (Nat.zero_le _) (Nat.zero_le _) dX2_mostLeft_66 ?_
    obtain rfl := Option.some.inj hf
    exact fin _ _ _ _ dX2_mostLeft_69 hP hD hS
  have hL15 : ∀ (n15 : Nat), ∀ (l15v3 : Int32) (l15v4 : Int32) (l15v5 : Int32) (H : Heap) (locs : List Loc) (ls : Array Slot), va_P D vwCl [(a_t, .inr (2, [.ref a_t_roads, .int t_homes])), (a_t_roads, .inl (cI, 12, .inl t_roads))] H → va_D A [(a_t, .inr (2, [.ref a_t_roads, .int t_homes])), (a_t_roads, .inl (cI, 12, .inl t_roads))] → va_S A s.heap H locs → lv_has ls 7 [(0, .ref a_t), (2, .int p2), (3, .int l15v3), (4, .int l15v4), (5, .int l15v5)] → f_X2_mostLeft_L15 t_roads p2 (f_X2_mostLeft_X15 p2) n15 l15v3 l15v4 l15v5 = some res → W p l e rm_X2_mostLeft s m args below meth c H locs 0 0 Q (F0 m 15 ls []) := by
    intro n15
    induction n15 with
    | zero =>
      intro l15v3 l15v4 l15v5 H locs ls hP hD hS hl hf
      rw [f_X2_mostLeft_L15] at hf
      cases hf
    | succ n15 ih15 =>
      intro l15v3 l15v4 l15v5 H locs ls hP hD hS hl hf
      rw [f_X2_mostLeft_L15] at hf
      refine lv_iload hx hb dX2_mostLeft_15 (lv_at hl 4 rfl) ?_
      refine lv_bipush (v := 12) hx hb dX2_mostLeft_17 (by decide) ?_
      refine lv_icmp_ge (tgt := 56) hx hb dX2_mostLeft_19 (by decide) (fun hc => ?_) (fun hc => ?_)
      · replace hf := (if_pos hc).symm.trans hf
        exact hX15 l15v3 l15v4 _ _ _ hP hD hS (lv_sub hl [1, 2, 3] rfl) hf
      · replace hf := (if_neg hc).symm.trans hf
        refine lv_aload_n hx hb dX2_mostLeft_22 rfl (lv_at hl 0 rfl) ?_
        refine lv_iload_n hx hb dX2_mostLeft_23 rfl (lv_at hl 2 rfl) ?_
        obtain ⟨x24, hx24, hf⟩ := bd_if hf
        refine cv_i (wr := []) (ws' := [(a_t, .inr (2, [.ref a_t_roads, .int t_homes])), (a_t_roads, .inl (cI, 12, .inl t_roads))]) ⟨hx, hb, hml, hown, hts⟩ hcw43 hK hN hP hD hS hA (c_X2_widened l D cI cJ cZ cO _ a_t a_t_roads t_homes t_roads l15v3 x24 hx24) (q := (RX2, TX2, 2)) (ci := 2) (q0 := 0) rfl rfl [0, 1] [] [0, 1] rfl rfl rfl rfl (by decide) rfl rfl rfl hl.1 rfl (Nat.le_of_ble_eq_true rfl) dX2_mostLeft_24 ⟨Nat.zero_le _, Nat.zero_le _⟩ (fun H locs hP hD hS => ?_)
        refine lv_istore (lv' := [(6, .int x24), (0, .ref a_t), (2, .int p2), (3, .int l15v3), (4, .int l15v4), (5, .int l15v5)]) hx hb dX2_mostLeft_27 hl (by decide) rfl (fun ls hl => ?_)
        refine lv_iload hx hb dX2_mostLeft_29 (lv_at hl 4 rfl) ?_
        refine lv_iload hx hb dX2_mostLeft_31 (lv_at hl 0 rfl) ?_
        refine lv_iload_n hx hb dX2_mostLeft_33 rfl (lv_at hl 3 rfl) ?_
        refine lv_iconst (v := -1) hx hb dX2_mostLeft_34 (by decide) ?_
        refine lv_ixor hx hb dX2_mostLeft_35 ?_
        refine lv_iand hx hb dX2_mostLeft_36 ?_
        refine lv_iload_n hx hb dX2_mostLeft_37 rfl (lv_at hl 2 rfl) ?_
        refine lv_iand hx hb dX2_mostLeft_38 ?_
        obtain ⟨x39, hx39, hf⟩ := bd_if hf
        refine cs_i (wr := [(a_t, .inr (2, [.ref a_t_roads, .int t_homes])), (a_t_roads, .inl (cI, 12, .inl t_roads))]) (ws' := [(a_t, .inr (2, [.ref a_t_roads, .int t_homes])), (a_t_roads, .inl (cI, 12, .inl t_roads))]) ⟨hx, hb, hml, hown, hts⟩ hcw33 hK hN hP hD hS hA (c_J6_bitCount_0f7a4 l D cI cJ cZ cO _ ((x24 &&& (l15v3 ^^^ (-1 : Int32))) &&& p2) x39 hx39) [] [0, 1] [0, 1] rfl rfl rfl rfl (by decide) rfl rfl rfl hl.1 rfl (Nat.le_of_ble_eq_true rfl) dX2_mostLeft_39 ⟨Nat.zero_le _, Nat.zero_le _⟩ (fun H locs hP hD hS => ?_)
        refine va_mmax hx hb (hml.trans hl.1.symm) hown hmmaxl hmmaxs hmi hmmaxc (Nat.le_of_ble_eq_true rfl) (Nat.le_of_ble_eq_true rfl) (Nat.zero_le _) (Nat.zero_le _) dX2_mostLeft_42 ?_
        refine lv_istore (lv' := [(4, .int (if l15v4 < x39 then x39 else l15v4)), (6, .int x24), (0, .ref a_t), (2, .int p2), (3, .int l15v3), (5, .int l15v5)]) hx hb dX2_mostLeft_45 hl (by decide) rfl (fun ls hl => ?_)
        refine lv_iload hx hb dX2_mostLeft_47 (lv_at hl 1 rfl) ?_
        refine lv_istore_n (lv' := [(3, .int x24), (4, .int (if l15v4 < x39 then x39 else l15v4)), (6, .int x24), (0, .ref a_t), (2, .int p2), (5, .int l15v5)]) hx hb dX2_mostLeft_49 rfl hl (by decide) rfl (fun ls hl => ?_)
        refine lv_iinc (v := l15v5 + 1) (lv' := [(5, .int (l15v5 + 1)), (3, .int x24), (4, .int (if l15v4 < x39 then x39 else l15v4)), (6, .int x24), (0, .ref a_t), (2, .int p2)]) hx hb dX2_mostLeft_50 hl (k := 5) rfl rfl (by decide) rfl (fun ls hl => ?_)
        refine lv_goto (tgt := 15) hx hb dX2_mostLeft_53 (by decide) ?_
        exact ih15 x24 (if l15v4 < x39 then x39 else l15v4) (l15v5 + 1) _ _ _ hP hD hS (lv_sub hl [4, 5, 1, 2, 0] rfl) hf
  exact hL15 5000 ((1 : Int32) <<< (p1 &&& 31)) x7 (1 : Int32) _ _ _ hP hD hS (lv_sub hl [3, 5, 2, 1, 0] rfl) hf
abbrev rm_X2_fitting : Room := { frames := 2, cells := 0, slots := 0, locals := 44 }
set_option maxHeartbeats 4000000 in
set_option maxRecDepth 100000 in
theorem c_X2_fitting (l : Launch) (D : va_G) (cI cJ cZ cO : ClassId) (sz : Nat) (a_t : Nat) (a_t_roads : Nat) (t_homes : Int32) (t_roads : Nat → Int32) (p1 : Int32) (p2 : Int32) (p3 : Int32) (res : Int32) (hf : f_X2_fitting t_roads p1 p2 p3 = some res) : MetI l yX2_fitting wsX2_fitting rm_X2_fitting [.ref a_t, .int p1, .int p2, .int p3] D (tys4 cI cJ cZ cO) [(a_t, .inr (2, [.ref a_t_roads, .int t_homes])), (a_t_roads, .inl (cI, 12, .inl t_roads))] sz res [(a_t, .inr (2, [.ref a_t_roads, .int t_homes])), (a_t_roads, .inl (cI, 12, .inl t_roads))] := by
  refine met_i (cc := cX2_fitting) (maxL := 8) (by decide) rfl (Nat.le_of_ble_eq_true rfl) ?_
  intro p e s m args below meth c Q A hx hb hml hown hts hK hN hA fin H locs ls hP hD hS hl
  replace hown : s.vm.findClass RX2 = some m.cls := hown
  replace hl : lv_has ls 8 [(0, .ref a_t), (1, .int p1), (2, .int p2), (3, .int p3)] := hl
  rw [f_X2_fitting] at hf
  have hcw43 := cwV (R := rm_X2_fitting) (rm := rm_X2_widened) 1 hts gX2_fitting_X2_widened rfl rfl rfl (by decide +kernel) ⟨Nat.le_of_ble_eq_true rfl, Nat.le_of_ble_eq_true rfl⟩
  refine lv_iconst (v := 1) hx hb dX2_fitting_0 (by decide) ?_
  refine lv_iload_n hx hb dX2_fitting_1 rfl (lv_at hl 1 rfl) ?_
  refine lv_ishl hx hb dX2_fitting_2 ?_
  refine lv_istore (lv' := [(4, .int ((1 : Int32) <<< (p1 &&& 31))), (0, .ref a_t), (1, .int p1), (2, .int p2), (3, .int p3)]) hx hb dX2_fitting_3 hl (by decide) rfl (fun ls hl => ?_)
  refine lv_iconst (v := 1) hx hb dX2_fitting_5 (by decide) ?_
  refine lv_iload_n hx hb dX2_fitting_6 rfl (lv_at hl 3 rfl) ?_
  refine lv_ishl hx hb dX2_fitting_7 ?_
  refine lv_istore (lv' := [(5, .int ((1 : Int32) <<< (p2 &&& 31))), (4, .int ((1 : Int32) <<< (p1 &&& 31))), (0, .ref a_t), (1, .int p1), (2, .int p2), (3, .int p3)]) hx hb dX2_fitting_8 hl (by decide) rfl (fun ls hl => ?_)
  refine lv_iconst (v := 0) hx hb dX2_fitting_10 (by decide) ?_
  refine lv_istore (lv' := [(6, .int (0 : Int32)), (5, .int ((1 : Int32) <<< (p2 &&& 31))), (4, .int ((1 : Int32) <<< (p1 &&& 31))), (0, .ref a_t), (1, .int p1), (2, .int p2), (3, .int p3)]) hx hb dX2_fitting_11 hl (by decide) rfl (fun ls hl => ?_)
  refine lv_iconst (v := 0) hx hb dX2_fitting_13 (by decide) ?_
  refine lv_istore (lv' := [(7, .int (0 : Int32)), (6, .int (0 : Int32)), (5, .int ((1 : Int32) <<< (p2 &&& 31))), (4, .int ((1 : Int32) <<< (p1 &&& 31))), (0, .ref a_t), (1, .int p1), (2, .int p2), (3, .int p3)]) hx hb dX2_fitting_14 hl (by decide) rfl (fun ls hl => ?_)
  have hX16 : ∀ (x16v4 : Int32) (x16v5 : Int32) (x16v6 : Int32) (H : Heap) (locs : List Loc) (ls : Array Slot), va_P D vwCl [(a_t, .inr (2, [.ref a_t_roads, .int t_homes])), (a_t_roads, .inl (cI, 12, .inl t_roads))] H → va_D A [(a_t, .inr (2, [.ref a_t_roads, .int t_homes])), (a_t_roads, .inl (cI, 12, .inl t_roads))] → va_S A s.heap H locs → lv_has ls 8 [(3, .int p3), (4, .int x16v4), (5, .int x16v5), (6, .int x16v6)] → f_X2_fitting_X16 p3 x16v4 x16v5 x16v6 = some res → W p l e rm_X2_fitting s m args below meth c H locs 0 0 Q (F0 m 57 ls []) := by
    intro x16v4 x16v5 x16v6 H locs ls hP hD hS hl hf
    rw [f_X2_fitting_X16] at hf
    refine lv_iload hx hb dX2_fitting_57 (lv_at hl 1 rfl) ?_
    refine lv_iload hx hb dX2_fitting_59 (lv_at hl 2 rfl) ?_
    refine lv_iand hx hb dX2_fitting_61 ?_
    refine lv_istore (lv' := [(7, .int (x16v4 &&& x16v5)), (3, .int p3), (4, .int x16v4), (5, .int x16v5), (6, .int x16v6)]) hx hb dX2_fitting_62 hl (by decide) rfl (fun ls hl => ?_)
    refine lv_iload_n hx hb dX2_fitting_64 rfl (lv_at hl 1 rfl) ?_
    refine lv_if_eq (tgt := 76) hx hb dX2_fitting_65 (by decide) (fun hc => ?_) (fun hc => ?_)
    · replace hf := (if_pos hc).symm.trans hf
      refine lv_iload hx hb dX2_fitting_76 (lv_at hl 0 rfl) ?_
      refine lv_iload hx hb dX2_fitting_78 (lv_at hl 4 rfl) ?_
      refine lv_iconst (v := -1) hx hb dX2_fitting_80 (by decide) ?_
      refine lv_ixor hx hb dX2_fitting_81 ?_
      refine lv_iand hx hb dX2_fitting_82 ?_
      obtain rfl := Option.some.inj hf
      exact fin _ _ _ _ dX2_fitting_83 hP hD hS
    · replace hf := (if_neg hc).symm.trans hf
      refine lv_iload hx hb dX2_fitting_68 (lv_at hl 0 rfl) ?_
      refine lv_iload hx hb dX2_fitting_70 (lv_at hl 4 rfl) ?_
      refine lv_iand hx hb dX2_fitting_72 ?_
      refine lv_goto (tgt := 83) hx hb dX2_fitting_73 (by decide) ?_
      obtain rfl := Option.some.inj hf
      exact fin _ _ _ _ dX2_fitting_83 hP hD hS
  have hL16 : ∀ (n16 : Nat), ∀ (l16v4 : Int32) (l16v5 : Int32) (l16v6 : Int32) (l16v7 : Int32) (H : Heap) (locs : List Loc) (ls : Array Slot), va_P D vwCl [(a_t, .inr (2, [.ref a_t_roads, .int t_homes])), (a_t_roads, .inl (cI, 12, .inl t_roads))] H → va_D A [(a_t, .inr (2, [.ref a_t_roads, .int t_homes])), (a_t_roads, .inl (cI, 12, .inl t_roads))] → va_S A s.heap H locs → lv_has ls 8 [(0, .ref a_t), (3, .int p3), (4, .int l16v4), (5, .int l16v5), (6, .int l16v6), (7, .int l16v7)] → f_X2_fitting_L16 t_roads (f_X2_fitting_X16 p3) n16 l16v4 l16v5 l16v6 l16v7 = some res → W p l e rm_X2_fitting s m args below meth c H locs 0 0 Q (F0 m 16 ls []) := by
    intro n16
    induction n16 with
    | zero =>
      intro l16v4 l16v5 l16v6 l16v7 H locs ls hP hD hS hl hf
      rw [f_X2_fitting_L16] at hf
      cases hf
    | succ n16 ih16 =>
      intro l16v4 l16v5 l16v6 l16v7 H locs ls hP hD hS hl hf
      rw [f_X2_fitting_L16] at hf
      refine lv_iload hx hb dX2_fitting_16 (lv_at hl 5 rfl) ?_
      refine lv_bipush (v := 12) hx hb dX2_fitting_18 (by decide) ?_
      refine lv_icmp_ge (tgt := 57) hx hb dX2_fitting_20 (by decide) (fun hc => ?_) (fun hc => ?_)
      · replace hf := (if_pos hc).symm.trans hf
        exact hX16 l16v4 l16v5 l16v6 _ _ _ hP hD hS (lv_sub hl [1, 2, 3, 4] rfl) hf
      · replace hf := (if_neg hc).symm.trans hf
        refine lv_iload hx hb dX2_fitting_23 (lv_at hl 4 rfl) ?_
        refine lv_iload hx hb dX2_fitting_25 (lv_at hl 3 rfl) ?_
        refine lv_iload hx hb dX2_fitting_27 (lv_at hl 2 rfl) ?_
        refine lv_iconst (v := -1) hx hb dX2_fitting_29 (by decide) ?_
        refine lv_ixor hx hb dX2_fitting_30 ?_
        refine lv_iand hx hb dX2_fitting_31 ?_
        refine lv_ior hx hb dX2_fitting_32 ?_
        refine lv_istore (lv' := [(6, .int (l16v6 ||| (l16v5 &&& (l16v4 ^^^ (-1 : Int32))))), (0, .ref a_t), (3, .int p3), (4, .int l16v4), (5, .int l16v5), (7, .int l16v7)]) hx hb dX2_fitting_33 hl (by decide) rfl (fun ls hl => ?_)
        refine lv_aload_n hx hb dX2_fitting_35 rfl (lv_at hl 1 rfl) ?_
        refine lv_iload hx hb dX2_fitting_36 (lv_at hl 3 rfl) ?_
        obtain ⟨x38, hx38, hf⟩ := bd_if hf
        refine cv_i (wr := []) (ws' := [(a_t, .inr (2, [.ref a_t_roads, .int t_homes])), (a_t_roads, .inl (cI, 12, .inl t_roads))]) ⟨hx, hb, hml, hown, hts⟩ hcw43 hK hN hP hD hS hA (c_X2_widened l D cI cJ cZ cO _ a_t a_t_roads t_homes t_roads l16v4 x38 hx38) (q := (RX2, TX2, 2)) (ci := 2) (q0 := 0) rfl rfl [0, 1] [] [0, 1] rfl rfl rfl rfl (by decide) rfl rfl rfl hl.1 rfl (Nat.le_of_ble_eq_true rfl) dX2_fitting_38 ⟨Nat.zero_le _, Nat.zero_le _⟩ (fun H locs hP hD hS => ?_)
        refine lv_istore (lv' := [(4, .int x38), (6, .int (l16v6 ||| (l16v5 &&& (l16v4 ^^^ (-1 : Int32))))), (0, .ref a_t), (3, .int p3), (5, .int l16v5), (7, .int l16v7)]) hx hb dX2_fitting_41 hl (by decide) rfl (fun ls hl => ?_)
        refine lv_aload_n hx hb dX2_fitting_43 rfl (lv_at hl 2 rfl) ?_
        refine lv_iload hx hb dX2_fitting_44 (lv_at hl 4 rfl) ?_
        obtain ⟨x46, hx46, hf⟩ := bd_if hf
        refine cv_i (wr := []) (ws' := [(a_t, .inr (2, [.ref a_t_roads, .int t_homes])), (a_t_roads, .inl (cI, 12, .inl t_roads))]) ⟨hx, hb, hml, hown, hts⟩ hcw43 hK hN hP hD hS hA (c_X2_widened l D cI cJ cZ cO _ a_t a_t_roads t_homes t_roads l16v5 x46 hx46) (q := (RX2, TX2, 2)) (ci := 2) (q0 := 0) rfl rfl [0, 1] [] [0, 1] rfl rfl rfl rfl (by decide) rfl rfl rfl hl.1 rfl (Nat.le_of_ble_eq_true rfl) dX2_fitting_46 ⟨Nat.zero_le _, Nat.zero_le _⟩ (fun H locs hP hD hS => ?_)
        refine lv_istore (lv' := [(5, .int x46), (4, .int x38), (6, .int (l16v6 ||| (l16v5 &&& (l16v4 ^^^ (-1 : Int32))))), (0, .ref a_t), (3, .int p3), (7, .int l16v7)]) hx hb dX2_fitting_49 hl (by decide) rfl (fun ls hl => ?_)
        refine lv_iinc (v := l16v7 + 1) (lv' := [(7, .int (l16v7 + 1)), (5, .int x46), (4, .int x38), (6, .int (l16v6 ||| (l16v5 &&& (l16v4 ^^^ (-1 : Int32))))), (0, .ref a_t), (3, .int p3)]) hx hb dX2_fitting_51 hl (k := 5) rfl rfl (by decide) rfl (fun ls hl => ?_)
        refine lv_goto (tgt := 16) hx hb dX2_fitting_54 (by decide) ?_
        exact ih16 x38 x46 (l16v6 ||| (l16v5 &&& (l16v4 ^^^ (-1 : Int32)))) (l16v7 + 1) _ _ _ hP hD hS (lv_sub hl [4, 5, 2, 1, 3, 0] rfl) hf
  exact hL16 5000 ((1 : Int32) <<< (p1 &&& 31)) ((1 : Int32) <<< (p2 &&& 31)) (0 : Int32) (0 : Int32) _ _ _ hP hD hS (lv_sub hl [4, 7, 3, 2, 1, 0] rfl) hf
abbrev rm_X3_copy : Room := { frames := 1, cells := 0, slots := 0, locals := 60 }
theorem ms_X3_copy_X3 : ∀ w ∈ u_ws RX3 TX3 5, w ∈ wsX3_copy := fun w h => List.mem_cons_of_mem _ (List.mem_append_right _ (h))
set_option maxHeartbeats 4000000 in
set_option maxRecDepth 100000 in
theorem c_X3_copy (l : Launch) (D : va_G) (cI cJ cZ cO : ClassId) (sz : Nat) (a_t : Nat) (a_t_firsts : Nat) (a_t_seconds : Nat) (a_o1 : Nat) (a_o1_firsts : Nat) (a_o1_seconds : Nat) (t_size : Int32) (t_king : Int32) (t_touched : Int32) (t_firsts : Nat → Int32) (t_seconds : Nat → Int32) (o1_size : Int32) (o1_king : Int32) (o1_touched : Int32) (o1_firsts : Nat → Int32) (o1_seconds : Nat → Int32) (res : Int32 × (Nat → Int32) × (Nat → Int32)) (hf : f_X3_copy t_size t_firsts t_seconds o1_size o1_firsts o1_seconds = some res) : MetV l yX3_copy wsX3_copy rm_X3_copy [.ref a_t, .ref a_o1] D (tys4 cI cJ cZ cO) [(a_t, .inr (3, [.ref a_t_firsts, .ref a_t_seconds, .int t_size, .int t_king, .int t_touched])), (a_t_firsts, .inl (cI, 8, .inl t_firsts)), (a_t_seconds, .inl (cI, 8, .inl t_seconds)), (a_o1, .inr (3, [.ref a_o1_firsts, .ref a_o1_seconds, .int o1_size, .int o1_king, .int o1_touched])), (a_o1_firsts, .inl (cI, 8, .inl o1_firsts)), (a_o1_seconds, .inl (cI, 8, .inl o1_seconds))] sz [(a_t, .inr (3, [.ref a_t_firsts, .ref a_t_seconds, .int res.1, .int t_king, .int t_touched])), (a_t_firsts, .inl (cI, 8, .inl res.2.1)), (a_t_seconds, .inl (cI, 8, .inl res.2.2)), (a_o1, .inr (3, [.ref a_o1_firsts, .ref a_o1_seconds, .int o1_size, .int o1_king, .int o1_touched])), (a_o1_firsts, .inl (cI, 8, .inl o1_firsts)), (a_o1_seconds, .inl (cI, 8, .inl o1_seconds))] := by
  refine met_v (cc := cX3_copy) (maxL := 2) (by decide) rfl (Nat.le_of_ble_eq_true rfl) ?_
  intro p e s m args below meth c Q A hx hb hml hown hts hK hN hA fin H locs ls hP hD hS hl
  replace hown : s.vm.findClass RX3 = some m.cls := hown
  replace hl : lv_has ls 2 [(0, .ref a_t), (1, .ref a_o1)] := hl
  rw [f_X3_copy] at hf
  have hw9 := hts (.fieldLink RX3 9 "TouchReign$Meetings" "firsts" "[I") (by decide +kernel)
  have hmsX3 := ms_X3_copy_X3
  have hacl := hts (.methodLink RX3 28 arraycopyName) (by decide +kernel)
  have hacn := hts (.native arraycopyName) (by decide +kernel)
  have hacs := hts (.static arraycopyName) (by decide +kernel)
  have haci := hts (.initialized "java/lang/System") (by decide +kernel)
  have hw15 := hts (.fieldLink RX3 15 "TouchReign$Meetings" "seconds" "[I") (by decide +kernel)
  have hw18 := hts (.fieldLink RX3 18 "TouchReign$Meetings" "size" "I") (by decide +kernel)
  refine lv_aload_n hx hb dX3_copy_0 rfl (lv_at hl 1 rfl) ?_
  refine va_get (D := D) (ci := 3) (v := .ref a_o1_firsts) (C := RX3) (T := TX3) (N := 5) hx hb hts hmsX3 hown hK hP 3 rfl rfl 0 (by decide) hw9 (fun _ h9 => h9) rfl dX3_copy_1 ?_
  refine lv_iconst (v := 0) hx hb dX3_copy_4 (by decide) ?_
  refine lv_aload_n hx hb dX3_copy_5 rfl (lv_at hl 0 rfl) ?_
  refine va_get (D := D) (ci := 3) (v := .ref a_t_firsts) (C := RX3) (T := TX3) (N := 5) hx hb hts hmsX3 hown hK hP 0 rfl rfl 0 (by decide) hw9 (fun _ h9 => h9) rfl dX3_copy_6 ?_
  refine lv_iconst (v := 0) hx hb dX3_copy_9 (by decide) ?_
  refine lv_bipush (v := 8) hx hb dX3_copy_10 (by decide) ?_
  refine va_copyi (D := D) hx hb (hml.trans hl.1.symm) hown hacl hacn hacs haci hK hP hD hS 4 1 0 0 rfl rfl rfl rfl rfl (by decide) (by decide) (by decide) (by decide) (by decide) (fun _ _ => rfl) (Nat.le_of_ble_eq_true rfl) (Nat.le_of_ble_eq_true rfl) dX3_copy_12 (fun H locs hP hD hS => ?_)
  replace hP : va_P D vwCl [(a_t, .inr (3, [.ref a_t_firsts, .ref a_t_seconds, .int t_size, .int t_king, .int t_touched])), (a_t_firsts, .inl (cI, 8, .inl (va_cpy o1_firsts t_firsts (0 : Int32).toNatClampNeg (0 : Int32).toNatClampNeg (8 : Int32).toNatClampNeg))), (a_t_seconds, .inl (cI, 8, .inl t_seconds)), (a_o1, .inr (3, [.ref a_o1_firsts, .ref a_o1_seconds, .int o1_size, .int o1_king, .int o1_touched])), (a_o1_firsts, .inl (cI, 8, .inl o1_firsts)), (a_o1_seconds, .inl (cI, 8, .inl o1_seconds))] H := hP
  replace hD : va_D A [(a_t, .inr (3, [.ref a_t_firsts, .ref a_t_seconds, .int t_size, .int t_king, .int t_touched])), (a_t_firsts, .inl (cI, 8, .inl (va_cpy o1_firsts t_firsts (0 : Int32).toNatClampNeg (0 : Int32).toNatClampNeg (8 : Int32).toNatClampNeg))), (a_t_seconds, .inl (cI, 8, .inl t_seconds)), (a_o1, .inr (3, [.ref a_o1_firsts, .ref a_o1_seconds, .int o1_size, .int o1_king, .int o1_touched])), (a_o1_firsts, .inl (cI, 8, .inl o1_firsts)), (a_o1_seconds, .inl (cI, 8, .inl o1_seconds))] := hD
  refine lv_aload_n hx hb dX3_copy_15 rfl (lv_at hl 1 rfl) ?_
  refine va_get (D := D) (ci := 3) (v := .ref a_o1_seconds) (C := RX3) (T := TX3) (N := 5) hx hb hts hmsX3 hown hK hP 3 rfl rfl 1 (by decide) hw15 (fun _ h9 => h9) rfl dX3_copy_16 ?_
  refine lv_iconst (v := 0) hx hb dX3_copy_19 (by decide) ?_
  refine lv_aload_n hx hb dX3_copy_20 rfl (lv_at hl 0 rfl) ?_
  refine va_get (D := D) (ci := 3) (v := .ref a_t_seconds) (C := RX3) (T := TX3) (N := 5) hx hb hts hmsX3 hown hK hP 0 rfl rfl 1 (by decide) hw15 (fun _ h9 => h9) rfl dX3_copy_21 ?_
  refine lv_iconst (v := 0) hx hb dX3_copy_24 (by decide) ?_
  refine lv_bipush (v := 8) hx hb dX3_copy_25 (by decide) ?_
  refine va_copyi (D := D) hx hb (hml.trans hl.1.symm) hown hacl hacn hacs haci hK hP hD hS 5 2 0 0 rfl rfl rfl rfl rfl (by decide) (by decide) (by decide) (by decide) (by decide) (fun _ _ => rfl) (Nat.le_of_ble_eq_true rfl) (Nat.le_of_ble_eq_true rfl) dX3_copy_27 (fun H locs hP hD hS => ?_)
  replace hP : va_P D vwCl [(a_t, .inr (3, [.ref a_t_firsts, .ref a_t_seconds, .int t_size, .int t_king, .int t_touched])), (a_t_firsts, .inl (cI, 8, .inl (va_cpy o1_firsts t_firsts (0 : Int32).toNatClampNeg (0 : Int32).toNatClampNeg (8 : Int32).toNatClampNeg))), (a_t_seconds, .inl (cI, 8, .inl (va_cpy o1_seconds t_seconds (0 : Int32).toNatClampNeg (0 : Int32).toNatClampNeg (8 : Int32).toNatClampNeg))), (a_o1, .inr (3, [.ref a_o1_firsts, .ref a_o1_seconds, .int o1_size, .int o1_king, .int o1_touched])), (a_o1_firsts, .inl (cI, 8, .inl o1_firsts)), (a_o1_seconds, .inl (cI, 8, .inl o1_seconds))] H := hP
  replace hD : va_D A [(a_t, .inr (3, [.ref a_t_firsts, .ref a_t_seconds, .int t_size, .int t_king, .int t_touched])), (a_t_firsts, .inl (cI, 8, .inl (va_cpy o1_firsts t_firsts (0 : Int32).toNatClampNeg (0 : Int32).toNatClampNeg (8 : Int32).toNatClampNeg))), (a_t_seconds, .inl (cI, 8, .inl (va_cpy o1_seconds t_seconds (0 : Int32).toNatClampNeg (0 : Int32).toNatClampNeg (8 : Int32).toNatClampNeg))), (a_o1, .inr (3, [.ref a_o1_firsts, .ref a_o1_seconds, .int o1_size, .int o1_king, .int o1_touched])), (a_o1_firsts, .inl (cI, 8, .inl o1_firsts)), (a_o1_seconds, .inl (cI, 8, .inl o1_seconds))] := hD
  refine lv_aload_n hx hb dX3_copy_30 rfl (lv_at hl 0 rfl) ?_
  refine lv_aload_n hx hb dX3_copy_31 rfl (lv_at hl 1 rfl) ?_
  refine va_get (D := D) (ci := 3) (v := .int o1_size) (C := RX3) (T := TX3) (N := 5) hx hb hts hmsX3 hown hK hP 3 rfl rfl 2 (by decide) hw18 (fun _ h9 => h9) rfl dX3_copy_32 ?_
  refine va_put (D := D) (ci := 3) (v := .int o1_size) (ty := .int) (C := RX3) (T := TX3) (N := 5) hx hb hts hmsX3 tyX3 tyX3_ok nmX3 hown hK hP hD hS 0 rfl rfl 2 (by decide) hw18 (fun _ h9 => h9) rfl (by decide +kernel) rfl rfl (Nat.le_of_ble_eq_true rfl) dX3_copy_35 (fun H locs hP hD hS => ?_)
  replace hP : va_P D vwCl [(a_t, .inr (3, [.ref a_t_firsts, .ref a_t_seconds, .int o1_size, .int t_king, .int t_touched])), (a_t_firsts, .inl (cI, 8, .inl (va_cpy o1_firsts t_firsts (0 : Int32).toNatClampNeg (0 : Int32).toNatClampNeg (8 : Int32).toNatClampNeg))), (a_t_seconds, .inl (cI, 8, .inl (va_cpy o1_seconds t_seconds (0 : Int32).toNatClampNeg (0 : Int32).toNatClampNeg (8 : Int32).toNatClampNeg))), (a_o1, .inr (3, [.ref a_o1_firsts, .ref a_o1_seconds, .int o1_size, .int o1_king, .int o1_touched])), (a_o1_firsts, .inl (cI, 8, .inl o1_firsts)), (a_o1_seconds, .inl (cI, 8, .inl o1_seconds))] H := hP
  replace hD : va_D A [(a_t, .inr (3, [.ref a_t_firsts, .ref a_t_seconds, .int o1_size, .int t_king, .int t_touched])), (a_t_firsts, .inl (cI, 8, .inl (va_cpy o1_firsts t_firsts (0 : Int32).toNatClampNeg (0 : Int32).toNatClampNeg (8 : Int32).toNatClampNeg))), (a_t_seconds, .inl (cI, 8, .inl (va_cpy o1_seconds t_seconds (0 : Int32).toNatClampNeg (0 : Int32).toNatClampNeg (8 : Int32).toNatClampNeg))), (a_o1, .inr (3, [.ref a_o1_firsts, .ref a_o1_seconds, .int o1_size, .int o1_king, .int o1_touched])), (a_o1_firsts, .inl (cI, 8, .inl o1_firsts)), (a_o1_seconds, .inl (cI, 8, .inl o1_seconds))] := hD
  obtain rfl := Option.some.inj hf
  exact fin _ _ _ _ dX3_copy_38 hP hD hS
abbrev rm_X3_add : Room := { frames := 0, cells := 0, slots := 0, locals := 0 }
theorem ms_X3_add_X3 : ∀ w ∈ u_ws RX3 TX3 5, w ∈ wsX3_add := fun w h => List.mem_cons_of_mem _ (List.mem_append_right _ (h))
set_option maxHeartbeats 4000000 in
set_option maxRecDepth 100000 in
theorem c_X3_add (l : Launch) (D : va_G) (cI cJ cZ cO : ClassId) (sz : Nat) (a_t : Nat) (a_t_firsts : Nat) (a_t_seconds : Nat) (t_size : Int32) (t_king : Int32) (t_touched : Int32) (t_firsts : Nat → Int32) (t_seconds : Nat → Int32) (p1 : Int32) (p2 : Int32) (res : Int32 × Int32 × (Nat → Int32) × (Nat → Int32)) (hf : f_X3_add t_size t_firsts t_seconds p1 p2 = some res) : MetI l yX3_add wsX3_add rm_X3_add [.ref a_t, .int p1, .int p2] D (tys4 cI cJ cZ cO) [(a_t, .inr (3, [.ref a_t_firsts, .ref a_t_seconds, .int t_size, .int t_king, .int t_touched])), (a_t_firsts, .inl (cI, 8, .inl t_firsts)), (a_t_seconds, .inl (cI, 8, .inl t_seconds))] sz res.1 [(a_t, .inr (3, [.ref a_t_firsts, .ref a_t_seconds, .int res.2.1, .int t_king, .int t_touched])), (a_t_firsts, .inl (cI, 8, .inl res.2.2.1)), (a_t_seconds, .inl (cI, 8, .inl res.2.2.2))] := by
  refine met_z (cc := cX3_add) (maxL := 3) (by decide) rfl (Nat.le_of_ble_eq_true rfl) ?_
  intro p e s m args below meth c Q A hx hb hml hown hts hK hN hA fin H locs ls hP hD hS hl
  replace hown : s.vm.findClass RX3 = some m.cls := hown
  replace hl : lv_has ls 3 [(0, .ref a_t), (1, .int p1), (2, .int p2)] := hl
  rw [f_X3_add] at hf
  have hw18 := hts (.fieldLink RX3 18 "TouchReign$Meetings" "size" "I") (by decide +kernel)
  have hmsX3 := ms_X3_add_X3
  have hw9 := hts (.fieldLink RX3 9 "TouchReign$Meetings" "firsts" "[I") (by decide +kernel)
  have hw15 := hts (.fieldLink RX3 15 "TouchReign$Meetings" "seconds" "[I") (by decide +kernel)
  refine lv_aload_n hx hb dX3_add_0 rfl (lv_at hl 0 rfl) ?_
  refine va_get (D := D) (ci := 3) (v := .int t_size) (C := RX3) (T := TX3) (N := 5) hx hb hts hmsX3 hown hK hP 0 rfl rfl 2 (by decide) hw18 (fun _ h9 => h9) rfl dX3_add_1 ?_
  refine lv_if_lt (tgt := 16) hx hb dX3_add_4 (by decide) (fun hc => ?_) (fun hc => ?_)
  · replace hf := (if_pos hc).symm.trans hf
    refine lv_iconst (v := 0) hx hb dX3_add_16 (by decide) ?_
    obtain rfl := Option.some.inj hf
    exact fin _ _ _ _ nb_0 dX3_add_17 hP hD hS
  · replace hf := (if_neg hc).symm.trans hf
    refine lv_aload_n hx hb dX3_add_7 rfl (lv_at hl 0 rfl) ?_
    refine va_get (D := D) (ci := 3) (v := .int t_size) (C := RX3) (T := TX3) (N := 5) hx hb hts hmsX3 hown hK hP 0 rfl rfl 2 (by decide) hw18 (fun _ h9 => h9) rfl dX3_add_8 ?_
    refine lv_bipush (v := 8) hx hb dX3_add_11 (by decide) ?_
    refine lv_icmp_lt (tgt := 18) hx hb dX3_add_13 (by decide) (fun hc => ?_) (fun hc => ?_)
    · replace hf := (if_pos hc).symm.trans hf
      refine lv_aload_n hx hb dX3_add_18 rfl (lv_at hl 0 rfl) ?_
      refine va_get (D := D) (ci := 3) (v := .ref a_t_firsts) (C := RX3) (T := TX3) (N := 5) hx hb hts hmsX3 hown hK hP 0 rfl rfl 0 (by decide) hw9 (fun _ h9 => h9) rfl dX3_add_19 ?_
      refine lv_aload_n hx hb dX3_add_22 rfl (lv_at hl 0 rfl) ?_
      refine va_get (D := D) (ci := 3) (v := .int t_size) (C := RX3) (T := TX3) (N := 5) hx hb hts hmsX3 hown hK hP 0 rfl rfl 2 (by decide) hw18 (fun _ h9 => h9) rfl dX3_add_23 ?_
      refine lv_iload_n hx hb dX3_add_26 rfl (lv_at hl 1 rfl) ?_
      obtain ⟨hi27, hf⟩ := ix_if hf
      refine va_iast (D := D) hx hb hK hP hD hS 1 0 rfl rfl hi27 dX3_add_27 (fun H locs hP hD hS => ?_)
      replace hP : va_P D vwCl [(a_t, .inr (3, [.ref a_t_firsts, .ref a_t_seconds, .int t_size, .int t_king, .int t_touched])), (a_t_firsts, .inl (cI, 8, .inl (upd t_firsts t_size.toNatClampNeg p1))), (a_t_seconds, .inl (cI, 8, .inl t_seconds))] H := hP
      replace hD : va_D A [(a_t, .inr (3, [.ref a_t_firsts, .ref a_t_seconds, .int t_size, .int t_king, .int t_touched])), (a_t_firsts, .inl (cI, 8, .inl (upd t_firsts t_size.toNatClampNeg p1))), (a_t_seconds, .inl (cI, 8, .inl t_seconds))] := hD
      refine lv_aload_n hx hb dX3_add_28 rfl (lv_at hl 0 rfl) ?_
      refine va_get (D := D) (ci := 3) (v := .ref a_t_seconds) (C := RX3) (T := TX3) (N := 5) hx hb hts hmsX3 hown hK hP 0 rfl rfl 1 (by decide) hw15 (fun _ h9 => h9) rfl dX3_add_29 ?_
      refine lv_aload_n hx hb dX3_add_32 rfl (lv_at hl 0 rfl) ?_
      refine va_get (D := D) (ci := 3) (v := .int t_size) (C := RX3) (T := TX3) (N := 5) hx hb hts hmsX3 hown hK hP 0 rfl rfl 2 (by decide) hw18 (fun _ h9 => h9) rfl dX3_add_33 ?_
      refine lv_iload_n hx hb dX3_add_36 rfl (lv_at hl 2 rfl) ?_
      refine va_iast (D := D) hx hb hK hP hD hS 2 0 rfl rfl hi27 dX3_add_37 (fun H locs hP hD hS => ?_)
      replace hP : va_P D vwCl [(a_t, .inr (3, [.ref a_t_firsts, .ref a_t_seconds, .int t_size, .int t_king, .int t_touched])), (a_t_firsts, .inl (cI, 8, .inl (upd t_firsts t_size.toNatClampNeg p1))), (a_t_seconds, .inl (cI, 8, .inl (upd t_seconds t_size.toNatClampNeg p2)))] H := hP
      replace hD : va_D A [(a_t, .inr (3, [.ref a_t_firsts, .ref a_t_seconds, .int t_size, .int t_king, .int t_touched])), (a_t_firsts, .inl (cI, 8, .inl (upd t_firsts t_size.toNatClampNeg p1))), (a_t_seconds, .inl (cI, 8, .inl (upd t_seconds t_size.toNatClampNeg p2)))] := hD
      refine lv_aload_n hx hb dX3_add_38 rfl (lv_at hl 0 rfl) ?_
      refine lv_dup hx hb dX3_add_39 rfl ?_
      refine va_get (D := D) (ci := 3) (v := .int t_size) (C := RX3) (T := TX3) (N := 5) hx hb hts hmsX3 hown hK hP 0 rfl rfl 2 (by decide) hw18 (fun _ h9 => h9) rfl dX3_add_40 ?_
      refine lv_iconst (v := 1) hx hb dX3_add_43 (by decide) ?_
      refine lv_iadd hx hb dX3_add_44 ?_
      refine va_put (D := D) (ci := 3) (v := .int (t_size + (1 : Int32))) (ty := .int) (C := RX3) (T := TX3) (N := 5) hx hb hts hmsX3 tyX3 tyX3_ok nmX3 hown hK hP hD hS 0 rfl rfl 2 (by decide) hw18 (fun _ h9 => h9) rfl (by decide +kernel) rfl rfl (Nat.le_of_ble_eq_true rfl) dX3_add_45 (fun H locs hP hD hS => ?_)
      replace hP : va_P D vwCl [(a_t, .inr (3, [.ref a_t_firsts, .ref a_t_seconds, .int (t_size + (1 : Int32)), .int t_king, .int t_touched])), (a_t_firsts, .inl (cI, 8, .inl (upd t_firsts t_size.toNatClampNeg p1))), (a_t_seconds, .inl (cI, 8, .inl (upd t_seconds t_size.toNatClampNeg p2)))] H := hP
      replace hD : va_D A [(a_t, .inr (3, [.ref a_t_firsts, .ref a_t_seconds, .int (t_size + (1 : Int32)), .int t_king, .int t_touched])), (a_t_firsts, .inl (cI, 8, .inl (upd t_firsts t_size.toNatClampNeg p1))), (a_t_seconds, .inl (cI, 8, .inl (upd t_seconds t_size.toNatClampNeg p2)))] := hD
      refine lv_iconst (v := 1) hx hb dX3_add_48 (by decide) ?_
      obtain rfl := Option.some.inj hf
      exact fin _ _ _ _ nb_1 dX3_add_49 hP hD hS
    · replace hf := (if_neg hc).symm.trans hf
      refine lv_iconst (v := 0) hx hb dX3_add_16 (by decide) ?_
      obtain rfl := Option.some.inj hf
      exact fin _ _ _ _ nb_0 dX3_add_17 hP hD hS
abbrev rm_X3_play : Room := { frames := 1, cells := 0, slots := 0, locals := 21 }
theorem ms_X3_play_X3 : ∀ w ∈ u_ws RX3 TX3 5, w ∈ wsX3_play := fun w h => List.mem_cons_of_mem _ (List.mem_append_right _ (h))
set_option maxHeartbeats 4000000 in
set_option maxRecDepth 100000 in
theorem c_X3_play (l : Launch) (D : va_G) (cI cJ cZ cO : ClassId) (sz : Nat) (a_t : Nat) (a_t_firsts : Nat) (a_t_seconds : Nat) (t_size : Int32) (t_king : Int32) (t_touched : Int32) (t_firsts : Nat → Int32) (t_seconds : Nat → Int32) (p1 : Int32) (p2 : Int32) (res : Int32 × Int32) (hf : f_X3_play t_size t_king t_touched t_firsts t_seconds p1 p2 = some res) : MetV l yX3_play wsX3_play rm_X3_play [.ref a_t, .int p1, .int p2] D (tys4 cI cJ cZ cO) [(a_t, .inr (3, [.ref a_t_firsts, .ref a_t_seconds, .int t_size, .int t_king, .int t_touched])), (a_t_firsts, .inl (cI, 8, .inl t_firsts)), (a_t_seconds, .inl (cI, 8, .inl t_seconds))] sz [(a_t, .inr (3, [.ref a_t_firsts, .ref a_t_seconds, .int t_size, .int res.1, .int res.2])), (a_t_firsts, .inl (cI, 8, .inl t_firsts)), (a_t_seconds, .inl (cI, 8, .inl t_seconds))] := by
  refine met_v (cc := cX3_play) (maxL := 6) (by decide) rfl (Nat.le_of_ble_eq_true rfl) ?_
  intro p e s m args below meth c Q A hx hb hml hown hts hK hN hA fin H locs ls hP hD hS hl
  replace hown : s.vm.findClass RX3 = some m.cls := hown
  replace hl : lv_has ls 6 [(0, .ref a_t), (1, .int p1), (2, .int p2)] := hl
  rw [f_X3_play] at hf
  have hw22 := hts (.fieldLink RX3 22 "TouchReign$Meetings" "king" "I") (by decide +kernel)
  have hmsX3 := ms_X3_play_X3
  have hw25 := hts (.fieldLink RX3 25 "TouchReign$Meetings" "touched" "I") (by decide +kernel)
  have hw18 := hts (.fieldLink RX3 18 "TouchReign$Meetings" "size" "I") (by decide +kernel)
  have hw9 := hts (.fieldLink RX3 9 "TouchReign$Meetings" "firsts" "[I") (by decide +kernel)
  have hw15 := hts (.fieldLink RX3 15 "TouchReign$Meetings" "seconds" "[I") (by decide +kernel)
  have hiniX9 := hts (.initialized RX9) (by decide +kernel)
  have hcw34 := va_cnB (R := rm_X3_play) (rm := rm_X9_holds) 2 hts gX3_play_X9_holds_n34 rfl rfl rfl (hN.1 (.methodLinkNest RX3 34 yX9_holds RX9) (by decide +kernel)) hiniX9 (by decide +kernel) ⟨Nat.le_of_ble_eq_true rfl, Nat.le_of_ble_eq_true rfl⟩
  have hst34 := hts (.static yX9_holds) (by decide +kernel)
  refine lv_aload_n hx hb dX3_play_0 rfl (lv_at hl 0 rfl) ?_
  refine lv_iload_n hx hb dX3_play_1 rfl (lv_at hl 1 rfl) ?_
  refine va_put (D := D) (ci := 3) (v := .int p1) (ty := .int) (C := RX3) (T := TX3) (N := 5) hx hb hts hmsX3 tyX3 tyX3_ok nmX3 hown hK hP hD hS 0 rfl rfl 3 (by decide) hw22 (fun _ h9 => h9) rfl (by decide +kernel) rfl rfl (Nat.le_of_ble_eq_true rfl) dX3_play_2 (fun H locs hP hD hS => ?_)
  replace hP : va_P D vwCl [(a_t, .inr (3, [.ref a_t_firsts, .ref a_t_seconds, .int t_size, .int p1, .int t_touched])), (a_t_firsts, .inl (cI, 8, .inl t_firsts)), (a_t_seconds, .inl (cI, 8, .inl t_seconds))] H := hP
  replace hD : va_D A [(a_t, .inr (3, [.ref a_t_firsts, .ref a_t_seconds, .int t_size, .int p1, .int t_touched])), (a_t_firsts, .inl (cI, 8, .inl t_firsts)), (a_t_seconds, .inl (cI, 8, .inl t_seconds))] := hD
  refine lv_aload_n hx hb dX3_play_5 rfl (lv_at hl 0 rfl) ?_
  refine lv_iconst (v := 0) hx hb dX3_play_6 (by decide) ?_
  refine va_put (D := D) (ci := 3) (v := .int (0 : Int32)) (ty := .int) (C := RX3) (T := TX3) (N := 5) hx hb hts hmsX3 tyX3 tyX3_ok nmX3 hown hK hP hD hS 0 rfl rfl 4 (by decide) hw25 (fun _ h9 => h9) rfl (by decide +kernel) rfl rfl (Nat.le_of_ble_eq_true rfl) dX3_play_7 (fun H locs hP hD hS => ?_)
  replace hP : va_P D vwCl [(a_t, .inr (3, [.ref a_t_firsts, .ref a_t_seconds, .int t_size, .int p1, .int (0 : Int32)])), (a_t_firsts, .inl (cI, 8, .inl t_firsts)), (a_t_seconds, .inl (cI, 8, .inl t_seconds))] H := hP
  replace hD : va_D A [(a_t, .inr (3, [.ref a_t_firsts, .ref a_t_seconds, .int t_size, .int p1, .int (0 : Int32)])), (a_t_firsts, .inl (cI, 8, .inl t_firsts)), (a_t_seconds, .inl (cI, 8, .inl t_seconds))] := hD
  refine lv_bipush (v := -6) hx hb dX3_play_10 (by decide) ?_
  refine lv_istore_n (lv' := [(3, .int (-6 : Int32)), (0, .ref a_t), (1, .int p1), (2, .int p2)]) hx hb dX3_play_12 rfl hl (by decide) rfl (fun ls hl => ?_)
  refine lv_iconst (v := 0) hx hb dX3_play_13 (by decide) ?_
  refine lv_istore (lv' := [(4, .int (0 : Int32)), (3, .int (-6 : Int32)), (0, .ref a_t), (1, .int p1), (2, .int p2)]) hx hb dX3_play_14 hl (by decide) rfl (fun ls hl => ?_)
  have hX16 : ∀ (x16t_king : Int32) (x16t_touched : Int32) (H : Heap) (locs : List Loc) (ls : Array Slot), va_P D vwCl [(a_t, .inr (3, [.ref a_t_firsts, .ref a_t_seconds, .int t_size, .int x16t_king, .int x16t_touched])), (a_t_firsts, .inl (cI, 8, .inl t_firsts)), (a_t_seconds, .inl (cI, 8, .inl t_seconds))] H → va_D A [(a_t, .inr (3, [.ref a_t_firsts, .ref a_t_seconds, .int t_size, .int x16t_king, .int x16t_touched])), (a_t_firsts, .inl (cI, 8, .inl t_firsts)), (a_t_seconds, .inl (cI, 8, .inl t_seconds))] → va_S A s.heap H locs → lv_has ls 6 [] → f_X3_play_X16 x16t_king x16t_touched = some res → W p l e rm_X3_play s m args below meth c H locs 0 0 Q (F0 m 134 ls []) := by
    intro x16t_king x16t_touched H locs ls hP hD hS hl hf
    rw [f_X3_play_X16] at hf
    obtain rfl := Option.some.inj hf
    exact fin _ _ _ _ dX3_play_134 hP hD hS
  have hL16 : ∀ (n16 : Nat), ∀ (l16v3 : Int32) (l16v4 : Int32) (l16t_king : Int32) (l16t_touched : Int32) (H : Heap) (locs : List Loc) (ls : Array Slot), va_P D vwCl [(a_t, .inr (3, [.ref a_t_firsts, .ref a_t_seconds, .int t_size, .int l16t_king, .int l16t_touched])), (a_t_firsts, .inl (cI, 8, .inl t_firsts)), (a_t_seconds, .inl (cI, 8, .inl t_seconds))] H → va_D A [(a_t, .inr (3, [.ref a_t_firsts, .ref a_t_seconds, .int t_size, .int l16t_king, .int l16t_touched])), (a_t_firsts, .inl (cI, 8, .inl t_firsts)), (a_t_seconds, .inl (cI, 8, .inl t_seconds))] → va_S A s.heap H locs → lv_has ls 6 [(0, .ref a_t), (2, .int p2), (3, .int l16v3), (4, .int l16v4)] → f_X3_play_L16 t_size t_firsts t_seconds p2 f_X3_play_X16 n16 l16v3 l16v4 l16t_king l16t_touched = some res → W p l e rm_X3_play s m args below meth c H locs 0 0 Q (F0 m 16 ls []) := by
    intro n16
    induction n16 with
    | zero =>
      intro l16v3 l16v4 l16t_king l16t_touched H locs ls hP hD hS hl hf
      rw [f_X3_play_L16] at hf
      cases hf
    | succ n16 ih16 =>
      intro l16v3 l16v4 l16t_king l16t_touched H locs ls hP hD hS hl hf
      rw [f_X3_play_L16] at hf
      refine lv_iload hx hb dX3_play_16 (lv_at hl 3 rfl) ?_
      refine lv_aload_n hx hb dX3_play_18 rfl (lv_at hl 0 rfl) ?_
      refine va_get (D := D) (ci := 3) (v := .int t_size) (C := RX3) (T := TX3) (N := 5) hx hb hts hmsX3 hown hK hP 0 rfl rfl 2 (by decide) hw18 (fun _ h9 => h9) rfl dX3_play_19 ?_
      refine lv_icmp_ge (tgt := 134) hx hb dX3_play_22 (by decide) (fun hc => ?_) (fun hc => ?_)
      · replace hf := (if_pos hc).symm.trans hf
        exact hX16 l16t_king l16t_touched _ _ _ hP hD hS (lv_sub hl [] rfl) hf
      · replace hf := (if_neg hc).symm.trans hf
        refine lv_iload hx hb dX3_play_25 (lv_at hl 3 rfl) ?_
        refine lv_bipush (v := 8) hx hb dX3_play_27 (by decide) ?_
        refine lv_icmp_ge (tgt := 134) hx hb dX3_play_29 (by decide) (fun hc => ?_) (fun hc => ?_)
        · replace hf := (if_pos hc).symm.trans hf
          exact hX16 l16t_king l16t_touched _ _ _ hP hD hS (lv_sub hl [] rfl) hf
        · replace hf := (if_neg hc).symm.trans hf
          refine lv_bipush (v := -6) hx hb dX3_play_32 (by decide) ?_
          refine lv_istore (lv' := [(5, .int (-6 : Int32)), (0, .ref a_t), (2, .int p2), (3, .int l16v3), (4, .int l16v4)]) hx hb dX3_play_34 hl (by decide) rfl (fun ls hl => ?_)
          refine lv_aload_n hx hb dX3_play_36 rfl (lv_at hl 1 rfl) ?_
          refine va_get (D := D) (ci := 3) (v := .ref a_t_firsts) (C := RX3) (T := TX3) (N := 5) hx hb hts hmsX3 hown hK hP 0 rfl rfl 0 (by decide) hw9 (fun _ h9 => h9) rfl dX3_play_37 ?_
          refine lv_iload hx hb dX3_play_40 (lv_at hl 4 rfl) ?_
          obtain ⟨hi42, hf⟩ := ix_if hf
          refine va_iald (D := D) hx hb hK hP 1 0 rfl rfl hi42 dX3_play_42 ?_
          refine lv_aload_n hx hb dX3_play_43 rfl (lv_at hl 1 rfl) ?_
          refine va_get (D := D) (ci := 3) (v := .int l16t_king) (C := RX3) (T := TX3) (N := 5) hx hb hts hmsX3 hown hK hP 0 rfl rfl 3 (by decide) hw22 (fun _ h9 => h9) rfl dX3_play_44 ?_
          have hB59 : ∀ (b59v5 : Int32) (H : Heap) (locs : List Loc) (ls : Array Slot), va_P D vwCl [(a_t, .inr (3, [.ref a_t_firsts, .ref a_t_seconds, .int t_size, .int l16t_king, .int l16t_touched])), (a_t_firsts, .inl (cI, 8, .inl t_firsts)), (a_t_seconds, .inl (cI, 8, .inl t_seconds))] H → va_D A [(a_t, .inr (3, [.ref a_t_firsts, .ref a_t_seconds, .int t_size, .int l16t_king, .int l16t_touched])), (a_t_firsts, .inl (cI, 8, .inl t_firsts)), (a_t_seconds, .inl (cI, 8, .inl t_seconds))] → va_S A s.heap H locs → lv_has ls 6 [(0, .ref a_t), (2, .int p2), (3, .int l16v3), (4, .int l16v4), (5, .int b59v5)] → f_X3_play_B59 t_firsts t_seconds p2 l16v3 l16v4 l16t_king l16t_touched (f_X3_play_L16 t_size t_firsts t_seconds p2 f_X3_play_X16 n16) b59v5 = some res → W p l e rm_X3_play s m args below meth c H locs 0 0 Q (F0 m 59 ls []) := by
            intro b59v5 H locs ls hP hD hS hl hf
            rw [f_X3_play_B59] at hf
            refine lv_aload_n hx hb dX3_play_59 rfl (lv_at hl 0 rfl) ?_
            refine va_get (D := D) (ci := 3) (v := .ref a_t_seconds) (C := RX3) (T := TX3) (N := 5) hx hb hts hmsX3 hown hK hP 0 rfl rfl 1 (by decide) hw15 (fun _ h9 => h9) rfl dX3_play_60 ?_
            refine lv_iload hx hb dX3_play_63 (lv_at hl 3 rfl) ?_
            refine va_iald (D := D) hx hb hK hP 2 0 rfl rfl hi42 dX3_play_65 ?_
            refine lv_aload_n hx hb dX3_play_66 rfl (lv_at hl 0 rfl) ?_
            refine va_get (D := D) (ci := 3) (v := .int l16t_king) (C := RX3) (T := TX3) (N := 5) hx hb hts hmsX3 hown hK hP 0 rfl rfl 3 (by decide) hw22 (fun _ h9 => h9) rfl dX3_play_67 ?_
            have hB82 : ∀ (b82v5 : Int32) (H : Heap) (locs : List Loc) (ls : Array Slot), va_P D vwCl [(a_t, .inr (3, [.ref a_t_firsts, .ref a_t_seconds, .int t_size, .int l16t_king, .int l16t_touched])), (a_t_firsts, .inl (cI, 8, .inl t_firsts)), (a_t_seconds, .inl (cI, 8, .inl t_seconds))] H → va_D A [(a_t, .inr (3, [.ref a_t_firsts, .ref a_t_seconds, .int t_size, .int l16t_king, .int l16t_touched])), (a_t_firsts, .inl (cI, 8, .inl t_firsts)), (a_t_seconds, .inl (cI, 8, .inl t_seconds))] → va_S A s.heap H locs → lv_has ls 6 [(0, .ref a_t), (2, .int p2), (3, .int l16v3), (4, .int l16v4), (5, .int b82v5)] → f_X3_play_B82 p2 l16v3 l16v4 l16t_king l16t_touched (f_X3_play_L16 t_size t_firsts t_seconds p2 f_X3_play_X16 n16) b82v5 = some res → W p l e rm_X3_play s m args below meth c H locs 0 0 Q (F0 m 82 ls []) := by
              intro b82v5 H locs ls hP hD hS hl hf
              rw [f_X3_play_B82] at hf
              refine lv_iload hx hb dX3_play_82 (lv_at hl 4 rfl) ?_
              refine lv_bipush (v := -6) hx hb dX3_play_84 (by decide) ?_
              refine lv_icmp_eq (tgt := 128) hx hb dX3_play_86 (by decide) (fun hc => ?_) (fun hc => ?_)
              · replace hf := (if_pos hc).symm.trans hf
                refine lv_iinc (v := l16v4 + 1) (lv' := [(4, .int (l16v4 + 1)), (0, .ref a_t), (2, .int p2), (3, .int l16v3), (5, .int b82v5)]) hx hb dX3_play_128 hl (k := 3) rfl rfl (by decide) rfl (fun ls hl => ?_)
                refine lv_goto (tgt := 16) hx hb dX3_play_131 (by decide) ?_
                exact ih16 l16v3 (l16v4 + 1) l16t_king l16t_touched _ _ _ hP hD hS (lv_sub hl [1, 2, 3, 0] rfl) hf
              · replace hf := (if_neg hc).symm.trans hf
                refine lv_iload hx hb dX3_play_89 (lv_at hl 4 rfl) ?_
                refine lv_iload_n hx hb dX3_play_91 rfl (lv_at hl 2 rfl) ?_
                refine lv_icmp_eq (tgt := 128) hx hb dX3_play_92 (by decide) (fun hc => ?_) (fun hc => ?_)
                · replace hf := (if_pos hc).symm.trans hf
                  refine lv_iinc (v := l16v4 + 1) (lv' := [(4, .int (l16v4 + 1)), (0, .ref a_t), (2, .int p2), (3, .int l16v3), (5, .int b82v5)]) hx hb dX3_play_128 hl (k := 3) rfl rfl (by decide) rfl (fun ls hl => ?_)
                  refine lv_goto (tgt := 16) hx hb dX3_play_131 (by decide) ?_
                  exact ih16 l16v3 (l16v4 + 1) l16t_king l16t_touched _ _ _ hP hD hS (lv_sub hl [1, 2, 3, 0] rfl) hf
                · replace hf := (if_neg hc).symm.trans hf
                  refine lv_iload_n hx hb dX3_play_95 rfl (lv_at hl 1 rfl) ?_
                  refine lv_iload hx hb dX3_play_96 (lv_at hl 3 rfl) ?_
                  obtain ⟨x98, hx98, hf⟩ := bd_if hf
                  refine cn_i (wr := [(a_t, .inr (3, [.ref a_t_firsts, .ref a_t_seconds, .int t_size, .int l16t_king, .int l16t_touched])), (a_t_firsts, .inl (cI, 8, .inl t_firsts)), (a_t_seconds, .inl (cI, 8, .inl t_seconds))]) (ws' := [(a_t, .inr (3, [.ref a_t_firsts, .ref a_t_seconds, .int t_size, .int l16t_king, .int l16t_touched])), (a_t_firsts, .inl (cI, 8, .inl t_firsts)), (a_t_seconds, .inl (cI, 8, .inl t_seconds))]) ⟨hx, hb, hml, hown, hts⟩ ⟨hcw34, hst34, trivial⟩ hK hN hP hD hS hA (c_X9_holds l D cI cJ cZ cO _ p2 l16v4 x98 hx98) [] [0, 1, 2] [0, 1, 2] rfl rfl rfl rfl (by decide) rfl rfl rfl hl.1 rfl (Nat.le_of_ble_eq_true rfl) dX3_play_98 ⟨Nat.zero_le _, Nat.zero_le _⟩ (fun H locs hP hD hS => ?_)
                  refine lv_if_ne (tgt := 107) hx hb dX3_play_101 (by decide) (fun hc => ?_) (fun hc => ?_)
                  · replace hf := (if_neg hc).symm.trans hf
                    refine lv_aload_n hx hb dX3_play_107 rfl (lv_at hl 0 rfl) ?_
                    refine va_get (D := D) (ci := 3) (v := .int l16t_king) (C := RX3) (T := TX3) (N := 5) hx hb hts hmsX3 hown hK hP 0 rfl rfl 3 (by decide) hw22 (fun _ h9 => h9) rfl dX3_play_108 ?_
                    refine lv_istore_n (lv' := [(3, .int l16t_king), (0, .ref a_t), (2, .int p2), (4, .int l16v4), (5, .int b82v5)]) hx hb dX3_play_111 rfl hl (by decide) rfl (fun ls hl => ?_)
                    refine lv_aload_n hx hb dX3_play_112 rfl (lv_at hl 1 rfl) ?_
                    refine lv_iload hx hb dX3_play_113 (lv_at hl 4 rfl) ?_
                    refine va_put (D := D) (ci := 3) (v := .int b82v5) (ty := .int) (C := RX3) (T := TX3) (N := 5) hx hb hts hmsX3 tyX3 tyX3_ok nmX3 hown hK hP hD hS 0 rfl rfl 3 (by decide) hw22 (fun _ h9 => h9) rfl (by decide +kernel) rfl rfl (Nat.le_of_ble_eq_true rfl) dX3_play_115 (fun H locs hP hD hS => ?_)
                    replace hP : va_P D vwCl [(a_t, .inr (3, [.ref a_t_firsts, .ref a_t_seconds, .int t_size, .int b82v5, .int l16t_touched])), (a_t_firsts, .inl (cI, 8, .inl t_firsts)), (a_t_seconds, .inl (cI, 8, .inl t_seconds))] H := hP
                    replace hD : va_D A [(a_t, .inr (3, [.ref a_t_firsts, .ref a_t_seconds, .int t_size, .int b82v5, .int l16t_touched])), (a_t_firsts, .inl (cI, 8, .inl t_firsts)), (a_t_seconds, .inl (cI, 8, .inl t_seconds))] := hD
                    refine lv_aload_n hx hb dX3_play_118 rfl (lv_at hl 1 rfl) ?_
                    refine lv_dup hx hb dX3_play_119 rfl ?_
                    refine va_get (D := D) (ci := 3) (v := .int l16t_touched) (C := RX3) (T := TX3) (N := 5) hx hb hts hmsX3 hown hK hP 0 rfl rfl 4 (by decide) hw25 (fun _ h9 => h9) rfl dX3_play_120 ?_
                    refine lv_iconst (v := 1) hx hb dX3_play_123 (by decide) ?_
                    refine lv_iadd hx hb dX3_play_124 ?_
                    refine va_put (D := D) (ci := 3) (v := .int (l16t_touched + (1 : Int32))) (ty := .int) (C := RX3) (T := TX3) (N := 5) hx hb hts hmsX3 tyX3 tyX3_ok nmX3 hown hK hP hD hS 0 rfl rfl 4 (by decide) hw25 (fun _ h9 => h9) rfl (by decide +kernel) rfl rfl (Nat.le_of_ble_eq_true rfl) dX3_play_125 (fun H locs hP hD hS => ?_)
                    replace hP : va_P D vwCl [(a_t, .inr (3, [.ref a_t_firsts, .ref a_t_seconds, .int t_size, .int b82v5, .int (l16t_touched + (1 : Int32))])), (a_t_firsts, .inl (cI, 8, .inl t_firsts)), (a_t_seconds, .inl (cI, 8, .inl t_seconds))] H := hP
                    replace hD : va_D A [(a_t, .inr (3, [.ref a_t_firsts, .ref a_t_seconds, .int t_size, .int b82v5, .int (l16t_touched + (1 : Int32))])), (a_t_firsts, .inl (cI, 8, .inl t_firsts)), (a_t_seconds, .inl (cI, 8, .inl t_seconds))] := hD
                    refine lv_iinc (v := l16v4 + 1) (lv' := [(4, .int (l16v4 + 1)), (3, .int l16t_king), (0, .ref a_t), (2, .int p2), (5, .int b82v5)]) hx hb dX3_play_128 hl (k := 3) rfl rfl (by decide) rfl (fun ls hl => ?_)
                    refine lv_goto (tgt := 16) hx hb dX3_play_131 (by decide) ?_
                    exact ih16 l16t_king (l16v4 + 1) b82v5 (l16t_touched + (1 : Int32)) _ _ _ hP hD hS (lv_sub hl [2, 3, 1, 0] rfl) hf
                  · replace hf := (if_pos hc).symm.trans hf
                    refine lv_goto (tgt := 128) hx hb dX3_play_104 (by decide) ?_
                    refine lv_iinc (v := l16v4 + 1) (lv' := [(4, .int (l16v4 + 1)), (0, .ref a_t), (2, .int p2), (3, .int l16v3), (5, .int b82v5)]) hx hb dX3_play_128 hl (k := 3) rfl rfl (by decide) rfl (fun ls hl => ?_)
                    refine lv_goto (tgt := 16) hx hb dX3_play_131 (by decide) ?_
                    exact ih16 l16v3 (l16v4 + 1) l16t_king l16t_touched _ _ _ hP hD hS (lv_sub hl [1, 2, 3, 0] rfl) hf
            refine lv_icmp_ne (tgt := 82) hx hb dX3_play_70 (by decide) (fun hc => ?_) (fun hc => ?_)
            · replace hf := (if_neg hc).symm.trans hf
              exact hB82 b59v5 _ _ _ hP hD hS (lv_sub hl [0, 1, 2, 3, 4] rfl) hf
            · replace hf := (if_pos hc).symm.trans hf
              refine lv_aload_n hx hb dX3_play_73 rfl (lv_at hl 0 rfl) ?_
              refine va_get (D := D) (ci := 3) (v := .ref a_t_firsts) (C := RX3) (T := TX3) (N := 5) hx hb hts hmsX3 hown hK hP 0 rfl rfl 0 (by decide) hw9 (fun _ h9 => h9) rfl dX3_play_74 ?_
              refine lv_iload hx hb dX3_play_77 (lv_at hl 3 rfl) ?_
              refine va_iald (D := D) hx hb hK hP 1 0 rfl rfl hi42 dX3_play_79 ?_
              refine lv_istore (lv' := [(5, .int (t_firsts l16v4.toNatClampNeg)), (0, .ref a_t), (2, .int p2), (3, .int l16v3), (4, .int l16v4)]) hx hb dX3_play_80 hl (by decide) rfl (fun ls hl => ?_)
              exact hB82 (t_firsts l16v4.toNatClampNeg) _ _ _ hP hD hS (lv_sub hl [1, 2, 3, 4, 0] rfl) hf
          refine lv_icmp_ne (tgt := 59) hx hb dX3_play_47 (by decide) (fun hc => ?_) (fun hc => ?_)
          · replace hf := (if_neg hc).symm.trans hf
            exact hB59 (-6 : Int32) _ _ _ hP hD hS (lv_sub hl [1, 2, 3, 4, 0] rfl) hf
          · replace hf := (if_pos hc).symm.trans hf
            refine lv_aload_n hx hb dX3_play_50 rfl (lv_at hl 1 rfl) ?_
            refine va_get (D := D) (ci := 3) (v := .ref a_t_seconds) (C := RX3) (T := TX3) (N := 5) hx hb hts hmsX3 hown hK hP 0 rfl rfl 1 (by decide) hw15 (fun _ h9 => h9) rfl dX3_play_51 ?_
            refine lv_iload hx hb dX3_play_54 (lv_at hl 4 rfl) ?_
            refine va_iald (D := D) hx hb hK hP 2 0 rfl rfl hi42 dX3_play_56 ?_
            refine lv_istore (lv' := [(5, .int (t_seconds l16v4.toNatClampNeg)), (0, .ref a_t), (2, .int p2), (3, .int l16v3), (4, .int l16v4)]) hx hb dX3_play_57 hl (by decide) rfl (fun ls hl => ?_)
            exact hB59 (t_seconds l16v4.toNatClampNeg) _ _ _ hP hD hS (lv_sub hl [1, 2, 3, 4, 0] rfl) hf
  exact hL16 5000 (-6 : Int32) (0 : Int32) p1 (0 : Int32) _ _ _ hP hD hS (lv_sub hl [2, 4, 1, 0] rfl) hf
abbrev rm_X3_possibleKings : Room := { frames := 2, cells := 0, slots := 0, locals := 46 }
theorem ms_X3_possibleKings_X3 : ∀ w ∈ u_ws RX3 TX3 5, w ∈ wsX3_possibleKings := fun w h => List.mem_cons_of_mem _ (List.mem_append_right _ (h))
set_option maxHeartbeats 4000000 in
set_option maxRecDepth 100000 in
theorem c_X3_possibleKings (l : Launch) (D : va_G) (cI cJ cZ cO : ClassId) (sz : Nat) (a_t : Nat) (a_t_firsts : Nat) (a_t_seconds : Nat) (t_size : Int32) (t_king : Int32) (t_touched : Int32) (t_firsts : Nat → Int32) (t_seconds : Nat → Int32) (p1 : Int32) (res : Int32 × Int32 × Int32) (hf : f_X3_possibleKings t_size t_king t_touched t_firsts t_seconds p1 = some res) : MetI l yX3_possibleKings wsX3_possibleKings rm_X3_possibleKings [.ref a_t, .int p1] D (tys4 cI cJ cZ cO) [(a_t, .inr (3, [.ref a_t_firsts, .ref a_t_seconds, .int t_size, .int t_king, .int t_touched])), (a_t_firsts, .inl (cI, 8, .inl t_firsts)), (a_t_seconds, .inl (cI, 8, .inl t_seconds))] sz res.1 [(a_t, .inr (3, [.ref a_t_firsts, .ref a_t_seconds, .int t_size, .int res.2.1, .int res.2.2])), (a_t_firsts, .inl (cI, 8, .inl t_firsts)), (a_t_seconds, .inl (cI, 8, .inl t_seconds))] := by
  refine met_i (cc := cX3_possibleKings) (maxL := 4) (by decide) rfl (Nat.le_of_ble_eq_true rfl) ?_
  intro p e s m args below meth c Q A hx hb hml hown hts hK hN hA fin H locs ls hP hD hS hl
  replace hown : s.vm.findClass RX3 = some m.cls := hown
  replace hl : lv_has ls 4 [(0, .ref a_t), (1, .int p1)] := hl
  rw [f_X3_possibleKings] at hf
  have hw18 := hts (.fieldLink RX3 18 "TouchReign$Meetings" "size" "I") (by decide +kernel)
  have hmsX3 := ms_X3_possibleKings_X3
  have hcw38 := cwV (R := rm_X3_possibleKings) (rm := rm_X3_play) 2 hts gX3_possibleKings_X3_play rfl rfl rfl (by decide +kernel) ⟨Nat.le_of_ble_eq_true rfl, Nat.le_of_ble_eq_true rfl⟩
  have hw22 := hts (.fieldLink RX3 22 "TouchReign$Meetings" "king" "I") (by decide +kernel)
  refine lv_iconst (v := 0) hx hb dX3_possibleKings_0 (by decide) ?_
  refine lv_istore_n (lv' := [(2, .int (0 : Int32)), (0, .ref a_t), (1, .int p1)]) hx hb dX3_possibleKings_1 rfl hl (by decide) rfl (fun ls hl => ?_)
  refine lv_iconst (v := 0) hx hb dX3_possibleKings_2 (by decide) ?_
  refine lv_istore_n (lv' := [(3, .int (0 : Int32)), (2, .int (0 : Int32)), (0, .ref a_t), (1, .int p1)]) hx hb dX3_possibleKings_3 rfl hl (by decide) rfl (fun ls hl => ?_)
  have hX4 : ∀ (x4v2 : Int32) (x4t_king : Int32) (x4t_touched : Int32) (H : Heap) (locs : List Loc) (ls : Array Slot), va_P D vwCl [(a_t, .inr (3, [.ref a_t_firsts, .ref a_t_seconds, .int t_size, .int x4t_king, .int x4t_touched])), (a_t_firsts, .inl (cI, 8, .inl t_firsts)), (a_t_seconds, .inl (cI, 8, .inl t_seconds))] H → va_D A [(a_t, .inr (3, [.ref a_t_firsts, .ref a_t_seconds, .int t_size, .int x4t_king, .int x4t_touched])), (a_t_firsts, .inl (cI, 8, .inl t_firsts)), (a_t_seconds, .inl (cI, 8, .inl t_seconds))] → va_S A s.heap H locs → lv_has ls 4 [(2, .int x4v2)] → f_X3_possibleKings_X4 x4v2 x4t_king x4t_touched = some res → W p l e rm_X3_possibleKings s m args below meth c H locs 0 0 Q (F0 m 35 ls []) := by
    intro x4v2 x4t_king x4t_touched H locs ls hP hD hS hl hf
    rw [f_X3_possibleKings_X4] at hf
    refine lv_iload_n hx hb dX3_possibleKings_35 rfl (lv_at hl 0 rfl) ?_
    obtain rfl := Option.some.inj hf
    exact fin _ _ _ _ dX3_possibleKings_36 hP hD hS
  have hL4 : ∀ (n4 : Nat), ∀ (l4v2 : Int32) (l4v3 : Int32) (l4t_king : Int32) (l4t_touched : Int32) (H : Heap) (locs : List Loc) (ls : Array Slot), va_P D vwCl [(a_t, .inr (3, [.ref a_t_firsts, .ref a_t_seconds, .int t_size, .int l4t_king, .int l4t_touched])), (a_t_firsts, .inl (cI, 8, .inl t_firsts)), (a_t_seconds, .inl (cI, 8, .inl t_seconds))] H → va_D A [(a_t, .inr (3, [.ref a_t_firsts, .ref a_t_seconds, .int t_size, .int l4t_king, .int l4t_touched])), (a_t_firsts, .inl (cI, 8, .inl t_firsts)), (a_t_seconds, .inl (cI, 8, .inl t_seconds))] → va_S A s.heap H locs → lv_has ls 4 [(0, .ref a_t), (1, .int p1), (2, .int l4v2), (3, .int l4v3)] → f_X3_possibleKings_L4 t_size t_firsts t_seconds p1 f_X3_possibleKings_X4 n4 l4v2 l4v3 l4t_king l4t_touched = some res → W p l e rm_X3_possibleKings s m args below meth c H locs 0 0 Q (F0 m 4 ls []) := by
    intro n4
    induction n4 with
    | zero =>
      intro l4v2 l4v3 l4t_king l4t_touched H locs ls hP hD hS hl hf
      rw [f_X3_possibleKings_L4] at hf
      cases hf
    | succ n4 ih4 =>
      intro l4v2 l4v3 l4t_king l4t_touched H locs ls hP hD hS hl hf
      rw [f_X3_possibleKings_L4] at hf
      refine lv_iload_n hx hb dX3_possibleKings_4 rfl (lv_at hl 3 rfl) ?_
      refine lv_iconst (v := 1) hx hb dX3_possibleKings_5 (by decide) ?_
      refine lv_aload_n hx hb dX3_possibleKings_6 rfl (lv_at hl 0 rfl) ?_
      refine va_get (D := D) (ci := 3) (v := .int t_size) (C := RX3) (T := TX3) (N := 5) hx hb hts hmsX3 hown hK hP 0 rfl rfl 2 (by decide) hw18 (fun _ h9 => h9) rfl dX3_possibleKings_7 ?_
      refine lv_ishl hx hb dX3_possibleKings_10 ?_
      refine lv_icmp_ge (tgt := 35) hx hb dX3_possibleKings_11 (by decide) (fun hc => ?_) (fun hc => ?_)
      · replace hf := (if_pos hc).symm.trans hf
        exact hX4 l4v2 l4t_king l4t_touched _ _ _ hP hD hS (lv_sub hl [2] rfl) hf
      · replace hf := (if_neg hc).symm.trans hf
        refine lv_aload_n hx hb dX3_possibleKings_14 rfl (lv_at hl 0 rfl) ?_
        refine lv_iload_n hx hb dX3_possibleKings_15 rfl (lv_at hl 1 rfl) ?_
        refine lv_iload_n hx hb dX3_possibleKings_16 rfl (lv_at hl 3 rfl) ?_
        obtain ⟨x17, hx17, hf⟩ := bd_if hf
        refine cv_v (wr := []) (ws' := [(a_t, .inr (3, [.ref a_t_firsts, .ref a_t_seconds, .int t_size, .int x17.1, .int x17.2])), (a_t_firsts, .inl (cI, 8, .inl t_firsts)), (a_t_seconds, .inl (cI, 8, .inl t_seconds))]) ⟨hx, hb, hml, hown, hts⟩ hcw38 hK hN hP hD hS hA (c_X3_play l D cI cJ cZ cO _ a_t a_t_firsts a_t_seconds t_size l4t_king l4t_touched t_firsts t_seconds p1 l4v3 x17 hx17) (q := (RX3, TX3, 5)) (ci := 3) (q0 := 0) rfl rfl [0, 1, 2] [] [0, 1, 2] rfl rfl rfl rfl (by decide) rfl rfl rfl hl.1 rfl (Nat.le_of_ble_eq_true rfl) dX3_possibleKings_17 ⟨Nat.zero_le _, Nat.zero_le _⟩ (fun H locs hP hD hS => ?_)
        refine lv_iload_n hx hb dX3_possibleKings_20 rfl (lv_at hl 2 rfl) ?_
        refine lv_iconst (v := 1) hx hb dX3_possibleKings_21 (by decide) ?_
        refine lv_aload_n hx hb dX3_possibleKings_22 rfl (lv_at hl 0 rfl) ?_
        refine va_get (D := D) (ci := 3) (v := .int x17.1) (C := RX3) (T := TX3) (N := 5) hx hb hts hmsX3 hown hK hP 0 rfl rfl 3 (by decide) hw22 (fun _ h9 => h9) rfl dX3_possibleKings_23 ?_
        refine lv_ishl hx hb dX3_possibleKings_26 ?_
        refine lv_ior hx hb dX3_possibleKings_27 ?_
        refine lv_istore_n (lv' := [(2, .int (l4v2 ||| ((1 : Int32) <<< (x17.1 &&& 31)))), (0, .ref a_t), (1, .int p1), (3, .int l4v3)]) hx hb dX3_possibleKings_28 rfl hl (by decide) rfl (fun ls hl => ?_)
        refine lv_iinc (v := l4v3 + 1) (lv' := [(3, .int (l4v3 + 1)), (2, .int (l4v2 ||| ((1 : Int32) <<< (x17.1 &&& 31)))), (0, .ref a_t), (1, .int p1)]) hx hb dX3_possibleKings_29 hl (k := 3) rfl rfl (by decide) rfl (fun ls hl => ?_)
        refine lv_goto (tgt := 4) hx hb dX3_possibleKings_32 (by decide) ?_
        exact ih4 (l4v2 ||| ((1 : Int32) <<< (x17.1 &&& 31))) (l4v3 + 1) x17.1 x17.2 _ _ _ hP hD hS (lv_sub hl [2, 3, 1, 0] rfl) hf
  exact hL4 5000 (0 : Int32) (0 : Int32) t_king t_touched _ _ _ hP hD hS (lv_sub hl [2, 3, 1, 0] rfl) hf
abbrev rm_X3_fewestTouches : Room := { frames := 2, cells := 0, slots := 0, locals := 46 }
theorem ms_X3_fewestTouches_X3 : ∀ w ∈ u_ws RX3 TX3 5, w ∈ wsX3_fewestTouches := fun w h => List.mem_cons_of_mem _ (List.mem_append_right _ (h))
set_option maxHeartbeats 4000000 in
set_option maxRecDepth 100000 in
theorem c_X3_fewestTouches (l : Launch) (D : va_G) (cI cJ cZ cO : ClassId) (sz : Nat) (a_t : Nat) (a_t_firsts : Nat) (a_t_seconds : Nat) (t_size : Int32) (t_king : Int32) (t_touched : Int32) (t_firsts : Nat → Int32) (t_seconds : Nat → Int32) (p1 : Int32) (p2 : Int32) (res : Int32 × Int32 × Int32) (hf : f_X3_fewestTouches t_size t_king t_touched t_firsts t_seconds p1 p2 = some res) : MetI l yX3_fewestTouches wsX3_fewestTouches rm_X3_fewestTouches [.ref a_t, .int p1, .int p2] D (tys4 cI cJ cZ cO) [(a_t, .inr (3, [.ref a_t_firsts, .ref a_t_seconds, .int t_size, .int t_king, .int t_touched])), (a_t_firsts, .inl (cI, 8, .inl t_firsts)), (a_t_seconds, .inl (cI, 8, .inl t_seconds))] sz res.1 [(a_t, .inr (3, [.ref a_t_firsts, .ref a_t_seconds, .int t_size, .int res.2.1, .int res.2.2])), (a_t_firsts, .inl (cI, 8, .inl t_firsts)), (a_t_seconds, .inl (cI, 8, .inl t_seconds))] := by
  refine met_i (cc := cX3_fewestTouches) (maxL := 5) (by decide) rfl (Nat.le_of_ble_eq_true rfl) ?_
  intro p e s m args below meth c Q A hx hb hml hown hts hK hN hA fin H locs ls hP hD hS hl
  replace hown : s.vm.findClass RX3 = some m.cls := hown
  replace hl : lv_has ls 5 [(0, .ref a_t), (1, .int p1), (2, .int p2)] := hl
  rw [f_X3_fewestTouches] at hf
  have hw18 := hts (.fieldLink RX3 18 "TouchReign$Meetings" "size" "I") (by decide +kernel)
  have hmsX3 := ms_X3_fewestTouches_X3
  have hcw38 := cwV (R := rm_X3_fewestTouches) (rm := rm_X3_play) 2 hts gX3_fewestTouches_X3_play rfl rfl rfl (by decide +kernel) ⟨Nat.le_of_ble_eq_true rfl, Nat.le_of_ble_eq_true rfl⟩
  have hw22 := hts (.fieldLink RX3 22 "TouchReign$Meetings" "king" "I") (by decide +kernel)
  have hw25 := hts (.fieldLink RX3 25 "TouchReign$Meetings" "touched" "I") (by decide +kernel)
  refine lv_bipush (v := -6) hx hb dX3_fewestTouches_0 (by decide) ?_
  refine lv_istore_n (lv' := [(3, .int (-6 : Int32)), (0, .ref a_t), (1, .int p1), (2, .int p2)]) hx hb dX3_fewestTouches_2 rfl hl (by decide) rfl (fun ls hl => ?_)
  refine lv_iconst (v := 0) hx hb dX3_fewestTouches_3 (by decide) ?_
  refine lv_istore (lv' := [(4, .int (0 : Int32)), (3, .int (-6 : Int32)), (0, .ref a_t), (1, .int p1), (2, .int p2)]) hx hb dX3_fewestTouches_4 hl (by decide) rfl (fun ls hl => ?_)
  have hX6 : ∀ (x6v3 : Int32) (x6t_king : Int32) (x6t_touched : Int32) (H : Heap) (locs : List Loc) (ls : Array Slot), va_P D vwCl [(a_t, .inr (3, [.ref a_t_firsts, .ref a_t_seconds, .int t_size, .int x6t_king, .int x6t_touched])), (a_t_firsts, .inl (cI, 8, .inl t_firsts)), (a_t_seconds, .inl (cI, 8, .inl t_seconds))] H → va_D A [(a_t, .inr (3, [.ref a_t_firsts, .ref a_t_seconds, .int t_size, .int x6t_king, .int x6t_touched])), (a_t_firsts, .inl (cI, 8, .inl t_firsts)), (a_t_seconds, .inl (cI, 8, .inl t_seconds))] → va_S A s.heap H locs → lv_has ls 5 [(3, .int x6v3)] → f_X3_fewestTouches_X6 x6v3 x6t_king x6t_touched = some res → W p l e rm_X3_fewestTouches s m args below meth c H locs 0 0 Q (F0 m 57 ls []) := by
    intro x6v3 x6t_king x6t_touched H locs ls hP hD hS hl hf
    rw [f_X3_fewestTouches_X6] at hf
    refine lv_iload_n hx hb dX3_fewestTouches_57 rfl (lv_at hl 0 rfl) ?_
    obtain rfl := Option.some.inj hf
    exact fin _ _ _ _ dX3_fewestTouches_58 hP hD hS
  have hL6 : ∀ (n6 : Nat), ∀ (l6v3 : Int32) (l6v4 : Int32) (l6t_king : Int32) (l6t_touched : Int32) (H : Heap) (locs : List Loc) (ls : Array Slot), va_P D vwCl [(a_t, .inr (3, [.ref a_t_firsts, .ref a_t_seconds, .int t_size, .int l6t_king, .int l6t_touched])), (a_t_firsts, .inl (cI, 8, .inl t_firsts)), (a_t_seconds, .inl (cI, 8, .inl t_seconds))] H → va_D A [(a_t, .inr (3, [.ref a_t_firsts, .ref a_t_seconds, .int t_size, .int l6t_king, .int l6t_touched])), (a_t_firsts, .inl (cI, 8, .inl t_firsts)), (a_t_seconds, .inl (cI, 8, .inl t_seconds))] → va_S A s.heap H locs → lv_has ls 5 [(0, .ref a_t), (1, .int p1), (2, .int p2), (3, .int l6v3), (4, .int l6v4)] → f_X3_fewestTouches_L6 t_size t_firsts t_seconds p1 p2 f_X3_fewestTouches_X6 n6 l6v3 l6v4 l6t_king l6t_touched = some res → W p l e rm_X3_fewestTouches s m args below meth c H locs 0 0 Q (F0 m 6 ls []) := by
    intro n6
    induction n6 with
    | zero =>
      intro l6v3 l6v4 l6t_king l6t_touched H locs ls hP hD hS hl hf
      rw [f_X3_fewestTouches_L6] at hf
      cases hf
    | succ n6 ih6 =>
      intro l6v3 l6v4 l6t_king l6t_touched H locs ls hP hD hS hl hf
      rw [f_X3_fewestTouches_L6] at hf
      refine lv_iload hx hb dX3_fewestTouches_6 (lv_at hl 4 rfl) ?_
      refine lv_iconst (v := 1) hx hb dX3_fewestTouches_8 (by decide) ?_
      refine lv_aload_n hx hb dX3_fewestTouches_9 rfl (lv_at hl 0 rfl) ?_
      refine va_get (D := D) (ci := 3) (v := .int t_size) (C := RX3) (T := TX3) (N := 5) hx hb hts hmsX3 hown hK hP 0 rfl rfl 2 (by decide) hw18 (fun _ h9 => h9) rfl dX3_fewestTouches_10 ?_
      refine lv_ishl hx hb dX3_fewestTouches_13 ?_
      refine lv_icmp_ge (tgt := 57) hx hb dX3_fewestTouches_14 (by decide) (fun hc => ?_) (fun hc => ?_)
      · replace hf := (if_pos hc).symm.trans hf
        exact hX6 l6v3 l6t_king l6t_touched _ _ _ hP hD hS (lv_sub hl [3] rfl) hf
      · replace hf := (if_neg hc).symm.trans hf
        refine lv_aload_n hx hb dX3_fewestTouches_17 rfl (lv_at hl 0 rfl) ?_
        refine lv_iload_n hx hb dX3_fewestTouches_18 rfl (lv_at hl 1 rfl) ?_
        refine lv_iload hx hb dX3_fewestTouches_19 (lv_at hl 4 rfl) ?_
        obtain ⟨x21, hx21, hf⟩ := bd_if hf
        refine cv_v (wr := []) (ws' := [(a_t, .inr (3, [.ref a_t_firsts, .ref a_t_seconds, .int t_size, .int x21.1, .int x21.2])), (a_t_firsts, .inl (cI, 8, .inl t_firsts)), (a_t_seconds, .inl (cI, 8, .inl t_seconds))]) ⟨hx, hb, hml, hown, hts⟩ hcw38 hK hN hP hD hS hA (c_X3_play l D cI cJ cZ cO _ a_t a_t_firsts a_t_seconds t_size l6t_king l6t_touched t_firsts t_seconds p1 l6v4 x21 hx21) (q := (RX3, TX3, 5)) (ci := 3) (q0 := 0) rfl rfl [0, 1, 2] [] [0, 1, 2] rfl rfl rfl rfl (by decide) rfl rfl rfl hl.1 rfl (Nat.le_of_ble_eq_true rfl) dX3_fewestTouches_21 ⟨Nat.zero_le _, Nat.zero_le _⟩ (fun H locs hP hD hS => ?_)
        refine lv_aload_n hx hb dX3_fewestTouches_24 rfl (lv_at hl 0 rfl) ?_
        refine va_get (D := D) (ci := 3) (v := .int x21.1) (C := RX3) (T := TX3) (N := 5) hx hb hts hmsX3 hown hK hP 0 rfl rfl 3 (by decide) hw22 (fun _ h9 => h9) rfl dX3_fewestTouches_25 ?_
        refine lv_iload_n hx hb dX3_fewestTouches_28 rfl (lv_at hl 2 rfl) ?_
        refine lv_icmp_ne (tgt := 51) hx hb dX3_fewestTouches_29 (by decide) (fun hc => ?_) (fun hc => ?_)
        · replace hf := (if_neg hc).symm.trans hf
          refine lv_iinc (v := l6v4 + 1) (lv' := [(4, .int (l6v4 + 1)), (0, .ref a_t), (1, .int p1), (2, .int p2), (3, .int l6v3)]) hx hb dX3_fewestTouches_51 hl (k := 4) rfl rfl (by decide) rfl (fun ls hl => ?_)
          refine lv_goto (tgt := 6) hx hb dX3_fewestTouches_54 (by decide) ?_
          exact ih6 l6v3 (l6v4 + 1) x21.1 x21.2 _ _ _ hP hD hS (lv_sub hl [1, 2, 3, 4, 0] rfl) hf
        · replace hf := (if_pos hc).symm.trans hf
          refine lv_iload_n hx hb dX3_fewestTouches_32 rfl (lv_at hl 3 rfl) ?_
          refine lv_bipush (v := -6) hx hb dX3_fewestTouches_33 (by decide) ?_
          refine lv_icmp_eq (tgt := 46) hx hb dX3_fewestTouches_35 (by decide) (fun hc => ?_) (fun hc => ?_)
          · replace hf := (if_pos hc).symm.trans hf
            refine lv_aload_n hx hb dX3_fewestTouches_46 rfl (lv_at hl 0 rfl) ?_
            refine va_get (D := D) (ci := 3) (v := .int x21.2) (C := RX3) (T := TX3) (N := 5) hx hb hts hmsX3 hown hK hP 0 rfl rfl 4 (by decide) hw25 (fun _ h9 => h9) rfl dX3_fewestTouches_47 ?_
            refine lv_istore_n (lv' := [(3, .int x21.2), (0, .ref a_t), (1, .int p1), (2, .int p2), (4, .int l6v4)]) hx hb dX3_fewestTouches_50 rfl hl (by decide) rfl (fun ls hl => ?_)
            refine lv_iinc (v := l6v4 + 1) (lv' := [(4, .int (l6v4 + 1)), (3, .int x21.2), (0, .ref a_t), (1, .int p1), (2, .int p2)]) hx hb dX3_fewestTouches_51 hl (k := 4) rfl rfl (by decide) rfl (fun ls hl => ?_)
            refine lv_goto (tgt := 6) hx hb dX3_fewestTouches_54 (by decide) ?_
            exact ih6 x21.2 (l6v4 + 1) x21.1 x21.2 _ _ _ hP hD hS (lv_sub hl [2, 3, 4, 1, 0] rfl) hf
          · replace hf := (if_neg hc).symm.trans hf
            refine lv_aload_n hx hb dX3_fewestTouches_38 rfl (lv_at hl 0 rfl) ?_
            refine va_get (D := D) (ci := 3) (v := .int x21.2) (C := RX3) (T := TX3) (N := 5) hx hb hts hmsX3 hown hK hP 0 rfl rfl 4 (by decide) hw25 (fun _ h9 => h9) rfl dX3_fewestTouches_39 ?_
            refine lv_iload_n hx hb dX3_fewestTouches_42 rfl (lv_at hl 3 rfl) ?_
            refine lv_icmp_ge (tgt := 51) hx hb dX3_fewestTouches_43 (by decide) (fun hc => ?_) (fun hc => ?_)
            · replace hf := (if_pos hc).symm.trans hf
              refine lv_iinc (v := l6v4 + 1) (lv' := [(4, .int (l6v4 + 1)), (0, .ref a_t), (1, .int p1), (2, .int p2), (3, .int l6v3)]) hx hb dX3_fewestTouches_51 hl (k := 4) rfl rfl (by decide) rfl (fun ls hl => ?_)
              refine lv_goto (tgt := 6) hx hb dX3_fewestTouches_54 (by decide) ?_
              exact ih6 l6v3 (l6v4 + 1) x21.1 x21.2 _ _ _ hP hD hS (lv_sub hl [1, 2, 3, 4, 0] rfl) hf
            · replace hf := (if_neg hc).symm.trans hf
              refine lv_aload_n hx hb dX3_fewestTouches_46 rfl (lv_at hl 0 rfl) ?_
              refine va_get (D := D) (ci := 3) (v := .int x21.2) (C := RX3) (T := TX3) (N := 5) hx hb hts hmsX3 hown hK hP 0 rfl rfl 4 (by decide) hw25 (fun _ h9 => h9) rfl dX3_fewestTouches_47 ?_
              refine lv_istore_n (lv' := [(3, .int x21.2), (0, .ref a_t), (1, .int p1), (2, .int p2), (4, .int l6v4)]) hx hb dX3_fewestTouches_50 rfl hl (by decide) rfl (fun ls hl => ?_)
              refine lv_iinc (v := l6v4 + 1) (lv' := [(4, .int (l6v4 + 1)), (3, .int x21.2), (0, .ref a_t), (1, .int p1), (2, .int p2)]) hx hb dX3_fewestTouches_51 hl (k := 4) rfl rfl (by decide) rfl (fun ls hl => ?_)
              refine lv_goto (tgt := 6) hx hb dX3_fewestTouches_54 (by decide) ?_
              exact ih6 x21.2 (l6v4 + 1) x21.1 x21.2 _ _ _ hP hD hS (lv_sub hl [2, 3, 4, 1, 0] rfl) hf
  exact hL6 5000 (-6 : Int32) (0 : Int32) t_king t_touched _ _ _ hP hD hS (lv_sub hl [2, 3, 4, 1, 0] rfl) hf
abbrev rm_X3_coinWeight : Room := { frames := 1, cells := 0, slots := 0, locals := 21 }
theorem ms_X3_coinWeight_X3 : ∀ w ∈ u_ws RX3 TX3 5, w ∈ wsX3_coinWeight := fun w h => List.mem_cons_of_mem _ (List.mem_append_right _ (h))
set_option maxHeartbeats 4000000 in
set_option maxRecDepth 100000 in
theorem c_X3_coinWeight (l : Launch) (D : va_G) (cI cJ cZ cO : ClassId) (sz : Nat) (a_t : Nat) (a_t_firsts : Nat) (a_t_seconds : Nat) (t_size : Int32) (t_king : Int32) (t_touched : Int32) (p1 : Int32) (p2 : Int32) (res : Int64) (hf : f_X3_coinWeight t_size p1 p2 = some res) : MetL l yX3_coinWeight wsX3_coinWeight rm_X3_coinWeight [.ref a_t, .int p1, .int p2] D (tys4 cI cJ cZ cO) [(a_t, .inr (3, [.ref a_t_firsts, .ref a_t_seconds, .int t_size, .int t_king, .int t_touched]))] sz res [(a_t, .inr (3, [.ref a_t_firsts, .ref a_t_seconds, .int t_size, .int t_king, .int t_touched]))] := by
  refine met_l (cc := cX3_coinWeight) (maxL := 6) (by decide) rfl (Nat.le_of_ble_eq_true rfl) ?_
  intro p e s m args below meth c Q A hx hb hml hown hts hK hN hA fin H locs ls hP hD hS hl
  replace hown : s.vm.findClass RX3 = some m.cls := hown
  replace hl : lv_has ls 6 [(0, .ref a_t), (1, .int p1), (2, .int p2)] := hl
  rw [f_X3_coinWeight] at hf
  have hw18 := hts (.fieldLink RX3 18 "TouchReign$Meetings" "size" "I") (by decide +kernel)
  have hmsX3 := ms_X3_coinWeight_X3
  have hiniX9 := hts (.initialized RX9) (by decide +kernel)
  have hcw34 := va_cnB (R := rm_X3_coinWeight) (rm := rm_X9_holds) 2 hts gX3_coinWeight_X9_holds_n34 rfl rfl rfl (hN.1 (.methodLinkNest RX3 34 yX9_holds RX9) (by decide +kernel)) hiniX9 (by decide +kernel) ⟨Nat.le_of_ble_eq_true rfl, Nat.le_of_ble_eq_true rfl⟩
  have hst34 := hts (.static yX9_holds) (by decide +kernel)
  refine lv_lconst (v := 1) hx hb dX3_coinWeight_0 (by decide) ?_
  refine lv_lstore_n (lv' := [(3, .long (1 : Int64)), (0, .ref a_t), (1, .int p1), (2, .int p2)]) hx hb dX3_coinWeight_1 rfl hl (by decide) rfl (fun ls hl => ?_)
  refine lv_iconst (v := 0) hx hb dX3_coinWeight_2 (by decide) ?_
  refine lv_istore (lv' := [(5, .int (0 : Int32)), (3, .long (1 : Int64)), (0, .ref a_t), (1, .int p1), (2, .int p2)]) hx hb dX3_coinWeight_3 hl (by decide) rfl (fun ls hl => ?_)
  have hX5 : ∀ (x5v3 : Int64) (H : Heap) (locs : List Loc) (ls : Array Slot), va_P D vwCl [(a_t, .inr (3, [.ref a_t_firsts, .ref a_t_seconds, .int t_size, .int t_king, .int t_touched]))] H → va_D A [(a_t, .inr (3, [.ref a_t_firsts, .ref a_t_seconds, .int t_size, .int t_king, .int t_touched]))] → va_S A s.heap H locs → lv_has ls 6 [(3, .long x5v3)] → f_X3_coinWeight_X5 x5v3 = some res → W p l e rm_X3_coinWeight s m args below meth c H locs 0 0 Q (F0 m 42 ls []) := by
    intro x5v3 H locs ls hP hD hS hl hf
    rw [f_X3_coinWeight_X5] at hf
    refine lv_lload_n hx hb dX3_coinWeight_42 rfl (lv_at hl 0 rfl) ?_
    obtain rfl := Option.some.inj hf
    exact fin _ _ _ _ dX3_coinWeight_43 hP hD hS
  have hL5 : ∀ (n5 : Nat), ∀ (l5v3 : Int64) (l5v5 : Int32) (H : Heap) (locs : List Loc) (ls : Array Slot), va_P D vwCl [(a_t, .inr (3, [.ref a_t_firsts, .ref a_t_seconds, .int t_size, .int t_king, .int t_touched]))] H → va_D A [(a_t, .inr (3, [.ref a_t_firsts, .ref a_t_seconds, .int t_size, .int t_king, .int t_touched]))] → va_S A s.heap H locs → lv_has ls 6 [(0, .ref a_t), (1, .int p1), (2, .int p2), (3, .long l5v3), (5, .int l5v5)] → f_X3_coinWeight_L5 t_size p1 p2 f_X3_coinWeight_X5 n5 l5v3 l5v5 = some res → W p l e rm_X3_coinWeight s m args below meth c H locs 0 0 Q (F0 m 5 ls []) := by
    intro n5
    induction n5 with
    | zero =>
      intro l5v3 l5v5 H locs ls hP hD hS hl hf
      rw [f_X3_coinWeight_L5] at hf
      cases hf
    | succ n5 ih5 =>
      intro l5v3 l5v5 H locs ls hP hD hS hl hf
      rw [f_X3_coinWeight_L5] at hf
      refine lv_iload hx hb dX3_coinWeight_5 (lv_at hl 4 rfl) ?_
      refine lv_aload_n hx hb dX3_coinWeight_7 rfl (lv_at hl 0 rfl) ?_
      refine va_get (D := D) (ci := 3) (v := .int t_size) (C := RX3) (T := TX3) (N := 5) hx hb hts hmsX3 hown hK hP 0 rfl rfl 2 (by decide) hw18 (fun _ h9 => h9) rfl dX3_coinWeight_8 ?_
      refine lv_icmp_ge (tgt := 42) hx hb dX3_coinWeight_11 (by decide) (fun hc => ?_) (fun hc => ?_)
      · replace hf := (if_pos hc).symm.trans hf
        exact hX5 l5v3 _ _ _ hP hD hS (lv_sub hl [3] rfl) hf
      · replace hf := (if_neg hc).symm.trans hf
        refine lv_lload_n hx hb dX3_coinWeight_14 rfl (lv_at hl 3 rfl) ?_
        refine lv_iload_n hx hb dX3_coinWeight_15 rfl (lv_at hl 1 rfl) ?_
        refine lv_iload hx hb dX3_coinWeight_16 (lv_at hl 4 rfl) ?_
        obtain ⟨x18, hx18, hf⟩ := bd_if hf
        refine cn_i (wr := [(a_t, .inr (3, [.ref a_t_firsts, .ref a_t_seconds, .int t_size, .int t_king, .int t_touched]))]) (ws' := [(a_t, .inr (3, [.ref a_t_firsts, .ref a_t_seconds, .int t_size, .int t_king, .int t_touched]))]) ⟨hx, hb, hml, hown, hts⟩ ⟨hcw34, hst34, trivial⟩ hK hN hP hD hS hA (c_X9_holds l D cI cJ cZ cO _ p1 l5v5 x18 hx18) [] [0] [0] rfl rfl rfl rfl (by decide) rfl rfl rfl hl.1 rfl (Nat.le_of_ble_eq_true rfl) dX3_coinWeight_18 ⟨Nat.zero_le _, Nat.zero_le _⟩ (fun H locs hP hD hS => ?_)
        refine lv_if_eq (tgt := 29) hx hb dX3_coinWeight_21 (by decide) (fun hc => ?_) (fun hc => ?_)
        · replace hf := (if_pos hc).symm.trans hf
          refine lv_bipush (v := 10) hx hb dX3_coinWeight_29 (by decide) ?_
          refine lv_iload_n hx hb dX3_coinWeight_31 rfl (lv_at hl 2 rfl) ?_
          refine lv_isub hx hb dX3_coinWeight_32 ?_
          refine lv_i2l (v := ((10 : Int32) - p2).toInt64) hx hb dX3_coinWeight_33 rfl ?_
          refine lv_lmul hx hb dX3_coinWeight_34 ?_
          refine lv_lstore_n (lv' := [(3, .long (l5v3 * (((10 : Int32) - p2).toInt64))), (0, .ref a_t), (1, .int p1), (2, .int p2), (5, .int l5v5)]) hx hb dX3_coinWeight_35 rfl hl (by decide) rfl (fun ls hl => ?_)
          refine lv_iinc (v := l5v5 + 1) (lv' := [(5, .int (l5v5 + 1)), (3, .long (l5v3 * (((10 : Int32) - p2).toInt64))), (0, .ref a_t), (1, .int p1), (2, .int p2)]) hx hb dX3_coinWeight_36 hl (k := 4) rfl rfl (by decide) rfl (fun ls hl => ?_)
          refine lv_goto (tgt := 5) hx hb dX3_coinWeight_39 (by decide) ?_
          exact ih5 (l5v3 * (((10 : Int32) - p2).toInt64)) (l5v5 + 1) _ _ _ hP hD hS (lv_sub hl [2, 3, 4, 1, 0] rfl) hf
        · replace hf := (if_neg hc).symm.trans hf
          refine lv_iload_n hx hb dX3_coinWeight_24 rfl (lv_at hl 2 rfl) ?_
          refine lv_i2l (v := p2.toInt64) hx hb dX3_coinWeight_25 rfl ?_
          refine lv_goto (tgt := 34) hx hb dX3_coinWeight_26 (by decide) ?_
          refine lv_lmul hx hb dX3_coinWeight_34 ?_
          refine lv_lstore_n (lv' := [(3, .long (l5v3 * p2.toInt64)), (0, .ref a_t), (1, .int p1), (2, .int p2), (5, .int l5v5)]) hx hb dX3_coinWeight_35 rfl hl (by decide) rfl (fun ls hl => ?_)
          refine lv_iinc (v := l5v5 + 1) (lv' := [(5, .int (l5v5 + 1)), (3, .long (l5v3 * p2.toInt64)), (0, .ref a_t), (1, .int p1), (2, .int p2)]) hx hb dX3_coinWeight_36 hl (k := 4) rfl rfl (by decide) rfl (fun ls hl => ?_)
          refine lv_goto (tgt := 5) hx hb dX3_coinWeight_39 (by decide) ?_
          exact ih5 (l5v3 * p2.toInt64) (l5v5 + 1) _ _ _ hP hD hS (lv_sub hl [2, 3, 4, 1, 0] rfl) hf
  exact hL5 5000 (1 : Int64) (0 : Int32) _ _ _ hP hD hS (lv_sub hl [2, 3, 4, 1, 0] rfl) hf
abbrev rm_X3_weightOf : Room := { frames := 2, cells := 0, slots := 0, locals := 46 }
theorem ms_X3_weightOf_X3 : ∀ w ∈ u_ws RX3 TX3 5, w ∈ wsX3_weightOf := fun w h => List.mem_cons_of_mem _ (List.mem_append_right _ (h))
set_option maxHeartbeats 4000000 in
set_option maxRecDepth 100000 in
theorem c_X3_weightOf (l : Launch) (D : va_G) (cI cJ cZ cO : ClassId) (sz : Nat) (a_t : Nat) (a_t_firsts : Nat) (a_t_seconds : Nat) (t_size : Int32) (t_king : Int32) (t_touched : Int32) (t_firsts : Nat → Int32) (t_seconds : Nat → Int32) (p1 : Int32) (p2 : Int32) (p3 : Int32) (res : Int64 × Int32 × Int32) (hf : f_X3_weightOf t_size t_king t_touched t_firsts t_seconds p1 p2 p3 = some res) : MetL l yX3_weightOf wsX3_weightOf rm_X3_weightOf [.ref a_t, .int p1, .int p2, .int p3] D (tys4 cI cJ cZ cO) [(a_t, .inr (3, [.ref a_t_firsts, .ref a_t_seconds, .int t_size, .int t_king, .int t_touched])), (a_t_firsts, .inl (cI, 8, .inl t_firsts)), (a_t_seconds, .inl (cI, 8, .inl t_seconds))] sz res.1 [(a_t, .inr (3, [.ref a_t_firsts, .ref a_t_seconds, .int t_size, .int res.2.1, .int res.2.2])), (a_t_firsts, .inl (cI, 8, .inl t_firsts)), (a_t_seconds, .inl (cI, 8, .inl t_seconds))] := by
  refine met_l (cc := cX3_weightOf) (maxL := 7) (by decide) rfl (Nat.le_of_ble_eq_true rfl) ?_
  intro p e s m args below meth c Q A hx hb hml hown hts hK hN hA fin H locs ls hP hD hS hl
  replace hown : s.vm.findClass RX3 = some m.cls := hown
  replace hl : lv_has ls 7 [(0, .ref a_t), (1, .int p1), (2, .int p2), (3, .int p3)] := hl
  rw [f_X3_weightOf] at hf
  have hw18 := hts (.fieldLink RX3 18 "TouchReign$Meetings" "size" "I") (by decide +kernel)
  have hmsX3 := ms_X3_weightOf_X3
  have hcw38 := cwV (R := rm_X3_weightOf) (rm := rm_X3_play) 2 hts gX3_weightOf_X3_play rfl rfl rfl (by decide +kernel) ⟨Nat.le_of_ble_eq_true rfl, Nat.le_of_ble_eq_true rfl⟩
  have hw22 := hts (.fieldLink RX3 22 "TouchReign$Meetings" "king" "I") (by decide +kernel)
  have hcw42 := cwV (R := rm_X3_weightOf) (rm := rm_X3_coinWeight) 2 hts gX3_weightOf_X3_coinWeight rfl rfl rfl (by decide +kernel) ⟨Nat.le_of_ble_eq_true rfl, Nat.le_of_ble_eq_true rfl⟩
  refine lv_lconst (v := 0) hx hb dX3_weightOf_0 (by decide) ?_
  refine lv_lstore (lv' := [(4, .long (0 : Int64)), (0, .ref a_t), (1, .int p1), (2, .int p2), (3, .int p3)]) hx hb dX3_weightOf_1 hl (by decide) rfl (fun ls hl => ?_)
  refine lv_iconst (v := 0) hx hb dX3_weightOf_3 (by decide) ?_
  refine lv_istore (lv' := [(6, .int (0 : Int32)), (4, .long (0 : Int64)), (0, .ref a_t), (1, .int p1), (2, .int p2), (3, .int p3)]) hx hb dX3_weightOf_4 hl (by decide) rfl (fun ls hl => ?_)
  have hX6 : ∀ (x6v4 : Int64) (x6t_king : Int32) (x6t_touched : Int32) (H : Heap) (locs : List Loc) (ls : Array Slot), va_P D vwCl [(a_t, .inr (3, [.ref a_t_firsts, .ref a_t_seconds, .int t_size, .int x6t_king, .int x6t_touched])), (a_t_firsts, .inl (cI, 8, .inl t_firsts)), (a_t_seconds, .inl (cI, 8, .inl t_seconds))] H → va_D A [(a_t, .inr (3, [.ref a_t_firsts, .ref a_t_seconds, .int t_size, .int x6t_king, .int x6t_touched])), (a_t_firsts, .inl (cI, 8, .inl t_firsts)), (a_t_seconds, .inl (cI, 8, .inl t_seconds))] → va_S A s.heap H locs → lv_has ls 7 [(4, .long x6v4)] → f_X3_weightOf_X6 x6v4 x6t_king x6t_touched = some res → W p l e rm_X3_weightOf s m args below meth c H locs 0 0 Q (F0 m 50 ls []) := by
    intro x6v4 x6t_king x6t_touched H locs ls hP hD hS hl hf
    rw [f_X3_weightOf_X6] at hf
    refine lv_lload hx hb dX3_weightOf_50 (lv_at hl 0 rfl) ?_
    obtain rfl := Option.some.inj hf
    exact fin _ _ _ _ dX3_weightOf_52 hP hD hS
  have hL6 : ∀ (n6 : Nat), ∀ (l6v4 : Int64) (l6v6 : Int32) (l6t_king : Int32) (l6t_touched : Int32) (H : Heap) (locs : List Loc) (ls : Array Slot), va_P D vwCl [(a_t, .inr (3, [.ref a_t_firsts, .ref a_t_seconds, .int t_size, .int l6t_king, .int l6t_touched])), (a_t_firsts, .inl (cI, 8, .inl t_firsts)), (a_t_seconds, .inl (cI, 8, .inl t_seconds))] H → va_D A [(a_t, .inr (3, [.ref a_t_firsts, .ref a_t_seconds, .int t_size, .int l6t_king, .int l6t_touched])), (a_t_firsts, .inl (cI, 8, .inl t_firsts)), (a_t_seconds, .inl (cI, 8, .inl t_seconds))] → va_S A s.heap H locs → lv_has ls 7 [(0, .ref a_t), (1, .int p1), (2, .int p2), (3, .int p3), (4, .long l6v4), (6, .int l6v6)] → f_X3_weightOf_L6 t_size t_firsts t_seconds p1 p2 p3 f_X3_weightOf_X6 n6 l6v4 l6v6 l6t_king l6t_touched = some res → W p l e rm_X3_weightOf s m args below meth c H locs 0 0 Q (F0 m 6 ls []) := by
    intro n6
    induction n6 with
    | zero =>
      intro l6v4 l6v6 l6t_king l6t_touched H locs ls hP hD hS hl hf
      rw [f_X3_weightOf_L6] at hf
      cases hf
    | succ n6 ih6 =>
      intro l6v4 l6v6 l6t_king l6t_touched H locs ls hP hD hS hl hf
      rw [f_X3_weightOf_L6] at hf
      refine lv_iload hx hb dX3_weightOf_6 (lv_at hl 5 rfl) ?_
      refine lv_iconst (v := 1) hx hb dX3_weightOf_8 (by decide) ?_
      refine lv_aload_n hx hb dX3_weightOf_9 rfl (lv_at hl 0 rfl) ?_
      refine va_get (D := D) (ci := 3) (v := .int t_size) (C := RX3) (T := TX3) (N := 5) hx hb hts hmsX3 hown hK hP 0 rfl rfl 2 (by decide) hw18 (fun _ h9 => h9) rfl dX3_weightOf_10 ?_
      refine lv_ishl hx hb dX3_weightOf_13 ?_
      refine lv_icmp_ge (tgt := 50) hx hb dX3_weightOf_14 (by decide) (fun hc => ?_) (fun hc => ?_)
      · replace hf := (if_pos hc).symm.trans hf
        exact hX6 l6v4 l6t_king l6t_touched _ _ _ hP hD hS (lv_sub hl [4] rfl) hf
      · replace hf := (if_neg hc).symm.trans hf
        refine lv_aload_n hx hb dX3_weightOf_17 rfl (lv_at hl 0 rfl) ?_
        refine lv_iload_n hx hb dX3_weightOf_18 rfl (lv_at hl 1 rfl) ?_
        refine lv_iload hx hb dX3_weightOf_19 (lv_at hl 5 rfl) ?_
        obtain ⟨x21, hx21, hf⟩ := bd_if hf
        refine cv_v (wr := []) (ws' := [(a_t, .inr (3, [.ref a_t_firsts, .ref a_t_seconds, .int t_size, .int x21.1, .int x21.2])), (a_t_firsts, .inl (cI, 8, .inl t_firsts)), (a_t_seconds, .inl (cI, 8, .inl t_seconds))]) ⟨hx, hb, hml, hown, hts⟩ hcw38 hK hN hP hD hS hA (c_X3_play l D cI cJ cZ cO _ a_t a_t_firsts a_t_seconds t_size l6t_king l6t_touched t_firsts t_seconds p1 l6v6 x21 hx21) (q := (RX3, TX3, 5)) (ci := 3) (q0 := 0) rfl rfl [0, 1, 2] [] [0, 1, 2] rfl rfl rfl rfl (by decide) rfl rfl rfl hl.1 rfl (Nat.le_of_ble_eq_true rfl) dX3_weightOf_21 ⟨Nat.zero_le _, Nat.zero_le _⟩ (fun H locs hP hD hS => ?_)
        refine lv_aload_n hx hb dX3_weightOf_24 rfl (lv_at hl 0 rfl) ?_
        refine va_get (D := D) (ci := 3) (v := .int x21.1) (C := RX3) (T := TX3) (N := 5) hx hb hts hmsX3 hown hK hP 0 rfl rfl 3 (by decide) hw22 (fun _ h9 => h9) rfl dX3_weightOf_25 ?_
        refine lv_iload_n hx hb dX3_weightOf_28 rfl (lv_at hl 2 rfl) ?_
        refine lv_icmp_ne (tgt := 44) hx hb dX3_weightOf_29 (by decide) (fun hc => ?_) (fun hc => ?_)
        · replace hf := (if_neg hc).symm.trans hf
          refine lv_iinc (v := l6v6 + 1) (lv' := [(6, .int (l6v6 + 1)), (0, .ref a_t), (1, .int p1), (2, .int p2), (3, .int p3), (4, .long l6v4)]) hx hb dX3_weightOf_44 hl (k := 5) rfl rfl (by decide) rfl (fun ls hl => ?_)
          refine lv_goto (tgt := 6) hx hb dX3_weightOf_47 (by decide) ?_
          exact ih6 l6v4 (l6v6 + 1) x21.1 x21.2 _ _ _ hP hD hS (lv_sub hl [1, 2, 3, 4, 5, 0] rfl) hf
        · replace hf := (if_pos hc).symm.trans hf
          refine lv_lload hx hb dX3_weightOf_32 (lv_at hl 4 rfl) ?_
          refine lv_aload_n hx hb dX3_weightOf_34 rfl (lv_at hl 0 rfl) ?_
          refine lv_iload hx hb dX3_weightOf_35 (lv_at hl 5 rfl) ?_
          refine lv_iload_n hx hb dX3_weightOf_37 rfl (lv_at hl 3 rfl) ?_
          obtain ⟨x38, hx38, hf⟩ := bd_if hf
          refine cv_l (wr := [(a_t_firsts, .inl (cI, 8, .inl t_firsts)), (a_t_seconds, .inl (cI, 8, .inl t_seconds))]) (ws' := [(a_t, .inr (3, [.ref a_t_firsts, .ref a_t_seconds, .int t_size, .int x21.1, .int x21.2])), (a_t_firsts, .inl (cI, 8, .inl t_firsts)), (a_t_seconds, .inl (cI, 8, .inl t_seconds))]) ⟨hx, hb, hml, hown, hts⟩ hcw42 hK hN hP hD hS hA (c_X3_coinWeight l D cI cJ cZ cO _ a_t a_t_firsts a_t_seconds t_size x21.1 x21.2 l6v6 p3 x38 hx38) (q := (RX3, TX3, 5)) (ci := 3) (q0 := 0) rfl rfl [0] [1, 2] [2, 0, 1] rfl rfl rfl rfl (by decide) rfl rfl rfl hl.1 rfl (Nat.le_of_ble_eq_true rfl) dX3_weightOf_38 ⟨Nat.zero_le _, Nat.zero_le _⟩ (fun H locs hP hD hS => ?_)
          refine lv_ladd hx hb dX3_weightOf_41 ?_
          refine lv_lstore (lv' := [(4, .long (l6v4 + x38)), (0, .ref a_t), (1, .int p1), (2, .int p2), (3, .int p3), (6, .int l6v6)]) hx hb dX3_weightOf_42 hl (by decide) rfl (fun ls hl => ?_)
          refine lv_iinc (v := l6v6 + 1) (lv' := [(6, .int (l6v6 + 1)), (4, .long (l6v4 + x38)), (0, .ref a_t), (1, .int p1), (2, .int p2), (3, .int p3)]) hx hb dX3_weightOf_44 hl (k := 5) rfl rfl (by decide) rfl (fun ls hl => ?_)
          refine lv_goto (tgt := 6) hx hb dX3_weightOf_47 (by decide) ?_
          exact ih6 (l6v4 + x38) (l6v6 + 1) x21.1 x21.2 _ _ _ hP hD hS (lv_sub hl [2, 3, 4, 5, 1, 0] rfl) hf
  exact hL6 5000 (0 : Int64) (0 : Int32) t_king t_touched _ _ _ hP hD hS (lv_sub hl [2, 3, 4, 5, 1, 0] rfl) hf
abbrev rm_X3_weightOfAll : Room := { frames := 0, cells := 0, slots := 0, locals := 0 }
theorem ms_X3_weightOfAll_X3 : ∀ w ∈ u_ws RX3 TX3 5, w ∈ wsX3_weightOfAll := fun w h => List.mem_cons_of_mem _ (List.mem_append_right _ (h))
set_option maxHeartbeats 4000000 in
set_option maxRecDepth 100000 in
theorem c_X3_weightOfAll (l : Launch) (D : va_G) (cI cJ cZ cO : ClassId) (sz : Nat) (a_t : Nat) (a_t_firsts : Nat) (a_t_seconds : Nat) (t_size : Int32) (t_king : Int32) (t_touched : Int32) (res : Int64) (hf : f_X3_weightOfAll t_size = some res) : MetL l yX3_weightOfAll wsX3_weightOfAll rm_X3_weightOfAll [.ref a_t] D (tys4 cI cJ cZ cO) [(a_t, .inr (3, [.ref a_t_firsts, .ref a_t_seconds, .int t_size, .int t_king, .int t_touched]))] sz res [(a_t, .inr (3, [.ref a_t_firsts, .ref a_t_seconds, .int t_size, .int t_king, .int t_touched]))] := by
  refine met_l (cc := cX3_weightOfAll) (maxL := 4) (by decide) rfl (Nat.le_of_ble_eq_true rfl) ?_
  intro p e s m args below meth c Q A hx hb hml hown hts hK hN hA fin H locs ls hP hD hS hl
  replace hown : s.vm.findClass RX3 = some m.cls := hown
  replace hl : lv_has ls 4 [(0, .ref a_t)] := hl
  rw [f_X3_weightOfAll] at hf
  have hw18 := hts (.fieldLink RX3 18 "TouchReign$Meetings" "size" "I") (by decide +kernel)
  have hmsX3 := ms_X3_weightOfAll_X3
  have hc46 := hts (.constantLong RX3 46 (10)) (by decide +kernel)
  refine lv_lconst (v := 1) hx hb dX3_weightOfAll_0 (by decide) ?_
  refine lv_lstore_n (lv' := [(1, .long (1 : Int64)), (0, .ref a_t)]) hx hb dX3_weightOfAll_1 rfl hl (by decide) rfl (fun ls hl => ?_)
  refine lv_iconst (v := 0) hx hb dX3_weightOfAll_2 (by decide) ?_
  refine lv_istore_n (lv' := [(3, .int (0 : Int32)), (1, .long (1 : Int64)), (0, .ref a_t)]) hx hb dX3_weightOfAll_3 rfl hl (by decide) rfl (fun ls hl => ?_)
  have hX4 : ∀ (x4v1 : Int64) (H : Heap) (locs : List Loc) (ls : Array Slot), va_P D vwCl [(a_t, .inr (3, [.ref a_t_firsts, .ref a_t_seconds, .int t_size, .int t_king, .int t_touched]))] H → va_D A [(a_t, .inr (3, [.ref a_t_firsts, .ref a_t_seconds, .int t_size, .int t_king, .int t_touched]))] → va_S A s.heap H locs → lv_has ls 4 [(1, .long x4v1)] → f_X3_weightOfAll_X4 x4v1 = some res → W p l e rm_X3_weightOfAll s m args below meth c H locs 0 0 Q (F0 m 24 ls []) := by
    intro x4v1 H locs ls hP hD hS hl hf
    rw [f_X3_weightOfAll_X4] at hf
    refine lv_lload_n hx hb dX3_weightOfAll_24 rfl (lv_at hl 0 rfl) ?_
    obtain rfl := Option.some.inj hf
    exact fin _ _ _ _ dX3_weightOfAll_25 hP hD hS
  have hL4 : ∀ (n4 : Nat), ∀ (l4v1 : Int64) (l4v3 : Int32) (H : Heap) (locs : List Loc) (ls : Array Slot), va_P D vwCl [(a_t, .inr (3, [.ref a_t_firsts, .ref a_t_seconds, .int t_size, .int t_king, .int t_touched]))] H → va_D A [(a_t, .inr (3, [.ref a_t_firsts, .ref a_t_seconds, .int t_size, .int t_king, .int t_touched]))] → va_S A s.heap H locs → lv_has ls 4 [(0, .ref a_t), (1, .long l4v1), (3, .int l4v3)] → f_X3_weightOfAll_L4 t_size f_X3_weightOfAll_X4 n4 l4v1 l4v3 = some res → W p l e rm_X3_weightOfAll s m args below meth c H locs 0 0 Q (F0 m 4 ls []) := by
    intro n4
    induction n4 with
    | zero =>
      intro l4v1 l4v3 H locs ls hP hD hS hl hf
      rw [f_X3_weightOfAll_L4] at hf
      cases hf
    | succ n4 ih4 =>
      intro l4v1 l4v3 H locs ls hP hD hS hl hf
      rw [f_X3_weightOfAll_L4] at hf
      refine lv_iload_n hx hb dX3_weightOfAll_4 rfl (lv_at hl 2 rfl) ?_
      refine lv_aload_n hx hb dX3_weightOfAll_5 rfl (lv_at hl 0 rfl) ?_
      refine va_get (D := D) (ci := 3) (v := .int t_size) (C := RX3) (T := TX3) (N := 5) hx hb hts hmsX3 hown hK hP 0 rfl rfl 2 (by decide) hw18 (fun _ h9 => h9) rfl dX3_weightOfAll_6 ?_
      refine lv_icmp_ge (tgt := 24) hx hb dX3_weightOfAll_9 (by decide) (fun hc => ?_) (fun hc => ?_)
      · replace hf := (if_pos hc).symm.trans hf
        exact hX4 l4v1 _ _ _ hP hD hS (lv_sub hl [1] rfl) hf
      · replace hf := (if_neg hc).symm.trans hf
        refine lv_lload_n hx hb dX3_weightOfAll_12 rfl (lv_at hl 1 rfl) ?_
        refine lv_ldc2 (v := 10) hx hb hown hc46 dX3_weightOfAll_13 ?_
        refine lv_lmul hx hb dX3_weightOfAll_16 ?_
        refine lv_lstore_n (lv' := [(1, .long (l4v1 * (10 : Int64))), (0, .ref a_t), (3, .int l4v3)]) hx hb dX3_weightOfAll_17 rfl hl (by decide) rfl (fun ls hl => ?_)
        refine lv_iinc (v := l4v3 + 1) (lv' := [(3, .int (l4v3 + 1)), (1, .long (l4v1 * (10 : Int64))), (0, .ref a_t)]) hx hb dX3_weightOfAll_18 hl (k := 2) rfl rfl (by decide) rfl (fun ls hl => ?_)
        refine lv_goto (tgt := 4) hx hb dX3_weightOfAll_21 (by decide) ?_
        exact ih4 (l4v1 * (10 : Int64)) (l4v3 + 1) _ _ _ hP hD hS (lv_sub hl [2, 1, 0] rfl) hf
  exact hL4 5000 (1 : Int64) (0 : Int32) _ _ _ hP hD hS (lv_sub hl [2, 1, 0] rfl) hf
abbrev rm_X4_write : Room := { frames := 0, cells := 0, slots := 0, locals := 0 }
theorem ms_X4_write_X4 : ∀ w ∈ u_ws RX4 TX4 2, w ∈ wsX4_write := fun w h => List.mem_cons_of_mem _ (List.mem_append_right _ (h))
set_option maxHeartbeats 4000000 in
set_option maxRecDepth 100000 in
theorem c_X4_write (l : Launch) (D : va_G) (cI cJ cZ cO : ClassId) (sz : Nat) (a_t : Nat) (a_t_signs : Nat) (t_size : Int32) (t_signs : Nat → Int32) (p1 : Int32) (res : Int32 × Int32 × (Nat → Int32)) (hf : f_X4_write t_size t_signs p1 = some res) : MetI l yX4_write wsX4_write rm_X4_write [.ref a_t, .int p1] D (tys4 cI cJ cZ cO) [(a_t, .inr (4, [.ref a_t_signs, .int t_size])), (a_t_signs, .inl (cI, 60, .inl t_signs))] sz res.1 [(a_t, .inr (4, [.ref a_t_signs, .int res.2.1])), (a_t_signs, .inl (cI, 60, .inl res.2.2))] := by
  refine met_z (cc := cX4_write) (maxL := 2) (by decide) rfl (Nat.le_of_ble_eq_true rfl) ?_
  intro p e s m args below meth c Q A hx hb hml hown hts hK hN hA fin H locs ls hP hD hS hl
  replace hown : s.vm.findClass RX4 = some m.cls := hown
  replace hl : lv_has ls 2 [(0, .ref a_t), (1, .int p1)] := hl
  rw [f_X4_write] at hf
  have hw15 := hts (.fieldLink RX4 15 "TouchReign$Pad" "size" "I") (by decide +kernel)
  have hmsX4 := ms_X4_write_X4
  have hw9 := hts (.fieldLink RX4 9 "TouchReign$Pad" "signs" "[I") (by decide +kernel)
  refine lv_aload_n hx hb dX4_write_0 rfl (lv_at hl 0 rfl) ?_
  refine va_get (D := D) (ci := 4) (v := .int t_size) (C := RX4) (T := TX4) (N := 2) hx hb hts hmsX4 hown hK hP 0 rfl rfl 1 (by decide) hw15 (fun _ h9 => h9) rfl dX4_write_1 ?_
  refine lv_if_lt (tgt := 16) hx hb dX4_write_4 (by decide) (fun hc => ?_) (fun hc => ?_)
  · replace hf := (if_pos hc).symm.trans hf
    refine lv_iconst (v := 0) hx hb dX4_write_16 (by decide) ?_
    obtain rfl := Option.some.inj hf
    exact fin _ _ _ _ nb_0 dX4_write_17 hP hD hS
  · replace hf := (if_neg hc).symm.trans hf
    refine lv_aload_n hx hb dX4_write_7 rfl (lv_at hl 0 rfl) ?_
    refine va_get (D := D) (ci := 4) (v := .int t_size) (C := RX4) (T := TX4) (N := 2) hx hb hts hmsX4 hown hK hP 0 rfl rfl 1 (by decide) hw15 (fun _ h9 => h9) rfl dX4_write_8 ?_
    refine lv_bipush (v := 60) hx hb dX4_write_11 (by decide) ?_
    refine lv_icmp_lt (tgt := 18) hx hb dX4_write_13 (by decide) (fun hc => ?_) (fun hc => ?_)
    · replace hf := (if_pos hc).symm.trans hf
      refine lv_aload_n hx hb dX4_write_18 rfl (lv_at hl 0 rfl) ?_
      refine va_get (D := D) (ci := 4) (v := .ref a_t_signs) (C := RX4) (T := TX4) (N := 2) hx hb hts hmsX4 hown hK hP 0 rfl rfl 0 (by decide) hw9 (fun _ h9 => h9) rfl dX4_write_19 ?_
      refine lv_aload_n hx hb dX4_write_22 rfl (lv_at hl 0 rfl) ?_
      refine va_get (D := D) (ci := 4) (v := .int t_size) (C := RX4) (T := TX4) (N := 2) hx hb hts hmsX4 hown hK hP 0 rfl rfl 1 (by decide) hw15 (fun _ h9 => h9) rfl dX4_write_23 ?_
      refine lv_iload_n hx hb dX4_write_26 rfl (lv_at hl 1 rfl) ?_
      obtain ⟨hi27, hf⟩ := ix_if hf
      refine va_iast (D := D) hx hb hK hP hD hS 1 0 rfl rfl hi27 dX4_write_27 (fun H locs hP hD hS => ?_)
      replace hP : va_P D vwCl [(a_t, .inr (4, [.ref a_t_signs, .int t_size])), (a_t_signs, .inl (cI, 60, .inl (upd t_signs t_size.toNatClampNeg p1)))] H := hP
      replace hD : va_D A [(a_t, .inr (4, [.ref a_t_signs, .int t_size])), (a_t_signs, .inl (cI, 60, .inl (upd t_signs t_size.toNatClampNeg p1)))] := hD
      refine lv_aload_n hx hb dX4_write_28 rfl (lv_at hl 0 rfl) ?_
      refine lv_dup hx hb dX4_write_29 rfl ?_
      refine va_get (D := D) (ci := 4) (v := .int t_size) (C := RX4) (T := TX4) (N := 2) hx hb hts hmsX4 hown hK hP 0 rfl rfl 1 (by decide) hw15 (fun _ h9 => h9) rfl dX4_write_30 ?_
      refine lv_iconst (v := 1) hx hb dX4_write_33 (by decide) ?_
      refine lv_iadd hx hb dX4_write_34 ?_
      refine va_put (D := D) (ci := 4) (v := .int (t_size + (1 : Int32))) (ty := .int) (C := RX4) (T := TX4) (N := 2) hx hb hts hmsX4 tyX4 tyX4_ok nmX4 hown hK hP hD hS 0 rfl rfl 1 (by decide) hw15 (fun _ h9 => h9) rfl (by decide +kernel) rfl rfl (Nat.le_of_ble_eq_true rfl) dX4_write_35 (fun H locs hP hD hS => ?_)
      replace hP : va_P D vwCl [(a_t, .inr (4, [.ref a_t_signs, .int (t_size + (1 : Int32))])), (a_t_signs, .inl (cI, 60, .inl (upd t_signs t_size.toNatClampNeg p1)))] H := hP
      replace hD : va_D A [(a_t, .inr (4, [.ref a_t_signs, .int (t_size + (1 : Int32))])), (a_t_signs, .inl (cI, 60, .inl (upd t_signs t_size.toNatClampNeg p1)))] := hD
      refine lv_iconst (v := 1) hx hb dX4_write_38 (by decide) ?_
      obtain rfl := Option.some.inj hf
      exact fin _ _ _ _ nb_1 dX4_write_39 hP hD hS
    · replace hf := (if_neg hc).symm.trans hf
      refine lv_iconst (v := 0) hx hb dX4_write_16 (by decide) ?_
      obtain rfl := Option.some.inj hf
      exact fin _ _ _ _ nb_0 dX4_write_17 hP hD hS
abbrev rm_X4_signAt : Room := { frames := 0, cells := 0, slots := 0, locals := 0 }
theorem ms_X4_signAt_X4 : ∀ w ∈ u_ws RX4 TX4 2, w ∈ wsX4_signAt := fun w h => List.mem_cons_of_mem _ (List.mem_append_right _ (h))
set_option maxHeartbeats 4000000 in
set_option maxRecDepth 100000 in
theorem c_X4_signAt (l : Launch) (D : va_G) (cI cJ cZ cO : ClassId) (sz : Nat) (a_t : Nat) (a_t_signs : Nat) (t_size : Int32) (t_signs : Nat → Int32) (p1 : Int32) (res : Int32) (hf : f_X4_signAt t_size t_signs p1 = some res) : MetI l yX4_signAt wsX4_signAt rm_X4_signAt [.ref a_t, .int p1] D (tys4 cI cJ cZ cO) [(a_t, .inr (4, [.ref a_t_signs, .int t_size])), (a_t_signs, .inl (cI, 60, .inl t_signs))] sz res [(a_t, .inr (4, [.ref a_t_signs, .int t_size])), (a_t_signs, .inl (cI, 60, .inl t_signs))] := by
  refine met_i (cc := cX4_signAt) (maxL := 2) (by decide) rfl (Nat.le_of_ble_eq_true rfl) ?_
  intro p e s m args below meth c Q A hx hb hml hown hts hK hN hA fin H locs ls hP hD hS hl
  replace hown : s.vm.findClass RX4 = some m.cls := hown
  replace hl : lv_has ls 2 [(0, .ref a_t), (1, .int p1)] := hl
  rw [f_X4_signAt] at hf
  have hw15 := hts (.fieldLink RX4 15 "TouchReign$Pad" "size" "I") (by decide +kernel)
  have hmsX4 := ms_X4_signAt_X4
  have hw9 := hts (.fieldLink RX4 9 "TouchReign$Pad" "signs" "[I") (by decide +kernel)
  refine lv_iload_n hx hb dX4_signAt_0 rfl (lv_at hl 1 rfl) ?_
  refine lv_if_lt (tgt := 27) hx hb dX4_signAt_1 (by decide) (fun hc => ?_) (fun hc => ?_)
  · replace hf := (if_pos hc).symm.trans hf
    refine lv_iconst (v := 0) hx hb dX4_signAt_27 (by decide) ?_
    obtain rfl := Option.some.inj hf
    exact fin _ _ _ _ dX4_signAt_28 hP hD hS
  · replace hf := (if_neg hc).symm.trans hf
    refine lv_iload_n hx hb dX4_signAt_4 rfl (lv_at hl 1 rfl) ?_
    refine lv_aload_n hx hb dX4_signAt_5 rfl (lv_at hl 0 rfl) ?_
    refine va_get (D := D) (ci := 4) (v := .int t_size) (C := RX4) (T := TX4) (N := 2) hx hb hts hmsX4 hown hK hP 0 rfl rfl 1 (by decide) hw15 (fun _ h9 => h9) rfl dX4_signAt_6 ?_
    refine lv_icmp_ge (tgt := 27) hx hb dX4_signAt_9 (by decide) (fun hc => ?_) (fun hc => ?_)
    · replace hf := (if_pos hc).symm.trans hf
      refine lv_iconst (v := 0) hx hb dX4_signAt_27 (by decide) ?_
      obtain rfl := Option.some.inj hf
      exact fin _ _ _ _ dX4_signAt_28 hP hD hS
    · replace hf := (if_neg hc).symm.trans hf
      refine lv_iload_n hx hb dX4_signAt_12 rfl (lv_at hl 1 rfl) ?_
      refine lv_bipush (v := 60) hx hb dX4_signAt_13 (by decide) ?_
      refine lv_icmp_ge (tgt := 27) hx hb dX4_signAt_15 (by decide) (fun hc => ?_) (fun hc => ?_)
      · replace hf := (if_pos hc).symm.trans hf
        refine lv_iconst (v := 0) hx hb dX4_signAt_27 (by decide) ?_
        obtain rfl := Option.some.inj hf
        exact fin _ _ _ _ dX4_signAt_28 hP hD hS
      · replace hf := (if_neg hc).symm.trans hf
        refine lv_aload_n hx hb dX4_signAt_18 rfl (lv_at hl 0 rfl) ?_
        refine va_get (D := D) (ci := 4) (v := .ref a_t_signs) (C := RX4) (T := TX4) (N := 2) hx hb hts hmsX4 hown hK hP 0 rfl rfl 0 (by decide) hw9 (fun _ h9 => h9) rfl dX4_signAt_19 ?_
        refine lv_iload_n hx hb dX4_signAt_22 rfl (lv_at hl 1 rfl) ?_
        obtain ⟨hi23, hf⟩ := ix_if hf
        refine va_iald (D := D) hx hb hK hP 1 0 rfl rfl hi23 dX4_signAt_23 ?_
        refine lv_goto (tgt := 28) hx hb dX4_signAt_24 (by decide) ?_
        obtain rfl := Option.some.inj hf
        exact fin _ _ _ _ dX4_signAt_28 hP hD hS
abbrev rm_X4_stateBehind : Room := { frames := 0, cells := 0, slots := 0, locals := 0 }
set_option maxHeartbeats 4000000 in
set_option maxRecDepth 100000 in
theorem c_X4_stateBehind (l : Launch) (D : va_G) (cI cJ cZ cO : ClassId) (sz : Nat) (p0 : Int32) (p1 : Int32) (res : Int32) (hf : f_X4_stateBehind p0 p1 = some res) : MetI l yX4_stateBehind wsX4_stateBehind rm_X4_stateBehind [.int p0, .int p1] D (tys4 cI cJ cZ cO) [] sz res [] := by
  refine met_i (cc := cX4_stateBehind) (maxL := 3) (by decide) rfl (Nat.le_of_ble_eq_true rfl) ?_
  intro p e s m args below meth c Q A hx hb hml hown hts hK hN hA fin H locs ls hP hD hS hl
  replace hown : s.vm.findClass RX4 = some m.cls := hown
  replace hl : lv_has ls 3 [(0, .int p0), (1, .int p1)] := hl
  rw [f_X4_stateBehind] at hf
  refine lv_iload_n hx hb dX4_stateBehind_0 rfl (lv_at hl 1 rfl) ?_
  refine lv_bipush (v := 65) hx hb dX4_stateBehind_1 (by decide) ?_
  have hB17 : ∀ (b17s0 : Int32) (H : Heap) (locs : List Loc) (ls : Array Slot), va_P D vwCl [] H → va_D A [] → va_S A s.heap H locs → lv_has ls 3 [(0, .int p0), (1, .int p1)] → f_X4_stateBehind_B17 p0 p1 b17s0 = some res → W p l e rm_X4_stateBehind s m args below meth c H locs 0 0 Q (F0 m 17 ls [.int b17s0]) := by
    intro b17s0 H locs ls hP hD hS hl hf
    rw [f_X4_stateBehind_B17] at hf
    refine lv_istore_n (lv' := [(2, .int b17s0), (0, .int p0), (1, .int p1)]) hx hb dX4_stateBehind_17 rfl hl (by decide) rfl (fun ls hl => ?_)
    refine lv_iload_n hx hb dX4_stateBehind_18 rfl (lv_at hl 1 rfl) ?_
    refine lv_iconst (v := 2) hx hb dX4_stateBehind_19 (by decide) ?_
    refine lv_icmp_ne (tgt := 33) hx hb dX4_stateBehind_20 (by decide) (fun hc => ?_) (fun hc => ?_)
    · replace hf := (if_neg hc).symm.trans hf
      refine lv_iload_n hx hb dX4_stateBehind_33 rfl (lv_at hl 1 rfl) ?_
      refine lv_if_ne (tgt := 55) hx hb dX4_stateBehind_34 (by decide) (fun hc => ?_) (fun hc => ?_)
      · replace hf := (if_neg hc).symm.trans hf
        refine lv_iload_n hx hb dX4_stateBehind_55 rfl (lv_at hl 2 rfl) ?_
        refine lv_bipush (v := 62) hx hb dX4_stateBehind_56 (by decide) ?_
        refine lv_icmp_ne (tgt := 63) hx hb dX4_stateBehind_58 (by decide) (fun hc => ?_) (fun hc => ?_)
        · replace hf := (if_neg hc).symm.trans hf
          refine lv_iload_n hx hb dX4_stateBehind_63 rfl (lv_at hl 2 rfl) ?_
          refine lv_bipush (v := 43) hx hb dX4_stateBehind_64 (by decide) ?_
          refine lv_icmp_eq (tgt := 75) hx hb dX4_stateBehind_66 (by decide) (fun hc => ?_) (fun hc => ?_)
          · replace hf := (if_pos hc).symm.trans hf
            refine lv_iconst (v := 0) hx hb dX4_stateBehind_75 (by decide) ?_
            obtain rfl := Option.some.inj hf
            exact fin _ _ _ _ dX4_stateBehind_76 hP hD hS
          · replace hf := (if_neg hc).symm.trans hf
            refine lv_iload_n hx hb dX4_stateBehind_69 rfl (lv_at hl 2 rfl) ?_
            refine lv_bipush (v := 42) hx hb dX4_stateBehind_70 (by decide) ?_
            refine lv_icmp_ne (tgt := 77) hx hb dX4_stateBehind_72 (by decide) (fun hc => ?_) (fun hc => ?_)
            · replace hf := (if_neg hc).symm.trans hf
              refine lv_iload_n hx hb dX4_stateBehind_77 rfl (lv_at hl 2 rfl) ?_
              refine lv_bipush (v := 97) hx hb dX4_stateBehind_78 (by decide) ?_
              refine lv_icmp_lt (tgt := 93) hx hb dX4_stateBehind_80 (by decide) (fun hc => ?_) (fun hc => ?_)
              · replace hf := (if_pos hc).symm.trans hf
                refine lv_iconst (v := 3) hx hb dX4_stateBehind_93 (by decide) ?_
                obtain rfl := Option.some.inj hf
                exact fin _ _ _ _ dX4_stateBehind_94 hP hD hS
              · replace hf := (if_neg hc).symm.trans hf
                refine lv_iload_n hx hb dX4_stateBehind_83 rfl (lv_at hl 2 rfl) ?_
                refine lv_bipush (v := 109) hx hb dX4_stateBehind_84 (by decide) ?_
                refine lv_icmp_ge (tgt := 93) hx hb dX4_stateBehind_86 (by decide) (fun hc => ?_) (fun hc => ?_)
                · replace hf := (if_pos hc).symm.trans hf
                  refine lv_iconst (v := 3) hx hb dX4_stateBehind_93 (by decide) ?_
                  obtain rfl := Option.some.inj hf
                  exact fin _ _ _ _ dX4_stateBehind_94 hP hD hS
                · replace hf := (if_neg hc).symm.trans hf
                  refine lv_iconst (v := 0) hx hb dX4_stateBehind_89 (by decide) ?_
                  refine lv_goto (tgt := 94) hx hb dX4_stateBehind_90 (by decide) ?_
                  obtain rfl := Option.some.inj hf
                  exact fin _ _ _ _ dX4_stateBehind_94 hP hD hS
            · replace hf := (if_pos hc).symm.trans hf
              refine lv_iconst (v := 0) hx hb dX4_stateBehind_75 (by decide) ?_
              obtain rfl := Option.some.inj hf
              exact fin _ _ _ _ dX4_stateBehind_76 hP hD hS
        · replace hf := (if_pos hc).symm.trans hf
          refine lv_iconst (v := 2) hx hb dX4_stateBehind_61 (by decide) ?_
          obtain rfl := Option.some.inj hf
          exact fin _ _ _ _ dX4_stateBehind_62 hP hD hS
      · replace hf := (if_pos hc).symm.trans hf
        refine lv_iload_n hx hb dX4_stateBehind_37 rfl (lv_at hl 2 rfl) ?_
        refine lv_bipush (v := 46) hx hb dX4_stateBehind_38 (by decide) ?_
        refine lv_icmp_ne (tgt := 45) hx hb dX4_stateBehind_40 (by decide) (fun hc => ?_) (fun hc => ?_)
        · replace hf := (if_neg hc).symm.trans hf
          refine lv_iload_n hx hb dX4_stateBehind_45 rfl (lv_at hl 0 rfl) ?_
          refine lv_if_eq (tgt := 53) hx hb dX4_stateBehind_46 (by decide) (fun hc => ?_) (fun hc => ?_)
          · replace hf := (if_pos hc).symm.trans hf
            refine lv_iconst (v := 3) hx hb dX4_stateBehind_53 (by decide) ?_
            obtain rfl := Option.some.inj hf
            exact fin _ _ _ _ dX4_stateBehind_54 hP hD hS
          · replace hf := (if_neg hc).symm.trans hf
            refine lv_iconst (v := 1) hx hb dX4_stateBehind_49 (by decide) ?_
            refine lv_goto (tgt := 54) hx hb dX4_stateBehind_50 (by decide) ?_
            obtain rfl := Option.some.inj hf
            exact fin _ _ _ _ dX4_stateBehind_54 hP hD hS
        · replace hf := (if_pos hc).symm.trans hf
          refine lv_iconst (v := 0) hx hb dX4_stateBehind_43 (by decide) ?_
          obtain rfl := Option.some.inj hf
          exact fin _ _ _ _ dX4_stateBehind_44 hP hD hS
    · replace hf := (if_pos hc).symm.trans hf
      refine lv_iload_n hx hb dX4_stateBehind_23 rfl (lv_at hl 0 rfl) ?_
      refine lv_if_eq (tgt := 31) hx hb dX4_stateBehind_24 (by decide) (fun hc => ?_) (fun hc => ?_)
      · replace hf := (if_pos hc).symm.trans hf
        refine lv_iconst (v := 3) hx hb dX4_stateBehind_31 (by decide) ?_
        obtain rfl := Option.some.inj hf
        exact fin _ _ _ _ dX4_stateBehind_32 hP hD hS
      · replace hf := (if_neg hc).symm.trans hf
        refine lv_iconst (v := 0) hx hb dX4_stateBehind_27 (by decide) ?_
        refine lv_goto (tgt := 32) hx hb dX4_stateBehind_28 (by decide) ?_
        obtain rfl := Option.some.inj hf
        exact fin _ _ _ _ dX4_stateBehind_32 hP hD hS
  have hB16 : ∀ (H : Heap) (locs : List Loc) (ls : Array Slot), va_P D vwCl [] H → va_D A [] → va_S A s.heap H locs → lv_has ls 3 [(0, .int p0), (1, .int p1)] → f_X4_stateBehind_B16 p0 p1 = some res → W p l e rm_X4_stateBehind s m args below meth c H locs 0 0 Q (F0 m 16 ls []) := by
    intro  H locs ls hP hD hS hl hf
    rw [f_X4_stateBehind_B16] at hf
    refine lv_iconst (v := 0) hx hb dX4_stateBehind_16 (by decide) ?_
    exact hB17 (0 : Int32) _ _ _ hP hD hS (lv_sub hl [0, 1] rfl) hf
  refine lv_icmp_lt (tgt := 16) hx hb dX4_stateBehind_3 (by decide) (fun hc => ?_) (fun hc => ?_)
  · replace hf := (if_pos hc).symm.trans hf
    exact hB16 _ _ _ hP hD hS (lv_sub hl [0, 1] rfl) hf
  · replace hf := (if_neg hc).symm.trans hf
    refine lv_iload_n hx hb dX4_stateBehind_6 rfl (lv_at hl 1 rfl) ?_
    refine lv_bipush (v := 72) hx hb dX4_stateBehind_7 (by decide) ?_
    refine lv_icmp_ge (tgt := 16) hx hb dX4_stateBehind_9 (by decide) (fun hc => ?_) (fun hc => ?_)
    · replace hf := (if_pos hc).symm.trans hf
      exact hB16 _ _ _ hP hD hS (lv_sub hl [0, 1] rfl) hf
    · replace hf := (if_neg hc).symm.trans hf
      refine lv_iconst (v := 1) hx hb dX4_stateBehind_12 (by decide) ?_
      refine lv_goto (tgt := 17) hx hb dX4_stateBehind_13 (by decide) ?_
      exact hB17 (1 : Int32) _ _ _ hP hD hS (lv_sub hl [0, 1] rfl) hf
abbrev rm_X4_firstFault : Room := { frames := 1, cells := 0, slots := 0, locals := 22 }
theorem ms_X4_firstFault_X4 : ∀ w ∈ u_ws RX4 TX4 2, w ∈ wsX4_firstFault := fun w h => List.mem_cons_of_mem _ (List.mem_append_right _ (h))
set_option maxHeartbeats 4000000 in
set_option maxRecDepth 100000 in
theorem c_X4_firstFault (l : Launch) (D : va_G) (cI cJ cZ cO : ClassId) (sz : Nat) (a_t : Nat) (a_t_signs : Nat) (t_size : Int32) (t_signs : Nat → Int32) (res : Int32) (hf : f_X4_firstFault t_size t_signs = some res) : MetI l yX4_firstFault wsX4_firstFault rm_X4_firstFault [.ref a_t] D (tys4 cI cJ cZ cO) [(a_t, .inr (4, [.ref a_t_signs, .int t_size])), (a_t_signs, .inl (cI, 60, .inl t_signs))] sz res [(a_t, .inr (4, [.ref a_t_signs, .int t_size])), (a_t_signs, .inl (cI, 60, .inl t_signs))] := by
  refine met_i (cc := cX4_firstFault) (maxL := 3) (by decide) rfl (Nat.le_of_ble_eq_true rfl) ?_
  intro p e s m args below meth c Q A hx hb hml hown hts hK hN hA fin H locs ls hP hD hS hl
  replace hown : s.vm.findClass RX4 = some m.cls := hown
  replace hl : lv_has ls 3 [(0, .ref a_t)] := hl
  rw [f_X4_firstFault] at hf
  have hw15 := hts (.fieldLink RX4 15 "TouchReign$Pad" "size" "I") (by decide +kernel)
  have hmsX4 := ms_X4_firstFault_X4
  have hcw19 := cwV (R := rm_X4_firstFault) (rm := rm_X4_signAt) 1 hts gX4_firstFault_X4_signAt rfl rfl rfl (by decide +kernel) ⟨Nat.le_of_ble_eq_true rfl, Nat.le_of_ble_eq_true rfl⟩
  have hcw23 := va_cwS (R := rm_X4_firstFault) (rm := rm_X4_stateBehind) 2 hts gX4_firstFault_X4_stateBehind rfl rfl rfl (by decide +kernel) ⟨Nat.le_of_ble_eq_true rfl, Nat.le_of_ble_eq_true rfl⟩
  refine lv_iconst (v := 0) hx hb dX4_firstFault_0 (by decide) ?_
  refine lv_istore_n (lv' := [(1, .int (0 : Int32)), (0, .ref a_t)]) hx hb dX4_firstFault_1 rfl hl (by decide) rfl (fun ls hl => ?_)
  refine lv_iconst (v := 0) hx hb dX4_firstFault_2 (by decide) ?_
  refine lv_istore_n (lv' := [(2, .int (0 : Int32)), (1, .int (0 : Int32)), (0, .ref a_t)]) hx hb dX4_firstFault_3 rfl hl (by decide) rfl (fun ls hl => ?_)
  have hX4 : ∀ (x4v1 : Int32) (H : Heap) (locs : List Loc) (ls : Array Slot), va_P D vwCl [(a_t, .inr (4, [.ref a_t_signs, .int t_size])), (a_t_signs, .inl (cI, 60, .inl t_signs))] H → va_D A [(a_t, .inr (4, [.ref a_t_signs, .int t_size])), (a_t_signs, .inl (cI, 60, .inl t_signs))] → va_S A s.heap H locs → lv_has ls 3 [(0, .ref a_t), (1, .int x4v1)] → f_X4_firstFault_X4 t_size x4v1 = some res → W p l e rm_X4_firstFault s m args below meth c H locs 0 0 Q (F0 m 35 ls []) := by
    intro x4v1 H locs ls hP hD hS hl hf
    rw [f_X4_firstFault_X4] at hf
    refine lv_iload_n hx hb dX4_firstFault_35 rfl (lv_at hl 1 rfl) ?_
    refine lv_if_ne (tgt := 44) hx hb dX4_firstFault_36 (by decide) (fun hc => ?_) (fun hc => ?_)
    · replace hf := (if_neg hc).symm.trans hf
      refine lv_aload_n hx hb dX4_firstFault_44 rfl (lv_at hl 0 rfl) ?_
      refine va_get (D := D) (ci := 4) (v := .int t_size) (C := RX4) (T := TX4) (N := 2) hx hb hts hmsX4 hown hK hP 0 rfl rfl 1 (by decide) hw15 (fun _ h9 => h9) rfl dX4_firstFault_45 ?_
      obtain rfl := Option.some.inj hf
      exact fin _ _ _ _ dX4_firstFault_48 hP hD hS
    · replace hf := (if_pos hc).symm.trans hf
      refine lv_bipush (v := -6) hx hb dX4_firstFault_39 (by decide) ?_
      refine lv_goto (tgt := 48) hx hb dX4_firstFault_41 (by decide) ?_
      obtain rfl := Option.some.inj hf
      exact fin _ _ _ _ dX4_firstFault_48 hP hD hS
  have hL4 : ∀ (n4 : Nat), ∀ (l4v1 : Int32) (l4v2 : Int32) (H : Heap) (locs : List Loc) (ls : Array Slot), va_P D vwCl [(a_t, .inr (4, [.ref a_t_signs, .int t_size])), (a_t_signs, .inl (cI, 60, .inl t_signs))] H → va_D A [(a_t, .inr (4, [.ref a_t_signs, .int t_size])), (a_t_signs, .inl (cI, 60, .inl t_signs))] → va_S A s.heap H locs → lv_has ls 3 [(0, .ref a_t), (1, .int l4v1), (2, .int l4v2)] → f_X4_firstFault_L4 t_size t_signs (f_X4_firstFault_X4 t_size) n4 l4v1 l4v2 = some res → W p l e rm_X4_firstFault s m args below meth c H locs 0 0 Q (F0 m 4 ls []) := by
    intro n4
    induction n4 with
    | zero =>
      intro l4v1 l4v2 H locs ls hP hD hS hl hf
      rw [f_X4_firstFault_L4] at hf
      cases hf
    | succ n4 ih4 =>
      intro l4v1 l4v2 H locs ls hP hD hS hl hf
      rw [f_X4_firstFault_L4] at hf
      refine lv_iload_n hx hb dX4_firstFault_4 rfl (lv_at hl 2 rfl) ?_
      refine lv_aload_n hx hb dX4_firstFault_5 rfl (lv_at hl 0 rfl) ?_
      refine va_get (D := D) (ci := 4) (v := .int t_size) (C := RX4) (T := TX4) (N := 2) hx hb hts hmsX4 hown hK hP 0 rfl rfl 1 (by decide) hw15 (fun _ h9 => h9) rfl dX4_firstFault_6 ?_
      refine lv_icmp_ge (tgt := 35) hx hb dX4_firstFault_9 (by decide) (fun hc => ?_) (fun hc => ?_)
      · replace hf := (if_pos hc).symm.trans hf
        exact hX4 l4v1 _ _ _ hP hD hS (lv_sub hl [0, 1] rfl) hf
      · replace hf := (if_neg hc).symm.trans hf
        refine lv_iload_n hx hb dX4_firstFault_12 rfl (lv_at hl 1 rfl) ?_
        refine lv_aload_n hx hb dX4_firstFault_13 rfl (lv_at hl 0 rfl) ?_
        refine lv_iload_n hx hb dX4_firstFault_14 rfl (lv_at hl 2 rfl) ?_
        obtain ⟨x15, hx15, hf⟩ := bd_if hf
        refine cv_i (wr := []) (ws' := [(a_t, .inr (4, [.ref a_t_signs, .int t_size])), (a_t_signs, .inl (cI, 60, .inl t_signs))]) ⟨hx, hb, hml, hown, hts⟩ hcw19 hK hN hP hD hS hA (c_X4_signAt l D cI cJ cZ cO _ a_t a_t_signs t_size t_signs l4v2 x15 hx15) (q := (RX4, TX4, 2)) (ci := 4) (q0 := 0) rfl rfl [0, 1] [] [0, 1] rfl rfl rfl rfl (by decide) rfl rfl rfl hl.1 rfl (Nat.le_of_ble_eq_true rfl) dX4_firstFault_15 ⟨Nat.zero_le _, Nat.zero_le _⟩ (fun H locs hP hD hS => ?_)
        obtain ⟨x18, hx18, hf⟩ := bd_if hf
        refine cs_i (wr := [(a_t, .inr (4, [.ref a_t_signs, .int t_size])), (a_t_signs, .inl (cI, 60, .inl t_signs))]) (ws' := [(a_t, .inr (4, [.ref a_t_signs, .int t_size])), (a_t_signs, .inl (cI, 60, .inl t_signs))]) ⟨hx, hb, hml, hown, hts⟩ hcw23 hK hN hP hD hS hA (c_X4_stateBehind l D cI cJ cZ cO _ l4v1 x15 x18 hx18) [] [0, 1] [0, 1] rfl rfl rfl rfl (by decide) rfl rfl rfl hl.1 rfl (Nat.le_of_ble_eq_true rfl) dX4_firstFault_18 ⟨Nat.zero_le _, Nat.zero_le _⟩ (fun H locs hP hD hS => ?_)
        refine lv_istore_n (lv' := [(1, .int x18), (0, .ref a_t), (2, .int l4v2)]) hx hb dX4_firstFault_21 rfl hl (by decide) rfl (fun ls hl => ?_)
        refine lv_iload_n hx hb dX4_firstFault_22 rfl (lv_at hl 0 rfl) ?_
        refine lv_iconst (v := 3) hx hb dX4_firstFault_23 (by decide) ?_
        refine lv_icmp_ne (tgt := 29) hx hb dX4_firstFault_24 (by decide) (fun hc => ?_) (fun hc => ?_)
        · replace hf := (if_neg hc).symm.trans hf
          refine lv_iinc (v := l4v2 + 1) (lv' := [(2, .int (l4v2 + 1)), (1, .int x18), (0, .ref a_t)]) hx hb dX4_firstFault_29 hl (k := 2) rfl rfl (by decide) rfl (fun ls hl => ?_)
          refine lv_goto (tgt := 4) hx hb dX4_firstFault_32 (by decide) ?_
          exact ih4 x18 (l4v2 + 1) _ _ _ hP hD hS (lv_sub hl [2, 1, 0] rfl) hf
        · replace hf := (if_pos hc).symm.trans hf
          refine lv_iload_n hx hb dX4_firstFault_27 rfl (lv_at hl 2 rfl) ?_
          obtain rfl := Option.some.inj hf
          exact fin _ _ _ _ dX4_firstFault_28 hP hD hS
  exact hL4 5000 (0 : Int32) (0 : Int32) _ _ _ hP hD hS (lv_sub hl [2, 1, 0] rfl) hf
abbrev rm_X4_kindAt : Room := { frames := 1, cells := 0, slots := 0, locals := 21 }
set_option maxHeartbeats 4000000 in
set_option maxRecDepth 100000 in
theorem c_X4_kindAt (l : Launch) (D : va_G) (cI cJ cZ cO : ClassId) (sz : Nat) (a_t : Nat) (a_t_signs : Nat) (t_size : Int32) (t_signs : Nat → Int32) (p1 : Int32) (res : Int32) (hf : f_X4_kindAt t_size t_signs p1 = some res) : MetI l yX4_kindAt wsX4_kindAt rm_X4_kindAt [.ref a_t, .int p1] D (tys4 cI cJ cZ cO) [(a_t, .inr (4, [.ref a_t_signs, .int t_size])), (a_t_signs, .inl (cI, 60, .inl t_signs))] sz res [(a_t, .inr (4, [.ref a_t_signs, .int t_size])), (a_t_signs, .inl (cI, 60, .inl t_signs))] := by
  refine met_i (cc := cX4_kindAt) (maxL := 2) (by decide) rfl (Nat.le_of_ble_eq_true rfl) ?_
  intro p e s m args below meth c Q A hx hb hml hown hts hK hN hA fin H locs ls hP hD hS hl
  replace hown : s.vm.findClass RX4 = some m.cls := hown
  replace hl : lv_has ls 2 [(0, .ref a_t), (1, .int p1)] := hl
  rw [f_X4_kindAt] at hf
  have hcw19 := cwV (R := rm_X4_kindAt) (rm := rm_X4_signAt) 1 hts gX4_kindAt_X4_signAt rfl rfl rfl (by decide +kernel) ⟨Nat.le_of_ble_eq_true rfl, Nat.le_of_ble_eq_true rfl⟩
  refine lv_aload_n hx hb dX4_kindAt_0 rfl (lv_at hl 0 rfl) ?_
  refine lv_iload_n hx hb dX4_kindAt_1 rfl (lv_at hl 1 rfl) ?_
  obtain ⟨x2, hx2, hf⟩ := bd_if hf
  refine cv_i (wr := []) (ws' := [(a_t, .inr (4, [.ref a_t_signs, .int t_size])), (a_t_signs, .inl (cI, 60, .inl t_signs))]) ⟨hx, hb, hml, hown, hts⟩ hcw19 hK hN hP hD hS hA (c_X4_signAt l D cI cJ cZ cO _ a_t a_t_signs t_size t_signs p1 x2 hx2) (q := (RX4, TX4, 2)) (ci := 4) (q0 := 0) rfl rfl [0, 1] [] [0, 1] rfl rfl rfl rfl (by decide) rfl rfl rfl hl.1 rfl (Nat.le_of_ble_eq_true rfl) dX4_kindAt_2 ⟨Nat.zero_le _, Nat.zero_le _⟩ (fun H locs hP hD hS => ?_)
  refine lv_bipush (v := 46) hx hb dX4_kindAt_5 (by decide) ?_
  refine lv_icmp_ne (tgt := 12) hx hb dX4_kindAt_7 (by decide) (fun hc => ?_) (fun hc => ?_)
  · replace hf := (if_neg hc).symm.trans hf
    refine lv_aload_n hx hb dX4_kindAt_12 rfl (lv_at hl 0 rfl) ?_
    refine lv_iload_n hx hb dX4_kindAt_13 rfl (lv_at hl 1 rfl) ?_
    refine lv_iconst (v := 1) hx hb dX4_kindAt_14 (by decide) ?_
    refine lv_iadd hx hb dX4_kindAt_15 ?_
    obtain ⟨x16, hx16, hf⟩ := bd_if hf
    refine cv_i (wr := []) (ws' := [(a_t, .inr (4, [.ref a_t_signs, .int t_size])), (a_t_signs, .inl (cI, 60, .inl t_signs))]) ⟨hx, hb, hml, hown, hts⟩ hcw19 hK hN hP hD hS hA (c_X4_signAt l D cI cJ cZ cO _ a_t a_t_signs t_size t_signs (p1 + (1 : Int32)) x16 hx16) (q := (RX4, TX4, 2)) (ci := 4) (q0 := 0) rfl rfl [0, 1] [] [0, 1] rfl rfl rfl rfl (by decide) rfl rfl rfl hl.1 rfl (Nat.le_of_ble_eq_true rfl) dX4_kindAt_16 ⟨Nat.zero_le _, Nat.zero_le _⟩ (fun H locs hP hD hS => ?_)
    by_cases hc : x16 = (42 : Int32)
    · replace hf := (if_pos hc).symm.trans hf
      refine lv_lookup (tgt := 56) hx hb dX4_kindAt_19 (by decide) (off := 37) (by rw [hc]; decide) (by decide) ?_
      refine lv_iconst (v := 3) hx hb dX4_kindAt_56 (by decide) ?_
      obtain rfl := Option.some.inj hf
      exact fin _ _ _ _ dX4_kindAt_57 hP hD hS
    replace hf := (if_neg hc).symm.trans hf
    have e42 := ti_ne (k := 42) (42 : Int32) (by decide) hc
    clear hc
    by_cases hc : x16 = (43 : Int32)
    · replace hf := (if_pos hc).symm.trans hf
      refine lv_lookup (tgt := 54) hx hb dX4_kindAt_19 (by decide) (off := 35) (by rw [hc]; decide) (by decide) ?_
      refine lv_iconst (v := 2) hx hb dX4_kindAt_54 (by decide) ?_
      obtain rfl := Option.some.inj hf
      exact fin _ _ _ _ dX4_kindAt_55 hP hD hS
    replace hf := (if_neg hc).symm.trans hf
    have e43 := ti_ne (k := 43) (43 : Int32) (by decide) hc
    clear hc
    by_cases hc : x16 = (62 : Int32)
    · replace hf := (if_pos hc).symm.trans hf
      refine lv_lookup (tgt := 52) hx hb dX4_kindAt_19 (by decide) (off := 33) (by rw [hc]; decide) (by decide) ?_
      refine lv_iconst (v := 1) hx hb dX4_kindAt_52 (by decide) ?_
      obtain rfl := Option.some.inj hf
      exact fin _ _ _ _ dX4_kindAt_53 hP hD hS
    replace hf := (if_neg hc).symm.trans hf
    have e62 := ti_ne (k := 62) (62 : Int32) (by decide) hc
    clear hc
    refine lv_lookup (tgt := 58) (off := 39) hx hb dX4_kindAt_19 (by decide) (by simp [Op.lookupswitch.offset, e42, e43, e62, Ne.symm e42, Ne.symm e43, Ne.symm e62]) (by decide) ?_
    refine lv_iconst (v := 0) hx hb dX4_kindAt_58 (by decide) ?_
    obtain rfl := Option.some.inj hf
    exact fin _ _ _ _ dX4_kindAt_59 hP hD hS
  · replace hf := (if_pos hc).symm.trans hf
    refine lv_iconst (v := 4) hx hb dX4_kindAt_10 (by decide) ?_
    obtain rfl := Option.some.inj hf
    exact fin _ _ _ _ dX4_kindAt_11 hP hD hS
abbrev rm_X4_whoAt : Room := { frames := 1, cells := 0, slots := 0, locals := 21 }
set_option maxHeartbeats 4000000 in
set_option maxRecDepth 100000 in
theorem c_X4_whoAt (l : Launch) (D : va_G) (cI cJ cZ cO : ClassId) (sz : Nat) (a_t : Nat) (a_t_signs : Nat) (t_size : Int32) (t_signs : Nat → Int32) (p1 : Int32) (res : Int32) (hf : f_X4_whoAt t_size t_signs p1 = some res) : MetI l yX4_whoAt wsX4_whoAt rm_X4_whoAt [.ref a_t, .int p1] D (tys4 cI cJ cZ cO) [(a_t, .inr (4, [.ref a_t_signs, .int t_size])), (a_t_signs, .inl (cI, 60, .inl t_signs))] sz res [(a_t, .inr (4, [.ref a_t_signs, .int t_size])), (a_t_signs, .inl (cI, 60, .inl t_signs))] := by
  refine met_i (cc := cX4_whoAt) (maxL := 2) (by decide) rfl (Nat.le_of_ble_eq_true rfl) ?_
  intro p e s m args below meth c Q A hx hb hml hown hts hK hN hA fin H locs ls hP hD hS hl
  replace hown : s.vm.findClass RX4 = some m.cls := hown
  replace hl : lv_has ls 2 [(0, .ref a_t), (1, .int p1)] := hl
  rw [f_X4_whoAt] at hf
  have hcw19 := cwV (R := rm_X4_whoAt) (rm := rm_X4_signAt) 1 hts gX4_whoAt_X4_signAt rfl rfl rfl (by decide +kernel) ⟨Nat.le_of_ble_eq_true rfl, Nat.le_of_ble_eq_true rfl⟩
  refine lv_aload_n hx hb dX4_whoAt_0 rfl (lv_at hl 0 rfl) ?_
  refine lv_iload_n hx hb dX4_whoAt_1 rfl (lv_at hl 1 rfl) ?_
  obtain ⟨x2, hx2, hf⟩ := bd_if hf
  refine cv_i (wr := []) (ws' := [(a_t, .inr (4, [.ref a_t_signs, .int t_size])), (a_t_signs, .inl (cI, 60, .inl t_signs))]) ⟨hx, hb, hml, hown, hts⟩ hcw19 hK hN hP hD hS hA (c_X4_signAt l D cI cJ cZ cO _ a_t a_t_signs t_size t_signs p1 x2 hx2) (q := (RX4, TX4, 2)) (ci := 4) (q0 := 0) rfl rfl [0, 1] [] [0, 1] rfl rfl rfl rfl (by decide) rfl rfl rfl hl.1 rfl (Nat.le_of_ble_eq_true rfl) dX4_whoAt_2 ⟨Nat.zero_le _, Nat.zero_le _⟩ (fun H locs hP hD hS => ?_)
  refine lv_bipush (v := 65) hx hb dX4_whoAt_5 (by decide) ?_
  refine lv_isub hx hb dX4_whoAt_7 ?_
  obtain rfl := Option.some.inj hf
  exact fin _ _ _ _ dX4_whoAt_8 hP hD hS
abbrev rm_X4_aimAt : Room := { frames := 2, cells := 0, slots := 0, locals := 42 }
set_option maxHeartbeats 4000000 in
set_option maxRecDepth 100000 in
theorem c_X4_aimAt (l : Launch) (D : va_G) (cI cJ cZ cO : ClassId) (sz : Nat) (a_t : Nat) (a_t_signs : Nat) (t_size : Int32) (t_signs : Nat → Int32) (p1 : Int32) (res : Int32) (hf : f_X4_aimAt t_size t_signs p1 = some res) : MetI l yX4_aimAt wsX4_aimAt rm_X4_aimAt [.ref a_t, .int p1] D (tys4 cI cJ cZ cO) [(a_t, .inr (4, [.ref a_t_signs, .int t_size])), (a_t_signs, .inl (cI, 60, .inl t_signs))] sz res [(a_t, .inr (4, [.ref a_t_signs, .int t_size])), (a_t_signs, .inl (cI, 60, .inl t_signs))] := by
  refine met_i (cc := cX4_aimAt) (maxL := 2) (by decide) rfl (Nat.le_of_ble_eq_true rfl) ?_
  intro p e s m args below meth c Q A hx hb hml hown hts hK hN hA fin H locs ls hP hD hS hl
  replace hown : s.vm.findClass RX4 = some m.cls := hown
  replace hl : lv_has ls 2 [(0, .ref a_t), (1, .int p1)] := hl
  rw [f_X4_aimAt] at hf
  have hcw27 := cwV (R := rm_X4_aimAt) (rm := rm_X4_kindAt) 1 hts gX4_aimAt_X4_kindAt rfl rfl rfl (by decide +kernel) ⟨Nat.le_of_ble_eq_true rfl, Nat.le_of_ble_eq_true rfl⟩
  have hcw19 := cwV (R := rm_X4_aimAt) (rm := rm_X4_signAt) 1 hts gX4_aimAt_X4_signAt rfl rfl rfl (by decide +kernel) ⟨Nat.le_of_ble_eq_true rfl, Nat.le_of_ble_eq_true rfl⟩
  refine lv_aload_n hx hb dX4_aimAt_0 rfl (lv_at hl 0 rfl) ?_
  refine lv_iload_n hx hb dX4_aimAt_1 rfl (lv_at hl 1 rfl) ?_
  obtain ⟨x2, hx2, hf⟩ := bd_if hf
  refine cv_i (wr := []) (ws' := [(a_t, .inr (4, [.ref a_t_signs, .int t_size])), (a_t_signs, .inl (cI, 60, .inl t_signs))]) ⟨hx, hb, hml, hown, hts⟩ hcw27 hK hN hP hD hS hA (c_X4_kindAt l D cI cJ cZ cO _ a_t a_t_signs t_size t_signs p1 x2 hx2) (q := (RX4, TX4, 2)) (ci := 4) (q0 := 0) rfl rfl [0, 1] [] [0, 1] rfl rfl rfl rfl (by decide) rfl rfl rfl hl.1 rfl (Nat.le_of_ble_eq_true rfl) dX4_aimAt_2 ⟨Nat.zero_le _, Nat.zero_le _⟩ (fun H locs hP hD hS => ?_)
  refine lv_iconst (v := 1) hx hb dX4_aimAt_5 (by decide) ?_
  refine lv_icmp_ne (tgt := 22) hx hb dX4_aimAt_6 (by decide) (fun hc => ?_) (fun hc => ?_)
  · replace hf := (if_neg hc).symm.trans hf
    refine lv_aload_n hx hb dX4_aimAt_22 rfl (lv_at hl 0 rfl) ?_
    refine lv_iload_n hx hb dX4_aimAt_23 rfl (lv_at hl 1 rfl) ?_
    refine lv_iconst (v := 1) hx hb dX4_aimAt_24 (by decide) ?_
    refine lv_iadd hx hb dX4_aimAt_25 ?_
    obtain ⟨x26, hx26, hf⟩ := bd_if hf
    refine cv_i (wr := []) (ws' := [(a_t, .inr (4, [.ref a_t_signs, .int t_size])), (a_t_signs, .inl (cI, 60, .inl t_signs))]) ⟨hx, hb, hml, hown, hts⟩ hcw19 hK hN hP hD hS hA (c_X4_signAt l D cI cJ cZ cO _ a_t a_t_signs t_size t_signs (p1 + (1 : Int32)) x26 hx26) (q := (RX4, TX4, 2)) (ci := 4) (q0 := 0) rfl rfl [0, 1] [] [0, 1] rfl rfl rfl rfl (by decide) rfl rfl rfl hl.1 rfl (Nat.le_of_ble_eq_true rfl) dX4_aimAt_26 ⟨Nat.zero_le _, Nat.zero_le _⟩ (fun H locs hP hD hS => ?_)
    refine lv_bipush (v := 97) hx hb dX4_aimAt_29 (by decide) ?_
    refine lv_isub hx hb dX4_aimAt_31 ?_
    obtain rfl := Option.some.inj hf
    exact fin _ _ _ _ dX4_aimAt_32 hP hD hS
  · replace hf := (if_pos hc).symm.trans hf
    refine lv_aload_n hx hb dX4_aimAt_9 rfl (lv_at hl 0 rfl) ?_
    refine lv_iload_n hx hb dX4_aimAt_10 rfl (lv_at hl 1 rfl) ?_
    refine lv_iconst (v := 2) hx hb dX4_aimAt_11 (by decide) ?_
    refine lv_iadd hx hb dX4_aimAt_12 ?_
    obtain ⟨x13, hx13, hf⟩ := bd_if hf
    refine cv_i (wr := []) (ws' := [(a_t, .inr (4, [.ref a_t_signs, .int t_size])), (a_t_signs, .inl (cI, 60, .inl t_signs))]) ⟨hx, hb, hml, hown, hts⟩ hcw19 hK hN hP hD hS hA (c_X4_signAt l D cI cJ cZ cO _ a_t a_t_signs t_size t_signs (p1 + (2 : Int32)) x13 hx13) (q := (RX4, TX4, 2)) (ci := 4) (q0 := 0) rfl rfl [0, 1] [] [0, 1] rfl rfl rfl rfl (by decide) rfl rfl rfl hl.1 rfl (Nat.le_of_ble_eq_true rfl) dX4_aimAt_13 ⟨Nat.zero_le _, Nat.zero_le _⟩ (fun H locs hP hD hS => ?_)
    refine lv_bipush (v := 65) hx hb dX4_aimAt_16 (by decide) ?_
    refine lv_isub hx hb dX4_aimAt_18 ?_
    refine lv_goto (tgt := 32) hx hb dX4_aimAt_19 (by decide) ?_
    obtain rfl := Option.some.inj hf
    exact fin _ _ _ _ dX4_aimAt_32 hP hD hS
abbrev rm_X4_lengthAt : Room := { frames := 2, cells := 0, slots := 0, locals := 42 }
set_option maxHeartbeats 4000000 in
set_option maxRecDepth 100000 in
theorem c_X4_lengthAt (l : Launch) (D : va_G) (cI cJ cZ cO : ClassId) (sz : Nat) (a_t : Nat) (a_t_signs : Nat) (t_size : Int32) (t_signs : Nat → Int32) (p1 : Int32) (res : Int32) (hf : f_X4_lengthAt t_size t_signs p1 = some res) : MetI l yX4_lengthAt wsX4_lengthAt rm_X4_lengthAt [.ref a_t, .int p1] D (tys4 cI cJ cZ cO) [(a_t, .inr (4, [.ref a_t_signs, .int t_size])), (a_t_signs, .inl (cI, 60, .inl t_signs))] sz res [(a_t, .inr (4, [.ref a_t_signs, .int t_size])), (a_t_signs, .inl (cI, 60, .inl t_signs))] := by
  refine met_i (cc := cX4_lengthAt) (maxL := 3) (by decide) rfl (Nat.le_of_ble_eq_true rfl) ?_
  intro p e s m args below meth c Q A hx hb hml hown hts hK hN hA fin H locs ls hP hD hS hl
  replace hown : s.vm.findClass RX4 = some m.cls := hown
  replace hl : lv_has ls 3 [(0, .ref a_t), (1, .int p1)] := hl
  rw [f_X4_lengthAt] at hf
  have hcw27 := cwV (R := rm_X4_lengthAt) (rm := rm_X4_kindAt) 1 hts gX4_lengthAt_X4_kindAt rfl rfl rfl (by decide +kernel) ⟨Nat.le_of_ble_eq_true rfl, Nat.le_of_ble_eq_true rfl⟩
  refine lv_aload_n hx hb dX4_lengthAt_0 rfl (lv_at hl 0 rfl) ?_
  refine lv_iload_n hx hb dX4_lengthAt_1 rfl (lv_at hl 1 rfl) ?_
  obtain ⟨x2, hx2, hf⟩ := bd_if hf
  refine cv_i (wr := []) (ws' := [(a_t, .inr (4, [.ref a_t_signs, .int t_size])), (a_t_signs, .inl (cI, 60, .inl t_signs))]) ⟨hx, hb, hml, hown, hts⟩ hcw27 hK hN hP hD hS hA (c_X4_kindAt l D cI cJ cZ cO _ a_t a_t_signs t_size t_signs p1 x2 hx2) (q := (RX4, TX4, 2)) (ci := 4) (q0 := 0) rfl rfl [0, 1] [] [0, 1] rfl rfl rfl rfl (by decide) rfl rfl rfl hl.1 rfl (Nat.le_of_ble_eq_true rfl) dX4_lengthAt_2 ⟨Nat.zero_le _, Nat.zero_le _⟩ (fun H locs hP hD hS => ?_)
  refine lv_istore_n (lv' := [(2, .int x2), (0, .ref a_t), (1, .int p1)]) hx hb dX4_lengthAt_5 rfl hl (by decide) rfl (fun ls hl => ?_)
  refine lv_iload_n hx hb dX4_lengthAt_6 rfl (lv_at hl 0 rfl) ?_
  refine lv_iconst (v := 4) hx hb dX4_lengthAt_7 (by decide) ?_
  refine lv_icmp_ne (tgt := 13) hx hb dX4_lengthAt_8 (by decide) (fun hc => ?_) (fun hc => ?_)
  · replace hf := (if_neg hc).symm.trans hf
    refine lv_iload_n hx hb dX4_lengthAt_13 rfl (lv_at hl 0 rfl) ?_
    refine lv_iconst (v := 1) hx hb dX4_lengthAt_14 (by decide) ?_
    refine lv_icmp_ne (tgt := 22) hx hb dX4_lengthAt_15 (by decide) (fun hc => ?_) (fun hc => ?_)
    · replace hf := (if_neg hc).symm.trans hf
      refine lv_iconst (v := 2) hx hb dX4_lengthAt_22 (by decide) ?_
      obtain rfl := Option.some.inj hf
      exact fin _ _ _ _ dX4_lengthAt_23 hP hD hS
    · replace hf := (if_pos hc).symm.trans hf
      refine lv_iconst (v := 3) hx hb dX4_lengthAt_18 (by decide) ?_
      refine lv_goto (tgt := 23) hx hb dX4_lengthAt_19 (by decide) ?_
      obtain rfl := Option.some.inj hf
      exact fin _ _ _ _ dX4_lengthAt_23 hP hD hS
  · replace hf := (if_pos hc).symm.trans hf
    refine lv_iconst (v := 1) hx hb dX4_lengthAt_11 (by decide) ?_
    obtain rfl := Option.some.inj hf
    exact fin _ _ _ _ dX4_lengthAt_12 hP hD hS
abbrev rm_X7_copy : Room := { frames := 1, cells := 0, slots := 0, locals := 60 }
theorem ms_X7_copy_X7 : ∀ w ∈ u_ws RX7 TX7 4, w ∈ wsX7_copy := fun w h => List.mem_cons_of_mem _ (List.mem_append_right _ (h))
set_option maxHeartbeats 4000000 in
set_option maxRecDepth 100000 in
theorem c_X7_copy (l : Launch) (D : va_G) (cI cJ cZ cO : ClassId) (sz : Nat) (a_t : Nat) (a_t_froms : Nat) (a_t_tos : Nat) (a_o1 : Nat) (a_o1_froms : Nat) (a_o1_tos : Nat) (t_nearers : Int32) (t_size : Int32) (t_froms : Nat → Int32) (t_tos : Nat → Int32) (o1_nearers : Int32) (o1_size : Int32) (o1_froms : Nat → Int32) (o1_tos : Nat → Int32) (res : Int32 × Int32 × (Nat → Int32) × (Nat → Int32)) (hf : f_X7_copy t_nearers t_size t_froms t_tos o1_nearers o1_size o1_froms o1_tos = some res) : MetV l yX7_copy wsX7_copy rm_X7_copy [.ref a_t, .ref a_o1] D (tys4 cI cJ cZ cO) [(a_t, .inr (7, [.ref a_t_froms, .ref a_t_tos, .int t_nearers, .int t_size])), (a_t_froms, .inl (cI, 8, .inl t_froms)), (a_t_tos, .inl (cI, 8, .inl t_tos)), (a_o1, .inr (7, [.ref a_o1_froms, .ref a_o1_tos, .int o1_nearers, .int o1_size])), (a_o1_froms, .inl (cI, 8, .inl o1_froms)), (a_o1_tos, .inl (cI, 8, .inl o1_tos))] sz [(a_t, .inr (7, [.ref a_t_froms, .ref a_t_tos, .int res.1, .int res.2.1])), (a_t_froms, .inl (cI, 8, .inl res.2.2.1)), (a_t_tos, .inl (cI, 8, .inl res.2.2.2)), (a_o1, .inr (7, [.ref a_o1_froms, .ref a_o1_tos, .int o1_nearers, .int o1_size])), (a_o1_froms, .inl (cI, 8, .inl o1_froms)), (a_o1_tos, .inl (cI, 8, .inl o1_tos))] := by
  refine met_v (cc := cX7_copy) (maxL := 2) (by decide) rfl (Nat.le_of_ble_eq_true rfl) ?_
  intro p e s m args below meth c Q A hx hb hml hown hts hK hN hA fin H locs ls hP hD hS hl
  replace hown : s.vm.findClass RX7 = some m.cls := hown
  replace hl : lv_has ls 2 [(0, .ref a_t), (1, .ref a_o1)] := hl
  rw [f_X7_copy] at hf
  have hw9 := hts (.fieldLink RX7 9 "TouchReign$Sights" "froms" "[I") (by decide +kernel)
  have hmsX7 := ms_X7_copy_X7
  have hacl := hts (.methodLink RX7 25 arraycopyName) (by decide +kernel)
  have hacn := hts (.native arraycopyName) (by decide +kernel)
  have hacs := hts (.static arraycopyName) (by decide +kernel)
  have haci := hts (.initialized "java/lang/System") (by decide +kernel)
  have hw15 := hts (.fieldLink RX7 15 "TouchReign$Sights" "tos" "[I") (by decide +kernel)
  have hw18 := hts (.fieldLink RX7 18 "TouchReign$Sights" "nearers" "I") (by decide +kernel)
  have hw22 := hts (.fieldLink RX7 22 "TouchReign$Sights" "size" "I") (by decide +kernel)
  refine lv_aload_n hx hb dX7_copy_0 rfl (lv_at hl 1 rfl) ?_
  refine va_get (D := D) (ci := 7) (v := .ref a_o1_froms) (C := RX7) (T := TX7) (N := 4) hx hb hts hmsX7 hown hK hP 3 rfl rfl 0 (by decide) hw9 (fun _ h9 => h9) rfl dX7_copy_1 ?_
  refine lv_iconst (v := 0) hx hb dX7_copy_4 (by decide) ?_
  refine lv_aload_n hx hb dX7_copy_5 rfl (lv_at hl 0 rfl) ?_
  refine va_get (D := D) (ci := 7) (v := .ref a_t_froms) (C := RX7) (T := TX7) (N := 4) hx hb hts hmsX7 hown hK hP 0 rfl rfl 0 (by decide) hw9 (fun _ h9 => h9) rfl dX7_copy_6 ?_
  refine lv_iconst (v := 0) hx hb dX7_copy_9 (by decide) ?_
  refine lv_bipush (v := 8) hx hb dX7_copy_10 (by decide) ?_
  refine va_copyi (D := D) hx hb (hml.trans hl.1.symm) hown hacl hacn hacs haci hK hP hD hS 4 1 0 0 rfl rfl rfl rfl rfl (by decide) (by decide) (by decide) (by decide) (by decide) (fun _ _ => rfl) (Nat.le_of_ble_eq_true rfl) (Nat.le_of_ble_eq_true rfl) dX7_copy_12 (fun H locs hP hD hS => ?_)
  replace hP : va_P D vwCl [(a_t, .inr (7, [.ref a_t_froms, .ref a_t_tos, .int t_nearers, .int t_size])), (a_t_froms, .inl (cI, 8, .inl (va_cpy o1_froms t_froms (0 : Int32).toNatClampNeg (0 : Int32).toNatClampNeg (8 : Int32).toNatClampNeg))), (a_t_tos, .inl (cI, 8, .inl t_tos)), (a_o1, .inr (7, [.ref a_o1_froms, .ref a_o1_tos, .int o1_nearers, .int o1_size])), (a_o1_froms, .inl (cI, 8, .inl o1_froms)), (a_o1_tos, .inl (cI, 8, .inl o1_tos))] H := hP
  replace hD : va_D A [(a_t, .inr (7, [.ref a_t_froms, .ref a_t_tos, .int t_nearers, .int t_size])), (a_t_froms, .inl (cI, 8, .inl (va_cpy o1_froms t_froms (0 : Int32).toNatClampNeg (0 : Int32).toNatClampNeg (8 : Int32).toNatClampNeg))), (a_t_tos, .inl (cI, 8, .inl t_tos)), (a_o1, .inr (7, [.ref a_o1_froms, .ref a_o1_tos, .int o1_nearers, .int o1_size])), (a_o1_froms, .inl (cI, 8, .inl o1_froms)), (a_o1_tos, .inl (cI, 8, .inl o1_tos))] := hD
  refine lv_aload_n hx hb dX7_copy_15 rfl (lv_at hl 1 rfl) ?_
  refine va_get (D := D) (ci := 7) (v := .ref a_o1_tos) (C := RX7) (T := TX7) (N := 4) hx hb hts hmsX7 hown hK hP 3 rfl rfl 1 (by decide) hw15 (fun _ h9 => h9) rfl dX7_copy_16 ?_
  refine lv_iconst (v := 0) hx hb dX7_copy_19 (by decide) ?_
  refine lv_aload_n hx hb dX7_copy_20 rfl (lv_at hl 0 rfl) ?_
  refine va_get (D := D) (ci := 7) (v := .ref a_t_tos) (C := RX7) (T := TX7) (N := 4) hx hb hts hmsX7 hown hK hP 0 rfl rfl 1 (by decide) hw15 (fun _ h9 => h9) rfl dX7_copy_21 ?_
  refine lv_iconst (v := 0) hx hb dX7_copy_24 (by decide) ?_
  refine lv_bipush (v := 8) hx hb dX7_copy_25 (by decide) ?_
  refine va_copyi (D := D) hx hb (hml.trans hl.1.symm) hown hacl hacn hacs haci hK hP hD hS 5 2 0 0 rfl rfl rfl rfl rfl (by decide) (by decide) (by decide) (by decide) (by decide) (fun _ _ => rfl) (Nat.le_of_ble_eq_true rfl) (Nat.le_of_ble_eq_true rfl) dX7_copy_27 (fun H locs hP hD hS => ?_)
  replace hP : va_P D vwCl [(a_t, .inr (7, [.ref a_t_froms, .ref a_t_tos, .int t_nearers, .int t_size])), (a_t_froms, .inl (cI, 8, .inl (va_cpy o1_froms t_froms (0 : Int32).toNatClampNeg (0 : Int32).toNatClampNeg (8 : Int32).toNatClampNeg))), (a_t_tos, .inl (cI, 8, .inl (va_cpy o1_tos t_tos (0 : Int32).toNatClampNeg (0 : Int32).toNatClampNeg (8 : Int32).toNatClampNeg))), (a_o1, .inr (7, [.ref a_o1_froms, .ref a_o1_tos, .int o1_nearers, .int o1_size])), (a_o1_froms, .inl (cI, 8, .inl o1_froms)), (a_o1_tos, .inl (cI, 8, .inl o1_tos))] H := hP
  replace hD : va_D A [(a_t, .inr (7, [.ref a_t_froms, .ref a_t_tos, .int t_nearers, .int t_size])), (a_t_froms, .inl (cI, 8, .inl (va_cpy o1_froms t_froms (0 : Int32).toNatClampNeg (0 : Int32).toNatClampNeg (8 : Int32).toNatClampNeg))), (a_t_tos, .inl (cI, 8, .inl (va_cpy o1_tos t_tos (0 : Int32).toNatClampNeg (0 : Int32).toNatClampNeg (8 : Int32).toNatClampNeg))), (a_o1, .inr (7, [.ref a_o1_froms, .ref a_o1_tos, .int o1_nearers, .int o1_size])), (a_o1_froms, .inl (cI, 8, .inl o1_froms)), (a_o1_tos, .inl (cI, 8, .inl o1_tos))] := hD
  refine lv_aload_n hx hb dX7_copy_30 rfl (lv_at hl 0 rfl) ?_
  refine lv_aload_n hx hb dX7_copy_31 rfl (lv_at hl 1 rfl) ?_
  refine va_get (D := D) (ci := 7) (v := .int o1_nearers) (C := RX7) (T := TX7) (N := 4) hx hb hts hmsX7 hown hK hP 3 rfl rfl 2 (by decide) hw18 (fun _ h9 => h9) rfl dX7_copy_32 ?_
  refine va_put (D := D) (ci := 7) (v := .int o1_nearers) (ty := .int) (C := RX7) (T := TX7) (N := 4) hx hb hts hmsX7 tyX7 tyX7_ok nmX7 hown hK hP hD hS 0 rfl rfl 2 (by decide) hw18 (fun _ h9 => h9) rfl (by decide +kernel) rfl rfl (Nat.le_of_ble_eq_true rfl) dX7_copy_35 (fun H locs hP hD hS => ?_)
  replace hP : va_P D vwCl [(a_t, .inr (7, [.ref a_t_froms, .ref a_t_tos, .int o1_nearers, .int t_size])), (a_t_froms, .inl (cI, 8, .inl (va_cpy o1_froms t_froms (0 : Int32).toNatClampNeg (0 : Int32).toNatClampNeg (8 : Int32).toNatClampNeg))), (a_t_tos, .inl (cI, 8, .inl (va_cpy o1_tos t_tos (0 : Int32).toNatClampNeg (0 : Int32).toNatClampNeg (8 : Int32).toNatClampNeg))), (a_o1, .inr (7, [.ref a_o1_froms, .ref a_o1_tos, .int o1_nearers, .int o1_size])), (a_o1_froms, .inl (cI, 8, .inl o1_froms)), (a_o1_tos, .inl (cI, 8, .inl o1_tos))] H := hP
  replace hD : va_D A [(a_t, .inr (7, [.ref a_t_froms, .ref a_t_tos, .int o1_nearers, .int t_size])), (a_t_froms, .inl (cI, 8, .inl (va_cpy o1_froms t_froms (0 : Int32).toNatClampNeg (0 : Int32).toNatClampNeg (8 : Int32).toNatClampNeg))), (a_t_tos, .inl (cI, 8, .inl (va_cpy o1_tos t_tos (0 : Int32).toNatClampNeg (0 : Int32).toNatClampNeg (8 : Int32).toNatClampNeg))), (a_o1, .inr (7, [.ref a_o1_froms, .ref a_o1_tos, .int o1_nearers, .int o1_size])), (a_o1_froms, .inl (cI, 8, .inl o1_froms)), (a_o1_tos, .inl (cI, 8, .inl o1_tos))] := hD
  refine lv_aload_n hx hb dX7_copy_38 rfl (lv_at hl 0 rfl) ?_
  refine lv_aload_n hx hb dX7_copy_39 rfl (lv_at hl 1 rfl) ?_
  refine va_get (D := D) (ci := 7) (v := .int o1_size) (C := RX7) (T := TX7) (N := 4) hx hb hts hmsX7 hown hK hP 3 rfl rfl 3 (by decide) hw22 (fun _ h9 => h9) rfl dX7_copy_40 ?_
  refine va_put (D := D) (ci := 7) (v := .int o1_size) (ty := .int) (C := RX7) (T := TX7) (N := 4) hx hb hts hmsX7 tyX7 tyX7_ok nmX7 hown hK hP hD hS 0 rfl rfl 3 (by decide) hw22 (fun _ h9 => h9) rfl (by decide +kernel) rfl rfl (Nat.le_of_ble_eq_true rfl) dX7_copy_43 (fun H locs hP hD hS => ?_)
  replace hP : va_P D vwCl [(a_t, .inr (7, [.ref a_t_froms, .ref a_t_tos, .int o1_nearers, .int o1_size])), (a_t_froms, .inl (cI, 8, .inl (va_cpy o1_froms t_froms (0 : Int32).toNatClampNeg (0 : Int32).toNatClampNeg (8 : Int32).toNatClampNeg))), (a_t_tos, .inl (cI, 8, .inl (va_cpy o1_tos t_tos (0 : Int32).toNatClampNeg (0 : Int32).toNatClampNeg (8 : Int32).toNatClampNeg))), (a_o1, .inr (7, [.ref a_o1_froms, .ref a_o1_tos, .int o1_nearers, .int o1_size])), (a_o1_froms, .inl (cI, 8, .inl o1_froms)), (a_o1_tos, .inl (cI, 8, .inl o1_tos))] H := hP
  replace hD : va_D A [(a_t, .inr (7, [.ref a_t_froms, .ref a_t_tos, .int o1_nearers, .int o1_size])), (a_t_froms, .inl (cI, 8, .inl (va_cpy o1_froms t_froms (0 : Int32).toNatClampNeg (0 : Int32).toNatClampNeg (8 : Int32).toNatClampNeg))), (a_t_tos, .inl (cI, 8, .inl (va_cpy o1_tos t_tos (0 : Int32).toNatClampNeg (0 : Int32).toNatClampNeg (8 : Int32).toNatClampNeg))), (a_o1, .inr (7, [.ref a_o1_froms, .ref a_o1_tos, .int o1_nearers, .int o1_size])), (a_o1_froms, .inl (cI, 8, .inl o1_froms)), (a_o1_tos, .inl (cI, 8, .inl o1_tos))] := hD
  obtain rfl := Option.some.inj hf
  exact fin _ _ _ _ dX7_copy_46 hP hD hS
abbrev rm_X6_isNearAll : Room := { frames := 0, cells := 0, slots := 0, locals := 0 }
theorem ms_X6_isNearAll_X6 : ∀ w ∈ u_ws RX6 TX6 1, w ∈ wsX6_isNearAll := fun w h => List.mem_cons_of_mem _ (List.mem_append_right _ (h))
set_option maxHeartbeats 4000000 in
set_option maxRecDepth 100000 in
theorem c_X6_isNearAll (l : Launch) (D : va_G) (cI cJ cZ cO : ClassId) (sz : Nat) (a_t : Nat) (a_t_near : Nat) (t_near : Nat → Int32) (p1 : Int32) (res : Int32) (hf : f_X6_isNearAll t_near p1 = some res) : MetI l yX6_isNearAll wsX6_isNearAll rm_X6_isNearAll [.ref a_t, .int p1] D (tys4 cI cJ cZ cO) [(a_t, .inr (6, [.ref a_t_near])), (a_t_near, .inl (cI, 12, .inl t_near))] sz res [(a_t, .inr (6, [.ref a_t_near])), (a_t_near, .inl (cI, 12, .inl t_near))] := by
  refine met_z (cc := cX6_isNearAll) (maxL := 3) (by decide) rfl (Nat.le_of_ble_eq_true rfl) ?_
  intro p e s m args below meth c Q A hx hb hml hown hts hK hN hA fin H locs ls hP hD hS hl
  replace hown : s.vm.findClass RX6 = some m.cls := hown
  replace hl : lv_has ls 3 [(0, .ref a_t), (1, .int p1)] := hl
  rw [f_X6_isNearAll] at hf
  have hw9 := hts (.fieldLink RX6 9 "TouchReign$Shade" "near" "[I") (by decide +kernel)
  have hmsX6 := ms_X6_isNearAll_X6
  refine lv_iconst (v := 0) hx hb dX6_isNearAll_0 (by decide) ?_
  refine lv_istore_n (lv' := [(2, .int (0 : Int32)), (0, .ref a_t), (1, .int p1)]) hx hb dX6_isNearAll_1 rfl hl (by decide) rfl (fun ls hl => ?_)
  have hX2 : ∀ (H : Heap) (locs : List Loc) (ls : Array Slot), va_P D vwCl [(a_t, .inr (6, [.ref a_t_near])), (a_t_near, .inl (cI, 12, .inl t_near))] H → va_D A [(a_t, .inr (6, [.ref a_t_near])), (a_t_near, .inl (cI, 12, .inl t_near))] → va_S A s.heap H locs → lv_has ls 3 [] → f_X6_isNearAll_X2 = some res → W p l e rm_X6_isNearAll s m args below meth c H locs 0 0 Q (F0 m 27 ls []) := by
    intro  H locs ls hP hD hS hl hf
    rw [f_X6_isNearAll_X2] at hf
    refine lv_iconst (v := 1) hx hb dX6_isNearAll_27 (by decide) ?_
    obtain rfl := Option.some.inj hf
    exact fin _ _ _ _ nb_1 dX6_isNearAll_28 hP hD hS
  have hL2 : ∀ (n2 : Nat), ∀ (l2v2 : Int32) (H : Heap) (locs : List Loc) (ls : Array Slot), va_P D vwCl [(a_t, .inr (6, [.ref a_t_near])), (a_t_near, .inl (cI, 12, .inl t_near))] H → va_D A [(a_t, .inr (6, [.ref a_t_near])), (a_t_near, .inl (cI, 12, .inl t_near))] → va_S A s.heap H locs → lv_has ls 3 [(0, .ref a_t), (1, .int p1), (2, .int l2v2)] → f_X6_isNearAll_L2 t_near p1 f_X6_isNearAll_X2 n2 l2v2 = some res → W p l e rm_X6_isNearAll s m args below meth c H locs 0 0 Q (F0 m 2 ls []) := by
    intro n2
    induction n2 with
    | zero =>
      intro l2v2 H locs ls hP hD hS hl hf
      rw [f_X6_isNearAll_L2] at hf
      cases hf
    | succ n2 ih2 =>
      intro l2v2 H locs ls hP hD hS hl hf
      rw [f_X6_isNearAll_L2] at hf
      refine lv_iload_n hx hb dX6_isNearAll_2 rfl (lv_at hl 2 rfl) ?_
      refine lv_bipush (v := 12) hx hb dX6_isNearAll_3 (by decide) ?_
      refine lv_icmp_ge (tgt := 27) hx hb dX6_isNearAll_5 (by decide) (fun hc => ?_) (fun hc => ?_)
      · replace hf := (if_pos hc).symm.trans hf
        exact hX2 _ _ _ hP hD hS (lv_sub hl [] rfl) hf
      · replace hf := (if_neg hc).symm.trans hf
        refine lv_aload_n hx hb dX6_isNearAll_8 rfl (lv_at hl 0 rfl) ?_
        refine va_get (D := D) (ci := 6) (v := .ref a_t_near) (C := RX6) (T := TX6) (N := 1) hx hb hts hmsX6 hown hK hP 0 rfl rfl 0 (by decide) hw9 (fun _ h9 => h9) rfl dX6_isNearAll_9 ?_
        refine lv_iload_n hx hb dX6_isNearAll_12 rfl (lv_at hl 2 rfl) ?_
        obtain ⟨hi13, hf⟩ := ix_if hf
        refine va_iald (D := D) hx hb hK hP 1 0 rfl rfl hi13 dX6_isNearAll_13 ?_
        refine lv_iload_n hx hb dX6_isNearAll_14 rfl (lv_at hl 1 rfl) ?_
        refine lv_iand hx hb dX6_isNearAll_15 ?_
        refine lv_if_ne (tgt := 21) hx hb dX6_isNearAll_16 (by decide) (fun hc => ?_) (fun hc => ?_)
        · replace hf := (if_neg hc).symm.trans hf
          refine lv_iinc (v := l2v2 + 1) (lv' := [(2, .int (l2v2 + 1)), (0, .ref a_t), (1, .int p1)]) hx hb dX6_isNearAll_21 hl (k := 2) rfl rfl (by decide) rfl (fun ls hl => ?_)
          refine lv_goto (tgt := 2) hx hb dX6_isNearAll_24 (by decide) ?_
          exact ih2 (l2v2 + 1) _ _ _ hP hD hS (lv_sub hl [1, 2, 0] rfl) hf
        · replace hf := (if_pos hc).symm.trans hf
          refine lv_iconst (v := 0) hx hb dX6_isNearAll_19 (by decide) ?_
          obtain rfl := Option.some.inj hf
          exact fin _ _ _ _ nb_0 dX6_isNearAll_20 hP hD hS
  exact hL2 5000 (0 : Int32) _ _ _ hP hD hS (lv_sub hl [1, 2, 0] rfl) hf
abbrev rm_X6_fewestHomes : Room := { frames := 3, cells := 0, slots := 0, locals := 68 }
theorem ms_X6_fewestHomes_X6 : ∀ w ∈ u_ws RX6 TX6 1, w ∈ wsX6_fewestHomes := fun w h => List.mem_cons_of_mem _ (List.mem_append_left _ (List.mem_append_right _ (h)))
set_option maxHeartbeats 4000000 in
set_option maxRecDepth 100000 in
theorem c_X6_fewestHomes (l : Launch) (D : va_G) (cI cJ cZ cO : ClassId) (sz : Nat) (a_t : Nat) (a_t_near : Nat) (a_o1 : Nat) (a_o1_roads : Nat) (t_near : Nat → Int32) (o1_homes : Int32) (o1_roads : Nat → Int32) (p2 : Int32) (res : Int32 × (Nat → Int32)) (hf : f_X6_fewestHomes t_near o1_roads p2 = some res) : MetI l yX6_fewestHomes wsX6_fewestHomes rm_X6_fewestHomes [.ref a_t, .ref a_o1, .int p2] D (tys4 cI cJ cZ cO) [(a_t, .inr (6, [.ref a_t_near])), (a_t_near, .inl (cI, 12, .inl t_near)), (a_o1, .inr (2, [.ref a_o1_roads, .int o1_homes])), (a_o1_roads, .inl (cI, 12, .inl o1_roads))] sz res.1 [(a_t, .inr (6, [.ref a_t_near])), (a_t_near, .inl (cI, 12, .inl res.2)), (a_o1, .inr (2, [.ref a_o1_roads, .int o1_homes])), (a_o1_roads, .inl (cI, 12, .inl o1_roads))] := by
  refine met_i (cc := cX6_fewestHomes) (maxL := 6) (by decide) rfl (Nat.le_of_ble_eq_true rfl) ?_
  intro p e s m args below meth c Q A hx hb hml hown hts hK hN hA fin H locs ls hP hD hS hl
  replace hown : s.vm.findClass RX6 = some m.cls := hown
  replace hl : lv_has ls 6 [(0, .ref a_t), (1, .ref a_o1), (2, .int p2)] := hl
  rw [f_X6_fewestHomes] at hf
  have hcw21 := va_cwS (R := rm_X6_fewestHomes) (rm := rm_J6_bitCount_0f7a4) 1 hts gX6_fewestHomes_J6_bitCount_0f7a4 rfl rfl rfl (by decide +kernel) ⟨Nat.le_of_ble_eq_true rfl, Nat.le_of_ble_eq_true rfl⟩
  have hcw27 := cwV (R := rm_X6_fewestHomes) (rm := rm_X6_isNearAll) 1 hts gX6_fewestHomes_X6_isNearAll rfl rfl rfl (by decide +kernel) ⟨Nat.le_of_ble_eq_true rfl, Nat.le_of_ble_eq_true rfl⟩
  have hw9 := hts (.fieldLink RX6 9 "TouchReign$Shade" "near" "[I") (by decide +kernel)
  have hmsX6 := ms_X6_fewestHomes_X6
  have hcw15 := cwV (R := rm_X6_fewestHomes) (rm := rm_X2_within) 2 hts gX6_fewestHomes_X2_within rfl rfl rfl (by decide +kernel) ⟨Nat.le_of_ble_eq_true rfl, Nat.le_of_ble_eq_true rfl⟩
  refine lv_iconst (v := 0) hx hb dX6_fewestHomes_0 (by decide) ?_
  refine lv_istore_n (lv' := [(3, .int (0 : Int32)), (0, .ref a_t), (1, .ref a_o1), (2, .int p2)]) hx hb dX6_fewestHomes_1 rfl hl (by decide) rfl (fun ls hl => ?_)
  have hX2 : ∀ (x2t_near : Nat → Int32) (H : Heap) (locs : List Loc) (ls : Array Slot), va_P D vwCl [(a_t, .inr (6, [.ref a_t_near])), (a_t_near, .inl (cI, 12, .inl x2t_near)), (a_o1, .inr (2, [.ref a_o1_roads, .int o1_homes])), (a_o1_roads, .inl (cI, 12, .inl o1_roads))] H → va_D A [(a_t, .inr (6, [.ref a_t_near])), (a_t_near, .inl (cI, 12, .inl x2t_near)), (a_o1, .inr (2, [.ref a_o1_roads, .int o1_homes])), (a_o1_roads, .inl (cI, 12, .inl o1_roads))] → va_S A s.heap H locs → lv_has ls 6 [(0, .ref a_t)] → f_X6_fewestHomes_X2 x2t_near = some res → W p l e rm_X6_fewestHomes s m args below meth c H locs 0 0 Q (F0 m 26 ls []) := by
    intro x2t_near H locs ls hP hD hS hl hf
    rw [f_X6_fewestHomes_X2] at hf
    refine lv_sipush (v := 4095) hx hb dX6_fewestHomes_26 (by decide) ?_
    refine lv_istore_n (lv' := [(3, .int (4095 : Int32)), (0, .ref a_t)]) hx hb dX6_fewestHomes_29 rfl hl (by decide) rfl (fun ls hl => ?_)
    refine lv_bipush (v := 12) hx hb dX6_fewestHomes_30 (by decide) ?_
    refine lv_istore (lv' := [(4, .int (12 : Int32)), (3, .int (4095 : Int32)), (0, .ref a_t)]) hx hb dX6_fewestHomes_32 hl (by decide) rfl (fun ls hl => ?_)
    refine lv_iconst (v := 1) hx hb dX6_fewestHomes_34 (by decide) ?_
    refine lv_istore (lv' := [(5, .int (1 : Int32)), (4, .int (12 : Int32)), (3, .int (4095 : Int32)), (0, .ref a_t)]) hx hb dX6_fewestHomes_35 hl (by decide) rfl (fun ls hl => ?_)
    have hX37 : ∀ (x37v3 : Int32) (H : Heap) (locs : List Loc) (ls : Array Slot), va_P D vwCl [(a_t, .inr (6, [.ref a_t_near])), (a_t_near, .inl (cI, 12, .inl x2t_near)), (a_o1, .inr (2, [.ref a_o1_roads, .int o1_homes])), (a_o1_roads, .inl (cI, 12, .inl o1_roads))] H → va_D A [(a_t, .inr (6, [.ref a_t_near])), (a_t_near, .inl (cI, 12, .inl x2t_near)), (a_o1, .inr (2, [.ref a_o1_roads, .int o1_homes])), (a_o1_roads, .inl (cI, 12, .inl o1_roads))] → va_S A s.heap H locs → lv_has ls 6 [(3, .int x37v3)] → f_X6_fewestHomes_X37 x2t_near x37v3 = some res → W p l e rm_X6_fewestHomes s m args below meth c H locs 0 0 Q (F0 m 80 ls []) := by
      intro x37v3 H locs ls hP hD hS hl hf
      rw [f_X6_fewestHomes_X37] at hf
      refine lv_iload_n hx hb dX6_fewestHomes_80 rfl (lv_at hl 0 rfl) ?_
      obtain rfl := Option.some.inj hf
      exact fin _ _ _ _ dX6_fewestHomes_81 hP hD hS
    have hL37 : ∀ (n37 : Nat), ∀ (l37v3 : Int32) (l37v4 : Int32) (l37v5 : Int32) (H : Heap) (locs : List Loc) (ls : Array Slot), va_P D vwCl [(a_t, .inr (6, [.ref a_t_near])), (a_t_near, .inl (cI, 12, .inl x2t_near)), (a_o1, .inr (2, [.ref a_o1_roads, .int o1_homes])), (a_o1_roads, .inl (cI, 12, .inl o1_roads))] H → va_D A [(a_t, .inr (6, [.ref a_t_near])), (a_t_near, .inl (cI, 12, .inl x2t_near)), (a_o1, .inr (2, [.ref a_o1_roads, .int o1_homes])), (a_o1_roads, .inl (cI, 12, .inl o1_roads))] → va_S A s.heap H locs → lv_has ls 6 [(0, .ref a_t), (3, .int l37v3), (4, .int l37v4), (5, .int l37v5)] → f_X6_fewestHomes_L37 x2t_near (f_X6_fewestHomes_X37 x2t_near) n37 l37v3 l37v4 l37v5 = some res → W p l e rm_X6_fewestHomes s m args below meth c H locs 0 0 Q (F0 m 37 ls []) := by
      intro n37
      induction n37 with
      | zero =>
        intro l37v3 l37v4 l37v5 H locs ls hP hD hS hl hf
        rw [f_X6_fewestHomes_L37] at hf
        cases hf
      | succ n37 ih37 =>
        intro l37v3 l37v4 l37v5 H locs ls hP hD hS hl hf
        rw [f_X6_fewestHomes_L37] at hf
        refine lv_iload hx hb dX6_fewestHomes_37 (lv_at hl 3 rfl) ?_
        refine lv_sipush (v := 4095) hx hb dX6_fewestHomes_39 (by decide) ?_
        refine lv_icmp_ge (tgt := 80) hx hb dX6_fewestHomes_42 (by decide) (fun hc => ?_) (fun hc => ?_)
        · replace hf := (if_pos hc).symm.trans hf
          exact hX37 l37v3 _ _ _ hP hD hS (lv_sub hl [1] rfl) hf
        · replace hf := (if_neg hc).symm.trans hf
          refine lv_iload hx hb dX6_fewestHomes_45 (lv_at hl 3 rfl) ?_
          obtain ⟨x47, hx47, hf⟩ := bd_if hf
          refine cs_i (wr := [(a_t, .inr (6, [.ref a_t_near])), (a_t_near, .inl (cI, 12, .inl x2t_near)), (a_o1, .inr (2, [.ref a_o1_roads, .int o1_homes])), (a_o1_roads, .inl (cI, 12, .inl o1_roads))]) (ws' := [(a_t, .inr (6, [.ref a_t_near])), (a_t_near, .inl (cI, 12, .inl x2t_near)), (a_o1, .inr (2, [.ref a_o1_roads, .int o1_homes])), (a_o1_roads, .inl (cI, 12, .inl o1_roads))]) ⟨hx, hb, hml, hown, hts⟩ hcw21 hK hN hP hD hS hA (c_J6_bitCount_0f7a4 l D cI cJ cZ cO _ l37v5 x47 hx47) [] [0, 1, 2, 3] [0, 1, 2, 3] rfl rfl rfl rfl (by decide) rfl rfl rfl hl.1 rfl (Nat.le_of_ble_eq_true rfl) dX6_fewestHomes_47 ⟨Nat.zero_le _, Nat.zero_le _⟩ (fun H locs hP hD hS => ?_)
          refine lv_iload hx hb dX6_fewestHomes_50 (lv_at hl 2 rfl) ?_
          refine lv_icmp_ge (tgt := 74) hx hb dX6_fewestHomes_52 (by decide) (fun hc => ?_) (fun hc => ?_)
          · replace hf := (if_pos hc).symm.trans hf
            refine lv_iinc (v := l37v5 + 1) (lv' := [(5, .int (l37v5 + 1)), (0, .ref a_t), (3, .int l37v3), (4, .int l37v4)]) hx hb dX6_fewestHomes_74 hl (k := 3) rfl rfl (by decide) rfl (fun ls hl => ?_)
            refine lv_goto (tgt := 37) hx hb dX6_fewestHomes_77 (by decide) ?_
            exact ih37 l37v3 l37v4 (l37v5 + 1) _ _ _ hP hD hS (lv_sub hl [1, 2, 3, 0] rfl) hf
          · replace hf := (if_neg hc).symm.trans hf
            refine lv_aload_n hx hb dX6_fewestHomes_55 rfl (lv_at hl 0 rfl) ?_
            refine lv_iload hx hb dX6_fewestHomes_56 (lv_at hl 3 rfl) ?_
            obtain ⟨x58, hx58, hf⟩ := bd_if hf
            refine cv_i (wr := [(a_o1, .inr (2, [.ref a_o1_roads, .int o1_homes])), (a_o1_roads, .inl (cI, 12, .inl o1_roads))]) (ws' := [(a_t, .inr (6, [.ref a_t_near])), (a_t_near, .inl (cI, 12, .inl x2t_near)), (a_o1, .inr (2, [.ref a_o1_roads, .int o1_homes])), (a_o1_roads, .inl (cI, 12, .inl o1_roads))]) ⟨hx, hb, hml, hown, hts⟩ hcw27 hK hN hP hD hS hA (c_X6_isNearAll l D cI cJ cZ cO _ a_t a_t_near x2t_near l37v5 x58 hx58) (q := (RX6, TX6, 1)) (ci := 6) (q0 := 0) rfl rfl [0, 1] [2, 3] [2, 3, 0, 1] rfl rfl rfl rfl (by decide) rfl rfl rfl hl.1 rfl (Nat.le_of_ble_eq_true rfl) dX6_fewestHomes_58 ⟨Nat.zero_le _, Nat.zero_le _⟩ (fun H locs hP hD hS => ?_)
            refine lv_if_eq (tgt := 74) hx hb dX6_fewestHomes_61 (by decide) (fun hc => ?_) (fun hc => ?_)
            · replace hf := (if_pos hc).symm.trans hf
              refine lv_iinc (v := l37v5 + 1) (lv' := [(5, .int (l37v5 + 1)), (0, .ref a_t), (3, .int l37v3), (4, .int l37v4)]) hx hb dX6_fewestHomes_74 hl (k := 3) rfl rfl (by decide) rfl (fun ls hl => ?_)
              refine lv_goto (tgt := 37) hx hb dX6_fewestHomes_77 (by decide) ?_
              exact ih37 l37v3 l37v4 (l37v5 + 1) _ _ _ hP hD hS (lv_sub hl [1, 2, 3, 0] rfl) hf
            · replace hf := (if_neg hc).symm.trans hf
              refine lv_iload hx hb dX6_fewestHomes_64 (lv_at hl 3 rfl) ?_
              refine lv_istore_n (lv' := [(3, .int l37v5), (0, .ref a_t), (4, .int l37v4), (5, .int l37v5)]) hx hb dX6_fewestHomes_66 rfl hl (by decide) rfl (fun ls hl => ?_)
              refine lv_iload hx hb dX6_fewestHomes_67 (lv_at hl 3 rfl) ?_
              obtain ⟨x69, hx69, hf⟩ := bd_if hf
              refine cs_i (wr := [(a_t, .inr (6, [.ref a_t_near])), (a_t_near, .inl (cI, 12, .inl x2t_near)), (a_o1, .inr (2, [.ref a_o1_roads, .int o1_homes])), (a_o1_roads, .inl (cI, 12, .inl o1_roads))]) (ws' := [(a_t, .inr (6, [.ref a_t_near])), (a_t_near, .inl (cI, 12, .inl x2t_near)), (a_o1, .inr (2, [.ref a_o1_roads, .int o1_homes])), (a_o1_roads, .inl (cI, 12, .inl o1_roads))]) ⟨hx, hb, hml, hown, hts⟩ hcw21 hK hN hP hD hS hA (c_J6_bitCount_0f7a4 l D cI cJ cZ cO _ l37v5 x69 hx69) [] [0, 1, 2, 3] [0, 1, 2, 3] rfl rfl rfl rfl (by decide) rfl rfl rfl hl.1 rfl (Nat.le_of_ble_eq_true rfl) dX6_fewestHomes_69 ⟨Nat.zero_le _, Nat.zero_le _⟩ (fun H locs hP hD hS => ?_)
              refine lv_istore (lv' := [(4, .int x69), (3, .int l37v5), (0, .ref a_t), (5, .int l37v5)]) hx hb dX6_fewestHomes_72 hl (by decide) rfl (fun ls hl => ?_)
              refine lv_iinc (v := l37v5 + 1) (lv' := [(5, .int (l37v5 + 1)), (4, .int x69), (3, .int l37v5), (0, .ref a_t)]) hx hb dX6_fewestHomes_74 hl (k := 3) rfl rfl (by decide) rfl (fun ls hl => ?_)
              refine lv_goto (tgt := 37) hx hb dX6_fewestHomes_77 (by decide) ?_
              exact ih37 l37v5 x69 (l37v5 + 1) _ _ _ hP hD hS (lv_sub hl [3, 2, 1, 0] rfl) hf
    exact hL37 5000 (4095 : Int32) (12 : Int32) (1 : Int32) _ _ _ hP hD hS (lv_sub hl [3, 2, 1, 0] rfl) hf
  have hL2 : ∀ (n2 : Nat), ∀ (l2v3 : Int32) (l2t_near : Nat → Int32) (H : Heap) (locs : List Loc) (ls : Array Slot), va_P D vwCl [(a_t, .inr (6, [.ref a_t_near])), (a_t_near, .inl (cI, 12, .inl l2t_near)), (a_o1, .inr (2, [.ref a_o1_roads, .int o1_homes])), (a_o1_roads, .inl (cI, 12, .inl o1_roads))] H → va_D A [(a_t, .inr (6, [.ref a_t_near])), (a_t_near, .inl (cI, 12, .inl l2t_near)), (a_o1, .inr (2, [.ref a_o1_roads, .int o1_homes])), (a_o1_roads, .inl (cI, 12, .inl o1_roads))] → va_S A s.heap H locs → lv_has ls 6 [(0, .ref a_t), (1, .ref a_o1), (2, .int p2), (3, .int l2v3)] → f_X6_fewestHomes_L2 o1_roads p2 f_X6_fewestHomes_X2 n2 l2v3 l2t_near = some res → W p l e rm_X6_fewestHomes s m args below meth c H locs 0 0 Q (F0 m 2 ls []) := by
    intro n2
    induction n2 with
    | zero =>
      intro l2v3 l2t_near H locs ls hP hD hS hl hf
      rw [f_X6_fewestHomes_L2] at hf
      cases hf
    | succ n2 ih2 =>
      intro l2v3 l2t_near H locs ls hP hD hS hl hf
      rw [f_X6_fewestHomes_L2] at hf
      refine lv_iload_n hx hb dX6_fewestHomes_2 rfl (lv_at hl 3 rfl) ?_
      refine lv_bipush (v := 12) hx hb dX6_fewestHomes_3 (by decide) ?_
      refine lv_icmp_ge (tgt := 26) hx hb dX6_fewestHomes_5 (by decide) (fun hc => ?_) (fun hc => ?_)
      · replace hf := (if_pos hc).symm.trans hf
        exact hX2 l2t_near _ _ _ hP hD hS (lv_sub hl [0] rfl) hf
      · replace hf := (if_neg hc).symm.trans hf
        refine lv_aload_n hx hb dX6_fewestHomes_8 rfl (lv_at hl 0 rfl) ?_
        refine va_get (D := D) (ci := 6) (v := .ref a_t_near) (C := RX6) (T := TX6) (N := 1) hx hb hts hmsX6 hown hK hP 0 rfl rfl 0 (by decide) hw9 (fun _ h9 => h9) rfl dX6_fewestHomes_9 ?_
        refine lv_iload_n hx hb dX6_fewestHomes_12 rfl (lv_at hl 3 rfl) ?_
        refine lv_aload_n hx hb dX6_fewestHomes_13 rfl (lv_at hl 1 rfl) ?_
        refine lv_iload_n hx hb dX6_fewestHomes_14 rfl (lv_at hl 3 rfl) ?_
        refine lv_iload_n hx hb dX6_fewestHomes_15 rfl (lv_at hl 2 rfl) ?_
        obtain ⟨x16, hx16, hf⟩ := bd_if hf
        refine cv_i (wr := [(a_t, .inr (6, [.ref a_t_near])), (a_t_near, .inl (cI, 12, .inl l2t_near))]) (ws' := [(a_t, .inr (6, [.ref a_t_near])), (a_t_near, .inl (cI, 12, .inl l2t_near)), (a_o1, .inr (2, [.ref a_o1_roads, .int o1_homes])), (a_o1_roads, .inl (cI, 12, .inl o1_roads))]) ⟨hx, hb, hml, hown, hts⟩ hcw15 hK hN hP hD hS hA (c_X2_within l D cI cJ cZ cO _ a_o1 a_o1_roads o1_homes o1_roads l2v3 p2 x16 hx16) (q := (RX2, TX2, 2)) (ci := 2) (q0 := 2) rfl rfl [2, 3] [0, 1] [0, 1, 2, 3] rfl rfl rfl rfl (by decide) rfl rfl rfl hl.1 rfl (Nat.le_of_ble_eq_true rfl) dX6_fewestHomes_16 ⟨Nat.zero_le _, Nat.zero_le _⟩ (fun H locs hP hD hS => ?_)
        obtain ⟨hi19, hf⟩ := ix_if hf
        refine va_iast (D := D) hx hb hK hP hD hS 1 0 rfl rfl hi19 dX6_fewestHomes_19 (fun H locs hP hD hS => ?_)
        replace hP : va_P D vwCl [(a_t, .inr (6, [.ref a_t_near])), (a_t_near, .inl (cI, 12, .inl (upd l2t_near l2v3.toNatClampNeg x16))), (a_o1, .inr (2, [.ref a_o1_roads, .int o1_homes])), (a_o1_roads, .inl (cI, 12, .inl o1_roads))] H := hP
        replace hD : va_D A [(a_t, .inr (6, [.ref a_t_near])), (a_t_near, .inl (cI, 12, .inl (upd l2t_near l2v3.toNatClampNeg x16))), (a_o1, .inr (2, [.ref a_o1_roads, .int o1_homes])), (a_o1_roads, .inl (cI, 12, .inl o1_roads))] := hD
        refine lv_iinc (v := l2v3 + 1) (lv' := [(3, .int (l2v3 + 1)), (0, .ref a_t), (1, .ref a_o1), (2, .int p2)]) hx hb dX6_fewestHomes_20 hl (k := 3) rfl rfl (by decide) rfl (fun ls hl => ?_)
        refine lv_goto (tgt := 2) hx hb dX6_fewestHomes_23 (by decide) ?_
        exact ih2 (l2v3 + 1) (upd l2t_near l2v3.toNatClampNeg x16) _ _ _ hP hD hS (lv_sub hl [1, 2, 3, 0] rfl) hf
  exact hL2 5000 (0 : Int32) t_near _ _ _ hP hD hS (lv_sub hl [1, 2, 3, 0] rfl) hf
abbrev rm_X7_add : Room := { frames := 1, cells := 0, slots := 0, locals := 22 }
theorem ms_X7_add_X7 : ∀ w ∈ u_ws RX7 TX7 4, w ∈ wsX7_add := fun w h => List.mem_cons_of_mem _ (List.mem_append_right _ (h))
set_option maxHeartbeats 4000000 in
set_option maxRecDepth 100000 in
theorem c_X7_add (l : Launch) (D : va_G) (cI cJ cZ cO : ClassId) (sz : Nat) (a_t : Nat) (a_t_froms : Nat) (a_t_tos : Nat) (t_nearers : Int32) (t_size : Int32) (t_froms : Nat → Int32) (t_tos : Nat → Int32) (p1 : Int32) (p2 : Int32) (p3 : Int32) (res : Int32 × Int32 × Int32 × (Nat → Int32) × (Nat → Int32)) (hf : f_X7_add t_nearers t_size t_froms t_tos p1 p2 p3 = some res) : MetI l yX7_add wsX7_add rm_X7_add [.ref a_t, .int p1, .int p2, .int p3] D (tys4 cI cJ cZ cO) [(a_t, .inr (7, [.ref a_t_froms, .ref a_t_tos, .int t_nearers, .int t_size])), (a_t_froms, .inl (cI, 8, .inl t_froms)), (a_t_tos, .inl (cI, 8, .inl t_tos))] sz res.1 [(a_t, .inr (7, [.ref a_t_froms, .ref a_t_tos, .int res.2.1, .int res.2.2.1])), (a_t_froms, .inl (cI, 8, .inl res.2.2.2.1)), (a_t_tos, .inl (cI, 8, .inl res.2.2.2.2))] := by
  refine met_z (cc := cX7_add) (maxL := 4) (by decide) rfl (Nat.le_of_ble_eq_true rfl) ?_
  intro p e s m args below meth c Q A hx hb hml hown hts hK hN hA fin H locs ls hP hD hS hl
  replace hown : s.vm.findClass RX7 = some m.cls := hown
  replace hl : lv_has ls 4 [(0, .ref a_t), (1, .int p1), (2, .int p2), (3, .int p3)] := hl
  rw [f_X7_add] at hf
  have hw22 := hts (.fieldLink RX7 22 "TouchReign$Sights" "size" "I") (by decide +kernel)
  have hmsX7 := ms_X7_add_X7
  have hw9 := hts (.fieldLink RX7 9 "TouchReign$Sights" "froms" "[I") (by decide +kernel)
  have hw15 := hts (.fieldLink RX7 15 "TouchReign$Sights" "tos" "[I") (by decide +kernel)
  have hw18 := hts (.fieldLink RX7 18 "TouchReign$Sights" "nearers" "I") (by decide +kernel)
  have hiniX9 := hts (.initialized RX9) (by decide +kernel)
  have hcw31 := va_cnB (R := rm_X7_add) (rm := rm_X9_marked) 3 hts gX7_add_X9_marked_n31 rfl rfl rfl (hN.1 (.methodLinkNest RX7 31 yX9_marked RX9) (by decide +kernel)) hiniX9 (by decide +kernel) ⟨Nat.le_of_ble_eq_true rfl, Nat.le_of_ble_eq_true rfl⟩
  have hst31 := hts (.static yX9_marked) (by decide +kernel)
  refine lv_aload_n hx hb dX7_add_0 rfl (lv_at hl 0 rfl) ?_
  refine va_get (D := D) (ci := 7) (v := .int t_size) (C := RX7) (T := TX7) (N := 4) hx hb hts hmsX7 hown hK hP 0 rfl rfl 3 (by decide) hw22 (fun _ h9 => h9) rfl dX7_add_1 ?_
  refine lv_if_lt (tgt := 16) hx hb dX7_add_4 (by decide) (fun hc => ?_) (fun hc => ?_)
  · replace hf := (if_pos hc).symm.trans hf
    refine lv_iconst (v := 0) hx hb dX7_add_16 (by decide) ?_
    obtain rfl := Option.some.inj hf
    exact fin _ _ _ _ nb_0 dX7_add_17 hP hD hS
  · replace hf := (if_neg hc).symm.trans hf
    refine lv_aload_n hx hb dX7_add_7 rfl (lv_at hl 0 rfl) ?_
    refine va_get (D := D) (ci := 7) (v := .int t_size) (C := RX7) (T := TX7) (N := 4) hx hb hts hmsX7 hown hK hP 0 rfl rfl 3 (by decide) hw22 (fun _ h9 => h9) rfl dX7_add_8 ?_
    refine lv_bipush (v := 8) hx hb dX7_add_11 (by decide) ?_
    refine lv_icmp_lt (tgt := 18) hx hb dX7_add_13 (by decide) (fun hc => ?_) (fun hc => ?_)
    · replace hf := (if_pos hc).symm.trans hf
      refine lv_aload_n hx hb dX7_add_18 rfl (lv_at hl 0 rfl) ?_
      refine va_get (D := D) (ci := 7) (v := .ref a_t_froms) (C := RX7) (T := TX7) (N := 4) hx hb hts hmsX7 hown hK hP 0 rfl rfl 0 (by decide) hw9 (fun _ h9 => h9) rfl dX7_add_19 ?_
      refine lv_aload_n hx hb dX7_add_22 rfl (lv_at hl 0 rfl) ?_
      refine va_get (D := D) (ci := 7) (v := .int t_size) (C := RX7) (T := TX7) (N := 4) hx hb hts hmsX7 hown hK hP 0 rfl rfl 3 (by decide) hw22 (fun _ h9 => h9) rfl dX7_add_23 ?_
      refine lv_iload_n hx hb dX7_add_26 rfl (lv_at hl 1 rfl) ?_
      obtain ⟨hi27, hf⟩ := ix_if hf
      refine va_iast (D := D) hx hb hK hP hD hS 1 0 rfl rfl hi27 dX7_add_27 (fun H locs hP hD hS => ?_)
      replace hP : va_P D vwCl [(a_t, .inr (7, [.ref a_t_froms, .ref a_t_tos, .int t_nearers, .int t_size])), (a_t_froms, .inl (cI, 8, .inl (upd t_froms t_size.toNatClampNeg p1))), (a_t_tos, .inl (cI, 8, .inl t_tos))] H := hP
      replace hD : va_D A [(a_t, .inr (7, [.ref a_t_froms, .ref a_t_tos, .int t_nearers, .int t_size])), (a_t_froms, .inl (cI, 8, .inl (upd t_froms t_size.toNatClampNeg p1))), (a_t_tos, .inl (cI, 8, .inl t_tos))] := hD
      refine lv_aload_n hx hb dX7_add_28 rfl (lv_at hl 0 rfl) ?_
      refine va_get (D := D) (ci := 7) (v := .ref a_t_tos) (C := RX7) (T := TX7) (N := 4) hx hb hts hmsX7 hown hK hP 0 rfl rfl 1 (by decide) hw15 (fun _ h9 => h9) rfl dX7_add_29 ?_
      refine lv_aload_n hx hb dX7_add_32 rfl (lv_at hl 0 rfl) ?_
      refine va_get (D := D) (ci := 7) (v := .int t_size) (C := RX7) (T := TX7) (N := 4) hx hb hts hmsX7 hown hK hP 0 rfl rfl 3 (by decide) hw22 (fun _ h9 => h9) rfl dX7_add_33 ?_
      refine lv_iload_n hx hb dX7_add_36 rfl (lv_at hl 2 rfl) ?_
      refine va_iast (D := D) hx hb hK hP hD hS 2 0 rfl rfl hi27 dX7_add_37 (fun H locs hP hD hS => ?_)
      replace hP : va_P D vwCl [(a_t, .inr (7, [.ref a_t_froms, .ref a_t_tos, .int t_nearers, .int t_size])), (a_t_froms, .inl (cI, 8, .inl (upd t_froms t_size.toNatClampNeg p1))), (a_t_tos, .inl (cI, 8, .inl (upd t_tos t_size.toNatClampNeg p2)))] H := hP
      replace hD : va_D A [(a_t, .inr (7, [.ref a_t_froms, .ref a_t_tos, .int t_nearers, .int t_size])), (a_t_froms, .inl (cI, 8, .inl (upd t_froms t_size.toNatClampNeg p1))), (a_t_tos, .inl (cI, 8, .inl (upd t_tos t_size.toNatClampNeg p2)))] := hD
      refine lv_aload_n hx hb dX7_add_38 rfl (lv_at hl 0 rfl) ?_
      refine lv_aload_n hx hb dX7_add_39 rfl (lv_at hl 0 rfl) ?_
      refine va_get (D := D) (ci := 7) (v := .int t_nearers) (C := RX7) (T := TX7) (N := 4) hx hb hts hmsX7 hown hK hP 0 rfl rfl 2 (by decide) hw18 (fun _ h9 => h9) rfl dX7_add_40 ?_
      refine lv_aload_n hx hb dX7_add_43 rfl (lv_at hl 0 rfl) ?_
      refine va_get (D := D) (ci := 7) (v := .int t_size) (C := RX7) (T := TX7) (N := 4) hx hb hts hmsX7 hown hK hP 0 rfl rfl 3 (by decide) hw22 (fun _ h9 => h9) rfl dX7_add_44 ?_
      refine lv_iload_n hx hb dX7_add_47 rfl (lv_at hl 3 rfl) ?_
      obtain ⟨x48, hx48, hf⟩ := bd_if hf
      refine cn_i (wr := [(a_t, .inr (7, [.ref a_t_froms, .ref a_t_tos, .int t_nearers, .int t_size])), (a_t_froms, .inl (cI, 8, .inl (upd t_froms t_size.toNatClampNeg p1))), (a_t_tos, .inl (cI, 8, .inl (upd t_tos t_size.toNatClampNeg p2)))]) (ws' := [(a_t, .inr (7, [.ref a_t_froms, .ref a_t_tos, .int t_nearers, .int t_size])), (a_t_froms, .inl (cI, 8, .inl (upd t_froms t_size.toNatClampNeg p1))), (a_t_tos, .inl (cI, 8, .inl (upd t_tos t_size.toNatClampNeg p2)))]) ⟨hx, hb, hml, hown, hts⟩ ⟨hcw31, hst31, trivial⟩ hK hN hP hD hS hA (c_X9_marked l D cI cJ cZ cO _ t_nearers t_size p3 x48 hx48) [] [0, 1, 2] [0, 1, 2] rfl rfl rfl rfl (by decide) rfl rfl rfl hl.1 rfl (Nat.le_of_ble_eq_true rfl) dX7_add_48 ⟨Nat.zero_le _, Nat.zero_le _⟩ (fun H locs hP hD hS => ?_)
      refine va_put (D := D) (ci := 7) (v := .int x48) (ty := .int) (C := RX7) (T := TX7) (N := 4) hx hb hts hmsX7 tyX7 tyX7_ok nmX7 hown hK hP hD hS 0 rfl rfl 2 (by decide) hw18 (fun _ h9 => h9) rfl (by decide +kernel) rfl rfl (Nat.le_of_ble_eq_true rfl) dX7_add_51 (fun H locs hP hD hS => ?_)
      replace hP : va_P D vwCl [(a_t, .inr (7, [.ref a_t_froms, .ref a_t_tos, .int x48, .int t_size])), (a_t_froms, .inl (cI, 8, .inl (upd t_froms t_size.toNatClampNeg p1))), (a_t_tos, .inl (cI, 8, .inl (upd t_tos t_size.toNatClampNeg p2)))] H := hP
      replace hD : va_D A [(a_t, .inr (7, [.ref a_t_froms, .ref a_t_tos, .int x48, .int t_size])), (a_t_froms, .inl (cI, 8, .inl (upd t_froms t_size.toNatClampNeg p1))), (a_t_tos, .inl (cI, 8, .inl (upd t_tos t_size.toNatClampNeg p2)))] := hD
      refine lv_aload_n hx hb dX7_add_54 rfl (lv_at hl 0 rfl) ?_
      refine lv_dup hx hb dX7_add_55 rfl ?_
      refine va_get (D := D) (ci := 7) (v := .int t_size) (C := RX7) (T := TX7) (N := 4) hx hb hts hmsX7 hown hK hP 0 rfl rfl 3 (by decide) hw22 (fun _ h9 => h9) rfl dX7_add_56 ?_
      refine lv_iconst (v := 1) hx hb dX7_add_59 (by decide) ?_
      refine lv_iadd hx hb dX7_add_60 ?_
      refine va_put (D := D) (ci := 7) (v := .int (t_size + (1 : Int32))) (ty := .int) (C := RX7) (T := TX7) (N := 4) hx hb hts hmsX7 tyX7 tyX7_ok nmX7 hown hK hP hD hS 0 rfl rfl 3 (by decide) hw22 (fun _ h9 => h9) rfl (by decide +kernel) rfl rfl (Nat.le_of_ble_eq_true rfl) dX7_add_61 (fun H locs hP hD hS => ?_)
      replace hP : va_P D vwCl [(a_t, .inr (7, [.ref a_t_froms, .ref a_t_tos, .int x48, .int (t_size + (1 : Int32))])), (a_t_froms, .inl (cI, 8, .inl (upd t_froms t_size.toNatClampNeg p1))), (a_t_tos, .inl (cI, 8, .inl (upd t_tos t_size.toNatClampNeg p2)))] H := hP
      replace hD : va_D A [(a_t, .inr (7, [.ref a_t_froms, .ref a_t_tos, .int x48, .int (t_size + (1 : Int32))])), (a_t_froms, .inl (cI, 8, .inl (upd t_froms t_size.toNatClampNeg p1))), (a_t_tos, .inl (cI, 8, .inl (upd t_tos t_size.toNatClampNeg p2)))] := hD
      refine lv_iconst (v := 1) hx hb dX7_add_64 (by decide) ?_
      obtain rfl := Option.some.inj hf
      exact fin _ _ _ _ nb_1 dX7_add_65 hP hD hS
    · replace hf := (if_neg hc).symm.trans hf
      refine lv_iconst (v := 0) hx hb dX7_add_16 (by decide) ?_
      obtain rfl := Option.some.inj hf
      exact fin _ _ _ _ nb_0 dX7_add_17 hP hD hS
abbrev rm_X7_fitting : Room := { frames := 3, cells := 0, slots := 0, locals := 71 }
theorem ms_X7_fitting_X7 : ∀ w ∈ u_ws RX7 TX7 4, w ∈ wsX7_fitting := fun w h => List.mem_cons_of_mem _ (List.mem_append_left _ (List.mem_append_right _ (h)))
set_option maxHeartbeats 4000000 in
set_option maxRecDepth 100000 in
theorem c_X7_fitting (l : Launch) (D : va_G) (cI cJ cZ cO : ClassId) (sz : Nat) (a_t : Nat) (a_t_froms : Nat) (a_t_tos : Nat) (a_o1 : Nat) (a_o1_roads : Nat) (t_nearers : Int32) (t_size : Int32) (t_froms : Nat → Int32) (t_tos : Nat → Int32) (o1_homes : Int32) (o1_roads : Nat → Int32) (res : Int32) (hf : f_X7_fitting t_nearers t_size t_froms t_tos o1_roads = some res) : MetI l yX7_fitting wsX7_fitting rm_X7_fitting [.ref a_t, .ref a_o1] D (tys4 cI cJ cZ cO) [(a_t, .inr (7, [.ref a_t_froms, .ref a_t_tos, .int t_nearers, .int t_size])), (a_t_froms, .inl (cI, 8, .inl t_froms)), (a_t_tos, .inl (cI, 8, .inl t_tos)), (a_o1, .inr (2, [.ref a_o1_roads, .int o1_homes])), (a_o1_roads, .inl (cI, 12, .inl o1_roads))] sz res [(a_t, .inr (7, [.ref a_t_froms, .ref a_t_tos, .int t_nearers, .int t_size])), (a_t_froms, .inl (cI, 8, .inl t_froms)), (a_t_tos, .inl (cI, 8, .inl t_tos)), (a_o1, .inr (2, [.ref a_o1_roads, .int o1_homes])), (a_o1_roads, .inl (cI, 12, .inl o1_roads))] := by
  refine met_i (cc := cX7_fitting) (maxL := 4) (by decide) rfl (Nat.le_of_ble_eq_true rfl) ?_
  intro p e s m args below meth c Q A hx hb hml hown hts hK hN hA fin H locs ls hP hD hS hl
  replace hown : s.vm.findClass RX7 = some m.cls := hown
  replace hl : lv_has ls 4 [(0, .ref a_t), (1, .ref a_o1)] := hl
  rw [f_X7_fitting] at hf
  have hw22 := hts (.fieldLink RX7 22 "TouchReign$Sights" "size" "I") (by decide +kernel)
  have hmsX7 := ms_X7_fitting_X7
  have hw9 := hts (.fieldLink RX7 9 "TouchReign$Sights" "froms" "[I") (by decide +kernel)
  have hw15 := hts (.fieldLink RX7 15 "TouchReign$Sights" "tos" "[I") (by decide +kernel)
  have hw18 := hts (.fieldLink RX7 18 "TouchReign$Sights" "nearers" "I") (by decide +kernel)
  have hiniX9 := hts (.initialized RX9) (by decide +kernel)
  have hcw35 := va_cnB (R := rm_X7_fitting) (rm := rm_X9_holds) 2 hts gX7_fitting_X9_holds_n35 rfl rfl rfl (hN.1 (.methodLinkNest RX7 35 yX9_holds RX9) (by decide +kernel)) hiniX9 (by decide +kernel) ⟨Nat.le_of_ble_eq_true rfl, Nat.le_of_ble_eq_true rfl⟩
  have hst35 := hts (.static yX9_holds) (by decide +kernel)
  have hcw39 := cwV (R := rm_X7_fitting) (rm := rm_X2_fitting) 3 hts gX7_fitting_X2_fitting rfl rfl rfl (by decide +kernel) ⟨Nat.le_of_ble_eq_true rfl, Nat.le_of_ble_eq_true rfl⟩
  refine lv_sipush (v := 4095) hx hb dX7_fitting_0 (by decide) ?_
  refine lv_istore_n (lv' := [(2, .int (4095 : Int32)), (0, .ref a_t), (1, .ref a_o1)]) hx hb dX7_fitting_3 rfl hl (by decide) rfl (fun ls hl => ?_)
  refine lv_iconst (v := 0) hx hb dX7_fitting_4 (by decide) ?_
  refine lv_istore_n (lv' := [(3, .int (0 : Int32)), (2, .int (4095 : Int32)), (0, .ref a_t), (1, .ref a_o1)]) hx hb dX7_fitting_5 rfl hl (by decide) rfl (fun ls hl => ?_)
  have hX6 : ∀ (x6v2 : Int32) (H : Heap) (locs : List Loc) (ls : Array Slot), va_P D vwCl [(a_t, .inr (7, [.ref a_t_froms, .ref a_t_tos, .int t_nearers, .int t_size])), (a_t_froms, .inl (cI, 8, .inl t_froms)), (a_t_tos, .inl (cI, 8, .inl t_tos)), (a_o1, .inr (2, [.ref a_o1_roads, .int o1_homes])), (a_o1_roads, .inl (cI, 12, .inl o1_roads))] H → va_D A [(a_t, .inr (7, [.ref a_t_froms, .ref a_t_tos, .int t_nearers, .int t_size])), (a_t_froms, .inl (cI, 8, .inl t_froms)), (a_t_tos, .inl (cI, 8, .inl t_tos)), (a_o1, .inr (2, [.ref a_o1_roads, .int o1_homes])), (a_o1_roads, .inl (cI, 12, .inl o1_roads))] → va_S A s.heap H locs → lv_has ls 4 [(2, .int x6v2)] → f_X7_fitting_X6 x6v2 = some res → W p l e rm_X7_fitting s m args below meth c H locs 0 0 Q (F0 m 53 ls []) := by
    intro x6v2 H locs ls hP hD hS hl hf
    rw [f_X7_fitting_X6] at hf
    refine lv_iload_n hx hb dX7_fitting_53 rfl (lv_at hl 0 rfl) ?_
    obtain rfl := Option.some.inj hf
    exact fin _ _ _ _ dX7_fitting_54 hP hD hS
  have hL6 : ∀ (n6 : Nat), ∀ (l6v2 : Int32) (l6v3 : Int32) (H : Heap) (locs : List Loc) (ls : Array Slot), va_P D vwCl [(a_t, .inr (7, [.ref a_t_froms, .ref a_t_tos, .int t_nearers, .int t_size])), (a_t_froms, .inl (cI, 8, .inl t_froms)), (a_t_tos, .inl (cI, 8, .inl t_tos)), (a_o1, .inr (2, [.ref a_o1_roads, .int o1_homes])), (a_o1_roads, .inl (cI, 12, .inl o1_roads))] H → va_D A [(a_t, .inr (7, [.ref a_t_froms, .ref a_t_tos, .int t_nearers, .int t_size])), (a_t_froms, .inl (cI, 8, .inl t_froms)), (a_t_tos, .inl (cI, 8, .inl t_tos)), (a_o1, .inr (2, [.ref a_o1_roads, .int o1_homes])), (a_o1_roads, .inl (cI, 12, .inl o1_roads))] → va_S A s.heap H locs → lv_has ls 4 [(0, .ref a_t), (1, .ref a_o1), (2, .int l6v2), (3, .int l6v3)] → f_X7_fitting_L6 t_nearers t_size t_froms t_tos o1_roads f_X7_fitting_X6 n6 l6v2 l6v3 = some res → W p l e rm_X7_fitting s m args below meth c H locs 0 0 Q (F0 m 6 ls []) := by
    intro n6
    induction n6 with
    | zero =>
      intro l6v2 l6v3 H locs ls hP hD hS hl hf
      rw [f_X7_fitting_L6] at hf
      cases hf
    | succ n6 ih6 =>
      intro l6v2 l6v3 H locs ls hP hD hS hl hf
      rw [f_X7_fitting_L6] at hf
      refine lv_iload_n hx hb dX7_fitting_6 rfl (lv_at hl 3 rfl) ?_
      refine lv_aload_n hx hb dX7_fitting_7 rfl (lv_at hl 0 rfl) ?_
      refine va_get (D := D) (ci := 7) (v := .int t_size) (C := RX7) (T := TX7) (N := 4) hx hb hts hmsX7 hown hK hP 0 rfl rfl 3 (by decide) hw22 (fun _ h9 => h9) rfl dX7_fitting_8 ?_
      refine lv_icmp_ge (tgt := 53) hx hb dX7_fitting_11 (by decide) (fun hc => ?_) (fun hc => ?_)
      · replace hf := (if_pos hc).symm.trans hf
        exact hX6 l6v2 _ _ _ hP hD hS (lv_sub hl [2] rfl) hf
      · replace hf := (if_neg hc).symm.trans hf
        refine lv_iload_n hx hb dX7_fitting_14 rfl (lv_at hl 3 rfl) ?_
        refine lv_bipush (v := 8) hx hb dX7_fitting_15 (by decide) ?_
        refine lv_icmp_ge (tgt := 53) hx hb dX7_fitting_17 (by decide) (fun hc => ?_) (fun hc => ?_)
        · replace hf := (if_pos hc).symm.trans hf
          exact hX6 l6v2 _ _ _ hP hD hS (lv_sub hl [2] rfl) hf
        · replace hf := (if_neg hc).symm.trans hf
          refine lv_iload_n hx hb dX7_fitting_20 rfl (lv_at hl 2 rfl) ?_
          refine lv_aload_n hx hb dX7_fitting_21 rfl (lv_at hl 1 rfl) ?_
          refine lv_aload_n hx hb dX7_fitting_22 rfl (lv_at hl 0 rfl) ?_
          refine va_get (D := D) (ci := 7) (v := .ref a_t_froms) (C := RX7) (T := TX7) (N := 4) hx hb hts hmsX7 hown hK hP 0 rfl rfl 0 (by decide) hw9 (fun _ h9 => h9) rfl dX7_fitting_23 ?_
          refine lv_iload_n hx hb dX7_fitting_26 rfl (lv_at hl 3 rfl) ?_
          obtain ⟨hi27, hf⟩ := ix_if hf
          refine va_iald (D := D) hx hb hK hP 1 0 rfl rfl hi27 dX7_fitting_27 ?_
          refine lv_aload_n hx hb dX7_fitting_28 rfl (lv_at hl 0 rfl) ?_
          refine va_get (D := D) (ci := 7) (v := .ref a_t_tos) (C := RX7) (T := TX7) (N := 4) hx hb hts hmsX7 hown hK hP 0 rfl rfl 1 (by decide) hw15 (fun _ h9 => h9) rfl dX7_fitting_29 ?_
          refine lv_iload_n hx hb dX7_fitting_32 rfl (lv_at hl 3 rfl) ?_
          refine va_iald (D := D) hx hb hK hP 2 0 rfl rfl hi27 dX7_fitting_33 ?_
          refine lv_aload_n hx hb dX7_fitting_34 rfl (lv_at hl 0 rfl) ?_
          refine va_get (D := D) (ci := 7) (v := .int t_nearers) (C := RX7) (T := TX7) (N := 4) hx hb hts hmsX7 hown hK hP 0 rfl rfl 2 (by decide) hw18 (fun _ h9 => h9) rfl dX7_fitting_35 ?_
          refine lv_iload_n hx hb dX7_fitting_38 rfl (lv_at hl 3 rfl) ?_
          obtain ⟨x39, hx39, hf⟩ := bd_if hf
          refine cn_i (wr := [(a_t, .inr (7, [.ref a_t_froms, .ref a_t_tos, .int t_nearers, .int t_size])), (a_t_froms, .inl (cI, 8, .inl t_froms)), (a_t_tos, .inl (cI, 8, .inl t_tos)), (a_o1, .inr (2, [.ref a_o1_roads, .int o1_homes])), (a_o1_roads, .inl (cI, 12, .inl o1_roads))]) (ws' := [(a_t, .inr (7, [.ref a_t_froms, .ref a_t_tos, .int t_nearers, .int t_size])), (a_t_froms, .inl (cI, 8, .inl t_froms)), (a_t_tos, .inl (cI, 8, .inl t_tos)), (a_o1, .inr (2, [.ref a_o1_roads, .int o1_homes])), (a_o1_roads, .inl (cI, 12, .inl o1_roads))]) ⟨hx, hb, hml, hown, hts⟩ ⟨hcw35, hst35, trivial⟩ hK hN hP hD hS hA (c_X9_holds l D cI cJ cZ cO _ t_nearers l6v3 x39 hx39) [] [0, 1, 2, 3, 4] [0, 1, 2, 3, 4] rfl rfl rfl rfl (by decide) rfl rfl rfl hl.1 rfl (Nat.le_of_ble_eq_true rfl) dX7_fitting_39 ⟨Nat.zero_le _, Nat.zero_le _⟩ (fun H locs hP hD hS => ?_)
          obtain ⟨x42, hx42, hf⟩ := bd_if hf
          refine cv_i (wr := [(a_t, .inr (7, [.ref a_t_froms, .ref a_t_tos, .int t_nearers, .int t_size])), (a_t_froms, .inl (cI, 8, .inl t_froms)), (a_t_tos, .inl (cI, 8, .inl t_tos))]) (ws' := [(a_t, .inr (7, [.ref a_t_froms, .ref a_t_tos, .int t_nearers, .int t_size])), (a_t_froms, .inl (cI, 8, .inl t_froms)), (a_t_tos, .inl (cI, 8, .inl t_tos)), (a_o1, .inr (2, [.ref a_o1_roads, .int o1_homes])), (a_o1_roads, .inl (cI, 12, .inl o1_roads))]) ⟨hx, hb, hml, hown, hts⟩ hcw39 hK hN hP hD hS hA (c_X2_fitting l D cI cJ cZ cO _ a_o1 a_o1_roads o1_homes o1_roads (t_froms l6v3.toNatClampNeg) (t_tos l6v3.toNatClampNeg) x39 x42 hx42) (q := (RX2, TX2, 2)) (ci := 2) (q0 := 3) rfl rfl [3, 4] [0, 1, 2] [0, 1, 2, 3, 4] rfl rfl rfl rfl (by decide) rfl rfl rfl hl.1 rfl (Nat.le_of_ble_eq_true rfl) dX7_fitting_42 ⟨Nat.zero_le _, Nat.zero_le _⟩ (fun H locs hP hD hS => ?_)
          refine lv_iand hx hb dX7_fitting_45 ?_
          refine lv_istore_n (lv' := [(2, .int (l6v2 &&& x42)), (0, .ref a_t), (1, .ref a_o1), (3, .int l6v3)]) hx hb dX7_fitting_46 rfl hl (by decide) rfl (fun ls hl => ?_)
          refine lv_iinc (v := l6v3 + 1) (lv' := [(3, .int (l6v3 + 1)), (2, .int (l6v2 &&& x42)), (0, .ref a_t), (1, .ref a_o1)]) hx hb dX7_fitting_47 hl (k := 3) rfl rfl (by decide) rfl (fun ls hl => ?_)
          refine lv_goto (tgt := 6) hx hb dX7_fitting_50 (by decide) ?_
          exact ih6 (l6v2 &&& x42) (l6v3 + 1) _ _ _ hP hD hS (lv_sub hl [2, 3, 1, 0] rfl) hf
  exact hL6 5000 (4095 : Int32) (0 : Int32) _ _ _ hP hD hS (lv_sub hl [2, 3, 1, 0] rfl) hf
abbrev rm_X9_commonDivisor : Room := { frames := 0, cells := 0, slots := 0, locals := 0 }
set_option maxHeartbeats 4000000 in
set_option maxRecDepth 100000 in
theorem c_X9_commonDivisor (l : Launch) (D : va_G) (cI cJ cZ cO : ClassId) (sz : Nat) (p0 : Int64) (p2 : Int64) (res : Int64) (hf : f_X9_commonDivisor p0 p2 = some res) : MetL l yX9_commonDivisor wsX9_commonDivisor rm_X9_commonDivisor [.long p0, .long p2] D (tys4 cI cJ cZ cO) [] sz res [] := by
  refine met_l (cc := cX9_commonDivisor) (maxL := 7) (by decide) rfl (Nat.le_of_ble_eq_true rfl) ?_
  intro p e s m args below meth c Q A hx hb hml hown hts hK hN hA fin H locs ls hP hD hS hl
  replace hown : s.vm.findClass RX9 = some m.cls := hown
  replace hl : lv_has ls 7 [(0, .long p0), (2, .long p2)] := hl
  rw [f_X9_commonDivisor] at hf
  refine lv_iconst (v := 0) hx hb dX9_commonDivisor_0 (by decide) ?_
  refine lv_istore (lv' := [(4, .int (0 : Int32)), (0, .long p0), (2, .long p2)]) hx hb dX9_commonDivisor_1 hl (by decide) rfl (fun ls hl => ?_)
  have hX3 : ∀ (x3v0 : Int64) (H : Heap) (locs : List Loc) (ls : Array Slot), va_P D vwCl [] H → va_D A [] → va_S A s.heap H locs → lv_has ls 7 [(0, .long x3v0)] → f_X9_commonDivisor_X3 x3v0 = some res → W p l e rm_X9_commonDivisor s m args below meth c H locs 0 0 Q (F0 m 32 ls []) := by
    intro x3v0 H locs ls hP hD hS hl hf
    rw [f_X9_commonDivisor_X3] at hf
    refine lv_lload_n hx hb dX9_commonDivisor_32 rfl (lv_at hl 0 rfl) ?_
    obtain rfl := Option.some.inj hf
    exact fin _ _ _ _ dX9_commonDivisor_33 hP hD hS
  have hL3 : ∀ (n3 : Nat), ∀ (l3v0 : Int64) (l3v2 : Int64) (l3v4 : Int32) (H : Heap) (locs : List Loc) (ls : Array Slot), va_P D vwCl [] H → va_D A [] → va_S A s.heap H locs → lv_has ls 7 [(0, .long l3v0), (2, .long l3v2), (4, .int l3v4)] → f_X9_commonDivisor_L3 f_X9_commonDivisor_X3 n3 l3v0 l3v2 l3v4 = some res → W p l e rm_X9_commonDivisor s m args below meth c H locs 0 0 Q (F0 m 3 ls []) := by
    intro n3
    induction n3 with
    | zero =>
      intro l3v0 l3v2 l3v4 H locs ls hP hD hS hl hf
      rw [f_X9_commonDivisor_L3] at hf
      cases hf
    | succ n3 ih3 =>
      intro l3v0 l3v2 l3v4 H locs ls hP hD hS hl hf
      rw [f_X9_commonDivisor_L3] at hf
      refine lv_iload hx hb dX9_commonDivisor_3 (lv_at hl 2 rfl) ?_
      refine lv_bipush (v := 100) hx hb dX9_commonDivisor_5 (by decide) ?_
      refine lv_icmp_ge (tgt := 32) hx hb dX9_commonDivisor_7 (by decide) (fun hc => ?_) (fun hc => ?_)
      · replace hf := (if_pos hc).symm.trans hf
        exact hX3 l3v0 _ _ _ hP hD hS (lv_sub hl [0] rfl) hf
      · replace hf := (if_neg hc).symm.trans hf
        refine lv_lload_n hx hb dX9_commonDivisor_10 rfl (lv_at hl 1 rfl) ?_
        refine lv_lconst (v := 0) hx hb dX9_commonDivisor_11 (by decide) ?_
        refine W.lcmp hx hb dX9_commonDivisor_12 ?_
        refine lv_if_eq (tgt := 32) hx hb dX9_commonDivisor_13 (by decide) (fun hc => ?_) (fun hc => ?_)
        · replace hf := (if_pos hc).symm.trans hf
          exact hX3 l3v0 _ _ _ hP hD hS (lv_sub hl [0] rfl) hf
        · replace hf := (if_neg hc).symm.trans hf
          refine lv_lload_n hx hb dX9_commonDivisor_16 rfl (lv_at hl 0 rfl) ?_
          refine lv_lload_n hx hb dX9_commonDivisor_17 rfl (lv_at hl 1 rfl) ?_
          obtain ⟨hz18, hf⟩ := nz_if hf
          refine lv_lrem hx hb dX9_commonDivisor_18 hz18 ?_
          refine lv_lstore (lv' := [(5, .long (l3v0 - l3v0 / l3v2 * l3v2)), (0, .long l3v0), (2, .long l3v2), (4, .int l3v4)]) hx hb dX9_commonDivisor_19 hl (by decide) rfl (fun ls hl => ?_)
          refine lv_lload_n hx hb dX9_commonDivisor_21 rfl (lv_at hl 2 rfl) ?_
          refine lv_lstore_n (lv' := [(0, .long l3v2), (5, .long (l3v0 - l3v0 / l3v2 * l3v2)), (2, .long l3v2), (4, .int l3v4)]) hx hb dX9_commonDivisor_22 rfl hl (by decide) rfl (fun ls hl => ?_)
          refine lv_lload hx hb dX9_commonDivisor_23 (lv_at hl 1 rfl) ?_
          refine lv_lstore_n (lv' := [(2, .long (l3v0 - l3v0 / l3v2 * l3v2)), (0, .long l3v2), (5, .long (l3v0 - l3v0 / l3v2 * l3v2)), (4, .int l3v4)]) hx hb dX9_commonDivisor_25 rfl hl (by decide) rfl (fun ls hl => ?_)
          refine lv_iinc (v := l3v4 + 1) (lv' := [(4, .int (l3v4 + 1)), (2, .long (l3v0 - l3v0 / l3v2 * l3v2)), (0, .long l3v2), (5, .long (l3v0 - l3v0 / l3v2 * l3v2))]) hx hb dX9_commonDivisor_26 hl (k := 3) rfl rfl (by decide) rfl (fun ls hl => ?_)
          refine lv_goto (tgt := 3) hx hb dX9_commonDivisor_29 (by decide) ?_
          exact ih3 l3v2 (l3v0 - l3v0 / l3v2 * l3v2) (l3v4 + 1) _ _ _ hP hD hS (lv_sub hl [2, 1, 0] rfl) hf
  exact hL3 5000 p0 p2 (0 : Int32) _ _ _ hP hD hS (lv_sub hl [1, 2, 0] rfl) hf
abbrev rm_X9_divided : Room := { frames := 0, cells := 0, slots := 0, locals := 0 }
set_option maxHeartbeats 4000000 in
set_option maxRecDepth 100000 in
theorem c_X9_divided (l : Launch) (D : va_G) (cI cJ cZ cO : ClassId) (sz : Nat) (p0 : Int64) (p2 : Int64) (res : Int64) (hf : f_X9_divided p0 p2 = some res) : MetL l yX9_divided wsX9_divided rm_X9_divided [.long p0, .long p2] D (tys4 cI cJ cZ cO) [] sz res [] := by
  refine met_l (cc := cX9_divided) (maxL := 4) (by decide) rfl (Nat.le_of_ble_eq_true rfl) ?_
  intro p e s m args below meth c Q A hx hb hml hown hts hK hN hA fin H locs ls hP hD hS hl
  replace hown : s.vm.findClass RX9 = some m.cls := hown
  replace hl : lv_has ls 4 [(0, .long p0), (2, .long p2)] := hl
  rw [f_X9_divided] at hf
  refine lv_lload_n hx hb dX9_divided_0 rfl (lv_at hl 1 rfl) ?_
  refine lv_lconst (v := 0) hx hb dX9_divided_1 (by decide) ?_
  refine W.lcmp hx hb dX9_divided_2 ?_
  refine lv_if_ne (tgt := 10) hx hb dX9_divided_3 (by decide) (fun hc => ?_) (fun hc => ?_)
  · replace hf := (if_neg hc).symm.trans hf
    refine lv_lload_n hx hb dX9_divided_10 rfl (lv_at hl 0 rfl) ?_
    refine lv_lload_n hx hb dX9_divided_11 rfl (lv_at hl 1 rfl) ?_
    obtain ⟨hz12, hf⟩ := nz_if hf
    refine lv_ldiv hx hb dX9_divided_12 hz12 ?_
    obtain rfl := Option.some.inj hf
    exact fin _ _ _ _ dX9_divided_13 hP hD hS
  · replace hf := (if_pos hc).symm.trans hf
    refine lv_lload_n hx hb dX9_divided_6 rfl (lv_at hl 0 rfl) ?_
    refine lv_goto (tgt := 13) hx hb dX9_divided_7 (by decide) ?_
    obtain rfl := Option.some.inj hf
    exact fin _ _ _ _ dX9_divided_13 hP hD hS
