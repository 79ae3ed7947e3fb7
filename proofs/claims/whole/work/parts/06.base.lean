/-! my own layer: definedness of an index, the nest's words, the worlds' abbreviations, calls in one row -/
def ix (i : Int32) (n : Nat) : Bool := decide (¬ (i < 0 ∨ n ≤ i.toNatClampNeg))
theorem ix_in {i : Int32} {n : Nat} (h : ix i n = true) : vp_in i n := (of_decide_eq_true h : ¬ (i < 0 ∨ n ≤ i.toNatClampNeg))
theorem ix_of {i : Int32} {n : Nat} (h : vp_in i n) : ix i n = true := decide_eq_true (show ¬ (i < 0 ∨ n ≤ i.toNatClampNeg) from h)
theorem ix_if {α : Type} {i : Int32} {n : Nat} {a : Option α} {r : α} (h : (if ix i n = true then a else none) = some r) : vp_in i n ∧ a = some r := by
  by_cases h1 : ix i n = true
  · rw [if_pos h1] at h; exact ⟨ix_in h1, h⟩
  · rw [if_neg h1] at h; cases h
theorem nz_if {α : Type} {P : Prop} [Decidable P] {a : Option α} {r : α} (h : (if P then none else a) = some r) : ¬ P ∧ a = some r := by
  by_cases h1 : P
  · rw [if_pos h1] at h; cases h
  · rw [if_neg h1] at h; exact ⟨h1, h⟩
theorem ok_if {α : Type} {P : Prop} [Decidable P] {a : Option α} {r : α} (h : (if P then a else none) = some r) : P ∧ a = some r := by
  by_cases h1 : P
  · rw [if_pos h1] at h; exact ⟨h1, h⟩
  · rw [if_neg h1] at h; cases h
theorem bd_if {α β : Type} {x : Option α} {f : α → Option β} {r : β} (h : x.bind f = some r) : ∃ a, x = some a ∧ f a = some r := by
  cases x with
  | none => cases h
  | some a => exact ⟨a, rfl, h⟩
def nw_all : List Cond := [.methodLinkNest RX9 11 yX5_init RX9, .methodLinkNest RX5 9 yX2_init RX9, .methodLinkNest RX5 18 yX1_init RX9, .methodLinkNest RX5 25 yX3_init RX9, .methodLinkNest RX5 32 yX7_init RX9, .methodLinkNest RX9 18 yX4_init RX9, .methodLinkNest RX9 25 yX8_init RX9, .methodLinkNest RX8 11 yX1_init RX9, .methodLinkNest RX9 32 yX0_init RX9, .methodLinkNest RX9 39 yX6_init RX9, .methodLinkNest RX2 25 yX9_isPlace RX9, .methodLinkNest RX2 29 yX9_marked RX9, .methodLinkNest RX1 43 yX9_isOne RX9, .methodLinkNest RX1 47 yX9_marked RX9, .methodLinkNest RX1 51 yX9_holds RX9, .methodLinkNest RX2 39 yX9_holds RX9, .methodLinkNest RX0 41 yX9_isPlace RX9, .methodLinkNest RX0 37 yX9_holds RX9, .methodLinkNest RX0 57 yX9_leastOf RX9, .methodLinkNest RX3 34 yX9_holds RX9, .methodLinkNest RX7 31 yX9_marked RX9, .methodLinkNest RX7 35 yX9_holds RX9]
def Nst (U : State) : Prop := (∀ w ∈ nw_all, va_Nw w U) ∧ va_AO "TouchReign$Realm" U
def nw_ok (w : Cond) : Bool := match w with | .methodLinkNest _ _ _ _ => true | _ => false
theorem nw_all_ok : ∀ w ∈ nw_all, nw_ok w = true := by decide +kernel
theorem nw_warm {s U : State} (hW : s.WarmedH U.vm) (h : Nst s) : Nst U := ⟨fun w hw => by
  have h1 := nw_all_ok w hw
  have h2 := h.1 w hw
  cases w <;> first | (exact va_Nw.warmM hW h2) | (exact absurd h1 Bool.false_ne_true), va_AO.moved hW.alike h.2⟩
theorem nw_same {u U : State} (h : u.vm = U.vm) (hn : Nst u) : Nst U := ⟨fun w hw => by
  have h1 := nw_all_ok w hw
  have h2 := hn.1 w hw
  cases w <;> first | (exact va_Nw.same rfl h h2) | (exact absurd h1 Bool.false_ne_true), va_AO.moved (by rw [h]; exact Vm.Alike.refl _) hn.2⟩
abbrev tys4 (cI cJ cZ cO : ClassId) : List (ClassId × FieldType) := [(cI, .int), (cJ, .long), (cZ, .boolean), (cO, .object "TouchReign$Realm")]
abbrev Pw (D : va_G) (T : List (ClassId × FieldType)) (ws : va_W) (sz : Nat) : State → Prop := fun U => U.heap.size = sz ∧ va_P D vwCl ws U.heap ∧ va_K D vwCl T U ∧ va_D (fun _ => True) ws ∧ Nst U
abbrev Bw (D : va_G) (A : Nat → Prop) (w1 : va_W) : State → Prop := fun t => va_P D vwCl w1 t.heap ∧ va_D A w1
/-- an int comes back: it is r, the cells wc are w1 then -/
abbrev MetI (l : Launch) (y : MethodName) (wsy : List Cond) (rm : Room) (av : List Value) (D : va_G) (T : List (ClassId × FieldType)) (wc : va_W) (sz : Nat) (r : Int32) (w1 : va_W) : Prop := Met l y wsy rm (va_Pc av (Pw D T wc sz)) (va_Qi (fun (r' : Int32) (_ : Unit) => r' = r) (fun _ => Bw D (va_A wc sz) w1) (va_A wc sz)) 0 0 (va_A wc sz)
abbrev MetL (l : Launch) (y : MethodName) (wsy : List Cond) (rm : Room) (av : List Value) (D : va_G) (T : List (ClassId × FieldType)) (wc : va_W) (sz : Nat) (r : Int64) (w1 : va_W) : Prop := Met l y wsy rm (va_Pc av (Pw D T wc sz)) (va_Ql (fun (r' : Int64) (_ : Unit) => r' = r) (fun _ => Bw D (va_A wc sz) w1) (va_A wc sz)) 0 0 (va_A wc sz)
abbrev MetV (l : Launch) (y : MethodName) (wsy : List Cond) (rm : Room) (av : List Value) (D : va_G) (T : List (ClassId × FieldType)) (wc : va_W) (sz : Nat) (w1 : va_W) : Prop := Met l y wsy rm (va_Pc av (Pw D T wc sz)) (va_Qv (fun (_ : Unit) => True) (fun _ => Bw D (va_A wc sz) w1) (va_A wc sz)) 0 0 (va_A wc sz)
/-- a constructor: new cells at addresses u -/
abbrev MetC {S : Type} (l : Launch) (y : MethodName) (wsy : List Cond) (rm : Room) (av : List Value) (D : va_G) (T : List (ClassId × FieldType)) (wc : va_W) (sz : Nat) (w1 : S → va_W) (mc ms : Nat) : Prop := Met l y wsy rm (va_Pc av (Pw D T wc sz)) (va_Qv (fun (_ : S) => True) (fun u => Bw D (va_A wc sz) (w1 u)) (va_A wc sz)) mc ms (va_A wc sz)
/-- an int comes back, and new cells at addresses u -/
abbrev MetG {S : Type} (l : Launch) (y : MethodName) (wsy : List Cond) (rm : Room) (av : List Value) (D : va_G) (T : List (ClassId × FieldType)) (wc : va_W) (sz : Nat) (r : Int32) (w1 : S → va_W) (mc ms : Nat) : Prop := Met l y wsy rm (va_Pc av (Pw D T wc sz)) (va_Qi (fun (r' : Int32) (_ : S) => r' = r) (fun u => Bw D (va_A wc sz) (w1 u)) (va_A wc sz)) mc ms (va_A wc sz)
theorem mp_fm {α : Type} (f : Nat → Option α) : ∀ (is : List Nat) (l : List α), is.map f = l.map some → is.filterMap f = l
  | [], [], _ => rfl
  | [], _ :: _, h => by cases h
  | _ :: _, [], h => by cases h
  | i :: is, x :: l, h => by
    simp only [List.map_cons, List.cons.injEq] at h
    rw [List.filterMap_cons, h.1]
    exact congrArg (x :: ·) (mp_fm f is l h.2)
section CALLS
variable {p : Program} {l : Launch} {e : Env} {R : Room} {s : State} {m : MethodId} {args : Array Value} {below : List Frame} {meth : Method} {c : Code} {H : Heap} {locs : List Loc} {cells slots : Nat} {Q : State → Prop}
variable {y : MethodName} {bytes cc : ByteArray} {maxL nL n index pc : Nat} {ret : Option FieldType} {wsy : List Cond} {rm : Room} {Ts : List Cond} {own C host : String} {b : Addr} {As rest st0 : List Value} {ls : Array Slot}
variable {D : va_G} {T : List (ClassId × FieldType)} {ws wc wr w1 ws' : va_W} {A : Nat → Prop}
theorem pre_blind {av : List Value} {sz : Nat} : FrameBlind (va_Pc av (Pw D T wc sz)) := fun a U g mk q => by
  obtain ⟨q0, q1, qP, qK, qD, qN⟩ := q
  exact ⟨q0, q1, qP, va_K.moved (u := U) (U := U.calling g mk a) (Vm.Alike.refl U.vm) qK, qD, nw_same (u := U) (U := U.calling g mk a) rfl qN⟩
theorem pre_S {av : List Value} (hP : va_P D vwCl ws H) (hD : va_D A ws) (hK : va_K D vwCl T s) (hN : Nst s) (isC : List Nat) (hnc : va_nd isC = true) (hC : isC.map (fun i => ws[i]?) = wc.map some) : PreS s H (va_Pc av (Pw D T wc H.size)) av :=
  ⟨pre_blind, fun U hU hW => ⟨rfl, by rw [hU], by rw [hU]; exact hP.sub isC (mp_fm _ _ _ hC), va_K.moved hW.alike hK, (hD.sub isC hnc hC).weaken (fun _ _ _ _ => trivial), nw_warm hW hN⟩⟩
theorem pre_V {ci q0 : Nat} {q : vw_C} {fs : List Value} (hP : va_P D vwCl ws H) (hD : va_D A ws) (hK : va_K D vwCl T s) (hN : Nst s) (isC : List Nat) (hnc : va_nd isC = true) (hC : isC.map (fun i => ws[i]?) = wc.map some) (hc : vwCl[ci]? = some q) (he : ws[q0]? = some (b, .inr (ci, fs))) : PreV s H q.1 b (va_Pc (.ref b :: As) (Pw D T wc H.size)) As :=
  ⟨pre_blind, va_recv hK hP hc he, (pre_S (av := .ref b :: As) hP hD hK hN isC hnc hC).2⟩
theorem back_j {H1 : Heap} (hP : va_P D vwCl ws H) (hD : va_D A ws) (isC isR perm : List Nat) (hC : isC.map (fun i => ws[i]?) = wc.map some) (hR : isR.map (fun i => ws[i]?) = wr.map some) (hn : va_nd isR = true) (hdis : ∀ i ∈ isR, i ∉ isC) (hp : va_nd perm = true) (hq : perm.map (fun i => (wr ++ w1)[i]?) = ws'.map some)
    (hk : ∀ q : Nat, q < H.size → ¬ va_A wc H.size q → H1[q]? = H[q]?) (hF : ∀ q, va_A wc H.size q → A q) (hP1 : va_P D vwCl w1 H1) (hD1 : va_D (va_A wc H.size) w1) : va_P D vwCl ws' H1 ∧ va_D A ws' := by
  obtain ⟨h1, h2⟩ := va_join (wr := wr) (w1 := w1) hP hD isC isR hC hR hn hdis hk hF hP1 hD1
  exact ⟨h1.sub perm (mp_fm _ _ _ hq), h2.sub perm hp hq⟩
theorem go_i {r : Int32} {a : Array Value} (hr : va_Run p l e R s m args below meth c H locs cells slots 0 0 (F0 m pc ls st0) rest (va_Qi (fun (r' : Int32) (_ : Unit) => r' = r) (fun _ => Bw D (va_A wc H.size) w1) (va_A wc H.size) a) (va_A wc H.size)) (hP : va_P D vwCl ws H) (hD : va_D A ws) (hS : va_S A s.heap H locs) (hA : ∀ q, s.heap.size ≤ q → A q)
    (isC isR perm : List Nat) (hC : isC.map (fun i => ws[i]?) = wc.map some) (hR : isR.map (fun i => ws[i]?) = wr.map some) (hn : va_nd isR = true) (hdis : ∀ i ∈ isR, i ∉ isC) (hp : va_nd perm = true) (hq : perm.map (fun i => (wr ++ w1)[i]?) = ws'.map some)
    (kk : ∀ (H1 : Heap) (locs1 : List Loc), va_P D vwCl ws' H1 → va_D A ws' → va_S A s.heap H1 locs1 → W p l e R s m args below meth c H1 locs1 cells slots Q (F0 m (pc + 3) ls (.int r :: rest))) : W p l e R s m args below meth c H locs cells slots Q (F0 m pc ls st0) := by
  have hF := va_free (wc := wc) hD hS hA isC hC
  refine va_calli hr hS (fun q _ h => hF q h) hF (fun r' u t H1 locs1 ht hvm hw hB hz1 hk1 hS1 => ?_)
  obtain ⟨hP1, hD1⟩ := hB
  rw [ht] at hP1
  obtain ⟨h1, h2⟩ := back_j (wr := wr) (w1 := w1) hP hD isC isR perm hC hR hn hdis hp hq hk1 hF hP1 hD1
  rw [hw]
  exact kk H1 locs1 h1 h2 hS1
theorem go_l {r : Int64} {a : Array Value} (hr : va_Run p l e R s m args below meth c H locs cells slots 0 0 (F0 m pc ls st0) rest (va_Ql (fun (r' : Int64) (_ : Unit) => r' = r) (fun _ => Bw D (va_A wc H.size) w1) (va_A wc H.size) a) (va_A wc H.size)) (hP : va_P D vwCl ws H) (hD : va_D A ws) (hS : va_S A s.heap H locs) (hA : ∀ q, s.heap.size ≤ q → A q)
    (isC isR perm : List Nat) (hC : isC.map (fun i => ws[i]?) = wc.map some) (hR : isR.map (fun i => ws[i]?) = wr.map some) (hn : va_nd isR = true) (hdis : ∀ i ∈ isR, i ∉ isC) (hp : va_nd perm = true) (hq : perm.map (fun i => (wr ++ w1)[i]?) = ws'.map some)
    (kk : ∀ (H1 : Heap) (locs1 : List Loc), va_P D vwCl ws' H1 → va_D A ws' → va_S A s.heap H1 locs1 → W p l e R s m args below meth c H1 locs1 cells slots Q (F0 m (pc + 3) ls (.long r :: rest))) : W p l e R s m args below meth c H locs cells slots Q (F0 m pc ls st0) := by
  have hF := va_free (wc := wc) hD hS hA isC hC
  refine va_calll hr hS (fun q _ h => hF q h) hF (fun r' u t H1 locs1 ht hvm hw hB hz1 hk1 hS1 => ?_)
  obtain ⟨hP1, hD1⟩ := hB
  rw [ht] at hP1
  obtain ⟨h1, h2⟩ := back_j (wr := wr) (w1 := w1) hP hD isC isR perm hC hR hn hdis hp hq hk1 hF hP1 hD1
  rw [hw]
  exact kk H1 locs1 h1 h2 hS1
theorem go_v {a : Array Value} (hr : va_Run p l e R s m args below meth c H locs cells slots 0 0 (F0 m pc ls st0) rest (va_Qv (fun (_ : Unit) => True) (fun _ => Bw D (va_A wc H.size) w1) (va_A wc H.size) a) (va_A wc H.size)) (hP : va_P D vwCl ws H) (hD : va_D A ws) (hS : va_S A s.heap H locs) (hA : ∀ q, s.heap.size ≤ q → A q)
    (isC isR perm : List Nat) (hC : isC.map (fun i => ws[i]?) = wc.map some) (hR : isR.map (fun i => ws[i]?) = wr.map some) (hn : va_nd isR = true) (hdis : ∀ i ∈ isR, i ∉ isC) (hp : va_nd perm = true) (hq : perm.map (fun i => (wr ++ w1)[i]?) = ws'.map some)
    (kk : ∀ (H1 : Heap) (locs1 : List Loc), va_P D vwCl ws' H1 → va_D A ws' → va_S A s.heap H1 locs1 → W p l e R s m args below meth c H1 locs1 cells slots Q (F0 m (pc + 3) ls rest)) : W p l e R s m args below meth c H locs cells slots Q (F0 m pc ls st0) := by
  have hF := va_free (wc := wc) hD hS hA isC hC
  refine va_callv hr hS (fun q _ h => hF q h) hF (fun u t H1 locs1 ht hvm hw hB hz1 hk1 hS1 => ?_)
  obtain ⟨hP1, hD1⟩ := hB
  rw [ht] at hP1
  obtain ⟨h1, h2⟩ := back_j (wr := wr) (w1 := w1) hP hD isC isR perm hC hR hn hdis hp hq hk1 hF hP1 hD1
  exact kk H1 locs1 h1 h2 hS1
/-- a constructor's call: its new cells come behind the others -/
theorem go_c {S : Type} {v1 : S → va_W} {mc ms : Nat} {a : Array Value} (hr : va_Run p l e R s m args below meth c H locs cells slots mc ms (F0 m pc ls st0) rest (va_Qv (fun (_ : S) => True) (fun u => Bw D (va_A wc H.size) (v1 u)) (va_A wc H.size) a) (va_A wc H.size)) (hP : va_P D vwCl ws H) (hD : va_D A ws) (hS : va_S A s.heap H locs) (hA : ∀ q, s.heap.size ≤ q → A q)
    (isC isR : List Nat) (hC : isC.map (fun i => ws[i]?) = wc.map some) (hR : isR.map (fun i => ws[i]?) = wr.map some) (hn : va_nd isR = true) (hdis : ∀ i ∈ isR, i ∉ isC)
    (kk : ∀ (u : S) (H1 : Heap) (locs1 : List Loc), va_P D vwCl (wr ++ v1 u) H1 → va_D A (wr ++ v1 u) → va_S A s.heap H1 locs1 → W p l e R s m args below meth c H1 locs1 (cells + mc) (slots + ms) Q (F0 m (pc + 3) ls rest)) : W p l e R s m args below meth c H locs cells slots Q (F0 m pc ls st0) := by
  have hF := va_free (wc := wc) hD hS hA isC hC
  refine va_callv hr hS (fun q _ h => hF q h) hF (fun u t H1 locs1 ht hvm hw hB hz1 hk1 hS1 => ?_)
  obtain ⟨hP1, hD1⟩ := hB
  rw [ht] at hP1
  obtain ⟨h1, h2⟩ := va_join (wr := wr) (w1 := v1 u) hP hD isC isR hC hR hn hdis hk1 hF hP1 hD1
  exact kk u H1 locs1 h1 h2 hS1
/-- arrays of one kind have one class -/
theorem kn_one {cA cB : ClassId} {ty : FieldType} (h1 : va_RA s cA ty) (h2 : va_RA s cB ty) : cA = cB := by
  cases ty with
  | object C =>
    obtain ⟨_, _, _, _, _, e1⟩ := h1
    obtain ⟨_, _, _, _, _, e2⟩ := h2
    rw [e1] at e2
    exact Option.some.inj e2
  | _ =>
    have e1 : s.vm.findClass _ = some cA := h1
    have e2 : s.vm.findClass _ = some cB := h2
    rw [e1] at e2
    exact Option.some.inj e2
theorem nw_a {ty : FieldType} (t0 : Nat) {cA : ClassId} (ht : T[t0]? = some (cA, ty)) {atype : ArrayType} (hexec : p.tables.exec = Jvm.exec) (hb : c.code = cc) (harr : (Cond.arrayClass (newarray.typeOf atype)).before args s = true) (hty : newarray.typeOf atype = ty) (hK : va_K D vwCl T s) (hP : va_P D vwCl ws H) (hD : va_D A ws) (hS : va_S A s.heap H locs) (hA : ∀ q, s.heap.size ≤ q → A q)
    {n : Int32} {N' : Nat} {a0 : vp_A} (ha : ∀ cA : ClassId, vp_cell cA a0 = arrV cA N' (fun _ => defaultValue ty)) (hn : ¬ n < 0) (hN : n.toNatClampNeg = N') (hbytes : N' * componentBytes ty ≤ 536870912) (hcells : cells + 1 ≤ R.cells) (hslots : slots + N' ≤ R.slots) (hdg : decode cc pc = .ok (.newarray atype, 2))
    (kk : ∀ (q : Nat) (H1 : Heap), va_P D vwCl (ws ++ [(q, .inl (cA, a0))]) H1 → va_D A (ws ++ [(q, .inl (cA, a0))]) → va_S A s.heap H1 locs →
      W p l e R s m args below meth c H1 locs (cells + 1) (slots + N') Q (F0 m (pc + 2) ls (.ref q :: rest))) : W p l e R s m args below meth c H locs cells slots Q (F0 m pc ls (.int n :: rest)) := by
  refine va_newa hexec hb harr hty hK hP hD hS hA ha hn hN hbytes hcells hslots hdg (fun q cB H1 hK1 hP1 hD1 hS1 => ?_)
  have e1 := (hK.2 t0 _ ht).2
  have e2 := (hK1.2 T.length (cB, ty) (by rw [List.getElem?_append_right (Nat.le_refl _), Nat.sub_self]; rfl)).2
  obtain rfl := kn_one e2 e1
  exact kk q H1 hP1 hD1 hS1
theorem nw_q {Cn : String} (t0 : Nat) {cA : ClassId} (ht : T[t0]? = some (cA, .object Cn)) (hexec : p.tables.exec = Jvm.exec) (hb : c.code = cc) (hown : s.vm.findClass own = some m.cls) (hclink : (Cond.classLink own index Cn).before args s = true) (hover : va_AO Cn s) (hK : va_K D vwCl T s) (hP : va_P D vwCl ws H) (hD : va_D A ws) (hS : va_S A s.heap H locs) (hA : ∀ q, s.heap.size ≤ q → A q)
    {n : Int32} {N' : Nat} (hn : ¬ n < 0) (hN : n.toNatClampNeg = N') (hbytes : N' * 4 ≤ 536870912) (hcells : cells + 1 ≤ R.cells) (hslots : slots + N' ≤ R.slots) (hdg : decode cc pc = .ok (.anewarray index, 3))
    (kk : ∀ (q : Nat) (H1 : Heap), va_P D vwCl (ws ++ [(q, .inl (cA, N', .inr (.inr (.inr (.inr (fun _ => none))))))]) H1 → va_D A (ws ++ [(q, .inl (cA, N', .inr (.inr (.inr (.inr (fun _ => none))))))]) → va_S A s.heap H1 locs →
      W p l e R s m args below meth c H1 locs (cells + 1) (slots + N') Q (F0 m (pc + 3) ls (.ref q :: rest))) : W p l e R s m args below meth c H locs cells slots Q (F0 m pc ls (.int n :: rest)) := by
  refine va_newq hexec hb hown hclink hover hK hP hD hS hA hn hN hbytes hcells hslots hdg (fun q cB H1 hK1 hP1 hD1 hS1 => ?_)
  have e1 := (hK.2 t0 _ ht).2
  have e2 := (hK1.2 T.length (cB, .object Cn) (by rw [List.getElem?_append_right (Nat.le_refl _), Nat.sub_self]; rfl)).2
  obtain rfl := kn_one e2 e1
  exact kk q H1 hP1 hD1 hS1
end CALLS
theorem ti_ne {x : Int32} {k : Int} (v : Int32) (hv : v.toInt = k) (h : ¬ x = v) : x.toInt ≠ k := fun h1 => h (Int32.toInt_inj.mp (h1.trans hv.symm))
theorem nb_0 : narrow .boolean (.int 0) = .int 0 := rfl
theorem nb_1 : narrow .boolean (.int 1) = .int 1 := rfl
theorem zr_ok {x : Int32} (h : vp_nar .boolean x = x) : narrow .boolean (.int x) = .int x := congrArg Value.int h
/-! a method's contract out of its walk -/
section METS
variable {l : Launch} {y : MethodName} {wsy ws' : List Cond} {rm : Room} {av : List Value} {D : va_G} {T : List (ClassId × FieldType)} {wc w1 : va_W} {sz : Nat} {cc : ByteArray} {maxL : Nat}
theorem met_i {r : Int32} (hy : plainName y.cls = true) (hw : wsy = Cond.code y cc maxL (some .int) :: ws') (hlen : (lg_sl av).length ≤ maxL)
    (core : ∀ (p : Program) (e : Env) (s : State) (m : MethodId) (args : Array Value) (below : List Frame) (meth : Method) (c : Code) (Q : State → Prop) (A : Nat → Prop), p.tables.exec = Jvm.exec → c.code = cc → c.maxLocals = maxL → s.vm.findClass y.cls = some m.cls → (∀ w ∈ wsy, w.before args s = true) → va_K D vwCl T s → Nst s → (∀ q, s.heap.size ≤ q → A q) →
      (∀ (pc : Nat) (ls : Array Slot) (H : Heap) (locs : List Loc), decode cc pc = .ok (.ireturn, 1) → va_P D vwCl w1 H → va_D A w1 → va_S A s.heap H locs → W p l e rm s m args below meth c H locs 0 0 Q (F0 m pc ls [.int r])) →
      ∀ (H : Heap) (locs : List Loc) (ls : Array Slot), va_P D vwCl wc H → va_D A wc → va_S A s.heap H locs → lv_has ls maxL (lv_args 0 av) → W p l e rm s m args below meth c H locs 0 0 Q (F0 m 0 ls [])) : MetI l y wsy rm av D T wc sz r w1 := by
  refine Met.ofW (cc := cc) (maxL := maxL) (ret := some .int) hy hw ?_
  intro p e s m args below meth c s₁ B hml hv
  obtain ⟨rfl, hsz, hP, hK, hD0, hN⟩ := hv
  have hlocks := B.notSynchronized
  have hr := B.returns
  subst hsz
  rw [lg_entry_eq]
  refine core p e s m _ below meth c _ (va_A wc s.heap.size) B.exec B.bytes hml (findClass_of_methodNamed B.named) (atoms_spec (ws := wsy) B.pre) hK hN (fun q h => Or.inr h) (fun pc ls H locs hd hP hD hS => ?_) s.heap [] _ hP hD0.self va_S.rf (lv_entry av hlen)
  exact W.iret B.exec B.bytes hr (fun t ht hW => ⟨⟨r, (), rfl, rfl, by rw [ht]; exact hP, hD⟩, hS.F ht⟩) hS.2.2 hd
theorem met_z {r : Int32} (hy : plainName y.cls = true) (hw : wsy = Cond.code y cc maxL (some .boolean) :: ws') (hlen : (lg_sl av).length ≤ maxL)
    (core : ∀ (p : Program) (e : Env) (s : State) (m : MethodId) (args : Array Value) (below : List Frame) (meth : Method) (c : Code) (Q : State → Prop) (A : Nat → Prop), p.tables.exec = Jvm.exec → c.code = cc → c.maxLocals = maxL → s.vm.findClass y.cls = some m.cls → (∀ w ∈ wsy, w.before args s = true) → va_K D vwCl T s → Nst s → (∀ q, s.heap.size ≤ q → A q) →
      (∀ (pc : Nat) (ls : Array Slot) (H : Heap) (locs : List Loc), narrow .boolean (.int r) = .int r → decode cc pc = .ok (.ireturn, 1) → va_P D vwCl w1 H → va_D A w1 → va_S A s.heap H locs → W p l e rm s m args below meth c H locs 0 0 Q (F0 m pc ls [.int r])) →
      ∀ (H : Heap) (locs : List Loc) (ls : Array Slot), va_P D vwCl wc H → va_D A wc → va_S A s.heap H locs → lv_has ls maxL (lv_args 0 av) → W p l e rm s m args below meth c H locs 0 0 Q (F0 m 0 ls [])) : MetI l y wsy rm av D T wc sz r w1 := by
  refine Met.ofW (cc := cc) (maxL := maxL) (ret := some .boolean) hy hw ?_
  intro p e s m args below meth c s₁ B hml hv
  obtain ⟨rfl, hsz, hP, hK, hD0, hN⟩ := hv
  have hlocks := B.notSynchronized
  have hr := B.returns
  subst hsz
  rw [lg_entry_eq]
  refine core p e s m _ below meth c _ (va_A wc s.heap.size) B.exec B.bytes hml (findClass_of_methodNamed B.named) (atoms_spec (ws := wsy) B.pre) hK hN (fun q h => Or.inr h) (fun pc ls H locs hn hd hP hD hS => ?_) s.heap [] _ hP hD0.self va_S.rf (lv_entry av hlen)
  exact W.zret B.exec B.bytes hr hn (fun t ht hW => ⟨⟨r, (), rfl, rfl, by rw [ht]; exact hP, hD⟩, hS.F ht⟩) hS.2.2 hd
theorem met_l {r : Int64} (hy : plainName y.cls = true) (hw : wsy = Cond.code y cc maxL (some .long) :: ws') (hlen : (lg_sl av).length ≤ maxL)
    (core : ∀ (p : Program) (e : Env) (s : State) (m : MethodId) (args : Array Value) (below : List Frame) (meth : Method) (c : Code) (Q : State → Prop) (A : Nat → Prop), p.tables.exec = Jvm.exec → c.code = cc → c.maxLocals = maxL → s.vm.findClass y.cls = some m.cls → (∀ w ∈ wsy, w.before args s = true) → va_K D vwCl T s → Nst s → (∀ q, s.heap.size ≤ q → A q) →
      (∀ (pc : Nat) (ls : Array Slot) (H : Heap) (locs : List Loc), decode cc pc = .ok (.lreturn, 1) → va_P D vwCl w1 H → va_D A w1 → va_S A s.heap H locs → W p l e rm s m args below meth c H locs 0 0 Q (F0 m pc ls [.long r])) →
      ∀ (H : Heap) (locs : List Loc) (ls : Array Slot), va_P D vwCl wc H → va_D A wc → va_S A s.heap H locs → lv_has ls maxL (lv_args 0 av) → W p l e rm s m args below meth c H locs 0 0 Q (F0 m 0 ls [])) : MetL l y wsy rm av D T wc sz r w1 := by
  refine Met.ofW (cc := cc) (maxL := maxL) (ret := some .long) hy hw ?_
  intro p e s m args below meth c s₁ B hml hv
  obtain ⟨rfl, hsz, hP, hK, hD0, hN⟩ := hv
  have hlocks := B.notSynchronized
  have hr := B.returns
  subst hsz
  rw [lg_entry_eq]
  refine core p e s m _ below meth c _ (va_A wc s.heap.size) B.exec B.bytes hml (findClass_of_methodNamed B.named) (atoms_spec (ws := wsy) B.pre) hK hN (fun q h => Or.inr h) (fun pc ls H locs hd hP hD hS => ?_) s.heap [] _ hP hD0.self va_S.rf (lv_entry av hlen)
  exact W.lret B.exec B.bytes hr (fun t ht hW => ⟨⟨r, (), rfl, rfl, by rw [ht]; exact hP, hD⟩, hS.F ht⟩) hS.2.2 hd
theorem met_v (hy : plainName y.cls = true) (hw : wsy = Cond.code y cc maxL none :: ws') (hlen : (lg_sl av).length ≤ maxL)
    (core : ∀ (p : Program) (e : Env) (s : State) (m : MethodId) (args : Array Value) (below : List Frame) (meth : Method) (c : Code) (Q : State → Prop) (A : Nat → Prop), p.tables.exec = Jvm.exec → c.code = cc → c.maxLocals = maxL → s.vm.findClass y.cls = some m.cls → (∀ w ∈ wsy, w.before args s = true) → va_K D vwCl T s → Nst s → (∀ q, s.heap.size ≤ q → A q) →
      (∀ (pc : Nat) (ls : Array Slot) (H : Heap) (locs : List Loc), decode cc pc = .ok (.return_, 1) → va_P D vwCl w1 H → va_D A w1 → va_S A s.heap H locs → W p l e rm s m args below meth c H locs 0 0 Q (F0 m pc ls [])) →
      ∀ (H : Heap) (locs : List Loc) (ls : Array Slot), va_P D vwCl wc H → va_D A wc → va_S A s.heap H locs → lv_has ls maxL (lv_args 0 av) → W p l e rm s m args below meth c H locs 0 0 Q (F0 m 0 ls [])) : MetV l y wsy rm av D T wc sz w1 := by
  refine Met.ofW (cc := cc) (maxL := maxL) (ret := none) hy hw ?_
  intro p e s m args below meth c s₁ B hml hv
  obtain ⟨rfl, hsz, hP, hK, hD0, hN⟩ := hv
  have hlocks := B.notSynchronized
  have hr := B.returns
  subst hsz
  rw [lg_entry_eq]
  refine core p e s m _ below meth c _ (va_A wc s.heap.size) B.exec B.bytes hml (findClass_of_methodNamed B.named) (atoms_spec (ws := wsy) B.pre) hK hN (fun q h => Or.inr h) (fun pc ls H locs hd hP hD hS => ?_) s.heap [] _ hP hD0.self va_S.rf (lv_entry av hlen)
  exact W.vret B.exec B.bytes hr (fun t ht hW => ⟨⟨(), rfl, trivial, by rw [ht]; exact hP, hD⟩, hS.F ht⟩) hS.2.2 hd
theorem met_c {S : Type} {v1 : S → va_W} {mc ms : Nat} (hy : plainName y.cls = true) (hw : wsy = Cond.code y cc maxL none :: ws') (hlen : (lg_sl av).length ≤ maxL)
    (core : ∀ (p : Program) (e : Env) (s : State) (m : MethodId) (args : Array Value) (below : List Frame) (meth : Method) (c : Code) (Q : State → Prop) (A : Nat → Prop), p.tables.exec = Jvm.exec → c.code = cc → c.maxLocals = maxL → s.vm.findClass y.cls = some m.cls → meth.name = y.name → (∀ w ∈ wsy, w.before args s = true) → va_K D vwCl T s → Nst s → (∀ q, s.heap.size ≤ q → A q) →
      (∀ (u : S) (pc : Nat) (ls : Array Slot) (H : Heap) (locs : List Loc), decode cc pc = .ok (.return_, 1) → va_P D vwCl (v1 u) H → va_D A (v1 u) → va_S A s.heap H locs → W p l e rm s m args below meth c H locs mc ms Q (F0 m pc ls [])) →
      ∀ (H : Heap) (locs : List Loc) (ls : Array Slot), va_P D vwCl wc H → va_D A wc → va_S A s.heap H locs → lv_has ls maxL (lv_args 0 av) → W p l e rm s m args below meth c H locs 0 0 Q (F0 m 0 ls [])) : MetC l y wsy rm av D T wc sz v1 mc ms := by
  refine Met.ofW (cc := cc) (maxL := maxL) (ret := none) hy hw ?_
  intro p e s m args below meth c s₁ B hml hv
  obtain ⟨rfl, hsz, hP, hK, hD0, hN⟩ := hv
  have hlocks := B.notSynchronized
  have hr := B.returns
  subst hsz
  rw [lg_entry_eq]
  refine core p e s m _ below meth c _ (va_A wc s.heap.size) B.exec B.bytes hml (findClass_of_methodNamed B.named) (name_of_methodNamed B.named B.method).1 (atoms_spec (ws := wsy) B.pre) hK hN (fun q h => Or.inr h) (fun u pc ls H locs hd hP hD hS => ?_) s.heap [] _ hP hD0.self va_S.rf (lv_entry av hlen)
  exact W.vret B.exec B.bytes hr (fun t ht hW => ⟨⟨u, rfl, trivial, by rw [ht]; exact hP, hD⟩, hS.F ht⟩) hS.2.2 hd
theorem met_g {S : Type} {v1 : S → va_W} {mc ms : Nat} {r : Int32} (hy : plainName y.cls = true) (hw : wsy = Cond.code y cc maxL (some .int) :: ws') (hlen : (lg_sl av).length ≤ maxL)
    (core : ∀ (p : Program) (e : Env) (s : State) (m : MethodId) (args : Array Value) (below : List Frame) (meth : Method) (c : Code) (Q : State → Prop) (A : Nat → Prop), p.tables.exec = Jvm.exec → c.code = cc → c.maxLocals = maxL → s.vm.findClass y.cls = some m.cls → (∀ w ∈ wsy, w.before args s = true) → va_K D vwCl T s → Nst s → (∀ q, s.heap.size ≤ q → A q) →
      (∀ (u : S) (pc : Nat) (ls : Array Slot) (H : Heap) (locs : List Loc), decode cc pc = .ok (.ireturn, 1) → va_P D vwCl (v1 u) H → va_D A (v1 u) → va_S A s.heap H locs → W p l e rm s m args below meth c H locs mc ms Q (F0 m pc ls [.int r])) →
      ∀ (H : Heap) (locs : List Loc) (ls : Array Slot), va_P D vwCl wc H → va_D A wc → va_S A s.heap H locs → lv_has ls maxL (lv_args 0 av) → W p l e rm s m args below meth c H locs 0 0 Q (F0 m 0 ls [])) : MetG l y wsy rm av D T wc sz r v1 mc ms := by
  refine Met.ofW (cc := cc) (maxL := maxL) (ret := some .int) hy hw ?_
  intro p e s m args below meth c s₁ B hml hv
  obtain ⟨rfl, hsz, hP, hK, hD0, hN⟩ := hv
  have hlocks := B.notSynchronized
  have hr := B.returns
  subst hsz
  rw [lg_entry_eq]
  refine core p e s m _ below meth c _ (va_A wc s.heap.size) B.exec B.bytes hml (findClass_of_methodNamed B.named) (atoms_spec (ws := wsy) B.pre) hK hN (fun q h => Or.inr h) (fun u pc ls H locs hd hP hD hS => ?_) s.heap [] _ hP hD0.self va_S.rf (lv_entry av hlen)
  exact W.iret B.exec B.bytes hr (fun t ht hW => ⟨⟨r, u, rfl, rfl, by rw [ht]; exact hP, hD⟩, hS.F ht⟩) hS.2.2 hd
end METS
/-! calls in one row -/
section CALLS2
variable {p : Program} {l : Launch} {e : Env} {R : Room} {s : State} {m : MethodId} {args : Array Value} {below : List Frame} {meth : Method} {c : Code} {H : Heap} {locs : List Loc} {cells slots : Nat} {Q : State → Prop}
variable {y : MethodName} {bytes cc : ByteArray} {maxL nL n index pc : Nat} {ret : Option FieldType} {wsy : List Cond} {rm : Room} {Ts : List Cond} {own C host : String} {b : Addr} {As rest st0 : List Value} {ls : Array Slot}
variable {D : va_G} {T : List (ClassId × FieldType)} {ws wc wr w1 ws' : va_W} {A : Nat → Prop}
theorem cv_i {r : Int32} {ci q0 : Nat} {q : vw_C} {fs : List Value} (S : CallFix p m c cc nL s args Ts own) (cw : CallW R s args own q.1 index y bytes maxL ret wsy rm 0 0 n) (hK : va_K D vwCl T s) (hN : Nst s) (hP : va_P D vwCl ws H) (hD : va_D A ws) (hS : va_S A s.heap H locs) (hA : ∀ q, s.heap.size ≤ q → A q) (hM : MetI l y wsy rm (.ref b :: As) D T wc H.size r w1) (hc : vwCl[ci]? = some q) (he : ws[q0]? = some (b, .inr (ci, fs))) (isC isR perm : List Nat) (hnc : va_nd isC = true) (hC : isC.map (fun i => ws[i]?) = wc.map some) (hR : isR.map (fun i => ws[i]?) = wr.map some) (hn : va_nd isR = true) (hdis : ∀ i ∈ isR, i ∉ isC) (hp : va_nd perm = true) (hq : perm.map (fun i => (wr ++ w1)[i]?) = ws'.map some)
    (hlen : As.length = n) (hsz : ls.size = nL) (hst : st0 = As.reverse ++ .ref b :: rest) (hW : (rest.map fun v => v.category).sum ≤ 8) (hdg : decode cc pc = .ok (.invokevirtual index, 3)) (hroom : cells + 0 ≤ R.cells ∧ slots + 0 ≤ R.slots)
    (kk : ∀ (H1 : Heap) (locs1 : List Loc), va_P D vwCl ws' H1 → va_D A ws' → va_S A s.heap H1 locs1 → W p l e R s m args below meth c H1 locs1 cells slots Q (F0 m (pc + 3) ls (.int r :: rest))) : W p l e R s m args below meth c H locs cells slots Q (F0 m pc ls st0) :=
  go_i (va_runV S hM cw (pre_V hP hD hK hN isC hnc hC hc he) (g := F0 m pc ls st0) rfl hlen hsz hst (lv_room hW) hdg hroom) hP hD hS hA isC isR perm hC hR hn hdis hp hq kk
theorem cv_l {r : Int64} {ci q0 : Nat} {q : vw_C} {fs : List Value} (S : CallFix p m c cc nL s args Ts own) (cw : CallW R s args own q.1 index y bytes maxL ret wsy rm 0 0 n) (hK : va_K D vwCl T s) (hN : Nst s) (hP : va_P D vwCl ws H) (hD : va_D A ws) (hS : va_S A s.heap H locs) (hA : ∀ q, s.heap.size ≤ q → A q) (hM : MetL l y wsy rm (.ref b :: As) D T wc H.size r w1) (hc : vwCl[ci]? = some q) (he : ws[q0]? = some (b, .inr (ci, fs))) (isC isR perm : List Nat) (hnc : va_nd isC = true) (hC : isC.map (fun i => ws[i]?) = wc.map some) (hR : isR.map (fun i => ws[i]?) = wr.map some) (hn : va_nd isR = true) (hdis : ∀ i ∈ isR, i ∉ isC) (hp : va_nd perm = true) (hq : perm.map (fun i => (wr ++ w1)[i]?) = ws'.map some)
    (hlen : As.length = n) (hsz : ls.size = nL) (hst : st0 = As.reverse ++ .ref b :: rest) (hW : (rest.map fun v => v.category).sum ≤ 8) (hdg : decode cc pc = .ok (.invokevirtual index, 3)) (hroom : cells + 0 ≤ R.cells ∧ slots + 0 ≤ R.slots)
    (kk : ∀ (H1 : Heap) (locs1 : List Loc), va_P D vwCl ws' H1 → va_D A ws' → va_S A s.heap H1 locs1 → W p l e R s m args below meth c H1 locs1 cells slots Q (F0 m (pc + 3) ls (.long r :: rest))) : W p l e R s m args below meth c H locs cells slots Q (F0 m pc ls st0) :=
  go_l (va_runV S hM cw (pre_V hP hD hK hN isC hnc hC hc he) (g := F0 m pc ls st0) rfl hlen hsz hst (lv_room hW) hdg hroom) hP hD hS hA isC isR perm hC hR hn hdis hp hq kk
theorem cv_v {ci q0 : Nat} {q : vw_C} {fs : List Value} (S : CallFix p m c cc nL s args Ts own) (cw : CallW R s args own q.1 index y bytes maxL ret wsy rm 0 0 n) (hK : va_K D vwCl T s) (hN : Nst s) (hP : va_P D vwCl ws H) (hD : va_D A ws) (hS : va_S A s.heap H locs) (hA : ∀ q, s.heap.size ≤ q → A q) (hM : MetV l y wsy rm (.ref b :: As) D T wc H.size w1) (hc : vwCl[ci]? = some q) (he : ws[q0]? = some (b, .inr (ci, fs))) (isC isR perm : List Nat) (hnc : va_nd isC = true) (hC : isC.map (fun i => ws[i]?) = wc.map some) (hR : isR.map (fun i => ws[i]?) = wr.map some) (hn : va_nd isR = true) (hdis : ∀ i ∈ isR, i ∉ isC) (hp : va_nd perm = true) (hq : perm.map (fun i => (wr ++ w1)[i]?) = ws'.map some)
    (hlen : As.length = n) (hsz : ls.size = nL) (hst : st0 = As.reverse ++ .ref b :: rest) (hW : (rest.map fun v => v.category).sum ≤ 8) (hdg : decode cc pc = .ok (.invokevirtual index, 3)) (hroom : cells + 0 ≤ R.cells ∧ slots + 0 ≤ R.slots)
    (kk : ∀ (H1 : Heap) (locs1 : List Loc), va_P D vwCl ws' H1 → va_D A ws' → va_S A s.heap H1 locs1 → W p l e R s m args below meth c H1 locs1 cells slots Q (F0 m (pc + 3) ls rest)) : W p l e R s m args below meth c H locs cells slots Q (F0 m pc ls st0) :=
  go_v (va_runV S hM cw (pre_V hP hD hK hN isC hnc hC hc he) (g := F0 m pc ls st0) rfl hlen hsz hst (lv_room hW) hdg hroom) hP hD hS hA isC isR perm hC hR hn hdis hp hq kk
theorem cs_i {r : Int32} (S : CallFix p m c cc nL s args Ts own) (cw : CallB R s args own index y bytes maxL ret wsy rm 0 0 n ∧ (Cond.static y).before args s = true) (hK : va_K D vwCl T s) (hN : Nst s) (hP : va_P D vwCl ws H) (hD : va_D A ws) (hS : va_S A s.heap H locs) (hA : ∀ q, s.heap.size ≤ q → A q) (hM : MetI l y wsy rm As D T wc H.size r w1) (isC isR perm : List Nat) (hnc : va_nd isC = true) (hC : isC.map (fun i => ws[i]?) = wc.map some) (hR : isR.map (fun i => ws[i]?) = wr.map some) (hn : va_nd isR = true) (hdis : ∀ i ∈ isR, i ∉ isC) (hp : va_nd perm = true) (hq : perm.map (fun i => (wr ++ w1)[i]?) = ws'.map some)
    (hlen : As.length = n) (hsz : ls.size = nL) (hst : st0 = As.reverse ++ rest) (hW : (rest.map fun v => v.category).sum ≤ 8) (hdg : decode cc pc = .ok (.invokestatic index, 3)) (hroom : cells + 0 ≤ R.cells ∧ slots + 0 ≤ R.slots)
    (kk : ∀ (H1 : Heap) (locs1 : List Loc), va_P D vwCl ws' H1 → va_D A ws' → va_S A s.heap H1 locs1 → W p l e R s m args below meth c H1 locs1 cells slots Q (F0 m (pc + 3) ls (.int r :: rest))) : W p l e R s m args below meth c H locs cells slots Q (F0 m pc ls st0) :=
  go_i (va_runS S hM cw (pre_S hP hD hK hN isC hnc hC) (g := F0 m pc ls st0) rfl hlen hsz hst (lv_room hW) hdg hroom) hP hD hS hA isC isR perm hC hR hn hdis hp hq kk
theorem cs_l {r : Int64} (S : CallFix p m c cc nL s args Ts own) (cw : CallB R s args own index y bytes maxL ret wsy rm 0 0 n ∧ (Cond.static y).before args s = true) (hK : va_K D vwCl T s) (hN : Nst s) (hP : va_P D vwCl ws H) (hD : va_D A ws) (hS : va_S A s.heap H locs) (hA : ∀ q, s.heap.size ≤ q → A q) (hM : MetL l y wsy rm As D T wc H.size r w1) (isC isR perm : List Nat) (hnc : va_nd isC = true) (hC : isC.map (fun i => ws[i]?) = wc.map some) (hR : isR.map (fun i => ws[i]?) = wr.map some) (hn : va_nd isR = true) (hdis : ∀ i ∈ isR, i ∉ isC) (hp : va_nd perm = true) (hq : perm.map (fun i => (wr ++ w1)[i]?) = ws'.map some)
    (hlen : As.length = n) (hsz : ls.size = nL) (hst : st0 = As.reverse ++ rest) (hW : (rest.map fun v => v.category).sum ≤ 8) (hdg : decode cc pc = .ok (.invokestatic index, 3)) (hroom : cells + 0 ≤ R.cells ∧ slots + 0 ≤ R.slots)
    (kk : ∀ (H1 : Heap) (locs1 : List Loc), va_P D vwCl ws' H1 → va_D A ws' → va_S A s.heap H1 locs1 → W p l e R s m args below meth c H1 locs1 cells slots Q (F0 m (pc + 3) ls (.long r :: rest))) : W p l e R s m args below meth c H locs cells slots Q (F0 m pc ls st0) :=
  go_l (va_runS S hM cw (pre_S hP hD hK hN isC hnc hC) (g := F0 m pc ls st0) rfl hlen hsz hst (lv_room hW) hdg hroom) hP hD hS hA isC isR perm hC hR hn hdis hp hq kk
theorem cs_v (S : CallFix p m c cc nL s args Ts own) (cw : CallB R s args own index y bytes maxL ret wsy rm 0 0 n ∧ (Cond.static y).before args s = true) (hK : va_K D vwCl T s) (hN : Nst s) (hP : va_P D vwCl ws H) (hD : va_D A ws) (hS : va_S A s.heap H locs) (hA : ∀ q, s.heap.size ≤ q → A q) (hM : MetV l y wsy rm As D T wc H.size w1) (isC isR perm : List Nat) (hnc : va_nd isC = true) (hC : isC.map (fun i => ws[i]?) = wc.map some) (hR : isR.map (fun i => ws[i]?) = wr.map some) (hn : va_nd isR = true) (hdis : ∀ i ∈ isR, i ∉ isC) (hp : va_nd perm = true) (hq : perm.map (fun i => (wr ++ w1)[i]?) = ws'.map some)
    (hlen : As.length = n) (hsz : ls.size = nL) (hst : st0 = As.reverse ++ rest) (hW : (rest.map fun v => v.category).sum ≤ 8) (hdg : decode cc pc = .ok (.invokestatic index, 3)) (hroom : cells + 0 ≤ R.cells ∧ slots + 0 ≤ R.slots)
    (kk : ∀ (H1 : Heap) (locs1 : List Loc), va_P D vwCl ws' H1 → va_D A ws' → va_S A s.heap H1 locs1 → W p l e R s m args below meth c H1 locs1 cells slots Q (F0 m (pc + 3) ls rest)) : W p l e R s m args below meth c H locs cells slots Q (F0 m pc ls st0) :=
  go_v (va_runS S hM cw (pre_S hP hD hK hN isC hnc hC) (g := F0 m pc ls st0) rfl hlen hsz hst (lv_room hW) hdg hroom) hP hD hS hA isC isR perm hC hR hn hdis hp hq kk
theorem cn_i {r : Int32} (S : CallFix p m c cc nL s args Ts own) (cw : va_CN R s args own index y host bytes maxL ret wsy rm 0 0 n ∧ (Cond.static y).before args s = true ∧ True) (hK : va_K D vwCl T s) (hN : Nst s) (hP : va_P D vwCl ws H) (hD : va_D A ws) (hS : va_S A s.heap H locs) (hA : ∀ q, s.heap.size ≤ q → A q) (hM : MetI l y wsy rm As D T wc H.size r w1) (isC isR perm : List Nat) (hnc : va_nd isC = true) (hC : isC.map (fun i => ws[i]?) = wc.map some) (hR : isR.map (fun i => ws[i]?) = wr.map some) (hn : va_nd isR = true) (hdis : ∀ i ∈ isR, i ∉ isC) (hp : va_nd perm = true) (hq : perm.map (fun i => (wr ++ w1)[i]?) = ws'.map some)
    (hlen : As.length = n) (hsz : ls.size = nL) (hst : st0 = As.reverse ++ rest) (hW : (rest.map fun v => v.category).sum ≤ 8) (hdg : decode cc pc = .ok (.invokestatic index, 3)) (hroom : cells + 0 ≤ R.cells ∧ slots + 0 ≤ R.slots)
    (kk : ∀ (H1 : Heap) (locs1 : List Loc), va_P D vwCl ws' H1 → va_D A ws' → va_S A s.heap H1 locs1 → W p l e R s m args below meth c H1 locs1 cells slots Q (F0 m (pc + 3) ls (.int r :: rest))) : W p l e R s m args below meth c H locs cells slots Q (F0 m pc ls st0) :=
  go_i (va_runSN S hM cw (pre_S hP hD hK hN isC hnc hC) (g := F0 m pc ls st0) rfl hlen hsz hst (lv_room hW) hdg hroom) hP hD hS hA isC isR perm hC hR hn hdis hp hq kk
theorem cn_l {r : Int64} (S : CallFix p m c cc nL s args Ts own) (cw : va_CN R s args own index y host bytes maxL ret wsy rm 0 0 n ∧ (Cond.static y).before args s = true ∧ True) (hK : va_K D vwCl T s) (hN : Nst s) (hP : va_P D vwCl ws H) (hD : va_D A ws) (hS : va_S A s.heap H locs) (hA : ∀ q, s.heap.size ≤ q → A q) (hM : MetL l y wsy rm As D T wc H.size r w1) (isC isR perm : List Nat) (hnc : va_nd isC = true) (hC : isC.map (fun i => ws[i]?) = wc.map some) (hR : isR.map (fun i => ws[i]?) = wr.map some) (hn : va_nd isR = true) (hdis : ∀ i ∈ isR, i ∉ isC) (hp : va_nd perm = true) (hq : perm.map (fun i => (wr ++ w1)[i]?) = ws'.map some)
    (hlen : As.length = n) (hsz : ls.size = nL) (hst : st0 = As.reverse ++ rest) (hW : (rest.map fun v => v.category).sum ≤ 8) (hdg : decode cc pc = .ok (.invokestatic index, 3)) (hroom : cells + 0 ≤ R.cells ∧ slots + 0 ≤ R.slots)
    (kk : ∀ (H1 : Heap) (locs1 : List Loc), va_P D vwCl ws' H1 → va_D A ws' → va_S A s.heap H1 locs1 → W p l e R s m args below meth c H1 locs1 cells slots Q (F0 m (pc + 3) ls (.long r :: rest))) : W p l e R s m args below meth c H locs cells slots Q (F0 m pc ls st0) :=
  go_l (va_runSN S hM cw (pre_S hP hD hK hN isC hnc hC) (g := F0 m pc ls st0) rfl hlen hsz hst (lv_room hW) hdg hroom) hP hD hS hA isC isR perm hC hR hn hdis hp hq kk
theorem cn_v (S : CallFix p m c cc nL s args Ts own) (cw : va_CN R s args own index y host bytes maxL ret wsy rm 0 0 n ∧ (Cond.static y).before args s = true ∧ True) (hK : va_K D vwCl T s) (hN : Nst s) (hP : va_P D vwCl ws H) (hD : va_D A ws) (hS : va_S A s.heap H locs) (hA : ∀ q, s.heap.size ≤ q → A q) (hM : MetV l y wsy rm As D T wc H.size w1) (isC isR perm : List Nat) (hnc : va_nd isC = true) (hC : isC.map (fun i => ws[i]?) = wc.map some) (hR : isR.map (fun i => ws[i]?) = wr.map some) (hn : va_nd isR = true) (hdis : ∀ i ∈ isR, i ∉ isC) (hp : va_nd perm = true) (hq : perm.map (fun i => (wr ++ w1)[i]?) = ws'.map some)
    (hlen : As.length = n) (hsz : ls.size = nL) (hst : st0 = As.reverse ++ rest) (hW : (rest.map fun v => v.category).sum ≤ 8) (hdg : decode cc pc = .ok (.invokestatic index, 3)) (hroom : cells + 0 ≤ R.cells ∧ slots + 0 ≤ R.slots)
    (kk : ∀ (H1 : Heap) (locs1 : List Loc), va_P D vwCl ws' H1 → va_D A ws' → va_S A s.heap H1 locs1 → W p l e R s m args below meth c H1 locs1 cells slots Q (F0 m (pc + 3) ls rest)) : W p l e R s m args below meth c H locs cells slots Q (F0 m pc ls st0) :=
  go_v (va_runSN S hM cw (pre_S hP hD hK hN isC hnc hC) (g := F0 m pc ls st0) rfl hlen hsz hst (lv_room hW) hdg hroom) hP hD hS hA isC isR perm hC hR hn hdis hp hq kk
end CALLS2
