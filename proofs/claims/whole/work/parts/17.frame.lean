/-! calls in a world ws ++ X whose tail X the callee doesn't know -/
theorem fr_x {D : va_G} {A : Nat → Prop} {ws X : va_W} {H : Heap} (hP : va_P D vwCl (ws ++ X) H) (hD : va_D A (ws ++ X)) : va_P D vwCl ws H ∧ va_P D vwCl X H ∧ va_D A ws ∧ va_D A X ∧ ∀ (i j : Nat) (p q : Nat × va_E), ws[i]? = some p → X[j]? = some q → p.1 ≠ q.1 := by
  have hl : ∀ (k : Nat) (q : Nat × va_E), ws[k]? = some q → (ws ++ X)[k]? = some q := fun k q h => by
    rw [List.getElem?_append_left (List.getElem?_eq_some_iff.mp h).1]; exact h
  have hr : ∀ (k : Nat) (q : Nat × va_E), X[k]? = some q → (ws ++ X)[ws.length + k]? = some q := fun k q h => by
    rw [List.getElem?_append_right (Nat.le_add_right _ _), Nat.add_sub_cancel_left]; exact h
  refine ⟨fun k q h => hP k q (hl k q h), fun k q h => hP _ q (hr k q h), ⟨fun i j p q h1 h2 e => hD.1 i j p q (hl i p h1) (hl j q h2) e, fun k q h => hD.2 k q (hl k q h)⟩, ⟨fun i j p q h1 h2 e => ?_, fun k q h => hD.2 _ q (hr k q h)⟩, fun i j p q h1 h2 e => ?_⟩
  · have := hD.1 _ _ p q (hr i p h1) (hr j q h2) e
    omega
  · have h3 := hD.1 _ _ p q (hl i p h1) (hr j q h2) e
    have h4 := (List.getElem?_eq_some_iff.mp h1).1
    omega
theorem c_mem {ws wc : va_W} (isC : List Nat) (hC : isC.map (fun i => ws[i]?) = wc.map some) {k : Nat} {q : Nat × va_E} (h : wc[k]? = some q) : ∃ i : Nat, ws[i]? = some q := by
  have h1 : (wc.map some)[k]? = some (some q) := by rw [List.getElem?_map, h]; rfl
  rw [← hC, List.getElem?_map] at h1
  cases h2 : isC[k]? with
  | none => rw [h2] at h1; cases h1
  | some i => rw [h2] at h1; exact ⟨i, Option.some.inj h1⟩
theorem fr_j {D : va_G} {A : Nat → Prop} {ws wc wr w1 X : va_W} {H H1 : Heap} (hP : va_P D vwCl (ws ++ X) H) (hD : va_D A (ws ++ X)) (isC isR : List Nat) (hC : isC.map (fun i => ws[i]?) = wc.map some) (hR : isR.map (fun i => ws[i]?) = wr.map some) (hn : va_nd isR = true) (hdis : ∀ i ∈ isR, i ∉ isC)
    (hk : ∀ q : Nat, q < H.size → ¬ va_A wc H.size q → H1[q]? = H[q]?) (hF : ∀ q, va_A wc H.size q → A q) (hP1 : va_P D vwCl w1 H1) (hD1 : va_D (va_A wc H.size) w1) : va_P D vwCl ((wr ++ w1) ++ X) H1 ∧ va_D A ((wr ++ w1) ++ X) := by
  obtain ⟨hPw, hPX, hDw, hDX, hap⟩ := fr_x hP hD
  obtain ⟨h1, h2⟩ := va_join (wr := wr) (w1 := w1) hPw hDw isC isR hC hR hn hdis hk hF hP1 hD1
  have hno : ∀ (j : Nat) (q : Nat × va_E), X[j]? = some q → q.1 < H.size ∧ ¬ va_A wc H.size q.1 := fun j q hq => by
    have hl := (hPX j q hq).lt
    refine ⟨hl, fun h => ?_⟩
    rcases h with ⟨k, e, h⟩ | h
    · obtain ⟨i, hi⟩ := c_mem isC hC h
      exact hap i j _ q hi hq rfl
    · omega
  refine ⟨h1.app (fun j q hq => (hPX j q hq).kept (hk q.1 (hno j q hq).1 (hno j q hq).2)), h2.app hDX (fun i j p q hp hq e => ?_)⟩
  rcases Nat.lt_or_ge i wr.length with hi | hi
  · rw [List.getElem?_append_left hi] at hp
    obtain ⟨k, hk⟩ := c_mem isR hR hp
    exact hap k j p q hk hq e
  · rw [List.getElem?_append_right hi] at hp
    have := hD1.2 _ p hp
    rw [e] at this
    exact (hno j q hq).2 this
theorem fr_p {D : va_G} {A : Nat → Prop} {Y Y' X : va_W} {H : Heap} (hP : va_P D vwCl (Y ++ X) H) (hD : va_D A (Y ++ X)) (perm : List Nat) (hp : va_nd perm = true) (hq : perm.map (fun i => Y[i]?) = Y'.map some) : va_P D vwCl (Y' ++ X) H ∧ va_D A (Y' ++ X) := by
  obtain ⟨hPw, hPX, hDw, hDX, hap⟩ := fr_x hP hD
  refine ⟨(hPw.sub perm (mp_fm _ _ _ hq)).app hPX, (hDw.sub perm hp hq).app hDX (fun i j p q hp1 hq1 e => ?_)⟩
  obtain ⟨k, hk⟩ := c_mem perm hq hp1
  exact hap k j p q hk hq1 e
section FRX
variable {p : Program} {l : Launch} {e : Env} {R : Room} {s : State} {m : MethodId} {args : Array Value} {below : List Frame} {meth : Method} {c : Code} {H : Heap} {locs : List Loc} {cells slots : Nat} {Q : State → Prop}
variable {y : MethodName} {bytes cc : ByteArray} {maxL nL n index pc : Nat} {ret : Option FieldType} {wsy : List Cond} {rm : Room} {Ts : List Cond} {own C host : String} {b : Addr} {As rest st0 : List Value} {ls : Array Slot}
variable {D : va_G} {T : List (ClassId × FieldType)} {ws wc wr w1 ws' X : va_W} {A : Nat → Prop}
theorem pre_x {ci q0 : Nat} {q : vw_C} {fs : List Value} (hP : va_P D vwCl (ws ++ X) H) (hD : va_D A (ws ++ X)) (hK : va_K D vwCl T s) (hN : Nst s) (isC : List Nat) (hnc : va_nd isC = true) (hC : isC.map (fun i => ws[i]?) = wc.map some) (hc : vwCl[ci]? = some q) (he : ws[q0]? = some (b, .inr (ci, fs))) : PreV s H q.1 b (va_Pc (.ref b :: As) (Pw D T wc H.size)) As := by
  obtain ⟨hPw, _, hDw, _, _⟩ := fr_x hP hD
  exact pre_V hPw hDw hK hN isC hnc hC hc he
theorem fre_x {H0 : Heap} {isC : List Nat} (hD : va_D A (ws ++ X)) (hS : va_S A H0 H locs) (hA : ∀ q, H0.size ≤ q → A q) (hC : isC.map (fun i => ws[i]?) = wc.map some) : ∀ q, va_A wc H.size q → A q := by
  have hDw : va_D A ws := ⟨fun i j p q h1 h2 e => hD.1 i j p q (by rw [List.getElem?_append_left (List.getElem?_eq_some_iff.mp h1).1]; exact h1) (by rw [List.getElem?_append_left (List.getElem?_eq_some_iff.mp h2).1]; exact h2) e, fun k q h => hD.2 k q (by rw [List.getElem?_append_left (List.getElem?_eq_some_iff.mp h).1]; exact h)⟩
  exact va_free (wc := wc) hDw hS hA isC hC
theorem cx_i {r : Int32} {ci q0 : Nat} {q : vw_C} {fs : List Value} (S : CallFix p m c cc nL s args Ts own) (cw : CallW R s args own q.1 index y bytes maxL ret wsy rm 0 0 n) (hK : va_K D vwCl T s) (hN : Nst s) (hP : va_P D vwCl (ws ++ X) H) (hD : va_D A (ws ++ X)) (hS : va_S A s.heap H locs) (hA : ∀ q, s.heap.size ≤ q → A q) (hM : MetI l y wsy rm (.ref b :: As) D T wc H.size r w1) (hc : vwCl[ci]? = some q) (he : ws[q0]? = some (b, .inr (ci, fs))) (isC isR perm : List Nat) (hnc : va_nd isC = true) (hC : isC.map (fun i => ws[i]?) = wc.map some) (hR : isR.map (fun i => ws[i]?) = wr.map some) (hn : va_nd isR = true) (hdis : ∀ i ∈ isR, i ∉ isC) (hp : va_nd perm = true) (hq : perm.map (fun i => (wr ++ w1)[i]?) = ws'.map some)
    (hlen : As.length = n) (hsz : ls.size = nL) (hst : st0 = As.reverse ++ .ref b :: rest) (hW : (rest.map fun v => v.category).sum ≤ 8) (hdg : decode cc pc = .ok (.invokevirtual index, 3)) (hroom : cells + 0 ≤ R.cells ∧ slots + 0 ≤ R.slots)
    (kk : ∀ (H1 : Heap) (locs1 : List Loc), va_P D vwCl (ws' ++ X) H1 → va_D A (ws' ++ X) → va_S A s.heap H1 locs1 → W p l e R s m args below meth c H1 locs1 cells slots Q (F0 m (pc + 3) ls (.int r :: rest))) : W p l e R s m args below meth c H locs cells slots Q (F0 m pc ls st0) := by
  have hF := fre_x (isC := isC) hD hS hA hC
  refine va_calli (va_runV S hM cw (pre_x hP hD hK hN isC hnc hC hc he) (g := F0 m pc ls st0) rfl hlen hsz hst (lv_room hW) hdg hroom) hS (fun q _ h => hF q h) hF (fun r' u t H1 locs1 ht hvm hw hB hz1 hk1 hS1 => ?_)
  obtain ⟨hP1, hD1⟩ := hB
  rw [ht] at hP1
  obtain ⟨h1, h2⟩ := fr_j (wr := wr) (w1 := w1) hP hD isC isR hC hR hn hdis hk1 hF hP1 hD1
  obtain ⟨h1, h2⟩ := fr_p h1 h2 perm hp hq
  rw [hw]
  exact kk H1 locs1 h1 h2 hS1
theorem cx_l {r : Int64} {ci q0 : Nat} {q : vw_C} {fs : List Value} (S : CallFix p m c cc nL s args Ts own) (cw : CallW R s args own q.1 index y bytes maxL ret wsy rm 0 0 n) (hK : va_K D vwCl T s) (hN : Nst s) (hP : va_P D vwCl (ws ++ X) H) (hD : va_D A (ws ++ X)) (hS : va_S A s.heap H locs) (hA : ∀ q, s.heap.size ≤ q → A q) (hM : MetL l y wsy rm (.ref b :: As) D T wc H.size r w1) (hc : vwCl[ci]? = some q) (he : ws[q0]? = some (b, .inr (ci, fs))) (isC isR perm : List Nat) (hnc : va_nd isC = true) (hC : isC.map (fun i => ws[i]?) = wc.map some) (hR : isR.map (fun i => ws[i]?) = wr.map some) (hn : va_nd isR = true) (hdis : ∀ i ∈ isR, i ∉ isC) (hp : va_nd perm = true) (hq : perm.map (fun i => (wr ++ w1)[i]?) = ws'.map some)
    (hlen : As.length = n) (hsz : ls.size = nL) (hst : st0 = As.reverse ++ .ref b :: rest) (hW : (rest.map fun v => v.category).sum ≤ 8) (hdg : decode cc pc = .ok (.invokevirtual index, 3)) (hroom : cells + 0 ≤ R.cells ∧ slots + 0 ≤ R.slots)
    (kk : ∀ (H1 : Heap) (locs1 : List Loc), va_P D vwCl (ws' ++ X) H1 → va_D A (ws' ++ X) → va_S A s.heap H1 locs1 → W p l e R s m args below meth c H1 locs1 cells slots Q (F0 m (pc + 3) ls (.long r :: rest))) : W p l e R s m args below meth c H locs cells slots Q (F0 m pc ls st0) := by
  have hF := fre_x (isC := isC) hD hS hA hC
  refine va_calll (va_runV S hM cw (pre_x hP hD hK hN isC hnc hC hc he) (g := F0 m pc ls st0) rfl hlen hsz hst (lv_room hW) hdg hroom) hS (fun q _ h => hF q h) hF (fun r' u t H1 locs1 ht hvm hw hB hz1 hk1 hS1 => ?_)
  obtain ⟨hP1, hD1⟩ := hB
  rw [ht] at hP1
  obtain ⟨h1, h2⟩ := fr_j (wr := wr) (w1 := w1) hP hD isC isR hC hR hn hdis hk1 hF hP1 hD1
  obtain ⟨h1, h2⟩ := fr_p h1 h2 perm hp hq
  rw [hw]
  exact kk H1 locs1 h1 h2 hS1
theorem cx_g {S' : Type} {v1 : S' → va_W} {mc ms : Nat} {r : Int32} {ci q0 : Nat} {q : vw_C} {fs : List Value} {v' : S' → va_W} (S : CallFix p m c cc nL s args Ts own) (cw : CallW R s args own q.1 index y bytes maxL ret wsy rm mc ms n) (hK : va_K D vwCl T s) (hN : Nst s) (hP : va_P D vwCl (ws ++ X) H) (hD : va_D A (ws ++ X)) (hS : va_S A s.heap H locs) (hA : ∀ q, s.heap.size ≤ q → A q) (hM : MetG l y wsy rm (.ref b :: As) D T wc H.size r v1 mc ms) (hc : vwCl[ci]? = some q) (he : ws[q0]? = some (b, .inr (ci, fs))) (isC isR perm : List Nat) (hnc : va_nd isC = true) (hC : isC.map (fun i => ws[i]?) = wc.map some) (hR : isR.map (fun i => ws[i]?) = wr.map some) (hn : va_nd isR = true) (hdis : ∀ i ∈ isR, i ∉ isC) (hp : va_nd perm = true) (hq : ∀ u, perm.map (fun i => (wr ++ v1 u)[i]?) = (v' u).map some)
    (hlen : As.length = n) (hsz : ls.size = nL) (hst : st0 = As.reverse ++ .ref b :: rest) (hW : (rest.map fun v => v.category).sum ≤ 8) (hdg : decode cc pc = .ok (.invokevirtual index, 3)) (hroom : cells + mc ≤ R.cells ∧ slots + ms ≤ R.slots)
    (kk : ∀ (u : S') (H1 : Heap) (locs1 : List Loc), va_P D vwCl (v' u ++ X) H1 → va_D A (v' u ++ X) → va_S A s.heap H1 locs1 → W p l e R s m args below meth c H1 locs1 (cells + mc) (slots + ms) Q (F0 m (pc + 3) ls (.int r :: rest))) : W p l e R s m args below meth c H locs cells slots Q (F0 m pc ls st0) := by
  have hF := fre_x (isC := isC) hD hS hA hC
  refine va_calli (va_runV S hM cw (pre_x hP hD hK hN isC hnc hC hc he) (g := F0 m pc ls st0) rfl hlen hsz hst (lv_room hW) hdg hroom) hS (fun q _ h => hF q h) hF (fun r' u t H1 locs1 ht hvm hw hB hz1 hk1 hS1 => ?_)
  obtain ⟨hP1, hD1⟩ := hB
  rw [ht] at hP1
  obtain ⟨h1, h2⟩ := fr_j (wr := wr) (w1 := v1 u) hP hD isC isR hC hR hn hdis hk1 hF hP1 hD1
  obtain ⟨h1, h2⟩ := fr_p h1 h2 perm hp (hq u)
  rw [hw]
  exact kk u H1 locs1 h1 h2 hS1
end FRX
