section CALLS
variable {p : Program} {l : Launch} {e : Env} {R : Room} {s : State} {m : MethodId} {args : Array Value} {below : List Frame} {meth : Method} {c : Code} {H : Heap} {locs : List Loc} {cells slots : Nat} {Q : State → Prop}
variable {cc : ByteArray} {pc : Nat} {ls : Array Slot} {rest : List Value} {G : GT} {A : Nat → Prop} {ws : va_W}
theorem cutP {wc : va_W} (hP : va_P G.1 vwCl ws H) (isC : List Nat) (hC : isC.map (fun i => ws[i]?) = wc.map some) : va_P G.1 vwCl wc H := by
  refine hP.sub isC ?_
  have h1 : isC.filterMap (fun i => ws[i]?) = (isC.map (fun i => ws[i]?)).filterMap id := by rw [List.filterMap_map]; rfl
  rw [h1, hC, List.filterMap_map]
  simp
theorem call_Vi {y : MethodName} {bytes : ByteArray} {maxL nL n index : Nat} {ret : Option FieldType} {wy Ts : List Cond} {rm : Room} {own C : String} {b : Nat} {As st : List Value} {wc wr : va_W} {post : Int32 → va_W → Prop} {c1 s1 : Nat}
    (fix : CallFix p m c cc nL s args Ts own) (C0 : Ci l y wy rm G (.ref b :: As) wc post) (cw : CallW R s args own C index y bytes maxL ret wy rm rm.cells rm.slots n) (hK : KK G s) (hN : NN s) (hSS : SS G.2.2.2.2.2 A s s.heap) (hP : va_P G.1 vwCl ws H) (hD : va_D A ws) (hS : va_S A s.heap H locs) (hA : ∀ q : Nat, s.heap.size ≤ q → A q)
    (q0 ci : Nat) {fs : List Value} {r0 : vw_C} (he : wc[q0]? = some (b, .inr (ci, fs))) (hc : vwCl[ci]? = some r0) (hC0 : r0.1 = C) (isC isR : List Nat) (hC : isC.map (fun i => ws[i]?) = wc.map some) (hR : isR.map (fun i => ws[i]?) = wr.map some) (hnC : va_nd isC = true) (hnR : va_nd isR = true) (hdis : ∀ i ∈ isR, i ∉ isC)
    (hn : As.length = n) (hsize : ls.size = nL) (hst : st = As.reverse ++ .ref b :: rest) (hW : (rest.map fun v => v.category).sum ≤ 8) (hdg : decode cc pc = .ok (.invokevirtual index, 3)) (hf : c1 ≤ R.cells ∧ s1 ≤ R.slots) (hc1 : cells + rm.cells = c1) (hs1 : slots + rm.slots = s1)
    (kk : ∀ (r : Int32) (u : va_W) (H1 : Heap) (locs1 : List Loc), post r u → va_P G.1 vwCl (wr ++ u) H1 → va_D A (wr ++ u) → va_S A s.heap H1 locs1 → W p l e R s m args below meth c H1 locs1 c1 s1 Q (F0 m (pc + 3) ls (.int r :: rest))) : W p l e R s m args below meth c H locs cells slots Q (F0 m pc ls st) := by
  subst hc1 hs1 hst
  have hPc := cutP hP isC hC
  have hDc := hD.sub isC hnC hC
  have hFc := va_free hD hS hA isC hC
  refine va_calli (va_runV (rest := rest) fix (C0 H.size) cw ⟨PreC.blind, by have h9 := va_recv hK hPc hc he; rw [hC0] at h9; exact h9, fun U hU hW => ⟨rfl, by rw [hU], by rw [hU]; exact hPc, va_K.moved hW.alike hK, hN.warm hW, by rw [hU]; exact ((hSS.kept hS.2.1).narrow hFc).warm hW, hDc.weaken (fun _ _ _ _ => trivial)⟩⟩ rfl hn hsize rfl (lv_room hW) hdg hf) hS (fun q _ h => hFc q h) hFc (fun r u t H1 locs1 ht hvm hw hB hz1 hk1 hS9 => ?_)
  obtain ⟨hP1, hD1⟩ := hB
  rw [ht] at hP1
  obtain ⟨hP9, hD9⟩ := va_join hP hD isC isR hC hR hnR hdis hk1 hFc hP1 hD1
  exact kk r u H1 locs1 hw hP9 hD9 hS9
theorem call_Vl {y : MethodName} {bytes : ByteArray} {maxL nL n index : Nat} {ret : Option FieldType} {wy Ts : List Cond} {rm : Room} {own C : String} {b : Nat} {As st : List Value} {wc wr : va_W} {post : Int64 → va_W → Prop} {c1 s1 : Nat}
    (fix : CallFix p m c cc nL s args Ts own) (C0 : Cl l y wy rm G (.ref b :: As) wc post) (cw : CallW R s args own C index y bytes maxL ret wy rm rm.cells rm.slots n) (hK : KK G s) (hN : NN s) (hSS : SS G.2.2.2.2.2 A s s.heap) (hP : va_P G.1 vwCl ws H) (hD : va_D A ws) (hS : va_S A s.heap H locs) (hA : ∀ q : Nat, s.heap.size ≤ q → A q)
    (q0 ci : Nat) {fs : List Value} {r0 : vw_C} (he : wc[q0]? = some (b, .inr (ci, fs))) (hc : vwCl[ci]? = some r0) (hC0 : r0.1 = C) (isC isR : List Nat) (hC : isC.map (fun i => ws[i]?) = wc.map some) (hR : isR.map (fun i => ws[i]?) = wr.map some) (hnC : va_nd isC = true) (hnR : va_nd isR = true) (hdis : ∀ i ∈ isR, i ∉ isC)
    (hn : As.length = n) (hsize : ls.size = nL) (hst : st = As.reverse ++ .ref b :: rest) (hW : (rest.map fun v => v.category).sum ≤ 8) (hdg : decode cc pc = .ok (.invokevirtual index, 3)) (hf : c1 ≤ R.cells ∧ s1 ≤ R.slots) (hc1 : cells + rm.cells = c1) (hs1 : slots + rm.slots = s1)
    (kk : ∀ (r : Int64) (u : va_W) (H1 : Heap) (locs1 : List Loc), post r u → va_P G.1 vwCl (wr ++ u) H1 → va_D A (wr ++ u) → va_S A s.heap H1 locs1 → W p l e R s m args below meth c H1 locs1 c1 s1 Q (F0 m (pc + 3) ls (.long r :: rest))) : W p l e R s m args below meth c H locs cells slots Q (F0 m pc ls st) := by
  subst hc1 hs1 hst
  have hPc := cutP hP isC hC
  have hDc := hD.sub isC hnC hC
  have hFc := va_free hD hS hA isC hC
  refine va_calll (va_runV (rest := rest) fix (C0 H.size) cw ⟨PreC.blind, by have h9 := va_recv hK hPc hc he; rw [hC0] at h9; exact h9, fun U hU hW => ⟨rfl, by rw [hU], by rw [hU]; exact hPc, va_K.moved hW.alike hK, hN.warm hW, by rw [hU]; exact ((hSS.kept hS.2.1).narrow hFc).warm hW, hDc.weaken (fun _ _ _ _ => trivial)⟩⟩ rfl hn hsize rfl (lv_room hW) hdg hf) hS (fun q _ h => hFc q h) hFc (fun r u t H1 locs1 ht hvm hw hB hz1 hk1 hS9 => ?_)
  obtain ⟨hP1, hD1⟩ := hB
  rw [ht] at hP1
  obtain ⟨hP9, hD9⟩ := va_join hP hD isC isR hC hR hnR hdis hk1 hFc hP1 hD1
  exact kk r u H1 locs1 hw hP9 hD9 hS9
theorem call_Vv {y : MethodName} {bytes : ByteArray} {maxL nL n index : Nat} {ret : Option FieldType} {wy Ts : List Cond} {rm : Room} {own C : String} {b : Nat} {As st : List Value} {wc wr : va_W} {post : va_W → Prop} {c1 s1 : Nat}
    (fix : CallFix p m c cc nL s args Ts own) (C0 : Cv l y wy rm G (.ref b :: As) wc post) (cw : CallW R s args own C index y bytes maxL ret wy rm rm.cells rm.slots n) (hK : KK G s) (hN : NN s) (hSS : SS G.2.2.2.2.2 A s s.heap) (hP : va_P G.1 vwCl ws H) (hD : va_D A ws) (hS : va_S A s.heap H locs) (hA : ∀ q : Nat, s.heap.size ≤ q → A q)
    (q0 ci : Nat) {fs : List Value} {r0 : vw_C} (he : wc[q0]? = some (b, .inr (ci, fs))) (hc : vwCl[ci]? = some r0) (hC0 : r0.1 = C) (isC isR : List Nat) (hC : isC.map (fun i => ws[i]?) = wc.map some) (hR : isR.map (fun i => ws[i]?) = wr.map some) (hnC : va_nd isC = true) (hnR : va_nd isR = true) (hdis : ∀ i ∈ isR, i ∉ isC)
    (hn : As.length = n) (hsize : ls.size = nL) (hst : st = As.reverse ++ .ref b :: rest) (hW : (rest.map fun v => v.category).sum ≤ 8) (hdg : decode cc pc = .ok (.invokevirtual index, 3)) (hf : c1 ≤ R.cells ∧ s1 ≤ R.slots) (hc1 : cells + rm.cells = c1) (hs1 : slots + rm.slots = s1)
    (kk : ∀ (u : va_W) (H1 : Heap) (locs1 : List Loc), post u → va_P G.1 vwCl (wr ++ u) H1 → va_D A (wr ++ u) → va_S A s.heap H1 locs1 → W p l e R s m args below meth c H1 locs1 c1 s1 Q (F0 m (pc + 3) ls rest)) : W p l e R s m args below meth c H locs cells slots Q (F0 m pc ls st) := by
  subst hc1 hs1 hst
  have hPc := cutP hP isC hC
  have hDc := hD.sub isC hnC hC
  have hFc := va_free hD hS hA isC hC
  refine va_callv (va_runV (rest := rest) fix (C0 H.size) cw ⟨PreC.blind, by have h9 := va_recv hK hPc hc he; rw [hC0] at h9; exact h9, fun U hU hW => ⟨rfl, by rw [hU], by rw [hU]; exact hPc, va_K.moved hW.alike hK, hN.warm hW, by rw [hU]; exact ((hSS.kept hS.2.1).narrow hFc).warm hW, hDc.weaken (fun _ _ _ _ => trivial)⟩⟩ rfl hn hsize rfl (lv_room hW) hdg hf) hS (fun q _ h => hFc q h) hFc (fun u t H1 locs1 ht hvm hw hB hz1 hk1 hS9 => ?_)
  obtain ⟨hP1, hD1⟩ := hB
  rw [ht] at hP1
  obtain ⟨hP9, hD9⟩ := va_join hP hD isC isR hC hR hnR hdis hk1 hFc hP1 hD1
  exact kk u H1 locs1 hw hP9 hD9 hS9
theorem call_Vr {y : MethodName} {bytes : ByteArray} {maxL nL n index : Nat} {ret : Option FieldType} {wy Ts : List Cond} {rm : Room} {own C : String} {b : Nat} {As st : List Value} {wc wr : va_W} {post : Nat → va_W → Prop} {c1 s1 : Nat}
    (fix : CallFix p m c cc nL s args Ts own) (C0 : Cr l y wy rm G (.ref b :: As) wc post) (cw : CallW R s args own C index y bytes maxL ret wy rm rm.cells rm.slots n) (hK : KK G s) (hN : NN s) (hSS : SS G.2.2.2.2.2 A s s.heap) (hP : va_P G.1 vwCl ws H) (hD : va_D A ws) (hS : va_S A s.heap H locs) (hA : ∀ q : Nat, s.heap.size ≤ q → A q)
    (q0 ci : Nat) {fs : List Value} {r0 : vw_C} (he : wc[q0]? = some (b, .inr (ci, fs))) (hc : vwCl[ci]? = some r0) (hC0 : r0.1 = C) (isC isR : List Nat) (hC : isC.map (fun i => ws[i]?) = wc.map some) (hR : isR.map (fun i => ws[i]?) = wr.map some) (hnC : va_nd isC = true) (hnR : va_nd isR = true) (hdis : ∀ i ∈ isR, i ∉ isC)
    (hn : As.length = n) (hsize : ls.size = nL) (hst : st = As.reverse ++ .ref b :: rest) (hW : (rest.map fun v => v.category).sum ≤ 8) (hdg : decode cc pc = .ok (.invokevirtual index, 3)) (hf : c1 ≤ R.cells ∧ s1 ≤ R.slots) (hc1 : cells + rm.cells = c1) (hs1 : slots + rm.slots = s1)
    (kk : ∀ (r : Nat) (u : va_W) (H1 : Heap) (locs1 : List Loc), post r u → va_P G.1 vwCl (wr ++ u) H1 → va_D A (wr ++ u) → va_S A s.heap H1 locs1 → W p l e R s m args below meth c H1 locs1 c1 s1 Q (F0 m (pc + 3) ls (.ref r :: rest))) : W p l e R s m args below meth c H locs cells slots Q (F0 m pc ls st) := by
  subst hc1 hs1 hst
  have hPc := cutP hP isC hC
  have hDc := hD.sub isC hnC hC
  have hFc := va_free hD hS hA isC hC
  refine va_callr (va_runV (rest := rest) fix (C0 H.size) cw ⟨PreC.blind, by have h9 := va_recv hK hPc hc he; rw [hC0] at h9; exact h9, fun U hU hW => ⟨rfl, by rw [hU], by rw [hU]; exact hPc, va_K.moved hW.alike hK, hN.warm hW, by rw [hU]; exact ((hSS.kept hS.2.1).narrow hFc).warm hW, hDc.weaken (fun _ _ _ _ => trivial)⟩⟩ rfl hn hsize rfl (lv_room hW) hdg hf) hS (fun q _ h => hFc q h) hFc (fun u ra t H1 locs1 ht hvm hw hB hz1 hk1 hS9 => ?_)
  obtain ⟨rfl, hP1, hD1⟩ := hB
  rw [ht] at hP1
  obtain ⟨hP9, hD9⟩ := va_join hP hD isC isR hC hR hnR hdis hk1 hFc hP1 hD1
  exact kk u.1 u.2 H1 locs1 hw hP9 hD9 hS9
theorem call_Si {y : MethodName} {bytes : ByteArray} {maxL nL n index : Nat} {ret : Option FieldType} {wy Ts : List Cond} {rm : Room} {own : String} {As st : List Value} {wc wr : va_W} {post : Int32 → va_W → Prop} {c1 s1 : Nat}
    (fix : CallFix p m c cc nL s args Ts own) (C0 : Ci l y wy rm G As wc post) (cw : CallB R s args own index y bytes maxL ret wy rm rm.cells rm.slots n ∧ (Cond.static y).before args s = true) (hK : KK G s) (hN : NN s) (hSS : SS G.2.2.2.2.2 A s s.heap) (hP : va_P G.1 vwCl ws H) (hD : va_D A ws) (hS : va_S A s.heap H locs) (hA : ∀ q : Nat, s.heap.size ≤ q → A q)
    (isC isR : List Nat) (hC : isC.map (fun i => ws[i]?) = wc.map some) (hR : isR.map (fun i => ws[i]?) = wr.map some) (hnC : va_nd isC = true) (hnR : va_nd isR = true) (hdis : ∀ i ∈ isR, i ∉ isC)
    (hn : As.length = n) (hsize : ls.size = nL) (hst : st = As.reverse ++ rest) (hW : (rest.map fun v => v.category).sum ≤ 8) (hdg : decode cc pc = .ok (.invokestatic index, 3)) (hf : c1 ≤ R.cells ∧ s1 ≤ R.slots) (hc1 : cells + rm.cells = c1) (hs1 : slots + rm.slots = s1)
    (kk : ∀ (r : Int32) (u : va_W) (H1 : Heap) (locs1 : List Loc), post r u → va_P G.1 vwCl (wr ++ u) H1 → va_D A (wr ++ u) → va_S A s.heap H1 locs1 → W p l e R s m args below meth c H1 locs1 c1 s1 Q (F0 m (pc + 3) ls (.int r :: rest))) : W p l e R s m args below meth c H locs cells slots Q (F0 m pc ls st) := by
  subst hc1 hs1 hst
  have hPc := cutP hP isC hC
  have hDc := hD.sub isC hnC hC
  have hFc := va_free hD hS hA isC hC
  refine va_calli (va_runS (rest := rest) fix (C0 H.size) cw ⟨PreC.blind, fun U hU hW => ⟨rfl, by rw [hU], by rw [hU]; exact hPc, va_K.moved hW.alike hK, hN.warm hW, by rw [hU]; exact ((hSS.kept hS.2.1).narrow hFc).warm hW, hDc.weaken (fun _ _ _ _ => trivial)⟩⟩ rfl hn hsize rfl (lv_room hW) hdg hf) hS (fun q _ h => hFc q h) hFc (fun r u t H1 locs1 ht hvm hw hB hz1 hk1 hS9 => ?_)
  obtain ⟨hP1, hD1⟩ := hB
  rw [ht] at hP1
  obtain ⟨hP9, hD9⟩ := va_join hP hD isC isR hC hR hnR hdis hk1 hFc hP1 hD1
  exact kk r u H1 locs1 hw hP9 hD9 hS9
theorem call_Sl {y : MethodName} {bytes : ByteArray} {maxL nL n index : Nat} {ret : Option FieldType} {wy Ts : List Cond} {rm : Room} {own : String} {As st : List Value} {wc wr : va_W} {post : Int64 → va_W → Prop} {c1 s1 : Nat}
    (fix : CallFix p m c cc nL s args Ts own) (C0 : Cl l y wy rm G As wc post) (cw : CallB R s args own index y bytes maxL ret wy rm rm.cells rm.slots n ∧ (Cond.static y).before args s = true) (hK : KK G s) (hN : NN s) (hSS : SS G.2.2.2.2.2 A s s.heap) (hP : va_P G.1 vwCl ws H) (hD : va_D A ws) (hS : va_S A s.heap H locs) (hA : ∀ q : Nat, s.heap.size ≤ q → A q)
    (isC isR : List Nat) (hC : isC.map (fun i => ws[i]?) = wc.map some) (hR : isR.map (fun i => ws[i]?) = wr.map some) (hnC : va_nd isC = true) (hnR : va_nd isR = true) (hdis : ∀ i ∈ isR, i ∉ isC)
    (hn : As.length = n) (hsize : ls.size = nL) (hst : st = As.reverse ++ rest) (hW : (rest.map fun v => v.category).sum ≤ 8) (hdg : decode cc pc = .ok (.invokestatic index, 3)) (hf : c1 ≤ R.cells ∧ s1 ≤ R.slots) (hc1 : cells + rm.cells = c1) (hs1 : slots + rm.slots = s1)
    (kk : ∀ (r : Int64) (u : va_W) (H1 : Heap) (locs1 : List Loc), post r u → va_P G.1 vwCl (wr ++ u) H1 → va_D A (wr ++ u) → va_S A s.heap H1 locs1 → W p l e R s m args below meth c H1 locs1 c1 s1 Q (F0 m (pc + 3) ls (.long r :: rest))) : W p l e R s m args below meth c H locs cells slots Q (F0 m pc ls st) := by
  subst hc1 hs1 hst
  have hPc := cutP hP isC hC
  have hDc := hD.sub isC hnC hC
  have hFc := va_free hD hS hA isC hC
  refine va_calll (va_runS (rest := rest) fix (C0 H.size) cw ⟨PreC.blind, fun U hU hW => ⟨rfl, by rw [hU], by rw [hU]; exact hPc, va_K.moved hW.alike hK, hN.warm hW, by rw [hU]; exact ((hSS.kept hS.2.1).narrow hFc).warm hW, hDc.weaken (fun _ _ _ _ => trivial)⟩⟩ rfl hn hsize rfl (lv_room hW) hdg hf) hS (fun q _ h => hFc q h) hFc (fun r u t H1 locs1 ht hvm hw hB hz1 hk1 hS9 => ?_)
  obtain ⟨hP1, hD1⟩ := hB
  rw [ht] at hP1
  obtain ⟨hP9, hD9⟩ := va_join hP hD isC isR hC hR hnR hdis hk1 hFc hP1 hD1
  exact kk r u H1 locs1 hw hP9 hD9 hS9
theorem call_Sv {y : MethodName} {bytes : ByteArray} {maxL nL n index : Nat} {ret : Option FieldType} {wy Ts : List Cond} {rm : Room} {own : String} {As st : List Value} {wc wr : va_W} {post : va_W → Prop} {c1 s1 : Nat}
    (fix : CallFix p m c cc nL s args Ts own) (C0 : Cv l y wy rm G As wc post) (cw : CallB R s args own index y bytes maxL ret wy rm rm.cells rm.slots n ∧ (Cond.static y).before args s = true) (hK : KK G s) (hN : NN s) (hSS : SS G.2.2.2.2.2 A s s.heap) (hP : va_P G.1 vwCl ws H) (hD : va_D A ws) (hS : va_S A s.heap H locs) (hA : ∀ q : Nat, s.heap.size ≤ q → A q)
    (isC isR : List Nat) (hC : isC.map (fun i => ws[i]?) = wc.map some) (hR : isR.map (fun i => ws[i]?) = wr.map some) (hnC : va_nd isC = true) (hnR : va_nd isR = true) (hdis : ∀ i ∈ isR, i ∉ isC)
    (hn : As.length = n) (hsize : ls.size = nL) (hst : st = As.reverse ++ rest) (hW : (rest.map fun v => v.category).sum ≤ 8) (hdg : decode cc pc = .ok (.invokestatic index, 3)) (hf : c1 ≤ R.cells ∧ s1 ≤ R.slots) (hc1 : cells + rm.cells = c1) (hs1 : slots + rm.slots = s1)
    (kk : ∀ (u : va_W) (H1 : Heap) (locs1 : List Loc), post u → va_P G.1 vwCl (wr ++ u) H1 → va_D A (wr ++ u) → va_S A s.heap H1 locs1 → W p l e R s m args below meth c H1 locs1 c1 s1 Q (F0 m (pc + 3) ls rest)) : W p l e R s m args below meth c H locs cells slots Q (F0 m pc ls st) := by
  subst hc1 hs1 hst
  have hPc := cutP hP isC hC
  have hDc := hD.sub isC hnC hC
  have hFc := va_free hD hS hA isC hC
  refine va_callv (va_runS (rest := rest) fix (C0 H.size) cw ⟨PreC.blind, fun U hU hW => ⟨rfl, by rw [hU], by rw [hU]; exact hPc, va_K.moved hW.alike hK, hN.warm hW, by rw [hU]; exact ((hSS.kept hS.2.1).narrow hFc).warm hW, hDc.weaken (fun _ _ _ _ => trivial)⟩⟩ rfl hn hsize rfl (lv_room hW) hdg hf) hS (fun q _ h => hFc q h) hFc (fun u t H1 locs1 ht hvm hw hB hz1 hk1 hS9 => ?_)
  obtain ⟨hP1, hD1⟩ := hB
  rw [ht] at hP1
  obtain ⟨hP9, hD9⟩ := va_join hP hD isC isR hC hR hnR hdis hk1 hFc hP1 hD1
  exact kk u H1 locs1 hw hP9 hD9 hS9
theorem call_Sr {y : MethodName} {bytes : ByteArray} {maxL nL n index : Nat} {ret : Option FieldType} {wy Ts : List Cond} {rm : Room} {own : String} {As st : List Value} {wc wr : va_W} {post : Nat → va_W → Prop} {c1 s1 : Nat}
    (fix : CallFix p m c cc nL s args Ts own) (C0 : Cr l y wy rm G As wc post) (cw : CallB R s args own index y bytes maxL ret wy rm rm.cells rm.slots n ∧ (Cond.static y).before args s = true) (hK : KK G s) (hN : NN s) (hSS : SS G.2.2.2.2.2 A s s.heap) (hP : va_P G.1 vwCl ws H) (hD : va_D A ws) (hS : va_S A s.heap H locs) (hA : ∀ q : Nat, s.heap.size ≤ q → A q)
    (isC isR : List Nat) (hC : isC.map (fun i => ws[i]?) = wc.map some) (hR : isR.map (fun i => ws[i]?) = wr.map some) (hnC : va_nd isC = true) (hnR : va_nd isR = true) (hdis : ∀ i ∈ isR, i ∉ isC)
    (hn : As.length = n) (hsize : ls.size = nL) (hst : st = As.reverse ++ rest) (hW : (rest.map fun v => v.category).sum ≤ 8) (hdg : decode cc pc = .ok (.invokestatic index, 3)) (hf : c1 ≤ R.cells ∧ s1 ≤ R.slots) (hc1 : cells + rm.cells = c1) (hs1 : slots + rm.slots = s1)
    (kk : ∀ (r : Nat) (u : va_W) (H1 : Heap) (locs1 : List Loc), post r u → va_P G.1 vwCl (wr ++ u) H1 → va_D A (wr ++ u) → va_S A s.heap H1 locs1 → W p l e R s m args below meth c H1 locs1 c1 s1 Q (F0 m (pc + 3) ls (.ref r :: rest))) : W p l e R s m args below meth c H locs cells slots Q (F0 m pc ls st) := by
  subst hc1 hs1 hst
  have hPc := cutP hP isC hC
  have hDc := hD.sub isC hnC hC
  have hFc := va_free hD hS hA isC hC
  refine va_callr (va_runS (rest := rest) fix (C0 H.size) cw ⟨PreC.blind, fun U hU hW => ⟨rfl, by rw [hU], by rw [hU]; exact hPc, va_K.moved hW.alike hK, hN.warm hW, by rw [hU]; exact ((hSS.kept hS.2.1).narrow hFc).warm hW, hDc.weaken (fun _ _ _ _ => trivial)⟩⟩ rfl hn hsize rfl (lv_room hW) hdg hf) hS (fun q _ h => hFc q h) hFc (fun u ra t H1 locs1 ht hvm hw hB hz1 hk1 hS9 => ?_)
  obtain ⟨rfl, hP1, hD1⟩ := hB
  rw [ht] at hP1
  obtain ⟨hP9, hD9⟩ := va_join hP hD isC isR hC hR hnR hdis hk1 hFc hP1 hD1
  exact kk u.1 u.2 H1 locs1 hw hP9 hD9 hS9
theorem call_Nv {y : MethodName} {bytes : ByteArray} {maxL nL n index : Nat} {wy Ts : List Cond} {rm : Room} {own host : String} {b : Nat} {As st : List Value} {wc wr : va_W} {post : va_W → Prop} {c1 s1 : Nat}
    (fix : CallFix p m c cc nL s args Ts own) (C0 : Cv l y wy rm G (.ref b :: As) wc post) (cw : va_CN R s args own index y host bytes maxL none wy rm rm.cells rm.slots n ∧ y.name = "<init>" ∧ (Cond.instanceMethod y).before args s = true) (hK : KK G s) (hN : NN s) (hSS : SS G.2.2.2.2.2 A s s.heap) (hP : va_P G.1 vwCl ws H) (hD : va_D A ws) (hS : va_S A s.heap H locs) (hA : ∀ q : Nat, s.heap.size ≤ q → A q)
    (isC isR : List Nat) (hC : isC.map (fun i => ws[i]?) = wc.map some) (hR : isR.map (fun i => ws[i]?) = wr.map some) (hnC : va_nd isC = true) (hnR : va_nd isR = true) (hdis : ∀ i ∈ isR, i ∉ isC)
    (hn : As.length = n) (hsize : ls.size = nL) (hst : st = As.reverse ++ .ref b :: rest) (hW : (rest.map fun v => v.category).sum ≤ 8) (hdg : decode cc pc = .ok (.invokespecial index, 3)) (hf : c1 ≤ R.cells ∧ s1 ≤ R.slots) (hc1 : cells + rm.cells = c1) (hs1 : slots + rm.slots = s1)
    (kk : ∀ (u : va_W) (H1 : Heap) (locs1 : List Loc), post u → va_P G.1 vwCl (wr ++ u) H1 → va_D A (wr ++ u) → va_S A s.heap H1 locs1 → W p l e R s m args below meth c H1 locs1 c1 s1 Q (F0 m (pc + 3) ls rest)) : W p l e R s m args below meth c H locs cells slots Q (F0 m pc ls st) := by
  subst hc1 hs1 hst
  have hPc := cutP hP isC hC
  have hDc := hD.sub isC hnC hC
  have hFc := va_free hD hS hA isC hC
  refine va_callv (va_runIN (rest := rest) fix (C0 H.size) cw ⟨PreC.blind, fun U hU hW => ⟨rfl, by rw [hU], by rw [hU]; exact hPc, va_K.moved hW.alike hK, hN.warm hW, by rw [hU]; exact ((hSS.kept hS.2.1).narrow hFc).warm hW, hDc.weaken (fun _ _ _ _ => trivial)⟩⟩ rfl hn hsize rfl (lv_room hW) hdg hf) hS (fun q _ h => hFc q h) hFc (fun u t H1 locs1 ht hvm hw hB hz1 hk1 hS9 => ?_)
  obtain ⟨hP1, hD1⟩ := hB
  rw [ht] at hP1
  obtain ⟨hP9, hD9⟩ := va_join hP hD isC isR hC hR hnR hdis hk1 hFc hP1 hD1
  exact kk u H1 locs1 hw hP9 hD9 hS9
theorem call_Iv {y : MethodName} {bytes : ByteArray} {maxL nL n index : Nat} {wy Ts : List Cond} {rm : Room} {own : String} {b : Nat} {As st : List Value} {wc wr : va_W} {post : va_W → Prop} {c1 s1 : Nat}
    (fix : CallFix p m c cc nL s args Ts own) (C0 : Cv l y wy rm G (.ref b :: As) wc post) (cw : CallB R s args own index y bytes maxL none wy rm rm.cells rm.slots n ∧ y.name = "<init>" ∧ (Cond.instanceMethod y).before args s = true) (hK : KK G s) (hN : NN s) (hSS : SS G.2.2.2.2.2 A s s.heap) (hP : va_P G.1 vwCl ws H) (hD : va_D A ws) (hS : va_S A s.heap H locs) (hA : ∀ q : Nat, s.heap.size ≤ q → A q)
    (isC isR : List Nat) (hC : isC.map (fun i => ws[i]?) = wc.map some) (hR : isR.map (fun i => ws[i]?) = wr.map some) (hnC : va_nd isC = true) (hnR : va_nd isR = true) (hdis : ∀ i ∈ isR, i ∉ isC)
    (hn : As.length = n) (hsize : ls.size = nL) (hst : st = As.reverse ++ .ref b :: rest) (hW : (rest.map fun v => v.category).sum ≤ 8) (hdg : decode cc pc = .ok (.invokespecial index, 3)) (hf : c1 ≤ R.cells ∧ s1 ≤ R.slots) (hc1 : cells + rm.cells = c1) (hs1 : slots + rm.slots = s1)
    (kk : ∀ (u : va_W) (H1 : Heap) (locs1 : List Loc), post u → va_P G.1 vwCl (wr ++ u) H1 → va_D A (wr ++ u) → va_S A s.heap H1 locs1 → W p l e R s m args below meth c H1 locs1 c1 s1 Q (F0 m (pc + 3) ls rest)) : W p l e R s m args below meth c H locs cells slots Q (F0 m pc ls st) := by
  subst hc1 hs1 hst
  have hPc := cutP hP isC hC
  have hDc := hD.sub isC hnC hC
  have hFc := va_free hD hS hA isC hC
  refine va_callv (va_runI (rest := rest) fix (C0 H.size) cw ⟨PreC.blind, fun U hU hW => ⟨rfl, by rw [hU], by rw [hU]; exact hPc, va_K.moved hW.alike hK, hN.warm hW, by rw [hU]; exact ((hSS.kept hS.2.1).narrow hFc).warm hW, hDc.weaken (fun _ _ _ _ => trivial)⟩⟩ rfl hn hsize rfl (lv_room hW) hdg hf) hS (fun q _ h => hFc q h) hFc (fun u t H1 locs1 ht hvm hw hB hz1 hk1 hS9 => ?_)
  obtain ⟨hP1, hD1⟩ := hB
  rw [ht] at hP1
  obtain ⟨hP9, hD9⟩ := va_join hP hD isC isR hC hR hnR hdis hk1 hFc hP1 hD1
  exact kk u H1 locs1 hw hP9 hD9 hS9
theorem wn_iadd (hexec : p.tables.exec = Jvm.exec) (hb : c.code = cc) {x y : Int32} (a b : Nat) (hxa : x = nI a) (hyb : y = nI b) (hdg : decode cc pc = .ok (.iadd, 1)) (k : W p l e R s m args below meth c H locs cells slots Q (F0 m (pc + 1) ls (.int (nI (a + b)) :: rest))) : W p l e R s m args below meth c H locs cells slots Q (F0 m pc ls (.int y :: .int x :: rest)) := by
  subst hxa hyb
  refine lv_iadd hexec hb hdg ?_
  rw [nI_add]
  exact k
theorem nI_mulW (a b : Nat) : nI a * nI b = nI (a * b) := by
  unfold nI
  simp [Int32.ofNat_mul]
theorem wn_imul (hexec : p.tables.exec = Jvm.exec) (hb : c.code = cc) {x y : Int32} (a b : Nat) (hxa : x = nI a) (hyb : y = nI b) (hdg : decode cc pc = .ok (.imul, 1)) (k : W p l e R s m args below meth c H locs cells slots Q (F0 m (pc + 1) ls (.int (nI (a * b)) :: rest))) : W p l e R s m args below meth c H locs cells slots Q (F0 m pc ls (.int y :: .int x :: rest)) := by
  subst hxa hyb
  refine lv_imul hexec hb hdg ?_
  rw [nI_mulW]
  exact k
def bitI (i : Nat) : Int32 := (1 : Int32) <<< (nI i &&& 31)
def notI (x : Int32) : Int32 := x ^^^ (-1)
theorem wn_inot (hexec : p.tables.exec = Jvm.exec) (hb : c.code = cc) {x y : Int32} (hy : y = -1) (hdg : decode cc pc = .ok (.ixor, 1)) (k : W p l e R s m args below meth c H locs cells slots Q (F0 m (pc + 1) ls (.int (notI x) :: rest))) : W p l e R s m args below meth c H locs cells slots Q (F0 m pc ls (.int y :: .int x :: rest)) := by
  subst hy
  exact lv_ixor hexec hb hdg k
theorem wn_bit (hexec : p.tables.exec = Jvm.exec) (hb : c.code = cc) {x y : Int32} (j : Nat) (hx : x = 1) (hy : y = nI j) (hdg : decode cc pc = .ok (.ishl, 1)) (k : W p l e R s m args below meth c H locs cells slots Q (F0 m (pc + 1) ls (.int (bitI j) :: rest))) : W p l e R s m args below meth c H locs cells slots Q (F0 m pc ls (.int y :: .int x :: rest)) := by
  subst hx hy
  exact lv_ishl hexec hb hdg k
theorem nI_subW {a b : Nat} (h : b ≤ a) : nI a - nI b = nI (a - b) := by
  have h1 : nI a = nI (a - b) + nI b := by rw [nI_add]; congr 1; omega
  rw [h1]
  exact Int32.add_sub_cancel _ _
theorem wn_isub (hexec : p.tables.exec = Jvm.exec) (hb : c.code = cc) {x y : Int32} (a b : Nat) (hxa : x = nI a) (hyb : y = nI b) (h : b ≤ a) (hdg : decode cc pc = .ok (.isub, 1)) (k : W p l e R s m args below meth c H locs cells slots Q (F0 m (pc + 1) ls (.int (nI (a - b)) :: rest))) : W p l e R s m args below meth c H locs cells slots Q (F0 m pc ls (.int y :: .int x :: rest)) := by
  subst hxa hyb
  refine lv_isub hexec hb hdg ?_
  rw [nI_subW h]
  exact k
theorem nI_inc (i k : Nat) : nI i + Int32.ofInt (k : Int) = nI (i + k) := by
  rw [← nI_add]; rfl
theorem wa_iald (hexec : p.tables.exec = Jvm.exec) (hb : c.code = cc) (hK : KK G s) (hP : va_P G.1 vwCl ws H) (q0 : Nat) {a n : Nat} {f : Nat → Int32} (ha : ws[q0]? = some (a, AI G n f)) {i : Int32} (j : Nat) (hi : i = nI j) (hj : j < n) (hn : n < 2 ^ 31) (hdg : decode cc pc = .ok (.iaload, 1)) (k : W p l e R s m args below meth c H locs cells slots Q (F0 m (pc + 1) ls (.int (f j) :: rest))) : W p l e R s m args below meth c H locs cells slots Q (F0 m pc ls (.int i :: .ref a :: rest)) := by
  subst hi
  refine va_iald hexec hb hK hP q0 0 ha rfl (vp_in_nI hj hn) hdg ?_
  rw [nI_clamp (by omega)]
  exact k
theorem wa_lald (hexec : p.tables.exec = Jvm.exec) (hb : c.code = cc) (hK : KK G s) (hP : va_P G.1 vwCl ws H) (q0 : Nat) {a n : Nat} {f : Nat → Int64} (ha : ws[q0]? = some (a, AJ G n f)) {i : Int32} (j : Nat) (hi : i = nI j) (hj : j < n) (hn : n < 2 ^ 31) (hdg : decode cc pc = .ok (.laload, 1)) (k : W p l e R s m args below meth c H locs cells slots Q (F0 m (pc + 1) ls (.long (f j) :: rest))) : W p l e R s m args below meth c H locs cells slots Q (F0 m pc ls (.int i :: .ref a :: rest)) := by
  subst hi
  refine va_lald hexec hb hK hP q0 1 ha rfl (vp_in_nI hj hn) hdg ?_
  rw [nI_clamp (by omega)]
  exact k
theorem wa_zald (hexec : p.tables.exec = Jvm.exec) (hb : c.code = cc) (hK : KK G s) (hP : va_P G.1 vwCl ws H) (q0 : Nat) {a n : Nat} {f : Nat → Int32} (ha : ws[q0]? = some (a, AZ G n f)) {i : Int32} (j : Nat) (hi : i = nI j) (hj : j < n) (hn : n < 2 ^ 31) (hdg : decode cc pc = .ok (.baload, 1)) (k : W p l e R s m args below meth c H locs cells slots Q (F0 m (pc + 1) ls (.int (f j) :: rest))) : W p l e R s m args below meth c H locs cells slots Q (F0 m pc ls (.int i :: .ref a :: rest)) := by
  subst hi
  refine va_zald hexec hb hK hP q0 2 ha rfl (vp_in_nI hj hn) hdg ?_
  rw [nI_clamp (by omega)]
  exact k
theorem wa_aldq (hexec : p.tables.exec = Jvm.exec) (hb : c.code = cc) (hK : KK G s) (hP : va_P G.1 vwCl ws H) (q0 : Nat) {a n : Nat} {f : Nat → Option Nat} (ha : ws[q0]? = some (a, AQ G n f)) {i : Int32} (j : Nat) (hi : i = nI j) (hj : j < n) (hn : n < 2 ^ 31) (hdg : decode cc pc = .ok (.aaload, 1)) (k : W p l e R s m args below meth c H locs cells slots Q (F0 m (pc + 1) ls (va_rf (f j) :: rest))) : W p l e R s m args below meth c H locs cells slots Q (F0 m pc ls (.int i :: .ref a :: rest)) := by
  subst hi
  refine va_aldq hexec hb hK hP q0 3 ha rfl (vp_in_nI hj hn) hdg ?_
  rw [nI_clamp (by omega)]
  exact k
theorem wa_iast (hexec : p.tables.exec = Jvm.exec) (hb : c.code = cc) (hK : KK G s) (hP : va_P G.1 vwCl ws H) (hD : va_D A ws) (hS : va_S A s.heap H locs) (q0 : Nat) {a n : Nat} {f : Nat → Int32} (ha : ws[q0]? = some (a, AI G n f)) {i : Int32} {x : Int32} (j : Nat) (hi : i = nI j) (hj : j < n) (hn : n < 2 ^ 31) (hdg : decode cc pc = .ok (.iastore, 1)) (k : ∀ (H1 : Heap) (locs1 : List Loc), va_P G.1 vwCl (ws.set q0 (a, AI G n (va_up f j x))) H1 → va_D A (ws.set q0 (a, AI G n (va_up f j x))) → va_S A s.heap H1 locs1 → W p l e R s m args below meth c H1 locs1 cells slots Q (F0 m (pc + 1) ls rest)) : W p l e R s m args below meth c H locs cells slots Q (F0 m pc ls (.int x :: .int i :: .ref a :: rest)) := by
  subst hi
  have e1 : upd f (nI j).toNatClampNeg x = va_up f j x := by rw [nI_clamp (by omega)]; rfl
  refine va_iast hexec hb hK hP hD hS q0 0 ha rfl (vp_in_nI hj hn) hdg ?_
  rw [e1]
  exact k
theorem wa_last (hexec : p.tables.exec = Jvm.exec) (hb : c.code = cc) (hK : KK G s) (hP : va_P G.1 vwCl ws H) (hD : va_D A ws) (hS : va_S A s.heap H locs) (q0 : Nat) {a n : Nat} {f : Nat → Int64} (ha : ws[q0]? = some (a, AJ G n f)) {i : Int32} {x : Int64} (j : Nat) (hi : i = nI j) (hj : j < n) (hn : n < 2 ^ 31) (hdg : decode cc pc = .ok (.lastore, 1)) (k : ∀ (H1 : Heap) (locs1 : List Loc), va_P G.1 vwCl (ws.set q0 (a, AJ G n (va_up f j x))) H1 → va_D A (ws.set q0 (a, AJ G n (va_up f j x))) → va_S A s.heap H1 locs1 → W p l e R s m args below meth c H1 locs1 cells slots Q (F0 m (pc + 1) ls rest)) : W p l e R s m args below meth c H locs cells slots Q (F0 m pc ls (.long x :: .int i :: .ref a :: rest)) := by
  subst hi
  have e1 : vp_updL f (nI j).toNatClampNeg x = va_up f j x := by rw [nI_clamp (by omega)]; rfl
  refine va_last hexec hb hK hP hD hS q0 1 ha rfl (vp_in_nI hj hn) hdg ?_
  rw [e1]
  exact k
theorem wa_zast (hexec : p.tables.exec = Jvm.exec) (hb : c.code = cc) (hK : KK G s) (hP : va_P G.1 vwCl ws H) (hD : va_D A ws) (hS : va_S A s.heap H locs) (q0 : Nat) {a n : Nat} {f : Nat → Int32} (ha : ws[q0]? = some (a, AZ G n f)) {i : Int32} {x : Int32} (j : Nat) (hi : i = nI j) (hj : j < n) (hn : n < 2 ^ 31) (hdg : decode cc pc = .ok (.bastore, 1)) (k : ∀ (H1 : Heap) (locs1 : List Loc), va_P G.1 vwCl (ws.set q0 (a, AZ G n (va_up f j (vp_nar .boolean x)))) H1 → va_D A (ws.set q0 (a, AZ G n (va_up f j (vp_nar .boolean x)))) → va_S A s.heap H1 locs1 → W p l e R s m args below meth c H1 locs1 cells slots Q (F0 m (pc + 1) ls rest)) : W p l e R s m args below meth c H locs cells slots Q (F0 m pc ls (.int x :: .int i :: .ref a :: rest)) := by
  subst hi
  have e1 : upd f (nI j).toNatClampNeg (vp_nar .boolean x) = va_up f j (vp_nar .boolean x) := by rw [nI_clamp (by omega)]; rfl
  refine va_zast hexec hb hK hP hD hS q0 2 ha rfl (vp_in_nI hj hn) hdg ?_
  rw [e1]
  exact k
theorem wa_astq (hexec : p.tables.exec = Jvm.exec) (hb : c.code = cc) (hK : KK G s) (hP : va_P G.1 vwCl ws H) (hD : va_D A ws) (hS : va_S A s.heap H locs) (q0 qk : Nat) {a n v : Nat} {vs : List Value} {f : Nat → Option Nat} (ha : ws[q0]? = some (a, AQ G n f)) (hv : ws[qk]? = some (v, .inr (4, vs))) {i : Int32} (j : Nat) (hi : i = nI j) (hj : j < n) (hn : n < 2 ^ 31) (hdg : decode cc pc = .ok (.aastore, 1)) (k : ∀ (H1 : Heap) (locs1 : List Loc), va_P G.1 vwCl (ws.set q0 (a, AQ G n (va_up f j (some v)))) H1 → va_D A (ws.set q0 (a, AQ G n (va_up f j (some v)))) → va_S A s.heap H1 locs1 → W p l e R s m args below meth c H1 locs1 cells slots Q (F0 m (pc + 1) ls rest)) : W p l e R s m args below meth c H locs cells slots Q (F0 m pc ls (.ref v :: .int i :: .ref a :: rest)) := by
  subst hi
  refine va_astq hexec hb hK hP hD hS q0 3 qk 4 (r := (RX4, TX4, 5)) ha rfl hv rfl (vp_in_nI hj hn) hdg ?_
  rw [nI_clamp (by omega)]
  exact k
theorem arrV_ext (cA : ClassId) {n : Nat} {f g : Nat → Value} (h : ∀ j, j < n → f j = g j) : arrV cA n f = arrV cA n g := by
  unfold arrV
  congr 1
  apply Array.ext
  · simp
  · intro i h1 h2
    simp at h1
    simp [h i h1]
theorem va_P.new {ws ws' : va_W} (hP : va_P G.1 vwCl ws H) (h : ∀ (k : Nat) (q : Nat × va_E), ws'[k]? = some q → ∃ e0 : va_E, ws[k]? = some (q.1, e0) ∧ (va_at G.1 vwCl (q.1, e0) H → va_at G.1 vwCl q H)) : va_P G.1 vwCl ws' H := by
  intro k q hk
  obtain ⟨e0, h1, h2⟩ := h k q hk
  exact h2 (hP k _ h1)
theorem set_new {q1 : Nat} {a : Nat} {e1 e2 : va_E} (hq : ws[q1]? ≠ none) (he : va_at G.1 vwCl (a, e1) H → va_at G.1 vwCl (a, e2) H) (hP : va_P G.1 vwCl (ws.set q1 (a, e1)) H) : va_P G.1 vwCl (ws.set q1 (a, e2)) H := by
  refine hP.new fun k q hk => ?_
  by_cases hkq : k = q1
  · subst hkq
    have hl : k < ws.length := by
      rcases Nat.lt_or_ge k ws.length with h | h
      · exact h
      · exact absurd (List.getElem?_eq_none h) hq
    rw [List.getElem?_set_self hl] at hk
    cases hk
    exact ⟨e1, List.getElem?_set_self hl, he⟩
  · rw [List.getElem?_set_ne (Ne.symm hkq)] at hk
    exact ⟨q.2, by rw [List.getElem?_set_ne (Ne.symm hkq)]; exact hk, fun h => h⟩
theorem wa_copyi (hexec : p.tables.exec = Jvm.exec) (hb : c.code = cc) (hml : c.maxLocals = ls.size) {own : String} {index : Nat} (hown : s.vm.findClass own = some m.cls) (hlink : (Cond.methodLink own index arraycopyName).before args s = true) (hnat : (Cond.native arraycopyName).before args s = true) (hstat : (Cond.static arraycopyName).before args s = true) (hini : (Cond.initialized "java/lang/System").before args s = true) (hK : KK G s) (hP : va_P G.1 vwCl ws H) (hD : va_D A ws) (hS : va_S A s.heap H locs) (q0 q1 : Nat) {a a0 n : Nat} {f g : Nat → Int32} (ha0 : ws[q0]? = some (a0, AI G n f)) (ha1 : ws[q1]? = some (a, AI G n g)) {x z0 z1 : Int32} (hx : x = nI n) (hz0 : z0 = 0) (hz1 : z1 = 0) (hn : n < 2 ^ 31) (hframes : 1 ≤ R.frames) (hlocals : (rest.map fun v => v.category).sum + (nativeFrameWords "java/lang/System" "arraycopy" 5 + 11) ≤ R.locals) (hdg : decode cc pc = .ok (.invokestatic index, 3)) (k : ∀ (H1 : Heap) (locs1 : List Loc), va_P G.1 vwCl (ws.set q1 (a, AI G n f)) H1 → va_D A (ws.set q1 (a, AI G n f)) → va_S A s.heap H1 locs1 → W p l e R s m args below meth c H1 locs1 cells slots Q (F0 m (pc + 3) ls rest)) : W p l e R s m args below meth c H locs cells slots Q (F0 m pc ls (.int x :: .int z1 :: .ref a :: .int z0 :: .ref a0 :: rest)) := by
  subst hx hz0 hz1
  have e1 : (nI n).toNatClampNeg = n := nI_clamp hn
  have e0 : (0 : Int32).toNatClampNeg = 0 := rfl
  refine va_copyi hexec hb hml hown hlink hnat hstat hini hK hP hD hS q0 q1 0 0 ha0 ha1 rfl rfl rfl (by decide) (by decide) (nI_pos hn) (by rw [e0, e1]; omega) (by rw [e0, e1]; omega) (fun _ _ => rfl) hframes hlocals hdg (fun H1 l1 h1 h2 h3 => k H1 l1 ?_ (hD.set ha1) h3)
  refine set_new (by rw [ha1]; simp) (fun h => ?_) h1
  have h : H1[a]? = some (vp_cell _ _) := h
  show H1[a]? = some (vp_cell _ _)
  rw [h]
  refine congrArg some ?_
  show arrV _ n (fun j => Value.int (va_cpy f g _ _ _ j)) = arrV _ n (fun j => Value.int (f j))
  refine arrV_ext _ fun j hj => ?_
  rw [e0, e1]
  simp [va_cpy, hj]
theorem wa_copyl (hexec : p.tables.exec = Jvm.exec) (hb : c.code = cc) (hml : c.maxLocals = ls.size) {own : String} {index : Nat} (hown : s.vm.findClass own = some m.cls) (hlink : (Cond.methodLink own index arraycopyName).before args s = true) (hnat : (Cond.native arraycopyName).before args s = true) (hstat : (Cond.static arraycopyName).before args s = true) (hini : (Cond.initialized "java/lang/System").before args s = true) (hK : KK G s) (hP : va_P G.1 vwCl ws H) (hD : va_D A ws) (hS : va_S A s.heap H locs) (q0 q1 : Nat) {a a0 n : Nat} {f g : Nat → Int64} (ha0 : ws[q0]? = some (a0, AJ G n f)) (ha1 : ws[q1]? = some (a, AJ G n g)) {x z0 z1 : Int32} (hx : x = nI n) (hz0 : z0 = 0) (hz1 : z1 = 0) (hn : n < 2 ^ 31) (hframes : 1 ≤ R.frames) (hlocals : (rest.map fun v => v.category).sum + (nativeFrameWords "java/lang/System" "arraycopy" 5 + 11) ≤ R.locals) (hdg : decode cc pc = .ok (.invokestatic index, 3)) (k : ∀ (H1 : Heap) (locs1 : List Loc), va_P G.1 vwCl (ws.set q1 (a, AJ G n f)) H1 → va_D A (ws.set q1 (a, AJ G n f)) → va_S A s.heap H1 locs1 → W p l e R s m args below meth c H1 locs1 cells slots Q (F0 m (pc + 3) ls rest)) : W p l e R s m args below meth c H locs cells slots Q (F0 m pc ls (.int x :: .int z1 :: .ref a :: .int z0 :: .ref a0 :: rest)) := by
  subst hx hz0 hz1
  have e1 : (nI n).toNatClampNeg = n := nI_clamp hn
  have e0 : (0 : Int32).toNatClampNeg = 0 := rfl
  refine va_copyl hexec hb hml hown hlink hnat hstat hini hK hP hD hS q0 q1 1 1 ha0 ha1 rfl rfl rfl (by decide) (by decide) (nI_pos hn) (by rw [e0, e1]; omega) (by rw [e0, e1]; omega) (fun _ _ => rfl) hframes hlocals hdg (fun H1 l1 h1 h2 h3 => k H1 l1 ?_ (hD.set ha1) h3)
  refine set_new (by rw [ha1]; simp) (fun h => ?_) h1
  have h : H1[a]? = some (vp_cell _ _) := h
  show H1[a]? = some (vp_cell _ _)
  rw [h]
  refine congrArg some ?_
  show arrV _ n (fun j => Value.long (va_cpy f g _ _ _ j)) = arrV _ n (fun j => Value.long (f j))
  refine arrV_ext _ fun j hj => ?_
  rw [e0, e1]
  simp [va_cpy, hj]
/-! booleans that come back as ints -/
def bI (b : Bool) : Int32 := if b then 1 else 0
theorem bI_t : bI true = 1 := rfl
theorem bI_f : bI false = 0 := rfl
theorem bI_nar (b : Bool) : narrow .boolean (.int (bI b)) = .int (bI b) := by cases b <;> rfl
theorem bI_0 {b : Bool} : bI b = 0 ↔ b = false := by cases b <;> simp [bI]
theorem bI_n0 {b : Bool} : ¬ bI b = 0 ↔ b = true := by cases b <;> simp [bI]
theorem wb_eq (hexec : p.tables.exec = Jvm.exec) (hb : c.code = cc) {b : Bool} {off : Int} {tgt : Nat} (hdg : decode cc pc = .ok (.ifCond .eq off, 3)) (ht : (pc : Int) + off = (tgt : Int)) (kt : b = false → W p l e R s m args below meth c H locs cells slots Q (F0 m tgt ls rest)) (kf : b = true → W p l e R s m args below meth c H locs cells slots Q (F0 m (pc + 3) ls rest)) : W p l e R s m args below meth c H locs cells slots Q (F0 m pc ls (.int (bI b) :: rest)) := by
  exact lv_if_eq hexec hb hdg ht (fun h => kt (bI_0.mp h)) (fun h => kf (bI_n0.mp h))
theorem wb_ne (hexec : p.tables.exec = Jvm.exec) (hb : c.code = cc) {b : Bool} {off : Int} {tgt : Nat} (hdg : decode cc pc = .ok (.ifCond .ne off, 3)) (ht : (pc : Int) + off = (tgt : Int)) (kt : b = true → W p l e R s m args below meth c H locs cells slots Q (F0 m tgt ls rest)) (kf : b = false → W p l e R s m args below meth c H locs cells slots Q (F0 m (pc + 3) ls rest)) : W p l e R s m args below meth c H locs cells slots Q (F0 m pc ls (.int (bI b) :: rest)) := by
  exact lv_if_ne hexec hb hdg ht (fun h => kt (bI_n0.mp h)) (fun h => kf (bI_0.mp h))
theorem mem_places {big ws : List Cond} (ps : List Nat) (hp : ws = ps.filterMap (fun i => big[i]?)) : ∀ w ∈ ws, w ∈ big := by
  intro w hw
  rw [hp] at hw
  obtain ⟨i, -, hi⟩ := List.mem_filterMap.mp hw
  exact List.mem_of_getElem? hi
theorem bI_narW (b : Bool) : vp_nar .boolean (bI b) = bI b := by cases b <;> rfl
theorem lg0 {x y : Int64} : lg_cmp x y = 0 ↔ x = y := by
  unfold lg_cmp
  simp only [gt_iff_lt, Int64.lt_iff_toInt_lt, ← Int64.toInt_inj]
  repeat' split
  all_goals (constructor <;> intro hh <;> first | omega | decide | exact absurd hh (by decide))
theorem wl_eq (hexec : p.tables.exec = Jvm.exec) (hb : c.code = cc) {x y : Int64} {off : Int} {tgt : Nat} (hdg : decode cc pc = .ok (.ifCond .eq off, 3)) (ht : (pc : Int) + off = (tgt : Int)) (kt : x = y → W p l e R s m args below meth c H locs cells slots Q (F0 m tgt ls rest)) (kf : ¬ x = y → W p l e R s m args below meth c H locs cells slots Q (F0 m (pc + 3) ls rest)) : W p l e R s m args below meth c H locs cells slots Q (F0 m pc ls (.int (lg_cmp x y) :: rest)) := by
  exact lv_if_eq hexec hb hdg ht (fun h => kt (lg0.mp h)) (fun h => kf (mt lg0.mpr h))
theorem wl_ne (hexec : p.tables.exec = Jvm.exec) (hb : c.code = cc) {x y : Int64} {off : Int} {tgt : Nat} (hdg : decode cc pc = .ok (.ifCond .ne off, 3)) (ht : (pc : Int) + off = (tgt : Int)) (kt : ¬ x = y → W p l e R s m args below meth c H locs cells slots Q (F0 m tgt ls rest)) (kf : x = y → W p l e R s m args below meth c H locs cells slots Q (F0 m (pc + 3) ls rest)) : W p l e R s m args below meth c H locs cells slots Q (F0 m pc ls (.int (lg_cmp x y) :: rest)) := by
  exact lv_if_ne hexec hb hdg ht (fun h => kt (mt lg0.mpr h)) (fun h => kf (lg0.mp h))
theorem wa_newI (hexec : p.tables.exec = Jvm.exec) (hb : c.code = cc) (harr : (Cond.arrayClass .int).before args s = true) (hK : KK G s) (hP : va_P G.1 vwCl ws H) (hD : va_D A ws) (hS : va_S A s.heap H locs) (hA : ∀ q : Nat, s.heap.size ≤ q → A q) {n : Int32} (N0 : Nat) (hn : ¬ n < 0) (hN : n.toNatClampNeg = N0) (hbytes : N0 * componentBytes .int ≤ 536870912) (hcells : cells + 1 ≤ R.cells) (hslots : slots + N0 ≤ R.slots) (hdg : decode cc pc = .ok (.newarray .int, 2)) (k : ∀ (q : Nat) (H1 : Heap), va_P G.1 vwCl (ws ++ [(q, AI G N0 (fun _ => 0))]) H1 → va_D A (ws ++ [(q, AI G N0 (fun _ => 0))]) → va_S A s.heap H1 locs → W p l e R s m args below meth c H1 locs (cells + 1) (slots + N0) Q (F0 m (pc + 2) ls (.ref q :: rest))) : W p l e R s m args below meth c H locs cells slots Q (F0 m pc ls (.int n :: rest)) := by
  refine va_newa (atype := .int) (ty := .int) (a0 := (N0, .inl (fun _ => 0))) hexec hb harr rfl hK hP hD hS hA (fun _ => rfl) hn hN hbytes hcells hslots hdg (fun q cA H1 hK1 hP1 hD1 hS1 => ?_)
  have hc : cA = G.2.1 := by
    have h1 := (hK1.2 4 (cA, .int) rfl).2
    have h2 := (hK.2 0 (G.2.1, .int) rfl).2
    exact Option.some.inj (h1.symm.trans h2)
  subst hc
  exact k q H1 hP1 hD1 hS1
theorem wa_newJ (hexec : p.tables.exec = Jvm.exec) (hb : c.code = cc) (harr : (Cond.arrayClass .long).before args s = true) (hK : KK G s) (hP : va_P G.1 vwCl ws H) (hD : va_D A ws) (hS : va_S A s.heap H locs) (hA : ∀ q : Nat, s.heap.size ≤ q → A q) {n : Int32} (N0 : Nat) (hn : ¬ n < 0) (hN : n.toNatClampNeg = N0) (hbytes : N0 * componentBytes .long ≤ 536870912) (hcells : cells + 1 ≤ R.cells) (hslots : slots + N0 ≤ R.slots) (hdg : decode cc pc = .ok (.newarray .long, 2)) (k : ∀ (q : Nat) (H1 : Heap), va_P G.1 vwCl (ws ++ [(q, AJ G N0 (fun _ => 0))]) H1 → va_D A (ws ++ [(q, AJ G N0 (fun _ => 0))]) → va_S A s.heap H1 locs → W p l e R s m args below meth c H1 locs (cells + 1) (slots + N0) Q (F0 m (pc + 2) ls (.ref q :: rest))) : W p l e R s m args below meth c H locs cells slots Q (F0 m pc ls (.int n :: rest)) := by
  refine va_newa (atype := .long) (ty := .long) (a0 := (N0, .inr (.inl (fun _ => 0)))) hexec hb harr rfl hK hP hD hS hA (fun _ => rfl) hn hN hbytes hcells hslots hdg (fun q cA H1 hK1 hP1 hD1 hS1 => ?_)
  have hc : cA = G.2.2.1 := by
    have h1 := (hK1.2 4 (cA, .long) rfl).2
    have h2 := (hK.2 1 (G.2.2.1, .long) rfl).2
    exact Option.some.inj (h1.symm.trans h2)
  subst hc
  exact k q H1 hP1 hD1 hS1
theorem wa_newZ (hexec : p.tables.exec = Jvm.exec) (hb : c.code = cc) (harr : (Cond.arrayClass .boolean).before args s = true) (hK : KK G s) (hP : va_P G.1 vwCl ws H) (hD : va_D A ws) (hS : va_S A s.heap H locs) (hA : ∀ q : Nat, s.heap.size ≤ q → A q) {n : Int32} (N0 : Nat) (hn : ¬ n < 0) (hN : n.toNatClampNeg = N0) (hbytes : N0 * componentBytes .boolean ≤ 536870912) (hcells : cells + 1 ≤ R.cells) (hslots : slots + N0 ≤ R.slots) (hdg : decode cc pc = .ok (.newarray .boolean, 2)) (k : ∀ (q : Nat) (H1 : Heap), va_P G.1 vwCl (ws ++ [(q, AZ G N0 (fun _ => 0))]) H1 → va_D A (ws ++ [(q, AZ G N0 (fun _ => 0))]) → va_S A s.heap H1 locs → W p l e R s m args below meth c H1 locs (cells + 1) (slots + N0) Q (F0 m (pc + 2) ls (.ref q :: rest))) : W p l e R s m args below meth c H locs cells slots Q (F0 m pc ls (.int n :: rest)) := by
  refine va_newa (atype := .boolean) (ty := .boolean) (a0 := (N0, .inl (fun _ => 0))) hexec hb harr rfl hK hP hD hS hA (fun _ => rfl) hn hN hbytes hcells hslots hdg (fun q cA H1 hK1 hP1 hD1 hS1 => ?_)
  have hc : cA = G.2.2.2.1 := by
    have h1 := (hK1.2 4 (cA, .boolean) rfl).2
    have h2 := (hK.2 2 (G.2.2.2.1, .boolean) rfl).2
    exact Option.some.inj (h1.symm.trans h2)
  subst hc
  exact k q H1 hP1 hD1 hS1
theorem wa_newQ (hexec : p.tables.exec = Jvm.exec) (hb : c.code = cc) {own : String} {index : Nat} (hown : s.vm.findClass own = some m.cls) (hclink : (Cond.classLink own index RX4).before args s = true) (hN : NN s) (hK : KK G s) (hP : va_P G.1 vwCl ws H) (hD : va_D A ws) (hS : va_S A s.heap H locs) (hA : ∀ q : Nat, s.heap.size ≤ q → A q) {n : Int32} (N0 : Nat) (hn : ¬ n < 0) (hN0 : n.toNatClampNeg = N0) (hbytes : N0 * 4 ≤ 536870912) (hcells : cells + 1 ≤ R.cells) (hslots : slots + N0 ≤ R.slots) (hdg : decode cc pc = .ok (.anewarray index, 3)) (k : ∀ (q : Nat) (H1 : Heap), va_P G.1 vwCl (ws ++ [(q, AQ G N0 (fun _ => none))]) H1 → va_D A (ws ++ [(q, AQ G N0 (fun _ => none))]) → va_S A s.heap H1 locs → W p l e R s m args below meth c H1 locs (cells + 1) (slots + N0) Q (F0 m (pc + 3) ls (.ref q :: rest))) : W p l e R s m args below meth c H locs cells slots Q (F0 m pc ls (.int n :: rest)) := by
  refine va_newq hexec hb hown hclink hN.2.2.2.2.2.2.2.2 hK hP hD hS hA hn hN0 hbytes hcells hslots hdg (fun q cA H1 hK1 hP1 hD1 hS1 => ?_)
  have hc : cA = G.2.2.2.2.1 := by
    obtain ⟨_, _, _, _, _, h1⟩ := (hK1.2 4 (cA, .object RX4) rfl).2
    obtain ⟨_, _, _, _, _, h2⟩ := (hK.2 3 (G.2.2.2.2.1, .object RX4) rfl).2
    exact Option.some.inj (h1.symm.trans h2)
  subst hc
  exact k q H1 hP1 hD1 hS1
end CALLS
