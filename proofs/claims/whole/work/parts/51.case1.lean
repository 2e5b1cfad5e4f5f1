set_option maxHeartbeats 2000000 in
set_option maxRecDepth 20000 in
theorem bo_append (l : Launch) {G : GT} {x0 m0 : Nat} {u : va_W} (h : INV G x0 m0 u) (x : Int32) : STEP l G x0 m0 yX6_append wsX6_append yX7_append wsX7_append [.int x] u := by
  obtain ⟨tx, tb, pr, ps, pq, pv, hh, sa, sl, tf, tn, z, nw, dp, hv, lw, h0, sy, sm, sw, mu, ma, mz, mb, ex, md, wt, n, uf, un, zf, zn, xf, st, sv, lv, a1, a2, a3, a5, a6, a7, a14, a16, th, ud, nx, ts, tk, vl, er, rq, sf, df, hf, lf, fg, vf, eg, gd, hu, e1, e2, e3, hR, hH, hL, ht, hf0⟩ := h
  subst e1 e2
  have e3 := e3.symm
  subst e3
  have hc := hR.1
  have hn : n ≤ 10 := hc.1
  have hs0 : sf 0 = nI n := hc.2.1
  by_cases hx9 : inR x 0 255 = true
  · by_cases h12 : tn = 120
    · refine STEP.of (rM := (-3)) (cM := (mW G m0 a1 a2 a3 a5 a6 a7 a14 a16 th dp tn nx ts tk vl er rq sf df hf lf fg tf vf eg)) (cM' := (mW G m0 a1 a2 a3 a5 a6 a7 a14 a16 0 dp tn nx ts tk vl er rq sf df hf lf fg tf vf eg)) (tl := evL ((xW G x0 tx tb pr ps pq pv hh sa sl tf tn z nw dp (hvO sv) (hvO lv) h0 sy sm sw mu ma mz mb ex md wt n uf un zf zn xf st).map (fun c => [c]) ++ [(blks G sv 5), (blks G lv 2), (mW G m0 a1 a2 a3 a5 a6 a7 a14 a16 th dp tn nx ts tk vl er rq sf df hf lf fg tf vf eg), gd]) [3, 4, 5, 6, 7, 8, 9, 10, 11, 12, 13, 14, 15, 16, 17, 18, 19, 20, 22]) (c_X6_append_full l G x0 tx pr hh sl h0 tb tf tn x (hx9) (h12)) ⟨Nat.le_of_ble_eq_true rfl, Nat.le_of_ble_eq_true rfl, Nat.le_of_ble_eq_true rfl, Nat.le_of_ble_eq_true rfl⟩ (c_X7_append_full l G m0 a1 a2 a3 a5 a6 a7 a14 a16 th dp tn nx ts tk vl er rq sf df hf lf fg tf vf eg x (hx9) (h12)) ⟨Nat.le_of_ble_eq_true rfl, Nat.le_of_ble_eq_true rfl, Nat.le_of_ble_eq_true rfl, Nat.le_of_ble_eq_true rfl⟩ List.mem_cons_self (hu.trans (pmL ((xW G x0 tx tb pr ps pq pv hh sa sl tf tn z nw dp (hvO sv) (hvO lv) h0 sy sm sw mu ma mz mb ex md wt n uf un zf zn xf st).map (fun c => [c]) ++ [(blks G sv 5), (blks G lv 2), (mW G m0 a1 a2 a3 a5 a6 a7 a14 a16 th dp tn nx ts tk vl er rq sf df hf lf fg tf vf eg), gd]) (I := [0, 1, 2, 3, 4, 5, 6, 7, 8, 9, 10, 11, 12, 13, 14, 15, 16, 17, 18, 19, 20, 21, 22]) (J := [0, 1, 2, 21, 3, 4, 5, 6, 7, 8, 9, 10, 11, 12, 13, 14, 15, 16, 17, 18, 19, 20, 22]) (by decide +kernel))) (fun r u0 hp => ?_)
      obtain ⟨rfl, rfl⟩ := hp
      have hv9 := pmL ((xW G x0 tx tb pr ps pq pv hh sa sl tf tn z nw dp (hvO sv) (hvO lv) h0 sy sm sw mu ma mz mb ex md wt n uf un zf zn xf st).map (fun c => [c]) ++ [(blks G sv 5), (blks G lv 2), (mW G m0 a1 a2 a3 a5 a6 a7 a14 a16 0 dp tn nx ts tk vl er rq sf df hf lf fg tf vf eg), gd]) (I := [0, 1, 2, 21, 3, 4, 5, 6, 7, 8, 9, 10, 11, 12, 13, 14, 15, 16, 17, 18, 19, 20, 22]) (J := [0, 1, 2, 3, 4, 5, 6, 7, 8, 9, 10, 11, 12, 13, 14, 15, 16, 17, 18, 19, 20, 21, 22]) (by decide +kernel)
      exact ⟨rfl, INV.mk tx tb pr ps pq pv hh sa sl tf tn z nw dp (hvO sv) (hvO lv) h0 sy sm sw mu ma mz mb ex md wt n uf un zf zn xf st sv lv a1 a2 a3 a5 a6 a7 a14 a16 0 dp nx ts tk vl er rq sf df hf lf fg vf eg gd (hv9) (rfl) (rfl) (rfl) (hR) (hH) (hL) (ht) (hf0)⟩
    · have h12 : tn < 120 := by omega
      refine STEP.of (rM := nI (tn + 1)) (cM := (mW G m0 a1 a2 a3 a5 a6 a7 a14 a16 th dp tn nx ts tk vl er rq sf df hf lf fg tf vf eg)) (cM' := (mW G m0 a1 a2 a3 a5 a6 a7 a14 a16 0 dp (tn + 1) nx ts tk vl er rq sf df hf lf fg (va_up tf tn x) vf eg)) (tl := evL ((xW G x0 tx tb pr ps pq pv hh sa sl tf tn z nw dp (hvO sv) (hvO lv) h0 sy sm sw mu ma mz mb ex md wt n uf un zf zn xf st).map (fun c => [c]) ++ [(blks G sv 5), (blks G lv 2), (mW G m0 a1 a2 a3 a5 a6 a7 a14 a16 th dp tn nx ts tk vl er rq sf df hf lf fg tf vf eg), gd]) [3, 4, 5, 6, 7, 8, 9, 10, 11, 12, 13, 14, 15, 16, 17, 18, 19, 20, 22]) (c_X6_append l G x0 tx pr hh sl h0 tb tf tn x (hx9) (h12)) ⟨Nat.le_of_ble_eq_true rfl, Nat.le_of_ble_eq_true rfl, Nat.le_of_ble_eq_true rfl, Nat.le_of_ble_eq_true rfl⟩ (c_X7_append l G m0 a1 a2 a3 a5 a6 a7 a14 a16 th dp tn nx ts tk vl er rq sf df hf lf fg tf vf eg x (hx9) (h12)) ⟨Nat.le_of_ble_eq_true rfl, Nat.le_of_ble_eq_true rfl, Nat.le_of_ble_eq_true rfl, Nat.le_of_ble_eq_true rfl⟩ List.mem_cons_self (hu.trans (pmL ((xW G x0 tx tb pr ps pq pv hh sa sl tf tn z nw dp (hvO sv) (hvO lv) h0 sy sm sw mu ma mz mb ex md wt n uf un zf zn xf st).map (fun c => [c]) ++ [(blks G sv 5), (blks G lv 2), (mW G m0 a1 a2 a3 a5 a6 a7 a14 a16 th dp tn nx ts tk vl er rq sf df hf lf fg tf vf eg), gd]) (I := [0, 1, 2, 3, 4, 5, 6, 7, 8, 9, 10, 11, 12, 13, 14, 15, 16, 17, 18, 19, 20, 21, 22]) (J := [0, 1, 2, 21, 3, 4, 5, 6, 7, 8, 9, 10, 11, 12, 13, 14, 15, 16, 17, 18, 19, 20, 22]) (by decide +kernel))) (fun r u0 hp => ?_)
      obtain ⟨rfl, rfl⟩ := hp
      have hv9 := pmL ((xW G x0 tx tb pr ps pq pv hh sa sl (va_up tf tn x) (tn + 1) z nw dp (hvO sv) (hvO lv) h0 sy sm sw mu ma mz mb ex md wt n uf un zf zn xf st).map (fun c => [c]) ++ [(blks G sv 5), (blks G lv 2), (mW G m0 a1 a2 a3 a5 a6 a7 a14 a16 0 dp (tn + 1) nx ts tk vl er rq sf df hf lf fg (va_up tf tn x) vf eg), gd]) (I := [0, 1, 2, 21, 3, 4, 5, 6, 7, 8, 9, 10, 11, 12, 13, 14, 15, 16, 17, 18, 19, 20, 22]) (J := [0, 1, 2, 3, 4, 5, 6, 7, 8, 9, 10, 11, 12, 13, 14, 15, 16, 17, 18, 19, 20, 21, 22]) (by decide +kernel)
      exact ⟨rfl, INV.mk tx tb pr ps pq pv hh sa sl (va_up tf tn x) (tn + 1) z nw dp (hvO sv) (hvO lv) h0 sy sm sw mu ma mz mb ex md wt n uf un zf zn xf st sv lv a1 a2 a3 a5 a6 a7 a14 a16 0 dp nx ts tk vl er rq sf df hf lf fg vf eg gd (hv9) (rfl) (rfl) (rfl) (hR) (hH) (hL) (by omega) (nneg_up hf0 hx9)⟩
  · have hx9 : inR x 0 255 = false := by simpa using hx9
    refine STEP.of (rM := (-1)) (cM := (mW G m0 a1 a2 a3 a5 a6 a7 a14 a16 th dp tn nx ts tk vl er rq sf df hf lf fg tf vf eg)) (cM' := (mW G m0 a1 a2 a3 a5 a6 a7 a14 a16 0 dp tn nx ts tk vl er rq sf df hf lf fg tf vf eg)) (tl := evL ((xW G x0 tx tb pr ps pq pv hh sa sl tf tn z nw dp (hvO sv) (hvO lv) h0 sy sm sw mu ma mz mb ex md wt n uf un zf zn xf st).map (fun c => [c]) ++ [(blks G sv 5), (blks G lv 2), (mW G m0 a1 a2 a3 a5 a6 a7 a14 a16 th dp tn nx ts tk vl er rq sf df hf lf fg tf vf eg), gd]) [3, 4, 5, 6, 7, 8, 9, 10, 11, 12, 13, 14, 15, 16, 17, 18, 19, 20, 22]) (c_X6_append_bad l G x0 tx pr hh sl h0 tb tf tn x (hx9)) ⟨Nat.le_of_ble_eq_true rfl, Nat.le_of_ble_eq_true rfl, Nat.le_of_ble_eq_true rfl, Nat.le_of_ble_eq_true rfl⟩ (c_X7_append_bad l G m0 a1 a2 a3 a5 a6 a7 a14 a16 th dp tn nx ts tk vl er rq sf df hf lf fg tf vf eg x (hx9)) ⟨Nat.le_of_ble_eq_true rfl, Nat.le_of_ble_eq_true rfl, Nat.le_of_ble_eq_true rfl, Nat.le_of_ble_eq_true rfl⟩ List.mem_cons_self (hu.trans (pmL ((xW G x0 tx tb pr ps pq pv hh sa sl tf tn z nw dp (hvO sv) (hvO lv) h0 sy sm sw mu ma mz mb ex md wt n uf un zf zn xf st).map (fun c => [c]) ++ [(blks G sv 5), (blks G lv 2), (mW G m0 a1 a2 a3 a5 a6 a7 a14 a16 th dp tn nx ts tk vl er rq sf df hf lf fg tf vf eg), gd]) (I := [0, 1, 2, 3, 4, 5, 6, 7, 8, 9, 10, 11, 12, 13, 14, 15, 16, 17, 18, 19, 20, 21, 22]) (J := [0, 1, 2, 21, 3, 4, 5, 6, 7, 8, 9, 10, 11, 12, 13, 14, 15, 16, 17, 18, 19, 20, 22]) (by decide +kernel))) (fun r u0 hp => ?_)
    obtain ⟨rfl, rfl⟩ := hp
    have hv9 := pmL ((xW G x0 tx tb pr ps pq pv hh sa sl tf tn z nw dp (hvO sv) (hvO lv) h0 sy sm sw mu ma mz mb ex md wt n uf un zf zn xf st).map (fun c => [c]) ++ [(blks G sv 5), (blks G lv 2), (mW G m0 a1 a2 a3 a5 a6 a7 a14 a16 0 dp tn nx ts tk vl er rq sf df hf lf fg tf vf eg), gd]) (I := [0, 1, 2, 21, 3, 4, 5, 6, 7, 8, 9, 10, 11, 12, 13, 14, 15, 16, 17, 18, 19, 20, 22]) (J := [0, 1, 2, 3, 4, 5, 6, 7, 8, 9, 10, 11, 12, 13, 14, 15, 16, 17, 18, 19, 20, 21, 22]) (by decide +kernel)
    exact ⟨rfl, INV.mk tx tb pr ps pq pv hh sa sl tf tn z nw dp (hvO sv) (hvO lv) h0 sy sm sw mu ma mz mb ex md wt n uf un zf zn xf st sv lv a1 a2 a3 a5 a6 a7 a14 a16 0 dp nx ts tk vl er rq sf df hf lf fg vf eg gd (hv9) (rfl) (rfl) (rfl) (hR) (hH) (hL) (ht) (hf0)⟩
set_option maxHeartbeats 2000000 in
set_option maxRecDepth 20000 in
theorem bo_clearText (l : Launch) {G : GT} {x0 m0 : Nat} {u : va_W} (h : INV G x0 m0 u) : STEP l G x0 m0 yX6_clearText wsX6_clearText yX7_clearText wsX7_clearText [] u := by
  obtain ⟨tx, tb, pr, ps, pq, pv, hh, sa, sl, tf, tn, z, nw, dp, hv, lw, h0, sy, sm, sw, mu, ma, mz, mb, ex, md, wt, n, uf, un, zf, zn, xf, st, sv, lv, a1, a2, a3, a5, a6, a7, a14, a16, th, ud, nx, ts, tk, vl, er, rq, sf, df, hf, lf, fg, vf, eg, gd, hu, e1, e2, e3, hR, hH, hL, ht, hf0⟩ := h
  subst e1 e2
  have e3 := e3.symm
  subst e3
  have hc := hR.1
  have hn : n ≤ 10 := hc.1
  have hs0 : sf 0 = nI n := hc.2.1
  refine STEP.of (rM := nI tn) (cM := (mW G m0 a1 a2 a3 a5 a6 a7 a14 a16 th dp tn nx ts tk vl er rq sf df hf lf fg tf vf eg)) (cM' := (mW G m0 a1 a2 a3 a5 a6 a7 a14 a16 0 dp 0 nx ts tk vl er rq sf df hf lf fg tf vf eg)) (tl := evL ((xW G x0 tx tb pr ps pq pv hh sa sl tf tn z nw dp (hvO sv) (hvO lv) h0 sy sm sw mu ma mz mb ex md wt n uf un zf zn xf st).map (fun c => [c]) ++ [(blks G sv 5), (blks G lv 2), (mW G m0 a1 a2 a3 a5 a6 a7 a14 a16 th dp tn nx ts tk vl er rq sf df hf lf fg tf vf eg), gd]) [3, 4, 5, 6, 7, 8, 9, 10, 11, 12, 13, 14, 15, 16, 17, 18, 19, 20, 22]) (c_X6_clearText l G x0 tx pr hh sl h0 tb tf tn) ⟨Nat.le_of_ble_eq_true rfl, Nat.le_of_ble_eq_true rfl, Nat.le_of_ble_eq_true rfl, Nat.le_of_ble_eq_true rfl⟩ (c_X7_clearText l G m0 a1 a2 a3 a5 a6 a7 a14 a16 th dp tn nx ts tk vl er rq sf df hf lf fg tf vf eg) ⟨Nat.le_of_ble_eq_true rfl, Nat.le_of_ble_eq_true rfl, Nat.le_of_ble_eq_true rfl, Nat.le_of_ble_eq_true rfl⟩ List.mem_cons_self (hu.trans (pmL ((xW G x0 tx tb pr ps pq pv hh sa sl tf tn z nw dp (hvO sv) (hvO lv) h0 sy sm sw mu ma mz mb ex md wt n uf un zf zn xf st).map (fun c => [c]) ++ [(blks G sv 5), (blks G lv 2), (mW G m0 a1 a2 a3 a5 a6 a7 a14 a16 th dp tn nx ts tk vl er rq sf df hf lf fg tf vf eg), gd]) (I := [0, 1, 2, 3, 4, 5, 6, 7, 8, 9, 10, 11, 12, 13, 14, 15, 16, 17, 18, 19, 20, 21, 22]) (J := [0, 1, 2, 21, 3, 4, 5, 6, 7, 8, 9, 10, 11, 12, 13, 14, 15, 16, 17, 18, 19, 20, 22]) (by decide +kernel))) (fun r u0 hp => ?_)
  obtain ⟨rfl, rfl⟩ := hp
  have hv9 := pmL ((xW G x0 tx tb pr ps pq pv hh sa sl tf 0 z nw dp (hvO sv) (hvO lv) h0 sy sm sw mu ma mz mb ex md wt n uf un zf zn xf st).map (fun c => [c]) ++ [(blks G sv 5), (blks G lv 2), (mW G m0 a1 a2 a3 a5 a6 a7 a14 a16 0 dp 0 nx ts tk vl er rq sf df hf lf fg tf vf eg), gd]) (I := [0, 1, 2, 21, 3, 4, 5, 6, 7, 8, 9, 10, 11, 12, 13, 14, 15, 16, 17, 18, 19, 20, 22]) (J := [0, 1, 2, 3, 4, 5, 6, 7, 8, 9, 10, 11, 12, 13, 14, 15, 16, 17, 18, 19, 20, 21, 22]) (by decide +kernel)
  exact ⟨rfl, INV.mk tx tb pr ps pq pv hh sa sl tf 0 z nw dp (hvO sv) (hvO lv) h0 sy sm sw mu ma mz mb ex md wt n uf un zf zn xf st sv lv a1 a2 a3 a5 a6 a7 a14 a16 0 dp nx ts tk vl er rq sf df hf lf fg vf eg gd (hv9) (rfl) (rfl) (rfl) (hR) (hH) (hL) (by omega) (hf0)⟩
set_option maxHeartbeats 2000000 in
set_option maxRecDepth 20000 in
theorem bo_seed (l : Launch) {G : GT} {x0 m0 : Nat} {u : va_W} (h : INV G x0 m0 u) : STEP l G x0 m0 yX6_seed wsX6_seed yX7_seed wsX7_seed [] u := by
  obtain ⟨tx, tb, pr, ps, pq, pv, hh, sa, sl, tf, tn, z, nw, dp, hv, lw, h0, sy, sm, sw, mu, ma, mz, mb, ex, md, wt, n, uf, un, zf, zn, xf, st, sv, lv, a1, a2, a3, a5, a6, a7, a14, a16, th, ud, nx, ts, tk, vl, er, rq, sf, df, hf, lf, fg, vf, eg, gd, hu, e1, e2, e3, hR, hH, hL, ht, hf0⟩ := h
  subst e1 e2
  have e3 := e3.symm
  subst e3
  have hc := hR.1
  have hn : n ≤ 10 := hc.1
  have hs0 : sf 0 = nI n := hc.2.1
  have hun : un ≤ 252 := hR.2.1.1
  have hzn : zn ≤ 252 := hR.2.2.1.1
  have hs1 : sf 1 = st := hR.2.2.2.2.1
  have hst : st = 0 ∨ st = 1 := hR.2.2.2.2.2.1
  have hs2 : sf 2 = nI un := hR.2.2.2.2.2.2.1
  have hs3 : sf 3 = nI zn := hR.2.2.2.2.2.2.2.1
  refine STEP.of (rM := sdM (sf 1) (mkAll sf eg n un zn) 1024) (cM := (mW G m0 a1 a2 a3 a5 a6 a7 a14 a16 th dp tn nx ts tk vl er rq sf df hf lf fg tf vf eg)) (cM' := (mW G m0 a1 a2 a3 a5 a6 a7 a14 a16 0 dp tn nx ts tk vl er rq sf df hf lf fg tf vf (mkAll sf eg n un zn))) (tl := evL ((xW G x0 tx tb pr ps pq pv hh sa sl tf tn z nw dp (hvO sv) (hvO lv) h0 sy sm sw mu ma mz mb ex md wt n uf un zf zn xf st).map (fun c => [c]) ++ [(blks G sv 5), (blks G lv 2), (mW G m0 a1 a2 a3 a5 a6 a7 a14 a16 th dp tn nx ts tk vl er rq sf df hf lf fg tf vf eg), gd]) [1, 2, 3, 4, 5, 6, 7, 8, 9, 14, 15, 16, 17, 19, 20, 22]) (c_X6_seed l G x0 tx pr hh sl h0 sy sm sw mu mz ex md wt n xf st (hn)) ⟨Nat.le_of_ble_eq_true rfl, Nat.le_of_ble_eq_true rfl, Nat.le_of_ble_eq_true rfl, Nat.le_of_ble_eq_true rfl⟩ (c_X7_seed l G m0 a1 a2 a3 a5 a6 a7 a14 a16 th dp tn nx ts tk vl er rq sf df hf lf fg tf vf eg n un zn (hs0) (hn) (hs2) (hs3) (hun) (hzn)) ⟨Nat.le_of_ble_eq_true rfl, Nat.le_of_ble_eq_true rfl, Nat.le_of_ble_eq_true rfl, Nat.le_of_ble_eq_true rfl⟩ List.mem_cons_self (hu.trans (pmL ((xW G x0 tx tb pr ps pq pv hh sa sl tf tn z nw dp (hvO sv) (hvO lv) h0 sy sm sw mu ma mz mb ex md wt n uf un zf zn xf st).map (fun c => [c]) ++ [(blks G sv 5), (blks G lv 2), (mW G m0 a1 a2 a3 a5 a6 a7 a14 a16 th dp tn nx ts tk vl er rq sf df hf lf fg tf vf eg), gd]) (I := [0, 1, 2, 3, 4, 5, 6, 7, 8, 9, 10, 11, 12, 13, 14, 15, 16, 17, 18, 19, 20, 21, 22]) (J := [0, 10, 11, 12, 13, 18, 21, 1, 2, 3, 4, 5, 6, 7, 8, 9, 14, 15, 16, 17, 19, 20, 22]) (by decide +kernel))) (fun r u0 hp => ?_)
  obtain ⟨rfl, rfl⟩ := hp
  have hv9 := pmL ((xW G x0 tx tb pr ps pq pv hh sa sl tf tn z nw dp (hvO sv) (hvO lv) h0 sy sm sw mu ma mz mb ex md wt n uf un zf zn xf st).map (fun c => [c]) ++ [(blks G sv 5), (blks G lv 2), (mW G m0 a1 a2 a3 a5 a6 a7 a14 a16 0 dp tn nx ts tk vl er rq sf df hf lf fg tf vf (mkAll sf eg n un zn)), gd]) (I := [0, 10, 11, 12, 13, 18, 21, 1, 2, 3, 4, 5, 6, 7, 8, 9, 14, 15, 16, 17, 19, 20, 22]) (J := [0, 1, 2, 3, 4, 5, 6, 7, 8, 9, 10, 11, 12, 13, 14, 15, 16, 17, 18, 19, 20, 21, 22]) (by decide +kernel)
  exact ⟨(hR.seed eg).symm, INV.mk tx tb pr ps pq pv hh sa sl tf tn z nw dp (hvO sv) (hvO lv) h0 sy sm sw mu ma mz mb ex md wt n uf un zf zn xf st sv lv a1 a2 a3 a5 a6 a7 a14 a16 0 dp nx ts tk vl er rq sf df hf lf fg vf (mkAll sf eg n un zn) gd (hv9) (rfl) (rfl) (rfl) (hR) (hH) (hL) (ht) (hf0)⟩
set_option maxHeartbeats 2000000 in
set_option maxRecDepth 20000 in
theorem bo_unexploredCount (l : Launch) {G : GT} {x0 m0 : Nat} {u : va_W} (h : INV G x0 m0 u) : STEP l G x0 m0 yX6_unexploredCount wsX6_unexploredCount yX7_unexploredCount wsX7_unexploredCount [] u := by
  obtain ⟨tx, tb, pr, ps, pq, pv, hh, sa, sl, tf, tn, z, nw, dp, hv, lw, h0, sy, sm, sw, mu, ma, mz, mb, ex, md, wt, n, uf, un, zf, zn, xf, st, sv, lv, a1, a2, a3, a5, a6, a7, a14, a16, th, ud, nx, ts, tk, vl, er, rq, sf, df, hf, lf, fg, vf, eg, gd, hu, e1, e2, e3, hR, hH, hL, ht, hf0⟩ := h
  subst e1 e2
  have e3 := e3.symm
  subst e3
  have hc := hR.1
  have hn : n ≤ 10 := hc.1
  have hs0 : sf 0 = nI n := hc.2.1
  have hun : un ≤ 252 := hR.2.1.1
  have hzn : zn ≤ 252 := hR.2.2.1.1
  have hs1 : sf 1 = st := hR.2.2.2.2.1
  have hst : st = 0 ∨ st = 1 := hR.2.2.2.2.2.1
  have hs2 : sf 2 = nI un := hR.2.2.2.2.2.2.1
  have hs3 : sf 3 = nI zn := hR.2.2.2.2.2.2.2.1
  refine STEP.of (rM := nI (cntU (mkAll sf eg n un zn) 1024)) (cM := (mW G m0 a1 a2 a3 a5 a6 a7 a14 a16 th dp tn nx ts tk vl er rq sf df hf lf fg tf vf eg)) (cM' := (mW G m0 a1 a2 a3 a5 a6 a7 a14 a16 0 dp tn nx ts tk vl er rq sf df hf lf fg tf vf (mkAll sf eg n un zn))) (tl := evL ((xW G x0 tx tb pr ps pq pv hh sa sl tf tn z nw dp (hvO sv) (hvO lv) h0 sy sm sw mu ma mz mb ex md wt n uf un zf zn xf st).map (fun c => [c]) ++ [(blks G sv 5), (blks G lv 2), (mW G m0 a1 a2 a3 a5 a6 a7 a14 a16 th dp tn nx ts tk vl er rq sf df hf lf fg tf vf eg), gd]) [1, 2, 3, 4, 5, 6, 7, 8, 9, 14, 15, 16, 17, 19, 20, 22]) (c_X6_unexploredCount l G x0 tx pr hh sl h0 sy sm sw mu mz ex md wt n xf st (hn)) ⟨Nat.le_of_ble_eq_true rfl, Nat.le_of_ble_eq_true rfl, Nat.le_of_ble_eq_true rfl, Nat.le_of_ble_eq_true rfl⟩ (c_X7_unexploredCount l G m0 a1 a2 a3 a5 a6 a7 a14 a16 th dp tn nx ts tk vl er rq sf df hf lf fg tf vf eg n un zn (hs0) (hn) (hs2) (hs3) (hun) (hzn)) ⟨Nat.le_of_ble_eq_true rfl, Nat.le_of_ble_eq_true rfl, Nat.le_of_ble_eq_true rfl, Nat.le_of_ble_eq_true rfl⟩ List.mem_cons_self (hu.trans (pmL ((xW G x0 tx tb pr ps pq pv hh sa sl tf tn z nw dp (hvO sv) (hvO lv) h0 sy sm sw mu ma mz mb ex md wt n uf un zf zn xf st).map (fun c => [c]) ++ [(blks G sv 5), (blks G lv 2), (mW G m0 a1 a2 a3 a5 a6 a7 a14 a16 th dp tn nx ts tk vl er rq sf df hf lf fg tf vf eg), gd]) (I := [0, 1, 2, 3, 4, 5, 6, 7, 8, 9, 10, 11, 12, 13, 14, 15, 16, 17, 18, 19, 20, 21, 22]) (J := [0, 10, 11, 12, 13, 18, 21, 1, 2, 3, 4, 5, 6, 7, 8, 9, 14, 15, 16, 17, 19, 20, 22]) (by decide +kernel))) (fun r u0 hp => ?_)
  obtain ⟨rfl, rfl⟩ := hp
  have hv9 := pmL ((xW G x0 tx tb pr ps pq pv hh sa sl tf tn z nw dp (hvO sv) (hvO lv) h0 sy sm sw mu ma mz mb ex md wt n uf un zf zn xf st).map (fun c => [c]) ++ [(blks G sv 5), (blks G lv 2), (mW G m0 a1 a2 a3 a5 a6 a7 a14 a16 0 dp tn nx ts tk vl er rq sf df hf lf fg tf vf (mkAll sf eg n un zn)), gd]) (I := [0, 10, 11, 12, 13, 18, 21, 1, 2, 3, 4, 5, 6, 7, 8, 9, 14, 15, 16, 17, 19, 20, 22]) (J := [0, 1, 2, 3, 4, 5, 6, 7, 8, 9, 10, 11, 12, 13, 14, 15, 16, 17, 18, 19, 20, 21, 22]) (by decide +kernel)
  exact ⟨by rw [hR.count eg], INV.mk tx tb pr ps pq pv hh sa sl tf tn z nw dp (hvO sv) (hvO lv) h0 sy sm sw mu ma mz mb ex md wt n uf un zf zn xf st sv lv a1 a2 a3 a5 a6 a7 a14 a16 0 dp nx ts tk vl er rq sf df hf lf fg vf (mkAll sf eg n un zn) gd (hv9) (rfl) (rfl) (rfl) (hR) (hH) (hL) (ht) (hf0)⟩
set_option maxHeartbeats 2000000 in
set_option maxRecDepth 20000 in
theorem bo_musCount (l : Launch) {G : GT} {x0 m0 : Nat} {u : va_W} (h : INV G x0 m0 u) : STEP l G x0 m0 yX6_musCount wsX6_musCount yX7_musCount wsX7_musCount [] u := by
  obtain ⟨tx, tb, pr, ps, pq, pv, hh, sa, sl, tf, tn, z, nw, dp, hv, lw, h0, sy, sm, sw, mu, ma, mz, mb, ex, md, wt, n, uf, un, zf, zn, xf, st, sv, lv, a1, a2, a3, a5, a6, a7, a14, a16, th, ud, nx, ts, tk, vl, er, rq, sf, df, hf, lf, fg, vf, eg, gd, hu, e1, e2, e3, hR, hH, hL, ht, hf0⟩ := h
  subst e1 e2
  have e3 := e3.symm
  subst e3
  have hc := hR.1
  have hn : n ≤ 10 := hc.1
  have hs0 : sf 0 = nI n := hc.2.1
  have hun : un ≤ 252 := hR.2.1.1
  have hzn : zn ≤ 252 := hR.2.2.1.1
  have hs1 : sf 1 = st := hR.2.2.2.2.1
  have hst : st = 0 ∨ st = 1 := hR.2.2.2.2.2.1
  have hs2 : sf 2 = nI un := hR.2.2.2.2.2.2.1
  have hs3 : sf 3 = nI zn := hR.2.2.2.2.2.2.2.1
  refine STEP.of (rM := nI un) (cM := (mW G m0 a1 a2 a3 a5 a6 a7 a14 a16 th dp tn nx ts tk vl er rq sf df hf lf fg tf vf eg)) (cM' := (mW G m0 a1 a2 a3 a5 a6 a7 a14 a16 0 dp tn nx ts tk vl er rq sf df hf lf fg tf vf eg)) (tl := evL ((xW G x0 tx tb pr ps pq pv hh sa sl tf tn z nw dp (hvO sv) (hvO lv) h0 sy sm sw mu ma mz mb ex md wt n uf un zf zn xf st).map (fun c => [c]) ++ [(blks G sv 5), (blks G lv 2), (mW G m0 a1 a2 a3 a5 a6 a7 a14 a16 th dp tn nx ts tk vl er rq sf df hf lf fg tf vf eg), gd]) [1, 2, 3, 4, 5, 6, 7, 8, 9, 11, 12, 13, 16, 17, 18, 19, 20, 22]) (c_X6_musCount l G x0 tx pr hh sl h0 sy mu ma mz ex uf un st) ⟨Nat.le_of_ble_eq_true rfl, Nat.le_of_ble_eq_true rfl, Nat.le_of_ble_eq_true rfl, Nat.le_of_ble_eq_true rfl⟩ (c_X7_musCount l G m0 a1 a2 a3 a5 a6 a7 a14 a16 th dp tn nx ts tk vl er rq sf df hf lf fg tf vf eg n un zn (hs2) (hs3) (hun) (hzn)) ⟨Nat.le_of_ble_eq_true rfl, Nat.le_of_ble_eq_true rfl, Nat.le_of_ble_eq_true rfl, Nat.le_of_ble_eq_true rfl⟩ List.mem_cons_self (hu.trans (pmL ((xW G x0 tx tb pr ps pq pv hh sa sl tf tn z nw dp (hvO sv) (hvO lv) h0 sy sm sw mu ma mz mb ex md wt n uf un zf zn xf st).map (fun c => [c]) ++ [(blks G sv 5), (blks G lv 2), (mW G m0 a1 a2 a3 a5 a6 a7 a14 a16 th dp tn nx ts tk vl er rq sf df hf lf fg tf vf eg), gd]) (I := [0, 1, 2, 3, 4, 5, 6, 7, 8, 9, 10, 11, 12, 13, 14, 15, 16, 17, 18, 19, 20, 21, 22]) (J := [0, 10, 14, 15, 21, 1, 2, 3, 4, 5, 6, 7, 8, 9, 11, 12, 13, 16, 17, 18, 19, 20, 22]) (by decide +kernel))) (fun r u0 hp => ?_)
  obtain ⟨rfl, rfl⟩ := hp
  have hv9 := pmL ((xW G x0 tx tb pr ps pq pv hh sa sl tf tn z nw dp (hvO sv) (hvO lv) h0 sy sm sw mu ma mz mb ex md wt n uf un zf zn xf st).map (fun c => [c]) ++ [(blks G sv 5), (blks G lv 2), (mW G m0 a1 a2 a3 a5 a6 a7 a14 a16 0 dp tn nx ts tk vl er rq sf df hf lf fg tf vf eg), gd]) (I := [0, 10, 14, 15, 21, 1, 2, 3, 4, 5, 6, 7, 8, 9, 11, 12, 13, 16, 17, 18, 19, 20, 22]) (J := [0, 1, 2, 3, 4, 5, 6, 7, 8, 9, 10, 11, 12, 13, 14, 15, 16, 17, 18, 19, 20, 21, 22]) (by decide +kernel)
  exact ⟨rfl, INV.mk tx tb pr ps pq pv hh sa sl tf tn z nw dp (hvO sv) (hvO lv) h0 sy sm sw mu ma mz mb ex md wt n uf un zf zn xf st sv lv a1 a2 a3 a5 a6 a7 a14 a16 0 dp nx ts tk vl er rq sf df hf lf fg vf eg gd (hv9) (rfl) (rfl) (rfl) (hR) (hH) (hL) (ht) (hf0)⟩
set_option maxHeartbeats 2000000 in
set_option maxRecDepth 20000 in
theorem bo_mssCount (l : Launch) {G : GT} {x0 m0 : Nat} {u : va_W} (h : INV G x0 m0 u) : STEP l G x0 m0 yX6_mssCount wsX6_mssCount yX7_mssCount wsX7_mssCount [] u := by
  obtain ⟨tx, tb, pr, ps, pq, pv, hh, sa, sl, tf, tn, z, nw, dp, hv, lw, h0, sy, sm, sw, mu, ma, mz, mb, ex, md, wt, n, uf, un, zf, zn, xf, st, sv, lv, a1, a2, a3, a5, a6, a7, a14, a16, th, ud, nx, ts, tk, vl, er, rq, sf, df, hf, lf, fg, vf, eg, gd, hu, e1, e2, e3, hR, hH, hL, ht, hf0⟩ := h
  subst e1 e2
  have e3 := e3.symm
  subst e3
  have hc := hR.1
  have hn : n ≤ 10 := hc.1
  have hs0 : sf 0 = nI n := hc.2.1
  have hun : un ≤ 252 := hR.2.1.1
  have hzn : zn ≤ 252 := hR.2.2.1.1
  have hs1 : sf 1 = st := hR.2.2.2.2.1
  have hst : st = 0 ∨ st = 1 := hR.2.2.2.2.2.1
  have hs2 : sf 2 = nI un := hR.2.2.2.2.2.2.1
  have hs3 : sf 3 = nI zn := hR.2.2.2.2.2.2.2.1
  refine STEP.of (rM := nI zn) (cM := (mW G m0 a1 a2 a3 a5 a6 a7 a14 a16 th dp tn nx ts tk vl er rq sf df hf lf fg tf vf eg)) (cM' := (mW G m0 a1 a2 a3 a5 a6 a7 a14 a16 0 dp tn nx ts tk vl er rq sf df hf lf fg tf vf eg)) (tl := evL ((xW G x0 tx tb pr ps pq pv hh sa sl tf tn z nw dp (hvO sv) (hvO lv) h0 sy sm sw mu ma mz mb ex md wt n uf un zf zn xf st).map (fun c => [c]) ++ [(blks G sv 5), (blks G lv 2), (mW G m0 a1 a2 a3 a5 a6 a7 a14 a16 th dp tn nx ts tk vl er rq sf df hf lf fg tf vf eg), gd]) [1, 2, 3, 4, 5, 6, 7, 8, 9, 11, 12, 13, 14, 15, 18, 19, 20, 22]) (c_X6_mssCount l G x0 tx pr hh sl h0 sy mu mz mb ex zf zn st) ⟨Nat.le_of_ble_eq_true rfl, Nat.le_of_ble_eq_true rfl, Nat.le_of_ble_eq_true rfl, Nat.le_of_ble_eq_true rfl⟩ (c_X7_mssCount l G m0 a1 a2 a3 a5 a6 a7 a14 a16 th dp tn nx ts tk vl er rq sf df hf lf fg tf vf eg n un zn (hs2) (hs3) (hun) (hzn)) ⟨Nat.le_of_ble_eq_true rfl, Nat.le_of_ble_eq_true rfl, Nat.le_of_ble_eq_true rfl, Nat.le_of_ble_eq_true rfl⟩ List.mem_cons_self (hu.trans (pmL ((xW G x0 tx tb pr ps pq pv hh sa sl tf tn z nw dp (hvO sv) (hvO lv) h0 sy sm sw mu ma mz mb ex md wt n uf un zf zn xf st).map (fun c => [c]) ++ [(blks G sv 5), (blks G lv 2), (mW G m0 a1 a2 a3 a5 a6 a7 a14 a16 th dp tn nx ts tk vl er rq sf df hf lf fg tf vf eg), gd]) (I := [0, 1, 2, 3, 4, 5, 6, 7, 8, 9, 10, 11, 12, 13, 14, 15, 16, 17, 18, 19, 20, 21, 22]) (J := [0, 10, 16, 17, 21, 1, 2, 3, 4, 5, 6, 7, 8, 9, 11, 12, 13, 14, 15, 18, 19, 20, 22]) (by decide +kernel))) (fun r u0 hp => ?_)
  obtain ⟨rfl, rfl⟩ := hp
  have hv9 := pmL ((xW G x0 tx tb pr ps pq pv hh sa sl tf tn z nw dp (hvO sv) (hvO lv) h0 sy sm sw mu ma mz mb ex md wt n uf un zf zn xf st).map (fun c => [c]) ++ [(blks G sv 5), (blks G lv 2), (mW G m0 a1 a2 a3 a5 a6 a7 a14 a16 0 dp tn nx ts tk vl er rq sf df hf lf fg tf vf eg), gd]) (I := [0, 10, 16, 17, 21, 1, 2, 3, 4, 5, 6, 7, 8, 9, 11, 12, 13, 14, 15, 18, 19, 20, 22]) (J := [0, 1, 2, 3, 4, 5, 6, 7, 8, 9, 10, 11, 12, 13, 14, 15, 16, 17, 18, 19, 20, 21, 22]) (by decide +kernel)
  exact ⟨rfl, INV.mk tx tb pr ps pq pv hh sa sl tf tn z nw dp (hvO sv) (hvO lv) h0 sy sm sw mu ma mz mb ex md wt n uf un zf zn xf st sv lv a1 a2 a3 a5 a6 a7 a14 a16 0 dp nx ts tk vl er rq sf df hf lf fg vf eg gd (hv9) (rfl) (rfl) (rfl) (hR) (hH) (hL) (ht) (hf0)⟩
set_option maxHeartbeats 2000000 in
set_option maxRecDepth 20000 in
theorem bo_mus (l : Launch) {G : GT} {x0 m0 : Nat} {u : va_W} (h : INV G x0 m0 u) (k : Int32) : STEP l G x0 m0 yX6_mus wsX6_mus yX7_mus wsX7_mus [.int k] u := by
  obtain ⟨tx, tb, pr, ps, pq, pv, hh, sa, sl, tf, tn, z, nw, dp, hv, lw, h0, sy, sm, sw, mu, ma, mz, mb, ex, md, wt, n, uf, un, zf, zn, xf, st, sv, lv, a1, a2, a3, a5, a6, a7, a14, a16, th, ud, nx, ts, tk, vl, er, rq, sf, df, hf, lf, fg, vf, eg, gd, hu, e1, e2, e3, hR, hH, hL, ht, hf0⟩ := h
  subst e1 e2
  have e3 := e3.symm
  subst e3
  have hc := hR.1
  have hn : n ≤ 10 := hc.1
  have hs0 : sf 0 = nI n := hc.2.1
  have hun : un ≤ 252 := hR.2.1.1
  have hzn : zn ≤ 252 := hR.2.2.1.1
  have hs1 : sf 1 = st := hR.2.2.2.2.1
  have hst : st = 0 ∨ st = 1 := hR.2.2.2.2.2.1
  have hs2 : sf 2 = nI un := hR.2.2.2.2.2.2.1
  have hs3 : sf 3 = nI zn := hR.2.2.2.2.2.2.2.1
  refine STEP.of (rM := gtM (fun z => sf (64 + z)) un k) (cM := (mW G m0 a1 a2 a3 a5 a6 a7 a14 a16 th dp tn nx ts tk vl er rq sf df hf lf fg tf vf eg)) (cM' := (mW G m0 a1 a2 a3 a5 a6 a7 a14 a16 0 dp tn nx ts tk vl er rq sf df hf lf fg tf vf eg)) (tl := evL ((xW G x0 tx tb pr ps pq pv hh sa sl tf tn z nw dp (hvO sv) (hvO lv) h0 sy sm sw mu ma mz mb ex md wt n uf un zf zn xf st).map (fun c => [c]) ++ [(blks G sv 5), (blks G lv 2), (mW G m0 a1 a2 a3 a5 a6 a7 a14 a16 th dp tn nx ts tk vl er rq sf df hf lf fg tf vf eg), gd]) [1, 2, 3, 4, 5, 6, 7, 8, 9, 11, 12, 13, 16, 17, 18, 19, 20, 22]) (c_X6_mus l G x0 tx pr hh sl h0 sy mu ma mz ex uf un st k (hun)) ⟨Nat.le_of_ble_eq_true rfl, Nat.le_of_ble_eq_true rfl, Nat.le_of_ble_eq_true rfl, Nat.le_of_ble_eq_true rfl⟩ (c_X7_mus l G m0 a1 a2 a3 a5 a6 a7 a14 a16 th dp tn nx ts tk vl er rq sf df hf lf fg tf vf eg n un zn k (hs2) (hs3) (hun) (hzn)) ⟨Nat.le_of_ble_eq_true rfl, Nat.le_of_ble_eq_true rfl, Nat.le_of_ble_eq_true rfl, Nat.le_of_ble_eq_true rfl⟩ List.mem_cons_self (hu.trans (pmL ((xW G x0 tx tb pr ps pq pv hh sa sl tf tn z nw dp (hvO sv) (hvO lv) h0 sy sm sw mu ma mz mb ex md wt n uf un zf zn xf st).map (fun c => [c]) ++ [(blks G sv 5), (blks G lv 2), (mW G m0 a1 a2 a3 a5 a6 a7 a14 a16 th dp tn nx ts tk vl er rq sf df hf lf fg tf vf eg), gd]) (I := [0, 1, 2, 3, 4, 5, 6, 7, 8, 9, 10, 11, 12, 13, 14, 15, 16, 17, 18, 19, 20, 21, 22]) (J := [0, 10, 14, 15, 21, 1, 2, 3, 4, 5, 6, 7, 8, 9, 11, 12, 13, 16, 17, 18, 19, 20, 22]) (by decide +kernel))) (fun r u0 hp => ?_)
  obtain ⟨rfl, rfl⟩ := hp
  have hv9 := pmL ((xW G x0 tx tb pr ps pq pv hh sa sl tf tn z nw dp (hvO sv) (hvO lv) h0 sy sm sw mu ma mz mb ex md wt n uf un zf zn xf st).map (fun c => [c]) ++ [(blks G sv 5), (blks G lv 2), (mW G m0 a1 a2 a3 a5 a6 a7 a14 a16 0 dp tn nx ts tk vl er rq sf df hf lf fg tf vf eg), gd]) (I := [0, 10, 14, 15, 21, 1, 2, 3, 4, 5, 6, 7, 8, 9, 11, 12, 13, 16, 17, 18, 19, 20, 22]) (J := [0, 1, 2, 3, 4, 5, 6, 7, 8, 9, 10, 11, 12, 13, 14, 15, 16, 17, 18, 19, 20, 21, 22]) (by decide +kernel)
  exact ⟨(hR.mus k).symm, INV.mk tx tb pr ps pq pv hh sa sl tf tn z nw dp (hvO sv) (hvO lv) h0 sy sm sw mu ma mz mb ex md wt n uf un zf zn xf st sv lv a1 a2 a3 a5 a6 a7 a14 a16 0 dp nx ts tk vl er rq sf df hf lf fg vf eg gd (hv9) (rfl) (rfl) (rfl) (hR) (hH) (hL) (ht) (hf0)⟩
set_option maxHeartbeats 2000000 in
set_option maxRecDepth 20000 in
theorem bo_mss (l : Launch) {G : GT} {x0 m0 : Nat} {u : va_W} (h : INV G x0 m0 u) (k : Int32) : STEP l G x0 m0 yX6_mss wsX6_mss yX7_mss wsX7_mss [.int k] u := by
  obtain ⟨tx, tb, pr, ps, pq, pv, hh, sa, sl, tf, tn, z, nw, dp, hv, lw, h0, sy, sm, sw, mu, ma, mz, mb, ex, md, wt, n, uf, un, zf, zn, xf, st, sv, lv, a1, a2, a3, a5, a6, a7, a14, a16, th, ud, nx, ts, tk, vl, er, rq, sf, df, hf, lf, fg, vf, eg, gd, hu, e1, e2, e3, hR, hH, hL, ht, hf0⟩ := h
  subst e1 e2
  have e3 := e3.symm
  subst e3
  have hc := hR.1
  have hn : n ≤ 10 := hc.1
  have hs0 : sf 0 = nI n := hc.2.1
  have hun : un ≤ 252 := hR.2.1.1
  have hzn : zn ≤ 252 := hR.2.2.1.1
  have hs1 : sf 1 = st := hR.2.2.2.2.1
  have hst : st = 0 ∨ st = 1 := hR.2.2.2.2.2.1
  have hs2 : sf 2 = nI un := hR.2.2.2.2.2.2.1
  have hs3 : sf 3 = nI zn := hR.2.2.2.2.2.2.2.1
  refine STEP.of (rM := gtM (fun z => sf (316 + z)) zn k) (cM := (mW G m0 a1 a2 a3 a5 a6 a7 a14 a16 th dp tn nx ts tk vl er rq sf df hf lf fg tf vf eg)) (cM' := (mW G m0 a1 a2 a3 a5 a6 a7 a14 a16 0 dp tn nx ts tk vl er rq sf df hf lf fg tf vf eg)) (tl := evL ((xW G x0 tx tb pr ps pq pv hh sa sl tf tn z nw dp (hvO sv) (hvO lv) h0 sy sm sw mu ma mz mb ex md wt n uf un zf zn xf st).map (fun c => [c]) ++ [(blks G sv 5), (blks G lv 2), (mW G m0 a1 a2 a3 a5 a6 a7 a14 a16 th dp tn nx ts tk vl er rq sf df hf lf fg tf vf eg), gd]) [1, 2, 3, 4, 5, 6, 7, 8, 9, 11, 12, 13, 14, 15, 18, 19, 20, 22]) (c_X6_mss l G x0 tx pr hh sl h0 sy mu mz mb ex zf zn st k (hzn)) ⟨Nat.le_of_ble_eq_true rfl, Nat.le_of_ble_eq_true rfl, Nat.le_of_ble_eq_true rfl, Nat.le_of_ble_eq_true rfl⟩ (c_X7_mss l G m0 a1 a2 a3 a5 a6 a7 a14 a16 th dp tn nx ts tk vl er rq sf df hf lf fg tf vf eg n un zn k (hs2) (hs3) (hun) (hzn)) ⟨Nat.le_of_ble_eq_true rfl, Nat.le_of_ble_eq_true rfl, Nat.le_of_ble_eq_true rfl, Nat.le_of_ble_eq_true rfl⟩ List.mem_cons_self (hu.trans (pmL ((xW G x0 tx tb pr ps pq pv hh sa sl tf tn z nw dp (hvO sv) (hvO lv) h0 sy sm sw mu ma mz mb ex md wt n uf un zf zn xf st).map (fun c => [c]) ++ [(blks G sv 5), (blks G lv 2), (mW G m0 a1 a2 a3 a5 a6 a7 a14 a16 th dp tn nx ts tk vl er rq sf df hf lf fg tf vf eg), gd]) (I := [0, 1, 2, 3, 4, 5, 6, 7, 8, 9, 10, 11, 12, 13, 14, 15, 16, 17, 18, 19, 20, 21, 22]) (J := [0, 10, 16, 17, 21, 1, 2, 3, 4, 5, 6, 7, 8, 9, 11, 12, 13, 14, 15, 18, 19, 20, 22]) (by decide +kernel))) (fun r u0 hp => ?_)
  obtain ⟨rfl, rfl⟩ := hp
  have hv9 := pmL ((xW G x0 tx tb pr ps pq pv hh sa sl tf tn z nw dp (hvO sv) (hvO lv) h0 sy sm sw mu ma mz mb ex md wt n uf un zf zn xf st).map (fun c => [c]) ++ [(blks G sv 5), (blks G lv 2), (mW G m0 a1 a2 a3 a5 a6 a7 a14 a16 0 dp tn nx ts tk vl er rq sf df hf lf fg tf vf eg), gd]) (I := [0, 10, 16, 17, 21, 1, 2, 3, 4, 5, 6, 7, 8, 9, 11, 12, 13, 14, 15, 18, 19, 20, 22]) (J := [0, 1, 2, 3, 4, 5, 6, 7, 8, 9, 10, 11, 12, 13, 14, 15, 16, 17, 18, 19, 20, 21, 22]) (by decide +kernel)
  exact ⟨(hR.mss k).symm, INV.mk tx tb pr ps pq pv hh sa sl tf tn z nw dp (hvO sv) (hvO lv) h0 sy sm sw mu ma mz mb ex md wt n uf un zf zn xf st sv lv a1 a2 a3 a5 a6 a7 a14 a16 0 dp nx ts tk vl er rq sf df hf lf fg vf eg gd (hv9) (rfl) (rfl) (rfl) (hR) (hH) (hL) (ht) (hf0)⟩
