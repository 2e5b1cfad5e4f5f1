/-! THE LAW: the worlds of both objects, the relation between them -/
abbrev SB : Type := Nat × Nat × Nat × Nat × Nat × Nat × Nat × Nat × Nat
abbrev SD : Type := (Nat → Int64) × (Nat → Int32) × Nat × (Nat → Int32) × Nat × (Nat → Int32) × Nat × (Nat → Int64) × Int32
abbrev SV : Type := Nat → Option (SB × SD)
abbrev blk (G : GT) (h0 sy sm sw mu ma mz mb ex : Nat) (md : Nat → Int64) (wt : Nat → Int32) (n : Nat) (uf : Nat → Int32) (un : Nat) (zf : Nat → Int32) (zn : Nat) (xf : Nat → Int64) (st : Int32) : va_W :=
  [(h0, OB 4 [.ref sy, .ref mu, .ref mz, .ref ex, .int st]), (sy, OB 0 [.ref sm, .ref sw, .int (nI n)]), (sm, AJ G 10 md), (sw, AI G 10 wt), (mu, OB 3 [.ref ma, .int (nI un)]), (ma, AI G 252 uf), (mz, OB 3 [.ref mb, .int (nI zn)]), (mb, AI G 252 zf), (ex, AJ G 16 xf)]
abbrev blkP (G : GT) (p : SB × SD) : va_W := blk G p.1.1 p.1.2.1 p.1.2.2.1 p.1.2.2.2.1 p.1.2.2.2.2.1 p.1.2.2.2.2.2.1 p.1.2.2.2.2.2.2.1 p.1.2.2.2.2.2.2.2.1 p.1.2.2.2.2.2.2.2.2 p.2.1 p.2.2.1 p.2.2.2.1 p.2.2.2.2.1 p.2.2.2.2.2.1 p.2.2.2.2.2.2.1 p.2.2.2.2.2.2.2.1 p.2.2.2.2.2.2.2.2.1 p.2.2.2.2.2.2.2.2.2
def oblk (G : GT) : Option (SB × SD) → va_W
  | none => []
  | some p => blkP G p
def blks (G : GT) (sv : SV) : Nat → va_W
  | 0 => []
  | i + 1 => blks G sv i ++ oblk G (sv i)
abbrev RstD (d : SD) (sf : Nat → Int32) : Prop := Rst d.1 d.2.1 d.2.2.1 d.2.2.2.1 d.2.2.2.2.1 d.2.2.2.2.2.1 d.2.2.2.2.2.2.1 d.2.2.2.2.2.2.2.1 d.2.2.2.2.2.2.2.2 sf
def hvO (sv : SV) : Nat → Option Nat := fun i => (sv i).map (fun p => p.1.1)
theorem va_up_same {α : Type} (f : Nat → α) (k : Nat) : va_up f k (f k) = f := by
  funext j
  by_cases h : j = k
  · rw [va_upE h, h]
  · rw [va_upN h]
theorem va_up_two {α : Type} (f : Nat → α) (k : Nat) (u v : α) : va_up (va_up f k u) k v = va_up f k v := by
  funext j
  by_cases h : j = k
  · rw [va_upE h, va_upE h]
  · rw [va_upN h, va_upN h, va_upN h]
theorem blks_out (G : GT) (sv : SV) (i : Nat) (o : Option (SB × SD)) : ∀ n, n ≤ i → blks G (va_up sv i o) n = blks G sv n
  | 0, _ => rfl
  | n + 1, h => by
    unfold blks
    rw [blks_out G sv i o n (by omega), va_upN (show n ≠ i by omega)]
theorem blks_up (G : GT) (sv : SV) (i : Nat) (o : Option (SB × SD)) : ∀ n, i < n → (blks G (va_up sv i o) n).Perm (oblk G o ++ blks G (va_up sv i none) n)
  | 0, h => by omega
  | n + 1, h => by
    unfold blks
    rcases Nat.lt_or_ge i n with h1 | h1
    · rw [va_upN (show n ≠ i by omega), va_upN (show n ≠ i by omega), ← List.append_assoc]
      exact (blks_up G sv i o n h1).append_right _
    · have e : n = i := by omega
      rw [va_upE e, va_upE e, blks_out G sv i o n (by omega), blks_out G sv i none n (by omega)]
      show (blks G sv n ++ oblk G o).Perm (oblk G o ++ (blks G sv n ++ []))
      rw [List.append_nil]
      exact List.perm_append_comm
theorem blks_at (G : GT) (sv : SV) (i : Nat) {n : Nat} (h : i < n) : (blks G sv n).Perm (oblk G (sv i) ++ blks G (va_up sv i none) n) := by
  have h1 := blks_up G sv i (sv i) n h
  rw [va_up_same] at h1
  exact h1
theorem hvO_at {sv : SV} {i : Nat} {p : SB × SD} (h : sv i = some p) : hvO sv i = some p.1.1 := by unfold hvO; rw [h]; rfl
theorem hvO_no {sv : SV} {i : Nat} (h : sv i = none) : hvO sv i = none := by unfold hvO; rw [h]; rfl
theorem hvO_new (sv : SV) (i : Nat) (b : SB) (d : SD) : va_up (hvO sv) i (some b.1) = hvO (va_up sv i (some (b, d))) := by
  funext j
  unfold hvO
  by_cases h : j = i
  · rw [va_upE h, va_upE h]; rfl
  · rw [va_upN h, va_upN h]
theorem hvO_old {sv : SV} {i : Nat} {p : SB × SD} (h : sv i = some p) (d : SD) : hvO sv = hvO (va_up sv i (some (p.1, d))) := by
  rw [← hvO_new, ← hvO_at h, va_up_same]
/-- what is saved for undo: the i-th newest in the ring is the model's row -/
def HR (nw dp : Nat) (sv : SV) (hf : Nat → Int32) : Prop := nw < 5 ∧ dp ≤ 5 ∧ ∀ i, i < dp → ∃ p, sv ((nw + 5 - i) % 5) = some p ∧ RstD p.2 (fun k => hf (568 * (dp - 1 - i) + k))
theorem dpI_push {dp : Nat} (h : dp ≤ 5) : pushU dp = dpI dp := by
  unfold pushU dpI
  split
  · rw [if_neg (by omega)]; omega
  · rw [if_pos (by omega)]
theorem pushF_at {hf sf : Nat → Int32} {dp k : Nat} (h : dp ≤ 5) (hk : k < 568) : pushF hf sf dp (568 * (dpI dp - 1) + k) = sf k := by
  unfold pushF dpI
  by_cases h5 : dp = 5
  · subst h5
    rw [if_pos rfl, if_neg (by omega)]
    unfold putF
    rw [if_pos (by omega)]
    exact congrArg sf (by omega)
  · rw [if_neg h5, if_pos (by omega)]
    unfold putF
    rw [if_pos (by omega)]
    exact congrArg sf (by omega)
theorem pushF_old {hf sf : Nat → Int32} {dp i k : Nat} (h : dp ≤ 5) (hi : 0 < i) (hi2 : i < dpI dp) (hk : k < 568) : pushF hf sf dp (568 * (dpI dp - 1 - i) + k) = hf (568 * (dp - 1 - (i - 1)) + k) := by
  unfold dpI at hi2
  unfold pushF dpI
  by_cases h5 : dp = 5
  · subst h5
    rw [if_neg (by omega)] at hi2
    rw [if_pos rfl, if_neg (by omega)]
    unfold putF
    rw [if_neg (by omega)]
    unfold sftF
    rw [if_pos (by omega)]
    exact congrArg hf (by omega)
  · rw [if_pos (by omega)] at hi2
    rw [if_neg h5, if_pos (by omega)]
    unfold putF
    rw [if_neg (by omega)]
    exact congrArg hf (by omega)
theorem HR.push {nw dp ix : Nat} {sv : SV} {hf sf : Nat → Int32} {b : SB} {d : SD} (h : HR nw dp sv hf) (hr : RstD d sf) (hix : ix = if nw + 1 < 5 then nw + 1 else 0) : HR ix (dpI dp) (va_up sv ix (some (b, d))) (pushF hf sf dp) := by
  obtain ⟨h1, h2, h3⟩ := h
  have hi5 : ix < 5 := by rw [hix]; split <;> omega
  refine ⟨hi5, by unfold dpI; split <;> omega, fun i hi => ?_⟩
  have hle : dpI dp ≤ 5 := by unfold dpI; split <;> omega
  by_cases h0 : i = 0
  · subst h0
    refine ⟨(b, d), va_upE (by omega), ?_⟩
    exact Rst.congr hr (fun k hk => pushF_at h2 hk)
  · have hid : i - 1 < dp := by unfold dpI at hi; split at hi <;> omega
    obtain ⟨p, hp, hR⟩ := h3 (i - 1) hid
    have e : (ix + 5 - i) % 5 = (nw + 5 - (i - 1)) % 5 := by rw [hix]; split <;> omega
    refine ⟨p, ?_, ?_⟩
    · rw [va_upN (by omega), e]; exact hp
    · exact Rst.congr hR (fun k hk => pushF_old h2 (by omega) hi hk)
theorem HR.pop {nw dp : Nat} {sv : SV} {hf : Nat → Int32} (h : HR nw dp sv hf) (h0 : 0 < dp) (sf : Nat → Int32) : HR (bkI nw) (dp - 1) sv hf ∧ ∃ p, sv nw = some p ∧ RstD p.2 (gtF sf hf (568 * (dp - 1)) 568) := by
  obtain ⟨h1, h2, h3⟩ := h
  refine ⟨⟨by unfold bkI; split <;> omega, by omega, fun i hi => ?_⟩, ?_⟩
  · obtain ⟨p, hp, hR⟩ := h3 (i + 1) (by omega)
    have e : (bkI nw + 5 - i) % 5 = (nw + 5 - (i + 1)) % 5 := by unfold bkI; split <;> omega
    refine ⟨p, by rw [e]; exact hp, ?_⟩
    have e2 : dp - 1 - 1 - i = dp - 1 - (i + 1) := by omega
    rw [e2]
    exact hR
  · obtain ⟨p, hp, hR⟩ := h3 0 h0
    have e : (nw + 5 - 0) % 5 = nw := by omega
    rw [e] at hp
    refine ⟨p, hp, Rst.congr hR (fun k hk => ?_)⟩
    unfold gtF
    rw [if_pos hk, Nat.sub_zero]
theorem HR.clear {nw dp : Nat} {sv : SV} {hf : Nat → Int32} (h : HR nw dp sv hf) : HR nw 0 sv hf := ⟨h.1, by omega, fun i hi => by omega⟩
/-- the two slots -/
def LR (lv : SV) (fg : Nat → Bool) (lf : Nat → Int32) : Prop := ∀ j, j < 2 → (fg j = true → ∃ p, lv j = some p ∧ RstD p.2 (fun k => lf (568 * j + k))) ∧ (fg j = false → lv j = none)
theorem LR.save {lv : SV} {fg : Nat → Bool} {lf sf : Nat → Int32} {b : Nat} {B : SB} {d : SD} (h : LR lv fg lf) (hb : b < 2) (hr : RstD d sf) : LR (va_up lv b (some (B, d))) (va_up fg b true) (putF lf sf (568 * b) 568) := by
  intro j hj
  by_cases e : j = b
  · rw [va_upE e, va_upE e]
    refine ⟨fun _ => ⟨(B, d), rfl, ?_⟩, fun h9 => by cases h9⟩
    refine Rst.congr hr (fun k hk => ?_)
    unfold putF
    rw [if_pos (by omega)]
    exact congrArg sf (by omega)
  · rw [va_upN e, va_upN e]
    refine ⟨fun h9 => ?_, (h j hj).2⟩
    obtain ⟨p, hp, hR⟩ := (h j hj).1 h9
    refine ⟨p, hp, Rst.congr hR (fun k hk => ?_)⟩
    unfold putF
    rw [if_neg (by omega)]
/-- lists of cells in another order -/
def evL (Ls : List va_W) : List Nat → va_W
  | [] => []
  | i :: t => match t with
    | [] => Ls.getD i []
    | _ :: _ => Ls.getD i [] ++ evL Ls t
theorem evL_eq (Ls : List va_W) : ∀ I : List Nat, evL Ls I = I.flatMap (fun i => Ls.getD i [])
  | [] => rfl
  | [i] => by
    show Ls.getD i [] = Ls.getD i [] ++ []
    rw [List.append_nil]
  | i :: j :: t => by
    show Ls.getD i [] ++ evL Ls (j :: t) = Ls.getD i [] ++ (j :: t).flatMap (fun i => Ls.getD i [])
    rw [evL_eq Ls (j :: t)]
theorem pmL (Ls : List va_W) {I J : List Nat} (h : I.Perm J) : (evL Ls I).Perm (evL Ls J) := by
  rw [evL_eq, evL_eq]
  exact List.Perm.flatMap_right _ h
theorem toB {u xw bs bB bs0 R : va_W} (hu : u.Perm (xw ++ (bs ++ R))) (hb : bs.Perm (bB ++ bs0)) : u.Perm (xw ++ (bB ++ (bs0 ++ R))) := by
  refine hu.trans (List.Perm.append_left _ ?_)
  rw [← List.append_assoc]
  exact hb.append_right _
theorem frB {u xw bs bB bs0 R : va_W} (hu : u.Perm (xw ++ (bB ++ (bs0 ++ R)))) (hb : bs.Perm (bB ++ bs0)) : u.Perm (xw ++ (bs ++ R)) := by
  refine hu.trans (List.Perm.append_left _ ?_)
  rw [← List.append_assoc]
  exact hb.symm.append_right _
theorem sw3 (a b c : va_W) : (a ++ (b ++ c)).Perm (b ++ (a ++ c)) := by
  rw [← List.append_assoc, ← List.append_assoc]
  exact List.perm_append_comm.append_right _
theorem toL {u xw bs bl bB bl0 R : va_W} (hu : u.Perm (xw ++ (bs ++ (bl ++ R)))) (hb : bl.Perm (bB ++ bl0)) : u.Perm (xw ++ (bB ++ (bs ++ (bl0 ++ R)))) := by
  refine hu.trans (List.Perm.append_left _ ?_)
  refine ((hb.append_right R).append_left bs).trans ?_
  rw [List.append_assoc bB]
  exact sw3 bs bB (bl0 ++ R)
theorem frL {u xw bs bl bB bl0 R : va_W} (hu : u.Perm (xw ++ (bB ++ (bs ++ (bl0 ++ R))))) (hb : bl.Perm (bB ++ bl0)) : u.Perm (xw ++ (bs ++ (bl ++ R))) := by
  refine hu.trans (List.Perm.append_left _ ?_)
  refine List.Perm.trans ?_ ((hb.symm.append_right R).append_left bs)
  rw [List.append_assoc bB]
  exact sw3 bB bs (bl0 ++ R)
abbrev xW (G : GT) (x0 tx tb pr ps pq pv hh sa sl : Nat) (tf : Nat → Int32) (tn : Nat) (z : CS) (nw dp : Nat) (hv lw : Nat → Option Nat) (h0 sy sm sw mu ma mz mb ex : Nat) (md : Nat → Int64) (wt : Nat → Int32) (n : Nat) (uf : Nat → Int32) (un : Nat) (zf : Nat → Int32) (zn : Nat) (xf : Nat → Int64) (st : Int32) : va_W :=
  [(x0, OB 6 [.ref tx, .ref pr, .ref h0, .ref hh, .ref sl]), (tx, OB 5 [.ref tb, .int (nI tn)]), (tb, AI G 120 tf), (pr, OB 2 [.ref ps, .int z.1.1, .int z.1.2.1, .int z.1.2.2.1, .int z.1.2.2.2.1, .int z.1.2.2.2.2.1, .int z.1.2.2.2.2.2]), (ps, OB 0 [.ref pq, .ref pv, .int (nI z.2.2.2)]), (pq, AJ G 10 z.2.1), (pv, AI G 10 z.2.2.1), (hh, OB 1 [.ref sa, .int (nI nw), .int (nI dp)]), (sa, AQ G 5 hv), (sl, AQ G 2 lw),
   (h0, OB 4 [.ref sy, .ref mu, .ref mz, .ref ex, .int st]), (sy, OB 0 [.ref sm, .ref sw, .int (nI n)]), (sm, AJ G 10 md), (sw, AI G 10 wt), (mu, OB 3 [.ref ma, .int (nI un)]), (ma, AI G 252 uf), (mz, OB 3 [.ref mb, .int (nI zn)]), (mb, AI G 252 zf), (ex, AJ G 16 xf)]
abbrev mW (G : GT) (m0 a1 a2 a3 a5 a6 a7 a14 a16 : Nat) (th : Int32) (ud ln nx ts : Nat) (tk vl er rq : Int32) (sf df hf lf : Nat → Int32) (fg : Nat → Bool) (tf vf : Nat → Int32) (eg : Nat → Bool) : va_W :=
  [(m0, OB 7 [.int th, .ref a1, .ref a2, .ref a3, .int (nI ud), .ref a5, .ref a6, .ref a7, .int (nI ln), .int (nI nx), .int (nI ts), .int tk, .int vl, .int er, .ref a14, .int rq, .ref a16]), (a1, AI G 568 sf), (a2, AI G 64 df), (a3, AI G 2840 hf), (a5, AI G 1136 lf), (a6, AZ G 2 (fun z => bI (fg z))), (a7, AI G 120 tf), (a14, AI G 64 vf), (a16, AZ G 1024 (fun z => bI (eg z)))]
def INV (G : GT) (x0 m0 : Nat) (u : va_W) : Prop := ∃ (tx tb pr ps pq pv hh sa sl : Nat) (tf : Nat → Int32) (tn : Nat) (z : CS) (nw dp : Nat) (hv lw : Nat → Option Nat) (h0 sy sm sw mu ma mz mb ex : Nat) (md : Nat → Int64) (wt : Nat → Int32) (n : Nat) (uf : Nat → Int32) (un : Nat) (zf : Nat → Int32) (zn : Nat) (xf : Nat → Int64) (st : Int32) (sv lv : SV)
  (a1 a2 a3 a5 a6 a7 a14 a16 : Nat) (th : Int32) (ud nx ts : Nat) (tk vl er rq : Int32) (sf df hf lf : Nat → Int32) (fg : Nat → Bool) (vf : Nat → Int32) (eg : Nat → Bool) (gd : va_W),
  u.Perm (xW G x0 tx tb pr ps pq pv hh sa sl tf tn z nw dp hv lw h0 sy sm sw mu ma mz mb ex md wt n uf un zf zn xf st ++ (blks G sv 5 ++ (blks G lv 2 ++ (mW G m0 a1 a2 a3 a5 a6 a7 a14 a16 th ud tn nx ts tk vl er rq sf df hf lf fg tf vf eg ++ gd)))) ∧
  hv = hvO sv ∧ lw = hvO lv ∧ ud = dp ∧ Rst md wt n uf un zf zn xf st sf ∧ HR nw dp sv hf ∧ LR lv fg lf ∧ tn ≤ 120 ∧ ∀ k, ¬ tf k < 0
theorem INV.mk {G : GT} {x0 m0 : Nat} {u : va_W} (tx tb pr ps pq pv hh sa sl : Nat) (tf : Nat → Int32) (tn : Nat) (z : CS) (nw dp : Nat) (hv lw : Nat → Option Nat) (h0 sy sm sw mu ma mz mb ex : Nat) (md : Nat → Int64) (wt : Nat → Int32) (n : Nat) (uf : Nat → Int32) (un : Nat) (zf : Nat → Int32) (zn : Nat) (xf : Nat → Int64) (st : Int32) (sv lv : SV)
  (a1 a2 a3 a5 a6 a7 a14 a16 : Nat) (th : Int32) (ud nx ts : Nat) (tk vl er rq : Int32) (sf df hf lf : Nat → Int32) (fg : Nat → Bool) (vf : Nat → Int32) (eg : Nat → Bool) (gd : va_W)
  (h : u.Perm (xW G x0 tx tb pr ps pq pv hh sa sl tf tn z nw dp hv lw h0 sy sm sw mu ma mz mb ex md wt n uf un zf zn xf st ++ (blks G sv 5 ++ (blks G lv 2 ++ (mW G m0 a1 a2 a3 a5 a6 a7 a14 a16 th ud tn nx ts tk vl er rq sf df hf lf fg tf vf eg ++ gd)))))
  (e1 : hv = hvO sv) (e2 : lw = hvO lv) (e3 : ud = dp) (hR : Rst md wt n uf un zf zn xf st sf) (hH : HR nw dp sv hf) (hL : LR lv fg lf) (ht : tn ≤ 120) (hf0 : ∀ k, ¬ tf k < 0) : INV G x0 m0 u :=
  ⟨tx, tb, pr, ps, pq, pv, hh, sa, sl, tf, tn, z, nw, dp, hv, lw, h0, sy, sm, sw, mu, ma, mz, mb, ex, md, wt, n, uf, un, zf, zn, xf, st, sv, lv, a1, a2, a3, a5, a6, a7, a14, a16, th, ud, nx, ts, tk, vl, er, rq, sf, df, hf, lf, fg, vf, eg, gd, h, e1, e2, e3, hR, hH, hL, ht, hf0⟩
theorem INV.cell {G : GT} {x0 m0 : Nat} {u : va_W} (h : INV G x0 m0 u) : ∃ fs, (x0, OB 6 fs) ∈ u := by
  obtain ⟨tx, tb, pr, ps, pq, pv, hh, sa, sl, tf, tn, z, nw, dp, hv, lw, h0, sy, sm, sw, mu, ma, mz, mb, ex, md, wt, n, uf, un, zf, zn, xf, st, sv, lv, a1, a2, a3, a5, a6, a7, a14, a16, th, ud, nx, ts, tk, vl, er, rq, sf, df, hf, lf, fg, vf, eg, gd, h, -⟩ := h
  exact ⟨_, h.mem_iff.mpr (List.mem_append_left _ List.mem_cons_self)⟩
/-- one call of the class and the same call of the model -/
def okR (rm : Room) : Prop := rm.frames ≤ 8 ∧ rm.locals ≤ 179 ∧ rm.cells ≤ 9 ∧ rm.slots ≤ 552
def CX (l : Launch) (y : MethodName) (wy : List Cond) (G : GT) (av : List Value) (ws : va_W) (post : Int32 → va_W → Prop) : Prop := ∃ rm : Room, okR rm ∧ Ci l y wy rm G av ws post
def STEP (l : Launch) (G : GT) (x0 m0 : Nat) (y : MethodName) (wy : List Cond) (y' : MethodName) (wy' : List Cond) (as : List Value) (u : va_W) : Prop :=
  CX l y wy G (.ref x0 :: as) u (fun r u1 => (∃ fs, (m0, OB 7 fs) ∈ u1) ∧ CX l y' wy' G (.ref m0 :: as) u1 (fun r' u2 => r' = r ∧ INV G x0 m0 u2))
theorem STEP.of {l : Launch} {G : GT} {x0 m0 : Nat} {y : MethodName} {wy : List Cond} {y' : MethodName} {wy' : List Cond} {as : List Value} {u ws cM cM' tl : va_W} {rmX rmM : Room} {postX : Int32 → va_W → Prop} {rM : Int32} {fs : List Value}
    (cX : Ci l y wy rmX G (.ref x0 :: as) ws postX) (hrX : okR rmX) (cN : Ci l y' wy' rmM G (.ref m0 :: as) cM (fun r v => r = rM ∧ v = cM')) (hrM : okR rmM) (hm : (m0, OB 7 fs) ∈ cM) (hu : u.Perm (ws ++ (cM ++ tl)))
    (hpost : ∀ r u0, postX r u0 → r = rM ∧ INV G x0 m0 (u0 ++ (cM' ++ tl))) : STEP l G x0 m0 y wy y' wy' as u := by
  have swap : ∀ a b c : va_W, (a ++ (b ++ c)).Perm (b ++ (a ++ c)) := fun a b c => by
    rw [← List.append_assoc, ← List.append_assoc]
    exact List.perm_append_comm.append_right _
  refine ⟨rmX, hrX, Ci.fp cX hu (fun r u0 h => ?_)⟩
  obtain ⟨hr, hI⟩ := hpost r u0 h
  refine ⟨u0 ++ (cM ++ tl), List.Perm.refl _, ⟨fs, List.mem_append_right _ (List.mem_append_left _ hm)⟩, rmM, hrM, Ci.fp cN (swap u0 cM tl) (fun r' v hv => ?_)⟩
  obtain ⟨h1, h2⟩ := hv
  subst h2
  exact ⟨u0 ++ (v ++ tl), swap u0 v tl, by rw [h1, hr], hI⟩
/-- arguments -/
theorem nI_toIntN {k : Nat} (h : k < 2 ^ 31) : (nI k).toInt = (k : Int) := by
  have h1 : nI k = Int32.ofNat k := rfl
  rw [h1, Int32.toInt_ofNat_of_lt (by omega)]
theorem of_toInt {x : Int32} {k : Nat} (hk : k < 2 ^ 31) (h : x.toInt = (k : Int)) : x = nI k := Int32.toInt_inj.mp (by rw [h, nI_toIntN hk])
theorem inR_t {x : Int32} {b : Nat} (hb : b < 1000) (h : inR x 0 (nI b) = true) : ∃ j, j ≤ b ∧ x = nI j := by
  unfold inR at h
  rw [Bool.and_eq_true, Bool.not_eq_true', Bool.not_eq_true', decide_eq_false_iff_not, decide_eq_false_iff_not, Int32.lt_iff_toInt_lt, Int32.lt_iff_toInt_lt, nI_toIntN (by omega)] at h
  have h0 : ((0 : Int32).toInt) = 0 := rfl
  rw [h0] at h
  exact ⟨x.toInt.toNat, by omega, of_toInt (by omega) (by omega)⟩
theorem inR_01 {x : Int32} (h : inR x 0 1 = true) : ∃ b, b < 2 ∧ x = nI b := by
  obtain ⟨j, hj, e⟩ := inR_t (b := 1) (by omega) h
  exact ⟨j, by omega, e⟩
theorem inR_b {x : Int32} (h : inR x 0 1 = true) : ∃ b : Bool, x = bI b := by
  obtain ⟨j, hj, e⟩ := inR_01 h
  rcases (show j = 0 ∨ j = 1 by omega) with rfl | rfl
  · exact ⟨false, e⟩
  · exact ⟨true, e⟩
theorem inR_x {x : Int32} (h : inR x 0 1 = true) : x = 0 ∨ x = 1 := by
  obtain ⟨j, hj, e⟩ := inR_01 h
  rcases (show j = 0 ∨ j = 1 by omega) with rfl | rfl
  · exact Or.inl e
  · exact Or.inr e
theorem inR_63 {x : Int32} (h : inR x 0 63 = true) : ∃ a, a < 64 ∧ x = nI a := by
  obtain ⟨j, hj, e⟩ := inR_t (b := 63) (by omega) h
  exact ⟨j, by omega, e⟩
