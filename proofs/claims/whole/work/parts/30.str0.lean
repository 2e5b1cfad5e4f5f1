/-! String's own methods over the five words -/
theorem call_Ti {p : Program} {l : Launch} {e : Env} {R : Room} {s : State} {m : MethodId} {args : Array Value} {below : List Frame} {meth : Method} {c : Code} {H : Heap} {locs : List Loc} {cells slots : Nat} {Q : State → Prop} {cc : ByteArray} {pc : Nat} {ls : Array Slot} {rest : List Value} {G : GT} {A : Nat → Prop} {ws : va_W}
    {y : MethodName} {bytes : ByteArray} {maxL nL n index : Nat} {ret : Option FieldType} {wy Ts : List Cond} {rm : Room} {own : String} {As st : List Value} {post : Int32 → va_W → Prop} {c1 s1 i : Nat}
    (fix : CallFix p m c cc nL s args Ts own) (C0 : Ci l y wy rm G (.ref (G.2.2.2.2.2.1 i) :: As) [] post) (cw : CallW R s args own RJ0 index y bytes maxL ret wy rm rm.cells rm.slots n) (hK : KK G s) (hN : NN s) (hSS : SS G.2.2.2.2.2 A s s.heap) (hP : va_P G.1 vwCl ws H) (hD : va_D A ws) (hS : va_S A s.heap H locs) (hA : ∀ q : Nat, s.heap.size ≤ q → A q)
    (i9 : Nat) (hi : i < 5)
    (hn : As.length = n) (hsize : ls.size = nL) (hst : st = As.reverse ++ .ref (G.2.2.2.2.2.1 i) :: rest) (hW : (rest.map fun v => v.category).sum ≤ 8) (hdg : decode cc pc = .ok (.invokevirtual index, 3)) (hf : c1 ≤ R.cells ∧ s1 ≤ R.slots) (hc1 : cells + rm.cells = c1) (hs1 : slots + rm.slots = s1)
    (kk : ∀ (r : Int32) (u : va_W) (H1 : Heap) (locs1 : List Loc), post r u → va_P G.1 vwCl (u ++ ws) H1 → va_D A (u ++ ws) → va_S A s.heap H1 locs1 → W p l e R s m args below meth c H1 locs1 c1 s1 Q (F0 m (pc + 3) ls (.int r :: rest))) : W p l e R s m args below meth c H locs cells slots Q (F0 m pc ls st) := by
  subst hc1 hs1 hst
  have C1 : Ci l y wy rm G (.ref (G.2.2.2.2.2.1 i) :: As) ws (fun r u => ∃ u0, post r u0 ∧ u = u0 ++ ws) := C0.fp (tl := ws) (List.Perm.refl _) (fun r u0 h => ⟨u0 ++ ws, List.Perm.refl _, u0, h, rfl⟩)
  have hFc : ∀ q, va_A ws H.size q → A q := by
    intro q hq
    rcases va_A_iff.mp hq with ⟨e, he⟩ | he
    · exact (va_D_iff.mp hD).2 _ he
    · exact hA q (Nat.le_trans hS.1 he)
  refine va_calli (va_runV (rest := rest) fix (C1 H.size) cw ⟨PreC.blind, vk_recv hSS.1 hi hS, fun U hU hW => ⟨rfl, by rw [hU], by rw [hU]; exact hP, va_K.moved hW.alike hK, hN.warm hW, by rw [hU]; exact ((hSS.kept hS.2.1).narrow hFc).warm hW, hD.weaken (fun _ _ _ _ => trivial)⟩⟩ rfl hn hsize rfl (lv_room hW) hdg hf) hS (fun q _ h => hFc q h) hFc (fun r u t H1 locs1 ht hvm hw hB hz1 hk1 hS9 => ?_)
  obtain ⟨hP1, hD1⟩ := hB
  rw [ht] at hP1
  obtain ⟨u0, h1, rfl⟩ := hw
  exact kk r u0 H1 locs1 h1 hP1 (hD1.weaken (fun k q _ h => hFc q.1 h)) hS9
def lnS (i : Nat) : Nat := lenS.getD i 0
def chS (i k : Nat) : Int32 := (bytS.getD i []).getD k 0
theorem lnS_5 : ∀ i, i < 5 → lnS i ≤ 4 := by decide
theorem lnS_sh : ∀ i, i < 5 → nI (lnS i) >>> ((0 : Int32) &&& 31) = nI (lnS i) := by decide +kernel
theorem chS_c : ∀ i, i < 5 → ∀ k, k < 5 → ((chS i k &&& 255).toUInt32 % 65536).toInt32 = chS i k := by decide +kernel
theorem chS_n : ∀ i, i < 5 → ∀ k, k < 5 → narrow .char (.int (chS i k)) = .int (chS i k) := by decide +kernel
def splB (f : Nat → Int32) (ln st la i : Nat) : Bool := decide (la - st + 1 = lnS i) && allU (fun k => getF f ln (nI (st + k)) == chS i k) 0 (lnS i)
def wrdC (f : Nat → Int32) (ln st la : Nat) : Int32 := if splB f ln st la 0 = true then 12 else if splB f ln st la 1 = true then 13 else if splB f ln st la 2 = true then 14 else if splB f ln st la 3 = true then 15 else if splB f ln st la 4 = true then 16 else 17
def tokC (f : Nat → Int32) (ln st la : Nat) : Int32 :=
  if letB (getF f ln (nI st)) = true then wrdC f ln st la
  else if ¬ getF f ln (nI st) < 48 ∧ ¬ 57 < getF f ln (nI st) then getF f ln (nI st) - 48
  else if getF f ln (nI st) = 45 then 10 else if getF f ln (nI st) = 59 then 11 else 17
/-- the class's reader from a place on -/
def prsL (f : Nat → Int32) (ln la st : Nat) (z : CS) : Nat → Int32 × CS
  | 0 => (if z.1.1 = 0 then -9 else nI ln, z)
  | k + 1 =>
    if letB (getF f ln (nI la)) = true ∧ letB (getF f ln (nI (la + 1))) = true then prsL f ln (la + 1) st z k
    else if getF f ln (nI la) = 32 then prsL f ln (la + 1) (la + 1) z k
    else if (acA (tokC f ln st la) z).1 = true then prsL f ln (la + 1) (la + 1) (acA (tokC f ln st la) z).2 k
    else (nI st, (acA (tokC f ln st la) z).2)
def okZ (z : CS) : Prop := z.2.2.2 ≤ 10 ∧ (z.1.1 ≠ 0 → z.2.2.2 < 10)
theorem acV_n (tk : Int32) (ng : Bool) (z : CS) : (acV tk ng z).2.2 = z.2 := by
  unfold acV
  split
  · rfl
  · split
    · rfl
    · split <;> rfl
theorem acA_ok {tk : Int32} {z : CS} (h : okZ z) : okZ (acA tk z).2 := by
  have hV : ∀ ng, z.2.2.2 < 10 → okZ (acV tk ng z).2 := by
    intro ng hn
    have e := acV_n tk ng z
    refine ⟨?_, fun _ => ?_⟩ <;> rw [show (acV tk ng z).2.2.2.2 = z.2.2.2 by rw [e]] <;> omega
  have hL : z.2.2.2 < 10 → okZ (acL tk z).2 := by
    intro hn
    unfold acL
    split
    · exact ⟨by dsimp only; omega, fun _ => hn⟩
    · exact hV false hn
  have hK : ∀ w : CS, w.2 = z.2 → z.2.2.2 < 10 → okZ (acK tk w).2 := by
    intro w hw hn
    unfold acK
    split
    · exact ⟨by dsimp only; rw [hw]; omega, fun _ => by dsimp only; rw [hw]; exact hn⟩
    · exact ⟨by dsimp only; rw [hw]; omega, fun _ => by dsimp only; rw [hw]; exact hn⟩
  have hE : z.2.2.2 < 10 → okZ (acE tk z).2 := by
    intro hn
    unfold acE
    split
    · exact ⟨by dsimp only; omega, fun h9 => absurd rfl h9⟩
    · exact ⟨by dsimp only; omega, fun _ => hn⟩
  unfold acA
  split
  · unfold acC
    split
    · exact h
    · split
      · exact ⟨by dsimp only; omega, fun _ => by dsimp only; omega⟩
      · exact hK _ rfl (by omega)
  · rename_i h0
    have hn := h.2 h0
    split
    · exact hK z rfl hn
    · split
      · unfold acB
        split
        · exact h
        · exact ⟨by dsimp only; omega, fun _ => hn⟩
      · split
        · exact hL hn
        · split
          · exact hV true hn
          · split
            · unfold acR
              split
              · exact hE hn
              · split
                · exact ⟨by dsimp only; omega, fun _ => hn⟩
                · exact hL hn
            · split
              · unfold acW
                split
                · exact h
                · exact ⟨by dsimp only; omega, fun _ => hn⟩
              · exact hE hn
