/-! worlds as sets of cells; contracts under more cells and in another order -/
theorem va_P_iff {D : va_G} {cl : List vw_C} {ws : va_W} {H : Heap} : va_P D cl ws H ↔ ∀ q ∈ ws, va_at D cl q H := by
  constructor
  · intro h q hq
    obtain ⟨k, hk⟩ := List.getElem?_of_mem hq
    exact h k q hk
  · intro h k q hk
    exact h q (List.mem_of_getElem? hk)
theorem va_D_iff {A : Nat → Prop} {ws : va_W} : va_D A ws ↔ (ws.map (fun q => q.1)).Nodup ∧ ∀ q ∈ ws, A q.1 := by
  constructor
  · intro h
    refine ⟨?_, fun q hq => ?_⟩
    · unfold List.Nodup
      rw [List.pairwise_iff_getElem]
      intro i j hi hj hij he
      rw [List.length_map] at hi hj
      rw [List.getElem_map, List.getElem_map] at he
      have := h.1 i j ws[i] ws[j] (List.getElem?_eq_getElem hi) (List.getElem?_eq_getElem hj) he
      omega
    · obtain ⟨k, hk⟩ := List.getElem?_of_mem hq
      exact h.2 k q hk
  · intro h
    refine ⟨fun i j p q hp hq he => ?_, fun k q hk => h.2 q (List.mem_of_getElem? hk)⟩
    have hn := List.pairwise_iff_getElem.mp h.1
    obtain ⟨hi, hi2⟩ := List.getElem?_eq_some_iff.mp hp
    obtain ⟨hj, hj2⟩ := List.getElem?_eq_some_iff.mp hq
    have hi' : i < (ws.map (fun q => q.1)).length := by rw [List.length_map]; exact hi
    have hj' : j < (ws.map (fun q => q.1)).length := by rw [List.length_map]; exact hj
    have e : (ws.map (fun q => q.1))[i] = (ws.map (fun q => q.1))[j] := by rw [List.getElem_map, List.getElem_map, hi2, hj2]; exact he
    rcases Nat.lt_trichotomy i j with h1 | h1 | h1
    · exact absurd e (hn i j hi' hj' h1)
    · exact h1
    · exact absurd e.symm (hn j i hj' hi' h1)
theorem va_A_iff {ws : va_W} {sz q : Nat} : va_A ws sz q ↔ (∃ e : va_E, (q, e) ∈ ws) ∨ sz ≤ q := by
  unfold va_A
  constructor
  · rintro (⟨k, e, h⟩ | h)
    · exact Or.inl ⟨e, List.mem_of_getElem? h⟩
    · exact Or.inr h
  · rintro (⟨e, h⟩ | h)
    · obtain ⟨k, hk⟩ := List.getElem?_of_mem h
      exact Or.inl ⟨k, e, hk⟩
    · exact Or.inr h
theorem va_P.perm {D : va_G} {cl : List vw_C} {ws ws' : va_W} {H : Heap} (hp : ws'.Perm ws) (h : va_P D cl ws H) : va_P D cl ws' H := va_P_iff.mpr fun q hq => va_P_iff.mp h q (hp.mem_iff.mp hq)
theorem va_D.perm {A : Nat → Prop} {ws ws' : va_W} (hp : ws'.Perm ws) (h : va_D A ws) : va_D A ws' := by
  have h2 := va_D_iff.mp h
  exact va_D_iff.mpr ⟨((hp.map _).nodup_iff).mpr h2.1, fun q hq => h2.2 q (hp.mem_iff.mp hq)⟩
theorem Met.mono {l : Launch} {y : MethodName} {wy : List Cond} {rm : Room} {P P' : Array Value → State → Prop} {Q Q' : Array Value → State → Outcome → State → Prop} {mc ms : Nat} {free free' : Addr → Prop} (h : Met l y wy rm P Q mc ms free) (hP : ∀ a s, P' a s → P a s) (hQ : ∀ a s o t, P' a s → Q a s o t → Q' a s o t) (hf : ∀ q, free q → free' q) : Met l y wy rm P' Q' mc ms free' := by
  intro p e h1 h2 h3 s m args below hf1 ha hp hk
  obtain ⟨n, o, a, b, c, q, L, hL, hL2⟩ := h p e h1 h2 h3 s m args below hf1 ha (hP _ _ hp) trivial
  exact ⟨n, o, a, b, c, hQ _ _ _ _ hp q, L, hL, fun q hq => hf _ (hL2 q hq)⟩
theorem Ci.fp {l : Launch} {y : MethodName} {wy : List Cond} {rm : Room} {G : GT} {av : List Value} {ws ws' tl : va_W} {post post' : Int32 → va_W → Prop} (h : Ci l y wy rm G av ws post) (hw : ws'.Perm (ws ++ tl)) (hp : ∀ r u0, post r u0 → ∃ u' : va_W, u'.Perm (u0 ++ tl) ∧ post' r u') : Ci l y wy rm G av ws' post' := by
  intro sz
  have hsub : ∀ q, va_A ws sz q → va_A ws' sz q := by
    intro q hq
    rcases va_A_iff.mp hq with ⟨e, he⟩ | he
    · exact va_A_iff.mpr (Or.inl ⟨e, hw.mem_iff.mpr (List.mem_append_left _ he)⟩)
    · exact va_A_iff.mpr (Or.inr he)
  refine Met.mono (h sz) ?_ ?_ hsub
  · intro a s q
    obtain ⟨q0, q1, qP, qK, qN, qS, qD⟩ := q
    have h1 := va_P.perm hw.symm qP
    have h2 := va_D.perm hw.symm qD
    refine ⟨q0, q1, va_P_iff.mpr fun q hq => va_P_iff.mp h1 q (List.mem_append_left _ hq), qK, qN, qS.narrow hsub, ?_⟩
    have h3 := va_D_iff.mp h2
    refine va_D_iff.mpr ⟨?_, fun _ _ => trivial⟩
    rw [List.map_append] at h3
    exact (List.nodup_append.mp h3.1).1
  · intro a s o t q hq
    obtain ⟨q0, q1, qP, qK, qN, qS, qD⟩ := q
    obtain ⟨⟨r, u0, ho, hpo, hBP, hBD⟩, hF⟩ := hq
    obtain ⟨u', hu, hpo'⟩ := hp r u0 hpo
    have h1 := va_P_iff.mp (va_P.perm hw.symm qP)
    have h2 := va_D_iff.mp (va_D.perm hw.symm qD)
    rw [List.map_append] at h2
    have hdis := (List.nodup_append.mp h2.1).2.2
    have hno : ∀ x ∈ tl, ¬ va_A ws sz x.1 := by
      intro x hx hA
      have hlt : x.1 < s.heap.size := (h1 x (List.mem_append_right _ hx)).lt
      rcases va_A_iff.mp hA with ⟨e, he⟩ | he
      · exact hdis x.1 (List.mem_map.mpr ⟨(x.1, e), he, rfl⟩) x.1 (List.mem_map.mpr ⟨x, hx, rfl⟩) rfl
      · omega
    have htl : ∀ x ∈ tl, va_at G.1 vwCl x t.heap := by
      intro x hx
      have hat := h1 x (List.mem_append_right _ hx)
      exact hat.kept (hF.2 x.1 hat.lt (hno x hx))
    refine ⟨⟨r, u', ho, hpo', ?_, ?_⟩, ⟨hF.1, fun q hq1 hq2 => hF.2 q hq1 (fun hh => hq2 (hsub q hh))⟩⟩
    · refine va_P.perm hu (va_P_iff.mpr fun x hx => ?_)
      rcases List.mem_append.mp hx with hx | hx
      · exact va_P_iff.mp hBP x hx
      · exact htl x hx
    · refine va_D.perm hu (va_D_iff.mpr ⟨?_, fun x hx => ?_⟩)
      · rw [List.map_append, List.nodup_append]
        refine ⟨(va_D_iff.mp hBD).1, (List.nodup_append.mp h2.1).2.1, ?_⟩
        intro a ha b hb hab
        obtain ⟨x, hx, rfl⟩ := List.mem_map.mp ha
        obtain ⟨z, hz, rfl⟩ := List.mem_map.mp hb
        exact hno z hz (by rw [← hab]; exact (va_D_iff.mp hBD).2 x hx)
      · rcases List.mem_append.mp hx with hx | hx
        · exact hsub _ ((va_D_iff.mp hBD).2 x hx)
        · exact va_A_iff.mpr (Or.inl ⟨x.2, hw.mem_iff.mpr (List.mem_append_right _ hx)⟩)
section ROWS2
variable {p : Program} {l : Launch} {e : Env} {R : Room} {s : State} {m : MethodId} {args : Array Value} {below : List Frame} {meth : Method} {c : Code} {H : Heap} {locs : List Loc} {cells slots : Nat} {Q : State → Prop}
variable {cc : ByteArray} {pc : Nat} {ls : Array Slot} {rest : List Value} {G : GT} {A : Nat → Prop} {ws : va_W}
theorem wa_astqN (hexec : p.tables.exec = Jvm.exec) (hb : c.code = cc) (hK : KK G s) (hP : va_P G.1 vwCl ws H) (hD : va_D A ws) (hS : va_S A s.heap H locs) (q0 : Nat) {a n : Nat} {f : Nat → Option Nat} (ha : ws[q0]? = some (a, AQ G n f)) {i : Int32} (j : Nat) (hi : i = nI j) (hj : j < n) (hn : n < 2 ^ 31) (hdg : decode cc pc = .ok (.aastore, 1)) (k : ∀ (H1 : Heap) (locs1 : List Loc), va_P G.1 vwCl (ws.set q0 (a, AQ G n (va_up f j none))) H1 → va_D A (ws.set q0 (a, AQ G n (va_up f j none))) → va_S A s.heap H1 locs1 → W p l e R s m args below meth c H1 locs1 cells slots Q (F0 m (pc + 1) ls rest)) : W p l e R s m args below meth c H locs cells slots Q (F0 m pc ls (.null :: .int i :: .ref a :: rest)) := by
  subst hi
  refine va_astqN hexec hb hK hP hD hS q0 3 (C := RX4) ha rfl (vp_in_nI hj hn) hdg ?_
  rw [nI_clamp (by omega)]
  exact k
/-- a call that takes the whole world with it -/
theorem callA_Vi {y : MethodName} {bytes : ByteArray} {maxL nL n index : Nat} {ret : Option FieldType} {wy Ts : List Cond} {rm : Room} {own C : String} {b : Nat} {As st : List Value} {post : Int32 → va_W → Prop} {c1 s1 : Nat}
    (fix : CallFix p m c cc nL s args Ts own) (C0 : Ci l y wy rm G (.ref b :: As) ws post) (cw : CallW R s args own C index y bytes maxL ret wy rm rm.cells rm.slots n) (hK : KK G s) (hN : NN s) (hSS : SS G.2.2.2.2.2 A s s.heap) (hP : va_P G.1 vwCl ws H) (hD : va_D A ws) (hS : va_S A s.heap H locs) (hA : ∀ q : Nat, s.heap.size ≤ q → A q)
    (ci : Nat) {fs : List Value} {r0 : vw_C} (he : (b, (.inr (ci, fs) : va_E)) ∈ ws) (hc : vwCl[ci]? = some r0) (hC0 : r0.1 = C)
    (hn : As.length = n) (hsize : ls.size = nL) (hst : st = As.reverse ++ .ref b :: rest) (hW : (rest.map fun v => v.category).sum ≤ 8) (hdg : decode cc pc = .ok (.invokevirtual index, 3)) (hf : c1 ≤ R.cells ∧ s1 ≤ R.slots) (hc1 : cells + rm.cells = c1) (hs1 : slots + rm.slots = s1)
    (kk : ∀ (r : Int32) (u : va_W) (H1 : Heap) (locs1 : List Loc), post r u → va_P G.1 vwCl u H1 → va_D A u → va_S A s.heap H1 locs1 → W p l e R s m args below meth c H1 locs1 c1 s1 Q (F0 m (pc + 3) ls (.int r :: rest))) : W p l e R s m args below meth c H locs cells slots Q (F0 m pc ls st) := by
  subst hc1 hs1 hst
  have hFc : ∀ q, va_A ws H.size q → A q := by
    intro q hq
    rcases va_A_iff.mp hq with ⟨e, he⟩ | he
    · exact (va_D_iff.mp hD).2 _ he
    · exact hA q (Nat.le_trans hS.1 he)
  obtain ⟨q0, hq0⟩ := List.getElem?_of_mem he
  refine va_calli (va_runV (rest := rest) fix (C0 H.size) cw ⟨PreC.blind, by have h9 := va_recv hK hP hc hq0; rw [hC0] at h9; exact h9, fun U hU hW => ⟨rfl, by rw [hU], by rw [hU]; exact hP, va_K.moved hW.alike hK, hN.warm hW, by rw [hU]; exact ((hSS.kept hS.2.1).narrow hFc).warm hW, hD.weaken (fun _ _ _ _ => trivial)⟩⟩ rfl hn hsize rfl (lv_room hW) hdg hf) hS (fun q _ h => hFc q h) hFc (fun r u t H1 locs1 ht hvm hw hB hz1 hk1 hS9 => ?_)
  obtain ⟨hP1, hD1⟩ := hB
  rw [ht] at hP1
  exact kk r u H1 locs1 hw hP1 (hD1.weaken (fun k q _ h => hFc q.1 h)) hS9
end ROWS2
theorem lt_s32 {x a b : Int32} (h : b.toInt = a.toInt + 1) (hx : x < b) : ¬ a < x := by
  rw [Int32.lt_iff_toInt_lt] at hx ⊢
  omega
