abbrev vwCl : List vw_C := [(RX0, TX0, 3), (RX1, TX1, 3), (RX2, TX2, 7), (RX3, TX3, 2), (RX4, TX4, 5), (RX5, TX5, 2), (RX6, TX6, 5), (RX7, TX7, 17)]
/-! OUR OWN WORDS: the picture of the classes, contracts, calls -/
abbrev GT : Type := va_G × ClassId × ClassId × ClassId × ClassId × (Nat → Nat) × (Nat → Nat)
abbrev tysG (G : GT) : List (ClassId × FieldType) := [(G.2.1, .int), (G.2.2.1, .long), (G.2.2.2.1, .boolean), (G.2.2.2.2.1, .object RX4)]
abbrev KK (G : GT) (U : State) : Prop := va_K G.1 vwCl (tysG G) U
abbrev AI (G : GT) (n : Nat) (f : Nat → Int32) : va_E := .inl (G.2.1, n, .inl f)
abbrev AJ (G : GT) (n : Nat) (f : Nat → Int64) : va_E := .inl (G.2.2.1, n, .inr (.inl f))
abbrev AZ (G : GT) (n : Nat) (f : Nat → Int32) : va_E := .inl (G.2.2.2.1, n, .inl f)
abbrev AQ (G : GT) (n : Nat) (f : Nat → Option Nat) : va_E := .inl (G.2.2.2.2.1, n, .inr (.inr (.inr (.inr f))))
abbrev OB (ci : Nat) (fs : List Value) : va_E := .inr (ci, fs)
/-- the private makers that nest mates call, and the rows of states -/
def NN (U : State) : Prop :=
  va_Nw (.methodLinkNest RX6 11 yX5_init "ConflictEnumerator") U ∧ va_Nw (.methodLinkNest RX6 18 yX2_init "ConflictEnumerator") U ∧ va_Nw (.methodLinkNest RX6 25 yX4_init "ConflictEnumerator") U ∧ va_Nw (.methodLinkNest RX6 32 yX1_init "ConflictEnumerator") U ∧
  va_Nw (.methodLinkNest RX2 11 yX0_init "ConflictEnumerator") U ∧ va_Nw (.methodLinkNest RX4 11 yX0_init "ConflictEnumerator") U ∧ va_Nw (.methodLinkNest RX4 20 yX3_init "ConflictEnumerator") U ∧ va_Nw (.methodLinkNest RX1 24 yX4_init "ConflictEnumerator") U ∧ va_AO RX4 U
theorem NN.warm {s U : State} (hW : s.WarmedH U.vm) (h : NN s) : NN U := by
  obtain ⟨h1, h2, h3, h4, h5, h6, h7, h8, h9⟩ := h
  exact ⟨h1.warmM hW, h2.warmM hW, h3.warmM hW, h4.warmM hW, h5.warmM hW, h6.warmM hW, h7.warmM hW, h8.warmM hW, h9.moved hW.alike⟩
theorem NN.call {U : State} {g : JFrame} {mk : MethodId} {a : Array Value} (h : NN U) : NN (U.calling g mk a) := by
  obtain ⟨h1, h2, h3, h4, h5, h6, h7, h8, h9⟩ := h
  exact ⟨h1.same rfl rfl, h2.same rfl rfl, h3.same rfl rfl, h4.same rfl rfl, h5.same rfl rfl, h6.same rfl rfl, h7.same rfl rfl, h8.same rfl rfl, h9.moved (Vm.Alike.refl U.vm)⟩
/-- the five words as String constants of the reader, and the statics that String asks -/
def lenS : List Nat := [2, 3, 4, 4, 1]
def bytS : List (List Int32) := [[111, 114], [120, 111, 114], [109, 111, 115, 116], [104, 97, 114, 100], [119]]
def SS (g : (Nat → Nat) × (Nat → Nat)) (A : Nat → Prop) (U : State) (H : Heap) : Prop :=
  vk_S 5 lenS bytS g.1 g.2 A U H ∧ (vk_R RX2 49 "or" (g.1 0) U ∧ vk_R RX2 55 "xor" (g.1 1) U ∧ vk_R RX2 57 "most" (g.1 2) U ∧ vk_R RX2 59 "hard" (g.1 3) U ∧ vk_R RX2 61 "w" (g.1 4) U) ∧
  va_Z "java/lang/String" "COMPACT_STRINGS" "Z" (.int 1) A U H ∧ va_Zq "jdk/internal/util/Preconditions" "SIOOBE_FORMATTER" "Ljava/util/function/BiFunction;" A U H
theorem SS.kept {g : (Nat → Nat) × (Nat → Nat)} {A : Nat → Prop} {U : State} {H H1 : Heap} (h : SS g A U H) (hq : ∀ a : Nat, a < H.size → ¬ A a → H1[a]? = H[a]?) : SS g A U H1 := ⟨h.1.kept hq, h.2.1, h.2.2.1.kept hq, h.2.2.2.kept hq⟩
theorem SS.narrow {g : (Nat → Nat) × (Nat → Nat)} {A B : Nat → Prop} {U : State} {H : Heap} (h : SS g A U H) (hAB : ∀ q, B q → A q) : SS g B U H := ⟨h.1.narrow hAB, h.2.1, h.2.2.1.narrow hAB, h.2.2.2.narrow hAB⟩
theorem SS.warm {g : (Nat → Nat) × (Nat → Nat)} {A : Nat → Prop} {s U : State} {H : Heap} (hW : s.WarmedH U.vm) (h : SS g A s H) : SS g A U H :=
  ⟨vk_S.moved hW.alike h.1, ⟨h.2.1.1.warm hW, h.2.1.2.1.warm hW, h.2.1.2.2.1.warm hW, h.2.1.2.2.2.1.warm hW, h.2.1.2.2.2.2.warm hW⟩, va_Z.moved hW.alike h.2.2.1, va_Zq.moved hW.alike h.2.2.2⟩
theorem SS.call {g : (Nat → Nat) × (Nat → Nat)} {A : Nat → Prop} {U : State} {H : Heap} {f : JFrame} {mk : MethodId} {a : Array Value} (h : SS g A U H) : SS g A (U.calling f mk a) H :=
  ⟨vk_S.moved (u := U) (Vm.Alike.refl U.vm) h.1, ⟨h.2.1.1.same rfl, h.2.1.2.1.same rfl, h.2.1.2.2.1.same rfl, h.2.1.2.2.2.1.same rfl, h.2.1.2.2.2.2.same rfl⟩, va_Z.moved (u := U) (Vm.Alike.refl U.vm) h.2.2.1, va_Zq.moved (u := U) (Vm.Alike.refl U.vm) h.2.2.2⟩
def PreC (G : GT) (sz : Nat) (av : List Value) (ws : va_W) : Array Value → State → Prop := va_Pc av (fun U => U.heap.size = sz ∧ va_P G.1 vwCl ws U.heap ∧ KK G U ∧ NN U ∧ SS G.2.2.2.2.2 (va_A ws sz) U U.heap ∧ va_D (fun _ => True) ws)
theorem PreC.blind {G : GT} {sz : Nat} {av : List Value} {ws : va_W} : FrameBlind (PreC G sz av ws) := fun a U g mk q => by
  obtain ⟨q0, q1, qP, qK, qN, qS, qD⟩ := q
  exact ⟨q0, q1, qP, va_K.moved (u := U) (U := U.calling g mk a) (Vm.Alike.refl U.vm) qK, qN.call, qS.call, qD⟩
def BB (G : GT) (A : Nat → Prop) (u : va_W) (t : State) : Prop := va_P G.1 vwCl u t.heap ∧ va_D A u
def Ci (l : Launch) (y : MethodName) (wy : List Cond) (rm : Room) (G : GT) (av : List Value) (ws : va_W) (post : Int32 → va_W → Prop) : Prop := ∀ sz : Nat, Met l y wy rm (PreC G sz av ws) (va_Qi post (BB G (va_A ws sz)) (va_A ws sz)) rm.cells rm.slots (va_A ws sz)
def Cl (l : Launch) (y : MethodName) (wy : List Cond) (rm : Room) (G : GT) (av : List Value) (ws : va_W) (post : Int64 → va_W → Prop) : Prop := ∀ sz : Nat, Met l y wy rm (PreC G sz av ws) (va_Ql post (BB G (va_A ws sz)) (va_A ws sz)) rm.cells rm.slots (va_A ws sz)
def Cv (l : Launch) (y : MethodName) (wy : List Cond) (rm : Room) (G : GT) (av : List Value) (ws : va_W) (post : va_W → Prop) : Prop := ∀ sz : Nat, Met l y wy rm (PreC G sz av ws) (va_Qv post (BB G (va_A ws sz)) (va_A ws sz)) rm.cells rm.slots (va_A ws sz)
def Cr (l : Launch) (y : MethodName) (wy : List Cond) (rm : Room) (G : GT) (av : List Value) (ws : va_W) (post : Nat → va_W → Prop) : Prop := ∀ sz : Nat, Met l y wy rm (PreC G sz av ws) (va_Qr (fun u : Nat × va_W => post u.1 u.2) (fun u a t => a = u.1 ∧ BB G (va_A ws sz) u.2 t) (va_A ws sz)) rm.cells rm.slots (va_A ws sz)
/-! the entry of a contract: what the walk begins with -/
theorem Ci.of {l : Launch} {y : MethodName} {wy wy' : List Cond} {rm : Room} {G : GT} {av : List Value} {ws : va_W} {post : Int32 → va_W → Prop} {cc : ByteArray} {maxL : Nat} {ty : FieldType}
    (hy : plainName y.cls = true) (hw : wy = Cond.code y cc maxL (some ty) :: wy') (hlen : (lg_sl av).length ≤ maxL)
    (body : ∀ (p : Program) (e : Env) (s : State) (m : MethodId) (below : List Frame) (meth : Method) (c : Code) (A : Nat → Prop) (ls : Array Slot) (Q : State → Prop),
      p.tables.exec = Jvm.exec → c.code = cc → c.maxLocals = maxL → (∀ w ∈ wy, w.before av.toArray s = true) → s.vm.findClass y.cls = some m.cls → (∀ q : Nat, s.heap.size ≤ q → A q) → va_S A s.heap s.heap [] → va_P G.1 vwCl ws s.heap → KK G s → NN s → SS G.2.2.2.2.2 A s s.heap → va_D A ws → lv_has ls maxL (lv_args 0 av) →
      (∀ (r : Int32) (u : va_W) (H : Heap) (locs : List Loc) (cells slots pc : Nat) (ls : Array Slot), cells ≤ rm.cells → slots ≤ rm.slots → narrow ty (.int r) = .int r → post r u → va_P G.1 vwCl u H → va_D A u → va_S A s.heap H locs → decode cc pc = .ok (.ireturn, 1) → W p l e rm s m av.toArray below meth c H locs cells slots Q (F0 m pc ls [.int r])) →
      W p l e rm s m av.toArray below meth c s.heap [] 0 0 Q (F0 m 0 ls [])) : Ci l y wy rm G av ws post := by
  intro sz
  refine Met.ofW (cc := cc) (maxL := maxL) (ret := some ty) hy hw ?_
  intro p e s m args below meth c s₁ B hml hv
  obtain ⟨rfl, hsz, hP, hK, hN, hSS, hD0⟩ := hv
  subst hsz
  rw [lg_entry_eq]
  refine body p e s m below meth c (va_A ws s.heap.size) _ _ B.exec B.bytes hml (atoms_spec (ws := wy) B.pre) (findClass_of_methodNamed B.named) (fun q h => Or.inr h) va_S.rf hP hK hN hSS (hD0.self) (lv_entry av hlen) ?_
  intro r u H locs cells slots pc ls hc hs hn hp hP hD hS hdg
  refine W.widen hc hs ?_
  exact W.zret B.exec B.bytes B.returns hn (fun t ht hW => ⟨⟨r, u, rfl, hp, by rw [ht]; exact hP, hD⟩, hS.F ht⟩) hS.2.2 hdg (hlocks := B.notSynchronized)
theorem Cl.of {l : Launch} {y : MethodName} {wy wy' : List Cond} {rm : Room} {G : GT} {av : List Value} {ws : va_W} {post : Int64 → va_W → Prop} {cc : ByteArray} {maxL : Nat}
    (hy : plainName y.cls = true) (hw : wy = Cond.code y cc maxL (some .long) :: wy') (hlen : (lg_sl av).length ≤ maxL)
    (body : ∀ (p : Program) (e : Env) (s : State) (m : MethodId) (below : List Frame) (meth : Method) (c : Code) (A : Nat → Prop) (ls : Array Slot) (Q : State → Prop),
      p.tables.exec = Jvm.exec → c.code = cc → c.maxLocals = maxL → (∀ w ∈ wy, w.before av.toArray s = true) → s.vm.findClass y.cls = some m.cls → (∀ q : Nat, s.heap.size ≤ q → A q) → va_S A s.heap s.heap [] → va_P G.1 vwCl ws s.heap → KK G s → NN s → SS G.2.2.2.2.2 A s s.heap → va_D A ws → lv_has ls maxL (lv_args 0 av) →
      (∀ (r : Int64) (u : va_W) (H : Heap) (locs : List Loc) (cells slots pc : Nat) (ls : Array Slot), cells ≤ rm.cells → slots ≤ rm.slots → post r u → va_P G.1 vwCl u H → va_D A u → va_S A s.heap H locs → decode cc pc = .ok (.lreturn, 1) → W p l e rm s m av.toArray below meth c H locs cells slots Q (F0 m pc ls [.long r])) →
      W p l e rm s m av.toArray below meth c s.heap [] 0 0 Q (F0 m 0 ls [])) : Cl l y wy rm G av ws post := by
  intro sz
  refine Met.ofW (cc := cc) (maxL := maxL) (ret := some .long) hy hw ?_
  intro p e s m args below meth c s₁ B hml hv
  obtain ⟨rfl, hsz, hP, hK, hN, hSS, hD0⟩ := hv
  subst hsz
  rw [lg_entry_eq]
  refine body p e s m below meth c (va_A ws s.heap.size) _ _ B.exec B.bytes hml (atoms_spec (ws := wy) B.pre) (findClass_of_methodNamed B.named) (fun q h => Or.inr h) va_S.rf hP hK hN hSS (hD0.self) (lv_entry av hlen) ?_
  intro r u H locs cells slots pc ls hc hs hp hP hD hS hdg
  refine W.widen hc hs ?_
  exact W.lret B.exec B.bytes B.returns (fun t ht hW => ⟨⟨r, u, rfl, hp, by rw [ht]; exact hP, hD⟩, hS.F ht⟩) hS.2.2 hdg (hlocks := B.notSynchronized)
theorem Cv.of {l : Launch} {y : MethodName} {wy wy' : List Cond} {rm : Room} {G : GT} {av : List Value} {ws : va_W} {post : va_W → Prop} {cc : ByteArray} {maxL : Nat}
    (hy : plainName y.cls = true) (hw : wy = Cond.code y cc maxL none :: wy') (hlen : (lg_sl av).length ≤ maxL)
    (body : ∀ (p : Program) (e : Env) (s : State) (m : MethodId) (below : List Frame) (meth : Method) (c : Code) (A : Nat → Prop) (ls : Array Slot) (Q : State → Prop),
      p.tables.exec = Jvm.exec → c.code = cc → c.maxLocals = maxL → (∀ w ∈ wy, w.before av.toArray s = true) → s.vm.findClass y.cls = some m.cls → meth.name = y.name → (∀ q : Nat, s.heap.size ≤ q → A q) → va_S A s.heap s.heap [] → va_P G.1 vwCl ws s.heap → KK G s → NN s → SS G.2.2.2.2.2 A s s.heap → va_D A ws → lv_has ls maxL (lv_args 0 av) →
      (∀ (u : va_W) (H : Heap) (locs : List Loc) (cells slots pc : Nat) (ls : Array Slot), cells ≤ rm.cells → slots ≤ rm.slots → post u → va_P G.1 vwCl u H → va_D A u → va_S A s.heap H locs → decode cc pc = .ok (.return_, 1) → W p l e rm s m av.toArray below meth c H locs cells slots Q (F0 m pc ls [])) →
      W p l e rm s m av.toArray below meth c s.heap [] 0 0 Q (F0 m 0 ls [])) : Cv l y wy rm G av ws post := by
  intro sz
  refine Met.ofW (cc := cc) (maxL := maxL) (ret := none) hy hw ?_
  intro p e s m args below meth c s₁ B hml hv
  obtain ⟨rfl, hsz, hP, hK, hN, hSS, hD0⟩ := hv
  subst hsz
  rw [lg_entry_eq]
  refine body p e s m below meth c (va_A ws s.heap.size) _ _ B.exec B.bytes hml (atoms_spec (ws := wy) B.pre) (findClass_of_methodNamed B.named) (name_of_methodNamed B.named B.method).1 (fun q h => Or.inr h) va_S.rf hP hK hN hSS (hD0.self) (lv_entry av hlen) ?_
  intro u H locs cells slots pc ls hc hs hp hP hD hS hdg
  refine W.widen hc hs ?_
  exact W.vret B.exec B.bytes B.returns (fun t ht hW => ⟨⟨u, rfl, hp, by rw [ht]; exact hP, hD⟩, hS.F ht⟩) hS.2.2 hdg (hlocks := B.notSynchronized)
theorem Cr.of {l : Launch} {y : MethodName} {wy wy' : List Cond} {rm : Room} {G : GT} {av : List Value} {ws : va_W} {post : Nat → va_W → Prop} {cc : ByteArray} {maxL : Nat} {cn : String}
    (hy : plainName y.cls = true) (hw : wy = Cond.code y cc maxL (some (.object cn)) :: wy') (hlen : (lg_sl av).length ≤ maxL)
    (body : ∀ (p : Program) (e : Env) (s : State) (m : MethodId) (below : List Frame) (meth : Method) (c : Code) (A : Nat → Prop) (ls : Array Slot) (Q : State → Prop),
      p.tables.exec = Jvm.exec → c.code = cc → c.maxLocals = maxL → (∀ w ∈ wy, w.before av.toArray s = true) → s.vm.findClass y.cls = some m.cls → (∀ q : Nat, s.heap.size ≤ q → A q) → va_S A s.heap s.heap [] → va_P G.1 vwCl ws s.heap → KK G s → NN s → SS G.2.2.2.2.2 A s s.heap → va_D A ws → lv_has ls maxL (lv_args 0 av) →
      (∀ (r : Nat) (u : va_W) (H : Heap) (locs : List Loc) (cells slots pc : Nat) (ls : Array Slot), cells ≤ rm.cells → slots ≤ rm.slots → post r u → va_P G.1 vwCl u H → va_D A u → va_S A s.heap H locs → decode cc pc = .ok (.areturn, 1) → W p l e rm s m av.toArray below meth c H locs cells slots Q (F0 m pc ls [.ref r])) →
      W p l e rm s m av.toArray below meth c s.heap [] 0 0 Q (F0 m 0 ls [])) : Cr l y wy rm G av ws post := by
  intro sz
  refine Met.ofW (cc := cc) (maxL := maxL) (ret := some (.object cn)) hy hw ?_
  intro p e s m args below meth c s₁ B hml hv
  obtain ⟨rfl, hsz, hP, hK, hN, hSS, hD0⟩ := hv
  subst hsz
  rw [lg_entry_eq]
  refine body p e s m below meth c (va_A ws s.heap.size) _ _ B.exec B.bytes hml (atoms_spec (ws := wy) B.pre) (findClass_of_methodNamed B.named) (fun q h => Or.inr h) va_S.rf hP hK hN hSS (hD0.self) (lv_entry av hlen) ?_
  intro r u H locs cells slots pc ls hc hs hp hP hD hS hdg
  refine W.widen hc hs ?_
  exact W.aret B.exec B.bytes B.returns (Or.inl ⟨cn, rfl⟩) (Or.inr ⟨r, rfl⟩) (fun t ht hW => ⟨⟨(r, u), r, rfl, hp, rfl, by rw [ht]; exact hP, hD⟩, hS.F ht⟩) hS.2.2 hdg (hlocks := B.notSynchronized)
