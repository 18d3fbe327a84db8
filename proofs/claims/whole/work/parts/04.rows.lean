/-! what holds beside the world: constant arrays of the classes, the script -/
/-- a static that holds a reference or null, with its place -/
def jZl (C nm d : String) (A : Nat → Prop) (U : State) (H : Heap) : Prop := ∃ (c : ClassId) (k : Class) (i : Nat) (f : Field) (a : Nat) (cell : Cell) (v : Value), U.vm.findClass C = some c ∧ U.fieldFound? C nm d = some (c, k, i, f) ∧ f.isStatic = true ∧ k.statics = some a ∧ H[a]? = some cell ∧ cell.vm.isStatics = true ∧ cell.cls = c ∧ f.slot < cell.slots.size ∧ k.staticTypes[f.slot]? = some f.type ∧ cell.slots[f.slot]? = some v ∧ (v = .null ∨ ∃ t, v = .ref t) ∧ ¬ A a
theorem jZl.moved {C nm d : String} {A : Nat → Prop} {u U : State} {H : Heap} (hvm : u.vm.Alike U.vm) (h : jZl C nm d A u H) : jZl C nm d A U H := by
  obtain ⟨c, k, i, f, a, cell, v, h0, h1, h2, h3, h4, h5, h6, h7, h8, h9⟩ := h
  obtain ⟨k', hi', he⟩ := State.fieldFound?_setVm hvm h1
  exact ⟨c, k', i, f, a, cell, v, by rw [hvm.findClass]; exact h0, hi', h2, by rw [he]; exact h3, h4, h5, h6, h7, by rw [he]; exact h8, h9⟩
theorem jZl.kept {C nm d : String} {A : Nat → Prop} {U : State} {H H1 : Heap} (h : jZl C nm d A U H) (hq : ∀ a : Nat, a < H.size → ¬ A a → H1[a]? = H[a]?) : jZl C nm d A U H1 := by
  obtain ⟨c, k, i, f, a, cell, v, h0, h1, h2, h3, h4, h5, h6, h7, h8, h9, h10, h11⟩ := h
  exact ⟨c, k, i, f, a, cell, v, h0, h1, h2, h3, by rw [hq a (Array.getElem?_eq_some_iff.mp h4).1 h11]; exact h4, h5, h6, h7, h8, h9, h10, h11⟩
theorem jZl.narrow {C nm d : String} {A B : Nat → Prop} {U : State} {H : Heap} (h : jZl C nm d A U H) (hAB : ∀ q, B q → A q) : jZl C nm d B U H := by
  obtain ⟨c, k, i, f, a, cell, v, h0, h1, h2, h3, h4, h5, h6, h7, h8, h9, h10, h11⟩ := h
  exact ⟨c, k, i, f, a, cell, v, h0, h1, h2, h3, h4, h5, h6, h7, h8, h9, h10, fun z => h11 (hAB a z)⟩
theorem jZl.ref {C nm d : String} {A : Nat → Prop} {args : Array Value} {s : State} (h : jZl C nm d A s s.heap) : (Cond.isRef (.static C nm d)).before args s = true := by
  obtain ⟨c, k, i, f, a, cell, v, h0, h1, h2, h3, h4, h5, h6, h7, h8, h9, h10, h11⟩ := h
  have e : (Term.static C nm d).eval args s none [] s = some v := by
    simp [Term.eval, State.fieldNamed?, h1, h2, h3, h4, h5, h9]
  rcases h10 with rfl | ⟨t, rfl⟩
  · simp [Cond.before, Cond.holds, Cond.value, e]
  · simp [Cond.before, Cond.holds, Cond.value, e]
theorem jZl.lays {C nm d : String} {A : Nat → Prop} {args : Array Value} {s : State} (h : jZl C nm d A s s.heap) : (Cond.laysStatic C nm d).before args s = true := by
  obtain ⟨c, k, i, f, a, cell, v, h0, h1, h2, h3, h4, h5, h6, h7, h8, h9, h10, h11⟩ := h
  simp [Cond.before, Cond.holds, Cond.value, h0, h1, h2, h3, h4, h5, h6, h7, h8]
abbrev jty (G : jG) : List (ClassId × FieldType) := [(G.tI, .int), (G.tP, .object "InkCoder$Picture"), (G.tL, .long)]
def jT (G : jG) (A : Nat → Prop) (U : State) : Prop :=
  (∀ q ∈ jSt, va_Z q.1 q.2.1 "[I" (.ref (G.ad q.2.2.1)) A U U.heap ∧ va_T .int (G.ad q.2.2.1) q.2.2.2.length (fun j => .int (q.2.2.2.getD j 0)) A U U.heap) ∧ va_X (G.ad jScr) G.L G.xs U U.heap ∧ ¬ A (G.ad jScr) ∧ (∀ w ∈ jNW, w.before #[] U = true) ∧ jZl "java/lang/Throwable" "UNASSIGNED_STACK" "[Ljava/lang/StackTraceElement;" A U U.heap ∧ jZl "java/lang/Throwable" "SUPPRESSED_SENTINEL" "Ljava/util/List;" A U U.heap ∧ ∀ q ∈ jNC, va_Nc q.1 q.2 U
theorem va_X.lt9 {b L : Nat} {xs : Nat → Int32} {U : State} {H : Heap} (h : va_X b L xs U H) : b < H.size := by
  obtain ⟨scr, h1, -⟩ := h
  exact (Array.getElem?_eq_some_iff.mp h1).1
theorem jT.move {G : jG} {A B : Nat → Prop} {s U : State} (h : jT G A s) (hW : s.WarmedH U.vm) (hq : ∀ a : Nat, a < s.heap.size → ¬ A a → U.heap[a]? = s.heap[a]?) (hAB : ∀ q, B q → A q) : jT G B U := by
  obtain ⟨h1, h2, h3, h4, h5, h6, h7⟩ := h
  have hvm := hW.alike
  exact ⟨fun q hm => ⟨(((h1 q hm).1.moved hvm).kept hq).narrow hAB, (((h1 q hm).2.moved hvm).kept hq).narrow hAB⟩, (h2.moved hvm).kept (hq _ h2.lt9 h3), fun z => h3 (hAB _ z), fun w hw => jNW_warm hW hw (h4 w hw), ((h5.moved hvm).kept hq).narrow hAB, ((h6.moved hvm).kept hq).narrow hAB, fun q hm => (h7 q hm).moved hvm⟩
/-- what is known inside a method -/
def jF (G : jG) (M : jM) (p : Program) (s : State) (m : MethodId) (args : Array Value) (meth : Method) (c : Code) (A : Nat → Prop) : Prop :=
  p.tables.exec = Jvm.exec ∧ c.code = M.cc ∧ c.maxLocals = M.nL ∧ meth.sig.returnType = M.ret ∧ s.vm.findClass M.own = some m.cls ∧ (∀ w ∈ jTW, w.before args s = true) ∧ meth.locks = false ∧ va_K G.D jCl (jty G) s ∧ (∀ q, s.heap.size ≤ q → A q) ∧ jT G A s ∧ c.exceptionTable.toList.map (fun h => (h.startPc, h.endPc, h.handlerPc, h.catchType)) = M.hs
def jEnd (first : State) (t : State) (L : List Loc) (k n : Nat) : Prop := first.WarmedH t.vm ∧ first.sameButNew ({ t with vm := first.vm } : State) L k n
def jMQ (below : List Frame) (Qc : State → Outcome → State → Prop) (s : State) (mc ms : Nat) (free : Addr → Prop) : State → Prop := fun t =>
  ∃ o, t.status = .running ∧ Ended t below o ∧ Qc s o t ∧ ∃ L, jEnd s t L mc ms ∧ ∀ q ∈ L, free q.base
def jOut (G : jG) (o : jO) (oc : Outcome) (t : State) : Prop := match o with
  | .inl v => oc = .returned (v.map (jcv G.ad))
  | .inr x => ∃ (a : Nat) (cell : Cell), oc = .threw a ∧ t.heap[a]? = some cell ∧ cell.vm.isStatics = false ∧ t.vm.findClass (jX x) = some cell.cls
def jB (G : jG) (σ : jMem) (A : Nat → Prop) (t : State) : Prop := va_P G.D jCl (jwd G σ) t.heap ∧ va_K G.D jCl (jty G) t ∧ va_D A (jwd G σ)
def jQ (G : jG) (A : Nat → Prop) (Q : jO → jMem → Prop) : State → Outcome → State → Prop := fun st oc t => (∃ (o : jO) (σ : jMem), Q o σ ∧ jOut G o oc t ∧ jB G σ A t) ∧ va_F A st t
abbrev jls (ad : Nat → Nat) (ls : List (Nat × Value)) : List (Nat × Value) := ls.map fun q => (q.1, jcv ad q.2)
/-- THE JUDGEMENT: method M at pc, locals ls, stack st, memory σ, with k cells and n slots made: it comes to its end, and Q -/
def jV (G : jG) (M : jM) (R : Room) (Q : jO → jMem → Prop) (k n pc : Nat) (ls : List (Nat × Value)) (st : List Value) (σ : jMem) : Prop :=
  ∀ (p : Program) (e : Env) (s : State) (m : MethodId) (args : Array Value) (below : List Frame) (meth : Method) (c : Code) (A : Nat → Prop) (H : Heap) (locs : List Loc) (L : Array Slot),
    jF G M p s m args meth c A → va_P G.D jCl (jwd G σ) H → va_D A (jwd G σ) → va_S A s.heap H locs → lv_has L M.nL (jls G.ad ls) →
    W p G.l e R s m args below meth c H locs k n (jMQ below (jQ G A Q) s R.cells R.slots A) (F0 m pc L (st.map (jcv G.ad)))
theorem W.imp9 {p : Program} {l : Launch} {e : Env} {R : Room} {s : State} {m : MethodId} {args : Array Value} {below : List Frame} {meth : Method} {c : Code} {H : Heap} {locs : List Loc} {cells slots : Nat} {Q Q' : State → Prop} {g : JFrame} (h : W p l e R s m args below meth c H locs cells slots Q g) (hq : ∀ t, Q t → Q' t) : W p l e R s m args below meth c H locs cells slots Q' g := by
  intro T hT X
  obtain ⟨t, a, b⟩ := h T hT X
  exact ⟨t, a, hq t b⟩
theorem lv_has.mono9 {ls : Array Slot} {nL : Nat} {l l' : List (Nat × Value)} (h : lv_has ls nL l) (hs : ∀ q ∈ l', q ∈ l) : lv_has ls nL l' := ⟨h.1, h.2.1, fun q hq => h.2.2 q (hs q hq)⟩
theorem jls_at {ad : Nat → Nat} {ls : List (Nat × Value)} {k i : Nat} {v : Value} (h : ls[k]? = some (i, v)) : (jls ad ls)[k]? = some (i, jcv ad v) := by
  rw [List.getElem?_map, h]; rfl
/-- the locals behind a store -/
theorem jls_sto {ad : Nat → Nat} {ls ls' : List (Nat × Value)} {i : Nat} {v : Value} (h : ∀ q ∈ ls', q = (i, v) ∨ (q ∈ ls ∧ (!(q.1 == i) && !(q.1 + 1 == i && q.2.category == 2)) = true)) :
    ∀ q ∈ jls ad ls', q ∈ (i, jcv ad v) :: (jls ad ls).filter (fun q => !(q.1 == i) && !(q.1 + 1 == i && q.2.category == 2)) := by
  intro q hq
  obtain ⟨z, hz, rfl⟩ := List.mem_map.mp hq
  rcases h z hz with rfl | ⟨h1, h2⟩
  · exact List.mem_cons_self
  · refine List.mem_cons_of_mem _ (List.mem_filter.mpr ⟨List.mem_map.mpr ⟨z, h1, rfl⟩, ?_⟩)
    show (!(z.1 == i) && !(z.1 + 1 == i && (jcv ad z.2).category == 2)) = true
    rw [jcv_cat]; exact h2
section JR
variable {G : jG} {M : jM} {R : Room} {Q : jO → jMem → Prop} {k n pc : Nat} {ls : List (Nat × Value)} {st : List Value} {σ : jMem}

theorem jv_iadd {x y : Int32} (hd : decode M.cc pc = .ok (.iadd, 1)) (kk : jV G M R Q k n (pc + 1) ls (.int (x + y) :: st) σ) : jV G M R Q k n (pc) ls (.int y :: .int x :: st) σ := by
  intro p e s m args below meth c A H locs L F hP hD hS hl
  exact lv_iadd F.1 F.2.1 hd (kk p e s m args below meth c A H locs L F hP hD hS hl)
theorem jv_isub {x y : Int32} (hd : decode M.cc pc = .ok (.isub, 1)) (kk : jV G M R Q k n (pc + 1) ls (.int (x - y) :: st) σ) : jV G M R Q k n (pc) ls (.int y :: .int x :: st) σ := by
  intro p e s m args below meth c A H locs L F hP hD hS hl
  exact lv_isub F.1 F.2.1 hd (kk p e s m args below meth c A H locs L F hP hD hS hl)
theorem jv_imul {x y : Int32} (hd : decode M.cc pc = .ok (.imul, 1)) (kk : jV G M R Q k n (pc + 1) ls (.int (x * y) :: st) σ) : jV G M R Q k n (pc) ls (.int y :: .int x :: st) σ := by
  intro p e s m args below meth c A H locs L F hP hD hS hl
  exact lv_imul F.1 F.2.1 hd (kk p e s m args below meth c A H locs L F hP hD hS hl)
theorem jv_iand {x y : Int32} (hd : decode M.cc pc = .ok (.iand, 1)) (kk : jV G M R Q k n (pc + 1) ls (.int (x &&& y) :: st) σ) : jV G M R Q k n (pc) ls (.int y :: .int x :: st) σ := by
  intro p e s m args below meth c A H locs L F hP hD hS hl
  exact lv_iand F.1 F.2.1 hd (kk p e s m args below meth c A H locs L F hP hD hS hl)
theorem jv_ior {x y : Int32} (hd : decode M.cc pc = .ok (.ior, 1)) (kk : jV G M R Q k n (pc + 1) ls (.int (x ||| y) :: st) σ) : jV G M R Q k n (pc) ls (.int y :: .int x :: st) σ := by
  intro p e s m args below meth c A H locs L F hP hD hS hl
  exact lv_ior F.1 F.2.1 hd (kk p e s m args below meth c A H locs L F hP hD hS hl)
theorem jv_ixor {x y : Int32} (hd : decode M.cc pc = .ok (.ixor, 1)) (kk : jV G M R Q k n (pc + 1) ls (.int (x ^^^ y) :: st) σ) : jV G M R Q k n (pc) ls (.int y :: .int x :: st) σ := by
  intro p e s m args below meth c A H locs L F hP hD hS hl
  exact lv_ixor F.1 F.2.1 hd (kk p e s m args below meth c A H locs L F hP hD hS hl)
theorem jv_ishl {x y : Int32} (hd : decode M.cc pc = .ok (.ishl, 1)) (kk : jV G M R Q k n (pc + 1) ls (.int (x <<< (y &&& 31)) :: st) σ) : jV G M R Q k n (pc) ls (.int y :: .int x :: st) σ := by
  intro p e s m args below meth c A H locs L F hP hD hS hl
  exact lv_ishl F.1 F.2.1 hd (kk p e s m args below meth c A H locs L F hP hD hS hl)
theorem jv_ishr {x y : Int32} (hd : decode M.cc pc = .ok (.ishr, 1)) (kk : jV G M R Q k n (pc + 1) ls (.int (x >>> (y &&& 31)) :: st) σ) : jV G M R Q k n (pc) ls (.int y :: .int x :: st) σ := by
  intro p e s m args below meth c A H locs L F hP hD hS hl
  exact lv_ishr F.1 F.2.1 hd (kk p e s m args below meth c A H locs L F hP hD hS hl)
theorem jv_iushr {x y : Int32} (hd : decode M.cc pc = .ok (.iushr, 1)) (kk : jV G M R Q k n (pc + 1) ls (.int (x.toUInt32 >>> (y.toUInt32 &&& Int32.toUInt32 31)).toInt32 :: st) σ) : jV G M R Q k n (pc) ls (.int y :: .int x :: st) σ := by
  intro p e s m args below meth c A H locs L F hP hD hS hl
  exact lv_iushr F.1 F.2.1 hd rfl (kk p e s m args below meth c A H locs L F hP hD hS hl)
theorem jv_idiv {x y : Int32} (hd : decode M.cc pc = .ok (.idiv, 1)) (hy : ¬ y = 0) (kk : jV G M R Q k n (pc + 1) ls (.int (x / y) :: st) σ) : jV G M R Q k n (pc) ls (.int y :: .int x :: st) σ := by
  intro p e s m args below meth c A H locs L F hP hD hS hl
  exact lv_idiv F.1 F.2.1 hd hy (kk p e s m args below meth c A H locs L F hP hD hS hl)
theorem jv_irem {x y : Int32} (hd : decode M.cc pc = .ok (.irem, 1)) (hy : ¬ y = 0) (kk : jV G M R Q k n (pc + 1) ls (.int (x - x / y * y) :: st) σ) : jV G M R Q k n (pc) ls (.int y :: .int x :: st) σ := by
  intro p e s m args below meth c A H locs L F hP hD hS hl
  exact lv_irem F.1 F.2.1 hd hy (kk p e s m args below meth c A H locs L F hP hD hS hl)
theorem jv_ineg {x : Int32} (hd : decode M.cc pc = .ok (.ineg, 1)) (kk : jV G M R Q k n (pc + 1) ls (.int (-x) :: st) σ) : jV G M R Q k n (pc) ls (.int x :: st) σ := by
  intro p e s m args below meth c A H locs L F hP hD hS hl
  exact lv_ineg F.1 F.2.1 hd (kk p e s m args below meth c A H locs L F hP hD hS hl)
theorem jv_i2l {x : Int32} (hd : decode M.cc pc = .ok (.i2l, 1)) (kk : jV G M R Q k n (pc + 1) ls (.long x.toInt64 :: st) σ) : jV G M R Q k n (pc) ls (.int x :: st) σ := by
  intro p e s m args below meth c A H locs L F hP hD hS hl
  exact lv_i2l F.1 F.2.1 hd rfl (kk p e s m args below meth c A H locs L F hP hD hS hl)
theorem jv_l2i {x : Int64} (hd : decode M.cc pc = .ok (.l2i, 1)) (kk : jV G M R Q k n (pc + 1) ls (.int x.toInt32 :: st) σ) : jV G M R Q k n (pc) ls (.long x :: st) σ := by
  intro p e s m args below meth c A H locs L F hP hD hS hl
  exact lv_l2i F.1 F.2.1 hd rfl (kk p e s m args below meth c A H locs L F hP hD hS hl)
theorem jv_land {x y : Int64} (hd : decode M.cc pc = .ok (.land, 1)) (kk : jV G M R Q k n (pc + 1) ls (.long (x &&& y) :: st) σ) : jV G M R Q k n (pc) ls (.long y :: .long x :: st) σ := by
  intro p e s m args below meth c A H locs L F hP hD hS hl
  exact lv_land F.1 F.2.1 hd (kk p e s m args below meth c A H locs L F hP hD hS hl)
theorem jv_lshr {x : Int64} {y : Int32} (hd : decode M.cc pc = .ok (.lshr, 1)) (kk : jV G M R Q k n (pc + 1) ls (.long (x >>> (y.toInt64 &&& 63)) :: st) σ) : jV G M R Q k n (pc) ls (.int y :: .long x :: st) σ := by
  intro p e s m args below meth c A H locs L F hP hD hS hl
  exact lv_lshr F.1 F.2.1 hd rfl (kk p e s m args below meth c A H locs L F hP hD hS hl)
theorem jv_lcmp {x y : Int64} (hd : decode M.cc pc = .ok (.lcmp, 1)) (kk : jV G M R Q k n (pc + 1) ls (.int (lg_cmp x y) :: st) σ) : jV G M R Q k n (pc) ls (.long y :: .long x :: st) σ := by
  intro p e s m args below meth c A H locs L F hP hD hS hl
  exact W.lcmp F.1 F.2.1 hd (kk p e s m args below meth c A H locs L F hP hD hS hl)
theorem jv_iconst {z : Int} (v : Int32) (hd : decode M.cc pc = .ok (.iconst z, 1)) (hv : Int32.ofInt z = v) (kk : jV G M R Q k n (pc + 1) ls (.int v :: st) σ) : jV G M R Q k n (pc) ls (st) σ := by
  intro p e s m args below meth c A H locs L F hP hD hS hl
  exact lv_iconst F.1 F.2.1 hd hv (kk p e s m args below meth c A H locs L F hP hD hS hl)
theorem jv_bipush {z : Int} (v : Int32) (hd : decode M.cc pc = .ok (.bipush z, 2)) (hv : (Int8.ofInt z).toInt32 = v) (kk : jV G M R Q k n (pc + 2) ls (.int v :: st) σ) : jV G M R Q k n (pc) ls (st) σ := by
  intro p e s m args below meth c A H locs L F hP hD hS hl
  exact lv_bipush F.1 F.2.1 hd hv (kk p e s m args below meth c A H locs L F hP hD hS hl)
theorem jv_sipush {z : Int} (v : Int32) (hd : decode M.cc pc = .ok (.sipush z, 3)) (hv : (Int16.ofInt z).toInt32 = v) (kk : jV G M R Q k n (pc + 3) ls (.int v :: st) σ) : jV G M R Q k n (pc) ls (st) σ := by
  intro p e s m args below meth c A H locs L F hP hD hS hl
  exact lv_sipush F.1 F.2.1 hd hv (kk p e s m args below meth c A H locs L F hP hD hS hl)
theorem jv_lconst {z : Fin 2} (v : Int64) (hd : decode M.cc pc = .ok (.lconst z, 1)) (hv : Int64.ofNat (z : Nat) = v) (kk : jV G M R Q k n (pc + 1) ls (.long v :: st) σ) : jV G M R Q k n (pc) ls (st) σ := by
  intro p e s m args below meth c A H locs L F hP hD hS hl
  exact lv_lconst F.1 F.2.1 hd hv (kk p e s m args below meth c A H locs L F hP hD hS hl)
theorem jv_ldc {idx : Nat} (v : Int32) (hd : decode M.cc pc = .ok (.ldc idx, 2)) (hw : Cond.constant M.own idx v ∈ jTW) (kk : jV G M R Q k n (pc + 2) ls (.int v :: st) σ) : jV G M R Q k n (pc) ls (st) σ := by
  intro p e s m args below meth c A H locs L F hP hD hS hl
  exact lv_ldc F.1 F.2.1 F.2.2.2.2.1 (F.2.2.2.2.2.1 _ hw) hd (kk p e s m args below meth c A H locs L F hP hD hS hl)
theorem jv_ldc2 {idx : Nat} (v : Int64) (hd : decode M.cc pc = .ok (.ldc2_w idx, 3)) (hw : Cond.constantLong M.own idx v ∈ jTW) (kk : jV G M R Q k n (pc + 3) ls (.long v :: st) σ) : jV G M R Q k n (pc) ls (st) σ := by
  intro p e s m args below meth c A H locs L F hP hD hS hl
  exact lv_ldc2 F.1 F.2.1 F.2.2.2.2.1 (F.2.2.2.2.2.1 _ hw) hd (kk p e s m args below meth c A H locs L F hP hD hS hl)
theorem jv_iload_n {q : Fin 4} {x : Int32} (i : Nat) (hd : decode M.cc pc = .ok (.iload_n q, 1)) (h : ls[i]? = some ((q : Nat), .int x)) (kk : jV G M R Q k n (pc + 1) ls (.int x :: st) σ) : jV G M R Q k n (pc) ls (st) σ := by
  intro p e s m args below meth c A H locs L F hP hD hS hl
  exact lv_iload_n F.1 F.2.1 hd rfl (lv_at hl i (jls_at h)) (kk p e s m args below meth c A H locs L F hP hD hS hl)
theorem jv_iload {q : Nat} {x : Int32} (i : Nat) (hd : decode M.cc pc = .ok (.iload q, 2)) (h : ls[i]? = some (q, .int x)) (kk : jV G M R Q k n (pc + 2) ls (.int x :: st) σ) : jV G M R Q k n (pc) ls (st) σ := by
  intro p e s m args below meth c A H locs L F hP hD hS hl
  exact lv_iload F.1 F.2.1 hd (lv_at hl i (jls_at h)) (kk p e s m args below meth c A H locs L F hP hD hS hl)
theorem jv_aload_n {q : Fin 4} {x : Nat} (i : Nat) (hd : decode M.cc pc = .ok (.aload_n q, 1)) (h : ls[i]? = some ((q : Nat), .ref x)) (kk : jV G M R Q k n (pc + 1) ls (.ref x :: st) σ) : jV G M R Q k n (pc) ls (st) σ := by
  intro p e s m args below meth c A H locs L F hP hD hS hl
  exact lv_aload_n F.1 F.2.1 hd rfl (lv_at hl i (jls_at h)) (kk p e s m args below meth c A H locs L F hP hD hS hl)
theorem jv_aload {q : Nat} {x : Nat} (i : Nat) (hd : decode M.cc pc = .ok (.aload q, 2)) (h : ls[i]? = some (q, .ref x)) (kk : jV G M R Q k n (pc + 2) ls (.ref x :: st) σ) : jV G M R Q k n (pc) ls (st) σ := by
  intro p e s m args below meth c A H locs L F hP hD hS hl
  exact lv_aload F.1 F.2.1 hd (lv_at hl i (jls_at h)) (kk p e s m args below meth c A H locs L F hP hD hS hl)
theorem jv_istore_n {z : Fin 4} {x : Int32} {i : Nat} {ls1 : List (Nat × Value)} (hd : decode M.cc pc = .ok (.istore_n z, 1)) (hi : (z : Nat) = i) (hn : i < M.nL) (hs : ∀ q ∈ ls1, q = (i, .int x) ∨ (q ∈ ls ∧ (!(q.1 == i) && !(q.1 + 1 == i && q.2.category == 2)) = true)) (kk : jV G M R Q k n (pc + 1) ls1 (st) σ) : jV G M R Q k n (pc) ls (.int x :: st) σ := by
  intro p e s m args below meth c A H locs L F hP hD hS hl
  exact lv_istore_n F.1 F.2.1 hd hi hl hn rfl (fun L1 hl1 => kk p e s m args below meth c A H locs L1 F hP hD hS (hl1.mono9 (jls_sto hs)))
theorem jv_istore {x : Int32} {i : Nat} {ls1 : List (Nat × Value)} (hd : decode M.cc pc = .ok (.istore i, 2)) (hn : i < M.nL) (hs : ∀ q ∈ ls1, q = (i, .int x) ∨ (q ∈ ls ∧ (!(q.1 == i) && !(q.1 + 1 == i && q.2.category == 2)) = true)) (kk : jV G M R Q k n (pc + 2) ls1 (st) σ) : jV G M R Q k n (pc) ls (.int x :: st) σ := by
  intro p e s m args below meth c A H locs L F hP hD hS hl
  exact lv_istore F.1 F.2.1 hd hl hn rfl (fun L1 hl1 => kk p e s m args below meth c A H locs L1 F hP hD hS (hl1.mono9 (jls_sto hs)))
theorem jv_astore_n {z : Fin 4} {x : Nat} {i : Nat} {ls1 : List (Nat × Value)} (hd : decode M.cc pc = .ok (.astore_n z, 1)) (hi : (z : Nat) = i) (hn : i < M.nL) (hs : ∀ q ∈ ls1, q = (i, .ref x) ∨ (q ∈ ls ∧ (!(q.1 == i) && !(q.1 + 1 == i && q.2.category == 2)) = true)) (kk : jV G M R Q k n (pc + 1) ls1 (st) σ) : jV G M R Q k n (pc) ls (.ref x :: st) σ := by
  intro p e s m args below meth c A H locs L F hP hD hS hl
  exact lv_astore_n F.1 F.2.1 hd hi hl hn rfl (fun L1 hl1 => kk p e s m args below meth c A H locs L1 F hP hD hS (hl1.mono9 (jls_sto hs)))
theorem jv_astore {x : Nat} {i : Nat} {ls1 : List (Nat × Value)} (hd : decode M.cc pc = .ok (.astore i, 2)) (hn : i < M.nL) (hs : ∀ q ∈ ls1, q = (i, .ref x) ∨ (q ∈ ls ∧ (!(q.1 == i) && !(q.1 + 1 == i && q.2.category == 2)) = true)) (kk : jV G M R Q k n (pc + 2) ls1 (st) σ) : jV G M R Q k n (pc) ls (.ref x :: st) σ := by
  intro p e s m args below meth c A H locs L F hP hD hS hl
  exact lv_astore F.1 F.2.1 hd hl hn rfl (fun L1 hl1 => kk p e s m args below meth c A H locs L1 F hP hD hS (hl1.mono9 (jls_sto hs)))
theorem jv_iinc {i : Nat} {z : Int} {x : Int32} {ls1 : List (Nat × Value)} (j : Nat) (v : Int32) (hd : decode M.cc pc = .ok (.iinc i z, 3)) (h : ls[j]? = some (i, .int x)) (hv : x + Int32.ofInt z = v) (hn : i < M.nL) (hs : ∀ q ∈ ls1, q = (i, .int v) ∨ (q ∈ ls ∧ (!(q.1 == i) && !(q.1 + 1 == i && q.2.category == 2)) = true)) (kk : jV G M R Q k n (pc + 3) ls1 (st) σ) : jV G M R Q k n (pc) ls (st) σ := by
  intro p e s m args below meth c A H locs L F hP hD hS hl
  exact lv_iinc F.1 F.2.1 hd hl (jls_at h) hv hn rfl (fun L1 hl1 => kk p e s m args below meth c A H locs L1 F hP hD hS (hl1.mono9 (jls_sto hs)))
/-- a store's side condition, where the stored place is new, or stands at a place of the list -/
theorem jsto_new {ls : List (Nat × Value)} {i : Nat} {v : Value} (h : ls.all (fun q => !(q.1 == i) && !(q.1 + 1 == i && q.2.category == 2)) = true) : ∀ q ∈ (i, v) :: ls, q = (i, v) ∨ (q ∈ ls ∧ (!(q.1 == i) && !(q.1 + 1 == i && q.2.category == 2)) = true) := by
  intro q hq
  rcases List.mem_cons.mp hq with h1 | h1
  · exact Or.inl h1
  · exact Or.inr ⟨h1, List.all_eq_true.mp h q h1⟩
theorem jsto_at {pre post : List (Nat × Value)} {i : Nat} {u v : Value} (h : (pre ++ post).all (fun q => !(q.1 == i) && !(q.1 + 1 == i && q.2.category == 2)) = true) : ∀ q ∈ pre ++ (i, v) :: post, q = (i, v) ∨ (q ∈ pre ++ (i, u) :: post ∧ (!(q.1 == i) && !(q.1 + 1 == i && q.2.category == 2)) = true) := by
  intro q hq
  rcases List.mem_append.mp hq with h1 | h1
  · exact Or.inr ⟨List.mem_append_left _ h1, List.all_eq_true.mp h q (List.mem_append_left _ h1)⟩
  · rcases List.mem_cons.mp h1 with h2 | h2
    · exact Or.inl h2
    · exact Or.inr ⟨List.mem_append_right _ (List.mem_cons_of_mem _ h2), List.all_eq_true.mp h q (List.mem_append_right _ h2)⟩
theorem jv_dup {v : Value} (hd : decode M.cc pc = .ok (.dup, 1)) (hc : v.category = 1) (kk : jV G M R Q k n (pc + 1) ls (v :: v :: st) σ) : jV G M R Q k n (pc) ls (v :: st) σ := by
  intro p e s m args below meth c A H locs L F hP hD hS hl
  exact lv_dup F.1 F.2.1 hd (by rw [jcv_cat]; exact hc) (kk p e s m args below meth c A H locs L F hP hD hS hl)
theorem jv_pop {v : Value} (hd : decode M.cc pc = .ok (.pop, 1)) (hc : v.category = 1) (kk : jV G M R Q k n (pc + 1) ls (st) σ) : jV G M R Q k n (pc) ls (v :: st) σ := by
  intro p e s m args below meth c A H locs L F hP hD hS hl
  exact lv_pop F.1 F.2.1 hd (by rw [jcv_cat]; exact hc) (kk p e s m args below meth c A H locs L F hP hD hS hl)
theorem jv_dup_x1 {u v : Value} (hd : decode M.cc pc = .ok (.dup_x1, 1)) (hu : u.category = 1) (hv : v.category = 1) (kk : jV G M R Q k n (pc + 1) ls (u :: v :: u :: st) σ) : jV G M R Q k n (pc) ls (u :: v :: st) σ := by
  intro p e s m args below meth c A H locs L F hP hD hS hl
  exact lv_dup_x1 F.1 F.2.1 hd (by rw [jcv_cat]; exact hu) (by rw [jcv_cat]; exact hv) (kk p e s m args below meth c A H locs L F hP hD hS hl)
theorem jv_dup2 {u v : Value} (hd : decode M.cc pc = .ok (.dup2, 1)) (hu : u.category = 1) (hv : v.category = 1) (kk : jV G M R Q k n (pc + 1) ls (u :: v :: u :: v :: st) σ) : jV G M R Q k n (pc) ls (u :: v :: st) σ := by
  intro p e s m args below meth c A H locs L F hP hD hS hl
  exact lv_dup2_11 F.1 F.2.1 hd (by rw [jcv_cat]; exact hu) (by rw [jcv_cat]; exact hv) (kk p e s m args below meth c A H locs L F hP hD hS hl)
theorem jv_if_eq {x : Int32} {off : Int} (tgt : Nat) (hd : decode M.cc pc = .ok (.ifCond .eq off, 3)) (ht : (pc : Int) + off = (tgt : Int)) (kt : x = 0 → jV G M R Q k n (tgt) ls (st) σ) (kf : ¬ x = 0 → jV G M R Q k n (pc + 3) ls (st) σ) : jV G M R Q k n (pc) ls (.int x :: st) σ := by
  intro p e s m args below meth c A H locs L F hP hD hS hl
  exact lv_if_eq F.1 F.2.1 hd ht (fun h => kt h p e s m args below meth c A H locs L F hP hD hS hl) (fun h => kf h p e s m args below meth c A H locs L F hP hD hS hl)
theorem jv_if_ne {x : Int32} {off : Int} (tgt : Nat) (hd : decode M.cc pc = .ok (.ifCond .ne off, 3)) (ht : (pc : Int) + off = (tgt : Int)) (kt : ¬ x = 0 → jV G M R Q k n (tgt) ls (st) σ) (kf : x = 0 → jV G M R Q k n (pc + 3) ls (st) σ) : jV G M R Q k n (pc) ls (.int x :: st) σ := by
  intro p e s m args below meth c A H locs L F hP hD hS hl
  exact lv_if_ne F.1 F.2.1 hd ht (fun h => kt h p e s m args below meth c A H locs L F hP hD hS hl) (fun h => kf h p e s m args below meth c A H locs L F hP hD hS hl)
theorem jv_if_lt {x : Int32} {off : Int} (tgt : Nat) (hd : decode M.cc pc = .ok (.ifCond .lt off, 3)) (ht : (pc : Int) + off = (tgt : Int)) (kt : x < 0 → jV G M R Q k n (tgt) ls (st) σ) (kf : ¬ x < 0 → jV G M R Q k n (pc + 3) ls (st) σ) : jV G M R Q k n (pc) ls (.int x :: st) σ := by
  intro p e s m args below meth c A H locs L F hP hD hS hl
  exact lv_if_lt F.1 F.2.1 hd ht (fun h => kt h p e s m args below meth c A H locs L F hP hD hS hl) (fun h => kf h p e s m args below meth c A H locs L F hP hD hS hl)
theorem jv_if_ge {x : Int32} {off : Int} (tgt : Nat) (hd : decode M.cc pc = .ok (.ifCond .ge off, 3)) (ht : (pc : Int) + off = (tgt : Int)) (kt : 0 ≤ x → jV G M R Q k n (tgt) ls (st) σ) (kf : ¬ 0 ≤ x → jV G M R Q k n (pc + 3) ls (st) σ) : jV G M R Q k n (pc) ls (.int x :: st) σ := by
  intro p e s m args below meth c A H locs L F hP hD hS hl
  exact lv_if_ge F.1 F.2.1 hd ht (fun h => kt h p e s m args below meth c A H locs L F hP hD hS hl) (fun h => kf h p e s m args below meth c A H locs L F hP hD hS hl)
theorem jv_if_gt {x : Int32} {off : Int} (tgt : Nat) (hd : decode M.cc pc = .ok (.ifCond .gt off, 3)) (ht : (pc : Int) + off = (tgt : Int)) (kt : 0 < x → jV G M R Q k n (tgt) ls (st) σ) (kf : ¬ 0 < x → jV G M R Q k n (pc + 3) ls (st) σ) : jV G M R Q k n (pc) ls (.int x :: st) σ := by
  intro p e s m args below meth c A H locs L F hP hD hS hl
  exact lv_if_gt F.1 F.2.1 hd ht (fun h => kt h p e s m args below meth c A H locs L F hP hD hS hl) (fun h => kf h p e s m args below meth c A H locs L F hP hD hS hl)
theorem jv_if_le {x : Int32} {off : Int} (tgt : Nat) (hd : decode M.cc pc = .ok (.ifCond .le off, 3)) (ht : (pc : Int) + off = (tgt : Int)) (kt : x ≤ 0 → jV G M R Q k n (tgt) ls (st) σ) (kf : ¬ x ≤ 0 → jV G M R Q k n (pc + 3) ls (st) σ) : jV G M R Q k n (pc) ls (.int x :: st) σ := by
  intro p e s m args below meth c A H locs L F hP hD hS hl
  exact lv_if_le F.1 F.2.1 hd ht (fun h => kt h p e s m args below meth c A H locs L F hP hD hS hl) (fun h => kf h p e s m args below meth c A H locs L F hP hD hS hl)
theorem jv_icmp_eq {x y : Int32} {off : Int} (tgt : Nat) (hd : decode M.cc pc = .ok (.if_icmp .eq off, 3)) (ht : (pc : Int) + off = (tgt : Int)) (kt : x = y → jV G M R Q k n (tgt) ls (st) σ) (kf : ¬ x = y → jV G M R Q k n (pc + 3) ls (st) σ) : jV G M R Q k n (pc) ls (.int y :: .int x :: st) σ := by
  intro p e s m args below meth c A H locs L F hP hD hS hl
  exact lv_icmp_eq F.1 F.2.1 hd ht (fun h => kt h p e s m args below meth c A H locs L F hP hD hS hl) (fun h => kf h p e s m args below meth c A H locs L F hP hD hS hl)
theorem jv_icmp_ne {x y : Int32} {off : Int} (tgt : Nat) (hd : decode M.cc pc = .ok (.if_icmp .ne off, 3)) (ht : (pc : Int) + off = (tgt : Int)) (kt : ¬ x = y → jV G M R Q k n (tgt) ls (st) σ) (kf : x = y → jV G M R Q k n (pc + 3) ls (st) σ) : jV G M R Q k n (pc) ls (.int y :: .int x :: st) σ := by
  intro p e s m args below meth c A H locs L F hP hD hS hl
  exact lv_icmp_ne F.1 F.2.1 hd ht (fun h => kt h p e s m args below meth c A H locs L F hP hD hS hl) (fun h => kf h p e s m args below meth c A H locs L F hP hD hS hl)
theorem jv_icmp_lt {x y : Int32} {off : Int} (tgt : Nat) (hd : decode M.cc pc = .ok (.if_icmp .lt off, 3)) (ht : (pc : Int) + off = (tgt : Int)) (kt : x < y → jV G M R Q k n (tgt) ls (st) σ) (kf : ¬ x < y → jV G M R Q k n (pc + 3) ls (st) σ) : jV G M R Q k n (pc) ls (.int y :: .int x :: st) σ := by
  intro p e s m args below meth c A H locs L F hP hD hS hl
  exact lv_icmp_lt F.1 F.2.1 hd ht (fun h => kt h p e s m args below meth c A H locs L F hP hD hS hl) (fun h => kf h p e s m args below meth c A H locs L F hP hD hS hl)
theorem jv_icmp_ge {x y : Int32} {off : Int} (tgt : Nat) (hd : decode M.cc pc = .ok (.if_icmp .ge off, 3)) (ht : (pc : Int) + off = (tgt : Int)) (kt : y ≤ x → jV G M R Q k n (tgt) ls (st) σ) (kf : ¬ y ≤ x → jV G M R Q k n (pc + 3) ls (st) σ) : jV G M R Q k n (pc) ls (.int y :: .int x :: st) σ := by
  intro p e s m args below meth c A H locs L F hP hD hS hl
  exact lv_icmp_ge F.1 F.2.1 hd ht (fun h => kt h p e s m args below meth c A H locs L F hP hD hS hl) (fun h => kf h p e s m args below meth c A H locs L F hP hD hS hl)
theorem jv_icmp_gt {x y : Int32} {off : Int} (tgt : Nat) (hd : decode M.cc pc = .ok (.if_icmp .gt off, 3)) (ht : (pc : Int) + off = (tgt : Int)) (kt : y < x → jV G M R Q k n (tgt) ls (st) σ) (kf : ¬ y < x → jV G M R Q k n (pc + 3) ls (st) σ) : jV G M R Q k n (pc) ls (.int y :: .int x :: st) σ := by
  intro p e s m args below meth c A H locs L F hP hD hS hl
  exact lv_icmp_gt F.1 F.2.1 hd ht (fun h => kt h p e s m args below meth c A H locs L F hP hD hS hl) (fun h => kf h p e s m args below meth c A H locs L F hP hD hS hl)
theorem jv_icmp_le {x y : Int32} {off : Int} (tgt : Nat) (hd : decode M.cc pc = .ok (.if_icmp .le off, 3)) (ht : (pc : Int) + off = (tgt : Int)) (kt : x ≤ y → jV G M R Q k n (tgt) ls (st) σ) (kf : ¬ x ≤ y → jV G M R Q k n (pc + 3) ls (st) σ) : jV G M R Q k n (pc) ls (.int y :: .int x :: st) σ := by
  intro p e s m args below meth c A H locs L F hP hD hS hl
  exact lv_icmp_le F.1 F.2.1 hd ht (fun h => kt h p e s m args below meth c A H locs L F hP hD hS hl) (fun h => kf h p e s m args below meth c A H locs L F hP hD hS hl)
theorem jv_goto {off : Int} (tgt : Nat) (hd : decode M.cc pc = .ok (.goto off, 3)) (ht : (pc : Int) + off = (tgt : Int)) (kk : jV G M R Q k n (tgt) ls (st) σ) : jV G M R Q k n (pc) ls (st) σ := by
  intro p e s m args below meth c A H locs L F hP hD hS hl
  exact lv_goto F.1 F.2.1 hd ht (kk p e s m args below meth c A H locs L F hP hD hS hl)
theorem jv_tin {dflt lo hi off : Int} {offs : Array Int} {len : Nat} {x : Int32} (tgt : Nat) (hd : decode M.cc pc = .ok (.tableswitch dflt lo hi offs, len)) (h1 : ¬ x.toInt < lo) (h2 : ¬ hi < x.toInt) (ho : offs[(x.toInt - lo).toNat]? = some off) (ht : (pc : Int) + off = (tgt : Int)) (kk : jV G M R Q k n (tgt) ls (st) σ) : jV G M R Q k n (pc) ls (.int x :: st) σ := by
  intro p e s m args below meth c A H locs L F hP hD hS hl
  exact lv_tableIn F.1 F.2.1 hd h1 h2 ho ht (kk p e s m args below meth c A H locs L F hP hD hS hl)
theorem jv_tout {dflt lo hi : Int} {offs : Array Int} {len : Nat} {x : Int32} (tgt : Nat) (hd : decode M.cc pc = .ok (.tableswitch dflt lo hi offs, len)) (h : x.toInt < lo ∨ hi < x.toInt) (ht : (pc : Int) + dflt = (tgt : Int)) (kk : jV G M R Q k n (tgt) ls (st) σ) : jV G M R Q k n (pc) ls (.int x :: st) σ := by
  intro p e s m args below meth c A H locs L F hP hD hS hl
  exact lv_tableOut F.1 F.2.1 hd h ht (kk p e s m args below meth c A H locs L F hP hD hS hl)
end JR
