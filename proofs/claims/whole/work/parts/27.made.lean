/-! objects that are made: a judgement over worlds as lists -/
/-- beside: the method's name, and that arrays of pictures can be made -/
def kN (M : jM) (meth : Method) (s : State) : Prop := meth.name = M.y.name ∧ va_AO "InkCoder$Picture" s
abbrev kZ : Type := List Frame → (Nat → Prop) → State → State → Prop
def kV (G : jG) (M : jM) (R : Room) (Z : kZ) (k n pc : Nat) (ls : List (Nat × Value)) (st : List Value) (ws : va_W) : Prop :=
  ∀ (p : Program) (e : Env) (s : State) (m : MethodId) (args : Array Value) (below : List Frame) (meth : Method) (c : Code) (A : Nat → Prop) (H : Heap) (locs : List Loc) (L : Array Slot),
    jF G M p s m args meth c A → kN M meth s → va_P G.D jCl ws H → va_D A ws → va_S A s.heap H locs → lv_has L M.nL ls →
    W p G.l e R s m args below meth c H locs k n (Z below A s) (F0 m pc L st)
theorem ksto {ls ls' : List (Nat × Value)} {i : Nat} {v : Value} (h : ∀ q ∈ ls', q = (i, v) ∨ (q ∈ ls ∧ (!(q.1 == i) && !(q.1 + 1 == i && q.2.category == 2)) = true)) : ∀ q ∈ ls', q ∈ (i, v) :: ls.filter (fun q => !(q.1 == i) && !(q.1 + 1 == i && q.2.category == 2)) := by
  intro q hq
  rcases h q hq with rfl | ⟨h1, h2⟩
  · exact List.mem_cons_self
  · exact List.mem_cons_of_mem _ (List.mem_filter.mpr ⟨h1, h2⟩)
section KR
variable {G : jG} {M : jM} {R : Room} {Z : kZ} {k n pc : Nat} {ls : List (Nat × Value)} {st : List Value} {ws : va_W}
theorem kv_iconst {z : Int} (v : Int32) (hd : decode M.cc pc = .ok (.iconst z, 1)) (hv : Int32.ofInt z = v) (kk : kV G M R Z k n (pc + 1) ls (.int v :: st) ws) : kV G M R Z k n pc ls st ws := by
  intro p e s m args below meth c A H locs L F hN hP hD hS hl
  exact lv_iconst F.1 F.2.1 hd hv (kk p e s m args below meth c A H locs L F hN hP hD hS hl)
theorem kv_bipush {z : Int} (v : Int32) (hd : decode M.cc pc = .ok (.bipush z, 2)) (hv : (Int8.ofInt z).toInt32 = v) (kk : kV G M R Z k n (pc + 2) ls (.int v :: st) ws) : kV G M R Z k n pc ls st ws := by
  intro p e s m args below meth c A H locs L F hN hP hD hS hl
  exact lv_bipush F.1 F.2.1 hd hv (kk p e s m args below meth c A H locs L F hN hP hD hS hl)
theorem kv_sipush {z : Int} (v : Int32) (hd : decode M.cc pc = .ok (.sipush z, 3)) (hv : (Int16.ofInt z).toInt32 = v) (kk : kV G M R Z k n (pc + 3) ls (.int v :: st) ws) : kV G M R Z k n pc ls st ws := by
  intro p e s m args below meth c A H locs L F hN hP hD hS hl
  exact lv_sipush F.1 F.2.1 hd hv (kk p e s m args below meth c A H locs L F hN hP hD hS hl)
theorem kv_iload_n {q : Fin 4} {x : Int32} (i : Nat) (hd : decode M.cc pc = .ok (.iload_n q, 1)) (h : ls[i]? = some ((q : Nat), .int x)) (kk : kV G M R Z k n (pc + 1) ls (.int x :: st) ws) : kV G M R Z k n pc ls st ws := by
  intro p e s m args below meth c A H locs L F hN hP hD hS hl
  exact lv_iload_n F.1 F.2.1 hd rfl (lv_at hl i h) (kk p e s m args below meth c A H locs L F hN hP hD hS hl)
theorem kv_aload_n {q : Fin 4} {x : Nat} (i : Nat) (hd : decode M.cc pc = .ok (.aload_n q, 1)) (h : ls[i]? = some ((q : Nat), .ref x)) (kk : kV G M R Z k n (pc + 1) ls (.ref x :: st) ws) : kV G M R Z k n pc ls st ws := by
  intro p e s m args below meth c A H locs L F hN hP hD hS hl
  exact lv_aload_n F.1 F.2.1 hd rfl (lv_at hl i h) (kk p e s m args below meth c A H locs L F hN hP hD hS hl)
theorem kv_istore_n {z : Fin 4} {x : Int32} {i : Nat} {ls1 : List (Nat × Value)} (hd : decode M.cc pc = .ok (.istore_n z, 1)) (hi : (z : Nat) = i) (hn : i < M.nL) (hs : ∀ q ∈ ls1, q = (i, .int x) ∨ (q ∈ ls ∧ (!(q.1 == i) && !(q.1 + 1 == i && q.2.category == 2)) = true)) (kk : kV G M R Z k n (pc + 1) ls1 st ws) : kV G M R Z k n pc ls (.int x :: st) ws := by
  intro p e s m args below meth c A H locs L F hN hP hD hS hl
  exact lv_istore_n F.1 F.2.1 hd hi hl hn rfl (fun L1 hl1 => kk p e s m args below meth c A H locs L1 F hN hP hD hS (hl1.mono9 (ksto hs)))
theorem kv_istore {x : Int32} {i : Nat} {ls1 : List (Nat × Value)} (hd : decode M.cc pc = .ok (.istore i, 2)) (hn : i < M.nL) (hs : ∀ q ∈ ls1, q = (i, .int x) ∨ (q ∈ ls ∧ (!(q.1 == i) && !(q.1 + 1 == i && q.2.category == 2)) = true)) (kk : kV G M R Z k n (pc + 2) ls1 st ws) : kV G M R Z k n pc ls (.int x :: st) ws := by
  intro p e s m args below meth c A H locs L F hN hP hD hS hl
  exact lv_istore F.1 F.2.1 hd hl hn rfl (fun L1 hl1 => kk p e s m args below meth c A H locs L1 F hN hP hD hS (hl1.mono9 (ksto hs)))
theorem kv_astore_n {z : Fin 4} {x : Nat} {i : Nat} {ls1 : List (Nat × Value)} (hd : decode M.cc pc = .ok (.astore_n z, 1)) (hi : (z : Nat) = i) (hn : i < M.nL) (hs : ∀ q ∈ ls1, q = (i, .ref x) ∨ (q ∈ ls ∧ (!(q.1 == i) && !(q.1 + 1 == i && q.2.category == 2)) = true)) (kk : kV G M R Z k n (pc + 1) ls1 st ws) : kV G M R Z k n pc ls (.ref x :: st) ws := by
  intro p e s m args below meth c A H locs L F hN hP hD hS hl
  exact lv_astore_n F.1 F.2.1 hd hi hl hn rfl (fun L1 hl1 => kk p e s m args below meth c A H locs L1 F hN hP hD hS (hl1.mono9 (ksto hs)))
theorem kv_iinc {i : Nat} {z : Int} {x : Int32} {ls1 : List (Nat × Value)} (j : Nat) (v : Int32) (hd : decode M.cc pc = .ok (.iinc i z, 3)) (h : ls[j]? = some (i, .int x)) (hv : x + Int32.ofInt z = v) (hn : i < M.nL) (hs : ∀ q ∈ ls1, q = (i, .int v) ∨ (q ∈ ls ∧ (!(q.1 == i) && !(q.1 + 1 == i && q.2.category == 2)) = true)) (kk : kV G M R Z k n (pc + 3) ls1 st ws) : kV G M R Z k n pc ls st ws := by
  intro p e s m args below meth c A H locs L F hN hP hD hS hl
  exact lv_iinc F.1 F.2.1 hd hl h hv hn rfl (fun L1 hl1 => kk p e s m args below meth c A H locs L1 F hN hP hD hS (hl1.mono9 (ksto hs)))
theorem kv_dup {v : Value} (hd : decode M.cc pc = .ok (.dup, 1)) (hc : v.category = 1) (kk : kV G M R Z k n (pc + 1) ls (v :: v :: st) ws) : kV G M R Z k n pc ls (v :: st) ws := by
  intro p e s m args below meth c A H locs L F hN hP hD hS hl
  exact lv_dup F.1 F.2.1 hd hc (kk p e s m args below meth c A H locs L F hN hP hD hS hl)
theorem kv_icmp_ge {x y : Int32} {off : Int} (tgt : Nat) (hd : decode M.cc pc = .ok (.if_icmp .ge off, 3)) (ht : (pc : Int) + off = (tgt : Int)) (kt : y ≤ x → kV G M R Z k n tgt ls st ws) (kf : ¬ y ≤ x → kV G M R Z k n (pc + 3) ls st ws) : kV G M R Z k n pc ls (.int y :: .int x :: st) ws := by
  intro p e s m args below meth c A H locs L F hN hP hD hS hl
  exact lv_icmp_ge F.1 F.2.1 hd ht (fun h => kt h p e s m args below meth c A H locs L F hN hP hD hS hl) (fun h => kf h p e s m args below meth c A H locs L F hN hP hD hS hl)
theorem kv_goto {off : Int} (tgt : Nat) (hd : decode M.cc pc = .ok (.goto off, 3)) (ht : (pc : Int) + off = (tgt : Int)) (kk : kV G M R Z k n tgt ls st ws) : kV G M R Z k n pc ls st ws := by
  intro p e s m args below meth c A H locs L F hN hP hD hS hl
  exact lv_goto F.1 F.2.1 hd ht (kk p e s m args below meth c A H locs L F hN hP hD hS hl)
theorem kv_objinit {idx a : Nat} (hd : decode M.cc pc = .ok (.invokespecial idx, 3)) (h1 : Cond.methodLink M.own idx Lib.objectInit ∈ jTW) (h2 : Cond.instanceMethod Lib.objectInit ∈ jTW) (h3 : Cond.code Lib.objectInit ⟨#[0xb1]⟩ 1 none ∈ jTW) (h8 : (st.map fun v => v.category).sum ≤ 8) (hf : 1 ≤ R.frames) (hl0 : 20 ≤ R.locals) (kk : kV G M R Z k n (pc + 3) ls st ws) : kV G M R Z k n pc ls (.ref a :: st) ws := by
  intro p e s m args below meth c A H locs L F hN hP hD hS hl
  have hts := F.2.2.2.2.2.1
  exact W.objInit F.1 F.2.1 F.2.2.2.2.1 (hts _ h1) (hts _ h2) (hts _ h3) rfl (by rw [F.2.2.1]; exact hl.1) rfl hd hf (Nat.le_trans (Nat.add_le_add_right (lv_room h8) 12) hl0) (kk p e s m args below meth c A H locs L F hN hP hD hS hl)
theorem kv_new {C : String} {T : u_T} {N ci idx : Nat} {fs : List Value} (ty : Nat → FieldType) (hd : decode M.cc pc = .ok (.new idx, 3)) (hc : jCl[ci]? = some (C, T, N)) (hin : ∀ w ∈ u_ws C T N, w ∈ jTW) (hty : ∀ k, k < N → parseFieldDescriptor (T k).2.2.1 = some (ty k)) (h1 : Cond.classLink M.own idx C ∈ jTW) (h2 : Cond.instantiable C N ∈ jTW) (h3 : Cond.initialized C ∈ jTW) (hfs : ∀ j, j < N → defaultValue (ty j) = vp_V fs j) (hk : k + 1 ≤ R.cells) (hn : n + N ≤ R.slots) (kk : ∀ q, kV G M R Z (k + 1) (n + N) (pc + 3) ls (.ref q :: st) (ws ++ [(q, .inr (ci, fs))])) : kV G M R Z k n pc ls st ws := by
  intro p e s m args below meth c A H locs L F hN hP hD hS hl
  have hts := F.2.2.2.2.2.1
  exact va_new F.1 F.2.1 hts hin ty hty F.2.2.2.2.1 (hts _ h1) (hts _ h2) (hts _ h3) F.2.2.2.2.2.2.2.1 hP hD hS F.2.2.2.2.2.2.2.2.1 hc hfs hk hn hd (fun q H1 hP1 hD1 hS1 => kk q p e s m args below meth c A H1 locs L F hN hP1 hD1 hS1 hl)
theorem kv_newi {N : Nat} {x : Int32} (hd : decode M.cc pc = .ok (.newarray .int, 2)) (h1 : Cond.arrayClass .int ∈ jTW) (hx : ¬ x < 0) (hN0 : x.toNatClampNeg = N) (hb : N * 4 ≤ 536870912) (hk : k + 1 ≤ R.cells) (hn : n + N ≤ R.slots) (kk : ∀ q, kV G M R Z (k + 1) (n + N) (pc + 2) ls (.ref q :: st) (ws ++ [(q, .inl (G.tI, N, .inl fun _ => 0))])) : kV G M R Z k n pc ls (.int x :: st) ws := by
  intro p e s m args below meth c A H locs L F hN hP hD hS hl
  have hts := F.2.2.2.2.2.1
  have hK := F.2.2.2.2.2.2.2.1
  refine va_newa (atype := .int) (ty := .int) (a0 := (N, .inl fun _ => 0)) F.1 F.2.1 (hts _ h1) rfl hK hP hD hS F.2.2.2.2.2.2.2.2.1 (fun _ => rfl) hx hN0 hb hk hn hd (fun q cA H1 hK1 hP1 hD1 hS1 => ?_)
  have e1 : s.vm.findClass ("[" ++ FieldType.int.toString) = some cA := (hK1.2 3 (cA, .int) rfl).2
  have e2 : s.vm.findClass ("[" ++ FieldType.int.toString) = some G.tI := (hK.2 0 (G.tI, .int) rfl).2
  have e3 : cA = G.tI := Option.some.inj (e1.symm.trans e2)
  subst e3
  exact kk q p e s m args below meth c A H1 locs L F hN hP1 hD1 hS1 hl
theorem kv_newl {N : Nat} {x : Int32} (hd : decode M.cc pc = .ok (.newarray .long, 2)) (h1 : Cond.arrayClass .long ∈ jTW) (hx : ¬ x < 0) (hN0 : x.toNatClampNeg = N) (hb : N * 8 ≤ 536870912) (hk : k + 1 ≤ R.cells) (hn : n + N ≤ R.slots) (kk : ∀ q, kV G M R Z (k + 1) (n + N) (pc + 2) ls (.ref q :: st) (ws ++ [(q, .inl (G.tL, N, .inr (.inl fun _ => 0)))])) : kV G M R Z k n pc ls (.int x :: st) ws := by
  intro p e s m args below meth c A H locs L F hN hP hD hS hl
  have hts := F.2.2.2.2.2.1
  have hK := F.2.2.2.2.2.2.2.1
  refine va_newa (atype := .long) (ty := .long) (a0 := (N, .inr (.inl fun _ => 0))) F.1 F.2.1 (hts _ h1) rfl hK hP hD hS F.2.2.2.2.2.2.2.2.1 (fun _ => rfl) hx hN0 hb hk hn hd (fun q cA H1 hK1 hP1 hD1 hS1 => ?_)
  have e1 : s.vm.findClass ("[" ++ FieldType.long.toString) = some cA := (hK1.2 3 (cA, .long) rfl).2
  have e2 : s.vm.findClass ("[" ++ FieldType.long.toString) = some G.tL := (hK.2 2 (G.tL, .long) rfl).2
  have e3 : cA = G.tL := Option.some.inj (e1.symm.trans e2)
  subst e3
  exact kk q p e s m args below meth c A H1 locs L F hN hP1 hD1 hS1 hl
theorem kv_newq {N idx : Nat} {x : Int32} (hd : decode M.cc pc = .ok (.anewarray idx, 3)) (h1 : Cond.classLink M.own idx "InkCoder$Picture" ∈ jTW) (hx : ¬ x < 0) (hN0 : x.toNatClampNeg = N) (hb : N * 4 ≤ 536870912) (hk : k + 1 ≤ R.cells) (hn : n + N ≤ R.slots) (kk : ∀ q, kV G M R Z (k + 1) (n + N) (pc + 3) ls (.ref q :: st) (ws ++ [(q, .inl (G.tP, N, .inr (.inr (.inr (.inr fun _ => none)))))])) : kV G M R Z k n pc ls (.int x :: st) ws := by
  intro p e s m args below meth c A H locs L F hN hP hD hS hl
  have hts := F.2.2.2.2.2.1
  have hK := F.2.2.2.2.2.2.2.1
  refine va_newq (C := "InkCoder$Picture") F.1 F.2.1 F.2.2.2.2.1 (hts _ h1) hN.2 hK hP hD hS F.2.2.2.2.2.2.2.2.1 hx hN0 hb hk hn hd (fun q cA H1 hK1 hP1 hD1 hS1 => ?_)
  obtain ⟨-, -, -, -, -, e1⟩ := (hK1.2 3 (cA, .object "InkCoder$Picture") rfl).2
  obtain ⟨-, -, -, -, -, e2⟩ := (hK.2 1 (G.tP, .object "InkCoder$Picture") rfl).2
  have e3 : cA = G.tP := Option.some.inj (e1.symm.trans e2)
  subst e3
  exact kk q p e s m args below meth c A H1 locs L F hN hP1 hD1 hS1 hl
/-- a final field, in its constructor -/
theorem kv_putF {a q0 idx ci kk : Nat} {fs : List Value} {v : Value} {C : String} {T : u_T} {N : Nat} (ty : Nat → FieldType) (hd : decode M.cc pc = .ok (.putfield idx, 3)) (hc : jCl[ci]? = some (C, T, N)) (hin : ∀ w ∈ u_ws C T N, w ∈ jTW) (hty : ∀ k, k < N → parseFieldDescriptor (T k).2.2.1 = some (ty k)) (hnm : ∀ a, a < N → ∀ b, b < N → a ≠ b → (T a).2.1 ≠ (T b).2.1) (hkk : kk < N) (he : ws[q0]? = some (a, .inr (ci, fs))) (h1 : Cond.fieldLink M.own idx M.own (T kk).2.1 (T kk).2.2.1 ∈ jTW) (hdecl : (T kk).1 = M.own) (hfin : (T kk).2.2.2 = true) (hin2 : M.y.name = "<init>") (hn0 : narrow (ty kk) v = v) (hft : fits (ty kk) v = true) (hl0 : kk < fs.length) (kont : kV G M R Z k n (pc + 3) ls st (ws.set q0 (a, .inr (ci, fs.set kk v)))) : kV G M R Z k n pc ls (v :: .ref a :: st) ws := by
  intro p e s m args below meth c A H locs L F hN hP hD hS hl
  have hts := F.2.2.2.2.2.1
  exact va_putF F.1 F.2.1 hts hin ty hty hnm F.2.2.2.2.1 F.2.2.2.2.2.2.2.1 hP hD hS q0 he hc kk hkk (hts _ h1) (fun x hx => by rw [← hdecl]; exact hx) hfin (hN.1.trans hin2) hdecl (hty kk hkk) hn0 hft hl0 hd (fun H1 locs1 hP1 hD1 hS1 => kont p e s m args below meth c A H1 locs1 L F hN hP1 hD1 hS1 hl)
theorem kv_put {a q0 idx ci kk : Nat} {fs : List Value} {v : Value} {C : String} {T : u_T} {N : Nat} (ty : Nat → FieldType) (hd : decode M.cc pc = .ok (.putfield idx, 3)) (hc : jCl[ci]? = some (C, T, N)) (hin : ∀ w ∈ u_ws C T N, w ∈ jTW) (hty : ∀ k, k < N → parseFieldDescriptor (T k).2.2.1 = some (ty k)) (hnm : ∀ a, a < N → ∀ b, b < N → a ≠ b → (T a).2.1 ≠ (T b).2.1) (hkk : kk < N) (he : ws[q0]? = some (a, .inr (ci, fs))) (h1 : Cond.fieldLink M.own idx M.own (T kk).2.1 (T kk).2.2.1 ∈ jTW) (hdecl : (T kk).1 = M.own) (hfin : (T kk).2.2.2 = false) (hn0 : narrow (ty kk) v = v) (hft : fits (ty kk) v = true) (hl0 : kk < fs.length) (kont : kV G M R Z k n (pc + 3) ls st (ws.set q0 (a, .inr (ci, fs.set kk v)))) : kV G M R Z k n pc ls (v :: .ref a :: st) ws := by
  intro p e s m args below meth c A H locs L F hN hP hD hS hl
  have hts := F.2.2.2.2.2.1
  exact va_put F.1 F.2.1 hts hin ty hty hnm F.2.2.2.2.1 F.2.2.2.2.2.2.2.1 hP hD hS q0 he hc kk hkk (hts _ h1) (fun x hx => by rw [← hdecl]; exact hx) hfin (hty kk hkk) hn0 hft hl0 hd (fun H1 locs1 hP1 hD1 hS1 => kont p e s m args below meth c A H1 locs1 L F hN hP1 hD1 hS1 hl)
theorem kv_get {a q0 idx ci kk : Nat} {fs : List Value} {v : Value} {C : String} {T : u_T} {N : Nat} (hd : decode M.cc pc = .ok (.getfield idx, 3)) (hc : jCl[ci]? = some (C, T, N)) (hin : ∀ w ∈ u_ws C T N, w ∈ jTW) (hkk : kk < N) (he : ws[q0]? = some (a, .inr (ci, fs))) (h1 : Cond.fieldLink M.own idx M.own (T kk).2.1 (T kk).2.2.1 ∈ jTW) (hdecl : (T kk).1 = M.own) (hv : fs[kk]? = some v) (kont : kV G M R Z k n (pc + 3) ls (v :: st) ws) : kV G M R Z k n pc ls (.ref a :: st) ws := by
  intro p e s m args below meth c A H locs L F hN hP hD hS hl
  have hts := F.2.2.2.2.2.1
  exact va_get F.1 F.2.1 hts hin F.2.2.2.2.1 F.2.2.2.2.2.2.2.1 hP q0 he hc kk hkk (hts _ h1) (fun x hx => by rw [← hdecl]; exact hx) hv hd (kont p e s m args below meth c A H locs L F hN hP hD hS hl)
theorem kv_iast {a q0 N : Nat} {f : Nat → Int32} {i x : Int32} (hd : decode M.cc pc = .ok (.iastore, 1)) (he : ws[q0]? = some (a, .inl (G.tI, N, .inl f))) (hin : vp_in i N) (kont : kV G M R Z k n (pc + 1) ls st (ws.set q0 (a, .inl (G.tI, N, .inl (upd f i.toNatClampNeg x))))) : kV G M R Z k n pc ls (.int x :: .int i :: .ref a :: st) ws := by
  intro p e s m args below meth c A H locs L F hN hP hD hS hl
  exact va_iast F.1 F.2.1 F.2.2.2.2.2.2.2.1 hP hD hS q0 0 he rfl hin hd (fun H1 locs1 hP1 hD1 hS1 => kont p e s m args below meth c A H1 locs1 L F hN hP1 hD1 hS1 hl)
theorem kv_astq {a q0 N v qk : Nat} {vs : List Value} {f : Nat → Option Nat} {i : Int32} (hd : decode M.cc pc = .ok (.aastore, 1)) (he : ws[q0]? = some (a, .inl (G.tP, N, .inr (.inr (.inr (.inr f)))))) (hv : ws[qk]? = some (v, .inr (1, vs))) (hin : vp_in i N) (kont : kV G M R Z k n (pc + 1) ls st (ws.set q0 (a, .inl (G.tP, N, .inr (.inr (.inr (.inr (va_up f i.toNatClampNeg (some v))))))))) : kV G M R Z k n pc ls (.ref v :: .int i :: .ref a :: st) ws := by
  intro p e s m args below meth c A H locs L F hN hP hD hS hl
  exact va_astq (r := ("InkCoder$Picture", jTPI, 3)) F.1 F.2.1 F.2.2.2.2.2.2.2.1 hP hD hS q0 1 qk 1 he rfl hv rfl hin hd (fun H1 locs1 hP1 hD1 hS1 => kont p e s m args below meth c A H1 locs1 L F hN hP1 hD1 hS1 hl)
end KR
/-! contracts of constructors -/
def kQ (G : jG) (A : Nat → Prop) (Q : va_W → Prop) : State → Outcome → State → Prop := fun st oc t => (∃ ws : va_W, Q ws ∧ oc = .returned none ∧ va_P G.D jCl ws t.heap ∧ va_K G.D jCl (jty G) t ∧ va_D A ws) ∧ va_F A st t
def kE (G : jG) (R : Room) (Q : va_W → Prop) : kZ := fun below A s => jMQ below (kQ G A Q) s R.cells R.slots A
theorem kv_ret {G : jG} {M : jM} {R : Room} {Q : va_W → Prop} {k n pc : Nat} {ls : List (Nat × Value)} {ws : va_W} (hd : decode M.cc pc = .ok (.return_, 1)) (hr : M.ret = none) (h1 : k ≤ R.cells) (h2 : n ≤ R.slots) (hq : Q ws) : kV G M R (kE G R Q) k n pc ls [] ws := by
  intro p e s m args below meth c A H locs L F hN hP hD hS hl
  refine W.widen h1 h2 (W.imp9 (W.vret (Qc := fun _ => kQ G A Q) (free := A) F.1 F.2.1 (F.2.2.2.1.trans hr) (fun t ht hW => ⟨⟨ws, hq, rfl, by rw [ht]; exact hP, va_K.moved hW.alike F.2.2.2.2.2.2.2.1, hD⟩, hS.F ht⟩) hS.2.2 hd F.2.2.2.2.2.2.1) (fun t h => jMQ.of h))
def kS (G : jG) (ws : va_W) (sz : Nat) (U : State) : Prop := U.heap.size = sz ∧ va_P G.D jCl ws U.heap ∧ va_K G.D jCl (jty G) U ∧ va_D (fun _ => True) ws ∧ jT G (va_A ws sz) U ∧ va_AO "InkCoder$Picture" U
def kSp (G : jG) (M : jM) (rm : Room) (as : List Value) (ws : va_W) (Q : va_W → Prop) : Prop :=
  ∀ sz : Nat, MetFree G.l M.y (headSpec (jws M) rm) (fun a U => a = as.toArray ∧ kS G ws sz U) (fun _ _ _ _ _ => True) (fun _ st oc t => kQ G (va_A ws sz) Q st oc t ∧ ∃ L, jEnd st t L rm.cells rm.slots ∧ ∀ q ∈ L, va_A ws sz q.base)
theorem kSp.of {G : jG} {M : jM} {rm : Room} {as : List Value} {ws : va_W} {Q : va_W → Prop} (hy : plainName M.y.cls = true) (hoy : M.y.cls = M.own) (hlen : (lg_sl as).length ≤ M.nL) (h : kV G M rm (kE G rm Q) 0 0 0 (lv_args 0 as) [] ws) : kSp G M rm as ws Q := by
  intro sz
  refine MetFree.of_bodyS (code := M.cc) (maxLocals := M.nL) (ret := M.ret) hy ?_ ?_
  · intro args s m hp hn
    obtain ⟨m', meth, c, h0, h1, h2, h3, h4, -, h5, h6, -⟩ := jcw_spec (atoms_spec (ws := jws M) hp _ List.mem_cons_self)
    cases hn.symm.trans h0
    exact ⟨meth, c, h1, h2, h3, h4, h5, h6⟩
  · intro p e s m args below meth c s₁ B hml hP _
    obtain ⟨rfl, hsz, hPw, hK, hD0, hT, hO⟩ := hP
    have hh0 : s₁.heap = s.heap := by rw [B.state]; rfl
    have hts0 := atoms_spec (ws := jws M) B.pre
    obtain ⟨m', meth', c', h0, h1, h2, h3, h4, hhs, h5, h6, -⟩ := jcw_spec (hts0 _ List.mem_cons_self)
    cases B.named.symm.trans h0
    cases B.method.symm.trans h1
    cases (Stand.of_body B).code.symm.trans h2
    have F : jF G M p s m as.toArray meth c (va_A ws sz) := ⟨B.exec, B.bytes, hml, B.returns, by rw [← hoy]; exact findClass_of_methodNamed B.named, fun w hw => hts0 w (List.mem_cons_of_mem _ hw), B.notSynchronized, hK, fun q hq => Or.inr (by rw [← hsz]; exact hq), hT, hhs⟩
    have hent := lv_entry as (n := M.nL) hlen
    have W0 := h p e s m _ below meth c _ s.heap [] _ F ⟨(name_of_methodNamed B.named B.method).1, hO⟩ hPw hD0.self va_S.rf hent
    obtain ⟨t, a1, o, b1, b2, b3, b4⟩ := W0 s₁ hh0 (Stand.of_body B)
    rw [lg_entry_eq]
    exact ⟨t, o, a1, b1, b2, b3, b4⟩
theorem kSp.met {G : jG} {M : jM} {rm : Room} {as : List Value} {ws : va_W} {Q : va_W → Prop} (h : kSp G M rm as ws Q) (sz : Nat) : Met G.l M.y (jws M) rm (fun a U => a = as.toArray ∧ kS G ws sz U) (fun _ => kQ G (va_A ws sz) Q) rm.cells rm.slots (va_A ws sz) := by
  intro p e ha hc hk s m args below hf happ hP hK
  obtain ⟨n, o, h1, h2, h3, h4, L, h5, h6⟩ := h sz p e ha hc hk s m args below hf happ hP hK
  refine ⟨n, o, h1, h2, h3, h4, L, ⟨?_, h5.1, h5.2⟩, h6⟩
  obtain ⟨⟨ws', -, ho, -⟩, -⟩ := h4
  exact ⟨_, ho⟩
theorem kS.heap {G : jG} {ws : va_W} {sz : Nat} {U T : State} (h : kS G ws sz U) (hh : T.heap = U.heap) (hW : U.WarmedH T.vm) : kS G ws sz T := by
  obtain ⟨h1, h2, h3, h4, h5, h6⟩ := h
  exact ⟨by rw [hh]; exact h1, by rw [hh]; exact h2, h3.moved hW.alike, h4, h5.move hW (fun a _ _ => by rw [hh]) (fun _ h => h), h6.moved hW.alike⟩
theorem kS.blind {G : jG} {ws : va_W} {sz : Nat} {av : Array Value} : FrameBlind (fun a U => a = av ∧ kS G ws sz U) := by
  intro a U g mk h
  exact ⟨h.1, h.2.heap rfl (State.WarmedH.refl U)⟩
theorem kap_l {wr w1 : va_W} {k : Nat} {q : Nat × va_E} (h : wr[k]? = some q) : (wr ++ w1)[k]? = some q := by
  rw [List.getElem?_append_left (List.getElem?_eq_some_iff.mp h).1]; exact h
theorem kap_r {wr w1 : va_W} {k : Nat} {q : Nat × va_E} (h : w1[k]? = some q) : (wr ++ w1)[wr.length + k]? = some q := by
  rw [List.getElem?_append_right (by omega), Nat.add_sub_cancel_left]; exact h
theorem kfree {A : Nat → Prop} {wr wc : va_W} {H0 H : Heap} {locs : List Loc} (hD : va_D A (wr ++ wc)) (hS : va_S A H0 H locs) (hA : ∀ q, H0.size ≤ q → A q) : ∀ q, va_A wc H.size q → A q := by
  intro q h
  rcases h with ⟨i, e, h⟩ | h
  · exact hD.2 _ (q, e) (kap_r h)
  · exact hA q (Nat.le_trans hS.1 h)
theorem kjoin {A : Nat → Prop} {D : va_G} {cl : List vw_C} {wr wc w1 : va_W} {H H1 : Heap} (hP : va_P D cl (wr ++ wc) H) (hD : va_D A (wr ++ wc)) (hk : ∀ q : Nat, q < H.size → ¬ va_A wc H.size q → H1[q]? = H[q]?) (hF : ∀ q, va_A wc H.size q → A q) (hP1 : va_P D cl w1 H1) (hD1 : va_D (va_A wc H.size) w1) : va_P D cl (wr ++ w1) H1 ∧ va_D A (wr ++ w1) := by
  have apart : ∀ (k : Nat) (q : Nat × va_E), wr[k]? = some q → q.1 < H.size ∧ ¬ va_A wc H.size q.1 := by
    intro k q hq
    have h2 := kap_l (w1 := wc) hq
    have hl := (hP k q h2).lt
    refine ⟨hl, fun h => ?_⟩
    rcases h with ⟨k2, e, h⟩ | h
    · have hij := hD.1 k _ q (q.1, e) h2 (kap_r h) rfl
      have := (List.getElem?_eq_some_iff.mp hq).1
      omega
    · omega
  refine ⟨va_P.app (fun k q hq => ?_) hP1, va_D.app ⟨fun i j x y hx hy => hD.1 i j x y (kap_l hx) (kap_l hy), fun k q hq => hD.2 k q (kap_l hq)⟩ (hD1.weaken (fun k q _ h => hF q.1 h)) (fun i j x y hx hy hxy => ?_)⟩
  · obtain ⟨g1, g2⟩ := apart k q hq
    exact (hP k q (kap_l hq)).kept (hk q.1 g1 g2)
  · exact (apart i x hx).2 (by rw [hxy]; exact hD1.2 j y hy)
theorem kback {G : jG} {M : jM} {R : Room} {Z : kZ} {k n pc mc ms : Nat} {ls : List (Nat × Value)} {st st0 : List Value} {wr wc : va_W} {Q1 : va_W → Prop}
    {p : Program} {e : Env} {s : State} {m : MethodId} {args : Array Value} {below : List Frame} {meth : Method} {c : Code} {A : Nat → Prop} {H : Heap} {locs : List Loc} {L : Array Slot}
    (F : jF G M p s m args meth c A) (hN : kN M meth s) (hP : va_P G.D jCl (wr ++ wc) H) (hD : va_D A (wr ++ wc)) (hS : va_S A s.heap H locs) (hl : lv_has L M.nL ls)
    (run : va_Run p G.l e R s m args below meth c H locs k n mc ms (F0 m pc L st0) st (kQ G (va_A wc H.size) Q1) (va_A wc H.size))
    (kont : ∀ w1, Q1 w1 → kV G M R Z (k + mc) (n + ms) (pc + 3) ls st (wr ++ w1)) :
    W p G.l e R s m args below meth c H locs k n (Z below A s) (F0 m pc L st0) := by
  intro T hT X
  obtain ⟨v, st₀, t, T', L', h0, X', hL, e1, e2, ⟨⟨w1, hq, ho, hPt, hKt, hDt⟩, hz, hk⟩, stp⟩ := run T hT X
  have hv : v = none := Outcome.returned.inj ho
  subst hv
  have hAA := kfree hD hS F.2.2.2.2.2.2.2.2.1
  rw [h0] at hz hk
  obtain ⟨hP9, hD9⟩ := kjoin hP hD hk hAA hPt hDt
  obtain ⟨t2, a1, b1⟩ := kont w1 hq p e s m args below meth c A T'.heap (locs ++ L') L F hN (by rw [e1]; exact hP9) hD9
    ⟨Nat.le_trans hS.1 (by rw [e1]; exact hz), fun q h1 h2 => by rw [e1, hk q (Nat.lt_of_lt_of_le h1 hS.1) (fun z => h2 (hAA q z))]; exact hS.2.1 q h1 h2, fun q hq => by
      rcases List.mem_append.mp hq with h | h
      · exact hS.2.2 q h
      · exact hAA _ (hL q h)⟩ hl T' rfl X'
  exact ⟨t2, stp t2 a1, b1⟩
/-- a constructor is called on the world's last cells -/
theorem kv_call {G : jG} {M : jM} {R : Room} {Z : kZ} {k n pc : Nat} {ls : List (Nat × Value)} {st st0 : List Value} {wr wc ws : va_W} {Q1 : va_W → Prop} {M1 : jM} {rm : Room} {a : Nat} {as : List Value} {idx : Nat}
    (hM : kSp G M1 rm (.ref a :: as) wc Q1) (hws : ws = wr ++ wc) (hd : decode M.cc pc = .ok (.invokespecial idx, 3)) (c0 : jC0 M1 as.length) (hrt : M1.ret = none) (hnm : M1.y.name = "<init>") (lk : jLk M.own idx M1.y) (hin : Cond.instanceMethod M1.y ∈ jTW) (hk0 : st0 = as.reverse ++ .ref a :: st) (h8 : (st.map fun v => v.category).sum ≤ 8)
    (hR : rm.frames + 1 ≤ R.frames ∧ 8 + (M1.nL + 11) + rm.locals ≤ R.locals ∧ k + rm.cells ≤ R.cells ∧ n + rm.slots ≤ R.slots)
    (kont : ∀ w1, Q1 w1 → kV G M R Z (k + rm.cells) (n + rm.slots) (pc + 3) ls st (wr ++ w1)) : kV G M R Z k n pc ls st0 ws := by
  subst hws
  intro p e s m args below meth c A H locs L F hN hP hD hS hl
  have hts := F.2.2.2.2.2.1
  obtain ⟨hs0, hcw, hini, hy, hp⟩ := c0
  have hpre : PreS s H (fun a' U => a' = ((Value.ref a :: as)).toArray ∧ kS G wc H.size U) (.ref a :: as) := ⟨kS.blind, fun U hU hW => ⟨rfl, ⟨by rw [hU], by rw [hU]; exact fun i q hq => hP _ q (kap_r hq), va_K.moved hW.alike F.2.2.2.2.2.2.2.1, ⟨fun i j x y hx hy hxy => by
      have := hD.1 _ _ x y (kap_r hx) (kap_r hy) hxy
      omega, fun _ _ _ => trivial⟩, F.2.2.2.2.2.2.2.2.2.1.move hW (fun a h1 h2 => by rw [hU]; exact hS.2.1 a h1 h2) (kfree hD hS F.2.2.2.2.2.2.2.2.1), hN.2.moved hW.alike⟩⟩⟩
  have hgood := pay_in hts (jgoodIn hs0 hcw)
  have hcm : Cond.code M1.y M1.cc M1.nL M1.ret ∈ jws M1 := by
    have e : jcw M1 = Cond.code M1.y M1.cc M1.nL M1.ret := if_pos hs0
    unfold jws; rw [e]; exact List.mem_cons_self
  rw [hrt] at hcm hcw
  rcases lk with lk | ⟨host, lk⟩
  · exact kback F hN hP hD hS hl (va_runI (Ts := jTW) (own := M.own) ⟨F.1, F.2.1, F.2.2.1, F.2.2.2.2.1, hts⟩ (hM.met H.size) ⟨⟨rfl, rfl, hR.1, hR.2.1, hgood, hcm, hts _ hcw, hts _ hini, hy, jlen hp, hts _ lk⟩, hnm, hts _ hin⟩ hpre rfl rfl hl.1 hk0 (lv_room h8) hd ⟨hR.2.2.1, hR.2.2.2⟩) kont
  · exact kback F hN hP hD hS hl (va_runIN (Ts := jTW) (own := M.own) ⟨F.1, F.2.1, F.2.2.1, F.2.2.2.2.1, hts⟩ (hM.met H.size) ⟨⟨⟨rfl, rfl, hR.1, hR.2.1, hgood, hcm⟩, hts _ hcw, hts _ hini, hy, jlen hp, F.nest lk⟩, hnm, hts _ hin⟩ hpre rfl rfl hl.1 hk0 (lv_room h8) hd ⟨hR.2.2.1, hR.2.2.2⟩) kont
