/-! THE CLAIM OUT OF ONE WALK OF THE LAW'S BODY. Your part is whole_start (and what it stands on); all else here is the same for every law, but numbers. -/
def R_law : String := "InkCoderLaw"
def lw_P (b : Addr) (xs : List Int32) (args : Array Value) (s : State) : Prop := args = #[.ref b] ∧ s.IntsAt b xs ∧ xs.length ≤ 3072 ∧ (Jvm.Cond.and given_1 narrow_1).before args s = true
def lw_Q (_ : Array Value) (s : State) (o : Outcome) (t : State) : Prop := o = .returned (some (.int 1)) ∧ Framed s o t [] 601024 7293034
def lw_Z (below : List Frame) (a : Array Value) (s : State) : State → Prop := fun t => ∃ o, t.status = .running ∧ Ended t below o ∧ lw_Q a s o t
/-- the law's own end, with 1 on the stack, nothing written that was there before, its room as the claim has it -/
theorem lw_ret {p : Program} {l : Launch} {e : Env} {s : State} {m : MethodId} {below : List Frame} {meth : Method} {c : Code} {b : Nat} (hx : p.tables.exec = Jvm.exec) (hb : c.code = code) (hr : meth.sig.returnType = ret) (hlocks : meth.locks = false) {pc : Nat} {H : Heap} {ls : Array Slot} (hdg : decode code pc = .ok (.ireturn, 1)) : W p l e room_1 s m #[Value.ref b] below meth c H [] 601024 7293034 (lw_Z below #[Value.ref b] s) (F0 m pc ls [.int 1]) := by
  intro T hT X
  obtain ⟨fs, hret, hrun, hended, hW, hframe⟩ := X.leave (v := some (.int 1)) (hlocks := hlocks) (fun h => by rw [hr] at h; cases h)
  have hmeth' : T.vm.method? m = some meth := X.method'
  refine ⟨T.setFrames fs, ?_, .returned (some (.int 1)), hrun, hended, rfl, ⟨_, rfl⟩, hW, hframe⟩
  jvm_step X.here [X.here.top, hx, hb, hdg, hmeth', hr, ret, narrow_b1]
  (try refine ⟨rfl, ?_⟩); (try refine ⟨rfl, ?_⟩)
  first | (intro acts; rw [hret _ acts rfl rfl rfl]) | rw [hret _ _ rfl rfl rfl]
  exact Steps.refl _
/-- what holds at the law's entry: the machine, the code, the tables' words (any of lw_tbl by 'hts w (by decide +kernel)'), the script of L ints xs at the cell b, what the Statement gives of the start (any of its parts by flat_of_before) -/
def lw_At (p : Program) (s : State) (m : MethodId) (meth : Method) (c : Code) (b L : Nat) (xs : Nat → Int32) : Prop :=
  p.tables.exec = Jvm.exec ∧ c.code = code ∧ meth.sig.returnType = ret ∧ c.maxLocals = 7 ∧ s.vm.findClass R_law = some m.cls ∧ (∀ w ∈ lw_tbl, w.before #[Value.ref b] s = true) ∧ va_X b L xs s s.heap ∧ b < s.heap.size ∧ meth.locks = false ∧ (Jvm.Cond.and given_1 narrow_1).before #[Value.ref b] s = true
def kNf : List Cond := flatC (Jvm.Cond.and given_1 narrow_1)
set_option maxRecDepth 100000 in
theorem st_mem : ∀ q ∈ jSt, Cond.arrayOf (.static q.1 q.2.1 "[I") .int ∈ kNf ∧ Cond.eq (.length (.static q.1 q.2.1 "[I")) (.int (Int32.ofNat q.2.2.2.length)) ∈ kNf ∧ (∀ j, j < q.2.2.2.length → Cond.eq (.elem (.static q.1 q.2.1 "[I") (.int (Int32.ofNat j))) (.int (q.2.2.2.getD j 0)) ∈ kNf) := by decide +kernel
theorem st_len : ∀ q ∈ jSt, q.2.2.2.length < 2 ^ 31 := by decide +kernel
set_option maxRecDepth 100000 in
theorem nc_mem : ∀ q ∈ jNC, Cond.not (.castable q.1 q.2) ∈ kNf := by decide +kernel
theorem st_wd : ∀ q ∈ jSt, Cond.laysStatic q.1 q.2.1 "[I" ∈ lw_tbl ∧ Cond.initialized q.1 ∈ lw_tbl := List.forall_mem_cons.mpr ⟨⟨jmem3 37 rfl, jmem1 6 rfl⟩, List.forall_mem_cons.mpr ⟨⟨jmem3 47 rfl, jmem1 6 rfl⟩, List.forall_mem_cons.mpr ⟨⟨jmem3 49 rfl, jmem1 6 rfl⟩, List.forall_mem_cons.mpr ⟨⟨jmem3 117 rfl, jmem1 20 rfl⟩, List.forall_mem_cons.mpr ⟨⟨jmem3 119 rfl, jmem1 20 rfl⟩, fun _ h => absurd h List.not_mem_nil⟩⟩⟩⟩⟩
theorem cl_wd : ∀ q ∈ jCl, (∀ w ∈ u_ws q.1 q.2.1 q.2.2, w ∈ jTW) ∧ Cond.instantiable q.1 q.2.2 ∈ jTW := List.forall_mem_cons.mpr ⟨⟨juIC, jin1 25 rfl rfl⟩, List.forall_mem_cons.mpr ⟨⟨juPI, jin1 34 rfl rfl⟩, List.forall_mem_cons.mpr ⟨⟨juSR, jin1 56 rfl rfl⟩, List.forall_mem_cons.mpr ⟨⟨juMR, jin1 72 rfl rfl⟩, List.forall_mem_cons.mpr ⟨⟨juBR, jin1 95 rfl rfl⟩, List.forall_mem_cons.mpr ⟨⟨juCX, jin1 110 rfl rfl⟩, List.forall_mem_cons.mpr ⟨⟨juWR, jin1 120 rfl rfl⟩, List.forall_mem_cons.mpr ⟨⟨juRD, jin1 168 rfl rfl⟩, List.forall_mem_cons.mpr ⟨⟨juMO, jin3 235 rfl rfl⟩, fun _ h => absurd h List.not_mem_nil⟩⟩⟩⟩⟩⟩⟩⟩⟩
theorem wd_us : Cond.laysStatic "java/lang/Throwable" "UNASSIGNED_STACK" "[Ljava/lang/StackTraceElement;" ∈ lw_tbl := jmem2 79 rfl
theorem wd_ss : Cond.laysStatic "java/lang/Throwable" "SUPPRESSED_SENTINEL" "Ljava/util/List;" ∈ lw_tbl := jmem2 81 rfl
theorem wd_ao : Cond.arrayOver (.object "InkCoder$Picture") ∈ lw_tbl := jmem1 33 rfl
theorem rf_us : Cond.isRef (.static "java/lang/Throwable" "UNASSIGNED_STACK" "[Ljava/lang/StackTraceElement;") ∈ kNf := by decide +kernel
theorem rf_ss : Cond.isRef (.static "java/lang/Throwable" "SUPPRESSED_SENTINEL" "Ljava/util/List;") ∈ kNf := by decide +kernel
theorem jZl.of {C nm d : String} {A : Nat → Prop} {args : Array Value} {s : State} (hl : (Cond.laysStatic C nm d).before args s = true) (hr : (Cond.isRef (.static C nm d)).before args s = true) (hA : ∀ a : Nat, a < s.heap.size → ¬ A a) : jZl C nm d A s s.heap := by
  obtain ⟨c, k, i, f, a, cell, hc, hi, hst, ha, hcell, hs, hcls, hlt, hty⟩ := Cond.laysStatic_spec hl
  have hv : cell.slots[f.slot]? = some cell.slots[f.slot] := Array.getElem?_eq_getElem hlt
  have e : (Term.static C nm d).eval args s none [] s = some cell.slots[f.slot] := by
    simp [Term.eval, State.fieldNamed?, hi, hst, ha, hcell, hs, hv]
  refine ⟨c, k, i, f, a, cell, cell.slots[f.slot], hc, hi, hst, ha, hcell, hs, hcls, hlt, hty, hv, ?_, hA a (Array.getElem?_eq_some_iff.mp hcell).1⟩
  generalize cell.slots[f.slot] = v at e
  cases v with
  | null => exact Or.inl rfl
  | ref t => exact Or.inr ⟨t, rfl⟩
  | _ => simp [Cond.before, Cond.holds, Cond.value, e] at hr
theorem lw_of {R : Room} {below : List Frame} {A : Nat → Prop} {s t : State} {b : Nat} (hC : R.cells = room_1.cells) (hS : R.slots = room_1.slots) (h : kLw R below A s t) (hA : ∀ q, A q → s.heap.size ≤ q) : lw_Z below #[Value.ref b] s t := by
  obtain ⟨o, g1, g2, ⟨ho, hf⟩, L, ⟨hW, hsame⟩, hL⟩ := h
  rw [hC, hS] at hsame
  exact ⟨o, g1, g2, ho, ⟨_, ho⟩, hW, hsame.weaken (fun y hy hlt => absurd hlt (Nat.not_lt.mpr (hA _ (hL y hy)))) (Nat.le_refl _) (Nat.le_refl _)⟩
set_option maxHeartbeats 4000000 in
theorem whole_start {p : Program} {e : Env} {s : State} {m : MethodId} {below : List Frame} {meth : Method} {c : Code} (l : Launch) (htr : l.stackTraces = false) (hex : c.exceptionTable.toList.map (fun h => (h.startPc, h.endPc, h.handlerPc, h.catchType)) = []) (hnm : meth.name = M_LW_law.y.name) {b L : Nat} {xs : Nat → Int32} (hL : L ≤ 3072) (C0 : lw_At p s m meth c b L xs) : W p l e room_1 s m #[Value.ref b] below meth c s.heap [] 0 0 (lw_Z below #[Value.ref b] s) (entryFrame m ([Value.ref b] : List Value).toArray 7) := by
  obtain ⟨hx, hb, hr, hml, hown, hts, hX, hbl, hlocks, hgv⟩ := C0
  have hs : ∀ w ∈ kNf, w.before #[Value.ref b] s = true := flat_of_before _ hgv
  have htw : ∀ w ∈ jTW, w.before #[Value.ref b] s = true := fun w hw => hts w (List.mem_filter.mp hw).1
  generalize hAe : (fun q : Nat => s.heap.size ≤ q) = A
  have hA1 : ∀ q : Nat, s.heap.size ≤ q → A q := fun q h => by rw [← hAe]; exact h
  have hA2 : ∀ q : Nat, A q → s.heap.size ≤ q := fun q h => by rw [← hAe] at h; exact h
  have hA0 : ∀ a : Nat, a < s.heap.size → ¬ A a := fun a h q => absurd h (Nat.not_lt.mpr (hA2 a q))
  have hst : ∀ q ∈ jSt, ∃ t : Nat, va_Z q.1 q.2.1 "[I" (.ref t) A s s.heap ∧ va_T .int t q.2.2.2.length (fun j => .int (q.2.2.2.getD j 0)) A s s.heap := by
    intro q hq
    obtain ⟨m1, m2, m3⟩ := st_mem q hq
    obtain ⟨w1, w2⟩ := st_wd q hq
    obtain ⟨t, e1, e2⟩ := va_Tof (args := #[Value.ref b]) (tm := .static q.1 q.2.1 "[I") (ty := .int) (N := q.2.2.2.length) (f := fun j => .int (q.2.2.2.getD j 0)) (A := A) (st_len q hq) (hs _ m1) (va_eqt (hs _ m2)) (fun j hj => va_eqt (hs _ (m3 j hj))) hA0
    exact ⟨t, va_Zof (hts _ w1) (hts _ w2) e1 hA0, e2⟩
  obtain ⟨t0, z0⟩ := hst _ (List.mem_of_getElem? (i := 0) rfl)
  obtain ⟨t1, z1⟩ := hst _ (List.mem_of_getElem? (i := 1) rfl)
  obtain ⟨t2, z2⟩ := hst _ (List.mem_of_getElem? (i := 2) rfl)
  obtain ⟨t3, z3⟩ := hst _ (List.mem_of_getElem? (i := 3) rfl)
  obtain ⟨t4, z4⟩ := hst _ (List.mem_of_getElem? (i := 4) rfl)
  have hkn : ∀ c : Nat, ∃ (cC : ClassId) (iS : Nat → Nat), ∀ q : vw_C, jCl[c]? = some q → u_Kn s q.1 q.2.1 q.2.2 cC iS := by
    intro c
    cases hq : jCl[c]? with
    | none => exact ⟨m.cls, fun _ => 0, fun q h => by cases h⟩
    | some q =>
      obtain ⟨w1, w2⟩ := cl_wd q (List.mem_of_getElem? hq)
      obtain ⟨cC, iS, h⟩ := u_known htw w1 (htw _ w2)
      exact ⟨cC, iS, fun q' h' => by cases h'; exact h⟩
  obtain ⟨tI, kI, cI, i1, i2, i3⟩ := Cond.arrayClass_spec (htw _ lArI)
  obtain ⟨tL, kL, cL, l1, l2, l3⟩ := Cond.arrayClass_spec (htw _ lArL)
  obtain ⟨cP, tP, kP, p1, p2, p3, p4, p5⟩ := Cond.arrayOver_spec (hts _ wd_ao)
  let D : va_G := (fun c => Classical.choose (hkn c), fun c => Classical.choose (Classical.choose_spec (hkn c)))
  let G : jG := (l, D, fun o => if o = 50 then t0 else if o = 51 then t1 else if o = 52 then t2 else if o = 53 then t3 else if o = 54 then t4 else b, tI, tP, tL, xs, L, 0)
  have hK : va_K G.D jCl (jty G) s := by
    refine ⟨fun c q hq => Classical.choose_spec (Classical.choose_spec (hkn c)) q hq, fun k q hk => ?_⟩
    have hk3 : k < 3 := (List.getElem?_eq_some_iff.mp hk).1
    match k, hk with
    | 0, hk => cases hk; exact ⟨fun n z => ⟨fun k h => (by cases h), kI, i2, cI, i3⟩, i1⟩
    | 1, hk => cases hk; exact ⟨fun n z => ⟨fun k h => (by cases h), kP, p3, cP, p4⟩, kP, cP, p3, p4, p1, p5⟩
    | 2, hk => cases hk; exact ⟨fun n z => ⟨fun k h => (by cases h), kL, l2, cL, l3⟩, l1⟩
    | k + 3, hk => omega
  have hT : jT G A s := by
    refine ⟨List.forall_mem_cons.mpr ⟨z0, List.forall_mem_cons.mpr ⟨z1, List.forall_mem_cons.mpr ⟨z2, List.forall_mem_cons.mpr ⟨z3, List.forall_mem_cons.mpr ⟨z4, fun _ h => absurd h List.not_mem_nil⟩⟩⟩⟩⟩, hX, hA0 b hbl, fun w hw => va_tabs (jNW_on hw) rfl (hts w (List.mem_filter.mp hw).1), jZl.of (hts _ wd_us) (hs _ rf_us) hA0, jZl.of (hts _ wd_ss) (hs _ rf_ss) hA0, fun q hq => va_Nc.of (hs _ (nc_mem q hq))⟩
  have F : jF G M_LW_law p s m #[Value.ref b] meth c A := ⟨hx, hb, hml, hr, hown, htw, hlocks, hK, hA1, hT, hex⟩
  have hent := lv_entry [Value.ref b] (n := 7) (Nat.le_of_ble_eq_true rfl)
  have hW := law_pro (G := G) htr hL p e s m #[Value.ref b] below meth c A s.heap [] _ F ⟨hnm, va_AO.of (hts _ wd_ao)⟩ (fun k q h => (by cases h)) ⟨fun i j x y h => (by cases h), fun k q h => (by cases h)⟩ va_S.rf hent
  rw [lg_entry_eq]
  exact W.imp9 hW (fun t h => lw_of rfl rfl h hA2)
set_option maxHeartbeats 4000000 in
theorem lw_walk (l : Launch) (htr : l.stackTraces = false) (b : Addr) (xs : List Int32) : MetFree l x (headSpec (Jvm.Cond.code x code maxLocals ret :: tables_1) room_1) (lw_P b xs) (fun _ _ _ _ _ => True) lw_Q := by
  refine MetFree.of_bodyS (code := code) (maxLocals := maxLocals) (ret := ret) (by decide) ?_ ?_
  · intro args s m h hn
    obtain ⟨meth, c, h1, h2, h3, h4, h5, h6, -, -⟩ := Cond.code_spec hn (atoms_spec (ws := Jvm.Cond.code x code maxLocals ret :: tables_1) h _ List.mem_cons_self)
    exact ⟨meth, c, h1, h2, h3, h4, h5, h6⟩
  · intro p e s m args below meth c s₁ B hml0 hP _
    obtain ⟨rfl, hx, hbd, hgv⟩ := hP
    obtain ⟨scr, harrAt, hlist, hof, hsmall⟩ := hx
    obtain ⟨hcb, hkn, -, -⟩ := State.arrayAt?_spec harrAt
    have hown : s.vm.findClass R_law = some m.cls := findClass_of_methodNamed B.named
    have hts0 : ∀ c ∈ (Jvm.Cond.code x code maxLocals ret :: tables_1), c.before #[Value.ref b] s = true := atoms_spec (ws := Jvm.Cond.code x code maxLocals ret :: tables_1) B.pre
    have hts : ∀ w ∈ lw_tbl, w.before #[Value.ref b] s = true := k2_hts_sels lw_privs (fun w hw => hts0 w (List.mem_cons_of_mem _ hw)) lw_privs_ok
    have hml : c.maxLocals = 7 := B.maxLocals_eq (hts0 _ List.mem_cons_self)
    have X₀ : Stand p l e room_1 s m #[Value.ref b] below meth c s₁ [] 0 0 := Stand.of_body B
    have hh0 : s₁.heap = s.heap := by rw [B.state]; rfl
    have hj : (jcw M_LW_law).before #[Value.ref b] s = true := by
      rw [show jcw M_LW_law = Jvm.Cond.code x code maxLocals ret from if_pos rfl]
      exact hts0 _ List.mem_cons_self
    obtain ⟨m', meth', c', q0, q1, q2, q3, q4, hhs, q5, q6, -⟩ := jcw_spec hj
    cases B.named.symm.trans q0
    cases B.method.symm.trans q1
    cases X₀.code.symm.trans q2
    have hsz : scr.slots.size = xs.length := by rw [← Array.length_toList, hlist, List.length_map]
    have hval : ∀ j : Nat, j < xs.length → scr.slots[j]? = some (.int (xs.getD j 0)) := fun j hj => by
      rw [← Array.getElem?_toList, hlist]
      simp [hj]
    have hbl : b < s.heap.size := (Array.getElem?_eq_some_iff.mp hcb).1
    have hX : va_X b xs.length (fun j => xs.getD j 0) s s.heap := ⟨scr, hcb, hof, hkn, hsz, hval⟩
    have K : W p l e room_1 s m #[Value.ref b] below meth c s₁.heap [] 0 0 (lw_Z below #[Value.ref b] s) (entryFrame m ([Value.ref b] : List Value).toArray 7) := by
      rw [hh0]
      exact whole_start l htr hhs (name_of_methodNamed B.named B.method).1 hbd ⟨B.exec, B.bytes, B.returns, hml, hown, hts, hX, hbl, B.notSynchronized, hgv⟩
    obtain ⟨t, a1, o, b1, b2, b3⟩ := K s₁ rfl X₀
    exact ⟨t, o, a1, b1, b2, b3⟩
theorem lw_pre_spec {args : Array Value} {s : State} (h : (Jvm.Cond.and given_1 narrow_1).before args s = true) (hr : rest_1_c.before args s = true) : ∃ (b : Addr) (xs : List Int32), lw_P b xs args s := by
  have hs := flat_of_before _ h
  have hq := flat_of_before _ hr
  have hc : (Cond.count 1).before args s = true := hs _ (by decide +kernel)
  have harr : (Cond.arrayOf (.arg 0) .int).before args s = true := hs _ (by decide +kernel)
  have hle : (Cond.le (.length (.arg 0)) (.int 3072)).before args s = true := hs _ (by decide +kernel)
  have hlen : (Cond.isInt (.length (.arg 0))).before args s = true := hq _ (by decide +kernel)
  have hall : (Cond.all (.arg 0) (.isInt (.elem (.arg 0) (.index 0)))).before args s = true := hq _ (by decide +kernel)
  obtain ⟨b, xs, hb, hx⟩ := State.ints_of_pre rfl harr hlen hall
  have hsm : xs.length < 2 ^ 31 := hx.choose_spec.2.2.2
  have hev : (Term.length (.arg 0)).eval args s none [] s = some (.int xs.length.toInt32) := hx.length_eval hb
  have hv := Cond.le_ints hev (show (Term.int 3072).eval args s none [] s = some (.int 3072) from rfl)
  have hd : xs.length.toInt32 ≤ 3072 := by
    simpa [Cond.before, Cond.holds, hv] using hle
  have hN : xs.length ≤ 3072 := (Int32.ofNat_le_ofNat hsm (by decide)).mp (show Int32.ofNat xs.length ≤ Int32.ofNat 3072 from hd)
  exact ⟨b, xs, Cond.one_arg hc (show args[0]? = some (.ref b) from hb), hx, hN, h⟩
theorem lw_comes (l : Launch) (htr : l.stackTraces = false) : Comes l x (Jvm.Cond.code x code maxLocals ret :: tables_1) room_1 (fun tb e args s => Calls_1 tb e args s ∧ rest_1 tb e args s ∧ Pre_1 tb e args s)
    (fun _ _ args s o t => lw_Q args s o t) := by
  intro p e ha hc hk s m args below hf hfit hheap happ hpre
  obtain ⟨b, xs, hP⟩ := lw_pre_spec hpre.2.2 hpre.2.1
  obtain ⟨k, o, h1, h2, h3, hQ⟩ := lw_walk l htr b xs p e ha hc hk s m args below hf ((Spec.applies_iff_loose hf).mp happ).1 hP trivial
  exact ⟨k, o, h1, h2, h3, hQ⟩
theorem lw_frame {s t : State} {o : Outcome} {args : Array Value} (h : Framed s o t [] 601024 7293034) :
    Framed s o t (fieldLocs frame_1_writes args s ++ arrayLocs frame_1_arrays args s ++ staticLocs frame_1_statics s) 601024 7293034 := h
theorem lw_limb (L : Cond) (hL : ∀ (args : Array Value) (s t : State), L.after args s (.returned (some (.int 1))) t = true) :
    ArmFor flags0 classFile x code maxLocals ret World_1 tables_1 room_1 Calls_1 rest_1 Pre_1
      (fun tb e a s o t => postC L tb e a s o t ∧ Framed s o t (fieldLocs frame_1_writes a s ++ arrayLocs frame_1_arrays a s ++ staticLocs frame_1_statics s) 601024 7293034) := by
  intro l hfl _ _ p e ha hc hk s m args below hf hfit hheap happ hpre
  have htr : l.stackTraces = false := by unfold Launch.stackTraces; rw [hfl]; decide
  obtain ⟨k, o, h1, h2, h3, rfl, hF⟩ := lw_comes l htr p e ha hc hk s m args below hf hfit hheap happ hpre
  exact ⟨k, _, h1, h2, h3, hL args s _, lw_frame hF⟩
theorem i_vc : Claimed_1_1 ∧ Claimed_1_2 := ⟨lw_limb limb_1_1 (fun args s t => by simp [limb_1_1, Cond.after, Cond.holds, Cond.value]), lw_limb limb_1_2 (fun args s t => Cond.after_iff.mpr (by
  first | (rw [show limb_1_2 = Cond.eq .result (.int 1) from rfl, Cond.eq_ints (x := 1) (y := 1) rfl rfl]; simp; done) | (simp [limb_1_2, Cond.value, Term.eval]; done)))⟩
