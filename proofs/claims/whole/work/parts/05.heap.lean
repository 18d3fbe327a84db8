/-! rows of fields, arrays, constants of classes, the script -/
def jFA (own : String) (idx ci kk : Nat) : Prop := ∃ (C : String) (T : u_T) (N : Nat) (ref : String), jCl[ci]? = some (C, T, N) ∧ kk < N ∧ (∀ w ∈ u_ws C T N, w ∈ jTW) ∧ (Cond.fieldLink own idx ref (T kk).2.1 (T kk).2.2.1 ∈ jTW ∨ ∃ host, Cond.fieldLinkNest own idx ref (T kk).2.1 (T kk).2.2.1 host ∈ jNW) ∧ (ref = (T kk).1 ∨ Cond.sameField ref (T kk).1 (T kk).2.1 (T kk).2.2.1 ∈ jTW)
def jFP (ci kk : Nat) (ty : FieldType) : Prop := ∀ (C : String) (T : u_T) (N : Nat), jCl[ci]? = some (C, T, N) → (T kk).2.2.2 = false ∧ parseFieldDescriptor (T kk).2.2.1 = some ty ∧ (∃ ty0 : Nat → FieldType, ∀ k, k < N → parseFieldDescriptor (T k).2.2.1 = some (ty0 k)) ∧ (∀ a, a < N → ∀ b, b < N → a ≠ b → (T a).2.1 ≠ (T b).2.1)
theorem jF.nest {G : jG} {M : jM} {p : Program} {s : State} {m : MethodId} {args : Array Value} {meth : Method} {c : Code} {A : Nat → Prop} (F : jF G M p s m args meth c A) {w : Cond} (h : w ∈ jNW) : w.before args s = true := va_tabs (jNW_on h) rfl (F.2.2.2.2.2.2.2.2.2.1.2.2.2.1 w h)
section JH
variable {G : jG} {M : jM} {R : Room} {Q : jO → jMem → Prop} {k n pc : Nat} {ls : List (Nat × Value)} {st : List Value} {σ : jMem}
theorem jsame {args : Array Value} {s : State} {ref own nm ds : String} (hts : ∀ w ∈ jTW, w.before args s = true) (h : ref = own ∨ Cond.sameField ref own nm ds ∈ jTW) : ∀ x, s.fieldFound? own nm ds = some x → s.fieldFound? ref nm ds = some x := by
  rcases h with rfl | h
  · exact fun _ h => h
  · exact fun x hx => u_same (hts _ h) x hx
theorem jfld_i {ad : Nat → Nat} {f : Nat → Int32} {fs : List (Option Nat)} {kk : Nat} (h : fs[kk]? = some none) : (fs.zipIdx.map (jfld ad f))[kk]? = some (.int (f kk)) := by
  rw [List.getElem?_map, List.getElem?_zipIdx, h]; simp [jfld]
theorem jfld_r {ad : Nat → Nat} {f : Nat → Int32} {fs : List (Option Nat)} {kk r : Nat} (h : fs[kk]? = some (some r)) : (fs.zipIdx.map (jfld ad f))[kk]? = some (.ref (ad r)) := by
  rw [List.getElem?_map, List.getElem?_zipIdx, h]; simp [jfld]
theorem jv_get {o idx ci kk : Nat} {fs : List (Option Nat)} {v : Value} (hd : decode M.cc pc = .ok (.getfield idx, 3)) (fa : jFA M.own idx ci kk) (ho : o < jN) (hs : jshp o = .inl (ci, fs)) (hv : (fs.zipIdx.map (jfld G.ad (σ o)))[kk]? = some (jcv G.ad v)) (kont : jV G M R Q k n (pc + 3) ls (v :: st) σ) : jV G M R Q k n pc ls (.ref o :: st) σ := by
  intro p e s m args below meth c A H locs L F hP hD hS hl
  obtain ⟨C, T, N, ref, hc, hk, hin, hlk, hsm⟩ := fa
  have he := jwd_get (G := G) (σ := σ) ho
  rw [jcell_f hs] at he
  have hts := F.2.2.2.2.2.1
  rcases hlk with hlk | ⟨host, hlk⟩
  · exact va_get F.1 F.2.1 hts hin F.2.2.2.2.1 F.2.2.2.2.2.2.2.1 hP o he hc kk hk (hts _ hlk) (jsame hts hsm) hv hd (kont p e s m args below meth c A H locs L F hP hD hS hl)
  · exact va_getN F.1 F.2.1 hts hin F.2.2.2.2.1 F.2.2.2.2.2.2.2.1 hP o he hc kk hk (F.nest hlk) (jsame hts hsm) hv hd (kont p e s m args below meth c A H locs L F hP hD hS hl)
theorem jv_geti {o idx ci kk : Nat} {fs : List (Option Nat)} (hd : decode M.cc pc = .ok (.getfield idx, 3)) (fa : jFA M.own idx ci kk) (ho : o < jN) (hs : jshp o = .inl (ci, fs)) (hf : fs[kk]? = some none) (kont : jV G M R Q k n (pc + 3) ls (.int (σ o kk) :: st) σ) : jV G M R Q k n pc ls (.ref o :: st) σ := jv_get hd fa ho hs (jfld_i hf) kont
theorem jv_getr {o idx ci kk r : Nat} {fs : List (Option Nat)} (hd : decode M.cc pc = .ok (.getfield idx, 3)) (fa : jFA M.own idx ci kk) (ho : o < jN) (hs : jshp o = .inl (ci, fs)) (hf : fs[kk]? = some (some r)) (kont : jV G M R Q k n (pc + 3) ls (.ref r :: st) σ) : jV G M R Q k n pc ls (.ref o :: st) σ := jv_get hd fa ho hs (jfld_r hf) kont
theorem jv_puti {o idx ci kk : Nat} {fs : List (Option Nat)} {v : Int32} {ty : FieldType} (hd : decode M.cc pc = .ok (.putfield idx, 3)) (fa : jFA M.own idx ci kk) (fp : jFP ci kk ty) (ho : o < jN) (hs : jshp o = .inl (ci, fs)) (hf : fs[kk]? = some none) (hn : narrow ty (.int v) = .int v) (hft : fits ty (.int v) = true) (kont : jV G M R Q k n (pc + 3) ls st (ju σ o kk v)) : jV G M R Q k n pc ls (.int v :: .ref o :: st) σ := by
  intro p e s m args below meth c A H locs L F hP hD hS hl
  obtain ⟨C, T, N, ref, hc, hk, hin, hlk, hsm⟩ := fa
  obtain ⟨q1, q2, ⟨ty0, q3⟩, q4⟩ := fp C T N hc
  have he := jwd_get (G := G) (σ := σ) ho
  rw [jcell_f hs] at he
  have hts := F.2.2.2.2.2.1
  have hlen : kk < (fs.zipIdx.map (jfld G.ad (σ o))).length := by simp; exact (List.getElem?_eq_some_iff.mp hf).1
  have hset := jwd_put (G := G) (σ := σ) (v := v) ho hs hf
  rcases hlk with hlk | ⟨host, hlk⟩
  · exact va_put F.1 F.2.1 hts hin ty0 q3 q4 F.2.2.2.2.1 F.2.2.2.2.2.2.2.1 hP hD hS o he hc kk hk (hts _ hlk) (jsame hts hsm) q1 q2 hn hft hlen hd (fun H1 locs1 hP1 hD1 hS1 => kont p e s m args below meth c A H1 locs1 L F (hset ▸ hP1) (hset ▸ hD1) hS1 hl)
  · exact va_putN F.1 F.2.1 hts hin ty0 q3 q4 F.2.2.2.2.1 F.2.2.2.2.2.2.2.1 hP hD hS o he hc kk hk (F.nest hlk) (jsame hts hsm) q1 q2 hn hft hlen hd (fun H1 locs1 hP1 hD1 hS1 => kont p e s m args below meth c A H1 locs1 L F (hset ▸ hP1) (hset ▸ hD1) hS1 hl)
theorem jv_iald {o N : Nat} {i : Int32} (hd : decode M.cc pc = .ok (.iaload, 1)) (ho : o < jN) (hs : jshp o = .inr (.inl N)) (hin : vp_in i N) (kont : jV G M R Q k n (pc + 1) ls (.int (σ o i.toNatClampNeg) :: st) σ) : jV G M R Q k n pc ls (.int i :: .ref o :: st) σ := by
  intro p e s m args below meth c A H locs L F hP hD hS hl
  have he := jwd_get (G := G) (σ := σ) ho
  rw [jcell_i hs] at he
  exact va_iald F.1 F.2.1 F.2.2.2.2.2.2.2.1 hP o 0 he rfl hin hd (kont p e s m args below meth c A H locs L F hP hD hS hl)
theorem jv_iast {o N : Nat} {i v : Int32} (hd : decode M.cc pc = .ok (.iastore, 1)) (ho : o < jN) (hs : jshp o = .inr (.inl N)) (hin : vp_in i N) (kont : jV G M R Q k n (pc + 1) ls st (ju σ o i.toNatClampNeg v)) : jV G M R Q k n pc ls (.int v :: .int i :: .ref o :: st) σ := by
  intro p e s m args below meth c A H locs L F hP hD hS hl
  have he := jwd_get (G := G) (σ := σ) ho
  rw [jcell_i hs] at he
  have hset := jwd_ast (G := G) (σ := σ) (k := i.toNatClampNeg) (v := v) ho hs
  exact va_iast F.1 F.2.1 F.2.2.2.2.2.2.2.1 hP hD hS o 0 he rfl hin hd (fun H1 locs1 hP1 hD1 hS1 => kont p e s m args below meth c A H1 locs1 L F (hset ▸ hP1) (hset ▸ hD1) hS1 hl)
theorem jv_alen {o N : Nat} {i : Int32} (hd : decode M.cc pc = .ok (.arraylength, 1)) (ho : o < jN) (hs : jshp o = .inr (.inl N)) (hi : N.toInt32 = i) (kont : jV G M R Q k n (pc + 1) ls (.int i :: st) σ) : jV G M R Q k n pc ls (.ref o :: st) σ := by
  intro p e s m args below meth c A H locs L F hP hD hS hl
  have he := jwd_get (G := G) (σ := σ) ho
  rw [jcell_i hs] at he
  have hcell := hP o _ he
  refine W.alen (n := i) F.1 F.2.1 hcell ((F.2.2.2.2.2.2.2.1.2 0 _ rfl).1 N (fun j => .int (σ o j))) ?_ rfl rfl hd (kont p e s m args below meth c A H locs L F hP hD hS hl)
  show (arrV _ _ _).slots.size.toInt32 = i
  rw [arrV_size]; exact hi
theorem jv_aald {o r : Nat} {rs : List Nat} {i : Int32} (hd : decode M.cc pc = .ok (.aaload, 1)) (ho : o < jN) (hs : jshp o = .inr (.inr (.inl rs))) (hin : vp_in i rs.length) (hr : rs[i.toNatClampNeg]? = some r) (kont : jV G M R Q k n (pc + 1) ls (.ref r :: st) σ) : jV G M R Q k n pc ls (.int i :: .ref o :: st) σ := by
  intro p e s m args below meth c A H locs L F hP hD hS hl
  have he := jwd_get (G := G) (σ := σ) ho
  rw [jcell_p hs] at he
  refine va_aldq F.1 F.2.1 F.2.2.2.2.2.2.2.1 hP o 1 he rfl hin hd ?_
  show W p G.l e R s m args below meth c H locs k n _ (F0 m (pc + 1) L (va_rf ((rs[i.toNatClampNeg]?).map G.ad) :: st.map (jcv G.ad)))
  rw [hr]
  exact kont p e s m args below meth c A H locs L F hP hD hS hl
/-- a constant array of a class -/
def jGS (own : String) (idx : Nat) (q : String × String × Nat × List Int32) : Prop := q ∈ jSt ∧ ∃ ref : String, (Cond.fieldLink own idx ref q.2.1 "[I" ∈ jTW ∨ ∃ host, Cond.fieldLinkNest own idx ref q.2.1 "[I" host ∈ jNW) ∧ (ref = q.1 ∨ Cond.sameField ref q.1 q.2.1 "[I" ∈ jTW)
theorem jv_gets {idx : Nat} {q : String × String × Nat × List Int32} (hd : decode M.cc pc = .ok (.getstatic idx, 3)) (gs : jGS M.own idx q) (kont : jV G M R Q k n (pc + 3) ls (.ref q.2.2.1 :: st) σ) : jV G M R Q k n pc ls st σ := by
  intro p e s m args below meth c A H locs L F hP hD hS hl
  obtain ⟨hq, ref, hlk, hsm⟩ := gs
  have hts := F.2.2.2.2.2.1
  have hZ := (F.2.2.2.2.2.2.2.2.2.1.1 q hq).1
  rcases hlk with hlk | ⟨host, hlk⟩
  · exact va_gets F.1 F.2.1 hZ hS F.2.2.2.2.1 (hts _ hlk) (jsame hts hsm) hd (kont p e s m args below meth c A H locs L F hP hD hS hl)
  · exact va_getsN F.1 F.2.1 hZ hS F.2.2.2.2.1 (F.nest hlk) (jsame hts hsm) hd (kont p e s m args below meth c A H locs L F hP hD hS hl)
theorem jv_tald {q : String × String × Nat × List Int32} {i : Int32} (hd : decode M.cc pc = .ok (.iaload, 1)) (hq : q ∈ jSt) (hin : vp_in i q.2.2.2.length) (kont : jV G M R Q k n (pc + 1) ls (.int (q.2.2.2.getD i.toNatClampNeg 0) :: st) σ) : jV G M R Q k n pc ls (.int i :: .ref q.2.2.1 :: st) σ := by
  intro p e s m args below meth c A H locs L F hP hD hS hl
  exact va_ti F.1 F.2.1 (F.2.2.2.2.2.2.2.2.2.1.1 q hq).2 hS hin rfl hd (kont p e s m args below meth c A H locs L F hP hD hS hl)
/-- ends -/
theorem jMQ.of {below : List Frame} {Qc : State → Outcome → State → Prop} {args : Array Value} {s t : State} {mc ms : Nat} {free : Addr → Prop} (h : MQ below (fun _ => Qc) args s mc ms free t) : jMQ below Qc s mc ms free t := by
  obtain ⟨o, h1, h2, h3, L, h4, h5⟩ := h
  exact ⟨o, h1, h2, h3, L, ⟨h4.2.1, h4.2.2⟩, h5⟩
theorem jv_iret {v : Int32} {ty : FieldType} (hd : decode M.cc pc = .ok (.ireturn, 1)) (hr : M.ret = some ty) (hn : narrow ty (.int v) = .int v) (h1 : k ≤ R.cells) (h2 : n ≤ R.slots) (hq : Q (.inl (some (.int v))) σ) : jV G M R Q k n pc ls [.int v] σ := by
  intro p e s m args below meth c A H locs L F hP hD hS hl
  refine W.widen h1 h2 (W.imp9 (W.zret (Qc := fun _ => jQ G A Q) (free := A) F.1 F.2.1 (F.2.2.2.1.trans hr) hn (fun t ht hW => ⟨⟨.inl (some (.int v)), σ, hq, rfl, by rw [ht]; exact hP, va_K.moved hW.alike F.2.2.2.2.2.2.2.1, hD⟩, hS.F ht⟩) hS.2.2 hd F.2.2.2.2.2.2.1) (fun t h => jMQ.of h))
theorem jv_vret (hd : decode M.cc pc = .ok (.return_, 1)) (hr : M.ret = none) (h1 : k ≤ R.cells) (h2 : n ≤ R.slots) (hq : Q (.inl none) σ) : jV G M R Q k n pc ls [] σ := by
  intro p e s m args below meth c A H locs L F hP hD hS hl
  refine W.widen h1 h2 (W.imp9 (W.vret (Qc := fun _ => jQ G A Q) (free := A) F.1 F.2.1 (F.2.2.2.1.trans hr) (fun t ht hW => ⟨⟨.inl none, σ, hq, rfl, by rw [ht]; exact hP, va_K.moved hW.alike F.2.2.2.2.2.2.2.1, hD⟩, hS.F ht⟩) hS.2.2 hd F.2.2.2.2.2.2.1) (fun t h => jMQ.of h))
theorem jv_lret {v : Int64} (hd : decode M.cc pc = .ok (.lreturn, 1)) (hr : M.ret = some .long) (h1 : k ≤ R.cells) (h2 : n ≤ R.slots) (hq : Q (.inl (some (.long v))) σ) : jV G M R Q k n pc ls [.long v] σ := by
  intro p e s m args below meth c A H locs L F hP hD hS hl
  refine W.widen h1 h2 (W.imp9 (W.lret (Qc := fun _ => jQ G A Q) (free := A) F.1 F.2.1 (F.2.2.2.1.trans hr) (fun t ht hW => ⟨⟨.inl (some (.long v)), σ, hq, rfl, by rw [ht]; exact hP, va_K.moved hW.alike F.2.2.2.2.2.2.2.1, hD⟩, hS.F ht⟩) hS.2.2 hd F.2.2.2.2.2.2.1) (fun t h => jMQ.of h))
theorem jv_aret {o : Nat} {ty : FieldType} (hd : decode M.cc pc = .ok (.areturn, 1)) (hr : M.ret = some ty) (hrt : (∃ n, ty = .object n) ∨ ∃ t, ty = .array t) (h1 : k ≤ R.cells) (h2 : n ≤ R.slots) (hq : Q (.inl (some (.ref o))) σ) : jV G M R Q k n pc ls [.ref o] σ := by
  intro p e s m args below meth c A H locs L F hP hD hS hl
  refine W.widen h1 h2 (W.imp9 (W.aret (v := .ref (G.ad o)) (Qc := fun _ => jQ G A Q) (free := A) F.1 F.2.1 (F.2.2.2.1.trans hr) hrt (Or.inr ⟨_, rfl⟩) (fun t ht hW => ⟨⟨.inl (some (.ref o)), σ, hq, rfl, by rw [ht]; exact hP, va_K.moved hW.alike F.2.2.2.2.2.2.2.1, hD⟩, hS.F ht⟩) hS.2.2 hd F.2.2.2.2.2.2.1) (fun t h => jMQ.of h))
end JH
/-! contracts -/
def jcw (M : jM) : Cond := if M.hs = [] then .code M.y M.cc M.nL M.ret else .codeWith M.y M.cc M.nL M.ret M.hs
def jws (M : jM) : List Cond := jcw M :: jTW
def jS (G : jG) (σ : jMem) (sz : Nat) (U : State) : Prop := U.heap.size = sz ∧ va_P G.D jCl (jwd G σ) U.heap ∧ va_K G.D jCl (jty G) U ∧ va_D (fun _ => True) (jwd G σ) ∧ jT G (va_A (jwd G σ) sz) U
/-- THE CONTRACT of method M on arguments as in memory σ -/
def jSp (G : jG) (M : jM) (rm : Room) (as : List Value) (σ : jMem) (Q : jO → jMem → Prop) : Prop :=
  ∀ sz : Nat, MetFree G.l M.y (headSpec (jws M) rm) (fun a U => a = (as.map (jcv G.ad)).toArray ∧ jS G σ sz U) (fun _ _ _ _ _ => True) (fun _ st oc t => jQ G (va_A (jwd G σ) sz) Q st oc t ∧ ∃ L, jEnd st t L rm.cells rm.slots ∧ ∀ q ∈ L, va_A (jwd G σ) sz q.base)
theorem jcw_spec {M : jM} {args : Array Value} {s : State} (h : (jcw M).before args s = true) : ∃ m meth c, s.methodNamed? M.y = some m ∧ s.vm.method? m = some meth ∧ meth.code = some c ∧ c.code = M.cc ∧ c.maxLocals = M.nL ∧ c.exceptionTable.toList.map (fun h => (h.startPc, h.endPc, h.handlerPc, h.catchType)) = M.hs ∧ meth.sig.returnType = M.ret ∧ meth.locks = false ∧ parseMethodDescriptor M.y.desc = some meth.sig := by
  unfold jcw at h
  by_cases hs : M.hs = []
  · rw [if_pos hs] at h
    have h2 : (Cond.codeWith M.y M.cc M.nL M.ret []).before args s = true := by
      simp only [Cond.before, Cond.holds] at h ⊢
      rw [← Cond.code_iff_codeWith_nil]; exact h
    rw [hs]
    exact Cond.codeWith_spec h2
  · rw [if_neg hs] at h
    exact Cond.codeWith_spec h
theorem jargs (ad : Nat → Nat) : ∀ (as : List Value) (i : Nat), lv_args i (as.map (jcv ad)) = jls ad (lv_args i as)
  | [], _ => rfl
  | v :: as, i => by
    show (i, jcv ad v) :: lv_args (if (jcv ad v).category = 2 then i + 2 else i + 1) (as.map (jcv ad)) = (i, jcv ad v) :: jls ad (lv_args (if v.category = 2 then i + 2 else i + 1) as)
    rw [jcv_cat, jargs ad as]
theorem jsl (ad : Nat → Nat) : ∀ (as : List Value), (lg_sl (as.map (jcv ad))).length = (lg_sl as).length
  | [] => rfl
  | v :: as => by
    have ih := jsl ad as
    simp only [lg_sl, List.map_cons, List.flatMap_cons, List.length_append, jcv_cat] at ih ⊢
    rw [ih]
    congr 1
    split <;> rfl
theorem jSp.of {G : jG} {M : jM} {rm : Room} {as : List Value} {σ : jMem} {Q : jO → jMem → Prop} (hy : plainName M.y.cls = true) (hoy : M.y.cls = M.own) (hlen : (lg_sl as).length ≤ M.nL) (h : jV G M rm Q 0 0 0 (lv_args 0 as) [] σ) : jSp G M rm as σ Q := by
  intro sz
  refine MetFree.of_bodyS (code := M.cc) (maxLocals := M.nL) (ret := M.ret) hy ?_ ?_
  · intro args s m hp hn
    obtain ⟨m', meth, c, h0, h1, h2, h3, h4, -, h5, h6, -⟩ := jcw_spec (atoms_spec (ws := jws M) hp _ List.mem_cons_self)
    cases hn.symm.trans h0
    exact ⟨meth, c, h1, h2, h3, h4, h5, h6⟩
  · intro p e s m args below meth c s₁ B hml hP _
    obtain ⟨rfl, hsz, hPw, hK, hD0, hT⟩ := hP
    have hh0 : s₁.heap = s.heap := by rw [B.state]; rfl
    have hts0 := atoms_spec (ws := jws M) B.pre
    obtain ⟨m', meth', c', h0, h1, h2, h3, h4, hhs, h5, h6, -⟩ := jcw_spec (hts0 _ List.mem_cons_self)
    cases B.named.symm.trans h0
    cases B.method.symm.trans h1
    cases (Stand.of_body B).code.symm.trans h2
    have F : jF G M p s m ((as.map (jcv G.ad)).toArray) meth c (va_A (jwd G σ) sz) := ⟨B.exec, B.bytes, hml, B.returns, by rw [← hoy]; exact findClass_of_methodNamed B.named, fun w hw => hts0 w (List.mem_cons_of_mem _ hw), B.notSynchronized, hK, fun q hq => Or.inr (by rw [← hsz]; exact hq), hT, hhs⟩
    have hent := lv_entry (as.map (jcv G.ad)) (n := M.nL) (by rw [jsl]; exact hlen)
    rw [jargs] at hent
    have W0 := h p e s m _ below meth c _ s.heap [] _ F hPw hD0.self va_S.rf hent
    obtain ⟨t, a1, o, b1, b2, b3, b4⟩ := W0 s₁ hh0 (Stand.of_body B)
    rw [lg_entry_eq]
    exact ⟨t, o, a1, b1, b2, b3, b4⟩
def jRet (Q : jO → jMem → Prop) : Prop := ∀ (o : jO) (τ : jMem), Q o τ → ∃ v, o = .inl v
theorem jSp.met {G : jG} {M : jM} {rm : Room} {as : List Value} {σ : jMem} {Q : jO → jMem → Prop} (h : jSp G M rm as σ Q) (hr : jRet Q) (sz : Nat) : Met G.l M.y (jws M) rm (fun a U => a = (as.map (jcv G.ad)).toArray ∧ jS G σ sz U) (fun _ => jQ G (va_A (jwd G σ) sz) Q) rm.cells rm.slots (va_A (jwd G σ) sz) := by
  intro p e ha hc hk s m args below hf happ hP hK
  obtain ⟨n, o, h1, h2, h3, h4, L, h5, h6⟩ := h sz p e ha hc hk s m args below hf happ hP hK
  refine ⟨n, o, h1, h2, h3, h4, L, ⟨?_, h5.1, h5.2⟩, h6⟩
  obtain ⟨⟨o', τ, hq, ho, -⟩, -⟩ := h4
  obtain ⟨v, rfl⟩ := hr o' τ hq
  exact ⟨_, ho⟩
theorem jS.heap {G : jG} {σ : jMem} {sz : Nat} {U T : State} (h : jS G σ sz U) (hh : T.heap = U.heap) (hW : U.WarmedH T.vm) : jS G σ sz T := by
  obtain ⟨h1, h2, h3, h4, h5⟩ := h
  exact ⟨by rw [hh]; exact h1, by rw [hh]; exact h2, h3.moved hW.alike, h4, h5.move hW (fun a _ _ => by rw [hh]) (fun _ h => h)⟩
theorem jS.blind {G : jG} {σ : jMem} {sz : Nat} {av : Array Value} : FrameBlind (fun a U => a = av ∧ jS G σ sz U) := by
  intro a U g mk h
  exact ⟨h.1, h.2.heap rfl (State.WarmedH.refl U)⟩
/-- the callee's start, out of the caller's point -/
theorem jS.call {G : jG} {M : jM} {p : Program} {s : State} {m : MethodId} {args : Array Value} {meth : Method} {c : Code} {A : Nat → Prop} {H : Heap} {locs : List Loc} {σ : jMem} (F : jF G M p s m args meth c A) (hP : va_P G.D jCl (jwd G σ) H) (hD : va_D A (jwd G σ)) (hS : va_S A s.heap H locs) {U : State} (hU : U.heap = H) (hW : s.WarmedH U.vm) : jS G σ H.size U := by
  refine ⟨by rw [hU], by rw [hU]; exact hP, va_K.moved hW.alike F.2.2.2.2.2.2.2.1, hD.weaken (fun _ _ _ _ => trivial), F.2.2.2.2.2.2.2.2.2.1.move hW (fun a h1 h2 => by rw [hU]; exact hS.2.1 a h1 h2) ?_⟩
  intro q h
  rcases h with ⟨i, e, h⟩ | h
  · exact hD.2 i (q, e) h
  · exact F.2.2.2.2.2.2.2.2.1 q (Nat.le_trans hS.1 h)
theorem jfree {G : jG} {M : jM} {p : Program} {s : State} {m : MethodId} {args : Array Value} {meth : Method} {c : Code} {A : Nat → Prop} {H : Heap} {locs : List Loc} {σ : jMem} (F : jF G M p s m args meth c A) (hD : va_D A (jwd G σ)) (hS : va_S A s.heap H locs) : ∀ q, va_A (jwd G σ) H.size q → A q := by
  intro q h
  rcases h with ⟨i, e, h⟩ | h
  · exact hD.2 i (q, e) h
  · exact F.2.2.2.2.2.2.2.2.1 q (Nat.le_trans hS.1 h)
theorem jtoL (ad : Nat → Nat) (v : Option Value) (st : List Value) : (v.toList ++ st).map (jcv ad) = (v.map (jcv ad)).toList ++ st.map (jcv ad) := by
  cases v <;> rfl
theorem jgoodIn {M : jM} (hs : M.hs = []) (hc : Cond.code M.y M.cc M.nL M.ret ∈ jTW) : GoodIn jTW (jws M) := by
  intro w hw
  rcases List.mem_cons.mp hw with h | h
  · have e : jcw M = Cond.code M.y M.cc M.nL M.ret := if_pos hs
    rw [h, e]
    exact ⟨hc, jTW_good _ hc⟩
  · exact ⟨h, jTW_good _ h⟩
/-- what comes back from a call -/
theorem jback {G : jG} {M : jM} {R : Room} {Q : jO → jMem → Prop} {k n pc mc ms : Nat} {ls : List (Nat × Value)} {st st0 : List Value} {σ : jMem} {Q1 : jO → jMem → Prop} (hr : jRet Q1)
    {p : Program} {e : Env} {s : State} {m : MethodId} {args : Array Value} {below : List Frame} {meth : Method} {c : Code} {A : Nat → Prop} {H : Heap} {locs : List Loc} {L : Array Slot}
    (F : jF G M p s m args meth c A) (hD : va_D A (jwd G σ)) (hS : va_S A s.heap H locs) (hl : lv_has L M.nL (jls G.ad ls))
    (run : va_Run p G.l e R s m args below meth c H locs k n mc ms (F0 m pc L st0) (st.map (jcv G.ad)) (jQ G (va_A (jwd G σ) H.size) Q1) (va_A (jwd G σ) H.size))
    (kont : ∀ v τ, Q1 (.inl v) τ → jV G M R Q (k + mc) (n + ms) (pc + 3) ls (v.toList ++ st) τ) :
    W p G.l e R s m args below meth c H locs k n (jMQ below (jQ G A Q) s R.cells R.slots A) (F0 m pc L st0) := by
  intro T hT X
  obtain ⟨v, st₀, t, T', L', h0, X', hL, e1, e2, ⟨⟨o, τ, hq, ho, hPt, hKt, hDt⟩, hz, hk⟩, stp⟩ := run T hT X
  obtain ⟨v', rfl⟩ := hr o τ hq
  have hv : v = v'.map (jcv G.ad) := Outcome.returned.inj ho
  subst hv
  have hAA := jfree F hD hS
  rw [h0] at hz hk
  obtain ⟨t2, a1, b1⟩ := kont v' τ hq p e s m args below meth c A T'.heap (locs ++ L') L F (by rw [e1]; exact hPt) (hDt.weaken (fun _ q _ h => hAA q.1 h))
    ⟨Nat.le_trans hS.1 (by rw [e1]; exact hz), fun q h1 h2 => by rw [e1, hk q (Nat.lt_of_lt_of_le h1 hS.1) (fun z => h2 (hAA q z))]; exact hS.2.1 q h1 h2, fun q hq => by
      rcases List.mem_append.mp hq with h | h
      · exact hS.2.2 q h
      · exact hAA _ (hL q h)⟩ hl T' rfl X'
  rw [jtoL] at a1
  exact ⟨t2, stp t2 a1, b1⟩
/-- a call's facts -/
def jC0 (M1 : jM) (na : Nat) : Prop := M1.hs = [] ∧ Cond.code M1.y M1.cc M1.nL M1.ret ∈ jTW ∧ Cond.initialized M1.y.cls ∈ jTW ∧ (M1.y.cls ≠ "java/lang/invoke/MethodHandle" ∧ M1.y.cls ≠ "java/lang/invoke/VarHandle") ∧ (parseMethodDescriptor M1.y.desc).map (fun d => d.parameters.length) = some na
def jLk (own : String) (idx : Nat) (y : MethodName) : Prop := Cond.methodLink own idx y ∈ jTW ∨ ∃ host, Cond.methodLinkNest own idx y host ∈ jNW
theorem jlen {y : MethodName} {na : Nat} (h : (parseMethodDescriptor y.desc).map (fun d => d.parameters.length) = some na) : ∀ sig, parseMethodDescriptor y.desc = some sig → na = sig.parameters.length := by
  intro sig hs
  rw [hs] at h
  exact (Option.some.inj h).symm
theorem jv_callS {G : jG} {M : jM} {R : Room} {Q : jO → jMem → Prop} {k n pc : Nat} {ls : List (Nat × Value)} {st st0 : List Value} {σ : jMem} {Q1 : jO → jMem → Prop} {M1 : jM} {rm : Room} {as : List Value} {idx : Nat}
    (hM : jSp G M1 rm as σ Q1) (hr : jRet Q1) (hd : decode M.cc pc = .ok (.invokestatic idx, 3)) (c0 : jC0 M1 as.length) (lk : jLk M.own idx M1.y) (hst : Cond.static M1.y ∈ jTW) (hk0 : st0 = as.reverse ++ st) (h8 : (st.map fun v => v.category).sum ≤ 8)
    (hR : rm.frames + 1 ≤ R.frames ∧ 8 + (M1.nL + 11) + rm.locals ≤ R.locals ∧ k + rm.cells ≤ R.cells ∧ n + rm.slots ≤ R.slots)
    (kont : ∀ v τ, Q1 (.inl v) τ → jV G M R Q (k + rm.cells) (n + rm.slots) (pc + 3) ls (v.toList ++ st) τ) : jV G M R Q k n pc ls st0 σ := by
  intro p e s m args below meth c A H locs L F hP hD hS hl
  have hts := F.2.2.2.2.2.1
  obtain ⟨hs0, hcw, hini, hy, hp⟩ := c0
  have h8' : ((st.map (jcv G.ad)).map fun v => v.category).sum ≤ 8 := by
    rw [List.map_map]; simpa [Function.comp_def, jcv_cat] using h8
  have hsk : st0.map (jcv G.ad) = (as.map (jcv G.ad)).reverse ++ st.map (jcv G.ad) := by rw [hk0, List.map_append, List.map_reverse]
  have hpre : PreS s H (fun a U => a = (as.map (jcv G.ad)).toArray ∧ jS G σ H.size U) (as.map (jcv G.ad)) := ⟨jS.blind, fun U hU hW => ⟨rfl, jS.call F hP hD hS hU hW⟩⟩
  have hgood := pay_in hts (jgoodIn hs0 hcw)
  have hcm : Cond.code M1.y M1.cc M1.nL M1.ret ∈ jws M1 := by
    have e : jcw M1 = Cond.code M1.y M1.cc M1.nL M1.ret := if_pos hs0
    unfold jws; rw [e]; exact List.mem_cons_self
  rcases lk with lk | ⟨host, lk⟩
  · exact jback hr F hD hS hl (va_runS (Ts := jTW) (own := M.own) ⟨F.1, F.2.1, F.2.2.1, F.2.2.2.2.1, hts⟩ (hM.met hr H.size) ⟨⟨rfl, rfl, hR.1, hR.2.1, hgood, hcm, hts _ hcw, hts _ hini, hy, jlen hp, hts _ lk⟩, hts _ hst⟩ hpre rfl (by simp) hl.1 hsk (lv_room h8') hd ⟨hR.2.2.1, hR.2.2.2⟩) kont
  · exact jback hr F hD hS hl (va_runSN (Ts := jTW) (own := M.own) ⟨F.1, F.2.1, F.2.2.1, F.2.2.2.2.1, hts⟩ (hM.met hr H.size) ⟨⟨⟨rfl, rfl, hR.1, hR.2.1, hgood, hcm⟩, hts _ hcw, hts _ hini, hy, jlen hp, F.nest lk⟩, hts _ hst, trivial⟩ hpre rfl (by simp) hl.1 hsk (lv_room h8') hd ⟨hR.2.2.1, hR.2.2.2⟩) kont
/-- the receiver's cell -/
theorem jrecv {G : jG} {M : jM} {p : Program} {s : State} {m : MethodId} {args : Array Value} {meth : Method} {c : Code} {A : Nat → Prop} {H : Heap} {σ : jMem} {o ci : Nat} {fs : List (Option Nat)} {C : String} {T : u_T} {N : Nat} (F : jF G M p s m args meth c A) (hP : va_P G.D jCl (jwd G σ) H) (ho : o < jN) (hs : jshp o = .inl (ci, fs)) (hc : jCl[ci]? = some (C, T, N)) : ∃ cellB : Cell, H[G.ad o]? = some cellB ∧ cellB.vm.isStatics = false ∧ s.vm.findClass C = some cellB.cls := by
  have he := jwd_get (G := G) (σ := σ) ho
  rw [jcell_f hs] at he
  obtain ⟨r, h1, cell, q1, q2, q3, q4⟩ := hP o _ he
  cases h1.symm.trans hc
  obtain ⟨-, hfc, -⟩ := F.2.2.2.2.2.2.2.1.1 ci _ hc
  exact ⟨cell, q1, by rw [q3]; rfl, by rw [q2]; exact hfc⟩
theorem jv_callV {G : jG} {M : jM} {R : Room} {Q : jO → jMem → Prop} {k n pc : Nat} {ls : List (Nat × Value)} {st st0 : List Value} {σ : jMem} {Q1 : jO → jMem → Prop} {M1 : jM} {rm : Room} {o ci : Nat} {fs : List (Option Nat)} {C : String} {T : u_T} {N : Nat} {as : List Value} {idx : Nat}
    (hM : jSp G M1 rm (.ref o :: as) σ Q1) (hr : jRet Q1) (hd : decode M.cc pc = .ok (.invokevirtual idx, 3)) (c0 : jC0 M1 as.length) (lk : jLk M.own idx M1.y) (hin : Cond.instanceMethod M1.y ∈ jTW) (hse : Cond.selects C M1.y M1.y ∈ jTW) (ho : o < jN) (hs : jshp o = .inl (ci, fs)) (hc : jCl[ci]? = some (C, T, N)) (hk0 : st0 = as.reverse ++ .ref o :: st) (h8 : (st.map fun v => v.category).sum ≤ 8)
    (hR : rm.frames + 1 ≤ R.frames ∧ 8 + (M1.nL + 11) + rm.locals ≤ R.locals ∧ k + rm.cells ≤ R.cells ∧ n + rm.slots ≤ R.slots)
    (kont : ∀ v τ, Q1 (.inl v) τ → jV G M R Q (k + rm.cells) (n + rm.slots) (pc + 3) ls (v.toList ++ st) τ) : jV G M R Q k n pc ls st0 σ := by
  intro p e s m args below meth c A H locs L F hP hD hS hl
  have hts := F.2.2.2.2.2.1
  obtain ⟨hs0, hcw, hini, hy, hp⟩ := c0
  have h8' : ((st.map (jcv G.ad)).map fun v => v.category).sum ≤ 8 := by
    rw [List.map_map]; simpa [Function.comp_def, jcv_cat] using h8
  have hsk : st0.map (jcv G.ad) = (as.map (jcv G.ad)).reverse ++ Value.ref (G.ad o) :: st.map (jcv G.ad) := by rw [hk0, List.map_append, List.map_reverse]; rfl
  have hpre : PreV s H C (G.ad o) (fun a U => a = ((Value.ref o :: as).map (jcv G.ad)).toArray ∧ jS G σ H.size U) (as.map (jcv G.ad)) := ⟨jS.blind, jrecv F hP ho hs hc, fun U hU hW => ⟨rfl, jS.call F hP hD hS hU hW⟩⟩
  have hgood := pay_in hts (jgoodIn hs0 hcw)
  have hcm : Cond.code M1.y M1.cc M1.nL M1.ret ∈ jws M1 := by
    have e : jcw M1 = Cond.code M1.y M1.cc M1.nL M1.ret := if_pos hs0
    unfold jws; rw [e]; exact List.mem_cons_self
  rcases lk with lk | ⟨host, lk⟩
  · exact jback hr F hD hS hl (va_runV (Ts := jTW) (own := M.own) ⟨F.1, F.2.1, F.2.2.1, F.2.2.2.2.1, hts⟩ (hM.met hr H.size) ⟨⟨rfl, rfl, hR.1, hR.2.1, hgood, hcm, hts _ hcw, hts _ hini, hy, jlen hp, hts _ lk⟩, hts _ hin, hts _ hse⟩ hpre rfl (by simp) hl.1 hsk (lv_room h8') hd ⟨hR.2.2.1, hR.2.2.2⟩) kont
  · exact jback hr F hD hS hl (va_runVN (Ts := jTW) (own := M.own) ⟨F.1, F.2.1, F.2.2.1, F.2.2.2.2.1, hts⟩ (hM.met hr H.size) ⟨⟨⟨rfl, rfl, hR.1, hR.2.1, hgood, hcm⟩, hts _ hcw, hts _ hini, hy, jlen hp, F.nest lk⟩, hts _ hin, hts _ hse⟩ hpre rfl (by simp) hl.1 hsk (lv_room h8') hd ⟨hR.2.2.1, hR.2.2.2⟩) kont
