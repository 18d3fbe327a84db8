/-! calls that throw -/
def jE (x : Nat) (τ0 : jMem) : jO → jMem → Prop := fun o τ => o = .inr x ∧ τ = τ0
/-- a call that throws, from the invocation on -/
theorem jinvT {p : Program} {e : Env} {R : Room} {s : State} {m : MethodId} {sargs : Array Value} {below : List Frame} {meth : Method} {c : Code} {G : jG} {M1 : jM} {rm : Room} {as : List Value} {σ τ0 : jMem} {x : Nat} {U : State} {Ls : List Loc} {c0 s0 : Nat} {g : JFrame} {ig : Instr} {mk : MethodId}
    (hM : jSp G M1 rm as σ (jE x τ0)) (X : Stand p G.l e R s m sargs below meth c U Ls c0 s0) (hg : g.method = m) (hsize : g.locals.size = c.maxLocals) (hdg : decode c.code g.pc = .ok (ig, 3)) (hW : 2 * g.monitorRoom + (g.stack.map fun v => v.category).sum ≤ 8) (hn : U.methodNamed? M1.y = some mk)
    (hfr : rm.frames + 1 ≤ R.frames) (hlo : 8 + (M1.nL + 11) + rm.locals ≤ R.locals) (hc : c0 + rm.cells ≤ R.cells) (hs : s0 + rm.slots ≤ R.slots) (hws : ∀ w ∈ jws M1, w.before (as.map (jcv G.ad)).toArray U = true) (hini : (Cond.initialized M1.y.cls).before (as.map (jcv G.ad)).toArray U = true) (hS : jS G σ U.heap.size U) :
    ∃ (xa : Addr) (t T' : State) (L : List Loc), Stand p G.l e R s m sargs below meth c T' (Ls ++ L) (c0 + rm.cells) (s0 + rm.slots) ∧ T'.heap = t.heap ∧ T'.vm = t.vm ∧ jQ G (va_A (jwd G σ) U.heap.size) (jE x τ0) (U.calling g mk (as.map (jcv G.ad)).toArray) (.threw xa) t ∧ (∀ q ∈ L, va_A (jwd G σ) U.heap.size q.base) ∧
      Steps p.tables e below (doInvoke e (U.setTop g) [] mk (as.map (jcv G.ad)).toArray).1 ((T'.setTop g).pushFrame (.throwing xa)) := by
  obtain ⟨mY, methY, cY, hnY, hmY, hcY, -, hlY, -, -, -, -⟩ := jcw_spec (hws _ List.mem_cons_self)
  cases hn.symm.trans hnY
  obtain ⟨kY, hkY, -⟩ := className_of_methodNamed hn
  have hinitY : kY.init = .initialized := Cond.initialized_spec (findClass_of_methodNamed hn) hkY hini
  have h : At U g.method c below := by rw [hg]; exact X.here
  have happ : (headSpec (jws M1) rm).appliesLoose M1.y e.platform (U.calling g mk (as.map (jcv G.ad)).toArray) = true :=
    Spec.appliesLoose_calling (g := g) h hdg hn hkY hinitY (X.room_calling (g := g) (R' := rm) hsize hmY hcY hfr (by rw [hlY]; omega) hc hs) (atoms_intro hws)
  have hfrm : (U.setTop g).frames = .java g :: below := by rw [State.frames_setTop' g h.top, X.tail]
  obtain ⟨o, s₂, hsteps, -, hend, hq⟩ := Steps.callFree (hM U.heap.size) p X.admits X.cas X.clock (acts := []) (mid := [.java g]) (below := below) hfrm happ ⟨rfl, hS.heap rfl (State.WarmedH.refl U)⟩ trivial
  obtain ⟨hq1, L, ⟨hW2, hsame⟩, hL⟩ := hq
  rw [hfrm] at hend
  have hq2 := hq1
  obtain ⟨⟨o', τ, ⟨rfl, rfl⟩, ⟨xa, ce, rfl, hrest⟩, -⟩, -⟩ := hq2
  obtain ⟨T', X', hWT, hsT, rfl⟩ := X.outOfThrown hg (mk := mk) (a := (as.map (jcv G.ad)).toArray) hend hW2 hsame
  exact ⟨xa, (T'.setTop g).pushFrame (.throwing xa), T', L, X', (throwing_heap T' g xa).symm, (throwing_vm T' g xa).symm, hq1, hL, hsteps⟩
/-- the exception leaves the frame -/
theorem joutT {G : jG} {M : jM} {R : Room} {Q : jO → jMem → Prop} {k n : Nat} {σ τ0 : jMem} {x : Nat} {p : Program} {e : Env} {s : State} {m : MethodId} {args : Array Value} {below : List Frame} {meth : Method} {c : Code} {A : Nat → Prop} {H : Heap} {locs L : List Loc} {g : JFrame} {xa : Addr} {t T' st₀ : State}
    (F : jF G M p s m args meth c A) (hD : va_D A (jwd G σ)) (hS : va_S A s.heap H locs) (hhs : M.hs = []) (hq : Q (.inr x) τ0) (X' : Stand p G.l e R s m args below meth c T' (locs ++ L) k n) (e1 : T'.heap = t.heap) (e2 : T'.vm = t.vm) (h0 : st₀.heap = H) (hQ : jQ G (va_A (jwd G σ) H.size) (jE x τ0) st₀ (.threw xa) t) (hL : ∀ q ∈ L, va_A (jwd G σ) H.size q.base)
    (hg : g.method = m) (hgl : g.locked = none) (hge : g.entered = []) (hk : k ≤ R.cells) (hn : n ≤ R.slots) :
    ∃ U, Steps p.tables e below ((T'.setTop g).pushFrame (.throwing xa)) U ∧ jMQ below (jQ G A Q) s R.cells R.slots A U := by
  have htab : c.exceptionTable.toList = [] := by
    have h := F.2.2.2.2.2.2.2.2.2.2
    rw [hhs] at h
    exact List.map_eq_nil_iff.mp h
  have hlocks := F.2.2.2.2.2.2.1
  obtain ⟨v1, v2, v3, v4, v5⟩ := X'.leaveThrown xa (g := g) hg hgl hge (fun z hz => by rw [htab] at hz; cases hz) hlocks
  obtain ⟨⟨o', τ, ⟨rfl, rfl⟩, ⟨xb, ce, hxb, h5, h6, h7⟩, hPt, hKt, hDt⟩, hz, hkk⟩ := hQ
  cases hxb
  have hAA := jfree F hD hS
  rw [h0] at hz hkk
  refine ⟨_, v1, .threw xa, v2, v3, ⟨⟨.inr x, _, hq, ⟨xa, ce, rfl, ?_, h6, ?_⟩, ?_, va_K.moved v4.alike F.2.2.2.2.2.2.2.1, hDt.weaken (fun _ q _ h => hAA q.1 h)⟩, ?_⟩, locs ++ L, ⟨v4, v5.mono hk hn⟩, ?_⟩
  · show T'.heap[xa]? = _
    rw [e1]; exact h5
  · show T'.vm.findClass _ = _
    rw [e2]; exact h7
  · show va_P _ _ _ T'.heap
    rw [e1]; exact hPt
  · refine ⟨?_, fun q h1 h2 => ?_⟩
    · show s.heap.size ≤ T'.heap.size
      rw [e1]; exact Nat.le_trans hS.1 hz
    · show T'.heap[q]? = _
      rw [e1, hkk q (Nat.lt_of_lt_of_le h1 hS.1) (fun z => h2 (hAA q z))]; exact hS.2.1 q h1 h2
  · intro q hq
    rcases List.mem_append.mp hq with h | h
    · exact hS.2.2 q h
    · exact hAA _ (hL q h)
theorem jv_callVX {G : jG} {M : jM} {R : Room} {Q : jO → jMem → Prop} {k n pc : Nat} {ls : List (Nat × Value)} {st st0 : List Value} {σ τ0 : jMem} {x : Nat} {M1 : jM} {rm : Room} {o ci : Nat} {fs : List (Option Nat)} {C : String} {T : u_T} {N : Nat} {as : List Value} {idx : Nat}
    (hM : jSp G M1 rm (.ref o :: as) σ (jE x τ0)) (hhs : M.hs = []) (hd : decode M.cc pc = .ok (.invokevirtual idx, 3)) (c0 : jC0 M1 as.length) (lk : Cond.methodLink M.own idx M1.y ∈ jTW) (hin : Cond.instanceMethod M1.y ∈ jTW) (hse : Cond.selects C M1.y M1.y ∈ jTW) (ho : o < jN) (hs : jshp o = .inl (ci, fs)) (hc : jCl[ci]? = some (C, T, N)) (hk0 : st0 = as.reverse ++ .ref o :: st) (h8 : (st.map fun v => v.category).sum ≤ 8)
    (hR : rm.frames + 1 ≤ R.frames ∧ 8 + (M1.nL + 11) + rm.locals ≤ R.locals ∧ k + rm.cells ≤ R.cells ∧ n + rm.slots ≤ R.slots) (hq : Q (.inr x) τ0) : jV G M R Q k n pc ls st0 σ := by
  intro p e s m args below meth c A H locs L F hP hD hS hl T9 hT X
  have hts := F.2.2.2.2.2.1
  obtain ⟨hs0, hcw, hini, hy, hp⟩ := c0
  have h8' : ((st.map (jcv G.ad)).map fun v => v.category).sum ≤ 8 := by
    rw [List.map_map]; simpa [Function.comp_def, jcv_cat] using h8
  have hsk : st0.map (jcv G.ad) = (as.map (jcv G.ad)).reverse ++ Value.ref (G.ad o) :: st.map (jcv G.ad) := by rw [hk0, List.map_append, List.map_reverse]; rfl
  obtain ⟨cellB, hcB, hoB, hclB⟩ := jrecv F hP ho hs hc
  have hgood := pay_in hts (jgoodIn hs0 hcw)
  obtain ⟨mk, methM, hnamed, hmethM, hstM, habM⟩ := Cond.instanceMethod_spec (hts _ hin)
  obtain ⟨methM', cM, hmethM', -, -, -, -, -, -, hsigM⟩ := Cond.code_spec hnamed (hts _ hcw)
  cases hmethM.symm.trans hmethM'
  obtain ⟨c2, r2, m2, q1, q2, q3, q4, kP, hkP, hkPi⟩ := Cond.selects_spec (hts _ hse)
  cases hclB.symm.trans q1
  cases (State.methodFound?_of_named hnamed hy).symm.trans q2
  cases hnamed.symm.trans q3
  have hselP : selectMethod e.platform s.vm cellB.cls mk = .method mk := by rw [Launch.admits_selectMethod X.admits]; exact q4
  obtain ⟨vm₁, X₁, hstep₁⟩ := X.invokevirtual F.1 F.2.2.2.2.1 (hts _ lk) hnamed hmethM hstM hkP hkPi hy (a := G.ad o) (cell := cellB) (by rw [hT]; exact hcB)
    (fun z h => by rw [h] at hoB; cases hoB) hselP hmethM habM hkP hkPi (g := F0 m pc L (st0.map (jcv G.ad))) rfl (argsL := as.map (jcv G.ad)) (rest := st.map (jcv G.ad)) (by rw [List.length_map]; exact jlen hp _ hsigM) hsk (by rw [F.2.1]; exact hd)
  have hSU : jS G σ (T9.setVm vm₁).heap.size (T9.setVm vm₁) := by
    have h := jS.call F hP hD hS (U := T9.setVm vm₁) hT X₁.warmed
    rw [← hT] at h; exact h
  obtain ⟨xa, t, T', L', X', e1, e2, hQ, hL, hst⟩ := jinvT hM X₁ (g := F0 m pc L (st.map (jcv G.ad))) (ig := .invokevirtual idx) (mk := mk) rfl (by show L.size = _; rw [hl.1]; exact F.2.2.1.symm) (by rw [F.2.1]; exact hd) (lv_room h8') (X₁.named hnamed) hR.1 hR.2.1 hR.2.2.1 hR.2.2.2 (fun w hw => hgood w hw _ _ X₁.warmed) (word_at X₁.warmed (jTW_good _ hini) (hts _ hini)) hSU
  have hHs : (T9.setVm vm₁).heap.size = H.size := by show T9.heap.size = _; rw [hT]
  rw [hHs] at hQ hL
  obtain ⟨U, u1, u2⟩ := joutT (Q := Q) F hD hS hhs hq X' e1 e2 (st₀ := (T9.setVm vm₁).calling _ mk _) hT hQ hL (g := F0 m pc L (st.map (jcv G.ad))) rfl rfl rfl hR.2.2.1 hR.2.2.2
  exact ⟨U, hstep₁ _ fun acts => by rw [doInvoke_state]; exact hst.trans u1, u2⟩
/-! functions that may throw -/
def jzi (z : Nat ⊕ Int32) : jO := match z with
  | .inl x => .inr x
  | .inr r => .inl (some (.int r))
def jzv (z : Nat ⊕ Unit) : jO := match z with
  | .inl x => .inr x
  | .inr _ => .inl none
theorem jSp.mono {G : jG} {M : jM} {rm : Room} {as : List Value} {σ : jMem} {Q Q' : jO → jMem → Prop} (h : jSp G M rm as σ Q) (hq : ∀ o τ, Q o τ → Q' o τ) : jSp G M rm as σ Q' := by
  intro sz p e ha hc hk s m args below hf happ hP hK
  obtain ⟨n, o, h1, h2, h3, ⟨⟨o', τ, h4, h5, h6⟩, h7⟩, h8⟩ := h sz p e ha hc hk s m args below hf happ hP hK
  exact ⟨n, o, h1, h2, h3, ⟨⟨o', τ, hq _ _ h4, h5, h6⟩, h7⟩, h8⟩
theorem jSp.ti {G : jG} {M : jM} {rm : Room} {as : List Value} {σ n : jMem} {v : Int32} (h : jSp G M rm as σ (fun o9 τ9 => o9 = jzi (.inr v) ∧ τ9 = n)) : jSp G M rm as σ (jI fun r τ => r = v ∧ τ = n) :=
  h.mono (fun _ _ h => ⟨v, h.1, rfl, h.2⟩)
theorem jSp.tv {G : jG} {M : jM} {rm : Room} {as : List Value} {σ n : jMem} {v : Unit} (h : jSp G M rm as σ (fun o9 τ9 => o9 = jzv (.inr v) ∧ τ9 = n)) : jSp G M rm as σ (jU fun τ => τ = n) :=
  h.mono (fun _ _ h => ⟨h.1, h.2⟩)
theorem jv_wide {G : jG} {M : jM} {R : Room} {Q : jO → jMem → Prop} {k n k1 n1 pc : Nat} {ls : List (Nat × Value)} {st : List Value} {σ : jMem} (h1 : k ≤ k1) (h2 : n ≤ n1) (kk : jV G M R Q k1 n1 pc ls st σ) : jV G M R Q k n pc ls st σ := by
  intro p e s m args below meth c A H locs L F hP hD hS hl
  exact W.widen h1 h2 (kk p e s m args below meth c A H locs L F hP hD hS hl)
theorem lm_IC_64 : Cond.methodLink "InkCoder" 64 ⟨"InkCoder", "refuseMissingBoard", "(I)V"⟩ ∈ jTW := jin2 48 rfl rfl
set_option maxRecDepth 20000 in
theorem atoms_IC_72_74 : ∀ a ∈ Bundle.ownAtoms0 "InkCoder" 74 (jX 1) ["java/lang/RuntimeException", "java/lang/Exception"], a ∈ jTW ∨ a ∈ jNW ∨ a = .isRef (.static "java/lang/Throwable" "UNASSIGNED_STACK" "[Ljava/lang/StackTraceElement;") ∨ a = .isRef (.static "java/lang/Throwable" "SUPPRESSED_SENTINEL" "Ljava/util/List;") ∨ a = .laysStatic "java/lang/Throwable" "UNASSIGNED_STACK" "[Ljava/lang/StackTraceElement;" ∨ a = .laysStatic "java/lang/Throwable" "SUPPRESSED_SENTINEL" "Ljava/util/List;" := by
  refine List.forall_mem_append.mpr ⟨List.forall_mem_append.mpr ⟨?_, ?_⟩, ?_⟩
  · exact List.forall_mem_cons.mpr ⟨Or.inl (jin1 11 rfl rfl), List.forall_mem_cons.mpr ⟨Or.inl (jin2 74 rfl rfl), List.forall_mem_cons.mpr ⟨Or.inl (jin2 83 rfl rfl), List.forall_mem_cons.mpr ⟨Or.inl (jin2 88 rfl rfl), List.forall_mem_cons.mpr ⟨Or.inl (jin2 91 rfl rfl), List.forall_mem_cons.mpr ⟨Or.inl (jin2 93 rfl rfl), List.forall_mem_cons.mpr ⟨Or.inl (jin2 75 rfl rfl), List.forall_mem_cons.mpr ⟨Or.inl (jin2 76 rfl rfl), List.forall_mem_cons.mpr ⟨Or.inl (jin1 30 rfl rfl), List.forall_mem_cons.mpr ⟨Or.inl (jin1 31 rfl rfl), List.forall_mem_cons.mpr ⟨Or.inl (jin2 77 rfl rfl), List.forall_mem_cons.mpr ⟨Or.inl (jin2 82 rfl rfl), List.forall_mem_cons.mpr ⟨Or.inl (jin2 89 rfl rfl), List.forall_mem_cons.mpr ⟨Or.inl (jin2 105 rfl rfl), List.forall_mem_cons.mpr ⟨Or.inl (jin2 64 rfl rfl), List.forall_mem_cons.mpr ⟨Or.inl (jin2 106 rfl rfl), List.forall_mem_cons.mpr ⟨Or.inl (jin2 66 rfl rfl), List.forall_mem_cons.mpr ⟨Or.inl (jin2 107 rfl rfl), List.forall_mem_cons.mpr ⟨Or.inl (jin2 68 rfl rfl), List.forall_mem_cons.mpr ⟨Or.inl (jin2 78 rfl rfl), List.forall_mem_cons.mpr ⟨Or.inr (Or.inr (Or.inr (Or.inr (Or.inl rfl)))), List.forall_mem_cons.mpr ⟨Or.inl (jin2 80 rfl rfl), List.forall_mem_cons.mpr ⟨Or.inr (Or.inr (Or.inr (Or.inr (Or.inr rfl)))), List.forall_mem_cons.mpr ⟨Or.inl (jin2 70 rfl rfl), fun _ h => absurd h List.not_mem_nil⟩⟩⟩⟩⟩⟩⟩⟩⟩⟩⟩⟩⟩⟩⟩⟩⟩⟩⟩⟩⟩⟩⟩⟩
  · exact List.forall_mem_append.mpr ⟨List.forall_mem_cons.mpr ⟨Or.inl (jin2 129 rfl rfl), List.forall_mem_cons.mpr ⟨Or.inl (jin2 130 rfl rfl), List.forall_mem_cons.mpr ⟨Or.inl (jin2 131 rfl rfl), List.forall_mem_cons.mpr ⟨Or.inl (jin2 98 rfl rfl), List.forall_mem_cons.mpr ⟨Or.inr (Or.inl (jinN2 55 rfl rfl)), fun _ h => absurd h List.not_mem_nil⟩⟩⟩⟩⟩, List.forall_mem_append.mpr ⟨List.forall_mem_cons.mpr ⟨Or.inl (jin2 98 rfl rfl), List.forall_mem_cons.mpr ⟨Or.inl (jin2 99 rfl rfl), List.forall_mem_cons.mpr ⟨Or.inl (jin2 100 rfl rfl), List.forall_mem_cons.mpr ⟨Or.inl (jin2 101 rfl rfl), List.forall_mem_cons.mpr ⟨Or.inr (Or.inl (jinN2 57 rfl rfl)), fun _ h => absurd h List.not_mem_nil⟩⟩⟩⟩⟩, List.forall_mem_cons.mpr ⟨Or.inl (jin2 101 rfl rfl), List.forall_mem_cons.mpr ⟨Or.inl (jin2 102 rfl rfl), List.forall_mem_cons.mpr ⟨Or.inl (jin2 103 rfl rfl), List.forall_mem_cons.mpr ⟨Or.inl (jin2 75 rfl rfl), List.forall_mem_cons.mpr ⟨Or.inr (Or.inl (jinN2 59 rfl rfl)), fun _ h => absurd h List.not_mem_nil⟩⟩⟩⟩⟩⟩⟩
  · exact List.forall_mem_cons.mpr ⟨Or.inl (jin2 128 rfl rfl), List.forall_mem_cons.mpr ⟨Or.inl (jin2 120 rfl rfl), List.forall_mem_cons.mpr ⟨Or.inr (Or.inl (jinN2 121 rfl rfl)), List.forall_mem_cons.mpr ⟨Or.inl (jin2 122 rfl rfl), List.forall_mem_cons.mpr ⟨Or.inl (jin2 85 rfl rfl), List.forall_mem_cons.mpr ⟨Or.inl (jin2 123 rfl rfl), List.forall_mem_cons.mpr ⟨Or.inl (jin2 124 rfl rfl), List.forall_mem_cons.mpr ⟨Or.inl (jin2 125 rfl rfl), List.forall_mem_cons.mpr ⟨Or.inl (jin2 126 rfl rfl), List.forall_mem_cons.mpr ⟨Or.inr (Or.inr (Or.inl rfl)), List.forall_mem_cons.mpr ⟨Or.inr (Or.inr (Or.inr (Or.inl rfl))), List.forall_mem_cons.mpr ⟨Or.inl (jin2 73 rfl rfl), List.forall_mem_cons.mpr ⟨Or.inl (jin2 72 rfl rfl), List.forall_mem_cons.mpr ⟨Or.inl (jin2 127 rfl rfl), fun _ h => absurd h List.not_mem_nil⟩⟩⟩⟩⟩⟩⟩⟩⟩⟩⟩⟩⟩⟩
theorem th_IC_72_74 : jTH "InkCoder" 72 74 1 := ⟨jin2 119 rfl rfl, jin2 120 rfl rfl, jin1 15 rfl rfl, by decide +kernel, atoms_IC_72_74⟩
set_option maxRecDepth 20000 in
theorem atoms_IC_83_85 : ∀ a ∈ Bundle.ownAtoms0 "InkCoder" 85 (jX 0) ["java/lang/RuntimeException", "java/lang/Exception"], a ∈ jTW ∨ a ∈ jNW ∨ a = .isRef (.static "java/lang/Throwable" "UNASSIGNED_STACK" "[Ljava/lang/StackTraceElement;") ∨ a = .isRef (.static "java/lang/Throwable" "SUPPRESSED_SENTINEL" "Ljava/util/List;") ∨ a = .laysStatic "java/lang/Throwable" "UNASSIGNED_STACK" "[Ljava/lang/StackTraceElement;" ∨ a = .laysStatic "java/lang/Throwable" "SUPPRESSED_SENTINEL" "Ljava/util/List;" := by
  refine List.forall_mem_append.mpr ⟨List.forall_mem_append.mpr ⟨?_, ?_⟩, ?_⟩
  · exact List.forall_mem_cons.mpr ⟨Or.inl (jin1 11 rfl rfl), List.forall_mem_cons.mpr ⟨Or.inl (jin2 74 rfl rfl), List.forall_mem_cons.mpr ⟨Or.inl (jin2 83 rfl rfl), List.forall_mem_cons.mpr ⟨Or.inl (jin2 88 rfl rfl), List.forall_mem_cons.mpr ⟨Or.inl (jin2 91 rfl rfl), List.forall_mem_cons.mpr ⟨Or.inl (jin2 93 rfl rfl), List.forall_mem_cons.mpr ⟨Or.inl (jin2 75 rfl rfl), List.forall_mem_cons.mpr ⟨Or.inl (jin2 76 rfl rfl), List.forall_mem_cons.mpr ⟨Or.inl (jin1 30 rfl rfl), List.forall_mem_cons.mpr ⟨Or.inl (jin1 31 rfl rfl), List.forall_mem_cons.mpr ⟨Or.inl (jin2 77 rfl rfl), List.forall_mem_cons.mpr ⟨Or.inl (jin2 82 rfl rfl), List.forall_mem_cons.mpr ⟨Or.inl (jin2 89 rfl rfl), List.forall_mem_cons.mpr ⟨Or.inl (jin2 105 rfl rfl), List.forall_mem_cons.mpr ⟨Or.inl (jin2 64 rfl rfl), List.forall_mem_cons.mpr ⟨Or.inl (jin2 106 rfl rfl), List.forall_mem_cons.mpr ⟨Or.inl (jin2 66 rfl rfl), List.forall_mem_cons.mpr ⟨Or.inl (jin2 107 rfl rfl), List.forall_mem_cons.mpr ⟨Or.inl (jin2 68 rfl rfl), List.forall_mem_cons.mpr ⟨Or.inl (jin2 78 rfl rfl), List.forall_mem_cons.mpr ⟨Or.inr (Or.inr (Or.inr (Or.inr (Or.inl rfl)))), List.forall_mem_cons.mpr ⟨Or.inl (jin2 80 rfl rfl), List.forall_mem_cons.mpr ⟨Or.inr (Or.inr (Or.inr (Or.inr (Or.inr rfl)))), List.forall_mem_cons.mpr ⟨Or.inl (jin2 70 rfl rfl), fun _ h => absurd h List.not_mem_nil⟩⟩⟩⟩⟩⟩⟩⟩⟩⟩⟩⟩⟩⟩⟩⟩⟩⟩⟩⟩⟩⟩⟩⟩
  · exact List.forall_mem_append.mpr ⟨List.forall_mem_cons.mpr ⟨Or.inl (jin2 95 rfl rfl), List.forall_mem_cons.mpr ⟨Or.inl (jin2 96 rfl rfl), List.forall_mem_cons.mpr ⟨Or.inl (jin2 97 rfl rfl), List.forall_mem_cons.mpr ⟨Or.inl (jin2 98 rfl rfl), List.forall_mem_cons.mpr ⟨Or.inr (Or.inl (jinN2 55 rfl rfl)), fun _ h => absurd h List.not_mem_nil⟩⟩⟩⟩⟩, List.forall_mem_append.mpr ⟨List.forall_mem_cons.mpr ⟨Or.inl (jin2 98 rfl rfl), List.forall_mem_cons.mpr ⟨Or.inl (jin2 99 rfl rfl), List.forall_mem_cons.mpr ⟨Or.inl (jin2 100 rfl rfl), List.forall_mem_cons.mpr ⟨Or.inl (jin2 101 rfl rfl), List.forall_mem_cons.mpr ⟨Or.inr (Or.inl (jinN2 57 rfl rfl)), fun _ h => absurd h List.not_mem_nil⟩⟩⟩⟩⟩, List.forall_mem_cons.mpr ⟨Or.inl (jin2 101 rfl rfl), List.forall_mem_cons.mpr ⟨Or.inl (jin2 102 rfl rfl), List.forall_mem_cons.mpr ⟨Or.inl (jin2 103 rfl rfl), List.forall_mem_cons.mpr ⟨Or.inl (jin2 75 rfl rfl), List.forall_mem_cons.mpr ⟨Or.inr (Or.inl (jinN2 59 rfl rfl)), fun _ h => absurd h List.not_mem_nil⟩⟩⟩⟩⟩⟩⟩
  · exact List.forall_mem_cons.mpr ⟨Or.inl (jin2 94 rfl rfl), List.forall_mem_cons.mpr ⟨Or.inl (jin2 53 rfl rfl), List.forall_mem_cons.mpr ⟨Or.inr (Or.inl (jinN2 54 rfl rfl)), List.forall_mem_cons.mpr ⟨Or.inl (jin2 61 rfl rfl), List.forall_mem_cons.mpr ⟨Or.inl (jin2 62 rfl rfl), List.forall_mem_cons.mpr ⟨Or.inl (jin2 63 rfl rfl), List.forall_mem_cons.mpr ⟨Or.inl (jin2 65 rfl rfl), List.forall_mem_cons.mpr ⟨Or.inl (jin2 67 rfl rfl), List.forall_mem_cons.mpr ⟨Or.inl (jin2 69 rfl rfl), List.forall_mem_cons.mpr ⟨Or.inr (Or.inr (Or.inl rfl)), List.forall_mem_cons.mpr ⟨Or.inr (Or.inr (Or.inr (Or.inl rfl))), List.forall_mem_cons.mpr ⟨Or.inl (jin2 73 rfl rfl), List.forall_mem_cons.mpr ⟨Or.inl (jin2 72 rfl rfl), List.forall_mem_cons.mpr ⟨Or.inl (jin2 71 rfl rfl), fun _ h => absurd h List.not_mem_nil⟩⟩⟩⟩⟩⟩⟩⟩⟩⟩⟩⟩⟩⟩
theorem th_IC_83_85 : jTH "InkCoder" 83 85 0 := ⟨jin2 52 rfl rfl, jin2 53 rfl rfl, jin1 14 rfl rfl, by decide +kernel, atoms_IC_83_85⟩
theorem lm_IC_134 : Cond.methodLink "InkCoder" 134 ⟨"InkCoder", "refuseIdle", "()V"⟩ ∈ jTW := jin2 208 rfl rfl
theorem lm_IC_140 : Cond.methodLink "InkCoder" 140 ⟨"InkCoder", "coder", "()LInkCoder$Coder;"⟩ ∈ jTW := jin3 12 rfl rfl
set_option maxRecDepth 20000 in
theorem atoms_IC_167_169 : ∀ a ∈ Bundle.ownAtoms0 "InkCoder" 169 (jX 3) ["java/lang/RuntimeException", "java/lang/Exception"], a ∈ jTW ∨ a ∈ jNW ∨ a = .isRef (.static "java/lang/Throwable" "UNASSIGNED_STACK" "[Ljava/lang/StackTraceElement;") ∨ a = .isRef (.static "java/lang/Throwable" "SUPPRESSED_SENTINEL" "Ljava/util/List;") ∨ a = .laysStatic "java/lang/Throwable" "UNASSIGNED_STACK" "[Ljava/lang/StackTraceElement;" ∨ a = .laysStatic "java/lang/Throwable" "SUPPRESSED_SENTINEL" "Ljava/util/List;" := by
  refine List.forall_mem_append.mpr ⟨List.forall_mem_append.mpr ⟨?_, ?_⟩, ?_⟩
  · exact List.forall_mem_cons.mpr ⟨Or.inl (jin1 11 rfl rfl), List.forall_mem_cons.mpr ⟨Or.inl (jin2 74 rfl rfl), List.forall_mem_cons.mpr ⟨Or.inl (jin2 83 rfl rfl), List.forall_mem_cons.mpr ⟨Or.inl (jin2 88 rfl rfl), List.forall_mem_cons.mpr ⟨Or.inl (jin2 91 rfl rfl), List.forall_mem_cons.mpr ⟨Or.inl (jin2 93 rfl rfl), List.forall_mem_cons.mpr ⟨Or.inl (jin2 75 rfl rfl), List.forall_mem_cons.mpr ⟨Or.inl (jin2 76 rfl rfl), List.forall_mem_cons.mpr ⟨Or.inl (jin1 30 rfl rfl), List.forall_mem_cons.mpr ⟨Or.inl (jin1 31 rfl rfl), List.forall_mem_cons.mpr ⟨Or.inl (jin2 77 rfl rfl), List.forall_mem_cons.mpr ⟨Or.inl (jin2 82 rfl rfl), List.forall_mem_cons.mpr ⟨Or.inl (jin2 89 rfl rfl), List.forall_mem_cons.mpr ⟨Or.inl (jin2 105 rfl rfl), List.forall_mem_cons.mpr ⟨Or.inl (jin2 64 rfl rfl), List.forall_mem_cons.mpr ⟨Or.inl (jin2 106 rfl rfl), List.forall_mem_cons.mpr ⟨Or.inl (jin2 66 rfl rfl), List.forall_mem_cons.mpr ⟨Or.inl (jin2 107 rfl rfl), List.forall_mem_cons.mpr ⟨Or.inl (jin2 68 rfl rfl), List.forall_mem_cons.mpr ⟨Or.inl (jin2 78 rfl rfl), List.forall_mem_cons.mpr ⟨Or.inr (Or.inr (Or.inr (Or.inr (Or.inl rfl)))), List.forall_mem_cons.mpr ⟨Or.inl (jin2 80 rfl rfl), List.forall_mem_cons.mpr ⟨Or.inr (Or.inr (Or.inr (Or.inr (Or.inr rfl)))), List.forall_mem_cons.mpr ⟨Or.inl (jin2 70 rfl rfl), fun _ h => absurd h List.not_mem_nil⟩⟩⟩⟩⟩⟩⟩⟩⟩⟩⟩⟩⟩⟩⟩⟩⟩⟩⟩⟩⟩⟩⟩⟩
  · exact List.forall_mem_append.mpr ⟨List.forall_mem_cons.mpr ⟨Or.inl (jin3 138 rfl rfl), List.forall_mem_cons.mpr ⟨Or.inl (jin3 139 rfl rfl), List.forall_mem_cons.mpr ⟨Or.inl (jin3 140 rfl rfl), List.forall_mem_cons.mpr ⟨Or.inl (jin2 98 rfl rfl), List.forall_mem_cons.mpr ⟨Or.inr (Or.inl (jinN2 55 rfl rfl)), fun _ h => absurd h List.not_mem_nil⟩⟩⟩⟩⟩, List.forall_mem_append.mpr ⟨List.forall_mem_cons.mpr ⟨Or.inl (jin2 98 rfl rfl), List.forall_mem_cons.mpr ⟨Or.inl (jin2 99 rfl rfl), List.forall_mem_cons.mpr ⟨Or.inl (jin2 100 rfl rfl), List.forall_mem_cons.mpr ⟨Or.inl (jin2 101 rfl rfl), List.forall_mem_cons.mpr ⟨Or.inr (Or.inl (jinN2 57 rfl rfl)), fun _ h => absurd h List.not_mem_nil⟩⟩⟩⟩⟩, List.forall_mem_cons.mpr ⟨Or.inl (jin2 101 rfl rfl), List.forall_mem_cons.mpr ⟨Or.inl (jin2 102 rfl rfl), List.forall_mem_cons.mpr ⟨Or.inl (jin2 103 rfl rfl), List.forall_mem_cons.mpr ⟨Or.inl (jin2 75 rfl rfl), List.forall_mem_cons.mpr ⟨Or.inr (Or.inl (jinN2 59 rfl rfl)), fun _ h => absurd h List.not_mem_nil⟩⟩⟩⟩⟩⟩⟩
  · exact List.forall_mem_cons.mpr ⟨Or.inl (jin3 137 rfl rfl), List.forall_mem_cons.mpr ⟨Or.inl (jin3 129 rfl rfl), List.forall_mem_cons.mpr ⟨Or.inr (Or.inl (jinN3 130 rfl rfl)), List.forall_mem_cons.mpr ⟨Or.inl (jin3 131 rfl rfl), List.forall_mem_cons.mpr ⟨Or.inl (jin2 87 rfl rfl), List.forall_mem_cons.mpr ⟨Or.inl (jin3 132 rfl rfl), List.forall_mem_cons.mpr ⟨Or.inl (jin3 133 rfl rfl), List.forall_mem_cons.mpr ⟨Or.inl (jin3 134 rfl rfl), List.forall_mem_cons.mpr ⟨Or.inl (jin3 135 rfl rfl), List.forall_mem_cons.mpr ⟨Or.inr (Or.inr (Or.inl rfl)), List.forall_mem_cons.mpr ⟨Or.inr (Or.inr (Or.inr (Or.inl rfl))), List.forall_mem_cons.mpr ⟨Or.inl (jin2 73 rfl rfl), List.forall_mem_cons.mpr ⟨Or.inl (jin2 72 rfl rfl), List.forall_mem_cons.mpr ⟨Or.inl (jin3 136 rfl rfl), fun _ h => absurd h List.not_mem_nil⟩⟩⟩⟩⟩⟩⟩⟩⟩⟩⟩⟩⟩⟩
theorem th_IC_167_169 : jTH "InkCoder" 167 169 3 := ⟨jin3 128 rfl rfl, jin3 129 rfl rfl, jin1 22 rfl rfl, by decide +kernel, atoms_IC_167_169⟩
theorem lm_IC_178 : Cond.methodLink "InkCoder" 178 ⟨"InkCoder", "refuseMissingSymbol", "(I)V"⟩ ∈ jTW := jin3 157 rfl rfl
theorem lm_IC_196 : Cond.methodLink "InkCoder" 196 ⟨"InkCoder", "codeSymbols", "()I"⟩ ∈ jTW := jin3 194 rfl rfl
theorem lm_IC_199 : Cond.methodLink "InkCoder" 199 ⟨"InkCoder", "codeMarks", "(IZ)I"⟩ ∈ jTW := jin3 205 rfl rfl
theorem lm_IC_203 : Cond.methodLink "InkCoder" 203 ⟨"InkCoder", "stampMark", "(LInkCoder$Picture;IIZI)V"⟩ ∈ jTW := jin3 230 rfl rfl
theorem lm_IC_207 : Cond.methodLink "InkCoder" 207 ⟨"InkCoder", "startOf", "(IIZ)I"⟩ ∈ jTW := jin3 209 rfl rfl
theorem lm_IC_215 : Cond.methodLink "InkCoder" 215 ⟨"InkCoder", "isSymbol", "(I)Z"⟩ ∈ jTW := jin3 161 rfl rfl
theorem lm_IC_218 : Cond.methodLink "InkCoder" 218 ⟨"InkCoder", "before", "(IIZ)I"⟩ ∈ jTW := jin3 213 rfl rfl
theorem lm_IC_221 : Cond.methodLink "InkCoder" 221 ⟨"InkCoder", "extent", "(IZ)I"⟩ ∈ jTW := jin3 223 rfl rfl
set_option maxRecDepth 20000 in
theorem atoms_IC_230_232 : ∀ a ∈ Bundle.ownAtoms0 "InkCoder" 232 (jX 2) ["java/lang/RuntimeException", "java/lang/Exception"], a ∈ jTW ∨ a ∈ jNW ∨ a = .isRef (.static "java/lang/Throwable" "UNASSIGNED_STACK" "[Ljava/lang/StackTraceElement;") ∨ a = .isRef (.static "java/lang/Throwable" "SUPPRESSED_SENTINEL" "Ljava/util/List;") ∨ a = .laysStatic "java/lang/Throwable" "UNASSIGNED_STACK" "[Ljava/lang/StackTraceElement;" ∨ a = .laysStatic "java/lang/Throwable" "SUPPRESSED_SENTINEL" "Ljava/util/List;" := by
  refine List.forall_mem_append.mpr ⟨List.forall_mem_append.mpr ⟨?_, ?_⟩, ?_⟩
  · exact List.forall_mem_cons.mpr ⟨Or.inl (jin1 11 rfl rfl), List.forall_mem_cons.mpr ⟨Or.inl (jin2 74 rfl rfl), List.forall_mem_cons.mpr ⟨Or.inl (jin2 83 rfl rfl), List.forall_mem_cons.mpr ⟨Or.inl (jin2 88 rfl rfl), List.forall_mem_cons.mpr ⟨Or.inl (jin2 91 rfl rfl), List.forall_mem_cons.mpr ⟨Or.inl (jin2 93 rfl rfl), List.forall_mem_cons.mpr ⟨Or.inl (jin2 75 rfl rfl), List.forall_mem_cons.mpr ⟨Or.inl (jin2 76 rfl rfl), List.forall_mem_cons.mpr ⟨Or.inl (jin1 30 rfl rfl), List.forall_mem_cons.mpr ⟨Or.inl (jin1 31 rfl rfl), List.forall_mem_cons.mpr ⟨Or.inl (jin2 77 rfl rfl), List.forall_mem_cons.mpr ⟨Or.inl (jin2 82 rfl rfl), List.forall_mem_cons.mpr ⟨Or.inl (jin2 89 rfl rfl), List.forall_mem_cons.mpr ⟨Or.inl (jin2 105 rfl rfl), List.forall_mem_cons.mpr ⟨Or.inl (jin2 64 rfl rfl), List.forall_mem_cons.mpr ⟨Or.inl (jin2 106 rfl rfl), List.forall_mem_cons.mpr ⟨Or.inl (jin2 66 rfl rfl), List.forall_mem_cons.mpr ⟨Or.inl (jin2 107 rfl rfl), List.forall_mem_cons.mpr ⟨Or.inl (jin2 68 rfl rfl), List.forall_mem_cons.mpr ⟨Or.inl (jin2 78 rfl rfl), List.forall_mem_cons.mpr ⟨Or.inr (Or.inr (Or.inr (Or.inr (Or.inl rfl)))), List.forall_mem_cons.mpr ⟨Or.inl (jin2 80 rfl rfl), List.forall_mem_cons.mpr ⟨Or.inr (Or.inr (Or.inr (Or.inr (Or.inr rfl)))), List.forall_mem_cons.mpr ⟨Or.inl (jin2 70 rfl rfl), fun _ h => absurd h List.not_mem_nil⟩⟩⟩⟩⟩⟩⟩⟩⟩⟩⟩⟩⟩⟩⟩⟩⟩⟩⟩⟩⟩⟩⟩⟩
  · exact List.forall_mem_append.mpr ⟨List.forall_mem_cons.mpr ⟨Or.inl (jin2 222 rfl rfl), List.forall_mem_cons.mpr ⟨Or.inl (jin2 223 rfl rfl), List.forall_mem_cons.mpr ⟨Or.inl (jin2 224 rfl rfl), List.forall_mem_cons.mpr ⟨Or.inl (jin2 98 rfl rfl), List.forall_mem_cons.mpr ⟨Or.inr (Or.inl (jinN2 55 rfl rfl)), fun _ h => absurd h List.not_mem_nil⟩⟩⟩⟩⟩, List.forall_mem_append.mpr ⟨List.forall_mem_cons.mpr ⟨Or.inl (jin2 98 rfl rfl), List.forall_mem_cons.mpr ⟨Or.inl (jin2 99 rfl rfl), List.forall_mem_cons.mpr ⟨Or.inl (jin2 100 rfl rfl), List.forall_mem_cons.mpr ⟨Or.inl (jin2 101 rfl rfl), List.forall_mem_cons.mpr ⟨Or.inr (Or.inl (jinN2 57 rfl rfl)), fun _ h => absurd h List.not_mem_nil⟩⟩⟩⟩⟩, List.forall_mem_cons.mpr ⟨Or.inl (jin2 101 rfl rfl), List.forall_mem_cons.mpr ⟨Or.inl (jin2 102 rfl rfl), List.forall_mem_cons.mpr ⟨Or.inl (jin2 103 rfl rfl), List.forall_mem_cons.mpr ⟨Or.inl (jin2 75 rfl rfl), List.forall_mem_cons.mpr ⟨Or.inr (Or.inl (jinN2 59 rfl rfl)), fun _ h => absurd h List.not_mem_nil⟩⟩⟩⟩⟩⟩⟩
  · exact List.forall_mem_cons.mpr ⟨Or.inl (jin2 221 rfl rfl), List.forall_mem_cons.mpr ⟨Or.inl (jin2 213 rfl rfl), List.forall_mem_cons.mpr ⟨Or.inr (Or.inl (jinN2 214 rfl rfl)), List.forall_mem_cons.mpr ⟨Or.inl (jin2 215 rfl rfl), List.forall_mem_cons.mpr ⟨Or.inl (jin2 86 rfl rfl), List.forall_mem_cons.mpr ⟨Or.inl (jin2 216 rfl rfl), List.forall_mem_cons.mpr ⟨Or.inl (jin2 217 rfl rfl), List.forall_mem_cons.mpr ⟨Or.inl (jin2 218 rfl rfl), List.forall_mem_cons.mpr ⟨Or.inl (jin2 219 rfl rfl), List.forall_mem_cons.mpr ⟨Or.inr (Or.inr (Or.inl rfl)), List.forall_mem_cons.mpr ⟨Or.inr (Or.inr (Or.inr (Or.inl rfl))), List.forall_mem_cons.mpr ⟨Or.inl (jin2 73 rfl rfl), List.forall_mem_cons.mpr ⟨Or.inl (jin2 72 rfl rfl), List.forall_mem_cons.mpr ⟨Or.inl (jin2 220 rfl rfl), fun _ h => absurd h List.not_mem_nil⟩⟩⟩⟩⟩⟩⟩⟩⟩⟩⟩⟩⟩⟩
theorem th_IC_230_232 : jTH "InkCoder" 230 232 2 := ⟨jin2 212 rfl rfl, jin2 213 rfl rfl, jin1 18 rfl rfl, by decide +kernel, atoms_IC_230_232⟩
theorem lm_LW_7 : Cond.methodLink "InkCoderLaw" 7 ⟨"InkCoder", "size", "(III)V"⟩ ∈ jTW := jin2 44 rfl rfl
theorem lm_LW_17 : Cond.methodLink "InkCoderLaw" 17 ⟨"InkCoder", "flip", "(III)Z"⟩ ∈ jTW := jin2 142 rfl rfl
theorem lm_LW_21 : Cond.methodLink "InkCoderLaw" 21 ⟨"InkCoder", "draw", "(IIIII)V"⟩ ∈ jTW := jin2 154 rfl rfl
theorem lm_LW_25 : Cond.methodLink "InkCoderLaw" 25 ⟨"InkCoder", "board", "(II)I"⟩ ∈ jTW := jin2 178 rfl rfl
theorem lm_LW_29 : Cond.methodLink "InkCoderLaw" 29 ⟨"InkCoder", "code", "(I)I"⟩ ∈ jTW := jin2 195 rfl rfl
theorem lm_LW_33 : Cond.methodLink "InkCoderLaw" 33 ⟨"InkCoder", "end", "()I"⟩ ∈ jTW := jin2 204 rfl rfl
theorem lm_LW_39 : Cond.methodLink "InkCoderLaw" 39 ⟨"InkCoder", "region", "(IIZ)I"⟩ ∈ jTW := jin3 8 rfl rfl
theorem lm_LW_43 : Cond.methodLink "InkCoderLaw" 43 ⟨"InkCoder", "refine", "(IIII)I"⟩ ∈ jTW := jin3 82 rfl rfl
theorem lm_LW_47 : Cond.methodLink "InkCoderLaw" 47 ⟨"InkCoder", "number", "(II)I"⟩ ∈ jTW := jin3 95 rfl rfl
theorem lm_LW_50 : Cond.methodLink "InkCoderLaw" 50 ⟨"InkCoder", "learn", "(I)I"⟩ ∈ jTW := jin3 124 rfl rfl
theorem lm_LW_55 : Cond.methodLink "InkCoderLaw" 55 ⟨"InkCoder", "mark", "(III)I"⟩ ∈ jTW := jin3 153 rfl rfl
theorem lm_LW_59 : Cond.methodLink "InkCoderLaw" 59 ⟨"InkCoder", "symbol", "(III)I"⟩ ∈ jTW := jin3 176 rfl rfl
theorem lm_LW_62 : Cond.methodLink "InkCoderLaw" 62 ⟨"InkCoder", "marked", "(II)I"⟩ ∈ jTW := jin3 183 rfl rfl
theorem lm_LW_65 : Cond.methodLink "InkCoderLaw" 65 ⟨"InkCoder", "dictionary", "()I"⟩ ∈ jTW := jin3 190 rfl rfl
theorem lm_LW_68 : Cond.methodLink "InkCoderLaw" 68 ⟨"InkCoder", "text", "(IIZI)I"⟩ ∈ jTW := jin3 201 rfl rfl
theorem lm_LW_89 : Cond.methodLink "InkCoderLaw" 89 ⟨"InkCoder", "point", "(III)Z"⟩ ∈ jTW := jin1 207 rfl rfl
theorem lm_LW_101 : Cond.methodLink "InkCoderLaw" 101 ⟨"InkCoder", "put", "(I)Z"⟩ ∈ jTW := jin1 225 rfl rfl
theorem lm_LW_106 : Cond.methodLink "InkCoderLaw" 106 ⟨"InkCoder", "cut", "(I)Z"⟩ ∈ jTW := jin1 233 rfl rfl
theorem lm_LW_110 : Cond.methodLink "InkCoderLaw" 110 ⟨"InkCoder", "length", "()I"⟩ ∈ jTW := jin1 237 rfl rfl
theorem lm_LW_118 : Cond.methodLink "InkCoderLaw" 118 ⟨"InkCoder", "begin", "(Z)V"⟩ ∈ jTW := jin2 1 rfl rfl
theorem lm_LW_127 : Cond.methodLink "InkCoderLaw" 127 ⟨"InkCoder", "state", "()I"⟩ ∈ jTW := jin2 31 rfl rfl
theorem lm_LW_145 : Cond.methodLink "InkCoderLaw" 145 ⟨"InkCoder", "forget", "()V"⟩ ∈ jTW := jin2 35 rfl rfl
