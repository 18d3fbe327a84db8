/-! exceptions that a handler of the frame catches: the catch types may be open entries of the pool -/
theorem jgo_cold {e : Env} {S : State} {f : JFrame} {a : Addr} {x : ExceptionTableEntry} {t : List ExceptionTableEntry} {cc : ClassId} {vm₁ : Vm} {cell : Cell} (hx : covers x f.pc = true) (h0 : x.catchType ≠ 0) (hg : (Jvm.resolveClass f.method.cls x.catchType).Gives e.toSetting S.vm (.ok cc) vm₁) (hr : vm₁.classReady f.method.cls x.catchType cc) (hsz : vm₁.classes.size ≤ S.vm.classes.size) (hcell : S.heap[a]? = some cell) (hobj : ∀ k, cell.vm ≠ .statics k) (hk : ∃ k, vm₁.classes[cell.cls]? = some k) (hc : ∃ k, vm₁.classes[cc]? = some k) {Q : Handler → Pre} {E : CtlPost} {d : Bool} {acts : List Action} :
    wp (findHandler.go f a (x :: t)) Q E e d acts S ↔ if vm₁.assignable cell.cls cc = true then Q (.found x.handlerPc) d acts (S.setVm vm₁) else wp (findHandler.go f a t) Q E e d acts (S.setVm vm₁) := by
  have hw := Jvm.W.findHandler_go_class (E := E) (e := e) (d := d) (acts := acts) (s := S.setVm vm₁) (f := f) (a := a) (Q := Q) (x := x) (t := t) hx h0 hr hcell hobj hk hc
  refine Iff.trans ?_ hw
  obtain ⟨ha, ht⟩ := hg.op (op := VmOp.resolveClass f.method.cls x.catchType) rfl
  simp only [covers] at hx
  obtain ⟨k, hkd, hres⟩ := hr
  simp [findHandler.go, hx, h0, ha, ht, hsz, resolveClass_memo e (vm := vm₁) hkd hres, VmOp.dirties, VmOp.acts]
  exact Iff.rfl
/-- which handler takes exception x: by the numbers of the classes that the entries name -/
def jsel (x : Nat) : List (Nat × Nat × Nat) → Option Nat
  | [] => none
  | (_, h, y) :: r => if y = x then some h else jsel x r
theorem jsel_find {p : Program} {l : Launch} {e : Env} {R : Room} {s : State} {m : MethodId} {args : Array Value} {below : List Frame} {meth : Method} {c : Code} {locs : List Loc} {k n : Nat} {own : String} {x hp : Nat} {a : Addr} {cell : Cell} {g : JFrame}
    (hg : g.method = m) (hown : s.vm.findClass own = some m.cls) (hts : ∀ w ∈ jTW, w.before args s = true) (hnc : ∀ q ∈ jNC, va_Nc q.1 q.2 s) (hx4 : x < 4) :
    ∀ (hl : List (Nat × Nat × Nat)) (ents : List ExceptionTableEntry) (T : State), Stand p l e R s m args below meth c T locs k n → T.heap[a]? = some cell → cell.vm.isStatics = false → T.vm.findClass (jX x) = some cell.cls →
      ents.map (fun h => (h.catchType, h.handlerPc)) = hl.map (fun q => (q.1, q.2.1)) → (∀ z ∈ ents, covers z g.pc = true) → (∀ q ∈ hl, q.1 ≠ 0 ∧ q.2.2 < 4 ∧ Cond.classLink own q.1 (jX q.2.2) ∈ jTW) → jsel x hl = some hp →
      ∃ vm', s.WarmedH vm' ∧ ∀ (Q : Handler → Pre) (E : CtlPost) (d : Bool) (acts : List Action), wp (findHandler.go g a ents) Q E e d acts ((T.setTop g).pushFrame (.throwing a)) ↔ Q (.found hp) d acts (((T.setVm vm').setTop g).pushFrame (.throwing a)) := by
  intro hl
  induction hl with
  | nil => intro ents T X _ _ _ _ _ _ h; cases h
  | cons q r ih =>
    intro ents T X hcell hst hcl hmap hcov hlk hsel
    obtain ⟨ct, hpc, y⟩ := q
    cases ents with
    | nil => cases hmap
    | cons z t =>
      simp only [List.map_cons, List.cons.injEq, Prod.mk.injEq] at hmap
      obtain ⟨⟨e1, e2⟩, hmap⟩ := hmap
      obtain ⟨q1, q2, q3⟩ := hlk (ct, hpc, y) List.mem_cons_self
      have hpl : e.platform.magicAccessors = ({} : Platform).magicAccessors := by rw [X.admits.platform]
      subst hg
      obtain ⟨cC, hfcc, hcl9⟩ := Cond.classLink_spec hown (hts _ q3) e.platform hpl
      obtain ⟨hg₁, hwarm₁, hready₁⟩ := State.classEntry (e := e) X.warmed hcl9
      have X₁ := X.noted hwarm₁
      have hsz : (T.vm.noted g.method.cls ct (.cls cC)).classes.size ≤ T.vm.classes.size := by no_record
      have hal : s.vm.Alike (T.vm.noted g.method.cls ct (.cls cC)) := hwarm₁.alike
      have hfx : s.vm.findClass (jX x) = some cell.cls := by rw [← X.warmed.alike.findClass]; exact hcl
      obtain ⟨kx, hkx⟩ := Vm.classAt_of_findClass (vm := T.vm.noted g.method.cls ct (.cls cC)) (name := jX x) (c := cell.cls) (by rw [hal.findClass]; exact hfx)
      obtain ⟨kc, hkc⟩ := Vm.classAt_of_findClass (vm := T.vm.noted g.method.cls ct (.cls cC)) (name := jX y) (c := cC) (by rw [hal.findClass]; exact hfcc)
      have hvmS : ((T.setTop g).pushFrame (.throwing a)).vm = T.vm := throwing_vm T g a
      have hheS : ((T.setTop g).pushFrame (.throwing a)).heap = T.heap := throwing_heap T g a
      have hgo : ∀ (Q : Handler → Pre) (E : CtlPost) (d : Bool) (acts : List Action), wp (findHandler.go g a (z :: t)) Q E e d acts ((T.setTop g).pushFrame (.throwing a)) ↔ if (T.vm.noted g.method.cls ct (.cls cC)).assignable cell.cls cC = true then Q (.found z.handlerPc) d acts (((T.setTop g).pushFrame (.throwing a)).setVm (T.vm.noted g.method.cls ct (.cls cC))) else wp (findHandler.go g a t) Q E e d acts (((T.setTop g).pushFrame (.throwing a)).setVm (T.vm.noted g.method.cls ct (.cls cC))) := fun Q E d acts =>
        jgo_cold (hcov z List.mem_cons_self) (by rw [e1]; exact q1) (by rw [e1, hvmS]; exact hg₁) (by rw [e1]; exact hready₁) (by rw [hvmS]; exact hsz) (by rw [hheS]; exact hcell) (fun k h => by rw [h] at hst; cases hst) ⟨kx, hkx⟩ ⟨kc, hkc⟩
      have hset : ((T.setTop g).pushFrame (.throwing a)).setVm (T.vm.noted g.method.cls ct (.cls cC)) = ((T.setVm (T.vm.noted g.method.cls ct (.cls cC))).setTop g).pushFrame (.throwing a) := rfl
      by_cases hy : y = x
      · subst hy
        simp only [jsel, if_true] at hsel
        cases hsel
        have hcc : cC = cell.cls := Option.some.inj (hfcc.symm.trans hfx)
        subst hcc
        refine ⟨_, hwarm₁, fun Q E d acts => ?_⟩
        rw [hgo Q E d acts, if_pos (va_asg _ _), hset, e2]
      · simp only [jsel, if_neg hy] at hsel
        have hno : (T.vm.noted g.method.cls ct (.cls cC)).assignable cell.cls cC = false := by
          have hmem : (jX x, jX y) ∈ jNC := by
            have a1 : x = 0 ∨ x = 1 ∨ x = 2 ∨ x = 3 := by omega
            have a2 : y = 0 ∨ y = 1 ∨ y = 2 ∨ y = 3 := by
              have : y < 4 := q2
              omega
            rcases a1 with rfl | rfl | rfl | rfl <;> rcases a2 with rfl | rfl | rfl | rfl <;> first | exact absurd rfl hy | (simp [jX, jNC])
          obtain ⟨c9, t9, n1, n2, n3⟩ := (hnc _ hmem).moved (U := T.setVm (T.vm.noted g.method.cls ct (.cls cC))) hal
          have g1 : (T.vm.noted g.method.cls ct (.cls cC)).findClass (jX x) = some cell.cls := by rw [hal.findClass]; exact hfx
          have g2 : (T.vm.noted g.method.cls ct (.cls cC)).findClass (jX y) = some cC := by rw [hal.findClass]; exact hfcc
          have f1 : c9 = cell.cls := Option.some.inj (n1.symm.trans g1)
          have f2 : t9 = cC := Option.some.inj (n2.symm.trans g2)
          subst f1; subst f2
          exact n3
        obtain ⟨vm', hW', hk'⟩ := ih t (T.setVm (T.vm.noted g.method.cls ct (.cls cC))) X₁ hcell hst (by show (T.vm.noted g.method.cls ct (.cls cC)).findClass _ = _; rw [hal.findClass]; exact hfx) hmap (fun z hz => hcov z (List.mem_cons_of_mem _ hz)) (fun q hq => hlk q (List.mem_cons_of_mem _ hq)) hsel
        refine ⟨vm', hW', fun Q E d acts => ?_⟩
        rw [hgo Q E d acts, if_neg (by rw [hno]; decide), hset]
        exact hk' Q E d acts
theorem jcatch_step {e : Env} {S : State} {a : Addr} {f : JFrame} {r : List Frame} {pc : Nat} {S' : State} (hfind : ∀ (Q : Handler → Pre) (E : CtlPost) (d : Bool) (acts : List Action), wp (findHandler f a) Q E e d acts S ↔ Q (.found pc) d acts S') : (stepThrowing e S a (.java f :: r)).Is (S'.setFrames (.java { f with pc := pc, stack := [.ref a] } :: r)) [] := by
  simp only [stepThrowing, searchFrame, vmDo]
  generalize hr : Sem.go _ e false [] S = res
  obtain ⟨as, rfl, ha⟩ := Sem.eq_ok_of hr (a := Handler.found pc) (s' := S') (acts' := []) (by simp [hfind])
  exact ⟨rfl, ha⟩
theorem jcaught {tb : Tables} {e : Env} {T target : State} {g : JFrame} {c : Code} {below : List Frame} {a : Addr} {pc : Nat} {vm' : Vm} (h : At T g.method c below) (hfind : ∀ (Q : Handler → Pre) (E : CtlPost) (d : Bool) (acts : List Action), wp (findHandler g a) Q E e d acts ((T.setTop g).pushFrame (.throwing a)) ↔ Q (.found pc) d acts (((T.setVm vm').setTop g).pushFrame (.throwing a)))
    (hrest : Steps tb e below ((T.setVm vm').setTop { g with pc := pc, stack := [.ref a] }) target) : Steps tb e below ((T.setTop g).pushFrame (.throwing a)) target := by
  obtain ⟨hgo, hw⟩ := h.throwing a
  refine Steps.head hgo hw ?_
  rw [stepThread_throwing (frames_entered h.top _), (jcatch_step hfind).1]
  obtain ⟨g₀, hg⟩ := Option.isSome_iff_exists.mp h.top
  obtain ⟨r, hr⟩ := State.topJava?_eq_some.mp hg
  have hr' : (T.setVm vm').frames = .java g₀ :: r := hr
  rw [State.setTop_of_frames _ hr'] at hrest
  rw [State.pushFrame, State.setFrames_setFrames, State.setTop_of_frames _ hr', State.setFrames_setFrames, hr]
  exact hrest
theorem jv_callVC {G : jG} {M : jM} {R : Room} {Q : jO → jMem → Prop} {k n pc : Nat} {ls : List (Nat × Value)} {st st0 : List Value} {σ τ0 : jMem} {x : Nat} {M1 : jM} {rm : Room} {o ci : Nat} {fs : List (Option Nat)} {C : String} {T : u_T} {N : Nat} {as : List Value} {idx hp i len : Nat}
    (hM : jSp G M1 rm (.ref o :: as) σ (jE x τ0)) (hx4 : x < 4) (hd : decode M.cc pc = .ok (.invokevirtual idx, 3)) (c0 : jC0 M1 as.length) (lk : Cond.methodLink M.own idx M1.y ∈ jTW) (hin : Cond.instanceMethod M1.y ∈ jTW) (hse : Cond.selects C M1.y M1.y ∈ jTW) (ho : o < jN) (hs : jshp o = .inl (ci, fs)) (hc : jCl[ci]? = some (C, T, N)) (hk0 : st0 = as.reverse ++ .ref o :: st) (h8 : (st.map fun v => v.category).sum ≤ 8)
    (hR : rm.frames + 1 ≤ R.frames ∧ 8 + (M1.nL + 11) + rm.locals ≤ R.locals ∧ k + rm.cells ≤ R.cells ∧ n + rm.slots ≤ R.slots)
    (hl0 : List (Nat × Nat × Nat)) (hhs : M.hs.map (fun q => (q.2.2.2, q.2.2.1)) = hl0.map (fun q => (q.1, q.2.1))) (hcov : ∀ q ∈ M.hs, (decide (q.1 ≤ pc) && decide (pc < q.2.1)) = true) (hlk : ∀ q ∈ hl0, q.1 ≠ 0 ∧ q.2.2 < 4 ∧ Cond.classLink M.own q.1 (jX q.2.2) ∈ jTW) (hsel : jsel x hl0 = some hp)
    (ha : decode M.cc hp = .ok (.astore i, 2) ∧ len = 2 ∨ ∃ z : Fin 4, decode M.cc hp = .ok (.astore_n z, 1) ∧ (z : Nat) = i ∧ len = 1) (hi : i < M.nL) (hnew : ls.all (fun q => !(q.1 == i) && !(q.1 + 1 == i && q.2.category == 2)) = true)
    (kont : jV G M R Q (k + rm.cells) (n + rm.slots) (hp + len) ls [] τ0) : jV G M R Q k n pc ls st0 σ := by
  intro p e s m args below meth c A H locs L F hP hD hS hl T9 hT X
  have hts := F.2.2.2.2.2.1
  obtain ⟨hs0, hcw, hini, hy, hpd⟩ := c0
  have h8' : ((st.map (jcv G.ad)).map fun v => v.category).sum ≤ 8 := by
    rw [List.map_map]; simpa [Function.comp_def, jcv_cat] using h8
  have hsk : st0.map (jcv G.ad) = (as.map (jcv G.ad)).reverse ++ Value.ref (G.ad o) :: st.map (jcv G.ad) := by rw [hk0, List.map_append, List.map_reverse]; rfl
  obtain ⟨cellB, hcB, hoB, hclB⟩ := jrecv F hP ho hs hc
  have hgood := pay_in hts (jgoodIn hs0 hcw)
  obtain ⟨mk, methM, hnamed, hmethM, hstM, habM⟩ := Cond.instanceMethod_spec (hts _ hin)
  obtain ⟨methM', cM, hmethM', -, -, -, -, -, -, hsigM⟩ := Cond.code_spec hnamed (hts _ hcw)
  cases hmethM.symm.trans hmethM'
  obtain ⟨c2, r2, m2, q1, q2, q3, q4, kP, hkP, hkPi⟩ := Cond.selects_spec (hts _ hse)
  cases hclB.symm.trans q1
  cases (State.methodFound?_of_named hnamed hy).symm.trans q2
  cases hnamed.symm.trans q3
  have hselP : selectMethod e.platform s.vm cellB.cls mk = .method mk := by rw [Launch.admits_selectMethod X.admits]; exact q4
  obtain ⟨vm₁, X₁, hstep₁⟩ := X.invokevirtual F.1 F.2.2.2.2.1 (hts _ lk) hnamed hmethM hstM hkP hkPi hy (a := G.ad o) (cell := cellB) (by rw [hT]; exact hcB)
    (fun z h => by rw [h] at hoB; cases hoB) hselP hmethM habM hkP hkPi (g := F0 m pc L (st0.map (jcv G.ad))) rfl (argsL := as.map (jcv G.ad)) (rest := st.map (jcv G.ad)) (by rw [List.length_map]; exact jlen hpd _ hsigM) hsk (by rw [F.2.1]; exact hd)
  have hSU : jS G σ (T9.setVm vm₁).heap.size (T9.setVm vm₁) := by
    have h := jS.call F hP hD hS (U := T9.setVm vm₁) hT X₁.warmed
    rw [← hT] at h; exact h
  obtain ⟨xa, t, T', L', X', e1, e2, hQ, hL, hst⟩ := jinvT hM X₁ (g := F0 m pc L (st.map (jcv G.ad))) (ig := .invokevirtual idx) (mk := mk) rfl (by show L.size = _; rw [hl.1]; exact F.2.2.1.symm) (by rw [F.2.1]; exact hd) (lv_room h8') (X₁.named hnamed) hR.1 hR.2.1 hR.2.2.1 hR.2.2.2 (fun w hw => hgood w hw _ _ X₁.warmed) (word_at X₁.warmed (jTW_good _ hini) (hts _ hini)) hSU
  have hHs : (T9.setVm vm₁).heap.size = H.size := by show T9.heap.size = _; rw [hT]
  rw [hHs] at hQ hL
  obtain ⟨⟨o', τ, ⟨rfl, rfl⟩, ⟨xb, ce, hxb, w5, w6, w7⟩, hPt, hKt, hDt⟩, hz, hkk⟩ := hQ
  cases hxb
  have hAA := jfree F hD hS
  have hh0 : ((T9.setVm vm₁).calling (F0 m pc L (st.map (jcv G.ad))) mk ((Value.ref o :: as).map (jcv G.ad)).toArray).heap = H := hT
  rw [hh0] at hz hkk
  have htab := F.2.2.2.2.2.2.2.2.2.2
  have hmap : c.exceptionTable.toList.map (fun h => (h.catchType, h.handlerPc)) = hl0.map (fun q => (q.1, q.2.1)) := by
    rw [← hhs, ← htab, List.map_map]; rfl
  have hcv : ∀ z ∈ c.exceptionTable.toList, covers z (F0 m pc L (st.map (jcv G.ad))).pc = true := by
    intro z hz9
    exact hcov (z.startPc, z.endPc, z.handlerPc, z.catchType) (by rw [← htab]; exact List.mem_map.mpr ⟨z, hz9, rfl⟩)
  obtain ⟨vm', hW', hfind⟩ := jsel_find (own := M.own) (x := x) (a := xa) (cell := ce) (g := F0 m pc L (st.map (jcv G.ad))) rfl F.2.2.2.2.1 hts F.2.2.2.2.2.2.2.2.2.1.2.2.2.2.2.2 hx4 hl0 c.exceptionTable.toList T' X' (by rw [e1]; exact w5) w6 (by rw [e2]; exact w7) hmap hcv hlk hsel
  have X'' := X'.noted hW'
  have hS' : va_S A s.heap T'.heap (locs ++ L') := ⟨Nat.le_trans hS.1 (by rw [e1]; exact hz), fun q h1 h2 => by rw [e1, hkk q (Nat.lt_of_lt_of_le h1 hS.1) (fun z => h2 (hAA q z))]; exact hS.2.1 q h1 h2, fun q hq => by
      rcases List.mem_append.mp hq with h | h
      · exact hS.2.2 q h
      · exact hAA _ (hL q h)⟩
  have hsub : ∀ q ∈ jls G.ad ls, q ∈ (i, Value.ref xa) :: (jls G.ad ls).filter (fun q => !(q.1 == i) && !(q.1 + 1 == i && q.2.category == 2)) := by
    intro q hq
    obtain ⟨z, hz9, rfl⟩ := List.mem_map.mp hq
    refine List.mem_cons_of_mem _ (List.mem_filter.mpr ⟨hq, ?_⟩)
    show (!(z.1 == i) && !(z.1 + 1 == i && (jcv G.ad z.2).category == 2)) = true
    rw [jcv_cat]; exact List.all_eq_true.mp hnew z hz9
  have hWW : W p G.l e R s m args below meth c T'.heap (locs ++ L') (k + rm.cells) (n + rm.slots) (jMQ below (jQ G A Q) s R.cells R.slots A) (F0 m hp L [.ref xa]) := by
    rcases ha with ⟨ha, rfl⟩ | ⟨z9, ha, hz9, rfl⟩
    · exact lv_astore F.1 F.2.1 ha hl hi rfl (fun L1 hl1 => kont p e s m args below meth c A T'.heap (locs ++ L') L1 F (by rw [e1]; exact hPt) (hDt.weaken (fun _ q _ h => hAA q.1 h)) hS' (hl1.mono9 hsub))
    · exact lv_astore_n F.1 F.2.1 ha hz9 hl hi rfl (fun L1 hl1 => kont p e s m args below meth c A T'.heap (locs ++ L') L1 F (by rw [e1]; exact hPt) (hDt.weaken (fun _ q _ h => hAA q.1 h)) hS' (hl1.mono9 hsub))
  obtain ⟨U, u1, u2⟩ := hWW (T'.setVm vm') rfl X''
  refine ⟨U, hstep₁ _ fun acts => ?_, u2⟩
  rw [doInvoke_state]
  refine hst.trans (jcaught (c := c) (by exact X'.here) (pc := hp) (vm' := vm') (fun Q9 E9 d9 acts9 => ?_) u1)
  rw [Jvm.W.findHandler_eq (meth := meth) (code := c) (by rw [throwing_vm]; exact X'.method') X'.code]
  exact hfind Q9 E9 d9 acts9
