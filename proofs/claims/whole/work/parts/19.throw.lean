/-! exceptions: a throw of a new one, with the point of the throw as a base of its own; a call that throws -/
section JTH
variable {p : Program} {l : Launch} {e : Env} {R : Room} {s : State} {m : MethodId} {args : Array Value} {below : List Frame} {meth : Method} {c : Code} {T : State} {locs : List Loc} {k n : Nat}
/-- the walk's point as an invocation of its own -/
theorem jrest (X : Stand p l e R s m args below meth c T locs k n) {R' : Room} (h1 : R'.frames ≤ R.frames) (h2 : R'.locals ≤ R.locals) (h3 : k + R'.cells ≤ R.cells) (h4 : n + R'.slots ≤ R.slots) : Stand p l e R' (T.setFrames (.invoking m args :: below)) m args below meth c T [] 0 0 := by
  have hcur : T.cur < T.threads.size := State.cur_lt_of_top X.here.top
  have hF : (T.setFrames (.invoking m args :: below)).frames = .invoking m args :: below := State.frames_setFrames _ hcur
  have hU : (T.setFrames (.invoking m args :: below)).localsInUse = stackWeight below + vmFrameWords + (c.maxLocals + 11) := State.localsInUse_invoking hF (meth := meth) (c := c) X.method' X.code
  obtain ⟨r1, r2, r3, r4⟩ := State.hasRoom_stack X.room
  have r5 := State.hasRoom_real X.room
  have h := X.room
  simp only [State.hasRoom, Bool.and_eq_true, decide_eq_true_eq] at h
  rw [State.localsInUse_invoking X.frames X.method X.code] at r3 r4 r5
  rw [X.frames, List.length_cons] at r1 r2
  have hz := X.heapSize
  have hu := X.used
  have hroom : (T.setFrames (.invoking m args :: below)).hasRoom e.platform R' = true := by
    simp only [State.hasRoom, Bool.and_eq_true, decide_eq_true_eq, hF, hU, List.length_cons, State.stackLimits_setFrames, State.stackBytes_setFrames, X.limits, X.bytes]
    refine ⟨⟨⟨⟨by omega, by omega, by omega, by omega, by omega, h.1.1.1.2.2.2.2.2⟩, ?_⟩, ?_⟩, X.book⟩
    · have := h.1.1.2
      show T.heap.size + R'.cells ≤ e.platform.maxCells
      omega
    · have := h.1.2
      show T.slotsUsed + R'.slots ≤ e.platform.maxSlots
      omega
  have hcode : ∀ mm, (T.setFrames (.invoking m args :: below)).code? mm = s.code? mm := fun mm => by
    rw [State.code?_eq, State.code?_eq]
    show (T.vm.method? mm).bind _ = _
    rw [X.warmed.alike.method?]
  have hhears : (T.setFrames (.invoking m args :: below)).hears m below = true := by
    have hh := X.hears
    cases below with
    | nil =>
      simp only [State.hears, X.method] at hh
      show (T.vm.method? m).any _ = true
      rw [X.method']; exact hh
    | cons f r =>
      cases f with
      | java g => simp only [State.hears] at hh ⊢; rw [hcode]; exact hh
      | native g => rfl
      | proc g => rfl
      | _ =>
        simp only [State.hears, X.method] at hh
        show (T.vm.method? m).any _ = true
        rw [X.method']; exact hh
  obtain ⟨th, hth⟩ : ∃ th, T.threads[T.cur]? = some th := ⟨_, Array.getElem?_eq_getElem hcur⟩
  have hself : (T.setFrames (.invoking m args :: below)).setFrames T.frames = T := by rw [State.setFrames_setFrames, State.setFrames_self hth]
  have hcur' : (T.setFrames (.invoking m args :: below)).cur < (T.setFrames (.invoking m args :: below)).threads.size := State.cur_lt_of_frames hF
  obtain ⟨th', hth'⟩ : ∃ th', (T.setFrames (.invoking m args :: below)).threads[(T.setFrames (.invoking m args :: below)).cur]? = some th' := ⟨_, Array.getElem?_eq_getElem hcur'⟩
  have hsame : (T.setFrames (.invoking m args :: below)).sameButNew T [] 0 0 := by
    have h9 := (State.sameButNew.refl (T.setFrames (.invoking m args :: below)) hth').setFrames T.frames hcur'
    rw [hself] at h9
    exact h9
  exact ⟨X.admits, X.cas, X.clock, hF, hroom, hhears, X.method', X.code, X.here, X.tail, State.WarmedH.refl _, (State.stackLimits_setFrames _ _ _).symm, (State.stackBytes_setFrames _ _).symm, hsame⟩
theorem jrest_same (X : Stand p l e R s m args below meth c T locs k n) {U : State} {k1 n1 : Nat} (h : (T.setFrames (.invoking m args :: below)).sameButNew ({ U with vm := T.vm } : State) [] k1 n1) : s.sameButNew ({ U with vm := s.vm } : State) locs (k + k1) (n + n1) := by
  have hB : T.sameButNew ({ U with vm := T.vm } : State) [] k1 n1 := by
    obtain ⟨a, b⟩ := h
    refine ⟨?_, b⟩
    rw [State.setFrames_setFrames] at a
    exact a
  have h2 := X.same.trans (hB.setVm s.vm)
  rw [List.append_nil] at h2
  exact h2
end JTH
/-- the words of a throw of a new exception x -/
def jTH (own : String) (i0 i1 x : Nat) : Prop := Cond.classLink own i0 (jX x) ∈ jTW ∧ Cond.instantiable (jX x) 6 ∈ jTW ∧ Cond.initialized (jX x) ∈ jTW ∧ Bundle.fit (jX x) = true ∧
  ∀ a ∈ Bundle.ownAtoms0 own i1 (jX x) ["java/lang/RuntimeException", "java/lang/Exception"], a ∈ jTW ∨ a ∈ jNW ∨ a = .isRef (.static "java/lang/Throwable" "UNASSIGNED_STACK" "[Ljava/lang/StackTraceElement;") ∨ a = .isRef (.static "java/lang/Throwable" "SUPPRESSED_SENTINEL" "Ljava/util/List;") ∨ a = .laysStatic "java/lang/Throwable" "UNASSIGNED_STACK" "[Ljava/lang/StackTraceElement;" ∨ a = .laysStatic "java/lang/Throwable" "SUPPRESSED_SENTINEL" "Ljava/util/List;"
theorem jv_throw {G : jG} {M : jM} {R : Room} {Q : jO → jMem → Prop} {k n pc : Nat} {ls : List (Nat × Value)} {st : List Value} {σ : jMem} {i0 i1 : Nat} (x : Nat) (htr : G.l.stackTraces = false)
    (hd0 : decode M.cc pc = .ok (.new i0, 3)) (hd1 : decode M.cc (pc + 3) = .ok (.dup, 1)) (hd2 : decode M.cc (pc + 3 + 1) = .ok (.invokespecial i1, 3)) (hd3 : decode M.cc (pc + 3 + 1 + 3) = .ok (.athrow, 1)) (hw : jTH M.own i0 i1 x) (hhs : M.hs = [])
    (h8 : (st.map fun v => v.category).sum ≤ 8) (hR1 : 6 ≤ R.frames) (hR2 : 100 ≤ R.locals) (hR3 : k + 1 ≤ R.cells) (hR4 : n + 6 ≤ R.slots) (hq : Q (.inr x) σ) : jV G M R Q k n pc ls st σ := by
  intro p e s m args below meth c A H locs L F hP hD hS hl T hT X
  obtain ⟨w1, w2, w3, wf, w4⟩ := hw
  have X' := jrest X (R' := { frames := R.frames, cells := 1, slots := 6, locals := R.locals }) (Nat.le_refl _) (Nat.le_refl _) hR3 hR4
  have htr' : e.platform.stackTraces = false := by rw [X.admits.platform]; exact htr
  have hts := F.2.2.2.2.2.1
  have hW0 : s.WarmedH (T.setFrames (.invoking m args :: below)).vm := X.warmed
  have hTW : ∀ w ∈ jTW, w.before args (T.setFrames (.invoking m args :: below)) = true := fun w hw => word_at hW0 (jTW_good w hw) (hts w hw)
  have hT0 := F.2.2.2.2.2.2.2.2.2.1
  have hkept : ∀ a : Nat, a < s.heap.size → ¬ A a → (T.setFrames (.invoking m args :: below)).heap[a]? = s.heap[a]? := fun a h1 h2 => by
    show T.heap[a]? = _
    rw [hT]; exact hS.2.1 a h1 h2
  have hat : ∀ a ∈ Bundle.ownAtoms0 M.own i1 (jX x) ["java/lang/RuntimeException", "java/lang/Exception"], a.before args (T.setFrames (.invoking m args :: below)) = true := by
    intro a ha
    rcases w4 a ha with h | h | rfl | rfl | rfl | rfl
    · exact hTW a h
    · exact va_tabs (jNW_on h) rfl (jNW_warm hW0 h (hT0.2.2.2.1 a h))
    · exact ((hT0.2.2.2.2.1.moved hW0.alike).kept hkept).ref
    · exact ((hT0.2.2.2.2.2.1.moved hW0.alike).kept hkept).ref
    · exact ((hT0.2.2.2.2.1.moved hW0.alike).kept hkept).lays
    · exact ((hT0.2.2.2.2.2.1.moved hW0.alike).kept hkept).lays
  have hown' : (T.setFrames (.invoking m args :: below)).vm.findClass M.own = some m.cls := by
    show T.vm.findClass M.own = _
    rw [X.warmed.alike.findClass]; exact F.2.2.2.2.1
  have htab : c.exceptionTable.toList = [] := by
    have h := F.2.2.2.2.2.2.2.2.2.2
    rw [hhs] at h
    exact List.map_eq_nil_iff.mp h
  have hcatc : ((st.map (jcv G.ad)).map fun v => v.category).sum ≤ 8 := by
    rw [List.map_map]; simpa [Function.comp_def, jcv_cat] using h8
  have key : W p G.l e { frames := R.frames, cells := 1, slots := 6, locals := R.locals } (T.setFrames (.invoking m args :: below)) m args below meth c H [] 0 0 (fun U => ∃ a ce, U.status = .running ∧ Ended U below (.threw a) ∧ (T.setFrames (.invoking m args :: below)).WarmedH U.vm ∧ (T.setFrames (.invoking m args :: below)).sameButNew ({ U with vm := (T.setFrames (.invoking m args :: below)).vm } : State) [] 1 6 ∧ U.heap[a]? = some ce ∧ Bundle.OwnCell args (T.setFrames (.invoking m args :: below)) (jX x) a .null ce) (F0 m pc L (st.map (jcv G.ad))) := by
    refine W.newc F.1 F.2.1 hown' (hTW _ w1) (hTW _ w2) (hTW _ w3) rfl hd0 (Nat.le_refl _) (Nat.le_refl _) (fun cC kC q1 q2 q3 q4 => ?_)
    refine lv_dup (va := .ref H.size) F.1 F.2.1 hd1 rfl ?_
    intro T1 hT1 X1
    obtain ⟨U, u1, u2, u3, u4, u5, ce, u6, u7⟩ := X1.ctorThrow0 F.1 htr' hown' wf (fun nm hn => by
        rcases List.mem_cons.mp hn with rfl | hn
        · decide +kernel
        · rcases List.mem_cons.mp hn with rfl | hn
          · decide +kernel
          · cases hn) hat (fun z hz => by cases hz) (a := H.size) q1 q2 (by rw [hT1]; simp) (by show T.heap.size ≤ _; rw [hT]; exact Nat.le_refl _) (g := F0 m (pc + 3 + 1) L (.ref H.size :: .ref H.size :: st.map (jcv G.ad))) rfl (by show L.size = _; rw [hl.1]; exact F.2.2.1.symm) rfl rfl rfl (by rw [F.2.1]; exact hd2) (by rw [F.2.1]; exact hd3) (fun z hz => by rw [htab] at hz; cases hz) (by show 2 + 3 < R.frames; omega) (by
          show 2 * 0 + (1 + ((st.map (jcv G.ad)).map fun v => v.category).sum) + (13 * (2 + 1) + 41) ≤ R.locals
          omega) F.2.2.2.2.2.2.1
    exact ⟨U, u1, H.size, ce, u2, u3, u4, u5, u6, u7⟩
  obtain ⟨U, v1, a, ce, v2, v3, v4, v5, v6, v7⟩ := key T hT X'
  have hold : ∀ q : Nat, q < H.size → U.heap[q]? = H[q]? := fun q hq => by
    have hc : (T.setFrames (.invoking m args :: below)).heap[q]? = some H[q] := by
      show T.heap[q]? = _
      rw [hT]; exact Array.getElem?_eq_getElem hq
    rw [Array.getElem?_eq_getElem hq]
    exact State.sameButNew.old_cell v5 hc
  have hsz : H.size ≤ U.heap.size := by
    have := v5.2.1
    have e : (T.setFrames (.invoking m args :: below)).heap.size = H.size := by show T.heap.size = _; rw [hT]
    rw [e] at this; exact this
  have hPU : va_P G.D jCl (jwd G σ) U.heap := hP.kept (fun i q hi => hold q.1 (hP i q hi).lt)
  have hWs : s.WarmedH U.vm := State.WarmedH.trans hW0 v4
  refine ⟨U, v1, .threw a, v2, v3, ⟨⟨.inr x, σ, hq, ⟨a, ce, rfl, v6, by rw [v7.vm]; rfl, ?_⟩, hPU, va_K.moved hWs.alike F.2.2.2.2.2.2.2.1, hD⟩, ?_⟩, locs, ⟨hWs, (jrest_same X v5).mono hR3 hR4⟩, hS.2.2⟩
  · have h := v7.cls
    rw [v4.alike.findClass]; exact h
  · exact ⟨Nat.le_trans hS.1 hsz, fun q h1 h2 => by rw [hold q (Nat.lt_of_lt_of_le h1 hS.1)]; exact hS.2.1 q h1 h2⟩
