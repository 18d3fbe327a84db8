/-! the law: its long array, its script, calls of its own methods that catch -/
section JLW
variable {G : jG} {M : jM} {R : Room} {Q : jO → jMem → Prop} {k n pc : Nat} {ls : List (Nat × Value)} {st : List Value} {σ : jMem}
theorem jv_lald {o : Nat} {u : Unit} {i : Int32} (hd : decode M.cc pc = .ok (.laload, 1)) (ho : o < jN) (hs : jshp o = .inr (.inr (.inr u))) (hin : vp_in i 1) (kont : jV G M R Q k n (pc + 1) ls (.long (σ o i.toNatClampNeg).toInt64 :: st) σ) : jV G M R Q k n pc ls (.int i :: .ref o :: st) σ := by
  intro p e s m args below meth c A H locs L F hP hD hS hl
  have he := jwd_get (G := G) (σ := σ) ho
  rw [jcell_l hs] at he
  exact va_lald F.1 F.2.1 F.2.2.2.2.2.2.2.1 hP o 2 he rfl hin hd (kont p e s m args below meth c A H locs L F hP hD hS hl)
theorem jv_last {o : Nat} {u : Unit} {i : Int32} {v : Int64} (w : Int32) (hv : v = w.toInt64) (hd : decode M.cc pc = .ok (.lastore, 1)) (ho : o < jN) (hs : jshp o = .inr (.inr (.inr u))) (hin : vp_in i 1) (kont : jV G M R Q k n (pc + 1) ls st (ju σ o i.toNatClampNeg w)) : jV G M R Q k n pc ls (.long v :: .int i :: .ref o :: st) σ := by
  intro p e s m args below meth c A H locs L F hP hD hS hl
  subst hv
  have he := jwd_get (G := G) (σ := σ) ho
  rw [jcell_l hs] at he
  have hset := jwd_lst (G := G) (σ := σ) (k := i.toNatClampNeg) (v := w) ho hs
  exact va_last F.1 F.2.1 F.2.2.2.2.2.2.2.1 hP hD hS o 2 he rfl hin hd (fun H1 locs1 hP1 hD1 hS1 => kont p e s m args below meth c A H1 locs1 L F (hset ▸ hP1) (hset ▸ hD1) hS1 hl)
theorem jv_sald {i : Int32} (hd : decode M.cc pc = .ok (.iaload, 1)) (hin : vp_in i G.L) (kont : jV G M R Q k n (pc + 1) ls (.int (G.xs i.toNatClampNeg) :: st) σ) : jV G M R Q k n pc ls (.int i :: .ref jScr :: st) σ := by
  intro p e s m args below meth c A H locs L F hP hD hS hl
  have hX := F.2.2.2.2.2.2.2.2.2.1.2.1
  exact va_sld F.1 F.2.1 hX hX.lt9 F.2.2.2.2.2.2.2.2.2.1.2.2.1 hS hin hd (kont p e s m args below meth c A H locs L F hP hD hS hl)
theorem jv_slen (hd : decode M.cc pc = .ok (.arraylength, 1)) (kont : jV G M R Q k n (pc + 1) ls (.int (Int32.ofNat G.L) :: st) σ) : jV G M R Q k n pc ls (.ref jScr :: st) σ := by
  intro p e s m args below meth c A H locs L F hP hD hS hl
  have hX := F.2.2.2.2.2.2.2.2.2.1.2.1
  exact va_slen F.1 F.2.1 hX hX.lt9 F.2.2.2.2.2.2.2.2.2.1.2.2.1 hS hd (kont p e s m args below meth c A H locs L F hP hD hS hl)
end JLW
/-- a static callee that has handlers of its own -/
theorem jv_callSH {G : jG} {M : jM} {R : Room} {Q : jO → jMem → Prop} {k n pc : Nat} {ls : List (Nat × Value)} {st st0 : List Value} {σ : jMem} {M1 : jM} {rm : Room} {as : List Value} {idx : Nat} {P : Int32 → jMem → Prop}
    (hM : jSp G M1 rm as σ (jI P)) (hd : decode M.cc pc = .ok (.invokestatic idx, 3)) (hne : M1.hs ≠ []) (hcw : Cond.codeWith M1.y M1.cc M1.nL M1.ret M1.hs ∈ jTW) (hini : Cond.initialized M1.y.cls ∈ jTW) (hy : M1.y.cls ≠ "java/lang/invoke/MethodHandle" ∧ M1.y.cls ≠ "java/lang/invoke/VarHandle") (hpd : (parseMethodDescriptor M1.y.desc).map (fun d => d.parameters.length) = some as.length) (lk : Cond.methodLink M.own idx M1.y ∈ jTW) (hst : Cond.static M1.y ∈ jTW) (hk0 : st0 = as.reverse ++ st) (h8 : (st.map fun v => v.category).sum ≤ 8)
    (hR : rm.frames + 1 ≤ R.frames ∧ 8 + (M1.nL + 11) + rm.locals ≤ R.locals ∧ k + rm.cells ≤ R.cells ∧ n + rm.slots ≤ R.slots)
    (kont : ∀ (r : Int32) (τ : jMem), P r τ → jV G M R Q (k + rm.cells) (n + rm.slots) (pc + 3) ls (.int r :: st) τ) : jV G M R Q k n pc ls st0 σ := by
  intro p e s m args below meth c A H locs L F hP hD hS hl T9 hT X
  have hts := F.2.2.2.2.2.1
  have ejw : jcw M1 = Cond.codeWith M1.y M1.cc M1.nL M1.ret M1.hs := if_neg hne
  have h8' : ((st.map (jcv G.ad)).map fun v => v.category).sum ≤ 8 := by
    rw [List.map_map]; simpa [Function.comp_def, jcv_cat] using h8
  have hsk : st0.map (jcv G.ad) = (as.map (jcv G.ad)).reverse ++ st.map (jcv G.ad) := by rw [hk0, List.map_append, List.map_reverse]
  have hgood : ∀ w ∈ jws M1, ∀ (a' : Array Value) (U : State), s.WarmedH U.vm → w.before a' U = true := pay_in hts (fun w hw => by
    rcases List.mem_cons.mp hw with h | h
    · rw [h, ejw]; exact ⟨hcw, jTW_good _ hcw⟩
    · exact ⟨h, jTW_good _ h⟩)
  obtain ⟨mk, methM, cM, hnamed, hmethM, -, -, -, -, -, -, hsigM⟩ := Cond.codeWith_spec (hts _ hcw)
  have hstatic : methM.isStatic = true := Cond.static_spec hnamed hmethM (hts _ hst)
  obtain ⟨kP, hkP, -⟩ := className_of_methodNamed hnamed
  have hinitP : kP.init = .initialized := Cond.initialized_spec (findClass_of_methodNamed hnamed) hkP (hts _ hini)
  obtain ⟨vm₁, X₁, hstep₁⟩ := X.invokestatic F.1 F.2.2.2.2.1 (hts _ lk) hnamed hmethM hstatic hkP hinitP hy (g := F0 m pc L (st0.map (jcv G.ad))) rfl (argsL := as.map (jcv G.ad)) (rest := st.map (jcv G.ad)) (by rw [List.length_map]; exact jlen hpd _ hsigM) hsk (by rw [F.2.1]; exact hd)
  have hMet := hM.met jI.ret H.size
  have hK : Back G.l R p e below s args M1.y 3 8 (PreOf R rm.cells rm.slots (fun a U => a = (as.map (jcv G.ad)).toArray ∧ jS G σ H.size U)) (PostOf (fun _ => jQ G (va_A (jwd G σ) H.size) (jI P)) rm.cells rm.slots (va_A (jwd G σ) H.size)) := by
    refine Back.of_freeWith (handlers := M1.hs) (S := headSpec (jws M1) rm) (P := fun a U => a = (as.map (jcv G.ad)).toArray ∧ jS G σ H.size U) (K := fun _ _ _ _ _ => True) (Q := fun _ st o t => jQ G (va_A (jwd G σ) H.size) (jI P) st o t ∧ ∃ L, FrameEnd st o t L rm.cells rm.slots ∧ ∀ q ∈ L, va_A (jwd G σ) H.size q.base) (bytes := M1.cc) (maxL := M1.nL) (ret := M1.ret)
      (E := fun _ _ _ _ L k n => k = rm.cells ∧ n = rm.slots ∧ ∀ q ∈ L, va_A (jwd G σ) H.size q.base) hMet hR.1 hR.2.1 ?_ ?_ (fun _ _ _ _ _ _ _ _ _ => trivial) ?_ ?_
    · intro m9 meth9 c9 A9 a9 X9 hp9
      exact ⟨atoms_intro fun w hw => hgood w hw _ _ X9.warmed, word_at X9.warmed (jTW_good _ hcw) (hts _ hcw), word_at X9.warmed (jTW_good _ hini) (hts _ hini), hp9.1, hp9.2.1⟩
    · intro m9 meth9 c9 A9 a9 g9 mk9 X9 hp9
      exact jS.blind _ _ _ _ hp9.2.2
    · intro a9 st9 o9 t9 h9
      obtain ⟨hq9, L9, hF9, hL9⟩ := h9
      exact ⟨L9, _, _, hF9, rfl, rfl, hL9⟩
    · intro m9 meth9 c9 A9 a9 g9 mk9 v9 t9 L9 k9 n9 X9 hp9 hq9 hF9 hE9
      obtain ⟨e1, e2, hL9⟩ := hE9
      subst e1; subst e2
      exact ⟨g9, mk9, t9, L9, rfl, rfl, hq9.1, rfl, hL9, rfl, rfl⟩
  obtain ⟨v, B, X', hpost, hsteps⟩ := hK m meth c ⟨T9.setVm vm₁, locs, k, n⟩ (F0 m pc L (st.map (jcv G.ad))) (.invokestatic idx) mk (as.map (jcv G.ad)).toArray X₁ rfl (by show L.size = _; rw [hl.1]; exact F.2.2.1.symm) (by rw [F.2.1]; exact hd) (lv_room h8') (X₁.named hnamed) ⟨hR.2.2.1, hR.2.2.2, rfl, jS.call F hP hD hS (U := T9.setVm vm₁) hT X₁.warmed⟩
  obtain ⟨U', l2, c2, s2⟩ := B
  obtain ⟨g', mk', t, L', e1, e2, hq, h1, hL, h2, h3⟩ := hpost
  dsimp only [Pt.U, Pt.locs, Pt.cells, Pt.slots] at X' e1 e2 h1 h2 h3 hsteps hq
  subst h1; subst h2; subst h3
  obtain ⟨⟨o9, τ, ⟨r, hr1, hr2⟩, ho, hPt, hKt, hDt⟩, hz, hkk⟩ := hq
  subst hr1
  have hv : v = some (.int r) := Outcome.returned.inj ho
  subst hv
  have hAA := jfree F hD hS
  have hh0 : ((T9.setVm vm₁).calling g' mk' (as.map (jcv G.ad)).toArray).heap = H := hT
  rw [hh0] at hz hkk
  obtain ⟨t2, a1, b1⟩ := kont r τ hr2 p e s m args below meth c A U'.heap (locs ++ L') L F (by rw [e1]; exact hPt) (hDt.weaken (fun _ q _ h => hAA q.1 h))
    ⟨Nat.le_trans hS.1 (by rw [e1]; exact hz), fun q h1 h2 => by rw [e1, hkk q (Nat.lt_of_lt_of_le h1 hS.1) (fun z => h2 (hAA q z))]; exact hS.2.1 q h1 h2, fun q hq => by
      rcases List.mem_append.mp hq with h | h
      · exact hS.2.2 q h
      · exact hAA _ (hL q h)⟩ hl U' rfl X'
  exact ⟨t2, hstep₁ _ fun acts => by rw [doInvoke_state]; exact hsteps.trans a1, b1⟩
theorem jin01 : vp_in 0 1 := by
  unfold vp_in
  decide
theorem cl_LW_13 : Cond.classLink "InkCoderLaw" 13 (jX 0) ∈ jTW := jin2 42 rfl rfl
theorem cl_LW_15 : Cond.classLink "InkCoderLaw" 15 (jX 1) ∈ jTW := jin2 43 rfl rfl
theorem cw_LW_size : Cond.codeWith M_LW_size.y M_LW_size.cc M_LW_size.nL M_LW_size.ret M_LW_size.hs ∈ jTW := jin2 41 rfl rfl
theorem cw_LW_flip : Cond.codeWith M_LW_flip.y M_LW_flip.cc M_LW_flip.nL M_LW_flip.ret M_LW_flip.hs ∈ jTW := jin2 141 rfl rfl
theorem cw_LW_draw : Cond.codeWith M_LW_draw.y M_LW_draw.cc M_LW_draw.nL M_LW_draw.ret M_LW_draw.hs ∈ jTW := jin2 153 rfl rfl
theorem cw_LW_board : Cond.codeWith M_LW_board.y M_LW_board.cc M_LW_board.nL M_LW_board.ret M_LW_board.hs ∈ jTW := jin2 177 rfl rfl
theorem cw_LW_code : Cond.codeWith M_LW_code.y M_LW_code.cc M_LW_code.nL M_LW_code.ret M_LW_code.hs ∈ jTW := jin2 194 rfl rfl
theorem cl_LW_37 : Cond.classLink "InkCoderLaw" 37 (jX 2) ∈ jTW := jin2 203 rfl rfl
theorem cw_LW_end : Cond.codeWith M_LW_end.y M_LW_end.cc M_LW_end.nL M_LW_end.ret M_LW_end.hs ∈ jTW := jin2 202 rfl rfl
theorem cw_LW_region : Cond.codeWith M_LW_region.y M_LW_region.cc M_LW_region.nL M_LW_region.ret M_LW_region.hs ∈ jTW := jin3 7 rfl rfl
theorem cw_LW_refine : Cond.codeWith M_LW_refine.y M_LW_refine.cc M_LW_refine.nL M_LW_refine.ret M_LW_refine.hs ∈ jTW := jin3 81 rfl rfl
theorem cw_LW_number : Cond.codeWith M_LW_number.y M_LW_number.cc M_LW_number.nL M_LW_number.ret M_LW_number.hs ∈ jTW := jin3 94 rfl rfl
theorem cl_LW_53 : Cond.classLink "InkCoderLaw" 53 (jX 3) ∈ jTW := jin3 123 rfl rfl
theorem cw_LW_learn : Cond.codeWith M_LW_learn.y M_LW_learn.cc M_LW_learn.nL M_LW_learn.ret M_LW_learn.hs ∈ jTW := jin3 122 rfl rfl
theorem cw_LW_mark : Cond.codeWith M_LW_mark.y M_LW_mark.cc M_LW_mark.nL M_LW_mark.ret M_LW_mark.hs ∈ jTW := jin3 152 rfl rfl
theorem cw_LW_symbol : Cond.codeWith M_LW_symbol.y M_LW_symbol.cc M_LW_symbol.nL M_LW_symbol.ret M_LW_symbol.hs ∈ jTW := jin3 175 rfl rfl
theorem cw_LW_marked : Cond.codeWith M_LW_marked.y M_LW_marked.cc M_LW_marked.nL M_LW_marked.ret M_LW_marked.hs ∈ jTW := jin3 182 rfl rfl
theorem cw_LW_dictionary : Cond.codeWith M_LW_dictionary.y M_LW_dictionary.cc M_LW_dictionary.nL M_LW_dictionary.ret M_LW_dictionary.hs ∈ jTW := jin3 189 rfl rfl
theorem cw_LW_text : Cond.codeWith M_LW_text.y M_LW_text.cc M_LW_text.nL M_LW_text.ret M_LW_text.hs ∈ jTW := jin3 200 rfl rfl
