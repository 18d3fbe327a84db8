/-! methods of classes that have entries of the machine's; a call of an abstract method; a copy of an array -/
theorem jSp.ofF {G : jG} {M : jM} {rm : Room} {as : List Value} {σ : jMem} {Q : jO → jMem → Prop} (hy : plainFor M.y = true) (hoy : M.y.cls = M.own) (hlen : (lg_sl as).length ≤ M.nL) (h : jV G M rm Q 0 0 0 (lv_args 0 as) [] σ) : jSp G M rm as σ Q := by
  intro sz
  refine MetFree.of_bodySF (code := M.cc) (maxLocals := M.nL) (ret := M.ret) hy ?_ ?_
  · intro args s m hp hn
    obtain ⟨m', meth, c, h0, h1, h2, h3, h4, -, h5, h6, -⟩ := jcw_spec (atoms_spec (ws := jws M) hp _ List.mem_cons_self)
    cases hn.symm.trans h0
    exact ⟨meth, c, h1, h2, h3, h4, h5, h6⟩
  · intro p e s m args below meth c s₁ B hml hP _
    obtain ⟨rfl, hsz, hPw, hK, hD0, hT⟩ := hP
    have hh0 : s₁.heap = s.heap := by rw [B.state]; rfl
    have hts0 := atoms_spec (ws := jws M) B.pre
    obtain ⟨m', meth', c', h0, h1, h2, h3, h4, hhs, h5, h6, -⟩ := jcw_spec (hts0 _ List.mem_cons_self)
    cases B.named.symm.trans h0
    cases B.method.symm.trans h1
    cases (Stand.of_body B).code.symm.trans h2
    have F : jF G M p s m ((as.map (jcv G.ad)).toArray) meth c (va_A (jwd G σ) sz) := ⟨B.exec, B.bytes, hml, B.returns, by rw [← hoy]; exact findClass_of_methodNamed B.named, fun w hw => hts0 w (List.mem_cons_of_mem _ hw), B.notSynchronized, hK, fun q hq => Or.inr (by rw [← hsz]; exact hq), hT, hhs⟩
    have hent := lv_entry (as.map (jcv G.ad)) (n := M.nL) (by rw [jsl]; exact hlen)
    rw [jargs] at hent
    have W0 := h p e s m _ below meth c _ s.heap [] _ F hPw hD0.self va_S.rf hent
    obtain ⟨t, a1, o, b1, b2, b3, b4⟩ := W0 s₁ hh0 (Stand.of_body B)
    rw [lg_entry_eq]
    exact ⟨t, o, a1, b1, b2, b3, b4⟩
def jdx : MethodName := ⟨"InkCoder$Coder", "decide", "(II)I"⟩
theorem jsm : Cond.sameMethod jdx.cls "InkCoder$Coder" jdx.name jdx.desc ∈ jTW := jin3 28 rfl rfl
theorem jdc : Cond.declares jdx ∈ jNW := jinN3 27 rfl rfl
theorem so_WR : Cond.selects "InkCoder$Writer" jdx M_WR_decide.y ∈ jTW := jin3 57 rfl rfl
theorem so_RD : Cond.selects "InkCoder$Reader" jdx M_RD_decide.y ∈ jTW := jin3 29 rfl rfl
theorem lo_PT_44 : Cond.methodLink "InkCoder$Points" 44 jdx ∈ jTW := jin3 26 rfl rfl
theorem lo_NU_35 : Cond.methodLink "InkCoder$Numbers" 35 jdx ∈ jTW := jin3 112 rfl rfl
theorem jv_callOi {G : jG} {M : jM} {R : Room} {Q : jO → jMem → Prop} {k n pc : Nat} {ls : List (Nat × Value)} {st st0 : List Value} {σ : jMem} {P : Int32 → jMem → Prop} {M1 : jM} {rm : Room} {o ci : Nat} {fs : List (Option Nat)} {C : String} {T : u_T} {N : Nat} {as : List Value} {idx : Nat}
    (hM : jSp G M1 rm (.ref o :: as) σ (jI P)) (hd : decode M.cc pc = .ok (.invokevirtual idx, 3)) (c0 : jC0 M1 as.length) (h2 : as.length = 2) (lo : Cond.methodLink M.own idx jdx ∈ jTW) (hin : Cond.instanceMethod M1.y ∈ jTW) (hse : Cond.selects C jdx M1.y ∈ jTW) (ho : o < jN) (hs : jshp o = .inl (ci, fs)) (hc : jCl[ci]? = some (C, T, N)) (hk0 : st0 = as.reverse ++ .ref o :: st) (h8 : (st.map fun v => v.category).sum ≤ 8)
    (hR : rm.frames + 1 ≤ R.frames ∧ 8 + (M1.nL + 11) + rm.locals ≤ R.locals ∧ k + rm.cells ≤ R.cells ∧ n + rm.slots ≤ R.slots)
    (kont : ∀ (r : Int32) (τ : jMem), P r τ → jV G M R Q (k + rm.cells) (n + rm.slots) (pc + 3) ls (.int r :: st) τ) : jV G M R Q k n pc ls st0 σ := by
  intro p e s m args below meth c A H locs L F hP hD hS hl
  have hts := F.2.2.2.2.2.1
  obtain ⟨hs0, hcw, hini, hy, hp⟩ := c0
  have h8' : ((st.map (jcv G.ad)).map fun v => v.category).sum ≤ 8 := by
    rw [List.map_map]; simpa [Function.comp_def, jcv_cat] using h8
  have hsk : st0.map (jcv G.ad) = (as.map (jcv G.ad)).reverse ++ Value.ref (G.ad o) :: st.map (jcv G.ad) := by rw [hk0, List.map_append, List.map_reverse]; rfl
  have hpre : PreV s H C (G.ad o) (fun a U => a = ((Value.ref o :: as).map (jcv G.ad)).toArray ∧ jS G σ H.size U) (as.map (jcv G.ad)) := ⟨jS.blind, jrecv F hP ho hs hc, fun U hU hW => ⟨rfl, jS.call F hP hD hS hU hW⟩⟩
  have hgood := pay_in hts (jgoodIn hs0 hcw)
  have hcm : Cond.code M1.y M1.cc M1.nL M1.ret ∈ jws M1 := by
    have e : jcw M1 = Cond.code M1.y M1.cc M1.nL M1.ret := if_pos hs0
    unfold jws; rw [e]; exact List.mem_cons_self
  have hzz : va_Nw (.declares jdx) s := F.2.2.2.2.2.2.2.2.2.1.2.2.2.1 _ jdc
  have hlen : ∀ sig, parseMethodDescriptor jdx.desc = some sig → as.length = sig.parameters.length := by
    intro sig h
    have e : (parseMethodDescriptor jdx.desc).map (fun d => d.parameters.length) = some 2 := by decide +kernel
    rw [h] at e
    rw [h2]; exact (Option.some.inj e).symm
  exact jback (jI.ret (P := P)) F hD hS hl (va_runU (Ts := jTW) (own := M.own) (owner := "InkCoder$Coder") (x := jdx) ⟨F.1, F.2.1, F.2.2.1, F.2.2.2.2.1, hts⟩ (hM.met jI.ret H.size) ⟨⟨rfl, rfl, hR.1, hR.2.1, hgood, hcm⟩, hts _ hcw, hts _ hini, ⟨by decide, by decide⟩, hlen, hts _ lo, hts _ jsm, va_Decl.abs hzz, hts _ hse, hts _ hin⟩ hpre rfl (by simp) hl.1 hsk (lv_room h8') hd ⟨hR.2.2.1, hR.2.2.2⟩) (fun v τ h => by obtain ⟨r, h1, h2⟩ := h; cases h1; exact kont r τ h2)
/-- a copied array -/
theorem jcp_o {σ : jMem} {a b sp dp n : Nat} : jcp σ a b sp dp n b = va_cpy (σ a) (σ b) sp dp n := if_pos rfl
theorem jcp_n {σ : jMem} {a b sp dp n o : Nat} (h : o ≠ b) : jcp σ a b sp dp n o = σ o := if_neg h
theorem jv_copy {G : jG} {M : jM} {R : Room} {Q : jO → jMem → Prop} {k n pc : Nat} {ls : List (Nat × Value)} {st : List Value} {σ : jMem} {a b na nb idx : Nat} {sp dp w : Int32} (hd : decode M.cc pc = .ok (.invokestatic idx, 3)) (lk : Cond.methodLink M.own idx arraycopyName ∈ jTW) (ha : a < jN) (hsa : jshp a = .inr (.inl na)) (hb : b < jN) (hsb : jshp b = .inr (.inl nb)) (h1 : ¬ sp < 0) (h2 : ¬ dp < 0) (h3 : ¬ w < 0) (h4 : sp.toNatClampNeg + w.toNatClampNeg ≤ na) (h5 : dp.toNatClampNeg + w.toNatClampNeg ≤ nb) (hf : 1 ≤ R.frames) (hlo : ((st.map (jcv G.ad)).map fun v => v.category).sum + (nativeFrameWords "java/lang/System" "arraycopy" 5 + 11) ≤ R.locals)
    (kont : jV G M R Q k n (pc + 3) ls st (jcp σ a b sp.toNatClampNeg dp.toNatClampNeg w.toNatClampNeg)) : jV G M R Q k n pc ls (.int w :: .int dp :: .ref b :: .int sp :: .ref a :: st) σ := by
  intro p e s m args below meth c A H locs L F hP hD hS hl
  have hts := F.2.2.2.2.2.1
  have hea := jwd_get (G := G) (σ := σ) ha
  rw [jcell_i hsa] at hea
  have heb := jwd_get (G := G) (σ := σ) hb
  rw [jcell_i hsb] at heb
  have hset : (jwd G σ).set b (G.ad b, .inl (G.tI, nb, .inl (va_cpy (σ a) (σ b) sp.toNatClampNeg dp.toNatClampNeg w.toNatClampNeg))) = jwd G (jcp σ a b sp.toNatClampNeg dp.toNatClampNeg w.toNatClampNeg) := by
    refine jwd_set hb ?_ (fun z hz => ?_)
    · rw [jcell_i hsb, jcp_o]
    · unfold jcell; rw [jcp_n hz]
  exact va_copyi F.1 F.2.1 (F.2.2.1.trans hl.1.symm) F.2.2.2.2.1 (hts _ lk) (hts _ (jin3 149 rfl rfl)) (hts _ (jin3 148 rfl rfl)) (hts _ (jin1 23 rfl rfl)) F.2.2.2.2.2.2.2.1 hP hD hS a b 0 0 hea heb rfl rfl rfl h1 h2 h3 h4 h5 (fun _ _ => rfl) hf hlo hd (fun H1 locs1 hP1 hD1 hS1 => kont p e s m args below meth c A H1 locs1 L F (hset ▸ hP1) (hset ▸ hD1) hS1 hl)
theorem jv_lks {G : jG} {M : jM} {R : Room} {Q : jO → jMem → Prop} {k n pc : Nat} {ls : List (Nat × Value)} {st : List Value} {σ : jMem} {dflt off : Int} {ps : Array (Int × Int)} {len : Nat} {x : Int32} (tgt : Nat) (hd : decode M.cc pc = .ok (.lookupswitch dflt ps, len)) (hp : (ps.toList.zip (ps.toList.drop 1)).all (fun (a, next) => a.1 < next.1) = true) (ho : Op.lookupswitch.offset ps.toList dflt x.toInt = off) (ht : (pc : Int) + off = (tgt : Int)) (kk : jV G M R Q k n tgt ls st σ) : jV G M R Q k n pc ls (.int x :: st) σ := by
  intro p e s m args below meth c A H locs L F hP hD hS hl
  exact lv_lookup F.1 F.2.1 hd hp ho ht (kk p e s m args below meth c A H locs L F hP hD hS hl)
