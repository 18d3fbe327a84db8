/-! answers by their kind; calls by the answer's kind; places of locals; which fields may be written -/
def jI (P : Int32 → jMem → Prop) : jO → jMem → Prop := fun o τ => ∃ r : Int32, o = .inl (some (.int r)) ∧ P r τ
def jL (P : Int64 → jMem → Prop) : jO → jMem → Prop := fun o τ => ∃ r : Int64, o = .inl (some (.long r)) ∧ P r τ
def jA (P : Nat → jMem → Prop) : jO → jMem → Prop := fun o τ => ∃ r : Nat, o = .inl (some (.ref r)) ∧ P r τ
def jU (P : jMem → Prop) : jO → jMem → Prop := fun o τ => o = .inl none ∧ P τ
theorem jI.ret {P : Int32 → jMem → Prop} : jRet (jI P) := fun _ _ h => ⟨_, h.choose_spec.1⟩
theorem jL.ret {P : Int64 → jMem → Prop} : jRet (jL P) := fun _ _ h => ⟨_, h.choose_spec.1⟩
theorem jA.ret {P : Nat → jMem → Prop} : jRet (jA P) := fun _ _ h => ⟨_, h.choose_spec.1⟩
theorem jU.ret {P : jMem → Prop} : jRet (jU P) := fun _ _ h => ⟨_, h.1⟩
theorem jI.of {P : Int32 → jMem → Prop} {r : Int32} {τ : jMem} (h : P r τ) : jI P (.inl (some (.int r))) τ := ⟨r, rfl, h⟩
theorem jL.of {P : Int64 → jMem → Prop} {r : Int64} {τ : jMem} (h : P r τ) : jL P (.inl (some (.long r))) τ := ⟨r, rfl, h⟩
theorem jA.of {P : Nat → jMem → Prop} {r : Nat} {τ : jMem} (h : P r τ) : jA P (.inl (some (.ref r))) τ := ⟨r, rfl, h⟩
theorem jU.of {P : jMem → Prop} {τ : jMem} (h : P τ) : jU P (.inl none) τ := ⟨rfl, h⟩
theorem jv_callSi {G : jG} {M : jM} {R : Room} {Q : jO → jMem → Prop} {k n pc : Nat} {ls : List (Nat × Value)} {st st0 : List Value} {σ : jMem} {M1 : jM} {rm : Room} {as : List Value} {idx : Nat} {P : Int32 → jMem → Prop} (hM : jSp G M1 rm as σ (jI P)) (hd : decode M.cc pc = .ok (.invokestatic idx, 3)) (c0 : jC0 M1 as.length) (lk : jLk M.own idx M1.y) (hst : Cond.static M1.y ∈ jTW) (hk0 : st0 = as.reverse ++ st) (h8 : (st.map fun v => v.category).sum ≤ 8) (hR : rm.frames + 1 ≤ R.frames ∧ 8 + (M1.nL + 11) + rm.locals ≤ R.locals ∧ k + rm.cells ≤ R.cells ∧ n + rm.slots ≤ R.slots) (kont : ∀ (r : Int32) (τ : jMem), P r τ → jV G M R Q (k + rm.cells) (n + rm.slots) (pc + 3) ls (.int r :: st) τ) : jV G M R Q k n pc ls st0 σ := jv_callS hM jI.ret hd c0 lk hst hk0 h8 hR (fun v τ h => by obtain ⟨r, h1, h2⟩ := h; cases h1; exact kont r τ h2)
theorem jv_callVi {G : jG} {M : jM} {R : Room} {Q : jO → jMem → Prop} {k n pc : Nat} {ls : List (Nat × Value)} {st st0 : List Value} {σ : jMem} {M1 : jM} {rm : Room} {o ci : Nat} {fs : List (Option Nat)} {C : String} {T : u_T} {N : Nat} {as : List Value} {idx : Nat} {P : Int32 → jMem → Prop} (hM : jSp G M1 rm (.ref o :: as) σ (jI P)) (hd : decode M.cc pc = .ok (.invokevirtual idx, 3)) (c0 : jC0 M1 as.length) (lk : jLk M.own idx M1.y) (hin : Cond.instanceMethod M1.y ∈ jTW) (hse : Cond.selects C M1.y M1.y ∈ jTW) (ho : o < jN) (hs : jshp o = .inl (ci, fs)) (hc : jCl[ci]? = some (C, T, N)) (hk0 : st0 = as.reverse ++ .ref o :: st) (h8 : (st.map fun v => v.category).sum ≤ 8) (hR : rm.frames + 1 ≤ R.frames ∧ 8 + (M1.nL + 11) + rm.locals ≤ R.locals ∧ k + rm.cells ≤ R.cells ∧ n + rm.slots ≤ R.slots) (kont : ∀ (r : Int32) (τ : jMem), P r τ → jV G M R Q (k + rm.cells) (n + rm.slots) (pc + 3) ls (.int r :: st) τ) : jV G M R Q k n pc ls st0 σ := jv_callV hM jI.ret hd c0 lk hin hse ho hs hc hk0 h8 hR (fun v τ h => by obtain ⟨r, h1, h2⟩ := h; cases h1; exact kont r τ h2)
theorem jv_callSl {G : jG} {M : jM} {R : Room} {Q : jO → jMem → Prop} {k n pc : Nat} {ls : List (Nat × Value)} {st st0 : List Value} {σ : jMem} {M1 : jM} {rm : Room} {as : List Value} {idx : Nat} {P : Int64 → jMem → Prop} (hM : jSp G M1 rm as σ (jL P)) (hd : decode M.cc pc = .ok (.invokestatic idx, 3)) (c0 : jC0 M1 as.length) (lk : jLk M.own idx M1.y) (hst : Cond.static M1.y ∈ jTW) (hk0 : st0 = as.reverse ++ st) (h8 : (st.map fun v => v.category).sum ≤ 8) (hR : rm.frames + 1 ≤ R.frames ∧ 8 + (M1.nL + 11) + rm.locals ≤ R.locals ∧ k + rm.cells ≤ R.cells ∧ n + rm.slots ≤ R.slots) (kont : ∀ (r : Int64) (τ : jMem), P r τ → jV G M R Q (k + rm.cells) (n + rm.slots) (pc + 3) ls (.long r :: st) τ) : jV G M R Q k n pc ls st0 σ := jv_callS hM jL.ret hd c0 lk hst hk0 h8 hR (fun v τ h => by obtain ⟨r, h1, h2⟩ := h; cases h1; exact kont r τ h2)
theorem jv_callVl {G : jG} {M : jM} {R : Room} {Q : jO → jMem → Prop} {k n pc : Nat} {ls : List (Nat × Value)} {st st0 : List Value} {σ : jMem} {M1 : jM} {rm : Room} {o ci : Nat} {fs : List (Option Nat)} {C : String} {T : u_T} {N : Nat} {as : List Value} {idx : Nat} {P : Int64 → jMem → Prop} (hM : jSp G M1 rm (.ref o :: as) σ (jL P)) (hd : decode M.cc pc = .ok (.invokevirtual idx, 3)) (c0 : jC0 M1 as.length) (lk : jLk M.own idx M1.y) (hin : Cond.instanceMethod M1.y ∈ jTW) (hse : Cond.selects C M1.y M1.y ∈ jTW) (ho : o < jN) (hs : jshp o = .inl (ci, fs)) (hc : jCl[ci]? = some (C, T, N)) (hk0 : st0 = as.reverse ++ .ref o :: st) (h8 : (st.map fun v => v.category).sum ≤ 8) (hR : rm.frames + 1 ≤ R.frames ∧ 8 + (M1.nL + 11) + rm.locals ≤ R.locals ∧ k + rm.cells ≤ R.cells ∧ n + rm.slots ≤ R.slots) (kont : ∀ (r : Int64) (τ : jMem), P r τ → jV G M R Q (k + rm.cells) (n + rm.slots) (pc + 3) ls (.long r :: st) τ) : jV G M R Q k n pc ls st0 σ := jv_callV hM jL.ret hd c0 lk hin hse ho hs hc hk0 h8 hR (fun v τ h => by obtain ⟨r, h1, h2⟩ := h; cases h1; exact kont r τ h2)
theorem jv_callSa {G : jG} {M : jM} {R : Room} {Q : jO → jMem → Prop} {k n pc : Nat} {ls : List (Nat × Value)} {st st0 : List Value} {σ : jMem} {M1 : jM} {rm : Room} {as : List Value} {idx : Nat} {P : Nat → jMem → Prop} (hM : jSp G M1 rm as σ (jA P)) (hd : decode M.cc pc = .ok (.invokestatic idx, 3)) (c0 : jC0 M1 as.length) (lk : jLk M.own idx M1.y) (hst : Cond.static M1.y ∈ jTW) (hk0 : st0 = as.reverse ++ st) (h8 : (st.map fun v => v.category).sum ≤ 8) (hR : rm.frames + 1 ≤ R.frames ∧ 8 + (M1.nL + 11) + rm.locals ≤ R.locals ∧ k + rm.cells ≤ R.cells ∧ n + rm.slots ≤ R.slots) (kont : ∀ (r : Nat) (τ : jMem), P r τ → jV G M R Q (k + rm.cells) (n + rm.slots) (pc + 3) ls (.ref r :: st) τ) : jV G M R Q k n pc ls st0 σ := jv_callS hM jA.ret hd c0 lk hst hk0 h8 hR (fun v τ h => by obtain ⟨r, h1, h2⟩ := h; cases h1; exact kont r τ h2)
theorem jv_callVa {G : jG} {M : jM} {R : Room} {Q : jO → jMem → Prop} {k n pc : Nat} {ls : List (Nat × Value)} {st st0 : List Value} {σ : jMem} {M1 : jM} {rm : Room} {o ci : Nat} {fs : List (Option Nat)} {C : String} {T : u_T} {N : Nat} {as : List Value} {idx : Nat} {P : Nat → jMem → Prop} (hM : jSp G M1 rm (.ref o :: as) σ (jA P)) (hd : decode M.cc pc = .ok (.invokevirtual idx, 3)) (c0 : jC0 M1 as.length) (lk : jLk M.own idx M1.y) (hin : Cond.instanceMethod M1.y ∈ jTW) (hse : Cond.selects C M1.y M1.y ∈ jTW) (ho : o < jN) (hs : jshp o = .inl (ci, fs)) (hc : jCl[ci]? = some (C, T, N)) (hk0 : st0 = as.reverse ++ .ref o :: st) (h8 : (st.map fun v => v.category).sum ≤ 8) (hR : rm.frames + 1 ≤ R.frames ∧ 8 + (M1.nL + 11) + rm.locals ≤ R.locals ∧ k + rm.cells ≤ R.cells ∧ n + rm.slots ≤ R.slots) (kont : ∀ (r : Nat) (τ : jMem), P r τ → jV G M R Q (k + rm.cells) (n + rm.slots) (pc + 3) ls (.ref r :: st) τ) : jV G M R Q k n pc ls st0 σ := jv_callV hM jA.ret hd c0 lk hin hse ho hs hc hk0 h8 hR (fun v τ h => by obtain ⟨r, h1, h2⟩ := h; cases h1; exact kont r τ h2)
theorem jv_callSv {G : jG} {M : jM} {R : Room} {Q : jO → jMem → Prop} {k n pc : Nat} {ls : List (Nat × Value)} {st st0 : List Value} {σ : jMem} {M1 : jM} {rm : Room} {as : List Value} {idx : Nat} {P : jMem → Prop} (hM : jSp G M1 rm as σ (jU P)) (hd : decode M.cc pc = .ok (.invokestatic idx, 3)) (c0 : jC0 M1 as.length) (lk : jLk M.own idx M1.y) (hst : Cond.static M1.y ∈ jTW) (hk0 : st0 = as.reverse ++ st) (h8 : (st.map fun v => v.category).sum ≤ 8) (hR : rm.frames + 1 ≤ R.frames ∧ 8 + (M1.nL + 11) + rm.locals ≤ R.locals ∧ k + rm.cells ≤ R.cells ∧ n + rm.slots ≤ R.slots) (kont : ∀ τ : jMem, P τ → jV G M R Q (k + rm.cells) (n + rm.slots) (pc + 3) ls st τ) : jV G M R Q k n pc ls st0 σ := jv_callS hM jU.ret hd c0 lk hst hk0 h8 hR (fun v τ h => by obtain ⟨h1, h2⟩ := h; cases h1; exact kont τ h2)
theorem jv_callVv {G : jG} {M : jM} {R : Room} {Q : jO → jMem → Prop} {k n pc : Nat} {ls : List (Nat × Value)} {st st0 : List Value} {σ : jMem} {M1 : jM} {rm : Room} {o ci : Nat} {fs : List (Option Nat)} {C : String} {T : u_T} {N : Nat} {as : List Value} {idx : Nat} {P : jMem → Prop} (hM : jSp G M1 rm (.ref o :: as) σ (jU P)) (hd : decode M.cc pc = .ok (.invokevirtual idx, 3)) (c0 : jC0 M1 as.length) (lk : jLk M.own idx M1.y) (hin : Cond.instanceMethod M1.y ∈ jTW) (hse : Cond.selects C M1.y M1.y ∈ jTW) (ho : o < jN) (hs : jshp o = .inl (ci, fs)) (hc : jCl[ci]? = some (C, T, N)) (hk0 : st0 = as.reverse ++ .ref o :: st) (h8 : (st.map fun v => v.category).sum ≤ 8) (hR : rm.frames + 1 ≤ R.frames ∧ 8 + (M1.nL + 11) + rm.locals ≤ R.locals ∧ k + rm.cells ≤ R.cells ∧ n + rm.slots ≤ R.slots) (kont : ∀ τ : jMem, P τ → jV G M R Q (k + rm.cells) (n + rm.slots) (pc + 3) ls st τ) : jV G M R Q k n pc ls st0 σ := jv_callV hM jU.ret hd c0 lk hin hse ho hs hc hk0 h8 hR (fun v τ h => by obtain ⟨h1, h2⟩ := h; cases h1; exact kont τ h2)
theorem jst0 {r : List (Nat × Value)} {i : Nat} {u v : Value} (h : (r).all (fun q => !(q.1 == i) && !(q.1 + 1 == i && q.2.category == 2)) = true) : ∀ q ∈ (i, v) :: r, q = (i, v) ∨ (q ∈ (i, u) :: r ∧ (!(q.1 == i) && !(q.1 + 1 == i && q.2.category == 2)) = true) := jsto_at (pre := []) (post := r) h
theorem jst1 {a0 : Nat × Value} {r : List (Nat × Value)} {i : Nat} {u v : Value} (h : (a0 :: r).all (fun q => !(q.1 == i) && !(q.1 + 1 == i && q.2.category == 2)) = true) : ∀ q ∈ a0 :: (i, v) :: r, q = (i, v) ∨ (q ∈ a0 :: (i, u) :: r ∧ (!(q.1 == i) && !(q.1 + 1 == i && q.2.category == 2)) = true) := jsto_at (pre := [a0]) (post := r) h
theorem jst2 {a0 a1 : Nat × Value} {r : List (Nat × Value)} {i : Nat} {u v : Value} (h : (a0 :: a1 :: r).all (fun q => !(q.1 == i) && !(q.1 + 1 == i && q.2.category == 2)) = true) : ∀ q ∈ a0 :: a1 :: (i, v) :: r, q = (i, v) ∨ (q ∈ a0 :: a1 :: (i, u) :: r ∧ (!(q.1 == i) && !(q.1 + 1 == i && q.2.category == 2)) = true) := jsto_at (pre := [a0, a1]) (post := r) h
theorem jst3 {a0 a1 a2 : Nat × Value} {r : List (Nat × Value)} {i : Nat} {u v : Value} (h : (a0 :: a1 :: a2 :: r).all (fun q => !(q.1 == i) && !(q.1 + 1 == i && q.2.category == 2)) = true) : ∀ q ∈ a0 :: a1 :: a2 :: (i, v) :: r, q = (i, v) ∨ (q ∈ a0 :: a1 :: a2 :: (i, u) :: r ∧ (!(q.1 == i) && !(q.1 + 1 == i && q.2.category == 2)) = true) := jsto_at (pre := [a0, a1, a2]) (post := r) h
theorem jst4 {a0 a1 a2 a3 : Nat × Value} {r : List (Nat × Value)} {i : Nat} {u v : Value} (h : (a0 :: a1 :: a2 :: a3 :: r).all (fun q => !(q.1 == i) && !(q.1 + 1 == i && q.2.category == 2)) = true) : ∀ q ∈ a0 :: a1 :: a2 :: a3 :: (i, v) :: r, q = (i, v) ∨ (q ∈ a0 :: a1 :: a2 :: a3 :: (i, u) :: r ∧ (!(q.1 == i) && !(q.1 + 1 == i && q.2.category == 2)) = true) := jsto_at (pre := [a0, a1, a2, a3]) (post := r) h
theorem jst5 {a0 a1 a2 a3 a4 : Nat × Value} {r : List (Nat × Value)} {i : Nat} {u v : Value} (h : (a0 :: a1 :: a2 :: a3 :: a4 :: r).all (fun q => !(q.1 == i) && !(q.1 + 1 == i && q.2.category == 2)) = true) : ∀ q ∈ a0 :: a1 :: a2 :: a3 :: a4 :: (i, v) :: r, q = (i, v) ∨ (q ∈ a0 :: a1 :: a2 :: a3 :: a4 :: (i, u) :: r ∧ (!(q.1 == i) && !(q.1 + 1 == i && q.2.category == 2)) = true) := jsto_at (pre := [a0, a1, a2, a3, a4]) (post := r) h
theorem jst6 {a0 a1 a2 a3 a4 a5 : Nat × Value} {r : List (Nat × Value)} {i : Nat} {u v : Value} (h : (a0 :: a1 :: a2 :: a3 :: a4 :: a5 :: r).all (fun q => !(q.1 == i) && !(q.1 + 1 == i && q.2.category == 2)) = true) : ∀ q ∈ a0 :: a1 :: a2 :: a3 :: a4 :: a5 :: (i, v) :: r, q = (i, v) ∨ (q ∈ a0 :: a1 :: a2 :: a3 :: a4 :: a5 :: (i, u) :: r ∧ (!(q.1 == i) && !(q.1 + 1 == i && q.2.category == 2)) = true) := jsto_at (pre := [a0, a1, a2, a3, a4, a5]) (post := r) h
theorem jst7 {a0 a1 a2 a3 a4 a5 a6 : Nat × Value} {r : List (Nat × Value)} {i : Nat} {u v : Value} (h : (a0 :: a1 :: a2 :: a3 :: a4 :: a5 :: a6 :: r).all (fun q => !(q.1 == i) && !(q.1 + 1 == i && q.2.category == 2)) = true) : ∀ q ∈ a0 :: a1 :: a2 :: a3 :: a4 :: a5 :: a6 :: (i, v) :: r, q = (i, v) ∨ (q ∈ a0 :: a1 :: a2 :: a3 :: a4 :: a5 :: a6 :: (i, u) :: r ∧ (!(q.1 == i) && !(q.1 + 1 == i && q.2.category == 2)) = true) := jsto_at (pre := [a0, a1, a2, a3, a4, a5, a6]) (post := r) h
theorem jst8 {a0 a1 a2 a3 a4 a5 a6 a7 : Nat × Value} {r : List (Nat × Value)} {i : Nat} {u v : Value} (h : (a0 :: a1 :: a2 :: a3 :: a4 :: a5 :: a6 :: a7 :: r).all (fun q => !(q.1 == i) && !(q.1 + 1 == i && q.2.category == 2)) = true) : ∀ q ∈ a0 :: a1 :: a2 :: a3 :: a4 :: a5 :: a6 :: a7 :: (i, v) :: r, q = (i, v) ∨ (q ∈ a0 :: a1 :: a2 :: a3 :: a4 :: a5 :: a6 :: a7 :: (i, u) :: r ∧ (!(q.1 == i) && !(q.1 + 1 == i && q.2.category == 2)) = true) := jsto_at (pre := [a0, a1, a2, a3, a4, a5, a6, a7]) (post := r) h
theorem jst9 {a0 a1 a2 a3 a4 a5 a6 a7 a8 : Nat × Value} {r : List (Nat × Value)} {i : Nat} {u v : Value} (h : (a0 :: a1 :: a2 :: a3 :: a4 :: a5 :: a6 :: a7 :: a8 :: r).all (fun q => !(q.1 == i) && !(q.1 + 1 == i && q.2.category == 2)) = true) : ∀ q ∈ a0 :: a1 :: a2 :: a3 :: a4 :: a5 :: a6 :: a7 :: a8 :: (i, v) :: r, q = (i, v) ∨ (q ∈ a0 :: a1 :: a2 :: a3 :: a4 :: a5 :: a6 :: a7 :: a8 :: (i, u) :: r ∧ (!(q.1 == i) && !(q.1 + 1 == i && q.2.category == 2)) = true) := jsto_at (pre := [a0, a1, a2, a3, a4, a5, a6, a7, a8]) (post := r) h
theorem jst10 {a0 a1 a2 a3 a4 a5 a6 a7 a8 a9 : Nat × Value} {r : List (Nat × Value)} {i : Nat} {u v : Value} (h : (a0 :: a1 :: a2 :: a3 :: a4 :: a5 :: a6 :: a7 :: a8 :: a9 :: r).all (fun q => !(q.1 == i) && !(q.1 + 1 == i && q.2.category == 2)) = true) : ∀ q ∈ a0 :: a1 :: a2 :: a3 :: a4 :: a5 :: a6 :: a7 :: a8 :: a9 :: (i, v) :: r, q = (i, v) ∨ (q ∈ a0 :: a1 :: a2 :: a3 :: a4 :: a5 :: a6 :: a7 :: a8 :: a9 :: (i, u) :: r ∧ (!(q.1 == i) && !(q.1 + 1 == i && q.2.category == 2)) = true) := jsto_at (pre := [a0, a1, a2, a3, a4, a5, a6, a7, a8, a9]) (post := r) h
theorem jst11 {a0 a1 a2 a3 a4 a5 a6 a7 a8 a9 a10 : Nat × Value} {r : List (Nat × Value)} {i : Nat} {u v : Value} (h : (a0 :: a1 :: a2 :: a3 :: a4 :: a5 :: a6 :: a7 :: a8 :: a9 :: a10 :: r).all (fun q => !(q.1 == i) && !(q.1 + 1 == i && q.2.category == 2)) = true) : ∀ q ∈ a0 :: a1 :: a2 :: a3 :: a4 :: a5 :: a6 :: a7 :: a8 :: a9 :: a10 :: (i, v) :: r, q = (i, v) ∨ (q ∈ a0 :: a1 :: a2 :: a3 :: a4 :: a5 :: a6 :: a7 :: a8 :: a9 :: a10 :: (i, u) :: r ∧ (!(q.1 == i) && !(q.1 + 1 == i && q.2.category == 2)) = true) := jsto_at (pre := [a0, a1, a2, a3, a4, a5, a6, a7, a8, a9, a10]) (post := r) h
theorem jst12 {a0 a1 a2 a3 a4 a5 a6 a7 a8 a9 a10 a11 : Nat × Value} {r : List (Nat × Value)} {i : Nat} {u v : Value} (h : (a0 :: a1 :: a2 :: a3 :: a4 :: a5 :: a6 :: a7 :: a8 :: a9 :: a10 :: a11 :: r).all (fun q => !(q.1 == i) && !(q.1 + 1 == i && q.2.category == 2)) = true) : ∀ q ∈ a0 :: a1 :: a2 :: a3 :: a4 :: a5 :: a6 :: a7 :: a8 :: a9 :: a10 :: a11 :: (i, v) :: r, q = (i, v) ∨ (q ∈ a0 :: a1 :: a2 :: a3 :: a4 :: a5 :: a6 :: a7 :: a8 :: a9 :: a10 :: a11 :: (i, u) :: r ∧ (!(q.1 == i) && !(q.1 + 1 == i && q.2.category == 2)) = true) := jsto_at (pre := [a0, a1, a2, a3, a4, a5, a6, a7, a8, a9, a10, a11]) (post := r) h
theorem jst13 {a0 a1 a2 a3 a4 a5 a6 a7 a8 a9 a10 a11 a12 : Nat × Value} {r : List (Nat × Value)} {i : Nat} {u v : Value} (h : (a0 :: a1 :: a2 :: a3 :: a4 :: a5 :: a6 :: a7 :: a8 :: a9 :: a10 :: a11 :: a12 :: r).all (fun q => !(q.1 == i) && !(q.1 + 1 == i && q.2.category == 2)) = true) : ∀ q ∈ a0 :: a1 :: a2 :: a3 :: a4 :: a5 :: a6 :: a7 :: a8 :: a9 :: a10 :: a11 :: a12 :: (i, v) :: r, q = (i, v) ∨ (q ∈ a0 :: a1 :: a2 :: a3 :: a4 :: a5 :: a6 :: a7 :: a8 :: a9 :: a10 :: a11 :: a12 :: (i, u) :: r ∧ (!(q.1 == i) && !(q.1 + 1 == i && q.2.category == 2)) = true) := jsto_at (pre := [a0, a1, a2, a3, a4, a5, a6, a7, a8, a9, a10, a11, a12]) (post := r) h
theorem jst14 {a0 a1 a2 a3 a4 a5 a6 a7 a8 a9 a10 a11 a12 a13 : Nat × Value} {r : List (Nat × Value)} {i : Nat} {u v : Value} (h : (a0 :: a1 :: a2 :: a3 :: a4 :: a5 :: a6 :: a7 :: a8 :: a9 :: a10 :: a11 :: a12 :: a13 :: r).all (fun q => !(q.1 == i) && !(q.1 + 1 == i && q.2.category == 2)) = true) : ∀ q ∈ a0 :: a1 :: a2 :: a3 :: a4 :: a5 :: a6 :: a7 :: a8 :: a9 :: a10 :: a11 :: a12 :: a13 :: (i, v) :: r, q = (i, v) ∨ (q ∈ a0 :: a1 :: a2 :: a3 :: a4 :: a5 :: a6 :: a7 :: a8 :: a9 :: a10 :: a11 :: a12 :: a13 :: (i, u) :: r ∧ (!(q.1 == i) && !(q.1 + 1 == i && q.2.category == 2)) = true) := jsto_at (pre := [a0, a1, a2, a3, a4, a5, a6, a7, a8, a9, a10, a11, a12, a13]) (post := r) h
theorem jst15 {a0 a1 a2 a3 a4 a5 a6 a7 a8 a9 a10 a11 a12 a13 a14 : Nat × Value} {r : List (Nat × Value)} {i : Nat} {u v : Value} (h : (a0 :: a1 :: a2 :: a3 :: a4 :: a5 :: a6 :: a7 :: a8 :: a9 :: a10 :: a11 :: a12 :: a13 :: a14 :: r).all (fun q => !(q.1 == i) && !(q.1 + 1 == i && q.2.category == 2)) = true) : ∀ q ∈ a0 :: a1 :: a2 :: a3 :: a4 :: a5 :: a6 :: a7 :: a8 :: a9 :: a10 :: a11 :: a12 :: a13 :: a14 :: (i, v) :: r, q = (i, v) ∨ (q ∈ a0 :: a1 :: a2 :: a3 :: a4 :: a5 :: a6 :: a7 :: a8 :: a9 :: a10 :: a11 :: a12 :: a13 :: a14 :: (i, u) :: r ∧ (!(q.1 == i) && !(q.1 + 1 == i && q.2.category == 2)) = true) := jsto_at (pre := [a0, a1, a2, a3, a4, a5, a6, a7, a8, a9, a10, a11, a12, a13, a14]) (post := r) h
theorem jinc1 (x : Int32) : x + Int32.ofInt 1 = x + 1 := rfl
section JX
variable {G : jG} {M : jM} {R : Room} {Q : jO → jMem → Prop} {k n pc : Nat} {ls : List (Nat × Value)} {st : List Value} {σ : jMem}
theorem jv_ldcw {idx : Nat} (v : Int32) (hd : decode M.cc pc = .ok (.ldc_w idx, 3)) (hw : Cond.constant M.own idx v ∈ jTW) (kk : jV G M R Q k n (pc + 3) ls (.int v :: st) σ) : jV G M R Q k n pc ls st σ := by
  intro p e s m args below meth c A H locs L F hP hD hS hl
  exact lv_ldcw F.1 F.2.1 F.2.2.2.2.1 (F.2.2.2.2.2.1 _ hw) hd (kk p e s m args below meth c A H locs L F hP hD hS hl)
end JX
theorem fp_IC_7 : jFP 0 7 .int := by
  intro C T N h
  cases h
  exact ⟨rfl, by decide +kernel, ⟨jtIC, jpIC⟩, jnIC⟩
theorem fp_PI_1 : jFP 1 1 .int := by
  intro C T N h
  cases h
  exact ⟨rfl, by decide +kernel, ⟨jtPI, jpPI⟩, jnPI⟩
theorem fp_PI_2 : jFP 1 2 .int := by
  intro C T N h
  cases h
  exact ⟨rfl, by decide +kernel, ⟨jtPI, jpPI⟩, jnPI⟩
theorem fp_SR_1 : jFP 2 1 .int := by
  intro C T N h
  cases h
  exact ⟨rfl, by decide +kernel, ⟨jtSR, jpSR⟩, jnSR⟩
theorem fp_MR_3 : jFP 3 3 .int := by
  intro C T N h
  cases h
  exact ⟨rfl, by decide +kernel, ⟨jtMR, jpMR⟩, jnMR⟩
theorem fp_BR_1 : jFP 4 1 .int := by
  intro C T N h
  cases h
  exact ⟨rfl, by decide +kernel, ⟨jtBR, jpBR⟩, jnBR⟩
theorem fp_WR_2 : jFP 6 2 .int := by
  intro C T N h
  cases h
  exact ⟨rfl, by decide +kernel, ⟨jtWR, jpWR⟩, jnWR⟩
theorem fp_WR_3 : jFP 6 3 .int := by
  intro C T N h
  cases h
  exact ⟨rfl, by decide +kernel, ⟨jtWR, jpWR⟩, jnWR⟩
theorem fp_WR_4 : jFP 6 4 .int := by
  intro C T N h
  cases h
  exact ⟨rfl, by decide +kernel, ⟨jtWR, jpWR⟩, jnWR⟩
theorem fp_WR_5 : jFP 6 5 .int := by
  intro C T N h
  cases h
  exact ⟨rfl, by decide +kernel, ⟨jtWR, jpWR⟩, jnWR⟩
theorem fp_WR_6 : jFP 6 6 .boolean := by
  intro C T N h
  cases h
  exact ⟨rfl, by decide +kernel, ⟨jtWR, jpWR⟩, jnWR⟩
theorem fp_RD_2 : jFP 7 2 .int := by
  intro C T N h
  cases h
  exact ⟨rfl, by decide +kernel, ⟨jtRD, jpRD⟩, jnRD⟩
theorem fp_RD_3 : jFP 7 3 .int := by
  intro C T N h
  cases h
  exact ⟨rfl, by decide +kernel, ⟨jtRD, jpRD⟩, jnRD⟩
theorem fp_RD_4 : jFP 7 4 .int := by
  intro C T N h
  cases h
  exact ⟨rfl, by decide +kernel, ⟨jtRD, jpRD⟩, jnRD⟩
theorem fp_RD_5 : jFP 7 5 .int := by
  intro C T N h
  cases h
  exact ⟨rfl, by decide +kernel, ⟨jtRD, jpRD⟩, jnRD⟩
theorem fp_MO_0 : jFP 8 0 .int := by
  intro C T N h
  cases h
  exact ⟨rfl, by decide +kernel, ⟨jtMO, jpMO⟩, jnMO⟩
theorem fp_MO_4 : jFP 8 4 .int := by
  intro C T N h
  cases h
  exact ⟨rfl, by decide +kernel, ⟨jtMO, jpMO⟩, jnMO⟩
theorem fp_MO_5 : jFP 8 5 .int := by
  intro C T N h
  cases h
  exact ⟨rfl, by decide +kernel, ⟨jtMO, jpMO⟩, jnMO⟩
theorem fp_MO_9 : jFP 8 9 .int := by
  intro C T N h
  cases h
  exact ⟨rfl, by decide +kernel, ⟨jtMO, jpMO⟩, jnMO⟩
theorem fp_MO_11 : jFP 8 11 .int := by
  intro C T N h
  cases h
  exact ⟨rfl, by decide +kernel, ⟨jtMO, jpMO⟩, jnMO⟩
theorem fp_MO_12 : jFP 8 12 .int := by
  intro C T N h
  cases h
  exact ⟨rfl, by decide +kernel, ⟨jtMO, jpMO⟩, jnMO⟩
theorem fp_MO_13 : jFP 8 13 .int := by
  intro C T N h
  cases h
  exact ⟨rfl, by decide +kernel, ⟨jtMO, jpMO⟩, jnMO⟩
theorem fp_MO_14 : jFP 8 14 .int := by
  intro C T N h
  cases h
  exact ⟨rfl, by decide +kernel, ⟨jtMO, jpMO⟩, jnMO⟩
theorem fp_MO_15 : jFP 8 15 .int := by
  intro C T N h
  cases h
  exact ⟨rfl, by decide +kernel, ⟨jtMO, jpMO⟩, jnMO⟩
theorem fp_MO_16 : jFP 8 16 .int := by
  intro C T N h
  cases h
  exact ⟨rfl, by decide +kernel, ⟨jtMO, jpMO⟩, jnMO⟩
theorem fp_MO_17 : jFP 8 17 .int := by
  intro C T N h
  cases h
  exact ⟨rfl, by decide +kernel, ⟨jtMO, jpMO⟩, jnMO⟩
theorem fp_MO_19 : jFP 8 19 .int := by
  intro C T N h
  cases h
  exact ⟨rfl, by decide +kernel, ⟨jtMO, jpMO⟩, jnMO⟩
theorem fp_MO_20 : jFP 8 20 .boolean := by
  intro C T N h
  cases h
  exact ⟨rfl, by decide +kernel, ⟨jtMO, jpMO⟩, jnMO⟩
theorem fp_MO_21 : jFP 8 21 .int := by
  intro C T N h
  cases h
  exact ⟨rfl, by decide +kernel, ⟨jtMO, jpMO⟩, jnMO⟩
theorem fp_MO_22 : jFP 8 22 .boolean := by
  intro C T N h
  cases h
  exact ⟨rfl, by decide +kernel, ⟨jtMO, jpMO⟩, jnMO⟩
