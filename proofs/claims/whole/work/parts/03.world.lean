/-! the judgement: a machine at a frame, its heap read as a memory of ints (jMem) over objects that are known by number -/
abbrev jM : Type := String × MethodName × ByteArray × Nat × Option FieldType × List (Nat × Nat × Nat × Nat)
abbrev jMem : Type := Nat → Nat → Int32
abbrev jO : Type := Option Value ⊕ Nat
abbrev jG : Type := Launch × va_G × (Nat → Nat) × ClassId × ClassId × ClassId × (Nat → Int32) × Nat × Nat
abbrev jG.l (G : jG) : Launch := G.1
abbrev jG.D (G : jG) : va_G := G.2.1
abbrev jG.ad (G : jG) : Nat → Nat := G.2.2.1
abbrev jG.tI (G : jG) : ClassId := G.2.2.2.1
abbrev jG.tP (G : jG) : ClassId := G.2.2.2.2.1
abbrev jG.tL (G : jG) : ClassId := G.2.2.2.2.2.1
abbrev jG.xs (G : jG) : Nat → Int32 := G.2.2.2.2.2.2.1
abbrev jG.L (G : jG) : Nat := G.2.2.2.2.2.2.2.1
abbrev jM.own (M : jM) : String := M.1
abbrev jM.y (M : jM) : MethodName := M.2.1
abbrev jM.cc (M : jM) : ByteArray := M.2.2.1
abbrev jM.nL (M : jM) : Nat := M.2.2.2.1
abbrev jM.ret (M : jM) : Option FieldType := M.2.2.2.2.1
abbrev jM.hs (M : jM) : List (Nat × Nat × Nat × Nat) := M.2.2.2.2.2
def jcv (ad : Nat → Nat) (v : Value) : Value := match v with
  | .ref o => .ref (ad o)
  | v => v
theorem jcv_cat (ad : Nat → Nat) (v : Value) : (jcv ad v).category = v.category := by cases v <;> rfl
def jfld (ad : Nat → Nat) (f : Nat → Int32) (q : Option Nat × Nat) : Value := match q.1 with
  | none => .int (f q.2)
  | some r => .ref (ad r)
def jcell (G : jG) (σ : jMem) (o : Nat) : va_E := match jshp o with
  | .inl (ci, fs) => .inr (ci, fs.zipIdx.map (jfld G.ad (σ o)))
  | .inr (.inl n) => .inl (G.tI, n, .inl (σ o))
  | .inr (.inr (.inl rs)) => .inl (G.tP, rs.length, .inr (.inr (.inr (.inr fun i => (rs[i]?).map G.ad))))
  | .inr (.inr (.inr _)) => .inl (G.tL, 1, .inr (.inl fun i => (σ o i).toInt64))
def jwd (G : jG) (σ : jMem) : va_W := (List.range jN).map fun o => (G.ad o, jcell G σ o)
def ju (σ : jMem) (o k : Nat) (v : Int32) : jMem := fun a => if a = o then upd (σ o) k v else σ a
theorem jwd_get {G : jG} {σ : jMem} {o : Nat} (h : o < jN) : (jwd G σ)[o]? = some (G.ad o, jcell G σ o) := by
  simp [jwd, h]
theorem jwd_set {G : jG} {σ τ : jMem} {o : Nat} {e : va_E} (h : o < jN) (he : jcell G τ o = e) (ho : ∀ a, a ≠ o → jcell G τ a = jcell G σ a) : (jwd G σ).set o (G.ad o, e) = jwd G τ := by
  apply List.ext_getElem?
  intro i
  by_cases hi : i = o
  · subst hi
    rw [jwd_get h, he, List.getElem?_set_self (by simp [jwd]; exact h)]
  · rw [List.getElem?_set_ne (fun q => hi q.symm)]
    by_cases hl : i < jN
    · rw [jwd_get hl, jwd_get hl, ho i hi]
    · rw [List.getElem?_eq_none (by simp [jwd]; omega), List.getElem?_eq_none (by simp [jwd]; omega)]
theorem ju_o {σ : jMem} {o k : Nat} {v : Int32} : ju σ o k v o = upd (σ o) k v := if_pos rfl
theorem ju_n {σ : jMem} {o k a : Nat} {v : Int32} (h : a ≠ o) : ju σ o k v a = σ a := if_neg h
theorem jcell_n {G : jG} {σ : jMem} {o k a : Nat} {v : Int32} (h : a ≠ o) : jcell G (ju σ o k v) a = jcell G σ a := by
  unfold jcell
  rw [ju_n h]
theorem jcell_i {G : jG} {σ : jMem} {o n : Nat} (h : jshp o = .inr (.inl n)) : jcell G σ o = .inl (G.tI, n, .inl (σ o)) := by
  unfold jcell; rw [h]
theorem jcell_f {G : jG} {σ : jMem} {o ci : Nat} {fs : List (Option Nat)} (h : jshp o = .inl (ci, fs)) : jcell G σ o = .inr (ci, fs.zipIdx.map (jfld G.ad (σ o))) := by
  unfold jcell; rw [h]
theorem jcell_p {G : jG} {σ : jMem} {o : Nat} {rs : List Nat} (h : jshp o = .inr (.inr (.inl rs))) : jcell G σ o = .inl (G.tP, rs.length, .inr (.inr (.inr (.inr fun i => (rs[i]?).map G.ad)))) := by
  unfold jcell; rw [h]
theorem jcell_l {G : jG} {σ : jMem} {o : Nat} {u : Unit} (h : jshp o = .inr (.inr (.inr u))) : jcell G σ o = .inl (G.tL, 1, .inr (.inl fun i => (σ o i).toInt64)) := by
  unfold jcell; rw [h]
/-- a field of ints is written -/
theorem jwd_put {G : jG} {σ : jMem} {o ci k : Nat} {fs : List (Option Nat)} {v : Int32} (ho : o < jN) (h : jshp o = .inl (ci, fs)) (hk : fs[k]? = some none) : (jwd G σ).set o (G.ad o, .inr (ci, (fs.zipIdx.map (jfld G.ad (σ o))).set k (.int v))) = jwd G (ju σ o k v) := by
  refine jwd_set ho ?_ (fun a ha => jcell_n ha)
  rw [jcell_f h, ju_o]
  congr 2
  apply List.ext_getElem?
  intro i
  by_cases hi : i = k
  · subst hi
    have hl : i < fs.length := (List.getElem?_eq_some_iff.mp hk).1
    have hz : fs.zipIdx[i]? = some (none, i) := by rw [List.getElem?_zipIdx, hk]; simp
    rw [List.getElem?_set_self (by simp; exact hl), List.getElem?_map, hz]
    simp [jfld, upd]
  · rw [List.getElem?_set_ne (fun q => hi q.symm), List.getElem?_map, List.getElem?_map]
    cases hz : fs.zipIdx[i]? with
    | none => rfl
    | some q =>
      have hq : q.2 = i := by
        rw [List.getElem?_zipIdx] at hz
        cases hf : fs[i]? with
        | none => rw [hf] at hz; cases hz
        | some z => rw [hf] at hz; simp at hz; rw [← hz]
      obtain ⟨q1, q2⟩ := q
      cases q1 with
      | none => simp [jfld, upd]; intro hh; exact absurd (hq.symm.trans hh) hi
      | some r => simp [jfld]
theorem jwd_lst {G : jG} {σ : jMem} {o k : Nat} {u : Unit} {v : Int32} (ho : o < jN) (h : jshp o = .inr (.inr (.inr u))) : (jwd G σ).set o (G.ad o, .inl (G.tL, 1, .inr (.inl (vp_updL (fun i => (σ o i).toInt64) k v.toInt64)))) = jwd G (ju σ o k v) := by
  refine jwd_set ho ?_ (fun a ha => jcell_n ha)
  rw [jcell_l h, ju_o]
  congr 5
  funext j
  simp only [upd, vp_updL]
  split <;> rfl
theorem jwd_ast {G : jG} {σ : jMem} {o n k : Nat} {v : Int32} (ho : o < jN) (h : jshp o = .inr (.inl n)) : (jwd G σ).set o (G.ad o, .inl (G.tI, n, .inl (upd (σ o) k v))) = jwd G (ju σ o k v) := by
  refine jwd_set ho ?_ (fun a ha => jcell_n ha)
  rw [jcell_i h, ju_o]

