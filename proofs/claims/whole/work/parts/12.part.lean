/-! partial functions: checks and calls; loops; objects of the arrays of pictures -/
theorem jv_sub {G : jG} {M : jM} {R : Room} {Q : jO → jMem → Prop} {k n pc : Nat} {ls ls1 : List (Nat × Value)} {st : List Value} {σ : jMem} (ps : List Nat) (h : ps.filterMap (fun i => ls[i]?) = ls1) (kk : jV G M R Q k n pc ls1 st σ) : jV G M R Q k n pc ls st σ := by
  intro p e s m args below meth c A H locs L F hP hD hS hl
  refine kk p e s m args below meth c A H locs L F hP hD hS (hl.mono9 ?_)
  intro q hq
  obtain ⟨z, hz, rfl⟩ := List.mem_map.mp hq
  rw [← h] at hz
  obtain ⟨i, -, hi⟩ := List.mem_filterMap.mp hz
  exact List.mem_map.mpr ⟨z, List.mem_of_getElem? hi, rfl⟩
theorem jlt {i : Int32} {N : Nat} (h : vp_in i N) : i.toNatClampNeg < N := Nat.not_le.mp fun q => h (Or.inr q)
theorem jbo {i : Int32} (h : vp_in i 4) : ([14, 16, 18, 20] : List Nat)[i.toNatClampNeg]? = some (14 + 2 * i.toNatClampNeg) := by
  have h := jlt h
  generalize i.toNatClampNeg = j at h ⊢
  match j, h with
  | 0, _ => rfl
  | 1, _ => rfl
  | 2, _ => rfl
  | 3, _ => rfl
theorem jsy {i : Int32} (h : vp_in i 8) : ([22, 24, 26, 28, 30, 32, 34, 36] : List Nat)[i.toNatClampNeg]? = some (14 + 2 * (4 + i.toNatClampNeg)) := by
  have h := jlt h
  generalize i.toNatClampNeg = j at h ⊢
  match j, h with
  | 0, _ => rfl
  | 1, _ => rfl
  | 2, _ => rfl
  | 3, _ => rfl
  | 4, _ => rfl
  | 5, _ => rfl
  | 6, _ => rfl
  | 7, _ => rfl
theorem jbo12 {i : Int32} (h : vp_in i 4) : i.toNatClampNeg < 12 := by have := jlt h; omega
theorem jsy12 {i : Int32} (h : vp_in i 8) : 4 + i.toNatClampNeg < 12 := by have := jlt h; omega
