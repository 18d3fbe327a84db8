/-! partial functions: checks and calls; loops; objects of the arrays of pictures -/
def jfu : Nat := 20000
def jck {β : Type} (c : Prop) [Decidable c] (x : Option β) : Option β := if c then x else none
theorem jck_some {β : Type} {c : Prop} [Decidable c] {x : Option β} {r : β} (h : jck c x = some r) : c ∧ x = some r := by
  unfold jck at h
  by_cases hc : c
  · rw [if_pos hc] at h; exact ⟨hc, h⟩
  · rw [if_neg hc] at h; cases h
theorem jck_pos {β : Type} {c : Prop} [Decidable c] {x : Option β} (h : c) : jck c x = x := if_pos h
def jbd {α β : Type} (x : Option (α × jMem)) (f : α → jMem → Option β) : Option β := match x with
  | some (a, m) => f a m
  | none => none
theorem jbd_some {α β : Type} {x : Option (α × jMem)} {f : α → jMem → Option β} {r : β} (h : jbd x f = some r) : ∃ a m, x = some (a, m) ∧ f a m = some r := by
  cases x with
  | none => cases h
  | some q => exact ⟨q.1, q.2, rfl, h⟩
theorem jbd_eq {α β : Type} {x : Option (α × jMem)} {f : α → jMem → Option β} {a : α} {m : jMem} (h : x = some (a, m)) : jbd x f = f a m := by
  rw [h]; rfl
theorem jv_sub {G : jG} {M : jM} {R : Room} {Q : jO → jMem → Prop} {k n pc : Nat} {ls ls1 : List (Nat × Value)} {st : List Value} {σ : jMem} (ps : List Nat) (h : ps.filterMap (fun i => ls[i]?) = ls1) (kk : jV G M R Q k n pc ls1 st σ) : jV G M R Q k n pc ls st σ := by
  intro p e s m args below meth c A H locs L F hP hD hS hl
  refine kk p e s m args below meth c A H locs L F hP hD hS (hl.mono9 ?_)
  intro q hq
  obtain ⟨z, hz, rfl⟩ := List.mem_map.mp hq
  rw [← h] at hz
  obtain ⟨i, -, hi⟩ := List.mem_filterMap.mp hz
  exact List.mem_map.mpr ⟨z, List.mem_of_getElem? hi, rfl⟩
theorem jlt {i : Int32} {N : Nat} (h : vp_in i N) : i.toNatClampNeg < N := Nat.not_le.mp fun q => h (Or.inr q)
theorem jbo {i : Int32} (h : vp_in i 4) : ([14, 16, 18, 20] : List Nat)[i.toNatClampNeg]? = some (14 + 2 * i.toNatClampNeg) := by
  have h := jlt h
  generalize i.toNatClampNeg = j at h ⊢
  match j, h with
  | 0, _ => rfl
  | 1, _ => rfl
  | 2, _ => rfl
  | 3, _ => rfl
theorem jsy {i : Int32} (h : vp_in i 8) : ([22, 24, 26, 28, 30, 32, 34, 36] : List Nat)[i.toNatClampNeg]? = some (14 + 2 * (4 + i.toNatClampNeg)) := by
  have h := jlt h
  generalize i.toNatClampNeg = j at h ⊢
  match j, h with
  | 0, _ => rfl
  | 1, _ => rfl
  | 2, _ => rfl
  | 3, _ => rfl
  | 4, _ => rfl
  | 5, _ => rfl
  | 6, _ => rfl
  | 7, _ => rfl
theorem jbo12 {i : Int32} (h : vp_in i 4) : i.toNatClampNeg < 12 := by have := jlt h; omega
theorem jsy12 {i : Int32} (h : vp_in i 8) : 4 + i.toNatClampNeg < 12 := by have := jlt h; omega
