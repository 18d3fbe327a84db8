/-! the memory at the start -/
def jm0 : jMem := fun o => if 14 ≤ o ∧ o < 38 ∧ o % 2 = 0 then (fun k => if k = 1 ∨ k = 2 then 1 else 0) else (if o = 40 ∨ o = 41 then (fun k => if k < 4 then 1 else 0) else fun _ => 0)
theorem jm0_z {o : Nat} (h1 : ¬ (14 ≤ o ∧ o < 38 ∧ o % 2 = 0)) (h2 : ¬ (o = 40 ∨ o = 41)) (k : Nat) : jm0 o k = 0 := by
  unfold jm0
  rw [if_neg h1, if_neg h2]
theorem gl0 : jGl 0 0 0 jm0 jm0 := by
  have z : ∀ k, jm0 38 k = 0 := fun k => jm0_z (by omega) (by omega) k
  refine ⟨⟨by decide, rfl, rfl⟩, ⟨by decide, rfl, rfl⟩, ⟨by decide, rfl, rfl⟩, ⟨0, by decide, rfl, rfl, fun i _ => rfl⟩, ⟨fun q => absurd q (by decide), fun q => absurd q (by decide)⟩, ?_, fun k _ => ⟨0, by decide, rfl⟩, fun k hk => absurd hk (by omega)⟩
  intro p hp
  have hp : p < 4 := by omega
  refine ⟨1, 1, ⟨by decide, by decide, by decide, by decide, ?_, ?_, ?_⟩, ?_, ?_, ?_⟩
  · show jm0 40 p = 1
    unfold jm0
    rw [if_neg (by omega), if_pos (by omega), if_pos hp]
  · show jm0 41 p = 1
    unfold jm0
    rw [if_neg (by omega), if_pos (by omega), if_pos hp]
  · intro y hy i hi
    rw [jm0_z (by omega) (by omega), b_0] at hi
    cases hi
  · unfold jm0
    rw [if_pos (by omega), if_pos (by omega)]
    rfl
  · unfold jm0
    rw [if_pos (by omega), if_pos (by omega)]
    rfl
  · intro y hy i hi
    rw [jm0_z (by omega) (by omega), jm0_z (by omega) (by omega), b_0, b_0]
    simp
theorem law_all {xs : Nat → Int32} {L : Nat} (hL : L ≤ 3072) : ∃ τ, f_LW_law_L23 xs L 513 0 jm0 = some (1, τ) := law_go hL 513 0 jm0 (by omega) (by omega) ⟨0, 0, 0, gl0⟩
