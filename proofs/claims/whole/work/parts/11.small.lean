/-! small methods: their functions and contracts, by program -/
theorem jnb {v : Int32} (h : v = 0 ∨ v = 1) : narrow .boolean (.int v) = .int v := by
  rcases h with rfl | rfl <;> rfl
theorem jfb {v : Int32} (h : v = 0 ∨ v = 1) : fits .boolean (.int v) = true := by
  rcases h with rfl | rfl <;> rfl
set_option maxRecDepth 20000 in
set_option maxHeartbeats 2000000 in
theorem sp_IC_within {G : jG} {σ : jMem} (x0 x1 x2 : Int32) : jSp G M_IC_within (jr 0 0 0) [.int x0, .int x1, .int x2] σ (jI fun r τ => r = f_IC_within x0 x1 x2 σ ∧ τ = σ) := by
  refine jSp.of rfl rfl (Nat.le_of_ble_eq_true rfl) ?_
  show jV _ _ _ _ 0 0 0 [(0, .int x0), (1, .int x1), (2, .int x2)] [] σ
  refine jv_iload_n 0 (pc := 0) d_IC_within_0 rfl ?_
  refine jv_iload_n 1 (pc := 1) d_IC_within_1 rfl ?_
  refine jv_icmp_lt 14 (pc := 2) d_IC_within_2 rfl (fun h2 => ?_) (fun h2 => ?_)
  · skip
    refine jv_iconst 0 (pc := 14) d_IC_within_14 rfl ?_
    refine jv_iret (pc := 15) d_IC_within_15 rfl ?_ (by decide) (by decide) ?_
    · rfl
    have h2 : x0 < x1 := h2
    refine jI.of ?_
    unfold f_IC_within
    rw [if_pos h2]
    exact ⟨rfl, rfl⟩
  · skip
    refine jv_iload_n 0 (pc := 5) d_IC_within_5 rfl ?_
    refine jv_iload_n 2 (pc := 6) d_IC_within_6 rfl ?_
    refine jv_icmp_gt 14 (pc := 7) d_IC_within_7 rfl (fun h7 => ?_) (fun h7 => ?_)
    · skip
      refine jv_iconst 0 (pc := 14) d_IC_within_14 rfl ?_
      refine jv_iret (pc := 15) d_IC_within_15 rfl ?_ (by decide) (by decide) ?_
      · rfl
      have h2 : ¬ (x0 < x1) := h2
      have h7 : x2 < x0 := h7
      refine jI.of ?_
      unfold f_IC_within
      rw [if_neg h2, if_pos h7]
      exact ⟨rfl, rfl⟩
    · skip
      refine jv_iconst 1 (pc := 10) d_IC_within_10 rfl ?_
      refine jv_goto 15 (pc := 11) d_IC_within_11 rfl ?_
      refine jv_iret (pc := 15) d_IC_within_15 rfl ?_ (by decide) (by decide) ?_
      · rfl
      have h2 : ¬ (x0 < x1) := h2
      have h7 : ¬ (x2 < x0) := h7
      refine jI.of ?_
      unfold f_IC_within
      rw [if_neg h2, if_neg h7]
      exact ⟨rfl, rfl⟩
theorem fb_IC_within (x0 x1 x2 : Int32) (σ : jMem) : f_IC_within x0 x1 x2 σ = 0 ∨ f_IC_within x0 x1 x2 σ = 1 := by
  unfold f_IC_within
  repeat' split
  all_goals first | exact Or.inl rfl | exact Or.inr rfl
set_option maxRecDepth 20000 in
set_option maxHeartbeats 2000000 in
theorem sp_IC_isBoard {G : jG} {σ : jMem} (x0 : Int32) : jSp G M_IC_isBoard (jr 1 0 0) [.int x0] σ (jI fun r τ => r = f_IC_isBoard x0 σ ∧ τ = σ) := by
  refine jSp.of rfl rfl (Nat.le_of_ble_eq_true rfl) ?_
  show jV _ _ _ _ 0 0 0 [(0, .int x0)] [] σ
  refine jv_iload_n 0 (pc := 0) d_IC_isBoard_0 rfl ?_
  refine jv_iconst 0 (pc := 1) d_IC_isBoard_1 rfl ?_
  refine jv_iconst 3 (pc := 2) d_IC_isBoard_2 rfl ?_
  refine jv_callSi (sp_IC_within x0 (0 : Int32) (3 : Int32)) (pc := 3) d_IC_isBoard_3 c0_IC_within lk_IC_97 si_IC_within rfl (Nat.le_of_ble_eq_true rfl) ⟨by decide, by decide, by decide, by decide⟩ (fun r3 m3 h3 => ?_)
  obtain ⟨ha3, hb3⟩ := h3
  subst ha3
  have hb3 := hb3.symm
  subst hb3
  refine jv_iret (pc := 6) d_IC_isBoard_6 rfl ?_ (by decide) (by decide) ?_
  · first | rfl | exact jnb (fb_IC_within ..)
  refine jI.of ?_
  unfold f_IC_isBoard
  exact ⟨rfl, rfl⟩
theorem fb_IC_isBoard (x0 : Int32) (σ : jMem) : f_IC_isBoard x0 σ = 0 ∨ f_IC_isBoard x0 σ = 1 := by
  unfold f_IC_isBoard
  repeat' split
  all_goals first | exact Or.inl rfl | exact Or.inr rfl | exact fb_IC_within ..
set_option maxRecDepth 20000 in
set_option maxHeartbeats 2000000 in
theorem sp_IC_isSide {G : jG} {σ : jMem} (x0 : Int32) : jSp G M_IC_isSide (jr 1 0 0) [.int x0] σ (jI fun r τ => r = f_IC_isSide x0 σ ∧ τ = σ) := by
  refine jSp.of rfl rfl (Nat.le_of_ble_eq_true rfl) ?_
  show jV _ _ _ _ 0 0 0 [(0, .int x0)] [] σ
  refine jv_iload_n 0 (pc := 0) d_IC_isSide_0 rfl ?_
  refine jv_iconst 1 (pc := 1) d_IC_isSide_1 rfl ?_
  refine jv_bipush (24) (pc := 2) d_IC_isSide_2 rfl ?_
  refine jv_callSi (sp_IC_within x0 (1 : Int32) (24 : Int32)) (pc := 4) d_IC_isSide_4 c0_IC_within lk_IC_97 si_IC_within rfl (Nat.le_of_ble_eq_true rfl) ⟨by decide, by decide, by decide, by decide⟩ (fun r4 m4 h4 => ?_)
  obtain ⟨ha4, hb4⟩ := h4
  subst ha4
  have hb4 := hb4.symm
  subst hb4
  refine jv_iret (pc := 7) d_IC_isSide_7 rfl ?_ (by decide) (by decide) ?_
  · first | rfl | exact jnb (fb_IC_within ..)
  refine jI.of ?_
  unfold f_IC_isSide
  exact ⟨rfl, rfl⟩
theorem fb_IC_isSide (x0 : Int32) (σ : jMem) : f_IC_isSide x0 σ = 0 ∨ f_IC_isSide x0 σ = 1 := by
  unfold f_IC_isSide
  repeat' split
  all_goals first | exact Or.inl rfl | exact Or.inr rfl | exact fb_IC_within ..
set_option maxRecDepth 20000 in
set_option maxHeartbeats 2000000 in
theorem sp_IC_isPlace {G : jG} {σ : jMem} (x0 : Int32) : jSp G M_IC_isPlace (jr 1 0 0) [.int x0] σ (jI fun r τ => r = f_IC_isPlace x0 σ ∧ τ = σ) := by
  refine jSp.of rfl rfl (Nat.le_of_ble_eq_true rfl) ?_
  show jV _ _ _ _ 0 0 0 [(0, .int x0)] [] σ
  refine jv_iload_n 0 (pc := 0) d_IC_isPlace_0 rfl ?_
  refine jv_bipush (-100) (pc := 1) d_IC_isPlace_1 rfl ?_
  refine jv_bipush (100) (pc := 3) d_IC_isPlace_3 rfl ?_
  refine jv_callSi (sp_IC_within x0 (-100 : Int32) (100 : Int32)) (pc := 5) d_IC_isPlace_5 c0_IC_within lk_IC_97 si_IC_within rfl (Nat.le_of_ble_eq_true rfl) ⟨by decide, by decide, by decide, by decide⟩ (fun r5 m5 h5 => ?_)
  obtain ⟨ha5, hb5⟩ := h5
  subst ha5
  have hb5 := hb5.symm
  subst hb5
  refine jv_iret (pc := 8) d_IC_isPlace_8 rfl ?_ (by decide) (by decide) ?_
  · first | rfl | exact jnb (fb_IC_within ..)
  refine jI.of ?_
  unfold f_IC_isPlace
  exact ⟨rfl, rfl⟩
theorem fb_IC_isPlace (x0 : Int32) (σ : jMem) : f_IC_isPlace x0 σ = 0 ∨ f_IC_isPlace x0 σ = 1 := by
  unfold f_IC_isPlace
  repeat' split
  all_goals first | exact Or.inl rfl | exact Or.inr rfl | exact fb_IC_within ..
set_option maxRecDepth 20000 in
set_option maxHeartbeats 2000000 in
theorem sp_IC_isShift {G : jG} {σ : jMem} (x0 : Int32) : jSp G M_IC_isShift (jr 1 0 0) [.int x0] σ (jI fun r τ => r = f_IC_isShift x0 σ ∧ τ = σ) := by
  refine jSp.of rfl rfl (Nat.le_of_ble_eq_true rfl) ?_
  show jV _ _ _ _ 0 0 0 [(0, .int x0)] [] σ
  refine jv_iload_n 0 (pc := 0) d_IC_isShift_0 rfl ?_
  refine jv_bipush (-24) (pc := 1) d_IC_isShift_1 rfl ?_
  refine jv_bipush (24) (pc := 3) d_IC_isShift_3 rfl ?_
  refine jv_callSi (sp_IC_within x0 (-24 : Int32) (24 : Int32)) (pc := 5) d_IC_isShift_5 c0_IC_within lk_IC_97 si_IC_within rfl (Nat.le_of_ble_eq_true rfl) ⟨by decide, by decide, by decide, by decide⟩ (fun r5 m5 h5 => ?_)
  obtain ⟨ha5, hb5⟩ := h5
  subst ha5
  have hb5 := hb5.symm
  subst hb5
  refine jv_iret (pc := 8) d_IC_isShift_8 rfl ?_ (by decide) (by decide) ?_
  · first | rfl | exact jnb (fb_IC_within ..)
  refine jI.of ?_
  unfold f_IC_isShift
  exact ⟨rfl, rfl⟩
theorem fb_IC_isShift (x0 : Int32) (σ : jMem) : f_IC_isShift x0 σ = 0 ∨ f_IC_isShift x0 σ = 1 := by
  unfold f_IC_isShift
  repeat' split
  all_goals first | exact Or.inl rfl | exact Or.inr rfl | exact fb_IC_within ..
set_option maxRecDepth 20000 in
set_option maxHeartbeats 2000000 in
theorem sp_IC_isRight {G : jG} {σ : jMem} (x0 : Int32) : jSp G M_IC_isRight (jr 0 0 0) [.int x0] σ (jI fun r τ => r = f_IC_isRight x0 σ ∧ τ = σ) := by
  refine jSp.of rfl rfl (Nat.le_of_ble_eq_true rfl) ?_
  show jV _ _ _ _ 0 0 0 [(0, .int x0)] [] σ
  refine jv_iload_n 0 (pc := 0) d_IC_isRight_0 rfl ?_
  refine jv_iconst 2 (pc := 1) d_IC_isRight_1 rfl ?_
  refine jv_icmp_lt 9 (pc := 2) d_IC_isRight_2 rfl (fun h2 => ?_) (fun h2 => ?_)
  · skip
    refine jv_iconst 0 (pc := 9) d_IC_isRight_9 rfl ?_
    refine jv_iret (pc := 10) d_IC_isRight_10 rfl ?_ (by decide) (by decide) ?_
    · rfl
    have h2 : x0 < (2 : Int32) := h2
    refine jI.of ?_
    unfold f_IC_isRight
    rw [if_pos h2]
    exact ⟨rfl, rfl⟩
  · skip
    refine jv_iconst 1 (pc := 5) d_IC_isRight_5 rfl ?_
    refine jv_goto 10 (pc := 6) d_IC_isRight_6 rfl ?_
    refine jv_iret (pc := 10) d_IC_isRight_10 rfl ?_ (by decide) (by decide) ?_
    · rfl
    have h2 : ¬ (x0 < (2 : Int32)) := h2
    refine jI.of ?_
    unfold f_IC_isRight
    rw [if_neg h2]
    exact ⟨rfl, rfl⟩
theorem fb_IC_isRight (x0 : Int32) (σ : jMem) : f_IC_isRight x0 σ = 0 ∨ f_IC_isRight x0 σ = 1 := by
  unfold f_IC_isRight
  repeat' split
  all_goals first | exact Or.inl rfl | exact Or.inr rfl
set_option maxRecDepth 20000 in
set_option maxHeartbeats 2000000 in
theorem sp_IC_isLower {G : jG} {σ : jMem} (x0 : Int32) : jSp G M_IC_isLower (jr 0 0 0) [.int x0] σ (jI fun r τ => r = f_IC_isLower x0 σ ∧ τ = σ) := by
  refine jSp.of rfl rfl (Nat.le_of_ble_eq_true rfl) ?_
  show jV _ _ _ _ 0 0 0 [(0, .int x0)] [] σ
  refine jv_iload_n 0 (pc := 0) d_IC_isLower_0 rfl ?_
  refine jv_if_eq 9 (pc := 1) d_IC_isLower_1 rfl (fun h1 => ?_) (fun h1 => ?_)
  · skip
    refine jv_iconst 1 (pc := 9) d_IC_isLower_9 rfl ?_
    refine jv_goto 14 (pc := 10) d_IC_isLower_10 rfl ?_
    refine jv_iret (pc := 14) d_IC_isLower_14 rfl ?_ (by decide) (by decide) ?_
    · rfl
    have h1 : x0 = 0 := h1
    refine jI.of ?_
    unfold f_IC_isLower
    rw [if_pos h1]
    exact ⟨rfl, rfl⟩
  · skip
    refine jv_iload_n 0 (pc := 4) d_IC_isLower_4 rfl ?_
    refine jv_iconst 2 (pc := 5) d_IC_isLower_5 rfl ?_
    refine jv_icmp_ne 13 (pc := 6) d_IC_isLower_6 rfl (fun h6 => ?_) (fun h6 => ?_)
    · skip
      refine jv_iconst 0 (pc := 13) d_IC_isLower_13 rfl ?_
      refine jv_iret (pc := 14) d_IC_isLower_14 rfl ?_ (by decide) (by decide) ?_
      · rfl
      have h1 : ¬ (x0 = 0) := h1
      have h6 : ¬ (x0 = (2 : Int32)) := h6
      refine jI.of ?_
      unfold f_IC_isLower
      rw [if_neg h1, if_neg h6]
      exact ⟨rfl, rfl⟩
    · skip
      refine jv_iconst 1 (pc := 9) d_IC_isLower_9 rfl ?_
      refine jv_goto 14 (pc := 10) d_IC_isLower_10 rfl ?_
      refine jv_iret (pc := 14) d_IC_isLower_14 rfl ?_ (by decide) (by decide) ?_
      · rfl
      have h1 : ¬ (x0 = 0) := h1
      have h6 : x0 = (2 : Int32) := h6
      refine jI.of ?_
      unfold f_IC_isLower
      rw [if_neg h1, if_pos h6]
      exact ⟨rfl, rfl⟩
theorem fb_IC_isLower (x0 : Int32) (σ : jMem) : f_IC_isLower x0 σ = 0 ∨ f_IC_isLower x0 σ = 1 := by
  unfold f_IC_isLower
  repeat' split
  all_goals first | exact Or.inl rfl | exact Or.inr rfl
set_option maxRecDepth 20000 in
set_option maxHeartbeats 2000000 in
theorem sp_IC_isSymbol {G : jG} {σ : jMem} (x1 : Int32) : jSp G M_IC_isSymbol (jr 1 0 0) [.ref 0, .int x1] σ (jI fun r τ => r = f_IC_isSymbol x1 σ ∧ τ = σ) := by
  refine jSp.of rfl rfl (Nat.le_of_ble_eq_true rfl) ?_
  show jV _ _ _ _ 0 0 0 [(0, .ref 0), (1, .int x1)] [] σ
  refine jv_iload_n 1 (pc := 0) d_IC_isSymbol_0 rfl ?_
  refine jv_iconst 0 (pc := 1) d_IC_isSymbol_1 rfl ?_
  refine jv_aload_n 0 (pc := 2) d_IC_isSymbol_2 rfl ?_
  refine jv_getr (pc := 3) d_IC_isSymbol_3 fa_IC_19_IC (by decide) rfl rfl ?_
  refine jv_geti (pc := 6) d_IC_isSymbol_6 fa_IC_166_SR (by decide) rfl rfl ?_
  refine jv_iconst 1 (pc := 9) d_IC_isSymbol_9 rfl ?_
  refine jv_isub (pc := 10) d_IC_isSymbol_10 ?_
  refine jv_callSi (sp_IC_within x1 (0 : Int32) ((σ 2 1) - (1 : Int32))) (pc := 11) d_IC_isSymbol_11 c0_IC_within lk_IC_97 si_IC_within rfl (Nat.le_of_ble_eq_true rfl) ⟨by decide, by decide, by decide, by decide⟩ (fun r11 m11 h11 => ?_)
  obtain ⟨ha11, hb11⟩ := h11
  subst ha11
  have hb11 := hb11.symm
  subst hb11
  refine jv_iret (pc := 14) d_IC_isSymbol_14 rfl ?_ (by decide) (by decide) ?_
  · first | rfl | exact jnb (fb_IC_within ..)
  refine jI.of ?_
  unfold f_IC_isSymbol
  exact ⟨rfl, rfl⟩
theorem fb_IC_isSymbol (x1 : Int32) (σ : jMem) : f_IC_isSymbol x1 σ = 0 ∨ f_IC_isSymbol x1 σ = 1 := by
  unfold f_IC_isSymbol
  repeat' split
  all_goals first | exact Or.inl rfl | exact Or.inr rfl | exact fb_IC_within ..
set_option maxRecDepth 20000 in
set_option maxHeartbeats 2000000 in
theorem sp_MO_isBoard {G : jG} {σ : jMem} (x0 : Int32) : jSp G M_MO_isBoard (jr 0 0 0) [.int x0] σ (jI fun r τ => r = f_MO_isBoard x0 σ ∧ τ = σ) := by
  refine jSp.of rfl rfl (Nat.le_of_ble_eq_true rfl) ?_
  show jV _ _ _ _ 0 0 0 [(0, .int x0)] [] σ
  refine jv_iload_n 0 (pc := 0) d_MO_isBoard_0 rfl ?_
  refine jv_if_lt 13 (pc := 1) d_MO_isBoard_1 rfl (fun h1 => ?_) (fun h1 => ?_)
  · skip
    refine jv_iconst 0 (pc := 13) d_MO_isBoard_13 rfl ?_
    refine jv_iret (pc := 14) d_MO_isBoard_14 rfl ?_ (by decide) (by decide) ?_
    · rfl
    have h1 : x0 < 0 := h1
    refine jI.of ?_
    unfold f_MO_isBoard
    rw [if_pos h1]
    exact ⟨rfl, rfl⟩
  · skip
    refine jv_iload_n 0 (pc := 4) d_MO_isBoard_4 rfl ?_
    refine jv_iconst 4 (pc := 5) d_MO_isBoard_5 rfl ?_
    refine jv_icmp_ge 13 (pc := 6) d_MO_isBoard_6 rfl (fun h6 => ?_) (fun h6 => ?_)
    · skip
      refine jv_iconst 0 (pc := 13) d_MO_isBoard_13 rfl ?_
      refine jv_iret (pc := 14) d_MO_isBoard_14 rfl ?_ (by decide) (by decide) ?_
      · rfl
      have h1 : ¬ (x0 < 0) := h1
      have h6 : (4 : Int32) ≤ x0 := h6
      refine jI.of ?_
      unfold f_MO_isBoard
      rw [if_neg h1, if_pos h6]
      exact ⟨rfl, rfl⟩
    · skip
      refine jv_iconst 1 (pc := 9) d_MO_isBoard_9 rfl ?_
      refine jv_goto 14 (pc := 10) d_MO_isBoard_10 rfl ?_
      refine jv_iret (pc := 14) d_MO_isBoard_14 rfl ?_ (by decide) (by decide) ?_
      · rfl
      have h1 : ¬ (x0 < 0) := h1
      have h6 : ¬ ((4 : Int32) ≤ x0) := h6
      refine jI.of ?_
      unfold f_MO_isBoard
      rw [if_neg h1, if_neg h6]
      exact ⟨rfl, rfl⟩
theorem fb_MO_isBoard (x0 : Int32) (σ : jMem) : f_MO_isBoard x0 σ = 0 ∨ f_MO_isBoard x0 σ = 1 := by
  unfold f_MO_isBoard
  repeat' split
  all_goals first | exact Or.inl rfl | exact Or.inr rfl
set_option maxRecDepth 20000 in
set_option maxHeartbeats 2000000 in
theorem sp_MO_isFar {G : jG} {σ : jMem} (x0 : Int32) : jSp G M_MO_isFar (jr 0 0 0) [.int x0] σ (jI fun r τ => r = f_MO_isFar x0 σ ∧ τ = σ) := by
  refine jSp.of rfl rfl (Nat.le_of_ble_eq_true rfl) ?_
  show jV _ _ _ _ 0 0 0 [(0, .int x0)] [] σ
  refine jv_iload_n 0 (pc := 0) d_MO_isFar_0 rfl ?_
  refine jv_bipush (-100) (pc := 1) d_MO_isFar_1 rfl ?_
  refine jv_icmp_lt 12 (pc := 3) d_MO_isFar_3 rfl (fun h3 => ?_) (fun h3 => ?_)
  · skip
    refine jv_iconst 1 (pc := 12) d_MO_isFar_12 rfl ?_
    refine jv_goto 17 (pc := 13) d_MO_isFar_13 rfl ?_
    refine jv_iret (pc := 17) d_MO_isFar_17 rfl ?_ (by decide) (by decide) ?_
    · rfl
    have h3 : x0 < (-100 : Int32) := h3
    refine jI.of ?_
    unfold f_MO_isFar
    rw [if_pos h3]
    exact ⟨rfl, rfl⟩
  · skip
    refine jv_iload_n 0 (pc := 6) d_MO_isFar_6 rfl ?_
    refine jv_bipush (100) (pc := 7) d_MO_isFar_7 rfl ?_
    refine jv_icmp_le 16 (pc := 9) d_MO_isFar_9 rfl (fun h9 => ?_) (fun h9 => ?_)
    · skip
      refine jv_iconst 0 (pc := 16) d_MO_isFar_16 rfl ?_
      refine jv_iret (pc := 17) d_MO_isFar_17 rfl ?_ (by decide) (by decide) ?_
      · rfl
      have h3 : ¬ (x0 < (-100 : Int32)) := h3
      have h9 : x0 ≤ (100 : Int32) := h9
      refine jI.of ?_
      unfold f_MO_isFar
      rw [if_neg h3, if_pos h9]
      exact ⟨rfl, rfl⟩
    · skip
      refine jv_iconst 1 (pc := 12) d_MO_isFar_12 rfl ?_
      refine jv_goto 17 (pc := 13) d_MO_isFar_13 rfl ?_
      refine jv_iret (pc := 17) d_MO_isFar_17 rfl ?_ (by decide) (by decide) ?_
      · rfl
      have h3 : ¬ (x0 < (-100 : Int32)) := h3
      have h9 : ¬ (x0 ≤ (100 : Int32)) := h9
      refine jI.of ?_
      unfold f_MO_isFar
      rw [if_neg h3, if_neg h9]
      exact ⟨rfl, rfl⟩
theorem fb_MO_isFar (x0 : Int32) (σ : jMem) : f_MO_isFar x0 σ = 0 ∨ f_MO_isFar x0 σ = 1 := by
  unfold f_MO_isFar
  repeat' split
  all_goals first | exact Or.inl rfl | exact Or.inr rfl
set_option maxRecDepth 20000 in
set_option maxHeartbeats 2000000 in
theorem sp_MO_isLength {G : jG} {σ : jMem} (x0 : Int32) : jSp G M_MO_isLength (jr 0 0 0) [.int x0] σ (jI fun r τ => r = f_MO_isLength x0 σ ∧ τ = σ) := by
  refine jSp.of rfl rfl (Nat.le_of_ble_eq_true rfl) ?_
  show jV _ _ _ _ 0 0 0 [(0, .int x0)] [] σ
  refine jv_iload_n 0 (pc := 0) d_MO_isLength_0 rfl ?_
  refine jv_if_le 14 (pc := 1) d_MO_isLength_1 rfl (fun h1 => ?_) (fun h1 => ?_)
  · skip
    refine jv_iconst 0 (pc := 14) d_MO_isLength_14 rfl ?_
    refine jv_iret (pc := 15) d_MO_isLength_15 rfl ?_ (by decide) (by decide) ?_
    · rfl
    have h1 : x0 ≤ 0 := h1
    refine jI.of ?_
    unfold f_MO_isLength
    rw [if_pos h1]
    exact ⟨rfl, rfl⟩
  · skip
    refine jv_iload_n 0 (pc := 4) d_MO_isLength_4 rfl ?_
    refine jv_bipush (25) (pc := 5) d_MO_isLength_5 rfl ?_
    refine jv_icmp_ge 14 (pc := 7) d_MO_isLength_7 rfl (fun h7 => ?_) (fun h7 => ?_)
    · skip
      refine jv_iconst 0 (pc := 14) d_MO_isLength_14 rfl ?_
      refine jv_iret (pc := 15) d_MO_isLength_15 rfl ?_ (by decide) (by decide) ?_
      · rfl
      have h1 : ¬ (x0 ≤ 0) := h1
      have h7 : (25 : Int32) ≤ x0 := h7
      refine jI.of ?_
      unfold f_MO_isLength
      rw [if_neg h1, if_pos h7]
      exact ⟨rfl, rfl⟩
    · skip
      refine jv_iconst 1 (pc := 10) d_MO_isLength_10 rfl ?_
      refine jv_goto 15 (pc := 11) d_MO_isLength_11 rfl ?_
      refine jv_iret (pc := 15) d_MO_isLength_15 rfl ?_ (by decide) (by decide) ?_
      · rfl
      have h1 : ¬ (x0 ≤ 0) := h1
      have h7 : ¬ ((25 : Int32) ≤ x0) := h7
      refine jI.of ?_
      unfold f_MO_isLength
      rw [if_neg h1, if_neg h7]
      exact ⟨rfl, rfl⟩
theorem fb_MO_isLength (x0 : Int32) (σ : jMem) : f_MO_isLength x0 σ = 0 ∨ f_MO_isLength x0 σ = 1 := by
  unfold f_MO_isLength
  repeat' split
  all_goals first | exact Or.inl rfl | exact Or.inr rfl
set_option maxRecDepth 20000 in
set_option maxHeartbeats 2000000 in
theorem sp_MO_isSymbol {G : jG} {σ : jMem} (x1 : Int32) : jSp G M_MO_isSymbol (jr 0 0 0) [.ref 38, .int x1] σ (jI fun r τ => r = f_MO_isSymbol x1 σ ∧ τ = σ) := by
  refine jSp.of rfl rfl (Nat.le_of_ble_eq_true rfl) ?_
  show jV _ _ _ _ 0 0 0 [(0, .ref 38), (1, .int x1)] [] σ
  refine jv_iload_n 1 (pc := 0) d_MO_isSymbol_0 rfl ?_
  refine jv_if_lt 16 (pc := 1) d_MO_isSymbol_1 rfl (fun h1 => ?_) (fun h1 => ?_)
  · skip
    refine jv_iconst 0 (pc := 16) d_MO_isSymbol_16 rfl ?_
    refine jv_iret (pc := 17) d_MO_isSymbol_17 rfl ?_ (by decide) (by decide) ?_
    · rfl
    have h1 : x1 < 0 := h1
    refine jI.of ?_
    unfold f_MO_isSymbol
    rw [if_pos h1]
    exact ⟨rfl, rfl⟩
  · skip
    refine jv_iload_n 1 (pc := 4) d_MO_isSymbol_4 rfl ?_
    refine jv_aload_n 0 (pc := 5) d_MO_isSymbol_5 rfl ?_
    refine jv_geti (pc := 6) d_MO_isSymbol_6 fa_MO_232_MO (by decide) rfl rfl ?_
    refine jv_icmp_ge 16 (pc := 9) d_MO_isSymbol_9 rfl (fun h9 => ?_) (fun h9 => ?_)
    · skip
      refine jv_iconst 0 (pc := 16) d_MO_isSymbol_16 rfl ?_
      refine jv_iret (pc := 17) d_MO_isSymbol_17 rfl ?_ (by decide) (by decide) ?_
      · rfl
      have h1 : ¬ (x1 < 0) := h1
      have h9 : (σ 38 4) ≤ x1 := h9
      refine jI.of ?_
      unfold f_MO_isSymbol
      rw [if_neg h1, if_pos h9]
      exact ⟨rfl, rfl⟩
    · skip
      refine jv_iconst 1 (pc := 12) d_MO_isSymbol_12 rfl ?_
      refine jv_goto 17 (pc := 13) d_MO_isSymbol_13 rfl ?_
      refine jv_iret (pc := 17) d_MO_isSymbol_17 rfl ?_ (by decide) (by decide) ?_
      · rfl
      have h1 : ¬ (x1 < 0) := h1
      have h9 : ¬ ((σ 38 4) ≤ x1) := h9
      refine jI.of ?_
      unfold f_MO_isSymbol
      rw [if_neg h1, if_neg h9]
      exact ⟨rfl, rfl⟩
theorem fb_MO_isSymbol (x1 : Int32) (σ : jMem) : f_MO_isSymbol x1 σ = 0 ∨ f_MO_isSymbol x1 σ = 1 := by
  unfold f_MO_isSymbol
  repeat' split
  all_goals first | exact Or.inl rfl | exact Or.inr rfl
set_option maxRecDepth 20000 in
set_option maxHeartbeats 2000000 in
theorem sp_MO_thrown {G : jG} {σ : jMem} : jSp G M_MO_thrown (jr 0 0 0) [.ref 38] σ (jI fun r τ => r = f_MO_thrown σ ∧ τ = σ) := by
  refine jSp.of rfl rfl (Nat.le_of_ble_eq_true rfl) ?_
  show jV _ _ _ _ 0 0 0 [(0, .ref 38)] [] σ
  refine jv_aload_n 0 (pc := 0) d_MO_thrown_0 rfl ?_
  refine jv_geti (pc := 1) d_MO_thrown_1 fa_MO_34_MO (by decide) rfl rfl ?_
  refine jv_iret (pc := 4) d_MO_thrown_4 rfl ?_ (by decide) (by decide) ?_
  · rfl
  refine jI.of ?_
  unfold f_MO_thrown
  exact ⟨rfl, rfl⟩
set_option maxRecDepth 20000 in
set_option maxHeartbeats 2000000 in
theorem sp_MO_length {G : jG} {σ : jMem} : jSp G M_MO_length (jr 0 0 0) [.ref 38] σ (jI fun r τ => r = (f_MO_length σ).1 ∧ τ = (f_MO_length σ).2) := by
  refine jSp.of rfl rfl (Nat.le_of_ble_eq_true rfl) ?_
  show jV _ _ _ _ 0 0 0 [(0, .ref 38)] [] σ
  refine jv_aload_n 0 (pc := 0) d_MO_length_0 rfl ?_
  refine jv_iconst 0 (pc := 1) d_MO_length_1 rfl ?_
  refine jv_puti (pc := 2) d_MO_length_2 fa_MO_34_MO fp_MO_0 (by decide) rfl rfl (rfl) rfl ?_
  refine jv_aload_n 0 (pc := 5) d_MO_length_5 rfl ?_
  refine jv_geti (pc := 6) d_MO_length_6 fa_MO_71_MO (by decide) rfl rfl ?_
  refine jv_iret (pc := 9) d_MO_length_9 rfl ?_ (by decide) (by decide) ?_
  · rfl
  refine jI.of ?_
  unfold f_MO_length
  exact ⟨rfl, rfl⟩
set_option maxRecDepth 20000 in
set_option maxHeartbeats 2000000 in
theorem sp_MO_state {G : jG} {σ : jMem} : jSp G M_MO_state (jr 0 0 0) [.ref 38] σ (jI fun r τ => r = (f_MO_state σ).1 ∧ τ = (f_MO_state σ).2) := by
  refine jSp.of rfl rfl (Nat.le_of_ble_eq_true rfl) ?_
  show jV _ _ _ _ 0 0 0 [(0, .ref 38)] [] σ
  refine jv_aload_n 0 (pc := 0) d_MO_state_0 rfl ?_
  refine jv_iconst 0 (pc := 1) d_MO_state_1 rfl ?_
  refine jv_puti (pc := 2) d_MO_state_2 fa_MO_34_MO fp_MO_0 (by decide) rfl rfl (rfl) rfl ?_
  refine jv_aload_n 0 (pc := 5) d_MO_state_5 rfl ?_
  refine jv_geti (pc := 6) d_MO_state_6 fa_MO_68_MO (by decide) rfl rfl ?_
  refine jv_iret (pc := 9) d_MO_state_9 rfl ?_ (by decide) (by decide) ?_
  · rfl
  refine jI.of ?_
  unfold f_MO_state
  exact ⟨rfl, rfl⟩
set_option maxRecDepth 20000 in
set_option maxHeartbeats 2000000 in
theorem sp_MO_forget {G : jG} {σ : jMem} : jSp G M_MO_forget (jr 0 0 0) [.ref 38] σ (jU fun τ => τ = f_MO_forget σ) := by
  refine jSp.of rfl rfl (Nat.le_of_ble_eq_true rfl) ?_
  show jV _ _ _ _ 0 0 0 [(0, .ref 38)] [] σ
  refine jv_aload_n 0 (pc := 0) d_MO_forget_0 rfl ?_
  refine jv_iconst 0 (pc := 1) d_MO_forget_1 rfl ?_
  refine jv_puti (pc := 2) d_MO_forget_2 fa_MO_34_MO fp_MO_0 (by decide) rfl rfl (rfl) rfl ?_
  refine jv_aload_n 0 (pc := 5) d_MO_forget_5 rfl ?_
  refine jv_iconst 0 (pc := 6) d_MO_forget_6 rfl ?_
  refine jv_puti (pc := 7) d_MO_forget_7 fa_MO_232_MO fp_MO_4 (by decide) rfl rfl (rfl) rfl ?_
  refine jv_aload_n 0 (pc := 10) d_MO_forget_10 rfl ?_
  refine jv_iconst 0 (pc := 11) d_MO_forget_11 rfl ?_
  refine jv_puti (pc := 12) d_MO_forget_12 fa_MO_235_MO fp_MO_5 (by decide) rfl rfl (rfl) rfl ?_
  refine jv_vret (pc := 15) d_MO_forget_15 rfl (by decide) (by decide) ?_
  refine jU.of ?_
  unfold f_MO_forget
  exact rfl
set_option maxRecDepth 20000 in
set_option maxHeartbeats 2000000 in
theorem sp_MO_classOf {G : jG} {σ : jMem} (x0 : Int32) : jSp G M_MO_classOf (jr 0 0 0) [.int x0] σ (jI fun r τ => r = f_MO_classOf x0 σ ∧ τ = σ) := by
  refine jSp.of rfl rfl (Nat.le_of_ble_eq_true rfl) ?_
  show jV _ _ _ _ 0 0 0 [(0, .int x0)] [] σ
  refine jv_iload_n 0 (pc := 0) d_MO_classOf_0 rfl ?_
  refine jv_iconst 4 (pc := 1) d_MO_classOf_1 rfl ?_
  refine jv_icmp_ge 9 (pc := 2) d_MO_classOf_2 rfl (fun h2 => ?_) (fun h2 => ?_)
  · skip
    refine jv_iload_n 0 (pc := 9) d_MO_classOf_9 rfl ?_
    refine jv_bipush (20) (pc := 10) d_MO_classOf_10 rfl ?_
    refine jv_icmp_ge 19 (pc := 12) d_MO_classOf_12 rfl (fun h12 => ?_) (fun h12 => ?_)
    · skip
      refine jv_iload_n 0 (pc := 19) d_MO_classOf_19 rfl ?_
      refine jv_bipush (84) (pc := 20) d_MO_classOf_20 rfl ?_
      refine jv_icmp_ge 29 (pc := 22) d_MO_classOf_22 rfl (fun h22 => ?_) (fun h22 => ?_)
      · skip
        refine jv_iload_n 0 (pc := 29) d_MO_classOf_29 rfl ?_
        refine jv_sipush (340) (pc := 30) d_MO_classOf_30 rfl ?_
        refine jv_icmp_ge 40 (pc := 33) d_MO_classOf_33 rfl (fun h33 => ?_) (fun h33 => ?_)
        · skip
          refine jv_iload_n 0 (pc := 40) d_MO_classOf_40 rfl ?_
          refine jv_sipush (4436) (pc := 41) d_MO_classOf_41 rfl ?_
          refine jv_icmp_ge 51 (pc := 44) d_MO_classOf_44 rfl (fun h44 => ?_) (fun h44 => ?_)
          · skip
            refine jv_iconst 5 (pc := 51) d_MO_classOf_51 rfl ?_
            refine jv_iret (pc := 52) d_MO_classOf_52 rfl ?_ (by decide) (by decide) ?_
            · rfl
            have h2 : (4 : Int32) ≤ x0 := h2
            have h12 : (20 : Int32) ≤ x0 := h12
            have h22 : (84 : Int32) ≤ x0 := h22
            have h33 : (340 : Int32) ≤ x0 := h33
            have h44 : (4436 : Int32) ≤ x0 := h44
            refine jI.of ?_
            unfold f_MO_classOf
            rw [if_pos h2, if_pos h12, if_pos h22, if_pos h33, if_pos h44]
            exact ⟨rfl, rfl⟩
          · skip
            refine jv_iconst 4 (pc := 47) d_MO_classOf_47 rfl ?_
            refine jv_goto 52 (pc := 48) d_MO_classOf_48 rfl ?_
            refine jv_iret (pc := 52) d_MO_classOf_52 rfl ?_ (by decide) (by decide) ?_
            · rfl
            have h2 : (4 : Int32) ≤ x0 := h2
            have h12 : (20 : Int32) ≤ x0 := h12
            have h22 : (84 : Int32) ≤ x0 := h22
            have h33 : (340 : Int32) ≤ x0 := h33
            have h44 : ¬ ((4436 : Int32) ≤ x0) := h44
            refine jI.of ?_
            unfold f_MO_classOf
            rw [if_pos h2, if_pos h12, if_pos h22, if_pos h33, if_neg h44]
            exact ⟨rfl, rfl⟩
        · skip
          refine jv_iconst 3 (pc := 36) d_MO_classOf_36 rfl ?_
          refine jv_goto 52 (pc := 37) d_MO_classOf_37 rfl ?_
          refine jv_iret (pc := 52) d_MO_classOf_52 rfl ?_ (by decide) (by decide) ?_
          · rfl
          have h2 : (4 : Int32) ≤ x0 := h2
          have h12 : (20 : Int32) ≤ x0 := h12
          have h22 : (84 : Int32) ≤ x0 := h22
          have h33 : ¬ ((340 : Int32) ≤ x0) := h33
          refine jI.of ?_
          unfold f_MO_classOf
          rw [if_pos h2, if_pos h12, if_pos h22, if_neg h33]
          exact ⟨rfl, rfl⟩
      · skip
        refine jv_iconst 2 (pc := 25) d_MO_classOf_25 rfl ?_
        refine jv_goto 52 (pc := 26) d_MO_classOf_26 rfl ?_
        refine jv_iret (pc := 52) d_MO_classOf_52 rfl ?_ (by decide) (by decide) ?_
        · rfl
        have h2 : (4 : Int32) ≤ x0 := h2
        have h12 : (20 : Int32) ≤ x0 := h12
        have h22 : ¬ ((84 : Int32) ≤ x0) := h22
        refine jI.of ?_
        unfold f_MO_classOf
        rw [if_pos h2, if_pos h12, if_neg h22]
        exact ⟨rfl, rfl⟩
    · skip
      refine jv_iconst 1 (pc := 15) d_MO_classOf_15 rfl ?_
      refine jv_goto 52 (pc := 16) d_MO_classOf_16 rfl ?_
      refine jv_iret (pc := 52) d_MO_classOf_52 rfl ?_ (by decide) (by decide) ?_
      · rfl
      have h2 : (4 : Int32) ≤ x0 := h2
      have h12 : ¬ ((20 : Int32) ≤ x0) := h12
      refine jI.of ?_
      unfold f_MO_classOf
      rw [if_pos h2, if_neg h12]
      exact ⟨rfl, rfl⟩
  · skip
    refine jv_iconst 0 (pc := 5) d_MO_classOf_5 rfl ?_
    refine jv_goto 52 (pc := 6) d_MO_classOf_6 rfl ?_
    refine jv_iret (pc := 52) d_MO_classOf_52 rfl ?_ (by decide) (by decide) ?_
    · rfl
    have h2 : ¬ ((4 : Int32) ≤ x0) := h2
    refine jI.of ?_
    unfold f_MO_classOf
    rw [if_neg h2]
    exact ⟨rfl, rfl⟩
set_option maxRecDepth 20000 in
set_option maxHeartbeats 2000000 in
theorem sp_MO_bitsOf {G : jG} {σ : jMem} (x0 : Int32) : jSp G M_MO_bitsOf (jr 0 0 0) [.int x0] σ (jI fun r τ => r = f_MO_bitsOf x0 σ ∧ τ = σ) := by
  refine jSp.of rfl rfl (Nat.le_of_ble_eq_true rfl) ?_
  show jV _ _ _ _ 0 0 0 [(0, .int x0)] [] σ
  refine jv_iload_n 0 (pc := 0) d_MO_bitsOf_0 rfl ?_
  refine jv_if_ne 8 (pc := 1) d_MO_bitsOf_1 rfl (fun h1 => ?_) (fun h1 => ?_)
  · skip
    refine jv_iload_n 0 (pc := 8) d_MO_bitsOf_8 rfl ?_
    refine jv_iconst 1 (pc := 9) d_MO_bitsOf_9 rfl ?_
    refine jv_icmp_ne 17 (pc := 10) d_MO_bitsOf_10 rfl (fun h10 => ?_) (fun h10 => ?_)
    · skip
      refine jv_iload_n 0 (pc := 17) d_MO_bitsOf_17 rfl ?_
      refine jv_iconst 2 (pc := 18) d_MO_bitsOf_18 rfl ?_
      refine jv_icmp_ne 27 (pc := 19) d_MO_bitsOf_19 rfl (fun h19 => ?_) (fun h19 => ?_)
      · skip
        refine jv_iload_n 0 (pc := 27) d_MO_bitsOf_27 rfl ?_
        refine jv_iconst 3 (pc := 28) d_MO_bitsOf_28 rfl ?_
        refine jv_icmp_ne 37 (pc := 29) d_MO_bitsOf_29 rfl (fun h29 => ?_) (fun h29 => ?_)
        · skip
          refine jv_iload_n 0 (pc := 37) d_MO_bitsOf_37 rfl ?_
          refine jv_iconst 4 (pc := 38) d_MO_bitsOf_38 rfl ?_
          refine jv_icmp_ne 47 (pc := 39) d_MO_bitsOf_39 rfl (fun h39 => ?_) (fun h39 => ?_)
          · skip
            refine jv_bipush (32) (pc := 47) d_MO_bitsOf_47 rfl ?_
            refine jv_iret (pc := 49) d_MO_bitsOf_49 rfl ?_ (by decide) (by decide) ?_
            · rfl
            have h1 : ¬ (x0 = 0) := h1
            have h10 : ¬ (x0 = (1 : Int32)) := h10
            have h19 : ¬ (x0 = (2 : Int32)) := h19
            have h29 : ¬ (x0 = (3 : Int32)) := h29
            have h39 : ¬ (x0 = (4 : Int32)) := h39
            refine jI.of ?_
            unfold f_MO_bitsOf
            rw [if_neg h1, if_neg h10, if_neg h19, if_neg h29, if_neg h39]
            exact ⟨rfl, rfl⟩
          · skip
            refine jv_bipush (12) (pc := 42) d_MO_bitsOf_42 rfl ?_
            refine jv_goto 49 (pc := 44) d_MO_bitsOf_44 rfl ?_
            refine jv_iret (pc := 49) d_MO_bitsOf_49 rfl ?_ (by decide) (by decide) ?_
            · rfl
            have h1 : ¬ (x0 = 0) := h1
            have h10 : ¬ (x0 = (1 : Int32)) := h10
            have h19 : ¬ (x0 = (2 : Int32)) := h19
            have h29 : ¬ (x0 = (3 : Int32)) := h29
            have h39 : x0 = (4 : Int32) := h39
            refine jI.of ?_
            unfold f_MO_bitsOf
            rw [if_neg h1, if_neg h10, if_neg h19, if_neg h29, if_pos h39]
            exact ⟨rfl, rfl⟩
        · skip
          refine jv_bipush (8) (pc := 32) d_MO_bitsOf_32 rfl ?_
          refine jv_goto 49 (pc := 34) d_MO_bitsOf_34 rfl ?_
          refine jv_iret (pc := 49) d_MO_bitsOf_49 rfl ?_ (by decide) (by decide) ?_
          · rfl
          have h1 : ¬ (x0 = 0) := h1
          have h10 : ¬ (x0 = (1 : Int32)) := h10
          have h19 : ¬ (x0 = (2 : Int32)) := h19
          have h29 : x0 = (3 : Int32) := h29
          refine jI.of ?_
          unfold f_MO_bitsOf
          rw [if_neg h1, if_neg h10, if_neg h19, if_pos h29]
          exact ⟨rfl, rfl⟩
      · skip
        refine jv_bipush (6) (pc := 22) d_MO_bitsOf_22 rfl ?_
        refine jv_goto 49 (pc := 24) d_MO_bitsOf_24 rfl ?_
        refine jv_iret (pc := 49) d_MO_bitsOf_49 rfl ?_ (by decide) (by decide) ?_
        · rfl
        have h1 : ¬ (x0 = 0) := h1
        have h10 : ¬ (x0 = (1 : Int32)) := h10
        have h19 : x0 = (2 : Int32) := h19
        refine jI.of ?_
        unfold f_MO_bitsOf
        rw [if_neg h1, if_neg h10, if_pos h19]
        exact ⟨rfl, rfl⟩
    · skip
      refine jv_iconst 4 (pc := 13) d_MO_bitsOf_13 rfl ?_
      refine jv_goto 49 (pc := 14) d_MO_bitsOf_14 rfl ?_
      refine jv_iret (pc := 49) d_MO_bitsOf_49 rfl ?_ (by decide) (by decide) ?_
      · rfl
      have h1 : ¬ (x0 = 0) := h1
      have h10 : x0 = (1 : Int32) := h10
      refine jI.of ?_
      unfold f_MO_bitsOf
      rw [if_neg h1, if_pos h10]
      exact ⟨rfl, rfl⟩
  · skip
    refine jv_iconst 2 (pc := 4) d_MO_bitsOf_4 rfl ?_
    refine jv_goto 49 (pc := 5) d_MO_bitsOf_5 rfl ?_
    refine jv_iret (pc := 49) d_MO_bitsOf_49 rfl ?_ (by decide) (by decide) ?_
    · rfl
    have h1 : x0 = 0 := h1
    refine jI.of ?_
    unfold f_MO_bitsOf
    rw [if_pos h1]
    exact ⟨rfl, rfl⟩
set_option maxRecDepth 20000 in
set_option maxHeartbeats 2000000 in
theorem sp_MO_leastOf {G : jG} {σ : jMem} (x0 : Int32) : jSp G M_MO_leastOf (jr 0 0 0) [.int x0] σ (jI fun r τ => r = f_MO_leastOf x0 σ ∧ τ = σ) := by
  refine jSp.of rfl rfl (Nat.le_of_ble_eq_true rfl) ?_
  show jV _ _ _ _ 0 0 0 [(0, .int x0)] [] σ
  refine jv_iload_n 0 (pc := 0) d_MO_leastOf_0 rfl ?_
  refine jv_if_ne 8 (pc := 1) d_MO_leastOf_1 rfl (fun h1 => ?_) (fun h1 => ?_)
  · skip
    refine jv_iload_n 0 (pc := 8) d_MO_leastOf_8 rfl ?_
    refine jv_iconst 1 (pc := 9) d_MO_leastOf_9 rfl ?_
    refine jv_icmp_ne 17 (pc := 10) d_MO_leastOf_10 rfl (fun h10 => ?_) (fun h10 => ?_)
    · skip
      refine jv_iload_n 0 (pc := 17) d_MO_leastOf_17 rfl ?_
      refine jv_iconst 2 (pc := 18) d_MO_leastOf_18 rfl ?_
      refine jv_icmp_ne 27 (pc := 19) d_MO_leastOf_19 rfl (fun h19 => ?_) (fun h19 => ?_)
      · skip
        refine jv_iload_n 0 (pc := 27) d_MO_leastOf_27 rfl ?_
        refine jv_iconst 3 (pc := 28) d_MO_leastOf_28 rfl ?_
        refine jv_icmp_ne 37 (pc := 29) d_MO_leastOf_29 rfl (fun h29 => ?_) (fun h29 => ?_)
        · skip
          refine jv_iload_n 0 (pc := 37) d_MO_leastOf_37 rfl ?_
          refine jv_iconst 4 (pc := 38) d_MO_leastOf_38 rfl ?_
          refine jv_icmp_ne 48 (pc := 39) d_MO_leastOf_39 rfl (fun h39 => ?_) (fun h39 => ?_)
          · skip
            refine jv_sipush (4436) (pc := 48) d_MO_leastOf_48 rfl ?_
            refine jv_iret (pc := 51) d_MO_leastOf_51 rfl ?_ (by decide) (by decide) ?_
            · rfl
            have h1 : ¬ (x0 = 0) := h1
            have h10 : ¬ (x0 = (1 : Int32)) := h10
            have h19 : ¬ (x0 = (2 : Int32)) := h19
            have h29 : ¬ (x0 = (3 : Int32)) := h29
            have h39 : ¬ (x0 = (4 : Int32)) := h39
            refine jI.of ?_
            unfold f_MO_leastOf
            rw [if_neg h1, if_neg h10, if_neg h19, if_neg h29, if_neg h39]
            exact ⟨rfl, rfl⟩
          · skip
            refine jv_sipush (340) (pc := 42) d_MO_leastOf_42 rfl ?_
            refine jv_goto 51 (pc := 45) d_MO_leastOf_45 rfl ?_
            refine jv_iret (pc := 51) d_MO_leastOf_51 rfl ?_ (by decide) (by decide) ?_
            · rfl
            have h1 : ¬ (x0 = 0) := h1
            have h10 : ¬ (x0 = (1 : Int32)) := h10
            have h19 : ¬ (x0 = (2 : Int32)) := h19
            have h29 : ¬ (x0 = (3 : Int32)) := h29
            have h39 : x0 = (4 : Int32) := h39
            refine jI.of ?_
            unfold f_MO_leastOf
            rw [if_neg h1, if_neg h10, if_neg h19, if_neg h29, if_pos h39]
            exact ⟨rfl, rfl⟩
        · skip
          refine jv_bipush (84) (pc := 32) d_MO_leastOf_32 rfl ?_
          refine jv_goto 51 (pc := 34) d_MO_leastOf_34 rfl ?_
          refine jv_iret (pc := 51) d_MO_leastOf_51 rfl ?_ (by decide) (by decide) ?_
          · rfl
          have h1 : ¬ (x0 = 0) := h1
          have h10 : ¬ (x0 = (1 : Int32)) := h10
          have h19 : ¬ (x0 = (2 : Int32)) := h19
          have h29 : x0 = (3 : Int32) := h29
          refine jI.of ?_
          unfold f_MO_leastOf
          rw [if_neg h1, if_neg h10, if_neg h19, if_pos h29]
          exact ⟨rfl, rfl⟩
      · skip
        refine jv_bipush (20) (pc := 22) d_MO_leastOf_22 rfl ?_
        refine jv_goto 51 (pc := 24) d_MO_leastOf_24 rfl ?_
        refine jv_iret (pc := 51) d_MO_leastOf_51 rfl ?_ (by decide) (by decide) ?_
        · rfl
        have h1 : ¬ (x0 = 0) := h1
        have h10 : ¬ (x0 = (1 : Int32)) := h10
        have h19 : x0 = (2 : Int32) := h19
        refine jI.of ?_
        unfold f_MO_leastOf
        rw [if_neg h1, if_neg h10, if_pos h19]
        exact ⟨rfl, rfl⟩
    · skip
      refine jv_iconst 4 (pc := 13) d_MO_leastOf_13 rfl ?_
      refine jv_goto 51 (pc := 14) d_MO_leastOf_14 rfl ?_
      refine jv_iret (pc := 51) d_MO_leastOf_51 rfl ?_ (by decide) (by decide) ?_
      · rfl
      have h1 : ¬ (x0 = 0) := h1
      have h10 : x0 = (1 : Int32) := h10
      refine jI.of ?_
      unfold f_MO_leastOf
      rw [if_neg h1, if_pos h10]
      exact ⟨rfl, rfl⟩
  · skip
    refine jv_iconst 0 (pc := 4) d_MO_leastOf_4 rfl ?_
    refine jv_goto 51 (pc := 5) d_MO_leastOf_5 rfl ?_
    refine jv_iret (pc := 51) d_MO_leastOf_51 rfl ?_ (by decide) (by decide) ?_
    · rfl
    have h1 : x0 = 0 := h1
    refine jI.of ?_
    unfold f_MO_leastOf
    rw [if_pos h1]
    exact ⟨rfl, rfl⟩
set_option maxRecDepth 20000 in
set_option maxHeartbeats 2000000 in
theorem sp_MO_nextOf {G : jG} {σ : jMem} (x0 : Int32) : jSp G M_MO_nextOf (jr 0 0 0) [.int x0] σ (jI fun r τ => r = f_MO_nextOf x0 σ ∧ τ = σ) := by
  refine jSp.of rfl rfl (Nat.le_of_ble_eq_true rfl) ?_
  show jV _ _ _ _ 0 0 0 [(0, .int x0)] [] σ
  refine jv_iload_n 0 (pc := 0) d_MO_nextOf_0 rfl ?_
  refine jv_iconst 5 (pc := 1) d_MO_nextOf_1 rfl ?_
  refine jv_icmp_ne 10 (pc := 2) d_MO_nextOf_2 rfl (fun h2 => ?_) (fun h2 => ?_)
  · skip
    refine jv_iload_n 0 (pc := 10) d_MO_nextOf_10 rfl ?_
    refine jv_bipush (13) (pc := 11) d_MO_nextOf_11 rfl ?_
    refine jv_icmp_ne 21 (pc := 13) d_MO_nextOf_13 rfl (fun h13 => ?_) (fun h13 => ?_)
    · skip
      refine jv_iload_n 0 (pc := 21) d_MO_nextOf_21 rfl ?_
      refine jv_bipush (44) (pc := 22) d_MO_nextOf_22 rfl ?_
      refine jv_icmp_le 31 (pc := 24) d_MO_nextOf_24 rfl (fun h24 => ?_) (fun h24 => ?_)
      · skip
        refine jv_iload_n 0 (pc := 31) d_MO_nextOf_31 rfl ?_
        refine jv_iconst 1 (pc := 32) d_MO_nextOf_32 rfl ?_
        refine jv_iadd (pc := 33) d_MO_nextOf_33 ?_
        refine jv_iret (pc := 34) d_MO_nextOf_34 rfl ?_ (by decide) (by decide) ?_
        · rfl
        have h2 : ¬ (x0 = (5 : Int32)) := h2
        have h13 : ¬ (x0 = (13 : Int32)) := h13
        have h24 : x0 ≤ (44 : Int32) := h24
        refine jI.of ?_
        unfold f_MO_nextOf
        rw [if_neg h2, if_neg h13, if_pos h24]
        exact ⟨rfl, rfl⟩
      · skip
        refine jv_iload_n 0 (pc := 27) d_MO_nextOf_27 rfl ?_
        refine jv_goto 34 (pc := 28) d_MO_nextOf_28 rfl ?_
        refine jv_iret (pc := 34) d_MO_nextOf_34 rfl ?_ (by decide) (by decide) ?_
        · rfl
        have h2 : ¬ (x0 = (5 : Int32)) := h2
        have h13 : ¬ (x0 = (13 : Int32)) := h13
        have h24 : ¬ (x0 ≤ (44 : Int32)) := h24
        refine jI.of ?_
        unfold f_MO_nextOf
        rw [if_neg h2, if_neg h13, if_neg h24]
        exact ⟨rfl, rfl⟩
    · skip
      refine jv_bipush (29) (pc := 16) d_MO_nextOf_16 rfl ?_
      refine jv_goto 34 (pc := 18) d_MO_nextOf_18 rfl ?_
      refine jv_iret (pc := 34) d_MO_nextOf_34 rfl ?_ (by decide) (by decide) ?_
      · rfl
      have h2 : ¬ (x0 = (5 : Int32)) := h2
      have h13 : x0 = (13 : Int32) := h13
      refine jI.of ?_
      unfold f_MO_nextOf
      rw [if_neg h2, if_pos h13]
      exact ⟨rfl, rfl⟩
  · skip
    refine jv_bipush (38) (pc := 5) d_MO_nextOf_5 rfl ?_
    refine jv_goto 34 (pc := 7) d_MO_nextOf_7 rfl ?_
    refine jv_iret (pc := 34) d_MO_nextOf_34 rfl ?_ (by decide) (by decide) ?_
    · rfl
    have h2 : x0 = (5 : Int32) := h2
    refine jI.of ?_
    unfold f_MO_nextOf
    rw [if_pos h2]
    exact ⟨rfl, rfl⟩
set_option maxRecDepth 20000 in
set_option maxHeartbeats 2000000 in
theorem sp_MO_mix {G : jG} {σ : jMem} (x0 x1 x2 : Int32) : jSp G M_MO_mix (jr 0 0 0) [.int x0, .int x1, .int x2] σ (jI fun r τ => r = f_MO_mix x0 x1 x2 σ ∧ τ = σ) := by
  refine jSp.of rfl rfl (Nat.le_of_ble_eq_true rfl) ?_
  show jV _ _ _ _ 0 0 0 [(0, .int x0), (1, .int x1), (2, .int x2)] [] σ
  refine jv_iload_n 2 (pc := 0) d_MO_mix_0 rfl ?_
  by_cases h1_0 : x2 = 0
  · refine jv_tin 32 (pc := 1) d_MO_mix_1 (by rw [h1_0]; decide) (by rw [h1_0]; decide) (by rw [h1_0]; rfl) rfl ?_
    refine jv_iload_n 0 (pc := 32) d_MO_mix_32 rfl ?_
    refine jv_iload_n 1 (pc := 33) d_MO_mix_33 rfl ?_
    refine jv_ior (pc := 34) d_MO_mix_34 ?_
    refine jv_iret (pc := 35) d_MO_mix_35 rfl ?_ (by decide) (by decide) ?_
    · rfl
    have h1_0 : x2 = 0 := h1_0
    refine jI.of ?_
    unfold f_MO_mix
    rw [if_pos h1_0]
    exact ⟨rfl, rfl⟩
  by_cases h1_1 : x2 = 1
  · refine jv_tin 36 (pc := 1) d_MO_mix_1 (by rw [h1_1]; decide) (by rw [h1_1]; decide) (by rw [h1_1]; rfl) rfl ?_
    refine jv_iload_n 0 (pc := 36) d_MO_mix_36 rfl ?_
    refine jv_iload_n 1 (pc := 37) d_MO_mix_37 rfl ?_
    refine jv_iand (pc := 38) d_MO_mix_38 ?_
    refine jv_iret (pc := 39) d_MO_mix_39 rfl ?_ (by decide) (by decide) ?_
    · rfl
    have h1_0 : ¬ (x2 = 0) := h1_0
    have h1_1 : x2 = 1 := h1_1
    refine jI.of ?_
    unfold f_MO_mix
    rw [if_neg h1_0, if_pos h1_1]
    exact ⟨rfl, rfl⟩
  by_cases h1_2 : x2 = 2
  · refine jv_tin 40 (pc := 1) d_MO_mix_1 (by rw [h1_2]; decide) (by rw [h1_2]; decide) (by rw [h1_2]; rfl) rfl ?_
    refine jv_iload_n 0 (pc := 40) d_MO_mix_40 rfl ?_
    refine jv_iload_n 1 (pc := 41) d_MO_mix_41 rfl ?_
    refine jv_ixor (pc := 42) d_MO_mix_42 ?_
    refine jv_iret (pc := 43) d_MO_mix_43 rfl ?_ (by decide) (by decide) ?_
    · rfl
    have h1_0 : ¬ (x2 = 0) := h1_0
    have h1_1 : ¬ (x2 = 1) := h1_1
    have h1_2 : x2 = 2 := h1_2
    refine jI.of ?_
    unfold f_MO_mix
    rw [if_neg h1_0, if_neg h1_1, if_pos h1_2]
    exact ⟨rfl, rfl⟩
  by_cases h1_3 : x2 = 3
  · refine jv_tin 44 (pc := 1) d_MO_mix_1 (by rw [h1_3]; decide) (by rw [h1_3]; decide) (by rw [h1_3]; rfl) rfl ?_
    refine jv_iconst 1 (pc := 44) d_MO_mix_44 rfl ?_
    refine jv_iload_n 0 (pc := 45) d_MO_mix_45 rfl ?_
    refine jv_iload_n 1 (pc := 46) d_MO_mix_46 rfl ?_
    refine jv_ixor (pc := 47) d_MO_mix_47 ?_
    refine jv_isub (pc := 48) d_MO_mix_48 ?_
    refine jv_iret (pc := 49) d_MO_mix_49 rfl ?_ (by decide) (by decide) ?_
    · rfl
    have h1_0 : ¬ (x2 = 0) := h1_0
    have h1_1 : ¬ (x2 = 1) := h1_1
    have h1_2 : ¬ (x2 = 2) := h1_2
    have h1_3 : x2 = 3 := h1_3
    refine jI.of ?_
    unfold f_MO_mix
    rw [if_neg h1_0, if_neg h1_1, if_neg h1_2, if_pos h1_3]
    exact ⟨rfl, rfl⟩
  refine jv_tout 50 (pc := 1) d_MO_mix_1 (by have a0 : (x2).toInt ≠ 0 := fun q => h1_0 (Int32.toInt_inj.mp q); have a1 : (x2).toInt ≠ 1 := fun q => h1_1 (Int32.toInt_inj.mp q); have a2 : (x2).toInt ≠ 2 := fun q => h1_2 (Int32.toInt_inj.mp q); have a3 : (x2).toInt ≠ 3 := fun q => h1_3 (Int32.toInt_inj.mp q); omega) rfl ?_
  refine jv_iload_n 1 (pc := 50) d_MO_mix_50 rfl ?_
  refine jv_iret (pc := 51) d_MO_mix_51 rfl ?_ (by decide) (by decide) ?_
  · rfl
  have h1_0 : ¬ (x2 = 0) := h1_0
  have h1_1 : ¬ (x2 = 1) := h1_1
  have h1_2 : ¬ (x2 = 2) := h1_2
  have h1_3 : ¬ (x2 = 3) := h1_3
  refine jI.of ?_
  unfold f_MO_mix
  rw [if_neg h1_0, if_neg h1_1, if_neg h1_2, if_neg h1_3]
  exact ⟨rfl, rfl⟩
