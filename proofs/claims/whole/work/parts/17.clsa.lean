/-! the class: pictures, rows, contexts, writer, reader: functions and contracts, by program -/
set_option maxRecDepth 20000 in
set_option maxHeartbeats 2000000 in
theorem sp_IG_bitCount {G : jG} {σ : jMem} (x0 : Int32) : jSp G M_IG_bitCount (jr 0 0 0) [.int x0] σ (jI fun r τ => r = f_IG_bitCount x0 σ ∧ τ = σ) := by
  refine jSp.ofF (by decide +kernel) rfl (Nat.le_of_ble_eq_true rfl) ?_
  show jV _ _ _ _ 0 0 0 [(0, .int x0)] [] σ
  refine jv_iload_n 0 (pc := 0) d_IG_bitCount_0 rfl ?_
  refine jv_iload_n 0 (pc := 1) d_IG_bitCount_1 rfl ?_
  refine jv_iconst 1 (pc := 2) d_IG_bitCount_2 rfl ?_
  refine jv_iushr (pc := 3) d_IG_bitCount_3 ?_
  refine jv_ldcw (1431655765) (pc := 4) d_IG_bitCount_4 (jin2 189 rfl rfl) ?_
  refine jv_iand (pc := 7) d_IG_bitCount_7 ?_
  refine jv_isub (pc := 8) d_IG_bitCount_8 ?_
  refine jv_istore_n (pc := 9) d_IG_bitCount_9 rfl (by decide) (jst0 rfl) ?_
  refine jv_iload_n 0 (pc := 10) d_IG_bitCount_10 rfl ?_
  refine jv_ldcw (858993459) (pc := 11) d_IG_bitCount_11 (jin2 190 rfl rfl) ?_
  refine jv_iand (pc := 14) d_IG_bitCount_14 ?_
  refine jv_iload_n 0 (pc := 15) d_IG_bitCount_15 rfl ?_
  refine jv_iconst 2 (pc := 16) d_IG_bitCount_16 rfl ?_
  refine jv_iushr (pc := 17) d_IG_bitCount_17 ?_
  refine jv_ldcw (858993459) (pc := 18) d_IG_bitCount_18 (jin2 190 rfl rfl) ?_
  refine jv_iand (pc := 21) d_IG_bitCount_21 ?_
  refine jv_iadd (pc := 22) d_IG_bitCount_22 ?_
  refine jv_istore_n (pc := 23) d_IG_bitCount_23 rfl (by decide) (jst0 rfl) ?_
  refine jv_iload_n 0 (pc := 24) d_IG_bitCount_24 rfl ?_
  refine jv_iload_n 0 (pc := 25) d_IG_bitCount_25 rfl ?_
  refine jv_iconst 4 (pc := 26) d_IG_bitCount_26 rfl ?_
  refine jv_iushr (pc := 27) d_IG_bitCount_27 ?_
  refine jv_iadd (pc := 28) d_IG_bitCount_28 ?_
  refine jv_ldcw (252645135) (pc := 29) d_IG_bitCount_29 (jin2 191 rfl rfl) ?_
  refine jv_iand (pc := 32) d_IG_bitCount_32 ?_
  refine jv_istore_n (pc := 33) d_IG_bitCount_33 rfl (by decide) (jst0 rfl) ?_
  refine jv_iload_n 0 (pc := 34) d_IG_bitCount_34 rfl ?_
  refine jv_iload_n 0 (pc := 35) d_IG_bitCount_35 rfl ?_
  refine jv_bipush (8) (pc := 36) d_IG_bitCount_36 rfl ?_
  refine jv_iushr (pc := 38) d_IG_bitCount_38 ?_
  refine jv_iadd (pc := 39) d_IG_bitCount_39 ?_
  refine jv_istore_n (pc := 40) d_IG_bitCount_40 rfl (by decide) (jst0 rfl) ?_
  refine jv_iload_n 0 (pc := 41) d_IG_bitCount_41 rfl ?_
  refine jv_iload_n 0 (pc := 42) d_IG_bitCount_42 rfl ?_
  refine jv_bipush (16) (pc := 43) d_IG_bitCount_43 rfl ?_
  refine jv_iushr (pc := 45) d_IG_bitCount_45 ?_
  refine jv_iadd (pc := 46) d_IG_bitCount_46 ?_
  refine jv_istore_n (pc := 47) d_IG_bitCount_47 rfl (by decide) (jst0 rfl) ?_
  refine jv_iload_n 0 (pc := 48) d_IG_bitCount_48 rfl ?_
  refine jv_bipush (63) (pc := 49) d_IG_bitCount_49 rfl ?_
  refine jv_iand (pc := 51) d_IG_bitCount_51 ?_
  refine jv_iret (pc := 52) d_IG_bitCount_52 rfl ?_ (by decide) (by decide) ?_
  · rfl
  refine jI.of ?_
  unfold f_IG_bitCount
  exact ⟨rfl, rfl⟩
set_option maxRecDepth 20000 in
set_option maxHeartbeats 2000000 in
theorem sp_MA_abs {G : jG} {σ : jMem} (x0 : Int32) : jSp G M_MA_abs (jr 0 0 0) [.int x0] σ (jI fun r τ => r = f_MA_abs x0 σ ∧ τ = σ) := by
  refine jSp.ofF (by decide +kernel) rfl (Nat.le_of_ble_eq_true rfl) ?_
  show jV _ _ _ _ 0 0 0 [(0, .int x0)] [] σ
  refine jv_iload_n 0 (pc := 0) d_MA_abs_0 rfl ?_
  refine jv_if_ge 9 (pc := 1) d_MA_abs_1 rfl (fun h1 => ?_) (fun h1 => ?_)
  · skip
    refine jv_iload_n 0 (pc := 9) d_MA_abs_9 rfl ?_
    refine jv_iret (pc := 10) d_MA_abs_10 rfl ?_ (by decide) (by decide) ?_
    · rfl
    have h1 : 0 ≤ x0 := h1
    refine jI.of ?_
    unfold f_MA_abs
    rw [if_pos h1]
    exact ⟨rfl, rfl⟩
  · skip
    refine jv_iload_n 0 (pc := 4) d_MA_abs_4 rfl ?_
    refine jv_ineg (pc := 5) d_MA_abs_5 ?_
    refine jv_goto 10 (pc := 6) d_MA_abs_6 rfl ?_
    refine jv_iret (pc := 10) d_MA_abs_10 rfl ?_ (by decide) (by decide) ?_
    · rfl
    have h1 : ¬ (0 ≤ x0) := h1
    refine jI.of ?_
    unfold f_MA_abs
    rw [if_neg h1]
    exact ⟨rfl, rfl⟩
set_option maxRecDepth 40000 in
set_option maxHeartbeats 8000000 in
theorem lp_AR_fill_11_5 {G : jG} : ∀ (n : Nat) (x1 x2 x3 : Int32) (σ τ : jMem) (r : Unit), f_AR_fill_11_L5 n x1 x2 x3 σ = some (r, τ) → jV G M_AR_fill (jr 0 0 0) (jU fun τ9 => τ9 = τ) 0 0 5 [(0, .ref 11), (1, .int x1), (2, .int x2), (3, .int x3)] [] σ := by
  intro n
  induction n with
  | zero =>
    intro x1 x2 x3 σ τ r H
    cases H
  | succ n ih =>
    intro x1 x2 x3 σ τ r H
    rw [f_AR_fill_11_L5.eq_2] at H
    refine jv_iload_n 2 (pc := 5) d_AR_fill_5 rfl ?_
    refine jv_iload_n 3 (pc := 6) d_AR_fill_6 rfl ?_
    refine jv_icmp_ge 20 (pc := 7) d_AR_fill_7 rfl (fun h7 => ?_) (fun h7 => ?_)
    · have h7 : x3 ≤ x2 := h7
      have H := (if_pos h7).symm.trans H
      refine jv_vret (pc := 20) d_AR_fill_20 rfl (Nat.zero_le _) (Nat.zero_le _) ?_
      cases H
      exact jU.of rfl
    · have h7 : ¬ (x3 ≤ x2) := h7
      have H := (if_neg h7).symm.trans H
      refine jv_aload_n 0 (pc := 10) d_AR_fill_10 rfl ?_
      refine jv_iload_n 2 (pc := 11) d_AR_fill_11 rfl ?_
      refine jv_iload_n 1 (pc := 12) d_AR_fill_12 rfl ?_
      obtain ⟨b13, H⟩ := jck_some H
      refine jv_iast (pc := 13) d_AR_fill_13 (by decide) rfl b13 ?_
      refine jv_iinc 2 _ (pc := 14) d_AR_fill_14 rfl (jinc1 _) (by decide) (jst2 rfl) ?_
      refine jv_goto 5 (pc := 17) d_AR_fill_17 rfl ?_
      exact jv_sub [0, 1, 2, 3] rfl (ih x1 (x2 + 1) x3 _ _ _ H)
set_option maxRecDepth 40000 in
set_option maxHeartbeats 8000000 in
theorem sp_AR_fill_11 {G : jG} {σ τ : jMem} {r : Unit} (x1 : Int32) (H : f_AR_fill_11 x1 σ = some (r, τ)) : jSp G M_AR_fill (jr 0 0 0) [.ref 11, .int x1] σ (jU fun τ9 => τ9 = τ) := by
  refine jSp.ofF (by decide +kernel) rfl (Nat.le_of_ble_eq_true rfl) ?_
  show jV _ _ _ _ 0 0 0 [(0, .ref 11), (1, .int x1)] [] σ
  unfold f_AR_fill_11 at H
  refine jv_iconst 0 (pc := 0) d_AR_fill_0 rfl ?_
  refine jv_istore_n (pc := 1) d_AR_fill_1 rfl (by decide) (jsto_new rfl) ?_
  refine jv_aload_n 1 (pc := 2) d_AR_fill_2 rfl ?_
  refine jv_alen (i := 15884) (pc := 3) d_AR_fill_3 (by decide) rfl rfl ?_
  refine jv_istore_n (pc := 4) d_AR_fill_4 rfl (by decide) (jsto_new rfl) ?_
  exact jv_sub [2, 3, 1, 0] rfl (lp_AR_fill_11_5  _ x1 (0 : Int32) (15884 : Int32) _ _ _ H)
set_option maxRecDepth 40000 in
set_option maxHeartbeats 8000000 in
theorem lp_AR_fill_x_5 {G : jG} (p : Nat) (hp : p < 12) : ∀ (n : Nat) (x1 x2 x3 : Int32) (σ τ : jMem) (r : Unit), f_AR_fill_x_L5 p n x1 x2 x3 σ = some (r, τ) → jV G M_AR_fill (jr 0 0 0) (jU fun τ9 => τ9 = τ) 0 0 5 [(0, .ref (15 + 2 * p)), (1, .int x1), (2, .int x2), (3, .int x3)] [] σ := by
  intro n
  induction n with
  | zero =>
    intro x1 x2 x3 σ τ r H
    cases H
  | succ n ih =>
    intro x1 x2 x3 σ τ r H
    rw [f_AR_fill_x_L5.eq_2] at H
    refine jv_iload_n 2 (pc := 5) d_AR_fill_5 rfl ?_
    refine jv_iload_n 3 (pc := 6) d_AR_fill_6 rfl ?_
    refine jv_icmp_ge 20 (pc := 7) d_AR_fill_7 rfl (fun h7 => ?_) (fun h7 => ?_)
    · have h7 : x3 ≤ x2 := h7
      have H := (if_pos h7).symm.trans H
      refine jv_vret (pc := 20) d_AR_fill_20 rfl (Nat.zero_le _) (Nat.zero_le _) ?_
      cases H
      exact jU.of rfl
    · have h7 : ¬ (x3 ≤ x2) := h7
      have H := (if_neg h7).symm.trans H
      refine jv_aload_n 0 (pc := 10) d_AR_fill_10 rfl ?_
      refine jv_iload_n 2 (pc := 11) d_AR_fill_11 rfl ?_
      refine jv_iload_n 1 (pc := 12) d_AR_fill_12 rfl ?_
      obtain ⟨b13, H⟩ := jck_some H
      refine jv_iast (pc := 13) d_AR_fill_13 (show 15 + 2 * p < jN by unfold jN; omega) (jshp_row hp) b13 ?_
      refine jv_iinc 2 _ (pc := 14) d_AR_fill_14 rfl (jinc1 _) (by decide) (jst2 rfl) ?_
      refine jv_goto 5 (pc := 17) d_AR_fill_17 rfl ?_
      exact jv_sub [0, 1, 2, 3] rfl (ih x1 (x2 + 1) x3 _ _ _ H)
set_option maxRecDepth 40000 in
set_option maxHeartbeats 8000000 in
theorem sp_AR_fill_x {G : jG} {σ τ : jMem} {r : Unit} (p : Nat) (x1 : Int32) (hp : p < 12) (H : f_AR_fill_x p x1 σ = some (r, τ)) : jSp G M_AR_fill (jr 0 0 0) [.ref (15 + 2 * p), .int x1] σ (jU fun τ9 => τ9 = τ) := by
  refine jSp.ofF (by decide +kernel) rfl (Nat.le_of_ble_eq_true rfl) ?_
  show jV _ _ _ _ 0 0 0 [(0, .ref (15 + 2 * p)), (1, .int x1)] [] σ
  unfold f_AR_fill_x at H
  refine jv_iconst 0 (pc := 0) d_AR_fill_0 rfl ?_
  refine jv_istore_n (pc := 1) d_AR_fill_1 rfl (by decide) (jsto_new rfl) ?_
  refine jv_aload_n 1 (pc := 2) d_AR_fill_2 rfl ?_
  refine jv_alen (i := 24) (pc := 3) d_AR_fill_3 (show 15 + 2 * p < jN by unfold jN; omega) (jshp_row hp) rfl ?_
  refine jv_istore_n (pc := 4) d_AR_fill_4 rfl (by decide) (jsto_new rfl) ?_
  exact jv_sub [2, 3, 1, 0] rfl (lp_AR_fill_x_5 p hp _ x1 (0 : Int32) (24 : Int32) _ _ _ H)
set_option maxRecDepth 20000 in
set_option maxHeartbeats 2000000 in
theorem sp_PI_shifted {G : jG} {σ : jMem} (x0 x1 : Int32) : jSp G M_PI_shifted (jr 0 0 0) [.int x0, .int x1] σ (jI fun r τ => r = f_PI_shifted x0 x1 σ ∧ τ = σ) := by
  refine jSp.of rfl rfl (Nat.le_of_ble_eq_true rfl) ?_
  show jV _ _ _ _ 0 0 0 [(0, .int x0), (1, .int x1)] [] σ
  refine jv_iload_n 1 (pc := 0) d_PI_shifted_0 rfl ?_
  refine jv_if_lt 10 (pc := 1) d_PI_shifted_1 rfl (fun h1 => ?_) (fun h1 => ?_)
  · skip
    refine jv_iload_n 0 (pc := 10) d_PI_shifted_10 rfl ?_
    refine jv_iload_n 1 (pc := 11) d_PI_shifted_11 rfl ?_
    refine jv_ineg (pc := 12) d_PI_shifted_12 ?_
    refine jv_ishl (pc := 13) d_PI_shifted_13 ?_
    refine jv_iret (pc := 14) d_PI_shifted_14 rfl ?_ (by decide) (by decide) ?_
    · rfl
    have h1 : x1 < 0 := h1
    refine jI.of ?_
    unfold f_PI_shifted
    rw [if_pos h1]
    exact ⟨rfl, rfl⟩
  · skip
    refine jv_iload_n 0 (pc := 4) d_PI_shifted_4 rfl ?_
    refine jv_iload_n 1 (pc := 5) d_PI_shifted_5 rfl ?_
    refine jv_iushr (pc := 6) d_PI_shifted_6 ?_
    refine jv_goto 14 (pc := 7) d_PI_shifted_7 rfl ?_
    refine jv_iret (pc := 14) d_PI_shifted_14 rfl ?_ (by decide) (by decide) ?_
    · rfl
    have h1 : ¬ (x1 < 0) := h1
    refine jI.of ?_
    unfold f_PI_shifted
    rw [if_neg h1]
    exact ⟨rfl, rfl⟩
set_option maxRecDepth 20000 in
set_option maxHeartbeats 2000000 in
theorem sp_PI_mixed {G : jG} {σ : jMem} (x0 x1 x2 : Int32) : jSp G M_PI_mixed (jr 0 0 0) [.int x0, .int x1, .int x2] σ (jI fun r τ => r = f_PI_mixed x0 x1 x2 σ ∧ τ = σ) := by
  refine jSp.of rfl rfl (Nat.le_of_ble_eq_true rfl) ?_
  show jV _ _ _ _ 0 0 0 [(0, .int x0), (1, .int x1), (2, .int x2)] [] σ
  refine jv_iload_n 2 (pc := 0) d_PI_mixed_0 rfl ?_
  by_cases h1_0 : x2 = 0
  · refine jv_tin 32 (pc := 1) d_PI_mixed_1 (by rw [h1_0]; decide) (by rw [h1_0]; decide) (by rw [h1_0]; rfl) rfl ?_
    refine jv_iload_n 0 (pc := 32) d_PI_mixed_32 rfl ?_
    refine jv_iload_n 1 (pc := 33) d_PI_mixed_33 rfl ?_
    refine jv_ior (pc := 34) d_PI_mixed_34 ?_
    refine jv_iret (pc := 35) d_PI_mixed_35 rfl ?_ (by decide) (by decide) ?_
    · rfl
    have h1_0 : x2 = 0 := h1_0
    refine jI.of ?_
    unfold f_PI_mixed
    rw [if_pos h1_0]
    exact ⟨rfl, rfl⟩
  by_cases h1_1 : x2 = 1
  · refine jv_tin 36 (pc := 1) d_PI_mixed_1 (by rw [h1_1]; decide) (by rw [h1_1]; decide) (by rw [h1_1]; rfl) rfl ?_
    refine jv_iload_n 0 (pc := 36) d_PI_mixed_36 rfl ?_
    refine jv_iload_n 1 (pc := 37) d_PI_mixed_37 rfl ?_
    refine jv_iand (pc := 38) d_PI_mixed_38 ?_
    refine jv_iret (pc := 39) d_PI_mixed_39 rfl ?_ (by decide) (by decide) ?_
    · rfl
    have h1_0 : ¬ (x2 = 0) := h1_0
    have h1_1 : x2 = 1 := h1_1
    refine jI.of ?_
    unfold f_PI_mixed
    rw [if_neg h1_0, if_pos h1_1]
    exact ⟨rfl, rfl⟩
  by_cases h1_2 : x2 = 2
  · refine jv_tin 40 (pc := 1) d_PI_mixed_1 (by rw [h1_2]; decide) (by rw [h1_2]; decide) (by rw [h1_2]; rfl) rfl ?_
    refine jv_iload_n 0 (pc := 40) d_PI_mixed_40 rfl ?_
    refine jv_iload_n 1 (pc := 41) d_PI_mixed_41 rfl ?_
    refine jv_ixor (pc := 42) d_PI_mixed_42 ?_
    refine jv_iret (pc := 43) d_PI_mixed_43 rfl ?_ (by decide) (by decide) ?_
    · rfl
    have h1_0 : ¬ (x2 = 0) := h1_0
    have h1_1 : ¬ (x2 = 1) := h1_1
    have h1_2 : x2 = 2 := h1_2
    refine jI.of ?_
    unfold f_PI_mixed
    rw [if_neg h1_0, if_neg h1_1, if_pos h1_2]
    exact ⟨rfl, rfl⟩
  by_cases h1_3 : x2 = 3
  · refine jv_tin 44 (pc := 1) d_PI_mixed_1 (by rw [h1_3]; decide) (by rw [h1_3]; decide) (by rw [h1_3]; rfl) rfl ?_
    refine jv_iload_n 0 (pc := 44) d_PI_mixed_44 rfl ?_
    refine jv_iload_n 1 (pc := 45) d_PI_mixed_45 rfl ?_
    refine jv_ixor (pc := 46) d_PI_mixed_46 ?_
    refine jv_iconst (-1) (pc := 47) d_PI_mixed_47 rfl ?_
    refine jv_ixor (pc := 48) d_PI_mixed_48 ?_
    refine jv_iret (pc := 49) d_PI_mixed_49 rfl ?_ (by decide) (by decide) ?_
    · rfl
    have h1_0 : ¬ (x2 = 0) := h1_0
    have h1_1 : ¬ (x2 = 1) := h1_1
    have h1_2 : ¬ (x2 = 2) := h1_2
    have h1_3 : x2 = 3 := h1_3
    refine jI.of ?_
    unfold f_PI_mixed
    rw [if_neg h1_0, if_neg h1_1, if_neg h1_2, if_pos h1_3]
    exact ⟨rfl, rfl⟩
  refine jv_tout 50 (pc := 1) d_PI_mixed_1 (by have a0 : (x2).toInt ≠ 0 := fun q => h1_0 (Int32.toInt_inj.mp q); have a1 : (x2).toInt ≠ 1 := fun q => h1_1 (Int32.toInt_inj.mp q); have a2 : (x2).toInt ≠ 2 := fun q => h1_2 (Int32.toInt_inj.mp q); have a3 : (x2).toInt ≠ 3 := fun q => h1_3 (Int32.toInt_inj.mp q); omega) rfl ?_
  refine jv_iload_n 1 (pc := 50) d_PI_mixed_50 rfl ?_
  refine jv_iret (pc := 51) d_PI_mixed_51 rfl ?_ (by decide) (by decide) ?_
  · rfl
  have h1_0 : ¬ (x2 = 0) := h1_0
  have h1_1 : ¬ (x2 = 1) := h1_1
  have h1_2 : ¬ (x2 = 2) := h1_2
  have h1_3 : ¬ (x2 = 3) := h1_3
  refine jI.of ?_
  unfold f_PI_mixed
  rw [if_neg h1_0, if_neg h1_1, if_neg h1_2, if_neg h1_3]
  exact ⟨rfl, rfl⟩
set_option maxRecDepth 40000 in
set_option maxHeartbeats 8000000 in
theorem sp_PI_has {G : jG} {σ τ : jMem} {r : Int32} (p : Nat) (x1 x2 : Int32) (hp : p < 12) (H : f_PI_has p x1 x2 σ = some (r, τ)) : jSp G M_PI_has (jr 0 0 0) [.ref (14 + 2 * p), .int x1, .int x2] σ (jI fun r9 τ9 => r9 = r ∧ τ9 = τ) := by
  refine jSp.of rfl rfl (Nat.le_of_ble_eq_true rfl) ?_
  show jV _ _ _ _ 0 0 0 [(0, .ref (14 + 2 * p)), (1, .int x1), (2, .int x2)] [] σ
  unfold f_PI_has at H
  refine jv_iload_n 1 (pc := 0) d_PI_has_0 rfl ?_
  refine jv_if_lt 28 (pc := 1) d_PI_has_1 rfl (fun h1 => ?_) (fun h1 => ?_)
  · have h1 : x1 < 0 := h1
    have H := (if_pos h1).symm.trans H
    refine jv_iconst 0 (pc := 28) d_PI_has_28 rfl ?_
    refine jv_iret (pc := 29) d_PI_has_29 rfl rfl (Nat.zero_le _) (Nat.zero_le _) ?_
    cases H
    exact jI.of ⟨rfl, rfl⟩
  · have h1 : ¬ (x1 < 0) := h1
    have H := (if_neg h1).symm.trans H
    refine jv_iload_n 1 (pc := 4) d_PI_has_4 rfl ?_
    refine jv_aload_n 0 (pc := 5) d_PI_has_5 rfl ?_
    refine jv_geti (pc := 6) d_PI_has_6 fa_PI_15_PI (show 14 + 2 * p < jN by unfold jN; omega) (jshp_pic hp) rfl ?_
    refine jv_icmp_ge 28 (pc := 9) d_PI_has_9 rfl (fun h9 => ?_) (fun h9 => ?_)
    · have h9 : (σ (14 + 2 * p) 1) ≤ x1 := h9
      have H := (if_pos h9).symm.trans H
      refine jv_iconst 0 (pc := 28) d_PI_has_28 rfl ?_
      refine jv_iret (pc := 29) d_PI_has_29 rfl rfl (Nat.zero_le _) (Nat.zero_le _) ?_
      cases H
      exact jI.of ⟨rfl, rfl⟩
    · have h9 : ¬ ((σ (14 + 2 * p) 1) ≤ x1) := h9
      have H := (if_neg h9).symm.trans H
      refine jv_iload_n 2 (pc := 12) d_PI_has_12 rfl ?_
      refine jv_if_lt 28 (pc := 13) d_PI_has_13 rfl (fun h13 => ?_) (fun h13 => ?_)
      · have h13 : x2 < 0 := h13
        have H := (if_pos h13).symm.trans H
        refine jv_iconst 0 (pc := 28) d_PI_has_28 rfl ?_
        refine jv_iret (pc := 29) d_PI_has_29 rfl rfl (Nat.zero_le _) (Nat.zero_le _) ?_
        cases H
        exact jI.of ⟨rfl, rfl⟩
      · have h13 : ¬ (x2 < 0) := h13
        have H := (if_neg h13).symm.trans H
        refine jv_iload_n 2 (pc := 16) d_PI_has_16 rfl ?_
        refine jv_aload_n 0 (pc := 17) d_PI_has_17 rfl ?_
        refine jv_geti (pc := 18) d_PI_has_18 fa_PI_19_PI (show 14 + 2 * p < jN by unfold jN; omega) (jshp_pic hp) rfl ?_
        refine jv_icmp_ge 28 (pc := 21) d_PI_has_21 rfl (fun h21 => ?_) (fun h21 => ?_)
        · have h21 : (σ (14 + 2 * p) 2) ≤ x2 := h21
          have H := (if_pos h21).symm.trans H
          refine jv_iconst 0 (pc := 28) d_PI_has_28 rfl ?_
          refine jv_iret (pc := 29) d_PI_has_29 rfl rfl (Nat.zero_le _) (Nat.zero_le _) ?_
          cases H
          exact jI.of ⟨rfl, rfl⟩
        · have h21 : ¬ ((σ (14 + 2 * p) 2) ≤ x2) := h21
          have H := (if_neg h21).symm.trans H
          refine jv_iconst 1 (pc := 24) d_PI_has_24 rfl ?_
          refine jv_goto 29 (pc := 25) d_PI_has_25 rfl ?_
          refine jv_iret (pc := 29) d_PI_has_29 rfl rfl (Nat.zero_le _) (Nat.zero_le _) ?_
          cases H
          exact jI.of ⟨rfl, rfl⟩
set_option maxRecDepth 40000 in
set_option maxHeartbeats 8000000 in
theorem sp_PI_at {G : jG} {σ τ : jMem} {r : Int32} (p : Nat) (x1 x2 : Int32) (hp : p < 12) (H : f_PI_at p x1 x2 σ = some (r, τ)) : jSp G M_PI_at (jr 1 0 0) [.ref (14 + 2 * p), .int x1, .int x2] σ (jI fun r9 τ9 => r9 = r ∧ τ9 = τ) := by
  refine jSp.of rfl rfl (Nat.le_of_ble_eq_true rfl) ?_
  show jV _ _ _ _ 0 0 0 [(0, .ref (14 + 2 * p)), (1, .int x1), (2, .int x2)] [] σ
  unfold f_PI_at at H
  refine jv_aload_n 0 (pc := 0) d_PI_at_0 rfl ?_
  refine jv_iload_n 1 (pc := 1) d_PI_at_1 rfl ?_
  refine jv_iload_n 2 (pc := 2) d_PI_at_2 rfl ?_
  obtain ⟨v3, n3, c3, H⟩ := jbd_some H
  refine jv_callVi (sp_PI_has p x1 x2 hp c3) (pc := 3) d_PI_at_3 c0_PI_has lk_PI_34 in_PI_has se_PI_has (show 14 + 2 * p < jN by unfold jN; omega) (jshp_pic hp) rfl rfl (Nat.le_of_ble_eq_true rfl) ⟨by decide, by decide, by decide, by decide⟩ (fun r3 m3 h3 => ?_)
  obtain ⟨ha3, hb3⟩ := h3
  have ha3 := ha3.symm
  subst ha3
  have hb3 := hb3.symm
  subst hb3
  refine jv_if_eq 25 (pc := 6) d_PI_at_6 rfl (fun h6 => ?_) (fun h6 => ?_)
  · have h6 : v3 = 0 := h6
    have H := (if_pos h6).symm.trans H
    refine jv_iconst 0 (pc := 25) d_PI_at_25 rfl ?_
    refine jv_iret (pc := 26) d_PI_at_26 rfl rfl (Nat.zero_le _) (Nat.zero_le _) ?_
    cases H
    exact jI.of ⟨rfl, rfl⟩
  · have h6 : ¬ (v3 = 0) := h6
    have H := (if_neg h6).symm.trans H
    refine jv_aload_n 0 (pc := 9) d_PI_at_9 rfl ?_
    refine jv_getr (pc := 10) d_PI_at_10 fa_PI_9_PI (show 14 + 2 * p < jN by unfold jN; omega) (jshp_pic hp) rfl ?_
    refine jv_iload_n 2 (pc := 13) d_PI_at_13 rfl ?_
    obtain ⟨b14, H⟩ := jck_some H
    refine jv_iald (pc := 14) d_PI_at_14 (show 15 + 2 * p < jN by unfold jN; omega) (jshp_row hp) b14 ?_
    refine jv_bipush (28) (pc := 15) d_PI_at_15 rfl ?_
    refine jv_iload_n 1 (pc := 17) d_PI_at_17 rfl ?_
    refine jv_isub (pc := 18) d_PI_at_18 ?_
    refine jv_iushr (pc := 19) d_PI_at_19 ?_
    refine jv_iconst 1 (pc := 20) d_PI_at_20 rfl ?_
    refine jv_iand (pc := 21) d_PI_at_21 ?_
    refine jv_goto 26 (pc := 22) d_PI_at_22 rfl ?_
    refine jv_iret (pc := 26) d_PI_at_26 rfl rfl (Nat.zero_le _) (Nat.zero_le _) ?_
    cases H
    exact jI.of ⟨rfl, rfl⟩
set_option maxRecDepth 40000 in
set_option maxHeartbeats 8000000 in
theorem sp_PI_set {G : jG} {σ τ : jMem} {r : Unit} (p : Nat) (x1 x2 x3 : Int32) (hp : p < 12) (H : f_PI_set p x1 x2 x3 σ = some (r, τ)) : jSp G M_PI_set (jr 0 0 0) [.ref (14 + 2 * p), .int x1, .int x2, .int x3] σ (jU fun τ9 => τ9 = τ) := by
  refine jSp.of rfl rfl (Nat.le_of_ble_eq_true rfl) ?_
  show jV _ _ _ _ 0 0 0 [(0, .ref (14 + 2 * p)), (1, .int x1), (2, .int x2), (3, .int x3)] [] σ
  unfold f_PI_set at H
  refine jv_iconst 1 (pc := 0) d_PI_set_0 rfl ?_
  refine jv_bipush (28) (pc := 1) d_PI_set_1 rfl ?_
  refine jv_iload_n 1 (pc := 3) d_PI_set_3 rfl ?_
  refine jv_isub (pc := 4) d_PI_set_4 ?_
  refine jv_ishl (pc := 5) d_PI_set_5 ?_
  refine jv_istore (pc := 6) d_PI_set_6 (by decide) (jsto_new rfl) ?_
  refine jv_aload_n 1 (pc := 8) d_PI_set_8 rfl ?_
  refine jv_getr (pc := 9) d_PI_set_9 fa_PI_9_PI (show 14 + 2 * p < jN by unfold jN; omega) (jshp_pic hp) rfl ?_
  refine jv_iload_n 3 (pc := 12) d_PI_set_12 rfl ?_
  refine jv_iload_n 4 (pc := 13) d_PI_set_13 rfl ?_
  refine jv_iconst 1 (pc := 14) d_PI_set_14 rfl ?_
  refine jv_icmp_ne 30 (pc := 15) d_PI_set_15 rfl (fun h15 => ?_) (fun h15 => ?_)
  · have h15 : ¬ (x3 = (1 : Int32)) := h15
    have H := (if_neg h15).symm.trans H
    refine jv_aload_n 1 (pc := 30) d_PI_set_30 rfl ?_
    refine jv_getr (pc := 31) d_PI_set_31 fa_PI_9_PI (show 14 + 2 * p < jN by unfold jN; omega) (jshp_pic hp) rfl ?_
    refine jv_iload_n 3 (pc := 34) d_PI_set_34 rfl ?_
    obtain ⟨b35, H⟩ := jck_some H
    refine jv_iald (pc := 35) d_PI_set_35 (show 15 + 2 * p < jN by unfold jN; omega) (jshp_row hp) b35 ?_
    refine jv_iload 0 (pc := 36) d_PI_set_36 rfl ?_
    refine jv_iconst (-1) (pc := 38) d_PI_set_38 rfl ?_
    refine jv_ixor (pc := 39) d_PI_set_39 ?_
    refine jv_iand (pc := 40) d_PI_set_40 ?_
    obtain ⟨b41, H⟩ := jck_some H
    refine jv_iast (pc := 41) d_PI_set_41 (show 15 + 2 * p < jN by unfold jN; omega) (jshp_row hp) b41 ?_
    refine jv_vret (pc := 42) d_PI_set_42 rfl (Nat.zero_le _) (Nat.zero_le _) ?_
    cases H
    exact jU.of rfl
  · have h15 : x3 = (1 : Int32) := h15
    have H := (if_pos h15).symm.trans H
    refine jv_aload_n 1 (pc := 18) d_PI_set_18 rfl ?_
    refine jv_getr (pc := 19) d_PI_set_19 fa_PI_9_PI (show 14 + 2 * p < jN by unfold jN; omega) (jshp_pic hp) rfl ?_
    refine jv_iload_n 3 (pc := 22) d_PI_set_22 rfl ?_
    obtain ⟨b23, H⟩ := jck_some H
    refine jv_iald (pc := 23) d_PI_set_23 (show 15 + 2 * p < jN by unfold jN; omega) (jshp_row hp) b23 ?_
    refine jv_iload 0 (pc := 24) d_PI_set_24 rfl ?_
    refine jv_ior (pc := 26) d_PI_set_26 ?_
    refine jv_goto 41 (pc := 27) d_PI_set_27 rfl ?_
    obtain ⟨b41, H⟩ := jck_some H
    refine jv_iast (pc := 41) d_PI_set_41 (show 15 + 2 * p < jN by unfold jN; omega) (jshp_row hp) b41 ?_
    refine jv_vret (pc := 42) d_PI_set_42 rfl (Nat.zero_le _) (Nat.zero_le _) ?_
    cases H
    exact jU.of rfl
set_option maxRecDepth 40000 in
set_option maxHeartbeats 8000000 in
theorem lp_PI_ones_4 {G : jG} (p : Nat) (hp : p < 12) : ∀ (n : Nat) (x1 x2 : Int32) (σ τ : jMem) (r : Int32), f_PI_ones_L4 p n x1 x2 σ = some (r, τ) → jV G M_PI_ones (jr 1 0 0) (jI fun r9 τ9 => r9 = r ∧ τ9 = τ) 0 0 4 [(0, .ref (14 + 2 * p)), (1, .int x1), (2, .int x2)] [] σ := by
  intro n
  induction n with
  | zero =>
    intro x1 x2 σ τ r H
    cases H
  | succ n ih =>
    intro x1 x2 σ τ r H
    rw [f_PI_ones_L4.eq_2] at H
    refine jv_iload_n 2 (pc := 4) d_PI_ones_4 rfl ?_
    refine jv_aload_n 0 (pc := 5) d_PI_ones_5 rfl ?_
    refine jv_geti (pc := 6) d_PI_ones_6 fa_PI_19_PI (show 14 + 2 * p < jN by unfold jN; omega) (jshp_pic hp) rfl ?_
    refine jv_icmp_ge 30 (pc := 9) d_PI_ones_9 rfl (fun h9 => ?_) (fun h9 => ?_)
    · have h9 : (σ (14 + 2 * p) 2) ≤ x2 := h9
      have H := (if_pos h9).symm.trans H
      refine jv_iload_n 1 (pc := 30) d_PI_ones_30 rfl ?_
      refine jv_iret (pc := 31) d_PI_ones_31 rfl rfl (Nat.zero_le _) (Nat.zero_le _) ?_
      cases H
      exact jI.of ⟨rfl, rfl⟩
    · have h9 : ¬ ((σ (14 + 2 * p) 2) ≤ x2) := h9
      have H := (if_neg h9).symm.trans H
      refine jv_iload_n 1 (pc := 12) d_PI_ones_12 rfl ?_
      refine jv_aload_n 0 (pc := 13) d_PI_ones_13 rfl ?_
      refine jv_getr (pc := 14) d_PI_ones_14 fa_PI_9_PI (show 14 + 2 * p < jN by unfold jN; omega) (jshp_pic hp) rfl ?_
      refine jv_iload_n 2 (pc := 17) d_PI_ones_17 rfl ?_
      obtain ⟨b18, H⟩ := jck_some H
      refine jv_iald (pc := 18) d_PI_ones_18 (show 15 + 2 * p < jN by unfold jN; omega) (jshp_row hp) b18 ?_
      refine jv_callSi (sp_IG_bitCount (σ (15 + 2 * p) x2.toNatClampNeg)) (pc := 19) d_PI_ones_19 c0_IG_bitCount lk_PI_38 si_IG_bitCount rfl (Nat.le_of_ble_eq_true rfl) ⟨by decide, by decide, by decide, by decide⟩ (fun r19 m19 h19 => ?_)
      obtain ⟨ha19, hb19⟩ := h19
      subst ha19
      have hb19 := hb19.symm
      subst hb19
      refine jv_iadd (pc := 22) d_PI_ones_22 ?_
      refine jv_istore_n (pc := 23) d_PI_ones_23 rfl (by decide) (jst1 rfl) ?_
      refine jv_iinc 2 _ (pc := 24) d_PI_ones_24 rfl (jinc1 _) (by decide) (jst2 rfl) ?_
      refine jv_goto 4 (pc := 27) d_PI_ones_27 rfl ?_
      exact jv_sub [0, 1, 2] rfl (ih (x1 + (f_IG_bitCount (σ (15 + 2 * p) x2.toNatClampNeg) σ)) (x2 + 1) _ _ _ H)
set_option maxRecDepth 40000 in
set_option maxHeartbeats 8000000 in
theorem sp_PI_ones {G : jG} {σ τ : jMem} {r : Int32} (p : Nat) (hp : p < 12) (H : f_PI_ones p σ = some (r, τ)) : jSp G M_PI_ones (jr 1 0 0) [.ref (14 + 2 * p)] σ (jI fun r9 τ9 => r9 = r ∧ τ9 = τ) := by
  refine jSp.of rfl rfl (Nat.le_of_ble_eq_true rfl) ?_
  show jV _ _ _ _ 0 0 0 [(0, .ref (14 + 2 * p))] [] σ
  unfold f_PI_ones at H
  refine jv_iconst 0 (pc := 0) d_PI_ones_0 rfl ?_
  refine jv_istore_n (pc := 1) d_PI_ones_1 rfl (by decide) (jsto_new rfl) ?_
  refine jv_iconst 0 (pc := 2) d_PI_ones_2 rfl ?_
  refine jv_istore_n (pc := 3) d_PI_ones_3 rfl (by decide) (jsto_new rfl) ?_
  exact jv_sub [2, 1, 0] rfl (lp_PI_ones_4 p hp _ (0 : Int32) (0 : Int32) _ _ _ H)
set_option maxRecDepth 40000 in
set_option maxHeartbeats 8000000 in
theorem sp_PI_rowAbove {G : jG} {σ τ : jMem} {r : Int32} (p : Nat) (x1 : Int32) (hp : p < 12) (H : f_PI_rowAbove p x1 σ = some (r, τ)) : jSp G M_PI_rowAbove (jr 0 0 0) [.ref (14 + 2 * p), .int x1] σ (jI fun r9 τ9 => r9 = r ∧ τ9 = τ) := by
  refine jSp.of rfl rfl (Nat.le_of_ble_eq_true rfl) ?_
  show jV _ _ _ _ 0 0 0 [(0, .ref (14 + 2 * p)), (1, .int x1)] [] σ
  unfold f_PI_rowAbove at H
  refine jv_iload_n 1 (pc := 0) d_PI_rowAbove_0 rfl ?_
  refine jv_if_ne 8 (pc := 1) d_PI_rowAbove_1 rfl (fun h1 => ?_) (fun h1 => ?_)
  · have h1 : ¬ (x1 = 0) := h1
    have H := (if_neg h1).symm.trans H
    refine jv_aload_n 0 (pc := 8) d_PI_rowAbove_8 rfl ?_
    refine jv_getr (pc := 9) d_PI_rowAbove_9 fa_PI_9_PI (show 14 + 2 * p < jN by unfold jN; omega) (jshp_pic hp) rfl ?_
    refine jv_iload_n 1 (pc := 12) d_PI_rowAbove_12 rfl ?_
    refine jv_iconst 1 (pc := 13) d_PI_rowAbove_13 rfl ?_
    refine jv_isub (pc := 14) d_PI_rowAbove_14 ?_
    obtain ⟨b15, H⟩ := jck_some H
    refine jv_iald (pc := 15) d_PI_rowAbove_15 (show 15 + 2 * p < jN by unfold jN; omega) (jshp_row hp) b15 ?_
    refine jv_iret (pc := 16) d_PI_rowAbove_16 rfl rfl (Nat.zero_le _) (Nat.zero_le _) ?_
    cases H
    exact jI.of ⟨rfl, rfl⟩
  · have h1 : x1 = 0 := h1
    have H := (if_pos h1).symm.trans H
    refine jv_iconst 0 (pc := 4) d_PI_rowAbove_4 rfl ?_
    refine jv_goto 16 (pc := 5) d_PI_rowAbove_5 rfl ?_
    refine jv_iret (pc := 16) d_PI_rowAbove_16 rfl rfl (Nat.zero_le _) (Nat.zero_le _) ?_
    cases H
    exact jI.of ⟨rfl, rfl⟩
set_option maxRecDepth 40000 in
set_option maxHeartbeats 8000000 in
theorem sp_PI_span {G : jG} {σ τ : jMem} {r : Int32} (p : Nat) (x1 x2 x3 : Int32) (hp : p < 12) (H : f_PI_span p x1 x2 x3 σ = some (r, τ)) : jSp G M_PI_span (jr 0 0 0) [.ref (14 + 2 * p), .int x1, .int x2, .int x3] σ (jI fun r9 τ9 => r9 = r ∧ τ9 = τ) := by
  refine jSp.of rfl rfl (Nat.le_of_ble_eq_true rfl) ?_
  show jV _ _ _ _ 0 0 0 [(0, .ref (14 + 2 * p)), (1, .int x1), (2, .int x2), (3, .int x3)] [] σ
  unfold f_PI_span at H
  refine jv_iload_n 1 (pc := 0) d_PI_span_0 rfl ?_
  refine jv_if_lt 22 (pc := 1) d_PI_span_1 rfl (fun h1 => ?_) (fun h1 => ?_)
  · have h1 : x1 < 0 := h1
    have H := (if_pos h1).symm.trans H
    refine jv_iconst 0 (pc := 22) d_PI_span_22 rfl ?_
    refine jv_iret (pc := 23) d_PI_span_23 rfl rfl (Nat.zero_le _) (Nat.zero_le _) ?_
    cases H
    exact jI.of ⟨rfl, rfl⟩
  · have h1 : ¬ (x1 < 0) := h1
    have H := (if_neg h1).symm.trans H
    refine jv_iload_n 1 (pc := 4) d_PI_span_4 rfl ?_
    refine jv_aload_n 0 (pc := 5) d_PI_span_5 rfl ?_
    refine jv_geti (pc := 6) d_PI_span_6 fa_PI_19_PI (show 14 + 2 * p < jN by unfold jN; omega) (jshp_pic hp) rfl ?_
    refine jv_icmp_ge 22 (pc := 9) d_PI_span_9 rfl (fun h9 => ?_) (fun h9 => ?_)
    · have h9 : (σ (14 + 2 * p) 2) ≤ x1 := h9
      have H := (if_pos h9).symm.trans H
      refine jv_iconst 0 (pc := 22) d_PI_span_22 rfl ?_
      refine jv_iret (pc := 23) d_PI_span_23 rfl rfl (Nat.zero_le _) (Nat.zero_le _) ?_
      cases H
      exact jI.of ⟨rfl, rfl⟩
    · have h9 : ¬ ((σ (14 + 2 * p) 2) ≤ x1) := h9
      have H := (if_neg h9).symm.trans H
      refine jv_iload_n 2 (pc := 12) d_PI_span_12 rfl ?_
      refine jv_if_lt 22 (pc := 13) d_PI_span_13 rfl (fun h13 => ?_) (fun h13 => ?_)
      · have h13 : x2 < 0 := h13
        have H := (if_pos h13).symm.trans H
        refine jv_iconst 0 (pc := 22) d_PI_span_22 rfl ?_
        refine jv_iret (pc := 23) d_PI_span_23 rfl rfl (Nat.zero_le _) (Nat.zero_le _) ?_
        cases H
        exact jI.of ⟨rfl, rfl⟩
      · have h13 : ¬ (x2 < 0) := h13
        have H := (if_neg h13).symm.trans H
        refine jv_iload_n 2 (pc := 16) d_PI_span_16 rfl ?_
        refine jv_bipush (28) (pc := 17) d_PI_span_17 rfl ?_
        refine jv_icmp_le 24 (pc := 19) d_PI_span_19 rfl (fun h19 => ?_) (fun h19 => ?_)
        · have h19 : x2 ≤ (28 : Int32) := h19
          have H := (if_pos h19).symm.trans H
          refine jv_aload_n 0 (pc := 24) d_PI_span_24 rfl ?_
          refine jv_getr (pc := 25) d_PI_span_25 fa_PI_9_PI (show 14 + 2 * p < jN by unfold jN; omega) (jshp_pic hp) rfl ?_
          refine jv_iload_n 1 (pc := 28) d_PI_span_28 rfl ?_
          obtain ⟨b29, H⟩ := jck_some H
          refine jv_iald (pc := 29) d_PI_span_29 (show 15 + 2 * p < jN by unfold jN; omega) (jshp_row hp) b29 ?_
          refine jv_bipush (28) (pc := 30) d_PI_span_30 rfl ?_
          refine jv_iload_n 2 (pc := 32) d_PI_span_32 rfl ?_
          refine jv_isub (pc := 33) d_PI_span_33 ?_
          refine jv_iushr (pc := 34) d_PI_span_34 ?_
          refine jv_iconst 1 (pc := 35) d_PI_span_35 rfl ?_
          refine jv_iload_n 3 (pc := 36) d_PI_span_36 rfl ?_
          refine jv_ishl (pc := 37) d_PI_span_37 ?_
          refine jv_iconst 1 (pc := 38) d_PI_span_38 rfl ?_
          refine jv_isub (pc := 39) d_PI_span_39 ?_
          refine jv_iand (pc := 40) d_PI_span_40 ?_
          refine jv_iret (pc := 41) d_PI_span_41 rfl rfl (Nat.zero_le _) (Nat.zero_le _) ?_
          cases H
          exact jI.of ⟨rfl, rfl⟩
        · have h19 : ¬ (x2 ≤ (28 : Int32)) := h19
          have H := (if_neg h19).symm.trans H
          refine jv_iconst 0 (pc := 22) d_PI_span_22 rfl ?_
          refine jv_iret (pc := 23) d_PI_span_23 rfl rfl (Nat.zero_le _) (Nat.zero_le _) ?_
          cases H
          exact jI.of ⟨rfl, rfl⟩
set_option maxRecDepth 40000 in
set_option maxHeartbeats 8000000 in
theorem sp_PI_allColumns {G : jG} {σ τ : jMem} {r : Int32} (p : Nat) (hp : p < 12) (H : f_PI_allColumns p σ = some (r, τ)) : jSp G M_PI_allColumns (jr 0 0 0) [.ref (14 + 2 * p)] σ (jI fun r9 τ9 => r9 = r ∧ τ9 = τ) := by
  refine jSp.of rfl rfl (Nat.le_of_ble_eq_true rfl) ?_
  show jV _ _ _ _ 0 0 0 [(0, .ref (14 + 2 * p))] [] σ
  unfold f_PI_allColumns at H
  refine jv_iconst 1 (pc := 0) d_PI_allColumns_0 rfl ?_
  refine jv_aload_n 0 (pc := 1) d_PI_allColumns_1 rfl ?_
  refine jv_geti (pc := 2) d_PI_allColumns_2 fa_PI_15_PI (show 14 + 2 * p < jN by unfold jN; omega) (jshp_pic hp) rfl ?_
  refine jv_ishl (pc := 5) d_PI_allColumns_5 ?_
  refine jv_iconst 1 (pc := 6) d_PI_allColumns_6 rfl ?_
  refine jv_isub (pc := 7) d_PI_allColumns_7 ?_
  refine jv_bipush (29) (pc := 8) d_PI_allColumns_8 rfl ?_
  refine jv_aload_n 0 (pc := 10) d_PI_allColumns_10 rfl ?_
  refine jv_geti (pc := 11) d_PI_allColumns_11 fa_PI_15_PI (show 14 + 2 * p < jN by unfold jN; omega) (jshp_pic hp) rfl ?_
  refine jv_isub (pc := 14) d_PI_allColumns_14 ?_
  refine jv_ishl (pc := 15) d_PI_allColumns_15 ?_
  refine jv_iret (pc := 16) d_PI_allColumns_16 rfl rfl (Nat.zero_le _) (Nat.zero_le _) ?_
  cases H
  exact jI.of ⟨rfl, rfl⟩
set_option maxRecDepth 40000 in
set_option maxHeartbeats 8000000 in
theorem sp_PI_blank {G : jG} {σ τ : jMem} {r : Unit} (p : Nat) (x1 x2 : Int32) (hp : p < 12) (H : f_PI_blank p x1 x2 σ = some (r, τ)) : jSp G M_PI_blank (jr 1 0 0) [.ref (14 + 2 * p), .int x1, .int x2] σ (jU fun τ9 => τ9 = τ) := by
  refine jSp.of rfl rfl (Nat.le_of_ble_eq_true rfl) ?_
  show jV _ _ _ _ 0 0 0 [(0, .ref (14 + 2 * p)), (1, .int x1), (2, .int x2)] [] σ
  unfold f_PI_blank at H
  refine jv_aload_n 0 (pc := 0) d_PI_blank_0 rfl ?_
  refine jv_iload_n 1 (pc := 1) d_PI_blank_1 rfl ?_
  refine jv_puti (pc := 2) d_PI_blank_2 fa_PI_15_PI fp_PI_1 (show 14 + 2 * p < jN by unfold jN; omega) (jshp_pic hp) rfl rfl rfl ?_
  refine jv_aload_n 0 (pc := 5) d_PI_blank_5 rfl ?_
  refine jv_iload_n 2 (pc := 6) d_PI_blank_6 rfl ?_
  refine jv_puti (pc := 7) d_PI_blank_7 fa_PI_19_PI fp_PI_2 (show 14 + 2 * p < jN by unfold jN; omega) (jshp_pic hp) rfl rfl rfl ?_
  refine jv_aload_n 0 (pc := 10) d_PI_blank_10 rfl ?_
  refine jv_getr (pc := 11) d_PI_blank_11 fa_PI_9_PI (show 14 + 2 * p < jN by unfold jN; omega) (jshp_pic hp) rfl ?_
  refine jv_iconst 0 (pc := 14) d_PI_blank_14 rfl ?_
  obtain ⟨_, n15, c15, H⟩ := jbd_some H
  refine jv_callSv (sp_AR_fill_x p (0 : Int32) hp c15) (pc := 15) d_PI_blank_15 c0_AR_fill lk_PI_22 si_AR_fill rfl (Nat.le_of_ble_eq_true rfl) ⟨by decide, by decide, by decide, by decide⟩ (fun m15 h15 => ?_)
  have hb15 := h15
  have hb15 := hb15.symm
  subst hb15
  refine jv_vret (pc := 18) d_PI_blank_18 rfl (Nat.zero_le _) (Nat.zero_le _) ?_
  cases H
  exact jU.of rfl
set_option maxRecDepth 40000 in
set_option maxHeartbeats 8000000 in
theorem sp_PI_copy {G : jG} {σ τ : jMem} {r : Unit} (p : Nat) (q : Nat) (hp : p < 12) (hq : q < 12) (H : f_PI_copy p q σ = some (r, τ)) : jSp G M_PI_copy (jr 1 0 0) [.ref (14 + 2 * p), .ref (14 + 2 * q)] σ (jU fun τ9 => τ9 = τ) := by
  refine jSp.of rfl rfl (Nat.le_of_ble_eq_true rfl) ?_
  show jV _ _ _ _ 0 0 0 [(0, .ref (14 + 2 * p)), (1, .ref (14 + 2 * q))] [] σ
  unfold f_PI_copy at H
  refine jv_aload_n 0 (pc := 0) d_PI_copy_0 rfl ?_
  refine jv_aload_n 1 (pc := 1) d_PI_copy_1 rfl ?_
  refine jv_geti (pc := 2) d_PI_copy_2 fa_PI_15_PI (show 14 + 2 * q < jN by unfold jN; omega) (jshp_pic hq) rfl ?_
  refine jv_puti (pc := 5) d_PI_copy_5 fa_PI_15_PI fp_PI_1 (show 14 + 2 * p < jN by unfold jN; omega) (jshp_pic hp) rfl rfl rfl ?_
  refine jv_aload_n 0 (pc := 8) d_PI_copy_8 rfl ?_
  refine jv_aload_n 1 (pc := 9) d_PI_copy_9 rfl ?_
  refine jv_geti (pc := 10) d_PI_copy_10 fa_PI_19_PI (show 14 + 2 * q < jN by unfold jN; omega) (jshp_pic hq) rfl ?_
  refine jv_puti (pc := 13) d_PI_copy_13 fa_PI_19_PI fp_PI_2 (show 14 + 2 * p < jN by unfold jN; omega) (jshp_pic hp) rfl rfl rfl ?_
  refine jv_aload_n 1 (pc := 16) d_PI_copy_16 rfl ?_
  refine jv_getr (pc := 17) d_PI_copy_17 fa_PI_9_PI (show 14 + 2 * q < jN by unfold jN; omega) (jshp_pic hq) rfl ?_
  refine jv_iconst 0 (pc := 20) d_PI_copy_20 rfl ?_
  refine jv_aload_n 0 (pc := 21) d_PI_copy_21 rfl ?_
  refine jv_getr (pc := 22) d_PI_copy_22 fa_PI_9_PI (show 14 + 2 * p < jN by unfold jN; omega) (jshp_pic hp) rfl ?_
  refine jv_iconst 0 (pc := 25) d_PI_copy_25 rfl ?_
  refine jv_bipush (24) (pc := 26) d_PI_copy_26 rfl ?_
  refine jv_copy (pc := 28) d_PI_copy_28 (jin3 147 rfl rfl) (show 15 + 2 * q < jN by unfold jN; omega) (jshp_row hq) (show 15 + 2 * p < jN by unfold jN; omega) (jshp_row hp) (by decide) (by decide) (by decide) (by decide) (by decide) (by decide) (show 0 + (nativeFrameWords "java/lang/System" "arraycopy" 5 + 11) ≤ 40 * 1 by decide +kernel) ?_
  refine jv_vret (pc := 31) d_PI_copy_31 rfl (Nat.zero_le _) (Nat.zero_le _) ?_
  cases H
  exact jU.of rfl
set_option maxRecDepth 40000 in
set_option maxHeartbeats 8000000 in
theorem lp_PI_stamp_36 {G : jG} (p : Nat) (q : Nat) (hp : p < 12) (hq : q < 12) : ∀ (n : Nat) (x2 x3 x4 x5 x6 : Int32) (σ τ : jMem) (r : Unit), f_PI_stamp_L36 p q n x2 x3 x4 x5 x6 σ = some (r, τ) → jV G M_PI_stamp (jr 1 0 0) (jU fun τ9 => τ9 = τ) 0 0 36 [(0, .ref (14 + 2 * p)), (1, .ref (14 + 2 * q)), (2, .int x2), (3, .int x3), (4, .int x4), (5, .int x5), (6, .int x6)] [] σ := by
  intro n
  induction n with
  | zero =>
    intro x2 x3 x4 x5 x6 σ τ r H
    cases H
  | succ n ih =>
    intro x2 x3 x4 x5 x6 σ τ r H
    rw [f_PI_stamp_L36.eq_2] at H
    refine jv_iload 6 (pc := 36) d_PI_stamp_36 rfl ?_
    refine jv_aload_n 1 (pc := 38) d_PI_stamp_38 rfl ?_
    refine jv_geti (pc := 39) d_PI_stamp_39 fa_PI_19_PI (show 14 + 2 * q < jN by unfold jN; omega) (jshp_pic hq) rfl ?_
    refine jv_icmp_ge 121 (pc := 42) d_PI_stamp_42 rfl (fun h42 => ?_) (fun h42 => ?_)
    · have h42 : (σ (14 + 2 * q) 2) ≤ x6 := h42
      have H := (if_pos h42).symm.trans H
      refine jv_vret (pc := 121) d_PI_stamp_121 rfl (Nat.zero_le _) (Nat.zero_le _) ?_
      cases H
      exact jU.of rfl
    · have h42 : ¬ ((σ (14 + 2 * q) 2) ≤ x6) := h42
      have H := (if_neg h42).symm.trans H
      refine jv_iload_n 3 (pc := 45) d_PI_stamp_45 rfl ?_
      refine jv_iload 6 (pc := 46) d_PI_stamp_46 rfl ?_
      refine jv_iadd (pc := 48) d_PI_stamp_48 ?_
      refine jv_istore (pc := 49) d_PI_stamp_49 (by decide) (jsto_new rfl) ?_
      refine jv_iload 0 (pc := 51) d_PI_stamp_51 rfl ?_
      refine jv_if_lt 115 (pc := 53) d_PI_stamp_53 rfl (fun h53 => ?_) (fun h53 => ?_)
      · have h53 : (x3 + x6) < 0 := h53
        have H := (if_pos h53).symm.trans H
        refine jv_iinc 7 _ (pc := 115) d_PI_stamp_115 rfl (jinc1 _) (by decide) (jst7 rfl) ?_
        refine jv_goto 36 (pc := 118) d_PI_stamp_118 rfl ?_
        exact jv_sub [1, 2, 3, 4, 5, 6, 7] rfl (ih x2 x3 x4 x5 (x6 + 1) _ _ _ H)
      · have h53 : ¬ ((x3 + x6) < 0) := h53
        have H := (if_neg h53).symm.trans H
        refine jv_iload 0 (pc := 56) d_PI_stamp_56 rfl ?_
        refine jv_aload_n 1 (pc := 58) d_PI_stamp_58 rfl ?_
        refine jv_geti (pc := 59) d_PI_stamp_59 fa_PI_19_PI (show 14 + 2 * p < jN by unfold jN; omega) (jshp_pic hp) rfl ?_
        refine jv_icmp_ge 115 (pc := 62) d_PI_stamp_62 rfl (fun h62 => ?_) (fun h62 => ?_)
        · have h62 : (σ (14 + 2 * p) 2) ≤ (x3 + x6) := h62
          have H := (if_pos h62).symm.trans H
          refine jv_iinc 7 _ (pc := 115) d_PI_stamp_115 rfl (jinc1 _) (by decide) (jst7 rfl) ?_
          refine jv_goto 36 (pc := 118) d_PI_stamp_118 rfl ?_
          exact jv_sub [1, 2, 3, 4, 5, 6, 7] rfl (ih x2 x3 x4 x5 (x6 + 1) _ _ _ H)
        · have h62 : ¬ ((σ (14 + 2 * p) 2) ≤ (x3 + x6)) := h62
          have H := (if_neg h62).symm.trans H
          refine jv_aload_n 1 (pc := 65) d_PI_stamp_65 rfl ?_
          refine jv_getr (pc := 66) d_PI_stamp_66 fa_PI_9_PI (show 14 + 2 * p < jN by unfold jN; omega) (jshp_pic hp) rfl ?_
          refine jv_iload 0 (pc := 69) d_PI_stamp_69 rfl ?_
          obtain ⟨b71, H⟩ := jck_some H
          refine jv_iald (pc := 71) d_PI_stamp_71 (show 15 + 2 * p < jN by unfold jN; omega) (jshp_row hp) b71 ?_
          refine jv_aload_n 2 (pc := 72) d_PI_stamp_72 rfl ?_
          refine jv_getr (pc := 73) d_PI_stamp_73 fa_PI_9_PI (show 14 + 2 * q < jN by unfold jN; omega) (jshp_pic hq) rfl ?_
          refine jv_iload 7 (pc := 76) d_PI_stamp_76 rfl ?_
          obtain ⟨b78, H⟩ := jck_some H
          refine jv_iald (pc := 78) d_PI_stamp_78 (show 15 + 2 * q < jN by unfold jN; omega) (jshp_row hq) b78 ?_
          refine jv_iload_n 3 (pc := 79) d_PI_stamp_79 rfl ?_
          refine jv_callSi (sp_PI_shifted (σ (15 + 2 * q) x6.toNatClampNeg) x2) (pc := 80) d_PI_stamp_80 c0_PI_shifted lk_PI_48 si_PI_shifted rfl (Nat.le_of_ble_eq_true rfl) ⟨by decide, by decide, by decide, by decide⟩ (fun r80 m80 h80 => ?_)
          obtain ⟨ha80, hb80⟩ := h80
          subst ha80
          have hb80 := hb80.symm
          subst hb80
          refine jv_iload 5 (pc := 83) d_PI_stamp_83 rfl ?_
          refine jv_callSi (sp_PI_mixed (σ (15 + 2 * p) ((x3 + x6).toNatClampNeg)) (f_PI_shifted (σ (15 + 2 * q) x6.toNatClampNeg) x2 σ) x4) (pc := 85) d_PI_stamp_85 c0_PI_mixed lk_PI_52 si_PI_mixed rfl (Nat.le_of_ble_eq_true rfl) ⟨by decide, by decide, by decide, by decide⟩ (fun r85 m85 h85 => ?_)
          obtain ⟨ha85, hb85⟩ := h85
          subst ha85
          have hb85 := hb85.symm
          subst hb85
          refine jv_istore (pc := 88) d_PI_stamp_88 (by decide) (jsto_new rfl) ?_
          refine jv_aload_n 2 (pc := 90) d_PI_stamp_90 rfl ?_
          refine jv_getr (pc := 91) d_PI_stamp_91 fa_PI_9_PI (show 14 + 2 * p < jN by unfold jN; omega) (jshp_pic hp) rfl ?_
          refine jv_iload 1 (pc := 94) d_PI_stamp_94 rfl ?_
          refine jv_aload_n 2 (pc := 96) d_PI_stamp_96 rfl ?_
          refine jv_getr (pc := 97) d_PI_stamp_97 fa_PI_9_PI (show 14 + 2 * p < jN by unfold jN; omega) (jshp_pic hp) rfl ?_
          refine jv_iload 1 (pc := 100) d_PI_stamp_100 rfl ?_
          obtain ⟨b102, H⟩ := jck_some H
          refine jv_iald (pc := 102) d_PI_stamp_102 (show 15 + 2 * p < jN by unfold jN; omega) (jshp_row hp) b102 ?_
          refine jv_iload 7 (pc := 103) d_PI_stamp_103 rfl ?_
          refine jv_iconst (-1) (pc := 105) d_PI_stamp_105 rfl ?_
          refine jv_ixor (pc := 106) d_PI_stamp_106 ?_
          refine jv_iand (pc := 107) d_PI_stamp_107 ?_
          refine jv_iload 0 (pc := 108) d_PI_stamp_108 rfl ?_
          refine jv_iload 7 (pc := 110) d_PI_stamp_110 rfl ?_
          refine jv_iand (pc := 112) d_PI_stamp_112 ?_
          refine jv_ior (pc := 113) d_PI_stamp_113 ?_
          obtain ⟨b114, H⟩ := jck_some H
          refine jv_iast (pc := 114) d_PI_stamp_114 (show 15 + 2 * p < jN by unfold jN; omega) (jshp_row hp) b114 ?_
          refine jv_iinc 8 _ (pc := 115) d_PI_stamp_115 rfl (jinc1 _) (by decide) (jst8 rfl) ?_
          refine jv_goto 36 (pc := 118) d_PI_stamp_118 rfl ?_
          exact jv_sub [2, 3, 4, 5, 6, 7, 8] rfl (ih x2 x3 x4 x5 (x6 + 1) _ _ _ H)
set_option maxRecDepth 40000 in
set_option maxHeartbeats 8000000 in
theorem sp_PI_stamp {G : jG} {σ τ : jMem} {r : Unit} (p : Nat) (q : Nat) (x2 x3 x4 : Int32) (hp : p < 12) (hq : q < 12) (H : f_PI_stamp p q x2 x3 x4 σ = some (r, τ)) : jSp G M_PI_stamp (jr 1 0 0) [.ref (14 + 2 * p), .ref (14 + 2 * q), .int x2, .int x3, .int x4] σ (jU fun τ9 => τ9 = τ) := by
  refine jSp.of rfl rfl (Nat.le_of_ble_eq_true rfl) ?_
  show jV _ _ _ _ 0 0 0 [(0, .ref (14 + 2 * p)), (1, .ref (14 + 2 * q)), (2, .int x2), (3, .int x3), (4, .int x4)] [] σ
  unfold f_PI_stamp at H
  refine jv_iload_n 2 (pc := 0) d_PI_stamp_0 rfl ?_
  refine jv_aload_n 0 (pc := 1) d_PI_stamp_1 rfl ?_
  refine jv_geti (pc := 2) d_PI_stamp_2 fa_PI_15_PI (show 14 + 2 * p < jN by unfold jN; omega) (jshp_pic hp) rfl ?_
  refine jv_icmp_ge 17 (pc := 5) d_PI_stamp_5 rfl (fun h5 => ?_) (fun h5 => ?_)
  · have h5 : (σ (14 + 2 * p) 1) ≤ x2 := h5
    have H := (if_pos h5).symm.trans H
    refine jv_vret (pc := 17) d_PI_stamp_17 rfl (Nat.zero_le _) (Nat.zero_le _) ?_
    cases H
    exact jU.of rfl
  · have h5 : ¬ ((σ (14 + 2 * p) 1) ≤ x2) := h5
    have H := (if_neg h5).symm.trans H
    refine jv_iload_n 2 (pc := 8) d_PI_stamp_8 rfl ?_
    refine jv_aload_n 1 (pc := 9) d_PI_stamp_9 rfl ?_
    refine jv_geti (pc := 10) d_PI_stamp_10 fa_PI_15_PI (show 14 + 2 * q < jN by unfold jN; omega) (jshp_pic hq) rfl ?_
    refine jv_ineg (pc := 13) d_PI_stamp_13 ?_
    refine jv_icmp_gt 18 (pc := 14) d_PI_stamp_14 rfl (fun h14 => ?_) (fun h14 => ?_)
    · have h14 : (-(σ (14 + 2 * q) 1)) < x2 := h14
      have H := (if_pos h14).symm.trans H
      refine jv_aload_n 1 (pc := 18) d_PI_stamp_18 rfl ?_
      obtain ⟨v19, n19, c19, H⟩ := jbd_some H
      refine jv_callVi (sp_PI_allColumns q hq c19) (pc := 19) d_PI_stamp_19 c0_PI_allColumns lk_PI_44 in_PI_allColumns se_PI_allColumns (show 14 + 2 * q < jN by unfold jN; omega) (jshp_pic hq) rfl rfl (Nat.le_of_ble_eq_true rfl) ⟨by decide, by decide, by decide, by decide⟩ (fun r19 m19 h19 => ?_)
      obtain ⟨ha19, hb19⟩ := h19
      have ha19 := ha19.symm
      subst ha19
      have hb19 := hb19.symm
      subst hb19
      refine jv_iload_n 2 (pc := 22) d_PI_stamp_22 rfl ?_
      refine jv_callSi (sp_PI_shifted v19 x2) (pc := 23) d_PI_stamp_23 c0_PI_shifted lk_PI_48 si_PI_shifted rfl (Nat.le_of_ble_eq_true rfl) ⟨by decide, by decide, by decide, by decide⟩ (fun r23 m23 h23 => ?_)
      obtain ⟨ha23, hb23⟩ := h23
      subst ha23
      have hb23 := hb23.symm
      subst hb23
      refine jv_aload_n 0 (pc := 26) d_PI_stamp_26 rfl ?_
      obtain ⟨v27, n27, c27, H⟩ := jbd_some H
      refine jv_callVi (sp_PI_allColumns p hp c27) (pc := 27) d_PI_stamp_27 c0_PI_allColumns lk_PI_44 in_PI_allColumns se_PI_allColumns (show 14 + 2 * p < jN by unfold jN; omega) (jshp_pic hp) rfl rfl (Nat.le_of_ble_eq_true rfl) ⟨by decide, by decide, by decide, by decide⟩ (fun r27 m27 h27 => ?_)
      obtain ⟨ha27, hb27⟩ := h27
      have ha27 := ha27.symm
      subst ha27
      have hb27 := hb27.symm
      subst hb27
      refine jv_iand (pc := 30) d_PI_stamp_30 ?_
      refine jv_istore (pc := 31) d_PI_stamp_31 (by decide) (jsto_new rfl) ?_
      refine jv_iconst 0 (pc := 33) d_PI_stamp_33 rfl ?_
      refine jv_istore (pc := 34) d_PI_stamp_34 (by decide) (jsto_new rfl) ?_
      exact jv_sub [2, 3, 4, 5, 6, 1, 0] rfl (lp_PI_stamp_36 p q hp hq _ x2 x3 x4 ((f_PI_shifted v19 x2 n19) &&& v27) (0 : Int32) _ _ _ H)
    · have h14 : ¬ ((-(σ (14 + 2 * q) 1)) < x2) := h14
      have H := (if_neg h14).symm.trans H
      refine jv_vret (pc := 17) d_PI_stamp_17 rfl (Nat.zero_le _) (Nat.zero_le _) ?_
      cases H
      exact jU.of rfl
set_option maxRecDepth 40000 in
set_option maxHeartbeats 8000000 in
theorem sp_MR_set {G : jG} {σ τ : jMem} {r : Unit} (x1 x2 x3 x4 : Int32) (H : f_MR_set x1 x2 x3 x4 σ = some (r, τ)) : jSp G M_MR_set (jr 0 0 0) [.ref 4, .int x1, .int x2, .int x3, .int x4] σ (jU fun τ9 => τ9 = τ) := by
  refine jSp.of rfl rfl (Nat.le_of_ble_eq_true rfl) ?_
  show jV _ _ _ _ 0 0 0 [(0, .ref 4), (1, .int x1), (2, .int x2), (3, .int x3), (4, .int x4)] [] σ
  unfold f_MR_set at H
  refine jv_aload_n 0 (pc := 0) d_MR_set_0 rfl ?_
  refine jv_getr (pc := 1) d_MR_set_1 fa_MR_9_MR (by decide) rfl rfl ?_
  refine jv_iload_n 1 (pc := 4) d_MR_set_4 rfl ?_
  refine jv_iload_n 2 (pc := 5) d_MR_set_5 rfl ?_
  obtain ⟨b6, H⟩ := jck_some H
  refine jv_iast (pc := 6) d_MR_set_6 (by decide) rfl b6 ?_
  refine jv_aload_n 0 (pc := 7) d_MR_set_7 rfl ?_
  refine jv_getr (pc := 8) d_MR_set_8 fa_MR_13_MR (by decide) rfl rfl ?_
  refine jv_iload_n 1 (pc := 11) d_MR_set_11 rfl ?_
  refine jv_iload_n 3 (pc := 12) d_MR_set_12 rfl ?_
  obtain ⟨b13, H⟩ := jck_some H
  refine jv_iast (pc := 13) d_MR_set_13 (by decide) rfl b13 ?_
  refine jv_aload_n 0 (pc := 14) d_MR_set_14 rfl ?_
  refine jv_getr (pc := 15) d_MR_set_15 fa_MR_16_MR (by decide) rfl rfl ?_
  refine jv_iload_n 1 (pc := 18) d_MR_set_18 rfl ?_
  refine jv_iload 4 (pc := 19) d_MR_set_19 rfl ?_
  obtain ⟨b21, H⟩ := jck_some H
  refine jv_iast (pc := 21) d_MR_set_21 (by decide) rfl b21 ?_
  refine jv_vret (pc := 22) d_MR_set_22 rfl (Nat.zero_le _) (Nat.zero_le _) ?_
  cases H
  exact jU.of rfl
set_option maxRecDepth 40000 in
set_option maxHeartbeats 8000000 in
theorem sp_MR_endsBehind {G : jG} {σ τ : jMem} {r : Int32} (x1 : Int32) (H : f_MR_endsBehind x1 σ = some (r, τ)) : jSp G M_MR_endsBehind (jr 0 0 0) [.ref 4, .int x1] σ (jI fun r9 τ9 => r9 = r ∧ τ9 = τ) := by
  refine jSp.of rfl rfl (Nat.le_of_ble_eq_true rfl) ?_
  show jV _ _ _ _ 0 0 0 [(0, .ref 4), (1, .int x1)] [] σ
  unfold f_MR_endsBehind at H
  refine jv_aload_n 0 (pc := 0) d_MR_endsBehind_0 rfl ?_
  refine jv_geti (pc := 1) d_MR_endsBehind_1 fa_MR_19_MR (by decide) rfl rfl ?_
  refine jv_if_le 26 (pc := 4) d_MR_endsBehind_4 rfl (fun h4 => ?_) (fun h4 => ?_)
  · have h4 : (σ 4 3) ≤ 0 := h4
    have H := (if_pos h4).symm.trans H
    refine jv_iconst 0 (pc := 26) d_MR_endsBehind_26 rfl ?_
    refine jv_iret (pc := 27) d_MR_endsBehind_27 rfl rfl (Nat.zero_le _) (Nat.zero_le _) ?_
    cases H
    exact jI.of ⟨rfl, rfl⟩
  · have h4 : ¬ ((σ 4 3) ≤ 0) := h4
    have H := (if_neg h4).symm.trans H
    refine jv_aload_n 0 (pc := 7) d_MR_endsBehind_7 rfl ?_
    refine jv_getr (pc := 8) d_MR_endsBehind_8 fa_MR_16_MR (by decide) rfl rfl ?_
    refine jv_aload_n 0 (pc := 11) d_MR_endsBehind_11 rfl ?_
    refine jv_geti (pc := 12) d_MR_endsBehind_12 fa_MR_19_MR (by decide) rfl rfl ?_
    refine jv_iconst 1 (pc := 15) d_MR_endsBehind_15 rfl ?_
    refine jv_isub (pc := 16) d_MR_endsBehind_16 ?_
    obtain ⟨b17, H⟩ := jck_some H
    refine jv_iald (pc := 17) d_MR_endsBehind_17 (by decide) rfl b17 ?_
    refine jv_iload_n 1 (pc := 18) d_MR_endsBehind_18 rfl ?_
    refine jv_icmp_le 26 (pc := 19) d_MR_endsBehind_19 rfl (fun h19 => ?_) (fun h19 => ?_)
    · have h19 : (σ 7 (((σ 4 3) - (1 : Int32)).toNatClampNeg)) ≤ x1 := h19
      have H := (if_pos h19).symm.trans H
      refine jv_iconst 0 (pc := 26) d_MR_endsBehind_26 rfl ?_
      refine jv_iret (pc := 27) d_MR_endsBehind_27 rfl rfl (Nat.zero_le _) (Nat.zero_le _) ?_
      cases H
      exact jI.of ⟨rfl, rfl⟩
    · have h19 : ¬ ((σ 7 (((σ 4 3) - (1 : Int32)).toNatClampNeg)) ≤ x1) := h19
      have H := (if_neg h19).symm.trans H
      refine jv_iconst 1 (pc := 22) d_MR_endsBehind_22 rfl ?_
      refine jv_goto 27 (pc := 23) d_MR_endsBehind_23 rfl ?_
      refine jv_iret (pc := 27) d_MR_endsBehind_27 rfl rfl (Nat.zero_le _) (Nat.zero_le _) ?_
      cases H
      exact jI.of ⟨rfl, rfl⟩
set_option maxRecDepth 40000 in
set_option maxHeartbeats 8000000 in
theorem sp_BR_append {G : jG} {σ τ : jMem} {r : Int32} (x1 : Int32) (H : f_BR_append x1 σ = some (r, τ)) : jSp G M_BR_append (jr 0 0 0) [.ref 8, .int x1] σ (jI fun r9 τ9 => r9 = r ∧ τ9 = τ) := by
  refine jSp.of rfl rfl (Nat.le_of_ble_eq_true rfl) ?_
  show jV _ _ _ _ 0 0 0 [(0, .ref 8), (1, .int x1)] [] σ
  unfold f_BR_append at H
  refine jv_aload_n 0 (pc := 0) d_BR_append_0 rfl ?_
  refine jv_geti (pc := 1) d_BR_append_1 fa_BR_13_BR (by decide) rfl rfl ?_
  refine jv_sipush (600) (pc := 4) d_BR_append_4 rfl ?_
  refine jv_icmp_ne 12 (pc := 7) d_BR_append_7 rfl (fun h7 => ?_) (fun h7 => ?_)
  · have h7 : ¬ ((σ 8 1) = (600 : Int32)) := h7
    have H := (if_neg h7).symm.trans H
    refine jv_aload_n 0 (pc := 12) d_BR_append_12 rfl ?_
    refine jv_getr (pc := 13) d_BR_append_13 fa_BR_9_BR (by decide) rfl rfl ?_
    refine jv_aload_n 0 (pc := 16) d_BR_append_16 rfl ?_
    refine jv_geti (pc := 17) d_BR_append_17 fa_BR_13_BR (by decide) rfl rfl ?_
    refine jv_iload_n 1 (pc := 20) d_BR_append_20 rfl ?_
    obtain ⟨b21, H⟩ := jck_some H
    refine jv_iast (pc := 21) d_BR_append_21 (by decide) rfl b21 ?_
    refine jv_aload_n 0 (pc := 22) d_BR_append_22 rfl ?_
    refine jv_dup (pc := 23) d_BR_append_23 rfl ?_
    refine jv_geti (pc := 24) d_BR_append_24 fa_BR_13_BR (by decide) rfl rfl ?_
    refine jv_iconst 1 (pc := 27) d_BR_append_27 rfl ?_
    refine jv_iadd (pc := 28) d_BR_append_28 ?_
    refine jv_puti (pc := 29) d_BR_append_29 fa_BR_13_BR fp_BR_1 (by decide) rfl rfl rfl rfl ?_
    refine jv_iconst 1 (pc := 32) d_BR_append_32 rfl ?_
    refine jv_iret (pc := 33) d_BR_append_33 rfl rfl (Nat.zero_le _) (Nat.zero_le _) ?_
    cases H
    exact jI.of ⟨rfl, rfl⟩
  · have h7 : (σ 8 1) = (600 : Int32) := h7
    have H := (if_pos h7).symm.trans H
    refine jv_iconst 0 (pc := 10) d_BR_append_10 rfl ?_
    refine jv_iret (pc := 11) d_BR_append_11 rfl rfl (Nat.zero_le _) (Nat.zero_le _) ?_
    cases H
    exact jI.of ⟨rfl, rfl⟩
set_option maxRecDepth 40000 in
set_option maxHeartbeats 8000000 in
theorem sp_BR_at {G : jG} {σ τ : jMem} {r : Int32} (x1 : Int32) (H : f_BR_at x1 σ = some (r, τ)) : jSp G M_BR_at (jr 0 0 0) [.ref 8, .int x1] σ (jI fun r9 τ9 => r9 = r ∧ τ9 = τ) := by
  refine jSp.of rfl rfl (Nat.le_of_ble_eq_true rfl) ?_
  show jV _ _ _ _ 0 0 0 [(0, .ref 8), (1, .int x1)] [] σ
  unfold f_BR_at at H
  refine jv_iload_n 1 (pc := 0) d_BR_at_0 rfl ?_
  refine jv_aload_n 0 (pc := 1) d_BR_at_1 rfl ?_
  refine jv_geti (pc := 2) d_BR_at_2 fa_BR_13_BR (by decide) rfl rfl ?_
  refine jv_icmp_ge 17 (pc := 5) d_BR_at_5 rfl (fun h5 => ?_) (fun h5 => ?_)
  · have h5 : (σ 8 1) ≤ x1 := h5
    have H := (if_pos h5).symm.trans H
    refine jv_sipush (255) (pc := 17) d_BR_at_17 rfl ?_
    refine jv_iret (pc := 20) d_BR_at_20 rfl rfl (Nat.zero_le _) (Nat.zero_le _) ?_
    cases H
    exact jI.of ⟨rfl, rfl⟩
  · have h5 : ¬ ((σ 8 1) ≤ x1) := h5
    have H := (if_neg h5).symm.trans H
    refine jv_aload_n 0 (pc := 8) d_BR_at_8 rfl ?_
    refine jv_getr (pc := 9) d_BR_at_9 fa_BR_9_BR (by decide) rfl rfl ?_
    refine jv_iload_n 1 (pc := 12) d_BR_at_12 rfl ?_
    obtain ⟨b13, H⟩ := jck_some H
    refine jv_iald (pc := 13) d_BR_at_13 (by decide) rfl b13 ?_
    refine jv_goto 20 (pc := 14) d_BR_at_14 rfl ?_
    refine jv_iret (pc := 20) d_BR_at_20 rfl rfl (Nat.zero_le _) (Nat.zero_le _) ?_
    cases H
    exact jI.of ⟨rfl, rfl⟩
set_option maxRecDepth 40000 in
set_option maxHeartbeats 8000000 in
theorem sp_BR_replaceLast {G : jG} {σ τ : jMem} {r : Unit} (x1 : Int32) (H : f_BR_replaceLast x1 σ = some (r, τ)) : jSp G M_BR_replaceLast (jr 0 0 0) [.ref 8, .int x1] σ (jU fun τ9 => τ9 = τ) := by
  refine jSp.of rfl rfl (Nat.le_of_ble_eq_true rfl) ?_
  show jV _ _ _ _ 0 0 0 [(0, .ref 8), (1, .int x1)] [] σ
  unfold f_BR_replaceLast at H
  refine jv_aload_n 0 (pc := 0) d_BR_replaceLast_0 rfl ?_
  refine jv_geti (pc := 1) d_BR_replaceLast_1 fa_BR_13_BR (by decide) rfl rfl ?_
  refine jv_if_le 19 (pc := 4) d_BR_replaceLast_4 rfl (fun h4 => ?_) (fun h4 => ?_)
  · have h4 : (σ 8 1) ≤ 0 := h4
    have H := (if_pos h4).symm.trans H
    refine jv_vret (pc := 19) d_BR_replaceLast_19 rfl (Nat.zero_le _) (Nat.zero_le _) ?_
    cases H
    exact jU.of rfl
  · have h4 : ¬ ((σ 8 1) ≤ 0) := h4
    have H := (if_neg h4).symm.trans H
    refine jv_aload_n 0 (pc := 7) d_BR_replaceLast_7 rfl ?_
    refine jv_getr (pc := 8) d_BR_replaceLast_8 fa_BR_9_BR (by decide) rfl rfl ?_
    refine jv_aload_n 0 (pc := 11) d_BR_replaceLast_11 rfl ?_
    refine jv_geti (pc := 12) d_BR_replaceLast_12 fa_BR_13_BR (by decide) rfl rfl ?_
    refine jv_iconst 1 (pc := 15) d_BR_replaceLast_15 rfl ?_
    refine jv_isub (pc := 16) d_BR_replaceLast_16 ?_
    refine jv_iload_n 1 (pc := 17) d_BR_replaceLast_17 rfl ?_
    obtain ⟨b18, H⟩ := jck_some H
    refine jv_iast (pc := 18) d_BR_replaceLast_18 (by decide) rfl b18 ?_
    refine jv_vret (pc := 19) d_BR_replaceLast_19 rfl (Nat.zero_le _) (Nat.zero_le _) ?_
    cases H
    exact jU.of rfl
set_option maxRecDepth 20000 in
set_option maxHeartbeats 2000000 in
theorem sp_CX_isTurn {G : jG} {σ : jMem} (x0 : Int32) : jSp G M_CX_isTurn (jr 0 0 0) [.int x0] σ (jI fun r τ => r = f_CX_isTurn x0 σ ∧ τ = σ) := by
  refine jSp.of rfl rfl (Nat.le_of_ble_eq_true rfl) ?_
  show jV _ _ _ _ 0 0 0 [(0, .int x0)] [] σ
  refine jv_iload_n 0 (pc := 0) d_CX_isTurn_0 rfl ?_
  refine jv_if_eq 16 (pc := 1) d_CX_isTurn_1 rfl (fun h1 => ?_) (fun h1 => ?_)
  · skip
    refine jv_iconst 1 (pc := 16) d_CX_isTurn_16 rfl ?_
    refine jv_goto 21 (pc := 17) d_CX_isTurn_17 rfl ?_
    refine jv_iret (pc := 21) d_CX_isTurn_21 rfl ?_ (by decide) (by decide) ?_
    · rfl
    have h1 : x0 = 0 := h1
    refine jI.of ?_
    unfold f_CX_isTurn
    rw [if_pos h1]
    exact ⟨rfl, rfl⟩
  · skip
    refine jv_iload_n 0 (pc := 4) d_CX_isTurn_4 rfl ?_
    refine jv_bipush (6) (pc := 5) d_CX_isTurn_5 rfl ?_
    refine jv_icmp_eq 16 (pc := 7) d_CX_isTurn_7 rfl (fun h7 => ?_) (fun h7 => ?_)
    · skip
      refine jv_iconst 1 (pc := 16) d_CX_isTurn_16 rfl ?_
      refine jv_goto 21 (pc := 17) d_CX_isTurn_17 rfl ?_
      refine jv_iret (pc := 21) d_CX_isTurn_21 rfl ?_ (by decide) (by decide) ?_
      · rfl
      have h1 : ¬ (x0 = 0) := h1
      have h7 : x0 = (6 : Int32) := h7
      refine jI.of ?_
      unfold f_CX_isTurn
      rw [if_neg h1, if_pos h7]
      exact ⟨rfl, rfl⟩
    · skip
      refine jv_iload_n 0 (pc := 10) d_CX_isTurn_10 rfl ?_
      refine jv_bipush (14) (pc := 11) d_CX_isTurn_11 rfl ?_
      refine jv_icmp_ne 20 (pc := 13) d_CX_isTurn_13 rfl (fun h13 => ?_) (fun h13 => ?_)
      · skip
        refine jv_iconst 0 (pc := 20) d_CX_isTurn_20 rfl ?_
        refine jv_iret (pc := 21) d_CX_isTurn_21 rfl ?_ (by decide) (by decide) ?_
        · rfl
        have h1 : ¬ (x0 = 0) := h1
        have h7 : ¬ (x0 = (6 : Int32)) := h7
        have h13 : ¬ (x0 = (14 : Int32)) := h13
        refine jI.of ?_
        unfold f_CX_isTurn
        rw [if_neg h1, if_neg h7, if_neg h13]
        exact ⟨rfl, rfl⟩
      · skip
        refine jv_iconst 1 (pc := 16) d_CX_isTurn_16 rfl ?_
        refine jv_goto 21 (pc := 17) d_CX_isTurn_17 rfl ?_
        refine jv_iret (pc := 21) d_CX_isTurn_21 rfl ?_ (by decide) (by decide) ?_
        · rfl
        have h1 : ¬ (x0 = 0) := h1
        have h7 : ¬ (x0 = (6 : Int32)) := h7
        have h13 : x0 = (14 : Int32) := h13
        refine jI.of ?_
        unfold f_CX_isTurn
        rw [if_neg h1, if_neg h7, if_pos h13]
        exact ⟨rfl, rfl⟩
theorem fb_CX_isTurn (x0 : Int32) (σ : jMem) : f_CX_isTurn x0 σ = 0 ∨ f_CX_isTurn x0 σ = 1 := by
  unfold f_CX_isTurn
  repeat' split
  all_goals first | exact Or.inl rfl | exact Or.inr rfl
set_option maxRecDepth 40000 in
set_option maxHeartbeats 8000000 in
theorem sp_CX_renew {G : jG} {σ τ : jMem} {r : Unit} (H : f_CX_renew σ = some (r, τ)) : jSp G M_CX_renew (jr 1 0 0) [.ref 10] σ (jU fun τ9 => τ9 = τ) := by
  refine jSp.of rfl rfl (Nat.le_of_ble_eq_true rfl) ?_
  show jV _ _ _ _ 0 0 0 [(0, .ref 10)] [] σ
  unfold f_CX_renew at H
  refine jv_aload_n 0 (pc := 0) d_CX_renew_0 rfl ?_
  refine jv_getr (pc := 1) d_CX_renew_1 fa_CX_9_CX (by decide) rfl rfl ?_
  refine jv_iconst 0 (pc := 4) d_CX_renew_4 rfl ?_
  obtain ⟨_, n5, c5, H⟩ := jbd_some H
  refine jv_callSv (sp_AR_fill_11 (0 : Int32) c5) (pc := 5) d_CX_renew_5 c0_AR_fill lk_CX_13 si_AR_fill rfl (Nat.le_of_ble_eq_true rfl) ⟨by decide, by decide, by decide, by decide⟩ (fun m5 h5 => ?_)
  have hb5 := h5
  have hb5 := hb5.symm
  subst hb5
  refine jv_vret (pc := 8) d_CX_renew_8 rfl (Nat.zero_le _) (Nat.zero_le _) ?_
  cases H
  exact jU.of rfl
set_option maxRecDepth 40000 in
set_option maxHeartbeats 8000000 in
theorem sp_CX_sizeOf {G : jG} {σ τ : jMem} {r : Int32} (x1 : Int32) (H : f_CX_sizeOf x1 σ = some (r, τ)) : jSp G M_CX_sizeOf (jr 0 0 0) [.ref 10, .int x1] σ (jI fun r9 τ9 => r9 = r ∧ τ9 = τ) := by
  refine jSp.of rfl rfl (Nat.le_of_ble_eq_true rfl) ?_
  show jV _ _ _ _ 0 0 0 [(0, .ref 10), (1, .int x1)] [] σ
  unfold f_CX_sizeOf at H
  refine jv_gets (pc := 0) d_CX_sizeOf_0 gs_CX_19 ?_
  refine jv_aload_n 0 (pc := 3) d_CX_sizeOf_3 rfl ?_
  refine jv_getr (pc := 4) d_CX_sizeOf_4 fa_CX_9_CX (by decide) rfl rfl ?_
  refine jv_iload_n 1 (pc := 7) d_CX_sizeOf_7 rfl ?_
  obtain ⟨b8, H⟩ := jck_some H
  refine jv_iald (pc := 8) d_CX_sizeOf_8 (by decide) rfl b8 ?_
  refine jv_iconst 1 (pc := 9) d_CX_sizeOf_9 rfl ?_
  refine jv_ishr (pc := 10) d_CX_sizeOf_10 ?_
  obtain ⟨b11, H⟩ := jck_some H
  refine jv_tald (q := jS_SIZES) (pc := 11) d_CX_sizeOf_11 (List.mem_of_getElem? (i := 0) rfl) b11 ?_
  refine jv_iret (pc := 12) d_CX_sizeOf_12 rfl rfl (Nat.zero_le _) (Nat.zero_le _) ?_
  cases H
  exact jI.of ⟨rfl, rfl⟩
set_option maxRecDepth 40000 in
set_option maxHeartbeats 8000000 in
theorem sp_CX_likely {G : jG} {σ τ : jMem} {r : Int32} (x1 : Int32) (H : f_CX_likely x1 σ = some (r, τ)) : jSp G M_CX_likely (jr 0 0 0) [.ref 10, .int x1] σ (jI fun r9 τ9 => r9 = r ∧ τ9 = τ) := by
  refine jSp.of rfl rfl (Nat.le_of_ble_eq_true rfl) ?_
  show jV _ _ _ _ 0 0 0 [(0, .ref 10), (1, .int x1)] [] σ
  unfold f_CX_likely at H
  refine jv_aload_n 0 (pc := 0) d_CX_likely_0 rfl ?_
  refine jv_getr (pc := 1) d_CX_likely_1 fa_CX_9_CX (by decide) rfl rfl ?_
  refine jv_iload_n 1 (pc := 4) d_CX_likely_4 rfl ?_
  obtain ⟨b5, H⟩ := jck_some H
  refine jv_iald (pc := 5) d_CX_likely_5 (by decide) rfl b5 ?_
  refine jv_iconst 1 (pc := 6) d_CX_likely_6 rfl ?_
  refine jv_iand (pc := 7) d_CX_likely_7 ?_
  refine jv_iret (pc := 8) d_CX_likely_8 rfl rfl (Nat.zero_le _) (Nat.zero_le _) ?_
  cases H
  exact jI.of ⟨rfl, rfl⟩
set_option maxRecDepth 40000 in
set_option maxHeartbeats 8000000 in
theorem sp_CX_adapt {G : jG} {σ τ : jMem} {r : Unit} (x1 x2 : Int32) (H : f_CX_adapt x1 x2 σ = some (r, τ)) : jSp G M_CX_adapt (jr 1 0 0) [.ref 10, .int x1, .int x2] σ (jU fun τ9 => τ9 = τ) := by
  refine jSp.of rfl rfl (Nat.le_of_ble_eq_true rfl) ?_
  show jV _ _ _ _ 0 0 0 [(0, .ref 10), (1, .int x1), (2, .int x2)] [] σ
  unfold f_CX_adapt at H
  refine jv_aload_n 0 (pc := 0) d_CX_adapt_0 rfl ?_
  refine jv_getr (pc := 1) d_CX_adapt_1 fa_CX_9_CX (by decide) rfl rfl ?_
  refine jv_iload_n 1 (pc := 4) d_CX_adapt_4 rfl ?_
  obtain ⟨b5, H⟩ := jck_some H
  refine jv_iald (pc := 5) d_CX_adapt_5 (by decide) rfl b5 ?_
  refine jv_iconst 1 (pc := 6) d_CX_adapt_6 rfl ?_
  refine jv_ishr (pc := 7) d_CX_adapt_7 ?_
  refine jv_istore_n (pc := 8) d_CX_adapt_8 rfl (by decide) (jsto_new rfl) ?_
  refine jv_aload_n 1 (pc := 9) d_CX_adapt_9 rfl ?_
  refine jv_getr (pc := 10) d_CX_adapt_10 fa_CX_9_CX (by decide) rfl rfl ?_
  refine jv_iload_n 2 (pc := 13) d_CX_adapt_13 rfl ?_
  obtain ⟨b14, H⟩ := jck_some H
  refine jv_iald (pc := 14) d_CX_adapt_14 (by decide) rfl b14 ?_
  refine jv_iconst 1 (pc := 15) d_CX_adapt_15 rfl ?_
  refine jv_iand (pc := 16) d_CX_adapt_16 ?_
  refine jv_istore (pc := 17) d_CX_adapt_17 (by decide) (jsto_new rfl) ?_
  refine jv_iload_n 4 (pc := 19) d_CX_adapt_19 rfl ?_
  refine jv_if_eq 42 (pc := 20) d_CX_adapt_20 rfl (fun h20 => ?_) (fun h20 => ?_)
  · have h20 : x2 = 0 := h20
    have H := (if_pos h20).symm.trans H
    refine jv_aload_n 2 (pc := 42) d_CX_adapt_42 rfl ?_
    refine jv_getr (pc := 43) d_CX_adapt_43 fa_CX_9_CX (by decide) rfl rfl ?_
    refine jv_iload_n 3 (pc := 46) d_CX_adapt_46 rfl ?_
    refine jv_iconst 2 (pc := 47) d_CX_adapt_47 rfl ?_
    refine jv_gets (pc := 48) d_CX_adapt_48 gs_CX_25 ?_
    refine jv_iload_n 1 (pc := 51) d_CX_adapt_51 rfl ?_
    obtain ⟨b52, H⟩ := jck_some H
    refine jv_tald (q := jS_LESS) (pc := 52) d_CX_adapt_52 (List.mem_of_getElem? (i := 2) rfl) b52 ?_
    refine jv_imul (pc := 53) d_CX_adapt_53 ?_
    refine jv_iload_n 1 (pc := 54) d_CX_adapt_54 rfl ?_
    refine jv_callSi (sp_CX_isTurn ((σ 11 x1.toNatClampNeg) >>> ((1 : Int32) &&& 31))) (pc := 55) d_CX_adapt_55 c0_CX_isTurn lk_CX_28 si_CX_isTurn rfl (Nat.le_of_ble_eq_true rfl) ⟨by decide, by decide, by decide, by decide⟩ (fun r55 m55 h55 => ?_)
    obtain ⟨ha55, hb55⟩ := h55
    subst ha55
    have hb55 := hb55.symm
    subst hb55
    refine jv_if_eq 68 (pc := 58) d_CX_adapt_58 rfl (fun h58 => ?_) (fun h58 => ?_)
    · have h58 : (f_CX_isTurn ((σ 11 x1.toNatClampNeg) >>> ((1 : Int32) &&& 31)) σ) = 0 := h58
      have H := (if_pos h58).symm.trans H
      refine jv_iload 0 (pc := 68) d_CX_adapt_68 rfl ?_
      refine jv_iadd (pc := 70) d_CX_adapt_70 ?_
      obtain ⟨b71, H⟩ := jck_some H
      refine jv_iast (pc := 71) d_CX_adapt_71 (by decide) rfl b71 ?_
      refine jv_vret (pc := 72) d_CX_adapt_72 rfl (Nat.zero_le _) (Nat.zero_le _) ?_
      cases H
      exact jU.of rfl
    · have h58 : ¬ ((f_CX_isTurn ((σ 11 x1.toNatClampNeg) >>> ((1 : Int32) &&& 31)) σ) = 0) := h58
      have H := (if_neg h58).symm.trans H
      refine jv_iconst 1 (pc := 61) d_CX_adapt_61 rfl ?_
      refine jv_iload 0 (pc := 62) d_CX_adapt_62 rfl ?_
      refine jv_isub (pc := 64) d_CX_adapt_64 ?_
      refine jv_goto 70 (pc := 65) d_CX_adapt_65 rfl ?_
      refine jv_iadd (pc := 70) d_CX_adapt_70 ?_
      obtain ⟨b71, H⟩ := jck_some H
      refine jv_iast (pc := 71) d_CX_adapt_71 (by decide) rfl b71 ?_
      refine jv_vret (pc := 72) d_CX_adapt_72 rfl (Nat.zero_le _) (Nat.zero_le _) ?_
      cases H
      exact jU.of rfl
  · have h20 : ¬ (x2 = 0) := h20
    have H := (if_neg h20).symm.trans H
    refine jv_aload_n 2 (pc := 23) d_CX_adapt_23 rfl ?_
    refine jv_getr (pc := 24) d_CX_adapt_24 fa_CX_9_CX (by decide) rfl rfl ?_
    refine jv_iload_n 3 (pc := 27) d_CX_adapt_27 rfl ?_
    refine jv_iconst 2 (pc := 28) d_CX_adapt_28 rfl ?_
    refine jv_gets (pc := 29) d_CX_adapt_29 gs_CX_22 ?_
    refine jv_iload_n 1 (pc := 32) d_CX_adapt_32 rfl ?_
    obtain ⟨b33, H⟩ := jck_some H
    refine jv_tald (q := jS_NEXT) (pc := 33) d_CX_adapt_33 (List.mem_of_getElem? (i := 1) rfl) b33 ?_
    refine jv_imul (pc := 34) d_CX_adapt_34 ?_
    refine jv_iload 0 (pc := 35) d_CX_adapt_35 rfl ?_
    refine jv_iadd (pc := 37) d_CX_adapt_37 ?_
    obtain ⟨b38, H⟩ := jck_some H
    refine jv_iast (pc := 38) d_CX_adapt_38 (by decide) rfl b38 ?_
    refine jv_goto 72 (pc := 39) d_CX_adapt_39 rfl ?_
    refine jv_vret (pc := 72) d_CX_adapt_72 rfl (Nat.zero_le _) (Nat.zero_le _) ?_
    cases H
    exact jU.of rfl
set_option maxRecDepth 40000 in
set_option maxHeartbeats 8000000 in
theorem sp_WR_start {G : jG} {σ τ : jMem} {r : Unit} (H : f_WR_start σ = some (r, τ)) : jSp G M_WR_start (jr 0 0 0) [.ref 12] σ (jU fun τ9 => τ9 = τ) := by
  refine jSp.of rfl rfl (Nat.le_of_ble_eq_true rfl) ?_
  show jV _ _ _ _ 0 0 0 [(0, .ref 12)] [] σ
  unfold f_WR_start at H
  refine jv_aload_n 0 (pc := 0) d_WR_start_0 rfl ?_
  refine jv_getr (pc := 1) d_WR_start_1 fa_WR_7_WR (by decide) rfl rfl ?_
  refine jv_iconst 0 (pc := 4) d_WR_start_4 rfl ?_
  refine jv_puti (pc := 5) d_WR_start_5 fa_WR_13_BR fp_BR_1 (by decide) rfl rfl rfl rfl ?_
  refine jv_aload_n 0 (pc := 8) d_WR_start_8 rfl ?_
  refine jv_iconst 0 (pc := 9) d_WR_start_9 rfl ?_
  refine jv_puti (pc := 10) d_WR_start_10 fa_WR_19_WR fp_WR_5 (by decide) rfl rfl rfl rfl ?_
  refine jv_aload_n 0 (pc := 13) d_WR_start_13 rfl ?_
  refine jv_iconst 0 (pc := 14) d_WR_start_14 rfl ?_
  refine jv_puti (pc := 15) d_WR_start_15 fa_WR_22_WR fp_WR_6 (by decide) rfl rfl rfl rfl ?_
  refine jv_aload_n 0 (pc := 18) d_WR_start_18 rfl ?_
  refine jv_ldc (32768) (pc := 19) d_WR_start_19 (jin2 16 rfl rfl) ?_
  refine jv_puti (pc := 21) d_WR_start_21 fa_WR_27_WR fp_WR_2 (by decide) rfl rfl rfl rfl ?_
  refine jv_aload_n 0 (pc := 24) d_WR_start_24 rfl ?_
  refine jv_iconst 0 (pc := 25) d_WR_start_25 rfl ?_
  refine jv_puti (pc := 26) d_WR_start_26 fa_WR_30_WR fp_WR_3 (by decide) rfl rfl rfl rfl ?_
  refine jv_aload_n 0 (pc := 29) d_WR_start_29 rfl ?_
  refine jv_bipush (12) (pc := 30) d_WR_start_30 rfl ?_
  refine jv_puti (pc := 32) d_WR_start_32 fa_WR_33_WR fp_WR_4 (by decide) rfl rfl rfl rfl ?_
  refine jv_vret (pc := 35) d_WR_start_35 rfl (Nat.zero_le _) (Nat.zero_le _) ?_
  cases H
  exact jU.of rfl
set_option maxRecDepth 40000 in
set_option maxHeartbeats 8000000 in
theorem sp_WR_sendByte {G : jG} {σ τ : jMem} {r : Unit} (H : f_WR_sendByte σ = some (r, τ)) : jSp G M_WR_sendByte (jr 1 0 0) [.ref 12] σ (jU fun τ9 => τ9 = τ) := by
  refine jSp.of rfl rfl (Nat.le_of_ble_eq_true rfl) ?_
  show jV _ _ _ _ 0 0 0 [(0, .ref 12)] [] σ
  unfold f_WR_sendByte at H
  refine jv_aload_n 0 (pc := 0) d_WR_sendByte_0 rfl ?_
  refine jv_geti (pc := 1) d_WR_sendByte_1 fa_WR_19_WR (by decide) rfl rfl ?_
  refine jv_sipush (255) (pc := 4) d_WR_sendByte_4 rfl ?_
  refine jv_icmp_eq 68 (pc := 7) d_WR_sendByte_7 rfl (fun h7 => ?_) (fun h7 => ?_)
  · have h7 : (σ 12 5) = (255 : Int32) := h7
    have H := (if_pos h7).symm.trans H
    refine jv_aload_n 0 (pc := 68) d_WR_sendByte_68 rfl ?_
    refine jv_geti (pc := 69) d_WR_sendByte_69 fa_WR_19_WR (by decide) rfl rfl ?_
    refine jv_sipush (255) (pc := 72) d_WR_sendByte_72 rfl ?_
    refine jv_icmp_ne 109 (pc := 75) d_WR_sendByte_75 rfl (fun h75 => ?_) (fun h75 => ?_)
    · have h75 : ¬ ((σ 12 5) = (255 : Int32)) := h75
      have H := (if_neg h75).symm.trans H
      refine jv_aload_n 0 (pc := 109) d_WR_sendByte_109 rfl ?_
      refine jv_aload_n 0 (pc := 110) d_WR_sendByte_110 rfl ?_
      refine jv_geti (pc := 111) d_WR_sendByte_111 fa_WR_30_WR (by decide) rfl rfl ?_
      refine jv_bipush (19) (pc := 114) d_WR_sendByte_114 rfl ?_
      refine jv_iushr (pc := 116) d_WR_sendByte_116 ?_
      refine jv_sipush (255) (pc := 117) d_WR_sendByte_117 rfl ?_
      refine jv_iand (pc := 120) d_WR_sendByte_120 ?_
      refine jv_puti (pc := 121) d_WR_sendByte_121 fa_WR_19_WR fp_WR_5 (by decide) rfl rfl rfl rfl ?_
      refine jv_aload_n 0 (pc := 124) d_WR_sendByte_124 rfl ?_
      refine jv_dup (pc := 125) d_WR_sendByte_125 rfl ?_
      refine jv_geti (pc := 126) d_WR_sendByte_126 fa_WR_30_WR (by decide) rfl rfl ?_
      refine jv_ldc (524287) (pc := 129) d_WR_sendByte_129 (jin3 3 rfl rfl) ?_
      refine jv_iand (pc := 131) d_WR_sendByte_131 ?_
      refine jv_puti (pc := 132) d_WR_sendByte_132 fa_WR_30_WR fp_WR_3 (by decide) rfl rfl rfl rfl ?_
      refine jv_aload_n 0 (pc := 135) d_WR_sendByte_135 rfl ?_
      refine jv_bipush (8) (pc := 136) d_WR_sendByte_136 rfl ?_
      refine jv_puti (pc := 138) d_WR_sendByte_138 fa_WR_33_WR fp_WR_4 (by decide) rfl rfl rfl rfl ?_
      refine jv_aload_n 0 (pc := 141) d_WR_sendByte_141 rfl ?_
      refine jv_aload_n 0 (pc := 142) d_WR_sendByte_142 rfl ?_
      refine jv_getr (pc := 143) d_WR_sendByte_143 fa_WR_7_WR (by decide) rfl rfl ?_
      refine jv_aload_n 0 (pc := 146) d_WR_sendByte_146 rfl ?_
      refine jv_geti (pc := 147) d_WR_sendByte_147 fa_WR_19_WR (by decide) rfl rfl ?_
      obtain ⟨v150, n150, c150, H⟩ := jbd_some H
      refine jv_callVi (sp_BR_append ((((σ 12 3).toUInt32 >>> ((19 : Int32).toUInt32 &&& Int32.toUInt32 31)).toInt32) &&& (255 : Int32)) c150) (pc := 150) d_WR_sendByte_150 c0_BR_append lk_WR_61 in_BR_append se_BR_append (by decide) rfl rfl rfl (Nat.le_of_ble_eq_true rfl) ⟨by decide, by decide, by decide, by decide⟩ (fun r150 m150 h150 => ?_)
      obtain ⟨ha150, hb150⟩ := h150
      have ha150 := ha150.symm
      subst ha150
      have hb150 := hb150.symm
      subst hb150
      obtain ⟨b153, H⟩ := jck_some H
      refine jv_puti (pc := 153) d_WR_sendByte_153 fa_WR_22_WR fp_WR_6 (by decide) rfl rfl (jnb b153) (jfb b153) ?_
      refine jv_vret (pc := 156) d_WR_sendByte_156 rfl (Nat.zero_le _) (Nat.zero_le _) ?_
      cases H
      exact jU.of rfl
    · have h75 : (σ 12 5) = (255 : Int32) := h75
      have H := (if_pos h75).symm.trans H
      refine jv_aload_n 0 (pc := 78) d_WR_sendByte_78 rfl ?_
      refine jv_aload_n 0 (pc := 79) d_WR_sendByte_79 rfl ?_
      refine jv_geti (pc := 80) d_WR_sendByte_80 fa_WR_30_WR (by decide) rfl rfl ?_
      refine jv_bipush (20) (pc := 83) d_WR_sendByte_83 rfl ?_
      refine jv_iushr (pc := 85) d_WR_sendByte_85 ?_
      refine jv_puti (pc := 86) d_WR_sendByte_86 fa_WR_19_WR fp_WR_5 (by decide) rfl rfl rfl rfl ?_
      refine jv_aload_n 0 (pc := 89) d_WR_sendByte_89 rfl ?_
      refine jv_dup (pc := 90) d_WR_sendByte_90 rfl ?_
      refine jv_geti (pc := 91) d_WR_sendByte_91 fa_WR_30_WR (by decide) rfl rfl ?_
      refine jv_ldc (1048575) (pc := 94) d_WR_sendByte_94 (jin3 2 rfl rfl) ?_
      refine jv_iand (pc := 96) d_WR_sendByte_96 ?_
      refine jv_puti (pc := 97) d_WR_sendByte_97 fa_WR_30_WR fp_WR_3 (by decide) rfl rfl rfl rfl ?_
      refine jv_aload_n 0 (pc := 100) d_WR_sendByte_100 rfl ?_
      refine jv_bipush (7) (pc := 101) d_WR_sendByte_101 rfl ?_
      refine jv_puti (pc := 103) d_WR_sendByte_103 fa_WR_33_WR fp_WR_4 (by decide) rfl rfl rfl rfl ?_
      refine jv_goto 141 (pc := 106) d_WR_sendByte_106 rfl ?_
      refine jv_aload_n 0 (pc := 141) d_WR_sendByte_141 rfl ?_
      refine jv_aload_n 0 (pc := 142) d_WR_sendByte_142 rfl ?_
      refine jv_getr (pc := 143) d_WR_sendByte_143 fa_WR_7_WR (by decide) rfl rfl ?_
      refine jv_aload_n 0 (pc := 146) d_WR_sendByte_146 rfl ?_
      refine jv_geti (pc := 147) d_WR_sendByte_147 fa_WR_19_WR (by decide) rfl rfl ?_
      obtain ⟨v150, n150, c150, H⟩ := jbd_some H
      refine jv_callVi (sp_BR_append (((σ 12 3).toUInt32 >>> ((20 : Int32).toUInt32 &&& Int32.toUInt32 31)).toInt32) c150) (pc := 150) d_WR_sendByte_150 c0_BR_append lk_WR_61 in_BR_append se_BR_append (by decide) rfl rfl rfl (Nat.le_of_ble_eq_true rfl) ⟨by decide, by decide, by decide, by decide⟩ (fun r150 m150 h150 => ?_)
      obtain ⟨ha150, hb150⟩ := h150
      have ha150 := ha150.symm
      subst ha150
      have hb150 := hb150.symm
      subst hb150
      obtain ⟨b153, H⟩ := jck_some H
      refine jv_puti (pc := 153) d_WR_sendByte_153 fa_WR_22_WR fp_WR_6 (by decide) rfl rfl (jnb b153) (jfb b153) ?_
      refine jv_vret (pc := 156) d_WR_sendByte_156 rfl (Nat.zero_le _) (Nat.zero_le _) ?_
      cases H
      exact jU.of rfl
  · have h7 : ¬ ((σ 12 5) = (255 : Int32)) := h7
    have H := (if_neg h7).symm.trans H
    refine jv_aload_n 0 (pc := 10) d_WR_sendByte_10 rfl ?_
    refine jv_geti (pc := 11) d_WR_sendByte_11 fa_WR_30_WR (by decide) rfl rfl ?_
    refine jv_ldc (134217728) (pc := 14) d_WR_sendByte_14 (jin2 236 rfl rfl) ?_
    refine jv_icmp_lt 68 (pc := 16) d_WR_sendByte_16 rfl (fun h16 => ?_) (fun h16 => ?_)
    · have h16 : (σ 12 3) < (134217728 : Int32) := h16
      have H := (if_pos h16).symm.trans H
      refine jv_aload_n 0 (pc := 68) d_WR_sendByte_68 rfl ?_
      refine jv_geti (pc := 69) d_WR_sendByte_69 fa_WR_19_WR (by decide) rfl rfl ?_
      refine jv_sipush (255) (pc := 72) d_WR_sendByte_72 rfl ?_
      refine jv_icmp_ne 109 (pc := 75) d_WR_sendByte_75 rfl (fun h75 => ?_) (fun h75 => ?_)
      · have h75 : ¬ ((σ 12 5) = (255 : Int32)) := h75
        have H := (if_neg h75).symm.trans H
        refine jv_aload_n 0 (pc := 109) d_WR_sendByte_109 rfl ?_
        refine jv_aload_n 0 (pc := 110) d_WR_sendByte_110 rfl ?_
        refine jv_geti (pc := 111) d_WR_sendByte_111 fa_WR_30_WR (by decide) rfl rfl ?_
        refine jv_bipush (19) (pc := 114) d_WR_sendByte_114 rfl ?_
        refine jv_iushr (pc := 116) d_WR_sendByte_116 ?_
        refine jv_sipush (255) (pc := 117) d_WR_sendByte_117 rfl ?_
        refine jv_iand (pc := 120) d_WR_sendByte_120 ?_
        refine jv_puti (pc := 121) d_WR_sendByte_121 fa_WR_19_WR fp_WR_5 (by decide) rfl rfl rfl rfl ?_
        refine jv_aload_n 0 (pc := 124) d_WR_sendByte_124 rfl ?_
        refine jv_dup (pc := 125) d_WR_sendByte_125 rfl ?_
        refine jv_geti (pc := 126) d_WR_sendByte_126 fa_WR_30_WR (by decide) rfl rfl ?_
        refine jv_ldc (524287) (pc := 129) d_WR_sendByte_129 (jin3 3 rfl rfl) ?_
        refine jv_iand (pc := 131) d_WR_sendByte_131 ?_
        refine jv_puti (pc := 132) d_WR_sendByte_132 fa_WR_30_WR fp_WR_3 (by decide) rfl rfl rfl rfl ?_
        refine jv_aload_n 0 (pc := 135) d_WR_sendByte_135 rfl ?_
        refine jv_bipush (8) (pc := 136) d_WR_sendByte_136 rfl ?_
        refine jv_puti (pc := 138) d_WR_sendByte_138 fa_WR_33_WR fp_WR_4 (by decide) rfl rfl rfl rfl ?_
        refine jv_aload_n 0 (pc := 141) d_WR_sendByte_141 rfl ?_
        refine jv_aload_n 0 (pc := 142) d_WR_sendByte_142 rfl ?_
        refine jv_getr (pc := 143) d_WR_sendByte_143 fa_WR_7_WR (by decide) rfl rfl ?_
        refine jv_aload_n 0 (pc := 146) d_WR_sendByte_146 rfl ?_
        refine jv_geti (pc := 147) d_WR_sendByte_147 fa_WR_19_WR (by decide) rfl rfl ?_
        obtain ⟨v150, n150, c150, H⟩ := jbd_some H
        refine jv_callVi (sp_BR_append ((((σ 12 3).toUInt32 >>> ((19 : Int32).toUInt32 &&& Int32.toUInt32 31)).toInt32) &&& (255 : Int32)) c150) (pc := 150) d_WR_sendByte_150 c0_BR_append lk_WR_61 in_BR_append se_BR_append (by decide) rfl rfl rfl (Nat.le_of_ble_eq_true rfl) ⟨by decide, by decide, by decide, by decide⟩ (fun r150 m150 h150 => ?_)
        obtain ⟨ha150, hb150⟩ := h150
        have ha150 := ha150.symm
        subst ha150
        have hb150 := hb150.symm
        subst hb150
        obtain ⟨b153, H⟩ := jck_some H
        refine jv_puti (pc := 153) d_WR_sendByte_153 fa_WR_22_WR fp_WR_6 (by decide) rfl rfl (jnb b153) (jfb b153) ?_
        refine jv_vret (pc := 156) d_WR_sendByte_156 rfl (Nat.zero_le _) (Nat.zero_le _) ?_
        cases H
        exact jU.of rfl
      · have h75 : (σ 12 5) = (255 : Int32) := h75
        have H := (if_pos h75).symm.trans H
        refine jv_aload_n 0 (pc := 78) d_WR_sendByte_78 rfl ?_
        refine jv_aload_n 0 (pc := 79) d_WR_sendByte_79 rfl ?_
        refine jv_geti (pc := 80) d_WR_sendByte_80 fa_WR_30_WR (by decide) rfl rfl ?_
        refine jv_bipush (20) (pc := 83) d_WR_sendByte_83 rfl ?_
        refine jv_iushr (pc := 85) d_WR_sendByte_85 ?_
        refine jv_puti (pc := 86) d_WR_sendByte_86 fa_WR_19_WR fp_WR_5 (by decide) rfl rfl rfl rfl ?_
        refine jv_aload_n 0 (pc := 89) d_WR_sendByte_89 rfl ?_
        refine jv_dup (pc := 90) d_WR_sendByte_90 rfl ?_
        refine jv_geti (pc := 91) d_WR_sendByte_91 fa_WR_30_WR (by decide) rfl rfl ?_
        refine jv_ldc (1048575) (pc := 94) d_WR_sendByte_94 (jin3 2 rfl rfl) ?_
        refine jv_iand (pc := 96) d_WR_sendByte_96 ?_
        refine jv_puti (pc := 97) d_WR_sendByte_97 fa_WR_30_WR fp_WR_3 (by decide) rfl rfl rfl rfl ?_
        refine jv_aload_n 0 (pc := 100) d_WR_sendByte_100 rfl ?_
        refine jv_bipush (7) (pc := 101) d_WR_sendByte_101 rfl ?_
        refine jv_puti (pc := 103) d_WR_sendByte_103 fa_WR_33_WR fp_WR_4 (by decide) rfl rfl rfl rfl ?_
        refine jv_goto 141 (pc := 106) d_WR_sendByte_106 rfl ?_
        refine jv_aload_n 0 (pc := 141) d_WR_sendByte_141 rfl ?_
        refine jv_aload_n 0 (pc := 142) d_WR_sendByte_142 rfl ?_
        refine jv_getr (pc := 143) d_WR_sendByte_143 fa_WR_7_WR (by decide) rfl rfl ?_
        refine jv_aload_n 0 (pc := 146) d_WR_sendByte_146 rfl ?_
        refine jv_geti (pc := 147) d_WR_sendByte_147 fa_WR_19_WR (by decide) rfl rfl ?_
        obtain ⟨v150, n150, c150, H⟩ := jbd_some H
        refine jv_callVi (sp_BR_append (((σ 12 3).toUInt32 >>> ((20 : Int32).toUInt32 &&& Int32.toUInt32 31)).toInt32) c150) (pc := 150) d_WR_sendByte_150 c0_BR_append lk_WR_61 in_BR_append se_BR_append (by decide) rfl rfl rfl (Nat.le_of_ble_eq_true rfl) ⟨by decide, by decide, by decide, by decide⟩ (fun r150 m150 h150 => ?_)
        obtain ⟨ha150, hb150⟩ := h150
        have ha150 := ha150.symm
        subst ha150
        have hb150 := hb150.symm
        subst hb150
        obtain ⟨b153, H⟩ := jck_some H
        refine jv_puti (pc := 153) d_WR_sendByte_153 fa_WR_22_WR fp_WR_6 (by decide) rfl rfl (jnb b153) (jfb b153) ?_
        refine jv_vret (pc := 156) d_WR_sendByte_156 rfl (Nat.zero_le _) (Nat.zero_le _) ?_
        cases H
        exact jU.of rfl
    · have h16 : ¬ ((σ 12 3) < (134217728 : Int32)) := h16
      have H := (if_neg h16).symm.trans H
      refine jv_aload_n 0 (pc := 19) d_WR_sendByte_19 rfl ?_
      refine jv_dup (pc := 20) d_WR_sendByte_20 rfl ?_
      refine jv_geti (pc := 21) d_WR_sendByte_21 fa_WR_19_WR (by decide) rfl rfl ?_
      refine jv_iconst 1 (pc := 24) d_WR_sendByte_24 rfl ?_
      refine jv_iadd (pc := 25) d_WR_sendByte_25 ?_
      refine jv_puti (pc := 26) d_WR_sendByte_26 fa_WR_19_WR fp_WR_5 (by decide) rfl rfl rfl rfl ?_
      refine jv_aload_n 0 (pc := 29) d_WR_sendByte_29 rfl ?_
      refine jv_geti (pc := 30) d_WR_sendByte_30 fa_WR_22_WR (by decide) rfl rfl ?_
      refine jv_if_eq 47 (pc := 33) d_WR_sendByte_33 rfl (fun h33 => ?_) (fun h33 => ?_)
      · have h33 : (σ 12 6) = 0 := h33
        have H := (if_pos h33).symm.trans H
        refine jv_aload_n 0 (pc := 47) d_WR_sendByte_47 rfl ?_
        refine jv_geti (pc := 48) d_WR_sendByte_48 fa_WR_19_WR (by decide) rfl rfl ?_
        refine jv_sipush (255) (pc := 51) d_WR_sendByte_51 rfl ?_
        refine jv_icmp_ne 68 (pc := 54) d_WR_sendByte_54 rfl (fun h54 => ?_) (fun h54 => ?_)
        · have h54 : ¬ (((σ 12 5) + (1 : Int32)) = (255 : Int32)) := h54
          have H := (if_neg h54).symm.trans H
          refine jv_aload_n 0 (pc := 68) d_WR_sendByte_68 rfl ?_
          refine jv_geti (pc := 69) d_WR_sendByte_69 fa_WR_19_WR (by decide) rfl rfl ?_
          refine jv_sipush (255) (pc := 72) d_WR_sendByte_72 rfl ?_
          refine jv_icmp_ne 109 (pc := 75) d_WR_sendByte_75 rfl (fun h75 => ?_) (fun h75 => ?_)
          · have h75 : ¬ (((σ 12 5) + (1 : Int32)) = (255 : Int32)) := h75
            have H := (if_neg h75).symm.trans H
            refine jv_aload_n 0 (pc := 109) d_WR_sendByte_109 rfl ?_
            refine jv_aload_n 0 (pc := 110) d_WR_sendByte_110 rfl ?_
            refine jv_geti (pc := 111) d_WR_sendByte_111 fa_WR_30_WR (by decide) rfl rfl ?_
            refine jv_bipush (19) (pc := 114) d_WR_sendByte_114 rfl ?_
            refine jv_iushr (pc := 116) d_WR_sendByte_116 ?_
            refine jv_sipush (255) (pc := 117) d_WR_sendByte_117 rfl ?_
            refine jv_iand (pc := 120) d_WR_sendByte_120 ?_
            refine jv_puti (pc := 121) d_WR_sendByte_121 fa_WR_19_WR fp_WR_5 (by decide) rfl rfl rfl rfl ?_
            refine jv_aload_n 0 (pc := 124) d_WR_sendByte_124 rfl ?_
            refine jv_dup (pc := 125) d_WR_sendByte_125 rfl ?_
            refine jv_geti (pc := 126) d_WR_sendByte_126 fa_WR_30_WR (by decide) rfl rfl ?_
            refine jv_ldc (524287) (pc := 129) d_WR_sendByte_129 (jin3 3 rfl rfl) ?_
            refine jv_iand (pc := 131) d_WR_sendByte_131 ?_
            refine jv_puti (pc := 132) d_WR_sendByte_132 fa_WR_30_WR fp_WR_3 (by decide) rfl rfl rfl rfl ?_
            refine jv_aload_n 0 (pc := 135) d_WR_sendByte_135 rfl ?_
            refine jv_bipush (8) (pc := 136) d_WR_sendByte_136 rfl ?_
            refine jv_puti (pc := 138) d_WR_sendByte_138 fa_WR_33_WR fp_WR_4 (by decide) rfl rfl rfl rfl ?_
            refine jv_aload_n 0 (pc := 141) d_WR_sendByte_141 rfl ?_
            refine jv_aload_n 0 (pc := 142) d_WR_sendByte_142 rfl ?_
            refine jv_getr (pc := 143) d_WR_sendByte_143 fa_WR_7_WR (by decide) rfl rfl ?_
            refine jv_aload_n 0 (pc := 146) d_WR_sendByte_146 rfl ?_
            refine jv_geti (pc := 147) d_WR_sendByte_147 fa_WR_19_WR (by decide) rfl rfl ?_
            obtain ⟨v150, n150, c150, H⟩ := jbd_some H
            refine jv_callVi (sp_BR_append ((((σ 12 3).toUInt32 >>> ((19 : Int32).toUInt32 &&& Int32.toUInt32 31)).toInt32) &&& (255 : Int32)) c150) (pc := 150) d_WR_sendByte_150 c0_BR_append lk_WR_61 in_BR_append se_BR_append (by decide) rfl rfl rfl (Nat.le_of_ble_eq_true rfl) ⟨by decide, by decide, by decide, by decide⟩ (fun r150 m150 h150 => ?_)
            obtain ⟨ha150, hb150⟩ := h150
            have ha150 := ha150.symm
            subst ha150
            have hb150 := hb150.symm
            subst hb150
            obtain ⟨b153, H⟩ := jck_some H
            refine jv_puti (pc := 153) d_WR_sendByte_153 fa_WR_22_WR fp_WR_6 (by decide) rfl rfl (jnb b153) (jfb b153) ?_
            refine jv_vret (pc := 156) d_WR_sendByte_156 rfl (Nat.zero_le _) (Nat.zero_le _) ?_
            cases H
            exact jU.of rfl
          · have h75 : ((σ 12 5) + (1 : Int32)) = (255 : Int32) := h75
            have H := (if_pos h75).symm.trans H
            refine jv_aload_n 0 (pc := 78) d_WR_sendByte_78 rfl ?_
            refine jv_aload_n 0 (pc := 79) d_WR_sendByte_79 rfl ?_
            refine jv_geti (pc := 80) d_WR_sendByte_80 fa_WR_30_WR (by decide) rfl rfl ?_
            refine jv_bipush (20) (pc := 83) d_WR_sendByte_83 rfl ?_
            refine jv_iushr (pc := 85) d_WR_sendByte_85 ?_
            refine jv_puti (pc := 86) d_WR_sendByte_86 fa_WR_19_WR fp_WR_5 (by decide) rfl rfl rfl rfl ?_
            refine jv_aload_n 0 (pc := 89) d_WR_sendByte_89 rfl ?_
            refine jv_dup (pc := 90) d_WR_sendByte_90 rfl ?_
            refine jv_geti (pc := 91) d_WR_sendByte_91 fa_WR_30_WR (by decide) rfl rfl ?_
            refine jv_ldc (1048575) (pc := 94) d_WR_sendByte_94 (jin3 2 rfl rfl) ?_
            refine jv_iand (pc := 96) d_WR_sendByte_96 ?_
            refine jv_puti (pc := 97) d_WR_sendByte_97 fa_WR_30_WR fp_WR_3 (by decide) rfl rfl rfl rfl ?_
            refine jv_aload_n 0 (pc := 100) d_WR_sendByte_100 rfl ?_
            refine jv_bipush (7) (pc := 101) d_WR_sendByte_101 rfl ?_
            refine jv_puti (pc := 103) d_WR_sendByte_103 fa_WR_33_WR fp_WR_4 (by decide) rfl rfl rfl rfl ?_
            refine jv_goto 141 (pc := 106) d_WR_sendByte_106 rfl ?_
            refine jv_aload_n 0 (pc := 141) d_WR_sendByte_141 rfl ?_
            refine jv_aload_n 0 (pc := 142) d_WR_sendByte_142 rfl ?_
            refine jv_getr (pc := 143) d_WR_sendByte_143 fa_WR_7_WR (by decide) rfl rfl ?_
            refine jv_aload_n 0 (pc := 146) d_WR_sendByte_146 rfl ?_
            refine jv_geti (pc := 147) d_WR_sendByte_147 fa_WR_19_WR (by decide) rfl rfl ?_
            obtain ⟨v150, n150, c150, H⟩ := jbd_some H
            refine jv_callVi (sp_BR_append (((σ 12 3).toUInt32 >>> ((20 : Int32).toUInt32 &&& Int32.toUInt32 31)).toInt32) c150) (pc := 150) d_WR_sendByte_150 c0_BR_append lk_WR_61 in_BR_append se_BR_append (by decide) rfl rfl rfl (Nat.le_of_ble_eq_true rfl) ⟨by decide, by decide, by decide, by decide⟩ (fun r150 m150 h150 => ?_)
            obtain ⟨ha150, hb150⟩ := h150
            have ha150 := ha150.symm
            subst ha150
            have hb150 := hb150.symm
            subst hb150
            obtain ⟨b153, H⟩ := jck_some H
            refine jv_puti (pc := 153) d_WR_sendByte_153 fa_WR_22_WR fp_WR_6 (by decide) rfl rfl (jnb b153) (jfb b153) ?_
            refine jv_vret (pc := 156) d_WR_sendByte_156 rfl (Nat.zero_le _) (Nat.zero_le _) ?_
            cases H
            exact jU.of rfl
        · have h54 : ((σ 12 5) + (1 : Int32)) = (255 : Int32) := h54
          have H := (if_pos h54).symm.trans H
          refine jv_aload_n 0 (pc := 57) d_WR_sendByte_57 rfl ?_
          refine jv_dup (pc := 58) d_WR_sendByte_58 rfl ?_
          refine jv_geti (pc := 59) d_WR_sendByte_59 fa_WR_30_WR (by decide) rfl rfl ?_
          refine jv_ldc (134217727) (pc := 62) d_WR_sendByte_62 (jin3 1 rfl rfl) ?_
          refine jv_iand (pc := 64) d_WR_sendByte_64 ?_
          refine jv_puti (pc := 65) d_WR_sendByte_65 fa_WR_30_WR fp_WR_3 (by decide) rfl rfl rfl rfl ?_
          refine jv_aload_n 0 (pc := 68) d_WR_sendByte_68 rfl ?_
          refine jv_geti (pc := 69) d_WR_sendByte_69 fa_WR_19_WR (by decide) rfl rfl ?_
          refine jv_sipush (255) (pc := 72) d_WR_sendByte_72 rfl ?_
          refine jv_icmp_ne 109 (pc := 75) d_WR_sendByte_75 rfl (fun h75 => ?_) (fun h75 => ?_)
          · have h75 : ¬ (((σ 12 5) + (1 : Int32)) = (255 : Int32)) := h75
            have H := (if_neg h75).symm.trans H
            refine jv_aload_n 0 (pc := 109) d_WR_sendByte_109 rfl ?_
            refine jv_aload_n 0 (pc := 110) d_WR_sendByte_110 rfl ?_
            refine jv_geti (pc := 111) d_WR_sendByte_111 fa_WR_30_WR (by decide) rfl rfl ?_
            refine jv_bipush (19) (pc := 114) d_WR_sendByte_114 rfl ?_
            refine jv_iushr (pc := 116) d_WR_sendByte_116 ?_
            refine jv_sipush (255) (pc := 117) d_WR_sendByte_117 rfl ?_
            refine jv_iand (pc := 120) d_WR_sendByte_120 ?_
            refine jv_puti (pc := 121) d_WR_sendByte_121 fa_WR_19_WR fp_WR_5 (by decide) rfl rfl rfl rfl ?_
            refine jv_aload_n 0 (pc := 124) d_WR_sendByte_124 rfl ?_
            refine jv_dup (pc := 125) d_WR_sendByte_125 rfl ?_
            refine jv_geti (pc := 126) d_WR_sendByte_126 fa_WR_30_WR (by decide) rfl rfl ?_
            refine jv_ldc (524287) (pc := 129) d_WR_sendByte_129 (jin3 3 rfl rfl) ?_
            refine jv_iand (pc := 131) d_WR_sendByte_131 ?_
            refine jv_puti (pc := 132) d_WR_sendByte_132 fa_WR_30_WR fp_WR_3 (by decide) rfl rfl rfl rfl ?_
            refine jv_aload_n 0 (pc := 135) d_WR_sendByte_135 rfl ?_
            refine jv_bipush (8) (pc := 136) d_WR_sendByte_136 rfl ?_
            refine jv_puti (pc := 138) d_WR_sendByte_138 fa_WR_33_WR fp_WR_4 (by decide) rfl rfl rfl rfl ?_
            refine jv_aload_n 0 (pc := 141) d_WR_sendByte_141 rfl ?_
            refine jv_aload_n 0 (pc := 142) d_WR_sendByte_142 rfl ?_
            refine jv_getr (pc := 143) d_WR_sendByte_143 fa_WR_7_WR (by decide) rfl rfl ?_
            refine jv_aload_n 0 (pc := 146) d_WR_sendByte_146 rfl ?_
            refine jv_geti (pc := 147) d_WR_sendByte_147 fa_WR_19_WR (by decide) rfl rfl ?_
            obtain ⟨v150, n150, c150, H⟩ := jbd_some H
            refine jv_callVi (sp_BR_append (((((σ 12 3) &&& (134217727 : Int32)).toUInt32 >>> ((19 : Int32).toUInt32 &&& Int32.toUInt32 31)).toInt32) &&& (255 : Int32)) c150) (pc := 150) d_WR_sendByte_150 c0_BR_append lk_WR_61 in_BR_append se_BR_append (by decide) rfl rfl rfl (Nat.le_of_ble_eq_true rfl) ⟨by decide, by decide, by decide, by decide⟩ (fun r150 m150 h150 => ?_)
            obtain ⟨ha150, hb150⟩ := h150
            have ha150 := ha150.symm
            subst ha150
            have hb150 := hb150.symm
            subst hb150
            obtain ⟨b153, H⟩ := jck_some H
            refine jv_puti (pc := 153) d_WR_sendByte_153 fa_WR_22_WR fp_WR_6 (by decide) rfl rfl (jnb b153) (jfb b153) ?_
            refine jv_vret (pc := 156) d_WR_sendByte_156 rfl (Nat.zero_le _) (Nat.zero_le _) ?_
            cases H
            exact jU.of rfl
          · have h75 : ((σ 12 5) + (1 : Int32)) = (255 : Int32) := h75
            have H := (if_pos h75).symm.trans H
            refine jv_aload_n 0 (pc := 78) d_WR_sendByte_78 rfl ?_
            refine jv_aload_n 0 (pc := 79) d_WR_sendByte_79 rfl ?_
            refine jv_geti (pc := 80) d_WR_sendByte_80 fa_WR_30_WR (by decide) rfl rfl ?_
            refine jv_bipush (20) (pc := 83) d_WR_sendByte_83 rfl ?_
            refine jv_iushr (pc := 85) d_WR_sendByte_85 ?_
            refine jv_puti (pc := 86) d_WR_sendByte_86 fa_WR_19_WR fp_WR_5 (by decide) rfl rfl rfl rfl ?_
            refine jv_aload_n 0 (pc := 89) d_WR_sendByte_89 rfl ?_
            refine jv_dup (pc := 90) d_WR_sendByte_90 rfl ?_
            refine jv_geti (pc := 91) d_WR_sendByte_91 fa_WR_30_WR (by decide) rfl rfl ?_
            refine jv_ldc (1048575) (pc := 94) d_WR_sendByte_94 (jin3 2 rfl rfl) ?_
            refine jv_iand (pc := 96) d_WR_sendByte_96 ?_
            refine jv_puti (pc := 97) d_WR_sendByte_97 fa_WR_30_WR fp_WR_3 (by decide) rfl rfl rfl rfl ?_
            refine jv_aload_n 0 (pc := 100) d_WR_sendByte_100 rfl ?_
            refine jv_bipush (7) (pc := 101) d_WR_sendByte_101 rfl ?_
            refine jv_puti (pc := 103) d_WR_sendByte_103 fa_WR_33_WR fp_WR_4 (by decide) rfl rfl rfl rfl ?_
            refine jv_goto 141 (pc := 106) d_WR_sendByte_106 rfl ?_
            refine jv_aload_n 0 (pc := 141) d_WR_sendByte_141 rfl ?_
            refine jv_aload_n 0 (pc := 142) d_WR_sendByte_142 rfl ?_
            refine jv_getr (pc := 143) d_WR_sendByte_143 fa_WR_7_WR (by decide) rfl rfl ?_
            refine jv_aload_n 0 (pc := 146) d_WR_sendByte_146 rfl ?_
            refine jv_geti (pc := 147) d_WR_sendByte_147 fa_WR_19_WR (by decide) rfl rfl ?_
            obtain ⟨v150, n150, c150, H⟩ := jbd_some H
            refine jv_callVi (sp_BR_append ((((σ 12 3) &&& (134217727 : Int32)).toUInt32 >>> ((20 : Int32).toUInt32 &&& Int32.toUInt32 31)).toInt32) c150) (pc := 150) d_WR_sendByte_150 c0_BR_append lk_WR_61 in_BR_append se_BR_append (by decide) rfl rfl rfl (Nat.le_of_ble_eq_true rfl) ⟨by decide, by decide, by decide, by decide⟩ (fun r150 m150 h150 => ?_)
            obtain ⟨ha150, hb150⟩ := h150
            have ha150 := ha150.symm
            subst ha150
            have hb150 := hb150.symm
            subst hb150
            obtain ⟨b153, H⟩ := jck_some H
            refine jv_puti (pc := 153) d_WR_sendByte_153 fa_WR_22_WR fp_WR_6 (by decide) rfl rfl (jnb b153) (jfb b153) ?_
            refine jv_vret (pc := 156) d_WR_sendByte_156 rfl (Nat.zero_le _) (Nat.zero_le _) ?_
            cases H
            exact jU.of rfl
      · have h33 : ¬ ((σ 12 6) = 0) := h33
        have H := (if_neg h33).symm.trans H
        refine jv_aload_n 0 (pc := 36) d_WR_sendByte_36 rfl ?_
        refine jv_getr (pc := 37) d_WR_sendByte_37 fa_WR_7_WR (by decide) rfl rfl ?_
        refine jv_aload_n 0 (pc := 40) d_WR_sendByte_40 rfl ?_
        refine jv_geti (pc := 41) d_WR_sendByte_41 fa_WR_19_WR (by decide) rfl rfl ?_
        obtain ⟨_, n44, c44, H⟩ := jbd_some H
        refine jv_callVv (sp_BR_replaceLast ((σ 12 5) + (1 : Int32)) c44) (pc := 44) d_WR_sendByte_44 c0_BR_replaceLast lk_WR_66 in_BR_replaceLast se_BR_replaceLast (by decide) rfl rfl rfl (Nat.le_of_ble_eq_true rfl) ⟨by decide, by decide, by decide, by decide⟩ (fun m44 h44 => ?_)
        have hb44 := h44
        have hb44 := hb44.symm
        subst hb44
        refine jv_aload_n 0 (pc := 47) d_WR_sendByte_47 rfl ?_
        refine jv_geti (pc := 48) d_WR_sendByte_48 fa_WR_19_WR (by decide) rfl rfl ?_
        refine jv_sipush (255) (pc := 51) d_WR_sendByte_51 rfl ?_
        refine jv_icmp_ne 68 (pc := 54) d_WR_sendByte_54 rfl (fun h54 => ?_) (fun h54 => ?_)
        · have h54 : ¬ ((n44 12 5) = (255 : Int32)) := h54
          have H := (if_neg h54).symm.trans H
          refine jv_aload_n 0 (pc := 68) d_WR_sendByte_68 rfl ?_
          refine jv_geti (pc := 69) d_WR_sendByte_69 fa_WR_19_WR (by decide) rfl rfl ?_
          refine jv_sipush (255) (pc := 72) d_WR_sendByte_72 rfl ?_
          refine jv_icmp_ne 109 (pc := 75) d_WR_sendByte_75 rfl (fun h75 => ?_) (fun h75 => ?_)
          · have h75 : ¬ ((n44 12 5) = (255 : Int32)) := h75
            have H := (if_neg h75).symm.trans H
            refine jv_aload_n 0 (pc := 109) d_WR_sendByte_109 rfl ?_
            refine jv_aload_n 0 (pc := 110) d_WR_sendByte_110 rfl ?_
            refine jv_geti (pc := 111) d_WR_sendByte_111 fa_WR_30_WR (by decide) rfl rfl ?_
            refine jv_bipush (19) (pc := 114) d_WR_sendByte_114 rfl ?_
            refine jv_iushr (pc := 116) d_WR_sendByte_116 ?_
            refine jv_sipush (255) (pc := 117) d_WR_sendByte_117 rfl ?_
            refine jv_iand (pc := 120) d_WR_sendByte_120 ?_
            refine jv_puti (pc := 121) d_WR_sendByte_121 fa_WR_19_WR fp_WR_5 (by decide) rfl rfl rfl rfl ?_
            refine jv_aload_n 0 (pc := 124) d_WR_sendByte_124 rfl ?_
            refine jv_dup (pc := 125) d_WR_sendByte_125 rfl ?_
            refine jv_geti (pc := 126) d_WR_sendByte_126 fa_WR_30_WR (by decide) rfl rfl ?_
            refine jv_ldc (524287) (pc := 129) d_WR_sendByte_129 (jin3 3 rfl rfl) ?_
            refine jv_iand (pc := 131) d_WR_sendByte_131 ?_
            refine jv_puti (pc := 132) d_WR_sendByte_132 fa_WR_30_WR fp_WR_3 (by decide) rfl rfl rfl rfl ?_
            refine jv_aload_n 0 (pc := 135) d_WR_sendByte_135 rfl ?_
            refine jv_bipush (8) (pc := 136) d_WR_sendByte_136 rfl ?_
            refine jv_puti (pc := 138) d_WR_sendByte_138 fa_WR_33_WR fp_WR_4 (by decide) rfl rfl rfl rfl ?_
            refine jv_aload_n 0 (pc := 141) d_WR_sendByte_141 rfl ?_
            refine jv_aload_n 0 (pc := 142) d_WR_sendByte_142 rfl ?_
            refine jv_getr (pc := 143) d_WR_sendByte_143 fa_WR_7_WR (by decide) rfl rfl ?_
            refine jv_aload_n 0 (pc := 146) d_WR_sendByte_146 rfl ?_
            refine jv_geti (pc := 147) d_WR_sendByte_147 fa_WR_19_WR (by decide) rfl rfl ?_
            obtain ⟨v150, n150, c150, H⟩ := jbd_some H
            refine jv_callVi (sp_BR_append ((((n44 12 3).toUInt32 >>> ((19 : Int32).toUInt32 &&& Int32.toUInt32 31)).toInt32) &&& (255 : Int32)) c150) (pc := 150) d_WR_sendByte_150 c0_BR_append lk_WR_61 in_BR_append se_BR_append (by decide) rfl rfl rfl (Nat.le_of_ble_eq_true rfl) ⟨by decide, by decide, by decide, by decide⟩ (fun r150 m150 h150 => ?_)
            obtain ⟨ha150, hb150⟩ := h150
            have ha150 := ha150.symm
            subst ha150
            have hb150 := hb150.symm
            subst hb150
            obtain ⟨b153, H⟩ := jck_some H
            refine jv_puti (pc := 153) d_WR_sendByte_153 fa_WR_22_WR fp_WR_6 (by decide) rfl rfl (jnb b153) (jfb b153) ?_
            refine jv_vret (pc := 156) d_WR_sendByte_156 rfl (Nat.zero_le _) (Nat.zero_le _) ?_
            cases H
            exact jU.of rfl
          · have h75 : (n44 12 5) = (255 : Int32) := h75
            have H := (if_pos h75).symm.trans H
            refine jv_aload_n 0 (pc := 78) d_WR_sendByte_78 rfl ?_
            refine jv_aload_n 0 (pc := 79) d_WR_sendByte_79 rfl ?_
            refine jv_geti (pc := 80) d_WR_sendByte_80 fa_WR_30_WR (by decide) rfl rfl ?_
            refine jv_bipush (20) (pc := 83) d_WR_sendByte_83 rfl ?_
            refine jv_iushr (pc := 85) d_WR_sendByte_85 ?_
            refine jv_puti (pc := 86) d_WR_sendByte_86 fa_WR_19_WR fp_WR_5 (by decide) rfl rfl rfl rfl ?_
            refine jv_aload_n 0 (pc := 89) d_WR_sendByte_89 rfl ?_
            refine jv_dup (pc := 90) d_WR_sendByte_90 rfl ?_
            refine jv_geti (pc := 91) d_WR_sendByte_91 fa_WR_30_WR (by decide) rfl rfl ?_
            refine jv_ldc (1048575) (pc := 94) d_WR_sendByte_94 (jin3 2 rfl rfl) ?_
            refine jv_iand (pc := 96) d_WR_sendByte_96 ?_
            refine jv_puti (pc := 97) d_WR_sendByte_97 fa_WR_30_WR fp_WR_3 (by decide) rfl rfl rfl rfl ?_
            refine jv_aload_n 0 (pc := 100) d_WR_sendByte_100 rfl ?_
            refine jv_bipush (7) (pc := 101) d_WR_sendByte_101 rfl ?_
            refine jv_puti (pc := 103) d_WR_sendByte_103 fa_WR_33_WR fp_WR_4 (by decide) rfl rfl rfl rfl ?_
            refine jv_goto 141 (pc := 106) d_WR_sendByte_106 rfl ?_
            refine jv_aload_n 0 (pc := 141) d_WR_sendByte_141 rfl ?_
            refine jv_aload_n 0 (pc := 142) d_WR_sendByte_142 rfl ?_
            refine jv_getr (pc := 143) d_WR_sendByte_143 fa_WR_7_WR (by decide) rfl rfl ?_
            refine jv_aload_n 0 (pc := 146) d_WR_sendByte_146 rfl ?_
            refine jv_geti (pc := 147) d_WR_sendByte_147 fa_WR_19_WR (by decide) rfl rfl ?_
            obtain ⟨v150, n150, c150, H⟩ := jbd_some H
            refine jv_callVi (sp_BR_append (((n44 12 3).toUInt32 >>> ((20 : Int32).toUInt32 &&& Int32.toUInt32 31)).toInt32) c150) (pc := 150) d_WR_sendByte_150 c0_BR_append lk_WR_61 in_BR_append se_BR_append (by decide) rfl rfl rfl (Nat.le_of_ble_eq_true rfl) ⟨by decide, by decide, by decide, by decide⟩ (fun r150 m150 h150 => ?_)
            obtain ⟨ha150, hb150⟩ := h150
            have ha150 := ha150.symm
            subst ha150
            have hb150 := hb150.symm
            subst hb150
            obtain ⟨b153, H⟩ := jck_some H
            refine jv_puti (pc := 153) d_WR_sendByte_153 fa_WR_22_WR fp_WR_6 (by decide) rfl rfl (jnb b153) (jfb b153) ?_
            refine jv_vret (pc := 156) d_WR_sendByte_156 rfl (Nat.zero_le _) (Nat.zero_le _) ?_
            cases H
            exact jU.of rfl
        · have h54 : (n44 12 5) = (255 : Int32) := h54
          have H := (if_pos h54).symm.trans H
          refine jv_aload_n 0 (pc := 57) d_WR_sendByte_57 rfl ?_
          refine jv_dup (pc := 58) d_WR_sendByte_58 rfl ?_
          refine jv_geti (pc := 59) d_WR_sendByte_59 fa_WR_30_WR (by decide) rfl rfl ?_
          refine jv_ldc (134217727) (pc := 62) d_WR_sendByte_62 (jin3 1 rfl rfl) ?_
          refine jv_iand (pc := 64) d_WR_sendByte_64 ?_
          refine jv_puti (pc := 65) d_WR_sendByte_65 fa_WR_30_WR fp_WR_3 (by decide) rfl rfl rfl rfl ?_
          refine jv_aload_n 0 (pc := 68) d_WR_sendByte_68 rfl ?_
          refine jv_geti (pc := 69) d_WR_sendByte_69 fa_WR_19_WR (by decide) rfl rfl ?_
          refine jv_sipush (255) (pc := 72) d_WR_sendByte_72 rfl ?_
          refine jv_icmp_ne 109 (pc := 75) d_WR_sendByte_75 rfl (fun h75 => ?_) (fun h75 => ?_)
          · have h75 : ¬ ((n44 12 5) = (255 : Int32)) := h75
            have H := (if_neg h75).symm.trans H
            refine jv_aload_n 0 (pc := 109) d_WR_sendByte_109 rfl ?_
            refine jv_aload_n 0 (pc := 110) d_WR_sendByte_110 rfl ?_
            refine jv_geti (pc := 111) d_WR_sendByte_111 fa_WR_30_WR (by decide) rfl rfl ?_
            refine jv_bipush (19) (pc := 114) d_WR_sendByte_114 rfl ?_
            refine jv_iushr (pc := 116) d_WR_sendByte_116 ?_
            refine jv_sipush (255) (pc := 117) d_WR_sendByte_117 rfl ?_
            refine jv_iand (pc := 120) d_WR_sendByte_120 ?_
            refine jv_puti (pc := 121) d_WR_sendByte_121 fa_WR_19_WR fp_WR_5 (by decide) rfl rfl rfl rfl ?_
            refine jv_aload_n 0 (pc := 124) d_WR_sendByte_124 rfl ?_
            refine jv_dup (pc := 125) d_WR_sendByte_125 rfl ?_
            refine jv_geti (pc := 126) d_WR_sendByte_126 fa_WR_30_WR (by decide) rfl rfl ?_
            refine jv_ldc (524287) (pc := 129) d_WR_sendByte_129 (jin3 3 rfl rfl) ?_
            refine jv_iand (pc := 131) d_WR_sendByte_131 ?_
            refine jv_puti (pc := 132) d_WR_sendByte_132 fa_WR_30_WR fp_WR_3 (by decide) rfl rfl rfl rfl ?_
            refine jv_aload_n 0 (pc := 135) d_WR_sendByte_135 rfl ?_
            refine jv_bipush (8) (pc := 136) d_WR_sendByte_136 rfl ?_
            refine jv_puti (pc := 138) d_WR_sendByte_138 fa_WR_33_WR fp_WR_4 (by decide) rfl rfl rfl rfl ?_
            refine jv_aload_n 0 (pc := 141) d_WR_sendByte_141 rfl ?_
            refine jv_aload_n 0 (pc := 142) d_WR_sendByte_142 rfl ?_
            refine jv_getr (pc := 143) d_WR_sendByte_143 fa_WR_7_WR (by decide) rfl rfl ?_
            refine jv_aload_n 0 (pc := 146) d_WR_sendByte_146 rfl ?_
            refine jv_geti (pc := 147) d_WR_sendByte_147 fa_WR_19_WR (by decide) rfl rfl ?_
            obtain ⟨v150, n150, c150, H⟩ := jbd_some H
            refine jv_callVi (sp_BR_append (((((n44 12 3) &&& (134217727 : Int32)).toUInt32 >>> ((19 : Int32).toUInt32 &&& Int32.toUInt32 31)).toInt32) &&& (255 : Int32)) c150) (pc := 150) d_WR_sendByte_150 c0_BR_append lk_WR_61 in_BR_append se_BR_append (by decide) rfl rfl rfl (Nat.le_of_ble_eq_true rfl) ⟨by decide, by decide, by decide, by decide⟩ (fun r150 m150 h150 => ?_)
            obtain ⟨ha150, hb150⟩ := h150
            have ha150 := ha150.symm
            subst ha150
            have hb150 := hb150.symm
            subst hb150
            obtain ⟨b153, H⟩ := jck_some H
            refine jv_puti (pc := 153) d_WR_sendByte_153 fa_WR_22_WR fp_WR_6 (by decide) rfl rfl (jnb b153) (jfb b153) ?_
            refine jv_vret (pc := 156) d_WR_sendByte_156 rfl (Nat.zero_le _) (Nat.zero_le _) ?_
            cases H
            exact jU.of rfl
          · have h75 : (n44 12 5) = (255 : Int32) := h75
            have H := (if_pos h75).symm.trans H
            refine jv_aload_n 0 (pc := 78) d_WR_sendByte_78 rfl ?_
            refine jv_aload_n 0 (pc := 79) d_WR_sendByte_79 rfl ?_
            refine jv_geti (pc := 80) d_WR_sendByte_80 fa_WR_30_WR (by decide) rfl rfl ?_
            refine jv_bipush (20) (pc := 83) d_WR_sendByte_83 rfl ?_
            refine jv_iushr (pc := 85) d_WR_sendByte_85 ?_
            refine jv_puti (pc := 86) d_WR_sendByte_86 fa_WR_19_WR fp_WR_5 (by decide) rfl rfl rfl rfl ?_
            refine jv_aload_n 0 (pc := 89) d_WR_sendByte_89 rfl ?_
            refine jv_dup (pc := 90) d_WR_sendByte_90 rfl ?_
            refine jv_geti (pc := 91) d_WR_sendByte_91 fa_WR_30_WR (by decide) rfl rfl ?_
            refine jv_ldc (1048575) (pc := 94) d_WR_sendByte_94 (jin3 2 rfl rfl) ?_
            refine jv_iand (pc := 96) d_WR_sendByte_96 ?_
            refine jv_puti (pc := 97) d_WR_sendByte_97 fa_WR_30_WR fp_WR_3 (by decide) rfl rfl rfl rfl ?_
            refine jv_aload_n 0 (pc := 100) d_WR_sendByte_100 rfl ?_
            refine jv_bipush (7) (pc := 101) d_WR_sendByte_101 rfl ?_
            refine jv_puti (pc := 103) d_WR_sendByte_103 fa_WR_33_WR fp_WR_4 (by decide) rfl rfl rfl rfl ?_
            refine jv_goto 141 (pc := 106) d_WR_sendByte_106 rfl ?_
            refine jv_aload_n 0 (pc := 141) d_WR_sendByte_141 rfl ?_
            refine jv_aload_n 0 (pc := 142) d_WR_sendByte_142 rfl ?_
            refine jv_getr (pc := 143) d_WR_sendByte_143 fa_WR_7_WR (by decide) rfl rfl ?_
            refine jv_aload_n 0 (pc := 146) d_WR_sendByte_146 rfl ?_
            refine jv_geti (pc := 147) d_WR_sendByte_147 fa_WR_19_WR (by decide) rfl rfl ?_
            obtain ⟨v150, n150, c150, H⟩ := jbd_some H
            refine jv_callVi (sp_BR_append ((((n44 12 3) &&& (134217727 : Int32)).toUInt32 >>> ((20 : Int32).toUInt32 &&& Int32.toUInt32 31)).toInt32) c150) (pc := 150) d_WR_sendByte_150 c0_BR_append lk_WR_61 in_BR_append se_BR_append (by decide) rfl rfl rfl (Nat.le_of_ble_eq_true rfl) ⟨by decide, by decide, by decide, by decide⟩ (fun r150 m150 h150 => ?_)
            obtain ⟨ha150, hb150⟩ := h150
            have ha150 := ha150.symm
            subst ha150
            have hb150 := hb150.symm
            subst hb150
            obtain ⟨b153, H⟩ := jck_some H
            refine jv_puti (pc := 153) d_WR_sendByte_153 fa_WR_22_WR fp_WR_6 (by decide) rfl rfl (jnb b153) (jfb b153) ?_
            refine jv_vret (pc := 156) d_WR_sendByte_156 rfl (Nat.zero_le _) (Nat.zero_le _) ?_
            cases H
            exact jU.of rfl
set_option maxRecDepth 40000 in
set_option maxHeartbeats 8000000 in
theorem lp_WR_shiftOut_2 {G : jG} : ∀ (n : Nat) (x1 : Int32) (σ τ : jMem) (r : Unit), f_WR_shiftOut_L2 n x1 σ = some (r, τ) → jV G M_WR_shiftOut (jr 2 0 0) (jU fun τ9 => τ9 = τ) 0 0 2 [(0, .ref 12), (1, .int x1)] [] σ := by
  intro n
  induction n with
  | zero =>
    intro x1 σ τ r H
    cases H
  | succ n ih =>
    intro x1 σ τ r H
    rw [f_WR_shiftOut_L2.eq_2] at H
    refine jv_iload_n 1 (pc := 2) d_WR_shiftOut_2 rfl ?_
    refine jv_bipush (16) (pc := 3) d_WR_shiftOut_3 rfl ?_
    refine jv_icmp_ge 68 (pc := 5) d_WR_shiftOut_5 rfl (fun h5 => ?_) (fun h5 => ?_)
    · have h5 : (16 : Int32) ≤ x1 := h5
      have H := (if_pos h5).symm.trans H
      refine jv_vret (pc := 68) d_WR_shiftOut_68 rfl (Nat.zero_le _) (Nat.zero_le _) ?_
      cases H
      exact jU.of rfl
    · have h5 : ¬ ((16 : Int32) ≤ x1) := h5
      have H := (if_neg h5).symm.trans H
      refine jv_iload_n 1 (pc := 8) d_WR_shiftOut_8 rfl ?_
      refine jv_if_eq 21 (pc := 9) d_WR_shiftOut_9 rfl (fun h9 => ?_) (fun h9 => ?_)
      · have h9 : x1 = 0 := h9
        have H := (if_pos h9).symm.trans H
        refine jv_aload_n 0 (pc := 21) d_WR_shiftOut_21 rfl ?_
        refine jv_dup (pc := 22) d_WR_shiftOut_22 rfl ?_
        refine jv_geti (pc := 23) d_WR_shiftOut_23 fa_WR_27_WR (by decide) rfl rfl ?_
        refine jv_iconst 1 (pc := 26) d_WR_shiftOut_26 rfl ?_
        refine jv_ishl (pc := 27) d_WR_shiftOut_27 ?_
        refine jv_puti (pc := 28) d_WR_shiftOut_28 fa_WR_27_WR fp_WR_2 (by decide) rfl rfl rfl rfl ?_
        refine jv_aload_n 0 (pc := 31) d_WR_shiftOut_31 rfl ?_
        refine jv_dup (pc := 32) d_WR_shiftOut_32 rfl ?_
        refine jv_geti (pc := 33) d_WR_shiftOut_33 fa_WR_30_WR (by decide) rfl rfl ?_
        refine jv_iconst 1 (pc := 36) d_WR_shiftOut_36 rfl ?_
        refine jv_ishl (pc := 37) d_WR_shiftOut_37 ?_
        refine jv_puti (pc := 38) d_WR_shiftOut_38 fa_WR_30_WR fp_WR_3 (by decide) rfl rfl rfl rfl ?_
        refine jv_aload_n 0 (pc := 41) d_WR_shiftOut_41 rfl ?_
        refine jv_dup (pc := 42) d_WR_shiftOut_42 rfl ?_
        refine jv_geti (pc := 43) d_WR_shiftOut_43 fa_WR_33_WR (by decide) rfl rfl ?_
        refine jv_iconst 1 (pc := 46) d_WR_shiftOut_46 rfl ?_
        refine jv_isub (pc := 47) d_WR_shiftOut_47 ?_
        refine jv_puti (pc := 48) d_WR_shiftOut_48 fa_WR_33_WR fp_WR_4 (by decide) rfl rfl rfl rfl ?_
        refine jv_aload_n 0 (pc := 51) d_WR_shiftOut_51 rfl ?_
        refine jv_geti (pc := 52) d_WR_shiftOut_52 fa_WR_33_WR (by decide) rfl rfl ?_
        refine jv_if_ne 62 (pc := 55) d_WR_shiftOut_55 rfl (fun h55 => ?_) (fun h55 => ?_)
        · have h55 : ¬ (((σ 12 4) - (1 : Int32)) = 0) := h55
          have H := (if_neg h55).symm.trans H
          refine jv_iinc 1 _ (pc := 62) d_WR_shiftOut_62 rfl (jinc1 _) (by decide) (jst1 rfl) ?_
          refine jv_goto 2 (pc := 65) d_WR_shiftOut_65 rfl ?_
          exact jv_sub [0, 1] rfl (ih (x1 + 1) _ _ _ H)
        · have h55 : ((σ 12 4) - (1 : Int32)) = 0 := h55
          have H := (if_pos h55).symm.trans H
          refine jv_aload_n 0 (pc := 58) d_WR_shiftOut_58 rfl ?_
          obtain ⟨_, n59, c59, H⟩ := jbd_some H
          refine jv_callVv (sp_WR_sendByte c59) (pc := 59) d_WR_shiftOut_59 c0_WR_sendByte lk_WR_58 in_WR_sendByte se_WR_sendByte (by decide) rfl rfl rfl (Nat.le_of_ble_eq_true rfl) ⟨by decide, by decide, by decide, by decide⟩ (fun m59 h59 => ?_)
          have hb59 := h59
          have hb59 := hb59.symm
          subst hb59
          refine jv_iinc 1 _ (pc := 62) d_WR_shiftOut_62 rfl (jinc1 _) (by decide) (jst1 rfl) ?_
          refine jv_goto 2 (pc := 65) d_WR_shiftOut_65 rfl ?_
          exact jv_sub [0, 1] rfl (ih (x1 + 1) _ _ _ H)
      · have h9 : ¬ (x1 = 0) := h9
        have H := (if_neg h9).symm.trans H
        refine jv_aload_n 0 (pc := 12) d_WR_shiftOut_12 rfl ?_
        refine jv_geti (pc := 13) d_WR_shiftOut_13 fa_WR_27_WR (by decide) rfl rfl ?_
        refine jv_ldc (32768) (pc := 16) d_WR_shiftOut_16 (jin2 16 rfl rfl) ?_
        refine jv_icmp_ge 68 (pc := 18) d_WR_shiftOut_18 rfl (fun h18 => ?_) (fun h18 => ?_)
        · have h18 : (32768 : Int32) ≤ (σ 12 2) := h18
          have H := (if_pos h18).symm.trans H
          refine jv_vret (pc := 68) d_WR_shiftOut_68 rfl (Nat.zero_le _) (Nat.zero_le _) ?_
          cases H
          exact jU.of rfl
        · have h18 : ¬ ((32768 : Int32) ≤ (σ 12 2)) := h18
          have H := (if_neg h18).symm.trans H
          refine jv_aload_n 0 (pc := 21) d_WR_shiftOut_21 rfl ?_
          refine jv_dup (pc := 22) d_WR_shiftOut_22 rfl ?_
          refine jv_geti (pc := 23) d_WR_shiftOut_23 fa_WR_27_WR (by decide) rfl rfl ?_
          refine jv_iconst 1 (pc := 26) d_WR_shiftOut_26 rfl ?_
          refine jv_ishl (pc := 27) d_WR_shiftOut_27 ?_
          refine jv_puti (pc := 28) d_WR_shiftOut_28 fa_WR_27_WR fp_WR_2 (by decide) rfl rfl rfl rfl ?_
          refine jv_aload_n 0 (pc := 31) d_WR_shiftOut_31 rfl ?_
          refine jv_dup (pc := 32) d_WR_shiftOut_32 rfl ?_
          refine jv_geti (pc := 33) d_WR_shiftOut_33 fa_WR_30_WR (by decide) rfl rfl ?_
          refine jv_iconst 1 (pc := 36) d_WR_shiftOut_36 rfl ?_
          refine jv_ishl (pc := 37) d_WR_shiftOut_37 ?_
          refine jv_puti (pc := 38) d_WR_shiftOut_38 fa_WR_30_WR fp_WR_3 (by decide) rfl rfl rfl rfl ?_
          refine jv_aload_n 0 (pc := 41) d_WR_shiftOut_41 rfl ?_
          refine jv_dup (pc := 42) d_WR_shiftOut_42 rfl ?_
          refine jv_geti (pc := 43) d_WR_shiftOut_43 fa_WR_33_WR (by decide) rfl rfl ?_
          refine jv_iconst 1 (pc := 46) d_WR_shiftOut_46 rfl ?_
          refine jv_isub (pc := 47) d_WR_shiftOut_47 ?_
          refine jv_puti (pc := 48) d_WR_shiftOut_48 fa_WR_33_WR fp_WR_4 (by decide) rfl rfl rfl rfl ?_
          refine jv_aload_n 0 (pc := 51) d_WR_shiftOut_51 rfl ?_
          refine jv_geti (pc := 52) d_WR_shiftOut_52 fa_WR_33_WR (by decide) rfl rfl ?_
          refine jv_if_ne 62 (pc := 55) d_WR_shiftOut_55 rfl (fun h55 => ?_) (fun h55 => ?_)
          · have h55 : ¬ (((σ 12 4) - (1 : Int32)) = 0) := h55
            have H := (if_neg h55).symm.trans H
            refine jv_iinc 1 _ (pc := 62) d_WR_shiftOut_62 rfl (jinc1 _) (by decide) (jst1 rfl) ?_
            refine jv_goto 2 (pc := 65) d_WR_shiftOut_65 rfl ?_
            exact jv_sub [0, 1] rfl (ih (x1 + 1) _ _ _ H)
          · have h55 : ((σ 12 4) - (1 : Int32)) = 0 := h55
            have H := (if_pos h55).symm.trans H
            refine jv_aload_n 0 (pc := 58) d_WR_shiftOut_58 rfl ?_
            obtain ⟨_, n59, c59, H⟩ := jbd_some H
            refine jv_callVv (sp_WR_sendByte c59) (pc := 59) d_WR_shiftOut_59 c0_WR_sendByte lk_WR_58 in_WR_sendByte se_WR_sendByte (by decide) rfl rfl rfl (Nat.le_of_ble_eq_true rfl) ⟨by decide, by decide, by decide, by decide⟩ (fun m59 h59 => ?_)
            have hb59 := h59
            have hb59 := hb59.symm
            subst hb59
            refine jv_iinc 1 _ (pc := 62) d_WR_shiftOut_62 rfl (jinc1 _) (by decide) (jst1 rfl) ?_
            refine jv_goto 2 (pc := 65) d_WR_shiftOut_65 rfl ?_
            exact jv_sub [0, 1] rfl (ih (x1 + 1) _ _ _ H)
set_option maxRecDepth 40000 in
set_option maxHeartbeats 8000000 in
theorem sp_WR_shiftOut {G : jG} {σ τ : jMem} {r : Unit} (H : f_WR_shiftOut σ = some (r, τ)) : jSp G M_WR_shiftOut (jr 2 0 0) [.ref 12] σ (jU fun τ9 => τ9 = τ) := by
  refine jSp.of rfl rfl (Nat.le_of_ble_eq_true rfl) ?_
  show jV _ _ _ _ 0 0 0 [(0, .ref 12)] [] σ
  unfold f_WR_shiftOut at H
  refine jv_iconst 0 (pc := 0) d_WR_shiftOut_0 rfl ?_
  refine jv_istore_n (pc := 1) d_WR_shiftOut_1 rfl (by decide) (jsto_new rfl) ?_
  exact jv_sub [1, 0] rfl (lp_WR_shiftOut_2  _ (0 : Int32) _ _ _ H)
set_option maxRecDepth 40000 in
set_option maxHeartbeats 8000000 in
theorem sp_WR_decide {G : jG} {σ τ : jMem} {r : Int32} (x1 x2 : Int32) (H : f_WR_decide x1 x2 σ = some (r, τ)) : jSp G M_WR_decide (jr 3 0 0) [.ref 12, .int x1, .int x2] σ (jI fun r9 τ9 => r9 = r ∧ τ9 = τ) := by
  refine jSp.of rfl rfl (Nat.le_of_ble_eq_true rfl) ?_
  show jV _ _ _ _ 0 0 0 [(0, .ref 12), (1, .int x1), (2, .int x2)] [] σ
  unfold f_WR_decide at H
  refine jv_aload_n 0 (pc := 0) d_WR_decide_0 rfl ?_
  refine jv_getr (pc := 1) d_WR_decide_1 fa_WR_36_WR (by decide) rfl rfl ?_
  refine jv_iload_n 1 (pc := 4) d_WR_decide_4 rfl ?_
  obtain ⟨v5, n5, c5, H⟩ := jbd_some H
  refine jv_callVi (sp_CX_sizeOf x1 c5) (pc := 5) d_WR_decide_5 c0_CX_sizeOf lk_WR_40 in_CX_sizeOf se_CX_sizeOf (by decide) rfl rfl rfl (Nat.le_of_ble_eq_true rfl) ⟨by decide, by decide, by decide, by decide⟩ (fun r5 m5 h5 => ?_)
  obtain ⟨ha5, hb5⟩ := h5
  have ha5 := ha5.symm
  subst ha5
  have hb5 := hb5.symm
  subst hb5
  refine jv_istore_n (pc := 8) d_WR_decide_8 rfl (by decide) (jsto_new rfl) ?_
  refine jv_iload_n 3 (pc := 9) d_WR_decide_9 rfl ?_
  refine jv_aload_n 1 (pc := 10) d_WR_decide_10 rfl ?_
  refine jv_getr (pc := 11) d_WR_decide_11 fa_WR_36_WR (by decide) rfl rfl ?_
  refine jv_iload_n 2 (pc := 14) d_WR_decide_14 rfl ?_
  obtain ⟨v15, n15, c15, H⟩ := jbd_some H
  refine jv_callVi (sp_CX_likely x1 c15) (pc := 15) d_WR_decide_15 c0_CX_likely lk_WR_46 in_CX_likely se_CX_likely (by decide) rfl rfl rfl (Nat.le_of_ble_eq_true rfl) ⟨by decide, by decide, by decide, by decide⟩ (fun r15 m15 h15 => ?_)
  obtain ⟨ha15, hb15⟩ := h15
  have ha15 := ha15.symm
  subst ha15
  have hb15 := hb15.symm
  subst hb15
  refine jv_icmp_ne 25 (pc := 18) d_WR_decide_18 rfl (fun h18 => ?_) (fun h18 => ?_)
  · have h18 : ¬ (x2 = v15) := h18
    have H := (if_neg h18).symm.trans H
    refine jv_iconst 0 (pc := 25) d_WR_decide_25 rfl ?_
    refine jv_istore (pc := 26) d_WR_decide_26 (by decide) (jsto_new rfl) ?_
    refine jv_aload_n 2 (pc := 28) d_WR_decide_28 rfl ?_
    refine jv_dup (pc := 29) d_WR_decide_29 rfl ?_
    refine jv_geti (pc := 30) d_WR_decide_30 fa_WR_27_WR (by decide) rfl rfl ?_
    refine jv_iload_n 1 (pc := 33) d_WR_decide_33 rfl ?_
    refine jv_isub (pc := 34) d_WR_decide_34 ?_
    refine jv_puti (pc := 35) d_WR_decide_35 fa_WR_27_WR fp_WR_2 (by decide) rfl rfl rfl rfl ?_
    refine jv_iload 0 (pc := 38) d_WR_decide_38 rfl ?_
    refine jv_if_eq 64 (pc := 40) d_WR_decide_40 rfl (fun h40 => ?_) (fun h40 => absurd (show (0 : Int32) = 0 by decide) (show ¬ ((0 : Int32) = 0) from h40))
    refine jv_aload_n 2 (pc := 64) d_WR_decide_64 rfl ?_
    refine jv_geti (pc := 65) d_WR_decide_65 fa_WR_27_WR (by decide) rfl rfl ?_
    refine jv_iload_n 1 (pc := 68) d_WR_decide_68 rfl ?_
    refine jv_icmp_ge 76 (pc := 69) d_WR_decide_69 rfl (fun h69 => ?_) (fun h69 => ?_)
    · have h69 : v5 ≤ ((n15 12 2) - v5) := h69
      have H := (if_pos h69).symm.trans H
      refine jv_iconst 0 (pc := 76) d_WR_decide_76 rfl ?_
      refine jv_istore (pc := 77) d_WR_decide_77 (by decide) (jsto_new rfl) ?_
      refine jv_iload 1 (pc := 79) d_WR_decide_79 rfl ?_
      refine jv_iload 0 (pc := 81) d_WR_decide_81 rfl ?_
      refine jv_icmp_ne 94 (pc := 83) d_WR_decide_83 rfl (fun h83 => absurd (show (0 : Int32) = (0 : Int32) by decide) (show ¬ ((0 : Int32) = (0 : Int32)) from h83)) (fun h83 => ?_)
      refine jv_aload_n 3 (pc := 86) d_WR_decide_86 rfl ?_
      refine jv_iload_n 2 (pc := 87) d_WR_decide_87 rfl ?_
      refine jv_puti (pc := 88) d_WR_decide_88 fa_WR_27_WR fp_WR_2 (by decide) rfl rfl rfl rfl ?_
      refine jv_goto 104 (pc := 91) d_WR_decide_91 rfl ?_
      refine jv_aload_n 3 (pc := 104) d_WR_decide_104 rfl ?_
      refine jv_getr (pc := 105) d_WR_decide_105 fa_WR_36_WR (by decide) rfl rfl ?_
      refine jv_iload_n 4 (pc := 108) d_WR_decide_108 rfl ?_
      refine jv_iload 1 (pc := 109) d_WR_decide_109 rfl ?_
      obtain ⟨_, n111, c111, H⟩ := jbd_some H
      refine jv_callVv (sp_CX_adapt x1 (0 : Int32) c111) (pc := 111) d_WR_decide_111 c0_CX_adapt lk_WR_49 in_CX_adapt se_CX_adapt (by decide) rfl rfl rfl (Nat.le_of_ble_eq_true rfl) ⟨by decide, by decide, by decide, by decide⟩ (fun m111 h111 => ?_)
      have hb111 := h111
      have hb111 := hb111.symm
      subst hb111
      refine jv_aload_n 3 (pc := 114) d_WR_decide_114 rfl ?_
      obtain ⟨_, n115, c115, H⟩ := jbd_some H
      refine jv_callVv (sp_WR_shiftOut c115) (pc := 115) d_WR_decide_115 c0_WR_shiftOut lk_WR_53 in_WR_shiftOut se_WR_shiftOut (by decide) rfl rfl rfl (Nat.le_of_ble_eq_true rfl) ⟨by decide, by decide, by decide, by decide⟩ (fun m115 h115 => ?_)
      have hb115 := h115
      have hb115 := hb115.symm
      subst hb115
      refine jv_iload_n 5 (pc := 118) d_WR_decide_118 rfl ?_
      refine jv_iret (pc := 119) d_WR_decide_119 rfl rfl (Nat.zero_le _) (Nat.zero_le _) ?_
      cases H
      exact jI.of ⟨rfl, rfl⟩
    · have h69 : ¬ (v5 ≤ ((n15 12 2) - v5)) := h69
      have H := (if_neg h69).symm.trans H
      refine jv_iconst 1 (pc := 72) d_WR_decide_72 rfl ?_
      refine jv_goto 77 (pc := 73) d_WR_decide_73 rfl ?_
      refine jv_istore (pc := 77) d_WR_decide_77 (by decide) (jsto_new rfl) ?_
      refine jv_iload 1 (pc := 79) d_WR_decide_79 rfl ?_
      refine jv_iload 0 (pc := 81) d_WR_decide_81 rfl ?_
      refine jv_icmp_ne 94 (pc := 83) d_WR_decide_83 rfl (fun h83 => ?_) (fun h83 => absurd (show (0 : Int32) = (1 : Int32) from h83) (by decide))
      refine jv_aload_n 3 (pc := 94) d_WR_decide_94 rfl ?_
      refine jv_dup (pc := 95) d_WR_decide_95 rfl ?_
      refine jv_geti (pc := 96) d_WR_decide_96 fa_WR_30_WR (by decide) rfl rfl ?_
      refine jv_iload_n 2 (pc := 99) d_WR_decide_99 rfl ?_
      refine jv_iadd (pc := 100) d_WR_decide_100 ?_
      refine jv_puti (pc := 101) d_WR_decide_101 fa_WR_30_WR fp_WR_3 (by decide) rfl rfl rfl rfl ?_
      refine jv_aload_n 3 (pc := 104) d_WR_decide_104 rfl ?_
      refine jv_getr (pc := 105) d_WR_decide_105 fa_WR_36_WR (by decide) rfl rfl ?_
      refine jv_iload_n 4 (pc := 108) d_WR_decide_108 rfl ?_
      refine jv_iload 1 (pc := 109) d_WR_decide_109 rfl ?_
      obtain ⟨_, n111, c111, H⟩ := jbd_some H
      refine jv_callVv (sp_CX_adapt x1 (0 : Int32) c111) (pc := 111) d_WR_decide_111 c0_CX_adapt lk_WR_49 in_CX_adapt se_CX_adapt (by decide) rfl rfl rfl (Nat.le_of_ble_eq_true rfl) ⟨by decide, by decide, by decide, by decide⟩ (fun m111 h111 => ?_)
      have hb111 := h111
      have hb111 := hb111.symm
      subst hb111
      refine jv_aload_n 3 (pc := 114) d_WR_decide_114 rfl ?_
      obtain ⟨_, n115, c115, H⟩ := jbd_some H
      refine jv_callVv (sp_WR_shiftOut c115) (pc := 115) d_WR_decide_115 c0_WR_shiftOut lk_WR_53 in_WR_shiftOut se_WR_shiftOut (by decide) rfl rfl rfl (Nat.le_of_ble_eq_true rfl) ⟨by decide, by decide, by decide, by decide⟩ (fun m115 h115 => ?_)
      have hb115 := h115
      have hb115 := hb115.symm
      subst hb115
      refine jv_iload_n 5 (pc := 118) d_WR_decide_118 rfl ?_
      refine jv_iret (pc := 119) d_WR_decide_119 rfl rfl (Nat.zero_le _) (Nat.zero_le _) ?_
      cases H
      exact jI.of ⟨rfl, rfl⟩
  · have h18 : x2 = v15 := h18
    have H := (if_pos h18).symm.trans H
    refine jv_iconst 1 (pc := 21) d_WR_decide_21 rfl ?_
    refine jv_goto 26 (pc := 22) d_WR_decide_22 rfl ?_
    refine jv_istore (pc := 26) d_WR_decide_26 (by decide) (jsto_new rfl) ?_
    refine jv_aload_n 2 (pc := 28) d_WR_decide_28 rfl ?_
    refine jv_dup (pc := 29) d_WR_decide_29 rfl ?_
    refine jv_geti (pc := 30) d_WR_decide_30 fa_WR_27_WR (by decide) rfl rfl ?_
    refine jv_iload_n 1 (pc := 33) d_WR_decide_33 rfl ?_
    refine jv_isub (pc := 34) d_WR_decide_34 ?_
    refine jv_puti (pc := 35) d_WR_decide_35 fa_WR_27_WR fp_WR_2 (by decide) rfl rfl rfl rfl ?_
    refine jv_iload 0 (pc := 38) d_WR_decide_38 rfl ?_
    refine jv_if_eq 64 (pc := 40) d_WR_decide_40 rfl (fun h40 => absurd (show (1 : Int32) = 0 from h40) (by decide)) (fun h40 => ?_)
    refine jv_aload_n 2 (pc := 43) d_WR_decide_43 rfl ?_
    refine jv_geti (pc := 44) d_WR_decide_44 fa_WR_27_WR (by decide) rfl rfl ?_
    refine jv_ldc (32768) (pc := 47) d_WR_decide_47 (jin2 16 rfl rfl) ?_
    refine jv_icmp_lt 64 (pc := 49) d_WR_decide_49 rfl (fun h49 => ?_) (fun h49 => ?_)
    · have h49 : ((n15 12 2) - v5) < (32768 : Int32) := h49
      have H := (if_pos h49).symm.trans H
      refine jv_aload_n 2 (pc := 64) d_WR_decide_64 rfl ?_
      refine jv_geti (pc := 65) d_WR_decide_65 fa_WR_27_WR (by decide) rfl rfl ?_
      refine jv_iload_n 1 (pc := 68) d_WR_decide_68 rfl ?_
      refine jv_icmp_ge 76 (pc := 69) d_WR_decide_69 rfl (fun h69 => ?_) (fun h69 => ?_)
      · have h69 : v5 ≤ ((n15 12 2) - v5) := h69
        have H := (if_pos h69).symm.trans H
        refine jv_iconst 0 (pc := 76) d_WR_decide_76 rfl ?_
        refine jv_istore (pc := 77) d_WR_decide_77 (by decide) (jsto_new rfl) ?_
        refine jv_iload 1 (pc := 79) d_WR_decide_79 rfl ?_
        refine jv_iload 0 (pc := 81) d_WR_decide_81 rfl ?_
        refine jv_icmp_ne 94 (pc := 83) d_WR_decide_83 rfl (fun h83 => ?_) (fun h83 => absurd (show (1 : Int32) = (0 : Int32) from h83) (by decide))
        refine jv_aload_n 3 (pc := 94) d_WR_decide_94 rfl ?_
        refine jv_dup (pc := 95) d_WR_decide_95 rfl ?_
        refine jv_geti (pc := 96) d_WR_decide_96 fa_WR_30_WR (by decide) rfl rfl ?_
        refine jv_iload_n 2 (pc := 99) d_WR_decide_99 rfl ?_
        refine jv_iadd (pc := 100) d_WR_decide_100 ?_
        refine jv_puti (pc := 101) d_WR_decide_101 fa_WR_30_WR fp_WR_3 (by decide) rfl rfl rfl rfl ?_
        refine jv_aload_n 3 (pc := 104) d_WR_decide_104 rfl ?_
        refine jv_getr (pc := 105) d_WR_decide_105 fa_WR_36_WR (by decide) rfl rfl ?_
        refine jv_iload_n 4 (pc := 108) d_WR_decide_108 rfl ?_
        refine jv_iload 1 (pc := 109) d_WR_decide_109 rfl ?_
        obtain ⟨_, n111, c111, H⟩ := jbd_some H
        refine jv_callVv (sp_CX_adapt x1 (1 : Int32) c111) (pc := 111) d_WR_decide_111 c0_CX_adapt lk_WR_49 in_CX_adapt se_CX_adapt (by decide) rfl rfl rfl (Nat.le_of_ble_eq_true rfl) ⟨by decide, by decide, by decide, by decide⟩ (fun m111 h111 => ?_)
        have hb111 := h111
        have hb111 := hb111.symm
        subst hb111
        refine jv_aload_n 3 (pc := 114) d_WR_decide_114 rfl ?_
        obtain ⟨_, n115, c115, H⟩ := jbd_some H
        refine jv_callVv (sp_WR_shiftOut c115) (pc := 115) d_WR_decide_115 c0_WR_shiftOut lk_WR_53 in_WR_shiftOut se_WR_shiftOut (by decide) rfl rfl rfl (Nat.le_of_ble_eq_true rfl) ⟨by decide, by decide, by decide, by decide⟩ (fun m115 h115 => ?_)
        have hb115 := h115
        have hb115 := hb115.symm
        subst hb115
        refine jv_iload_n 5 (pc := 118) d_WR_decide_118 rfl ?_
        refine jv_iret (pc := 119) d_WR_decide_119 rfl rfl (Nat.zero_le _) (Nat.zero_le _) ?_
        cases H
        exact jI.of ⟨rfl, rfl⟩
      · have h69 : ¬ (v5 ≤ ((n15 12 2) - v5)) := h69
        have H := (if_neg h69).symm.trans H
        refine jv_iconst 1 (pc := 72) d_WR_decide_72 rfl ?_
        refine jv_goto 77 (pc := 73) d_WR_decide_73 rfl ?_
        refine jv_istore (pc := 77) d_WR_decide_77 (by decide) (jsto_new rfl) ?_
        refine jv_iload 1 (pc := 79) d_WR_decide_79 rfl ?_
        refine jv_iload 0 (pc := 81) d_WR_decide_81 rfl ?_
        refine jv_icmp_ne 94 (pc := 83) d_WR_decide_83 rfl (fun h83 => absurd (show (1 : Int32) = (1 : Int32) by decide) (show ¬ ((1 : Int32) = (1 : Int32)) from h83)) (fun h83 => ?_)
        refine jv_aload_n 3 (pc := 86) d_WR_decide_86 rfl ?_
        refine jv_iload_n 2 (pc := 87) d_WR_decide_87 rfl ?_
        refine jv_puti (pc := 88) d_WR_decide_88 fa_WR_27_WR fp_WR_2 (by decide) rfl rfl rfl rfl ?_
        refine jv_goto 104 (pc := 91) d_WR_decide_91 rfl ?_
        refine jv_aload_n 3 (pc := 104) d_WR_decide_104 rfl ?_
        refine jv_getr (pc := 105) d_WR_decide_105 fa_WR_36_WR (by decide) rfl rfl ?_
        refine jv_iload_n 4 (pc := 108) d_WR_decide_108 rfl ?_
        refine jv_iload 1 (pc := 109) d_WR_decide_109 rfl ?_
        obtain ⟨_, n111, c111, H⟩ := jbd_some H
        refine jv_callVv (sp_CX_adapt x1 (1 : Int32) c111) (pc := 111) d_WR_decide_111 c0_CX_adapt lk_WR_49 in_CX_adapt se_CX_adapt (by decide) rfl rfl rfl (Nat.le_of_ble_eq_true rfl) ⟨by decide, by decide, by decide, by decide⟩ (fun m111 h111 => ?_)
        have hb111 := h111
        have hb111 := hb111.symm
        subst hb111
        refine jv_aload_n 3 (pc := 114) d_WR_decide_114 rfl ?_
        obtain ⟨_, n115, c115, H⟩ := jbd_some H
        refine jv_callVv (sp_WR_shiftOut c115) (pc := 115) d_WR_decide_115 c0_WR_shiftOut lk_WR_53 in_WR_shiftOut se_WR_shiftOut (by decide) rfl rfl rfl (Nat.le_of_ble_eq_true rfl) ⟨by decide, by decide, by decide, by decide⟩ (fun m115 h115 => ?_)
        have hb115 := h115
        have hb115 := hb115.symm
        subst hb115
        refine jv_iload_n 5 (pc := 118) d_WR_decide_118 rfl ?_
        refine jv_iret (pc := 119) d_WR_decide_119 rfl rfl (Nat.zero_le _) (Nat.zero_le _) ?_
        cases H
        exact jI.of ⟨rfl, rfl⟩
    · have h49 : ¬ (((n15 12 2) - v5) < (32768 : Int32)) := h49
      have H := (if_neg h49).symm.trans H
      refine jv_aload_n 2 (pc := 52) d_WR_decide_52 rfl ?_
      refine jv_dup (pc := 53) d_WR_decide_53 rfl ?_
      refine jv_geti (pc := 54) d_WR_decide_54 fa_WR_30_WR (by decide) rfl rfl ?_
      refine jv_iload_n 1 (pc := 57) d_WR_decide_57 rfl ?_
      refine jv_iadd (pc := 58) d_WR_decide_58 ?_
      refine jv_puti (pc := 59) d_WR_decide_59 fa_WR_30_WR fp_WR_3 (by decide) rfl rfl rfl rfl ?_
      refine jv_iload_n 4 (pc := 62) d_WR_decide_62 rfl ?_
      refine jv_iret (pc := 63) d_WR_decide_63 rfl rfl (Nat.zero_le _) (Nat.zero_le _) ?_
      cases H
      exact jI.of ⟨rfl, rfl⟩
set_option maxRecDepth 40000 in
set_option maxHeartbeats 8000000 in
theorem sp_WR_finish {G : jG} {σ τ : jMem} {r : Unit} (H : f_WR_finish σ = some (r, τ)) : jSp G M_WR_finish (jr 2 0 0) [.ref 12] σ (jU fun τ9 => τ9 = τ) := by
  refine jSp.of rfl rfl (Nat.le_of_ble_eq_true rfl) ?_
  show jV _ _ _ _ 0 0 0 [(0, .ref 12)] [] σ
  unfold f_WR_finish at H
  refine jv_aload_n 0 (pc := 0) d_WR_finish_0 rfl ?_
  refine jv_geti (pc := 1) d_WR_finish_1 fa_WR_30_WR (by decide) rfl rfl ?_
  refine jv_aload_n 0 (pc := 4) d_WR_finish_4 rfl ?_
  refine jv_geti (pc := 5) d_WR_finish_5 fa_WR_27_WR (by decide) rfl rfl ?_
  refine jv_iadd (pc := 8) d_WR_finish_8 ?_
  refine jv_istore_n (pc := 9) d_WR_finish_9 rfl (by decide) (jsto_new rfl) ?_
  refine jv_aload_n 1 (pc := 10) d_WR_finish_10 rfl ?_
  refine jv_dup (pc := 11) d_WR_finish_11 rfl ?_
  refine jv_geti (pc := 12) d_WR_finish_12 fa_WR_30_WR (by decide) rfl rfl ?_
  refine jv_ldc (65535) (pc := 15) d_WR_finish_15 (jin2 231 rfl rfl) ?_
  refine jv_ior (pc := 17) d_WR_finish_17 ?_
  refine jv_puti (pc := 18) d_WR_finish_18 fa_WR_30_WR fp_WR_3 (by decide) rfl rfl rfl rfl ?_
  refine jv_aload_n 1 (pc := 21) d_WR_finish_21 rfl ?_
  refine jv_geti (pc := 22) d_WR_finish_22 fa_WR_30_WR (by decide) rfl rfl ?_
  refine jv_iload_n 0 (pc := 25) d_WR_finish_25 rfl ?_
  refine jv_icmp_lt 40 (pc := 26) d_WR_finish_26 rfl (fun h26 => ?_) (fun h26 => ?_)
  · have h26 : ((σ 12 3) ||| (65535 : Int32)) < ((σ 12 3) + (σ 12 2)) := h26
    have H := (if_pos h26).symm.trans H
    refine jv_aload_n 1 (pc := 40) d_WR_finish_40 rfl ?_
    refine jv_dup (pc := 41) d_WR_finish_41 rfl ?_
    refine jv_geti (pc := 42) d_WR_finish_42 fa_WR_30_WR (by decide) rfl rfl ?_
    refine jv_aload_n 1 (pc := 45) d_WR_finish_45 rfl ?_
    refine jv_geti (pc := 46) d_WR_finish_46 fa_WR_33_WR (by decide) rfl rfl ?_
    refine jv_ishl (pc := 49) d_WR_finish_49 ?_
    refine jv_puti (pc := 50) d_WR_finish_50 fa_WR_30_WR fp_WR_3 (by decide) rfl rfl rfl rfl ?_
    refine jv_aload_n 1 (pc := 53) d_WR_finish_53 rfl ?_
    obtain ⟨_, n54, c54, H⟩ := jbd_some H
    refine jv_callVv (sp_WR_sendByte c54) (pc := 54) d_WR_finish_54 c0_WR_sendByte lk_WR_58 in_WR_sendByte se_WR_sendByte (by decide) rfl rfl rfl (Nat.le_of_ble_eq_true rfl) ⟨by decide, by decide, by decide, by decide⟩ (fun m54 h54 => ?_)
    have hb54 := h54
    have hb54 := hb54.symm
    subst hb54
    refine jv_aload_n 1 (pc := 57) d_WR_finish_57 rfl ?_
    refine jv_dup (pc := 58) d_WR_finish_58 rfl ?_
    refine jv_geti (pc := 59) d_WR_finish_59 fa_WR_30_WR (by decide) rfl rfl ?_
    refine jv_aload_n 1 (pc := 62) d_WR_finish_62 rfl ?_
    refine jv_geti (pc := 63) d_WR_finish_63 fa_WR_33_WR (by decide) rfl rfl ?_
    refine jv_ishl (pc := 66) d_WR_finish_66 ?_
    refine jv_puti (pc := 67) d_WR_finish_67 fa_WR_30_WR fp_WR_3 (by decide) rfl rfl rfl rfl ?_
    refine jv_aload_n 1 (pc := 70) d_WR_finish_70 rfl ?_
    obtain ⟨_, n71, c71, H⟩ := jbd_some H
    refine jv_callVv (sp_WR_sendByte c71) (pc := 71) d_WR_finish_71 c0_WR_sendByte lk_WR_58 in_WR_sendByte se_WR_sendByte (by decide) rfl rfl rfl (Nat.le_of_ble_eq_true rfl) ⟨by decide, by decide, by decide, by decide⟩ (fun m71 h71 => ?_)
    have hb71 := h71
    have hb71 := hb71.symm
    subst hb71
    refine jv_aload_n 1 (pc := 74) d_WR_finish_74 rfl ?_
    refine jv_geti (pc := 75) d_WR_finish_75 fa_WR_19_WR (by decide) rfl rfl ?_
    refine jv_sipush (255) (pc := 78) d_WR_finish_78 rfl ?_
    refine jv_icmp_eq 95 (pc := 81) d_WR_finish_81 rfl (fun h81 => ?_) (fun h81 => ?_)
    · have h81 : (n71 12 5) = (255 : Int32) := h81
      have H := (if_pos h81).symm.trans H
      refine jv_aload_n 1 (pc := 95) d_WR_finish_95 rfl ?_
      refine jv_getr (pc := 96) d_WR_finish_96 fa_WR_7_WR (by decide) rfl rfl ?_
      refine jv_sipush (172) (pc := 99) d_WR_finish_99 rfl ?_
      obtain ⟨v102, n102, c102, H⟩ := jbd_some H
      refine jv_callVi (sp_BR_append (172 : Int32) c102) (pc := 102) d_WR_finish_102 c0_BR_append lk_WR_61 in_BR_append se_BR_append (by decide) rfl rfl rfl (Nat.le_of_ble_eq_true rfl) ⟨by decide, by decide, by decide, by decide⟩ (fun r102 m102 h102 => ?_)
      obtain ⟨ha102, hb102⟩ := h102
      have ha102 := ha102.symm
      subst ha102
      have hb102 := hb102.symm
      subst hb102
      refine jv_pop (pc := 105) d_WR_finish_105 rfl ?_
      refine jv_vret (pc := 106) d_WR_finish_106 rfl (Nat.zero_le _) (Nat.zero_le _) ?_
      cases H
      exact jU.of rfl
    · have h81 : ¬ ((n71 12 5) = (255 : Int32)) := h81
      have H := (if_neg h81).symm.trans H
      refine jv_aload_n 1 (pc := 84) d_WR_finish_84 rfl ?_
      refine jv_getr (pc := 85) d_WR_finish_85 fa_WR_7_WR (by decide) rfl rfl ?_
      refine jv_sipush (255) (pc := 88) d_WR_finish_88 rfl ?_
      obtain ⟨v91, n91, c91, H⟩ := jbd_some H
      refine jv_callVi (sp_BR_append (255 : Int32) c91) (pc := 91) d_WR_finish_91 c0_BR_append lk_WR_61 in_BR_append se_BR_append (by decide) rfl rfl rfl (Nat.le_of_ble_eq_true rfl) ⟨by decide, by decide, by decide, by decide⟩ (fun r91 m91 h91 => ?_)
      obtain ⟨ha91, hb91⟩ := h91
      have ha91 := ha91.symm
      subst ha91
      have hb91 := hb91.symm
      subst hb91
      refine jv_pop (pc := 94) d_WR_finish_94 rfl ?_
      refine jv_aload_n 1 (pc := 95) d_WR_finish_95 rfl ?_
      refine jv_getr (pc := 96) d_WR_finish_96 fa_WR_7_WR (by decide) rfl rfl ?_
      refine jv_sipush (172) (pc := 99) d_WR_finish_99 rfl ?_
      obtain ⟨v102, n102, c102, H⟩ := jbd_some H
      refine jv_callVi (sp_BR_append (172 : Int32) c102) (pc := 102) d_WR_finish_102 c0_BR_append lk_WR_61 in_BR_append se_BR_append (by decide) rfl rfl rfl (Nat.le_of_ble_eq_true rfl) ⟨by decide, by decide, by decide, by decide⟩ (fun r102 m102 h102 => ?_)
      obtain ⟨ha102, hb102⟩ := h102
      have ha102 := ha102.symm
      subst ha102
      have hb102 := hb102.symm
      subst hb102
      refine jv_pop (pc := 105) d_WR_finish_105 rfl ?_
      refine jv_vret (pc := 106) d_WR_finish_106 rfl (Nat.zero_le _) (Nat.zero_le _) ?_
      cases H
      exact jU.of rfl
  · have h26 : ¬ (((σ 12 3) ||| (65535 : Int32)) < ((σ 12 3) + (σ 12 2))) := h26
    have H := (if_neg h26).symm.trans H
    refine jv_aload_n 1 (pc := 29) d_WR_finish_29 rfl ?_
    refine jv_dup (pc := 30) d_WR_finish_30 rfl ?_
    refine jv_geti (pc := 31) d_WR_finish_31 fa_WR_30_WR (by decide) rfl rfl ?_
    refine jv_ldc (32768) (pc := 34) d_WR_finish_34 (jin2 16 rfl rfl) ?_
    refine jv_isub (pc := 36) d_WR_finish_36 ?_
    refine jv_puti (pc := 37) d_WR_finish_37 fa_WR_30_WR fp_WR_3 (by decide) rfl rfl rfl rfl ?_
    refine jv_aload_n 1 (pc := 40) d_WR_finish_40 rfl ?_
    refine jv_dup (pc := 41) d_WR_finish_41 rfl ?_
    refine jv_geti (pc := 42) d_WR_finish_42 fa_WR_30_WR (by decide) rfl rfl ?_
    refine jv_aload_n 1 (pc := 45) d_WR_finish_45 rfl ?_
    refine jv_geti (pc := 46) d_WR_finish_46 fa_WR_33_WR (by decide) rfl rfl ?_
    refine jv_ishl (pc := 49) d_WR_finish_49 ?_
    refine jv_puti (pc := 50) d_WR_finish_50 fa_WR_30_WR fp_WR_3 (by decide) rfl rfl rfl rfl ?_
    refine jv_aload_n 1 (pc := 53) d_WR_finish_53 rfl ?_
    obtain ⟨_, n54, c54, H⟩ := jbd_some H
    refine jv_callVv (sp_WR_sendByte c54) (pc := 54) d_WR_finish_54 c0_WR_sendByte lk_WR_58 in_WR_sendByte se_WR_sendByte (by decide) rfl rfl rfl (Nat.le_of_ble_eq_true rfl) ⟨by decide, by decide, by decide, by decide⟩ (fun m54 h54 => ?_)
    have hb54 := h54
    have hb54 := hb54.symm
    subst hb54
    refine jv_aload_n 1 (pc := 57) d_WR_finish_57 rfl ?_
    refine jv_dup (pc := 58) d_WR_finish_58 rfl ?_
    refine jv_geti (pc := 59) d_WR_finish_59 fa_WR_30_WR (by decide) rfl rfl ?_
    refine jv_aload_n 1 (pc := 62) d_WR_finish_62 rfl ?_
    refine jv_geti (pc := 63) d_WR_finish_63 fa_WR_33_WR (by decide) rfl rfl ?_
    refine jv_ishl (pc := 66) d_WR_finish_66 ?_
    refine jv_puti (pc := 67) d_WR_finish_67 fa_WR_30_WR fp_WR_3 (by decide) rfl rfl rfl rfl ?_
    refine jv_aload_n 1 (pc := 70) d_WR_finish_70 rfl ?_
    obtain ⟨_, n71, c71, H⟩ := jbd_some H
    refine jv_callVv (sp_WR_sendByte c71) (pc := 71) d_WR_finish_71 c0_WR_sendByte lk_WR_58 in_WR_sendByte se_WR_sendByte (by decide) rfl rfl rfl (Nat.le_of_ble_eq_true rfl) ⟨by decide, by decide, by decide, by decide⟩ (fun m71 h71 => ?_)
    have hb71 := h71
    have hb71 := hb71.symm
    subst hb71
    refine jv_aload_n 1 (pc := 74) d_WR_finish_74 rfl ?_
    refine jv_geti (pc := 75) d_WR_finish_75 fa_WR_19_WR (by decide) rfl rfl ?_
    refine jv_sipush (255) (pc := 78) d_WR_finish_78 rfl ?_
    refine jv_icmp_eq 95 (pc := 81) d_WR_finish_81 rfl (fun h81 => ?_) (fun h81 => ?_)
    · have h81 : (n71 12 5) = (255 : Int32) := h81
      have H := (if_pos h81).symm.trans H
      refine jv_aload_n 1 (pc := 95) d_WR_finish_95 rfl ?_
      refine jv_getr (pc := 96) d_WR_finish_96 fa_WR_7_WR (by decide) rfl rfl ?_
      refine jv_sipush (172) (pc := 99) d_WR_finish_99 rfl ?_
      obtain ⟨v102, n102, c102, H⟩ := jbd_some H
      refine jv_callVi (sp_BR_append (172 : Int32) c102) (pc := 102) d_WR_finish_102 c0_BR_append lk_WR_61 in_BR_append se_BR_append (by decide) rfl rfl rfl (Nat.le_of_ble_eq_true rfl) ⟨by decide, by decide, by decide, by decide⟩ (fun r102 m102 h102 => ?_)
      obtain ⟨ha102, hb102⟩ := h102
      have ha102 := ha102.symm
      subst ha102
      have hb102 := hb102.symm
      subst hb102
      refine jv_pop (pc := 105) d_WR_finish_105 rfl ?_
      refine jv_vret (pc := 106) d_WR_finish_106 rfl (Nat.zero_le _) (Nat.zero_le _) ?_
      cases H
      exact jU.of rfl
    · have h81 : ¬ ((n71 12 5) = (255 : Int32)) := h81
      have H := (if_neg h81).symm.trans H
      refine jv_aload_n 1 (pc := 84) d_WR_finish_84 rfl ?_
      refine jv_getr (pc := 85) d_WR_finish_85 fa_WR_7_WR (by decide) rfl rfl ?_
      refine jv_sipush (255) (pc := 88) d_WR_finish_88 rfl ?_
      obtain ⟨v91, n91, c91, H⟩ := jbd_some H
      refine jv_callVi (sp_BR_append (255 : Int32) c91) (pc := 91) d_WR_finish_91 c0_BR_append lk_WR_61 in_BR_append se_BR_append (by decide) rfl rfl rfl (Nat.le_of_ble_eq_true rfl) ⟨by decide, by decide, by decide, by decide⟩ (fun r91 m91 h91 => ?_)
      obtain ⟨ha91, hb91⟩ := h91
      have ha91 := ha91.symm
      subst ha91
      have hb91 := hb91.symm
      subst hb91
      refine jv_pop (pc := 94) d_WR_finish_94 rfl ?_
      refine jv_aload_n 1 (pc := 95) d_WR_finish_95 rfl ?_
      refine jv_getr (pc := 96) d_WR_finish_96 fa_WR_7_WR (by decide) rfl rfl ?_
      refine jv_sipush (172) (pc := 99) d_WR_finish_99 rfl ?_
      obtain ⟨v102, n102, c102, H⟩ := jbd_some H
      refine jv_callVi (sp_BR_append (172 : Int32) c102) (pc := 102) d_WR_finish_102 c0_BR_append lk_WR_61 in_BR_append se_BR_append (by decide) rfl rfl rfl (Nat.le_of_ble_eq_true rfl) ⟨by decide, by decide, by decide, by decide⟩ (fun r102 m102 h102 => ?_)
      obtain ⟨ha102, hb102⟩ := h102
      have ha102 := ha102.symm
      subst ha102
      have hb102 := hb102.symm
      subst hb102
      refine jv_pop (pc := 105) d_WR_finish_105 rfl ?_
      refine jv_vret (pc := 106) d_WR_finish_106 rfl (Nat.zero_le _) (Nat.zero_le _) ?_
      cases H
      exact jU.of rfl
set_option maxRecDepth 40000 in
set_option maxHeartbeats 8000000 in
theorem sp_RD_takeByte {G : jG} {σ τ : jMem} {r : Unit} (H : f_RD_takeByte σ = some (r, τ)) : jSp G M_RD_takeByte (jr 1 0 0) [.ref 13] σ (jU fun τ9 => τ9 = τ) := by
  refine jSp.of rfl rfl (Nat.le_of_ble_eq_true rfl) ?_
  show jV _ _ _ _ 0 0 0 [(0, .ref 13)] [] σ
  unfold f_RD_takeByte at H
  refine jv_aload_n 0 (pc := 0) d_RD_takeByte_0 rfl ?_
  refine jv_getr (pc := 1) d_RD_takeByte_1 fa_RD_13_RD (by decide) rfl rfl ?_
  refine jv_aload_n 0 (pc := 4) d_RD_takeByte_4 rfl ?_
  refine jv_geti (pc := 5) d_RD_takeByte_5 fa_RD_7_RD (by decide) rfl rfl ?_
  obtain ⟨v8, n8, c8, H⟩ := jbd_some H
  refine jv_callVi (sp_BR_at (σ 13 5) c8) (pc := 8) d_RD_takeByte_8 c0_BR_at lk_RD_17 in_BR_at se_BR_at (by decide) rfl rfl rfl (Nat.le_of_ble_eq_true rfl) ⟨by decide, by decide, by decide, by decide⟩ (fun r8 m8 h8 => ?_)
  obtain ⟨ha8, hb8⟩ := h8
  have ha8 := ha8.symm
  subst ha8
  have hb8 := hb8.symm
  subst hb8
  refine jv_istore_n (pc := 11) d_RD_takeByte_11 rfl (by decide) (jsto_new rfl) ?_
  refine jv_aload_n 1 (pc := 12) d_RD_takeByte_12 rfl ?_
  refine jv_getr (pc := 13) d_RD_takeByte_13 fa_RD_13_RD (by decide) rfl rfl ?_
  refine jv_aload_n 1 (pc := 16) d_RD_takeByte_16 rfl ?_
  refine jv_geti (pc := 17) d_RD_takeByte_17 fa_RD_7_RD (by decide) rfl rfl ?_
  refine jv_iconst 1 (pc := 20) d_RD_takeByte_20 rfl ?_
  refine jv_iadd (pc := 21) d_RD_takeByte_21 ?_
  obtain ⟨v22, n22, c22, H⟩ := jbd_some H
  refine jv_callVi (sp_BR_at ((n8 13 5) + (1 : Int32)) c22) (pc := 22) d_RD_takeByte_22 c0_BR_at lk_RD_17 in_BR_at se_BR_at (by decide) rfl rfl rfl (Nat.le_of_ble_eq_true rfl) ⟨by decide, by decide, by decide, by decide⟩ (fun r22 m22 h22 => ?_)
  obtain ⟨ha22, hb22⟩ := h22
  have ha22 := ha22.symm
  subst ha22
  have hb22 := hb22.symm
  subst hb22
  refine jv_istore_n (pc := 25) d_RD_takeByte_25 rfl (by decide) (jsto_new rfl) ?_
  refine jv_iload_n 1 (pc := 26) d_RD_takeByte_26 rfl ?_
  refine jv_sipush (255) (pc := 27) d_RD_takeByte_27 rfl ?_
  refine jv_icmp_eq 65 (pc := 30) d_RD_takeByte_30 rfl (fun h30 => ?_) (fun h30 => ?_)
  · have h30 : v8 = (255 : Int32) := h30
    have H := (if_pos h30).symm.trans H
    refine jv_iload_n 0 (pc := 65) d_RD_takeByte_65 rfl ?_
    refine jv_sipush (143) (pc := 66) d_RD_takeByte_66 rfl ?_
    refine jv_icmp_le 92 (pc := 69) d_RD_takeByte_69 rfl (fun h69 => ?_) (fun h69 => ?_)
    · have h69 : v22 ≤ (143 : Int32) := h69
      have H := (if_pos h69).symm.trans H
      refine jv_aload_n 2 (pc := 92) d_RD_takeByte_92 rfl ?_
      refine jv_dup (pc := 93) d_RD_takeByte_93 rfl ?_
      refine jv_geti (pc := 94) d_RD_takeByte_94 fa_RD_7_RD (by decide) rfl rfl ?_
      refine jv_iconst 1 (pc := 97) d_RD_takeByte_97 rfl ?_
      refine jv_iadd (pc := 98) d_RD_takeByte_98 ?_
      refine jv_puti (pc := 99) d_RD_takeByte_99 fa_RD_7_RD fp_RD_5 (by decide) rfl rfl rfl rfl ?_
      refine jv_aload_n 2 (pc := 102) d_RD_takeByte_102 rfl ?_
      refine jv_dup (pc := 103) d_RD_takeByte_103 rfl ?_
      refine jv_geti (pc := 104) d_RD_takeByte_104 fa_RD_23_RD (by decide) rfl rfl ?_
      refine jv_iload_n 0 (pc := 107) d_RD_takeByte_107 rfl ?_
      refine jv_bipush (9) (pc := 108) d_RD_takeByte_108 rfl ?_
      refine jv_ishl (pc := 110) d_RD_takeByte_110 ?_
      refine jv_iadd (pc := 111) d_RD_takeByte_111 ?_
      refine jv_puti (pc := 112) d_RD_takeByte_112 fa_RD_23_RD fp_RD_3 (by decide) rfl rfl rfl rfl ?_
      refine jv_aload_n 2 (pc := 115) d_RD_takeByte_115 rfl ?_
      refine jv_bipush (7) (pc := 116) d_RD_takeByte_116 rfl ?_
      refine jv_puti (pc := 118) d_RD_takeByte_118 fa_RD_30_RD fp_RD_4 (by decide) rfl rfl rfl rfl ?_
      refine jv_vret (pc := 121) d_RD_takeByte_121 rfl (Nat.zero_le _) (Nat.zero_le _) ?_
      cases H
      exact jU.of rfl
    · have h69 : ¬ (v22 ≤ (143 : Int32)) := h69
      have H := (if_neg h69).symm.trans H
      refine jv_aload_n 2 (pc := 72) d_RD_takeByte_72 rfl ?_
      refine jv_dup (pc := 73) d_RD_takeByte_73 rfl ?_
      refine jv_geti (pc := 74) d_RD_takeByte_74 fa_RD_23_RD (by decide) rfl rfl ?_
      refine jv_ldc (65280) (pc := 77) d_RD_takeByte_77 (jin2 29 rfl rfl) ?_
      refine jv_iadd (pc := 79) d_RD_takeByte_79 ?_
      refine jv_puti (pc := 80) d_RD_takeByte_80 fa_RD_23_RD fp_RD_3 (by decide) rfl rfl rfl rfl ?_
      refine jv_aload_n 2 (pc := 83) d_RD_takeByte_83 rfl ?_
      refine jv_bipush (8) (pc := 84) d_RD_takeByte_84 rfl ?_
      refine jv_puti (pc := 86) d_RD_takeByte_86 fa_RD_30_RD fp_RD_4 (by decide) rfl rfl rfl rfl ?_
      refine jv_goto 121 (pc := 89) d_RD_takeByte_89 rfl ?_
      refine jv_vret (pc := 121) d_RD_takeByte_121 rfl (Nat.zero_le _) (Nat.zero_le _) ?_
      cases H
      exact jU.of rfl
  · have h30 : ¬ (v8 = (255 : Int32)) := h30
    have H := (if_neg h30).symm.trans H
    refine jv_aload_n 2 (pc := 33) d_RD_takeByte_33 rfl ?_
    refine jv_dup (pc := 34) d_RD_takeByte_34 rfl ?_
    refine jv_geti (pc := 35) d_RD_takeByte_35 fa_RD_7_RD (by decide) rfl rfl ?_
    refine jv_iconst 1 (pc := 38) d_RD_takeByte_38 rfl ?_
    refine jv_iadd (pc := 39) d_RD_takeByte_39 ?_
    refine jv_puti (pc := 40) d_RD_takeByte_40 fa_RD_7_RD fp_RD_5 (by decide) rfl rfl rfl rfl ?_
    refine jv_aload_n 2 (pc := 43) d_RD_takeByte_43 rfl ?_
    refine jv_dup (pc := 44) d_RD_takeByte_44 rfl ?_
    refine jv_geti (pc := 45) d_RD_takeByte_45 fa_RD_23_RD (by decide) rfl rfl ?_
    refine jv_iload_n 0 (pc := 48) d_RD_takeByte_48 rfl ?_
    refine jv_bipush (8) (pc := 49) d_RD_takeByte_49 rfl ?_
    refine jv_ishl (pc := 51) d_RD_takeByte_51 ?_
    refine jv_iadd (pc := 52) d_RD_takeByte_52 ?_
    refine jv_puti (pc := 53) d_RD_takeByte_53 fa_RD_23_RD fp_RD_3 (by decide) rfl rfl rfl rfl ?_
    refine jv_aload_n 2 (pc := 56) d_RD_takeByte_56 rfl ?_
    refine jv_bipush (8) (pc := 57) d_RD_takeByte_57 rfl ?_
    refine jv_puti (pc := 59) d_RD_takeByte_59 fa_RD_30_RD fp_RD_4 (by decide) rfl rfl rfl rfl ?_
    refine jv_goto 121 (pc := 62) d_RD_takeByte_62 rfl ?_
    refine jv_vret (pc := 121) d_RD_takeByte_121 rfl (Nat.zero_le _) (Nat.zero_le _) ?_
    cases H
    exact jU.of rfl
set_option maxRecDepth 40000 in
set_option maxHeartbeats 8000000 in
theorem sp_RD_start {G : jG} {σ τ : jMem} {r : Unit} (H : f_RD_start σ = some (r, τ)) : jSp G M_RD_start (jr 2 0 0) [.ref 13] σ (jU fun τ9 => τ9 = τ) := by
  refine jSp.of rfl rfl (Nat.le_of_ble_eq_true rfl) ?_
  show jV _ _ _ _ 0 0 0 [(0, .ref 13)] [] σ
  unfold f_RD_start at H
  refine jv_aload_n 0 (pc := 0) d_RD_start_0 rfl ?_
  refine jv_iconst 0 (pc := 1) d_RD_start_1 rfl ?_
  refine jv_puti (pc := 2) d_RD_start_2 fa_RD_7_RD fp_RD_5 (by decide) rfl rfl rfl rfl ?_
  refine jv_aload_n 0 (pc := 5) d_RD_start_5 rfl ?_
  refine jv_aload_n 0 (pc := 6) d_RD_start_6 rfl ?_
  refine jv_getr (pc := 7) d_RD_start_7 fa_RD_13_RD (by decide) rfl rfl ?_
  refine jv_iconst 0 (pc := 10) d_RD_start_10 rfl ?_
  obtain ⟨v11, n11, c11, H⟩ := jbd_some H
  refine jv_callVi (sp_BR_at (0 : Int32) c11) (pc := 11) d_RD_start_11 c0_BR_at lk_RD_17 in_BR_at se_BR_at (by decide) rfl rfl rfl (Nat.le_of_ble_eq_true rfl) ⟨by decide, by decide, by decide, by decide⟩ (fun r11 m11 h11 => ?_)
  obtain ⟨ha11, hb11⟩ := h11
  have ha11 := ha11.symm
  subst ha11
  have hb11 := hb11.symm
  subst hb11
  refine jv_bipush (16) (pc := 14) d_RD_start_14 rfl ?_
  refine jv_ishl (pc := 16) d_RD_start_16 ?_
  refine jv_puti (pc := 17) d_RD_start_17 fa_RD_23_RD fp_RD_3 (by decide) rfl rfl rfl rfl ?_
  refine jv_aload_n 0 (pc := 20) d_RD_start_20 rfl ?_
  obtain ⟨_, n21, c21, H⟩ := jbd_some H
  refine jv_callVv (sp_RD_takeByte c21) (pc := 21) d_RD_start_21 c0_RD_takeByte lk_RD_26 in_RD_takeByte se_RD_takeByte (by decide) rfl rfl rfl (Nat.le_of_ble_eq_true rfl) ⟨by decide, by decide, by decide, by decide⟩ (fun m21 h21 => ?_)
  have hb21 := h21
  have hb21 := hb21.symm
  subst hb21
  refine jv_aload_n 0 (pc := 24) d_RD_start_24 rfl ?_
  refine jv_dup (pc := 25) d_RD_start_25 rfl ?_
  refine jv_geti (pc := 26) d_RD_start_26 fa_RD_23_RD (by decide) rfl rfl ?_
  refine jv_bipush (7) (pc := 29) d_RD_start_29 rfl ?_
  refine jv_ishl (pc := 31) d_RD_start_31 ?_
  refine jv_puti (pc := 32) d_RD_start_32 fa_RD_23_RD fp_RD_3 (by decide) rfl rfl rfl rfl ?_
  refine jv_aload_n 0 (pc := 35) d_RD_start_35 rfl ?_
  refine jv_dup (pc := 36) d_RD_start_36 rfl ?_
  refine jv_geti (pc := 37) d_RD_start_37 fa_RD_30_RD (by decide) rfl rfl ?_
  refine jv_bipush (7) (pc := 40) d_RD_start_40 rfl ?_
  refine jv_isub (pc := 42) d_RD_start_42 ?_
  refine jv_puti (pc := 43) d_RD_start_43 fa_RD_30_RD fp_RD_4 (by decide) rfl rfl rfl rfl ?_
  refine jv_aload_n 0 (pc := 46) d_RD_start_46 rfl ?_
  refine jv_ldc (32768) (pc := 47) d_RD_start_47 (jin2 30 rfl rfl) ?_
  refine jv_puti (pc := 49) d_RD_start_49 fa_RD_34_RD fp_RD_2 (by decide) rfl rfl rfl rfl ?_
  refine jv_vret (pc := 52) d_RD_start_52 rfl (Nat.zero_le _) (Nat.zero_le _) ?_
  cases H
  exact jU.of rfl
set_option maxRecDepth 40000 in
set_option maxHeartbeats 8000000 in
theorem lp_RD_shiftIn_2 {G : jG} : ∀ (n : Nat) (x1 : Int32) (σ τ : jMem) (r : Unit), f_RD_shiftIn_L2 n x1 σ = some (r, τ) → jV G M_RD_shiftIn (jr 2 0 0) (jU fun τ9 => τ9 = τ) 0 0 2 [(0, .ref 13), (1, .int x1)] [] σ := by
  intro n
  induction n with
  | zero =>
    intro x1 σ τ r H
    cases H
  | succ n ih =>
    intro x1 σ τ r H
    rw [f_RD_shiftIn_L2.eq_2] at H
    refine jv_iload_n 1 (pc := 2) d_RD_shiftIn_2 rfl ?_
    refine jv_bipush (16) (pc := 3) d_RD_shiftIn_3 rfl ?_
    refine jv_icmp_ge 68 (pc := 5) d_RD_shiftIn_5 rfl (fun h5 => ?_) (fun h5 => ?_)
    · have h5 : (16 : Int32) ≤ x1 := h5
      have H := (if_pos h5).symm.trans H
      refine jv_vret (pc := 68) d_RD_shiftIn_68 rfl (Nat.zero_le _) (Nat.zero_le _) ?_
      cases H
      exact jU.of rfl
    · have h5 : ¬ ((16 : Int32) ≤ x1) := h5
      have H := (if_neg h5).symm.trans H
      refine jv_iload_n 1 (pc := 8) d_RD_shiftIn_8 rfl ?_
      refine jv_if_eq 21 (pc := 9) d_RD_shiftIn_9 rfl (fun h9 => ?_) (fun h9 => ?_)
      · have h9 : x1 = 0 := h9
        have H := (if_pos h9).symm.trans H
        refine jv_aload_n 0 (pc := 21) d_RD_shiftIn_21 rfl ?_
        refine jv_geti (pc := 22) d_RD_shiftIn_22 fa_RD_30_RD (by decide) rfl rfl ?_
        refine jv_if_ne 32 (pc := 25) d_RD_shiftIn_25 rfl (fun h25 => ?_) (fun h25 => ?_)
        · have h25 : ¬ ((σ 13 4) = 0) := h25
          have H := (if_neg h25).symm.trans H
          refine jv_aload_n 0 (pc := 32) d_RD_shiftIn_32 rfl ?_
          refine jv_dup (pc := 33) d_RD_shiftIn_33 rfl ?_
          refine jv_geti (pc := 34) d_RD_shiftIn_34 fa_RD_34_RD (by decide) rfl rfl ?_
          refine jv_iconst 1 (pc := 37) d_RD_shiftIn_37 rfl ?_
          refine jv_ishl (pc := 38) d_RD_shiftIn_38 ?_
          refine jv_puti (pc := 39) d_RD_shiftIn_39 fa_RD_34_RD fp_RD_2 (by decide) rfl rfl rfl rfl ?_
          refine jv_aload_n 0 (pc := 42) d_RD_shiftIn_42 rfl ?_
          refine jv_dup (pc := 43) d_RD_shiftIn_43 rfl ?_
          refine jv_geti (pc := 44) d_RD_shiftIn_44 fa_RD_23_RD (by decide) rfl rfl ?_
          refine jv_iconst 1 (pc := 47) d_RD_shiftIn_47 rfl ?_
          refine jv_ishl (pc := 48) d_RD_shiftIn_48 ?_
          refine jv_puti (pc := 49) d_RD_shiftIn_49 fa_RD_23_RD fp_RD_3 (by decide) rfl rfl rfl rfl ?_
          refine jv_aload_n 0 (pc := 52) d_RD_shiftIn_52 rfl ?_
          refine jv_dup (pc := 53) d_RD_shiftIn_53 rfl ?_
          refine jv_geti (pc := 54) d_RD_shiftIn_54 fa_RD_30_RD (by decide) rfl rfl ?_
          refine jv_iconst 1 (pc := 57) d_RD_shiftIn_57 rfl ?_
          refine jv_isub (pc := 58) d_RD_shiftIn_58 ?_
          refine jv_puti (pc := 59) d_RD_shiftIn_59 fa_RD_30_RD fp_RD_4 (by decide) rfl rfl rfl rfl ?_
          refine jv_iinc 1 _ (pc := 62) d_RD_shiftIn_62 rfl (jinc1 _) (by decide) (jst1 rfl) ?_
          refine jv_goto 2 (pc := 65) d_RD_shiftIn_65 rfl ?_
          exact jv_sub [0, 1] rfl (ih (x1 + 1) _ _ _ H)
        · have h25 : (σ 13 4) = 0 := h25
          have H := (if_pos h25).symm.trans H
          refine jv_aload_n 0 (pc := 28) d_RD_shiftIn_28 rfl ?_
          obtain ⟨_, n29, c29, H⟩ := jbd_some H
          refine jv_callVv (sp_RD_takeByte c29) (pc := 29) d_RD_shiftIn_29 c0_RD_takeByte lk_RD_26 in_RD_takeByte se_RD_takeByte (by decide) rfl rfl rfl (Nat.le_of_ble_eq_true rfl) ⟨by decide, by decide, by decide, by decide⟩ (fun m29 h29 => ?_)
          have hb29 := h29
          have hb29 := hb29.symm
          subst hb29
          refine jv_aload_n 0 (pc := 32) d_RD_shiftIn_32 rfl ?_
          refine jv_dup (pc := 33) d_RD_shiftIn_33 rfl ?_
          refine jv_geti (pc := 34) d_RD_shiftIn_34 fa_RD_34_RD (by decide) rfl rfl ?_
          refine jv_iconst 1 (pc := 37) d_RD_shiftIn_37 rfl ?_
          refine jv_ishl (pc := 38) d_RD_shiftIn_38 ?_
          refine jv_puti (pc := 39) d_RD_shiftIn_39 fa_RD_34_RD fp_RD_2 (by decide) rfl rfl rfl rfl ?_
          refine jv_aload_n 0 (pc := 42) d_RD_shiftIn_42 rfl ?_
          refine jv_dup (pc := 43) d_RD_shiftIn_43 rfl ?_
          refine jv_geti (pc := 44) d_RD_shiftIn_44 fa_RD_23_RD (by decide) rfl rfl ?_
          refine jv_iconst 1 (pc := 47) d_RD_shiftIn_47 rfl ?_
          refine jv_ishl (pc := 48) d_RD_shiftIn_48 ?_
          refine jv_puti (pc := 49) d_RD_shiftIn_49 fa_RD_23_RD fp_RD_3 (by decide) rfl rfl rfl rfl ?_
          refine jv_aload_n 0 (pc := 52) d_RD_shiftIn_52 rfl ?_
          refine jv_dup (pc := 53) d_RD_shiftIn_53 rfl ?_
          refine jv_geti (pc := 54) d_RD_shiftIn_54 fa_RD_30_RD (by decide) rfl rfl ?_
          refine jv_iconst 1 (pc := 57) d_RD_shiftIn_57 rfl ?_
          refine jv_isub (pc := 58) d_RD_shiftIn_58 ?_
          refine jv_puti (pc := 59) d_RD_shiftIn_59 fa_RD_30_RD fp_RD_4 (by decide) rfl rfl rfl rfl ?_
          refine jv_iinc 1 _ (pc := 62) d_RD_shiftIn_62 rfl (jinc1 _) (by decide) (jst1 rfl) ?_
          refine jv_goto 2 (pc := 65) d_RD_shiftIn_65 rfl ?_
          exact jv_sub [0, 1] rfl (ih (x1 + 1) _ _ _ H)
      · have h9 : ¬ (x1 = 0) := h9
        have H := (if_neg h9).symm.trans H
        refine jv_aload_n 0 (pc := 12) d_RD_shiftIn_12 rfl ?_
        refine jv_geti (pc := 13) d_RD_shiftIn_13 fa_RD_34_RD (by decide) rfl rfl ?_
        refine jv_ldc (32768) (pc := 16) d_RD_shiftIn_16 (jin2 30 rfl rfl) ?_
        refine jv_icmp_ge 68 (pc := 18) d_RD_shiftIn_18 rfl (fun h18 => ?_) (fun h18 => ?_)
        · have h18 : (32768 : Int32) ≤ (σ 13 2) := h18
          have H := (if_pos h18).symm.trans H
          refine jv_vret (pc := 68) d_RD_shiftIn_68 rfl (Nat.zero_le _) (Nat.zero_le _) ?_
          cases H
          exact jU.of rfl
        · have h18 : ¬ ((32768 : Int32) ≤ (σ 13 2)) := h18
          have H := (if_neg h18).symm.trans H
          refine jv_aload_n 0 (pc := 21) d_RD_shiftIn_21 rfl ?_
          refine jv_geti (pc := 22) d_RD_shiftIn_22 fa_RD_30_RD (by decide) rfl rfl ?_
          refine jv_if_ne 32 (pc := 25) d_RD_shiftIn_25 rfl (fun h25 => ?_) (fun h25 => ?_)
          · have h25 : ¬ ((σ 13 4) = 0) := h25
            have H := (if_neg h25).symm.trans H
            refine jv_aload_n 0 (pc := 32) d_RD_shiftIn_32 rfl ?_
            refine jv_dup (pc := 33) d_RD_shiftIn_33 rfl ?_
            refine jv_geti (pc := 34) d_RD_shiftIn_34 fa_RD_34_RD (by decide) rfl rfl ?_
            refine jv_iconst 1 (pc := 37) d_RD_shiftIn_37 rfl ?_
            refine jv_ishl (pc := 38) d_RD_shiftIn_38 ?_
            refine jv_puti (pc := 39) d_RD_shiftIn_39 fa_RD_34_RD fp_RD_2 (by decide) rfl rfl rfl rfl ?_
            refine jv_aload_n 0 (pc := 42) d_RD_shiftIn_42 rfl ?_
            refine jv_dup (pc := 43) d_RD_shiftIn_43 rfl ?_
            refine jv_geti (pc := 44) d_RD_shiftIn_44 fa_RD_23_RD (by decide) rfl rfl ?_
            refine jv_iconst 1 (pc := 47) d_RD_shiftIn_47 rfl ?_
            refine jv_ishl (pc := 48) d_RD_shiftIn_48 ?_
            refine jv_puti (pc := 49) d_RD_shiftIn_49 fa_RD_23_RD fp_RD_3 (by decide) rfl rfl rfl rfl ?_
            refine jv_aload_n 0 (pc := 52) d_RD_shiftIn_52 rfl ?_
            refine jv_dup (pc := 53) d_RD_shiftIn_53 rfl ?_
            refine jv_geti (pc := 54) d_RD_shiftIn_54 fa_RD_30_RD (by decide) rfl rfl ?_
            refine jv_iconst 1 (pc := 57) d_RD_shiftIn_57 rfl ?_
            refine jv_isub (pc := 58) d_RD_shiftIn_58 ?_
            refine jv_puti (pc := 59) d_RD_shiftIn_59 fa_RD_30_RD fp_RD_4 (by decide) rfl rfl rfl rfl ?_
            refine jv_iinc 1 _ (pc := 62) d_RD_shiftIn_62 rfl (jinc1 _) (by decide) (jst1 rfl) ?_
            refine jv_goto 2 (pc := 65) d_RD_shiftIn_65 rfl ?_
            exact jv_sub [0, 1] rfl (ih (x1 + 1) _ _ _ H)
          · have h25 : (σ 13 4) = 0 := h25
            have H := (if_pos h25).symm.trans H
            refine jv_aload_n 0 (pc := 28) d_RD_shiftIn_28 rfl ?_
            obtain ⟨_, n29, c29, H⟩ := jbd_some H
            refine jv_callVv (sp_RD_takeByte c29) (pc := 29) d_RD_shiftIn_29 c0_RD_takeByte lk_RD_26 in_RD_takeByte se_RD_takeByte (by decide) rfl rfl rfl (Nat.le_of_ble_eq_true rfl) ⟨by decide, by decide, by decide, by decide⟩ (fun m29 h29 => ?_)
            have hb29 := h29
            have hb29 := hb29.symm
            subst hb29
            refine jv_aload_n 0 (pc := 32) d_RD_shiftIn_32 rfl ?_
            refine jv_dup (pc := 33) d_RD_shiftIn_33 rfl ?_
            refine jv_geti (pc := 34) d_RD_shiftIn_34 fa_RD_34_RD (by decide) rfl rfl ?_
            refine jv_iconst 1 (pc := 37) d_RD_shiftIn_37 rfl ?_
            refine jv_ishl (pc := 38) d_RD_shiftIn_38 ?_
            refine jv_puti (pc := 39) d_RD_shiftIn_39 fa_RD_34_RD fp_RD_2 (by decide) rfl rfl rfl rfl ?_
            refine jv_aload_n 0 (pc := 42) d_RD_shiftIn_42 rfl ?_
            refine jv_dup (pc := 43) d_RD_shiftIn_43 rfl ?_
            refine jv_geti (pc := 44) d_RD_shiftIn_44 fa_RD_23_RD (by decide) rfl rfl ?_
            refine jv_iconst 1 (pc := 47) d_RD_shiftIn_47 rfl ?_
            refine jv_ishl (pc := 48) d_RD_shiftIn_48 ?_
            refine jv_puti (pc := 49) d_RD_shiftIn_49 fa_RD_23_RD fp_RD_3 (by decide) rfl rfl rfl rfl ?_
            refine jv_aload_n 0 (pc := 52) d_RD_shiftIn_52 rfl ?_
            refine jv_dup (pc := 53) d_RD_shiftIn_53 rfl ?_
            refine jv_geti (pc := 54) d_RD_shiftIn_54 fa_RD_30_RD (by decide) rfl rfl ?_
            refine jv_iconst 1 (pc := 57) d_RD_shiftIn_57 rfl ?_
            refine jv_isub (pc := 58) d_RD_shiftIn_58 ?_
            refine jv_puti (pc := 59) d_RD_shiftIn_59 fa_RD_30_RD fp_RD_4 (by decide) rfl rfl rfl rfl ?_
            refine jv_iinc 1 _ (pc := 62) d_RD_shiftIn_62 rfl (jinc1 _) (by decide) (jst1 rfl) ?_
            refine jv_goto 2 (pc := 65) d_RD_shiftIn_65 rfl ?_
            exact jv_sub [0, 1] rfl (ih (x1 + 1) _ _ _ H)
set_option maxRecDepth 40000 in
set_option maxHeartbeats 8000000 in
theorem sp_RD_shiftIn {G : jG} {σ τ : jMem} {r : Unit} (H : f_RD_shiftIn σ = some (r, τ)) : jSp G M_RD_shiftIn (jr 2 0 0) [.ref 13] σ (jU fun τ9 => τ9 = τ) := by
  refine jSp.of rfl rfl (Nat.le_of_ble_eq_true rfl) ?_
  show jV _ _ _ _ 0 0 0 [(0, .ref 13)] [] σ
  unfold f_RD_shiftIn at H
  refine jv_iconst 0 (pc := 0) d_RD_shiftIn_0 rfl ?_
  refine jv_istore_n (pc := 1) d_RD_shiftIn_1 rfl (by decide) (jsto_new rfl) ?_
  exact jv_sub [1, 0] rfl (lp_RD_shiftIn_2  _ (0 : Int32) _ _ _ H)
set_option maxRecDepth 40000 in
set_option maxHeartbeats 8000000 in
theorem sp_RD_decide {G : jG} {σ τ : jMem} {r : Int32} (x1 x2 : Int32) (H : f_RD_decide x1 x2 σ = some (r, τ)) : jSp G M_RD_decide (jr 3 0 0) [.ref 13, .int x1, .int x2] σ (jI fun r9 τ9 => r9 = r ∧ τ9 = τ) := by
  refine jSp.of rfl rfl (Nat.le_of_ble_eq_true rfl) ?_
  show jV _ _ _ _ 0 0 0 [(0, .ref 13), (1, .int x1), (2, .int x2)] [] σ
  unfold f_RD_decide at H
  refine jv_aload_n 0 (pc := 0) d_RD_decide_0 rfl ?_
  refine jv_getr (pc := 1) d_RD_decide_1 fa_RD_37_RD (by decide) rfl rfl ?_
  refine jv_iload_n 1 (pc := 4) d_RD_decide_4 rfl ?_
  obtain ⟨v5, n5, c5, H⟩ := jbd_some H
  refine jv_callVi (sp_CX_sizeOf x1 c5) (pc := 5) d_RD_decide_5 c0_CX_sizeOf lk_RD_41 in_CX_sizeOf se_CX_sizeOf (by decide) rfl rfl rfl (Nat.le_of_ble_eq_true rfl) ⟨by decide, by decide, by decide, by decide⟩ (fun r5 m5 h5 => ?_)
  obtain ⟨ha5, hb5⟩ := h5
  have ha5 := ha5.symm
  subst ha5
  have hb5 := hb5.symm
  subst hb5
  refine jv_istore_n (pc := 8) d_RD_decide_8 rfl (by decide) (jsto_new rfl) ?_
  refine jv_aload_n 1 (pc := 9) d_RD_decide_9 rfl ?_
  refine jv_getr (pc := 10) d_RD_decide_10 fa_RD_37_RD (by decide) rfl rfl ?_
  refine jv_iload_n 2 (pc := 13) d_RD_decide_13 rfl ?_
  obtain ⟨v14, n14, c14, H⟩ := jbd_some H
  refine jv_callVi (sp_CX_likely x1 c14) (pc := 14) d_RD_decide_14 c0_CX_likely lk_RD_46 in_CX_likely se_CX_likely (by decide) rfl rfl rfl (Nat.le_of_ble_eq_true rfl) ⟨by decide, by decide, by decide, by decide⟩ (fun r14 m14 h14 => ?_)
  obtain ⟨ha14, hb14⟩ := h14
  have ha14 := ha14.symm
  subst ha14
  have hb14 := hb14.symm
  subst hb14
  refine jv_istore (pc := 17) d_RD_decide_17 (by decide) (jsto_new rfl) ?_
  refine jv_aload_n 2 (pc := 19) d_RD_decide_19 rfl ?_
  refine jv_dup (pc := 20) d_RD_decide_20 rfl ?_
  refine jv_geti (pc := 21) d_RD_decide_21 fa_RD_34_RD (by decide) rfl rfl ?_
  refine jv_iload_n 1 (pc := 24) d_RD_decide_24 rfl ?_
  refine jv_isub (pc := 25) d_RD_decide_25 ?_
  refine jv_puti (pc := 26) d_RD_decide_26 fa_RD_34_RD fp_RD_2 (by decide) rfl rfl rfl rfl ?_
  refine jv_aload_n 2 (pc := 29) d_RD_decide_29 rfl ?_
  refine jv_geti (pc := 30) d_RD_decide_30 fa_RD_23_RD (by decide) rfl rfl ?_
  refine jv_bipush (16) (pc := 33) d_RD_decide_33 rfl ?_
  refine jv_iushr (pc := 35) d_RD_decide_35 ?_
  refine jv_iload_n 1 (pc := 36) d_RD_decide_36 rfl ?_
  refine jv_icmp_ge 63 (pc := 37) d_RD_decide_37 rfl (fun h37 => ?_) (fun h37 => ?_)
  · have h37 : v5 ≤ (((n14 13 3).toUInt32 >>> ((16 : Int32).toUInt32 &&& Int32.toUInt32 31)).toInt32) := h37
    have H := (if_pos h37).symm.trans H
    refine jv_aload_n 2 (pc := 63) d_RD_decide_63 rfl ?_
    refine jv_dup (pc := 64) d_RD_decide_64 rfl ?_
    refine jv_geti (pc := 65) d_RD_decide_65 fa_RD_23_RD (by decide) rfl rfl ?_
    refine jv_iload_n 1 (pc := 68) d_RD_decide_68 rfl ?_
    refine jv_bipush (16) (pc := 69) d_RD_decide_69 rfl ?_
    refine jv_ishl (pc := 71) d_RD_decide_71 ?_
    refine jv_isub (pc := 72) d_RD_decide_72 ?_
    refine jv_puti (pc := 73) d_RD_decide_73 fa_RD_23_RD fp_RD_3 (by decide) rfl rfl rfl rfl ?_
    refine jv_aload_n 2 (pc := 76) d_RD_decide_76 rfl ?_
    refine jv_geti (pc := 77) d_RD_decide_77 fa_RD_34_RD (by decide) rfl rfl ?_
    refine jv_ldc (32768) (pc := 80) d_RD_decide_80 (jin2 30 rfl rfl) ?_
    refine jv_icmp_lt 88 (pc := 82) d_RD_decide_82 rfl (fun h82 => ?_) (fun h82 => ?_)
    · have h82 : ((n14 13 2) - v5) < (32768 : Int32) := h82
      have H := (if_pos h82).symm.trans H
      refine jv_aload_n 2 (pc := 88) d_RD_decide_88 rfl ?_
      refine jv_geti (pc := 89) d_RD_decide_89 fa_RD_34_RD (by decide) rfl rfl ?_
      refine jv_iload_n 1 (pc := 92) d_RD_decide_92 rfl ?_
      refine jv_icmp_lt 100 (pc := 93) d_RD_decide_93 rfl (fun h93 => ?_) (fun h93 => ?_)
      · have h93 : ((n14 13 2) - v5) < v5 := h93
        have H := (if_pos h93).symm.trans H
        refine jv_iconst 0 (pc := 100) d_RD_decide_100 rfl ?_
        refine jv_istore (pc := 101) d_RD_decide_101 (by decide) (jsto_new rfl) ?_
        refine jv_aload_n 3 (pc := 103) d_RD_decide_103 rfl ?_
        refine jv_getr (pc := 104) d_RD_decide_104 fa_RD_37_RD (by decide) rfl rfl ?_
        refine jv_iload_n 4 (pc := 107) d_RD_decide_107 rfl ?_
        refine jv_iload 0 (pc := 108) d_RD_decide_108 rfl ?_
        obtain ⟨_, n110, c110, H⟩ := jbd_some H
        refine jv_callVv (sp_CX_adapt x1 (0 : Int32) c110) (pc := 110) d_RD_decide_110 c0_CX_adapt lk_RD_49 in_CX_adapt se_CX_adapt (by decide) rfl rfl rfl (Nat.le_of_ble_eq_true rfl) ⟨by decide, by decide, by decide, by decide⟩ (fun m110 h110 => ?_)
        have hb110 := h110
        have hb110 := hb110.symm
        subst hb110
        refine jv_aload_n 3 (pc := 113) d_RD_decide_113 rfl ?_
        obtain ⟨_, n114, c114, H⟩ := jbd_some H
        refine jv_callVv (sp_RD_shiftIn c114) (pc := 114) d_RD_decide_114 c0_RD_shiftIn lk_RD_53 in_RD_shiftIn se_RD_shiftIn (by decide) rfl rfl rfl (Nat.le_of_ble_eq_true rfl) ⟨by decide, by decide, by decide, by decide⟩ (fun m114 h114 => ?_)
        have hb114 := h114
        have hb114 := hb114.symm
        subst hb114
        refine jv_iload 0 (pc := 117) d_RD_decide_117 rfl ?_
        refine jv_if_eq 127 (pc := 119) d_RD_decide_119 rfl (fun h119 => ?_) (fun h119 => absurd (show (0 : Int32) = 0 by decide) (show ¬ ((0 : Int32) = 0) from h119))
        refine jv_iconst 1 (pc := 127) d_RD_decide_127 rfl ?_
        refine jv_iload 1 (pc := 128) d_RD_decide_128 rfl ?_
        refine jv_isub (pc := 130) d_RD_decide_130 ?_
        refine jv_iret (pc := 131) d_RD_decide_131 rfl rfl (Nat.zero_le _) (Nat.zero_le _) ?_
        cases H
        exact jI.of ⟨rfl, rfl⟩
      · have h93 : ¬ (((n14 13 2) - v5) < v5) := h93
        have H := (if_neg h93).symm.trans H
        refine jv_iconst 1 (pc := 96) d_RD_decide_96 rfl ?_
        refine jv_goto 101 (pc := 97) d_RD_decide_97 rfl ?_
        refine jv_istore (pc := 101) d_RD_decide_101 (by decide) (jsto_new rfl) ?_
        refine jv_aload_n 3 (pc := 103) d_RD_decide_103 rfl ?_
        refine jv_getr (pc := 104) d_RD_decide_104 fa_RD_37_RD (by decide) rfl rfl ?_
        refine jv_iload_n 4 (pc := 107) d_RD_decide_107 rfl ?_
        refine jv_iload 0 (pc := 108) d_RD_decide_108 rfl ?_
        obtain ⟨_, n110, c110, H⟩ := jbd_some H
        refine jv_callVv (sp_CX_adapt x1 (1 : Int32) c110) (pc := 110) d_RD_decide_110 c0_CX_adapt lk_RD_49 in_CX_adapt se_CX_adapt (by decide) rfl rfl rfl (Nat.le_of_ble_eq_true rfl) ⟨by decide, by decide, by decide, by decide⟩ (fun m110 h110 => ?_)
        have hb110 := h110
        have hb110 := hb110.symm
        subst hb110
        refine jv_aload_n 3 (pc := 113) d_RD_decide_113 rfl ?_
        obtain ⟨_, n114, c114, H⟩ := jbd_some H
        refine jv_callVv (sp_RD_shiftIn c114) (pc := 114) d_RD_decide_114 c0_RD_shiftIn lk_RD_53 in_RD_shiftIn se_RD_shiftIn (by decide) rfl rfl rfl (Nat.le_of_ble_eq_true rfl) ⟨by decide, by decide, by decide, by decide⟩ (fun m114 h114 => ?_)
        have hb114 := h114
        have hb114 := hb114.symm
        subst hb114
        refine jv_iload 0 (pc := 117) d_RD_decide_117 rfl ?_
        refine jv_if_eq 127 (pc := 119) d_RD_decide_119 rfl (fun h119 => absurd (show (1 : Int32) = 0 from h119) (by decide)) (fun h119 => ?_)
        refine jv_iload 1 (pc := 122) d_RD_decide_122 rfl ?_
        refine jv_goto 131 (pc := 124) d_RD_decide_124 rfl ?_
        refine jv_iret (pc := 131) d_RD_decide_131 rfl rfl (Nat.zero_le _) (Nat.zero_le _) ?_
        cases H
        exact jI.of ⟨rfl, rfl⟩
    · have h82 : ¬ (((n14 13 2) - v5) < (32768 : Int32)) := h82
      have H := (if_neg h82).symm.trans H
      refine jv_iload 0 (pc := 85) d_RD_decide_85 rfl ?_
      refine jv_iret (pc := 87) d_RD_decide_87 rfl rfl (Nat.zero_le _) (Nat.zero_le _) ?_
      cases H
      exact jI.of ⟨rfl, rfl⟩
  · have h37 : ¬ (v5 ≤ (((n14 13 3).toUInt32 >>> ((16 : Int32).toUInt32 &&& Int32.toUInt32 31)).toInt32)) := h37
    have H := (if_neg h37).symm.trans H
    refine jv_aload_n 2 (pc := 40) d_RD_decide_40 rfl ?_
    refine jv_geti (pc := 41) d_RD_decide_41 fa_RD_34_RD (by decide) rfl rfl ?_
    refine jv_iload_n 1 (pc := 44) d_RD_decide_44 rfl ?_
    refine jv_icmp_ge 52 (pc := 45) d_RD_decide_45 rfl (fun h45 => ?_) (fun h45 => ?_)
    · have h45 : v5 ≤ ((n14 13 2) - v5) := h45
      have H := (if_pos h45).symm.trans H
      refine jv_iconst 0 (pc := 52) d_RD_decide_52 rfl ?_
      refine jv_istore (pc := 53) d_RD_decide_53 (by decide) (jsto_new rfl) ?_
      refine jv_aload_n 3 (pc := 55) d_RD_decide_55 rfl ?_
      refine jv_iload_n 2 (pc := 56) d_RD_decide_56 rfl ?_
      refine jv_puti (pc := 57) d_RD_decide_57 fa_RD_34_RD fp_RD_2 (by decide) rfl rfl rfl rfl ?_
      refine jv_goto 103 (pc := 60) d_RD_decide_60 rfl ?_
      refine jv_aload_n 3 (pc := 103) d_RD_decide_103 rfl ?_
      refine jv_getr (pc := 104) d_RD_decide_104 fa_RD_37_RD (by decide) rfl rfl ?_
      refine jv_iload_n 4 (pc := 107) d_RD_decide_107 rfl ?_
      refine jv_iload 0 (pc := 108) d_RD_decide_108 rfl ?_
      obtain ⟨_, n110, c110, H⟩ := jbd_some H
      refine jv_callVv (sp_CX_adapt x1 (0 : Int32) c110) (pc := 110) d_RD_decide_110 c0_CX_adapt lk_RD_49 in_CX_adapt se_CX_adapt (by decide) rfl rfl rfl (Nat.le_of_ble_eq_true rfl) ⟨by decide, by decide, by decide, by decide⟩ (fun m110 h110 => ?_)
      have hb110 := h110
      have hb110 := hb110.symm
      subst hb110
      refine jv_aload_n 3 (pc := 113) d_RD_decide_113 rfl ?_
      obtain ⟨_, n114, c114, H⟩ := jbd_some H
      refine jv_callVv (sp_RD_shiftIn c114) (pc := 114) d_RD_decide_114 c0_RD_shiftIn lk_RD_53 in_RD_shiftIn se_RD_shiftIn (by decide) rfl rfl rfl (Nat.le_of_ble_eq_true rfl) ⟨by decide, by decide, by decide, by decide⟩ (fun m114 h114 => ?_)
      have hb114 := h114
      have hb114 := hb114.symm
      subst hb114
      refine jv_iload 0 (pc := 117) d_RD_decide_117 rfl ?_
      refine jv_if_eq 127 (pc := 119) d_RD_decide_119 rfl (fun h119 => ?_) (fun h119 => absurd (show (0 : Int32) = 0 by decide) (show ¬ ((0 : Int32) = 0) from h119))
      refine jv_iconst 1 (pc := 127) d_RD_decide_127 rfl ?_
      refine jv_iload 1 (pc := 128) d_RD_decide_128 rfl ?_
      refine jv_isub (pc := 130) d_RD_decide_130 ?_
      refine jv_iret (pc := 131) d_RD_decide_131 rfl rfl (Nat.zero_le _) (Nat.zero_le _) ?_
      cases H
      exact jI.of ⟨rfl, rfl⟩
    · have h45 : ¬ (v5 ≤ ((n14 13 2) - v5)) := h45
      have H := (if_neg h45).symm.trans H
      refine jv_iconst 1 (pc := 48) d_RD_decide_48 rfl ?_
      refine jv_goto 53 (pc := 49) d_RD_decide_49 rfl ?_
      refine jv_istore (pc := 53) d_RD_decide_53 (by decide) (jsto_new rfl) ?_
      refine jv_aload_n 3 (pc := 55) d_RD_decide_55 rfl ?_
      refine jv_iload_n 2 (pc := 56) d_RD_decide_56 rfl ?_
      refine jv_puti (pc := 57) d_RD_decide_57 fa_RD_34_RD fp_RD_2 (by decide) rfl rfl rfl rfl ?_
      refine jv_goto 103 (pc := 60) d_RD_decide_60 rfl ?_
      refine jv_aload_n 3 (pc := 103) d_RD_decide_103 rfl ?_
      refine jv_getr (pc := 104) d_RD_decide_104 fa_RD_37_RD (by decide) rfl rfl ?_
      refine jv_iload_n 4 (pc := 107) d_RD_decide_107 rfl ?_
      refine jv_iload 0 (pc := 108) d_RD_decide_108 rfl ?_
      obtain ⟨_, n110, c110, H⟩ := jbd_some H
      refine jv_callVv (sp_CX_adapt x1 (1 : Int32) c110) (pc := 110) d_RD_decide_110 c0_CX_adapt lk_RD_49 in_CX_adapt se_CX_adapt (by decide) rfl rfl rfl (Nat.le_of_ble_eq_true rfl) ⟨by decide, by decide, by decide, by decide⟩ (fun m110 h110 => ?_)
      have hb110 := h110
      have hb110 := hb110.symm
      subst hb110
      refine jv_aload_n 3 (pc := 113) d_RD_decide_113 rfl ?_
      obtain ⟨_, n114, c114, H⟩ := jbd_some H
      refine jv_callVv (sp_RD_shiftIn c114) (pc := 114) d_RD_decide_114 c0_RD_shiftIn lk_RD_53 in_RD_shiftIn se_RD_shiftIn (by decide) rfl rfl rfl (Nat.le_of_ble_eq_true rfl) ⟨by decide, by decide, by decide, by decide⟩ (fun m114 h114 => ?_)
      have hb114 := h114
      have hb114 := hb114.symm
      subst hb114
      refine jv_iload 0 (pc := 117) d_RD_decide_117 rfl ?_
      refine jv_if_eq 127 (pc := 119) d_RD_decide_119 rfl (fun h119 => absurd (show (1 : Int32) = 0 from h119) (by decide)) (fun h119 => ?_)
      refine jv_iload 1 (pc := 122) d_RD_decide_122 rfl ?_
      refine jv_goto 131 (pc := 124) d_RD_decide_124 rfl ?_
      refine jv_iret (pc := 131) d_RD_decide_131 rfl rfl (Nat.zero_le _) (Nat.zero_le _) ?_
      cases H
      exact jI.of ⟨rfl, rfl⟩
