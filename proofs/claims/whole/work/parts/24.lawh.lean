/-! the law's methods that catch: functions and contracts, by program -/
set_option maxRecDepth 40000 in
set_option maxHeartbeats 8000000 in
theorem sp_LW_size {G : jG} {σ τ : jMem} {r : Int32} (x1 x2 x3 : Int32) (htr : G.l.stackTraces = false) (H : f_LW_size x1 x2 x3 σ = some (r, τ)) : jSp G M_LW_size (jr 8 2 12) [.ref 0, .int x1, .int x2, .int x3] σ (jI fun r9 τ9 => r9 = r ∧ τ9 = τ) := by
  refine jSp.of rfl rfl (Nat.le_of_ble_eq_true rfl) ?_
  show jV _ _ _ _ 0 0 0 [(0, .ref 0), (1, .int x1), (2, .int x2), (3, .int x3)] [] σ
  unfold f_LW_size at H
  refine jv_aload_n 0 (pc := 0) d_LW_size_0 rfl ?_
  refine jv_iload_n 1 (pc := 1) d_LW_size_1 rfl ?_
  refine jv_iload_n 2 (pc := 2) d_LW_size_2 rfl ?_
  refine jv_iload_n 3 (pc := 3) d_LW_size_3 rfl ?_
  rcases jbh_some H with ⟨v4, n4, c4, H⟩ | ⟨v4, n4, c4, H⟩
  · refine jv_callVv (jSp.tv (sp_IC_size x1 x2 x3 htr c4)) (pc := 4) d_LW_size_4 c0_IC_size lk_LW_7 in_IC_size se_IC_size (by decide) rfl rfl rfl (Nat.le_of_ble_eq_true rfl) ⟨by decide, by decide, by decide, by decide⟩ (fun m4 h4 => ?_)
    have hb4 := h4
    have hb4 := hb4.symm
    subst hb4
    refine jv_goto 18 (pc := 7) d_LW_size_7 rfl ?_
    refine jv_iconst 0 (pc := 18) d_LW_size_18 rfl ?_
    refine jv_iret (pc := 19) d_LW_size_19 rfl rfl (by decide) (by decide) ?_
    cases H
    exact jI.of ⟨rfl, rfl⟩
  · skip
    by_cases g4_0 : v4 = 0
    · have H := (if_pos g4_0).symm.trans H
      rw [g4_0] at c4
      refine jv_callVC (x := 0) (sp_IC_size x1 x2 x3 htr c4) (by decide) (pc := 4) d_LW_size_4 c0_IC_size lm_LW_7 in_IC_size se_IC_size (by decide) rfl rfl rfl (Nat.le_of_ble_eq_true rfl) ⟨by decide, by decide, by decide, by decide⟩ [(13, 10, 0), (15, 14, 1)] rfl (by decide) (List.forall_mem_cons.mpr ⟨⟨by decide, by decide, cl_LW_13⟩, List.forall_mem_cons.mpr ⟨⟨by decide, by decide, cl_LW_15⟩, fun _ h => absurd h List.not_mem_nil⟩⟩) rfl (Or.inl ⟨d_LW_size_10, rfl⟩) (by decide) rfl ?_
      refine jv_iconst 1 (pc := 12) d_LW_size_12 rfl ?_
      refine jv_iret (pc := 13) d_LW_size_13 rfl rfl (by decide) (by decide) ?_
      cases H
      exact jI.of ⟨rfl, rfl⟩
    have H := (if_neg g4_0).symm.trans H
    by_cases g4_1 : v4 = 1
    · have H := (if_pos g4_1).symm.trans H
      rw [g4_1] at c4
      refine jv_callVC (x := 1) (sp_IC_size x1 x2 x3 htr c4) (by decide) (pc := 4) d_LW_size_4 c0_IC_size lm_LW_7 in_IC_size se_IC_size (by decide) rfl rfl rfl (Nat.le_of_ble_eq_true rfl) ⟨by decide, by decide, by decide, by decide⟩ [(13, 10, 0), (15, 14, 1)] rfl (by decide) (List.forall_mem_cons.mpr ⟨⟨by decide, by decide, cl_LW_13⟩, List.forall_mem_cons.mpr ⟨⟨by decide, by decide, cl_LW_15⟩, fun _ h => absurd h List.not_mem_nil⟩⟩) rfl (Or.inl ⟨d_LW_size_14, rfl⟩) (by decide) rfl ?_
      refine jv_iconst 2 (pc := 16) d_LW_size_16 rfl ?_
      refine jv_iret (pc := 17) d_LW_size_17 rfl rfl (by decide) (by decide) ?_
      cases H
      exact jI.of ⟨rfl, rfl⟩
    have H := (if_neg g4_1).symm.trans H
    cases H
set_option maxRecDepth 40000 in
set_option maxHeartbeats 8000000 in
theorem sp_LW_flip {G : jG} {σ τ : jMem} {r : Int32} (x1 x2 x3 : Int32) (htr : G.l.stackTraces = false) (H : f_LW_flip x1 x2 x3 σ = some (r, τ)) : jSp G M_LW_flip (jr 8 2 12) [.ref 0, .int x1, .int x2, .int x3, .ref 47] σ (jI fun r9 τ9 => r9 = r ∧ τ9 = τ) := by
  refine jSp.of rfl rfl (Nat.le_of_ble_eq_true rfl) ?_
  show jV _ _ _ _ 0 0 0 [(0, .ref 0), (1, .int x1), (2, .int x2), (3, .int x3), (4, .ref 47)] [] σ
  unfold f_LW_flip at H
  refine jv_aload 4 (pc := 0) d_LW_flip_0 rfl ?_
  refine jv_iconst 0 (pc := 2) d_LW_flip_2 rfl ?_
  refine jv_aload_n 0 (pc := 3) d_LW_flip_3 rfl ?_
  refine jv_iload_n 1 (pc := 4) d_LW_flip_4 rfl ?_
  refine jv_iload_n 2 (pc := 5) d_LW_flip_5 rfl ?_
  refine jv_iload_n 3 (pc := 6) d_LW_flip_6 rfl ?_
  rcases jbh_some H with ⟨v7, n7, c7, H⟩ | ⟨v7, n7, c7, H⟩
  · refine jv_callVi (jSp.ti (sp_IC_flip x1 x2 x3 htr c7)) (pc := 7) d_LW_flip_7 c0_IC_flip lk_LW_17 in_IC_flip se_IC_flip (by decide) rfl rfl rfl (Nat.le_of_ble_eq_true rfl) ⟨by decide, by decide, by decide, by decide⟩ (fun r7 m7 h7 => ?_)
    obtain ⟨ha7, hb7⟩ := h7
    have ha7 := ha7.symm
    subst ha7
    have hb7 := hb7.symm
    subst hb7
    refine jv_if_eq 17 (pc := 10) d_LW_flip_10 rfl (fun h10 => ?_) (fun h10 => ?_)
    · have h10 : v7 = 0 := h10
      have H := (if_pos h10).symm.trans H
      refine jv_lconst 0 (pc := 17) d_LW_flip_17 rfl ?_
      refine jv_last (0 : Int32) rfl (pc := 18) d_LW_flip_18 (by decide) rfl jin01 ?_
      refine jv_goto 26 (pc := 19) d_LW_flip_19 rfl ?_
      refine jv_iconst 0 (pc := 26) d_LW_flip_26 rfl ?_
      refine jv_iret (pc := 27) d_LW_flip_27 rfl rfl (by decide) (by decide) ?_
      cases H
      exact jI.of ⟨rfl, rfl⟩
    · have h10 : ¬ (v7 = 0) := h10
      have H := (if_neg h10).symm.trans H
      refine jv_lconst 1 (pc := 13) d_LW_flip_13 rfl ?_
      refine jv_goto 18 (pc := 14) d_LW_flip_14 rfl ?_
      refine jv_last (1 : Int32) rfl (pc := 18) d_LW_flip_18 (by decide) rfl jin01 ?_
      refine jv_goto 26 (pc := 19) d_LW_flip_19 rfl ?_
      refine jv_iconst 0 (pc := 26) d_LW_flip_26 rfl ?_
      refine jv_iret (pc := 27) d_LW_flip_27 rfl rfl (by decide) (by decide) ?_
      cases H
      exact jI.of ⟨rfl, rfl⟩
  · skip
    by_cases g7_0 : v7 = 0
    · have H := (if_pos g7_0).symm.trans H
      rw [g7_0] at c7
      refine jv_callVC (x := 0) (sp_IC_flip x1 x2 x3 htr c7) (by decide) (pc := 7) d_LW_flip_7 c0_IC_flip lm_LW_17 in_IC_flip se_IC_flip (by decide) rfl rfl rfl (Nat.le_of_ble_eq_true rfl) ⟨by decide, by decide, by decide, by decide⟩ [(13, 22, 0)] rfl (by decide) (List.forall_mem_cons.mpr ⟨⟨by decide, by decide, cl_LW_13⟩, fun _ h => absurd h List.not_mem_nil⟩) rfl (Or.inl ⟨d_LW_flip_22, rfl⟩) (by decide) rfl ?_
      refine jv_iconst 1 (pc := 24) d_LW_flip_24 rfl ?_
      refine jv_iret (pc := 25) d_LW_flip_25 rfl rfl (by decide) (by decide) ?_
      cases H
      exact jI.of ⟨rfl, rfl⟩
    have H := (if_neg g7_0).symm.trans H
    cases H
set_option maxRecDepth 40000 in
set_option maxHeartbeats 8000000 in
theorem sp_LW_draw {G : jG} {σ τ : jMem} {r : Int32} (x1 x2 x3 x4 x5 : Int32) (htr : G.l.stackTraces = false) (H : f_LW_draw x1 x2 x3 x4 x5 σ = some (r, τ)) : jSp G M_LW_draw (jr 8 3 18) [.ref 0, .int x1, .int x2, .int x3, .int x4, .int x5] σ (jI fun r9 τ9 => r9 = r ∧ τ9 = τ) := by
  refine jSp.of rfl rfl (Nat.le_of_ble_eq_true rfl) ?_
  show jV _ _ _ _ 0 0 0 [(0, .ref 0), (1, .int x1), (2, .int x2), (3, .int x3), (4, .int x4), (5, .int x5)] [] σ
  unfold f_LW_draw at H
  refine jv_aload_n 0 (pc := 0) d_LW_draw_0 rfl ?_
  refine jv_iload_n 1 (pc := 1) d_LW_draw_1 rfl ?_
  refine jv_iload_n 2 (pc := 2) d_LW_draw_2 rfl ?_
  refine jv_iload_n 3 (pc := 3) d_LW_draw_3 rfl ?_
  refine jv_iload 4 (pc := 4) d_LW_draw_4 rfl ?_
  refine jv_iload 5 (pc := 6) d_LW_draw_6 rfl ?_
  rcases jbh_some H with ⟨v8, n8, c8, H⟩ | ⟨v8, n8, c8, H⟩
  · refine jv_callVv (jSp.tv (sp_IC_draw x1 x2 x3 x4 x5 htr c8)) (pc := 8) d_LW_draw_8 c0_IC_draw lk_LW_21 in_IC_draw se_IC_draw (by decide) rfl rfl rfl (Nat.le_of_ble_eq_true rfl) ⟨by decide, by decide, by decide, by decide⟩ (fun m8 h8 => ?_)
    have hb8 := h8
    have hb8 := hb8.symm
    subst hb8
    refine jv_goto 22 (pc := 11) d_LW_draw_11 rfl ?_
    refine jv_iconst 0 (pc := 22) d_LW_draw_22 rfl ?_
    refine jv_iret (pc := 23) d_LW_draw_23 rfl rfl (by decide) (by decide) ?_
    cases H
    exact jI.of ⟨rfl, rfl⟩
  · skip
    by_cases g8_0 : v8 = 0
    · have H := (if_pos g8_0).symm.trans H
      rw [g8_0] at c8
      refine jv_callVC (x := 0) (sp_IC_draw x1 x2 x3 x4 x5 htr c8) (by decide) (pc := 8) d_LW_draw_8 c0_IC_draw lm_LW_21 in_IC_draw se_IC_draw (by decide) rfl rfl rfl (Nat.le_of_ble_eq_true rfl) ⟨by decide, by decide, by decide, by decide⟩ [(13, 14, 0), (15, 18, 1)] rfl (by decide) (List.forall_mem_cons.mpr ⟨⟨by decide, by decide, cl_LW_13⟩, List.forall_mem_cons.mpr ⟨⟨by decide, by decide, cl_LW_15⟩, fun _ h => absurd h List.not_mem_nil⟩⟩) rfl (Or.inl ⟨d_LW_draw_14, rfl⟩) (by decide) rfl ?_
      refine jv_iconst 1 (pc := 16) d_LW_draw_16 rfl ?_
      refine jv_iret (pc := 17) d_LW_draw_17 rfl rfl (by decide) (by decide) ?_
      cases H
      exact jI.of ⟨rfl, rfl⟩
    have H := (if_neg g8_0).symm.trans H
    by_cases g8_1 : v8 = 1
    · have H := (if_pos g8_1).symm.trans H
      rw [g8_1] at c8
      refine jv_callVC (x := 1) (sp_IC_draw x1 x2 x3 x4 x5 htr c8) (by decide) (pc := 8) d_LW_draw_8 c0_IC_draw lm_LW_21 in_IC_draw se_IC_draw (by decide) rfl rfl rfl (Nat.le_of_ble_eq_true rfl) ⟨by decide, by decide, by decide, by decide⟩ [(13, 14, 0), (15, 18, 1)] rfl (by decide) (List.forall_mem_cons.mpr ⟨⟨by decide, by decide, cl_LW_13⟩, List.forall_mem_cons.mpr ⟨⟨by decide, by decide, cl_LW_15⟩, fun _ h => absurd h List.not_mem_nil⟩⟩) rfl (Or.inl ⟨d_LW_draw_18, rfl⟩) (by decide) rfl ?_
      refine jv_iconst 2 (pc := 20) d_LW_draw_20 rfl ?_
      refine jv_iret (pc := 21) d_LW_draw_21 rfl rfl (by decide) (by decide) ?_
      cases H
      exact jI.of ⟨rfl, rfl⟩
    have H := (if_neg g8_1).symm.trans H
    cases H
set_option maxRecDepth 40000 in
set_option maxHeartbeats 8000000 in
theorem sp_LW_board {G : jG} {σ τ : jMem} {r : Int32} (x1 x2 : Int32) (htr : G.l.stackTraces = false) (H : f_LW_board x1 x2 σ = some (r, τ)) : jSp G M_LW_board (jr 8 2 12) [.ref 0, .int x1, .int x2, .ref 47] σ (jI fun r9 τ9 => r9 = r ∧ τ9 = τ) := by
  refine jSp.of rfl rfl (Nat.le_of_ble_eq_true rfl) ?_
  show jV _ _ _ _ 0 0 0 [(0, .ref 0), (1, .int x1), (2, .int x2), (3, .ref 47)] [] σ
  unfold f_LW_board at H
  refine jv_aload_n 3 (pc := 0) d_LW_board_0 rfl ?_
  refine jv_iconst 0 (pc := 1) d_LW_board_1 rfl ?_
  refine jv_aload_n 0 (pc := 2) d_LW_board_2 rfl ?_
  refine jv_iload_n 1 (pc := 3) d_LW_board_3 rfl ?_
  refine jv_iload_n 2 (pc := 4) d_LW_board_4 rfl ?_
  rcases jbh_some H with ⟨v5, n5, c5, H⟩ | ⟨v5, n5, c5, H⟩
  · refine jv_callVi (jSp.ti (sp_IC_board x1 x2 htr c5)) (pc := 5) d_LW_board_5 c0_IC_board lk_LW_25 in_IC_board se_IC_board (by decide) rfl rfl rfl (Nat.le_of_ble_eq_true rfl) ⟨by decide, by decide, by decide, by decide⟩ (fun r5 m5 h5 => ?_)
    obtain ⟨ha5, hb5⟩ := h5
    have ha5 := ha5.symm
    subst ha5
    have hb5 := hb5.symm
    subst hb5
    refine jv_i2l (pc := 8) d_LW_board_8 ?_
    refine jv_last v5 rfl (pc := 9) d_LW_board_9 (by decide) rfl jin01 ?_
    refine jv_goto 21 (pc := 10) d_LW_board_10 rfl ?_
    refine jv_iconst 0 (pc := 21) d_LW_board_21 rfl ?_
    refine jv_iret (pc := 22) d_LW_board_22 rfl rfl (by decide) (by decide) ?_
    cases H
    exact jI.of ⟨rfl, rfl⟩
  · skip
    by_cases g5_0 : v5 = 0
    · have H := (if_pos g5_0).symm.trans H
      rw [g5_0] at c5
      refine jv_callVC (x := 0) (sp_IC_board x1 x2 htr c5) (by decide) (pc := 5) d_LW_board_5 c0_IC_board lm_LW_25 in_IC_board se_IC_board (by decide) rfl rfl rfl (Nat.le_of_ble_eq_true rfl) ⟨by decide, by decide, by decide, by decide⟩ [(13, 13, 0), (15, 17, 1)] rfl (by decide) (List.forall_mem_cons.mpr ⟨⟨by decide, by decide, cl_LW_13⟩, List.forall_mem_cons.mpr ⟨⟨by decide, by decide, cl_LW_15⟩, fun _ h => absurd h List.not_mem_nil⟩⟩) rfl (Or.inl ⟨d_LW_board_13, rfl⟩) (by decide) rfl ?_
      refine jv_iconst 1 (pc := 15) d_LW_board_15 rfl ?_
      refine jv_iret (pc := 16) d_LW_board_16 rfl rfl (by decide) (by decide) ?_
      cases H
      exact jI.of ⟨rfl, rfl⟩
    have H := (if_neg g5_0).symm.trans H
    by_cases g5_1 : v5 = 1
    · have H := (if_pos g5_1).symm.trans H
      rw [g5_1] at c5
      refine jv_callVC (x := 1) (sp_IC_board x1 x2 htr c5) (by decide) (pc := 5) d_LW_board_5 c0_IC_board lm_LW_25 in_IC_board se_IC_board (by decide) rfl rfl rfl (Nat.le_of_ble_eq_true rfl) ⟨by decide, by decide, by decide, by decide⟩ [(13, 13, 0), (15, 17, 1)] rfl (by decide) (List.forall_mem_cons.mpr ⟨⟨by decide, by decide, cl_LW_13⟩, List.forall_mem_cons.mpr ⟨⟨by decide, by decide, cl_LW_15⟩, fun _ h => absurd h List.not_mem_nil⟩⟩) rfl (Or.inl ⟨d_LW_board_17, rfl⟩) (by decide) rfl ?_
      refine jv_iconst 2 (pc := 19) d_LW_board_19 rfl ?_
      refine jv_iret (pc := 20) d_LW_board_20 rfl rfl (by decide) (by decide) ?_
      cases H
      exact jI.of ⟨rfl, rfl⟩
    have H := (if_neg g5_1).symm.trans H
    cases H
set_option maxRecDepth 40000 in
set_option maxHeartbeats 8000000 in
theorem sp_LW_code {G : jG} {σ τ : jMem} {r : Int32} (x1 : Int32) (htr : G.l.stackTraces = false) (H : f_LW_code x1 σ = some (r, τ)) : jSp G M_LW_code (jr 7 1 6) [.ref 0, .int x1, .ref 47] σ (jI fun r9 τ9 => r9 = r ∧ τ9 = τ) := by
  refine jSp.of rfl rfl (Nat.le_of_ble_eq_true rfl) ?_
  show jV _ _ _ _ 0 0 0 [(0, .ref 0), (1, .int x1), (2, .ref 47)] [] σ
  unfold f_LW_code at H
  refine jv_aload_n 2 (pc := 0) d_LW_code_0 rfl ?_
  refine jv_iconst 0 (pc := 1) d_LW_code_1 rfl ?_
  refine jv_aload_n 0 (pc := 2) d_LW_code_2 rfl ?_
  refine jv_iload_n 1 (pc := 3) d_LW_code_3 rfl ?_
  rcases jbh_some H with ⟨v4, n4, c4, H⟩ | ⟨v4, n4, c4, H⟩
  · refine jv_callVi (jSp.ti (sp_IC_code x1 htr c4)) (pc := 4) d_LW_code_4 c0_IC_code lk_LW_29 in_IC_code se_IC_code (by decide) rfl rfl rfl (Nat.le_of_ble_eq_true rfl) ⟨by decide, by decide, by decide, by decide⟩ (fun r4 m4 h4 => ?_)
    obtain ⟨ha4, hb4⟩ := h4
    have ha4 := ha4.symm
    subst ha4
    have hb4 := hb4.symm
    subst hb4
    refine jv_i2l (pc := 7) d_LW_code_7 ?_
    refine jv_last v4 rfl (pc := 8) d_LW_code_8 (by decide) rfl jin01 ?_
    refine jv_goto 15 (pc := 9) d_LW_code_9 rfl ?_
    refine jv_iconst 0 (pc := 15) d_LW_code_15 rfl ?_
    refine jv_iret (pc := 16) d_LW_code_16 rfl rfl (by decide) (by decide) ?_
    cases H
    exact jI.of ⟨rfl, rfl⟩
  · skip
    by_cases g4_0 : v4 = 0
    · have H := (if_pos g4_0).symm.trans H
      rw [g4_0] at c4
      refine jv_callVC (x := 0) (sp_IC_code x1 htr c4) (by decide) (pc := 4) d_LW_code_4 c0_IC_code lm_LW_29 in_IC_code se_IC_code (by decide) rfl rfl rfl (Nat.le_of_ble_eq_true rfl) ⟨by decide, by decide, by decide, by decide⟩ [(13, 12, 0)] rfl (by decide) (List.forall_mem_cons.mpr ⟨⟨by decide, by decide, cl_LW_13⟩, fun _ h => absurd h List.not_mem_nil⟩) rfl (Or.inr ⟨3, d_LW_code_12, rfl, rfl⟩) (by decide) rfl ?_
      refine jv_iconst 1 (pc := 13) d_LW_code_13 rfl ?_
      refine jv_iret (pc := 14) d_LW_code_14 rfl rfl (by decide) (by decide) ?_
      cases H
      exact jI.of ⟨rfl, rfl⟩
    have H := (if_neg g4_0).symm.trans H
    cases H
set_option maxRecDepth 40000 in
set_option maxHeartbeats 8000000 in
theorem sp_LW_end {G : jG} {σ τ : jMem} {r : Int32} (htr : G.l.stackTraces = false) (H : f_LW_end σ = some (r, τ)) : jSp G M_LW_end (jr 8 1 6) [.ref 0, .ref 47] σ (jI fun r9 τ9 => r9 = r ∧ τ9 = τ) := by
  refine jSp.of rfl rfl (Nat.le_of_ble_eq_true rfl) ?_
  show jV _ _ _ _ 0 0 0 [(0, .ref 0), (1, .ref 47)] [] σ
  unfold f_LW_end at H
  refine jv_aload_n 1 (pc := 0) d_LW_end_0 rfl ?_
  refine jv_iconst 0 (pc := 1) d_LW_end_1 rfl ?_
  refine jv_aload_n 0 (pc := 2) d_LW_end_2 rfl ?_
  rcases jbh_some H with ⟨v3, n3, c3, H⟩ | ⟨v3, n3, c3, H⟩
  · refine jv_callVi (jSp.ti (sp_IC_end htr c3)) (pc := 3) d_LW_end_3 c0_IC_end lk_LW_33 in_IC_end se_IC_end (by decide) rfl rfl rfl (Nat.le_of_ble_eq_true rfl) ⟨by decide, by decide, by decide, by decide⟩ (fun r3 m3 h3 => ?_)
    obtain ⟨ha3, hb3⟩ := h3
    have ha3 := ha3.symm
    subst ha3
    have hb3 := hb3.symm
    subst hb3
    refine jv_i2l (pc := 6) d_LW_end_6 ?_
    refine jv_last v3 rfl (pc := 7) d_LW_end_7 (by decide) rfl jin01 ?_
    refine jv_goto 14 (pc := 8) d_LW_end_8 rfl ?_
    refine jv_iconst 0 (pc := 14) d_LW_end_14 rfl ?_
    refine jv_iret (pc := 15) d_LW_end_15 rfl rfl (by decide) (by decide) ?_
    cases H
    exact jI.of ⟨rfl, rfl⟩
  · skip
    by_cases g3_2 : v3 = 2
    · have H := (if_pos g3_2).symm.trans H
      rw [g3_2] at c3
      refine jv_callVC (x := 2) (sp_IC_end htr c3) (by decide) (pc := 3) d_LW_end_3 c0_IC_end lm_LW_33 in_IC_end se_IC_end (by decide) rfl rfl rfl (Nat.le_of_ble_eq_true rfl) ⟨by decide, by decide, by decide, by decide⟩ [(37, 11, 2)] rfl (by decide) (List.forall_mem_cons.mpr ⟨⟨by decide, by decide, cl_LW_37⟩, fun _ h => absurd h List.not_mem_nil⟩) rfl (Or.inr ⟨2, d_LW_end_11, rfl, rfl⟩) (by decide) rfl ?_
      refine jv_iconst 1 (pc := 12) d_LW_end_12 rfl ?_
      refine jv_iret (pc := 13) d_LW_end_13 rfl rfl (by decide) (by decide) ?_
      cases H
      exact jI.of ⟨rfl, rfl⟩
    have H := (if_neg g3_2).symm.trans H
    cases H
set_option maxRecDepth 40000 in
set_option maxHeartbeats 8000000 in
theorem sp_LW_region {G : jG} {σ τ : jMem} {r : Int32} (x1 x2 x3 : Int32) (htr : G.l.stackTraces = false) (H : f_LW_region x1 x2 x3 σ = some (r, τ)) : jSp G M_LW_region (jr 8 3 18) [.ref 0, .int x1, .int x2, .int x3, .ref 47] σ (jI fun r9 τ9 => r9 = r ∧ τ9 = τ) := by
  refine jSp.of rfl rfl (Nat.le_of_ble_eq_true rfl) ?_
  show jV _ _ _ _ 0 0 0 [(0, .ref 0), (1, .int x1), (2, .int x2), (3, .int x3), (4, .ref 47)] [] σ
  unfold f_LW_region at H
  refine jv_aload 4 (pc := 0) d_LW_region_0 rfl ?_
  refine jv_iconst 0 (pc := 2) d_LW_region_2 rfl ?_
  refine jv_aload_n 0 (pc := 3) d_LW_region_3 rfl ?_
  refine jv_iload_n 1 (pc := 4) d_LW_region_4 rfl ?_
  refine jv_iload_n 2 (pc := 5) d_LW_region_5 rfl ?_
  refine jv_iload_n 3 (pc := 6) d_LW_region_6 rfl ?_
  rcases jbh_some H with ⟨v7, n7, c7, H⟩ | ⟨v7, n7, c7, H⟩
  · refine jv_callVi (jSp.ti (sp_IC_region x1 x2 x3 htr c7)) (pc := 7) d_LW_region_7 c0_IC_region lk_LW_39 in_IC_region se_IC_region (by decide) rfl rfl rfl (Nat.le_of_ble_eq_true rfl) ⟨by decide, by decide, by decide, by decide⟩ (fun r7 m7 h7 => ?_)
    obtain ⟨ha7, hb7⟩ := h7
    have ha7 := ha7.symm
    subst ha7
    have hb7 := hb7.symm
    subst hb7
    refine jv_i2l (pc := 10) d_LW_region_10 ?_
    refine jv_last v7 rfl (pc := 11) d_LW_region_11 (by decide) rfl jin01 ?_
    refine jv_goto 27 (pc := 12) d_LW_region_12 rfl ?_
    refine jv_iconst 0 (pc := 27) d_LW_region_27 rfl ?_
    refine jv_iret (pc := 28) d_LW_region_28 rfl rfl (by decide) (by decide) ?_
    cases H
    exact jI.of ⟨rfl, rfl⟩
  · skip
    by_cases g7_2 : v7 = 2
    · have H := (if_pos g7_2).symm.trans H
      rw [g7_2] at c7
      refine jv_callVC (x := 2) (sp_IC_region x1 x2 x3 htr c7) (by decide) (pc := 7) d_LW_region_7 c0_IC_region lm_LW_39 in_IC_region se_IC_region (by decide) rfl rfl rfl (Nat.le_of_ble_eq_true rfl) ⟨by decide, by decide, by decide, by decide⟩ [(37, 15, 2), (13, 19, 0), (15, 23, 1)] rfl (by decide) (List.forall_mem_cons.mpr ⟨⟨by decide, by decide, cl_LW_37⟩, List.forall_mem_cons.mpr ⟨⟨by decide, by decide, cl_LW_13⟩, List.forall_mem_cons.mpr ⟨⟨by decide, by decide, cl_LW_15⟩, fun _ h => absurd h List.not_mem_nil⟩⟩⟩) rfl (Or.inl ⟨d_LW_region_15, rfl⟩) (by decide) rfl ?_
      refine jv_iconst 1 (pc := 17) d_LW_region_17 rfl ?_
      refine jv_iret (pc := 18) d_LW_region_18 rfl rfl (by decide) (by decide) ?_
      cases H
      exact jI.of ⟨rfl, rfl⟩
    have H := (if_neg g7_2).symm.trans H
    by_cases g7_0 : v7 = 0
    · have H := (if_pos g7_0).symm.trans H
      rw [g7_0] at c7
      refine jv_callVC (x := 0) (sp_IC_region x1 x2 x3 htr c7) (by decide) (pc := 7) d_LW_region_7 c0_IC_region lm_LW_39 in_IC_region se_IC_region (by decide) rfl rfl rfl (Nat.le_of_ble_eq_true rfl) ⟨by decide, by decide, by decide, by decide⟩ [(37, 15, 2), (13, 19, 0), (15, 23, 1)] rfl (by decide) (List.forall_mem_cons.mpr ⟨⟨by decide, by decide, cl_LW_37⟩, List.forall_mem_cons.mpr ⟨⟨by decide, by decide, cl_LW_13⟩, List.forall_mem_cons.mpr ⟨⟨by decide, by decide, cl_LW_15⟩, fun _ h => absurd h List.not_mem_nil⟩⟩⟩) rfl (Or.inl ⟨d_LW_region_19, rfl⟩) (by decide) rfl ?_
      refine jv_iconst 2 (pc := 21) d_LW_region_21 rfl ?_
      refine jv_iret (pc := 22) d_LW_region_22 rfl rfl (by decide) (by decide) ?_
      cases H
      exact jI.of ⟨rfl, rfl⟩
    have H := (if_neg g7_0).symm.trans H
    by_cases g7_1 : v7 = 1
    · have H := (if_pos g7_1).symm.trans H
      rw [g7_1] at c7
      refine jv_callVC (x := 1) (sp_IC_region x1 x2 x3 htr c7) (by decide) (pc := 7) d_LW_region_7 c0_IC_region lm_LW_39 in_IC_region se_IC_region (by decide) rfl rfl rfl (Nat.le_of_ble_eq_true rfl) ⟨by decide, by decide, by decide, by decide⟩ [(37, 15, 2), (13, 19, 0), (15, 23, 1)] rfl (by decide) (List.forall_mem_cons.mpr ⟨⟨by decide, by decide, cl_LW_37⟩, List.forall_mem_cons.mpr ⟨⟨by decide, by decide, cl_LW_13⟩, List.forall_mem_cons.mpr ⟨⟨by decide, by decide, cl_LW_15⟩, fun _ h => absurd h List.not_mem_nil⟩⟩⟩) rfl (Or.inl ⟨d_LW_region_23, rfl⟩) (by decide) rfl ?_
      refine jv_iconst 3 (pc := 25) d_LW_region_25 rfl ?_
      refine jv_iret (pc := 26) d_LW_region_26 rfl rfl (by decide) (by decide) ?_
      cases H
      exact jI.of ⟨rfl, rfl⟩
    have H := (if_neg g7_1).symm.trans H
    cases H
set_option maxRecDepth 40000 in
set_option maxHeartbeats 8000000 in
theorem sp_LW_refine {G : jG} {σ τ : jMem} {r : Int32} (x1 x2 x3 x4 : Int32) (htr : G.l.stackTraces = false) (H : f_LW_refine x1 x2 x3 x4 σ = some (r, τ)) : jSp G M_LW_refine (jr 8 4 24) [.ref 0, .int x1, .int x2, .int x3, .int x4, .ref 47] σ (jI fun r9 τ9 => r9 = r ∧ τ9 = τ) := by
  refine jSp.of rfl rfl (Nat.le_of_ble_eq_true rfl) ?_
  show jV _ _ _ _ 0 0 0 [(0, .ref 0), (1, .int x1), (2, .int x2), (3, .int x3), (4, .int x4), (5, .ref 47)] [] σ
  unfold f_LW_refine at H
  refine jv_aload 5 (pc := 0) d_LW_refine_0 rfl ?_
  refine jv_iconst 0 (pc := 2) d_LW_refine_2 rfl ?_
  refine jv_aload_n 0 (pc := 3) d_LW_refine_3 rfl ?_
  refine jv_iload_n 1 (pc := 4) d_LW_refine_4 rfl ?_
  refine jv_iload_n 2 (pc := 5) d_LW_refine_5 rfl ?_
  refine jv_iload_n 3 (pc := 6) d_LW_refine_6 rfl ?_
  refine jv_iload 4 (pc := 7) d_LW_refine_7 rfl ?_
  rcases jbh_some H with ⟨v9, n9, c9, H⟩ | ⟨v9, n9, c9, H⟩
  · refine jv_callVi (jSp.ti (sp_IC_refine x1 x2 x3 x4 htr c9)) (pc := 9) d_LW_refine_9 c0_IC_refine lk_LW_43 in_IC_refine se_IC_refine (by decide) rfl rfl rfl (Nat.le_of_ble_eq_true rfl) ⟨by decide, by decide, by decide, by decide⟩ (fun r9 m9 h9 => ?_)
    obtain ⟨ha9, hb9⟩ := h9
    have ha9 := ha9.symm
    subst ha9
    have hb9 := hb9.symm
    subst hb9
    refine jv_i2l (pc := 12) d_LW_refine_12 ?_
    refine jv_last v9 rfl (pc := 13) d_LW_refine_13 (by decide) rfl jin01 ?_
    refine jv_goto 29 (pc := 14) d_LW_refine_14 rfl ?_
    refine jv_iconst 0 (pc := 29) d_LW_refine_29 rfl ?_
    refine jv_iret (pc := 30) d_LW_refine_30 rfl rfl (by decide) (by decide) ?_
    cases H
    exact jI.of ⟨rfl, rfl⟩
  · skip
    by_cases g9_2 : v9 = 2
    · have H := (if_pos g9_2).symm.trans H
      rw [g9_2] at c9
      refine jv_callVC (x := 2) (sp_IC_refine x1 x2 x3 x4 htr c9) (by decide) (pc := 9) d_LW_refine_9 c0_IC_refine lm_LW_43 in_IC_refine se_IC_refine (by decide) rfl rfl rfl (Nat.le_of_ble_eq_true rfl) ⟨by decide, by decide, by decide, by decide⟩ [(37, 17, 2), (13, 21, 0), (15, 25, 1)] rfl (by decide) (List.forall_mem_cons.mpr ⟨⟨by decide, by decide, cl_LW_37⟩, List.forall_mem_cons.mpr ⟨⟨by decide, by decide, cl_LW_13⟩, List.forall_mem_cons.mpr ⟨⟨by decide, by decide, cl_LW_15⟩, fun _ h => absurd h List.not_mem_nil⟩⟩⟩) rfl (Or.inl ⟨d_LW_refine_17, rfl⟩) (by decide) rfl ?_
      refine jv_iconst 1 (pc := 19) d_LW_refine_19 rfl ?_
      refine jv_iret (pc := 20) d_LW_refine_20 rfl rfl (by decide) (by decide) ?_
      cases H
      exact jI.of ⟨rfl, rfl⟩
    have H := (if_neg g9_2).symm.trans H
    by_cases g9_0 : v9 = 0
    · have H := (if_pos g9_0).symm.trans H
      rw [g9_0] at c9
      refine jv_callVC (x := 0) (sp_IC_refine x1 x2 x3 x4 htr c9) (by decide) (pc := 9) d_LW_refine_9 c0_IC_refine lm_LW_43 in_IC_refine se_IC_refine (by decide) rfl rfl rfl (Nat.le_of_ble_eq_true rfl) ⟨by decide, by decide, by decide, by decide⟩ [(37, 17, 2), (13, 21, 0), (15, 25, 1)] rfl (by decide) (List.forall_mem_cons.mpr ⟨⟨by decide, by decide, cl_LW_37⟩, List.forall_mem_cons.mpr ⟨⟨by decide, by decide, cl_LW_13⟩, List.forall_mem_cons.mpr ⟨⟨by decide, by decide, cl_LW_15⟩, fun _ h => absurd h List.not_mem_nil⟩⟩⟩) rfl (Or.inl ⟨d_LW_refine_21, rfl⟩) (by decide) rfl ?_
      refine jv_iconst 2 (pc := 23) d_LW_refine_23 rfl ?_
      refine jv_iret (pc := 24) d_LW_refine_24 rfl rfl (by decide) (by decide) ?_
      cases H
      exact jI.of ⟨rfl, rfl⟩
    have H := (if_neg g9_0).symm.trans H
    by_cases g9_1 : v9 = 1
    · have H := (if_pos g9_1).symm.trans H
      rw [g9_1] at c9
      refine jv_callVC (x := 1) (sp_IC_refine x1 x2 x3 x4 htr c9) (by decide) (pc := 9) d_LW_refine_9 c0_IC_refine lm_LW_43 in_IC_refine se_IC_refine (by decide) rfl rfl rfl (Nat.le_of_ble_eq_true rfl) ⟨by decide, by decide, by decide, by decide⟩ [(37, 17, 2), (13, 21, 0), (15, 25, 1)] rfl (by decide) (List.forall_mem_cons.mpr ⟨⟨by decide, by decide, cl_LW_37⟩, List.forall_mem_cons.mpr ⟨⟨by decide, by decide, cl_LW_13⟩, List.forall_mem_cons.mpr ⟨⟨by decide, by decide, cl_LW_15⟩, fun _ h => absurd h List.not_mem_nil⟩⟩⟩) rfl (Or.inl ⟨d_LW_refine_25, rfl⟩) (by decide) rfl ?_
      refine jv_iconst 3 (pc := 27) d_LW_refine_27 rfl ?_
      refine jv_iret (pc := 28) d_LW_refine_28 rfl rfl (by decide) (by decide) ?_
      cases H
      exact jI.of ⟨rfl, rfl⟩
    have H := (if_neg g9_1).symm.trans H
    cases H
set_option maxRecDepth 40000 in
set_option maxHeartbeats 8000000 in
theorem sp_LW_number {G : jG} {σ τ : jMem} {r : Int32} (x1 x2 : Int32) (htr : G.l.stackTraces = false) (H : f_LW_number x1 x2 σ = some (r, τ)) : jSp G M_LW_number (jr 8 2 12) [.ref 0, .int x1, .int x2, .ref 47] σ (jI fun r9 τ9 => r9 = r ∧ τ9 = τ) := by
  refine jSp.of rfl rfl (Nat.le_of_ble_eq_true rfl) ?_
  show jV _ _ _ _ 0 0 0 [(0, .ref 0), (1, .int x1), (2, .int x2), (3, .ref 47)] [] σ
  unfold f_LW_number at H
  refine jv_aload_n 3 (pc := 0) d_LW_number_0 rfl ?_
  refine jv_iconst 0 (pc := 1) d_LW_number_1 rfl ?_
  refine jv_aload_n 0 (pc := 2) d_LW_number_2 rfl ?_
  refine jv_iload_n 1 (pc := 3) d_LW_number_3 rfl ?_
  refine jv_iload_n 2 (pc := 4) d_LW_number_4 rfl ?_
  rcases jbh_some H with ⟨v5, n5, c5, H⟩ | ⟨v5, n5, c5, H⟩
  · refine jv_callVi (jSp.ti (sp_IC_number x1 x2 htr c5)) (pc := 5) d_LW_number_5 c0_IC_number lk_LW_47 in_IC_number se_IC_number (by decide) rfl rfl rfl (Nat.le_of_ble_eq_true rfl) ⟨by decide, by decide, by decide, by decide⟩ (fun r5 m5 h5 => ?_)
    obtain ⟨ha5, hb5⟩ := h5
    have ha5 := ha5.symm
    subst ha5
    have hb5 := hb5.symm
    subst hb5
    refine jv_i2l (pc := 8) d_LW_number_8 ?_
    refine jv_last v5 rfl (pc := 9) d_LW_number_9 (by decide) rfl jin01 ?_
    refine jv_goto 25 (pc := 10) d_LW_number_10 rfl ?_
    refine jv_iconst 0 (pc := 25) d_LW_number_25 rfl ?_
    refine jv_iret (pc := 26) d_LW_number_26 rfl rfl (by decide) (by decide) ?_
    cases H
    exact jI.of ⟨rfl, rfl⟩
  · skip
    by_cases g5_2 : v5 = 2
    · have H := (if_pos g5_2).symm.trans H
      rw [g5_2] at c5
      refine jv_callVC (x := 2) (sp_IC_number x1 x2 htr c5) (by decide) (pc := 5) d_LW_number_5 c0_IC_number lm_LW_47 in_IC_number se_IC_number (by decide) rfl rfl rfl (Nat.le_of_ble_eq_true rfl) ⟨by decide, by decide, by decide, by decide⟩ [(37, 13, 2), (13, 17, 0), (15, 21, 1)] rfl (by decide) (List.forall_mem_cons.mpr ⟨⟨by decide, by decide, cl_LW_37⟩, List.forall_mem_cons.mpr ⟨⟨by decide, by decide, cl_LW_13⟩, List.forall_mem_cons.mpr ⟨⟨by decide, by decide, cl_LW_15⟩, fun _ h => absurd h List.not_mem_nil⟩⟩⟩) rfl (Or.inl ⟨d_LW_number_13, rfl⟩) (by decide) rfl ?_
      refine jv_iconst 1 (pc := 15) d_LW_number_15 rfl ?_
      refine jv_iret (pc := 16) d_LW_number_16 rfl rfl (by decide) (by decide) ?_
      cases H
      exact jI.of ⟨rfl, rfl⟩
    have H := (if_neg g5_2).symm.trans H
    by_cases g5_0 : v5 = 0
    · have H := (if_pos g5_0).symm.trans H
      rw [g5_0] at c5
      refine jv_callVC (x := 0) (sp_IC_number x1 x2 htr c5) (by decide) (pc := 5) d_LW_number_5 c0_IC_number lm_LW_47 in_IC_number se_IC_number (by decide) rfl rfl rfl (Nat.le_of_ble_eq_true rfl) ⟨by decide, by decide, by decide, by decide⟩ [(37, 13, 2), (13, 17, 0), (15, 21, 1)] rfl (by decide) (List.forall_mem_cons.mpr ⟨⟨by decide, by decide, cl_LW_37⟩, List.forall_mem_cons.mpr ⟨⟨by decide, by decide, cl_LW_13⟩, List.forall_mem_cons.mpr ⟨⟨by decide, by decide, cl_LW_15⟩, fun _ h => absurd h List.not_mem_nil⟩⟩⟩) rfl (Or.inl ⟨d_LW_number_17, rfl⟩) (by decide) rfl ?_
      refine jv_iconst 2 (pc := 19) d_LW_number_19 rfl ?_
      refine jv_iret (pc := 20) d_LW_number_20 rfl rfl (by decide) (by decide) ?_
      cases H
      exact jI.of ⟨rfl, rfl⟩
    have H := (if_neg g5_0).symm.trans H
    by_cases g5_1 : v5 = 1
    · have H := (if_pos g5_1).symm.trans H
      rw [g5_1] at c5
      refine jv_callVC (x := 1) (sp_IC_number x1 x2 htr c5) (by decide) (pc := 5) d_LW_number_5 c0_IC_number lm_LW_47 in_IC_number se_IC_number (by decide) rfl rfl rfl (Nat.le_of_ble_eq_true rfl) ⟨by decide, by decide, by decide, by decide⟩ [(37, 13, 2), (13, 17, 0), (15, 21, 1)] rfl (by decide) (List.forall_mem_cons.mpr ⟨⟨by decide, by decide, cl_LW_37⟩, List.forall_mem_cons.mpr ⟨⟨by decide, by decide, cl_LW_13⟩, List.forall_mem_cons.mpr ⟨⟨by decide, by decide, cl_LW_15⟩, fun _ h => absurd h List.not_mem_nil⟩⟩⟩) rfl (Or.inl ⟨d_LW_number_21, rfl⟩) (by decide) rfl ?_
      refine jv_iconst 3 (pc := 23) d_LW_number_23 rfl ?_
      refine jv_iret (pc := 24) d_LW_number_24 rfl rfl (by decide) (by decide) ?_
      cases H
      exact jI.of ⟨rfl, rfl⟩
    have H := (if_neg g5_1).symm.trans H
    cases H
set_option maxRecDepth 40000 in
set_option maxHeartbeats 8000000 in
theorem sp_LW_learn {G : jG} {σ τ : jMem} {r : Int32} (x1 : Int32) (htr : G.l.stackTraces = false) (H : f_LW_learn x1 σ = some (r, τ)) : jSp G M_LW_learn (jr 8 2 12) [.ref 0, .int x1, .ref 47] σ (jI fun r9 τ9 => r9 = r ∧ τ9 = τ) := by
  refine jSp.of rfl rfl (Nat.le_of_ble_eq_true rfl) ?_
  show jV _ _ _ _ 0 0 0 [(0, .ref 0), (1, .int x1), (2, .ref 47)] [] σ
  unfold f_LW_learn at H
  refine jv_aload_n 2 (pc := 0) d_LW_learn_0 rfl ?_
  refine jv_iconst 0 (pc := 1) d_LW_learn_1 rfl ?_
  refine jv_aload_n 0 (pc := 2) d_LW_learn_2 rfl ?_
  refine jv_iload_n 1 (pc := 3) d_LW_learn_3 rfl ?_
  rcases jbh_some H with ⟨v4, n4, c4, H⟩ | ⟨v4, n4, c4, H⟩
  · refine jv_callVi (jSp.ti (sp_IC_learn x1 htr c4)) (pc := 4) d_LW_learn_4 c0_IC_learn lk_LW_50 in_IC_learn se_IC_learn (by decide) rfl rfl rfl (Nat.le_of_ble_eq_true rfl) ⟨by decide, by decide, by decide, by decide⟩ (fun r4 m4 h4 => ?_)
    obtain ⟨ha4, hb4⟩ := h4
    have ha4 := ha4.symm
    subst ha4
    have hb4 := hb4.symm
    subst hb4
    refine jv_i2l (pc := 7) d_LW_learn_7 ?_
    refine jv_last v4 rfl (pc := 8) d_LW_learn_8 (by decide) rfl jin01 ?_
    refine jv_goto 18 (pc := 9) d_LW_learn_9 rfl ?_
    refine jv_iconst 0 (pc := 18) d_LW_learn_18 rfl ?_
    refine jv_iret (pc := 19) d_LW_learn_19 rfl rfl (by decide) (by decide) ?_
    cases H
    exact jI.of ⟨rfl, rfl⟩
  · skip
    by_cases g4_0 : v4 = 0
    · have H := (if_pos g4_0).symm.trans H
      rw [g4_0] at c4
      refine jv_callVC (x := 0) (sp_IC_learn x1 htr c4) (by decide) (pc := 4) d_LW_learn_4 c0_IC_learn lm_LW_50 in_IC_learn se_IC_learn (by decide) rfl rfl rfl (Nat.le_of_ble_eq_true rfl) ⟨by decide, by decide, by decide, by decide⟩ [(13, 12, 0), (53, 15, 3)] rfl (by decide) (List.forall_mem_cons.mpr ⟨⟨by decide, by decide, cl_LW_13⟩, List.forall_mem_cons.mpr ⟨⟨by decide, by decide, cl_LW_53⟩, fun _ h => absurd h List.not_mem_nil⟩⟩) rfl (Or.inr ⟨3, d_LW_learn_12, rfl, rfl⟩) (by decide) rfl ?_
      refine jv_iconst 1 (pc := 13) d_LW_learn_13 rfl ?_
      refine jv_iret (pc := 14) d_LW_learn_14 rfl rfl (by decide) (by decide) ?_
      cases H
      exact jI.of ⟨rfl, rfl⟩
    have H := (if_neg g4_0).symm.trans H
    by_cases g4_3 : v4 = 3
    · have H := (if_pos g4_3).symm.trans H
      rw [g4_3] at c4
      refine jv_callVC (x := 3) (sp_IC_learn x1 htr c4) (by decide) (pc := 4) d_LW_learn_4 c0_IC_learn lm_LW_50 in_IC_learn se_IC_learn (by decide) rfl rfl rfl (Nat.le_of_ble_eq_true rfl) ⟨by decide, by decide, by decide, by decide⟩ [(13, 12, 0), (53, 15, 3)] rfl (by decide) (List.forall_mem_cons.mpr ⟨⟨by decide, by decide, cl_LW_13⟩, List.forall_mem_cons.mpr ⟨⟨by decide, by decide, cl_LW_53⟩, fun _ h => absurd h List.not_mem_nil⟩⟩) rfl (Or.inr ⟨3, d_LW_learn_15, rfl, rfl⟩) (by decide) rfl ?_
      refine jv_iconst 2 (pc := 16) d_LW_learn_16 rfl ?_
      refine jv_iret (pc := 17) d_LW_learn_17 rfl rfl (by decide) (by decide) ?_
      cases H
      exact jI.of ⟨rfl, rfl⟩
    have H := (if_neg g4_3).symm.trans H
    cases H
set_option maxRecDepth 40000 in
set_option maxHeartbeats 8000000 in
theorem sp_LW_mark {G : jG} {σ τ : jMem} {r : Int32} (x1 x2 x3 : Int32) (htr : G.l.stackTraces = false) (H : f_LW_mark x1 x2 x3 σ = some (r, τ)) : jSp G M_LW_mark (jr 8 2 12) [.ref 0, .int x1, .int x2, .int x3, .ref 47] σ (jI fun r9 τ9 => r9 = r ∧ τ9 = τ) := by
  refine jSp.of rfl rfl (Nat.le_of_ble_eq_true rfl) ?_
  show jV _ _ _ _ 0 0 0 [(0, .ref 0), (1, .int x1), (2, .int x2), (3, .int x3), (4, .ref 47)] [] σ
  unfold f_LW_mark at H
  refine jv_aload 4 (pc := 0) d_LW_mark_0 rfl ?_
  refine jv_iconst 0 (pc := 2) d_LW_mark_2 rfl ?_
  refine jv_aload_n 0 (pc := 3) d_LW_mark_3 rfl ?_
  refine jv_iload_n 1 (pc := 4) d_LW_mark_4 rfl ?_
  refine jv_iload_n 2 (pc := 5) d_LW_mark_5 rfl ?_
  refine jv_iload_n 3 (pc := 6) d_LW_mark_6 rfl ?_
  rcases jbh_some H with ⟨v7, n7, c7, H⟩ | ⟨v7, n7, c7, H⟩
  · refine jv_callVi (jSp.ti (sp_IC_mark x1 x2 x3 htr c7)) (pc := 7) d_LW_mark_7 c0_IC_mark lk_LW_55 in_IC_mark se_IC_mark (by decide) rfl rfl rfl (Nat.le_of_ble_eq_true rfl) ⟨by decide, by decide, by decide, by decide⟩ (fun r7 m7 h7 => ?_)
    obtain ⟨ha7, hb7⟩ := h7
    have ha7 := ha7.symm
    subst ha7
    have hb7 := hb7.symm
    subst hb7
    refine jv_i2l (pc := 10) d_LW_mark_10 ?_
    refine jv_last v7 rfl (pc := 11) d_LW_mark_11 (by decide) rfl jin01 ?_
    refine jv_goto 27 (pc := 12) d_LW_mark_12 rfl ?_
    refine jv_iconst 0 (pc := 27) d_LW_mark_27 rfl ?_
    refine jv_iret (pc := 28) d_LW_mark_28 rfl rfl (by decide) (by decide) ?_
    cases H
    exact jI.of ⟨rfl, rfl⟩
  · skip
    by_cases g7_0 : v7 = 0
    · have H := (if_pos g7_0).symm.trans H
      rw [g7_0] at c7
      refine jv_callVC (x := 0) (sp_IC_mark x1 x2 x3 htr c7) (by decide) (pc := 7) d_LW_mark_7 c0_IC_mark lm_LW_55 in_IC_mark se_IC_mark (by decide) rfl rfl rfl (Nat.le_of_ble_eq_true rfl) ⟨by decide, by decide, by decide, by decide⟩ [(13, 15, 0), (15, 19, 1), (53, 23, 3)] rfl (by decide) (List.forall_mem_cons.mpr ⟨⟨by decide, by decide, cl_LW_13⟩, List.forall_mem_cons.mpr ⟨⟨by decide, by decide, cl_LW_15⟩, List.forall_mem_cons.mpr ⟨⟨by decide, by decide, cl_LW_53⟩, fun _ h => absurd h List.not_mem_nil⟩⟩⟩) rfl (Or.inl ⟨d_LW_mark_15, rfl⟩) (by decide) rfl ?_
      refine jv_iconst 1 (pc := 17) d_LW_mark_17 rfl ?_
      refine jv_iret (pc := 18) d_LW_mark_18 rfl rfl (by decide) (by decide) ?_
      cases H
      exact jI.of ⟨rfl, rfl⟩
    have H := (if_neg g7_0).symm.trans H
    by_cases g7_1 : v7 = 1
    · have H := (if_pos g7_1).symm.trans H
      rw [g7_1] at c7
      refine jv_callVC (x := 1) (sp_IC_mark x1 x2 x3 htr c7) (by decide) (pc := 7) d_LW_mark_7 c0_IC_mark lm_LW_55 in_IC_mark se_IC_mark (by decide) rfl rfl rfl (Nat.le_of_ble_eq_true rfl) ⟨by decide, by decide, by decide, by decide⟩ [(13, 15, 0), (15, 19, 1), (53, 23, 3)] rfl (by decide) (List.forall_mem_cons.mpr ⟨⟨by decide, by decide, cl_LW_13⟩, List.forall_mem_cons.mpr ⟨⟨by decide, by decide, cl_LW_15⟩, List.forall_mem_cons.mpr ⟨⟨by decide, by decide, cl_LW_53⟩, fun _ h => absurd h List.not_mem_nil⟩⟩⟩) rfl (Or.inl ⟨d_LW_mark_19, rfl⟩) (by decide) rfl ?_
      refine jv_iconst 2 (pc := 21) d_LW_mark_21 rfl ?_
      refine jv_iret (pc := 22) d_LW_mark_22 rfl rfl (by decide) (by decide) ?_
      cases H
      exact jI.of ⟨rfl, rfl⟩
    have H := (if_neg g7_1).symm.trans H
    by_cases g7_3 : v7 = 3
    · have H := (if_pos g7_3).symm.trans H
      rw [g7_3] at c7
      refine jv_callVC (x := 3) (sp_IC_mark x1 x2 x3 htr c7) (by decide) (pc := 7) d_LW_mark_7 c0_IC_mark lm_LW_55 in_IC_mark se_IC_mark (by decide) rfl rfl rfl (Nat.le_of_ble_eq_true rfl) ⟨by decide, by decide, by decide, by decide⟩ [(13, 15, 0), (15, 19, 1), (53, 23, 3)] rfl (by decide) (List.forall_mem_cons.mpr ⟨⟨by decide, by decide, cl_LW_13⟩, List.forall_mem_cons.mpr ⟨⟨by decide, by decide, cl_LW_15⟩, List.forall_mem_cons.mpr ⟨⟨by decide, by decide, cl_LW_53⟩, fun _ h => absurd h List.not_mem_nil⟩⟩⟩) rfl (Or.inl ⟨d_LW_mark_23, rfl⟩) (by decide) rfl ?_
      refine jv_iconst 3 (pc := 25) d_LW_mark_25 rfl ?_
      refine jv_iret (pc := 26) d_LW_mark_26 rfl rfl (by decide) (by decide) ?_
      cases H
      exact jI.of ⟨rfl, rfl⟩
    have H := (if_neg g7_3).symm.trans H
    cases H
set_option maxRecDepth 40000 in
set_option maxHeartbeats 8000000 in
theorem sp_LW_symbol {G : jG} {σ τ : jMem} {r : Int32} (x1 x2 x3 : Int32) (htr : G.l.stackTraces = false) (H : f_LW_symbol x1 x2 x3 σ = some (r, τ)) : jSp G M_LW_symbol (jr 8 2 12) [.ref 0, .int x1, .int x2, .int x3, .ref 47] σ (jI fun r9 τ9 => r9 = r ∧ τ9 = τ) := by
  refine jSp.of rfl rfl (Nat.le_of_ble_eq_true rfl) ?_
  show jV _ _ _ _ 0 0 0 [(0, .ref 0), (1, .int x1), (2, .int x2), (3, .int x3), (4, .ref 47)] [] σ
  unfold f_LW_symbol at H
  refine jv_aload 4 (pc := 0) d_LW_symbol_0 rfl ?_
  refine jv_iconst 0 (pc := 2) d_LW_symbol_2 rfl ?_
  refine jv_aload_n 0 (pc := 3) d_LW_symbol_3 rfl ?_
  refine jv_iload_n 1 (pc := 4) d_LW_symbol_4 rfl ?_
  refine jv_iload_n 2 (pc := 5) d_LW_symbol_5 rfl ?_
  refine jv_iload_n 3 (pc := 6) d_LW_symbol_6 rfl ?_
  rcases jbh_some H with ⟨v7, n7, c7, H⟩ | ⟨v7, n7, c7, H⟩
  · refine jv_callVi (jSp.ti (sp_IC_symbol x1 x2 x3 htr c7)) (pc := 7) d_LW_symbol_7 c0_IC_symbol lk_LW_59 in_IC_symbol se_IC_symbol (by decide) rfl rfl rfl (Nat.le_of_ble_eq_true rfl) ⟨by decide, by decide, by decide, by decide⟩ (fun r7 m7 h7 => ?_)
    obtain ⟨ha7, hb7⟩ := h7
    have ha7 := ha7.symm
    subst ha7
    have hb7 := hb7.symm
    subst hb7
    refine jv_i2l (pc := 10) d_LW_symbol_10 ?_
    refine jv_last v7 rfl (pc := 11) d_LW_symbol_11 (by decide) rfl jin01 ?_
    refine jv_goto 19 (pc := 12) d_LW_symbol_12 rfl ?_
    refine jv_iconst 0 (pc := 19) d_LW_symbol_19 rfl ?_
    refine jv_iret (pc := 20) d_LW_symbol_20 rfl rfl (by decide) (by decide) ?_
    cases H
    exact jI.of ⟨rfl, rfl⟩
  · skip
    by_cases g7_0 : v7 = 0
    · have H := (if_pos g7_0).symm.trans H
      rw [g7_0] at c7
      refine jv_callVC (x := 0) (sp_IC_symbol x1 x2 x3 htr c7) (by decide) (pc := 7) d_LW_symbol_7 c0_IC_symbol lm_LW_59 in_IC_symbol se_IC_symbol (by decide) rfl rfl rfl (Nat.le_of_ble_eq_true rfl) ⟨by decide, by decide, by decide, by decide⟩ [(13, 15, 0)] rfl (by decide) (List.forall_mem_cons.mpr ⟨⟨by decide, by decide, cl_LW_13⟩, fun _ h => absurd h List.not_mem_nil⟩) rfl (Or.inl ⟨d_LW_symbol_15, rfl⟩) (by decide) rfl ?_
      refine jv_iconst 1 (pc := 17) d_LW_symbol_17 rfl ?_
      refine jv_iret (pc := 18) d_LW_symbol_18 rfl rfl (by decide) (by decide) ?_
      cases H
      exact jI.of ⟨rfl, rfl⟩
    have H := (if_neg g7_0).symm.trans H
    cases H
set_option maxRecDepth 40000 in
set_option maxHeartbeats 8000000 in
theorem sp_LW_marked {G : jG} {σ τ : jMem} {r : Int32} (x1 x2 : Int32) (htr : G.l.stackTraces = false) (H : f_LW_marked x1 x2 σ = some (r, τ)) : jSp G M_LW_marked (jr 7 1 6) [.ref 0, .int x1, .int x2, .ref 47] σ (jI fun r9 τ9 => r9 = r ∧ τ9 = τ) := by
  refine jSp.of rfl rfl (Nat.le_of_ble_eq_true rfl) ?_
  show jV _ _ _ _ 0 0 0 [(0, .ref 0), (1, .int x1), (2, .int x2), (3, .ref 47)] [] σ
  unfold f_LW_marked at H
  refine jv_aload_n 3 (pc := 0) d_LW_marked_0 rfl ?_
  refine jv_iconst 0 (pc := 1) d_LW_marked_1 rfl ?_
  refine jv_aload_n 0 (pc := 2) d_LW_marked_2 rfl ?_
  refine jv_iload_n 1 (pc := 3) d_LW_marked_3 rfl ?_
  refine jv_iload_n 2 (pc := 4) d_LW_marked_4 rfl ?_
  rcases jbh_some H with ⟨v5, n5, c5, H⟩ | ⟨v5, n5, c5, H⟩
  · refine jv_callVi (jSp.ti (sp_IC_marked x1 x2 htr c5)) (pc := 5) d_LW_marked_5 c0_IC_marked lk_LW_62 in_IC_marked se_IC_marked (by decide) rfl rfl rfl (Nat.le_of_ble_eq_true rfl) ⟨by decide, by decide, by decide, by decide⟩ (fun r5 m5 h5 => ?_)
    obtain ⟨ha5, hb5⟩ := h5
    have ha5 := ha5.symm
    subst ha5
    have hb5 := hb5.symm
    subst hb5
    refine jv_i2l (pc := 8) d_LW_marked_8 ?_
    refine jv_last v5 rfl (pc := 9) d_LW_marked_9 (by decide) rfl jin01 ?_
    refine jv_goto 17 (pc := 10) d_LW_marked_10 rfl ?_
    refine jv_iconst 0 (pc := 17) d_LW_marked_17 rfl ?_
    refine jv_iret (pc := 18) d_LW_marked_18 rfl rfl (by decide) (by decide) ?_
    cases H
    exact jI.of ⟨rfl, rfl⟩
  · skip
    by_cases g5_0 : v5 = 0
    · have H := (if_pos g5_0).symm.trans H
      rw [g5_0] at c5
      refine jv_callVC (x := 0) (sp_IC_marked x1 x2 htr c5) (by decide) (pc := 5) d_LW_marked_5 c0_IC_marked lm_LW_62 in_IC_marked se_IC_marked (by decide) rfl rfl rfl (Nat.le_of_ble_eq_true rfl) ⟨by decide, by decide, by decide, by decide⟩ [(13, 13, 0)] rfl (by decide) (List.forall_mem_cons.mpr ⟨⟨by decide, by decide, cl_LW_13⟩, fun _ h => absurd h List.not_mem_nil⟩) rfl (Or.inl ⟨d_LW_marked_13, rfl⟩) (by decide) rfl ?_
      refine jv_iconst 1 (pc := 15) d_LW_marked_15 rfl ?_
      refine jv_iret (pc := 16) d_LW_marked_16 rfl rfl (by decide) (by decide) ?_
      cases H
      exact jI.of ⟨rfl, rfl⟩
    have H := (if_neg g5_0).symm.trans H
    cases H
set_option maxRecDepth 40000 in
set_option maxHeartbeats 8000000 in
theorem sp_LW_dictionary {G : jG} {σ τ : jMem} {r : Int32} (htr : G.l.stackTraces = false) (H : f_LW_dictionary σ = some (r, τ)) : jSp G M_LW_dictionary (jr 8 1 6) [.ref 0, .ref 47] σ (jI fun r9 τ9 => r9 = r ∧ τ9 = τ) := by
  refine jSp.of rfl rfl (Nat.le_of_ble_eq_true rfl) ?_
  show jV _ _ _ _ 0 0 0 [(0, .ref 0), (1, .ref 47)] [] σ
  unfold f_LW_dictionary at H
  refine jv_aload_n 1 (pc := 0) d_LW_dictionary_0 rfl ?_
  refine jv_iconst 0 (pc := 1) d_LW_dictionary_1 rfl ?_
  refine jv_aload_n 0 (pc := 2) d_LW_dictionary_2 rfl ?_
  rcases jbh_some H with ⟨v3, n3, c3, H⟩ | ⟨v3, n3, c3, H⟩
  · refine jv_callVi (jSp.ti (sp_IC_dictionary htr c3)) (pc := 3) d_LW_dictionary_3 c0_IC_dictionary lk_LW_65 in_IC_dictionary se_IC_dictionary (by decide) rfl rfl rfl (Nat.le_of_ble_eq_true rfl) ⟨by decide, by decide, by decide, by decide⟩ (fun r3 m3 h3 => ?_)
    obtain ⟨ha3, hb3⟩ := h3
    have ha3 := ha3.symm
    subst ha3
    have hb3 := hb3.symm
    subst hb3
    refine jv_i2l (pc := 6) d_LW_dictionary_6 ?_
    refine jv_last v3 rfl (pc := 7) d_LW_dictionary_7 (by decide) rfl jin01 ?_
    refine jv_goto 14 (pc := 8) d_LW_dictionary_8 rfl ?_
    refine jv_iconst 0 (pc := 14) d_LW_dictionary_14 rfl ?_
    refine jv_iret (pc := 15) d_LW_dictionary_15 rfl rfl (by decide) (by decide) ?_
    cases H
    exact jI.of ⟨rfl, rfl⟩
  · skip
    by_cases g3_2 : v3 = 2
    · have H := (if_pos g3_2).symm.trans H
      rw [g3_2] at c3
      refine jv_callVC (x := 2) (sp_IC_dictionary htr c3) (by decide) (pc := 3) d_LW_dictionary_3 c0_IC_dictionary lm_LW_65 in_IC_dictionary se_IC_dictionary (by decide) rfl rfl rfl (Nat.le_of_ble_eq_true rfl) ⟨by decide, by decide, by decide, by decide⟩ [(37, 11, 2)] rfl (by decide) (List.forall_mem_cons.mpr ⟨⟨by decide, by decide, cl_LW_37⟩, fun _ h => absurd h List.not_mem_nil⟩) rfl (Or.inr ⟨2, d_LW_dictionary_11, rfl, rfl⟩) (by decide) rfl ?_
      refine jv_iconst 1 (pc := 12) d_LW_dictionary_12 rfl ?_
      refine jv_iret (pc := 13) d_LW_dictionary_13 rfl rfl (by decide) (by decide) ?_
      cases H
      exact jI.of ⟨rfl, rfl⟩
    have H := (if_neg g3_2).symm.trans H
    cases H
set_option maxRecDepth 40000 in
set_option maxHeartbeats 8000000 in
theorem sp_LW_text {G : jG} {σ τ : jMem} {r : Int32} (x1 x2 x3 x4 : Int32) (htr : G.l.stackTraces = false) (H : f_LW_text x1 x2 x3 x4 σ = some (r, τ)) : jSp G M_LW_text (jr 8 3 18) [.ref 0, .int x1, .int x2, .int x3, .int x4, .ref 47] σ (jI fun r9 τ9 => r9 = r ∧ τ9 = τ) := by
  refine jSp.of rfl rfl (Nat.le_of_ble_eq_true rfl) ?_
  show jV _ _ _ _ 0 0 0 [(0, .ref 0), (1, .int x1), (2, .int x2), (3, .int x3), (4, .int x4), (5, .ref 47)] [] σ
  unfold f_LW_text at H
  refine jv_aload 5 (pc := 0) d_LW_text_0 rfl ?_
  refine jv_iconst 0 (pc := 2) d_LW_text_2 rfl ?_
  refine jv_aload_n 0 (pc := 3) d_LW_text_3 rfl ?_
  refine jv_iload_n 1 (pc := 4) d_LW_text_4 rfl ?_
  refine jv_iload_n 2 (pc := 5) d_LW_text_5 rfl ?_
  refine jv_iload_n 3 (pc := 6) d_LW_text_6 rfl ?_
  refine jv_iload 4 (pc := 7) d_LW_text_7 rfl ?_
  rcases jbh_some H with ⟨v9, n9, c9, H⟩ | ⟨v9, n9, c9, H⟩
  · refine jv_callVi (jSp.ti (sp_IC_text x1 x2 x3 x4 htr c9)) (pc := 9) d_LW_text_9 c0_IC_text lk_LW_68 in_IC_text se_IC_text (by decide) rfl rfl rfl (Nat.le_of_ble_eq_true rfl) ⟨by decide, by decide, by decide, by decide⟩ (fun r9 m9 h9 => ?_)
    obtain ⟨ha9, hb9⟩ := h9
    have ha9 := ha9.symm
    subst ha9
    have hb9 := hb9.symm
    subst hb9
    refine jv_i2l (pc := 12) d_LW_text_12 ?_
    refine jv_last v9 rfl (pc := 13) d_LW_text_13 (by decide) rfl jin01 ?_
    refine jv_goto 29 (pc := 14) d_LW_text_14 rfl ?_
    refine jv_iconst 0 (pc := 29) d_LW_text_29 rfl ?_
    refine jv_iret (pc := 30) d_LW_text_30 rfl rfl (by decide) (by decide) ?_
    cases H
    exact jI.of ⟨rfl, rfl⟩
  · skip
    by_cases g9_2 : v9 = 2
    · have H := (if_pos g9_2).symm.trans H
      rw [g9_2] at c9
      refine jv_callVC (x := 2) (sp_IC_text x1 x2 x3 x4 htr c9) (by decide) (pc := 9) d_LW_text_9 c0_IC_text lm_LW_68 in_IC_text se_IC_text (by decide) rfl rfl rfl (Nat.le_of_ble_eq_true rfl) ⟨by decide, by decide, by decide, by decide⟩ [(37, 17, 2), (13, 21, 0), (15, 25, 1)] rfl (by decide) (List.forall_mem_cons.mpr ⟨⟨by decide, by decide, cl_LW_37⟩, List.forall_mem_cons.mpr ⟨⟨by decide, by decide, cl_LW_13⟩, List.forall_mem_cons.mpr ⟨⟨by decide, by decide, cl_LW_15⟩, fun _ h => absurd h List.not_mem_nil⟩⟩⟩) rfl (Or.inl ⟨d_LW_text_17, rfl⟩) (by decide) rfl ?_
      refine jv_iconst 1 (pc := 19) d_LW_text_19 rfl ?_
      refine jv_iret (pc := 20) d_LW_text_20 rfl rfl (by decide) (by decide) ?_
      cases H
      exact jI.of ⟨rfl, rfl⟩
    have H := (if_neg g9_2).symm.trans H
    by_cases g9_0 : v9 = 0
    · have H := (if_pos g9_0).symm.trans H
      rw [g9_0] at c9
      refine jv_callVC (x := 0) (sp_IC_text x1 x2 x3 x4 htr c9) (by decide) (pc := 9) d_LW_text_9 c0_IC_text lm_LW_68 in_IC_text se_IC_text (by decide) rfl rfl rfl (Nat.le_of_ble_eq_true rfl) ⟨by decide, by decide, by decide, by decide⟩ [(37, 17, 2), (13, 21, 0), (15, 25, 1)] rfl (by decide) (List.forall_mem_cons.mpr ⟨⟨by decide, by decide, cl_LW_37⟩, List.forall_mem_cons.mpr ⟨⟨by decide, by decide, cl_LW_13⟩, List.forall_mem_cons.mpr ⟨⟨by decide, by decide, cl_LW_15⟩, fun _ h => absurd h List.not_mem_nil⟩⟩⟩) rfl (Or.inl ⟨d_LW_text_21, rfl⟩) (by decide) rfl ?_
      refine jv_iconst 2 (pc := 23) d_LW_text_23 rfl ?_
      refine jv_iret (pc := 24) d_LW_text_24 rfl rfl (by decide) (by decide) ?_
      cases H
      exact jI.of ⟨rfl, rfl⟩
    have H := (if_neg g9_0).symm.trans H
    by_cases g9_1 : v9 = 1
    · have H := (if_pos g9_1).symm.trans H
      rw [g9_1] at c9
      refine jv_callVC (x := 1) (sp_IC_text x1 x2 x3 x4 htr c9) (by decide) (pc := 9) d_LW_text_9 c0_IC_text lm_LW_68 in_IC_text se_IC_text (by decide) rfl rfl rfl (Nat.le_of_ble_eq_true rfl) ⟨by decide, by decide, by decide, by decide⟩ [(37, 17, 2), (13, 21, 0), (15, 25, 1)] rfl (by decide) (List.forall_mem_cons.mpr ⟨⟨by decide, by decide, cl_LW_37⟩, List.forall_mem_cons.mpr ⟨⟨by decide, by decide, cl_LW_13⟩, List.forall_mem_cons.mpr ⟨⟨by decide, by decide, cl_LW_15⟩, fun _ h => absurd h List.not_mem_nil⟩⟩⟩) rfl (Or.inl ⟨d_LW_text_25, rfl⟩) (by decide) rfl ?_
      refine jv_iconst 3 (pc := 27) d_LW_text_27 rfl ?_
      refine jv_iret (pc := 28) d_LW_text_28 rfl rfl (by decide) (by decide) ?_
      cases H
      exact jI.of ⟨rfl, rfl⟩
    have H := (if_neg g9_1).symm.trans H
    cases H
