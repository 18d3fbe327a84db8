/-! the class: methods that may throw: functions and contracts, by program -/
set_option maxRecDepth 40000 in
set_option maxHeartbeats 8000000 in
theorem sp_IC_refuseIdle {G : jG} {σ τ : jMem} {r : (Nat ⊕ Unit)} (htr : G.l.stackTraces = false) (H : f_IC_refuseIdle σ = some (r, τ)) : jSp G M_IC_refuseIdle (jr 6 1 6) [.ref 0] σ (fun o9 τ9 => o9 = jzv r ∧ τ9 = τ) := by
  refine jSp.of rfl rfl (Nat.le_of_ble_eq_true rfl) ?_
  show jV _ _ _ _ 0 0 0 [(0, .ref 0)] [] σ
  unfold f_IC_refuseIdle at H
  refine jv_aload_n 0 (pc := 0) d_IC_refuseIdle_0 rfl ?_
  refine jv_geti (pc := 1) d_IC_refuseIdle_1 fa_IC_60_IC (by decide) rfl rfl ?_
  refine jv_if_ne 15 (pc := 4) d_IC_refuseIdle_4 rfl (fun h4 => ?_) (fun h4 => ?_)
  · have h4 : ¬ ((σ 0 7) = 0) := h4
    have H := (if_neg h4).symm.trans H
    refine jv_vret (pc := 15) d_IC_refuseIdle_15 rfl (by decide) (by decide) ?_
    cases H
    exact ⟨rfl, rfl⟩
  · have h4 : (σ 0 7) = 0 := h4
    have H := (if_pos h4).symm.trans H
    cases H
    exact jv_throw (pc := 7) 2 htr d_IC_refuseIdle_7 d_IC_refuseIdle_10 d_IC_refuseIdle_11 d_IC_refuseIdle_14 th_IC_230_232 rfl (Nat.le_of_ble_eq_true rfl) (by decide) (by decide) (by decide) (by decide) ⟨rfl, rfl⟩
set_option maxRecDepth 40000 in
set_option maxHeartbeats 8000000 in
theorem sp_IC_refuseMissingBoard {G : jG} {σ τ : jMem} {r : (Nat ⊕ Unit)} (x1 : Int32) (htr : G.l.stackTraces = false) (H : f_IC_refuseMissingBoard x1 σ = some (r, τ)) : jSp G M_IC_refuseMissingBoard (jr 6 1 6) [.ref 0, .int x1] σ (fun o9 τ9 => o9 = jzv r ∧ τ9 = τ) := by
  refine jSp.of rfl rfl (Nat.le_of_ble_eq_true rfl) ?_
  show jV _ _ _ _ 0 0 0 [(0, .ref 0), (1, .int x1)] [] σ
  unfold f_IC_refuseMissingBoard at H
  refine jv_iload_n 1 (pc := 0) d_IC_refuseMissingBoard_0 rfl ?_
  refine jv_callSi (sp_IC_isBoard x1) (pc := 1) d_IC_refuseMissingBoard_1 c0_IC_isBoard lk_IC_94 si_IC_isBoard rfl (Nat.le_of_ble_eq_true rfl) ⟨by decide, by decide, by decide, by decide⟩ (fun r1 m1 h1 => ?_)
  obtain ⟨ha1, hb1⟩ := h1
  subst ha1
  have hb1 := hb1.symm
  subst hb1
  refine jv_if_ne 15 (pc := 4) d_IC_refuseMissingBoard_4 rfl (fun h4 => ?_) (fun h4 => ?_)
  · have h4 : ¬ ((f_IC_isBoard x1 σ) = 0) := h4
    have H := (if_neg h4).symm.trans H
    refine jv_vret (pc := 15) d_IC_refuseMissingBoard_15 rfl (by decide) (by decide) ?_
    cases H
    exact ⟨rfl, rfl⟩
  · have h4 : (f_IC_isBoard x1 σ) = 0 := h4
    have H := (if_pos h4).symm.trans H
    cases H
    exact jv_throw (pc := 7) 0 htr d_IC_refuseMissingBoard_7 d_IC_refuseMissingBoard_10 d_IC_refuseMissingBoard_11 d_IC_refuseMissingBoard_14 th_IC_83_85 rfl (Nat.le_of_ble_eq_true rfl) (by decide) (by decide) (by decide) (by decide) ⟨rfl, rfl⟩
set_option maxRecDepth 40000 in
set_option maxHeartbeats 8000000 in
theorem sp_IC_refuseMissingSymbol {G : jG} {σ τ : jMem} {r : (Nat ⊕ Unit)} (x1 : Int32) (htr : G.l.stackTraces = false) (H : f_IC_refuseMissingSymbol x1 σ = some (r, τ)) : jSp G M_IC_refuseMissingSymbol (jr 6 1 6) [.ref 0, .int x1] σ (fun o9 τ9 => o9 = jzv r ∧ τ9 = τ) := by
  refine jSp.of rfl rfl (Nat.le_of_ble_eq_true rfl) ?_
  show jV _ _ _ _ 0 0 0 [(0, .ref 0), (1, .int x1)] [] σ
  unfold f_IC_refuseMissingSymbol at H
  refine jv_aload_n 0 (pc := 0) d_IC_refuseMissingSymbol_0 rfl ?_
  refine jv_iload_n 1 (pc := 1) d_IC_refuseMissingSymbol_1 rfl ?_
  refine jv_callVi (sp_IC_isSymbol x1) (pc := 2) d_IC_refuseMissingSymbol_2 c0_IC_isSymbol lk_IC_215 in_IC_isSymbol se_IC_isSymbol (by decide) rfl rfl rfl (Nat.le_of_ble_eq_true rfl) ⟨by decide, by decide, by decide, by decide⟩ (fun r2 m2 h2 => ?_)
  obtain ⟨ha2, hb2⟩ := h2
  subst ha2
  have hb2 := hb2.symm
  subst hb2
  refine jv_if_ne 16 (pc := 5) d_IC_refuseMissingSymbol_5 rfl (fun h5 => ?_) (fun h5 => ?_)
  · have h5 : ¬ ((f_IC_isSymbol x1 σ) = 0) := h5
    have H := (if_neg h5).symm.trans H
    refine jv_vret (pc := 16) d_IC_refuseMissingSymbol_16 rfl (by decide) (by decide) ?_
    cases H
    exact ⟨rfl, rfl⟩
  · have h5 : (f_IC_isSymbol x1 σ) = 0 := h5
    have H := (if_pos h5).symm.trans H
    cases H
    exact jv_throw (pc := 8) 0 htr d_IC_refuseMissingSymbol_8 d_IC_refuseMissingSymbol_11 d_IC_refuseMissingSymbol_12 d_IC_refuseMissingSymbol_15 th_IC_83_85 rfl (Nat.le_of_ble_eq_true rfl) (by decide) (by decide) (by decide) (by decide) ⟨rfl, rfl⟩
set_option maxRecDepth 40000 in
set_option maxHeartbeats 8000000 in
theorem sp_IC_size {G : jG} {σ τ : jMem} {r : (Nat ⊕ Unit)} (x1 x2 x3 : Int32) (htr : G.l.stackTraces = false) (H : f_IC_size x1 x2 x3 σ = some (r, τ)) : jSp G M_IC_size (jr 7 2 12) [.ref 0, .int x1, .int x2, .int x3] σ (fun o9 τ9 => o9 = jzv r ∧ τ9 = τ) := by
  refine jSp.of rfl rfl (Nat.le_of_ble_eq_true rfl) ?_
  show jV _ _ _ _ 0 0 0 [(0, .ref 0), (1, .int x1), (2, .int x2), (3, .int x3)] [] σ
  unfold f_IC_size at H
  refine jv_aload_n 0 (pc := 0) d_IC_size_0 rfl ?_
  refine jv_iload_n 1 (pc := 1) d_IC_size_1 rfl ?_
  rcases jbt_some H with ⟨v2, n2, c2, H⟩ | ⟨v2, n2, c2, H⟩
  · refine jv_callVv (jSp.tv (sp_IC_refuseMissingBoard x1 htr c2)) (pc := 2) d_IC_size_2 c0_IC_refuseMissingBoard lk_IC_64 in_IC_refuseMissingBoard se_IC_refuseMissingBoard (by decide) rfl rfl rfl (Nat.le_of_ble_eq_true rfl) ⟨by decide, by decide, by decide, by decide⟩ (fun m2 h2 => ?_)
    have hb2 := h2
    have hb2 := hb2.symm
    subst hb2
    refine jv_iload_n 2 (pc := 5) d_IC_size_5 rfl ?_
    refine jv_callSi (sp_IC_isSide x2) (pc := 6) d_IC_size_6 c0_IC_isSide lk_IC_68 si_IC_isSide rfl (Nat.le_of_ble_eq_true rfl) ⟨by decide, by decide, by decide, by decide⟩ (fun r6 m6 h6 => ?_)
    obtain ⟨ha6, hb6⟩ := h6
    subst ha6
    have hb6 := hb6.symm
    subst hb6
    refine jv_if_eq 19 (pc := 9) d_IC_size_9 rfl (fun h9 => ?_) (fun h9 => ?_)
    · have h9 : (f_IC_isSide x2 n2) = 0 := h9
      have H := (if_pos h9).symm.trans H
      cases H
      exact jv_throw (pc := 19) 1 htr d_IC_size_19 d_IC_size_22 d_IC_size_23 d_IC_size_26 th_IC_72_74 rfl (Nat.le_of_ble_eq_true rfl) (by decide) (by decide) (by decide) (by decide) ⟨rfl, rfl⟩
    · have h9 : ¬ ((f_IC_isSide x2 n2) = 0) := h9
      have H := (if_neg h9).symm.trans H
      refine jv_iload_n 3 (pc := 12) d_IC_size_12 rfl ?_
      refine jv_callSi (sp_IC_isSide x3) (pc := 13) d_IC_size_13 c0_IC_isSide lk_IC_68 si_IC_isSide rfl (Nat.le_of_ble_eq_true rfl) ⟨by decide, by decide, by decide, by decide⟩ (fun r13 m13 h13 => ?_)
      obtain ⟨ha13, hb13⟩ := h13
      subst ha13
      have hb13 := hb13.symm
      subst hb13
      refine jv_if_ne 27 (pc := 16) d_IC_size_16 rfl (fun h16 => ?_) (fun h16 => ?_)
      · have h16 : ¬ ((f_IC_isSide x3 n2) = 0) := h16
        have H := (if_neg h16).symm.trans H
        refine jv_aload_n 0 (pc := 27) d_IC_size_27 rfl ?_
        refine jv_getr (pc := 28) d_IC_size_28 fa_IC_11_IC (by decide) rfl rfl ?_
        refine jv_iload_n 1 (pc := 31) d_IC_size_31 rfl ?_
        obtain ⟨b32, H⟩ := jck_some H
        have p32 : x1.toNatClampNeg < 12 := jbo12 b32
        refine jv_aald (pc := 32) d_IC_size_32 (by decide) rfl b32 (jbo b32) ?_
        refine jv_iload_n 2 (pc := 33) d_IC_size_33 rfl ?_
        refine jv_iload_n 3 (pc := 34) d_IC_size_34 rfl ?_
        obtain ⟨_, n35, c35, H⟩ := jbd_some H
        refine jv_callVv (sp_PI_blank x1.toNatClampNeg x2 x3 p32 c35) (pc := 35) d_IC_size_35 c0_PI_blank lk_IC_75 in_PI_blank se_PI_blank (show 14 + 2 * x1.toNatClampNeg < jN by unfold jN; omega) (jshp_pic p32) rfl rfl (Nat.le_of_ble_eq_true rfl) ⟨by decide, by decide, by decide, by decide⟩ (fun m35 h35 => ?_)
        have hb35 := h35
        have hb35 := hb35.symm
        subst hb35
        refine jv_vret (pc := 38) d_IC_size_38 rfl (by decide) (by decide) ?_
        cases H
        exact ⟨rfl, rfl⟩
      · have h16 : (f_IC_isSide x3 n2) = 0 := h16
        have H := (if_pos h16).symm.trans H
        cases H
        exact jv_throw (pc := 19) 1 htr d_IC_size_19 d_IC_size_22 d_IC_size_23 d_IC_size_26 th_IC_72_74 rfl (Nat.le_of_ble_eq_true rfl) (by decide) (by decide) (by decide) (by decide) ⟨rfl, rfl⟩
  · cases H
    exact jv_callVX (sp_IC_refuseMissingBoard x1 htr c2) rfl (pc := 2) d_IC_size_2 c0_IC_refuseMissingBoard lm_IC_64 in_IC_refuseMissingBoard se_IC_refuseMissingBoard (by decide) rfl rfl rfl (Nat.le_of_ble_eq_true rfl) ⟨by decide, by decide, by decide, by decide⟩ ⟨rfl, rfl⟩
set_option maxRecDepth 40000 in
set_option maxHeartbeats 8000000 in
theorem sp_IC_flip {G : jG} {σ τ : jMem} {r : (Nat ⊕ Int32)} (x1 x2 x3 : Int32) (htr : G.l.stackTraces = false) (H : f_IC_flip x1 x2 x3 σ = some (r, τ)) : jSp G M_IC_flip (jr 7 2 12) [.ref 0, .int x1, .int x2, .int x3] σ (fun o9 τ9 => o9 = jzi r ∧ τ9 = τ) := by
  refine jSp.of rfl rfl (Nat.le_of_ble_eq_true rfl) ?_
  show jV _ _ _ _ 0 0 0 [(0, .ref 0), (1, .int x1), (2, .int x2), (3, .int x3)] [] σ
  unfold f_IC_flip at H
  refine jv_aload_n 0 (pc := 0) d_IC_flip_0 rfl ?_
  refine jv_iload_n 1 (pc := 1) d_IC_flip_1 rfl ?_
  rcases jbt_some H with ⟨v2, n2, c2, H⟩ | ⟨v2, n2, c2, H⟩
  · refine jv_callVv (jSp.tv (sp_IC_refuseMissingBoard x1 htr c2)) (pc := 2) d_IC_flip_2 c0_IC_refuseMissingBoard lk_IC_64 in_IC_refuseMissingBoard se_IC_refuseMissingBoard (by decide) rfl rfl rfl (Nat.le_of_ble_eq_true rfl) ⟨by decide, by decide, by decide, by decide⟩ (fun m2 h2 => ?_)
    have hb2 := h2
    have hb2 := hb2.symm
    subst hb2
    refine jv_aload_n 0 (pc := 5) d_IC_flip_5 rfl ?_
    refine jv_getr (pc := 6) d_IC_flip_6 fa_IC_11_IC (by decide) rfl rfl ?_
    refine jv_iload_n 1 (pc := 9) d_IC_flip_9 rfl ?_
    obtain ⟨b10, H⟩ := jck_some H
    have p10 : x1.toNatClampNeg < 12 := jbo12 b10
    refine jv_aald (pc := 10) d_IC_flip_10 (by decide) rfl b10 (jbo b10) ?_
    refine jv_iload_n 2 (pc := 11) d_IC_flip_11 rfl ?_
    refine jv_iload_n 3 (pc := 12) d_IC_flip_12 rfl ?_
    obtain ⟨v13, n13, c13, H⟩ := jbd_some H
    refine jv_callVi (sp_PI_has x1.toNatClampNeg x2 x3 p10 c13) (pc := 13) d_IC_flip_13 c0_PI_has lk_IC_79 in_PI_has se_PI_has (show 14 + 2 * x1.toNatClampNeg < jN by unfold jN; omega) (jshp_pic p10) rfl rfl (Nat.le_of_ble_eq_true rfl) ⟨by decide, by decide, by decide, by decide⟩ (fun r13 m13 h13 => ?_)
    obtain ⟨ha13, hb13⟩ := h13
    have ha13 := ha13.symm
    subst ha13
    have hb13 := hb13.symm
    subst hb13
    refine jv_if_ne 27 (pc := 16) d_IC_flip_16 rfl (fun h16 => ?_) (fun h16 => ?_)
    · have h16 : ¬ (v13 = 0) := h16
      have H := (if_neg h16).symm.trans H
      refine jv_iconst 1 (pc := 27) d_IC_flip_27 rfl ?_
      refine jv_aload_n 0 (pc := 28) d_IC_flip_28 rfl ?_
      refine jv_getr (pc := 29) d_IC_flip_29 fa_IC_11_IC (by decide) rfl rfl ?_
      refine jv_iload_n 1 (pc := 32) d_IC_flip_32 rfl ?_
      obtain ⟨b33, H⟩ := jck_some H
      have p33 : x1.toNatClampNeg < 12 := jbo12 b33
      refine jv_aald (pc := 33) d_IC_flip_33 (by decide) rfl b33 (jbo b33) ?_
      refine jv_iload_n 2 (pc := 34) d_IC_flip_34 rfl ?_
      refine jv_iload_n 3 (pc := 35) d_IC_flip_35 rfl ?_
      obtain ⟨v36, n36, c36, H⟩ := jbd_some H
      refine jv_callVi (sp_PI_at x1.toNatClampNeg x2 x3 p33 c36) (pc := 36) d_IC_flip_36 c0_PI_at lk_IC_86 in_PI_at se_PI_at (show 14 + 2 * x1.toNatClampNeg < jN by unfold jN; omega) (jshp_pic p33) rfl rfl (Nat.le_of_ble_eq_true rfl) ⟨by decide, by decide, by decide, by decide⟩ (fun r36 m36 h36 => ?_)
      obtain ⟨ha36, hb36⟩ := h36
      have ha36 := ha36.symm
      subst ha36
      have hb36 := hb36.symm
      subst hb36
      refine jv_isub (pc := 39) d_IC_flip_39 ?_
      refine jv_istore (pc := 40) d_IC_flip_40 (by decide) (jsto_new rfl) ?_
      refine jv_aload_n 1 (pc := 42) d_IC_flip_42 rfl ?_
      refine jv_getr (pc := 43) d_IC_flip_43 fa_IC_11_IC (by decide) rfl rfl ?_
      refine jv_iload_n 2 (pc := 46) d_IC_flip_46 rfl ?_
      obtain ⟨b47, H⟩ := jck_some H
      have p47 : x1.toNatClampNeg < 12 := jbo12 b47
      refine jv_aald (pc := 47) d_IC_flip_47 (by decide) rfl b47 (jbo b47) ?_
      refine jv_iload_n 3 (pc := 48) d_IC_flip_48 rfl ?_
      refine jv_iload_n 4 (pc := 49) d_IC_flip_49 rfl ?_
      refine jv_iload 0 (pc := 50) d_IC_flip_50 rfl ?_
      obtain ⟨_, n52, c52, H⟩ := jbd_some H
      refine jv_callVv (sp_PI_set x1.toNatClampNeg x2 x3 ((1 : Int32) - v36) p47 c52) (pc := 52) d_IC_flip_52 c0_PI_set lk_IC_90 in_PI_set se_PI_set (show 14 + 2 * x1.toNatClampNeg < jN by unfold jN; omega) (jshp_pic p47) rfl rfl (Nat.le_of_ble_eq_true rfl) ⟨by decide, by decide, by decide, by decide⟩ (fun m52 h52 => ?_)
      have hb52 := h52
      have hb52 := hb52.symm
      subst hb52
      refine jv_iload 0 (pc := 55) d_IC_flip_55 rfl ?_
      refine jv_iconst 1 (pc := 57) d_IC_flip_57 rfl ?_
      refine jv_icmp_ne 65 (pc := 58) d_IC_flip_58 rfl (fun h58 => ?_) (fun h58 => ?_)
      · have h58 : ¬ (((1 : Int32) - v36) = (1 : Int32)) := h58
        have H := (if_neg h58).symm.trans H
        refine jv_iconst 0 (pc := 65) d_IC_flip_65 rfl ?_
        refine jv_iret (pc := 66) d_IC_flip_66 rfl rfl (by decide) (by decide) ?_
        cases H
        exact ⟨rfl, rfl⟩
      · have h58 : ((1 : Int32) - v36) = (1 : Int32) := h58
        have H := (if_pos h58).symm.trans H
        refine jv_iconst 1 (pc := 61) d_IC_flip_61 rfl ?_
        refine jv_goto 66 (pc := 62) d_IC_flip_62 rfl ?_
        refine jv_iret (pc := 66) d_IC_flip_66 rfl rfl (by decide) (by decide) ?_
        cases H
        exact ⟨rfl, rfl⟩
    · have h16 : v13 = 0 := h16
      have H := (if_pos h16).symm.trans H
      cases H
      exact jv_throw (pc := 19) 0 htr d_IC_flip_19 d_IC_flip_22 d_IC_flip_23 d_IC_flip_26 th_IC_83_85 rfl (Nat.le_of_ble_eq_true rfl) (by decide) (by decide) (by decide) (by decide) ⟨rfl, rfl⟩
  · cases H
    exact jv_callVX (sp_IC_refuseMissingBoard x1 htr c2) rfl (pc := 2) d_IC_flip_2 c0_IC_refuseMissingBoard lm_IC_64 in_IC_refuseMissingBoard se_IC_refuseMissingBoard (by decide) rfl rfl rfl (Nat.le_of_ble_eq_true rfl) ⟨by decide, by decide, by decide, by decide⟩ ⟨rfl, rfl⟩
set_option maxRecDepth 40000 in
set_option maxHeartbeats 8000000 in
theorem sp_IC_draw {G : jG} {σ τ : jMem} {r : (Nat ⊕ Unit)} (x1 x2 x3 x4 x5 : Int32) (htr : G.l.stackTraces = false) (H : f_IC_draw x1 x2 x3 x4 x5 σ = some (r, τ)) : jSp G M_IC_draw (jr 7 3 18) [.ref 0, .int x1, .int x2, .int x3, .int x4, .int x5] σ (fun o9 τ9 => o9 = jzv r ∧ τ9 = τ) := by
  refine jSp.of rfl rfl (Nat.le_of_ble_eq_true rfl) ?_
  show jV _ _ _ _ 0 0 0 [(0, .ref 0), (1, .int x1), (2, .int x2), (3, .int x3), (4, .int x4), (5, .int x5)] [] σ
  unfold f_IC_draw at H
  refine jv_aload_n 0 (pc := 0) d_IC_draw_0 rfl ?_
  refine jv_iload_n 1 (pc := 1) d_IC_draw_1 rfl ?_
  rcases jbt_some H with ⟨v2, n2, c2, H⟩ | ⟨v2, n2, c2, H⟩
  · refine jv_callVv (jSp.tv (sp_IC_refuseMissingBoard x1 htr c2)) (pc := 2) d_IC_draw_2 c0_IC_refuseMissingBoard lk_IC_64 in_IC_refuseMissingBoard se_IC_refuseMissingBoard (by decide) rfl rfl rfl (Nat.le_of_ble_eq_true rfl) ⟨by decide, by decide, by decide, by decide⟩ (fun m2 h2 => ?_)
    have hb2 := h2
    have hb2 := hb2.symm
    subst hb2
    refine jv_aload_n 0 (pc := 5) d_IC_draw_5 rfl ?_
    refine jv_iload_n 2 (pc := 6) d_IC_draw_6 rfl ?_
    rcases jbt_some H with ⟨v7, n7, c7, H⟩ | ⟨v7, n7, c7, H⟩
    · refine jv_callVv (jSp.tv (sp_IC_refuseMissingBoard x2 htr c7)) (pc := 7) d_IC_draw_7 c0_IC_refuseMissingBoard lk_IC_64 in_IC_refuseMissingBoard se_IC_refuseMissingBoard (by decide) rfl rfl rfl (Nat.le_of_ble_eq_true rfl) ⟨by decide, by decide, by decide, by decide⟩ (fun m7 h7 => ?_)
      have hb7 := h7
      have hb7 := hb7.symm
      subst hb7
      refine jv_iload_n 1 (pc := 10) d_IC_draw_10 rfl ?_
      refine jv_iload_n 2 (pc := 11) d_IC_draw_11 rfl ?_
      refine jv_icmp_eq 40 (pc := 12) d_IC_draw_12 rfl (fun h12 => ?_) (fun h12 => ?_)
      · have h12 : x1 = x2 := h12
        have H := (if_pos h12).symm.trans H
        cases H
        exact jv_throw (pc := 40) 1 htr d_IC_draw_40 d_IC_draw_43 d_IC_draw_44 d_IC_draw_47 th_IC_72_74 rfl (Nat.le_of_ble_eq_true rfl) (by decide) (by decide) (by decide) (by decide) ⟨rfl, rfl⟩
      · have h12 : ¬ (x1 = x2) := h12
        have H := (if_neg h12).symm.trans H
        refine jv_iload 5 (pc := 15) d_IC_draw_15 rfl ?_
        refine jv_iconst 0 (pc := 17) d_IC_draw_17 rfl ?_
        refine jv_iconst 4 (pc := 18) d_IC_draw_18 rfl ?_
        refine jv_callSi (sp_IC_within x5 (0 : Int32) (4 : Int32)) (pc := 19) d_IC_draw_19 c0_IC_within lk_IC_97 si_IC_within rfl (Nat.le_of_ble_eq_true rfl) ⟨by decide, by decide, by decide, by decide⟩ (fun r19 m19 h19 => ?_)
        obtain ⟨ha19, hb19⟩ := h19
        subst ha19
        have hb19 := hb19.symm
        subst hb19
        refine jv_if_eq 40 (pc := 22) d_IC_draw_22 rfl (fun h22 => ?_) (fun h22 => ?_)
        · have h22 : (f_IC_within x5 (0 : Int32) (4 : Int32) n7) = 0 := h22
          have H := (if_pos h22).symm.trans H
          cases H
          exact jv_throw (pc := 40) 1 htr d_IC_draw_40 d_IC_draw_43 d_IC_draw_44 d_IC_draw_47 th_IC_72_74 rfl (Nat.le_of_ble_eq_true rfl) (by decide) (by decide) (by decide) (by decide) ⟨rfl, rfl⟩
        · have h22 : ¬ ((f_IC_within x5 (0 : Int32) (4 : Int32) n7) = 0) := h22
          have H := (if_neg h22).symm.trans H
          refine jv_iload_n 3 (pc := 25) d_IC_draw_25 rfl ?_
          refine jv_callSi (sp_IC_isPlace x3) (pc := 26) d_IC_draw_26 c0_IC_isPlace lk_IC_101 si_IC_isPlace rfl (Nat.le_of_ble_eq_true rfl) ⟨by decide, by decide, by decide, by decide⟩ (fun r26 m26 h26 => ?_)
          obtain ⟨ha26, hb26⟩ := h26
          subst ha26
          have hb26 := hb26.symm
          subst hb26
          refine jv_if_eq 40 (pc := 29) d_IC_draw_29 rfl (fun h29 => ?_) (fun h29 => ?_)
          · have h29 : (f_IC_isPlace x3 n7) = 0 := h29
            have H := (if_pos h29).symm.trans H
            cases H
            exact jv_throw (pc := 40) 1 htr d_IC_draw_40 d_IC_draw_43 d_IC_draw_44 d_IC_draw_47 th_IC_72_74 rfl (Nat.le_of_ble_eq_true rfl) (by decide) (by decide) (by decide) (by decide) ⟨rfl, rfl⟩
          · have h29 : ¬ ((f_IC_isPlace x3 n7) = 0) := h29
            have H := (if_neg h29).symm.trans H
            refine jv_iload 4 (pc := 32) d_IC_draw_32 rfl ?_
            refine jv_callSi (sp_IC_isPlace x4) (pc := 34) d_IC_draw_34 c0_IC_isPlace lk_IC_101 si_IC_isPlace rfl (Nat.le_of_ble_eq_true rfl) ⟨by decide, by decide, by decide, by decide⟩ (fun r34 m34 h34 => ?_)
            obtain ⟨ha34, hb34⟩ := h34
            subst ha34
            have hb34 := hb34.symm
            subst hb34
            refine jv_if_ne 48 (pc := 37) d_IC_draw_37 rfl (fun h37 => ?_) (fun h37 => ?_)
            · have h37 : ¬ ((f_IC_isPlace x4 n7) = 0) := h37
              have H := (if_neg h37).symm.trans H
              refine jv_aload_n 0 (pc := 48) d_IC_draw_48 rfl ?_
              refine jv_getr (pc := 49) d_IC_draw_49 fa_IC_11_IC (by decide) rfl rfl ?_
              refine jv_iload_n 1 (pc := 52) d_IC_draw_52 rfl ?_
              obtain ⟨b53, H⟩ := jck_some H
              have p53 : x1.toNatClampNeg < 12 := jbo12 b53
              refine jv_aald (pc := 53) d_IC_draw_53 (by decide) rfl b53 (jbo b53) ?_
              refine jv_aload_n 0 (pc := 54) d_IC_draw_54 rfl ?_
              refine jv_getr (pc := 55) d_IC_draw_55 fa_IC_11_IC (by decide) rfl rfl ?_
              refine jv_iload_n 2 (pc := 58) d_IC_draw_58 rfl ?_
              obtain ⟨b59, H⟩ := jck_some H
              have p59 : x2.toNatClampNeg < 12 := jbo12 b59
              refine jv_aald (pc := 59) d_IC_draw_59 (by decide) rfl b59 (jbo b59) ?_
              refine jv_iload_n 3 (pc := 60) d_IC_draw_60 rfl ?_
              refine jv_iload 4 (pc := 61) d_IC_draw_61 rfl ?_
              refine jv_iload 5 (pc := 63) d_IC_draw_63 rfl ?_
              obtain ⟨_, n65, c65, H⟩ := jbd_some H
              refine jv_callVv (sp_PI_stamp x1.toNatClampNeg x2.toNatClampNeg x3 x4 x5 p53 p59 c65) (pc := 65) d_IC_draw_65 c0_PI_stamp lk_IC_104 in_PI_stamp se_PI_stamp (show 14 + 2 * x1.toNatClampNeg < jN by unfold jN; omega) (jshp_pic p53) rfl rfl (Nat.le_of_ble_eq_true rfl) ⟨by decide, by decide, by decide, by decide⟩ (fun m65 h65 => ?_)
              have hb65 := h65
              have hb65 := hb65.symm
              subst hb65
              refine jv_vret (pc := 68) d_IC_draw_68 rfl (by decide) (by decide) ?_
              cases H
              exact ⟨rfl, rfl⟩
            · have h37 : (f_IC_isPlace x4 n7) = 0 := h37
              have H := (if_pos h37).symm.trans H
              cases H
              exact jv_throw (pc := 40) 1 htr d_IC_draw_40 d_IC_draw_43 d_IC_draw_44 d_IC_draw_47 th_IC_72_74 rfl (Nat.le_of_ble_eq_true rfl) (by decide) (by decide) (by decide) (by decide) ⟨rfl, rfl⟩
    · cases H
      exact jv_callVX (sp_IC_refuseMissingBoard x2 htr c7) rfl (pc := 7) d_IC_draw_7 c0_IC_refuseMissingBoard lm_IC_64 in_IC_refuseMissingBoard se_IC_refuseMissingBoard (by decide) rfl rfl rfl (Nat.le_of_ble_eq_true rfl) ⟨by decide, by decide, by decide, by decide⟩ ⟨rfl, rfl⟩
  · cases H
    exact jv_callVX (sp_IC_refuseMissingBoard x1 htr c2) rfl (pc := 2) d_IC_draw_2 c0_IC_refuseMissingBoard lm_IC_64 in_IC_refuseMissingBoard se_IC_refuseMissingBoard (by decide) rfl rfl rfl (Nat.le_of_ble_eq_true rfl) ⟨by decide, by decide, by decide, by decide⟩ ⟨rfl, rfl⟩
set_option maxRecDepth 40000 in
set_option maxHeartbeats 8000000 in
theorem sp_IC_board {G : jG} {σ τ : jMem} {r : (Nat ⊕ Int32)} (x1 x2 : Int32) (htr : G.l.stackTraces = false) (H : f_IC_board x1 x2 σ = some (r, τ)) : jSp G M_IC_board (jr 7 2 12) [.ref 0, .int x1, .int x2] σ (fun o9 τ9 => o9 = jzi r ∧ τ9 = τ) := by
  refine jSp.of rfl rfl (Nat.le_of_ble_eq_true rfl) ?_
  show jV _ _ _ _ 0 0 0 [(0, .ref 0), (1, .int x1), (2, .int x2)] [] σ
  unfold f_IC_board at H
  refine jv_aload_n 0 (pc := 0) d_IC_board_0 rfl ?_
  refine jv_iload_n 1 (pc := 1) d_IC_board_1 rfl ?_
  rcases jbt_some H with ⟨v2, n2, c2, H⟩ | ⟨v2, n2, c2, H⟩
  · refine jv_callVv (jSp.tv (sp_IC_refuseMissingBoard x1 htr c2)) (pc := 2) d_IC_board_2 c0_IC_refuseMissingBoard lk_IC_64 in_IC_refuseMissingBoard se_IC_refuseMissingBoard (by decide) rfl rfl rfl (Nat.le_of_ble_eq_true rfl) ⟨by decide, by decide, by decide, by decide⟩ (fun m2 h2 => ?_)
    have hb2 := h2
    have hb2 := hb2.symm
    subst hb2
    refine jv_iload_n 2 (pc := 5) d_IC_board_5 rfl ?_
    by_cases h6_0 : x2 = 0
    · have H := (if_pos h6_0).symm.trans H
      refine jv_tin 32 (pc := 6) d_IC_board_6 (by rw [h6_0]; decide) (by rw [h6_0]; decide) (by rw [h6_0]; rfl) rfl ?_
      refine jv_aload_n 0 (pc := 32) d_IC_board_32 rfl ?_
      refine jv_getr (pc := 33) d_IC_board_33 fa_IC_11_IC (by decide) rfl rfl ?_
      refine jv_iload_n 1 (pc := 36) d_IC_board_36 rfl ?_
      obtain ⟨b37, H⟩ := jck_some H
      have p37 : x1.toNatClampNeg < 12 := jbo12 b37
      refine jv_aald (pc := 37) d_IC_board_37 (by decide) rfl b37 (jbo b37) ?_
      obtain ⟨v38, n38, c38, H⟩ := jbd_some H
      refine jv_callVi (sp_PI_ones x1.toNatClampNeg p37 c38) (pc := 38) d_IC_board_38 c0_PI_ones lk_IC_108 in_PI_ones se_PI_ones (show 14 + 2 * x1.toNatClampNeg < jN by unfold jN; omega) (jshp_pic p37) rfl rfl (Nat.le_of_ble_eq_true rfl) ⟨by decide, by decide, by decide, by decide⟩ (fun r38 m38 h38 => ?_)
      obtain ⟨ha38, hb38⟩ := h38
      have ha38 := ha38.symm
      subst ha38
      have hb38 := hb38.symm
      subst hb38
      refine jv_iret (pc := 41) d_IC_board_41 rfl rfl (by decide) (by decide) ?_
      cases H
      exact ⟨rfl, rfl⟩
    have H := (if_neg h6_0).symm.trans H
    by_cases h6_1 : x2 = 1
    · have H := (if_pos h6_1).symm.trans H
      refine jv_tin 42 (pc := 6) d_IC_board_6 (by rw [h6_1]; decide) (by rw [h6_1]; decide) (by rw [h6_1]; rfl) rfl ?_
      refine jv_aload_n 0 (pc := 42) d_IC_board_42 rfl ?_
      refine jv_getr (pc := 43) d_IC_board_43 fa_IC_11_IC (by decide) rfl rfl ?_
      refine jv_iload_n 1 (pc := 46) d_IC_board_46 rfl ?_
      obtain ⟨b47, H⟩ := jck_some H
      have p47 : x1.toNatClampNeg < 12 := jbo12 b47
      refine jv_aald (pc := 47) d_IC_board_47 (by decide) rfl b47 (jbo b47) ?_
      refine jv_geti (pc := 48) d_IC_board_48 fa_IC_112_PI (show 14 + 2 * x1.toNatClampNeg < jN by unfold jN; omega) (jshp_pic p47) rfl ?_
      refine jv_iret (pc := 51) d_IC_board_51 rfl rfl (by decide) (by decide) ?_
      cases H
      exact ⟨rfl, rfl⟩
    have H := (if_neg h6_1).symm.trans H
    by_cases h6_2 : x2 = 2
    · have H := (if_pos h6_2).symm.trans H
      refine jv_tin 52 (pc := 6) d_IC_board_6 (by rw [h6_2]; decide) (by rw [h6_2]; decide) (by rw [h6_2]; rfl) rfl ?_
      refine jv_aload_n 0 (pc := 52) d_IC_board_52 rfl ?_
      refine jv_getr (pc := 53) d_IC_board_53 fa_IC_11_IC (by decide) rfl rfl ?_
      refine jv_iload_n 1 (pc := 56) d_IC_board_56 rfl ?_
      obtain ⟨b57, H⟩ := jck_some H
      have p57 : x1.toNatClampNeg < 12 := jbo12 b57
      refine jv_aald (pc := 57) d_IC_board_57 (by decide) rfl b57 (jbo b57) ?_
      refine jv_geti (pc := 58) d_IC_board_58 fa_IC_115_PI (show 14 + 2 * x1.toNatClampNeg < jN by unfold jN; omega) (jshp_pic p57) rfl ?_
      refine jv_iret (pc := 61) d_IC_board_61 rfl rfl (by decide) (by decide) ?_
      cases H
      exact ⟨rfl, rfl⟩
    have H := (if_neg h6_2).symm.trans H
    refine jv_tout 62 (pc := 6) d_IC_board_6 (by have a0 : (x2).toInt ≠ 0 := fun q => h6_0 (Int32.toInt_inj.mp q); have a1 : (x2).toInt ≠ 1 := fun q => h6_1 (Int32.toInt_inj.mp q); have a2 : (x2).toInt ≠ 2 := fun q => h6_2 (Int32.toInt_inj.mp q); omega) rfl ?_
    cases H
    exact jv_throw (pc := 62) 1 htr d_IC_board_62 d_IC_board_65 d_IC_board_66 d_IC_board_69 th_IC_72_74 rfl (Nat.le_of_ble_eq_true rfl) (by decide) (by decide) (by decide) (by decide) ⟨rfl, rfl⟩
  · cases H
    exact jv_callVX (sp_IC_refuseMissingBoard x1 htr c2) rfl (pc := 2) d_IC_board_2 c0_IC_refuseMissingBoard lm_IC_64 in_IC_refuseMissingBoard se_IC_refuseMissingBoard (by decide) rfl rfl rfl (Nat.le_of_ble_eq_true rfl) ⟨by decide, by decide, by decide, by decide⟩ ⟨rfl, rfl⟩
set_option maxRecDepth 40000 in
set_option maxHeartbeats 8000000 in
theorem sp_IC_code {G : jG} {σ τ : jMem} {r : (Nat ⊕ Int32)} (x1 : Int32) (htr : G.l.stackTraces = false) (H : f_IC_code x1 σ = some (r, τ)) : jSp G M_IC_code (jr 6 1 6) [.ref 0, .int x1] σ (fun o9 τ9 => o9 = jzi r ∧ τ9 = τ) := by
  refine jSp.of rfl rfl (Nat.le_of_ble_eq_true rfl) ?_
  show jV _ _ _ _ 0 0 0 [(0, .ref 0), (1, .int x1)] [] σ
  unfold f_IC_code at H
  refine jv_iload_n 1 (pc := 0) d_IC_code_0 rfl ?_
  refine jv_iconst 0 (pc := 1) d_IC_code_1 rfl ?_
  refine jv_aload_n 0 (pc := 2) d_IC_code_2 rfl ?_
  refine jv_getr (pc := 3) d_IC_code_3 fa_IC_33_IC (by decide) rfl rfl ?_
  refine jv_geti (pc := 6) d_IC_code_6 fa_IC_121_BR (by decide) rfl rfl ?_
  refine jv_iconst 1 (pc := 9) d_IC_code_9 rfl ?_
  refine jv_isub (pc := 10) d_IC_code_10 ?_
  refine jv_callSi (sp_IC_within x1 (0 : Int32) ((σ 8 1) - (1 : Int32))) (pc := 11) d_IC_code_11 c0_IC_within lk_IC_97 si_IC_within rfl (Nat.le_of_ble_eq_true rfl) ⟨by decide, by decide, by decide, by decide⟩ (fun r11 m11 h11 => ?_)
  obtain ⟨ha11, hb11⟩ := h11
  subst ha11
  have hb11 := hb11.symm
  subst hb11
  refine jv_if_ne 25 (pc := 14) d_IC_code_14 rfl (fun h14 => ?_) (fun h14 => ?_)
  · have h14 : ¬ ((f_IC_within x1 (0 : Int32) ((σ 8 1) - (1 : Int32)) σ) = 0) := h14
    have H := (if_neg h14).symm.trans H
    refine jv_aload_n 0 (pc := 25) d_IC_code_25 rfl ?_
    refine jv_getr (pc := 26) d_IC_code_26 fa_IC_33_IC (by decide) rfl rfl ?_
    refine jv_iload_n 1 (pc := 29) d_IC_code_29 rfl ?_
    obtain ⟨v30, n30, c30, H⟩ := jbd_some H
    refine jv_callVi (sp_BR_at x1 c30) (pc := 30) d_IC_code_30 c0_BR_at lk_IC_124 in_BR_at se_BR_at (by decide) rfl rfl rfl (Nat.le_of_ble_eq_true rfl) ⟨by decide, by decide, by decide, by decide⟩ (fun r30 m30 h30 => ?_)
    obtain ⟨ha30, hb30⟩ := h30
    have ha30 := ha30.symm
    subst ha30
    have hb30 := hb30.symm
    subst hb30
    refine jv_iret (pc := 33) d_IC_code_33 rfl rfl (by decide) (by decide) ?_
    cases H
    exact ⟨rfl, rfl⟩
  · have h14 : (f_IC_within x1 (0 : Int32) ((σ 8 1) - (1 : Int32)) σ) = 0 := h14
    have H := (if_pos h14).symm.trans H
    cases H
    exact jv_throw (pc := 17) 0 htr d_IC_code_17 d_IC_code_20 d_IC_code_21 d_IC_code_24 th_IC_83_85 rfl (Nat.le_of_ble_eq_true rfl) (by decide) (by decide) (by decide) (by decide) ⟨rfl, rfl⟩
set_option maxRecDepth 40000 in
set_option maxHeartbeats 8000000 in
theorem sp_IC_end {G : jG} {σ τ : jMem} {r : (Nat ⊕ Int32)} (htr : G.l.stackTraces = false) (H : f_IC_end σ = some (r, τ)) : jSp G M_IC_end (jr 7 1 6) [.ref 0] σ (fun o9 τ9 => o9 = jzi r ∧ τ9 = τ) := by
  refine jSp.of rfl rfl (Nat.le_of_ble_eq_true rfl) ?_
  show jV _ _ _ _ 0 0 0 [(0, .ref 0)] [] σ
  unfold f_IC_end at H
  refine jv_aload_n 0 (pc := 0) d_IC_end_0 rfl ?_
  rcases jbt_some H with ⟨v1, n1, c1, H⟩ | ⟨v1, n1, c1, H⟩
  · refine jv_callVv (jSp.tv (sp_IC_refuseIdle htr c1)) (pc := 1) d_IC_end_1 c0_IC_refuseIdle lk_IC_134 in_IC_refuseIdle se_IC_refuseIdle (by decide) rfl rfl rfl (Nat.le_of_ble_eq_true rfl) ⟨by decide, by decide, by decide, by decide⟩ (fun m1 h1 => ?_)
    have hb1 := h1
    have hb1 := hb1.symm
    subst hb1
    refine jv_aload_n 0 (pc := 4) d_IC_end_4 rfl ?_
    refine jv_geti (pc := 5) d_IC_end_5 fa_IC_60_IC (by decide) rfl rfl ?_
    refine jv_iconst 1 (pc := 8) d_IC_end_8 rfl ?_
    refine jv_icmp_ne 19 (pc := 9) d_IC_end_9 rfl (fun h9 => ?_) (fun h9 => ?_)
    · have h9 : ¬ ((n1 0 7) = (1 : Int32)) := h9
      have H := (if_neg h9).symm.trans H
      refine jv_aload_n 0 (pc := 19) d_IC_end_19 rfl ?_
      refine jv_iconst 0 (pc := 20) d_IC_end_20 rfl ?_
      refine jv_puti (pc := 21) d_IC_end_21 fa_IC_60_IC fp_IC_7 (by decide) rfl rfl rfl rfl ?_
      refine jv_aload_n 0 (pc := 24) d_IC_end_24 rfl ?_
      refine jv_getr (pc := 25) d_IC_end_25 fa_IC_33_IC (by decide) rfl rfl ?_
      refine jv_geti (pc := 28) d_IC_end_28 fa_IC_121_BR (by decide) rfl rfl ?_
      refine jv_iret (pc := 31) d_IC_end_31 rfl rfl (by decide) (by decide) ?_
      cases H
      exact ⟨rfl, rfl⟩
    · have h9 : (n1 0 7) = (1 : Int32) := h9
      have H := (if_pos h9).symm.trans H
      refine jv_aload_n 0 (pc := 12) d_IC_end_12 rfl ?_
      refine jv_getr (pc := 13) d_IC_end_13 fa_IC_49_IC (by decide) rfl rfl ?_
      obtain ⟨_, n16, c16, H⟩ := jbd_some H
      refine jv_callVv (sp_WR_finish c16) (pc := 16) d_IC_end_16 c0_WR_finish lk_IC_137 in_WR_finish se_WR_finish (by decide) rfl rfl rfl (Nat.le_of_ble_eq_true rfl) ⟨by decide, by decide, by decide, by decide⟩ (fun m16 h16 => ?_)
      have hb16 := h16
      have hb16 := hb16.symm
      subst hb16
      refine jv_aload_n 0 (pc := 19) d_IC_end_19 rfl ?_
      refine jv_iconst 0 (pc := 20) d_IC_end_20 rfl ?_
      refine jv_puti (pc := 21) d_IC_end_21 fa_IC_60_IC fp_IC_7 (by decide) rfl rfl rfl rfl ?_
      refine jv_aload_n 0 (pc := 24) d_IC_end_24 rfl ?_
      refine jv_getr (pc := 25) d_IC_end_25 fa_IC_33_IC (by decide) rfl rfl ?_
      refine jv_geti (pc := 28) d_IC_end_28 fa_IC_121_BR (by decide) rfl rfl ?_
      refine jv_iret (pc := 31) d_IC_end_31 rfl rfl (by decide) (by decide) ?_
      cases H
      exact ⟨rfl, rfl⟩
  · cases H
    exact jv_callVX (sp_IC_refuseIdle htr c1) rfl (pc := 1) d_IC_end_1 c0_IC_refuseIdle lm_IC_134 in_IC_refuseIdle se_IC_refuseIdle (by decide) rfl rfl rfl (Nat.le_of_ble_eq_true rfl) ⟨by decide, by decide, by decide, by decide⟩ ⟨rfl, rfl⟩
set_option maxRecDepth 40000 in
set_option maxHeartbeats 8000000 in
theorem sp_IC_region {G : jG} {σ τ : jMem} {r : (Nat ⊕ Int32)} (x1 x2 x3 : Int32) (htr : G.l.stackTraces = false) (H : f_IC_region x1 x2 x3 σ = some (r, τ)) : jSp G M_IC_region (jr 7 3 18) [.ref 0, .int x1, .int x2, .int x3] σ (fun o9 τ9 => o9 = jzi r ∧ τ9 = τ) := by
  refine jSp.of rfl rfl (Nat.le_of_ble_eq_true rfl) ?_
  show jV _ _ _ _ 0 0 0 [(0, .ref 0), (1, .int x1), (2, .int x2), (3, .int x3)] [] σ
  unfold f_IC_region at H
  refine jv_aload_n 0 (pc := 0) d_IC_region_0 rfl ?_
  rcases jbt_some H with ⟨v1, n1, c1, H⟩ | ⟨v1, n1, c1, H⟩
  · refine jv_callVv (jSp.tv (sp_IC_refuseIdle htr c1)) (pc := 1) d_IC_region_1 c0_IC_refuseIdle lk_IC_134 in_IC_refuseIdle se_IC_refuseIdle (by decide) rfl rfl rfl (Nat.le_of_ble_eq_true rfl) ⟨by decide, by decide, by decide, by decide⟩ (fun m1 h1 => ?_)
    have hb1 := h1
    have hb1 := hb1.symm
    subst hb1
    refine jv_aload_n 0 (pc := 4) d_IC_region_4 rfl ?_
    refine jv_iload_n 1 (pc := 5) d_IC_region_5 rfl ?_
    rcases jbt_some H with ⟨v6, n6, c6, H⟩ | ⟨v6, n6, c6, H⟩
    · refine jv_callVv (jSp.tv (sp_IC_refuseMissingBoard x1 htr c6)) (pc := 6) d_IC_region_6 c0_IC_refuseMissingBoard lk_IC_64 in_IC_refuseMissingBoard se_IC_refuseMissingBoard (by decide) rfl rfl rfl (Nat.le_of_ble_eq_true rfl) ⟨by decide, by decide, by decide, by decide⟩ (fun m6 h6 => ?_)
      have hb6 := h6
      have hb6 := hb6.symm
      subst hb6
      refine jv_iload_n 2 (pc := 9) d_IC_region_9 rfl ?_
      refine jv_iconst 1 (pc := 10) d_IC_region_10 rfl ?_
      refine jv_iconst 3 (pc := 11) d_IC_region_11 rfl ?_
      refine jv_callSi (sp_IC_within x2 (1 : Int32) (3 : Int32)) (pc := 12) d_IC_region_12 c0_IC_within lk_IC_97 si_IC_within rfl (Nat.le_of_ble_eq_true rfl) ⟨by decide, by decide, by decide, by decide⟩ (fun r12 m12 h12 => ?_)
      obtain ⟨ha12, hb12⟩ := h12
      subst ha12
      have hb12 := hb12.symm
      subst hb12
      refine jv_if_ne 26 (pc := 15) d_IC_region_15 rfl (fun h15 => ?_) (fun h15 => ?_)
      · have h15 : ¬ ((f_IC_within x2 (1 : Int32) (3 : Int32) n6) = 0) := h15
        have H := (if_neg h15).symm.trans H
        refine jv_aload_n 0 (pc := 26) d_IC_region_26 rfl ?_
        refine jv_callVa (sp_IC_coder) (pc := 27) d_IC_region_27 c0_IC_coder lk_IC_140 in_IC_coder se_IC_coder (by decide) rfl rfl rfl (Nat.le_of_ble_eq_true rfl) ⟨by decide, by decide, by decide, by decide⟩ (fun r27 m27 h27 => ?_)
        obtain ⟨ha27, hb27⟩ := h27
        subst ha27
        have hb27 := hb27.symm
        subst hb27
        have e27 : f_IC_coder n6 = if n6 0 7 = 1 then 12 else 13 := rfl
        by_cases g27 : n6 0 7 = 1
        · rw [e27, if_pos g27]
          have H := (if_pos g27).symm.trans H
          refine jv_aload_n 0 (pc := 30) d_IC_region_30 rfl ?_
          refine jv_getr (pc := 31) d_IC_region_31 fa_IC_11_IC (by decide) rfl rfl ?_
          refine jv_iload_n 1 (pc := 34) d_IC_region_34 rfl ?_
          obtain ⟨b35, H⟩ := jck_some H
          have p35 : x1.toNatClampNeg < 12 := jbo12 b35
          refine jv_aald (pc := 35) d_IC_region_35 (by decide) rfl b35 (jbo b35) ?_
          refine jv_iload_n 2 (pc := 36) d_IC_region_36 rfl ?_
          refine jv_iload_n 3 (pc := 37) d_IC_region_37 rfl ?_
          obtain ⟨v38, n38, c38, H⟩ := jbd_some H
          refine jv_callSi (sp_PT_codeRegion_W x1.toNatClampNeg x2 x3 p35 c38) (pc := 38) d_IC_region_38 c0_PT_codeRegion lk_IC_144 si_PT_codeRegion rfl (Nat.le_of_ble_eq_true rfl) ⟨by decide, by decide, by decide, by decide⟩ (fun r38 m38 h38 => ?_)
          obtain ⟨ha38, hb38⟩ := h38
          have ha38 := ha38.symm
          subst ha38
          have hb38 := hb38.symm
          subst hb38
          refine jv_iret (pc := 41) d_IC_region_41 rfl rfl (by decide) (by decide) ?_
          cases H
          exact ⟨rfl, rfl⟩
        · rw [e27, if_neg g27]
          have H := (if_neg g27).symm.trans H
          refine jv_aload_n 0 (pc := 30) d_IC_region_30 rfl ?_
          refine jv_getr (pc := 31) d_IC_region_31 fa_IC_11_IC (by decide) rfl rfl ?_
          refine jv_iload_n 1 (pc := 34) d_IC_region_34 rfl ?_
          obtain ⟨b35, H⟩ := jck_some H
          have p35 : x1.toNatClampNeg < 12 := jbo12 b35
          refine jv_aald (pc := 35) d_IC_region_35 (by decide) rfl b35 (jbo b35) ?_
          refine jv_iload_n 2 (pc := 36) d_IC_region_36 rfl ?_
          refine jv_iload_n 3 (pc := 37) d_IC_region_37 rfl ?_
          obtain ⟨v38, n38, c38, H⟩ := jbd_some H
          refine jv_callSi (sp_PT_codeRegion_R x1.toNatClampNeg x2 x3 p35 c38) (pc := 38) d_IC_region_38 c0_PT_codeRegion lk_IC_144 si_PT_codeRegion rfl (Nat.le_of_ble_eq_true rfl) ⟨by decide, by decide, by decide, by decide⟩ (fun r38 m38 h38 => ?_)
          obtain ⟨ha38, hb38⟩ := h38
          have ha38 := ha38.symm
          subst ha38
          have hb38 := hb38.symm
          subst hb38
          refine jv_iret (pc := 41) d_IC_region_41 rfl rfl (by decide) (by decide) ?_
          cases H
          exact ⟨rfl, rfl⟩
      · have h15 : (f_IC_within x2 (1 : Int32) (3 : Int32) n6) = 0 := h15
        have H := (if_pos h15).symm.trans H
        cases H
        exact jv_throw (pc := 18) 1 htr d_IC_region_18 d_IC_region_21 d_IC_region_22 d_IC_region_25 th_IC_72_74 rfl (Nat.le_of_ble_eq_true rfl) (by decide) (by decide) (by decide) (by decide) ⟨rfl, rfl⟩
    · cases H
      exact jv_callVX (sp_IC_refuseMissingBoard x1 htr c6) rfl (pc := 6) d_IC_region_6 c0_IC_refuseMissingBoard lm_IC_64 in_IC_refuseMissingBoard se_IC_refuseMissingBoard (by decide) rfl rfl rfl (Nat.le_of_ble_eq_true rfl) ⟨by decide, by decide, by decide, by decide⟩ ⟨rfl, rfl⟩
  · cases H
    exact jv_callVX (sp_IC_refuseIdle htr c1) rfl (pc := 1) d_IC_region_1 c0_IC_refuseIdle lm_IC_134 in_IC_refuseIdle se_IC_refuseIdle (by decide) rfl rfl rfl (Nat.le_of_ble_eq_true rfl) ⟨by decide, by decide, by decide, by decide⟩ ⟨rfl, rfl⟩
set_option maxRecDepth 40000 in
set_option maxHeartbeats 8000000 in
theorem sp_IC_refine {G : jG} {σ τ : jMem} {r : (Nat ⊕ Int32)} (x1 x2 x3 x4 : Int32) (htr : G.l.stackTraces = false) (H : f_IC_refine x1 x2 x3 x4 σ = some (r, τ)) : jSp G M_IC_refine (jr 7 4 24) [.ref 0, .int x1, .int x2, .int x3, .int x4] σ (fun o9 τ9 => o9 = jzi r ∧ τ9 = τ) := by
  refine jSp.of rfl rfl (Nat.le_of_ble_eq_true rfl) ?_
  show jV _ _ _ _ 0 0 0 [(0, .ref 0), (1, .int x1), (2, .int x2), (3, .int x3), (4, .int x4)] [] σ
  unfold f_IC_refine at H
  refine jv_aload_n 0 (pc := 0) d_IC_refine_0 rfl ?_
  rcases jbt_some H with ⟨v1, n1, c1, H⟩ | ⟨v1, n1, c1, H⟩
  · refine jv_callVv (jSp.tv (sp_IC_refuseIdle htr c1)) (pc := 1) d_IC_refine_1 c0_IC_refuseIdle lk_IC_134 in_IC_refuseIdle se_IC_refuseIdle (by decide) rfl rfl rfl (Nat.le_of_ble_eq_true rfl) ⟨by decide, by decide, by decide, by decide⟩ (fun m1 h1 => ?_)
    have hb1 := h1
    have hb1 := hb1.symm
    subst hb1
    refine jv_aload_n 0 (pc := 4) d_IC_refine_4 rfl ?_
    refine jv_iload_n 1 (pc := 5) d_IC_refine_5 rfl ?_
    rcases jbt_some H with ⟨v6, n6, c6, H⟩ | ⟨v6, n6, c6, H⟩
    · refine jv_callVv (jSp.tv (sp_IC_refuseMissingBoard x1 htr c6)) (pc := 6) d_IC_refine_6 c0_IC_refuseMissingBoard lk_IC_64 in_IC_refuseMissingBoard se_IC_refuseMissingBoard (by decide) rfl rfl rfl (Nat.le_of_ble_eq_true rfl) ⟨by decide, by decide, by decide, by decide⟩ (fun m6 h6 => ?_)
      have hb6 := h6
      have hb6 := hb6.symm
      subst hb6
      refine jv_aload_n 0 (pc := 9) d_IC_refine_9 rfl ?_
      refine jv_iload_n 2 (pc := 10) d_IC_refine_10 rfl ?_
      rcases jbt_some H with ⟨v11, n11, c11, H⟩ | ⟨v11, n11, c11, H⟩
      · refine jv_callVv (jSp.tv (sp_IC_refuseMissingBoard x2 htr c11)) (pc := 11) d_IC_refine_11 c0_IC_refuseMissingBoard lk_IC_64 in_IC_refuseMissingBoard se_IC_refuseMissingBoard (by decide) rfl rfl rfl (Nat.le_of_ble_eq_true rfl) ⟨by decide, by decide, by decide, by decide⟩ (fun m11 h11 => ?_)
        have hb11 := h11
        have hb11 := hb11.symm
        subst hb11
        refine jv_iload_n 1 (pc := 14) d_IC_refine_14 rfl ?_
        refine jv_iload_n 2 (pc := 15) d_IC_refine_15 rfl ?_
        refine jv_icmp_eq 34 (pc := 16) d_IC_refine_16 rfl (fun h16 => ?_) (fun h16 => ?_)
        · have h16 : x1 = x2 := h16
          have H := (if_pos h16).symm.trans H
          cases H
          exact jv_throw (pc := 34) 1 htr d_IC_refine_34 d_IC_refine_37 d_IC_refine_38 d_IC_refine_41 th_IC_72_74 rfl (Nat.le_of_ble_eq_true rfl) (by decide) (by decide) (by decide) (by decide) ⟨rfl, rfl⟩
        · have h16 : ¬ (x1 = x2) := h16
          have H := (if_neg h16).symm.trans H
          refine jv_iload_n 3 (pc := 19) d_IC_refine_19 rfl ?_
          refine jv_callSi (sp_IC_isShift x3) (pc := 20) d_IC_refine_20 c0_IC_isShift lk_IC_150 si_IC_isShift rfl (Nat.le_of_ble_eq_true rfl) ⟨by decide, by decide, by decide, by decide⟩ (fun r20 m20 h20 => ?_)
          obtain ⟨ha20, hb20⟩ := h20
          subst ha20
          have hb20 := hb20.symm
          subst hb20
          refine jv_if_eq 34 (pc := 23) d_IC_refine_23 rfl (fun h23 => ?_) (fun h23 => ?_)
          · have h23 : (f_IC_isShift x3 n11) = 0 := h23
            have H := (if_pos h23).symm.trans H
            cases H
            exact jv_throw (pc := 34) 1 htr d_IC_refine_34 d_IC_refine_37 d_IC_refine_38 d_IC_refine_41 th_IC_72_74 rfl (Nat.le_of_ble_eq_true rfl) (by decide) (by decide) (by decide) (by decide) ⟨rfl, rfl⟩
          · have h23 : ¬ ((f_IC_isShift x3 n11) = 0) := h23
            have H := (if_neg h23).symm.trans H
            refine jv_iload 4 (pc := 26) d_IC_refine_26 rfl ?_
            refine jv_callSi (sp_IC_isShift x4) (pc := 28) d_IC_refine_28 c0_IC_isShift lk_IC_150 si_IC_isShift rfl (Nat.le_of_ble_eq_true rfl) ⟨by decide, by decide, by decide, by decide⟩ (fun r28 m28 h28 => ?_)
            obtain ⟨ha28, hb28⟩ := h28
            subst ha28
            have hb28 := hb28.symm
            subst hb28
            refine jv_if_ne 42 (pc := 31) d_IC_refine_31 rfl (fun h31 => ?_) (fun h31 => ?_)
            · have h31 : ¬ ((f_IC_isShift x4 n11) = 0) := h31
              have H := (if_neg h31).symm.trans H
              refine jv_aload_n 0 (pc := 42) d_IC_refine_42 rfl ?_
              refine jv_callVa (sp_IC_coder) (pc := 43) d_IC_refine_43 c0_IC_coder lk_IC_140 in_IC_coder se_IC_coder (by decide) rfl rfl rfl (Nat.le_of_ble_eq_true rfl) ⟨by decide, by decide, by decide, by decide⟩ (fun r43 m43 h43 => ?_)
              obtain ⟨ha43, hb43⟩ := h43
              subst ha43
              have hb43 := hb43.symm
              subst hb43
              have e43 : f_IC_coder n11 = if n11 0 7 = 1 then 12 else 13 := rfl
              by_cases g43 : n11 0 7 = 1
              · rw [e43, if_pos g43]
                have H := (if_pos g43).symm.trans H
                refine jv_aload_n 0 (pc := 46) d_IC_refine_46 rfl ?_
                refine jv_getr (pc := 47) d_IC_refine_47 fa_IC_11_IC (by decide) rfl rfl ?_
                refine jv_iload_n 1 (pc := 50) d_IC_refine_50 rfl ?_
                obtain ⟨b51, H⟩ := jck_some H
                have p51 : x1.toNatClampNeg < 12 := jbo12 b51
                refine jv_aald (pc := 51) d_IC_refine_51 (by decide) rfl b51 (jbo b51) ?_
                refine jv_aload_n 0 (pc := 52) d_IC_refine_52 rfl ?_
                refine jv_getr (pc := 53) d_IC_refine_53 fa_IC_11_IC (by decide) rfl rfl ?_
                refine jv_iload_n 2 (pc := 56) d_IC_refine_56 rfl ?_
                obtain ⟨b57, H⟩ := jck_some H
                have p57 : x2.toNatClampNeg < 12 := jbo12 b57
                refine jv_aald (pc := 57) d_IC_refine_57 (by decide) rfl b57 (jbo b57) ?_
                refine jv_iload_n 3 (pc := 58) d_IC_refine_58 rfl ?_
                refine jv_iload 4 (pc := 59) d_IC_refine_59 rfl ?_
                obtain ⟨v61, n61, c61, H⟩ := jbd_some H
                refine jv_callSi (sp_PT_codeRefinement_W x1.toNatClampNeg x2.toNatClampNeg x3 x4 p51 p57 c61) (pc := 61) d_IC_refine_61 c0_PT_codeRefinement lk_IC_153 si_PT_codeRefinement rfl (Nat.le_of_ble_eq_true rfl) ⟨by decide, by decide, by decide, by decide⟩ (fun r61 m61 h61 => ?_)
                obtain ⟨ha61, hb61⟩ := h61
                have ha61 := ha61.symm
                subst ha61
                have hb61 := hb61.symm
                subst hb61
                refine jv_iret (pc := 64) d_IC_refine_64 rfl rfl (by decide) (by decide) ?_
                cases H
                exact ⟨rfl, rfl⟩
              · rw [e43, if_neg g43]
                have H := (if_neg g43).symm.trans H
                refine jv_aload_n 0 (pc := 46) d_IC_refine_46 rfl ?_
                refine jv_getr (pc := 47) d_IC_refine_47 fa_IC_11_IC (by decide) rfl rfl ?_
                refine jv_iload_n 1 (pc := 50) d_IC_refine_50 rfl ?_
                obtain ⟨b51, H⟩ := jck_some H
                have p51 : x1.toNatClampNeg < 12 := jbo12 b51
                refine jv_aald (pc := 51) d_IC_refine_51 (by decide) rfl b51 (jbo b51) ?_
                refine jv_aload_n 0 (pc := 52) d_IC_refine_52 rfl ?_
                refine jv_getr (pc := 53) d_IC_refine_53 fa_IC_11_IC (by decide) rfl rfl ?_
                refine jv_iload_n 2 (pc := 56) d_IC_refine_56 rfl ?_
                obtain ⟨b57, H⟩ := jck_some H
                have p57 : x2.toNatClampNeg < 12 := jbo12 b57
                refine jv_aald (pc := 57) d_IC_refine_57 (by decide) rfl b57 (jbo b57) ?_
                refine jv_iload_n 3 (pc := 58) d_IC_refine_58 rfl ?_
                refine jv_iload 4 (pc := 59) d_IC_refine_59 rfl ?_
                obtain ⟨v61, n61, c61, H⟩ := jbd_some H
                refine jv_callSi (sp_PT_codeRefinement_R x1.toNatClampNeg x2.toNatClampNeg x3 x4 p51 p57 c61) (pc := 61) d_IC_refine_61 c0_PT_codeRefinement lk_IC_153 si_PT_codeRefinement rfl (Nat.le_of_ble_eq_true rfl) ⟨by decide, by decide, by decide, by decide⟩ (fun r61 m61 h61 => ?_)
                obtain ⟨ha61, hb61⟩ := h61
                have ha61 := ha61.symm
                subst ha61
                have hb61 := hb61.symm
                subst hb61
                refine jv_iret (pc := 64) d_IC_refine_64 rfl rfl (by decide) (by decide) ?_
                cases H
                exact ⟨rfl, rfl⟩
            · have h31 : (f_IC_isShift x4 n11) = 0 := h31
              have H := (if_pos h31).symm.trans H
              cases H
              exact jv_throw (pc := 34) 1 htr d_IC_refine_34 d_IC_refine_37 d_IC_refine_38 d_IC_refine_41 th_IC_72_74 rfl (Nat.le_of_ble_eq_true rfl) (by decide) (by decide) (by decide) (by decide) ⟨rfl, rfl⟩
      · cases H
        exact jv_callVX (sp_IC_refuseMissingBoard x2 htr c11) rfl (pc := 11) d_IC_refine_11 c0_IC_refuseMissingBoard lm_IC_64 in_IC_refuseMissingBoard se_IC_refuseMissingBoard (by decide) rfl rfl rfl (Nat.le_of_ble_eq_true rfl) ⟨by decide, by decide, by decide, by decide⟩ ⟨rfl, rfl⟩
    · cases H
      exact jv_callVX (sp_IC_refuseMissingBoard x1 htr c6) rfl (pc := 6) d_IC_refine_6 c0_IC_refuseMissingBoard lm_IC_64 in_IC_refuseMissingBoard se_IC_refuseMissingBoard (by decide) rfl rfl rfl (Nat.le_of_ble_eq_true rfl) ⟨by decide, by decide, by decide, by decide⟩ ⟨rfl, rfl⟩
  · cases H
    exact jv_callVX (sp_IC_refuseIdle htr c1) rfl (pc := 1) d_IC_refine_1 c0_IC_refuseIdle lm_IC_134 in_IC_refuseIdle se_IC_refuseIdle (by decide) rfl rfl rfl (Nat.le_of_ble_eq_true rfl) ⟨by decide, by decide, by decide, by decide⟩ ⟨rfl, rfl⟩
set_option maxRecDepth 40000 in
set_option maxHeartbeats 8000000 in
theorem sp_IC_number {G : jG} {σ τ : jMem} {r : (Nat ⊕ Int32)} (x1 x2 : Int32) (htr : G.l.stackTraces = false) (H : f_IC_number x1 x2 σ = some (r, τ)) : jSp G M_IC_number (jr 7 2 12) [.ref 0, .int x1, .int x2] σ (fun o9 τ9 => o9 = jzi r ∧ τ9 = τ) := by
  refine jSp.of rfl rfl (Nat.le_of_ble_eq_true rfl) ?_
  show jV _ _ _ _ 0 0 0 [(0, .ref 0), (1, .int x1), (2, .int x2)] [] σ
  unfold f_IC_number at H
  refine jv_aload_n 0 (pc := 0) d_IC_number_0 rfl ?_
  rcases jbt_some H with ⟨v1, n1, c1, H⟩ | ⟨v1, n1, c1, H⟩
  · refine jv_callVv (jSp.tv (sp_IC_refuseIdle htr c1)) (pc := 1) d_IC_number_1 c0_IC_refuseIdle lk_IC_134 in_IC_refuseIdle se_IC_refuseIdle (by decide) rfl rfl rfl (Nat.le_of_ble_eq_true rfl) ⟨by decide, by decide, by decide, by decide⟩ (fun m1 h1 => ?_)
    have hb1 := h1
    have hb1 := hb1.symm
    subst hb1
    refine jv_iload_n 1 (pc := 4) d_IC_number_4 rfl ?_
    refine jv_iconst 0 (pc := 5) d_IC_number_5 rfl ?_
    refine jv_iconst 2 (pc := 6) d_IC_number_6 rfl ?_
    refine jv_callSi (sp_IC_within x1 (0 : Int32) (2 : Int32)) (pc := 7) d_IC_number_7 c0_IC_within lk_IC_97 si_IC_within rfl (Nat.le_of_ble_eq_true rfl) ⟨by decide, by decide, by decide, by decide⟩ (fun r7 m7 h7 => ?_)
    obtain ⟨ha7, hb7⟩ := h7
    subst ha7
    have hb7 := hb7.symm
    subst hb7
    refine jv_if_ne 21 (pc := 10) d_IC_number_10 rfl (fun h10 => ?_) (fun h10 => ?_)
    · have h10 : ¬ ((f_IC_within x1 (0 : Int32) (2 : Int32) n1) = 0) := h10
      have H := (if_neg h10).symm.trans H
      refine jv_aload_n 0 (pc := 21) d_IC_number_21 rfl ?_
      refine jv_geti (pc := 22) d_IC_number_22 fa_IC_60_IC (by decide) rfl rfl ?_
      refine jv_iconst 1 (pc := 25) d_IC_number_25 rfl ?_
      refine jv_icmp_ne 54 (pc := 26) d_IC_number_26 rfl (fun h26 => ?_) (fun h26 => ?_)
      · have h26 : ¬ ((n1 0 7) = (1 : Int32)) := h26
        have H := (if_neg h26).symm.trans H
        refine jv_aload_n 0 (pc := 54) d_IC_number_54 rfl ?_
        refine jv_callVa (sp_IC_coder) (pc := 55) d_IC_number_55 c0_IC_coder lk_IC_140 in_IC_coder se_IC_coder (by decide) rfl rfl rfl (Nat.le_of_ble_eq_true rfl) ⟨by decide, by decide, by decide, by decide⟩ (fun r55 m55 h55 => ?_)
        obtain ⟨ha55, hb55⟩ := h55
        subst ha55
        have hb55 := hb55.symm
        subst hb55
        have e55 : f_IC_coder n1 = if n1 0 7 = 1 then 12 else 13 := rfl
        by_cases g55 : n1 0 7 = 1
        · rw [e55, if_pos g55]
          have H := (if_pos g55).symm.trans H
          refine jv_iload_n 1 (pc := 58) d_IC_number_58 rfl ?_
          refine jv_iload_n 2 (pc := 59) d_IC_number_59 rfl ?_
          obtain ⟨v60, n60, c60, H⟩ := jbd_some H
          refine jv_callSi (sp_NU_codeNumber_W x1 x2 c60) (pc := 60) d_IC_number_60 c0_NU_codeNumber lk_IC_160 si_NU_codeNumber rfl (Nat.le_of_ble_eq_true rfl) ⟨by decide, by decide, by decide, by decide⟩ (fun r60 m60 h60 => ?_)
          obtain ⟨ha60, hb60⟩ := h60
          have ha60 := ha60.symm
          subst ha60
          have hb60 := hb60.symm
          subst hb60
          refine jv_iret (pc := 63) d_IC_number_63 rfl rfl (by decide) (by decide) ?_
          cases H
          exact ⟨rfl, rfl⟩
        · rw [e55, if_neg g55]
          have H := (if_neg g55).symm.trans H
          refine jv_iload_n 1 (pc := 58) d_IC_number_58 rfl ?_
          refine jv_iload_n 2 (pc := 59) d_IC_number_59 rfl ?_
          obtain ⟨v60, n60, c60, H⟩ := jbd_some H
          refine jv_callSi (sp_NU_codeNumber_R x1 x2 c60) (pc := 60) d_IC_number_60 c0_NU_codeNumber lk_IC_160 si_NU_codeNumber rfl (Nat.le_of_ble_eq_true rfl) ⟨by decide, by decide, by decide, by decide⟩ (fun r60 m60 h60 => ?_)
          obtain ⟨ha60, hb60⟩ := h60
          have ha60 := ha60.symm
          subst ha60
          have hb60 := hb60.symm
          subst hb60
          refine jv_iret (pc := 63) d_IC_number_63 rfl rfl (by decide) (by decide) ?_
          cases H
          exact ⟨rfl, rfl⟩
      · have h26 : (n1 0 7) = (1 : Int32) := h26
        have H := (if_pos h26).symm.trans H
        refine jv_iload_n 2 (pc := 29) d_IC_number_29 rfl ?_
        refine jv_ldc (-2147483648) (pc := 30) d_IC_number_30 (jin3 99 rfl rfl) ?_
        refine jv_icmp_eq 54 (pc := 32) d_IC_number_32 rfl (fun h32 => ?_) (fun h32 => ?_)
        · have h32 : x2 = (-2147483648 : Int32) := h32
          have H := (if_pos h32).symm.trans H
          refine jv_aload_n 0 (pc := 54) d_IC_number_54 rfl ?_
          refine jv_callVa (sp_IC_coder) (pc := 55) d_IC_number_55 c0_IC_coder lk_IC_140 in_IC_coder se_IC_coder (by decide) rfl rfl rfl (Nat.le_of_ble_eq_true rfl) ⟨by decide, by decide, by decide, by decide⟩ (fun r55 m55 h55 => ?_)
          obtain ⟨ha55, hb55⟩ := h55
          subst ha55
          have hb55 := hb55.symm
          subst hb55
          have e55 : f_IC_coder n1 = if n1 0 7 = 1 then 12 else 13 := rfl
          by_cases g55 : n1 0 7 = 1
          · rw [e55, if_pos g55]
            have H := (if_pos g55).symm.trans H
            refine jv_iload_n 1 (pc := 58) d_IC_number_58 rfl ?_
            refine jv_iload_n 2 (pc := 59) d_IC_number_59 rfl ?_
            obtain ⟨v60, n60, c60, H⟩ := jbd_some H
            refine jv_callSi (sp_NU_codeNumber_W x1 x2 c60) (pc := 60) d_IC_number_60 c0_NU_codeNumber lk_IC_160 si_NU_codeNumber rfl (Nat.le_of_ble_eq_true rfl) ⟨by decide, by decide, by decide, by decide⟩ (fun r60 m60 h60 => ?_)
            obtain ⟨ha60, hb60⟩ := h60
            have ha60 := ha60.symm
            subst ha60
            have hb60 := hb60.symm
            subst hb60
            refine jv_iret (pc := 63) d_IC_number_63 rfl rfl (by decide) (by decide) ?_
            cases H
            exact ⟨rfl, rfl⟩
          · rw [e55, if_neg g55]
            have H := (if_neg g55).symm.trans H
            refine jv_iload_n 1 (pc := 58) d_IC_number_58 rfl ?_
            refine jv_iload_n 2 (pc := 59) d_IC_number_59 rfl ?_
            obtain ⟨v60, n60, c60, H⟩ := jbd_some H
            refine jv_callSi (sp_NU_codeNumber_R x1 x2 c60) (pc := 60) d_IC_number_60 c0_NU_codeNumber lk_IC_160 si_NU_codeNumber rfl (Nat.le_of_ble_eq_true rfl) ⟨by decide, by decide, by decide, by decide⟩ (fun r60 m60 h60 => ?_)
            obtain ⟨ha60, hb60⟩ := h60
            have ha60 := ha60.symm
            subst ha60
            have hb60 := hb60.symm
            subst hb60
            refine jv_iret (pc := 63) d_IC_number_63 rfl rfl (by decide) (by decide) ?_
            cases H
            exact ⟨rfl, rfl⟩
        · have h32 : ¬ (x2 = (-2147483648 : Int32)) := h32
          have H := (if_neg h32).symm.trans H
          refine jv_iload_n 2 (pc := 35) d_IC_number_35 rfl ?_
          refine jv_ldc (-1000000) (pc := 36) d_IC_number_36 (jin3 100 rfl rfl) ?_
          refine jv_ldc (1000000) (pc := 38) d_IC_number_38 (jin3 101 rfl rfl) ?_
          refine jv_callSi (sp_IC_within x2 (-1000000 : Int32) (1000000 : Int32)) (pc := 40) d_IC_number_40 c0_IC_within lk_IC_97 si_IC_within rfl (Nat.le_of_ble_eq_true rfl) ⟨by decide, by decide, by decide, by decide⟩ (fun r40 m40 h40 => ?_)
          obtain ⟨ha40, hb40⟩ := h40
          subst ha40
          have hb40 := hb40.symm
          subst hb40
          refine jv_if_ne 54 (pc := 43) d_IC_number_43 rfl (fun h43 => ?_) (fun h43 => ?_)
          · have h43 : ¬ ((f_IC_within x2 (-1000000 : Int32) (1000000 : Int32) n1) = 0) := h43
            have H := (if_neg h43).symm.trans H
            refine jv_aload_n 0 (pc := 54) d_IC_number_54 rfl ?_
            refine jv_callVa (sp_IC_coder) (pc := 55) d_IC_number_55 c0_IC_coder lk_IC_140 in_IC_coder se_IC_coder (by decide) rfl rfl rfl (Nat.le_of_ble_eq_true rfl) ⟨by decide, by decide, by decide, by decide⟩ (fun r55 m55 h55 => ?_)
            obtain ⟨ha55, hb55⟩ := h55
            subst ha55
            have hb55 := hb55.symm
            subst hb55
            have e55 : f_IC_coder n1 = if n1 0 7 = 1 then 12 else 13 := rfl
            by_cases g55 : n1 0 7 = 1
            · rw [e55, if_pos g55]
              have H := (if_pos g55).symm.trans H
              refine jv_iload_n 1 (pc := 58) d_IC_number_58 rfl ?_
              refine jv_iload_n 2 (pc := 59) d_IC_number_59 rfl ?_
              obtain ⟨v60, n60, c60, H⟩ := jbd_some H
              refine jv_callSi (sp_NU_codeNumber_W x1 x2 c60) (pc := 60) d_IC_number_60 c0_NU_codeNumber lk_IC_160 si_NU_codeNumber rfl (Nat.le_of_ble_eq_true rfl) ⟨by decide, by decide, by decide, by decide⟩ (fun r60 m60 h60 => ?_)
              obtain ⟨ha60, hb60⟩ := h60
              have ha60 := ha60.symm
              subst ha60
              have hb60 := hb60.symm
              subst hb60
              refine jv_iret (pc := 63) d_IC_number_63 rfl rfl (by decide) (by decide) ?_
              cases H
              exact ⟨rfl, rfl⟩
            · rw [e55, if_neg g55]
              have H := (if_neg g55).symm.trans H
              refine jv_iload_n 1 (pc := 58) d_IC_number_58 rfl ?_
              refine jv_iload_n 2 (pc := 59) d_IC_number_59 rfl ?_
              obtain ⟨v60, n60, c60, H⟩ := jbd_some H
              refine jv_callSi (sp_NU_codeNumber_R x1 x2 c60) (pc := 60) d_IC_number_60 c0_NU_codeNumber lk_IC_160 si_NU_codeNumber rfl (Nat.le_of_ble_eq_true rfl) ⟨by decide, by decide, by decide, by decide⟩ (fun r60 m60 h60 => ?_)
              obtain ⟨ha60, hb60⟩ := h60
              have ha60 := ha60.symm
              subst ha60
              have hb60 := hb60.symm
              subst hb60
              refine jv_iret (pc := 63) d_IC_number_63 rfl rfl (by decide) (by decide) ?_
              cases H
              exact ⟨rfl, rfl⟩
          · have h43 : (f_IC_within x2 (-1000000 : Int32) (1000000 : Int32) n1) = 0 := h43
            have H := (if_pos h43).symm.trans H
            cases H
            exact jv_throw (pc := 46) 1 htr d_IC_number_46 d_IC_number_49 d_IC_number_50 d_IC_number_53 th_IC_72_74 rfl (Nat.le_of_ble_eq_true rfl) (by decide) (by decide) (by decide) (by decide) ⟨rfl, rfl⟩
    · have h10 : (f_IC_within x1 (0 : Int32) (2 : Int32) n1) = 0 := h10
      have H := (if_pos h10).symm.trans H
      cases H
      exact jv_throw (pc := 13) 0 htr d_IC_number_13 d_IC_number_16 d_IC_number_17 d_IC_number_20 th_IC_83_85 rfl (Nat.le_of_ble_eq_true rfl) (by decide) (by decide) (by decide) (by decide) ⟨rfl, rfl⟩
  · cases H
    exact jv_callVX (sp_IC_refuseIdle htr c1) rfl (pc := 1) d_IC_number_1 c0_IC_refuseIdle lm_IC_134 in_IC_refuseIdle se_IC_refuseIdle (by decide) rfl rfl rfl (Nat.le_of_ble_eq_true rfl) ⟨by decide, by decide, by decide, by decide⟩ ⟨rfl, rfl⟩
set_option maxRecDepth 40000 in
set_option maxHeartbeats 8000000 in
theorem sp_IC_learn {G : jG} {σ τ : jMem} {r : (Nat ⊕ Int32)} (x1 : Int32) (htr : G.l.stackTraces = false) (H : f_IC_learn x1 σ = some (r, τ)) : jSp G M_IC_learn (jr 7 2 12) [.ref 0, .int x1] σ (fun o9 τ9 => o9 = jzi r ∧ τ9 = τ) := by
  refine jSp.of rfl rfl (Nat.le_of_ble_eq_true rfl) ?_
  show jV _ _ _ _ 0 0 0 [(0, .ref 0), (1, .int x1)] [] σ
  unfold f_IC_learn at H
  refine jv_aload_n 0 (pc := 0) d_IC_learn_0 rfl ?_
  refine jv_iload_n 1 (pc := 1) d_IC_learn_1 rfl ?_
  rcases jbt_some H with ⟨v2, n2, c2, H⟩ | ⟨v2, n2, c2, H⟩
  · refine jv_callVv (jSp.tv (sp_IC_refuseMissingBoard x1 htr c2)) (pc := 2) d_IC_learn_2 c0_IC_refuseMissingBoard lk_IC_64 in_IC_refuseMissingBoard se_IC_refuseMissingBoard (by decide) rfl rfl rfl (Nat.le_of_ble_eq_true rfl) ⟨by decide, by decide, by decide, by decide⟩ (fun m2 h2 => ?_)
    have hb2 := h2
    have hb2 := hb2.symm
    subst hb2
    refine jv_aload_n 0 (pc := 5) d_IC_learn_5 rfl ?_
    refine jv_getr (pc := 6) d_IC_learn_6 fa_IC_19_IC (by decide) rfl rfl ?_
    refine jv_geti (pc := 9) d_IC_learn_9 fa_IC_166_SR (by decide) rfl rfl ?_
    refine jv_bipush (8) (pc := 12) d_IC_learn_12 rfl ?_
    refine jv_icmp_ne 25 (pc := 14) d_IC_learn_14 rfl (fun h14 => ?_) (fun h14 => ?_)
    · have h14 : ¬ ((n2 2 1) = (8 : Int32)) := h14
      have H := (if_neg h14).symm.trans H
      refine jv_aload_n 0 (pc := 25) d_IC_learn_25 rfl ?_
      refine jv_getr (pc := 26) d_IC_learn_26 fa_IC_19_IC (by decide) rfl rfl ?_
      refine jv_getr (pc := 29) d_IC_learn_29 fa_IC_170_SR (by decide) rfl rfl ?_
      refine jv_aload_n 0 (pc := 32) d_IC_learn_32 rfl ?_
      refine jv_getr (pc := 33) d_IC_learn_33 fa_IC_19_IC (by decide) rfl rfl ?_
      refine jv_geti (pc := 36) d_IC_learn_36 fa_IC_166_SR (by decide) rfl rfl ?_
      obtain ⟨b39, H⟩ := jck_some H
      have p39 : (4 + (n2 2 1).toNatClampNeg) < 12 := jsy12 b39
      refine jv_aald (pc := 39) d_IC_learn_39 (by decide) rfl b39 (jsy b39) ?_
      refine jv_aload_n 0 (pc := 40) d_IC_learn_40 rfl ?_
      refine jv_getr (pc := 41) d_IC_learn_41 fa_IC_11_IC (by decide) rfl rfl ?_
      refine jv_iload_n 1 (pc := 44) d_IC_learn_44 rfl ?_
      obtain ⟨b45, H⟩ := jck_some H
      have p45 : x1.toNatClampNeg < 12 := jbo12 b45
      refine jv_aald (pc := 45) d_IC_learn_45 (by decide) rfl b45 (jbo b45) ?_
      obtain ⟨_, n46, c46, H⟩ := jbd_some H
      refine jv_callVv (sp_PI_copy (4 + (n2 2 1).toNatClampNeg) x1.toNatClampNeg p39 p45 c46) (pc := 46) d_IC_learn_46 c0_PI_copy lk_IC_173 in_PI_copy se_PI_copy (show 14 + 2 * (4 + (n2 2 1).toNatClampNeg) < jN by unfold jN; omega) (jshp_pic p39) rfl rfl (Nat.le_of_ble_eq_true rfl) ⟨by decide, by decide, by decide, by decide⟩ (fun m46 h46 => ?_)
      have hb46 := h46
      have hb46 := hb46.symm
      subst hb46
      refine jv_aload_n 0 (pc := 49) d_IC_learn_49 rfl ?_
      refine jv_getr (pc := 50) d_IC_learn_50 fa_IC_19_IC (by decide) rfl rfl ?_
      refine jv_dup (pc := 53) d_IC_learn_53 rfl ?_
      refine jv_geti (pc := 54) d_IC_learn_54 fa_IC_166_SR (by decide) rfl rfl ?_
      refine jv_iconst 1 (pc := 57) d_IC_learn_57 rfl ?_
      refine jv_iadd (pc := 58) d_IC_learn_58 ?_
      refine jv_puti (pc := 59) d_IC_learn_59 fa_IC_166_SR fp_SR_1 (by decide) rfl rfl rfl rfl ?_
      refine jv_aload_n 0 (pc := 62) d_IC_learn_62 rfl ?_
      refine jv_getr (pc := 63) d_IC_learn_63 fa_IC_19_IC (by decide) rfl rfl ?_
      refine jv_geti (pc := 66) d_IC_learn_66 fa_IC_166_SR (by decide) rfl rfl ?_
      refine jv_iconst 1 (pc := 69) d_IC_learn_69 rfl ?_
      refine jv_isub (pc := 70) d_IC_learn_70 ?_
      refine jv_iret (pc := 71) d_IC_learn_71 rfl rfl (by decide) (by decide) ?_
      cases H
      exact ⟨rfl, rfl⟩
    · have h14 : (n2 2 1) = (8 : Int32) := h14
      have H := (if_pos h14).symm.trans H
      cases H
      exact jv_throw (pc := 17) 3 htr d_IC_learn_17 d_IC_learn_20 d_IC_learn_21 d_IC_learn_24 th_IC_167_169 rfl (Nat.le_of_ble_eq_true rfl) (by decide) (by decide) (by decide) (by decide) ⟨rfl, rfl⟩
  · cases H
    exact jv_callVX (sp_IC_refuseMissingBoard x1 htr c2) rfl (pc := 2) d_IC_learn_2 c0_IC_refuseMissingBoard lm_IC_64 in_IC_refuseMissingBoard se_IC_refuseMissingBoard (by decide) rfl rfl rfl (Nat.le_of_ble_eq_true rfl) ⟨by decide, by decide, by decide, by decide⟩ ⟨rfl, rfl⟩
set_option maxRecDepth 40000 in
set_option maxHeartbeats 8000000 in
theorem sp_IC_mark {G : jG} {σ τ : jMem} {r : (Nat ⊕ Int32)} (x1 x2 x3 : Int32) (htr : G.l.stackTraces = false) (H : f_IC_mark x1 x2 x3 σ = some (r, τ)) : jSp G M_IC_mark (jr 7 2 12) [.ref 0, .int x1, .int x2, .int x3] σ (fun o9 τ9 => o9 = jzi r ∧ τ9 = τ) := by
  refine jSp.of rfl rfl (Nat.le_of_ble_eq_true rfl) ?_
  show jV _ _ _ _ 0 0 0 [(0, .ref 0), (1, .int x1), (2, .int x2), (3, .int x3)] [] σ
  unfold f_IC_mark at H
  refine jv_aload_n 0 (pc := 0) d_IC_mark_0 rfl ?_
  refine jv_iload_n 1 (pc := 1) d_IC_mark_1 rfl ?_
  rcases jbt_some H with ⟨v2, n2, c2, H⟩ | ⟨v2, n2, c2, H⟩
  · refine jv_callVv (jSp.tv (sp_IC_refuseMissingSymbol x1 htr c2)) (pc := 2) d_IC_mark_2 c0_IC_refuseMissingSymbol lk_IC_178 in_IC_refuseMissingSymbol se_IC_refuseMissingSymbol (by decide) rfl rfl rfl (Nat.le_of_ble_eq_true rfl) ⟨by decide, by decide, by decide, by decide⟩ (fun m2 h2 => ?_)
    have hb2 := h2
    have hb2 := hb2.symm
    subst hb2
    refine jv_iload_n 2 (pc := 5) d_IC_mark_5 rfl ?_
    refine jv_callSi (sp_IC_isPlace x2) (pc := 6) d_IC_mark_6 c0_IC_isPlace lk_IC_101 si_IC_isPlace rfl (Nat.le_of_ble_eq_true rfl) ⟨by decide, by decide, by decide, by decide⟩ (fun r6 m6 h6 => ?_)
    obtain ⟨ha6, hb6⟩ := h6
    subst ha6
    have hb6 := hb6.symm
    subst hb6
    refine jv_if_eq 30 (pc := 9) d_IC_mark_9 rfl (fun h9 => ?_) (fun h9 => ?_)
    · have h9 : (f_IC_isPlace x2 n2) = 0 := h9
      have H := (if_pos h9).symm.trans H
      cases H
      exact jv_throw (pc := 30) 1 htr d_IC_mark_30 d_IC_mark_33 d_IC_mark_34 d_IC_mark_37 th_IC_72_74 rfl (Nat.le_of_ble_eq_true rfl) (by decide) (by decide) (by decide) (by decide) ⟨rfl, rfl⟩
    · have h9 : ¬ ((f_IC_isPlace x2 n2) = 0) := h9
      have H := (if_neg h9).symm.trans H
      refine jv_iload_n 3 (pc := 12) d_IC_mark_12 rfl ?_
      refine jv_callSi (sp_IC_isPlace x3) (pc := 13) d_IC_mark_13 c0_IC_isPlace lk_IC_101 si_IC_isPlace rfl (Nat.le_of_ble_eq_true rfl) ⟨by decide, by decide, by decide, by decide⟩ (fun r13 m13 h13 => ?_)
      obtain ⟨ha13, hb13⟩ := h13
      subst ha13
      have hb13 := hb13.symm
      subst hb13
      refine jv_if_eq 30 (pc := 16) d_IC_mark_16 rfl (fun h16 => ?_) (fun h16 => ?_)
      · have h16 : (f_IC_isPlace x3 n2) = 0 := h16
        have H := (if_pos h16).symm.trans H
        cases H
        exact jv_throw (pc := 30) 1 htr d_IC_mark_30 d_IC_mark_33 d_IC_mark_34 d_IC_mark_37 th_IC_72_74 rfl (Nat.le_of_ble_eq_true rfl) (by decide) (by decide) (by decide) (by decide) ⟨rfl, rfl⟩
      · have h16 : ¬ ((f_IC_isPlace x3 n2) = 0) := h16
        have H := (if_neg h16).symm.trans H
        refine jv_aload_n 0 (pc := 19) d_IC_mark_19 rfl ?_
        refine jv_getr (pc := 20) d_IC_mark_20 fa_IC_26_IC (by decide) rfl rfl ?_
        refine jv_iload_n 3 (pc := 23) d_IC_mark_23 rfl ?_
        obtain ⟨v24, n24, c24, H⟩ := jbd_some H
        refine jv_callVi (sp_MR_endsBehind x3 c24) (pc := 24) d_IC_mark_24 c0_MR_endsBehind lk_IC_181 in_MR_endsBehind se_MR_endsBehind (by decide) rfl rfl rfl (Nat.le_of_ble_eq_true rfl) ⟨by decide, by decide, by decide, by decide⟩ (fun r24 m24 h24 => ?_)
        obtain ⟨ha24, hb24⟩ := h24
        have ha24 := ha24.symm
        subst ha24
        have hb24 := hb24.symm
        subst hb24
        refine jv_if_eq 38 (pc := 27) d_IC_mark_27 rfl (fun h27 => ?_) (fun h27 => ?_)
        · have h27 : v24 = 0 := h27
          have H := (if_pos h27).symm.trans H
          refine jv_aload_n 0 (pc := 38) d_IC_mark_38 rfl ?_
          refine jv_getr (pc := 39) d_IC_mark_39 fa_IC_26_IC (by decide) rfl rfl ?_
          refine jv_geti (pc := 42) d_IC_mark_42 fa_IC_177_MR (by decide) rfl rfl ?_
          refine jv_bipush (12) (pc := 45) d_IC_mark_45 rfl ?_
          refine jv_icmp_ne 58 (pc := 47) d_IC_mark_47 rfl (fun h47 => ?_) (fun h47 => ?_)
          · have h47 : ¬ ((n24 4 3) = (12 : Int32)) := h47
            have H := (if_neg h47).symm.trans H
            refine jv_aload_n 0 (pc := 58) d_IC_mark_58 rfl ?_
            refine jv_getr (pc := 59) d_IC_mark_59 fa_IC_26_IC (by decide) rfl rfl ?_
            refine jv_aload_n 0 (pc := 62) d_IC_mark_62 rfl ?_
            refine jv_getr (pc := 63) d_IC_mark_63 fa_IC_26_IC (by decide) rfl rfl ?_
            refine jv_geti (pc := 66) d_IC_mark_66 fa_IC_177_MR (by decide) rfl rfl ?_
            refine jv_iload_n 1 (pc := 69) d_IC_mark_69 rfl ?_
            refine jv_iload_n 2 (pc := 70) d_IC_mark_70 rfl ?_
            refine jv_iload_n 3 (pc := 71) d_IC_mark_71 rfl ?_
            obtain ⟨_, n72, c72, H⟩ := jbd_some H
            refine jv_callVv (sp_MR_set (n24 4 3) x1 x2 x3 c72) (pc := 72) d_IC_mark_72 c0_MR_set lk_IC_184 in_MR_set se_MR_set (by decide) rfl rfl rfl (Nat.le_of_ble_eq_true rfl) ⟨by decide, by decide, by decide, by decide⟩ (fun m72 h72 => ?_)
            have hb72 := h72
            have hb72 := hb72.symm
            subst hb72
            refine jv_aload_n 0 (pc := 75) d_IC_mark_75 rfl ?_
            refine jv_getr (pc := 76) d_IC_mark_76 fa_IC_26_IC (by decide) rfl rfl ?_
            refine jv_dup (pc := 79) d_IC_mark_79 rfl ?_
            refine jv_geti (pc := 80) d_IC_mark_80 fa_IC_177_MR (by decide) rfl rfl ?_
            refine jv_iconst 1 (pc := 83) d_IC_mark_83 rfl ?_
            refine jv_iadd (pc := 84) d_IC_mark_84 ?_
            refine jv_puti (pc := 85) d_IC_mark_85 fa_IC_177_MR fp_MR_3 (by decide) rfl rfl rfl rfl ?_
            refine jv_aload_n 0 (pc := 88) d_IC_mark_88 rfl ?_
            refine jv_getr (pc := 89) d_IC_mark_89 fa_IC_26_IC (by decide) rfl rfl ?_
            refine jv_geti (pc := 92) d_IC_mark_92 fa_IC_177_MR (by decide) rfl rfl ?_
            refine jv_iret (pc := 95) d_IC_mark_95 rfl rfl (by decide) (by decide) ?_
            cases H
            exact ⟨rfl, rfl⟩
          · have h47 : (n24 4 3) = (12 : Int32) := h47
            have H := (if_pos h47).symm.trans H
            cases H
            exact jv_throw (pc := 50) 3 htr d_IC_mark_50 d_IC_mark_53 d_IC_mark_54 d_IC_mark_57 th_IC_167_169 rfl (Nat.le_of_ble_eq_true rfl) (by decide) (by decide) (by decide) (by decide) ⟨rfl, rfl⟩
        · have h27 : ¬ (v24 = 0) := h27
          have H := (if_neg h27).symm.trans H
          cases H
          exact jv_throw (pc := 30) 1 htr d_IC_mark_30 d_IC_mark_33 d_IC_mark_34 d_IC_mark_37 th_IC_72_74 rfl (Nat.le_of_ble_eq_true rfl) (by decide) (by decide) (by decide) (by decide) ⟨rfl, rfl⟩
  · cases H
    exact jv_callVX (sp_IC_refuseMissingSymbol x1 htr c2) rfl (pc := 2) d_IC_mark_2 c0_IC_refuseMissingSymbol lm_IC_178 in_IC_refuseMissingSymbol se_IC_refuseMissingSymbol (by decide) rfl rfl rfl (Nat.le_of_ble_eq_true rfl) ⟨by decide, by decide, by decide, by decide⟩ ⟨rfl, rfl⟩
set_option maxRecDepth 40000 in
set_option maxHeartbeats 8000000 in
theorem sp_IC_symbol {G : jG} {σ τ : jMem} {r : (Nat ⊕ Int32)} (x1 x2 x3 : Int32) (htr : G.l.stackTraces = false) (H : f_IC_symbol x1 x2 x3 σ = some (r, τ)) : jSp G M_IC_symbol (jr 7 2 12) [.ref 0, .int x1, .int x2, .int x3] σ (fun o9 τ9 => o9 = jzi r ∧ τ9 = τ) := by
  refine jSp.of rfl rfl (Nat.le_of_ble_eq_true rfl) ?_
  show jV _ _ _ _ 0 0 0 [(0, .ref 0), (1, .int x1), (2, .int x2), (3, .int x3)] [] σ
  unfold f_IC_symbol at H
  refine jv_aload_n 0 (pc := 0) d_IC_symbol_0 rfl ?_
  refine jv_iload_n 1 (pc := 1) d_IC_symbol_1 rfl ?_
  rcases jbt_some H with ⟨v2, n2, c2, H⟩ | ⟨v2, n2, c2, H⟩
  · refine jv_callVv (jSp.tv (sp_IC_refuseMissingSymbol x1 htr c2)) (pc := 2) d_IC_symbol_2 c0_IC_refuseMissingSymbol lk_IC_178 in_IC_refuseMissingSymbol se_IC_refuseMissingSymbol (by decide) rfl rfl rfl (Nat.le_of_ble_eq_true rfl) ⟨by decide, by decide, by decide, by decide⟩ (fun m2 h2 => ?_)
    have hb2 := h2
    have hb2 := hb2.symm
    subst hb2
    refine jv_aload_n 0 (pc := 5) d_IC_symbol_5 rfl ?_
    refine jv_getr (pc := 6) d_IC_symbol_6 fa_IC_19_IC (by decide) rfl rfl ?_
    refine jv_getr (pc := 9) d_IC_symbol_9 fa_IC_170_SR (by decide) rfl rfl ?_
    refine jv_iload_n 1 (pc := 12) d_IC_symbol_12 rfl ?_
    obtain ⟨b13, H⟩ := jck_some H
    have p13 : (4 + x1.toNatClampNeg) < 12 := jsy12 b13
    refine jv_aald (pc := 13) d_IC_symbol_13 (by decide) rfl b13 (jsy b13) ?_
    refine jv_astore (pc := 14) d_IC_symbol_14 (by decide) (jsto_new rfl) ?_
    refine jv_iload_n 3 (pc := 16) d_IC_symbol_16 rfl ?_
    refine jv_iconst (-1) (pc := 17) d_IC_symbol_17 rfl ?_
    refine jv_icmp_ne 27 (pc := 18) d_IC_symbol_18 rfl (fun h18 => ?_) (fun h18 => ?_)
    · have h18 : ¬ (x2 = (-1 : Int32)) := h18
      have H := (if_neg h18).symm.trans H
      refine jv_iload_n 3 (pc := 27) d_IC_symbol_27 rfl ?_
      refine jv_bipush (-2) (pc := 28) d_IC_symbol_28 rfl ?_
      refine jv_icmp_ne 39 (pc := 30) d_IC_symbol_30 rfl (fun h30 => ?_) (fun h30 => ?_)
      · have h30 : ¬ (x2 = (-2 : Int32)) := h30
        have H := (if_neg h30).symm.trans H
        refine jv_aload 0 (pc := 39) d_IC_symbol_39 rfl ?_
        refine jv_iload_n 3 (pc := 41) d_IC_symbol_41 rfl ?_
        refine jv_iload_n 4 (pc := 42) d_IC_symbol_42 rfl ?_
        obtain ⟨v43, n43, c43, H⟩ := jbd_some H
        refine jv_callVi (sp_PI_has (4 + x1.toNatClampNeg) x2 x3 p13 c43) (pc := 43) d_IC_symbol_43 c0_PI_has lk_IC_79 in_PI_has se_PI_has (show 14 + 2 * (4 + x1.toNatClampNeg) < jN by unfold jN; omega) (jshp_pic p13) rfl rfl (Nat.le_of_ble_eq_true rfl) ⟨by decide, by decide, by decide, by decide⟩ (fun r43 m43 h43 => ?_)
        obtain ⟨ha43, hb43⟩ := h43
        have ha43 := ha43.symm
        subst ha43
        have hb43 := hb43.symm
        subst hb43
        refine jv_if_ne 57 (pc := 46) d_IC_symbol_46 rfl (fun h46 => ?_) (fun h46 => ?_)
        · have h46 : ¬ (v43 = 0) := h46
          have H := (if_neg h46).symm.trans H
          refine jv_aload 0 (pc := 57) d_IC_symbol_57 rfl ?_
          refine jv_iload_n 3 (pc := 59) d_IC_symbol_59 rfl ?_
          refine jv_iload_n 4 (pc := 60) d_IC_symbol_60 rfl ?_
          obtain ⟨v61, n61, c61, H⟩ := jbd_some H
          refine jv_callVi (sp_PI_at (4 + x1.toNatClampNeg) x2 x3 p13 c61) (pc := 61) d_IC_symbol_61 c0_PI_at lk_IC_86 in_PI_at se_PI_at (show 14 + 2 * (4 + x1.toNatClampNeg) < jN by unfold jN; omega) (jshp_pic p13) rfl rfl (Nat.le_of_ble_eq_true rfl) ⟨by decide, by decide, by decide, by decide⟩ (fun r61 m61 h61 => ?_)
          obtain ⟨ha61, hb61⟩ := h61
          have ha61 := ha61.symm
          subst ha61
          have hb61 := hb61.symm
          subst hb61
          refine jv_iret (pc := 64) d_IC_symbol_64 rfl rfl (by decide) (by decide) ?_
          cases H
          exact ⟨rfl, rfl⟩
        · have h46 : v43 = 0 := h46
          have H := (if_pos h46).symm.trans H
          cases H
          exact jv_throw (pc := 49) 0 htr d_IC_symbol_49 d_IC_symbol_52 d_IC_symbol_53 d_IC_symbol_56 th_IC_83_85 rfl (Nat.le_of_ble_eq_true rfl) (by decide) (by decide) (by decide) (by decide) ⟨rfl, rfl⟩
      · have h30 : x2 = (-2 : Int32) := h30
        have H := (if_pos h30).symm.trans H
        refine jv_aload 0 (pc := 33) d_IC_symbol_33 rfl ?_
        refine jv_geti (pc := 35) d_IC_symbol_35 fa_IC_115_PI (show 14 + 2 * (4 + x1.toNatClampNeg) < jN by unfold jN; omega) (jshp_pic p13) rfl ?_
        refine jv_iret (pc := 38) d_IC_symbol_38 rfl rfl (by decide) (by decide) ?_
        cases H
        exact ⟨rfl, rfl⟩
    · have h18 : x2 = (-1 : Int32) := h18
      have H := (if_pos h18).symm.trans H
      refine jv_aload 0 (pc := 21) d_IC_symbol_21 rfl ?_
      refine jv_geti (pc := 23) d_IC_symbol_23 fa_IC_112_PI (show 14 + 2 * (4 + x1.toNatClampNeg) < jN by unfold jN; omega) (jshp_pic p13) rfl ?_
      refine jv_iret (pc := 26) d_IC_symbol_26 rfl rfl (by decide) (by decide) ?_
      cases H
      exact ⟨rfl, rfl⟩
  · cases H
    exact jv_callVX (sp_IC_refuseMissingSymbol x1 htr c2) rfl (pc := 2) d_IC_symbol_2 c0_IC_refuseMissingSymbol lm_IC_178 in_IC_refuseMissingSymbol se_IC_refuseMissingSymbol (by decide) rfl rfl rfl (Nat.le_of_ble_eq_true rfl) ⟨by decide, by decide, by decide, by decide⟩ ⟨rfl, rfl⟩
set_option maxRecDepth 40000 in
set_option maxHeartbeats 8000000 in
theorem sp_IC_marked {G : jG} {σ τ : jMem} {r : (Nat ⊕ Int32)} (x1 x2 : Int32) (htr : G.l.stackTraces = false) (H : f_IC_marked x1 x2 σ = some (r, τ)) : jSp G M_IC_marked (jr 6 1 6) [.ref 0, .int x1, .int x2] σ (fun o9 τ9 => o9 = jzi r ∧ τ9 = τ) := by
  refine jSp.of rfl rfl (Nat.le_of_ble_eq_true rfl) ?_
  show jV _ _ _ _ 0 0 0 [(0, .ref 0), (1, .int x1), (2, .int x2)] [] σ
  unfold f_IC_marked at H
  refine jv_iload_n 1 (pc := 0) d_IC_marked_0 rfl ?_
  refine jv_iconst 0 (pc := 1) d_IC_marked_1 rfl ?_
  refine jv_aload_n 0 (pc := 2) d_IC_marked_2 rfl ?_
  refine jv_getr (pc := 3) d_IC_marked_3 fa_IC_26_IC (by decide) rfl rfl ?_
  refine jv_geti (pc := 6) d_IC_marked_6 fa_IC_177_MR (by decide) rfl rfl ?_
  refine jv_iconst 1 (pc := 9) d_IC_marked_9 rfl ?_
  refine jv_isub (pc := 10) d_IC_marked_10 ?_
  refine jv_callSi (sp_IC_within x1 (0 : Int32) ((σ 4 3) - (1 : Int32))) (pc := 11) d_IC_marked_11 c0_IC_within lk_IC_97 si_IC_within rfl (Nat.le_of_ble_eq_true rfl) ⟨by decide, by decide, by decide, by decide⟩ (fun r11 m11 h11 => ?_)
  obtain ⟨ha11, hb11⟩ := h11
  subst ha11
  have hb11 := hb11.symm
  subst hb11
  refine jv_if_ne 25 (pc := 14) d_IC_marked_14 rfl (fun h14 => ?_) (fun h14 => ?_)
  · have h14 : ¬ ((f_IC_within x1 (0 : Int32) ((σ 4 3) - (1 : Int32)) σ) = 0) := h14
    have H := (if_neg h14).symm.trans H
    refine jv_iload_n 2 (pc := 25) d_IC_marked_25 rfl ?_
    by_cases h26_0 : x2 = 0
    · have H := (if_pos h26_0).symm.trans H
      refine jv_tin 52 (pc := 26) d_IC_marked_26 (by rw [h26_0]; decide) (by rw [h26_0]; decide) (by rw [h26_0]; rfl) rfl ?_
      refine jv_aload_n 0 (pc := 52) d_IC_marked_52 rfl ?_
      refine jv_getr (pc := 53) d_IC_marked_53 fa_IC_26_IC (by decide) rfl rfl ?_
      refine jv_getr (pc := 56) d_IC_marked_56 fa_IC_187_MR (by decide) rfl rfl ?_
      refine jv_iload_n 1 (pc := 59) d_IC_marked_59 rfl ?_
      obtain ⟨b60, H⟩ := jck_some H
      refine jv_iald (pc := 60) d_IC_marked_60 (by decide) rfl b60 ?_
      refine jv_iret (pc := 61) d_IC_marked_61 rfl rfl (by decide) (by decide) ?_
      cases H
      exact ⟨rfl, rfl⟩
    have H := (if_neg h26_0).symm.trans H
    by_cases h26_1 : x2 = 1
    · have H := (if_pos h26_1).symm.trans H
      refine jv_tin 62 (pc := 26) d_IC_marked_26 (by rw [h26_1]; decide) (by rw [h26_1]; decide) (by rw [h26_1]; rfl) rfl ?_
      refine jv_aload_n 0 (pc := 62) d_IC_marked_62 rfl ?_
      refine jv_getr (pc := 63) d_IC_marked_63 fa_IC_26_IC (by decide) rfl rfl ?_
      refine jv_getr (pc := 66) d_IC_marked_66 fa_IC_190_MR (by decide) rfl rfl ?_
      refine jv_iload_n 1 (pc := 69) d_IC_marked_69 rfl ?_
      obtain ⟨b70, H⟩ := jck_some H
      refine jv_iald (pc := 70) d_IC_marked_70 (by decide) rfl b70 ?_
      refine jv_iret (pc := 71) d_IC_marked_71 rfl rfl (by decide) (by decide) ?_
      cases H
      exact ⟨rfl, rfl⟩
    have H := (if_neg h26_1).symm.trans H
    by_cases h26_2 : x2 = 2
    · have H := (if_pos h26_2).symm.trans H
      refine jv_tin 72 (pc := 26) d_IC_marked_26 (by rw [h26_2]; decide) (by rw [h26_2]; decide) (by rw [h26_2]; rfl) rfl ?_
      refine jv_aload_n 0 (pc := 72) d_IC_marked_72 rfl ?_
      refine jv_getr (pc := 73) d_IC_marked_73 fa_IC_26_IC (by decide) rfl rfl ?_
      refine jv_getr (pc := 76) d_IC_marked_76 fa_IC_193_MR (by decide) rfl rfl ?_
      refine jv_iload_n 1 (pc := 79) d_IC_marked_79 rfl ?_
      obtain ⟨b80, H⟩ := jck_some H
      refine jv_iald (pc := 80) d_IC_marked_80 (by decide) rfl b80 ?_
      refine jv_iret (pc := 81) d_IC_marked_81 rfl rfl (by decide) (by decide) ?_
      cases H
      exact ⟨rfl, rfl⟩
    have H := (if_neg h26_2).symm.trans H
    refine jv_tout 82 (pc := 26) d_IC_marked_26 (by have a0 : (x2).toInt ≠ 0 := fun q => h26_0 (Int32.toInt_inj.mp q); have a1 : (x2).toInt ≠ 1 := fun q => h26_1 (Int32.toInt_inj.mp q); have a2 : (x2).toInt ≠ 2 := fun q => h26_2 (Int32.toInt_inj.mp q); omega) rfl ?_
    cases H
    exact jv_throw (pc := 82) 0 htr d_IC_marked_82 d_IC_marked_85 d_IC_marked_86 d_IC_marked_89 th_IC_83_85 rfl (Nat.le_of_ble_eq_true rfl) (by decide) (by decide) (by decide) (by decide) ⟨rfl, rfl⟩
  · have h14 : (f_IC_within x1 (0 : Int32) ((σ 4 3) - (1 : Int32)) σ) = 0 := h14
    have H := (if_pos h14).symm.trans H
    cases H
    exact jv_throw (pc := 17) 0 htr d_IC_marked_17 d_IC_marked_20 d_IC_marked_21 d_IC_marked_24 th_IC_83_85 rfl (Nat.le_of_ble_eq_true rfl) (by decide) (by decide) (by decide) (by decide) ⟨rfl, rfl⟩
set_option maxRecDepth 40000 in
set_option maxHeartbeats 8000000 in
theorem sp_IC_dictionary {G : jG} {σ τ : jMem} {r : (Nat ⊕ Int32)} (htr : G.l.stackTraces = false) (H : f_IC_dictionary σ = some (r, τ)) : jSp G M_IC_dictionary (jr 7 1 6) [.ref 0] σ (fun o9 τ9 => o9 = jzi r ∧ τ9 = τ) := by
  refine jSp.of rfl rfl (Nat.le_of_ble_eq_true rfl) ?_
  show jV _ _ _ _ 0 0 0 [(0, .ref 0)] [] σ
  unfold f_IC_dictionary at H
  refine jv_aload_n 0 (pc := 0) d_IC_dictionary_0 rfl ?_
  rcases jbt_some H with ⟨v1, n1, c1, H⟩ | ⟨v1, n1, c1, H⟩
  · refine jv_callVv (jSp.tv (sp_IC_refuseIdle htr c1)) (pc := 1) d_IC_dictionary_1 c0_IC_refuseIdle lk_IC_134 in_IC_refuseIdle se_IC_refuseIdle (by decide) rfl rfl rfl (Nat.le_of_ble_eq_true rfl) ⟨by decide, by decide, by decide, by decide⟩ (fun m1 h1 => ?_)
    have hb1 := h1
    have hb1 := hb1.symm
    subst hb1
    refine jv_aload_n 0 (pc := 4) d_IC_dictionary_4 rfl ?_
    obtain ⟨v5, n5, c5, H⟩ := jbd_some H
    refine jv_callVi (sp_IC_codeSymbols c5) (pc := 5) d_IC_dictionary_5 c0_IC_codeSymbols lk_IC_196 in_IC_codeSymbols se_IC_codeSymbols (by decide) rfl rfl rfl (Nat.le_of_ble_eq_true rfl) ⟨by decide, by decide, by decide, by decide⟩ (fun r5 m5 h5 => ?_)
    obtain ⟨ha5, hb5⟩ := h5
    have ha5 := ha5.symm
    subst ha5
    have hb5 := hb5.symm
    subst hb5
    refine jv_istore_n (pc := 8) d_IC_dictionary_8 rfl (by decide) (jsto_new rfl) ?_
    refine jv_aload_n 1 (pc := 9) d_IC_dictionary_9 rfl ?_
    refine jv_geti (pc := 10) d_IC_dictionary_10 fa_IC_60_IC (by decide) rfl rfl ?_
    refine jv_iconst 2 (pc := 13) d_IC_dictionary_13 rfl ?_
    refine jv_icmp_ne 42 (pc := 14) d_IC_dictionary_14 rfl (fun h14 => ?_) (fun h14 => ?_)
    · have h14 : ¬ ((n5 0 7) = (2 : Int32)) := h14
      have H := (if_neg h14).symm.trans H
      refine jv_iload_n 0 (pc := 42) d_IC_dictionary_42 rfl ?_
      refine jv_iconst (-1) (pc := 43) d_IC_dictionary_43 rfl ?_
      refine jv_icmp_ne 52 (pc := 44) d_IC_dictionary_44 rfl (fun h44 => ?_) (fun h44 => ?_)
      · have h44 : ¬ (v5 = (-1 : Int32)) := h44
        have H := (if_neg h44).symm.trans H
        refine jv_iload_n 0 (pc := 52) d_IC_dictionary_52 rfl ?_
        refine jv_iret (pc := 53) d_IC_dictionary_53 rfl rfl (by decide) (by decide) ?_
        cases H
        exact ⟨rfl, rfl⟩
      · have h44 : v5 = (-1 : Int32) := h44
        have H := (if_pos h44).symm.trans H
        refine jv_aload_n 1 (pc := 47) d_IC_dictionary_47 rfl ?_
        refine jv_iconst 0 (pc := 48) d_IC_dictionary_48 rfl ?_
        refine jv_puti (pc := 49) d_IC_dictionary_49 fa_IC_60_IC fp_IC_7 (by decide) rfl rfl rfl rfl ?_
        refine jv_iload_n 0 (pc := 52) d_IC_dictionary_52 rfl ?_
        refine jv_iret (pc := 53) d_IC_dictionary_53 rfl rfl (by decide) (by decide) ?_
        cases H
        exact ⟨rfl, rfl⟩
    · have h14 : (n5 0 7) = (2 : Int32) := h14
      have H := (if_pos h14).symm.trans H
      refine jv_aload_n 1 (pc := 17) d_IC_dictionary_17 rfl ?_
      refine jv_getr (pc := 18) d_IC_dictionary_18 fa_IC_19_IC (by decide) rfl rfl ?_
      refine jv_iload_n 0 (pc := 21) d_IC_dictionary_21 rfl ?_
      refine jv_iconst (-1) (pc := 22) d_IC_dictionary_22 rfl ?_
      refine jv_icmp_ne 30 (pc := 23) d_IC_dictionary_23 rfl (fun h23 => ?_) (fun h23 => ?_)
      · have h23 : ¬ (v5 = (-1 : Int32)) := h23
        have H := (if_neg h23).symm.trans H
        refine jv_iload_n 0 (pc := 30) d_IC_dictionary_30 rfl ?_
        refine jv_puti (pc := 31) d_IC_dictionary_31 fa_IC_166_SR fp_SR_1 (by decide) rfl rfl rfl rfl ?_
        refine jv_aload_n 1 (pc := 34) d_IC_dictionary_34 rfl ?_
        refine jv_getr (pc := 35) d_IC_dictionary_35 fa_IC_26_IC (by decide) rfl rfl ?_
        refine jv_iconst 0 (pc := 38) d_IC_dictionary_38 rfl ?_
        refine jv_puti (pc := 39) d_IC_dictionary_39 fa_IC_177_MR fp_MR_3 (by decide) rfl rfl rfl rfl ?_
        refine jv_iload_n 0 (pc := 42) d_IC_dictionary_42 rfl ?_
        refine jv_iconst (-1) (pc := 43) d_IC_dictionary_43 rfl ?_
        refine jv_icmp_ne 52 (pc := 44) d_IC_dictionary_44 rfl (fun h44 => ?_) (fun h44 => ?_)
        · have h44 : ¬ (v5 = (-1 : Int32)) := h44
          have H := (if_neg h44).symm.trans H
          refine jv_iload_n 0 (pc := 52) d_IC_dictionary_52 rfl ?_
          refine jv_iret (pc := 53) d_IC_dictionary_53 rfl rfl (by decide) (by decide) ?_
          cases H
          exact ⟨rfl, rfl⟩
        · have h44 : v5 = (-1 : Int32) := h44
          have H := (if_pos h44).symm.trans H
          refine jv_aload_n 1 (pc := 47) d_IC_dictionary_47 rfl ?_
          refine jv_iconst 0 (pc := 48) d_IC_dictionary_48 rfl ?_
          refine jv_puti (pc := 49) d_IC_dictionary_49 fa_IC_60_IC fp_IC_7 (by decide) rfl rfl rfl rfl ?_
          refine jv_iload_n 0 (pc := 52) d_IC_dictionary_52 rfl ?_
          refine jv_iret (pc := 53) d_IC_dictionary_53 rfl rfl (by decide) (by decide) ?_
          cases H
          exact ⟨rfl, rfl⟩
      · have h23 : v5 = (-1 : Int32) := h23
        have H := (if_pos h23).symm.trans H
        refine jv_iconst 0 (pc := 26) d_IC_dictionary_26 rfl ?_
        refine jv_goto 31 (pc := 27) d_IC_dictionary_27 rfl ?_
        refine jv_puti (pc := 31) d_IC_dictionary_31 fa_IC_166_SR fp_SR_1 (by decide) rfl rfl rfl rfl ?_
        refine jv_aload_n 1 (pc := 34) d_IC_dictionary_34 rfl ?_
        refine jv_getr (pc := 35) d_IC_dictionary_35 fa_IC_26_IC (by decide) rfl rfl ?_
        refine jv_iconst 0 (pc := 38) d_IC_dictionary_38 rfl ?_
        refine jv_puti (pc := 39) d_IC_dictionary_39 fa_IC_177_MR fp_MR_3 (by decide) rfl rfl rfl rfl ?_
        refine jv_iload_n 0 (pc := 42) d_IC_dictionary_42 rfl ?_
        refine jv_iconst (-1) (pc := 43) d_IC_dictionary_43 rfl ?_
        refine jv_icmp_ne 52 (pc := 44) d_IC_dictionary_44 rfl (fun h44 => ?_) (fun h44 => ?_)
        · have h44 : ¬ (v5 = (-1 : Int32)) := h44
          have H := (if_neg h44).symm.trans H
          refine jv_iload_n 0 (pc := 52) d_IC_dictionary_52 rfl ?_
          refine jv_iret (pc := 53) d_IC_dictionary_53 rfl rfl (by decide) (by decide) ?_
          cases H
          exact ⟨rfl, rfl⟩
        · have h44 : v5 = (-1 : Int32) := h44
          have H := (if_pos h44).symm.trans H
          refine jv_aload_n 1 (pc := 47) d_IC_dictionary_47 rfl ?_
          refine jv_iconst 0 (pc := 48) d_IC_dictionary_48 rfl ?_
          refine jv_puti (pc := 49) d_IC_dictionary_49 fa_IC_60_IC fp_IC_7 (by decide) rfl rfl rfl rfl ?_
          refine jv_iload_n 0 (pc := 52) d_IC_dictionary_52 rfl ?_
          refine jv_iret (pc := 53) d_IC_dictionary_53 rfl rfl (by decide) (by decide) ?_
          cases H
          exact ⟨rfl, rfl⟩
  · cases H
    exact jv_callVX (sp_IC_refuseIdle htr c1) rfl (pc := 1) d_IC_dictionary_1 c0_IC_refuseIdle lm_IC_134 in_IC_refuseIdle se_IC_refuseIdle (by decide) rfl rfl rfl (Nat.le_of_ble_eq_true rfl) ⟨by decide, by decide, by decide, by decide⟩ ⟨rfl, rfl⟩
set_option maxRecDepth 40000 in
set_option maxHeartbeats 8000000 in
theorem lp_IC_text_77 {G : jG} (htr : G.l.stackTraces = false) : ∀ (n : Nat) (x1 x2 x3 x4 x5 x6 : Int32) (σ τ : jMem) (r : (Nat ⊕ Int32)), f_IC_text_L77 n x1 x2 x3 x4 x5 x6 σ = some (r, τ) → jV G M_IC_text (jr 7 3 18) (fun o9 τ9 => o9 = jzi r ∧ τ9 = τ) 3 18 77 [(0, .ref 0), (1, .int x1), (2, .int x2), (3, .int x3), (4, .int x4), (5, .int x5), (6, .int x6)] [] σ := by
  intro n
  induction n with
  | zero =>
    intro x1 x2 x3 x4 x5 x6 σ τ r H
    cases H
  | succ n ih =>
    intro x1 x2 x3 x4 x5 x6 σ τ r H
    rw [f_IC_text_L77.eq_2] at H
    refine jv_iload 6 (pc := 77) d_IC_text_77 rfl ?_
    refine jv_aload_n 0 (pc := 79) d_IC_text_79 rfl ?_
    refine jv_getr (pc := 80) d_IC_text_80 fa_IC_26_IC (by decide) rfl rfl ?_
    refine jv_geti (pc := 83) d_IC_text_83 fa_IC_177_MR (by decide) rfl rfl ?_
    refine jv_icmp_ge 111 (pc := 86) d_IC_text_86 rfl (fun h86 => ?_) (fun h86 => ?_)
    · have h86 : (σ 4 3) ≤ x6 := h86
      have H := (if_pos h86).symm.trans H
      refine jv_iload 5 (pc := 111) d_IC_text_111 rfl ?_
      refine jv_iret (pc := 113) d_IC_text_113 rfl rfl (by decide) (by decide) ?_
      cases H
      exact ⟨rfl, rfl⟩
    · have h86 : ¬ ((σ 4 3) ≤ x6) := h86
      have H := (if_neg h86).symm.trans H
      refine jv_aload_n 0 (pc := 89) d_IC_text_89 rfl ?_
      refine jv_aload_n 0 (pc := 90) d_IC_text_90 rfl ?_
      refine jv_getr (pc := 91) d_IC_text_91 fa_IC_11_IC (by decide) rfl rfl ?_
      refine jv_iload_n 1 (pc := 94) d_IC_text_94 rfl ?_
      obtain ⟨b95, H⟩ := jck_some H
      have p95 : x1.toNatClampNeg < 12 := jbo12 b95
      refine jv_aald (pc := 95) d_IC_text_95 (by decide) rfl b95 (jbo b95) ?_
      refine jv_iload 6 (pc := 96) d_IC_text_96 rfl ?_
      refine jv_iload_n 2 (pc := 98) d_IC_text_98 rfl ?_
      refine jv_iload_n 3 (pc := 99) d_IC_text_99 rfl ?_
      refine jv_iload 4 (pc := 100) d_IC_text_100 rfl ?_
      obtain ⟨_, n102, c102, H⟩ := jbd_some H
      refine jv_callVv (sp_IC_stampMark x1.toNatClampNeg x6 x2 x3 x4 p95 c102) (pc := 102) d_IC_text_102 c0_IC_stampMark lk_IC_203 in_IC_stampMark se_IC_stampMark (by decide) rfl rfl rfl (Nat.le_of_ble_eq_true rfl) ⟨by decide, by decide, by decide, by decide⟩ (fun m102 h102 => ?_)
      have hb102 := h102
      have hb102 := hb102.symm
      subst hb102
      refine jv_iinc 6 _ (pc := 105) d_IC_text_105 rfl (jinc1 _) (by decide) (jst6 rfl) ?_
      refine jv_goto 77 (pc := 108) d_IC_text_108 rfl ?_
      exact jv_sub [0, 1, 2, 3, 4, 5, 6] rfl (ih x1 x2 x3 x4 x5 (x6 + 1) _ _ _ H)
set_option maxRecDepth 40000 in
set_option maxHeartbeats 8000000 in
theorem sp_IC_text {G : jG} {σ τ : jMem} {r : (Nat ⊕ Int32)} (x1 x2 x3 x4 : Int32) (htr : G.l.stackTraces = false) (H : f_IC_text x1 x2 x3 x4 σ = some (r, τ)) : jSp G M_IC_text (jr 7 3 18) [.ref 0, .int x1, .int x2, .int x3, .int x4] σ (fun o9 τ9 => o9 = jzi r ∧ τ9 = τ) := by
  refine jSp.of rfl rfl (Nat.le_of_ble_eq_true rfl) ?_
  show jV _ _ _ _ 0 0 0 [(0, .ref 0), (1, .int x1), (2, .int x2), (3, .int x3), (4, .int x4)] [] σ
  unfold f_IC_text at H
  refine jv_aload_n 0 (pc := 0) d_IC_text_0 rfl ?_
  rcases jbt_some H with ⟨v1, n1, c1, H⟩ | ⟨v1, n1, c1, H⟩
  · refine jv_callVv (jSp.tv (sp_IC_refuseIdle htr c1)) (pc := 1) d_IC_text_1 c0_IC_refuseIdle lk_IC_134 in_IC_refuseIdle se_IC_refuseIdle (by decide) rfl rfl rfl (Nat.le_of_ble_eq_true rfl) ⟨by decide, by decide, by decide, by decide⟩ (fun m1 h1 => ?_)
    have hb1 := h1
    have hb1 := hb1.symm
    subst hb1
    refine jv_aload_n 0 (pc := 4) d_IC_text_4 rfl ?_
    refine jv_iload_n 1 (pc := 5) d_IC_text_5 rfl ?_
    rcases jbt_some H with ⟨v6, n6, c6, H⟩ | ⟨v6, n6, c6, H⟩
    · refine jv_callVv (jSp.tv (sp_IC_refuseMissingBoard x1 htr c6)) (pc := 6) d_IC_text_6 c0_IC_refuseMissingBoard lk_IC_64 in_IC_refuseMissingBoard se_IC_refuseMissingBoard (by decide) rfl rfl rfl (Nat.le_of_ble_eq_true rfl) ⟨by decide, by decide, by decide, by decide⟩ (fun m6 h6 => ?_)
      have hb6 := h6
      have hb6 := hb6.symm
      subst hb6
      refine jv_iload_n 2 (pc := 9) d_IC_text_9 rfl ?_
      refine jv_iconst 0 (pc := 10) d_IC_text_10 rfl ?_
      refine jv_iconst 3 (pc := 11) d_IC_text_11 rfl ?_
      refine jv_callSi (sp_IC_within x2 (0 : Int32) (3 : Int32)) (pc := 12) d_IC_text_12 c0_IC_within lk_IC_97 si_IC_within rfl (Nat.le_of_ble_eq_true rfl) ⟨by decide, by decide, by decide, by decide⟩ (fun r12 m12 h12 => ?_)
      obtain ⟨ha12, hb12⟩ := h12
      subst ha12
      have hb12 := hb12.symm
      subst hb12
      refine jv_if_eq 28 (pc := 15) d_IC_text_15 rfl (fun h15 => ?_) (fun h15 => ?_)
      · have h15 : (f_IC_within x2 (0 : Int32) (3 : Int32) n6) = 0 := h15
        have H := (if_pos h15).symm.trans H
        cases H
        exact jv_throw (pc := 28) 1 htr d_IC_text_28 d_IC_text_31 d_IC_text_32 d_IC_text_35 th_IC_72_74 rfl (Nat.le_of_ble_eq_true rfl) (by decide) (by decide) (by decide) (by decide) ⟨rfl, rfl⟩
      · have h15 : ¬ ((f_IC_within x2 (0 : Int32) (3 : Int32) n6) = 0) := h15
        have H := (if_neg h15).symm.trans H
        refine jv_iload 4 (pc := 18) d_IC_text_18 rfl ?_
        refine jv_iconst 0 (pc := 20) d_IC_text_20 rfl ?_
        refine jv_iconst 4 (pc := 21) d_IC_text_21 rfl ?_
        refine jv_callSi (sp_IC_within x4 (0 : Int32) (4 : Int32)) (pc := 22) d_IC_text_22 c0_IC_within lk_IC_97 si_IC_within rfl (Nat.le_of_ble_eq_true rfl) ⟨by decide, by decide, by decide, by decide⟩ (fun r22 m22 h22 => ?_)
        obtain ⟨ha22, hb22⟩ := h22
        subst ha22
        have hb22 := hb22.symm
        subst hb22
        refine jv_if_ne 36 (pc := 25) d_IC_text_25 rfl (fun h25 => ?_) (fun h25 => ?_)
        · have h25 : ¬ ((f_IC_within x4 (0 : Int32) (4 : Int32) n6) = 0) := h25
          have H := (if_neg h25).symm.trans H
          refine jv_aload_n 0 (pc := 36) d_IC_text_36 rfl ?_
          refine jv_iload_n 2 (pc := 37) d_IC_text_37 rfl ?_
          refine jv_iload_n 3 (pc := 38) d_IC_text_38 rfl ?_
          obtain ⟨v39, n39, c39, H⟩ := jbd_some H
          refine jv_callVi (sp_IC_codeMarks x2 x3 c39) (pc := 39) d_IC_text_39 c0_IC_codeMarks lk_IC_199 in_IC_codeMarks se_IC_codeMarks (by decide) rfl rfl rfl (Nat.le_of_ble_eq_true rfl) ⟨by decide, by decide, by decide, by decide⟩ (fun r39 m39 h39 => ?_)
          obtain ⟨ha39, hb39⟩ := h39
          have ha39 := ha39.symm
          subst ha39
          have hb39 := hb39.symm
          subst hb39
          refine jv_istore (pc := 42) d_IC_text_42 (by decide) (jsto_new rfl) ?_
          refine jv_aload_n 1 (pc := 44) d_IC_text_44 rfl ?_
          refine jv_getr (pc := 45) d_IC_text_45 fa_IC_26_IC (by decide) rfl rfl ?_
          refine jv_iload 0 (pc := 48) d_IC_text_48 rfl ?_
          refine jv_iconst (-1) (pc := 50) d_IC_text_50 rfl ?_
          refine jv_icmp_ne 58 (pc := 51) d_IC_text_51 rfl (fun h51 => ?_) (fun h51 => ?_)
          · have h51 : ¬ (v39 = (-1 : Int32)) := h51
            have H := (if_neg h51).symm.trans H
            refine jv_iload 0 (pc := 58) d_IC_text_58 rfl ?_
            refine jv_puti (pc := 60) d_IC_text_60 fa_IC_177_MR fp_MR_3 (by decide) rfl rfl rfl rfl ?_
            refine jv_iload 0 (pc := 63) d_IC_text_63 rfl ?_
            refine jv_iconst (-1) (pc := 65) d_IC_text_65 rfl ?_
            refine jv_icmp_ne 74 (pc := 66) d_IC_text_66 rfl (fun h66 => ?_) (fun h66 => ?_)
            · have h66 : ¬ (v39 = (-1 : Int32)) := h66
              have H := (if_neg h66).symm.trans H
              refine jv_iconst 0 (pc := 74) d_IC_text_74 rfl ?_
              refine jv_istore (pc := 75) d_IC_text_75 (by decide) (jsto_new rfl) ?_
              exact jv_wide (by decide) (by decide) (jv_sub [2, 3, 4, 5, 6, 1, 0] rfl (lp_IC_text_77  htr _ x1 x2 x3 x4 v39 (0 : Int32) _ _ _ H))
            · have h66 : v39 = (-1 : Int32) := h66
              have H := (if_pos h66).symm.trans H
              refine jv_aload_n 1 (pc := 69) d_IC_text_69 rfl ?_
              refine jv_iconst 0 (pc := 70) d_IC_text_70 rfl ?_
              refine jv_puti (pc := 71) d_IC_text_71 fa_IC_60_IC fp_IC_7 (by decide) rfl rfl rfl rfl ?_
              refine jv_iconst 0 (pc := 74) d_IC_text_74 rfl ?_
              refine jv_istore (pc := 75) d_IC_text_75 (by decide) (jsto_new rfl) ?_
              exact jv_wide (by decide) (by decide) (jv_sub [2, 3, 4, 5, 6, 1, 0] rfl (lp_IC_text_77  htr _ x1 x2 x3 x4 v39 (0 : Int32) _ _ _ H))
          · have h51 : v39 = (-1 : Int32) := h51
            have H := (if_pos h51).symm.trans H
            refine jv_iconst 0 (pc := 54) d_IC_text_54 rfl ?_
            refine jv_goto 60 (pc := 55) d_IC_text_55 rfl ?_
            refine jv_puti (pc := 60) d_IC_text_60 fa_IC_177_MR fp_MR_3 (by decide) rfl rfl rfl rfl ?_
            refine jv_iload 0 (pc := 63) d_IC_text_63 rfl ?_
            refine jv_iconst (-1) (pc := 65) d_IC_text_65 rfl ?_
            refine jv_icmp_ne 74 (pc := 66) d_IC_text_66 rfl (fun h66 => ?_) (fun h66 => ?_)
            · have h66 : ¬ (v39 = (-1 : Int32)) := h66
              have H := (if_neg h66).symm.trans H
              refine jv_iconst 0 (pc := 74) d_IC_text_74 rfl ?_
              refine jv_istore (pc := 75) d_IC_text_75 (by decide) (jsto_new rfl) ?_
              exact jv_wide (by decide) (by decide) (jv_sub [2, 3, 4, 5, 6, 1, 0] rfl (lp_IC_text_77  htr _ x1 x2 x3 x4 v39 (0 : Int32) _ _ _ H))
            · have h66 : v39 = (-1 : Int32) := h66
              have H := (if_pos h66).symm.trans H
              refine jv_aload_n 1 (pc := 69) d_IC_text_69 rfl ?_
              refine jv_iconst 0 (pc := 70) d_IC_text_70 rfl ?_
              refine jv_puti (pc := 71) d_IC_text_71 fa_IC_60_IC fp_IC_7 (by decide) rfl rfl rfl rfl ?_
              refine jv_iconst 0 (pc := 74) d_IC_text_74 rfl ?_
              refine jv_istore (pc := 75) d_IC_text_75 (by decide) (jsto_new rfl) ?_
              exact jv_wide (by decide) (by decide) (jv_sub [2, 3, 4, 5, 6, 1, 0] rfl (lp_IC_text_77  htr _ x1 x2 x3 x4 v39 (0 : Int32) _ _ _ H))
        · have h25 : (f_IC_within x4 (0 : Int32) (4 : Int32) n6) = 0 := h25
          have H := (if_pos h25).symm.trans H
          cases H
          exact jv_throw (pc := 28) 1 htr d_IC_text_28 d_IC_text_31 d_IC_text_32 d_IC_text_35 th_IC_72_74 rfl (Nat.le_of_ble_eq_true rfl) (by decide) (by decide) (by decide) (by decide) ⟨rfl, rfl⟩
    · cases H
      exact jv_callVX (sp_IC_refuseMissingBoard x1 htr c6) rfl (pc := 6) d_IC_text_6 c0_IC_refuseMissingBoard lm_IC_64 in_IC_refuseMissingBoard se_IC_refuseMissingBoard (by decide) rfl rfl rfl (Nat.le_of_ble_eq_true rfl) ⟨by decide, by decide, by decide, by decide⟩ ⟨rfl, rfl⟩
  · cases H
    exact jv_callVX (sp_IC_refuseIdle htr c1) rfl (pc := 1) d_IC_text_1 c0_IC_refuseIdle lm_IC_134 in_IC_refuseIdle se_IC_refuseIdle (by decide) rfl rfl rfl (Nat.le_of_ble_eq_true rfl) ⟨by decide, by decide, by decide, by decide⟩ ⟨rfl, rfl⟩
