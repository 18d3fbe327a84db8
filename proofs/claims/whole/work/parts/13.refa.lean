/-! the reference's coder: functions and contracts, by program -/
set_option maxRecDepth 40000 in
set_option maxHeartbeats 8000000 in
theorem sp_MO_isInside {G : jG} {σ τ : jMem} {r : Int32} (x1 x2 x3 : Int32) (H : f_MO_isInside x1 x2 x3 σ = some (r, τ)) : jSp G M_MO_isInside (jr 0 0 0) [.ref 38, .int x1, .int x2, .int x3] σ (jI fun r9 τ9 => r9 = r ∧ τ9 = τ) := by
  refine jSp.of rfl rfl (Nat.le_of_ble_eq_true rfl) ?_
  show jV _ _ _ _ 0 0 0 [(0, .ref 38), (1, .int x1), (2, .int x2), (3, .int x3)] [] σ
  unfold f_MO_isInside at H
  refine jv_iload_n 2 (pc := 0) d_MO_isInside_0 rfl ?_
  refine jv_if_lt 32 (pc := 1) d_MO_isInside_1 rfl (fun h1 => ?_) (fun h1 => ?_)
  · have h1 : x2 < 0 := h1
    have H := (if_pos h1).symm.trans H
    refine jv_iconst 0 (pc := 32) d_MO_isInside_32 rfl ?_
    refine jv_iret (pc := 33) d_MO_isInside_33 rfl rfl (Nat.zero_le _) (Nat.zero_le _) ?_
    cases H
    exact jI.of ⟨rfl, rfl⟩
  · have h1 : ¬ (x2 < 0) := h1
    have H := (if_neg h1).symm.trans H
    refine jv_iload_n 2 (pc := 4) d_MO_isInside_4 rfl ?_
    refine jv_aload_n 0 (pc := 5) d_MO_isInside_5 rfl ?_
    refine jv_getr (pc := 6) d_MO_isInside_6 fa_MO_13_MO (by decide) rfl rfl ?_
    refine jv_iload_n 1 (pc := 9) d_MO_isInside_9 rfl ?_
    obtain ⟨b10, H⟩ := jck_some H
    refine jv_iald (pc := 10) d_MO_isInside_10 (by decide) rfl b10 ?_
    refine jv_icmp_ge 32 (pc := 11) d_MO_isInside_11 rfl (fun h11 => ?_) (fun h11 => ?_)
    · have h11 : (σ 40 x1.toNatClampNeg) ≤ x2 := h11
      have H := (if_pos h11).symm.trans H
      refine jv_iconst 0 (pc := 32) d_MO_isInside_32 rfl ?_
      refine jv_iret (pc := 33) d_MO_isInside_33 rfl rfl (Nat.zero_le _) (Nat.zero_le _) ?_
      cases H
      exact jI.of ⟨rfl, rfl⟩
    · have h11 : ¬ ((σ 40 x1.toNatClampNeg) ≤ x2) := h11
      have H := (if_neg h11).symm.trans H
      refine jv_iload_n 3 (pc := 14) d_MO_isInside_14 rfl ?_
      refine jv_if_lt 32 (pc := 15) d_MO_isInside_15 rfl (fun h15 => ?_) (fun h15 => ?_)
      · have h15 : x3 < 0 := h15
        have H := (if_pos h15).symm.trans H
        refine jv_iconst 0 (pc := 32) d_MO_isInside_32 rfl ?_
        refine jv_iret (pc := 33) d_MO_isInside_33 rfl rfl (Nat.zero_le _) (Nat.zero_le _) ?_
        cases H
        exact jI.of ⟨rfl, rfl⟩
      · have h15 : ¬ (x3 < 0) := h15
        have H := (if_neg h15).symm.trans H
        refine jv_iload_n 3 (pc := 18) d_MO_isInside_18 rfl ?_
        refine jv_aload_n 0 (pc := 19) d_MO_isInside_19 rfl ?_
        refine jv_getr (pc := 20) d_MO_isInside_20 fa_MO_16_MO (by decide) rfl rfl ?_
        refine jv_iload_n 1 (pc := 23) d_MO_isInside_23 rfl ?_
        obtain ⟨b24, H⟩ := jck_some H
        refine jv_iald (pc := 24) d_MO_isInside_24 (by decide) rfl b24 ?_
        refine jv_icmp_ge 32 (pc := 25) d_MO_isInside_25 rfl (fun h25 => ?_) (fun h25 => ?_)
        · have h25 : (σ 41 x1.toNatClampNeg) ≤ x3 := h25
          have H := (if_pos h25).symm.trans H
          refine jv_iconst 0 (pc := 32) d_MO_isInside_32 rfl ?_
          refine jv_iret (pc := 33) d_MO_isInside_33 rfl rfl (Nat.zero_le _) (Nat.zero_le _) ?_
          cases H
          exact jI.of ⟨rfl, rfl⟩
        · have h25 : ¬ ((σ 41 x1.toNatClampNeg) ≤ x3) := h25
          have H := (if_neg h25).symm.trans H
          refine jv_iconst 1 (pc := 28) d_MO_isInside_28 rfl ?_
          refine jv_goto 33 (pc := 29) d_MO_isInside_29 rfl ?_
          refine jv_iret (pc := 33) d_MO_isInside_33 rfl rfl (Nat.zero_le _) (Nat.zero_le _) ?_
          cases H
          exact jI.of ⟨rfl, rfl⟩
set_option maxRecDepth 40000 in
set_option maxHeartbeats 8000000 in
theorem sp_MO_at {G : jG} {σ τ : jMem} {r : Int32} (x1 x2 x3 : Int32) (H : f_MO_at x1 x2 x3 σ = some (r, τ)) : jSp G M_MO_at (jr 1 0 0) [.ref 38, .int x1, .int x2, .int x3] σ (jI fun r9 τ9 => r9 = r ∧ τ9 = τ) := by
  refine jSp.of rfl rfl (Nat.le_of_ble_eq_true rfl) ?_
  show jV _ _ _ _ 0 0 0 [(0, .ref 38), (1, .int x1), (2, .int x2), (3, .int x3)] [] σ
  unfold f_MO_at at H
  refine jv_aload_n 0 (pc := 0) d_MO_at_0 rfl ?_
  refine jv_iload_n 1 (pc := 1) d_MO_at_1 rfl ?_
  refine jv_iload_n 2 (pc := 2) d_MO_at_2 rfl ?_
  refine jv_iload_n 3 (pc := 3) d_MO_at_3 rfl ?_
  obtain ⟨v4, n4, c4, H⟩ := jbd_some H
  refine jv_callVi (sp_MO_isInside x1 x2 x3 c4) (pc := 4) d_MO_at_4 c0_MO_isInside lk_MO_38 in_MO_isInside se_MO_isInside (by decide) rfl rfl rfl (Nat.le_of_ble_eq_true rfl) ⟨by decide, by decide, by decide, by decide⟩ (fun r4 m4 h4 => ?_)
  obtain ⟨ha4, hb4⟩ := h4
  have ha4 := ha4.symm
  subst ha4
  have hb4 := hb4.symm
  subst hb4
  refine jv_if_eq 28 (pc := 7) d_MO_at_7 rfl (fun h7 => ?_) (fun h7 => ?_)
  · have h7 : v4 = 0 := h7
    have H := (if_pos h7).symm.trans H
    refine jv_iconst 0 (pc := 28) d_MO_at_28 rfl ?_
    refine jv_iret (pc := 29) d_MO_at_29 rfl rfl (Nat.zero_le _) (Nat.zero_le _) ?_
    cases H
    exact jI.of ⟨rfl, rfl⟩
  · have h7 : ¬ (v4 = 0) := h7
    have H := (if_neg h7).symm.trans H
    refine jv_aload_n 0 (pc := 10) d_MO_at_10 rfl ?_
    refine jv_getr (pc := 11) d_MO_at_11 fa_MO_7_MO (by decide) rfl rfl ?_
    refine jv_bipush (24) (pc := 14) d_MO_at_14 rfl ?_
    refine jv_iload_n 1 (pc := 16) d_MO_at_16 rfl ?_
    refine jv_imul (pc := 17) d_MO_at_17 ?_
    refine jv_iload_n 3 (pc := 18) d_MO_at_18 rfl ?_
    refine jv_iadd (pc := 19) d_MO_at_19 ?_
    obtain ⟨b20, H⟩ := jck_some H
    refine jv_iald (pc := 20) d_MO_at_20 (by decide) rfl b20 ?_
    refine jv_iload_n 2 (pc := 21) d_MO_at_21 rfl ?_
    refine jv_ishr (pc := 22) d_MO_at_22 ?_
    refine jv_iconst 1 (pc := 23) d_MO_at_23 rfl ?_
    refine jv_iand (pc := 24) d_MO_at_24 ?_
    refine jv_goto 29 (pc := 25) d_MO_at_25 rfl ?_
    refine jv_iret (pc := 29) d_MO_at_29 rfl rfl (Nat.zero_le _) (Nat.zero_le _) ?_
    cases H
    exact jI.of ⟨rfl, rfl⟩
set_option maxRecDepth 40000 in
set_option maxHeartbeats 8000000 in
theorem sp_MO_ink {G : jG} {σ τ : jMem} {r : Unit} (x1 x2 x3 x4 : Int32) (H : f_MO_ink x1 x2 x3 x4 σ = some (r, τ)) : jSp G M_MO_ink (jr 0 0 0) [.ref 38, .int x1, .int x2, .int x3, .int x4] σ (jU fun τ9 => τ9 = τ) := by
  refine jSp.of rfl rfl (Nat.le_of_ble_eq_true rfl) ?_
  show jV _ _ _ _ 0 0 0 [(0, .ref 38), (1, .int x1), (2, .int x2), (3, .int x3), (4, .int x4)] [] σ
  unfold f_MO_ink at H
  refine jv_aload_n 0 (pc := 0) d_MO_ink_0 rfl ?_
  refine jv_getr (pc := 1) d_MO_ink_1 fa_MO_7_MO (by decide) rfl rfl ?_
  refine jv_bipush (24) (pc := 4) d_MO_ink_4 rfl ?_
  refine jv_iload_n 1 (pc := 6) d_MO_ink_6 rfl ?_
  refine jv_imul (pc := 7) d_MO_ink_7 ?_
  refine jv_iload_n 3 (pc := 8) d_MO_ink_8 rfl ?_
  refine jv_iadd (pc := 9) d_MO_ink_9 ?_
  refine jv_aload_n 0 (pc := 10) d_MO_ink_10 rfl ?_
  refine jv_getr (pc := 11) d_MO_ink_11 fa_MO_7_MO (by decide) rfl rfl ?_
  refine jv_bipush (24) (pc := 14) d_MO_ink_14 rfl ?_
  refine jv_iload_n 1 (pc := 16) d_MO_ink_16 rfl ?_
  refine jv_imul (pc := 17) d_MO_ink_17 ?_
  refine jv_iload_n 3 (pc := 18) d_MO_ink_18 rfl ?_
  refine jv_iadd (pc := 19) d_MO_ink_19 ?_
  obtain ⟨b20, H⟩ := jck_some H
  refine jv_iald (pc := 20) d_MO_ink_20 (by decide) rfl b20 ?_
  refine jv_iconst 1 (pc := 21) d_MO_ink_21 rfl ?_
  refine jv_iload_n 2 (pc := 22) d_MO_ink_22 rfl ?_
  refine jv_ishl (pc := 23) d_MO_ink_23 ?_
  refine jv_iconst (-1) (pc := 24) d_MO_ink_24 rfl ?_
  refine jv_ixor (pc := 25) d_MO_ink_25 ?_
  refine jv_iand (pc := 26) d_MO_ink_26 ?_
  refine jv_iload 4 (pc := 27) d_MO_ink_27 rfl ?_
  refine jv_iload_n 2 (pc := 29) d_MO_ink_29 rfl ?_
  refine jv_ishl (pc := 30) d_MO_ink_30 ?_
  refine jv_ior (pc := 31) d_MO_ink_31 ?_
  obtain ⟨b32, H⟩ := jck_some H
  refine jv_iast (pc := 32) d_MO_ink_32 (by decide) rfl b32 ?_
  refine jv_vret (pc := 33) d_MO_ink_33 rfl (Nat.zero_le _) (Nat.zero_le _) ?_
  cases H
  exact jU.of rfl
set_option maxRecDepth 40000 in
set_option maxHeartbeats 8000000 in
theorem lp_MO_resize_20 {G : jG} : ∀ (n : Nat) (x1 x2 x3 x4 : Int32) (σ τ : jMem) (r : Unit), f_MO_resize_L20 n x1 x2 x3 x4 σ = some (r, τ) → jV G M_MO_resize (jr 0 0 0) (jU fun τ9 => τ9 = τ) 0 0 20 [(0, .ref 38), (1, .int x1), (2, .int x2), (3, .int x3), (4, .int x4)] [] σ := by
  intro n
  induction n with
  | zero =>
    intro x1 x2 x3 x4 σ τ r H
    cases H
  | succ n ih =>
    intro x1 x2 x3 x4 σ τ r H
    rw [f_MO_resize_L20.eq_2] at H
    refine jv_iload 4 (pc := 20) d_MO_resize_20 rfl ?_
    refine jv_bipush (24) (pc := 22) d_MO_resize_22 rfl ?_
    refine jv_iload_n 1 (pc := 24) d_MO_resize_24 rfl ?_
    refine jv_imul (pc := 25) d_MO_resize_25 ?_
    refine jv_bipush (24) (pc := 26) d_MO_resize_26 rfl ?_
    refine jv_iadd (pc := 28) d_MO_resize_28 ?_
    refine jv_icmp_ge 46 (pc := 29) d_MO_resize_29 rfl (fun h29 => ?_) (fun h29 => ?_)
    · have h29 : (((24 : Int32) * x1) + (24 : Int32)) ≤ x4 := h29
      have H := (if_pos h29).symm.trans H
      refine jv_vret (pc := 46) d_MO_resize_46 rfl (Nat.zero_le _) (Nat.zero_le _) ?_
      cases H
      exact jU.of rfl
    · have h29 : ¬ ((((24 : Int32) * x1) + (24 : Int32)) ≤ x4) := h29
      have H := (if_neg h29).symm.trans H
      refine jv_aload_n 0 (pc := 32) d_MO_resize_32 rfl ?_
      refine jv_getr (pc := 33) d_MO_resize_33 fa_MO_7_MO (by decide) rfl rfl ?_
      refine jv_iload 4 (pc := 36) d_MO_resize_36 rfl ?_
      refine jv_iconst 0 (pc := 38) d_MO_resize_38 rfl ?_
      obtain ⟨b39, H⟩ := jck_some H
      refine jv_iast (pc := 39) d_MO_resize_39 (by decide) rfl b39 ?_
      refine jv_iinc 4 _ (pc := 40) d_MO_resize_40 rfl (jinc1 _) (by decide) (jst4 rfl) ?_
      refine jv_goto 20 (pc := 43) d_MO_resize_43 rfl ?_
      exact jv_sub [0, 1, 2, 3, 4] rfl (ih x1 x2 x3 (x4 + 1) _ _ _ H)
set_option maxRecDepth 40000 in
set_option maxHeartbeats 8000000 in
theorem sp_MO_resize {G : jG} {σ τ : jMem} {r : Unit} (x1 x2 x3 : Int32) (H : f_MO_resize x1 x2 x3 σ = some (r, τ)) : jSp G M_MO_resize (jr 0 0 0) [.ref 38, .int x1, .int x2, .int x3] σ (jU fun τ9 => τ9 = τ) := by
  refine jSp.of rfl rfl (Nat.le_of_ble_eq_true rfl) ?_
  show jV _ _ _ _ 0 0 0 [(0, .ref 38), (1, .int x1), (2, .int x2), (3, .int x3)] [] σ
  unfold f_MO_resize at H
  refine jv_aload_n 0 (pc := 0) d_MO_resize_0 rfl ?_
  refine jv_getr (pc := 1) d_MO_resize_1 fa_MO_13_MO (by decide) rfl rfl ?_
  refine jv_iload_n 1 (pc := 4) d_MO_resize_4 rfl ?_
  refine jv_iload_n 2 (pc := 5) d_MO_resize_5 rfl ?_
  obtain ⟨b6, H⟩ := jck_some H
  refine jv_iast (pc := 6) d_MO_resize_6 (by decide) rfl b6 ?_
  refine jv_aload_n 0 (pc := 7) d_MO_resize_7 rfl ?_
  refine jv_getr (pc := 8) d_MO_resize_8 fa_MO_16_MO (by decide) rfl rfl ?_
  refine jv_iload_n 1 (pc := 11) d_MO_resize_11 rfl ?_
  refine jv_iload_n 3 (pc := 12) d_MO_resize_12 rfl ?_
  obtain ⟨b13, H⟩ := jck_some H
  refine jv_iast (pc := 13) d_MO_resize_13 (by decide) rfl b13 ?_
  refine jv_bipush (24) (pc := 14) d_MO_resize_14 rfl ?_
  refine jv_iload_n 1 (pc := 16) d_MO_resize_16 rfl ?_
  refine jv_imul (pc := 17) d_MO_resize_17 ?_
  refine jv_istore (pc := 18) d_MO_resize_18 (by decide) (jsto_new rfl) ?_
  exact jv_sub [1, 2, 3, 4, 0] rfl (lp_MO_resize_20  _ x1 x2 x3 ((24 : Int32) * x1) _ _ _ H)
set_option maxRecDepth 40000 in
set_option maxHeartbeats 8000000 in
theorem sp_MO_put {G : jG} {σ τ : jMem} {r : Int32} (x1 : Int32) (H : f_MO_put x1 σ = some (r, τ)) : jSp G M_MO_put (jr 0 0 0) [.ref 38, .int x1] σ (jI fun r9 τ9 => r9 = r ∧ τ9 = τ) := by
  refine jSp.of rfl rfl (Nat.le_of_ble_eq_true rfl) ?_
  show jV _ _ _ _ 0 0 0 [(0, .ref 38), (1, .int x1)] [] σ
  unfold f_MO_put at H
  refine jv_aload_n 0 (pc := 0) d_MO_put_0 rfl ?_
  refine jv_iconst 0 (pc := 1) d_MO_put_1 rfl ?_
  refine jv_puti (pc := 2) d_MO_put_2 fa_MO_34_MO fp_MO_0 (by decide) rfl rfl rfl rfl ?_
  refine jv_aload_n 0 (pc := 5) d_MO_put_5 rfl ?_
  refine jv_geti (pc := 6) d_MO_put_6 fa_MO_68_MO (by decide) rfl rfl ?_
  refine jv_if_ne 22 (pc := 9) d_MO_put_9 rfl (fun h9 => ?_) (fun h9 => ?_)
  · have h9 : ¬ ((σ 38 11) = 0) := h9
    have H := (if_neg h9).symm.trans H
    refine jv_iconst 0 (pc := 22) d_MO_put_22 rfl ?_
    refine jv_iret (pc := 23) d_MO_put_23 rfl rfl (Nat.zero_le _) (Nat.zero_le _) ?_
    cases H
    exact jI.of ⟨rfl, rfl⟩
  · have h9 : (σ 38 11) = 0 := h9
    have H := (if_pos h9).symm.trans H
    refine jv_aload_n 0 (pc := 12) d_MO_put_12 rfl ?_
    refine jv_geti (pc := 13) d_MO_put_13 fa_MO_71_MO (by decide) rfl rfl ?_
    refine jv_sipush (600) (pc := 16) d_MO_put_16 rfl ?_
    refine jv_icmp_ne 24 (pc := 19) d_MO_put_19 rfl (fun h19 => ?_) (fun h19 => ?_)
    · have h19 : ¬ ((σ 38 9) = (600 : Int32)) := h19
      have H := (if_neg h19).symm.trans H
      refine jv_aload_n 0 (pc := 24) d_MO_put_24 rfl ?_
      refine jv_getr (pc := 25) d_MO_put_25 fa_MO_28_MO (by decide) rfl rfl ?_
      refine jv_aload_n 0 (pc := 28) d_MO_put_28 rfl ?_
      refine jv_geti (pc := 29) d_MO_put_29 fa_MO_71_MO (by decide) rfl rfl ?_
      refine jv_iload_n 1 (pc := 32) d_MO_put_32 rfl ?_
      refine jv_sipush (255) (pc := 33) d_MO_put_33 rfl ?_
      refine jv_iand (pc := 36) d_MO_put_36 ?_
      obtain ⟨b37, H⟩ := jck_some H
      refine jv_iast (pc := 37) d_MO_put_37 (by decide) rfl b37 ?_
      refine jv_aload_n 0 (pc := 38) d_MO_put_38 rfl ?_
      refine jv_dup (pc := 39) d_MO_put_39 rfl ?_
      refine jv_geti (pc := 40) d_MO_put_40 fa_MO_71_MO (by decide) rfl rfl ?_
      refine jv_iconst 1 (pc := 43) d_MO_put_43 rfl ?_
      refine jv_iadd (pc := 44) d_MO_put_44 ?_
      refine jv_puti (pc := 45) d_MO_put_45 fa_MO_71_MO fp_MO_9 (by decide) rfl rfl rfl rfl ?_
      refine jv_iconst 1 (pc := 48) d_MO_put_48 rfl ?_
      refine jv_iret (pc := 49) d_MO_put_49 rfl rfl (Nat.zero_le _) (Nat.zero_le _) ?_
      cases H
      exact jI.of ⟨rfl, rfl⟩
    · have h19 : (σ 38 9) = (600 : Int32) := h19
      have H := (if_pos h19).symm.trans H
      refine jv_iconst 0 (pc := 22) d_MO_put_22 rfl ?_
      refine jv_iret (pc := 23) d_MO_put_23 rfl rfl (Nat.zero_le _) (Nat.zero_le _) ?_
      cases H
      exact jI.of ⟨rfl, rfl⟩
set_option maxRecDepth 20000 in
set_option maxHeartbeats 2000000 in
theorem sp_MO_cut {G : jG} {σ : jMem} (x1 : Int32) : jSp G M_MO_cut (jr 0 0 0) [.ref 38, .int x1] σ (jI fun r τ => r = (f_MO_cut x1 σ).1 ∧ τ = (f_MO_cut x1 σ).2) := by
  refine jSp.of rfl rfl (Nat.le_of_ble_eq_true rfl) ?_
  show jV _ _ _ _ 0 0 0 [(0, .ref 38), (1, .int x1)] [] σ
  refine jv_aload_n 0 (pc := 0) d_MO_cut_0 rfl ?_
  refine jv_iconst 0 (pc := 1) d_MO_cut_1 rfl ?_
  refine jv_puti (pc := 2) d_MO_cut_2 fa_MO_34_MO fp_MO_0 (by decide) rfl rfl (rfl) rfl ?_
  refine jv_aload_n 0 (pc := 5) d_MO_cut_5 rfl ?_
  refine jv_geti (pc := 6) d_MO_cut_6 fa_MO_68_MO (by decide) rfl rfl ?_
  refine jv_if_ne 24 (pc := 9) d_MO_cut_9 rfl (fun h9 => ?_) (fun h9 => ?_)
  · skip
    refine jv_iconst 0 (pc := 24) d_MO_cut_24 rfl ?_
    refine jv_iret (pc := 25) d_MO_cut_25 rfl ?_ (by decide) (by decide) ?_
    · rfl
    have h9 : ¬ ((σ 38 11) = 0) := h9
    refine jI.of ?_
    unfold f_MO_cut
    rw [if_neg h9]
    exact ⟨rfl, rfl⟩
  · skip
    refine jv_iload_n 1 (pc := 12) d_MO_cut_12 rfl ?_
    refine jv_if_lt 24 (pc := 13) d_MO_cut_13 rfl (fun h13 => ?_) (fun h13 => ?_)
    · skip
      refine jv_iconst 0 (pc := 24) d_MO_cut_24 rfl ?_
      refine jv_iret (pc := 25) d_MO_cut_25 rfl ?_ (by decide) (by decide) ?_
      · rfl
      have h9 : (σ 38 11) = 0 := h9
      have h13 : x1 < 0 := h13
      refine jI.of ?_
      unfold f_MO_cut
      rw [if_pos h9, if_pos h13]
      exact ⟨rfl, rfl⟩
    · skip
      refine jv_iload_n 1 (pc := 16) d_MO_cut_16 rfl ?_
      refine jv_aload_n 0 (pc := 17) d_MO_cut_17 rfl ?_
      refine jv_geti (pc := 18) d_MO_cut_18 fa_MO_71_MO (by decide) rfl rfl ?_
      refine jv_icmp_le 26 (pc := 21) d_MO_cut_21 rfl (fun h21 => ?_) (fun h21 => ?_)
      · skip
        refine jv_aload_n 0 (pc := 26) d_MO_cut_26 rfl ?_
        refine jv_iload_n 1 (pc := 27) d_MO_cut_27 rfl ?_
        refine jv_puti (pc := 28) d_MO_cut_28 fa_MO_71_MO fp_MO_9 (by decide) rfl rfl (rfl) rfl ?_
        refine jv_iconst 1 (pc := 31) d_MO_cut_31 rfl ?_
        refine jv_iret (pc := 32) d_MO_cut_32 rfl ?_ (by decide) (by decide) ?_
        · rfl
        have h9 : (σ 38 11) = 0 := h9
        have h13 : ¬ (x1 < 0) := h13
        have h21 : x1 ≤ (σ 38 9) := h21
        refine jI.of ?_
        unfold f_MO_cut
        rw [if_pos h9, if_neg h13, if_pos h21]
        exact ⟨rfl, rfl⟩
      · skip
        refine jv_iconst 0 (pc := 24) d_MO_cut_24 rfl ?_
        refine jv_iret (pc := 25) d_MO_cut_25 rfl ?_ (by decide) (by decide) ?_
        · rfl
        have h9 : (σ 38 11) = 0 := h9
        have h13 : ¬ (x1 < 0) := h13
        have h21 : ¬ (x1 ≤ (σ 38 9)) := h21
        refine jI.of ?_
        unfold f_MO_cut
        rw [if_pos h9, if_neg h13, if_neg h21]
        exact ⟨rfl, rfl⟩
set_option maxRecDepth 40000 in
set_option maxHeartbeats 8000000 in
theorem sp_MO_code {G : jG} {σ τ : jMem} {r : Int32} (x1 : Int32) (H : f_MO_code x1 σ = some (r, τ)) : jSp G M_MO_code (jr 0 0 0) [.ref 38, .int x1] σ (jI fun r9 τ9 => r9 = r ∧ τ9 = τ) := by
  refine jSp.of rfl rfl (Nat.le_of_ble_eq_true rfl) ?_
  show jV _ _ _ _ 0 0 0 [(0, .ref 38), (1, .int x1)] [] σ
  unfold f_MO_code at H
  refine jv_aload_n 0 (pc := 0) d_MO_code_0 rfl ?_
  refine jv_iload_n 1 (pc := 1) d_MO_code_1 rfl ?_
  refine jv_if_lt 13 (pc := 2) d_MO_code_2 rfl (fun h2 => ?_) (fun h2 => ?_)
  · have h2 : x1 < 0 := h2
    have H := (if_pos h2).symm.trans H
    refine jv_iconst 1 (pc := 13) d_MO_code_13 rfl ?_
    refine jv_goto 18 (pc := 14) d_MO_code_14 rfl ?_
    refine jv_puti (pc := 18) d_MO_code_18 fa_MO_34_MO fp_MO_0 (by decide) rfl rfl rfl rfl ?_
    refine jv_aload_n 0 (pc := 21) d_MO_code_21 rfl ?_
    refine jv_geti (pc := 22) d_MO_code_22 fa_MO_34_MO (by decide) rfl rfl ?_
    refine jv_if_ne 37 (pc := 25) d_MO_code_25 rfl (fun h25 => ?_) (fun h25 => absurd (show (1 : Int32) = 0 from h25) (by decide))
    refine jv_iconst 0 (pc := 37) d_MO_code_37 rfl ?_
    refine jv_iret (pc := 38) d_MO_code_38 rfl rfl (Nat.zero_le _) (Nat.zero_le _) ?_
    cases H
    exact jI.of ⟨rfl, rfl⟩
  · have h2 : ¬ (x1 < 0) := h2
    have H := (if_neg h2).symm.trans H
    refine jv_iload_n 1 (pc := 5) d_MO_code_5 rfl ?_
    refine jv_aload_n 0 (pc := 6) d_MO_code_6 rfl ?_
    refine jv_geti (pc := 7) d_MO_code_7 fa_MO_71_MO (by decide) rfl rfl ?_
    refine jv_icmp_lt 17 (pc := 10) d_MO_code_10 rfl (fun h10 => ?_) (fun h10 => ?_)
    · have h10 : x1 < (σ 38 9) := h10
      have H := (if_pos h10).symm.trans H
      refine jv_iconst 0 (pc := 17) d_MO_code_17 rfl ?_
      refine jv_puti (pc := 18) d_MO_code_18 fa_MO_34_MO fp_MO_0 (by decide) rfl rfl rfl rfl ?_
      refine jv_aload_n 0 (pc := 21) d_MO_code_21 rfl ?_
      refine jv_geti (pc := 22) d_MO_code_22 fa_MO_34_MO (by decide) rfl rfl ?_
      refine jv_if_ne 37 (pc := 25) d_MO_code_25 rfl (fun h25 => absurd (show (0 : Int32) = 0 by decide) (show ¬ ((0 : Int32) = 0) from h25)) (fun h25 => ?_)
      refine jv_aload_n 0 (pc := 28) d_MO_code_28 rfl ?_
      refine jv_getr (pc := 29) d_MO_code_29 fa_MO_28_MO (by decide) rfl rfl ?_
      refine jv_iload_n 1 (pc := 32) d_MO_code_32 rfl ?_
      obtain ⟨b33, H⟩ := jck_some H
      refine jv_iald (pc := 33) d_MO_code_33 (by decide) rfl b33 ?_
      refine jv_goto 38 (pc := 34) d_MO_code_34 rfl ?_
      refine jv_iret (pc := 38) d_MO_code_38 rfl rfl (Nat.zero_le _) (Nat.zero_le _) ?_
      cases H
      exact jI.of ⟨rfl, rfl⟩
    · have h10 : ¬ (x1 < (σ 38 9)) := h10
      have H := (if_neg h10).symm.trans H
      refine jv_iconst 1 (pc := 13) d_MO_code_13 rfl ?_
      refine jv_goto 18 (pc := 14) d_MO_code_14 rfl ?_
      refine jv_puti (pc := 18) d_MO_code_18 fa_MO_34_MO fp_MO_0 (by decide) rfl rfl rfl rfl ?_
      refine jv_aload_n 0 (pc := 21) d_MO_code_21 rfl ?_
      refine jv_geti (pc := 22) d_MO_code_22 fa_MO_34_MO (by decide) rfl rfl ?_
      refine jv_if_ne 37 (pc := 25) d_MO_code_25 rfl (fun h25 => ?_) (fun h25 => absurd (show (1 : Int32) = 0 from h25) (by decide))
      refine jv_iconst 0 (pc := 37) d_MO_code_37 rfl ?_
      refine jv_iret (pc := 38) d_MO_code_38 rfl rfl (Nat.zero_le _) (Nat.zero_le _) ?_
      cases H
      exact jI.of ⟨rfl, rfl⟩
set_option maxRecDepth 20000 in
set_option maxHeartbeats 2000000 in
theorem sp_MO_sizes {G : jG} {σ : jMem} (x0 : Int32) : jSp G M_MO_sizes (jr 0 0 0) [.int x0] σ (jL fun r τ => r = f_MO_sizes x0 σ ∧ τ = σ) := by
  refine jSp.of rfl rfl (Nat.le_of_ble_eq_true rfl) ?_
  show jV _ _ _ _ 0 0 0 [(0, .int x0)] [] σ
  refine jv_iload_n 0 (pc := 0) d_MO_sizes_0 rfl ?_
  by_cases h1_0 : x0 = 0
  · refine jv_tin 60 (pc := 1) d_MO_sizes_1 (by rw [h1_0]; decide) (by rw [h1_0]; decide) (by rw [h1_0]; rfl) rfl ?_
    refine jv_ldc2 (774927004330972673) (pc := 60) d_MO_sizes_60 (jin4 205 rfl rfl) ?_
    refine jv_lret (pc := 63) d_MO_sizes_63 rfl (by decide) (by decide) ?_
    have h1_0 : x0 = 0 := h1_0
    refine jL.of ?_
    unfold f_MO_sizes
    rw [if_pos h1_0]
    exact ⟨rfl, rfl⟩
  by_cases h1_1 : x0 = 1
  · refine jv_tin 64 (pc := 1) d_MO_sizes_1 (by rw [h1_1]; decide) (by rw [h1_1]; decide) (by rw [h1_1]; rfl) rfl ?_
    refine jv_ldc2 (6053213936493331745) (pc := 64) d_MO_sizes_64 (jin4 206 rfl rfl) ?_
    refine jv_lret (pc := 67) d_MO_sizes_67 rfl (by decide) (by decide) ?_
    have h1_0 : ¬ (x0 = 0) := h1_0
    have h1_1 : x0 = 1 := h1_1
    refine jL.of ?_
    unfold f_MO_sizes
    rw [if_neg h1_0, if_pos h1_1]
    exact ⟨rfl, rfl⟩
  by_cases h1_2 : x0 = 2
  · refine jv_tin 68 (pc := 1) d_MO_sizes_1 (by rw [h1_2]; decide) (by rw [h1_2]; decide) (by rw [h1_2]; rfl) rfl ?_
    refine jv_ldc2 (2594407642134824961) (pc := 68) d_MO_sizes_68 (jin4 207 rfl rfl) ?_
    refine jv_lret (pc := 71) d_MO_sizes_71 rfl (by decide) (by decide) ?_
    have h1_0 : ¬ (x0 = 0) := h1_0
    have h1_1 : ¬ (x0 = 1) := h1_1
    have h1_2 : x0 = 2 := h1_2
    refine jL.of ?_
    unfold f_MO_sizes
    rw [if_neg h1_0, if_neg h1_1, if_pos h1_2]
    exact ⟨rfl, rfl⟩
  by_cases h1_3 : x0 = 3
  · refine jv_tin 72 (pc := 1) d_MO_sizes_1 (by rw [h1_3]; decide) (by rw [h1_3]; decide) (by rw [h1_3]; rfl) rfl ?_
    refine jv_ldc2 (6053213936826784769) (pc := 72) d_MO_sizes_72 (jin4 208 rfl rfl) ?_
    refine jv_lret (pc := 75) d_MO_sizes_75 rfl (by decide) (by decide) ?_
    have h1_0 : ¬ (x0 = 0) := h1_0
    have h1_1 : ¬ (x0 = 1) := h1_1
    have h1_2 : ¬ (x0 = 2) := h1_2
    have h1_3 : x0 = 3 := h1_3
    refine jL.of ?_
    unfold f_MO_sizes
    rw [if_neg h1_0, if_neg h1_1, if_neg h1_2, if_pos h1_3]
    exact ⟨rfl, rfl⟩
  by_cases h1_4 : x0 = 4
  · refine jv_tin 76 (pc := 1) d_MO_sizes_1 (by rw [h1_4]; decide) (by rw [h1_4]; decide) (by rw [h1_4]; rfl) rfl ?_
    refine jv_ldc2 (3747337943103131905) (pc := 76) d_MO_sizes_76 (jin4 209 rfl rfl) ?_
    refine jv_lret (pc := 79) d_MO_sizes_79 rfl (by decide) (by decide) ?_
    have h1_0 : ¬ (x0 = 0) := h1_0
    have h1_1 : ¬ (x0 = 1) := h1_1
    have h1_2 : ¬ (x0 = 2) := h1_2
    have h1_3 : ¬ (x0 = 3) := h1_3
    have h1_4 : x0 = 4 := h1_4
    refine jL.of ?_
    unfold f_MO_sizes
    rw [if_neg h1_0, if_neg h1_1, if_neg h1_2, if_neg h1_3, if_pos h1_4]
    exact ⟨rfl, rfl⟩
  by_cases h1_5 : x0 = 5
  · refine jv_tin 80 (pc := 1) d_MO_sizes_1 (by rw [h1_5]; decide) (by rw [h1_5]; decide) (by rw [h1_5]; rfl) rfl ?_
    refine jv_ldc2 (2450279259650994177) (pc := 80) d_MO_sizes_80 (jin4 210 rfl rfl) ?_
    refine jv_lret (pc := 83) d_MO_sizes_83 rfl (by decide) (by decide) ?_
    have h1_0 : ¬ (x0 = 0) := h1_0
    have h1_1 : ¬ (x0 = 1) := h1_1
    have h1_2 : ¬ (x0 = 2) := h1_2
    have h1_3 : ¬ (x0 = 3) := h1_3
    have h1_4 : ¬ (x0 = 4) := h1_4
    have h1_5 : x0 = 5 := h1_5
    refine jL.of ?_
    unfold f_MO_sizes
    rw [if_neg h1_0, if_neg h1_1, if_neg h1_2, if_neg h1_3, if_neg h1_4, if_pos h1_5]
    exact ⟨rfl, rfl⟩
  by_cases h1_6 : x0 = 6
  · refine jv_tin 84 (pc := 1) d_MO_sizes_1 (by rw [h1_6]; decide) (by rw [h1_6]; decide) (by rw [h1_6]; rfl) rfl ?_
    refine jv_ldc2 (1441457549688773633) (pc := 84) d_MO_sizes_84 (jin4 211 rfl rfl) ?_
    refine jv_lret (pc := 87) d_MO_sizes_87 rfl (by decide) (by decide) ?_
    have h1_0 : ¬ (x0 = 0) := h1_0
    have h1_1 : ¬ (x0 = 1) := h1_1
    have h1_2 : ¬ (x0 = 2) := h1_2
    have h1_3 : ¬ (x0 = 3) := h1_3
    have h1_4 : ¬ (x0 = 4) := h1_4
    have h1_5 : ¬ (x0 = 5) := h1_5
    have h1_6 : x0 = 6 := h1_6
    refine jL.of ?_
    unfold f_MO_sizes
    rw [if_neg h1_0, if_neg h1_1, if_neg h1_2, if_neg h1_3, if_neg h1_4, if_neg h1_5, if_pos h1_6]
    exact ⟨rfl, rfl⟩
  by_cases h1_7 : x0 = 7
  · refine jv_tin 88 (pc := 1) d_MO_sizes_1 (by rw [h1_7]; decide) (by rw [h1_7]; decide) (by rw [h1_7]; rfl) rfl ?_
    refine jv_ldc2 (702854841176756737) (pc := 88) d_MO_sizes_88 (jin4 212 rfl rfl) ?_
    refine jv_lret (pc := 91) d_MO_sizes_91 rfl (by decide) (by decide) ?_
    have h1_0 : ¬ (x0 = 0) := h1_0
    have h1_1 : ¬ (x0 = 1) := h1_1
    have h1_2 : ¬ (x0 = 2) := h1_2
    have h1_3 : ¬ (x0 = 3) := h1_3
    have h1_4 : ¬ (x0 = 4) := h1_4
    have h1_5 : ¬ (x0 = 5) := h1_5
    have h1_6 : ¬ (x0 = 6) := h1_6
    have h1_7 : x0 = 7 := h1_7
    refine jL.of ?_
    unfold f_MO_sizes
    rw [if_neg h1_0, if_neg h1_1, if_neg h1_2, if_neg h1_3, if_neg h1_4, if_neg h1_5, if_neg h1_6, if_pos h1_7]
    exact ⟨rfl, rfl⟩
  by_cases h1_8 : x0 = 8
  · refine jv_tin 92 (pc := 1) d_MO_sizes_1 (by rw [h1_8]; decide) (by rw [h1_8]; decide) (by rw [h1_8]; rfl) rfl ?_
    refine jv_ldc2 (189437336631707809) (pc := 92) d_MO_sizes_92 (jin4 213 rfl rfl) ?_
    refine jv_lret (pc := 95) d_MO_sizes_95 rfl (by decide) (by decide) ?_
    have h1_0 : ¬ (x0 = 0) := h1_0
    have h1_1 : ¬ (x0 = 1) := h1_1
    have h1_2 : ¬ (x0 = 2) := h1_2
    have h1_3 : ¬ (x0 = 3) := h1_3
    have h1_4 : ¬ (x0 = 4) := h1_4
    have h1_5 : ¬ (x0 = 5) := h1_5
    have h1_6 : ¬ (x0 = 6) := h1_6
    have h1_7 : ¬ (x0 = 7) := h1_7
    have h1_8 : x0 = 8 := h1_8
    refine jL.of ?_
    unfold f_MO_sizes
    rw [if_neg h1_0, if_neg h1_1, if_neg h1_2, if_neg h1_3, if_neg h1_4, if_neg h1_5, if_neg h1_6, if_neg h1_7, if_pos h1_8]
    exact ⟨rfl, rfl⟩
  by_cases h1_9 : x0 = 9
  · refine jv_tin 96 (pc := 1) d_MO_sizes_1 (by rw [h1_9]; decide) (by rw [h1_9]; decide) (by rw [h1_9]; rfl) rfl ?_
    refine jv_ldc2 (37437344449626657) (pc := 96) d_MO_sizes_96 (jin4 214 rfl rfl) ?_
    refine jv_lret (pc := 99) d_MO_sizes_99 rfl (by decide) (by decide) ?_
    have h1_0 : ¬ (x0 = 0) := h1_0
    have h1_1 : ¬ (x0 = 1) := h1_1
    have h1_2 : ¬ (x0 = 2) := h1_2
    have h1_3 : ¬ (x0 = 3) := h1_3
    have h1_4 : ¬ (x0 = 4) := h1_4
    have h1_5 : ¬ (x0 = 5) := h1_5
    have h1_6 : ¬ (x0 = 6) := h1_6
    have h1_7 : ¬ (x0 = 7) := h1_7
    have h1_8 : ¬ (x0 = 8) := h1_8
    have h1_9 : x0 = 9 := h1_9
    refine jL.of ?_
    unfold f_MO_sizes
    rw [if_neg h1_0, if_neg h1_1, if_neg h1_2, if_neg h1_3, if_neg h1_4, if_neg h1_5, if_neg h1_6, if_neg h1_7, if_neg h1_8, if_pos h1_9]
    exact ⟨rfl, rfl⟩
  by_cases h1_10 : x0 = 10
  · refine jv_tin 100 (pc := 1) d_MO_sizes_1 (by rw [h1_10]; decide) (by rw [h1_10]; decide) (by rw [h1_10]; rfl) rfl ?_
    refine jv_ldc2 (2533364987134025) (pc := 100) d_MO_sizes_100 (jin4 215 rfl rfl) ?_
    refine jv_lret (pc := 103) d_MO_sizes_103 rfl (by decide) (by decide) ?_
    have h1_0 : ¬ (x0 = 0) := h1_0
    have h1_1 : ¬ (x0 = 1) := h1_1
    have h1_2 : ¬ (x0 = 2) := h1_2
    have h1_3 : ¬ (x0 = 3) := h1_3
    have h1_4 : ¬ (x0 = 4) := h1_4
    have h1_5 : ¬ (x0 = 5) := h1_5
    have h1_6 : ¬ (x0 = 6) := h1_6
    have h1_7 : ¬ (x0 = 7) := h1_7
    have h1_8 : ¬ (x0 = 8) := h1_8
    have h1_9 : ¬ (x0 = 9) := h1_9
    have h1_10 : x0 = 10 := h1_10
    refine jL.of ?_
    unfold f_MO_sizes
    rw [if_neg h1_0, if_neg h1_1, if_neg h1_2, if_neg h1_3, if_neg h1_4, if_neg h1_5, if_neg h1_6, if_neg h1_7, if_neg h1_8, if_neg h1_9, if_pos h1_10]
    exact ⟨rfl, rfl⟩
  refine jv_tout 104 (pc := 1) d_MO_sizes_1 (by have a0 : (x0).toInt ≠ 0 := fun q => h1_0 (Int32.toInt_inj.mp q); have a1 : (x0).toInt ≠ 1 := fun q => h1_1 (Int32.toInt_inj.mp q); have a2 : (x0).toInt ≠ 2 := fun q => h1_2 (Int32.toInt_inj.mp q); have a3 : (x0).toInt ≠ 3 := fun q => h1_3 (Int32.toInt_inj.mp q); have a4 : (x0).toInt ≠ 4 := fun q => h1_4 (Int32.toInt_inj.mp q); have a5 : (x0).toInt ≠ 5 := fun q => h1_5 (Int32.toInt_inj.mp q); have a6 : (x0).toInt ≠ 6 := fun q => h1_6 (Int32.toInt_inj.mp q); have a7 : (x0).toInt ≠ 7 := fun q => h1_7 (Int32.toInt_inj.mp q); have a8 : (x0).toInt ≠ 8 := fun q => h1_8 (Int32.toInt_inj.mp q); have a9 : (x0).toInt ≠ 9 := fun q => h1_9 (Int32.toInt_inj.mp q); have a10 : (x0).toInt ≠ 10 := fun q => h1_10 (Int32.toInt_inj.mp q); omega) rfl ?_
  refine jv_ldc2 (94562295021573) (pc := 104) d_MO_sizes_104 (jin4 216 rfl rfl) ?_
  refine jv_lret (pc := 107) d_MO_sizes_107 rfl (by decide) (by decide) ?_
  have h1_0 : ¬ (x0 = 0) := h1_0
  have h1_1 : ¬ (x0 = 1) := h1_1
  have h1_2 : ¬ (x0 = 2) := h1_2
  have h1_3 : ¬ (x0 = 3) := h1_3
  have h1_4 : ¬ (x0 = 4) := h1_4
  have h1_5 : ¬ (x0 = 5) := h1_5
  have h1_6 : ¬ (x0 = 6) := h1_6
  have h1_7 : ¬ (x0 = 7) := h1_7
  have h1_8 : ¬ (x0 = 8) := h1_8
  have h1_9 : ¬ (x0 = 9) := h1_9
  have h1_10 : ¬ (x0 = 10) := h1_10
  refine jL.of ?_
  unfold f_MO_sizes
  rw [if_neg h1_0, if_neg h1_1, if_neg h1_2, if_neg h1_3, if_neg h1_4, if_neg h1_5, if_neg h1_6, if_neg h1_7, if_neg h1_8, if_neg h1_9, if_neg h1_10]
  exact ⟨rfl, rfl⟩
set_option maxRecDepth 20000 in
set_option maxHeartbeats 2000000 in
theorem sp_MO_lesses {G : jG} {σ : jMem} (x0 : Int32) : jSp G M_MO_lesses (jr 0 0 0) [.int x0] σ (jL fun r τ => r = f_MO_lesses x0 σ ∧ τ = σ) := by
  refine jSp.of rfl rfl (Nat.le_of_ble_eq_true rfl) ?_
  show jV _ _ _ _ 0 0 0 [(0, .int x0)] [] σ
  refine jv_iload_n 0 (pc := 0) d_MO_lesses_0 rfl ?_
  refine jv_if_ne 10 (pc := 1) d_MO_lesses_1 rfl (fun h1 => ?_) (fun h1 => ?_)
  · skip
    refine jv_iload_n 0 (pc := 10) d_MO_lesses_10 rfl ?_
    refine jv_iconst 1 (pc := 11) d_MO_lesses_11 rfl ?_
    refine jv_icmp_ne 21 (pc := 12) d_MO_lesses_12 rfl (fun h12 => ?_) (fun h12 => ?_)
    · skip
      refine jv_ldc2 (1518859946959114255) (pc := 21) d_MO_lesses_21 (jin4 237 rfl rfl) ?_
      refine jv_lret (pc := 24) d_MO_lesses_24 rfl (by decide) (by decide) ?_
      have h1 : ¬ (x0 = 0) := h1
      have h12 : ¬ (x0 = (1 : Int32)) := h12
      refine jL.of ?_
      unfold f_MO_lesses
      rw [if_neg h1, if_neg h12]
      exact ⟨rfl, rfl⟩
    · skip
      refine jv_ldc2 (1012770142151577102) (pc := 15) d_MO_lesses_15 (jin4 236 rfl rfl) ?_
      refine jv_goto 24 (pc := 18) d_MO_lesses_18 rfl ?_
      refine jv_lret (pc := 24) d_MO_lesses_24 rfl (by decide) (by decide) ?_
      have h1 : ¬ (x0 = 0) := h1
      have h12 : x0 = (1 : Int32) := h12
      refine jL.of ?_
      unfold f_MO_lesses
      rw [if_neg h1, if_pos h12]
      exact ⟨rfl, rfl⟩
  · skip
    refine jv_ldc2 (1010531575030941185) (pc := 4) d_MO_lesses_4 (jin4 235 rfl rfl) ?_
    refine jv_goto 24 (pc := 7) d_MO_lesses_7 rfl ?_
    refine jv_lret (pc := 24) d_MO_lesses_24 rfl (by decide) (by decide) ?_
    have h1 : x0 = 0 := h1
    refine jL.of ?_
    unfold f_MO_lesses
    rw [if_pos h1]
    exact ⟨rfl, rfl⟩
set_option maxRecDepth 20000 in
set_option maxHeartbeats 2000000 in
theorem sp_MO_sizeOf {G : jG} {σ : jMem} (x0 : Int32) : jSp G M_MO_sizeOf (jr 1 0 0) [.int x0] σ (jI fun r τ => r = f_MO_sizeOf x0 σ ∧ τ = σ) := by
  refine jSp.of rfl rfl (Nat.le_of_ble_eq_true rfl) ?_
  show jV _ _ _ _ 0 0 0 [(0, .int x0)] [] σ
  refine jv_iload_n 0 (pc := 0) d_MO_sizeOf_0 rfl ?_
  refine jv_iconst 4 (pc := 1) d_MO_sizeOf_1 rfl ?_
  refine jv_idiv (pc := 2) d_MO_sizeOf_2 (by decide) ?_
  refine jv_callSl (sp_MO_sizes (x0 / (4 : Int32))) (pc := 3) d_MO_sizeOf_3 c0_MO_sizes lk_MO_104 si_MO_sizes rfl (Nat.le_of_ble_eq_true rfl) ⟨by decide, by decide, by decide, by decide⟩ (fun r3 m3 h3 => ?_)
  obtain ⟨ha3, hb3⟩ := h3
  subst ha3
  have hb3 := hb3.symm
  subst hb3
  refine jv_bipush (16) (pc := 6) d_MO_sizeOf_6 rfl ?_
  refine jv_iload_n 0 (pc := 8) d_MO_sizeOf_8 rfl ?_
  refine jv_iconst 4 (pc := 9) d_MO_sizeOf_9 rfl ?_
  refine jv_irem (pc := 10) d_MO_sizeOf_10 (by decide) ?_
  refine jv_imul (pc := 11) d_MO_sizeOf_11 ?_
  refine jv_lshr (pc := 12) d_MO_sizeOf_12 ?_
  refine jv_ldc2 (65535) (pc := 13) d_MO_sizeOf_13 (jin4 217 rfl rfl) ?_
  refine jv_land (pc := 16) d_MO_sizeOf_16 ?_
  refine jv_l2i (pc := 17) d_MO_sizeOf_17 ?_
  refine jv_iret (pc := 18) d_MO_sizeOf_18 rfl ?_ (by decide) (by decide) ?_
  · rfl
  refine jI.of ?_
  unfold f_MO_sizeOf
  exact ⟨rfl, rfl⟩
set_option maxRecDepth 20000 in
set_option maxHeartbeats 2000000 in
theorem sp_MO_lessOf {G : jG} {σ : jMem} (x0 : Int32) : jSp G M_MO_lessOf (jr 1 0 0) [.int x0] σ (jI fun r τ => r = f_MO_lessOf x0 σ ∧ τ = σ) := by
  refine jSp.of rfl rfl (Nat.le_of_ble_eq_true rfl) ?_
  show jV _ _ _ _ 0 0 0 [(0, .int x0)] [] σ
  refine jv_iload_n 0 (pc := 0) d_MO_lessOf_0 rfl ?_
  refine jv_bipush (46) (pc := 1) d_MO_lessOf_1 rfl ?_
  refine jv_icmp_ne 11 (pc := 3) d_MO_lessOf_3 rfl (fun h3 => ?_) (fun h3 => ?_)
  · skip
    refine jv_iload_n 0 (pc := 11) d_MO_lessOf_11 rfl ?_
    refine jv_bipush (23) (pc := 12) d_MO_lessOf_12 rfl ?_
    refine jv_icmp_le 23 (pc := 14) d_MO_lessOf_14 rfl (fun h14 => ?_) (fun h14 => ?_)
    · skip
      refine jv_iload_n 0 (pc := 23) d_MO_lessOf_23 rfl ?_
      refine jv_bipush (8) (pc := 24) d_MO_lessOf_24 rfl ?_
      refine jv_idiv (pc := 26) d_MO_lessOf_26 (by decide) ?_
      refine jv_callSl (sp_MO_lesses (x0 / (8 : Int32))) (pc := 27) d_MO_lessOf_27 c0_MO_lesses lk_MO_110 si_MO_lesses rfl (Nat.le_of_ble_eq_true rfl) ⟨by decide, by decide, by decide, by decide⟩ (fun r27 m27 h27 => ?_)
      obtain ⟨ha27, hb27⟩ := h27
      subst ha27
      have hb27 := hb27.symm
      subst hb27
      refine jv_bipush (8) (pc := 30) d_MO_lessOf_30 rfl ?_
      refine jv_iload_n 0 (pc := 32) d_MO_lessOf_32 rfl ?_
      refine jv_bipush (8) (pc := 33) d_MO_lessOf_33 rfl ?_
      refine jv_irem (pc := 35) d_MO_lessOf_35 (by decide) ?_
      refine jv_imul (pc := 36) d_MO_lessOf_36 ?_
      refine jv_lshr (pc := 37) d_MO_lessOf_37 ?_
      refine jv_ldc2 (255) (pc := 38) d_MO_lessOf_38 (jin4 238 rfl rfl) ?_
      refine jv_land (pc := 41) d_MO_lessOf_41 ?_
      refine jv_l2i (pc := 42) d_MO_lessOf_42 ?_
      refine jv_iret (pc := 43) d_MO_lessOf_43 rfl ?_ (by decide) (by decide) ?_
      · rfl
      have h3 : ¬ (x0 = (46 : Int32)) := h3
      have h14 : x0 ≤ (23 : Int32) := h14
      refine jI.of ?_
      unfold f_MO_lessOf
      rw [if_neg h3, if_pos h14]
      exact ⟨rfl, rfl⟩
    · skip
      refine jv_iload_n 0 (pc := 17) d_MO_lessOf_17 rfl ?_
      refine jv_iconst 2 (pc := 18) d_MO_lessOf_18 rfl ?_
      refine jv_isub (pc := 19) d_MO_lessOf_19 ?_
      refine jv_goto 43 (pc := 20) d_MO_lessOf_20 rfl ?_
      refine jv_iret (pc := 43) d_MO_lessOf_43 rfl ?_ (by decide) (by decide) ?_
      · rfl
      have h3 : ¬ (x0 = (46 : Int32)) := h3
      have h14 : ¬ (x0 ≤ (23 : Int32)) := h14
      refine jI.of ?_
      unfold f_MO_lessOf
      rw [if_neg h3, if_neg h14]
      exact ⟨rfl, rfl⟩
  · skip
    refine jv_bipush (46) (pc := 6) d_MO_lessOf_6 rfl ?_
    refine jv_goto 43 (pc := 8) d_MO_lessOf_8 rfl ?_
    refine jv_iret (pc := 43) d_MO_lessOf_43 rfl ?_ (by decide) (by decide) ?_
    · rfl
    have h3 : x0 = (46 : Int32) := h3
    refine jI.of ?_
    unfold f_MO_lessOf
    rw [if_pos h3]
    exact ⟨rfl, rfl⟩
set_option maxRecDepth 40000 in
set_option maxHeartbeats 8000000 in
theorem sp_MO_usual {G : jG} {σ τ : jMem} {r : Unit} (x1 : Int32) (H : f_MO_usual x1 σ = some (r, τ)) : jSp G M_MO_usual (jr 1 0 0) [.ref 38, .int x1] σ (jU fun τ9 => τ9 = τ) := by
  refine jSp.of rfl rfl (Nat.le_of_ble_eq_true rfl) ?_
  show jV _ _ _ _ 0 0 0 [(0, .ref 38), (1, .int x1)] [] σ
  unfold f_MO_usual at H
  refine jv_aload_n 0 (pc := 0) d_MO_usual_0 rfl ?_
  refine jv_getr (pc := 1) d_MO_usual_1 fa_MO_31_MO (by decide) rfl rfl ?_
  refine jv_iload_n 1 (pc := 4) d_MO_usual_4 rfl ?_
  refine jv_iconst 2 (pc := 5) d_MO_usual_5 rfl ?_
  refine jv_aload_n 0 (pc := 6) d_MO_usual_6 rfl ?_
  refine jv_getr (pc := 7) d_MO_usual_7 fa_MO_31_MO (by decide) rfl rfl ?_
  refine jv_iload_n 1 (pc := 10) d_MO_usual_10 rfl ?_
  obtain ⟨b11, H⟩ := jck_some H
  refine jv_iald (pc := 11) d_MO_usual_11 (by decide) rfl b11 ?_
  refine jv_iconst 2 (pc := 12) d_MO_usual_12 rfl ?_
  refine jv_idiv (pc := 13) d_MO_usual_13 (by decide) ?_
  refine jv_callSi (sp_MO_nextOf ((σ 46 x1.toNatClampNeg) / (2 : Int32))) (pc := 14) d_MO_usual_14 c0_MO_nextOf lk_MO_115 si_MO_nextOf rfl (Nat.le_of_ble_eq_true rfl) ⟨by decide, by decide, by decide, by decide⟩ (fun r14 m14 h14 => ?_)
  obtain ⟨ha14, hb14⟩ := h14
  subst ha14
  have hb14 := hb14.symm
  subst hb14
  refine jv_imul (pc := 17) d_MO_usual_17 ?_
  refine jv_aload_n 0 (pc := 18) d_MO_usual_18 rfl ?_
  refine jv_getr (pc := 19) d_MO_usual_19 fa_MO_31_MO (by decide) rfl rfl ?_
  refine jv_iload_n 1 (pc := 22) d_MO_usual_22 rfl ?_
  obtain ⟨b23, H⟩ := jck_some H
  refine jv_iald (pc := 23) d_MO_usual_23 (by decide) rfl b23 ?_
  refine jv_iconst 2 (pc := 24) d_MO_usual_24 rfl ?_
  refine jv_irem (pc := 25) d_MO_usual_25 (by decide) ?_
  refine jv_iadd (pc := 26) d_MO_usual_26 ?_
  obtain ⟨b27, H⟩ := jck_some H
  refine jv_iast (pc := 27) d_MO_usual_27 (by decide) rfl b27 ?_
  refine jv_vret (pc := 28) d_MO_usual_28 rfl (Nat.zero_le _) (Nat.zero_le _) ?_
  cases H
  exact jU.of rfl
set_option maxRecDepth 40000 in
set_option maxHeartbeats 8000000 in
theorem sp_MO_wrong {G : jG} {σ τ : jMem} {r : Unit} (x1 : Int32) (H : f_MO_wrong x1 σ = some (r, τ)) : jSp G M_MO_wrong (jr 2 0 0) [.ref 38, .int x1] σ (jU fun τ9 => τ9 = τ) := by
  refine jSp.of rfl rfl (Nat.le_of_ble_eq_true rfl) ?_
  show jV _ _ _ _ 0 0 0 [(0, .ref 38), (1, .int x1)] [] σ
  unfold f_MO_wrong at H
  refine jv_aload_n 0 (pc := 0) d_MO_wrong_0 rfl ?_
  refine jv_getr (pc := 1) d_MO_wrong_1 fa_MO_31_MO (by decide) rfl rfl ?_
  refine jv_iload_n 1 (pc := 4) d_MO_wrong_4 rfl ?_
  obtain ⟨b5, H⟩ := jck_some H
  refine jv_iald (pc := 5) d_MO_wrong_5 (by decide) rfl b5 ?_
  refine jv_iconst 2 (pc := 6) d_MO_wrong_6 rfl ?_
  refine jv_idiv (pc := 7) d_MO_wrong_7 (by decide) ?_
  refine jv_istore_n (pc := 8) d_MO_wrong_8 rfl (by decide) (jsto_new rfl) ?_
  refine jv_iload_n 0 (pc := 9) d_MO_wrong_9 rfl ?_
  refine jv_if_eq 25 (pc := 10) d_MO_wrong_10 rfl (fun h10 => ?_) (fun h10 => ?_)
  · have h10 : ((σ 46 x1.toNatClampNeg) / (2 : Int32)) = 0 := h10
    have H := (if_pos h10).symm.trans H
    refine jv_iconst 1 (pc := 25) d_MO_wrong_25 rfl ?_
    refine jv_aload_n 1 (pc := 26) d_MO_wrong_26 rfl ?_
    refine jv_getr (pc := 27) d_MO_wrong_27 fa_MO_31_MO (by decide) rfl rfl ?_
    refine jv_iload_n 2 (pc := 30) d_MO_wrong_30 rfl ?_
    obtain ⟨b31, H⟩ := jck_some H
    refine jv_iald (pc := 31) d_MO_wrong_31 (by decide) rfl b31 ?_
    refine jv_iconst 2 (pc := 32) d_MO_wrong_32 rfl ?_
    refine jv_irem (pc := 33) d_MO_wrong_33 (by decide) ?_
    refine jv_isub (pc := 34) d_MO_wrong_34 ?_
    refine jv_goto 46 (pc := 35) d_MO_wrong_35 rfl ?_
    refine jv_istore_n (pc := 46) d_MO_wrong_46 rfl (by decide) (jsto_new rfl) ?_
    refine jv_aload_n 2 (pc := 47) d_MO_wrong_47 rfl ?_
    refine jv_getr (pc := 48) d_MO_wrong_48 fa_MO_31_MO (by decide) rfl rfl ?_
    refine jv_iload_n 3 (pc := 51) d_MO_wrong_51 rfl ?_
    refine jv_iconst 2 (pc := 52) d_MO_wrong_52 rfl ?_
    refine jv_iload_n 1 (pc := 53) d_MO_wrong_53 rfl ?_
    refine jv_callSi (sp_MO_lessOf ((σ 46 x1.toNatClampNeg) / (2 : Int32))) (pc := 54) d_MO_wrong_54 c0_MO_lessOf lk_MO_119 si_MO_lessOf rfl (Nat.le_of_ble_eq_true rfl) ⟨by decide, by decide, by decide, by decide⟩ (fun r54 m54 h54 => ?_)
    obtain ⟨ha54, hb54⟩ := h54
    subst ha54
    have hb54 := hb54.symm
    subst hb54
    refine jv_imul (pc := 57) d_MO_wrong_57 ?_
    refine jv_iload_n 0 (pc := 58) d_MO_wrong_58 rfl ?_
    refine jv_iadd (pc := 59) d_MO_wrong_59 ?_
    obtain ⟨b60, H⟩ := jck_some H
    refine jv_iast (pc := 60) d_MO_wrong_60 (by decide) rfl b60 ?_
    refine jv_vret (pc := 61) d_MO_wrong_61 rfl (Nat.zero_le _) (Nat.zero_le _) ?_
    cases H
    exact jU.of rfl
  · have h10 : ¬ (((σ 46 x1.toNatClampNeg) / (2 : Int32)) = 0) := h10
    have H := (if_neg h10).symm.trans H
    refine jv_iload_n 0 (pc := 13) d_MO_wrong_13 rfl ?_
    refine jv_bipush (6) (pc := 14) d_MO_wrong_14 rfl ?_
    refine jv_icmp_eq 25 (pc := 16) d_MO_wrong_16 rfl (fun h16 => ?_) (fun h16 => ?_)
    · have h16 : ((σ 46 x1.toNatClampNeg) / (2 : Int32)) = (6 : Int32) := h16
      have H := (if_pos h16).symm.trans H
      refine jv_iconst 1 (pc := 25) d_MO_wrong_25 rfl ?_
      refine jv_aload_n 1 (pc := 26) d_MO_wrong_26 rfl ?_
      refine jv_getr (pc := 27) d_MO_wrong_27 fa_MO_31_MO (by decide) rfl rfl ?_
      refine jv_iload_n 2 (pc := 30) d_MO_wrong_30 rfl ?_
      obtain ⟨b31, H⟩ := jck_some H
      refine jv_iald (pc := 31) d_MO_wrong_31 (by decide) rfl b31 ?_
      refine jv_iconst 2 (pc := 32) d_MO_wrong_32 rfl ?_
      refine jv_irem (pc := 33) d_MO_wrong_33 (by decide) ?_
      refine jv_isub (pc := 34) d_MO_wrong_34 ?_
      refine jv_goto 46 (pc := 35) d_MO_wrong_35 rfl ?_
      refine jv_istore_n (pc := 46) d_MO_wrong_46 rfl (by decide) (jsto_new rfl) ?_
      refine jv_aload_n 2 (pc := 47) d_MO_wrong_47 rfl ?_
      refine jv_getr (pc := 48) d_MO_wrong_48 fa_MO_31_MO (by decide) rfl rfl ?_
      refine jv_iload_n 3 (pc := 51) d_MO_wrong_51 rfl ?_
      refine jv_iconst 2 (pc := 52) d_MO_wrong_52 rfl ?_
      refine jv_iload_n 1 (pc := 53) d_MO_wrong_53 rfl ?_
      refine jv_callSi (sp_MO_lessOf ((σ 46 x1.toNatClampNeg) / (2 : Int32))) (pc := 54) d_MO_wrong_54 c0_MO_lessOf lk_MO_119 si_MO_lessOf rfl (Nat.le_of_ble_eq_true rfl) ⟨by decide, by decide, by decide, by decide⟩ (fun r54 m54 h54 => ?_)
      obtain ⟨ha54, hb54⟩ := h54
      subst ha54
      have hb54 := hb54.symm
      subst hb54
      refine jv_imul (pc := 57) d_MO_wrong_57 ?_
      refine jv_iload_n 0 (pc := 58) d_MO_wrong_58 rfl ?_
      refine jv_iadd (pc := 59) d_MO_wrong_59 ?_
      obtain ⟨b60, H⟩ := jck_some H
      refine jv_iast (pc := 60) d_MO_wrong_60 (by decide) rfl b60 ?_
      refine jv_vret (pc := 61) d_MO_wrong_61 rfl (Nat.zero_le _) (Nat.zero_le _) ?_
      cases H
      exact jU.of rfl
    · have h16 : ¬ (((σ 46 x1.toNatClampNeg) / (2 : Int32)) = (6 : Int32)) := h16
      have H := (if_neg h16).symm.trans H
      refine jv_iload_n 0 (pc := 19) d_MO_wrong_19 rfl ?_
      refine jv_bipush (14) (pc := 20) d_MO_wrong_20 rfl ?_
      refine jv_icmp_ne 38 (pc := 22) d_MO_wrong_22 rfl (fun h22 => ?_) (fun h22 => ?_)
      · have h22 : ¬ (((σ 46 x1.toNatClampNeg) / (2 : Int32)) = (14 : Int32)) := h22
        have H := (if_neg h22).symm.trans H
        refine jv_aload_n 1 (pc := 38) d_MO_wrong_38 rfl ?_
        refine jv_getr (pc := 39) d_MO_wrong_39 fa_MO_31_MO (by decide) rfl rfl ?_
        refine jv_iload_n 2 (pc := 42) d_MO_wrong_42 rfl ?_
        obtain ⟨b43, H⟩ := jck_some H
        refine jv_iald (pc := 43) d_MO_wrong_43 (by decide) rfl b43 ?_
        refine jv_iconst 2 (pc := 44) d_MO_wrong_44 rfl ?_
        refine jv_irem (pc := 45) d_MO_wrong_45 (by decide) ?_
        refine jv_istore_n (pc := 46) d_MO_wrong_46 rfl (by decide) (jsto_new rfl) ?_
        refine jv_aload_n 2 (pc := 47) d_MO_wrong_47 rfl ?_
        refine jv_getr (pc := 48) d_MO_wrong_48 fa_MO_31_MO (by decide) rfl rfl ?_
        refine jv_iload_n 3 (pc := 51) d_MO_wrong_51 rfl ?_
        refine jv_iconst 2 (pc := 52) d_MO_wrong_52 rfl ?_
        refine jv_iload_n 1 (pc := 53) d_MO_wrong_53 rfl ?_
        refine jv_callSi (sp_MO_lessOf ((σ 46 x1.toNatClampNeg) / (2 : Int32))) (pc := 54) d_MO_wrong_54 c0_MO_lessOf lk_MO_119 si_MO_lessOf rfl (Nat.le_of_ble_eq_true rfl) ⟨by decide, by decide, by decide, by decide⟩ (fun r54 m54 h54 => ?_)
        obtain ⟨ha54, hb54⟩ := h54
        subst ha54
        have hb54 := hb54.symm
        subst hb54
        refine jv_imul (pc := 57) d_MO_wrong_57 ?_
        refine jv_iload_n 0 (pc := 58) d_MO_wrong_58 rfl ?_
        refine jv_iadd (pc := 59) d_MO_wrong_59 ?_
        obtain ⟨b60, H⟩ := jck_some H
        refine jv_iast (pc := 60) d_MO_wrong_60 (by decide) rfl b60 ?_
        refine jv_vret (pc := 61) d_MO_wrong_61 rfl (Nat.zero_le _) (Nat.zero_le _) ?_
        cases H
        exact jU.of rfl
      · have h22 : ((σ 46 x1.toNatClampNeg) / (2 : Int32)) = (14 : Int32) := h22
        have H := (if_pos h22).symm.trans H
        refine jv_iconst 1 (pc := 25) d_MO_wrong_25 rfl ?_
        refine jv_aload_n 1 (pc := 26) d_MO_wrong_26 rfl ?_
        refine jv_getr (pc := 27) d_MO_wrong_27 fa_MO_31_MO (by decide) rfl rfl ?_
        refine jv_iload_n 2 (pc := 30) d_MO_wrong_30 rfl ?_
        obtain ⟨b31, H⟩ := jck_some H
        refine jv_iald (pc := 31) d_MO_wrong_31 (by decide) rfl b31 ?_
        refine jv_iconst 2 (pc := 32) d_MO_wrong_32 rfl ?_
        refine jv_irem (pc := 33) d_MO_wrong_33 (by decide) ?_
        refine jv_isub (pc := 34) d_MO_wrong_34 ?_
        refine jv_goto 46 (pc := 35) d_MO_wrong_35 rfl ?_
        refine jv_istore_n (pc := 46) d_MO_wrong_46 rfl (by decide) (jsto_new rfl) ?_
        refine jv_aload_n 2 (pc := 47) d_MO_wrong_47 rfl ?_
        refine jv_getr (pc := 48) d_MO_wrong_48 fa_MO_31_MO (by decide) rfl rfl ?_
        refine jv_iload_n 3 (pc := 51) d_MO_wrong_51 rfl ?_
        refine jv_iconst 2 (pc := 52) d_MO_wrong_52 rfl ?_
        refine jv_iload_n 1 (pc := 53) d_MO_wrong_53 rfl ?_
        refine jv_callSi (sp_MO_lessOf ((σ 46 x1.toNatClampNeg) / (2 : Int32))) (pc := 54) d_MO_wrong_54 c0_MO_lessOf lk_MO_119 si_MO_lessOf rfl (Nat.le_of_ble_eq_true rfl) ⟨by decide, by decide, by decide, by decide⟩ (fun r54 m54 h54 => ?_)
        obtain ⟨ha54, hb54⟩ := h54
        subst ha54
        have hb54 := hb54.symm
        subst hb54
        refine jv_imul (pc := 57) d_MO_wrong_57 ?_
        refine jv_iload_n 0 (pc := 58) d_MO_wrong_58 rfl ?_
        refine jv_iadd (pc := 59) d_MO_wrong_59 ?_
        obtain ⟨b60, H⟩ := jck_some H
        refine jv_iast (pc := 60) d_MO_wrong_60 (by decide) rfl b60 ?_
        refine jv_vret (pc := 61) d_MO_wrong_61 rfl (Nat.zero_le _) (Nat.zero_le _) ?_
        cases H
        exact jU.of rfl
set_option maxRecDepth 40000 in
set_option maxHeartbeats 8000000 in
theorem sp_MO_out {G : jG} {σ τ : jMem} {r : Unit} (x1 : Int32) (H : f_MO_out x1 σ = some (r, τ)) : jSp G M_MO_out (jr 0 0 0) [.ref 38, .int x1] σ (jU fun τ9 => τ9 = τ) := by
  refine jSp.of rfl rfl (Nat.le_of_ble_eq_true rfl) ?_
  show jV _ _ _ _ 0 0 0 [(0, .ref 38), (1, .int x1)] [] σ
  unfold f_MO_out at H
  refine jv_aload_n 0 (pc := 0) d_MO_out_0 rfl ?_
  refine jv_iload_n 1 (pc := 1) d_MO_out_1 rfl ?_
  refine jv_puti (pc := 2) d_MO_out_2 fa_MO_122_MO fp_MO_15 (by decide) rfl rfl rfl rfl ?_
  refine jv_aload_n 0 (pc := 5) d_MO_out_5 rfl ?_
  refine jv_iconst (-1) (pc := 6) d_MO_out_6 rfl ?_
  refine jv_puti (pc := 7) d_MO_out_7 fa_MO_125_MO fp_MO_16 (by decide) rfl rfl rfl rfl ?_
  refine jv_aload_n 0 (pc := 10) d_MO_out_10 rfl ?_
  refine jv_geti (pc := 11) d_MO_out_11 fa_MO_71_MO (by decide) rfl rfl ?_
  refine jv_sipush (600) (pc := 14) d_MO_out_14 rfl ?_
  refine jv_icmp_ge 48 (pc := 17) d_MO_out_17 rfl (fun h17 => ?_) (fun h17 => ?_)
  · have h17 : (600 : Int32) ≤ (σ 38 9) := h17
    have H := (if_pos h17).symm.trans H
    refine jv_vret (pc := 48) d_MO_out_48 rfl (Nat.zero_le _) (Nat.zero_le _) ?_
    cases H
    exact jU.of rfl
  · have h17 : ¬ ((600 : Int32) ≤ (σ 38 9)) := h17
    have H := (if_neg h17).symm.trans H
    refine jv_aload_n 0 (pc := 20) d_MO_out_20 rfl ?_
    refine jv_getr (pc := 21) d_MO_out_21 fa_MO_28_MO (by decide) rfl rfl ?_
    refine jv_aload_n 0 (pc := 24) d_MO_out_24 rfl ?_
    refine jv_geti (pc := 25) d_MO_out_25 fa_MO_71_MO (by decide) rfl rfl ?_
    refine jv_iload_n 1 (pc := 28) d_MO_out_28 rfl ?_
    obtain ⟨b29, H⟩ := jck_some H
    refine jv_iast (pc := 29) d_MO_out_29 (by decide) rfl b29 ?_
    refine jv_aload_n 0 (pc := 30) d_MO_out_30 rfl ?_
    refine jv_aload_n 0 (pc := 31) d_MO_out_31 rfl ?_
    refine jv_geti (pc := 32) d_MO_out_32 fa_MO_71_MO (by decide) rfl rfl ?_
    refine jv_puti (pc := 35) d_MO_out_35 fa_MO_125_MO fp_MO_16 (by decide) rfl rfl rfl rfl ?_
    refine jv_aload_n 0 (pc := 38) d_MO_out_38 rfl ?_
    refine jv_dup (pc := 39) d_MO_out_39 rfl ?_
    refine jv_geti (pc := 40) d_MO_out_40 fa_MO_71_MO (by decide) rfl rfl ?_
    refine jv_iconst 1 (pc := 43) d_MO_out_43 rfl ?_
    refine jv_iadd (pc := 44) d_MO_out_44 ?_
    refine jv_puti (pc := 45) d_MO_out_45 fa_MO_71_MO fp_MO_9 (by decide) rfl rfl rfl rfl ?_
    refine jv_vret (pc := 48) d_MO_out_48 rfl (Nat.zero_le _) (Nat.zero_le _) ?_
    cases H
    exact jU.of rfl
set_option maxRecDepth 40000 in
set_option maxHeartbeats 8000000 in
theorem sp_MO_goOut {G : jG} {σ τ : jMem} {r : Unit} (H : f_MO_goOut σ = some (r, τ)) : jSp G M_MO_goOut (jr 1 0 0) [.ref 38] σ (jU fun τ9 => τ9 = τ) := by
  refine jSp.of rfl rfl (Nat.le_of_ble_eq_true rfl) ?_
  show jV _ _ _ _ 0 0 0 [(0, .ref 38)] [] σ
  unfold f_MO_goOut at H
  refine jv_aload_n 0 (pc := 0) d_MO_goOut_0 rfl ?_
  refine jv_geti (pc := 1) d_MO_goOut_1 fa_MO_122_MO (by decide) rfl rfl ?_
  refine jv_sipush (255) (pc := 4) d_MO_goOut_4 rfl ?_
  refine jv_icmp_eq 77 (pc := 7) d_MO_goOut_7 rfl (fun h7 => ?_) (fun h7 => ?_)
  · have h7 : (σ 38 15) = (255 : Int32) := h7
    have H := (if_pos h7).symm.trans H
    refine jv_aload_n 0 (pc := 77) d_MO_goOut_77 rfl ?_
    refine jv_geti (pc := 78) d_MO_goOut_78 fa_MO_122_MO (by decide) rfl rfl ?_
    refine jv_sipush (255) (pc := 81) d_MO_goOut_81 rfl ?_
    refine jv_icmp_ne 118 (pc := 84) d_MO_goOut_84 rfl (fun h84 => ?_) (fun h84 => ?_)
    · have h84 : ¬ ((σ 38 15) = (255 : Int32)) := h84
      have H := (if_neg h84).symm.trans H
      refine jv_aload_n 0 (pc := 118) d_MO_goOut_118 rfl ?_
      refine jv_aload_n 0 (pc := 119) d_MO_goOut_119 rfl ?_
      refine jv_geti (pc := 120) d_MO_goOut_120 fa_MO_128_MO (by decide) rfl rfl ?_
      refine jv_bipush (19) (pc := 123) d_MO_goOut_123 rfl ?_
      refine jv_iushr (pc := 125) d_MO_goOut_125 ?_
      refine jv_sipush (255) (pc := 126) d_MO_goOut_126 rfl ?_
      refine jv_iand (pc := 129) d_MO_goOut_129 ?_
      obtain ⟨_, n130, c130, H⟩ := jbd_some H
      refine jv_callVv (sp_MO_out ((((σ 38 13).toUInt32 >>> ((19 : Int32).toUInt32 &&& Int32.toUInt32 31)).toInt32) &&& (255 : Int32)) c130) (pc := 130) d_MO_goOut_130 c0_MO_out lk_MO_133 in_MO_out se_MO_out (by decide) rfl rfl rfl (Nat.le_of_ble_eq_true rfl) ⟨by decide, by decide, by decide, by decide⟩ (fun m130 h130 => ?_)
      have hb130 := h130
      have hb130 := hb130.symm
      subst hb130
      refine jv_aload_n 0 (pc := 133) d_MO_goOut_133 rfl ?_
      refine jv_aload_n 0 (pc := 134) d_MO_goOut_134 rfl ?_
      refine jv_geti (pc := 135) d_MO_goOut_135 fa_MO_128_MO (by decide) rfl rfl ?_
      refine jv_ldc (524287) (pc := 138) d_MO_goOut_138 (jin4 174 rfl rfl) ?_
      refine jv_iand (pc := 140) d_MO_goOut_140 ?_
      refine jv_puti (pc := 141) d_MO_goOut_141 fa_MO_128_MO fp_MO_13 (by decide) rfl rfl rfl rfl ?_
      refine jv_aload_n 0 (pc := 144) d_MO_goOut_144 rfl ?_
      refine jv_bipush (8) (pc := 145) d_MO_goOut_145 rfl ?_
      refine jv_puti (pc := 147) d_MO_goOut_147 fa_MO_138_MO fp_MO_14 (by decide) rfl rfl rfl rfl ?_
      refine jv_vret (pc := 150) d_MO_goOut_150 rfl (Nat.zero_le _) (Nat.zero_le _) ?_
      cases H
      exact jU.of rfl
    · have h84 : (σ 38 15) = (255 : Int32) := h84
      have H := (if_pos h84).symm.trans H
      refine jv_aload_n 0 (pc := 87) d_MO_goOut_87 rfl ?_
      refine jv_aload_n 0 (pc := 88) d_MO_goOut_88 rfl ?_
      refine jv_geti (pc := 89) d_MO_goOut_89 fa_MO_128_MO (by decide) rfl rfl ?_
      refine jv_bipush (20) (pc := 92) d_MO_goOut_92 rfl ?_
      refine jv_iushr (pc := 94) d_MO_goOut_94 ?_
      obtain ⟨_, n95, c95, H⟩ := jbd_some H
      refine jv_callVv (sp_MO_out (((σ 38 13).toUInt32 >>> ((20 : Int32).toUInt32 &&& Int32.toUInt32 31)).toInt32) c95) (pc := 95) d_MO_goOut_95 c0_MO_out lk_MO_133 in_MO_out se_MO_out (by decide) rfl rfl rfl (Nat.le_of_ble_eq_true rfl) ⟨by decide, by decide, by decide, by decide⟩ (fun m95 h95 => ?_)
      have hb95 := h95
      have hb95 := hb95.symm
      subst hb95
      refine jv_aload_n 0 (pc := 98) d_MO_goOut_98 rfl ?_
      refine jv_aload_n 0 (pc := 99) d_MO_goOut_99 rfl ?_
      refine jv_geti (pc := 100) d_MO_goOut_100 fa_MO_128_MO (by decide) rfl rfl ?_
      refine jv_ldc (1048575) (pc := 103) d_MO_goOut_103 (jin4 173 rfl rfl) ?_
      refine jv_iand (pc := 105) d_MO_goOut_105 ?_
      refine jv_puti (pc := 106) d_MO_goOut_106 fa_MO_128_MO fp_MO_13 (by decide) rfl rfl rfl rfl ?_
      refine jv_aload_n 0 (pc := 109) d_MO_goOut_109 rfl ?_
      refine jv_bipush (7) (pc := 110) d_MO_goOut_110 rfl ?_
      refine jv_puti (pc := 112) d_MO_goOut_112 fa_MO_138_MO fp_MO_14 (by decide) rfl rfl rfl rfl ?_
      refine jv_goto 150 (pc := 115) d_MO_goOut_115 rfl ?_
      refine jv_vret (pc := 150) d_MO_goOut_150 rfl (Nat.zero_le _) (Nat.zero_le _) ?_
      cases H
      exact jU.of rfl
  · have h7 : ¬ ((σ 38 15) = (255 : Int32)) := h7
    have H := (if_neg h7).symm.trans H
    refine jv_aload_n 0 (pc := 10) d_MO_goOut_10 rfl ?_
    refine jv_geti (pc := 11) d_MO_goOut_11 fa_MO_128_MO (by decide) rfl rfl ?_
    refine jv_ldc (134217728) (pc := 14) d_MO_goOut_14 (jin4 167 rfl rfl) ?_
    refine jv_icmp_lt 77 (pc := 16) d_MO_goOut_16 rfl (fun h16 => ?_) (fun h16 => ?_)
    · have h16 : (σ 38 13) < (134217728 : Int32) := h16
      have H := (if_pos h16).symm.trans H
      refine jv_aload_n 0 (pc := 77) d_MO_goOut_77 rfl ?_
      refine jv_geti (pc := 78) d_MO_goOut_78 fa_MO_122_MO (by decide) rfl rfl ?_
      refine jv_sipush (255) (pc := 81) d_MO_goOut_81 rfl ?_
      refine jv_icmp_ne 118 (pc := 84) d_MO_goOut_84 rfl (fun h84 => ?_) (fun h84 => ?_)
      · have h84 : ¬ ((σ 38 15) = (255 : Int32)) := h84
        have H := (if_neg h84).symm.trans H
        refine jv_aload_n 0 (pc := 118) d_MO_goOut_118 rfl ?_
        refine jv_aload_n 0 (pc := 119) d_MO_goOut_119 rfl ?_
        refine jv_geti (pc := 120) d_MO_goOut_120 fa_MO_128_MO (by decide) rfl rfl ?_
        refine jv_bipush (19) (pc := 123) d_MO_goOut_123 rfl ?_
        refine jv_iushr (pc := 125) d_MO_goOut_125 ?_
        refine jv_sipush (255) (pc := 126) d_MO_goOut_126 rfl ?_
        refine jv_iand (pc := 129) d_MO_goOut_129 ?_
        obtain ⟨_, n130, c130, H⟩ := jbd_some H
        refine jv_callVv (sp_MO_out ((((σ 38 13).toUInt32 >>> ((19 : Int32).toUInt32 &&& Int32.toUInt32 31)).toInt32) &&& (255 : Int32)) c130) (pc := 130) d_MO_goOut_130 c0_MO_out lk_MO_133 in_MO_out se_MO_out (by decide) rfl rfl rfl (Nat.le_of_ble_eq_true rfl) ⟨by decide, by decide, by decide, by decide⟩ (fun m130 h130 => ?_)
        have hb130 := h130
        have hb130 := hb130.symm
        subst hb130
        refine jv_aload_n 0 (pc := 133) d_MO_goOut_133 rfl ?_
        refine jv_aload_n 0 (pc := 134) d_MO_goOut_134 rfl ?_
        refine jv_geti (pc := 135) d_MO_goOut_135 fa_MO_128_MO (by decide) rfl rfl ?_
        refine jv_ldc (524287) (pc := 138) d_MO_goOut_138 (jin4 174 rfl rfl) ?_
        refine jv_iand (pc := 140) d_MO_goOut_140 ?_
        refine jv_puti (pc := 141) d_MO_goOut_141 fa_MO_128_MO fp_MO_13 (by decide) rfl rfl rfl rfl ?_
        refine jv_aload_n 0 (pc := 144) d_MO_goOut_144 rfl ?_
        refine jv_bipush (8) (pc := 145) d_MO_goOut_145 rfl ?_
        refine jv_puti (pc := 147) d_MO_goOut_147 fa_MO_138_MO fp_MO_14 (by decide) rfl rfl rfl rfl ?_
        refine jv_vret (pc := 150) d_MO_goOut_150 rfl (Nat.zero_le _) (Nat.zero_le _) ?_
        cases H
        exact jU.of rfl
      · have h84 : (σ 38 15) = (255 : Int32) := h84
        have H := (if_pos h84).symm.trans H
        refine jv_aload_n 0 (pc := 87) d_MO_goOut_87 rfl ?_
        refine jv_aload_n 0 (pc := 88) d_MO_goOut_88 rfl ?_
        refine jv_geti (pc := 89) d_MO_goOut_89 fa_MO_128_MO (by decide) rfl rfl ?_
        refine jv_bipush (20) (pc := 92) d_MO_goOut_92 rfl ?_
        refine jv_iushr (pc := 94) d_MO_goOut_94 ?_
        obtain ⟨_, n95, c95, H⟩ := jbd_some H
        refine jv_callVv (sp_MO_out (((σ 38 13).toUInt32 >>> ((20 : Int32).toUInt32 &&& Int32.toUInt32 31)).toInt32) c95) (pc := 95) d_MO_goOut_95 c0_MO_out lk_MO_133 in_MO_out se_MO_out (by decide) rfl rfl rfl (Nat.le_of_ble_eq_true rfl) ⟨by decide, by decide, by decide, by decide⟩ (fun m95 h95 => ?_)
        have hb95 := h95
        have hb95 := hb95.symm
        subst hb95
        refine jv_aload_n 0 (pc := 98) d_MO_goOut_98 rfl ?_
        refine jv_aload_n 0 (pc := 99) d_MO_goOut_99 rfl ?_
        refine jv_geti (pc := 100) d_MO_goOut_100 fa_MO_128_MO (by decide) rfl rfl ?_
        refine jv_ldc (1048575) (pc := 103) d_MO_goOut_103 (jin4 173 rfl rfl) ?_
        refine jv_iand (pc := 105) d_MO_goOut_105 ?_
        refine jv_puti (pc := 106) d_MO_goOut_106 fa_MO_128_MO fp_MO_13 (by decide) rfl rfl rfl rfl ?_
        refine jv_aload_n 0 (pc := 109) d_MO_goOut_109 rfl ?_
        refine jv_bipush (7) (pc := 110) d_MO_goOut_110 rfl ?_
        refine jv_puti (pc := 112) d_MO_goOut_112 fa_MO_138_MO fp_MO_14 (by decide) rfl rfl rfl rfl ?_
        refine jv_goto 150 (pc := 115) d_MO_goOut_115 rfl ?_
        refine jv_vret (pc := 150) d_MO_goOut_150 rfl (Nat.zero_le _) (Nat.zero_le _) ?_
        cases H
        exact jU.of rfl
    · have h16 : ¬ ((σ 38 13) < (134217728 : Int32)) := h16
      have H := (if_neg h16).symm.trans H
      refine jv_aload_n 0 (pc := 19) d_MO_goOut_19 rfl ?_
      refine jv_dup (pc := 20) d_MO_goOut_20 rfl ?_
      refine jv_geti (pc := 21) d_MO_goOut_21 fa_MO_122_MO (by decide) rfl rfl ?_
      refine jv_iconst 1 (pc := 24) d_MO_goOut_24 rfl ?_
      refine jv_iadd (pc := 25) d_MO_goOut_25 ?_
      refine jv_puti (pc := 26) d_MO_goOut_26 fa_MO_122_MO fp_MO_15 (by decide) rfl rfl rfl rfl ?_
      refine jv_aload_n 0 (pc := 29) d_MO_goOut_29 rfl ?_
      refine jv_geti (pc := 30) d_MO_goOut_30 fa_MO_125_MO (by decide) rfl rfl ?_
      refine jv_if_lt 49 (pc := 33) d_MO_goOut_33 rfl (fun h33 => ?_) (fun h33 => ?_)
      · have h33 : (σ 38 16) < 0 := h33
        have H := (if_pos h33).symm.trans H
        refine jv_aload_n 0 (pc := 49) d_MO_goOut_49 rfl ?_
        refine jv_aload_n 0 (pc := 50) d_MO_goOut_50 rfl ?_
        refine jv_geti (pc := 51) d_MO_goOut_51 fa_MO_122_MO (by decide) rfl rfl ?_
        refine jv_sipush (255) (pc := 54) d_MO_goOut_54 rfl ?_
        refine jv_icmp_ne 70 (pc := 57) d_MO_goOut_57 rfl (fun h57 => ?_) (fun h57 => ?_)
        · have h57 : ¬ (((σ 38 15) + (1 : Int32)) = (255 : Int32)) := h57
          have H := (if_neg h57).symm.trans H
          refine jv_aload_n 0 (pc := 70) d_MO_goOut_70 rfl ?_
          refine jv_geti (pc := 71) d_MO_goOut_71 fa_MO_128_MO (by decide) rfl rfl ?_
          refine jv_puti (pc := 74) d_MO_goOut_74 fa_MO_128_MO fp_MO_13 (by decide) rfl rfl rfl rfl ?_
          refine jv_aload_n 0 (pc := 77) d_MO_goOut_77 rfl ?_
          refine jv_geti (pc := 78) d_MO_goOut_78 fa_MO_122_MO (by decide) rfl rfl ?_
          refine jv_sipush (255) (pc := 81) d_MO_goOut_81 rfl ?_
          refine jv_icmp_ne 118 (pc := 84) d_MO_goOut_84 rfl (fun h84 => ?_) (fun h84 => ?_)
          · have h84 : ¬ (((σ 38 15) + (1 : Int32)) = (255 : Int32)) := h84
            have H := (if_neg h84).symm.trans H
            refine jv_aload_n 0 (pc := 118) d_MO_goOut_118 rfl ?_
            refine jv_aload_n 0 (pc := 119) d_MO_goOut_119 rfl ?_
            refine jv_geti (pc := 120) d_MO_goOut_120 fa_MO_128_MO (by decide) rfl rfl ?_
            refine jv_bipush (19) (pc := 123) d_MO_goOut_123 rfl ?_
            refine jv_iushr (pc := 125) d_MO_goOut_125 ?_
            refine jv_sipush (255) (pc := 126) d_MO_goOut_126 rfl ?_
            refine jv_iand (pc := 129) d_MO_goOut_129 ?_
            obtain ⟨_, n130, c130, H⟩ := jbd_some H
            refine jv_callVv (sp_MO_out ((((σ 38 13).toUInt32 >>> ((19 : Int32).toUInt32 &&& Int32.toUInt32 31)).toInt32) &&& (255 : Int32)) c130) (pc := 130) d_MO_goOut_130 c0_MO_out lk_MO_133 in_MO_out se_MO_out (by decide) rfl rfl rfl (Nat.le_of_ble_eq_true rfl) ⟨by decide, by decide, by decide, by decide⟩ (fun m130 h130 => ?_)
            have hb130 := h130
            have hb130 := hb130.symm
            subst hb130
            refine jv_aload_n 0 (pc := 133) d_MO_goOut_133 rfl ?_
            refine jv_aload_n 0 (pc := 134) d_MO_goOut_134 rfl ?_
            refine jv_geti (pc := 135) d_MO_goOut_135 fa_MO_128_MO (by decide) rfl rfl ?_
            refine jv_ldc (524287) (pc := 138) d_MO_goOut_138 (jin4 174 rfl rfl) ?_
            refine jv_iand (pc := 140) d_MO_goOut_140 ?_
            refine jv_puti (pc := 141) d_MO_goOut_141 fa_MO_128_MO fp_MO_13 (by decide) rfl rfl rfl rfl ?_
            refine jv_aload_n 0 (pc := 144) d_MO_goOut_144 rfl ?_
            refine jv_bipush (8) (pc := 145) d_MO_goOut_145 rfl ?_
            refine jv_puti (pc := 147) d_MO_goOut_147 fa_MO_138_MO fp_MO_14 (by decide) rfl rfl rfl rfl ?_
            refine jv_vret (pc := 150) d_MO_goOut_150 rfl (Nat.zero_le _) (Nat.zero_le _) ?_
            cases H
            exact jU.of rfl
          · have h84 : ((σ 38 15) + (1 : Int32)) = (255 : Int32) := h84
            have H := (if_pos h84).symm.trans H
            refine jv_aload_n 0 (pc := 87) d_MO_goOut_87 rfl ?_
            refine jv_aload_n 0 (pc := 88) d_MO_goOut_88 rfl ?_
            refine jv_geti (pc := 89) d_MO_goOut_89 fa_MO_128_MO (by decide) rfl rfl ?_
            refine jv_bipush (20) (pc := 92) d_MO_goOut_92 rfl ?_
            refine jv_iushr (pc := 94) d_MO_goOut_94 ?_
            obtain ⟨_, n95, c95, H⟩ := jbd_some H
            refine jv_callVv (sp_MO_out (((σ 38 13).toUInt32 >>> ((20 : Int32).toUInt32 &&& Int32.toUInt32 31)).toInt32) c95) (pc := 95) d_MO_goOut_95 c0_MO_out lk_MO_133 in_MO_out se_MO_out (by decide) rfl rfl rfl (Nat.le_of_ble_eq_true rfl) ⟨by decide, by decide, by decide, by decide⟩ (fun m95 h95 => ?_)
            have hb95 := h95
            have hb95 := hb95.symm
            subst hb95
            refine jv_aload_n 0 (pc := 98) d_MO_goOut_98 rfl ?_
            refine jv_aload_n 0 (pc := 99) d_MO_goOut_99 rfl ?_
            refine jv_geti (pc := 100) d_MO_goOut_100 fa_MO_128_MO (by decide) rfl rfl ?_
            refine jv_ldc (1048575) (pc := 103) d_MO_goOut_103 (jin4 173 rfl rfl) ?_
            refine jv_iand (pc := 105) d_MO_goOut_105 ?_
            refine jv_puti (pc := 106) d_MO_goOut_106 fa_MO_128_MO fp_MO_13 (by decide) rfl rfl rfl rfl ?_
            refine jv_aload_n 0 (pc := 109) d_MO_goOut_109 rfl ?_
            refine jv_bipush (7) (pc := 110) d_MO_goOut_110 rfl ?_
            refine jv_puti (pc := 112) d_MO_goOut_112 fa_MO_138_MO fp_MO_14 (by decide) rfl rfl rfl rfl ?_
            refine jv_goto 150 (pc := 115) d_MO_goOut_115 rfl ?_
            refine jv_vret (pc := 150) d_MO_goOut_150 rfl (Nat.zero_le _) (Nat.zero_le _) ?_
            cases H
            exact jU.of rfl
        · have h57 : ((σ 38 15) + (1 : Int32)) = (255 : Int32) := h57
          have H := (if_pos h57).symm.trans H
          refine jv_aload_n 0 (pc := 60) d_MO_goOut_60 rfl ?_
          refine jv_geti (pc := 61) d_MO_goOut_61 fa_MO_128_MO (by decide) rfl rfl ?_
          refine jv_ldc (134217727) (pc := 64) d_MO_goOut_64 (jin4 168 rfl rfl) ?_
          refine jv_iand (pc := 66) d_MO_goOut_66 ?_
          refine jv_goto 74 (pc := 67) d_MO_goOut_67 rfl ?_
          refine jv_puti (pc := 74) d_MO_goOut_74 fa_MO_128_MO fp_MO_13 (by decide) rfl rfl rfl rfl ?_
          refine jv_aload_n 0 (pc := 77) d_MO_goOut_77 rfl ?_
          refine jv_geti (pc := 78) d_MO_goOut_78 fa_MO_122_MO (by decide) rfl rfl ?_
          refine jv_sipush (255) (pc := 81) d_MO_goOut_81 rfl ?_
          refine jv_icmp_ne 118 (pc := 84) d_MO_goOut_84 rfl (fun h84 => ?_) (fun h84 => ?_)
          · have h84 : ¬ (((σ 38 15) + (1 : Int32)) = (255 : Int32)) := h84
            have H := (if_neg h84).symm.trans H
            refine jv_aload_n 0 (pc := 118) d_MO_goOut_118 rfl ?_
            refine jv_aload_n 0 (pc := 119) d_MO_goOut_119 rfl ?_
            refine jv_geti (pc := 120) d_MO_goOut_120 fa_MO_128_MO (by decide) rfl rfl ?_
            refine jv_bipush (19) (pc := 123) d_MO_goOut_123 rfl ?_
            refine jv_iushr (pc := 125) d_MO_goOut_125 ?_
            refine jv_sipush (255) (pc := 126) d_MO_goOut_126 rfl ?_
            refine jv_iand (pc := 129) d_MO_goOut_129 ?_
            obtain ⟨_, n130, c130, H⟩ := jbd_some H
            refine jv_callVv (sp_MO_out (((((σ 38 13) &&& (134217727 : Int32)).toUInt32 >>> ((19 : Int32).toUInt32 &&& Int32.toUInt32 31)).toInt32) &&& (255 : Int32)) c130) (pc := 130) d_MO_goOut_130 c0_MO_out lk_MO_133 in_MO_out se_MO_out (by decide) rfl rfl rfl (Nat.le_of_ble_eq_true rfl) ⟨by decide, by decide, by decide, by decide⟩ (fun m130 h130 => ?_)
            have hb130 := h130
            have hb130 := hb130.symm
            subst hb130
            refine jv_aload_n 0 (pc := 133) d_MO_goOut_133 rfl ?_
            refine jv_aload_n 0 (pc := 134) d_MO_goOut_134 rfl ?_
            refine jv_geti (pc := 135) d_MO_goOut_135 fa_MO_128_MO (by decide) rfl rfl ?_
            refine jv_ldc (524287) (pc := 138) d_MO_goOut_138 (jin4 174 rfl rfl) ?_
            refine jv_iand (pc := 140) d_MO_goOut_140 ?_
            refine jv_puti (pc := 141) d_MO_goOut_141 fa_MO_128_MO fp_MO_13 (by decide) rfl rfl rfl rfl ?_
            refine jv_aload_n 0 (pc := 144) d_MO_goOut_144 rfl ?_
            refine jv_bipush (8) (pc := 145) d_MO_goOut_145 rfl ?_
            refine jv_puti (pc := 147) d_MO_goOut_147 fa_MO_138_MO fp_MO_14 (by decide) rfl rfl rfl rfl ?_
            refine jv_vret (pc := 150) d_MO_goOut_150 rfl (Nat.zero_le _) (Nat.zero_le _) ?_
            cases H
            exact jU.of rfl
          · have h84 : ((σ 38 15) + (1 : Int32)) = (255 : Int32) := h84
            have H := (if_pos h84).symm.trans H
            refine jv_aload_n 0 (pc := 87) d_MO_goOut_87 rfl ?_
            refine jv_aload_n 0 (pc := 88) d_MO_goOut_88 rfl ?_
            refine jv_geti (pc := 89) d_MO_goOut_89 fa_MO_128_MO (by decide) rfl rfl ?_
            refine jv_bipush (20) (pc := 92) d_MO_goOut_92 rfl ?_
            refine jv_iushr (pc := 94) d_MO_goOut_94 ?_
            obtain ⟨_, n95, c95, H⟩ := jbd_some H
            refine jv_callVv (sp_MO_out ((((σ 38 13) &&& (134217727 : Int32)).toUInt32 >>> ((20 : Int32).toUInt32 &&& Int32.toUInt32 31)).toInt32) c95) (pc := 95) d_MO_goOut_95 c0_MO_out lk_MO_133 in_MO_out se_MO_out (by decide) rfl rfl rfl (Nat.le_of_ble_eq_true rfl) ⟨by decide, by decide, by decide, by decide⟩ (fun m95 h95 => ?_)
            have hb95 := h95
            have hb95 := hb95.symm
            subst hb95
            refine jv_aload_n 0 (pc := 98) d_MO_goOut_98 rfl ?_
            refine jv_aload_n 0 (pc := 99) d_MO_goOut_99 rfl ?_
            refine jv_geti (pc := 100) d_MO_goOut_100 fa_MO_128_MO (by decide) rfl rfl ?_
            refine jv_ldc (1048575) (pc := 103) d_MO_goOut_103 (jin4 173 rfl rfl) ?_
            refine jv_iand (pc := 105) d_MO_goOut_105 ?_
            refine jv_puti (pc := 106) d_MO_goOut_106 fa_MO_128_MO fp_MO_13 (by decide) rfl rfl rfl rfl ?_
            refine jv_aload_n 0 (pc := 109) d_MO_goOut_109 rfl ?_
            refine jv_bipush (7) (pc := 110) d_MO_goOut_110 rfl ?_
            refine jv_puti (pc := 112) d_MO_goOut_112 fa_MO_138_MO fp_MO_14 (by decide) rfl rfl rfl rfl ?_
            refine jv_goto 150 (pc := 115) d_MO_goOut_115 rfl ?_
            refine jv_vret (pc := 150) d_MO_goOut_150 rfl (Nat.zero_le _) (Nat.zero_le _) ?_
            cases H
            exact jU.of rfl
      · have h33 : ¬ ((σ 38 16) < 0) := h33
        have H := (if_neg h33).symm.trans H
        refine jv_aload_n 0 (pc := 36) d_MO_goOut_36 rfl ?_
        refine jv_getr (pc := 37) d_MO_goOut_37 fa_MO_28_MO (by decide) rfl rfl ?_
        refine jv_aload_n 0 (pc := 40) d_MO_goOut_40 rfl ?_
        refine jv_geti (pc := 41) d_MO_goOut_41 fa_MO_125_MO (by decide) rfl rfl ?_
        refine jv_aload_n 0 (pc := 44) d_MO_goOut_44 rfl ?_
        refine jv_geti (pc := 45) d_MO_goOut_45 fa_MO_122_MO (by decide) rfl rfl ?_
        obtain ⟨b48, H⟩ := jck_some H
        refine jv_iast (pc := 48) d_MO_goOut_48 (by decide) rfl b48 ?_
        refine jv_aload_n 0 (pc := 49) d_MO_goOut_49 rfl ?_
        refine jv_aload_n 0 (pc := 50) d_MO_goOut_50 rfl ?_
        refine jv_geti (pc := 51) d_MO_goOut_51 fa_MO_122_MO (by decide) rfl rfl ?_
        refine jv_sipush (255) (pc := 54) d_MO_goOut_54 rfl ?_
        refine jv_icmp_ne 70 (pc := 57) d_MO_goOut_57 rfl (fun h57 => ?_) (fun h57 => ?_)
        · have h57 : ¬ (((σ 38 15) + (1 : Int32)) = (255 : Int32)) := h57
          have H := (if_neg h57).symm.trans H
          refine jv_aload_n 0 (pc := 70) d_MO_goOut_70 rfl ?_
          refine jv_geti (pc := 71) d_MO_goOut_71 fa_MO_128_MO (by decide) rfl rfl ?_
          refine jv_puti (pc := 74) d_MO_goOut_74 fa_MO_128_MO fp_MO_13 (by decide) rfl rfl rfl rfl ?_
          refine jv_aload_n 0 (pc := 77) d_MO_goOut_77 rfl ?_
          refine jv_geti (pc := 78) d_MO_goOut_78 fa_MO_122_MO (by decide) rfl rfl ?_
          refine jv_sipush (255) (pc := 81) d_MO_goOut_81 rfl ?_
          refine jv_icmp_ne 118 (pc := 84) d_MO_goOut_84 rfl (fun h84 => ?_) (fun h84 => ?_)
          · have h84 : ¬ (((σ 38 15) + (1 : Int32)) = (255 : Int32)) := h84
            have H := (if_neg h84).symm.trans H
            refine jv_aload_n 0 (pc := 118) d_MO_goOut_118 rfl ?_
            refine jv_aload_n 0 (pc := 119) d_MO_goOut_119 rfl ?_
            refine jv_geti (pc := 120) d_MO_goOut_120 fa_MO_128_MO (by decide) rfl rfl ?_
            refine jv_bipush (19) (pc := 123) d_MO_goOut_123 rfl ?_
            refine jv_iushr (pc := 125) d_MO_goOut_125 ?_
            refine jv_sipush (255) (pc := 126) d_MO_goOut_126 rfl ?_
            refine jv_iand (pc := 129) d_MO_goOut_129 ?_
            obtain ⟨_, n130, c130, H⟩ := jbd_some H
            refine jv_callVv (sp_MO_out ((((σ 38 13).toUInt32 >>> ((19 : Int32).toUInt32 &&& Int32.toUInt32 31)).toInt32) &&& (255 : Int32)) c130) (pc := 130) d_MO_goOut_130 c0_MO_out lk_MO_133 in_MO_out se_MO_out (by decide) rfl rfl rfl (Nat.le_of_ble_eq_true rfl) ⟨by decide, by decide, by decide, by decide⟩ (fun m130 h130 => ?_)
            have hb130 := h130
            have hb130 := hb130.symm
            subst hb130
            refine jv_aload_n 0 (pc := 133) d_MO_goOut_133 rfl ?_
            refine jv_aload_n 0 (pc := 134) d_MO_goOut_134 rfl ?_
            refine jv_geti (pc := 135) d_MO_goOut_135 fa_MO_128_MO (by decide) rfl rfl ?_
            refine jv_ldc (524287) (pc := 138) d_MO_goOut_138 (jin4 174 rfl rfl) ?_
            refine jv_iand (pc := 140) d_MO_goOut_140 ?_
            refine jv_puti (pc := 141) d_MO_goOut_141 fa_MO_128_MO fp_MO_13 (by decide) rfl rfl rfl rfl ?_
            refine jv_aload_n 0 (pc := 144) d_MO_goOut_144 rfl ?_
            refine jv_bipush (8) (pc := 145) d_MO_goOut_145 rfl ?_
            refine jv_puti (pc := 147) d_MO_goOut_147 fa_MO_138_MO fp_MO_14 (by decide) rfl rfl rfl rfl ?_
            refine jv_vret (pc := 150) d_MO_goOut_150 rfl (Nat.zero_le _) (Nat.zero_le _) ?_
            cases H
            exact jU.of rfl
          · have h84 : ((σ 38 15) + (1 : Int32)) = (255 : Int32) := h84
            have H := (if_pos h84).symm.trans H
            refine jv_aload_n 0 (pc := 87) d_MO_goOut_87 rfl ?_
            refine jv_aload_n 0 (pc := 88) d_MO_goOut_88 rfl ?_
            refine jv_geti (pc := 89) d_MO_goOut_89 fa_MO_128_MO (by decide) rfl rfl ?_
            refine jv_bipush (20) (pc := 92) d_MO_goOut_92 rfl ?_
            refine jv_iushr (pc := 94) d_MO_goOut_94 ?_
            obtain ⟨_, n95, c95, H⟩ := jbd_some H
            refine jv_callVv (sp_MO_out (((σ 38 13).toUInt32 >>> ((20 : Int32).toUInt32 &&& Int32.toUInt32 31)).toInt32) c95) (pc := 95) d_MO_goOut_95 c0_MO_out lk_MO_133 in_MO_out se_MO_out (by decide) rfl rfl rfl (Nat.le_of_ble_eq_true rfl) ⟨by decide, by decide, by decide, by decide⟩ (fun m95 h95 => ?_)
            have hb95 := h95
            have hb95 := hb95.symm
            subst hb95
            refine jv_aload_n 0 (pc := 98) d_MO_goOut_98 rfl ?_
            refine jv_aload_n 0 (pc := 99) d_MO_goOut_99 rfl ?_
            refine jv_geti (pc := 100) d_MO_goOut_100 fa_MO_128_MO (by decide) rfl rfl ?_
            refine jv_ldc (1048575) (pc := 103) d_MO_goOut_103 (jin4 173 rfl rfl) ?_
            refine jv_iand (pc := 105) d_MO_goOut_105 ?_
            refine jv_puti (pc := 106) d_MO_goOut_106 fa_MO_128_MO fp_MO_13 (by decide) rfl rfl rfl rfl ?_
            refine jv_aload_n 0 (pc := 109) d_MO_goOut_109 rfl ?_
            refine jv_bipush (7) (pc := 110) d_MO_goOut_110 rfl ?_
            refine jv_puti (pc := 112) d_MO_goOut_112 fa_MO_138_MO fp_MO_14 (by decide) rfl rfl rfl rfl ?_
            refine jv_goto 150 (pc := 115) d_MO_goOut_115 rfl ?_
            refine jv_vret (pc := 150) d_MO_goOut_150 rfl (Nat.zero_le _) (Nat.zero_le _) ?_
            cases H
            exact jU.of rfl
        · have h57 : ((σ 38 15) + (1 : Int32)) = (255 : Int32) := h57
          have H := (if_pos h57).symm.trans H
          refine jv_aload_n 0 (pc := 60) d_MO_goOut_60 rfl ?_
          refine jv_geti (pc := 61) d_MO_goOut_61 fa_MO_128_MO (by decide) rfl rfl ?_
          refine jv_ldc (134217727) (pc := 64) d_MO_goOut_64 (jin4 168 rfl rfl) ?_
          refine jv_iand (pc := 66) d_MO_goOut_66 ?_
          refine jv_goto 74 (pc := 67) d_MO_goOut_67 rfl ?_
          refine jv_puti (pc := 74) d_MO_goOut_74 fa_MO_128_MO fp_MO_13 (by decide) rfl rfl rfl rfl ?_
          refine jv_aload_n 0 (pc := 77) d_MO_goOut_77 rfl ?_
          refine jv_geti (pc := 78) d_MO_goOut_78 fa_MO_122_MO (by decide) rfl rfl ?_
          refine jv_sipush (255) (pc := 81) d_MO_goOut_81 rfl ?_
          refine jv_icmp_ne 118 (pc := 84) d_MO_goOut_84 rfl (fun h84 => ?_) (fun h84 => ?_)
          · have h84 : ¬ (((σ 38 15) + (1 : Int32)) = (255 : Int32)) := h84
            have H := (if_neg h84).symm.trans H
            refine jv_aload_n 0 (pc := 118) d_MO_goOut_118 rfl ?_
            refine jv_aload_n 0 (pc := 119) d_MO_goOut_119 rfl ?_
            refine jv_geti (pc := 120) d_MO_goOut_120 fa_MO_128_MO (by decide) rfl rfl ?_
            refine jv_bipush (19) (pc := 123) d_MO_goOut_123 rfl ?_
            refine jv_iushr (pc := 125) d_MO_goOut_125 ?_
            refine jv_sipush (255) (pc := 126) d_MO_goOut_126 rfl ?_
            refine jv_iand (pc := 129) d_MO_goOut_129 ?_
            obtain ⟨_, n130, c130, H⟩ := jbd_some H
            refine jv_callVv (sp_MO_out (((((σ 38 13) &&& (134217727 : Int32)).toUInt32 >>> ((19 : Int32).toUInt32 &&& Int32.toUInt32 31)).toInt32) &&& (255 : Int32)) c130) (pc := 130) d_MO_goOut_130 c0_MO_out lk_MO_133 in_MO_out se_MO_out (by decide) rfl rfl rfl (Nat.le_of_ble_eq_true rfl) ⟨by decide, by decide, by decide, by decide⟩ (fun m130 h130 => ?_)
            have hb130 := h130
            have hb130 := hb130.symm
            subst hb130
            refine jv_aload_n 0 (pc := 133) d_MO_goOut_133 rfl ?_
            refine jv_aload_n 0 (pc := 134) d_MO_goOut_134 rfl ?_
            refine jv_geti (pc := 135) d_MO_goOut_135 fa_MO_128_MO (by decide) rfl rfl ?_
            refine jv_ldc (524287) (pc := 138) d_MO_goOut_138 (jin4 174 rfl rfl) ?_
            refine jv_iand (pc := 140) d_MO_goOut_140 ?_
            refine jv_puti (pc := 141) d_MO_goOut_141 fa_MO_128_MO fp_MO_13 (by decide) rfl rfl rfl rfl ?_
            refine jv_aload_n 0 (pc := 144) d_MO_goOut_144 rfl ?_
            refine jv_bipush (8) (pc := 145) d_MO_goOut_145 rfl ?_
            refine jv_puti (pc := 147) d_MO_goOut_147 fa_MO_138_MO fp_MO_14 (by decide) rfl rfl rfl rfl ?_
            refine jv_vret (pc := 150) d_MO_goOut_150 rfl (Nat.zero_le _) (Nat.zero_le _) ?_
            cases H
            exact jU.of rfl
          · have h84 : ((σ 38 15) + (1 : Int32)) = (255 : Int32) := h84
            have H := (if_pos h84).symm.trans H
            refine jv_aload_n 0 (pc := 87) d_MO_goOut_87 rfl ?_
            refine jv_aload_n 0 (pc := 88) d_MO_goOut_88 rfl ?_
            refine jv_geti (pc := 89) d_MO_goOut_89 fa_MO_128_MO (by decide) rfl rfl ?_
            refine jv_bipush (20) (pc := 92) d_MO_goOut_92 rfl ?_
            refine jv_iushr (pc := 94) d_MO_goOut_94 ?_
            obtain ⟨_, n95, c95, H⟩ := jbd_some H
            refine jv_callVv (sp_MO_out ((((σ 38 13) &&& (134217727 : Int32)).toUInt32 >>> ((20 : Int32).toUInt32 &&& Int32.toUInt32 31)).toInt32) c95) (pc := 95) d_MO_goOut_95 c0_MO_out lk_MO_133 in_MO_out se_MO_out (by decide) rfl rfl rfl (Nat.le_of_ble_eq_true rfl) ⟨by decide, by decide, by decide, by decide⟩ (fun m95 h95 => ?_)
            have hb95 := h95
            have hb95 := hb95.symm
            subst hb95
            refine jv_aload_n 0 (pc := 98) d_MO_goOut_98 rfl ?_
            refine jv_aload_n 0 (pc := 99) d_MO_goOut_99 rfl ?_
            refine jv_geti (pc := 100) d_MO_goOut_100 fa_MO_128_MO (by decide) rfl rfl ?_
            refine jv_ldc (1048575) (pc := 103) d_MO_goOut_103 (jin4 173 rfl rfl) ?_
            refine jv_iand (pc := 105) d_MO_goOut_105 ?_
            refine jv_puti (pc := 106) d_MO_goOut_106 fa_MO_128_MO fp_MO_13 (by decide) rfl rfl rfl rfl ?_
            refine jv_aload_n 0 (pc := 109) d_MO_goOut_109 rfl ?_
            refine jv_bipush (7) (pc := 110) d_MO_goOut_110 rfl ?_
            refine jv_puti (pc := 112) d_MO_goOut_112 fa_MO_138_MO fp_MO_14 (by decide) rfl rfl rfl rfl ?_
            refine jv_goto 150 (pc := 115) d_MO_goOut_115 rfl ?_
            refine jv_vret (pc := 150) d_MO_goOut_150 rfl (Nat.zero_le _) (Nat.zero_le _) ?_
            cases H
            exact jU.of rfl
