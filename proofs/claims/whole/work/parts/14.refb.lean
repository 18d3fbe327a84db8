/-! the reference: boards, bytes, the coder: functions and contracts, by program -/
set_option maxRecDepth 40000 in
set_option maxHeartbeats 8000000 in
theorem sp_MO_size {G : jG} {σ τ : jMem} {r : Unit} (x1 x2 x3 : Int32) (H : f_MO_size x1 x2 x3 σ = some (r, τ)) : jSp G M_MO_size (jr 1 0 0) [.ref 38, .int x1, .int x2, .int x3] σ (jU fun τ9 => τ9 = τ) := by
  refine jSp.of rfl rfl (Nat.le_of_ble_eq_true rfl) ?_
  show jV _ _ _ _ 0 0 0 [(0, .ref 38), (1, .int x1), (2, .int x2), (3, .int x3)] [] σ
  unfold f_MO_size at H
  refine jv_aload_n 0 (pc := 0) d_MO_size_0 rfl ?_
  refine jv_iload_n 1 (pc := 1) d_MO_size_1 rfl ?_
  refine jv_callSi (sp_MO_isBoard x1) (pc := 2) d_MO_size_2 c0_MO_isBoard lk_MO_42 si_MO_isBoard rfl (Nat.le_of_ble_eq_true rfl) ⟨by decide, by decide, by decide, by decide⟩ (fun r2 m2 h2 => ?_)
  obtain ⟨ha2, hb2⟩ := h2
  subst ha2
  have hb2 := hb2.symm
  subst hb2
  refine jv_if_ne 12 (pc := 5) d_MO_size_5 rfl (fun h5 => ?_) (fun h5 => ?_)
  · have h5 : ¬ ((f_MO_isBoard x1 σ) = 0) := h5
    have H := (if_neg h5).symm.trans H
    refine jv_iload_n 2 (pc := 12) d_MO_size_12 rfl ?_
    refine jv_iconst 1 (pc := 13) d_MO_size_13 rfl ?_
    refine jv_icmp_lt 34 (pc := 14) d_MO_size_14 rfl (fun h14 => ?_) (fun h14 => ?_)
    · have h14 : x2 < (1 : Int32) := h14
      have H := (if_pos h14).symm.trans H
      refine jv_iconst 2 (pc := 34) d_MO_size_34 rfl ?_
      refine jv_goto 39 (pc := 35) d_MO_size_35 rfl ?_
      refine jv_puti (pc := 39) d_MO_size_39 fa_MO_34_MO fp_MO_0 (by decide) rfl rfl rfl rfl ?_
      refine jv_aload_n 0 (pc := 42) d_MO_size_42 rfl ?_
      refine jv_geti (pc := 43) d_MO_size_43 fa_MO_34_MO (by decide) rfl rfl ?_
      refine jv_if_ne 56 (pc := 46) d_MO_size_46 rfl (fun h46 => ?_) (fun h46 => absurd (show (2 : Int32) = 0 from h46) (by decide))
      refine jv_vret (pc := 56) d_MO_size_56 rfl (Nat.zero_le _) (Nat.zero_le _) ?_
      cases H
      exact jU.of rfl
    · have h14 : ¬ (x2 < (1 : Int32)) := h14
      have H := (if_neg h14).symm.trans H
      refine jv_iload_n 2 (pc := 17) d_MO_size_17 rfl ?_
      refine jv_bipush (24) (pc := 18) d_MO_size_18 rfl ?_
      refine jv_icmp_gt 34 (pc := 20) d_MO_size_20 rfl (fun h20 => ?_) (fun h20 => ?_)
      · have h20 : (24 : Int32) < x2 := h20
        have H := (if_pos h20).symm.trans H
        refine jv_iconst 2 (pc := 34) d_MO_size_34 rfl ?_
        refine jv_goto 39 (pc := 35) d_MO_size_35 rfl ?_
        refine jv_puti (pc := 39) d_MO_size_39 fa_MO_34_MO fp_MO_0 (by decide) rfl rfl rfl rfl ?_
        refine jv_aload_n 0 (pc := 42) d_MO_size_42 rfl ?_
        refine jv_geti (pc := 43) d_MO_size_43 fa_MO_34_MO (by decide) rfl rfl ?_
        refine jv_if_ne 56 (pc := 46) d_MO_size_46 rfl (fun h46 => ?_) (fun h46 => absurd (show (2 : Int32) = 0 from h46) (by decide))
        refine jv_vret (pc := 56) d_MO_size_56 rfl (Nat.zero_le _) (Nat.zero_le _) ?_
        cases H
        exact jU.of rfl
      · have h20 : ¬ ((24 : Int32) < x2) := h20
        have H := (if_neg h20).symm.trans H
        refine jv_iload_n 3 (pc := 23) d_MO_size_23 rfl ?_
        refine jv_iconst 1 (pc := 24) d_MO_size_24 rfl ?_
        refine jv_icmp_lt 34 (pc := 25) d_MO_size_25 rfl (fun h25 => ?_) (fun h25 => ?_)
        · have h25 : x3 < (1 : Int32) := h25
          have H := (if_pos h25).symm.trans H
          refine jv_iconst 2 (pc := 34) d_MO_size_34 rfl ?_
          refine jv_goto 39 (pc := 35) d_MO_size_35 rfl ?_
          refine jv_puti (pc := 39) d_MO_size_39 fa_MO_34_MO fp_MO_0 (by decide) rfl rfl rfl rfl ?_
          refine jv_aload_n 0 (pc := 42) d_MO_size_42 rfl ?_
          refine jv_geti (pc := 43) d_MO_size_43 fa_MO_34_MO (by decide) rfl rfl ?_
          refine jv_if_ne 56 (pc := 46) d_MO_size_46 rfl (fun h46 => ?_) (fun h46 => absurd (show (2 : Int32) = 0 from h46) (by decide))
          refine jv_vret (pc := 56) d_MO_size_56 rfl (Nat.zero_le _) (Nat.zero_le _) ?_
          cases H
          exact jU.of rfl
        · have h25 : ¬ (x3 < (1 : Int32)) := h25
          have H := (if_neg h25).symm.trans H
          refine jv_iload_n 3 (pc := 28) d_MO_size_28 rfl ?_
          refine jv_bipush (24) (pc := 29) d_MO_size_29 rfl ?_
          refine jv_icmp_le 38 (pc := 31) d_MO_size_31 rfl (fun h31 => ?_) (fun h31 => ?_)
          · have h31 : x3 ≤ (24 : Int32) := h31
            have H := (if_pos h31).symm.trans H
            refine jv_iconst 0 (pc := 38) d_MO_size_38 rfl ?_
            refine jv_puti (pc := 39) d_MO_size_39 fa_MO_34_MO fp_MO_0 (by decide) rfl rfl rfl rfl ?_
            refine jv_aload_n 0 (pc := 42) d_MO_size_42 rfl ?_
            refine jv_geti (pc := 43) d_MO_size_43 fa_MO_34_MO (by decide) rfl rfl ?_
            refine jv_if_ne 56 (pc := 46) d_MO_size_46 rfl (fun h46 => absurd (show (0 : Int32) = 0 by decide) (show ¬ ((0 : Int32) = 0) from h46)) (fun h46 => ?_)
            refine jv_aload_n 0 (pc := 49) d_MO_size_49 rfl ?_
            refine jv_iload_n 1 (pc := 50) d_MO_size_50 rfl ?_
            refine jv_iload_n 2 (pc := 51) d_MO_size_51 rfl ?_
            refine jv_iload_n 3 (pc := 52) d_MO_size_52 rfl ?_
            obtain ⟨_, n53, c53, H⟩ := jbd_some H
            refine jv_callVv (sp_MO_resize x1 x2 x3 c53) (pc := 53) d_MO_size_53 c0_MO_resize lk_MO_46 in_MO_resize se_MO_resize (by decide) rfl rfl rfl (Nat.le_of_ble_eq_true rfl) ⟨by decide, by decide, by decide, by decide⟩ (fun m53 h53 => ?_)
            have hb53 := h53
            have hb53 := hb53.symm
            subst hb53
            refine jv_vret (pc := 56) d_MO_size_56 rfl (Nat.zero_le _) (Nat.zero_le _) ?_
            cases H
            exact jU.of rfl
          · have h31 : ¬ (x3 ≤ (24 : Int32)) := h31
            have H := (if_neg h31).symm.trans H
            refine jv_iconst 2 (pc := 34) d_MO_size_34 rfl ?_
            refine jv_goto 39 (pc := 35) d_MO_size_35 rfl ?_
            refine jv_puti (pc := 39) d_MO_size_39 fa_MO_34_MO fp_MO_0 (by decide) rfl rfl rfl rfl ?_
            refine jv_aload_n 0 (pc := 42) d_MO_size_42 rfl ?_
            refine jv_geti (pc := 43) d_MO_size_43 fa_MO_34_MO (by decide) rfl rfl ?_
            refine jv_if_ne 56 (pc := 46) d_MO_size_46 rfl (fun h46 => ?_) (fun h46 => absurd (show (2 : Int32) = 0 from h46) (by decide))
            refine jv_vret (pc := 56) d_MO_size_56 rfl (Nat.zero_le _) (Nat.zero_le _) ?_
            cases H
            exact jU.of rfl
  · have h5 : (f_MO_isBoard x1 σ) = 0 := h5
    have H := (if_pos h5).symm.trans H
    refine jv_iconst 1 (pc := 8) d_MO_size_8 rfl ?_
    refine jv_goto 39 (pc := 9) d_MO_size_9 rfl ?_
    refine jv_puti (pc := 39) d_MO_size_39 fa_MO_34_MO fp_MO_0 (by decide) rfl rfl rfl rfl ?_
    refine jv_aload_n 0 (pc := 42) d_MO_size_42 rfl ?_
    refine jv_geti (pc := 43) d_MO_size_43 fa_MO_34_MO (by decide) rfl rfl ?_
    refine jv_if_ne 56 (pc := 46) d_MO_size_46 rfl (fun h46 => ?_) (fun h46 => absurd (show (1 : Int32) = 0 from h46) (by decide))
    refine jv_vret (pc := 56) d_MO_size_56 rfl (Nat.zero_le _) (Nat.zero_le _) ?_
    cases H
    exact jU.of rfl
set_option maxRecDepth 40000 in
set_option maxHeartbeats 8000000 in
theorem sp_MO_flip {G : jG} {σ τ : jMem} {r : Int32} (x1 x2 x3 : Int32) (H : f_MO_flip x1 x2 x3 σ = some (r, τ)) : jSp G M_MO_flip (jr 2 0 0) [.ref 38, .int x1, .int x2, .int x3] σ (jI fun r9 τ9 => r9 = r ∧ τ9 = τ) := by
  refine jSp.of rfl rfl (Nat.le_of_ble_eq_true rfl) ?_
  show jV _ _ _ _ 0 0 0 [(0, .ref 38), (1, .int x1), (2, .int x2), (3, .int x3)] [] σ
  unfold f_MO_flip at H
  refine jv_aload_n 0 (pc := 0) d_MO_flip_0 rfl ?_
  refine jv_iload_n 1 (pc := 1) d_MO_flip_1 rfl ?_
  refine jv_callSi (sp_MO_isBoard x1) (pc := 2) d_MO_flip_2 c0_MO_isBoard lk_MO_42 si_MO_isBoard rfl (Nat.le_of_ble_eq_true rfl) ⟨by decide, by decide, by decide, by decide⟩ (fun r2 m2 h2 => ?_)
  obtain ⟨ha2, hb2⟩ := h2
  subst ha2
  have hb2 := hb2.symm
  subst hb2
  refine jv_if_eq 22 (pc := 5) d_MO_flip_5 rfl (fun h5 => ?_) (fun h5 => ?_)
  · have h5 : (f_MO_isBoard x1 σ) = 0 := h5
    have H := (if_pos h5).symm.trans H
    refine jv_iconst 1 (pc := 22) d_MO_flip_22 rfl ?_
    refine jv_puti (pc := 23) d_MO_flip_23 fa_MO_34_MO fp_MO_0 (by decide) rfl rfl rfl rfl ?_
    refine jv_aload_n 0 (pc := 26) d_MO_flip_26 rfl ?_
    refine jv_geti (pc := 27) d_MO_flip_27 fa_MO_34_MO (by decide) rfl rfl ?_
    refine jv_if_le 35 (pc := 30) d_MO_flip_30 rfl (fun h30 => absurd (show (1 : Int32) ≤ 0 from h30) (by decide)) (fun h30 => ?_)
    refine jv_iconst 0 (pc := 33) d_MO_flip_33 rfl ?_
    refine jv_iret (pc := 34) d_MO_flip_34 rfl rfl (Nat.zero_le _) (Nat.zero_le _) ?_
    cases H
    exact jI.of ⟨rfl, rfl⟩
  · have h5 : ¬ ((f_MO_isBoard x1 σ) = 0) := h5
    have H := (if_neg h5).symm.trans H
    refine jv_aload_n 0 (pc := 8) d_MO_flip_8 rfl ?_
    refine jv_iload_n 1 (pc := 9) d_MO_flip_9 rfl ?_
    refine jv_iload_n 2 (pc := 10) d_MO_flip_10 rfl ?_
    refine jv_iload_n 3 (pc := 11) d_MO_flip_11 rfl ?_
    obtain ⟨v12, n12, c12, H⟩ := jbd_some H
    refine jv_callVi (sp_MO_isInside x1 x2 x3 c12) (pc := 12) d_MO_flip_12 c0_MO_isInside lk_MO_38 in_MO_isInside se_MO_isInside (by decide) rfl rfl rfl (Nat.le_of_ble_eq_true rfl) ⟨by decide, by decide, by decide, by decide⟩ (fun r12 m12 h12 => ?_)
    obtain ⟨ha12, hb12⟩ := h12
    have ha12 := ha12.symm
    subst ha12
    have hb12 := hb12.symm
    subst hb12
    refine jv_if_eq 22 (pc := 15) d_MO_flip_15 rfl (fun h15 => ?_) (fun h15 => ?_)
    · have h15 : v12 = 0 := h15
      have H := (if_pos h15).symm.trans H
      refine jv_iconst 1 (pc := 22) d_MO_flip_22 rfl ?_
      refine jv_puti (pc := 23) d_MO_flip_23 fa_MO_34_MO fp_MO_0 (by decide) rfl rfl rfl rfl ?_
      refine jv_aload_n 0 (pc := 26) d_MO_flip_26 rfl ?_
      refine jv_geti (pc := 27) d_MO_flip_27 fa_MO_34_MO (by decide) rfl rfl ?_
      refine jv_if_le 35 (pc := 30) d_MO_flip_30 rfl (fun h30 => absurd (show (1 : Int32) ≤ 0 from h30) (by decide)) (fun h30 => ?_)
      refine jv_iconst 0 (pc := 33) d_MO_flip_33 rfl ?_
      refine jv_iret (pc := 34) d_MO_flip_34 rfl rfl (Nat.zero_le _) (Nat.zero_le _) ?_
      cases H
      exact jI.of ⟨rfl, rfl⟩
    · have h15 : ¬ (v12 = 0) := h15
      have H := (if_neg h15).symm.trans H
      refine jv_iconst 0 (pc := 18) d_MO_flip_18 rfl ?_
      refine jv_goto 23 (pc := 19) d_MO_flip_19 rfl ?_
      refine jv_puti (pc := 23) d_MO_flip_23 fa_MO_34_MO fp_MO_0 (by decide) rfl rfl rfl rfl ?_
      refine jv_aload_n 0 (pc := 26) d_MO_flip_26 rfl ?_
      refine jv_geti (pc := 27) d_MO_flip_27 fa_MO_34_MO (by decide) rfl rfl ?_
      refine jv_if_le 35 (pc := 30) d_MO_flip_30 rfl (fun h30 => ?_) (fun h30 => absurd (show (0 : Int32) ≤ 0 by decide) (show ¬ ((0 : Int32) ≤ 0) from h30))
      refine jv_aload_n 0 (pc := 35) d_MO_flip_35 rfl ?_
      refine jv_iload_n 1 (pc := 36) d_MO_flip_36 rfl ?_
      refine jv_iload_n 2 (pc := 37) d_MO_flip_37 rfl ?_
      refine jv_iload_n 3 (pc := 38) d_MO_flip_38 rfl ?_
      refine jv_iconst 1 (pc := 39) d_MO_flip_39 rfl ?_
      refine jv_aload_n 0 (pc := 40) d_MO_flip_40 rfl ?_
      refine jv_iload_n 1 (pc := 41) d_MO_flip_41 rfl ?_
      refine jv_iload_n 2 (pc := 42) d_MO_flip_42 rfl ?_
      refine jv_iload_n 3 (pc := 43) d_MO_flip_43 rfl ?_
      obtain ⟨v44, n44, c44, H⟩ := jbd_some H
      refine jv_callVi (sp_MO_at x1 x2 x3 c44) (pc := 44) d_MO_flip_44 c0_MO_at lk_MO_50 in_MO_at se_MO_at (by decide) rfl rfl rfl (Nat.le_of_ble_eq_true rfl) ⟨by decide, by decide, by decide, by decide⟩ (fun r44 m44 h44 => ?_)
      obtain ⟨ha44, hb44⟩ := h44
      have ha44 := ha44.symm
      subst ha44
      have hb44 := hb44.symm
      subst hb44
      refine jv_isub (pc := 47) d_MO_flip_47 ?_
      obtain ⟨_, n48, c48, H⟩ := jbd_some H
      refine jv_callVv (sp_MO_ink x1 x2 x3 ((1 : Int32) - v44) c48) (pc := 48) d_MO_flip_48 c0_MO_ink lk_MO_54 in_MO_ink se_MO_ink (by decide) rfl rfl rfl (Nat.le_of_ble_eq_true rfl) ⟨by decide, by decide, by decide, by decide⟩ (fun m48 h48 => ?_)
      have hb48 := h48
      have hb48 := hb48.symm
      subst hb48
      refine jv_aload_n 0 (pc := 51) d_MO_flip_51 rfl ?_
      refine jv_iload_n 1 (pc := 52) d_MO_flip_52 rfl ?_
      refine jv_iload_n 2 (pc := 53) d_MO_flip_53 rfl ?_
      refine jv_iload_n 3 (pc := 54) d_MO_flip_54 rfl ?_
      obtain ⟨v55, n55, c55, H⟩ := jbd_some H
      refine jv_callVi (sp_MO_at x1 x2 x3 c55) (pc := 55) d_MO_flip_55 c0_MO_at lk_MO_50 in_MO_at se_MO_at (by decide) rfl rfl rfl (Nat.le_of_ble_eq_true rfl) ⟨by decide, by decide, by decide, by decide⟩ (fun r55 m55 h55 => ?_)
      obtain ⟨ha55, hb55⟩ := h55
      have ha55 := ha55.symm
      subst ha55
      have hb55 := hb55.symm
      subst hb55
      refine jv_iconst 1 (pc := 58) d_MO_flip_58 rfl ?_
      refine jv_icmp_ne 66 (pc := 59) d_MO_flip_59 rfl (fun h59 => ?_) (fun h59 => ?_)
      · have h59 : ¬ (v55 = (1 : Int32)) := h59
        have H := (if_neg h59).symm.trans H
        refine jv_iconst 0 (pc := 66) d_MO_flip_66 rfl ?_
        refine jv_iret (pc := 67) d_MO_flip_67 rfl rfl (Nat.zero_le _) (Nat.zero_le _) ?_
        cases H
        exact jI.of ⟨rfl, rfl⟩
      · have h59 : v55 = (1 : Int32) := h59
        have H := (if_pos h59).symm.trans H
        refine jv_iconst 1 (pc := 62) d_MO_flip_62 rfl ?_
        refine jv_goto 67 (pc := 63) d_MO_flip_63 rfl ?_
        refine jv_iret (pc := 67) d_MO_flip_67 rfl rfl (Nat.zero_le _) (Nat.zero_le _) ?_
        cases H
        exact jI.of ⟨rfl, rfl⟩
set_option maxRecDepth 40000 in
set_option maxHeartbeats 8000000 in
theorem sp_MO_point {G : jG} {σ τ : jMem} {r : Int32} (x1 x2 x3 : Int32) (H : f_MO_point x1 x2 x3 σ = some (r, τ)) : jSp G M_MO_point (jr 2 0 0) [.ref 38, .int x1, .int x2, .int x3] σ (jI fun r9 τ9 => r9 = r ∧ τ9 = τ) := by
  refine jSp.of rfl rfl (Nat.le_of_ble_eq_true rfl) ?_
  show jV _ _ _ _ 0 0 0 [(0, .ref 38), (1, .int x1), (2, .int x2), (3, .int x3)] [] σ
  unfold f_MO_point at H
  refine jv_aload_n 0 (pc := 0) d_MO_point_0 rfl ?_
  refine jv_iconst 0 (pc := 1) d_MO_point_1 rfl ?_
  refine jv_puti (pc := 2) d_MO_point_2 fa_MO_34_MO fp_MO_0 (by decide) rfl rfl rfl rfl ?_
  refine jv_iload_n 1 (pc := 5) d_MO_point_5 rfl ?_
  refine jv_callSi (sp_MO_isBoard x1) (pc := 6) d_MO_point_6 c0_MO_isBoard lk_MO_42 si_MO_isBoard rfl (Nat.le_of_ble_eq_true rfl) ⟨by decide, by decide, by decide, by decide⟩ (fun r6 m6 h6 => ?_)
  obtain ⟨ha6, hb6⟩ := h6
  subst ha6
  have hb6 := hb6.symm
  subst hb6
  refine jv_if_eq 27 (pc := 9) d_MO_point_9 rfl (fun h9 => ?_) (fun h9 => ?_)
  · have h9 : (f_MO_isBoard x1 (ju σ 38 0 (0 : Int32))) = 0 := h9
    have H := (if_pos h9).symm.trans H
    refine jv_iconst 0 (pc := 27) d_MO_point_27 rfl ?_
    refine jv_iret (pc := 28) d_MO_point_28 rfl rfl (Nat.zero_le _) (Nat.zero_le _) ?_
    cases H
    exact jI.of ⟨rfl, rfl⟩
  · have h9 : ¬ ((f_MO_isBoard x1 (ju σ 38 0 (0 : Int32))) = 0) := h9
    have H := (if_neg h9).symm.trans H
    refine jv_aload_n 0 (pc := 12) d_MO_point_12 rfl ?_
    refine jv_iload_n 1 (pc := 13) d_MO_point_13 rfl ?_
    refine jv_iload_n 2 (pc := 14) d_MO_point_14 rfl ?_
    refine jv_iload_n 3 (pc := 15) d_MO_point_15 rfl ?_
    obtain ⟨v16, n16, c16, H⟩ := jbd_some H
    refine jv_callVi (sp_MO_at x1 x2 x3 c16) (pc := 16) d_MO_point_16 c0_MO_at lk_MO_50 in_MO_at se_MO_at (by decide) rfl rfl rfl (Nat.le_of_ble_eq_true rfl) ⟨by decide, by decide, by decide, by decide⟩ (fun r16 m16 h16 => ?_)
    obtain ⟨ha16, hb16⟩ := h16
    have ha16 := ha16.symm
    subst ha16
    have hb16 := hb16.symm
    subst hb16
    refine jv_iconst 1 (pc := 19) d_MO_point_19 rfl ?_
    refine jv_icmp_ne 27 (pc := 20) d_MO_point_20 rfl (fun h20 => ?_) (fun h20 => ?_)
    · have h20 : ¬ (v16 = (1 : Int32)) := h20
      have H := (if_neg h20).symm.trans H
      refine jv_iconst 0 (pc := 27) d_MO_point_27 rfl ?_
      refine jv_iret (pc := 28) d_MO_point_28 rfl rfl (Nat.zero_le _) (Nat.zero_le _) ?_
      cases H
      exact jI.of ⟨rfl, rfl⟩
    · have h20 : v16 = (1 : Int32) := h20
      have H := (if_pos h20).symm.trans H
      refine jv_iconst 1 (pc := 23) d_MO_point_23 rfl ?_
      refine jv_goto 28 (pc := 24) d_MO_point_24 rfl ?_
      refine jv_iret (pc := 28) d_MO_point_28 rfl rfl (Nat.zero_le _) (Nat.zero_le _) ?_
      cases H
      exact jI.of ⟨rfl, rfl⟩
set_option maxRecDepth 40000 in
set_option maxHeartbeats 8000000 in
theorem lp_MO_lay_17 {G : jG} {R : Room} {Q : jO → jMem → Prop} (hR : 2 ≤ R.frames ∧ 40 * 2 ≤ R.locals) : ∀ (n : Nat) (x1 x2 x3 x4 x5 x6 x7 y1 y2 y3 y4 y5 y6 y7 : Int32) (σ τ : jMem), f_MO_lay_L17 n x1 x2 x3 x4 x5 x6 x7 σ = some ((y1, y2, y3, y4, y5, y6, y7), τ) → jV G M_MO_lay R Q 0 0 93 [(0, .ref 38), (1, .int y1), (2, .int y2), (3, .int y3), (4, .int y4), (5, .int y5), (6, .int y6), (7, .int y7)] [] τ → jV G M_MO_lay R Q 0 0 17 [(0, .ref 38), (1, .int x1), (2, .int x2), (3, .int x3), (4, .int x4), (5, .int x5), (6, .int x6), (7, .int x7)] [] σ := by
  intro n
  induction n with
  | zero =>
    intro x1 x2 x3 x4 x5 x6 x7 y1 y2 y3 y4 y5 y6 y7 σ τ H K
    cases H
  | succ n ih =>
    intro x1 x2 x3 x4 x5 x6 x7 y1 y2 y3 y4 y5 y6 y7 σ τ H K
    rw [f_MO_lay_L17.eq_2] at H
    refine jv_iload 7 (pc := 17) d_MO_lay_17 rfl ?_
    refine jv_aload_n 0 (pc := 19) d_MO_lay_19 rfl ?_
    refine jv_getr (pc := 20) d_MO_lay_20 fa_MO_13_MO (by decide) rfl rfl ?_
    refine jv_iload_n 2 (pc := 23) d_MO_lay_23 rfl ?_
    obtain ⟨b24, H⟩ := jck_some H
    refine jv_iald (pc := 24) d_MO_lay_24 (by decide) rfl b24 ?_
    refine jv_icmp_ge 93 (pc := 25) d_MO_lay_25 rfl (fun h25 => ?_) (fun h25 => ?_)
    · have h25 : (σ 40 x2.toNatClampNeg) ≤ x7 := h25
      have H := (if_pos h25).symm.trans H
      cases H
      exact jv_sub [0, 1, 2, 3, 4, 5, 6, 7] rfl K
    · have h25 : ¬ ((σ 40 x2.toNatClampNeg) ≤ x7) := h25
      have H := (if_neg h25).symm.trans H
      refine jv_aload_n 0 (pc := 28) d_MO_lay_28 rfl ?_
      refine jv_iload_n 1 (pc := 29) d_MO_lay_29 rfl ?_
      refine jv_iload_n 3 (pc := 30) d_MO_lay_30 rfl ?_
      refine jv_iload 7 (pc := 31) d_MO_lay_31 rfl ?_
      refine jv_iadd (pc := 33) d_MO_lay_33 ?_
      refine jv_iload 4 (pc := 34) d_MO_lay_34 rfl ?_
      refine jv_iload 6 (pc := 36) d_MO_lay_36 rfl ?_
      refine jv_iadd (pc := 38) d_MO_lay_38 ?_
      obtain ⟨v39, n39, c39, H⟩ := jbd_some H
      refine jv_callVi (sp_MO_isInside x1 (x3 + x7) (x4 + x6) c39) (pc := 39) d_MO_lay_39 c0_MO_isInside lk_MO_38 in_MO_isInside se_MO_isInside (by decide) rfl rfl rfl (Nat.le_of_ble_eq_true rfl) ⟨Nat.le_trans (Nat.le_of_ble_eq_true rfl : _ ≤ 2) hR.1, Nat.le_trans (Nat.le_of_ble_eq_true rfl : _ ≤ 40 * 2) hR.2, Nat.zero_le _, Nat.zero_le _⟩ (fun r39 m39 h39 => ?_)
      obtain ⟨ha39, hb39⟩ := h39
      have ha39 := ha39.symm
      subst ha39
      have hb39 := hb39.symm
      subst hb39
      refine jv_if_eq 87 (pc := 42) d_MO_lay_42 rfl (fun h42 => ?_) (fun h42 => ?_)
      · have h42 : v39 = 0 := h42
        have H := (if_pos h42).symm.trans H
        refine jv_iinc 7 _ (pc := 87) d_MO_lay_87 rfl (jinc1 _) (by decide) (jst7 rfl) ?_
        refine jv_goto 17 (pc := 90) d_MO_lay_90 rfl ?_
        exact jv_sub [0, 1, 2, 3, 4, 5, 6, 7] rfl (ih x1 x2 x3 x4 x5 x6 (x7 + 1) _ _ _ _ _ _ _ _ _ H K)
      · have h42 : ¬ (v39 = 0) := h42
        have H := (if_neg h42).symm.trans H
        refine jv_aload_n 0 (pc := 45) d_MO_lay_45 rfl ?_
        refine jv_iload_n 1 (pc := 46) d_MO_lay_46 rfl ?_
        refine jv_iload_n 3 (pc := 47) d_MO_lay_47 rfl ?_
        refine jv_iload 7 (pc := 48) d_MO_lay_48 rfl ?_
        refine jv_iadd (pc := 50) d_MO_lay_50 ?_
        refine jv_iload 4 (pc := 51) d_MO_lay_51 rfl ?_
        refine jv_iload 6 (pc := 53) d_MO_lay_53 rfl ?_
        refine jv_iadd (pc := 55) d_MO_lay_55 ?_
        refine jv_aload_n 0 (pc := 56) d_MO_lay_56 rfl ?_
        refine jv_iload_n 1 (pc := 57) d_MO_lay_57 rfl ?_
        refine jv_iload_n 3 (pc := 58) d_MO_lay_58 rfl ?_
        refine jv_iload 7 (pc := 59) d_MO_lay_59 rfl ?_
        refine jv_iadd (pc := 61) d_MO_lay_61 ?_
        refine jv_iload 4 (pc := 62) d_MO_lay_62 rfl ?_
        refine jv_iload 6 (pc := 64) d_MO_lay_64 rfl ?_
        refine jv_iadd (pc := 66) d_MO_lay_66 ?_
        obtain ⟨v67, n67, c67, H⟩ := jbd_some H
        refine jv_callVi (sp_MO_at x1 (x3 + x7) (x4 + x6) c67) (pc := 67) d_MO_lay_67 c0_MO_at lk_MO_50 in_MO_at se_MO_at (by decide) rfl rfl rfl (Nat.le_of_ble_eq_true rfl) ⟨Nat.le_trans (Nat.le_of_ble_eq_true rfl : _ ≤ 2) hR.1, Nat.le_trans (Nat.le_of_ble_eq_true rfl : _ ≤ 40 * 2) hR.2, Nat.zero_le _, Nat.zero_le _⟩ (fun r67 m67 h67 => ?_)
        obtain ⟨ha67, hb67⟩ := h67
        have ha67 := ha67.symm
        subst ha67
        have hb67 := hb67.symm
        subst hb67
        refine jv_aload_n 0 (pc := 70) d_MO_lay_70 rfl ?_
        refine jv_iload_n 2 (pc := 71) d_MO_lay_71 rfl ?_
        refine jv_iload 7 (pc := 72) d_MO_lay_72 rfl ?_
        refine jv_iload 6 (pc := 74) d_MO_lay_74 rfl ?_
        obtain ⟨v76, n76, c76, H⟩ := jbd_some H
        refine jv_callVi (sp_MO_at x2 x7 x6 c76) (pc := 76) d_MO_lay_76 c0_MO_at lk_MO_50 in_MO_at se_MO_at (by decide) rfl rfl rfl (Nat.le_of_ble_eq_true rfl) ⟨Nat.le_trans (Nat.le_of_ble_eq_true rfl : _ ≤ 2) hR.1, Nat.le_trans (Nat.le_of_ble_eq_true rfl : _ ≤ 40 * 2) hR.2, Nat.zero_le _, Nat.zero_le _⟩ (fun r76 m76 h76 => ?_)
        obtain ⟨ha76, hb76⟩ := h76
        have ha76 := ha76.symm
        subst ha76
        have hb76 := hb76.symm
        subst hb76
        refine jv_iload 5 (pc := 79) d_MO_lay_79 rfl ?_
        refine jv_callSi (sp_MO_mix v67 v76 x5) (pc := 81) d_MO_lay_81 c0_MO_mix lk_MO_58 si_MO_mix rfl (Nat.le_of_ble_eq_true rfl) ⟨Nat.le_trans (Nat.le_of_ble_eq_true rfl : _ ≤ 2) hR.1, Nat.le_trans (Nat.le_of_ble_eq_true rfl : _ ≤ 40 * 2) hR.2, Nat.zero_le _, Nat.zero_le _⟩ (fun r81 m81 h81 => ?_)
        obtain ⟨ha81, hb81⟩ := h81
        subst ha81
        have hb81 := hb81.symm
        subst hb81
        obtain ⟨_, n84, c84, H⟩ := jbd_some H
        refine jv_callVv (sp_MO_ink x1 (x3 + x7) (x4 + x6) (f_MO_mix v67 v76 x5 n76) c84) (pc := 84) d_MO_lay_84 c0_MO_ink lk_MO_54 in_MO_ink se_MO_ink (by decide) rfl rfl rfl (Nat.le_of_ble_eq_true rfl) ⟨Nat.le_trans (Nat.le_of_ble_eq_true rfl : _ ≤ 2) hR.1, Nat.le_trans (Nat.le_of_ble_eq_true rfl : _ ≤ 40 * 2) hR.2, Nat.zero_le _, Nat.zero_le _⟩ (fun m84 h84 => ?_)
        have hb84 := h84
        have hb84 := hb84.symm
        subst hb84
        refine jv_iinc 7 _ (pc := 87) d_MO_lay_87 rfl (jinc1 _) (by decide) (jst7 rfl) ?_
        refine jv_goto 17 (pc := 90) d_MO_lay_90 rfl ?_
        exact jv_sub [0, 1, 2, 3, 4, 5, 6, 7] rfl (ih x1 x2 x3 x4 x5 x6 (x7 + 1) _ _ _ _ _ _ _ _ _ H K)
set_option maxRecDepth 40000 in
set_option maxHeartbeats 8000000 in
theorem lp_MO_lay_3 {G : jG} : ∀ (n : Nat) (x1 x2 x3 x4 x5 x6 : Int32) (σ τ : jMem) (r : Unit), f_MO_lay_L3 n x1 x2 x3 x4 x5 x6 σ = some (r, τ) → jV G M_MO_lay (jr 2 0 0) (jU fun τ9 => τ9 = τ) 0 0 3 [(0, .ref 38), (1, .int x1), (2, .int x2), (3, .int x3), (4, .int x4), (5, .int x5), (6, .int x6)] [] σ := by
  intro n
  induction n with
  | zero =>
    intro x1 x2 x3 x4 x5 x6 σ τ r H
    cases H
  | succ n ih =>
    intro x1 x2 x3 x4 x5 x6 σ τ r H
    rw [f_MO_lay_L3.eq_2] at H
    refine jv_iload 6 (pc := 3) d_MO_lay_3 rfl ?_
    refine jv_aload_n 0 (pc := 5) d_MO_lay_5 rfl ?_
    refine jv_getr (pc := 6) d_MO_lay_6 fa_MO_16_MO (by decide) rfl rfl ?_
    refine jv_iload_n 2 (pc := 9) d_MO_lay_9 rfl ?_
    obtain ⟨b10, H⟩ := jck_some H
    refine jv_iald (pc := 10) d_MO_lay_10 (by decide) rfl b10 ?_
    refine jv_icmp_ge 99 (pc := 11) d_MO_lay_11 rfl (fun h11 => ?_) (fun h11 => ?_)
    · have h11 : (σ 41 x2.toNatClampNeg) ≤ x6 := h11
      have H := (if_pos h11).symm.trans H
      refine jv_vret (pc := 99) d_MO_lay_99 rfl (Nat.zero_le _) (Nat.zero_le _) ?_
      cases H
      exact jU.of rfl
    · have h11 : ¬ ((σ 41 x2.toNatClampNeg) ≤ x6) := h11
      have H := (if_neg h11).symm.trans H
      refine jv_iconst 0 (pc := 14) d_MO_lay_14 rfl ?_
      refine jv_istore (pc := 15) d_MO_lay_15 (by decide) (jsto_new rfl) ?_
      obtain ⟨⟨y17_1, y17_2, y17_3, y17_4, y17_5, y17_6, y17_7⟩, m17, c17, H⟩ := jbd_some H
      refine jv_sub [1, 2, 3, 4, 5, 6, 7, 0] rfl (lp_MO_lay_17  ⟨by decide, by decide⟩ _ x1 x2 x3 x4 x5 x6 (0 : Int32) y17_1 y17_2 y17_3 y17_4 y17_5 y17_6 y17_7 _ _ c17 ?_)
      refine jv_iinc 6 _ (pc := 93) d_MO_lay_93 rfl (jinc1 _) (by decide) (jst6 rfl) ?_
      refine jv_goto 3 (pc := 96) d_MO_lay_96 rfl ?_
      exact jv_sub [0, 1, 2, 3, 4, 5, 6] rfl (ih y17_1 y17_2 y17_3 y17_4 y17_5 (y17_6 + 1) _ _ _ H)
set_option maxRecDepth 40000 in
set_option maxHeartbeats 8000000 in
theorem sp_MO_lay {G : jG} {σ τ : jMem} {r : Unit} (x1 x2 x3 x4 x5 : Int32) (H : f_MO_lay x1 x2 x3 x4 x5 σ = some (r, τ)) : jSp G M_MO_lay (jr 2 0 0) [.ref 38, .int x1, .int x2, .int x3, .int x4, .int x5] σ (jU fun τ9 => τ9 = τ) := by
  refine jSp.of rfl rfl (Nat.le_of_ble_eq_true rfl) ?_
  show jV _ _ _ _ 0 0 0 [(0, .ref 38), (1, .int x1), (2, .int x2), (3, .int x3), (4, .int x4), (5, .int x5)] [] σ
  unfold f_MO_lay at H
  refine jv_iconst 0 (pc := 0) d_MO_lay_0 rfl ?_
  refine jv_istore (pc := 1) d_MO_lay_1 (by decide) (jsto_new rfl) ?_
  exact jv_sub [1, 2, 3, 4, 5, 6, 0] rfl (lp_MO_lay_3  _ x1 x2 x3 x4 x5 (0 : Int32) _ _ _ H)
set_option maxRecDepth 40000 in
set_option maxHeartbeats 8000000 in
theorem sp_MO_draw {G : jG} {σ τ : jMem} {r : Unit} (x1 x2 x3 x4 x5 : Int32) (H : f_MO_draw x1 x2 x3 x4 x5 σ = some (r, τ)) : jSp G M_MO_draw (jr 3 0 0) [.ref 38, .int x1, .int x2, .int x3, .int x4, .int x5] σ (jU fun τ9 => τ9 = τ) := by
  refine jSp.of rfl rfl (Nat.le_of_ble_eq_true rfl) ?_
  show jV _ _ _ _ 0 0 0 [(0, .ref 38), (1, .int x1), (2, .int x2), (3, .int x3), (4, .int x4), (5, .int x5)] [] σ
  unfold f_MO_draw at H
  refine jv_aload_n 0 (pc := 0) d_MO_draw_0 rfl ?_
  refine jv_iload_n 1 (pc := 1) d_MO_draw_1 rfl ?_
  refine jv_callSi (sp_MO_isBoard x1) (pc := 2) d_MO_draw_2 c0_MO_isBoard lk_MO_42 si_MO_isBoard rfl (Nat.le_of_ble_eq_true rfl) ⟨by decide, by decide, by decide, by decide⟩ (fun r2 m2 h2 => ?_)
  obtain ⟨ha2, hb2⟩ := h2
  subst ha2
  have hb2 := hb2.symm
  subst hb2
  refine jv_if_eq 15 (pc := 5) d_MO_draw_5 rfl (fun h5 => ?_) (fun h5 => ?_)
  · have h5 : (f_MO_isBoard x1 σ) = 0 := h5
    have H := (if_pos h5).symm.trans H
    refine jv_iconst 1 (pc := 15) d_MO_draw_15 rfl ?_
    refine jv_goto 55 (pc := 16) d_MO_draw_16 rfl ?_
    refine jv_puti (pc := 55) d_MO_draw_55 fa_MO_34_MO fp_MO_0 (by decide) rfl rfl rfl rfl ?_
    refine jv_aload_n 0 (pc := 58) d_MO_draw_58 rfl ?_
    refine jv_geti (pc := 59) d_MO_draw_59 fa_MO_34_MO (by decide) rfl rfl ?_
    refine jv_if_ne 76 (pc := 62) d_MO_draw_62 rfl (fun h62 => ?_) (fun h62 => absurd (show (1 : Int32) = 0 from h62) (by decide))
    refine jv_vret (pc := 76) d_MO_draw_76 rfl (Nat.zero_le _) (Nat.zero_le _) ?_
    cases H
    exact jU.of rfl
  · have h5 : ¬ ((f_MO_isBoard x1 σ) = 0) := h5
    have H := (if_neg h5).symm.trans H
    refine jv_iload_n 2 (pc := 8) d_MO_draw_8 rfl ?_
    refine jv_callSi (sp_MO_isBoard x2) (pc := 9) d_MO_draw_9 c0_MO_isBoard lk_MO_42 si_MO_isBoard rfl (Nat.le_of_ble_eq_true rfl) ⟨by decide, by decide, by decide, by decide⟩ (fun r9 m9 h9 => ?_)
    obtain ⟨ha9, hb9⟩ := h9
    subst ha9
    have hb9 := hb9.symm
    subst hb9
    refine jv_if_ne 19 (pc := 12) d_MO_draw_12 rfl (fun h12 => ?_) (fun h12 => ?_)
    · have h12 : ¬ ((f_MO_isBoard x2 σ) = 0) := h12
      have H := (if_neg h12).symm.trans H
      refine jv_iload_n 1 (pc := 19) d_MO_draw_19 rfl ?_
      refine jv_iload_n 2 (pc := 20) d_MO_draw_20 rfl ?_
      refine jv_icmp_eq 50 (pc := 21) d_MO_draw_21 rfl (fun h21 => ?_) (fun h21 => ?_)
      · have h21 : x1 = x2 := h21
        have H := (if_pos h21).symm.trans H
        refine jv_iconst 2 (pc := 50) d_MO_draw_50 rfl ?_
        refine jv_goto 55 (pc := 51) d_MO_draw_51 rfl ?_
        refine jv_puti (pc := 55) d_MO_draw_55 fa_MO_34_MO fp_MO_0 (by decide) rfl rfl rfl rfl ?_
        refine jv_aload_n 0 (pc := 58) d_MO_draw_58 rfl ?_
        refine jv_geti (pc := 59) d_MO_draw_59 fa_MO_34_MO (by decide) rfl rfl ?_
        refine jv_if_ne 76 (pc := 62) d_MO_draw_62 rfl (fun h62 => ?_) (fun h62 => absurd (show (2 : Int32) = 0 from h62) (by decide))
        refine jv_vret (pc := 76) d_MO_draw_76 rfl (Nat.zero_le _) (Nat.zero_le _) ?_
        cases H
        exact jU.of rfl
      · have h21 : ¬ (x1 = x2) := h21
        have H := (if_neg h21).symm.trans H
        refine jv_iload 5 (pc := 24) d_MO_draw_24 rfl ?_
        refine jv_if_lt 50 (pc := 26) d_MO_draw_26 rfl (fun h26 => ?_) (fun h26 => ?_)
        · have h26 : x5 < 0 := h26
          have H := (if_pos h26).symm.trans H
          refine jv_iconst 2 (pc := 50) d_MO_draw_50 rfl ?_
          refine jv_goto 55 (pc := 51) d_MO_draw_51 rfl ?_
          refine jv_puti (pc := 55) d_MO_draw_55 fa_MO_34_MO fp_MO_0 (by decide) rfl rfl rfl rfl ?_
          refine jv_aload_n 0 (pc := 58) d_MO_draw_58 rfl ?_
          refine jv_geti (pc := 59) d_MO_draw_59 fa_MO_34_MO (by decide) rfl rfl ?_
          refine jv_if_ne 76 (pc := 62) d_MO_draw_62 rfl (fun h62 => ?_) (fun h62 => absurd (show (2 : Int32) = 0 from h62) (by decide))
          refine jv_vret (pc := 76) d_MO_draw_76 rfl (Nat.zero_le _) (Nat.zero_le _) ?_
          cases H
          exact jU.of rfl
        · have h26 : ¬ (x5 < 0) := h26
          have H := (if_neg h26).symm.trans H
          refine jv_iload 5 (pc := 29) d_MO_draw_29 rfl ?_
          refine jv_iconst 4 (pc := 31) d_MO_draw_31 rfl ?_
          refine jv_icmp_gt 50 (pc := 32) d_MO_draw_32 rfl (fun h32 => ?_) (fun h32 => ?_)
          · have h32 : (4 : Int32) < x5 := h32
            have H := (if_pos h32).symm.trans H
            refine jv_iconst 2 (pc := 50) d_MO_draw_50 rfl ?_
            refine jv_goto 55 (pc := 51) d_MO_draw_51 rfl ?_
            refine jv_puti (pc := 55) d_MO_draw_55 fa_MO_34_MO fp_MO_0 (by decide) rfl rfl rfl rfl ?_
            refine jv_aload_n 0 (pc := 58) d_MO_draw_58 rfl ?_
            refine jv_geti (pc := 59) d_MO_draw_59 fa_MO_34_MO (by decide) rfl rfl ?_
            refine jv_if_ne 76 (pc := 62) d_MO_draw_62 rfl (fun h62 => ?_) (fun h62 => absurd (show (2 : Int32) = 0 from h62) (by decide))
            refine jv_vret (pc := 76) d_MO_draw_76 rfl (Nat.zero_le _) (Nat.zero_le _) ?_
            cases H
            exact jU.of rfl
          · have h32 : ¬ ((4 : Int32) < x5) := h32
            have H := (if_neg h32).symm.trans H
            refine jv_iload_n 3 (pc := 35) d_MO_draw_35 rfl ?_
            refine jv_callSi (sp_MO_isFar x3) (pc := 36) d_MO_draw_36 c0_MO_isFar lk_MO_61 si_MO_isFar rfl (Nat.le_of_ble_eq_true rfl) ⟨by decide, by decide, by decide, by decide⟩ (fun r36 m36 h36 => ?_)
            obtain ⟨ha36, hb36⟩ := h36
            subst ha36
            have hb36 := hb36.symm
            subst hb36
            refine jv_if_ne 50 (pc := 39) d_MO_draw_39 rfl (fun h39 => ?_) (fun h39 => ?_)
            · have h39 : ¬ ((f_MO_isFar x3 σ) = 0) := h39
              have H := (if_neg h39).symm.trans H
              refine jv_iconst 2 (pc := 50) d_MO_draw_50 rfl ?_
              refine jv_goto 55 (pc := 51) d_MO_draw_51 rfl ?_
              refine jv_puti (pc := 55) d_MO_draw_55 fa_MO_34_MO fp_MO_0 (by decide) rfl rfl rfl rfl ?_
              refine jv_aload_n 0 (pc := 58) d_MO_draw_58 rfl ?_
              refine jv_geti (pc := 59) d_MO_draw_59 fa_MO_34_MO (by decide) rfl rfl ?_
              refine jv_if_ne 76 (pc := 62) d_MO_draw_62 rfl (fun h62 => ?_) (fun h62 => absurd (show (2 : Int32) = 0 from h62) (by decide))
              refine jv_vret (pc := 76) d_MO_draw_76 rfl (Nat.zero_le _) (Nat.zero_le _) ?_
              cases H
              exact jU.of rfl
            · have h39 : (f_MO_isFar x3 σ) = 0 := h39
              have H := (if_pos h39).symm.trans H
              refine jv_iload 4 (pc := 42) d_MO_draw_42 rfl ?_
              refine jv_callSi (sp_MO_isFar x4) (pc := 44) d_MO_draw_44 c0_MO_isFar lk_MO_61 si_MO_isFar rfl (Nat.le_of_ble_eq_true rfl) ⟨by decide, by decide, by decide, by decide⟩ (fun r44 m44 h44 => ?_)
              obtain ⟨ha44, hb44⟩ := h44
              subst ha44
              have hb44 := hb44.symm
              subst hb44
              refine jv_if_eq 54 (pc := 47) d_MO_draw_47 rfl (fun h47 => ?_) (fun h47 => ?_)
              · have h47 : (f_MO_isFar x4 σ) = 0 := h47
                have H := (if_pos h47).symm.trans H
                refine jv_iconst 0 (pc := 54) d_MO_draw_54 rfl ?_
                refine jv_puti (pc := 55) d_MO_draw_55 fa_MO_34_MO fp_MO_0 (by decide) rfl rfl rfl rfl ?_
                refine jv_aload_n 0 (pc := 58) d_MO_draw_58 rfl ?_
                refine jv_geti (pc := 59) d_MO_draw_59 fa_MO_34_MO (by decide) rfl rfl ?_
                refine jv_if_ne 76 (pc := 62) d_MO_draw_62 rfl (fun h62 => absurd (show (0 : Int32) = 0 by decide) (show ¬ ((0 : Int32) = 0) from h62)) (fun h62 => ?_)
                refine jv_aload_n 0 (pc := 65) d_MO_draw_65 rfl ?_
                refine jv_iload_n 1 (pc := 66) d_MO_draw_66 rfl ?_
                refine jv_iload_n 2 (pc := 67) d_MO_draw_67 rfl ?_
                refine jv_iload_n 3 (pc := 68) d_MO_draw_68 rfl ?_
                refine jv_iload 4 (pc := 69) d_MO_draw_69 rfl ?_
                refine jv_iload 5 (pc := 71) d_MO_draw_71 rfl ?_
                obtain ⟨_, n73, c73, H⟩ := jbd_some H
                refine jv_callVv (sp_MO_lay x1 x2 x3 x4 x5 c73) (pc := 73) d_MO_draw_73 c0_MO_lay lk_MO_64 in_MO_lay se_MO_lay (by decide) rfl rfl rfl (Nat.le_of_ble_eq_true rfl) ⟨by decide, by decide, by decide, by decide⟩ (fun m73 h73 => ?_)
                have hb73 := h73
                have hb73 := hb73.symm
                subst hb73
                refine jv_vret (pc := 76) d_MO_draw_76 rfl (Nat.zero_le _) (Nat.zero_le _) ?_
                cases H
                exact jU.of rfl
              · have h47 : ¬ ((f_MO_isFar x4 σ) = 0) := h47
                have H := (if_neg h47).symm.trans H
                refine jv_iconst 2 (pc := 50) d_MO_draw_50 rfl ?_
                refine jv_goto 55 (pc := 51) d_MO_draw_51 rfl ?_
                refine jv_puti (pc := 55) d_MO_draw_55 fa_MO_34_MO fp_MO_0 (by decide) rfl rfl rfl rfl ?_
                refine jv_aload_n 0 (pc := 58) d_MO_draw_58 rfl ?_
                refine jv_geti (pc := 59) d_MO_draw_59 fa_MO_34_MO (by decide) rfl rfl ?_
                refine jv_if_ne 76 (pc := 62) d_MO_draw_62 rfl (fun h62 => ?_) (fun h62 => absurd (show (2 : Int32) = 0 from h62) (by decide))
                refine jv_vret (pc := 76) d_MO_draw_76 rfl (Nat.zero_le _) (Nat.zero_le _) ?_
                cases H
                exact jU.of rfl
    · have h12 : (f_MO_isBoard x2 σ) = 0 := h12
      have H := (if_pos h12).symm.trans H
      refine jv_iconst 1 (pc := 15) d_MO_draw_15 rfl ?_
      refine jv_goto 55 (pc := 16) d_MO_draw_16 rfl ?_
      refine jv_puti (pc := 55) d_MO_draw_55 fa_MO_34_MO fp_MO_0 (by decide) rfl rfl rfl rfl ?_
      refine jv_aload_n 0 (pc := 58) d_MO_draw_58 rfl ?_
      refine jv_geti (pc := 59) d_MO_draw_59 fa_MO_34_MO (by decide) rfl rfl ?_
      refine jv_if_ne 76 (pc := 62) d_MO_draw_62 rfl (fun h62 => ?_) (fun h62 => absurd (show (1 : Int32) = 0 from h62) (by decide))
      refine jv_vret (pc := 76) d_MO_draw_76 rfl (Nat.zero_le _) (Nat.zero_le _) ?_
      cases H
      exact jU.of rfl
set_option maxRecDepth 40000 in
set_option maxHeartbeats 8000000 in
theorem lp_MO_board_43 {G : jG} : ∀ (n : Nat) (x1 x2 x3 x4 : Int32) (σ τ : jMem) (r : Int32), f_MO_board_L43 n x1 x2 x3 x4 σ = some (r, τ) → jV G M_MO_board (jr 1 0 0) (jI fun r9 τ9 => r9 = r ∧ τ9 = τ) 0 0 43 [(0, .ref 38), (1, .int x1), (2, .int x2), (3, .int x3), (4, .int x4)] [] σ := by
  intro n
  induction n with
  | zero =>
    intro x1 x2 x3 x4 σ τ r H
    cases H
  | succ n ih =>
    intro x1 x2 x3 x4 σ τ r H
    rw [f_MO_board_L43.eq_2] at H
    refine jv_iload 4 (pc := 43) d_MO_board_43 rfl ?_
    refine jv_sipush (576) (pc := 45) d_MO_board_45 rfl ?_
    refine jv_icmp_ge 83 (pc := 48) d_MO_board_48 rfl (fun h48 => ?_) (fun h48 => ?_)
    · have h48 : (576 : Int32) ≤ x4 := h48
      have H := (if_pos h48).symm.trans H
      refine jv_iload_n 2 (pc := 83) d_MO_board_83 rfl ?_
      refine jv_if_ne 91 (pc := 84) d_MO_board_84 rfl (fun h84 => ?_) (fun h84 => ?_)
      · have h84 : ¬ (x2 = 0) := h84
        have H := (if_neg h84).symm.trans H
        refine jv_iload_n 2 (pc := 91) d_MO_board_91 rfl ?_
        refine jv_iconst 1 (pc := 92) d_MO_board_92 rfl ?_
        refine jv_icmp_ne 105 (pc := 93) d_MO_board_93 rfl (fun h93 => ?_) (fun h93 => ?_)
        · have h93 : ¬ (x2 = (1 : Int32)) := h93
          have H := (if_neg h93).symm.trans H
          refine jv_aload_n 0 (pc := 105) d_MO_board_105 rfl ?_
          refine jv_getr (pc := 106) d_MO_board_106 fa_MO_16_MO (by decide) rfl rfl ?_
          refine jv_iload_n 1 (pc := 109) d_MO_board_109 rfl ?_
          obtain ⟨b110, H⟩ := jck_some H
          refine jv_iald (pc := 110) d_MO_board_110 (by decide) rfl b110 ?_
          refine jv_iret (pc := 111) d_MO_board_111 rfl rfl (Nat.zero_le _) (Nat.zero_le _) ?_
          cases H
          exact jI.of ⟨rfl, rfl⟩
        · have h93 : x2 = (1 : Int32) := h93
          have H := (if_pos h93).symm.trans H
          refine jv_aload_n 0 (pc := 96) d_MO_board_96 rfl ?_
          refine jv_getr (pc := 97) d_MO_board_97 fa_MO_13_MO (by decide) rfl rfl ?_
          refine jv_iload_n 1 (pc := 100) d_MO_board_100 rfl ?_
          obtain ⟨b101, H⟩ := jck_some H
          refine jv_iald (pc := 101) d_MO_board_101 (by decide) rfl b101 ?_
          refine jv_goto 111 (pc := 102) d_MO_board_102 rfl ?_
          refine jv_iret (pc := 111) d_MO_board_111 rfl rfl (Nat.zero_le _) (Nat.zero_le _) ?_
          cases H
          exact jI.of ⟨rfl, rfl⟩
      · have h84 : x2 = 0 := h84
        have H := (if_pos h84).symm.trans H
        refine jv_iload_n 3 (pc := 87) d_MO_board_87 rfl ?_
        refine jv_goto 111 (pc := 88) d_MO_board_88 rfl ?_
        refine jv_iret (pc := 111) d_MO_board_111 rfl rfl (Nat.zero_le _) (Nat.zero_le _) ?_
        cases H
        exact jI.of ⟨rfl, rfl⟩
    · have h48 : ¬ ((576 : Int32) ≤ x4) := h48
      have H := (if_neg h48).symm.trans H
      refine jv_iload_n 3 (pc := 51) d_MO_board_51 rfl ?_
      refine jv_aload_n 0 (pc := 52) d_MO_board_52 rfl ?_
      refine jv_getr (pc := 53) d_MO_board_53 fa_MO_7_MO (by decide) rfl rfl ?_
      refine jv_bipush (24) (pc := 56) d_MO_board_56 rfl ?_
      refine jv_iload_n 1 (pc := 58) d_MO_board_58 rfl ?_
      refine jv_imul (pc := 59) d_MO_board_59 ?_
      refine jv_iload 4 (pc := 60) d_MO_board_60 rfl ?_
      refine jv_bipush (24) (pc := 62) d_MO_board_62 rfl ?_
      refine jv_idiv (pc := 64) d_MO_board_64 (by decide) ?_
      refine jv_iadd (pc := 65) d_MO_board_65 ?_
      obtain ⟨b66, H⟩ := jck_some H
      refine jv_iald (pc := 66) d_MO_board_66 (by decide) rfl b66 ?_
      refine jv_iload 4 (pc := 67) d_MO_board_67 rfl ?_
      refine jv_bipush (24) (pc := 69) d_MO_board_69 rfl ?_
      refine jv_irem (pc := 71) d_MO_board_71 (by decide) ?_
      refine jv_ishr (pc := 72) d_MO_board_72 ?_
      refine jv_iconst 1 (pc := 73) d_MO_board_73 rfl ?_
      refine jv_iand (pc := 74) d_MO_board_74 ?_
      refine jv_iadd (pc := 75) d_MO_board_75 ?_
      refine jv_istore_n (pc := 76) d_MO_board_76 rfl (by decide) (jst3 rfl) ?_
      refine jv_iinc 4 _ (pc := 77) d_MO_board_77 rfl (jinc1 _) (by decide) (jst4 rfl) ?_
      refine jv_goto 43 (pc := 80) d_MO_board_80 rfl ?_
      exact jv_sub [0, 1, 2, 3, 4] rfl (ih x1 x2 (x3 + (((σ 39 ((((24 : Int32) * x1) + (x4 / (24 : Int32))).toNatClampNeg)) >>> ((x4 - x4 / (24 : Int32) * (24 : Int32)) &&& 31)) &&& (1 : Int32))) (x4 + 1) _ _ _ H)
set_option maxRecDepth 40000 in
set_option maxHeartbeats 8000000 in
theorem sp_MO_board {G : jG} {σ τ : jMem} {r : Int32} (x1 x2 : Int32) (H : f_MO_board x1 x2 σ = some (r, τ)) : jSp G M_MO_board (jr 1 0 0) [.ref 38, .int x1, .int x2] σ (jI fun r9 τ9 => r9 = r ∧ τ9 = τ) := by
  refine jSp.of rfl rfl (Nat.le_of_ble_eq_true rfl) ?_
  show jV _ _ _ _ 0 0 0 [(0, .ref 38), (1, .int x1), (2, .int x2)] [] σ
  unfold f_MO_board at H
  refine jv_aload_n 0 (pc := 0) d_MO_board_0 rfl ?_
  refine jv_iload_n 1 (pc := 1) d_MO_board_1 rfl ?_
  refine jv_callSi (sp_MO_isBoard x1) (pc := 2) d_MO_board_2 c0_MO_isBoard lk_MO_42 si_MO_isBoard rfl (Nat.le_of_ble_eq_true rfl) ⟨by decide, by decide, by decide, by decide⟩ (fun r2 m2 h2 => ?_)
  obtain ⟨ha2, hb2⟩ := h2
  subst ha2
  have hb2 := hb2.symm
  subst hb2
  refine jv_if_ne 12 (pc := 5) d_MO_board_5 rfl (fun h5 => ?_) (fun h5 => ?_)
  · have h5 : ¬ ((f_MO_isBoard x1 σ) = 0) := h5
    have H := (if_neg h5).symm.trans H
    refine jv_iload_n 2 (pc := 12) d_MO_board_12 rfl ?_
    refine jv_if_lt 21 (pc := 13) d_MO_board_13 rfl (fun h13 => ?_) (fun h13 => ?_)
    · have h13 : x2 < 0 := h13
      have H := (if_pos h13).symm.trans H
      refine jv_iconst 2 (pc := 21) d_MO_board_21 rfl ?_
      refine jv_goto 26 (pc := 22) d_MO_board_22 rfl ?_
      refine jv_puti (pc := 26) d_MO_board_26 fa_MO_34_MO fp_MO_0 (by decide) rfl rfl rfl rfl ?_
      refine jv_aload_n 0 (pc := 29) d_MO_board_29 rfl ?_
      refine jv_geti (pc := 30) d_MO_board_30 fa_MO_34_MO (by decide) rfl rfl ?_
      refine jv_if_le 38 (pc := 33) d_MO_board_33 rfl (fun h33 => absurd (show (2 : Int32) ≤ 0 from h33) (by decide)) (fun h33 => ?_)
      refine jv_iconst 0 (pc := 36) d_MO_board_36 rfl ?_
      refine jv_iret (pc := 37) d_MO_board_37 rfl rfl (Nat.zero_le _) (Nat.zero_le _) ?_
      cases H
      exact jI.of ⟨rfl, rfl⟩
    · have h13 : ¬ (x2 < 0) := h13
      have H := (if_neg h13).symm.trans H
      refine jv_iload_n 2 (pc := 16) d_MO_board_16 rfl ?_
      refine jv_iconst 2 (pc := 17) d_MO_board_17 rfl ?_
      refine jv_icmp_le 25 (pc := 18) d_MO_board_18 rfl (fun h18 => ?_) (fun h18 => ?_)
      · have h18 : x2 ≤ (2 : Int32) := h18
        have H := (if_pos h18).symm.trans H
        refine jv_iconst 0 (pc := 25) d_MO_board_25 rfl ?_
        refine jv_puti (pc := 26) d_MO_board_26 fa_MO_34_MO fp_MO_0 (by decide) rfl rfl rfl rfl ?_
        refine jv_aload_n 0 (pc := 29) d_MO_board_29 rfl ?_
        refine jv_geti (pc := 30) d_MO_board_30 fa_MO_34_MO (by decide) rfl rfl ?_
        refine jv_if_le 38 (pc := 33) d_MO_board_33 rfl (fun h33 => ?_) (fun h33 => absurd (show (0 : Int32) ≤ 0 by decide) (show ¬ ((0 : Int32) ≤ 0) from h33))
        refine jv_iconst 0 (pc := 38) d_MO_board_38 rfl ?_
        refine jv_istore_n (pc := 39) d_MO_board_39 rfl (by decide) (jsto_new rfl) ?_
        refine jv_iconst 0 (pc := 40) d_MO_board_40 rfl ?_
        refine jv_istore (pc := 41) d_MO_board_41 (by decide) (jsto_new rfl) ?_
        exact jv_sub [2, 3, 4, 1, 0] rfl (lp_MO_board_43  _ x1 x2 (0 : Int32) (0 : Int32) _ _ _ H)
      · have h18 : ¬ (x2 ≤ (2 : Int32)) := h18
        have H := (if_neg h18).symm.trans H
        refine jv_iconst 2 (pc := 21) d_MO_board_21 rfl ?_
        refine jv_goto 26 (pc := 22) d_MO_board_22 rfl ?_
        refine jv_puti (pc := 26) d_MO_board_26 fa_MO_34_MO fp_MO_0 (by decide) rfl rfl rfl rfl ?_
        refine jv_aload_n 0 (pc := 29) d_MO_board_29 rfl ?_
        refine jv_geti (pc := 30) d_MO_board_30 fa_MO_34_MO (by decide) rfl rfl ?_
        refine jv_if_le 38 (pc := 33) d_MO_board_33 rfl (fun h33 => absurd (show (2 : Int32) ≤ 0 from h33) (by decide)) (fun h33 => ?_)
        refine jv_iconst 0 (pc := 36) d_MO_board_36 rfl ?_
        refine jv_iret (pc := 37) d_MO_board_37 rfl rfl (Nat.zero_le _) (Nat.zero_le _) ?_
        cases H
        exact jI.of ⟨rfl, rfl⟩
  · have h5 : (f_MO_isBoard x1 σ) = 0 := h5
    have H := (if_pos h5).symm.trans H
    refine jv_iconst 1 (pc := 8) d_MO_board_8 rfl ?_
    refine jv_goto 26 (pc := 9) d_MO_board_9 rfl ?_
    refine jv_puti (pc := 26) d_MO_board_26 fa_MO_34_MO fp_MO_0 (by decide) rfl rfl rfl rfl ?_
    refine jv_aload_n 0 (pc := 29) d_MO_board_29 rfl ?_
    refine jv_geti (pc := 30) d_MO_board_30 fa_MO_34_MO (by decide) rfl rfl ?_
    refine jv_if_le 38 (pc := 33) d_MO_board_33 rfl (fun h33 => absurd (show (1 : Int32) ≤ 0 from h33) (by decide)) (fun h33 => ?_)
    refine jv_iconst 0 (pc := 36) d_MO_board_36 rfl ?_
    refine jv_iret (pc := 37) d_MO_board_37 rfl rfl (Nat.zero_le _) (Nat.zero_le _) ?_
    cases H
    exact jI.of ⟨rfl, rfl⟩
set_option maxRecDepth 40000 in
set_option maxHeartbeats 8000000 in
theorem sp_MO_byteAt {G : jG} {σ τ : jMem} {r : Int32} (x1 : Int32) (H : f_MO_byteAt x1 σ = some (r, τ)) : jSp G M_MO_byteAt (jr 0 0 0) [.ref 38, .int x1] σ (jI fun r9 τ9 => r9 = r ∧ τ9 = τ) := by
  refine jSp.of rfl rfl (Nat.le_of_ble_eq_true rfl) ?_
  show jV _ _ _ _ 0 0 0 [(0, .ref 38), (1, .int x1)] [] σ
  unfold f_MO_byteAt at H
  refine jv_iload_n 1 (pc := 0) d_MO_byteAt_0 rfl ?_
  refine jv_aload_n 0 (pc := 1) d_MO_byteAt_1 rfl ?_
  refine jv_geti (pc := 2) d_MO_byteAt_2 fa_MO_71_MO (by decide) rfl rfl ?_
  refine jv_icmp_ge 17 (pc := 5) d_MO_byteAt_5 rfl (fun h5 => ?_) (fun h5 => ?_)
  · have h5 : (σ 38 9) ≤ x1 := h5
    have H := (if_pos h5).symm.trans H
    refine jv_sipush (255) (pc := 17) d_MO_byteAt_17 rfl ?_
    refine jv_iret (pc := 20) d_MO_byteAt_20 rfl rfl (Nat.zero_le _) (Nat.zero_le _) ?_
    cases H
    exact jI.of ⟨rfl, rfl⟩
  · have h5 : ¬ ((σ 38 9) ≤ x1) := h5
    have H := (if_neg h5).symm.trans H
    refine jv_aload_n 0 (pc := 8) d_MO_byteAt_8 rfl ?_
    refine jv_getr (pc := 9) d_MO_byteAt_9 fa_MO_28_MO (by decide) rfl rfl ?_
    refine jv_iload_n 1 (pc := 12) d_MO_byteAt_12 rfl ?_
    obtain ⟨b13, H⟩ := jck_some H
    refine jv_iald (pc := 13) d_MO_byteAt_13 (by decide) rfl b13 ?_
    refine jv_goto 20 (pc := 14) d_MO_byteAt_14 rfl ?_
    refine jv_iret (pc := 20) d_MO_byteAt_20 rfl rfl (Nat.zero_le _) (Nat.zero_le _) ?_
    cases H
    exact jI.of ⟨rfl, rfl⟩
set_option maxRecDepth 40000 in
set_option maxHeartbeats 8000000 in
theorem sp_MO_comeIn {G : jG} {σ τ : jMem} {r : Unit} (H : f_MO_comeIn σ = some (r, τ)) : jSp G M_MO_comeIn (jr 1 0 0) [.ref 38] σ (jU fun τ9 => τ9 = τ) := by
  refine jSp.of rfl rfl (Nat.le_of_ble_eq_true rfl) ?_
  show jV _ _ _ _ 0 0 0 [(0, .ref 38)] [] σ
  unfold f_MO_comeIn at H
  refine jv_aload_n 0 (pc := 0) d_MO_comeIn_0 rfl ?_
  refine jv_aload_n 0 (pc := 1) d_MO_comeIn_1 rfl ?_
  refine jv_geti (pc := 2) d_MO_comeIn_2 fa_MO_158_MO (by decide) rfl rfl ?_
  obtain ⟨v5, n5, c5, H⟩ := jbd_some H
  refine jv_callVi (sp_MO_byteAt (σ 38 17) c5) (pc := 5) d_MO_comeIn_5 c0_MO_byteAt lk_MO_161 in_MO_byteAt se_MO_byteAt (by decide) rfl rfl rfl (Nat.le_of_ble_eq_true rfl) ⟨by decide, by decide, by decide, by decide⟩ (fun r5 m5 h5 => ?_)
  obtain ⟨ha5, hb5⟩ := h5
  have ha5 := ha5.symm
  subst ha5
  have hb5 := hb5.symm
  subst hb5
  refine jv_sipush (255) (pc := 8) d_MO_comeIn_8 rfl ?_
  refine jv_icmp_ne 50 (pc := 11) d_MO_comeIn_11 rfl (fun h11 => ?_) (fun h11 => ?_)
  · have h11 : ¬ (v5 = (255 : Int32)) := h11
    have H := (if_neg h11).symm.trans H
    refine jv_aload_n 0 (pc := 50) d_MO_comeIn_50 rfl ?_
    refine jv_aload_n 0 (pc := 51) d_MO_comeIn_51 rfl ?_
    refine jv_geti (pc := 52) d_MO_comeIn_52 fa_MO_158_MO (by decide) rfl rfl ?_
    obtain ⟨v55, n55, c55, H⟩ := jbd_some H
    refine jv_callVi (sp_MO_byteAt (n5 38 17) c55) (pc := 55) d_MO_comeIn_55 c0_MO_byteAt lk_MO_161 in_MO_byteAt se_MO_byteAt (by decide) rfl rfl rfl (Nat.le_of_ble_eq_true rfl) ⟨by decide, by decide, by decide, by decide⟩ (fun r55 m55 h55 => ?_)
    obtain ⟨ha55, hb55⟩ := h55
    have ha55 := ha55.symm
    subst ha55
    have hb55 := hb55.symm
    subst hb55
    refine jv_sipush (255) (pc := 58) d_MO_comeIn_58 rfl ?_
    refine jv_icmp_ne 104 (pc := 61) d_MO_comeIn_61 rfl (fun h61 => ?_) (fun h61 => ?_)
    · have h61 : ¬ (v55 = (255 : Int32)) := h61
      have H := (if_neg h61).symm.trans H
      refine jv_aload_n 0 (pc := 104) d_MO_comeIn_104 rfl ?_
      refine jv_dup (pc := 105) d_MO_comeIn_105 rfl ?_
      refine jv_geti (pc := 106) d_MO_comeIn_106 fa_MO_158_MO (by decide) rfl rfl ?_
      refine jv_iconst 1 (pc := 109) d_MO_comeIn_109 rfl ?_
      refine jv_iadd (pc := 110) d_MO_comeIn_110 ?_
      refine jv_puti (pc := 111) d_MO_comeIn_111 fa_MO_158_MO fp_MO_17 (by decide) rfl rfl rfl rfl ?_
      refine jv_aload_n 0 (pc := 114) d_MO_comeIn_114 rfl ?_
      refine jv_aload_n 0 (pc := 115) d_MO_comeIn_115 rfl ?_
      refine jv_geti (pc := 116) d_MO_comeIn_116 fa_MO_128_MO (by decide) rfl rfl ?_
      refine jv_sipush (256) (pc := 119) d_MO_comeIn_119 rfl ?_
      refine jv_aload_n 0 (pc := 122) d_MO_comeIn_122 rfl ?_
      refine jv_aload_n 0 (pc := 123) d_MO_comeIn_123 rfl ?_
      refine jv_geti (pc := 124) d_MO_comeIn_124 fa_MO_158_MO (by decide) rfl rfl ?_
      obtain ⟨v127, n127, c127, H⟩ := jbd_some H
      refine jv_callVi (sp_MO_byteAt ((n55 38 17) + (1 : Int32)) c127) (pc := 127) d_MO_comeIn_127 c0_MO_byteAt lk_MO_161 in_MO_byteAt se_MO_byteAt (by decide) rfl rfl rfl (Nat.le_of_ble_eq_true rfl) ⟨by decide, by decide, by decide, by decide⟩ (fun r127 m127 h127 => ?_)
      obtain ⟨ha127, hb127⟩ := h127
      have ha127 := ha127.symm
      subst ha127
      have hb127 := hb127.symm
      subst hb127
      refine jv_imul (pc := 130) d_MO_comeIn_130 ?_
      refine jv_iadd (pc := 131) d_MO_comeIn_131 ?_
      refine jv_puti (pc := 132) d_MO_comeIn_132 fa_MO_128_MO fp_MO_13 (by decide) rfl rfl rfl rfl ?_
      refine jv_aload_n 0 (pc := 135) d_MO_comeIn_135 rfl ?_
      refine jv_bipush (8) (pc := 136) d_MO_comeIn_136 rfl ?_
      refine jv_puti (pc := 138) d_MO_comeIn_138 fa_MO_138_MO fp_MO_14 (by decide) rfl rfl rfl rfl ?_
      refine jv_vret (pc := 141) d_MO_comeIn_141 rfl (Nat.zero_le _) (Nat.zero_le _) ?_
      cases H
      exact jU.of rfl
    · have h61 : v55 = (255 : Int32) := h61
      have H := (if_pos h61).symm.trans H
      refine jv_aload_n 0 (pc := 64) d_MO_comeIn_64 rfl ?_
      refine jv_dup (pc := 65) d_MO_comeIn_65 rfl ?_
      refine jv_geti (pc := 66) d_MO_comeIn_66 fa_MO_158_MO (by decide) rfl rfl ?_
      refine jv_iconst 1 (pc := 69) d_MO_comeIn_69 rfl ?_
      refine jv_iadd (pc := 70) d_MO_comeIn_70 ?_
      refine jv_puti (pc := 71) d_MO_comeIn_71 fa_MO_158_MO fp_MO_17 (by decide) rfl rfl rfl rfl ?_
      refine jv_aload_n 0 (pc := 74) d_MO_comeIn_74 rfl ?_
      refine jv_aload_n 0 (pc := 75) d_MO_comeIn_75 rfl ?_
      refine jv_geti (pc := 76) d_MO_comeIn_76 fa_MO_128_MO (by decide) rfl rfl ?_
      refine jv_sipush (512) (pc := 79) d_MO_comeIn_79 rfl ?_
      refine jv_aload_n 0 (pc := 82) d_MO_comeIn_82 rfl ?_
      refine jv_aload_n 0 (pc := 83) d_MO_comeIn_83 rfl ?_
      refine jv_geti (pc := 84) d_MO_comeIn_84 fa_MO_158_MO (by decide) rfl rfl ?_
      obtain ⟨v87, n87, c87, H⟩ := jbd_some H
      refine jv_callVi (sp_MO_byteAt ((n55 38 17) + (1 : Int32)) c87) (pc := 87) d_MO_comeIn_87 c0_MO_byteAt lk_MO_161 in_MO_byteAt se_MO_byteAt (by decide) rfl rfl rfl (Nat.le_of_ble_eq_true rfl) ⟨by decide, by decide, by decide, by decide⟩ (fun r87 m87 h87 => ?_)
      obtain ⟨ha87, hb87⟩ := h87
      have ha87 := ha87.symm
      subst ha87
      have hb87 := hb87.symm
      subst hb87
      refine jv_imul (pc := 90) d_MO_comeIn_90 ?_
      refine jv_iadd (pc := 91) d_MO_comeIn_91 ?_
      refine jv_puti (pc := 92) d_MO_comeIn_92 fa_MO_128_MO fp_MO_13 (by decide) rfl rfl rfl rfl ?_
      refine jv_aload_n 0 (pc := 95) d_MO_comeIn_95 rfl ?_
      refine jv_bipush (7) (pc := 96) d_MO_comeIn_96 rfl ?_
      refine jv_puti (pc := 98) d_MO_comeIn_98 fa_MO_138_MO fp_MO_14 (by decide) rfl rfl rfl rfl ?_
      refine jv_goto 141 (pc := 101) d_MO_comeIn_101 rfl ?_
      refine jv_vret (pc := 141) d_MO_comeIn_141 rfl (Nat.zero_le _) (Nat.zero_le _) ?_
      cases H
      exact jU.of rfl
  · have h11 : v5 = (255 : Int32) := h11
    have H := (if_pos h11).symm.trans H
    refine jv_aload_n 0 (pc := 14) d_MO_comeIn_14 rfl ?_
    refine jv_aload_n 0 (pc := 15) d_MO_comeIn_15 rfl ?_
    refine jv_geti (pc := 16) d_MO_comeIn_16 fa_MO_158_MO (by decide) rfl rfl ?_
    refine jv_iconst 1 (pc := 19) d_MO_comeIn_19 rfl ?_
    refine jv_iadd (pc := 20) d_MO_comeIn_20 ?_
    obtain ⟨v21, n21, c21, H⟩ := jbd_some H
    refine jv_callVi (sp_MO_byteAt ((n5 38 17) + (1 : Int32)) c21) (pc := 21) d_MO_comeIn_21 c0_MO_byteAt lk_MO_161 in_MO_byteAt se_MO_byteAt (by decide) rfl rfl rfl (Nat.le_of_ble_eq_true rfl) ⟨by decide, by decide, by decide, by decide⟩ (fun r21 m21 h21 => ?_)
    obtain ⟨ha21, hb21⟩ := h21
    have ha21 := ha21.symm
    subst ha21
    have hb21 := hb21.symm
    subst hb21
    refine jv_sipush (143) (pc := 24) d_MO_comeIn_24 rfl ?_
    refine jv_icmp_le 50 (pc := 27) d_MO_comeIn_27 rfl (fun h27 => ?_) (fun h27 => ?_)
    · have h27 : v21 ≤ (143 : Int32) := h27
      have H := (if_pos h27).symm.trans H
      refine jv_aload_n 0 (pc := 50) d_MO_comeIn_50 rfl ?_
      refine jv_aload_n 0 (pc := 51) d_MO_comeIn_51 rfl ?_
      refine jv_geti (pc := 52) d_MO_comeIn_52 fa_MO_158_MO (by decide) rfl rfl ?_
      obtain ⟨v55, n55, c55, H⟩ := jbd_some H
      refine jv_callVi (sp_MO_byteAt (n21 38 17) c55) (pc := 55) d_MO_comeIn_55 c0_MO_byteAt lk_MO_161 in_MO_byteAt se_MO_byteAt (by decide) rfl rfl rfl (Nat.le_of_ble_eq_true rfl) ⟨by decide, by decide, by decide, by decide⟩ (fun r55 m55 h55 => ?_)
      obtain ⟨ha55, hb55⟩ := h55
      have ha55 := ha55.symm
      subst ha55
      have hb55 := hb55.symm
      subst hb55
      refine jv_sipush (255) (pc := 58) d_MO_comeIn_58 rfl ?_
      refine jv_icmp_ne 104 (pc := 61) d_MO_comeIn_61 rfl (fun h61 => ?_) (fun h61 => ?_)
      · have h61 : ¬ (v55 = (255 : Int32)) := h61
        have H := (if_neg h61).symm.trans H
        refine jv_aload_n 0 (pc := 104) d_MO_comeIn_104 rfl ?_
        refine jv_dup (pc := 105) d_MO_comeIn_105 rfl ?_
        refine jv_geti (pc := 106) d_MO_comeIn_106 fa_MO_158_MO (by decide) rfl rfl ?_
        refine jv_iconst 1 (pc := 109) d_MO_comeIn_109 rfl ?_
        refine jv_iadd (pc := 110) d_MO_comeIn_110 ?_
        refine jv_puti (pc := 111) d_MO_comeIn_111 fa_MO_158_MO fp_MO_17 (by decide) rfl rfl rfl rfl ?_
        refine jv_aload_n 0 (pc := 114) d_MO_comeIn_114 rfl ?_
        refine jv_aload_n 0 (pc := 115) d_MO_comeIn_115 rfl ?_
        refine jv_geti (pc := 116) d_MO_comeIn_116 fa_MO_128_MO (by decide) rfl rfl ?_
        refine jv_sipush (256) (pc := 119) d_MO_comeIn_119 rfl ?_
        refine jv_aload_n 0 (pc := 122) d_MO_comeIn_122 rfl ?_
        refine jv_aload_n 0 (pc := 123) d_MO_comeIn_123 rfl ?_
        refine jv_geti (pc := 124) d_MO_comeIn_124 fa_MO_158_MO (by decide) rfl rfl ?_
        obtain ⟨v127, n127, c127, H⟩ := jbd_some H
        refine jv_callVi (sp_MO_byteAt ((n55 38 17) + (1 : Int32)) c127) (pc := 127) d_MO_comeIn_127 c0_MO_byteAt lk_MO_161 in_MO_byteAt se_MO_byteAt (by decide) rfl rfl rfl (Nat.le_of_ble_eq_true rfl) ⟨by decide, by decide, by decide, by decide⟩ (fun r127 m127 h127 => ?_)
        obtain ⟨ha127, hb127⟩ := h127
        have ha127 := ha127.symm
        subst ha127
        have hb127 := hb127.symm
        subst hb127
        refine jv_imul (pc := 130) d_MO_comeIn_130 ?_
        refine jv_iadd (pc := 131) d_MO_comeIn_131 ?_
        refine jv_puti (pc := 132) d_MO_comeIn_132 fa_MO_128_MO fp_MO_13 (by decide) rfl rfl rfl rfl ?_
        refine jv_aload_n 0 (pc := 135) d_MO_comeIn_135 rfl ?_
        refine jv_bipush (8) (pc := 136) d_MO_comeIn_136 rfl ?_
        refine jv_puti (pc := 138) d_MO_comeIn_138 fa_MO_138_MO fp_MO_14 (by decide) rfl rfl rfl rfl ?_
        refine jv_vret (pc := 141) d_MO_comeIn_141 rfl (Nat.zero_le _) (Nat.zero_le _) ?_
        cases H
        exact jU.of rfl
      · have h61 : v55 = (255 : Int32) := h61
        have H := (if_pos h61).symm.trans H
        refine jv_aload_n 0 (pc := 64) d_MO_comeIn_64 rfl ?_
        refine jv_dup (pc := 65) d_MO_comeIn_65 rfl ?_
        refine jv_geti (pc := 66) d_MO_comeIn_66 fa_MO_158_MO (by decide) rfl rfl ?_
        refine jv_iconst 1 (pc := 69) d_MO_comeIn_69 rfl ?_
        refine jv_iadd (pc := 70) d_MO_comeIn_70 ?_
        refine jv_puti (pc := 71) d_MO_comeIn_71 fa_MO_158_MO fp_MO_17 (by decide) rfl rfl rfl rfl ?_
        refine jv_aload_n 0 (pc := 74) d_MO_comeIn_74 rfl ?_
        refine jv_aload_n 0 (pc := 75) d_MO_comeIn_75 rfl ?_
        refine jv_geti (pc := 76) d_MO_comeIn_76 fa_MO_128_MO (by decide) rfl rfl ?_
        refine jv_sipush (512) (pc := 79) d_MO_comeIn_79 rfl ?_
        refine jv_aload_n 0 (pc := 82) d_MO_comeIn_82 rfl ?_
        refine jv_aload_n 0 (pc := 83) d_MO_comeIn_83 rfl ?_
        refine jv_geti (pc := 84) d_MO_comeIn_84 fa_MO_158_MO (by decide) rfl rfl ?_
        obtain ⟨v87, n87, c87, H⟩ := jbd_some H
        refine jv_callVi (sp_MO_byteAt ((n55 38 17) + (1 : Int32)) c87) (pc := 87) d_MO_comeIn_87 c0_MO_byteAt lk_MO_161 in_MO_byteAt se_MO_byteAt (by decide) rfl rfl rfl (Nat.le_of_ble_eq_true rfl) ⟨by decide, by decide, by decide, by decide⟩ (fun r87 m87 h87 => ?_)
        obtain ⟨ha87, hb87⟩ := h87
        have ha87 := ha87.symm
        subst ha87
        have hb87 := hb87.symm
        subst hb87
        refine jv_imul (pc := 90) d_MO_comeIn_90 ?_
        refine jv_iadd (pc := 91) d_MO_comeIn_91 ?_
        refine jv_puti (pc := 92) d_MO_comeIn_92 fa_MO_128_MO fp_MO_13 (by decide) rfl rfl rfl rfl ?_
        refine jv_aload_n 0 (pc := 95) d_MO_comeIn_95 rfl ?_
        refine jv_bipush (7) (pc := 96) d_MO_comeIn_96 rfl ?_
        refine jv_puti (pc := 98) d_MO_comeIn_98 fa_MO_138_MO fp_MO_14 (by decide) rfl rfl rfl rfl ?_
        refine jv_goto 141 (pc := 101) d_MO_comeIn_101 rfl ?_
        refine jv_vret (pc := 141) d_MO_comeIn_141 rfl (Nat.zero_le _) (Nat.zero_le _) ?_
        cases H
        exact jU.of rfl
    · have h27 : ¬ (v21 ≤ (143 : Int32)) := h27
      have H := (if_neg h27).symm.trans H
      refine jv_aload_n 0 (pc := 30) d_MO_comeIn_30 rfl ?_
      refine jv_aload_n 0 (pc := 31) d_MO_comeIn_31 rfl ?_
      refine jv_geti (pc := 32) d_MO_comeIn_32 fa_MO_128_MO (by decide) rfl rfl ?_
      refine jv_ldc (65280) (pc := 35) d_MO_comeIn_35 (jin4 153 rfl rfl) ?_
      refine jv_iadd (pc := 37) d_MO_comeIn_37 ?_
      refine jv_puti (pc := 38) d_MO_comeIn_38 fa_MO_128_MO fp_MO_13 (by decide) rfl rfl rfl rfl ?_
      refine jv_aload_n 0 (pc := 41) d_MO_comeIn_41 rfl ?_
      refine jv_bipush (8) (pc := 42) d_MO_comeIn_42 rfl ?_
      refine jv_puti (pc := 44) d_MO_comeIn_44 fa_MO_138_MO fp_MO_14 (by decide) rfl rfl rfl rfl ?_
      refine jv_goto 141 (pc := 47) d_MO_comeIn_47 rfl ?_
      refine jv_vret (pc := 141) d_MO_comeIn_141 rfl (Nat.zero_le _) (Nat.zero_le _) ?_
      cases H
      exact jU.of rfl
set_option maxRecDepth 40000 in
set_option maxHeartbeats 8000000 in
theorem lp_MO_write_122 {G : jG} : ∀ (n : Nat) (x1 x2 x3 x4 : Int32) (σ τ : jMem) (r : Unit), f_MO_write_L122 n x1 x2 x3 x4 σ = some (r, τ) → jV G M_MO_write (jr 3 0 0) (jU fun τ9 => τ9 = τ) 0 0 122 [(0, .ref 38), (1, .int x1), (2, .int x2), (3, .int x3), (4, .int x4)] [] σ := by
  intro n
  induction n with
  | zero =>
    intro x1 x2 x3 x4 σ τ r H
    cases H
  | succ n ih =>
    intro x1 x2 x3 x4 σ τ r H
    rw [f_MO_write_L122.eq_2] at H
    refine jv_iload 4 (pc := 122) d_MO_write_122 rfl ?_
    refine jv_if_eq 187 (pc := 124) d_MO_write_124 rfl (fun h124 => ?_) (fun h124 => ?_)
    · have h124 : x4 = 0 := h124
      have H := (if_pos h124).symm.trans H
      refine jv_vret (pc := 187) d_MO_write_187 rfl (Nat.zero_le _) (Nat.zero_le _) ?_
      cases H
      exact jU.of rfl
    · have h124 : ¬ (x4 = 0) := h124
      have H := (if_neg h124).symm.trans H
      refine jv_aload_n 0 (pc := 127) d_MO_write_127 rfl ?_
      refine jv_aload_n 0 (pc := 128) d_MO_write_128 rfl ?_
      refine jv_geti (pc := 129) d_MO_write_129 fa_MO_145_MO (by decide) rfl rfl ?_
      refine jv_iconst 1 (pc := 132) d_MO_write_132 rfl ?_
      refine jv_ishl (pc := 133) d_MO_write_133 ?_
      refine jv_puti (pc := 134) d_MO_write_134 fa_MO_145_MO fp_MO_12 (by decide) rfl rfl rfl rfl ?_
      refine jv_aload_n 0 (pc := 137) d_MO_write_137 rfl ?_
      refine jv_aload_n 0 (pc := 138) d_MO_write_138 rfl ?_
      refine jv_geti (pc := 139) d_MO_write_139 fa_MO_128_MO (by decide) rfl rfl ?_
      refine jv_iconst 1 (pc := 142) d_MO_write_142 rfl ?_
      refine jv_ishl (pc := 143) d_MO_write_143 ?_
      refine jv_puti (pc := 144) d_MO_write_144 fa_MO_128_MO fp_MO_13 (by decide) rfl rfl rfl rfl ?_
      refine jv_aload_n 0 (pc := 147) d_MO_write_147 rfl ?_
      refine jv_dup (pc := 148) d_MO_write_148 rfl ?_
      refine jv_geti (pc := 149) d_MO_write_149 fa_MO_138_MO (by decide) rfl rfl ?_
      refine jv_iconst 1 (pc := 152) d_MO_write_152 rfl ?_
      refine jv_isub (pc := 153) d_MO_write_153 ?_
      refine jv_puti (pc := 154) d_MO_write_154 fa_MO_138_MO fp_MO_14 (by decide) rfl rfl rfl rfl ?_
      refine jv_aload_n 0 (pc := 157) d_MO_write_157 rfl ?_
      refine jv_geti (pc := 158) d_MO_write_158 fa_MO_138_MO (by decide) rfl rfl ?_
      refine jv_if_ne 168 (pc := 161) d_MO_write_161 rfl (fun h161 => ?_) (fun h161 => ?_)
      · have h161 : ¬ (((σ 38 14) - (1 : Int32)) = 0) := h161
        have H := (if_neg h161).symm.trans H
        refine jv_aload_n 0 (pc := 168) d_MO_write_168 rfl ?_
        refine jv_geti (pc := 169) d_MO_write_169 fa_MO_145_MO (by decide) rfl rfl ?_
        refine jv_ldc (32768) (pc := 172) d_MO_write_172 (jin4 143 rfl rfl) ?_
        refine jv_icmp_ge 181 (pc := 174) d_MO_write_174 rfl (fun h174 => ?_) (fun h174 => ?_)
        · have h174 : (32768 : Int32) ≤ ((σ 38 12) <<< ((1 : Int32) &&& 31)) := h174
          have H := (if_pos h174).symm.trans H
          refine jv_iconst 0 (pc := 181) d_MO_write_181 rfl ?_
          refine jv_istore (pc := 182) d_MO_write_182 (by decide) (jst4 rfl) ?_
          refine jv_goto 122 (pc := 184) d_MO_write_184 rfl ?_
          exact jv_sub [0, 1, 2, 3, 4] rfl (ih x1 x2 x3 (0 : Int32) _ _ _ H)
        · have h174 : ¬ ((32768 : Int32) ≤ ((σ 38 12) <<< ((1 : Int32) &&& 31))) := h174
          have H := (if_neg h174).symm.trans H
          refine jv_iconst 1 (pc := 177) d_MO_write_177 rfl ?_
          refine jv_goto 182 (pc := 178) d_MO_write_178 rfl ?_
          refine jv_istore (pc := 182) d_MO_write_182 (by decide) (jst4 rfl) ?_
          refine jv_goto 122 (pc := 184) d_MO_write_184 rfl ?_
          exact jv_sub [0, 1, 2, 3, 4] rfl (ih x1 x2 x3 (1 : Int32) _ _ _ H)
      · have h161 : ((σ 38 14) - (1 : Int32)) = 0 := h161
        have H := (if_pos h161).symm.trans H
        refine jv_aload_n 0 (pc := 164) d_MO_write_164 rfl ?_
        obtain ⟨_, n165, c165, H⟩ := jbd_some H
        refine jv_callVv (sp_MO_goOut c165) (pc := 165) d_MO_write_165 c0_MO_goOut lk_MO_155 in_MO_goOut se_MO_goOut (by decide) rfl rfl rfl (Nat.le_of_ble_eq_true rfl) ⟨by decide, by decide, by decide, by decide⟩ (fun m165 h165 => ?_)
        have hb165 := h165
        have hb165 := hb165.symm
        subst hb165
        refine jv_aload_n 0 (pc := 168) d_MO_write_168 rfl ?_
        refine jv_geti (pc := 169) d_MO_write_169 fa_MO_145_MO (by decide) rfl rfl ?_
        refine jv_ldc (32768) (pc := 172) d_MO_write_172 (jin4 143 rfl rfl) ?_
        refine jv_icmp_ge 181 (pc := 174) d_MO_write_174 rfl (fun h174 => ?_) (fun h174 => ?_)
        · have h174 : (32768 : Int32) ≤ (n165 38 12) := h174
          have H := (if_pos h174).symm.trans H
          refine jv_iconst 0 (pc := 181) d_MO_write_181 rfl ?_
          refine jv_istore (pc := 182) d_MO_write_182 (by decide) (jst4 rfl) ?_
          refine jv_goto 122 (pc := 184) d_MO_write_184 rfl ?_
          exact jv_sub [0, 1, 2, 3, 4] rfl (ih x1 x2 x3 (0 : Int32) _ _ _ H)
        · have h174 : ¬ ((32768 : Int32) ≤ (n165 38 12)) := h174
          have H := (if_neg h174).symm.trans H
          refine jv_iconst 1 (pc := 177) d_MO_write_177 rfl ?_
          refine jv_goto 182 (pc := 178) d_MO_write_178 rfl ?_
          refine jv_istore (pc := 182) d_MO_write_182 (by decide) (jst4 rfl) ?_
          refine jv_goto 122 (pc := 184) d_MO_write_184 rfl ?_
          exact jv_sub [0, 1, 2, 3, 4] rfl (ih x1 x2 x3 (1 : Int32) _ _ _ H)
set_option maxRecDepth 40000 in
set_option maxHeartbeats 8000000 in
theorem sp_MO_write {G : jG} {σ τ : jMem} {r : Unit} (x1 x2 : Int32) (H : f_MO_write x1 x2 σ = some (r, τ)) : jSp G M_MO_write (jr 3 0 0) [.ref 38, .int x1, .int x2] σ (jU fun τ9 => τ9 = τ) := by
  refine jSp.of rfl rfl (Nat.le_of_ble_eq_true rfl) ?_
  show jV _ _ _ _ 0 0 0 [(0, .ref 38), (1, .int x1), (2, .int x2)] [] σ
  unfold f_MO_write at H
  refine jv_aload_n 0 (pc := 0) d_MO_write_0 rfl ?_
  refine jv_getr (pc := 1) d_MO_write_1 fa_MO_31_MO (by decide) rfl rfl ?_
  refine jv_iload_n 1 (pc := 4) d_MO_write_4 rfl ?_
  obtain ⟨b5, H⟩ := jck_some H
  refine jv_iald (pc := 5) d_MO_write_5 (by decide) rfl b5 ?_
  refine jv_iconst 2 (pc := 6) d_MO_write_6 rfl ?_
  refine jv_idiv (pc := 7) d_MO_write_7 (by decide) ?_
  refine jv_callSi (sp_MO_sizeOf ((σ 46 x1.toNatClampNeg) / (2 : Int32))) (pc := 8) d_MO_write_8 c0_MO_sizeOf lk_MO_142 si_MO_sizeOf rfl (Nat.le_of_ble_eq_true rfl) ⟨by decide, by decide, by decide, by decide⟩ (fun r8 m8 h8 => ?_)
  obtain ⟨ha8, hb8⟩ := h8
  subst ha8
  have hb8 := hb8.symm
  subst hb8
  refine jv_istore_n (pc := 11) d_MO_write_11 rfl (by decide) (jsto_new rfl) ?_
  refine jv_aload_n 1 (pc := 12) d_MO_write_12 rfl ?_
  refine jv_aload_n 1 (pc := 13) d_MO_write_13 rfl ?_
  refine jv_geti (pc := 14) d_MO_write_14 fa_MO_145_MO (by decide) rfl rfl ?_
  refine jv_iload_n 0 (pc := 17) d_MO_write_17 rfl ?_
  refine jv_isub (pc := 18) d_MO_write_18 ?_
  refine jv_puti (pc := 19) d_MO_write_19 fa_MO_145_MO fp_MO_12 (by decide) rfl rfl rfl rfl ?_
  refine jv_iload_n 3 (pc := 22) d_MO_write_22 rfl ?_
  refine jv_aload_n 1 (pc := 23) d_MO_write_23 rfl ?_
  refine jv_getr (pc := 24) d_MO_write_24 fa_MO_31_MO (by decide) rfl rfl ?_
  refine jv_iload_n 2 (pc := 27) d_MO_write_27 rfl ?_
  obtain ⟨b28, H⟩ := jck_some H
  refine jv_iald (pc := 28) d_MO_write_28 (by decide) rfl b28 ?_
  refine jv_iconst 2 (pc := 29) d_MO_write_29 rfl ?_
  refine jv_irem (pc := 30) d_MO_write_30 (by decide) ?_
  refine jv_icmp_ne 88 (pc := 31) d_MO_write_31 rfl (fun h31 => ?_) (fun h31 => ?_)
  · have h31 : ¬ (x2 = ((σ 46 x1.toNatClampNeg) - (σ 46 x1.toNatClampNeg) / (2 : Int32) * (2 : Int32))) := h31
    have H := (if_neg h31).symm.trans H
    refine jv_aload_n 1 (pc := 88) d_MO_write_88 rfl ?_
    refine jv_geti (pc := 89) d_MO_write_89 fa_MO_145_MO (by decide) rfl rfl ?_
    refine jv_iload_n 0 (pc := 92) d_MO_write_92 rfl ?_
    refine jv_icmp_ge 109 (pc := 93) d_MO_write_93 rfl (fun h93 => ?_) (fun h93 => ?_)
    · have h93 : (f_MO_sizeOf ((σ 46 x1.toNatClampNeg) / (2 : Int32)) σ) ≤ ((σ 38 12) - (f_MO_sizeOf ((σ 46 x1.toNatClampNeg) / (2 : Int32)) σ)) := h93
      have H := (if_pos h93).symm.trans H
      refine jv_aload_n 1 (pc := 109) d_MO_write_109 rfl ?_
      refine jv_iload_n 0 (pc := 110) d_MO_write_110 rfl ?_
      refine jv_puti (pc := 111) d_MO_write_111 fa_MO_145_MO fp_MO_12 (by decide) rfl rfl rfl rfl ?_
      refine jv_aload_n 1 (pc := 114) d_MO_write_114 rfl ?_
      refine jv_iload_n 2 (pc := 115) d_MO_write_115 rfl ?_
      obtain ⟨_, n116, c116, H⟩ := jbd_some H
      refine jv_callVv (sp_MO_wrong x1 c116) (pc := 116) d_MO_write_116 c0_MO_wrong lk_MO_152 in_MO_wrong se_MO_wrong (by decide) rfl rfl rfl (Nat.le_of_ble_eq_true rfl) ⟨by decide, by decide, by decide, by decide⟩ (fun m116 h116 => ?_)
      have hb116 := h116
      have hb116 := hb116.symm
      subst hb116
      refine jv_iconst 1 (pc := 119) d_MO_write_119 rfl ?_
      refine jv_istore (pc := 120) d_MO_write_120 (by decide) (jsto_new rfl) ?_
      exact jv_sub [2, 3, 4, 1, 0] rfl (lp_MO_write_122  _ x1 x2 (f_MO_sizeOf ((σ 46 x1.toNatClampNeg) / (2 : Int32)) σ) (1 : Int32) _ _ _ H)
    · have h93 : ¬ ((f_MO_sizeOf ((σ 46 x1.toNatClampNeg) / (2 : Int32)) σ) ≤ ((σ 38 12) - (f_MO_sizeOf ((σ 46 x1.toNatClampNeg) / (2 : Int32)) σ))) := h93
      have H := (if_neg h93).symm.trans H
      refine jv_aload_n 1 (pc := 96) d_MO_write_96 rfl ?_
      refine jv_aload_n 1 (pc := 97) d_MO_write_97 rfl ?_
      refine jv_geti (pc := 98) d_MO_write_98 fa_MO_128_MO (by decide) rfl rfl ?_
      refine jv_iload_n 0 (pc := 101) d_MO_write_101 rfl ?_
      refine jv_iadd (pc := 102) d_MO_write_102 ?_
      refine jv_puti (pc := 103) d_MO_write_103 fa_MO_128_MO fp_MO_13 (by decide) rfl rfl rfl rfl ?_
      refine jv_goto 114 (pc := 106) d_MO_write_106 rfl ?_
      refine jv_aload_n 1 (pc := 114) d_MO_write_114 rfl ?_
      refine jv_iload_n 2 (pc := 115) d_MO_write_115 rfl ?_
      obtain ⟨_, n116, c116, H⟩ := jbd_some H
      refine jv_callVv (sp_MO_wrong x1 c116) (pc := 116) d_MO_write_116 c0_MO_wrong lk_MO_152 in_MO_wrong se_MO_wrong (by decide) rfl rfl rfl (Nat.le_of_ble_eq_true rfl) ⟨by decide, by decide, by decide, by decide⟩ (fun m116 h116 => ?_)
      have hb116 := h116
      have hb116 := hb116.symm
      subst hb116
      refine jv_iconst 1 (pc := 119) d_MO_write_119 rfl ?_
      refine jv_istore (pc := 120) d_MO_write_120 (by decide) (jsto_new rfl) ?_
      exact jv_sub [2, 3, 4, 1, 0] rfl (lp_MO_write_122  _ x1 x2 (f_MO_sizeOf ((σ 46 x1.toNatClampNeg) / (2 : Int32)) σ) (1 : Int32) _ _ _ H)
  · have h31 : x2 = ((σ 46 x1.toNatClampNeg) - (σ 46 x1.toNatClampNeg) / (2 : Int32) * (2 : Int32)) := h31
    have H := (if_pos h31).symm.trans H
    refine jv_aload_n 1 (pc := 34) d_MO_write_34 rfl ?_
    refine jv_geti (pc := 35) d_MO_write_35 fa_MO_145_MO (by decide) rfl rfl ?_
    refine jv_ldc (32768) (pc := 38) d_MO_write_38 (jin4 143 rfl rfl) ?_
    refine jv_icmp_lt 54 (pc := 40) d_MO_write_40 rfl (fun h40 => ?_) (fun h40 => ?_)
    · have h40 : ((σ 38 12) - (f_MO_sizeOf ((σ 46 x1.toNatClampNeg) / (2 : Int32)) σ)) < (32768 : Int32) := h40
      have H := (if_pos h40).symm.trans H
      refine jv_aload_n 1 (pc := 54) d_MO_write_54 rfl ?_
      refine jv_geti (pc := 55) d_MO_write_55 fa_MO_145_MO (by decide) rfl rfl ?_
      refine jv_iload_n 0 (pc := 58) d_MO_write_58 rfl ?_
      refine jv_icmp_ge 70 (pc := 59) d_MO_write_59 rfl (fun h59 => ?_) (fun h59 => ?_)
      · have h59 : (f_MO_sizeOf ((σ 46 x1.toNatClampNeg) / (2 : Int32)) σ) ≤ ((σ 38 12) - (f_MO_sizeOf ((σ 46 x1.toNatClampNeg) / (2 : Int32)) σ)) := h59
        have H := (if_pos h59).symm.trans H
        refine jv_aload_n 1 (pc := 70) d_MO_write_70 rfl ?_
        refine jv_aload_n 1 (pc := 71) d_MO_write_71 rfl ?_
        refine jv_geti (pc := 72) d_MO_write_72 fa_MO_128_MO (by decide) rfl rfl ?_
        refine jv_iload_n 0 (pc := 75) d_MO_write_75 rfl ?_
        refine jv_iadd (pc := 76) d_MO_write_76 ?_
        refine jv_puti (pc := 77) d_MO_write_77 fa_MO_128_MO fp_MO_13 (by decide) rfl rfl rfl rfl ?_
        refine jv_aload_n 1 (pc := 80) d_MO_write_80 rfl ?_
        refine jv_iload_n 2 (pc := 81) d_MO_write_81 rfl ?_
        obtain ⟨_, n82, c82, H⟩ := jbd_some H
        refine jv_callVv (sp_MO_usual x1 c82) (pc := 82) d_MO_write_82 c0_MO_usual lk_MO_149 in_MO_usual se_MO_usual (by decide) rfl rfl rfl (Nat.le_of_ble_eq_true rfl) ⟨by decide, by decide, by decide, by decide⟩ (fun m82 h82 => ?_)
        have hb82 := h82
        have hb82 := hb82.symm
        subst hb82
        refine jv_goto 119 (pc := 85) d_MO_write_85 rfl ?_
        refine jv_iconst 1 (pc := 119) d_MO_write_119 rfl ?_
        refine jv_istore (pc := 120) d_MO_write_120 (by decide) (jsto_new rfl) ?_
        exact jv_sub [2, 3, 4, 1, 0] rfl (lp_MO_write_122  _ x1 x2 (f_MO_sizeOf ((σ 46 x1.toNatClampNeg) / (2 : Int32)) σ) (1 : Int32) _ _ _ H)
      · have h59 : ¬ ((f_MO_sizeOf ((σ 46 x1.toNatClampNeg) / (2 : Int32)) σ) ≤ ((σ 38 12) - (f_MO_sizeOf ((σ 46 x1.toNatClampNeg) / (2 : Int32)) σ))) := h59
        have H := (if_neg h59).symm.trans H
        refine jv_aload_n 1 (pc := 62) d_MO_write_62 rfl ?_
        refine jv_iload_n 0 (pc := 63) d_MO_write_63 rfl ?_
        refine jv_puti (pc := 64) d_MO_write_64 fa_MO_145_MO fp_MO_12 (by decide) rfl rfl rfl rfl ?_
        refine jv_goto 80 (pc := 67) d_MO_write_67 rfl ?_
        refine jv_aload_n 1 (pc := 80) d_MO_write_80 rfl ?_
        refine jv_iload_n 2 (pc := 81) d_MO_write_81 rfl ?_
        obtain ⟨_, n82, c82, H⟩ := jbd_some H
        refine jv_callVv (sp_MO_usual x1 c82) (pc := 82) d_MO_write_82 c0_MO_usual lk_MO_149 in_MO_usual se_MO_usual (by decide) rfl rfl rfl (Nat.le_of_ble_eq_true rfl) ⟨by decide, by decide, by decide, by decide⟩ (fun m82 h82 => ?_)
        have hb82 := h82
        have hb82 := hb82.symm
        subst hb82
        refine jv_goto 119 (pc := 85) d_MO_write_85 rfl ?_
        refine jv_iconst 1 (pc := 119) d_MO_write_119 rfl ?_
        refine jv_istore (pc := 120) d_MO_write_120 (by decide) (jsto_new rfl) ?_
        exact jv_sub [2, 3, 4, 1, 0] rfl (lp_MO_write_122  _ x1 x2 (f_MO_sizeOf ((σ 46 x1.toNatClampNeg) / (2 : Int32)) σ) (1 : Int32) _ _ _ H)
    · have h40 : ¬ (((σ 38 12) - (f_MO_sizeOf ((σ 46 x1.toNatClampNeg) / (2 : Int32)) σ)) < (32768 : Int32)) := h40
      have H := (if_neg h40).symm.trans H
      refine jv_aload_n 1 (pc := 43) d_MO_write_43 rfl ?_
      refine jv_aload_n 1 (pc := 44) d_MO_write_44 rfl ?_
      refine jv_geti (pc := 45) d_MO_write_45 fa_MO_128_MO (by decide) rfl rfl ?_
      refine jv_iload_n 0 (pc := 48) d_MO_write_48 rfl ?_
      refine jv_iadd (pc := 49) d_MO_write_49 ?_
      refine jv_puti (pc := 50) d_MO_write_50 fa_MO_128_MO fp_MO_13 (by decide) rfl rfl rfl rfl ?_
      refine jv_vret (pc := 53) d_MO_write_53 rfl (Nat.zero_le _) (Nat.zero_le _) ?_
      cases H
      exact jU.of rfl
set_option maxRecDepth 40000 in
set_option maxHeartbeats 8000000 in
theorem lp_MO_read_164 {G : jG} : ∀ (n : Nat) (x1 x2 x3 x4 x5 x6 : Int32) (σ τ : jMem) (r : Int32), f_MO_read_L164 n x1 x2 x3 x4 x5 x6 σ = some (r, τ) → jV G M_MO_read (jr 3 0 0) (jI fun r9 τ9 => r9 = r ∧ τ9 = τ) 0 0 164 [(0, .ref 38), (1, .int x1), (2, .int x2), (3, .int x3), (4, .int x4), (5, .int x5), (6, .int x6)] [] σ := by
  intro n
  induction n with
  | zero =>
    intro x1 x2 x3 x4 x5 x6 σ τ r H
    cases H
  | succ n ih =>
    intro x1 x2 x3 x4 x5 x6 σ τ r H
    rw [f_MO_read_L164.eq_2] at H
    refine jv_iload 6 (pc := 164) d_MO_read_164 rfl ?_
    refine jv_if_eq 229 (pc := 166) d_MO_read_166 rfl (fun h166 => ?_) (fun h166 => ?_)
    · have h166 : x6 = 0 := h166
      have H := (if_pos h166).symm.trans H
      refine jv_iload 4 (pc := 229) d_MO_read_229 rfl ?_
      refine jv_iret (pc := 231) d_MO_read_231 rfl rfl (Nat.zero_le _) (Nat.zero_le _) ?_
      cases H
      exact jI.of ⟨rfl, rfl⟩
    · have h166 : ¬ (x6 = 0) := h166
      have H := (if_neg h166).symm.trans H
      refine jv_aload_n 0 (pc := 169) d_MO_read_169 rfl ?_
      refine jv_geti (pc := 170) d_MO_read_170 fa_MO_138_MO (by decide) rfl rfl ?_
      refine jv_if_ne 180 (pc := 173) d_MO_read_173 rfl (fun h173 => ?_) (fun h173 => ?_)
      · have h173 : ¬ ((σ 38 14) = 0) := h173
        have H := (if_neg h173).symm.trans H
        refine jv_aload_n 0 (pc := 180) d_MO_read_180 rfl ?_
        refine jv_aload_n 0 (pc := 181) d_MO_read_181 rfl ?_
        refine jv_geti (pc := 182) d_MO_read_182 fa_MO_145_MO (by decide) rfl rfl ?_
        refine jv_iconst 1 (pc := 185) d_MO_read_185 rfl ?_
        refine jv_ishl (pc := 186) d_MO_read_186 ?_
        refine jv_puti (pc := 187) d_MO_read_187 fa_MO_145_MO fp_MO_12 (by decide) rfl rfl rfl rfl ?_
        refine jv_aload_n 0 (pc := 190) d_MO_read_190 rfl ?_
        refine jv_aload_n 0 (pc := 191) d_MO_read_191 rfl ?_
        refine jv_geti (pc := 192) d_MO_read_192 fa_MO_128_MO (by decide) rfl rfl ?_
        refine jv_iconst 1 (pc := 195) d_MO_read_195 rfl ?_
        refine jv_ishl (pc := 196) d_MO_read_196 ?_
        refine jv_puti (pc := 197) d_MO_read_197 fa_MO_128_MO fp_MO_13 (by decide) rfl rfl rfl rfl ?_
        refine jv_aload_n 0 (pc := 200) d_MO_read_200 rfl ?_
        refine jv_dup (pc := 201) d_MO_read_201 rfl ?_
        refine jv_geti (pc := 202) d_MO_read_202 fa_MO_138_MO (by decide) rfl rfl ?_
        refine jv_iconst 1 (pc := 205) d_MO_read_205 rfl ?_
        refine jv_isub (pc := 206) d_MO_read_206 ?_
        refine jv_puti (pc := 207) d_MO_read_207 fa_MO_138_MO fp_MO_14 (by decide) rfl rfl rfl rfl ?_
        refine jv_aload_n 0 (pc := 210) d_MO_read_210 rfl ?_
        refine jv_geti (pc := 211) d_MO_read_211 fa_MO_145_MO (by decide) rfl rfl ?_
        refine jv_ldc (32768) (pc := 214) d_MO_read_214 (jin4 143 rfl rfl) ?_
        refine jv_icmp_ge 223 (pc := 216) d_MO_read_216 rfl (fun h216 => ?_) (fun h216 => ?_)
        · have h216 : (32768 : Int32) ≤ ((σ 38 12) <<< ((1 : Int32) &&& 31)) := h216
          have H := (if_pos h216).symm.trans H
          refine jv_iconst 0 (pc := 223) d_MO_read_223 rfl ?_
          refine jv_istore (pc := 224) d_MO_read_224 (by decide) (jst6 rfl) ?_
          refine jv_goto 164 (pc := 226) d_MO_read_226 rfl ?_
          exact jv_sub [0, 1, 2, 3, 4, 5, 6] rfl (ih x1 x2 x3 x4 x5 (0 : Int32) _ _ _ H)
        · have h216 : ¬ ((32768 : Int32) ≤ ((σ 38 12) <<< ((1 : Int32) &&& 31))) := h216
          have H := (if_neg h216).symm.trans H
          refine jv_iconst 1 (pc := 219) d_MO_read_219 rfl ?_
          refine jv_goto 224 (pc := 220) d_MO_read_220 rfl ?_
          refine jv_istore (pc := 224) d_MO_read_224 (by decide) (jst6 rfl) ?_
          refine jv_goto 164 (pc := 226) d_MO_read_226 rfl ?_
          exact jv_sub [0, 1, 2, 3, 4, 5, 6] rfl (ih x1 x2 x3 x4 x5 (1 : Int32) _ _ _ H)
      · have h173 : (σ 38 14) = 0 := h173
        have H := (if_pos h173).symm.trans H
        refine jv_aload_n 0 (pc := 176) d_MO_read_176 rfl ?_
        obtain ⟨_, n177, c177, H⟩ := jbd_some H
        refine jv_callVv (sp_MO_comeIn c177) (pc := 177) d_MO_read_177 c0_MO_comeIn lk_MO_166 in_MO_comeIn se_MO_comeIn (by decide) rfl rfl rfl (Nat.le_of_ble_eq_true rfl) ⟨by decide, by decide, by decide, by decide⟩ (fun m177 h177 => ?_)
        have hb177 := h177
        have hb177 := hb177.symm
        subst hb177
        refine jv_aload_n 0 (pc := 180) d_MO_read_180 rfl ?_
        refine jv_aload_n 0 (pc := 181) d_MO_read_181 rfl ?_
        refine jv_geti (pc := 182) d_MO_read_182 fa_MO_145_MO (by decide) rfl rfl ?_
        refine jv_iconst 1 (pc := 185) d_MO_read_185 rfl ?_
        refine jv_ishl (pc := 186) d_MO_read_186 ?_
        refine jv_puti (pc := 187) d_MO_read_187 fa_MO_145_MO fp_MO_12 (by decide) rfl rfl rfl rfl ?_
        refine jv_aload_n 0 (pc := 190) d_MO_read_190 rfl ?_
        refine jv_aload_n 0 (pc := 191) d_MO_read_191 rfl ?_
        refine jv_geti (pc := 192) d_MO_read_192 fa_MO_128_MO (by decide) rfl rfl ?_
        refine jv_iconst 1 (pc := 195) d_MO_read_195 rfl ?_
        refine jv_ishl (pc := 196) d_MO_read_196 ?_
        refine jv_puti (pc := 197) d_MO_read_197 fa_MO_128_MO fp_MO_13 (by decide) rfl rfl rfl rfl ?_
        refine jv_aload_n 0 (pc := 200) d_MO_read_200 rfl ?_
        refine jv_dup (pc := 201) d_MO_read_201 rfl ?_
        refine jv_geti (pc := 202) d_MO_read_202 fa_MO_138_MO (by decide) rfl rfl ?_
        refine jv_iconst 1 (pc := 205) d_MO_read_205 rfl ?_
        refine jv_isub (pc := 206) d_MO_read_206 ?_
        refine jv_puti (pc := 207) d_MO_read_207 fa_MO_138_MO fp_MO_14 (by decide) rfl rfl rfl rfl ?_
        refine jv_aload_n 0 (pc := 210) d_MO_read_210 rfl ?_
        refine jv_geti (pc := 211) d_MO_read_211 fa_MO_145_MO (by decide) rfl rfl ?_
        refine jv_ldc (32768) (pc := 214) d_MO_read_214 (jin4 143 rfl rfl) ?_
        refine jv_icmp_ge 223 (pc := 216) d_MO_read_216 rfl (fun h216 => ?_) (fun h216 => ?_)
        · have h216 : (32768 : Int32) ≤ ((n177 38 12) <<< ((1 : Int32) &&& 31)) := h216
          have H := (if_pos h216).symm.trans H
          refine jv_iconst 0 (pc := 223) d_MO_read_223 rfl ?_
          refine jv_istore (pc := 224) d_MO_read_224 (by decide) (jst6 rfl) ?_
          refine jv_goto 164 (pc := 226) d_MO_read_226 rfl ?_
          exact jv_sub [0, 1, 2, 3, 4, 5, 6] rfl (ih x1 x2 x3 x4 x5 (0 : Int32) _ _ _ H)
        · have h216 : ¬ ((32768 : Int32) ≤ ((n177 38 12) <<< ((1 : Int32) &&& 31))) := h216
          have H := (if_neg h216).symm.trans H
          refine jv_iconst 1 (pc := 219) d_MO_read_219 rfl ?_
          refine jv_goto 224 (pc := 220) d_MO_read_220 rfl ?_
          refine jv_istore (pc := 224) d_MO_read_224 (by decide) (jst6 rfl) ?_
          refine jv_goto 164 (pc := 226) d_MO_read_226 rfl ?_
          exact jv_sub [0, 1, 2, 3, 4, 5, 6] rfl (ih x1 x2 x3 x4 x5 (1 : Int32) _ _ _ H)
set_option maxRecDepth 40000 in
set_option maxHeartbeats 8000000 in
theorem sp_MO_read {G : jG} {σ τ : jMem} {r : Int32} (x1 : Int32) (H : f_MO_read x1 σ = some (r, τ)) : jSp G M_MO_read (jr 3 0 0) [.ref 38, .int x1] σ (jI fun r9 τ9 => r9 = r ∧ τ9 = τ) := by
  refine jSp.of rfl rfl (Nat.le_of_ble_eq_true rfl) ?_
  show jV _ _ _ _ 0 0 0 [(0, .ref 38), (1, .int x1)] [] σ
  unfold f_MO_read at H
  refine jv_aload_n 0 (pc := 0) d_MO_read_0 rfl ?_
  refine jv_getr (pc := 1) d_MO_read_1 fa_MO_31_MO (by decide) rfl rfl ?_
  refine jv_iload_n 1 (pc := 4) d_MO_read_4 rfl ?_
  obtain ⟨b5, H⟩ := jck_some H
  refine jv_iald (pc := 5) d_MO_read_5 (by decide) rfl b5 ?_
  refine jv_iconst 2 (pc := 6) d_MO_read_6 rfl ?_
  refine jv_idiv (pc := 7) d_MO_read_7 (by decide) ?_
  refine jv_callSi (sp_MO_sizeOf ((σ 46 x1.toNatClampNeg) / (2 : Int32))) (pc := 8) d_MO_read_8 c0_MO_sizeOf lk_MO_142 si_MO_sizeOf rfl (Nat.le_of_ble_eq_true rfl) ⟨by decide, by decide, by decide, by decide⟩ (fun r8 m8 h8 => ?_)
  obtain ⟨ha8, hb8⟩ := h8
  subst ha8
  have hb8 := hb8.symm
  subst hb8
  refine jv_istore_n (pc := 11) d_MO_read_11 rfl (by decide) (jsto_new rfl) ?_
  refine jv_aload_n 1 (pc := 12) d_MO_read_12 rfl ?_
  refine jv_geti (pc := 13) d_MO_read_13 fa_MO_128_MO (by decide) rfl rfl ?_
  refine jv_bipush (16) (pc := 16) d_MO_read_16 rfl ?_
  refine jv_iushr (pc := 18) d_MO_read_18 ?_
  refine jv_istore_n (pc := 19) d_MO_read_19 rfl (by decide) (jsto_new rfl) ?_
  refine jv_aload_n 2 (pc := 20) d_MO_read_20 rfl ?_
  refine jv_getr (pc := 21) d_MO_read_21 fa_MO_31_MO (by decide) rfl rfl ?_
  refine jv_iload_n 3 (pc := 24) d_MO_read_24 rfl ?_
  obtain ⟨b25, H⟩ := jck_some H
  refine jv_iald (pc := 25) d_MO_read_25 (by decide) rfl b25 ?_
  refine jv_iconst 2 (pc := 26) d_MO_read_26 rfl ?_
  refine jv_irem (pc := 27) d_MO_read_27 (by decide) ?_
  refine jv_istore (pc := 28) d_MO_read_28 (by decide) (jsto_new rfl) ?_
  refine jv_aload_n 3 (pc := 30) d_MO_read_30 rfl ?_
  refine jv_aload_n 3 (pc := 31) d_MO_read_31 rfl ?_
  refine jv_geti (pc := 32) d_MO_read_32 fa_MO_145_MO (by decide) rfl rfl ?_
  refine jv_iload_n 2 (pc := 35) d_MO_read_35 rfl ?_
  refine jv_isub (pc := 36) d_MO_read_36 ?_
  refine jv_puti (pc := 37) d_MO_read_37 fa_MO_145_MO fp_MO_12 (by decide) rfl rfl rfl rfl ?_
  refine jv_aload_n 3 (pc := 40) d_MO_read_40 rfl ?_
  refine jv_geti (pc := 41) d_MO_read_41 fa_MO_145_MO (by decide) rfl rfl ?_
  refine jv_iload_n 2 (pc := 44) d_MO_read_44 rfl ?_
  refine jv_icmp_ge 52 (pc := 45) d_MO_read_45 rfl (fun h45 => ?_) (fun h45 => ?_)
  · have h45 : (f_MO_sizeOf ((σ 46 x1.toNatClampNeg) / (2 : Int32)) σ) ≤ ((σ 38 12) - (f_MO_sizeOf ((σ 46 x1.toNatClampNeg) / (2 : Int32)) σ)) := h45
    have H := (if_pos h45).symm.trans H
    refine jv_iconst 0 (pc := 52) d_MO_read_52 rfl ?_
    refine jv_istore (pc := 53) d_MO_read_53 (by decide) (jsto_new rfl) ?_
    refine jv_iload_n 2 (pc := 55) d_MO_read_55 rfl ?_
    refine jv_iload_n 3 (pc := 56) d_MO_read_56 rfl ?_
    refine jv_icmp_ge 102 (pc := 57) d_MO_read_57 rfl (fun h57 => ?_) (fun h57 => ?_)
    · have h57 : (f_MO_sizeOf ((σ 46 x1.toNatClampNeg) / (2 : Int32)) σ) ≤ (((σ 38 13).toUInt32 >>> ((16 : Int32).toUInt32 &&& Int32.toUInt32 31)).toInt32) := h57
      have H := (if_pos h57).symm.trans H
      refine jv_aload_n 4 (pc := 102) d_MO_read_102 rfl ?_
      refine jv_aload_n 4 (pc := 103) d_MO_read_103 rfl ?_
      refine jv_geti (pc := 104) d_MO_read_104 fa_MO_128_MO (by decide) rfl rfl ?_
      refine jv_ldc (65536) (pc := 107) d_MO_read_107 (jin4 144 rfl rfl) ?_
      refine jv_iload_n 3 (pc := 109) d_MO_read_109 rfl ?_
      refine jv_imul (pc := 110) d_MO_read_110 ?_
      refine jv_isub (pc := 111) d_MO_read_111 ?_
      refine jv_puti (pc := 112) d_MO_read_112 fa_MO_128_MO fp_MO_13 (by decide) rfl rfl rfl rfl ?_
      refine jv_aload_n 4 (pc := 115) d_MO_read_115 rfl ?_
      refine jv_geti (pc := 116) d_MO_read_116 fa_MO_145_MO (by decide) rfl rfl ?_
      refine jv_ldc (32768) (pc := 119) d_MO_read_119 (jin4 143 rfl rfl) ?_
      refine jv_icmp_lt 127 (pc := 121) d_MO_read_121 rfl (fun h121 => ?_) (fun h121 => ?_)
      · have h121 : ((σ 38 12) - (f_MO_sizeOf ((σ 46 x1.toNatClampNeg) / (2 : Int32)) σ)) < (32768 : Int32) := h121
        have H := (if_pos h121).symm.trans H
        refine jv_iload 0 (pc := 127) d_MO_read_127 rfl ?_
        refine jv_if_eq 139 (pc := 129) d_MO_read_129 rfl (fun h129 => ?_) (fun h129 => absurd (show (0 : Int32) = 0 by decide) (show ¬ ((0 : Int32) = 0) from h129))
        refine jv_iload 1 (pc := 139) d_MO_read_139 rfl ?_
        refine jv_istore (pc := 141) d_MO_read_141 (by decide) (jst1 rfl) ?_
        refine jv_iload 0 (pc := 143) d_MO_read_143 rfl ?_
        refine jv_if_eq 156 (pc := 145) d_MO_read_145 rfl (fun h145 => ?_) (fun h145 => absurd (show (0 : Int32) = 0 by decide) (show ¬ ((0 : Int32) = 0) from h145))
        refine jv_aload_n 4 (pc := 156) d_MO_read_156 rfl ?_
        refine jv_iload_n 5 (pc := 157) d_MO_read_157 rfl ?_
        obtain ⟨_, n158, c158, H⟩ := jbd_some H
        refine jv_callVv (sp_MO_usual x1 c158) (pc := 158) d_MO_read_158 c0_MO_usual lk_MO_149 in_MO_usual se_MO_usual (by decide) rfl rfl rfl (Nat.le_of_ble_eq_true rfl) ⟨by decide, by decide, by decide, by decide⟩ (fun m158 h158 => ?_)
        have hb158 := h158
        have hb158 := hb158.symm
        subst hb158
        refine jv_iconst 1 (pc := 161) d_MO_read_161 rfl ?_
        refine jv_istore (pc := 162) d_MO_read_162 (by decide) (jsto_new rfl) ?_
        exact jv_sub [5, 6, 4, 3, 2, 1, 0] rfl (lp_MO_read_164  _ x1 (f_MO_sizeOf ((σ 46 x1.toNatClampNeg) / (2 : Int32)) σ) (((σ 38 13).toUInt32 >>> ((16 : Int32).toUInt32 &&& Int32.toUInt32 31)).toInt32) ((σ 46 x1.toNatClampNeg) - (σ 46 x1.toNatClampNeg) / (2 : Int32) * (2 : Int32)) (0 : Int32) (1 : Int32) _ _ _ H)
      · have h121 : ¬ (((σ 38 12) - (f_MO_sizeOf ((σ 46 x1.toNatClampNeg) / (2 : Int32)) σ)) < (32768 : Int32)) := h121
        have H := (if_neg h121).symm.trans H
        refine jv_iload 1 (pc := 124) d_MO_read_124 rfl ?_
        refine jv_iret (pc := 126) d_MO_read_126 rfl rfl (Nat.zero_le _) (Nat.zero_le _) ?_
        cases H
        exact jI.of ⟨rfl, rfl⟩
    · have h57 : ¬ ((f_MO_sizeOf ((σ 46 x1.toNatClampNeg) / (2 : Int32)) σ) ≤ (((σ 38 13).toUInt32 >>> ((16 : Int32).toUInt32 &&& Int32.toUInt32 31)).toInt32)) := h57
      have H := (if_neg h57).symm.trans H
      refine jv_iload 0 (pc := 60) d_MO_read_60 rfl ?_
      refine jv_if_eq 70 (pc := 62) d_MO_read_62 rfl (fun h62 => ?_) (fun h62 => absurd (show (0 : Int32) = 0 by decide) (show ¬ ((0 : Int32) = 0) from h62))
      refine jv_iconst 1 (pc := 70) d_MO_read_70 rfl ?_
      refine jv_iload 1 (pc := 71) d_MO_read_71 rfl ?_
      refine jv_isub (pc := 73) d_MO_read_73 ?_
      refine jv_istore (pc := 74) d_MO_read_74 (by decide) (jst1 rfl) ?_
      refine jv_iload 0 (pc := 76) d_MO_read_76 rfl ?_
      refine jv_if_eq 89 (pc := 78) d_MO_read_78 rfl (fun h78 => ?_) (fun h78 => absurd (show (0 : Int32) = 0 by decide) (show ¬ ((0 : Int32) = 0) from h78))
      refine jv_aload_n 4 (pc := 89) d_MO_read_89 rfl ?_
      refine jv_iload_n 5 (pc := 90) d_MO_read_90 rfl ?_
      obtain ⟨_, n91, c91, H⟩ := jbd_some H
      refine jv_callVv (sp_MO_wrong x1 c91) (pc := 91) d_MO_read_91 c0_MO_wrong lk_MO_152 in_MO_wrong se_MO_wrong (by decide) rfl rfl rfl (Nat.le_of_ble_eq_true rfl) ⟨by decide, by decide, by decide, by decide⟩ (fun m91 h91 => ?_)
      have hb91 := h91
      have hb91 := hb91.symm
      subst hb91
      refine jv_aload_n 4 (pc := 94) d_MO_read_94 rfl ?_
      refine jv_iload_n 3 (pc := 95) d_MO_read_95 rfl ?_
      refine jv_puti (pc := 96) d_MO_read_96 fa_MO_145_MO fp_MO_12 (by decide) rfl rfl rfl rfl ?_
      refine jv_goto 161 (pc := 99) d_MO_read_99 rfl ?_
      refine jv_iconst 1 (pc := 161) d_MO_read_161 rfl ?_
      refine jv_istore (pc := 162) d_MO_read_162 (by decide) (jsto_new rfl) ?_
      exact jv_sub [5, 6, 4, 3, 2, 1, 0] rfl (lp_MO_read_164  _ x1 (f_MO_sizeOf ((σ 46 x1.toNatClampNeg) / (2 : Int32)) σ) (((σ 38 13).toUInt32 >>> ((16 : Int32).toUInt32 &&& Int32.toUInt32 31)).toInt32) ((1 : Int32) - ((σ 46 x1.toNatClampNeg) - (σ 46 x1.toNatClampNeg) / (2 : Int32) * (2 : Int32))) (0 : Int32) (1 : Int32) _ _ _ H)
  · have h45 : ¬ ((f_MO_sizeOf ((σ 46 x1.toNatClampNeg) / (2 : Int32)) σ) ≤ ((σ 38 12) - (f_MO_sizeOf ((σ 46 x1.toNatClampNeg) / (2 : Int32)) σ))) := h45
    have H := (if_neg h45).symm.trans H
    refine jv_iconst 1 (pc := 48) d_MO_read_48 rfl ?_
    refine jv_goto 53 (pc := 49) d_MO_read_49 rfl ?_
    refine jv_istore (pc := 53) d_MO_read_53 (by decide) (jsto_new rfl) ?_
    refine jv_iload_n 2 (pc := 55) d_MO_read_55 rfl ?_
    refine jv_iload_n 3 (pc := 56) d_MO_read_56 rfl ?_
    refine jv_icmp_ge 102 (pc := 57) d_MO_read_57 rfl (fun h57 => ?_) (fun h57 => ?_)
    · have h57 : (f_MO_sizeOf ((σ 46 x1.toNatClampNeg) / (2 : Int32)) σ) ≤ (((σ 38 13).toUInt32 >>> ((16 : Int32).toUInt32 &&& Int32.toUInt32 31)).toInt32) := h57
      have H := (if_pos h57).symm.trans H
      refine jv_aload_n 4 (pc := 102) d_MO_read_102 rfl ?_
      refine jv_aload_n 4 (pc := 103) d_MO_read_103 rfl ?_
      refine jv_geti (pc := 104) d_MO_read_104 fa_MO_128_MO (by decide) rfl rfl ?_
      refine jv_ldc (65536) (pc := 107) d_MO_read_107 (jin4 144 rfl rfl) ?_
      refine jv_iload_n 3 (pc := 109) d_MO_read_109 rfl ?_
      refine jv_imul (pc := 110) d_MO_read_110 ?_
      refine jv_isub (pc := 111) d_MO_read_111 ?_
      refine jv_puti (pc := 112) d_MO_read_112 fa_MO_128_MO fp_MO_13 (by decide) rfl rfl rfl rfl ?_
      refine jv_aload_n 4 (pc := 115) d_MO_read_115 rfl ?_
      refine jv_geti (pc := 116) d_MO_read_116 fa_MO_145_MO (by decide) rfl rfl ?_
      refine jv_ldc (32768) (pc := 119) d_MO_read_119 (jin4 143 rfl rfl) ?_
      refine jv_icmp_lt 127 (pc := 121) d_MO_read_121 rfl (fun h121 => ?_) (fun h121 => ?_)
      · have h121 : ((σ 38 12) - (f_MO_sizeOf ((σ 46 x1.toNatClampNeg) / (2 : Int32)) σ)) < (32768 : Int32) := h121
        have H := (if_pos h121).symm.trans H
        refine jv_iload 0 (pc := 127) d_MO_read_127 rfl ?_
        refine jv_if_eq 139 (pc := 129) d_MO_read_129 rfl (fun h129 => absurd (show (1 : Int32) = 0 from h129) (by decide)) (fun h129 => ?_)
        refine jv_iconst 1 (pc := 132) d_MO_read_132 rfl ?_
        refine jv_iload 1 (pc := 133) d_MO_read_133 rfl ?_
        refine jv_isub (pc := 135) d_MO_read_135 ?_
        refine jv_goto 141 (pc := 136) d_MO_read_136 rfl ?_
        refine jv_istore (pc := 141) d_MO_read_141 (by decide) (jst1 rfl) ?_
        refine jv_iload 0 (pc := 143) d_MO_read_143 rfl ?_
        refine jv_if_eq 156 (pc := 145) d_MO_read_145 rfl (fun h145 => absurd (show (1 : Int32) = 0 from h145) (by decide)) (fun h145 => ?_)
        refine jv_aload_n 4 (pc := 148) d_MO_read_148 rfl ?_
        refine jv_iload_n 5 (pc := 149) d_MO_read_149 rfl ?_
        obtain ⟨_, n150, c150, H⟩ := jbd_some H
        refine jv_callVv (sp_MO_wrong x1 c150) (pc := 150) d_MO_read_150 c0_MO_wrong lk_MO_152 in_MO_wrong se_MO_wrong (by decide) rfl rfl rfl (Nat.le_of_ble_eq_true rfl) ⟨by decide, by decide, by decide, by decide⟩ (fun m150 h150 => ?_)
        have hb150 := h150
        have hb150 := hb150.symm
        subst hb150
        refine jv_goto 161 (pc := 153) d_MO_read_153 rfl ?_
        refine jv_iconst 1 (pc := 161) d_MO_read_161 rfl ?_
        refine jv_istore (pc := 162) d_MO_read_162 (by decide) (jsto_new rfl) ?_
        exact jv_sub [5, 6, 4, 3, 2, 1, 0] rfl (lp_MO_read_164  _ x1 (f_MO_sizeOf ((σ 46 x1.toNatClampNeg) / (2 : Int32)) σ) (((σ 38 13).toUInt32 >>> ((16 : Int32).toUInt32 &&& Int32.toUInt32 31)).toInt32) ((1 : Int32) - ((σ 46 x1.toNatClampNeg) - (σ 46 x1.toNatClampNeg) / (2 : Int32) * (2 : Int32))) (1 : Int32) (1 : Int32) _ _ _ H)
      · have h121 : ¬ (((σ 38 12) - (f_MO_sizeOf ((σ 46 x1.toNatClampNeg) / (2 : Int32)) σ)) < (32768 : Int32)) := h121
        have H := (if_neg h121).symm.trans H
        refine jv_iload 1 (pc := 124) d_MO_read_124 rfl ?_
        refine jv_iret (pc := 126) d_MO_read_126 rfl rfl (Nat.zero_le _) (Nat.zero_le _) ?_
        cases H
        exact jI.of ⟨rfl, rfl⟩
    · have h57 : ¬ ((f_MO_sizeOf ((σ 46 x1.toNatClampNeg) / (2 : Int32)) σ) ≤ (((σ 38 13).toUInt32 >>> ((16 : Int32).toUInt32 &&& Int32.toUInt32 31)).toInt32)) := h57
      have H := (if_neg h57).symm.trans H
      refine jv_iload 0 (pc := 60) d_MO_read_60 rfl ?_
      refine jv_if_eq 70 (pc := 62) d_MO_read_62 rfl (fun h62 => absurd (show (1 : Int32) = 0 from h62) (by decide)) (fun h62 => ?_)
      refine jv_iload 1 (pc := 65) d_MO_read_65 rfl ?_
      refine jv_goto 74 (pc := 67) d_MO_read_67 rfl ?_
      refine jv_istore (pc := 74) d_MO_read_74 (by decide) (jst1 rfl) ?_
      refine jv_iload 0 (pc := 76) d_MO_read_76 rfl ?_
      refine jv_if_eq 89 (pc := 78) d_MO_read_78 rfl (fun h78 => absurd (show (1 : Int32) = 0 from h78) (by decide)) (fun h78 => ?_)
      refine jv_aload_n 4 (pc := 81) d_MO_read_81 rfl ?_
      refine jv_iload_n 5 (pc := 82) d_MO_read_82 rfl ?_
      obtain ⟨_, n83, c83, H⟩ := jbd_some H
      refine jv_callVv (sp_MO_usual x1 c83) (pc := 83) d_MO_read_83 c0_MO_usual lk_MO_149 in_MO_usual se_MO_usual (by decide) rfl rfl rfl (Nat.le_of_ble_eq_true rfl) ⟨by decide, by decide, by decide, by decide⟩ (fun m83 h83 => ?_)
      have hb83 := h83
      have hb83 := hb83.symm
      subst hb83
      refine jv_goto 94 (pc := 86) d_MO_read_86 rfl ?_
      refine jv_aload_n 4 (pc := 94) d_MO_read_94 rfl ?_
      refine jv_iload_n 3 (pc := 95) d_MO_read_95 rfl ?_
      refine jv_puti (pc := 96) d_MO_read_96 fa_MO_145_MO fp_MO_12 (by decide) rfl rfl rfl rfl ?_
      refine jv_goto 161 (pc := 99) d_MO_read_99 rfl ?_
      refine jv_iconst 1 (pc := 161) d_MO_read_161 rfl ?_
      refine jv_istore (pc := 162) d_MO_read_162 (by decide) (jsto_new rfl) ?_
      exact jv_sub [5, 6, 4, 3, 2, 1, 0] rfl (lp_MO_read_164  _ x1 (f_MO_sizeOf ((σ 46 x1.toNatClampNeg) / (2 : Int32)) σ) (((σ 38 13).toUInt32 >>> ((16 : Int32).toUInt32 &&& Int32.toUInt32 31)).toInt32) ((σ 46 x1.toNatClampNeg) - (σ 46 x1.toNatClampNeg) / (2 : Int32) * (2 : Int32)) (1 : Int32) (1 : Int32) _ _ _ H)
set_option maxRecDepth 40000 in
set_option maxHeartbeats 8000000 in
theorem sp_MO_decide {G : jG} {σ τ : jMem} {r : Int32} (x1 x2 : Int32) (H : f_MO_decide x1 x2 σ = some (r, τ)) : jSp G M_MO_decide (jr 4 0 0) [.ref 38, .int x1, .int x2] σ (jI fun r9 τ9 => r9 = r ∧ τ9 = τ) := by
  refine jSp.of rfl rfl (Nat.le_of_ble_eq_true rfl) ?_
  show jV _ _ _ _ 0 0 0 [(0, .ref 38), (1, .int x1), (2, .int x2)] [] σ
  unfold f_MO_decide at H
  refine jv_aload_n 0 (pc := 0) d_MO_decide_0 rfl ?_
  refine jv_geti (pc := 1) d_MO_decide_1 fa_MO_68_MO (by decide) rfl rfl ?_
  refine jv_iconst 1 (pc := 4) d_MO_decide_4 rfl ?_
  refine jv_icmp_ne 16 (pc := 5) d_MO_decide_5 rfl (fun h5 => ?_) (fun h5 => ?_)
  · have h5 : ¬ ((σ 38 11) = (1 : Int32)) := h5
    have H := (if_neg h5).symm.trans H
    refine jv_aload_n 0 (pc := 16) d_MO_decide_16 rfl ?_
    refine jv_iload_n 1 (pc := 17) d_MO_decide_17 rfl ?_
    obtain ⟨v18, n18, c18, H⟩ := jbd_some H
    refine jv_callVi (sp_MO_read x1 c18) (pc := 18) d_MO_decide_18 c0_MO_read lk_MO_173 in_MO_read se_MO_read (by decide) rfl rfl rfl (Nat.le_of_ble_eq_true rfl) ⟨by decide, by decide, by decide, by decide⟩ (fun r18 m18 h18 => ?_)
    obtain ⟨ha18, hb18⟩ := h18
    have ha18 := ha18.symm
    subst ha18
    have hb18 := hb18.symm
    subst hb18
    refine jv_iret (pc := 21) d_MO_decide_21 rfl rfl (Nat.zero_le _) (Nat.zero_le _) ?_
    cases H
    exact jI.of ⟨rfl, rfl⟩
  · have h5 : (σ 38 11) = (1 : Int32) := h5
    have H := (if_pos h5).symm.trans H
    refine jv_aload_n 0 (pc := 8) d_MO_decide_8 rfl ?_
    refine jv_iload_n 1 (pc := 9) d_MO_decide_9 rfl ?_
    refine jv_iload_n 2 (pc := 10) d_MO_decide_10 rfl ?_
    obtain ⟨_, n11, c11, H⟩ := jbd_some H
    refine jv_callVv (sp_MO_write x1 x2 c11) (pc := 11) d_MO_decide_11 c0_MO_write lk_MO_169 in_MO_write se_MO_write (by decide) rfl rfl rfl (Nat.le_of_ble_eq_true rfl) ⟨by decide, by decide, by decide, by decide⟩ (fun m11 h11 => ?_)
    have hb11 := h11
    have hb11 := hb11.symm
    subst hb11
    refine jv_iload_n 2 (pc := 14) d_MO_decide_14 rfl ?_
    refine jv_iret (pc := 15) d_MO_decide_15 rfl rfl (Nat.zero_le _) (Nat.zero_le _) ?_
    cases H
    exact jI.of ⟨rfl, rfl⟩
set_option maxRecDepth 40000 in
set_option maxHeartbeats 8000000 in
theorem lp_MO_begin_7 {G : jG} : ∀ (n : Nat) (x1 x2 : Int32) (σ τ : jMem) (r : Unit), f_MO_begin_L7 n x1 x2 σ = some (r, τ) → jV G M_MO_begin (jr 2 0 0) (jU fun τ9 => τ9 = τ) 0 0 7 [(0, .ref 38), (1, .int x1), (2, .int x2)] [] σ := by
  intro n
  induction n with
  | zero =>
    intro x1 x2 σ τ r H
    cases H
  | succ n ih =>
    intro x1 x2 σ τ r H
    rw [f_MO_begin_L7.eq_2] at H
    refine jv_iload_n 2 (pc := 7) d_MO_begin_7 rfl ?_
    refine jv_sipush (15883) (pc := 8) d_MO_begin_8 rfl ?_
    refine jv_icmp_ge 27 (pc := 11) d_MO_begin_11 rfl (fun h11 => ?_) (fun h11 => ?_)
    · have h11 : (15883 : Int32) ≤ x2 := h11
      have H := (if_pos h11).symm.trans H
      refine jv_aload_n 0 (pc := 27) d_MO_begin_27 rfl ?_
      refine jv_ldc (32768) (pc := 28) d_MO_begin_28 (jin4 143 rfl rfl) ?_
      refine jv_puti (pc := 30) d_MO_begin_30 fa_MO_145_MO fp_MO_12 (by decide) rfl rfl rfl rfl ?_
      refine jv_iload_n 1 (pc := 33) d_MO_begin_33 rfl ?_
      refine jv_if_eq 71 (pc := 34) d_MO_begin_34 rfl (fun h34 => ?_) (fun h34 => ?_)
      · have h34 : x1 = 0 := h34
        have H := (if_pos h34).symm.trans H
        refine jv_aload_n 0 (pc := 71) d_MO_begin_71 rfl ?_
        refine jv_iconst 2 (pc := 72) d_MO_begin_72 rfl ?_
        refine jv_puti (pc := 73) d_MO_begin_73 fa_MO_68_MO fp_MO_11 (by decide) rfl rfl rfl rfl ?_
        refine jv_aload_n 0 (pc := 76) d_MO_begin_76 rfl ?_
        refine jv_iconst 0 (pc := 77) d_MO_begin_77 rfl ?_
        refine jv_puti (pc := 78) d_MO_begin_78 fa_MO_158_MO fp_MO_17 (by decide) rfl rfl rfl rfl ?_
        refine jv_aload_n 0 (pc := 81) d_MO_begin_81 rfl ?_
        refine jv_ldc (65536) (pc := 82) d_MO_begin_82 (jin4 144 rfl rfl) ?_
        refine jv_aload_n 0 (pc := 84) d_MO_begin_84 rfl ?_
        refine jv_iconst 0 (pc := 85) d_MO_begin_85 rfl ?_
        obtain ⟨v86, n86, c86, H⟩ := jbd_some H
        refine jv_callVi (sp_MO_byteAt (0 : Int32) c86) (pc := 86) d_MO_begin_86 c0_MO_byteAt lk_MO_161 in_MO_byteAt se_MO_byteAt (by decide) rfl rfl rfl (Nat.le_of_ble_eq_true rfl) ⟨by decide, by decide, by decide, by decide⟩ (fun r86 m86 h86 => ?_)
        obtain ⟨ha86, hb86⟩ := h86
        have ha86 := ha86.symm
        subst ha86
        have hb86 := hb86.symm
        subst hb86
        refine jv_imul (pc := 89) d_MO_begin_89 ?_
        refine jv_puti (pc := 90) d_MO_begin_90 fa_MO_128_MO fp_MO_13 (by decide) rfl rfl rfl rfl ?_
        refine jv_aload_n 0 (pc := 93) d_MO_begin_93 rfl ?_
        obtain ⟨_, n94, c94, H⟩ := jbd_some H
        refine jv_callVv (sp_MO_comeIn c94) (pc := 94) d_MO_begin_94 c0_MO_comeIn lk_MO_166 in_MO_comeIn se_MO_comeIn (by decide) rfl rfl rfl (Nat.le_of_ble_eq_true rfl) ⟨by decide, by decide, by decide, by decide⟩ (fun m94 h94 => ?_)
        have hb94 := h94
        have hb94 := hb94.symm
        subst hb94
        refine jv_aload_n 0 (pc := 97) d_MO_begin_97 rfl ?_
        refine jv_aload_n 0 (pc := 98) d_MO_begin_98 rfl ?_
        refine jv_geti (pc := 99) d_MO_begin_99 fa_MO_128_MO (by decide) rfl rfl ?_
        refine jv_bipush (7) (pc := 102) d_MO_begin_102 rfl ?_
        refine jv_ishl (pc := 104) d_MO_begin_104 ?_
        refine jv_puti (pc := 105) d_MO_begin_105 fa_MO_128_MO fp_MO_13 (by decide) rfl rfl rfl rfl ?_
        refine jv_aload_n 0 (pc := 108) d_MO_begin_108 rfl ?_
        refine jv_aload_n 0 (pc := 109) d_MO_begin_109 rfl ?_
        refine jv_geti (pc := 110) d_MO_begin_110 fa_MO_138_MO (by decide) rfl rfl ?_
        refine jv_bipush (7) (pc := 113) d_MO_begin_113 rfl ?_
        refine jv_isub (pc := 115) d_MO_begin_115 ?_
        refine jv_puti (pc := 116) d_MO_begin_116 fa_MO_138_MO fp_MO_14 (by decide) rfl rfl rfl rfl ?_
        refine jv_vret (pc := 119) d_MO_begin_119 rfl (Nat.zero_le _) (Nat.zero_le _) ?_
        cases H
        exact jU.of rfl
      · have h34 : ¬ (x1 = 0) := h34
        have H := (if_neg h34).symm.trans H
        refine jv_aload_n 0 (pc := 37) d_MO_begin_37 rfl ?_
        refine jv_iconst 1 (pc := 38) d_MO_begin_38 rfl ?_
        refine jv_puti (pc := 39) d_MO_begin_39 fa_MO_68_MO fp_MO_11 (by decide) rfl rfl rfl rfl ?_
        refine jv_aload_n 0 (pc := 42) d_MO_begin_42 rfl ?_
        refine jv_iconst 0 (pc := 43) d_MO_begin_43 rfl ?_
        refine jv_puti (pc := 44) d_MO_begin_44 fa_MO_71_MO fp_MO_9 (by decide) rfl rfl rfl rfl ?_
        refine jv_aload_n 0 (pc := 47) d_MO_begin_47 rfl ?_
        refine jv_iconst 0 (pc := 48) d_MO_begin_48 rfl ?_
        refine jv_puti (pc := 49) d_MO_begin_49 fa_MO_122_MO fp_MO_15 (by decide) rfl rfl rfl rfl ?_
        refine jv_aload_n 0 (pc := 52) d_MO_begin_52 rfl ?_
        refine jv_iconst (-1) (pc := 53) d_MO_begin_53 rfl ?_
        refine jv_puti (pc := 54) d_MO_begin_54 fa_MO_125_MO fp_MO_16 (by decide) rfl rfl rfl rfl ?_
        refine jv_aload_n 0 (pc := 57) d_MO_begin_57 rfl ?_
        refine jv_iconst 0 (pc := 58) d_MO_begin_58 rfl ?_
        refine jv_puti (pc := 59) d_MO_begin_59 fa_MO_128_MO fp_MO_13 (by decide) rfl rfl rfl rfl ?_
        refine jv_aload_n 0 (pc := 62) d_MO_begin_62 rfl ?_
        refine jv_bipush (12) (pc := 63) d_MO_begin_63 rfl ?_
        refine jv_puti (pc := 65) d_MO_begin_65 fa_MO_138_MO fp_MO_14 (by decide) rfl rfl rfl rfl ?_
        refine jv_goto 119 (pc := 68) d_MO_begin_68 rfl ?_
        refine jv_vret (pc := 119) d_MO_begin_119 rfl (Nat.zero_le _) (Nat.zero_le _) ?_
        cases H
        exact jU.of rfl
    · have h11 : ¬ ((15883 : Int32) ≤ x2) := h11
      have H := (if_neg h11).symm.trans H
      refine jv_aload_n 0 (pc := 14) d_MO_begin_14 rfl ?_
      refine jv_getr (pc := 15) d_MO_begin_15 fa_MO_31_MO (by decide) rfl rfl ?_
      refine jv_iload_n 2 (pc := 18) d_MO_begin_18 rfl ?_
      refine jv_iconst 0 (pc := 19) d_MO_begin_19 rfl ?_
      obtain ⟨b20, H⟩ := jck_some H
      refine jv_iast (pc := 20) d_MO_begin_20 (by decide) rfl b20 ?_
      refine jv_iinc 2 _ (pc := 21) d_MO_begin_21 rfl (jinc1 _) (by decide) (jst2 rfl) ?_
      refine jv_goto 7 (pc := 24) d_MO_begin_24 rfl ?_
      exact jv_sub [0, 1, 2] rfl (ih x1 (x2 + 1) _ _ _ H)
set_option maxRecDepth 40000 in
set_option maxHeartbeats 8000000 in
theorem sp_MO_begin {G : jG} {σ τ : jMem} {r : Unit} (x1 : Int32) (H : f_MO_begin x1 σ = some (r, τ)) : jSp G M_MO_begin (jr 2 0 0) [.ref 38, .int x1] σ (jU fun τ9 => τ9 = τ) := by
  refine jSp.of rfl rfl (Nat.le_of_ble_eq_true rfl) ?_
  show jV _ _ _ _ 0 0 0 [(0, .ref 38), (1, .int x1)] [] σ
  unfold f_MO_begin at H
  refine jv_aload_n 0 (pc := 0) d_MO_begin_0 rfl ?_
  refine jv_iconst 0 (pc := 1) d_MO_begin_1 rfl ?_
  refine jv_puti (pc := 2) d_MO_begin_2 fa_MO_34_MO fp_MO_0 (by decide) rfl rfl rfl rfl ?_
  refine jv_iconst 0 (pc := 5) d_MO_begin_5 rfl ?_
  refine jv_istore_n (pc := 6) d_MO_begin_6 rfl (by decide) (jsto_new rfl) ?_
  exact jv_sub [1, 2, 0] rfl (lp_MO_begin_7  _ x1 (0 : Int32) _ _ _ H)
set_option maxRecDepth 40000 in
set_option maxHeartbeats 8000000 in
theorem sp_MO_flush {G : jG} {σ τ : jMem} {r : Unit} (H : f_MO_flush σ = some (r, τ)) : jSp G M_MO_flush (jr 2 0 0) [.ref 38] σ (jU fun τ9 => τ9 = τ) := by
  refine jSp.of rfl rfl (Nat.le_of_ble_eq_true rfl) ?_
  show jV _ _ _ _ 0 0 0 [(0, .ref 38)] [] σ
  unfold f_MO_flush at H
  refine jv_aload_n 0 (pc := 0) d_MO_flush_0 rfl ?_
  refine jv_geti (pc := 1) d_MO_flush_1 fa_MO_128_MO (by decide) rfl rfl ?_
  refine jv_aload_n 0 (pc := 4) d_MO_flush_4 rfl ?_
  refine jv_geti (pc := 5) d_MO_flush_5 fa_MO_145_MO (by decide) rfl rfl ?_
  refine jv_iadd (pc := 8) d_MO_flush_8 ?_
  refine jv_istore_n (pc := 9) d_MO_flush_9 rfl (by decide) (jsto_new rfl) ?_
  refine jv_aload_n 1 (pc := 10) d_MO_flush_10 rfl ?_
  refine jv_aload_n 1 (pc := 11) d_MO_flush_11 rfl ?_
  refine jv_geti (pc := 12) d_MO_flush_12 fa_MO_128_MO (by decide) rfl rfl ?_
  refine jv_ldc (65535) (pc := 15) d_MO_flush_15 (jin4 162 rfl rfl) ?_
  refine jv_ior (pc := 17) d_MO_flush_17 ?_
  refine jv_puti (pc := 18) d_MO_flush_18 fa_MO_128_MO fp_MO_13 (by decide) rfl rfl rfl rfl ?_
  refine jv_aload_n 1 (pc := 21) d_MO_flush_21 rfl ?_
  refine jv_aload_n 1 (pc := 22) d_MO_flush_22 rfl ?_
  refine jv_geti (pc := 23) d_MO_flush_23 fa_MO_128_MO (by decide) rfl rfl ?_
  refine jv_iload_n 0 (pc := 26) d_MO_flush_26 rfl ?_
  refine jv_icmp_lt 40 (pc := 27) d_MO_flush_27 rfl (fun h27 => ?_) (fun h27 => ?_)
  · have h27 : ((σ 38 13) ||| (65535 : Int32)) < ((σ 38 13) + (σ 38 12)) := h27
    have H := (if_pos h27).symm.trans H
    refine jv_aload_n 1 (pc := 40) d_MO_flush_40 rfl ?_
    refine jv_geti (pc := 41) d_MO_flush_41 fa_MO_128_MO (by decide) rfl rfl ?_
    refine jv_puti (pc := 44) d_MO_flush_44 fa_MO_128_MO fp_MO_13 (by decide) rfl rfl rfl rfl ?_
    refine jv_aload_n 1 (pc := 47) d_MO_flush_47 rfl ?_
    refine jv_aload_n 1 (pc := 48) d_MO_flush_48 rfl ?_
    refine jv_geti (pc := 49) d_MO_flush_49 fa_MO_128_MO (by decide) rfl rfl ?_
    refine jv_aload_n 1 (pc := 52) d_MO_flush_52 rfl ?_
    refine jv_geti (pc := 53) d_MO_flush_53 fa_MO_138_MO (by decide) rfl rfl ?_
    refine jv_ishl (pc := 56) d_MO_flush_56 ?_
    refine jv_puti (pc := 57) d_MO_flush_57 fa_MO_128_MO fp_MO_13 (by decide) rfl rfl rfl rfl ?_
    refine jv_aload_n 1 (pc := 60) d_MO_flush_60 rfl ?_
    obtain ⟨_, n61, c61, H⟩ := jbd_some H
    refine jv_callVv (sp_MO_goOut c61) (pc := 61) d_MO_flush_61 c0_MO_goOut lk_MO_155 in_MO_goOut se_MO_goOut (by decide) rfl rfl rfl (Nat.le_of_ble_eq_true rfl) ⟨by decide, by decide, by decide, by decide⟩ (fun m61 h61 => ?_)
    have hb61 := h61
    have hb61 := hb61.symm
    subst hb61
    refine jv_aload_n 1 (pc := 64) d_MO_flush_64 rfl ?_
    refine jv_aload_n 1 (pc := 65) d_MO_flush_65 rfl ?_
    refine jv_geti (pc := 66) d_MO_flush_66 fa_MO_128_MO (by decide) rfl rfl ?_
    refine jv_aload_n 1 (pc := 69) d_MO_flush_69 rfl ?_
    refine jv_geti (pc := 70) d_MO_flush_70 fa_MO_138_MO (by decide) rfl rfl ?_
    refine jv_ishl (pc := 73) d_MO_flush_73 ?_
    refine jv_puti (pc := 74) d_MO_flush_74 fa_MO_128_MO fp_MO_13 (by decide) rfl rfl rfl rfl ?_
    refine jv_aload_n 1 (pc := 77) d_MO_flush_77 rfl ?_
    obtain ⟨_, n78, c78, H⟩ := jbd_some H
    refine jv_callVv (sp_MO_goOut c78) (pc := 78) d_MO_flush_78 c0_MO_goOut lk_MO_155 in_MO_goOut se_MO_goOut (by decide) rfl rfl rfl (Nat.le_of_ble_eq_true rfl) ⟨by decide, by decide, by decide, by decide⟩ (fun m78 h78 => ?_)
    have hb78 := h78
    have hb78 := hb78.symm
    subst hb78
    refine jv_aload_n 1 (pc := 81) d_MO_flush_81 rfl ?_
    refine jv_geti (pc := 82) d_MO_flush_82 fa_MO_122_MO (by decide) rfl rfl ?_
    refine jv_sipush (255) (pc := 85) d_MO_flush_85 rfl ?_
    refine jv_icmp_eq 98 (pc := 88) d_MO_flush_88 rfl (fun h88 => ?_) (fun h88 => ?_)
    · have h88 : (n78 38 15) = (255 : Int32) := h88
      have H := (if_pos h88).symm.trans H
      refine jv_aload_n 1 (pc := 98) d_MO_flush_98 rfl ?_
      refine jv_sipush (172) (pc := 99) d_MO_flush_99 rfl ?_
      obtain ⟨_, n102, c102, H⟩ := jbd_some H
      refine jv_callVv (sp_MO_out (172 : Int32) c102) (pc := 102) d_MO_flush_102 c0_MO_out lk_MO_133 in_MO_out se_MO_out (by decide) rfl rfl rfl (Nat.le_of_ble_eq_true rfl) ⟨by decide, by decide, by decide, by decide⟩ (fun m102 h102 => ?_)
      have hb102 := h102
      have hb102 := hb102.symm
      subst hb102
      refine jv_vret (pc := 105) d_MO_flush_105 rfl (Nat.zero_le _) (Nat.zero_le _) ?_
      cases H
      exact jU.of rfl
    · have h88 : ¬ ((n78 38 15) = (255 : Int32)) := h88
      have H := (if_neg h88).symm.trans H
      refine jv_aload_n 1 (pc := 91) d_MO_flush_91 rfl ?_
      refine jv_sipush (255) (pc := 92) d_MO_flush_92 rfl ?_
      obtain ⟨_, n95, c95, H⟩ := jbd_some H
      refine jv_callVv (sp_MO_out (255 : Int32) c95) (pc := 95) d_MO_flush_95 c0_MO_out lk_MO_133 in_MO_out se_MO_out (by decide) rfl rfl rfl (Nat.le_of_ble_eq_true rfl) ⟨by decide, by decide, by decide, by decide⟩ (fun m95 h95 => ?_)
      have hb95 := h95
      have hb95 := hb95.symm
      subst hb95
      refine jv_aload_n 1 (pc := 98) d_MO_flush_98 rfl ?_
      refine jv_sipush (172) (pc := 99) d_MO_flush_99 rfl ?_
      obtain ⟨_, n102, c102, H⟩ := jbd_some H
      refine jv_callVv (sp_MO_out (172 : Int32) c102) (pc := 102) d_MO_flush_102 c0_MO_out lk_MO_133 in_MO_out se_MO_out (by decide) rfl rfl rfl (Nat.le_of_ble_eq_true rfl) ⟨by decide, by decide, by decide, by decide⟩ (fun m102 h102 => ?_)
      have hb102 := h102
      have hb102 := hb102.symm
      subst hb102
      refine jv_vret (pc := 105) d_MO_flush_105 rfl (Nat.zero_le _) (Nat.zero_le _) ?_
      cases H
      exact jU.of rfl
  · have h27 : ¬ (((σ 38 13) ||| (65535 : Int32)) < ((σ 38 13) + (σ 38 12))) := h27
    have H := (if_neg h27).symm.trans H
    refine jv_aload_n 1 (pc := 30) d_MO_flush_30 rfl ?_
    refine jv_geti (pc := 31) d_MO_flush_31 fa_MO_128_MO (by decide) rfl rfl ?_
    refine jv_ldc (32768) (pc := 34) d_MO_flush_34 (jin4 143 rfl rfl) ?_
    refine jv_isub (pc := 36) d_MO_flush_36 ?_
    refine jv_goto 44 (pc := 37) d_MO_flush_37 rfl ?_
    refine jv_puti (pc := 44) d_MO_flush_44 fa_MO_128_MO fp_MO_13 (by decide) rfl rfl rfl rfl ?_
    refine jv_aload_n 1 (pc := 47) d_MO_flush_47 rfl ?_
    refine jv_aload_n 1 (pc := 48) d_MO_flush_48 rfl ?_
    refine jv_geti (pc := 49) d_MO_flush_49 fa_MO_128_MO (by decide) rfl rfl ?_
    refine jv_aload_n 1 (pc := 52) d_MO_flush_52 rfl ?_
    refine jv_geti (pc := 53) d_MO_flush_53 fa_MO_138_MO (by decide) rfl rfl ?_
    refine jv_ishl (pc := 56) d_MO_flush_56 ?_
    refine jv_puti (pc := 57) d_MO_flush_57 fa_MO_128_MO fp_MO_13 (by decide) rfl rfl rfl rfl ?_
    refine jv_aload_n 1 (pc := 60) d_MO_flush_60 rfl ?_
    obtain ⟨_, n61, c61, H⟩ := jbd_some H
    refine jv_callVv (sp_MO_goOut c61) (pc := 61) d_MO_flush_61 c0_MO_goOut lk_MO_155 in_MO_goOut se_MO_goOut (by decide) rfl rfl rfl (Nat.le_of_ble_eq_true rfl) ⟨by decide, by decide, by decide, by decide⟩ (fun m61 h61 => ?_)
    have hb61 := h61
    have hb61 := hb61.symm
    subst hb61
    refine jv_aload_n 1 (pc := 64) d_MO_flush_64 rfl ?_
    refine jv_aload_n 1 (pc := 65) d_MO_flush_65 rfl ?_
    refine jv_geti (pc := 66) d_MO_flush_66 fa_MO_128_MO (by decide) rfl rfl ?_
    refine jv_aload_n 1 (pc := 69) d_MO_flush_69 rfl ?_
    refine jv_geti (pc := 70) d_MO_flush_70 fa_MO_138_MO (by decide) rfl rfl ?_
    refine jv_ishl (pc := 73) d_MO_flush_73 ?_
    refine jv_puti (pc := 74) d_MO_flush_74 fa_MO_128_MO fp_MO_13 (by decide) rfl rfl rfl rfl ?_
    refine jv_aload_n 1 (pc := 77) d_MO_flush_77 rfl ?_
    obtain ⟨_, n78, c78, H⟩ := jbd_some H
    refine jv_callVv (sp_MO_goOut c78) (pc := 78) d_MO_flush_78 c0_MO_goOut lk_MO_155 in_MO_goOut se_MO_goOut (by decide) rfl rfl rfl (Nat.le_of_ble_eq_true rfl) ⟨by decide, by decide, by decide, by decide⟩ (fun m78 h78 => ?_)
    have hb78 := h78
    have hb78 := hb78.symm
    subst hb78
    refine jv_aload_n 1 (pc := 81) d_MO_flush_81 rfl ?_
    refine jv_geti (pc := 82) d_MO_flush_82 fa_MO_122_MO (by decide) rfl rfl ?_
    refine jv_sipush (255) (pc := 85) d_MO_flush_85 rfl ?_
    refine jv_icmp_eq 98 (pc := 88) d_MO_flush_88 rfl (fun h88 => ?_) (fun h88 => ?_)
    · have h88 : (n78 38 15) = (255 : Int32) := h88
      have H := (if_pos h88).symm.trans H
      refine jv_aload_n 1 (pc := 98) d_MO_flush_98 rfl ?_
      refine jv_sipush (172) (pc := 99) d_MO_flush_99 rfl ?_
      obtain ⟨_, n102, c102, H⟩ := jbd_some H
      refine jv_callVv (sp_MO_out (172 : Int32) c102) (pc := 102) d_MO_flush_102 c0_MO_out lk_MO_133 in_MO_out se_MO_out (by decide) rfl rfl rfl (Nat.le_of_ble_eq_true rfl) ⟨by decide, by decide, by decide, by decide⟩ (fun m102 h102 => ?_)
      have hb102 := h102
      have hb102 := hb102.symm
      subst hb102
      refine jv_vret (pc := 105) d_MO_flush_105 rfl (Nat.zero_le _) (Nat.zero_le _) ?_
      cases H
      exact jU.of rfl
    · have h88 : ¬ ((n78 38 15) = (255 : Int32)) := h88
      have H := (if_neg h88).symm.trans H
      refine jv_aload_n 1 (pc := 91) d_MO_flush_91 rfl ?_
      refine jv_sipush (255) (pc := 92) d_MO_flush_92 rfl ?_
      obtain ⟨_, n95, c95, H⟩ := jbd_some H
      refine jv_callVv (sp_MO_out (255 : Int32) c95) (pc := 95) d_MO_flush_95 c0_MO_out lk_MO_133 in_MO_out se_MO_out (by decide) rfl rfl rfl (Nat.le_of_ble_eq_true rfl) ⟨by decide, by decide, by decide, by decide⟩ (fun m95 h95 => ?_)
      have hb95 := h95
      have hb95 := hb95.symm
      subst hb95
      refine jv_aload_n 1 (pc := 98) d_MO_flush_98 rfl ?_
      refine jv_sipush (172) (pc := 99) d_MO_flush_99 rfl ?_
      obtain ⟨_, n102, c102, H⟩ := jbd_some H
      refine jv_callVv (sp_MO_out (172 : Int32) c102) (pc := 102) d_MO_flush_102 c0_MO_out lk_MO_133 in_MO_out se_MO_out (by decide) rfl rfl rfl (Nat.le_of_ble_eq_true rfl) ⟨by decide, by decide, by decide, by decide⟩ (fun m102 h102 => ?_)
      have hb102 := h102
      have hb102 := hb102.symm
      subst hb102
      refine jv_vret (pc := 105) d_MO_flush_105 rfl (Nat.zero_le _) (Nat.zero_le _) ?_
      cases H
      exact jU.of rfl
set_option maxRecDepth 40000 in
set_option maxHeartbeats 8000000 in
theorem sp_MO_end {G : jG} {σ τ : jMem} {r : Int32} (H : f_MO_end σ = some (r, τ)) : jSp G M_MO_end (jr 3 0 0) [.ref 38] σ (jI fun r9 τ9 => r9 = r ∧ τ9 = τ) := by
  refine jSp.of rfl rfl (Nat.le_of_ble_eq_true rfl) ?_
  show jV _ _ _ _ 0 0 0 [(0, .ref 38)] [] σ
  unfold f_MO_end at H
  refine jv_aload_n 0 (pc := 0) d_MO_end_0 rfl ?_
  refine jv_aload_n 0 (pc := 1) d_MO_end_1 rfl ?_
  refine jv_geti (pc := 2) d_MO_end_2 fa_MO_68_MO (by decide) rfl rfl ?_
  refine jv_if_ne 12 (pc := 5) d_MO_end_5 rfl (fun h5 => ?_) (fun h5 => ?_)
  · have h5 : ¬ ((σ 38 11) = 0) := h5
    have H := (if_neg h5).symm.trans H
    refine jv_iconst 0 (pc := 12) d_MO_end_12 rfl ?_
    refine jv_puti (pc := 13) d_MO_end_13 fa_MO_34_MO fp_MO_0 (by decide) rfl rfl rfl rfl ?_
    refine jv_aload_n 0 (pc := 16) d_MO_end_16 rfl ?_
    refine jv_geti (pc := 17) d_MO_end_17 fa_MO_34_MO (by decide) rfl rfl ?_
    refine jv_if_le 25 (pc := 20) d_MO_end_20 rfl (fun h20 => ?_) (fun h20 => absurd (show (0 : Int32) ≤ 0 by decide) (show ¬ ((0 : Int32) ≤ 0) from h20))
    refine jv_aload_n 0 (pc := 25) d_MO_end_25 rfl ?_
    refine jv_geti (pc := 26) d_MO_end_26 fa_MO_68_MO (by decide) rfl rfl ?_
    refine jv_iconst 1 (pc := 29) d_MO_end_29 rfl ?_
    refine jv_icmp_ne 37 (pc := 30) d_MO_end_30 rfl (fun h30 => ?_) (fun h30 => ?_)
    · have h30 : ¬ ((σ 38 11) = (1 : Int32)) := h30
      have H := (if_neg h30).symm.trans H
      refine jv_aload_n 0 (pc := 37) d_MO_end_37 rfl ?_
      refine jv_iconst 0 (pc := 38) d_MO_end_38 rfl ?_
      refine jv_puti (pc := 39) d_MO_end_39 fa_MO_68_MO fp_MO_11 (by decide) rfl rfl rfl rfl ?_
      refine jv_aload_n 0 (pc := 42) d_MO_end_42 rfl ?_
      refine jv_geti (pc := 43) d_MO_end_43 fa_MO_71_MO (by decide) rfl rfl ?_
      refine jv_iret (pc := 46) d_MO_end_46 rfl rfl (Nat.zero_le _) (Nat.zero_le _) ?_
      cases H
      exact jI.of ⟨rfl, rfl⟩
    · have h30 : (σ 38 11) = (1 : Int32) := h30
      have H := (if_pos h30).symm.trans H
      refine jv_aload_n 0 (pc := 33) d_MO_end_33 rfl ?_
      obtain ⟨_, n34, c34, H⟩ := jbd_some H
      refine jv_callVv (sp_MO_flush c34) (pc := 34) d_MO_end_34 c0_MO_flush lk_MO_177 in_MO_flush se_MO_flush (by decide) rfl rfl rfl (Nat.le_of_ble_eq_true rfl) ⟨by decide, by decide, by decide, by decide⟩ (fun m34 h34 => ?_)
      have hb34 := h34
      have hb34 := hb34.symm
      subst hb34
      refine jv_aload_n 0 (pc := 37) d_MO_end_37 rfl ?_
      refine jv_iconst 0 (pc := 38) d_MO_end_38 rfl ?_
      refine jv_puti (pc := 39) d_MO_end_39 fa_MO_68_MO fp_MO_11 (by decide) rfl rfl rfl rfl ?_
      refine jv_aload_n 0 (pc := 42) d_MO_end_42 rfl ?_
      refine jv_geti (pc := 43) d_MO_end_43 fa_MO_71_MO (by decide) rfl rfl ?_
      refine jv_iret (pc := 46) d_MO_end_46 rfl rfl (Nat.zero_le _) (Nat.zero_le _) ?_
      cases H
      exact jI.of ⟨rfl, rfl⟩
  · have h5 : (σ 38 11) = 0 := h5
    have H := (if_pos h5).symm.trans H
    refine jv_iconst 1 (pc := 8) d_MO_end_8 rfl ?_
    refine jv_goto 13 (pc := 9) d_MO_end_9 rfl ?_
    refine jv_puti (pc := 13) d_MO_end_13 fa_MO_34_MO fp_MO_0 (by decide) rfl rfl rfl rfl ?_
    refine jv_aload_n 0 (pc := 16) d_MO_end_16 rfl ?_
    refine jv_geti (pc := 17) d_MO_end_17 fa_MO_34_MO (by decide) rfl rfl ?_
    refine jv_if_le 25 (pc := 20) d_MO_end_20 rfl (fun h20 => absurd (show (1 : Int32) ≤ 0 from h20) (by decide)) (fun h20 => ?_)
    refine jv_iconst 0 (pc := 23) d_MO_end_23 rfl ?_
    refine jv_iret (pc := 24) d_MO_end_24 rfl rfl (Nat.zero_le _) (Nat.zero_le _) ?_
    cases H
    exact jI.of ⟨rfl, rfl⟩
set_option maxRecDepth 40000 in
set_option maxHeartbeats 8000000 in
theorem lp_MO_around_7 {G : jG} : ∀ (n : Nat) (x1 x2 x3 x4 x5 x6 x7 : Int32) (σ τ : jMem) (r : Int32), f_MO_around_L7 n x1 x2 x3 x4 x5 x6 x7 σ = some (r, τ) → jV G M_MO_around (jr 2 0 0) (jI fun r9 τ9 => r9 = r ∧ τ9 = τ) 0 0 7 [(0, .ref 38), (1, .int x1), (2, .int x2), (3, .int x3), (4, .int x4), (5, .int x5), (6, .int x6), (7, .int x7)] [] σ := by
  intro n
  induction n with
  | zero =>
    intro x1 x2 x3 x4 x5 x6 x7 σ τ r H
    cases H
  | succ n ih =>
    intro x1 x2 x3 x4 x5 x6 x7 σ τ r H
    rw [f_MO_around_L7.eq_2] at H
    refine jv_iload 7 (pc := 7) d_MO_around_7 rfl ?_
    refine jv_iload 5 (pc := 9) d_MO_around_9 rfl ?_
    refine jv_icmp_gt 35 (pc := 11) d_MO_around_11 rfl (fun h11 => ?_) (fun h11 => ?_)
    · have h11 : x5 < x7 := h11
      have H := (if_pos h11).symm.trans H
      refine jv_iload 6 (pc := 35) d_MO_around_35 rfl ?_
      refine jv_iret (pc := 37) d_MO_around_37 rfl rfl (Nat.zero_le _) (Nat.zero_le _) ?_
      cases H
      exact jI.of ⟨rfl, rfl⟩
    · have h11 : ¬ (x5 < x7) := h11
      have H := (if_neg h11).symm.trans H
      refine jv_iconst 2 (pc := 14) d_MO_around_14 rfl ?_
      refine jv_iload 6 (pc := 15) d_MO_around_15 rfl ?_
      refine jv_imul (pc := 17) d_MO_around_17 ?_
      refine jv_aload_n 0 (pc := 18) d_MO_around_18 rfl ?_
      refine jv_iload_n 2 (pc := 19) d_MO_around_19 rfl ?_
      refine jv_iload 7 (pc := 20) d_MO_around_20 rfl ?_
      refine jv_iload_n 3 (pc := 22) d_MO_around_22 rfl ?_
      obtain ⟨v23, n23, c23, H⟩ := jbd_some H
      refine jv_callVi (sp_MO_at x2 x7 x3 c23) (pc := 23) d_MO_around_23 c0_MO_at lk_MO_50 in_MO_at se_MO_at (by decide) rfl rfl rfl (Nat.le_of_ble_eq_true rfl) ⟨by decide, by decide, by decide, by decide⟩ (fun r23 m23 h23 => ?_)
      obtain ⟨ha23, hb23⟩ := h23
      have ha23 := ha23.symm
      subst ha23
      have hb23 := hb23.symm
      subst hb23
      refine jv_iadd (pc := 26) d_MO_around_26 ?_
      refine jv_istore (pc := 27) d_MO_around_27 (by decide) (jst6 rfl) ?_
      refine jv_iinc 7 _ (pc := 29) d_MO_around_29 rfl (jinc1 _) (by decide) (jst7 rfl) ?_
      refine jv_goto 7 (pc := 32) d_MO_around_32 rfl ?_
      exact jv_sub [0, 1, 2, 3, 4, 5, 6, 7] rfl (ih x1 x2 x3 x4 x5 (((2 : Int32) * x6) + v23) (x7 + 1) _ _ _ H)
set_option maxRecDepth 40000 in
set_option maxHeartbeats 8000000 in
theorem sp_MO_around {G : jG} {σ τ : jMem} {r : Int32} (x1 x2 x3 x4 x5 : Int32) (H : f_MO_around x1 x2 x3 x4 x5 σ = some (r, τ)) : jSp G M_MO_around (jr 2 0 0) [.ref 38, .int x1, .int x2, .int x3, .int x4, .int x5] σ (jI fun r9 τ9 => r9 = r ∧ τ9 = τ) := by
  refine jSp.of rfl rfl (Nat.le_of_ble_eq_true rfl) ?_
  show jV _ _ _ _ 0 0 0 [(0, .ref 38), (1, .int x1), (2, .int x2), (3, .int x3), (4, .int x4), (5, .int x5)] [] σ
  unfold f_MO_around at H
  refine jv_iload_n 1 (pc := 0) d_MO_around_0 rfl ?_
  refine jv_istore (pc := 1) d_MO_around_1 (by decide) (jsto_new rfl) ?_
  refine jv_iload 5 (pc := 3) d_MO_around_3 rfl ?_
  refine jv_istore (pc := 5) d_MO_around_5 (by decide) (jsto_new rfl) ?_
  exact jv_sub [2, 3, 4, 5, 6, 7, 1, 0] rfl (lp_MO_around_7  _ x1 x2 x3 x4 x5 x1 x4 _ _ _ H)
set_option maxRecDepth 40000 in
set_option maxHeartbeats 8000000 in
theorem sp_MO_contextOf {G : jG} {σ τ : jMem} {r : Int32} (x1 x2 x3 x4 : Int32) (H : f_MO_contextOf x1 x2 x3 x4 σ = some (r, τ)) : jSp G M_MO_contextOf (jr 3 0 0) [.ref 38, .int x1, .int x2, .int x3, .int x4] σ (jI fun r9 τ9 => r9 = r ∧ τ9 = τ) := by
  refine jSp.of rfl rfl (Nat.le_of_ble_eq_true rfl) ?_
  show jV _ _ _ _ 0 0 0 [(0, .ref 38), (1, .int x1), (2, .int x2), (3, .int x3), (4, .int x4)] [] σ
  unfold f_MO_contextOf at H
  refine jv_iload_n 2 (pc := 0) d_MO_contextOf_0 rfl ?_
  refine jv_iconst 1 (pc := 1) d_MO_contextOf_1 rfl ?_
  refine jv_icmp_ne 50 (pc := 2) d_MO_contextOf_2 rfl (fun h2 => ?_) (fun h2 => ?_)
  · have h2 : ¬ (x2 = (1 : Int32)) := h2
    have H := (if_neg h2).symm.trans H
    refine jv_iload_n 2 (pc := 50) d_MO_contextOf_50 rfl ?_
    refine jv_iconst 2 (pc := 51) d_MO_contextOf_51 rfl ?_
    refine jv_icmp_ne 104 (pc := 52) d_MO_contextOf_52 rfl (fun h52 => ?_) (fun h52 => ?_)
    · have h52 : ¬ (x2 = (2 : Int32)) := h52
      have H := (if_neg h52).symm.trans H
      refine jv_sipush (9216) (pc := 104) d_MO_contextOf_104 rfl ?_
      refine jv_aload_n 0 (pc := 107) d_MO_contextOf_107 rfl ?_
      refine jv_aload_n 0 (pc := 108) d_MO_contextOf_108 rfl ?_
      refine jv_iconst 0 (pc := 109) d_MO_contextOf_109 rfl ?_
      refine jv_iload_n 1 (pc := 110) d_MO_contextOf_110 rfl ?_
      refine jv_iload 4 (pc := 111) d_MO_contextOf_111 rfl ?_
      refine jv_iconst 1 (pc := 113) d_MO_contextOf_113 rfl ?_
      refine jv_isub (pc := 114) d_MO_contextOf_114 ?_
      refine jv_iload_n 3 (pc := 115) d_MO_contextOf_115 rfl ?_
      refine jv_iconst 3 (pc := 116) d_MO_contextOf_116 rfl ?_
      refine jv_isub (pc := 117) d_MO_contextOf_117 ?_
      refine jv_iload_n 3 (pc := 118) d_MO_contextOf_118 rfl ?_
      refine jv_iconst 2 (pc := 119) d_MO_contextOf_119 rfl ?_
      refine jv_iadd (pc := 120) d_MO_contextOf_120 ?_
      obtain ⟨v121, n121, c121, H⟩ := jbd_some H
      refine jv_callVi (sp_MO_around (0 : Int32) x1 (x4 - (1 : Int32)) (x3 - (3 : Int32)) (x3 + (2 : Int32)) c121) (pc := 121) d_MO_contextOf_121 c0_MO_around lk_MO_180 in_MO_around se_MO_around (by decide) rfl rfl rfl (Nat.le_of_ble_eq_true rfl) ⟨by decide, by decide, by decide, by decide⟩ (fun r121 m121 h121 => ?_)
      obtain ⟨ha121, hb121⟩ := h121
      have ha121 := ha121.symm
      subst ha121
      have hb121 := hb121.symm
      subst hb121
      refine jv_iload_n 1 (pc := 124) d_MO_contextOf_124 rfl ?_
      refine jv_iload 4 (pc := 125) d_MO_contextOf_125 rfl ?_
      refine jv_iload_n 3 (pc := 127) d_MO_contextOf_127 rfl ?_
      refine jv_iconst 4 (pc := 128) d_MO_contextOf_128 rfl ?_
      refine jv_isub (pc := 129) d_MO_contextOf_129 ?_
      refine jv_iload_n 3 (pc := 130) d_MO_contextOf_130 rfl ?_
      refine jv_iconst 1 (pc := 131) d_MO_contextOf_131 rfl ?_
      refine jv_isub (pc := 132) d_MO_contextOf_132 ?_
      obtain ⟨v133, n133, c133, H⟩ := jbd_some H
      refine jv_callVi (sp_MO_around v121 x1 x4 (x3 - (4 : Int32)) (x3 - (1 : Int32)) c133) (pc := 133) d_MO_contextOf_133 c0_MO_around lk_MO_180 in_MO_around se_MO_around (by decide) rfl rfl rfl (Nat.le_of_ble_eq_true rfl) ⟨by decide, by decide, by decide, by decide⟩ (fun r133 m133 h133 => ?_)
      obtain ⟨ha133, hb133⟩ := h133
      have ha133 := ha133.symm
      subst ha133
      have hb133 := hb133.symm
      subst hb133
      refine jv_iadd (pc := 136) d_MO_contextOf_136 ?_
      refine jv_iret (pc := 137) d_MO_contextOf_137 rfl rfl (Nat.zero_le _) (Nat.zero_le _) ?_
      cases H
      exact jI.of ⟨rfl, rfl⟩
    · have h52 : x2 = (2 : Int32) := h52
      have H := (if_pos h52).symm.trans H
      refine jv_sipush (8192) (pc := 55) d_MO_contextOf_55 rfl ?_
      refine jv_aload_n 0 (pc := 58) d_MO_contextOf_58 rfl ?_
      refine jv_aload_n 0 (pc := 59) d_MO_contextOf_59 rfl ?_
      refine jv_aload_n 0 (pc := 60) d_MO_contextOf_60 rfl ?_
      refine jv_iconst 0 (pc := 61) d_MO_contextOf_61 rfl ?_
      refine jv_iload_n 1 (pc := 62) d_MO_contextOf_62 rfl ?_
      refine jv_iload 4 (pc := 63) d_MO_contextOf_63 rfl ?_
      refine jv_iconst 2 (pc := 65) d_MO_contextOf_65 rfl ?_
      refine jv_isub (pc := 66) d_MO_contextOf_66 ?_
      refine jv_iload_n 3 (pc := 67) d_MO_contextOf_67 rfl ?_
      refine jv_iconst 1 (pc := 68) d_MO_contextOf_68 rfl ?_
      refine jv_isub (pc := 69) d_MO_contextOf_69 ?_
      refine jv_iload_n 3 (pc := 70) d_MO_contextOf_70 rfl ?_
      refine jv_iconst 1 (pc := 71) d_MO_contextOf_71 rfl ?_
      refine jv_iadd (pc := 72) d_MO_contextOf_72 ?_
      obtain ⟨v73, n73, c73, H⟩ := jbd_some H
      refine jv_callVi (sp_MO_around (0 : Int32) x1 (x4 - (2 : Int32)) (x3 - (1 : Int32)) (x3 + (1 : Int32)) c73) (pc := 73) d_MO_contextOf_73 c0_MO_around lk_MO_180 in_MO_around se_MO_around (by decide) rfl rfl rfl (Nat.le_of_ble_eq_true rfl) ⟨by decide, by decide, by decide, by decide⟩ (fun r73 m73 h73 => ?_)
      obtain ⟨ha73, hb73⟩ := h73
      have ha73 := ha73.symm
      subst ha73
      have hb73 := hb73.symm
      subst hb73
      refine jv_iload_n 1 (pc := 76) d_MO_contextOf_76 rfl ?_
      refine jv_iload 4 (pc := 77) d_MO_contextOf_77 rfl ?_
      refine jv_iconst 1 (pc := 79) d_MO_contextOf_79 rfl ?_
      refine jv_isub (pc := 80) d_MO_contextOf_80 ?_
      refine jv_iload_n 3 (pc := 81) d_MO_contextOf_81 rfl ?_
      refine jv_iconst 2 (pc := 82) d_MO_contextOf_82 rfl ?_
      refine jv_isub (pc := 83) d_MO_contextOf_83 ?_
      refine jv_iload_n 3 (pc := 84) d_MO_contextOf_84 rfl ?_
      refine jv_iconst 2 (pc := 85) d_MO_contextOf_85 rfl ?_
      refine jv_iadd (pc := 86) d_MO_contextOf_86 ?_
      obtain ⟨v87, n87, c87, H⟩ := jbd_some H
      refine jv_callVi (sp_MO_around v73 x1 (x4 - (1 : Int32)) (x3 - (2 : Int32)) (x3 + (2 : Int32)) c87) (pc := 87) d_MO_contextOf_87 c0_MO_around lk_MO_180 in_MO_around se_MO_around (by decide) rfl rfl rfl (Nat.le_of_ble_eq_true rfl) ⟨by decide, by decide, by decide, by decide⟩ (fun r87 m87 h87 => ?_)
      obtain ⟨ha87, hb87⟩ := h87
      have ha87 := ha87.symm
      subst ha87
      have hb87 := hb87.symm
      subst hb87
      refine jv_iload_n 1 (pc := 90) d_MO_contextOf_90 rfl ?_
      refine jv_iload 4 (pc := 91) d_MO_contextOf_91 rfl ?_
      refine jv_iload_n 3 (pc := 93) d_MO_contextOf_93 rfl ?_
      refine jv_iconst 2 (pc := 94) d_MO_contextOf_94 rfl ?_
      refine jv_isub (pc := 95) d_MO_contextOf_95 ?_
      refine jv_iload_n 3 (pc := 96) d_MO_contextOf_96 rfl ?_
      refine jv_iconst 1 (pc := 97) d_MO_contextOf_97 rfl ?_
      refine jv_isub (pc := 98) d_MO_contextOf_98 ?_
      obtain ⟨v99, n99, c99, H⟩ := jbd_some H
      refine jv_callVi (sp_MO_around v87 x1 x4 (x3 - (2 : Int32)) (x3 - (1 : Int32)) c99) (pc := 99) d_MO_contextOf_99 c0_MO_around lk_MO_180 in_MO_around se_MO_around (by decide) rfl rfl rfl (Nat.le_of_ble_eq_true rfl) ⟨by decide, by decide, by decide, by decide⟩ (fun r99 m99 h99 => ?_)
      obtain ⟨ha99, hb99⟩ := h99
      have ha99 := ha99.symm
      subst ha99
      have hb99 := hb99.symm
      subst hb99
      refine jv_iadd (pc := 102) d_MO_contextOf_102 ?_
      refine jv_iret (pc := 103) d_MO_contextOf_103 rfl rfl (Nat.zero_le _) (Nat.zero_le _) ?_
      cases H
      exact jI.of ⟨rfl, rfl⟩
  · have h2 : x2 = (1 : Int32) := h2
    have H := (if_pos h2).symm.trans H
    refine jv_aload_n 0 (pc := 5) d_MO_contextOf_5 rfl ?_
    refine jv_aload_n 0 (pc := 6) d_MO_contextOf_6 rfl ?_
    refine jv_aload_n 0 (pc := 7) d_MO_contextOf_7 rfl ?_
    refine jv_iconst 0 (pc := 8) d_MO_contextOf_8 rfl ?_
    refine jv_iload_n 1 (pc := 9) d_MO_contextOf_9 rfl ?_
    refine jv_iload 4 (pc := 10) d_MO_contextOf_10 rfl ?_
    refine jv_iconst 2 (pc := 12) d_MO_contextOf_12 rfl ?_
    refine jv_isub (pc := 13) d_MO_contextOf_13 ?_
    refine jv_iload_n 3 (pc := 14) d_MO_contextOf_14 rfl ?_
    refine jv_iconst 1 (pc := 15) d_MO_contextOf_15 rfl ?_
    refine jv_isub (pc := 16) d_MO_contextOf_16 ?_
    refine jv_iload_n 3 (pc := 17) d_MO_contextOf_17 rfl ?_
    refine jv_iconst 2 (pc := 18) d_MO_contextOf_18 rfl ?_
    refine jv_iadd (pc := 19) d_MO_contextOf_19 ?_
    obtain ⟨v20, n20, c20, H⟩ := jbd_some H
    refine jv_callVi (sp_MO_around (0 : Int32) x1 (x4 - (2 : Int32)) (x3 - (1 : Int32)) (x3 + (2 : Int32)) c20) (pc := 20) d_MO_contextOf_20 c0_MO_around lk_MO_180 in_MO_around se_MO_around (by decide) rfl rfl rfl (Nat.le_of_ble_eq_true rfl) ⟨by decide, by decide, by decide, by decide⟩ (fun r20 m20 h20 => ?_)
    obtain ⟨ha20, hb20⟩ := h20
    have ha20 := ha20.symm
    subst ha20
    have hb20 := hb20.symm
    subst hb20
    refine jv_iload_n 1 (pc := 23) d_MO_contextOf_23 rfl ?_
    refine jv_iload 4 (pc := 24) d_MO_contextOf_24 rfl ?_
    refine jv_iconst 1 (pc := 26) d_MO_contextOf_26 rfl ?_
    refine jv_isub (pc := 27) d_MO_contextOf_27 ?_
    refine jv_iload_n 3 (pc := 28) d_MO_contextOf_28 rfl ?_
    refine jv_iconst 2 (pc := 29) d_MO_contextOf_29 rfl ?_
    refine jv_isub (pc := 30) d_MO_contextOf_30 ?_
    refine jv_iload_n 3 (pc := 31) d_MO_contextOf_31 rfl ?_
    refine jv_iconst 3 (pc := 32) d_MO_contextOf_32 rfl ?_
    refine jv_iadd (pc := 33) d_MO_contextOf_33 ?_
    obtain ⟨v34, n34, c34, H⟩ := jbd_some H
    refine jv_callVi (sp_MO_around v20 x1 (x4 - (1 : Int32)) (x3 - (2 : Int32)) (x3 + (3 : Int32)) c34) (pc := 34) d_MO_contextOf_34 c0_MO_around lk_MO_180 in_MO_around se_MO_around (by decide) rfl rfl rfl (Nat.le_of_ble_eq_true rfl) ⟨by decide, by decide, by decide, by decide⟩ (fun r34 m34 h34 => ?_)
    obtain ⟨ha34, hb34⟩ := h34
    have ha34 := ha34.symm
    subst ha34
    have hb34 := hb34.symm
    subst hb34
    refine jv_iload_n 1 (pc := 37) d_MO_contextOf_37 rfl ?_
    refine jv_iload 4 (pc := 38) d_MO_contextOf_38 rfl ?_
    refine jv_iload_n 3 (pc := 40) d_MO_contextOf_40 rfl ?_
    refine jv_iconst 3 (pc := 41) d_MO_contextOf_41 rfl ?_
    refine jv_isub (pc := 42) d_MO_contextOf_42 ?_
    refine jv_iload_n 3 (pc := 43) d_MO_contextOf_43 rfl ?_
    refine jv_iconst 1 (pc := 44) d_MO_contextOf_44 rfl ?_
    refine jv_isub (pc := 45) d_MO_contextOf_45 ?_
    obtain ⟨v46, n46, c46, H⟩ := jbd_some H
    refine jv_callVi (sp_MO_around v34 x1 x4 (x3 - (3 : Int32)) (x3 - (1 : Int32)) c46) (pc := 46) d_MO_contextOf_46 c0_MO_around lk_MO_180 in_MO_around se_MO_around (by decide) rfl rfl rfl (Nat.le_of_ble_eq_true rfl) ⟨by decide, by decide, by decide, by decide⟩ (fun r46 m46 h46 => ?_)
    obtain ⟨ha46, hb46⟩ := h46
    have ha46 := ha46.symm
    subst ha46
    have hb46 := hb46.symm
    subst hb46
    refine jv_iret (pc := 49) d_MO_contextOf_49 rfl rfl (Nat.zero_le _) (Nat.zero_le _) ?_
    cases H
    exact jI.of ⟨rfl, rfl⟩
set_option maxRecDepth 40000 in
set_option maxHeartbeats 8000000 in
theorem lp_MO_isAsAbove_5 {G : jG} : ∀ (n : Nat) (x1 x2 x3 x4 : Int32) (σ τ : jMem) (r : Int32), f_MO_isAsAbove_L5 n x1 x2 x3 x4 σ = some (r, τ) → jV G M_MO_isAsAbove (jr 2 0 0) (jI fun r9 τ9 => r9 = r ∧ τ9 = τ) 0 0 5 [(0, .ref 38), (1, .int x1), (2, .int x2), (3, .int x3), (4, .int x4)] [] σ := by
  intro n
  induction n with
  | zero =>
    intro x1 x2 x3 x4 σ τ r H
    cases H
  | succ n ih =>
    intro x1 x2 x3 x4 σ τ r H
    rw [f_MO_isAsAbove_L5.eq_2] at H
    refine jv_iload 4 (pc := 5) d_MO_isAsAbove_5 rfl ?_
    refine jv_aload_n 0 (pc := 7) d_MO_isAsAbove_7 rfl ?_
    refine jv_getr (pc := 8) d_MO_isAsAbove_8 fa_MO_13_MO (by decide) rfl rfl ?_
    refine jv_iload_n 1 (pc := 11) d_MO_isAsAbove_11 rfl ?_
    obtain ⟨b12, H⟩ := jck_some H
    refine jv_iald (pc := 12) d_MO_isAsAbove_12 (by decide) rfl b12 ?_
    refine jv_icmp_ge 53 (pc := 13) d_MO_isAsAbove_13 rfl (fun h13 => ?_) (fun h13 => ?_)
    · have h13 : (σ 40 x1.toNatClampNeg) ≤ x4 := h13
      have H := (if_pos h13).symm.trans H
      refine jv_iload_n 3 (pc := 53) d_MO_isAsAbove_53 rfl ?_
      obtain ⟨b54, H⟩ := jck_some H
      refine jv_iret (pc := 54) d_MO_isAsAbove_54 rfl (jnb b54) (Nat.zero_le _) (Nat.zero_le _) ?_
      cases H
      exact jI.of ⟨rfl, rfl⟩
    · have h13 : ¬ ((σ 40 x1.toNatClampNeg) ≤ x4) := h13
      have H := (if_neg h13).symm.trans H
      refine jv_iload_n 3 (pc := 16) d_MO_isAsAbove_16 rfl ?_
      refine jv_if_eq 45 (pc := 17) d_MO_isAsAbove_17 rfl (fun h17 => ?_) (fun h17 => ?_)
      · have h17 : x3 = 0 := h17
        have H := (if_pos h17).symm.trans H
        refine jv_iconst 0 (pc := 45) d_MO_isAsAbove_45 rfl ?_
        refine jv_istore_n (pc := 46) d_MO_isAsAbove_46 rfl (by decide) (jst3 rfl) ?_
        refine jv_iinc 4 _ (pc := 47) d_MO_isAsAbove_47 rfl (jinc1 _) (by decide) (jst4 rfl) ?_
        refine jv_goto 5 (pc := 50) d_MO_isAsAbove_50 rfl ?_
        exact jv_sub [0, 1, 2, 3, 4] rfl (ih x1 x2 (0 : Int32) (x4 + 1) _ _ _ H)
      · have h17 : ¬ (x3 = 0) := h17
        have H := (if_neg h17).symm.trans H
        refine jv_aload_n 0 (pc := 20) d_MO_isAsAbove_20 rfl ?_
        refine jv_iload_n 1 (pc := 21) d_MO_isAsAbove_21 rfl ?_
        refine jv_iload 4 (pc := 22) d_MO_isAsAbove_22 rfl ?_
        refine jv_iload_n 2 (pc := 24) d_MO_isAsAbove_24 rfl ?_
        obtain ⟨v25, n25, c25, H⟩ := jbd_some H
        refine jv_callVi (sp_MO_at x1 x4 x2 c25) (pc := 25) d_MO_isAsAbove_25 c0_MO_at lk_MO_50 in_MO_at se_MO_at (by decide) rfl rfl rfl (Nat.le_of_ble_eq_true rfl) ⟨by decide, by decide, by decide, by decide⟩ (fun r25 m25 h25 => ?_)
        obtain ⟨ha25, hb25⟩ := h25
        have ha25 := ha25.symm
        subst ha25
        have hb25 := hb25.symm
        subst hb25
        refine jv_aload_n 0 (pc := 28) d_MO_isAsAbove_28 rfl ?_
        refine jv_iload_n 1 (pc := 29) d_MO_isAsAbove_29 rfl ?_
        refine jv_iload 4 (pc := 30) d_MO_isAsAbove_30 rfl ?_
        refine jv_iload_n 2 (pc := 32) d_MO_isAsAbove_32 rfl ?_
        refine jv_iconst 1 (pc := 33) d_MO_isAsAbove_33 rfl ?_
        refine jv_isub (pc := 34) d_MO_isAsAbove_34 ?_
        obtain ⟨v35, n35, c35, H⟩ := jbd_some H
        refine jv_callVi (sp_MO_at x1 x4 (x2 - (1 : Int32)) c35) (pc := 35) d_MO_isAsAbove_35 c0_MO_at lk_MO_50 in_MO_at se_MO_at (by decide) rfl rfl rfl (Nat.le_of_ble_eq_true rfl) ⟨by decide, by decide, by decide, by decide⟩ (fun r35 m35 h35 => ?_)
        obtain ⟨ha35, hb35⟩ := h35
        have ha35 := ha35.symm
        subst ha35
        have hb35 := hb35.symm
        subst hb35
        refine jv_icmp_ne 45 (pc := 38) d_MO_isAsAbove_38 rfl (fun h38 => ?_) (fun h38 => ?_)
        · have h38 : ¬ (v25 = v35) := h38
          have H := (if_neg h38).symm.trans H
          refine jv_iconst 0 (pc := 45) d_MO_isAsAbove_45 rfl ?_
          refine jv_istore_n (pc := 46) d_MO_isAsAbove_46 rfl (by decide) (jst3 rfl) ?_
          refine jv_iinc 4 _ (pc := 47) d_MO_isAsAbove_47 rfl (jinc1 _) (by decide) (jst4 rfl) ?_
          refine jv_goto 5 (pc := 50) d_MO_isAsAbove_50 rfl ?_
          exact jv_sub [0, 1, 2, 3, 4] rfl (ih x1 x2 (0 : Int32) (x4 + 1) _ _ _ H)
        · have h38 : v25 = v35 := h38
          have H := (if_pos h38).symm.trans H
          refine jv_iconst 1 (pc := 41) d_MO_isAsAbove_41 rfl ?_
          refine jv_goto 46 (pc := 42) d_MO_isAsAbove_42 rfl ?_
          refine jv_istore_n (pc := 46) d_MO_isAsAbove_46 rfl (by decide) (jst3 rfl) ?_
          refine jv_iinc 4 _ (pc := 47) d_MO_isAsAbove_47 rfl (jinc1 _) (by decide) (jst4 rfl) ?_
          refine jv_goto 5 (pc := 50) d_MO_isAsAbove_50 rfl ?_
          exact jv_sub [0, 1, 2, 3, 4] rfl (ih x1 x2 (1 : Int32) (x4 + 1) _ _ _ H)
set_option maxRecDepth 40000 in
set_option maxHeartbeats 8000000 in
theorem sp_MO_isAsAbove {G : jG} {σ τ : jMem} {r : Int32} (x1 x2 : Int32) (H : f_MO_isAsAbove x1 x2 σ = some (r, τ)) : jSp G M_MO_isAsAbove (jr 2 0 0) [.ref 38, .int x1, .int x2] σ (jI fun r9 τ9 => r9 = r ∧ τ9 = τ) := by
  refine jSp.of rfl rfl (Nat.le_of_ble_eq_true rfl) ?_
  show jV _ _ _ _ 0 0 0 [(0, .ref 38), (1, .int x1), (2, .int x2)] [] σ
  unfold f_MO_isAsAbove at H
  refine jv_iconst 1 (pc := 0) d_MO_isAsAbove_0 rfl ?_
  refine jv_istore_n (pc := 1) d_MO_isAsAbove_1 rfl (by decide) (jsto_new rfl) ?_
  refine jv_iconst 0 (pc := 2) d_MO_isAsAbove_2 rfl ?_
  refine jv_istore (pc := 3) d_MO_isAsAbove_3 (by decide) (jsto_new rfl) ?_
  exact jv_sub [2, 3, 4, 1, 0] rfl (lp_MO_isAsAbove_5  _ x1 x2 (1 : Int32) (0 : Int32) _ _ _ H)
set_option maxRecDepth 40000 in
set_option maxHeartbeats 8000000 in
theorem lp_MO_codeRegion_63 {G : jG} {R : Room} {Q : jO → jMem → Prop} (hR : 5 ≤ R.frames ∧ 40 * 5 ≤ R.locals) : ∀ (n : Nat) (x1 x2 x3 x4 x5 x6 x7 y1 y2 y3 y4 y5 y6 y7 : Int32) (σ τ : jMem), f_MO_codeRegion_L63 n x1 x2 x3 x4 x5 x6 x7 σ = some ((y1, y2, y3, y4, y5, y6, y7), τ) → jV G M_MO_codeRegion R Q 0 0 132 [(0, .ref 38), (1, .int y1), (2, .int y2), (3, .int y3), (4, .int y4), (5, .int y5), (6, .int y6), (7, .int y7)] [] τ → jV G M_MO_codeRegion R Q 0 0 63 [(0, .ref 38), (1, .int x1), (2, .int x2), (3, .int x3), (4, .int x4), (5, .int x5), (6, .int x6), (7, .int x7)] [] σ := by
  intro n
  induction n with
  | zero =>
    intro x1 x2 x3 x4 x5 x6 x7 y1 y2 y3 y4 y5 y6 y7 σ τ H K
    cases H
  | succ n ih =>
    intro x1 x2 x3 x4 x5 x6 x7 y1 y2 y3 y4 y5 y6 y7 σ τ H K
    rw [f_MO_codeRegion_L63.eq_2] at H
    refine jv_iload 7 (pc := 63) d_MO_codeRegion_63 rfl ?_
    refine jv_aload_n 0 (pc := 65) d_MO_codeRegion_65 rfl ?_
    refine jv_getr (pc := 66) d_MO_codeRegion_66 fa_MO_13_MO (by decide) rfl rfl ?_
    refine jv_iload_n 1 (pc := 69) d_MO_codeRegion_69 rfl ?_
    obtain ⟨b70, H⟩ := jck_some H
    refine jv_iald (pc := 70) d_MO_codeRegion_70 (by decide) rfl b70 ?_
    refine jv_icmp_ge 132 (pc := 71) d_MO_codeRegion_71 rfl (fun h71 => ?_) (fun h71 => ?_)
    · have h71 : (σ 40 x1.toNatClampNeg) ≤ x7 := h71
      have H := (if_pos h71).symm.trans H
      cases H
      exact jv_sub [0, 1, 2, 3, 4, 5, 6, 7] rfl K
    · have h71 : ¬ ((σ 40 x1.toNatClampNeg) ≤ x7) := h71
      have H := (if_neg h71).symm.trans H
      refine jv_aload_n 0 (pc := 74) d_MO_codeRegion_74 rfl ?_
      refine jv_iload_n 1 (pc := 75) d_MO_codeRegion_75 rfl ?_
      refine jv_iload 7 (pc := 76) d_MO_codeRegion_76 rfl ?_
      refine jv_iload 5 (pc := 78) d_MO_codeRegion_78 rfl ?_
      refine jv_iload 6 (pc := 80) d_MO_codeRegion_80 rfl ?_
      refine jv_iconst 1 (pc := 82) d_MO_codeRegion_82 rfl ?_
      refine jv_icmp_ne 100 (pc := 83) d_MO_codeRegion_83 rfl (fun h83 => ?_) (fun h83 => ?_)
      · have h83 : ¬ (x6 = (1 : Int32)) := h83
        have H := (if_neg h83).symm.trans H
        refine jv_aload_n 0 (pc := 100) d_MO_codeRegion_100 rfl ?_
        refine jv_aload_n 0 (pc := 101) d_MO_codeRegion_101 rfl ?_
        refine jv_iload_n 1 (pc := 102) d_MO_codeRegion_102 rfl ?_
        refine jv_iload_n 2 (pc := 103) d_MO_codeRegion_103 rfl ?_
        refine jv_iload 7 (pc := 104) d_MO_codeRegion_104 rfl ?_
        refine jv_iload 5 (pc := 106) d_MO_codeRegion_106 rfl ?_
        obtain ⟨v108, n108, c108, H⟩ := jbd_some H
        refine jv_callVi (sp_MO_contextOf x1 x2 x7 x5 c108) (pc := 108) d_MO_codeRegion_108 c0_MO_contextOf lk_MO_192 in_MO_contextOf se_MO_contextOf (by decide) rfl rfl rfl (Nat.le_of_ble_eq_true rfl) ⟨Nat.le_trans (Nat.le_of_ble_eq_true rfl : _ ≤ 5) hR.1, Nat.le_trans (Nat.le_of_ble_eq_true rfl : _ ≤ 40 * 5) hR.2, Nat.zero_le _, Nat.zero_le _⟩ (fun r108 m108 h108 => ?_)
        obtain ⟨ha108, hb108⟩ := h108
        have ha108 := ha108.symm
        subst ha108
        have hb108 := hb108.symm
        subst hb108
        refine jv_aload_n 0 (pc := 111) d_MO_codeRegion_111 rfl ?_
        refine jv_iload_n 1 (pc := 112) d_MO_codeRegion_112 rfl ?_
        refine jv_iload 7 (pc := 113) d_MO_codeRegion_113 rfl ?_
        refine jv_iload 5 (pc := 115) d_MO_codeRegion_115 rfl ?_
        obtain ⟨v117, n117, c117, H⟩ := jbd_some H
        refine jv_callVi (sp_MO_at x1 x7 x5 c117) (pc := 117) d_MO_codeRegion_117 c0_MO_at lk_MO_50 in_MO_at se_MO_at (by decide) rfl rfl rfl (Nat.le_of_ble_eq_true rfl) ⟨Nat.le_trans (Nat.le_of_ble_eq_true rfl : _ ≤ 5) hR.1, Nat.le_trans (Nat.le_of_ble_eq_true rfl : _ ≤ 40 * 5) hR.2, Nat.zero_le _, Nat.zero_le _⟩ (fun r117 m117 h117 => ?_)
        obtain ⟨ha117, hb117⟩ := h117
        have ha117 := ha117.symm
        subst ha117
        have hb117 := hb117.symm
        subst hb117
        obtain ⟨v120, n120, c120, H⟩ := jbd_some H
        refine jv_callVi (sp_MO_decide v108 v117 c120) (pc := 120) d_MO_codeRegion_120 c0_MO_decide lk_MO_188 in_MO_decide se_MO_decide (by decide) rfl rfl rfl (Nat.le_of_ble_eq_true rfl) ⟨Nat.le_trans (Nat.le_of_ble_eq_true rfl : _ ≤ 5) hR.1, Nat.le_trans (Nat.le_of_ble_eq_true rfl : _ ≤ 40 * 5) hR.2, Nat.zero_le _, Nat.zero_le _⟩ (fun r120 m120 h120 => ?_)
        obtain ⟨ha120, hb120⟩ := h120
        have ha120 := ha120.symm
        subst ha120
        have hb120 := hb120.symm
        subst hb120
        obtain ⟨_, n123, c123, H⟩ := jbd_some H
        refine jv_callVv (sp_MO_ink x1 x7 x5 v120 c123) (pc := 123) d_MO_codeRegion_123 c0_MO_ink lk_MO_54 in_MO_ink se_MO_ink (by decide) rfl rfl rfl (Nat.le_of_ble_eq_true rfl) ⟨Nat.le_trans (Nat.le_of_ble_eq_true rfl : _ ≤ 5) hR.1, Nat.le_trans (Nat.le_of_ble_eq_true rfl : _ ≤ 40 * 5) hR.2, Nat.zero_le _, Nat.zero_le _⟩ (fun m123 h123 => ?_)
        have hb123 := h123
        have hb123 := hb123.symm
        subst hb123
        refine jv_iinc 7 _ (pc := 126) d_MO_codeRegion_126 rfl (jinc1 _) (by decide) (jst7 rfl) ?_
        refine jv_goto 63 (pc := 129) d_MO_codeRegion_129 rfl ?_
        exact jv_sub [0, 1, 2, 3, 4, 5, 6, 7] rfl (ih x1 x2 x3 x4 x5 x6 (x7 + 1) _ _ _ _ _ _ _ _ _ H K)
      · have h83 : x6 = (1 : Int32) := h83
        have H := (if_pos h83).symm.trans H
        refine jv_aload_n 0 (pc := 86) d_MO_codeRegion_86 rfl ?_
        refine jv_iload_n 1 (pc := 87) d_MO_codeRegion_87 rfl ?_
        refine jv_iload 7 (pc := 88) d_MO_codeRegion_88 rfl ?_
        refine jv_iload 5 (pc := 90) d_MO_codeRegion_90 rfl ?_
        refine jv_iconst 1 (pc := 92) d_MO_codeRegion_92 rfl ?_
        refine jv_isub (pc := 93) d_MO_codeRegion_93 ?_
        obtain ⟨v94, n94, c94, H⟩ := jbd_some H
        refine jv_callVi (sp_MO_at x1 x7 (x5 - (1 : Int32)) c94) (pc := 94) d_MO_codeRegion_94 c0_MO_at lk_MO_50 in_MO_at se_MO_at (by decide) rfl rfl rfl (Nat.le_of_ble_eq_true rfl) ⟨Nat.le_trans (Nat.le_of_ble_eq_true rfl : _ ≤ 5) hR.1, Nat.le_trans (Nat.le_of_ble_eq_true rfl : _ ≤ 40 * 5) hR.2, Nat.zero_le _, Nat.zero_le _⟩ (fun r94 m94 h94 => ?_)
        obtain ⟨ha94, hb94⟩ := h94
        have ha94 := ha94.symm
        subst ha94
        have hb94 := hb94.symm
        subst hb94
        refine jv_goto 123 (pc := 97) d_MO_codeRegion_97 rfl ?_
        obtain ⟨_, n123, c123, H⟩ := jbd_some H
        refine jv_callVv (sp_MO_ink x1 x7 x5 v94 c123) (pc := 123) d_MO_codeRegion_123 c0_MO_ink lk_MO_54 in_MO_ink se_MO_ink (by decide) rfl rfl rfl (Nat.le_of_ble_eq_true rfl) ⟨Nat.le_trans (Nat.le_of_ble_eq_true rfl : _ ≤ 5) hR.1, Nat.le_trans (Nat.le_of_ble_eq_true rfl : _ ≤ 40 * 5) hR.2, Nat.zero_le _, Nat.zero_le _⟩ (fun m123 h123 => ?_)
        have hb123 := h123
        have hb123 := hb123.symm
        subst hb123
        refine jv_iinc 7 _ (pc := 126) d_MO_codeRegion_126 rfl (jinc1 _) (by decide) (jst7 rfl) ?_
        refine jv_goto 63 (pc := 129) d_MO_codeRegion_129 rfl ?_
        exact jv_sub [0, 1, 2, 3, 4, 5, 6, 7] rfl (ih x1 x2 x3 x4 x5 x6 (x7 + 1) _ _ _ _ _ _ _ _ _ H K)
set_option maxRecDepth 40000 in
set_option maxHeartbeats 8000000 in
theorem lp_MO_codeRegion_6 {G : jG} : ∀ (n : Nat) (x1 x2 x3 x4 x5 : Int32) (σ τ : jMem) (r : Int32), f_MO_codeRegion_L6 n x1 x2 x3 x4 x5 σ = some (r, τ) → jV G M_MO_codeRegion (jr 5 0 0) (jI fun r9 τ9 => r9 = r ∧ τ9 = τ) 0 0 6 [(0, .ref 38), (1, .int x1), (2, .int x2), (3, .int x3), (4, .int x4), (5, .int x5)] [] σ := by
  intro n
  induction n with
  | zero =>
    intro x1 x2 x3 x4 x5 σ τ r H
    cases H
  | succ n ih =>
    intro x1 x2 x3 x4 x5 σ τ r H
    rw [f_MO_codeRegion_L6.eq_2] at H
    refine jv_iload 5 (pc := 6) d_MO_codeRegion_6 rfl ?_
    refine jv_aload_n 0 (pc := 8) d_MO_codeRegion_8 rfl ?_
    refine jv_getr (pc := 9) d_MO_codeRegion_9 fa_MO_16_MO (by decide) rfl rfl ?_
    refine jv_iload_n 1 (pc := 12) d_MO_codeRegion_12 rfl ?_
    obtain ⟨b13, H⟩ := jck_some H
    refine jv_iald (pc := 13) d_MO_codeRegion_13 (by decide) rfl b13 ?_
    refine jv_icmp_ge 138 (pc := 14) d_MO_codeRegion_14 rfl (fun h14 => ?_) (fun h14 => ?_)
    · have h14 : (σ 41 x1.toNatClampNeg) ≤ x5 := h14
      have H := (if_pos h14).symm.trans H
      refine jv_iload 4 (pc := 138) d_MO_codeRegion_138 rfl ?_
      refine jv_iret (pc := 140) d_MO_codeRegion_140 rfl rfl (Nat.zero_le _) (Nat.zero_le _) ?_
      cases H
      exact jI.of ⟨rfl, rfl⟩
    · have h14 : ¬ ((σ 41 x1.toNatClampNeg) ≤ x5) := h14
      have H := (if_neg h14).symm.trans H
      refine jv_iload_n 3 (pc := 17) d_MO_codeRegion_17 rfl ?_
      refine jv_if_eq 50 (pc := 18) d_MO_codeRegion_18 rfl (fun h18 => ?_) (fun h18 => ?_)
      · have h18 : x3 = 0 := h18
        have H := (if_pos h18).symm.trans H
        refine jv_iconst 0 (pc := 50) d_MO_codeRegion_50 rfl ?_
        refine jv_istore (pc := 51) d_MO_codeRegion_51 (by decide) (jsto_new rfl) ?_
        refine jv_iload 5 (pc := 53) d_MO_codeRegion_53 rfl ?_
        refine jv_iload 0 (pc := 55) d_MO_codeRegion_55 rfl ?_
        refine jv_iadd (pc := 57) d_MO_codeRegion_57 ?_
        refine jv_istore (pc := 58) d_MO_codeRegion_58 (by decide) (jst5 rfl) ?_
        refine jv_iconst 0 (pc := 60) d_MO_codeRegion_60 rfl ?_
        refine jv_istore (pc := 61) d_MO_codeRegion_61 (by decide) (jsto_new rfl) ?_
        obtain ⟨⟨y63_1, y63_2, y63_3, y63_4, y63_5, y63_6, y63_7⟩, m63, c63, H⟩ := jbd_some H
        refine jv_sub [2, 3, 4, 5, 6, 7, 1, 0] rfl (lp_MO_codeRegion_63  ⟨by decide, by decide⟩ _ x1 x2 x3 (x4 + (0 : Int32)) x5 (0 : Int32) (0 : Int32) y63_1 y63_2 y63_3 y63_4 y63_5 y63_6 y63_7 _ _ c63 ?_)
        refine jv_iinc 5 _ (pc := 132) d_MO_codeRegion_132 rfl (jinc1 _) (by decide) (jst5 rfl) ?_
        refine jv_goto 6 (pc := 135) d_MO_codeRegion_135 rfl ?_
        exact jv_sub [0, 1, 2, 3, 4, 5] rfl (ih y63_1 y63_2 y63_3 y63_4 (y63_5 + 1) _ _ _ H)
      · have h18 : ¬ (x3 = 0) := h18
        have H := (if_neg h18).symm.trans H
        refine jv_aload_n 0 (pc := 21) d_MO_codeRegion_21 rfl ?_
        refine jv_sipush (10240) (pc := 22) d_MO_codeRegion_22 rfl ?_
        refine jv_iload_n 2 (pc := 25) d_MO_codeRegion_25 rfl ?_
        refine jv_iadd (pc := 26) d_MO_codeRegion_26 ?_
        refine jv_iconst 1 (pc := 27) d_MO_codeRegion_27 rfl ?_
        refine jv_isub (pc := 28) d_MO_codeRegion_28 ?_
        refine jv_aload_n 0 (pc := 29) d_MO_codeRegion_29 rfl ?_
        refine jv_iload_n 1 (pc := 30) d_MO_codeRegion_30 rfl ?_
        refine jv_iload 5 (pc := 31) d_MO_codeRegion_31 rfl ?_
        obtain ⟨v33, n33, c33, H⟩ := jbd_some H
        refine jv_callVi (sp_MO_isAsAbove x1 x5 c33) (pc := 33) d_MO_codeRegion_33 c0_MO_isAsAbove lk_MO_184 in_MO_isAsAbove se_MO_isAsAbove (by decide) rfl rfl rfl (Nat.le_of_ble_eq_true rfl) ⟨by decide, by decide, by decide, by decide⟩ (fun r33 m33 h33 => ?_)
        obtain ⟨ha33, hb33⟩ := h33
        have ha33 := ha33.symm
        subst ha33
        have hb33 := hb33.symm
        subst hb33
        refine jv_if_eq 43 (pc := 36) d_MO_codeRegion_36 rfl (fun h36 => ?_) (fun h36 => ?_)
        · have h36 : v33 = 0 := h36
          have H := (if_pos h36).symm.trans H
          refine jv_iconst 0 (pc := 43) d_MO_codeRegion_43 rfl ?_
          obtain ⟨v44, n44, c44, H⟩ := jbd_some H
          refine jv_callVi (sp_MO_decide (((10240 : Int32) + x2) - (1 : Int32)) (0 : Int32) c44) (pc := 44) d_MO_codeRegion_44 c0_MO_decide lk_MO_188 in_MO_decide se_MO_decide (by decide) rfl rfl rfl (Nat.le_of_ble_eq_true rfl) ⟨by decide, by decide, by decide, by decide⟩ (fun r44 m44 h44 => ?_)
          obtain ⟨ha44, hb44⟩ := h44
          have ha44 := ha44.symm
          subst ha44
          have hb44 := hb44.symm
          subst hb44
          refine jv_goto 51 (pc := 47) d_MO_codeRegion_47 rfl ?_
          refine jv_istore (pc := 51) d_MO_codeRegion_51 (by decide) (jsto_new rfl) ?_
          refine jv_iload 5 (pc := 53) d_MO_codeRegion_53 rfl ?_
          refine jv_iload 0 (pc := 55) d_MO_codeRegion_55 rfl ?_
          refine jv_iadd (pc := 57) d_MO_codeRegion_57 ?_
          refine jv_istore (pc := 58) d_MO_codeRegion_58 (by decide) (jst5 rfl) ?_
          refine jv_iconst 0 (pc := 60) d_MO_codeRegion_60 rfl ?_
          refine jv_istore (pc := 61) d_MO_codeRegion_61 (by decide) (jsto_new rfl) ?_
          obtain ⟨⟨y63_1, y63_2, y63_3, y63_4, y63_5, y63_6, y63_7⟩, m63, c63, H⟩ := jbd_some H
          refine jv_sub [2, 3, 4, 5, 6, 7, 1, 0] rfl (lp_MO_codeRegion_63  ⟨by decide, by decide⟩ _ x1 x2 x3 (x4 + v44) x5 v44 (0 : Int32) y63_1 y63_2 y63_3 y63_4 y63_5 y63_6 y63_7 _ _ c63 ?_)
          refine jv_iinc 5 _ (pc := 132) d_MO_codeRegion_132 rfl (jinc1 _) (by decide) (jst5 rfl) ?_
          refine jv_goto 6 (pc := 135) d_MO_codeRegion_135 rfl ?_
          exact jv_sub [0, 1, 2, 3, 4, 5] rfl (ih y63_1 y63_2 y63_3 y63_4 (y63_5 + 1) _ _ _ H)
        · have h36 : ¬ (v33 = 0) := h36
          have H := (if_neg h36).symm.trans H
          refine jv_iconst 1 (pc := 39) d_MO_codeRegion_39 rfl ?_
          refine jv_goto 44 (pc := 40) d_MO_codeRegion_40 rfl ?_
          obtain ⟨v44, n44, c44, H⟩ := jbd_some H
          refine jv_callVi (sp_MO_decide (((10240 : Int32) + x2) - (1 : Int32)) (1 : Int32) c44) (pc := 44) d_MO_codeRegion_44 c0_MO_decide lk_MO_188 in_MO_decide se_MO_decide (by decide) rfl rfl rfl (Nat.le_of_ble_eq_true rfl) ⟨by decide, by decide, by decide, by decide⟩ (fun r44 m44 h44 => ?_)
          obtain ⟨ha44, hb44⟩ := h44
          have ha44 := ha44.symm
          subst ha44
          have hb44 := hb44.symm
          subst hb44
          refine jv_goto 51 (pc := 47) d_MO_codeRegion_47 rfl ?_
          refine jv_istore (pc := 51) d_MO_codeRegion_51 (by decide) (jsto_new rfl) ?_
          refine jv_iload 5 (pc := 53) d_MO_codeRegion_53 rfl ?_
          refine jv_iload 0 (pc := 55) d_MO_codeRegion_55 rfl ?_
          refine jv_iadd (pc := 57) d_MO_codeRegion_57 ?_
          refine jv_istore (pc := 58) d_MO_codeRegion_58 (by decide) (jst5 rfl) ?_
          refine jv_iconst 0 (pc := 60) d_MO_codeRegion_60 rfl ?_
          refine jv_istore (pc := 61) d_MO_codeRegion_61 (by decide) (jsto_new rfl) ?_
          obtain ⟨⟨y63_1, y63_2, y63_3, y63_4, y63_5, y63_6, y63_7⟩, m63, c63, H⟩ := jbd_some H
          refine jv_sub [2, 3, 4, 5, 6, 7, 1, 0] rfl (lp_MO_codeRegion_63  ⟨by decide, by decide⟩ _ x1 x2 x3 (x4 + v44) x5 v44 (0 : Int32) y63_1 y63_2 y63_3 y63_4 y63_5 y63_6 y63_7 _ _ c63 ?_)
          refine jv_iinc 5 _ (pc := 132) d_MO_codeRegion_132 rfl (jinc1 _) (by decide) (jst5 rfl) ?_
          refine jv_goto 6 (pc := 135) d_MO_codeRegion_135 rfl ?_
          exact jv_sub [0, 1, 2, 3, 4, 5] rfl (ih y63_1 y63_2 y63_3 y63_4 (y63_5 + 1) _ _ _ H)
set_option maxRecDepth 40000 in
set_option maxHeartbeats 8000000 in
theorem sp_MO_codeRegion {G : jG} {σ τ : jMem} {r : Int32} (x1 x2 x3 : Int32) (H : f_MO_codeRegion x1 x2 x3 σ = some (r, τ)) : jSp G M_MO_codeRegion (jr 5 0 0) [.ref 38, .int x1, .int x2, .int x3] σ (jI fun r9 τ9 => r9 = r ∧ τ9 = τ) := by
  refine jSp.of rfl rfl (Nat.le_of_ble_eq_true rfl) ?_
  show jV _ _ _ _ 0 0 0 [(0, .ref 38), (1, .int x1), (2, .int x2), (3, .int x3)] [] σ
  unfold f_MO_codeRegion at H
  refine jv_iconst 0 (pc := 0) d_MO_codeRegion_0 rfl ?_
  refine jv_istore (pc := 1) d_MO_codeRegion_1 (by decide) (jsto_new rfl) ?_
  refine jv_iconst 0 (pc := 3) d_MO_codeRegion_3 rfl ?_
  refine jv_istore (pc := 4) d_MO_codeRegion_4 (by decide) (jsto_new rfl) ?_
  exact jv_sub [2, 3, 4, 5, 1, 0] rfl (lp_MO_codeRegion_6  _ x1 x2 x3 (0 : Int32) (0 : Int32) _ _ _ H)
set_option maxRecDepth 40000 in
set_option maxHeartbeats 8000000 in
theorem sp_MO_region {G : jG} {σ τ : jMem} {r : Int32} (x1 x2 x3 : Int32) (H : f_MO_region x1 x2 x3 σ = some (r, τ)) : jSp G M_MO_region (jr 6 0 0) [.ref 38, .int x1, .int x2, .int x3] σ (jI fun r9 τ9 => r9 = r ∧ τ9 = τ) := by
  refine jSp.of rfl rfl (Nat.le_of_ble_eq_true rfl) ?_
  show jV _ _ _ _ 0 0 0 [(0, .ref 38), (1, .int x1), (2, .int x2), (3, .int x3)] [] σ
  unfold f_MO_region at H
  refine jv_aload_n 0 (pc := 0) d_MO_region_0 rfl ?_
  refine jv_aload_n 0 (pc := 1) d_MO_region_1 rfl ?_
  refine jv_geti (pc := 2) d_MO_region_2 fa_MO_68_MO (by decide) rfl rfl ?_
  refine jv_if_ne 12 (pc := 5) d_MO_region_5 rfl (fun h5 => ?_) (fun h5 => ?_)
  · have h5 : ¬ ((σ 38 11) = 0) := h5
    have H := (if_neg h5).symm.trans H
    refine jv_iload_n 1 (pc := 12) d_MO_region_12 rfl ?_
    refine jv_callSi (sp_MO_isBoard x1) (pc := 13) d_MO_region_13 c0_MO_isBoard lk_MO_42 si_MO_isBoard rfl (Nat.le_of_ble_eq_true rfl) ⟨by decide, by decide, by decide, by decide⟩ (fun r13 m13 h13 => ?_)
    obtain ⟨ha13, hb13⟩ := h13
    subst ha13
    have hb13 := hb13.symm
    subst hb13
    refine jv_if_ne 23 (pc := 16) d_MO_region_16 rfl (fun h16 => ?_) (fun h16 => ?_)
    · have h16 : ¬ ((f_MO_isBoard x1 σ) = 0) := h16
      have H := (if_neg h16).symm.trans H
      refine jv_iload_n 2 (pc := 23) d_MO_region_23 rfl ?_
      refine jv_iconst 1 (pc := 24) d_MO_region_24 rfl ?_
      refine jv_icmp_lt 33 (pc := 25) d_MO_region_25 rfl (fun h25 => ?_) (fun h25 => ?_)
      · have h25 : x2 < (1 : Int32) := h25
        have H := (if_pos h25).symm.trans H
        refine jv_iconst 3 (pc := 33) d_MO_region_33 rfl ?_
        refine jv_goto 38 (pc := 34) d_MO_region_34 rfl ?_
        refine jv_puti (pc := 38) d_MO_region_38 fa_MO_34_MO fp_MO_0 (by decide) rfl rfl rfl rfl ?_
        refine jv_aload_n 0 (pc := 41) d_MO_region_41 rfl ?_
        refine jv_geti (pc := 42) d_MO_region_42 fa_MO_34_MO (by decide) rfl rfl ?_
        refine jv_if_ne 58 (pc := 45) d_MO_region_45 rfl (fun h45 => ?_) (fun h45 => absurd (show (3 : Int32) = 0 from h45) (by decide))
        refine jv_iconst 0 (pc := 58) d_MO_region_58 rfl ?_
        refine jv_iret (pc := 59) d_MO_region_59 rfl rfl (Nat.zero_le _) (Nat.zero_le _) ?_
        cases H
        exact jI.of ⟨rfl, rfl⟩
      · have h25 : ¬ (x2 < (1 : Int32)) := h25
        have H := (if_neg h25).symm.trans H
        refine jv_iload_n 2 (pc := 28) d_MO_region_28 rfl ?_
        refine jv_iconst 3 (pc := 29) d_MO_region_29 rfl ?_
        refine jv_icmp_le 37 (pc := 30) d_MO_region_30 rfl (fun h30 => ?_) (fun h30 => ?_)
        · have h30 : x2 ≤ (3 : Int32) := h30
          have H := (if_pos h30).symm.trans H
          refine jv_iconst 0 (pc := 37) d_MO_region_37 rfl ?_
          refine jv_puti (pc := 38) d_MO_region_38 fa_MO_34_MO fp_MO_0 (by decide) rfl rfl rfl rfl ?_
          refine jv_aload_n 0 (pc := 41) d_MO_region_41 rfl ?_
          refine jv_geti (pc := 42) d_MO_region_42 fa_MO_34_MO (by decide) rfl rfl ?_
          refine jv_if_ne 58 (pc := 45) d_MO_region_45 rfl (fun h45 => absurd (show (0 : Int32) = 0 by decide) (show ¬ ((0 : Int32) = 0) from h45)) (fun h45 => ?_)
          refine jv_aload_n 0 (pc := 48) d_MO_region_48 rfl ?_
          refine jv_iload_n 1 (pc := 49) d_MO_region_49 rfl ?_
          refine jv_iload_n 2 (pc := 50) d_MO_region_50 rfl ?_
          refine jv_iload_n 3 (pc := 51) d_MO_region_51 rfl ?_
          obtain ⟨v52, n52, c52, H⟩ := jbd_some H
          refine jv_callVi (sp_MO_codeRegion x1 x2 x3 c52) (pc := 52) d_MO_region_52 c0_MO_codeRegion lk_MO_196 in_MO_codeRegion se_MO_codeRegion (by decide) rfl rfl rfl (Nat.le_of_ble_eq_true rfl) ⟨by decide, by decide, by decide, by decide⟩ (fun r52 m52 h52 => ?_)
          obtain ⟨ha52, hb52⟩ := h52
          have ha52 := ha52.symm
          subst ha52
          have hb52 := hb52.symm
          subst hb52
          refine jv_goto 59 (pc := 55) d_MO_region_55 rfl ?_
          refine jv_iret (pc := 59) d_MO_region_59 rfl rfl (Nat.zero_le _) (Nat.zero_le _) ?_
          cases H
          exact jI.of ⟨rfl, rfl⟩
        · have h30 : ¬ (x2 ≤ (3 : Int32)) := h30
          have H := (if_neg h30).symm.trans H
          refine jv_iconst 3 (pc := 33) d_MO_region_33 rfl ?_
          refine jv_goto 38 (pc := 34) d_MO_region_34 rfl ?_
          refine jv_puti (pc := 38) d_MO_region_38 fa_MO_34_MO fp_MO_0 (by decide) rfl rfl rfl rfl ?_
          refine jv_aload_n 0 (pc := 41) d_MO_region_41 rfl ?_
          refine jv_geti (pc := 42) d_MO_region_42 fa_MO_34_MO (by decide) rfl rfl ?_
          refine jv_if_ne 58 (pc := 45) d_MO_region_45 rfl (fun h45 => ?_) (fun h45 => absurd (show (3 : Int32) = 0 from h45) (by decide))
          refine jv_iconst 0 (pc := 58) d_MO_region_58 rfl ?_
          refine jv_iret (pc := 59) d_MO_region_59 rfl rfl (Nat.zero_le _) (Nat.zero_le _) ?_
          cases H
          exact jI.of ⟨rfl, rfl⟩
    · have h16 : (f_MO_isBoard x1 σ) = 0 := h16
      have H := (if_pos h16).symm.trans H
      refine jv_iconst 2 (pc := 19) d_MO_region_19 rfl ?_
      refine jv_goto 38 (pc := 20) d_MO_region_20 rfl ?_
      refine jv_puti (pc := 38) d_MO_region_38 fa_MO_34_MO fp_MO_0 (by decide) rfl rfl rfl rfl ?_
      refine jv_aload_n 0 (pc := 41) d_MO_region_41 rfl ?_
      refine jv_geti (pc := 42) d_MO_region_42 fa_MO_34_MO (by decide) rfl rfl ?_
      refine jv_if_ne 58 (pc := 45) d_MO_region_45 rfl (fun h45 => ?_) (fun h45 => absurd (show (2 : Int32) = 0 from h45) (by decide))
      refine jv_iconst 0 (pc := 58) d_MO_region_58 rfl ?_
      refine jv_iret (pc := 59) d_MO_region_59 rfl rfl (Nat.zero_le _) (Nat.zero_le _) ?_
      cases H
      exact jI.of ⟨rfl, rfl⟩
  · have h5 : (σ 38 11) = 0 := h5
    have H := (if_pos h5).symm.trans H
    refine jv_iconst 1 (pc := 8) d_MO_region_8 rfl ?_
    refine jv_goto 38 (pc := 9) d_MO_region_9 rfl ?_
    refine jv_puti (pc := 38) d_MO_region_38 fa_MO_34_MO fp_MO_0 (by decide) rfl rfl rfl rfl ?_
    refine jv_aload_n 0 (pc := 41) d_MO_region_41 rfl ?_
    refine jv_geti (pc := 42) d_MO_region_42 fa_MO_34_MO (by decide) rfl rfl ?_
    refine jv_if_ne 58 (pc := 45) d_MO_region_45 rfl (fun h45 => ?_) (fun h45 => absurd (show (1 : Int32) = 0 from h45) (by decide))
    refine jv_iconst 0 (pc := 58) d_MO_region_58 rfl ?_
    refine jv_iret (pc := 59) d_MO_region_59 rfl rfl (Nat.zero_le _) (Nat.zero_le _) ?_
    cases H
    exact jI.of ⟨rfl, rfl⟩
set_option maxRecDepth 40000 in
set_option maxHeartbeats 8000000 in
theorem sp_MO_refinedContext {G : jG} {σ τ : jMem} {r : Int32} (x1 x2 x3 x4 x5 x6 : Int32) (H : f_MO_refinedContext x1 x2 x3 x4 x5 x6 σ = some (r, τ)) : jSp G M_MO_refinedContext (jr 3 0 0) [.ref 38, .int x1, .int x2, .int x3, .int x4, .int x5, .int x6] σ (jI fun r9 τ9 => r9 = r ∧ τ9 = τ) := by
  refine jSp.of rfl rfl (Nat.le_of_ble_eq_true rfl) ?_
  show jV _ _ _ _ 0 0 0 [(0, .ref 38), (1, .int x1), (2, .int x2), (3, .int x3), (4, .int x4), (5, .int x5), (6, .int x6)] [] σ
  unfold f_MO_refinedContext at H
  refine jv_aload_n 0 (pc := 0) d_MO_refinedContext_0 rfl ?_
  refine jv_aload_n 0 (pc := 1) d_MO_refinedContext_1 rfl ?_
  refine jv_iconst 0 (pc := 2) d_MO_refinedContext_2 rfl ?_
  refine jv_iload_n 1 (pc := 3) d_MO_refinedContext_3 rfl ?_
  refine jv_iload 4 (pc := 4) d_MO_refinedContext_4 rfl ?_
  refine jv_iconst 1 (pc := 6) d_MO_refinedContext_6 rfl ?_
  refine jv_isub (pc := 7) d_MO_refinedContext_7 ?_
  refine jv_iload_n 3 (pc := 8) d_MO_refinedContext_8 rfl ?_
  refine jv_iconst 1 (pc := 9) d_MO_refinedContext_9 rfl ?_
  refine jv_isub (pc := 10) d_MO_refinedContext_10 ?_
  refine jv_iload_n 3 (pc := 11) d_MO_refinedContext_11 rfl ?_
  refine jv_iconst 1 (pc := 12) d_MO_refinedContext_12 rfl ?_
  refine jv_iadd (pc := 13) d_MO_refinedContext_13 ?_
  obtain ⟨v14, n14, c14, H⟩ := jbd_some H
  refine jv_callVi (sp_MO_around (0 : Int32) x1 (x4 - (1 : Int32)) (x3 - (1 : Int32)) (x3 + (1 : Int32)) c14) (pc := 14) d_MO_refinedContext_14 c0_MO_around lk_MO_180 in_MO_around se_MO_around (by decide) rfl rfl rfl (Nat.le_of_ble_eq_true rfl) ⟨by decide, by decide, by decide, by decide⟩ (fun r14 m14 h14 => ?_)
  obtain ⟨ha14, hb14⟩ := h14
  have ha14 := ha14.symm
  subst ha14
  have hb14 := hb14.symm
  subst hb14
  refine jv_iload_n 1 (pc := 17) d_MO_refinedContext_17 rfl ?_
  refine jv_iload 4 (pc := 18) d_MO_refinedContext_18 rfl ?_
  refine jv_iload_n 3 (pc := 20) d_MO_refinedContext_20 rfl ?_
  refine jv_iconst 1 (pc := 21) d_MO_refinedContext_21 rfl ?_
  refine jv_isub (pc := 22) d_MO_refinedContext_22 ?_
  refine jv_iload_n 3 (pc := 23) d_MO_refinedContext_23 rfl ?_
  refine jv_iconst 1 (pc := 24) d_MO_refinedContext_24 rfl ?_
  refine jv_isub (pc := 25) d_MO_refinedContext_25 ?_
  obtain ⟨v26, n26, c26, H⟩ := jbd_some H
  refine jv_callVi (sp_MO_around v14 x1 x4 (x3 - (1 : Int32)) (x3 - (1 : Int32)) c26) (pc := 26) d_MO_refinedContext_26 c0_MO_around lk_MO_180 in_MO_around se_MO_around (by decide) rfl rfl rfl (Nat.le_of_ble_eq_true rfl) ⟨by decide, by decide, by decide, by decide⟩ (fun r26 m26 h26 => ?_)
  obtain ⟨ha26, hb26⟩ := h26
  have ha26 := ha26.symm
  subst ha26
  have hb26 := hb26.symm
  subst hb26
  refine jv_istore (pc := 29) d_MO_refinedContext_29 (by decide) (jsto_new rfl) ?_
  refine jv_aload_n 1 (pc := 31) d_MO_refinedContext_31 rfl ?_
  refine jv_aload_n 1 (pc := 32) d_MO_refinedContext_32 rfl ?_
  refine jv_iload 0 (pc := 33) d_MO_refinedContext_33 rfl ?_
  refine jv_iload_n 3 (pc := 35) d_MO_refinedContext_35 rfl ?_
  refine jv_iload 7 (pc := 36) d_MO_refinedContext_36 rfl ?_
  refine jv_iconst 1 (pc := 38) d_MO_refinedContext_38 rfl ?_
  refine jv_isub (pc := 39) d_MO_refinedContext_39 ?_
  refine jv_iload 6 (pc := 40) d_MO_refinedContext_40 rfl ?_
  refine jv_iload 6 (pc := 42) d_MO_refinedContext_42 rfl ?_
  obtain ⟨v44, n44, c44, H⟩ := jbd_some H
  refine jv_callVi (sp_MO_around v26 x2 (x6 - (1 : Int32)) x5 x5 c44) (pc := 44) d_MO_refinedContext_44 c0_MO_around lk_MO_180 in_MO_around se_MO_around (by decide) rfl rfl rfl (Nat.le_of_ble_eq_true rfl) ⟨by decide, by decide, by decide, by decide⟩ (fun r44 m44 h44 => ?_)
  obtain ⟨ha44, hb44⟩ := h44
  have ha44 := ha44.symm
  subst ha44
  have hb44 := hb44.symm
  subst hb44
  refine jv_iload_n 3 (pc := 47) d_MO_refinedContext_47 rfl ?_
  refine jv_iload 7 (pc := 48) d_MO_refinedContext_48 rfl ?_
  refine jv_iload 6 (pc := 50) d_MO_refinedContext_50 rfl ?_
  refine jv_iconst 1 (pc := 52) d_MO_refinedContext_52 rfl ?_
  refine jv_isub (pc := 53) d_MO_refinedContext_53 ?_
  refine jv_iload 6 (pc := 54) d_MO_refinedContext_54 rfl ?_
  refine jv_iconst 1 (pc := 56) d_MO_refinedContext_56 rfl ?_
  refine jv_iadd (pc := 57) d_MO_refinedContext_57 ?_
  obtain ⟨v58, n58, c58, H⟩ := jbd_some H
  refine jv_callVi (sp_MO_around v44 x2 x6 (x5 - (1 : Int32)) (x5 + (1 : Int32)) c58) (pc := 58) d_MO_refinedContext_58 c0_MO_around lk_MO_180 in_MO_around se_MO_around (by decide) rfl rfl rfl (Nat.le_of_ble_eq_true rfl) ⟨by decide, by decide, by decide, by decide⟩ (fun r58 m58 h58 => ?_)
  obtain ⟨ha58, hb58⟩ := h58
  have ha58 := ha58.symm
  subst ha58
  have hb58 := hb58.symm
  subst hb58
  refine jv_istore (pc := 61) d_MO_refinedContext_61 (by decide) (jst0 rfl) ?_
  refine jv_sipush (10243) (pc := 63) d_MO_refinedContext_63 rfl ?_
  refine jv_aload_n 1 (pc := 66) d_MO_refinedContext_66 rfl ?_
  refine jv_iload 0 (pc := 67) d_MO_refinedContext_67 rfl ?_
  refine jv_iload_n 3 (pc := 69) d_MO_refinedContext_69 rfl ?_
  refine jv_iload 7 (pc := 70) d_MO_refinedContext_70 rfl ?_
  refine jv_iconst 1 (pc := 72) d_MO_refinedContext_72 rfl ?_
  refine jv_iadd (pc := 73) d_MO_refinedContext_73 ?_
  refine jv_iload 6 (pc := 74) d_MO_refinedContext_74 rfl ?_
  refine jv_iload 6 (pc := 76) d_MO_refinedContext_76 rfl ?_
  refine jv_iconst 1 (pc := 78) d_MO_refinedContext_78 rfl ?_
  refine jv_iadd (pc := 79) d_MO_refinedContext_79 ?_
  obtain ⟨v80, n80, c80, H⟩ := jbd_some H
  refine jv_callVi (sp_MO_around v58 x2 (x6 + (1 : Int32)) x5 (x5 + (1 : Int32)) c80) (pc := 80) d_MO_refinedContext_80 c0_MO_around lk_MO_180 in_MO_around se_MO_around (by decide) rfl rfl rfl (Nat.le_of_ble_eq_true rfl) ⟨by decide, by decide, by decide, by decide⟩ (fun r80 m80 h80 => ?_)
  obtain ⟨ha80, hb80⟩ := h80
  have ha80 := ha80.symm
  subst ha80
  have hb80 := hb80.symm
  subst hb80
  refine jv_iadd (pc := 83) d_MO_refinedContext_83 ?_
  refine jv_iret (pc := 84) d_MO_refinedContext_84 rfl rfl (Nat.zero_le _) (Nat.zero_le _) ?_
  cases H
  exact jI.of ⟨rfl, rfl⟩
set_option maxRecDepth 40000 in
set_option maxHeartbeats 8000000 in
theorem lp_MO_refine_98 {G : jG} {R : Room} {Q : jO → jMem → Prop} (hR : 5 ≤ R.frames ∧ 40 * 5 ≤ R.locals) : ∀ (n : Nat) (x1 x2 x3 x4 x5 x6 x7 y1 y2 y3 y4 y5 y6 y7 : Int32) (σ τ : jMem), f_MO_refine_L98 n x1 x2 x3 x4 x5 x6 x7 σ = some ((y1, y2, y3, y4, y5, y6, y7), τ) → jV G M_MO_refine R Q 0 0 190 [(0, .ref 38), (1, .int y1), (2, .int y2), (3, .int y3), (4, .int y4), (5, .int y5), (6, .int y6), (7, .int y7)] [] τ → jV G M_MO_refine R Q 0 0 98 [(0, .ref 38), (1, .int x1), (2, .int x2), (3, .int x3), (4, .int x4), (5, .int x5), (6, .int x6), (7, .int x7)] [] σ := by
  intro n
  induction n with
  | zero =>
    intro x1 x2 x3 x4 x5 x6 x7 y1 y2 y3 y4 y5 y6 y7 σ τ H K
    cases H
  | succ n ih =>
    intro x1 x2 x3 x4 x5 x6 x7 y1 y2 y3 y4 y5 y6 y7 σ τ H K
    rw [f_MO_refine_L98.eq_2] at H
    refine jv_iload 7 (pc := 98) d_MO_refine_98 rfl ?_
    refine jv_aload_n 0 (pc := 100) d_MO_refine_100 rfl ?_
    refine jv_getr (pc := 101) d_MO_refine_101 fa_MO_13_MO (by decide) rfl rfl ?_
    refine jv_iload_n 1 (pc := 104) d_MO_refine_104 rfl ?_
    obtain ⟨b105, H⟩ := jck_some H
    refine jv_iald (pc := 105) d_MO_refine_105 (by decide) rfl b105 ?_
    refine jv_icmp_ge 190 (pc := 106) d_MO_refine_106 rfl (fun h106 => ?_) (fun h106 => ?_)
    · have h106 : (σ 40 x1.toNatClampNeg) ≤ x7 := h106
      have H := (if_pos h106).symm.trans H
      cases H
      exact jv_sub [0, 1, 2, 3, 4, 5, 6, 7] rfl K
    · have h106 : ¬ ((σ 40 x1.toNatClampNeg) ≤ x7) := h106
      have H := (if_neg h106).symm.trans H
      refine jv_aload_n 0 (pc := 109) d_MO_refine_109 rfl ?_
      refine jv_aload_n 0 (pc := 110) d_MO_refine_110 rfl ?_
      refine jv_iload_n 1 (pc := 111) d_MO_refine_111 rfl ?_
      refine jv_iload_n 2 (pc := 112) d_MO_refine_112 rfl ?_
      refine jv_iload 7 (pc := 113) d_MO_refine_113 rfl ?_
      refine jv_iload 6 (pc := 115) d_MO_refine_115 rfl ?_
      refine jv_iload 7 (pc := 117) d_MO_refine_117 rfl ?_
      refine jv_iload_n 3 (pc := 119) d_MO_refine_119 rfl ?_
      refine jv_isub (pc := 120) d_MO_refine_120 ?_
      refine jv_iload 6 (pc := 121) d_MO_refine_121 rfl ?_
      refine jv_iload 4 (pc := 123) d_MO_refine_123 rfl ?_
      refine jv_isub (pc := 125) d_MO_refine_125 ?_
      obtain ⟨v126, n126, c126, H⟩ := jbd_some H
      refine jv_callVi (sp_MO_refinedContext x1 x2 x7 x6 (x7 - x3) (x6 - x4) c126) (pc := 126) d_MO_refine_126 c0_MO_refinedContext lk_MO_200 in_MO_refinedContext se_MO_refinedContext (by decide) rfl rfl rfl (Nat.le_of_ble_eq_true rfl) ⟨Nat.le_trans (Nat.le_of_ble_eq_true rfl : _ ≤ 5) hR.1, Nat.le_trans (Nat.le_of_ble_eq_true rfl : _ ≤ 40 * 5) hR.2, Nat.zero_le _, Nat.zero_le _⟩ (fun r126 m126 h126 => ?_)
      obtain ⟨ha126, hb126⟩ := h126
      have ha126 := ha126.symm
      subst ha126
      have hb126 := hb126.symm
      subst hb126
      refine jv_aload_n 0 (pc := 129) d_MO_refine_129 rfl ?_
      refine jv_iload_n 1 (pc := 130) d_MO_refine_130 rfl ?_
      refine jv_iload 7 (pc := 131) d_MO_refine_131 rfl ?_
      refine jv_iload 6 (pc := 133) d_MO_refine_133 rfl ?_
      obtain ⟨v135, n135, c135, H⟩ := jbd_some H
      refine jv_callVi (sp_MO_at x1 x7 x6 c135) (pc := 135) d_MO_refine_135 c0_MO_at lk_MO_50 in_MO_at se_MO_at (by decide) rfl rfl rfl (Nat.le_of_ble_eq_true rfl) ⟨Nat.le_trans (Nat.le_of_ble_eq_true rfl : _ ≤ 5) hR.1, Nat.le_trans (Nat.le_of_ble_eq_true rfl : _ ≤ 40 * 5) hR.2, Nat.zero_le _, Nat.zero_le _⟩ (fun r135 m135 h135 => ?_)
      obtain ⟨ha135, hb135⟩ := h135
      have ha135 := ha135.symm
      subst ha135
      have hb135 := hb135.symm
      subst hb135
      obtain ⟨v138, n138, c138, H⟩ := jbd_some H
      refine jv_callVi (sp_MO_decide v126 v135 c138) (pc := 138) d_MO_refine_138 c0_MO_decide lk_MO_188 in_MO_decide se_MO_decide (by decide) rfl rfl rfl (Nat.le_of_ble_eq_true rfl) ⟨Nat.le_trans (Nat.le_of_ble_eq_true rfl : _ ≤ 5) hR.1, Nat.le_trans (Nat.le_of_ble_eq_true rfl : _ ≤ 40 * 5) hR.2, Nat.zero_le _, Nat.zero_le _⟩ (fun r138 m138 h138 => ?_)
      obtain ⟨ha138, hb138⟩ := h138
      have ha138 := ha138.symm
      subst ha138
      have hb138 := hb138.symm
      subst hb138
      refine jv_istore (pc := 141) d_MO_refine_141 (by decide) (jsto_new rfl) ?_
      refine jv_aload_n 1 (pc := 143) d_MO_refine_143 rfl ?_
      refine jv_iload_n 2 (pc := 144) d_MO_refine_144 rfl ?_
      refine jv_iload 8 (pc := 145) d_MO_refine_145 rfl ?_
      refine jv_iload 7 (pc := 147) d_MO_refine_147 rfl ?_
      refine jv_iload 0 (pc := 149) d_MO_refine_149 rfl ?_
      obtain ⟨_, n151, c151, H⟩ := jbd_some H
      refine jv_callVv (sp_MO_ink x1 x7 x6 v138 c151) (pc := 151) d_MO_refine_151 c0_MO_ink lk_MO_54 in_MO_ink se_MO_ink (by decide) rfl rfl rfl (Nat.le_of_ble_eq_true rfl) ⟨Nat.le_trans (Nat.le_of_ble_eq_true rfl : _ ≤ 5) hR.1, Nat.le_trans (Nat.le_of_ble_eq_true rfl : _ ≤ 40 * 5) hR.2, Nat.zero_le _, Nat.zero_le _⟩ (fun m151 h151 => ?_)
      have hb151 := h151
      have hb151 := hb151.symm
      subst hb151
      refine jv_iload 0 (pc := 154) d_MO_refine_154 rfl ?_
      refine jv_aload_n 1 (pc := 156) d_MO_refine_156 rfl ?_
      refine jv_iload_n 3 (pc := 157) d_MO_refine_157 rfl ?_
      refine jv_iload 8 (pc := 158) d_MO_refine_158 rfl ?_
      refine jv_iload_n 4 (pc := 160) d_MO_refine_160 rfl ?_
      refine jv_isub (pc := 161) d_MO_refine_161 ?_
      refine jv_iload 7 (pc := 162) d_MO_refine_162 rfl ?_
      refine jv_iload 5 (pc := 164) d_MO_refine_164 rfl ?_
      refine jv_isub (pc := 166) d_MO_refine_166 ?_
      obtain ⟨v167, n167, c167, H⟩ := jbd_some H
      refine jv_callVi (sp_MO_at x2 (x7 - x3) (x6 - x4) c167) (pc := 167) d_MO_refine_167 c0_MO_at lk_MO_50 in_MO_at se_MO_at (by decide) rfl rfl rfl (Nat.le_of_ble_eq_true rfl) ⟨Nat.le_trans (Nat.le_of_ble_eq_true rfl : _ ≤ 5) hR.1, Nat.le_trans (Nat.le_of_ble_eq_true rfl : _ ≤ 40 * 5) hR.2, Nat.zero_le _, Nat.zero_le _⟩ (fun r167 m167 h167 => ?_)
      obtain ⟨ha167, hb167⟩ := h167
      have ha167 := ha167.symm
      subst ha167
      have hb167 := hb167.symm
      subst hb167
      refine jv_icmp_ne 178 (pc := 170) d_MO_refine_170 rfl (fun h170 => ?_) (fun h170 => ?_)
      · have h170 : ¬ (v138 = v167) := h170
        have H := (if_neg h170).symm.trans H
        refine jv_iload 6 (pc := 178) d_MO_refine_178 rfl ?_
        refine jv_iconst 1 (pc := 180) d_MO_refine_180 rfl ?_
        refine jv_iadd (pc := 181) d_MO_refine_181 ?_
        refine jv_istore (pc := 182) d_MO_refine_182 (by decide) (jst6 rfl) ?_
        refine jv_iinc 8 _ (pc := 184) d_MO_refine_184 rfl (jinc1 _) (by decide) (jst8 rfl) ?_
        refine jv_goto 98 (pc := 187) d_MO_refine_187 rfl ?_
        exact jv_sub [1, 2, 3, 4, 5, 6, 7, 8] rfl (ih x1 x2 x3 x4 (x5 + (1 : Int32)) x6 (x7 + 1) _ _ _ _ _ _ _ _ _ H K)
      · have h170 : v138 = v167 := h170
        have H := (if_pos h170).symm.trans H
        refine jv_iload 6 (pc := 173) d_MO_refine_173 rfl ?_
        refine jv_goto 182 (pc := 175) d_MO_refine_175 rfl ?_
        refine jv_istore (pc := 182) d_MO_refine_182 (by decide) (jst6 rfl) ?_
        refine jv_iinc 8 _ (pc := 184) d_MO_refine_184 rfl (jinc1 _) (by decide) (jst8 rfl) ?_
        refine jv_goto 98 (pc := 187) d_MO_refine_187 rfl ?_
        exact jv_sub [1, 2, 3, 4, 5, 6, 7, 8] rfl (ih x1 x2 x3 x4 x5 x6 (x7 + 1) _ _ _ _ _ _ _ _ _ H K)
set_option maxRecDepth 40000 in
set_option maxHeartbeats 8000000 in
theorem lp_MO_refine_84 {G : jG} : ∀ (n : Nat) (x1 x2 x3 x4 x5 x6 : Int32) (σ τ : jMem) (r : Int32), f_MO_refine_L84 n x1 x2 x3 x4 x5 x6 σ = some (r, τ) → jV G M_MO_refine (jr 5 0 0) (jI fun r9 τ9 => r9 = r ∧ τ9 = τ) 0 0 84 [(0, .ref 38), (1, .int x1), (2, .int x2), (3, .int x3), (4, .int x4), (5, .int x5), (6, .int x6)] [] σ := by
  intro n
  induction n with
  | zero =>
    intro x1 x2 x3 x4 x5 x6 σ τ r H
    cases H
  | succ n ih =>
    intro x1 x2 x3 x4 x5 x6 σ τ r H
    rw [f_MO_refine_L84.eq_2] at H
    refine jv_iload 6 (pc := 84) d_MO_refine_84 rfl ?_
    refine jv_aload_n 0 (pc := 86) d_MO_refine_86 rfl ?_
    refine jv_getr (pc := 87) d_MO_refine_87 fa_MO_16_MO (by decide) rfl rfl ?_
    refine jv_iload_n 1 (pc := 90) d_MO_refine_90 rfl ?_
    obtain ⟨b91, H⟩ := jck_some H
    refine jv_iald (pc := 91) d_MO_refine_91 (by decide) rfl b91 ?_
    refine jv_icmp_ge 196 (pc := 92) d_MO_refine_92 rfl (fun h92 => ?_) (fun h92 => ?_)
    · have h92 : (σ 41 x1.toNatClampNeg) ≤ x6 := h92
      have H := (if_pos h92).symm.trans H
      refine jv_iload 5 (pc := 196) d_MO_refine_196 rfl ?_
      refine jv_iret (pc := 198) d_MO_refine_198 rfl rfl (Nat.zero_le _) (Nat.zero_le _) ?_
      cases H
      exact jI.of ⟨rfl, rfl⟩
    · have h92 : ¬ ((σ 41 x1.toNatClampNeg) ≤ x6) := h92
      have H := (if_neg h92).symm.trans H
      refine jv_iconst 0 (pc := 95) d_MO_refine_95 rfl ?_
      refine jv_istore (pc := 96) d_MO_refine_96 (by decide) (jsto_new rfl) ?_
      obtain ⟨⟨y98_1, y98_2, y98_3, y98_4, y98_5, y98_6, y98_7⟩, m98, c98, H⟩ := jbd_some H
      refine jv_sub [1, 2, 3, 4, 5, 6, 7, 0] rfl (lp_MO_refine_98  ⟨by decide, by decide⟩ _ x1 x2 x3 x4 x5 x6 (0 : Int32) y98_1 y98_2 y98_3 y98_4 y98_5 y98_6 y98_7 _ _ c98 ?_)
      refine jv_iinc 6 _ (pc := 190) d_MO_refine_190 rfl (jinc1 _) (by decide) (jst6 rfl) ?_
      refine jv_goto 84 (pc := 193) d_MO_refine_193 rfl ?_
      exact jv_sub [0, 1, 2, 3, 4, 5, 6] rfl (ih y98_1 y98_2 y98_3 y98_4 y98_5 (y98_6 + 1) _ _ _ H)
set_option maxRecDepth 40000 in
set_option maxHeartbeats 8000000 in
theorem sp_MO_refine {G : jG} {σ τ : jMem} {r : Int32} (x1 x2 x3 x4 : Int32) (H : f_MO_refine x1 x2 x3 x4 σ = some (r, τ)) : jSp G M_MO_refine (jr 5 0 0) [.ref 38, .int x1, .int x2, .int x3, .int x4] σ (jI fun r9 τ9 => r9 = r ∧ τ9 = τ) := by
  refine jSp.of rfl rfl (Nat.le_of_ble_eq_true rfl) ?_
  show jV _ _ _ _ 0 0 0 [(0, .ref 38), (1, .int x1), (2, .int x2), (3, .int x3), (4, .int x4)] [] σ
  unfold f_MO_refine at H
  refine jv_aload_n 0 (pc := 0) d_MO_refine_0 rfl ?_
  refine jv_aload_n 0 (pc := 1) d_MO_refine_1 rfl ?_
  refine jv_geti (pc := 2) d_MO_refine_2 fa_MO_68_MO (by decide) rfl rfl ?_
  refine jv_if_ne 12 (pc := 5) d_MO_refine_5 rfl (fun h5 => ?_) (fun h5 => ?_)
  · have h5 : ¬ ((σ 38 11) = 0) := h5
    have H := (if_neg h5).symm.trans H
    refine jv_iload_n 1 (pc := 12) d_MO_refine_12 rfl ?_
    refine jv_callSi (sp_MO_isBoard x1) (pc := 13) d_MO_refine_13 c0_MO_isBoard lk_MO_42 si_MO_isBoard rfl (Nat.le_of_ble_eq_true rfl) ⟨by decide, by decide, by decide, by decide⟩ (fun r13 m13 h13 => ?_)
    obtain ⟨ha13, hb13⟩ := h13
    subst ha13
    have hb13 := hb13.symm
    subst hb13
    refine jv_if_eq 26 (pc := 16) d_MO_refine_16 rfl (fun h16 => ?_) (fun h16 => ?_)
    · have h16 : (f_MO_isBoard x1 σ) = 0 := h16
      have H := (if_pos h16).symm.trans H
      refine jv_iconst 2 (pc := 26) d_MO_refine_26 rfl ?_
      refine jv_goto 66 (pc := 27) d_MO_refine_27 rfl ?_
      refine jv_puti (pc := 66) d_MO_refine_66 fa_MO_34_MO fp_MO_0 (by decide) rfl rfl rfl rfl ?_
      refine jv_aload_n 0 (pc := 69) d_MO_refine_69 rfl ?_
      refine jv_geti (pc := 70) d_MO_refine_70 fa_MO_34_MO (by decide) rfl rfl ?_
      refine jv_if_le 78 (pc := 73) d_MO_refine_73 rfl (fun h73 => absurd (show (2 : Int32) ≤ 0 from h73) (by decide)) (fun h73 => ?_)
      refine jv_iconst 0 (pc := 76) d_MO_refine_76 rfl ?_
      refine jv_iret (pc := 77) d_MO_refine_77 rfl rfl (Nat.zero_le _) (Nat.zero_le _) ?_
      cases H
      exact jI.of ⟨rfl, rfl⟩
    · have h16 : ¬ ((f_MO_isBoard x1 σ) = 0) := h16
      have H := (if_neg h16).symm.trans H
      refine jv_iload_n 2 (pc := 19) d_MO_refine_19 rfl ?_
      refine jv_callSi (sp_MO_isBoard x2) (pc := 20) d_MO_refine_20 c0_MO_isBoard lk_MO_42 si_MO_isBoard rfl (Nat.le_of_ble_eq_true rfl) ⟨by decide, by decide, by decide, by decide⟩ (fun r20 m20 h20 => ?_)
      obtain ⟨ha20, hb20⟩ := h20
      subst ha20
      have hb20 := hb20.symm
      subst hb20
      refine jv_if_ne 30 (pc := 23) d_MO_refine_23 rfl (fun h23 => ?_) (fun h23 => ?_)
      · have h23 : ¬ ((f_MO_isBoard x2 σ) = 0) := h23
        have H := (if_neg h23).symm.trans H
        refine jv_iload_n 1 (pc := 30) d_MO_refine_30 rfl ?_
        refine jv_iload_n 2 (pc := 31) d_MO_refine_31 rfl ?_
        refine jv_icmp_eq 61 (pc := 32) d_MO_refine_32 rfl (fun h32 => ?_) (fun h32 => ?_)
        · have h32 : x1 = x2 := h32
          have H := (if_pos h32).symm.trans H
          refine jv_iconst 3 (pc := 61) d_MO_refine_61 rfl ?_
          refine jv_goto 66 (pc := 62) d_MO_refine_62 rfl ?_
          refine jv_puti (pc := 66) d_MO_refine_66 fa_MO_34_MO fp_MO_0 (by decide) rfl rfl rfl rfl ?_
          refine jv_aload_n 0 (pc := 69) d_MO_refine_69 rfl ?_
          refine jv_geti (pc := 70) d_MO_refine_70 fa_MO_34_MO (by decide) rfl rfl ?_
          refine jv_if_le 78 (pc := 73) d_MO_refine_73 rfl (fun h73 => absurd (show (3 : Int32) ≤ 0 from h73) (by decide)) (fun h73 => ?_)
          refine jv_iconst 0 (pc := 76) d_MO_refine_76 rfl ?_
          refine jv_iret (pc := 77) d_MO_refine_77 rfl rfl (Nat.zero_le _) (Nat.zero_le _) ?_
          cases H
          exact jI.of ⟨rfl, rfl⟩
        · have h32 : ¬ (x1 = x2) := h32
          have H := (if_neg h32).symm.trans H
          refine jv_iload_n 3 (pc := 35) d_MO_refine_35 rfl ?_
          refine jv_bipush (-24) (pc := 36) d_MO_refine_36 rfl ?_
          refine jv_icmp_lt 61 (pc := 38) d_MO_refine_38 rfl (fun h38 => ?_) (fun h38 => ?_)
          · have h38 : x3 < (-24 : Int32) := h38
            have H := (if_pos h38).symm.trans H
            refine jv_iconst 3 (pc := 61) d_MO_refine_61 rfl ?_
            refine jv_goto 66 (pc := 62) d_MO_refine_62 rfl ?_
            refine jv_puti (pc := 66) d_MO_refine_66 fa_MO_34_MO fp_MO_0 (by decide) rfl rfl rfl rfl ?_
            refine jv_aload_n 0 (pc := 69) d_MO_refine_69 rfl ?_
            refine jv_geti (pc := 70) d_MO_refine_70 fa_MO_34_MO (by decide) rfl rfl ?_
            refine jv_if_le 78 (pc := 73) d_MO_refine_73 rfl (fun h73 => absurd (show (3 : Int32) ≤ 0 from h73) (by decide)) (fun h73 => ?_)
            refine jv_iconst 0 (pc := 76) d_MO_refine_76 rfl ?_
            refine jv_iret (pc := 77) d_MO_refine_77 rfl rfl (Nat.zero_le _) (Nat.zero_le _) ?_
            cases H
            exact jI.of ⟨rfl, rfl⟩
          · have h38 : ¬ (x3 < (-24 : Int32)) := h38
            have H := (if_neg h38).symm.trans H
            refine jv_iload_n 3 (pc := 41) d_MO_refine_41 rfl ?_
            refine jv_bipush (24) (pc := 42) d_MO_refine_42 rfl ?_
            refine jv_icmp_gt 61 (pc := 44) d_MO_refine_44 rfl (fun h44 => ?_) (fun h44 => ?_)
            · have h44 : (24 : Int32) < x3 := h44
              have H := (if_pos h44).symm.trans H
              refine jv_iconst 3 (pc := 61) d_MO_refine_61 rfl ?_
              refine jv_goto 66 (pc := 62) d_MO_refine_62 rfl ?_
              refine jv_puti (pc := 66) d_MO_refine_66 fa_MO_34_MO fp_MO_0 (by decide) rfl rfl rfl rfl ?_
              refine jv_aload_n 0 (pc := 69) d_MO_refine_69 rfl ?_
              refine jv_geti (pc := 70) d_MO_refine_70 fa_MO_34_MO (by decide) rfl rfl ?_
              refine jv_if_le 78 (pc := 73) d_MO_refine_73 rfl (fun h73 => absurd (show (3 : Int32) ≤ 0 from h73) (by decide)) (fun h73 => ?_)
              refine jv_iconst 0 (pc := 76) d_MO_refine_76 rfl ?_
              refine jv_iret (pc := 77) d_MO_refine_77 rfl rfl (Nat.zero_le _) (Nat.zero_le _) ?_
              cases H
              exact jI.of ⟨rfl, rfl⟩
            · have h44 : ¬ ((24 : Int32) < x3) := h44
              have H := (if_neg h44).symm.trans H
              refine jv_iload 4 (pc := 47) d_MO_refine_47 rfl ?_
              refine jv_bipush (-24) (pc := 49) d_MO_refine_49 rfl ?_
              refine jv_icmp_lt 61 (pc := 51) d_MO_refine_51 rfl (fun h51 => ?_) (fun h51 => ?_)
              · have h51 : x4 < (-24 : Int32) := h51
                have H := (if_pos h51).symm.trans H
                refine jv_iconst 3 (pc := 61) d_MO_refine_61 rfl ?_
                refine jv_goto 66 (pc := 62) d_MO_refine_62 rfl ?_
                refine jv_puti (pc := 66) d_MO_refine_66 fa_MO_34_MO fp_MO_0 (by decide) rfl rfl rfl rfl ?_
                refine jv_aload_n 0 (pc := 69) d_MO_refine_69 rfl ?_
                refine jv_geti (pc := 70) d_MO_refine_70 fa_MO_34_MO (by decide) rfl rfl ?_
                refine jv_if_le 78 (pc := 73) d_MO_refine_73 rfl (fun h73 => absurd (show (3 : Int32) ≤ 0 from h73) (by decide)) (fun h73 => ?_)
                refine jv_iconst 0 (pc := 76) d_MO_refine_76 rfl ?_
                refine jv_iret (pc := 77) d_MO_refine_77 rfl rfl (Nat.zero_le _) (Nat.zero_le _) ?_
                cases H
                exact jI.of ⟨rfl, rfl⟩
              · have h51 : ¬ (x4 < (-24 : Int32)) := h51
                have H := (if_neg h51).symm.trans H
                refine jv_iload 4 (pc := 54) d_MO_refine_54 rfl ?_
                refine jv_bipush (24) (pc := 56) d_MO_refine_56 rfl ?_
                refine jv_icmp_le 65 (pc := 58) d_MO_refine_58 rfl (fun h58 => ?_) (fun h58 => ?_)
                · have h58 : x4 ≤ (24 : Int32) := h58
                  have H := (if_pos h58).symm.trans H
                  refine jv_iconst 0 (pc := 65) d_MO_refine_65 rfl ?_
                  refine jv_puti (pc := 66) d_MO_refine_66 fa_MO_34_MO fp_MO_0 (by decide) rfl rfl rfl rfl ?_
                  refine jv_aload_n 0 (pc := 69) d_MO_refine_69 rfl ?_
                  refine jv_geti (pc := 70) d_MO_refine_70 fa_MO_34_MO (by decide) rfl rfl ?_
                  refine jv_if_le 78 (pc := 73) d_MO_refine_73 rfl (fun h73 => ?_) (fun h73 => absurd (show (0 : Int32) ≤ 0 by decide) (show ¬ ((0 : Int32) ≤ 0) from h73))
                  refine jv_iconst 0 (pc := 78) d_MO_refine_78 rfl ?_
                  refine jv_istore (pc := 79) d_MO_refine_79 (by decide) (jsto_new rfl) ?_
                  refine jv_iconst 0 (pc := 81) d_MO_refine_81 rfl ?_
                  refine jv_istore (pc := 82) d_MO_refine_82 (by decide) (jsto_new rfl) ?_
                  exact jv_sub [2, 3, 4, 5, 6, 1, 0] rfl (lp_MO_refine_84  _ x1 x2 x3 x4 (0 : Int32) (0 : Int32) _ _ _ H)
                · have h58 : ¬ (x4 ≤ (24 : Int32)) := h58
                  have H := (if_neg h58).symm.trans H
                  refine jv_iconst 3 (pc := 61) d_MO_refine_61 rfl ?_
                  refine jv_goto 66 (pc := 62) d_MO_refine_62 rfl ?_
                  refine jv_puti (pc := 66) d_MO_refine_66 fa_MO_34_MO fp_MO_0 (by decide) rfl rfl rfl rfl ?_
                  refine jv_aload_n 0 (pc := 69) d_MO_refine_69 rfl ?_
                  refine jv_geti (pc := 70) d_MO_refine_70 fa_MO_34_MO (by decide) rfl rfl ?_
                  refine jv_if_le 78 (pc := 73) d_MO_refine_73 rfl (fun h73 => absurd (show (3 : Int32) ≤ 0 from h73) (by decide)) (fun h73 => ?_)
                  refine jv_iconst 0 (pc := 76) d_MO_refine_76 rfl ?_
                  refine jv_iret (pc := 77) d_MO_refine_77 rfl rfl (Nat.zero_le _) (Nat.zero_le _) ?_
                  cases H
                  exact jI.of ⟨rfl, rfl⟩
      · have h23 : (f_MO_isBoard x2 σ) = 0 := h23
        have H := (if_pos h23).symm.trans H
        refine jv_iconst 2 (pc := 26) d_MO_refine_26 rfl ?_
        refine jv_goto 66 (pc := 27) d_MO_refine_27 rfl ?_
        refine jv_puti (pc := 66) d_MO_refine_66 fa_MO_34_MO fp_MO_0 (by decide) rfl rfl rfl rfl ?_
        refine jv_aload_n 0 (pc := 69) d_MO_refine_69 rfl ?_
        refine jv_geti (pc := 70) d_MO_refine_70 fa_MO_34_MO (by decide) rfl rfl ?_
        refine jv_if_le 78 (pc := 73) d_MO_refine_73 rfl (fun h73 => absurd (show (2 : Int32) ≤ 0 from h73) (by decide)) (fun h73 => ?_)
        refine jv_iconst 0 (pc := 76) d_MO_refine_76 rfl ?_
        refine jv_iret (pc := 77) d_MO_refine_77 rfl rfl (Nat.zero_le _) (Nat.zero_le _) ?_
        cases H
        exact jI.of ⟨rfl, rfl⟩
  · have h5 : (σ 38 11) = 0 := h5
    have H := (if_pos h5).symm.trans H
    refine jv_iconst 1 (pc := 8) d_MO_refine_8 rfl ?_
    refine jv_goto 66 (pc := 9) d_MO_refine_9 rfl ?_
    refine jv_puti (pc := 66) d_MO_refine_66 fa_MO_34_MO fp_MO_0 (by decide) rfl rfl rfl rfl ?_
    refine jv_aload_n 0 (pc := 69) d_MO_refine_69 rfl ?_
    refine jv_geti (pc := 70) d_MO_refine_70 fa_MO_34_MO (by decide) rfl rfl ?_
    refine jv_if_le 78 (pc := 73) d_MO_refine_73 rfl (fun h73 => absurd (show (1 : Int32) ≤ 0 from h73) (by decide)) (fun h73 => ?_)
    refine jv_iconst 0 (pc := 76) d_MO_refine_76 rfl ?_
    refine jv_iret (pc := 77) d_MO_refine_77 rfl rfl (Nat.zero_le _) (Nat.zero_le _) ?_
    cases H
    exact jI.of ⟨rfl, rfl⟩
