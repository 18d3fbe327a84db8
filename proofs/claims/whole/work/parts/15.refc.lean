/-! the reference: numbers, dictionaries, texts: functions and contracts, by program -/
set_option maxRecDepth 40000 in
set_option maxHeartbeats 8000000 in
theorem sp_MO_next {G : jG} {σ τ : jMem} {r : Int32} (x1 x2 : Int32) (H : f_MO_next x1 x2 σ = some (r, τ)) : jSp G M_MO_next (jr 5 0 0) [.ref 38, .int x1, .int x2] σ (jI fun r9 τ9 => r9 = r ∧ τ9 = τ) := by
  refine jSp.of rfl rfl (Nat.le_of_ble_eq_true rfl) ?_
  show jV _ _ _ _ 0 0 0 [(0, .ref 38), (1, .int x1), (2, .int x2)] [] σ
  unfold f_MO_next at H
  refine jv_aload_n 0 (pc := 0) d_MO_next_0 rfl ?_
  refine jv_sipush (11267) (pc := 1) d_MO_next_1 rfl ?_
  refine jv_sipush (512) (pc := 4) d_MO_next_4 rfl ?_
  refine jv_iload_n 1 (pc := 7) d_MO_next_7 rfl ?_
  refine jv_imul (pc := 8) d_MO_next_8 ?_
  refine jv_iadd (pc := 9) d_MO_next_9 ?_
  refine jv_aload_n 0 (pc := 10) d_MO_next_10 rfl ?_
  refine jv_geti (pc := 11) d_MO_next_11 fa_MO_204_MO (by decide) rfl rfl ?_
  refine jv_iadd (pc := 14) d_MO_next_14 ?_
  refine jv_iload_n 2 (pc := 15) d_MO_next_15 rfl ?_
  obtain ⟨v16, n16, c16, H⟩ := jbd_some H
  refine jv_callVi (sp_MO_decide (((11267 : Int32) + ((512 : Int32) * x1)) + (σ 38 19)) x2 c16) (pc := 16) d_MO_next_16 c0_MO_decide lk_MO_188 in_MO_decide se_MO_decide (by decide) rfl rfl rfl (Nat.le_of_ble_eq_true rfl) ⟨by decide, by decide, by decide, by decide⟩ (fun r16 m16 h16 => ?_)
  obtain ⟨ha16, hb16⟩ := h16
  have ha16 := ha16.symm
  subst ha16
  have hb16 := hb16.symm
  subst hb16
  refine jv_istore_n (pc := 19) d_MO_next_19 rfl (by decide) (jsto_new rfl) ?_
  refine jv_iconst 2 (pc := 20) d_MO_next_20 rfl ?_
  refine jv_aload_n 1 (pc := 21) d_MO_next_21 rfl ?_
  refine jv_geti (pc := 22) d_MO_next_22 fa_MO_204_MO (by decide) rfl rfl ?_
  refine jv_imul (pc := 25) d_MO_next_25 ?_
  refine jv_iload_n 0 (pc := 26) d_MO_next_26 rfl ?_
  refine jv_iadd (pc := 27) d_MO_next_27 ?_
  refine jv_istore (pc := 28) d_MO_next_28 (by decide) (jsto_new rfl) ?_
  refine jv_aload_n 2 (pc := 30) d_MO_next_30 rfl ?_
  refine jv_aload_n 2 (pc := 31) d_MO_next_31 rfl ?_
  refine jv_geti (pc := 32) d_MO_next_32 fa_MO_204_MO (by decide) rfl rfl ?_
  refine jv_sipush (256) (pc := 35) d_MO_next_35 rfl ?_
  refine jv_icmp_ge 46 (pc := 38) d_MO_next_38 rfl (fun h38 => ?_) (fun h38 => ?_)
  · have h38 : (256 : Int32) ≤ (n16 38 19) := h38
    have H := (if_pos h38).symm.trans H
    refine jv_iload 0 (pc := 46) d_MO_next_46 rfl ?_
    refine jv_sipush (255) (pc := 48) d_MO_next_48 rfl ?_
    refine jv_iand (pc := 51) d_MO_next_51 ?_
    refine jv_sipush (256) (pc := 52) d_MO_next_52 rfl ?_
    refine jv_ior (pc := 55) d_MO_next_55 ?_
    refine jv_puti (pc := 56) d_MO_next_56 fa_MO_204_MO fp_MO_19 (by decide) rfl rfl rfl rfl ?_
    refine jv_iload_n 1 (pc := 59) d_MO_next_59 rfl ?_
    refine jv_iret (pc := 60) d_MO_next_60 rfl rfl (Nat.zero_le _) (Nat.zero_le _) ?_
    cases H
    exact jI.of ⟨rfl, rfl⟩
  · have h38 : ¬ ((256 : Int32) ≤ (n16 38 19)) := h38
    have H := (if_neg h38).symm.trans H
    refine jv_iload 0 (pc := 41) d_MO_next_41 rfl ?_
    refine jv_goto 56 (pc := 43) d_MO_next_43 rfl ?_
    refine jv_puti (pc := 56) d_MO_next_56 fa_MO_204_MO fp_MO_19 (by decide) rfl rfl rfl rfl ?_
    refine jv_iload_n 1 (pc := 59) d_MO_next_59 rfl ?_
    refine jv_iret (pc := 60) d_MO_next_60 rfl rfl (Nat.zero_le _) (Nat.zero_le _) ?_
    cases H
    exact jI.of ⟨rfl, rfl⟩
set_option maxRecDepth 40000 in
set_option maxHeartbeats 8000000 in
theorem lp_MO_many_8 {G : jG} : ∀ (n : Nat) (x1 x2 x3 x4 x5 : Int32) (σ τ : jMem) (r : Int32), f_MO_many_L8 n x1 x2 x3 x4 x5 σ = some (r, τ) → jV G M_MO_many (jr 6 0 0) (jI fun r9 τ9 => r9 = r ∧ τ9 = τ) 0 0 8 [(0, .ref 38), (1, .int x1), (2, .int x2), (3, .int x3), (4, .int x4), (5, .int x5)] [] σ := by
  intro n
  induction n with
  | zero =>
    intro x1 x2 x3 x4 x5 σ τ r H
    cases H
  | succ n ih =>
    intro x1 x2 x3 x4 x5 σ τ r H
    rw [f_MO_many_L8.eq_2] at H
    refine jv_iload 5 (pc := 8) d_MO_many_8 rfl ?_
    refine jv_if_lt 37 (pc := 10) d_MO_many_10 rfl (fun h10 => ?_) (fun h10 => ?_)
    · have h10 : x5 < 0 := h10
      have H := (if_pos h10).symm.trans H
      refine jv_iload 4 (pc := 37) d_MO_many_37 rfl ?_
      refine jv_iret (pc := 39) d_MO_many_39 rfl rfl (Nat.zero_le _) (Nat.zero_le _) ?_
      cases H
      exact jI.of ⟨rfl, rfl⟩
    · have h10 : ¬ (x5 < 0) := h10
      have H := (if_neg h10).symm.trans H
      refine jv_iload 4 (pc := 13) d_MO_many_13 rfl ?_
      refine jv_iconst 1 (pc := 15) d_MO_many_15 rfl ?_
      refine jv_ishl (pc := 16) d_MO_many_16 ?_
      refine jv_aload_n 0 (pc := 17) d_MO_many_17 rfl ?_
      refine jv_iload_n 1 (pc := 18) d_MO_many_18 rfl ?_
      refine jv_iload_n 3 (pc := 19) d_MO_many_19 rfl ?_
      refine jv_iload 5 (pc := 20) d_MO_many_20 rfl ?_
      refine jv_iushr (pc := 22) d_MO_many_22 ?_
      refine jv_iconst 1 (pc := 23) d_MO_many_23 rfl ?_
      refine jv_iand (pc := 24) d_MO_many_24 ?_
      obtain ⟨v25, n25, c25, H⟩ := jbd_some H
      refine jv_callVi (sp_MO_next x1 (((x3.toUInt32 >>> (x5.toUInt32 &&& Int32.toUInt32 31)).toInt32) &&& (1 : Int32)) c25) (pc := 25) d_MO_many_25 c0_MO_next lk_MO_207 in_MO_next se_MO_next (by decide) rfl rfl rfl (Nat.le_of_ble_eq_true rfl) ⟨by decide, by decide, by decide, by decide⟩ (fun r25 m25 h25 => ?_)
      obtain ⟨ha25, hb25⟩ := h25
      have ha25 := ha25.symm
      subst ha25
      have hb25 := hb25.symm
      subst hb25
      refine jv_ior (pc := 28) d_MO_many_28 ?_
      refine jv_istore (pc := 29) d_MO_many_29 (by decide) (jst4 rfl) ?_
      refine jv_iinc 5 _ (pc := 31) d_MO_many_31 rfl rfl (by decide) (jst5 rfl) ?_
      refine jv_goto 8 (pc := 34) d_MO_many_34 rfl ?_
      exact jv_sub [0, 1, 2, 3, 4, 5] rfl (ih x1 x2 x3 ((x4 <<< ((1 : Int32) &&& 31)) ||| v25) (x5 + Int32.ofInt (-1)) _ _ _ H)
set_option maxRecDepth 40000 in
set_option maxHeartbeats 8000000 in
theorem sp_MO_many {G : jG} {σ τ : jMem} {r : Int32} (x1 x2 x3 : Int32) (H : f_MO_many x1 x2 x3 σ = some (r, τ)) : jSp G M_MO_many (jr 6 0 0) [.ref 38, .int x1, .int x2, .int x3] σ (jI fun r9 τ9 => r9 = r ∧ τ9 = τ) := by
  refine jSp.of rfl rfl (Nat.le_of_ble_eq_true rfl) ?_
  show jV _ _ _ _ 0 0 0 [(0, .ref 38), (1, .int x1), (2, .int x2), (3, .int x3)] [] σ
  unfold f_MO_many at H
  refine jv_iconst 0 (pc := 0) d_MO_many_0 rfl ?_
  refine jv_istore (pc := 1) d_MO_many_1 (by decide) (jsto_new rfl) ?_
  refine jv_iload_n 3 (pc := 3) d_MO_many_3 rfl ?_
  refine jv_iconst 1 (pc := 4) d_MO_many_4 rfl ?_
  refine jv_isub (pc := 5) d_MO_many_5 ?_
  refine jv_istore (pc := 6) d_MO_many_6 (by decide) (jsto_new rfl) ?_
  exact jv_sub [2, 3, 4, 5, 1, 0] rfl (lp_MO_many_8  _ x1 x2 x3 (0 : Int32) (x2 - (1 : Int32)) _ _ _ H)
set_option maxRecDepth 40000 in
set_option maxHeartbeats 8000000 in
theorem lp_MO_codeNumber_55 {G : jG} : ∀ (n : Nat) (x1 x2 x3 x4 x5 x6 x7 : Int32) (σ τ : jMem) (r : Int32), f_MO_codeNumber_L55 n x1 x2 x3 x4 x5 x6 x7 σ = some (r, τ) → jV G M_MO_codeNumber (jr 7 0 0) (jI fun r9 τ9 => r9 = r ∧ τ9 = τ) 0 0 55 [(0, .ref 38), (1, .int x1), (2, .int x2), (3, .int x3), (4, .int x4), (5, .int x5), (6, .int x6), (7, .int x7)] [] σ := by
  intro n
  induction n with
  | zero =>
    intro x1 x2 x3 x4 x5 x6 x7 σ τ r H
    cases H
  | succ n ih =>
    intro x1 x2 x3 x4 x5 x6 x7 σ τ r H
    rw [f_MO_codeNumber_L55.eq_2] at H
    refine jv_iload 7 (pc := 55) d_MO_codeNumber_55 rfl ?_
    refine jv_iconst 5 (pc := 57) d_MO_codeNumber_57 rfl ?_
    refine jv_icmp_ge 88 (pc := 58) d_MO_codeNumber_58 rfl (fun h58 => ?_) (fun h58 => ?_)
    · have h58 : (5 : Int32) ≤ x7 := h58
      have H := (if_pos h58).symm.trans H
      refine jv_iload 7 (pc := 88) d_MO_codeNumber_88 rfl ?_
      refine jv_callSi (sp_MO_leastOf x7) (pc := 90) d_MO_codeNumber_90 c0_MO_leastOf lk_MO_213 si_MO_leastOf rfl (Nat.le_of_ble_eq_true rfl) ⟨by decide, by decide, by decide, by decide⟩ (fun r90 m90 h90 => ?_)
      obtain ⟨ha90, hb90⟩ := h90
      subst ha90
      have hb90 := hb90.symm
      subst hb90
      refine jv_aload_n 0 (pc := 93) d_MO_codeNumber_93 rfl ?_
      refine jv_iload_n 1 (pc := 94) d_MO_codeNumber_94 rfl ?_
      refine jv_iload 7 (pc := 95) d_MO_codeNumber_95 rfl ?_
      refine jv_callSi (sp_MO_bitsOf x7) (pc := 97) d_MO_codeNumber_97 c0_MO_bitsOf lk_MO_216 si_MO_bitsOf rfl (Nat.le_of_ble_eq_true rfl) ⟨by decide, by decide, by decide, by decide⟩ (fun r97 m97 h97 => ?_)
      obtain ⟨ha97, hb97⟩ := h97
      subst ha97
      have hb97 := hb97.symm
      subst hb97
      refine jv_iload 4 (pc := 100) d_MO_codeNumber_100 rfl ?_
      refine jv_iload 7 (pc := 102) d_MO_codeNumber_102 rfl ?_
      refine jv_callSi (sp_MO_leastOf x7) (pc := 104) d_MO_codeNumber_104 c0_MO_leastOf lk_MO_213 si_MO_leastOf rfl (Nat.le_of_ble_eq_true rfl) ⟨by decide, by decide, by decide, by decide⟩ (fun r104 m104 h104 => ?_)
      obtain ⟨ha104, hb104⟩ := h104
      subst ha104
      have hb104 := hb104.symm
      subst hb104
      refine jv_isub (pc := 107) d_MO_codeNumber_107 ?_
      obtain ⟨v108, n108, c108, H⟩ := jbd_some H
      refine jv_callVi (sp_MO_many x1 (f_MO_bitsOf x7 σ) (x4 - (f_MO_leastOf x7 σ)) c108) (pc := 108) d_MO_codeNumber_108 c0_MO_many lk_MO_219 in_MO_many se_MO_many (by decide) rfl rfl rfl (Nat.le_of_ble_eq_true rfl) ⟨by decide, by decide, by decide, by decide⟩ (fun r108 m108 h108 => ?_)
      obtain ⟨ha108, hb108⟩ := h108
      have ha108 := ha108.symm
      subst ha108
      have hb108 := hb108.symm
      subst hb108
      refine jv_iadd (pc := 111) d_MO_codeNumber_111 ?_
      refine jv_istore (pc := 112) d_MO_codeNumber_112 (by decide) (jsto_new rfl) ?_
      refine jv_iload 6 (pc := 114) d_MO_codeNumber_114 rfl ?_
      refine jv_iconst 1 (pc := 116) d_MO_codeNumber_116 rfl ?_
      refine jv_icmp_ne 126 (pc := 117) d_MO_codeNumber_117 rfl (fun h117 => ?_) (fun h117 => ?_)
      · have h117 : ¬ (x5 = (1 : Int32)) := h117
        have H := (if_neg h117).symm.trans H
        refine jv_iload 0 (pc := 126) d_MO_codeNumber_126 rfl ?_
        refine jv_istore (pc := 128) d_MO_codeNumber_128 (by decide) (jsto_new rfl) ?_
        refine jv_aload_n 2 (pc := 130) d_MO_codeNumber_130 rfl ?_
        refine jv_iload 7 (pc := 131) d_MO_codeNumber_131 rfl ?_
        refine jv_iconst 1 (pc := 133) d_MO_codeNumber_133 rfl ?_
        refine jv_icmp_ne 147 (pc := 134) d_MO_codeNumber_134 rfl (fun h134 => ?_) (fun h134 => ?_)
        · have h134 : ¬ (x5 = (1 : Int32)) := h134
          have H := (if_neg h134).symm.trans H
          refine jv_iload 0 (pc := 147) d_MO_codeNumber_147 rfl ?_
          refine jv_ldc (-2147483648) (pc := 149) d_MO_codeNumber_149 (jin5 23 rfl rfl) ?_
          refine jv_icmp_ne 158 (pc := 151) d_MO_codeNumber_151 rfl (fun h151 => ?_) (fun h151 => ?_)
          · have h151 : ¬ (((f_MO_leastOf x7 σ) + v108) = (-2147483648 : Int32)) := h151
            have H := (if_neg h151).symm.trans H
            refine jv_iconst 0 (pc := 158) d_MO_codeNumber_158 rfl ?_
            refine jv_puti (pc := 159) d_MO_codeNumber_159 fa_MO_223_MO fp_MO_20 (by decide) rfl rfl rfl rfl ?_
            refine jv_iload 0 (pc := 162) d_MO_codeNumber_162 rfl ?_
            refine jv_iret (pc := 164) d_MO_codeNumber_164 rfl rfl (Nat.zero_le _) (Nat.zero_le _) ?_
            cases H
            exact jI.of ⟨rfl, rfl⟩
          · have h151 : ((f_MO_leastOf x7 σ) + v108) = (-2147483648 : Int32) := h151
            have H := (if_pos h151).symm.trans H
            refine jv_iconst 1 (pc := 154) d_MO_codeNumber_154 rfl ?_
            refine jv_goto 159 (pc := 155) d_MO_codeNumber_155 rfl ?_
            refine jv_puti (pc := 159) d_MO_codeNumber_159 fa_MO_223_MO fp_MO_20 (by decide) rfl rfl rfl rfl ?_
            refine jv_iload 0 (pc := 162) d_MO_codeNumber_162 rfl ?_
            refine jv_iret (pc := 164) d_MO_codeNumber_164 rfl rfl (Nat.zero_le _) (Nat.zero_le _) ?_
            cases H
            exact jI.of ⟨rfl, rfl⟩
        · have h134 : x5 = (1 : Int32) := h134
          have H := (if_pos h134).symm.trans H
          refine jv_iload 9 (pc := 137) d_MO_codeNumber_137 rfl ?_
          refine jv_if_ne 147 (pc := 139) d_MO_codeNumber_139 rfl (fun h139 => ?_) (fun h139 => ?_)
          · have h139 : ¬ (x7 = 0) := h139
            have H := (if_neg h139).symm.trans H
            refine jv_iload 0 (pc := 147) d_MO_codeNumber_147 rfl ?_
            refine jv_ldc (-2147483648) (pc := 149) d_MO_codeNumber_149 (jin5 23 rfl rfl) ?_
            refine jv_icmp_ne 158 (pc := 151) d_MO_codeNumber_151 rfl (fun h151 => ?_) (fun h151 => ?_)
            · have h151 : ¬ (((f_MO_leastOf x7 σ) + v108) = (-2147483648 : Int32)) := h151
              have H := (if_neg h151).symm.trans H
              refine jv_iconst 0 (pc := 158) d_MO_codeNumber_158 rfl ?_
              refine jv_puti (pc := 159) d_MO_codeNumber_159 fa_MO_223_MO fp_MO_20 (by decide) rfl rfl rfl rfl ?_
              refine jv_iload 0 (pc := 162) d_MO_codeNumber_162 rfl ?_
              refine jv_iret (pc := 164) d_MO_codeNumber_164 rfl rfl (Nat.zero_le _) (Nat.zero_le _) ?_
              cases H
              exact jI.of ⟨rfl, rfl⟩
            · have h151 : ((f_MO_leastOf x7 σ) + v108) = (-2147483648 : Int32) := h151
              have H := (if_pos h151).symm.trans H
              refine jv_iconst 1 (pc := 154) d_MO_codeNumber_154 rfl ?_
              refine jv_goto 159 (pc := 155) d_MO_codeNumber_155 rfl ?_
              refine jv_puti (pc := 159) d_MO_codeNumber_159 fa_MO_223_MO fp_MO_20 (by decide) rfl rfl rfl rfl ?_
              refine jv_iload 0 (pc := 162) d_MO_codeNumber_162 rfl ?_
              refine jv_iret (pc := 164) d_MO_codeNumber_164 rfl rfl (Nat.zero_le _) (Nat.zero_le _) ?_
              cases H
              exact jI.of ⟨rfl, rfl⟩
          · have h139 : x7 = 0 := h139
            have H := (if_pos h139).symm.trans H
            refine jv_iload 1 (pc := 142) d_MO_codeNumber_142 rfl ?_
            refine jv_if_eq 154 (pc := 144) d_MO_codeNumber_144 rfl (fun h144 => ?_) (fun h144 => ?_)
            · have h144 : ((f_MO_leastOf x7 σ) + v108) = 0 := h144
              have H := (if_pos h144).symm.trans H
              refine jv_iconst 1 (pc := 154) d_MO_codeNumber_154 rfl ?_
              refine jv_goto 159 (pc := 155) d_MO_codeNumber_155 rfl ?_
              refine jv_puti (pc := 159) d_MO_codeNumber_159 fa_MO_223_MO fp_MO_20 (by decide) rfl rfl rfl rfl ?_
              refine jv_iload 0 (pc := 162) d_MO_codeNumber_162 rfl ?_
              refine jv_iret (pc := 164) d_MO_codeNumber_164 rfl rfl (Nat.zero_le _) (Nat.zero_le _) ?_
              cases H
              exact jI.of ⟨rfl, rfl⟩
            · have h144 : ¬ (((f_MO_leastOf x7 σ) + v108) = 0) := h144
              have H := (if_neg h144).symm.trans H
              refine jv_iload 0 (pc := 147) d_MO_codeNumber_147 rfl ?_
              refine jv_ldc (-2147483648) (pc := 149) d_MO_codeNumber_149 (jin5 23 rfl rfl) ?_
              refine jv_icmp_ne 158 (pc := 151) d_MO_codeNumber_151 rfl (fun h151 => ?_) (fun h151 => ?_)
              · have h151 : ¬ (((f_MO_leastOf x7 σ) + v108) = (-2147483648 : Int32)) := h151
                have H := (if_neg h151).symm.trans H
                refine jv_iconst 0 (pc := 158) d_MO_codeNumber_158 rfl ?_
                refine jv_puti (pc := 159) d_MO_codeNumber_159 fa_MO_223_MO fp_MO_20 (by decide) rfl rfl rfl rfl ?_
                refine jv_iload 0 (pc := 162) d_MO_codeNumber_162 rfl ?_
                refine jv_iret (pc := 164) d_MO_codeNumber_164 rfl rfl (Nat.zero_le _) (Nat.zero_le _) ?_
                cases H
                exact jI.of ⟨rfl, rfl⟩
              · have h151 : ((f_MO_leastOf x7 σ) + v108) = (-2147483648 : Int32) := h151
                have H := (if_pos h151).symm.trans H
                refine jv_iconst 1 (pc := 154) d_MO_codeNumber_154 rfl ?_
                refine jv_goto 159 (pc := 155) d_MO_codeNumber_155 rfl ?_
                refine jv_puti (pc := 159) d_MO_codeNumber_159 fa_MO_223_MO fp_MO_20 (by decide) rfl rfl rfl rfl ?_
                refine jv_iload 0 (pc := 162) d_MO_codeNumber_162 rfl ?_
                refine jv_iret (pc := 164) d_MO_codeNumber_164 rfl rfl (Nat.zero_le _) (Nat.zero_le _) ?_
                cases H
                exact jI.of ⟨rfl, rfl⟩
      · have h117 : x5 = (1 : Int32) := h117
        have H := (if_pos h117).symm.trans H
        refine jv_iload 0 (pc := 120) d_MO_codeNumber_120 rfl ?_
        refine jv_ineg (pc := 122) d_MO_codeNumber_122 ?_
        refine jv_goto 128 (pc := 123) d_MO_codeNumber_123 rfl ?_
        refine jv_istore (pc := 128) d_MO_codeNumber_128 (by decide) (jsto_new rfl) ?_
        refine jv_aload_n 2 (pc := 130) d_MO_codeNumber_130 rfl ?_
        refine jv_iload 7 (pc := 131) d_MO_codeNumber_131 rfl ?_
        refine jv_iconst 1 (pc := 133) d_MO_codeNumber_133 rfl ?_
        refine jv_icmp_ne 147 (pc := 134) d_MO_codeNumber_134 rfl (fun h134 => ?_) (fun h134 => ?_)
        · have h134 : ¬ (x5 = (1 : Int32)) := h134
          have H := (if_neg h134).symm.trans H
          refine jv_iload 0 (pc := 147) d_MO_codeNumber_147 rfl ?_
          refine jv_ldc (-2147483648) (pc := 149) d_MO_codeNumber_149 (jin5 23 rfl rfl) ?_
          refine jv_icmp_ne 158 (pc := 151) d_MO_codeNumber_151 rfl (fun h151 => ?_) (fun h151 => ?_)
          · have h151 : ¬ ((-((f_MO_leastOf x7 σ) + v108)) = (-2147483648 : Int32)) := h151
            have H := (if_neg h151).symm.trans H
            refine jv_iconst 0 (pc := 158) d_MO_codeNumber_158 rfl ?_
            refine jv_puti (pc := 159) d_MO_codeNumber_159 fa_MO_223_MO fp_MO_20 (by decide) rfl rfl rfl rfl ?_
            refine jv_iload 0 (pc := 162) d_MO_codeNumber_162 rfl ?_
            refine jv_iret (pc := 164) d_MO_codeNumber_164 rfl rfl (Nat.zero_le _) (Nat.zero_le _) ?_
            cases H
            exact jI.of ⟨rfl, rfl⟩
          · have h151 : (-((f_MO_leastOf x7 σ) + v108)) = (-2147483648 : Int32) := h151
            have H := (if_pos h151).symm.trans H
            refine jv_iconst 1 (pc := 154) d_MO_codeNumber_154 rfl ?_
            refine jv_goto 159 (pc := 155) d_MO_codeNumber_155 rfl ?_
            refine jv_puti (pc := 159) d_MO_codeNumber_159 fa_MO_223_MO fp_MO_20 (by decide) rfl rfl rfl rfl ?_
            refine jv_iload 0 (pc := 162) d_MO_codeNumber_162 rfl ?_
            refine jv_iret (pc := 164) d_MO_codeNumber_164 rfl rfl (Nat.zero_le _) (Nat.zero_le _) ?_
            cases H
            exact jI.of ⟨rfl, rfl⟩
        · have h134 : x5 = (1 : Int32) := h134
          have H := (if_pos h134).symm.trans H
          refine jv_iload 9 (pc := 137) d_MO_codeNumber_137 rfl ?_
          refine jv_if_ne 147 (pc := 139) d_MO_codeNumber_139 rfl (fun h139 => ?_) (fun h139 => ?_)
          · have h139 : ¬ (x7 = 0) := h139
            have H := (if_neg h139).symm.trans H
            refine jv_iload 0 (pc := 147) d_MO_codeNumber_147 rfl ?_
            refine jv_ldc (-2147483648) (pc := 149) d_MO_codeNumber_149 (jin5 23 rfl rfl) ?_
            refine jv_icmp_ne 158 (pc := 151) d_MO_codeNumber_151 rfl (fun h151 => ?_) (fun h151 => ?_)
            · have h151 : ¬ ((-((f_MO_leastOf x7 σ) + v108)) = (-2147483648 : Int32)) := h151
              have H := (if_neg h151).symm.trans H
              refine jv_iconst 0 (pc := 158) d_MO_codeNumber_158 rfl ?_
              refine jv_puti (pc := 159) d_MO_codeNumber_159 fa_MO_223_MO fp_MO_20 (by decide) rfl rfl rfl rfl ?_
              refine jv_iload 0 (pc := 162) d_MO_codeNumber_162 rfl ?_
              refine jv_iret (pc := 164) d_MO_codeNumber_164 rfl rfl (Nat.zero_le _) (Nat.zero_le _) ?_
              cases H
              exact jI.of ⟨rfl, rfl⟩
            · have h151 : (-((f_MO_leastOf x7 σ) + v108)) = (-2147483648 : Int32) := h151
              have H := (if_pos h151).symm.trans H
              refine jv_iconst 1 (pc := 154) d_MO_codeNumber_154 rfl ?_
              refine jv_goto 159 (pc := 155) d_MO_codeNumber_155 rfl ?_
              refine jv_puti (pc := 159) d_MO_codeNumber_159 fa_MO_223_MO fp_MO_20 (by decide) rfl rfl rfl rfl ?_
              refine jv_iload 0 (pc := 162) d_MO_codeNumber_162 rfl ?_
              refine jv_iret (pc := 164) d_MO_codeNumber_164 rfl rfl (Nat.zero_le _) (Nat.zero_le _) ?_
              cases H
              exact jI.of ⟨rfl, rfl⟩
          · have h139 : x7 = 0 := h139
            have H := (if_pos h139).symm.trans H
            refine jv_iload 1 (pc := 142) d_MO_codeNumber_142 rfl ?_
            refine jv_if_eq 154 (pc := 144) d_MO_codeNumber_144 rfl (fun h144 => ?_) (fun h144 => ?_)
            · have h144 : ((f_MO_leastOf x7 σ) + v108) = 0 := h144
              have H := (if_pos h144).symm.trans H
              refine jv_iconst 1 (pc := 154) d_MO_codeNumber_154 rfl ?_
              refine jv_goto 159 (pc := 155) d_MO_codeNumber_155 rfl ?_
              refine jv_puti (pc := 159) d_MO_codeNumber_159 fa_MO_223_MO fp_MO_20 (by decide) rfl rfl rfl rfl ?_
              refine jv_iload 0 (pc := 162) d_MO_codeNumber_162 rfl ?_
              refine jv_iret (pc := 164) d_MO_codeNumber_164 rfl rfl (Nat.zero_le _) (Nat.zero_le _) ?_
              cases H
              exact jI.of ⟨rfl, rfl⟩
            · have h144 : ¬ (((f_MO_leastOf x7 σ) + v108) = 0) := h144
              have H := (if_neg h144).symm.trans H
              refine jv_iload 0 (pc := 147) d_MO_codeNumber_147 rfl ?_
              refine jv_ldc (-2147483648) (pc := 149) d_MO_codeNumber_149 (jin5 23 rfl rfl) ?_
              refine jv_icmp_ne 158 (pc := 151) d_MO_codeNumber_151 rfl (fun h151 => ?_) (fun h151 => ?_)
              · have h151 : ¬ ((-((f_MO_leastOf x7 σ) + v108)) = (-2147483648 : Int32)) := h151
                have H := (if_neg h151).symm.trans H
                refine jv_iconst 0 (pc := 158) d_MO_codeNumber_158 rfl ?_
                refine jv_puti (pc := 159) d_MO_codeNumber_159 fa_MO_223_MO fp_MO_20 (by decide) rfl rfl rfl rfl ?_
                refine jv_iload 0 (pc := 162) d_MO_codeNumber_162 rfl ?_
                refine jv_iret (pc := 164) d_MO_codeNumber_164 rfl rfl (Nat.zero_le _) (Nat.zero_le _) ?_
                cases H
                exact jI.of ⟨rfl, rfl⟩
              · have h151 : (-((f_MO_leastOf x7 σ) + v108)) = (-2147483648 : Int32) := h151
                have H := (if_pos h151).symm.trans H
                refine jv_iconst 1 (pc := 154) d_MO_codeNumber_154 rfl ?_
                refine jv_goto 159 (pc := 155) d_MO_codeNumber_155 rfl ?_
                refine jv_puti (pc := 159) d_MO_codeNumber_159 fa_MO_223_MO fp_MO_20 (by decide) rfl rfl rfl rfl ?_
                refine jv_iload 0 (pc := 162) d_MO_codeNumber_162 rfl ?_
                refine jv_iret (pc := 164) d_MO_codeNumber_164 rfl rfl (Nat.zero_le _) (Nat.zero_le _) ?_
                cases H
                exact jI.of ⟨rfl, rfl⟩
    · have h58 : ¬ ((5 : Int32) ≤ x7) := h58
      have H := (if_neg h58).symm.trans H
      refine jv_aload_n 0 (pc := 61) d_MO_codeNumber_61 rfl ?_
      refine jv_iload_n 1 (pc := 62) d_MO_codeNumber_62 rfl ?_
      refine jv_iload 7 (pc := 63) d_MO_codeNumber_63 rfl ?_
      refine jv_iload 6 (pc := 65) d_MO_codeNumber_65 rfl ?_
      refine jv_icmp_ge 74 (pc := 67) d_MO_codeNumber_67 rfl (fun h67 => ?_) (fun h67 => ?_)
      · have h67 : x6 ≤ x7 := h67
        have H := (if_pos h67).symm.trans H
        refine jv_iconst 0 (pc := 74) d_MO_codeNumber_74 rfl ?_
        obtain ⟨v75, n75, c75, H⟩ := jbd_some H
        refine jv_callVi (sp_MO_next x1 (0 : Int32) c75) (pc := 75) d_MO_codeNumber_75 c0_MO_next lk_MO_207 in_MO_next se_MO_next (by decide) rfl rfl rfl (Nat.le_of_ble_eq_true rfl) ⟨by decide, by decide, by decide, by decide⟩ (fun r75 m75 h75 => ?_)
        obtain ⟨ha75, hb75⟩ := h75
        have ha75 := ha75.symm
        subst ha75
        have hb75 := hb75.symm
        subst hb75
        refine jv_iconst 1 (pc := 78) d_MO_codeNumber_78 rfl ?_
        refine jv_icmp_ne 88 (pc := 79) d_MO_codeNumber_79 rfl (fun h79 => ?_) (fun h79 => ?_)
        · have h79 : ¬ (v75 = (1 : Int32)) := h79
          have H := (if_neg h79).symm.trans H
          refine jv_iload 7 (pc := 88) d_MO_codeNumber_88 rfl ?_
          refine jv_callSi (sp_MO_leastOf x7) (pc := 90) d_MO_codeNumber_90 c0_MO_leastOf lk_MO_213 si_MO_leastOf rfl (Nat.le_of_ble_eq_true rfl) ⟨by decide, by decide, by decide, by decide⟩ (fun r90 m90 h90 => ?_)
          obtain ⟨ha90, hb90⟩ := h90
          subst ha90
          have hb90 := hb90.symm
          subst hb90
          refine jv_aload_n 0 (pc := 93) d_MO_codeNumber_93 rfl ?_
          refine jv_iload_n 1 (pc := 94) d_MO_codeNumber_94 rfl ?_
          refine jv_iload 7 (pc := 95) d_MO_codeNumber_95 rfl ?_
          refine jv_callSi (sp_MO_bitsOf x7) (pc := 97) d_MO_codeNumber_97 c0_MO_bitsOf lk_MO_216 si_MO_bitsOf rfl (Nat.le_of_ble_eq_true rfl) ⟨by decide, by decide, by decide, by decide⟩ (fun r97 m97 h97 => ?_)
          obtain ⟨ha97, hb97⟩ := h97
          subst ha97
          have hb97 := hb97.symm
          subst hb97
          refine jv_iload 4 (pc := 100) d_MO_codeNumber_100 rfl ?_
          refine jv_iload 7 (pc := 102) d_MO_codeNumber_102 rfl ?_
          refine jv_callSi (sp_MO_leastOf x7) (pc := 104) d_MO_codeNumber_104 c0_MO_leastOf lk_MO_213 si_MO_leastOf rfl (Nat.le_of_ble_eq_true rfl) ⟨by decide, by decide, by decide, by decide⟩ (fun r104 m104 h104 => ?_)
          obtain ⟨ha104, hb104⟩ := h104
          subst ha104
          have hb104 := hb104.symm
          subst hb104
          refine jv_isub (pc := 107) d_MO_codeNumber_107 ?_
          obtain ⟨v108, n108, c108, H⟩ := jbd_some H
          refine jv_callVi (sp_MO_many x1 (f_MO_bitsOf x7 n75) (x4 - (f_MO_leastOf x7 n75)) c108) (pc := 108) d_MO_codeNumber_108 c0_MO_many lk_MO_219 in_MO_many se_MO_many (by decide) rfl rfl rfl (Nat.le_of_ble_eq_true rfl) ⟨by decide, by decide, by decide, by decide⟩ (fun r108 m108 h108 => ?_)
          obtain ⟨ha108, hb108⟩ := h108
          have ha108 := ha108.symm
          subst ha108
          have hb108 := hb108.symm
          subst hb108
          refine jv_iadd (pc := 111) d_MO_codeNumber_111 ?_
          refine jv_istore (pc := 112) d_MO_codeNumber_112 (by decide) (jsto_new rfl) ?_
          refine jv_iload 6 (pc := 114) d_MO_codeNumber_114 rfl ?_
          refine jv_iconst 1 (pc := 116) d_MO_codeNumber_116 rfl ?_
          refine jv_icmp_ne 126 (pc := 117) d_MO_codeNumber_117 rfl (fun h117 => ?_) (fun h117 => ?_)
          · have h117 : ¬ (x5 = (1 : Int32)) := h117
            have H := (if_neg h117).symm.trans H
            refine jv_iload 0 (pc := 126) d_MO_codeNumber_126 rfl ?_
            refine jv_istore (pc := 128) d_MO_codeNumber_128 (by decide) (jsto_new rfl) ?_
            refine jv_aload_n 2 (pc := 130) d_MO_codeNumber_130 rfl ?_
            refine jv_iload 7 (pc := 131) d_MO_codeNumber_131 rfl ?_
            refine jv_iconst 1 (pc := 133) d_MO_codeNumber_133 rfl ?_
            refine jv_icmp_ne 147 (pc := 134) d_MO_codeNumber_134 rfl (fun h134 => ?_) (fun h134 => ?_)
            · have h134 : ¬ (x5 = (1 : Int32)) := h134
              have H := (if_neg h134).symm.trans H
              refine jv_iload 0 (pc := 147) d_MO_codeNumber_147 rfl ?_
              refine jv_ldc (-2147483648) (pc := 149) d_MO_codeNumber_149 (jin5 23 rfl rfl) ?_
              refine jv_icmp_ne 158 (pc := 151) d_MO_codeNumber_151 rfl (fun h151 => ?_) (fun h151 => ?_)
              · have h151 : ¬ (((f_MO_leastOf x7 n75) + v108) = (-2147483648 : Int32)) := h151
                have H := (if_neg h151).symm.trans H
                refine jv_iconst 0 (pc := 158) d_MO_codeNumber_158 rfl ?_
                refine jv_puti (pc := 159) d_MO_codeNumber_159 fa_MO_223_MO fp_MO_20 (by decide) rfl rfl rfl rfl ?_
                refine jv_iload 0 (pc := 162) d_MO_codeNumber_162 rfl ?_
                refine jv_iret (pc := 164) d_MO_codeNumber_164 rfl rfl (Nat.zero_le _) (Nat.zero_le _) ?_
                cases H
                exact jI.of ⟨rfl, rfl⟩
              · have h151 : ((f_MO_leastOf x7 n75) + v108) = (-2147483648 : Int32) := h151
                have H := (if_pos h151).symm.trans H
                refine jv_iconst 1 (pc := 154) d_MO_codeNumber_154 rfl ?_
                refine jv_goto 159 (pc := 155) d_MO_codeNumber_155 rfl ?_
                refine jv_puti (pc := 159) d_MO_codeNumber_159 fa_MO_223_MO fp_MO_20 (by decide) rfl rfl rfl rfl ?_
                refine jv_iload 0 (pc := 162) d_MO_codeNumber_162 rfl ?_
                refine jv_iret (pc := 164) d_MO_codeNumber_164 rfl rfl (Nat.zero_le _) (Nat.zero_le _) ?_
                cases H
                exact jI.of ⟨rfl, rfl⟩
            · have h134 : x5 = (1 : Int32) := h134
              have H := (if_pos h134).symm.trans H
              refine jv_iload 9 (pc := 137) d_MO_codeNumber_137 rfl ?_
              refine jv_if_ne 147 (pc := 139) d_MO_codeNumber_139 rfl (fun h139 => ?_) (fun h139 => ?_)
              · have h139 : ¬ (x7 = 0) := h139
                have H := (if_neg h139).symm.trans H
                refine jv_iload 0 (pc := 147) d_MO_codeNumber_147 rfl ?_
                refine jv_ldc (-2147483648) (pc := 149) d_MO_codeNumber_149 (jin5 23 rfl rfl) ?_
                refine jv_icmp_ne 158 (pc := 151) d_MO_codeNumber_151 rfl (fun h151 => ?_) (fun h151 => ?_)
                · have h151 : ¬ (((f_MO_leastOf x7 n75) + v108) = (-2147483648 : Int32)) := h151
                  have H := (if_neg h151).symm.trans H
                  refine jv_iconst 0 (pc := 158) d_MO_codeNumber_158 rfl ?_
                  refine jv_puti (pc := 159) d_MO_codeNumber_159 fa_MO_223_MO fp_MO_20 (by decide) rfl rfl rfl rfl ?_
                  refine jv_iload 0 (pc := 162) d_MO_codeNumber_162 rfl ?_
                  refine jv_iret (pc := 164) d_MO_codeNumber_164 rfl rfl (Nat.zero_le _) (Nat.zero_le _) ?_
                  cases H
                  exact jI.of ⟨rfl, rfl⟩
                · have h151 : ((f_MO_leastOf x7 n75) + v108) = (-2147483648 : Int32) := h151
                  have H := (if_pos h151).symm.trans H
                  refine jv_iconst 1 (pc := 154) d_MO_codeNumber_154 rfl ?_
                  refine jv_goto 159 (pc := 155) d_MO_codeNumber_155 rfl ?_
                  refine jv_puti (pc := 159) d_MO_codeNumber_159 fa_MO_223_MO fp_MO_20 (by decide) rfl rfl rfl rfl ?_
                  refine jv_iload 0 (pc := 162) d_MO_codeNumber_162 rfl ?_
                  refine jv_iret (pc := 164) d_MO_codeNumber_164 rfl rfl (Nat.zero_le _) (Nat.zero_le _) ?_
                  cases H
                  exact jI.of ⟨rfl, rfl⟩
              · have h139 : x7 = 0 := h139
                have H := (if_pos h139).symm.trans H
                refine jv_iload 1 (pc := 142) d_MO_codeNumber_142 rfl ?_
                refine jv_if_eq 154 (pc := 144) d_MO_codeNumber_144 rfl (fun h144 => ?_) (fun h144 => ?_)
                · have h144 : ((f_MO_leastOf x7 n75) + v108) = 0 := h144
                  have H := (if_pos h144).symm.trans H
                  refine jv_iconst 1 (pc := 154) d_MO_codeNumber_154 rfl ?_
                  refine jv_goto 159 (pc := 155) d_MO_codeNumber_155 rfl ?_
                  refine jv_puti (pc := 159) d_MO_codeNumber_159 fa_MO_223_MO fp_MO_20 (by decide) rfl rfl rfl rfl ?_
                  refine jv_iload 0 (pc := 162) d_MO_codeNumber_162 rfl ?_
                  refine jv_iret (pc := 164) d_MO_codeNumber_164 rfl rfl (Nat.zero_le _) (Nat.zero_le _) ?_
                  cases H
                  exact jI.of ⟨rfl, rfl⟩
                · have h144 : ¬ (((f_MO_leastOf x7 n75) + v108) = 0) := h144
                  have H := (if_neg h144).symm.trans H
                  refine jv_iload 0 (pc := 147) d_MO_codeNumber_147 rfl ?_
                  refine jv_ldc (-2147483648) (pc := 149) d_MO_codeNumber_149 (jin5 23 rfl rfl) ?_
                  refine jv_icmp_ne 158 (pc := 151) d_MO_codeNumber_151 rfl (fun h151 => ?_) (fun h151 => ?_)
                  · have h151 : ¬ (((f_MO_leastOf x7 n75) + v108) = (-2147483648 : Int32)) := h151
                    have H := (if_neg h151).symm.trans H
                    refine jv_iconst 0 (pc := 158) d_MO_codeNumber_158 rfl ?_
                    refine jv_puti (pc := 159) d_MO_codeNumber_159 fa_MO_223_MO fp_MO_20 (by decide) rfl rfl rfl rfl ?_
                    refine jv_iload 0 (pc := 162) d_MO_codeNumber_162 rfl ?_
                    refine jv_iret (pc := 164) d_MO_codeNumber_164 rfl rfl (Nat.zero_le _) (Nat.zero_le _) ?_
                    cases H
                    exact jI.of ⟨rfl, rfl⟩
                  · have h151 : ((f_MO_leastOf x7 n75) + v108) = (-2147483648 : Int32) := h151
                    have H := (if_pos h151).symm.trans H
                    refine jv_iconst 1 (pc := 154) d_MO_codeNumber_154 rfl ?_
                    refine jv_goto 159 (pc := 155) d_MO_codeNumber_155 rfl ?_
                    refine jv_puti (pc := 159) d_MO_codeNumber_159 fa_MO_223_MO fp_MO_20 (by decide) rfl rfl rfl rfl ?_
                    refine jv_iload 0 (pc := 162) d_MO_codeNumber_162 rfl ?_
                    refine jv_iret (pc := 164) d_MO_codeNumber_164 rfl rfl (Nat.zero_le _) (Nat.zero_le _) ?_
                    cases H
                    exact jI.of ⟨rfl, rfl⟩
          · have h117 : x5 = (1 : Int32) := h117
            have H := (if_pos h117).symm.trans H
            refine jv_iload 0 (pc := 120) d_MO_codeNumber_120 rfl ?_
            refine jv_ineg (pc := 122) d_MO_codeNumber_122 ?_
            refine jv_goto 128 (pc := 123) d_MO_codeNumber_123 rfl ?_
            refine jv_istore (pc := 128) d_MO_codeNumber_128 (by decide) (jsto_new rfl) ?_
            refine jv_aload_n 2 (pc := 130) d_MO_codeNumber_130 rfl ?_
            refine jv_iload 7 (pc := 131) d_MO_codeNumber_131 rfl ?_
            refine jv_iconst 1 (pc := 133) d_MO_codeNumber_133 rfl ?_
            refine jv_icmp_ne 147 (pc := 134) d_MO_codeNumber_134 rfl (fun h134 => ?_) (fun h134 => ?_)
            · have h134 : ¬ (x5 = (1 : Int32)) := h134
              have H := (if_neg h134).symm.trans H
              refine jv_iload 0 (pc := 147) d_MO_codeNumber_147 rfl ?_
              refine jv_ldc (-2147483648) (pc := 149) d_MO_codeNumber_149 (jin5 23 rfl rfl) ?_
              refine jv_icmp_ne 158 (pc := 151) d_MO_codeNumber_151 rfl (fun h151 => ?_) (fun h151 => ?_)
              · have h151 : ¬ ((-((f_MO_leastOf x7 n75) + v108)) = (-2147483648 : Int32)) := h151
                have H := (if_neg h151).symm.trans H
                refine jv_iconst 0 (pc := 158) d_MO_codeNumber_158 rfl ?_
                refine jv_puti (pc := 159) d_MO_codeNumber_159 fa_MO_223_MO fp_MO_20 (by decide) rfl rfl rfl rfl ?_
                refine jv_iload 0 (pc := 162) d_MO_codeNumber_162 rfl ?_
                refine jv_iret (pc := 164) d_MO_codeNumber_164 rfl rfl (Nat.zero_le _) (Nat.zero_le _) ?_
                cases H
                exact jI.of ⟨rfl, rfl⟩
              · have h151 : (-((f_MO_leastOf x7 n75) + v108)) = (-2147483648 : Int32) := h151
                have H := (if_pos h151).symm.trans H
                refine jv_iconst 1 (pc := 154) d_MO_codeNumber_154 rfl ?_
                refine jv_goto 159 (pc := 155) d_MO_codeNumber_155 rfl ?_
                refine jv_puti (pc := 159) d_MO_codeNumber_159 fa_MO_223_MO fp_MO_20 (by decide) rfl rfl rfl rfl ?_
                refine jv_iload 0 (pc := 162) d_MO_codeNumber_162 rfl ?_
                refine jv_iret (pc := 164) d_MO_codeNumber_164 rfl rfl (Nat.zero_le _) (Nat.zero_le _) ?_
                cases H
                exact jI.of ⟨rfl, rfl⟩
            · have h134 : x5 = (1 : Int32) := h134
              have H := (if_pos h134).symm.trans H
              refine jv_iload 9 (pc := 137) d_MO_codeNumber_137 rfl ?_
              refine jv_if_ne 147 (pc := 139) d_MO_codeNumber_139 rfl (fun h139 => ?_) (fun h139 => ?_)
              · have h139 : ¬ (x7 = 0) := h139
                have H := (if_neg h139).symm.trans H
                refine jv_iload 0 (pc := 147) d_MO_codeNumber_147 rfl ?_
                refine jv_ldc (-2147483648) (pc := 149) d_MO_codeNumber_149 (jin5 23 rfl rfl) ?_
                refine jv_icmp_ne 158 (pc := 151) d_MO_codeNumber_151 rfl (fun h151 => ?_) (fun h151 => ?_)
                · have h151 : ¬ ((-((f_MO_leastOf x7 n75) + v108)) = (-2147483648 : Int32)) := h151
                  have H := (if_neg h151).symm.trans H
                  refine jv_iconst 0 (pc := 158) d_MO_codeNumber_158 rfl ?_
                  refine jv_puti (pc := 159) d_MO_codeNumber_159 fa_MO_223_MO fp_MO_20 (by decide) rfl rfl rfl rfl ?_
                  refine jv_iload 0 (pc := 162) d_MO_codeNumber_162 rfl ?_
                  refine jv_iret (pc := 164) d_MO_codeNumber_164 rfl rfl (Nat.zero_le _) (Nat.zero_le _) ?_
                  cases H
                  exact jI.of ⟨rfl, rfl⟩
                · have h151 : (-((f_MO_leastOf x7 n75) + v108)) = (-2147483648 : Int32) := h151
                  have H := (if_pos h151).symm.trans H
                  refine jv_iconst 1 (pc := 154) d_MO_codeNumber_154 rfl ?_
                  refine jv_goto 159 (pc := 155) d_MO_codeNumber_155 rfl ?_
                  refine jv_puti (pc := 159) d_MO_codeNumber_159 fa_MO_223_MO fp_MO_20 (by decide) rfl rfl rfl rfl ?_
                  refine jv_iload 0 (pc := 162) d_MO_codeNumber_162 rfl ?_
                  refine jv_iret (pc := 164) d_MO_codeNumber_164 rfl rfl (Nat.zero_le _) (Nat.zero_le _) ?_
                  cases H
                  exact jI.of ⟨rfl, rfl⟩
              · have h139 : x7 = 0 := h139
                have H := (if_pos h139).symm.trans H
                refine jv_iload 1 (pc := 142) d_MO_codeNumber_142 rfl ?_
                refine jv_if_eq 154 (pc := 144) d_MO_codeNumber_144 rfl (fun h144 => ?_) (fun h144 => ?_)
                · have h144 : ((f_MO_leastOf x7 n75) + v108) = 0 := h144
                  have H := (if_pos h144).symm.trans H
                  refine jv_iconst 1 (pc := 154) d_MO_codeNumber_154 rfl ?_
                  refine jv_goto 159 (pc := 155) d_MO_codeNumber_155 rfl ?_
                  refine jv_puti (pc := 159) d_MO_codeNumber_159 fa_MO_223_MO fp_MO_20 (by decide) rfl rfl rfl rfl ?_
                  refine jv_iload 0 (pc := 162) d_MO_codeNumber_162 rfl ?_
                  refine jv_iret (pc := 164) d_MO_codeNumber_164 rfl rfl (Nat.zero_le _) (Nat.zero_le _) ?_
                  cases H
                  exact jI.of ⟨rfl, rfl⟩
                · have h144 : ¬ (((f_MO_leastOf x7 n75) + v108) = 0) := h144
                  have H := (if_neg h144).symm.trans H
                  refine jv_iload 0 (pc := 147) d_MO_codeNumber_147 rfl ?_
                  refine jv_ldc (-2147483648) (pc := 149) d_MO_codeNumber_149 (jin5 23 rfl rfl) ?_
                  refine jv_icmp_ne 158 (pc := 151) d_MO_codeNumber_151 rfl (fun h151 => ?_) (fun h151 => ?_)
                  · have h151 : ¬ ((-((f_MO_leastOf x7 n75) + v108)) = (-2147483648 : Int32)) := h151
                    have H := (if_neg h151).symm.trans H
                    refine jv_iconst 0 (pc := 158) d_MO_codeNumber_158 rfl ?_
                    refine jv_puti (pc := 159) d_MO_codeNumber_159 fa_MO_223_MO fp_MO_20 (by decide) rfl rfl rfl rfl ?_
                    refine jv_iload 0 (pc := 162) d_MO_codeNumber_162 rfl ?_
                    refine jv_iret (pc := 164) d_MO_codeNumber_164 rfl rfl (Nat.zero_le _) (Nat.zero_le _) ?_
                    cases H
                    exact jI.of ⟨rfl, rfl⟩
                  · have h151 : (-((f_MO_leastOf x7 n75) + v108)) = (-2147483648 : Int32) := h151
                    have H := (if_pos h151).symm.trans H
                    refine jv_iconst 1 (pc := 154) d_MO_codeNumber_154 rfl ?_
                    refine jv_goto 159 (pc := 155) d_MO_codeNumber_155 rfl ?_
                    refine jv_puti (pc := 159) d_MO_codeNumber_159 fa_MO_223_MO fp_MO_20 (by decide) rfl rfl rfl rfl ?_
                    refine jv_iload 0 (pc := 162) d_MO_codeNumber_162 rfl ?_
                    refine jv_iret (pc := 164) d_MO_codeNumber_164 rfl rfl (Nat.zero_le _) (Nat.zero_le _) ?_
                    cases H
                    exact jI.of ⟨rfl, rfl⟩
        · have h79 : v75 = (1 : Int32) := h79
          have H := (if_pos h79).symm.trans H
          refine jv_iinc 7 _ (pc := 82) d_MO_codeNumber_82 rfl (jinc1 _) (by decide) (jst7 rfl) ?_
          refine jv_goto 55 (pc := 85) d_MO_codeNumber_85 rfl ?_
          exact jv_sub [0, 1, 2, 3, 4, 5, 6, 7] rfl (ih x1 x2 x3 x4 x5 x6 (x7 + 1) _ _ _ H)
      · have h67 : ¬ (x6 ≤ x7) := h67
        have H := (if_neg h67).symm.trans H
        refine jv_iconst 1 (pc := 70) d_MO_codeNumber_70 rfl ?_
        refine jv_goto 75 (pc := 71) d_MO_codeNumber_71 rfl ?_
        obtain ⟨v75, n75, c75, H⟩ := jbd_some H
        refine jv_callVi (sp_MO_next x1 (1 : Int32) c75) (pc := 75) d_MO_codeNumber_75 c0_MO_next lk_MO_207 in_MO_next se_MO_next (by decide) rfl rfl rfl (Nat.le_of_ble_eq_true rfl) ⟨by decide, by decide, by decide, by decide⟩ (fun r75 m75 h75 => ?_)
        obtain ⟨ha75, hb75⟩ := h75
        have ha75 := ha75.symm
        subst ha75
        have hb75 := hb75.symm
        subst hb75
        refine jv_iconst 1 (pc := 78) d_MO_codeNumber_78 rfl ?_
        refine jv_icmp_ne 88 (pc := 79) d_MO_codeNumber_79 rfl (fun h79 => ?_) (fun h79 => ?_)
        · have h79 : ¬ (v75 = (1 : Int32)) := h79
          have H := (if_neg h79).symm.trans H
          refine jv_iload 7 (pc := 88) d_MO_codeNumber_88 rfl ?_
          refine jv_callSi (sp_MO_leastOf x7) (pc := 90) d_MO_codeNumber_90 c0_MO_leastOf lk_MO_213 si_MO_leastOf rfl (Nat.le_of_ble_eq_true rfl) ⟨by decide, by decide, by decide, by decide⟩ (fun r90 m90 h90 => ?_)
          obtain ⟨ha90, hb90⟩ := h90
          subst ha90
          have hb90 := hb90.symm
          subst hb90
          refine jv_aload_n 0 (pc := 93) d_MO_codeNumber_93 rfl ?_
          refine jv_iload_n 1 (pc := 94) d_MO_codeNumber_94 rfl ?_
          refine jv_iload 7 (pc := 95) d_MO_codeNumber_95 rfl ?_
          refine jv_callSi (sp_MO_bitsOf x7) (pc := 97) d_MO_codeNumber_97 c0_MO_bitsOf lk_MO_216 si_MO_bitsOf rfl (Nat.le_of_ble_eq_true rfl) ⟨by decide, by decide, by decide, by decide⟩ (fun r97 m97 h97 => ?_)
          obtain ⟨ha97, hb97⟩ := h97
          subst ha97
          have hb97 := hb97.symm
          subst hb97
          refine jv_iload 4 (pc := 100) d_MO_codeNumber_100 rfl ?_
          refine jv_iload 7 (pc := 102) d_MO_codeNumber_102 rfl ?_
          refine jv_callSi (sp_MO_leastOf x7) (pc := 104) d_MO_codeNumber_104 c0_MO_leastOf lk_MO_213 si_MO_leastOf rfl (Nat.le_of_ble_eq_true rfl) ⟨by decide, by decide, by decide, by decide⟩ (fun r104 m104 h104 => ?_)
          obtain ⟨ha104, hb104⟩ := h104
          subst ha104
          have hb104 := hb104.symm
          subst hb104
          refine jv_isub (pc := 107) d_MO_codeNumber_107 ?_
          obtain ⟨v108, n108, c108, H⟩ := jbd_some H
          refine jv_callVi (sp_MO_many x1 (f_MO_bitsOf x7 n75) (x4 - (f_MO_leastOf x7 n75)) c108) (pc := 108) d_MO_codeNumber_108 c0_MO_many lk_MO_219 in_MO_many se_MO_many (by decide) rfl rfl rfl (Nat.le_of_ble_eq_true rfl) ⟨by decide, by decide, by decide, by decide⟩ (fun r108 m108 h108 => ?_)
          obtain ⟨ha108, hb108⟩ := h108
          have ha108 := ha108.symm
          subst ha108
          have hb108 := hb108.symm
          subst hb108
          refine jv_iadd (pc := 111) d_MO_codeNumber_111 ?_
          refine jv_istore (pc := 112) d_MO_codeNumber_112 (by decide) (jsto_new rfl) ?_
          refine jv_iload 6 (pc := 114) d_MO_codeNumber_114 rfl ?_
          refine jv_iconst 1 (pc := 116) d_MO_codeNumber_116 rfl ?_
          refine jv_icmp_ne 126 (pc := 117) d_MO_codeNumber_117 rfl (fun h117 => ?_) (fun h117 => ?_)
          · have h117 : ¬ (x5 = (1 : Int32)) := h117
            have H := (if_neg h117).symm.trans H
            refine jv_iload 0 (pc := 126) d_MO_codeNumber_126 rfl ?_
            refine jv_istore (pc := 128) d_MO_codeNumber_128 (by decide) (jsto_new rfl) ?_
            refine jv_aload_n 2 (pc := 130) d_MO_codeNumber_130 rfl ?_
            refine jv_iload 7 (pc := 131) d_MO_codeNumber_131 rfl ?_
            refine jv_iconst 1 (pc := 133) d_MO_codeNumber_133 rfl ?_
            refine jv_icmp_ne 147 (pc := 134) d_MO_codeNumber_134 rfl (fun h134 => ?_) (fun h134 => ?_)
            · have h134 : ¬ (x5 = (1 : Int32)) := h134
              have H := (if_neg h134).symm.trans H
              refine jv_iload 0 (pc := 147) d_MO_codeNumber_147 rfl ?_
              refine jv_ldc (-2147483648) (pc := 149) d_MO_codeNumber_149 (jin5 23 rfl rfl) ?_
              refine jv_icmp_ne 158 (pc := 151) d_MO_codeNumber_151 rfl (fun h151 => ?_) (fun h151 => ?_)
              · have h151 : ¬ (((f_MO_leastOf x7 n75) + v108) = (-2147483648 : Int32)) := h151
                have H := (if_neg h151).symm.trans H
                refine jv_iconst 0 (pc := 158) d_MO_codeNumber_158 rfl ?_
                refine jv_puti (pc := 159) d_MO_codeNumber_159 fa_MO_223_MO fp_MO_20 (by decide) rfl rfl rfl rfl ?_
                refine jv_iload 0 (pc := 162) d_MO_codeNumber_162 rfl ?_
                refine jv_iret (pc := 164) d_MO_codeNumber_164 rfl rfl (Nat.zero_le _) (Nat.zero_le _) ?_
                cases H
                exact jI.of ⟨rfl, rfl⟩
              · have h151 : ((f_MO_leastOf x7 n75) + v108) = (-2147483648 : Int32) := h151
                have H := (if_pos h151).symm.trans H
                refine jv_iconst 1 (pc := 154) d_MO_codeNumber_154 rfl ?_
                refine jv_goto 159 (pc := 155) d_MO_codeNumber_155 rfl ?_
                refine jv_puti (pc := 159) d_MO_codeNumber_159 fa_MO_223_MO fp_MO_20 (by decide) rfl rfl rfl rfl ?_
                refine jv_iload 0 (pc := 162) d_MO_codeNumber_162 rfl ?_
                refine jv_iret (pc := 164) d_MO_codeNumber_164 rfl rfl (Nat.zero_le _) (Nat.zero_le _) ?_
                cases H
                exact jI.of ⟨rfl, rfl⟩
            · have h134 : x5 = (1 : Int32) := h134
              have H := (if_pos h134).symm.trans H
              refine jv_iload 9 (pc := 137) d_MO_codeNumber_137 rfl ?_
              refine jv_if_ne 147 (pc := 139) d_MO_codeNumber_139 rfl (fun h139 => ?_) (fun h139 => ?_)
              · have h139 : ¬ (x7 = 0) := h139
                have H := (if_neg h139).symm.trans H
                refine jv_iload 0 (pc := 147) d_MO_codeNumber_147 rfl ?_
                refine jv_ldc (-2147483648) (pc := 149) d_MO_codeNumber_149 (jin5 23 rfl rfl) ?_
                refine jv_icmp_ne 158 (pc := 151) d_MO_codeNumber_151 rfl (fun h151 => ?_) (fun h151 => ?_)
                · have h151 : ¬ (((f_MO_leastOf x7 n75) + v108) = (-2147483648 : Int32)) := h151
                  have H := (if_neg h151).symm.trans H
                  refine jv_iconst 0 (pc := 158) d_MO_codeNumber_158 rfl ?_
                  refine jv_puti (pc := 159) d_MO_codeNumber_159 fa_MO_223_MO fp_MO_20 (by decide) rfl rfl rfl rfl ?_
                  refine jv_iload 0 (pc := 162) d_MO_codeNumber_162 rfl ?_
                  refine jv_iret (pc := 164) d_MO_codeNumber_164 rfl rfl (Nat.zero_le _) (Nat.zero_le _) ?_
                  cases H
                  exact jI.of ⟨rfl, rfl⟩
                · have h151 : ((f_MO_leastOf x7 n75) + v108) = (-2147483648 : Int32) := h151
                  have H := (if_pos h151).symm.trans H
                  refine jv_iconst 1 (pc := 154) d_MO_codeNumber_154 rfl ?_
                  refine jv_goto 159 (pc := 155) d_MO_codeNumber_155 rfl ?_
                  refine jv_puti (pc := 159) d_MO_codeNumber_159 fa_MO_223_MO fp_MO_20 (by decide) rfl rfl rfl rfl ?_
                  refine jv_iload 0 (pc := 162) d_MO_codeNumber_162 rfl ?_
                  refine jv_iret (pc := 164) d_MO_codeNumber_164 rfl rfl (Nat.zero_le _) (Nat.zero_le _) ?_
                  cases H
                  exact jI.of ⟨rfl, rfl⟩
              · have h139 : x7 = 0 := h139
                have H := (if_pos h139).symm.trans H
                refine jv_iload 1 (pc := 142) d_MO_codeNumber_142 rfl ?_
                refine jv_if_eq 154 (pc := 144) d_MO_codeNumber_144 rfl (fun h144 => ?_) (fun h144 => ?_)
                · have h144 : ((f_MO_leastOf x7 n75) + v108) = 0 := h144
                  have H := (if_pos h144).symm.trans H
                  refine jv_iconst 1 (pc := 154) d_MO_codeNumber_154 rfl ?_
                  refine jv_goto 159 (pc := 155) d_MO_codeNumber_155 rfl ?_
                  refine jv_puti (pc := 159) d_MO_codeNumber_159 fa_MO_223_MO fp_MO_20 (by decide) rfl rfl rfl rfl ?_
                  refine jv_iload 0 (pc := 162) d_MO_codeNumber_162 rfl ?_
                  refine jv_iret (pc := 164) d_MO_codeNumber_164 rfl rfl (Nat.zero_le _) (Nat.zero_le _) ?_
                  cases H
                  exact jI.of ⟨rfl, rfl⟩
                · have h144 : ¬ (((f_MO_leastOf x7 n75) + v108) = 0) := h144
                  have H := (if_neg h144).symm.trans H
                  refine jv_iload 0 (pc := 147) d_MO_codeNumber_147 rfl ?_
                  refine jv_ldc (-2147483648) (pc := 149) d_MO_codeNumber_149 (jin5 23 rfl rfl) ?_
                  refine jv_icmp_ne 158 (pc := 151) d_MO_codeNumber_151 rfl (fun h151 => ?_) (fun h151 => ?_)
                  · have h151 : ¬ (((f_MO_leastOf x7 n75) + v108) = (-2147483648 : Int32)) := h151
                    have H := (if_neg h151).symm.trans H
                    refine jv_iconst 0 (pc := 158) d_MO_codeNumber_158 rfl ?_
                    refine jv_puti (pc := 159) d_MO_codeNumber_159 fa_MO_223_MO fp_MO_20 (by decide) rfl rfl rfl rfl ?_
                    refine jv_iload 0 (pc := 162) d_MO_codeNumber_162 rfl ?_
                    refine jv_iret (pc := 164) d_MO_codeNumber_164 rfl rfl (Nat.zero_le _) (Nat.zero_le _) ?_
                    cases H
                    exact jI.of ⟨rfl, rfl⟩
                  · have h151 : ((f_MO_leastOf x7 n75) + v108) = (-2147483648 : Int32) := h151
                    have H := (if_pos h151).symm.trans H
                    refine jv_iconst 1 (pc := 154) d_MO_codeNumber_154 rfl ?_
                    refine jv_goto 159 (pc := 155) d_MO_codeNumber_155 rfl ?_
                    refine jv_puti (pc := 159) d_MO_codeNumber_159 fa_MO_223_MO fp_MO_20 (by decide) rfl rfl rfl rfl ?_
                    refine jv_iload 0 (pc := 162) d_MO_codeNumber_162 rfl ?_
                    refine jv_iret (pc := 164) d_MO_codeNumber_164 rfl rfl (Nat.zero_le _) (Nat.zero_le _) ?_
                    cases H
                    exact jI.of ⟨rfl, rfl⟩
          · have h117 : x5 = (1 : Int32) := h117
            have H := (if_pos h117).symm.trans H
            refine jv_iload 0 (pc := 120) d_MO_codeNumber_120 rfl ?_
            refine jv_ineg (pc := 122) d_MO_codeNumber_122 ?_
            refine jv_goto 128 (pc := 123) d_MO_codeNumber_123 rfl ?_
            refine jv_istore (pc := 128) d_MO_codeNumber_128 (by decide) (jsto_new rfl) ?_
            refine jv_aload_n 2 (pc := 130) d_MO_codeNumber_130 rfl ?_
            refine jv_iload 7 (pc := 131) d_MO_codeNumber_131 rfl ?_
            refine jv_iconst 1 (pc := 133) d_MO_codeNumber_133 rfl ?_
            refine jv_icmp_ne 147 (pc := 134) d_MO_codeNumber_134 rfl (fun h134 => ?_) (fun h134 => ?_)
            · have h134 : ¬ (x5 = (1 : Int32)) := h134
              have H := (if_neg h134).symm.trans H
              refine jv_iload 0 (pc := 147) d_MO_codeNumber_147 rfl ?_
              refine jv_ldc (-2147483648) (pc := 149) d_MO_codeNumber_149 (jin5 23 rfl rfl) ?_
              refine jv_icmp_ne 158 (pc := 151) d_MO_codeNumber_151 rfl (fun h151 => ?_) (fun h151 => ?_)
              · have h151 : ¬ ((-((f_MO_leastOf x7 n75) + v108)) = (-2147483648 : Int32)) := h151
                have H := (if_neg h151).symm.trans H
                refine jv_iconst 0 (pc := 158) d_MO_codeNumber_158 rfl ?_
                refine jv_puti (pc := 159) d_MO_codeNumber_159 fa_MO_223_MO fp_MO_20 (by decide) rfl rfl rfl rfl ?_
                refine jv_iload 0 (pc := 162) d_MO_codeNumber_162 rfl ?_
                refine jv_iret (pc := 164) d_MO_codeNumber_164 rfl rfl (Nat.zero_le _) (Nat.zero_le _) ?_
                cases H
                exact jI.of ⟨rfl, rfl⟩
              · have h151 : (-((f_MO_leastOf x7 n75) + v108)) = (-2147483648 : Int32) := h151
                have H := (if_pos h151).symm.trans H
                refine jv_iconst 1 (pc := 154) d_MO_codeNumber_154 rfl ?_
                refine jv_goto 159 (pc := 155) d_MO_codeNumber_155 rfl ?_
                refine jv_puti (pc := 159) d_MO_codeNumber_159 fa_MO_223_MO fp_MO_20 (by decide) rfl rfl rfl rfl ?_
                refine jv_iload 0 (pc := 162) d_MO_codeNumber_162 rfl ?_
                refine jv_iret (pc := 164) d_MO_codeNumber_164 rfl rfl (Nat.zero_le _) (Nat.zero_le _) ?_
                cases H
                exact jI.of ⟨rfl, rfl⟩
            · have h134 : x5 = (1 : Int32) := h134
              have H := (if_pos h134).symm.trans H
              refine jv_iload 9 (pc := 137) d_MO_codeNumber_137 rfl ?_
              refine jv_if_ne 147 (pc := 139) d_MO_codeNumber_139 rfl (fun h139 => ?_) (fun h139 => ?_)
              · have h139 : ¬ (x7 = 0) := h139
                have H := (if_neg h139).symm.trans H
                refine jv_iload 0 (pc := 147) d_MO_codeNumber_147 rfl ?_
                refine jv_ldc (-2147483648) (pc := 149) d_MO_codeNumber_149 (jin5 23 rfl rfl) ?_
                refine jv_icmp_ne 158 (pc := 151) d_MO_codeNumber_151 rfl (fun h151 => ?_) (fun h151 => ?_)
                · have h151 : ¬ ((-((f_MO_leastOf x7 n75) + v108)) = (-2147483648 : Int32)) := h151
                  have H := (if_neg h151).symm.trans H
                  refine jv_iconst 0 (pc := 158) d_MO_codeNumber_158 rfl ?_
                  refine jv_puti (pc := 159) d_MO_codeNumber_159 fa_MO_223_MO fp_MO_20 (by decide) rfl rfl rfl rfl ?_
                  refine jv_iload 0 (pc := 162) d_MO_codeNumber_162 rfl ?_
                  refine jv_iret (pc := 164) d_MO_codeNumber_164 rfl rfl (Nat.zero_le _) (Nat.zero_le _) ?_
                  cases H
                  exact jI.of ⟨rfl, rfl⟩
                · have h151 : (-((f_MO_leastOf x7 n75) + v108)) = (-2147483648 : Int32) := h151
                  have H := (if_pos h151).symm.trans H
                  refine jv_iconst 1 (pc := 154) d_MO_codeNumber_154 rfl ?_
                  refine jv_goto 159 (pc := 155) d_MO_codeNumber_155 rfl ?_
                  refine jv_puti (pc := 159) d_MO_codeNumber_159 fa_MO_223_MO fp_MO_20 (by decide) rfl rfl rfl rfl ?_
                  refine jv_iload 0 (pc := 162) d_MO_codeNumber_162 rfl ?_
                  refine jv_iret (pc := 164) d_MO_codeNumber_164 rfl rfl (Nat.zero_le _) (Nat.zero_le _) ?_
                  cases H
                  exact jI.of ⟨rfl, rfl⟩
              · have h139 : x7 = 0 := h139
                have H := (if_pos h139).symm.trans H
                refine jv_iload 1 (pc := 142) d_MO_codeNumber_142 rfl ?_
                refine jv_if_eq 154 (pc := 144) d_MO_codeNumber_144 rfl (fun h144 => ?_) (fun h144 => ?_)
                · have h144 : ((f_MO_leastOf x7 n75) + v108) = 0 := h144
                  have H := (if_pos h144).symm.trans H
                  refine jv_iconst 1 (pc := 154) d_MO_codeNumber_154 rfl ?_
                  refine jv_goto 159 (pc := 155) d_MO_codeNumber_155 rfl ?_
                  refine jv_puti (pc := 159) d_MO_codeNumber_159 fa_MO_223_MO fp_MO_20 (by decide) rfl rfl rfl rfl ?_
                  refine jv_iload 0 (pc := 162) d_MO_codeNumber_162 rfl ?_
                  refine jv_iret (pc := 164) d_MO_codeNumber_164 rfl rfl (Nat.zero_le _) (Nat.zero_le _) ?_
                  cases H
                  exact jI.of ⟨rfl, rfl⟩
                · have h144 : ¬ (((f_MO_leastOf x7 n75) + v108) = 0) := h144
                  have H := (if_neg h144).symm.trans H
                  refine jv_iload 0 (pc := 147) d_MO_codeNumber_147 rfl ?_
                  refine jv_ldc (-2147483648) (pc := 149) d_MO_codeNumber_149 (jin5 23 rfl rfl) ?_
                  refine jv_icmp_ne 158 (pc := 151) d_MO_codeNumber_151 rfl (fun h151 => ?_) (fun h151 => ?_)
                  · have h151 : ¬ ((-((f_MO_leastOf x7 n75) + v108)) = (-2147483648 : Int32)) := h151
                    have H := (if_neg h151).symm.trans H
                    refine jv_iconst 0 (pc := 158) d_MO_codeNumber_158 rfl ?_
                    refine jv_puti (pc := 159) d_MO_codeNumber_159 fa_MO_223_MO fp_MO_20 (by decide) rfl rfl rfl rfl ?_
                    refine jv_iload 0 (pc := 162) d_MO_codeNumber_162 rfl ?_
                    refine jv_iret (pc := 164) d_MO_codeNumber_164 rfl rfl (Nat.zero_le _) (Nat.zero_le _) ?_
                    cases H
                    exact jI.of ⟨rfl, rfl⟩
                  · have h151 : (-((f_MO_leastOf x7 n75) + v108)) = (-2147483648 : Int32) := h151
                    have H := (if_pos h151).symm.trans H
                    refine jv_iconst 1 (pc := 154) d_MO_codeNumber_154 rfl ?_
                    refine jv_goto 159 (pc := 155) d_MO_codeNumber_155 rfl ?_
                    refine jv_puti (pc := 159) d_MO_codeNumber_159 fa_MO_223_MO fp_MO_20 (by decide) rfl rfl rfl rfl ?_
                    refine jv_iload 0 (pc := 162) d_MO_codeNumber_162 rfl ?_
                    refine jv_iret (pc := 164) d_MO_codeNumber_164 rfl rfl (Nat.zero_le _) (Nat.zero_le _) ?_
                    cases H
                    exact jI.of ⟨rfl, rfl⟩
        · have h79 : v75 = (1 : Int32) := h79
          have H := (if_pos h79).symm.trans H
          refine jv_iinc 7 _ (pc := 82) d_MO_codeNumber_82 rfl (jinc1 _) (by decide) (jst7 rfl) ?_
          refine jv_goto 55 (pc := 85) d_MO_codeNumber_85 rfl ?_
          exact jv_sub [0, 1, 2, 3, 4, 5, 6, 7] rfl (ih x1 x2 x3 x4 x5 x6 (x7 + 1) _ _ _ H)
set_option maxRecDepth 40000 in
set_option maxHeartbeats 8000000 in
theorem sp_MO_codeNumber {G : jG} {σ τ : jMem} {r : Int32} (x1 x2 x3 : Int32) (H : f_MO_codeNumber x1 x2 x3 σ = some (r, τ)) : jSp G M_MO_codeNumber (jr 7 0 0) [.ref 38, .int x1, .int x2, .int x3] σ (jI fun r9 τ9 => r9 = r ∧ τ9 = τ) := by
  refine jSp.of rfl rfl (Nat.le_of_ble_eq_true rfl) ?_
  show jV _ _ _ _ 0 0 0 [(0, .ref 38), (1, .int x1), (2, .int x2), (3, .int x3)] [] σ
  unfold f_MO_codeNumber at H
  refine jv_aload_n 0 (pc := 0) d_MO_codeNumber_0 rfl ?_
  refine jv_iconst 1 (pc := 1) d_MO_codeNumber_1 rfl ?_
  refine jv_puti (pc := 2) d_MO_codeNumber_2 fa_MO_204_MO fp_MO_19 (by decide) rfl rfl rfl rfl ?_
  refine jv_iload_n 3 (pc := 5) d_MO_codeNumber_5 rfl ?_
  refine jv_if_eq 13 (pc := 6) d_MO_codeNumber_6 rfl (fun h6 => ?_) (fun h6 => ?_)
  · have h6 : x3 = 0 := h6
    have H := (if_pos h6).symm.trans H
    refine jv_iload_n 2 (pc := 13) d_MO_codeNumber_13 rfl ?_
    refine jv_if_ge 22 (pc := 14) d_MO_codeNumber_14 rfl (fun h14 => ?_) (fun h14 => ?_)
    · have h14 : 0 ≤ x2 := h14
      have H := (if_pos h14).symm.trans H
      refine jv_iload_n 2 (pc := 22) d_MO_codeNumber_22 rfl ?_
      refine jv_istore (pc := 23) d_MO_codeNumber_23 (by decide) (jsto_new rfl) ?_
      refine jv_aload_n 1 (pc := 25) d_MO_codeNumber_25 rfl ?_
      refine jv_iload_n 2 (pc := 26) d_MO_codeNumber_26 rfl ?_
      refine jv_iload_n 4 (pc := 27) d_MO_codeNumber_27 rfl ?_
      refine jv_if_ne 35 (pc := 28) d_MO_codeNumber_28 rfl (fun h28 => ?_) (fun h28 => ?_)
      · have h28 : ¬ (x3 = 0) := h28
        have H := (if_neg h28).symm.trans H
        refine jv_iconst 1 (pc := 35) d_MO_codeNumber_35 rfl ?_
        refine jv_goto 40 (pc := 36) d_MO_codeNumber_36 rfl ?_
        obtain ⟨v40, n40, c40, H⟩ := jbd_some H
        refine jv_callVi (sp_MO_next x1 (1 : Int32) c40) (pc := 40) d_MO_codeNumber_40 c0_MO_next lk_MO_207 in_MO_next se_MO_next (by decide) rfl rfl rfl (Nat.le_of_ble_eq_true rfl) ⟨by decide, by decide, by decide, by decide⟩ (fun r40 m40 h40 => ?_)
        obtain ⟨ha40, hb40⟩ := h40
        have ha40 := ha40.symm
        subst ha40
        have hb40 := hb40.symm
        subst hb40
        refine jv_istore (pc := 43) d_MO_codeNumber_43 (by decide) (jsto_new rfl) ?_
        refine jv_iload 1 (pc := 45) d_MO_codeNumber_45 rfl ?_
        refine jv_callSi (sp_MO_classOf x2) (pc := 47) d_MO_codeNumber_47 c0_MO_classOf lk_MO_210 si_MO_classOf rfl (Nat.le_of_ble_eq_true rfl) ⟨by decide, by decide, by decide, by decide⟩ (fun r47 m47 h47 => ?_)
        obtain ⟨ha47, hb47⟩ := h47
        subst ha47
        have hb47 := hb47.symm
        subst hb47
        refine jv_istore (pc := 50) d_MO_codeNumber_50 (by decide) (jsto_new rfl) ?_
        refine jv_iconst 0 (pc := 52) d_MO_codeNumber_52 rfl ?_
        refine jv_istore (pc := 53) d_MO_codeNumber_53 (by decide) (jsto_new rfl) ?_
        exact jv_sub [4, 5, 6, 7, 3, 2, 1, 0] rfl (lp_MO_codeNumber_55  _ x1 x2 x3 x2 v40 (f_MO_classOf x2 n40) (0 : Int32) _ _ _ H)
      · have h28 : x3 = 0 := h28
        have H := (if_pos h28).symm.trans H
        refine jv_iload_n 3 (pc := 31) d_MO_codeNumber_31 rfl ?_
        refine jv_if_ge 39 (pc := 32) d_MO_codeNumber_32 rfl (fun h32 => ?_) (fun h32 => ?_)
        · have h32 : 0 ≤ x2 := h32
          have H := (if_pos h32).symm.trans H
          refine jv_iconst 0 (pc := 39) d_MO_codeNumber_39 rfl ?_
          obtain ⟨v40, n40, c40, H⟩ := jbd_some H
          refine jv_callVi (sp_MO_next x1 (0 : Int32) c40) (pc := 40) d_MO_codeNumber_40 c0_MO_next lk_MO_207 in_MO_next se_MO_next (by decide) rfl rfl rfl (Nat.le_of_ble_eq_true rfl) ⟨by decide, by decide, by decide, by decide⟩ (fun r40 m40 h40 => ?_)
          obtain ⟨ha40, hb40⟩ := h40
          have ha40 := ha40.symm
          subst ha40
          have hb40 := hb40.symm
          subst hb40
          refine jv_istore (pc := 43) d_MO_codeNumber_43 (by decide) (jsto_new rfl) ?_
          refine jv_iload 1 (pc := 45) d_MO_codeNumber_45 rfl ?_
          refine jv_callSi (sp_MO_classOf x2) (pc := 47) d_MO_codeNumber_47 c0_MO_classOf lk_MO_210 si_MO_classOf rfl (Nat.le_of_ble_eq_true rfl) ⟨by decide, by decide, by decide, by decide⟩ (fun r47 m47 h47 => ?_)
          obtain ⟨ha47, hb47⟩ := h47
          subst ha47
          have hb47 := hb47.symm
          subst hb47
          refine jv_istore (pc := 50) d_MO_codeNumber_50 (by decide) (jsto_new rfl) ?_
          refine jv_iconst 0 (pc := 52) d_MO_codeNumber_52 rfl ?_
          refine jv_istore (pc := 53) d_MO_codeNumber_53 (by decide) (jsto_new rfl) ?_
          exact jv_sub [4, 5, 6, 7, 3, 2, 1, 0] rfl (lp_MO_codeNumber_55  _ x1 x2 x3 x2 v40 (f_MO_classOf x2 n40) (0 : Int32) _ _ _ H)
        · have h32 : ¬ (0 ≤ x2) := h32
          have H := (if_neg h32).symm.trans H
          refine jv_iconst 1 (pc := 35) d_MO_codeNumber_35 rfl ?_
          refine jv_goto 40 (pc := 36) d_MO_codeNumber_36 rfl ?_
          obtain ⟨v40, n40, c40, H⟩ := jbd_some H
          refine jv_callVi (sp_MO_next x1 (1 : Int32) c40) (pc := 40) d_MO_codeNumber_40 c0_MO_next lk_MO_207 in_MO_next se_MO_next (by decide) rfl rfl rfl (Nat.le_of_ble_eq_true rfl) ⟨by decide, by decide, by decide, by decide⟩ (fun r40 m40 h40 => ?_)
          obtain ⟨ha40, hb40⟩ := h40
          have ha40 := ha40.symm
          subst ha40
          have hb40 := hb40.symm
          subst hb40
          refine jv_istore (pc := 43) d_MO_codeNumber_43 (by decide) (jsto_new rfl) ?_
          refine jv_iload 1 (pc := 45) d_MO_codeNumber_45 rfl ?_
          refine jv_callSi (sp_MO_classOf x2) (pc := 47) d_MO_codeNumber_47 c0_MO_classOf lk_MO_210 si_MO_classOf rfl (Nat.le_of_ble_eq_true rfl) ⟨by decide, by decide, by decide, by decide⟩ (fun r47 m47 h47 => ?_)
          obtain ⟨ha47, hb47⟩ := h47
          subst ha47
          have hb47 := hb47.symm
          subst hb47
          refine jv_istore (pc := 50) d_MO_codeNumber_50 (by decide) (jsto_new rfl) ?_
          refine jv_iconst 0 (pc := 52) d_MO_codeNumber_52 rfl ?_
          refine jv_istore (pc := 53) d_MO_codeNumber_53 (by decide) (jsto_new rfl) ?_
          exact jv_sub [4, 5, 6, 7, 3, 2, 1, 0] rfl (lp_MO_codeNumber_55  _ x1 x2 x3 x2 v40 (f_MO_classOf x2 n40) (0 : Int32) _ _ _ H)
    · have h14 : ¬ (0 ≤ x2) := h14
      have H := (if_neg h14).symm.trans H
      refine jv_iload_n 2 (pc := 17) d_MO_codeNumber_17 rfl ?_
      refine jv_ineg (pc := 18) d_MO_codeNumber_18 ?_
      refine jv_goto 23 (pc := 19) d_MO_codeNumber_19 rfl ?_
      refine jv_istore (pc := 23) d_MO_codeNumber_23 (by decide) (jsto_new rfl) ?_
      refine jv_aload_n 1 (pc := 25) d_MO_codeNumber_25 rfl ?_
      refine jv_iload_n 2 (pc := 26) d_MO_codeNumber_26 rfl ?_
      refine jv_iload_n 4 (pc := 27) d_MO_codeNumber_27 rfl ?_
      refine jv_if_ne 35 (pc := 28) d_MO_codeNumber_28 rfl (fun h28 => ?_) (fun h28 => ?_)
      · have h28 : ¬ (x3 = 0) := h28
        have H := (if_neg h28).symm.trans H
        refine jv_iconst 1 (pc := 35) d_MO_codeNumber_35 rfl ?_
        refine jv_goto 40 (pc := 36) d_MO_codeNumber_36 rfl ?_
        obtain ⟨v40, n40, c40, H⟩ := jbd_some H
        refine jv_callVi (sp_MO_next x1 (1 : Int32) c40) (pc := 40) d_MO_codeNumber_40 c0_MO_next lk_MO_207 in_MO_next se_MO_next (by decide) rfl rfl rfl (Nat.le_of_ble_eq_true rfl) ⟨by decide, by decide, by decide, by decide⟩ (fun r40 m40 h40 => ?_)
        obtain ⟨ha40, hb40⟩ := h40
        have ha40 := ha40.symm
        subst ha40
        have hb40 := hb40.symm
        subst hb40
        refine jv_istore (pc := 43) d_MO_codeNumber_43 (by decide) (jsto_new rfl) ?_
        refine jv_iload 1 (pc := 45) d_MO_codeNumber_45 rfl ?_
        refine jv_callSi (sp_MO_classOf (-x2)) (pc := 47) d_MO_codeNumber_47 c0_MO_classOf lk_MO_210 si_MO_classOf rfl (Nat.le_of_ble_eq_true rfl) ⟨by decide, by decide, by decide, by decide⟩ (fun r47 m47 h47 => ?_)
        obtain ⟨ha47, hb47⟩ := h47
        subst ha47
        have hb47 := hb47.symm
        subst hb47
        refine jv_istore (pc := 50) d_MO_codeNumber_50 (by decide) (jsto_new rfl) ?_
        refine jv_iconst 0 (pc := 52) d_MO_codeNumber_52 rfl ?_
        refine jv_istore (pc := 53) d_MO_codeNumber_53 (by decide) (jsto_new rfl) ?_
        exact jv_sub [4, 5, 6, 7, 3, 2, 1, 0] rfl (lp_MO_codeNumber_55  _ x1 x2 x3 (-x2) v40 (f_MO_classOf (-x2) n40) (0 : Int32) _ _ _ H)
      · have h28 : x3 = 0 := h28
        have H := (if_pos h28).symm.trans H
        refine jv_iload_n 3 (pc := 31) d_MO_codeNumber_31 rfl ?_
        refine jv_if_ge 39 (pc := 32) d_MO_codeNumber_32 rfl (fun h32 => ?_) (fun h32 => ?_)
        · have h32 : 0 ≤ x2 := h32
          have H := (if_pos h32).symm.trans H
          refine jv_iconst 0 (pc := 39) d_MO_codeNumber_39 rfl ?_
          obtain ⟨v40, n40, c40, H⟩ := jbd_some H
          refine jv_callVi (sp_MO_next x1 (0 : Int32) c40) (pc := 40) d_MO_codeNumber_40 c0_MO_next lk_MO_207 in_MO_next se_MO_next (by decide) rfl rfl rfl (Nat.le_of_ble_eq_true rfl) ⟨by decide, by decide, by decide, by decide⟩ (fun r40 m40 h40 => ?_)
          obtain ⟨ha40, hb40⟩ := h40
          have ha40 := ha40.symm
          subst ha40
          have hb40 := hb40.symm
          subst hb40
          refine jv_istore (pc := 43) d_MO_codeNumber_43 (by decide) (jsto_new rfl) ?_
          refine jv_iload 1 (pc := 45) d_MO_codeNumber_45 rfl ?_
          refine jv_callSi (sp_MO_classOf (-x2)) (pc := 47) d_MO_codeNumber_47 c0_MO_classOf lk_MO_210 si_MO_classOf rfl (Nat.le_of_ble_eq_true rfl) ⟨by decide, by decide, by decide, by decide⟩ (fun r47 m47 h47 => ?_)
          obtain ⟨ha47, hb47⟩ := h47
          subst ha47
          have hb47 := hb47.symm
          subst hb47
          refine jv_istore (pc := 50) d_MO_codeNumber_50 (by decide) (jsto_new rfl) ?_
          refine jv_iconst 0 (pc := 52) d_MO_codeNumber_52 rfl ?_
          refine jv_istore (pc := 53) d_MO_codeNumber_53 (by decide) (jsto_new rfl) ?_
          exact jv_sub [4, 5, 6, 7, 3, 2, 1, 0] rfl (lp_MO_codeNumber_55  _ x1 x2 x3 (-x2) v40 (f_MO_classOf (-x2) n40) (0 : Int32) _ _ _ H)
        · have h32 : ¬ (0 ≤ x2) := h32
          have H := (if_neg h32).symm.trans H
          refine jv_iconst 1 (pc := 35) d_MO_codeNumber_35 rfl ?_
          refine jv_goto 40 (pc := 36) d_MO_codeNumber_36 rfl ?_
          obtain ⟨v40, n40, c40, H⟩ := jbd_some H
          refine jv_callVi (sp_MO_next x1 (1 : Int32) c40) (pc := 40) d_MO_codeNumber_40 c0_MO_next lk_MO_207 in_MO_next se_MO_next (by decide) rfl rfl rfl (Nat.le_of_ble_eq_true rfl) ⟨by decide, by decide, by decide, by decide⟩ (fun r40 m40 h40 => ?_)
          obtain ⟨ha40, hb40⟩ := h40
          have ha40 := ha40.symm
          subst ha40
          have hb40 := hb40.symm
          subst hb40
          refine jv_istore (pc := 43) d_MO_codeNumber_43 (by decide) (jsto_new rfl) ?_
          refine jv_iload 1 (pc := 45) d_MO_codeNumber_45 rfl ?_
          refine jv_callSi (sp_MO_classOf (-x2)) (pc := 47) d_MO_codeNumber_47 c0_MO_classOf lk_MO_210 si_MO_classOf rfl (Nat.le_of_ble_eq_true rfl) ⟨by decide, by decide, by decide, by decide⟩ (fun r47 m47 h47 => ?_)
          obtain ⟨ha47, hb47⟩ := h47
          subst ha47
          have hb47 := hb47.symm
          subst hb47
          refine jv_istore (pc := 50) d_MO_codeNumber_50 (by decide) (jsto_new rfl) ?_
          refine jv_iconst 0 (pc := 52) d_MO_codeNumber_52 rfl ?_
          refine jv_istore (pc := 53) d_MO_codeNumber_53 (by decide) (jsto_new rfl) ?_
          exact jv_sub [4, 5, 6, 7, 3, 2, 1, 0] rfl (lp_MO_codeNumber_55  _ x1 x2 x3 (-x2) v40 (f_MO_classOf (-x2) n40) (0 : Int32) _ _ _ H)
  · have h6 : ¬ (x3 = 0) := h6
    have H := (if_neg h6).symm.trans H
    refine jv_iconst 0 (pc := 9) d_MO_codeNumber_9 rfl ?_
    refine jv_goto 23 (pc := 10) d_MO_codeNumber_10 rfl ?_
    refine jv_istore (pc := 23) d_MO_codeNumber_23 (by decide) (jsto_new rfl) ?_
    refine jv_aload_n 1 (pc := 25) d_MO_codeNumber_25 rfl ?_
    refine jv_iload_n 2 (pc := 26) d_MO_codeNumber_26 rfl ?_
    refine jv_iload_n 4 (pc := 27) d_MO_codeNumber_27 rfl ?_
    refine jv_if_ne 35 (pc := 28) d_MO_codeNumber_28 rfl (fun h28 => ?_) (fun h28 => ?_)
    · have h28 : ¬ (x3 = 0) := h28
      have H := (if_neg h28).symm.trans H
      refine jv_iconst 1 (pc := 35) d_MO_codeNumber_35 rfl ?_
      refine jv_goto 40 (pc := 36) d_MO_codeNumber_36 rfl ?_
      obtain ⟨v40, n40, c40, H⟩ := jbd_some H
      refine jv_callVi (sp_MO_next x1 (1 : Int32) c40) (pc := 40) d_MO_codeNumber_40 c0_MO_next lk_MO_207 in_MO_next se_MO_next (by decide) rfl rfl rfl (Nat.le_of_ble_eq_true rfl) ⟨by decide, by decide, by decide, by decide⟩ (fun r40 m40 h40 => ?_)
      obtain ⟨ha40, hb40⟩ := h40
      have ha40 := ha40.symm
      subst ha40
      have hb40 := hb40.symm
      subst hb40
      refine jv_istore (pc := 43) d_MO_codeNumber_43 (by decide) (jsto_new rfl) ?_
      refine jv_iload 1 (pc := 45) d_MO_codeNumber_45 rfl ?_
      refine jv_callSi (sp_MO_classOf (0 : Int32)) (pc := 47) d_MO_codeNumber_47 c0_MO_classOf lk_MO_210 si_MO_classOf rfl (Nat.le_of_ble_eq_true rfl) ⟨by decide, by decide, by decide, by decide⟩ (fun r47 m47 h47 => ?_)
      obtain ⟨ha47, hb47⟩ := h47
      subst ha47
      have hb47 := hb47.symm
      subst hb47
      refine jv_istore (pc := 50) d_MO_codeNumber_50 (by decide) (jsto_new rfl) ?_
      refine jv_iconst 0 (pc := 52) d_MO_codeNumber_52 rfl ?_
      refine jv_istore (pc := 53) d_MO_codeNumber_53 (by decide) (jsto_new rfl) ?_
      exact jv_sub [4, 5, 6, 7, 3, 2, 1, 0] rfl (lp_MO_codeNumber_55  _ x1 x2 x3 (0 : Int32) v40 (f_MO_classOf (0 : Int32) n40) (0 : Int32) _ _ _ H)
    · have h28 : x3 = 0 := h28
      have H := (if_pos h28).symm.trans H
      refine jv_iload_n 3 (pc := 31) d_MO_codeNumber_31 rfl ?_
      refine jv_if_ge 39 (pc := 32) d_MO_codeNumber_32 rfl (fun h32 => ?_) (fun h32 => ?_)
      · have h32 : 0 ≤ x2 := h32
        have H := (if_pos h32).symm.trans H
        refine jv_iconst 0 (pc := 39) d_MO_codeNumber_39 rfl ?_
        obtain ⟨v40, n40, c40, H⟩ := jbd_some H
        refine jv_callVi (sp_MO_next x1 (0 : Int32) c40) (pc := 40) d_MO_codeNumber_40 c0_MO_next lk_MO_207 in_MO_next se_MO_next (by decide) rfl rfl rfl (Nat.le_of_ble_eq_true rfl) ⟨by decide, by decide, by decide, by decide⟩ (fun r40 m40 h40 => ?_)
        obtain ⟨ha40, hb40⟩ := h40
        have ha40 := ha40.symm
        subst ha40
        have hb40 := hb40.symm
        subst hb40
        refine jv_istore (pc := 43) d_MO_codeNumber_43 (by decide) (jsto_new rfl) ?_
        refine jv_iload 1 (pc := 45) d_MO_codeNumber_45 rfl ?_
        refine jv_callSi (sp_MO_classOf (0 : Int32)) (pc := 47) d_MO_codeNumber_47 c0_MO_classOf lk_MO_210 si_MO_classOf rfl (Nat.le_of_ble_eq_true rfl) ⟨by decide, by decide, by decide, by decide⟩ (fun r47 m47 h47 => ?_)
        obtain ⟨ha47, hb47⟩ := h47
        subst ha47
        have hb47 := hb47.symm
        subst hb47
        refine jv_istore (pc := 50) d_MO_codeNumber_50 (by decide) (jsto_new rfl) ?_
        refine jv_iconst 0 (pc := 52) d_MO_codeNumber_52 rfl ?_
        refine jv_istore (pc := 53) d_MO_codeNumber_53 (by decide) (jsto_new rfl) ?_
        exact jv_sub [4, 5, 6, 7, 3, 2, 1, 0] rfl (lp_MO_codeNumber_55  _ x1 x2 x3 (0 : Int32) v40 (f_MO_classOf (0 : Int32) n40) (0 : Int32) _ _ _ H)
      · have h32 : ¬ (0 ≤ x2) := h32
        have H := (if_neg h32).symm.trans H
        refine jv_iconst 1 (pc := 35) d_MO_codeNumber_35 rfl ?_
        refine jv_goto 40 (pc := 36) d_MO_codeNumber_36 rfl ?_
        obtain ⟨v40, n40, c40, H⟩ := jbd_some H
        refine jv_callVi (sp_MO_next x1 (1 : Int32) c40) (pc := 40) d_MO_codeNumber_40 c0_MO_next lk_MO_207 in_MO_next se_MO_next (by decide) rfl rfl rfl (Nat.le_of_ble_eq_true rfl) ⟨by decide, by decide, by decide, by decide⟩ (fun r40 m40 h40 => ?_)
        obtain ⟨ha40, hb40⟩ := h40
        have ha40 := ha40.symm
        subst ha40
        have hb40 := hb40.symm
        subst hb40
        refine jv_istore (pc := 43) d_MO_codeNumber_43 (by decide) (jsto_new rfl) ?_
        refine jv_iload 1 (pc := 45) d_MO_codeNumber_45 rfl ?_
        refine jv_callSi (sp_MO_classOf (0 : Int32)) (pc := 47) d_MO_codeNumber_47 c0_MO_classOf lk_MO_210 si_MO_classOf rfl (Nat.le_of_ble_eq_true rfl) ⟨by decide, by decide, by decide, by decide⟩ (fun r47 m47 h47 => ?_)
        obtain ⟨ha47, hb47⟩ := h47
        subst ha47
        have hb47 := hb47.symm
        subst hb47
        refine jv_istore (pc := 50) d_MO_codeNumber_50 (by decide) (jsto_new rfl) ?_
        refine jv_iconst 0 (pc := 52) d_MO_codeNumber_52 rfl ?_
        refine jv_istore (pc := 53) d_MO_codeNumber_53 (by decide) (jsto_new rfl) ?_
        exact jv_sub [4, 5, 6, 7, 3, 2, 1, 0] rfl (lp_MO_codeNumber_55  _ x1 x2 x3 (0 : Int32) v40 (f_MO_classOf (0 : Int32) n40) (0 : Int32) _ _ _ H)
set_option maxRecDepth 40000 in
set_option maxHeartbeats 8000000 in
theorem sp_MO_number {G : jG} {σ τ : jMem} {r : Int32} (x1 x2 : Int32) (H : f_MO_number x1 x2 σ = some (r, τ)) : jSp G M_MO_number (jr 8 0 0) [.ref 38, .int x1, .int x2] σ (jI fun r9 τ9 => r9 = r ∧ τ9 = τ) := by
  refine jSp.of rfl rfl (Nat.le_of_ble_eq_true rfl) ?_
  show jV _ _ _ _ 0 0 0 [(0, .ref 38), (1, .int x1), (2, .int x2)] [] σ
  unfold f_MO_number at H
  refine jv_aload_n 0 (pc := 0) d_MO_number_0 rfl ?_
  refine jv_aload_n 0 (pc := 1) d_MO_number_1 rfl ?_
  refine jv_geti (pc := 2) d_MO_number_2 fa_MO_68_MO (by decide) rfl rfl ?_
  refine jv_if_ne 12 (pc := 5) d_MO_number_5 rfl (fun h5 => ?_) (fun h5 => ?_)
  · have h5 : ¬ ((σ 38 11) = 0) := h5
    have H := (if_neg h5).symm.trans H
    refine jv_iload_n 1 (pc := 12) d_MO_number_12 rfl ?_
    refine jv_if_lt 21 (pc := 13) d_MO_number_13 rfl (fun h13 => ?_) (fun h13 => ?_)
    · have h13 : x1 < 0 := h13
      have H := (if_pos h13).symm.trans H
      refine jv_iconst 2 (pc := 21) d_MO_number_21 rfl ?_
      refine jv_goto 56 (pc := 22) d_MO_number_22 rfl ?_
      refine jv_puti (pc := 56) d_MO_number_56 fa_MO_34_MO fp_MO_0 (by decide) rfl rfl rfl rfl ?_
      refine jv_aload_n 0 (pc := 59) d_MO_number_59 rfl ?_
      refine jv_geti (pc := 60) d_MO_number_60 fa_MO_34_MO (by decide) rfl rfl ?_
      refine jv_if_le 68 (pc := 63) d_MO_number_63 rfl (fun h63 => absurd (show (2 : Int32) ≤ 0 from h63) (by decide)) (fun h63 => ?_)
      refine jv_iconst 0 (pc := 66) d_MO_number_66 rfl ?_
      refine jv_iret (pc := 67) d_MO_number_67 rfl rfl (Nat.zero_le _) (Nat.zero_le _) ?_
      cases H
      exact jI.of ⟨rfl, rfl⟩
    · have h13 : ¬ (x1 < 0) := h13
      have H := (if_neg h13).symm.trans H
      refine jv_iload_n 1 (pc := 16) d_MO_number_16 rfl ?_
      refine jv_iconst 2 (pc := 17) d_MO_number_17 rfl ?_
      refine jv_icmp_le 25 (pc := 18) d_MO_number_18 rfl (fun h18 => ?_) (fun h18 => ?_)
      · have h18 : x1 ≤ (2 : Int32) := h18
        have H := (if_pos h18).symm.trans H
        refine jv_aload_n 0 (pc := 25) d_MO_number_25 rfl ?_
        refine jv_geti (pc := 26) d_MO_number_26 fa_MO_68_MO (by decide) rfl rfl ?_
        refine jv_iconst 1 (pc := 29) d_MO_number_29 rfl ?_
        refine jv_icmp_ne 55 (pc := 30) d_MO_number_30 rfl (fun h30 => ?_) (fun h30 => ?_)
        · have h30 : ¬ ((σ 38 11) = (1 : Int32)) := h30
          have H := (if_neg h30).symm.trans H
          refine jv_iconst 0 (pc := 55) d_MO_number_55 rfl ?_
          refine jv_puti (pc := 56) d_MO_number_56 fa_MO_34_MO fp_MO_0 (by decide) rfl rfl rfl rfl ?_
          refine jv_aload_n 0 (pc := 59) d_MO_number_59 rfl ?_
          refine jv_geti (pc := 60) d_MO_number_60 fa_MO_34_MO (by decide) rfl rfl ?_
          refine jv_if_le 68 (pc := 63) d_MO_number_63 rfl (fun h63 => ?_) (fun h63 => absurd (show (0 : Int32) ≤ 0 by decide) (show ¬ ((0 : Int32) ≤ 0) from h63))
          refine jv_aload_n 0 (pc := 68) d_MO_number_68 rfl ?_
          refine jv_iload_n 1 (pc := 69) d_MO_number_69 rfl ?_
          refine jv_iload_n 2 (pc := 70) d_MO_number_70 rfl ?_
          refine jv_ldc (-2147483648) (pc := 71) d_MO_number_71 (jin5 23 rfl rfl) ?_
          refine jv_icmp_ne 80 (pc := 73) d_MO_number_73 rfl (fun h73 => ?_) (fun h73 => ?_)
          · have h73 : ¬ (x2 = (-2147483648 : Int32)) := h73
            have H := (if_neg h73).symm.trans H
            refine jv_iload_n 2 (pc := 80) d_MO_number_80 rfl ?_
            refine jv_iload_n 2 (pc := 81) d_MO_number_81 rfl ?_
            refine jv_ldc (-2147483648) (pc := 82) d_MO_number_82 (jin5 23 rfl rfl) ?_
            refine jv_icmp_ne 91 (pc := 84) d_MO_number_84 rfl (fun h84 => ?_) (fun h84 => ?_)
            · have h84 : ¬ (x2 = (-2147483648 : Int32)) := h84
              have H := (if_neg h84).symm.trans H
              refine jv_iconst 0 (pc := 91) d_MO_number_91 rfl ?_
              obtain ⟨v92, n92, c92, H⟩ := jbd_some H
              refine jv_callVi (sp_MO_codeNumber x1 x2 (0 : Int32) c92) (pc := 92) d_MO_number_92 c0_MO_codeNumber lk_MO_229 in_MO_codeNumber se_MO_codeNumber (by decide) rfl rfl rfl (Nat.le_of_ble_eq_true rfl) ⟨by decide, by decide, by decide, by decide⟩ (fun r92 m92 h92 => ?_)
              obtain ⟨ha92, hb92⟩ := h92
              have ha92 := ha92.symm
              subst ha92
              have hb92 := hb92.symm
              subst hb92
              refine jv_istore_n (pc := 95) d_MO_number_95 rfl (by decide) (jsto_new rfl) ?_
              refine jv_aload_n 1 (pc := 96) d_MO_number_96 rfl ?_
              refine jv_geti (pc := 97) d_MO_number_97 fa_MO_223_MO (by decide) rfl rfl ?_
              refine jv_if_eq 108 (pc := 100) d_MO_number_100 rfl (fun h100 => ?_) (fun h100 => ?_)
              · have h100 : (n92 38 20) = 0 := h100
                have H := (if_pos h100).symm.trans H
                refine jv_iload_n 0 (pc := 108) d_MO_number_108 rfl ?_
                refine jv_iret (pc := 109) d_MO_number_109 rfl rfl (Nat.zero_le _) (Nat.zero_le _) ?_
                cases H
                exact jI.of ⟨rfl, rfl⟩
              · have h100 : ¬ ((n92 38 20) = 0) := h100
                have H := (if_neg h100).symm.trans H
                refine jv_ldc (-2147483648) (pc := 103) d_MO_number_103 (jin5 23 rfl rfl) ?_
                refine jv_goto 109 (pc := 105) d_MO_number_105 rfl ?_
                refine jv_iret (pc := 109) d_MO_number_109 rfl rfl (Nat.zero_le _) (Nat.zero_le _) ?_
                cases H
                exact jI.of ⟨rfl, rfl⟩
            · have h84 : x2 = (-2147483648 : Int32) := h84
              have H := (if_pos h84).symm.trans H
              refine jv_iconst 1 (pc := 87) d_MO_number_87 rfl ?_
              refine jv_goto 92 (pc := 88) d_MO_number_88 rfl ?_
              obtain ⟨v92, n92, c92, H⟩ := jbd_some H
              refine jv_callVi (sp_MO_codeNumber x1 x2 (1 : Int32) c92) (pc := 92) d_MO_number_92 c0_MO_codeNumber lk_MO_229 in_MO_codeNumber se_MO_codeNumber (by decide) rfl rfl rfl (Nat.le_of_ble_eq_true rfl) ⟨by decide, by decide, by decide, by decide⟩ (fun r92 m92 h92 => ?_)
              obtain ⟨ha92, hb92⟩ := h92
              have ha92 := ha92.symm
              subst ha92
              have hb92 := hb92.symm
              subst hb92
              refine jv_istore_n (pc := 95) d_MO_number_95 rfl (by decide) (jsto_new rfl) ?_
              refine jv_aload_n 1 (pc := 96) d_MO_number_96 rfl ?_
              refine jv_geti (pc := 97) d_MO_number_97 fa_MO_223_MO (by decide) rfl rfl ?_
              refine jv_if_eq 108 (pc := 100) d_MO_number_100 rfl (fun h100 => ?_) (fun h100 => ?_)
              · have h100 : (n92 38 20) = 0 := h100
                have H := (if_pos h100).symm.trans H
                refine jv_iload_n 0 (pc := 108) d_MO_number_108 rfl ?_
                refine jv_iret (pc := 109) d_MO_number_109 rfl rfl (Nat.zero_le _) (Nat.zero_le _) ?_
                cases H
                exact jI.of ⟨rfl, rfl⟩
              · have h100 : ¬ ((n92 38 20) = 0) := h100
                have H := (if_neg h100).symm.trans H
                refine jv_ldc (-2147483648) (pc := 103) d_MO_number_103 (jin5 23 rfl rfl) ?_
                refine jv_goto 109 (pc := 105) d_MO_number_105 rfl ?_
                refine jv_iret (pc := 109) d_MO_number_109 rfl rfl (Nat.zero_le _) (Nat.zero_le _) ?_
                cases H
                exact jI.of ⟨rfl, rfl⟩
          · have h73 : x2 = (-2147483648 : Int32) := h73
            have H := (if_pos h73).symm.trans H
            refine jv_iconst 0 (pc := 76) d_MO_number_76 rfl ?_
            refine jv_goto 81 (pc := 77) d_MO_number_77 rfl ?_
            refine jv_iload_n 2 (pc := 81) d_MO_number_81 rfl ?_
            refine jv_ldc (-2147483648) (pc := 82) d_MO_number_82 (jin5 23 rfl rfl) ?_
            refine jv_icmp_ne 91 (pc := 84) d_MO_number_84 rfl (fun h84 => ?_) (fun h84 => ?_)
            · have h84 : ¬ (x2 = (-2147483648 : Int32)) := h84
              have H := (if_neg h84).symm.trans H
              refine jv_iconst 0 (pc := 91) d_MO_number_91 rfl ?_
              obtain ⟨v92, n92, c92, H⟩ := jbd_some H
              refine jv_callVi (sp_MO_codeNumber x1 (0 : Int32) (0 : Int32) c92) (pc := 92) d_MO_number_92 c0_MO_codeNumber lk_MO_229 in_MO_codeNumber se_MO_codeNumber (by decide) rfl rfl rfl (Nat.le_of_ble_eq_true rfl) ⟨by decide, by decide, by decide, by decide⟩ (fun r92 m92 h92 => ?_)
              obtain ⟨ha92, hb92⟩ := h92
              have ha92 := ha92.symm
              subst ha92
              have hb92 := hb92.symm
              subst hb92
              refine jv_istore_n (pc := 95) d_MO_number_95 rfl (by decide) (jsto_new rfl) ?_
              refine jv_aload_n 1 (pc := 96) d_MO_number_96 rfl ?_
              refine jv_geti (pc := 97) d_MO_number_97 fa_MO_223_MO (by decide) rfl rfl ?_
              refine jv_if_eq 108 (pc := 100) d_MO_number_100 rfl (fun h100 => ?_) (fun h100 => ?_)
              · have h100 : (n92 38 20) = 0 := h100
                have H := (if_pos h100).symm.trans H
                refine jv_iload_n 0 (pc := 108) d_MO_number_108 rfl ?_
                refine jv_iret (pc := 109) d_MO_number_109 rfl rfl (Nat.zero_le _) (Nat.zero_le _) ?_
                cases H
                exact jI.of ⟨rfl, rfl⟩
              · have h100 : ¬ ((n92 38 20) = 0) := h100
                have H := (if_neg h100).symm.trans H
                refine jv_ldc (-2147483648) (pc := 103) d_MO_number_103 (jin5 23 rfl rfl) ?_
                refine jv_goto 109 (pc := 105) d_MO_number_105 rfl ?_
                refine jv_iret (pc := 109) d_MO_number_109 rfl rfl (Nat.zero_le _) (Nat.zero_le _) ?_
                cases H
                exact jI.of ⟨rfl, rfl⟩
            · have h84 : x2 = (-2147483648 : Int32) := h84
              have H := (if_pos h84).symm.trans H
              refine jv_iconst 1 (pc := 87) d_MO_number_87 rfl ?_
              refine jv_goto 92 (pc := 88) d_MO_number_88 rfl ?_
              obtain ⟨v92, n92, c92, H⟩ := jbd_some H
              refine jv_callVi (sp_MO_codeNumber x1 (0 : Int32) (1 : Int32) c92) (pc := 92) d_MO_number_92 c0_MO_codeNumber lk_MO_229 in_MO_codeNumber se_MO_codeNumber (by decide) rfl rfl rfl (Nat.le_of_ble_eq_true rfl) ⟨by decide, by decide, by decide, by decide⟩ (fun r92 m92 h92 => ?_)
              obtain ⟨ha92, hb92⟩ := h92
              have ha92 := ha92.symm
              subst ha92
              have hb92 := hb92.symm
              subst hb92
              refine jv_istore_n (pc := 95) d_MO_number_95 rfl (by decide) (jsto_new rfl) ?_
              refine jv_aload_n 1 (pc := 96) d_MO_number_96 rfl ?_
              refine jv_geti (pc := 97) d_MO_number_97 fa_MO_223_MO (by decide) rfl rfl ?_
              refine jv_if_eq 108 (pc := 100) d_MO_number_100 rfl (fun h100 => ?_) (fun h100 => ?_)
              · have h100 : (n92 38 20) = 0 := h100
                have H := (if_pos h100).symm.trans H
                refine jv_iload_n 0 (pc := 108) d_MO_number_108 rfl ?_
                refine jv_iret (pc := 109) d_MO_number_109 rfl rfl (Nat.zero_le _) (Nat.zero_le _) ?_
                cases H
                exact jI.of ⟨rfl, rfl⟩
              · have h100 : ¬ ((n92 38 20) = 0) := h100
                have H := (if_neg h100).symm.trans H
                refine jv_ldc (-2147483648) (pc := 103) d_MO_number_103 (jin5 23 rfl rfl) ?_
                refine jv_goto 109 (pc := 105) d_MO_number_105 rfl ?_
                refine jv_iret (pc := 109) d_MO_number_109 rfl rfl (Nat.zero_le _) (Nat.zero_le _) ?_
                cases H
                exact jI.of ⟨rfl, rfl⟩
        · have h30 : (σ 38 11) = (1 : Int32) := h30
          have H := (if_pos h30).symm.trans H
          refine jv_iload_n 2 (pc := 33) d_MO_number_33 rfl ?_
          refine jv_ldc (-2147483648) (pc := 34) d_MO_number_34 (jin5 23 rfl rfl) ?_
          refine jv_icmp_eq 55 (pc := 36) d_MO_number_36 rfl (fun h36 => ?_) (fun h36 => ?_)
          · have h36 : x2 = (-2147483648 : Int32) := h36
            have H := (if_pos h36).symm.trans H
            refine jv_iconst 0 (pc := 55) d_MO_number_55 rfl ?_
            refine jv_puti (pc := 56) d_MO_number_56 fa_MO_34_MO fp_MO_0 (by decide) rfl rfl rfl rfl ?_
            refine jv_aload_n 0 (pc := 59) d_MO_number_59 rfl ?_
            refine jv_geti (pc := 60) d_MO_number_60 fa_MO_34_MO (by decide) rfl rfl ?_
            refine jv_if_le 68 (pc := 63) d_MO_number_63 rfl (fun h63 => ?_) (fun h63 => absurd (show (0 : Int32) ≤ 0 by decide) (show ¬ ((0 : Int32) ≤ 0) from h63))
            refine jv_aload_n 0 (pc := 68) d_MO_number_68 rfl ?_
            refine jv_iload_n 1 (pc := 69) d_MO_number_69 rfl ?_
            refine jv_iload_n 2 (pc := 70) d_MO_number_70 rfl ?_
            refine jv_ldc (-2147483648) (pc := 71) d_MO_number_71 (jin5 23 rfl rfl) ?_
            refine jv_icmp_ne 80 (pc := 73) d_MO_number_73 rfl (fun h73 => ?_) (fun h73 => ?_)
            · have h73 : ¬ (x2 = (-2147483648 : Int32)) := h73
              have H := (if_neg h73).symm.trans H
              refine jv_iload_n 2 (pc := 80) d_MO_number_80 rfl ?_
              refine jv_iload_n 2 (pc := 81) d_MO_number_81 rfl ?_
              refine jv_ldc (-2147483648) (pc := 82) d_MO_number_82 (jin5 23 rfl rfl) ?_
              refine jv_icmp_ne 91 (pc := 84) d_MO_number_84 rfl (fun h84 => ?_) (fun h84 => ?_)
              · have h84 : ¬ (x2 = (-2147483648 : Int32)) := h84
                have H := (if_neg h84).symm.trans H
                refine jv_iconst 0 (pc := 91) d_MO_number_91 rfl ?_
                obtain ⟨v92, n92, c92, H⟩ := jbd_some H
                refine jv_callVi (sp_MO_codeNumber x1 x2 (0 : Int32) c92) (pc := 92) d_MO_number_92 c0_MO_codeNumber lk_MO_229 in_MO_codeNumber se_MO_codeNumber (by decide) rfl rfl rfl (Nat.le_of_ble_eq_true rfl) ⟨by decide, by decide, by decide, by decide⟩ (fun r92 m92 h92 => ?_)
                obtain ⟨ha92, hb92⟩ := h92
                have ha92 := ha92.symm
                subst ha92
                have hb92 := hb92.symm
                subst hb92
                refine jv_istore_n (pc := 95) d_MO_number_95 rfl (by decide) (jsto_new rfl) ?_
                refine jv_aload_n 1 (pc := 96) d_MO_number_96 rfl ?_
                refine jv_geti (pc := 97) d_MO_number_97 fa_MO_223_MO (by decide) rfl rfl ?_
                refine jv_if_eq 108 (pc := 100) d_MO_number_100 rfl (fun h100 => ?_) (fun h100 => ?_)
                · have h100 : (n92 38 20) = 0 := h100
                  have H := (if_pos h100).symm.trans H
                  refine jv_iload_n 0 (pc := 108) d_MO_number_108 rfl ?_
                  refine jv_iret (pc := 109) d_MO_number_109 rfl rfl (Nat.zero_le _) (Nat.zero_le _) ?_
                  cases H
                  exact jI.of ⟨rfl, rfl⟩
                · have h100 : ¬ ((n92 38 20) = 0) := h100
                  have H := (if_neg h100).symm.trans H
                  refine jv_ldc (-2147483648) (pc := 103) d_MO_number_103 (jin5 23 rfl rfl) ?_
                  refine jv_goto 109 (pc := 105) d_MO_number_105 rfl ?_
                  refine jv_iret (pc := 109) d_MO_number_109 rfl rfl (Nat.zero_le _) (Nat.zero_le _) ?_
                  cases H
                  exact jI.of ⟨rfl, rfl⟩
              · have h84 : x2 = (-2147483648 : Int32) := h84
                have H := (if_pos h84).symm.trans H
                refine jv_iconst 1 (pc := 87) d_MO_number_87 rfl ?_
                refine jv_goto 92 (pc := 88) d_MO_number_88 rfl ?_
                obtain ⟨v92, n92, c92, H⟩ := jbd_some H
                refine jv_callVi (sp_MO_codeNumber x1 x2 (1 : Int32) c92) (pc := 92) d_MO_number_92 c0_MO_codeNumber lk_MO_229 in_MO_codeNumber se_MO_codeNumber (by decide) rfl rfl rfl (Nat.le_of_ble_eq_true rfl) ⟨by decide, by decide, by decide, by decide⟩ (fun r92 m92 h92 => ?_)
                obtain ⟨ha92, hb92⟩ := h92
                have ha92 := ha92.symm
                subst ha92
                have hb92 := hb92.symm
                subst hb92
                refine jv_istore_n (pc := 95) d_MO_number_95 rfl (by decide) (jsto_new rfl) ?_
                refine jv_aload_n 1 (pc := 96) d_MO_number_96 rfl ?_
                refine jv_geti (pc := 97) d_MO_number_97 fa_MO_223_MO (by decide) rfl rfl ?_
                refine jv_if_eq 108 (pc := 100) d_MO_number_100 rfl (fun h100 => ?_) (fun h100 => ?_)
                · have h100 : (n92 38 20) = 0 := h100
                  have H := (if_pos h100).symm.trans H
                  refine jv_iload_n 0 (pc := 108) d_MO_number_108 rfl ?_
                  refine jv_iret (pc := 109) d_MO_number_109 rfl rfl (Nat.zero_le _) (Nat.zero_le _) ?_
                  cases H
                  exact jI.of ⟨rfl, rfl⟩
                · have h100 : ¬ ((n92 38 20) = 0) := h100
                  have H := (if_neg h100).symm.trans H
                  refine jv_ldc (-2147483648) (pc := 103) d_MO_number_103 (jin5 23 rfl rfl) ?_
                  refine jv_goto 109 (pc := 105) d_MO_number_105 rfl ?_
                  refine jv_iret (pc := 109) d_MO_number_109 rfl rfl (Nat.zero_le _) (Nat.zero_le _) ?_
                  cases H
                  exact jI.of ⟨rfl, rfl⟩
            · have h73 : x2 = (-2147483648 : Int32) := h73
              have H := (if_pos h73).symm.trans H
              refine jv_iconst 0 (pc := 76) d_MO_number_76 rfl ?_
              refine jv_goto 81 (pc := 77) d_MO_number_77 rfl ?_
              refine jv_iload_n 2 (pc := 81) d_MO_number_81 rfl ?_
              refine jv_ldc (-2147483648) (pc := 82) d_MO_number_82 (jin5 23 rfl rfl) ?_
              refine jv_icmp_ne 91 (pc := 84) d_MO_number_84 rfl (fun h84 => ?_) (fun h84 => ?_)
              · have h84 : ¬ (x2 = (-2147483648 : Int32)) := h84
                have H := (if_neg h84).symm.trans H
                refine jv_iconst 0 (pc := 91) d_MO_number_91 rfl ?_
                obtain ⟨v92, n92, c92, H⟩ := jbd_some H
                refine jv_callVi (sp_MO_codeNumber x1 (0 : Int32) (0 : Int32) c92) (pc := 92) d_MO_number_92 c0_MO_codeNumber lk_MO_229 in_MO_codeNumber se_MO_codeNumber (by decide) rfl rfl rfl (Nat.le_of_ble_eq_true rfl) ⟨by decide, by decide, by decide, by decide⟩ (fun r92 m92 h92 => ?_)
                obtain ⟨ha92, hb92⟩ := h92
                have ha92 := ha92.symm
                subst ha92
                have hb92 := hb92.symm
                subst hb92
                refine jv_istore_n (pc := 95) d_MO_number_95 rfl (by decide) (jsto_new rfl) ?_
                refine jv_aload_n 1 (pc := 96) d_MO_number_96 rfl ?_
                refine jv_geti (pc := 97) d_MO_number_97 fa_MO_223_MO (by decide) rfl rfl ?_
                refine jv_if_eq 108 (pc := 100) d_MO_number_100 rfl (fun h100 => ?_) (fun h100 => ?_)
                · have h100 : (n92 38 20) = 0 := h100
                  have H := (if_pos h100).symm.trans H
                  refine jv_iload_n 0 (pc := 108) d_MO_number_108 rfl ?_
                  refine jv_iret (pc := 109) d_MO_number_109 rfl rfl (Nat.zero_le _) (Nat.zero_le _) ?_
                  cases H
                  exact jI.of ⟨rfl, rfl⟩
                · have h100 : ¬ ((n92 38 20) = 0) := h100
                  have H := (if_neg h100).symm.trans H
                  refine jv_ldc (-2147483648) (pc := 103) d_MO_number_103 (jin5 23 rfl rfl) ?_
                  refine jv_goto 109 (pc := 105) d_MO_number_105 rfl ?_
                  refine jv_iret (pc := 109) d_MO_number_109 rfl rfl (Nat.zero_le _) (Nat.zero_le _) ?_
                  cases H
                  exact jI.of ⟨rfl, rfl⟩
              · have h84 : x2 = (-2147483648 : Int32) := h84
                have H := (if_pos h84).symm.trans H
                refine jv_iconst 1 (pc := 87) d_MO_number_87 rfl ?_
                refine jv_goto 92 (pc := 88) d_MO_number_88 rfl ?_
                obtain ⟨v92, n92, c92, H⟩ := jbd_some H
                refine jv_callVi (sp_MO_codeNumber x1 (0 : Int32) (1 : Int32) c92) (pc := 92) d_MO_number_92 c0_MO_codeNumber lk_MO_229 in_MO_codeNumber se_MO_codeNumber (by decide) rfl rfl rfl (Nat.le_of_ble_eq_true rfl) ⟨by decide, by decide, by decide, by decide⟩ (fun r92 m92 h92 => ?_)
                obtain ⟨ha92, hb92⟩ := h92
                have ha92 := ha92.symm
                subst ha92
                have hb92 := hb92.symm
                subst hb92
                refine jv_istore_n (pc := 95) d_MO_number_95 rfl (by decide) (jsto_new rfl) ?_
                refine jv_aload_n 1 (pc := 96) d_MO_number_96 rfl ?_
                refine jv_geti (pc := 97) d_MO_number_97 fa_MO_223_MO (by decide) rfl rfl ?_
                refine jv_if_eq 108 (pc := 100) d_MO_number_100 rfl (fun h100 => ?_) (fun h100 => ?_)
                · have h100 : (n92 38 20) = 0 := h100
                  have H := (if_pos h100).symm.trans H
                  refine jv_iload_n 0 (pc := 108) d_MO_number_108 rfl ?_
                  refine jv_iret (pc := 109) d_MO_number_109 rfl rfl (Nat.zero_le _) (Nat.zero_le _) ?_
                  cases H
                  exact jI.of ⟨rfl, rfl⟩
                · have h100 : ¬ ((n92 38 20) = 0) := h100
                  have H := (if_neg h100).symm.trans H
                  refine jv_ldc (-2147483648) (pc := 103) d_MO_number_103 (jin5 23 rfl rfl) ?_
                  refine jv_goto 109 (pc := 105) d_MO_number_105 rfl ?_
                  refine jv_iret (pc := 109) d_MO_number_109 rfl rfl (Nat.zero_le _) (Nat.zero_le _) ?_
                  cases H
                  exact jI.of ⟨rfl, rfl⟩
          · have h36 : ¬ (x2 = (-2147483648 : Int32)) := h36
            have H := (if_neg h36).symm.trans H
            refine jv_iload_n 2 (pc := 39) d_MO_number_39 rfl ?_
            refine jv_ldc (-1000000) (pc := 40) d_MO_number_40 (jin5 24 rfl rfl) ?_
            refine jv_icmp_lt 51 (pc := 42) d_MO_number_42 rfl (fun h42 => ?_) (fun h42 => ?_)
            · have h42 : x2 < (-1000000 : Int32) := h42
              have H := (if_pos h42).symm.trans H
              refine jv_iconst 3 (pc := 51) d_MO_number_51 rfl ?_
              refine jv_goto 56 (pc := 52) d_MO_number_52 rfl ?_
              refine jv_puti (pc := 56) d_MO_number_56 fa_MO_34_MO fp_MO_0 (by decide) rfl rfl rfl rfl ?_
              refine jv_aload_n 0 (pc := 59) d_MO_number_59 rfl ?_
              refine jv_geti (pc := 60) d_MO_number_60 fa_MO_34_MO (by decide) rfl rfl ?_
              refine jv_if_le 68 (pc := 63) d_MO_number_63 rfl (fun h63 => absurd (show (3 : Int32) ≤ 0 from h63) (by decide)) (fun h63 => ?_)
              refine jv_iconst 0 (pc := 66) d_MO_number_66 rfl ?_
              refine jv_iret (pc := 67) d_MO_number_67 rfl rfl (Nat.zero_le _) (Nat.zero_le _) ?_
              cases H
              exact jI.of ⟨rfl, rfl⟩
            · have h42 : ¬ (x2 < (-1000000 : Int32)) := h42
              have H := (if_neg h42).symm.trans H
              refine jv_iload_n 2 (pc := 45) d_MO_number_45 rfl ?_
              refine jv_ldc (1000000) (pc := 46) d_MO_number_46 (jin5 25 rfl rfl) ?_
              refine jv_icmp_le 55 (pc := 48) d_MO_number_48 rfl (fun h48 => ?_) (fun h48 => ?_)
              · have h48 : x2 ≤ (1000000 : Int32) := h48
                have H := (if_pos h48).symm.trans H
                refine jv_iconst 0 (pc := 55) d_MO_number_55 rfl ?_
                refine jv_puti (pc := 56) d_MO_number_56 fa_MO_34_MO fp_MO_0 (by decide) rfl rfl rfl rfl ?_
                refine jv_aload_n 0 (pc := 59) d_MO_number_59 rfl ?_
                refine jv_geti (pc := 60) d_MO_number_60 fa_MO_34_MO (by decide) rfl rfl ?_
                refine jv_if_le 68 (pc := 63) d_MO_number_63 rfl (fun h63 => ?_) (fun h63 => absurd (show (0 : Int32) ≤ 0 by decide) (show ¬ ((0 : Int32) ≤ 0) from h63))
                refine jv_aload_n 0 (pc := 68) d_MO_number_68 rfl ?_
                refine jv_iload_n 1 (pc := 69) d_MO_number_69 rfl ?_
                refine jv_iload_n 2 (pc := 70) d_MO_number_70 rfl ?_
                refine jv_ldc (-2147483648) (pc := 71) d_MO_number_71 (jin5 23 rfl rfl) ?_
                refine jv_icmp_ne 80 (pc := 73) d_MO_number_73 rfl (fun h73 => ?_) (fun h73 => ?_)
                · have h73 : ¬ (x2 = (-2147483648 : Int32)) := h73
                  have H := (if_neg h73).symm.trans H
                  refine jv_iload_n 2 (pc := 80) d_MO_number_80 rfl ?_
                  refine jv_iload_n 2 (pc := 81) d_MO_number_81 rfl ?_
                  refine jv_ldc (-2147483648) (pc := 82) d_MO_number_82 (jin5 23 rfl rfl) ?_
                  refine jv_icmp_ne 91 (pc := 84) d_MO_number_84 rfl (fun h84 => ?_) (fun h84 => ?_)
                  · have h84 : ¬ (x2 = (-2147483648 : Int32)) := h84
                    have H := (if_neg h84).symm.trans H
                    refine jv_iconst 0 (pc := 91) d_MO_number_91 rfl ?_
                    obtain ⟨v92, n92, c92, H⟩ := jbd_some H
                    refine jv_callVi (sp_MO_codeNumber x1 x2 (0 : Int32) c92) (pc := 92) d_MO_number_92 c0_MO_codeNumber lk_MO_229 in_MO_codeNumber se_MO_codeNumber (by decide) rfl rfl rfl (Nat.le_of_ble_eq_true rfl) ⟨by decide, by decide, by decide, by decide⟩ (fun r92 m92 h92 => ?_)
                    obtain ⟨ha92, hb92⟩ := h92
                    have ha92 := ha92.symm
                    subst ha92
                    have hb92 := hb92.symm
                    subst hb92
                    refine jv_istore_n (pc := 95) d_MO_number_95 rfl (by decide) (jsto_new rfl) ?_
                    refine jv_aload_n 1 (pc := 96) d_MO_number_96 rfl ?_
                    refine jv_geti (pc := 97) d_MO_number_97 fa_MO_223_MO (by decide) rfl rfl ?_
                    refine jv_if_eq 108 (pc := 100) d_MO_number_100 rfl (fun h100 => ?_) (fun h100 => ?_)
                    · have h100 : (n92 38 20) = 0 := h100
                      have H := (if_pos h100).symm.trans H
                      refine jv_iload_n 0 (pc := 108) d_MO_number_108 rfl ?_
                      refine jv_iret (pc := 109) d_MO_number_109 rfl rfl (Nat.zero_le _) (Nat.zero_le _) ?_
                      cases H
                      exact jI.of ⟨rfl, rfl⟩
                    · have h100 : ¬ ((n92 38 20) = 0) := h100
                      have H := (if_neg h100).symm.trans H
                      refine jv_ldc (-2147483648) (pc := 103) d_MO_number_103 (jin5 23 rfl rfl) ?_
                      refine jv_goto 109 (pc := 105) d_MO_number_105 rfl ?_
                      refine jv_iret (pc := 109) d_MO_number_109 rfl rfl (Nat.zero_le _) (Nat.zero_le _) ?_
                      cases H
                      exact jI.of ⟨rfl, rfl⟩
                  · have h84 : x2 = (-2147483648 : Int32) := h84
                    have H := (if_pos h84).symm.trans H
                    refine jv_iconst 1 (pc := 87) d_MO_number_87 rfl ?_
                    refine jv_goto 92 (pc := 88) d_MO_number_88 rfl ?_
                    obtain ⟨v92, n92, c92, H⟩ := jbd_some H
                    refine jv_callVi (sp_MO_codeNumber x1 x2 (1 : Int32) c92) (pc := 92) d_MO_number_92 c0_MO_codeNumber lk_MO_229 in_MO_codeNumber se_MO_codeNumber (by decide) rfl rfl rfl (Nat.le_of_ble_eq_true rfl) ⟨by decide, by decide, by decide, by decide⟩ (fun r92 m92 h92 => ?_)
                    obtain ⟨ha92, hb92⟩ := h92
                    have ha92 := ha92.symm
                    subst ha92
                    have hb92 := hb92.symm
                    subst hb92
                    refine jv_istore_n (pc := 95) d_MO_number_95 rfl (by decide) (jsto_new rfl) ?_
                    refine jv_aload_n 1 (pc := 96) d_MO_number_96 rfl ?_
                    refine jv_geti (pc := 97) d_MO_number_97 fa_MO_223_MO (by decide) rfl rfl ?_
                    refine jv_if_eq 108 (pc := 100) d_MO_number_100 rfl (fun h100 => ?_) (fun h100 => ?_)
                    · have h100 : (n92 38 20) = 0 := h100
                      have H := (if_pos h100).symm.trans H
                      refine jv_iload_n 0 (pc := 108) d_MO_number_108 rfl ?_
                      refine jv_iret (pc := 109) d_MO_number_109 rfl rfl (Nat.zero_le _) (Nat.zero_le _) ?_
                      cases H
                      exact jI.of ⟨rfl, rfl⟩
                    · have h100 : ¬ ((n92 38 20) = 0) := h100
                      have H := (if_neg h100).symm.trans H
                      refine jv_ldc (-2147483648) (pc := 103) d_MO_number_103 (jin5 23 rfl rfl) ?_
                      refine jv_goto 109 (pc := 105) d_MO_number_105 rfl ?_
                      refine jv_iret (pc := 109) d_MO_number_109 rfl rfl (Nat.zero_le _) (Nat.zero_le _) ?_
                      cases H
                      exact jI.of ⟨rfl, rfl⟩
                · have h73 : x2 = (-2147483648 : Int32) := h73
                  have H := (if_pos h73).symm.trans H
                  refine jv_iconst 0 (pc := 76) d_MO_number_76 rfl ?_
                  refine jv_goto 81 (pc := 77) d_MO_number_77 rfl ?_
                  refine jv_iload_n 2 (pc := 81) d_MO_number_81 rfl ?_
                  refine jv_ldc (-2147483648) (pc := 82) d_MO_number_82 (jin5 23 rfl rfl) ?_
                  refine jv_icmp_ne 91 (pc := 84) d_MO_number_84 rfl (fun h84 => ?_) (fun h84 => ?_)
                  · have h84 : ¬ (x2 = (-2147483648 : Int32)) := h84
                    have H := (if_neg h84).symm.trans H
                    refine jv_iconst 0 (pc := 91) d_MO_number_91 rfl ?_
                    obtain ⟨v92, n92, c92, H⟩ := jbd_some H
                    refine jv_callVi (sp_MO_codeNumber x1 (0 : Int32) (0 : Int32) c92) (pc := 92) d_MO_number_92 c0_MO_codeNumber lk_MO_229 in_MO_codeNumber se_MO_codeNumber (by decide) rfl rfl rfl (Nat.le_of_ble_eq_true rfl) ⟨by decide, by decide, by decide, by decide⟩ (fun r92 m92 h92 => ?_)
                    obtain ⟨ha92, hb92⟩ := h92
                    have ha92 := ha92.symm
                    subst ha92
                    have hb92 := hb92.symm
                    subst hb92
                    refine jv_istore_n (pc := 95) d_MO_number_95 rfl (by decide) (jsto_new rfl) ?_
                    refine jv_aload_n 1 (pc := 96) d_MO_number_96 rfl ?_
                    refine jv_geti (pc := 97) d_MO_number_97 fa_MO_223_MO (by decide) rfl rfl ?_
                    refine jv_if_eq 108 (pc := 100) d_MO_number_100 rfl (fun h100 => ?_) (fun h100 => ?_)
                    · have h100 : (n92 38 20) = 0 := h100
                      have H := (if_pos h100).symm.trans H
                      refine jv_iload_n 0 (pc := 108) d_MO_number_108 rfl ?_
                      refine jv_iret (pc := 109) d_MO_number_109 rfl rfl (Nat.zero_le _) (Nat.zero_le _) ?_
                      cases H
                      exact jI.of ⟨rfl, rfl⟩
                    · have h100 : ¬ ((n92 38 20) = 0) := h100
                      have H := (if_neg h100).symm.trans H
                      refine jv_ldc (-2147483648) (pc := 103) d_MO_number_103 (jin5 23 rfl rfl) ?_
                      refine jv_goto 109 (pc := 105) d_MO_number_105 rfl ?_
                      refine jv_iret (pc := 109) d_MO_number_109 rfl rfl (Nat.zero_le _) (Nat.zero_le _) ?_
                      cases H
                      exact jI.of ⟨rfl, rfl⟩
                  · have h84 : x2 = (-2147483648 : Int32) := h84
                    have H := (if_pos h84).symm.trans H
                    refine jv_iconst 1 (pc := 87) d_MO_number_87 rfl ?_
                    refine jv_goto 92 (pc := 88) d_MO_number_88 rfl ?_
                    obtain ⟨v92, n92, c92, H⟩ := jbd_some H
                    refine jv_callVi (sp_MO_codeNumber x1 (0 : Int32) (1 : Int32) c92) (pc := 92) d_MO_number_92 c0_MO_codeNumber lk_MO_229 in_MO_codeNumber se_MO_codeNumber (by decide) rfl rfl rfl (Nat.le_of_ble_eq_true rfl) ⟨by decide, by decide, by decide, by decide⟩ (fun r92 m92 h92 => ?_)
                    obtain ⟨ha92, hb92⟩ := h92
                    have ha92 := ha92.symm
                    subst ha92
                    have hb92 := hb92.symm
                    subst hb92
                    refine jv_istore_n (pc := 95) d_MO_number_95 rfl (by decide) (jsto_new rfl) ?_
                    refine jv_aload_n 1 (pc := 96) d_MO_number_96 rfl ?_
                    refine jv_geti (pc := 97) d_MO_number_97 fa_MO_223_MO (by decide) rfl rfl ?_
                    refine jv_if_eq 108 (pc := 100) d_MO_number_100 rfl (fun h100 => ?_) (fun h100 => ?_)
                    · have h100 : (n92 38 20) = 0 := h100
                      have H := (if_pos h100).symm.trans H
                      refine jv_iload_n 0 (pc := 108) d_MO_number_108 rfl ?_
                      refine jv_iret (pc := 109) d_MO_number_109 rfl rfl (Nat.zero_le _) (Nat.zero_le _) ?_
                      cases H
                      exact jI.of ⟨rfl, rfl⟩
                    · have h100 : ¬ ((n92 38 20) = 0) := h100
                      have H := (if_neg h100).symm.trans H
                      refine jv_ldc (-2147483648) (pc := 103) d_MO_number_103 (jin5 23 rfl rfl) ?_
                      refine jv_goto 109 (pc := 105) d_MO_number_105 rfl ?_
                      refine jv_iret (pc := 109) d_MO_number_109 rfl rfl (Nat.zero_le _) (Nat.zero_le _) ?_
                      cases H
                      exact jI.of ⟨rfl, rfl⟩
              · have h48 : ¬ (x2 ≤ (1000000 : Int32)) := h48
                have H := (if_neg h48).symm.trans H
                refine jv_iconst 3 (pc := 51) d_MO_number_51 rfl ?_
                refine jv_goto 56 (pc := 52) d_MO_number_52 rfl ?_
                refine jv_puti (pc := 56) d_MO_number_56 fa_MO_34_MO fp_MO_0 (by decide) rfl rfl rfl rfl ?_
                refine jv_aload_n 0 (pc := 59) d_MO_number_59 rfl ?_
                refine jv_geti (pc := 60) d_MO_number_60 fa_MO_34_MO (by decide) rfl rfl ?_
                refine jv_if_le 68 (pc := 63) d_MO_number_63 rfl (fun h63 => absurd (show (3 : Int32) ≤ 0 from h63) (by decide)) (fun h63 => ?_)
                refine jv_iconst 0 (pc := 66) d_MO_number_66 rfl ?_
                refine jv_iret (pc := 67) d_MO_number_67 rfl rfl (Nat.zero_le _) (Nat.zero_le _) ?_
                cases H
                exact jI.of ⟨rfl, rfl⟩
      · have h18 : ¬ (x1 ≤ (2 : Int32)) := h18
        have H := (if_neg h18).symm.trans H
        refine jv_iconst 2 (pc := 21) d_MO_number_21 rfl ?_
        refine jv_goto 56 (pc := 22) d_MO_number_22 rfl ?_
        refine jv_puti (pc := 56) d_MO_number_56 fa_MO_34_MO fp_MO_0 (by decide) rfl rfl rfl rfl ?_
        refine jv_aload_n 0 (pc := 59) d_MO_number_59 rfl ?_
        refine jv_geti (pc := 60) d_MO_number_60 fa_MO_34_MO (by decide) rfl rfl ?_
        refine jv_if_le 68 (pc := 63) d_MO_number_63 rfl (fun h63 => absurd (show (2 : Int32) ≤ 0 from h63) (by decide)) (fun h63 => ?_)
        refine jv_iconst 0 (pc := 66) d_MO_number_66 rfl ?_
        refine jv_iret (pc := 67) d_MO_number_67 rfl rfl (Nat.zero_le _) (Nat.zero_le _) ?_
        cases H
        exact jI.of ⟨rfl, rfl⟩
  · have h5 : (σ 38 11) = 0 := h5
    have H := (if_pos h5).symm.trans H
    refine jv_iconst 1 (pc := 8) d_MO_number_8 rfl ?_
    refine jv_goto 56 (pc := 9) d_MO_number_9 rfl ?_
    refine jv_puti (pc := 56) d_MO_number_56 fa_MO_34_MO fp_MO_0 (by decide) rfl rfl rfl rfl ?_
    refine jv_aload_n 0 (pc := 59) d_MO_number_59 rfl ?_
    refine jv_geti (pc := 60) d_MO_number_60 fa_MO_34_MO (by decide) rfl rfl ?_
    refine jv_if_le 68 (pc := 63) d_MO_number_63 rfl (fun h63 => absurd (show (1 : Int32) ≤ 0 from h63) (by decide)) (fun h63 => ?_)
    refine jv_iconst 0 (pc := 66) d_MO_number_66 rfl ?_
    refine jv_iret (pc := 67) d_MO_number_67 rfl rfl (Nat.zero_le _) (Nat.zero_le _) ?_
    cases H
    exact jI.of ⟨rfl, rfl⟩
set_option maxRecDepth 40000 in
set_option maxHeartbeats 8000000 in
theorem sp_MO_codeIndex {G : jG} {σ τ : jMem} {r : Int32} (x1 : Int32) (H : f_MO_codeIndex x1 σ = some (r, τ)) : jSp G M_MO_codeIndex (jr 5 0 0) [.ref 38, .int x1] σ (jI fun r9 τ9 => r9 = r ∧ τ9 = τ) := by
  refine jSp.of rfl rfl (Nat.le_of_ble_eq_true rfl) ?_
  show jV _ _ _ _ 0 0 0 [(0, .ref 38), (1, .int x1)] [] σ
  unfold f_MO_codeIndex at H
  refine jv_aload_n 0 (pc := 0) d_MO_codeIndex_0 rfl ?_
  refine jv_sipush (15876) (pc := 1) d_MO_codeIndex_1 rfl ?_
  refine jv_iload_n 1 (pc := 4) d_MO_codeIndex_4 rfl ?_
  refine jv_iconst 2 (pc := 5) d_MO_codeIndex_5 rfl ?_
  refine jv_ishr (pc := 6) d_MO_codeIndex_6 ?_
  refine jv_iconst 1 (pc := 7) d_MO_codeIndex_7 rfl ?_
  refine jv_iand (pc := 8) d_MO_codeIndex_8 ?_
  obtain ⟨v9, n9, c9, H⟩ := jbd_some H
  refine jv_callVi (sp_MO_decide (15876 : Int32) ((x1 >>> ((2 : Int32) &&& 31)) &&& (1 : Int32)) c9) (pc := 9) d_MO_codeIndex_9 c0_MO_decide lk_MO_188 in_MO_decide se_MO_decide (by decide) rfl rfl rfl (Nat.le_of_ble_eq_true rfl) ⟨by decide, by decide, by decide, by decide⟩ (fun r9 m9 h9 => ?_)
  obtain ⟨ha9, hb9⟩ := h9
  have ha9 := ha9.symm
  subst ha9
  have hb9 := hb9.symm
  subst hb9
  refine jv_istore_n (pc := 12) d_MO_codeIndex_12 rfl (by decide) (jsto_new rfl) ?_
  refine jv_aload_n 1 (pc := 13) d_MO_codeIndex_13 rfl ?_
  refine jv_sipush (15877) (pc := 14) d_MO_codeIndex_14 rfl ?_
  refine jv_iload_n 0 (pc := 17) d_MO_codeIndex_17 rfl ?_
  refine jv_iadd (pc := 18) d_MO_codeIndex_18 ?_
  refine jv_iload_n 2 (pc := 19) d_MO_codeIndex_19 rfl ?_
  refine jv_iconst 1 (pc := 20) d_MO_codeIndex_20 rfl ?_
  refine jv_ishr (pc := 21) d_MO_codeIndex_21 ?_
  refine jv_iconst 1 (pc := 22) d_MO_codeIndex_22 rfl ?_
  refine jv_iand (pc := 23) d_MO_codeIndex_23 ?_
  obtain ⟨v24, n24, c24, H⟩ := jbd_some H
  refine jv_callVi (sp_MO_decide ((15877 : Int32) + v9) ((x1 >>> ((1 : Int32) &&& 31)) &&& (1 : Int32)) c24) (pc := 24) d_MO_codeIndex_24 c0_MO_decide lk_MO_188 in_MO_decide se_MO_decide (by decide) rfl rfl rfl (Nat.le_of_ble_eq_true rfl) ⟨by decide, by decide, by decide, by decide⟩ (fun r24 m24 h24 => ?_)
  obtain ⟨ha24, hb24⟩ := h24
  have ha24 := ha24.symm
  subst ha24
  have hb24 := hb24.symm
  subst hb24
  refine jv_istore_n (pc := 27) d_MO_codeIndex_27 rfl (by decide) (jsto_new rfl) ?_
  refine jv_aload_n 2 (pc := 28) d_MO_codeIndex_28 rfl ?_
  refine jv_sipush (15879) (pc := 29) d_MO_codeIndex_29 rfl ?_
  refine jv_iconst 2 (pc := 32) d_MO_codeIndex_32 rfl ?_
  refine jv_iload_n 1 (pc := 33) d_MO_codeIndex_33 rfl ?_
  refine jv_imul (pc := 34) d_MO_codeIndex_34 ?_
  refine jv_iadd (pc := 35) d_MO_codeIndex_35 ?_
  refine jv_iload_n 0 (pc := 36) d_MO_codeIndex_36 rfl ?_
  refine jv_iadd (pc := 37) d_MO_codeIndex_37 ?_
  refine jv_iload_n 3 (pc := 38) d_MO_codeIndex_38 rfl ?_
  refine jv_iconst 1 (pc := 39) d_MO_codeIndex_39 rfl ?_
  refine jv_iand (pc := 40) d_MO_codeIndex_40 ?_
  obtain ⟨v41, n41, c41, H⟩ := jbd_some H
  refine jv_callVi (sp_MO_decide (((15879 : Int32) + ((2 : Int32) * v9)) + v24) (x1 &&& (1 : Int32)) c41) (pc := 41) d_MO_codeIndex_41 c0_MO_decide lk_MO_188 in_MO_decide se_MO_decide (by decide) rfl rfl rfl (Nat.le_of_ble_eq_true rfl) ⟨by decide, by decide, by decide, by decide⟩ (fun r41 m41 h41 => ?_)
  obtain ⟨ha41, hb41⟩ := h41
  have ha41 := ha41.symm
  subst ha41
  have hb41 := hb41.symm
  subst hb41
  refine jv_istore (pc := 44) d_MO_codeIndex_44 (by decide) (jsto_new rfl) ?_
  refine jv_iconst 4 (pc := 46) d_MO_codeIndex_46 rfl ?_
  refine jv_iload_n 2 (pc := 47) d_MO_codeIndex_47 rfl ?_
  refine jv_imul (pc := 48) d_MO_codeIndex_48 ?_
  refine jv_iconst 2 (pc := 49) d_MO_codeIndex_49 rfl ?_
  refine jv_iload_n 1 (pc := 50) d_MO_codeIndex_50 rfl ?_
  refine jv_imul (pc := 51) d_MO_codeIndex_51 ?_
  refine jv_iadd (pc := 52) d_MO_codeIndex_52 ?_
  refine jv_iload 0 (pc := 53) d_MO_codeIndex_53 rfl ?_
  refine jv_iadd (pc := 55) d_MO_codeIndex_55 ?_
  refine jv_iret (pc := 56) d_MO_codeIndex_56 rfl rfl (Nat.zero_le _) (Nat.zero_le _) ?_
  cases H
  exact jI.of ⟨rfl, rfl⟩
set_option maxRecDepth 40000 in
set_option maxHeartbeats 8000000 in
theorem sp_MO_learn {G : jG} {σ τ : jMem} {r : Int32} (x1 : Int32) (H : f_MO_learn x1 σ = some (r, τ)) : jSp G M_MO_learn (jr 3 0 0) [.ref 38, .int x1] σ (jI fun r9 τ9 => r9 = r ∧ τ9 = τ) := by
  refine jSp.of rfl rfl (Nat.le_of_ble_eq_true rfl) ?_
  show jV _ _ _ _ 0 0 0 [(0, .ref 38), (1, .int x1)] [] σ
  unfold f_MO_learn at H
  refine jv_aload_n 0 (pc := 0) d_MO_learn_0 rfl ?_
  refine jv_iload_n 1 (pc := 1) d_MO_learn_1 rfl ?_
  refine jv_callSi (sp_MO_isBoard x1) (pc := 2) d_MO_learn_2 c0_MO_isBoard lk_MO_42 si_MO_isBoard rfl (Nat.le_of_ble_eq_true rfl) ⟨by decide, by decide, by decide, by decide⟩ (fun r2 m2 h2 => ?_)
  obtain ⟨ha2, hb2⟩ := h2
  subst ha2
  have hb2 := hb2.symm
  subst hb2
  refine jv_if_ne 12 (pc := 5) d_MO_learn_5 rfl (fun h5 => ?_) (fun h5 => ?_)
  · have h5 : ¬ ((f_MO_isBoard x1 σ) = 0) := h5
    have H := (if_neg h5).symm.trans H
    refine jv_aload_n 0 (pc := 12) d_MO_learn_12 rfl ?_
    refine jv_geti (pc := 13) d_MO_learn_13 fa_MO_232_MO (by decide) rfl rfl ?_
    refine jv_bipush (8) (pc := 16) d_MO_learn_16 rfl ?_
    refine jv_icmp_ne 25 (pc := 18) d_MO_learn_18 rfl (fun h18 => ?_) (fun h18 => ?_)
    · have h18 : ¬ ((σ 38 4) = (8 : Int32)) := h18
      have H := (if_neg h18).symm.trans H
      refine jv_iconst 0 (pc := 25) d_MO_learn_25 rfl ?_
      refine jv_puti (pc := 26) d_MO_learn_26 fa_MO_34_MO fp_MO_0 (by decide) rfl rfl rfl rfl ?_
      refine jv_aload_n 0 (pc := 29) d_MO_learn_29 rfl ?_
      refine jv_geti (pc := 30) d_MO_learn_30 fa_MO_34_MO (by decide) rfl rfl ?_
      refine jv_if_le 38 (pc := 33) d_MO_learn_33 rfl (fun h33 => ?_) (fun h33 => absurd (show (0 : Int32) ≤ 0 by decide) (show ¬ ((0 : Int32) ≤ 0) from h33))
      refine jv_iconst 4 (pc := 38) d_MO_learn_38 rfl ?_
      refine jv_aload_n 0 (pc := 39) d_MO_learn_39 rfl ?_
      refine jv_geti (pc := 40) d_MO_learn_40 fa_MO_232_MO (by decide) rfl rfl ?_
      refine jv_iadd (pc := 43) d_MO_learn_43 ?_
      refine jv_istore_n (pc := 44) d_MO_learn_44 rfl (by decide) (jsto_new rfl) ?_
      refine jv_aload_n 1 (pc := 45) d_MO_learn_45 rfl ?_
      refine jv_iload_n 0 (pc := 46) d_MO_learn_46 rfl ?_
      refine jv_aload_n 1 (pc := 47) d_MO_learn_47 rfl ?_
      refine jv_getr (pc := 48) d_MO_learn_48 fa_MO_13_MO (by decide) rfl rfl ?_
      refine jv_iload_n 2 (pc := 51) d_MO_learn_51 rfl ?_
      obtain ⟨b52, H⟩ := jck_some H
      refine jv_iald (pc := 52) d_MO_learn_52 (by decide) rfl b52 ?_
      refine jv_aload_n 1 (pc := 53) d_MO_learn_53 rfl ?_
      refine jv_getr (pc := 54) d_MO_learn_54 fa_MO_16_MO (by decide) rfl rfl ?_
      refine jv_iload_n 2 (pc := 57) d_MO_learn_57 rfl ?_
      obtain ⟨b58, H⟩ := jck_some H
      refine jv_iald (pc := 58) d_MO_learn_58 (by decide) rfl b58 ?_
      obtain ⟨_, n59, c59, H⟩ := jbd_some H
      refine jv_callVv (sp_MO_resize ((4 : Int32) + (σ 38 4)) (σ 40 x1.toNatClampNeg) (σ 41 x1.toNatClampNeg) c59) (pc := 59) d_MO_learn_59 c0_MO_resize lk_MO_46 in_MO_resize se_MO_resize (by decide) rfl rfl rfl (Nat.le_of_ble_eq_true rfl) ⟨by decide, by decide, by decide, by decide⟩ (fun m59 h59 => ?_)
      have hb59 := h59
      have hb59 := hb59.symm
      subst hb59
      refine jv_aload_n 1 (pc := 62) d_MO_learn_62 rfl ?_
      refine jv_iload_n 0 (pc := 63) d_MO_learn_63 rfl ?_
      refine jv_iload_n 2 (pc := 64) d_MO_learn_64 rfl ?_
      refine jv_iconst 0 (pc := 65) d_MO_learn_65 rfl ?_
      refine jv_iconst 0 (pc := 66) d_MO_learn_66 rfl ?_
      refine jv_iconst 4 (pc := 67) d_MO_learn_67 rfl ?_
      obtain ⟨_, n68, c68, H⟩ := jbd_some H
      refine jv_callVv (sp_MO_lay ((4 : Int32) + (σ 38 4)) x1 (0 : Int32) (0 : Int32) (4 : Int32) c68) (pc := 68) d_MO_learn_68 c0_MO_lay lk_MO_64 in_MO_lay se_MO_lay (by decide) rfl rfl rfl (Nat.le_of_ble_eq_true rfl) ⟨by decide, by decide, by decide, by decide⟩ (fun m68 h68 => ?_)
      have hb68 := h68
      have hb68 := hb68.symm
      subst hb68
      refine jv_aload_n 1 (pc := 71) d_MO_learn_71 rfl ?_
      refine jv_dup (pc := 72) d_MO_learn_72 rfl ?_
      refine jv_geti (pc := 73) d_MO_learn_73 fa_MO_232_MO (by decide) rfl rfl ?_
      refine jv_iconst 1 (pc := 76) d_MO_learn_76 rfl ?_
      refine jv_iadd (pc := 77) d_MO_learn_77 ?_
      refine jv_puti (pc := 78) d_MO_learn_78 fa_MO_232_MO fp_MO_4 (by decide) rfl rfl rfl rfl ?_
      refine jv_aload_n 1 (pc := 81) d_MO_learn_81 rfl ?_
      refine jv_geti (pc := 82) d_MO_learn_82 fa_MO_232_MO (by decide) rfl rfl ?_
      refine jv_iconst 1 (pc := 85) d_MO_learn_85 rfl ?_
      refine jv_isub (pc := 86) d_MO_learn_86 ?_
      refine jv_iret (pc := 87) d_MO_learn_87 rfl rfl (Nat.zero_le _) (Nat.zero_le _) ?_
      cases H
      exact jI.of ⟨rfl, rfl⟩
    · have h18 : (σ 38 4) = (8 : Int32) := h18
      have H := (if_pos h18).symm.trans H
      refine jv_iconst 2 (pc := 21) d_MO_learn_21 rfl ?_
      refine jv_goto 26 (pc := 22) d_MO_learn_22 rfl ?_
      refine jv_puti (pc := 26) d_MO_learn_26 fa_MO_34_MO fp_MO_0 (by decide) rfl rfl rfl rfl ?_
      refine jv_aload_n 0 (pc := 29) d_MO_learn_29 rfl ?_
      refine jv_geti (pc := 30) d_MO_learn_30 fa_MO_34_MO (by decide) rfl rfl ?_
      refine jv_if_le 38 (pc := 33) d_MO_learn_33 rfl (fun h33 => absurd (show (2 : Int32) ≤ 0 from h33) (by decide)) (fun h33 => ?_)
      refine jv_iconst 0 (pc := 36) d_MO_learn_36 rfl ?_
      refine jv_iret (pc := 37) d_MO_learn_37 rfl rfl (Nat.zero_le _) (Nat.zero_le _) ?_
      cases H
      exact jI.of ⟨rfl, rfl⟩
  · have h5 : (f_MO_isBoard x1 σ) = 0 := h5
    have H := (if_pos h5).symm.trans H
    refine jv_iconst 1 (pc := 8) d_MO_learn_8 rfl ?_
    refine jv_goto 26 (pc := 9) d_MO_learn_9 rfl ?_
    refine jv_puti (pc := 26) d_MO_learn_26 fa_MO_34_MO fp_MO_0 (by decide) rfl rfl rfl rfl ?_
    refine jv_aload_n 0 (pc := 29) d_MO_learn_29 rfl ?_
    refine jv_geti (pc := 30) d_MO_learn_30 fa_MO_34_MO (by decide) rfl rfl ?_
    refine jv_if_le 38 (pc := 33) d_MO_learn_33 rfl (fun h33 => absurd (show (1 : Int32) ≤ 0 from h33) (by decide)) (fun h33 => ?_)
    refine jv_iconst 0 (pc := 36) d_MO_learn_36 rfl ?_
    refine jv_iret (pc := 37) d_MO_learn_37 rfl rfl (Nat.zero_le _) (Nat.zero_le _) ?_
    cases H
    exact jI.of ⟨rfl, rfl⟩
set_option maxRecDepth 40000 in
set_option maxHeartbeats 8000000 in
theorem sp_MO_keepMark {G : jG} {σ τ : jMem} {r : Unit} (x1 x2 x3 : Int32) (H : f_MO_keepMark x1 x2 x3 σ = some (r, τ)) : jSp G M_MO_keepMark (jr 0 0 0) [.ref 38, .int x1, .int x2, .int x3] σ (jU fun τ9 => τ9 = τ) := by
  refine jSp.of rfl rfl (Nat.le_of_ble_eq_true rfl) ?_
  show jV _ _ _ _ 0 0 0 [(0, .ref 38), (1, .int x1), (2, .int x2), (3, .int x3)] [] σ
  unfold f_MO_keepMark at H
  refine jv_aload_n 0 (pc := 0) d_MO_keepMark_0 rfl ?_
  refine jv_getr (pc := 1) d_MO_keepMark_1 fa_MO_19_MO (by decide) rfl rfl ?_
  refine jv_aload_n 0 (pc := 4) d_MO_keepMark_4 rfl ?_
  refine jv_geti (pc := 5) d_MO_keepMark_5 fa_MO_235_MO (by decide) rfl rfl ?_
  refine jv_iload_n 1 (pc := 8) d_MO_keepMark_8 rfl ?_
  obtain ⟨b9, H⟩ := jck_some H
  refine jv_iast (pc := 9) d_MO_keepMark_9 (by decide) rfl b9 ?_
  refine jv_aload_n 0 (pc := 10) d_MO_keepMark_10 rfl ?_
  refine jv_getr (pc := 11) d_MO_keepMark_11 fa_MO_22_MO (by decide) rfl rfl ?_
  refine jv_aload_n 0 (pc := 14) d_MO_keepMark_14 rfl ?_
  refine jv_geti (pc := 15) d_MO_keepMark_15 fa_MO_235_MO (by decide) rfl rfl ?_
  refine jv_iload_n 2 (pc := 18) d_MO_keepMark_18 rfl ?_
  obtain ⟨b19, H⟩ := jck_some H
  refine jv_iast (pc := 19) d_MO_keepMark_19 (by decide) rfl b19 ?_
  refine jv_aload_n 0 (pc := 20) d_MO_keepMark_20 rfl ?_
  refine jv_getr (pc := 21) d_MO_keepMark_21 fa_MO_25_MO (by decide) rfl rfl ?_
  refine jv_aload_n 0 (pc := 24) d_MO_keepMark_24 rfl ?_
  refine jv_geti (pc := 25) d_MO_keepMark_25 fa_MO_235_MO (by decide) rfl rfl ?_
  refine jv_iload_n 3 (pc := 28) d_MO_keepMark_28 rfl ?_
  obtain ⟨b29, H⟩ := jck_some H
  refine jv_iast (pc := 29) d_MO_keepMark_29 (by decide) rfl b29 ?_
  refine jv_aload_n 0 (pc := 30) d_MO_keepMark_30 rfl ?_
  refine jv_dup (pc := 31) d_MO_keepMark_31 rfl ?_
  refine jv_geti (pc := 32) d_MO_keepMark_32 fa_MO_235_MO (by decide) rfl rfl ?_
  refine jv_iconst 1 (pc := 35) d_MO_keepMark_35 rfl ?_
  refine jv_iadd (pc := 36) d_MO_keepMark_36 ?_
  refine jv_puti (pc := 37) d_MO_keepMark_37 fa_MO_235_MO fp_MO_5 (by decide) rfl rfl rfl rfl ?_
  refine jv_vret (pc := 40) d_MO_keepMark_40 rfl (Nat.zero_le _) (Nat.zero_le _) ?_
  cases H
  exact jU.of rfl
set_option maxRecDepth 40000 in
set_option maxHeartbeats 8000000 in
theorem sp_MO_mark {G : jG} {σ τ : jMem} {r : Int32} (x1 x2 x3 : Int32) (H : f_MO_mark x1 x2 x3 σ = some (r, τ)) : jSp G M_MO_mark (jr 1 0 0) [.ref 38, .int x1, .int x2, .int x3] σ (jI fun r9 τ9 => r9 = r ∧ τ9 = τ) := by
  refine jSp.of rfl rfl (Nat.le_of_ble_eq_true rfl) ?_
  show jV _ _ _ _ 0 0 0 [(0, .ref 38), (1, .int x1), (2, .int x2), (3, .int x3)] [] σ
  unfold f_MO_mark at H
  refine jv_aload_n 0 (pc := 0) d_MO_mark_0 rfl ?_
  refine jv_aload_n 0 (pc := 1) d_MO_mark_1 rfl ?_
  refine jv_iload_n 1 (pc := 2) d_MO_mark_2 rfl ?_
  refine jv_callVi (sp_MO_isSymbol x1) (pc := 3) d_MO_mark_3 c0_MO_isSymbol lk_MO_238 in_MO_isSymbol se_MO_isSymbol (by decide) rfl rfl rfl (Nat.le_of_ble_eq_true rfl) ⟨by decide, by decide, by decide, by decide⟩ (fun r3 m3 h3 => ?_)
  obtain ⟨ha3, hb3⟩ := h3
  subst ha3
  have hb3 := hb3.symm
  subst hb3
  refine jv_if_ne 13 (pc := 6) d_MO_mark_6 rfl (fun h6 => ?_) (fun h6 => ?_)
  · have h6 : ¬ ((f_MO_isSymbol x1 σ) = 0) := h6
    have H := (if_neg h6).symm.trans H
    refine jv_iload_n 2 (pc := 13) d_MO_mark_13 rfl ?_
    refine jv_callSi (sp_MO_isFar x2) (pc := 14) d_MO_mark_14 c0_MO_isFar lk_MO_61 si_MO_isFar rfl (Nat.le_of_ble_eq_true rfl) ⟨by decide, by decide, by decide, by decide⟩ (fun r14 m14 h14 => ?_)
    obtain ⟨ha14, hb14⟩ := h14
    subst ha14
    have hb14 := hb14.symm
    subst hb14
    refine jv_if_ne 49 (pc := 17) d_MO_mark_17 rfl (fun h17 => ?_) (fun h17 => ?_)
    · have h17 : ¬ ((f_MO_isFar x2 σ) = 0) := h17
      have H := (if_neg h17).symm.trans H
      refine jv_iconst 2 (pc := 49) d_MO_mark_49 rfl ?_
      refine jv_goto 67 (pc := 50) d_MO_mark_50 rfl ?_
      refine jv_puti (pc := 67) d_MO_mark_67 fa_MO_34_MO fp_MO_0 (by decide) rfl rfl rfl rfl ?_
      refine jv_aload_n 0 (pc := 70) d_MO_mark_70 rfl ?_
      refine jv_geti (pc := 71) d_MO_mark_71 fa_MO_34_MO (by decide) rfl rfl ?_
      refine jv_if_le 79 (pc := 74) d_MO_mark_74 rfl (fun h74 => absurd (show (2 : Int32) ≤ 0 from h74) (by decide)) (fun h74 => ?_)
      refine jv_iconst 0 (pc := 77) d_MO_mark_77 rfl ?_
      refine jv_iret (pc := 78) d_MO_mark_78 rfl rfl (Nat.zero_le _) (Nat.zero_le _) ?_
      cases H
      exact jI.of ⟨rfl, rfl⟩
    · have h17 : (f_MO_isFar x2 σ) = 0 := h17
      have H := (if_pos h17).symm.trans H
      refine jv_iload_n 3 (pc := 20) d_MO_mark_20 rfl ?_
      refine jv_callSi (sp_MO_isFar x3) (pc := 21) d_MO_mark_21 c0_MO_isFar lk_MO_61 si_MO_isFar rfl (Nat.le_of_ble_eq_true rfl) ⟨by decide, by decide, by decide, by decide⟩ (fun r21 m21 h21 => ?_)
      obtain ⟨ha21, hb21⟩ := h21
      subst ha21
      have hb21 := hb21.symm
      subst hb21
      refine jv_if_ne 49 (pc := 24) d_MO_mark_24 rfl (fun h24 => ?_) (fun h24 => ?_)
      · have h24 : ¬ ((f_MO_isFar x3 σ) = 0) := h24
        have H := (if_neg h24).symm.trans H
        refine jv_iconst 2 (pc := 49) d_MO_mark_49 rfl ?_
        refine jv_goto 67 (pc := 50) d_MO_mark_50 rfl ?_
        refine jv_puti (pc := 67) d_MO_mark_67 fa_MO_34_MO fp_MO_0 (by decide) rfl rfl rfl rfl ?_
        refine jv_aload_n 0 (pc := 70) d_MO_mark_70 rfl ?_
        refine jv_geti (pc := 71) d_MO_mark_71 fa_MO_34_MO (by decide) rfl rfl ?_
        refine jv_if_le 79 (pc := 74) d_MO_mark_74 rfl (fun h74 => absurd (show (2 : Int32) ≤ 0 from h74) (by decide)) (fun h74 => ?_)
        refine jv_iconst 0 (pc := 77) d_MO_mark_77 rfl ?_
        refine jv_iret (pc := 78) d_MO_mark_78 rfl rfl (Nat.zero_le _) (Nat.zero_le _) ?_
        cases H
        exact jI.of ⟨rfl, rfl⟩
      · have h24 : (f_MO_isFar x3 σ) = 0 := h24
        have H := (if_pos h24).symm.trans H
        refine jv_aload_n 0 (pc := 27) d_MO_mark_27 rfl ?_
        refine jv_geti (pc := 28) d_MO_mark_28 fa_MO_235_MO (by decide) rfl rfl ?_
        refine jv_if_le 53 (pc := 31) d_MO_mark_31 rfl (fun h31 => ?_) (fun h31 => ?_)
        · have h31 : (σ 38 5) ≤ 0 := h31
          have H := (if_pos h31).symm.trans H
          refine jv_aload_n 0 (pc := 53) d_MO_mark_53 rfl ?_
          refine jv_geti (pc := 54) d_MO_mark_54 fa_MO_235_MO (by decide) rfl rfl ?_
          refine jv_bipush (12) (pc := 57) d_MO_mark_57 rfl ?_
          refine jv_icmp_ne 66 (pc := 59) d_MO_mark_59 rfl (fun h59 => ?_) (fun h59 => ?_)
          · have h59 : ¬ ((σ 38 5) = (12 : Int32)) := h59
            have H := (if_neg h59).symm.trans H
            refine jv_iconst 0 (pc := 66) d_MO_mark_66 rfl ?_
            refine jv_puti (pc := 67) d_MO_mark_67 fa_MO_34_MO fp_MO_0 (by decide) rfl rfl rfl rfl ?_
            refine jv_aload_n 0 (pc := 70) d_MO_mark_70 rfl ?_
            refine jv_geti (pc := 71) d_MO_mark_71 fa_MO_34_MO (by decide) rfl rfl ?_
            refine jv_if_le 79 (pc := 74) d_MO_mark_74 rfl (fun h74 => ?_) (fun h74 => absurd (show (0 : Int32) ≤ 0 by decide) (show ¬ ((0 : Int32) ≤ 0) from h74))
            refine jv_aload_n 0 (pc := 79) d_MO_mark_79 rfl ?_
            refine jv_iload_n 1 (pc := 80) d_MO_mark_80 rfl ?_
            refine jv_iload_n 2 (pc := 81) d_MO_mark_81 rfl ?_
            refine jv_iload_n 3 (pc := 82) d_MO_mark_82 rfl ?_
            obtain ⟨_, n83, c83, H⟩ := jbd_some H
            refine jv_callVv (sp_MO_keepMark x1 x2 x3 c83) (pc := 83) d_MO_mark_83 c0_MO_keepMark lk_MO_241 in_MO_keepMark se_MO_keepMark (by decide) rfl rfl rfl (Nat.le_of_ble_eq_true rfl) ⟨by decide, by decide, by decide, by decide⟩ (fun m83 h83 => ?_)
            have hb83 := h83
            have hb83 := hb83.symm
            subst hb83
            refine jv_aload_n 0 (pc := 86) d_MO_mark_86 rfl ?_
            refine jv_geti (pc := 87) d_MO_mark_87 fa_MO_235_MO (by decide) rfl rfl ?_
            refine jv_iret (pc := 90) d_MO_mark_90 rfl rfl (Nat.zero_le _) (Nat.zero_le _) ?_
            cases H
            exact jI.of ⟨rfl, rfl⟩
          · have h59 : (σ 38 5) = (12 : Int32) := h59
            have H := (if_pos h59).symm.trans H
            refine jv_iconst 3 (pc := 62) d_MO_mark_62 rfl ?_
            refine jv_goto 67 (pc := 63) d_MO_mark_63 rfl ?_
            refine jv_puti (pc := 67) d_MO_mark_67 fa_MO_34_MO fp_MO_0 (by decide) rfl rfl rfl rfl ?_
            refine jv_aload_n 0 (pc := 70) d_MO_mark_70 rfl ?_
            refine jv_geti (pc := 71) d_MO_mark_71 fa_MO_34_MO (by decide) rfl rfl ?_
            refine jv_if_le 79 (pc := 74) d_MO_mark_74 rfl (fun h74 => absurd (show (3 : Int32) ≤ 0 from h74) (by decide)) (fun h74 => ?_)
            refine jv_iconst 0 (pc := 77) d_MO_mark_77 rfl ?_
            refine jv_iret (pc := 78) d_MO_mark_78 rfl rfl (Nat.zero_le _) (Nat.zero_le _) ?_
            cases H
            exact jI.of ⟨rfl, rfl⟩
        · have h31 : ¬ ((σ 38 5) ≤ 0) := h31
          have H := (if_neg h31).symm.trans H
          refine jv_iload_n 3 (pc := 34) d_MO_mark_34 rfl ?_
          refine jv_aload_n 0 (pc := 35) d_MO_mark_35 rfl ?_
          refine jv_getr (pc := 36) d_MO_mark_36 fa_MO_25_MO (by decide) rfl rfl ?_
          refine jv_aload_n 0 (pc := 39) d_MO_mark_39 rfl ?_
          refine jv_geti (pc := 40) d_MO_mark_40 fa_MO_235_MO (by decide) rfl rfl ?_
          refine jv_iconst 1 (pc := 43) d_MO_mark_43 rfl ?_
          refine jv_isub (pc := 44) d_MO_mark_44 ?_
          obtain ⟨b45, H⟩ := jck_some H
          refine jv_iald (pc := 45) d_MO_mark_45 (by decide) rfl b45 ?_
          refine jv_icmp_ge 53 (pc := 46) d_MO_mark_46 rfl (fun h46 => ?_) (fun h46 => ?_)
          · have h46 : (σ 44 (((σ 38 5) - (1 : Int32)).toNatClampNeg)) ≤ x3 := h46
            have H := (if_pos h46).symm.trans H
            refine jv_aload_n 0 (pc := 53) d_MO_mark_53 rfl ?_
            refine jv_geti (pc := 54) d_MO_mark_54 fa_MO_235_MO (by decide) rfl rfl ?_
            refine jv_bipush (12) (pc := 57) d_MO_mark_57 rfl ?_
            refine jv_icmp_ne 66 (pc := 59) d_MO_mark_59 rfl (fun h59 => ?_) (fun h59 => ?_)
            · have h59 : ¬ ((σ 38 5) = (12 : Int32)) := h59
              have H := (if_neg h59).symm.trans H
              refine jv_iconst 0 (pc := 66) d_MO_mark_66 rfl ?_
              refine jv_puti (pc := 67) d_MO_mark_67 fa_MO_34_MO fp_MO_0 (by decide) rfl rfl rfl rfl ?_
              refine jv_aload_n 0 (pc := 70) d_MO_mark_70 rfl ?_
              refine jv_geti (pc := 71) d_MO_mark_71 fa_MO_34_MO (by decide) rfl rfl ?_
              refine jv_if_le 79 (pc := 74) d_MO_mark_74 rfl (fun h74 => ?_) (fun h74 => absurd (show (0 : Int32) ≤ 0 by decide) (show ¬ ((0 : Int32) ≤ 0) from h74))
              refine jv_aload_n 0 (pc := 79) d_MO_mark_79 rfl ?_
              refine jv_iload_n 1 (pc := 80) d_MO_mark_80 rfl ?_
              refine jv_iload_n 2 (pc := 81) d_MO_mark_81 rfl ?_
              refine jv_iload_n 3 (pc := 82) d_MO_mark_82 rfl ?_
              obtain ⟨_, n83, c83, H⟩ := jbd_some H
              refine jv_callVv (sp_MO_keepMark x1 x2 x3 c83) (pc := 83) d_MO_mark_83 c0_MO_keepMark lk_MO_241 in_MO_keepMark se_MO_keepMark (by decide) rfl rfl rfl (Nat.le_of_ble_eq_true rfl) ⟨by decide, by decide, by decide, by decide⟩ (fun m83 h83 => ?_)
              have hb83 := h83
              have hb83 := hb83.symm
              subst hb83
              refine jv_aload_n 0 (pc := 86) d_MO_mark_86 rfl ?_
              refine jv_geti (pc := 87) d_MO_mark_87 fa_MO_235_MO (by decide) rfl rfl ?_
              refine jv_iret (pc := 90) d_MO_mark_90 rfl rfl (Nat.zero_le _) (Nat.zero_le _) ?_
              cases H
              exact jI.of ⟨rfl, rfl⟩
            · have h59 : (σ 38 5) = (12 : Int32) := h59
              have H := (if_pos h59).symm.trans H
              refine jv_iconst 3 (pc := 62) d_MO_mark_62 rfl ?_
              refine jv_goto 67 (pc := 63) d_MO_mark_63 rfl ?_
              refine jv_puti (pc := 67) d_MO_mark_67 fa_MO_34_MO fp_MO_0 (by decide) rfl rfl rfl rfl ?_
              refine jv_aload_n 0 (pc := 70) d_MO_mark_70 rfl ?_
              refine jv_geti (pc := 71) d_MO_mark_71 fa_MO_34_MO (by decide) rfl rfl ?_
              refine jv_if_le 79 (pc := 74) d_MO_mark_74 rfl (fun h74 => absurd (show (3 : Int32) ≤ 0 from h74) (by decide)) (fun h74 => ?_)
              refine jv_iconst 0 (pc := 77) d_MO_mark_77 rfl ?_
              refine jv_iret (pc := 78) d_MO_mark_78 rfl rfl (Nat.zero_le _) (Nat.zero_le _) ?_
              cases H
              exact jI.of ⟨rfl, rfl⟩
          · have h46 : ¬ ((σ 44 (((σ 38 5) - (1 : Int32)).toNatClampNeg)) ≤ x3) := h46
            have H := (if_neg h46).symm.trans H
            refine jv_iconst 2 (pc := 49) d_MO_mark_49 rfl ?_
            refine jv_goto 67 (pc := 50) d_MO_mark_50 rfl ?_
            refine jv_puti (pc := 67) d_MO_mark_67 fa_MO_34_MO fp_MO_0 (by decide) rfl rfl rfl rfl ?_
            refine jv_aload_n 0 (pc := 70) d_MO_mark_70 rfl ?_
            refine jv_geti (pc := 71) d_MO_mark_71 fa_MO_34_MO (by decide) rfl rfl ?_
            refine jv_if_le 79 (pc := 74) d_MO_mark_74 rfl (fun h74 => absurd (show (2 : Int32) ≤ 0 from h74) (by decide)) (fun h74 => ?_)
            refine jv_iconst 0 (pc := 77) d_MO_mark_77 rfl ?_
            refine jv_iret (pc := 78) d_MO_mark_78 rfl rfl (Nat.zero_le _) (Nat.zero_le _) ?_
            cases H
            exact jI.of ⟨rfl, rfl⟩
  · have h6 : (f_MO_isSymbol x1 σ) = 0 := h6
    have H := (if_pos h6).symm.trans H
    refine jv_iconst 1 (pc := 9) d_MO_mark_9 rfl ?_
    refine jv_goto 67 (pc := 10) d_MO_mark_10 rfl ?_
    refine jv_puti (pc := 67) d_MO_mark_67 fa_MO_34_MO fp_MO_0 (by decide) rfl rfl rfl rfl ?_
    refine jv_aload_n 0 (pc := 70) d_MO_mark_70 rfl ?_
    refine jv_geti (pc := 71) d_MO_mark_71 fa_MO_34_MO (by decide) rfl rfl ?_
    refine jv_if_le 79 (pc := 74) d_MO_mark_74 rfl (fun h74 => absurd (show (1 : Int32) ≤ 0 from h74) (by decide)) (fun h74 => ?_)
    refine jv_iconst 0 (pc := 77) d_MO_mark_77 rfl ?_
    refine jv_iret (pc := 78) d_MO_mark_78 rfl rfl (Nat.zero_le _) (Nat.zero_le _) ?_
    cases H
    exact jI.of ⟨rfl, rfl⟩
set_option maxRecDepth 40000 in
set_option maxHeartbeats 8000000 in
theorem sp_MO_symbol {G : jG} {σ τ : jMem} {r : Int32} (x1 x2 x3 : Int32) (H : f_MO_symbol x1 x2 x3 σ = some (r, τ)) : jSp G M_MO_symbol (jr 2 0 0) [.ref 38, .int x1, .int x2, .int x3] σ (jI fun r9 τ9 => r9 = r ∧ τ9 = τ) := by
  refine jSp.of rfl rfl (Nat.le_of_ble_eq_true rfl) ?_
  show jV _ _ _ _ 0 0 0 [(0, .ref 38), (1, .int x1), (2, .int x2), (3, .int x3)] [] σ
  unfold f_MO_symbol at H
  refine jv_iload_n 2 (pc := 0) d_MO_symbol_0 rfl ?_
  refine jv_iconst (-1) (pc := 1) d_MO_symbol_1 rfl ?_
  refine jv_icmp_eq 11 (pc := 2) d_MO_symbol_2 rfl (fun h2 => ?_) (fun h2 => ?_)
  · have h2 : x2 = (-1 : Int32) := h2
    have H := (if_pos h2).symm.trans H
    refine jv_iconst 1 (pc := 11) d_MO_symbol_11 rfl ?_
    refine jv_goto 16 (pc := 12) d_MO_symbol_12 rfl ?_
    refine jv_istore (pc := 16) d_MO_symbol_16 (by decide) (jsto_new rfl) ?_
    refine jv_aload_n 1 (pc := 18) d_MO_symbol_18 rfl ?_
    refine jv_aload_n 1 (pc := 19) d_MO_symbol_19 rfl ?_
    refine jv_iload_n 2 (pc := 20) d_MO_symbol_20 rfl ?_
    refine jv_callVi (sp_MO_isSymbol x1) (pc := 21) d_MO_symbol_21 c0_MO_isSymbol lk_MO_238 in_MO_isSymbol se_MO_isSymbol (by decide) rfl rfl rfl (Nat.le_of_ble_eq_true rfl) ⟨by decide, by decide, by decide, by decide⟩ (fun r21 m21 h21 => ?_)
    obtain ⟨ha21, hb21⟩ := h21
    subst ha21
    have hb21 := hb21.symm
    subst hb21
    refine jv_if_eq 48 (pc := 24) d_MO_symbol_24 rfl (fun h24 => ?_) (fun h24 => ?_)
    · have h24 : (f_MO_isSymbol x1 σ) = 0 := h24
      have H := (if_pos h24).symm.trans H
      refine jv_iconst 1 (pc := 48) d_MO_symbol_48 rfl ?_
      refine jv_puti (pc := 49) d_MO_symbol_49 fa_MO_34_MO fp_MO_0 (by decide) rfl rfl rfl rfl ?_
      refine jv_aload_n 1 (pc := 52) d_MO_symbol_52 rfl ?_
      refine jv_geti (pc := 53) d_MO_symbol_53 fa_MO_34_MO (by decide) rfl rfl ?_
      refine jv_if_le 63 (pc := 56) d_MO_symbol_56 rfl (fun h56 => absurd (show (1 : Int32) ≤ 0 from h56) (by decide)) (fun h56 => ?_)
      refine jv_iconst 0 (pc := 59) d_MO_symbol_59 rfl ?_
      refine jv_goto 105 (pc := 60) d_MO_symbol_60 rfl ?_
      refine jv_iret (pc := 105) d_MO_symbol_105 rfl rfl (Nat.zero_le _) (Nat.zero_le _) ?_
      cases H
      exact jI.of ⟨rfl, rfl⟩
    · have h24 : ¬ ((f_MO_isSymbol x1 σ) = 0) := h24
      have H := (if_neg h24).symm.trans H
      refine jv_iload 0 (pc := 27) d_MO_symbol_27 rfl ?_
      refine jv_if_ne 44 (pc := 29) d_MO_symbol_29 rfl (fun h29 => ?_) (fun h29 => absurd (show (1 : Int32) = 0 from h29) (by decide))
      refine jv_iconst 0 (pc := 44) d_MO_symbol_44 rfl ?_
      refine jv_goto 49 (pc := 45) d_MO_symbol_45 rfl ?_
      refine jv_puti (pc := 49) d_MO_symbol_49 fa_MO_34_MO fp_MO_0 (by decide) rfl rfl rfl rfl ?_
      refine jv_aload_n 1 (pc := 52) d_MO_symbol_52 rfl ?_
      refine jv_geti (pc := 53) d_MO_symbol_53 fa_MO_34_MO (by decide) rfl rfl ?_
      refine jv_if_le 63 (pc := 56) d_MO_symbol_56 rfl (fun h56 => ?_) (fun h56 => absurd (show (0 : Int32) ≤ 0 by decide) (show ¬ ((0 : Int32) ≤ 0) from h56))
      refine jv_iload_n 3 (pc := 63) d_MO_symbol_63 rfl ?_
      refine jv_iconst (-1) (pc := 64) d_MO_symbol_64 rfl ?_
      refine jv_icmp_ne 79 (pc := 65) d_MO_symbol_65 rfl (fun h65 => ?_) (fun h65 => ?_)
      · have h65 : ¬ (x2 = (-1 : Int32)) := h65
        have H := (if_neg h65).symm.trans H
        refine jv_iload_n 3 (pc := 79) d_MO_symbol_79 rfl ?_
        refine jv_bipush (-2) (pc := 80) d_MO_symbol_80 rfl ?_
        refine jv_icmp_ne 96 (pc := 82) d_MO_symbol_82 rfl (fun h82 => ?_) (fun h82 => ?_)
        · have h82 : ¬ (x2 = (-2 : Int32)) := h82
          have H := (if_neg h82).symm.trans H
          refine jv_aload_n 1 (pc := 96) d_MO_symbol_96 rfl ?_
          refine jv_iconst 4 (pc := 97) d_MO_symbol_97 rfl ?_
          refine jv_iload_n 2 (pc := 98) d_MO_symbol_98 rfl ?_
          refine jv_iadd (pc := 99) d_MO_symbol_99 ?_
          refine jv_iload_n 3 (pc := 100) d_MO_symbol_100 rfl ?_
          refine jv_iload_n 4 (pc := 101) d_MO_symbol_101 rfl ?_
          obtain ⟨v102, n102, c102, H⟩ := jbd_some H
          refine jv_callVi (sp_MO_at ((4 : Int32) + x1) x2 x3 c102) (pc := 102) d_MO_symbol_102 c0_MO_at lk_MO_50 in_MO_at se_MO_at (by decide) rfl rfl rfl (Nat.le_of_ble_eq_true rfl) ⟨by decide, by decide, by decide, by decide⟩ (fun r102 m102 h102 => ?_)
          obtain ⟨ha102, hb102⟩ := h102
          have ha102 := ha102.symm
          subst ha102
          have hb102 := hb102.symm
          subst hb102
          refine jv_iret (pc := 105) d_MO_symbol_105 rfl rfl (Nat.zero_le _) (Nat.zero_le _) ?_
          cases H
          exact jI.of ⟨rfl, rfl⟩
        · have h82 : x2 = (-2 : Int32) := h82
          have H := (if_pos h82).symm.trans H
          refine jv_aload_n 1 (pc := 85) d_MO_symbol_85 rfl ?_
          refine jv_getr (pc := 86) d_MO_symbol_86 fa_MO_16_MO (by decide) rfl rfl ?_
          refine jv_iconst 4 (pc := 89) d_MO_symbol_89 rfl ?_
          refine jv_iload_n 2 (pc := 90) d_MO_symbol_90 rfl ?_
          refine jv_iadd (pc := 91) d_MO_symbol_91 ?_
          obtain ⟨b92, H⟩ := jck_some H
          refine jv_iald (pc := 92) d_MO_symbol_92 (by decide) rfl b92 ?_
          refine jv_goto 105 (pc := 93) d_MO_symbol_93 rfl ?_
          refine jv_iret (pc := 105) d_MO_symbol_105 rfl rfl (Nat.zero_le _) (Nat.zero_le _) ?_
          cases H
          exact jI.of ⟨rfl, rfl⟩
      · have h65 : x2 = (-1 : Int32) := h65
        have H := (if_pos h65).symm.trans H
        refine jv_aload_n 1 (pc := 68) d_MO_symbol_68 rfl ?_
        refine jv_getr (pc := 69) d_MO_symbol_69 fa_MO_13_MO (by decide) rfl rfl ?_
        refine jv_iconst 4 (pc := 72) d_MO_symbol_72 rfl ?_
        refine jv_iload_n 2 (pc := 73) d_MO_symbol_73 rfl ?_
        refine jv_iadd (pc := 74) d_MO_symbol_74 ?_
        obtain ⟨b75, H⟩ := jck_some H
        refine jv_iald (pc := 75) d_MO_symbol_75 (by decide) rfl b75 ?_
        refine jv_goto 105 (pc := 76) d_MO_symbol_76 rfl ?_
        refine jv_iret (pc := 105) d_MO_symbol_105 rfl rfl (Nat.zero_le _) (Nat.zero_le _) ?_
        cases H
        exact jI.of ⟨rfl, rfl⟩
  · have h2 : ¬ (x2 = (-1 : Int32)) := h2
    have H := (if_neg h2).symm.trans H
    refine jv_iload_n 2 (pc := 5) d_MO_symbol_5 rfl ?_
    refine jv_bipush (-2) (pc := 6) d_MO_symbol_6 rfl ?_
    refine jv_icmp_ne 15 (pc := 8) d_MO_symbol_8 rfl (fun h8 => ?_) (fun h8 => ?_)
    · have h8 : ¬ (x2 = (-2 : Int32)) := h8
      have H := (if_neg h8).symm.trans H
      refine jv_iconst 0 (pc := 15) d_MO_symbol_15 rfl ?_
      refine jv_istore (pc := 16) d_MO_symbol_16 (by decide) (jsto_new rfl) ?_
      refine jv_aload_n 1 (pc := 18) d_MO_symbol_18 rfl ?_
      refine jv_aload_n 1 (pc := 19) d_MO_symbol_19 rfl ?_
      refine jv_iload_n 2 (pc := 20) d_MO_symbol_20 rfl ?_
      refine jv_callVi (sp_MO_isSymbol x1) (pc := 21) d_MO_symbol_21 c0_MO_isSymbol lk_MO_238 in_MO_isSymbol se_MO_isSymbol (by decide) rfl rfl rfl (Nat.le_of_ble_eq_true rfl) ⟨by decide, by decide, by decide, by decide⟩ (fun r21 m21 h21 => ?_)
      obtain ⟨ha21, hb21⟩ := h21
      subst ha21
      have hb21 := hb21.symm
      subst hb21
      refine jv_if_eq 48 (pc := 24) d_MO_symbol_24 rfl (fun h24 => ?_) (fun h24 => ?_)
      · have h24 : (f_MO_isSymbol x1 σ) = 0 := h24
        have H := (if_pos h24).symm.trans H
        refine jv_iconst 1 (pc := 48) d_MO_symbol_48 rfl ?_
        refine jv_puti (pc := 49) d_MO_symbol_49 fa_MO_34_MO fp_MO_0 (by decide) rfl rfl rfl rfl ?_
        refine jv_aload_n 1 (pc := 52) d_MO_symbol_52 rfl ?_
        refine jv_geti (pc := 53) d_MO_symbol_53 fa_MO_34_MO (by decide) rfl rfl ?_
        refine jv_if_le 63 (pc := 56) d_MO_symbol_56 rfl (fun h56 => absurd (show (1 : Int32) ≤ 0 from h56) (by decide)) (fun h56 => ?_)
        refine jv_iconst 0 (pc := 59) d_MO_symbol_59 rfl ?_
        refine jv_goto 105 (pc := 60) d_MO_symbol_60 rfl ?_
        refine jv_iret (pc := 105) d_MO_symbol_105 rfl rfl (Nat.zero_le _) (Nat.zero_le _) ?_
        cases H
        exact jI.of ⟨rfl, rfl⟩
      · have h24 : ¬ ((f_MO_isSymbol x1 σ) = 0) := h24
        have H := (if_neg h24).symm.trans H
        refine jv_iload 0 (pc := 27) d_MO_symbol_27 rfl ?_
        refine jv_if_ne 44 (pc := 29) d_MO_symbol_29 rfl (fun h29 => absurd (show (0 : Int32) = 0 by decide) (show ¬ ((0 : Int32) = 0) from h29)) (fun h29 => ?_)
        refine jv_aload_n 1 (pc := 32) d_MO_symbol_32 rfl ?_
        refine jv_iconst 4 (pc := 33) d_MO_symbol_33 rfl ?_
        refine jv_iload_n 2 (pc := 34) d_MO_symbol_34 rfl ?_
        refine jv_iadd (pc := 35) d_MO_symbol_35 ?_
        refine jv_iload_n 3 (pc := 36) d_MO_symbol_36 rfl ?_
        refine jv_iload_n 4 (pc := 37) d_MO_symbol_37 rfl ?_
        obtain ⟨v38, n38, c38, H⟩ := jbd_some H
        refine jv_callVi (sp_MO_isInside ((4 : Int32) + x1) x2 x3 c38) (pc := 38) d_MO_symbol_38 c0_MO_isInside lk_MO_38 in_MO_isInside se_MO_isInside (by decide) rfl rfl rfl (Nat.le_of_ble_eq_true rfl) ⟨by decide, by decide, by decide, by decide⟩ (fun r38 m38 h38 => ?_)
        obtain ⟨ha38, hb38⟩ := h38
        have ha38 := ha38.symm
        subst ha38
        have hb38 := hb38.symm
        subst hb38
        refine jv_if_eq 48 (pc := 41) d_MO_symbol_41 rfl (fun h41 => ?_) (fun h41 => ?_)
        · have h41 : v38 = 0 := h41
          have H := (if_pos h41).symm.trans H
          refine jv_iconst 1 (pc := 48) d_MO_symbol_48 rfl ?_
          refine jv_puti (pc := 49) d_MO_symbol_49 fa_MO_34_MO fp_MO_0 (by decide) rfl rfl rfl rfl ?_
          refine jv_aload_n 1 (pc := 52) d_MO_symbol_52 rfl ?_
          refine jv_geti (pc := 53) d_MO_symbol_53 fa_MO_34_MO (by decide) rfl rfl ?_
          refine jv_if_le 63 (pc := 56) d_MO_symbol_56 rfl (fun h56 => absurd (show (1 : Int32) ≤ 0 from h56) (by decide)) (fun h56 => ?_)
          refine jv_iconst 0 (pc := 59) d_MO_symbol_59 rfl ?_
          refine jv_goto 105 (pc := 60) d_MO_symbol_60 rfl ?_
          refine jv_iret (pc := 105) d_MO_symbol_105 rfl rfl (Nat.zero_le _) (Nat.zero_le _) ?_
          cases H
          exact jI.of ⟨rfl, rfl⟩
        · have h41 : ¬ (v38 = 0) := h41
          have H := (if_neg h41).symm.trans H
          refine jv_iconst 0 (pc := 44) d_MO_symbol_44 rfl ?_
          refine jv_goto 49 (pc := 45) d_MO_symbol_45 rfl ?_
          refine jv_puti (pc := 49) d_MO_symbol_49 fa_MO_34_MO fp_MO_0 (by decide) rfl rfl rfl rfl ?_
          refine jv_aload_n 1 (pc := 52) d_MO_symbol_52 rfl ?_
          refine jv_geti (pc := 53) d_MO_symbol_53 fa_MO_34_MO (by decide) rfl rfl ?_
          refine jv_if_le 63 (pc := 56) d_MO_symbol_56 rfl (fun h56 => ?_) (fun h56 => absurd (show (0 : Int32) ≤ 0 by decide) (show ¬ ((0 : Int32) ≤ 0) from h56))
          refine jv_iload_n 3 (pc := 63) d_MO_symbol_63 rfl ?_
          refine jv_iconst (-1) (pc := 64) d_MO_symbol_64 rfl ?_
          refine jv_icmp_ne 79 (pc := 65) d_MO_symbol_65 rfl (fun h65 => ?_) (fun h65 => ?_)
          · have h65 : ¬ (x2 = (-1 : Int32)) := h65
            have H := (if_neg h65).symm.trans H
            refine jv_iload_n 3 (pc := 79) d_MO_symbol_79 rfl ?_
            refine jv_bipush (-2) (pc := 80) d_MO_symbol_80 rfl ?_
            refine jv_icmp_ne 96 (pc := 82) d_MO_symbol_82 rfl (fun h82 => ?_) (fun h82 => ?_)
            · have h82 : ¬ (x2 = (-2 : Int32)) := h82
              have H := (if_neg h82).symm.trans H
              refine jv_aload_n 1 (pc := 96) d_MO_symbol_96 rfl ?_
              refine jv_iconst 4 (pc := 97) d_MO_symbol_97 rfl ?_
              refine jv_iload_n 2 (pc := 98) d_MO_symbol_98 rfl ?_
              refine jv_iadd (pc := 99) d_MO_symbol_99 ?_
              refine jv_iload_n 3 (pc := 100) d_MO_symbol_100 rfl ?_
              refine jv_iload_n 4 (pc := 101) d_MO_symbol_101 rfl ?_
              obtain ⟨v102, n102, c102, H⟩ := jbd_some H
              refine jv_callVi (sp_MO_at ((4 : Int32) + x1) x2 x3 c102) (pc := 102) d_MO_symbol_102 c0_MO_at lk_MO_50 in_MO_at se_MO_at (by decide) rfl rfl rfl (Nat.le_of_ble_eq_true rfl) ⟨by decide, by decide, by decide, by decide⟩ (fun r102 m102 h102 => ?_)
              obtain ⟨ha102, hb102⟩ := h102
              have ha102 := ha102.symm
              subst ha102
              have hb102 := hb102.symm
              subst hb102
              refine jv_iret (pc := 105) d_MO_symbol_105 rfl rfl (Nat.zero_le _) (Nat.zero_le _) ?_
              cases H
              exact jI.of ⟨rfl, rfl⟩
            · have h82 : x2 = (-2 : Int32) := h82
              have H := (if_pos h82).symm.trans H
              refine jv_aload_n 1 (pc := 85) d_MO_symbol_85 rfl ?_
              refine jv_getr (pc := 86) d_MO_symbol_86 fa_MO_16_MO (by decide) rfl rfl ?_
              refine jv_iconst 4 (pc := 89) d_MO_symbol_89 rfl ?_
              refine jv_iload_n 2 (pc := 90) d_MO_symbol_90 rfl ?_
              refine jv_iadd (pc := 91) d_MO_symbol_91 ?_
              obtain ⟨b92, H⟩ := jck_some H
              refine jv_iald (pc := 92) d_MO_symbol_92 (by decide) rfl b92 ?_
              refine jv_goto 105 (pc := 93) d_MO_symbol_93 rfl ?_
              refine jv_iret (pc := 105) d_MO_symbol_105 rfl rfl (Nat.zero_le _) (Nat.zero_le _) ?_
              cases H
              exact jI.of ⟨rfl, rfl⟩
          · have h65 : x2 = (-1 : Int32) := h65
            have H := (if_pos h65).symm.trans H
            refine jv_aload_n 1 (pc := 68) d_MO_symbol_68 rfl ?_
            refine jv_getr (pc := 69) d_MO_symbol_69 fa_MO_13_MO (by decide) rfl rfl ?_
            refine jv_iconst 4 (pc := 72) d_MO_symbol_72 rfl ?_
            refine jv_iload_n 2 (pc := 73) d_MO_symbol_73 rfl ?_
            refine jv_iadd (pc := 74) d_MO_symbol_74 ?_
            obtain ⟨b75, H⟩ := jck_some H
            refine jv_iald (pc := 75) d_MO_symbol_75 (by decide) rfl b75 ?_
            refine jv_goto 105 (pc := 76) d_MO_symbol_76 rfl ?_
            refine jv_iret (pc := 105) d_MO_symbol_105 rfl rfl (Nat.zero_le _) (Nat.zero_le _) ?_
            cases H
            exact jI.of ⟨rfl, rfl⟩
    · have h8 : x2 = (-2 : Int32) := h8
      have H := (if_pos h8).symm.trans H
      refine jv_iconst 1 (pc := 11) d_MO_symbol_11 rfl ?_
      refine jv_goto 16 (pc := 12) d_MO_symbol_12 rfl ?_
      refine jv_istore (pc := 16) d_MO_symbol_16 (by decide) (jsto_new rfl) ?_
      refine jv_aload_n 1 (pc := 18) d_MO_symbol_18 rfl ?_
      refine jv_aload_n 1 (pc := 19) d_MO_symbol_19 rfl ?_
      refine jv_iload_n 2 (pc := 20) d_MO_symbol_20 rfl ?_
      refine jv_callVi (sp_MO_isSymbol x1) (pc := 21) d_MO_symbol_21 c0_MO_isSymbol lk_MO_238 in_MO_isSymbol se_MO_isSymbol (by decide) rfl rfl rfl (Nat.le_of_ble_eq_true rfl) ⟨by decide, by decide, by decide, by decide⟩ (fun r21 m21 h21 => ?_)
      obtain ⟨ha21, hb21⟩ := h21
      subst ha21
      have hb21 := hb21.symm
      subst hb21
      refine jv_if_eq 48 (pc := 24) d_MO_symbol_24 rfl (fun h24 => ?_) (fun h24 => ?_)
      · have h24 : (f_MO_isSymbol x1 σ) = 0 := h24
        have H := (if_pos h24).symm.trans H
        refine jv_iconst 1 (pc := 48) d_MO_symbol_48 rfl ?_
        refine jv_puti (pc := 49) d_MO_symbol_49 fa_MO_34_MO fp_MO_0 (by decide) rfl rfl rfl rfl ?_
        refine jv_aload_n 1 (pc := 52) d_MO_symbol_52 rfl ?_
        refine jv_geti (pc := 53) d_MO_symbol_53 fa_MO_34_MO (by decide) rfl rfl ?_
        refine jv_if_le 63 (pc := 56) d_MO_symbol_56 rfl (fun h56 => absurd (show (1 : Int32) ≤ 0 from h56) (by decide)) (fun h56 => ?_)
        refine jv_iconst 0 (pc := 59) d_MO_symbol_59 rfl ?_
        refine jv_goto 105 (pc := 60) d_MO_symbol_60 rfl ?_
        refine jv_iret (pc := 105) d_MO_symbol_105 rfl rfl (Nat.zero_le _) (Nat.zero_le _) ?_
        cases H
        exact jI.of ⟨rfl, rfl⟩
      · have h24 : ¬ ((f_MO_isSymbol x1 σ) = 0) := h24
        have H := (if_neg h24).symm.trans H
        refine jv_iload 0 (pc := 27) d_MO_symbol_27 rfl ?_
        refine jv_if_ne 44 (pc := 29) d_MO_symbol_29 rfl (fun h29 => ?_) (fun h29 => absurd (show (1 : Int32) = 0 from h29) (by decide))
        refine jv_iconst 0 (pc := 44) d_MO_symbol_44 rfl ?_
        refine jv_goto 49 (pc := 45) d_MO_symbol_45 rfl ?_
        refine jv_puti (pc := 49) d_MO_symbol_49 fa_MO_34_MO fp_MO_0 (by decide) rfl rfl rfl rfl ?_
        refine jv_aload_n 1 (pc := 52) d_MO_symbol_52 rfl ?_
        refine jv_geti (pc := 53) d_MO_symbol_53 fa_MO_34_MO (by decide) rfl rfl ?_
        refine jv_if_le 63 (pc := 56) d_MO_symbol_56 rfl (fun h56 => ?_) (fun h56 => absurd (show (0 : Int32) ≤ 0 by decide) (show ¬ ((0 : Int32) ≤ 0) from h56))
        refine jv_iload_n 3 (pc := 63) d_MO_symbol_63 rfl ?_
        refine jv_iconst (-1) (pc := 64) d_MO_symbol_64 rfl ?_
        refine jv_icmp_ne 79 (pc := 65) d_MO_symbol_65 rfl (fun h65 => ?_) (fun h65 => ?_)
        · have h65 : ¬ (x2 = (-1 : Int32)) := h65
          have H := (if_neg h65).symm.trans H
          refine jv_iload_n 3 (pc := 79) d_MO_symbol_79 rfl ?_
          refine jv_bipush (-2) (pc := 80) d_MO_symbol_80 rfl ?_
          refine jv_icmp_ne 96 (pc := 82) d_MO_symbol_82 rfl (fun h82 => ?_) (fun h82 => ?_)
          · have h82 : ¬ (x2 = (-2 : Int32)) := h82
            have H := (if_neg h82).symm.trans H
            refine jv_aload_n 1 (pc := 96) d_MO_symbol_96 rfl ?_
            refine jv_iconst 4 (pc := 97) d_MO_symbol_97 rfl ?_
            refine jv_iload_n 2 (pc := 98) d_MO_symbol_98 rfl ?_
            refine jv_iadd (pc := 99) d_MO_symbol_99 ?_
            refine jv_iload_n 3 (pc := 100) d_MO_symbol_100 rfl ?_
            refine jv_iload_n 4 (pc := 101) d_MO_symbol_101 rfl ?_
            obtain ⟨v102, n102, c102, H⟩ := jbd_some H
            refine jv_callVi (sp_MO_at ((4 : Int32) + x1) x2 x3 c102) (pc := 102) d_MO_symbol_102 c0_MO_at lk_MO_50 in_MO_at se_MO_at (by decide) rfl rfl rfl (Nat.le_of_ble_eq_true rfl) ⟨by decide, by decide, by decide, by decide⟩ (fun r102 m102 h102 => ?_)
            obtain ⟨ha102, hb102⟩ := h102
            have ha102 := ha102.symm
            subst ha102
            have hb102 := hb102.symm
            subst hb102
            refine jv_iret (pc := 105) d_MO_symbol_105 rfl rfl (Nat.zero_le _) (Nat.zero_le _) ?_
            cases H
            exact jI.of ⟨rfl, rfl⟩
          · have h82 : x2 = (-2 : Int32) := h82
            have H := (if_pos h82).symm.trans H
            refine jv_aload_n 1 (pc := 85) d_MO_symbol_85 rfl ?_
            refine jv_getr (pc := 86) d_MO_symbol_86 fa_MO_16_MO (by decide) rfl rfl ?_
            refine jv_iconst 4 (pc := 89) d_MO_symbol_89 rfl ?_
            refine jv_iload_n 2 (pc := 90) d_MO_symbol_90 rfl ?_
            refine jv_iadd (pc := 91) d_MO_symbol_91 ?_
            obtain ⟨b92, H⟩ := jck_some H
            refine jv_iald (pc := 92) d_MO_symbol_92 (by decide) rfl b92 ?_
            refine jv_goto 105 (pc := 93) d_MO_symbol_93 rfl ?_
            refine jv_iret (pc := 105) d_MO_symbol_105 rfl rfl (Nat.zero_le _) (Nat.zero_le _) ?_
            cases H
            exact jI.of ⟨rfl, rfl⟩
        · have h65 : x2 = (-1 : Int32) := h65
          have H := (if_pos h65).symm.trans H
          refine jv_aload_n 1 (pc := 68) d_MO_symbol_68 rfl ?_
          refine jv_getr (pc := 69) d_MO_symbol_69 fa_MO_13_MO (by decide) rfl rfl ?_
          refine jv_iconst 4 (pc := 72) d_MO_symbol_72 rfl ?_
          refine jv_iload_n 2 (pc := 73) d_MO_symbol_73 rfl ?_
          refine jv_iadd (pc := 74) d_MO_symbol_74 ?_
          obtain ⟨b75, H⟩ := jck_some H
          refine jv_iald (pc := 75) d_MO_symbol_75 (by decide) rfl b75 ?_
          refine jv_goto 105 (pc := 76) d_MO_symbol_76 rfl ?_
          refine jv_iret (pc := 105) d_MO_symbol_105 rfl rfl (Nat.zero_le _) (Nat.zero_le _) ?_
          cases H
          exact jI.of ⟨rfl, rfl⟩
set_option maxRecDepth 40000 in
set_option maxHeartbeats 8000000 in
theorem sp_MO_marked {G : jG} {σ τ : jMem} {r : Int32} (x1 x2 : Int32) (H : f_MO_marked x1 x2 σ = some (r, τ)) : jSp G M_MO_marked (jr 0 0 0) [.ref 38, .int x1, .int x2] σ (jI fun r9 τ9 => r9 = r ∧ τ9 = τ) := by
  refine jSp.of rfl rfl (Nat.le_of_ble_eq_true rfl) ?_
  show jV _ _ _ _ 0 0 0 [(0, .ref 38), (1, .int x1), (2, .int x2)] [] σ
  unfold f_MO_marked at H
  refine jv_aload_n 0 (pc := 0) d_MO_marked_0 rfl ?_
  refine jv_iload_n 1 (pc := 1) d_MO_marked_1 rfl ?_
  refine jv_if_lt 22 (pc := 2) d_MO_marked_2 rfl (fun h2 => ?_) (fun h2 => ?_)
  · have h2 : x1 < 0 := h2
    have H := (if_pos h2).symm.trans H
    refine jv_iconst 1 (pc := 22) d_MO_marked_22 rfl ?_
    refine jv_goto 27 (pc := 23) d_MO_marked_23 rfl ?_
    refine jv_puti (pc := 27) d_MO_marked_27 fa_MO_34_MO fp_MO_0 (by decide) rfl rfl rfl rfl ?_
    refine jv_aload_n 0 (pc := 30) d_MO_marked_30 rfl ?_
    refine jv_geti (pc := 31) d_MO_marked_31 fa_MO_34_MO (by decide) rfl rfl ?_
    refine jv_if_le 41 (pc := 34) d_MO_marked_34 rfl (fun h34 => absurd (show (1 : Int32) ≤ 0 from h34) (by decide)) (fun h34 => ?_)
    refine jv_iconst 0 (pc := 37) d_MO_marked_37 rfl ?_
    refine jv_goto 74 (pc := 38) d_MO_marked_38 rfl ?_
    refine jv_iret (pc := 74) d_MO_marked_74 rfl rfl (Nat.zero_le _) (Nat.zero_le _) ?_
    cases H
    exact jI.of ⟨rfl, rfl⟩
  · have h2 : ¬ (x1 < 0) := h2
    have H := (if_neg h2).symm.trans H
    refine jv_iload_n 1 (pc := 5) d_MO_marked_5 rfl ?_
    refine jv_aload_n 0 (pc := 6) d_MO_marked_6 rfl ?_
    refine jv_geti (pc := 7) d_MO_marked_7 fa_MO_235_MO (by decide) rfl rfl ?_
    refine jv_icmp_ge 22 (pc := 10) d_MO_marked_10 rfl (fun h10 => ?_) (fun h10 => ?_)
    · have h10 : (σ 38 5) ≤ x1 := h10
      have H := (if_pos h10).symm.trans H
      refine jv_iconst 1 (pc := 22) d_MO_marked_22 rfl ?_
      refine jv_goto 27 (pc := 23) d_MO_marked_23 rfl ?_
      refine jv_puti (pc := 27) d_MO_marked_27 fa_MO_34_MO fp_MO_0 (by decide) rfl rfl rfl rfl ?_
      refine jv_aload_n 0 (pc := 30) d_MO_marked_30 rfl ?_
      refine jv_geti (pc := 31) d_MO_marked_31 fa_MO_34_MO (by decide) rfl rfl ?_
      refine jv_if_le 41 (pc := 34) d_MO_marked_34 rfl (fun h34 => absurd (show (1 : Int32) ≤ 0 from h34) (by decide)) (fun h34 => ?_)
      refine jv_iconst 0 (pc := 37) d_MO_marked_37 rfl ?_
      refine jv_goto 74 (pc := 38) d_MO_marked_38 rfl ?_
      refine jv_iret (pc := 74) d_MO_marked_74 rfl rfl (Nat.zero_le _) (Nat.zero_le _) ?_
      cases H
      exact jI.of ⟨rfl, rfl⟩
    · have h10 : ¬ ((σ 38 5) ≤ x1) := h10
      have H := (if_neg h10).symm.trans H
      refine jv_iload_n 2 (pc := 13) d_MO_marked_13 rfl ?_
      refine jv_if_lt 22 (pc := 14) d_MO_marked_14 rfl (fun h14 => ?_) (fun h14 => ?_)
      · have h14 : x2 < 0 := h14
        have H := (if_pos h14).symm.trans H
        refine jv_iconst 1 (pc := 22) d_MO_marked_22 rfl ?_
        refine jv_goto 27 (pc := 23) d_MO_marked_23 rfl ?_
        refine jv_puti (pc := 27) d_MO_marked_27 fa_MO_34_MO fp_MO_0 (by decide) rfl rfl rfl rfl ?_
        refine jv_aload_n 0 (pc := 30) d_MO_marked_30 rfl ?_
        refine jv_geti (pc := 31) d_MO_marked_31 fa_MO_34_MO (by decide) rfl rfl ?_
        refine jv_if_le 41 (pc := 34) d_MO_marked_34 rfl (fun h34 => absurd (show (1 : Int32) ≤ 0 from h34) (by decide)) (fun h34 => ?_)
        refine jv_iconst 0 (pc := 37) d_MO_marked_37 rfl ?_
        refine jv_goto 74 (pc := 38) d_MO_marked_38 rfl ?_
        refine jv_iret (pc := 74) d_MO_marked_74 rfl rfl (Nat.zero_le _) (Nat.zero_le _) ?_
        cases H
        exact jI.of ⟨rfl, rfl⟩
      · have h14 : ¬ (x2 < 0) := h14
        have H := (if_neg h14).symm.trans H
        refine jv_iload_n 2 (pc := 17) d_MO_marked_17 rfl ?_
        refine jv_iconst 2 (pc := 18) d_MO_marked_18 rfl ?_
        refine jv_icmp_le 26 (pc := 19) d_MO_marked_19 rfl (fun h19 => ?_) (fun h19 => ?_)
        · have h19 : x2 ≤ (2 : Int32) := h19
          have H := (if_pos h19).symm.trans H
          refine jv_iconst 0 (pc := 26) d_MO_marked_26 rfl ?_
          refine jv_puti (pc := 27) d_MO_marked_27 fa_MO_34_MO fp_MO_0 (by decide) rfl rfl rfl rfl ?_
          refine jv_aload_n 0 (pc := 30) d_MO_marked_30 rfl ?_
          refine jv_geti (pc := 31) d_MO_marked_31 fa_MO_34_MO (by decide) rfl rfl ?_
          refine jv_if_le 41 (pc := 34) d_MO_marked_34 rfl (fun h34 => ?_) (fun h34 => absurd (show (0 : Int32) ≤ 0 by decide) (show ¬ ((0 : Int32) ≤ 0) from h34))
          refine jv_iload_n 2 (pc := 41) d_MO_marked_41 rfl ?_
          refine jv_if_ne 54 (pc := 42) d_MO_marked_42 rfl (fun h42 => ?_) (fun h42 => ?_)
          · have h42 : ¬ (x2 = 0) := h42
            have H := (if_neg h42).symm.trans H
            refine jv_iload_n 2 (pc := 54) d_MO_marked_54 rfl ?_
            refine jv_iconst 1 (pc := 55) d_MO_marked_55 rfl ?_
            refine jv_icmp_ne 68 (pc := 56) d_MO_marked_56 rfl (fun h56 => ?_) (fun h56 => ?_)
            · have h56 : ¬ (x2 = (1 : Int32)) := h56
              have H := (if_neg h56).symm.trans H
              refine jv_aload_n 0 (pc := 68) d_MO_marked_68 rfl ?_
              refine jv_getr (pc := 69) d_MO_marked_69 fa_MO_25_MO (by decide) rfl rfl ?_
              refine jv_iload_n 1 (pc := 72) d_MO_marked_72 rfl ?_
              obtain ⟨b73, H⟩ := jck_some H
              refine jv_iald (pc := 73) d_MO_marked_73 (by decide) rfl b73 ?_
              refine jv_iret (pc := 74) d_MO_marked_74 rfl rfl (Nat.zero_le _) (Nat.zero_le _) ?_
              cases H
              exact jI.of ⟨rfl, rfl⟩
            · have h56 : x2 = (1 : Int32) := h56
              have H := (if_pos h56).symm.trans H
              refine jv_aload_n 0 (pc := 59) d_MO_marked_59 rfl ?_
              refine jv_getr (pc := 60) d_MO_marked_60 fa_MO_22_MO (by decide) rfl rfl ?_
              refine jv_iload_n 1 (pc := 63) d_MO_marked_63 rfl ?_
              obtain ⟨b64, H⟩ := jck_some H
              refine jv_iald (pc := 64) d_MO_marked_64 (by decide) rfl b64 ?_
              refine jv_goto 74 (pc := 65) d_MO_marked_65 rfl ?_
              refine jv_iret (pc := 74) d_MO_marked_74 rfl rfl (Nat.zero_le _) (Nat.zero_le _) ?_
              cases H
              exact jI.of ⟨rfl, rfl⟩
          · have h42 : x2 = 0 := h42
            have H := (if_pos h42).symm.trans H
            refine jv_aload_n 0 (pc := 45) d_MO_marked_45 rfl ?_
            refine jv_getr (pc := 46) d_MO_marked_46 fa_MO_19_MO (by decide) rfl rfl ?_
            refine jv_iload_n 1 (pc := 49) d_MO_marked_49 rfl ?_
            obtain ⟨b50, H⟩ := jck_some H
            refine jv_iald (pc := 50) d_MO_marked_50 (by decide) rfl b50 ?_
            refine jv_goto 74 (pc := 51) d_MO_marked_51 rfl ?_
            refine jv_iret (pc := 74) d_MO_marked_74 rfl rfl (Nat.zero_le _) (Nat.zero_le _) ?_
            cases H
            exact jI.of ⟨rfl, rfl⟩
        · have h19 : ¬ (x2 ≤ (2 : Int32)) := h19
          have H := (if_neg h19).symm.trans H
          refine jv_iconst 1 (pc := 22) d_MO_marked_22 rfl ?_
          refine jv_goto 27 (pc := 23) d_MO_marked_23 rfl ?_
          refine jv_puti (pc := 27) d_MO_marked_27 fa_MO_34_MO fp_MO_0 (by decide) rfl rfl rfl rfl ?_
          refine jv_aload_n 0 (pc := 30) d_MO_marked_30 rfl ?_
          refine jv_geti (pc := 31) d_MO_marked_31 fa_MO_34_MO (by decide) rfl rfl ?_
          refine jv_if_le 41 (pc := 34) d_MO_marked_34 rfl (fun h34 => absurd (show (1 : Int32) ≤ 0 from h34) (by decide)) (fun h34 => ?_)
          refine jv_iconst 0 (pc := 37) d_MO_marked_37 rfl ?_
          refine jv_goto 74 (pc := 38) d_MO_marked_38 rfl ?_
          refine jv_iret (pc := 74) d_MO_marked_74 rfl rfl (Nat.zero_le _) (Nat.zero_le _) ?_
          cases H
          exact jI.of ⟨rfl, rfl⟩
set_option maxRecDepth 40000 in
set_option maxHeartbeats 8000000 in
theorem lp_MO_writeDictionary_20 {G : jG} : ∀ (n : Nat) (x1 x2 x3 : Int32) (σ τ : jMem) (r : Unit), f_MO_writeDictionary_L20 n x1 x2 x3 σ = some (r, τ) → jV G M_MO_writeDictionary (jr 8 0 0) (jU fun τ9 => τ9 = τ) 0 0 20 [(0, .ref 38), (1, .int x1), (2, .int x2), (3, .int x3)] [] σ := by
  intro n
  induction n with
  | zero =>
    intro x1 x2 x3 σ τ r H
    cases H
  | succ n ih =>
    intro x1 x2 x3 σ τ r H
    rw [f_MO_writeDictionary_L20.eq_2] at H
    refine jv_iload_n 3 (pc := 20) d_MO_writeDictionary_20 rfl ?_
    refine jv_aload_n 0 (pc := 21) d_MO_writeDictionary_21 rfl ?_
    refine jv_geti (pc := 22) d_MO_writeDictionary_22 fa_MO_232_MO (by decide) rfl rfl ?_
    refine jv_icmp_ge 182 (pc := 25) d_MO_writeDictionary_25 rfl (fun h25 => ?_) (fun h25 => ?_)
    · have h25 : (σ 38 4) ≤ x3 := h25
      have H := (if_pos h25).symm.trans H
      refine jv_vret (pc := 182) d_MO_writeDictionary_182 rfl (Nat.zero_le _) (Nat.zero_le _) ?_
      cases H
      exact jU.of rfl
    · have h25 : ¬ ((σ 38 4) ≤ x3) := h25
      have H := (if_neg h25).symm.trans H
      refine jv_iload_n 3 (pc := 28) d_MO_writeDictionary_28 rfl ?_
      refine jv_if_eq 51 (pc := 29) d_MO_writeDictionary_29 rfl (fun h29 => ?_) (fun h29 => ?_)
      · have h29 : x3 = 0 := h29
        have H := (if_pos h29).symm.trans H
        refine jv_iconst 1 (pc := 51) d_MO_writeDictionary_51 rfl ?_
        refine jv_goto 56 (pc := 52) d_MO_writeDictionary_52 rfl ?_
        refine jv_istore (pc := 56) d_MO_writeDictionary_56 (by decide) (jsto_new rfl) ?_
        refine jv_iload 0 (pc := 58) d_MO_writeDictionary_58 rfl ?_
        refine jv_if_eq 89 (pc := 60) d_MO_writeDictionary_60 rfl (fun h60 => absurd (show (1 : Int32) = 0 from h60) (by decide)) (fun h60 => ?_)
        refine jv_aload_n 1 (pc := 63) d_MO_writeDictionary_63 rfl ?_
        refine jv_iconst 4 (pc := 64) d_MO_writeDictionary_64 rfl ?_
        refine jv_aload_n 1 (pc := 65) d_MO_writeDictionary_65 rfl ?_
        refine jv_getr (pc := 66) d_MO_writeDictionary_66 fa_MO_16_MO (by decide) rfl rfl ?_
        refine jv_iconst 4 (pc := 69) d_MO_writeDictionary_69 rfl ?_
        refine jv_iload_n 4 (pc := 70) d_MO_writeDictionary_70 rfl ?_
        refine jv_iadd (pc := 71) d_MO_writeDictionary_71 ?_
        obtain ⟨b72, H⟩ := jck_some H
        refine jv_iald (pc := 72) d_MO_writeDictionary_72 (by decide) rfl b72 ?_
        refine jv_iload_n 3 (pc := 73) d_MO_writeDictionary_73 rfl ?_
        refine jv_isub (pc := 74) d_MO_writeDictionary_74 ?_
        refine jv_iconst 0 (pc := 75) d_MO_writeDictionary_75 rfl ?_
        obtain ⟨v76, n76, c76, H⟩ := jbd_some H
        refine jv_callVi (sp_MO_codeNumber (4 : Int32) ((σ 41 (((4 : Int32) + x3).toNatClampNeg)) - x2) (0 : Int32) c76) (pc := 76) d_MO_writeDictionary_76 c0_MO_codeNumber lk_MO_229 in_MO_codeNumber se_MO_codeNumber (by decide) rfl rfl rfl (Nat.le_of_ble_eq_true rfl) ⟨by decide, by decide, by decide, by decide⟩ (fun r76 m76 h76 => ?_)
        obtain ⟨ha76, hb76⟩ := h76
        have ha76 := ha76.symm
        subst ha76
        have hb76 := hb76.symm
        subst hb76
        refine jv_pop (pc := 79) d_MO_writeDictionary_79 rfl ?_
        refine jv_aload_n 1 (pc := 80) d_MO_writeDictionary_80 rfl ?_
        refine jv_getr (pc := 81) d_MO_writeDictionary_81 fa_MO_16_MO (by decide) rfl rfl ?_
        refine jv_iconst 4 (pc := 84) d_MO_writeDictionary_84 rfl ?_
        refine jv_iload_n 4 (pc := 85) d_MO_writeDictionary_85 rfl ?_
        refine jv_iadd (pc := 86) d_MO_writeDictionary_86 ?_
        obtain ⟨b87, H⟩ := jck_some H
        refine jv_iald (pc := 87) d_MO_writeDictionary_87 (by decide) rfl b87 ?_
        refine jv_istore_n (pc := 88) d_MO_writeDictionary_88 rfl (by decide) (jst3 rfl) ?_
        refine jv_aload_n 1 (pc := 89) d_MO_writeDictionary_89 rfl ?_
        refine jv_iconst 5 (pc := 90) d_MO_writeDictionary_90 rfl ?_
        refine jv_iload 0 (pc := 91) d_MO_writeDictionary_91 rfl ?_
        refine jv_if_eq 107 (pc := 93) d_MO_writeDictionary_93 rfl (fun h93 => absurd (show (1 : Int32) = 0 from h93) (by decide)) (fun h93 => ?_)
        refine jv_aload_n 1 (pc := 96) d_MO_writeDictionary_96 rfl ?_
        refine jv_getr (pc := 97) d_MO_writeDictionary_97 fa_MO_13_MO (by decide) rfl rfl ?_
        refine jv_iconst 4 (pc := 100) d_MO_writeDictionary_100 rfl ?_
        refine jv_iload_n 4 (pc := 101) d_MO_writeDictionary_101 rfl ?_
        refine jv_iadd (pc := 102) d_MO_writeDictionary_102 ?_
        obtain ⟨b103, H⟩ := jck_some H
        refine jv_iald (pc := 103) d_MO_writeDictionary_103 (by decide) rfl b103 ?_
        refine jv_goto 124 (pc := 104) d_MO_writeDictionary_104 rfl ?_
        refine jv_iconst 0 (pc := 124) d_MO_writeDictionary_124 rfl ?_
        obtain ⟨v125, n125, c125, H⟩ := jbd_some H
        refine jv_callVi (sp_MO_codeNumber (5 : Int32) (n76 40 (((4 : Int32) + x3).toNatClampNeg)) (0 : Int32) c125) (pc := 125) d_MO_writeDictionary_125 c0_MO_codeNumber lk_MO_229 in_MO_codeNumber se_MO_codeNumber (by decide) rfl rfl rfl (Nat.le_of_ble_eq_true rfl) ⟨by decide, by decide, by decide, by decide⟩ (fun r125 m125 h125 => ?_)
        obtain ⟨ha125, hb125⟩ := h125
        have ha125 := ha125.symm
        subst ha125
        have hb125 := hb125.symm
        subst hb125
        refine jv_pop (pc := 128) d_MO_writeDictionary_128 rfl ?_
        refine jv_aload_n 1 (pc := 129) d_MO_writeDictionary_129 rfl ?_
        refine jv_iconst 4 (pc := 130) d_MO_writeDictionary_130 rfl ?_
        refine jv_iload_n 4 (pc := 131) d_MO_writeDictionary_131 rfl ?_
        refine jv_iadd (pc := 132) d_MO_writeDictionary_132 ?_
        refine jv_iconst 2 (pc := 133) d_MO_writeDictionary_133 rfl ?_
        refine jv_iconst 0 (pc := 134) d_MO_writeDictionary_134 rfl ?_
        obtain ⟨v135, n135, c135, H⟩ := jbd_some H
        refine jv_callVi (sp_MO_codeRegion ((4 : Int32) + x3) (2 : Int32) (0 : Int32) c135) (pc := 135) d_MO_writeDictionary_135 c0_MO_codeRegion lk_MO_196 in_MO_codeRegion se_MO_codeRegion (by decide) rfl rfl rfl (Nat.le_of_ble_eq_true rfl) ⟨by decide, by decide, by decide, by decide⟩ (fun r135 m135 h135 => ?_)
        obtain ⟨ha135, hb135⟩ := h135
        have ha135 := ha135.symm
        subst ha135
        have hb135 := hb135.symm
        subst hb135
        refine jv_pop (pc := 138) d_MO_writeDictionary_138 rfl ?_
        refine jv_iload_n 4 (pc := 139) d_MO_writeDictionary_139 rfl ?_
        refine jv_aload_n 1 (pc := 140) d_MO_writeDictionary_140 rfl ?_
        refine jv_geti (pc := 141) d_MO_writeDictionary_141 fa_MO_232_MO (by decide) rfl rfl ?_
        refine jv_iconst 1 (pc := 144) d_MO_writeDictionary_144 rfl ?_
        refine jv_isub (pc := 145) d_MO_writeDictionary_145 ?_
        refine jv_icmp_eq 168 (pc := 146) d_MO_writeDictionary_146 rfl (fun h146 => ?_) (fun h146 => ?_)
        · have h146 : x3 = ((n135 38 4) - (1 : Int32)) := h146
          have H := (if_pos h146).symm.trans H
          refine jv_aload_n 1 (pc := 168) d_MO_writeDictionary_168 rfl ?_
          refine jv_iconst 5 (pc := 169) d_MO_writeDictionary_169 rfl ?_
          refine jv_iconst 0 (pc := 170) d_MO_writeDictionary_170 rfl ?_
          refine jv_iconst 1 (pc := 171) d_MO_writeDictionary_171 rfl ?_
          obtain ⟨v172, n172, c172, H⟩ := jbd_some H
          refine jv_callVi (sp_MO_codeNumber (5 : Int32) (0 : Int32) (1 : Int32) c172) (pc := 172) d_MO_writeDictionary_172 c0_MO_codeNumber lk_MO_229 in_MO_codeNumber se_MO_codeNumber (by decide) rfl rfl rfl (Nat.le_of_ble_eq_true rfl) ⟨by decide, by decide, by decide, by decide⟩ (fun r172 m172 h172 => ?_)
          obtain ⟨ha172, hb172⟩ := h172
          have ha172 := ha172.symm
          subst ha172
          have hb172 := hb172.symm
          subst hb172
          refine jv_pop (pc := 175) d_MO_writeDictionary_175 rfl ?_
          refine jv_iinc 4 _ (pc := 176) d_MO_writeDictionary_176 rfl (jinc1 _) (by decide) (jst4 rfl) ?_
          refine jv_goto 20 (pc := 179) d_MO_writeDictionary_179 rfl ?_
          exact jv_sub [1, 2, 3, 4] rfl (ih x1 (n76 41 (((4 : Int32) + x3).toNatClampNeg)) (x3 + 1) _ _ _ H)
        · have h146 : ¬ (x3 = ((n135 38 4) - (1 : Int32))) := h146
          have H := (if_neg h146).symm.trans H
          refine jv_aload_n 1 (pc := 149) d_MO_writeDictionary_149 rfl ?_
          refine jv_getr (pc := 150) d_MO_writeDictionary_150 fa_MO_16_MO (by decide) rfl rfl ?_
          refine jv_iconst 5 (pc := 153) d_MO_writeDictionary_153 rfl ?_
          refine jv_iload_n 4 (pc := 154) d_MO_writeDictionary_154 rfl ?_
          refine jv_iadd (pc := 155) d_MO_writeDictionary_155 ?_
          obtain ⟨b156, H⟩ := jck_some H
          refine jv_iald (pc := 156) d_MO_writeDictionary_156 (by decide) rfl b156 ?_
          refine jv_aload_n 1 (pc := 157) d_MO_writeDictionary_157 rfl ?_
          refine jv_getr (pc := 158) d_MO_writeDictionary_158 fa_MO_16_MO (by decide) rfl rfl ?_
          refine jv_iconst 4 (pc := 161) d_MO_writeDictionary_161 rfl ?_
          refine jv_iload_n 4 (pc := 162) d_MO_writeDictionary_162 rfl ?_
          refine jv_iadd (pc := 163) d_MO_writeDictionary_163 ?_
          obtain ⟨b164, H⟩ := jck_some H
          refine jv_iald (pc := 164) d_MO_writeDictionary_164 (by decide) rfl b164 ?_
          refine jv_icmp_eq 176 (pc := 165) d_MO_writeDictionary_165 rfl (fun h165 => ?_) (fun h165 => ?_)
          · have h165 : (n135 41 (((5 : Int32) + x3).toNatClampNeg)) = (n135 41 (((4 : Int32) + x3).toNatClampNeg)) := h165
            have H := (if_pos h165).symm.trans H
            refine jv_iinc 4 _ (pc := 176) d_MO_writeDictionary_176 rfl (jinc1 _) (by decide) (jst4 rfl) ?_
            refine jv_goto 20 (pc := 179) d_MO_writeDictionary_179 rfl ?_
            exact jv_sub [1, 2, 3, 4] rfl (ih x1 (n76 41 (((4 : Int32) + x3).toNatClampNeg)) (x3 + 1) _ _ _ H)
          · have h165 : ¬ ((n135 41 (((5 : Int32) + x3).toNatClampNeg)) = (n135 41 (((4 : Int32) + x3).toNatClampNeg))) := h165
            have H := (if_neg h165).symm.trans H
            refine jv_aload_n 1 (pc := 168) d_MO_writeDictionary_168 rfl ?_
            refine jv_iconst 5 (pc := 169) d_MO_writeDictionary_169 rfl ?_
            refine jv_iconst 0 (pc := 170) d_MO_writeDictionary_170 rfl ?_
            refine jv_iconst 1 (pc := 171) d_MO_writeDictionary_171 rfl ?_
            obtain ⟨v172, n172, c172, H⟩ := jbd_some H
            refine jv_callVi (sp_MO_codeNumber (5 : Int32) (0 : Int32) (1 : Int32) c172) (pc := 172) d_MO_writeDictionary_172 c0_MO_codeNumber lk_MO_229 in_MO_codeNumber se_MO_codeNumber (by decide) rfl rfl rfl (Nat.le_of_ble_eq_true rfl) ⟨by decide, by decide, by decide, by decide⟩ (fun r172 m172 h172 => ?_)
            obtain ⟨ha172, hb172⟩ := h172
            have ha172 := ha172.symm
            subst ha172
            have hb172 := hb172.symm
            subst hb172
            refine jv_pop (pc := 175) d_MO_writeDictionary_175 rfl ?_
            refine jv_iinc 4 _ (pc := 176) d_MO_writeDictionary_176 rfl (jinc1 _) (by decide) (jst4 rfl) ?_
            refine jv_goto 20 (pc := 179) d_MO_writeDictionary_179 rfl ?_
            exact jv_sub [1, 2, 3, 4] rfl (ih x1 (n76 41 (((4 : Int32) + x3).toNatClampNeg)) (x3 + 1) _ _ _ H)
      · have h29 : ¬ (x3 = 0) := h29
        have H := (if_neg h29).symm.trans H
        refine jv_aload_n 0 (pc := 32) d_MO_writeDictionary_32 rfl ?_
        refine jv_getr (pc := 33) d_MO_writeDictionary_33 fa_MO_16_MO (by decide) rfl rfl ?_
        refine jv_iconst 4 (pc := 36) d_MO_writeDictionary_36 rfl ?_
        refine jv_iload_n 3 (pc := 37) d_MO_writeDictionary_37 rfl ?_
        refine jv_iadd (pc := 38) d_MO_writeDictionary_38 ?_
        obtain ⟨b39, H⟩ := jck_some H
        refine jv_iald (pc := 39) d_MO_writeDictionary_39 (by decide) rfl b39 ?_
        refine jv_aload_n 0 (pc := 40) d_MO_writeDictionary_40 rfl ?_
        refine jv_getr (pc := 41) d_MO_writeDictionary_41 fa_MO_16_MO (by decide) rfl rfl ?_
        refine jv_iconst 3 (pc := 44) d_MO_writeDictionary_44 rfl ?_
        refine jv_iload_n 3 (pc := 45) d_MO_writeDictionary_45 rfl ?_
        refine jv_iadd (pc := 46) d_MO_writeDictionary_46 ?_
        obtain ⟨b47, H⟩ := jck_some H
        refine jv_iald (pc := 47) d_MO_writeDictionary_47 (by decide) rfl b47 ?_
        refine jv_icmp_eq 55 (pc := 48) d_MO_writeDictionary_48 rfl (fun h48 => ?_) (fun h48 => ?_)
        · have h48 : (σ 41 (((4 : Int32) + x3).toNatClampNeg)) = (σ 41 (((3 : Int32) + x3).toNatClampNeg)) := h48
          have H := (if_pos h48).symm.trans H
          refine jv_iconst 0 (pc := 55) d_MO_writeDictionary_55 rfl ?_
          refine jv_istore (pc := 56) d_MO_writeDictionary_56 (by decide) (jsto_new rfl) ?_
          refine jv_iload 0 (pc := 58) d_MO_writeDictionary_58 rfl ?_
          refine jv_if_eq 89 (pc := 60) d_MO_writeDictionary_60 rfl (fun h60 => ?_) (fun h60 => absurd (show (0 : Int32) = 0 by decide) (show ¬ ((0 : Int32) = 0) from h60))
          refine jv_aload_n 1 (pc := 89) d_MO_writeDictionary_89 rfl ?_
          refine jv_iconst 5 (pc := 90) d_MO_writeDictionary_90 rfl ?_
          refine jv_iload 0 (pc := 91) d_MO_writeDictionary_91 rfl ?_
          refine jv_if_eq 107 (pc := 93) d_MO_writeDictionary_93 rfl (fun h93 => ?_) (fun h93 => absurd (show (0 : Int32) = 0 by decide) (show ¬ ((0 : Int32) = 0) from h93))
          refine jv_aload_n 1 (pc := 107) d_MO_writeDictionary_107 rfl ?_
          refine jv_getr (pc := 108) d_MO_writeDictionary_108 fa_MO_13_MO (by decide) rfl rfl ?_
          refine jv_iconst 4 (pc := 111) d_MO_writeDictionary_111 rfl ?_
          refine jv_iload_n 4 (pc := 112) d_MO_writeDictionary_112 rfl ?_
          refine jv_iadd (pc := 113) d_MO_writeDictionary_113 ?_
          obtain ⟨b114, H⟩ := jck_some H
          refine jv_iald (pc := 114) d_MO_writeDictionary_114 (by decide) rfl b114 ?_
          refine jv_aload_n 1 (pc := 115) d_MO_writeDictionary_115 rfl ?_
          refine jv_getr (pc := 116) d_MO_writeDictionary_116 fa_MO_13_MO (by decide) rfl rfl ?_
          refine jv_iconst 3 (pc := 119) d_MO_writeDictionary_119 rfl ?_
          refine jv_iload_n 4 (pc := 120) d_MO_writeDictionary_120 rfl ?_
          refine jv_iadd (pc := 121) d_MO_writeDictionary_121 ?_
          obtain ⟨b122, H⟩ := jck_some H
          refine jv_iald (pc := 122) d_MO_writeDictionary_122 (by decide) rfl b122 ?_
          refine jv_isub (pc := 123) d_MO_writeDictionary_123 ?_
          refine jv_iconst 0 (pc := 124) d_MO_writeDictionary_124 rfl ?_
          obtain ⟨v125, n125, c125, H⟩ := jbd_some H
          refine jv_callVi (sp_MO_codeNumber (5 : Int32) ((σ 40 (((4 : Int32) + x3).toNatClampNeg)) - (σ 40 (((3 : Int32) + x3).toNatClampNeg))) (0 : Int32) c125) (pc := 125) d_MO_writeDictionary_125 c0_MO_codeNumber lk_MO_229 in_MO_codeNumber se_MO_codeNumber (by decide) rfl rfl rfl (Nat.le_of_ble_eq_true rfl) ⟨by decide, by decide, by decide, by decide⟩ (fun r125 m125 h125 => ?_)
          obtain ⟨ha125, hb125⟩ := h125
          have ha125 := ha125.symm
          subst ha125
          have hb125 := hb125.symm
          subst hb125
          refine jv_pop (pc := 128) d_MO_writeDictionary_128 rfl ?_
          refine jv_aload_n 1 (pc := 129) d_MO_writeDictionary_129 rfl ?_
          refine jv_iconst 4 (pc := 130) d_MO_writeDictionary_130 rfl ?_
          refine jv_iload_n 4 (pc := 131) d_MO_writeDictionary_131 rfl ?_
          refine jv_iadd (pc := 132) d_MO_writeDictionary_132 ?_
          refine jv_iconst 2 (pc := 133) d_MO_writeDictionary_133 rfl ?_
          refine jv_iconst 0 (pc := 134) d_MO_writeDictionary_134 rfl ?_
          obtain ⟨v135, n135, c135, H⟩ := jbd_some H
          refine jv_callVi (sp_MO_codeRegion ((4 : Int32) + x3) (2 : Int32) (0 : Int32) c135) (pc := 135) d_MO_writeDictionary_135 c0_MO_codeRegion lk_MO_196 in_MO_codeRegion se_MO_codeRegion (by decide) rfl rfl rfl (Nat.le_of_ble_eq_true rfl) ⟨by decide, by decide, by decide, by decide⟩ (fun r135 m135 h135 => ?_)
          obtain ⟨ha135, hb135⟩ := h135
          have ha135 := ha135.symm
          subst ha135
          have hb135 := hb135.symm
          subst hb135
          refine jv_pop (pc := 138) d_MO_writeDictionary_138 rfl ?_
          refine jv_iload_n 4 (pc := 139) d_MO_writeDictionary_139 rfl ?_
          refine jv_aload_n 1 (pc := 140) d_MO_writeDictionary_140 rfl ?_
          refine jv_geti (pc := 141) d_MO_writeDictionary_141 fa_MO_232_MO (by decide) rfl rfl ?_
          refine jv_iconst 1 (pc := 144) d_MO_writeDictionary_144 rfl ?_
          refine jv_isub (pc := 145) d_MO_writeDictionary_145 ?_
          refine jv_icmp_eq 168 (pc := 146) d_MO_writeDictionary_146 rfl (fun h146 => ?_) (fun h146 => ?_)
          · have h146 : x3 = ((n135 38 4) - (1 : Int32)) := h146
            have H := (if_pos h146).symm.trans H
            refine jv_aload_n 1 (pc := 168) d_MO_writeDictionary_168 rfl ?_
            refine jv_iconst 5 (pc := 169) d_MO_writeDictionary_169 rfl ?_
            refine jv_iconst 0 (pc := 170) d_MO_writeDictionary_170 rfl ?_
            refine jv_iconst 1 (pc := 171) d_MO_writeDictionary_171 rfl ?_
            obtain ⟨v172, n172, c172, H⟩ := jbd_some H
            refine jv_callVi (sp_MO_codeNumber (5 : Int32) (0 : Int32) (1 : Int32) c172) (pc := 172) d_MO_writeDictionary_172 c0_MO_codeNumber lk_MO_229 in_MO_codeNumber se_MO_codeNumber (by decide) rfl rfl rfl (Nat.le_of_ble_eq_true rfl) ⟨by decide, by decide, by decide, by decide⟩ (fun r172 m172 h172 => ?_)
            obtain ⟨ha172, hb172⟩ := h172
            have ha172 := ha172.symm
            subst ha172
            have hb172 := hb172.symm
            subst hb172
            refine jv_pop (pc := 175) d_MO_writeDictionary_175 rfl ?_
            refine jv_iinc 4 _ (pc := 176) d_MO_writeDictionary_176 rfl (jinc1 _) (by decide) (jst4 rfl) ?_
            refine jv_goto 20 (pc := 179) d_MO_writeDictionary_179 rfl ?_
            exact jv_sub [1, 2, 3, 4] rfl (ih x1 x2 (x3 + 1) _ _ _ H)
          · have h146 : ¬ (x3 = ((n135 38 4) - (1 : Int32))) := h146
            have H := (if_neg h146).symm.trans H
            refine jv_aload_n 1 (pc := 149) d_MO_writeDictionary_149 rfl ?_
            refine jv_getr (pc := 150) d_MO_writeDictionary_150 fa_MO_16_MO (by decide) rfl rfl ?_
            refine jv_iconst 5 (pc := 153) d_MO_writeDictionary_153 rfl ?_
            refine jv_iload_n 4 (pc := 154) d_MO_writeDictionary_154 rfl ?_
            refine jv_iadd (pc := 155) d_MO_writeDictionary_155 ?_
            obtain ⟨b156, H⟩ := jck_some H
            refine jv_iald (pc := 156) d_MO_writeDictionary_156 (by decide) rfl b156 ?_
            refine jv_aload_n 1 (pc := 157) d_MO_writeDictionary_157 rfl ?_
            refine jv_getr (pc := 158) d_MO_writeDictionary_158 fa_MO_16_MO (by decide) rfl rfl ?_
            refine jv_iconst 4 (pc := 161) d_MO_writeDictionary_161 rfl ?_
            refine jv_iload_n 4 (pc := 162) d_MO_writeDictionary_162 rfl ?_
            refine jv_iadd (pc := 163) d_MO_writeDictionary_163 ?_
            obtain ⟨b164, H⟩ := jck_some H
            refine jv_iald (pc := 164) d_MO_writeDictionary_164 (by decide) rfl b164 ?_
            refine jv_icmp_eq 176 (pc := 165) d_MO_writeDictionary_165 rfl (fun h165 => ?_) (fun h165 => ?_)
            · have h165 : (n135 41 (((5 : Int32) + x3).toNatClampNeg)) = (n135 41 (((4 : Int32) + x3).toNatClampNeg)) := h165
              have H := (if_pos h165).symm.trans H
              refine jv_iinc 4 _ (pc := 176) d_MO_writeDictionary_176 rfl (jinc1 _) (by decide) (jst4 rfl) ?_
              refine jv_goto 20 (pc := 179) d_MO_writeDictionary_179 rfl ?_
              exact jv_sub [1, 2, 3, 4] rfl (ih x1 x2 (x3 + 1) _ _ _ H)
            · have h165 : ¬ ((n135 41 (((5 : Int32) + x3).toNatClampNeg)) = (n135 41 (((4 : Int32) + x3).toNatClampNeg))) := h165
              have H := (if_neg h165).symm.trans H
              refine jv_aload_n 1 (pc := 168) d_MO_writeDictionary_168 rfl ?_
              refine jv_iconst 5 (pc := 169) d_MO_writeDictionary_169 rfl ?_
              refine jv_iconst 0 (pc := 170) d_MO_writeDictionary_170 rfl ?_
              refine jv_iconst 1 (pc := 171) d_MO_writeDictionary_171 rfl ?_
              obtain ⟨v172, n172, c172, H⟩ := jbd_some H
              refine jv_callVi (sp_MO_codeNumber (5 : Int32) (0 : Int32) (1 : Int32) c172) (pc := 172) d_MO_writeDictionary_172 c0_MO_codeNumber lk_MO_229 in_MO_codeNumber se_MO_codeNumber (by decide) rfl rfl rfl (Nat.le_of_ble_eq_true rfl) ⟨by decide, by decide, by decide, by decide⟩ (fun r172 m172 h172 => ?_)
              obtain ⟨ha172, hb172⟩ := h172
              have ha172 := ha172.symm
              subst ha172
              have hb172 := hb172.symm
              subst hb172
              refine jv_pop (pc := 175) d_MO_writeDictionary_175 rfl ?_
              refine jv_iinc 4 _ (pc := 176) d_MO_writeDictionary_176 rfl (jinc1 _) (by decide) (jst4 rfl) ?_
              refine jv_goto 20 (pc := 179) d_MO_writeDictionary_179 rfl ?_
              exact jv_sub [1, 2, 3, 4] rfl (ih x1 x2 (x3 + 1) _ _ _ H)
        · have h48 : ¬ ((σ 41 (((4 : Int32) + x3).toNatClampNeg)) = (σ 41 (((3 : Int32) + x3).toNatClampNeg))) := h48
          have H := (if_neg h48).symm.trans H
          refine jv_iconst 1 (pc := 51) d_MO_writeDictionary_51 rfl ?_
          refine jv_goto 56 (pc := 52) d_MO_writeDictionary_52 rfl ?_
          refine jv_istore (pc := 56) d_MO_writeDictionary_56 (by decide) (jsto_new rfl) ?_
          refine jv_iload 0 (pc := 58) d_MO_writeDictionary_58 rfl ?_
          refine jv_if_eq 89 (pc := 60) d_MO_writeDictionary_60 rfl (fun h60 => absurd (show (1 : Int32) = 0 from h60) (by decide)) (fun h60 => ?_)
          refine jv_aload_n 1 (pc := 63) d_MO_writeDictionary_63 rfl ?_
          refine jv_iconst 4 (pc := 64) d_MO_writeDictionary_64 rfl ?_
          refine jv_aload_n 1 (pc := 65) d_MO_writeDictionary_65 rfl ?_
          refine jv_getr (pc := 66) d_MO_writeDictionary_66 fa_MO_16_MO (by decide) rfl rfl ?_
          refine jv_iconst 4 (pc := 69) d_MO_writeDictionary_69 rfl ?_
          refine jv_iload_n 4 (pc := 70) d_MO_writeDictionary_70 rfl ?_
          refine jv_iadd (pc := 71) d_MO_writeDictionary_71 ?_
          obtain ⟨b72, H⟩ := jck_some H
          refine jv_iald (pc := 72) d_MO_writeDictionary_72 (by decide) rfl b72 ?_
          refine jv_iload_n 3 (pc := 73) d_MO_writeDictionary_73 rfl ?_
          refine jv_isub (pc := 74) d_MO_writeDictionary_74 ?_
          refine jv_iconst 0 (pc := 75) d_MO_writeDictionary_75 rfl ?_
          obtain ⟨v76, n76, c76, H⟩ := jbd_some H
          refine jv_callVi (sp_MO_codeNumber (4 : Int32) ((σ 41 (((4 : Int32) + x3).toNatClampNeg)) - x2) (0 : Int32) c76) (pc := 76) d_MO_writeDictionary_76 c0_MO_codeNumber lk_MO_229 in_MO_codeNumber se_MO_codeNumber (by decide) rfl rfl rfl (Nat.le_of_ble_eq_true rfl) ⟨by decide, by decide, by decide, by decide⟩ (fun r76 m76 h76 => ?_)
          obtain ⟨ha76, hb76⟩ := h76
          have ha76 := ha76.symm
          subst ha76
          have hb76 := hb76.symm
          subst hb76
          refine jv_pop (pc := 79) d_MO_writeDictionary_79 rfl ?_
          refine jv_aload_n 1 (pc := 80) d_MO_writeDictionary_80 rfl ?_
          refine jv_getr (pc := 81) d_MO_writeDictionary_81 fa_MO_16_MO (by decide) rfl rfl ?_
          refine jv_iconst 4 (pc := 84) d_MO_writeDictionary_84 rfl ?_
          refine jv_iload_n 4 (pc := 85) d_MO_writeDictionary_85 rfl ?_
          refine jv_iadd (pc := 86) d_MO_writeDictionary_86 ?_
          obtain ⟨b87, H⟩ := jck_some H
          refine jv_iald (pc := 87) d_MO_writeDictionary_87 (by decide) rfl b87 ?_
          refine jv_istore_n (pc := 88) d_MO_writeDictionary_88 rfl (by decide) (jst3 rfl) ?_
          refine jv_aload_n 1 (pc := 89) d_MO_writeDictionary_89 rfl ?_
          refine jv_iconst 5 (pc := 90) d_MO_writeDictionary_90 rfl ?_
          refine jv_iload 0 (pc := 91) d_MO_writeDictionary_91 rfl ?_
          refine jv_if_eq 107 (pc := 93) d_MO_writeDictionary_93 rfl (fun h93 => absurd (show (1 : Int32) = 0 from h93) (by decide)) (fun h93 => ?_)
          refine jv_aload_n 1 (pc := 96) d_MO_writeDictionary_96 rfl ?_
          refine jv_getr (pc := 97) d_MO_writeDictionary_97 fa_MO_13_MO (by decide) rfl rfl ?_
          refine jv_iconst 4 (pc := 100) d_MO_writeDictionary_100 rfl ?_
          refine jv_iload_n 4 (pc := 101) d_MO_writeDictionary_101 rfl ?_
          refine jv_iadd (pc := 102) d_MO_writeDictionary_102 ?_
          obtain ⟨b103, H⟩ := jck_some H
          refine jv_iald (pc := 103) d_MO_writeDictionary_103 (by decide) rfl b103 ?_
          refine jv_goto 124 (pc := 104) d_MO_writeDictionary_104 rfl ?_
          refine jv_iconst 0 (pc := 124) d_MO_writeDictionary_124 rfl ?_
          obtain ⟨v125, n125, c125, H⟩ := jbd_some H
          refine jv_callVi (sp_MO_codeNumber (5 : Int32) (n76 40 (((4 : Int32) + x3).toNatClampNeg)) (0 : Int32) c125) (pc := 125) d_MO_writeDictionary_125 c0_MO_codeNumber lk_MO_229 in_MO_codeNumber se_MO_codeNumber (by decide) rfl rfl rfl (Nat.le_of_ble_eq_true rfl) ⟨by decide, by decide, by decide, by decide⟩ (fun r125 m125 h125 => ?_)
          obtain ⟨ha125, hb125⟩ := h125
          have ha125 := ha125.symm
          subst ha125
          have hb125 := hb125.symm
          subst hb125
          refine jv_pop (pc := 128) d_MO_writeDictionary_128 rfl ?_
          refine jv_aload_n 1 (pc := 129) d_MO_writeDictionary_129 rfl ?_
          refine jv_iconst 4 (pc := 130) d_MO_writeDictionary_130 rfl ?_
          refine jv_iload_n 4 (pc := 131) d_MO_writeDictionary_131 rfl ?_
          refine jv_iadd (pc := 132) d_MO_writeDictionary_132 ?_
          refine jv_iconst 2 (pc := 133) d_MO_writeDictionary_133 rfl ?_
          refine jv_iconst 0 (pc := 134) d_MO_writeDictionary_134 rfl ?_
          obtain ⟨v135, n135, c135, H⟩ := jbd_some H
          refine jv_callVi (sp_MO_codeRegion ((4 : Int32) + x3) (2 : Int32) (0 : Int32) c135) (pc := 135) d_MO_writeDictionary_135 c0_MO_codeRegion lk_MO_196 in_MO_codeRegion se_MO_codeRegion (by decide) rfl rfl rfl (Nat.le_of_ble_eq_true rfl) ⟨by decide, by decide, by decide, by decide⟩ (fun r135 m135 h135 => ?_)
          obtain ⟨ha135, hb135⟩ := h135
          have ha135 := ha135.symm
          subst ha135
          have hb135 := hb135.symm
          subst hb135
          refine jv_pop (pc := 138) d_MO_writeDictionary_138 rfl ?_
          refine jv_iload_n 4 (pc := 139) d_MO_writeDictionary_139 rfl ?_
          refine jv_aload_n 1 (pc := 140) d_MO_writeDictionary_140 rfl ?_
          refine jv_geti (pc := 141) d_MO_writeDictionary_141 fa_MO_232_MO (by decide) rfl rfl ?_
          refine jv_iconst 1 (pc := 144) d_MO_writeDictionary_144 rfl ?_
          refine jv_isub (pc := 145) d_MO_writeDictionary_145 ?_
          refine jv_icmp_eq 168 (pc := 146) d_MO_writeDictionary_146 rfl (fun h146 => ?_) (fun h146 => ?_)
          · have h146 : x3 = ((n135 38 4) - (1 : Int32)) := h146
            have H := (if_pos h146).symm.trans H
            refine jv_aload_n 1 (pc := 168) d_MO_writeDictionary_168 rfl ?_
            refine jv_iconst 5 (pc := 169) d_MO_writeDictionary_169 rfl ?_
            refine jv_iconst 0 (pc := 170) d_MO_writeDictionary_170 rfl ?_
            refine jv_iconst 1 (pc := 171) d_MO_writeDictionary_171 rfl ?_
            obtain ⟨v172, n172, c172, H⟩ := jbd_some H
            refine jv_callVi (sp_MO_codeNumber (5 : Int32) (0 : Int32) (1 : Int32) c172) (pc := 172) d_MO_writeDictionary_172 c0_MO_codeNumber lk_MO_229 in_MO_codeNumber se_MO_codeNumber (by decide) rfl rfl rfl (Nat.le_of_ble_eq_true rfl) ⟨by decide, by decide, by decide, by decide⟩ (fun r172 m172 h172 => ?_)
            obtain ⟨ha172, hb172⟩ := h172
            have ha172 := ha172.symm
            subst ha172
            have hb172 := hb172.symm
            subst hb172
            refine jv_pop (pc := 175) d_MO_writeDictionary_175 rfl ?_
            refine jv_iinc 4 _ (pc := 176) d_MO_writeDictionary_176 rfl (jinc1 _) (by decide) (jst4 rfl) ?_
            refine jv_goto 20 (pc := 179) d_MO_writeDictionary_179 rfl ?_
            exact jv_sub [1, 2, 3, 4] rfl (ih x1 (n76 41 (((4 : Int32) + x3).toNatClampNeg)) (x3 + 1) _ _ _ H)
          · have h146 : ¬ (x3 = ((n135 38 4) - (1 : Int32))) := h146
            have H := (if_neg h146).symm.trans H
            refine jv_aload_n 1 (pc := 149) d_MO_writeDictionary_149 rfl ?_
            refine jv_getr (pc := 150) d_MO_writeDictionary_150 fa_MO_16_MO (by decide) rfl rfl ?_
            refine jv_iconst 5 (pc := 153) d_MO_writeDictionary_153 rfl ?_
            refine jv_iload_n 4 (pc := 154) d_MO_writeDictionary_154 rfl ?_
            refine jv_iadd (pc := 155) d_MO_writeDictionary_155 ?_
            obtain ⟨b156, H⟩ := jck_some H
            refine jv_iald (pc := 156) d_MO_writeDictionary_156 (by decide) rfl b156 ?_
            refine jv_aload_n 1 (pc := 157) d_MO_writeDictionary_157 rfl ?_
            refine jv_getr (pc := 158) d_MO_writeDictionary_158 fa_MO_16_MO (by decide) rfl rfl ?_
            refine jv_iconst 4 (pc := 161) d_MO_writeDictionary_161 rfl ?_
            refine jv_iload_n 4 (pc := 162) d_MO_writeDictionary_162 rfl ?_
            refine jv_iadd (pc := 163) d_MO_writeDictionary_163 ?_
            obtain ⟨b164, H⟩ := jck_some H
            refine jv_iald (pc := 164) d_MO_writeDictionary_164 (by decide) rfl b164 ?_
            refine jv_icmp_eq 176 (pc := 165) d_MO_writeDictionary_165 rfl (fun h165 => ?_) (fun h165 => ?_)
            · have h165 : (n135 41 (((5 : Int32) + x3).toNatClampNeg)) = (n135 41 (((4 : Int32) + x3).toNatClampNeg)) := h165
              have H := (if_pos h165).symm.trans H
              refine jv_iinc 4 _ (pc := 176) d_MO_writeDictionary_176 rfl (jinc1 _) (by decide) (jst4 rfl) ?_
              refine jv_goto 20 (pc := 179) d_MO_writeDictionary_179 rfl ?_
              exact jv_sub [1, 2, 3, 4] rfl (ih x1 (n76 41 (((4 : Int32) + x3).toNatClampNeg)) (x3 + 1) _ _ _ H)
            · have h165 : ¬ ((n135 41 (((5 : Int32) + x3).toNatClampNeg)) = (n135 41 (((4 : Int32) + x3).toNatClampNeg))) := h165
              have H := (if_neg h165).symm.trans H
              refine jv_aload_n 1 (pc := 168) d_MO_writeDictionary_168 rfl ?_
              refine jv_iconst 5 (pc := 169) d_MO_writeDictionary_169 rfl ?_
              refine jv_iconst 0 (pc := 170) d_MO_writeDictionary_170 rfl ?_
              refine jv_iconst 1 (pc := 171) d_MO_writeDictionary_171 rfl ?_
              obtain ⟨v172, n172, c172, H⟩ := jbd_some H
              refine jv_callVi (sp_MO_codeNumber (5 : Int32) (0 : Int32) (1 : Int32) c172) (pc := 172) d_MO_writeDictionary_172 c0_MO_codeNumber lk_MO_229 in_MO_codeNumber se_MO_codeNumber (by decide) rfl rfl rfl (Nat.le_of_ble_eq_true rfl) ⟨by decide, by decide, by decide, by decide⟩ (fun r172 m172 h172 => ?_)
              obtain ⟨ha172, hb172⟩ := h172
              have ha172 := ha172.symm
              subst ha172
              have hb172 := hb172.symm
              subst hb172
              refine jv_pop (pc := 175) d_MO_writeDictionary_175 rfl ?_
              refine jv_iinc 4 _ (pc := 176) d_MO_writeDictionary_176 rfl (jinc1 _) (by decide) (jst4 rfl) ?_
              refine jv_goto 20 (pc := 179) d_MO_writeDictionary_179 rfl ?_
              exact jv_sub [1, 2, 3, 4] rfl (ih x1 (n76 41 (((4 : Int32) + x3).toNatClampNeg)) (x3 + 1) _ _ _ H)
set_option maxRecDepth 40000 in
set_option maxHeartbeats 8000000 in
theorem sp_MO_writeDictionary {G : jG} {σ τ : jMem} {r : Unit} (H : f_MO_writeDictionary σ = some (r, τ)) : jSp G M_MO_writeDictionary (jr 8 0 0) [.ref 38] σ (jU fun τ9 => τ9 = τ) := by
  refine jSp.of rfl rfl (Nat.le_of_ble_eq_true rfl) ?_
  show jV _ _ _ _ 0 0 0 [(0, .ref 38)] [] σ
  unfold f_MO_writeDictionary at H
  refine jv_aload_n 0 (pc := 0) d_MO_writeDictionary_0 rfl ?_
  refine jv_iconst 3 (pc := 1) d_MO_writeDictionary_1 rfl ?_
  refine jv_aload_n 0 (pc := 2) d_MO_writeDictionary_2 rfl ?_
  refine jv_geti (pc := 3) d_MO_writeDictionary_3 fa_MO_232_MO (by decide) rfl rfl ?_
  refine jv_iconst 0 (pc := 6) d_MO_writeDictionary_6 rfl ?_
  obtain ⟨v7, n7, c7, H⟩ := jbd_some H
  refine jv_callVi (sp_MO_codeNumber (3 : Int32) (σ 38 4) (0 : Int32) c7) (pc := 7) d_MO_writeDictionary_7 c0_MO_codeNumber lk_MO_229 in_MO_codeNumber se_MO_codeNumber (by decide) rfl rfl rfl (Nat.le_of_ble_eq_true rfl) ⟨by decide, by decide, by decide, by decide⟩ (fun r7 m7 h7 => ?_)
  obtain ⟨ha7, hb7⟩ := h7
  have ha7 := ha7.symm
  subst ha7
  have hb7 := hb7.symm
  subst hb7
  refine jv_istore_n (pc := 10) d_MO_writeDictionary_10 rfl (by decide) (jsto_new rfl) ?_
  refine jv_iload_n 0 (pc := 11) d_MO_writeDictionary_11 rfl ?_
  refine jv_aload_n 1 (pc := 12) d_MO_writeDictionary_12 rfl ?_
  refine jv_geti (pc := 13) d_MO_writeDictionary_13 fa_MO_232_MO (by decide) rfl rfl ?_
  refine jv_isub (pc := 16) d_MO_writeDictionary_16 ?_
  refine jv_istore_n (pc := 17) d_MO_writeDictionary_17 rfl (by decide) (jsto_new rfl) ?_
  refine jv_iconst 0 (pc := 18) d_MO_writeDictionary_18 rfl ?_
  refine jv_istore_n (pc := 19) d_MO_writeDictionary_19 rfl (by decide) (jsto_new rfl) ?_
  exact jv_sub [3, 2, 1, 0] rfl (lp_MO_writeDictionary_20  _ v7 (v7 - (n7 38 4)) (0 : Int32) _ _ _ H)
set_option maxRecDepth 40000 in
set_option maxHeartbeats 8000000 in
theorem lp_MO_readHeight_6 {G : jG} : ∀ (n : Nat) (x1 x2 x3 x4 x5 : Int32) (σ τ : jMem) (r : Int32), f_MO_readHeight_L6 n x1 x2 x3 x4 x5 σ = some (r, τ) → jV G M_MO_readHeight (jr 8 0 0) (jI fun r9 τ9 => r9 = r ∧ τ9 = τ) 0 0 6 [(0, .ref 38), (1, .int x1), (2, .int x2), (3, .int x3), (4, .int x4), (5, .int x5)] [] σ := by
  intro n
  induction n with
  | zero =>
    intro x1 x2 x3 x4 x5 σ τ r H
    cases H
  | succ n ih =>
    intro x1 x2 x3 x4 x5 σ τ r H
    rw [f_MO_readHeight_L6.eq_2] at H
    refine jv_aload_n 0 (pc := 6) d_MO_readHeight_6 rfl ?_
    refine jv_iconst 5 (pc := 7) d_MO_readHeight_7 rfl ?_
    refine jv_iconst 0 (pc := 8) d_MO_readHeight_8 rfl ?_
    refine jv_iconst 0 (pc := 9) d_MO_readHeight_9 rfl ?_
    obtain ⟨v10, n10, c10, H⟩ := jbd_some H
    refine jv_callVi (sp_MO_codeNumber (5 : Int32) (0 : Int32) (0 : Int32) c10) (pc := 10) d_MO_readHeight_10 c0_MO_codeNumber lk_MO_229 in_MO_codeNumber se_MO_codeNumber (by decide) rfl rfl rfl (Nat.le_of_ble_eq_true rfl) ⟨by decide, by decide, by decide, by decide⟩ (fun r10 m10 h10 => ?_)
    obtain ⟨ha10, hb10⟩ := h10
    have ha10 := ha10.symm
    subst ha10
    have hb10 := hb10.symm
    subst hb10
    refine jv_istore (pc := 13) d_MO_readHeight_13 (by decide) (jsto_new rfl) ?_
    refine jv_aload_n 1 (pc := 15) d_MO_readHeight_15 rfl ?_
    refine jv_geti (pc := 16) d_MO_readHeight_16 fa_MO_223_MO (by decide) rfl rfl ?_
    refine jv_if_eq 35 (pc := 19) d_MO_readHeight_19 rfl (fun h19 => ?_) (fun h19 => ?_)
    · have h19 : (n10 38 20) = 0 := h19
      have H := (if_pos h19).symm.trans H
      refine jv_iload 6 (pc := 35) d_MO_readHeight_35 rfl ?_
      refine jv_iload 0 (pc := 37) d_MO_readHeight_37 rfl ?_
      refine jv_iadd (pc := 39) d_MO_readHeight_39 ?_
      refine jv_istore (pc := 40) d_MO_readHeight_40 (by decide) (jst6 rfl) ?_
      refine jv_iload 5 (pc := 42) d_MO_readHeight_42 rfl ?_
      refine jv_iload_n 3 (pc := 44) d_MO_readHeight_44 rfl ?_
      refine jv_icmp_eq 56 (pc := 45) d_MO_readHeight_45 rfl (fun h45 => ?_) (fun h45 => ?_)
      · have h45 : x4 = x2 := h45
        have H := (if_pos h45).symm.trans H
        refine jv_iconst (-1) (pc := 56) d_MO_readHeight_56 rfl ?_
        refine jv_iret (pc := 57) d_MO_readHeight_57 rfl rfl (Nat.zero_le _) (Nat.zero_le _) ?_
        cases H
        exact jI.of ⟨rfl, rfl⟩
      · have h45 : ¬ (x4 = x2) := h45
        have H := (if_neg h45).symm.trans H
        refine jv_iload 6 (pc := 48) d_MO_readHeight_48 rfl ?_
        refine jv_callSi (sp_MO_isLength (x5 + v10)) (pc := 50) d_MO_readHeight_50 c0_MO_isLength lk_MO_244 si_MO_isLength rfl (Nat.le_of_ble_eq_true rfl) ⟨by decide, by decide, by decide, by decide⟩ (fun r50 m50 h50 => ?_)
        obtain ⟨ha50, hb50⟩ := h50
        subst ha50
        have hb50 := hb50.symm
        subst hb50
        refine jv_if_ne 58 (pc := 53) d_MO_readHeight_53 rfl (fun h53 => ?_) (fun h53 => ?_)
        · have h53 : ¬ ((f_MO_isLength (x5 + v10) n10) = 0) := h53
          have H := (if_neg h53).symm.trans H
          refine jv_aload_n 1 (pc := 58) d_MO_readHeight_58 rfl ?_
          refine jv_iconst 4 (pc := 59) d_MO_readHeight_59 rfl ?_
          refine jv_iload 5 (pc := 60) d_MO_readHeight_60 rfl ?_
          refine jv_iadd (pc := 62) d_MO_readHeight_62 ?_
          refine jv_iload 6 (pc := 63) d_MO_readHeight_63 rfl ?_
          refine jv_iload_n 4 (pc := 65) d_MO_readHeight_65 rfl ?_
          obtain ⟨_, n66, c66, H⟩ := jbd_some H
          refine jv_callVv (sp_MO_resize ((4 : Int32) + x4) (x5 + v10) x3 c66) (pc := 66) d_MO_readHeight_66 c0_MO_resize lk_MO_46 in_MO_resize se_MO_resize (by decide) rfl rfl rfl (Nat.le_of_ble_eq_true rfl) ⟨by decide, by decide, by decide, by decide⟩ (fun m66 h66 => ?_)
          have hb66 := h66
          have hb66 := hb66.symm
          subst hb66
          refine jv_aload_n 1 (pc := 69) d_MO_readHeight_69 rfl ?_
          refine jv_iconst 4 (pc := 70) d_MO_readHeight_70 rfl ?_
          refine jv_iload 5 (pc := 71) d_MO_readHeight_71 rfl ?_
          refine jv_iadd (pc := 73) d_MO_readHeight_73 ?_
          refine jv_iconst 2 (pc := 74) d_MO_readHeight_74 rfl ?_
          refine jv_iconst 0 (pc := 75) d_MO_readHeight_75 rfl ?_
          obtain ⟨v76, n76, c76, H⟩ := jbd_some H
          refine jv_callVi (sp_MO_codeRegion ((4 : Int32) + x4) (2 : Int32) (0 : Int32) c76) (pc := 76) d_MO_readHeight_76 c0_MO_codeRegion lk_MO_196 in_MO_codeRegion se_MO_codeRegion (by decide) rfl rfl rfl (Nat.le_of_ble_eq_true rfl) ⟨by decide, by decide, by decide, by decide⟩ (fun r76 m76 h76 => ?_)
          obtain ⟨ha76, hb76⟩ := h76
          have ha76 := ha76.symm
          subst ha76
          have hb76 := hb76.symm
          subst hb76
          refine jv_pop (pc := 79) d_MO_readHeight_79 rfl ?_
          refine jv_iinc 5 _ (pc := 80) d_MO_readHeight_80 rfl (jinc1 _) (by decide) (jst5 rfl) ?_
          refine jv_goto 6 (pc := 83) d_MO_readHeight_83 rfl ?_
          exact jv_sub [1, 2, 3, 4, 5, 6] rfl (ih x1 x2 x3 (x4 + 1) (x5 + v10) _ _ _ H)
        · have h53 : (f_MO_isLength (x5 + v10) n10) = 0 := h53
          have H := (if_pos h53).symm.trans H
          refine jv_iconst (-1) (pc := 56) d_MO_readHeight_56 rfl ?_
          refine jv_iret (pc := 57) d_MO_readHeight_57 rfl rfl (Nat.zero_le _) (Nat.zero_le _) ?_
          cases H
          exact jI.of ⟨rfl, rfl⟩
    · have h19 : ¬ ((n10 38 20) = 0) := h19
      have H := (if_neg h19).symm.trans H
      refine jv_iload 5 (pc := 22) d_MO_readHeight_22 rfl ?_
      refine jv_iload_n 2 (pc := 24) d_MO_readHeight_24 rfl ?_
      refine jv_icmp_ne 32 (pc := 25) d_MO_readHeight_25 rfl (fun h25 => ?_) (fun h25 => ?_)
      · have h25 : ¬ (x4 = x1) := h25
        have H := (if_neg h25).symm.trans H
        refine jv_iload 5 (pc := 32) d_MO_readHeight_32 rfl ?_
        refine jv_iret (pc := 34) d_MO_readHeight_34 rfl rfl (Nat.zero_le _) (Nat.zero_le _) ?_
        cases H
        exact jI.of ⟨rfl, rfl⟩
      · have h25 : x4 = x1 := h25
        have H := (if_pos h25).symm.trans H
        refine jv_iconst (-1) (pc := 28) d_MO_readHeight_28 rfl ?_
        refine jv_goto 34 (pc := 29) d_MO_readHeight_29 rfl ?_
        refine jv_iret (pc := 34) d_MO_readHeight_34 rfl rfl (Nat.zero_le _) (Nat.zero_le _) ?_
        cases H
        exact jI.of ⟨rfl, rfl⟩
set_option maxRecDepth 40000 in
set_option maxHeartbeats 8000000 in
theorem sp_MO_readHeight {G : jG} {σ τ : jMem} {r : Int32} (x1 x2 x3 : Int32) (H : f_MO_readHeight x1 x2 x3 σ = some (r, τ)) : jSp G M_MO_readHeight (jr 8 0 0) [.ref 38, .int x1, .int x2, .int x3] σ (jI fun r9 τ9 => r9 = r ∧ τ9 = τ) := by
  refine jSp.of rfl rfl (Nat.le_of_ble_eq_true rfl) ?_
  show jV _ _ _ _ 0 0 0 [(0, .ref 38), (1, .int x1), (2, .int x2), (3, .int x3)] [] σ
  unfold f_MO_readHeight at H
  refine jv_iload_n 1 (pc := 0) d_MO_readHeight_0 rfl ?_
  refine jv_istore (pc := 1) d_MO_readHeight_1 (by decide) (jsto_new rfl) ?_
  refine jv_iconst 0 (pc := 3) d_MO_readHeight_3 rfl ?_
  refine jv_istore (pc := 4) d_MO_readHeight_4 (by decide) (jsto_new rfl) ?_
  exact jv_sub [2, 3, 4, 5, 1, 0] rfl (lp_MO_readHeight_6  _ x1 x2 x3 x1 (0 : Int32) _ _ _ H)
set_option maxRecDepth 40000 in
set_option maxHeartbeats 8000000 in
theorem lp_MO_readDictionary_31 {G : jG} : ∀ (n : Nat) (x1 x2 x3 : Int32) (σ τ : jMem) (r : Int32), f_MO_readDictionary_L31 n x1 x2 x3 σ = some (r, τ) → jV G M_MO_readDictionary (jr 9 0 0) (jI fun r9 τ9 => r9 = r ∧ τ9 = τ) 0 0 31 [(0, .ref 38), (1, .int x1), (2, .int x2), (3, .int x3)] [] σ := by
  intro n
  induction n with
  | zero =>
    intro x1 x2 x3 σ τ r H
    cases H
  | succ n ih =>
    intro x1 x2 x3 σ τ r H
    rw [f_MO_readDictionary_L31.eq_2] at H
    refine jv_iload_n 2 (pc := 31) d_MO_readDictionary_31 rfl ?_
    refine jv_iload_n 1 (pc := 32) d_MO_readDictionary_32 rfl ?_
    refine jv_icmp_ge 76 (pc := 33) d_MO_readDictionary_33 rfl (fun h33 => ?_) (fun h33 => ?_)
    · have h33 : x1 ≤ x2 := h33
      have H := (if_pos h33).symm.trans H
      refine jv_iload_n 1 (pc := 76) d_MO_readDictionary_76 rfl ?_
      refine jv_iret (pc := 77) d_MO_readDictionary_77 rfl rfl (Nat.zero_le _) (Nat.zero_le _) ?_
      cases H
      exact jI.of ⟨rfl, rfl⟩
    · have h33 : ¬ (x1 ≤ x2) := h33
      have H := (if_neg h33).symm.trans H
      refine jv_iload_n 3 (pc := 36) d_MO_readDictionary_36 rfl ?_
      refine jv_aload_n 0 (pc := 37) d_MO_readDictionary_37 rfl ?_
      refine jv_iconst 4 (pc := 38) d_MO_readDictionary_38 rfl ?_
      refine jv_iconst 0 (pc := 39) d_MO_readDictionary_39 rfl ?_
      refine jv_iconst 0 (pc := 40) d_MO_readDictionary_40 rfl ?_
      obtain ⟨v41, n41, c41, H⟩ := jbd_some H
      refine jv_callVi (sp_MO_codeNumber (4 : Int32) (0 : Int32) (0 : Int32) c41) (pc := 41) d_MO_readDictionary_41 c0_MO_codeNumber lk_MO_229 in_MO_codeNumber se_MO_codeNumber (by decide) rfl rfl rfl (Nat.le_of_ble_eq_true rfl) ⟨by decide, by decide, by decide, by decide⟩ (fun r41 m41 h41 => ?_)
      obtain ⟨ha41, hb41⟩ := h41
      have ha41 := ha41.symm
      subst ha41
      have hb41 := hb41.symm
      subst hb41
      refine jv_iadd (pc := 44) d_MO_readDictionary_44 ?_
      refine jv_istore_n (pc := 45) d_MO_readDictionary_45 rfl (by decide) (jst3 rfl) ?_
      refine jv_aload_n 0 (pc := 46) d_MO_readDictionary_46 rfl ?_
      refine jv_geti (pc := 47) d_MO_readDictionary_47 fa_MO_223_MO (by decide) rfl rfl ?_
      refine jv_if_ne 60 (pc := 50) d_MO_readDictionary_50 rfl (fun h50 => ?_) (fun h50 => ?_)
      · have h50 : ¬ ((n41 38 20) = 0) := h50
        have H := (if_neg h50).symm.trans H
        refine jv_iconst (-1) (pc := 60) d_MO_readDictionary_60 rfl ?_
        refine jv_iret (pc := 61) d_MO_readDictionary_61 rfl rfl (Nat.zero_le _) (Nat.zero_le _) ?_
        cases H
        exact jI.of ⟨rfl, rfl⟩
      · have h50 : (n41 38 20) = 0 := h50
        have H := (if_pos h50).symm.trans H
        refine jv_iload_n 3 (pc := 53) d_MO_readDictionary_53 rfl ?_
        refine jv_callSi (sp_MO_isLength (x3 + v41)) (pc := 54) d_MO_readDictionary_54 c0_MO_isLength lk_MO_244 si_MO_isLength rfl (Nat.le_of_ble_eq_true rfl) ⟨by decide, by decide, by decide, by decide⟩ (fun r54 m54 h54 => ?_)
        obtain ⟨ha54, hb54⟩ := h54
        subst ha54
        have hb54 := hb54.symm
        subst hb54
        refine jv_if_ne 62 (pc := 57) d_MO_readDictionary_57 rfl (fun h57 => ?_) (fun h57 => ?_)
        · have h57 : ¬ ((f_MO_isLength (x3 + v41) n41) = 0) := h57
          have H := (if_neg h57).symm.trans H
          refine jv_aload_n 0 (pc := 62) d_MO_readDictionary_62 rfl ?_
          refine jv_iload_n 2 (pc := 63) d_MO_readDictionary_63 rfl ?_
          refine jv_iload_n 1 (pc := 64) d_MO_readDictionary_64 rfl ?_
          refine jv_iload_n 3 (pc := 65) d_MO_readDictionary_65 rfl ?_
          obtain ⟨v66, n66, c66, H⟩ := jbd_some H
          refine jv_callVi (sp_MO_readHeight x2 x1 (x3 + v41) c66) (pc := 66) d_MO_readDictionary_66 c0_MO_readHeight lk_MO_247 in_MO_readHeight se_MO_readHeight (by decide) rfl rfl rfl (Nat.le_of_ble_eq_true rfl) ⟨by decide, by decide, by decide, by decide⟩ (fun r66 m66 h66 => ?_)
          obtain ⟨ha66, hb66⟩ := h66
          have ha66 := ha66.symm
          subst ha66
          have hb66 := hb66.symm
          subst hb66
          refine jv_istore_n (pc := 69) d_MO_readDictionary_69 rfl (by decide) (jst2 rfl) ?_
          refine jv_iload_n 2 (pc := 70) d_MO_readDictionary_70 rfl ?_
          refine jv_if_ge 31 (pc := 71) d_MO_readDictionary_71 rfl (fun h71 => ?_) (fun h71 => ?_)
          · have h71 : 0 ≤ v66 := h71
            have H := (if_pos h71).symm.trans H
            exact jv_sub [0, 1, 2, 3] rfl (ih x1 v66 (x3 + v41) _ _ _ H)
          · have h71 : ¬ (0 ≤ v66) := h71
            have H := (if_neg h71).symm.trans H
            refine jv_iconst (-1) (pc := 74) d_MO_readDictionary_74 rfl ?_
            refine jv_iret (pc := 75) d_MO_readDictionary_75 rfl rfl (Nat.zero_le _) (Nat.zero_le _) ?_
            cases H
            exact jI.of ⟨rfl, rfl⟩
        · have h57 : (f_MO_isLength (x3 + v41) n41) = 0 := h57
          have H := (if_pos h57).symm.trans H
          refine jv_iconst (-1) (pc := 60) d_MO_readDictionary_60 rfl ?_
          refine jv_iret (pc := 61) d_MO_readDictionary_61 rfl rfl (Nat.zero_le _) (Nat.zero_le _) ?_
          cases H
          exact jI.of ⟨rfl, rfl⟩
set_option maxRecDepth 40000 in
set_option maxHeartbeats 8000000 in
theorem sp_MO_readDictionary {G : jG} {σ τ : jMem} {r : Int32} (H : f_MO_readDictionary σ = some (r, τ)) : jSp G M_MO_readDictionary (jr 9 0 0) [.ref 38] σ (jI fun r9 τ9 => r9 = r ∧ τ9 = τ) := by
  refine jSp.of rfl rfl (Nat.le_of_ble_eq_true rfl) ?_
  show jV _ _ _ _ 0 0 0 [(0, .ref 38)] [] σ
  unfold f_MO_readDictionary at H
  refine jv_aload_n 0 (pc := 0) d_MO_readDictionary_0 rfl ?_
  refine jv_iconst 3 (pc := 1) d_MO_readDictionary_1 rfl ?_
  refine jv_iconst 0 (pc := 2) d_MO_readDictionary_2 rfl ?_
  refine jv_iconst 0 (pc := 3) d_MO_readDictionary_3 rfl ?_
  obtain ⟨v4, n4, c4, H⟩ := jbd_some H
  refine jv_callVi (sp_MO_codeNumber (3 : Int32) (0 : Int32) (0 : Int32) c4) (pc := 4) d_MO_readDictionary_4 c0_MO_codeNumber lk_MO_229 in_MO_codeNumber se_MO_codeNumber (by decide) rfl rfl rfl (Nat.le_of_ble_eq_true rfl) ⟨by decide, by decide, by decide, by decide⟩ (fun r4 m4 h4 => ?_)
  obtain ⟨ha4, hb4⟩ := h4
  have ha4 := ha4.symm
  subst ha4
  have hb4 := hb4.symm
  subst hb4
  refine jv_istore_n (pc := 7) d_MO_readDictionary_7 rfl (by decide) (jsto_new rfl) ?_
  refine jv_aload_n 1 (pc := 8) d_MO_readDictionary_8 rfl ?_
  refine jv_geti (pc := 9) d_MO_readDictionary_9 fa_MO_223_MO (by decide) rfl rfl ?_
  refine jv_if_ne 25 (pc := 12) d_MO_readDictionary_12 rfl (fun h12 => ?_) (fun h12 => ?_)
  · have h12 : ¬ ((n4 38 20) = 0) := h12
    have H := (if_neg h12).symm.trans H
    refine jv_iconst (-1) (pc := 25) d_MO_readDictionary_25 rfl ?_
    refine jv_iret (pc := 26) d_MO_readDictionary_26 rfl rfl (Nat.zero_le _) (Nat.zero_le _) ?_
    cases H
    exact jI.of ⟨rfl, rfl⟩
  · have h12 : (n4 38 20) = 0 := h12
    have H := (if_pos h12).symm.trans H
    refine jv_iload_n 0 (pc := 15) d_MO_readDictionary_15 rfl ?_
    refine jv_if_lt 25 (pc := 16) d_MO_readDictionary_16 rfl (fun h16 => ?_) (fun h16 => ?_)
    · have h16 : v4 < 0 := h16
      have H := (if_pos h16).symm.trans H
      refine jv_iconst (-1) (pc := 25) d_MO_readDictionary_25 rfl ?_
      refine jv_iret (pc := 26) d_MO_readDictionary_26 rfl rfl (Nat.zero_le _) (Nat.zero_le _) ?_
      cases H
      exact jI.of ⟨rfl, rfl⟩
    · have h16 : ¬ (v4 < 0) := h16
      have H := (if_neg h16).symm.trans H
      refine jv_iload_n 0 (pc := 19) d_MO_readDictionary_19 rfl ?_
      refine jv_bipush (8) (pc := 20) d_MO_readDictionary_20 rfl ?_
      refine jv_icmp_le 27 (pc := 22) d_MO_readDictionary_22 rfl (fun h22 => ?_) (fun h22 => ?_)
      · have h22 : v4 ≤ (8 : Int32) := h22
        have H := (if_pos h22).symm.trans H
        refine jv_iconst 0 (pc := 27) d_MO_readDictionary_27 rfl ?_
        refine jv_istore_n (pc := 28) d_MO_readDictionary_28 rfl (by decide) (jsto_new rfl) ?_
        refine jv_iconst 0 (pc := 29) d_MO_readDictionary_29 rfl ?_
        refine jv_istore_n (pc := 30) d_MO_readDictionary_30 rfl (by decide) (jsto_new rfl) ?_
        exact jv_sub [3, 2, 1, 0] rfl (lp_MO_readDictionary_31  _ v4 (0 : Int32) (0 : Int32) _ _ _ H)
      · have h22 : ¬ (v4 ≤ (8 : Int32)) := h22
        have H := (if_neg h22).symm.trans H
        refine jv_iconst (-1) (pc := 25) d_MO_readDictionary_25 rfl ?_
        refine jv_iret (pc := 26) d_MO_readDictionary_26 rfl rfl (Nat.zero_le _) (Nat.zero_le _) ?_
        cases H
        exact jI.of ⟨rfl, rfl⟩
set_option maxRecDepth 40000 in
set_option maxHeartbeats 8000000 in
theorem sp_MO_dictionary {G : jG} {σ τ : jMem} {r : Int32} (H : f_MO_dictionary σ = some (r, τ)) : jSp G M_MO_dictionary (jr 10 0 0) [.ref 38] σ (jI fun r9 τ9 => r9 = r ∧ τ9 = τ) := by
  refine jSp.of rfl rfl (Nat.le_of_ble_eq_true rfl) ?_
  show jV _ _ _ _ 0 0 0 [(0, .ref 38)] [] σ
  unfold f_MO_dictionary at H
  refine jv_aload_n 0 (pc := 0) d_MO_dictionary_0 rfl ?_
  refine jv_aload_n 0 (pc := 1) d_MO_dictionary_1 rfl ?_
  refine jv_geti (pc := 2) d_MO_dictionary_2 fa_MO_68_MO (by decide) rfl rfl ?_
  refine jv_if_ne 12 (pc := 5) d_MO_dictionary_5 rfl (fun h5 => ?_) (fun h5 => ?_)
  · have h5 : ¬ ((σ 38 11) = 0) := h5
    have H := (if_neg h5).symm.trans H
    refine jv_iconst 0 (pc := 12) d_MO_dictionary_12 rfl ?_
    refine jv_puti (pc := 13) d_MO_dictionary_13 fa_MO_34_MO fp_MO_0 (by decide) rfl rfl rfl rfl ?_
    refine jv_aload_n 0 (pc := 16) d_MO_dictionary_16 rfl ?_
    refine jv_geti (pc := 17) d_MO_dictionary_17 fa_MO_34_MO (by decide) rfl rfl ?_
    refine jv_if_le 25 (pc := 20) d_MO_dictionary_20 rfl (fun h20 => ?_) (fun h20 => absurd (show (0 : Int32) ≤ 0 by decide) (show ¬ ((0 : Int32) ≤ 0) from h20))
    refine jv_aload_n 0 (pc := 25) d_MO_dictionary_25 rfl ?_
    refine jv_geti (pc := 26) d_MO_dictionary_26 fa_MO_68_MO (by decide) rfl rfl ?_
    refine jv_iconst 1 (pc := 29) d_MO_dictionary_29 rfl ?_
    refine jv_icmp_ne 42 (pc := 30) d_MO_dictionary_30 rfl (fun h30 => ?_) (fun h30 => ?_)
    · have h30 : ¬ ((σ 38 11) = (1 : Int32)) := h30
      have H := (if_neg h30).symm.trans H
      refine jv_aload_n 0 (pc := 42) d_MO_dictionary_42 rfl ?_
      obtain ⟨v43, n43, c43, H⟩ := jbd_some H
      refine jv_callVi (sp_MO_readDictionary c43) (pc := 43) d_MO_dictionary_43 c0_MO_readDictionary lk_MO_253 in_MO_readDictionary se_MO_readDictionary (by decide) rfl rfl rfl (Nat.le_of_ble_eq_true rfl) ⟨by decide, by decide, by decide, by decide⟩ (fun r43 m43 h43 => ?_)
      obtain ⟨ha43, hb43⟩ := h43
      have ha43 := ha43.symm
      subst ha43
      have hb43 := hb43.symm
      subst hb43
      refine jv_istore_n (pc := 46) d_MO_dictionary_46 rfl (by decide) (jsto_new rfl) ?_
      refine jv_aload_n 1 (pc := 47) d_MO_dictionary_47 rfl ?_
      refine jv_iconst 0 (pc := 48) d_MO_dictionary_48 rfl ?_
      refine jv_puti (pc := 49) d_MO_dictionary_49 fa_MO_235_MO fp_MO_5 (by decide) rfl rfl rfl rfl ?_
      refine jv_aload_n 1 (pc := 52) d_MO_dictionary_52 rfl ?_
      refine jv_iload_n 0 (pc := 53) d_MO_dictionary_53 rfl ?_
      refine jv_if_ge 61 (pc := 54) d_MO_dictionary_54 rfl (fun h54 => ?_) (fun h54 => ?_)
      · have h54 : 0 ≤ v43 := h54
        have H := (if_pos h54).symm.trans H
        refine jv_iload_n 0 (pc := 61) d_MO_dictionary_61 rfl ?_
        refine jv_puti (pc := 62) d_MO_dictionary_62 fa_MO_232_MO fp_MO_4 (by decide) rfl rfl rfl rfl ?_
        refine jv_aload_n 1 (pc := 65) d_MO_dictionary_65 rfl ?_
        refine jv_iload_n 0 (pc := 66) d_MO_dictionary_66 rfl ?_
        refine jv_if_ge 74 (pc := 67) d_MO_dictionary_67 rfl (fun h67 => ?_) (fun h67 => ?_)
        · have h67 : 0 ≤ v43 := h67
          have H := (if_pos h67).symm.trans H
          refine jv_aload_n 1 (pc := 74) d_MO_dictionary_74 rfl ?_
          refine jv_geti (pc := 75) d_MO_dictionary_75 fa_MO_68_MO (by decide) rfl rfl ?_
          refine jv_puti (pc := 78) d_MO_dictionary_78 fa_MO_68_MO fp_MO_11 (by decide) rfl rfl rfl rfl ?_
          refine jv_iload_n 0 (pc := 81) d_MO_dictionary_81 rfl ?_
          refine jv_iret (pc := 82) d_MO_dictionary_82 rfl rfl (Nat.zero_le _) (Nat.zero_le _) ?_
          cases H
          exact jI.of ⟨rfl, rfl⟩
        · have h67 : ¬ (0 ≤ v43) := h67
          have H := (if_neg h67).symm.trans H
          refine jv_iconst 0 (pc := 70) d_MO_dictionary_70 rfl ?_
          refine jv_goto 78 (pc := 71) d_MO_dictionary_71 rfl ?_
          refine jv_puti (pc := 78) d_MO_dictionary_78 fa_MO_68_MO fp_MO_11 (by decide) rfl rfl rfl rfl ?_
          refine jv_iload_n 0 (pc := 81) d_MO_dictionary_81 rfl ?_
          refine jv_iret (pc := 82) d_MO_dictionary_82 rfl rfl (Nat.zero_le _) (Nat.zero_le _) ?_
          cases H
          exact jI.of ⟨rfl, rfl⟩
      · have h54 : ¬ (0 ≤ v43) := h54
        have H := (if_neg h54).symm.trans H
        refine jv_iconst 0 (pc := 57) d_MO_dictionary_57 rfl ?_
        refine jv_goto 62 (pc := 58) d_MO_dictionary_58 rfl ?_
        refine jv_puti (pc := 62) d_MO_dictionary_62 fa_MO_232_MO fp_MO_4 (by decide) rfl rfl rfl rfl ?_
        refine jv_aload_n 1 (pc := 65) d_MO_dictionary_65 rfl ?_
        refine jv_iload_n 0 (pc := 66) d_MO_dictionary_66 rfl ?_
        refine jv_if_ge 74 (pc := 67) d_MO_dictionary_67 rfl (fun h67 => ?_) (fun h67 => ?_)
        · have h67 : 0 ≤ v43 := h67
          have H := (if_pos h67).symm.trans H
          refine jv_aload_n 1 (pc := 74) d_MO_dictionary_74 rfl ?_
          refine jv_geti (pc := 75) d_MO_dictionary_75 fa_MO_68_MO (by decide) rfl rfl ?_
          refine jv_puti (pc := 78) d_MO_dictionary_78 fa_MO_68_MO fp_MO_11 (by decide) rfl rfl rfl rfl ?_
          refine jv_iload_n 0 (pc := 81) d_MO_dictionary_81 rfl ?_
          refine jv_iret (pc := 82) d_MO_dictionary_82 rfl rfl (Nat.zero_le _) (Nat.zero_le _) ?_
          cases H
          exact jI.of ⟨rfl, rfl⟩
        · have h67 : ¬ (0 ≤ v43) := h67
          have H := (if_neg h67).symm.trans H
          refine jv_iconst 0 (pc := 70) d_MO_dictionary_70 rfl ?_
          refine jv_goto 78 (pc := 71) d_MO_dictionary_71 rfl ?_
          refine jv_puti (pc := 78) d_MO_dictionary_78 fa_MO_68_MO fp_MO_11 (by decide) rfl rfl rfl rfl ?_
          refine jv_iload_n 0 (pc := 81) d_MO_dictionary_81 rfl ?_
          refine jv_iret (pc := 82) d_MO_dictionary_82 rfl rfl (Nat.zero_le _) (Nat.zero_le _) ?_
          cases H
          exact jI.of ⟨rfl, rfl⟩
    · have h30 : (σ 38 11) = (1 : Int32) := h30
      have H := (if_pos h30).symm.trans H
      refine jv_aload_n 0 (pc := 33) d_MO_dictionary_33 rfl ?_
      obtain ⟨_, n34, c34, H⟩ := jbd_some H
      refine jv_callVv (sp_MO_writeDictionary c34) (pc := 34) d_MO_dictionary_34 c0_MO_writeDictionary lk_MO_250 in_MO_writeDictionary se_MO_writeDictionary (by decide) rfl rfl rfl (Nat.le_of_ble_eq_true rfl) ⟨by decide, by decide, by decide, by decide⟩ (fun m34 h34 => ?_)
      have hb34 := h34
      have hb34 := hb34.symm
      subst hb34
      refine jv_aload_n 0 (pc := 37) d_MO_dictionary_37 rfl ?_
      refine jv_geti (pc := 38) d_MO_dictionary_38 fa_MO_232_MO (by decide) rfl rfl ?_
      refine jv_iret (pc := 41) d_MO_dictionary_41 rfl rfl (Nat.zero_le _) (Nat.zero_le _) ?_
      cases H
      exact jI.of ⟨rfl, rfl⟩
  · have h5 : (σ 38 11) = 0 := h5
    have H := (if_pos h5).symm.trans H
    refine jv_iconst 1 (pc := 8) d_MO_dictionary_8 rfl ?_
    refine jv_goto 13 (pc := 9) d_MO_dictionary_9 rfl ?_
    refine jv_puti (pc := 13) d_MO_dictionary_13 fa_MO_34_MO fp_MO_0 (by decide) rfl rfl rfl rfl ?_
    refine jv_aload_n 0 (pc := 16) d_MO_dictionary_16 rfl ?_
    refine jv_geti (pc := 17) d_MO_dictionary_17 fa_MO_34_MO (by decide) rfl rfl ?_
    refine jv_if_le 25 (pc := 20) d_MO_dictionary_20 rfl (fun h20 => absurd (show (1 : Int32) ≤ 0 from h20) (by decide)) (fun h20 => ?_)
    refine jv_iconst 0 (pc := 23) d_MO_dictionary_23 rfl ?_
    refine jv_iret (pc := 24) d_MO_dictionary_24 rfl rfl (Nat.zero_le _) (Nat.zero_le _) ?_
    cases H
    exact jI.of ⟨rfl, rfl⟩
set_option maxRecDepth 40000 in
set_option maxHeartbeats 8000000 in
theorem sp_MO_before {G : jG} {σ τ : jMem} {r : Int32} (x1 : Int32) (H : f_MO_before x1 σ = some (r, τ)) : jSp G M_MO_before (jr 0 0 0) [.ref 38, .int x1] σ (jI fun r9 τ9 => r9 = r ∧ τ9 = τ) := by
  refine jSp.of rfl rfl (Nat.le_of_ble_eq_true rfl) ?_
  show jV _ _ _ _ 0 0 0 [(0, .ref 38), (1, .int x1)] [] σ
  unfold f_MO_before at H
  refine jv_aload_n 0 (pc := 0) d_MO_before_0 rfl ?_
  refine jv_geti (pc := 1) d_MO_before_1 fa_MO_257_MO (by decide) rfl rfl ?_
  refine jv_if_ne 28 (pc := 4) d_MO_before_4 rfl (fun h4 => ?_) (fun h4 => ?_)
  · have h4 : ¬ ((σ 38 22) = 0) := h4
    have H := (if_neg h4).symm.trans H
    refine jv_aload_n 0 (pc := 28) d_MO_before_28 rfl ?_
    refine jv_geti (pc := 29) d_MO_before_29 fa_MO_257_MO (by decide) rfl rfl ?_
    refine jv_if_eq 57 (pc := 32) d_MO_before_32 rfl (fun h32 => ?_) (fun h32 => ?_)
    · have h32 : (σ 38 22) = 0 := h32
      have H := (if_pos h32).symm.trans H
      refine jv_iconst 0 (pc := 57) d_MO_before_57 rfl ?_
      refine jv_iret (pc := 58) d_MO_before_58 rfl rfl (Nat.zero_le _) (Nat.zero_le _) ?_
      cases H
      exact jI.of ⟨rfl, rfl⟩
    · have h32 : ¬ ((σ 38 22) = 0) := h32
      have H := (if_neg h32).symm.trans H
      refine jv_aload_n 0 (pc := 35) d_MO_before_35 rfl ?_
      refine jv_geti (pc := 36) d_MO_before_36 fa_MO_260_MO (by decide) rfl rfl ?_
      refine jv_iconst 2 (pc := 39) d_MO_before_39 rfl ?_
      refine jv_irem (pc := 40) d_MO_before_40 (by decide) ?_
      refine jv_if_ne 57 (pc := 41) d_MO_before_41 rfl (fun h41 => ?_) (fun h41 => ?_)
      · have h41 : ¬ (((σ 38 21) - (σ 38 21) / (2 : Int32) * (2 : Int32)) = 0) := h41
        have H := (if_neg h41).symm.trans H
        refine jv_iconst 0 (pc := 57) d_MO_before_57 rfl ?_
        refine jv_iret (pc := 58) d_MO_before_58 rfl rfl (Nat.zero_le _) (Nat.zero_le _) ?_
        cases H
        exact jI.of ⟨rfl, rfl⟩
      · have h41 : ((σ 38 21) - (σ 38 21) / (2 : Int32) * (2 : Int32)) = 0 := h41
        have H := (if_pos h41).symm.trans H
        refine jv_aload_n 0 (pc := 44) d_MO_before_44 rfl ?_
        refine jv_getr (pc := 45) d_MO_before_45 fa_MO_16_MO (by decide) rfl rfl ?_
        refine jv_iconst 4 (pc := 48) d_MO_before_48 rfl ?_
        refine jv_iload_n 1 (pc := 49) d_MO_before_49 rfl ?_
        refine jv_iadd (pc := 50) d_MO_before_50 ?_
        obtain ⟨b51, H⟩ := jck_some H
        refine jv_iald (pc := 51) d_MO_before_51 (by decide) rfl b51 ?_
        refine jv_iconst 1 (pc := 52) d_MO_before_52 rfl ?_
        refine jv_isub (pc := 53) d_MO_before_53 ?_
        refine jv_goto 58 (pc := 54) d_MO_before_54 rfl ?_
        refine jv_iret (pc := 58) d_MO_before_58 rfl rfl (Nat.zero_le _) (Nat.zero_le _) ?_
        cases H
        exact jI.of ⟨rfl, rfl⟩
  · have h4 : (σ 38 22) = 0 := h4
    have H := (if_pos h4).symm.trans H
    refine jv_aload_n 0 (pc := 7) d_MO_before_7 rfl ?_
    refine jv_geti (pc := 8) d_MO_before_8 fa_MO_260_MO (by decide) rfl rfl ?_
    refine jv_iconst 1 (pc := 11) d_MO_before_11 rfl ?_
    refine jv_icmp_le 28 (pc := 12) d_MO_before_12 rfl (fun h12 => ?_) (fun h12 => ?_)
    · have h12 : (σ 38 21) ≤ (1 : Int32) := h12
      have H := (if_pos h12).symm.trans H
      refine jv_aload_n 0 (pc := 28) d_MO_before_28 rfl ?_
      refine jv_geti (pc := 29) d_MO_before_29 fa_MO_257_MO (by decide) rfl rfl ?_
      refine jv_if_eq 57 (pc := 32) d_MO_before_32 rfl (fun h32 => ?_) (fun h32 => ?_)
      · have h32 : (σ 38 22) = 0 := h32
        have H := (if_pos h32).symm.trans H
        refine jv_iconst 0 (pc := 57) d_MO_before_57 rfl ?_
        refine jv_iret (pc := 58) d_MO_before_58 rfl rfl (Nat.zero_le _) (Nat.zero_le _) ?_
        cases H
        exact jI.of ⟨rfl, rfl⟩
      · have h32 : ¬ ((σ 38 22) = 0) := h32
        have H := (if_neg h32).symm.trans H
        refine jv_aload_n 0 (pc := 35) d_MO_before_35 rfl ?_
        refine jv_geti (pc := 36) d_MO_before_36 fa_MO_260_MO (by decide) rfl rfl ?_
        refine jv_iconst 2 (pc := 39) d_MO_before_39 rfl ?_
        refine jv_irem (pc := 40) d_MO_before_40 (by decide) ?_
        refine jv_if_ne 57 (pc := 41) d_MO_before_41 rfl (fun h41 => ?_) (fun h41 => ?_)
        · have h41 : ¬ (((σ 38 21) - (σ 38 21) / (2 : Int32) * (2 : Int32)) = 0) := h41
          have H := (if_neg h41).symm.trans H
          refine jv_iconst 0 (pc := 57) d_MO_before_57 rfl ?_
          refine jv_iret (pc := 58) d_MO_before_58 rfl rfl (Nat.zero_le _) (Nat.zero_le _) ?_
          cases H
          exact jI.of ⟨rfl, rfl⟩
        · have h41 : ((σ 38 21) - (σ 38 21) / (2 : Int32) * (2 : Int32)) = 0 := h41
          have H := (if_pos h41).symm.trans H
          refine jv_aload_n 0 (pc := 44) d_MO_before_44 rfl ?_
          refine jv_getr (pc := 45) d_MO_before_45 fa_MO_16_MO (by decide) rfl rfl ?_
          refine jv_iconst 4 (pc := 48) d_MO_before_48 rfl ?_
          refine jv_iload_n 1 (pc := 49) d_MO_before_49 rfl ?_
          refine jv_iadd (pc := 50) d_MO_before_50 ?_
          obtain ⟨b51, H⟩ := jck_some H
          refine jv_iald (pc := 51) d_MO_before_51 (by decide) rfl b51 ?_
          refine jv_iconst 1 (pc := 52) d_MO_before_52 rfl ?_
          refine jv_isub (pc := 53) d_MO_before_53 ?_
          refine jv_goto 58 (pc := 54) d_MO_before_54 rfl ?_
          refine jv_iret (pc := 58) d_MO_before_58 rfl rfl (Nat.zero_le _) (Nat.zero_le _) ?_
          cases H
          exact jI.of ⟨rfl, rfl⟩
    · have h12 : ¬ ((σ 38 21) ≤ (1 : Int32)) := h12
      have H := (if_neg h12).symm.trans H
      refine jv_aload_n 0 (pc := 15) d_MO_before_15 rfl ?_
      refine jv_getr (pc := 16) d_MO_before_16 fa_MO_13_MO (by decide) rfl rfl ?_
      refine jv_iconst 4 (pc := 19) d_MO_before_19 rfl ?_
      refine jv_iload_n 1 (pc := 20) d_MO_before_20 rfl ?_
      refine jv_iadd (pc := 21) d_MO_before_21 ?_
      obtain ⟨b22, H⟩ := jck_some H
      refine jv_iald (pc := 22) d_MO_before_22 (by decide) rfl b22 ?_
      refine jv_iconst 1 (pc := 23) d_MO_before_23 rfl ?_
      refine jv_isub (pc := 24) d_MO_before_24 ?_
      refine jv_goto 58 (pc := 25) d_MO_before_25 rfl ?_
      refine jv_iret (pc := 58) d_MO_before_58 rfl rfl (Nat.zero_le _) (Nat.zero_le _) ?_
      cases H
      exact jI.of ⟨rfl, rfl⟩
set_option maxRecDepth 40000 in
set_option maxHeartbeats 8000000 in
theorem sp_MO_behind {G : jG} {σ τ : jMem} {r : Int32} (x1 : Int32) (H : f_MO_behind x1 σ = some (r, τ)) : jSp G M_MO_behind (jr 0 0 0) [.ref 38, .int x1] σ (jI fun r9 τ9 => r9 = r ∧ τ9 = τ) := by
  refine jSp.of rfl rfl (Nat.le_of_ble_eq_true rfl) ?_
  show jV _ _ _ _ 0 0 0 [(0, .ref 38), (1, .int x1)] [] σ
  unfold f_MO_behind at H
  refine jv_aload_n 0 (pc := 0) d_MO_behind_0 rfl ?_
  refine jv_geti (pc := 1) d_MO_behind_1 fa_MO_257_MO (by decide) rfl rfl ?_
  refine jv_if_ne 28 (pc := 4) d_MO_behind_4 rfl (fun h4 => ?_) (fun h4 => ?_)
  · have h4 : ¬ ((σ 38 22) = 0) := h4
    have H := (if_neg h4).symm.trans H
    refine jv_aload_n 0 (pc := 28) d_MO_behind_28 rfl ?_
    refine jv_geti (pc := 29) d_MO_behind_29 fa_MO_257_MO (by decide) rfl rfl ?_
    refine jv_if_eq 58 (pc := 32) d_MO_behind_32 rfl (fun h32 => ?_) (fun h32 => ?_)
    · have h32 : (σ 38 22) = 0 := h32
      have H := (if_pos h32).symm.trans H
      refine jv_iconst 0 (pc := 58) d_MO_behind_58 rfl ?_
      refine jv_iret (pc := 59) d_MO_behind_59 rfl rfl (Nat.zero_le _) (Nat.zero_le _) ?_
      cases H
      exact jI.of ⟨rfl, rfl⟩
    · have h32 : ¬ ((σ 38 22) = 0) := h32
      have H := (if_neg h32).symm.trans H
      refine jv_aload_n 0 (pc := 35) d_MO_behind_35 rfl ?_
      refine jv_geti (pc := 36) d_MO_behind_36 fa_MO_260_MO (by decide) rfl rfl ?_
      refine jv_iconst 2 (pc := 39) d_MO_behind_39 rfl ?_
      refine jv_irem (pc := 40) d_MO_behind_40 (by decide) ?_
      refine jv_iconst 1 (pc := 41) d_MO_behind_41 rfl ?_
      refine jv_icmp_ne 58 (pc := 42) d_MO_behind_42 rfl (fun h42 => ?_) (fun h42 => ?_)
      · have h42 : ¬ (((σ 38 21) - (σ 38 21) / (2 : Int32) * (2 : Int32)) = (1 : Int32)) := h42
        have H := (if_neg h42).symm.trans H
        refine jv_iconst 0 (pc := 58) d_MO_behind_58 rfl ?_
        refine jv_iret (pc := 59) d_MO_behind_59 rfl rfl (Nat.zero_le _) (Nat.zero_le _) ?_
        cases H
        exact jI.of ⟨rfl, rfl⟩
      · have h42 : ((σ 38 21) - (σ 38 21) / (2 : Int32) * (2 : Int32)) = (1 : Int32) := h42
        have H := (if_pos h42).symm.trans H
        refine jv_aload_n 0 (pc := 45) d_MO_behind_45 rfl ?_
        refine jv_getr (pc := 46) d_MO_behind_46 fa_MO_16_MO (by decide) rfl rfl ?_
        refine jv_iconst 4 (pc := 49) d_MO_behind_49 rfl ?_
        refine jv_iload_n 1 (pc := 50) d_MO_behind_50 rfl ?_
        refine jv_iadd (pc := 51) d_MO_behind_51 ?_
        obtain ⟨b52, H⟩ := jck_some H
        refine jv_iald (pc := 52) d_MO_behind_52 (by decide) rfl b52 ?_
        refine jv_iconst 1 (pc := 53) d_MO_behind_53 rfl ?_
        refine jv_isub (pc := 54) d_MO_behind_54 ?_
        refine jv_goto 59 (pc := 55) d_MO_behind_55 rfl ?_
        refine jv_iret (pc := 59) d_MO_behind_59 rfl rfl (Nat.zero_le _) (Nat.zero_le _) ?_
        cases H
        exact jI.of ⟨rfl, rfl⟩
  · have h4 : (σ 38 22) = 0 := h4
    have H := (if_pos h4).symm.trans H
    refine jv_aload_n 0 (pc := 7) d_MO_behind_7 rfl ?_
    refine jv_geti (pc := 8) d_MO_behind_8 fa_MO_260_MO (by decide) rfl rfl ?_
    refine jv_iconst 2 (pc := 11) d_MO_behind_11 rfl ?_
    refine jv_icmp_ge 28 (pc := 12) d_MO_behind_12 rfl (fun h12 => ?_) (fun h12 => ?_)
    · have h12 : (2 : Int32) ≤ (σ 38 21) := h12
      have H := (if_pos h12).symm.trans H
      refine jv_aload_n 0 (pc := 28) d_MO_behind_28 rfl ?_
      refine jv_geti (pc := 29) d_MO_behind_29 fa_MO_257_MO (by decide) rfl rfl ?_
      refine jv_if_eq 58 (pc := 32) d_MO_behind_32 rfl (fun h32 => ?_) (fun h32 => ?_)
      · have h32 : (σ 38 22) = 0 := h32
        have H := (if_pos h32).symm.trans H
        refine jv_iconst 0 (pc := 58) d_MO_behind_58 rfl ?_
        refine jv_iret (pc := 59) d_MO_behind_59 rfl rfl (Nat.zero_le _) (Nat.zero_le _) ?_
        cases H
        exact jI.of ⟨rfl, rfl⟩
      · have h32 : ¬ ((σ 38 22) = 0) := h32
        have H := (if_neg h32).symm.trans H
        refine jv_aload_n 0 (pc := 35) d_MO_behind_35 rfl ?_
        refine jv_geti (pc := 36) d_MO_behind_36 fa_MO_260_MO (by decide) rfl rfl ?_
        refine jv_iconst 2 (pc := 39) d_MO_behind_39 rfl ?_
        refine jv_irem (pc := 40) d_MO_behind_40 (by decide) ?_
        refine jv_iconst 1 (pc := 41) d_MO_behind_41 rfl ?_
        refine jv_icmp_ne 58 (pc := 42) d_MO_behind_42 rfl (fun h42 => ?_) (fun h42 => ?_)
        · have h42 : ¬ (((σ 38 21) - (σ 38 21) / (2 : Int32) * (2 : Int32)) = (1 : Int32)) := h42
          have H := (if_neg h42).symm.trans H
          refine jv_iconst 0 (pc := 58) d_MO_behind_58 rfl ?_
          refine jv_iret (pc := 59) d_MO_behind_59 rfl rfl (Nat.zero_le _) (Nat.zero_le _) ?_
          cases H
          exact jI.of ⟨rfl, rfl⟩
        · have h42 : ((σ 38 21) - (σ 38 21) / (2 : Int32) * (2 : Int32)) = (1 : Int32) := h42
          have H := (if_pos h42).symm.trans H
          refine jv_aload_n 0 (pc := 45) d_MO_behind_45 rfl ?_
          refine jv_getr (pc := 46) d_MO_behind_46 fa_MO_16_MO (by decide) rfl rfl ?_
          refine jv_iconst 4 (pc := 49) d_MO_behind_49 rfl ?_
          refine jv_iload_n 1 (pc := 50) d_MO_behind_50 rfl ?_
          refine jv_iadd (pc := 51) d_MO_behind_51 ?_
          obtain ⟨b52, H⟩ := jck_some H
          refine jv_iald (pc := 52) d_MO_behind_52 (by decide) rfl b52 ?_
          refine jv_iconst 1 (pc := 53) d_MO_behind_53 rfl ?_
          refine jv_isub (pc := 54) d_MO_behind_54 ?_
          refine jv_goto 59 (pc := 55) d_MO_behind_55 rfl ?_
          refine jv_iret (pc := 59) d_MO_behind_59 rfl rfl (Nat.zero_le _) (Nat.zero_le _) ?_
          cases H
          exact jI.of ⟨rfl, rfl⟩
    · have h12 : ¬ ((2 : Int32) ≤ (σ 38 21)) := h12
      have H := (if_neg h12).symm.trans H
      refine jv_aload_n 0 (pc := 15) d_MO_behind_15 rfl ?_
      refine jv_getr (pc := 16) d_MO_behind_16 fa_MO_13_MO (by decide) rfl rfl ?_
      refine jv_iconst 4 (pc := 19) d_MO_behind_19 rfl ?_
      refine jv_iload_n 1 (pc := 20) d_MO_behind_20 rfl ?_
      refine jv_iadd (pc := 21) d_MO_behind_21 ?_
      obtain ⟨b22, H⟩ := jck_some H
      refine jv_iald (pc := 22) d_MO_behind_22 (by decide) rfl b22 ?_
      refine jv_iconst 1 (pc := 23) d_MO_behind_23 rfl ?_
      refine jv_isub (pc := 24) d_MO_behind_24 ?_
      refine jv_goto 59 (pc := 25) d_MO_behind_25 rfl ?_
      refine jv_iret (pc := 59) d_MO_behind_59 rfl rfl (Nat.zero_le _) (Nat.zero_le _) ?_
      cases H
      exact jI.of ⟨rfl, rfl⟩
set_option maxRecDepth 40000 in
set_option maxHeartbeats 8000000 in
theorem lp_MO_writeText_20 {G : jG} : ∀ (n : Nat) (x1 x2 x3 x4 : Int32) (σ τ : jMem) (r : Unit), f_MO_writeText_L20 n x1 x2 x3 x4 σ = some (r, τ) → jV G M_MO_writeText (jr 8 0 0) (jU fun τ9 => τ9 = τ) 0 0 20 [(0, .ref 38), (1, .int x1), (2, .int x2), (3, .int x3), (4, .int x4)] [] σ := by
  intro n
  induction n with
  | zero =>
    intro x1 x2 x3 x4 σ τ r H
    cases H
  | succ n ih =>
    intro x1 x2 x3 x4 σ τ r H
    rw [f_MO_writeText_L20.eq_2] at H
    refine jv_iload 4 (pc := 20) d_MO_writeText_20 rfl ?_
    refine jv_aload_n 0 (pc := 22) d_MO_writeText_22 rfl ?_
    refine jv_geti (pc := 23) d_MO_writeText_23 fa_MO_235_MO (by decide) rfl rfl ?_
    refine jv_icmp_ge 206 (pc := 26) d_MO_writeText_26 rfl (fun h26 => ?_) (fun h26 => ?_)
    · have h26 : (σ 38 5) ≤ x4 := h26
      have H := (if_pos h26).symm.trans H
      refine jv_vret (pc := 206) d_MO_writeText_206 rfl (Nat.zero_le _) (Nat.zero_le _) ?_
      cases H
      exact jU.of rfl
    · have h26 : ¬ ((σ 38 5) ≤ x4) := h26
      have H := (if_neg h26).symm.trans H
      refine jv_aload_n 0 (pc := 29) d_MO_writeText_29 rfl ?_
      refine jv_getr (pc := 30) d_MO_writeText_30 fa_MO_22_MO (by decide) rfl rfl ?_
      refine jv_iload 4 (pc := 33) d_MO_writeText_33 rfl ?_
      obtain ⟨b35, H⟩ := jck_some H
      refine jv_iald (pc := 35) d_MO_writeText_35 (by decide) rfl b35 ?_
      refine jv_aload_n 0 (pc := 36) d_MO_writeText_36 rfl ?_
      refine jv_aload_n 0 (pc := 37) d_MO_writeText_37 rfl ?_
      refine jv_getr (pc := 38) d_MO_writeText_38 fa_MO_19_MO (by decide) rfl rfl ?_
      refine jv_iload 4 (pc := 41) d_MO_writeText_41 rfl ?_
      obtain ⟨b43, H⟩ := jck_some H
      refine jv_iald (pc := 43) d_MO_writeText_43 (by decide) rfl b43 ?_
      obtain ⟨v44, n44, c44, H⟩ := jbd_some H
      refine jv_callVi (sp_MO_before (σ 42 x4.toNatClampNeg) c44) (pc := 44) d_MO_writeText_44 c0_MO_before lk_MO_263 in_MO_before se_MO_before (by decide) rfl rfl rfl (Nat.le_of_ble_eq_true rfl) ⟨by decide, by decide, by decide, by decide⟩ (fun r44 m44 h44 => ?_)
      obtain ⟨ha44, hb44⟩ := h44
      have ha44 := ha44.symm
      subst ha44
      have hb44 := hb44.symm
      subst hb44
      refine jv_isub (pc := 47) d_MO_writeText_47 ?_
      refine jv_istore (pc := 48) d_MO_writeText_48 (by decide) (jsto_new rfl) ?_
      refine jv_iload 5 (pc := 50) d_MO_writeText_50 rfl ?_
      refine jv_if_eq 74 (pc := 52) d_MO_writeText_52 rfl (fun h52 => ?_) (fun h52 => ?_)
      · have h52 : x4 = 0 := h52
        have H := (if_pos h52).symm.trans H
        refine jv_aload_n 1 (pc := 74) d_MO_writeText_74 rfl ?_
        refine jv_bipush (6) (pc := 75) d_MO_writeText_75 rfl ?_
        refine jv_aload_n 1 (pc := 77) d_MO_writeText_77 rfl ?_
        refine jv_getr (pc := 78) d_MO_writeText_78 fa_MO_25_MO (by decide) rfl rfl ?_
        refine jv_iload 5 (pc := 81) d_MO_writeText_81 rfl ?_
        obtain ⟨b83, H⟩ := jck_some H
        refine jv_iald (pc := 83) d_MO_writeText_83 (by decide) rfl b83 ?_
        refine jv_iload_n 2 (pc := 84) d_MO_writeText_84 rfl ?_
        refine jv_isub (pc := 85) d_MO_writeText_85 ?_
        refine jv_iconst 0 (pc := 86) d_MO_writeText_86 rfl ?_
        obtain ⟨v87, n87, c87, H⟩ := jbd_some H
        refine jv_callVi (sp_MO_codeNumber (6 : Int32) ((n44 44 x4.toNatClampNeg) - x1) (0 : Int32) c87) (pc := 87) d_MO_writeText_87 c0_MO_codeNumber lk_MO_229 in_MO_codeNumber se_MO_codeNumber (by decide) rfl rfl rfl (Nat.le_of_ble_eq_true rfl) ⟨by decide, by decide, by decide, by decide⟩ (fun r87 m87 h87 => ?_)
        obtain ⟨ha87, hb87⟩ := h87
        have ha87 := ha87.symm
        subst ha87
        have hb87 := hb87.symm
        subst hb87
        refine jv_pop (pc := 90) d_MO_writeText_90 rfl ?_
        refine jv_aload_n 1 (pc := 91) d_MO_writeText_91 rfl ?_
        refine jv_getr (pc := 92) d_MO_writeText_92 fa_MO_25_MO (by decide) rfl rfl ?_
        refine jv_iload 5 (pc := 95) d_MO_writeText_95 rfl ?_
        obtain ⟨b97, H⟩ := jck_some H
        refine jv_iald (pc := 97) d_MO_writeText_97 (by decide) rfl b97 ?_
        refine jv_istore_n (pc := 98) d_MO_writeText_98 rfl (by decide) (jst2 rfl) ?_
        refine jv_aload_n 1 (pc := 99) d_MO_writeText_99 rfl ?_
        refine jv_bipush (7) (pc := 100) d_MO_writeText_100 rfl ?_
        refine jv_iload 0 (pc := 102) d_MO_writeText_102 rfl ?_
        refine jv_iload_n 3 (pc := 104) d_MO_writeText_104 rfl ?_
        refine jv_isub (pc := 105) d_MO_writeText_105 ?_
        refine jv_iconst 0 (pc := 106) d_MO_writeText_106 rfl ?_
        obtain ⟨v107, n107, c107, H⟩ := jbd_some H
        refine jv_callVi (sp_MO_codeNumber (7 : Int32) (((σ 43 x4.toNatClampNeg) - v44) - x2) (0 : Int32) c107) (pc := 107) d_MO_writeText_107 c0_MO_codeNumber lk_MO_229 in_MO_codeNumber se_MO_codeNumber (by decide) rfl rfl rfl (Nat.le_of_ble_eq_true rfl) ⟨by decide, by decide, by decide, by decide⟩ (fun r107 m107 h107 => ?_)
        obtain ⟨ha107, hb107⟩ := h107
        have ha107 := ha107.symm
        subst ha107
        have hb107 := hb107.symm
        subst hb107
        refine jv_pop (pc := 110) d_MO_writeText_110 rfl ?_
        refine jv_iload 0 (pc := 111) d_MO_writeText_111 rfl ?_
        refine jv_istore_n (pc := 113) d_MO_writeText_113 rfl (by decide) (jst3 rfl) ?_
        refine jv_goto 129 (pc := 114) d_MO_writeText_114 rfl ?_
        refine jv_aload_n 1 (pc := 129) d_MO_writeText_129 rfl ?_
        refine jv_aload_n 1 (pc := 130) d_MO_writeText_130 rfl ?_
        refine jv_getr (pc := 131) d_MO_writeText_131 fa_MO_19_MO (by decide) rfl rfl ?_
        refine jv_iload 5 (pc := 134) d_MO_writeText_134 rfl ?_
        obtain ⟨b136, H⟩ := jck_some H
        refine jv_iald (pc := 136) d_MO_writeText_136 (by decide) rfl b136 ?_
        obtain ⟨v137, n137, c137, H⟩ := jbd_some H
        refine jv_callVi (sp_MO_codeIndex (n107 42 x4.toNatClampNeg) c137) (pc := 137) d_MO_writeText_137 c0_MO_codeIndex lk_MO_266 in_MO_codeIndex se_MO_codeIndex (by decide) rfl rfl rfl (Nat.le_of_ble_eq_true rfl) ⟨by decide, by decide, by decide, by decide⟩ (fun r137 m137 h137 => ?_)
        obtain ⟨ha137, hb137⟩ := h137
        have ha137 := ha137.symm
        subst ha137
        have hb137 := hb137.symm
        subst hb137
        refine jv_pop (pc := 140) d_MO_writeText_140 rfl ?_
        refine jv_aload_n 1 (pc := 141) d_MO_writeText_141 rfl ?_
        refine jv_getr (pc := 142) d_MO_writeText_142 fa_MO_22_MO (by decide) rfl rfl ?_
        refine jv_iload 5 (pc := 145) d_MO_writeText_145 rfl ?_
        obtain ⟨b147, H⟩ := jck_some H
        refine jv_iald (pc := 147) d_MO_writeText_147 (by decide) rfl b147 ?_
        refine jv_aload_n 1 (pc := 148) d_MO_writeText_148 rfl ?_
        refine jv_aload_n 1 (pc := 149) d_MO_writeText_149 rfl ?_
        refine jv_getr (pc := 150) d_MO_writeText_150 fa_MO_19_MO (by decide) rfl rfl ?_
        refine jv_iload 5 (pc := 153) d_MO_writeText_153 rfl ?_
        obtain ⟨b155, H⟩ := jck_some H
        refine jv_iald (pc := 155) d_MO_writeText_155 (by decide) rfl b155 ?_
        obtain ⟨v156, n156, c156, H⟩ := jbd_some H
        refine jv_callVi (sp_MO_behind (n137 42 x4.toNatClampNeg) c156) (pc := 156) d_MO_writeText_156 c0_MO_behind lk_MO_269 in_MO_behind se_MO_behind (by decide) rfl rfl rfl (Nat.le_of_ble_eq_true rfl) ⟨by decide, by decide, by decide, by decide⟩ (fun r156 m156 h156 => ?_)
        obtain ⟨ha156, hb156⟩ := h156
        have ha156 := ha156.symm
        subst ha156
        have hb156 := hb156.symm
        subst hb156
        refine jv_iadd (pc := 159) d_MO_writeText_159 ?_
        refine jv_istore_n (pc := 160) d_MO_writeText_160 rfl (by decide) (jst4 rfl) ?_
        refine jv_iload 5 (pc := 161) d_MO_writeText_161 rfl ?_
        refine jv_aload_n 1 (pc := 163) d_MO_writeText_163 rfl ?_
        refine jv_geti (pc := 164) d_MO_writeText_164 fa_MO_235_MO (by decide) rfl rfl ?_
        refine jv_iconst 1 (pc := 167) d_MO_writeText_167 rfl ?_
        refine jv_isub (pc := 168) d_MO_writeText_168 ?_
        refine jv_icmp_eq 191 (pc := 169) d_MO_writeText_169 rfl (fun h169 => ?_) (fun h169 => ?_)
        · have h169 : x4 = ((n156 38 5) - (1 : Int32)) := h169
          have H := (if_pos h169).symm.trans H
          refine jv_aload_n 1 (pc := 191) d_MO_writeText_191 rfl ?_
          refine jv_bipush (8) (pc := 192) d_MO_writeText_192 rfl ?_
          refine jv_iconst 0 (pc := 194) d_MO_writeText_194 rfl ?_
          refine jv_iconst 1 (pc := 195) d_MO_writeText_195 rfl ?_
          obtain ⟨v196, n196, c196, H⟩ := jbd_some H
          refine jv_callVi (sp_MO_codeNumber (8 : Int32) (0 : Int32) (1 : Int32) c196) (pc := 196) d_MO_writeText_196 c0_MO_codeNumber lk_MO_229 in_MO_codeNumber se_MO_codeNumber (by decide) rfl rfl rfl (Nat.le_of_ble_eq_true rfl) ⟨by decide, by decide, by decide, by decide⟩ (fun r196 m196 h196 => ?_)
          obtain ⟨ha196, hb196⟩ := h196
          have ha196 := ha196.symm
          subst ha196
          have hb196 := hb196.symm
          subst hb196
          refine jv_pop (pc := 199) d_MO_writeText_199 rfl ?_
          refine jv_iinc 5 _ (pc := 200) d_MO_writeText_200 rfl (jinc1 _) (by decide) (jst5 rfl) ?_
          refine jv_goto 20 (pc := 203) d_MO_writeText_203 rfl ?_
          exact jv_sub [1, 2, 3, 4, 5] rfl (ih (n87 44 x4.toNatClampNeg) ((σ 43 x4.toNatClampNeg) - v44) ((n137 43 x4.toNatClampNeg) + v156) (x4 + 1) _ _ _ H)
        · have h169 : ¬ (x4 = ((n156 38 5) - (1 : Int32))) := h169
          have H := (if_neg h169).symm.trans H
          refine jv_aload_n 1 (pc := 172) d_MO_writeText_172 rfl ?_
          refine jv_getr (pc := 173) d_MO_writeText_173 fa_MO_25_MO (by decide) rfl rfl ?_
          refine jv_iload 5 (pc := 176) d_MO_writeText_176 rfl ?_
          refine jv_iconst 1 (pc := 178) d_MO_writeText_178 rfl ?_
          refine jv_iadd (pc := 179) d_MO_writeText_179 ?_
          obtain ⟨b180, H⟩ := jck_some H
          refine jv_iald (pc := 180) d_MO_writeText_180 (by decide) rfl b180 ?_
          refine jv_aload_n 1 (pc := 181) d_MO_writeText_181 rfl ?_
          refine jv_getr (pc := 182) d_MO_writeText_182 fa_MO_25_MO (by decide) rfl rfl ?_
          refine jv_iload 5 (pc := 185) d_MO_writeText_185 rfl ?_
          obtain ⟨b187, H⟩ := jck_some H
          refine jv_iald (pc := 187) d_MO_writeText_187 (by decide) rfl b187 ?_
          refine jv_icmp_eq 200 (pc := 188) d_MO_writeText_188 rfl (fun h188 => ?_) (fun h188 => ?_)
          · have h188 : (n156 44 ((x4 + (1 : Int32)).toNatClampNeg)) = (n156 44 x4.toNatClampNeg) := h188
            have H := (if_pos h188).symm.trans H
            refine jv_iinc 5 _ (pc := 200) d_MO_writeText_200 rfl (jinc1 _) (by decide) (jst5 rfl) ?_
            refine jv_goto 20 (pc := 203) d_MO_writeText_203 rfl ?_
            exact jv_sub [1, 2, 3, 4, 5] rfl (ih (n87 44 x4.toNatClampNeg) ((σ 43 x4.toNatClampNeg) - v44) ((n137 43 x4.toNatClampNeg) + v156) (x4 + 1) _ _ _ H)
          · have h188 : ¬ ((n156 44 ((x4 + (1 : Int32)).toNatClampNeg)) = (n156 44 x4.toNatClampNeg)) := h188
            have H := (if_neg h188).symm.trans H
            refine jv_aload_n 1 (pc := 191) d_MO_writeText_191 rfl ?_
            refine jv_bipush (8) (pc := 192) d_MO_writeText_192 rfl ?_
            refine jv_iconst 0 (pc := 194) d_MO_writeText_194 rfl ?_
            refine jv_iconst 1 (pc := 195) d_MO_writeText_195 rfl ?_
            obtain ⟨v196, n196, c196, H⟩ := jbd_some H
            refine jv_callVi (sp_MO_codeNumber (8 : Int32) (0 : Int32) (1 : Int32) c196) (pc := 196) d_MO_writeText_196 c0_MO_codeNumber lk_MO_229 in_MO_codeNumber se_MO_codeNumber (by decide) rfl rfl rfl (Nat.le_of_ble_eq_true rfl) ⟨by decide, by decide, by decide, by decide⟩ (fun r196 m196 h196 => ?_)
            obtain ⟨ha196, hb196⟩ := h196
            have ha196 := ha196.symm
            subst ha196
            have hb196 := hb196.symm
            subst hb196
            refine jv_pop (pc := 199) d_MO_writeText_199 rfl ?_
            refine jv_iinc 5 _ (pc := 200) d_MO_writeText_200 rfl (jinc1 _) (by decide) (jst5 rfl) ?_
            refine jv_goto 20 (pc := 203) d_MO_writeText_203 rfl ?_
            exact jv_sub [1, 2, 3, 4, 5] rfl (ih (n87 44 x4.toNatClampNeg) ((σ 43 x4.toNatClampNeg) - v44) ((n137 43 x4.toNatClampNeg) + v156) (x4 + 1) _ _ _ H)
      · have h52 : ¬ (x4 = 0) := h52
        have H := (if_neg h52).symm.trans H
        refine jv_aload_n 1 (pc := 55) d_MO_writeText_55 rfl ?_
        refine jv_getr (pc := 56) d_MO_writeText_56 fa_MO_25_MO (by decide) rfl rfl ?_
        refine jv_iload 5 (pc := 59) d_MO_writeText_59 rfl ?_
        obtain ⟨b61, H⟩ := jck_some H
        refine jv_iald (pc := 61) d_MO_writeText_61 (by decide) rfl b61 ?_
        refine jv_aload_n 1 (pc := 62) d_MO_writeText_62 rfl ?_
        refine jv_getr (pc := 63) d_MO_writeText_63 fa_MO_25_MO (by decide) rfl rfl ?_
        refine jv_iload 5 (pc := 66) d_MO_writeText_66 rfl ?_
        refine jv_iconst 1 (pc := 68) d_MO_writeText_68 rfl ?_
        refine jv_isub (pc := 69) d_MO_writeText_69 ?_
        obtain ⟨b70, H⟩ := jck_some H
        refine jv_iald (pc := 70) d_MO_writeText_70 (by decide) rfl b70 ?_
        refine jv_icmp_eq 117 (pc := 71) d_MO_writeText_71 rfl (fun h71 => ?_) (fun h71 => ?_)
        · have h71 : (n44 44 x4.toNatClampNeg) = (n44 44 ((x4 - (1 : Int32)).toNatClampNeg)) := h71
          have H := (if_pos h71).symm.trans H
          refine jv_aload_n 1 (pc := 117) d_MO_writeText_117 rfl ?_
          refine jv_bipush (8) (pc := 118) d_MO_writeText_118 rfl ?_
          refine jv_iload 0 (pc := 120) d_MO_writeText_120 rfl ?_
          refine jv_iload_n 4 (pc := 122) d_MO_writeText_122 rfl ?_
          refine jv_isub (pc := 123) d_MO_writeText_123 ?_
          refine jv_iconst 0 (pc := 124) d_MO_writeText_124 rfl ?_
          obtain ⟨v125, n125, c125, H⟩ := jbd_some H
          refine jv_callVi (sp_MO_codeNumber (8 : Int32) (((σ 43 x4.toNatClampNeg) - v44) - x3) (0 : Int32) c125) (pc := 125) d_MO_writeText_125 c0_MO_codeNumber lk_MO_229 in_MO_codeNumber se_MO_codeNumber (by decide) rfl rfl rfl (Nat.le_of_ble_eq_true rfl) ⟨by decide, by decide, by decide, by decide⟩ (fun r125 m125 h125 => ?_)
          obtain ⟨ha125, hb125⟩ := h125
          have ha125 := ha125.symm
          subst ha125
          have hb125 := hb125.symm
          subst hb125
          refine jv_pop (pc := 128) d_MO_writeText_128 rfl ?_
          refine jv_aload_n 1 (pc := 129) d_MO_writeText_129 rfl ?_
          refine jv_aload_n 1 (pc := 130) d_MO_writeText_130 rfl ?_
          refine jv_getr (pc := 131) d_MO_writeText_131 fa_MO_19_MO (by decide) rfl rfl ?_
          refine jv_iload 5 (pc := 134) d_MO_writeText_134 rfl ?_
          obtain ⟨b136, H⟩ := jck_some H
          refine jv_iald (pc := 136) d_MO_writeText_136 (by decide) rfl b136 ?_
          obtain ⟨v137, n137, c137, H⟩ := jbd_some H
          refine jv_callVi (sp_MO_codeIndex (n125 42 x4.toNatClampNeg) c137) (pc := 137) d_MO_writeText_137 c0_MO_codeIndex lk_MO_266 in_MO_codeIndex se_MO_codeIndex (by decide) rfl rfl rfl (Nat.le_of_ble_eq_true rfl) ⟨by decide, by decide, by decide, by decide⟩ (fun r137 m137 h137 => ?_)
          obtain ⟨ha137, hb137⟩ := h137
          have ha137 := ha137.symm
          subst ha137
          have hb137 := hb137.symm
          subst hb137
          refine jv_pop (pc := 140) d_MO_writeText_140 rfl ?_
          refine jv_aload_n 1 (pc := 141) d_MO_writeText_141 rfl ?_
          refine jv_getr (pc := 142) d_MO_writeText_142 fa_MO_22_MO (by decide) rfl rfl ?_
          refine jv_iload 5 (pc := 145) d_MO_writeText_145 rfl ?_
          obtain ⟨b147, H⟩ := jck_some H
          refine jv_iald (pc := 147) d_MO_writeText_147 (by decide) rfl b147 ?_
          refine jv_aload_n 1 (pc := 148) d_MO_writeText_148 rfl ?_
          refine jv_aload_n 1 (pc := 149) d_MO_writeText_149 rfl ?_
          refine jv_getr (pc := 150) d_MO_writeText_150 fa_MO_19_MO (by decide) rfl rfl ?_
          refine jv_iload 5 (pc := 153) d_MO_writeText_153 rfl ?_
          obtain ⟨b155, H⟩ := jck_some H
          refine jv_iald (pc := 155) d_MO_writeText_155 (by decide) rfl b155 ?_
          obtain ⟨v156, n156, c156, H⟩ := jbd_some H
          refine jv_callVi (sp_MO_behind (n137 42 x4.toNatClampNeg) c156) (pc := 156) d_MO_writeText_156 c0_MO_behind lk_MO_269 in_MO_behind se_MO_behind (by decide) rfl rfl rfl (Nat.le_of_ble_eq_true rfl) ⟨by decide, by decide, by decide, by decide⟩ (fun r156 m156 h156 => ?_)
          obtain ⟨ha156, hb156⟩ := h156
          have ha156 := ha156.symm
          subst ha156
          have hb156 := hb156.symm
          subst hb156
          refine jv_iadd (pc := 159) d_MO_writeText_159 ?_
          refine jv_istore_n (pc := 160) d_MO_writeText_160 rfl (by decide) (jst4 rfl) ?_
          refine jv_iload 5 (pc := 161) d_MO_writeText_161 rfl ?_
          refine jv_aload_n 1 (pc := 163) d_MO_writeText_163 rfl ?_
          refine jv_geti (pc := 164) d_MO_writeText_164 fa_MO_235_MO (by decide) rfl rfl ?_
          refine jv_iconst 1 (pc := 167) d_MO_writeText_167 rfl ?_
          refine jv_isub (pc := 168) d_MO_writeText_168 ?_
          refine jv_icmp_eq 191 (pc := 169) d_MO_writeText_169 rfl (fun h169 => ?_) (fun h169 => ?_)
          · have h169 : x4 = ((n156 38 5) - (1 : Int32)) := h169
            have H := (if_pos h169).symm.trans H
            refine jv_aload_n 1 (pc := 191) d_MO_writeText_191 rfl ?_
            refine jv_bipush (8) (pc := 192) d_MO_writeText_192 rfl ?_
            refine jv_iconst 0 (pc := 194) d_MO_writeText_194 rfl ?_
            refine jv_iconst 1 (pc := 195) d_MO_writeText_195 rfl ?_
            obtain ⟨v196, n196, c196, H⟩ := jbd_some H
            refine jv_callVi (sp_MO_codeNumber (8 : Int32) (0 : Int32) (1 : Int32) c196) (pc := 196) d_MO_writeText_196 c0_MO_codeNumber lk_MO_229 in_MO_codeNumber se_MO_codeNumber (by decide) rfl rfl rfl (Nat.le_of_ble_eq_true rfl) ⟨by decide, by decide, by decide, by decide⟩ (fun r196 m196 h196 => ?_)
            obtain ⟨ha196, hb196⟩ := h196
            have ha196 := ha196.symm
            subst ha196
            have hb196 := hb196.symm
            subst hb196
            refine jv_pop (pc := 199) d_MO_writeText_199 rfl ?_
            refine jv_iinc 5 _ (pc := 200) d_MO_writeText_200 rfl (jinc1 _) (by decide) (jst5 rfl) ?_
            refine jv_goto 20 (pc := 203) d_MO_writeText_203 rfl ?_
            exact jv_sub [1, 2, 3, 4, 5] rfl (ih x1 x2 ((n137 43 x4.toNatClampNeg) + v156) (x4 + 1) _ _ _ H)
          · have h169 : ¬ (x4 = ((n156 38 5) - (1 : Int32))) := h169
            have H := (if_neg h169).symm.trans H
            refine jv_aload_n 1 (pc := 172) d_MO_writeText_172 rfl ?_
            refine jv_getr (pc := 173) d_MO_writeText_173 fa_MO_25_MO (by decide) rfl rfl ?_
            refine jv_iload 5 (pc := 176) d_MO_writeText_176 rfl ?_
            refine jv_iconst 1 (pc := 178) d_MO_writeText_178 rfl ?_
            refine jv_iadd (pc := 179) d_MO_writeText_179 ?_
            obtain ⟨b180, H⟩ := jck_some H
            refine jv_iald (pc := 180) d_MO_writeText_180 (by decide) rfl b180 ?_
            refine jv_aload_n 1 (pc := 181) d_MO_writeText_181 rfl ?_
            refine jv_getr (pc := 182) d_MO_writeText_182 fa_MO_25_MO (by decide) rfl rfl ?_
            refine jv_iload 5 (pc := 185) d_MO_writeText_185 rfl ?_
            obtain ⟨b187, H⟩ := jck_some H
            refine jv_iald (pc := 187) d_MO_writeText_187 (by decide) rfl b187 ?_
            refine jv_icmp_eq 200 (pc := 188) d_MO_writeText_188 rfl (fun h188 => ?_) (fun h188 => ?_)
            · have h188 : (n156 44 ((x4 + (1 : Int32)).toNatClampNeg)) = (n156 44 x4.toNatClampNeg) := h188
              have H := (if_pos h188).symm.trans H
              refine jv_iinc 5 _ (pc := 200) d_MO_writeText_200 rfl (jinc1 _) (by decide) (jst5 rfl) ?_
              refine jv_goto 20 (pc := 203) d_MO_writeText_203 rfl ?_
              exact jv_sub [1, 2, 3, 4, 5] rfl (ih x1 x2 ((n137 43 x4.toNatClampNeg) + v156) (x4 + 1) _ _ _ H)
            · have h188 : ¬ ((n156 44 ((x4 + (1 : Int32)).toNatClampNeg)) = (n156 44 x4.toNatClampNeg)) := h188
              have H := (if_neg h188).symm.trans H
              refine jv_aload_n 1 (pc := 191) d_MO_writeText_191 rfl ?_
              refine jv_bipush (8) (pc := 192) d_MO_writeText_192 rfl ?_
              refine jv_iconst 0 (pc := 194) d_MO_writeText_194 rfl ?_
              refine jv_iconst 1 (pc := 195) d_MO_writeText_195 rfl ?_
              obtain ⟨v196, n196, c196, H⟩ := jbd_some H
              refine jv_callVi (sp_MO_codeNumber (8 : Int32) (0 : Int32) (1 : Int32) c196) (pc := 196) d_MO_writeText_196 c0_MO_codeNumber lk_MO_229 in_MO_codeNumber se_MO_codeNumber (by decide) rfl rfl rfl (Nat.le_of_ble_eq_true rfl) ⟨by decide, by decide, by decide, by decide⟩ (fun r196 m196 h196 => ?_)
              obtain ⟨ha196, hb196⟩ := h196
              have ha196 := ha196.symm
              subst ha196
              have hb196 := hb196.symm
              subst hb196
              refine jv_pop (pc := 199) d_MO_writeText_199 rfl ?_
              refine jv_iinc 5 _ (pc := 200) d_MO_writeText_200 rfl (jinc1 _) (by decide) (jst5 rfl) ?_
              refine jv_goto 20 (pc := 203) d_MO_writeText_203 rfl ?_
              exact jv_sub [1, 2, 3, 4, 5] rfl (ih x1 x2 ((n137 43 x4.toNatClampNeg) + v156) (x4 + 1) _ _ _ H)
        · have h71 : ¬ ((n44 44 x4.toNatClampNeg) = (n44 44 ((x4 - (1 : Int32)).toNatClampNeg))) := h71
          have H := (if_neg h71).symm.trans H
          refine jv_aload_n 1 (pc := 74) d_MO_writeText_74 rfl ?_
          refine jv_bipush (6) (pc := 75) d_MO_writeText_75 rfl ?_
          refine jv_aload_n 1 (pc := 77) d_MO_writeText_77 rfl ?_
          refine jv_getr (pc := 78) d_MO_writeText_78 fa_MO_25_MO (by decide) rfl rfl ?_
          refine jv_iload 5 (pc := 81) d_MO_writeText_81 rfl ?_
          obtain ⟨b83, H⟩ := jck_some H
          refine jv_iald (pc := 83) d_MO_writeText_83 (by decide) rfl b83 ?_
          refine jv_iload_n 2 (pc := 84) d_MO_writeText_84 rfl ?_
          refine jv_isub (pc := 85) d_MO_writeText_85 ?_
          refine jv_iconst 0 (pc := 86) d_MO_writeText_86 rfl ?_
          obtain ⟨v87, n87, c87, H⟩ := jbd_some H
          refine jv_callVi (sp_MO_codeNumber (6 : Int32) ((n44 44 x4.toNatClampNeg) - x1) (0 : Int32) c87) (pc := 87) d_MO_writeText_87 c0_MO_codeNumber lk_MO_229 in_MO_codeNumber se_MO_codeNumber (by decide) rfl rfl rfl (Nat.le_of_ble_eq_true rfl) ⟨by decide, by decide, by decide, by decide⟩ (fun r87 m87 h87 => ?_)
          obtain ⟨ha87, hb87⟩ := h87
          have ha87 := ha87.symm
          subst ha87
          have hb87 := hb87.symm
          subst hb87
          refine jv_pop (pc := 90) d_MO_writeText_90 rfl ?_
          refine jv_aload_n 1 (pc := 91) d_MO_writeText_91 rfl ?_
          refine jv_getr (pc := 92) d_MO_writeText_92 fa_MO_25_MO (by decide) rfl rfl ?_
          refine jv_iload 5 (pc := 95) d_MO_writeText_95 rfl ?_
          obtain ⟨b97, H⟩ := jck_some H
          refine jv_iald (pc := 97) d_MO_writeText_97 (by decide) rfl b97 ?_
          refine jv_istore_n (pc := 98) d_MO_writeText_98 rfl (by decide) (jst2 rfl) ?_
          refine jv_aload_n 1 (pc := 99) d_MO_writeText_99 rfl ?_
          refine jv_bipush (7) (pc := 100) d_MO_writeText_100 rfl ?_
          refine jv_iload 0 (pc := 102) d_MO_writeText_102 rfl ?_
          refine jv_iload_n 3 (pc := 104) d_MO_writeText_104 rfl ?_
          refine jv_isub (pc := 105) d_MO_writeText_105 ?_
          refine jv_iconst 0 (pc := 106) d_MO_writeText_106 rfl ?_
          obtain ⟨v107, n107, c107, H⟩ := jbd_some H
          refine jv_callVi (sp_MO_codeNumber (7 : Int32) (((σ 43 x4.toNatClampNeg) - v44) - x2) (0 : Int32) c107) (pc := 107) d_MO_writeText_107 c0_MO_codeNumber lk_MO_229 in_MO_codeNumber se_MO_codeNumber (by decide) rfl rfl rfl (Nat.le_of_ble_eq_true rfl) ⟨by decide, by decide, by decide, by decide⟩ (fun r107 m107 h107 => ?_)
          obtain ⟨ha107, hb107⟩ := h107
          have ha107 := ha107.symm
          subst ha107
          have hb107 := hb107.symm
          subst hb107
          refine jv_pop (pc := 110) d_MO_writeText_110 rfl ?_
          refine jv_iload 0 (pc := 111) d_MO_writeText_111 rfl ?_
          refine jv_istore_n (pc := 113) d_MO_writeText_113 rfl (by decide) (jst3 rfl) ?_
          refine jv_goto 129 (pc := 114) d_MO_writeText_114 rfl ?_
          refine jv_aload_n 1 (pc := 129) d_MO_writeText_129 rfl ?_
          refine jv_aload_n 1 (pc := 130) d_MO_writeText_130 rfl ?_
          refine jv_getr (pc := 131) d_MO_writeText_131 fa_MO_19_MO (by decide) rfl rfl ?_
          refine jv_iload 5 (pc := 134) d_MO_writeText_134 rfl ?_
          obtain ⟨b136, H⟩ := jck_some H
          refine jv_iald (pc := 136) d_MO_writeText_136 (by decide) rfl b136 ?_
          obtain ⟨v137, n137, c137, H⟩ := jbd_some H
          refine jv_callVi (sp_MO_codeIndex (n107 42 x4.toNatClampNeg) c137) (pc := 137) d_MO_writeText_137 c0_MO_codeIndex lk_MO_266 in_MO_codeIndex se_MO_codeIndex (by decide) rfl rfl rfl (Nat.le_of_ble_eq_true rfl) ⟨by decide, by decide, by decide, by decide⟩ (fun r137 m137 h137 => ?_)
          obtain ⟨ha137, hb137⟩ := h137
          have ha137 := ha137.symm
          subst ha137
          have hb137 := hb137.symm
          subst hb137
          refine jv_pop (pc := 140) d_MO_writeText_140 rfl ?_
          refine jv_aload_n 1 (pc := 141) d_MO_writeText_141 rfl ?_
          refine jv_getr (pc := 142) d_MO_writeText_142 fa_MO_22_MO (by decide) rfl rfl ?_
          refine jv_iload 5 (pc := 145) d_MO_writeText_145 rfl ?_
          obtain ⟨b147, H⟩ := jck_some H
          refine jv_iald (pc := 147) d_MO_writeText_147 (by decide) rfl b147 ?_
          refine jv_aload_n 1 (pc := 148) d_MO_writeText_148 rfl ?_
          refine jv_aload_n 1 (pc := 149) d_MO_writeText_149 rfl ?_
          refine jv_getr (pc := 150) d_MO_writeText_150 fa_MO_19_MO (by decide) rfl rfl ?_
          refine jv_iload 5 (pc := 153) d_MO_writeText_153 rfl ?_
          obtain ⟨b155, H⟩ := jck_some H
          refine jv_iald (pc := 155) d_MO_writeText_155 (by decide) rfl b155 ?_
          obtain ⟨v156, n156, c156, H⟩ := jbd_some H
          refine jv_callVi (sp_MO_behind (n137 42 x4.toNatClampNeg) c156) (pc := 156) d_MO_writeText_156 c0_MO_behind lk_MO_269 in_MO_behind se_MO_behind (by decide) rfl rfl rfl (Nat.le_of_ble_eq_true rfl) ⟨by decide, by decide, by decide, by decide⟩ (fun r156 m156 h156 => ?_)
          obtain ⟨ha156, hb156⟩ := h156
          have ha156 := ha156.symm
          subst ha156
          have hb156 := hb156.symm
          subst hb156
          refine jv_iadd (pc := 159) d_MO_writeText_159 ?_
          refine jv_istore_n (pc := 160) d_MO_writeText_160 rfl (by decide) (jst4 rfl) ?_
          refine jv_iload 5 (pc := 161) d_MO_writeText_161 rfl ?_
          refine jv_aload_n 1 (pc := 163) d_MO_writeText_163 rfl ?_
          refine jv_geti (pc := 164) d_MO_writeText_164 fa_MO_235_MO (by decide) rfl rfl ?_
          refine jv_iconst 1 (pc := 167) d_MO_writeText_167 rfl ?_
          refine jv_isub (pc := 168) d_MO_writeText_168 ?_
          refine jv_icmp_eq 191 (pc := 169) d_MO_writeText_169 rfl (fun h169 => ?_) (fun h169 => ?_)
          · have h169 : x4 = ((n156 38 5) - (1 : Int32)) := h169
            have H := (if_pos h169).symm.trans H
            refine jv_aload_n 1 (pc := 191) d_MO_writeText_191 rfl ?_
            refine jv_bipush (8) (pc := 192) d_MO_writeText_192 rfl ?_
            refine jv_iconst 0 (pc := 194) d_MO_writeText_194 rfl ?_
            refine jv_iconst 1 (pc := 195) d_MO_writeText_195 rfl ?_
            obtain ⟨v196, n196, c196, H⟩ := jbd_some H
            refine jv_callVi (sp_MO_codeNumber (8 : Int32) (0 : Int32) (1 : Int32) c196) (pc := 196) d_MO_writeText_196 c0_MO_codeNumber lk_MO_229 in_MO_codeNumber se_MO_codeNumber (by decide) rfl rfl rfl (Nat.le_of_ble_eq_true rfl) ⟨by decide, by decide, by decide, by decide⟩ (fun r196 m196 h196 => ?_)
            obtain ⟨ha196, hb196⟩ := h196
            have ha196 := ha196.symm
            subst ha196
            have hb196 := hb196.symm
            subst hb196
            refine jv_pop (pc := 199) d_MO_writeText_199 rfl ?_
            refine jv_iinc 5 _ (pc := 200) d_MO_writeText_200 rfl (jinc1 _) (by decide) (jst5 rfl) ?_
            refine jv_goto 20 (pc := 203) d_MO_writeText_203 rfl ?_
            exact jv_sub [1, 2, 3, 4, 5] rfl (ih (n87 44 x4.toNatClampNeg) ((σ 43 x4.toNatClampNeg) - v44) ((n137 43 x4.toNatClampNeg) + v156) (x4 + 1) _ _ _ H)
          · have h169 : ¬ (x4 = ((n156 38 5) - (1 : Int32))) := h169
            have H := (if_neg h169).symm.trans H
            refine jv_aload_n 1 (pc := 172) d_MO_writeText_172 rfl ?_
            refine jv_getr (pc := 173) d_MO_writeText_173 fa_MO_25_MO (by decide) rfl rfl ?_
            refine jv_iload 5 (pc := 176) d_MO_writeText_176 rfl ?_
            refine jv_iconst 1 (pc := 178) d_MO_writeText_178 rfl ?_
            refine jv_iadd (pc := 179) d_MO_writeText_179 ?_
            obtain ⟨b180, H⟩ := jck_some H
            refine jv_iald (pc := 180) d_MO_writeText_180 (by decide) rfl b180 ?_
            refine jv_aload_n 1 (pc := 181) d_MO_writeText_181 rfl ?_
            refine jv_getr (pc := 182) d_MO_writeText_182 fa_MO_25_MO (by decide) rfl rfl ?_
            refine jv_iload 5 (pc := 185) d_MO_writeText_185 rfl ?_
            obtain ⟨b187, H⟩ := jck_some H
            refine jv_iald (pc := 187) d_MO_writeText_187 (by decide) rfl b187 ?_
            refine jv_icmp_eq 200 (pc := 188) d_MO_writeText_188 rfl (fun h188 => ?_) (fun h188 => ?_)
            · have h188 : (n156 44 ((x4 + (1 : Int32)).toNatClampNeg)) = (n156 44 x4.toNatClampNeg) := h188
              have H := (if_pos h188).symm.trans H
              refine jv_iinc 5 _ (pc := 200) d_MO_writeText_200 rfl (jinc1 _) (by decide) (jst5 rfl) ?_
              refine jv_goto 20 (pc := 203) d_MO_writeText_203 rfl ?_
              exact jv_sub [1, 2, 3, 4, 5] rfl (ih (n87 44 x4.toNatClampNeg) ((σ 43 x4.toNatClampNeg) - v44) ((n137 43 x4.toNatClampNeg) + v156) (x4 + 1) _ _ _ H)
            · have h188 : ¬ ((n156 44 ((x4 + (1 : Int32)).toNatClampNeg)) = (n156 44 x4.toNatClampNeg)) := h188
              have H := (if_neg h188).symm.trans H
              refine jv_aload_n 1 (pc := 191) d_MO_writeText_191 rfl ?_
              refine jv_bipush (8) (pc := 192) d_MO_writeText_192 rfl ?_
              refine jv_iconst 0 (pc := 194) d_MO_writeText_194 rfl ?_
              refine jv_iconst 1 (pc := 195) d_MO_writeText_195 rfl ?_
              obtain ⟨v196, n196, c196, H⟩ := jbd_some H
              refine jv_callVi (sp_MO_codeNumber (8 : Int32) (0 : Int32) (1 : Int32) c196) (pc := 196) d_MO_writeText_196 c0_MO_codeNumber lk_MO_229 in_MO_codeNumber se_MO_codeNumber (by decide) rfl rfl rfl (Nat.le_of_ble_eq_true rfl) ⟨by decide, by decide, by decide, by decide⟩ (fun r196 m196 h196 => ?_)
              obtain ⟨ha196, hb196⟩ := h196
              have ha196 := ha196.symm
              subst ha196
              have hb196 := hb196.symm
              subst hb196
              refine jv_pop (pc := 199) d_MO_writeText_199 rfl ?_
              refine jv_iinc 5 _ (pc := 200) d_MO_writeText_200 rfl (jinc1 _) (by decide) (jst5 rfl) ?_
              refine jv_goto 20 (pc := 203) d_MO_writeText_203 rfl ?_
              exact jv_sub [1, 2, 3, 4, 5] rfl (ih (n87 44 x4.toNatClampNeg) ((σ 43 x4.toNatClampNeg) - v44) ((n137 43 x4.toNatClampNeg) + v156) (x4 + 1) _ _ _ H)
set_option maxRecDepth 40000 in
set_option maxHeartbeats 8000000 in
theorem sp_MO_writeText {G : jG} {σ τ : jMem} {r : Unit} (H : f_MO_writeText σ = some (r, τ)) : jSp G M_MO_writeText (jr 8 0 0) [.ref 38] σ (jU fun τ9 => τ9 = τ) := by
  refine jSp.of rfl rfl (Nat.le_of_ble_eq_true rfl) ?_
  show jV _ _ _ _ 0 0 0 [(0, .ref 38)] [] σ
  unfold f_MO_writeText at H
  refine jv_aload_n 0 (pc := 0) d_MO_writeText_0 rfl ?_
  refine jv_iconst 3 (pc := 1) d_MO_writeText_1 rfl ?_
  refine jv_aload_n 0 (pc := 2) d_MO_writeText_2 rfl ?_
  refine jv_geti (pc := 3) d_MO_writeText_3 fa_MO_235_MO (by decide) rfl rfl ?_
  refine jv_iconst 0 (pc := 6) d_MO_writeText_6 rfl ?_
  obtain ⟨v7, n7, c7, H⟩ := jbd_some H
  refine jv_callVi (sp_MO_codeNumber (3 : Int32) (σ 38 5) (0 : Int32) c7) (pc := 7) d_MO_writeText_7 c0_MO_codeNumber lk_MO_229 in_MO_codeNumber se_MO_codeNumber (by decide) rfl rfl rfl (Nat.le_of_ble_eq_true rfl) ⟨by decide, by decide, by decide, by decide⟩ (fun r7 m7 h7 => ?_)
  obtain ⟨ha7, hb7⟩ := h7
  have ha7 := ha7.symm
  subst ha7
  have hb7 := hb7.symm
  subst hb7
  refine jv_pop (pc := 10) d_MO_writeText_10 rfl ?_
  refine jv_iconst 0 (pc := 11) d_MO_writeText_11 rfl ?_
  refine jv_istore_n (pc := 12) d_MO_writeText_12 rfl (by decide) (jsto_new rfl) ?_
  refine jv_iconst 0 (pc := 13) d_MO_writeText_13 rfl ?_
  refine jv_istore_n (pc := 14) d_MO_writeText_14 rfl (by decide) (jsto_new rfl) ?_
  refine jv_iconst 0 (pc := 15) d_MO_writeText_15 rfl ?_
  refine jv_istore_n (pc := 16) d_MO_writeText_16 rfl (by decide) (jsto_new rfl) ?_
  refine jv_iconst 0 (pc := 17) d_MO_writeText_17 rfl ?_
  refine jv_istore (pc := 18) d_MO_writeText_18 (by decide) (jsto_new rfl) ?_
  exact jv_sub [4, 3, 2, 1, 0] rfl (lp_MO_writeText_20  _ (0 : Int32) (0 : Int32) (0 : Int32) (0 : Int32) _ _ _ H)
set_option maxRecDepth 40000 in
set_option maxHeartbeats 8000000 in
theorem lp_MO_readRow_6 {G : jG} : ∀ (n : Nat) (x1 x2 x3 x4 x5 : Int32) (σ τ : jMem) (r : Int32), f_MO_readRow_L6 n x1 x2 x3 x4 x5 σ = some (r, τ) → jV G M_MO_readRow (jr 8 0 0) (jI fun r9 τ9 => r9 = r ∧ τ9 = τ) 0 0 6 [(0, .ref 38), (1, .int x1), (2, .int x2), (3, .int x3), (4, .int x4), (5, .int x5)] [] σ := by
  intro n
  induction n with
  | zero =>
    intro x1 x2 x3 x4 x5 σ τ r H
    cases H
  | succ n ih =>
    intro x1 x2 x3 x4 x5 σ τ r H
    rw [f_MO_readRow_L6.eq_2] at H
    refine jv_iload 5 (pc := 6) d_MO_readRow_6 rfl ?_
    refine jv_if_eq 131 (pc := 8) d_MO_readRow_8 rfl (fun h8 => ?_) (fun h8 => ?_)
    · have h8 : x5 = 0 := h8
      have H := (if_pos h8).symm.trans H
      refine jv_iconst 1 (pc := 131) d_MO_readRow_131 rfl ?_
      refine jv_iret (pc := 132) d_MO_readRow_132 rfl rfl (Nat.zero_le _) (Nat.zero_le _) ?_
      cases H
      exact jI.of ⟨rfl, rfl⟩
    · have h8 : ¬ (x5 = 0) := h8
      have H := (if_neg h8).symm.trans H
      refine jv_aload_n 0 (pc := 11) d_MO_readRow_11 rfl ?_
      refine jv_iconst 0 (pc := 12) d_MO_readRow_12 rfl ?_
      obtain ⟨v13, n13, c13, H⟩ := jbd_some H
      refine jv_callVi (sp_MO_codeIndex (0 : Int32) c13) (pc := 13) d_MO_readRow_13 c0_MO_codeIndex lk_MO_266 in_MO_codeIndex se_MO_codeIndex (by decide) rfl rfl rfl (Nat.le_of_ble_eq_true rfl) ⟨by decide, by decide, by decide, by decide⟩ (fun r13 m13 h13 => ?_)
      obtain ⟨ha13, hb13⟩ := h13
      have ha13 := ha13.symm
      subst ha13
      have hb13 := hb13.symm
      subst hb13
      refine jv_istore (pc := 16) d_MO_readRow_16 (by decide) (jsto_new rfl) ?_
      refine jv_aload_n 1 (pc := 18) d_MO_readRow_18 rfl ?_
      refine jv_geti (pc := 19) d_MO_readRow_19 fa_MO_235_MO (by decide) rfl rfl ?_
      refine jv_iload_n 2 (pc := 22) d_MO_readRow_22 rfl ?_
      refine jv_icmp_eq 35 (pc := 23) d_MO_readRow_23 rfl (fun h23 => ?_) (fun h23 => ?_)
      · have h23 : (n13 38 5) = x1 := h23
        have H := (if_pos h23).symm.trans H
        refine jv_iconst 0 (pc := 35) d_MO_readRow_35 rfl ?_
        refine jv_iret (pc := 36) d_MO_readRow_36 rfl rfl (Nat.zero_le _) (Nat.zero_le _) ?_
        cases H
        exact jI.of ⟨rfl, rfl⟩
      · have h23 : ¬ ((n13 38 5) = x1) := h23
        have H := (if_neg h23).symm.trans H
        refine jv_iload 0 (pc := 26) d_MO_readRow_26 rfl ?_
        refine jv_aload_n 1 (pc := 28) d_MO_readRow_28 rfl ?_
        refine jv_geti (pc := 29) d_MO_readRow_29 fa_MO_232_MO (by decide) rfl rfl ?_
        refine jv_icmp_lt 37 (pc := 32) d_MO_readRow_32 rfl (fun h32 => ?_) (fun h32 => ?_)
        · have h32 : v13 < (n13 38 4) := h32
          have H := (if_pos h32).symm.trans H
          refine jv_iload 5 (pc := 37) d_MO_readRow_37 rfl ?_
          refine jv_aload_n 1 (pc := 39) d_MO_readRow_39 rfl ?_
          refine jv_iload 0 (pc := 40) d_MO_readRow_40 rfl ?_
          obtain ⟨v42, n42, c42, H⟩ := jbd_some H
          refine jv_callVi (sp_MO_before v13 c42) (pc := 42) d_MO_readRow_42 c0_MO_before lk_MO_263 in_MO_before se_MO_before (by decide) rfl rfl rfl (Nat.le_of_ble_eq_true rfl) ⟨by decide, by decide, by decide, by decide⟩ (fun r42 m42 h42 => ?_)
          obtain ⟨ha42, hb42⟩ := h42
          have ha42 := ha42.symm
          subst ha42
          have hb42 := hb42.symm
          subst hb42
          refine jv_iadd (pc := 45) d_MO_readRow_45 ?_
          refine jv_istore (pc := 46) d_MO_readRow_46 (by decide) (jst5 rfl) ?_
          refine jv_iload 5 (pc := 48) d_MO_readRow_48 rfl ?_
          refine jv_sipush (-1000) (pc := 50) d_MO_readRow_50 rfl ?_
          refine jv_icmp_lt 64 (pc := 53) d_MO_readRow_53 rfl (fun h53 => ?_) (fun h53 => ?_)
          · have h53 : (x4 + v42) < (-1000 : Int32) := h53
            have H := (if_pos h53).symm.trans H
            refine jv_iconst 0 (pc := 64) d_MO_readRow_64 rfl ?_
            refine jv_iret (pc := 65) d_MO_readRow_65 rfl rfl (Nat.zero_le _) (Nat.zero_le _) ?_
            cases H
            exact jI.of ⟨rfl, rfl⟩
          · have h53 : ¬ ((x4 + v42) < (-1000 : Int32)) := h53
            have H := (if_neg h53).symm.trans H
            refine jv_iload 5 (pc := 56) d_MO_readRow_56 rfl ?_
            refine jv_sipush (1000) (pc := 58) d_MO_readRow_58 rfl ?_
            refine jv_icmp_le 66 (pc := 61) d_MO_readRow_61 rfl (fun h61 => ?_) (fun h61 => ?_)
            · have h61 : (x4 + v42) ≤ (1000 : Int32) := h61
              have H := (if_pos h61).symm.trans H
              refine jv_aload_n 1 (pc := 66) d_MO_readRow_66 rfl ?_
              refine jv_iload 0 (pc := 67) d_MO_readRow_67 rfl ?_
              refine jv_iload 5 (pc := 69) d_MO_readRow_69 rfl ?_
              refine jv_iload_n 4 (pc := 71) d_MO_readRow_71 rfl ?_
              obtain ⟨_, n72, c72, H⟩ := jbd_some H
              refine jv_callVv (sp_MO_keepMark v13 (x4 + v42) x3 c72) (pc := 72) d_MO_readRow_72 c0_MO_keepMark lk_MO_241 in_MO_keepMark se_MO_keepMark (by decide) rfl rfl rfl (Nat.le_of_ble_eq_true rfl) ⟨by decide, by decide, by decide, by decide⟩ (fun m72 h72 => ?_)
              have hb72 := h72
              have hb72 := hb72.symm
              subst hb72
              refine jv_iload 5 (pc := 75) d_MO_readRow_75 rfl ?_
              refine jv_aload_n 1 (pc := 77) d_MO_readRow_77 rfl ?_
              refine jv_iload 0 (pc := 78) d_MO_readRow_78 rfl ?_
              obtain ⟨v80, n80, c80, H⟩ := jbd_some H
              refine jv_callVi (sp_MO_behind v13 c80) (pc := 80) d_MO_readRow_80 c0_MO_behind lk_MO_269 in_MO_behind se_MO_behind (by decide) rfl rfl rfl (Nat.le_of_ble_eq_true rfl) ⟨by decide, by decide, by decide, by decide⟩ (fun r80 m80 h80 => ?_)
              obtain ⟨ha80, hb80⟩ := h80
              have ha80 := ha80.symm
              subst ha80
              have hb80 := hb80.symm
              subst hb80
              refine jv_iadd (pc := 83) d_MO_readRow_83 ?_
              refine jv_istore (pc := 84) d_MO_readRow_84 (by decide) (jst5 rfl) ?_
              refine jv_iload 5 (pc := 86) d_MO_readRow_86 rfl ?_
              refine jv_aload_n 1 (pc := 88) d_MO_readRow_88 rfl ?_
              refine jv_bipush (8) (pc := 89) d_MO_readRow_89 rfl ?_
              refine jv_iconst 0 (pc := 91) d_MO_readRow_91 rfl ?_
              refine jv_iconst 0 (pc := 92) d_MO_readRow_92 rfl ?_
              obtain ⟨v93, n93, c93, H⟩ := jbd_some H
              refine jv_callVi (sp_MO_codeNumber (8 : Int32) (0 : Int32) (0 : Int32) c93) (pc := 93) d_MO_readRow_93 c0_MO_codeNumber lk_MO_229 in_MO_codeNumber se_MO_codeNumber (by decide) rfl rfl rfl (Nat.le_of_ble_eq_true rfl) ⟨by decide, by decide, by decide, by decide⟩ (fun r93 m93 h93 => ?_)
              obtain ⟨ha93, hb93⟩ := h93
              have ha93 := ha93.symm
              subst ha93
              have hb93 := hb93.symm
              subst hb93
              refine jv_iadd (pc := 96) d_MO_readRow_96 ?_
              refine jv_istore (pc := 97) d_MO_readRow_97 (by decide) (jst5 rfl) ?_
              refine jv_aload_n 1 (pc := 99) d_MO_readRow_99 rfl ?_
              refine jv_geti (pc := 100) d_MO_readRow_100 fa_MO_223_MO (by decide) rfl rfl ?_
              refine jv_if_ne 110 (pc := 103) d_MO_readRow_103 rfl (fun h103 => ?_) (fun h103 => ?_)
              · have h103 : ¬ ((n93 38 20) = 0) := h103
                have H := (if_neg h103).symm.trans H
                refine jv_iconst 0 (pc := 110) d_MO_readRow_110 rfl ?_
                refine jv_istore (pc := 111) d_MO_readRow_111 (by decide) (jst6 rfl) ?_
                refine jv_iload 6 (pc := 113) d_MO_readRow_113 rfl ?_
                refine jv_if_eq 128 (pc := 115) d_MO_readRow_115 rfl (fun h115 => ?_) (fun h115 => absurd (show (0 : Int32) = 0 by decide) (show ¬ ((0 : Int32) = 0) from h115))
                refine jv_goto 6 (pc := 128) d_MO_readRow_128 rfl ?_
                exact jv_sub [1, 2, 3, 4, 5, 6] rfl (ih x1 x2 x3 (((x4 + v42) + v80) + v93) (0 : Int32) _ _ _ H)
              · have h103 : (n93 38 20) = 0 := h103
                have H := (if_pos h103).symm.trans H
                refine jv_iconst 1 (pc := 106) d_MO_readRow_106 rfl ?_
                refine jv_goto 111 (pc := 107) d_MO_readRow_107 rfl ?_
                refine jv_istore (pc := 111) d_MO_readRow_111 (by decide) (jst6 rfl) ?_
                refine jv_iload 6 (pc := 113) d_MO_readRow_113 rfl ?_
                refine jv_if_eq 128 (pc := 115) d_MO_readRow_115 rfl (fun h115 => absurd (show (1 : Int32) = 0 from h115) (by decide)) (fun h115 => ?_)
                refine jv_aload_n 1 (pc := 118) d_MO_readRow_118 rfl ?_
                refine jv_geti (pc := 119) d_MO_readRow_119 fa_MO_235_MO (by decide) rfl rfl ?_
                refine jv_iload_n 2 (pc := 122) d_MO_readRow_122 rfl ?_
                refine jv_icmp_ne 128 (pc := 123) d_MO_readRow_123 rfl (fun h123 => ?_) (fun h123 => ?_)
                · have h123 : ¬ ((n93 38 5) = x1) := h123
                  have H := (if_neg h123).symm.trans H
                  refine jv_goto 6 (pc := 128) d_MO_readRow_128 rfl ?_
                  exact jv_sub [1, 2, 3, 4, 5, 6] rfl (ih x1 x2 x3 (((x4 + v42) + v80) + v93) (1 : Int32) _ _ _ H)
                · have h123 : (n93 38 5) = x1 := h123
                  have H := (if_pos h123).symm.trans H
                  refine jv_iconst 0 (pc := 126) d_MO_readRow_126 rfl ?_
                  refine jv_iret (pc := 127) d_MO_readRow_127 rfl rfl (Nat.zero_le _) (Nat.zero_le _) ?_
                  cases H
                  exact jI.of ⟨rfl, rfl⟩
            · have h61 : ¬ ((x4 + v42) ≤ (1000 : Int32)) := h61
              have H := (if_neg h61).symm.trans H
              refine jv_iconst 0 (pc := 64) d_MO_readRow_64 rfl ?_
              refine jv_iret (pc := 65) d_MO_readRow_65 rfl rfl (Nat.zero_le _) (Nat.zero_le _) ?_
              cases H
              exact jI.of ⟨rfl, rfl⟩
        · have h32 : ¬ (v13 < (n13 38 4)) := h32
          have H := (if_neg h32).symm.trans H
          refine jv_iconst 0 (pc := 35) d_MO_readRow_35 rfl ?_
          refine jv_iret (pc := 36) d_MO_readRow_36 rfl rfl (Nat.zero_le _) (Nat.zero_le _) ?_
          cases H
          exact jI.of ⟨rfl, rfl⟩
set_option maxRecDepth 40000 in
set_option maxHeartbeats 8000000 in
theorem sp_MO_readRow {G : jG} {σ τ : jMem} {r : Int32} (x1 x2 x3 : Int32) (H : f_MO_readRow x1 x2 x3 σ = some (r, τ)) : jSp G M_MO_readRow (jr 8 0 0) [.ref 38, .int x1, .int x2, .int x3] σ (jI fun r9 τ9 => r9 = r ∧ τ9 = τ) := by
  refine jSp.of rfl rfl (Nat.le_of_ble_eq_true rfl) ?_
  show jV _ _ _ _ 0 0 0 [(0, .ref 38), (1, .int x1), (2, .int x2), (3, .int x3)] [] σ
  unfold f_MO_readRow at H
  refine jv_iload_n 2 (pc := 0) d_MO_readRow_0 rfl ?_
  refine jv_istore (pc := 1) d_MO_readRow_1 (by decide) (jsto_new rfl) ?_
  refine jv_iconst 1 (pc := 3) d_MO_readRow_3 rfl ?_
  refine jv_istore (pc := 4) d_MO_readRow_4 (by decide) (jsto_new rfl) ?_
  exact jv_sub [2, 3, 4, 5, 1, 0] rfl (lp_MO_readRow_6  _ x1 x2 x3 x2 (1 : Int32) _ _ _ H)
set_option maxRecDepth 40000 in
set_option maxHeartbeats 8000000 in
theorem lp_MO_readText_36 {G : jG} : ∀ (n : Nat) (x1 x2 x3 : Int32) (σ τ : jMem) (r : Int32), f_MO_readText_L36 n x1 x2 x3 σ = some (r, τ) → jV G M_MO_readText (jr 9 0 0) (jI fun r9 τ9 => r9 = r ∧ τ9 = τ) 0 0 36 [(0, .ref 38), (1, .int x1), (2, .int x2), (3, .int x3)] [] σ := by
  intro n
  induction n with
  | zero =>
    intro x1 x2 x3 σ τ r H
    cases H
  | succ n ih =>
    intro x1 x2 x3 σ τ r H
    rw [f_MO_readText_L36.eq_2] at H
    refine jv_aload_n 0 (pc := 36) d_MO_readText_36 rfl ?_
    refine jv_geti (pc := 37) d_MO_readText_37 fa_MO_235_MO (by decide) rfl rfl ?_
    refine jv_iload_n 1 (pc := 40) d_MO_readText_40 rfl ?_
    refine jv_icmp_ge 101 (pc := 41) d_MO_readText_41 rfl (fun h41 => ?_) (fun h41 => ?_)
    · have h41 : x1 ≤ (σ 38 5) := h41
      have H := (if_pos h41).symm.trans H
      refine jv_iconst 1 (pc := 101) d_MO_readText_101 rfl ?_
      refine jv_iret (pc := 102) d_MO_readText_102 rfl rfl (Nat.zero_le _) (Nat.zero_le _) ?_
      cases H
      exact jI.of ⟨rfl, rfl⟩
    · have h41 : ¬ (x1 ≤ (σ 38 5)) := h41
      have H := (if_neg h41).symm.trans H
      refine jv_iload_n 2 (pc := 44) d_MO_readText_44 rfl ?_
      refine jv_aload_n 0 (pc := 45) d_MO_readText_45 rfl ?_
      refine jv_bipush (6) (pc := 46) d_MO_readText_46 rfl ?_
      refine jv_iconst 0 (pc := 48) d_MO_readText_48 rfl ?_
      refine jv_iconst 0 (pc := 49) d_MO_readText_49 rfl ?_
      obtain ⟨v50, n50, c50, H⟩ := jbd_some H
      refine jv_callVi (sp_MO_codeNumber (6 : Int32) (0 : Int32) (0 : Int32) c50) (pc := 50) d_MO_readText_50 c0_MO_codeNumber lk_MO_229 in_MO_codeNumber se_MO_codeNumber (by decide) rfl rfl rfl (Nat.le_of_ble_eq_true rfl) ⟨by decide, by decide, by decide, by decide⟩ (fun r50 m50 h50 => ?_)
      obtain ⟨ha50, hb50⟩ := h50
      have ha50 := ha50.symm
      subst ha50
      have hb50 := hb50.symm
      subst hb50
      refine jv_iadd (pc := 53) d_MO_readText_53 ?_
      refine jv_istore_n (pc := 54) d_MO_readText_54 rfl (by decide) (jst2 rfl) ?_
      refine jv_aload_n 0 (pc := 55) d_MO_readText_55 rfl ?_
      refine jv_geti (pc := 56) d_MO_readText_56 fa_MO_223_MO (by decide) rfl rfl ?_
      refine jv_if_ne 69 (pc := 59) d_MO_readText_59 rfl (fun h59 => ?_) (fun h59 => ?_)
      · have h59 : ¬ ((n50 38 20) = 0) := h59
        have H := (if_neg h59).symm.trans H
        refine jv_iconst 0 (pc := 69) d_MO_readText_69 rfl ?_
        refine jv_iret (pc := 70) d_MO_readText_70 rfl rfl (Nat.zero_le _) (Nat.zero_le _) ?_
        cases H
        exact jI.of ⟨rfl, rfl⟩
      · have h59 : (n50 38 20) = 0 := h59
        have H := (if_pos h59).symm.trans H
        refine jv_iload_n 2 (pc := 62) d_MO_readText_62 rfl ?_
        refine jv_callSi (sp_MO_isFar (x2 + v50)) (pc := 63) d_MO_readText_63 c0_MO_isFar lk_MO_61 si_MO_isFar rfl (Nat.le_of_ble_eq_true rfl) ⟨by decide, by decide, by decide, by decide⟩ (fun r63 m63 h63 => ?_)
        obtain ⟨ha63, hb63⟩ := h63
        subst ha63
        have hb63 := hb63.symm
        subst hb63
        refine jv_if_eq 71 (pc := 66) d_MO_readText_66 rfl (fun h66 => ?_) (fun h66 => ?_)
        · have h66 : (f_MO_isFar (x2 + v50) n50) = 0 := h66
          have H := (if_pos h66).symm.trans H
          refine jv_iload_n 3 (pc := 71) d_MO_readText_71 rfl ?_
          refine jv_aload_n 0 (pc := 72) d_MO_readText_72 rfl ?_
          refine jv_bipush (7) (pc := 73) d_MO_readText_73 rfl ?_
          refine jv_iconst 0 (pc := 75) d_MO_readText_75 rfl ?_
          refine jv_iconst 0 (pc := 76) d_MO_readText_76 rfl ?_
          obtain ⟨v77, n77, c77, H⟩ := jbd_some H
          refine jv_callVi (sp_MO_codeNumber (7 : Int32) (0 : Int32) (0 : Int32) c77) (pc := 77) d_MO_readText_77 c0_MO_codeNumber lk_MO_229 in_MO_codeNumber se_MO_codeNumber (by decide) rfl rfl rfl (Nat.le_of_ble_eq_true rfl) ⟨by decide, by decide, by decide, by decide⟩ (fun r77 m77 h77 => ?_)
          obtain ⟨ha77, hb77⟩ := h77
          have ha77 := ha77.symm
          subst ha77
          have hb77 := hb77.symm
          subst hb77
          refine jv_iadd (pc := 80) d_MO_readText_80 ?_
          refine jv_istore_n (pc := 81) d_MO_readText_81 rfl (by decide) (jst3 rfl) ?_
          refine jv_aload_n 0 (pc := 82) d_MO_readText_82 rfl ?_
          refine jv_geti (pc := 83) d_MO_readText_83 fa_MO_223_MO (by decide) rfl rfl ?_
          refine jv_if_ne 99 (pc := 86) d_MO_readText_86 rfl (fun h86 => ?_) (fun h86 => ?_)
          · have h86 : ¬ ((n77 38 20) = 0) := h86
            have H := (if_neg h86).symm.trans H
            refine jv_iconst 0 (pc := 99) d_MO_readText_99 rfl ?_
            refine jv_iret (pc := 100) d_MO_readText_100 rfl rfl (Nat.zero_le _) (Nat.zero_le _) ?_
            cases H
            exact jI.of ⟨rfl, rfl⟩
          · have h86 : (n77 38 20) = 0 := h86
            have H := (if_pos h86).symm.trans H
            refine jv_aload_n 0 (pc := 89) d_MO_readText_89 rfl ?_
            refine jv_iload_n 1 (pc := 90) d_MO_readText_90 rfl ?_
            refine jv_iload_n 3 (pc := 91) d_MO_readText_91 rfl ?_
            refine jv_iload_n 2 (pc := 92) d_MO_readText_92 rfl ?_
            obtain ⟨v93, n93, c93, H⟩ := jbd_some H
            refine jv_callVi (sp_MO_readRow x1 (x3 + v77) (x2 + v50) c93) (pc := 93) d_MO_readText_93 c0_MO_readRow lk_MO_272 in_MO_readRow se_MO_readRow (by decide) rfl rfl rfl (Nat.le_of_ble_eq_true rfl) ⟨by decide, by decide, by decide, by decide⟩ (fun r93 m93 h93 => ?_)
            obtain ⟨ha93, hb93⟩ := h93
            have ha93 := ha93.symm
            subst ha93
            have hb93 := hb93.symm
            subst hb93
            refine jv_if_ne 36 (pc := 96) d_MO_readText_96 rfl (fun h96 => ?_) (fun h96 => ?_)
            · have h96 : ¬ (v93 = 0) := h96
              have H := (if_neg h96).symm.trans H
              exact jv_sub [0, 1, 2, 3] rfl (ih x1 (x2 + v50) (x3 + v77) _ _ _ H)
            · have h96 : v93 = 0 := h96
              have H := (if_pos h96).symm.trans H
              refine jv_iconst 0 (pc := 99) d_MO_readText_99 rfl ?_
              refine jv_iret (pc := 100) d_MO_readText_100 rfl rfl (Nat.zero_le _) (Nat.zero_le _) ?_
              cases H
              exact jI.of ⟨rfl, rfl⟩
        · have h66 : ¬ ((f_MO_isFar (x2 + v50) n50) = 0) := h66
          have H := (if_neg h66).symm.trans H
          refine jv_iconst 0 (pc := 69) d_MO_readText_69 rfl ?_
          refine jv_iret (pc := 70) d_MO_readText_70 rfl rfl (Nat.zero_le _) (Nat.zero_le _) ?_
          cases H
          exact jI.of ⟨rfl, rfl⟩
set_option maxRecDepth 40000 in
set_option maxHeartbeats 8000000 in
theorem sp_MO_readText {G : jG} {σ τ : jMem} {r : Int32} (H : f_MO_readText σ = some (r, τ)) : jSp G M_MO_readText (jr 9 0 0) [.ref 38] σ (jI fun r9 τ9 => r9 = r ∧ τ9 = τ) := by
  refine jSp.of rfl rfl (Nat.le_of_ble_eq_true rfl) ?_
  show jV _ _ _ _ 0 0 0 [(0, .ref 38)] [] σ
  unfold f_MO_readText at H
  refine jv_aload_n 0 (pc := 0) d_MO_readText_0 rfl ?_
  refine jv_iconst 3 (pc := 1) d_MO_readText_1 rfl ?_
  refine jv_iconst 0 (pc := 2) d_MO_readText_2 rfl ?_
  refine jv_iconst 0 (pc := 3) d_MO_readText_3 rfl ?_
  obtain ⟨v4, n4, c4, H⟩ := jbd_some H
  refine jv_callVi (sp_MO_codeNumber (3 : Int32) (0 : Int32) (0 : Int32) c4) (pc := 4) d_MO_readText_4 c0_MO_codeNumber lk_MO_229 in_MO_codeNumber se_MO_codeNumber (by decide) rfl rfl rfl (Nat.le_of_ble_eq_true rfl) ⟨by decide, by decide, by decide, by decide⟩ (fun r4 m4 h4 => ?_)
  obtain ⟨ha4, hb4⟩ := h4
  have ha4 := ha4.symm
  subst ha4
  have hb4 := hb4.symm
  subst hb4
  refine jv_istore_n (pc := 7) d_MO_readText_7 rfl (by decide) (jsto_new rfl) ?_
  refine jv_aload_n 1 (pc := 8) d_MO_readText_8 rfl ?_
  refine jv_iconst 0 (pc := 9) d_MO_readText_9 rfl ?_
  refine jv_puti (pc := 10) d_MO_readText_10 fa_MO_235_MO fp_MO_5 (by decide) rfl rfl rfl rfl ?_
  refine jv_aload_n 1 (pc := 13) d_MO_readText_13 rfl ?_
  refine jv_geti (pc := 14) d_MO_readText_14 fa_MO_223_MO (by decide) rfl rfl ?_
  refine jv_if_ne 30 (pc := 17) d_MO_readText_17 rfl (fun h17 => ?_) (fun h17 => ?_)
  · have h17 : ¬ ((n4 38 20) = 0) := h17
    have H := (if_neg h17).symm.trans H
    refine jv_iconst 0 (pc := 30) d_MO_readText_30 rfl ?_
    refine jv_iret (pc := 31) d_MO_readText_31 rfl rfl (Nat.zero_le _) (Nat.zero_le _) ?_
    cases H
    exact jI.of ⟨rfl, rfl⟩
  · have h17 : (n4 38 20) = 0 := h17
    have H := (if_pos h17).symm.trans H
    refine jv_iload_n 0 (pc := 20) d_MO_readText_20 rfl ?_
    refine jv_if_lt 30 (pc := 21) d_MO_readText_21 rfl (fun h21 => ?_) (fun h21 => ?_)
    · have h21 : v4 < 0 := h21
      have H := (if_pos h21).symm.trans H
      refine jv_iconst 0 (pc := 30) d_MO_readText_30 rfl ?_
      refine jv_iret (pc := 31) d_MO_readText_31 rfl rfl (Nat.zero_le _) (Nat.zero_le _) ?_
      cases H
      exact jI.of ⟨rfl, rfl⟩
    · have h21 : ¬ (v4 < 0) := h21
      have H := (if_neg h21).symm.trans H
      refine jv_iload_n 0 (pc := 24) d_MO_readText_24 rfl ?_
      refine jv_bipush (12) (pc := 25) d_MO_readText_25 rfl ?_
      refine jv_icmp_le 32 (pc := 27) d_MO_readText_27 rfl (fun h27 => ?_) (fun h27 => ?_)
      · have h27 : v4 ≤ (12 : Int32) := h27
        have H := (if_pos h27).symm.trans H
        refine jv_iconst 0 (pc := 32) d_MO_readText_32 rfl ?_
        refine jv_istore_n (pc := 33) d_MO_readText_33 rfl (by decide) (jsto_new rfl) ?_
        refine jv_iconst 0 (pc := 34) d_MO_readText_34 rfl ?_
        refine jv_istore_n (pc := 35) d_MO_readText_35 rfl (by decide) (jsto_new rfl) ?_
        exact jv_sub [3, 2, 1, 0] rfl (lp_MO_readText_36  _ v4 (0 : Int32) (0 : Int32) _ _ _ H)
      · have h27 : ¬ (v4 ≤ (12 : Int32)) := h27
        have H := (if_neg h27).symm.trans H
        refine jv_iconst 0 (pc := 30) d_MO_readText_30 rfl ?_
        refine jv_iret (pc := 31) d_MO_readText_31 rfl rfl (Nat.zero_le _) (Nat.zero_le _) ?_
        cases H
        exact jI.of ⟨rfl, rfl⟩
set_option maxRecDepth 40000 in
set_option maxHeartbeats 8000000 in
theorem lp_MO_drawMarks_2 {G : jG} : ∀ (n : Nat) (x1 x2 x3 : Int32) (σ τ : jMem) (r : Unit), f_MO_drawMarks_L2 n x1 x2 x3 σ = some (r, τ) → jV G M_MO_drawMarks (jr 3 0 0) (jU fun τ9 => τ9 = τ) 0 0 2 [(0, .ref 38), (1, .int x1), (2, .int x2), (3, .int x3)] [] σ := by
  intro n
  induction n with
  | zero =>
    intro x1 x2 x3 σ τ r H
    cases H
  | succ n ih =>
    intro x1 x2 x3 σ τ r H
    rw [f_MO_drawMarks_L2.eq_2] at H
    refine jv_iload_n 3 (pc := 2) d_MO_drawMarks_2 rfl ?_
    refine jv_aload_n 0 (pc := 3) d_MO_drawMarks_3 rfl ?_
    refine jv_geti (pc := 4) d_MO_drawMarks_4 fa_MO_235_MO (by decide) rfl rfl ?_
    refine jv_icmp_ge 141 (pc := 7) d_MO_drawMarks_7 rfl (fun h7 => ?_) (fun h7 => ?_)
    · have h7 : (σ 38 5) ≤ x3 := h7
      have H := (if_pos h7).symm.trans H
      refine jv_vret (pc := 141) d_MO_drawMarks_141 rfl (Nat.zero_le _) (Nat.zero_le _) ?_
      cases H
      exact jU.of rfl
    · have h7 : ¬ ((σ 38 5) ≤ x3) := h7
      have H := (if_neg h7).symm.trans H
      refine jv_iconst 4 (pc := 10) d_MO_drawMarks_10 rfl ?_
      refine jv_aload_n 0 (pc := 11) d_MO_drawMarks_11 rfl ?_
      refine jv_getr (pc := 12) d_MO_drawMarks_12 fa_MO_19_MO (by decide) rfl rfl ?_
      refine jv_iload_n 3 (pc := 15) d_MO_drawMarks_15 rfl ?_
      obtain ⟨b16, H⟩ := jck_some H
      refine jv_iald (pc := 16) d_MO_drawMarks_16 (by decide) rfl b16 ?_
      refine jv_iadd (pc := 17) d_MO_drawMarks_17 ?_
      refine jv_istore (pc := 18) d_MO_drawMarks_18 (by decide) (jsto_new rfl) ?_
      refine jv_aload_n 1 (pc := 20) d_MO_drawMarks_20 rfl ?_
      refine jv_geti (pc := 21) d_MO_drawMarks_21 fa_MO_257_MO (by decide) rfl rfl ?_
      refine jv_if_eq 36 (pc := 24) d_MO_drawMarks_24 rfl (fun h24 => ?_) (fun h24 => ?_)
      · have h24 : (σ 38 22) = 0 := h24
        have H := (if_pos h24).symm.trans H
        refine jv_aload_n 1 (pc := 36) d_MO_drawMarks_36 rfl ?_
        refine jv_getr (pc := 37) d_MO_drawMarks_37 fa_MO_22_MO (by decide) rfl rfl ?_
        refine jv_iload_n 4 (pc := 40) d_MO_drawMarks_40 rfl ?_
        obtain ⟨b41, H⟩ := jck_some H
        refine jv_iald (pc := 41) d_MO_drawMarks_41 (by decide) rfl b41 ?_
        refine jv_istore (pc := 42) d_MO_drawMarks_42 (by decide) (jsto_new rfl) ?_
        refine jv_aload_n 2 (pc := 44) d_MO_drawMarks_44 rfl ?_
        refine jv_geti (pc := 45) d_MO_drawMarks_45 fa_MO_257_MO (by decide) rfl rfl ?_
        refine jv_if_eq 60 (pc := 48) d_MO_drawMarks_48 rfl (fun h48 => ?_) (fun h48 => ?_)
        · have h48 : (σ 38 22) = 0 := h48
          have H := (if_pos h48).symm.trans H
          refine jv_aload_n 2 (pc := 60) d_MO_drawMarks_60 rfl ?_
          refine jv_getr (pc := 61) d_MO_drawMarks_61 fa_MO_25_MO (by decide) rfl rfl ?_
          refine jv_iload_n 5 (pc := 64) d_MO_drawMarks_64 rfl ?_
          obtain ⟨b65, H⟩ := jck_some H
          refine jv_iald (pc := 65) d_MO_drawMarks_65 (by decide) rfl b65 ?_
          refine jv_istore (pc := 66) d_MO_drawMarks_66 (by decide) (jsto_new rfl) ?_
          refine jv_aload_n 3 (pc := 68) d_MO_drawMarks_68 rfl ?_
          refine jv_geti (pc := 69) d_MO_drawMarks_69 fa_MO_260_MO (by decide) rfl rfl ?_
          refine jv_iconst 1 (pc := 72) d_MO_drawMarks_72 rfl ?_
          refine jv_icmp_le 91 (pc := 73) d_MO_drawMarks_73 rfl (fun h73 => ?_) (fun h73 => ?_)
          · have h73 : (σ 38 21) ≤ (1 : Int32) := h73
            have H := (if_pos h73).symm.trans H
            refine jv_iload 1 (pc := 91) d_MO_drawMarks_91 rfl ?_
            refine jv_istore (pc := 93) d_MO_drawMarks_93 (by decide) (jst1 rfl) ?_
            refine jv_aload_n 3 (pc := 95) d_MO_drawMarks_95 rfl ?_
            refine jv_geti (pc := 96) d_MO_drawMarks_96 fa_MO_260_MO (by decide) rfl rfl ?_
            refine jv_iconst 2 (pc := 99) d_MO_drawMarks_99 rfl ?_
            refine jv_irem (pc := 100) d_MO_drawMarks_100 (by decide) ?_
            refine jv_if_ne 119 (pc := 101) d_MO_drawMarks_101 rfl (fun h101 => ?_) (fun h101 => ?_)
            · have h101 : ¬ (((σ 38 21) - (σ 38 21) / (2 : Int32) * (2 : Int32)) = 0) := h101
              have H := (if_neg h101).symm.trans H
              refine jv_iload 0 (pc := 119) d_MO_drawMarks_119 rfl ?_
              refine jv_istore (pc := 121) d_MO_drawMarks_121 (by decide) (jst0 rfl) ?_
              refine jv_aload_n 3 (pc := 123) d_MO_drawMarks_123 rfl ?_
              refine jv_iload_n 4 (pc := 124) d_MO_drawMarks_124 rfl ?_
              refine jv_iload 2 (pc := 125) d_MO_drawMarks_125 rfl ?_
              refine jv_iload 1 (pc := 127) d_MO_drawMarks_127 rfl ?_
              refine jv_iload 0 (pc := 129) d_MO_drawMarks_129 rfl ?_
              refine jv_iload_n 5 (pc := 131) d_MO_drawMarks_131 rfl ?_
              obtain ⟨_, n132, c132, H⟩ := jbd_some H
              refine jv_callVv (sp_MO_lay x1 ((4 : Int32) + (σ 42 x3.toNatClampNeg)) (σ 43 x3.toNatClampNeg) (σ 44 x3.toNatClampNeg) x2 c132) (pc := 132) d_MO_drawMarks_132 c0_MO_lay lk_MO_64 in_MO_lay se_MO_lay (by decide) rfl rfl rfl (Nat.le_of_ble_eq_true rfl) ⟨by decide, by decide, by decide, by decide⟩ (fun m132 h132 => ?_)
              have hb132 := h132
              have hb132 := hb132.symm
              subst hb132
              refine jv_iinc 6 _ (pc := 135) d_MO_drawMarks_135 rfl (jinc1 _) (by decide) (jst6 rfl) ?_
              refine jv_goto 2 (pc := 138) d_MO_drawMarks_138 rfl ?_
              exact jv_sub [3, 4, 5, 6] rfl (ih x1 x2 (x3 + 1) _ _ _ H)
            · have h101 : ((σ 38 21) - (σ 38 21) / (2 : Int32) * (2 : Int32)) = 0 := h101
              have H := (if_pos h101).symm.trans H
              refine jv_iload 0 (pc := 104) d_MO_drawMarks_104 rfl ?_
              refine jv_aload_n 3 (pc := 106) d_MO_drawMarks_106 rfl ?_
              refine jv_getr (pc := 107) d_MO_drawMarks_107 fa_MO_16_MO (by decide) rfl rfl ?_
              refine jv_iload 2 (pc := 110) d_MO_drawMarks_110 rfl ?_
              obtain ⟨b112, H⟩ := jck_some H
              refine jv_iald (pc := 112) d_MO_drawMarks_112 (by decide) rfl b112 ?_
              refine jv_isub (pc := 113) d_MO_drawMarks_113 ?_
              refine jv_iconst 1 (pc := 114) d_MO_drawMarks_114 rfl ?_
              refine jv_iadd (pc := 115) d_MO_drawMarks_115 ?_
              refine jv_goto 121 (pc := 116) d_MO_drawMarks_116 rfl ?_
              refine jv_istore (pc := 121) d_MO_drawMarks_121 (by decide) (jst0 rfl) ?_
              refine jv_aload_n 3 (pc := 123) d_MO_drawMarks_123 rfl ?_
              refine jv_iload_n 4 (pc := 124) d_MO_drawMarks_124 rfl ?_
              refine jv_iload 2 (pc := 125) d_MO_drawMarks_125 rfl ?_
              refine jv_iload 1 (pc := 127) d_MO_drawMarks_127 rfl ?_
              refine jv_iload 0 (pc := 129) d_MO_drawMarks_129 rfl ?_
              refine jv_iload_n 5 (pc := 131) d_MO_drawMarks_131 rfl ?_
              obtain ⟨_, n132, c132, H⟩ := jbd_some H
              refine jv_callVv (sp_MO_lay x1 ((4 : Int32) + (σ 42 x3.toNatClampNeg)) (σ 43 x3.toNatClampNeg) (((σ 44 x3.toNatClampNeg) - (σ 41 (((4 : Int32) + (σ 42 x3.toNatClampNeg)).toNatClampNeg))) + (1 : Int32)) x2 c132) (pc := 132) d_MO_drawMarks_132 c0_MO_lay lk_MO_64 in_MO_lay se_MO_lay (by decide) rfl rfl rfl (Nat.le_of_ble_eq_true rfl) ⟨by decide, by decide, by decide, by decide⟩ (fun m132 h132 => ?_)
              have hb132 := h132
              have hb132 := hb132.symm
              subst hb132
              refine jv_iinc 6 _ (pc := 135) d_MO_drawMarks_135 rfl (jinc1 _) (by decide) (jst6 rfl) ?_
              refine jv_goto 2 (pc := 138) d_MO_drawMarks_138 rfl ?_
              exact jv_sub [3, 4, 5, 6] rfl (ih x1 x2 (x3 + 1) _ _ _ H)
          · have h73 : ¬ ((σ 38 21) ≤ (1 : Int32)) := h73
            have H := (if_neg h73).symm.trans H
            refine jv_iload 1 (pc := 76) d_MO_drawMarks_76 rfl ?_
            refine jv_aload_n 3 (pc := 78) d_MO_drawMarks_78 rfl ?_
            refine jv_getr (pc := 79) d_MO_drawMarks_79 fa_MO_13_MO (by decide) rfl rfl ?_
            refine jv_iload 2 (pc := 82) d_MO_drawMarks_82 rfl ?_
            obtain ⟨b84, H⟩ := jck_some H
            refine jv_iald (pc := 84) d_MO_drawMarks_84 (by decide) rfl b84 ?_
            refine jv_isub (pc := 85) d_MO_drawMarks_85 ?_
            refine jv_iconst 1 (pc := 86) d_MO_drawMarks_86 rfl ?_
            refine jv_iadd (pc := 87) d_MO_drawMarks_87 ?_
            refine jv_goto 93 (pc := 88) d_MO_drawMarks_88 rfl ?_
            refine jv_istore (pc := 93) d_MO_drawMarks_93 (by decide) (jst1 rfl) ?_
            refine jv_aload_n 3 (pc := 95) d_MO_drawMarks_95 rfl ?_
            refine jv_geti (pc := 96) d_MO_drawMarks_96 fa_MO_260_MO (by decide) rfl rfl ?_
            refine jv_iconst 2 (pc := 99) d_MO_drawMarks_99 rfl ?_
            refine jv_irem (pc := 100) d_MO_drawMarks_100 (by decide) ?_
            refine jv_if_ne 119 (pc := 101) d_MO_drawMarks_101 rfl (fun h101 => ?_) (fun h101 => ?_)
            · have h101 : ¬ (((σ 38 21) - (σ 38 21) / (2 : Int32) * (2 : Int32)) = 0) := h101
              have H := (if_neg h101).symm.trans H
              refine jv_iload 0 (pc := 119) d_MO_drawMarks_119 rfl ?_
              refine jv_istore (pc := 121) d_MO_drawMarks_121 (by decide) (jst0 rfl) ?_
              refine jv_aload_n 3 (pc := 123) d_MO_drawMarks_123 rfl ?_
              refine jv_iload_n 4 (pc := 124) d_MO_drawMarks_124 rfl ?_
              refine jv_iload 2 (pc := 125) d_MO_drawMarks_125 rfl ?_
              refine jv_iload 1 (pc := 127) d_MO_drawMarks_127 rfl ?_
              refine jv_iload 0 (pc := 129) d_MO_drawMarks_129 rfl ?_
              refine jv_iload_n 5 (pc := 131) d_MO_drawMarks_131 rfl ?_
              obtain ⟨_, n132, c132, H⟩ := jbd_some H
              refine jv_callVv (sp_MO_lay x1 ((4 : Int32) + (σ 42 x3.toNatClampNeg)) (((σ 43 x3.toNatClampNeg) - (σ 40 (((4 : Int32) + (σ 42 x3.toNatClampNeg)).toNatClampNeg))) + (1 : Int32)) (σ 44 x3.toNatClampNeg) x2 c132) (pc := 132) d_MO_drawMarks_132 c0_MO_lay lk_MO_64 in_MO_lay se_MO_lay (by decide) rfl rfl rfl (Nat.le_of_ble_eq_true rfl) ⟨by decide, by decide, by decide, by decide⟩ (fun m132 h132 => ?_)
              have hb132 := h132
              have hb132 := hb132.symm
              subst hb132
              refine jv_iinc 6 _ (pc := 135) d_MO_drawMarks_135 rfl (jinc1 _) (by decide) (jst6 rfl) ?_
              refine jv_goto 2 (pc := 138) d_MO_drawMarks_138 rfl ?_
              exact jv_sub [3, 4, 5, 6] rfl (ih x1 x2 (x3 + 1) _ _ _ H)
            · have h101 : ((σ 38 21) - (σ 38 21) / (2 : Int32) * (2 : Int32)) = 0 := h101
              have H := (if_pos h101).symm.trans H
              refine jv_iload 0 (pc := 104) d_MO_drawMarks_104 rfl ?_
              refine jv_aload_n 3 (pc := 106) d_MO_drawMarks_106 rfl ?_
              refine jv_getr (pc := 107) d_MO_drawMarks_107 fa_MO_16_MO (by decide) rfl rfl ?_
              refine jv_iload 2 (pc := 110) d_MO_drawMarks_110 rfl ?_
              obtain ⟨b112, H⟩ := jck_some H
              refine jv_iald (pc := 112) d_MO_drawMarks_112 (by decide) rfl b112 ?_
              refine jv_isub (pc := 113) d_MO_drawMarks_113 ?_
              refine jv_iconst 1 (pc := 114) d_MO_drawMarks_114 rfl ?_
              refine jv_iadd (pc := 115) d_MO_drawMarks_115 ?_
              refine jv_goto 121 (pc := 116) d_MO_drawMarks_116 rfl ?_
              refine jv_istore (pc := 121) d_MO_drawMarks_121 (by decide) (jst0 rfl) ?_
              refine jv_aload_n 3 (pc := 123) d_MO_drawMarks_123 rfl ?_
              refine jv_iload_n 4 (pc := 124) d_MO_drawMarks_124 rfl ?_
              refine jv_iload 2 (pc := 125) d_MO_drawMarks_125 rfl ?_
              refine jv_iload 1 (pc := 127) d_MO_drawMarks_127 rfl ?_
              refine jv_iload 0 (pc := 129) d_MO_drawMarks_129 rfl ?_
              refine jv_iload_n 5 (pc := 131) d_MO_drawMarks_131 rfl ?_
              obtain ⟨_, n132, c132, H⟩ := jbd_some H
              refine jv_callVv (sp_MO_lay x1 ((4 : Int32) + (σ 42 x3.toNatClampNeg)) (((σ 43 x3.toNatClampNeg) - (σ 40 (((4 : Int32) + (σ 42 x3.toNatClampNeg)).toNatClampNeg))) + (1 : Int32)) (((σ 44 x3.toNatClampNeg) - (σ 41 (((4 : Int32) + (σ 42 x3.toNatClampNeg)).toNatClampNeg))) + (1 : Int32)) x2 c132) (pc := 132) d_MO_drawMarks_132 c0_MO_lay lk_MO_64 in_MO_lay se_MO_lay (by decide) rfl rfl rfl (Nat.le_of_ble_eq_true rfl) ⟨by decide, by decide, by decide, by decide⟩ (fun m132 h132 => ?_)
              have hb132 := h132
              have hb132 := hb132.symm
              subst hb132
              refine jv_iinc 6 _ (pc := 135) d_MO_drawMarks_135 rfl (jinc1 _) (by decide) (jst6 rfl) ?_
              refine jv_goto 2 (pc := 138) d_MO_drawMarks_138 rfl ?_
              exact jv_sub [3, 4, 5, 6] rfl (ih x1 x2 (x3 + 1) _ _ _ H)
        · have h48 : ¬ ((σ 38 22) = 0) := h48
          have H := (if_neg h48).symm.trans H
          refine jv_aload_n 2 (pc := 51) d_MO_drawMarks_51 rfl ?_
          refine jv_getr (pc := 52) d_MO_drawMarks_52 fa_MO_22_MO (by decide) rfl rfl ?_
          refine jv_iload_n 5 (pc := 55) d_MO_drawMarks_55 rfl ?_
          obtain ⟨b56, H⟩ := jck_some H
          refine jv_iald (pc := 56) d_MO_drawMarks_56 (by decide) rfl b56 ?_
          refine jv_goto 66 (pc := 57) d_MO_drawMarks_57 rfl ?_
          refine jv_istore (pc := 66) d_MO_drawMarks_66 (by decide) (jsto_new rfl) ?_
          refine jv_aload_n 3 (pc := 68) d_MO_drawMarks_68 rfl ?_
          refine jv_geti (pc := 69) d_MO_drawMarks_69 fa_MO_260_MO (by decide) rfl rfl ?_
          refine jv_iconst 1 (pc := 72) d_MO_drawMarks_72 rfl ?_
          refine jv_icmp_le 91 (pc := 73) d_MO_drawMarks_73 rfl (fun h73 => ?_) (fun h73 => ?_)
          · have h73 : (σ 38 21) ≤ (1 : Int32) := h73
            have H := (if_pos h73).symm.trans H
            refine jv_iload 1 (pc := 91) d_MO_drawMarks_91 rfl ?_
            refine jv_istore (pc := 93) d_MO_drawMarks_93 (by decide) (jst1 rfl) ?_
            refine jv_aload_n 3 (pc := 95) d_MO_drawMarks_95 rfl ?_
            refine jv_geti (pc := 96) d_MO_drawMarks_96 fa_MO_260_MO (by decide) rfl rfl ?_
            refine jv_iconst 2 (pc := 99) d_MO_drawMarks_99 rfl ?_
            refine jv_irem (pc := 100) d_MO_drawMarks_100 (by decide) ?_
            refine jv_if_ne 119 (pc := 101) d_MO_drawMarks_101 rfl (fun h101 => ?_) (fun h101 => ?_)
            · have h101 : ¬ (((σ 38 21) - (σ 38 21) / (2 : Int32) * (2 : Int32)) = 0) := h101
              have H := (if_neg h101).symm.trans H
              refine jv_iload 0 (pc := 119) d_MO_drawMarks_119 rfl ?_
              refine jv_istore (pc := 121) d_MO_drawMarks_121 (by decide) (jst0 rfl) ?_
              refine jv_aload_n 3 (pc := 123) d_MO_drawMarks_123 rfl ?_
              refine jv_iload_n 4 (pc := 124) d_MO_drawMarks_124 rfl ?_
              refine jv_iload 2 (pc := 125) d_MO_drawMarks_125 rfl ?_
              refine jv_iload 1 (pc := 127) d_MO_drawMarks_127 rfl ?_
              refine jv_iload 0 (pc := 129) d_MO_drawMarks_129 rfl ?_
              refine jv_iload_n 5 (pc := 131) d_MO_drawMarks_131 rfl ?_
              obtain ⟨_, n132, c132, H⟩ := jbd_some H
              refine jv_callVv (sp_MO_lay x1 ((4 : Int32) + (σ 42 x3.toNatClampNeg)) (σ 43 x3.toNatClampNeg) (σ 43 x3.toNatClampNeg) x2 c132) (pc := 132) d_MO_drawMarks_132 c0_MO_lay lk_MO_64 in_MO_lay se_MO_lay (by decide) rfl rfl rfl (Nat.le_of_ble_eq_true rfl) ⟨by decide, by decide, by decide, by decide⟩ (fun m132 h132 => ?_)
              have hb132 := h132
              have hb132 := hb132.symm
              subst hb132
              refine jv_iinc 6 _ (pc := 135) d_MO_drawMarks_135 rfl (jinc1 _) (by decide) (jst6 rfl) ?_
              refine jv_goto 2 (pc := 138) d_MO_drawMarks_138 rfl ?_
              exact jv_sub [3, 4, 5, 6] rfl (ih x1 x2 (x3 + 1) _ _ _ H)
            · have h101 : ((σ 38 21) - (σ 38 21) / (2 : Int32) * (2 : Int32)) = 0 := h101
              have H := (if_pos h101).symm.trans H
              refine jv_iload 0 (pc := 104) d_MO_drawMarks_104 rfl ?_
              refine jv_aload_n 3 (pc := 106) d_MO_drawMarks_106 rfl ?_
              refine jv_getr (pc := 107) d_MO_drawMarks_107 fa_MO_16_MO (by decide) rfl rfl ?_
              refine jv_iload 2 (pc := 110) d_MO_drawMarks_110 rfl ?_
              obtain ⟨b112, H⟩ := jck_some H
              refine jv_iald (pc := 112) d_MO_drawMarks_112 (by decide) rfl b112 ?_
              refine jv_isub (pc := 113) d_MO_drawMarks_113 ?_
              refine jv_iconst 1 (pc := 114) d_MO_drawMarks_114 rfl ?_
              refine jv_iadd (pc := 115) d_MO_drawMarks_115 ?_
              refine jv_goto 121 (pc := 116) d_MO_drawMarks_116 rfl ?_
              refine jv_istore (pc := 121) d_MO_drawMarks_121 (by decide) (jst0 rfl) ?_
              refine jv_aload_n 3 (pc := 123) d_MO_drawMarks_123 rfl ?_
              refine jv_iload_n 4 (pc := 124) d_MO_drawMarks_124 rfl ?_
              refine jv_iload 2 (pc := 125) d_MO_drawMarks_125 rfl ?_
              refine jv_iload 1 (pc := 127) d_MO_drawMarks_127 rfl ?_
              refine jv_iload 0 (pc := 129) d_MO_drawMarks_129 rfl ?_
              refine jv_iload_n 5 (pc := 131) d_MO_drawMarks_131 rfl ?_
              obtain ⟨_, n132, c132, H⟩ := jbd_some H
              refine jv_callVv (sp_MO_lay x1 ((4 : Int32) + (σ 42 x3.toNatClampNeg)) (σ 43 x3.toNatClampNeg) (((σ 43 x3.toNatClampNeg) - (σ 41 (((4 : Int32) + (σ 42 x3.toNatClampNeg)).toNatClampNeg))) + (1 : Int32)) x2 c132) (pc := 132) d_MO_drawMarks_132 c0_MO_lay lk_MO_64 in_MO_lay se_MO_lay (by decide) rfl rfl rfl (Nat.le_of_ble_eq_true rfl) ⟨by decide, by decide, by decide, by decide⟩ (fun m132 h132 => ?_)
              have hb132 := h132
              have hb132 := hb132.symm
              subst hb132
              refine jv_iinc 6 _ (pc := 135) d_MO_drawMarks_135 rfl (jinc1 _) (by decide) (jst6 rfl) ?_
              refine jv_goto 2 (pc := 138) d_MO_drawMarks_138 rfl ?_
              exact jv_sub [3, 4, 5, 6] rfl (ih x1 x2 (x3 + 1) _ _ _ H)
          · have h73 : ¬ ((σ 38 21) ≤ (1 : Int32)) := h73
            have H := (if_neg h73).symm.trans H
            refine jv_iload 1 (pc := 76) d_MO_drawMarks_76 rfl ?_
            refine jv_aload_n 3 (pc := 78) d_MO_drawMarks_78 rfl ?_
            refine jv_getr (pc := 79) d_MO_drawMarks_79 fa_MO_13_MO (by decide) rfl rfl ?_
            refine jv_iload 2 (pc := 82) d_MO_drawMarks_82 rfl ?_
            obtain ⟨b84, H⟩ := jck_some H
            refine jv_iald (pc := 84) d_MO_drawMarks_84 (by decide) rfl b84 ?_
            refine jv_isub (pc := 85) d_MO_drawMarks_85 ?_
            refine jv_iconst 1 (pc := 86) d_MO_drawMarks_86 rfl ?_
            refine jv_iadd (pc := 87) d_MO_drawMarks_87 ?_
            refine jv_goto 93 (pc := 88) d_MO_drawMarks_88 rfl ?_
            refine jv_istore (pc := 93) d_MO_drawMarks_93 (by decide) (jst1 rfl) ?_
            refine jv_aload_n 3 (pc := 95) d_MO_drawMarks_95 rfl ?_
            refine jv_geti (pc := 96) d_MO_drawMarks_96 fa_MO_260_MO (by decide) rfl rfl ?_
            refine jv_iconst 2 (pc := 99) d_MO_drawMarks_99 rfl ?_
            refine jv_irem (pc := 100) d_MO_drawMarks_100 (by decide) ?_
            refine jv_if_ne 119 (pc := 101) d_MO_drawMarks_101 rfl (fun h101 => ?_) (fun h101 => ?_)
            · have h101 : ¬ (((σ 38 21) - (σ 38 21) / (2 : Int32) * (2 : Int32)) = 0) := h101
              have H := (if_neg h101).symm.trans H
              refine jv_iload 0 (pc := 119) d_MO_drawMarks_119 rfl ?_
              refine jv_istore (pc := 121) d_MO_drawMarks_121 (by decide) (jst0 rfl) ?_
              refine jv_aload_n 3 (pc := 123) d_MO_drawMarks_123 rfl ?_
              refine jv_iload_n 4 (pc := 124) d_MO_drawMarks_124 rfl ?_
              refine jv_iload 2 (pc := 125) d_MO_drawMarks_125 rfl ?_
              refine jv_iload 1 (pc := 127) d_MO_drawMarks_127 rfl ?_
              refine jv_iload 0 (pc := 129) d_MO_drawMarks_129 rfl ?_
              refine jv_iload_n 5 (pc := 131) d_MO_drawMarks_131 rfl ?_
              obtain ⟨_, n132, c132, H⟩ := jbd_some H
              refine jv_callVv (sp_MO_lay x1 ((4 : Int32) + (σ 42 x3.toNatClampNeg)) (((σ 43 x3.toNatClampNeg) - (σ 40 (((4 : Int32) + (σ 42 x3.toNatClampNeg)).toNatClampNeg))) + (1 : Int32)) (σ 43 x3.toNatClampNeg) x2 c132) (pc := 132) d_MO_drawMarks_132 c0_MO_lay lk_MO_64 in_MO_lay se_MO_lay (by decide) rfl rfl rfl (Nat.le_of_ble_eq_true rfl) ⟨by decide, by decide, by decide, by decide⟩ (fun m132 h132 => ?_)
              have hb132 := h132
              have hb132 := hb132.symm
              subst hb132
              refine jv_iinc 6 _ (pc := 135) d_MO_drawMarks_135 rfl (jinc1 _) (by decide) (jst6 rfl) ?_
              refine jv_goto 2 (pc := 138) d_MO_drawMarks_138 rfl ?_
              exact jv_sub [3, 4, 5, 6] rfl (ih x1 x2 (x3 + 1) _ _ _ H)
            · have h101 : ((σ 38 21) - (σ 38 21) / (2 : Int32) * (2 : Int32)) = 0 := h101
              have H := (if_pos h101).symm.trans H
              refine jv_iload 0 (pc := 104) d_MO_drawMarks_104 rfl ?_
              refine jv_aload_n 3 (pc := 106) d_MO_drawMarks_106 rfl ?_
              refine jv_getr (pc := 107) d_MO_drawMarks_107 fa_MO_16_MO (by decide) rfl rfl ?_
              refine jv_iload 2 (pc := 110) d_MO_drawMarks_110 rfl ?_
              obtain ⟨b112, H⟩ := jck_some H
              refine jv_iald (pc := 112) d_MO_drawMarks_112 (by decide) rfl b112 ?_
              refine jv_isub (pc := 113) d_MO_drawMarks_113 ?_
              refine jv_iconst 1 (pc := 114) d_MO_drawMarks_114 rfl ?_
              refine jv_iadd (pc := 115) d_MO_drawMarks_115 ?_
              refine jv_goto 121 (pc := 116) d_MO_drawMarks_116 rfl ?_
              refine jv_istore (pc := 121) d_MO_drawMarks_121 (by decide) (jst0 rfl) ?_
              refine jv_aload_n 3 (pc := 123) d_MO_drawMarks_123 rfl ?_
              refine jv_iload_n 4 (pc := 124) d_MO_drawMarks_124 rfl ?_
              refine jv_iload 2 (pc := 125) d_MO_drawMarks_125 rfl ?_
              refine jv_iload 1 (pc := 127) d_MO_drawMarks_127 rfl ?_
              refine jv_iload 0 (pc := 129) d_MO_drawMarks_129 rfl ?_
              refine jv_iload_n 5 (pc := 131) d_MO_drawMarks_131 rfl ?_
              obtain ⟨_, n132, c132, H⟩ := jbd_some H
              refine jv_callVv (sp_MO_lay x1 ((4 : Int32) + (σ 42 x3.toNatClampNeg)) (((σ 43 x3.toNatClampNeg) - (σ 40 (((4 : Int32) + (σ 42 x3.toNatClampNeg)).toNatClampNeg))) + (1 : Int32)) (((σ 43 x3.toNatClampNeg) - (σ 41 (((4 : Int32) + (σ 42 x3.toNatClampNeg)).toNatClampNeg))) + (1 : Int32)) x2 c132) (pc := 132) d_MO_drawMarks_132 c0_MO_lay lk_MO_64 in_MO_lay se_MO_lay (by decide) rfl rfl rfl (Nat.le_of_ble_eq_true rfl) ⟨by decide, by decide, by decide, by decide⟩ (fun m132 h132 => ?_)
              have hb132 := h132
              have hb132 := hb132.symm
              subst hb132
              refine jv_iinc 6 _ (pc := 135) d_MO_drawMarks_135 rfl (jinc1 _) (by decide) (jst6 rfl) ?_
              refine jv_goto 2 (pc := 138) d_MO_drawMarks_138 rfl ?_
              exact jv_sub [3, 4, 5, 6] rfl (ih x1 x2 (x3 + 1) _ _ _ H)
      · have h24 : ¬ ((σ 38 22) = 0) := h24
        have H := (if_neg h24).symm.trans H
        refine jv_aload_n 1 (pc := 27) d_MO_drawMarks_27 rfl ?_
        refine jv_getr (pc := 28) d_MO_drawMarks_28 fa_MO_25_MO (by decide) rfl rfl ?_
        refine jv_iload_n 4 (pc := 31) d_MO_drawMarks_31 rfl ?_
        obtain ⟨b32, H⟩ := jck_some H
        refine jv_iald (pc := 32) d_MO_drawMarks_32 (by decide) rfl b32 ?_
        refine jv_goto 42 (pc := 33) d_MO_drawMarks_33 rfl ?_
        refine jv_istore (pc := 42) d_MO_drawMarks_42 (by decide) (jsto_new rfl) ?_
        refine jv_aload_n 2 (pc := 44) d_MO_drawMarks_44 rfl ?_
        refine jv_geti (pc := 45) d_MO_drawMarks_45 fa_MO_257_MO (by decide) rfl rfl ?_
        refine jv_if_eq 60 (pc := 48) d_MO_drawMarks_48 rfl (fun h48 => ?_) (fun h48 => ?_)
        · have h48 : (σ 38 22) = 0 := h48
          have H := (if_pos h48).symm.trans H
          refine jv_aload_n 2 (pc := 60) d_MO_drawMarks_60 rfl ?_
          refine jv_getr (pc := 61) d_MO_drawMarks_61 fa_MO_25_MO (by decide) rfl rfl ?_
          refine jv_iload_n 5 (pc := 64) d_MO_drawMarks_64 rfl ?_
          obtain ⟨b65, H⟩ := jck_some H
          refine jv_iald (pc := 65) d_MO_drawMarks_65 (by decide) rfl b65 ?_
          refine jv_istore (pc := 66) d_MO_drawMarks_66 (by decide) (jsto_new rfl) ?_
          refine jv_aload_n 3 (pc := 68) d_MO_drawMarks_68 rfl ?_
          refine jv_geti (pc := 69) d_MO_drawMarks_69 fa_MO_260_MO (by decide) rfl rfl ?_
          refine jv_iconst 1 (pc := 72) d_MO_drawMarks_72 rfl ?_
          refine jv_icmp_le 91 (pc := 73) d_MO_drawMarks_73 rfl (fun h73 => ?_) (fun h73 => ?_)
          · have h73 : (σ 38 21) ≤ (1 : Int32) := h73
            have H := (if_pos h73).symm.trans H
            refine jv_iload 1 (pc := 91) d_MO_drawMarks_91 rfl ?_
            refine jv_istore (pc := 93) d_MO_drawMarks_93 (by decide) (jst1 rfl) ?_
            refine jv_aload_n 3 (pc := 95) d_MO_drawMarks_95 rfl ?_
            refine jv_geti (pc := 96) d_MO_drawMarks_96 fa_MO_260_MO (by decide) rfl rfl ?_
            refine jv_iconst 2 (pc := 99) d_MO_drawMarks_99 rfl ?_
            refine jv_irem (pc := 100) d_MO_drawMarks_100 (by decide) ?_
            refine jv_if_ne 119 (pc := 101) d_MO_drawMarks_101 rfl (fun h101 => ?_) (fun h101 => ?_)
            · have h101 : ¬ (((σ 38 21) - (σ 38 21) / (2 : Int32) * (2 : Int32)) = 0) := h101
              have H := (if_neg h101).symm.trans H
              refine jv_iload 0 (pc := 119) d_MO_drawMarks_119 rfl ?_
              refine jv_istore (pc := 121) d_MO_drawMarks_121 (by decide) (jst0 rfl) ?_
              refine jv_aload_n 3 (pc := 123) d_MO_drawMarks_123 rfl ?_
              refine jv_iload_n 4 (pc := 124) d_MO_drawMarks_124 rfl ?_
              refine jv_iload 2 (pc := 125) d_MO_drawMarks_125 rfl ?_
              refine jv_iload 1 (pc := 127) d_MO_drawMarks_127 rfl ?_
              refine jv_iload 0 (pc := 129) d_MO_drawMarks_129 rfl ?_
              refine jv_iload_n 5 (pc := 131) d_MO_drawMarks_131 rfl ?_
              obtain ⟨_, n132, c132, H⟩ := jbd_some H
              refine jv_callVv (sp_MO_lay x1 ((4 : Int32) + (σ 42 x3.toNatClampNeg)) (σ 44 x3.toNatClampNeg) (σ 44 x3.toNatClampNeg) x2 c132) (pc := 132) d_MO_drawMarks_132 c0_MO_lay lk_MO_64 in_MO_lay se_MO_lay (by decide) rfl rfl rfl (Nat.le_of_ble_eq_true rfl) ⟨by decide, by decide, by decide, by decide⟩ (fun m132 h132 => ?_)
              have hb132 := h132
              have hb132 := hb132.symm
              subst hb132
              refine jv_iinc 6 _ (pc := 135) d_MO_drawMarks_135 rfl (jinc1 _) (by decide) (jst6 rfl) ?_
              refine jv_goto 2 (pc := 138) d_MO_drawMarks_138 rfl ?_
              exact jv_sub [3, 4, 5, 6] rfl (ih x1 x2 (x3 + 1) _ _ _ H)
            · have h101 : ((σ 38 21) - (σ 38 21) / (2 : Int32) * (2 : Int32)) = 0 := h101
              have H := (if_pos h101).symm.trans H
              refine jv_iload 0 (pc := 104) d_MO_drawMarks_104 rfl ?_
              refine jv_aload_n 3 (pc := 106) d_MO_drawMarks_106 rfl ?_
              refine jv_getr (pc := 107) d_MO_drawMarks_107 fa_MO_16_MO (by decide) rfl rfl ?_
              refine jv_iload 2 (pc := 110) d_MO_drawMarks_110 rfl ?_
              obtain ⟨b112, H⟩ := jck_some H
              refine jv_iald (pc := 112) d_MO_drawMarks_112 (by decide) rfl b112 ?_
              refine jv_isub (pc := 113) d_MO_drawMarks_113 ?_
              refine jv_iconst 1 (pc := 114) d_MO_drawMarks_114 rfl ?_
              refine jv_iadd (pc := 115) d_MO_drawMarks_115 ?_
              refine jv_goto 121 (pc := 116) d_MO_drawMarks_116 rfl ?_
              refine jv_istore (pc := 121) d_MO_drawMarks_121 (by decide) (jst0 rfl) ?_
              refine jv_aload_n 3 (pc := 123) d_MO_drawMarks_123 rfl ?_
              refine jv_iload_n 4 (pc := 124) d_MO_drawMarks_124 rfl ?_
              refine jv_iload 2 (pc := 125) d_MO_drawMarks_125 rfl ?_
              refine jv_iload 1 (pc := 127) d_MO_drawMarks_127 rfl ?_
              refine jv_iload 0 (pc := 129) d_MO_drawMarks_129 rfl ?_
              refine jv_iload_n 5 (pc := 131) d_MO_drawMarks_131 rfl ?_
              obtain ⟨_, n132, c132, H⟩ := jbd_some H
              refine jv_callVv (sp_MO_lay x1 ((4 : Int32) + (σ 42 x3.toNatClampNeg)) (σ 44 x3.toNatClampNeg) (((σ 44 x3.toNatClampNeg) - (σ 41 (((4 : Int32) + (σ 42 x3.toNatClampNeg)).toNatClampNeg))) + (1 : Int32)) x2 c132) (pc := 132) d_MO_drawMarks_132 c0_MO_lay lk_MO_64 in_MO_lay se_MO_lay (by decide) rfl rfl rfl (Nat.le_of_ble_eq_true rfl) ⟨by decide, by decide, by decide, by decide⟩ (fun m132 h132 => ?_)
              have hb132 := h132
              have hb132 := hb132.symm
              subst hb132
              refine jv_iinc 6 _ (pc := 135) d_MO_drawMarks_135 rfl (jinc1 _) (by decide) (jst6 rfl) ?_
              refine jv_goto 2 (pc := 138) d_MO_drawMarks_138 rfl ?_
              exact jv_sub [3, 4, 5, 6] rfl (ih x1 x2 (x3 + 1) _ _ _ H)
          · have h73 : ¬ ((σ 38 21) ≤ (1 : Int32)) := h73
            have H := (if_neg h73).symm.trans H
            refine jv_iload 1 (pc := 76) d_MO_drawMarks_76 rfl ?_
            refine jv_aload_n 3 (pc := 78) d_MO_drawMarks_78 rfl ?_
            refine jv_getr (pc := 79) d_MO_drawMarks_79 fa_MO_13_MO (by decide) rfl rfl ?_
            refine jv_iload 2 (pc := 82) d_MO_drawMarks_82 rfl ?_
            obtain ⟨b84, H⟩ := jck_some H
            refine jv_iald (pc := 84) d_MO_drawMarks_84 (by decide) rfl b84 ?_
            refine jv_isub (pc := 85) d_MO_drawMarks_85 ?_
            refine jv_iconst 1 (pc := 86) d_MO_drawMarks_86 rfl ?_
            refine jv_iadd (pc := 87) d_MO_drawMarks_87 ?_
            refine jv_goto 93 (pc := 88) d_MO_drawMarks_88 rfl ?_
            refine jv_istore (pc := 93) d_MO_drawMarks_93 (by decide) (jst1 rfl) ?_
            refine jv_aload_n 3 (pc := 95) d_MO_drawMarks_95 rfl ?_
            refine jv_geti (pc := 96) d_MO_drawMarks_96 fa_MO_260_MO (by decide) rfl rfl ?_
            refine jv_iconst 2 (pc := 99) d_MO_drawMarks_99 rfl ?_
            refine jv_irem (pc := 100) d_MO_drawMarks_100 (by decide) ?_
            refine jv_if_ne 119 (pc := 101) d_MO_drawMarks_101 rfl (fun h101 => ?_) (fun h101 => ?_)
            · have h101 : ¬ (((σ 38 21) - (σ 38 21) / (2 : Int32) * (2 : Int32)) = 0) := h101
              have H := (if_neg h101).symm.trans H
              refine jv_iload 0 (pc := 119) d_MO_drawMarks_119 rfl ?_
              refine jv_istore (pc := 121) d_MO_drawMarks_121 (by decide) (jst0 rfl) ?_
              refine jv_aload_n 3 (pc := 123) d_MO_drawMarks_123 rfl ?_
              refine jv_iload_n 4 (pc := 124) d_MO_drawMarks_124 rfl ?_
              refine jv_iload 2 (pc := 125) d_MO_drawMarks_125 rfl ?_
              refine jv_iload 1 (pc := 127) d_MO_drawMarks_127 rfl ?_
              refine jv_iload 0 (pc := 129) d_MO_drawMarks_129 rfl ?_
              refine jv_iload_n 5 (pc := 131) d_MO_drawMarks_131 rfl ?_
              obtain ⟨_, n132, c132, H⟩ := jbd_some H
              refine jv_callVv (sp_MO_lay x1 ((4 : Int32) + (σ 42 x3.toNatClampNeg)) (((σ 44 x3.toNatClampNeg) - (σ 40 (((4 : Int32) + (σ 42 x3.toNatClampNeg)).toNatClampNeg))) + (1 : Int32)) (σ 44 x3.toNatClampNeg) x2 c132) (pc := 132) d_MO_drawMarks_132 c0_MO_lay lk_MO_64 in_MO_lay se_MO_lay (by decide) rfl rfl rfl (Nat.le_of_ble_eq_true rfl) ⟨by decide, by decide, by decide, by decide⟩ (fun m132 h132 => ?_)
              have hb132 := h132
              have hb132 := hb132.symm
              subst hb132
              refine jv_iinc 6 _ (pc := 135) d_MO_drawMarks_135 rfl (jinc1 _) (by decide) (jst6 rfl) ?_
              refine jv_goto 2 (pc := 138) d_MO_drawMarks_138 rfl ?_
              exact jv_sub [3, 4, 5, 6] rfl (ih x1 x2 (x3 + 1) _ _ _ H)
            · have h101 : ((σ 38 21) - (σ 38 21) / (2 : Int32) * (2 : Int32)) = 0 := h101
              have H := (if_pos h101).symm.trans H
              refine jv_iload 0 (pc := 104) d_MO_drawMarks_104 rfl ?_
              refine jv_aload_n 3 (pc := 106) d_MO_drawMarks_106 rfl ?_
              refine jv_getr (pc := 107) d_MO_drawMarks_107 fa_MO_16_MO (by decide) rfl rfl ?_
              refine jv_iload 2 (pc := 110) d_MO_drawMarks_110 rfl ?_
              obtain ⟨b112, H⟩ := jck_some H
              refine jv_iald (pc := 112) d_MO_drawMarks_112 (by decide) rfl b112 ?_
              refine jv_isub (pc := 113) d_MO_drawMarks_113 ?_
              refine jv_iconst 1 (pc := 114) d_MO_drawMarks_114 rfl ?_
              refine jv_iadd (pc := 115) d_MO_drawMarks_115 ?_
              refine jv_goto 121 (pc := 116) d_MO_drawMarks_116 rfl ?_
              refine jv_istore (pc := 121) d_MO_drawMarks_121 (by decide) (jst0 rfl) ?_
              refine jv_aload_n 3 (pc := 123) d_MO_drawMarks_123 rfl ?_
              refine jv_iload_n 4 (pc := 124) d_MO_drawMarks_124 rfl ?_
              refine jv_iload 2 (pc := 125) d_MO_drawMarks_125 rfl ?_
              refine jv_iload 1 (pc := 127) d_MO_drawMarks_127 rfl ?_
              refine jv_iload 0 (pc := 129) d_MO_drawMarks_129 rfl ?_
              refine jv_iload_n 5 (pc := 131) d_MO_drawMarks_131 rfl ?_
              obtain ⟨_, n132, c132, H⟩ := jbd_some H
              refine jv_callVv (sp_MO_lay x1 ((4 : Int32) + (σ 42 x3.toNatClampNeg)) (((σ 44 x3.toNatClampNeg) - (σ 40 (((4 : Int32) + (σ 42 x3.toNatClampNeg)).toNatClampNeg))) + (1 : Int32)) (((σ 44 x3.toNatClampNeg) - (σ 41 (((4 : Int32) + (σ 42 x3.toNatClampNeg)).toNatClampNeg))) + (1 : Int32)) x2 c132) (pc := 132) d_MO_drawMarks_132 c0_MO_lay lk_MO_64 in_MO_lay se_MO_lay (by decide) rfl rfl rfl (Nat.le_of_ble_eq_true rfl) ⟨by decide, by decide, by decide, by decide⟩ (fun m132 h132 => ?_)
              have hb132 := h132
              have hb132 := hb132.symm
              subst hb132
              refine jv_iinc 6 _ (pc := 135) d_MO_drawMarks_135 rfl (jinc1 _) (by decide) (jst6 rfl) ?_
              refine jv_goto 2 (pc := 138) d_MO_drawMarks_138 rfl ?_
              exact jv_sub [3, 4, 5, 6] rfl (ih x1 x2 (x3 + 1) _ _ _ H)
        · have h48 : ¬ ((σ 38 22) = 0) := h48
          have H := (if_neg h48).symm.trans H
          refine jv_aload_n 2 (pc := 51) d_MO_drawMarks_51 rfl ?_
          refine jv_getr (pc := 52) d_MO_drawMarks_52 fa_MO_22_MO (by decide) rfl rfl ?_
          refine jv_iload_n 5 (pc := 55) d_MO_drawMarks_55 rfl ?_
          obtain ⟨b56, H⟩ := jck_some H
          refine jv_iald (pc := 56) d_MO_drawMarks_56 (by decide) rfl b56 ?_
          refine jv_goto 66 (pc := 57) d_MO_drawMarks_57 rfl ?_
          refine jv_istore (pc := 66) d_MO_drawMarks_66 (by decide) (jsto_new rfl) ?_
          refine jv_aload_n 3 (pc := 68) d_MO_drawMarks_68 rfl ?_
          refine jv_geti (pc := 69) d_MO_drawMarks_69 fa_MO_260_MO (by decide) rfl rfl ?_
          refine jv_iconst 1 (pc := 72) d_MO_drawMarks_72 rfl ?_
          refine jv_icmp_le 91 (pc := 73) d_MO_drawMarks_73 rfl (fun h73 => ?_) (fun h73 => ?_)
          · have h73 : (σ 38 21) ≤ (1 : Int32) := h73
            have H := (if_pos h73).symm.trans H
            refine jv_iload 1 (pc := 91) d_MO_drawMarks_91 rfl ?_
            refine jv_istore (pc := 93) d_MO_drawMarks_93 (by decide) (jst1 rfl) ?_
            refine jv_aload_n 3 (pc := 95) d_MO_drawMarks_95 rfl ?_
            refine jv_geti (pc := 96) d_MO_drawMarks_96 fa_MO_260_MO (by decide) rfl rfl ?_
            refine jv_iconst 2 (pc := 99) d_MO_drawMarks_99 rfl ?_
            refine jv_irem (pc := 100) d_MO_drawMarks_100 (by decide) ?_
            refine jv_if_ne 119 (pc := 101) d_MO_drawMarks_101 rfl (fun h101 => ?_) (fun h101 => ?_)
            · have h101 : ¬ (((σ 38 21) - (σ 38 21) / (2 : Int32) * (2 : Int32)) = 0) := h101
              have H := (if_neg h101).symm.trans H
              refine jv_iload 0 (pc := 119) d_MO_drawMarks_119 rfl ?_
              refine jv_istore (pc := 121) d_MO_drawMarks_121 (by decide) (jst0 rfl) ?_
              refine jv_aload_n 3 (pc := 123) d_MO_drawMarks_123 rfl ?_
              refine jv_iload_n 4 (pc := 124) d_MO_drawMarks_124 rfl ?_
              refine jv_iload 2 (pc := 125) d_MO_drawMarks_125 rfl ?_
              refine jv_iload 1 (pc := 127) d_MO_drawMarks_127 rfl ?_
              refine jv_iload 0 (pc := 129) d_MO_drawMarks_129 rfl ?_
              refine jv_iload_n 5 (pc := 131) d_MO_drawMarks_131 rfl ?_
              obtain ⟨_, n132, c132, H⟩ := jbd_some H
              refine jv_callVv (sp_MO_lay x1 ((4 : Int32) + (σ 42 x3.toNatClampNeg)) (σ 44 x3.toNatClampNeg) (σ 43 x3.toNatClampNeg) x2 c132) (pc := 132) d_MO_drawMarks_132 c0_MO_lay lk_MO_64 in_MO_lay se_MO_lay (by decide) rfl rfl rfl (Nat.le_of_ble_eq_true rfl) ⟨by decide, by decide, by decide, by decide⟩ (fun m132 h132 => ?_)
              have hb132 := h132
              have hb132 := hb132.symm
              subst hb132
              refine jv_iinc 6 _ (pc := 135) d_MO_drawMarks_135 rfl (jinc1 _) (by decide) (jst6 rfl) ?_
              refine jv_goto 2 (pc := 138) d_MO_drawMarks_138 rfl ?_
              exact jv_sub [3, 4, 5, 6] rfl (ih x1 x2 (x3 + 1) _ _ _ H)
            · have h101 : ((σ 38 21) - (σ 38 21) / (2 : Int32) * (2 : Int32)) = 0 := h101
              have H := (if_pos h101).symm.trans H
              refine jv_iload 0 (pc := 104) d_MO_drawMarks_104 rfl ?_
              refine jv_aload_n 3 (pc := 106) d_MO_drawMarks_106 rfl ?_
              refine jv_getr (pc := 107) d_MO_drawMarks_107 fa_MO_16_MO (by decide) rfl rfl ?_
              refine jv_iload 2 (pc := 110) d_MO_drawMarks_110 rfl ?_
              obtain ⟨b112, H⟩ := jck_some H
              refine jv_iald (pc := 112) d_MO_drawMarks_112 (by decide) rfl b112 ?_
              refine jv_isub (pc := 113) d_MO_drawMarks_113 ?_
              refine jv_iconst 1 (pc := 114) d_MO_drawMarks_114 rfl ?_
              refine jv_iadd (pc := 115) d_MO_drawMarks_115 ?_
              refine jv_goto 121 (pc := 116) d_MO_drawMarks_116 rfl ?_
              refine jv_istore (pc := 121) d_MO_drawMarks_121 (by decide) (jst0 rfl) ?_
              refine jv_aload_n 3 (pc := 123) d_MO_drawMarks_123 rfl ?_
              refine jv_iload_n 4 (pc := 124) d_MO_drawMarks_124 rfl ?_
              refine jv_iload 2 (pc := 125) d_MO_drawMarks_125 rfl ?_
              refine jv_iload 1 (pc := 127) d_MO_drawMarks_127 rfl ?_
              refine jv_iload 0 (pc := 129) d_MO_drawMarks_129 rfl ?_
              refine jv_iload_n 5 (pc := 131) d_MO_drawMarks_131 rfl ?_
              obtain ⟨_, n132, c132, H⟩ := jbd_some H
              refine jv_callVv (sp_MO_lay x1 ((4 : Int32) + (σ 42 x3.toNatClampNeg)) (σ 44 x3.toNatClampNeg) (((σ 43 x3.toNatClampNeg) - (σ 41 (((4 : Int32) + (σ 42 x3.toNatClampNeg)).toNatClampNeg))) + (1 : Int32)) x2 c132) (pc := 132) d_MO_drawMarks_132 c0_MO_lay lk_MO_64 in_MO_lay se_MO_lay (by decide) rfl rfl rfl (Nat.le_of_ble_eq_true rfl) ⟨by decide, by decide, by decide, by decide⟩ (fun m132 h132 => ?_)
              have hb132 := h132
              have hb132 := hb132.symm
              subst hb132
              refine jv_iinc 6 _ (pc := 135) d_MO_drawMarks_135 rfl (jinc1 _) (by decide) (jst6 rfl) ?_
              refine jv_goto 2 (pc := 138) d_MO_drawMarks_138 rfl ?_
              exact jv_sub [3, 4, 5, 6] rfl (ih x1 x2 (x3 + 1) _ _ _ H)
          · have h73 : ¬ ((σ 38 21) ≤ (1 : Int32)) := h73
            have H := (if_neg h73).symm.trans H
            refine jv_iload 1 (pc := 76) d_MO_drawMarks_76 rfl ?_
            refine jv_aload_n 3 (pc := 78) d_MO_drawMarks_78 rfl ?_
            refine jv_getr (pc := 79) d_MO_drawMarks_79 fa_MO_13_MO (by decide) rfl rfl ?_
            refine jv_iload 2 (pc := 82) d_MO_drawMarks_82 rfl ?_
            obtain ⟨b84, H⟩ := jck_some H
            refine jv_iald (pc := 84) d_MO_drawMarks_84 (by decide) rfl b84 ?_
            refine jv_isub (pc := 85) d_MO_drawMarks_85 ?_
            refine jv_iconst 1 (pc := 86) d_MO_drawMarks_86 rfl ?_
            refine jv_iadd (pc := 87) d_MO_drawMarks_87 ?_
            refine jv_goto 93 (pc := 88) d_MO_drawMarks_88 rfl ?_
            refine jv_istore (pc := 93) d_MO_drawMarks_93 (by decide) (jst1 rfl) ?_
            refine jv_aload_n 3 (pc := 95) d_MO_drawMarks_95 rfl ?_
            refine jv_geti (pc := 96) d_MO_drawMarks_96 fa_MO_260_MO (by decide) rfl rfl ?_
            refine jv_iconst 2 (pc := 99) d_MO_drawMarks_99 rfl ?_
            refine jv_irem (pc := 100) d_MO_drawMarks_100 (by decide) ?_
            refine jv_if_ne 119 (pc := 101) d_MO_drawMarks_101 rfl (fun h101 => ?_) (fun h101 => ?_)
            · have h101 : ¬ (((σ 38 21) - (σ 38 21) / (2 : Int32) * (2 : Int32)) = 0) := h101
              have H := (if_neg h101).symm.trans H
              refine jv_iload 0 (pc := 119) d_MO_drawMarks_119 rfl ?_
              refine jv_istore (pc := 121) d_MO_drawMarks_121 (by decide) (jst0 rfl) ?_
              refine jv_aload_n 3 (pc := 123) d_MO_drawMarks_123 rfl ?_
              refine jv_iload_n 4 (pc := 124) d_MO_drawMarks_124 rfl ?_
              refine jv_iload 2 (pc := 125) d_MO_drawMarks_125 rfl ?_
              refine jv_iload 1 (pc := 127) d_MO_drawMarks_127 rfl ?_
              refine jv_iload 0 (pc := 129) d_MO_drawMarks_129 rfl ?_
              refine jv_iload_n 5 (pc := 131) d_MO_drawMarks_131 rfl ?_
              obtain ⟨_, n132, c132, H⟩ := jbd_some H
              refine jv_callVv (sp_MO_lay x1 ((4 : Int32) + (σ 42 x3.toNatClampNeg)) (((σ 44 x3.toNatClampNeg) - (σ 40 (((4 : Int32) + (σ 42 x3.toNatClampNeg)).toNatClampNeg))) + (1 : Int32)) (σ 43 x3.toNatClampNeg) x2 c132) (pc := 132) d_MO_drawMarks_132 c0_MO_lay lk_MO_64 in_MO_lay se_MO_lay (by decide) rfl rfl rfl (Nat.le_of_ble_eq_true rfl) ⟨by decide, by decide, by decide, by decide⟩ (fun m132 h132 => ?_)
              have hb132 := h132
              have hb132 := hb132.symm
              subst hb132
              refine jv_iinc 6 _ (pc := 135) d_MO_drawMarks_135 rfl (jinc1 _) (by decide) (jst6 rfl) ?_
              refine jv_goto 2 (pc := 138) d_MO_drawMarks_138 rfl ?_
              exact jv_sub [3, 4, 5, 6] rfl (ih x1 x2 (x3 + 1) _ _ _ H)
            · have h101 : ((σ 38 21) - (σ 38 21) / (2 : Int32) * (2 : Int32)) = 0 := h101
              have H := (if_pos h101).symm.trans H
              refine jv_iload 0 (pc := 104) d_MO_drawMarks_104 rfl ?_
              refine jv_aload_n 3 (pc := 106) d_MO_drawMarks_106 rfl ?_
              refine jv_getr (pc := 107) d_MO_drawMarks_107 fa_MO_16_MO (by decide) rfl rfl ?_
              refine jv_iload 2 (pc := 110) d_MO_drawMarks_110 rfl ?_
              obtain ⟨b112, H⟩ := jck_some H
              refine jv_iald (pc := 112) d_MO_drawMarks_112 (by decide) rfl b112 ?_
              refine jv_isub (pc := 113) d_MO_drawMarks_113 ?_
              refine jv_iconst 1 (pc := 114) d_MO_drawMarks_114 rfl ?_
              refine jv_iadd (pc := 115) d_MO_drawMarks_115 ?_
              refine jv_goto 121 (pc := 116) d_MO_drawMarks_116 rfl ?_
              refine jv_istore (pc := 121) d_MO_drawMarks_121 (by decide) (jst0 rfl) ?_
              refine jv_aload_n 3 (pc := 123) d_MO_drawMarks_123 rfl ?_
              refine jv_iload_n 4 (pc := 124) d_MO_drawMarks_124 rfl ?_
              refine jv_iload 2 (pc := 125) d_MO_drawMarks_125 rfl ?_
              refine jv_iload 1 (pc := 127) d_MO_drawMarks_127 rfl ?_
              refine jv_iload 0 (pc := 129) d_MO_drawMarks_129 rfl ?_
              refine jv_iload_n 5 (pc := 131) d_MO_drawMarks_131 rfl ?_
              obtain ⟨_, n132, c132, H⟩ := jbd_some H
              refine jv_callVv (sp_MO_lay x1 ((4 : Int32) + (σ 42 x3.toNatClampNeg)) (((σ 44 x3.toNatClampNeg) - (σ 40 (((4 : Int32) + (σ 42 x3.toNatClampNeg)).toNatClampNeg))) + (1 : Int32)) (((σ 43 x3.toNatClampNeg) - (σ 41 (((4 : Int32) + (σ 42 x3.toNatClampNeg)).toNatClampNeg))) + (1 : Int32)) x2 c132) (pc := 132) d_MO_drawMarks_132 c0_MO_lay lk_MO_64 in_MO_lay se_MO_lay (by decide) rfl rfl rfl (Nat.le_of_ble_eq_true rfl) ⟨by decide, by decide, by decide, by decide⟩ (fun m132 h132 => ?_)
              have hb132 := h132
              have hb132 := hb132.symm
              subst hb132
              refine jv_iinc 6 _ (pc := 135) d_MO_drawMarks_135 rfl (jinc1 _) (by decide) (jst6 rfl) ?_
              refine jv_goto 2 (pc := 138) d_MO_drawMarks_138 rfl ?_
              exact jv_sub [3, 4, 5, 6] rfl (ih x1 x2 (x3 + 1) _ _ _ H)
set_option maxRecDepth 40000 in
set_option maxHeartbeats 8000000 in
theorem sp_MO_drawMarks {G : jG} {σ τ : jMem} {r : Unit} (x1 x2 : Int32) (H : f_MO_drawMarks x1 x2 σ = some (r, τ)) : jSp G M_MO_drawMarks (jr 3 0 0) [.ref 38, .int x1, .int x2] σ (jU fun τ9 => τ9 = τ) := by
  refine jSp.of rfl rfl (Nat.le_of_ble_eq_true rfl) ?_
  show jV _ _ _ _ 0 0 0 [(0, .ref 38), (1, .int x1), (2, .int x2)] [] σ
  unfold f_MO_drawMarks at H
  refine jv_iconst 0 (pc := 0) d_MO_drawMarks_0 rfl ?_
  refine jv_istore_n (pc := 1) d_MO_drawMarks_1 rfl (by decide) (jsto_new rfl) ?_
  exact jv_sub [1, 2, 3, 0] rfl (lp_MO_drawMarks_2  _ x1 x2 (0 : Int32) _ _ _ H)
set_option maxRecDepth 40000 in
set_option maxHeartbeats 8000000 in
theorem sp_MO_text {G : jG} {σ τ : jMem} {r : Int32} (x1 x2 x3 x4 : Int32) (H : f_MO_text x1 x2 x3 x4 σ = some (r, τ)) : jSp G M_MO_text (jr 10 0 0) [.ref 38, .int x1, .int x2, .int x3, .int x4] σ (jI fun r9 τ9 => r9 = r ∧ τ9 = τ) := by
  refine jSp.of rfl rfl (Nat.le_of_ble_eq_true rfl) ?_
  show jV _ _ _ _ 0 0 0 [(0, .ref 38), (1, .int x1), (2, .int x2), (3, .int x3), (4, .int x4)] [] σ
  unfold f_MO_text at H
  refine jv_aload_n 0 (pc := 0) d_MO_text_0 rfl ?_
  refine jv_aload_n 0 (pc := 1) d_MO_text_1 rfl ?_
  refine jv_geti (pc := 2) d_MO_text_2 fa_MO_68_MO (by decide) rfl rfl ?_
  refine jv_if_ne 12 (pc := 5) d_MO_text_5 rfl (fun h5 => ?_) (fun h5 => ?_)
  · have h5 : ¬ ((σ 38 11) = 0) := h5
    have H := (if_neg h5).symm.trans H
    refine jv_iload_n 1 (pc := 12) d_MO_text_12 rfl ?_
    refine jv_callSi (sp_MO_isBoard x1) (pc := 13) d_MO_text_13 c0_MO_isBoard lk_MO_42 si_MO_isBoard rfl (Nat.le_of_ble_eq_true rfl) ⟨by decide, by decide, by decide, by decide⟩ (fun r13 m13 h13 => ?_)
    obtain ⟨ha13, hb13⟩ := h13
    subst ha13
    have hb13 := hb13.symm
    subst hb13
    refine jv_if_ne 23 (pc := 16) d_MO_text_16 rfl (fun h16 => ?_) (fun h16 => ?_)
    · have h16 : ¬ ((f_MO_isBoard x1 σ) = 0) := h16
      have H := (if_neg h16).symm.trans H
      refine jv_iload_n 2 (pc := 23) d_MO_text_23 rfl ?_
      refine jv_if_lt 43 (pc := 24) d_MO_text_24 rfl (fun h24 => ?_) (fun h24 => ?_)
      · have h24 : x2 < 0 := h24
        have H := (if_pos h24).symm.trans H
        refine jv_iconst 3 (pc := 43) d_MO_text_43 rfl ?_
        refine jv_goto 48 (pc := 44) d_MO_text_44 rfl ?_
        refine jv_puti (pc := 48) d_MO_text_48 fa_MO_34_MO fp_MO_0 (by decide) rfl rfl rfl rfl ?_
        refine jv_aload_n 0 (pc := 51) d_MO_text_51 rfl ?_
        refine jv_geti (pc := 52) d_MO_text_52 fa_MO_34_MO (by decide) rfl rfl ?_
        refine jv_if_le 60 (pc := 55) d_MO_text_55 rfl (fun h55 => absurd (show (3 : Int32) ≤ 0 from h55) (by decide)) (fun h55 => ?_)
        refine jv_iconst 0 (pc := 58) d_MO_text_58 rfl ?_
        refine jv_iret (pc := 59) d_MO_text_59 rfl rfl (Nat.zero_le _) (Nat.zero_le _) ?_
        cases H
        exact jI.of ⟨rfl, rfl⟩
      · have h24 : ¬ (x2 < 0) := h24
        have H := (if_neg h24).symm.trans H
        refine jv_iload_n 2 (pc := 27) d_MO_text_27 rfl ?_
        refine jv_iconst 3 (pc := 28) d_MO_text_28 rfl ?_
        refine jv_icmp_gt 43 (pc := 29) d_MO_text_29 rfl (fun h29 => ?_) (fun h29 => ?_)
        · have h29 : (3 : Int32) < x2 := h29
          have H := (if_pos h29).symm.trans H
          refine jv_iconst 3 (pc := 43) d_MO_text_43 rfl ?_
          refine jv_goto 48 (pc := 44) d_MO_text_44 rfl ?_
          refine jv_puti (pc := 48) d_MO_text_48 fa_MO_34_MO fp_MO_0 (by decide) rfl rfl rfl rfl ?_
          refine jv_aload_n 0 (pc := 51) d_MO_text_51 rfl ?_
          refine jv_geti (pc := 52) d_MO_text_52 fa_MO_34_MO (by decide) rfl rfl ?_
          refine jv_if_le 60 (pc := 55) d_MO_text_55 rfl (fun h55 => absurd (show (3 : Int32) ≤ 0 from h55) (by decide)) (fun h55 => ?_)
          refine jv_iconst 0 (pc := 58) d_MO_text_58 rfl ?_
          refine jv_iret (pc := 59) d_MO_text_59 rfl rfl (Nat.zero_le _) (Nat.zero_le _) ?_
          cases H
          exact jI.of ⟨rfl, rfl⟩
        · have h29 : ¬ ((3 : Int32) < x2) := h29
          have H := (if_neg h29).symm.trans H
          refine jv_iload 4 (pc := 32) d_MO_text_32 rfl ?_
          refine jv_if_lt 43 (pc := 34) d_MO_text_34 rfl (fun h34 => ?_) (fun h34 => ?_)
          · have h34 : x4 < 0 := h34
            have H := (if_pos h34).symm.trans H
            refine jv_iconst 3 (pc := 43) d_MO_text_43 rfl ?_
            refine jv_goto 48 (pc := 44) d_MO_text_44 rfl ?_
            refine jv_puti (pc := 48) d_MO_text_48 fa_MO_34_MO fp_MO_0 (by decide) rfl rfl rfl rfl ?_
            refine jv_aload_n 0 (pc := 51) d_MO_text_51 rfl ?_
            refine jv_geti (pc := 52) d_MO_text_52 fa_MO_34_MO (by decide) rfl rfl ?_
            refine jv_if_le 60 (pc := 55) d_MO_text_55 rfl (fun h55 => absurd (show (3 : Int32) ≤ 0 from h55) (by decide)) (fun h55 => ?_)
            refine jv_iconst 0 (pc := 58) d_MO_text_58 rfl ?_
            refine jv_iret (pc := 59) d_MO_text_59 rfl rfl (Nat.zero_le _) (Nat.zero_le _) ?_
            cases H
            exact jI.of ⟨rfl, rfl⟩
          · have h34 : ¬ (x4 < 0) := h34
            have H := (if_neg h34).symm.trans H
            refine jv_iload 4 (pc := 37) d_MO_text_37 rfl ?_
            refine jv_iconst 4 (pc := 39) d_MO_text_39 rfl ?_
            refine jv_icmp_le 47 (pc := 40) d_MO_text_40 rfl (fun h40 => ?_) (fun h40 => ?_)
            · have h40 : x4 ≤ (4 : Int32) := h40
              have H := (if_pos h40).symm.trans H
              refine jv_iconst 0 (pc := 47) d_MO_text_47 rfl ?_
              refine jv_puti (pc := 48) d_MO_text_48 fa_MO_34_MO fp_MO_0 (by decide) rfl rfl rfl rfl ?_
              refine jv_aload_n 0 (pc := 51) d_MO_text_51 rfl ?_
              refine jv_geti (pc := 52) d_MO_text_52 fa_MO_34_MO (by decide) rfl rfl ?_
              refine jv_if_le 60 (pc := 55) d_MO_text_55 rfl (fun h55 => ?_) (fun h55 => absurd (show (0 : Int32) ≤ 0 by decide) (show ¬ ((0 : Int32) ≤ 0) from h55))
              refine jv_aload_n 0 (pc := 60) d_MO_text_60 rfl ?_
              refine jv_iload_n 2 (pc := 61) d_MO_text_61 rfl ?_
              refine jv_puti (pc := 62) d_MO_text_62 fa_MO_260_MO fp_MO_21 (by decide) rfl rfl rfl rfl ?_
              refine jv_aload_n 0 (pc := 65) d_MO_text_65 rfl ?_
              refine jv_iload_n 3 (pc := 66) d_MO_text_66 rfl ?_
              obtain ⟨b67, H⟩ := jck_some H
              refine jv_puti (pc := 67) d_MO_text_67 fa_MO_257_MO fp_MO_22 (by decide) rfl rfl (jnb b67) (jfb b67) ?_
              refine jv_iconst 1 (pc := 70) d_MO_text_70 rfl ?_
              refine jv_istore (pc := 71) d_MO_text_71 (by decide) (jsto_new rfl) ?_
              refine jv_aload_n 1 (pc := 73) d_MO_text_73 rfl ?_
              refine jv_geti (pc := 74) d_MO_text_74 fa_MO_68_MO (by decide) rfl rfl ?_
              refine jv_iconst 1 (pc := 77) d_MO_text_77 rfl ?_
              refine jv_icmp_ne 88 (pc := 78) d_MO_text_78 rfl (fun h78 => ?_) (fun h78 => ?_)
              · have h78 : ¬ ((σ 38 11) = (1 : Int32)) := h78
                have H := (if_neg h78).symm.trans H
                refine jv_aload_n 1 (pc := 88) d_MO_text_88 rfl ?_
                obtain ⟨v89, n89, c89, H⟩ := jbd_some H
                refine jv_callVi (sp_MO_readText c89) (pc := 89) d_MO_text_89 c0_MO_readText lk_MO_278 in_MO_readText se_MO_readText (by decide) rfl rfl rfl (Nat.le_of_ble_eq_true rfl) ⟨by decide, by decide, by decide, by decide⟩ (fun r89 m89 h89 => ?_)
                obtain ⟨ha89, hb89⟩ := h89
                have ha89 := ha89.symm
                subst ha89
                have hb89 := hb89.symm
                subst hb89
                refine jv_istore (pc := 92) d_MO_text_92 (by decide) (jst0 rfl) ?_
                refine jv_iload 0 (pc := 94) d_MO_text_94 rfl ?_
                refine jv_if_eq 111 (pc := 96) d_MO_text_96 rfl (fun h96 => ?_) (fun h96 => ?_)
                · have h96 : v89 = 0 := h96
                  have H := (if_pos h96).symm.trans H
                  refine jv_aload_n 1 (pc := 111) d_MO_text_111 rfl ?_
                  refine jv_iconst 0 (pc := 112) d_MO_text_112 rfl ?_
                  refine jv_puti (pc := 113) d_MO_text_113 fa_MO_235_MO fp_MO_5 (by decide) rfl rfl rfl rfl ?_
                  refine jv_aload_n 1 (pc := 116) d_MO_text_116 rfl ?_
                  refine jv_iconst 0 (pc := 117) d_MO_text_117 rfl ?_
                  refine jv_puti (pc := 118) d_MO_text_118 fa_MO_68_MO fp_MO_11 (by decide) rfl rfl rfl rfl ?_
                  refine jv_iconst (-1) (pc := 121) d_MO_text_121 rfl ?_
                  refine jv_iret (pc := 122) d_MO_text_122 rfl rfl (Nat.zero_le _) (Nat.zero_le _) ?_
                  cases H
                  exact jI.of ⟨rfl, rfl⟩
                · have h96 : ¬ (v89 = 0) := h96
                  have H := (if_neg h96).symm.trans H
                  refine jv_aload_n 1 (pc := 99) d_MO_text_99 rfl ?_
                  refine jv_iload_n 2 (pc := 100) d_MO_text_100 rfl ?_
                  refine jv_iload 5 (pc := 101) d_MO_text_101 rfl ?_
                  obtain ⟨_, n103, c103, H⟩ := jbd_some H
                  refine jv_callVv (sp_MO_drawMarks x1 x4 c103) (pc := 103) d_MO_text_103 c0_MO_drawMarks lk_MO_282 in_MO_drawMarks se_MO_drawMarks (by decide) rfl rfl rfl (Nat.le_of_ble_eq_true rfl) ⟨by decide, by decide, by decide, by decide⟩ (fun m103 h103 => ?_)
                  have hb103 := h103
                  have hb103 := hb103.symm
                  subst hb103
                  refine jv_aload_n 1 (pc := 106) d_MO_text_106 rfl ?_
                  refine jv_geti (pc := 107) d_MO_text_107 fa_MO_235_MO (by decide) rfl rfl ?_
                  refine jv_iret (pc := 110) d_MO_text_110 rfl rfl (Nat.zero_le _) (Nat.zero_le _) ?_
                  cases H
                  exact jI.of ⟨rfl, rfl⟩
              · have h78 : (σ 38 11) = (1 : Int32) := h78
                have H := (if_pos h78).symm.trans H
                refine jv_aload_n 1 (pc := 81) d_MO_text_81 rfl ?_
                obtain ⟨_, n82, c82, H⟩ := jbd_some H
                refine jv_callVv (sp_MO_writeText c82) (pc := 82) d_MO_text_82 c0_MO_writeText lk_MO_275 in_MO_writeText se_MO_writeText (by decide) rfl rfl rfl (Nat.le_of_ble_eq_true rfl) ⟨by decide, by decide, by decide, by decide⟩ (fun m82 h82 => ?_)
                have hb82 := h82
                have hb82 := hb82.symm
                subst hb82
                refine jv_goto 94 (pc := 85) d_MO_text_85 rfl ?_
                refine jv_iload 0 (pc := 94) d_MO_text_94 rfl ?_
                refine jv_if_eq 111 (pc := 96) d_MO_text_96 rfl (fun h96 => absurd (show (1 : Int32) = 0 from h96) (by decide)) (fun h96 => ?_)
                refine jv_aload_n 1 (pc := 99) d_MO_text_99 rfl ?_
                refine jv_iload_n 2 (pc := 100) d_MO_text_100 rfl ?_
                refine jv_iload 5 (pc := 101) d_MO_text_101 rfl ?_
                obtain ⟨_, n103, c103, H⟩ := jbd_some H
                refine jv_callVv (sp_MO_drawMarks x1 x4 c103) (pc := 103) d_MO_text_103 c0_MO_drawMarks lk_MO_282 in_MO_drawMarks se_MO_drawMarks (by decide) rfl rfl rfl (Nat.le_of_ble_eq_true rfl) ⟨by decide, by decide, by decide, by decide⟩ (fun m103 h103 => ?_)
                have hb103 := h103
                have hb103 := hb103.symm
                subst hb103
                refine jv_aload_n 1 (pc := 106) d_MO_text_106 rfl ?_
                refine jv_geti (pc := 107) d_MO_text_107 fa_MO_235_MO (by decide) rfl rfl ?_
                refine jv_iret (pc := 110) d_MO_text_110 rfl rfl (Nat.zero_le _) (Nat.zero_le _) ?_
                cases H
                exact jI.of ⟨rfl, rfl⟩
            · have h40 : ¬ (x4 ≤ (4 : Int32)) := h40
              have H := (if_neg h40).symm.trans H
              refine jv_iconst 3 (pc := 43) d_MO_text_43 rfl ?_
              refine jv_goto 48 (pc := 44) d_MO_text_44 rfl ?_
              refine jv_puti (pc := 48) d_MO_text_48 fa_MO_34_MO fp_MO_0 (by decide) rfl rfl rfl rfl ?_
              refine jv_aload_n 0 (pc := 51) d_MO_text_51 rfl ?_
              refine jv_geti (pc := 52) d_MO_text_52 fa_MO_34_MO (by decide) rfl rfl ?_
              refine jv_if_le 60 (pc := 55) d_MO_text_55 rfl (fun h55 => absurd (show (3 : Int32) ≤ 0 from h55) (by decide)) (fun h55 => ?_)
              refine jv_iconst 0 (pc := 58) d_MO_text_58 rfl ?_
              refine jv_iret (pc := 59) d_MO_text_59 rfl rfl (Nat.zero_le _) (Nat.zero_le _) ?_
              cases H
              exact jI.of ⟨rfl, rfl⟩
    · have h16 : (f_MO_isBoard x1 σ) = 0 := h16
      have H := (if_pos h16).symm.trans H
      refine jv_iconst 2 (pc := 19) d_MO_text_19 rfl ?_
      refine jv_goto 48 (pc := 20) d_MO_text_20 rfl ?_
      refine jv_puti (pc := 48) d_MO_text_48 fa_MO_34_MO fp_MO_0 (by decide) rfl rfl rfl rfl ?_
      refine jv_aload_n 0 (pc := 51) d_MO_text_51 rfl ?_
      refine jv_geti (pc := 52) d_MO_text_52 fa_MO_34_MO (by decide) rfl rfl ?_
      refine jv_if_le 60 (pc := 55) d_MO_text_55 rfl (fun h55 => absurd (show (2 : Int32) ≤ 0 from h55) (by decide)) (fun h55 => ?_)
      refine jv_iconst 0 (pc := 58) d_MO_text_58 rfl ?_
      refine jv_iret (pc := 59) d_MO_text_59 rfl rfl (Nat.zero_le _) (Nat.zero_le _) ?_
      cases H
      exact jI.of ⟨rfl, rfl⟩
  · have h5 : (σ 38 11) = 0 := h5
    have H := (if_pos h5).symm.trans H
    refine jv_iconst 1 (pc := 8) d_MO_text_8 rfl ?_
    refine jv_goto 48 (pc := 9) d_MO_text_9 rfl ?_
    refine jv_puti (pc := 48) d_MO_text_48 fa_MO_34_MO fp_MO_0 (by decide) rfl rfl rfl rfl ?_
    refine jv_aload_n 0 (pc := 51) d_MO_text_51 rfl ?_
    refine jv_geti (pc := 52) d_MO_text_52 fa_MO_34_MO (by decide) rfl rfl ?_
    refine jv_if_le 60 (pc := 55) d_MO_text_55 rfl (fun h55 => absurd (show (1 : Int32) ≤ 0 from h55) (by decide)) (fun h55 => ?_)
    refine jv_iconst 0 (pc := 58) d_MO_text_58 rfl ?_
    refine jv_iret (pc := 59) d_MO_text_59 rfl rfl (Nat.zero_le _) (Nat.zero_le _) ?_
    cases H
    exact jI.of ⟨rfl, rfl⟩
