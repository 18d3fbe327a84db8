/-! the class: points, numbers, dictionary, text, what never throws: functions and contracts, by program -/
set_option maxRecDepth 40000 in
set_option maxHeartbeats 8000000 in
theorem sp_PT_contextOf {G : jG} {σ τ : jMem} {r : Int32} (p : Nat) (x1 x2 x3 : Int32) (hp : p < 12) (H : f_PT_contextOf p x1 x2 x3 σ = some (r, τ)) : jSp G M_PT_contextOf (jr 1 0 0) [.ref (14 + 2 * p), .int x1, .int x2, .int x3] σ (jI fun r9 τ9 => r9 = r ∧ τ9 = τ) := by
  refine jSp.of rfl rfl (Nat.le_of_ble_eq_true rfl) ?_
  show jV _ _ _ _ 0 0 0 [(0, .ref (14 + 2 * p)), (1, .int x1), (2, .int x2), (3, .int x3)] [] σ
  unfold f_PT_contextOf at H
  refine jv_iload_n 1 (pc := 0) d_PT_contextOf_0 rfl ?_
  by_cases h1_1 : x1 = 1
  · have H := (if_pos h1_1).symm.trans H
    refine jv_lks (off := 27) 28 (pc := 1) d_PT_contextOf_1 rfl (by rw [h1_1]; rfl) rfl ?_
    refine jv_iconst 0 (pc := 28) d_PT_contextOf_28 rfl ?_
    refine jv_aload_n 0 (pc := 29) d_PT_contextOf_29 rfl ?_
    refine jv_iload_n 3 (pc := 30) d_PT_contextOf_30 rfl ?_
    refine jv_iconst 2 (pc := 31) d_PT_contextOf_31 rfl ?_
    refine jv_isub (pc := 32) d_PT_contextOf_32 ?_
    refine jv_iload_n 2 (pc := 33) d_PT_contextOf_33 rfl ?_
    refine jv_iconst 2 (pc := 34) d_PT_contextOf_34 rfl ?_
    refine jv_iadd (pc := 35) d_PT_contextOf_35 ?_
    refine jv_iconst 4 (pc := 36) d_PT_contextOf_36 rfl ?_
    obtain ⟨v37, n37, c37, H⟩ := jbd_some H
    refine jv_callVi (sp_PI_span p (x3 - (2 : Int32)) (x2 + (2 : Int32)) (4 : Int32) hp c37) (pc := 37) d_PT_contextOf_37 c0_PI_span lk_PT_34 in_PI_span se_PI_span (show 14 + 2 * p < jN by unfold jN; omega) (jshp_pic hp) rfl rfl (Nat.le_of_ble_eq_true rfl) ⟨by decide, by decide, by decide, by decide⟩ (fun r37 m37 h37 => ?_)
    obtain ⟨ha37, hb37⟩ := h37
    have ha37 := ha37.symm
    subst ha37
    have hb37 := hb37.symm
    subst hb37
    refine jv_bipush (9) (pc := 40) d_PT_contextOf_40 rfl ?_
    refine jv_ishl (pc := 42) d_PT_contextOf_42 ?_
    refine jv_aload_n 0 (pc := 43) d_PT_contextOf_43 rfl ?_
    refine jv_iload_n 3 (pc := 44) d_PT_contextOf_44 rfl ?_
    refine jv_iconst 1 (pc := 45) d_PT_contextOf_45 rfl ?_
    refine jv_isub (pc := 46) d_PT_contextOf_46 ?_
    refine jv_iload_n 2 (pc := 47) d_PT_contextOf_47 rfl ?_
    refine jv_iconst 3 (pc := 48) d_PT_contextOf_48 rfl ?_
    refine jv_iadd (pc := 49) d_PT_contextOf_49 ?_
    refine jv_bipush (6) (pc := 50) d_PT_contextOf_50 rfl ?_
    obtain ⟨v52, n52, c52, H⟩ := jbd_some H
    refine jv_callVi (sp_PI_span p (x3 - (1 : Int32)) (x2 + (3 : Int32)) (6 : Int32) hp c52) (pc := 52) d_PT_contextOf_52 c0_PI_span lk_PT_34 in_PI_span se_PI_span (show 14 + 2 * p < jN by unfold jN; omega) (jshp_pic hp) rfl rfl (Nat.le_of_ble_eq_true rfl) ⟨by decide, by decide, by decide, by decide⟩ (fun r52 m52 h52 => ?_)
    obtain ⟨ha52, hb52⟩ := h52
    have ha52 := ha52.symm
    subst ha52
    have hb52 := hb52.symm
    subst hb52
    refine jv_iconst 3 (pc := 55) d_PT_contextOf_55 rfl ?_
    refine jv_ishl (pc := 56) d_PT_contextOf_56 ?_
    refine jv_ior (pc := 57) d_PT_contextOf_57 ?_
    refine jv_aload_n 0 (pc := 58) d_PT_contextOf_58 rfl ?_
    refine jv_iload_n 3 (pc := 59) d_PT_contextOf_59 rfl ?_
    refine jv_iload_n 2 (pc := 60) d_PT_contextOf_60 rfl ?_
    refine jv_iconst 1 (pc := 61) d_PT_contextOf_61 rfl ?_
    refine jv_isub (pc := 62) d_PT_contextOf_62 ?_
    refine jv_iconst 3 (pc := 63) d_PT_contextOf_63 rfl ?_
    obtain ⟨v64, n64, c64, H⟩ := jbd_some H
    refine jv_callVi (sp_PI_span p x3 (x2 - (1 : Int32)) (3 : Int32) hp c64) (pc := 64) d_PT_contextOf_64 c0_PI_span lk_PT_34 in_PI_span se_PI_span (show 14 + 2 * p < jN by unfold jN; omega) (jshp_pic hp) rfl rfl (Nat.le_of_ble_eq_true rfl) ⟨by decide, by decide, by decide, by decide⟩ (fun r64 m64 h64 => ?_)
    obtain ⟨ha64, hb64⟩ := h64
    have ha64 := ha64.symm
    subst ha64
    have hb64 := hb64.symm
    subst hb64
    refine jv_ior (pc := 67) d_PT_contextOf_67 ?_
    refine jv_iadd (pc := 68) d_PT_contextOf_68 ?_
    refine jv_iret (pc := 69) d_PT_contextOf_69 rfl rfl (Nat.zero_le _) (Nat.zero_le _) ?_
    cases H
    exact jI.of ⟨rfl, rfl⟩
  have H := (if_neg h1_1).symm.trans H
  by_cases h1_2 : x1 = 2
  · have H := (if_pos h1_2).symm.trans H
    refine jv_lks (off := 69) 70 (pc := 1) d_PT_contextOf_1 rfl (by rw [h1_2]; rfl) rfl ?_
    refine jv_sipush (8192) (pc := 70) d_PT_contextOf_70 rfl ?_
    refine jv_aload_n 0 (pc := 73) d_PT_contextOf_73 rfl ?_
    refine jv_iload_n 3 (pc := 74) d_PT_contextOf_74 rfl ?_
    refine jv_iconst 2 (pc := 75) d_PT_contextOf_75 rfl ?_
    refine jv_isub (pc := 76) d_PT_contextOf_76 ?_
    refine jv_iload_n 2 (pc := 77) d_PT_contextOf_77 rfl ?_
    refine jv_iconst 1 (pc := 78) d_PT_contextOf_78 rfl ?_
    refine jv_iadd (pc := 79) d_PT_contextOf_79 ?_
    refine jv_iconst 3 (pc := 80) d_PT_contextOf_80 rfl ?_
    obtain ⟨v81, n81, c81, H⟩ := jbd_some H
    refine jv_callVi (sp_PI_span p (x3 - (2 : Int32)) (x2 + (1 : Int32)) (3 : Int32) hp c81) (pc := 81) d_PT_contextOf_81 c0_PI_span lk_PT_34 in_PI_span se_PI_span (show 14 + 2 * p < jN by unfold jN; omega) (jshp_pic hp) rfl rfl (Nat.le_of_ble_eq_true rfl) ⟨by decide, by decide, by decide, by decide⟩ (fun r81 m81 h81 => ?_)
    obtain ⟨ha81, hb81⟩ := h81
    have ha81 := ha81.symm
    subst ha81
    have hb81 := hb81.symm
    subst hb81
    refine jv_bipush (7) (pc := 84) d_PT_contextOf_84 rfl ?_
    refine jv_ishl (pc := 86) d_PT_contextOf_86 ?_
    refine jv_aload_n 0 (pc := 87) d_PT_contextOf_87 rfl ?_
    refine jv_iload_n 3 (pc := 88) d_PT_contextOf_88 rfl ?_
    refine jv_iconst 1 (pc := 89) d_PT_contextOf_89 rfl ?_
    refine jv_isub (pc := 90) d_PT_contextOf_90 ?_
    refine jv_iload_n 2 (pc := 91) d_PT_contextOf_91 rfl ?_
    refine jv_iconst 2 (pc := 92) d_PT_contextOf_92 rfl ?_
    refine jv_iadd (pc := 93) d_PT_contextOf_93 ?_
    refine jv_iconst 5 (pc := 94) d_PT_contextOf_94 rfl ?_
    obtain ⟨v95, n95, c95, H⟩ := jbd_some H
    refine jv_callVi (sp_PI_span p (x3 - (1 : Int32)) (x2 + (2 : Int32)) (5 : Int32) hp c95) (pc := 95) d_PT_contextOf_95 c0_PI_span lk_PT_34 in_PI_span se_PI_span (show 14 + 2 * p < jN by unfold jN; omega) (jshp_pic hp) rfl rfl (Nat.le_of_ble_eq_true rfl) ⟨by decide, by decide, by decide, by decide⟩ (fun r95 m95 h95 => ?_)
    obtain ⟨ha95, hb95⟩ := h95
    have ha95 := ha95.symm
    subst ha95
    have hb95 := hb95.symm
    subst hb95
    refine jv_iconst 2 (pc := 98) d_PT_contextOf_98 rfl ?_
    refine jv_ishl (pc := 99) d_PT_contextOf_99 ?_
    refine jv_ior (pc := 100) d_PT_contextOf_100 ?_
    refine jv_aload_n 0 (pc := 101) d_PT_contextOf_101 rfl ?_
    refine jv_iload_n 3 (pc := 102) d_PT_contextOf_102 rfl ?_
    refine jv_iload_n 2 (pc := 103) d_PT_contextOf_103 rfl ?_
    refine jv_iconst 1 (pc := 104) d_PT_contextOf_104 rfl ?_
    refine jv_isub (pc := 105) d_PT_contextOf_105 ?_
    refine jv_iconst 2 (pc := 106) d_PT_contextOf_106 rfl ?_
    obtain ⟨v107, n107, c107, H⟩ := jbd_some H
    refine jv_callVi (sp_PI_span p x3 (x2 - (1 : Int32)) (2 : Int32) hp c107) (pc := 107) d_PT_contextOf_107 c0_PI_span lk_PT_34 in_PI_span se_PI_span (show 14 + 2 * p < jN by unfold jN; omega) (jshp_pic hp) rfl rfl (Nat.le_of_ble_eq_true rfl) ⟨by decide, by decide, by decide, by decide⟩ (fun r107 m107 h107 => ?_)
    obtain ⟨ha107, hb107⟩ := h107
    have ha107 := ha107.symm
    subst ha107
    have hb107 := hb107.symm
    subst hb107
    refine jv_ior (pc := 110) d_PT_contextOf_110 ?_
    refine jv_iadd (pc := 111) d_PT_contextOf_111 ?_
    refine jv_iret (pc := 112) d_PT_contextOf_112 rfl rfl (Nat.zero_le _) (Nat.zero_le _) ?_
    cases H
    exact jI.of ⟨rfl, rfl⟩
  have H := (if_neg h1_2).symm.trans H
  refine jv_lks (off := 112) 113 (pc := 1) d_PT_contextOf_1 rfl (by show Op.lookupswitch.offset [(1, 27), (2, 69)] (112) _ = _; rw [lv_osw (a := 1) h1_1 (by decide)]; rw [lv_osw (a := 2) h1_2 (by decide)]; rfl) rfl ?_
  refine jv_sipush (9216) (pc := 113) d_PT_contextOf_113 rfl ?_
  refine jv_aload_n 0 (pc := 116) d_PT_contextOf_116 rfl ?_
  refine jv_iload_n 3 (pc := 117) d_PT_contextOf_117 rfl ?_
  refine jv_iconst 1 (pc := 118) d_PT_contextOf_118 rfl ?_
  refine jv_isub (pc := 119) d_PT_contextOf_119 ?_
  refine jv_iload_n 2 (pc := 120) d_PT_contextOf_120 rfl ?_
  refine jv_iconst 2 (pc := 121) d_PT_contextOf_121 rfl ?_
  refine jv_iadd (pc := 122) d_PT_contextOf_122 ?_
  refine jv_bipush (6) (pc := 123) d_PT_contextOf_123 rfl ?_
  obtain ⟨v125, n125, c125, H⟩ := jbd_some H
  refine jv_callVi (sp_PI_span p (x3 - (1 : Int32)) (x2 + (2 : Int32)) (6 : Int32) hp c125) (pc := 125) d_PT_contextOf_125 c0_PI_span lk_PT_34 in_PI_span se_PI_span (show 14 + 2 * p < jN by unfold jN; omega) (jshp_pic hp) rfl rfl (Nat.le_of_ble_eq_true rfl) ⟨by decide, by decide, by decide, by decide⟩ (fun r125 m125 h125 => ?_)
  obtain ⟨ha125, hb125⟩ := h125
  have ha125 := ha125.symm
  subst ha125
  have hb125 := hb125.symm
  subst hb125
  refine jv_iconst 4 (pc := 128) d_PT_contextOf_128 rfl ?_
  refine jv_ishl (pc := 129) d_PT_contextOf_129 ?_
  refine jv_aload_n 0 (pc := 130) d_PT_contextOf_130 rfl ?_
  refine jv_iload_n 3 (pc := 131) d_PT_contextOf_131 rfl ?_
  refine jv_iload_n 2 (pc := 132) d_PT_contextOf_132 rfl ?_
  refine jv_iconst 1 (pc := 133) d_PT_contextOf_133 rfl ?_
  refine jv_isub (pc := 134) d_PT_contextOf_134 ?_
  refine jv_iconst 4 (pc := 135) d_PT_contextOf_135 rfl ?_
  obtain ⟨v136, n136, c136, H⟩ := jbd_some H
  refine jv_callVi (sp_PI_span p x3 (x2 - (1 : Int32)) (4 : Int32) hp c136) (pc := 136) d_PT_contextOf_136 c0_PI_span lk_PT_34 in_PI_span se_PI_span (show 14 + 2 * p < jN by unfold jN; omega) (jshp_pic hp) rfl rfl (Nat.le_of_ble_eq_true rfl) ⟨by decide, by decide, by decide, by decide⟩ (fun r136 m136 h136 => ?_)
  obtain ⟨ha136, hb136⟩ := h136
  have ha136 := ha136.symm
  subst ha136
  have hb136 := hb136.symm
  subst hb136
  refine jv_ior (pc := 139) d_PT_contextOf_139 ?_
  refine jv_iadd (pc := 140) d_PT_contextOf_140 ?_
  refine jv_iret (pc := 141) d_PT_contextOf_141 rfl rfl (Nat.zero_le _) (Nat.zero_le _) ?_
  cases H
  exact jI.of ⟨rfl, rfl⟩
set_option maxRecDepth 20000 in
set_option maxHeartbeats 2000000 in
theorem sp_NU_isOne {G : jG} {σ : jMem} (x0 : Int32) : jSp G M_NU_isOne (jr 0 0 0) [.int x0] σ (jI fun r τ => r = f_NU_isOne x0 σ ∧ τ = σ) := by
  refine jSp.of rfl rfl (Nat.le_of_ble_eq_true rfl) ?_
  show jV _ _ _ _ 0 0 0 [(0, .int x0)] [] σ
  refine jv_iload_n 0 (pc := 0) d_NU_isOne_0 rfl ?_
  refine jv_iconst 1 (pc := 1) d_NU_isOne_1 rfl ?_
  refine jv_iand (pc := 2) d_NU_isOne_2 ?_
  refine jv_iconst 1 (pc := 3) d_NU_isOne_3 rfl ?_
  refine jv_icmp_ne 11 (pc := 4) d_NU_isOne_4 rfl (fun h4 => ?_) (fun h4 => ?_)
  · skip
    refine jv_iconst 0 (pc := 11) d_NU_isOne_11 rfl ?_
    refine jv_iret (pc := 12) d_NU_isOne_12 rfl ?_ (by decide) (by decide) ?_
    · rfl
    have h4 : ¬ ((x0 &&& (1 : Int32)) = (1 : Int32)) := h4
    refine jI.of ?_
    unfold f_NU_isOne
    rw [if_neg h4]
    exact ⟨rfl, rfl⟩
  · skip
    refine jv_iconst 1 (pc := 7) d_NU_isOne_7 rfl ?_
    refine jv_goto 12 (pc := 8) d_NU_isOne_8 rfl ?_
    refine jv_iret (pc := 12) d_NU_isOne_12 rfl ?_ (by decide) (by decide) ?_
    · rfl
    have h4 : (x0 &&& (1 : Int32)) = (1 : Int32) := h4
    refine jI.of ?_
    unfold f_NU_isOne
    rw [if_pos h4]
    exact ⟨rfl, rfl⟩
theorem fb_NU_isOne (x0 : Int32) (σ : jMem) : f_NU_isOne x0 σ = 0 ∨ f_NU_isOne x0 σ = 1 := by
  unfold f_NU_isOne
  repeat' split
  all_goals first | exact Or.inl rfl | exact Or.inr rfl
set_option maxRecDepth 40000 in
set_option maxHeartbeats 8000000 in
theorem sp_NU_follow_W {G : jG} {σ τ : jMem} {r : Int32} (x1 x2 x3 : Int32) (H : f_NU_follow_W x1 x2 x3 σ = some (r, τ)) : jSp G M_NU_follow (jr 4 0 0) [.ref 12, .int x1, .int x2, .int x3] σ (jI fun r9 τ9 => r9 = r ∧ τ9 = τ) := by
  refine jSp.of rfl rfl (Nat.le_of_ble_eq_true rfl) ?_
  show jV _ _ _ _ 0 0 0 [(0, .ref 12), (1, .int x1), (2, .int x2), (3, .int x3)] [] σ
  unfold f_NU_follow_W at H
  refine jv_iconst 2 (pc := 0) d_NU_follow_0 rfl ?_
  refine jv_iload_n 2 (pc := 1) d_NU_follow_1 rfl ?_
  refine jv_imul (pc := 2) d_NU_follow_2 ?_
  refine jv_aload_n 0 (pc := 3) d_NU_follow_3 rfl ?_
  refine jv_iload_n 1 (pc := 4) d_NU_follow_4 rfl ?_
  refine jv_iload_n 2 (pc := 5) d_NU_follow_5 rfl ?_
  refine jv_iadd (pc := 6) d_NU_follow_6 ?_
  refine jv_iload_n 3 (pc := 7) d_NU_follow_7 rfl ?_
  obtain ⟨v8, n8, c8, H⟩ := jbd_some H
  refine jv_callOi (sp_WR_decide (x1 + x2) x3 c8) (pc := 8) d_NU_follow_8 c0_WR_decide rfl lo_NU_35 in_WR_decide so_WR (by decide) rfl rfl rfl (Nat.le_of_ble_eq_true rfl) ⟨by decide, by decide, by decide, by decide⟩ (fun r8 m8 h8 => ?_)
  obtain ⟨ha8, hb8⟩ := h8
  have ha8 := ha8.symm
  subst ha8
  have hb8 := hb8.symm
  subst hb8
  refine jv_iadd (pc := 11) d_NU_follow_11 ?_
  refine jv_istore (pc := 12) d_NU_follow_12 (by decide) (jsto_new rfl) ?_
  refine jv_iload_n 3 (pc := 14) d_NU_follow_14 rfl ?_
  refine jv_sipush (256) (pc := 15) d_NU_follow_15 rfl ?_
  refine jv_icmp_ge 26 (pc := 18) d_NU_follow_18 rfl (fun h18 => ?_) (fun h18 => ?_)
  · have h18 : (256 : Int32) ≤ x2 := h18
    have H := (if_pos h18).symm.trans H
    refine jv_iload 0 (pc := 26) d_NU_follow_26 rfl ?_
    refine jv_sipush (255) (pc := 28) d_NU_follow_28 rfl ?_
    refine jv_iand (pc := 31) d_NU_follow_31 ?_
    refine jv_sipush (256) (pc := 32) d_NU_follow_32 rfl ?_
    refine jv_ior (pc := 35) d_NU_follow_35 ?_
    refine jv_iret (pc := 36) d_NU_follow_36 rfl rfl (Nat.zero_le _) (Nat.zero_le _) ?_
    cases H
    exact jI.of ⟨rfl, rfl⟩
  · have h18 : ¬ ((256 : Int32) ≤ x2) := h18
    have H := (if_neg h18).symm.trans H
    refine jv_iload 0 (pc := 21) d_NU_follow_21 rfl ?_
    refine jv_goto 36 (pc := 23) d_NU_follow_23 rfl ?_
    refine jv_iret (pc := 36) d_NU_follow_36 rfl rfl (Nat.zero_le _) (Nat.zero_le _) ?_
    cases H
    exact jI.of ⟨rfl, rfl⟩
set_option maxRecDepth 40000 in
set_option maxHeartbeats 8000000 in
theorem lp_NU_codeNumber_W_116 {G : jG} : ∀ (n : Nat) (x1 x2 x3 x4 x5 x6 x7 x8 x9 : Int32) (σ τ : jMem) (r : Int32), f_NU_codeNumber_W_L116 n x1 x2 x3 x4 x5 x6 x7 x8 x9 σ = some (r, τ) → jV G M_NU_codeNumber (jr 5 0 0) (jI fun r9 τ9 => r9 = r ∧ τ9 = τ) 0 0 116 [(0, .ref 12), (1, .int x1), (2, .int x2), (3, .int x3), (4, .int x4), (5, .int x5), (6, .int x6), (7, .int x7), (8, .int x8), (9, .int x9)] [] σ := by
  intro n
  induction n with
  | zero =>
    intro x1 x2 x3 x4 x5 x6 x7 x8 x9 σ τ r H
    cases H
  | succ n ih =>
    intro x1 x2 x3 x4 x5 x6 x7 x8 x9 σ τ r H
    rw [f_NU_codeNumber_W_L116.eq_2] at H
    refine jv_iload 9 (pc := 116) d_NU_codeNumber_116 rfl ?_
    refine jv_if_lt 161 (pc := 118) d_NU_codeNumber_118 rfl (fun h118 => ?_) (fun h118 => ?_)
    · have h118 : x9 < 0 := h118
      have H := (if_pos h118).symm.trans H
      refine jv_iload 6 (pc := 161) d_NU_codeNumber_161 rfl ?_
      refine jv_if_eq 179 (pc := 163) d_NU_codeNumber_163 rfl (fun h163 => ?_) (fun h163 => ?_)
      · have h163 : x6 = 0 := h163
        have H := (if_pos h163).symm.trans H
        refine jv_gets (pc := 179) d_NU_codeNumber_179 gs_NU_28 ?_
        refine jv_iload 7 (pc := 182) d_NU_codeNumber_182 rfl ?_
        obtain ⟨b184, H⟩ := jck_some H
        refine jv_tald (q := jS_STARTS) (pc := 184) d_NU_codeNumber_184 (List.mem_of_getElem? (i := 3) rfl) b184 ?_
        refine jv_iload 8 (pc := 185) d_NU_codeNumber_185 rfl ?_
        refine jv_iadd (pc := 187) d_NU_codeNumber_187 ?_
        refine jv_istore (pc := 188) d_NU_codeNumber_188 (by decide) (jst9 rfl) ?_
        refine jv_iload 6 (pc := 190) d_NU_codeNumber_190 rfl ?_
        refine jv_if_eq 201 (pc := 192) d_NU_codeNumber_192 rfl (fun h192 => ?_) (fun h192 => ?_)
        · have h192 : x6 = 0 := h192
          have H := (if_pos h192).symm.trans H
          refine jv_iload 9 (pc := 201) d_NU_codeNumber_201 rfl ?_
          refine jv_iret (pc := 203) d_NU_codeNumber_203 rfl rfl (Nat.zero_le _) (Nat.zero_le _) ?_
          cases H
          exact jI.of ⟨rfl, rfl⟩
        · have h192 : ¬ (x6 = 0) := h192
          have H := (if_neg h192).symm.trans H
          refine jv_iload 9 (pc := 195) d_NU_codeNumber_195 rfl ?_
          refine jv_ineg (pc := 197) d_NU_codeNumber_197 ?_
          refine jv_goto 203 (pc := 198) d_NU_codeNumber_198 rfl ?_
          refine jv_iret (pc := 203) d_NU_codeNumber_203 rfl rfl (Nat.zero_le _) (Nat.zero_le _) ?_
          cases H
          exact jI.of ⟨rfl, rfl⟩
      · have h163 : ¬ (x6 = 0) := h163
        have H := (if_neg h163).symm.trans H
        refine jv_iload 7 (pc := 166) d_NU_codeNumber_166 rfl ?_
        refine jv_if_ne 179 (pc := 168) d_NU_codeNumber_168 rfl (fun h168 => ?_) (fun h168 => ?_)
        · have h168 : ¬ (x7 = 0) := h168
          have H := (if_neg h168).symm.trans H
          refine jv_gets (pc := 179) d_NU_codeNumber_179 gs_NU_28 ?_
          refine jv_iload 7 (pc := 182) d_NU_codeNumber_182 rfl ?_
          obtain ⟨b184, H⟩ := jck_some H
          refine jv_tald (q := jS_STARTS) (pc := 184) d_NU_codeNumber_184 (List.mem_of_getElem? (i := 3) rfl) b184 ?_
          refine jv_iload 8 (pc := 185) d_NU_codeNumber_185 rfl ?_
          refine jv_iadd (pc := 187) d_NU_codeNumber_187 ?_
          refine jv_istore (pc := 188) d_NU_codeNumber_188 (by decide) (jst9 rfl) ?_
          refine jv_iload 6 (pc := 190) d_NU_codeNumber_190 rfl ?_
          refine jv_if_eq 201 (pc := 192) d_NU_codeNumber_192 rfl (fun h192 => ?_) (fun h192 => ?_)
          · have h192 : x6 = 0 := h192
            have H := (if_pos h192).symm.trans H
            refine jv_iload 9 (pc := 201) d_NU_codeNumber_201 rfl ?_
            refine jv_iret (pc := 203) d_NU_codeNumber_203 rfl rfl (Nat.zero_le _) (Nat.zero_le _) ?_
            cases H
            exact jI.of ⟨rfl, rfl⟩
          · have h192 : ¬ (x6 = 0) := h192
            have H := (if_neg h192).symm.trans H
            refine jv_iload 9 (pc := 195) d_NU_codeNumber_195 rfl ?_
            refine jv_ineg (pc := 197) d_NU_codeNumber_197 ?_
            refine jv_goto 203 (pc := 198) d_NU_codeNumber_198 rfl ?_
            refine jv_iret (pc := 203) d_NU_codeNumber_203 rfl rfl (Nat.zero_le _) (Nat.zero_le _) ?_
            cases H
            exact jI.of ⟨rfl, rfl⟩
        · have h168 : x7 = 0 := h168
          have H := (if_pos h168).symm.trans H
          refine jv_iload 8 (pc := 171) d_NU_codeNumber_171 rfl ?_
          refine jv_if_ne 179 (pc := 173) d_NU_codeNumber_173 rfl (fun h173 => ?_) (fun h173 => ?_)
          · have h173 : ¬ (x8 = 0) := h173
            have H := (if_neg h173).symm.trans H
            refine jv_gets (pc := 179) d_NU_codeNumber_179 gs_NU_28 ?_
            refine jv_iload 7 (pc := 182) d_NU_codeNumber_182 rfl ?_
            obtain ⟨b184, H⟩ := jck_some H
            refine jv_tald (q := jS_STARTS) (pc := 184) d_NU_codeNumber_184 (List.mem_of_getElem? (i := 3) rfl) b184 ?_
            refine jv_iload 8 (pc := 185) d_NU_codeNumber_185 rfl ?_
            refine jv_iadd (pc := 187) d_NU_codeNumber_187 ?_
            refine jv_istore (pc := 188) d_NU_codeNumber_188 (by decide) (jst9 rfl) ?_
            refine jv_iload 6 (pc := 190) d_NU_codeNumber_190 rfl ?_
            refine jv_if_eq 201 (pc := 192) d_NU_codeNumber_192 rfl (fun h192 => ?_) (fun h192 => ?_)
            · have h192 : x6 = 0 := h192
              have H := (if_pos h192).symm.trans H
              refine jv_iload 9 (pc := 201) d_NU_codeNumber_201 rfl ?_
              refine jv_iret (pc := 203) d_NU_codeNumber_203 rfl rfl (Nat.zero_le _) (Nat.zero_le _) ?_
              cases H
              exact jI.of ⟨rfl, rfl⟩
            · have h192 : ¬ (x6 = 0) := h192
              have H := (if_neg h192).symm.trans H
              refine jv_iload 9 (pc := 195) d_NU_codeNumber_195 rfl ?_
              refine jv_ineg (pc := 197) d_NU_codeNumber_197 ?_
              refine jv_goto 203 (pc := 198) d_NU_codeNumber_198 rfl ?_
              refine jv_iret (pc := 203) d_NU_codeNumber_203 rfl rfl (Nat.zero_le _) (Nat.zero_le _) ?_
              cases H
              exact jI.of ⟨rfl, rfl⟩
          · have h173 : x8 = 0 := h173
            have H := (if_pos h173).symm.trans H
            refine jv_ldc (-2147483648) (pc := 176) d_NU_codeNumber_176 (jin3 105 rfl rfl) ?_
            refine jv_iret (pc := 178) d_NU_codeNumber_178 rfl rfl (Nat.zero_le _) (Nat.zero_le _) ?_
            cases H
            exact jI.of ⟨rfl, rfl⟩
    · have h118 : ¬ (x9 < 0) := h118
      have H := (if_neg h118).symm.trans H
      refine jv_aload_n 0 (pc := 121) d_NU_codeNumber_121 rfl ?_
      refine jv_iload_n 3 (pc := 122) d_NU_codeNumber_122 rfl ?_
      refine jv_iload 5 (pc := 123) d_NU_codeNumber_123 rfl ?_
      refine jv_iload 4 (pc := 125) d_NU_codeNumber_125 rfl ?_
      refine jv_gets (pc := 127) d_NU_codeNumber_127 gs_NU_28 ?_
      refine jv_iload 7 (pc := 130) d_NU_codeNumber_130 rfl ?_
      obtain ⟨b132, H⟩ := jck_some H
      refine jv_tald (q := jS_STARTS) (pc := 132) d_NU_codeNumber_132 (List.mem_of_getElem? (i := 3) rfl) b132 ?_
      refine jv_isub (pc := 133) d_NU_codeNumber_133 ?_
      refine jv_iload 9 (pc := 134) d_NU_codeNumber_134 rfl ?_
      refine jv_iushr (pc := 136) d_NU_codeNumber_136 ?_
      refine jv_iconst 1 (pc := 137) d_NU_codeNumber_137 rfl ?_
      refine jv_iand (pc := 138) d_NU_codeNumber_138 ?_
      obtain ⟨v139, n139, c139, H⟩ := jbd_some H
      refine jv_callSi (sp_NU_follow_W x3 x5 ((((x4 - (jS_STARTS.2.2.2.getD x7.toNatClampNeg 0)).toUInt32 >>> (x9.toUInt32 &&& Int32.toUInt32 31)).toInt32) &&& (1 : Int32)) c139) (pc := 139) d_NU_codeNumber_139 c0_NU_follow lk_NU_18 si_NU_follow rfl (Nat.le_of_ble_eq_true rfl) ⟨by decide, by decide, by decide, by decide⟩ (fun r139 m139 h139 => ?_)
      obtain ⟨ha139, hb139⟩ := h139
      have ha139 := ha139.symm
      subst ha139
      have hb139 := hb139.symm
      subst hb139
      refine jv_istore (pc := 142) d_NU_codeNumber_142 (by decide) (jst5 rfl) ?_
      refine jv_iconst 2 (pc := 144) d_NU_codeNumber_144 rfl ?_
      refine jv_iload 8 (pc := 145) d_NU_codeNumber_145 rfl ?_
      refine jv_imul (pc := 147) d_NU_codeNumber_147 ?_
      refine jv_iload 5 (pc := 148) d_NU_codeNumber_148 rfl ?_
      refine jv_iconst 1 (pc := 150) d_NU_codeNumber_150 rfl ?_
      refine jv_iand (pc := 151) d_NU_codeNumber_151 ?_
      refine jv_iadd (pc := 152) d_NU_codeNumber_152 ?_
      refine jv_istore (pc := 153) d_NU_codeNumber_153 (by decide) (jst8 rfl) ?_
      refine jv_iinc 9 _ (pc := 155) d_NU_codeNumber_155 rfl rfl (by decide) (jst9 rfl) ?_
      refine jv_goto 116 (pc := 158) d_NU_codeNumber_158 rfl ?_
      exact jv_sub [0, 1, 2, 3, 4, 5, 6, 7, 8, 9] rfl (ih x1 x2 x3 x4 v139 x6 x7 (((2 : Int32) * x8) + (v139 &&& (1 : Int32))) (x9 + Int32.ofInt (-1)) _ _ _ H)
set_option maxRecDepth 40000 in
set_option maxHeartbeats 8000000 in
theorem lp_NU_codeNumber_W_53 {G : jG} : ∀ (n : Nat) (x1 x2 x3 x4 x5 x6 x7 : Int32) (σ τ : jMem) (r : Int32), f_NU_codeNumber_W_L53 n x1 x2 x3 x4 x5 x6 x7 σ = some (r, τ) → jV G M_NU_codeNumber (jr 5 0 0) (jI fun r9 τ9 => r9 = r ∧ τ9 = τ) 0 0 53 [(0, .ref 12), (1, .int x1), (2, .int x2), (3, .int x3), (4, .int x4), (5, .int x5), (6, .int x6), (7, .int x7)] [] σ := by
  intro n
  induction n with
  | zero =>
    intro x1 x2 x3 x4 x5 x6 x7 σ τ r H
    cases H
  | succ n ih =>
    intro x1 x2 x3 x4 x5 x6 x7 σ τ r H
    rw [f_NU_codeNumber_W_L53.eq_2] at H
    refine jv_iload 7 (pc := 53) d_NU_codeNumber_53 rfl ?_
    refine jv_iconst 5 (pc := 55) d_NU_codeNumber_55 rfl ?_
    refine jv_icmp_ge 103 (pc := 56) d_NU_codeNumber_56 rfl (fun h56 => ?_) (fun h56 => ?_)
    · have h56 : (5 : Int32) ≤ x7 := h56
      have H := (if_pos h56).symm.trans H
      refine jv_iconst 0 (pc := 103) d_NU_codeNumber_103 rfl ?_
      refine jv_istore (pc := 104) d_NU_codeNumber_104 (by decide) (jsto_new rfl) ?_
      refine jv_gets (pc := 106) d_NU_codeNumber_106 gs_NU_32 ?_
      refine jv_iload 8 (pc := 109) d_NU_codeNumber_109 rfl ?_
      obtain ⟨b111, H⟩ := jck_some H
      refine jv_tald (q := jS_BITS) (pc := 111) d_NU_codeNumber_111 (List.mem_of_getElem? (i := 4) rfl) b111 ?_
      refine jv_iconst 1 (pc := 112) d_NU_codeNumber_112 rfl ?_
      refine jv_isub (pc := 113) d_NU_codeNumber_113 ?_
      refine jv_istore (pc := 114) d_NU_codeNumber_114 (by decide) (jsto_new rfl) ?_
      exact jv_sub [2, 3, 4, 5, 6, 7, 8, 9, 1, 0] rfl (lp_NU_codeNumber_W_116  _ x1 x2 x3 x4 x5 x6 x7 (0 : Int32) ((jS_BITS.2.2.2.getD x7.toNatClampNeg 0) - (1 : Int32)) _ _ _ H)
    · have h56 : ¬ ((5 : Int32) ≤ x7) := h56
      have H := (if_neg h56).symm.trans H
      refine jv_aload_n 0 (pc := 59) d_NU_codeNumber_59 rfl ?_
      refine jv_iload_n 3 (pc := 60) d_NU_codeNumber_60 rfl ?_
      refine jv_iload 5 (pc := 61) d_NU_codeNumber_61 rfl ?_
      refine jv_iload 4 (pc := 63) d_NU_codeNumber_63 rfl ?_
      refine jv_gets (pc := 65) d_NU_codeNumber_65 gs_NU_28 ?_
      refine jv_iload 7 (pc := 68) d_NU_codeNumber_68 rfl ?_
      refine jv_iconst 1 (pc := 70) d_NU_codeNumber_70 rfl ?_
      refine jv_iadd (pc := 71) d_NU_codeNumber_71 ?_
      obtain ⟨b72, H⟩ := jck_some H
      refine jv_tald (q := jS_STARTS) (pc := 72) d_NU_codeNumber_72 (List.mem_of_getElem? (i := 3) rfl) b72 ?_
      refine jv_icmp_lt 80 (pc := 73) d_NU_codeNumber_73 rfl (fun h73 => ?_) (fun h73 => ?_)
      · have h73 : x4 < (jS_STARTS.2.2.2.getD (x7 + (1 : Int32)).toNatClampNeg 0) := h73
        have H := (if_pos h73).symm.trans H
        refine jv_iconst 0 (pc := 80) d_NU_codeNumber_80 rfl ?_
        obtain ⟨v81, n81, c81, H⟩ := jbd_some H
        refine jv_callSi (sp_NU_follow_W x3 x5 (0 : Int32) c81) (pc := 81) d_NU_codeNumber_81 c0_NU_follow lk_NU_18 si_NU_follow rfl (Nat.le_of_ble_eq_true rfl) ⟨by decide, by decide, by decide, by decide⟩ (fun r81 m81 h81 => ?_)
        obtain ⟨ha81, hb81⟩ := h81
        have ha81 := ha81.symm
        subst ha81
        have hb81 := hb81.symm
        subst hb81
        refine jv_istore (pc := 84) d_NU_codeNumber_84 (by decide) (jst5 rfl) ?_
        refine jv_iload 5 (pc := 86) d_NU_codeNumber_86 rfl ?_
        refine jv_callSi (sp_NU_isOne v81) (pc := 88) d_NU_codeNumber_88 c0_NU_isOne lk_NU_24 si_NU_isOne rfl (Nat.le_of_ble_eq_true rfl) ⟨by decide, by decide, by decide, by decide⟩ (fun r88 m88 h88 => ?_)
        obtain ⟨ha88, hb88⟩ := h88
        subst ha88
        have hb88 := hb88.symm
        subst hb88
        refine jv_if_ne 97 (pc := 91) d_NU_codeNumber_91 rfl (fun h91 => ?_) (fun h91 => ?_)
        · have h91 : ¬ ((f_NU_isOne v81 n81) = 0) := h91
          have H := (if_neg h91).symm.trans H
          refine jv_iinc 7 _ (pc := 97) d_NU_codeNumber_97 rfl (jinc1 _) (by decide) (jst7 rfl) ?_
          refine jv_goto 53 (pc := 100) d_NU_codeNumber_100 rfl ?_
          exact jv_sub [0, 1, 2, 3, 4, 5, 6, 7] rfl (ih x1 x2 x3 x4 v81 x6 (x7 + 1) _ _ _ H)
        · have h91 : (f_NU_isOne v81 n81) = 0 := h91
          have H := (if_pos h91).symm.trans H
          refine jv_goto 103 (pc := 94) d_NU_codeNumber_94 rfl ?_
          refine jv_iconst 0 (pc := 103) d_NU_codeNumber_103 rfl ?_
          refine jv_istore (pc := 104) d_NU_codeNumber_104 (by decide) (jsto_new rfl) ?_
          refine jv_gets (pc := 106) d_NU_codeNumber_106 gs_NU_32 ?_
          refine jv_iload 8 (pc := 109) d_NU_codeNumber_109 rfl ?_
          obtain ⟨b111, H⟩ := jck_some H
          refine jv_tald (q := jS_BITS) (pc := 111) d_NU_codeNumber_111 (List.mem_of_getElem? (i := 4) rfl) b111 ?_
          refine jv_iconst 1 (pc := 112) d_NU_codeNumber_112 rfl ?_
          refine jv_isub (pc := 113) d_NU_codeNumber_113 ?_
          refine jv_istore (pc := 114) d_NU_codeNumber_114 (by decide) (jsto_new rfl) ?_
          exact jv_sub [2, 3, 4, 5, 6, 7, 8, 9, 1, 0] rfl (lp_NU_codeNumber_W_116  _ x1 x2 x3 x4 v81 x6 x7 (0 : Int32) ((jS_BITS.2.2.2.getD x7.toNatClampNeg 0) - (1 : Int32)) _ _ _ H)
      · have h73 : ¬ (x4 < (jS_STARTS.2.2.2.getD (x7 + (1 : Int32)).toNatClampNeg 0)) := h73
        have H := (if_neg h73).symm.trans H
        refine jv_iconst 1 (pc := 76) d_NU_codeNumber_76 rfl ?_
        refine jv_goto 81 (pc := 77) d_NU_codeNumber_77 rfl ?_
        obtain ⟨v81, n81, c81, H⟩ := jbd_some H
        refine jv_callSi (sp_NU_follow_W x3 x5 (1 : Int32) c81) (pc := 81) d_NU_codeNumber_81 c0_NU_follow lk_NU_18 si_NU_follow rfl (Nat.le_of_ble_eq_true rfl) ⟨by decide, by decide, by decide, by decide⟩ (fun r81 m81 h81 => ?_)
        obtain ⟨ha81, hb81⟩ := h81
        have ha81 := ha81.symm
        subst ha81
        have hb81 := hb81.symm
        subst hb81
        refine jv_istore (pc := 84) d_NU_codeNumber_84 (by decide) (jst5 rfl) ?_
        refine jv_iload 5 (pc := 86) d_NU_codeNumber_86 rfl ?_
        refine jv_callSi (sp_NU_isOne v81) (pc := 88) d_NU_codeNumber_88 c0_NU_isOne lk_NU_24 si_NU_isOne rfl (Nat.le_of_ble_eq_true rfl) ⟨by decide, by decide, by decide, by decide⟩ (fun r88 m88 h88 => ?_)
        obtain ⟨ha88, hb88⟩ := h88
        subst ha88
        have hb88 := hb88.symm
        subst hb88
        refine jv_if_ne 97 (pc := 91) d_NU_codeNumber_91 rfl (fun h91 => ?_) (fun h91 => ?_)
        · have h91 : ¬ ((f_NU_isOne v81 n81) = 0) := h91
          have H := (if_neg h91).symm.trans H
          refine jv_iinc 7 _ (pc := 97) d_NU_codeNumber_97 rfl (jinc1 _) (by decide) (jst7 rfl) ?_
          refine jv_goto 53 (pc := 100) d_NU_codeNumber_100 rfl ?_
          exact jv_sub [0, 1, 2, 3, 4, 5, 6, 7] rfl (ih x1 x2 x3 x4 v81 x6 (x7 + 1) _ _ _ H)
        · have h91 : (f_NU_isOne v81 n81) = 0 := h91
          have H := (if_pos h91).symm.trans H
          refine jv_goto 103 (pc := 94) d_NU_codeNumber_94 rfl ?_
          refine jv_iconst 0 (pc := 103) d_NU_codeNumber_103 rfl ?_
          refine jv_istore (pc := 104) d_NU_codeNumber_104 (by decide) (jsto_new rfl) ?_
          refine jv_gets (pc := 106) d_NU_codeNumber_106 gs_NU_32 ?_
          refine jv_iload 8 (pc := 109) d_NU_codeNumber_109 rfl ?_
          obtain ⟨b111, H⟩ := jck_some H
          refine jv_tald (q := jS_BITS) (pc := 111) d_NU_codeNumber_111 (List.mem_of_getElem? (i := 4) rfl) b111 ?_
          refine jv_iconst 1 (pc := 112) d_NU_codeNumber_112 rfl ?_
          refine jv_isub (pc := 113) d_NU_codeNumber_113 ?_
          refine jv_istore (pc := 114) d_NU_codeNumber_114 (by decide) (jsto_new rfl) ?_
          exact jv_sub [2, 3, 4, 5, 6, 7, 8, 9, 1, 0] rfl (lp_NU_codeNumber_W_116  _ x1 x2 x3 x4 v81 x6 x7 (0 : Int32) ((jS_BITS.2.2.2.getD x7.toNatClampNeg 0) - (1 : Int32)) _ _ _ H)
set_option maxRecDepth 40000 in
set_option maxHeartbeats 8000000 in
theorem sp_NU_codeNumber_W {G : jG} {σ τ : jMem} {r : Int32} (x1 x2 : Int32) (H : f_NU_codeNumber_W x1 x2 σ = some (r, τ)) : jSp G M_NU_codeNumber (jr 5 0 0) [.ref 12, .int x1, .int x2] σ (jI fun r9 τ9 => r9 = r ∧ τ9 = τ) := by
  refine jSp.of rfl rfl (Nat.le_of_ble_eq_true rfl) ?_
  show jV _ _ _ _ 0 0 0 [(0, .ref 12), (1, .int x1), (2, .int x2)] [] σ
  unfold f_NU_codeNumber_W at H
  refine jv_sipush (11268) (pc := 0) d_NU_codeNumber_0 rfl ?_
  refine jv_sipush (512) (pc := 3) d_NU_codeNumber_3 rfl ?_
  refine jv_iload_n 1 (pc := 6) d_NU_codeNumber_6 rfl ?_
  refine jv_imul (pc := 7) d_NU_codeNumber_7 ?_
  refine jv_iadd (pc := 8) d_NU_codeNumber_8 ?_
  refine jv_istore_n (pc := 9) d_NU_codeNumber_9 rfl (by decide) (jsto_new rfl) ?_
  refine jv_iload_n 3 (pc := 10) d_NU_codeNumber_10 rfl ?_
  refine jv_ldc (-2147483648) (pc := 11) d_NU_codeNumber_11 (jin3 105 rfl rfl) ?_
  refine jv_icmp_ne 20 (pc := 13) d_NU_codeNumber_13 rfl (fun h13 => ?_) (fun h13 => ?_)
  · have h13 : ¬ (x2 = (-2147483648 : Int32)) := h13
    have H := (if_neg h13).symm.trans H
    refine jv_iload_n 3 (pc := 20) d_NU_codeNumber_20 rfl ?_
    refine jv_callSi (sp_MA_abs x2) (pc := 21) d_NU_codeNumber_21 c0_MA_abs lk_NU_12 si_MA_abs rfl (Nat.le_of_ble_eq_true rfl) ⟨by decide, by decide, by decide, by decide⟩ (fun r21 m21 h21 => ?_)
    obtain ⟨ha21, hb21⟩ := h21
    subst ha21
    have hb21 := hb21.symm
    subst hb21
    refine jv_istore (pc := 24) d_NU_codeNumber_24 (by decide) (jsto_new rfl) ?_
    refine jv_aload_n 2 (pc := 26) d_NU_codeNumber_26 rfl ?_
    refine jv_iload_n 1 (pc := 27) d_NU_codeNumber_27 rfl ?_
    refine jv_iconst 1 (pc := 28) d_NU_codeNumber_28 rfl ?_
    refine jv_iload_n 4 (pc := 29) d_NU_codeNumber_29 rfl ?_
    refine jv_if_ge 37 (pc := 30) d_NU_codeNumber_30 rfl (fun h30 => ?_) (fun h30 => ?_)
    · have h30 : 0 ≤ x2 := h30
      have H := (if_pos h30).symm.trans H
      refine jv_iconst 0 (pc := 37) d_NU_codeNumber_37 rfl ?_
      obtain ⟨v38, n38, c38, H⟩ := jbd_some H
      refine jv_callSi (sp_NU_follow_W ((11268 : Int32) + ((512 : Int32) * x1)) (1 : Int32) (0 : Int32) c38) (pc := 38) d_NU_codeNumber_38 c0_NU_follow lk_NU_18 si_NU_follow rfl (Nat.le_of_ble_eq_true rfl) ⟨by decide, by decide, by decide, by decide⟩ (fun r38 m38 h38 => ?_)
      obtain ⟨ha38, hb38⟩ := h38
      have ha38 := ha38.symm
      subst ha38
      have hb38 := hb38.symm
      subst hb38
      refine jv_istore (pc := 41) d_NU_codeNumber_41 (by decide) (jsto_new rfl) ?_
      refine jv_iload 0 (pc := 43) d_NU_codeNumber_43 rfl ?_
      refine jv_callSi (sp_NU_isOne v38) (pc := 45) d_NU_codeNumber_45 c0_NU_isOne lk_NU_24 si_NU_isOne rfl (Nat.le_of_ble_eq_true rfl) ⟨by decide, by decide, by decide, by decide⟩ (fun r45 m45 h45 => ?_)
      obtain ⟨ha45, hb45⟩ := h45
      subst ha45
      have hb45 := hb45.symm
      subst hb45
      refine jv_istore (pc := 48) d_NU_codeNumber_48 (by decide) (jsto_new rfl) ?_
      refine jv_iconst 0 (pc := 50) d_NU_codeNumber_50 rfl ?_
      refine jv_istore (pc := 51) d_NU_codeNumber_51 (by decide) (jsto_new rfl) ?_
      exact jv_sub [5, 6, 7, 4, 3, 2, 1, 0] rfl (lp_NU_codeNumber_W_53  _ x1 x2 ((11268 : Int32) + ((512 : Int32) * x1)) (f_MA_abs x2 σ) v38 (f_NU_isOne v38 n38) (0 : Int32) _ _ _ H)
    · have h30 : ¬ (0 ≤ x2) := h30
      have H := (if_neg h30).symm.trans H
      refine jv_iconst 1 (pc := 33) d_NU_codeNumber_33 rfl ?_
      refine jv_goto 38 (pc := 34) d_NU_codeNumber_34 rfl ?_
      obtain ⟨v38, n38, c38, H⟩ := jbd_some H
      refine jv_callSi (sp_NU_follow_W ((11268 : Int32) + ((512 : Int32) * x1)) (1 : Int32) (1 : Int32) c38) (pc := 38) d_NU_codeNumber_38 c0_NU_follow lk_NU_18 si_NU_follow rfl (Nat.le_of_ble_eq_true rfl) ⟨by decide, by decide, by decide, by decide⟩ (fun r38 m38 h38 => ?_)
      obtain ⟨ha38, hb38⟩ := h38
      have ha38 := ha38.symm
      subst ha38
      have hb38 := hb38.symm
      subst hb38
      refine jv_istore (pc := 41) d_NU_codeNumber_41 (by decide) (jsto_new rfl) ?_
      refine jv_iload 0 (pc := 43) d_NU_codeNumber_43 rfl ?_
      refine jv_callSi (sp_NU_isOne v38) (pc := 45) d_NU_codeNumber_45 c0_NU_isOne lk_NU_24 si_NU_isOne rfl (Nat.le_of_ble_eq_true rfl) ⟨by decide, by decide, by decide, by decide⟩ (fun r45 m45 h45 => ?_)
      obtain ⟨ha45, hb45⟩ := h45
      subst ha45
      have hb45 := hb45.symm
      subst hb45
      refine jv_istore (pc := 48) d_NU_codeNumber_48 (by decide) (jsto_new rfl) ?_
      refine jv_iconst 0 (pc := 50) d_NU_codeNumber_50 rfl ?_
      refine jv_istore (pc := 51) d_NU_codeNumber_51 (by decide) (jsto_new rfl) ?_
      exact jv_sub [5, 6, 7, 4, 3, 2, 1, 0] rfl (lp_NU_codeNumber_W_53  _ x1 x2 ((11268 : Int32) + ((512 : Int32) * x1)) (f_MA_abs x2 σ) v38 (f_NU_isOne v38 n38) (0 : Int32) _ _ _ H)
  · have h13 : x2 = (-2147483648 : Int32) := h13
    have H := (if_pos h13).symm.trans H
    refine jv_iconst 0 (pc := 16) d_NU_codeNumber_16 rfl ?_
    refine jv_goto 24 (pc := 17) d_NU_codeNumber_17 rfl ?_
    refine jv_istore (pc := 24) d_NU_codeNumber_24 (by decide) (jsto_new rfl) ?_
    refine jv_aload_n 2 (pc := 26) d_NU_codeNumber_26 rfl ?_
    refine jv_iload_n 1 (pc := 27) d_NU_codeNumber_27 rfl ?_
    refine jv_iconst 1 (pc := 28) d_NU_codeNumber_28 rfl ?_
    refine jv_iload_n 4 (pc := 29) d_NU_codeNumber_29 rfl ?_
    refine jv_if_ge 37 (pc := 30) d_NU_codeNumber_30 rfl (fun h30 => ?_) (fun h30 => ?_)
    · have h30 : 0 ≤ x2 := h30
      have H := (if_pos h30).symm.trans H
      refine jv_iconst 0 (pc := 37) d_NU_codeNumber_37 rfl ?_
      obtain ⟨v38, n38, c38, H⟩ := jbd_some H
      refine jv_callSi (sp_NU_follow_W ((11268 : Int32) + ((512 : Int32) * x1)) (1 : Int32) (0 : Int32) c38) (pc := 38) d_NU_codeNumber_38 c0_NU_follow lk_NU_18 si_NU_follow rfl (Nat.le_of_ble_eq_true rfl) ⟨by decide, by decide, by decide, by decide⟩ (fun r38 m38 h38 => ?_)
      obtain ⟨ha38, hb38⟩ := h38
      have ha38 := ha38.symm
      subst ha38
      have hb38 := hb38.symm
      subst hb38
      refine jv_istore (pc := 41) d_NU_codeNumber_41 (by decide) (jsto_new rfl) ?_
      refine jv_iload 0 (pc := 43) d_NU_codeNumber_43 rfl ?_
      refine jv_callSi (sp_NU_isOne v38) (pc := 45) d_NU_codeNumber_45 c0_NU_isOne lk_NU_24 si_NU_isOne rfl (Nat.le_of_ble_eq_true rfl) ⟨by decide, by decide, by decide, by decide⟩ (fun r45 m45 h45 => ?_)
      obtain ⟨ha45, hb45⟩ := h45
      subst ha45
      have hb45 := hb45.symm
      subst hb45
      refine jv_istore (pc := 48) d_NU_codeNumber_48 (by decide) (jsto_new rfl) ?_
      refine jv_iconst 0 (pc := 50) d_NU_codeNumber_50 rfl ?_
      refine jv_istore (pc := 51) d_NU_codeNumber_51 (by decide) (jsto_new rfl) ?_
      exact jv_sub [5, 6, 7, 4, 3, 2, 1, 0] rfl (lp_NU_codeNumber_W_53  _ x1 x2 ((11268 : Int32) + ((512 : Int32) * x1)) (0 : Int32) v38 (f_NU_isOne v38 n38) (0 : Int32) _ _ _ H)
    · have h30 : ¬ (0 ≤ x2) := h30
      have H := (if_neg h30).symm.trans H
      refine jv_iconst 1 (pc := 33) d_NU_codeNumber_33 rfl ?_
      refine jv_goto 38 (pc := 34) d_NU_codeNumber_34 rfl ?_
      obtain ⟨v38, n38, c38, H⟩ := jbd_some H
      refine jv_callSi (sp_NU_follow_W ((11268 : Int32) + ((512 : Int32) * x1)) (1 : Int32) (1 : Int32) c38) (pc := 38) d_NU_codeNumber_38 c0_NU_follow lk_NU_18 si_NU_follow rfl (Nat.le_of_ble_eq_true rfl) ⟨by decide, by decide, by decide, by decide⟩ (fun r38 m38 h38 => ?_)
      obtain ⟨ha38, hb38⟩ := h38
      have ha38 := ha38.symm
      subst ha38
      have hb38 := hb38.symm
      subst hb38
      refine jv_istore (pc := 41) d_NU_codeNumber_41 (by decide) (jsto_new rfl) ?_
      refine jv_iload 0 (pc := 43) d_NU_codeNumber_43 rfl ?_
      refine jv_callSi (sp_NU_isOne v38) (pc := 45) d_NU_codeNumber_45 c0_NU_isOne lk_NU_24 si_NU_isOne rfl (Nat.le_of_ble_eq_true rfl) ⟨by decide, by decide, by decide, by decide⟩ (fun r45 m45 h45 => ?_)
      obtain ⟨ha45, hb45⟩ := h45
      subst ha45
      have hb45 := hb45.symm
      subst hb45
      refine jv_istore (pc := 48) d_NU_codeNumber_48 (by decide) (jsto_new rfl) ?_
      refine jv_iconst 0 (pc := 50) d_NU_codeNumber_50 rfl ?_
      refine jv_istore (pc := 51) d_NU_codeNumber_51 (by decide) (jsto_new rfl) ?_
      exact jv_sub [5, 6, 7, 4, 3, 2, 1, 0] rfl (lp_NU_codeNumber_W_53  _ x1 x2 ((11268 : Int32) + ((512 : Int32) * x1)) (0 : Int32) v38 (f_NU_isOne v38 n38) (0 : Int32) _ _ _ H)
set_option maxRecDepth 40000 in
set_option maxHeartbeats 8000000 in
theorem lp_NU_codeIndex_W_4 {G : jG} : ∀ (n : Nat) (x1 x2 x3 : Int32) (σ τ : jMem) (r : Int32), f_NU_codeIndex_W_L4 n x1 x2 x3 σ = some (r, τ) → jV G M_NU_codeIndex (jr 4 0 0) (jI fun r9 τ9 => r9 = r ∧ τ9 = τ) 0 0 4 [(0, .ref 12), (1, .int x1), (2, .int x2), (3, .int x3)] [] σ := by
  intro n
  induction n with
  | zero =>
    intro x1 x2 x3 σ τ r H
    cases H
  | succ n ih =>
    intro x1 x2 x3 σ τ r H
    rw [f_NU_codeIndex_W_L4.eq_2] at H
    refine jv_iload_n 3 (pc := 4) d_NU_codeIndex_4 rfl ?_
    refine jv_if_lt 33 (pc := 5) d_NU_codeIndex_5 rfl (fun h5 => ?_) (fun h5 => ?_)
    · have h5 : x3 < 0 := h5
      have H := (if_pos h5).symm.trans H
      refine jv_iload_n 2 (pc := 33) d_NU_codeIndex_33 rfl ?_
      refine jv_bipush (8) (pc := 34) d_NU_codeIndex_34 rfl ?_
      refine jv_isub (pc := 36) d_NU_codeIndex_36 ?_
      refine jv_iret (pc := 37) d_NU_codeIndex_37 rfl rfl (Nat.zero_le _) (Nat.zero_le _) ?_
      cases H
      exact jI.of ⟨rfl, rfl⟩
    · have h5 : ¬ (x3 < 0) := h5
      have H := (if_neg h5).symm.trans H
      refine jv_iconst 2 (pc := 8) d_NU_codeIndex_8 rfl ?_
      refine jv_iload_n 2 (pc := 9) d_NU_codeIndex_9 rfl ?_
      refine jv_imul (pc := 10) d_NU_codeIndex_10 ?_
      refine jv_aload_n 0 (pc := 11) d_NU_codeIndex_11 rfl ?_
      refine jv_sipush (15876) (pc := 12) d_NU_codeIndex_12 rfl ?_
      refine jv_iload_n 2 (pc := 15) d_NU_codeIndex_15 rfl ?_
      refine jv_iadd (pc := 16) d_NU_codeIndex_16 ?_
      refine jv_iload_n 1 (pc := 17) d_NU_codeIndex_17 rfl ?_
      refine jv_iload_n 3 (pc := 18) d_NU_codeIndex_18 rfl ?_
      refine jv_ishr (pc := 19) d_NU_codeIndex_19 ?_
      refine jv_iconst 1 (pc := 20) d_NU_codeIndex_20 rfl ?_
      refine jv_iand (pc := 21) d_NU_codeIndex_21 ?_
      obtain ⟨v22, n22, c22, H⟩ := jbd_some H
      refine jv_callOi (sp_WR_decide ((15876 : Int32) + x2) ((x1 >>> (x3 &&& 31)) &&& (1 : Int32)) c22) (pc := 22) d_NU_codeIndex_22 c0_WR_decide rfl lo_NU_35 in_WR_decide so_WR (by decide) rfl rfl rfl (Nat.le_of_ble_eq_true rfl) ⟨by decide, by decide, by decide, by decide⟩ (fun r22 m22 h22 => ?_)
      obtain ⟨ha22, hb22⟩ := h22
      have ha22 := ha22.symm
      subst ha22
      have hb22 := hb22.symm
      subst hb22
      refine jv_iadd (pc := 25) d_NU_codeIndex_25 ?_
      refine jv_istore_n (pc := 26) d_NU_codeIndex_26 rfl (by decide) (jst2 rfl) ?_
      refine jv_iinc 3 _ (pc := 27) d_NU_codeIndex_27 rfl rfl (by decide) (jst3 rfl) ?_
      refine jv_goto 4 (pc := 30) d_NU_codeIndex_30 rfl ?_
      exact jv_sub [0, 1, 2, 3] rfl (ih x1 (((2 : Int32) * x2) + v22) (x3 + Int32.ofInt (-1)) _ _ _ H)
set_option maxRecDepth 40000 in
set_option maxHeartbeats 8000000 in
theorem sp_NU_codeIndex_W {G : jG} {σ τ : jMem} {r : Int32} (x1 : Int32) (H : f_NU_codeIndex_W x1 σ = some (r, τ)) : jSp G M_NU_codeIndex (jr 4 0 0) [.ref 12, .int x1] σ (jI fun r9 τ9 => r9 = r ∧ τ9 = τ) := by
  refine jSp.of rfl rfl (Nat.le_of_ble_eq_true rfl) ?_
  show jV _ _ _ _ 0 0 0 [(0, .ref 12), (1, .int x1)] [] σ
  unfold f_NU_codeIndex_W at H
  refine jv_iconst 1 (pc := 0) d_NU_codeIndex_0 rfl ?_
  refine jv_istore_n (pc := 1) d_NU_codeIndex_1 rfl (by decide) (jsto_new rfl) ?_
  refine jv_iconst 2 (pc := 2) d_NU_codeIndex_2 rfl ?_
  refine jv_istore_n (pc := 3) d_NU_codeIndex_3 rfl (by decide) (jsto_new rfl) ?_
  exact jv_sub [2, 3, 1, 0] rfl (lp_NU_codeIndex_W_4  _ x1 (1 : Int32) (2 : Int32) _ _ _ H)
set_option maxRecDepth 40000 in
set_option maxHeartbeats 8000000 in
theorem sp_PT_codeSameness_W {G : jG} {σ τ : jMem} {r : Int32} (p : Nat) (x2 x3 : Int32) (hp : p < 12) (H : f_PT_codeSameness_W p x2 x3 σ = some (r, τ)) : jSp G M_PT_codeSameness (jr 4 0 0) [.ref 12, .ref (14 + 2 * p), .int x2, .int x3] σ (jI fun r9 τ9 => r9 = r ∧ τ9 = τ) := by
  refine jSp.of rfl rfl (Nat.le_of_ble_eq_true rfl) ?_
  show jV _ _ _ _ 0 0 0 [(0, .ref 12), (1, .ref (14 + 2 * p)), (2, .int x2), (3, .int x3)] [] σ
  unfold f_PT_codeSameness_W at H
  refine jv_aload_n 1 (pc := 0) d_PT_codeSameness_0 rfl ?_
  refine jv_getr (pc := 1) d_PT_codeSameness_1 fa_PT_19_PI (show 14 + 2 * p < jN by unfold jN; omega) (jshp_pic hp) rfl ?_
  refine jv_iload_n 3 (pc := 4) d_PT_codeSameness_4 rfl ?_
  obtain ⟨b5, H⟩ := jck_some H
  refine jv_iald (pc := 5) d_PT_codeSameness_5 (show 15 + 2 * p < jN by unfold jN; omega) (jshp_row hp) b5 ?_
  refine jv_aload_n 1 (pc := 6) d_PT_codeSameness_6 rfl ?_
  refine jv_iload_n 3 (pc := 7) d_PT_codeSameness_7 rfl ?_
  obtain ⟨v8, n8, c8, H⟩ := jbd_some H
  refine jv_callVi (sp_PI_rowAbove p x3 hp c8) (pc := 8) d_PT_codeSameness_8 c0_PI_rowAbove lk_PT_23 in_PI_rowAbove se_PI_rowAbove (show 14 + 2 * p < jN by unfold jN; omega) (jshp_pic hp) rfl rfl (Nat.le_of_ble_eq_true rfl) ⟨by decide, by decide, by decide, by decide⟩ (fun r8 m8 h8 => ?_)
  obtain ⟨ha8, hb8⟩ := h8
  have ha8 := ha8.symm
  subst ha8
  have hb8 := hb8.symm
  subst hb8
  refine jv_icmp_ne 18 (pc := 11) d_PT_codeSameness_11 rfl (fun h11 => ?_) (fun h11 => ?_)
  · have h11 : ¬ ((σ (15 + 2 * p) x3.toNatClampNeg) = v8) := h11
    have H := (if_neg h11).symm.trans H
    refine jv_iconst 0 (pc := 18) d_PT_codeSameness_18 rfl ?_
    refine jv_istore (pc := 19) d_PT_codeSameness_19 (by decide) (jsto_new rfl) ?_
    refine jv_aload_n 1 (pc := 21) d_PT_codeSameness_21 rfl ?_
    refine jv_sipush (10240) (pc := 22) d_PT_codeSameness_22 rfl ?_
    refine jv_iload_n 3 (pc := 25) d_PT_codeSameness_25 rfl ?_
    refine jv_iadd (pc := 26) d_PT_codeSameness_26 ?_
    refine jv_iload 0 (pc := 27) d_PT_codeSameness_27 rfl ?_
    obtain ⟨v29, n29, c29, H⟩ := jbd_some H
    refine jv_callOi (sp_WR_decide ((10240 : Int32) + x2) (0 : Int32) c29) (pc := 29) d_PT_codeSameness_29 c0_WR_decide rfl lo_PT_44 in_WR_decide so_WR (by decide) rfl rfl rfl (Nat.le_of_ble_eq_true rfl) ⟨by decide, by decide, by decide, by decide⟩ (fun r29 m29 h29 => ?_)
    obtain ⟨ha29, hb29⟩ := h29
    have ha29 := ha29.symm
    subst ha29
    have hb29 := hb29.symm
    subst hb29
    refine jv_iret (pc := 32) d_PT_codeSameness_32 rfl rfl (Nat.zero_le _) (Nat.zero_le _) ?_
    cases H
    exact jI.of ⟨rfl, rfl⟩
  · have h11 : (σ (15 + 2 * p) x3.toNatClampNeg) = v8 := h11
    have H := (if_pos h11).symm.trans H
    refine jv_iconst 1 (pc := 14) d_PT_codeSameness_14 rfl ?_
    refine jv_goto 19 (pc := 15) d_PT_codeSameness_15 rfl ?_
    refine jv_istore (pc := 19) d_PT_codeSameness_19 (by decide) (jsto_new rfl) ?_
    refine jv_aload_n 1 (pc := 21) d_PT_codeSameness_21 rfl ?_
    refine jv_sipush (10240) (pc := 22) d_PT_codeSameness_22 rfl ?_
    refine jv_iload_n 3 (pc := 25) d_PT_codeSameness_25 rfl ?_
    refine jv_iadd (pc := 26) d_PT_codeSameness_26 ?_
    refine jv_iload 0 (pc := 27) d_PT_codeSameness_27 rfl ?_
    obtain ⟨v29, n29, c29, H⟩ := jbd_some H
    refine jv_callOi (sp_WR_decide ((10240 : Int32) + x2) (1 : Int32) c29) (pc := 29) d_PT_codeSameness_29 c0_WR_decide rfl lo_PT_44 in_WR_decide so_WR (by decide) rfl rfl rfl (Nat.le_of_ble_eq_true rfl) ⟨by decide, by decide, by decide, by decide⟩ (fun r29 m29 h29 => ?_)
    obtain ⟨ha29, hb29⟩ := h29
    have ha29 := ha29.symm
    subst ha29
    have hb29 := hb29.symm
    subst hb29
    refine jv_iret (pc := 32) d_PT_codeSameness_32 rfl rfl (Nat.zero_le _) (Nat.zero_le _) ?_
    cases H
    exact jI.of ⟨rfl, rfl⟩
set_option maxRecDepth 40000 in
set_option maxHeartbeats 8000000 in
theorem lp_PT_codeRow_W_3 {G : jG} (p : Nat) (hp : p < 12) : ∀ (n : Nat) (x2 x3 x4 : Int32) (σ τ : jMem) (r : Unit), f_PT_codeRow_W_L3 p n x2 x3 x4 σ = some (r, τ) → jV G M_PT_codeRow (jr 4 0 0) (jU fun τ9 => τ9 = τ) 0 0 3 [(0, .ref 12), (1, .ref (14 + 2 * p)), (2, .int x2), (3, .int x3), (4, .int x4)] [] σ := by
  intro n
  induction n with
  | zero =>
    intro x2 x3 x4 σ τ r H
    cases H
  | succ n ih =>
    intro x2 x3 x4 σ τ r H
    rw [f_PT_codeRow_W_L3.eq_2] at H
    refine jv_iload 4 (pc := 3) d_PT_codeRow_3 rfl ?_
    refine jv_aload_n 1 (pc := 5) d_PT_codeRow_5 rfl ?_
    refine jv_geti (pc := 6) d_PT_codeRow_6 fa_PT_31_PI (show 14 + 2 * p < jN by unfold jN; omega) (jshp_pic hp) rfl ?_
    refine jv_icmp_ge 48 (pc := 9) d_PT_codeRow_9 rfl (fun h9 => ?_) (fun h9 => ?_)
    · have h9 : (σ (14 + 2 * p) 1) ≤ x4 := h9
      have H := (if_pos h9).symm.trans H
      refine jv_vret (pc := 48) d_PT_codeRow_48 rfl (Nat.zero_le _) (Nat.zero_le _) ?_
      cases H
      exact jU.of rfl
    · have h9 : ¬ ((σ (14 + 2 * p) 1) ≤ x4) := h9
      have H := (if_neg h9).symm.trans H
      refine jv_aload_n 1 (pc := 12) d_PT_codeRow_12 rfl ?_
      refine jv_iload_n 2 (pc := 13) d_PT_codeRow_13 rfl ?_
      refine jv_iload 4 (pc := 14) d_PT_codeRow_14 rfl ?_
      refine jv_iload_n 3 (pc := 16) d_PT_codeRow_16 rfl ?_
      obtain ⟨v17, n17, c17, H⟩ := jbd_some H
      refine jv_callSi (sp_PT_contextOf p x2 x4 x3 hp c17) (pc := 17) d_PT_codeRow_17 c0_PT_contextOf lk_PT_53 si_PT_contextOf rfl (Nat.le_of_ble_eq_true rfl) ⟨by decide, by decide, by decide, by decide⟩ (fun r17 m17 h17 => ?_)
      obtain ⟨ha17, hb17⟩ := h17
      have ha17 := ha17.symm
      subst ha17
      have hb17 := hb17.symm
      subst hb17
      refine jv_istore (pc := 20) d_PT_codeRow_20 (by decide) (jsto_new rfl) ?_
      refine jv_aload_n 2 (pc := 22) d_PT_codeRow_22 rfl ?_
      refine jv_iload 5 (pc := 23) d_PT_codeRow_23 rfl ?_
      refine jv_iload_n 4 (pc := 25) d_PT_codeRow_25 rfl ?_
      refine jv_aload_n 1 (pc := 26) d_PT_codeRow_26 rfl ?_
      refine jv_iload 0 (pc := 27) d_PT_codeRow_27 rfl ?_
      refine jv_aload_n 2 (pc := 29) d_PT_codeRow_29 rfl ?_
      refine jv_iload 5 (pc := 30) d_PT_codeRow_30 rfl ?_
      refine jv_iload_n 4 (pc := 32) d_PT_codeRow_32 rfl ?_
      obtain ⟨v33, n33, c33, H⟩ := jbd_some H
      refine jv_callVi (sp_PI_at p x4 x3 hp c33) (pc := 33) d_PT_codeRow_33 c0_PI_at lk_PT_40 in_PI_at se_PI_at (show 14 + 2 * p < jN by unfold jN; omega) (jshp_pic hp) rfl rfl (Nat.le_of_ble_eq_true rfl) ⟨by decide, by decide, by decide, by decide⟩ (fun r33 m33 h33 => ?_)
      obtain ⟨ha33, hb33⟩ := h33
      have ha33 := ha33.symm
      subst ha33
      have hb33 := hb33.symm
      subst hb33
      obtain ⟨v36, n36, c36, H⟩ := jbd_some H
      refine jv_callOi (sp_WR_decide v17 v33 c36) (pc := 36) d_PT_codeRow_36 c0_WR_decide rfl lo_PT_44 in_WR_decide so_WR (by decide) rfl rfl rfl (Nat.le_of_ble_eq_true rfl) ⟨by decide, by decide, by decide, by decide⟩ (fun r36 m36 h36 => ?_)
      obtain ⟨ha36, hb36⟩ := h36
      have ha36 := ha36.symm
      subst ha36
      have hb36 := hb36.symm
      subst hb36
      obtain ⟨_, n39, c39, H⟩ := jbd_some H
      refine jv_callVv (sp_PI_set p x4 x3 v36 hp c39) (pc := 39) d_PT_codeRow_39 c0_PI_set lk_PT_49 in_PI_set se_PI_set (show 14 + 2 * p < jN by unfold jN; omega) (jshp_pic hp) rfl rfl (Nat.le_of_ble_eq_true rfl) ⟨by decide, by decide, by decide, by decide⟩ (fun m39 h39 => ?_)
      have hb39 := h39
      have hb39 := hb39.symm
      subst hb39
      refine jv_iinc 5 _ (pc := 42) d_PT_codeRow_42 rfl (jinc1 _) (by decide) (jst5 rfl) ?_
      refine jv_goto 3 (pc := 45) d_PT_codeRow_45 rfl ?_
      exact jv_sub [1, 2, 3, 4, 5] rfl (ih x2 x3 (x4 + 1) _ _ _ H)
set_option maxRecDepth 40000 in
set_option maxHeartbeats 8000000 in
theorem sp_PT_codeRow_W {G : jG} {σ τ : jMem} {r : Unit} (p : Nat) (x2 x3 : Int32) (hp : p < 12) (H : f_PT_codeRow_W p x2 x3 σ = some (r, τ)) : jSp G M_PT_codeRow (jr 4 0 0) [.ref 12, .ref (14 + 2 * p), .int x2, .int x3] σ (jU fun τ9 => τ9 = τ) := by
  refine jSp.of rfl rfl (Nat.le_of_ble_eq_true rfl) ?_
  show jV _ _ _ _ 0 0 0 [(0, .ref 12), (1, .ref (14 + 2 * p)), (2, .int x2), (3, .int x3)] [] σ
  unfold f_PT_codeRow_W at H
  refine jv_iconst 0 (pc := 0) d_PT_codeRow_0 rfl ?_
  refine jv_istore (pc := 1) d_PT_codeRow_1 (by decide) (jsto_new rfl) ?_
  exact jv_sub [1, 2, 3, 4, 0] rfl (lp_PT_codeRow_W_3 p hp _ x2 x3 (0 : Int32) _ _ _ H)
set_option maxRecDepth 40000 in
set_option maxHeartbeats 8000000 in
theorem lp_PT_codeRegion_W_6 {G : jG} (p : Nat) (hp : p < 12) : ∀ (n : Nat) (x2 x3 x4 x5 : Int32) (σ τ : jMem) (r : Int32), f_PT_codeRegion_W_L6 p n x2 x3 x4 x5 σ = some (r, τ) → jV G M_PT_codeRegion (jr 5 0 0) (jI fun r9 τ9 => r9 = r ∧ τ9 = τ) 0 0 6 [(0, .ref 12), (1, .ref (14 + 2 * p)), (2, .int x2), (3, .int x3), (4, .int x4), (5, .int x5)] [] σ := by
  intro n
  induction n with
  | zero =>
    intro x2 x3 x4 x5 σ τ r H
    cases H
  | succ n ih =>
    intro x2 x3 x4 x5 σ τ r H
    rw [f_PT_codeRegion_W_L6.eq_2] at H
    refine jv_iload 5 (pc := 6) d_PT_codeRegion_6 rfl ?_
    refine jv_aload_n 1 (pc := 8) d_PT_codeRegion_8 rfl ?_
    refine jv_geti (pc := 9) d_PT_codeRegion_9 fa_PT_7_PI (show 14 + 2 * p < jN by unfold jN; omega) (jshp_pic hp) rfl ?_
    refine jv_icmp_ge 76 (pc := 12) d_PT_codeRegion_12 rfl (fun h12 => ?_) (fun h12 => ?_)
    · have h12 : (σ (14 + 2 * p) 2) ≤ x5 := h12
      have H := (if_pos h12).symm.trans H
      refine jv_iload 4 (pc := 76) d_PT_codeRegion_76 rfl ?_
      refine jv_iret (pc := 78) d_PT_codeRegion_78 rfl rfl (Nat.zero_le _) (Nat.zero_le _) ?_
      cases H
      exact jI.of ⟨rfl, rfl⟩
    · have h12 : ¬ ((σ (14 + 2 * p) 2) ≤ x5) := h12
      have H := (if_neg h12).symm.trans H
      refine jv_iload_n 3 (pc := 15) d_PT_codeRegion_15 rfl ?_
      refine jv_if_eq 30 (pc := 16) d_PT_codeRegion_16 rfl (fun h16 => ?_) (fun h16 => ?_)
      · have h16 : x3 = 0 := h16
        have H := (if_pos h16).symm.trans H
        refine jv_iconst 0 (pc := 30) d_PT_codeRegion_30 rfl ?_
        refine jv_istore (pc := 31) d_PT_codeRegion_31 (by decide) (jsto_new rfl) ?_
        refine jv_iload 5 (pc := 33) d_PT_codeRegion_33 rfl ?_
        refine jv_iload 0 (pc := 35) d_PT_codeRegion_35 rfl ?_
        refine jv_iadd (pc := 37) d_PT_codeRegion_37 ?_
        refine jv_istore (pc := 38) d_PT_codeRegion_38 (by decide) (jst5 rfl) ?_
        refine jv_iload 0 (pc := 40) d_PT_codeRegion_40 rfl ?_
        refine jv_iconst 1 (pc := 42) d_PT_codeRegion_42 rfl ?_
        refine jv_icmp_ne 62 (pc := 43) d_PT_codeRegion_43 rfl (fun h43 => ?_) (fun h43 => absurd (show (0 : Int32) = (1 : Int32) from h43) (by decide))
        refine jv_aload_n 1 (pc := 62) d_PT_codeRegion_62 rfl ?_
        refine jv_aload_n 2 (pc := 63) d_PT_codeRegion_63 rfl ?_
        refine jv_iload_n 3 (pc := 64) d_PT_codeRegion_64 rfl ?_
        refine jv_iload 6 (pc := 65) d_PT_codeRegion_65 rfl ?_
        obtain ⟨_, n67, c67, H⟩ := jbd_some H
        refine jv_callSv (sp_PT_codeRow_W p x2 x5 hp c67) (pc := 67) d_PT_codeRegion_67 c0_PT_codeRow lk_PT_27 si_PT_codeRow rfl (Nat.le_of_ble_eq_true rfl) ⟨by decide, by decide, by decide, by decide⟩ (fun m67 h67 => ?_)
        have hb67 := h67
        have hb67 := hb67.symm
        subst hb67
        refine jv_iinc 6 _ (pc := 70) d_PT_codeRegion_70 rfl (jinc1 _) (by decide) (jst6 rfl) ?_
        refine jv_goto 6 (pc := 73) d_PT_codeRegion_73 rfl ?_
        exact jv_sub [1, 2, 3, 4, 5, 6] rfl (ih x2 x3 (x4 + (0 : Int32)) (x5 + 1) _ _ _ H)
      · have h16 : ¬ (x3 = 0) := h16
        have H := (if_neg h16).symm.trans H
        refine jv_aload_n 0 (pc := 19) d_PT_codeRegion_19 rfl ?_
        refine jv_aload_n 1 (pc := 20) d_PT_codeRegion_20 rfl ?_
        refine jv_iload_n 2 (pc := 21) d_PT_codeRegion_21 rfl ?_
        refine jv_iload 5 (pc := 22) d_PT_codeRegion_22 rfl ?_
        obtain ⟨v24, n24, c24, H⟩ := jbd_some H
        refine jv_callSi (sp_PT_codeSameness_W p x2 x5 hp c24) (pc := 24) d_PT_codeRegion_24 c0_PT_codeSameness lk_PT_13 si_PT_codeSameness rfl (Nat.le_of_ble_eq_true rfl) ⟨by decide, by decide, by decide, by decide⟩ (fun r24 m24 h24 => ?_)
        obtain ⟨ha24, hb24⟩ := h24
        have ha24 := ha24.symm
        subst ha24
        have hb24 := hb24.symm
        subst hb24
        refine jv_goto 31 (pc := 27) d_PT_codeRegion_27 rfl ?_
        refine jv_istore (pc := 31) d_PT_codeRegion_31 (by decide) (jsto_new rfl) ?_
        refine jv_iload 5 (pc := 33) d_PT_codeRegion_33 rfl ?_
        refine jv_iload 0 (pc := 35) d_PT_codeRegion_35 rfl ?_
        refine jv_iadd (pc := 37) d_PT_codeRegion_37 ?_
        refine jv_istore (pc := 38) d_PT_codeRegion_38 (by decide) (jst5 rfl) ?_
        refine jv_iload 0 (pc := 40) d_PT_codeRegion_40 rfl ?_
        refine jv_iconst 1 (pc := 42) d_PT_codeRegion_42 rfl ?_
        refine jv_icmp_ne 62 (pc := 43) d_PT_codeRegion_43 rfl (fun h43 => ?_) (fun h43 => ?_)
        · have h43 : ¬ (v24 = (1 : Int32)) := h43
          have H := (if_neg h43).symm.trans H
          refine jv_aload_n 1 (pc := 62) d_PT_codeRegion_62 rfl ?_
          refine jv_aload_n 2 (pc := 63) d_PT_codeRegion_63 rfl ?_
          refine jv_iload_n 3 (pc := 64) d_PT_codeRegion_64 rfl ?_
          refine jv_iload 6 (pc := 65) d_PT_codeRegion_65 rfl ?_
          obtain ⟨_, n67, c67, H⟩ := jbd_some H
          refine jv_callSv (sp_PT_codeRow_W p x2 x5 hp c67) (pc := 67) d_PT_codeRegion_67 c0_PT_codeRow lk_PT_27 si_PT_codeRow rfl (Nat.le_of_ble_eq_true rfl) ⟨by decide, by decide, by decide, by decide⟩ (fun m67 h67 => ?_)
          have hb67 := h67
          have hb67 := hb67.symm
          subst hb67
          refine jv_iinc 6 _ (pc := 70) d_PT_codeRegion_70 rfl (jinc1 _) (by decide) (jst6 rfl) ?_
          refine jv_goto 6 (pc := 73) d_PT_codeRegion_73 rfl ?_
          exact jv_sub [1, 2, 3, 4, 5, 6] rfl (ih x2 x3 (x4 + v24) (x5 + 1) _ _ _ H)
        · have h43 : v24 = (1 : Int32) := h43
          have H := (if_pos h43).symm.trans H
          refine jv_aload_n 2 (pc := 46) d_PT_codeRegion_46 rfl ?_
          refine jv_getr (pc := 47) d_PT_codeRegion_47 fa_PT_19_PI (show 14 + 2 * p < jN by unfold jN; omega) (jshp_pic hp) rfl ?_
          refine jv_iload 6 (pc := 50) d_PT_codeRegion_50 rfl ?_
          refine jv_aload_n 2 (pc := 52) d_PT_codeRegion_52 rfl ?_
          refine jv_iload 6 (pc := 53) d_PT_codeRegion_53 rfl ?_
          obtain ⟨v55, n55, c55, H⟩ := jbd_some H
          refine jv_callVi (sp_PI_rowAbove p x5 hp c55) (pc := 55) d_PT_codeRegion_55 c0_PI_rowAbove lk_PT_23 in_PI_rowAbove se_PI_rowAbove (show 14 + 2 * p < jN by unfold jN; omega) (jshp_pic hp) rfl rfl (Nat.le_of_ble_eq_true rfl) ⟨by decide, by decide, by decide, by decide⟩ (fun r55 m55 h55 => ?_)
          obtain ⟨ha55, hb55⟩ := h55
          have ha55 := ha55.symm
          subst ha55
          have hb55 := hb55.symm
          subst hb55
          obtain ⟨b58, H⟩ := jck_some H
          refine jv_iast (pc := 58) d_PT_codeRegion_58 (show 15 + 2 * p < jN by unfold jN; omega) (jshp_row hp) b58 ?_
          refine jv_goto 70 (pc := 59) d_PT_codeRegion_59 rfl ?_
          refine jv_iinc 6 _ (pc := 70) d_PT_codeRegion_70 rfl (jinc1 _) (by decide) (jst6 rfl) ?_
          refine jv_goto 6 (pc := 73) d_PT_codeRegion_73 rfl ?_
          exact jv_sub [1, 2, 3, 4, 5, 6] rfl (ih x2 x3 (x4 + v24) (x5 + 1) _ _ _ H)
set_option maxRecDepth 40000 in
set_option maxHeartbeats 8000000 in
theorem sp_PT_codeRegion_W {G : jG} {σ τ : jMem} {r : Int32} (p : Nat) (x2 x3 : Int32) (hp : p < 12) (H : f_PT_codeRegion_W p x2 x3 σ = some (r, τ)) : jSp G M_PT_codeRegion (jr 5 0 0) [.ref 12, .ref (14 + 2 * p), .int x2, .int x3] σ (jI fun r9 τ9 => r9 = r ∧ τ9 = τ) := by
  refine jSp.of rfl rfl (Nat.le_of_ble_eq_true rfl) ?_
  show jV _ _ _ _ 0 0 0 [(0, .ref 12), (1, .ref (14 + 2 * p)), (2, .int x2), (3, .int x3)] [] σ
  unfold f_PT_codeRegion_W at H
  refine jv_iconst 0 (pc := 0) d_PT_codeRegion_0 rfl ?_
  refine jv_istore (pc := 1) d_PT_codeRegion_1 (by decide) (jsto_new rfl) ?_
  refine jv_iconst 0 (pc := 3) d_PT_codeRegion_3 rfl ?_
  refine jv_istore (pc := 4) d_PT_codeRegion_4 (by decide) (jsto_new rfl) ?_
  exact jv_sub [2, 3, 4, 5, 1, 0] rfl (lp_PT_codeRegion_W_6 p hp _ x2 x3 (0 : Int32) (0 : Int32) _ _ _ H)
set_option maxRecDepth 40000 in
set_option maxHeartbeats 8000000 in
theorem lp_PT_codeRefinement_W_18 {G : jG} {R : Room} {Q : jO → jMem → Prop} (p : Nat) (q : Nat) (hp : p < 12) (hq : q < 12) (hR : 4 ≤ R.frames ∧ 40 * 4 ≤ R.locals) : ∀ (n : Nat) (x3 x4 x5 x6 x7 y3 y4 y5 y6 y7 : Int32) (σ τ : jMem), f_PT_codeRefinement_W_L18 p q n x3 x4 x5 x6 x7 σ = some ((y3, y4, y5, y6, y7), τ) → jV G M_PT_codeRefinement R Q 0 0 181 [(0, .ref 12), (1, .ref (14 + 2 * p)), (2, .ref (14 + 2 * q)), (3, .int y3), (4, .int y4), (5, .int y5), (6, .int y6), (7, .int y7)] [] τ → jV G M_PT_codeRefinement R Q 0 0 18 [(0, .ref 12), (1, .ref (14 + 2 * p)), (2, .ref (14 + 2 * q)), (3, .int x3), (4, .int x4), (5, .int x5), (6, .int x6), (7, .int x7)] [] σ := by
  intro n
  induction n with
  | zero =>
    intro x3 x4 x5 x6 x7 y3 y4 y5 y6 y7 σ τ H K
    cases H
  | succ n ih =>
    intro x3 x4 x5 x6 x7 y3 y4 y5 y6 y7 σ τ H K
    rw [f_PT_codeRefinement_W_L18.eq_2] at H
    refine jv_iload 7 (pc := 18) d_PT_codeRefinement_18 rfl ?_
    refine jv_aload_n 1 (pc := 20) d_PT_codeRefinement_20 rfl ?_
    refine jv_geti (pc := 21) d_PT_codeRefinement_21 fa_PT_31_PI (show 14 + 2 * p < jN by unfold jN; omega) (jshp_pic hp) rfl ?_
    refine jv_icmp_ge 181 (pc := 24) d_PT_codeRefinement_24 rfl (fun h24 => ?_) (fun h24 => ?_)
    · have h24 : (σ (14 + 2 * p) 1) ≤ x7 := h24
      have H := (if_pos h24).symm.trans H
      cases H
      exact jv_sub [0, 1, 2, 3, 4, 5, 6, 7] rfl K
    · have h24 : ¬ ((σ (14 + 2 * p) 1) ≤ x7) := h24
      have H := (if_neg h24).symm.trans H
      refine jv_iload 7 (pc := 27) d_PT_codeRefinement_27 rfl ?_
      refine jv_iload_n 3 (pc := 29) d_PT_codeRefinement_29 rfl ?_
      refine jv_isub (pc := 30) d_PT_codeRefinement_30 ?_
      refine jv_istore (pc := 31) d_PT_codeRefinement_31 (by decide) (jsto_new rfl) ?_
      refine jv_iload 7 (pc := 33) d_PT_codeRefinement_33 rfl ?_
      refine jv_iload 5 (pc := 35) d_PT_codeRefinement_35 rfl ?_
      refine jv_isub (pc := 37) d_PT_codeRefinement_37 ?_
      refine jv_istore (pc := 38) d_PT_codeRefinement_38 (by decide) (jsto_new rfl) ?_
      refine jv_aload_n 3 (pc := 40) d_PT_codeRefinement_40 rfl ?_
      refine jv_iload 8 (pc := 41) d_PT_codeRefinement_41 rfl ?_
      refine jv_iconst 1 (pc := 43) d_PT_codeRefinement_43 rfl ?_
      refine jv_isub (pc := 44) d_PT_codeRefinement_44 ?_
      refine jv_iload 9 (pc := 45) d_PT_codeRefinement_45 rfl ?_
      refine jv_iconst 1 (pc := 47) d_PT_codeRefinement_47 rfl ?_
      refine jv_iadd (pc := 48) d_PT_codeRefinement_48 ?_
      refine jv_iconst 3 (pc := 49) d_PT_codeRefinement_49 rfl ?_
      obtain ⟨v50, n50, c50, H⟩ := jbd_some H
      refine jv_callVi (sp_PI_span p (x6 - (1 : Int32)) (x7 + (1 : Int32)) (3 : Int32) hp c50) (pc := 50) d_PT_codeRefinement_50 c0_PI_span lk_PT_34 in_PI_span se_PI_span (show 14 + 2 * p < jN by unfold jN; omega) (jshp_pic hp) rfl rfl (Nat.le_of_ble_eq_true rfl) ⟨Nat.le_trans (Nat.le_of_ble_eq_true rfl : _ ≤ 4) hR.1, Nat.le_trans (Nat.le_of_ble_eq_true rfl : _ ≤ 40 * 4) hR.2, Nat.zero_le _, Nat.zero_le _⟩ (fun r50 m50 h50 => ?_)
      obtain ⟨ha50, hb50⟩ := h50
      have ha50 := ha50.symm
      subst ha50
      have hb50 := hb50.symm
      subst hb50
      refine jv_iconst 1 (pc := 53) d_PT_codeRefinement_53 rfl ?_
      refine jv_ishl (pc := 54) d_PT_codeRefinement_54 ?_
      refine jv_aload_n 3 (pc := 55) d_PT_codeRefinement_55 rfl ?_
      refine jv_iload 8 (pc := 56) d_PT_codeRefinement_56 rfl ?_
      refine jv_iload 9 (pc := 58) d_PT_codeRefinement_58 rfl ?_
      refine jv_iconst 1 (pc := 60) d_PT_codeRefinement_60 rfl ?_
      refine jv_isub (pc := 61) d_PT_codeRefinement_61 ?_
      refine jv_iconst 1 (pc := 62) d_PT_codeRefinement_62 rfl ?_
      obtain ⟨v63, n63, c63, H⟩ := jbd_some H
      refine jv_callVi (sp_PI_span p x6 (x7 - (1 : Int32)) (1 : Int32) hp c63) (pc := 63) d_PT_codeRefinement_63 c0_PI_span lk_PT_34 in_PI_span se_PI_span (show 14 + 2 * p < jN by unfold jN; omega) (jshp_pic hp) rfl rfl (Nat.le_of_ble_eq_true rfl) ⟨Nat.le_trans (Nat.le_of_ble_eq_true rfl : _ ≤ 4) hR.1, Nat.le_trans (Nat.le_of_ble_eq_true rfl : _ ≤ 40 * 4) hR.2, Nat.zero_le _, Nat.zero_le _⟩ (fun r63 m63 h63 => ?_)
      obtain ⟨ha63, hb63⟩ := h63
      have ha63 := ha63.symm
      subst ha63
      have hb63 := hb63.symm
      subst hb63
      refine jv_ior (pc := 66) d_PT_codeRefinement_66 ?_
      refine jv_istore (pc := 67) d_PT_codeRefinement_67 (by decide) (jsto_new rfl) ?_
      refine jv_aload_n 5 (pc := 69) d_PT_codeRefinement_69 rfl ?_
      refine jv_iload 1 (pc := 70) d_PT_codeRefinement_70 rfl ?_
      refine jv_iconst 1 (pc := 72) d_PT_codeRefinement_72 rfl ?_
      refine jv_isub (pc := 73) d_PT_codeRefinement_73 ?_
      refine jv_iload 2 (pc := 74) d_PT_codeRefinement_74 rfl ?_
      refine jv_iconst 1 (pc := 76) d_PT_codeRefinement_76 rfl ?_
      obtain ⟨v77, n77, c77, H⟩ := jbd_some H
      refine jv_callVi (sp_PI_span q ((x6 - x4) - (1 : Int32)) (x7 - x3) (1 : Int32) hq c77) (pc := 77) d_PT_codeRefinement_77 c0_PI_span lk_PT_34 in_PI_span se_PI_span (show 14 + 2 * q < jN by unfold jN; omega) (jshp_pic hq) rfl rfl (Nat.le_of_ble_eq_true rfl) ⟨Nat.le_trans (Nat.le_of_ble_eq_true rfl : _ ≤ 4) hR.1, Nat.le_trans (Nat.le_of_ble_eq_true rfl : _ ≤ 40 * 4) hR.2, Nat.zero_le _, Nat.zero_le _⟩ (fun r77 m77 h77 => ?_)
      obtain ⟨ha77, hb77⟩ := h77
      have ha77 := ha77.symm
      subst ha77
      have hb77 := hb77.symm
      subst hb77
      refine jv_iconst 5 (pc := 80) d_PT_codeRefinement_80 rfl ?_
      refine jv_ishl (pc := 81) d_PT_codeRefinement_81 ?_
      refine jv_aload_n 5 (pc := 82) d_PT_codeRefinement_82 rfl ?_
      refine jv_iload 1 (pc := 83) d_PT_codeRefinement_83 rfl ?_
      refine jv_iload 2 (pc := 85) d_PT_codeRefinement_85 rfl ?_
      refine jv_iconst 1 (pc := 87) d_PT_codeRefinement_87 rfl ?_
      refine jv_iadd (pc := 88) d_PT_codeRefinement_88 ?_
      refine jv_iconst 3 (pc := 89) d_PT_codeRefinement_89 rfl ?_
      obtain ⟨v90, n90, c90, H⟩ := jbd_some H
      refine jv_callVi (sp_PI_span q (x6 - x4) ((x7 - x3) + (1 : Int32)) (3 : Int32) hq c90) (pc := 90) d_PT_codeRefinement_90 c0_PI_span lk_PT_34 in_PI_span se_PI_span (show 14 + 2 * q < jN by unfold jN; omega) (jshp_pic hq) rfl rfl (Nat.le_of_ble_eq_true rfl) ⟨Nat.le_trans (Nat.le_of_ble_eq_true rfl : _ ≤ 4) hR.1, Nat.le_trans (Nat.le_of_ble_eq_true rfl : _ ≤ 40 * 4) hR.2, Nat.zero_le _, Nat.zero_le _⟩ (fun r90 m90 h90 => ?_)
      obtain ⟨ha90, hb90⟩ := h90
      have ha90 := ha90.symm
      subst ha90
      have hb90 := hb90.symm
      subst hb90
      refine jv_iconst 2 (pc := 93) d_PT_codeRefinement_93 rfl ?_
      refine jv_ishl (pc := 94) d_PT_codeRefinement_94 ?_
      refine jv_ior (pc := 95) d_PT_codeRefinement_95 ?_
      refine jv_aload_n 5 (pc := 96) d_PT_codeRefinement_96 rfl ?_
      refine jv_iload 1 (pc := 97) d_PT_codeRefinement_97 rfl ?_
      refine jv_iconst 1 (pc := 99) d_PT_codeRefinement_99 rfl ?_
      refine jv_iadd (pc := 100) d_PT_codeRefinement_100 ?_
      refine jv_iload 2 (pc := 101) d_PT_codeRefinement_101 rfl ?_
      refine jv_iconst 1 (pc := 103) d_PT_codeRefinement_103 rfl ?_
      refine jv_iadd (pc := 104) d_PT_codeRefinement_104 ?_
      refine jv_iconst 2 (pc := 105) d_PT_codeRefinement_105 rfl ?_
      obtain ⟨v106, n106, c106, H⟩ := jbd_some H
      refine jv_callVi (sp_PI_span q ((x6 - x4) + (1 : Int32)) ((x7 - x3) + (1 : Int32)) (2 : Int32) hq c106) (pc := 106) d_PT_codeRefinement_106 c0_PI_span lk_PT_34 in_PI_span se_PI_span (show 14 + 2 * q < jN by unfold jN; omega) (jshp_pic hq) rfl rfl (Nat.le_of_ble_eq_true rfl) ⟨Nat.le_trans (Nat.le_of_ble_eq_true rfl : _ ≤ 4) hR.1, Nat.le_trans (Nat.le_of_ble_eq_true rfl : _ ≤ 40 * 4) hR.2, Nat.zero_le _, Nat.zero_le _⟩ (fun r106 m106 h106 => ?_)
      obtain ⟨ha106, hb106⟩ := h106
      have ha106 := ha106.symm
      subst ha106
      have hb106 := hb106.symm
      subst hb106
      refine jv_ior (pc := 109) d_PT_codeRefinement_109 ?_
      refine jv_istore (pc := 110) d_PT_codeRefinement_110 (by decide) (jsto_new rfl) ?_
      refine jv_sipush (10244) (pc := 112) d_PT_codeRefinement_112 rfl ?_
      refine jv_iload 1 (pc := 115) d_PT_codeRefinement_115 rfl ?_
      refine jv_bipush (6) (pc := 117) d_PT_codeRefinement_117 rfl ?_
      refine jv_ishl (pc := 119) d_PT_codeRefinement_119 ?_
      refine jv_iload 0 (pc := 120) d_PT_codeRefinement_120 rfl ?_
      refine jv_ior (pc := 122) d_PT_codeRefinement_122 ?_
      refine jv_iadd (pc := 123) d_PT_codeRefinement_123 ?_
      refine jv_istore (pc := 124) d_PT_codeRefinement_124 (by decide) (jsto_new rfl) ?_
      refine jv_aload_n 5 (pc := 126) d_PT_codeRefinement_126 rfl ?_
      refine jv_iload 0 (pc := 127) d_PT_codeRefinement_127 rfl ?_
      refine jv_aload_n 6 (pc := 129) d_PT_codeRefinement_129 rfl ?_
      refine jv_iload 12 (pc := 130) d_PT_codeRefinement_130 rfl ?_
      refine jv_iload 11 (pc := 132) d_PT_codeRefinement_132 rfl ?_
      obtain ⟨v134, n134, c134, H⟩ := jbd_some H
      refine jv_callVi (sp_PI_at p x7 x6 hp c134) (pc := 134) d_PT_codeRefinement_134 c0_PI_at lk_PT_40 in_PI_at se_PI_at (show 14 + 2 * p < jN by unfold jN; omega) (jshp_pic hp) rfl rfl (Nat.le_of_ble_eq_true rfl) ⟨Nat.le_trans (Nat.le_of_ble_eq_true rfl : _ ≤ 4) hR.1, Nat.le_trans (Nat.le_of_ble_eq_true rfl : _ ≤ 40 * 4) hR.2, Nat.zero_le _, Nat.zero_le _⟩ (fun r134 m134 h134 => ?_)
      obtain ⟨ha134, hb134⟩ := h134
      have ha134 := ha134.symm
      subst ha134
      have hb134 := hb134.symm
      subst hb134
      obtain ⟨v137, n137, c137, H⟩ := jbd_some H
      refine jv_callOi (sp_WR_decide ((10244 : Int32) + ((((v50 <<< ((1 : Int32) &&& 31)) ||| v63) <<< ((6 : Int32) &&& 31)) ||| (((v77 <<< ((5 : Int32) &&& 31)) ||| (v90 <<< ((2 : Int32) &&& 31))) ||| v106))) v134 c137) (pc := 137) d_PT_codeRefinement_137 c0_WR_decide rfl lo_PT_44 in_WR_decide so_WR (by decide) rfl rfl rfl (Nat.le_of_ble_eq_true rfl) ⟨Nat.le_trans (Nat.le_of_ble_eq_true rfl : _ ≤ 4) hR.1, Nat.le_trans (Nat.le_of_ble_eq_true rfl : _ ≤ 40 * 4) hR.2, Nat.zero_le _, Nat.zero_le _⟩ (fun r137 m137 h137 => ?_)
      obtain ⟨ha137, hb137⟩ := h137
      have ha137 := ha137.symm
      subst ha137
      have hb137 := hb137.symm
      subst hb137
      refine jv_istore (pc := 140) d_PT_codeRefinement_140 (by decide) (jsto_new rfl) ?_
      refine jv_aload_n 7 (pc := 142) d_PT_codeRefinement_142 rfl ?_
      refine jv_iload 13 (pc := 143) d_PT_codeRefinement_143 rfl ?_
      refine jv_iload 12 (pc := 145) d_PT_codeRefinement_145 rfl ?_
      refine jv_iload 0 (pc := 147) d_PT_codeRefinement_147 rfl ?_
      obtain ⟨_, n149, c149, H⟩ := jbd_some H
      refine jv_callVv (sp_PI_set p x7 x6 v137 hp c149) (pc := 149) d_PT_codeRefinement_149 c0_PI_set lk_PT_49 in_PI_set se_PI_set (show 14 + 2 * p < jN by unfold jN; omega) (jshp_pic hp) rfl rfl (Nat.le_of_ble_eq_true rfl) ⟨Nat.le_trans (Nat.le_of_ble_eq_true rfl : _ ≤ 4) hR.1, Nat.le_trans (Nat.le_of_ble_eq_true rfl : _ ≤ 40 * 4) hR.2, Nat.zero_le _, Nat.zero_le _⟩ (fun m149 h149 => ?_)
      have hb149 := h149
      have hb149 := hb149.symm
      subst hb149
      refine jv_iload 11 (pc := 152) d_PT_codeRefinement_152 rfl ?_
      refine jv_iload 0 (pc := 154) d_PT_codeRefinement_154 rfl ?_
      refine jv_aload_n 8 (pc := 156) d_PT_codeRefinement_156 rfl ?_
      refine jv_iload 5 (pc := 157) d_PT_codeRefinement_157 rfl ?_
      refine jv_iload 4 (pc := 159) d_PT_codeRefinement_159 rfl ?_
      obtain ⟨v161, n161, c161, H⟩ := jbd_some H
      refine jv_callVi (sp_PI_at q (x7 - x3) (x6 - x4) hq c161) (pc := 161) d_PT_codeRefinement_161 c0_PI_at lk_PT_40 in_PI_at se_PI_at (show 14 + 2 * q < jN by unfold jN; omega) (jshp_pic hq) rfl rfl (Nat.le_of_ble_eq_true rfl) ⟨Nat.le_trans (Nat.le_of_ble_eq_true rfl : _ ≤ 4) hR.1, Nat.le_trans (Nat.le_of_ble_eq_true rfl : _ ≤ 40 * 4) hR.2, Nat.zero_le _, Nat.zero_le _⟩ (fun r161 m161 h161 => ?_)
      obtain ⟨ha161, hb161⟩ := h161
      have ha161 := ha161.symm
      subst ha161
      have hb161 := hb161.symm
      subst hb161
      refine jv_icmp_ne 171 (pc := 164) d_PT_codeRefinement_164 rfl (fun h164 => ?_) (fun h164 => ?_)
      · have h164 : ¬ (v137 = v161) := h164
        have H := (if_neg h164).symm.trans H
        refine jv_iconst 1 (pc := 171) d_PT_codeRefinement_171 rfl ?_
        refine jv_iadd (pc := 172) d_PT_codeRefinement_172 ?_
        refine jv_istore (pc := 173) d_PT_codeRefinement_173 (by decide) (jst11 rfl) ?_
        refine jv_iinc 13 _ (pc := 175) d_PT_codeRefinement_175 rfl (jinc1 _) (by decide) (jst13 rfl) ?_
        refine jv_goto 18 (pc := 178) d_PT_codeRefinement_178 rfl ?_
        exact jv_sub [6, 7, 8, 9, 10, 11, 12, 13] rfl (ih x3 x4 (x5 + (1 : Int32)) x6 (x7 + 1) _ _ _ _ _ _ _ H K)
      · have h164 : v137 = v161 := h164
        have H := (if_pos h164).symm.trans H
        refine jv_iconst 0 (pc := 167) d_PT_codeRefinement_167 rfl ?_
        refine jv_goto 172 (pc := 168) d_PT_codeRefinement_168 rfl ?_
        refine jv_iadd (pc := 172) d_PT_codeRefinement_172 ?_
        refine jv_istore (pc := 173) d_PT_codeRefinement_173 (by decide) (jst11 rfl) ?_
        refine jv_iinc 13 _ (pc := 175) d_PT_codeRefinement_175 rfl (jinc1 _) (by decide) (jst13 rfl) ?_
        refine jv_goto 18 (pc := 178) d_PT_codeRefinement_178 rfl ?_
        exact jv_sub [6, 7, 8, 9, 10, 11, 12, 13] rfl (ih x3 x4 (x5 + (0 : Int32)) x6 (x7 + 1) _ _ _ _ _ _ _ H K)
set_option maxRecDepth 40000 in
set_option maxHeartbeats 8000000 in
theorem lp_PT_codeRefinement_W_6 {G : jG} (p : Nat) (q : Nat) (hp : p < 12) (hq : q < 12) : ∀ (n : Nat) (x3 x4 x5 x6 : Int32) (σ τ : jMem) (r : Int32), f_PT_codeRefinement_W_L6 p q n x3 x4 x5 x6 σ = some (r, τ) → jV G M_PT_codeRefinement (jr 4 0 0) (jI fun r9 τ9 => r9 = r ∧ τ9 = τ) 0 0 6 [(0, .ref 12), (1, .ref (14 + 2 * p)), (2, .ref (14 + 2 * q)), (3, .int x3), (4, .int x4), (5, .int x5), (6, .int x6)] [] σ := by
  intro n
  induction n with
  | zero =>
    intro x3 x4 x5 x6 σ τ r H
    cases H
  | succ n ih =>
    intro x3 x4 x5 x6 σ τ r H
    rw [f_PT_codeRefinement_W_L6.eq_2] at H
    refine jv_iload 6 (pc := 6) d_PT_codeRefinement_6 rfl ?_
    refine jv_aload_n 1 (pc := 8) d_PT_codeRefinement_8 rfl ?_
    refine jv_geti (pc := 9) d_PT_codeRefinement_9 fa_PT_7_PI (show 14 + 2 * p < jN by unfold jN; omega) (jshp_pic hp) rfl ?_
    refine jv_icmp_ge 187 (pc := 12) d_PT_codeRefinement_12 rfl (fun h12 => ?_) (fun h12 => ?_)
    · have h12 : (σ (14 + 2 * p) 2) ≤ x6 := h12
      have H := (if_pos h12).symm.trans H
      refine jv_iload 5 (pc := 187) d_PT_codeRefinement_187 rfl ?_
      refine jv_iret (pc := 189) d_PT_codeRefinement_189 rfl rfl (Nat.zero_le _) (Nat.zero_le _) ?_
      cases H
      exact jI.of ⟨rfl, rfl⟩
    · have h12 : ¬ ((σ (14 + 2 * p) 2) ≤ x6) := h12
      have H := (if_neg h12).symm.trans H
      refine jv_iconst 0 (pc := 15) d_PT_codeRefinement_15 rfl ?_
      refine jv_istore (pc := 16) d_PT_codeRefinement_16 (by decide) (jsto_new rfl) ?_
      obtain ⟨⟨y18_3, y18_4, y18_5, y18_6, y18_7⟩, m18, c18, H⟩ := jbd_some H
      refine jv_sub [1, 2, 3, 4, 5, 6, 7, 0] rfl (lp_PT_codeRefinement_W_18 p q hp hq ⟨by decide, by decide⟩ _ x3 x4 x5 x6 (0 : Int32) y18_3 y18_4 y18_5 y18_6 y18_7 _ _ c18 ?_)
      refine jv_iinc 6 _ (pc := 181) d_PT_codeRefinement_181 rfl (jinc1 _) (by decide) (jst6 rfl) ?_
      refine jv_goto 6 (pc := 184) d_PT_codeRefinement_184 rfl ?_
      exact jv_sub [0, 1, 2, 3, 4, 5, 6] rfl (ih y18_3 y18_4 y18_5 (y18_6 + 1) _ _ _ H)
set_option maxRecDepth 40000 in
set_option maxHeartbeats 8000000 in
theorem sp_PT_codeRefinement_W {G : jG} {σ τ : jMem} {r : Int32} (p : Nat) (q : Nat) (x3 x4 : Int32) (hp : p < 12) (hq : q < 12) (H : f_PT_codeRefinement_W p q x3 x4 σ = some (r, τ)) : jSp G M_PT_codeRefinement (jr 4 0 0) [.ref 12, .ref (14 + 2 * p), .ref (14 + 2 * q), .int x3, .int x4] σ (jI fun r9 τ9 => r9 = r ∧ τ9 = τ) := by
  refine jSp.of rfl rfl (Nat.le_of_ble_eq_true rfl) ?_
  show jV _ _ _ _ 0 0 0 [(0, .ref 12), (1, .ref (14 + 2 * p)), (2, .ref (14 + 2 * q)), (3, .int x3), (4, .int x4)] [] σ
  unfold f_PT_codeRefinement_W at H
  refine jv_iconst 0 (pc := 0) d_PT_codeRefinement_0 rfl ?_
  refine jv_istore (pc := 1) d_PT_codeRefinement_1 (by decide) (jsto_new rfl) ?_
  refine jv_iconst 0 (pc := 3) d_PT_codeRefinement_3 rfl ?_
  refine jv_istore (pc := 4) d_PT_codeRefinement_4 (by decide) (jsto_new rfl) ?_
  exact jv_sub [2, 3, 4, 5, 6, 1, 0] rfl (lp_PT_codeRefinement_W_6 p q hp hq _ x3 x4 (0 : Int32) (0 : Int32) _ _ _ H)
set_option maxRecDepth 40000 in
set_option maxHeartbeats 8000000 in
theorem sp_NU_follow_R {G : jG} {σ τ : jMem} {r : Int32} (x1 x2 x3 : Int32) (H : f_NU_follow_R x1 x2 x3 σ = some (r, τ)) : jSp G M_NU_follow (jr 4 0 0) [.ref 13, .int x1, .int x2, .int x3] σ (jI fun r9 τ9 => r9 = r ∧ τ9 = τ) := by
  refine jSp.of rfl rfl (Nat.le_of_ble_eq_true rfl) ?_
  show jV _ _ _ _ 0 0 0 [(0, .ref 13), (1, .int x1), (2, .int x2), (3, .int x3)] [] σ
  unfold f_NU_follow_R at H
  refine jv_iconst 2 (pc := 0) d_NU_follow_0 rfl ?_
  refine jv_iload_n 2 (pc := 1) d_NU_follow_1 rfl ?_
  refine jv_imul (pc := 2) d_NU_follow_2 ?_
  refine jv_aload_n 0 (pc := 3) d_NU_follow_3 rfl ?_
  refine jv_iload_n 1 (pc := 4) d_NU_follow_4 rfl ?_
  refine jv_iload_n 2 (pc := 5) d_NU_follow_5 rfl ?_
  refine jv_iadd (pc := 6) d_NU_follow_6 ?_
  refine jv_iload_n 3 (pc := 7) d_NU_follow_7 rfl ?_
  obtain ⟨v8, n8, c8, H⟩ := jbd_some H
  refine jv_callOi (sp_RD_decide (x1 + x2) x3 c8) (pc := 8) d_NU_follow_8 c0_RD_decide rfl lo_NU_35 in_RD_decide so_RD (by decide) rfl rfl rfl (Nat.le_of_ble_eq_true rfl) ⟨by decide, by decide, by decide, by decide⟩ (fun r8 m8 h8 => ?_)
  obtain ⟨ha8, hb8⟩ := h8
  have ha8 := ha8.symm
  subst ha8
  have hb8 := hb8.symm
  subst hb8
  refine jv_iadd (pc := 11) d_NU_follow_11 ?_
  refine jv_istore (pc := 12) d_NU_follow_12 (by decide) (jsto_new rfl) ?_
  refine jv_iload_n 3 (pc := 14) d_NU_follow_14 rfl ?_
  refine jv_sipush (256) (pc := 15) d_NU_follow_15 rfl ?_
  refine jv_icmp_ge 26 (pc := 18) d_NU_follow_18 rfl (fun h18 => ?_) (fun h18 => ?_)
  · have h18 : (256 : Int32) ≤ x2 := h18
    have H := (if_pos h18).symm.trans H
    refine jv_iload 0 (pc := 26) d_NU_follow_26 rfl ?_
    refine jv_sipush (255) (pc := 28) d_NU_follow_28 rfl ?_
    refine jv_iand (pc := 31) d_NU_follow_31 ?_
    refine jv_sipush (256) (pc := 32) d_NU_follow_32 rfl ?_
    refine jv_ior (pc := 35) d_NU_follow_35 ?_
    refine jv_iret (pc := 36) d_NU_follow_36 rfl rfl (Nat.zero_le _) (Nat.zero_le _) ?_
    cases H
    exact jI.of ⟨rfl, rfl⟩
  · have h18 : ¬ ((256 : Int32) ≤ x2) := h18
    have H := (if_neg h18).symm.trans H
    refine jv_iload 0 (pc := 21) d_NU_follow_21 rfl ?_
    refine jv_goto 36 (pc := 23) d_NU_follow_23 rfl ?_
    refine jv_iret (pc := 36) d_NU_follow_36 rfl rfl (Nat.zero_le _) (Nat.zero_le _) ?_
    cases H
    exact jI.of ⟨rfl, rfl⟩
set_option maxRecDepth 40000 in
set_option maxHeartbeats 8000000 in
theorem lp_NU_codeNumber_R_116 {G : jG} : ∀ (n : Nat) (x1 x2 x3 x4 x5 x6 x7 x8 x9 : Int32) (σ τ : jMem) (r : Int32), f_NU_codeNumber_R_L116 n x1 x2 x3 x4 x5 x6 x7 x8 x9 σ = some (r, τ) → jV G M_NU_codeNumber (jr 5 0 0) (jI fun r9 τ9 => r9 = r ∧ τ9 = τ) 0 0 116 [(0, .ref 13), (1, .int x1), (2, .int x2), (3, .int x3), (4, .int x4), (5, .int x5), (6, .int x6), (7, .int x7), (8, .int x8), (9, .int x9)] [] σ := by
  intro n
  induction n with
  | zero =>
    intro x1 x2 x3 x4 x5 x6 x7 x8 x9 σ τ r H
    cases H
  | succ n ih =>
    intro x1 x2 x3 x4 x5 x6 x7 x8 x9 σ τ r H
    rw [f_NU_codeNumber_R_L116.eq_2] at H
    refine jv_iload 9 (pc := 116) d_NU_codeNumber_116 rfl ?_
    refine jv_if_lt 161 (pc := 118) d_NU_codeNumber_118 rfl (fun h118 => ?_) (fun h118 => ?_)
    · have h118 : x9 < 0 := h118
      have H := (if_pos h118).symm.trans H
      refine jv_iload 6 (pc := 161) d_NU_codeNumber_161 rfl ?_
      refine jv_if_eq 179 (pc := 163) d_NU_codeNumber_163 rfl (fun h163 => ?_) (fun h163 => ?_)
      · have h163 : x6 = 0 := h163
        have H := (if_pos h163).symm.trans H
        refine jv_gets (pc := 179) d_NU_codeNumber_179 gs_NU_28 ?_
        refine jv_iload 7 (pc := 182) d_NU_codeNumber_182 rfl ?_
        obtain ⟨b184, H⟩ := jck_some H
        refine jv_tald (q := jS_STARTS) (pc := 184) d_NU_codeNumber_184 (List.mem_of_getElem? (i := 3) rfl) b184 ?_
        refine jv_iload 8 (pc := 185) d_NU_codeNumber_185 rfl ?_
        refine jv_iadd (pc := 187) d_NU_codeNumber_187 ?_
        refine jv_istore (pc := 188) d_NU_codeNumber_188 (by decide) (jst9 rfl) ?_
        refine jv_iload 6 (pc := 190) d_NU_codeNumber_190 rfl ?_
        refine jv_if_eq 201 (pc := 192) d_NU_codeNumber_192 rfl (fun h192 => ?_) (fun h192 => ?_)
        · have h192 : x6 = 0 := h192
          have H := (if_pos h192).symm.trans H
          refine jv_iload 9 (pc := 201) d_NU_codeNumber_201 rfl ?_
          refine jv_iret (pc := 203) d_NU_codeNumber_203 rfl rfl (Nat.zero_le _) (Nat.zero_le _) ?_
          cases H
          exact jI.of ⟨rfl, rfl⟩
        · have h192 : ¬ (x6 = 0) := h192
          have H := (if_neg h192).symm.trans H
          refine jv_iload 9 (pc := 195) d_NU_codeNumber_195 rfl ?_
          refine jv_ineg (pc := 197) d_NU_codeNumber_197 ?_
          refine jv_goto 203 (pc := 198) d_NU_codeNumber_198 rfl ?_
          refine jv_iret (pc := 203) d_NU_codeNumber_203 rfl rfl (Nat.zero_le _) (Nat.zero_le _) ?_
          cases H
          exact jI.of ⟨rfl, rfl⟩
      · have h163 : ¬ (x6 = 0) := h163
        have H := (if_neg h163).symm.trans H
        refine jv_iload 7 (pc := 166) d_NU_codeNumber_166 rfl ?_
        refine jv_if_ne 179 (pc := 168) d_NU_codeNumber_168 rfl (fun h168 => ?_) (fun h168 => ?_)
        · have h168 : ¬ (x7 = 0) := h168
          have H := (if_neg h168).symm.trans H
          refine jv_gets (pc := 179) d_NU_codeNumber_179 gs_NU_28 ?_
          refine jv_iload 7 (pc := 182) d_NU_codeNumber_182 rfl ?_
          obtain ⟨b184, H⟩ := jck_some H
          refine jv_tald (q := jS_STARTS) (pc := 184) d_NU_codeNumber_184 (List.mem_of_getElem? (i := 3) rfl) b184 ?_
          refine jv_iload 8 (pc := 185) d_NU_codeNumber_185 rfl ?_
          refine jv_iadd (pc := 187) d_NU_codeNumber_187 ?_
          refine jv_istore (pc := 188) d_NU_codeNumber_188 (by decide) (jst9 rfl) ?_
          refine jv_iload 6 (pc := 190) d_NU_codeNumber_190 rfl ?_
          refine jv_if_eq 201 (pc := 192) d_NU_codeNumber_192 rfl (fun h192 => ?_) (fun h192 => ?_)
          · have h192 : x6 = 0 := h192
            have H := (if_pos h192).symm.trans H
            refine jv_iload 9 (pc := 201) d_NU_codeNumber_201 rfl ?_
            refine jv_iret (pc := 203) d_NU_codeNumber_203 rfl rfl (Nat.zero_le _) (Nat.zero_le _) ?_
            cases H
            exact jI.of ⟨rfl, rfl⟩
          · have h192 : ¬ (x6 = 0) := h192
            have H := (if_neg h192).symm.trans H
            refine jv_iload 9 (pc := 195) d_NU_codeNumber_195 rfl ?_
            refine jv_ineg (pc := 197) d_NU_codeNumber_197 ?_
            refine jv_goto 203 (pc := 198) d_NU_codeNumber_198 rfl ?_
            refine jv_iret (pc := 203) d_NU_codeNumber_203 rfl rfl (Nat.zero_le _) (Nat.zero_le _) ?_
            cases H
            exact jI.of ⟨rfl, rfl⟩
        · have h168 : x7 = 0 := h168
          have H := (if_pos h168).symm.trans H
          refine jv_iload 8 (pc := 171) d_NU_codeNumber_171 rfl ?_
          refine jv_if_ne 179 (pc := 173) d_NU_codeNumber_173 rfl (fun h173 => ?_) (fun h173 => ?_)
          · have h173 : ¬ (x8 = 0) := h173
            have H := (if_neg h173).symm.trans H
            refine jv_gets (pc := 179) d_NU_codeNumber_179 gs_NU_28 ?_
            refine jv_iload 7 (pc := 182) d_NU_codeNumber_182 rfl ?_
            obtain ⟨b184, H⟩ := jck_some H
            refine jv_tald (q := jS_STARTS) (pc := 184) d_NU_codeNumber_184 (List.mem_of_getElem? (i := 3) rfl) b184 ?_
            refine jv_iload 8 (pc := 185) d_NU_codeNumber_185 rfl ?_
            refine jv_iadd (pc := 187) d_NU_codeNumber_187 ?_
            refine jv_istore (pc := 188) d_NU_codeNumber_188 (by decide) (jst9 rfl) ?_
            refine jv_iload 6 (pc := 190) d_NU_codeNumber_190 rfl ?_
            refine jv_if_eq 201 (pc := 192) d_NU_codeNumber_192 rfl (fun h192 => ?_) (fun h192 => ?_)
            · have h192 : x6 = 0 := h192
              have H := (if_pos h192).symm.trans H
              refine jv_iload 9 (pc := 201) d_NU_codeNumber_201 rfl ?_
              refine jv_iret (pc := 203) d_NU_codeNumber_203 rfl rfl (Nat.zero_le _) (Nat.zero_le _) ?_
              cases H
              exact jI.of ⟨rfl, rfl⟩
            · have h192 : ¬ (x6 = 0) := h192
              have H := (if_neg h192).symm.trans H
              refine jv_iload 9 (pc := 195) d_NU_codeNumber_195 rfl ?_
              refine jv_ineg (pc := 197) d_NU_codeNumber_197 ?_
              refine jv_goto 203 (pc := 198) d_NU_codeNumber_198 rfl ?_
              refine jv_iret (pc := 203) d_NU_codeNumber_203 rfl rfl (Nat.zero_le _) (Nat.zero_le _) ?_
              cases H
              exact jI.of ⟨rfl, rfl⟩
          · have h173 : x8 = 0 := h173
            have H := (if_pos h173).symm.trans H
            refine jv_ldc (-2147483648) (pc := 176) d_NU_codeNumber_176 (jin3 105 rfl rfl) ?_
            refine jv_iret (pc := 178) d_NU_codeNumber_178 rfl rfl (Nat.zero_le _) (Nat.zero_le _) ?_
            cases H
            exact jI.of ⟨rfl, rfl⟩
    · have h118 : ¬ (x9 < 0) := h118
      have H := (if_neg h118).symm.trans H
      refine jv_aload_n 0 (pc := 121) d_NU_codeNumber_121 rfl ?_
      refine jv_iload_n 3 (pc := 122) d_NU_codeNumber_122 rfl ?_
      refine jv_iload 5 (pc := 123) d_NU_codeNumber_123 rfl ?_
      refine jv_iload 4 (pc := 125) d_NU_codeNumber_125 rfl ?_
      refine jv_gets (pc := 127) d_NU_codeNumber_127 gs_NU_28 ?_
      refine jv_iload 7 (pc := 130) d_NU_codeNumber_130 rfl ?_
      obtain ⟨b132, H⟩ := jck_some H
      refine jv_tald (q := jS_STARTS) (pc := 132) d_NU_codeNumber_132 (List.mem_of_getElem? (i := 3) rfl) b132 ?_
      refine jv_isub (pc := 133) d_NU_codeNumber_133 ?_
      refine jv_iload 9 (pc := 134) d_NU_codeNumber_134 rfl ?_
      refine jv_iushr (pc := 136) d_NU_codeNumber_136 ?_
      refine jv_iconst 1 (pc := 137) d_NU_codeNumber_137 rfl ?_
      refine jv_iand (pc := 138) d_NU_codeNumber_138 ?_
      obtain ⟨v139, n139, c139, H⟩ := jbd_some H
      refine jv_callSi (sp_NU_follow_R x3 x5 ((((x4 - (jS_STARTS.2.2.2.getD x7.toNatClampNeg 0)).toUInt32 >>> (x9.toUInt32 &&& Int32.toUInt32 31)).toInt32) &&& (1 : Int32)) c139) (pc := 139) d_NU_codeNumber_139 c0_NU_follow lk_NU_18 si_NU_follow rfl (Nat.le_of_ble_eq_true rfl) ⟨by decide, by decide, by decide, by decide⟩ (fun r139 m139 h139 => ?_)
      obtain ⟨ha139, hb139⟩ := h139
      have ha139 := ha139.symm
      subst ha139
      have hb139 := hb139.symm
      subst hb139
      refine jv_istore (pc := 142) d_NU_codeNumber_142 (by decide) (jst5 rfl) ?_
      refine jv_iconst 2 (pc := 144) d_NU_codeNumber_144 rfl ?_
      refine jv_iload 8 (pc := 145) d_NU_codeNumber_145 rfl ?_
      refine jv_imul (pc := 147) d_NU_codeNumber_147 ?_
      refine jv_iload 5 (pc := 148) d_NU_codeNumber_148 rfl ?_
      refine jv_iconst 1 (pc := 150) d_NU_codeNumber_150 rfl ?_
      refine jv_iand (pc := 151) d_NU_codeNumber_151 ?_
      refine jv_iadd (pc := 152) d_NU_codeNumber_152 ?_
      refine jv_istore (pc := 153) d_NU_codeNumber_153 (by decide) (jst8 rfl) ?_
      refine jv_iinc 9 _ (pc := 155) d_NU_codeNumber_155 rfl rfl (by decide) (jst9 rfl) ?_
      refine jv_goto 116 (pc := 158) d_NU_codeNumber_158 rfl ?_
      exact jv_sub [0, 1, 2, 3, 4, 5, 6, 7, 8, 9] rfl (ih x1 x2 x3 x4 v139 x6 x7 (((2 : Int32) * x8) + (v139 &&& (1 : Int32))) (x9 + Int32.ofInt (-1)) _ _ _ H)
set_option maxRecDepth 40000 in
set_option maxHeartbeats 8000000 in
theorem lp_NU_codeNumber_R_53 {G : jG} : ∀ (n : Nat) (x1 x2 x3 x4 x5 x6 x7 : Int32) (σ τ : jMem) (r : Int32), f_NU_codeNumber_R_L53 n x1 x2 x3 x4 x5 x6 x7 σ = some (r, τ) → jV G M_NU_codeNumber (jr 5 0 0) (jI fun r9 τ9 => r9 = r ∧ τ9 = τ) 0 0 53 [(0, .ref 13), (1, .int x1), (2, .int x2), (3, .int x3), (4, .int x4), (5, .int x5), (6, .int x6), (7, .int x7)] [] σ := by
  intro n
  induction n with
  | zero =>
    intro x1 x2 x3 x4 x5 x6 x7 σ τ r H
    cases H
  | succ n ih =>
    intro x1 x2 x3 x4 x5 x6 x7 σ τ r H
    rw [f_NU_codeNumber_R_L53.eq_2] at H
    refine jv_iload 7 (pc := 53) d_NU_codeNumber_53 rfl ?_
    refine jv_iconst 5 (pc := 55) d_NU_codeNumber_55 rfl ?_
    refine jv_icmp_ge 103 (pc := 56) d_NU_codeNumber_56 rfl (fun h56 => ?_) (fun h56 => ?_)
    · have h56 : (5 : Int32) ≤ x7 := h56
      have H := (if_pos h56).symm.trans H
      refine jv_iconst 0 (pc := 103) d_NU_codeNumber_103 rfl ?_
      refine jv_istore (pc := 104) d_NU_codeNumber_104 (by decide) (jsto_new rfl) ?_
      refine jv_gets (pc := 106) d_NU_codeNumber_106 gs_NU_32 ?_
      refine jv_iload 8 (pc := 109) d_NU_codeNumber_109 rfl ?_
      obtain ⟨b111, H⟩ := jck_some H
      refine jv_tald (q := jS_BITS) (pc := 111) d_NU_codeNumber_111 (List.mem_of_getElem? (i := 4) rfl) b111 ?_
      refine jv_iconst 1 (pc := 112) d_NU_codeNumber_112 rfl ?_
      refine jv_isub (pc := 113) d_NU_codeNumber_113 ?_
      refine jv_istore (pc := 114) d_NU_codeNumber_114 (by decide) (jsto_new rfl) ?_
      exact jv_sub [2, 3, 4, 5, 6, 7, 8, 9, 1, 0] rfl (lp_NU_codeNumber_R_116  _ x1 x2 x3 x4 x5 x6 x7 (0 : Int32) ((jS_BITS.2.2.2.getD x7.toNatClampNeg 0) - (1 : Int32)) _ _ _ H)
    · have h56 : ¬ ((5 : Int32) ≤ x7) := h56
      have H := (if_neg h56).symm.trans H
      refine jv_aload_n 0 (pc := 59) d_NU_codeNumber_59 rfl ?_
      refine jv_iload_n 3 (pc := 60) d_NU_codeNumber_60 rfl ?_
      refine jv_iload 5 (pc := 61) d_NU_codeNumber_61 rfl ?_
      refine jv_iload 4 (pc := 63) d_NU_codeNumber_63 rfl ?_
      refine jv_gets (pc := 65) d_NU_codeNumber_65 gs_NU_28 ?_
      refine jv_iload 7 (pc := 68) d_NU_codeNumber_68 rfl ?_
      refine jv_iconst 1 (pc := 70) d_NU_codeNumber_70 rfl ?_
      refine jv_iadd (pc := 71) d_NU_codeNumber_71 ?_
      obtain ⟨b72, H⟩ := jck_some H
      refine jv_tald (q := jS_STARTS) (pc := 72) d_NU_codeNumber_72 (List.mem_of_getElem? (i := 3) rfl) b72 ?_
      refine jv_icmp_lt 80 (pc := 73) d_NU_codeNumber_73 rfl (fun h73 => ?_) (fun h73 => ?_)
      · have h73 : x4 < (jS_STARTS.2.2.2.getD (x7 + (1 : Int32)).toNatClampNeg 0) := h73
        have H := (if_pos h73).symm.trans H
        refine jv_iconst 0 (pc := 80) d_NU_codeNumber_80 rfl ?_
        obtain ⟨v81, n81, c81, H⟩ := jbd_some H
        refine jv_callSi (sp_NU_follow_R x3 x5 (0 : Int32) c81) (pc := 81) d_NU_codeNumber_81 c0_NU_follow lk_NU_18 si_NU_follow rfl (Nat.le_of_ble_eq_true rfl) ⟨by decide, by decide, by decide, by decide⟩ (fun r81 m81 h81 => ?_)
        obtain ⟨ha81, hb81⟩ := h81
        have ha81 := ha81.symm
        subst ha81
        have hb81 := hb81.symm
        subst hb81
        refine jv_istore (pc := 84) d_NU_codeNumber_84 (by decide) (jst5 rfl) ?_
        refine jv_iload 5 (pc := 86) d_NU_codeNumber_86 rfl ?_
        refine jv_callSi (sp_NU_isOne v81) (pc := 88) d_NU_codeNumber_88 c0_NU_isOne lk_NU_24 si_NU_isOne rfl (Nat.le_of_ble_eq_true rfl) ⟨by decide, by decide, by decide, by decide⟩ (fun r88 m88 h88 => ?_)
        obtain ⟨ha88, hb88⟩ := h88
        subst ha88
        have hb88 := hb88.symm
        subst hb88
        refine jv_if_ne 97 (pc := 91) d_NU_codeNumber_91 rfl (fun h91 => ?_) (fun h91 => ?_)
        · have h91 : ¬ ((f_NU_isOne v81 n81) = 0) := h91
          have H := (if_neg h91).symm.trans H
          refine jv_iinc 7 _ (pc := 97) d_NU_codeNumber_97 rfl (jinc1 _) (by decide) (jst7 rfl) ?_
          refine jv_goto 53 (pc := 100) d_NU_codeNumber_100 rfl ?_
          exact jv_sub [0, 1, 2, 3, 4, 5, 6, 7] rfl (ih x1 x2 x3 x4 v81 x6 (x7 + 1) _ _ _ H)
        · have h91 : (f_NU_isOne v81 n81) = 0 := h91
          have H := (if_pos h91).symm.trans H
          refine jv_goto 103 (pc := 94) d_NU_codeNumber_94 rfl ?_
          refine jv_iconst 0 (pc := 103) d_NU_codeNumber_103 rfl ?_
          refine jv_istore (pc := 104) d_NU_codeNumber_104 (by decide) (jsto_new rfl) ?_
          refine jv_gets (pc := 106) d_NU_codeNumber_106 gs_NU_32 ?_
          refine jv_iload 8 (pc := 109) d_NU_codeNumber_109 rfl ?_
          obtain ⟨b111, H⟩ := jck_some H
          refine jv_tald (q := jS_BITS) (pc := 111) d_NU_codeNumber_111 (List.mem_of_getElem? (i := 4) rfl) b111 ?_
          refine jv_iconst 1 (pc := 112) d_NU_codeNumber_112 rfl ?_
          refine jv_isub (pc := 113) d_NU_codeNumber_113 ?_
          refine jv_istore (pc := 114) d_NU_codeNumber_114 (by decide) (jsto_new rfl) ?_
          exact jv_sub [2, 3, 4, 5, 6, 7, 8, 9, 1, 0] rfl (lp_NU_codeNumber_R_116  _ x1 x2 x3 x4 v81 x6 x7 (0 : Int32) ((jS_BITS.2.2.2.getD x7.toNatClampNeg 0) - (1 : Int32)) _ _ _ H)
      · have h73 : ¬ (x4 < (jS_STARTS.2.2.2.getD (x7 + (1 : Int32)).toNatClampNeg 0)) := h73
        have H := (if_neg h73).symm.trans H
        refine jv_iconst 1 (pc := 76) d_NU_codeNumber_76 rfl ?_
        refine jv_goto 81 (pc := 77) d_NU_codeNumber_77 rfl ?_
        obtain ⟨v81, n81, c81, H⟩ := jbd_some H
        refine jv_callSi (sp_NU_follow_R x3 x5 (1 : Int32) c81) (pc := 81) d_NU_codeNumber_81 c0_NU_follow lk_NU_18 si_NU_follow rfl (Nat.le_of_ble_eq_true rfl) ⟨by decide, by decide, by decide, by decide⟩ (fun r81 m81 h81 => ?_)
        obtain ⟨ha81, hb81⟩ := h81
        have ha81 := ha81.symm
        subst ha81
        have hb81 := hb81.symm
        subst hb81
        refine jv_istore (pc := 84) d_NU_codeNumber_84 (by decide) (jst5 rfl) ?_
        refine jv_iload 5 (pc := 86) d_NU_codeNumber_86 rfl ?_
        refine jv_callSi (sp_NU_isOne v81) (pc := 88) d_NU_codeNumber_88 c0_NU_isOne lk_NU_24 si_NU_isOne rfl (Nat.le_of_ble_eq_true rfl) ⟨by decide, by decide, by decide, by decide⟩ (fun r88 m88 h88 => ?_)
        obtain ⟨ha88, hb88⟩ := h88
        subst ha88
        have hb88 := hb88.symm
        subst hb88
        refine jv_if_ne 97 (pc := 91) d_NU_codeNumber_91 rfl (fun h91 => ?_) (fun h91 => ?_)
        · have h91 : ¬ ((f_NU_isOne v81 n81) = 0) := h91
          have H := (if_neg h91).symm.trans H
          refine jv_iinc 7 _ (pc := 97) d_NU_codeNumber_97 rfl (jinc1 _) (by decide) (jst7 rfl) ?_
          refine jv_goto 53 (pc := 100) d_NU_codeNumber_100 rfl ?_
          exact jv_sub [0, 1, 2, 3, 4, 5, 6, 7] rfl (ih x1 x2 x3 x4 v81 x6 (x7 + 1) _ _ _ H)
        · have h91 : (f_NU_isOne v81 n81) = 0 := h91
          have H := (if_pos h91).symm.trans H
          refine jv_goto 103 (pc := 94) d_NU_codeNumber_94 rfl ?_
          refine jv_iconst 0 (pc := 103) d_NU_codeNumber_103 rfl ?_
          refine jv_istore (pc := 104) d_NU_codeNumber_104 (by decide) (jsto_new rfl) ?_
          refine jv_gets (pc := 106) d_NU_codeNumber_106 gs_NU_32 ?_
          refine jv_iload 8 (pc := 109) d_NU_codeNumber_109 rfl ?_
          obtain ⟨b111, H⟩ := jck_some H
          refine jv_tald (q := jS_BITS) (pc := 111) d_NU_codeNumber_111 (List.mem_of_getElem? (i := 4) rfl) b111 ?_
          refine jv_iconst 1 (pc := 112) d_NU_codeNumber_112 rfl ?_
          refine jv_isub (pc := 113) d_NU_codeNumber_113 ?_
          refine jv_istore (pc := 114) d_NU_codeNumber_114 (by decide) (jsto_new rfl) ?_
          exact jv_sub [2, 3, 4, 5, 6, 7, 8, 9, 1, 0] rfl (lp_NU_codeNumber_R_116  _ x1 x2 x3 x4 v81 x6 x7 (0 : Int32) ((jS_BITS.2.2.2.getD x7.toNatClampNeg 0) - (1 : Int32)) _ _ _ H)
set_option maxRecDepth 40000 in
set_option maxHeartbeats 8000000 in
theorem sp_NU_codeNumber_R {G : jG} {σ τ : jMem} {r : Int32} (x1 x2 : Int32) (H : f_NU_codeNumber_R x1 x2 σ = some (r, τ)) : jSp G M_NU_codeNumber (jr 5 0 0) [.ref 13, .int x1, .int x2] σ (jI fun r9 τ9 => r9 = r ∧ τ9 = τ) := by
  refine jSp.of rfl rfl (Nat.le_of_ble_eq_true rfl) ?_
  show jV _ _ _ _ 0 0 0 [(0, .ref 13), (1, .int x1), (2, .int x2)] [] σ
  unfold f_NU_codeNumber_R at H
  refine jv_sipush (11268) (pc := 0) d_NU_codeNumber_0 rfl ?_
  refine jv_sipush (512) (pc := 3) d_NU_codeNumber_3 rfl ?_
  refine jv_iload_n 1 (pc := 6) d_NU_codeNumber_6 rfl ?_
  refine jv_imul (pc := 7) d_NU_codeNumber_7 ?_
  refine jv_iadd (pc := 8) d_NU_codeNumber_8 ?_
  refine jv_istore_n (pc := 9) d_NU_codeNumber_9 rfl (by decide) (jsto_new rfl) ?_
  refine jv_iload_n 3 (pc := 10) d_NU_codeNumber_10 rfl ?_
  refine jv_ldc (-2147483648) (pc := 11) d_NU_codeNumber_11 (jin3 105 rfl rfl) ?_
  refine jv_icmp_ne 20 (pc := 13) d_NU_codeNumber_13 rfl (fun h13 => ?_) (fun h13 => ?_)
  · have h13 : ¬ (x2 = (-2147483648 : Int32)) := h13
    have H := (if_neg h13).symm.trans H
    refine jv_iload_n 3 (pc := 20) d_NU_codeNumber_20 rfl ?_
    refine jv_callSi (sp_MA_abs x2) (pc := 21) d_NU_codeNumber_21 c0_MA_abs lk_NU_12 si_MA_abs rfl (Nat.le_of_ble_eq_true rfl) ⟨by decide, by decide, by decide, by decide⟩ (fun r21 m21 h21 => ?_)
    obtain ⟨ha21, hb21⟩ := h21
    subst ha21
    have hb21 := hb21.symm
    subst hb21
    refine jv_istore (pc := 24) d_NU_codeNumber_24 (by decide) (jsto_new rfl) ?_
    refine jv_aload_n 2 (pc := 26) d_NU_codeNumber_26 rfl ?_
    refine jv_iload_n 1 (pc := 27) d_NU_codeNumber_27 rfl ?_
    refine jv_iconst 1 (pc := 28) d_NU_codeNumber_28 rfl ?_
    refine jv_iload_n 4 (pc := 29) d_NU_codeNumber_29 rfl ?_
    refine jv_if_ge 37 (pc := 30) d_NU_codeNumber_30 rfl (fun h30 => ?_) (fun h30 => ?_)
    · have h30 : 0 ≤ x2 := h30
      have H := (if_pos h30).symm.trans H
      refine jv_iconst 0 (pc := 37) d_NU_codeNumber_37 rfl ?_
      obtain ⟨v38, n38, c38, H⟩ := jbd_some H
      refine jv_callSi (sp_NU_follow_R ((11268 : Int32) + ((512 : Int32) * x1)) (1 : Int32) (0 : Int32) c38) (pc := 38) d_NU_codeNumber_38 c0_NU_follow lk_NU_18 si_NU_follow rfl (Nat.le_of_ble_eq_true rfl) ⟨by decide, by decide, by decide, by decide⟩ (fun r38 m38 h38 => ?_)
      obtain ⟨ha38, hb38⟩ := h38
      have ha38 := ha38.symm
      subst ha38
      have hb38 := hb38.symm
      subst hb38
      refine jv_istore (pc := 41) d_NU_codeNumber_41 (by decide) (jsto_new rfl) ?_
      refine jv_iload 0 (pc := 43) d_NU_codeNumber_43 rfl ?_
      refine jv_callSi (sp_NU_isOne v38) (pc := 45) d_NU_codeNumber_45 c0_NU_isOne lk_NU_24 si_NU_isOne rfl (Nat.le_of_ble_eq_true rfl) ⟨by decide, by decide, by decide, by decide⟩ (fun r45 m45 h45 => ?_)
      obtain ⟨ha45, hb45⟩ := h45
      subst ha45
      have hb45 := hb45.symm
      subst hb45
      refine jv_istore (pc := 48) d_NU_codeNumber_48 (by decide) (jsto_new rfl) ?_
      refine jv_iconst 0 (pc := 50) d_NU_codeNumber_50 rfl ?_
      refine jv_istore (pc := 51) d_NU_codeNumber_51 (by decide) (jsto_new rfl) ?_
      exact jv_sub [5, 6, 7, 4, 3, 2, 1, 0] rfl (lp_NU_codeNumber_R_53  _ x1 x2 ((11268 : Int32) + ((512 : Int32) * x1)) (f_MA_abs x2 σ) v38 (f_NU_isOne v38 n38) (0 : Int32) _ _ _ H)
    · have h30 : ¬ (0 ≤ x2) := h30
      have H := (if_neg h30).symm.trans H
      refine jv_iconst 1 (pc := 33) d_NU_codeNumber_33 rfl ?_
      refine jv_goto 38 (pc := 34) d_NU_codeNumber_34 rfl ?_
      obtain ⟨v38, n38, c38, H⟩ := jbd_some H
      refine jv_callSi (sp_NU_follow_R ((11268 : Int32) + ((512 : Int32) * x1)) (1 : Int32) (1 : Int32) c38) (pc := 38) d_NU_codeNumber_38 c0_NU_follow lk_NU_18 si_NU_follow rfl (Nat.le_of_ble_eq_true rfl) ⟨by decide, by decide, by decide, by decide⟩ (fun r38 m38 h38 => ?_)
      obtain ⟨ha38, hb38⟩ := h38
      have ha38 := ha38.symm
      subst ha38
      have hb38 := hb38.symm
      subst hb38
      refine jv_istore (pc := 41) d_NU_codeNumber_41 (by decide) (jsto_new rfl) ?_
      refine jv_iload 0 (pc := 43) d_NU_codeNumber_43 rfl ?_
      refine jv_callSi (sp_NU_isOne v38) (pc := 45) d_NU_codeNumber_45 c0_NU_isOne lk_NU_24 si_NU_isOne rfl (Nat.le_of_ble_eq_true rfl) ⟨by decide, by decide, by decide, by decide⟩ (fun r45 m45 h45 => ?_)
      obtain ⟨ha45, hb45⟩ := h45
      subst ha45
      have hb45 := hb45.symm
      subst hb45
      refine jv_istore (pc := 48) d_NU_codeNumber_48 (by decide) (jsto_new rfl) ?_
      refine jv_iconst 0 (pc := 50) d_NU_codeNumber_50 rfl ?_
      refine jv_istore (pc := 51) d_NU_codeNumber_51 (by decide) (jsto_new rfl) ?_
      exact jv_sub [5, 6, 7, 4, 3, 2, 1, 0] rfl (lp_NU_codeNumber_R_53  _ x1 x2 ((11268 : Int32) + ((512 : Int32) * x1)) (f_MA_abs x2 σ) v38 (f_NU_isOne v38 n38) (0 : Int32) _ _ _ H)
  · have h13 : x2 = (-2147483648 : Int32) := h13
    have H := (if_pos h13).symm.trans H
    refine jv_iconst 0 (pc := 16) d_NU_codeNumber_16 rfl ?_
    refine jv_goto 24 (pc := 17) d_NU_codeNumber_17 rfl ?_
    refine jv_istore (pc := 24) d_NU_codeNumber_24 (by decide) (jsto_new rfl) ?_
    refine jv_aload_n 2 (pc := 26) d_NU_codeNumber_26 rfl ?_
    refine jv_iload_n 1 (pc := 27) d_NU_codeNumber_27 rfl ?_
    refine jv_iconst 1 (pc := 28) d_NU_codeNumber_28 rfl ?_
    refine jv_iload_n 4 (pc := 29) d_NU_codeNumber_29 rfl ?_
    refine jv_if_ge 37 (pc := 30) d_NU_codeNumber_30 rfl (fun h30 => ?_) (fun h30 => ?_)
    · have h30 : 0 ≤ x2 := h30
      have H := (if_pos h30).symm.trans H
      refine jv_iconst 0 (pc := 37) d_NU_codeNumber_37 rfl ?_
      obtain ⟨v38, n38, c38, H⟩ := jbd_some H
      refine jv_callSi (sp_NU_follow_R ((11268 : Int32) + ((512 : Int32) * x1)) (1 : Int32) (0 : Int32) c38) (pc := 38) d_NU_codeNumber_38 c0_NU_follow lk_NU_18 si_NU_follow rfl (Nat.le_of_ble_eq_true rfl) ⟨by decide, by decide, by decide, by decide⟩ (fun r38 m38 h38 => ?_)
      obtain ⟨ha38, hb38⟩ := h38
      have ha38 := ha38.symm
      subst ha38
      have hb38 := hb38.symm
      subst hb38
      refine jv_istore (pc := 41) d_NU_codeNumber_41 (by decide) (jsto_new rfl) ?_
      refine jv_iload 0 (pc := 43) d_NU_codeNumber_43 rfl ?_
      refine jv_callSi (sp_NU_isOne v38) (pc := 45) d_NU_codeNumber_45 c0_NU_isOne lk_NU_24 si_NU_isOne rfl (Nat.le_of_ble_eq_true rfl) ⟨by decide, by decide, by decide, by decide⟩ (fun r45 m45 h45 => ?_)
      obtain ⟨ha45, hb45⟩ := h45
      subst ha45
      have hb45 := hb45.symm
      subst hb45
      refine jv_istore (pc := 48) d_NU_codeNumber_48 (by decide) (jsto_new rfl) ?_
      refine jv_iconst 0 (pc := 50) d_NU_codeNumber_50 rfl ?_
      refine jv_istore (pc := 51) d_NU_codeNumber_51 (by decide) (jsto_new rfl) ?_
      exact jv_sub [5, 6, 7, 4, 3, 2, 1, 0] rfl (lp_NU_codeNumber_R_53  _ x1 x2 ((11268 : Int32) + ((512 : Int32) * x1)) (0 : Int32) v38 (f_NU_isOne v38 n38) (0 : Int32) _ _ _ H)
    · have h30 : ¬ (0 ≤ x2) := h30
      have H := (if_neg h30).symm.trans H
      refine jv_iconst 1 (pc := 33) d_NU_codeNumber_33 rfl ?_
      refine jv_goto 38 (pc := 34) d_NU_codeNumber_34 rfl ?_
      obtain ⟨v38, n38, c38, H⟩ := jbd_some H
      refine jv_callSi (sp_NU_follow_R ((11268 : Int32) + ((512 : Int32) * x1)) (1 : Int32) (1 : Int32) c38) (pc := 38) d_NU_codeNumber_38 c0_NU_follow lk_NU_18 si_NU_follow rfl (Nat.le_of_ble_eq_true rfl) ⟨by decide, by decide, by decide, by decide⟩ (fun r38 m38 h38 => ?_)
      obtain ⟨ha38, hb38⟩ := h38
      have ha38 := ha38.symm
      subst ha38
      have hb38 := hb38.symm
      subst hb38
      refine jv_istore (pc := 41) d_NU_codeNumber_41 (by decide) (jsto_new rfl) ?_
      refine jv_iload 0 (pc := 43) d_NU_codeNumber_43 rfl ?_
      refine jv_callSi (sp_NU_isOne v38) (pc := 45) d_NU_codeNumber_45 c0_NU_isOne lk_NU_24 si_NU_isOne rfl (Nat.le_of_ble_eq_true rfl) ⟨by decide, by decide, by decide, by decide⟩ (fun r45 m45 h45 => ?_)
      obtain ⟨ha45, hb45⟩ := h45
      subst ha45
      have hb45 := hb45.symm
      subst hb45
      refine jv_istore (pc := 48) d_NU_codeNumber_48 (by decide) (jsto_new rfl) ?_
      refine jv_iconst 0 (pc := 50) d_NU_codeNumber_50 rfl ?_
      refine jv_istore (pc := 51) d_NU_codeNumber_51 (by decide) (jsto_new rfl) ?_
      exact jv_sub [5, 6, 7, 4, 3, 2, 1, 0] rfl (lp_NU_codeNumber_R_53  _ x1 x2 ((11268 : Int32) + ((512 : Int32) * x1)) (0 : Int32) v38 (f_NU_isOne v38 n38) (0 : Int32) _ _ _ H)
set_option maxRecDepth 40000 in
set_option maxHeartbeats 8000000 in
theorem lp_NU_codeIndex_R_4 {G : jG} : ∀ (n : Nat) (x1 x2 x3 : Int32) (σ τ : jMem) (r : Int32), f_NU_codeIndex_R_L4 n x1 x2 x3 σ = some (r, τ) → jV G M_NU_codeIndex (jr 4 0 0) (jI fun r9 τ9 => r9 = r ∧ τ9 = τ) 0 0 4 [(0, .ref 13), (1, .int x1), (2, .int x2), (3, .int x3)] [] σ := by
  intro n
  induction n with
  | zero =>
    intro x1 x2 x3 σ τ r H
    cases H
  | succ n ih =>
    intro x1 x2 x3 σ τ r H
    rw [f_NU_codeIndex_R_L4.eq_2] at H
    refine jv_iload_n 3 (pc := 4) d_NU_codeIndex_4 rfl ?_
    refine jv_if_lt 33 (pc := 5) d_NU_codeIndex_5 rfl (fun h5 => ?_) (fun h5 => ?_)
    · have h5 : x3 < 0 := h5
      have H := (if_pos h5).symm.trans H
      refine jv_iload_n 2 (pc := 33) d_NU_codeIndex_33 rfl ?_
      refine jv_bipush (8) (pc := 34) d_NU_codeIndex_34 rfl ?_
      refine jv_isub (pc := 36) d_NU_codeIndex_36 ?_
      refine jv_iret (pc := 37) d_NU_codeIndex_37 rfl rfl (Nat.zero_le _) (Nat.zero_le _) ?_
      cases H
      exact jI.of ⟨rfl, rfl⟩
    · have h5 : ¬ (x3 < 0) := h5
      have H := (if_neg h5).symm.trans H
      refine jv_iconst 2 (pc := 8) d_NU_codeIndex_8 rfl ?_
      refine jv_iload_n 2 (pc := 9) d_NU_codeIndex_9 rfl ?_
      refine jv_imul (pc := 10) d_NU_codeIndex_10 ?_
      refine jv_aload_n 0 (pc := 11) d_NU_codeIndex_11 rfl ?_
      refine jv_sipush (15876) (pc := 12) d_NU_codeIndex_12 rfl ?_
      refine jv_iload_n 2 (pc := 15) d_NU_codeIndex_15 rfl ?_
      refine jv_iadd (pc := 16) d_NU_codeIndex_16 ?_
      refine jv_iload_n 1 (pc := 17) d_NU_codeIndex_17 rfl ?_
      refine jv_iload_n 3 (pc := 18) d_NU_codeIndex_18 rfl ?_
      refine jv_ishr (pc := 19) d_NU_codeIndex_19 ?_
      refine jv_iconst 1 (pc := 20) d_NU_codeIndex_20 rfl ?_
      refine jv_iand (pc := 21) d_NU_codeIndex_21 ?_
      obtain ⟨v22, n22, c22, H⟩ := jbd_some H
      refine jv_callOi (sp_RD_decide ((15876 : Int32) + x2) ((x1 >>> (x3 &&& 31)) &&& (1 : Int32)) c22) (pc := 22) d_NU_codeIndex_22 c0_RD_decide rfl lo_NU_35 in_RD_decide so_RD (by decide) rfl rfl rfl (Nat.le_of_ble_eq_true rfl) ⟨by decide, by decide, by decide, by decide⟩ (fun r22 m22 h22 => ?_)
      obtain ⟨ha22, hb22⟩ := h22
      have ha22 := ha22.symm
      subst ha22
      have hb22 := hb22.symm
      subst hb22
      refine jv_iadd (pc := 25) d_NU_codeIndex_25 ?_
      refine jv_istore_n (pc := 26) d_NU_codeIndex_26 rfl (by decide) (jst2 rfl) ?_
      refine jv_iinc 3 _ (pc := 27) d_NU_codeIndex_27 rfl rfl (by decide) (jst3 rfl) ?_
      refine jv_goto 4 (pc := 30) d_NU_codeIndex_30 rfl ?_
      exact jv_sub [0, 1, 2, 3] rfl (ih x1 (((2 : Int32) * x2) + v22) (x3 + Int32.ofInt (-1)) _ _ _ H)
set_option maxRecDepth 40000 in
set_option maxHeartbeats 8000000 in
theorem sp_NU_codeIndex_R {G : jG} {σ τ : jMem} {r : Int32} (x1 : Int32) (H : f_NU_codeIndex_R x1 σ = some (r, τ)) : jSp G M_NU_codeIndex (jr 4 0 0) [.ref 13, .int x1] σ (jI fun r9 τ9 => r9 = r ∧ τ9 = τ) := by
  refine jSp.of rfl rfl (Nat.le_of_ble_eq_true rfl) ?_
  show jV _ _ _ _ 0 0 0 [(0, .ref 13), (1, .int x1)] [] σ
  unfold f_NU_codeIndex_R at H
  refine jv_iconst 1 (pc := 0) d_NU_codeIndex_0 rfl ?_
  refine jv_istore_n (pc := 1) d_NU_codeIndex_1 rfl (by decide) (jsto_new rfl) ?_
  refine jv_iconst 2 (pc := 2) d_NU_codeIndex_2 rfl ?_
  refine jv_istore_n (pc := 3) d_NU_codeIndex_3 rfl (by decide) (jsto_new rfl) ?_
  exact jv_sub [2, 3, 1, 0] rfl (lp_NU_codeIndex_R_4  _ x1 (1 : Int32) (2 : Int32) _ _ _ H)
set_option maxRecDepth 40000 in
set_option maxHeartbeats 8000000 in
theorem sp_PT_codeSameness_R {G : jG} {σ τ : jMem} {r : Int32} (p : Nat) (x2 x3 : Int32) (hp : p < 12) (H : f_PT_codeSameness_R p x2 x3 σ = some (r, τ)) : jSp G M_PT_codeSameness (jr 4 0 0) [.ref 13, .ref (14 + 2 * p), .int x2, .int x3] σ (jI fun r9 τ9 => r9 = r ∧ τ9 = τ) := by
  refine jSp.of rfl rfl (Nat.le_of_ble_eq_true rfl) ?_
  show jV _ _ _ _ 0 0 0 [(0, .ref 13), (1, .ref (14 + 2 * p)), (2, .int x2), (3, .int x3)] [] σ
  unfold f_PT_codeSameness_R at H
  refine jv_aload_n 1 (pc := 0) d_PT_codeSameness_0 rfl ?_
  refine jv_getr (pc := 1) d_PT_codeSameness_1 fa_PT_19_PI (show 14 + 2 * p < jN by unfold jN; omega) (jshp_pic hp) rfl ?_
  refine jv_iload_n 3 (pc := 4) d_PT_codeSameness_4 rfl ?_
  obtain ⟨b5, H⟩ := jck_some H
  refine jv_iald (pc := 5) d_PT_codeSameness_5 (show 15 + 2 * p < jN by unfold jN; omega) (jshp_row hp) b5 ?_
  refine jv_aload_n 1 (pc := 6) d_PT_codeSameness_6 rfl ?_
  refine jv_iload_n 3 (pc := 7) d_PT_codeSameness_7 rfl ?_
  obtain ⟨v8, n8, c8, H⟩ := jbd_some H
  refine jv_callVi (sp_PI_rowAbove p x3 hp c8) (pc := 8) d_PT_codeSameness_8 c0_PI_rowAbove lk_PT_23 in_PI_rowAbove se_PI_rowAbove (show 14 + 2 * p < jN by unfold jN; omega) (jshp_pic hp) rfl rfl (Nat.le_of_ble_eq_true rfl) ⟨by decide, by decide, by decide, by decide⟩ (fun r8 m8 h8 => ?_)
  obtain ⟨ha8, hb8⟩ := h8
  have ha8 := ha8.symm
  subst ha8
  have hb8 := hb8.symm
  subst hb8
  refine jv_icmp_ne 18 (pc := 11) d_PT_codeSameness_11 rfl (fun h11 => ?_) (fun h11 => ?_)
  · have h11 : ¬ ((σ (15 + 2 * p) x3.toNatClampNeg) = v8) := h11
    have H := (if_neg h11).symm.trans H
    refine jv_iconst 0 (pc := 18) d_PT_codeSameness_18 rfl ?_
    refine jv_istore (pc := 19) d_PT_codeSameness_19 (by decide) (jsto_new rfl) ?_
    refine jv_aload_n 1 (pc := 21) d_PT_codeSameness_21 rfl ?_
    refine jv_sipush (10240) (pc := 22) d_PT_codeSameness_22 rfl ?_
    refine jv_iload_n 3 (pc := 25) d_PT_codeSameness_25 rfl ?_
    refine jv_iadd (pc := 26) d_PT_codeSameness_26 ?_
    refine jv_iload 0 (pc := 27) d_PT_codeSameness_27 rfl ?_
    obtain ⟨v29, n29, c29, H⟩ := jbd_some H
    refine jv_callOi (sp_RD_decide ((10240 : Int32) + x2) (0 : Int32) c29) (pc := 29) d_PT_codeSameness_29 c0_RD_decide rfl lo_PT_44 in_RD_decide so_RD (by decide) rfl rfl rfl (Nat.le_of_ble_eq_true rfl) ⟨by decide, by decide, by decide, by decide⟩ (fun r29 m29 h29 => ?_)
    obtain ⟨ha29, hb29⟩ := h29
    have ha29 := ha29.symm
    subst ha29
    have hb29 := hb29.symm
    subst hb29
    refine jv_iret (pc := 32) d_PT_codeSameness_32 rfl rfl (Nat.zero_le _) (Nat.zero_le _) ?_
    cases H
    exact jI.of ⟨rfl, rfl⟩
  · have h11 : (σ (15 + 2 * p) x3.toNatClampNeg) = v8 := h11
    have H := (if_pos h11).symm.trans H
    refine jv_iconst 1 (pc := 14) d_PT_codeSameness_14 rfl ?_
    refine jv_goto 19 (pc := 15) d_PT_codeSameness_15 rfl ?_
    refine jv_istore (pc := 19) d_PT_codeSameness_19 (by decide) (jsto_new rfl) ?_
    refine jv_aload_n 1 (pc := 21) d_PT_codeSameness_21 rfl ?_
    refine jv_sipush (10240) (pc := 22) d_PT_codeSameness_22 rfl ?_
    refine jv_iload_n 3 (pc := 25) d_PT_codeSameness_25 rfl ?_
    refine jv_iadd (pc := 26) d_PT_codeSameness_26 ?_
    refine jv_iload 0 (pc := 27) d_PT_codeSameness_27 rfl ?_
    obtain ⟨v29, n29, c29, H⟩ := jbd_some H
    refine jv_callOi (sp_RD_decide ((10240 : Int32) + x2) (1 : Int32) c29) (pc := 29) d_PT_codeSameness_29 c0_RD_decide rfl lo_PT_44 in_RD_decide so_RD (by decide) rfl rfl rfl (Nat.le_of_ble_eq_true rfl) ⟨by decide, by decide, by decide, by decide⟩ (fun r29 m29 h29 => ?_)
    obtain ⟨ha29, hb29⟩ := h29
    have ha29 := ha29.symm
    subst ha29
    have hb29 := hb29.symm
    subst hb29
    refine jv_iret (pc := 32) d_PT_codeSameness_32 rfl rfl (Nat.zero_le _) (Nat.zero_le _) ?_
    cases H
    exact jI.of ⟨rfl, rfl⟩
set_option maxRecDepth 40000 in
set_option maxHeartbeats 8000000 in
theorem lp_PT_codeRow_R_3 {G : jG} (p : Nat) (hp : p < 12) : ∀ (n : Nat) (x2 x3 x4 : Int32) (σ τ : jMem) (r : Unit), f_PT_codeRow_R_L3 p n x2 x3 x4 σ = some (r, τ) → jV G M_PT_codeRow (jr 4 0 0) (jU fun τ9 => τ9 = τ) 0 0 3 [(0, .ref 13), (1, .ref (14 + 2 * p)), (2, .int x2), (3, .int x3), (4, .int x4)] [] σ := by
  intro n
  induction n with
  | zero =>
    intro x2 x3 x4 σ τ r H
    cases H
  | succ n ih =>
    intro x2 x3 x4 σ τ r H
    rw [f_PT_codeRow_R_L3.eq_2] at H
    refine jv_iload 4 (pc := 3) d_PT_codeRow_3 rfl ?_
    refine jv_aload_n 1 (pc := 5) d_PT_codeRow_5 rfl ?_
    refine jv_geti (pc := 6) d_PT_codeRow_6 fa_PT_31_PI (show 14 + 2 * p < jN by unfold jN; omega) (jshp_pic hp) rfl ?_
    refine jv_icmp_ge 48 (pc := 9) d_PT_codeRow_9 rfl (fun h9 => ?_) (fun h9 => ?_)
    · have h9 : (σ (14 + 2 * p) 1) ≤ x4 := h9
      have H := (if_pos h9).symm.trans H
      refine jv_vret (pc := 48) d_PT_codeRow_48 rfl (Nat.zero_le _) (Nat.zero_le _) ?_
      cases H
      exact jU.of rfl
    · have h9 : ¬ ((σ (14 + 2 * p) 1) ≤ x4) := h9
      have H := (if_neg h9).symm.trans H
      refine jv_aload_n 1 (pc := 12) d_PT_codeRow_12 rfl ?_
      refine jv_iload_n 2 (pc := 13) d_PT_codeRow_13 rfl ?_
      refine jv_iload 4 (pc := 14) d_PT_codeRow_14 rfl ?_
      refine jv_iload_n 3 (pc := 16) d_PT_codeRow_16 rfl ?_
      obtain ⟨v17, n17, c17, H⟩ := jbd_some H
      refine jv_callSi (sp_PT_contextOf p x2 x4 x3 hp c17) (pc := 17) d_PT_codeRow_17 c0_PT_contextOf lk_PT_53 si_PT_contextOf rfl (Nat.le_of_ble_eq_true rfl) ⟨by decide, by decide, by decide, by decide⟩ (fun r17 m17 h17 => ?_)
      obtain ⟨ha17, hb17⟩ := h17
      have ha17 := ha17.symm
      subst ha17
      have hb17 := hb17.symm
      subst hb17
      refine jv_istore (pc := 20) d_PT_codeRow_20 (by decide) (jsto_new rfl) ?_
      refine jv_aload_n 2 (pc := 22) d_PT_codeRow_22 rfl ?_
      refine jv_iload 5 (pc := 23) d_PT_codeRow_23 rfl ?_
      refine jv_iload_n 4 (pc := 25) d_PT_codeRow_25 rfl ?_
      refine jv_aload_n 1 (pc := 26) d_PT_codeRow_26 rfl ?_
      refine jv_iload 0 (pc := 27) d_PT_codeRow_27 rfl ?_
      refine jv_aload_n 2 (pc := 29) d_PT_codeRow_29 rfl ?_
      refine jv_iload 5 (pc := 30) d_PT_codeRow_30 rfl ?_
      refine jv_iload_n 4 (pc := 32) d_PT_codeRow_32 rfl ?_
      obtain ⟨v33, n33, c33, H⟩ := jbd_some H
      refine jv_callVi (sp_PI_at p x4 x3 hp c33) (pc := 33) d_PT_codeRow_33 c0_PI_at lk_PT_40 in_PI_at se_PI_at (show 14 + 2 * p < jN by unfold jN; omega) (jshp_pic hp) rfl rfl (Nat.le_of_ble_eq_true rfl) ⟨by decide, by decide, by decide, by decide⟩ (fun r33 m33 h33 => ?_)
      obtain ⟨ha33, hb33⟩ := h33
      have ha33 := ha33.symm
      subst ha33
      have hb33 := hb33.symm
      subst hb33
      obtain ⟨v36, n36, c36, H⟩ := jbd_some H
      refine jv_callOi (sp_RD_decide v17 v33 c36) (pc := 36) d_PT_codeRow_36 c0_RD_decide rfl lo_PT_44 in_RD_decide so_RD (by decide) rfl rfl rfl (Nat.le_of_ble_eq_true rfl) ⟨by decide, by decide, by decide, by decide⟩ (fun r36 m36 h36 => ?_)
      obtain ⟨ha36, hb36⟩ := h36
      have ha36 := ha36.symm
      subst ha36
      have hb36 := hb36.symm
      subst hb36
      obtain ⟨_, n39, c39, H⟩ := jbd_some H
      refine jv_callVv (sp_PI_set p x4 x3 v36 hp c39) (pc := 39) d_PT_codeRow_39 c0_PI_set lk_PT_49 in_PI_set se_PI_set (show 14 + 2 * p < jN by unfold jN; omega) (jshp_pic hp) rfl rfl (Nat.le_of_ble_eq_true rfl) ⟨by decide, by decide, by decide, by decide⟩ (fun m39 h39 => ?_)
      have hb39 := h39
      have hb39 := hb39.symm
      subst hb39
      refine jv_iinc 5 _ (pc := 42) d_PT_codeRow_42 rfl (jinc1 _) (by decide) (jst5 rfl) ?_
      refine jv_goto 3 (pc := 45) d_PT_codeRow_45 rfl ?_
      exact jv_sub [1, 2, 3, 4, 5] rfl (ih x2 x3 (x4 + 1) _ _ _ H)
set_option maxRecDepth 40000 in
set_option maxHeartbeats 8000000 in
theorem sp_PT_codeRow_R {G : jG} {σ τ : jMem} {r : Unit} (p : Nat) (x2 x3 : Int32) (hp : p < 12) (H : f_PT_codeRow_R p x2 x3 σ = some (r, τ)) : jSp G M_PT_codeRow (jr 4 0 0) [.ref 13, .ref (14 + 2 * p), .int x2, .int x3] σ (jU fun τ9 => τ9 = τ) := by
  refine jSp.of rfl rfl (Nat.le_of_ble_eq_true rfl) ?_
  show jV _ _ _ _ 0 0 0 [(0, .ref 13), (1, .ref (14 + 2 * p)), (2, .int x2), (3, .int x3)] [] σ
  unfold f_PT_codeRow_R at H
  refine jv_iconst 0 (pc := 0) d_PT_codeRow_0 rfl ?_
  refine jv_istore (pc := 1) d_PT_codeRow_1 (by decide) (jsto_new rfl) ?_
  exact jv_sub [1, 2, 3, 4, 0] rfl (lp_PT_codeRow_R_3 p hp _ x2 x3 (0 : Int32) _ _ _ H)
set_option maxRecDepth 40000 in
set_option maxHeartbeats 8000000 in
theorem lp_PT_codeRegion_R_6 {G : jG} (p : Nat) (hp : p < 12) : ∀ (n : Nat) (x2 x3 x4 x5 : Int32) (σ τ : jMem) (r : Int32), f_PT_codeRegion_R_L6 p n x2 x3 x4 x5 σ = some (r, τ) → jV G M_PT_codeRegion (jr 5 0 0) (jI fun r9 τ9 => r9 = r ∧ τ9 = τ) 0 0 6 [(0, .ref 13), (1, .ref (14 + 2 * p)), (2, .int x2), (3, .int x3), (4, .int x4), (5, .int x5)] [] σ := by
  intro n
  induction n with
  | zero =>
    intro x2 x3 x4 x5 σ τ r H
    cases H
  | succ n ih =>
    intro x2 x3 x4 x5 σ τ r H
    rw [f_PT_codeRegion_R_L6.eq_2] at H
    refine jv_iload 5 (pc := 6) d_PT_codeRegion_6 rfl ?_
    refine jv_aload_n 1 (pc := 8) d_PT_codeRegion_8 rfl ?_
    refine jv_geti (pc := 9) d_PT_codeRegion_9 fa_PT_7_PI (show 14 + 2 * p < jN by unfold jN; omega) (jshp_pic hp) rfl ?_
    refine jv_icmp_ge 76 (pc := 12) d_PT_codeRegion_12 rfl (fun h12 => ?_) (fun h12 => ?_)
    · have h12 : (σ (14 + 2 * p) 2) ≤ x5 := h12
      have H := (if_pos h12).symm.trans H
      refine jv_iload 4 (pc := 76) d_PT_codeRegion_76 rfl ?_
      refine jv_iret (pc := 78) d_PT_codeRegion_78 rfl rfl (Nat.zero_le _) (Nat.zero_le _) ?_
      cases H
      exact jI.of ⟨rfl, rfl⟩
    · have h12 : ¬ ((σ (14 + 2 * p) 2) ≤ x5) := h12
      have H := (if_neg h12).symm.trans H
      refine jv_iload_n 3 (pc := 15) d_PT_codeRegion_15 rfl ?_
      refine jv_if_eq 30 (pc := 16) d_PT_codeRegion_16 rfl (fun h16 => ?_) (fun h16 => ?_)
      · have h16 : x3 = 0 := h16
        have H := (if_pos h16).symm.trans H
        refine jv_iconst 0 (pc := 30) d_PT_codeRegion_30 rfl ?_
        refine jv_istore (pc := 31) d_PT_codeRegion_31 (by decide) (jsto_new rfl) ?_
        refine jv_iload 5 (pc := 33) d_PT_codeRegion_33 rfl ?_
        refine jv_iload 0 (pc := 35) d_PT_codeRegion_35 rfl ?_
        refine jv_iadd (pc := 37) d_PT_codeRegion_37 ?_
        refine jv_istore (pc := 38) d_PT_codeRegion_38 (by decide) (jst5 rfl) ?_
        refine jv_iload 0 (pc := 40) d_PT_codeRegion_40 rfl ?_
        refine jv_iconst 1 (pc := 42) d_PT_codeRegion_42 rfl ?_
        refine jv_icmp_ne 62 (pc := 43) d_PT_codeRegion_43 rfl (fun h43 => ?_) (fun h43 => absurd (show (0 : Int32) = (1 : Int32) from h43) (by decide))
        refine jv_aload_n 1 (pc := 62) d_PT_codeRegion_62 rfl ?_
        refine jv_aload_n 2 (pc := 63) d_PT_codeRegion_63 rfl ?_
        refine jv_iload_n 3 (pc := 64) d_PT_codeRegion_64 rfl ?_
        refine jv_iload 6 (pc := 65) d_PT_codeRegion_65 rfl ?_
        obtain ⟨_, n67, c67, H⟩ := jbd_some H
        refine jv_callSv (sp_PT_codeRow_R p x2 x5 hp c67) (pc := 67) d_PT_codeRegion_67 c0_PT_codeRow lk_PT_27 si_PT_codeRow rfl (Nat.le_of_ble_eq_true rfl) ⟨by decide, by decide, by decide, by decide⟩ (fun m67 h67 => ?_)
        have hb67 := h67
        have hb67 := hb67.symm
        subst hb67
        refine jv_iinc 6 _ (pc := 70) d_PT_codeRegion_70 rfl (jinc1 _) (by decide) (jst6 rfl) ?_
        refine jv_goto 6 (pc := 73) d_PT_codeRegion_73 rfl ?_
        exact jv_sub [1, 2, 3, 4, 5, 6] rfl (ih x2 x3 (x4 + (0 : Int32)) (x5 + 1) _ _ _ H)
      · have h16 : ¬ (x3 = 0) := h16
        have H := (if_neg h16).symm.trans H
        refine jv_aload_n 0 (pc := 19) d_PT_codeRegion_19 rfl ?_
        refine jv_aload_n 1 (pc := 20) d_PT_codeRegion_20 rfl ?_
        refine jv_iload_n 2 (pc := 21) d_PT_codeRegion_21 rfl ?_
        refine jv_iload 5 (pc := 22) d_PT_codeRegion_22 rfl ?_
        obtain ⟨v24, n24, c24, H⟩ := jbd_some H
        refine jv_callSi (sp_PT_codeSameness_R p x2 x5 hp c24) (pc := 24) d_PT_codeRegion_24 c0_PT_codeSameness lk_PT_13 si_PT_codeSameness rfl (Nat.le_of_ble_eq_true rfl) ⟨by decide, by decide, by decide, by decide⟩ (fun r24 m24 h24 => ?_)
        obtain ⟨ha24, hb24⟩ := h24
        have ha24 := ha24.symm
        subst ha24
        have hb24 := hb24.symm
        subst hb24
        refine jv_goto 31 (pc := 27) d_PT_codeRegion_27 rfl ?_
        refine jv_istore (pc := 31) d_PT_codeRegion_31 (by decide) (jsto_new rfl) ?_
        refine jv_iload 5 (pc := 33) d_PT_codeRegion_33 rfl ?_
        refine jv_iload 0 (pc := 35) d_PT_codeRegion_35 rfl ?_
        refine jv_iadd (pc := 37) d_PT_codeRegion_37 ?_
        refine jv_istore (pc := 38) d_PT_codeRegion_38 (by decide) (jst5 rfl) ?_
        refine jv_iload 0 (pc := 40) d_PT_codeRegion_40 rfl ?_
        refine jv_iconst 1 (pc := 42) d_PT_codeRegion_42 rfl ?_
        refine jv_icmp_ne 62 (pc := 43) d_PT_codeRegion_43 rfl (fun h43 => ?_) (fun h43 => ?_)
        · have h43 : ¬ (v24 = (1 : Int32)) := h43
          have H := (if_neg h43).symm.trans H
          refine jv_aload_n 1 (pc := 62) d_PT_codeRegion_62 rfl ?_
          refine jv_aload_n 2 (pc := 63) d_PT_codeRegion_63 rfl ?_
          refine jv_iload_n 3 (pc := 64) d_PT_codeRegion_64 rfl ?_
          refine jv_iload 6 (pc := 65) d_PT_codeRegion_65 rfl ?_
          obtain ⟨_, n67, c67, H⟩ := jbd_some H
          refine jv_callSv (sp_PT_codeRow_R p x2 x5 hp c67) (pc := 67) d_PT_codeRegion_67 c0_PT_codeRow lk_PT_27 si_PT_codeRow rfl (Nat.le_of_ble_eq_true rfl) ⟨by decide, by decide, by decide, by decide⟩ (fun m67 h67 => ?_)
          have hb67 := h67
          have hb67 := hb67.symm
          subst hb67
          refine jv_iinc 6 _ (pc := 70) d_PT_codeRegion_70 rfl (jinc1 _) (by decide) (jst6 rfl) ?_
          refine jv_goto 6 (pc := 73) d_PT_codeRegion_73 rfl ?_
          exact jv_sub [1, 2, 3, 4, 5, 6] rfl (ih x2 x3 (x4 + v24) (x5 + 1) _ _ _ H)
        · have h43 : v24 = (1 : Int32) := h43
          have H := (if_pos h43).symm.trans H
          refine jv_aload_n 2 (pc := 46) d_PT_codeRegion_46 rfl ?_
          refine jv_getr (pc := 47) d_PT_codeRegion_47 fa_PT_19_PI (show 14 + 2 * p < jN by unfold jN; omega) (jshp_pic hp) rfl ?_
          refine jv_iload 6 (pc := 50) d_PT_codeRegion_50 rfl ?_
          refine jv_aload_n 2 (pc := 52) d_PT_codeRegion_52 rfl ?_
          refine jv_iload 6 (pc := 53) d_PT_codeRegion_53 rfl ?_
          obtain ⟨v55, n55, c55, H⟩ := jbd_some H
          refine jv_callVi (sp_PI_rowAbove p x5 hp c55) (pc := 55) d_PT_codeRegion_55 c0_PI_rowAbove lk_PT_23 in_PI_rowAbove se_PI_rowAbove (show 14 + 2 * p < jN by unfold jN; omega) (jshp_pic hp) rfl rfl (Nat.le_of_ble_eq_true rfl) ⟨by decide, by decide, by decide, by decide⟩ (fun r55 m55 h55 => ?_)
          obtain ⟨ha55, hb55⟩ := h55
          have ha55 := ha55.symm
          subst ha55
          have hb55 := hb55.symm
          subst hb55
          obtain ⟨b58, H⟩ := jck_some H
          refine jv_iast (pc := 58) d_PT_codeRegion_58 (show 15 + 2 * p < jN by unfold jN; omega) (jshp_row hp) b58 ?_
          refine jv_goto 70 (pc := 59) d_PT_codeRegion_59 rfl ?_
          refine jv_iinc 6 _ (pc := 70) d_PT_codeRegion_70 rfl (jinc1 _) (by decide) (jst6 rfl) ?_
          refine jv_goto 6 (pc := 73) d_PT_codeRegion_73 rfl ?_
          exact jv_sub [1, 2, 3, 4, 5, 6] rfl (ih x2 x3 (x4 + v24) (x5 + 1) _ _ _ H)
set_option maxRecDepth 40000 in
set_option maxHeartbeats 8000000 in
theorem sp_PT_codeRegion_R {G : jG} {σ τ : jMem} {r : Int32} (p : Nat) (x2 x3 : Int32) (hp : p < 12) (H : f_PT_codeRegion_R p x2 x3 σ = some (r, τ)) : jSp G M_PT_codeRegion (jr 5 0 0) [.ref 13, .ref (14 + 2 * p), .int x2, .int x3] σ (jI fun r9 τ9 => r9 = r ∧ τ9 = τ) := by
  refine jSp.of rfl rfl (Nat.le_of_ble_eq_true rfl) ?_
  show jV _ _ _ _ 0 0 0 [(0, .ref 13), (1, .ref (14 + 2 * p)), (2, .int x2), (3, .int x3)] [] σ
  unfold f_PT_codeRegion_R at H
  refine jv_iconst 0 (pc := 0) d_PT_codeRegion_0 rfl ?_
  refine jv_istore (pc := 1) d_PT_codeRegion_1 (by decide) (jsto_new rfl) ?_
  refine jv_iconst 0 (pc := 3) d_PT_codeRegion_3 rfl ?_
  refine jv_istore (pc := 4) d_PT_codeRegion_4 (by decide) (jsto_new rfl) ?_
  exact jv_sub [2, 3, 4, 5, 1, 0] rfl (lp_PT_codeRegion_R_6 p hp _ x2 x3 (0 : Int32) (0 : Int32) _ _ _ H)
set_option maxRecDepth 40000 in
set_option maxHeartbeats 8000000 in
theorem lp_PT_codeRefinement_R_18 {G : jG} {R : Room} {Q : jO → jMem → Prop} (p : Nat) (q : Nat) (hp : p < 12) (hq : q < 12) (hR : 4 ≤ R.frames ∧ 40 * 4 ≤ R.locals) : ∀ (n : Nat) (x3 x4 x5 x6 x7 y3 y4 y5 y6 y7 : Int32) (σ τ : jMem), f_PT_codeRefinement_R_L18 p q n x3 x4 x5 x6 x7 σ = some ((y3, y4, y5, y6, y7), τ) → jV G M_PT_codeRefinement R Q 0 0 181 [(0, .ref 13), (1, .ref (14 + 2 * p)), (2, .ref (14 + 2 * q)), (3, .int y3), (4, .int y4), (5, .int y5), (6, .int y6), (7, .int y7)] [] τ → jV G M_PT_codeRefinement R Q 0 0 18 [(0, .ref 13), (1, .ref (14 + 2 * p)), (2, .ref (14 + 2 * q)), (3, .int x3), (4, .int x4), (5, .int x5), (6, .int x6), (7, .int x7)] [] σ := by
  intro n
  induction n with
  | zero =>
    intro x3 x4 x5 x6 x7 y3 y4 y5 y6 y7 σ τ H K
    cases H
  | succ n ih =>
    intro x3 x4 x5 x6 x7 y3 y4 y5 y6 y7 σ τ H K
    rw [f_PT_codeRefinement_R_L18.eq_2] at H
    refine jv_iload 7 (pc := 18) d_PT_codeRefinement_18 rfl ?_
    refine jv_aload_n 1 (pc := 20) d_PT_codeRefinement_20 rfl ?_
    refine jv_geti (pc := 21) d_PT_codeRefinement_21 fa_PT_31_PI (show 14 + 2 * p < jN by unfold jN; omega) (jshp_pic hp) rfl ?_
    refine jv_icmp_ge 181 (pc := 24) d_PT_codeRefinement_24 rfl (fun h24 => ?_) (fun h24 => ?_)
    · have h24 : (σ (14 + 2 * p) 1) ≤ x7 := h24
      have H := (if_pos h24).symm.trans H
      cases H
      exact jv_sub [0, 1, 2, 3, 4, 5, 6, 7] rfl K
    · have h24 : ¬ ((σ (14 + 2 * p) 1) ≤ x7) := h24
      have H := (if_neg h24).symm.trans H
      refine jv_iload 7 (pc := 27) d_PT_codeRefinement_27 rfl ?_
      refine jv_iload_n 3 (pc := 29) d_PT_codeRefinement_29 rfl ?_
      refine jv_isub (pc := 30) d_PT_codeRefinement_30 ?_
      refine jv_istore (pc := 31) d_PT_codeRefinement_31 (by decide) (jsto_new rfl) ?_
      refine jv_iload 7 (pc := 33) d_PT_codeRefinement_33 rfl ?_
      refine jv_iload 5 (pc := 35) d_PT_codeRefinement_35 rfl ?_
      refine jv_isub (pc := 37) d_PT_codeRefinement_37 ?_
      refine jv_istore (pc := 38) d_PT_codeRefinement_38 (by decide) (jsto_new rfl) ?_
      refine jv_aload_n 3 (pc := 40) d_PT_codeRefinement_40 rfl ?_
      refine jv_iload 8 (pc := 41) d_PT_codeRefinement_41 rfl ?_
      refine jv_iconst 1 (pc := 43) d_PT_codeRefinement_43 rfl ?_
      refine jv_isub (pc := 44) d_PT_codeRefinement_44 ?_
      refine jv_iload 9 (pc := 45) d_PT_codeRefinement_45 rfl ?_
      refine jv_iconst 1 (pc := 47) d_PT_codeRefinement_47 rfl ?_
      refine jv_iadd (pc := 48) d_PT_codeRefinement_48 ?_
      refine jv_iconst 3 (pc := 49) d_PT_codeRefinement_49 rfl ?_
      obtain ⟨v50, n50, c50, H⟩ := jbd_some H
      refine jv_callVi (sp_PI_span p (x6 - (1 : Int32)) (x7 + (1 : Int32)) (3 : Int32) hp c50) (pc := 50) d_PT_codeRefinement_50 c0_PI_span lk_PT_34 in_PI_span se_PI_span (show 14 + 2 * p < jN by unfold jN; omega) (jshp_pic hp) rfl rfl (Nat.le_of_ble_eq_true rfl) ⟨Nat.le_trans (Nat.le_of_ble_eq_true rfl : _ ≤ 4) hR.1, Nat.le_trans (Nat.le_of_ble_eq_true rfl : _ ≤ 40 * 4) hR.2, Nat.zero_le _, Nat.zero_le _⟩ (fun r50 m50 h50 => ?_)
      obtain ⟨ha50, hb50⟩ := h50
      have ha50 := ha50.symm
      subst ha50
      have hb50 := hb50.symm
      subst hb50
      refine jv_iconst 1 (pc := 53) d_PT_codeRefinement_53 rfl ?_
      refine jv_ishl (pc := 54) d_PT_codeRefinement_54 ?_
      refine jv_aload_n 3 (pc := 55) d_PT_codeRefinement_55 rfl ?_
      refine jv_iload 8 (pc := 56) d_PT_codeRefinement_56 rfl ?_
      refine jv_iload 9 (pc := 58) d_PT_codeRefinement_58 rfl ?_
      refine jv_iconst 1 (pc := 60) d_PT_codeRefinement_60 rfl ?_
      refine jv_isub (pc := 61) d_PT_codeRefinement_61 ?_
      refine jv_iconst 1 (pc := 62) d_PT_codeRefinement_62 rfl ?_
      obtain ⟨v63, n63, c63, H⟩ := jbd_some H
      refine jv_callVi (sp_PI_span p x6 (x7 - (1 : Int32)) (1 : Int32) hp c63) (pc := 63) d_PT_codeRefinement_63 c0_PI_span lk_PT_34 in_PI_span se_PI_span (show 14 + 2 * p < jN by unfold jN; omega) (jshp_pic hp) rfl rfl (Nat.le_of_ble_eq_true rfl) ⟨Nat.le_trans (Nat.le_of_ble_eq_true rfl : _ ≤ 4) hR.1, Nat.le_trans (Nat.le_of_ble_eq_true rfl : _ ≤ 40 * 4) hR.2, Nat.zero_le _, Nat.zero_le _⟩ (fun r63 m63 h63 => ?_)
      obtain ⟨ha63, hb63⟩ := h63
      have ha63 := ha63.symm
      subst ha63
      have hb63 := hb63.symm
      subst hb63
      refine jv_ior (pc := 66) d_PT_codeRefinement_66 ?_
      refine jv_istore (pc := 67) d_PT_codeRefinement_67 (by decide) (jsto_new rfl) ?_
      refine jv_aload_n 5 (pc := 69) d_PT_codeRefinement_69 rfl ?_
      refine jv_iload 1 (pc := 70) d_PT_codeRefinement_70 rfl ?_
      refine jv_iconst 1 (pc := 72) d_PT_codeRefinement_72 rfl ?_
      refine jv_isub (pc := 73) d_PT_codeRefinement_73 ?_
      refine jv_iload 2 (pc := 74) d_PT_codeRefinement_74 rfl ?_
      refine jv_iconst 1 (pc := 76) d_PT_codeRefinement_76 rfl ?_
      obtain ⟨v77, n77, c77, H⟩ := jbd_some H
      refine jv_callVi (sp_PI_span q ((x6 - x4) - (1 : Int32)) (x7 - x3) (1 : Int32) hq c77) (pc := 77) d_PT_codeRefinement_77 c0_PI_span lk_PT_34 in_PI_span se_PI_span (show 14 + 2 * q < jN by unfold jN; omega) (jshp_pic hq) rfl rfl (Nat.le_of_ble_eq_true rfl) ⟨Nat.le_trans (Nat.le_of_ble_eq_true rfl : _ ≤ 4) hR.1, Nat.le_trans (Nat.le_of_ble_eq_true rfl : _ ≤ 40 * 4) hR.2, Nat.zero_le _, Nat.zero_le _⟩ (fun r77 m77 h77 => ?_)
      obtain ⟨ha77, hb77⟩ := h77
      have ha77 := ha77.symm
      subst ha77
      have hb77 := hb77.symm
      subst hb77
      refine jv_iconst 5 (pc := 80) d_PT_codeRefinement_80 rfl ?_
      refine jv_ishl (pc := 81) d_PT_codeRefinement_81 ?_
      refine jv_aload_n 5 (pc := 82) d_PT_codeRefinement_82 rfl ?_
      refine jv_iload 1 (pc := 83) d_PT_codeRefinement_83 rfl ?_
      refine jv_iload 2 (pc := 85) d_PT_codeRefinement_85 rfl ?_
      refine jv_iconst 1 (pc := 87) d_PT_codeRefinement_87 rfl ?_
      refine jv_iadd (pc := 88) d_PT_codeRefinement_88 ?_
      refine jv_iconst 3 (pc := 89) d_PT_codeRefinement_89 rfl ?_
      obtain ⟨v90, n90, c90, H⟩ := jbd_some H
      refine jv_callVi (sp_PI_span q (x6 - x4) ((x7 - x3) + (1 : Int32)) (3 : Int32) hq c90) (pc := 90) d_PT_codeRefinement_90 c0_PI_span lk_PT_34 in_PI_span se_PI_span (show 14 + 2 * q < jN by unfold jN; omega) (jshp_pic hq) rfl rfl (Nat.le_of_ble_eq_true rfl) ⟨Nat.le_trans (Nat.le_of_ble_eq_true rfl : _ ≤ 4) hR.1, Nat.le_trans (Nat.le_of_ble_eq_true rfl : _ ≤ 40 * 4) hR.2, Nat.zero_le _, Nat.zero_le _⟩ (fun r90 m90 h90 => ?_)
      obtain ⟨ha90, hb90⟩ := h90
      have ha90 := ha90.symm
      subst ha90
      have hb90 := hb90.symm
      subst hb90
      refine jv_iconst 2 (pc := 93) d_PT_codeRefinement_93 rfl ?_
      refine jv_ishl (pc := 94) d_PT_codeRefinement_94 ?_
      refine jv_ior (pc := 95) d_PT_codeRefinement_95 ?_
      refine jv_aload_n 5 (pc := 96) d_PT_codeRefinement_96 rfl ?_
      refine jv_iload 1 (pc := 97) d_PT_codeRefinement_97 rfl ?_
      refine jv_iconst 1 (pc := 99) d_PT_codeRefinement_99 rfl ?_
      refine jv_iadd (pc := 100) d_PT_codeRefinement_100 ?_
      refine jv_iload 2 (pc := 101) d_PT_codeRefinement_101 rfl ?_
      refine jv_iconst 1 (pc := 103) d_PT_codeRefinement_103 rfl ?_
      refine jv_iadd (pc := 104) d_PT_codeRefinement_104 ?_
      refine jv_iconst 2 (pc := 105) d_PT_codeRefinement_105 rfl ?_
      obtain ⟨v106, n106, c106, H⟩ := jbd_some H
      refine jv_callVi (sp_PI_span q ((x6 - x4) + (1 : Int32)) ((x7 - x3) + (1 : Int32)) (2 : Int32) hq c106) (pc := 106) d_PT_codeRefinement_106 c0_PI_span lk_PT_34 in_PI_span se_PI_span (show 14 + 2 * q < jN by unfold jN; omega) (jshp_pic hq) rfl rfl (Nat.le_of_ble_eq_true rfl) ⟨Nat.le_trans (Nat.le_of_ble_eq_true rfl : _ ≤ 4) hR.1, Nat.le_trans (Nat.le_of_ble_eq_true rfl : _ ≤ 40 * 4) hR.2, Nat.zero_le _, Nat.zero_le _⟩ (fun r106 m106 h106 => ?_)
      obtain ⟨ha106, hb106⟩ := h106
      have ha106 := ha106.symm
      subst ha106
      have hb106 := hb106.symm
      subst hb106
      refine jv_ior (pc := 109) d_PT_codeRefinement_109 ?_
      refine jv_istore (pc := 110) d_PT_codeRefinement_110 (by decide) (jsto_new rfl) ?_
      refine jv_sipush (10244) (pc := 112) d_PT_codeRefinement_112 rfl ?_
      refine jv_iload 1 (pc := 115) d_PT_codeRefinement_115 rfl ?_
      refine jv_bipush (6) (pc := 117) d_PT_codeRefinement_117 rfl ?_
      refine jv_ishl (pc := 119) d_PT_codeRefinement_119 ?_
      refine jv_iload 0 (pc := 120) d_PT_codeRefinement_120 rfl ?_
      refine jv_ior (pc := 122) d_PT_codeRefinement_122 ?_
      refine jv_iadd (pc := 123) d_PT_codeRefinement_123 ?_
      refine jv_istore (pc := 124) d_PT_codeRefinement_124 (by decide) (jsto_new rfl) ?_
      refine jv_aload_n 5 (pc := 126) d_PT_codeRefinement_126 rfl ?_
      refine jv_iload 0 (pc := 127) d_PT_codeRefinement_127 rfl ?_
      refine jv_aload_n 6 (pc := 129) d_PT_codeRefinement_129 rfl ?_
      refine jv_iload 12 (pc := 130) d_PT_codeRefinement_130 rfl ?_
      refine jv_iload 11 (pc := 132) d_PT_codeRefinement_132 rfl ?_
      obtain ⟨v134, n134, c134, H⟩ := jbd_some H
      refine jv_callVi (sp_PI_at p x7 x6 hp c134) (pc := 134) d_PT_codeRefinement_134 c0_PI_at lk_PT_40 in_PI_at se_PI_at (show 14 + 2 * p < jN by unfold jN; omega) (jshp_pic hp) rfl rfl (Nat.le_of_ble_eq_true rfl) ⟨Nat.le_trans (Nat.le_of_ble_eq_true rfl : _ ≤ 4) hR.1, Nat.le_trans (Nat.le_of_ble_eq_true rfl : _ ≤ 40 * 4) hR.2, Nat.zero_le _, Nat.zero_le _⟩ (fun r134 m134 h134 => ?_)
      obtain ⟨ha134, hb134⟩ := h134
      have ha134 := ha134.symm
      subst ha134
      have hb134 := hb134.symm
      subst hb134
      obtain ⟨v137, n137, c137, H⟩ := jbd_some H
      refine jv_callOi (sp_RD_decide ((10244 : Int32) + ((((v50 <<< ((1 : Int32) &&& 31)) ||| v63) <<< ((6 : Int32) &&& 31)) ||| (((v77 <<< ((5 : Int32) &&& 31)) ||| (v90 <<< ((2 : Int32) &&& 31))) ||| v106))) v134 c137) (pc := 137) d_PT_codeRefinement_137 c0_RD_decide rfl lo_PT_44 in_RD_decide so_RD (by decide) rfl rfl rfl (Nat.le_of_ble_eq_true rfl) ⟨Nat.le_trans (Nat.le_of_ble_eq_true rfl : _ ≤ 4) hR.1, Nat.le_trans (Nat.le_of_ble_eq_true rfl : _ ≤ 40 * 4) hR.2, Nat.zero_le _, Nat.zero_le _⟩ (fun r137 m137 h137 => ?_)
      obtain ⟨ha137, hb137⟩ := h137
      have ha137 := ha137.symm
      subst ha137
      have hb137 := hb137.symm
      subst hb137
      refine jv_istore (pc := 140) d_PT_codeRefinement_140 (by decide) (jsto_new rfl) ?_
      refine jv_aload_n 7 (pc := 142) d_PT_codeRefinement_142 rfl ?_
      refine jv_iload 13 (pc := 143) d_PT_codeRefinement_143 rfl ?_
      refine jv_iload 12 (pc := 145) d_PT_codeRefinement_145 rfl ?_
      refine jv_iload 0 (pc := 147) d_PT_codeRefinement_147 rfl ?_
      obtain ⟨_, n149, c149, H⟩ := jbd_some H
      refine jv_callVv (sp_PI_set p x7 x6 v137 hp c149) (pc := 149) d_PT_codeRefinement_149 c0_PI_set lk_PT_49 in_PI_set se_PI_set (show 14 + 2 * p < jN by unfold jN; omega) (jshp_pic hp) rfl rfl (Nat.le_of_ble_eq_true rfl) ⟨Nat.le_trans (Nat.le_of_ble_eq_true rfl : _ ≤ 4) hR.1, Nat.le_trans (Nat.le_of_ble_eq_true rfl : _ ≤ 40 * 4) hR.2, Nat.zero_le _, Nat.zero_le _⟩ (fun m149 h149 => ?_)
      have hb149 := h149
      have hb149 := hb149.symm
      subst hb149
      refine jv_iload 11 (pc := 152) d_PT_codeRefinement_152 rfl ?_
      refine jv_iload 0 (pc := 154) d_PT_codeRefinement_154 rfl ?_
      refine jv_aload_n 8 (pc := 156) d_PT_codeRefinement_156 rfl ?_
      refine jv_iload 5 (pc := 157) d_PT_codeRefinement_157 rfl ?_
      refine jv_iload 4 (pc := 159) d_PT_codeRefinement_159 rfl ?_
      obtain ⟨v161, n161, c161, H⟩ := jbd_some H
      refine jv_callVi (sp_PI_at q (x7 - x3) (x6 - x4) hq c161) (pc := 161) d_PT_codeRefinement_161 c0_PI_at lk_PT_40 in_PI_at se_PI_at (show 14 + 2 * q < jN by unfold jN; omega) (jshp_pic hq) rfl rfl (Nat.le_of_ble_eq_true rfl) ⟨Nat.le_trans (Nat.le_of_ble_eq_true rfl : _ ≤ 4) hR.1, Nat.le_trans (Nat.le_of_ble_eq_true rfl : _ ≤ 40 * 4) hR.2, Nat.zero_le _, Nat.zero_le _⟩ (fun r161 m161 h161 => ?_)
      obtain ⟨ha161, hb161⟩ := h161
      have ha161 := ha161.symm
      subst ha161
      have hb161 := hb161.symm
      subst hb161
      refine jv_icmp_ne 171 (pc := 164) d_PT_codeRefinement_164 rfl (fun h164 => ?_) (fun h164 => ?_)
      · have h164 : ¬ (v137 = v161) := h164
        have H := (if_neg h164).symm.trans H
        refine jv_iconst 1 (pc := 171) d_PT_codeRefinement_171 rfl ?_
        refine jv_iadd (pc := 172) d_PT_codeRefinement_172 ?_
        refine jv_istore (pc := 173) d_PT_codeRefinement_173 (by decide) (jst11 rfl) ?_
        refine jv_iinc 13 _ (pc := 175) d_PT_codeRefinement_175 rfl (jinc1 _) (by decide) (jst13 rfl) ?_
        refine jv_goto 18 (pc := 178) d_PT_codeRefinement_178 rfl ?_
        exact jv_sub [6, 7, 8, 9, 10, 11, 12, 13] rfl (ih x3 x4 (x5 + (1 : Int32)) x6 (x7 + 1) _ _ _ _ _ _ _ H K)
      · have h164 : v137 = v161 := h164
        have H := (if_pos h164).symm.trans H
        refine jv_iconst 0 (pc := 167) d_PT_codeRefinement_167 rfl ?_
        refine jv_goto 172 (pc := 168) d_PT_codeRefinement_168 rfl ?_
        refine jv_iadd (pc := 172) d_PT_codeRefinement_172 ?_
        refine jv_istore (pc := 173) d_PT_codeRefinement_173 (by decide) (jst11 rfl) ?_
        refine jv_iinc 13 _ (pc := 175) d_PT_codeRefinement_175 rfl (jinc1 _) (by decide) (jst13 rfl) ?_
        refine jv_goto 18 (pc := 178) d_PT_codeRefinement_178 rfl ?_
        exact jv_sub [6, 7, 8, 9, 10, 11, 12, 13] rfl (ih x3 x4 (x5 + (0 : Int32)) x6 (x7 + 1) _ _ _ _ _ _ _ H K)
set_option maxRecDepth 40000 in
set_option maxHeartbeats 8000000 in
theorem lp_PT_codeRefinement_R_6 {G : jG} (p : Nat) (q : Nat) (hp : p < 12) (hq : q < 12) : ∀ (n : Nat) (x3 x4 x5 x6 : Int32) (σ τ : jMem) (r : Int32), f_PT_codeRefinement_R_L6 p q n x3 x4 x5 x6 σ = some (r, τ) → jV G M_PT_codeRefinement (jr 4 0 0) (jI fun r9 τ9 => r9 = r ∧ τ9 = τ) 0 0 6 [(0, .ref 13), (1, .ref (14 + 2 * p)), (2, .ref (14 + 2 * q)), (3, .int x3), (4, .int x4), (5, .int x5), (6, .int x6)] [] σ := by
  intro n
  induction n with
  | zero =>
    intro x3 x4 x5 x6 σ τ r H
    cases H
  | succ n ih =>
    intro x3 x4 x5 x6 σ τ r H
    rw [f_PT_codeRefinement_R_L6.eq_2] at H
    refine jv_iload 6 (pc := 6) d_PT_codeRefinement_6 rfl ?_
    refine jv_aload_n 1 (pc := 8) d_PT_codeRefinement_8 rfl ?_
    refine jv_geti (pc := 9) d_PT_codeRefinement_9 fa_PT_7_PI (show 14 + 2 * p < jN by unfold jN; omega) (jshp_pic hp) rfl ?_
    refine jv_icmp_ge 187 (pc := 12) d_PT_codeRefinement_12 rfl (fun h12 => ?_) (fun h12 => ?_)
    · have h12 : (σ (14 + 2 * p) 2) ≤ x6 := h12
      have H := (if_pos h12).symm.trans H
      refine jv_iload 5 (pc := 187) d_PT_codeRefinement_187 rfl ?_
      refine jv_iret (pc := 189) d_PT_codeRefinement_189 rfl rfl (Nat.zero_le _) (Nat.zero_le _) ?_
      cases H
      exact jI.of ⟨rfl, rfl⟩
    · have h12 : ¬ ((σ (14 + 2 * p) 2) ≤ x6) := h12
      have H := (if_neg h12).symm.trans H
      refine jv_iconst 0 (pc := 15) d_PT_codeRefinement_15 rfl ?_
      refine jv_istore (pc := 16) d_PT_codeRefinement_16 (by decide) (jsto_new rfl) ?_
      obtain ⟨⟨y18_3, y18_4, y18_5, y18_6, y18_7⟩, m18, c18, H⟩ := jbd_some H
      refine jv_sub [1, 2, 3, 4, 5, 6, 7, 0] rfl (lp_PT_codeRefinement_R_18 p q hp hq ⟨by decide, by decide⟩ _ x3 x4 x5 x6 (0 : Int32) y18_3 y18_4 y18_5 y18_6 y18_7 _ _ c18 ?_)
      refine jv_iinc 6 _ (pc := 181) d_PT_codeRefinement_181 rfl (jinc1 _) (by decide) (jst6 rfl) ?_
      refine jv_goto 6 (pc := 184) d_PT_codeRefinement_184 rfl ?_
      exact jv_sub [0, 1, 2, 3, 4, 5, 6] rfl (ih y18_3 y18_4 y18_5 (y18_6 + 1) _ _ _ H)
set_option maxRecDepth 40000 in
set_option maxHeartbeats 8000000 in
theorem sp_PT_codeRefinement_R {G : jG} {σ τ : jMem} {r : Int32} (p : Nat) (q : Nat) (x3 x4 : Int32) (hp : p < 12) (hq : q < 12) (H : f_PT_codeRefinement_R p q x3 x4 σ = some (r, τ)) : jSp G M_PT_codeRefinement (jr 4 0 0) [.ref 13, .ref (14 + 2 * p), .ref (14 + 2 * q), .int x3, .int x4] σ (jI fun r9 τ9 => r9 = r ∧ τ9 = τ) := by
  refine jSp.of rfl rfl (Nat.le_of_ble_eq_true rfl) ?_
  show jV _ _ _ _ 0 0 0 [(0, .ref 13), (1, .ref (14 + 2 * p)), (2, .ref (14 + 2 * q)), (3, .int x3), (4, .int x4)] [] σ
  unfold f_PT_codeRefinement_R at H
  refine jv_iconst 0 (pc := 0) d_PT_codeRefinement_0 rfl ?_
  refine jv_istore (pc := 1) d_PT_codeRefinement_1 (by decide) (jsto_new rfl) ?_
  refine jv_iconst 0 (pc := 3) d_PT_codeRefinement_3 rfl ?_
  refine jv_istore (pc := 4) d_PT_codeRefinement_4 (by decide) (jsto_new rfl) ?_
  exact jv_sub [2, 3, 4, 5, 6, 1, 0] rfl (lp_PT_codeRefinement_R_6 p q hp hq _ x3 x4 (0 : Int32) (0 : Int32) _ _ _ H)
set_option maxRecDepth 20000 in
set_option maxHeartbeats 2000000 in
theorem sp_IC_coder {G : jG} {σ : jMem} : jSp G M_IC_coder (jr 0 0 0) [.ref 0] σ (jA fun r τ => r = f_IC_coder σ ∧ τ = σ) := by
  refine jSp.of rfl rfl (Nat.le_of_ble_eq_true rfl) ?_
  show jV _ _ _ _ 0 0 0 [(0, .ref 0)] [] σ
  refine jv_aload_n 0 (pc := 0) d_IC_coder_0 rfl ?_
  refine jv_geti (pc := 1) d_IC_coder_1 fa_IC_60_IC (by decide) rfl rfl ?_
  refine jv_iconst 1 (pc := 4) d_IC_coder_4 rfl ?_
  refine jv_icmp_ne 15 (pc := 5) d_IC_coder_5 rfl (fun h5 => ?_) (fun h5 => ?_)
  · skip
    refine jv_aload_n 0 (pc := 15) d_IC_coder_15 rfl ?_
    refine jv_getr (pc := 16) d_IC_coder_16 fa_IC_56_IC (by decide) rfl rfl ?_
    refine jv_aret (pc := 19) d_IC_coder_19 rfl (Or.inl ⟨_, rfl⟩) (by decide) (by decide) ?_
    have h5 : ¬ ((σ 0 7) = (1 : Int32)) := h5
    refine jA.of ?_
    unfold f_IC_coder
    rw [if_neg h5]
    exact ⟨rfl, rfl⟩
  · skip
    refine jv_aload_n 0 (pc := 8) d_IC_coder_8 rfl ?_
    refine jv_getr (pc := 9) d_IC_coder_9 fa_IC_49_IC (by decide) rfl rfl ?_
    refine jv_goto 19 (pc := 12) d_IC_coder_12 rfl ?_
    refine jv_aret (pc := 19) d_IC_coder_19 rfl (Or.inl ⟨_, rfl⟩) (by decide) (by decide) ?_
    have h5 : (σ 0 7) = (1 : Int32) := h5
    refine jA.of ?_
    unfold f_IC_coder
    rw [if_pos h5]
    exact ⟨rfl, rfl⟩
set_option maxRecDepth 40000 in
set_option maxHeartbeats 8000000 in
theorem sp_IC_extent {G : jG} {σ τ : jMem} {r : Int32} (x1 x2 : Int32) (H : f_IC_extent x1 x2 σ = some (r, τ)) : jSp G M_IC_extent (jr 0 0 0) [.ref 0, .int x1, .int x2] σ (jI fun r9 τ9 => r9 = r ∧ τ9 = τ) := by
  refine jSp.of rfl rfl (Nat.le_of_ble_eq_true rfl) ?_
  show jV _ _ _ _ 0 0 0 [(0, .ref 0), (1, .int x1), (2, .int x2)] [] σ
  unfold f_IC_extent at H
  refine jv_aload_n 0 (pc := 0) d_IC_extent_0 rfl ?_
  refine jv_getr (pc := 1) d_IC_extent_1 fa_IC_19_IC (by decide) rfl rfl ?_
  refine jv_getr (pc := 4) d_IC_extent_4 fa_IC_170_SR (by decide) rfl rfl ?_
  refine jv_iload_n 1 (pc := 7) d_IC_extent_7 rfl ?_
  obtain ⟨b8, H⟩ := jck_some H
  have p8 : (4 + x1.toNatClampNeg) < 12 := jsy12 b8
  refine jv_aald (pc := 8) d_IC_extent_8 (by decide) rfl b8 (jsy b8) ?_
  refine jv_astore_n (pc := 9) d_IC_extent_9 rfl (by decide) (jsto_new rfl) ?_
  refine jv_iload_n 3 (pc := 10) d_IC_extent_10 rfl ?_
  refine jv_if_eq 21 (pc := 11) d_IC_extent_11 rfl (fun h11 => ?_) (fun h11 => ?_)
  · have h11 : x2 = 0 := h11
    have H := (if_pos h11).symm.trans H
    refine jv_aload_n 0 (pc := 21) d_IC_extent_21 rfl ?_
    refine jv_geti (pc := 22) d_IC_extent_22 fa_IC_112_PI (show 14 + 2 * (4 + x1.toNatClampNeg) < jN by unfold jN; omega) (jshp_pic p8) rfl ?_
    refine jv_iconst 1 (pc := 25) d_IC_extent_25 rfl ?_
    refine jv_isub (pc := 26) d_IC_extent_26 ?_
    refine jv_iret (pc := 27) d_IC_extent_27 rfl rfl (Nat.zero_le _) (Nat.zero_le _) ?_
    cases H
    exact jI.of ⟨rfl, rfl⟩
  · have h11 : ¬ (x2 = 0) := h11
    have H := (if_neg h11).symm.trans H
    refine jv_aload_n 0 (pc := 14) d_IC_extent_14 rfl ?_
    refine jv_geti (pc := 15) d_IC_extent_15 fa_IC_115_PI (show 14 + 2 * (4 + x1.toNatClampNeg) < jN by unfold jN; omega) (jshp_pic p8) rfl ?_
    refine jv_goto 25 (pc := 18) d_IC_extent_18 rfl ?_
    refine jv_iconst 1 (pc := 25) d_IC_extent_25 rfl ?_
    refine jv_isub (pc := 26) d_IC_extent_26 ?_
    refine jv_iret (pc := 27) d_IC_extent_27 rfl rfl (Nat.zero_le _) (Nat.zero_le _) ?_
    cases H
    exact jI.of ⟨rfl, rfl⟩
set_option maxRecDepth 40000 in
set_option maxHeartbeats 8000000 in
theorem sp_IC_before {G : jG} {σ τ : jMem} {r : Int32} (x1 x2 x3 : Int32) (H : f_IC_before x1 x2 x3 σ = some (r, τ)) : jSp G M_IC_before (jr 1 0 0) [.ref 0, .int x1, .int x2, .int x3] σ (jI fun r9 τ9 => r9 = r ∧ τ9 = τ) := by
  refine jSp.of rfl rfl (Nat.le_of_ble_eq_true rfl) ?_
  show jV _ _ _ _ 0 0 0 [(0, .ref 0), (1, .int x1), (2, .int x2), (3, .int x3)] [] σ
  unfold f_IC_before at H
  refine jv_iload_n 3 (pc := 0) d_IC_before_0 rfl ?_
  refine jv_if_eq 11 (pc := 1) d_IC_before_1 rfl (fun h1 => ?_) (fun h1 => ?_)
  · have h1 : x3 = 0 := h1
    have H := (if_pos h1).symm.trans H
    refine jv_iload_n 2 (pc := 11) d_IC_before_11 rfl ?_
    refine jv_callSi (sp_IC_isRight x2) (pc := 12) d_IC_before_12 c0_IC_isRight lk_IC_227 si_IC_isRight rfl (Nat.le_of_ble_eq_true rfl) ⟨by decide, by decide, by decide, by decide⟩ (fun r12 m12 h12 => ?_)
    obtain ⟨ha12, hb12⟩ := h12
    subst ha12
    have hb12 := hb12.symm
    subst hb12
    refine jv_istore (pc := 15) d_IC_before_15 (by decide) (jsto_new rfl) ?_
    refine jv_iload 0 (pc := 17) d_IC_before_17 rfl ?_
    refine jv_if_eq 31 (pc := 19) d_IC_before_19 rfl (fun h19 => ?_) (fun h19 => ?_)
    · have h19 : (f_IC_isRight x2 σ) = 0 := h19
      have H := (if_pos h19).symm.trans H
      refine jv_iconst 0 (pc := 31) d_IC_before_31 rfl ?_
      refine jv_iret (pc := 32) d_IC_before_32 rfl rfl (Nat.zero_le _) (Nat.zero_le _) ?_
      cases H
      exact jI.of ⟨rfl, rfl⟩
    · have h19 : ¬ ((f_IC_isRight x2 σ) = 0) := h19
      have H := (if_neg h19).symm.trans H
      refine jv_aload_n 1 (pc := 22) d_IC_before_22 rfl ?_
      refine jv_iload_n 2 (pc := 23) d_IC_before_23 rfl ?_
      refine jv_iload_n 4 (pc := 24) d_IC_before_24 rfl ?_
      obtain ⟨v25, n25, c25, H⟩ := jbd_some H
      refine jv_callVi (sp_IC_extent x1 x3 c25) (pc := 25) d_IC_before_25 c0_IC_extent lk_IC_221 in_IC_extent se_IC_extent (by decide) rfl rfl rfl (Nat.le_of_ble_eq_true rfl) ⟨by decide, by decide, by decide, by decide⟩ (fun r25 m25 h25 => ?_)
      obtain ⟨ha25, hb25⟩ := h25
      have ha25 := ha25.symm
      subst ha25
      have hb25 := hb25.symm
      subst hb25
      refine jv_goto 32 (pc := 28) d_IC_before_28 rfl ?_
      refine jv_iret (pc := 32) d_IC_before_32 rfl rfl (Nat.zero_le _) (Nat.zero_le _) ?_
      cases H
      exact jI.of ⟨rfl, rfl⟩
  · have h1 : ¬ (x3 = 0) := h1
    have H := (if_neg h1).symm.trans H
    refine jv_iload_n 2 (pc := 4) d_IC_before_4 rfl ?_
    refine jv_callSi (sp_IC_isLower x2) (pc := 5) d_IC_before_5 c0_IC_isLower lk_IC_224 si_IC_isLower rfl (Nat.le_of_ble_eq_true rfl) ⟨by decide, by decide, by decide, by decide⟩ (fun r5 m5 h5 => ?_)
    obtain ⟨ha5, hb5⟩ := h5
    subst ha5
    have hb5 := hb5.symm
    subst hb5
    refine jv_goto 15 (pc := 8) d_IC_before_8 rfl ?_
    refine jv_istore (pc := 15) d_IC_before_15 (by decide) (jsto_new rfl) ?_
    refine jv_iload 0 (pc := 17) d_IC_before_17 rfl ?_
    refine jv_if_eq 31 (pc := 19) d_IC_before_19 rfl (fun h19 => ?_) (fun h19 => ?_)
    · have h19 : (f_IC_isLower x2 σ) = 0 := h19
      have H := (if_pos h19).symm.trans H
      refine jv_iconst 0 (pc := 31) d_IC_before_31 rfl ?_
      refine jv_iret (pc := 32) d_IC_before_32 rfl rfl (Nat.zero_le _) (Nat.zero_le _) ?_
      cases H
      exact jI.of ⟨rfl, rfl⟩
    · have h19 : ¬ ((f_IC_isLower x2 σ) = 0) := h19
      have H := (if_neg h19).symm.trans H
      refine jv_aload_n 1 (pc := 22) d_IC_before_22 rfl ?_
      refine jv_iload_n 2 (pc := 23) d_IC_before_23 rfl ?_
      refine jv_iload_n 4 (pc := 24) d_IC_before_24 rfl ?_
      obtain ⟨v25, n25, c25, H⟩ := jbd_some H
      refine jv_callVi (sp_IC_extent x1 x3 c25) (pc := 25) d_IC_before_25 c0_IC_extent lk_IC_221 in_IC_extent se_IC_extent (by decide) rfl rfl rfl (Nat.le_of_ble_eq_true rfl) ⟨by decide, by decide, by decide, by decide⟩ (fun r25 m25 h25 => ?_)
      obtain ⟨ha25, hb25⟩ := h25
      have ha25 := ha25.symm
      subst ha25
      have hb25 := hb25.symm
      subst hb25
      refine jv_goto 32 (pc := 28) d_IC_before_28 rfl ?_
      refine jv_iret (pc := 32) d_IC_before_32 rfl rfl (Nat.zero_le _) (Nat.zero_le _) ?_
      cases H
      exact jI.of ⟨rfl, rfl⟩
set_option maxRecDepth 40000 in
set_option maxHeartbeats 8000000 in
theorem sp_IC_startOf {G : jG} {σ τ : jMem} {r : Int32} (x1 x2 x3 : Int32) (H : f_IC_startOf x1 x2 x3 σ = some (r, τ)) : jSp G M_IC_startOf (jr 2 0 0) [.ref 0, .int x1, .int x2, .int x3] σ (jI fun r9 τ9 => r9 = r ∧ τ9 = τ) := by
  refine jSp.of rfl rfl (Nat.le_of_ble_eq_true rfl) ?_
  show jV _ _ _ _ 0 0 0 [(0, .ref 0), (1, .int x1), (2, .int x2), (3, .int x3)] [] σ
  unfold f_IC_startOf at H
  refine jv_aload_n 0 (pc := 0) d_IC_startOf_0 rfl ?_
  refine jv_getr (pc := 1) d_IC_startOf_1 fa_IC_26_IC (by decide) rfl rfl ?_
  refine jv_getr (pc := 4) d_IC_startOf_4 fa_IC_190_MR (by decide) rfl rfl ?_
  refine jv_iload_n 1 (pc := 7) d_IC_startOf_7 rfl ?_
  obtain ⟨b8, H⟩ := jck_some H
  refine jv_iald (pc := 8) d_IC_startOf_8 (by decide) rfl b8 ?_
  refine jv_aload_n 0 (pc := 9) d_IC_startOf_9 rfl ?_
  refine jv_aload_n 0 (pc := 10) d_IC_startOf_10 rfl ?_
  refine jv_getr (pc := 11) d_IC_startOf_11 fa_IC_26_IC (by decide) rfl rfl ?_
  refine jv_getr (pc := 14) d_IC_startOf_14 fa_IC_187_MR (by decide) rfl rfl ?_
  refine jv_iload_n 1 (pc := 17) d_IC_startOf_17 rfl ?_
  obtain ⟨b18, H⟩ := jck_some H
  refine jv_iald (pc := 18) d_IC_startOf_18 (by decide) rfl b18 ?_
  refine jv_iload_n 2 (pc := 19) d_IC_startOf_19 rfl ?_
  refine jv_iload_n 3 (pc := 20) d_IC_startOf_20 rfl ?_
  obtain ⟨v21, n21, c21, H⟩ := jbd_some H
  refine jv_callVi (sp_IC_before (σ 5 x1.toNatClampNeg) x2 x3 c21) (pc := 21) d_IC_startOf_21 c0_IC_before lk_IC_218 in_IC_before se_IC_before (by decide) rfl rfl rfl (Nat.le_of_ble_eq_true rfl) ⟨by decide, by decide, by decide, by decide⟩ (fun r21 m21 h21 => ?_)
  obtain ⟨ha21, hb21⟩ := h21
  have ha21 := ha21.symm
  subst ha21
  have hb21 := hb21.symm
  subst hb21
  refine jv_isub (pc := 24) d_IC_startOf_24 ?_
  refine jv_iret (pc := 25) d_IC_startOf_25 rfl rfl (Nat.zero_le _) (Nat.zero_le _) ?_
  cases H
  exact jI.of ⟨rfl, rfl⟩
set_option maxRecDepth 40000 in
set_option maxHeartbeats 8000000 in
theorem sp_IC_stampMark {G : jG} {σ τ : jMem} {r : Unit} (p : Nat) (x2 x3 x4 x5 : Int32) (hp : p < 12) (H : f_IC_stampMark p x2 x3 x4 x5 σ = some (r, τ)) : jSp G M_IC_stampMark (jr 2 0 0) [.ref 0, .ref (14 + 2 * p), .int x2, .int x3, .int x4, .int x5] σ (jU fun τ9 => τ9 = τ) := by
  refine jSp.of rfl rfl (Nat.le_of_ble_eq_true rfl) ?_
  show jV _ _ _ _ 0 0 0 [(0, .ref 0), (1, .ref (14 + 2 * p)), (2, .int x2), (3, .int x3), (4, .int x4), (5, .int x5)] [] σ
  unfold f_IC_stampMark at H
  refine jv_aload_n 0 (pc := 0) d_IC_stampMark_0 rfl ?_
  refine jv_getr (pc := 1) d_IC_stampMark_1 fa_IC_19_IC (by decide) rfl rfl ?_
  refine jv_getr (pc := 4) d_IC_stampMark_4 fa_IC_170_SR (by decide) rfl rfl ?_
  refine jv_aload_n 0 (pc := 7) d_IC_stampMark_7 rfl ?_
  refine jv_getr (pc := 8) d_IC_stampMark_8 fa_IC_26_IC (by decide) rfl rfl ?_
  refine jv_getr (pc := 11) d_IC_stampMark_11 fa_IC_187_MR (by decide) rfl rfl ?_
  refine jv_iload_n 2 (pc := 14) d_IC_stampMark_14 rfl ?_
  obtain ⟨b15, H⟩ := jck_some H
  refine jv_iald (pc := 15) d_IC_stampMark_15 (by decide) rfl b15 ?_
  obtain ⟨b16, H⟩ := jck_some H
  have p16 : (4 + (σ 5 x2.toNatClampNeg).toNatClampNeg) < 12 := jsy12 b16
  refine jv_aald (pc := 16) d_IC_stampMark_16 (by decide) rfl b16 (jsy b16) ?_
  refine jv_astore (pc := 17) d_IC_stampMark_17 (by decide) (jsto_new rfl) ?_
  refine jv_iload 5 (pc := 19) d_IC_stampMark_19 rfl ?_
  refine jv_if_eq 36 (pc := 21) d_IC_stampMark_21 rfl (fun h21 => ?_) (fun h21 => ?_)
  · have h21 : x4 = 0 := h21
    have H := (if_pos h21).symm.trans H
    refine jv_aload_n 1 (pc := 36) d_IC_stampMark_36 rfl ?_
    refine jv_getr (pc := 37) d_IC_stampMark_37 fa_IC_26_IC (by decide) rfl rfl ?_
    refine jv_getr (pc := 40) d_IC_stampMark_40 fa_IC_190_MR (by decide) rfl rfl ?_
    refine jv_iload_n 3 (pc := 43) d_IC_stampMark_43 rfl ?_
    obtain ⟨b44, H⟩ := jck_some H
    refine jv_iald (pc := 44) d_IC_stampMark_44 (by decide) rfl b44 ?_
    refine jv_istore (pc := 45) d_IC_stampMark_45 (by decide) (jsto_new rfl) ?_
    refine jv_iload 6 (pc := 47) d_IC_stampMark_47 rfl ?_
    refine jv_if_eq 64 (pc := 49) d_IC_stampMark_49 rfl (fun h49 => ?_) (fun h49 => ?_)
    · have h49 : x4 = 0 := h49
      have H := (if_pos h49).symm.trans H
      refine jv_aload_n 2 (pc := 64) d_IC_stampMark_64 rfl ?_
      refine jv_getr (pc := 65) d_IC_stampMark_65 fa_IC_26_IC (by decide) rfl rfl ?_
      refine jv_getr (pc := 68) d_IC_stampMark_68 fa_IC_193_MR (by decide) rfl rfl ?_
      refine jv_iload_n 4 (pc := 71) d_IC_stampMark_71 rfl ?_
      obtain ⟨b72, H⟩ := jck_some H
      refine jv_iald (pc := 72) d_IC_stampMark_72 (by decide) rfl b72 ?_
      refine jv_istore (pc := 73) d_IC_stampMark_73 (by decide) (jsto_new rfl) ?_
      refine jv_iload_n 6 (pc := 75) d_IC_stampMark_75 rfl ?_
      refine jv_callSi (sp_IC_isRight x3) (pc := 76) d_IC_stampMark_76 c0_IC_isRight lk_IC_227 si_IC_isRight rfl (Nat.le_of_ble_eq_true rfl) ⟨by decide, by decide, by decide, by decide⟩ (fun r76 m76 h76 => ?_)
      obtain ⟨ha76, hb76⟩ := h76
      subst ha76
      have hb76 := hb76.symm
      subst hb76
      refine jv_if_eq 95 (pc := 79) d_IC_stampMark_79 rfl (fun h79 => ?_) (fun h79 => ?_)
      · have h79 : (f_IC_isRight x3 σ) = 0 := h79
        have H := (if_pos h79).symm.trans H
        refine jv_iload 1 (pc := 95) d_IC_stampMark_95 rfl ?_
        refine jv_istore (pc := 97) d_IC_stampMark_97 (by decide) (jsto_new rfl) ?_
        refine jv_iload_n 7 (pc := 99) d_IC_stampMark_99 rfl ?_
        refine jv_callSi (sp_IC_isLower x3) (pc := 100) d_IC_stampMark_100 c0_IC_isLower lk_IC_224 si_IC_isLower rfl (Nat.le_of_ble_eq_true rfl) ⟨by decide, by decide, by decide, by decide⟩ (fun r100 m100 h100 => ?_)
        obtain ⟨ha100, hb100⟩ := h100
        subst ha100
        have hb100 := hb100.symm
        subst hb100
        refine jv_if_eq 119 (pc := 103) d_IC_stampMark_103 rfl (fun h103 => ?_) (fun h103 => ?_)
        · have h103 : (f_IC_isLower x3 σ) = 0 := h103
          have H := (if_pos h103).symm.trans H
          refine jv_iload 1 (pc := 119) d_IC_stampMark_119 rfl ?_
          refine jv_istore (pc := 121) d_IC_stampMark_121 (by decide) (jsto_new rfl) ?_
          refine jv_aload_n 6 (pc := 123) d_IC_stampMark_123 rfl ?_
          refine jv_aload 4 (pc := 124) d_IC_stampMark_124 rfl ?_
          refine jv_iload 1 (pc := 126) d_IC_stampMark_126 rfl ?_
          refine jv_iload 0 (pc := 128) d_IC_stampMark_128 rfl ?_
          refine jv_iload 10 (pc := 130) d_IC_stampMark_130 rfl ?_
          obtain ⟨_, n132, c132, H⟩ := jbd_some H
          refine jv_callVv (sp_PI_stamp p (4 + (σ 5 x2.toNatClampNeg).toNatClampNeg) (σ 6 x2.toNatClampNeg) (σ 7 x2.toNatClampNeg) x5 hp p16 c132) (pc := 132) d_IC_stampMark_132 c0_PI_stamp lk_IC_104 in_PI_stamp se_PI_stamp (show 14 + 2 * p < jN by unfold jN; omega) (jshp_pic hp) rfl rfl (Nat.le_of_ble_eq_true rfl) ⟨by decide, by decide, by decide, by decide⟩ (fun m132 h132 => ?_)
          have hb132 := h132
          have hb132 := hb132.symm
          subst hb132
          refine jv_vret (pc := 135) d_IC_stampMark_135 rfl (Nat.zero_le _) (Nat.zero_le _) ?_
          cases H
          exact jU.of rfl
        · have h103 : ¬ ((f_IC_isLower x3 σ) = 0) := h103
          have H := (if_neg h103).symm.trans H
          refine jv_iload 1 (pc := 106) d_IC_stampMark_106 rfl ?_
          refine jv_aload 3 (pc := 108) d_IC_stampMark_108 rfl ?_
          refine jv_geti (pc := 110) d_IC_stampMark_110 fa_IC_115_PI (show 14 + 2 * (4 + (σ 5 x2.toNatClampNeg).toNatClampNeg) < jN by unfold jN; omega) (jshp_pic p16) rfl ?_
          refine jv_isub (pc := 113) d_IC_stampMark_113 ?_
          refine jv_iconst 1 (pc := 114) d_IC_stampMark_114 rfl ?_
          refine jv_iadd (pc := 115) d_IC_stampMark_115 ?_
          refine jv_goto 121 (pc := 116) d_IC_stampMark_116 rfl ?_
          refine jv_istore (pc := 121) d_IC_stampMark_121 (by decide) (jsto_new rfl) ?_
          refine jv_aload_n 6 (pc := 123) d_IC_stampMark_123 rfl ?_
          refine jv_aload 4 (pc := 124) d_IC_stampMark_124 rfl ?_
          refine jv_iload 1 (pc := 126) d_IC_stampMark_126 rfl ?_
          refine jv_iload 0 (pc := 128) d_IC_stampMark_128 rfl ?_
          refine jv_iload 10 (pc := 130) d_IC_stampMark_130 rfl ?_
          obtain ⟨_, n132, c132, H⟩ := jbd_some H
          refine jv_callVv (sp_PI_stamp p (4 + (σ 5 x2.toNatClampNeg).toNatClampNeg) (σ 6 x2.toNatClampNeg) (((σ 7 x2.toNatClampNeg) - (σ (14 + 2 * (4 + (σ 5 x2.toNatClampNeg).toNatClampNeg)) 2)) + (1 : Int32)) x5 hp p16 c132) (pc := 132) d_IC_stampMark_132 c0_PI_stamp lk_IC_104 in_PI_stamp se_PI_stamp (show 14 + 2 * p < jN by unfold jN; omega) (jshp_pic hp) rfl rfl (Nat.le_of_ble_eq_true rfl) ⟨by decide, by decide, by decide, by decide⟩ (fun m132 h132 => ?_)
          have hb132 := h132
          have hb132 := hb132.symm
          subst hb132
          refine jv_vret (pc := 135) d_IC_stampMark_135 rfl (Nat.zero_le _) (Nat.zero_le _) ?_
          cases H
          exact jU.of rfl
      · have h79 : ¬ ((f_IC_isRight x3 σ) = 0) := h79
        have H := (if_neg h79).symm.trans H
        refine jv_iload 1 (pc := 82) d_IC_stampMark_82 rfl ?_
        refine jv_aload 2 (pc := 84) d_IC_stampMark_84 rfl ?_
        refine jv_geti (pc := 86) d_IC_stampMark_86 fa_IC_112_PI (show 14 + 2 * (4 + (σ 5 x2.toNatClampNeg).toNatClampNeg) < jN by unfold jN; omega) (jshp_pic p16) rfl ?_
        refine jv_isub (pc := 89) d_IC_stampMark_89 ?_
        refine jv_iconst 1 (pc := 90) d_IC_stampMark_90 rfl ?_
        refine jv_iadd (pc := 91) d_IC_stampMark_91 ?_
        refine jv_goto 97 (pc := 92) d_IC_stampMark_92 rfl ?_
        refine jv_istore (pc := 97) d_IC_stampMark_97 (by decide) (jsto_new rfl) ?_
        refine jv_iload_n 7 (pc := 99) d_IC_stampMark_99 rfl ?_
        refine jv_callSi (sp_IC_isLower x3) (pc := 100) d_IC_stampMark_100 c0_IC_isLower lk_IC_224 si_IC_isLower rfl (Nat.le_of_ble_eq_true rfl) ⟨by decide, by decide, by decide, by decide⟩ (fun r100 m100 h100 => ?_)
        obtain ⟨ha100, hb100⟩ := h100
        subst ha100
        have hb100 := hb100.symm
        subst hb100
        refine jv_if_eq 119 (pc := 103) d_IC_stampMark_103 rfl (fun h103 => ?_) (fun h103 => ?_)
        · have h103 : (f_IC_isLower x3 σ) = 0 := h103
          have H := (if_pos h103).symm.trans H
          refine jv_iload 1 (pc := 119) d_IC_stampMark_119 rfl ?_
          refine jv_istore (pc := 121) d_IC_stampMark_121 (by decide) (jsto_new rfl) ?_
          refine jv_aload_n 6 (pc := 123) d_IC_stampMark_123 rfl ?_
          refine jv_aload 4 (pc := 124) d_IC_stampMark_124 rfl ?_
          refine jv_iload 1 (pc := 126) d_IC_stampMark_126 rfl ?_
          refine jv_iload 0 (pc := 128) d_IC_stampMark_128 rfl ?_
          refine jv_iload 10 (pc := 130) d_IC_stampMark_130 rfl ?_
          obtain ⟨_, n132, c132, H⟩ := jbd_some H
          refine jv_callVv (sp_PI_stamp p (4 + (σ 5 x2.toNatClampNeg).toNatClampNeg) (((σ 6 x2.toNatClampNeg) - (σ (14 + 2 * (4 + (σ 5 x2.toNatClampNeg).toNatClampNeg)) 1)) + (1 : Int32)) (σ 7 x2.toNatClampNeg) x5 hp p16 c132) (pc := 132) d_IC_stampMark_132 c0_PI_stamp lk_IC_104 in_PI_stamp se_PI_stamp (show 14 + 2 * p < jN by unfold jN; omega) (jshp_pic hp) rfl rfl (Nat.le_of_ble_eq_true rfl) ⟨by decide, by decide, by decide, by decide⟩ (fun m132 h132 => ?_)
          have hb132 := h132
          have hb132 := hb132.symm
          subst hb132
          refine jv_vret (pc := 135) d_IC_stampMark_135 rfl (Nat.zero_le _) (Nat.zero_le _) ?_
          cases H
          exact jU.of rfl
        · have h103 : ¬ ((f_IC_isLower x3 σ) = 0) := h103
          have H := (if_neg h103).symm.trans H
          refine jv_iload 1 (pc := 106) d_IC_stampMark_106 rfl ?_
          refine jv_aload 3 (pc := 108) d_IC_stampMark_108 rfl ?_
          refine jv_geti (pc := 110) d_IC_stampMark_110 fa_IC_115_PI (show 14 + 2 * (4 + (σ 5 x2.toNatClampNeg).toNatClampNeg) < jN by unfold jN; omega) (jshp_pic p16) rfl ?_
          refine jv_isub (pc := 113) d_IC_stampMark_113 ?_
          refine jv_iconst 1 (pc := 114) d_IC_stampMark_114 rfl ?_
          refine jv_iadd (pc := 115) d_IC_stampMark_115 ?_
          refine jv_goto 121 (pc := 116) d_IC_stampMark_116 rfl ?_
          refine jv_istore (pc := 121) d_IC_stampMark_121 (by decide) (jsto_new rfl) ?_
          refine jv_aload_n 6 (pc := 123) d_IC_stampMark_123 rfl ?_
          refine jv_aload 4 (pc := 124) d_IC_stampMark_124 rfl ?_
          refine jv_iload 1 (pc := 126) d_IC_stampMark_126 rfl ?_
          refine jv_iload 0 (pc := 128) d_IC_stampMark_128 rfl ?_
          refine jv_iload 10 (pc := 130) d_IC_stampMark_130 rfl ?_
          obtain ⟨_, n132, c132, H⟩ := jbd_some H
          refine jv_callVv (sp_PI_stamp p (4 + (σ 5 x2.toNatClampNeg).toNatClampNeg) (((σ 6 x2.toNatClampNeg) - (σ (14 + 2 * (4 + (σ 5 x2.toNatClampNeg).toNatClampNeg)) 1)) + (1 : Int32)) (((σ 7 x2.toNatClampNeg) - (σ (14 + 2 * (4 + (σ 5 x2.toNatClampNeg).toNatClampNeg)) 2)) + (1 : Int32)) x5 hp p16 c132) (pc := 132) d_IC_stampMark_132 c0_PI_stamp lk_IC_104 in_PI_stamp se_PI_stamp (show 14 + 2 * p < jN by unfold jN; omega) (jshp_pic hp) rfl rfl (Nat.le_of_ble_eq_true rfl) ⟨by decide, by decide, by decide, by decide⟩ (fun m132 h132 => ?_)
          have hb132 := h132
          have hb132 := hb132.symm
          subst hb132
          refine jv_vret (pc := 135) d_IC_stampMark_135 rfl (Nat.zero_le _) (Nat.zero_le _) ?_
          cases H
          exact jU.of rfl
    · have h49 : ¬ (x4 = 0) := h49
      have H := (if_neg h49).symm.trans H
      refine jv_aload_n 2 (pc := 52) d_IC_stampMark_52 rfl ?_
      refine jv_getr (pc := 53) d_IC_stampMark_53 fa_IC_26_IC (by decide) rfl rfl ?_
      refine jv_getr (pc := 56) d_IC_stampMark_56 fa_IC_190_MR (by decide) rfl rfl ?_
      refine jv_iload_n 4 (pc := 59) d_IC_stampMark_59 rfl ?_
      obtain ⟨b60, H⟩ := jck_some H
      refine jv_iald (pc := 60) d_IC_stampMark_60 (by decide) rfl b60 ?_
      refine jv_goto 73 (pc := 61) d_IC_stampMark_61 rfl ?_
      refine jv_istore (pc := 73) d_IC_stampMark_73 (by decide) (jsto_new rfl) ?_
      refine jv_iload_n 6 (pc := 75) d_IC_stampMark_75 rfl ?_
      refine jv_callSi (sp_IC_isRight x3) (pc := 76) d_IC_stampMark_76 c0_IC_isRight lk_IC_227 si_IC_isRight rfl (Nat.le_of_ble_eq_true rfl) ⟨by decide, by decide, by decide, by decide⟩ (fun r76 m76 h76 => ?_)
      obtain ⟨ha76, hb76⟩ := h76
      subst ha76
      have hb76 := hb76.symm
      subst hb76
      refine jv_if_eq 95 (pc := 79) d_IC_stampMark_79 rfl (fun h79 => ?_) (fun h79 => ?_)
      · have h79 : (f_IC_isRight x3 σ) = 0 := h79
        have H := (if_pos h79).symm.trans H
        refine jv_iload 1 (pc := 95) d_IC_stampMark_95 rfl ?_
        refine jv_istore (pc := 97) d_IC_stampMark_97 (by decide) (jsto_new rfl) ?_
        refine jv_iload_n 7 (pc := 99) d_IC_stampMark_99 rfl ?_
        refine jv_callSi (sp_IC_isLower x3) (pc := 100) d_IC_stampMark_100 c0_IC_isLower lk_IC_224 si_IC_isLower rfl (Nat.le_of_ble_eq_true rfl) ⟨by decide, by decide, by decide, by decide⟩ (fun r100 m100 h100 => ?_)
        obtain ⟨ha100, hb100⟩ := h100
        subst ha100
        have hb100 := hb100.symm
        subst hb100
        refine jv_if_eq 119 (pc := 103) d_IC_stampMark_103 rfl (fun h103 => ?_) (fun h103 => ?_)
        · have h103 : (f_IC_isLower x3 σ) = 0 := h103
          have H := (if_pos h103).symm.trans H
          refine jv_iload 1 (pc := 119) d_IC_stampMark_119 rfl ?_
          refine jv_istore (pc := 121) d_IC_stampMark_121 (by decide) (jsto_new rfl) ?_
          refine jv_aload_n 6 (pc := 123) d_IC_stampMark_123 rfl ?_
          refine jv_aload 4 (pc := 124) d_IC_stampMark_124 rfl ?_
          refine jv_iload 1 (pc := 126) d_IC_stampMark_126 rfl ?_
          refine jv_iload 0 (pc := 128) d_IC_stampMark_128 rfl ?_
          refine jv_iload 10 (pc := 130) d_IC_stampMark_130 rfl ?_
          obtain ⟨_, n132, c132, H⟩ := jbd_some H
          refine jv_callVv (sp_PI_stamp p (4 + (σ 5 x2.toNatClampNeg).toNatClampNeg) (σ 6 x2.toNatClampNeg) (σ 6 x2.toNatClampNeg) x5 hp p16 c132) (pc := 132) d_IC_stampMark_132 c0_PI_stamp lk_IC_104 in_PI_stamp se_PI_stamp (show 14 + 2 * p < jN by unfold jN; omega) (jshp_pic hp) rfl rfl (Nat.le_of_ble_eq_true rfl) ⟨by decide, by decide, by decide, by decide⟩ (fun m132 h132 => ?_)
          have hb132 := h132
          have hb132 := hb132.symm
          subst hb132
          refine jv_vret (pc := 135) d_IC_stampMark_135 rfl (Nat.zero_le _) (Nat.zero_le _) ?_
          cases H
          exact jU.of rfl
        · have h103 : ¬ ((f_IC_isLower x3 σ) = 0) := h103
          have H := (if_neg h103).symm.trans H
          refine jv_iload 1 (pc := 106) d_IC_stampMark_106 rfl ?_
          refine jv_aload 3 (pc := 108) d_IC_stampMark_108 rfl ?_
          refine jv_geti (pc := 110) d_IC_stampMark_110 fa_IC_115_PI (show 14 + 2 * (4 + (σ 5 x2.toNatClampNeg).toNatClampNeg) < jN by unfold jN; omega) (jshp_pic p16) rfl ?_
          refine jv_isub (pc := 113) d_IC_stampMark_113 ?_
          refine jv_iconst 1 (pc := 114) d_IC_stampMark_114 rfl ?_
          refine jv_iadd (pc := 115) d_IC_stampMark_115 ?_
          refine jv_goto 121 (pc := 116) d_IC_stampMark_116 rfl ?_
          refine jv_istore (pc := 121) d_IC_stampMark_121 (by decide) (jsto_new rfl) ?_
          refine jv_aload_n 6 (pc := 123) d_IC_stampMark_123 rfl ?_
          refine jv_aload 4 (pc := 124) d_IC_stampMark_124 rfl ?_
          refine jv_iload 1 (pc := 126) d_IC_stampMark_126 rfl ?_
          refine jv_iload 0 (pc := 128) d_IC_stampMark_128 rfl ?_
          refine jv_iload 10 (pc := 130) d_IC_stampMark_130 rfl ?_
          obtain ⟨_, n132, c132, H⟩ := jbd_some H
          refine jv_callVv (sp_PI_stamp p (4 + (σ 5 x2.toNatClampNeg).toNatClampNeg) (σ 6 x2.toNatClampNeg) (((σ 6 x2.toNatClampNeg) - (σ (14 + 2 * (4 + (σ 5 x2.toNatClampNeg).toNatClampNeg)) 2)) + (1 : Int32)) x5 hp p16 c132) (pc := 132) d_IC_stampMark_132 c0_PI_stamp lk_IC_104 in_PI_stamp se_PI_stamp (show 14 + 2 * p < jN by unfold jN; omega) (jshp_pic hp) rfl rfl (Nat.le_of_ble_eq_true rfl) ⟨by decide, by decide, by decide, by decide⟩ (fun m132 h132 => ?_)
          have hb132 := h132
          have hb132 := hb132.symm
          subst hb132
          refine jv_vret (pc := 135) d_IC_stampMark_135 rfl (Nat.zero_le _) (Nat.zero_le _) ?_
          cases H
          exact jU.of rfl
      · have h79 : ¬ ((f_IC_isRight x3 σ) = 0) := h79
        have H := (if_neg h79).symm.trans H
        refine jv_iload 1 (pc := 82) d_IC_stampMark_82 rfl ?_
        refine jv_aload 2 (pc := 84) d_IC_stampMark_84 rfl ?_
        refine jv_geti (pc := 86) d_IC_stampMark_86 fa_IC_112_PI (show 14 + 2 * (4 + (σ 5 x2.toNatClampNeg).toNatClampNeg) < jN by unfold jN; omega) (jshp_pic p16) rfl ?_
        refine jv_isub (pc := 89) d_IC_stampMark_89 ?_
        refine jv_iconst 1 (pc := 90) d_IC_stampMark_90 rfl ?_
        refine jv_iadd (pc := 91) d_IC_stampMark_91 ?_
        refine jv_goto 97 (pc := 92) d_IC_stampMark_92 rfl ?_
        refine jv_istore (pc := 97) d_IC_stampMark_97 (by decide) (jsto_new rfl) ?_
        refine jv_iload_n 7 (pc := 99) d_IC_stampMark_99 rfl ?_
        refine jv_callSi (sp_IC_isLower x3) (pc := 100) d_IC_stampMark_100 c0_IC_isLower lk_IC_224 si_IC_isLower rfl (Nat.le_of_ble_eq_true rfl) ⟨by decide, by decide, by decide, by decide⟩ (fun r100 m100 h100 => ?_)
        obtain ⟨ha100, hb100⟩ := h100
        subst ha100
        have hb100 := hb100.symm
        subst hb100
        refine jv_if_eq 119 (pc := 103) d_IC_stampMark_103 rfl (fun h103 => ?_) (fun h103 => ?_)
        · have h103 : (f_IC_isLower x3 σ) = 0 := h103
          have H := (if_pos h103).symm.trans H
          refine jv_iload 1 (pc := 119) d_IC_stampMark_119 rfl ?_
          refine jv_istore (pc := 121) d_IC_stampMark_121 (by decide) (jsto_new rfl) ?_
          refine jv_aload_n 6 (pc := 123) d_IC_stampMark_123 rfl ?_
          refine jv_aload 4 (pc := 124) d_IC_stampMark_124 rfl ?_
          refine jv_iload 1 (pc := 126) d_IC_stampMark_126 rfl ?_
          refine jv_iload 0 (pc := 128) d_IC_stampMark_128 rfl ?_
          refine jv_iload 10 (pc := 130) d_IC_stampMark_130 rfl ?_
          obtain ⟨_, n132, c132, H⟩ := jbd_some H
          refine jv_callVv (sp_PI_stamp p (4 + (σ 5 x2.toNatClampNeg).toNatClampNeg) (((σ 6 x2.toNatClampNeg) - (σ (14 + 2 * (4 + (σ 5 x2.toNatClampNeg).toNatClampNeg)) 1)) + (1 : Int32)) (σ 6 x2.toNatClampNeg) x5 hp p16 c132) (pc := 132) d_IC_stampMark_132 c0_PI_stamp lk_IC_104 in_PI_stamp se_PI_stamp (show 14 + 2 * p < jN by unfold jN; omega) (jshp_pic hp) rfl rfl (Nat.le_of_ble_eq_true rfl) ⟨by decide, by decide, by decide, by decide⟩ (fun m132 h132 => ?_)
          have hb132 := h132
          have hb132 := hb132.symm
          subst hb132
          refine jv_vret (pc := 135) d_IC_stampMark_135 rfl (Nat.zero_le _) (Nat.zero_le _) ?_
          cases H
          exact jU.of rfl
        · have h103 : ¬ ((f_IC_isLower x3 σ) = 0) := h103
          have H := (if_neg h103).symm.trans H
          refine jv_iload 1 (pc := 106) d_IC_stampMark_106 rfl ?_
          refine jv_aload 3 (pc := 108) d_IC_stampMark_108 rfl ?_
          refine jv_geti (pc := 110) d_IC_stampMark_110 fa_IC_115_PI (show 14 + 2 * (4 + (σ 5 x2.toNatClampNeg).toNatClampNeg) < jN by unfold jN; omega) (jshp_pic p16) rfl ?_
          refine jv_isub (pc := 113) d_IC_stampMark_113 ?_
          refine jv_iconst 1 (pc := 114) d_IC_stampMark_114 rfl ?_
          refine jv_iadd (pc := 115) d_IC_stampMark_115 ?_
          refine jv_goto 121 (pc := 116) d_IC_stampMark_116 rfl ?_
          refine jv_istore (pc := 121) d_IC_stampMark_121 (by decide) (jsto_new rfl) ?_
          refine jv_aload_n 6 (pc := 123) d_IC_stampMark_123 rfl ?_
          refine jv_aload 4 (pc := 124) d_IC_stampMark_124 rfl ?_
          refine jv_iload 1 (pc := 126) d_IC_stampMark_126 rfl ?_
          refine jv_iload 0 (pc := 128) d_IC_stampMark_128 rfl ?_
          refine jv_iload 10 (pc := 130) d_IC_stampMark_130 rfl ?_
          obtain ⟨_, n132, c132, H⟩ := jbd_some H
          refine jv_callVv (sp_PI_stamp p (4 + (σ 5 x2.toNatClampNeg).toNatClampNeg) (((σ 6 x2.toNatClampNeg) - (σ (14 + 2 * (4 + (σ 5 x2.toNatClampNeg).toNatClampNeg)) 1)) + (1 : Int32)) (((σ 6 x2.toNatClampNeg) - (σ (14 + 2 * (4 + (σ 5 x2.toNatClampNeg).toNatClampNeg)) 2)) + (1 : Int32)) x5 hp p16 c132) (pc := 132) d_IC_stampMark_132 c0_PI_stamp lk_IC_104 in_PI_stamp se_PI_stamp (show 14 + 2 * p < jN by unfold jN; omega) (jshp_pic hp) rfl rfl (Nat.le_of_ble_eq_true rfl) ⟨by decide, by decide, by decide, by decide⟩ (fun m132 h132 => ?_)
          have hb132 := h132
          have hb132 := hb132.symm
          subst hb132
          refine jv_vret (pc := 135) d_IC_stampMark_135 rfl (Nat.zero_le _) (Nat.zero_le _) ?_
          cases H
          exact jU.of rfl
  · have h21 : ¬ (x4 = 0) := h21
    have H := (if_neg h21).symm.trans H
    refine jv_aload_n 1 (pc := 24) d_IC_stampMark_24 rfl ?_
    refine jv_getr (pc := 25) d_IC_stampMark_25 fa_IC_26_IC (by decide) rfl rfl ?_
    refine jv_getr (pc := 28) d_IC_stampMark_28 fa_IC_193_MR (by decide) rfl rfl ?_
    refine jv_iload_n 3 (pc := 31) d_IC_stampMark_31 rfl ?_
    obtain ⟨b32, H⟩ := jck_some H
    refine jv_iald (pc := 32) d_IC_stampMark_32 (by decide) rfl b32 ?_
    refine jv_goto 45 (pc := 33) d_IC_stampMark_33 rfl ?_
    refine jv_istore (pc := 45) d_IC_stampMark_45 (by decide) (jsto_new rfl) ?_
    refine jv_iload 6 (pc := 47) d_IC_stampMark_47 rfl ?_
    refine jv_if_eq 64 (pc := 49) d_IC_stampMark_49 rfl (fun h49 => ?_) (fun h49 => ?_)
    · have h49 : x4 = 0 := h49
      have H := (if_pos h49).symm.trans H
      refine jv_aload_n 2 (pc := 64) d_IC_stampMark_64 rfl ?_
      refine jv_getr (pc := 65) d_IC_stampMark_65 fa_IC_26_IC (by decide) rfl rfl ?_
      refine jv_getr (pc := 68) d_IC_stampMark_68 fa_IC_193_MR (by decide) rfl rfl ?_
      refine jv_iload_n 4 (pc := 71) d_IC_stampMark_71 rfl ?_
      obtain ⟨b72, H⟩ := jck_some H
      refine jv_iald (pc := 72) d_IC_stampMark_72 (by decide) rfl b72 ?_
      refine jv_istore (pc := 73) d_IC_stampMark_73 (by decide) (jsto_new rfl) ?_
      refine jv_iload_n 6 (pc := 75) d_IC_stampMark_75 rfl ?_
      refine jv_callSi (sp_IC_isRight x3) (pc := 76) d_IC_stampMark_76 c0_IC_isRight lk_IC_227 si_IC_isRight rfl (Nat.le_of_ble_eq_true rfl) ⟨by decide, by decide, by decide, by decide⟩ (fun r76 m76 h76 => ?_)
      obtain ⟨ha76, hb76⟩ := h76
      subst ha76
      have hb76 := hb76.symm
      subst hb76
      refine jv_if_eq 95 (pc := 79) d_IC_stampMark_79 rfl (fun h79 => ?_) (fun h79 => ?_)
      · have h79 : (f_IC_isRight x3 σ) = 0 := h79
        have H := (if_pos h79).symm.trans H
        refine jv_iload 1 (pc := 95) d_IC_stampMark_95 rfl ?_
        refine jv_istore (pc := 97) d_IC_stampMark_97 (by decide) (jsto_new rfl) ?_
        refine jv_iload_n 7 (pc := 99) d_IC_stampMark_99 rfl ?_
        refine jv_callSi (sp_IC_isLower x3) (pc := 100) d_IC_stampMark_100 c0_IC_isLower lk_IC_224 si_IC_isLower rfl (Nat.le_of_ble_eq_true rfl) ⟨by decide, by decide, by decide, by decide⟩ (fun r100 m100 h100 => ?_)
        obtain ⟨ha100, hb100⟩ := h100
        subst ha100
        have hb100 := hb100.symm
        subst hb100
        refine jv_if_eq 119 (pc := 103) d_IC_stampMark_103 rfl (fun h103 => ?_) (fun h103 => ?_)
        · have h103 : (f_IC_isLower x3 σ) = 0 := h103
          have H := (if_pos h103).symm.trans H
          refine jv_iload 1 (pc := 119) d_IC_stampMark_119 rfl ?_
          refine jv_istore (pc := 121) d_IC_stampMark_121 (by decide) (jsto_new rfl) ?_
          refine jv_aload_n 6 (pc := 123) d_IC_stampMark_123 rfl ?_
          refine jv_aload 4 (pc := 124) d_IC_stampMark_124 rfl ?_
          refine jv_iload 1 (pc := 126) d_IC_stampMark_126 rfl ?_
          refine jv_iload 0 (pc := 128) d_IC_stampMark_128 rfl ?_
          refine jv_iload 10 (pc := 130) d_IC_stampMark_130 rfl ?_
          obtain ⟨_, n132, c132, H⟩ := jbd_some H
          refine jv_callVv (sp_PI_stamp p (4 + (σ 5 x2.toNatClampNeg).toNatClampNeg) (σ 7 x2.toNatClampNeg) (σ 7 x2.toNatClampNeg) x5 hp p16 c132) (pc := 132) d_IC_stampMark_132 c0_PI_stamp lk_IC_104 in_PI_stamp se_PI_stamp (show 14 + 2 * p < jN by unfold jN; omega) (jshp_pic hp) rfl rfl (Nat.le_of_ble_eq_true rfl) ⟨by decide, by decide, by decide, by decide⟩ (fun m132 h132 => ?_)
          have hb132 := h132
          have hb132 := hb132.symm
          subst hb132
          refine jv_vret (pc := 135) d_IC_stampMark_135 rfl (Nat.zero_le _) (Nat.zero_le _) ?_
          cases H
          exact jU.of rfl
        · have h103 : ¬ ((f_IC_isLower x3 σ) = 0) := h103
          have H := (if_neg h103).symm.trans H
          refine jv_iload 1 (pc := 106) d_IC_stampMark_106 rfl ?_
          refine jv_aload 3 (pc := 108) d_IC_stampMark_108 rfl ?_
          refine jv_geti (pc := 110) d_IC_stampMark_110 fa_IC_115_PI (show 14 + 2 * (4 + (σ 5 x2.toNatClampNeg).toNatClampNeg) < jN by unfold jN; omega) (jshp_pic p16) rfl ?_
          refine jv_isub (pc := 113) d_IC_stampMark_113 ?_
          refine jv_iconst 1 (pc := 114) d_IC_stampMark_114 rfl ?_
          refine jv_iadd (pc := 115) d_IC_stampMark_115 ?_
          refine jv_goto 121 (pc := 116) d_IC_stampMark_116 rfl ?_
          refine jv_istore (pc := 121) d_IC_stampMark_121 (by decide) (jsto_new rfl) ?_
          refine jv_aload_n 6 (pc := 123) d_IC_stampMark_123 rfl ?_
          refine jv_aload 4 (pc := 124) d_IC_stampMark_124 rfl ?_
          refine jv_iload 1 (pc := 126) d_IC_stampMark_126 rfl ?_
          refine jv_iload 0 (pc := 128) d_IC_stampMark_128 rfl ?_
          refine jv_iload 10 (pc := 130) d_IC_stampMark_130 rfl ?_
          obtain ⟨_, n132, c132, H⟩ := jbd_some H
          refine jv_callVv (sp_PI_stamp p (4 + (σ 5 x2.toNatClampNeg).toNatClampNeg) (σ 7 x2.toNatClampNeg) (((σ 7 x2.toNatClampNeg) - (σ (14 + 2 * (4 + (σ 5 x2.toNatClampNeg).toNatClampNeg)) 2)) + (1 : Int32)) x5 hp p16 c132) (pc := 132) d_IC_stampMark_132 c0_PI_stamp lk_IC_104 in_PI_stamp se_PI_stamp (show 14 + 2 * p < jN by unfold jN; omega) (jshp_pic hp) rfl rfl (Nat.le_of_ble_eq_true rfl) ⟨by decide, by decide, by decide, by decide⟩ (fun m132 h132 => ?_)
          have hb132 := h132
          have hb132 := hb132.symm
          subst hb132
          refine jv_vret (pc := 135) d_IC_stampMark_135 rfl (Nat.zero_le _) (Nat.zero_le _) ?_
          cases H
          exact jU.of rfl
      · have h79 : ¬ ((f_IC_isRight x3 σ) = 0) := h79
        have H := (if_neg h79).symm.trans H
        refine jv_iload 1 (pc := 82) d_IC_stampMark_82 rfl ?_
        refine jv_aload 2 (pc := 84) d_IC_stampMark_84 rfl ?_
        refine jv_geti (pc := 86) d_IC_stampMark_86 fa_IC_112_PI (show 14 + 2 * (4 + (σ 5 x2.toNatClampNeg).toNatClampNeg) < jN by unfold jN; omega) (jshp_pic p16) rfl ?_
        refine jv_isub (pc := 89) d_IC_stampMark_89 ?_
        refine jv_iconst 1 (pc := 90) d_IC_stampMark_90 rfl ?_
        refine jv_iadd (pc := 91) d_IC_stampMark_91 ?_
        refine jv_goto 97 (pc := 92) d_IC_stampMark_92 rfl ?_
        refine jv_istore (pc := 97) d_IC_stampMark_97 (by decide) (jsto_new rfl) ?_
        refine jv_iload_n 7 (pc := 99) d_IC_stampMark_99 rfl ?_
        refine jv_callSi (sp_IC_isLower x3) (pc := 100) d_IC_stampMark_100 c0_IC_isLower lk_IC_224 si_IC_isLower rfl (Nat.le_of_ble_eq_true rfl) ⟨by decide, by decide, by decide, by decide⟩ (fun r100 m100 h100 => ?_)
        obtain ⟨ha100, hb100⟩ := h100
        subst ha100
        have hb100 := hb100.symm
        subst hb100
        refine jv_if_eq 119 (pc := 103) d_IC_stampMark_103 rfl (fun h103 => ?_) (fun h103 => ?_)
        · have h103 : (f_IC_isLower x3 σ) = 0 := h103
          have H := (if_pos h103).symm.trans H
          refine jv_iload 1 (pc := 119) d_IC_stampMark_119 rfl ?_
          refine jv_istore (pc := 121) d_IC_stampMark_121 (by decide) (jsto_new rfl) ?_
          refine jv_aload_n 6 (pc := 123) d_IC_stampMark_123 rfl ?_
          refine jv_aload 4 (pc := 124) d_IC_stampMark_124 rfl ?_
          refine jv_iload 1 (pc := 126) d_IC_stampMark_126 rfl ?_
          refine jv_iload 0 (pc := 128) d_IC_stampMark_128 rfl ?_
          refine jv_iload 10 (pc := 130) d_IC_stampMark_130 rfl ?_
          obtain ⟨_, n132, c132, H⟩ := jbd_some H
          refine jv_callVv (sp_PI_stamp p (4 + (σ 5 x2.toNatClampNeg).toNatClampNeg) (((σ 7 x2.toNatClampNeg) - (σ (14 + 2 * (4 + (σ 5 x2.toNatClampNeg).toNatClampNeg)) 1)) + (1 : Int32)) (σ 7 x2.toNatClampNeg) x5 hp p16 c132) (pc := 132) d_IC_stampMark_132 c0_PI_stamp lk_IC_104 in_PI_stamp se_PI_stamp (show 14 + 2 * p < jN by unfold jN; omega) (jshp_pic hp) rfl rfl (Nat.le_of_ble_eq_true rfl) ⟨by decide, by decide, by decide, by decide⟩ (fun m132 h132 => ?_)
          have hb132 := h132
          have hb132 := hb132.symm
          subst hb132
          refine jv_vret (pc := 135) d_IC_stampMark_135 rfl (Nat.zero_le _) (Nat.zero_le _) ?_
          cases H
          exact jU.of rfl
        · have h103 : ¬ ((f_IC_isLower x3 σ) = 0) := h103
          have H := (if_neg h103).symm.trans H
          refine jv_iload 1 (pc := 106) d_IC_stampMark_106 rfl ?_
          refine jv_aload 3 (pc := 108) d_IC_stampMark_108 rfl ?_
          refine jv_geti (pc := 110) d_IC_stampMark_110 fa_IC_115_PI (show 14 + 2 * (4 + (σ 5 x2.toNatClampNeg).toNatClampNeg) < jN by unfold jN; omega) (jshp_pic p16) rfl ?_
          refine jv_isub (pc := 113) d_IC_stampMark_113 ?_
          refine jv_iconst 1 (pc := 114) d_IC_stampMark_114 rfl ?_
          refine jv_iadd (pc := 115) d_IC_stampMark_115 ?_
          refine jv_goto 121 (pc := 116) d_IC_stampMark_116 rfl ?_
          refine jv_istore (pc := 121) d_IC_stampMark_121 (by decide) (jsto_new rfl) ?_
          refine jv_aload_n 6 (pc := 123) d_IC_stampMark_123 rfl ?_
          refine jv_aload 4 (pc := 124) d_IC_stampMark_124 rfl ?_
          refine jv_iload 1 (pc := 126) d_IC_stampMark_126 rfl ?_
          refine jv_iload 0 (pc := 128) d_IC_stampMark_128 rfl ?_
          refine jv_iload 10 (pc := 130) d_IC_stampMark_130 rfl ?_
          obtain ⟨_, n132, c132, H⟩ := jbd_some H
          refine jv_callVv (sp_PI_stamp p (4 + (σ 5 x2.toNatClampNeg).toNatClampNeg) (((σ 7 x2.toNatClampNeg) - (σ (14 + 2 * (4 + (σ 5 x2.toNatClampNeg).toNatClampNeg)) 1)) + (1 : Int32)) (((σ 7 x2.toNatClampNeg) - (σ (14 + 2 * (4 + (σ 5 x2.toNatClampNeg).toNatClampNeg)) 2)) + (1 : Int32)) x5 hp p16 c132) (pc := 132) d_IC_stampMark_132 c0_PI_stamp lk_IC_104 in_PI_stamp se_PI_stamp (show 14 + 2 * p < jN by unfold jN; omega) (jshp_pic hp) rfl rfl (Nat.le_of_ble_eq_true rfl) ⟨by decide, by decide, by decide, by decide⟩ (fun m132 h132 => ?_)
          have hb132 := h132
          have hb132 := hb132.symm
          subst hb132
          refine jv_vret (pc := 135) d_IC_stampMark_135 rfl (Nat.zero_le _) (Nat.zero_le _) ?_
          cases H
          exact jU.of rfl
    · have h49 : ¬ (x4 = 0) := h49
      have H := (if_neg h49).symm.trans H
      refine jv_aload_n 2 (pc := 52) d_IC_stampMark_52 rfl ?_
      refine jv_getr (pc := 53) d_IC_stampMark_53 fa_IC_26_IC (by decide) rfl rfl ?_
      refine jv_getr (pc := 56) d_IC_stampMark_56 fa_IC_190_MR (by decide) rfl rfl ?_
      refine jv_iload_n 4 (pc := 59) d_IC_stampMark_59 rfl ?_
      obtain ⟨b60, H⟩ := jck_some H
      refine jv_iald (pc := 60) d_IC_stampMark_60 (by decide) rfl b60 ?_
      refine jv_goto 73 (pc := 61) d_IC_stampMark_61 rfl ?_
      refine jv_istore (pc := 73) d_IC_stampMark_73 (by decide) (jsto_new rfl) ?_
      refine jv_iload_n 6 (pc := 75) d_IC_stampMark_75 rfl ?_
      refine jv_callSi (sp_IC_isRight x3) (pc := 76) d_IC_stampMark_76 c0_IC_isRight lk_IC_227 si_IC_isRight rfl (Nat.le_of_ble_eq_true rfl) ⟨by decide, by decide, by decide, by decide⟩ (fun r76 m76 h76 => ?_)
      obtain ⟨ha76, hb76⟩ := h76
      subst ha76
      have hb76 := hb76.symm
      subst hb76
      refine jv_if_eq 95 (pc := 79) d_IC_stampMark_79 rfl (fun h79 => ?_) (fun h79 => ?_)
      · have h79 : (f_IC_isRight x3 σ) = 0 := h79
        have H := (if_pos h79).symm.trans H
        refine jv_iload 1 (pc := 95) d_IC_stampMark_95 rfl ?_
        refine jv_istore (pc := 97) d_IC_stampMark_97 (by decide) (jsto_new rfl) ?_
        refine jv_iload_n 7 (pc := 99) d_IC_stampMark_99 rfl ?_
        refine jv_callSi (sp_IC_isLower x3) (pc := 100) d_IC_stampMark_100 c0_IC_isLower lk_IC_224 si_IC_isLower rfl (Nat.le_of_ble_eq_true rfl) ⟨by decide, by decide, by decide, by decide⟩ (fun r100 m100 h100 => ?_)
        obtain ⟨ha100, hb100⟩ := h100
        subst ha100
        have hb100 := hb100.symm
        subst hb100
        refine jv_if_eq 119 (pc := 103) d_IC_stampMark_103 rfl (fun h103 => ?_) (fun h103 => ?_)
        · have h103 : (f_IC_isLower x3 σ) = 0 := h103
          have H := (if_pos h103).symm.trans H
          refine jv_iload 1 (pc := 119) d_IC_stampMark_119 rfl ?_
          refine jv_istore (pc := 121) d_IC_stampMark_121 (by decide) (jsto_new rfl) ?_
          refine jv_aload_n 6 (pc := 123) d_IC_stampMark_123 rfl ?_
          refine jv_aload 4 (pc := 124) d_IC_stampMark_124 rfl ?_
          refine jv_iload 1 (pc := 126) d_IC_stampMark_126 rfl ?_
          refine jv_iload 0 (pc := 128) d_IC_stampMark_128 rfl ?_
          refine jv_iload 10 (pc := 130) d_IC_stampMark_130 rfl ?_
          obtain ⟨_, n132, c132, H⟩ := jbd_some H
          refine jv_callVv (sp_PI_stamp p (4 + (σ 5 x2.toNatClampNeg).toNatClampNeg) (σ 7 x2.toNatClampNeg) (σ 6 x2.toNatClampNeg) x5 hp p16 c132) (pc := 132) d_IC_stampMark_132 c0_PI_stamp lk_IC_104 in_PI_stamp se_PI_stamp (show 14 + 2 * p < jN by unfold jN; omega) (jshp_pic hp) rfl rfl (Nat.le_of_ble_eq_true rfl) ⟨by decide, by decide, by decide, by decide⟩ (fun m132 h132 => ?_)
          have hb132 := h132
          have hb132 := hb132.symm
          subst hb132
          refine jv_vret (pc := 135) d_IC_stampMark_135 rfl (Nat.zero_le _) (Nat.zero_le _) ?_
          cases H
          exact jU.of rfl
        · have h103 : ¬ ((f_IC_isLower x3 σ) = 0) := h103
          have H := (if_neg h103).symm.trans H
          refine jv_iload 1 (pc := 106) d_IC_stampMark_106 rfl ?_
          refine jv_aload 3 (pc := 108) d_IC_stampMark_108 rfl ?_
          refine jv_geti (pc := 110) d_IC_stampMark_110 fa_IC_115_PI (show 14 + 2 * (4 + (σ 5 x2.toNatClampNeg).toNatClampNeg) < jN by unfold jN; omega) (jshp_pic p16) rfl ?_
          refine jv_isub (pc := 113) d_IC_stampMark_113 ?_
          refine jv_iconst 1 (pc := 114) d_IC_stampMark_114 rfl ?_
          refine jv_iadd (pc := 115) d_IC_stampMark_115 ?_
          refine jv_goto 121 (pc := 116) d_IC_stampMark_116 rfl ?_
          refine jv_istore (pc := 121) d_IC_stampMark_121 (by decide) (jsto_new rfl) ?_
          refine jv_aload_n 6 (pc := 123) d_IC_stampMark_123 rfl ?_
          refine jv_aload 4 (pc := 124) d_IC_stampMark_124 rfl ?_
          refine jv_iload 1 (pc := 126) d_IC_stampMark_126 rfl ?_
          refine jv_iload 0 (pc := 128) d_IC_stampMark_128 rfl ?_
          refine jv_iload 10 (pc := 130) d_IC_stampMark_130 rfl ?_
          obtain ⟨_, n132, c132, H⟩ := jbd_some H
          refine jv_callVv (sp_PI_stamp p (4 + (σ 5 x2.toNatClampNeg).toNatClampNeg) (σ 7 x2.toNatClampNeg) (((σ 6 x2.toNatClampNeg) - (σ (14 + 2 * (4 + (σ 5 x2.toNatClampNeg).toNatClampNeg)) 2)) + (1 : Int32)) x5 hp p16 c132) (pc := 132) d_IC_stampMark_132 c0_PI_stamp lk_IC_104 in_PI_stamp se_PI_stamp (show 14 + 2 * p < jN by unfold jN; omega) (jshp_pic hp) rfl rfl (Nat.le_of_ble_eq_true rfl) ⟨by decide, by decide, by decide, by decide⟩ (fun m132 h132 => ?_)
          have hb132 := h132
          have hb132 := hb132.symm
          subst hb132
          refine jv_vret (pc := 135) d_IC_stampMark_135 rfl (Nat.zero_le _) (Nat.zero_le _) ?_
          cases H
          exact jU.of rfl
      · have h79 : ¬ ((f_IC_isRight x3 σ) = 0) := h79
        have H := (if_neg h79).symm.trans H
        refine jv_iload 1 (pc := 82) d_IC_stampMark_82 rfl ?_
        refine jv_aload 2 (pc := 84) d_IC_stampMark_84 rfl ?_
        refine jv_geti (pc := 86) d_IC_stampMark_86 fa_IC_112_PI (show 14 + 2 * (4 + (σ 5 x2.toNatClampNeg).toNatClampNeg) < jN by unfold jN; omega) (jshp_pic p16) rfl ?_
        refine jv_isub (pc := 89) d_IC_stampMark_89 ?_
        refine jv_iconst 1 (pc := 90) d_IC_stampMark_90 rfl ?_
        refine jv_iadd (pc := 91) d_IC_stampMark_91 ?_
        refine jv_goto 97 (pc := 92) d_IC_stampMark_92 rfl ?_
        refine jv_istore (pc := 97) d_IC_stampMark_97 (by decide) (jsto_new rfl) ?_
        refine jv_iload_n 7 (pc := 99) d_IC_stampMark_99 rfl ?_
        refine jv_callSi (sp_IC_isLower x3) (pc := 100) d_IC_stampMark_100 c0_IC_isLower lk_IC_224 si_IC_isLower rfl (Nat.le_of_ble_eq_true rfl) ⟨by decide, by decide, by decide, by decide⟩ (fun r100 m100 h100 => ?_)
        obtain ⟨ha100, hb100⟩ := h100
        subst ha100
        have hb100 := hb100.symm
        subst hb100
        refine jv_if_eq 119 (pc := 103) d_IC_stampMark_103 rfl (fun h103 => ?_) (fun h103 => ?_)
        · have h103 : (f_IC_isLower x3 σ) = 0 := h103
          have H := (if_pos h103).symm.trans H
          refine jv_iload 1 (pc := 119) d_IC_stampMark_119 rfl ?_
          refine jv_istore (pc := 121) d_IC_stampMark_121 (by decide) (jsto_new rfl) ?_
          refine jv_aload_n 6 (pc := 123) d_IC_stampMark_123 rfl ?_
          refine jv_aload 4 (pc := 124) d_IC_stampMark_124 rfl ?_
          refine jv_iload 1 (pc := 126) d_IC_stampMark_126 rfl ?_
          refine jv_iload 0 (pc := 128) d_IC_stampMark_128 rfl ?_
          refine jv_iload 10 (pc := 130) d_IC_stampMark_130 rfl ?_
          obtain ⟨_, n132, c132, H⟩ := jbd_some H
          refine jv_callVv (sp_PI_stamp p (4 + (σ 5 x2.toNatClampNeg).toNatClampNeg) (((σ 7 x2.toNatClampNeg) - (σ (14 + 2 * (4 + (σ 5 x2.toNatClampNeg).toNatClampNeg)) 1)) + (1 : Int32)) (σ 6 x2.toNatClampNeg) x5 hp p16 c132) (pc := 132) d_IC_stampMark_132 c0_PI_stamp lk_IC_104 in_PI_stamp se_PI_stamp (show 14 + 2 * p < jN by unfold jN; omega) (jshp_pic hp) rfl rfl (Nat.le_of_ble_eq_true rfl) ⟨by decide, by decide, by decide, by decide⟩ (fun m132 h132 => ?_)
          have hb132 := h132
          have hb132 := hb132.symm
          subst hb132
          refine jv_vret (pc := 135) d_IC_stampMark_135 rfl (Nat.zero_le _) (Nat.zero_le _) ?_
          cases H
          exact jU.of rfl
        · have h103 : ¬ ((f_IC_isLower x3 σ) = 0) := h103
          have H := (if_neg h103).symm.trans H
          refine jv_iload 1 (pc := 106) d_IC_stampMark_106 rfl ?_
          refine jv_aload 3 (pc := 108) d_IC_stampMark_108 rfl ?_
          refine jv_geti (pc := 110) d_IC_stampMark_110 fa_IC_115_PI (show 14 + 2 * (4 + (σ 5 x2.toNatClampNeg).toNatClampNeg) < jN by unfold jN; omega) (jshp_pic p16) rfl ?_
          refine jv_isub (pc := 113) d_IC_stampMark_113 ?_
          refine jv_iconst 1 (pc := 114) d_IC_stampMark_114 rfl ?_
          refine jv_iadd (pc := 115) d_IC_stampMark_115 ?_
          refine jv_goto 121 (pc := 116) d_IC_stampMark_116 rfl ?_
          refine jv_istore (pc := 121) d_IC_stampMark_121 (by decide) (jsto_new rfl) ?_
          refine jv_aload_n 6 (pc := 123) d_IC_stampMark_123 rfl ?_
          refine jv_aload 4 (pc := 124) d_IC_stampMark_124 rfl ?_
          refine jv_iload 1 (pc := 126) d_IC_stampMark_126 rfl ?_
          refine jv_iload 0 (pc := 128) d_IC_stampMark_128 rfl ?_
          refine jv_iload 10 (pc := 130) d_IC_stampMark_130 rfl ?_
          obtain ⟨_, n132, c132, H⟩ := jbd_some H
          refine jv_callVv (sp_PI_stamp p (4 + (σ 5 x2.toNatClampNeg).toNatClampNeg) (((σ 7 x2.toNatClampNeg) - (σ (14 + 2 * (4 + (σ 5 x2.toNatClampNeg).toNatClampNeg)) 1)) + (1 : Int32)) (((σ 6 x2.toNatClampNeg) - (σ (14 + 2 * (4 + (σ 5 x2.toNatClampNeg).toNatClampNeg)) 2)) + (1 : Int32)) x5 hp p16 c132) (pc := 132) d_IC_stampMark_132 c0_PI_stamp lk_IC_104 in_PI_stamp se_PI_stamp (show 14 + 2 * p < jN by unfold jN; omega) (jshp_pic hp) rfl rfl (Nat.le_of_ble_eq_true rfl) ⟨by decide, by decide, by decide, by decide⟩ (fun m132 h132 => ?_)
          have hb132 := h132
          have hb132 := hb132.symm
          subst hb132
          refine jv_vret (pc := 135) d_IC_stampMark_135 rfl (Nat.zero_le _) (Nat.zero_le _) ?_
          cases H
          exact jU.of rfl
set_option maxRecDepth 40000 in
set_option maxHeartbeats 8000000 in
theorem lp_IC_codeSymbols_42W {G : jG} : ∀ (n : Nat) (x2 x3 x4 x5 x6 : Int32) (σ τ : jMem) (r : Int32), f_IC_codeSymbols_L42W n x2 x3 x4 x5 x6 σ = some (r, τ) → jV G M_IC_codeSymbols (jr 6 0 0) (jI fun r9 τ9 => r9 = r ∧ τ9 = τ) 0 0 42 [(0, .ref 0), (1, .ref 12), (2, .int x2), (3, .int x3), (4, .int x4), (5, .int x5), (6, .int x6)] [] σ := by
  intro n
  induction n with
  | zero =>
    intro x2 x3 x4 x5 x6 σ τ r H
    cases H
  | succ n ih =>
    intro x2 x3 x4 x5 x6 σ τ r H
    rw [f_IC_codeSymbols_L42W.eq_2] at H
    refine jv_iload 6 (pc := 42) d_IC_codeSymbols_42 rfl ?_
    refine jv_iload_n 2 (pc := 44) d_IC_codeSymbols_44 rfl ?_
    refine jv_icmp_ge 241 (pc := 45) d_IC_codeSymbols_45 rfl (fun h45 => ?_) (fun h45 => ?_)
    · have h45 : x2 ≤ x6 := h45
      have H := (if_pos h45).symm.trans H
      refine jv_iload 5 (pc := 241) d_IC_codeSymbols_241 rfl ?_
      refine jv_ldc (-2147483648) (pc := 243) d_IC_codeSymbols_243 (jin3 99 rfl rfl) ?_
      refine jv_icmp_ne 252 (pc := 245) d_IC_codeSymbols_245 rfl (fun h245 => ?_) (fun h245 => ?_)
      · have h245 : ¬ (x5 = (-2147483648 : Int32)) := h245
        have H := (if_neg h245).symm.trans H
        refine jv_iconst (-1) (pc := 252) d_IC_codeSymbols_252 rfl ?_
        refine jv_iret (pc := 253) d_IC_codeSymbols_253 rfl rfl (Nat.zero_le _) (Nat.zero_le _) ?_
        cases H
        exact jI.of ⟨rfl, rfl⟩
      · have h245 : x5 = (-2147483648 : Int32) := h245
        have H := (if_pos h245).symm.trans H
        refine jv_iload_n 2 (pc := 248) d_IC_codeSymbols_248 rfl ?_
        refine jv_goto 253 (pc := 249) d_IC_codeSymbols_249 rfl ?_
        refine jv_iret (pc := 253) d_IC_codeSymbols_253 rfl rfl (Nat.zero_le _) (Nat.zero_le _) ?_
        cases H
        exact jI.of ⟨rfl, rfl⟩
    · have h45 : ¬ (x2 ≤ x6) := h45
      have H := (if_neg h45).symm.trans H
      refine jv_aload_n 0 (pc := 48) d_IC_codeSymbols_48 rfl ?_
      refine jv_getr (pc := 49) d_IC_codeSymbols_49 fa_IC_19_IC (by decide) rfl rfl ?_
      refine jv_getr (pc := 52) d_IC_codeSymbols_52 fa_IC_170_SR (by decide) rfl rfl ?_
      refine jv_iload 6 (pc := 55) d_IC_codeSymbols_55 rfl ?_
      obtain ⟨b57, H⟩ := jck_some H
      have p57 : (4 + x6.toNatClampNeg) < 12 := jsy12 b57
      refine jv_aald (pc := 57) d_IC_codeSymbols_57 (by decide) rfl b57 (jsy b57) ?_
      refine jv_astore (pc := 58) d_IC_codeSymbols_58 (by decide) (jsto_new rfl) ?_
      refine jv_iload 6 (pc := 60) d_IC_codeSymbols_60 rfl ?_
      refine jv_ldc (-2147483648) (pc := 62) d_IC_codeSymbols_62 (jin3 99 rfl rfl) ?_
      refine jv_icmp_ne 117 (pc := 64) d_IC_codeSymbols_64 rfl (fun h64 => ?_) (fun h64 => ?_)
      · have h64 : ¬ (x5 = (-2147483648 : Int32)) := h64
        have H := (if_neg h64).symm.trans H
        refine jv_iload 5 (pc := 117) d_IC_codeSymbols_117 rfl ?_
        refine jv_iload 6 (pc := 119) d_IC_codeSymbols_119 rfl ?_
        refine jv_iadd (pc := 121) d_IC_codeSymbols_121 ?_
        refine jv_istore (pc := 122) d_IC_codeSymbols_122 (by decide) (jst5 rfl) ?_
        refine jv_iload 6 (pc := 124) d_IC_codeSymbols_124 rfl ?_
        refine jv_ldc (-2147483648) (pc := 126) d_IC_codeSymbols_126 (jin3 99 rfl rfl) ?_
        refine jv_icmp_eq 139 (pc := 128) d_IC_codeSymbols_128 rfl (fun h128 => ?_) (fun h128 => ?_)
        · have h128 : x5 = (-2147483648 : Int32) := h128
          have H := (if_pos h128).symm.trans H
          refine jv_iconst (-1) (pc := 139) d_IC_codeSymbols_139 rfl ?_
          refine jv_iret (pc := 140) d_IC_codeSymbols_140 rfl rfl (Nat.zero_le _) (Nat.zero_le _) ?_
          cases H
          exact jI.of ⟨rfl, rfl⟩
        · have h128 : ¬ (x5 = (-2147483648 : Int32)) := h128
          have H := (if_neg h128).symm.trans H
          refine jv_iload 5 (pc := 131) d_IC_codeSymbols_131 rfl ?_
          refine jv_callSi (sp_IC_isSide (x4 + x5)) (pc := 133) d_IC_codeSymbols_133 c0_IC_isSide lk_IC_68 si_IC_isSide rfl (Nat.le_of_ble_eq_true rfl) ⟨by decide, by decide, by decide, by decide⟩ (fun r133 m133 h133 => ?_)
          obtain ⟨ha133, hb133⟩ := h133
          subst ha133
          have hb133 := hb133.symm
          subst hb133
          refine jv_if_ne 141 (pc := 136) d_IC_codeSymbols_136 rfl (fun h136 => ?_) (fun h136 => ?_)
          · have h136 : ¬ ((f_IC_isSide (x4 + x5) σ) = 0) := h136
            have H := (if_neg h136).symm.trans H
            refine jv_aload_n 1 (pc := 141) d_IC_codeSymbols_141 rfl ?_
            refine jv_geti (pc := 142) d_IC_codeSymbols_142 fa_IC_60_IC (by decide) rfl rfl ?_
            refine jv_iconst 2 (pc := 145) d_IC_codeSymbols_145 rfl ?_
            refine jv_icmp_ne 157 (pc := 146) d_IC_codeSymbols_146 rfl (fun h146 => ?_) (fun h146 => ?_)
            · have h146 : ¬ ((σ 0 7) = (2 : Int32)) := h146
              have H := (if_neg h146).symm.trans H
              refine jv_aload_n 2 (pc := 157) d_IC_codeSymbols_157 rfl ?_
              refine jv_aload 0 (pc := 158) d_IC_codeSymbols_158 rfl ?_
              refine jv_iconst 2 (pc := 160) d_IC_codeSymbols_160 rfl ?_
              refine jv_iconst 0 (pc := 161) d_IC_codeSymbols_161 rfl ?_
              obtain ⟨v162, n162, c162, H⟩ := jbd_some H
              refine jv_callSi (sp_PT_codeRegion_W (4 + x6.toNatClampNeg) (2 : Int32) (0 : Int32) p57 c162) (pc := 162) d_IC_codeSymbols_162 c0_PT_codeRegion lk_IC_144 si_PT_codeRegion rfl (Nat.le_of_ble_eq_true rfl) ⟨by decide, by decide, by decide, by decide⟩ (fun r162 m162 h162 => ?_)
              obtain ⟨ha162, hb162⟩ := h162
              have ha162 := ha162.symm
              subst ha162
              have hb162 := hb162.symm
              subst hb162
              refine jv_pop (pc := 165) d_IC_codeSymbols_165 rfl ?_
              refine jv_iload 7 (pc := 166) d_IC_codeSymbols_166 rfl ?_
              refine jv_iconst 1 (pc := 168) d_IC_codeSymbols_168 rfl ?_
              refine jv_iadd (pc := 169) d_IC_codeSymbols_169 ?_
              refine jv_iload_n 3 (pc := 170) d_IC_codeSymbols_170 rfl ?_
              refine jv_icmp_ge 197 (pc := 171) d_IC_codeSymbols_171 rfl (fun h171 => ?_) (fun h171 => ?_)
              · have h171 : x2 ≤ (x6 + (1 : Int32)) := h171
                have H := (if_pos h171).symm.trans H
                refine jv_iconst 0 (pc := 197) d_IC_codeSymbols_197 rfl ?_
                refine jv_istore (pc := 198) d_IC_codeSymbols_198 (by decide) (jsto_new rfl) ?_
                refine jv_aload_n 3 (pc := 200) d_IC_codeSymbols_200 rfl ?_
                refine jv_iconst 5 (pc := 201) d_IC_codeSymbols_201 rfl ?_
                refine jv_iload 0 (pc := 202) d_IC_codeSymbols_202 rfl ?_
                refine jv_if_eq 228 (pc := 204) d_IC_codeSymbols_204 rfl (fun h204 => ?_) (fun h204 => absurd (show (0 : Int32) = 0 by decide) (show ¬ ((0 : Int32) = 0) from h204))
                refine jv_ldc (-2147483648) (pc := 228) d_IC_codeSymbols_228 (jin3 99 rfl rfl) ?_
                obtain ⟨v230, n230, c230, H⟩ := jbd_some H
                refine jv_callSi (sp_NU_codeNumber_W (5 : Int32) (-2147483648 : Int32) c230) (pc := 230) d_IC_codeSymbols_230 c0_NU_codeNumber lk_IC_160 si_NU_codeNumber rfl (Nat.le_of_ble_eq_true rfl) ⟨by decide, by decide, by decide, by decide⟩ (fun r230 m230 h230 => ?_)
                obtain ⟨ha230, hb230⟩ := h230
                have ha230 := ha230.symm
                subst ha230
                have hb230 := hb230.symm
                subst hb230
                refine jv_istore (pc := 233) d_IC_codeSymbols_233 (by decide) (jst7 rfl) ?_
                refine jv_iinc 8 _ (pc := 235) d_IC_codeSymbols_235 rfl (jinc1 _) (by decide) (jst8 rfl) ?_
                refine jv_goto 42 (pc := 238) d_IC_codeSymbols_238 rfl ?_
                exact jv_sub [2, 3, 4, 5, 6, 7, 8] rfl (ih x2 x3 (x4 + x5) v230 (x6 + 1) _ _ _ H)
              · have h171 : ¬ (x2 ≤ (x6 + (1 : Int32))) := h171
                have H := (if_neg h171).symm.trans H
                refine jv_aload_n 1 (pc := 174) d_IC_codeSymbols_174 rfl ?_
                refine jv_getr (pc := 175) d_IC_codeSymbols_175 fa_IC_19_IC (by decide) rfl rfl ?_
                refine jv_getr (pc := 178) d_IC_codeSymbols_178 fa_IC_170_SR (by decide) rfl rfl ?_
                refine jv_iload 7 (pc := 181) d_IC_codeSymbols_181 rfl ?_
                refine jv_iconst 1 (pc := 183) d_IC_codeSymbols_183 rfl ?_
                refine jv_iadd (pc := 184) d_IC_codeSymbols_184 ?_
                obtain ⟨b185, H⟩ := jck_some H
                have p185 : (4 + (x6 + (1 : Int32)).toNatClampNeg) < 12 := jsy12 b185
                refine jv_aald (pc := 185) d_IC_codeSymbols_185 (by decide) rfl b185 (jsy b185) ?_
                refine jv_geti (pc := 186) d_IC_codeSymbols_186 fa_IC_115_PI (show 14 + 2 * (4 + (x6 + (1 : Int32)).toNatClampNeg) < jN by unfold jN; omega) (jshp_pic p185) rfl ?_
                refine jv_iload_n 4 (pc := 189) d_IC_codeSymbols_189 rfl ?_
                refine jv_icmp_ne 197 (pc := 190) d_IC_codeSymbols_190 rfl (fun h190 => ?_) (fun h190 => ?_)
                · have h190 : ¬ ((n162 (14 + 2 * (4 + (x6 + (1 : Int32)).toNatClampNeg)) 2) = x3) := h190
                  have H := (if_neg h190).symm.trans H
                  refine jv_iconst 0 (pc := 197) d_IC_codeSymbols_197 rfl ?_
                  refine jv_istore (pc := 198) d_IC_codeSymbols_198 (by decide) (jsto_new rfl) ?_
                  refine jv_aload_n 3 (pc := 200) d_IC_codeSymbols_200 rfl ?_
                  refine jv_iconst 5 (pc := 201) d_IC_codeSymbols_201 rfl ?_
                  refine jv_iload 0 (pc := 202) d_IC_codeSymbols_202 rfl ?_
                  refine jv_if_eq 228 (pc := 204) d_IC_codeSymbols_204 rfl (fun h204 => ?_) (fun h204 => absurd (show (0 : Int32) = 0 by decide) (show ¬ ((0 : Int32) = 0) from h204))
                  refine jv_ldc (-2147483648) (pc := 228) d_IC_codeSymbols_228 (jin3 99 rfl rfl) ?_
                  obtain ⟨v230, n230, c230, H⟩ := jbd_some H
                  refine jv_callSi (sp_NU_codeNumber_W (5 : Int32) (-2147483648 : Int32) c230) (pc := 230) d_IC_codeSymbols_230 c0_NU_codeNumber lk_IC_160 si_NU_codeNumber rfl (Nat.le_of_ble_eq_true rfl) ⟨by decide, by decide, by decide, by decide⟩ (fun r230 m230 h230 => ?_)
                  obtain ⟨ha230, hb230⟩ := h230
                  have ha230 := ha230.symm
                  subst ha230
                  have hb230 := hb230.symm
                  subst hb230
                  refine jv_istore (pc := 233) d_IC_codeSymbols_233 (by decide) (jst7 rfl) ?_
                  refine jv_iinc 8 _ (pc := 235) d_IC_codeSymbols_235 rfl (jinc1 _) (by decide) (jst8 rfl) ?_
                  refine jv_goto 42 (pc := 238) d_IC_codeSymbols_238 rfl ?_
                  exact jv_sub [2, 3, 4, 5, 6, 7, 8] rfl (ih x2 x3 (x4 + x5) v230 (x6 + 1) _ _ _ H)
                · have h190 : (n162 (14 + 2 * (4 + (x6 + (1 : Int32)).toNatClampNeg)) 2) = x3 := h190
                  have H := (if_pos h190).symm.trans H
                  refine jv_iconst 1 (pc := 193) d_IC_codeSymbols_193 rfl ?_
                  refine jv_goto 198 (pc := 194) d_IC_codeSymbols_194 rfl ?_
                  refine jv_istore (pc := 198) d_IC_codeSymbols_198 (by decide) (jsto_new rfl) ?_
                  refine jv_aload_n 3 (pc := 200) d_IC_codeSymbols_200 rfl ?_
                  refine jv_iconst 5 (pc := 201) d_IC_codeSymbols_201 rfl ?_
                  refine jv_iload 0 (pc := 202) d_IC_codeSymbols_202 rfl ?_
                  refine jv_if_eq 228 (pc := 204) d_IC_codeSymbols_204 rfl (fun h204 => absurd (show (1 : Int32) = 0 from h204) (by decide)) (fun h204 => ?_)
                  refine jv_aload_n 2 (pc := 207) d_IC_codeSymbols_207 rfl ?_
                  refine jv_getr (pc := 208) d_IC_codeSymbols_208 fa_IC_19_IC (by decide) rfl rfl ?_
                  refine jv_getr (pc := 211) d_IC_codeSymbols_211 fa_IC_170_SR (by decide) rfl rfl ?_
                  refine jv_iload 8 (pc := 214) d_IC_codeSymbols_214 rfl ?_
                  refine jv_iconst 1 (pc := 216) d_IC_codeSymbols_216 rfl ?_
                  refine jv_iadd (pc := 217) d_IC_codeSymbols_217 ?_
                  obtain ⟨b218, H⟩ := jck_some H
                  have p218 : (4 + (x6 + (1 : Int32)).toNatClampNeg) < 12 := jsy12 b218
                  refine jv_aald (pc := 218) d_IC_codeSymbols_218 (by decide) rfl b218 (jsy b218) ?_
                  refine jv_geti (pc := 219) d_IC_codeSymbols_219 fa_IC_112_PI (show 14 + 2 * (4 + (x6 + (1 : Int32)).toNatClampNeg) < jN by unfold jN; omega) (jshp_pic p218) rfl ?_
                  refine jv_iload 6 (pc := 222) d_IC_codeSymbols_222 rfl ?_
                  refine jv_isub (pc := 224) d_IC_codeSymbols_224 ?_
                  refine jv_goto 230 (pc := 225) d_IC_codeSymbols_225 rfl ?_
                  obtain ⟨v230, n230, c230, H⟩ := jbd_some H
                  refine jv_callSi (sp_NU_codeNumber_W (5 : Int32) ((n162 (14 + 2 * (4 + (x6 + (1 : Int32)).toNatClampNeg)) 1) - (x4 + x5)) c230) (pc := 230) d_IC_codeSymbols_230 c0_NU_codeNumber lk_IC_160 si_NU_codeNumber rfl (Nat.le_of_ble_eq_true rfl) ⟨by decide, by decide, by decide, by decide⟩ (fun r230 m230 h230 => ?_)
                  obtain ⟨ha230, hb230⟩ := h230
                  have ha230 := ha230.symm
                  subst ha230
                  have hb230 := hb230.symm
                  subst hb230
                  refine jv_istore (pc := 233) d_IC_codeSymbols_233 (by decide) (jst7 rfl) ?_
                  refine jv_iinc 8 _ (pc := 235) d_IC_codeSymbols_235 rfl (jinc1 _) (by decide) (jst8 rfl) ?_
                  refine jv_goto 42 (pc := 238) d_IC_codeSymbols_238 rfl ?_
                  exact jv_sub [2, 3, 4, 5, 6, 7, 8] rfl (ih x2 x3 (x4 + x5) v230 (x6 + 1) _ _ _ H)
            · have h146 : (σ 0 7) = (2 : Int32) := h146
              have H := (if_pos h146).symm.trans H
              refine jv_aload 0 (pc := 149) d_IC_codeSymbols_149 rfl ?_
              refine jv_iload 5 (pc := 151) d_IC_codeSymbols_151 rfl ?_
              refine jv_iload_n 4 (pc := 153) d_IC_codeSymbols_153 rfl ?_
              obtain ⟨_, n154, c154, H⟩ := jbd_some H
              refine jv_callVv (sp_PI_blank (4 + x6.toNatClampNeg) (x4 + x5) x3 p57 c154) (pc := 154) d_IC_codeSymbols_154 c0_PI_blank lk_IC_75 in_PI_blank se_PI_blank (show 14 + 2 * (4 + x6.toNatClampNeg) < jN by unfold jN; omega) (jshp_pic p57) rfl rfl (Nat.le_of_ble_eq_true rfl) ⟨by decide, by decide, by decide, by decide⟩ (fun m154 h154 => ?_)
              have hb154 := h154
              have hb154 := hb154.symm
              subst hb154
              refine jv_aload_n 2 (pc := 157) d_IC_codeSymbols_157 rfl ?_
              refine jv_aload 0 (pc := 158) d_IC_codeSymbols_158 rfl ?_
              refine jv_iconst 2 (pc := 160) d_IC_codeSymbols_160 rfl ?_
              refine jv_iconst 0 (pc := 161) d_IC_codeSymbols_161 rfl ?_
              obtain ⟨v162, n162, c162, H⟩ := jbd_some H
              refine jv_callSi (sp_PT_codeRegion_W (4 + x6.toNatClampNeg) (2 : Int32) (0 : Int32) p57 c162) (pc := 162) d_IC_codeSymbols_162 c0_PT_codeRegion lk_IC_144 si_PT_codeRegion rfl (Nat.le_of_ble_eq_true rfl) ⟨by decide, by decide, by decide, by decide⟩ (fun r162 m162 h162 => ?_)
              obtain ⟨ha162, hb162⟩ := h162
              have ha162 := ha162.symm
              subst ha162
              have hb162 := hb162.symm
              subst hb162
              refine jv_pop (pc := 165) d_IC_codeSymbols_165 rfl ?_
              refine jv_iload 7 (pc := 166) d_IC_codeSymbols_166 rfl ?_
              refine jv_iconst 1 (pc := 168) d_IC_codeSymbols_168 rfl ?_
              refine jv_iadd (pc := 169) d_IC_codeSymbols_169 ?_
              refine jv_iload_n 3 (pc := 170) d_IC_codeSymbols_170 rfl ?_
              refine jv_icmp_ge 197 (pc := 171) d_IC_codeSymbols_171 rfl (fun h171 => ?_) (fun h171 => ?_)
              · have h171 : x2 ≤ (x6 + (1 : Int32)) := h171
                have H := (if_pos h171).symm.trans H
                refine jv_iconst 0 (pc := 197) d_IC_codeSymbols_197 rfl ?_
                refine jv_istore (pc := 198) d_IC_codeSymbols_198 (by decide) (jsto_new rfl) ?_
                refine jv_aload_n 3 (pc := 200) d_IC_codeSymbols_200 rfl ?_
                refine jv_iconst 5 (pc := 201) d_IC_codeSymbols_201 rfl ?_
                refine jv_iload 0 (pc := 202) d_IC_codeSymbols_202 rfl ?_
                refine jv_if_eq 228 (pc := 204) d_IC_codeSymbols_204 rfl (fun h204 => ?_) (fun h204 => absurd (show (0 : Int32) = 0 by decide) (show ¬ ((0 : Int32) = 0) from h204))
                refine jv_ldc (-2147483648) (pc := 228) d_IC_codeSymbols_228 (jin3 99 rfl rfl) ?_
                obtain ⟨v230, n230, c230, H⟩ := jbd_some H
                refine jv_callSi (sp_NU_codeNumber_W (5 : Int32) (-2147483648 : Int32) c230) (pc := 230) d_IC_codeSymbols_230 c0_NU_codeNumber lk_IC_160 si_NU_codeNumber rfl (Nat.le_of_ble_eq_true rfl) ⟨by decide, by decide, by decide, by decide⟩ (fun r230 m230 h230 => ?_)
                obtain ⟨ha230, hb230⟩ := h230
                have ha230 := ha230.symm
                subst ha230
                have hb230 := hb230.symm
                subst hb230
                refine jv_istore (pc := 233) d_IC_codeSymbols_233 (by decide) (jst7 rfl) ?_
                refine jv_iinc 8 _ (pc := 235) d_IC_codeSymbols_235 rfl (jinc1 _) (by decide) (jst8 rfl) ?_
                refine jv_goto 42 (pc := 238) d_IC_codeSymbols_238 rfl ?_
                exact jv_sub [2, 3, 4, 5, 6, 7, 8] rfl (ih x2 x3 (x4 + x5) v230 (x6 + 1) _ _ _ H)
              · have h171 : ¬ (x2 ≤ (x6 + (1 : Int32))) := h171
                have H := (if_neg h171).symm.trans H
                refine jv_aload_n 1 (pc := 174) d_IC_codeSymbols_174 rfl ?_
                refine jv_getr (pc := 175) d_IC_codeSymbols_175 fa_IC_19_IC (by decide) rfl rfl ?_
                refine jv_getr (pc := 178) d_IC_codeSymbols_178 fa_IC_170_SR (by decide) rfl rfl ?_
                refine jv_iload 7 (pc := 181) d_IC_codeSymbols_181 rfl ?_
                refine jv_iconst 1 (pc := 183) d_IC_codeSymbols_183 rfl ?_
                refine jv_iadd (pc := 184) d_IC_codeSymbols_184 ?_
                obtain ⟨b185, H⟩ := jck_some H
                have p185 : (4 + (x6 + (1 : Int32)).toNatClampNeg) < 12 := jsy12 b185
                refine jv_aald (pc := 185) d_IC_codeSymbols_185 (by decide) rfl b185 (jsy b185) ?_
                refine jv_geti (pc := 186) d_IC_codeSymbols_186 fa_IC_115_PI (show 14 + 2 * (4 + (x6 + (1 : Int32)).toNatClampNeg) < jN by unfold jN; omega) (jshp_pic p185) rfl ?_
                refine jv_iload_n 4 (pc := 189) d_IC_codeSymbols_189 rfl ?_
                refine jv_icmp_ne 197 (pc := 190) d_IC_codeSymbols_190 rfl (fun h190 => ?_) (fun h190 => ?_)
                · have h190 : ¬ ((n162 (14 + 2 * (4 + (x6 + (1 : Int32)).toNatClampNeg)) 2) = x3) := h190
                  have H := (if_neg h190).symm.trans H
                  refine jv_iconst 0 (pc := 197) d_IC_codeSymbols_197 rfl ?_
                  refine jv_istore (pc := 198) d_IC_codeSymbols_198 (by decide) (jsto_new rfl) ?_
                  refine jv_aload_n 3 (pc := 200) d_IC_codeSymbols_200 rfl ?_
                  refine jv_iconst 5 (pc := 201) d_IC_codeSymbols_201 rfl ?_
                  refine jv_iload 0 (pc := 202) d_IC_codeSymbols_202 rfl ?_
                  refine jv_if_eq 228 (pc := 204) d_IC_codeSymbols_204 rfl (fun h204 => ?_) (fun h204 => absurd (show (0 : Int32) = 0 by decide) (show ¬ ((0 : Int32) = 0) from h204))
                  refine jv_ldc (-2147483648) (pc := 228) d_IC_codeSymbols_228 (jin3 99 rfl rfl) ?_
                  obtain ⟨v230, n230, c230, H⟩ := jbd_some H
                  refine jv_callSi (sp_NU_codeNumber_W (5 : Int32) (-2147483648 : Int32) c230) (pc := 230) d_IC_codeSymbols_230 c0_NU_codeNumber lk_IC_160 si_NU_codeNumber rfl (Nat.le_of_ble_eq_true rfl) ⟨by decide, by decide, by decide, by decide⟩ (fun r230 m230 h230 => ?_)
                  obtain ⟨ha230, hb230⟩ := h230
                  have ha230 := ha230.symm
                  subst ha230
                  have hb230 := hb230.symm
                  subst hb230
                  refine jv_istore (pc := 233) d_IC_codeSymbols_233 (by decide) (jst7 rfl) ?_
                  refine jv_iinc 8 _ (pc := 235) d_IC_codeSymbols_235 rfl (jinc1 _) (by decide) (jst8 rfl) ?_
                  refine jv_goto 42 (pc := 238) d_IC_codeSymbols_238 rfl ?_
                  exact jv_sub [2, 3, 4, 5, 6, 7, 8] rfl (ih x2 x3 (x4 + x5) v230 (x6 + 1) _ _ _ H)
                · have h190 : (n162 (14 + 2 * (4 + (x6 + (1 : Int32)).toNatClampNeg)) 2) = x3 := h190
                  have H := (if_pos h190).symm.trans H
                  refine jv_iconst 1 (pc := 193) d_IC_codeSymbols_193 rfl ?_
                  refine jv_goto 198 (pc := 194) d_IC_codeSymbols_194 rfl ?_
                  refine jv_istore (pc := 198) d_IC_codeSymbols_198 (by decide) (jsto_new rfl) ?_
                  refine jv_aload_n 3 (pc := 200) d_IC_codeSymbols_200 rfl ?_
                  refine jv_iconst 5 (pc := 201) d_IC_codeSymbols_201 rfl ?_
                  refine jv_iload 0 (pc := 202) d_IC_codeSymbols_202 rfl ?_
                  refine jv_if_eq 228 (pc := 204) d_IC_codeSymbols_204 rfl (fun h204 => absurd (show (1 : Int32) = 0 from h204) (by decide)) (fun h204 => ?_)
                  refine jv_aload_n 2 (pc := 207) d_IC_codeSymbols_207 rfl ?_
                  refine jv_getr (pc := 208) d_IC_codeSymbols_208 fa_IC_19_IC (by decide) rfl rfl ?_
                  refine jv_getr (pc := 211) d_IC_codeSymbols_211 fa_IC_170_SR (by decide) rfl rfl ?_
                  refine jv_iload 8 (pc := 214) d_IC_codeSymbols_214 rfl ?_
                  refine jv_iconst 1 (pc := 216) d_IC_codeSymbols_216 rfl ?_
                  refine jv_iadd (pc := 217) d_IC_codeSymbols_217 ?_
                  obtain ⟨b218, H⟩ := jck_some H
                  have p218 : (4 + (x6 + (1 : Int32)).toNatClampNeg) < 12 := jsy12 b218
                  refine jv_aald (pc := 218) d_IC_codeSymbols_218 (by decide) rfl b218 (jsy b218) ?_
                  refine jv_geti (pc := 219) d_IC_codeSymbols_219 fa_IC_112_PI (show 14 + 2 * (4 + (x6 + (1 : Int32)).toNatClampNeg) < jN by unfold jN; omega) (jshp_pic p218) rfl ?_
                  refine jv_iload 6 (pc := 222) d_IC_codeSymbols_222 rfl ?_
                  refine jv_isub (pc := 224) d_IC_codeSymbols_224 ?_
                  refine jv_goto 230 (pc := 225) d_IC_codeSymbols_225 rfl ?_
                  obtain ⟨v230, n230, c230, H⟩ := jbd_some H
                  refine jv_callSi (sp_NU_codeNumber_W (5 : Int32) ((n162 (14 + 2 * (4 + (x6 + (1 : Int32)).toNatClampNeg)) 1) - (x4 + x5)) c230) (pc := 230) d_IC_codeSymbols_230 c0_NU_codeNumber lk_IC_160 si_NU_codeNumber rfl (Nat.le_of_ble_eq_true rfl) ⟨by decide, by decide, by decide, by decide⟩ (fun r230 m230 h230 => ?_)
                  obtain ⟨ha230, hb230⟩ := h230
                  have ha230 := ha230.symm
                  subst ha230
                  have hb230 := hb230.symm
                  subst hb230
                  refine jv_istore (pc := 233) d_IC_codeSymbols_233 (by decide) (jst7 rfl) ?_
                  refine jv_iinc 8 _ (pc := 235) d_IC_codeSymbols_235 rfl (jinc1 _) (by decide) (jst8 rfl) ?_
                  refine jv_goto 42 (pc := 238) d_IC_codeSymbols_238 rfl ?_
                  exact jv_sub [2, 3, 4, 5, 6, 7, 8] rfl (ih x2 x3 (x4 + x5) v230 (x6 + 1) _ _ _ H)
          · have h136 : (f_IC_isSide (x4 + x5) σ) = 0 := h136
            have H := (if_pos h136).symm.trans H
            refine jv_iconst (-1) (pc := 139) d_IC_codeSymbols_139 rfl ?_
            refine jv_iret (pc := 140) d_IC_codeSymbols_140 rfl rfl (Nat.zero_le _) (Nat.zero_le _) ?_
            cases H
            exact jI.of ⟨rfl, rfl⟩
      · have h64 : x5 = (-2147483648 : Int32) := h64
        have H := (if_pos h64).symm.trans H
        refine jv_aload_n 2 (pc := 67) d_IC_codeSymbols_67 rfl ?_
        refine jv_iconst 4 (pc := 68) d_IC_codeSymbols_68 rfl ?_
        refine jv_aload 0 (pc := 69) d_IC_codeSymbols_69 rfl ?_
        refine jv_geti (pc := 71) d_IC_codeSymbols_71 fa_IC_115_PI (show 14 + 2 * (4 + x6.toNatClampNeg) < jN by unfold jN; omega) (jshp_pic p57) rfl ?_
        refine jv_iload_n 4 (pc := 74) d_IC_codeSymbols_74 rfl ?_
        refine jv_isub (pc := 75) d_IC_codeSymbols_75 ?_
        obtain ⟨v76, n76, c76, H⟩ := jbd_some H
        refine jv_callSi (sp_NU_codeNumber_W (4 : Int32) ((σ (14 + 2 * (4 + x6.toNatClampNeg)) 2) - x3) c76) (pc := 76) d_IC_codeSymbols_76 c0_NU_codeNumber lk_IC_160 si_NU_codeNumber rfl (Nat.le_of_ble_eq_true rfl) ⟨by decide, by decide, by decide, by decide⟩ (fun r76 m76 h76 => ?_)
        obtain ⟨ha76, hb76⟩ := h76
        have ha76 := ha76.symm
        subst ha76
        have hb76 := hb76.symm
        subst hb76
        refine jv_istore (pc := 79) d_IC_codeSymbols_79 (by decide) (jsto_new rfl) ?_
        refine jv_iload_n 5 (pc := 81) d_IC_codeSymbols_81 rfl ?_
        refine jv_iload 0 (pc := 82) d_IC_codeSymbols_82 rfl ?_
        refine jv_iadd (pc := 84) d_IC_codeSymbols_84 ?_
        refine jv_istore_n (pc := 85) d_IC_codeSymbols_85 rfl (by decide) (jst5 rfl) ?_
        refine jv_iload 0 (pc := 86) d_IC_codeSymbols_86 rfl ?_
        refine jv_ldc (-2147483648) (pc := 88) d_IC_codeSymbols_88 (jin3 99 rfl rfl) ?_
        refine jv_icmp_eq 100 (pc := 90) d_IC_codeSymbols_90 rfl (fun h90 => ?_) (fun h90 => ?_)
        · have h90 : v76 = (-2147483648 : Int32) := h90
          have H := (if_pos h90).symm.trans H
          refine jv_iconst (-1) (pc := 100) d_IC_codeSymbols_100 rfl ?_
          refine jv_iret (pc := 101) d_IC_codeSymbols_101 rfl rfl (Nat.zero_le _) (Nat.zero_le _) ?_
          cases H
          exact jI.of ⟨rfl, rfl⟩
        · have h90 : ¬ (v76 = (-2147483648 : Int32)) := h90
          have H := (if_neg h90).symm.trans H
          refine jv_iload_n 5 (pc := 93) d_IC_codeSymbols_93 rfl ?_
          refine jv_callSi (sp_IC_isSide (x3 + v76)) (pc := 94) d_IC_codeSymbols_94 c0_IC_isSide lk_IC_68 si_IC_isSide rfl (Nat.le_of_ble_eq_true rfl) ⟨by decide, by decide, by decide, by decide⟩ (fun r94 m94 h94 => ?_)
          obtain ⟨ha94, hb94⟩ := h94
          subst ha94
          have hb94 := hb94.symm
          subst hb94
          refine jv_if_ne 102 (pc := 97) d_IC_codeSymbols_97 rfl (fun h97 => ?_) (fun h97 => ?_)
          · have h97 : ¬ ((f_IC_isSide (x3 + v76) n76) = 0) := h97
            have H := (if_neg h97).symm.trans H
            refine jv_iconst 0 (pc := 102) d_IC_codeSymbols_102 rfl ?_
            refine jv_istore (pc := 103) d_IC_codeSymbols_103 (by decide) (jst6 rfl) ?_
            refine jv_aload_n 3 (pc := 105) d_IC_codeSymbols_105 rfl ?_
            refine jv_iconst 5 (pc := 106) d_IC_codeSymbols_106 rfl ?_
            refine jv_aload 1 (pc := 107) d_IC_codeSymbols_107 rfl ?_
            refine jv_geti (pc := 109) d_IC_codeSymbols_109 fa_IC_112_PI (show 14 + 2 * (4 + x6.toNatClampNeg) < jN by unfold jN; omega) (jshp_pic p57) rfl ?_
            obtain ⟨v112, n112, c112, H⟩ := jbd_some H
            refine jv_callSi (sp_NU_codeNumber_W (5 : Int32) (n76 (14 + 2 * (4 + x6.toNatClampNeg)) 1) c112) (pc := 112) d_IC_codeSymbols_112 c0_NU_codeNumber lk_IC_160 si_NU_codeNumber rfl (Nat.le_of_ble_eq_true rfl) ⟨by decide, by decide, by decide, by decide⟩ (fun r112 m112 h112 => ?_)
            obtain ⟨ha112, hb112⟩ := h112
            have ha112 := ha112.symm
            subst ha112
            have hb112 := hb112.symm
            subst hb112
            refine jv_istore (pc := 115) d_IC_codeSymbols_115 (by decide) (jst7 rfl) ?_
            refine jv_iload 6 (pc := 117) d_IC_codeSymbols_117 rfl ?_
            refine jv_iload 7 (pc := 119) d_IC_codeSymbols_119 rfl ?_
            refine jv_iadd (pc := 121) d_IC_codeSymbols_121 ?_
            refine jv_istore (pc := 122) d_IC_codeSymbols_122 (by decide) (jst6 rfl) ?_
            refine jv_iload 7 (pc := 124) d_IC_codeSymbols_124 rfl ?_
            refine jv_ldc (-2147483648) (pc := 126) d_IC_codeSymbols_126 (jin3 99 rfl rfl) ?_
            refine jv_icmp_eq 139 (pc := 128) d_IC_codeSymbols_128 rfl (fun h128 => ?_) (fun h128 => ?_)
            · have h128 : v112 = (-2147483648 : Int32) := h128
              have H := (if_pos h128).symm.trans H
              refine jv_iconst (-1) (pc := 139) d_IC_codeSymbols_139 rfl ?_
              refine jv_iret (pc := 140) d_IC_codeSymbols_140 rfl rfl (Nat.zero_le _) (Nat.zero_le _) ?_
              cases H
              exact jI.of ⟨rfl, rfl⟩
            · have h128 : ¬ (v112 = (-2147483648 : Int32)) := h128
              have H := (if_neg h128).symm.trans H
              refine jv_iload 6 (pc := 131) d_IC_codeSymbols_131 rfl ?_
              refine jv_callSi (sp_IC_isSide ((0 : Int32) + v112)) (pc := 133) d_IC_codeSymbols_133 c0_IC_isSide lk_IC_68 si_IC_isSide rfl (Nat.le_of_ble_eq_true rfl) ⟨by decide, by decide, by decide, by decide⟩ (fun r133 m133 h133 => ?_)
              obtain ⟨ha133, hb133⟩ := h133
              subst ha133
              have hb133 := hb133.symm
              subst hb133
              refine jv_if_ne 141 (pc := 136) d_IC_codeSymbols_136 rfl (fun h136 => ?_) (fun h136 => ?_)
              · have h136 : ¬ ((f_IC_isSide ((0 : Int32) + v112) n112) = 0) := h136
                have H := (if_neg h136).symm.trans H
                refine jv_aload_n 2 (pc := 141) d_IC_codeSymbols_141 rfl ?_
                refine jv_geti (pc := 142) d_IC_codeSymbols_142 fa_IC_60_IC (by decide) rfl rfl ?_
                refine jv_iconst 2 (pc := 145) d_IC_codeSymbols_145 rfl ?_
                refine jv_icmp_ne 157 (pc := 146) d_IC_codeSymbols_146 rfl (fun h146 => ?_) (fun h146 => ?_)
                · have h146 : ¬ ((n112 0 7) = (2 : Int32)) := h146
                  have H := (if_neg h146).symm.trans H
                  refine jv_aload_n 3 (pc := 157) d_IC_codeSymbols_157 rfl ?_
                  refine jv_aload 1 (pc := 158) d_IC_codeSymbols_158 rfl ?_
                  refine jv_iconst 2 (pc := 160) d_IC_codeSymbols_160 rfl ?_
                  refine jv_iconst 0 (pc := 161) d_IC_codeSymbols_161 rfl ?_
                  obtain ⟨v162, n162, c162, H⟩ := jbd_some H
                  refine jv_callSi (sp_PT_codeRegion_W (4 + x6.toNatClampNeg) (2 : Int32) (0 : Int32) p57 c162) (pc := 162) d_IC_codeSymbols_162 c0_PT_codeRegion lk_IC_144 si_PT_codeRegion rfl (Nat.le_of_ble_eq_true rfl) ⟨by decide, by decide, by decide, by decide⟩ (fun r162 m162 h162 => ?_)
                  obtain ⟨ha162, hb162⟩ := h162
                  have ha162 := ha162.symm
                  subst ha162
                  have hb162 := hb162.symm
                  subst hb162
                  refine jv_pop (pc := 165) d_IC_codeSymbols_165 rfl ?_
                  refine jv_iload 8 (pc := 166) d_IC_codeSymbols_166 rfl ?_
                  refine jv_iconst 1 (pc := 168) d_IC_codeSymbols_168 rfl ?_
                  refine jv_iadd (pc := 169) d_IC_codeSymbols_169 ?_
                  refine jv_iload_n 4 (pc := 170) d_IC_codeSymbols_170 rfl ?_
                  refine jv_icmp_ge 197 (pc := 171) d_IC_codeSymbols_171 rfl (fun h171 => ?_) (fun h171 => ?_)
                  · have h171 : x2 ≤ (x6 + (1 : Int32)) := h171
                    have H := (if_pos h171).symm.trans H
                    refine jv_iconst 0 (pc := 197) d_IC_codeSymbols_197 rfl ?_
                    refine jv_istore (pc := 198) d_IC_codeSymbols_198 (by decide) (jst0 rfl) ?_
                    refine jv_aload_n 3 (pc := 200) d_IC_codeSymbols_200 rfl ?_
                    refine jv_iconst 5 (pc := 201) d_IC_codeSymbols_201 rfl ?_
                    refine jv_iload 0 (pc := 202) d_IC_codeSymbols_202 rfl ?_
                    refine jv_if_eq 228 (pc := 204) d_IC_codeSymbols_204 rfl (fun h204 => ?_) (fun h204 => absurd (show (0 : Int32) = 0 by decide) (show ¬ ((0 : Int32) = 0) from h204))
                    refine jv_ldc (-2147483648) (pc := 228) d_IC_codeSymbols_228 (jin3 99 rfl rfl) ?_
                    obtain ⟨v230, n230, c230, H⟩ := jbd_some H
                    refine jv_callSi (sp_NU_codeNumber_W (5 : Int32) (-2147483648 : Int32) c230) (pc := 230) d_IC_codeSymbols_230 c0_NU_codeNumber lk_IC_160 si_NU_codeNumber rfl (Nat.le_of_ble_eq_true rfl) ⟨by decide, by decide, by decide, by decide⟩ (fun r230 m230 h230 => ?_)
                    obtain ⟨ha230, hb230⟩ := h230
                    have ha230 := ha230.symm
                    subst ha230
                    have hb230 := hb230.symm
                    subst hb230
                    refine jv_istore (pc := 233) d_IC_codeSymbols_233 (by decide) (jst7 rfl) ?_
                    refine jv_iinc 8 _ (pc := 235) d_IC_codeSymbols_235 rfl (jinc1 _) (by decide) (jst8 rfl) ?_
                    refine jv_goto 42 (pc := 238) d_IC_codeSymbols_238 rfl ?_
                    exact jv_sub [2, 3, 4, 5, 6, 7, 8] rfl (ih x2 (x3 + v76) ((0 : Int32) + v112) v230 (x6 + 1) _ _ _ H)
                  · have h171 : ¬ (x2 ≤ (x6 + (1 : Int32))) := h171
                    have H := (if_neg h171).symm.trans H
                    refine jv_aload_n 2 (pc := 174) d_IC_codeSymbols_174 rfl ?_
                    refine jv_getr (pc := 175) d_IC_codeSymbols_175 fa_IC_19_IC (by decide) rfl rfl ?_
                    refine jv_getr (pc := 178) d_IC_codeSymbols_178 fa_IC_170_SR (by decide) rfl rfl ?_
                    refine jv_iload 8 (pc := 181) d_IC_codeSymbols_181 rfl ?_
                    refine jv_iconst 1 (pc := 183) d_IC_codeSymbols_183 rfl ?_
                    refine jv_iadd (pc := 184) d_IC_codeSymbols_184 ?_
                    obtain ⟨b185, H⟩ := jck_some H
                    have p185 : (4 + (x6 + (1 : Int32)).toNatClampNeg) < 12 := jsy12 b185
                    refine jv_aald (pc := 185) d_IC_codeSymbols_185 (by decide) rfl b185 (jsy b185) ?_
                    refine jv_geti (pc := 186) d_IC_codeSymbols_186 fa_IC_115_PI (show 14 + 2 * (4 + (x6 + (1 : Int32)).toNatClampNeg) < jN by unfold jN; omega) (jshp_pic p185) rfl ?_
                    refine jv_iload_n 5 (pc := 189) d_IC_codeSymbols_189 rfl ?_
                    refine jv_icmp_ne 197 (pc := 190) d_IC_codeSymbols_190 rfl (fun h190 => ?_) (fun h190 => ?_)
                    · have h190 : ¬ ((n162 (14 + 2 * (4 + (x6 + (1 : Int32)).toNatClampNeg)) 2) = (x3 + v76)) := h190
                      have H := (if_neg h190).symm.trans H
                      refine jv_iconst 0 (pc := 197) d_IC_codeSymbols_197 rfl ?_
                      refine jv_istore (pc := 198) d_IC_codeSymbols_198 (by decide) (jst0 rfl) ?_
                      refine jv_aload_n 3 (pc := 200) d_IC_codeSymbols_200 rfl ?_
                      refine jv_iconst 5 (pc := 201) d_IC_codeSymbols_201 rfl ?_
                      refine jv_iload 0 (pc := 202) d_IC_codeSymbols_202 rfl ?_
                      refine jv_if_eq 228 (pc := 204) d_IC_codeSymbols_204 rfl (fun h204 => ?_) (fun h204 => absurd (show (0 : Int32) = 0 by decide) (show ¬ ((0 : Int32) = 0) from h204))
                      refine jv_ldc (-2147483648) (pc := 228) d_IC_codeSymbols_228 (jin3 99 rfl rfl) ?_
                      obtain ⟨v230, n230, c230, H⟩ := jbd_some H
                      refine jv_callSi (sp_NU_codeNumber_W (5 : Int32) (-2147483648 : Int32) c230) (pc := 230) d_IC_codeSymbols_230 c0_NU_codeNumber lk_IC_160 si_NU_codeNumber rfl (Nat.le_of_ble_eq_true rfl) ⟨by decide, by decide, by decide, by decide⟩ (fun r230 m230 h230 => ?_)
                      obtain ⟨ha230, hb230⟩ := h230
                      have ha230 := ha230.symm
                      subst ha230
                      have hb230 := hb230.symm
                      subst hb230
                      refine jv_istore (pc := 233) d_IC_codeSymbols_233 (by decide) (jst7 rfl) ?_
                      refine jv_iinc 8 _ (pc := 235) d_IC_codeSymbols_235 rfl (jinc1 _) (by decide) (jst8 rfl) ?_
                      refine jv_goto 42 (pc := 238) d_IC_codeSymbols_238 rfl ?_
                      exact jv_sub [2, 3, 4, 5, 6, 7, 8] rfl (ih x2 (x3 + v76) ((0 : Int32) + v112) v230 (x6 + 1) _ _ _ H)
                    · have h190 : (n162 (14 + 2 * (4 + (x6 + (1 : Int32)).toNatClampNeg)) 2) = (x3 + v76) := h190
                      have H := (if_pos h190).symm.trans H
                      refine jv_iconst 1 (pc := 193) d_IC_codeSymbols_193 rfl ?_
                      refine jv_goto 198 (pc := 194) d_IC_codeSymbols_194 rfl ?_
                      refine jv_istore (pc := 198) d_IC_codeSymbols_198 (by decide) (jst0 rfl) ?_
                      refine jv_aload_n 3 (pc := 200) d_IC_codeSymbols_200 rfl ?_
                      refine jv_iconst 5 (pc := 201) d_IC_codeSymbols_201 rfl ?_
                      refine jv_iload 0 (pc := 202) d_IC_codeSymbols_202 rfl ?_
                      refine jv_if_eq 228 (pc := 204) d_IC_codeSymbols_204 rfl (fun h204 => absurd (show (1 : Int32) = 0 from h204) (by decide)) (fun h204 => ?_)
                      refine jv_aload_n 2 (pc := 207) d_IC_codeSymbols_207 rfl ?_
                      refine jv_getr (pc := 208) d_IC_codeSymbols_208 fa_IC_19_IC (by decide) rfl rfl ?_
                      refine jv_getr (pc := 211) d_IC_codeSymbols_211 fa_IC_170_SR (by decide) rfl rfl ?_
                      refine jv_iload 8 (pc := 214) d_IC_codeSymbols_214 rfl ?_
                      refine jv_iconst 1 (pc := 216) d_IC_codeSymbols_216 rfl ?_
                      refine jv_iadd (pc := 217) d_IC_codeSymbols_217 ?_
                      obtain ⟨b218, H⟩ := jck_some H
                      have p218 : (4 + (x6 + (1 : Int32)).toNatClampNeg) < 12 := jsy12 b218
                      refine jv_aald (pc := 218) d_IC_codeSymbols_218 (by decide) rfl b218 (jsy b218) ?_
                      refine jv_geti (pc := 219) d_IC_codeSymbols_219 fa_IC_112_PI (show 14 + 2 * (4 + (x6 + (1 : Int32)).toNatClampNeg) < jN by unfold jN; omega) (jshp_pic p218) rfl ?_
                      refine jv_iload 6 (pc := 222) d_IC_codeSymbols_222 rfl ?_
                      refine jv_isub (pc := 224) d_IC_codeSymbols_224 ?_
                      refine jv_goto 230 (pc := 225) d_IC_codeSymbols_225 rfl ?_
                      obtain ⟨v230, n230, c230, H⟩ := jbd_some H
                      refine jv_callSi (sp_NU_codeNumber_W (5 : Int32) ((n162 (14 + 2 * (4 + (x6 + (1 : Int32)).toNatClampNeg)) 1) - ((0 : Int32) + v112)) c230) (pc := 230) d_IC_codeSymbols_230 c0_NU_codeNumber lk_IC_160 si_NU_codeNumber rfl (Nat.le_of_ble_eq_true rfl) ⟨by decide, by decide, by decide, by decide⟩ (fun r230 m230 h230 => ?_)
                      obtain ⟨ha230, hb230⟩ := h230
                      have ha230 := ha230.symm
                      subst ha230
                      have hb230 := hb230.symm
                      subst hb230
                      refine jv_istore (pc := 233) d_IC_codeSymbols_233 (by decide) (jst7 rfl) ?_
                      refine jv_iinc 8 _ (pc := 235) d_IC_codeSymbols_235 rfl (jinc1 _) (by decide) (jst8 rfl) ?_
                      refine jv_goto 42 (pc := 238) d_IC_codeSymbols_238 rfl ?_
                      exact jv_sub [2, 3, 4, 5, 6, 7, 8] rfl (ih x2 (x3 + v76) ((0 : Int32) + v112) v230 (x6 + 1) _ _ _ H)
                · have h146 : (n112 0 7) = (2 : Int32) := h146
                  have H := (if_pos h146).symm.trans H
                  refine jv_aload 1 (pc := 149) d_IC_codeSymbols_149 rfl ?_
                  refine jv_iload 6 (pc := 151) d_IC_codeSymbols_151 rfl ?_
                  refine jv_iload_n 5 (pc := 153) d_IC_codeSymbols_153 rfl ?_
                  obtain ⟨_, n154, c154, H⟩ := jbd_some H
                  refine jv_callVv (sp_PI_blank (4 + x6.toNatClampNeg) ((0 : Int32) + v112) (x3 + v76) p57 c154) (pc := 154) d_IC_codeSymbols_154 c0_PI_blank lk_IC_75 in_PI_blank se_PI_blank (show 14 + 2 * (4 + x6.toNatClampNeg) < jN by unfold jN; omega) (jshp_pic p57) rfl rfl (Nat.le_of_ble_eq_true rfl) ⟨by decide, by decide, by decide, by decide⟩ (fun m154 h154 => ?_)
                  have hb154 := h154
                  have hb154 := hb154.symm
                  subst hb154
                  refine jv_aload_n 3 (pc := 157) d_IC_codeSymbols_157 rfl ?_
                  refine jv_aload 1 (pc := 158) d_IC_codeSymbols_158 rfl ?_
                  refine jv_iconst 2 (pc := 160) d_IC_codeSymbols_160 rfl ?_
                  refine jv_iconst 0 (pc := 161) d_IC_codeSymbols_161 rfl ?_
                  obtain ⟨v162, n162, c162, H⟩ := jbd_some H
                  refine jv_callSi (sp_PT_codeRegion_W (4 + x6.toNatClampNeg) (2 : Int32) (0 : Int32) p57 c162) (pc := 162) d_IC_codeSymbols_162 c0_PT_codeRegion lk_IC_144 si_PT_codeRegion rfl (Nat.le_of_ble_eq_true rfl) ⟨by decide, by decide, by decide, by decide⟩ (fun r162 m162 h162 => ?_)
                  obtain ⟨ha162, hb162⟩ := h162
                  have ha162 := ha162.symm
                  subst ha162
                  have hb162 := hb162.symm
                  subst hb162
                  refine jv_pop (pc := 165) d_IC_codeSymbols_165 rfl ?_
                  refine jv_iload 8 (pc := 166) d_IC_codeSymbols_166 rfl ?_
                  refine jv_iconst 1 (pc := 168) d_IC_codeSymbols_168 rfl ?_
                  refine jv_iadd (pc := 169) d_IC_codeSymbols_169 ?_
                  refine jv_iload_n 4 (pc := 170) d_IC_codeSymbols_170 rfl ?_
                  refine jv_icmp_ge 197 (pc := 171) d_IC_codeSymbols_171 rfl (fun h171 => ?_) (fun h171 => ?_)
                  · have h171 : x2 ≤ (x6 + (1 : Int32)) := h171
                    have H := (if_pos h171).symm.trans H
                    refine jv_iconst 0 (pc := 197) d_IC_codeSymbols_197 rfl ?_
                    refine jv_istore (pc := 198) d_IC_codeSymbols_198 (by decide) (jst0 rfl) ?_
                    refine jv_aload_n 3 (pc := 200) d_IC_codeSymbols_200 rfl ?_
                    refine jv_iconst 5 (pc := 201) d_IC_codeSymbols_201 rfl ?_
                    refine jv_iload 0 (pc := 202) d_IC_codeSymbols_202 rfl ?_
                    refine jv_if_eq 228 (pc := 204) d_IC_codeSymbols_204 rfl (fun h204 => ?_) (fun h204 => absurd (show (0 : Int32) = 0 by decide) (show ¬ ((0 : Int32) = 0) from h204))
                    refine jv_ldc (-2147483648) (pc := 228) d_IC_codeSymbols_228 (jin3 99 rfl rfl) ?_
                    obtain ⟨v230, n230, c230, H⟩ := jbd_some H
                    refine jv_callSi (sp_NU_codeNumber_W (5 : Int32) (-2147483648 : Int32) c230) (pc := 230) d_IC_codeSymbols_230 c0_NU_codeNumber lk_IC_160 si_NU_codeNumber rfl (Nat.le_of_ble_eq_true rfl) ⟨by decide, by decide, by decide, by decide⟩ (fun r230 m230 h230 => ?_)
                    obtain ⟨ha230, hb230⟩ := h230
                    have ha230 := ha230.symm
                    subst ha230
                    have hb230 := hb230.symm
                    subst hb230
                    refine jv_istore (pc := 233) d_IC_codeSymbols_233 (by decide) (jst7 rfl) ?_
                    refine jv_iinc 8 _ (pc := 235) d_IC_codeSymbols_235 rfl (jinc1 _) (by decide) (jst8 rfl) ?_
                    refine jv_goto 42 (pc := 238) d_IC_codeSymbols_238 rfl ?_
                    exact jv_sub [2, 3, 4, 5, 6, 7, 8] rfl (ih x2 (x3 + v76) ((0 : Int32) + v112) v230 (x6 + 1) _ _ _ H)
                  · have h171 : ¬ (x2 ≤ (x6 + (1 : Int32))) := h171
                    have H := (if_neg h171).symm.trans H
                    refine jv_aload_n 2 (pc := 174) d_IC_codeSymbols_174 rfl ?_
                    refine jv_getr (pc := 175) d_IC_codeSymbols_175 fa_IC_19_IC (by decide) rfl rfl ?_
                    refine jv_getr (pc := 178) d_IC_codeSymbols_178 fa_IC_170_SR (by decide) rfl rfl ?_
                    refine jv_iload 8 (pc := 181) d_IC_codeSymbols_181 rfl ?_
                    refine jv_iconst 1 (pc := 183) d_IC_codeSymbols_183 rfl ?_
                    refine jv_iadd (pc := 184) d_IC_codeSymbols_184 ?_
                    obtain ⟨b185, H⟩ := jck_some H
                    have p185 : (4 + (x6 + (1 : Int32)).toNatClampNeg) < 12 := jsy12 b185
                    refine jv_aald (pc := 185) d_IC_codeSymbols_185 (by decide) rfl b185 (jsy b185) ?_
                    refine jv_geti (pc := 186) d_IC_codeSymbols_186 fa_IC_115_PI (show 14 + 2 * (4 + (x6 + (1 : Int32)).toNatClampNeg) < jN by unfold jN; omega) (jshp_pic p185) rfl ?_
                    refine jv_iload_n 5 (pc := 189) d_IC_codeSymbols_189 rfl ?_
                    refine jv_icmp_ne 197 (pc := 190) d_IC_codeSymbols_190 rfl (fun h190 => ?_) (fun h190 => ?_)
                    · have h190 : ¬ ((n162 (14 + 2 * (4 + (x6 + (1 : Int32)).toNatClampNeg)) 2) = (x3 + v76)) := h190
                      have H := (if_neg h190).symm.trans H
                      refine jv_iconst 0 (pc := 197) d_IC_codeSymbols_197 rfl ?_
                      refine jv_istore (pc := 198) d_IC_codeSymbols_198 (by decide) (jst0 rfl) ?_
                      refine jv_aload_n 3 (pc := 200) d_IC_codeSymbols_200 rfl ?_
                      refine jv_iconst 5 (pc := 201) d_IC_codeSymbols_201 rfl ?_
                      refine jv_iload 0 (pc := 202) d_IC_codeSymbols_202 rfl ?_
                      refine jv_if_eq 228 (pc := 204) d_IC_codeSymbols_204 rfl (fun h204 => ?_) (fun h204 => absurd (show (0 : Int32) = 0 by decide) (show ¬ ((0 : Int32) = 0) from h204))
                      refine jv_ldc (-2147483648) (pc := 228) d_IC_codeSymbols_228 (jin3 99 rfl rfl) ?_
                      obtain ⟨v230, n230, c230, H⟩ := jbd_some H
                      refine jv_callSi (sp_NU_codeNumber_W (5 : Int32) (-2147483648 : Int32) c230) (pc := 230) d_IC_codeSymbols_230 c0_NU_codeNumber lk_IC_160 si_NU_codeNumber rfl (Nat.le_of_ble_eq_true rfl) ⟨by decide, by decide, by decide, by decide⟩ (fun r230 m230 h230 => ?_)
                      obtain ⟨ha230, hb230⟩ := h230
                      have ha230 := ha230.symm
                      subst ha230
                      have hb230 := hb230.symm
                      subst hb230
                      refine jv_istore (pc := 233) d_IC_codeSymbols_233 (by decide) (jst7 rfl) ?_
                      refine jv_iinc 8 _ (pc := 235) d_IC_codeSymbols_235 rfl (jinc1 _) (by decide) (jst8 rfl) ?_
                      refine jv_goto 42 (pc := 238) d_IC_codeSymbols_238 rfl ?_
                      exact jv_sub [2, 3, 4, 5, 6, 7, 8] rfl (ih x2 (x3 + v76) ((0 : Int32) + v112) v230 (x6 + 1) _ _ _ H)
                    · have h190 : (n162 (14 + 2 * (4 + (x6 + (1 : Int32)).toNatClampNeg)) 2) = (x3 + v76) := h190
                      have H := (if_pos h190).symm.trans H
                      refine jv_iconst 1 (pc := 193) d_IC_codeSymbols_193 rfl ?_
                      refine jv_goto 198 (pc := 194) d_IC_codeSymbols_194 rfl ?_
                      refine jv_istore (pc := 198) d_IC_codeSymbols_198 (by decide) (jst0 rfl) ?_
                      refine jv_aload_n 3 (pc := 200) d_IC_codeSymbols_200 rfl ?_
                      refine jv_iconst 5 (pc := 201) d_IC_codeSymbols_201 rfl ?_
                      refine jv_iload 0 (pc := 202) d_IC_codeSymbols_202 rfl ?_
                      refine jv_if_eq 228 (pc := 204) d_IC_codeSymbols_204 rfl (fun h204 => absurd (show (1 : Int32) = 0 from h204) (by decide)) (fun h204 => ?_)
                      refine jv_aload_n 2 (pc := 207) d_IC_codeSymbols_207 rfl ?_
                      refine jv_getr (pc := 208) d_IC_codeSymbols_208 fa_IC_19_IC (by decide) rfl rfl ?_
                      refine jv_getr (pc := 211) d_IC_codeSymbols_211 fa_IC_170_SR (by decide) rfl rfl ?_
                      refine jv_iload 8 (pc := 214) d_IC_codeSymbols_214 rfl ?_
                      refine jv_iconst 1 (pc := 216) d_IC_codeSymbols_216 rfl ?_
                      refine jv_iadd (pc := 217) d_IC_codeSymbols_217 ?_
                      obtain ⟨b218, H⟩ := jck_some H
                      have p218 : (4 + (x6 + (1 : Int32)).toNatClampNeg) < 12 := jsy12 b218
                      refine jv_aald (pc := 218) d_IC_codeSymbols_218 (by decide) rfl b218 (jsy b218) ?_
                      refine jv_geti (pc := 219) d_IC_codeSymbols_219 fa_IC_112_PI (show 14 + 2 * (4 + (x6 + (1 : Int32)).toNatClampNeg) < jN by unfold jN; omega) (jshp_pic p218) rfl ?_
                      refine jv_iload 6 (pc := 222) d_IC_codeSymbols_222 rfl ?_
                      refine jv_isub (pc := 224) d_IC_codeSymbols_224 ?_
                      refine jv_goto 230 (pc := 225) d_IC_codeSymbols_225 rfl ?_
                      obtain ⟨v230, n230, c230, H⟩ := jbd_some H
                      refine jv_callSi (sp_NU_codeNumber_W (5 : Int32) ((n162 (14 + 2 * (4 + (x6 + (1 : Int32)).toNatClampNeg)) 1) - ((0 : Int32) + v112)) c230) (pc := 230) d_IC_codeSymbols_230 c0_NU_codeNumber lk_IC_160 si_NU_codeNumber rfl (Nat.le_of_ble_eq_true rfl) ⟨by decide, by decide, by decide, by decide⟩ (fun r230 m230 h230 => ?_)
                      obtain ⟨ha230, hb230⟩ := h230
                      have ha230 := ha230.symm
                      subst ha230
                      have hb230 := hb230.symm
                      subst hb230
                      refine jv_istore (pc := 233) d_IC_codeSymbols_233 (by decide) (jst7 rfl) ?_
                      refine jv_iinc 8 _ (pc := 235) d_IC_codeSymbols_235 rfl (jinc1 _) (by decide) (jst8 rfl) ?_
                      refine jv_goto 42 (pc := 238) d_IC_codeSymbols_238 rfl ?_
                      exact jv_sub [2, 3, 4, 5, 6, 7, 8] rfl (ih x2 (x3 + v76) ((0 : Int32) + v112) v230 (x6 + 1) _ _ _ H)
              · have h136 : (f_IC_isSide ((0 : Int32) + v112) n112) = 0 := h136
                have H := (if_pos h136).symm.trans H
                refine jv_iconst (-1) (pc := 139) d_IC_codeSymbols_139 rfl ?_
                refine jv_iret (pc := 140) d_IC_codeSymbols_140 rfl rfl (Nat.zero_le _) (Nat.zero_le _) ?_
                cases H
                exact jI.of ⟨rfl, rfl⟩
          · have h97 : (f_IC_isSide (x3 + v76) n76) = 0 := h97
            have H := (if_pos h97).symm.trans H
            refine jv_iconst (-1) (pc := 100) d_IC_codeSymbols_100 rfl ?_
            refine jv_iret (pc := 101) d_IC_codeSymbols_101 rfl rfl (Nat.zero_le _) (Nat.zero_le _) ?_
            cases H
            exact jI.of ⟨rfl, rfl⟩
set_option maxRecDepth 40000 in
set_option maxHeartbeats 8000000 in
theorem lp_IC_codeSymbols_42R {G : jG} : ∀ (n : Nat) (x2 x3 x4 x5 x6 : Int32) (σ τ : jMem) (r : Int32), f_IC_codeSymbols_L42R n x2 x3 x4 x5 x6 σ = some (r, τ) → jV G M_IC_codeSymbols (jr 6 0 0) (jI fun r9 τ9 => r9 = r ∧ τ9 = τ) 0 0 42 [(0, .ref 0), (1, .ref 13), (2, .int x2), (3, .int x3), (4, .int x4), (5, .int x5), (6, .int x6)] [] σ := by
  intro n
  induction n with
  | zero =>
    intro x2 x3 x4 x5 x6 σ τ r H
    cases H
  | succ n ih =>
    intro x2 x3 x4 x5 x6 σ τ r H
    rw [f_IC_codeSymbols_L42R.eq_2] at H
    refine jv_iload 6 (pc := 42) d_IC_codeSymbols_42 rfl ?_
    refine jv_iload_n 2 (pc := 44) d_IC_codeSymbols_44 rfl ?_
    refine jv_icmp_ge 241 (pc := 45) d_IC_codeSymbols_45 rfl (fun h45 => ?_) (fun h45 => ?_)
    · have h45 : x2 ≤ x6 := h45
      have H := (if_pos h45).symm.trans H
      refine jv_iload 5 (pc := 241) d_IC_codeSymbols_241 rfl ?_
      refine jv_ldc (-2147483648) (pc := 243) d_IC_codeSymbols_243 (jin3 99 rfl rfl) ?_
      refine jv_icmp_ne 252 (pc := 245) d_IC_codeSymbols_245 rfl (fun h245 => ?_) (fun h245 => ?_)
      · have h245 : ¬ (x5 = (-2147483648 : Int32)) := h245
        have H := (if_neg h245).symm.trans H
        refine jv_iconst (-1) (pc := 252) d_IC_codeSymbols_252 rfl ?_
        refine jv_iret (pc := 253) d_IC_codeSymbols_253 rfl rfl (Nat.zero_le _) (Nat.zero_le _) ?_
        cases H
        exact jI.of ⟨rfl, rfl⟩
      · have h245 : x5 = (-2147483648 : Int32) := h245
        have H := (if_pos h245).symm.trans H
        refine jv_iload_n 2 (pc := 248) d_IC_codeSymbols_248 rfl ?_
        refine jv_goto 253 (pc := 249) d_IC_codeSymbols_249 rfl ?_
        refine jv_iret (pc := 253) d_IC_codeSymbols_253 rfl rfl (Nat.zero_le _) (Nat.zero_le _) ?_
        cases H
        exact jI.of ⟨rfl, rfl⟩
    · have h45 : ¬ (x2 ≤ x6) := h45
      have H := (if_neg h45).symm.trans H
      refine jv_aload_n 0 (pc := 48) d_IC_codeSymbols_48 rfl ?_
      refine jv_getr (pc := 49) d_IC_codeSymbols_49 fa_IC_19_IC (by decide) rfl rfl ?_
      refine jv_getr (pc := 52) d_IC_codeSymbols_52 fa_IC_170_SR (by decide) rfl rfl ?_
      refine jv_iload 6 (pc := 55) d_IC_codeSymbols_55 rfl ?_
      obtain ⟨b57, H⟩ := jck_some H
      have p57 : (4 + x6.toNatClampNeg) < 12 := jsy12 b57
      refine jv_aald (pc := 57) d_IC_codeSymbols_57 (by decide) rfl b57 (jsy b57) ?_
      refine jv_astore (pc := 58) d_IC_codeSymbols_58 (by decide) (jsto_new rfl) ?_
      refine jv_iload 6 (pc := 60) d_IC_codeSymbols_60 rfl ?_
      refine jv_ldc (-2147483648) (pc := 62) d_IC_codeSymbols_62 (jin3 99 rfl rfl) ?_
      refine jv_icmp_ne 117 (pc := 64) d_IC_codeSymbols_64 rfl (fun h64 => ?_) (fun h64 => ?_)
      · have h64 : ¬ (x5 = (-2147483648 : Int32)) := h64
        have H := (if_neg h64).symm.trans H
        refine jv_iload 5 (pc := 117) d_IC_codeSymbols_117 rfl ?_
        refine jv_iload 6 (pc := 119) d_IC_codeSymbols_119 rfl ?_
        refine jv_iadd (pc := 121) d_IC_codeSymbols_121 ?_
        refine jv_istore (pc := 122) d_IC_codeSymbols_122 (by decide) (jst5 rfl) ?_
        refine jv_iload 6 (pc := 124) d_IC_codeSymbols_124 rfl ?_
        refine jv_ldc (-2147483648) (pc := 126) d_IC_codeSymbols_126 (jin3 99 rfl rfl) ?_
        refine jv_icmp_eq 139 (pc := 128) d_IC_codeSymbols_128 rfl (fun h128 => ?_) (fun h128 => ?_)
        · have h128 : x5 = (-2147483648 : Int32) := h128
          have H := (if_pos h128).symm.trans H
          refine jv_iconst (-1) (pc := 139) d_IC_codeSymbols_139 rfl ?_
          refine jv_iret (pc := 140) d_IC_codeSymbols_140 rfl rfl (Nat.zero_le _) (Nat.zero_le _) ?_
          cases H
          exact jI.of ⟨rfl, rfl⟩
        · have h128 : ¬ (x5 = (-2147483648 : Int32)) := h128
          have H := (if_neg h128).symm.trans H
          refine jv_iload 5 (pc := 131) d_IC_codeSymbols_131 rfl ?_
          refine jv_callSi (sp_IC_isSide (x4 + x5)) (pc := 133) d_IC_codeSymbols_133 c0_IC_isSide lk_IC_68 si_IC_isSide rfl (Nat.le_of_ble_eq_true rfl) ⟨by decide, by decide, by decide, by decide⟩ (fun r133 m133 h133 => ?_)
          obtain ⟨ha133, hb133⟩ := h133
          subst ha133
          have hb133 := hb133.symm
          subst hb133
          refine jv_if_ne 141 (pc := 136) d_IC_codeSymbols_136 rfl (fun h136 => ?_) (fun h136 => ?_)
          · have h136 : ¬ ((f_IC_isSide (x4 + x5) σ) = 0) := h136
            have H := (if_neg h136).symm.trans H
            refine jv_aload_n 1 (pc := 141) d_IC_codeSymbols_141 rfl ?_
            refine jv_geti (pc := 142) d_IC_codeSymbols_142 fa_IC_60_IC (by decide) rfl rfl ?_
            refine jv_iconst 2 (pc := 145) d_IC_codeSymbols_145 rfl ?_
            refine jv_icmp_ne 157 (pc := 146) d_IC_codeSymbols_146 rfl (fun h146 => ?_) (fun h146 => ?_)
            · have h146 : ¬ ((σ 0 7) = (2 : Int32)) := h146
              have H := (if_neg h146).symm.trans H
              refine jv_aload_n 2 (pc := 157) d_IC_codeSymbols_157 rfl ?_
              refine jv_aload 0 (pc := 158) d_IC_codeSymbols_158 rfl ?_
              refine jv_iconst 2 (pc := 160) d_IC_codeSymbols_160 rfl ?_
              refine jv_iconst 0 (pc := 161) d_IC_codeSymbols_161 rfl ?_
              obtain ⟨v162, n162, c162, H⟩ := jbd_some H
              refine jv_callSi (sp_PT_codeRegion_R (4 + x6.toNatClampNeg) (2 : Int32) (0 : Int32) p57 c162) (pc := 162) d_IC_codeSymbols_162 c0_PT_codeRegion lk_IC_144 si_PT_codeRegion rfl (Nat.le_of_ble_eq_true rfl) ⟨by decide, by decide, by decide, by decide⟩ (fun r162 m162 h162 => ?_)
              obtain ⟨ha162, hb162⟩ := h162
              have ha162 := ha162.symm
              subst ha162
              have hb162 := hb162.symm
              subst hb162
              refine jv_pop (pc := 165) d_IC_codeSymbols_165 rfl ?_
              refine jv_iload 7 (pc := 166) d_IC_codeSymbols_166 rfl ?_
              refine jv_iconst 1 (pc := 168) d_IC_codeSymbols_168 rfl ?_
              refine jv_iadd (pc := 169) d_IC_codeSymbols_169 ?_
              refine jv_iload_n 3 (pc := 170) d_IC_codeSymbols_170 rfl ?_
              refine jv_icmp_ge 197 (pc := 171) d_IC_codeSymbols_171 rfl (fun h171 => ?_) (fun h171 => ?_)
              · have h171 : x2 ≤ (x6 + (1 : Int32)) := h171
                have H := (if_pos h171).symm.trans H
                refine jv_iconst 0 (pc := 197) d_IC_codeSymbols_197 rfl ?_
                refine jv_istore (pc := 198) d_IC_codeSymbols_198 (by decide) (jsto_new rfl) ?_
                refine jv_aload_n 3 (pc := 200) d_IC_codeSymbols_200 rfl ?_
                refine jv_iconst 5 (pc := 201) d_IC_codeSymbols_201 rfl ?_
                refine jv_iload 0 (pc := 202) d_IC_codeSymbols_202 rfl ?_
                refine jv_if_eq 228 (pc := 204) d_IC_codeSymbols_204 rfl (fun h204 => ?_) (fun h204 => absurd (show (0 : Int32) = 0 by decide) (show ¬ ((0 : Int32) = 0) from h204))
                refine jv_ldc (-2147483648) (pc := 228) d_IC_codeSymbols_228 (jin3 99 rfl rfl) ?_
                obtain ⟨v230, n230, c230, H⟩ := jbd_some H
                refine jv_callSi (sp_NU_codeNumber_R (5 : Int32) (-2147483648 : Int32) c230) (pc := 230) d_IC_codeSymbols_230 c0_NU_codeNumber lk_IC_160 si_NU_codeNumber rfl (Nat.le_of_ble_eq_true rfl) ⟨by decide, by decide, by decide, by decide⟩ (fun r230 m230 h230 => ?_)
                obtain ⟨ha230, hb230⟩ := h230
                have ha230 := ha230.symm
                subst ha230
                have hb230 := hb230.symm
                subst hb230
                refine jv_istore (pc := 233) d_IC_codeSymbols_233 (by decide) (jst7 rfl) ?_
                refine jv_iinc 8 _ (pc := 235) d_IC_codeSymbols_235 rfl (jinc1 _) (by decide) (jst8 rfl) ?_
                refine jv_goto 42 (pc := 238) d_IC_codeSymbols_238 rfl ?_
                exact jv_sub [2, 3, 4, 5, 6, 7, 8] rfl (ih x2 x3 (x4 + x5) v230 (x6 + 1) _ _ _ H)
              · have h171 : ¬ (x2 ≤ (x6 + (1 : Int32))) := h171
                have H := (if_neg h171).symm.trans H
                refine jv_aload_n 1 (pc := 174) d_IC_codeSymbols_174 rfl ?_
                refine jv_getr (pc := 175) d_IC_codeSymbols_175 fa_IC_19_IC (by decide) rfl rfl ?_
                refine jv_getr (pc := 178) d_IC_codeSymbols_178 fa_IC_170_SR (by decide) rfl rfl ?_
                refine jv_iload 7 (pc := 181) d_IC_codeSymbols_181 rfl ?_
                refine jv_iconst 1 (pc := 183) d_IC_codeSymbols_183 rfl ?_
                refine jv_iadd (pc := 184) d_IC_codeSymbols_184 ?_
                obtain ⟨b185, H⟩ := jck_some H
                have p185 : (4 + (x6 + (1 : Int32)).toNatClampNeg) < 12 := jsy12 b185
                refine jv_aald (pc := 185) d_IC_codeSymbols_185 (by decide) rfl b185 (jsy b185) ?_
                refine jv_geti (pc := 186) d_IC_codeSymbols_186 fa_IC_115_PI (show 14 + 2 * (4 + (x6 + (1 : Int32)).toNatClampNeg) < jN by unfold jN; omega) (jshp_pic p185) rfl ?_
                refine jv_iload_n 4 (pc := 189) d_IC_codeSymbols_189 rfl ?_
                refine jv_icmp_ne 197 (pc := 190) d_IC_codeSymbols_190 rfl (fun h190 => ?_) (fun h190 => ?_)
                · have h190 : ¬ ((n162 (14 + 2 * (4 + (x6 + (1 : Int32)).toNatClampNeg)) 2) = x3) := h190
                  have H := (if_neg h190).symm.trans H
                  refine jv_iconst 0 (pc := 197) d_IC_codeSymbols_197 rfl ?_
                  refine jv_istore (pc := 198) d_IC_codeSymbols_198 (by decide) (jsto_new rfl) ?_
                  refine jv_aload_n 3 (pc := 200) d_IC_codeSymbols_200 rfl ?_
                  refine jv_iconst 5 (pc := 201) d_IC_codeSymbols_201 rfl ?_
                  refine jv_iload 0 (pc := 202) d_IC_codeSymbols_202 rfl ?_
                  refine jv_if_eq 228 (pc := 204) d_IC_codeSymbols_204 rfl (fun h204 => ?_) (fun h204 => absurd (show (0 : Int32) = 0 by decide) (show ¬ ((0 : Int32) = 0) from h204))
                  refine jv_ldc (-2147483648) (pc := 228) d_IC_codeSymbols_228 (jin3 99 rfl rfl) ?_
                  obtain ⟨v230, n230, c230, H⟩ := jbd_some H
                  refine jv_callSi (sp_NU_codeNumber_R (5 : Int32) (-2147483648 : Int32) c230) (pc := 230) d_IC_codeSymbols_230 c0_NU_codeNumber lk_IC_160 si_NU_codeNumber rfl (Nat.le_of_ble_eq_true rfl) ⟨by decide, by decide, by decide, by decide⟩ (fun r230 m230 h230 => ?_)
                  obtain ⟨ha230, hb230⟩ := h230
                  have ha230 := ha230.symm
                  subst ha230
                  have hb230 := hb230.symm
                  subst hb230
                  refine jv_istore (pc := 233) d_IC_codeSymbols_233 (by decide) (jst7 rfl) ?_
                  refine jv_iinc 8 _ (pc := 235) d_IC_codeSymbols_235 rfl (jinc1 _) (by decide) (jst8 rfl) ?_
                  refine jv_goto 42 (pc := 238) d_IC_codeSymbols_238 rfl ?_
                  exact jv_sub [2, 3, 4, 5, 6, 7, 8] rfl (ih x2 x3 (x4 + x5) v230 (x6 + 1) _ _ _ H)
                · have h190 : (n162 (14 + 2 * (4 + (x6 + (1 : Int32)).toNatClampNeg)) 2) = x3 := h190
                  have H := (if_pos h190).symm.trans H
                  refine jv_iconst 1 (pc := 193) d_IC_codeSymbols_193 rfl ?_
                  refine jv_goto 198 (pc := 194) d_IC_codeSymbols_194 rfl ?_
                  refine jv_istore (pc := 198) d_IC_codeSymbols_198 (by decide) (jsto_new rfl) ?_
                  refine jv_aload_n 3 (pc := 200) d_IC_codeSymbols_200 rfl ?_
                  refine jv_iconst 5 (pc := 201) d_IC_codeSymbols_201 rfl ?_
                  refine jv_iload 0 (pc := 202) d_IC_codeSymbols_202 rfl ?_
                  refine jv_if_eq 228 (pc := 204) d_IC_codeSymbols_204 rfl (fun h204 => absurd (show (1 : Int32) = 0 from h204) (by decide)) (fun h204 => ?_)
                  refine jv_aload_n 2 (pc := 207) d_IC_codeSymbols_207 rfl ?_
                  refine jv_getr (pc := 208) d_IC_codeSymbols_208 fa_IC_19_IC (by decide) rfl rfl ?_
                  refine jv_getr (pc := 211) d_IC_codeSymbols_211 fa_IC_170_SR (by decide) rfl rfl ?_
                  refine jv_iload 8 (pc := 214) d_IC_codeSymbols_214 rfl ?_
                  refine jv_iconst 1 (pc := 216) d_IC_codeSymbols_216 rfl ?_
                  refine jv_iadd (pc := 217) d_IC_codeSymbols_217 ?_
                  obtain ⟨b218, H⟩ := jck_some H
                  have p218 : (4 + (x6 + (1 : Int32)).toNatClampNeg) < 12 := jsy12 b218
                  refine jv_aald (pc := 218) d_IC_codeSymbols_218 (by decide) rfl b218 (jsy b218) ?_
                  refine jv_geti (pc := 219) d_IC_codeSymbols_219 fa_IC_112_PI (show 14 + 2 * (4 + (x6 + (1 : Int32)).toNatClampNeg) < jN by unfold jN; omega) (jshp_pic p218) rfl ?_
                  refine jv_iload 6 (pc := 222) d_IC_codeSymbols_222 rfl ?_
                  refine jv_isub (pc := 224) d_IC_codeSymbols_224 ?_
                  refine jv_goto 230 (pc := 225) d_IC_codeSymbols_225 rfl ?_
                  obtain ⟨v230, n230, c230, H⟩ := jbd_some H
                  refine jv_callSi (sp_NU_codeNumber_R (5 : Int32) ((n162 (14 + 2 * (4 + (x6 + (1 : Int32)).toNatClampNeg)) 1) - (x4 + x5)) c230) (pc := 230) d_IC_codeSymbols_230 c0_NU_codeNumber lk_IC_160 si_NU_codeNumber rfl (Nat.le_of_ble_eq_true rfl) ⟨by decide, by decide, by decide, by decide⟩ (fun r230 m230 h230 => ?_)
                  obtain ⟨ha230, hb230⟩ := h230
                  have ha230 := ha230.symm
                  subst ha230
                  have hb230 := hb230.symm
                  subst hb230
                  refine jv_istore (pc := 233) d_IC_codeSymbols_233 (by decide) (jst7 rfl) ?_
                  refine jv_iinc 8 _ (pc := 235) d_IC_codeSymbols_235 rfl (jinc1 _) (by decide) (jst8 rfl) ?_
                  refine jv_goto 42 (pc := 238) d_IC_codeSymbols_238 rfl ?_
                  exact jv_sub [2, 3, 4, 5, 6, 7, 8] rfl (ih x2 x3 (x4 + x5) v230 (x6 + 1) _ _ _ H)
            · have h146 : (σ 0 7) = (2 : Int32) := h146
              have H := (if_pos h146).symm.trans H
              refine jv_aload 0 (pc := 149) d_IC_codeSymbols_149 rfl ?_
              refine jv_iload 5 (pc := 151) d_IC_codeSymbols_151 rfl ?_
              refine jv_iload_n 4 (pc := 153) d_IC_codeSymbols_153 rfl ?_
              obtain ⟨_, n154, c154, H⟩ := jbd_some H
              refine jv_callVv (sp_PI_blank (4 + x6.toNatClampNeg) (x4 + x5) x3 p57 c154) (pc := 154) d_IC_codeSymbols_154 c0_PI_blank lk_IC_75 in_PI_blank se_PI_blank (show 14 + 2 * (4 + x6.toNatClampNeg) < jN by unfold jN; omega) (jshp_pic p57) rfl rfl (Nat.le_of_ble_eq_true rfl) ⟨by decide, by decide, by decide, by decide⟩ (fun m154 h154 => ?_)
              have hb154 := h154
              have hb154 := hb154.symm
              subst hb154
              refine jv_aload_n 2 (pc := 157) d_IC_codeSymbols_157 rfl ?_
              refine jv_aload 0 (pc := 158) d_IC_codeSymbols_158 rfl ?_
              refine jv_iconst 2 (pc := 160) d_IC_codeSymbols_160 rfl ?_
              refine jv_iconst 0 (pc := 161) d_IC_codeSymbols_161 rfl ?_
              obtain ⟨v162, n162, c162, H⟩ := jbd_some H
              refine jv_callSi (sp_PT_codeRegion_R (4 + x6.toNatClampNeg) (2 : Int32) (0 : Int32) p57 c162) (pc := 162) d_IC_codeSymbols_162 c0_PT_codeRegion lk_IC_144 si_PT_codeRegion rfl (Nat.le_of_ble_eq_true rfl) ⟨by decide, by decide, by decide, by decide⟩ (fun r162 m162 h162 => ?_)
              obtain ⟨ha162, hb162⟩ := h162
              have ha162 := ha162.symm
              subst ha162
              have hb162 := hb162.symm
              subst hb162
              refine jv_pop (pc := 165) d_IC_codeSymbols_165 rfl ?_
              refine jv_iload 7 (pc := 166) d_IC_codeSymbols_166 rfl ?_
              refine jv_iconst 1 (pc := 168) d_IC_codeSymbols_168 rfl ?_
              refine jv_iadd (pc := 169) d_IC_codeSymbols_169 ?_
              refine jv_iload_n 3 (pc := 170) d_IC_codeSymbols_170 rfl ?_
              refine jv_icmp_ge 197 (pc := 171) d_IC_codeSymbols_171 rfl (fun h171 => ?_) (fun h171 => ?_)
              · have h171 : x2 ≤ (x6 + (1 : Int32)) := h171
                have H := (if_pos h171).symm.trans H
                refine jv_iconst 0 (pc := 197) d_IC_codeSymbols_197 rfl ?_
                refine jv_istore (pc := 198) d_IC_codeSymbols_198 (by decide) (jsto_new rfl) ?_
                refine jv_aload_n 3 (pc := 200) d_IC_codeSymbols_200 rfl ?_
                refine jv_iconst 5 (pc := 201) d_IC_codeSymbols_201 rfl ?_
                refine jv_iload 0 (pc := 202) d_IC_codeSymbols_202 rfl ?_
                refine jv_if_eq 228 (pc := 204) d_IC_codeSymbols_204 rfl (fun h204 => ?_) (fun h204 => absurd (show (0 : Int32) = 0 by decide) (show ¬ ((0 : Int32) = 0) from h204))
                refine jv_ldc (-2147483648) (pc := 228) d_IC_codeSymbols_228 (jin3 99 rfl rfl) ?_
                obtain ⟨v230, n230, c230, H⟩ := jbd_some H
                refine jv_callSi (sp_NU_codeNumber_R (5 : Int32) (-2147483648 : Int32) c230) (pc := 230) d_IC_codeSymbols_230 c0_NU_codeNumber lk_IC_160 si_NU_codeNumber rfl (Nat.le_of_ble_eq_true rfl) ⟨by decide, by decide, by decide, by decide⟩ (fun r230 m230 h230 => ?_)
                obtain ⟨ha230, hb230⟩ := h230
                have ha230 := ha230.symm
                subst ha230
                have hb230 := hb230.symm
                subst hb230
                refine jv_istore (pc := 233) d_IC_codeSymbols_233 (by decide) (jst7 rfl) ?_
                refine jv_iinc 8 _ (pc := 235) d_IC_codeSymbols_235 rfl (jinc1 _) (by decide) (jst8 rfl) ?_
                refine jv_goto 42 (pc := 238) d_IC_codeSymbols_238 rfl ?_
                exact jv_sub [2, 3, 4, 5, 6, 7, 8] rfl (ih x2 x3 (x4 + x5) v230 (x6 + 1) _ _ _ H)
              · have h171 : ¬ (x2 ≤ (x6 + (1 : Int32))) := h171
                have H := (if_neg h171).symm.trans H
                refine jv_aload_n 1 (pc := 174) d_IC_codeSymbols_174 rfl ?_
                refine jv_getr (pc := 175) d_IC_codeSymbols_175 fa_IC_19_IC (by decide) rfl rfl ?_
                refine jv_getr (pc := 178) d_IC_codeSymbols_178 fa_IC_170_SR (by decide) rfl rfl ?_
                refine jv_iload 7 (pc := 181) d_IC_codeSymbols_181 rfl ?_
                refine jv_iconst 1 (pc := 183) d_IC_codeSymbols_183 rfl ?_
                refine jv_iadd (pc := 184) d_IC_codeSymbols_184 ?_
                obtain ⟨b185, H⟩ := jck_some H
                have p185 : (4 + (x6 + (1 : Int32)).toNatClampNeg) < 12 := jsy12 b185
                refine jv_aald (pc := 185) d_IC_codeSymbols_185 (by decide) rfl b185 (jsy b185) ?_
                refine jv_geti (pc := 186) d_IC_codeSymbols_186 fa_IC_115_PI (show 14 + 2 * (4 + (x6 + (1 : Int32)).toNatClampNeg) < jN by unfold jN; omega) (jshp_pic p185) rfl ?_
                refine jv_iload_n 4 (pc := 189) d_IC_codeSymbols_189 rfl ?_
                refine jv_icmp_ne 197 (pc := 190) d_IC_codeSymbols_190 rfl (fun h190 => ?_) (fun h190 => ?_)
                · have h190 : ¬ ((n162 (14 + 2 * (4 + (x6 + (1 : Int32)).toNatClampNeg)) 2) = x3) := h190
                  have H := (if_neg h190).symm.trans H
                  refine jv_iconst 0 (pc := 197) d_IC_codeSymbols_197 rfl ?_
                  refine jv_istore (pc := 198) d_IC_codeSymbols_198 (by decide) (jsto_new rfl) ?_
                  refine jv_aload_n 3 (pc := 200) d_IC_codeSymbols_200 rfl ?_
                  refine jv_iconst 5 (pc := 201) d_IC_codeSymbols_201 rfl ?_
                  refine jv_iload 0 (pc := 202) d_IC_codeSymbols_202 rfl ?_
                  refine jv_if_eq 228 (pc := 204) d_IC_codeSymbols_204 rfl (fun h204 => ?_) (fun h204 => absurd (show (0 : Int32) = 0 by decide) (show ¬ ((0 : Int32) = 0) from h204))
                  refine jv_ldc (-2147483648) (pc := 228) d_IC_codeSymbols_228 (jin3 99 rfl rfl) ?_
                  obtain ⟨v230, n230, c230, H⟩ := jbd_some H
                  refine jv_callSi (sp_NU_codeNumber_R (5 : Int32) (-2147483648 : Int32) c230) (pc := 230) d_IC_codeSymbols_230 c0_NU_codeNumber lk_IC_160 si_NU_codeNumber rfl (Nat.le_of_ble_eq_true rfl) ⟨by decide, by decide, by decide, by decide⟩ (fun r230 m230 h230 => ?_)
                  obtain ⟨ha230, hb230⟩ := h230
                  have ha230 := ha230.symm
                  subst ha230
                  have hb230 := hb230.symm
                  subst hb230
                  refine jv_istore (pc := 233) d_IC_codeSymbols_233 (by decide) (jst7 rfl) ?_
                  refine jv_iinc 8 _ (pc := 235) d_IC_codeSymbols_235 rfl (jinc1 _) (by decide) (jst8 rfl) ?_
                  refine jv_goto 42 (pc := 238) d_IC_codeSymbols_238 rfl ?_
                  exact jv_sub [2, 3, 4, 5, 6, 7, 8] rfl (ih x2 x3 (x4 + x5) v230 (x6 + 1) _ _ _ H)
                · have h190 : (n162 (14 + 2 * (4 + (x6 + (1 : Int32)).toNatClampNeg)) 2) = x3 := h190
                  have H := (if_pos h190).symm.trans H
                  refine jv_iconst 1 (pc := 193) d_IC_codeSymbols_193 rfl ?_
                  refine jv_goto 198 (pc := 194) d_IC_codeSymbols_194 rfl ?_
                  refine jv_istore (pc := 198) d_IC_codeSymbols_198 (by decide) (jsto_new rfl) ?_
                  refine jv_aload_n 3 (pc := 200) d_IC_codeSymbols_200 rfl ?_
                  refine jv_iconst 5 (pc := 201) d_IC_codeSymbols_201 rfl ?_
                  refine jv_iload 0 (pc := 202) d_IC_codeSymbols_202 rfl ?_
                  refine jv_if_eq 228 (pc := 204) d_IC_codeSymbols_204 rfl (fun h204 => absurd (show (1 : Int32) = 0 from h204) (by decide)) (fun h204 => ?_)
                  refine jv_aload_n 2 (pc := 207) d_IC_codeSymbols_207 rfl ?_
                  refine jv_getr (pc := 208) d_IC_codeSymbols_208 fa_IC_19_IC (by decide) rfl rfl ?_
                  refine jv_getr (pc := 211) d_IC_codeSymbols_211 fa_IC_170_SR (by decide) rfl rfl ?_
                  refine jv_iload 8 (pc := 214) d_IC_codeSymbols_214 rfl ?_
                  refine jv_iconst 1 (pc := 216) d_IC_codeSymbols_216 rfl ?_
                  refine jv_iadd (pc := 217) d_IC_codeSymbols_217 ?_
                  obtain ⟨b218, H⟩ := jck_some H
                  have p218 : (4 + (x6 + (1 : Int32)).toNatClampNeg) < 12 := jsy12 b218
                  refine jv_aald (pc := 218) d_IC_codeSymbols_218 (by decide) rfl b218 (jsy b218) ?_
                  refine jv_geti (pc := 219) d_IC_codeSymbols_219 fa_IC_112_PI (show 14 + 2 * (4 + (x6 + (1 : Int32)).toNatClampNeg) < jN by unfold jN; omega) (jshp_pic p218) rfl ?_
                  refine jv_iload 6 (pc := 222) d_IC_codeSymbols_222 rfl ?_
                  refine jv_isub (pc := 224) d_IC_codeSymbols_224 ?_
                  refine jv_goto 230 (pc := 225) d_IC_codeSymbols_225 rfl ?_
                  obtain ⟨v230, n230, c230, H⟩ := jbd_some H
                  refine jv_callSi (sp_NU_codeNumber_R (5 : Int32) ((n162 (14 + 2 * (4 + (x6 + (1 : Int32)).toNatClampNeg)) 1) - (x4 + x5)) c230) (pc := 230) d_IC_codeSymbols_230 c0_NU_codeNumber lk_IC_160 si_NU_codeNumber rfl (Nat.le_of_ble_eq_true rfl) ⟨by decide, by decide, by decide, by decide⟩ (fun r230 m230 h230 => ?_)
                  obtain ⟨ha230, hb230⟩ := h230
                  have ha230 := ha230.symm
                  subst ha230
                  have hb230 := hb230.symm
                  subst hb230
                  refine jv_istore (pc := 233) d_IC_codeSymbols_233 (by decide) (jst7 rfl) ?_
                  refine jv_iinc 8 _ (pc := 235) d_IC_codeSymbols_235 rfl (jinc1 _) (by decide) (jst8 rfl) ?_
                  refine jv_goto 42 (pc := 238) d_IC_codeSymbols_238 rfl ?_
                  exact jv_sub [2, 3, 4, 5, 6, 7, 8] rfl (ih x2 x3 (x4 + x5) v230 (x6 + 1) _ _ _ H)
          · have h136 : (f_IC_isSide (x4 + x5) σ) = 0 := h136
            have H := (if_pos h136).symm.trans H
            refine jv_iconst (-1) (pc := 139) d_IC_codeSymbols_139 rfl ?_
            refine jv_iret (pc := 140) d_IC_codeSymbols_140 rfl rfl (Nat.zero_le _) (Nat.zero_le _) ?_
            cases H
            exact jI.of ⟨rfl, rfl⟩
      · have h64 : x5 = (-2147483648 : Int32) := h64
        have H := (if_pos h64).symm.trans H
        refine jv_aload_n 2 (pc := 67) d_IC_codeSymbols_67 rfl ?_
        refine jv_iconst 4 (pc := 68) d_IC_codeSymbols_68 rfl ?_
        refine jv_aload 0 (pc := 69) d_IC_codeSymbols_69 rfl ?_
        refine jv_geti (pc := 71) d_IC_codeSymbols_71 fa_IC_115_PI (show 14 + 2 * (4 + x6.toNatClampNeg) < jN by unfold jN; omega) (jshp_pic p57) rfl ?_
        refine jv_iload_n 4 (pc := 74) d_IC_codeSymbols_74 rfl ?_
        refine jv_isub (pc := 75) d_IC_codeSymbols_75 ?_
        obtain ⟨v76, n76, c76, H⟩ := jbd_some H
        refine jv_callSi (sp_NU_codeNumber_R (4 : Int32) ((σ (14 + 2 * (4 + x6.toNatClampNeg)) 2) - x3) c76) (pc := 76) d_IC_codeSymbols_76 c0_NU_codeNumber lk_IC_160 si_NU_codeNumber rfl (Nat.le_of_ble_eq_true rfl) ⟨by decide, by decide, by decide, by decide⟩ (fun r76 m76 h76 => ?_)
        obtain ⟨ha76, hb76⟩ := h76
        have ha76 := ha76.symm
        subst ha76
        have hb76 := hb76.symm
        subst hb76
        refine jv_istore (pc := 79) d_IC_codeSymbols_79 (by decide) (jsto_new rfl) ?_
        refine jv_iload_n 5 (pc := 81) d_IC_codeSymbols_81 rfl ?_
        refine jv_iload 0 (pc := 82) d_IC_codeSymbols_82 rfl ?_
        refine jv_iadd (pc := 84) d_IC_codeSymbols_84 ?_
        refine jv_istore_n (pc := 85) d_IC_codeSymbols_85 rfl (by decide) (jst5 rfl) ?_
        refine jv_iload 0 (pc := 86) d_IC_codeSymbols_86 rfl ?_
        refine jv_ldc (-2147483648) (pc := 88) d_IC_codeSymbols_88 (jin3 99 rfl rfl) ?_
        refine jv_icmp_eq 100 (pc := 90) d_IC_codeSymbols_90 rfl (fun h90 => ?_) (fun h90 => ?_)
        · have h90 : v76 = (-2147483648 : Int32) := h90
          have H := (if_pos h90).symm.trans H
          refine jv_iconst (-1) (pc := 100) d_IC_codeSymbols_100 rfl ?_
          refine jv_iret (pc := 101) d_IC_codeSymbols_101 rfl rfl (Nat.zero_le _) (Nat.zero_le _) ?_
          cases H
          exact jI.of ⟨rfl, rfl⟩
        · have h90 : ¬ (v76 = (-2147483648 : Int32)) := h90
          have H := (if_neg h90).symm.trans H
          refine jv_iload_n 5 (pc := 93) d_IC_codeSymbols_93 rfl ?_
          refine jv_callSi (sp_IC_isSide (x3 + v76)) (pc := 94) d_IC_codeSymbols_94 c0_IC_isSide lk_IC_68 si_IC_isSide rfl (Nat.le_of_ble_eq_true rfl) ⟨by decide, by decide, by decide, by decide⟩ (fun r94 m94 h94 => ?_)
          obtain ⟨ha94, hb94⟩ := h94
          subst ha94
          have hb94 := hb94.symm
          subst hb94
          refine jv_if_ne 102 (pc := 97) d_IC_codeSymbols_97 rfl (fun h97 => ?_) (fun h97 => ?_)
          · have h97 : ¬ ((f_IC_isSide (x3 + v76) n76) = 0) := h97
            have H := (if_neg h97).symm.trans H
            refine jv_iconst 0 (pc := 102) d_IC_codeSymbols_102 rfl ?_
            refine jv_istore (pc := 103) d_IC_codeSymbols_103 (by decide) (jst6 rfl) ?_
            refine jv_aload_n 3 (pc := 105) d_IC_codeSymbols_105 rfl ?_
            refine jv_iconst 5 (pc := 106) d_IC_codeSymbols_106 rfl ?_
            refine jv_aload 1 (pc := 107) d_IC_codeSymbols_107 rfl ?_
            refine jv_geti (pc := 109) d_IC_codeSymbols_109 fa_IC_112_PI (show 14 + 2 * (4 + x6.toNatClampNeg) < jN by unfold jN; omega) (jshp_pic p57) rfl ?_
            obtain ⟨v112, n112, c112, H⟩ := jbd_some H
            refine jv_callSi (sp_NU_codeNumber_R (5 : Int32) (n76 (14 + 2 * (4 + x6.toNatClampNeg)) 1) c112) (pc := 112) d_IC_codeSymbols_112 c0_NU_codeNumber lk_IC_160 si_NU_codeNumber rfl (Nat.le_of_ble_eq_true rfl) ⟨by decide, by decide, by decide, by decide⟩ (fun r112 m112 h112 => ?_)
            obtain ⟨ha112, hb112⟩ := h112
            have ha112 := ha112.symm
            subst ha112
            have hb112 := hb112.symm
            subst hb112
            refine jv_istore (pc := 115) d_IC_codeSymbols_115 (by decide) (jst7 rfl) ?_
            refine jv_iload 6 (pc := 117) d_IC_codeSymbols_117 rfl ?_
            refine jv_iload 7 (pc := 119) d_IC_codeSymbols_119 rfl ?_
            refine jv_iadd (pc := 121) d_IC_codeSymbols_121 ?_
            refine jv_istore (pc := 122) d_IC_codeSymbols_122 (by decide) (jst6 rfl) ?_
            refine jv_iload 7 (pc := 124) d_IC_codeSymbols_124 rfl ?_
            refine jv_ldc (-2147483648) (pc := 126) d_IC_codeSymbols_126 (jin3 99 rfl rfl) ?_
            refine jv_icmp_eq 139 (pc := 128) d_IC_codeSymbols_128 rfl (fun h128 => ?_) (fun h128 => ?_)
            · have h128 : v112 = (-2147483648 : Int32) := h128
              have H := (if_pos h128).symm.trans H
              refine jv_iconst (-1) (pc := 139) d_IC_codeSymbols_139 rfl ?_
              refine jv_iret (pc := 140) d_IC_codeSymbols_140 rfl rfl (Nat.zero_le _) (Nat.zero_le _) ?_
              cases H
              exact jI.of ⟨rfl, rfl⟩
            · have h128 : ¬ (v112 = (-2147483648 : Int32)) := h128
              have H := (if_neg h128).symm.trans H
              refine jv_iload 6 (pc := 131) d_IC_codeSymbols_131 rfl ?_
              refine jv_callSi (sp_IC_isSide ((0 : Int32) + v112)) (pc := 133) d_IC_codeSymbols_133 c0_IC_isSide lk_IC_68 si_IC_isSide rfl (Nat.le_of_ble_eq_true rfl) ⟨by decide, by decide, by decide, by decide⟩ (fun r133 m133 h133 => ?_)
              obtain ⟨ha133, hb133⟩ := h133
              subst ha133
              have hb133 := hb133.symm
              subst hb133
              refine jv_if_ne 141 (pc := 136) d_IC_codeSymbols_136 rfl (fun h136 => ?_) (fun h136 => ?_)
              · have h136 : ¬ ((f_IC_isSide ((0 : Int32) + v112) n112) = 0) := h136
                have H := (if_neg h136).symm.trans H
                refine jv_aload_n 2 (pc := 141) d_IC_codeSymbols_141 rfl ?_
                refine jv_geti (pc := 142) d_IC_codeSymbols_142 fa_IC_60_IC (by decide) rfl rfl ?_
                refine jv_iconst 2 (pc := 145) d_IC_codeSymbols_145 rfl ?_
                refine jv_icmp_ne 157 (pc := 146) d_IC_codeSymbols_146 rfl (fun h146 => ?_) (fun h146 => ?_)
                · have h146 : ¬ ((n112 0 7) = (2 : Int32)) := h146
                  have H := (if_neg h146).symm.trans H
                  refine jv_aload_n 3 (pc := 157) d_IC_codeSymbols_157 rfl ?_
                  refine jv_aload 1 (pc := 158) d_IC_codeSymbols_158 rfl ?_
                  refine jv_iconst 2 (pc := 160) d_IC_codeSymbols_160 rfl ?_
                  refine jv_iconst 0 (pc := 161) d_IC_codeSymbols_161 rfl ?_
                  obtain ⟨v162, n162, c162, H⟩ := jbd_some H
                  refine jv_callSi (sp_PT_codeRegion_R (4 + x6.toNatClampNeg) (2 : Int32) (0 : Int32) p57 c162) (pc := 162) d_IC_codeSymbols_162 c0_PT_codeRegion lk_IC_144 si_PT_codeRegion rfl (Nat.le_of_ble_eq_true rfl) ⟨by decide, by decide, by decide, by decide⟩ (fun r162 m162 h162 => ?_)
                  obtain ⟨ha162, hb162⟩ := h162
                  have ha162 := ha162.symm
                  subst ha162
                  have hb162 := hb162.symm
                  subst hb162
                  refine jv_pop (pc := 165) d_IC_codeSymbols_165 rfl ?_
                  refine jv_iload 8 (pc := 166) d_IC_codeSymbols_166 rfl ?_
                  refine jv_iconst 1 (pc := 168) d_IC_codeSymbols_168 rfl ?_
                  refine jv_iadd (pc := 169) d_IC_codeSymbols_169 ?_
                  refine jv_iload_n 4 (pc := 170) d_IC_codeSymbols_170 rfl ?_
                  refine jv_icmp_ge 197 (pc := 171) d_IC_codeSymbols_171 rfl (fun h171 => ?_) (fun h171 => ?_)
                  · have h171 : x2 ≤ (x6 + (1 : Int32)) := h171
                    have H := (if_pos h171).symm.trans H
                    refine jv_iconst 0 (pc := 197) d_IC_codeSymbols_197 rfl ?_
                    refine jv_istore (pc := 198) d_IC_codeSymbols_198 (by decide) (jst0 rfl) ?_
                    refine jv_aload_n 3 (pc := 200) d_IC_codeSymbols_200 rfl ?_
                    refine jv_iconst 5 (pc := 201) d_IC_codeSymbols_201 rfl ?_
                    refine jv_iload 0 (pc := 202) d_IC_codeSymbols_202 rfl ?_
                    refine jv_if_eq 228 (pc := 204) d_IC_codeSymbols_204 rfl (fun h204 => ?_) (fun h204 => absurd (show (0 : Int32) = 0 by decide) (show ¬ ((0 : Int32) = 0) from h204))
                    refine jv_ldc (-2147483648) (pc := 228) d_IC_codeSymbols_228 (jin3 99 rfl rfl) ?_
                    obtain ⟨v230, n230, c230, H⟩ := jbd_some H
                    refine jv_callSi (sp_NU_codeNumber_R (5 : Int32) (-2147483648 : Int32) c230) (pc := 230) d_IC_codeSymbols_230 c0_NU_codeNumber lk_IC_160 si_NU_codeNumber rfl (Nat.le_of_ble_eq_true rfl) ⟨by decide, by decide, by decide, by decide⟩ (fun r230 m230 h230 => ?_)
                    obtain ⟨ha230, hb230⟩ := h230
                    have ha230 := ha230.symm
                    subst ha230
                    have hb230 := hb230.symm
                    subst hb230
                    refine jv_istore (pc := 233) d_IC_codeSymbols_233 (by decide) (jst7 rfl) ?_
                    refine jv_iinc 8 _ (pc := 235) d_IC_codeSymbols_235 rfl (jinc1 _) (by decide) (jst8 rfl) ?_
                    refine jv_goto 42 (pc := 238) d_IC_codeSymbols_238 rfl ?_
                    exact jv_sub [2, 3, 4, 5, 6, 7, 8] rfl (ih x2 (x3 + v76) ((0 : Int32) + v112) v230 (x6 + 1) _ _ _ H)
                  · have h171 : ¬ (x2 ≤ (x6 + (1 : Int32))) := h171
                    have H := (if_neg h171).symm.trans H
                    refine jv_aload_n 2 (pc := 174) d_IC_codeSymbols_174 rfl ?_
                    refine jv_getr (pc := 175) d_IC_codeSymbols_175 fa_IC_19_IC (by decide) rfl rfl ?_
                    refine jv_getr (pc := 178) d_IC_codeSymbols_178 fa_IC_170_SR (by decide) rfl rfl ?_
                    refine jv_iload 8 (pc := 181) d_IC_codeSymbols_181 rfl ?_
                    refine jv_iconst 1 (pc := 183) d_IC_codeSymbols_183 rfl ?_
                    refine jv_iadd (pc := 184) d_IC_codeSymbols_184 ?_
                    obtain ⟨b185, H⟩ := jck_some H
                    have p185 : (4 + (x6 + (1 : Int32)).toNatClampNeg) < 12 := jsy12 b185
                    refine jv_aald (pc := 185) d_IC_codeSymbols_185 (by decide) rfl b185 (jsy b185) ?_
                    refine jv_geti (pc := 186) d_IC_codeSymbols_186 fa_IC_115_PI (show 14 + 2 * (4 + (x6 + (1 : Int32)).toNatClampNeg) < jN by unfold jN; omega) (jshp_pic p185) rfl ?_
                    refine jv_iload_n 5 (pc := 189) d_IC_codeSymbols_189 rfl ?_
                    refine jv_icmp_ne 197 (pc := 190) d_IC_codeSymbols_190 rfl (fun h190 => ?_) (fun h190 => ?_)
                    · have h190 : ¬ ((n162 (14 + 2 * (4 + (x6 + (1 : Int32)).toNatClampNeg)) 2) = (x3 + v76)) := h190
                      have H := (if_neg h190).symm.trans H
                      refine jv_iconst 0 (pc := 197) d_IC_codeSymbols_197 rfl ?_
                      refine jv_istore (pc := 198) d_IC_codeSymbols_198 (by decide) (jst0 rfl) ?_
                      refine jv_aload_n 3 (pc := 200) d_IC_codeSymbols_200 rfl ?_
                      refine jv_iconst 5 (pc := 201) d_IC_codeSymbols_201 rfl ?_
                      refine jv_iload 0 (pc := 202) d_IC_codeSymbols_202 rfl ?_
                      refine jv_if_eq 228 (pc := 204) d_IC_codeSymbols_204 rfl (fun h204 => ?_) (fun h204 => absurd (show (0 : Int32) = 0 by decide) (show ¬ ((0 : Int32) = 0) from h204))
                      refine jv_ldc (-2147483648) (pc := 228) d_IC_codeSymbols_228 (jin3 99 rfl rfl) ?_
                      obtain ⟨v230, n230, c230, H⟩ := jbd_some H
                      refine jv_callSi (sp_NU_codeNumber_R (5 : Int32) (-2147483648 : Int32) c230) (pc := 230) d_IC_codeSymbols_230 c0_NU_codeNumber lk_IC_160 si_NU_codeNumber rfl (Nat.le_of_ble_eq_true rfl) ⟨by decide, by decide, by decide, by decide⟩ (fun r230 m230 h230 => ?_)
                      obtain ⟨ha230, hb230⟩ := h230
                      have ha230 := ha230.symm
                      subst ha230
                      have hb230 := hb230.symm
                      subst hb230
                      refine jv_istore (pc := 233) d_IC_codeSymbols_233 (by decide) (jst7 rfl) ?_
                      refine jv_iinc 8 _ (pc := 235) d_IC_codeSymbols_235 rfl (jinc1 _) (by decide) (jst8 rfl) ?_
                      refine jv_goto 42 (pc := 238) d_IC_codeSymbols_238 rfl ?_
                      exact jv_sub [2, 3, 4, 5, 6, 7, 8] rfl (ih x2 (x3 + v76) ((0 : Int32) + v112) v230 (x6 + 1) _ _ _ H)
                    · have h190 : (n162 (14 + 2 * (4 + (x6 + (1 : Int32)).toNatClampNeg)) 2) = (x3 + v76) := h190
                      have H := (if_pos h190).symm.trans H
                      refine jv_iconst 1 (pc := 193) d_IC_codeSymbols_193 rfl ?_
                      refine jv_goto 198 (pc := 194) d_IC_codeSymbols_194 rfl ?_
                      refine jv_istore (pc := 198) d_IC_codeSymbols_198 (by decide) (jst0 rfl) ?_
                      refine jv_aload_n 3 (pc := 200) d_IC_codeSymbols_200 rfl ?_
                      refine jv_iconst 5 (pc := 201) d_IC_codeSymbols_201 rfl ?_
                      refine jv_iload 0 (pc := 202) d_IC_codeSymbols_202 rfl ?_
                      refine jv_if_eq 228 (pc := 204) d_IC_codeSymbols_204 rfl (fun h204 => absurd (show (1 : Int32) = 0 from h204) (by decide)) (fun h204 => ?_)
                      refine jv_aload_n 2 (pc := 207) d_IC_codeSymbols_207 rfl ?_
                      refine jv_getr (pc := 208) d_IC_codeSymbols_208 fa_IC_19_IC (by decide) rfl rfl ?_
                      refine jv_getr (pc := 211) d_IC_codeSymbols_211 fa_IC_170_SR (by decide) rfl rfl ?_
                      refine jv_iload 8 (pc := 214) d_IC_codeSymbols_214 rfl ?_
                      refine jv_iconst 1 (pc := 216) d_IC_codeSymbols_216 rfl ?_
                      refine jv_iadd (pc := 217) d_IC_codeSymbols_217 ?_
                      obtain ⟨b218, H⟩ := jck_some H
                      have p218 : (4 + (x6 + (1 : Int32)).toNatClampNeg) < 12 := jsy12 b218
                      refine jv_aald (pc := 218) d_IC_codeSymbols_218 (by decide) rfl b218 (jsy b218) ?_
                      refine jv_geti (pc := 219) d_IC_codeSymbols_219 fa_IC_112_PI (show 14 + 2 * (4 + (x6 + (1 : Int32)).toNatClampNeg) < jN by unfold jN; omega) (jshp_pic p218) rfl ?_
                      refine jv_iload 6 (pc := 222) d_IC_codeSymbols_222 rfl ?_
                      refine jv_isub (pc := 224) d_IC_codeSymbols_224 ?_
                      refine jv_goto 230 (pc := 225) d_IC_codeSymbols_225 rfl ?_
                      obtain ⟨v230, n230, c230, H⟩ := jbd_some H
                      refine jv_callSi (sp_NU_codeNumber_R (5 : Int32) ((n162 (14 + 2 * (4 + (x6 + (1 : Int32)).toNatClampNeg)) 1) - ((0 : Int32) + v112)) c230) (pc := 230) d_IC_codeSymbols_230 c0_NU_codeNumber lk_IC_160 si_NU_codeNumber rfl (Nat.le_of_ble_eq_true rfl) ⟨by decide, by decide, by decide, by decide⟩ (fun r230 m230 h230 => ?_)
                      obtain ⟨ha230, hb230⟩ := h230
                      have ha230 := ha230.symm
                      subst ha230
                      have hb230 := hb230.symm
                      subst hb230
                      refine jv_istore (pc := 233) d_IC_codeSymbols_233 (by decide) (jst7 rfl) ?_
                      refine jv_iinc 8 _ (pc := 235) d_IC_codeSymbols_235 rfl (jinc1 _) (by decide) (jst8 rfl) ?_
                      refine jv_goto 42 (pc := 238) d_IC_codeSymbols_238 rfl ?_
                      exact jv_sub [2, 3, 4, 5, 6, 7, 8] rfl (ih x2 (x3 + v76) ((0 : Int32) + v112) v230 (x6 + 1) _ _ _ H)
                · have h146 : (n112 0 7) = (2 : Int32) := h146
                  have H := (if_pos h146).symm.trans H
                  refine jv_aload 1 (pc := 149) d_IC_codeSymbols_149 rfl ?_
                  refine jv_iload 6 (pc := 151) d_IC_codeSymbols_151 rfl ?_
                  refine jv_iload_n 5 (pc := 153) d_IC_codeSymbols_153 rfl ?_
                  obtain ⟨_, n154, c154, H⟩ := jbd_some H
                  refine jv_callVv (sp_PI_blank (4 + x6.toNatClampNeg) ((0 : Int32) + v112) (x3 + v76) p57 c154) (pc := 154) d_IC_codeSymbols_154 c0_PI_blank lk_IC_75 in_PI_blank se_PI_blank (show 14 + 2 * (4 + x6.toNatClampNeg) < jN by unfold jN; omega) (jshp_pic p57) rfl rfl (Nat.le_of_ble_eq_true rfl) ⟨by decide, by decide, by decide, by decide⟩ (fun m154 h154 => ?_)
                  have hb154 := h154
                  have hb154 := hb154.symm
                  subst hb154
                  refine jv_aload_n 3 (pc := 157) d_IC_codeSymbols_157 rfl ?_
                  refine jv_aload 1 (pc := 158) d_IC_codeSymbols_158 rfl ?_
                  refine jv_iconst 2 (pc := 160) d_IC_codeSymbols_160 rfl ?_
                  refine jv_iconst 0 (pc := 161) d_IC_codeSymbols_161 rfl ?_
                  obtain ⟨v162, n162, c162, H⟩ := jbd_some H
                  refine jv_callSi (sp_PT_codeRegion_R (4 + x6.toNatClampNeg) (2 : Int32) (0 : Int32) p57 c162) (pc := 162) d_IC_codeSymbols_162 c0_PT_codeRegion lk_IC_144 si_PT_codeRegion rfl (Nat.le_of_ble_eq_true rfl) ⟨by decide, by decide, by decide, by decide⟩ (fun r162 m162 h162 => ?_)
                  obtain ⟨ha162, hb162⟩ := h162
                  have ha162 := ha162.symm
                  subst ha162
                  have hb162 := hb162.symm
                  subst hb162
                  refine jv_pop (pc := 165) d_IC_codeSymbols_165 rfl ?_
                  refine jv_iload 8 (pc := 166) d_IC_codeSymbols_166 rfl ?_
                  refine jv_iconst 1 (pc := 168) d_IC_codeSymbols_168 rfl ?_
                  refine jv_iadd (pc := 169) d_IC_codeSymbols_169 ?_
                  refine jv_iload_n 4 (pc := 170) d_IC_codeSymbols_170 rfl ?_
                  refine jv_icmp_ge 197 (pc := 171) d_IC_codeSymbols_171 rfl (fun h171 => ?_) (fun h171 => ?_)
                  · have h171 : x2 ≤ (x6 + (1 : Int32)) := h171
                    have H := (if_pos h171).symm.trans H
                    refine jv_iconst 0 (pc := 197) d_IC_codeSymbols_197 rfl ?_
                    refine jv_istore (pc := 198) d_IC_codeSymbols_198 (by decide) (jst0 rfl) ?_
                    refine jv_aload_n 3 (pc := 200) d_IC_codeSymbols_200 rfl ?_
                    refine jv_iconst 5 (pc := 201) d_IC_codeSymbols_201 rfl ?_
                    refine jv_iload 0 (pc := 202) d_IC_codeSymbols_202 rfl ?_
                    refine jv_if_eq 228 (pc := 204) d_IC_codeSymbols_204 rfl (fun h204 => ?_) (fun h204 => absurd (show (0 : Int32) = 0 by decide) (show ¬ ((0 : Int32) = 0) from h204))
                    refine jv_ldc (-2147483648) (pc := 228) d_IC_codeSymbols_228 (jin3 99 rfl rfl) ?_
                    obtain ⟨v230, n230, c230, H⟩ := jbd_some H
                    refine jv_callSi (sp_NU_codeNumber_R (5 : Int32) (-2147483648 : Int32) c230) (pc := 230) d_IC_codeSymbols_230 c0_NU_codeNumber lk_IC_160 si_NU_codeNumber rfl (Nat.le_of_ble_eq_true rfl) ⟨by decide, by decide, by decide, by decide⟩ (fun r230 m230 h230 => ?_)
                    obtain ⟨ha230, hb230⟩ := h230
                    have ha230 := ha230.symm
                    subst ha230
                    have hb230 := hb230.symm
                    subst hb230
                    refine jv_istore (pc := 233) d_IC_codeSymbols_233 (by decide) (jst7 rfl) ?_
                    refine jv_iinc 8 _ (pc := 235) d_IC_codeSymbols_235 rfl (jinc1 _) (by decide) (jst8 rfl) ?_
                    refine jv_goto 42 (pc := 238) d_IC_codeSymbols_238 rfl ?_
                    exact jv_sub [2, 3, 4, 5, 6, 7, 8] rfl (ih x2 (x3 + v76) ((0 : Int32) + v112) v230 (x6 + 1) _ _ _ H)
                  · have h171 : ¬ (x2 ≤ (x6 + (1 : Int32))) := h171
                    have H := (if_neg h171).symm.trans H
                    refine jv_aload_n 2 (pc := 174) d_IC_codeSymbols_174 rfl ?_
                    refine jv_getr (pc := 175) d_IC_codeSymbols_175 fa_IC_19_IC (by decide) rfl rfl ?_
                    refine jv_getr (pc := 178) d_IC_codeSymbols_178 fa_IC_170_SR (by decide) rfl rfl ?_
                    refine jv_iload 8 (pc := 181) d_IC_codeSymbols_181 rfl ?_
                    refine jv_iconst 1 (pc := 183) d_IC_codeSymbols_183 rfl ?_
                    refine jv_iadd (pc := 184) d_IC_codeSymbols_184 ?_
                    obtain ⟨b185, H⟩ := jck_some H
                    have p185 : (4 + (x6 + (1 : Int32)).toNatClampNeg) < 12 := jsy12 b185
                    refine jv_aald (pc := 185) d_IC_codeSymbols_185 (by decide) rfl b185 (jsy b185) ?_
                    refine jv_geti (pc := 186) d_IC_codeSymbols_186 fa_IC_115_PI (show 14 + 2 * (4 + (x6 + (1 : Int32)).toNatClampNeg) < jN by unfold jN; omega) (jshp_pic p185) rfl ?_
                    refine jv_iload_n 5 (pc := 189) d_IC_codeSymbols_189 rfl ?_
                    refine jv_icmp_ne 197 (pc := 190) d_IC_codeSymbols_190 rfl (fun h190 => ?_) (fun h190 => ?_)
                    · have h190 : ¬ ((n162 (14 + 2 * (4 + (x6 + (1 : Int32)).toNatClampNeg)) 2) = (x3 + v76)) := h190
                      have H := (if_neg h190).symm.trans H
                      refine jv_iconst 0 (pc := 197) d_IC_codeSymbols_197 rfl ?_
                      refine jv_istore (pc := 198) d_IC_codeSymbols_198 (by decide) (jst0 rfl) ?_
                      refine jv_aload_n 3 (pc := 200) d_IC_codeSymbols_200 rfl ?_
                      refine jv_iconst 5 (pc := 201) d_IC_codeSymbols_201 rfl ?_
                      refine jv_iload 0 (pc := 202) d_IC_codeSymbols_202 rfl ?_
                      refine jv_if_eq 228 (pc := 204) d_IC_codeSymbols_204 rfl (fun h204 => ?_) (fun h204 => absurd (show (0 : Int32) = 0 by decide) (show ¬ ((0 : Int32) = 0) from h204))
                      refine jv_ldc (-2147483648) (pc := 228) d_IC_codeSymbols_228 (jin3 99 rfl rfl) ?_
                      obtain ⟨v230, n230, c230, H⟩ := jbd_some H
                      refine jv_callSi (sp_NU_codeNumber_R (5 : Int32) (-2147483648 : Int32) c230) (pc := 230) d_IC_codeSymbols_230 c0_NU_codeNumber lk_IC_160 si_NU_codeNumber rfl (Nat.le_of_ble_eq_true rfl) ⟨by decide, by decide, by decide, by decide⟩ (fun r230 m230 h230 => ?_)
                      obtain ⟨ha230, hb230⟩ := h230
                      have ha230 := ha230.symm
                      subst ha230
                      have hb230 := hb230.symm
                      subst hb230
                      refine jv_istore (pc := 233) d_IC_codeSymbols_233 (by decide) (jst7 rfl) ?_
                      refine jv_iinc 8 _ (pc := 235) d_IC_codeSymbols_235 rfl (jinc1 _) (by decide) (jst8 rfl) ?_
                      refine jv_goto 42 (pc := 238) d_IC_codeSymbols_238 rfl ?_
                      exact jv_sub [2, 3, 4, 5, 6, 7, 8] rfl (ih x2 (x3 + v76) ((0 : Int32) + v112) v230 (x6 + 1) _ _ _ H)
                    · have h190 : (n162 (14 + 2 * (4 + (x6 + (1 : Int32)).toNatClampNeg)) 2) = (x3 + v76) := h190
                      have H := (if_pos h190).symm.trans H
                      refine jv_iconst 1 (pc := 193) d_IC_codeSymbols_193 rfl ?_
                      refine jv_goto 198 (pc := 194) d_IC_codeSymbols_194 rfl ?_
                      refine jv_istore (pc := 198) d_IC_codeSymbols_198 (by decide) (jst0 rfl) ?_
                      refine jv_aload_n 3 (pc := 200) d_IC_codeSymbols_200 rfl ?_
                      refine jv_iconst 5 (pc := 201) d_IC_codeSymbols_201 rfl ?_
                      refine jv_iload 0 (pc := 202) d_IC_codeSymbols_202 rfl ?_
                      refine jv_if_eq 228 (pc := 204) d_IC_codeSymbols_204 rfl (fun h204 => absurd (show (1 : Int32) = 0 from h204) (by decide)) (fun h204 => ?_)
                      refine jv_aload_n 2 (pc := 207) d_IC_codeSymbols_207 rfl ?_
                      refine jv_getr (pc := 208) d_IC_codeSymbols_208 fa_IC_19_IC (by decide) rfl rfl ?_
                      refine jv_getr (pc := 211) d_IC_codeSymbols_211 fa_IC_170_SR (by decide) rfl rfl ?_
                      refine jv_iload 8 (pc := 214) d_IC_codeSymbols_214 rfl ?_
                      refine jv_iconst 1 (pc := 216) d_IC_codeSymbols_216 rfl ?_
                      refine jv_iadd (pc := 217) d_IC_codeSymbols_217 ?_
                      obtain ⟨b218, H⟩ := jck_some H
                      have p218 : (4 + (x6 + (1 : Int32)).toNatClampNeg) < 12 := jsy12 b218
                      refine jv_aald (pc := 218) d_IC_codeSymbols_218 (by decide) rfl b218 (jsy b218) ?_
                      refine jv_geti (pc := 219) d_IC_codeSymbols_219 fa_IC_112_PI (show 14 + 2 * (4 + (x6 + (1 : Int32)).toNatClampNeg) < jN by unfold jN; omega) (jshp_pic p218) rfl ?_
                      refine jv_iload 6 (pc := 222) d_IC_codeSymbols_222 rfl ?_
                      refine jv_isub (pc := 224) d_IC_codeSymbols_224 ?_
                      refine jv_goto 230 (pc := 225) d_IC_codeSymbols_225 rfl ?_
                      obtain ⟨v230, n230, c230, H⟩ := jbd_some H
                      refine jv_callSi (sp_NU_codeNumber_R (5 : Int32) ((n162 (14 + 2 * (4 + (x6 + (1 : Int32)).toNatClampNeg)) 1) - ((0 : Int32) + v112)) c230) (pc := 230) d_IC_codeSymbols_230 c0_NU_codeNumber lk_IC_160 si_NU_codeNumber rfl (Nat.le_of_ble_eq_true rfl) ⟨by decide, by decide, by decide, by decide⟩ (fun r230 m230 h230 => ?_)
                      obtain ⟨ha230, hb230⟩ := h230
                      have ha230 := ha230.symm
                      subst ha230
                      have hb230 := hb230.symm
                      subst hb230
                      refine jv_istore (pc := 233) d_IC_codeSymbols_233 (by decide) (jst7 rfl) ?_
                      refine jv_iinc 8 _ (pc := 235) d_IC_codeSymbols_235 rfl (jinc1 _) (by decide) (jst8 rfl) ?_
                      refine jv_goto 42 (pc := 238) d_IC_codeSymbols_238 rfl ?_
                      exact jv_sub [2, 3, 4, 5, 6, 7, 8] rfl (ih x2 (x3 + v76) ((0 : Int32) + v112) v230 (x6 + 1) _ _ _ H)
              · have h136 : (f_IC_isSide ((0 : Int32) + v112) n112) = 0 := h136
                have H := (if_pos h136).symm.trans H
                refine jv_iconst (-1) (pc := 139) d_IC_codeSymbols_139 rfl ?_
                refine jv_iret (pc := 140) d_IC_codeSymbols_140 rfl rfl (Nat.zero_le _) (Nat.zero_le _) ?_
                cases H
                exact jI.of ⟨rfl, rfl⟩
          · have h97 : (f_IC_isSide (x3 + v76) n76) = 0 := h97
            have H := (if_pos h97).symm.trans H
            refine jv_iconst (-1) (pc := 100) d_IC_codeSymbols_100 rfl ?_
            refine jv_iret (pc := 101) d_IC_codeSymbols_101 rfl rfl (Nat.zero_le _) (Nat.zero_le _) ?_
            cases H
            exact jI.of ⟨rfl, rfl⟩
set_option maxRecDepth 40000 in
set_option maxHeartbeats 8000000 in
theorem sp_IC_codeSymbols {G : jG} {σ τ : jMem} {r : Int32} (H : f_IC_codeSymbols σ = some (r, τ)) : jSp G M_IC_codeSymbols (jr 6 0 0) [.ref 0] σ (jI fun r9 τ9 => r9 = r ∧ τ9 = τ) := by
  refine jSp.of rfl rfl (Nat.le_of_ble_eq_true rfl) ?_
  show jV _ _ _ _ 0 0 0 [(0, .ref 0)] [] σ
  unfold f_IC_codeSymbols at H
  refine jv_aload_n 0 (pc := 0) d_IC_codeSymbols_0 rfl ?_
  refine jv_callVa (sp_IC_coder) (pc := 1) d_IC_codeSymbols_1 c0_IC_coder lk_IC_140 in_IC_coder se_IC_coder (by decide) rfl rfl rfl (Nat.le_of_ble_eq_true rfl) ⟨by decide, by decide, by decide, by decide⟩ (fun r1 m1 h1 => ?_)
  obtain ⟨ha1, hb1⟩ := h1
  subst ha1
  have hb1 := hb1.symm
  subst hb1
  have e1 : f_IC_coder σ = if σ 0 7 = 1 then 12 else 13 := rfl
  by_cases g1 : σ 0 7 = 1
  · rw [e1, if_pos g1]
    have H := (if_pos g1).symm.trans H
    refine jv_astore_n (pc := 4) d_IC_codeSymbols_4 rfl (by decide) (jsto_new rfl) ?_
    refine jv_aload_n 0 (pc := 5) d_IC_codeSymbols_5 rfl ?_
    refine jv_iconst 3 (pc := 6) d_IC_codeSymbols_6 rfl ?_
    refine jv_aload_n 1 (pc := 7) d_IC_codeSymbols_7 rfl ?_
    refine jv_getr (pc := 8) d_IC_codeSymbols_8 fa_IC_19_IC (by decide) rfl rfl ?_
    refine jv_geti (pc := 11) d_IC_codeSymbols_11 fa_IC_166_SR (by decide) rfl rfl ?_
    obtain ⟨v14, n14, c14, H⟩ := jbd_some H
    refine jv_callSi (sp_NU_codeNumber_W (3 : Int32) (σ 2 1) c14) (pc := 14) d_IC_codeSymbols_14 c0_NU_codeNumber lk_IC_160 si_NU_codeNumber rfl (Nat.le_of_ble_eq_true rfl) ⟨by decide, by decide, by decide, by decide⟩ (fun r14 m14 h14 => ?_)
    obtain ⟨ha14, hb14⟩ := h14
    have ha14 := ha14.symm
    subst ha14
    have hb14 := hb14.symm
    subst hb14
    refine jv_istore_n (pc := 17) d_IC_codeSymbols_17 rfl (by decide) (jsto_new rfl) ?_
    refine jv_iload_n 0 (pc := 18) d_IC_codeSymbols_18 rfl ?_
    refine jv_iconst 0 (pc := 19) d_IC_codeSymbols_19 rfl ?_
    refine jv_bipush (8) (pc := 20) d_IC_codeSymbols_20 rfl ?_
    refine jv_callSi (sp_IC_within v14 (0 : Int32) (8 : Int32)) (pc := 22) d_IC_codeSymbols_22 c0_IC_within lk_IC_97 si_IC_within rfl (Nat.le_of_ble_eq_true rfl) ⟨by decide, by decide, by decide, by decide⟩ (fun r22 m22 h22 => ?_)
    obtain ⟨ha22, hb22⟩ := h22
    subst ha22
    have hb22 := hb22.symm
    subst hb22
    refine jv_if_ne 30 (pc := 25) d_IC_codeSymbols_25 rfl (fun h25 => ?_) (fun h25 => ?_)
    · have h25 : ¬ ((f_IC_within v14 (0 : Int32) (8 : Int32) n14) = 0) := h25
      have H := (if_neg h25).symm.trans H
      refine jv_iconst 0 (pc := 30) d_IC_codeSymbols_30 rfl ?_
      refine jv_istore_n (pc := 31) d_IC_codeSymbols_31 rfl (by decide) (jsto_new rfl) ?_
      refine jv_iconst 0 (pc := 32) d_IC_codeSymbols_32 rfl ?_
      refine jv_istore (pc := 33) d_IC_codeSymbols_33 (by decide) (jsto_new rfl) ?_
      refine jv_ldc (-2147483648) (pc := 35) d_IC_codeSymbols_35 (jin3 99 rfl rfl) ?_
      refine jv_istore (pc := 37) d_IC_codeSymbols_37 (by decide) (jsto_new rfl) ?_
      refine jv_iconst 0 (pc := 39) d_IC_codeSymbols_39 rfl ?_
      refine jv_istore (pc := 40) d_IC_codeSymbols_40 (by decide) (jsto_new rfl) ?_
      exact jv_sub [6, 5, 4, 3, 2, 1, 0] rfl (lp_IC_codeSymbols_42W  _ v14 (0 : Int32) (0 : Int32) (-2147483648 : Int32) (0 : Int32) _ _ _ H)
    · have h25 : (f_IC_within v14 (0 : Int32) (8 : Int32) n14) = 0 := h25
      have H := (if_pos h25).symm.trans H
      refine jv_iconst (-1) (pc := 28) d_IC_codeSymbols_28 rfl ?_
      refine jv_iret (pc := 29) d_IC_codeSymbols_29 rfl rfl (Nat.zero_le _) (Nat.zero_le _) ?_
      cases H
      exact jI.of ⟨rfl, rfl⟩
  · rw [e1, if_neg g1]
    have H := (if_neg g1).symm.trans H
    refine jv_astore_n (pc := 4) d_IC_codeSymbols_4 rfl (by decide) (jsto_new rfl) ?_
    refine jv_aload_n 0 (pc := 5) d_IC_codeSymbols_5 rfl ?_
    refine jv_iconst 3 (pc := 6) d_IC_codeSymbols_6 rfl ?_
    refine jv_aload_n 1 (pc := 7) d_IC_codeSymbols_7 rfl ?_
    refine jv_getr (pc := 8) d_IC_codeSymbols_8 fa_IC_19_IC (by decide) rfl rfl ?_
    refine jv_geti (pc := 11) d_IC_codeSymbols_11 fa_IC_166_SR (by decide) rfl rfl ?_
    obtain ⟨v14, n14, c14, H⟩ := jbd_some H
    refine jv_callSi (sp_NU_codeNumber_R (3 : Int32) (σ 2 1) c14) (pc := 14) d_IC_codeSymbols_14 c0_NU_codeNumber lk_IC_160 si_NU_codeNumber rfl (Nat.le_of_ble_eq_true rfl) ⟨by decide, by decide, by decide, by decide⟩ (fun r14 m14 h14 => ?_)
    obtain ⟨ha14, hb14⟩ := h14
    have ha14 := ha14.symm
    subst ha14
    have hb14 := hb14.symm
    subst hb14
    refine jv_istore_n (pc := 17) d_IC_codeSymbols_17 rfl (by decide) (jsto_new rfl) ?_
    refine jv_iload_n 0 (pc := 18) d_IC_codeSymbols_18 rfl ?_
    refine jv_iconst 0 (pc := 19) d_IC_codeSymbols_19 rfl ?_
    refine jv_bipush (8) (pc := 20) d_IC_codeSymbols_20 rfl ?_
    refine jv_callSi (sp_IC_within v14 (0 : Int32) (8 : Int32)) (pc := 22) d_IC_codeSymbols_22 c0_IC_within lk_IC_97 si_IC_within rfl (Nat.le_of_ble_eq_true rfl) ⟨by decide, by decide, by decide, by decide⟩ (fun r22 m22 h22 => ?_)
    obtain ⟨ha22, hb22⟩ := h22
    subst ha22
    have hb22 := hb22.symm
    subst hb22
    refine jv_if_ne 30 (pc := 25) d_IC_codeSymbols_25 rfl (fun h25 => ?_) (fun h25 => ?_)
    · have h25 : ¬ ((f_IC_within v14 (0 : Int32) (8 : Int32) n14) = 0) := h25
      have H := (if_neg h25).symm.trans H
      refine jv_iconst 0 (pc := 30) d_IC_codeSymbols_30 rfl ?_
      refine jv_istore_n (pc := 31) d_IC_codeSymbols_31 rfl (by decide) (jsto_new rfl) ?_
      refine jv_iconst 0 (pc := 32) d_IC_codeSymbols_32 rfl ?_
      refine jv_istore (pc := 33) d_IC_codeSymbols_33 (by decide) (jsto_new rfl) ?_
      refine jv_ldc (-2147483648) (pc := 35) d_IC_codeSymbols_35 (jin3 99 rfl rfl) ?_
      refine jv_istore (pc := 37) d_IC_codeSymbols_37 (by decide) (jsto_new rfl) ?_
      refine jv_iconst 0 (pc := 39) d_IC_codeSymbols_39 rfl ?_
      refine jv_istore (pc := 40) d_IC_codeSymbols_40 (by decide) (jsto_new rfl) ?_
      exact jv_sub [6, 5, 4, 3, 2, 1, 0] rfl (lp_IC_codeSymbols_42R  _ v14 (0 : Int32) (0 : Int32) (-2147483648 : Int32) (0 : Int32) _ _ _ H)
    · have h25 : (f_IC_within v14 (0 : Int32) (8 : Int32) n14) = 0 := h25
      have H := (if_pos h25).symm.trans H
      refine jv_iconst (-1) (pc := 28) d_IC_codeSymbols_28 rfl ?_
      refine jv_iret (pc := 29) d_IC_codeSymbols_29 rfl rfl (Nat.zero_le _) (Nat.zero_le _) ?_
      cases H
      exact jI.of ⟨rfl, rfl⟩
set_option maxRecDepth 40000 in
set_option maxHeartbeats 8000000 in
theorem lp_IC_codeMarks_48W {G : jG} : ∀ (n : Nat) (x1 x2 x4 x5 x6 x7 x8 x9 : Int32) (σ τ : jMem) (r : Int32), f_IC_codeMarks_L48W n x1 x2 x4 x5 x6 x7 x8 x9 σ = some (r, τ) → jV G M_IC_codeMarks (jr 6 0 0) (jI fun r9 τ9 => r9 = r ∧ τ9 = τ) 0 0 48 [(0, .ref 0), (1, .int x1), (2, .int x2), (3, .ref 12), (4, .int x4), (5, .int x5), (6, .int x6), (7, .int x7), (8, .int x8), (9, .int x9)] [] σ := by
  intro n
  induction n with
  | zero =>
    intro x1 x2 x4 x5 x6 x7 x8 x9 σ τ r H
    cases H
  | succ n ih =>
    intro x1 x2 x4 x5 x6 x7 x8 x9 σ τ r H
    rw [f_IC_codeMarks_L48W.eq_2] at H
    refine jv_iload 9 (pc := 48) d_IC_codeMarks_48 rfl ?_
    refine jv_iload 4 (pc := 50) d_IC_codeMarks_50 rfl ?_
    refine jv_icmp_ge 309 (pc := 52) d_IC_codeMarks_52 rfl (fun h52 => ?_) (fun h52 => ?_)
    · have h52 : x4 ≤ x9 := h52
      have H := (if_pos h52).symm.trans H
      refine jv_iload 8 (pc := 309) d_IC_codeMarks_309 rfl ?_
      refine jv_ldc (-2147483648) (pc := 311) d_IC_codeMarks_311 (jin3 99 rfl rfl) ?_
      refine jv_icmp_ne 321 (pc := 313) d_IC_codeMarks_313 rfl (fun h313 => ?_) (fun h313 => ?_)
      · have h313 : ¬ (x8 = (-2147483648 : Int32)) := h313
        have H := (if_neg h313).symm.trans H
        refine jv_iconst (-1) (pc := 321) d_IC_codeMarks_321 rfl ?_
        refine jv_iret (pc := 322) d_IC_codeMarks_322 rfl rfl (Nat.zero_le _) (Nat.zero_le _) ?_
        cases H
        exact jI.of ⟨rfl, rfl⟩
      · have h313 : x8 = (-2147483648 : Int32) := h313
        have H := (if_pos h313).symm.trans H
        refine jv_iload 4 (pc := 316) d_IC_codeMarks_316 rfl ?_
        refine jv_goto 322 (pc := 318) d_IC_codeMarks_318 rfl ?_
        refine jv_iret (pc := 322) d_IC_codeMarks_322 rfl rfl (Nat.zero_le _) (Nat.zero_le _) ?_
        cases H
        exact jI.of ⟨rfl, rfl⟩
    · have h52 : ¬ (x4 ≤ x9) := h52
      have H := (if_neg h52).symm.trans H
      refine jv_iload 8 (pc := 55) d_IC_codeMarks_55 rfl ?_
      refine jv_ldc (-2147483648) (pc := 57) d_IC_codeMarks_57 (jin3 99 rfl rfl) ?_
      refine jv_icmp_ne 149 (pc := 59) d_IC_codeMarks_59 rfl (fun h59 => ?_) (fun h59 => ?_)
      · have h59 : ¬ (x8 = (-2147483648 : Int32)) := h59
        have H := (if_neg h59).symm.trans H
        refine jv_iload 7 (pc := 149) d_IC_codeMarks_149 rfl ?_
        refine jv_iload 8 (pc := 151) d_IC_codeMarks_151 rfl ?_
        refine jv_iadd (pc := 153) d_IC_codeMarks_153 ?_
        refine jv_istore (pc := 154) d_IC_codeMarks_154 (by decide) (jst7 rfl) ?_
        refine jv_aload_n 3 (pc := 156) d_IC_codeMarks_156 rfl ?_
        refine jv_aload_n 0 (pc := 157) d_IC_codeMarks_157 rfl ?_
        refine jv_getr (pc := 158) d_IC_codeMarks_158 fa_IC_26_IC (by decide) rfl rfl ?_
        refine jv_getr (pc := 161) d_IC_codeMarks_161 fa_IC_187_MR (by decide) rfl rfl ?_
        refine jv_iload 9 (pc := 164) d_IC_codeMarks_164 rfl ?_
        obtain ⟨b166, H⟩ := jck_some H
        refine jv_iald (pc := 166) d_IC_codeMarks_166 (by decide) rfl b166 ?_
        obtain ⟨v167, n167, c167, H⟩ := jbd_some H
        refine jv_callSi (sp_NU_codeIndex_W (σ 5 x9.toNatClampNeg) c167) (pc := 167) d_IC_codeMarks_167 c0_NU_codeIndex lk_IC_211 si_NU_codeIndex rfl (Nat.le_of_ble_eq_true rfl) ⟨by decide, by decide, by decide, by decide⟩ (fun r167 m167 h167 => ?_)
        obtain ⟨ha167, hb167⟩ := h167
        have ha167 := ha167.symm
        subst ha167
        have hb167 := hb167.symm
        subst hb167
        refine jv_istore (pc := 170) d_IC_codeMarks_170 (by decide) (jsto_new rfl) ?_
        refine jv_aload_n 1 (pc := 172) d_IC_codeMarks_172 rfl ?_
        refine jv_iload 0 (pc := 173) d_IC_codeMarks_173 rfl ?_
        refine jv_callVi (sp_IC_isSymbol v167) (pc := 175) d_IC_codeMarks_175 c0_IC_isSymbol lk_IC_215 in_IC_isSymbol se_IC_isSymbol (by decide) rfl rfl rfl (Nat.le_of_ble_eq_true rfl) ⟨by decide, by decide, by decide, by decide⟩ (fun r175 m175 h175 => ?_)
        obtain ⟨ha175, hb175⟩ := h175
        subst ha175
        have hb175 := hb175.symm
        subst hb175
        refine jv_if_ne 183 (pc := 178) d_IC_codeMarks_178 rfl (fun h178 => ?_) (fun h178 => ?_)
        · have h178 : ¬ ((f_IC_isSymbol v167 n167) = 0) := h178
          have H := (if_neg h178).symm.trans H
          refine jv_iload 8 (pc := 183) d_IC_codeMarks_183 rfl ?_
          refine jv_aload_n 1 (pc := 185) d_IC_codeMarks_185 rfl ?_
          refine jv_iload 0 (pc := 186) d_IC_codeMarks_186 rfl ?_
          refine jv_iload_n 2 (pc := 188) d_IC_codeMarks_188 rfl ?_
          refine jv_iload_n 3 (pc := 189) d_IC_codeMarks_189 rfl ?_
          obtain ⟨v190, n190, c190, H⟩ := jbd_some H
          refine jv_callVi (sp_IC_before v167 x1 x2 c190) (pc := 190) d_IC_codeMarks_190 c0_IC_before lk_IC_218 in_IC_before se_IC_before (by decide) rfl rfl rfl (Nat.le_of_ble_eq_true rfl) ⟨by decide, by decide, by decide, by decide⟩ (fun r190 m190 h190 => ?_)
          obtain ⟨ha190, hb190⟩ := h190
          have ha190 := ha190.symm
          subst ha190
          have hb190 := hb190.symm
          subst hb190
          refine jv_iadd (pc := 193) d_IC_codeMarks_193 ?_
          refine jv_istore (pc := 194) d_IC_codeMarks_194 (by decide) (jsto_new rfl) ?_
          refine jv_iload 0 (pc := 196) d_IC_codeMarks_196 rfl ?_
          refine jv_sipush (-1000) (pc := 198) d_IC_codeMarks_198 rfl ?_
          refine jv_sipush (1000) (pc := 201) d_IC_codeMarks_201 rfl ?_
          refine jv_callSi (sp_IC_within ((x7 + x8) + v190) (-1000 : Int32) (1000 : Int32)) (pc := 204) d_IC_codeMarks_204 c0_IC_within lk_IC_97 si_IC_within rfl (Nat.le_of_ble_eq_true rfl) ⟨by decide, by decide, by decide, by decide⟩ (fun r204 m204 h204 => ?_)
          obtain ⟨ha204, hb204⟩ := h204
          subst ha204
          have hb204 := hb204.symm
          subst hb204
          refine jv_if_ne 212 (pc := 207) d_IC_codeMarks_207 rfl (fun h207 => ?_) (fun h207 => ?_)
          · have h207 : ¬ ((f_IC_within ((x7 + x8) + v190) (-1000 : Int32) (1000 : Int32) n190) = 0) := h207
            have H := (if_neg h207).symm.trans H
            refine jv_aload_n 2 (pc := 212) d_IC_codeMarks_212 rfl ?_
            refine jv_getr (pc := 213) d_IC_codeMarks_213 fa_IC_26_IC (by decide) rfl rfl ?_
            refine jv_iload 11 (pc := 216) d_IC_codeMarks_216 rfl ?_
            refine jv_iload 1 (pc := 218) d_IC_codeMarks_218 rfl ?_
            refine jv_iload 0 (pc := 220) d_IC_codeMarks_220 rfl ?_
            refine jv_iload 7 (pc := 222) d_IC_codeMarks_222 rfl ?_
            obtain ⟨_, n224, c224, H⟩ := jbd_some H
            refine jv_callVv (sp_MR_set x9 v167 ((x7 + x8) + v190) x5 c224) (pc := 224) d_IC_codeMarks_224 c0_MR_set lk_IC_184 in_MR_set se_MR_set (by decide) rfl rfl rfl (Nat.le_of_ble_eq_true rfl) ⟨by decide, by decide, by decide, by decide⟩ (fun m224 h224 => ?_)
            have hb224 := h224
            have hb224 := hb224.symm
            subst hb224
            refine jv_iload 9 (pc := 227) d_IC_codeMarks_227 rfl ?_
            refine jv_aload_n 2 (pc := 229) d_IC_codeMarks_229 rfl ?_
            refine jv_iload 1 (pc := 230) d_IC_codeMarks_230 rfl ?_
            refine jv_iload_n 4 (pc := 232) d_IC_codeMarks_232 rfl ?_
            obtain ⟨v233, n233, c233, H⟩ := jbd_some H
            refine jv_callVi (sp_IC_extent v167 x2 c233) (pc := 233) d_IC_codeMarks_233 c0_IC_extent lk_IC_221 in_IC_extent se_IC_extent (by decide) rfl rfl rfl (Nat.le_of_ble_eq_true rfl) ⟨by decide, by decide, by decide, by decide⟩ (fun r233 m233 h233 => ?_)
            obtain ⟨ha233, hb233⟩ := h233
            have ha233 := ha233.symm
            subst ha233
            have hb233 := hb233.symm
            subst hb233
            refine jv_iadd (pc := 236) d_IC_codeMarks_236 ?_
            refine jv_istore (pc := 237) d_IC_codeMarks_237 (by decide) (jst9 rfl) ?_
            refine jv_iload 11 (pc := 239) d_IC_codeMarks_239 rfl ?_
            refine jv_iconst 1 (pc := 241) d_IC_codeMarks_241 rfl ?_
            refine jv_iadd (pc := 242) d_IC_codeMarks_242 ?_
            refine jv_iload 6 (pc := 243) d_IC_codeMarks_243 rfl ?_
            refine jv_icmp_ge 269 (pc := 245) d_IC_codeMarks_245 rfl (fun h245 => ?_) (fun h245 => ?_)
            · have h245 : x4 ≤ (x9 + (1 : Int32)) := h245
              have H := (if_pos h245).symm.trans H
              refine jv_iconst 0 (pc := 269) d_IC_codeMarks_269 rfl ?_
              refine jv_istore (pc := 270) d_IC_codeMarks_270 (by decide) (jsto_new rfl) ?_
              refine jv_aload_n 6 (pc := 272) d_IC_codeMarks_272 rfl ?_
              refine jv_bipush (8) (pc := 273) d_IC_codeMarks_273 rfl ?_
              refine jv_iload 0 (pc := 275) d_IC_codeMarks_275 rfl ?_
              refine jv_if_eq 296 (pc := 277) d_IC_codeMarks_277 rfl (fun h277 => ?_) (fun h277 => absurd (show (0 : Int32) = 0 by decide) (show ¬ ((0 : Int32) = 0) from h277))
              refine jv_ldc (-2147483648) (pc := 296) d_IC_codeMarks_296 (jin3 99 rfl rfl) ?_
              obtain ⟨v298, n298, c298, H⟩ := jbd_some H
              refine jv_callSi (sp_NU_codeNumber_W (8 : Int32) (-2147483648 : Int32) c298) (pc := 298) d_IC_codeMarks_298 c0_NU_codeNumber lk_IC_160 si_NU_codeNumber rfl (Nat.le_of_ble_eq_true rfl) ⟨by decide, by decide, by decide, by decide⟩ (fun r298 m298 h298 => ?_)
              obtain ⟨ha298, hb298⟩ := h298
              have ha298 := ha298.symm
              subst ha298
              have hb298 := hb298.symm
              subst hb298
              refine jv_istore (pc := 301) d_IC_codeMarks_301 (by decide) (jst11 rfl) ?_
              refine jv_iinc 12 _ (pc := 303) d_IC_codeMarks_303 rfl (jinc1 _) (by decide) (jst12 rfl) ?_
              refine jv_goto 48 (pc := 306) d_IC_codeMarks_306 rfl ?_
              exact jv_sub [3, 4, 5, 6, 7, 8, 9, 10, 11, 12] rfl (ih x1 x2 x4 x5 x6 ((x7 + x8) + v233) v298 (x9 + 1) _ _ _ H)
            · have h245 : ¬ (x4 ≤ (x9 + (1 : Int32))) := h245
              have H := (if_neg h245).symm.trans H
              refine jv_aload_n 2 (pc := 248) d_IC_codeMarks_248 rfl ?_
              refine jv_getr (pc := 249) d_IC_codeMarks_249 fa_IC_26_IC (by decide) rfl rfl ?_
              refine jv_getr (pc := 252) d_IC_codeMarks_252 fa_IC_193_MR (by decide) rfl rfl ?_
              refine jv_iload 11 (pc := 255) d_IC_codeMarks_255 rfl ?_
              refine jv_iconst 1 (pc := 257) d_IC_codeMarks_257 rfl ?_
              refine jv_iadd (pc := 258) d_IC_codeMarks_258 ?_
              obtain ⟨b259, H⟩ := jck_some H
              refine jv_iald (pc := 259) d_IC_codeMarks_259 (by decide) rfl b259 ?_
              refine jv_iload 7 (pc := 260) d_IC_codeMarks_260 rfl ?_
              refine jv_icmp_ne 269 (pc := 262) d_IC_codeMarks_262 rfl (fun h262 => ?_) (fun h262 => ?_)
              · have h262 : ¬ ((n233 7 ((x9 + (1 : Int32)).toNatClampNeg)) = x5) := h262
                have H := (if_neg h262).symm.trans H
                refine jv_iconst 0 (pc := 269) d_IC_codeMarks_269 rfl ?_
                refine jv_istore (pc := 270) d_IC_codeMarks_270 (by decide) (jsto_new rfl) ?_
                refine jv_aload_n 6 (pc := 272) d_IC_codeMarks_272 rfl ?_
                refine jv_bipush (8) (pc := 273) d_IC_codeMarks_273 rfl ?_
                refine jv_iload 0 (pc := 275) d_IC_codeMarks_275 rfl ?_
                refine jv_if_eq 296 (pc := 277) d_IC_codeMarks_277 rfl (fun h277 => ?_) (fun h277 => absurd (show (0 : Int32) = 0 by decide) (show ¬ ((0 : Int32) = 0) from h277))
                refine jv_ldc (-2147483648) (pc := 296) d_IC_codeMarks_296 (jin3 99 rfl rfl) ?_
                obtain ⟨v298, n298, c298, H⟩ := jbd_some H
                refine jv_callSi (sp_NU_codeNumber_W (8 : Int32) (-2147483648 : Int32) c298) (pc := 298) d_IC_codeMarks_298 c0_NU_codeNumber lk_IC_160 si_NU_codeNumber rfl (Nat.le_of_ble_eq_true rfl) ⟨by decide, by decide, by decide, by decide⟩ (fun r298 m298 h298 => ?_)
                obtain ⟨ha298, hb298⟩ := h298
                have ha298 := ha298.symm
                subst ha298
                have hb298 := hb298.symm
                subst hb298
                refine jv_istore (pc := 301) d_IC_codeMarks_301 (by decide) (jst11 rfl) ?_
                refine jv_iinc 12 _ (pc := 303) d_IC_codeMarks_303 rfl (jinc1 _) (by decide) (jst12 rfl) ?_
                refine jv_goto 48 (pc := 306) d_IC_codeMarks_306 rfl ?_
                exact jv_sub [3, 4, 5, 6, 7, 8, 9, 10, 11, 12] rfl (ih x1 x2 x4 x5 x6 ((x7 + x8) + v233) v298 (x9 + 1) _ _ _ H)
              · have h262 : (n233 7 ((x9 + (1 : Int32)).toNatClampNeg)) = x5 := h262
                have H := (if_pos h262).symm.trans H
                refine jv_iconst 1 (pc := 265) d_IC_codeMarks_265 rfl ?_
                refine jv_goto 270 (pc := 266) d_IC_codeMarks_266 rfl ?_
                refine jv_istore (pc := 270) d_IC_codeMarks_270 (by decide) (jsto_new rfl) ?_
                refine jv_aload_n 6 (pc := 272) d_IC_codeMarks_272 rfl ?_
                refine jv_bipush (8) (pc := 273) d_IC_codeMarks_273 rfl ?_
                refine jv_iload 0 (pc := 275) d_IC_codeMarks_275 rfl ?_
                refine jv_if_eq 296 (pc := 277) d_IC_codeMarks_277 rfl (fun h277 => absurd (show (1 : Int32) = 0 from h277) (by decide)) (fun h277 => ?_)
                refine jv_aload_n 3 (pc := 280) d_IC_codeMarks_280 rfl ?_
                refine jv_iload 12 (pc := 281) d_IC_codeMarks_281 rfl ?_
                refine jv_iconst 1 (pc := 283) d_IC_codeMarks_283 rfl ?_
                refine jv_iadd (pc := 284) d_IC_codeMarks_284 ?_
                refine jv_iload_n 4 (pc := 285) d_IC_codeMarks_285 rfl ?_
                refine jv_iload_n 5 (pc := 286) d_IC_codeMarks_286 rfl ?_
                obtain ⟨v287, n287, c287, H⟩ := jbd_some H
                refine jv_callVi (sp_IC_startOf (x9 + (1 : Int32)) x1 x2 c287) (pc := 287) d_IC_codeMarks_287 c0_IC_startOf lk_IC_207 in_IC_startOf se_IC_startOf (by decide) rfl rfl rfl (Nat.le_of_ble_eq_true rfl) ⟨by decide, by decide, by decide, by decide⟩ (fun r287 m287 h287 => ?_)
                obtain ⟨ha287, hb287⟩ := h287
                have ha287 := ha287.symm
                subst ha287
                have hb287 := hb287.symm
                subst hb287
                refine jv_iload 10 (pc := 290) d_IC_codeMarks_290 rfl ?_
                refine jv_isub (pc := 292) d_IC_codeMarks_292 ?_
                refine jv_goto 298 (pc := 293) d_IC_codeMarks_293 rfl ?_
                obtain ⟨v298, n298, c298, H⟩ := jbd_some H
                refine jv_callSi (sp_NU_codeNumber_W (8 : Int32) (v287 - ((x7 + x8) + v233)) c298) (pc := 298) d_IC_codeMarks_298 c0_NU_codeNumber lk_IC_160 si_NU_codeNumber rfl (Nat.le_of_ble_eq_true rfl) ⟨by decide, by decide, by decide, by decide⟩ (fun r298 m298 h298 => ?_)
                obtain ⟨ha298, hb298⟩ := h298
                have ha298 := ha298.symm
                subst ha298
                have hb298 := hb298.symm
                subst hb298
                refine jv_istore (pc := 301) d_IC_codeMarks_301 (by decide) (jst11 rfl) ?_
                refine jv_iinc 12 _ (pc := 303) d_IC_codeMarks_303 rfl (jinc1 _) (by decide) (jst12 rfl) ?_
                refine jv_goto 48 (pc := 306) d_IC_codeMarks_306 rfl ?_
                exact jv_sub [3, 4, 5, 6, 7, 8, 9, 10, 11, 12] rfl (ih x1 x2 x4 x5 x6 ((x7 + x8) + v233) v298 (x9 + 1) _ _ _ H)
          · have h207 : (f_IC_within ((x7 + x8) + v190) (-1000 : Int32) (1000 : Int32) n190) = 0 := h207
            have H := (if_pos h207).symm.trans H
            refine jv_iconst (-1) (pc := 210) d_IC_codeMarks_210 rfl ?_
            refine jv_iret (pc := 211) d_IC_codeMarks_211 rfl rfl (Nat.zero_le _) (Nat.zero_le _) ?_
            cases H
            exact jI.of ⟨rfl, rfl⟩
        · have h178 : (f_IC_isSymbol v167 n167) = 0 := h178
          have H := (if_pos h178).symm.trans H
          refine jv_iconst (-1) (pc := 181) d_IC_codeMarks_181 rfl ?_
          refine jv_iret (pc := 182) d_IC_codeMarks_182 rfl rfl (Nat.zero_le _) (Nat.zero_le _) ?_
          cases H
          exact jI.of ⟨rfl, rfl⟩
      · have h59 : x8 = (-2147483648 : Int32) := h59
        have H := (if_pos h59).symm.trans H
        refine jv_aload_n 3 (pc := 62) d_IC_codeMarks_62 rfl ?_
        refine jv_bipush (6) (pc := 63) d_IC_codeMarks_63 rfl ?_
        refine jv_aload_n 0 (pc := 65) d_IC_codeMarks_65 rfl ?_
        refine jv_getr (pc := 66) d_IC_codeMarks_66 fa_IC_26_IC (by decide) rfl rfl ?_
        refine jv_getr (pc := 69) d_IC_codeMarks_69 fa_IC_193_MR (by decide) rfl rfl ?_
        refine jv_iload 9 (pc := 72) d_IC_codeMarks_72 rfl ?_
        obtain ⟨b74, H⟩ := jck_some H
        refine jv_iald (pc := 74) d_IC_codeMarks_74 (by decide) rfl b74 ?_
        refine jv_iload 5 (pc := 75) d_IC_codeMarks_75 rfl ?_
        refine jv_isub (pc := 77) d_IC_codeMarks_77 ?_
        obtain ⟨v78, n78, c78, H⟩ := jbd_some H
        refine jv_callSi (sp_NU_codeNumber_W (6 : Int32) ((σ 7 x9.toNatClampNeg) - x5) c78) (pc := 78) d_IC_codeMarks_78 c0_NU_codeNumber lk_IC_160 si_NU_codeNumber rfl (Nat.le_of_ble_eq_true rfl) ⟨by decide, by decide, by decide, by decide⟩ (fun r78 m78 h78 => ?_)
        obtain ⟨ha78, hb78⟩ := h78
        have ha78 := ha78.symm
        subst ha78
        have hb78 := hb78.symm
        subst hb78
        refine jv_istore (pc := 81) d_IC_codeMarks_81 (by decide) (jsto_new rfl) ?_
        refine jv_iload 6 (pc := 83) d_IC_codeMarks_83 rfl ?_
        refine jv_iload 0 (pc := 85) d_IC_codeMarks_85 rfl ?_
        refine jv_iadd (pc := 87) d_IC_codeMarks_87 ?_
        refine jv_istore (pc := 88) d_IC_codeMarks_88 (by decide) (jst6 rfl) ?_
        refine jv_iload 0 (pc := 90) d_IC_codeMarks_90 rfl ?_
        refine jv_ldc (-2147483648) (pc := 92) d_IC_codeMarks_92 (jin3 99 rfl rfl) ?_
        refine jv_icmp_eq 105 (pc := 94) d_IC_codeMarks_94 rfl (fun h94 => ?_) (fun h94 => ?_)
        · have h94 : v78 = (-2147483648 : Int32) := h94
          have H := (if_pos h94).symm.trans H
          refine jv_iconst (-1) (pc := 105) d_IC_codeMarks_105 rfl ?_
          refine jv_iret (pc := 106) d_IC_codeMarks_106 rfl rfl (Nat.zero_le _) (Nat.zero_le _) ?_
          cases H
          exact jI.of ⟨rfl, rfl⟩
        · have h94 : ¬ (v78 = (-2147483648 : Int32)) := h94
          have H := (if_neg h94).symm.trans H
          refine jv_iload 6 (pc := 97) d_IC_codeMarks_97 rfl ?_
          refine jv_callSi (sp_IC_isPlace (x5 + v78)) (pc := 99) d_IC_codeMarks_99 c0_IC_isPlace lk_IC_101 si_IC_isPlace rfl (Nat.le_of_ble_eq_true rfl) ⟨by decide, by decide, by decide, by decide⟩ (fun r99 m99 h99 => ?_)
          obtain ⟨ha99, hb99⟩ := h99
          subst ha99
          have hb99 := hb99.symm
          subst hb99
          refine jv_if_ne 107 (pc := 102) d_IC_codeMarks_102 rfl (fun h102 => ?_) (fun h102 => ?_)
          · have h102 : ¬ ((f_IC_isPlace (x5 + v78) n78) = 0) := h102
            have H := (if_neg h102).symm.trans H
            refine jv_aload_n 4 (pc := 107) d_IC_codeMarks_107 rfl ?_
            refine jv_bipush (7) (pc := 108) d_IC_codeMarks_108 rfl ?_
            refine jv_aload_n 1 (pc := 110) d_IC_codeMarks_110 rfl ?_
            refine jv_iload 10 (pc := 111) d_IC_codeMarks_111 rfl ?_
            refine jv_iload_n 2 (pc := 113) d_IC_codeMarks_113 rfl ?_
            refine jv_iload_n 3 (pc := 114) d_IC_codeMarks_114 rfl ?_
            obtain ⟨v115, n115, c115, H⟩ := jbd_some H
            refine jv_callVi (sp_IC_startOf x9 x1 x2 c115) (pc := 115) d_IC_codeMarks_115 c0_IC_startOf lk_IC_207 in_IC_startOf se_IC_startOf (by decide) rfl rfl rfl (Nat.le_of_ble_eq_true rfl) ⟨by decide, by decide, by decide, by decide⟩ (fun r115 m115 h115 => ?_)
            obtain ⟨ha115, hb115⟩ := h115
            have ha115 := ha115.symm
            subst ha115
            have hb115 := hb115.symm
            subst hb115
            refine jv_iload 7 (pc := 118) d_IC_codeMarks_118 rfl ?_
            refine jv_isub (pc := 120) d_IC_codeMarks_120 ?_
            obtain ⟨v121, n121, c121, H⟩ := jbd_some H
            refine jv_callSi (sp_NU_codeNumber_W (7 : Int32) (v115 - x6) c121) (pc := 121) d_IC_codeMarks_121 c0_NU_codeNumber lk_IC_160 si_NU_codeNumber rfl (Nat.le_of_ble_eq_true rfl) ⟨by decide, by decide, by decide, by decide⟩ (fun r121 m121 h121 => ?_)
            obtain ⟨ha121, hb121⟩ := h121
            have ha121 := ha121.symm
            subst ha121
            have hb121 := hb121.symm
            subst hb121
            refine jv_istore (pc := 124) d_IC_codeMarks_124 (by decide) (jsto_new rfl) ?_
            refine jv_iload 0 (pc := 126) d_IC_codeMarks_126 rfl ?_
            refine jv_ldc (-2147483648) (pc := 128) d_IC_codeMarks_128 (jin3 99 rfl rfl) ?_
            refine jv_icmp_ne 135 (pc := 130) d_IC_codeMarks_130 rfl (fun h130 => ?_) (fun h130 => ?_)
            · have h130 : ¬ (v121 = (-2147483648 : Int32)) := h130
              have H := (if_neg h130).symm.trans H
              refine jv_iload 8 (pc := 135) d_IC_codeMarks_135 rfl ?_
              refine jv_iload 0 (pc := 137) d_IC_codeMarks_137 rfl ?_
              refine jv_iadd (pc := 139) d_IC_codeMarks_139 ?_
              refine jv_istore (pc := 140) d_IC_codeMarks_140 (by decide) (jst8 rfl) ?_
              refine jv_iload 8 (pc := 142) d_IC_codeMarks_142 rfl ?_
              refine jv_istore (pc := 144) d_IC_codeMarks_144 (by decide) (jst9 rfl) ?_
              refine jv_goto 156 (pc := 146) d_IC_codeMarks_146 rfl ?_
              refine jv_aload_n 5 (pc := 156) d_IC_codeMarks_156 rfl ?_
              refine jv_aload_n 2 (pc := 157) d_IC_codeMarks_157 rfl ?_
              refine jv_getr (pc := 158) d_IC_codeMarks_158 fa_IC_26_IC (by decide) rfl rfl ?_
              refine jv_getr (pc := 161) d_IC_codeMarks_161 fa_IC_187_MR (by decide) rfl rfl ?_
              refine jv_iload 11 (pc := 164) d_IC_codeMarks_164 rfl ?_
              obtain ⟨b166, H⟩ := jck_some H
              refine jv_iald (pc := 166) d_IC_codeMarks_166 (by decide) rfl b166 ?_
              obtain ⟨v167, n167, c167, H⟩ := jbd_some H
              refine jv_callSi (sp_NU_codeIndex_W (n121 5 x9.toNatClampNeg) c167) (pc := 167) d_IC_codeMarks_167 c0_NU_codeIndex lk_IC_211 si_NU_codeIndex rfl (Nat.le_of_ble_eq_true rfl) ⟨by decide, by decide, by decide, by decide⟩ (fun r167 m167 h167 => ?_)
              obtain ⟨ha167, hb167⟩ := h167
              have ha167 := ha167.symm
              subst ha167
              have hb167 := hb167.symm
              subst hb167
              refine jv_istore (pc := 170) d_IC_codeMarks_170 (by decide) (jst1 rfl) ?_
              refine jv_aload_n 2 (pc := 172) d_IC_codeMarks_172 rfl ?_
              refine jv_iload 1 (pc := 173) d_IC_codeMarks_173 rfl ?_
              refine jv_callVi (sp_IC_isSymbol v167) (pc := 175) d_IC_codeMarks_175 c0_IC_isSymbol lk_IC_215 in_IC_isSymbol se_IC_isSymbol (by decide) rfl rfl rfl (Nat.le_of_ble_eq_true rfl) ⟨by decide, by decide, by decide, by decide⟩ (fun r175 m175 h175 => ?_)
              obtain ⟨ha175, hb175⟩ := h175
              subst ha175
              have hb175 := hb175.symm
              subst hb175
              refine jv_if_ne 183 (pc := 178) d_IC_codeMarks_178 rfl (fun h178 => ?_) (fun h178 => ?_)
              · have h178 : ¬ ((f_IC_isSymbol v167 n167) = 0) := h178
                have H := (if_neg h178).symm.trans H
                refine jv_iload 9 (pc := 183) d_IC_codeMarks_183 rfl ?_
                refine jv_aload_n 2 (pc := 185) d_IC_codeMarks_185 rfl ?_
                refine jv_iload 1 (pc := 186) d_IC_codeMarks_186 rfl ?_
                refine jv_iload_n 3 (pc := 188) d_IC_codeMarks_188 rfl ?_
                refine jv_iload_n 4 (pc := 189) d_IC_codeMarks_189 rfl ?_
                obtain ⟨v190, n190, c190, H⟩ := jbd_some H
                refine jv_callVi (sp_IC_before v167 x1 x2 c190) (pc := 190) d_IC_codeMarks_190 c0_IC_before lk_IC_218 in_IC_before se_IC_before (by decide) rfl rfl rfl (Nat.le_of_ble_eq_true rfl) ⟨by decide, by decide, by decide, by decide⟩ (fun r190 m190 h190 => ?_)
                obtain ⟨ha190, hb190⟩ := h190
                have ha190 := ha190.symm
                subst ha190
                have hb190 := hb190.symm
                subst hb190
                refine jv_iadd (pc := 193) d_IC_codeMarks_193 ?_
                refine jv_istore (pc := 194) d_IC_codeMarks_194 (by decide) (jst0 rfl) ?_
                refine jv_iload 0 (pc := 196) d_IC_codeMarks_196 rfl ?_
                refine jv_sipush (-1000) (pc := 198) d_IC_codeMarks_198 rfl ?_
                refine jv_sipush (1000) (pc := 201) d_IC_codeMarks_201 rfl ?_
                refine jv_callSi (sp_IC_within ((x6 + v121) + v190) (-1000 : Int32) (1000 : Int32)) (pc := 204) d_IC_codeMarks_204 c0_IC_within lk_IC_97 si_IC_within rfl (Nat.le_of_ble_eq_true rfl) ⟨by decide, by decide, by decide, by decide⟩ (fun r204 m204 h204 => ?_)
                obtain ⟨ha204, hb204⟩ := h204
                subst ha204
                have hb204 := hb204.symm
                subst hb204
                refine jv_if_ne 212 (pc := 207) d_IC_codeMarks_207 rfl (fun h207 => ?_) (fun h207 => ?_)
                · have h207 : ¬ ((f_IC_within ((x6 + v121) + v190) (-1000 : Int32) (1000 : Int32) n190) = 0) := h207
                  have H := (if_neg h207).symm.trans H
                  refine jv_aload_n 2 (pc := 212) d_IC_codeMarks_212 rfl ?_
                  refine jv_getr (pc := 213) d_IC_codeMarks_213 fa_IC_26_IC (by decide) rfl rfl ?_
                  refine jv_iload 11 (pc := 216) d_IC_codeMarks_216 rfl ?_
                  refine jv_iload 1 (pc := 218) d_IC_codeMarks_218 rfl ?_
                  refine jv_iload 0 (pc := 220) d_IC_codeMarks_220 rfl ?_
                  refine jv_iload 7 (pc := 222) d_IC_codeMarks_222 rfl ?_
                  obtain ⟨_, n224, c224, H⟩ := jbd_some H
                  refine jv_callVv (sp_MR_set x9 v167 ((x6 + v121) + v190) (x5 + v78) c224) (pc := 224) d_IC_codeMarks_224 c0_MR_set lk_IC_184 in_MR_set se_MR_set (by decide) rfl rfl rfl (Nat.le_of_ble_eq_true rfl) ⟨by decide, by decide, by decide, by decide⟩ (fun m224 h224 => ?_)
                  have hb224 := h224
                  have hb224 := hb224.symm
                  subst hb224
                  refine jv_iload 9 (pc := 227) d_IC_codeMarks_227 rfl ?_
                  refine jv_aload_n 2 (pc := 229) d_IC_codeMarks_229 rfl ?_
                  refine jv_iload 1 (pc := 230) d_IC_codeMarks_230 rfl ?_
                  refine jv_iload_n 4 (pc := 232) d_IC_codeMarks_232 rfl ?_
                  obtain ⟨v233, n233, c233, H⟩ := jbd_some H
                  refine jv_callVi (sp_IC_extent v167 x2 c233) (pc := 233) d_IC_codeMarks_233 c0_IC_extent lk_IC_221 in_IC_extent se_IC_extent (by decide) rfl rfl rfl (Nat.le_of_ble_eq_true rfl) ⟨by decide, by decide, by decide, by decide⟩ (fun r233 m233 h233 => ?_)
                  obtain ⟨ha233, hb233⟩ := h233
                  have ha233 := ha233.symm
                  subst ha233
                  have hb233 := hb233.symm
                  subst hb233
                  refine jv_iadd (pc := 236) d_IC_codeMarks_236 ?_
                  refine jv_istore (pc := 237) d_IC_codeMarks_237 (by decide) (jst9 rfl) ?_
                  refine jv_iload 11 (pc := 239) d_IC_codeMarks_239 rfl ?_
                  refine jv_iconst 1 (pc := 241) d_IC_codeMarks_241 rfl ?_
                  refine jv_iadd (pc := 242) d_IC_codeMarks_242 ?_
                  refine jv_iload 6 (pc := 243) d_IC_codeMarks_243 rfl ?_
                  refine jv_icmp_ge 269 (pc := 245) d_IC_codeMarks_245 rfl (fun h245 => ?_) (fun h245 => ?_)
                  · have h245 : x4 ≤ (x9 + (1 : Int32)) := h245
                    have H := (if_pos h245).symm.trans H
                    refine jv_iconst 0 (pc := 269) d_IC_codeMarks_269 rfl ?_
                    refine jv_istore (pc := 270) d_IC_codeMarks_270 (by decide) (jsto_new rfl) ?_
                    refine jv_aload_n 6 (pc := 272) d_IC_codeMarks_272 rfl ?_
                    refine jv_bipush (8) (pc := 273) d_IC_codeMarks_273 rfl ?_
                    refine jv_iload 0 (pc := 275) d_IC_codeMarks_275 rfl ?_
                    refine jv_if_eq 296 (pc := 277) d_IC_codeMarks_277 rfl (fun h277 => ?_) (fun h277 => absurd (show (0 : Int32) = 0 by decide) (show ¬ ((0 : Int32) = 0) from h277))
                    refine jv_ldc (-2147483648) (pc := 296) d_IC_codeMarks_296 (jin3 99 rfl rfl) ?_
                    obtain ⟨v298, n298, c298, H⟩ := jbd_some H
                    refine jv_callSi (sp_NU_codeNumber_W (8 : Int32) (-2147483648 : Int32) c298) (pc := 298) d_IC_codeMarks_298 c0_NU_codeNumber lk_IC_160 si_NU_codeNumber rfl (Nat.le_of_ble_eq_true rfl) ⟨by decide, by decide, by decide, by decide⟩ (fun r298 m298 h298 => ?_)
                    obtain ⟨ha298, hb298⟩ := h298
                    have ha298 := ha298.symm
                    subst ha298
                    have hb298 := hb298.symm
                    subst hb298
                    refine jv_istore (pc := 301) d_IC_codeMarks_301 (by decide) (jst11 rfl) ?_
                    refine jv_iinc 12 _ (pc := 303) d_IC_codeMarks_303 rfl (jinc1 _) (by decide) (jst12 rfl) ?_
                    refine jv_goto 48 (pc := 306) d_IC_codeMarks_306 rfl ?_
                    exact jv_sub [3, 4, 5, 6, 7, 8, 9, 10, 11, 12] rfl (ih x1 x2 x4 (x5 + v78) (x6 + v121) ((x6 + v121) + v233) v298 (x9 + 1) _ _ _ H)
                  · have h245 : ¬ (x4 ≤ (x9 + (1 : Int32))) := h245
                    have H := (if_neg h245).symm.trans H
                    refine jv_aload_n 2 (pc := 248) d_IC_codeMarks_248 rfl ?_
                    refine jv_getr (pc := 249) d_IC_codeMarks_249 fa_IC_26_IC (by decide) rfl rfl ?_
                    refine jv_getr (pc := 252) d_IC_codeMarks_252 fa_IC_193_MR (by decide) rfl rfl ?_
                    refine jv_iload 11 (pc := 255) d_IC_codeMarks_255 rfl ?_
                    refine jv_iconst 1 (pc := 257) d_IC_codeMarks_257 rfl ?_
                    refine jv_iadd (pc := 258) d_IC_codeMarks_258 ?_
                    obtain ⟨b259, H⟩ := jck_some H
                    refine jv_iald (pc := 259) d_IC_codeMarks_259 (by decide) rfl b259 ?_
                    refine jv_iload 7 (pc := 260) d_IC_codeMarks_260 rfl ?_
                    refine jv_icmp_ne 269 (pc := 262) d_IC_codeMarks_262 rfl (fun h262 => ?_) (fun h262 => ?_)
                    · have h262 : ¬ ((n233 7 ((x9 + (1 : Int32)).toNatClampNeg)) = (x5 + v78)) := h262
                      have H := (if_neg h262).symm.trans H
                      refine jv_iconst 0 (pc := 269) d_IC_codeMarks_269 rfl ?_
                      refine jv_istore (pc := 270) d_IC_codeMarks_270 (by decide) (jsto_new rfl) ?_
                      refine jv_aload_n 6 (pc := 272) d_IC_codeMarks_272 rfl ?_
                      refine jv_bipush (8) (pc := 273) d_IC_codeMarks_273 rfl ?_
                      refine jv_iload 0 (pc := 275) d_IC_codeMarks_275 rfl ?_
                      refine jv_if_eq 296 (pc := 277) d_IC_codeMarks_277 rfl (fun h277 => ?_) (fun h277 => absurd (show (0 : Int32) = 0 by decide) (show ¬ ((0 : Int32) = 0) from h277))
                      refine jv_ldc (-2147483648) (pc := 296) d_IC_codeMarks_296 (jin3 99 rfl rfl) ?_
                      obtain ⟨v298, n298, c298, H⟩ := jbd_some H
                      refine jv_callSi (sp_NU_codeNumber_W (8 : Int32) (-2147483648 : Int32) c298) (pc := 298) d_IC_codeMarks_298 c0_NU_codeNumber lk_IC_160 si_NU_codeNumber rfl (Nat.le_of_ble_eq_true rfl) ⟨by decide, by decide, by decide, by decide⟩ (fun r298 m298 h298 => ?_)
                      obtain ⟨ha298, hb298⟩ := h298
                      have ha298 := ha298.symm
                      subst ha298
                      have hb298 := hb298.symm
                      subst hb298
                      refine jv_istore (pc := 301) d_IC_codeMarks_301 (by decide) (jst11 rfl) ?_
                      refine jv_iinc 12 _ (pc := 303) d_IC_codeMarks_303 rfl (jinc1 _) (by decide) (jst12 rfl) ?_
                      refine jv_goto 48 (pc := 306) d_IC_codeMarks_306 rfl ?_
                      exact jv_sub [3, 4, 5, 6, 7, 8, 9, 10, 11, 12] rfl (ih x1 x2 x4 (x5 + v78) (x6 + v121) ((x6 + v121) + v233) v298 (x9 + 1) _ _ _ H)
                    · have h262 : (n233 7 ((x9 + (1 : Int32)).toNatClampNeg)) = (x5 + v78) := h262
                      have H := (if_pos h262).symm.trans H
                      refine jv_iconst 1 (pc := 265) d_IC_codeMarks_265 rfl ?_
                      refine jv_goto 270 (pc := 266) d_IC_codeMarks_266 rfl ?_
                      refine jv_istore (pc := 270) d_IC_codeMarks_270 (by decide) (jsto_new rfl) ?_
                      refine jv_aload_n 6 (pc := 272) d_IC_codeMarks_272 rfl ?_
                      refine jv_bipush (8) (pc := 273) d_IC_codeMarks_273 rfl ?_
                      refine jv_iload 0 (pc := 275) d_IC_codeMarks_275 rfl ?_
                      refine jv_if_eq 296 (pc := 277) d_IC_codeMarks_277 rfl (fun h277 => absurd (show (1 : Int32) = 0 from h277) (by decide)) (fun h277 => ?_)
                      refine jv_aload_n 3 (pc := 280) d_IC_codeMarks_280 rfl ?_
                      refine jv_iload 12 (pc := 281) d_IC_codeMarks_281 rfl ?_
                      refine jv_iconst 1 (pc := 283) d_IC_codeMarks_283 rfl ?_
                      refine jv_iadd (pc := 284) d_IC_codeMarks_284 ?_
                      refine jv_iload_n 4 (pc := 285) d_IC_codeMarks_285 rfl ?_
                      refine jv_iload_n 5 (pc := 286) d_IC_codeMarks_286 rfl ?_
                      obtain ⟨v287, n287, c287, H⟩ := jbd_some H
                      refine jv_callVi (sp_IC_startOf (x9 + (1 : Int32)) x1 x2 c287) (pc := 287) d_IC_codeMarks_287 c0_IC_startOf lk_IC_207 in_IC_startOf se_IC_startOf (by decide) rfl rfl rfl (Nat.le_of_ble_eq_true rfl) ⟨by decide, by decide, by decide, by decide⟩ (fun r287 m287 h287 => ?_)
                      obtain ⟨ha287, hb287⟩ := h287
                      have ha287 := ha287.symm
                      subst ha287
                      have hb287 := hb287.symm
                      subst hb287
                      refine jv_iload 10 (pc := 290) d_IC_codeMarks_290 rfl ?_
                      refine jv_isub (pc := 292) d_IC_codeMarks_292 ?_
                      refine jv_goto 298 (pc := 293) d_IC_codeMarks_293 rfl ?_
                      obtain ⟨v298, n298, c298, H⟩ := jbd_some H
                      refine jv_callSi (sp_NU_codeNumber_W (8 : Int32) (v287 - ((x6 + v121) + v233)) c298) (pc := 298) d_IC_codeMarks_298 c0_NU_codeNumber lk_IC_160 si_NU_codeNumber rfl (Nat.le_of_ble_eq_true rfl) ⟨by decide, by decide, by decide, by decide⟩ (fun r298 m298 h298 => ?_)
                      obtain ⟨ha298, hb298⟩ := h298
                      have ha298 := ha298.symm
                      subst ha298
                      have hb298 := hb298.symm
                      subst hb298
                      refine jv_istore (pc := 301) d_IC_codeMarks_301 (by decide) (jst11 rfl) ?_
                      refine jv_iinc 12 _ (pc := 303) d_IC_codeMarks_303 rfl (jinc1 _) (by decide) (jst12 rfl) ?_
                      refine jv_goto 48 (pc := 306) d_IC_codeMarks_306 rfl ?_
                      exact jv_sub [3, 4, 5, 6, 7, 8, 9, 10, 11, 12] rfl (ih x1 x2 x4 (x5 + v78) (x6 + v121) ((x6 + v121) + v233) v298 (x9 + 1) _ _ _ H)
                · have h207 : (f_IC_within ((x6 + v121) + v190) (-1000 : Int32) (1000 : Int32) n190) = 0 := h207
                  have H := (if_pos h207).symm.trans H
                  refine jv_iconst (-1) (pc := 210) d_IC_codeMarks_210 rfl ?_
                  refine jv_iret (pc := 211) d_IC_codeMarks_211 rfl rfl (Nat.zero_le _) (Nat.zero_le _) ?_
                  cases H
                  exact jI.of ⟨rfl, rfl⟩
              · have h178 : (f_IC_isSymbol v167 n167) = 0 := h178
                have H := (if_pos h178).symm.trans H
                refine jv_iconst (-1) (pc := 181) d_IC_codeMarks_181 rfl ?_
                refine jv_iret (pc := 182) d_IC_codeMarks_182 rfl rfl (Nat.zero_le _) (Nat.zero_le _) ?_
                cases H
                exact jI.of ⟨rfl, rfl⟩
            · have h130 : v121 = (-2147483648 : Int32) := h130
              have H := (if_pos h130).symm.trans H
              refine jv_iconst (-1) (pc := 133) d_IC_codeMarks_133 rfl ?_
              refine jv_iret (pc := 134) d_IC_codeMarks_134 rfl rfl (Nat.zero_le _) (Nat.zero_le _) ?_
              cases H
              exact jI.of ⟨rfl, rfl⟩
          · have h102 : (f_IC_isPlace (x5 + v78) n78) = 0 := h102
            have H := (if_pos h102).symm.trans H
            refine jv_iconst (-1) (pc := 105) d_IC_codeMarks_105 rfl ?_
            refine jv_iret (pc := 106) d_IC_codeMarks_106 rfl rfl (Nat.zero_le _) (Nat.zero_le _) ?_
            cases H
            exact jI.of ⟨rfl, rfl⟩
set_option maxRecDepth 40000 in
set_option maxHeartbeats 8000000 in
theorem lp_IC_codeMarks_48R {G : jG} : ∀ (n : Nat) (x1 x2 x4 x5 x6 x7 x8 x9 : Int32) (σ τ : jMem) (r : Int32), f_IC_codeMarks_L48R n x1 x2 x4 x5 x6 x7 x8 x9 σ = some (r, τ) → jV G M_IC_codeMarks (jr 6 0 0) (jI fun r9 τ9 => r9 = r ∧ τ9 = τ) 0 0 48 [(0, .ref 0), (1, .int x1), (2, .int x2), (3, .ref 13), (4, .int x4), (5, .int x5), (6, .int x6), (7, .int x7), (8, .int x8), (9, .int x9)] [] σ := by
  intro n
  induction n with
  | zero =>
    intro x1 x2 x4 x5 x6 x7 x8 x9 σ τ r H
    cases H
  | succ n ih =>
    intro x1 x2 x4 x5 x6 x7 x8 x9 σ τ r H
    rw [f_IC_codeMarks_L48R.eq_2] at H
    refine jv_iload 9 (pc := 48) d_IC_codeMarks_48 rfl ?_
    refine jv_iload 4 (pc := 50) d_IC_codeMarks_50 rfl ?_
    refine jv_icmp_ge 309 (pc := 52) d_IC_codeMarks_52 rfl (fun h52 => ?_) (fun h52 => ?_)
    · have h52 : x4 ≤ x9 := h52
      have H := (if_pos h52).symm.trans H
      refine jv_iload 8 (pc := 309) d_IC_codeMarks_309 rfl ?_
      refine jv_ldc (-2147483648) (pc := 311) d_IC_codeMarks_311 (jin3 99 rfl rfl) ?_
      refine jv_icmp_ne 321 (pc := 313) d_IC_codeMarks_313 rfl (fun h313 => ?_) (fun h313 => ?_)
      · have h313 : ¬ (x8 = (-2147483648 : Int32)) := h313
        have H := (if_neg h313).symm.trans H
        refine jv_iconst (-1) (pc := 321) d_IC_codeMarks_321 rfl ?_
        refine jv_iret (pc := 322) d_IC_codeMarks_322 rfl rfl (Nat.zero_le _) (Nat.zero_le _) ?_
        cases H
        exact jI.of ⟨rfl, rfl⟩
      · have h313 : x8 = (-2147483648 : Int32) := h313
        have H := (if_pos h313).symm.trans H
        refine jv_iload 4 (pc := 316) d_IC_codeMarks_316 rfl ?_
        refine jv_goto 322 (pc := 318) d_IC_codeMarks_318 rfl ?_
        refine jv_iret (pc := 322) d_IC_codeMarks_322 rfl rfl (Nat.zero_le _) (Nat.zero_le _) ?_
        cases H
        exact jI.of ⟨rfl, rfl⟩
    · have h52 : ¬ (x4 ≤ x9) := h52
      have H := (if_neg h52).symm.trans H
      refine jv_iload 8 (pc := 55) d_IC_codeMarks_55 rfl ?_
      refine jv_ldc (-2147483648) (pc := 57) d_IC_codeMarks_57 (jin3 99 rfl rfl) ?_
      refine jv_icmp_ne 149 (pc := 59) d_IC_codeMarks_59 rfl (fun h59 => ?_) (fun h59 => ?_)
      · have h59 : ¬ (x8 = (-2147483648 : Int32)) := h59
        have H := (if_neg h59).symm.trans H
        refine jv_iload 7 (pc := 149) d_IC_codeMarks_149 rfl ?_
        refine jv_iload 8 (pc := 151) d_IC_codeMarks_151 rfl ?_
        refine jv_iadd (pc := 153) d_IC_codeMarks_153 ?_
        refine jv_istore (pc := 154) d_IC_codeMarks_154 (by decide) (jst7 rfl) ?_
        refine jv_aload_n 3 (pc := 156) d_IC_codeMarks_156 rfl ?_
        refine jv_aload_n 0 (pc := 157) d_IC_codeMarks_157 rfl ?_
        refine jv_getr (pc := 158) d_IC_codeMarks_158 fa_IC_26_IC (by decide) rfl rfl ?_
        refine jv_getr (pc := 161) d_IC_codeMarks_161 fa_IC_187_MR (by decide) rfl rfl ?_
        refine jv_iload 9 (pc := 164) d_IC_codeMarks_164 rfl ?_
        obtain ⟨b166, H⟩ := jck_some H
        refine jv_iald (pc := 166) d_IC_codeMarks_166 (by decide) rfl b166 ?_
        obtain ⟨v167, n167, c167, H⟩ := jbd_some H
        refine jv_callSi (sp_NU_codeIndex_R (σ 5 x9.toNatClampNeg) c167) (pc := 167) d_IC_codeMarks_167 c0_NU_codeIndex lk_IC_211 si_NU_codeIndex rfl (Nat.le_of_ble_eq_true rfl) ⟨by decide, by decide, by decide, by decide⟩ (fun r167 m167 h167 => ?_)
        obtain ⟨ha167, hb167⟩ := h167
        have ha167 := ha167.symm
        subst ha167
        have hb167 := hb167.symm
        subst hb167
        refine jv_istore (pc := 170) d_IC_codeMarks_170 (by decide) (jsto_new rfl) ?_
        refine jv_aload_n 1 (pc := 172) d_IC_codeMarks_172 rfl ?_
        refine jv_iload 0 (pc := 173) d_IC_codeMarks_173 rfl ?_
        refine jv_callVi (sp_IC_isSymbol v167) (pc := 175) d_IC_codeMarks_175 c0_IC_isSymbol lk_IC_215 in_IC_isSymbol se_IC_isSymbol (by decide) rfl rfl rfl (Nat.le_of_ble_eq_true rfl) ⟨by decide, by decide, by decide, by decide⟩ (fun r175 m175 h175 => ?_)
        obtain ⟨ha175, hb175⟩ := h175
        subst ha175
        have hb175 := hb175.symm
        subst hb175
        refine jv_if_ne 183 (pc := 178) d_IC_codeMarks_178 rfl (fun h178 => ?_) (fun h178 => ?_)
        · have h178 : ¬ ((f_IC_isSymbol v167 n167) = 0) := h178
          have H := (if_neg h178).symm.trans H
          refine jv_iload 8 (pc := 183) d_IC_codeMarks_183 rfl ?_
          refine jv_aload_n 1 (pc := 185) d_IC_codeMarks_185 rfl ?_
          refine jv_iload 0 (pc := 186) d_IC_codeMarks_186 rfl ?_
          refine jv_iload_n 2 (pc := 188) d_IC_codeMarks_188 rfl ?_
          refine jv_iload_n 3 (pc := 189) d_IC_codeMarks_189 rfl ?_
          obtain ⟨v190, n190, c190, H⟩ := jbd_some H
          refine jv_callVi (sp_IC_before v167 x1 x2 c190) (pc := 190) d_IC_codeMarks_190 c0_IC_before lk_IC_218 in_IC_before se_IC_before (by decide) rfl rfl rfl (Nat.le_of_ble_eq_true rfl) ⟨by decide, by decide, by decide, by decide⟩ (fun r190 m190 h190 => ?_)
          obtain ⟨ha190, hb190⟩ := h190
          have ha190 := ha190.symm
          subst ha190
          have hb190 := hb190.symm
          subst hb190
          refine jv_iadd (pc := 193) d_IC_codeMarks_193 ?_
          refine jv_istore (pc := 194) d_IC_codeMarks_194 (by decide) (jsto_new rfl) ?_
          refine jv_iload 0 (pc := 196) d_IC_codeMarks_196 rfl ?_
          refine jv_sipush (-1000) (pc := 198) d_IC_codeMarks_198 rfl ?_
          refine jv_sipush (1000) (pc := 201) d_IC_codeMarks_201 rfl ?_
          refine jv_callSi (sp_IC_within ((x7 + x8) + v190) (-1000 : Int32) (1000 : Int32)) (pc := 204) d_IC_codeMarks_204 c0_IC_within lk_IC_97 si_IC_within rfl (Nat.le_of_ble_eq_true rfl) ⟨by decide, by decide, by decide, by decide⟩ (fun r204 m204 h204 => ?_)
          obtain ⟨ha204, hb204⟩ := h204
          subst ha204
          have hb204 := hb204.symm
          subst hb204
          refine jv_if_ne 212 (pc := 207) d_IC_codeMarks_207 rfl (fun h207 => ?_) (fun h207 => ?_)
          · have h207 : ¬ ((f_IC_within ((x7 + x8) + v190) (-1000 : Int32) (1000 : Int32) n190) = 0) := h207
            have H := (if_neg h207).symm.trans H
            refine jv_aload_n 2 (pc := 212) d_IC_codeMarks_212 rfl ?_
            refine jv_getr (pc := 213) d_IC_codeMarks_213 fa_IC_26_IC (by decide) rfl rfl ?_
            refine jv_iload 11 (pc := 216) d_IC_codeMarks_216 rfl ?_
            refine jv_iload 1 (pc := 218) d_IC_codeMarks_218 rfl ?_
            refine jv_iload 0 (pc := 220) d_IC_codeMarks_220 rfl ?_
            refine jv_iload 7 (pc := 222) d_IC_codeMarks_222 rfl ?_
            obtain ⟨_, n224, c224, H⟩ := jbd_some H
            refine jv_callVv (sp_MR_set x9 v167 ((x7 + x8) + v190) x5 c224) (pc := 224) d_IC_codeMarks_224 c0_MR_set lk_IC_184 in_MR_set se_MR_set (by decide) rfl rfl rfl (Nat.le_of_ble_eq_true rfl) ⟨by decide, by decide, by decide, by decide⟩ (fun m224 h224 => ?_)
            have hb224 := h224
            have hb224 := hb224.symm
            subst hb224
            refine jv_iload 9 (pc := 227) d_IC_codeMarks_227 rfl ?_
            refine jv_aload_n 2 (pc := 229) d_IC_codeMarks_229 rfl ?_
            refine jv_iload 1 (pc := 230) d_IC_codeMarks_230 rfl ?_
            refine jv_iload_n 4 (pc := 232) d_IC_codeMarks_232 rfl ?_
            obtain ⟨v233, n233, c233, H⟩ := jbd_some H
            refine jv_callVi (sp_IC_extent v167 x2 c233) (pc := 233) d_IC_codeMarks_233 c0_IC_extent lk_IC_221 in_IC_extent se_IC_extent (by decide) rfl rfl rfl (Nat.le_of_ble_eq_true rfl) ⟨by decide, by decide, by decide, by decide⟩ (fun r233 m233 h233 => ?_)
            obtain ⟨ha233, hb233⟩ := h233
            have ha233 := ha233.symm
            subst ha233
            have hb233 := hb233.symm
            subst hb233
            refine jv_iadd (pc := 236) d_IC_codeMarks_236 ?_
            refine jv_istore (pc := 237) d_IC_codeMarks_237 (by decide) (jst9 rfl) ?_
            refine jv_iload 11 (pc := 239) d_IC_codeMarks_239 rfl ?_
            refine jv_iconst 1 (pc := 241) d_IC_codeMarks_241 rfl ?_
            refine jv_iadd (pc := 242) d_IC_codeMarks_242 ?_
            refine jv_iload 6 (pc := 243) d_IC_codeMarks_243 rfl ?_
            refine jv_icmp_ge 269 (pc := 245) d_IC_codeMarks_245 rfl (fun h245 => ?_) (fun h245 => ?_)
            · have h245 : x4 ≤ (x9 + (1 : Int32)) := h245
              have H := (if_pos h245).symm.trans H
              refine jv_iconst 0 (pc := 269) d_IC_codeMarks_269 rfl ?_
              refine jv_istore (pc := 270) d_IC_codeMarks_270 (by decide) (jsto_new rfl) ?_
              refine jv_aload_n 6 (pc := 272) d_IC_codeMarks_272 rfl ?_
              refine jv_bipush (8) (pc := 273) d_IC_codeMarks_273 rfl ?_
              refine jv_iload 0 (pc := 275) d_IC_codeMarks_275 rfl ?_
              refine jv_if_eq 296 (pc := 277) d_IC_codeMarks_277 rfl (fun h277 => ?_) (fun h277 => absurd (show (0 : Int32) = 0 by decide) (show ¬ ((0 : Int32) = 0) from h277))
              refine jv_ldc (-2147483648) (pc := 296) d_IC_codeMarks_296 (jin3 99 rfl rfl) ?_
              obtain ⟨v298, n298, c298, H⟩ := jbd_some H
              refine jv_callSi (sp_NU_codeNumber_R (8 : Int32) (-2147483648 : Int32) c298) (pc := 298) d_IC_codeMarks_298 c0_NU_codeNumber lk_IC_160 si_NU_codeNumber rfl (Nat.le_of_ble_eq_true rfl) ⟨by decide, by decide, by decide, by decide⟩ (fun r298 m298 h298 => ?_)
              obtain ⟨ha298, hb298⟩ := h298
              have ha298 := ha298.symm
              subst ha298
              have hb298 := hb298.symm
              subst hb298
              refine jv_istore (pc := 301) d_IC_codeMarks_301 (by decide) (jst11 rfl) ?_
              refine jv_iinc 12 _ (pc := 303) d_IC_codeMarks_303 rfl (jinc1 _) (by decide) (jst12 rfl) ?_
              refine jv_goto 48 (pc := 306) d_IC_codeMarks_306 rfl ?_
              exact jv_sub [3, 4, 5, 6, 7, 8, 9, 10, 11, 12] rfl (ih x1 x2 x4 x5 x6 ((x7 + x8) + v233) v298 (x9 + 1) _ _ _ H)
            · have h245 : ¬ (x4 ≤ (x9 + (1 : Int32))) := h245
              have H := (if_neg h245).symm.trans H
              refine jv_aload_n 2 (pc := 248) d_IC_codeMarks_248 rfl ?_
              refine jv_getr (pc := 249) d_IC_codeMarks_249 fa_IC_26_IC (by decide) rfl rfl ?_
              refine jv_getr (pc := 252) d_IC_codeMarks_252 fa_IC_193_MR (by decide) rfl rfl ?_
              refine jv_iload 11 (pc := 255) d_IC_codeMarks_255 rfl ?_
              refine jv_iconst 1 (pc := 257) d_IC_codeMarks_257 rfl ?_
              refine jv_iadd (pc := 258) d_IC_codeMarks_258 ?_
              obtain ⟨b259, H⟩ := jck_some H
              refine jv_iald (pc := 259) d_IC_codeMarks_259 (by decide) rfl b259 ?_
              refine jv_iload 7 (pc := 260) d_IC_codeMarks_260 rfl ?_
              refine jv_icmp_ne 269 (pc := 262) d_IC_codeMarks_262 rfl (fun h262 => ?_) (fun h262 => ?_)
              · have h262 : ¬ ((n233 7 ((x9 + (1 : Int32)).toNatClampNeg)) = x5) := h262
                have H := (if_neg h262).symm.trans H
                refine jv_iconst 0 (pc := 269) d_IC_codeMarks_269 rfl ?_
                refine jv_istore (pc := 270) d_IC_codeMarks_270 (by decide) (jsto_new rfl) ?_
                refine jv_aload_n 6 (pc := 272) d_IC_codeMarks_272 rfl ?_
                refine jv_bipush (8) (pc := 273) d_IC_codeMarks_273 rfl ?_
                refine jv_iload 0 (pc := 275) d_IC_codeMarks_275 rfl ?_
                refine jv_if_eq 296 (pc := 277) d_IC_codeMarks_277 rfl (fun h277 => ?_) (fun h277 => absurd (show (0 : Int32) = 0 by decide) (show ¬ ((0 : Int32) = 0) from h277))
                refine jv_ldc (-2147483648) (pc := 296) d_IC_codeMarks_296 (jin3 99 rfl rfl) ?_
                obtain ⟨v298, n298, c298, H⟩ := jbd_some H
                refine jv_callSi (sp_NU_codeNumber_R (8 : Int32) (-2147483648 : Int32) c298) (pc := 298) d_IC_codeMarks_298 c0_NU_codeNumber lk_IC_160 si_NU_codeNumber rfl (Nat.le_of_ble_eq_true rfl) ⟨by decide, by decide, by decide, by decide⟩ (fun r298 m298 h298 => ?_)
                obtain ⟨ha298, hb298⟩ := h298
                have ha298 := ha298.symm
                subst ha298
                have hb298 := hb298.symm
                subst hb298
                refine jv_istore (pc := 301) d_IC_codeMarks_301 (by decide) (jst11 rfl) ?_
                refine jv_iinc 12 _ (pc := 303) d_IC_codeMarks_303 rfl (jinc1 _) (by decide) (jst12 rfl) ?_
                refine jv_goto 48 (pc := 306) d_IC_codeMarks_306 rfl ?_
                exact jv_sub [3, 4, 5, 6, 7, 8, 9, 10, 11, 12] rfl (ih x1 x2 x4 x5 x6 ((x7 + x8) + v233) v298 (x9 + 1) _ _ _ H)
              · have h262 : (n233 7 ((x9 + (1 : Int32)).toNatClampNeg)) = x5 := h262
                have H := (if_pos h262).symm.trans H
                refine jv_iconst 1 (pc := 265) d_IC_codeMarks_265 rfl ?_
                refine jv_goto 270 (pc := 266) d_IC_codeMarks_266 rfl ?_
                refine jv_istore (pc := 270) d_IC_codeMarks_270 (by decide) (jsto_new rfl) ?_
                refine jv_aload_n 6 (pc := 272) d_IC_codeMarks_272 rfl ?_
                refine jv_bipush (8) (pc := 273) d_IC_codeMarks_273 rfl ?_
                refine jv_iload 0 (pc := 275) d_IC_codeMarks_275 rfl ?_
                refine jv_if_eq 296 (pc := 277) d_IC_codeMarks_277 rfl (fun h277 => absurd (show (1 : Int32) = 0 from h277) (by decide)) (fun h277 => ?_)
                refine jv_aload_n 3 (pc := 280) d_IC_codeMarks_280 rfl ?_
                refine jv_iload 12 (pc := 281) d_IC_codeMarks_281 rfl ?_
                refine jv_iconst 1 (pc := 283) d_IC_codeMarks_283 rfl ?_
                refine jv_iadd (pc := 284) d_IC_codeMarks_284 ?_
                refine jv_iload_n 4 (pc := 285) d_IC_codeMarks_285 rfl ?_
                refine jv_iload_n 5 (pc := 286) d_IC_codeMarks_286 rfl ?_
                obtain ⟨v287, n287, c287, H⟩ := jbd_some H
                refine jv_callVi (sp_IC_startOf (x9 + (1 : Int32)) x1 x2 c287) (pc := 287) d_IC_codeMarks_287 c0_IC_startOf lk_IC_207 in_IC_startOf se_IC_startOf (by decide) rfl rfl rfl (Nat.le_of_ble_eq_true rfl) ⟨by decide, by decide, by decide, by decide⟩ (fun r287 m287 h287 => ?_)
                obtain ⟨ha287, hb287⟩ := h287
                have ha287 := ha287.symm
                subst ha287
                have hb287 := hb287.symm
                subst hb287
                refine jv_iload 10 (pc := 290) d_IC_codeMarks_290 rfl ?_
                refine jv_isub (pc := 292) d_IC_codeMarks_292 ?_
                refine jv_goto 298 (pc := 293) d_IC_codeMarks_293 rfl ?_
                obtain ⟨v298, n298, c298, H⟩ := jbd_some H
                refine jv_callSi (sp_NU_codeNumber_R (8 : Int32) (v287 - ((x7 + x8) + v233)) c298) (pc := 298) d_IC_codeMarks_298 c0_NU_codeNumber lk_IC_160 si_NU_codeNumber rfl (Nat.le_of_ble_eq_true rfl) ⟨by decide, by decide, by decide, by decide⟩ (fun r298 m298 h298 => ?_)
                obtain ⟨ha298, hb298⟩ := h298
                have ha298 := ha298.symm
                subst ha298
                have hb298 := hb298.symm
                subst hb298
                refine jv_istore (pc := 301) d_IC_codeMarks_301 (by decide) (jst11 rfl) ?_
                refine jv_iinc 12 _ (pc := 303) d_IC_codeMarks_303 rfl (jinc1 _) (by decide) (jst12 rfl) ?_
                refine jv_goto 48 (pc := 306) d_IC_codeMarks_306 rfl ?_
                exact jv_sub [3, 4, 5, 6, 7, 8, 9, 10, 11, 12] rfl (ih x1 x2 x4 x5 x6 ((x7 + x8) + v233) v298 (x9 + 1) _ _ _ H)
          · have h207 : (f_IC_within ((x7 + x8) + v190) (-1000 : Int32) (1000 : Int32) n190) = 0 := h207
            have H := (if_pos h207).symm.trans H
            refine jv_iconst (-1) (pc := 210) d_IC_codeMarks_210 rfl ?_
            refine jv_iret (pc := 211) d_IC_codeMarks_211 rfl rfl (Nat.zero_le _) (Nat.zero_le _) ?_
            cases H
            exact jI.of ⟨rfl, rfl⟩
        · have h178 : (f_IC_isSymbol v167 n167) = 0 := h178
          have H := (if_pos h178).symm.trans H
          refine jv_iconst (-1) (pc := 181) d_IC_codeMarks_181 rfl ?_
          refine jv_iret (pc := 182) d_IC_codeMarks_182 rfl rfl (Nat.zero_le _) (Nat.zero_le _) ?_
          cases H
          exact jI.of ⟨rfl, rfl⟩
      · have h59 : x8 = (-2147483648 : Int32) := h59
        have H := (if_pos h59).symm.trans H
        refine jv_aload_n 3 (pc := 62) d_IC_codeMarks_62 rfl ?_
        refine jv_bipush (6) (pc := 63) d_IC_codeMarks_63 rfl ?_
        refine jv_aload_n 0 (pc := 65) d_IC_codeMarks_65 rfl ?_
        refine jv_getr (pc := 66) d_IC_codeMarks_66 fa_IC_26_IC (by decide) rfl rfl ?_
        refine jv_getr (pc := 69) d_IC_codeMarks_69 fa_IC_193_MR (by decide) rfl rfl ?_
        refine jv_iload 9 (pc := 72) d_IC_codeMarks_72 rfl ?_
        obtain ⟨b74, H⟩ := jck_some H
        refine jv_iald (pc := 74) d_IC_codeMarks_74 (by decide) rfl b74 ?_
        refine jv_iload 5 (pc := 75) d_IC_codeMarks_75 rfl ?_
        refine jv_isub (pc := 77) d_IC_codeMarks_77 ?_
        obtain ⟨v78, n78, c78, H⟩ := jbd_some H
        refine jv_callSi (sp_NU_codeNumber_R (6 : Int32) ((σ 7 x9.toNatClampNeg) - x5) c78) (pc := 78) d_IC_codeMarks_78 c0_NU_codeNumber lk_IC_160 si_NU_codeNumber rfl (Nat.le_of_ble_eq_true rfl) ⟨by decide, by decide, by decide, by decide⟩ (fun r78 m78 h78 => ?_)
        obtain ⟨ha78, hb78⟩ := h78
        have ha78 := ha78.symm
        subst ha78
        have hb78 := hb78.symm
        subst hb78
        refine jv_istore (pc := 81) d_IC_codeMarks_81 (by decide) (jsto_new rfl) ?_
        refine jv_iload 6 (pc := 83) d_IC_codeMarks_83 rfl ?_
        refine jv_iload 0 (pc := 85) d_IC_codeMarks_85 rfl ?_
        refine jv_iadd (pc := 87) d_IC_codeMarks_87 ?_
        refine jv_istore (pc := 88) d_IC_codeMarks_88 (by decide) (jst6 rfl) ?_
        refine jv_iload 0 (pc := 90) d_IC_codeMarks_90 rfl ?_
        refine jv_ldc (-2147483648) (pc := 92) d_IC_codeMarks_92 (jin3 99 rfl rfl) ?_
        refine jv_icmp_eq 105 (pc := 94) d_IC_codeMarks_94 rfl (fun h94 => ?_) (fun h94 => ?_)
        · have h94 : v78 = (-2147483648 : Int32) := h94
          have H := (if_pos h94).symm.trans H
          refine jv_iconst (-1) (pc := 105) d_IC_codeMarks_105 rfl ?_
          refine jv_iret (pc := 106) d_IC_codeMarks_106 rfl rfl (Nat.zero_le _) (Nat.zero_le _) ?_
          cases H
          exact jI.of ⟨rfl, rfl⟩
        · have h94 : ¬ (v78 = (-2147483648 : Int32)) := h94
          have H := (if_neg h94).symm.trans H
          refine jv_iload 6 (pc := 97) d_IC_codeMarks_97 rfl ?_
          refine jv_callSi (sp_IC_isPlace (x5 + v78)) (pc := 99) d_IC_codeMarks_99 c0_IC_isPlace lk_IC_101 si_IC_isPlace rfl (Nat.le_of_ble_eq_true rfl) ⟨by decide, by decide, by decide, by decide⟩ (fun r99 m99 h99 => ?_)
          obtain ⟨ha99, hb99⟩ := h99
          subst ha99
          have hb99 := hb99.symm
          subst hb99
          refine jv_if_ne 107 (pc := 102) d_IC_codeMarks_102 rfl (fun h102 => ?_) (fun h102 => ?_)
          · have h102 : ¬ ((f_IC_isPlace (x5 + v78) n78) = 0) := h102
            have H := (if_neg h102).symm.trans H
            refine jv_aload_n 4 (pc := 107) d_IC_codeMarks_107 rfl ?_
            refine jv_bipush (7) (pc := 108) d_IC_codeMarks_108 rfl ?_
            refine jv_aload_n 1 (pc := 110) d_IC_codeMarks_110 rfl ?_
            refine jv_iload 10 (pc := 111) d_IC_codeMarks_111 rfl ?_
            refine jv_iload_n 2 (pc := 113) d_IC_codeMarks_113 rfl ?_
            refine jv_iload_n 3 (pc := 114) d_IC_codeMarks_114 rfl ?_
            obtain ⟨v115, n115, c115, H⟩ := jbd_some H
            refine jv_callVi (sp_IC_startOf x9 x1 x2 c115) (pc := 115) d_IC_codeMarks_115 c0_IC_startOf lk_IC_207 in_IC_startOf se_IC_startOf (by decide) rfl rfl rfl (Nat.le_of_ble_eq_true rfl) ⟨by decide, by decide, by decide, by decide⟩ (fun r115 m115 h115 => ?_)
            obtain ⟨ha115, hb115⟩ := h115
            have ha115 := ha115.symm
            subst ha115
            have hb115 := hb115.symm
            subst hb115
            refine jv_iload 7 (pc := 118) d_IC_codeMarks_118 rfl ?_
            refine jv_isub (pc := 120) d_IC_codeMarks_120 ?_
            obtain ⟨v121, n121, c121, H⟩ := jbd_some H
            refine jv_callSi (sp_NU_codeNumber_R (7 : Int32) (v115 - x6) c121) (pc := 121) d_IC_codeMarks_121 c0_NU_codeNumber lk_IC_160 si_NU_codeNumber rfl (Nat.le_of_ble_eq_true rfl) ⟨by decide, by decide, by decide, by decide⟩ (fun r121 m121 h121 => ?_)
            obtain ⟨ha121, hb121⟩ := h121
            have ha121 := ha121.symm
            subst ha121
            have hb121 := hb121.symm
            subst hb121
            refine jv_istore (pc := 124) d_IC_codeMarks_124 (by decide) (jsto_new rfl) ?_
            refine jv_iload 0 (pc := 126) d_IC_codeMarks_126 rfl ?_
            refine jv_ldc (-2147483648) (pc := 128) d_IC_codeMarks_128 (jin3 99 rfl rfl) ?_
            refine jv_icmp_ne 135 (pc := 130) d_IC_codeMarks_130 rfl (fun h130 => ?_) (fun h130 => ?_)
            · have h130 : ¬ (v121 = (-2147483648 : Int32)) := h130
              have H := (if_neg h130).symm.trans H
              refine jv_iload 8 (pc := 135) d_IC_codeMarks_135 rfl ?_
              refine jv_iload 0 (pc := 137) d_IC_codeMarks_137 rfl ?_
              refine jv_iadd (pc := 139) d_IC_codeMarks_139 ?_
              refine jv_istore (pc := 140) d_IC_codeMarks_140 (by decide) (jst8 rfl) ?_
              refine jv_iload 8 (pc := 142) d_IC_codeMarks_142 rfl ?_
              refine jv_istore (pc := 144) d_IC_codeMarks_144 (by decide) (jst9 rfl) ?_
              refine jv_goto 156 (pc := 146) d_IC_codeMarks_146 rfl ?_
              refine jv_aload_n 5 (pc := 156) d_IC_codeMarks_156 rfl ?_
              refine jv_aload_n 2 (pc := 157) d_IC_codeMarks_157 rfl ?_
              refine jv_getr (pc := 158) d_IC_codeMarks_158 fa_IC_26_IC (by decide) rfl rfl ?_
              refine jv_getr (pc := 161) d_IC_codeMarks_161 fa_IC_187_MR (by decide) rfl rfl ?_
              refine jv_iload 11 (pc := 164) d_IC_codeMarks_164 rfl ?_
              obtain ⟨b166, H⟩ := jck_some H
              refine jv_iald (pc := 166) d_IC_codeMarks_166 (by decide) rfl b166 ?_
              obtain ⟨v167, n167, c167, H⟩ := jbd_some H
              refine jv_callSi (sp_NU_codeIndex_R (n121 5 x9.toNatClampNeg) c167) (pc := 167) d_IC_codeMarks_167 c0_NU_codeIndex lk_IC_211 si_NU_codeIndex rfl (Nat.le_of_ble_eq_true rfl) ⟨by decide, by decide, by decide, by decide⟩ (fun r167 m167 h167 => ?_)
              obtain ⟨ha167, hb167⟩ := h167
              have ha167 := ha167.symm
              subst ha167
              have hb167 := hb167.symm
              subst hb167
              refine jv_istore (pc := 170) d_IC_codeMarks_170 (by decide) (jst1 rfl) ?_
              refine jv_aload_n 2 (pc := 172) d_IC_codeMarks_172 rfl ?_
              refine jv_iload 1 (pc := 173) d_IC_codeMarks_173 rfl ?_
              refine jv_callVi (sp_IC_isSymbol v167) (pc := 175) d_IC_codeMarks_175 c0_IC_isSymbol lk_IC_215 in_IC_isSymbol se_IC_isSymbol (by decide) rfl rfl rfl (Nat.le_of_ble_eq_true rfl) ⟨by decide, by decide, by decide, by decide⟩ (fun r175 m175 h175 => ?_)
              obtain ⟨ha175, hb175⟩ := h175
              subst ha175
              have hb175 := hb175.symm
              subst hb175
              refine jv_if_ne 183 (pc := 178) d_IC_codeMarks_178 rfl (fun h178 => ?_) (fun h178 => ?_)
              · have h178 : ¬ ((f_IC_isSymbol v167 n167) = 0) := h178
                have H := (if_neg h178).symm.trans H
                refine jv_iload 9 (pc := 183) d_IC_codeMarks_183 rfl ?_
                refine jv_aload_n 2 (pc := 185) d_IC_codeMarks_185 rfl ?_
                refine jv_iload 1 (pc := 186) d_IC_codeMarks_186 rfl ?_
                refine jv_iload_n 3 (pc := 188) d_IC_codeMarks_188 rfl ?_
                refine jv_iload_n 4 (pc := 189) d_IC_codeMarks_189 rfl ?_
                obtain ⟨v190, n190, c190, H⟩ := jbd_some H
                refine jv_callVi (sp_IC_before v167 x1 x2 c190) (pc := 190) d_IC_codeMarks_190 c0_IC_before lk_IC_218 in_IC_before se_IC_before (by decide) rfl rfl rfl (Nat.le_of_ble_eq_true rfl) ⟨by decide, by decide, by decide, by decide⟩ (fun r190 m190 h190 => ?_)
                obtain ⟨ha190, hb190⟩ := h190
                have ha190 := ha190.symm
                subst ha190
                have hb190 := hb190.symm
                subst hb190
                refine jv_iadd (pc := 193) d_IC_codeMarks_193 ?_
                refine jv_istore (pc := 194) d_IC_codeMarks_194 (by decide) (jst0 rfl) ?_
                refine jv_iload 0 (pc := 196) d_IC_codeMarks_196 rfl ?_
                refine jv_sipush (-1000) (pc := 198) d_IC_codeMarks_198 rfl ?_
                refine jv_sipush (1000) (pc := 201) d_IC_codeMarks_201 rfl ?_
                refine jv_callSi (sp_IC_within ((x6 + v121) + v190) (-1000 : Int32) (1000 : Int32)) (pc := 204) d_IC_codeMarks_204 c0_IC_within lk_IC_97 si_IC_within rfl (Nat.le_of_ble_eq_true rfl) ⟨by decide, by decide, by decide, by decide⟩ (fun r204 m204 h204 => ?_)
                obtain ⟨ha204, hb204⟩ := h204
                subst ha204
                have hb204 := hb204.symm
                subst hb204
                refine jv_if_ne 212 (pc := 207) d_IC_codeMarks_207 rfl (fun h207 => ?_) (fun h207 => ?_)
                · have h207 : ¬ ((f_IC_within ((x6 + v121) + v190) (-1000 : Int32) (1000 : Int32) n190) = 0) := h207
                  have H := (if_neg h207).symm.trans H
                  refine jv_aload_n 2 (pc := 212) d_IC_codeMarks_212 rfl ?_
                  refine jv_getr (pc := 213) d_IC_codeMarks_213 fa_IC_26_IC (by decide) rfl rfl ?_
                  refine jv_iload 11 (pc := 216) d_IC_codeMarks_216 rfl ?_
                  refine jv_iload 1 (pc := 218) d_IC_codeMarks_218 rfl ?_
                  refine jv_iload 0 (pc := 220) d_IC_codeMarks_220 rfl ?_
                  refine jv_iload 7 (pc := 222) d_IC_codeMarks_222 rfl ?_
                  obtain ⟨_, n224, c224, H⟩ := jbd_some H
                  refine jv_callVv (sp_MR_set x9 v167 ((x6 + v121) + v190) (x5 + v78) c224) (pc := 224) d_IC_codeMarks_224 c0_MR_set lk_IC_184 in_MR_set se_MR_set (by decide) rfl rfl rfl (Nat.le_of_ble_eq_true rfl) ⟨by decide, by decide, by decide, by decide⟩ (fun m224 h224 => ?_)
                  have hb224 := h224
                  have hb224 := hb224.symm
                  subst hb224
                  refine jv_iload 9 (pc := 227) d_IC_codeMarks_227 rfl ?_
                  refine jv_aload_n 2 (pc := 229) d_IC_codeMarks_229 rfl ?_
                  refine jv_iload 1 (pc := 230) d_IC_codeMarks_230 rfl ?_
                  refine jv_iload_n 4 (pc := 232) d_IC_codeMarks_232 rfl ?_
                  obtain ⟨v233, n233, c233, H⟩ := jbd_some H
                  refine jv_callVi (sp_IC_extent v167 x2 c233) (pc := 233) d_IC_codeMarks_233 c0_IC_extent lk_IC_221 in_IC_extent se_IC_extent (by decide) rfl rfl rfl (Nat.le_of_ble_eq_true rfl) ⟨by decide, by decide, by decide, by decide⟩ (fun r233 m233 h233 => ?_)
                  obtain ⟨ha233, hb233⟩ := h233
                  have ha233 := ha233.symm
                  subst ha233
                  have hb233 := hb233.symm
                  subst hb233
                  refine jv_iadd (pc := 236) d_IC_codeMarks_236 ?_
                  refine jv_istore (pc := 237) d_IC_codeMarks_237 (by decide) (jst9 rfl) ?_
                  refine jv_iload 11 (pc := 239) d_IC_codeMarks_239 rfl ?_
                  refine jv_iconst 1 (pc := 241) d_IC_codeMarks_241 rfl ?_
                  refine jv_iadd (pc := 242) d_IC_codeMarks_242 ?_
                  refine jv_iload 6 (pc := 243) d_IC_codeMarks_243 rfl ?_
                  refine jv_icmp_ge 269 (pc := 245) d_IC_codeMarks_245 rfl (fun h245 => ?_) (fun h245 => ?_)
                  · have h245 : x4 ≤ (x9 + (1 : Int32)) := h245
                    have H := (if_pos h245).symm.trans H
                    refine jv_iconst 0 (pc := 269) d_IC_codeMarks_269 rfl ?_
                    refine jv_istore (pc := 270) d_IC_codeMarks_270 (by decide) (jsto_new rfl) ?_
                    refine jv_aload_n 6 (pc := 272) d_IC_codeMarks_272 rfl ?_
                    refine jv_bipush (8) (pc := 273) d_IC_codeMarks_273 rfl ?_
                    refine jv_iload 0 (pc := 275) d_IC_codeMarks_275 rfl ?_
                    refine jv_if_eq 296 (pc := 277) d_IC_codeMarks_277 rfl (fun h277 => ?_) (fun h277 => absurd (show (0 : Int32) = 0 by decide) (show ¬ ((0 : Int32) = 0) from h277))
                    refine jv_ldc (-2147483648) (pc := 296) d_IC_codeMarks_296 (jin3 99 rfl rfl) ?_
                    obtain ⟨v298, n298, c298, H⟩ := jbd_some H
                    refine jv_callSi (sp_NU_codeNumber_R (8 : Int32) (-2147483648 : Int32) c298) (pc := 298) d_IC_codeMarks_298 c0_NU_codeNumber lk_IC_160 si_NU_codeNumber rfl (Nat.le_of_ble_eq_true rfl) ⟨by decide, by decide, by decide, by decide⟩ (fun r298 m298 h298 => ?_)
                    obtain ⟨ha298, hb298⟩ := h298
                    have ha298 := ha298.symm
                    subst ha298
                    have hb298 := hb298.symm
                    subst hb298
                    refine jv_istore (pc := 301) d_IC_codeMarks_301 (by decide) (jst11 rfl) ?_
                    refine jv_iinc 12 _ (pc := 303) d_IC_codeMarks_303 rfl (jinc1 _) (by decide) (jst12 rfl) ?_
                    refine jv_goto 48 (pc := 306) d_IC_codeMarks_306 rfl ?_
                    exact jv_sub [3, 4, 5, 6, 7, 8, 9, 10, 11, 12] rfl (ih x1 x2 x4 (x5 + v78) (x6 + v121) ((x6 + v121) + v233) v298 (x9 + 1) _ _ _ H)
                  · have h245 : ¬ (x4 ≤ (x9 + (1 : Int32))) := h245
                    have H := (if_neg h245).symm.trans H
                    refine jv_aload_n 2 (pc := 248) d_IC_codeMarks_248 rfl ?_
                    refine jv_getr (pc := 249) d_IC_codeMarks_249 fa_IC_26_IC (by decide) rfl rfl ?_
                    refine jv_getr (pc := 252) d_IC_codeMarks_252 fa_IC_193_MR (by decide) rfl rfl ?_
                    refine jv_iload 11 (pc := 255) d_IC_codeMarks_255 rfl ?_
                    refine jv_iconst 1 (pc := 257) d_IC_codeMarks_257 rfl ?_
                    refine jv_iadd (pc := 258) d_IC_codeMarks_258 ?_
                    obtain ⟨b259, H⟩ := jck_some H
                    refine jv_iald (pc := 259) d_IC_codeMarks_259 (by decide) rfl b259 ?_
                    refine jv_iload 7 (pc := 260) d_IC_codeMarks_260 rfl ?_
                    refine jv_icmp_ne 269 (pc := 262) d_IC_codeMarks_262 rfl (fun h262 => ?_) (fun h262 => ?_)
                    · have h262 : ¬ ((n233 7 ((x9 + (1 : Int32)).toNatClampNeg)) = (x5 + v78)) := h262
                      have H := (if_neg h262).symm.trans H
                      refine jv_iconst 0 (pc := 269) d_IC_codeMarks_269 rfl ?_
                      refine jv_istore (pc := 270) d_IC_codeMarks_270 (by decide) (jsto_new rfl) ?_
                      refine jv_aload_n 6 (pc := 272) d_IC_codeMarks_272 rfl ?_
                      refine jv_bipush (8) (pc := 273) d_IC_codeMarks_273 rfl ?_
                      refine jv_iload 0 (pc := 275) d_IC_codeMarks_275 rfl ?_
                      refine jv_if_eq 296 (pc := 277) d_IC_codeMarks_277 rfl (fun h277 => ?_) (fun h277 => absurd (show (0 : Int32) = 0 by decide) (show ¬ ((0 : Int32) = 0) from h277))
                      refine jv_ldc (-2147483648) (pc := 296) d_IC_codeMarks_296 (jin3 99 rfl rfl) ?_
                      obtain ⟨v298, n298, c298, H⟩ := jbd_some H
                      refine jv_callSi (sp_NU_codeNumber_R (8 : Int32) (-2147483648 : Int32) c298) (pc := 298) d_IC_codeMarks_298 c0_NU_codeNumber lk_IC_160 si_NU_codeNumber rfl (Nat.le_of_ble_eq_true rfl) ⟨by decide, by decide, by decide, by decide⟩ (fun r298 m298 h298 => ?_)
                      obtain ⟨ha298, hb298⟩ := h298
                      have ha298 := ha298.symm
                      subst ha298
                      have hb298 := hb298.symm
                      subst hb298
                      refine jv_istore (pc := 301) d_IC_codeMarks_301 (by decide) (jst11 rfl) ?_
                      refine jv_iinc 12 _ (pc := 303) d_IC_codeMarks_303 rfl (jinc1 _) (by decide) (jst12 rfl) ?_
                      refine jv_goto 48 (pc := 306) d_IC_codeMarks_306 rfl ?_
                      exact jv_sub [3, 4, 5, 6, 7, 8, 9, 10, 11, 12] rfl (ih x1 x2 x4 (x5 + v78) (x6 + v121) ((x6 + v121) + v233) v298 (x9 + 1) _ _ _ H)
                    · have h262 : (n233 7 ((x9 + (1 : Int32)).toNatClampNeg)) = (x5 + v78) := h262
                      have H := (if_pos h262).symm.trans H
                      refine jv_iconst 1 (pc := 265) d_IC_codeMarks_265 rfl ?_
                      refine jv_goto 270 (pc := 266) d_IC_codeMarks_266 rfl ?_
                      refine jv_istore (pc := 270) d_IC_codeMarks_270 (by decide) (jsto_new rfl) ?_
                      refine jv_aload_n 6 (pc := 272) d_IC_codeMarks_272 rfl ?_
                      refine jv_bipush (8) (pc := 273) d_IC_codeMarks_273 rfl ?_
                      refine jv_iload 0 (pc := 275) d_IC_codeMarks_275 rfl ?_
                      refine jv_if_eq 296 (pc := 277) d_IC_codeMarks_277 rfl (fun h277 => absurd (show (1 : Int32) = 0 from h277) (by decide)) (fun h277 => ?_)
                      refine jv_aload_n 3 (pc := 280) d_IC_codeMarks_280 rfl ?_
                      refine jv_iload 12 (pc := 281) d_IC_codeMarks_281 rfl ?_
                      refine jv_iconst 1 (pc := 283) d_IC_codeMarks_283 rfl ?_
                      refine jv_iadd (pc := 284) d_IC_codeMarks_284 ?_
                      refine jv_iload_n 4 (pc := 285) d_IC_codeMarks_285 rfl ?_
                      refine jv_iload_n 5 (pc := 286) d_IC_codeMarks_286 rfl ?_
                      obtain ⟨v287, n287, c287, H⟩ := jbd_some H
                      refine jv_callVi (sp_IC_startOf (x9 + (1 : Int32)) x1 x2 c287) (pc := 287) d_IC_codeMarks_287 c0_IC_startOf lk_IC_207 in_IC_startOf se_IC_startOf (by decide) rfl rfl rfl (Nat.le_of_ble_eq_true rfl) ⟨by decide, by decide, by decide, by decide⟩ (fun r287 m287 h287 => ?_)
                      obtain ⟨ha287, hb287⟩ := h287
                      have ha287 := ha287.symm
                      subst ha287
                      have hb287 := hb287.symm
                      subst hb287
                      refine jv_iload 10 (pc := 290) d_IC_codeMarks_290 rfl ?_
                      refine jv_isub (pc := 292) d_IC_codeMarks_292 ?_
                      refine jv_goto 298 (pc := 293) d_IC_codeMarks_293 rfl ?_
                      obtain ⟨v298, n298, c298, H⟩ := jbd_some H
                      refine jv_callSi (sp_NU_codeNumber_R (8 : Int32) (v287 - ((x6 + v121) + v233)) c298) (pc := 298) d_IC_codeMarks_298 c0_NU_codeNumber lk_IC_160 si_NU_codeNumber rfl (Nat.le_of_ble_eq_true rfl) ⟨by decide, by decide, by decide, by decide⟩ (fun r298 m298 h298 => ?_)
                      obtain ⟨ha298, hb298⟩ := h298
                      have ha298 := ha298.symm
                      subst ha298
                      have hb298 := hb298.symm
                      subst hb298
                      refine jv_istore (pc := 301) d_IC_codeMarks_301 (by decide) (jst11 rfl) ?_
                      refine jv_iinc 12 _ (pc := 303) d_IC_codeMarks_303 rfl (jinc1 _) (by decide) (jst12 rfl) ?_
                      refine jv_goto 48 (pc := 306) d_IC_codeMarks_306 rfl ?_
                      exact jv_sub [3, 4, 5, 6, 7, 8, 9, 10, 11, 12] rfl (ih x1 x2 x4 (x5 + v78) (x6 + v121) ((x6 + v121) + v233) v298 (x9 + 1) _ _ _ H)
                · have h207 : (f_IC_within ((x6 + v121) + v190) (-1000 : Int32) (1000 : Int32) n190) = 0 := h207
                  have H := (if_pos h207).symm.trans H
                  refine jv_iconst (-1) (pc := 210) d_IC_codeMarks_210 rfl ?_
                  refine jv_iret (pc := 211) d_IC_codeMarks_211 rfl rfl (Nat.zero_le _) (Nat.zero_le _) ?_
                  cases H
                  exact jI.of ⟨rfl, rfl⟩
              · have h178 : (f_IC_isSymbol v167 n167) = 0 := h178
                have H := (if_pos h178).symm.trans H
                refine jv_iconst (-1) (pc := 181) d_IC_codeMarks_181 rfl ?_
                refine jv_iret (pc := 182) d_IC_codeMarks_182 rfl rfl (Nat.zero_le _) (Nat.zero_le _) ?_
                cases H
                exact jI.of ⟨rfl, rfl⟩
            · have h130 : v121 = (-2147483648 : Int32) := h130
              have H := (if_pos h130).symm.trans H
              refine jv_iconst (-1) (pc := 133) d_IC_codeMarks_133 rfl ?_
              refine jv_iret (pc := 134) d_IC_codeMarks_134 rfl rfl (Nat.zero_le _) (Nat.zero_le _) ?_
              cases H
              exact jI.of ⟨rfl, rfl⟩
          · have h102 : (f_IC_isPlace (x5 + v78) n78) = 0 := h102
            have H := (if_pos h102).symm.trans H
            refine jv_iconst (-1) (pc := 105) d_IC_codeMarks_105 rfl ?_
            refine jv_iret (pc := 106) d_IC_codeMarks_106 rfl rfl (Nat.zero_le _) (Nat.zero_le _) ?_
            cases H
            exact jI.of ⟨rfl, rfl⟩
set_option maxRecDepth 40000 in
set_option maxHeartbeats 8000000 in
theorem sp_IC_codeMarks {G : jG} {σ τ : jMem} {r : Int32} (x1 x2 : Int32) (H : f_IC_codeMarks x1 x2 σ = some (r, τ)) : jSp G M_IC_codeMarks (jr 6 0 0) [.ref 0, .int x1, .int x2] σ (jI fun r9 τ9 => r9 = r ∧ τ9 = τ) := by
  refine jSp.of rfl rfl (Nat.le_of_ble_eq_true rfl) ?_
  show jV _ _ _ _ 0 0 0 [(0, .ref 0), (1, .int x1), (2, .int x2)] [] σ
  unfold f_IC_codeMarks at H
  refine jv_aload_n 0 (pc := 0) d_IC_codeMarks_0 rfl ?_
  refine jv_callVa (sp_IC_coder) (pc := 1) d_IC_codeMarks_1 c0_IC_coder lk_IC_140 in_IC_coder se_IC_coder (by decide) rfl rfl rfl (Nat.le_of_ble_eq_true rfl) ⟨by decide, by decide, by decide, by decide⟩ (fun r1 m1 h1 => ?_)
  obtain ⟨ha1, hb1⟩ := h1
  subst ha1
  have hb1 := hb1.symm
  subst hb1
  have e1 : f_IC_coder σ = if σ 0 7 = 1 then 12 else 13 := rfl
  by_cases g1 : σ 0 7 = 1
  · rw [e1, if_pos g1]
    have H := (if_pos g1).symm.trans H
    refine jv_astore_n (pc := 4) d_IC_codeMarks_4 rfl (by decide) (jsto_new rfl) ?_
    refine jv_aload_n 0 (pc := 5) d_IC_codeMarks_5 rfl ?_
    refine jv_iconst 3 (pc := 6) d_IC_codeMarks_6 rfl ?_
    refine jv_aload_n 1 (pc := 7) d_IC_codeMarks_7 rfl ?_
    refine jv_getr (pc := 8) d_IC_codeMarks_8 fa_IC_26_IC (by decide) rfl rfl ?_
    refine jv_geti (pc := 11) d_IC_codeMarks_11 fa_IC_177_MR (by decide) rfl rfl ?_
    obtain ⟨v14, n14, c14, H⟩ := jbd_some H
    refine jv_callSi (sp_NU_codeNumber_W (3 : Int32) (σ 4 3) c14) (pc := 14) d_IC_codeMarks_14 c0_NU_codeNumber lk_IC_160 si_NU_codeNumber rfl (Nat.le_of_ble_eq_true rfl) ⟨by decide, by decide, by decide, by decide⟩ (fun r14 m14 h14 => ?_)
    obtain ⟨ha14, hb14⟩ := h14
    have ha14 := ha14.symm
    subst ha14
    have hb14 := hb14.symm
    subst hb14
    refine jv_istore (pc := 17) d_IC_codeMarks_17 (by decide) (jsto_new rfl) ?_
    refine jv_iload 0 (pc := 19) d_IC_codeMarks_19 rfl ?_
    refine jv_iconst 0 (pc := 21) d_IC_codeMarks_21 rfl ?_
    refine jv_bipush (12) (pc := 22) d_IC_codeMarks_22 rfl ?_
    refine jv_callSi (sp_IC_within v14 (0 : Int32) (12 : Int32)) (pc := 24) d_IC_codeMarks_24 c0_IC_within lk_IC_97 si_IC_within rfl (Nat.le_of_ble_eq_true rfl) ⟨by decide, by decide, by decide, by decide⟩ (fun r24 m24 h24 => ?_)
    obtain ⟨ha24, hb24⟩ := h24
    subst ha24
    have hb24 := hb24.symm
    subst hb24
    refine jv_if_ne 32 (pc := 27) d_IC_codeMarks_27 rfl (fun h27 => ?_) (fun h27 => ?_)
    · have h27 : ¬ ((f_IC_within v14 (0 : Int32) (12 : Int32) n14) = 0) := h27
      have H := (if_neg h27).symm.trans H
      refine jv_iconst 0 (pc := 32) d_IC_codeMarks_32 rfl ?_
      refine jv_istore (pc := 33) d_IC_codeMarks_33 (by decide) (jsto_new rfl) ?_
      refine jv_iconst 0 (pc := 35) d_IC_codeMarks_35 rfl ?_
      refine jv_istore (pc := 36) d_IC_codeMarks_36 (by decide) (jsto_new rfl) ?_
      refine jv_iconst 0 (pc := 38) d_IC_codeMarks_38 rfl ?_
      refine jv_istore (pc := 39) d_IC_codeMarks_39 (by decide) (jsto_new rfl) ?_
      refine jv_ldc (-2147483648) (pc := 41) d_IC_codeMarks_41 (jin3 99 rfl rfl) ?_
      refine jv_istore (pc := 43) d_IC_codeMarks_43 (by decide) (jsto_new rfl) ?_
      refine jv_iconst 0 (pc := 45) d_IC_codeMarks_45 rfl ?_
      refine jv_istore (pc := 46) d_IC_codeMarks_46 (by decide) (jsto_new rfl) ?_
      exact jv_sub [7, 8, 9, 6, 5, 4, 3, 2, 1, 0] rfl (lp_IC_codeMarks_48W  _ x1 x2 v14 (0 : Int32) (0 : Int32) (0 : Int32) (-2147483648 : Int32) (0 : Int32) _ _ _ H)
    · have h27 : (f_IC_within v14 (0 : Int32) (12 : Int32) n14) = 0 := h27
      have H := (if_pos h27).symm.trans H
      refine jv_iconst (-1) (pc := 30) d_IC_codeMarks_30 rfl ?_
      refine jv_iret (pc := 31) d_IC_codeMarks_31 rfl rfl (Nat.zero_le _) (Nat.zero_le _) ?_
      cases H
      exact jI.of ⟨rfl, rfl⟩
  · rw [e1, if_neg g1]
    have H := (if_neg g1).symm.trans H
    refine jv_astore_n (pc := 4) d_IC_codeMarks_4 rfl (by decide) (jsto_new rfl) ?_
    refine jv_aload_n 0 (pc := 5) d_IC_codeMarks_5 rfl ?_
    refine jv_iconst 3 (pc := 6) d_IC_codeMarks_6 rfl ?_
    refine jv_aload_n 1 (pc := 7) d_IC_codeMarks_7 rfl ?_
    refine jv_getr (pc := 8) d_IC_codeMarks_8 fa_IC_26_IC (by decide) rfl rfl ?_
    refine jv_geti (pc := 11) d_IC_codeMarks_11 fa_IC_177_MR (by decide) rfl rfl ?_
    obtain ⟨v14, n14, c14, H⟩ := jbd_some H
    refine jv_callSi (sp_NU_codeNumber_R (3 : Int32) (σ 4 3) c14) (pc := 14) d_IC_codeMarks_14 c0_NU_codeNumber lk_IC_160 si_NU_codeNumber rfl (Nat.le_of_ble_eq_true rfl) ⟨by decide, by decide, by decide, by decide⟩ (fun r14 m14 h14 => ?_)
    obtain ⟨ha14, hb14⟩ := h14
    have ha14 := ha14.symm
    subst ha14
    have hb14 := hb14.symm
    subst hb14
    refine jv_istore (pc := 17) d_IC_codeMarks_17 (by decide) (jsto_new rfl) ?_
    refine jv_iload 0 (pc := 19) d_IC_codeMarks_19 rfl ?_
    refine jv_iconst 0 (pc := 21) d_IC_codeMarks_21 rfl ?_
    refine jv_bipush (12) (pc := 22) d_IC_codeMarks_22 rfl ?_
    refine jv_callSi (sp_IC_within v14 (0 : Int32) (12 : Int32)) (pc := 24) d_IC_codeMarks_24 c0_IC_within lk_IC_97 si_IC_within rfl (Nat.le_of_ble_eq_true rfl) ⟨by decide, by decide, by decide, by decide⟩ (fun r24 m24 h24 => ?_)
    obtain ⟨ha24, hb24⟩ := h24
    subst ha24
    have hb24 := hb24.symm
    subst hb24
    refine jv_if_ne 32 (pc := 27) d_IC_codeMarks_27 rfl (fun h27 => ?_) (fun h27 => ?_)
    · have h27 : ¬ ((f_IC_within v14 (0 : Int32) (12 : Int32) n14) = 0) := h27
      have H := (if_neg h27).symm.trans H
      refine jv_iconst 0 (pc := 32) d_IC_codeMarks_32 rfl ?_
      refine jv_istore (pc := 33) d_IC_codeMarks_33 (by decide) (jsto_new rfl) ?_
      refine jv_iconst 0 (pc := 35) d_IC_codeMarks_35 rfl ?_
      refine jv_istore (pc := 36) d_IC_codeMarks_36 (by decide) (jsto_new rfl) ?_
      refine jv_iconst 0 (pc := 38) d_IC_codeMarks_38 rfl ?_
      refine jv_istore (pc := 39) d_IC_codeMarks_39 (by decide) (jsto_new rfl) ?_
      refine jv_ldc (-2147483648) (pc := 41) d_IC_codeMarks_41 (jin3 99 rfl rfl) ?_
      refine jv_istore (pc := 43) d_IC_codeMarks_43 (by decide) (jsto_new rfl) ?_
      refine jv_iconst 0 (pc := 45) d_IC_codeMarks_45 rfl ?_
      refine jv_istore (pc := 46) d_IC_codeMarks_46 (by decide) (jsto_new rfl) ?_
      exact jv_sub [7, 8, 9, 6, 5, 4, 3, 2, 1, 0] rfl (lp_IC_codeMarks_48R  _ x1 x2 v14 (0 : Int32) (0 : Int32) (0 : Int32) (-2147483648 : Int32) (0 : Int32) _ _ _ H)
    · have h27 : (f_IC_within v14 (0 : Int32) (12 : Int32) n14) = 0 := h27
      have H := (if_pos h27).symm.trans H
      refine jv_iconst (-1) (pc := 30) d_IC_codeMarks_30 rfl ?_
      refine jv_iret (pc := 31) d_IC_codeMarks_31 rfl rfl (Nat.zero_le _) (Nat.zero_le _) ?_
      cases H
      exact jI.of ⟨rfl, rfl⟩
set_option maxRecDepth 40000 in
set_option maxHeartbeats 8000000 in
theorem sp_IC_point {G : jG} {σ τ : jMem} {r : Int32} (x1 x2 x3 : Int32) (H : f_IC_point x1 x2 x3 σ = some (r, τ)) : jSp G M_IC_point (jr 2 0 0) [.ref 0, .int x1, .int x2, .int x3] σ (jI fun r9 τ9 => r9 = r ∧ τ9 = τ) := by
  refine jSp.of rfl rfl (Nat.le_of_ble_eq_true rfl) ?_
  show jV _ _ _ _ 0 0 0 [(0, .ref 0), (1, .int x1), (2, .int x2), (3, .int x3)] [] σ
  unfold f_IC_point at H
  refine jv_iload_n 1 (pc := 0) d_IC_point_0 rfl ?_
  refine jv_callSi (sp_IC_isBoard x1) (pc := 1) d_IC_point_1 c0_IC_isBoard lk_IC_94 si_IC_isBoard rfl (Nat.le_of_ble_eq_true rfl) ⟨by decide, by decide, by decide, by decide⟩ (fun r1 m1 h1 => ?_)
  obtain ⟨ha1, hb1⟩ := h1
  subst ha1
  have hb1 := hb1.symm
  subst hb1
  refine jv_if_eq 26 (pc := 4) d_IC_point_4 rfl (fun h4 => ?_) (fun h4 => ?_)
  · have h4 : (f_IC_isBoard x1 σ) = 0 := h4
    have H := (if_pos h4).symm.trans H
    refine jv_iconst 0 (pc := 26) d_IC_point_26 rfl ?_
    refine jv_iret (pc := 27) d_IC_point_27 rfl rfl (Nat.zero_le _) (Nat.zero_le _) ?_
    cases H
    exact jI.of ⟨rfl, rfl⟩
  · have h4 : ¬ ((f_IC_isBoard x1 σ) = 0) := h4
    have H := (if_neg h4).symm.trans H
    refine jv_aload_n 0 (pc := 7) d_IC_point_7 rfl ?_
    refine jv_getr (pc := 8) d_IC_point_8 fa_IC_11_IC (by decide) rfl rfl ?_
    refine jv_iload_n 1 (pc := 11) d_IC_point_11 rfl ?_
    obtain ⟨b12, H⟩ := jck_some H
    have p12 : x1.toNatClampNeg < 12 := jbo12 b12
    refine jv_aald (pc := 12) d_IC_point_12 (by decide) rfl b12 (jbo b12) ?_
    refine jv_iload_n 2 (pc := 13) d_IC_point_13 rfl ?_
    refine jv_iload_n 3 (pc := 14) d_IC_point_14 rfl ?_
    obtain ⟨v15, n15, c15, H⟩ := jbd_some H
    refine jv_callVi (sp_PI_at x1.toNatClampNeg x2 x3 p12 c15) (pc := 15) d_IC_point_15 c0_PI_at lk_IC_86 in_PI_at se_PI_at (show 14 + 2 * x1.toNatClampNeg < jN by unfold jN; omega) (jshp_pic p12) rfl rfl (Nat.le_of_ble_eq_true rfl) ⟨by decide, by decide, by decide, by decide⟩ (fun r15 m15 h15 => ?_)
    obtain ⟨ha15, hb15⟩ := h15
    have ha15 := ha15.symm
    subst ha15
    have hb15 := hb15.symm
    subst hb15
    refine jv_iconst 1 (pc := 18) d_IC_point_18 rfl ?_
    refine jv_icmp_ne 26 (pc := 19) d_IC_point_19 rfl (fun h19 => ?_) (fun h19 => ?_)
    · have h19 : ¬ (v15 = (1 : Int32)) := h19
      have H := (if_neg h19).symm.trans H
      refine jv_iconst 0 (pc := 26) d_IC_point_26 rfl ?_
      refine jv_iret (pc := 27) d_IC_point_27 rfl rfl (Nat.zero_le _) (Nat.zero_le _) ?_
      cases H
      exact jI.of ⟨rfl, rfl⟩
    · have h19 : v15 = (1 : Int32) := h19
      have H := (if_pos h19).symm.trans H
      refine jv_iconst 1 (pc := 22) d_IC_point_22 rfl ?_
      refine jv_goto 27 (pc := 23) d_IC_point_23 rfl ?_
      refine jv_iret (pc := 27) d_IC_point_27 rfl rfl (Nat.zero_le _) (Nat.zero_le _) ?_
      cases H
      exact jI.of ⟨rfl, rfl⟩
set_option maxRecDepth 40000 in
set_option maxHeartbeats 8000000 in
theorem sp_IC_put {G : jG} {σ τ : jMem} {r : Int32} (x1 : Int32) (H : f_IC_put x1 σ = some (r, τ)) : jSp G M_IC_put (jr 1 0 0) [.ref 0, .int x1] σ (jI fun r9 τ9 => r9 = r ∧ τ9 = τ) := by
  refine jSp.of rfl rfl (Nat.le_of_ble_eq_true rfl) ?_
  show jV _ _ _ _ 0 0 0 [(0, .ref 0), (1, .int x1)] [] σ
  unfold f_IC_put at H
  refine jv_aload_n 0 (pc := 0) d_IC_put_0 rfl ?_
  refine jv_geti (pc := 1) d_IC_put_1 fa_IC_60_IC (by decide) rfl rfl ?_
  refine jv_if_ne 26 (pc := 4) d_IC_put_4 rfl (fun h4 => ?_) (fun h4 => ?_)
  · have h4 : ¬ ((σ 0 7) = 0) := h4
    have H := (if_neg h4).symm.trans H
    refine jv_iconst 0 (pc := 26) d_IC_put_26 rfl ?_
    refine jv_iret (pc := 27) d_IC_put_27 rfl rfl (Nat.zero_le _) (Nat.zero_le _) ?_
    cases H
    exact jI.of ⟨rfl, rfl⟩
  · have h4 : (σ 0 7) = 0 := h4
    have H := (if_pos h4).symm.trans H
    refine jv_aload_n 0 (pc := 7) d_IC_put_7 rfl ?_
    refine jv_getr (pc := 8) d_IC_put_8 fa_IC_33_IC (by decide) rfl rfl ?_
    refine jv_iload_n 1 (pc := 11) d_IC_put_11 rfl ?_
    refine jv_sipush (255) (pc := 12) d_IC_put_12 rfl ?_
    refine jv_iand (pc := 15) d_IC_put_15 ?_
    obtain ⟨v16, n16, c16, H⟩ := jbd_some H
    refine jv_callVi (sp_BR_append (x1 &&& (255 : Int32)) c16) (pc := 16) d_IC_put_16 c0_BR_append lk_IC_118 in_BR_append se_BR_append (by decide) rfl rfl rfl (Nat.le_of_ble_eq_true rfl) ⟨by decide, by decide, by decide, by decide⟩ (fun r16 m16 h16 => ?_)
    obtain ⟨ha16, hb16⟩ := h16
    have ha16 := ha16.symm
    subst ha16
    have hb16 := hb16.symm
    subst hb16
    refine jv_if_eq 26 (pc := 19) d_IC_put_19 rfl (fun h19 => ?_) (fun h19 => ?_)
    · have h19 : v16 = 0 := h19
      have H := (if_pos h19).symm.trans H
      refine jv_iconst 0 (pc := 26) d_IC_put_26 rfl ?_
      refine jv_iret (pc := 27) d_IC_put_27 rfl rfl (Nat.zero_le _) (Nat.zero_le _) ?_
      cases H
      exact jI.of ⟨rfl, rfl⟩
    · have h19 : ¬ (v16 = 0) := h19
      have H := (if_neg h19).symm.trans H
      refine jv_iconst 1 (pc := 22) d_IC_put_22 rfl ?_
      refine jv_goto 27 (pc := 23) d_IC_put_23 rfl ?_
      refine jv_iret (pc := 27) d_IC_put_27 rfl rfl (Nat.zero_le _) (Nat.zero_le _) ?_
      cases H
      exact jI.of ⟨rfl, rfl⟩
set_option maxRecDepth 40000 in
set_option maxHeartbeats 8000000 in
theorem sp_IC_length {G : jG} {σ τ : jMem} {r : Int32} (H : f_IC_length σ = some (r, τ)) : jSp G M_IC_length (jr 0 0 0) [.ref 0] σ (jI fun r9 τ9 => r9 = r ∧ τ9 = τ) := by
  refine jSp.of rfl rfl (Nat.le_of_ble_eq_true rfl) ?_
  show jV _ _ _ _ 0 0 0 [(0, .ref 0)] [] σ
  unfold f_IC_length at H
  refine jv_aload_n 0 (pc := 0) d_IC_length_0 rfl ?_
  refine jv_getr (pc := 1) d_IC_length_1 fa_IC_33_IC (by decide) rfl rfl ?_
  refine jv_geti (pc := 4) d_IC_length_4 fa_IC_121_BR (by decide) rfl rfl ?_
  refine jv_iret (pc := 7) d_IC_length_7 rfl rfl (Nat.zero_le _) (Nat.zero_le _) ?_
  cases H
  exact jI.of ⟨rfl, rfl⟩
set_option maxRecDepth 40000 in
set_option maxHeartbeats 8000000 in
theorem sp_IC_begin {G : jG} {σ τ : jMem} {r : Unit} (x1 : Int32) (H : f_IC_begin x1 σ = some (r, τ)) : jSp G M_IC_begin (jr 3 0 0) [.ref 0, .int x1] σ (jU fun τ9 => τ9 = τ) := by
  refine jSp.of rfl rfl (Nat.le_of_ble_eq_true rfl) ?_
  show jV _ _ _ _ 0 0 0 [(0, .ref 0), (1, .int x1)] [] σ
  unfold f_IC_begin at H
  refine jv_aload_n 0 (pc := 0) d_IC_begin_0 rfl ?_
  refine jv_getr (pc := 1) d_IC_begin_1 fa_IC_40_IC (by decide) rfl rfl ?_
  obtain ⟨_, n4, c4, H⟩ := jbd_some H
  refine jv_callVv (sp_CX_renew c4) (pc := 4) d_IC_begin_4 c0_CX_renew lk_IC_127 in_CX_renew se_CX_renew (by decide) rfl rfl rfl (Nat.le_of_ble_eq_true rfl) ⟨by decide, by decide, by decide, by decide⟩ (fun m4 h4 => ?_)
  have hb4 := h4
  have hb4 := hb4.symm
  subst hb4
  refine jv_iload_n 1 (pc := 7) d_IC_begin_7 rfl ?_
  refine jv_if_eq 21 (pc := 8) d_IC_begin_8 rfl (fun h8 => ?_) (fun h8 => ?_)
  · have h8 : x1 = 0 := h8
    have H := (if_pos h8).symm.trans H
    refine jv_aload_n 0 (pc := 21) d_IC_begin_21 rfl ?_
    refine jv_getr (pc := 22) d_IC_begin_22 fa_IC_56_IC (by decide) rfl rfl ?_
    obtain ⟨_, n25, c25, H⟩ := jbd_some H
    refine jv_callVv (sp_RD_start c25) (pc := 25) d_IC_begin_25 c0_RD_start lk_IC_133 in_RD_start se_RD_start (by decide) rfl rfl rfl (Nat.le_of_ble_eq_true rfl) ⟨by decide, by decide, by decide, by decide⟩ (fun m25 h25 => ?_)
    have hb25 := h25
    have hb25 := hb25.symm
    subst hb25
    refine jv_aload_n 0 (pc := 28) d_IC_begin_28 rfl ?_
    refine jv_iload_n 1 (pc := 29) d_IC_begin_29 rfl ?_
    refine jv_if_eq 37 (pc := 30) d_IC_begin_30 rfl (fun h30 => ?_) (fun h30 => ?_)
    · have h30 : x1 = 0 := h30
      have H := (if_pos h30).symm.trans H
      refine jv_iconst 2 (pc := 37) d_IC_begin_37 rfl ?_
      refine jv_puti (pc := 38) d_IC_begin_38 fa_IC_60_IC fp_IC_7 (by decide) rfl rfl rfl rfl ?_
      refine jv_vret (pc := 41) d_IC_begin_41 rfl (Nat.zero_le _) (Nat.zero_le _) ?_
      cases H
      exact jU.of rfl
    · have h30 : ¬ (x1 = 0) := h30
      have H := (if_neg h30).symm.trans H
      refine jv_iconst 1 (pc := 33) d_IC_begin_33 rfl ?_
      refine jv_goto 38 (pc := 34) d_IC_begin_34 rfl ?_
      refine jv_puti (pc := 38) d_IC_begin_38 fa_IC_60_IC fp_IC_7 (by decide) rfl rfl rfl rfl ?_
      refine jv_vret (pc := 41) d_IC_begin_41 rfl (Nat.zero_le _) (Nat.zero_le _) ?_
      cases H
      exact jU.of rfl
  · have h8 : ¬ (x1 = 0) := h8
    have H := (if_neg h8).symm.trans H
    refine jv_aload_n 0 (pc := 11) d_IC_begin_11 rfl ?_
    refine jv_getr (pc := 12) d_IC_begin_12 fa_IC_49_IC (by decide) rfl rfl ?_
    obtain ⟨_, n15, c15, H⟩ := jbd_some H
    refine jv_callVv (sp_WR_start c15) (pc := 15) d_IC_begin_15 c0_WR_start lk_IC_130 in_WR_start se_WR_start (by decide) rfl rfl rfl (Nat.le_of_ble_eq_true rfl) ⟨by decide, by decide, by decide, by decide⟩ (fun m15 h15 => ?_)
    have hb15 := h15
    have hb15 := hb15.symm
    subst hb15
    refine jv_goto 28 (pc := 18) d_IC_begin_18 rfl ?_
    refine jv_aload_n 0 (pc := 28) d_IC_begin_28 rfl ?_
    refine jv_iload_n 1 (pc := 29) d_IC_begin_29 rfl ?_
    refine jv_if_eq 37 (pc := 30) d_IC_begin_30 rfl (fun h30 => ?_) (fun h30 => ?_)
    · have h30 : x1 = 0 := h30
      have H := (if_pos h30).symm.trans H
      refine jv_iconst 2 (pc := 37) d_IC_begin_37 rfl ?_
      refine jv_puti (pc := 38) d_IC_begin_38 fa_IC_60_IC fp_IC_7 (by decide) rfl rfl rfl rfl ?_
      refine jv_vret (pc := 41) d_IC_begin_41 rfl (Nat.zero_le _) (Nat.zero_le _) ?_
      cases H
      exact jU.of rfl
    · have h30 : ¬ (x1 = 0) := h30
      have H := (if_neg h30).symm.trans H
      refine jv_iconst 1 (pc := 33) d_IC_begin_33 rfl ?_
      refine jv_goto 38 (pc := 34) d_IC_begin_34 rfl ?_
      refine jv_puti (pc := 38) d_IC_begin_38 fa_IC_60_IC fp_IC_7 (by decide) rfl rfl rfl rfl ?_
      refine jv_vret (pc := 41) d_IC_begin_41 rfl (Nat.zero_le _) (Nat.zero_le _) ?_
      cases H
      exact jU.of rfl
set_option maxRecDepth 40000 in
set_option maxHeartbeats 8000000 in
theorem sp_IC_state {G : jG} {σ τ : jMem} {r : Int32} (H : f_IC_state σ = some (r, τ)) : jSp G M_IC_state (jr 0 0 0) [.ref 0] σ (jI fun r9 τ9 => r9 = r ∧ τ9 = τ) := by
  refine jSp.of rfl rfl (Nat.le_of_ble_eq_true rfl) ?_
  show jV _ _ _ _ 0 0 0 [(0, .ref 0)] [] σ
  unfold f_IC_state at H
  refine jv_aload_n 0 (pc := 0) d_IC_state_0 rfl ?_
  refine jv_geti (pc := 1) d_IC_state_1 fa_IC_60_IC (by decide) rfl rfl ?_
  refine jv_iret (pc := 4) d_IC_state_4 rfl rfl (Nat.zero_le _) (Nat.zero_le _) ?_
  cases H
  exact jI.of ⟨rfl, rfl⟩
set_option maxRecDepth 40000 in
set_option maxHeartbeats 8000000 in
theorem sp_IC_forget {G : jG} {σ τ : jMem} {r : Unit} (H : f_IC_forget σ = some (r, τ)) : jSp G M_IC_forget (jr 0 0 0) [.ref 0] σ (jU fun τ9 => τ9 = τ) := by
  refine jSp.of rfl rfl (Nat.le_of_ble_eq_true rfl) ?_
  show jV _ _ _ _ 0 0 0 [(0, .ref 0)] [] σ
  unfold f_IC_forget at H
  refine jv_aload_n 0 (pc := 0) d_IC_forget_0 rfl ?_
  refine jv_getr (pc := 1) d_IC_forget_1 fa_IC_19_IC (by decide) rfl rfl ?_
  refine jv_iconst 0 (pc := 4) d_IC_forget_4 rfl ?_
  refine jv_puti (pc := 5) d_IC_forget_5 fa_IC_166_SR fp_SR_1 (by decide) rfl rfl rfl rfl ?_
  refine jv_aload_n 0 (pc := 8) d_IC_forget_8 rfl ?_
  refine jv_getr (pc := 9) d_IC_forget_9 fa_IC_26_IC (by decide) rfl rfl ?_
  refine jv_iconst 0 (pc := 12) d_IC_forget_12 rfl ?_
  refine jv_puti (pc := 13) d_IC_forget_13 fa_IC_177_MR fp_MR_3 (by decide) rfl rfl rfl rfl ?_
  refine jv_vret (pc := 16) d_IC_forget_16 rfl (Nat.zero_le _) (Nat.zero_le _) ?_
  cases H
  exact jU.of rfl
set_option maxRecDepth 40000 in
set_option maxHeartbeats 8000000 in
theorem sp_IC_cut {G : jG} {σ τ : jMem} {r : Int32} (x1 : Int32) (H : f_IC_cut x1 σ = some (r, τ)) : jSp G M_IC_cut (jr 1 0 0) [.ref 0, .int x1] σ (jI fun r9 τ9 => r9 = r ∧ τ9 = τ) := by
  refine jSp.of rfl rfl (Nat.le_of_ble_eq_true rfl) ?_
  show jV _ _ _ _ 0 0 0 [(0, .ref 0), (1, .int x1)] [] σ
  unfold f_IC_cut at H
  refine jv_aload_n 0 (pc := 0) d_IC_cut_0 rfl ?_
  refine jv_geti (pc := 1) d_IC_cut_1 fa_IC_60_IC (by decide) rfl rfl ?_
  refine jv_if_ne 22 (pc := 4) d_IC_cut_4 rfl (fun h4 => ?_) (fun h4 => ?_)
  · have h4 : ¬ ((σ 0 7) = 0) := h4
    have H := (if_neg h4).symm.trans H
    refine jv_iconst 0 (pc := 22) d_IC_cut_22 rfl ?_
    refine jv_iret (pc := 23) d_IC_cut_23 rfl rfl (Nat.zero_le _) (Nat.zero_le _) ?_
    cases H
    exact jI.of ⟨rfl, rfl⟩
  · have h4 : (σ 0 7) = 0 := h4
    have H := (if_pos h4).symm.trans H
    refine jv_iload_n 1 (pc := 7) d_IC_cut_7 rfl ?_
    refine jv_iconst 0 (pc := 8) d_IC_cut_8 rfl ?_
    refine jv_aload_n 0 (pc := 9) d_IC_cut_9 rfl ?_
    refine jv_getr (pc := 10) d_IC_cut_10 fa_IC_33_IC (by decide) rfl rfl ?_
    refine jv_geti (pc := 13) d_IC_cut_13 fa_IC_121_BR (by decide) rfl rfl ?_
    refine jv_callSi (sp_IC_within x1 (0 : Int32) (σ 8 1)) (pc := 16) d_IC_cut_16 c0_IC_within lk_IC_97 si_IC_within rfl (Nat.le_of_ble_eq_true rfl) ⟨by decide, by decide, by decide, by decide⟩ (fun r16 m16 h16 => ?_)
    obtain ⟨ha16, hb16⟩ := h16
    subst ha16
    have hb16 := hb16.symm
    subst hb16
    refine jv_if_ne 24 (pc := 19) d_IC_cut_19 rfl (fun h19 => ?_) (fun h19 => ?_)
    · have h19 : ¬ ((f_IC_within x1 (0 : Int32) (σ 8 1) σ) = 0) := h19
      have H := (if_neg h19).symm.trans H
      refine jv_aload_n 0 (pc := 24) d_IC_cut_24 rfl ?_
      refine jv_getr (pc := 25) d_IC_cut_25 fa_IC_33_IC (by decide) rfl rfl ?_
      refine jv_iload_n 1 (pc := 28) d_IC_cut_28 rfl ?_
      refine jv_puti (pc := 29) d_IC_cut_29 fa_IC_121_BR fp_BR_1 (by decide) rfl rfl rfl rfl ?_
      refine jv_iconst 1 (pc := 32) d_IC_cut_32 rfl ?_
      refine jv_iret (pc := 33) d_IC_cut_33 rfl rfl (Nat.zero_le _) (Nat.zero_le _) ?_
      cases H
      exact jI.of ⟨rfl, rfl⟩
    · have h19 : (f_IC_within x1 (0 : Int32) (σ 8 1) σ) = 0 := h19
      have H := (if_pos h19).symm.trans H
      refine jv_iconst 0 (pc := 22) d_IC_cut_22 rfl ?_
      refine jv_iret (pc := 23) d_IC_cut_23 rfl rfl (Nat.zero_le _) (Nat.zero_le _) ?_
      cases H
      exact jI.of ⟨rfl, rfl⟩
