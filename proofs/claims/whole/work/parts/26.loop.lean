/-! the law's loop -/
theorem pn_LW_size : (parseMethodDescriptor M_LW_size.y.desc).map (fun d => d.parameters.length) = some 4 := by decide +kernel
theorem pn_LW_flip : (parseMethodDescriptor M_LW_flip.y.desc).map (fun d => d.parameters.length) = some 5 := by decide +kernel
theorem pn_LW_draw : (parseMethodDescriptor M_LW_draw.y.desc).map (fun d => d.parameters.length) = some 6 := by decide +kernel
theorem pn_LW_board : (parseMethodDescriptor M_LW_board.y.desc).map (fun d => d.parameters.length) = some 4 := by decide +kernel
theorem pn_LW_code : (parseMethodDescriptor M_LW_code.y.desc).map (fun d => d.parameters.length) = some 3 := by decide +kernel
theorem pn_LW_end : (parseMethodDescriptor M_LW_end.y.desc).map (fun d => d.parameters.length) = some 2 := by decide +kernel
theorem pn_LW_region : (parseMethodDescriptor M_LW_region.y.desc).map (fun d => d.parameters.length) = some 5 := by decide +kernel
theorem pn_LW_refine : (parseMethodDescriptor M_LW_refine.y.desc).map (fun d => d.parameters.length) = some 6 := by decide +kernel
theorem pn_LW_number : (parseMethodDescriptor M_LW_number.y.desc).map (fun d => d.parameters.length) = some 4 := by decide +kernel
theorem pn_LW_learn : (parseMethodDescriptor M_LW_learn.y.desc).map (fun d => d.parameters.length) = some 3 := by decide +kernel
theorem pn_LW_mark : (parseMethodDescriptor M_LW_mark.y.desc).map (fun d => d.parameters.length) = some 5 := by decide +kernel
theorem pn_LW_symbol : (parseMethodDescriptor M_LW_symbol.y.desc).map (fun d => d.parameters.length) = some 5 := by decide +kernel
theorem pn_LW_marked : (parseMethodDescriptor M_LW_marked.y.desc).map (fun d => d.parameters.length) = some 4 := by decide +kernel
theorem pn_LW_dictionary : (parseMethodDescriptor M_LW_dictionary.y.desc).map (fun d => d.parameters.length) = some 2 := by decide +kernel
theorem pn_LW_text : (parseMethodDescriptor M_LW_text.y.desc).map (fun d => d.parameters.length) = some 6 := by decide +kernel
set_option maxRecDepth 40000 in
set_option maxHeartbeats 8000000 in
theorem lp_LW_law_23 {G : jG} (htr : G.l.stackTraces = false) : ∀ (n : Nat) (x4 : Int32) (k0 s0 : Nat) (σ τ : jMem) (r : Int32), k0 + 4 * n ≤ 601024 → s0 + 24 * n ≤ 7293034 → f_LW_law_L23 G.xs G.L n x4 σ = some (r, τ) → jV G M_LW_law room_1 (jI fun r9 τ9 => r9 = r ∧ τ9 = τ) k0 s0 23 [(0, .ref jScr), (1, .ref 0), (2, .ref 38), (3, .ref 47), (4, .int x4)] [] σ := by
  intro n
  induction n with
  | zero =>
    intro x4 k0 s0 σ τ r hk hs H
    cases H
  | succ n ih =>
    intro x4 k0 s0 σ τ r hk hs H
    rw [f_LW_law_L23.eq_2] at H
    refine jv_iload 4 (pc := 23) d_LW_law_23 rfl ?_
    refine jv_aload_n 0 (pc := 25) d_LW_law_25 rfl ?_
    refine jv_slen (pc := 26) d_LW_law_26 ?_
    refine jv_bipush (6) (pc := 27) d_LW_law_27 rfl ?_
    refine jv_isub (pc := 29) d_LW_law_29 ?_
    refine jv_icmp_gt 1416 (pc := 30) d_LW_law_30 rfl (fun h30 => ?_) (fun h30 => ?_)
    · have h30 : ((Int32.ofNat G.L) - (6 : Int32)) < x4 := h30
      have H := (if_pos h30).symm.trans H
      refine jv_iconst 1 (pc := 1416) d_LW_law_1416 rfl ?_
      refine jv_iret (pc := 1417) d_LW_law_1417 rfl rfl (by (simp only [jr, room_1]; omega)) (by (simp only [jr, room_1]; omega)) ?_
      cases H
      exact jI.of ⟨rfl, rfl⟩
    · have h30 : ¬ (((Int32.ofNat G.L) - (6 : Int32)) < x4) := h30
      have H := (if_neg h30).symm.trans H
      refine jv_aload_n 0 (pc := 33) d_LW_law_33 rfl ?_
      refine jv_iload 4 (pc := 34) d_LW_law_34 rfl ?_
      obtain ⟨b36, H⟩ := jck_some H
      refine jv_sald (pc := 36) d_LW_law_36 b36 ?_
      refine jv_bipush (31) (pc := 37) d_LW_law_37 rfl ?_
      refine jv_iand (pc := 39) d_LW_law_39 ?_
      by_cases h40_0 : ((G.xs x4.toNatClampNeg) &&& (31 : Int32)) = 0
      · have H := (if_pos h40_0).symm.trans H
        refine jv_tin 144 (pc := 40) d_LW_law_40 (by rw [h40_0]; decide) (by rw [h40_0]; decide) (by rw [h40_0]; rfl) rfl ?_
        refine jv_aload_n 1 (pc := 144) d_LW_law_144 rfl ?_
        refine jv_aload_n 0 (pc := 145) d_LW_law_145 rfl ?_
        refine jv_iload 4 (pc := 146) d_LW_law_146 rfl ?_
        refine jv_iconst 1 (pc := 148) d_LW_law_148 rfl ?_
        refine jv_iadd (pc := 149) d_LW_law_149 ?_
        obtain ⟨b150, H⟩ := jck_some H
        refine jv_sald (pc := 150) d_LW_law_150 b150 ?_
        refine jv_aload_n 0 (pc := 151) d_LW_law_151 rfl ?_
        refine jv_iload 4 (pc := 152) d_LW_law_152 rfl ?_
        refine jv_iconst 2 (pc := 154) d_LW_law_154 rfl ?_
        refine jv_iadd (pc := 155) d_LW_law_155 ?_
        obtain ⟨b156, H⟩ := jck_some H
        refine jv_sald (pc := 156) d_LW_law_156 b156 ?_
        refine jv_aload_n 0 (pc := 157) d_LW_law_157 rfl ?_
        refine jv_iload 4 (pc := 158) d_LW_law_158 rfl ?_
        refine jv_iconst 3 (pc := 160) d_LW_law_160 rfl ?_
        refine jv_iadd (pc := 161) d_LW_law_161 ?_
        obtain ⟨b162, H⟩ := jck_some H
        refine jv_sald (pc := 162) d_LW_law_162 b162 ?_
        obtain ⟨v163, n163, c163, H⟩ := jbd_some H
        refine jv_callSH (sp_LW_size (G.xs (x4 + (1 : Int32)).toNatClampNeg) (G.xs (x4 + (2 : Int32)).toNatClampNeg) (G.xs (x4 + (3 : Int32)).toNatClampNeg) htr c163) (pc := 163) d_LW_law_163 (by decide) cw_LW_size (jin1 0 rfl rfl) ⟨by decide, by decide⟩ pn_LW_size (jin2 39 rfl rfl) si_LW_size rfl (Nat.le_of_ble_eq_true rfl) ⟨by decide, by decide, by (simp only [jr, room_1]; omega), by (simp only [jr, room_1]; omega)⟩ (fun r163 m163 h163 => ?_)
        obtain ⟨ha163, hb163⟩ := h163
        have ha163 := ha163.symm
        subst ha163
        have hb163 := hb163.symm
        subst hb163
        refine jv_istore (pc := 166) d_LW_law_166 (by decide) (jsto_new rfl) ?_
        refine jv_aload_n 3 (pc := 168) d_LW_law_168 rfl ?_
        refine jv_aload_n 1 (pc := 169) d_LW_law_169 rfl ?_
        refine jv_iload 5 (pc := 170) d_LW_law_170 rfl ?_
        refine jv_iconst 1 (pc := 172) d_LW_law_172 rfl ?_
        refine jv_iadd (pc := 173) d_LW_law_173 ?_
        obtain ⟨b174, H⟩ := jck_some H
        refine jv_sald (pc := 174) d_LW_law_174 b174 ?_
        refine jv_aload_n 1 (pc := 175) d_LW_law_175 rfl ?_
        refine jv_iload 5 (pc := 176) d_LW_law_176 rfl ?_
        refine jv_iconst 2 (pc := 178) d_LW_law_178 rfl ?_
        refine jv_iadd (pc := 179) d_LW_law_179 ?_
        obtain ⟨b180, H⟩ := jck_some H
        refine jv_sald (pc := 180) d_LW_law_180 b180 ?_
        refine jv_aload_n 1 (pc := 181) d_LW_law_181 rfl ?_
        refine jv_iload 5 (pc := 182) d_LW_law_182 rfl ?_
        refine jv_iconst 3 (pc := 184) d_LW_law_184 rfl ?_
        refine jv_iadd (pc := 185) d_LW_law_185 ?_
        obtain ⟨b186, H⟩ := jck_some H
        refine jv_sald (pc := 186) d_LW_law_186 b186 ?_
        obtain ⟨_, n187, c187, H⟩ := jbd_some H
        refine jv_callVv (sp_MO_size (G.xs (x4 + (1 : Int32)).toNatClampNeg) (G.xs (x4 + (2 : Int32)).toNatClampNeg) (G.xs (x4 + (3 : Int32)).toNatClampNeg) c187) (pc := 187) d_LW_law_187 c0_MO_size lk_LW_81 in_MO_size se_MO_size (by decide) rfl rfl rfl (Nat.le_of_ble_eq_true rfl) ⟨by decide, by decide, by (simp only [jr, room_1]; omega), by (simp only [jr, room_1]; omega)⟩ (fun m187 h187 => ?_)
        have hb187 := h187
        have hb187 := hb187.symm
        subst hb187
        refine jv_aload_n 3 (pc := 190) d_LW_law_190 rfl ?_
        refine jv_callVi (sp_MO_thrown) (pc := 191) d_LW_law_191 c0_MO_thrown lk_LW_82 in_MO_thrown se_MO_thrown (by decide) rfl rfl rfl (Nat.le_of_ble_eq_true rfl) ⟨by decide, by decide, by (simp only [jr, room_1]; omega), by (simp only [jr, room_1]; omega)⟩ (fun r191 m191 h191 => ?_)
        obtain ⟨ha191, hb191⟩ := h191
        subst ha191
        have hb191 := hb191.symm
        subst hb191
        refine jv_iload 0 (pc := 194) d_LW_law_194 rfl ?_
        refine jv_icmp_eq 201 (pc := 196) d_LW_law_196 rfl (fun h196 => ?_) (fun h196 => ?_)
        · have h196 : (f_MO_thrown n187) = v163 := h196
          have H := (if_pos h196).symm.trans H
          refine jv_goto 1410 (pc := 201) d_LW_law_201 rfl ?_
          refine jv_iinc 5 _ (pc := 1410) d_LW_law_1410 rfl rfl (by decide) (jst5 rfl) ?_
          refine jv_goto 23 (pc := 1413) d_LW_law_1413 rfl ?_
          exact jv_wide (k1 := k0 + 4) (n1 := s0 + 24) (by first | omega | (simp only [jr]; omega)) (by first | omega | (simp only [jr]; omega)) (jv_sub [1, 2, 3, 4, 5] rfl (ih (x4 + Int32.ofInt (6)) _ _ _ _ _ (by omega) (by omega) H))
        · have h196 : ¬ ((f_MO_thrown n187) = v163) := h196
          have H := (if_neg h196).symm.trans H
          refine jv_iconst 0 (pc := 199) d_LW_law_199 rfl ?_
          refine jv_iret (pc := 200) d_LW_law_200 rfl rfl (by (simp only [jr, room_1]; omega)) (by (simp only [jr, room_1]; omega)) ?_
          cases H
          exact jI.of ⟨rfl, rfl⟩
      have H := (if_neg h40_0).symm.trans H
      by_cases h40_1 : ((G.xs x4.toNatClampNeg) &&& (31 : Int32)) = 1
      · have H := (if_pos h40_1).symm.trans H
        refine jv_tin 204 (pc := 40) d_LW_law_40 (by rw [h40_1]; decide) (by rw [h40_1]; decide) (by rw [h40_1]; rfl) rfl ?_
        refine jv_aload_n 1 (pc := 204) d_LW_law_204 rfl ?_
        refine jv_aload_n 0 (pc := 205) d_LW_law_205 rfl ?_
        refine jv_iload 4 (pc := 206) d_LW_law_206 rfl ?_
        refine jv_iconst 1 (pc := 208) d_LW_law_208 rfl ?_
        refine jv_iadd (pc := 209) d_LW_law_209 ?_
        obtain ⟨b210, H⟩ := jck_some H
        refine jv_sald (pc := 210) d_LW_law_210 b210 ?_
        refine jv_aload_n 0 (pc := 211) d_LW_law_211 rfl ?_
        refine jv_iload 4 (pc := 212) d_LW_law_212 rfl ?_
        refine jv_iconst 2 (pc := 214) d_LW_law_214 rfl ?_
        refine jv_iadd (pc := 215) d_LW_law_215 ?_
        obtain ⟨b216, H⟩ := jck_some H
        refine jv_sald (pc := 216) d_LW_law_216 b216 ?_
        refine jv_aload_n 0 (pc := 217) d_LW_law_217 rfl ?_
        refine jv_iload 4 (pc := 218) d_LW_law_218 rfl ?_
        refine jv_iconst 3 (pc := 220) d_LW_law_220 rfl ?_
        refine jv_iadd (pc := 221) d_LW_law_221 ?_
        obtain ⟨b222, H⟩ := jck_some H
        refine jv_sald (pc := 222) d_LW_law_222 b222 ?_
        refine jv_aload_n 3 (pc := 223) d_LW_law_223 rfl ?_
        obtain ⟨v224, n224, c224, H⟩ := jbd_some H
        refine jv_callSH (sp_LW_flip (G.xs (x4 + (1 : Int32)).toNatClampNeg) (G.xs (x4 + (2 : Int32)).toNatClampNeg) (G.xs (x4 + (3 : Int32)).toNatClampNeg) htr c224) (pc := 224) d_LW_law_224 (by decide) cw_LW_flip (jin1 0 rfl rfl) ⟨by decide, by decide⟩ pn_LW_flip (jin2 139 rfl rfl) si_LW_flip rfl (Nat.le_of_ble_eq_true rfl) ⟨by decide, by decide, by (simp only [jr, room_1]; omega), by (simp only [jr, room_1]; omega)⟩ (fun r224 m224 h224 => ?_)
        obtain ⟨ha224, hb224⟩ := h224
        have ha224 := ha224.symm
        subst ha224
        have hb224 := hb224.symm
        subst hb224
        refine jv_istore (pc := 227) d_LW_law_227 (by decide) (jsto_new rfl) ?_
        refine jv_aload_n 3 (pc := 229) d_LW_law_229 rfl ?_
        refine jv_aload_n 1 (pc := 230) d_LW_law_230 rfl ?_
        refine jv_iload 5 (pc := 231) d_LW_law_231 rfl ?_
        refine jv_iconst 1 (pc := 233) d_LW_law_233 rfl ?_
        refine jv_iadd (pc := 234) d_LW_law_234 ?_
        obtain ⟨b235, H⟩ := jck_some H
        refine jv_sald (pc := 235) d_LW_law_235 b235 ?_
        refine jv_aload_n 1 (pc := 236) d_LW_law_236 rfl ?_
        refine jv_iload 5 (pc := 237) d_LW_law_237 rfl ?_
        refine jv_iconst 2 (pc := 239) d_LW_law_239 rfl ?_
        refine jv_iadd (pc := 240) d_LW_law_240 ?_
        obtain ⟨b241, H⟩ := jck_some H
        refine jv_sald (pc := 241) d_LW_law_241 b241 ?_
        refine jv_aload_n 1 (pc := 242) d_LW_law_242 rfl ?_
        refine jv_iload 5 (pc := 243) d_LW_law_243 rfl ?_
        refine jv_iconst 3 (pc := 245) d_LW_law_245 rfl ?_
        refine jv_iadd (pc := 246) d_LW_law_246 ?_
        obtain ⟨b247, H⟩ := jck_some H
        refine jv_sald (pc := 247) d_LW_law_247 b247 ?_
        obtain ⟨v248, n248, c248, H⟩ := jbd_some H
        refine jv_callVi (sp_MO_flip (G.xs (x4 + (1 : Int32)).toNatClampNeg) (G.xs (x4 + (2 : Int32)).toNatClampNeg) (G.xs (x4 + (3 : Int32)).toNatClampNeg) c248) (pc := 248) d_LW_law_248 c0_MO_flip lk_LW_88 in_MO_flip se_MO_flip (by decide) rfl rfl rfl (Nat.le_of_ble_eq_true rfl) ⟨by decide, by decide, by (simp only [jr, room_1]; omega), by (simp only [jr, room_1]; omega)⟩ (fun r248 m248 h248 => ?_)
        obtain ⟨ha248, hb248⟩ := h248
        have ha248 := ha248.symm
        subst ha248
        have hb248 := hb248.symm
        subst hb248
        refine jv_istore (pc := 251) d_LW_law_251 (by decide) (jsto_new rfl) ?_
        refine jv_aload_n 4 (pc := 253) d_LW_law_253 rfl ?_
        refine jv_callVi (sp_MO_thrown) (pc := 254) d_LW_law_254 c0_MO_thrown lk_LW_82 in_MO_thrown se_MO_thrown (by decide) rfl rfl rfl (Nat.le_of_ble_eq_true rfl) ⟨by decide, by decide, by (simp only [jr, room_1]; omega), by (simp only [jr, room_1]; omega)⟩ (fun r254 m254 h254 => ?_)
        obtain ⟨ha254, hb254⟩ := h254
        subst ha254
        have hb254 := hb254.symm
        subst hb254
        refine jv_iload 1 (pc := 257) d_LW_law_257 rfl ?_
        refine jv_icmp_eq 264 (pc := 259) d_LW_law_259 rfl (fun h259 => ?_) (fun h259 => ?_)
        · have h259 : (f_MO_thrown n248) = v224 := h259
          have H := (if_pos h259).symm.trans H
          refine jv_iload 1 (pc := 264) d_LW_law_264 rfl ?_
          refine jv_if_ne 288 (pc := 266) d_LW_law_266 rfl (fun h266 => ?_) (fun h266 => ?_)
          · have h266 : ¬ (v224 = 0) := h266
            have H := (if_neg h266).symm.trans H
            refine jv_goto 1410 (pc := 288) d_LW_law_288 rfl ?_
            refine jv_iinc 6 _ (pc := 1410) d_LW_law_1410 rfl rfl (by decide) (jst6 rfl) ?_
            refine jv_goto 23 (pc := 1413) d_LW_law_1413 rfl ?_
            exact jv_wide (k1 := k0 + 4) (n1 := s0 + 24) (by first | omega | (simp only [jr]; omega)) (by first | omega | (simp only [jr]; omega)) (jv_sub [2, 3, 4, 5, 6] rfl (ih (x4 + Int32.ofInt (6)) _ _ _ _ _ (by omega) (by omega) H))
          · have h266 : v224 = 0 := h266
            have H := (if_pos h266).symm.trans H
            refine jv_aload_n 5 (pc := 269) d_LW_law_269 rfl ?_
            refine jv_iconst 0 (pc := 270) d_LW_law_270 rfl ?_
            refine jv_lald (pc := 271) d_LW_law_271 (by decide) rfl jin01 ?_
            refine jv_iload 0 (pc := 272) d_LW_law_272 rfl ?_
            refine jv_if_eq 281 (pc := 274) d_LW_law_274 rfl (fun h274 => ?_) (fun h274 => ?_)
            · have h274 : v248 = 0 := h274
              have H := (if_pos h274).symm.trans H
              refine jv_lconst 0 (pc := 281) d_LW_law_281 rfl ?_
              refine jv_lcmp (pc := 282) d_LW_law_282 ?_
              refine jv_if_eq 288 (pc := 283) d_LW_law_283 rfl (fun h283 => ?_) (fun h283 => ?_)
              · have h283 : (lg_cmp ((n248 47 ((0 : Int32).toNatClampNeg)).toInt64) (0 : Int64)) = 0 := h283
                have H := (if_pos h283).symm.trans H
                refine jv_goto 1410 (pc := 288) d_LW_law_288 rfl ?_
                refine jv_iinc 6 _ (pc := 1410) d_LW_law_1410 rfl rfl (by decide) (jst6 rfl) ?_
                refine jv_goto 23 (pc := 1413) d_LW_law_1413 rfl ?_
                exact jv_wide (k1 := k0 + 4) (n1 := s0 + 24) (by first | omega | (simp only [jr]; omega)) (by first | omega | (simp only [jr]; omega)) (jv_sub [2, 3, 4, 5, 6] rfl (ih (x4 + Int32.ofInt (6)) _ _ _ _ _ (by omega) (by omega) H))
              · have h283 : ¬ ((lg_cmp ((n248 47 ((0 : Int32).toNatClampNeg)).toInt64) (0 : Int64)) = 0) := h283
                have H := (if_neg h283).symm.trans H
                refine jv_iconst 0 (pc := 286) d_LW_law_286 rfl ?_
                refine jv_iret (pc := 287) d_LW_law_287 rfl rfl (by (simp only [jr, room_1]; omega)) (by (simp only [jr, room_1]; omega)) ?_
                cases H
                exact jI.of ⟨rfl, rfl⟩
            · have h274 : ¬ (v248 = 0) := h274
              have H := (if_neg h274).symm.trans H
              refine jv_lconst 1 (pc := 277) d_LW_law_277 rfl ?_
              refine jv_goto 282 (pc := 278) d_LW_law_278 rfl ?_
              refine jv_lcmp (pc := 282) d_LW_law_282 ?_
              refine jv_if_eq 288 (pc := 283) d_LW_law_283 rfl (fun h283 => ?_) (fun h283 => ?_)
              · have h283 : (lg_cmp ((n248 47 ((0 : Int32).toNatClampNeg)).toInt64) (1 : Int64)) = 0 := h283
                have H := (if_pos h283).symm.trans H
                refine jv_goto 1410 (pc := 288) d_LW_law_288 rfl ?_
                refine jv_iinc 6 _ (pc := 1410) d_LW_law_1410 rfl rfl (by decide) (jst6 rfl) ?_
                refine jv_goto 23 (pc := 1413) d_LW_law_1413 rfl ?_
                exact jv_wide (k1 := k0 + 4) (n1 := s0 + 24) (by first | omega | (simp only [jr]; omega)) (by first | omega | (simp only [jr]; omega)) (jv_sub [2, 3, 4, 5, 6] rfl (ih (x4 + Int32.ofInt (6)) _ _ _ _ _ (by omega) (by omega) H))
              · have h283 : ¬ ((lg_cmp ((n248 47 ((0 : Int32).toNatClampNeg)).toInt64) (1 : Int64)) = 0) := h283
                have H := (if_neg h283).symm.trans H
                refine jv_iconst 0 (pc := 286) d_LW_law_286 rfl ?_
                refine jv_iret (pc := 287) d_LW_law_287 rfl rfl (by (simp only [jr, room_1]; omega)) (by (simp only [jr, room_1]; omega)) ?_
                cases H
                exact jI.of ⟨rfl, rfl⟩
        · have h259 : ¬ ((f_MO_thrown n248) = v224) := h259
          have H := (if_neg h259).symm.trans H
          refine jv_iconst 0 (pc := 262) d_LW_law_262 rfl ?_
          refine jv_iret (pc := 263) d_LW_law_263 rfl rfl (by (simp only [jr, room_1]; omega)) (by (simp only [jr, room_1]; omega)) ?_
          cases H
          exact jI.of ⟨rfl, rfl⟩
      have H := (if_neg h40_1).symm.trans H
      by_cases h40_2 : ((G.xs x4.toNatClampNeg) &&& (31 : Int32)) = 2
      · have H := (if_pos h40_2).symm.trans H
        refine jv_tin 291 (pc := 40) d_LW_law_40 (by rw [h40_2]; decide) (by rw [h40_2]; decide) (by rw [h40_2]; rfl) rfl ?_
        refine jv_aload_n 1 (pc := 291) d_LW_law_291 rfl ?_
        refine jv_aload_n 0 (pc := 292) d_LW_law_292 rfl ?_
        refine jv_iload 4 (pc := 293) d_LW_law_293 rfl ?_
        refine jv_iconst 1 (pc := 295) d_LW_law_295 rfl ?_
        refine jv_iadd (pc := 296) d_LW_law_296 ?_
        obtain ⟨b297, H⟩ := jck_some H
        refine jv_sald (pc := 297) d_LW_law_297 b297 ?_
        refine jv_aload_n 0 (pc := 298) d_LW_law_298 rfl ?_
        refine jv_iload 4 (pc := 299) d_LW_law_299 rfl ?_
        refine jv_iconst 2 (pc := 301) d_LW_law_301 rfl ?_
        refine jv_iadd (pc := 302) d_LW_law_302 ?_
        obtain ⟨b303, H⟩ := jck_some H
        refine jv_sald (pc := 303) d_LW_law_303 b303 ?_
        refine jv_aload_n 0 (pc := 304) d_LW_law_304 rfl ?_
        refine jv_iload 4 (pc := 305) d_LW_law_305 rfl ?_
        refine jv_iconst 3 (pc := 307) d_LW_law_307 rfl ?_
        refine jv_iadd (pc := 308) d_LW_law_308 ?_
        obtain ⟨b309, H⟩ := jck_some H
        refine jv_sald (pc := 309) d_LW_law_309 b309 ?_
        obtain ⟨v310, n310, c310, H⟩ := jbd_some H
        refine jv_callVi (sp_IC_point (G.xs (x4 + (1 : Int32)).toNatClampNeg) (G.xs (x4 + (2 : Int32)).toNatClampNeg) (G.xs (x4 + (3 : Int32)).toNatClampNeg) c310) (pc := 310) d_LW_law_310 c0_IC_point lk_LW_89 in_IC_point se_IC_point (by decide) rfl rfl rfl (Nat.le_of_ble_eq_true rfl) ⟨by decide, by decide, by (simp only [jr, room_1]; omega), by (simp only [jr, room_1]; omega)⟩ (fun r310 m310 h310 => ?_)
        obtain ⟨ha310, hb310⟩ := h310
        have ha310 := ha310.symm
        subst ha310
        have hb310 := hb310.symm
        subst hb310
        refine jv_aload_n 2 (pc := 313) d_LW_law_313 rfl ?_
        refine jv_aload_n 0 (pc := 314) d_LW_law_314 rfl ?_
        refine jv_iload 4 (pc := 315) d_LW_law_315 rfl ?_
        refine jv_iconst 1 (pc := 317) d_LW_law_317 rfl ?_
        refine jv_iadd (pc := 318) d_LW_law_318 ?_
        obtain ⟨b319, H⟩ := jck_some H
        refine jv_sald (pc := 319) d_LW_law_319 b319 ?_
        refine jv_aload_n 0 (pc := 320) d_LW_law_320 rfl ?_
        refine jv_iload 4 (pc := 321) d_LW_law_321 rfl ?_
        refine jv_iconst 2 (pc := 323) d_LW_law_323 rfl ?_
        refine jv_iadd (pc := 324) d_LW_law_324 ?_
        obtain ⟨b325, H⟩ := jck_some H
        refine jv_sald (pc := 325) d_LW_law_325 b325 ?_
        refine jv_aload_n 0 (pc := 326) d_LW_law_326 rfl ?_
        refine jv_iload 4 (pc := 327) d_LW_law_327 rfl ?_
        refine jv_iconst 3 (pc := 329) d_LW_law_329 rfl ?_
        refine jv_iadd (pc := 330) d_LW_law_330 ?_
        obtain ⟨b331, H⟩ := jck_some H
        refine jv_sald (pc := 331) d_LW_law_331 b331 ?_
        obtain ⟨v332, n332, c332, H⟩ := jbd_some H
        refine jv_callVi (sp_MO_point (G.xs (x4 + (1 : Int32)).toNatClampNeg) (G.xs (x4 + (2 : Int32)).toNatClampNeg) (G.xs (x4 + (3 : Int32)).toNatClampNeg) c332) (pc := 332) d_LW_law_332 c0_MO_point lk_LW_92 in_MO_point se_MO_point (by decide) rfl rfl rfl (Nat.le_of_ble_eq_true rfl) ⟨by decide, by decide, by (simp only [jr, room_1]; omega), by (simp only [jr, room_1]; omega)⟩ (fun r332 m332 h332 => ?_)
        obtain ⟨ha332, hb332⟩ := h332
        have ha332 := ha332.symm
        subst ha332
        have hb332 := hb332.symm
        subst hb332
        refine jv_icmp_eq 1410 (pc := 335) d_LW_law_335 rfl (fun h335 => ?_) (fun h335 => ?_)
        · have h335 : v310 = v332 := h335
          have H := (if_pos h335).symm.trans H
          refine jv_iinc 4 _ (pc := 1410) d_LW_law_1410 rfl rfl (by decide) (jst4 rfl) ?_
          refine jv_goto 23 (pc := 1413) d_LW_law_1413 rfl ?_
          exact jv_wide (k1 := k0 + 4) (n1 := s0 + 24) (by first | omega | (simp only [jr]; omega)) (by first | omega | (simp only [jr]; omega)) (jv_sub [0, 1, 2, 3, 4] rfl (ih (x4 + Int32.ofInt (6)) _ _ _ _ _ (by omega) (by omega) H))
        · have h335 : ¬ (v310 = v332) := h335
          have H := (if_neg h335).symm.trans H
          refine jv_iconst 0 (pc := 338) d_LW_law_338 rfl ?_
          refine jv_iret (pc := 339) d_LW_law_339 rfl rfl (by (simp only [jr, room_1]; omega)) (by (simp only [jr, room_1]; omega)) ?_
          cases H
          exact jI.of ⟨rfl, rfl⟩
      have H := (if_neg h40_2).symm.trans H
      by_cases h40_3 : ((G.xs x4.toNatClampNeg) &&& (31 : Int32)) = 3
      · have H := (if_pos h40_3).symm.trans H
        refine jv_tin 340 (pc := 40) d_LW_law_40 (by rw [h40_3]; decide) (by rw [h40_3]; decide) (by rw [h40_3]; rfl) rfl ?_
        refine jv_aload_n 1 (pc := 340) d_LW_law_340 rfl ?_
        refine jv_aload_n 0 (pc := 341) d_LW_law_341 rfl ?_
        refine jv_iload 4 (pc := 342) d_LW_law_342 rfl ?_
        refine jv_iconst 1 (pc := 344) d_LW_law_344 rfl ?_
        refine jv_iadd (pc := 345) d_LW_law_345 ?_
        obtain ⟨b346, H⟩ := jck_some H
        refine jv_sald (pc := 346) d_LW_law_346 b346 ?_
        refine jv_aload_n 0 (pc := 347) d_LW_law_347 rfl ?_
        refine jv_iload 4 (pc := 348) d_LW_law_348 rfl ?_
        refine jv_iconst 2 (pc := 350) d_LW_law_350 rfl ?_
        refine jv_iadd (pc := 351) d_LW_law_351 ?_
        obtain ⟨b352, H⟩ := jck_some H
        refine jv_sald (pc := 352) d_LW_law_352 b352 ?_
        refine jv_aload_n 0 (pc := 353) d_LW_law_353 rfl ?_
        refine jv_iload 4 (pc := 354) d_LW_law_354 rfl ?_
        refine jv_iconst 3 (pc := 356) d_LW_law_356 rfl ?_
        refine jv_iadd (pc := 357) d_LW_law_357 ?_
        obtain ⟨b358, H⟩ := jck_some H
        refine jv_sald (pc := 358) d_LW_law_358 b358 ?_
        refine jv_aload_n 0 (pc := 359) d_LW_law_359 rfl ?_
        refine jv_iload 4 (pc := 360) d_LW_law_360 rfl ?_
        refine jv_iconst 4 (pc := 362) d_LW_law_362 rfl ?_
        refine jv_iadd (pc := 363) d_LW_law_363 ?_
        obtain ⟨b364, H⟩ := jck_some H
        refine jv_sald (pc := 364) d_LW_law_364 b364 ?_
        refine jv_aload_n 0 (pc := 365) d_LW_law_365 rfl ?_
        refine jv_iload 4 (pc := 366) d_LW_law_366 rfl ?_
        refine jv_iconst 5 (pc := 368) d_LW_law_368 rfl ?_
        refine jv_iadd (pc := 369) d_LW_law_369 ?_
        obtain ⟨b370, H⟩ := jck_some H
        refine jv_sald (pc := 370) d_LW_law_370 b370 ?_
        obtain ⟨v371, n371, c371, H⟩ := jbd_some H
        refine jv_callSH (sp_LW_draw (G.xs (x4 + (1 : Int32)).toNatClampNeg) (G.xs (x4 + (2 : Int32)).toNatClampNeg) (G.xs (x4 + (3 : Int32)).toNatClampNeg) (G.xs (x4 + (4 : Int32)).toNatClampNeg) (G.xs (x4 + (5 : Int32)).toNatClampNeg) htr c371) (pc := 371) d_LW_law_371 (by decide) cw_LW_draw (jin1 0 rfl rfl) ⟨by decide, by decide⟩ pn_LW_draw (jin2 151 rfl rfl) si_LW_draw rfl (Nat.le_of_ble_eq_true rfl) ⟨by decide, by decide, by (simp only [jr, room_1]; omega), by (simp only [jr, room_1]; omega)⟩ (fun r371 m371 h371 => ?_)
        obtain ⟨ha371, hb371⟩ := h371
        have ha371 := ha371.symm
        subst ha371
        have hb371 := hb371.symm
        subst hb371
        refine jv_istore (pc := 374) d_LW_law_374 (by decide) (jsto_new rfl) ?_
        refine jv_aload_n 3 (pc := 376) d_LW_law_376 rfl ?_
        refine jv_aload_n 1 (pc := 377) d_LW_law_377 rfl ?_
        refine jv_iload 5 (pc := 378) d_LW_law_378 rfl ?_
        refine jv_iconst 1 (pc := 380) d_LW_law_380 rfl ?_
        refine jv_iadd (pc := 381) d_LW_law_381 ?_
        obtain ⟨b382, H⟩ := jck_some H
        refine jv_sald (pc := 382) d_LW_law_382 b382 ?_
        refine jv_aload_n 1 (pc := 383) d_LW_law_383 rfl ?_
        refine jv_iload 5 (pc := 384) d_LW_law_384 rfl ?_
        refine jv_iconst 2 (pc := 386) d_LW_law_386 rfl ?_
        refine jv_iadd (pc := 387) d_LW_law_387 ?_
        obtain ⟨b388, H⟩ := jck_some H
        refine jv_sald (pc := 388) d_LW_law_388 b388 ?_
        refine jv_aload_n 1 (pc := 389) d_LW_law_389 rfl ?_
        refine jv_iload 5 (pc := 390) d_LW_law_390 rfl ?_
        refine jv_iconst 3 (pc := 392) d_LW_law_392 rfl ?_
        refine jv_iadd (pc := 393) d_LW_law_393 ?_
        obtain ⟨b394, H⟩ := jck_some H
        refine jv_sald (pc := 394) d_LW_law_394 b394 ?_
        refine jv_aload_n 1 (pc := 395) d_LW_law_395 rfl ?_
        refine jv_iload 5 (pc := 396) d_LW_law_396 rfl ?_
        refine jv_iconst 4 (pc := 398) d_LW_law_398 rfl ?_
        refine jv_iadd (pc := 399) d_LW_law_399 ?_
        obtain ⟨b400, H⟩ := jck_some H
        refine jv_sald (pc := 400) d_LW_law_400 b400 ?_
        refine jv_aload_n 1 (pc := 401) d_LW_law_401 rfl ?_
        refine jv_iload 5 (pc := 402) d_LW_law_402 rfl ?_
        refine jv_iconst 5 (pc := 404) d_LW_law_404 rfl ?_
        refine jv_iadd (pc := 405) d_LW_law_405 ?_
        obtain ⟨b406, H⟩ := jck_some H
        refine jv_sald (pc := 406) d_LW_law_406 b406 ?_
        obtain ⟨_, n407, c407, H⟩ := jbd_some H
        refine jv_callVv (sp_MO_draw (G.xs (x4 + (1 : Int32)).toNatClampNeg) (G.xs (x4 + (2 : Int32)).toNatClampNeg) (G.xs (x4 + (3 : Int32)).toNatClampNeg) (G.xs (x4 + (4 : Int32)).toNatClampNeg) (G.xs (x4 + (5 : Int32)).toNatClampNeg) c407) (pc := 407) d_LW_law_407 c0_MO_draw lk_LW_96 in_MO_draw se_MO_draw (by decide) rfl rfl rfl (Nat.le_of_ble_eq_true rfl) ⟨by decide, by decide, by (simp only [jr, room_1]; omega), by (simp only [jr, room_1]; omega)⟩ (fun m407 h407 => ?_)
        have hb407 := h407
        have hb407 := hb407.symm
        subst hb407
        refine jv_aload_n 3 (pc := 410) d_LW_law_410 rfl ?_
        refine jv_callVi (sp_MO_thrown) (pc := 411) d_LW_law_411 c0_MO_thrown lk_LW_82 in_MO_thrown se_MO_thrown (by decide) rfl rfl rfl (Nat.le_of_ble_eq_true rfl) ⟨by decide, by decide, by (simp only [jr, room_1]; omega), by (simp only [jr, room_1]; omega)⟩ (fun r411 m411 h411 => ?_)
        obtain ⟨ha411, hb411⟩ := h411
        subst ha411
        have hb411 := hb411.symm
        subst hb411
        refine jv_iload 0 (pc := 414) d_LW_law_414 rfl ?_
        refine jv_icmp_eq 421 (pc := 416) d_LW_law_416 rfl (fun h416 => ?_) (fun h416 => ?_)
        · have h416 : (f_MO_thrown n407) = v371 := h416
          have H := (if_pos h416).symm.trans H
          refine jv_goto 1410 (pc := 421) d_LW_law_421 rfl ?_
          refine jv_iinc 5 _ (pc := 1410) d_LW_law_1410 rfl rfl (by decide) (jst5 rfl) ?_
          refine jv_goto 23 (pc := 1413) d_LW_law_1413 rfl ?_
          exact jv_wide (k1 := k0 + 4) (n1 := s0 + 24) (by first | omega | (simp only [jr]; omega)) (by first | omega | (simp only [jr]; omega)) (jv_sub [1, 2, 3, 4, 5] rfl (ih (x4 + Int32.ofInt (6)) _ _ _ _ _ (by omega) (by omega) H))
        · have h416 : ¬ ((f_MO_thrown n407) = v371) := h416
          have H := (if_neg h416).symm.trans H
          refine jv_iconst 0 (pc := 419) d_LW_law_419 rfl ?_
          refine jv_iret (pc := 420) d_LW_law_420 rfl rfl (by (simp only [jr, room_1]; omega)) (by (simp only [jr, room_1]; omega)) ?_
          cases H
          exact jI.of ⟨rfl, rfl⟩
      have H := (if_neg h40_3).symm.trans H
      by_cases h40_4 : ((G.xs x4.toNatClampNeg) &&& (31 : Int32)) = 4
      · have H := (if_pos h40_4).symm.trans H
        refine jv_tin 424 (pc := 40) d_LW_law_40 (by rw [h40_4]; decide) (by rw [h40_4]; decide) (by rw [h40_4]; rfl) rfl ?_
        refine jv_aload_n 1 (pc := 424) d_LW_law_424 rfl ?_
        refine jv_aload_n 0 (pc := 425) d_LW_law_425 rfl ?_
        refine jv_iload 4 (pc := 426) d_LW_law_426 rfl ?_
        refine jv_iconst 1 (pc := 428) d_LW_law_428 rfl ?_
        refine jv_iadd (pc := 429) d_LW_law_429 ?_
        obtain ⟨b430, H⟩ := jck_some H
        refine jv_sald (pc := 430) d_LW_law_430 b430 ?_
        refine jv_aload_n 0 (pc := 431) d_LW_law_431 rfl ?_
        refine jv_iload 4 (pc := 432) d_LW_law_432 rfl ?_
        refine jv_iconst 2 (pc := 434) d_LW_law_434 rfl ?_
        refine jv_iadd (pc := 435) d_LW_law_435 ?_
        obtain ⟨b436, H⟩ := jck_some H
        refine jv_sald (pc := 436) d_LW_law_436 b436 ?_
        refine jv_aload_n 3 (pc := 437) d_LW_law_437 rfl ?_
        obtain ⟨v438, n438, c438, H⟩ := jbd_some H
        refine jv_callSH (sp_LW_board (G.xs (x4 + (1 : Int32)).toNatClampNeg) (G.xs (x4 + (2 : Int32)).toNatClampNeg) htr c438) (pc := 438) d_LW_law_438 (by decide) cw_LW_board (jin1 0 rfl rfl) ⟨by decide, by decide⟩ pn_LW_board (jin2 175 rfl rfl) si_LW_board rfl (Nat.le_of_ble_eq_true rfl) ⟨by decide, by decide, by (simp only [jr, room_1]; omega), by (simp only [jr, room_1]; omega)⟩ (fun r438 m438 h438 => ?_)
        obtain ⟨ha438, hb438⟩ := h438
        have ha438 := ha438.symm
        subst ha438
        have hb438 := hb438.symm
        subst hb438
        refine jv_istore (pc := 441) d_LW_law_441 (by decide) (jsto_new rfl) ?_
        refine jv_aload_n 3 (pc := 443) d_LW_law_443 rfl ?_
        refine jv_aload_n 1 (pc := 444) d_LW_law_444 rfl ?_
        refine jv_iload 5 (pc := 445) d_LW_law_445 rfl ?_
        refine jv_iconst 1 (pc := 447) d_LW_law_447 rfl ?_
        refine jv_iadd (pc := 448) d_LW_law_448 ?_
        obtain ⟨b449, H⟩ := jck_some H
        refine jv_sald (pc := 449) d_LW_law_449 b449 ?_
        refine jv_aload_n 1 (pc := 450) d_LW_law_450 rfl ?_
        refine jv_iload 5 (pc := 451) d_LW_law_451 rfl ?_
        refine jv_iconst 2 (pc := 453) d_LW_law_453 rfl ?_
        refine jv_iadd (pc := 454) d_LW_law_454 ?_
        obtain ⟨b455, H⟩ := jck_some H
        refine jv_sald (pc := 455) d_LW_law_455 b455 ?_
        obtain ⟨v456, n456, c456, H⟩ := jbd_some H
        refine jv_callVi (sp_MO_board (G.xs (x4 + (1 : Int32)).toNatClampNeg) (G.xs (x4 + (2 : Int32)).toNatClampNeg) c456) (pc := 456) d_LW_law_456 c0_MO_board lk_LW_100 in_MO_board se_MO_board (by decide) rfl rfl rfl (Nat.le_of_ble_eq_true rfl) ⟨by decide, by decide, by (simp only [jr, room_1]; omega), by (simp only [jr, room_1]; omega)⟩ (fun r456 m456 h456 => ?_)
        obtain ⟨ha456, hb456⟩ := h456
        have ha456 := ha456.symm
        subst ha456
        have hb456 := hb456.symm
        subst hb456
        refine jv_istore (pc := 459) d_LW_law_459 (by decide) (jsto_new rfl) ?_
        refine jv_aload_n 4 (pc := 461) d_LW_law_461 rfl ?_
        refine jv_callVi (sp_MO_thrown) (pc := 462) d_LW_law_462 c0_MO_thrown lk_LW_82 in_MO_thrown se_MO_thrown (by decide) rfl rfl rfl (Nat.le_of_ble_eq_true rfl) ⟨by decide, by decide, by (simp only [jr, room_1]; omega), by (simp only [jr, room_1]; omega)⟩ (fun r462 m462 h462 => ?_)
        obtain ⟨ha462, hb462⟩ := h462
        subst ha462
        have hb462 := hb462.symm
        subst hb462
        refine jv_iload 1 (pc := 465) d_LW_law_465 rfl ?_
        refine jv_icmp_eq 472 (pc := 467) d_LW_law_467 rfl (fun h467 => ?_) (fun h467 => ?_)
        · have h467 : (f_MO_thrown n456) = v438 := h467
          have H := (if_pos h467).symm.trans H
          refine jv_iload 1 (pc := 472) d_LW_law_472 rfl ?_
          refine jv_if_ne 489 (pc := 474) d_LW_law_474 rfl (fun h474 => ?_) (fun h474 => ?_)
          · have h474 : ¬ (v438 = 0) := h474
            have H := (if_neg h474).symm.trans H
            refine jv_goto 1410 (pc := 489) d_LW_law_489 rfl ?_
            refine jv_iinc 6 _ (pc := 1410) d_LW_law_1410 rfl rfl (by decide) (jst6 rfl) ?_
            refine jv_goto 23 (pc := 1413) d_LW_law_1413 rfl ?_
            exact jv_wide (k1 := k0 + 4) (n1 := s0 + 24) (by first | omega | (simp only [jr]; omega)) (by first | omega | (simp only [jr]; omega)) (jv_sub [2, 3, 4, 5, 6] rfl (ih (x4 + Int32.ofInt (6)) _ _ _ _ _ (by omega) (by omega) H))
          · have h474 : v438 = 0 := h474
            have H := (if_pos h474).symm.trans H
            refine jv_aload_n 5 (pc := 477) d_LW_law_477 rfl ?_
            refine jv_iconst 0 (pc := 478) d_LW_law_478 rfl ?_
            refine jv_lald (pc := 479) d_LW_law_479 (by decide) rfl jin01 ?_
            refine jv_iload 0 (pc := 480) d_LW_law_480 rfl ?_
            refine jv_i2l (pc := 482) d_LW_law_482 ?_
            refine jv_lcmp (pc := 483) d_LW_law_483 ?_
            refine jv_if_eq 489 (pc := 484) d_LW_law_484 rfl (fun h484 => ?_) (fun h484 => ?_)
            · have h484 : (lg_cmp ((n456 47 ((0 : Int32).toNatClampNeg)).toInt64) v456.toInt64) = 0 := h484
              have H := (if_pos h484).symm.trans H
              refine jv_goto 1410 (pc := 489) d_LW_law_489 rfl ?_
              refine jv_iinc 6 _ (pc := 1410) d_LW_law_1410 rfl rfl (by decide) (jst6 rfl) ?_
              refine jv_goto 23 (pc := 1413) d_LW_law_1413 rfl ?_
              exact jv_wide (k1 := k0 + 4) (n1 := s0 + 24) (by first | omega | (simp only [jr]; omega)) (by first | omega | (simp only [jr]; omega)) (jv_sub [2, 3, 4, 5, 6] rfl (ih (x4 + Int32.ofInt (6)) _ _ _ _ _ (by omega) (by omega) H))
            · have h484 : ¬ ((lg_cmp ((n456 47 ((0 : Int32).toNatClampNeg)).toInt64) v456.toInt64) = 0) := h484
              have H := (if_neg h484).symm.trans H
              refine jv_iconst 0 (pc := 487) d_LW_law_487 rfl ?_
              refine jv_iret (pc := 488) d_LW_law_488 rfl rfl (by (simp only [jr, room_1]; omega)) (by (simp only [jr, room_1]; omega)) ?_
              cases H
              exact jI.of ⟨rfl, rfl⟩
        · have h467 : ¬ ((f_MO_thrown n456) = v438) := h467
          have H := (if_neg h467).symm.trans H
          refine jv_iconst 0 (pc := 470) d_LW_law_470 rfl ?_
          refine jv_iret (pc := 471) d_LW_law_471 rfl rfl (by (simp only [jr, room_1]; omega)) (by (simp only [jr, room_1]; omega)) ?_
          cases H
          exact jI.of ⟨rfl, rfl⟩
      have H := (if_neg h40_4).symm.trans H
      by_cases h40_5 : ((G.xs x4.toNatClampNeg) &&& (31 : Int32)) = 5
      · have H := (if_pos h40_5).symm.trans H
        refine jv_tin 492 (pc := 40) d_LW_law_40 (by rw [h40_5]; decide) (by rw [h40_5]; decide) (by rw [h40_5]; rfl) rfl ?_
        refine jv_aload_n 1 (pc := 492) d_LW_law_492 rfl ?_
        refine jv_aload_n 0 (pc := 493) d_LW_law_493 rfl ?_
        refine jv_iload 4 (pc := 494) d_LW_law_494 rfl ?_
        refine jv_iconst 1 (pc := 496) d_LW_law_496 rfl ?_
        refine jv_iadd (pc := 497) d_LW_law_497 ?_
        obtain ⟨b498, H⟩ := jck_some H
        refine jv_sald (pc := 498) d_LW_law_498 b498 ?_
        obtain ⟨v499, n499, c499, H⟩ := jbd_some H
        refine jv_callVi (sp_IC_put (G.xs (x4 + (1 : Int32)).toNatClampNeg) c499) (pc := 499) d_LW_law_499 c0_IC_put lk_LW_101 in_IC_put se_IC_put (by decide) rfl rfl rfl (Nat.le_of_ble_eq_true rfl) ⟨by decide, by decide, by (simp only [jr, room_1]; omega), by (simp only [jr, room_1]; omega)⟩ (fun r499 m499 h499 => ?_)
        obtain ⟨ha499, hb499⟩ := h499
        have ha499 := ha499.symm
        subst ha499
        have hb499 := hb499.symm
        subst hb499
        refine jv_aload_n 2 (pc := 502) d_LW_law_502 rfl ?_
        refine jv_aload_n 0 (pc := 503) d_LW_law_503 rfl ?_
        refine jv_iload 4 (pc := 504) d_LW_law_504 rfl ?_
        refine jv_iconst 1 (pc := 506) d_LW_law_506 rfl ?_
        refine jv_iadd (pc := 507) d_LW_law_507 ?_
        obtain ⟨b508, H⟩ := jck_some H
        refine jv_sald (pc := 508) d_LW_law_508 b508 ?_
        obtain ⟨v509, n509, c509, H⟩ := jbd_some H
        refine jv_callVi (sp_MO_put (G.xs (x4 + (1 : Int32)).toNatClampNeg) c509) (pc := 509) d_LW_law_509 c0_MO_put lk_LW_105 in_MO_put se_MO_put (by decide) rfl rfl rfl (Nat.le_of_ble_eq_true rfl) ⟨by decide, by decide, by (simp only [jr, room_1]; omega), by (simp only [jr, room_1]; omega)⟩ (fun r509 m509 h509 => ?_)
        obtain ⟨ha509, hb509⟩ := h509
        have ha509 := ha509.symm
        subst ha509
        have hb509 := hb509.symm
        subst hb509
        refine jv_icmp_eq 1410 (pc := 512) d_LW_law_512 rfl (fun h512 => ?_) (fun h512 => ?_)
        · have h512 : v499 = v509 := h512
          have H := (if_pos h512).symm.trans H
          refine jv_iinc 4 _ (pc := 1410) d_LW_law_1410 rfl rfl (by decide) (jst4 rfl) ?_
          refine jv_goto 23 (pc := 1413) d_LW_law_1413 rfl ?_
          exact jv_wide (k1 := k0 + 4) (n1 := s0 + 24) (by first | omega | (simp only [jr]; omega)) (by first | omega | (simp only [jr]; omega)) (jv_sub [0, 1, 2, 3, 4] rfl (ih (x4 + Int32.ofInt (6)) _ _ _ _ _ (by omega) (by omega) H))
        · have h512 : ¬ (v499 = v509) := h512
          have H := (if_neg h512).symm.trans H
          refine jv_iconst 0 (pc := 515) d_LW_law_515 rfl ?_
          refine jv_iret (pc := 516) d_LW_law_516 rfl rfl (by (simp only [jr, room_1]; omega)) (by (simp only [jr, room_1]; omega)) ?_
          cases H
          exact jI.of ⟨rfl, rfl⟩
      have H := (if_neg h40_5).symm.trans H
      by_cases h40_6 : ((G.xs x4.toNatClampNeg) &&& (31 : Int32)) = 6
      · have H := (if_pos h40_6).symm.trans H
        refine jv_tin 517 (pc := 40) d_LW_law_40 (by rw [h40_6]; decide) (by rw [h40_6]; decide) (by rw [h40_6]; rfl) rfl ?_
        refine jv_aload_n 1 (pc := 517) d_LW_law_517 rfl ?_
        refine jv_aload_n 0 (pc := 518) d_LW_law_518 rfl ?_
        refine jv_iload 4 (pc := 519) d_LW_law_519 rfl ?_
        refine jv_iconst 1 (pc := 521) d_LW_law_521 rfl ?_
        refine jv_iadd (pc := 522) d_LW_law_522 ?_
        obtain ⟨b523, H⟩ := jck_some H
        refine jv_sald (pc := 523) d_LW_law_523 b523 ?_
        obtain ⟨v524, n524, c524, H⟩ := jbd_some H
        refine jv_callVi (sp_IC_cut (G.xs (x4 + (1 : Int32)).toNatClampNeg) c524) (pc := 524) d_LW_law_524 c0_IC_cut lk_LW_106 in_IC_cut se_IC_cut (by decide) rfl rfl rfl (Nat.le_of_ble_eq_true rfl) ⟨by decide, by decide, by (simp only [jr, room_1]; omega), by (simp only [jr, room_1]; omega)⟩ (fun r524 m524 h524 => ?_)
        obtain ⟨ha524, hb524⟩ := h524
        have ha524 := ha524.symm
        subst ha524
        have hb524 := hb524.symm
        subst hb524
        refine jv_aload_n 2 (pc := 527) d_LW_law_527 rfl ?_
        refine jv_aload_n 0 (pc := 528) d_LW_law_528 rfl ?_
        refine jv_iload 4 (pc := 529) d_LW_law_529 rfl ?_
        refine jv_iconst 1 (pc := 531) d_LW_law_531 rfl ?_
        refine jv_iadd (pc := 532) d_LW_law_532 ?_
        obtain ⟨b533, H⟩ := jck_some H
        refine jv_sald (pc := 533) d_LW_law_533 b533 ?_
        refine jv_callVi (sp_MO_cut (G.xs (x4 + (1 : Int32)).toNatClampNeg)) (pc := 534) d_LW_law_534 c0_MO_cut lk_LW_109 in_MO_cut se_MO_cut (by decide) rfl rfl rfl (Nat.le_of_ble_eq_true rfl) ⟨by decide, by decide, by (simp only [jr, room_1]; omega), by (simp only [jr, room_1]; omega)⟩ (fun r534 m534 h534 => ?_)
        obtain ⟨ha534, hb534⟩ := h534
        subst ha534
        have hb534 := hb534.symm
        subst hb534
        refine jv_icmp_eq 1410 (pc := 537) d_LW_law_537 rfl (fun h537 => ?_) (fun h537 => ?_)
        · have h537 : v524 = ((f_MO_cut (G.xs (x4 + (1 : Int32)).toNatClampNeg) n524).1) := h537
          have H := (if_pos h537).symm.trans H
          refine jv_iinc 4 _ (pc := 1410) d_LW_law_1410 rfl rfl (by decide) (jst4 rfl) ?_
          refine jv_goto 23 (pc := 1413) d_LW_law_1413 rfl ?_
          exact jv_wide (k1 := k0 + 4) (n1 := s0 + 24) (by first | omega | (simp only [jr]; omega)) (by first | omega | (simp only [jr]; omega)) (jv_sub [0, 1, 2, 3, 4] rfl (ih (x4 + Int32.ofInt (6)) _ _ _ _ _ (by omega) (by omega) H))
        · have h537 : ¬ (v524 = ((f_MO_cut (G.xs (x4 + (1 : Int32)).toNatClampNeg) n524).1)) := h537
          have H := (if_neg h537).symm.trans H
          refine jv_iconst 0 (pc := 540) d_LW_law_540 rfl ?_
          refine jv_iret (pc := 541) d_LW_law_541 rfl rfl (by (simp only [jr, room_1]; omega)) (by (simp only [jr, room_1]; omega)) ?_
          cases H
          exact jI.of ⟨rfl, rfl⟩
      have H := (if_neg h40_6).symm.trans H
      by_cases h40_7 : ((G.xs x4.toNatClampNeg) &&& (31 : Int32)) = 7
      · have H := (if_pos h40_7).symm.trans H
        refine jv_tin 542 (pc := 40) d_LW_law_40 (by rw [h40_7]; decide) (by rw [h40_7]; decide) (by rw [h40_7]; rfl) rfl ?_
        refine jv_aload_n 1 (pc := 542) d_LW_law_542 rfl ?_
        obtain ⟨v543, n543, c543, H⟩ := jbd_some H
        refine jv_callVi (sp_IC_length c543) (pc := 543) d_LW_law_543 c0_IC_length lk_LW_110 in_IC_length se_IC_length (by decide) rfl rfl rfl (Nat.le_of_ble_eq_true rfl) ⟨by decide, by decide, by (simp only [jr, room_1]; omega), by (simp only [jr, room_1]; omega)⟩ (fun r543 m543 h543 => ?_)
        obtain ⟨ha543, hb543⟩ := h543
        have ha543 := ha543.symm
        subst ha543
        have hb543 := hb543.symm
        subst hb543
        refine jv_aload_n 2 (pc := 546) d_LW_law_546 rfl ?_
        refine jv_callVi (sp_MO_length) (pc := 547) d_LW_law_547 c0_MO_length lk_LW_113 in_MO_length se_MO_length (by decide) rfl rfl rfl (Nat.le_of_ble_eq_true rfl) ⟨by decide, by decide, by (simp only [jr, room_1]; omega), by (simp only [jr, room_1]; omega)⟩ (fun r547 m547 h547 => ?_)
        obtain ⟨ha547, hb547⟩ := h547
        subst ha547
        have hb547 := hb547.symm
        subst hb547
        refine jv_icmp_eq 1410 (pc := 550) d_LW_law_550 rfl (fun h550 => ?_) (fun h550 => ?_)
        · have h550 : v543 = ((f_MO_length n543).1) := h550
          have H := (if_pos h550).symm.trans H
          refine jv_iinc 4 _ (pc := 1410) d_LW_law_1410 rfl rfl (by decide) (jst4 rfl) ?_
          refine jv_goto 23 (pc := 1413) d_LW_law_1413 rfl ?_
          exact jv_wide (k1 := k0 + 4) (n1 := s0 + 24) (by first | omega | (simp only [jr]; omega)) (by first | omega | (simp only [jr]; omega)) (jv_sub [0, 1, 2, 3, 4] rfl (ih (x4 + Int32.ofInt (6)) _ _ _ _ _ (by omega) (by omega) H))
        · have h550 : ¬ (v543 = ((f_MO_length n543).1)) := h550
          have H := (if_neg h550).symm.trans H
          refine jv_iconst 0 (pc := 553) d_LW_law_553 rfl ?_
          refine jv_iret (pc := 554) d_LW_law_554 rfl rfl (by (simp only [jr, room_1]; omega)) (by (simp only [jr, room_1]; omega)) ?_
          cases H
          exact jI.of ⟨rfl, rfl⟩
      have H := (if_neg h40_7).symm.trans H
      by_cases h40_8 : ((G.xs x4.toNatClampNeg) &&& (31 : Int32)) = 8
      · have H := (if_pos h40_8).symm.trans H
        refine jv_tin 555 (pc := 40) d_LW_law_40 (by rw [h40_8]; decide) (by rw [h40_8]; decide) (by rw [h40_8]; rfl) rfl ?_
        refine jv_aload_n 1 (pc := 555) d_LW_law_555 rfl ?_
        refine jv_aload_n 0 (pc := 556) d_LW_law_556 rfl ?_
        refine jv_iload 4 (pc := 557) d_LW_law_557 rfl ?_
        refine jv_iconst 1 (pc := 559) d_LW_law_559 rfl ?_
        refine jv_iadd (pc := 560) d_LW_law_560 ?_
        obtain ⟨b561, H⟩ := jck_some H
        refine jv_sald (pc := 561) d_LW_law_561 b561 ?_
        refine jv_aload_n 3 (pc := 562) d_LW_law_562 rfl ?_
        obtain ⟨v563, n563, c563, H⟩ := jbd_some H
        refine jv_callSH (sp_LW_code (G.xs (x4 + (1 : Int32)).toNatClampNeg) htr c563) (pc := 563) d_LW_law_563 (by decide) cw_LW_code (jin1 0 rfl rfl) ⟨by decide, by decide⟩ pn_LW_code (jin2 192 rfl rfl) si_LW_code rfl (Nat.le_of_ble_eq_true rfl) ⟨by decide, by decide, by (simp only [jr, room_1]; omega), by (simp only [jr, room_1]; omega)⟩ (fun r563 m563 h563 => ?_)
        obtain ⟨ha563, hb563⟩ := h563
        have ha563 := ha563.symm
        subst ha563
        have hb563 := hb563.symm
        subst hb563
        refine jv_istore (pc := 566) d_LW_law_566 (by decide) (jsto_new rfl) ?_
        refine jv_aload_n 3 (pc := 568) d_LW_law_568 rfl ?_
        refine jv_aload_n 1 (pc := 569) d_LW_law_569 rfl ?_
        refine jv_iload 5 (pc := 570) d_LW_law_570 rfl ?_
        refine jv_iconst 1 (pc := 572) d_LW_law_572 rfl ?_
        refine jv_iadd (pc := 573) d_LW_law_573 ?_
        obtain ⟨b574, H⟩ := jck_some H
        refine jv_sald (pc := 574) d_LW_law_574 b574 ?_
        obtain ⟨v575, n575, c575, H⟩ := jbd_some H
        refine jv_callVi (sp_MO_code (G.xs (x4 + (1 : Int32)).toNatClampNeg) c575) (pc := 575) d_LW_law_575 c0_MO_code lk_LW_117 in_MO_code se_MO_code (by decide) rfl rfl rfl (Nat.le_of_ble_eq_true rfl) ⟨by decide, by decide, by (simp only [jr, room_1]; omega), by (simp only [jr, room_1]; omega)⟩ (fun r575 m575 h575 => ?_)
        obtain ⟨ha575, hb575⟩ := h575
        have ha575 := ha575.symm
        subst ha575
        have hb575 := hb575.symm
        subst hb575
        refine jv_istore (pc := 578) d_LW_law_578 (by decide) (jsto_new rfl) ?_
        refine jv_aload_n 4 (pc := 580) d_LW_law_580 rfl ?_
        refine jv_callVi (sp_MO_thrown) (pc := 581) d_LW_law_581 c0_MO_thrown lk_LW_82 in_MO_thrown se_MO_thrown (by decide) rfl rfl rfl (Nat.le_of_ble_eq_true rfl) ⟨by decide, by decide, by (simp only [jr, room_1]; omega), by (simp only [jr, room_1]; omega)⟩ (fun r581 m581 h581 => ?_)
        obtain ⟨ha581, hb581⟩ := h581
        subst ha581
        have hb581 := hb581.symm
        subst hb581
        refine jv_iload 1 (pc := 584) d_LW_law_584 rfl ?_
        refine jv_icmp_eq 591 (pc := 586) d_LW_law_586 rfl (fun h586 => ?_) (fun h586 => ?_)
        · have h586 : (f_MO_thrown n575) = v563 := h586
          have H := (if_pos h586).symm.trans H
          refine jv_iload 1 (pc := 591) d_LW_law_591 rfl ?_
          refine jv_if_ne 608 (pc := 593) d_LW_law_593 rfl (fun h593 => ?_) (fun h593 => ?_)
          · have h593 : ¬ (v563 = 0) := h593
            have H := (if_neg h593).symm.trans H
            refine jv_goto 1410 (pc := 608) d_LW_law_608 rfl ?_
            refine jv_iinc 6 _ (pc := 1410) d_LW_law_1410 rfl rfl (by decide) (jst6 rfl) ?_
            refine jv_goto 23 (pc := 1413) d_LW_law_1413 rfl ?_
            exact jv_wide (k1 := k0 + 4) (n1 := s0 + 24) (by first | omega | (simp only [jr]; omega)) (by first | omega | (simp only [jr]; omega)) (jv_sub [2, 3, 4, 5, 6] rfl (ih (x4 + Int32.ofInt (6)) _ _ _ _ _ (by omega) (by omega) H))
          · have h593 : v563 = 0 := h593
            have H := (if_pos h593).symm.trans H
            refine jv_aload_n 5 (pc := 596) d_LW_law_596 rfl ?_
            refine jv_iconst 0 (pc := 597) d_LW_law_597 rfl ?_
            refine jv_lald (pc := 598) d_LW_law_598 (by decide) rfl jin01 ?_
            refine jv_iload 0 (pc := 599) d_LW_law_599 rfl ?_
            refine jv_i2l (pc := 601) d_LW_law_601 ?_
            refine jv_lcmp (pc := 602) d_LW_law_602 ?_
            refine jv_if_eq 608 (pc := 603) d_LW_law_603 rfl (fun h603 => ?_) (fun h603 => ?_)
            · have h603 : (lg_cmp ((n575 47 ((0 : Int32).toNatClampNeg)).toInt64) v575.toInt64) = 0 := h603
              have H := (if_pos h603).symm.trans H
              refine jv_goto 1410 (pc := 608) d_LW_law_608 rfl ?_
              refine jv_iinc 6 _ (pc := 1410) d_LW_law_1410 rfl rfl (by decide) (jst6 rfl) ?_
              refine jv_goto 23 (pc := 1413) d_LW_law_1413 rfl ?_
              exact jv_wide (k1 := k0 + 4) (n1 := s0 + 24) (by first | omega | (simp only [jr]; omega)) (by first | omega | (simp only [jr]; omega)) (jv_sub [2, 3, 4, 5, 6] rfl (ih (x4 + Int32.ofInt (6)) _ _ _ _ _ (by omega) (by omega) H))
            · have h603 : ¬ ((lg_cmp ((n575 47 ((0 : Int32).toNatClampNeg)).toInt64) v575.toInt64) = 0) := h603
              have H := (if_neg h603).symm.trans H
              refine jv_iconst 0 (pc := 606) d_LW_law_606 rfl ?_
              refine jv_iret (pc := 607) d_LW_law_607 rfl rfl (by (simp only [jr, room_1]; omega)) (by (simp only [jr, room_1]; omega)) ?_
              cases H
              exact jI.of ⟨rfl, rfl⟩
        · have h586 : ¬ ((f_MO_thrown n575) = v563) := h586
          have H := (if_neg h586).symm.trans H
          refine jv_iconst 0 (pc := 589) d_LW_law_589 rfl ?_
          refine jv_iret (pc := 590) d_LW_law_590 rfl rfl (by (simp only [jr, room_1]; omega)) (by (simp only [jr, room_1]; omega)) ?_
          cases H
          exact jI.of ⟨rfl, rfl⟩
      have H := (if_neg h40_8).symm.trans H
      by_cases h40_9 : ((G.xs x4.toNatClampNeg) &&& (31 : Int32)) = 9
      · have H := (if_pos h40_9).symm.trans H
        refine jv_tin 611 (pc := 40) d_LW_law_40 (by rw [h40_9]; decide) (by rw [h40_9]; decide) (by rw [h40_9]; rfl) rfl ?_
        refine jv_aload_n 1 (pc := 611) d_LW_law_611 rfl ?_
        refine jv_aload_n 0 (pc := 612) d_LW_law_612 rfl ?_
        refine jv_iload 4 (pc := 613) d_LW_law_613 rfl ?_
        refine jv_iconst 1 (pc := 615) d_LW_law_615 rfl ?_
        refine jv_iadd (pc := 616) d_LW_law_616 ?_
        obtain ⟨b617, H⟩ := jck_some H
        refine jv_sald (pc := 617) d_LW_law_617 b617 ?_
        refine jv_if_eq 625 (pc := 618) d_LW_law_618 rfl (fun h618 => ?_) (fun h618 => ?_)
        · have h618 : (G.xs (x4 + (1 : Int32)).toNatClampNeg) = 0 := h618
          have H := (if_pos h618).symm.trans H
          refine jv_iconst 0 (pc := 625) d_LW_law_625 rfl ?_
          obtain ⟨_, n626, c626, H⟩ := jbd_some H
          refine jv_callVv (sp_IC_begin (0 : Int32) c626) (pc := 626) d_LW_law_626 c0_IC_begin lk_LW_118 in_IC_begin se_IC_begin (by decide) rfl rfl rfl (Nat.le_of_ble_eq_true rfl) ⟨by decide, by decide, by (simp only [jr, room_1]; omega), by (simp only [jr, room_1]; omega)⟩ (fun m626 h626 => ?_)
          have hb626 := h626
          have hb626 := hb626.symm
          subst hb626
          refine jv_aload_n 2 (pc := 629) d_LW_law_629 rfl ?_
          refine jv_aload_n 0 (pc := 630) d_LW_law_630 rfl ?_
          refine jv_iload 4 (pc := 631) d_LW_law_631 rfl ?_
          refine jv_iconst 1 (pc := 633) d_LW_law_633 rfl ?_
          refine jv_iadd (pc := 634) d_LW_law_634 ?_
          obtain ⟨b635, H⟩ := jck_some H
          refine jv_sald (pc := 635) d_LW_law_635 b635 ?_
          refine jv_if_eq 643 (pc := 636) d_LW_law_636 rfl (fun h636 => ?_) (fun h636 => ?_)
          · have h636 : (G.xs (x4 + (1 : Int32)).toNatClampNeg) = 0 := h636
            have H := (if_pos h636).symm.trans H
            refine jv_iconst 0 (pc := 643) d_LW_law_643 rfl ?_
            obtain ⟨_, n644, c644, H⟩ := jbd_some H
            refine jv_callVv (sp_MO_begin (0 : Int32) c644) (pc := 644) d_LW_law_644 c0_MO_begin lk_LW_122 in_MO_begin se_MO_begin (by decide) rfl rfl rfl (Nat.le_of_ble_eq_true rfl) ⟨by decide, by decide, by (simp only [jr, room_1]; omega), by (simp only [jr, room_1]; omega)⟩ (fun m644 h644 => ?_)
            have hb644 := h644
            have hb644 := hb644.symm
            subst hb644
            refine jv_goto 1410 (pc := 647) d_LW_law_647 rfl ?_
            refine jv_iinc 4 _ (pc := 1410) d_LW_law_1410 rfl rfl (by decide) (jst4 rfl) ?_
            refine jv_goto 23 (pc := 1413) d_LW_law_1413 rfl ?_
            exact jv_wide (k1 := k0 + 4) (n1 := s0 + 24) (by first | omega | (simp only [jr]; omega)) (by first | omega | (simp only [jr]; omega)) (jv_sub [0, 1, 2, 3, 4] rfl (ih (x4 + Int32.ofInt (6)) _ _ _ _ _ (by omega) (by omega) H))
          · have h636 : ¬ ((G.xs (x4 + (1 : Int32)).toNatClampNeg) = 0) := h636
            have H := (if_neg h636).symm.trans H
            refine jv_iconst 1 (pc := 639) d_LW_law_639 rfl ?_
            refine jv_goto 644 (pc := 640) d_LW_law_640 rfl ?_
            obtain ⟨_, n644, c644, H⟩ := jbd_some H
            refine jv_callVv (sp_MO_begin (1 : Int32) c644) (pc := 644) d_LW_law_644 c0_MO_begin lk_LW_122 in_MO_begin se_MO_begin (by decide) rfl rfl rfl (Nat.le_of_ble_eq_true rfl) ⟨by decide, by decide, by (simp only [jr, room_1]; omega), by (simp only [jr, room_1]; omega)⟩ (fun m644 h644 => ?_)
            have hb644 := h644
            have hb644 := hb644.symm
            subst hb644
            refine jv_goto 1410 (pc := 647) d_LW_law_647 rfl ?_
            refine jv_iinc 4 _ (pc := 1410) d_LW_law_1410 rfl rfl (by decide) (jst4 rfl) ?_
            refine jv_goto 23 (pc := 1413) d_LW_law_1413 rfl ?_
            exact jv_wide (k1 := k0 + 4) (n1 := s0 + 24) (by first | omega | (simp only [jr]; omega)) (by first | omega | (simp only [jr]; omega)) (jv_sub [0, 1, 2, 3, 4] rfl (ih (x4 + Int32.ofInt (6)) _ _ _ _ _ (by omega) (by omega) H))
        · have h618 : ¬ ((G.xs (x4 + (1 : Int32)).toNatClampNeg) = 0) := h618
          have H := (if_neg h618).symm.trans H
          refine jv_iconst 1 (pc := 621) d_LW_law_621 rfl ?_
          refine jv_goto 626 (pc := 622) d_LW_law_622 rfl ?_
          obtain ⟨_, n626, c626, H⟩ := jbd_some H
          refine jv_callVv (sp_IC_begin (1 : Int32) c626) (pc := 626) d_LW_law_626 c0_IC_begin lk_LW_118 in_IC_begin se_IC_begin (by decide) rfl rfl rfl (Nat.le_of_ble_eq_true rfl) ⟨by decide, by decide, by (simp only [jr, room_1]; omega), by (simp only [jr, room_1]; omega)⟩ (fun m626 h626 => ?_)
          have hb626 := h626
          have hb626 := hb626.symm
          subst hb626
          refine jv_aload_n 2 (pc := 629) d_LW_law_629 rfl ?_
          refine jv_aload_n 0 (pc := 630) d_LW_law_630 rfl ?_
          refine jv_iload 4 (pc := 631) d_LW_law_631 rfl ?_
          refine jv_iconst 1 (pc := 633) d_LW_law_633 rfl ?_
          refine jv_iadd (pc := 634) d_LW_law_634 ?_
          obtain ⟨b635, H⟩ := jck_some H
          refine jv_sald (pc := 635) d_LW_law_635 b635 ?_
          refine jv_if_eq 643 (pc := 636) d_LW_law_636 rfl (fun h636 => ?_) (fun h636 => ?_)
          · have h636 : (G.xs (x4 + (1 : Int32)).toNatClampNeg) = 0 := h636
            have H := (if_pos h636).symm.trans H
            refine jv_iconst 0 (pc := 643) d_LW_law_643 rfl ?_
            obtain ⟨_, n644, c644, H⟩ := jbd_some H
            refine jv_callVv (sp_MO_begin (0 : Int32) c644) (pc := 644) d_LW_law_644 c0_MO_begin lk_LW_122 in_MO_begin se_MO_begin (by decide) rfl rfl rfl (Nat.le_of_ble_eq_true rfl) ⟨by decide, by decide, by (simp only [jr, room_1]; omega), by (simp only [jr, room_1]; omega)⟩ (fun m644 h644 => ?_)
            have hb644 := h644
            have hb644 := hb644.symm
            subst hb644
            refine jv_goto 1410 (pc := 647) d_LW_law_647 rfl ?_
            refine jv_iinc 4 _ (pc := 1410) d_LW_law_1410 rfl rfl (by decide) (jst4 rfl) ?_
            refine jv_goto 23 (pc := 1413) d_LW_law_1413 rfl ?_
            exact jv_wide (k1 := k0 + 4) (n1 := s0 + 24) (by first | omega | (simp only [jr]; omega)) (by first | omega | (simp only [jr]; omega)) (jv_sub [0, 1, 2, 3, 4] rfl (ih (x4 + Int32.ofInt (6)) _ _ _ _ _ (by omega) (by omega) H))
          · have h636 : ¬ ((G.xs (x4 + (1 : Int32)).toNatClampNeg) = 0) := h636
            have H := (if_neg h636).symm.trans H
            refine jv_iconst 1 (pc := 639) d_LW_law_639 rfl ?_
            refine jv_goto 644 (pc := 640) d_LW_law_640 rfl ?_
            obtain ⟨_, n644, c644, H⟩ := jbd_some H
            refine jv_callVv (sp_MO_begin (1 : Int32) c644) (pc := 644) d_LW_law_644 c0_MO_begin lk_LW_122 in_MO_begin se_MO_begin (by decide) rfl rfl rfl (Nat.le_of_ble_eq_true rfl) ⟨by decide, by decide, by (simp only [jr, room_1]; omega), by (simp only [jr, room_1]; omega)⟩ (fun m644 h644 => ?_)
            have hb644 := h644
            have hb644 := hb644.symm
            subst hb644
            refine jv_goto 1410 (pc := 647) d_LW_law_647 rfl ?_
            refine jv_iinc 4 _ (pc := 1410) d_LW_law_1410 rfl rfl (by decide) (jst4 rfl) ?_
            refine jv_goto 23 (pc := 1413) d_LW_law_1413 rfl ?_
            exact jv_wide (k1 := k0 + 4) (n1 := s0 + 24) (by first | omega | (simp only [jr]; omega)) (by first | omega | (simp only [jr]; omega)) (jv_sub [0, 1, 2, 3, 4] rfl (ih (x4 + Int32.ofInt (6)) _ _ _ _ _ (by omega) (by omega) H))
      have H := (if_neg h40_9).symm.trans H
      by_cases h40_10 : ((G.xs x4.toNatClampNeg) &&& (31 : Int32)) = 10
      · have H := (if_pos h40_10).symm.trans H
        refine jv_tin 650 (pc := 40) d_LW_law_40 (by rw [h40_10]; decide) (by rw [h40_10]; decide) (by rw [h40_10]; rfl) rfl ?_
        refine jv_aload_n 1 (pc := 650) d_LW_law_650 rfl ?_
        refine jv_aload_n 3 (pc := 651) d_LW_law_651 rfl ?_
        obtain ⟨v652, n652, c652, H⟩ := jbd_some H
        refine jv_callSH (sp_LW_end htr c652) (pc := 652) d_LW_law_652 (by decide) cw_LW_end (jin1 0 rfl rfl) ⟨by decide, by decide⟩ pn_LW_end (jin2 200 rfl rfl) si_LW_end rfl (Nat.le_of_ble_eq_true rfl) ⟨by decide, by decide, by (simp only [jr, room_1]; omega), by (simp only [jr, room_1]; omega)⟩ (fun r652 m652 h652 => ?_)
        obtain ⟨ha652, hb652⟩ := h652
        have ha652 := ha652.symm
        subst ha652
        have hb652 := hb652.symm
        subst hb652
        refine jv_istore (pc := 655) d_LW_law_655 (by decide) (jsto_new rfl) ?_
        refine jv_aload_n 3 (pc := 657) d_LW_law_657 rfl ?_
        obtain ⟨v658, n658, c658, H⟩ := jbd_some H
        refine jv_callVi (sp_MO_end c658) (pc := 658) d_LW_law_658 c0_MO_end lk_LW_126 in_MO_end se_MO_end (by decide) rfl rfl rfl (Nat.le_of_ble_eq_true rfl) ⟨by decide, by decide, by (simp only [jr, room_1]; omega), by (simp only [jr, room_1]; omega)⟩ (fun r658 m658 h658 => ?_)
        obtain ⟨ha658, hb658⟩ := h658
        have ha658 := ha658.symm
        subst ha658
        have hb658 := hb658.symm
        subst hb658
        refine jv_istore (pc := 661) d_LW_law_661 (by decide) (jsto_new rfl) ?_
        refine jv_aload_n 4 (pc := 663) d_LW_law_663 rfl ?_
        refine jv_callVi (sp_MO_thrown) (pc := 664) d_LW_law_664 c0_MO_thrown lk_LW_82 in_MO_thrown se_MO_thrown (by decide) rfl rfl rfl (Nat.le_of_ble_eq_true rfl) ⟨by decide, by decide, by (simp only [jr, room_1]; omega), by (simp only [jr, room_1]; omega)⟩ (fun r664 m664 h664 => ?_)
        obtain ⟨ha664, hb664⟩ := h664
        subst ha664
        have hb664 := hb664.symm
        subst hb664
        refine jv_iload 1 (pc := 667) d_LW_law_667 rfl ?_
        refine jv_icmp_eq 674 (pc := 669) d_LW_law_669 rfl (fun h669 => ?_) (fun h669 => ?_)
        · have h669 : (f_MO_thrown n658) = v652 := h669
          have H := (if_pos h669).symm.trans H
          refine jv_iload 1 (pc := 674) d_LW_law_674 rfl ?_
          refine jv_if_ne 691 (pc := 676) d_LW_law_676 rfl (fun h676 => ?_) (fun h676 => ?_)
          · have h676 : ¬ (v652 = 0) := h676
            have H := (if_neg h676).symm.trans H
            refine jv_goto 1410 (pc := 691) d_LW_law_691 rfl ?_
            refine jv_iinc 6 _ (pc := 1410) d_LW_law_1410 rfl rfl (by decide) (jst6 rfl) ?_
            refine jv_goto 23 (pc := 1413) d_LW_law_1413 rfl ?_
            exact jv_wide (k1 := k0 + 4) (n1 := s0 + 24) (by first | omega | (simp only [jr]; omega)) (by first | omega | (simp only [jr]; omega)) (jv_sub [2, 3, 4, 5, 6] rfl (ih (x4 + Int32.ofInt (6)) _ _ _ _ _ (by omega) (by omega) H))
          · have h676 : v652 = 0 := h676
            have H := (if_pos h676).symm.trans H
            refine jv_aload_n 5 (pc := 679) d_LW_law_679 rfl ?_
            refine jv_iconst 0 (pc := 680) d_LW_law_680 rfl ?_
            refine jv_lald (pc := 681) d_LW_law_681 (by decide) rfl jin01 ?_
            refine jv_iload 0 (pc := 682) d_LW_law_682 rfl ?_
            refine jv_i2l (pc := 684) d_LW_law_684 ?_
            refine jv_lcmp (pc := 685) d_LW_law_685 ?_
            refine jv_if_eq 691 (pc := 686) d_LW_law_686 rfl (fun h686 => ?_) (fun h686 => ?_)
            · have h686 : (lg_cmp ((n658 47 ((0 : Int32).toNatClampNeg)).toInt64) v658.toInt64) = 0 := h686
              have H := (if_pos h686).symm.trans H
              refine jv_goto 1410 (pc := 691) d_LW_law_691 rfl ?_
              refine jv_iinc 6 _ (pc := 1410) d_LW_law_1410 rfl rfl (by decide) (jst6 rfl) ?_
              refine jv_goto 23 (pc := 1413) d_LW_law_1413 rfl ?_
              exact jv_wide (k1 := k0 + 4) (n1 := s0 + 24) (by first | omega | (simp only [jr]; omega)) (by first | omega | (simp only [jr]; omega)) (jv_sub [2, 3, 4, 5, 6] rfl (ih (x4 + Int32.ofInt (6)) _ _ _ _ _ (by omega) (by omega) H))
            · have h686 : ¬ ((lg_cmp ((n658 47 ((0 : Int32).toNatClampNeg)).toInt64) v658.toInt64) = 0) := h686
              have H := (if_neg h686).symm.trans H
              refine jv_iconst 0 (pc := 689) d_LW_law_689 rfl ?_
              refine jv_iret (pc := 690) d_LW_law_690 rfl rfl (by (simp only [jr, room_1]; omega)) (by (simp only [jr, room_1]; omega)) ?_
              cases H
              exact jI.of ⟨rfl, rfl⟩
        · have h669 : ¬ ((f_MO_thrown n658) = v652) := h669
          have H := (if_neg h669).symm.trans H
          refine jv_iconst 0 (pc := 672) d_LW_law_672 rfl ?_
          refine jv_iret (pc := 673) d_LW_law_673 rfl rfl (by (simp only [jr, room_1]; omega)) (by (simp only [jr, room_1]; omega)) ?_
          cases H
          exact jI.of ⟨rfl, rfl⟩
      have H := (if_neg h40_10).symm.trans H
      by_cases h40_11 : ((G.xs x4.toNatClampNeg) &&& (31 : Int32)) = 11
      · have H := (if_pos h40_11).symm.trans H
        refine jv_tin 694 (pc := 40) d_LW_law_40 (by rw [h40_11]; decide) (by rw [h40_11]; decide) (by rw [h40_11]; rfl) rfl ?_
        refine jv_aload_n 1 (pc := 694) d_LW_law_694 rfl ?_
        obtain ⟨v695, n695, c695, H⟩ := jbd_some H
        refine jv_callVi (sp_IC_state c695) (pc := 695) d_LW_law_695 c0_IC_state lk_LW_127 in_IC_state se_IC_state (by decide) rfl rfl rfl (Nat.le_of_ble_eq_true rfl) ⟨by decide, by decide, by (simp only [jr, room_1]; omega), by (simp only [jr, room_1]; omega)⟩ (fun r695 m695 h695 => ?_)
        obtain ⟨ha695, hb695⟩ := h695
        have ha695 := ha695.symm
        subst ha695
        have hb695 := hb695.symm
        subst hb695
        refine jv_aload_n 2 (pc := 698) d_LW_law_698 rfl ?_
        refine jv_callVi (sp_MO_state) (pc := 699) d_LW_law_699 c0_MO_state lk_LW_130 in_MO_state se_MO_state (by decide) rfl rfl rfl (Nat.le_of_ble_eq_true rfl) ⟨by decide, by decide, by (simp only [jr, room_1]; omega), by (simp only [jr, room_1]; omega)⟩ (fun r699 m699 h699 => ?_)
        obtain ⟨ha699, hb699⟩ := h699
        subst ha699
        have hb699 := hb699.symm
        subst hb699
        refine jv_icmp_eq 1410 (pc := 702) d_LW_law_702 rfl (fun h702 => ?_) (fun h702 => ?_)
        · have h702 : v695 = ((f_MO_state n695).1) := h702
          have H := (if_pos h702).symm.trans H
          refine jv_iinc 4 _ (pc := 1410) d_LW_law_1410 rfl rfl (by decide) (jst4 rfl) ?_
          refine jv_goto 23 (pc := 1413) d_LW_law_1413 rfl ?_
          exact jv_wide (k1 := k0 + 4) (n1 := s0 + 24) (by first | omega | (simp only [jr]; omega)) (by first | omega | (simp only [jr]; omega)) (jv_sub [0, 1, 2, 3, 4] rfl (ih (x4 + Int32.ofInt (6)) _ _ _ _ _ (by omega) (by omega) H))
        · have h702 : ¬ (v695 = ((f_MO_state n695).1)) := h702
          have H := (if_neg h702).symm.trans H
          refine jv_iconst 0 (pc := 705) d_LW_law_705 rfl ?_
          refine jv_iret (pc := 706) d_LW_law_706 rfl rfl (by (simp only [jr, room_1]; omega)) (by (simp only [jr, room_1]; omega)) ?_
          cases H
          exact jI.of ⟨rfl, rfl⟩
      have H := (if_neg h40_11).symm.trans H
      by_cases h40_12 : ((G.xs x4.toNatClampNeg) &&& (31 : Int32)) = 12
      · have H := (if_pos h40_12).symm.trans H
        refine jv_tin 707 (pc := 40) d_LW_law_40 (by rw [h40_12]; decide) (by rw [h40_12]; decide) (by rw [h40_12]; rfl) rfl ?_
        refine jv_aload_n 1 (pc := 707) d_LW_law_707 rfl ?_
        refine jv_aload_n 0 (pc := 708) d_LW_law_708 rfl ?_
        refine jv_iload 4 (pc := 709) d_LW_law_709 rfl ?_
        refine jv_iconst 1 (pc := 711) d_LW_law_711 rfl ?_
        refine jv_iadd (pc := 712) d_LW_law_712 ?_
        obtain ⟨b713, H⟩ := jck_some H
        refine jv_sald (pc := 713) d_LW_law_713 b713 ?_
        refine jv_aload_n 0 (pc := 714) d_LW_law_714 rfl ?_
        refine jv_iload 4 (pc := 715) d_LW_law_715 rfl ?_
        refine jv_iconst 2 (pc := 717) d_LW_law_717 rfl ?_
        refine jv_iadd (pc := 718) d_LW_law_718 ?_
        obtain ⟨b719, H⟩ := jck_some H
        refine jv_sald (pc := 719) d_LW_law_719 b719 ?_
        refine jv_aload_n 0 (pc := 720) d_LW_law_720 rfl ?_
        refine jv_iload 4 (pc := 721) d_LW_law_721 rfl ?_
        refine jv_iconst 3 (pc := 723) d_LW_law_723 rfl ?_
        refine jv_iadd (pc := 724) d_LW_law_724 ?_
        obtain ⟨b725, H⟩ := jck_some H
        refine jv_sald (pc := 725) d_LW_law_725 b725 ?_
        refine jv_if_eq 733 (pc := 726) d_LW_law_726 rfl (fun h726 => ?_) (fun h726 => ?_)
        · have h726 : (G.xs (x4 + (3 : Int32)).toNatClampNeg) = 0 := h726
          have H := (if_pos h726).symm.trans H
          refine jv_iconst 0 (pc := 733) d_LW_law_733 rfl ?_
          refine jv_aload_n 3 (pc := 734) d_LW_law_734 rfl ?_
          obtain ⟨v735, n735, c735, H⟩ := jbd_some H
          refine jv_callSH (sp_LW_region (G.xs (x4 + (1 : Int32)).toNatClampNeg) (G.xs (x4 + (2 : Int32)).toNatClampNeg) (0 : Int32) htr c735) (pc := 735) d_LW_law_735 (by decide) cw_LW_region (jin1 0 rfl rfl) ⟨by decide, by decide⟩ pn_LW_region (jin3 5 rfl rfl) si_LW_region rfl (Nat.le_of_ble_eq_true rfl) ⟨by decide, by decide, by (simp only [jr, room_1]; omega), by (simp only [jr, room_1]; omega)⟩ (fun r735 m735 h735 => ?_)
          obtain ⟨ha735, hb735⟩ := h735
          have ha735 := ha735.symm
          subst ha735
          have hb735 := hb735.symm
          subst hb735
          refine jv_istore (pc := 738) d_LW_law_738 (by decide) (jsto_new rfl) ?_
          refine jv_aload_n 3 (pc := 740) d_LW_law_740 rfl ?_
          refine jv_aload_n 1 (pc := 741) d_LW_law_741 rfl ?_
          refine jv_iload 5 (pc := 742) d_LW_law_742 rfl ?_
          refine jv_iconst 1 (pc := 744) d_LW_law_744 rfl ?_
          refine jv_iadd (pc := 745) d_LW_law_745 ?_
          obtain ⟨b746, H⟩ := jck_some H
          refine jv_sald (pc := 746) d_LW_law_746 b746 ?_
          refine jv_aload_n 1 (pc := 747) d_LW_law_747 rfl ?_
          refine jv_iload 5 (pc := 748) d_LW_law_748 rfl ?_
          refine jv_iconst 2 (pc := 750) d_LW_law_750 rfl ?_
          refine jv_iadd (pc := 751) d_LW_law_751 ?_
          obtain ⟨b752, H⟩ := jck_some H
          refine jv_sald (pc := 752) d_LW_law_752 b752 ?_
          refine jv_aload_n 1 (pc := 753) d_LW_law_753 rfl ?_
          refine jv_iload 5 (pc := 754) d_LW_law_754 rfl ?_
          refine jv_iconst 3 (pc := 756) d_LW_law_756 rfl ?_
          refine jv_iadd (pc := 757) d_LW_law_757 ?_
          obtain ⟨b758, H⟩ := jck_some H
          refine jv_sald (pc := 758) d_LW_law_758 b758 ?_
          refine jv_if_eq 766 (pc := 759) d_LW_law_759 rfl (fun h759 => ?_) (fun h759 => ?_)
          · have h759 : (G.xs (x4 + (3 : Int32)).toNatClampNeg) = 0 := h759
            have H := (if_pos h759).symm.trans H
            refine jv_iconst 0 (pc := 766) d_LW_law_766 rfl ?_
            obtain ⟨v767, n767, c767, H⟩ := jbd_some H
            refine jv_callVi (sp_MO_region (G.xs (x4 + (1 : Int32)).toNatClampNeg) (G.xs (x4 + (2 : Int32)).toNatClampNeg) (0 : Int32) c767) (pc := 767) d_LW_law_767 c0_MO_region lk_LW_134 in_MO_region se_MO_region (by decide) rfl rfl rfl (Nat.le_of_ble_eq_true rfl) ⟨by decide, by decide, by (simp only [jr, room_1]; omega), by (simp only [jr, room_1]; omega)⟩ (fun r767 m767 h767 => ?_)
            obtain ⟨ha767, hb767⟩ := h767
            have ha767 := ha767.symm
            subst ha767
            have hb767 := hb767.symm
            subst hb767
            refine jv_istore (pc := 770) d_LW_law_770 (by decide) (jsto_new rfl) ?_
            refine jv_aload_n 4 (pc := 772) d_LW_law_772 rfl ?_
            refine jv_callVi (sp_MO_thrown) (pc := 773) d_LW_law_773 c0_MO_thrown lk_LW_82 in_MO_thrown se_MO_thrown (by decide) rfl rfl rfl (Nat.le_of_ble_eq_true rfl) ⟨by decide, by decide, by (simp only [jr, room_1]; omega), by (simp only [jr, room_1]; omega)⟩ (fun r773 m773 h773 => ?_)
            obtain ⟨ha773, hb773⟩ := h773
            subst ha773
            have hb773 := hb773.symm
            subst hb773
            refine jv_iload 1 (pc := 776) d_LW_law_776 rfl ?_
            refine jv_icmp_eq 783 (pc := 778) d_LW_law_778 rfl (fun h778 => ?_) (fun h778 => ?_)
            · have h778 : (f_MO_thrown n767) = v735 := h778
              have H := (if_pos h778).symm.trans H
              refine jv_iload 1 (pc := 783) d_LW_law_783 rfl ?_
              refine jv_if_ne 800 (pc := 785) d_LW_law_785 rfl (fun h785 => ?_) (fun h785 => ?_)
              · have h785 : ¬ (v735 = 0) := h785
                have H := (if_neg h785).symm.trans H
                refine jv_goto 1410 (pc := 800) d_LW_law_800 rfl ?_
                refine jv_iinc 6 _ (pc := 1410) d_LW_law_1410 rfl rfl (by decide) (jst6 rfl) ?_
                refine jv_goto 23 (pc := 1413) d_LW_law_1413 rfl ?_
                exact jv_wide (k1 := k0 + 4) (n1 := s0 + 24) (by first | omega | (simp only [jr]; omega)) (by first | omega | (simp only [jr]; omega)) (jv_sub [2, 3, 4, 5, 6] rfl (ih (x4 + Int32.ofInt (6)) _ _ _ _ _ (by omega) (by omega) H))
              · have h785 : v735 = 0 := h785
                have H := (if_pos h785).symm.trans H
                refine jv_aload_n 5 (pc := 788) d_LW_law_788 rfl ?_
                refine jv_iconst 0 (pc := 789) d_LW_law_789 rfl ?_
                refine jv_lald (pc := 790) d_LW_law_790 (by decide) rfl jin01 ?_
                refine jv_iload 0 (pc := 791) d_LW_law_791 rfl ?_
                refine jv_i2l (pc := 793) d_LW_law_793 ?_
                refine jv_lcmp (pc := 794) d_LW_law_794 ?_
                refine jv_if_eq 800 (pc := 795) d_LW_law_795 rfl (fun h795 => ?_) (fun h795 => ?_)
                · have h795 : (lg_cmp ((n767 47 ((0 : Int32).toNatClampNeg)).toInt64) v767.toInt64) = 0 := h795
                  have H := (if_pos h795).symm.trans H
                  refine jv_goto 1410 (pc := 800) d_LW_law_800 rfl ?_
                  refine jv_iinc 6 _ (pc := 1410) d_LW_law_1410 rfl rfl (by decide) (jst6 rfl) ?_
                  refine jv_goto 23 (pc := 1413) d_LW_law_1413 rfl ?_
                  exact jv_wide (k1 := k0 + 4) (n1 := s0 + 24) (by first | omega | (simp only [jr]; omega)) (by first | omega | (simp only [jr]; omega)) (jv_sub [2, 3, 4, 5, 6] rfl (ih (x4 + Int32.ofInt (6)) _ _ _ _ _ (by omega) (by omega) H))
                · have h795 : ¬ ((lg_cmp ((n767 47 ((0 : Int32).toNatClampNeg)).toInt64) v767.toInt64) = 0) := h795
                  have H := (if_neg h795).symm.trans H
                  refine jv_iconst 0 (pc := 798) d_LW_law_798 rfl ?_
                  refine jv_iret (pc := 799) d_LW_law_799 rfl rfl (by (simp only [jr, room_1]; omega)) (by (simp only [jr, room_1]; omega)) ?_
                  cases H
                  exact jI.of ⟨rfl, rfl⟩
            · have h778 : ¬ ((f_MO_thrown n767) = v735) := h778
              have H := (if_neg h778).symm.trans H
              refine jv_iconst 0 (pc := 781) d_LW_law_781 rfl ?_
              refine jv_iret (pc := 782) d_LW_law_782 rfl rfl (by (simp only [jr, room_1]; omega)) (by (simp only [jr, room_1]; omega)) ?_
              cases H
              exact jI.of ⟨rfl, rfl⟩
          · have h759 : ¬ ((G.xs (x4 + (3 : Int32)).toNatClampNeg) = 0) := h759
            have H := (if_neg h759).symm.trans H
            refine jv_iconst 1 (pc := 762) d_LW_law_762 rfl ?_
            refine jv_goto 767 (pc := 763) d_LW_law_763 rfl ?_
            obtain ⟨v767, n767, c767, H⟩ := jbd_some H
            refine jv_callVi (sp_MO_region (G.xs (x4 + (1 : Int32)).toNatClampNeg) (G.xs (x4 + (2 : Int32)).toNatClampNeg) (1 : Int32) c767) (pc := 767) d_LW_law_767 c0_MO_region lk_LW_134 in_MO_region se_MO_region (by decide) rfl rfl rfl (Nat.le_of_ble_eq_true rfl) ⟨by decide, by decide, by (simp only [jr, room_1]; omega), by (simp only [jr, room_1]; omega)⟩ (fun r767 m767 h767 => ?_)
            obtain ⟨ha767, hb767⟩ := h767
            have ha767 := ha767.symm
            subst ha767
            have hb767 := hb767.symm
            subst hb767
            refine jv_istore (pc := 770) d_LW_law_770 (by decide) (jsto_new rfl) ?_
            refine jv_aload_n 4 (pc := 772) d_LW_law_772 rfl ?_
            refine jv_callVi (sp_MO_thrown) (pc := 773) d_LW_law_773 c0_MO_thrown lk_LW_82 in_MO_thrown se_MO_thrown (by decide) rfl rfl rfl (Nat.le_of_ble_eq_true rfl) ⟨by decide, by decide, by (simp only [jr, room_1]; omega), by (simp only [jr, room_1]; omega)⟩ (fun r773 m773 h773 => ?_)
            obtain ⟨ha773, hb773⟩ := h773
            subst ha773
            have hb773 := hb773.symm
            subst hb773
            refine jv_iload 1 (pc := 776) d_LW_law_776 rfl ?_
            refine jv_icmp_eq 783 (pc := 778) d_LW_law_778 rfl (fun h778 => ?_) (fun h778 => ?_)
            · have h778 : (f_MO_thrown n767) = v735 := h778
              have H := (if_pos h778).symm.trans H
              refine jv_iload 1 (pc := 783) d_LW_law_783 rfl ?_
              refine jv_if_ne 800 (pc := 785) d_LW_law_785 rfl (fun h785 => ?_) (fun h785 => ?_)
              · have h785 : ¬ (v735 = 0) := h785
                have H := (if_neg h785).symm.trans H
                refine jv_goto 1410 (pc := 800) d_LW_law_800 rfl ?_
                refine jv_iinc 6 _ (pc := 1410) d_LW_law_1410 rfl rfl (by decide) (jst6 rfl) ?_
                refine jv_goto 23 (pc := 1413) d_LW_law_1413 rfl ?_
                exact jv_wide (k1 := k0 + 4) (n1 := s0 + 24) (by first | omega | (simp only [jr]; omega)) (by first | omega | (simp only [jr]; omega)) (jv_sub [2, 3, 4, 5, 6] rfl (ih (x4 + Int32.ofInt (6)) _ _ _ _ _ (by omega) (by omega) H))
              · have h785 : v735 = 0 := h785
                have H := (if_pos h785).symm.trans H
                refine jv_aload_n 5 (pc := 788) d_LW_law_788 rfl ?_
                refine jv_iconst 0 (pc := 789) d_LW_law_789 rfl ?_
                refine jv_lald (pc := 790) d_LW_law_790 (by decide) rfl jin01 ?_
                refine jv_iload 0 (pc := 791) d_LW_law_791 rfl ?_
                refine jv_i2l (pc := 793) d_LW_law_793 ?_
                refine jv_lcmp (pc := 794) d_LW_law_794 ?_
                refine jv_if_eq 800 (pc := 795) d_LW_law_795 rfl (fun h795 => ?_) (fun h795 => ?_)
                · have h795 : (lg_cmp ((n767 47 ((0 : Int32).toNatClampNeg)).toInt64) v767.toInt64) = 0 := h795
                  have H := (if_pos h795).symm.trans H
                  refine jv_goto 1410 (pc := 800) d_LW_law_800 rfl ?_
                  refine jv_iinc 6 _ (pc := 1410) d_LW_law_1410 rfl rfl (by decide) (jst6 rfl) ?_
                  refine jv_goto 23 (pc := 1413) d_LW_law_1413 rfl ?_
                  exact jv_wide (k1 := k0 + 4) (n1 := s0 + 24) (by first | omega | (simp only [jr]; omega)) (by first | omega | (simp only [jr]; omega)) (jv_sub [2, 3, 4, 5, 6] rfl (ih (x4 + Int32.ofInt (6)) _ _ _ _ _ (by omega) (by omega) H))
                · have h795 : ¬ ((lg_cmp ((n767 47 ((0 : Int32).toNatClampNeg)).toInt64) v767.toInt64) = 0) := h795
                  have H := (if_neg h795).symm.trans H
                  refine jv_iconst 0 (pc := 798) d_LW_law_798 rfl ?_
                  refine jv_iret (pc := 799) d_LW_law_799 rfl rfl (by (simp only [jr, room_1]; omega)) (by (simp only [jr, room_1]; omega)) ?_
                  cases H
                  exact jI.of ⟨rfl, rfl⟩
            · have h778 : ¬ ((f_MO_thrown n767) = v735) := h778
              have H := (if_neg h778).symm.trans H
              refine jv_iconst 0 (pc := 781) d_LW_law_781 rfl ?_
              refine jv_iret (pc := 782) d_LW_law_782 rfl rfl (by (simp only [jr, room_1]; omega)) (by (simp only [jr, room_1]; omega)) ?_
              cases H
              exact jI.of ⟨rfl, rfl⟩
        · have h726 : ¬ ((G.xs (x4 + (3 : Int32)).toNatClampNeg) = 0) := h726
          have H := (if_neg h726).symm.trans H
          refine jv_iconst 1 (pc := 729) d_LW_law_729 rfl ?_
          refine jv_goto 734 (pc := 730) d_LW_law_730 rfl ?_
          refine jv_aload_n 3 (pc := 734) d_LW_law_734 rfl ?_
          obtain ⟨v735, n735, c735, H⟩ := jbd_some H
          refine jv_callSH (sp_LW_region (G.xs (x4 + (1 : Int32)).toNatClampNeg) (G.xs (x4 + (2 : Int32)).toNatClampNeg) (1 : Int32) htr c735) (pc := 735) d_LW_law_735 (by decide) cw_LW_region (jin1 0 rfl rfl) ⟨by decide, by decide⟩ pn_LW_region (jin3 5 rfl rfl) si_LW_region rfl (Nat.le_of_ble_eq_true rfl) ⟨by decide, by decide, by (simp only [jr, room_1]; omega), by (simp only [jr, room_1]; omega)⟩ (fun r735 m735 h735 => ?_)
          obtain ⟨ha735, hb735⟩ := h735
          have ha735 := ha735.symm
          subst ha735
          have hb735 := hb735.symm
          subst hb735
          refine jv_istore (pc := 738) d_LW_law_738 (by decide) (jsto_new rfl) ?_
          refine jv_aload_n 3 (pc := 740) d_LW_law_740 rfl ?_
          refine jv_aload_n 1 (pc := 741) d_LW_law_741 rfl ?_
          refine jv_iload 5 (pc := 742) d_LW_law_742 rfl ?_
          refine jv_iconst 1 (pc := 744) d_LW_law_744 rfl ?_
          refine jv_iadd (pc := 745) d_LW_law_745 ?_
          obtain ⟨b746, H⟩ := jck_some H
          refine jv_sald (pc := 746) d_LW_law_746 b746 ?_
          refine jv_aload_n 1 (pc := 747) d_LW_law_747 rfl ?_
          refine jv_iload 5 (pc := 748) d_LW_law_748 rfl ?_
          refine jv_iconst 2 (pc := 750) d_LW_law_750 rfl ?_
          refine jv_iadd (pc := 751) d_LW_law_751 ?_
          obtain ⟨b752, H⟩ := jck_some H
          refine jv_sald (pc := 752) d_LW_law_752 b752 ?_
          refine jv_aload_n 1 (pc := 753) d_LW_law_753 rfl ?_
          refine jv_iload 5 (pc := 754) d_LW_law_754 rfl ?_
          refine jv_iconst 3 (pc := 756) d_LW_law_756 rfl ?_
          refine jv_iadd (pc := 757) d_LW_law_757 ?_
          obtain ⟨b758, H⟩ := jck_some H
          refine jv_sald (pc := 758) d_LW_law_758 b758 ?_
          refine jv_if_eq 766 (pc := 759) d_LW_law_759 rfl (fun h759 => ?_) (fun h759 => ?_)
          · have h759 : (G.xs (x4 + (3 : Int32)).toNatClampNeg) = 0 := h759
            have H := (if_pos h759).symm.trans H
            refine jv_iconst 0 (pc := 766) d_LW_law_766 rfl ?_
            obtain ⟨v767, n767, c767, H⟩ := jbd_some H
            refine jv_callVi (sp_MO_region (G.xs (x4 + (1 : Int32)).toNatClampNeg) (G.xs (x4 + (2 : Int32)).toNatClampNeg) (0 : Int32) c767) (pc := 767) d_LW_law_767 c0_MO_region lk_LW_134 in_MO_region se_MO_region (by decide) rfl rfl rfl (Nat.le_of_ble_eq_true rfl) ⟨by decide, by decide, by (simp only [jr, room_1]; omega), by (simp only [jr, room_1]; omega)⟩ (fun r767 m767 h767 => ?_)
            obtain ⟨ha767, hb767⟩ := h767
            have ha767 := ha767.symm
            subst ha767
            have hb767 := hb767.symm
            subst hb767
            refine jv_istore (pc := 770) d_LW_law_770 (by decide) (jsto_new rfl) ?_
            refine jv_aload_n 4 (pc := 772) d_LW_law_772 rfl ?_
            refine jv_callVi (sp_MO_thrown) (pc := 773) d_LW_law_773 c0_MO_thrown lk_LW_82 in_MO_thrown se_MO_thrown (by decide) rfl rfl rfl (Nat.le_of_ble_eq_true rfl) ⟨by decide, by decide, by (simp only [jr, room_1]; omega), by (simp only [jr, room_1]; omega)⟩ (fun r773 m773 h773 => ?_)
            obtain ⟨ha773, hb773⟩ := h773
            subst ha773
            have hb773 := hb773.symm
            subst hb773
            refine jv_iload 1 (pc := 776) d_LW_law_776 rfl ?_
            refine jv_icmp_eq 783 (pc := 778) d_LW_law_778 rfl (fun h778 => ?_) (fun h778 => ?_)
            · have h778 : (f_MO_thrown n767) = v735 := h778
              have H := (if_pos h778).symm.trans H
              refine jv_iload 1 (pc := 783) d_LW_law_783 rfl ?_
              refine jv_if_ne 800 (pc := 785) d_LW_law_785 rfl (fun h785 => ?_) (fun h785 => ?_)
              · have h785 : ¬ (v735 = 0) := h785
                have H := (if_neg h785).symm.trans H
                refine jv_goto 1410 (pc := 800) d_LW_law_800 rfl ?_
                refine jv_iinc 6 _ (pc := 1410) d_LW_law_1410 rfl rfl (by decide) (jst6 rfl) ?_
                refine jv_goto 23 (pc := 1413) d_LW_law_1413 rfl ?_
                exact jv_wide (k1 := k0 + 4) (n1 := s0 + 24) (by first | omega | (simp only [jr]; omega)) (by first | omega | (simp only [jr]; omega)) (jv_sub [2, 3, 4, 5, 6] rfl (ih (x4 + Int32.ofInt (6)) _ _ _ _ _ (by omega) (by omega) H))
              · have h785 : v735 = 0 := h785
                have H := (if_pos h785).symm.trans H
                refine jv_aload_n 5 (pc := 788) d_LW_law_788 rfl ?_
                refine jv_iconst 0 (pc := 789) d_LW_law_789 rfl ?_
                refine jv_lald (pc := 790) d_LW_law_790 (by decide) rfl jin01 ?_
                refine jv_iload 0 (pc := 791) d_LW_law_791 rfl ?_
                refine jv_i2l (pc := 793) d_LW_law_793 ?_
                refine jv_lcmp (pc := 794) d_LW_law_794 ?_
                refine jv_if_eq 800 (pc := 795) d_LW_law_795 rfl (fun h795 => ?_) (fun h795 => ?_)
                · have h795 : (lg_cmp ((n767 47 ((0 : Int32).toNatClampNeg)).toInt64) v767.toInt64) = 0 := h795
                  have H := (if_pos h795).symm.trans H
                  refine jv_goto 1410 (pc := 800) d_LW_law_800 rfl ?_
                  refine jv_iinc 6 _ (pc := 1410) d_LW_law_1410 rfl rfl (by decide) (jst6 rfl) ?_
                  refine jv_goto 23 (pc := 1413) d_LW_law_1413 rfl ?_
                  exact jv_wide (k1 := k0 + 4) (n1 := s0 + 24) (by first | omega | (simp only [jr]; omega)) (by first | omega | (simp only [jr]; omega)) (jv_sub [2, 3, 4, 5, 6] rfl (ih (x4 + Int32.ofInt (6)) _ _ _ _ _ (by omega) (by omega) H))
                · have h795 : ¬ ((lg_cmp ((n767 47 ((0 : Int32).toNatClampNeg)).toInt64) v767.toInt64) = 0) := h795
                  have H := (if_neg h795).symm.trans H
                  refine jv_iconst 0 (pc := 798) d_LW_law_798 rfl ?_
                  refine jv_iret (pc := 799) d_LW_law_799 rfl rfl (by (simp only [jr, room_1]; omega)) (by (simp only [jr, room_1]; omega)) ?_
                  cases H
                  exact jI.of ⟨rfl, rfl⟩
            · have h778 : ¬ ((f_MO_thrown n767) = v735) := h778
              have H := (if_neg h778).symm.trans H
              refine jv_iconst 0 (pc := 781) d_LW_law_781 rfl ?_
              refine jv_iret (pc := 782) d_LW_law_782 rfl rfl (by (simp only [jr, room_1]; omega)) (by (simp only [jr, room_1]; omega)) ?_
              cases H
              exact jI.of ⟨rfl, rfl⟩
          · have h759 : ¬ ((G.xs (x4 + (3 : Int32)).toNatClampNeg) = 0) := h759
            have H := (if_neg h759).symm.trans H
            refine jv_iconst 1 (pc := 762) d_LW_law_762 rfl ?_
            refine jv_goto 767 (pc := 763) d_LW_law_763 rfl ?_
            obtain ⟨v767, n767, c767, H⟩ := jbd_some H
            refine jv_callVi (sp_MO_region (G.xs (x4 + (1 : Int32)).toNatClampNeg) (G.xs (x4 + (2 : Int32)).toNatClampNeg) (1 : Int32) c767) (pc := 767) d_LW_law_767 c0_MO_region lk_LW_134 in_MO_region se_MO_region (by decide) rfl rfl rfl (Nat.le_of_ble_eq_true rfl) ⟨by decide, by decide, by (simp only [jr, room_1]; omega), by (simp only [jr, room_1]; omega)⟩ (fun r767 m767 h767 => ?_)
            obtain ⟨ha767, hb767⟩ := h767
            have ha767 := ha767.symm
            subst ha767
            have hb767 := hb767.symm
            subst hb767
            refine jv_istore (pc := 770) d_LW_law_770 (by decide) (jsto_new rfl) ?_
            refine jv_aload_n 4 (pc := 772) d_LW_law_772 rfl ?_
            refine jv_callVi (sp_MO_thrown) (pc := 773) d_LW_law_773 c0_MO_thrown lk_LW_82 in_MO_thrown se_MO_thrown (by decide) rfl rfl rfl (Nat.le_of_ble_eq_true rfl) ⟨by decide, by decide, by (simp only [jr, room_1]; omega), by (simp only [jr, room_1]; omega)⟩ (fun r773 m773 h773 => ?_)
            obtain ⟨ha773, hb773⟩ := h773
            subst ha773
            have hb773 := hb773.symm
            subst hb773
            refine jv_iload 1 (pc := 776) d_LW_law_776 rfl ?_
            refine jv_icmp_eq 783 (pc := 778) d_LW_law_778 rfl (fun h778 => ?_) (fun h778 => ?_)
            · have h778 : (f_MO_thrown n767) = v735 := h778
              have H := (if_pos h778).symm.trans H
              refine jv_iload 1 (pc := 783) d_LW_law_783 rfl ?_
              refine jv_if_ne 800 (pc := 785) d_LW_law_785 rfl (fun h785 => ?_) (fun h785 => ?_)
              · have h785 : ¬ (v735 = 0) := h785
                have H := (if_neg h785).symm.trans H
                refine jv_goto 1410 (pc := 800) d_LW_law_800 rfl ?_
                refine jv_iinc 6 _ (pc := 1410) d_LW_law_1410 rfl rfl (by decide) (jst6 rfl) ?_
                refine jv_goto 23 (pc := 1413) d_LW_law_1413 rfl ?_
                exact jv_wide (k1 := k0 + 4) (n1 := s0 + 24) (by first | omega | (simp only [jr]; omega)) (by first | omega | (simp only [jr]; omega)) (jv_sub [2, 3, 4, 5, 6] rfl (ih (x4 + Int32.ofInt (6)) _ _ _ _ _ (by omega) (by omega) H))
              · have h785 : v735 = 0 := h785
                have H := (if_pos h785).symm.trans H
                refine jv_aload_n 5 (pc := 788) d_LW_law_788 rfl ?_
                refine jv_iconst 0 (pc := 789) d_LW_law_789 rfl ?_
                refine jv_lald (pc := 790) d_LW_law_790 (by decide) rfl jin01 ?_
                refine jv_iload 0 (pc := 791) d_LW_law_791 rfl ?_
                refine jv_i2l (pc := 793) d_LW_law_793 ?_
                refine jv_lcmp (pc := 794) d_LW_law_794 ?_
                refine jv_if_eq 800 (pc := 795) d_LW_law_795 rfl (fun h795 => ?_) (fun h795 => ?_)
                · have h795 : (lg_cmp ((n767 47 ((0 : Int32).toNatClampNeg)).toInt64) v767.toInt64) = 0 := h795
                  have H := (if_pos h795).symm.trans H
                  refine jv_goto 1410 (pc := 800) d_LW_law_800 rfl ?_
                  refine jv_iinc 6 _ (pc := 1410) d_LW_law_1410 rfl rfl (by decide) (jst6 rfl) ?_
                  refine jv_goto 23 (pc := 1413) d_LW_law_1413 rfl ?_
                  exact jv_wide (k1 := k0 + 4) (n1 := s0 + 24) (by first | omega | (simp only [jr]; omega)) (by first | omega | (simp only [jr]; omega)) (jv_sub [2, 3, 4, 5, 6] rfl (ih (x4 + Int32.ofInt (6)) _ _ _ _ _ (by omega) (by omega) H))
                · have h795 : ¬ ((lg_cmp ((n767 47 ((0 : Int32).toNatClampNeg)).toInt64) v767.toInt64) = 0) := h795
                  have H := (if_neg h795).symm.trans H
                  refine jv_iconst 0 (pc := 798) d_LW_law_798 rfl ?_
                  refine jv_iret (pc := 799) d_LW_law_799 rfl rfl (by (simp only [jr, room_1]; omega)) (by (simp only [jr, room_1]; omega)) ?_
                  cases H
                  exact jI.of ⟨rfl, rfl⟩
            · have h778 : ¬ ((f_MO_thrown n767) = v735) := h778
              have H := (if_neg h778).symm.trans H
              refine jv_iconst 0 (pc := 781) d_LW_law_781 rfl ?_
              refine jv_iret (pc := 782) d_LW_law_782 rfl rfl (by (simp only [jr, room_1]; omega)) (by (simp only [jr, room_1]; omega)) ?_
              cases H
              exact jI.of ⟨rfl, rfl⟩
      have H := (if_neg h40_12).symm.trans H
      by_cases h40_13 : ((G.xs x4.toNatClampNeg) &&& (31 : Int32)) = 13
      · have H := (if_pos h40_13).symm.trans H
        refine jv_tin 803 (pc := 40) d_LW_law_40 (by rw [h40_13]; decide) (by rw [h40_13]; decide) (by rw [h40_13]; rfl) rfl ?_
        refine jv_aload_n 1 (pc := 803) d_LW_law_803 rfl ?_
        refine jv_aload_n 0 (pc := 804) d_LW_law_804 rfl ?_
        refine jv_iload 4 (pc := 805) d_LW_law_805 rfl ?_
        refine jv_iconst 1 (pc := 807) d_LW_law_807 rfl ?_
        refine jv_iadd (pc := 808) d_LW_law_808 ?_
        obtain ⟨b809, H⟩ := jck_some H
        refine jv_sald (pc := 809) d_LW_law_809 b809 ?_
        refine jv_aload_n 0 (pc := 810) d_LW_law_810 rfl ?_
        refine jv_iload 4 (pc := 811) d_LW_law_811 rfl ?_
        refine jv_iconst 2 (pc := 813) d_LW_law_813 rfl ?_
        refine jv_iadd (pc := 814) d_LW_law_814 ?_
        obtain ⟨b815, H⟩ := jck_some H
        refine jv_sald (pc := 815) d_LW_law_815 b815 ?_
        refine jv_aload_n 0 (pc := 816) d_LW_law_816 rfl ?_
        refine jv_iload 4 (pc := 817) d_LW_law_817 rfl ?_
        refine jv_iconst 3 (pc := 819) d_LW_law_819 rfl ?_
        refine jv_iadd (pc := 820) d_LW_law_820 ?_
        obtain ⟨b821, H⟩ := jck_some H
        refine jv_sald (pc := 821) d_LW_law_821 b821 ?_
        refine jv_aload_n 0 (pc := 822) d_LW_law_822 rfl ?_
        refine jv_iload 4 (pc := 823) d_LW_law_823 rfl ?_
        refine jv_iconst 4 (pc := 825) d_LW_law_825 rfl ?_
        refine jv_iadd (pc := 826) d_LW_law_826 ?_
        obtain ⟨b827, H⟩ := jck_some H
        refine jv_sald (pc := 827) d_LW_law_827 b827 ?_
        refine jv_aload_n 3 (pc := 828) d_LW_law_828 rfl ?_
        obtain ⟨v829, n829, c829, H⟩ := jbd_some H
        refine jv_callSH (sp_LW_refine (G.xs (x4 + (1 : Int32)).toNatClampNeg) (G.xs (x4 + (2 : Int32)).toNatClampNeg) (G.xs (x4 + (3 : Int32)).toNatClampNeg) (G.xs (x4 + (4 : Int32)).toNatClampNeg) htr c829) (pc := 829) d_LW_law_829 (by decide) cw_LW_refine (jin1 0 rfl rfl) ⟨by decide, by decide⟩ pn_LW_refine (jin3 79 rfl rfl) si_LW_refine rfl (Nat.le_of_ble_eq_true rfl) ⟨by decide, by decide, by (simp only [jr, room_1]; omega), by (simp only [jr, room_1]; omega)⟩ (fun r829 m829 h829 => ?_)
        obtain ⟨ha829, hb829⟩ := h829
        have ha829 := ha829.symm
        subst ha829
        have hb829 := hb829.symm
        subst hb829
        refine jv_istore (pc := 832) d_LW_law_832 (by decide) (jsto_new rfl) ?_
        refine jv_aload_n 3 (pc := 834) d_LW_law_834 rfl ?_
        refine jv_aload_n 1 (pc := 835) d_LW_law_835 rfl ?_
        refine jv_iload 5 (pc := 836) d_LW_law_836 rfl ?_
        refine jv_iconst 1 (pc := 838) d_LW_law_838 rfl ?_
        refine jv_iadd (pc := 839) d_LW_law_839 ?_
        obtain ⟨b840, H⟩ := jck_some H
        refine jv_sald (pc := 840) d_LW_law_840 b840 ?_
        refine jv_aload_n 1 (pc := 841) d_LW_law_841 rfl ?_
        refine jv_iload 5 (pc := 842) d_LW_law_842 rfl ?_
        refine jv_iconst 2 (pc := 844) d_LW_law_844 rfl ?_
        refine jv_iadd (pc := 845) d_LW_law_845 ?_
        obtain ⟨b846, H⟩ := jck_some H
        refine jv_sald (pc := 846) d_LW_law_846 b846 ?_
        refine jv_aload_n 1 (pc := 847) d_LW_law_847 rfl ?_
        refine jv_iload 5 (pc := 848) d_LW_law_848 rfl ?_
        refine jv_iconst 3 (pc := 850) d_LW_law_850 rfl ?_
        refine jv_iadd (pc := 851) d_LW_law_851 ?_
        obtain ⟨b852, H⟩ := jck_some H
        refine jv_sald (pc := 852) d_LW_law_852 b852 ?_
        refine jv_aload_n 1 (pc := 853) d_LW_law_853 rfl ?_
        refine jv_iload 5 (pc := 854) d_LW_law_854 rfl ?_
        refine jv_iconst 4 (pc := 856) d_LW_law_856 rfl ?_
        refine jv_iadd (pc := 857) d_LW_law_857 ?_
        obtain ⟨b858, H⟩ := jck_some H
        refine jv_sald (pc := 858) d_LW_law_858 b858 ?_
        obtain ⟨v859, n859, c859, H⟩ := jbd_some H
        refine jv_callVi (sp_MO_refine (G.xs (x4 + (1 : Int32)).toNatClampNeg) (G.xs (x4 + (2 : Int32)).toNatClampNeg) (G.xs (x4 + (3 : Int32)).toNatClampNeg) (G.xs (x4 + (4 : Int32)).toNatClampNeg) c859) (pc := 859) d_LW_law_859 c0_MO_refine lk_LW_138 in_MO_refine se_MO_refine (by decide) rfl rfl rfl (Nat.le_of_ble_eq_true rfl) ⟨by decide, by decide, by (simp only [jr, room_1]; omega), by (simp only [jr, room_1]; omega)⟩ (fun r859 m859 h859 => ?_)
        obtain ⟨ha859, hb859⟩ := h859
        have ha859 := ha859.symm
        subst ha859
        have hb859 := hb859.symm
        subst hb859
        refine jv_istore (pc := 862) d_LW_law_862 (by decide) (jsto_new rfl) ?_
        refine jv_aload_n 4 (pc := 864) d_LW_law_864 rfl ?_
        refine jv_callVi (sp_MO_thrown) (pc := 865) d_LW_law_865 c0_MO_thrown lk_LW_82 in_MO_thrown se_MO_thrown (by decide) rfl rfl rfl (Nat.le_of_ble_eq_true rfl) ⟨by decide, by decide, by (simp only [jr, room_1]; omega), by (simp only [jr, room_1]; omega)⟩ (fun r865 m865 h865 => ?_)
        obtain ⟨ha865, hb865⟩ := h865
        subst ha865
        have hb865 := hb865.symm
        subst hb865
        refine jv_iload 1 (pc := 868) d_LW_law_868 rfl ?_
        refine jv_icmp_eq 875 (pc := 870) d_LW_law_870 rfl (fun h870 => ?_) (fun h870 => ?_)
        · have h870 : (f_MO_thrown n859) = v829 := h870
          have H := (if_pos h870).symm.trans H
          refine jv_iload 1 (pc := 875) d_LW_law_875 rfl ?_
          refine jv_if_ne 892 (pc := 877) d_LW_law_877 rfl (fun h877 => ?_) (fun h877 => ?_)
          · have h877 : ¬ (v829 = 0) := h877
            have H := (if_neg h877).symm.trans H
            refine jv_goto 1410 (pc := 892) d_LW_law_892 rfl ?_
            refine jv_iinc 6 _ (pc := 1410) d_LW_law_1410 rfl rfl (by decide) (jst6 rfl) ?_
            refine jv_goto 23 (pc := 1413) d_LW_law_1413 rfl ?_
            exact jv_wide (k1 := k0 + 4) (n1 := s0 + 24) (by first | omega | (simp only [jr]; omega)) (by first | omega | (simp only [jr]; omega)) (jv_sub [2, 3, 4, 5, 6] rfl (ih (x4 + Int32.ofInt (6)) _ _ _ _ _ (by omega) (by omega) H))
          · have h877 : v829 = 0 := h877
            have H := (if_pos h877).symm.trans H
            refine jv_aload_n 5 (pc := 880) d_LW_law_880 rfl ?_
            refine jv_iconst 0 (pc := 881) d_LW_law_881 rfl ?_
            refine jv_lald (pc := 882) d_LW_law_882 (by decide) rfl jin01 ?_
            refine jv_iload 0 (pc := 883) d_LW_law_883 rfl ?_
            refine jv_i2l (pc := 885) d_LW_law_885 ?_
            refine jv_lcmp (pc := 886) d_LW_law_886 ?_
            refine jv_if_eq 892 (pc := 887) d_LW_law_887 rfl (fun h887 => ?_) (fun h887 => ?_)
            · have h887 : (lg_cmp ((n859 47 ((0 : Int32).toNatClampNeg)).toInt64) v859.toInt64) = 0 := h887
              have H := (if_pos h887).symm.trans H
              refine jv_goto 1410 (pc := 892) d_LW_law_892 rfl ?_
              refine jv_iinc 6 _ (pc := 1410) d_LW_law_1410 rfl rfl (by decide) (jst6 rfl) ?_
              refine jv_goto 23 (pc := 1413) d_LW_law_1413 rfl ?_
              exact jv_wide (k1 := k0 + 4) (n1 := s0 + 24) (by first | omega | (simp only [jr]; omega)) (by first | omega | (simp only [jr]; omega)) (jv_sub [2, 3, 4, 5, 6] rfl (ih (x4 + Int32.ofInt (6)) _ _ _ _ _ (by omega) (by omega) H))
            · have h887 : ¬ ((lg_cmp ((n859 47 ((0 : Int32).toNatClampNeg)).toInt64) v859.toInt64) = 0) := h887
              have H := (if_neg h887).symm.trans H
              refine jv_iconst 0 (pc := 890) d_LW_law_890 rfl ?_
              refine jv_iret (pc := 891) d_LW_law_891 rfl rfl (by (simp only [jr, room_1]; omega)) (by (simp only [jr, room_1]; omega)) ?_
              cases H
              exact jI.of ⟨rfl, rfl⟩
        · have h870 : ¬ ((f_MO_thrown n859) = v829) := h870
          have H := (if_neg h870).symm.trans H
          refine jv_iconst 0 (pc := 873) d_LW_law_873 rfl ?_
          refine jv_iret (pc := 874) d_LW_law_874 rfl rfl (by (simp only [jr, room_1]; omega)) (by (simp only [jr, room_1]; omega)) ?_
          cases H
          exact jI.of ⟨rfl, rfl⟩
      have H := (if_neg h40_13).symm.trans H
      by_cases h40_14 : ((G.xs x4.toNatClampNeg) &&& (31 : Int32)) = 14
      · have H := (if_pos h40_14).symm.trans H
        refine jv_tin 895 (pc := 40) d_LW_law_40 (by rw [h40_14]; decide) (by rw [h40_14]; decide) (by rw [h40_14]; rfl) rfl ?_
        refine jv_aload_n 1 (pc := 895) d_LW_law_895 rfl ?_
        refine jv_aload_n 0 (pc := 896) d_LW_law_896 rfl ?_
        refine jv_iload 4 (pc := 897) d_LW_law_897 rfl ?_
        refine jv_iconst 1 (pc := 899) d_LW_law_899 rfl ?_
        refine jv_iadd (pc := 900) d_LW_law_900 ?_
        obtain ⟨b901, H⟩ := jck_some H
        refine jv_sald (pc := 901) d_LW_law_901 b901 ?_
        refine jv_aload_n 0 (pc := 902) d_LW_law_902 rfl ?_
        refine jv_iload 4 (pc := 903) d_LW_law_903 rfl ?_
        refine jv_iconst 2 (pc := 905) d_LW_law_905 rfl ?_
        refine jv_iadd (pc := 906) d_LW_law_906 ?_
        obtain ⟨b907, H⟩ := jck_some H
        refine jv_sald (pc := 907) d_LW_law_907 b907 ?_
        refine jv_aload_n 3 (pc := 908) d_LW_law_908 rfl ?_
        obtain ⟨v909, n909, c909, H⟩ := jbd_some H
        refine jv_callSH (sp_LW_number (G.xs (x4 + (1 : Int32)).toNatClampNeg) (G.xs (x4 + (2 : Int32)).toNatClampNeg) htr c909) (pc := 909) d_LW_law_909 (by decide) cw_LW_number (jin1 0 rfl rfl) ⟨by decide, by decide⟩ pn_LW_number (jin3 92 rfl rfl) si_LW_number rfl (Nat.le_of_ble_eq_true rfl) ⟨by decide, by decide, by (simp only [jr, room_1]; omega), by (simp only [jr, room_1]; omega)⟩ (fun r909 m909 h909 => ?_)
        obtain ⟨ha909, hb909⟩ := h909
        have ha909 := ha909.symm
        subst ha909
        have hb909 := hb909.symm
        subst hb909
        refine jv_istore (pc := 912) d_LW_law_912 (by decide) (jsto_new rfl) ?_
        refine jv_aload_n 3 (pc := 914) d_LW_law_914 rfl ?_
        refine jv_aload_n 1 (pc := 915) d_LW_law_915 rfl ?_
        refine jv_iload 5 (pc := 916) d_LW_law_916 rfl ?_
        refine jv_iconst 1 (pc := 918) d_LW_law_918 rfl ?_
        refine jv_iadd (pc := 919) d_LW_law_919 ?_
        obtain ⟨b920, H⟩ := jck_some H
        refine jv_sald (pc := 920) d_LW_law_920 b920 ?_
        refine jv_aload_n 1 (pc := 921) d_LW_law_921 rfl ?_
        refine jv_iload 5 (pc := 922) d_LW_law_922 rfl ?_
        refine jv_iconst 2 (pc := 924) d_LW_law_924 rfl ?_
        refine jv_iadd (pc := 925) d_LW_law_925 ?_
        obtain ⟨b926, H⟩ := jck_some H
        refine jv_sald (pc := 926) d_LW_law_926 b926 ?_
        obtain ⟨v927, n927, c927, H⟩ := jbd_some H
        refine jv_callVi (sp_MO_number (G.xs (x4 + (1 : Int32)).toNatClampNeg) (G.xs (x4 + (2 : Int32)).toNatClampNeg) c927) (pc := 927) d_LW_law_927 c0_MO_number lk_LW_141 in_MO_number se_MO_number (by decide) rfl rfl rfl (Nat.le_of_ble_eq_true rfl) ⟨by decide, by decide, by (simp only [jr, room_1]; omega), by (simp only [jr, room_1]; omega)⟩ (fun r927 m927 h927 => ?_)
        obtain ⟨ha927, hb927⟩ := h927
        have ha927 := ha927.symm
        subst ha927
        have hb927 := hb927.symm
        subst hb927
        refine jv_istore (pc := 930) d_LW_law_930 (by decide) (jsto_new rfl) ?_
        refine jv_aload_n 4 (pc := 932) d_LW_law_932 rfl ?_
        refine jv_callVi (sp_MO_thrown) (pc := 933) d_LW_law_933 c0_MO_thrown lk_LW_82 in_MO_thrown se_MO_thrown (by decide) rfl rfl rfl (Nat.le_of_ble_eq_true rfl) ⟨by decide, by decide, by (simp only [jr, room_1]; omega), by (simp only [jr, room_1]; omega)⟩ (fun r933 m933 h933 => ?_)
        obtain ⟨ha933, hb933⟩ := h933
        subst ha933
        have hb933 := hb933.symm
        subst hb933
        refine jv_iload 1 (pc := 936) d_LW_law_936 rfl ?_
        refine jv_icmp_eq 943 (pc := 938) d_LW_law_938 rfl (fun h938 => ?_) (fun h938 => ?_)
        · have h938 : (f_MO_thrown n927) = v909 := h938
          have H := (if_pos h938).symm.trans H
          refine jv_iload 1 (pc := 943) d_LW_law_943 rfl ?_
          refine jv_if_ne 960 (pc := 945) d_LW_law_945 rfl (fun h945 => ?_) (fun h945 => ?_)
          · have h945 : ¬ (v909 = 0) := h945
            have H := (if_neg h945).symm.trans H
            refine jv_goto 1410 (pc := 960) d_LW_law_960 rfl ?_
            refine jv_iinc 6 _ (pc := 1410) d_LW_law_1410 rfl rfl (by decide) (jst6 rfl) ?_
            refine jv_goto 23 (pc := 1413) d_LW_law_1413 rfl ?_
            exact jv_wide (k1 := k0 + 4) (n1 := s0 + 24) (by first | omega | (simp only [jr]; omega)) (by first | omega | (simp only [jr]; omega)) (jv_sub [2, 3, 4, 5, 6] rfl (ih (x4 + Int32.ofInt (6)) _ _ _ _ _ (by omega) (by omega) H))
          · have h945 : v909 = 0 := h945
            have H := (if_pos h945).symm.trans H
            refine jv_aload_n 5 (pc := 948) d_LW_law_948 rfl ?_
            refine jv_iconst 0 (pc := 949) d_LW_law_949 rfl ?_
            refine jv_lald (pc := 950) d_LW_law_950 (by decide) rfl jin01 ?_
            refine jv_iload 0 (pc := 951) d_LW_law_951 rfl ?_
            refine jv_i2l (pc := 953) d_LW_law_953 ?_
            refine jv_lcmp (pc := 954) d_LW_law_954 ?_
            refine jv_if_eq 960 (pc := 955) d_LW_law_955 rfl (fun h955 => ?_) (fun h955 => ?_)
            · have h955 : (lg_cmp ((n927 47 ((0 : Int32).toNatClampNeg)).toInt64) v927.toInt64) = 0 := h955
              have H := (if_pos h955).symm.trans H
              refine jv_goto 1410 (pc := 960) d_LW_law_960 rfl ?_
              refine jv_iinc 6 _ (pc := 1410) d_LW_law_1410 rfl rfl (by decide) (jst6 rfl) ?_
              refine jv_goto 23 (pc := 1413) d_LW_law_1413 rfl ?_
              exact jv_wide (k1 := k0 + 4) (n1 := s0 + 24) (by first | omega | (simp only [jr]; omega)) (by first | omega | (simp only [jr]; omega)) (jv_sub [2, 3, 4, 5, 6] rfl (ih (x4 + Int32.ofInt (6)) _ _ _ _ _ (by omega) (by omega) H))
            · have h955 : ¬ ((lg_cmp ((n927 47 ((0 : Int32).toNatClampNeg)).toInt64) v927.toInt64) = 0) := h955
              have H := (if_neg h955).symm.trans H
              refine jv_iconst 0 (pc := 958) d_LW_law_958 rfl ?_
              refine jv_iret (pc := 959) d_LW_law_959 rfl rfl (by (simp only [jr, room_1]; omega)) (by (simp only [jr, room_1]; omega)) ?_
              cases H
              exact jI.of ⟨rfl, rfl⟩
        · have h938 : ¬ ((f_MO_thrown n927) = v909) := h938
          have H := (if_neg h938).symm.trans H
          refine jv_iconst 0 (pc := 941) d_LW_law_941 rfl ?_
          refine jv_iret (pc := 942) d_LW_law_942 rfl rfl (by (simp only [jr, room_1]; omega)) (by (simp only [jr, room_1]; omega)) ?_
          cases H
          exact jI.of ⟨rfl, rfl⟩
      have H := (if_neg h40_14).symm.trans H
      by_cases h40_15 : ((G.xs x4.toNatClampNeg) &&& (31 : Int32)) = 15
      · have H := (if_pos h40_15).symm.trans H
        refine jv_tin 963 (pc := 40) d_LW_law_40 (by rw [h40_15]; decide) (by rw [h40_15]; decide) (by rw [h40_15]; rfl) rfl ?_
        refine jv_aload_n 1 (pc := 963) d_LW_law_963 rfl ?_
        refine jv_aload_n 0 (pc := 964) d_LW_law_964 rfl ?_
        refine jv_iload 4 (pc := 965) d_LW_law_965 rfl ?_
        refine jv_iconst 1 (pc := 967) d_LW_law_967 rfl ?_
        refine jv_iadd (pc := 968) d_LW_law_968 ?_
        obtain ⟨b969, H⟩ := jck_some H
        refine jv_sald (pc := 969) d_LW_law_969 b969 ?_
        refine jv_aload_n 3 (pc := 970) d_LW_law_970 rfl ?_
        obtain ⟨v971, n971, c971, H⟩ := jbd_some H
        refine jv_callSH (sp_LW_learn (G.xs (x4 + (1 : Int32)).toNatClampNeg) htr c971) (pc := 971) d_LW_law_971 (by decide) cw_LW_learn (jin1 0 rfl rfl) ⟨by decide, by decide⟩ pn_LW_learn (jin3 120 rfl rfl) si_LW_learn rfl (Nat.le_of_ble_eq_true rfl) ⟨by decide, by decide, by (simp only [jr, room_1]; omega), by (simp only [jr, room_1]; omega)⟩ (fun r971 m971 h971 => ?_)
        obtain ⟨ha971, hb971⟩ := h971
        have ha971 := ha971.symm
        subst ha971
        have hb971 := hb971.symm
        subst hb971
        refine jv_istore (pc := 974) d_LW_law_974 (by decide) (jsto_new rfl) ?_
        refine jv_aload_n 3 (pc := 976) d_LW_law_976 rfl ?_
        refine jv_aload_n 1 (pc := 977) d_LW_law_977 rfl ?_
        refine jv_iload 5 (pc := 978) d_LW_law_978 rfl ?_
        refine jv_iconst 1 (pc := 980) d_LW_law_980 rfl ?_
        refine jv_iadd (pc := 981) d_LW_law_981 ?_
        obtain ⟨b982, H⟩ := jck_some H
        refine jv_sald (pc := 982) d_LW_law_982 b982 ?_
        obtain ⟨v983, n983, c983, H⟩ := jbd_some H
        refine jv_callVi (sp_MO_learn (G.xs (x4 + (1 : Int32)).toNatClampNeg) c983) (pc := 983) d_LW_law_983 c0_MO_learn lk_LW_144 in_MO_learn se_MO_learn (by decide) rfl rfl rfl (Nat.le_of_ble_eq_true rfl) ⟨by decide, by decide, by (simp only [jr, room_1]; omega), by (simp only [jr, room_1]; omega)⟩ (fun r983 m983 h983 => ?_)
        obtain ⟨ha983, hb983⟩ := h983
        have ha983 := ha983.symm
        subst ha983
        have hb983 := hb983.symm
        subst hb983
        refine jv_istore (pc := 986) d_LW_law_986 (by decide) (jsto_new rfl) ?_
        refine jv_aload_n 4 (pc := 988) d_LW_law_988 rfl ?_
        refine jv_callVi (sp_MO_thrown) (pc := 989) d_LW_law_989 c0_MO_thrown lk_LW_82 in_MO_thrown se_MO_thrown (by decide) rfl rfl rfl (Nat.le_of_ble_eq_true rfl) ⟨by decide, by decide, by (simp only [jr, room_1]; omega), by (simp only [jr, room_1]; omega)⟩ (fun r989 m989 h989 => ?_)
        obtain ⟨ha989, hb989⟩ := h989
        subst ha989
        have hb989 := hb989.symm
        subst hb989
        refine jv_iload 1 (pc := 992) d_LW_law_992 rfl ?_
        refine jv_icmp_eq 999 (pc := 994) d_LW_law_994 rfl (fun h994 => ?_) (fun h994 => ?_)
        · have h994 : (f_MO_thrown n983) = v971 := h994
          have H := (if_pos h994).symm.trans H
          refine jv_iload 1 (pc := 999) d_LW_law_999 rfl ?_
          refine jv_if_ne 1016 (pc := 1001) d_LW_law_1001 rfl (fun h1001 => ?_) (fun h1001 => ?_)
          · have h1001 : ¬ (v971 = 0) := h1001
            have H := (if_neg h1001).symm.trans H
            refine jv_goto 1410 (pc := 1016) d_LW_law_1016 rfl ?_
            refine jv_iinc 6 _ (pc := 1410) d_LW_law_1410 rfl rfl (by decide) (jst6 rfl) ?_
            refine jv_goto 23 (pc := 1413) d_LW_law_1413 rfl ?_
            exact jv_wide (k1 := k0 + 4) (n1 := s0 + 24) (by first | omega | (simp only [jr]; omega)) (by first | omega | (simp only [jr]; omega)) (jv_sub [2, 3, 4, 5, 6] rfl (ih (x4 + Int32.ofInt (6)) _ _ _ _ _ (by omega) (by omega) H))
          · have h1001 : v971 = 0 := h1001
            have H := (if_pos h1001).symm.trans H
            refine jv_aload_n 5 (pc := 1004) d_LW_law_1004 rfl ?_
            refine jv_iconst 0 (pc := 1005) d_LW_law_1005 rfl ?_
            refine jv_lald (pc := 1006) d_LW_law_1006 (by decide) rfl jin01 ?_
            refine jv_iload 0 (pc := 1007) d_LW_law_1007 rfl ?_
            refine jv_i2l (pc := 1009) d_LW_law_1009 ?_
            refine jv_lcmp (pc := 1010) d_LW_law_1010 ?_
            refine jv_if_eq 1016 (pc := 1011) d_LW_law_1011 rfl (fun h1011 => ?_) (fun h1011 => ?_)
            · have h1011 : (lg_cmp ((n983 47 ((0 : Int32).toNatClampNeg)).toInt64) v983.toInt64) = 0 := h1011
              have H := (if_pos h1011).symm.trans H
              refine jv_goto 1410 (pc := 1016) d_LW_law_1016 rfl ?_
              refine jv_iinc 6 _ (pc := 1410) d_LW_law_1410 rfl rfl (by decide) (jst6 rfl) ?_
              refine jv_goto 23 (pc := 1413) d_LW_law_1413 rfl ?_
              exact jv_wide (k1 := k0 + 4) (n1 := s0 + 24) (by first | omega | (simp only [jr]; omega)) (by first | omega | (simp only [jr]; omega)) (jv_sub [2, 3, 4, 5, 6] rfl (ih (x4 + Int32.ofInt (6)) _ _ _ _ _ (by omega) (by omega) H))
            · have h1011 : ¬ ((lg_cmp ((n983 47 ((0 : Int32).toNatClampNeg)).toInt64) v983.toInt64) = 0) := h1011
              have H := (if_neg h1011).symm.trans H
              refine jv_iconst 0 (pc := 1014) d_LW_law_1014 rfl ?_
              refine jv_iret (pc := 1015) d_LW_law_1015 rfl rfl (by (simp only [jr, room_1]; omega)) (by (simp only [jr, room_1]; omega)) ?_
              cases H
              exact jI.of ⟨rfl, rfl⟩
        · have h994 : ¬ ((f_MO_thrown n983) = v971) := h994
          have H := (if_neg h994).symm.trans H
          refine jv_iconst 0 (pc := 997) d_LW_law_997 rfl ?_
          refine jv_iret (pc := 998) d_LW_law_998 rfl rfl (by (simp only [jr, room_1]; omega)) (by (simp only [jr, room_1]; omega)) ?_
          cases H
          exact jI.of ⟨rfl, rfl⟩
      have H := (if_neg h40_15).symm.trans H
      by_cases h40_16 : ((G.xs x4.toNatClampNeg) &&& (31 : Int32)) = 16
      · have H := (if_pos h40_16).symm.trans H
        refine jv_tin 1019 (pc := 40) d_LW_law_40 (by rw [h40_16]; decide) (by rw [h40_16]; decide) (by rw [h40_16]; rfl) rfl ?_
        refine jv_aload_n 1 (pc := 1019) d_LW_law_1019 rfl ?_
        obtain ⟨_, n1020, c1020, H⟩ := jbd_some H
        refine jv_callVv (sp_IC_forget c1020) (pc := 1020) d_LW_law_1020 c0_IC_forget lk_LW_145 in_IC_forget se_IC_forget (by decide) rfl rfl rfl (Nat.le_of_ble_eq_true rfl) ⟨by decide, by decide, by (simp only [jr, room_1]; omega), by (simp only [jr, room_1]; omega)⟩ (fun m1020 h1020 => ?_)
        have hb1020 := h1020
        have hb1020 := hb1020.symm
        subst hb1020
        refine jv_aload_n 2 (pc := 1023) d_LW_law_1023 rfl ?_
        refine jv_callVv (sp_MO_forget) (pc := 1024) d_LW_law_1024 c0_MO_forget lk_LW_148 in_MO_forget se_MO_forget (by decide) rfl rfl rfl (Nat.le_of_ble_eq_true rfl) ⟨by decide, by decide, by (simp only [jr, room_1]; omega), by (simp only [jr, room_1]; omega)⟩ (fun m1024 h1024 => ?_)
        have hb1024 := h1024
        have hb1024 := hb1024.symm
        subst hb1024
        refine jv_goto 1410 (pc := 1027) d_LW_law_1027 rfl ?_
        refine jv_iinc 4 _ (pc := 1410) d_LW_law_1410 rfl rfl (by decide) (jst4 rfl) ?_
        refine jv_goto 23 (pc := 1413) d_LW_law_1413 rfl ?_
        exact jv_wide (k1 := k0 + 4) (n1 := s0 + 24) (by first | omega | (simp only [jr]; omega)) (by first | omega | (simp only [jr]; omega)) (jv_sub [0, 1, 2, 3, 4] rfl (ih (x4 + Int32.ofInt (6)) _ _ _ _ _ (by omega) (by omega) H))
      have H := (if_neg h40_16).symm.trans H
      by_cases h40_17 : ((G.xs x4.toNatClampNeg) &&& (31 : Int32)) = 17
      · have H := (if_pos h40_17).symm.trans H
        refine jv_tin 1030 (pc := 40) d_LW_law_40 (by rw [h40_17]; decide) (by rw [h40_17]; decide) (by rw [h40_17]; rfl) rfl ?_
        refine jv_aload_n 1 (pc := 1030) d_LW_law_1030 rfl ?_
        refine jv_aload_n 0 (pc := 1031) d_LW_law_1031 rfl ?_
        refine jv_iload 4 (pc := 1032) d_LW_law_1032 rfl ?_
        refine jv_iconst 1 (pc := 1034) d_LW_law_1034 rfl ?_
        refine jv_iadd (pc := 1035) d_LW_law_1035 ?_
        obtain ⟨b1036, H⟩ := jck_some H
        refine jv_sald (pc := 1036) d_LW_law_1036 b1036 ?_
        refine jv_aload_n 0 (pc := 1037) d_LW_law_1037 rfl ?_
        refine jv_iload 4 (pc := 1038) d_LW_law_1038 rfl ?_
        refine jv_iconst 2 (pc := 1040) d_LW_law_1040 rfl ?_
        refine jv_iadd (pc := 1041) d_LW_law_1041 ?_
        obtain ⟨b1042, H⟩ := jck_some H
        refine jv_sald (pc := 1042) d_LW_law_1042 b1042 ?_
        refine jv_aload_n 0 (pc := 1043) d_LW_law_1043 rfl ?_
        refine jv_iload 4 (pc := 1044) d_LW_law_1044 rfl ?_
        refine jv_iconst 3 (pc := 1046) d_LW_law_1046 rfl ?_
        refine jv_iadd (pc := 1047) d_LW_law_1047 ?_
        obtain ⟨b1048, H⟩ := jck_some H
        refine jv_sald (pc := 1048) d_LW_law_1048 b1048 ?_
        refine jv_aload_n 3 (pc := 1049) d_LW_law_1049 rfl ?_
        obtain ⟨v1050, n1050, c1050, H⟩ := jbd_some H
        refine jv_callSH (sp_LW_mark (G.xs (x4 + (1 : Int32)).toNatClampNeg) (G.xs (x4 + (2 : Int32)).toNatClampNeg) (G.xs (x4 + (3 : Int32)).toNatClampNeg) htr c1050) (pc := 1050) d_LW_law_1050 (by decide) cw_LW_mark (jin1 0 rfl rfl) ⟨by decide, by decide⟩ pn_LW_mark (jin3 150 rfl rfl) si_LW_mark rfl (Nat.le_of_ble_eq_true rfl) ⟨by decide, by decide, by (simp only [jr, room_1]; omega), by (simp only [jr, room_1]; omega)⟩ (fun r1050 m1050 h1050 => ?_)
        obtain ⟨ha1050, hb1050⟩ := h1050
        have ha1050 := ha1050.symm
        subst ha1050
        have hb1050 := hb1050.symm
        subst hb1050
        refine jv_istore (pc := 1053) d_LW_law_1053 (by decide) (jsto_new rfl) ?_
        refine jv_aload_n 3 (pc := 1055) d_LW_law_1055 rfl ?_
        refine jv_aload_n 1 (pc := 1056) d_LW_law_1056 rfl ?_
        refine jv_iload 5 (pc := 1057) d_LW_law_1057 rfl ?_
        refine jv_iconst 1 (pc := 1059) d_LW_law_1059 rfl ?_
        refine jv_iadd (pc := 1060) d_LW_law_1060 ?_
        obtain ⟨b1061, H⟩ := jck_some H
        refine jv_sald (pc := 1061) d_LW_law_1061 b1061 ?_
        refine jv_aload_n 1 (pc := 1062) d_LW_law_1062 rfl ?_
        refine jv_iload 5 (pc := 1063) d_LW_law_1063 rfl ?_
        refine jv_iconst 2 (pc := 1065) d_LW_law_1065 rfl ?_
        refine jv_iadd (pc := 1066) d_LW_law_1066 ?_
        obtain ⟨b1067, H⟩ := jck_some H
        refine jv_sald (pc := 1067) d_LW_law_1067 b1067 ?_
        refine jv_aload_n 1 (pc := 1068) d_LW_law_1068 rfl ?_
        refine jv_iload 5 (pc := 1069) d_LW_law_1069 rfl ?_
        refine jv_iconst 3 (pc := 1071) d_LW_law_1071 rfl ?_
        refine jv_iadd (pc := 1072) d_LW_law_1072 ?_
        obtain ⟨b1073, H⟩ := jck_some H
        refine jv_sald (pc := 1073) d_LW_law_1073 b1073 ?_
        obtain ⟨v1074, n1074, c1074, H⟩ := jbd_some H
        refine jv_callVi (sp_MO_mark (G.xs (x4 + (1 : Int32)).toNatClampNeg) (G.xs (x4 + (2 : Int32)).toNatClampNeg) (G.xs (x4 + (3 : Int32)).toNatClampNeg) c1074) (pc := 1074) d_LW_law_1074 c0_MO_mark lk_LW_151 in_MO_mark se_MO_mark (by decide) rfl rfl rfl (Nat.le_of_ble_eq_true rfl) ⟨by decide, by decide, by (simp only [jr, room_1]; omega), by (simp only [jr, room_1]; omega)⟩ (fun r1074 m1074 h1074 => ?_)
        obtain ⟨ha1074, hb1074⟩ := h1074
        have ha1074 := ha1074.symm
        subst ha1074
        have hb1074 := hb1074.symm
        subst hb1074
        refine jv_istore (pc := 1077) d_LW_law_1077 (by decide) (jsto_new rfl) ?_
        refine jv_aload_n 4 (pc := 1079) d_LW_law_1079 rfl ?_
        refine jv_callVi (sp_MO_thrown) (pc := 1080) d_LW_law_1080 c0_MO_thrown lk_LW_82 in_MO_thrown se_MO_thrown (by decide) rfl rfl rfl (Nat.le_of_ble_eq_true rfl) ⟨by decide, by decide, by (simp only [jr, room_1]; omega), by (simp only [jr, room_1]; omega)⟩ (fun r1080 m1080 h1080 => ?_)
        obtain ⟨ha1080, hb1080⟩ := h1080
        subst ha1080
        have hb1080 := hb1080.symm
        subst hb1080
        refine jv_iload 1 (pc := 1083) d_LW_law_1083 rfl ?_
        refine jv_icmp_eq 1090 (pc := 1085) d_LW_law_1085 rfl (fun h1085 => ?_) (fun h1085 => ?_)
        · have h1085 : (f_MO_thrown n1074) = v1050 := h1085
          have H := (if_pos h1085).symm.trans H
          refine jv_iload 1 (pc := 1090) d_LW_law_1090 rfl ?_
          refine jv_if_ne 1107 (pc := 1092) d_LW_law_1092 rfl (fun h1092 => ?_) (fun h1092 => ?_)
          · have h1092 : ¬ (v1050 = 0) := h1092
            have H := (if_neg h1092).symm.trans H
            refine jv_goto 1410 (pc := 1107) d_LW_law_1107 rfl ?_
            refine jv_iinc 6 _ (pc := 1410) d_LW_law_1410 rfl rfl (by decide) (jst6 rfl) ?_
            refine jv_goto 23 (pc := 1413) d_LW_law_1413 rfl ?_
            exact jv_wide (k1 := k0 + 4) (n1 := s0 + 24) (by first | omega | (simp only [jr]; omega)) (by first | omega | (simp only [jr]; omega)) (jv_sub [2, 3, 4, 5, 6] rfl (ih (x4 + Int32.ofInt (6)) _ _ _ _ _ (by omega) (by omega) H))
          · have h1092 : v1050 = 0 := h1092
            have H := (if_pos h1092).symm.trans H
            refine jv_aload_n 5 (pc := 1095) d_LW_law_1095 rfl ?_
            refine jv_iconst 0 (pc := 1096) d_LW_law_1096 rfl ?_
            refine jv_lald (pc := 1097) d_LW_law_1097 (by decide) rfl jin01 ?_
            refine jv_iload 0 (pc := 1098) d_LW_law_1098 rfl ?_
            refine jv_i2l (pc := 1100) d_LW_law_1100 ?_
            refine jv_lcmp (pc := 1101) d_LW_law_1101 ?_
            refine jv_if_eq 1107 (pc := 1102) d_LW_law_1102 rfl (fun h1102 => ?_) (fun h1102 => ?_)
            · have h1102 : (lg_cmp ((n1074 47 ((0 : Int32).toNatClampNeg)).toInt64) v1074.toInt64) = 0 := h1102
              have H := (if_pos h1102).symm.trans H
              refine jv_goto 1410 (pc := 1107) d_LW_law_1107 rfl ?_
              refine jv_iinc 6 _ (pc := 1410) d_LW_law_1410 rfl rfl (by decide) (jst6 rfl) ?_
              refine jv_goto 23 (pc := 1413) d_LW_law_1413 rfl ?_
              exact jv_wide (k1 := k0 + 4) (n1 := s0 + 24) (by first | omega | (simp only [jr]; omega)) (by first | omega | (simp only [jr]; omega)) (jv_sub [2, 3, 4, 5, 6] rfl (ih (x4 + Int32.ofInt (6)) _ _ _ _ _ (by omega) (by omega) H))
            · have h1102 : ¬ ((lg_cmp ((n1074 47 ((0 : Int32).toNatClampNeg)).toInt64) v1074.toInt64) = 0) := h1102
              have H := (if_neg h1102).symm.trans H
              refine jv_iconst 0 (pc := 1105) d_LW_law_1105 rfl ?_
              refine jv_iret (pc := 1106) d_LW_law_1106 rfl rfl (by (simp only [jr, room_1]; omega)) (by (simp only [jr, room_1]; omega)) ?_
              cases H
              exact jI.of ⟨rfl, rfl⟩
        · have h1085 : ¬ ((f_MO_thrown n1074) = v1050) := h1085
          have H := (if_neg h1085).symm.trans H
          refine jv_iconst 0 (pc := 1088) d_LW_law_1088 rfl ?_
          refine jv_iret (pc := 1089) d_LW_law_1089 rfl rfl (by (simp only [jr, room_1]; omega)) (by (simp only [jr, room_1]; omega)) ?_
          cases H
          exact jI.of ⟨rfl, rfl⟩
      have H := (if_neg h40_17).symm.trans H
      by_cases h40_18 : ((G.xs x4.toNatClampNeg) &&& (31 : Int32)) = 18
      · have H := (if_pos h40_18).symm.trans H
        refine jv_tin 1110 (pc := 40) d_LW_law_40 (by rw [h40_18]; decide) (by rw [h40_18]; decide) (by rw [h40_18]; rfl) rfl ?_
        refine jv_aload_n 1 (pc := 1110) d_LW_law_1110 rfl ?_
        refine jv_aload_n 0 (pc := 1111) d_LW_law_1111 rfl ?_
        refine jv_iload 4 (pc := 1112) d_LW_law_1112 rfl ?_
        refine jv_iconst 1 (pc := 1114) d_LW_law_1114 rfl ?_
        refine jv_iadd (pc := 1115) d_LW_law_1115 ?_
        obtain ⟨b1116, H⟩ := jck_some H
        refine jv_sald (pc := 1116) d_LW_law_1116 b1116 ?_
        refine jv_aload_n 0 (pc := 1117) d_LW_law_1117 rfl ?_
        refine jv_iload 4 (pc := 1118) d_LW_law_1118 rfl ?_
        refine jv_iconst 2 (pc := 1120) d_LW_law_1120 rfl ?_
        refine jv_iadd (pc := 1121) d_LW_law_1121 ?_
        obtain ⟨b1122, H⟩ := jck_some H
        refine jv_sald (pc := 1122) d_LW_law_1122 b1122 ?_
        refine jv_aload_n 0 (pc := 1123) d_LW_law_1123 rfl ?_
        refine jv_iload 4 (pc := 1124) d_LW_law_1124 rfl ?_
        refine jv_iconst 3 (pc := 1126) d_LW_law_1126 rfl ?_
        refine jv_iadd (pc := 1127) d_LW_law_1127 ?_
        obtain ⟨b1128, H⟩ := jck_some H
        refine jv_sald (pc := 1128) d_LW_law_1128 b1128 ?_
        refine jv_aload_n 3 (pc := 1129) d_LW_law_1129 rfl ?_
        obtain ⟨v1130, n1130, c1130, H⟩ := jbd_some H
        refine jv_callSH (sp_LW_symbol (G.xs (x4 + (1 : Int32)).toNatClampNeg) (G.xs (x4 + (2 : Int32)).toNatClampNeg) (G.xs (x4 + (3 : Int32)).toNatClampNeg) htr c1130) (pc := 1130) d_LW_law_1130 (by decide) cw_LW_symbol (jin1 0 rfl rfl) ⟨by decide, by decide⟩ pn_LW_symbol (jin3 173 rfl rfl) si_LW_symbol rfl (Nat.le_of_ble_eq_true rfl) ⟨by decide, by decide, by (simp only [jr, room_1]; omega), by (simp only [jr, room_1]; omega)⟩ (fun r1130 m1130 h1130 => ?_)
        obtain ⟨ha1130, hb1130⟩ := h1130
        have ha1130 := ha1130.symm
        subst ha1130
        have hb1130 := hb1130.symm
        subst hb1130
        refine jv_istore (pc := 1133) d_LW_law_1133 (by decide) (jsto_new rfl) ?_
        refine jv_aload_n 3 (pc := 1135) d_LW_law_1135 rfl ?_
        refine jv_aload_n 1 (pc := 1136) d_LW_law_1136 rfl ?_
        refine jv_iload 5 (pc := 1137) d_LW_law_1137 rfl ?_
        refine jv_iconst 1 (pc := 1139) d_LW_law_1139 rfl ?_
        refine jv_iadd (pc := 1140) d_LW_law_1140 ?_
        obtain ⟨b1141, H⟩ := jck_some H
        refine jv_sald (pc := 1141) d_LW_law_1141 b1141 ?_
        refine jv_aload_n 1 (pc := 1142) d_LW_law_1142 rfl ?_
        refine jv_iload 5 (pc := 1143) d_LW_law_1143 rfl ?_
        refine jv_iconst 2 (pc := 1145) d_LW_law_1145 rfl ?_
        refine jv_iadd (pc := 1146) d_LW_law_1146 ?_
        obtain ⟨b1147, H⟩ := jck_some H
        refine jv_sald (pc := 1147) d_LW_law_1147 b1147 ?_
        refine jv_aload_n 1 (pc := 1148) d_LW_law_1148 rfl ?_
        refine jv_iload 5 (pc := 1149) d_LW_law_1149 rfl ?_
        refine jv_iconst 3 (pc := 1151) d_LW_law_1151 rfl ?_
        refine jv_iadd (pc := 1152) d_LW_law_1152 ?_
        obtain ⟨b1153, H⟩ := jck_some H
        refine jv_sald (pc := 1153) d_LW_law_1153 b1153 ?_
        obtain ⟨v1154, n1154, c1154, H⟩ := jbd_some H
        refine jv_callVi (sp_MO_symbol (G.xs (x4 + (1 : Int32)).toNatClampNeg) (G.xs (x4 + (2 : Int32)).toNatClampNeg) (G.xs (x4 + (3 : Int32)).toNatClampNeg) c1154) (pc := 1154) d_LW_law_1154 c0_MO_symbol lk_LW_154 in_MO_symbol se_MO_symbol (by decide) rfl rfl rfl (Nat.le_of_ble_eq_true rfl) ⟨by decide, by decide, by (simp only [jr, room_1]; omega), by (simp only [jr, room_1]; omega)⟩ (fun r1154 m1154 h1154 => ?_)
        obtain ⟨ha1154, hb1154⟩ := h1154
        have ha1154 := ha1154.symm
        subst ha1154
        have hb1154 := hb1154.symm
        subst hb1154
        refine jv_istore (pc := 1157) d_LW_law_1157 (by decide) (jsto_new rfl) ?_
        refine jv_aload_n 4 (pc := 1159) d_LW_law_1159 rfl ?_
        refine jv_callVi (sp_MO_thrown) (pc := 1160) d_LW_law_1160 c0_MO_thrown lk_LW_82 in_MO_thrown se_MO_thrown (by decide) rfl rfl rfl (Nat.le_of_ble_eq_true rfl) ⟨by decide, by decide, by (simp only [jr, room_1]; omega), by (simp only [jr, room_1]; omega)⟩ (fun r1160 m1160 h1160 => ?_)
        obtain ⟨ha1160, hb1160⟩ := h1160
        subst ha1160
        have hb1160 := hb1160.symm
        subst hb1160
        refine jv_iload 1 (pc := 1163) d_LW_law_1163 rfl ?_
        refine jv_icmp_eq 1170 (pc := 1165) d_LW_law_1165 rfl (fun h1165 => ?_) (fun h1165 => ?_)
        · have h1165 : (f_MO_thrown n1154) = v1130 := h1165
          have H := (if_pos h1165).symm.trans H
          refine jv_iload 1 (pc := 1170) d_LW_law_1170 rfl ?_
          refine jv_if_ne 1187 (pc := 1172) d_LW_law_1172 rfl (fun h1172 => ?_) (fun h1172 => ?_)
          · have h1172 : ¬ (v1130 = 0) := h1172
            have H := (if_neg h1172).symm.trans H
            refine jv_goto 1410 (pc := 1187) d_LW_law_1187 rfl ?_
            refine jv_iinc 6 _ (pc := 1410) d_LW_law_1410 rfl rfl (by decide) (jst6 rfl) ?_
            refine jv_goto 23 (pc := 1413) d_LW_law_1413 rfl ?_
            exact jv_wide (k1 := k0 + 4) (n1 := s0 + 24) (by first | omega | (simp only [jr]; omega)) (by first | omega | (simp only [jr]; omega)) (jv_sub [2, 3, 4, 5, 6] rfl (ih (x4 + Int32.ofInt (6)) _ _ _ _ _ (by omega) (by omega) H))
          · have h1172 : v1130 = 0 := h1172
            have H := (if_pos h1172).symm.trans H
            refine jv_aload_n 5 (pc := 1175) d_LW_law_1175 rfl ?_
            refine jv_iconst 0 (pc := 1176) d_LW_law_1176 rfl ?_
            refine jv_lald (pc := 1177) d_LW_law_1177 (by decide) rfl jin01 ?_
            refine jv_iload 0 (pc := 1178) d_LW_law_1178 rfl ?_
            refine jv_i2l (pc := 1180) d_LW_law_1180 ?_
            refine jv_lcmp (pc := 1181) d_LW_law_1181 ?_
            refine jv_if_eq 1187 (pc := 1182) d_LW_law_1182 rfl (fun h1182 => ?_) (fun h1182 => ?_)
            · have h1182 : (lg_cmp ((n1154 47 ((0 : Int32).toNatClampNeg)).toInt64) v1154.toInt64) = 0 := h1182
              have H := (if_pos h1182).symm.trans H
              refine jv_goto 1410 (pc := 1187) d_LW_law_1187 rfl ?_
              refine jv_iinc 6 _ (pc := 1410) d_LW_law_1410 rfl rfl (by decide) (jst6 rfl) ?_
              refine jv_goto 23 (pc := 1413) d_LW_law_1413 rfl ?_
              exact jv_wide (k1 := k0 + 4) (n1 := s0 + 24) (by first | omega | (simp only [jr]; omega)) (by first | omega | (simp only [jr]; omega)) (jv_sub [2, 3, 4, 5, 6] rfl (ih (x4 + Int32.ofInt (6)) _ _ _ _ _ (by omega) (by omega) H))
            · have h1182 : ¬ ((lg_cmp ((n1154 47 ((0 : Int32).toNatClampNeg)).toInt64) v1154.toInt64) = 0) := h1182
              have H := (if_neg h1182).symm.trans H
              refine jv_iconst 0 (pc := 1185) d_LW_law_1185 rfl ?_
              refine jv_iret (pc := 1186) d_LW_law_1186 rfl rfl (by (simp only [jr, room_1]; omega)) (by (simp only [jr, room_1]; omega)) ?_
              cases H
              exact jI.of ⟨rfl, rfl⟩
        · have h1165 : ¬ ((f_MO_thrown n1154) = v1130) := h1165
          have H := (if_neg h1165).symm.trans H
          refine jv_iconst 0 (pc := 1168) d_LW_law_1168 rfl ?_
          refine jv_iret (pc := 1169) d_LW_law_1169 rfl rfl (by (simp only [jr, room_1]; omega)) (by (simp only [jr, room_1]; omega)) ?_
          cases H
          exact jI.of ⟨rfl, rfl⟩
      have H := (if_neg h40_18).symm.trans H
      by_cases h40_19 : ((G.xs x4.toNatClampNeg) &&& (31 : Int32)) = 19
      · have H := (if_pos h40_19).symm.trans H
        refine jv_tin 1190 (pc := 40) d_LW_law_40 (by rw [h40_19]; decide) (by rw [h40_19]; decide) (by rw [h40_19]; rfl) rfl ?_
        refine jv_aload_n 1 (pc := 1190) d_LW_law_1190 rfl ?_
        refine jv_aload_n 0 (pc := 1191) d_LW_law_1191 rfl ?_
        refine jv_iload 4 (pc := 1192) d_LW_law_1192 rfl ?_
        refine jv_iconst 1 (pc := 1194) d_LW_law_1194 rfl ?_
        refine jv_iadd (pc := 1195) d_LW_law_1195 ?_
        obtain ⟨b1196, H⟩ := jck_some H
        refine jv_sald (pc := 1196) d_LW_law_1196 b1196 ?_
        refine jv_aload_n 0 (pc := 1197) d_LW_law_1197 rfl ?_
        refine jv_iload 4 (pc := 1198) d_LW_law_1198 rfl ?_
        refine jv_iconst 2 (pc := 1200) d_LW_law_1200 rfl ?_
        refine jv_iadd (pc := 1201) d_LW_law_1201 ?_
        obtain ⟨b1202, H⟩ := jck_some H
        refine jv_sald (pc := 1202) d_LW_law_1202 b1202 ?_
        refine jv_aload_n 3 (pc := 1203) d_LW_law_1203 rfl ?_
        obtain ⟨v1204, n1204, c1204, H⟩ := jbd_some H
        refine jv_callSH (sp_LW_marked (G.xs (x4 + (1 : Int32)).toNatClampNeg) (G.xs (x4 + (2 : Int32)).toNatClampNeg) htr c1204) (pc := 1204) d_LW_law_1204 (by decide) cw_LW_marked (jin1 0 rfl rfl) ⟨by decide, by decide⟩ pn_LW_marked (jin3 180 rfl rfl) si_LW_marked rfl (Nat.le_of_ble_eq_true rfl) ⟨by decide, by decide, by (simp only [jr, room_1]; omega), by (simp only [jr, room_1]; omega)⟩ (fun r1204 m1204 h1204 => ?_)
        obtain ⟨ha1204, hb1204⟩ := h1204
        have ha1204 := ha1204.symm
        subst ha1204
        have hb1204 := hb1204.symm
        subst hb1204
        refine jv_istore (pc := 1207) d_LW_law_1207 (by decide) (jsto_new rfl) ?_
        refine jv_aload_n 3 (pc := 1209) d_LW_law_1209 rfl ?_
        refine jv_aload_n 1 (pc := 1210) d_LW_law_1210 rfl ?_
        refine jv_iload 5 (pc := 1211) d_LW_law_1211 rfl ?_
        refine jv_iconst 1 (pc := 1213) d_LW_law_1213 rfl ?_
        refine jv_iadd (pc := 1214) d_LW_law_1214 ?_
        obtain ⟨b1215, H⟩ := jck_some H
        refine jv_sald (pc := 1215) d_LW_law_1215 b1215 ?_
        refine jv_aload_n 1 (pc := 1216) d_LW_law_1216 rfl ?_
        refine jv_iload 5 (pc := 1217) d_LW_law_1217 rfl ?_
        refine jv_iconst 2 (pc := 1219) d_LW_law_1219 rfl ?_
        refine jv_iadd (pc := 1220) d_LW_law_1220 ?_
        obtain ⟨b1221, H⟩ := jck_some H
        refine jv_sald (pc := 1221) d_LW_law_1221 b1221 ?_
        obtain ⟨v1222, n1222, c1222, H⟩ := jbd_some H
        refine jv_callVi (sp_MO_marked (G.xs (x4 + (1 : Int32)).toNatClampNeg) (G.xs (x4 + (2 : Int32)).toNatClampNeg) c1222) (pc := 1222) d_LW_law_1222 c0_MO_marked lk_LW_157 in_MO_marked se_MO_marked (by decide) rfl rfl rfl (Nat.le_of_ble_eq_true rfl) ⟨by decide, by decide, by (simp only [jr, room_1]; omega), by (simp only [jr, room_1]; omega)⟩ (fun r1222 m1222 h1222 => ?_)
        obtain ⟨ha1222, hb1222⟩ := h1222
        have ha1222 := ha1222.symm
        subst ha1222
        have hb1222 := hb1222.symm
        subst hb1222
        refine jv_istore (pc := 1225) d_LW_law_1225 (by decide) (jsto_new rfl) ?_
        refine jv_aload_n 4 (pc := 1227) d_LW_law_1227 rfl ?_
        refine jv_callVi (sp_MO_thrown) (pc := 1228) d_LW_law_1228 c0_MO_thrown lk_LW_82 in_MO_thrown se_MO_thrown (by decide) rfl rfl rfl (Nat.le_of_ble_eq_true rfl) ⟨by decide, by decide, by (simp only [jr, room_1]; omega), by (simp only [jr, room_1]; omega)⟩ (fun r1228 m1228 h1228 => ?_)
        obtain ⟨ha1228, hb1228⟩ := h1228
        subst ha1228
        have hb1228 := hb1228.symm
        subst hb1228
        refine jv_iload 1 (pc := 1231) d_LW_law_1231 rfl ?_
        refine jv_icmp_eq 1238 (pc := 1233) d_LW_law_1233 rfl (fun h1233 => ?_) (fun h1233 => ?_)
        · have h1233 : (f_MO_thrown n1222) = v1204 := h1233
          have H := (if_pos h1233).symm.trans H
          refine jv_iload 1 (pc := 1238) d_LW_law_1238 rfl ?_
          refine jv_if_ne 1255 (pc := 1240) d_LW_law_1240 rfl (fun h1240 => ?_) (fun h1240 => ?_)
          · have h1240 : ¬ (v1204 = 0) := h1240
            have H := (if_neg h1240).symm.trans H
            refine jv_goto 1410 (pc := 1255) d_LW_law_1255 rfl ?_
            refine jv_iinc 6 _ (pc := 1410) d_LW_law_1410 rfl rfl (by decide) (jst6 rfl) ?_
            refine jv_goto 23 (pc := 1413) d_LW_law_1413 rfl ?_
            exact jv_wide (k1 := k0 + 4) (n1 := s0 + 24) (by first | omega | (simp only [jr]; omega)) (by first | omega | (simp only [jr]; omega)) (jv_sub [2, 3, 4, 5, 6] rfl (ih (x4 + Int32.ofInt (6)) _ _ _ _ _ (by omega) (by omega) H))
          · have h1240 : v1204 = 0 := h1240
            have H := (if_pos h1240).symm.trans H
            refine jv_aload_n 5 (pc := 1243) d_LW_law_1243 rfl ?_
            refine jv_iconst 0 (pc := 1244) d_LW_law_1244 rfl ?_
            refine jv_lald (pc := 1245) d_LW_law_1245 (by decide) rfl jin01 ?_
            refine jv_iload 0 (pc := 1246) d_LW_law_1246 rfl ?_
            refine jv_i2l (pc := 1248) d_LW_law_1248 ?_
            refine jv_lcmp (pc := 1249) d_LW_law_1249 ?_
            refine jv_if_eq 1255 (pc := 1250) d_LW_law_1250 rfl (fun h1250 => ?_) (fun h1250 => ?_)
            · have h1250 : (lg_cmp ((n1222 47 ((0 : Int32).toNatClampNeg)).toInt64) v1222.toInt64) = 0 := h1250
              have H := (if_pos h1250).symm.trans H
              refine jv_goto 1410 (pc := 1255) d_LW_law_1255 rfl ?_
              refine jv_iinc 6 _ (pc := 1410) d_LW_law_1410 rfl rfl (by decide) (jst6 rfl) ?_
              refine jv_goto 23 (pc := 1413) d_LW_law_1413 rfl ?_
              exact jv_wide (k1 := k0 + 4) (n1 := s0 + 24) (by first | omega | (simp only [jr]; omega)) (by first | omega | (simp only [jr]; omega)) (jv_sub [2, 3, 4, 5, 6] rfl (ih (x4 + Int32.ofInt (6)) _ _ _ _ _ (by omega) (by omega) H))
            · have h1250 : ¬ ((lg_cmp ((n1222 47 ((0 : Int32).toNatClampNeg)).toInt64) v1222.toInt64) = 0) := h1250
              have H := (if_neg h1250).symm.trans H
              refine jv_iconst 0 (pc := 1253) d_LW_law_1253 rfl ?_
              refine jv_iret (pc := 1254) d_LW_law_1254 rfl rfl (by (simp only [jr, room_1]; omega)) (by (simp only [jr, room_1]; omega)) ?_
              cases H
              exact jI.of ⟨rfl, rfl⟩
        · have h1233 : ¬ ((f_MO_thrown n1222) = v1204) := h1233
          have H := (if_neg h1233).symm.trans H
          refine jv_iconst 0 (pc := 1236) d_LW_law_1236 rfl ?_
          refine jv_iret (pc := 1237) d_LW_law_1237 rfl rfl (by (simp only [jr, room_1]; omega)) (by (simp only [jr, room_1]; omega)) ?_
          cases H
          exact jI.of ⟨rfl, rfl⟩
      have H := (if_neg h40_19).symm.trans H
      by_cases h40_20 : ((G.xs x4.toNatClampNeg) &&& (31 : Int32)) = 20
      · have H := (if_pos h40_20).symm.trans H
        refine jv_tin 1258 (pc := 40) d_LW_law_40 (by rw [h40_20]; decide) (by rw [h40_20]; decide) (by rw [h40_20]; rfl) rfl ?_
        refine jv_aload_n 1 (pc := 1258) d_LW_law_1258 rfl ?_
        refine jv_aload_n 3 (pc := 1259) d_LW_law_1259 rfl ?_
        obtain ⟨v1260, n1260, c1260, H⟩ := jbd_some H
        refine jv_callSH (sp_LW_dictionary htr c1260) (pc := 1260) d_LW_law_1260 (by decide) cw_LW_dictionary (jin1 0 rfl rfl) ⟨by decide, by decide⟩ pn_LW_dictionary (jin3 187 rfl rfl) si_LW_dictionary rfl (Nat.le_of_ble_eq_true rfl) ⟨by decide, by decide, by (simp only [jr, room_1]; omega), by (simp only [jr, room_1]; omega)⟩ (fun r1260 m1260 h1260 => ?_)
        obtain ⟨ha1260, hb1260⟩ := h1260
        have ha1260 := ha1260.symm
        subst ha1260
        have hb1260 := hb1260.symm
        subst hb1260
        refine jv_istore (pc := 1263) d_LW_law_1263 (by decide) (jsto_new rfl) ?_
        refine jv_aload_n 3 (pc := 1265) d_LW_law_1265 rfl ?_
        obtain ⟨v1266, n1266, c1266, H⟩ := jbd_some H
        refine jv_callVi (sp_MO_dictionary c1266) (pc := 1266) d_LW_law_1266 c0_MO_dictionary lk_LW_160 in_MO_dictionary se_MO_dictionary (by decide) rfl rfl rfl (Nat.le_of_ble_eq_true rfl) ⟨by decide, by decide, by (simp only [jr, room_1]; omega), by (simp only [jr, room_1]; omega)⟩ (fun r1266 m1266 h1266 => ?_)
        obtain ⟨ha1266, hb1266⟩ := h1266
        have ha1266 := ha1266.symm
        subst ha1266
        have hb1266 := hb1266.symm
        subst hb1266
        refine jv_istore (pc := 1269) d_LW_law_1269 (by decide) (jsto_new rfl) ?_
        refine jv_aload_n 4 (pc := 1271) d_LW_law_1271 rfl ?_
        refine jv_callVi (sp_MO_thrown) (pc := 1272) d_LW_law_1272 c0_MO_thrown lk_LW_82 in_MO_thrown se_MO_thrown (by decide) rfl rfl rfl (Nat.le_of_ble_eq_true rfl) ⟨by decide, by decide, by (simp only [jr, room_1]; omega), by (simp only [jr, room_1]; omega)⟩ (fun r1272 m1272 h1272 => ?_)
        obtain ⟨ha1272, hb1272⟩ := h1272
        subst ha1272
        have hb1272 := hb1272.symm
        subst hb1272
        refine jv_iload 1 (pc := 1275) d_LW_law_1275 rfl ?_
        refine jv_icmp_eq 1282 (pc := 1277) d_LW_law_1277 rfl (fun h1277 => ?_) (fun h1277 => ?_)
        · have h1277 : (f_MO_thrown n1266) = v1260 := h1277
          have H := (if_pos h1277).symm.trans H
          refine jv_iload 1 (pc := 1282) d_LW_law_1282 rfl ?_
          refine jv_if_ne 1299 (pc := 1284) d_LW_law_1284 rfl (fun h1284 => ?_) (fun h1284 => ?_)
          · have h1284 : ¬ (v1260 = 0) := h1284
            have H := (if_neg h1284).symm.trans H
            refine jv_goto 1410 (pc := 1299) d_LW_law_1299 rfl ?_
            refine jv_iinc 6 _ (pc := 1410) d_LW_law_1410 rfl rfl (by decide) (jst6 rfl) ?_
            refine jv_goto 23 (pc := 1413) d_LW_law_1413 rfl ?_
            exact jv_wide (k1 := k0 + 4) (n1 := s0 + 24) (by first | omega | (simp only [jr]; omega)) (by first | omega | (simp only [jr]; omega)) (jv_sub [2, 3, 4, 5, 6] rfl (ih (x4 + Int32.ofInt (6)) _ _ _ _ _ (by omega) (by omega) H))
          · have h1284 : v1260 = 0 := h1284
            have H := (if_pos h1284).symm.trans H
            refine jv_aload_n 5 (pc := 1287) d_LW_law_1287 rfl ?_
            refine jv_iconst 0 (pc := 1288) d_LW_law_1288 rfl ?_
            refine jv_lald (pc := 1289) d_LW_law_1289 (by decide) rfl jin01 ?_
            refine jv_iload 0 (pc := 1290) d_LW_law_1290 rfl ?_
            refine jv_i2l (pc := 1292) d_LW_law_1292 ?_
            refine jv_lcmp (pc := 1293) d_LW_law_1293 ?_
            refine jv_if_eq 1299 (pc := 1294) d_LW_law_1294 rfl (fun h1294 => ?_) (fun h1294 => ?_)
            · have h1294 : (lg_cmp ((n1266 47 ((0 : Int32).toNatClampNeg)).toInt64) v1266.toInt64) = 0 := h1294
              have H := (if_pos h1294).symm.trans H
              refine jv_goto 1410 (pc := 1299) d_LW_law_1299 rfl ?_
              refine jv_iinc 6 _ (pc := 1410) d_LW_law_1410 rfl rfl (by decide) (jst6 rfl) ?_
              refine jv_goto 23 (pc := 1413) d_LW_law_1413 rfl ?_
              exact jv_wide (k1 := k0 + 4) (n1 := s0 + 24) (by first | omega | (simp only [jr]; omega)) (by first | omega | (simp only [jr]; omega)) (jv_sub [2, 3, 4, 5, 6] rfl (ih (x4 + Int32.ofInt (6)) _ _ _ _ _ (by omega) (by omega) H))
            · have h1294 : ¬ ((lg_cmp ((n1266 47 ((0 : Int32).toNatClampNeg)).toInt64) v1266.toInt64) = 0) := h1294
              have H := (if_neg h1294).symm.trans H
              refine jv_iconst 0 (pc := 1297) d_LW_law_1297 rfl ?_
              refine jv_iret (pc := 1298) d_LW_law_1298 rfl rfl (by (simp only [jr, room_1]; omega)) (by (simp only [jr, room_1]; omega)) ?_
              cases H
              exact jI.of ⟨rfl, rfl⟩
        · have h1277 : ¬ ((f_MO_thrown n1266) = v1260) := h1277
          have H := (if_neg h1277).symm.trans H
          refine jv_iconst 0 (pc := 1280) d_LW_law_1280 rfl ?_
          refine jv_iret (pc := 1281) d_LW_law_1281 rfl rfl (by (simp only [jr, room_1]; omega)) (by (simp only [jr, room_1]; omega)) ?_
          cases H
          exact jI.of ⟨rfl, rfl⟩
      have H := (if_neg h40_20).symm.trans H
      by_cases h40_21 : ((G.xs x4.toNatClampNeg) &&& (31 : Int32)) = 21
      · have H := (if_pos h40_21).symm.trans H
        refine jv_tin 1302 (pc := 40) d_LW_law_40 (by rw [h40_21]; decide) (by rw [h40_21]; decide) (by rw [h40_21]; rfl) rfl ?_
        refine jv_aload_n 1 (pc := 1302) d_LW_law_1302 rfl ?_
        refine jv_aload_n 0 (pc := 1303) d_LW_law_1303 rfl ?_
        refine jv_iload 4 (pc := 1304) d_LW_law_1304 rfl ?_
        refine jv_iconst 1 (pc := 1306) d_LW_law_1306 rfl ?_
        refine jv_iadd (pc := 1307) d_LW_law_1307 ?_
        obtain ⟨b1308, H⟩ := jck_some H
        refine jv_sald (pc := 1308) d_LW_law_1308 b1308 ?_
        refine jv_aload_n 0 (pc := 1309) d_LW_law_1309 rfl ?_
        refine jv_iload 4 (pc := 1310) d_LW_law_1310 rfl ?_
        refine jv_iconst 2 (pc := 1312) d_LW_law_1312 rfl ?_
        refine jv_iadd (pc := 1313) d_LW_law_1313 ?_
        obtain ⟨b1314, H⟩ := jck_some H
        refine jv_sald (pc := 1314) d_LW_law_1314 b1314 ?_
        refine jv_aload_n 0 (pc := 1315) d_LW_law_1315 rfl ?_
        refine jv_iload 4 (pc := 1316) d_LW_law_1316 rfl ?_
        refine jv_iconst 3 (pc := 1318) d_LW_law_1318 rfl ?_
        refine jv_iadd (pc := 1319) d_LW_law_1319 ?_
        obtain ⟨b1320, H⟩ := jck_some H
        refine jv_sald (pc := 1320) d_LW_law_1320 b1320 ?_
        refine jv_if_eq 1328 (pc := 1321) d_LW_law_1321 rfl (fun h1321 => ?_) (fun h1321 => ?_)
        · have h1321 : (G.xs (x4 + (3 : Int32)).toNatClampNeg) = 0 := h1321
          have H := (if_pos h1321).symm.trans H
          refine jv_iconst 0 (pc := 1328) d_LW_law_1328 rfl ?_
          refine jv_aload_n 0 (pc := 1329) d_LW_law_1329 rfl ?_
          refine jv_iload 4 (pc := 1330) d_LW_law_1330 rfl ?_
          refine jv_iconst 4 (pc := 1332) d_LW_law_1332 rfl ?_
          refine jv_iadd (pc := 1333) d_LW_law_1333 ?_
          obtain ⟨b1334, H⟩ := jck_some H
          refine jv_sald (pc := 1334) d_LW_law_1334 b1334 ?_
          refine jv_aload_n 3 (pc := 1335) d_LW_law_1335 rfl ?_
          obtain ⟨v1336, n1336, c1336, H⟩ := jbd_some H
          refine jv_callSH (sp_LW_text (G.xs (x4 + (1 : Int32)).toNatClampNeg) (G.xs (x4 + (2 : Int32)).toNatClampNeg) (0 : Int32) (G.xs (x4 + (4 : Int32)).toNatClampNeg) htr c1336) (pc := 1336) d_LW_law_1336 (by decide) cw_LW_text (jin1 0 rfl rfl) ⟨by decide, by decide⟩ pn_LW_text (jin3 198 rfl rfl) si_LW_text rfl (Nat.le_of_ble_eq_true rfl) ⟨by decide, by decide, by (simp only [jr, room_1]; omega), by (simp only [jr, room_1]; omega)⟩ (fun r1336 m1336 h1336 => ?_)
          obtain ⟨ha1336, hb1336⟩ := h1336
          have ha1336 := ha1336.symm
          subst ha1336
          have hb1336 := hb1336.symm
          subst hb1336
          refine jv_istore (pc := 1339) d_LW_law_1339 (by decide) (jsto_new rfl) ?_
          refine jv_aload_n 3 (pc := 1341) d_LW_law_1341 rfl ?_
          refine jv_aload_n 1 (pc := 1342) d_LW_law_1342 rfl ?_
          refine jv_iload 5 (pc := 1343) d_LW_law_1343 rfl ?_
          refine jv_iconst 1 (pc := 1345) d_LW_law_1345 rfl ?_
          refine jv_iadd (pc := 1346) d_LW_law_1346 ?_
          obtain ⟨b1347, H⟩ := jck_some H
          refine jv_sald (pc := 1347) d_LW_law_1347 b1347 ?_
          refine jv_aload_n 1 (pc := 1348) d_LW_law_1348 rfl ?_
          refine jv_iload 5 (pc := 1349) d_LW_law_1349 rfl ?_
          refine jv_iconst 2 (pc := 1351) d_LW_law_1351 rfl ?_
          refine jv_iadd (pc := 1352) d_LW_law_1352 ?_
          obtain ⟨b1353, H⟩ := jck_some H
          refine jv_sald (pc := 1353) d_LW_law_1353 b1353 ?_
          refine jv_aload_n 1 (pc := 1354) d_LW_law_1354 rfl ?_
          refine jv_iload 5 (pc := 1355) d_LW_law_1355 rfl ?_
          refine jv_iconst 3 (pc := 1357) d_LW_law_1357 rfl ?_
          refine jv_iadd (pc := 1358) d_LW_law_1358 ?_
          obtain ⟨b1359, H⟩ := jck_some H
          refine jv_sald (pc := 1359) d_LW_law_1359 b1359 ?_
          refine jv_if_eq 1367 (pc := 1360) d_LW_law_1360 rfl (fun h1360 => ?_) (fun h1360 => ?_)
          · have h1360 : (G.xs (x4 + (3 : Int32)).toNatClampNeg) = 0 := h1360
            have H := (if_pos h1360).symm.trans H
            refine jv_iconst 0 (pc := 1367) d_LW_law_1367 rfl ?_
            refine jv_aload_n 1 (pc := 1368) d_LW_law_1368 rfl ?_
            refine jv_iload 5 (pc := 1369) d_LW_law_1369 rfl ?_
            refine jv_iconst 4 (pc := 1371) d_LW_law_1371 rfl ?_
            refine jv_iadd (pc := 1372) d_LW_law_1372 ?_
            obtain ⟨b1373, H⟩ := jck_some H
            refine jv_sald (pc := 1373) d_LW_law_1373 b1373 ?_
            obtain ⟨v1374, n1374, c1374, H⟩ := jbd_some H
            refine jv_callVi (sp_MO_text (G.xs (x4 + (1 : Int32)).toNatClampNeg) (G.xs (x4 + (2 : Int32)).toNatClampNeg) (0 : Int32) (G.xs (x4 + (4 : Int32)).toNatClampNeg) c1374) (pc := 1374) d_LW_law_1374 c0_MO_text lk_LW_164 in_MO_text se_MO_text (by decide) rfl rfl rfl (Nat.le_of_ble_eq_true rfl) ⟨by decide, by decide, by (simp only [jr, room_1]; omega), by (simp only [jr, room_1]; omega)⟩ (fun r1374 m1374 h1374 => ?_)
            obtain ⟨ha1374, hb1374⟩ := h1374
            have ha1374 := ha1374.symm
            subst ha1374
            have hb1374 := hb1374.symm
            subst hb1374
            refine jv_istore (pc := 1377) d_LW_law_1377 (by decide) (jsto_new rfl) ?_
            refine jv_aload_n 4 (pc := 1379) d_LW_law_1379 rfl ?_
            refine jv_callVi (sp_MO_thrown) (pc := 1380) d_LW_law_1380 c0_MO_thrown lk_LW_82 in_MO_thrown se_MO_thrown (by decide) rfl rfl rfl (Nat.le_of_ble_eq_true rfl) ⟨by decide, by decide, by (simp only [jr, room_1]; omega), by (simp only [jr, room_1]; omega)⟩ (fun r1380 m1380 h1380 => ?_)
            obtain ⟨ha1380, hb1380⟩ := h1380
            subst ha1380
            have hb1380 := hb1380.symm
            subst hb1380
            refine jv_iload 1 (pc := 1383) d_LW_law_1383 rfl ?_
            refine jv_icmp_eq 1390 (pc := 1385) d_LW_law_1385 rfl (fun h1385 => ?_) (fun h1385 => ?_)
            · have h1385 : (f_MO_thrown n1374) = v1336 := h1385
              have H := (if_pos h1385).symm.trans H
              refine jv_iload 1 (pc := 1390) d_LW_law_1390 rfl ?_
              refine jv_if_ne 1407 (pc := 1392) d_LW_law_1392 rfl (fun h1392 => ?_) (fun h1392 => ?_)
              · have h1392 : ¬ (v1336 = 0) := h1392
                have H := (if_neg h1392).symm.trans H
                refine jv_goto 1410 (pc := 1407) d_LW_law_1407 rfl ?_
                refine jv_iinc 6 _ (pc := 1410) d_LW_law_1410 rfl rfl (by decide) (jst6 rfl) ?_
                refine jv_goto 23 (pc := 1413) d_LW_law_1413 rfl ?_
                exact jv_wide (k1 := k0 + 4) (n1 := s0 + 24) (by first | omega | (simp only [jr]; omega)) (by first | omega | (simp only [jr]; omega)) (jv_sub [2, 3, 4, 5, 6] rfl (ih (x4 + Int32.ofInt (6)) _ _ _ _ _ (by omega) (by omega) H))
              · have h1392 : v1336 = 0 := h1392
                have H := (if_pos h1392).symm.trans H
                refine jv_aload_n 5 (pc := 1395) d_LW_law_1395 rfl ?_
                refine jv_iconst 0 (pc := 1396) d_LW_law_1396 rfl ?_
                refine jv_lald (pc := 1397) d_LW_law_1397 (by decide) rfl jin01 ?_
                refine jv_iload 0 (pc := 1398) d_LW_law_1398 rfl ?_
                refine jv_i2l (pc := 1400) d_LW_law_1400 ?_
                refine jv_lcmp (pc := 1401) d_LW_law_1401 ?_
                refine jv_if_eq 1407 (pc := 1402) d_LW_law_1402 rfl (fun h1402 => ?_) (fun h1402 => ?_)
                · have h1402 : (lg_cmp ((n1374 47 ((0 : Int32).toNatClampNeg)).toInt64) v1374.toInt64) = 0 := h1402
                  have H := (if_pos h1402).symm.trans H
                  refine jv_goto 1410 (pc := 1407) d_LW_law_1407 rfl ?_
                  refine jv_iinc 6 _ (pc := 1410) d_LW_law_1410 rfl rfl (by decide) (jst6 rfl) ?_
                  refine jv_goto 23 (pc := 1413) d_LW_law_1413 rfl ?_
                  exact jv_wide (k1 := k0 + 4) (n1 := s0 + 24) (by first | omega | (simp only [jr]; omega)) (by first | omega | (simp only [jr]; omega)) (jv_sub [2, 3, 4, 5, 6] rfl (ih (x4 + Int32.ofInt (6)) _ _ _ _ _ (by omega) (by omega) H))
                · have h1402 : ¬ ((lg_cmp ((n1374 47 ((0 : Int32).toNatClampNeg)).toInt64) v1374.toInt64) = 0) := h1402
                  have H := (if_neg h1402).symm.trans H
                  refine jv_iconst 0 (pc := 1405) d_LW_law_1405 rfl ?_
                  refine jv_iret (pc := 1406) d_LW_law_1406 rfl rfl (by (simp only [jr, room_1]; omega)) (by (simp only [jr, room_1]; omega)) ?_
                  cases H
                  exact jI.of ⟨rfl, rfl⟩
            · have h1385 : ¬ ((f_MO_thrown n1374) = v1336) := h1385
              have H := (if_neg h1385).symm.trans H
              refine jv_iconst 0 (pc := 1388) d_LW_law_1388 rfl ?_
              refine jv_iret (pc := 1389) d_LW_law_1389 rfl rfl (by (simp only [jr, room_1]; omega)) (by (simp only [jr, room_1]; omega)) ?_
              cases H
              exact jI.of ⟨rfl, rfl⟩
          · have h1360 : ¬ ((G.xs (x4 + (3 : Int32)).toNatClampNeg) = 0) := h1360
            have H := (if_neg h1360).symm.trans H
            refine jv_iconst 1 (pc := 1363) d_LW_law_1363 rfl ?_
            refine jv_goto 1368 (pc := 1364) d_LW_law_1364 rfl ?_
            refine jv_aload_n 1 (pc := 1368) d_LW_law_1368 rfl ?_
            refine jv_iload 5 (pc := 1369) d_LW_law_1369 rfl ?_
            refine jv_iconst 4 (pc := 1371) d_LW_law_1371 rfl ?_
            refine jv_iadd (pc := 1372) d_LW_law_1372 ?_
            obtain ⟨b1373, H⟩ := jck_some H
            refine jv_sald (pc := 1373) d_LW_law_1373 b1373 ?_
            obtain ⟨v1374, n1374, c1374, H⟩ := jbd_some H
            refine jv_callVi (sp_MO_text (G.xs (x4 + (1 : Int32)).toNatClampNeg) (G.xs (x4 + (2 : Int32)).toNatClampNeg) (1 : Int32) (G.xs (x4 + (4 : Int32)).toNatClampNeg) c1374) (pc := 1374) d_LW_law_1374 c0_MO_text lk_LW_164 in_MO_text se_MO_text (by decide) rfl rfl rfl (Nat.le_of_ble_eq_true rfl) ⟨by decide, by decide, by (simp only [jr, room_1]; omega), by (simp only [jr, room_1]; omega)⟩ (fun r1374 m1374 h1374 => ?_)
            obtain ⟨ha1374, hb1374⟩ := h1374
            have ha1374 := ha1374.symm
            subst ha1374
            have hb1374 := hb1374.symm
            subst hb1374
            refine jv_istore (pc := 1377) d_LW_law_1377 (by decide) (jsto_new rfl) ?_
            refine jv_aload_n 4 (pc := 1379) d_LW_law_1379 rfl ?_
            refine jv_callVi (sp_MO_thrown) (pc := 1380) d_LW_law_1380 c0_MO_thrown lk_LW_82 in_MO_thrown se_MO_thrown (by decide) rfl rfl rfl (Nat.le_of_ble_eq_true rfl) ⟨by decide, by decide, by (simp only [jr, room_1]; omega), by (simp only [jr, room_1]; omega)⟩ (fun r1380 m1380 h1380 => ?_)
            obtain ⟨ha1380, hb1380⟩ := h1380
            subst ha1380
            have hb1380 := hb1380.symm
            subst hb1380
            refine jv_iload 1 (pc := 1383) d_LW_law_1383 rfl ?_
            refine jv_icmp_eq 1390 (pc := 1385) d_LW_law_1385 rfl (fun h1385 => ?_) (fun h1385 => ?_)
            · have h1385 : (f_MO_thrown n1374) = v1336 := h1385
              have H := (if_pos h1385).symm.trans H
              refine jv_iload 1 (pc := 1390) d_LW_law_1390 rfl ?_
              refine jv_if_ne 1407 (pc := 1392) d_LW_law_1392 rfl (fun h1392 => ?_) (fun h1392 => ?_)
              · have h1392 : ¬ (v1336 = 0) := h1392
                have H := (if_neg h1392).symm.trans H
                refine jv_goto 1410 (pc := 1407) d_LW_law_1407 rfl ?_
                refine jv_iinc 6 _ (pc := 1410) d_LW_law_1410 rfl rfl (by decide) (jst6 rfl) ?_
                refine jv_goto 23 (pc := 1413) d_LW_law_1413 rfl ?_
                exact jv_wide (k1 := k0 + 4) (n1 := s0 + 24) (by first | omega | (simp only [jr]; omega)) (by first | omega | (simp only [jr]; omega)) (jv_sub [2, 3, 4, 5, 6] rfl (ih (x4 + Int32.ofInt (6)) _ _ _ _ _ (by omega) (by omega) H))
              · have h1392 : v1336 = 0 := h1392
                have H := (if_pos h1392).symm.trans H
                refine jv_aload_n 5 (pc := 1395) d_LW_law_1395 rfl ?_
                refine jv_iconst 0 (pc := 1396) d_LW_law_1396 rfl ?_
                refine jv_lald (pc := 1397) d_LW_law_1397 (by decide) rfl jin01 ?_
                refine jv_iload 0 (pc := 1398) d_LW_law_1398 rfl ?_
                refine jv_i2l (pc := 1400) d_LW_law_1400 ?_
                refine jv_lcmp (pc := 1401) d_LW_law_1401 ?_
                refine jv_if_eq 1407 (pc := 1402) d_LW_law_1402 rfl (fun h1402 => ?_) (fun h1402 => ?_)
                · have h1402 : (lg_cmp ((n1374 47 ((0 : Int32).toNatClampNeg)).toInt64) v1374.toInt64) = 0 := h1402
                  have H := (if_pos h1402).symm.trans H
                  refine jv_goto 1410 (pc := 1407) d_LW_law_1407 rfl ?_
                  refine jv_iinc 6 _ (pc := 1410) d_LW_law_1410 rfl rfl (by decide) (jst6 rfl) ?_
                  refine jv_goto 23 (pc := 1413) d_LW_law_1413 rfl ?_
                  exact jv_wide (k1 := k0 + 4) (n1 := s0 + 24) (by first | omega | (simp only [jr]; omega)) (by first | omega | (simp only [jr]; omega)) (jv_sub [2, 3, 4, 5, 6] rfl (ih (x4 + Int32.ofInt (6)) _ _ _ _ _ (by omega) (by omega) H))
                · have h1402 : ¬ ((lg_cmp ((n1374 47 ((0 : Int32).toNatClampNeg)).toInt64) v1374.toInt64) = 0) := h1402
                  have H := (if_neg h1402).symm.trans H
                  refine jv_iconst 0 (pc := 1405) d_LW_law_1405 rfl ?_
                  refine jv_iret (pc := 1406) d_LW_law_1406 rfl rfl (by (simp only [jr, room_1]; omega)) (by (simp only [jr, room_1]; omega)) ?_
                  cases H
                  exact jI.of ⟨rfl, rfl⟩
            · have h1385 : ¬ ((f_MO_thrown n1374) = v1336) := h1385
              have H := (if_neg h1385).symm.trans H
              refine jv_iconst 0 (pc := 1388) d_LW_law_1388 rfl ?_
              refine jv_iret (pc := 1389) d_LW_law_1389 rfl rfl (by (simp only [jr, room_1]; omega)) (by (simp only [jr, room_1]; omega)) ?_
              cases H
              exact jI.of ⟨rfl, rfl⟩
        · have h1321 : ¬ ((G.xs (x4 + (3 : Int32)).toNatClampNeg) = 0) := h1321
          have H := (if_neg h1321).symm.trans H
          refine jv_iconst 1 (pc := 1324) d_LW_law_1324 rfl ?_
          refine jv_goto 1329 (pc := 1325) d_LW_law_1325 rfl ?_
          refine jv_aload_n 0 (pc := 1329) d_LW_law_1329 rfl ?_
          refine jv_iload 4 (pc := 1330) d_LW_law_1330 rfl ?_
          refine jv_iconst 4 (pc := 1332) d_LW_law_1332 rfl ?_
          refine jv_iadd (pc := 1333) d_LW_law_1333 ?_
          obtain ⟨b1334, H⟩ := jck_some H
          refine jv_sald (pc := 1334) d_LW_law_1334 b1334 ?_
          refine jv_aload_n 3 (pc := 1335) d_LW_law_1335 rfl ?_
          obtain ⟨v1336, n1336, c1336, H⟩ := jbd_some H
          refine jv_callSH (sp_LW_text (G.xs (x4 + (1 : Int32)).toNatClampNeg) (G.xs (x4 + (2 : Int32)).toNatClampNeg) (1 : Int32) (G.xs (x4 + (4 : Int32)).toNatClampNeg) htr c1336) (pc := 1336) d_LW_law_1336 (by decide) cw_LW_text (jin1 0 rfl rfl) ⟨by decide, by decide⟩ pn_LW_text (jin3 198 rfl rfl) si_LW_text rfl (Nat.le_of_ble_eq_true rfl) ⟨by decide, by decide, by (simp only [jr, room_1]; omega), by (simp only [jr, room_1]; omega)⟩ (fun r1336 m1336 h1336 => ?_)
          obtain ⟨ha1336, hb1336⟩ := h1336
          have ha1336 := ha1336.symm
          subst ha1336
          have hb1336 := hb1336.symm
          subst hb1336
          refine jv_istore (pc := 1339) d_LW_law_1339 (by decide) (jsto_new rfl) ?_
          refine jv_aload_n 3 (pc := 1341) d_LW_law_1341 rfl ?_
          refine jv_aload_n 1 (pc := 1342) d_LW_law_1342 rfl ?_
          refine jv_iload 5 (pc := 1343) d_LW_law_1343 rfl ?_
          refine jv_iconst 1 (pc := 1345) d_LW_law_1345 rfl ?_
          refine jv_iadd (pc := 1346) d_LW_law_1346 ?_
          obtain ⟨b1347, H⟩ := jck_some H
          refine jv_sald (pc := 1347) d_LW_law_1347 b1347 ?_
          refine jv_aload_n 1 (pc := 1348) d_LW_law_1348 rfl ?_
          refine jv_iload 5 (pc := 1349) d_LW_law_1349 rfl ?_
          refine jv_iconst 2 (pc := 1351) d_LW_law_1351 rfl ?_
          refine jv_iadd (pc := 1352) d_LW_law_1352 ?_
          obtain ⟨b1353, H⟩ := jck_some H
          refine jv_sald (pc := 1353) d_LW_law_1353 b1353 ?_
          refine jv_aload_n 1 (pc := 1354) d_LW_law_1354 rfl ?_
          refine jv_iload 5 (pc := 1355) d_LW_law_1355 rfl ?_
          refine jv_iconst 3 (pc := 1357) d_LW_law_1357 rfl ?_
          refine jv_iadd (pc := 1358) d_LW_law_1358 ?_
          obtain ⟨b1359, H⟩ := jck_some H
          refine jv_sald (pc := 1359) d_LW_law_1359 b1359 ?_
          refine jv_if_eq 1367 (pc := 1360) d_LW_law_1360 rfl (fun h1360 => ?_) (fun h1360 => ?_)
          · have h1360 : (G.xs (x4 + (3 : Int32)).toNatClampNeg) = 0 := h1360
            have H := (if_pos h1360).symm.trans H
            refine jv_iconst 0 (pc := 1367) d_LW_law_1367 rfl ?_
            refine jv_aload_n 1 (pc := 1368) d_LW_law_1368 rfl ?_
            refine jv_iload 5 (pc := 1369) d_LW_law_1369 rfl ?_
            refine jv_iconst 4 (pc := 1371) d_LW_law_1371 rfl ?_
            refine jv_iadd (pc := 1372) d_LW_law_1372 ?_
            obtain ⟨b1373, H⟩ := jck_some H
            refine jv_sald (pc := 1373) d_LW_law_1373 b1373 ?_
            obtain ⟨v1374, n1374, c1374, H⟩ := jbd_some H
            refine jv_callVi (sp_MO_text (G.xs (x4 + (1 : Int32)).toNatClampNeg) (G.xs (x4 + (2 : Int32)).toNatClampNeg) (0 : Int32) (G.xs (x4 + (4 : Int32)).toNatClampNeg) c1374) (pc := 1374) d_LW_law_1374 c0_MO_text lk_LW_164 in_MO_text se_MO_text (by decide) rfl rfl rfl (Nat.le_of_ble_eq_true rfl) ⟨by decide, by decide, by (simp only [jr, room_1]; omega), by (simp only [jr, room_1]; omega)⟩ (fun r1374 m1374 h1374 => ?_)
            obtain ⟨ha1374, hb1374⟩ := h1374
            have ha1374 := ha1374.symm
            subst ha1374
            have hb1374 := hb1374.symm
            subst hb1374
            refine jv_istore (pc := 1377) d_LW_law_1377 (by decide) (jsto_new rfl) ?_
            refine jv_aload_n 4 (pc := 1379) d_LW_law_1379 rfl ?_
            refine jv_callVi (sp_MO_thrown) (pc := 1380) d_LW_law_1380 c0_MO_thrown lk_LW_82 in_MO_thrown se_MO_thrown (by decide) rfl rfl rfl (Nat.le_of_ble_eq_true rfl) ⟨by decide, by decide, by (simp only [jr, room_1]; omega), by (simp only [jr, room_1]; omega)⟩ (fun r1380 m1380 h1380 => ?_)
            obtain ⟨ha1380, hb1380⟩ := h1380
            subst ha1380
            have hb1380 := hb1380.symm
            subst hb1380
            refine jv_iload 1 (pc := 1383) d_LW_law_1383 rfl ?_
            refine jv_icmp_eq 1390 (pc := 1385) d_LW_law_1385 rfl (fun h1385 => ?_) (fun h1385 => ?_)
            · have h1385 : (f_MO_thrown n1374) = v1336 := h1385
              have H := (if_pos h1385).symm.trans H
              refine jv_iload 1 (pc := 1390) d_LW_law_1390 rfl ?_
              refine jv_if_ne 1407 (pc := 1392) d_LW_law_1392 rfl (fun h1392 => ?_) (fun h1392 => ?_)
              · have h1392 : ¬ (v1336 = 0) := h1392
                have H := (if_neg h1392).symm.trans H
                refine jv_goto 1410 (pc := 1407) d_LW_law_1407 rfl ?_
                refine jv_iinc 6 _ (pc := 1410) d_LW_law_1410 rfl rfl (by decide) (jst6 rfl) ?_
                refine jv_goto 23 (pc := 1413) d_LW_law_1413 rfl ?_
                exact jv_wide (k1 := k0 + 4) (n1 := s0 + 24) (by first | omega | (simp only [jr]; omega)) (by first | omega | (simp only [jr]; omega)) (jv_sub [2, 3, 4, 5, 6] rfl (ih (x4 + Int32.ofInt (6)) _ _ _ _ _ (by omega) (by omega) H))
              · have h1392 : v1336 = 0 := h1392
                have H := (if_pos h1392).symm.trans H
                refine jv_aload_n 5 (pc := 1395) d_LW_law_1395 rfl ?_
                refine jv_iconst 0 (pc := 1396) d_LW_law_1396 rfl ?_
                refine jv_lald (pc := 1397) d_LW_law_1397 (by decide) rfl jin01 ?_
                refine jv_iload 0 (pc := 1398) d_LW_law_1398 rfl ?_
                refine jv_i2l (pc := 1400) d_LW_law_1400 ?_
                refine jv_lcmp (pc := 1401) d_LW_law_1401 ?_
                refine jv_if_eq 1407 (pc := 1402) d_LW_law_1402 rfl (fun h1402 => ?_) (fun h1402 => ?_)
                · have h1402 : (lg_cmp ((n1374 47 ((0 : Int32).toNatClampNeg)).toInt64) v1374.toInt64) = 0 := h1402
                  have H := (if_pos h1402).symm.trans H
                  refine jv_goto 1410 (pc := 1407) d_LW_law_1407 rfl ?_
                  refine jv_iinc 6 _ (pc := 1410) d_LW_law_1410 rfl rfl (by decide) (jst6 rfl) ?_
                  refine jv_goto 23 (pc := 1413) d_LW_law_1413 rfl ?_
                  exact jv_wide (k1 := k0 + 4) (n1 := s0 + 24) (by first | omega | (simp only [jr]; omega)) (by first | omega | (simp only [jr]; omega)) (jv_sub [2, 3, 4, 5, 6] rfl (ih (x4 + Int32.ofInt (6)) _ _ _ _ _ (by omega) (by omega) H))
                · have h1402 : ¬ ((lg_cmp ((n1374 47 ((0 : Int32).toNatClampNeg)).toInt64) v1374.toInt64) = 0) := h1402
                  have H := (if_neg h1402).symm.trans H
                  refine jv_iconst 0 (pc := 1405) d_LW_law_1405 rfl ?_
                  refine jv_iret (pc := 1406) d_LW_law_1406 rfl rfl (by (simp only [jr, room_1]; omega)) (by (simp only [jr, room_1]; omega)) ?_
                  cases H
                  exact jI.of ⟨rfl, rfl⟩
            · have h1385 : ¬ ((f_MO_thrown n1374) = v1336) := h1385
              have H := (if_neg h1385).symm.trans H
              refine jv_iconst 0 (pc := 1388) d_LW_law_1388 rfl ?_
              refine jv_iret (pc := 1389) d_LW_law_1389 rfl rfl (by (simp only [jr, room_1]; omega)) (by (simp only [jr, room_1]; omega)) ?_
              cases H
              exact jI.of ⟨rfl, rfl⟩
          · have h1360 : ¬ ((G.xs (x4 + (3 : Int32)).toNatClampNeg) = 0) := h1360
            have H := (if_neg h1360).symm.trans H
            refine jv_iconst 1 (pc := 1363) d_LW_law_1363 rfl ?_
            refine jv_goto 1368 (pc := 1364) d_LW_law_1364 rfl ?_
            refine jv_aload_n 1 (pc := 1368) d_LW_law_1368 rfl ?_
            refine jv_iload 5 (pc := 1369) d_LW_law_1369 rfl ?_
            refine jv_iconst 4 (pc := 1371) d_LW_law_1371 rfl ?_
            refine jv_iadd (pc := 1372) d_LW_law_1372 ?_
            obtain ⟨b1373, H⟩ := jck_some H
            refine jv_sald (pc := 1373) d_LW_law_1373 b1373 ?_
            obtain ⟨v1374, n1374, c1374, H⟩ := jbd_some H
            refine jv_callVi (sp_MO_text (G.xs (x4 + (1 : Int32)).toNatClampNeg) (G.xs (x4 + (2 : Int32)).toNatClampNeg) (1 : Int32) (G.xs (x4 + (4 : Int32)).toNatClampNeg) c1374) (pc := 1374) d_LW_law_1374 c0_MO_text lk_LW_164 in_MO_text se_MO_text (by decide) rfl rfl rfl (Nat.le_of_ble_eq_true rfl) ⟨by decide, by decide, by (simp only [jr, room_1]; omega), by (simp only [jr, room_1]; omega)⟩ (fun r1374 m1374 h1374 => ?_)
            obtain ⟨ha1374, hb1374⟩ := h1374
            have ha1374 := ha1374.symm
            subst ha1374
            have hb1374 := hb1374.symm
            subst hb1374
            refine jv_istore (pc := 1377) d_LW_law_1377 (by decide) (jsto_new rfl) ?_
            refine jv_aload_n 4 (pc := 1379) d_LW_law_1379 rfl ?_
            refine jv_callVi (sp_MO_thrown) (pc := 1380) d_LW_law_1380 c0_MO_thrown lk_LW_82 in_MO_thrown se_MO_thrown (by decide) rfl rfl rfl (Nat.le_of_ble_eq_true rfl) ⟨by decide, by decide, by (simp only [jr, room_1]; omega), by (simp only [jr, room_1]; omega)⟩ (fun r1380 m1380 h1380 => ?_)
            obtain ⟨ha1380, hb1380⟩ := h1380
            subst ha1380
            have hb1380 := hb1380.symm
            subst hb1380
            refine jv_iload 1 (pc := 1383) d_LW_law_1383 rfl ?_
            refine jv_icmp_eq 1390 (pc := 1385) d_LW_law_1385 rfl (fun h1385 => ?_) (fun h1385 => ?_)
            · have h1385 : (f_MO_thrown n1374) = v1336 := h1385
              have H := (if_pos h1385).symm.trans H
              refine jv_iload 1 (pc := 1390) d_LW_law_1390 rfl ?_
              refine jv_if_ne 1407 (pc := 1392) d_LW_law_1392 rfl (fun h1392 => ?_) (fun h1392 => ?_)
              · have h1392 : ¬ (v1336 = 0) := h1392
                have H := (if_neg h1392).symm.trans H
                refine jv_goto 1410 (pc := 1407) d_LW_law_1407 rfl ?_
                refine jv_iinc 6 _ (pc := 1410) d_LW_law_1410 rfl rfl (by decide) (jst6 rfl) ?_
                refine jv_goto 23 (pc := 1413) d_LW_law_1413 rfl ?_
                exact jv_wide (k1 := k0 + 4) (n1 := s0 + 24) (by first | omega | (simp only [jr]; omega)) (by first | omega | (simp only [jr]; omega)) (jv_sub [2, 3, 4, 5, 6] rfl (ih (x4 + Int32.ofInt (6)) _ _ _ _ _ (by omega) (by omega) H))
              · have h1392 : v1336 = 0 := h1392
                have H := (if_pos h1392).symm.trans H
                refine jv_aload_n 5 (pc := 1395) d_LW_law_1395 rfl ?_
                refine jv_iconst 0 (pc := 1396) d_LW_law_1396 rfl ?_
                refine jv_lald (pc := 1397) d_LW_law_1397 (by decide) rfl jin01 ?_
                refine jv_iload 0 (pc := 1398) d_LW_law_1398 rfl ?_
                refine jv_i2l (pc := 1400) d_LW_law_1400 ?_
                refine jv_lcmp (pc := 1401) d_LW_law_1401 ?_
                refine jv_if_eq 1407 (pc := 1402) d_LW_law_1402 rfl (fun h1402 => ?_) (fun h1402 => ?_)
                · have h1402 : (lg_cmp ((n1374 47 ((0 : Int32).toNatClampNeg)).toInt64) v1374.toInt64) = 0 := h1402
                  have H := (if_pos h1402).symm.trans H
                  refine jv_goto 1410 (pc := 1407) d_LW_law_1407 rfl ?_
                  refine jv_iinc 6 _ (pc := 1410) d_LW_law_1410 rfl rfl (by decide) (jst6 rfl) ?_
                  refine jv_goto 23 (pc := 1413) d_LW_law_1413 rfl ?_
                  exact jv_wide (k1 := k0 + 4) (n1 := s0 + 24) (by first | omega | (simp only [jr]; omega)) (by first | omega | (simp only [jr]; omega)) (jv_sub [2, 3, 4, 5, 6] rfl (ih (x4 + Int32.ofInt (6)) _ _ _ _ _ (by omega) (by omega) H))
                · have h1402 : ¬ ((lg_cmp ((n1374 47 ((0 : Int32).toNatClampNeg)).toInt64) v1374.toInt64) = 0) := h1402
                  have H := (if_neg h1402).symm.trans H
                  refine jv_iconst 0 (pc := 1405) d_LW_law_1405 rfl ?_
                  refine jv_iret (pc := 1406) d_LW_law_1406 rfl rfl (by (simp only [jr, room_1]; omega)) (by (simp only [jr, room_1]; omega)) ?_
                  cases H
                  exact jI.of ⟨rfl, rfl⟩
            · have h1385 : ¬ ((f_MO_thrown n1374) = v1336) := h1385
              have H := (if_neg h1385).symm.trans H
              refine jv_iconst 0 (pc := 1388) d_LW_law_1388 rfl ?_
              refine jv_iret (pc := 1389) d_LW_law_1389 rfl rfl (by (simp only [jr, room_1]; omega)) (by (simp only [jr, room_1]; omega)) ?_
              cases H
              exact jI.of ⟨rfl, rfl⟩
      have H := (if_neg h40_21).symm.trans H
      refine jv_tout 1410 (pc := 40) d_LW_law_40 (by have a0 : ((G.xs x4.toNatClampNeg) &&& (31 : Int32)).toInt ≠ 0 := fun q => h40_0 (Int32.toInt_inj.mp q); have a1 : ((G.xs x4.toNatClampNeg) &&& (31 : Int32)).toInt ≠ 1 := fun q => h40_1 (Int32.toInt_inj.mp q); have a2 : ((G.xs x4.toNatClampNeg) &&& (31 : Int32)).toInt ≠ 2 := fun q => h40_2 (Int32.toInt_inj.mp q); have a3 : ((G.xs x4.toNatClampNeg) &&& (31 : Int32)).toInt ≠ 3 := fun q => h40_3 (Int32.toInt_inj.mp q); have a4 : ((G.xs x4.toNatClampNeg) &&& (31 : Int32)).toInt ≠ 4 := fun q => h40_4 (Int32.toInt_inj.mp q); have a5 : ((G.xs x4.toNatClampNeg) &&& (31 : Int32)).toInt ≠ 5 := fun q => h40_5 (Int32.toInt_inj.mp q); have a6 : ((G.xs x4.toNatClampNeg) &&& (31 : Int32)).toInt ≠ 6 := fun q => h40_6 (Int32.toInt_inj.mp q); have a7 : ((G.xs x4.toNatClampNeg) &&& (31 : Int32)).toInt ≠ 7 := fun q => h40_7 (Int32.toInt_inj.mp q); have a8 : ((G.xs x4.toNatClampNeg) &&& (31 : Int32)).toInt ≠ 8 := fun q => h40_8 (Int32.toInt_inj.mp q); have a9 : ((G.xs x4.toNatClampNeg) &&& (31 : Int32)).toInt ≠ 9 := fun q => h40_9 (Int32.toInt_inj.mp q); have a10 : ((G.xs x4.toNatClampNeg) &&& (31 : Int32)).toInt ≠ 10 := fun q => h40_10 (Int32.toInt_inj.mp q); have a11 : ((G.xs x4.toNatClampNeg) &&& (31 : Int32)).toInt ≠ 11 := fun q => h40_11 (Int32.toInt_inj.mp q); have a12 : ((G.xs x4.toNatClampNeg) &&& (31 : Int32)).toInt ≠ 12 := fun q => h40_12 (Int32.toInt_inj.mp q); have a13 : ((G.xs x4.toNatClampNeg) &&& (31 : Int32)).toInt ≠ 13 := fun q => h40_13 (Int32.toInt_inj.mp q); have a14 : ((G.xs x4.toNatClampNeg) &&& (31 : Int32)).toInt ≠ 14 := fun q => h40_14 (Int32.toInt_inj.mp q); have a15 : ((G.xs x4.toNatClampNeg) &&& (31 : Int32)).toInt ≠ 15 := fun q => h40_15 (Int32.toInt_inj.mp q); have a16 : ((G.xs x4.toNatClampNeg) &&& (31 : Int32)).toInt ≠ 16 := fun q => h40_16 (Int32.toInt_inj.mp q); have a17 : ((G.xs x4.toNatClampNeg) &&& (31 : Int32)).toInt ≠ 17 := fun q => h40_17 (Int32.toInt_inj.mp q); have a18 : ((G.xs x4.toNatClampNeg) &&& (31 : Int32)).toInt ≠ 18 := fun q => h40_18 (Int32.toInt_inj.mp q); have a19 : ((G.xs x4.toNatClampNeg) &&& (31 : Int32)).toInt ≠ 19 := fun q => h40_19 (Int32.toInt_inj.mp q); have a20 : ((G.xs x4.toNatClampNeg) &&& (31 : Int32)).toInt ≠ 20 := fun q => h40_20 (Int32.toInt_inj.mp q); have a21 : ((G.xs x4.toNatClampNeg) &&& (31 : Int32)).toInt ≠ 21 := fun q => h40_21 (Int32.toInt_inj.mp q); omega) rfl ?_
      refine jv_iinc 4 _ (pc := 1410) d_LW_law_1410 rfl rfl (by decide) (jst4 rfl) ?_
      refine jv_goto 23 (pc := 1413) d_LW_law_1413 rfl ?_
      exact jv_wide (k1 := k0 + 4) (n1 := s0 + 24) (by first | omega | (simp only [jr]; omega)) (by first | omega | (simp only [jr]; omega)) (jv_sub [0, 1, 2, 3, 4] rfl (ih (x4 + Int32.ofInt (6)) _ _ _ _ _ (by omega) (by omega) H))
