/-! texts that are written -/
def jMs (σ0 ρ0 : jMem) (S M c : Nat) (tr : Int32) (vf : Nat → Nat) (sf tf : Nat → Int) (B D : Nat → Nat) : Prop := ∀ k, k < M → vf k < S ∧ (-1000 ≤ sf k ∧ sf k ≤ 1000) ∧ (-100 ≤ tf k ∧ tf k ≤ 100) ∧ (B k ≤ 23 ∧ D k ≤ 23) ∧ (σ0 5 k = nI (vf k) ∧ ρ0 42 k = nI (vf k) ∧ σ0 6 k = iI (sf k) ∧ ρ0 43 k = iI (sf k) ∧ σ0 7 k = iI (tf k) ∧ ρ0 44 k = iI (tf k)) ∧ (∀ σ ρ, jNu true σ0 ρ0 σ ρ → f_IC_before (nI (vf k)) (nI c) tr σ = some (nI (B k), σ) ∧ f_MO_before (nI (vf k)) ρ = some (nI (B k), ρ) ∧ f_MO_behind (nI (vf k)) ρ = some (nI (D k), ρ) ∧ f_IC_extent (nI (vf k)) tr σ = some (nI (B k + D k), σ))
theorem jMs.at {σ0 ρ0 σ ρ : jMem} {S M c : Nat} {tr : Int32} {vf : Nat → Nat} {sf tf : Nat → Int} {B D : Nat → Nat} (h : jMs σ0 ρ0 S M c tr vf sf tf B D) (hn : jNu true σ0 ρ0 σ ρ) {k : Nat} (hk : k < M) : σ 5 k = nI (vf k) ∧ ρ 42 k = nI (vf k) ∧ σ 6 k = iI (sf k) ∧ ρ 43 k = iI (sf k) ∧ σ 7 k = iI (tf k) ∧ ρ 44 k = iI (tf k) := by
  rw [hn.2.1 5 (by decide) (by decide) (by decide) (by decide) (by decide), hn.2.1 6 (by decide) (by decide) (by decide) (by decide) (by decide), hn.2.1 7 (by decide) (by decide) (by decide) (by decide) (by decide), hn.2.2.1 42 (by decide) (by decide) (by decide), hn.2.2.1 43 (by decide) (by decide) (by decide), hn.2.2.1 44 (by decide) (by decide) (by decide)]
  exact (h k hk).2.2.2.2.1
theorem tw_num {κ : Nat} {σ0 ρ0 σ ρ : jMem} {X : Int} (hm : ρ0 38 11 = 1) (hκ : κ < 9) (h : jNu true σ0 ρ0 σ ρ) (hX : -1000000 ≤ X ∧ X ≤ 1000000) : jPP (f_NU_codeNumber_W (nI κ) (iI X) σ) (f_MO_codeNumber (nI κ) (iI X) 0 ρ) (fun a m b k => a = iI X ∧ b = iI X ∧ jNu true σ0 ρ0 m k) := by
  have hv : -1000000 ≤ (iI X).toInt ∧ (iI X).toInt ≤ 1000000 := by rw [iI_toInt (by constructor <;> omega)]; exact hX
  refine (num_true hκ hm h (fun _ => jnw_i hv)).mono ?_
  rintro a m b k ⟨hn, ha, h01, hb, hw⟩
  have e : a = iI X := hw rfl
  refine ⟨e, ?_, hn⟩
  by_cases c : k 38 20 = 0
  · rw [if_pos c] at ha; exact ha.symm.trans e
  · rw [if_neg c] at ha; exact absurd (e.symm.trans ha) (i_ne hv)
theorem tw_no {κ : Nat} {σ0 ρ0 σ ρ : jMem} (hm : ρ0 38 11 = 1) (hκ : κ < 9) (h : jNu true σ0 ρ0 σ ρ) : jPP (f_NU_codeNumber_W (nI κ) (-2147483648) σ) (f_MO_codeNumber (nI κ) 0 1 ρ) (fun a m b k => a = -2147483648 ∧ jNu true σ0 ρ0 m k) := by
  refine (num_true hκ hm h (fun _ => Or.inl ⟨rfl, rfl⟩)).mono ?_
  rintro a m b k ⟨hn, ha, h01, hb, hw⟩
  exact ⟨hw rfl, hn⟩
theorem iI_ne {X : Int} (hX : -1000000 ≤ X ∧ X ≤ 1000000) : iI X ≠ -2147483648 := i_ne (by rw [iI_toInt (by constructor <;> omega)]; exact hX)
theorem ic_start {σ0 ρ0 σ ρ : jMem} {S M c : Nat} {tr : Int32} {vf : Nat → Nat} {sf tf : Nat → Int} {B D : Nat → Nat} (h : jMs σ0 ρ0 S M c tr vf sf tf B D) (hn : jNu true σ0 ρ0 σ ρ) {k : Nat} (hk : k < M) (hM : M ≤ 12) : f_IC_startOf (nI k) (nI c) tr σ = some (iI (sf k - B k), σ) := by
  unfold f_IC_startOf
  obtain ⟨a1, a2, a3, -⟩ := h.at hn hk
  rw [jck_pos (i12 (by omega)), jck_pos (i12 (by omega)), nI_clamp (by omega), a1, a3, jbd_eq ((h k hk).2.2.2.2.2 σ ρ hn).1, ← iI_nI, iI_sub]
abbrev jTx (σ0 ρ0 : jMem) (M : Nat) : Int32 → jMem → Unit → jMem → Prop := fun a m _ k => a = nI M ∧ jNu true σ0 ρ0 m k
/-- mark k was coded, what follows -/
def jW1 (σ0 ρ0 : jMem) (M c : Nat) (tr : Int32) (sf tf : Nat → Int) (D : Nat → Nat) (t k : Nat) : Prop := ∀ (N N' : Nat) (G : Int) (σ ρ : jMem), t < N → t < N' → (-2000 ≤ G ∧ G ≤ 2000) → jNu true σ0 ρ0 σ ρ → jPP (if nI M ≤ (nI k + (1 : Int32)) then (jbd (f_NU_codeNumber_W (8 : Int32) (-2147483648 : Int32) σ) (fun v298 n298 => f_IC_codeMarks_L48W N (nI c) tr (nI M) (iI (tf k)) (iI G) (iI (sf k + D k)) v298 (nI k + 1) n298)) else (jck (¬ ((nI k + (1 : Int32)) < 0 ∨ 12 ≤ (nI k + (1 : Int32)).toNatClampNeg)) (if (σ 7 ((nI k + (1 : Int32)).toNatClampNeg)) = iI (tf k) then (jbd (f_IC_startOf (nI k + (1 : Int32)) (nI c) tr σ) (fun v287 n287 => jbd (f_NU_codeNumber_W (8 : Int32) (v287 - iI (sf k + D k)) n287) (fun v298 n298 => f_IC_codeMarks_L48W N (nI c) tr (nI M) (iI (tf k)) (iI G) (iI (sf k + D k)) v298 (nI k + 1) n298))) else (jbd (f_NU_codeNumber_W (8 : Int32) (-2147483648 : Int32) σ) (fun v298 n298 => f_IC_codeMarks_L48W N (nI c) tr (nI M) (iI (tf k)) (iI G) (iI (sf k + D k)) v298 (nI k + 1) n298))))) (if nI k = ((ρ 38 5) - (1 : Int32)) then (jbd (f_MO_codeNumber (8 : Int32) (0 : Int32) (1 : Int32) ρ) (fun v196 n196 => f_MO_writeText_L20 N' (iI (tf k)) (iI G) (iI (sf k + D k)) (nI k + 1) n196)) else (jck (¬ ((nI k + (1 : Int32)) < 0 ∨ 12 ≤ (nI k + (1 : Int32)).toNatClampNeg)) (jck (¬ (nI k < 0 ∨ 12 ≤ k)) (if (ρ 44 ((nI k + (1 : Int32)).toNatClampNeg)) = (ρ 44 k) then (f_MO_writeText_L20 N' (iI (tf k)) (iI G) (iI (sf k + D k)) (nI k + 1) ρ) else (jbd (f_MO_codeNumber (8 : Int32) (0 : Int32) (1 : Int32) ρ) (fun v196 n196 => f_MO_writeText_L20 N' (iI (tf k)) (iI G) (iI (sf k + D k)) (nI k + 1) n196)))))) (jTx σ0 ρ0 M)
/-- a row begins -/
def jW0 (σ0 ρ0 : jMem) (M c : Nat) (tr : Int32) (tf : Nat → Int) (t k : Nat) : Prop := ∀ (N N' : Nat) (F G : Int) x7 x3 σ ρ, t < N → t < N' → (-100 ≤ F ∧ F ≤ 100) → (-2000 ≤ G ∧ G ≤ 2000) → (k = 0 ∨ k = M ∨ (1 ≤ k ∧ tf k ≠ tf (k - 1))) → jNu true σ0 ρ0 σ ρ → jPP (f_IC_codeMarks_L48W N (nI c) tr (nI M) (iI F) (iI G) x7 (-2147483648) (nI k) σ) (f_MO_writeText_L20 N' (iI F) (iI G) x3 (nI k) ρ) (jTx σ0 ρ0 M)
theorem tw_mark {σ0 ρ0 σ ρ : jMem} {S M c t k N N' : Nat} {tr : Int32} {vf : Nat → Nat} {sf tf : Nat → Int} {B D : Nat → Nat} {G : Int} (hm : ρ0 38 11 = 1) (hS : S ≤ 8) (hs : σ0 2 1 = nI S) (hM : M ≤ 12) (hMs : jMs σ0 ρ0 S M c tr vf sf tf B D) (hk : k < M) (e1 : jW1 σ0 ρ0 M c tr sf tf D t k) (h : jNu true σ0 ρ0 σ ρ) (hN : t < N) (hN' : t < N') (hG : -2000 ≤ G ∧ G ≤ 2000) : jPP (jbd (f_NU_codeIndex_W (σ 5 k) σ) (fun v167 n167 => if (f_IC_isSymbol v167 n167) = 0 then (some ((-1 : Int32), n167)) else (jbd (f_IC_before v167 (nI c) tr n167) (fun v190 n190 => if (f_IC_within (iI (sf k - B k) + v190) (-1000 : Int32) (1000 : Int32) n190) = 0 then (some ((-1 : Int32), n190)) else (jbd (f_MR_set (nI k) v167 (iI (sf k - B k) + v190) (iI (tf k)) n190) (fun _ n224 => jbd (f_IC_extent v167 tr n224) (fun v233 n233 => if nI M ≤ (nI k + (1 : Int32)) then (jbd (f_NU_codeNumber_W (8 : Int32) (-2147483648 : Int32) n233) (fun v298 n298 => f_IC_codeMarks_L48W N (nI c) tr (nI M) (iI (tf k)) (iI G) (iI (sf k - B k) + v233) v298 (nI k + 1) n298)) else (jck (¬ ((nI k + (1 : Int32)) < 0 ∨ 12 ≤ (nI k + (1 : Int32)).toNatClampNeg)) (if (n233 7 ((nI k + (1 : Int32)).toNatClampNeg)) = iI (tf k) then (jbd (f_IC_startOf (nI k + (1 : Int32)) (nI c) tr n233) (fun v287 n287 => jbd (f_NU_codeNumber_W (8 : Int32) (v287 - (iI (sf k - B k) + v233)) n287) (fun v298 n298 => f_IC_codeMarks_L48W N (nI c) tr (nI M) (iI (tf k)) (iI G) (iI (sf k - B k) + v233) v298 (nI k + 1) n298))) else (jbd (f_NU_codeNumber_W (8 : Int32) (-2147483648 : Int32) n233) (fun v298 n298 => f_IC_codeMarks_L48W N (nI c) tr (nI M) (iI (tf k)) (iI G) (iI (sf k - B k) + v233) v298 (nI k + 1) n298))))))))))) (jck (¬ (nI k < 0 ∨ 12 ≤ k)) (jbd (f_MO_codeIndex (ρ 42 k) ρ) (fun v137 n137 => jck (¬ (nI k < 0 ∨ 12 ≤ k)) (jck (¬ (nI k < 0 ∨ 12 ≤ k)) (jbd (f_MO_behind (n137 42 k) n137) (fun v156 n156 => if nI k = ((n156 38 5) - (1 : Int32)) then (jbd (f_MO_codeNumber (8 : Int32) (0 : Int32) (1 : Int32) n156) (fun v196 n196 => f_MO_writeText_L20 N' (iI (tf k)) (iI G) ((n137 43 k) + v156) (nI k + 1) n196)) else (jck (¬ ((nI k + (1 : Int32)) < 0 ∨ 12 ≤ (nI k + (1 : Int32)).toNatClampNeg)) (jck (¬ (nI k < 0 ∨ 12 ≤ k)) (if (n156 44 ((nI k + (1 : Int32)).toNatClampNeg)) = (n156 44 k) then (f_MO_writeText_L20 N' (iI (tf k)) (iI G) ((n137 43 k) + v156) (nI k + 1) n156) else (jbd (f_MO_codeNumber (8 : Int32) (0 : Int32) (1 : Int32) n156) (fun v196 n196 => f_MO_writeText_L20 N' (iI (tf k)) (iI G) ((n137 43 k) + v156) (nI k + 1) n196))))))))))) (jTx σ0 ρ0 M) := by
  obtain ⟨hv, hs1, ht1, hBD, -, hf⟩ := hMs k hk
  have ha := hMs.at h hk
  have c12 : ¬ (nI k < 0 ∨ 12 ≤ k) := by have := i12 (k := k) (by omega); rwa [nI_clamp (by omega)] at this
  refine .ckr c12 ?_
  rw [ha.1, ha.2.1]
  refine .bd (cdi_true hm h (fun _ => ⟨vf k, by omega, rfl, rfl⟩)) ?_
  rintro a m b k' ⟨rfl, hn, -, he⟩
  have he := he rfl
  subst he
  have hb := hMs.at hn hk
  have e21 : m 2 1 = nI S := (congrFun (hn.2.1 2 (by decide) (by decide) (by decide) (by decide) (by decide)) 1).trans hs
  obtain ⟨f1, f2, f3, f4⟩ := hf m k' hn
  rw [ic_sym hS e21, nI_toInt (by omega), if_pos (show 0 ≤ ((vf k : Nat) : Int) ∧ ((vf k : Nat) : Int) < S by omega), hb.2.1]
  refine .iln (by decide) (.bl f1 ?_)
  have eS : iI (sf k - B k) + nI (B k) = iI (sf k) := by rw [← iI_nI, iI_add]; congr 1; omega
  have eD : iI (sf k - B k) + nI (B k + D k) = iI (sf k + D k) := by rw [← iI_nI, iI_add]; congr 1; omega
  have eR : iI (sf k) + nI (D k) = iI (sf k + D k) := by rw [← iI_nI, iI_add]
  rw [i_w1000, eS, iI_toInt (by constructor <;> omega), if_pos hs1]
  have ks : f_MR_set (nI k) (nI (vf k)) (iI (sf k)) (iI (tf k)) m = some ((), m) := by
    unfold f_MR_set
    rw [jck_pos (i12 (by omega)), jck_pos (i12 (by omega)), jck_pos (i12 (by omega)), nI_clamp (by omega), ju_id hb.1, ju_id hb.2.2.1, ju_id hb.2.2.2.2.1]
  refine .iln (by decide) (.bl ks (.bl f4 (.ckr c12 (.ckr c12 (.br f3 ?_)))))
  rw [eD, hb.2.2.2.1, eR]
  exact e1 N N' G m k' hN hN' hG hn
theorem tw_e1 {σ0 ρ0 : jMem} {S M c : Nat} {tr : Int32} {vf : Nat → Nat} {sf tf : Nat → Int} {B D : Nat → Nat} (hm : ρ0 38 11 = 1) (hS : S ≤ 8) (hs : σ0 2 1 = nI S) (h5 : ρ0 38 5 = nI M) (hM : M ≤ 12) (hMs : jMs σ0 ρ0 S M c tr vf sf tf B D) {t k : Nat} (hk : k + 1 + t = M) (e0 : jW0 σ0 ρ0 M c tr tf t (k + 1)) (e1 : ∀ u, t = u + 1 → jW1 σ0 ρ0 M c tr sf tf D u (k + 1)) : jW1 σ0 ρ0 M c tr sf tf D t k := by
  intro N N' G σ ρ hN hN' hG hn
  obtain ⟨hv, hs1, ht1, hBD, -, hf⟩ := hMs k (by omega)
  have hb := hMs.at hn (k := k) (by omega)
  have h5' : ρ 38 5 = nI M := (hn.2.2.2 5 (by decide) (by decide)).trans h5
  rw [h5', nI_1]
  cases t with
  | zero =>
    have : M = k + 1 := by omega
    subst this
    refine .ilp (nI_le (by omega) (by omega)) (.irp (nI_pred k).symm ?_)
    refine .bd (tw_no (κ := 8) hm (by decide) hn) ?_
    rintro a m b k' ⟨rfl, hn2⟩
    exact e0 N N' _ G _ _ m k' hN hN' ht1 hG (Or.inr (Or.inl rfl)) hn2
  | succ u =>
    have ih := e1 u rfl
    obtain ⟨hv', hs', ht', hBD', -, hf'⟩ := hMs (k + 1) (by omega)
    have hb' := hMs.at hn (k := k + 1) (by omega)
    refine .iln (nI_ge (by omega) (by omega)) (.irn (fun q => ?_) ?_)
    · rw [nI_m1 (by omega)] at q
      have := (nI_eq (by omega) (by omega)).mp q
      omega
    have c12 : ¬ (nI (k + 1) < 0 ∨ 12 ≤ (nI (k + 1)).toNatClampNeg) := i12 (by omega)
    have c13 : ¬ (nI k < 0 ∨ 12 ≤ k) := by have := i12 (k := k) (by omega); rwa [nI_clamp (by omega)] at this
    refine .ckl c12 (.ckr c12 (.ckr c13 ?_))
    rw [nI_clamp (show k + 1 < 2 ^ 31 by omega)] at c12 ⊢
    rw [hb'.2.2.2.2.1, hb'.2.2.2.2.2, hb.2.2.2.2.2]
    by_cases ce : iI (tf (k + 1)) = iI (tf k)
    · have ceq := (iI_eq (by constructor <;> omega) (by constructor <;> omega)).mp ce
      refine .ilp ce (.irp ce (.bl (ic_start hMs hn (by omega) hM) ?_))
      obtain ⟨N', rfl⟩ : ∃ q, N' = q + 1 := ⟨N' - 1, by omega⟩
      unfold f_MO_writeText_L20
      rw [h5']
      refine .irn (nI_ge (by omega) (by omega)) ?_
      rw [show nI (k + 1) - 1 = nI k from nI_pred k, nI_clamp (show k + 1 < 2 ^ 31 by omega), nI_clamp (show k < 2 ^ 31 by omega), hb'.2.1, hb'.2.2.2.1]
      refine .ckr c12 (.ckr c12 (.br (hf' σ ρ hn).2.1 (.irn (nI_ne0 (by omega) (by omega)) (.ckr c12 (.ckr c13 ?_)))))
      rw [hb'.2.2.2.2.2, hb.2.2.2.2.2, ← iI_nI (B (k + 1))]
      simp only [iI_sub]
      refine .irp ce ?_
      have hX : -1000000 ≤ sf (k + 1) - B (k + 1) - (sf k + D k) ∧ sf (k + 1) - B (k + 1) - (sf k + D k) ≤ 1000000 := by omega
      refine .bd (tw_num (κ := 8) hm (by decide) hn hX) ?_
      rintro a m b k' ⟨rfl, rfl, hn2⟩
      obtain ⟨N, rfl⟩ : ∃ q, N = q + 1 := ⟨N - 1, by omega⟩
      unfold f_IC_codeMarks_L48W
      refine .iln (nI_ge (by omega) (by omega)) (.iln (iI_ne hX) (.ckl (i12 (by omega)) ?_))
      rw [nI_clamp (show k + 1 < 2 ^ 31 by omega), iI_add, show sf k + D k + (sf (k + 1) - B (k + 1) - (sf k + D k)) = sf (k + 1) - B (k + 1) from by omega, ← ceq]
      exact tw_mark hm hS hs hM hMs (by omega) ih hn2 (by omega) (by omega) hG
    · refine .iln ce (.irn ce ?_)
      refine .bd (tw_no (κ := 8) hm (by decide) hn) ?_
      rintro a m b k' ⟨rfl, hn2⟩
      exact e0 N N' _ G _ _ m k' hN hN' ht1 hG (Or.inr (Or.inr ⟨by omega, fun q => ce (by rw [q]; rfl)⟩)) hn2
theorem tw_e0 {σ0 ρ0 : jMem} {S M c : Nat} {tr : Int32} {vf : Nat → Nat} {sf tf : Nat → Int} {B D : Nat → Nat} (hm : ρ0 38 11 = 1) (hS : S ≤ 8) (hs : σ0 2 1 = nI S) (h5 : ρ0 38 5 = nI M) (hM : M ≤ 12) (hMs : jMs σ0 ρ0 S M c tr vf sf tf B D) {t k : Nat} (hk : k + 1 + t = M) (e1 : jW1 σ0 ρ0 M c tr sf tf D t k) : jW0 σ0 ρ0 M c tr tf (t + 1) k := by
  intro N N' F G x7 x3 σ ρ hN hN' hF hG hx hn
  obtain ⟨hv, hs1, ht1, hBD, -, hf⟩ := hMs k (by omega)
  have hb := hMs.at hn (k := k) (by omega)
  have h5' : ρ 38 5 = nI M := (hn.2.2.2 5 (by decide) (by decide)).trans h5
  obtain ⟨N, rfl⟩ : ∃ q, N = q + 1 := ⟨N - 1, by omega⟩
  obtain ⟨N', rfl⟩ : ∃ q, N' = q + 1 := ⟨N' - 1, by omega⟩
  have c12 : ¬ (nI k < 0 ∨ 12 ≤ k) := by have := i12 (k := k) (by omega); rwa [nI_clamp (by omega)] at this
  unfold f_IC_codeMarks_L48W f_MO_writeText_L20
  rw [h5', nI_clamp (show k < 2 ^ 31 by omega), hb.2.1, hb.2.2.2.1, hb.2.2.2.2.1]
  refine .iln (nI_ge (by omega) (by omega)) (.irn (nI_ge (by omega) (by omega)) (.ilp rfl (.ckl c12 (.ckr c12 (.ckr c12 (.br (hf σ ρ hn).2.1 ?_))))))
  rw [hb.2.2.2.2.2, ← iI_nI (B k)]
  simp only [iI_sub]
  have hX : -1000000 ≤ tf k - F ∧ tf k - F ≤ 1000000 := by omega
  have hY : -1000000 ≤ sf k - B k - G ∧ sf k - B k - G ≤ 1000000 := by omega
  have key : jPP (jbd (f_NU_codeNumber_W (6 : Int32) (iI (tf k - F)) σ) (fun v78 n78 => if v78 = (-2147483648 : Int32) then (some ((-1 : Int32), n78)) else (if (f_IC_isPlace (iI F + v78) n78) = 0 then (some ((-1 : Int32), n78)) else (jbd (f_IC_startOf (nI k) (nI c) tr n78) (fun v115 n115 => jbd (f_NU_codeNumber_W (7 : Int32) (v115 - iI G) n115) (fun v121 n121 => if v121 = (-2147483648 : Int32) then (some ((-1 : Int32), n121)) else (jck (¬ (nI k < 0 ∨ 12 ≤ k)) (jbd (f_NU_codeIndex_W (n121 5 k) n121) (fun v167 n167 => if (f_IC_isSymbol v167 n167) = 0 then (some ((-1 : Int32), n167)) else (jbd (f_IC_before v167 (nI c) tr n167) (fun v190 n190 => if (f_IC_within ((iI G + v121) + v190) (-1000 : Int32) (1000 : Int32) n190) = 0 then (some ((-1 : Int32), n190)) else (jbd (f_MR_set (nI k) v167 ((iI G + v121) + v190) (iI F + v78) n190) (fun _ n224 => jbd (f_IC_extent v167 tr n224) (fun v233 n233 => if nI M ≤ (nI k + (1 : Int32)) then (jbd (f_NU_codeNumber_W (8 : Int32) (-2147483648 : Int32) n233) (fun v298 n298 => f_IC_codeMarks_L48W N (nI c) tr (nI M) (iI F + v78) (iI G + v121) ((iI G + v121) + v233) v298 (nI k + 1) n298)) else (jck (¬ ((nI k + (1 : Int32)) < 0 ∨ 12 ≤ (nI k + (1 : Int32)).toNatClampNeg)) (if (n233 7 ((nI k + (1 : Int32)).toNatClampNeg)) = (iI F + v78) then (jbd (f_IC_startOf (nI k + (1 : Int32)) (nI c) tr n233) (fun v287 n287 => jbd (f_NU_codeNumber_W (8 : Int32) (v287 - ((iI G + v121) + v233)) n287) (fun v298 n298 => f_IC_codeMarks_L48W N (nI c) tr (nI M) (iI F + v78) (iI G + v121) ((iI G + v121) + v233) v298 (nI k + 1) n298))) else (jbd (f_NU_codeNumber_W (8 : Int32) (-2147483648 : Int32) n233) (fun v298 n298 => f_IC_codeMarks_L48W N (nI c) tr (nI M) (iI F + v78) (iI G + v121) ((iI G + v121) + v233) v298 (nI k + 1) n298)))))))))))))))))) (jbd (f_MO_codeNumber (6 : Int32) (iI (tf k - F)) (0 : Int32) ρ) (fun v87 n87 => jck (¬ (nI k < 0 ∨ 12 ≤ k)) (jbd (f_MO_codeNumber (7 : Int32) (iI (sf k - B k - G)) (0 : Int32) n87) (fun v107 n107 => jck (¬ (nI k < 0 ∨ 12 ≤ k)) (jbd (f_MO_codeIndex (n107 42 k) n107) (fun v137 n137 => jck (¬ (nI k < 0 ∨ 12 ≤ k)) (jck (¬ (nI k < 0 ∨ 12 ≤ k)) (jbd (f_MO_behind (n137 42 k) n137) (fun v156 n156 => if nI k = ((n156 38 5) - (1 : Int32)) then (jbd (f_MO_codeNumber (8 : Int32) (0 : Int32) (1 : Int32) n156) (fun v196 n196 => f_MO_writeText_L20 N' (n87 44 k) (iI (sf k - B k)) ((n137 43 k) + v156) (nI k + 1) n196)) else (jck (¬ ((nI k + (1 : Int32)) < 0 ∨ 12 ≤ (nI k + (1 : Int32)).toNatClampNeg)) (jck (¬ (nI k < 0 ∨ 12 ≤ k)) (if (n156 44 ((nI k + (1 : Int32)).toNatClampNeg)) = (n156 44 k) then (f_MO_writeText_L20 N' (n87 44 k) (iI (sf k - B k)) ((n137 43 k) + v156) (nI k + 1) n156) else (jbd (f_MO_codeNumber (8 : Int32) (0 : Int32) (1 : Int32) n156) (fun v196 n196 => f_MO_writeText_L20 N' (n87 44 k) (iI (sf k - B k)) ((n137 43 k) + v156) (nI k + 1) n196)))))))))))))) (jTx σ0 ρ0 M) := by
    refine .bd (tw_num (κ := 6) hm (by decide) hn hX) ?_
    rintro a m b k' ⟨rfl, rfl, hn2⟩
    have hb2 := hMs.at hn2 (k := k) (by omega)
    rw [iI_add, show F + (tf k - F) = tf k from by omega, ic_place, iI_toInt (by constructor <;> omega), if_pos ht1, hb2.2.2.2.2.2]
    refine .iln (iI_ne hX) (.iln (by decide) (.bl (ic_start hMs hn2 (by omega) hM) (.ckr c12 ?_)))
    rw [iI_sub]
    refine .bd (tw_num (κ := 7) hm (by decide) hn2 hY) ?_
    rintro a m b k' ⟨rfl, rfl, hn3⟩
    rw [iI_add, show G + (sf k - B k - G) = sf k - B k from by omega]
    refine .iln (iI_ne hY) (.ckl c12 ?_)
    exact tw_mark hm hS hs hM hMs (by omega) e1 hn3 (by omega) (by omega) (by omega)
  by_cases c0 : nI k = 0
  · exact .irp c0 (.ckr c12 key)
  · have k0 : k ≠ 0 := fun q => c0 (by rw [q]; rfl)
    have hb0 := hMs.at hn (k := k - 1) (by omega)
    obtain ⟨-, -, ht0, -⟩ := hMs (k - 1) (by omega)
    have hne : ¬ iI (tf k) = iI (tf (k - 1)) := fun q => by
      have := (iI_eq (by constructor <;> omega) (by constructor <;> omega)).mp q
      rcases hx with r | r | r
      · exact k0 r
      · omega
      · exact r.2 this
    rw [nI_m1 (show 1 ≤ k by omega), nI_clamp (show k - 1 < 2 ^ 31 by omega), hb0.2.2.2.2.2]
    have c11 : ¬ (nI (k - 1) < 0 ∨ 12 ≤ k - 1) := by have := i12 (k := k - 1) (by omega); rwa [nI_clamp (by omega)] at this
    exact .irn c0 (.ckr c12 (.ckr c11 (.irn hne (.ckr c12 key))))
theorem tw_loop {σ0 ρ0 : jMem} {S M c : Nat} {tr : Int32} {vf : Nat → Nat} {sf tf : Nat → Int} {B D : Nat → Nat} (hm : ρ0 38 11 = 1) (hS : S ≤ 8) (hs : σ0 2 1 = nI S) (h5 : ρ0 38 5 = nI M) (hM : M ≤ 12) (hMs : jMs σ0 ρ0 S M c tr vf sf tf B D) : ∀ t, (∀ k, k + t = M → jW0 σ0 ρ0 M c tr tf t k) ∧ (∀ k, k + 1 + t = M → jW1 σ0 ρ0 M c tr sf tf D t k) := by
  intro t
  induction t with
  | zero =>
    have d0 : ∀ k, k + 0 = M → jW0 σ0 ρ0 M c tr tf 0 k := by
      intro k hk N N' F G x7 x3 σ ρ hN hN' hF hG hx hn
      have : k = M := by omega
      subst this
      obtain ⟨N, rfl⟩ : ∃ q, N = q + 1 := ⟨N - 1, by omega⟩
      obtain ⟨N', rfl⟩ : ∃ q, N' = q + 1 := ⟨N' - 1, by omega⟩
      have h5' : ρ 38 5 = nI k := (hn.2.2.2 5 (by decide) (by decide)).trans h5
      unfold f_IC_codeMarks_L48W f_MO_writeText_L20
      exact .ilp (nI_le (by omega) (by omega)) (.ilp rfl (.irp (by rw [h5']; exact nI_le (by omega) (by omega)) (.ret ⟨rfl, hn⟩)))
    exact ⟨d0, fun k hk => tw_e1 hm hS hs h5 hM hMs hk (d0 _ hk) (fun u q => absurd q (by omega))⟩
  | succ t ih =>
    have d0 : ∀ k, k + (t + 1) = M → jW0 σ0 ρ0 M c tr tf (t + 1) k := fun k hk => tw_e0 hm hS hs h5 hM hMs (by omega) (ih.2 k (by omega))
    exact ⟨d0, fun k hk => tw_e1 hm hS hs h5 hM hMs hk (d0 _ hk) (fun u q => by
      have : u = t := by omega
      subst this
      exact ih.2 (k + 1) (by omega))⟩
