/-! dictionaries that are written, and both -/
theorem jnw_i {v : Int32} (h : -1000000 ≤ v.toInt ∧ v.toInt ≤ 1000000) : jnw_true v v 0 := by
  refine Or.inr ?_
  by_cases cn : 0 ≤ v.toInt
  · exact ⟨v.toInt.toNat, by omega, Or.inl (i_nat cn), rfl, rfl⟩
  · refine ⟨(-v.toInt).toNat, by omega, Or.inr ?_, rfl, rfl⟩
    apply Int32.toInt_inj.mp
    rw [sb_negT (by omega)]
    omega
theorem i_ne {v : Int32} (h : -1000000 ≤ v.toInt ∧ v.toInt ≤ 1000000) : v ≠ -2147483648 := by
  rintro rfl
  exact absurd h (by decide)
def jDw (σ0 ρ0 : jMem) (S : Nat) (dW dH : Nat → Nat) (σ ρ : jMem) : Prop := jD true σ ρ σ ρ ∧ (∀ p, p < 4 + S → jP σ ρ p (dW p) (dH p)) ∧ jDf σ0 ρ0 σ ρ
theorem jDw.nu {S : Nat} {dW dH : Nat → Nat} {σ0 ρ0 σ ρ m k : jMem} (h : jDw σ0 ρ0 S dW dH σ ρ) (hS : S ≤ 8) (hu : jNu true σ ρ m k) : jDw σ0 ρ0 S dW dH m k := ⟨hu.1, fun p hp => (h.2.1 p hp).nu (by omega) hu, h.2.2.nu hu⟩
theorem jDw.rg {S n : Nat} {dW dH : Nat → Nat} {σ0 ρ0 σ ρ m k : jMem} (h : jDw σ0 ρ0 S dW dH σ ρ) (hS : S ≤ 8) (hn : n < S) (hr : jRg true (4 + n) (dW (4 + n)) (dH (4 + n)) σ ρ m k) : jDw σ0 ρ0 S dW dH m k := ⟨hr.1, fun p hp => by
  by_cases e : p = 4 + n
  · subst e; exact hr.2.2.2
  · exact (h.2.1 p hp).rg e hr, h.2.2.rg (by omega) hr⟩
theorem jDw.m {S : Nat} {dW dH : Nat → Nat} {σ0 ρ0 σ ρ : jMem} (h : jDw σ0 ρ0 S dW dH σ ρ) (hm : ρ0 38 11 = 1) : ρ 38 11 = 1 := (h.2.2.2.2 11 (by decide) (by decide)).trans hm
theorem jDw.s {S : Nat} {dW dH : Nat → Nat} {σ0 ρ0 σ ρ : jMem} (h : jDw σ0 ρ0 S dW dH σ ρ) (hm : ρ0 38 4 = nI S) : ρ 38 4 = nI S := (h.2.2.2.2 4 (by decide) (by decide)).trans hm
theorem jDw.c {S : Nat} {dW dH : Nat → Nat} {σ0 ρ0 σ ρ : jMem} (h : jDw σ0 ρ0 S dW dH σ ρ) (hm : σ0 0 7 = 1) : ¬ σ 0 7 = 2 := by
  rw [(congrFun (h.2.2.1 0 (by decide) (by decide) (by decide) (by decide) (by decide) (by decide)) 7).trans hm]; decide
theorem jDw.n {S : Nat} {dW dH : Nat → Nat} {σ0 ρ0 σ ρ : jMem} (h : jDw σ0 ρ0 S dW dH σ ρ) : jNu true σ ρ σ ρ := ⟨h.1, .r _, .r _⟩
theorem dw_num {S κ : Nat} {dW dH : Nat → Nat} {σ0 ρ0 σ ρ : jMem} {v : Int32} (hm : ρ0 38 11 = 1) (hS : S ≤ 8) (hκ : κ < 9) (h : jDw σ0 ρ0 S dW dH σ ρ) (hv : -1000000 ≤ v.toInt ∧ v.toInt ≤ 1000000) : jPP (f_NU_codeNumber_W (nI κ) v σ) (f_MO_codeNumber (nI κ) v 0 ρ) (fun a m b k => a = v ∧ b = v ∧ jDw σ0 ρ0 S dW dH m k) := by
  refine (num_true hκ (h.m hm) h.n (fun _ => jnw_i hv)).mono ?_
  rintro a m b k ⟨hn, ha, h01, hb, hw⟩
  have e : a = v := hw rfl
  refine ⟨e, ?_, h.nu hS hn⟩
  by_cases c : k 38 20 = 0
  · rw [if_pos c] at ha; exact ha.symm.trans e
  · rw [if_neg c] at ha; exact absurd (e.symm.trans ha) (i_ne hv)
theorem dw_no {S κ : Nat} {dW dH : Nat → Nat} {σ0 ρ0 σ ρ : jMem} (hm : ρ0 38 11 = 1) (hS : S ≤ 8) (hκ : κ < 9) (h : jDw σ0 ρ0 S dW dH σ ρ) : jPP (f_NU_codeNumber_W (nI κ) (-2147483648) σ) (f_MO_codeNumber (nI κ) 0 1 ρ) (fun a m b k => a = -2147483648 ∧ jDw σ0 ρ0 S dW dH m k) := by
  refine (num_true hκ (h.m hm) h.n (fun _ => Or.inl ⟨rfl, rfl⟩)).mono ?_
  rintro a m b k ⟨hn, ha, h01, hb, hw⟩
  exact ⟨hw rfl, h.nu hS hn⟩
theorem i_dif {A B : Nat} (hA : A ≤ 24) (hB : B ≤ 24) : -1000000 ≤ (nI A - nI B).toInt ∧ (nI A - nI B).toInt ≤ 1000000 := by
  rw [pk_sub_toInt (by omega) (by omega)]
  omega
theorem i_add {A B : Int32} : A + (B - A) = B := by grind
abbrev jEx (σ0 ρ0 : jMem) (S : Nat) (dW dH : Nat → Nat) : Int32 → jMem → Unit → jMem → Prop := fun a m _ k => a = nI S ∧ jDw σ0 ρ0 S dW dH m k
/-- symbol k was coded, what follows -/
def jE1 (σ0 ρ0 : jMem) (S : Nat) (dW dH : Nat → Nat) (t k : Nat) : Prop := ∀ N N' x1 σ ρ, t < N → t < N' → jDw σ0 ρ0 S dW dH σ ρ → jPP (if nI S ≤ (nI k + (1 : Int32)) then (jbd (f_NU_codeNumber_W (5 : Int32) (-2147483648 : Int32) σ) (fun v230 n230 => f_IC_codeSymbols_L42W N (nI S) (nI (dH (4 + k))) (nI (dW (4 + k))) v230 (nI k + 1) n230)) else (jck (¬ ((nI k + (1 : Int32)) < 0 ∨ 8 ≤ (nI k + (1 : Int32)).toNatClampNeg)) (if (σ (14 + 2 * (4 + (nI k + (1 : Int32)).toNatClampNeg)) 2) = nI (dH (4 + k)) then (jck (¬ ((nI k + (1 : Int32)) < 0 ∨ 8 ≤ (nI k + (1 : Int32)).toNatClampNeg)) (jbd (f_NU_codeNumber_W (5 : Int32) ((σ (14 + 2 * (4 + (nI k + (1 : Int32)).toNatClampNeg)) 1) - nI (dW (4 + k))) σ) (fun v230 n230 => f_IC_codeSymbols_L42W N (nI S) (nI (dH (4 + k))) (nI (dW (4 + k))) v230 (nI k + 1) n230))) else (jbd (f_NU_codeNumber_W (5 : Int32) (-2147483648 : Int32) σ) (fun v230 n230 => f_IC_codeSymbols_L42W N (nI S) (nI (dH (4 + k))) (nI (dW (4 + k))) v230 (nI k + 1) n230))))) (if nI k = ((ρ 38 4) - (1 : Int32)) then (jbd (f_MO_codeNumber (5 : Int32) (0 : Int32) (1 : Int32) ρ) (fun v172 n172 => f_MO_writeDictionary_L20 N' x1 (nI (dH (4 + k))) (nI k + 1) n172)) else (jck (¬ (((5 : Int32) + nI k) < 0 ∨ 12 ≤ ((5 : Int32) + nI k).toNatClampNeg)) (jck (¬ (((4 : Int32) + nI k) < 0 ∨ 12 ≤ ((4 : Int32) + nI k).toNatClampNeg)) (if (ρ 41 (((5 : Int32) + nI k).toNatClampNeg)) = (ρ 41 (((4 : Int32) + nI k).toNatClampNeg)) then (f_MO_writeDictionary_L20 N' x1 (nI (dH (4 + k))) (nI k + 1) ρ) else (jbd (f_MO_codeNumber (5 : Int32) (0 : Int32) (1 : Int32) ρ) (fun v172 n172 => f_MO_writeDictionary_L20 N' x1 (nI (dH (4 + k))) (nI k + 1) n172)))))) (jEx σ0 ρ0 S dW dH)
/-- a height begins -/
def jE0 (σ0 ρ0 : jMem) (S : Nat) (dW dH : Nat → Nat) (t k : Nat) : Prop := ∀ N N' x1 h x4 σ ρ, t < N → t < N' → h ≤ 24 → (k = 0 ∨ k = S ∨ (1 ≤ k ∧ dH (4 + k) ≠ dH (3 + k))) → jDw σ0 ρ0 S dW dH σ ρ → jPP (f_IC_codeSymbols_L42W N (nI S) (nI h) x4 (-2147483648) (nI k) σ) (f_MO_writeDictionary_L20 N' x1 (nI h) (nI k) ρ) (jEx σ0 ρ0 S dW dH)
theorem e4k (k : Nat) : (4 : Int32) + nI k = nI (4 + k) := by rw [show (4 : Int32) = nI 4 from rfl, nI_add]
theorem e5k (k : Nat) : (5 : Int32) + nI k = nI (4 + (k + 1)) := by rw [show (5 : Int32) = nI 5 from rfl, nI_add]; congr 1; omega
theorem e3k (k : Nat) : (3 : Int32) + nI k = nI (3 + k) := by rw [show (3 : Int32) = nI 3 from rfl, nI_add]
theorem i12 {k : Nat} (h : k < 12) : ¬ (nI k < 0 ∨ 12 ≤ (nI k).toNatClampNeg) := nI_in h (by decide)
theorem i8 {k : Nat} (h : k < 8) : ¬ (nI k < 0 ∨ 8 ≤ (nI k).toNatClampNeg) := nI_in h (by decide)
theorem sd_ok {W : Nat} (hW : 1 ≤ W ∧ W ≤ 24) (σ : jMem) : ¬ f_IC_isSide (nI W) σ = 0 := by
  rw [ic_side, if_pos (by rw [nI_toInt (by omega)]; omega)]; decide
theorem jDw.d {S p : Nat} {dW dH : Nat → Nat} {σ0 ρ0 σ ρ : jMem} (h : jDw σ0 ρ0 S dW dH σ ρ) (hp : p < 4 + S) : (1 ≤ dW p ∧ dW p ≤ 24) ∧ (1 ≤ dH p ∧ dH p ≤ 24) ∧ σ (14 + 2 * p) 1 = nI (dW p) ∧ σ (14 + 2 * p) 2 = nI (dH p) ∧ ρ 40 p = nI (dW p) ∧ ρ 41 p = nI (dH p) := by
  obtain ⟨⟨a1, a2, a3, a4, a5, a6, -⟩, b1, b2, -⟩ := h.2.1 p hp
  exact ⟨⟨a1, a2⟩, ⟨a3, a4⟩, b1, b2, a5, a6⟩
theorem z_add (x : Int32) : (0 : Int32) + x = x := by grind
theorem dw_e1 {σ0 ρ0 : jMem} {S : Nat} {dW dH : Nat → Nat} (hm : ρ0 38 11 = 1) (hc : σ0 0 7 = 1) (hs : ρ0 38 4 = nI S) (hS : S ≤ 8) {t k : Nat} (hk : k + 1 + t = S) (e0 : jE0 σ0 ρ0 S dW dH t (k + 1)) (e1 : ∀ u, t = u + 1 → jE1 σ0 ρ0 S dW dH u (k + 1)) : jE1 σ0 ρ0 S dW dH t k := by
  intro N N' x1 σ ρ hN hN' hd
  have d1 := hd.d (p := 4 + k) (by omega)
  rw [hd.s hs, nI_1]
  cases t with
  | zero =>
    have : S = k + 1 := by omega
    subst this
    refine .ilp (nI_le (by omega) (by omega)) (.irp (nI_pred k).symm ?_)
    refine .bd (dw_no (κ := 5) hm hS (by decide) hd) ?_
    rintro a m b k' ⟨rfl, hd2⟩
    exact e0 N N' x1 _ _ m k' hN hN' (by omega) (Or.inr (Or.inl rfl)) hd2
  | succ u =>
    have ih := e1 u rfl
    have d2 := hd.d (p := 4 + (k + 1)) (by omega)
    refine .iln (nI_ge (by omega) (by omega)) (.irn (fun q => ?_) ?_)
    · rw [show nI S - 1 = nI (S - 1) from by rw [show S = (S - 1) + 1 from by omega, nI_pred]; rfl] at q
      have := (nI_eq (by omega) (by omega)).mp q
      omega
    have c8 : ¬ (nI (k + 1) < 0 ∨ 8 ≤ (nI (k + 1)).toNatClampNeg) := i8 (by omega)
    rw [e5k, e4k]
    refine .ckl c8 (.ckr (i12 (by omega)) (.ckr (i12 (by omega)) ?_))
    rw [nI_clamp (show k + 1 < 2 ^ 31 by omega), nI_clamp (show 4 + (k + 1) < 2 ^ 31 by omega), nI_clamp (show 4 + k < 2 ^ 31 by omega), d2.2.2.1, d2.2.2.2.1, d2.2.2.2.2.2, d1.2.2.2.2.2]
    rw [nI_clamp (by omega)] at c8
    by_cases ce : nI (dH (4 + (k + 1))) = nI (dH (4 + k))
    · have ceq := (nI_eq (by omega) (by omega)).mp ce
      refine .ilp ce (.irp ce (.ckl c8 ?_))
      obtain ⟨N', rfl⟩ : ∃ q, N' = q + 1 := ⟨N' - 1, by omega⟩
      unfold f_MO_writeDictionary_L20
      rw [hd.s hs, e4k, e3k]
      refine .irn (nI_ge (by omega) (by omega)) (.irn (nI_ne0 (by omega) (by omega)) (.ckr (i12 (by omega)) (.ckr (i12 (by omega)) ?_)))
      rw [nI_clamp (show 4 + (k + 1) < 2 ^ 31 by omega), nI_clamp (show 3 + (k + 1) < 2 ^ 31 by omega), show 3 + (k + 1) = 4 + k from by omega, d2.2.2.2.2.2, d1.2.2.2.2.2, d2.2.2.2.2.1, d1.2.2.2.2.1]
      have c12 : ¬ (nI (4 + (k + 1)) < 0 ∨ 12 ≤ 4 + (k + 1)) := by have := i12 (k := 4 + (k + 1)) (by omega); rwa [nI_clamp (by omega)] at this
      have c13 : ¬ (nI (4 + k) < 0 ∨ 12 ≤ 4 + k) := by have := i12 (k := 4 + k) (by omega); rwa [nI_clamp (by omega)] at this
      refine .irp ce (.ckr c12 (.ckr c13 ?_))
      have hv := i_dif (A := dW (4 + (k + 1))) (B := dW (4 + k)) (by omega) (by omega)
      refine .bd (dw_num (κ := 5) hm hS (by decide) hd hv) ?_
      rintro a m b k' ⟨rfl, rfl, hd2⟩
      obtain ⟨N, rfl⟩ : ∃ q, N = q + 1 := ⟨N - 1, by omega⟩
      unfold f_IC_codeSymbols_L42W
      refine .iln (nI_ge (by omega) (by omega)) (.ckl (i8 (by omega)) (.iln (i_ne hv) (.iln (i_ne hv) ?_)))
      rw [i_add, nI_clamp (show k + 1 < 2 ^ 31 by omega)]
      refine .iln (sd_ok d2.1 _) (.iln (hd2.c hc) ?_)
      refine .bd (rgn_true (t5 := 2) (by omega) (hd2.m hm) (by omega) hd2.1 (hd2.2.1 _ (by omega))) ?_
      rintro _ m2 _ k2 ⟨-, hr⟩
      have := ih N N' x1 m2 k2 (by omega) (by omega) (hd2.rg hS (by omega) hr)
      rw [ceq, e4k, nI_clamp (show 4 + (k + 1) < 2 ^ 31 by omega)] at this
      exact this
    · refine .iln ce (.irn ce ?_)
      refine .bd (dw_no (κ := 5) hm hS (by decide) hd) ?_
      rintro a m b k' ⟨rfl, hd2⟩
      exact e0 N N' x1 _ _ m k' hN hN' (by omega) (Or.inr (Or.inr ⟨by omega, fun q => ce (by rw [q, show 3 + (k + 1) = 4 + k from by omega])⟩)) hd2
theorem dw_e0 {σ0 ρ0 : jMem} {S : Nat} {dW dH : Nat → Nat} (hm : ρ0 38 11 = 1) (hc : σ0 0 7 = 1) (hs : ρ0 38 4 = nI S) (hS : S ≤ 8) {t k : Nat} (hk : k + 1 + t = S) (e1 : jE1 σ0 ρ0 S dW dH t k) : jE0 σ0 ρ0 S dW dH (t + 1) k := by
  intro N N' x1 h x4 σ ρ hN hN' hh hx hd
  have d1 := hd.d (p := 4 + k) (by omega)
  obtain ⟨N, rfl⟩ : ∃ q, N = q + 1 := ⟨N - 1, by omega⟩
  obtain ⟨N', rfl⟩ : ∃ q, N' = q + 1 := ⟨N' - 1, by omega⟩
  unfold f_IC_codeSymbols_L42W f_MO_writeDictionary_L20
  rw [hd.s hs, e4k, e3k]
  refine .iln (nI_ge (by omega) (by omega)) (.irn (nI_ge (by omega) (by omega)) (.ckl (i8 (by omega)) (.ilp rfl ?_)))
  rw [nI_clamp (show k < 2 ^ 31 by omega), nI_clamp (show 4 + k < 2 ^ 31 by omega), nI_clamp (show 3 + k < 2 ^ 31 by omega), d1.2.2.2.1, d1.2.2.2.2.2]
  have c12 : ¬ (nI (4 + k) < 0 ∨ 12 ≤ 4 + k) := by have := i12 (k := 4 + k) (by omega); rwa [nI_clamp (by omega)] at this
  have c13 : ¬ (nI (3 + k) < 0 ∨ 12 ≤ 3 + k) := by have := i12 (k := 3 + k) (by omega); rwa [nI_clamp (by omega)] at this
  have hv := i_dif (A := dH (4 + k)) (B := h) (by omega) (by omega)
  have key : ∀ {X : Int32 → jMem → Option (Int32 × jMem)} {Y : Int32 → jMem → Option (Unit × jMem)}, (∀ m k', jDw σ0 ρ0 S dW dH m k' → jPP (X (nI (dH (4 + k)) - nI h) m) (Y (nI (dH (4 + k)) - nI h) k') (jEx σ0 ρ0 S dW dH)) → jPP (jbd (f_NU_codeNumber_W (4 : Int32) (nI (dH (4 + k)) - nI h) σ) X) (jbd (f_MO_codeNumber (4 : Int32) (nI (dH (4 + k)) - nI h) (0 : Int32) ρ) Y) (jEx σ0 ρ0 S dW dH) := by
    intro X Y hXY
    refine .bd (dw_num (κ := 4) hm hS (by decide) hd hv) ?_
    rintro a m b k' ⟨rfl, rfl, hd2⟩
    exact hXY m k' hd2
  have fin : ∀ m k', jDw σ0 ρ0 S dW dH m k' → ∀ {X : Int32 → jMem → Option (Int32 × jMem)} {Y : Int32 → jMem → Option (Unit × jMem)}, (∀ m k', jDw σ0 ρ0 S dW dH m k' → jPP (X (nI (dW (4 + k))) m) (Y (nI (dW (4 + k))) k') (jEx σ0 ρ0 S dW dH)) → jPP (jbd (f_NU_codeNumber_W (5 : Int32) (m (14 + 2 * (4 + k)) 1) m) X) (jck (¬ (nI (4 + k) < 0 ∨ 12 ≤ 4 + k)) (jck (¬ (nI (4 + k) < 0 ∨ 12 ≤ 4 + k)) (jbd (f_MO_codeNumber (5 : Int32) (k' 40 (4 + k)) (0 : Int32) k') Y))) (jEx σ0 ρ0 S dW dH) := by
    intro m k' hd2 X Y hXY
    have d2 := hd2.d (p := 4 + k) (by omega)
    refine .ckr c12 (.ckr c12 ?_)
    rw [d2.2.2.1, d2.2.2.2.2.1]
    refine .bd (dw_num (κ := 5) hm hS (by decide) hd2 (by rw [nI_toInt (by omega)]; omega)) ?_
    rintro a m3 b k3 ⟨rfl, rfl, hd3⟩
    exact hXY m3 k3 hd3
  have hw0 : nI (dW (4 + k)) ≠ -2147483648 := i_ne (by rw [nI_toInt (by omega)]; omega)
  by_cases c0 : nI k = 0
  · refine .irp c0 (.ckr c12 (key ?_))
    intro m k' hd2
    have d2 := hd2.d (p := 4 + k) (by omega)
    rw [i_add, d2.2.2.2.2.2]
    refine .iln (i_ne hv) (.iln (sd_ok d1.2.1 _) (fin m k' hd2 ?_))
    intro m3 k3 hd3
    rw [z_add]
    refine .iln hw0 (.iln (sd_ok d1.1 _) (.iln (hd3.c hc) ?_))
    refine .bd (rgn_true (t5 := 2) (by omega) (hd3.m hm) (by omega) hd3.1 (hd3.2.1 _ (by omega))) ?_
    rintro _ m2 _ k2 ⟨-, hr⟩
    have := e1 N N' x1 m2 k2 (by omega) (by omega) (hd3.rg hS (by omega) hr)
    rw [e4k, nI_clamp (show 4 + k < 2 ^ 31 by omega)] at this
    exact this
  · have k0 : k ≠ 0 := fun q => c0 (by rw [q]; rfl)
    have d0 := hd.d (p := 3 + k) (by omega)
    have hne : ¬ nI (dH (4 + k)) = nI (dH (3 + k)) := fun q => by
      have := (nI_eq (by omega) (by omega)).mp q
      rcases hx with r | r | r
      · exact k0 r
      · omega
      · exact r.2 this
    rw [d0.2.2.2.2.2]
    refine .irn c0 (.ckr c12 (.ckr c13 (.irn hne (.ckr c12 (key ?_)))))
    intro m k' hd2
    have d2 := hd2.d (p := 4 + k) (by omega)
    rw [i_add, d2.2.2.2.2.2]
    refine .iln (i_ne hv) (.iln (sd_ok d1.2.1 _) (fin m k' hd2 ?_))
    intro m3 k3 hd3
    rw [z_add]
    refine .iln hw0 (.iln (sd_ok d1.1 _) (.iln (hd3.c hc) ?_))
    refine .bd (rgn_true (t5 := 2) (by omega) (hd3.m hm) (by omega) hd3.1 (hd3.2.1 _ (by omega))) ?_
    rintro _ m2 _ k2 ⟨-, hr⟩
    have := e1 N N' x1 m2 k2 (by omega) (by omega) (hd3.rg hS (by omega) hr)
    rw [e4k, nI_clamp (show 4 + k < 2 ^ 31 by omega)] at this
    exact this
theorem dw_loop {σ0 ρ0 : jMem} {S : Nat} {dW dH : Nat → Nat} (hm : ρ0 38 11 = 1) (hc : σ0 0 7 = 1) (hs : ρ0 38 4 = nI S) (hS : S ≤ 8) : ∀ t, (∀ k, k + t = S → jE0 σ0 ρ0 S dW dH t k) ∧ (∀ k, k + 1 + t = S → jE1 σ0 ρ0 S dW dH t k) := by
  intro t
  induction t with
  | zero =>
    have d0 : ∀ k, k + 0 = S → jE0 σ0 ρ0 S dW dH 0 k := by
      intro k hk N N' x1 h x4 σ ρ hN hN' hh hx hd
      have : k = S := by omega
      subst this
      obtain ⟨N, rfl⟩ : ∃ q, N = q + 1 := ⟨N - 1, by omega⟩
      obtain ⟨N', rfl⟩ : ∃ q, N' = q + 1 := ⟨N' - 1, by omega⟩
      unfold f_IC_codeSymbols_L42W f_MO_writeDictionary_L20
      exact .ilp (nI_le (by omega) (by omega)) (.ilp rfl (.irp (by rw [hd.s hs]; exact nI_le (by omega) (by omega)) (.ret ⟨rfl, hd⟩)))
    exact ⟨d0, fun k hk => dw_e1 hm hc hs hS hk (d0 _ hk) (fun u q => absurd q (by omega))⟩
  | succ t ih =>
    have d0 : ∀ k, k + (t + 1) = S → jE0 σ0 ρ0 S dW dH (t + 1) k := fun k hk => dw_e0 hm hc hs hS (by omega) (ih.2 k (by omega))
    exact ⟨d0, fun k hk => dw_e1 hm hc hs hS hk (d0 _ hk) (fun u q => by
      have : u = t := by omega
      subst this
      exact ih.2 (k + 1) (by omega))⟩
theorem jP.dim {σ ρ : jMem} {p W H : Nat} (h : jP σ ρ p W H) : jP σ ρ p (ρ 40 p).toNatClampNeg (ρ 41 p).toNatClampNeg := by
  have h1 := h.1.2.1
  have h2 := h.1.2.2.2.1
  rw [h.1.2.2.2.2.1, h.1.2.2.2.2.2.1, nI_clamp (by omega), nI_clamp (by omega)]
  exact h
theorem dw_all {σ ρ : jMem} {S M : Nat} (h : jGl 1 S M σ ρ) : jPP (f_IC_codeSymbols σ) (f_MO_writeDictionary ρ) (jEx σ ρ S (fun p => (ρ 40 p).toNatClampNeg) (fun p => (ρ 41 p).toNatClampNeg)) := by
  have hm : ρ 38 11 = 1 := h.1.2.2
  have hc : σ 0 7 = 1 := h.1.2.1
  have hS := h.2.1.1
  unfold f_IC_codeSymbols f_MO_writeDictionary
  refine .ilp hc ?_
  have h0 : jDw σ ρ S (fun p => (ρ 40 p).toNatClampNeg) (fun p => (ρ 41 p).toNatClampNeg) σ ρ := ⟨h.2.2.2.2.1.1 rfl, fun p hp => by
    obtain ⟨W, H, q⟩ := h.2.2.2.2.2.1 p hp
    exact q.dim, .r _ _⟩
  rw [h.2.1.2.1, h.2.1.2.2]
  have hv : -1000000 ≤ (nI S).toInt ∧ (nI S).toInt ≤ 1000000 := by rw [nI_toInt (by omega)]; omega
  refine .bd (dw_num (κ := 3) hm hS (by decide) h0 hv) ?_
  rintro a m b k ⟨rfl, rfl, hd⟩
  have hw : f_IC_within (nI S) (0 : Int32) (8 : Int32) m = 1 := by
    have := w_in (X := (nI S).toInt) (A := 0) (B := 8) m (iI_rg _) (by decide) (by decide)
    rw [← iI_of (nI S), if_pos (by rw [nI_toInt (by omega)]; omega)] at this
    exact this
  rw [hw, hd.s h.2.1.2.2, show nI S - nI S = nI 0 from by rw [pk_sub (by omega)]; congr 1; omega]
  refine .iln (by decide) ?_
  exact (dw_loop hm hc h.2.1.2.2 hS S).1 0 (by omega) jfu jfu _ 0 0 m k (by show S < 20000; omega) (by show S < 20000; omega) (by decide) (Or.inl rfl) hd
theorem jFr.df {σ0 ρ0 σ ρ m k : jMem} (h : jFr σ0 ρ0 σ ρ) (hd : jDf σ ρ m k) : jFr σ0 ρ0 m k := h.x (fun o ho => hd.1 o (by omega) (by omega) (by omega) (by omega) (by omega) (by omega)) (fun o ho => hd.2.1 o (by omega) (by omega) (by omega))
theorem m_dictionary {md S M : Nat} {σ ρ : jMem} (h : jGl md S M σ ρ) : jPP (f_IC_dictionary σ) (f_MO_dictionary ρ) (jpx c2 σ ρ) := by
  unfold f_IC_dictionary f_MO_dictionary
  rw [ic_idle h.1.1 h.1.2.1, h.1.2.2]
  by_cases c0 : md = 0
  · subst c0
    rw [if_pos rfl, jbt_ex]
    exact .irp rfl (.ret (jx_ex h rfl))
  rw [if_neg c0, jbt_in]
  refine .irn (jmdn h.1.1 c0) ?_
  have hz := h.th 0
  have hS := h.2.1.1
  by_cases c1 : md = 1
  · subst c1
    refine .irp rfl (.bd (dw_all hz) ?_)
    rintro a m _ k ⟨rfl, hd⟩
    have ns : ¬ nI S = -1 := fun q => by
      have := congrArg Int32.toInt q
      rw [nI_toInt (by omega), show (-1 : Int32).toInt = -1 from by decide] at this
      omega
    rw [hd.s hz.2.1.2.2]
    refine .iln (hd.c hz.1.2.1) (.iln ns (.ret ⟨⟨⟨1, S, M, ?_⟩, ((jFr.r σ ρ).th (by decide)).df hd.2.2⟩, (hd.2.2.2.2 0 (by decide) (by decide)).trans ju38, rfl⟩))
    refine hz.cod (w := true) rfl hd.1 (fun o h1 h8 h9 h11 h12 h13 => hd.2.2.1 o h8 h9 h11 h12 h13 (by omega)) ?_ (fun o h1 h2 => hd.2.2.2.1 o (by omega) (by omega) (by omega)) (fun p hp => ⟨_, _, hd.2.1 p hp⟩)
    rintro j (rfl | rfl | rfl)
    · exact hd.2.2.2.2 4 (by decide) (by decide)
    · exact hd.2.2.2.2 5 (by decide) (by decide)
    · exact hd.2.2.2.2 11 (by decide) (by decide)
  · have := jmd h.1.1 c0 c1
    subst this
    refine .irn (by decide) (.bd (dr_all hz) ?_)
    rintro a m b k ⟨T, hT, rfl, hq⟩
    have mk : ∀ {n md' : Nat}, n ≤ 8 → jDy σ (ju ρ 38 0 0) n m k → (md' = 0 ∨ md' = 2) → ∀ m' k', (∀ o, o < 38 → o ≠ 0 → o ≠ 2 → o ≠ 4 → m' o = m o) → m' 0 7 = nI md' → m' 2 1 = nI n → m' 4 3 = nI 0 → (∀ j, j ≠ 4 → j ≠ 5 → j ≠ 11 → k' 38 j = k 38 j) → (∀ o, 39 ≤ o → o < 47 → k' o = k o) → k' 38 11 = nI md' → k' 38 4 = nI n → k' 38 5 = nI 0 → jGl md' n 0 m' k' := by
      intro n md' hn hd hmd m' k' a1 a2 a3 a4 a5 a6 a7 a8 a9
      have hd' : jD false m' k' m' k' := hd.1.g (a1 8 (by decide) (by decide) (by decide) (by decide)) (a1 9 (by decide) (by decide) (by decide) (by decide)) (a1 11 (by decide) (by decide) (by decide) (by decide)) (a1 12 (by decide) (by decide) (by decide) (by decide)) (a1 13 (by decide) (by decide) (by decide) (by decide)) (fun j hj => a5 j (by omega) (by omega) (by omega)) (a6 45 (by decide) (by decide)) (a6 46 (by decide) (by decide))
      refine ⟨⟨by omega, a2, a7⟩, ⟨hn, a3, a8⟩, ⟨by decide, a4, a9⟩, hd'.cb, ⟨fun q => by omega, fun _ => hd'⟩, ?_, ?_, fun j hj => absurd hj (by omega)⟩
      · intro p hp
        obtain ⟨W, H, q⟩ := hd.2.1 p hp
        exact ⟨W, H, q.o (fun o h1 h2 => a1 o h2 (by omega) (by omega) (by omega)) (by omega) (a6 39 (by decide) (by decide)) (a6 40 (by decide) (by decide)) (a6 41 (by decide) (by decide))⟩
      · intro j hj
        rw [a1 5 (by decide) (by decide) (by decide) (by decide), hd.2.2.1 5 (by decide) (by decide) (by decide) (by decide) (by decide) (by decide)]
        exact h.2.2.2.2.2.2.1 j hj
    rcases hq with ⟨rfl, hd⟩ | ⟨rfl, hd⟩
    · refine .ilp (hd.c hz.1.2.1) (.ilp rfl (.ilp rfl (.irn i_neg1 (.irn i_neg1 (.ret ⟨⟨⟨0, 0, 0, ?_⟩, ?_⟩, ?_, rfl⟩)))))
      · refine mk (by decide) hd (Or.inl rfl) _ _ ?_ ?_ ?_ ?_ ?_ ?_ ?_ ?_ ?_
        · intro o _ h0 h2 h4; rw [ju_n h0, ju_n h4, ju_n h2]
        · simp [ju_ap]; rfl
        · simp [ju_ap]; rfl
        · simp [ju_ap]; rfl
        · intro j j4 j5 j11; simp [ju_ap, j4, j5, j11]
        · intro o h1 h2; rw [ju_n (by omega), ju_n (by omega), ju_n (by omega)]
        · simp [ju_ap]; rfl
        · simp [ju_ap]; rfl
        · simp [ju_ap]; rfl
      · exact (((((((jFr.r σ ρ).th (k := 0) (v := 0) (o := 38) (by decide)).df hd.2.2).th (by decide)).th (by decide)).th (by decide)).cl (by decide) |>.cl (by decide)).cl (by decide)
      · have := (hd.2.2.2.2 0 (by decide) (by decide)).trans ju38
        simp [ju_ap, this]
    · have ns : ¬ nI T = -1 := fun q => by
        have := congrArg Int32.toInt q
        rw [nI_toInt (by omega), show (-1 : Int32).toInt = -1 from by decide] at this
        omega
      have ps : (0 : Int32) ≤ nI T := nI_pos' (by omega)
      have k11 := hd.m hz.1.2.2
      refine .ilp (hd.c hz.1.2.1) (.iln ns (.iln ns (.irp ps (.irp ps (.ret ⟨⟨⟨2, T, 0, ?_⟩, ?_⟩, ?_, rfl⟩)))))
      · refine mk hT hd (Or.inr rfl) _ _ ?_ ?_ ?_ ?_ ?_ ?_ ?_ ?_ ?_
        · intro o _ h0 h2 h4; rw [ju_n h4, ju_n h2]
        · have := hd.c hz.1.2.1; simp [ju_ap, this]; rfl
        · simp [ju_ap]
        · simp [ju_ap]; rfl
        · intro j j4 j5 j11; simp [ju_ap, j4, j5, j11]
        · intro o h1 h2; rw [ju_n (by omega), ju_n (by omega), ju_n (by omega)]
        · simp [ju_ap, k11]; rfl
        · simp [ju_ap]
        · simp [ju_ap]; rfl
      · exact (((((((jFr.r σ ρ).th (k := 0) (v := 0) (o := 38) (by decide)).df hd.2.2).th (by decide)).th (by decide)).th (by decide)).cl (by decide) |>.cl (by decide))
      · have := (hd.2.2.2.2 0 (by decide) (by decide)).trans ju38
        simp [ju_ap, this]
