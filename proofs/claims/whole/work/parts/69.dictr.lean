/-! dictionaries that are read -/
theorem jbd_as {α β γ : Type} {x : Option (α × jMem)} {f : α → jMem → Option (β × jMem)} {g : β → jMem → Option γ} : jbd (jbd x f) g = jbd x (fun a m => jbd (f a m) g) := by
  cases x with
  | none => rfl
  | some q => rfl
theorem mo_len (x : Int32) (σ : jMem) : f_MO_isLength x σ = if 1 ≤ x.toInt ∧ x.toInt ≤ 24 then 1 else 0 := by
  unfold f_MO_isLength
  have h0 : x ≤ 0 ↔ x.toInt ≤ 0 := i_le x 0 (by decide)
  have h4 : (25 : Int32) ≤ x ↔ 25 ≤ x.toInt := i_ge x 25 (by decide)
  by_cases c1 : x.toInt ≤ 0
  · rw [if_pos (h0.mpr c1), if_neg (by omega)]
  · rw [if_neg (fun q => c1 (h0.mp q))]
    by_cases c2 : 25 ≤ x.toInt
    · rw [if_pos (h4.mpr c2), if_neg (by omega)]
    · rw [if_neg (fun q => c2 (h4.mp q)), if_pos (by omega)]
def jDf (σ0 ρ0 σ ρ : jMem) : Prop := (∀ o, o ≠ 8 → o ≠ 9 → o ≠ 11 → o ≠ 12 → o ≠ 13 → ¬ (22 ≤ o ∧ o < 38) → σ o = σ0 o) ∧ (∀ o, ¬ (38 ≤ o ∧ o ≤ 41) → o ≠ 45 → o ≠ 46 → ρ o = ρ0 o) ∧ (∀ j, j ≠ 9 → ¬ (12 ≤ j ∧ j ≤ 20) → ρ 38 j = ρ0 38 j)
theorem jDf.r (σ ρ : jMem) : jDf σ ρ σ ρ := ⟨fun _ _ _ _ _ _ _ => rfl, fun _ _ _ _ => rfl, fun _ _ _ => rfl⟩
theorem jDf.nu {w : Bool} {σ0 ρ0 σ ρ m k : jMem} (h : jDf σ0 ρ0 σ ρ) (hn : jNu w σ ρ m k) : jDf σ0 ρ0 m k := ⟨fun o h1 h2 h3 h4 h5 h6 => (hn.2.1 o h1 h2 h3 h4 h5).trans (h.1 o h1 h2 h3 h4 h5 h6), fun o h1 h2 h3 => (hn.2.2.1 o (by omega) h2 h3).trans (h.2.1 o h1 h2 h3), fun j h1 h2 => (hn.2.2.2 j h1 h2).trans (h.2.2 j h1 h2)⟩
theorem jDf.z {b : Nat} {σ0 ρ0 σ ρ m k : jMem} (h : jDf σ0 ρ0 σ ρ) (hb : 4 ≤ b ∧ b < 12) (h1 : jKb b σ m) (h2 : jKz b ρ k) : jDf σ0 ρ0 m k := ⟨fun o z1 z2 z3 z4 z5 z6 => (h1 o (by omega) (by omega)).trans (h.1 o z1 z2 z3 z4 z5 z6), fun o z1 z2 z3 => (h2.1 o (by omega) (by omega) (by omega)).trans (h.2.1 o z1 z2 z3), fun j z1 z2 => (by rw [h2.1 38 (by decide) (by decide) (by decide)] : k 38 j = ρ 38 j).trans (h.2.2 j z1 z2)⟩
theorem jDf.rg {w : Bool} {b W H : Nat} {σ0 ρ0 σ ρ m k : jMem} (h : jDf σ0 ρ0 σ ρ) (hb : 4 ≤ b ∧ b < 12) (hr : jRg w b W H σ ρ m k) : jDf σ0 ρ0 m k := ⟨fun o z1 z2 z3 z4 z5 z6 => (hr.2.1 o z1 z2 z3 z4 z5 (by omega)).trans (h.1 o z1 z2 z3 z4 z5 z6), fun o z1 z2 z3 => (hr.2.2.1.1 o (by omega) (by omega) z2 z3).trans (h.2.1 o z1 z2 z3), fun j z1 z2 => (hr.2.2.1.2.1 j z1 z2).trans (h.2.2 j z1 z2)⟩
theorem jP.nu {w : Bool} {p W H : Nat} {σ ρ m k : jMem} (h : jP σ ρ p W H) (hp : p < 12) (hn : jNu w σ ρ m k) : jP m k p W H := h.o (fun o h1 h2 => hn.2.1 o (by omega) (by omega) (by omega) (by omega) (by omega)) hp (hn.2.2.1 39 (by decide) (by decide) (by decide)) (hn.2.2.1 40 (by decide) (by decide) (by decide)) (hn.2.2.1 41 (by decide) (by decide) (by decide))
theorem jP.rg {w : Bool} {p b W H W' H' : Nat} {σ ρ m k : jMem} (h : jP σ ρ p W H) (hp : p ≠ b) (hr : jRg w b W' H' σ ρ m k) : jP m k p W H := h.c (hr.2.1 _ (by omega) (by omega) (by omega) (by omega) (by omega) (by omega)) (hr.2.1 _ (by omega) (by omega) (by omega) (by omega) (by omega) (by omega)) (fun y hy => hr.2.2.1.2.2 _ (by omega)) (by rw [hr.2.2.1.1 40 (by decide) (by decide) (by decide) (by decide)]) (by rw [hr.2.2.1.1 41 (by decide) (by decide) (by decide) (by decide)])
theorem jD.z {w : Bool} {b : Nat} {σ ρ m k : jMem} (h : jD w σ ρ σ ρ) (h1 : jKb b σ m) (h2 : jKz b ρ k) : jD w m k m k := by
  have e : ∀ o, o < 14 → m o = σ o := fun o ho => h1 o (by omega) (by omega)
  exact h.g (e 8 (by decide)) (e 9 (by decide)) (e 11 (by decide)) (e 12 (by decide)) (e 13 (by decide)) (fun j _ => by rw [h2.1 38 (by decide) (by decide) (by decide)]) (h2.1 45 (by decide) (by decide) (by decide)) (h2.1 46 (by decide) (by decide) (by decide))
def jDy (σ0 ρ0 : jMem) (n : Nat) (σ ρ : jMem) : Prop := jD false σ ρ σ ρ ∧ (∀ p, p < 4 + n → ∃ W H, jP σ ρ p W H) ∧ jDf σ0 ρ0 σ ρ
theorem jDy.nu {n : Nat} {σ0 ρ0 σ ρ m k : jMem} (h : jDy σ0 ρ0 n σ ρ) (hn : n ≤ 8) (hu : jNu false σ ρ m k) : jDy σ0 ρ0 n m k := ⟨hu.1, fun p hp => by
  obtain ⟨W, H, q⟩ := h.2.1 p hp
  exact ⟨W, H, q.nu (by omega) hu⟩, h.2.2.nu hu⟩
theorem jDy.wk {n n' : Nat} {σ0 ρ0 σ ρ : jMem} (h : jDy σ0 ρ0 n σ ρ) (hn : n' ≤ n) : jDy σ0 ρ0 n' σ ρ := ⟨h.1, fun p hp => h.2.1 p (by omega), h.2.2⟩
theorem jDy.z {n : Nat} {σ0 ρ0 σ ρ m k : jMem} (h : jDy σ0 ρ0 n σ ρ) (hn : n < 8) (h1 : jKb (4 + n) σ m) (h2 : jKz (4 + n) ρ k) : jDy σ0 ρ0 n m k := ⟨h.1.z h1 h2, fun p hp => by
  obtain ⟨W, H, q⟩ := h.2.1 p hp
  exact ⟨W, H, q.z (by omega) h1 h2⟩, h.2.2.z (by omega) h1 h2⟩
theorem jDy.rg {n W H : Nat} {σ0 ρ0 σ ρ m k : jMem} (h : jDy σ0 ρ0 n σ ρ) (hn : n < 8) (hr : jRg false (4 + n) W H σ ρ m k) : jDy σ0 ρ0 (n + 1) m k := ⟨hr.1, fun p hp => by
  by_cases e : p = 4 + n
  · subst e; exact ⟨W, H, hr.2.2.2⟩
  · obtain ⟨W', H', q⟩ := h.2.1 p (by omega)
    exact ⟨W', H', q.rg e hr⟩, h.2.2.rg (by omega) hr⟩
theorem jDy.m {n : Nat} {σ0 ρ0 σ ρ : jMem} (h : jDy σ0 ρ0 n σ ρ) (hm : ρ0 38 11 = 2) : ρ 38 11 = 2 := (h.2.2.2.2 11 (by decide) (by decide)).trans hm
theorem jDy.c {n : Nat} {σ0 ρ0 σ ρ : jMem} (h : jDy σ0 ρ0 n σ ρ) (hm : σ0 0 7 = 2) : σ 0 7 = 2 := (congrFun (h.2.2.1 0 (by decide) (by decide) (by decide) (by decide) (by decide) (by decide)) 7).trans hm
theorem jDy.n {n : Nat} {σ0 ρ0 σ ρ : jMem} (h : jDy σ0 ρ0 n σ ρ) : jNu false σ ρ σ ρ := ⟨h.1, .r _, .r _⟩
def jDp (σ0 ρ0 : jMem) (T : Nat) : Int32 → jMem → Int32 → jMem → Prop := fun a m b k => a = b ∧ ((a = -1 ∧ jDy σ0 ρ0 0 m k) ∨ (a = nI T ∧ jDy σ0 ρ0 T m k))
/-- a width was read, class at the head of its loop -/
def jD1 (σ0 ρ0 : jMem) (T t k : Nat) : Prop := ∀ N N' N'' h w f a b σ ρ, t < N → t < N' → t ≤ N'' → f < k → jDy σ0 ρ0 k σ ρ → a = (if ρ 38 20 = 0 then b else -2147483648) → (ρ 38 20 = 0 ∨ ρ 38 20 = 1) → (ρ 38 20 = 0 → b ≠ -2147483648) → (1 ≤ h ∧ h ≤ 24) → jPP (f_IC_codeSymbols_L42R N (nI T) (nI h) w a (nI k) σ) (jbd (if (ρ 38 20) = 0 then (if nI k = nI T then (some ((-1 : Int32), ρ)) else (if (f_MO_isLength (w + b) ρ) = 0 then (some ((-1 : Int32), ρ)) else (jbd (f_MO_resize ((4 : Int32) + nI k) (w + b) (nI h) ρ) (fun _ n66 => jbd (f_MO_codeRegion ((4 : Int32) + nI k) (2 : Int32) (0 : Int32) n66) (fun v76 n76 => f_MO_readHeight_L6 N'' (nI f) (nI T) (nI h) (nI k + 1) (w + b) n76))))) else (if nI k = nI f then (some ((-1 : Int32), ρ)) else (some (nI k, ρ)))) (fun v66 n66 => if 0 ≤ v66 then (f_MO_readDictionary_L31 N' (nI T) v66 (nI h) n66) else (some ((-1 : Int32), n66)))) (jDp σ0 ρ0 T)
/-- a height begins -/
def jD0 (σ0 ρ0 : jMem) (T t k : Nat) : Prop := ∀ N N' x3 x4 σ ρ, t < N → t < N' → jDy σ0 ρ0 k σ ρ → jPP (f_IC_codeSymbols_L42R N (nI T) x3 x4 (-2147483648) (nI k) σ) (f_MO_readDictionary_L31 N' (nI T) (nI k) x3 ρ) (jDp σ0 ρ0 T)
theorem i_neg1 : ¬ (0 : Int32) ≤ -1 := by decide
theorem dr_no {σ0 ρ0 σ ρ : jMem} {T n : Nat} {f : Int32 → jMem → Option (Int32 × jMem)} (h : jDy σ0 ρ0 n σ ρ) : jPP (some ((-1 : Int32), σ)) (jbd (some ((-1 : Int32), ρ)) (fun v66 n66 => if 0 ≤ v66 then f v66 n66 else (some ((-1 : Int32), n66)))) (jDp σ0 ρ0 T) := .br rfl (.irn i_neg1 (.ret ⟨rfl, Or.inl ⟨rfl, h.wk (by omega)⟩⟩))
/-- one symbol -/
theorem dr_sym {σ0 ρ0 σ ρ : jMem} {T t k N N' N'' f W H : Nat} (hm : ρ0 38 11 = 2) (hT : T ≤ 8) (hk : k + t + 1 = T) (ih : jD1 σ0 ρ0 T t (k + 1)) (h : jDy σ0 ρ0 k σ ρ) (hN : t < N) (hN' : t < N') (hN'' : t < N'') (hf : f ≤ k) (hW : 1 ≤ W ∧ W ≤ 24) (hH : 1 ≤ H ∧ H ≤ 24) : jPP (jbd (f_PI_blank (4 + k) (nI W) (nI H) σ) (fun _ n154 => jbd (f_PT_codeRegion_R (4 + k) (2 : Int32) (0 : Int32) n154) (fun v162 n162 => if nI T ≤ (nI k + (1 : Int32)) then (jbd (f_NU_codeNumber_R (5 : Int32) (-2147483648 : Int32) n162) (fun v230 n230 => f_IC_codeSymbols_L42R N (nI T) (nI H) (nI W) v230 (nI k + 1) n230)) else (jck (¬ ((nI k + (1 : Int32)) < 0 ∨ 8 ≤ (nI k + (1 : Int32)).toNatClampNeg)) (if (n162 (14 + 2 * (4 + (nI k + (1 : Int32)).toNatClampNeg)) 2) = nI H then (jck (¬ ((nI k + (1 : Int32)) < 0 ∨ 8 ≤ (nI k + (1 : Int32)).toNatClampNeg)) (jbd (f_NU_codeNumber_R (5 : Int32) ((n162 (14 + 2 * (4 + (nI k + (1 : Int32)).toNatClampNeg)) 1) - nI W) n162) (fun v230 n230 => f_IC_codeSymbols_L42R N (nI T) (nI H) (nI W) v230 (nI k + 1) n230))) else (jbd (f_NU_codeNumber_R (5 : Int32) (-2147483648 : Int32) n162) (fun v230 n230 => f_IC_codeSymbols_L42R N (nI T) (nI H) (nI W) v230 (nI k + 1) n230))))))) (jbd (jbd (f_MO_resize ((4 : Int32) + nI k) (nI W) (nI H) ρ) (fun _ n66 => jbd (f_MO_codeRegion ((4 : Int32) + nI k) (2 : Int32) (0 : Int32) n66) (fun v76 n76 => f_MO_readHeight_L6 N'' (nI f) (nI T) (nI H) (nI k + 1) (nI W) n76))) (fun v66 n66 => if 0 ≤ v66 then (f_MO_readDictionary_L31 N' (nI T) v66 (nI H) n66) else (some ((-1 : Int32), n66)))) (jDp σ0 ρ0 T) := by
  have e4 : (4 : Int32) + nI k = nI (4 + k) := by rw [show (4 : Int32) = nI 4 from rfl, nI_add]
  simp only [jbd_as]
  rw [e4, nI_1]
  refine .bd (blank_resize (by omega) hW hH) ?_
  rintro _ m _ k' ⟨z1, z2, z3⟩
  have g1 := h.z (by omega) z1 z2
  refine .bd (rgn_false (t5 := 2) (by omega) (g1.m hm) (by omega) g1.1 z3) ?_
  rintro _ m2 _ k2 ⟨-, hr⟩
  have g2 := g1.rg (by omega) hr
  obtain ⟨N3, rfl⟩ : ∃ q, N'' = q + 1 := ⟨N'' - 1, by omega⟩
  unfold f_MO_readHeight_L6
  rw [jbd_as]
  have key : ∀ v, jPP (jbd (f_NU_codeNumber_R (5 : Int32) v m2) (fun v230 n230 => f_IC_codeSymbols_L42R N (nI T) (nI H) (nI W) v230 (nI (k + 1)) n230)) (jbd (f_MO_codeNumber (5 : Int32) (0 : Int32) (0 : Int32) k2) (fun v10 n10 => jbd (if (n10 38 20) = 0 then (if nI (k + 1) = nI T then (some ((-1 : Int32), n10)) else (if (f_MO_isLength (nI W + v10) n10) = 0 then (some ((-1 : Int32), n10)) else (jbd (f_MO_resize ((4 : Int32) + nI (k + 1)) (nI W + v10) (nI H) n10) (fun _ n66 => jbd (f_MO_codeRegion ((4 : Int32) + nI (k + 1)) (2 : Int32) (0 : Int32) n66) (fun v76 n76 => f_MO_readHeight_L6 N3 (nI f) (nI T) (nI H) (nI (k + 1) + 1) (nI W + v10) n76))))) else (if nI (k + 1) = nI f then (some ((-1 : Int32), n10)) else (some (nI (k + 1), n10)))) (fun v66 n66 => if 0 ≤ v66 then (f_MO_readDictionary_L31 N' (nI T) v66 (nI H) n66) else (some ((-1 : Int32), n66))))) (jDp σ0 ρ0 T) := by
    intro v
    refine .bd (num_false (κ := 5) (by decide) (g2.m hm) g2.n (fun q => Bool.noConfusion q)) ?_
    rintro a m3 b k3 ⟨hn, ha, h01, hb, -⟩
    exact ih N N' N3 H (nI W) f a b m3 k3 hN hN' (by omega) (by omega) (g2.nu (by omega) hn) ha h01 hb hH
  by_cases c : nI T ≤ nI (k + 1)
  · exact .ilp c (key _)
  refine .iln c ?_
  have c8 : ¬ (nI (k + 1) < 0 ∨ 8 ≤ (nI (k + 1)).toNatClampNeg) := nI_in (by
    apply Nat.lt_of_not_le
    intro q
    exact c (nI_le (by omega) (by omega))) (by decide)
  refine .ckl c8 ?_
  by_cases c2 : m2 (14 + 2 * (4 + (nI (k + 1)).toNatClampNeg)) 2 = nI H
  · exact .ilp c2 (.ckl c8 (key _))
  · exact .iln c2 (key _)
theorem dr_loop {σ0 ρ0 : jMem} {T : Nat} (hm : ρ0 38 11 = 2) (hc : σ0 0 7 = 2) (hT : T ≤ 8) : ∀ t k, k + t = T → jD0 σ0 ρ0 T t k ∧ jD1 σ0 ρ0 T t k := by
  intro t
  induction t with
  | zero =>
    intro k hk
    have : k = T := by omega
    subst this
    have d0 : jD0 σ0 ρ0 k 0 k := by
      intro N N' x3 x4 σ ρ hN hN' h
      obtain ⟨N, rfl⟩ : ∃ q, N = q + 1 := ⟨N - 1, by omega⟩
      obtain ⟨N', rfl⟩ : ∃ q, N' = q + 1 := ⟨N' - 1, by omega⟩
      unfold f_IC_codeSymbols_L42R f_MO_readDictionary_L31
      exact .ilp (nI_le (by omega) (by omega)) (.ilp rfl (.irp (nI_le (by omega) (by omega)) (.ret ⟨rfl, Or.inr ⟨rfl, h⟩⟩)))
    refine ⟨d0, ?_⟩
    intro N N' N'' h w f a b σ ρ hN hN' hN'' hf hd ha h01 hb hH
    by_cases c : ρ 38 20 = 0
    · rw [if_pos c] at ha
      subst ha
      obtain ⟨N, rfl⟩ : ∃ q, N = q + 1 := ⟨N - 1, by omega⟩
      rw [if_pos c, if_pos rfl]
      unfold f_IC_codeSymbols_L42R
      exact .ilp (nI_le (by omega) (by omega)) (.iln (hb c) (dr_no hd))
    · rw [if_neg c] at ha
      subst ha
      have nf : ¬ nI k = nI f := fun q => by have := (nI_eq (by omega) (by omega)).mp q; omega
      rw [if_neg c, if_neg nf]
      exact .br rfl (.irp (nI_pos' (by omega)) (d0 N N' _ _ σ ρ (by omega) (by omega) hd))
  | succ t iht =>
    intro k hk
    have ih := (iht (k + 1) (by omega)).2
    have lt : ¬ nI T ≤ nI k := nI_ge (by omega) (by omega)
    have c8 : ¬ (nI k < 0 ∨ 8 ≤ (nI k).toNatClampNeg) := nI_in (by omega) (by decide)
    have ne : ¬ nI k = nI T := fun q => by have := (nI_eq (by omega) (by omega)).mp q; omega
    have d0 : jD0 σ0 ρ0 T (t + 1) k := by
      intro N N' x3 x4 σ ρ hN hN' h
      obtain ⟨N, rfl⟩ : ∃ q, N = q + 1 := ⟨N - 1, by omega⟩
      obtain ⟨N', rfl⟩ : ∃ q, N' = q + 1 := ⟨N' - 1, by omega⟩
      unfold f_IC_codeSymbols_L42R f_MO_readDictionary_L31
      refine .iln lt (.irn lt (.ckl c8 (.ilp rfl ?_)))
      refine .bd (num_false (κ := 4) (by decide) (h.m hm) h.n (fun q => Bool.noConfusion q)) ?_
      rintro a m b k1 ⟨hn, ha, h01, hb, -⟩
      have g1 := h.nu (by omega) hn
      have out1 : ∀ {m k1}, jDy σ0 ρ0 k m k1 → jDp σ0 ρ0 T (-1) m (-1) k1 := fun g => ⟨rfl, Or.inl ⟨rfl, g.wk (by omega)⟩⟩
      by_cases c : ¬ k1 38 20 = 0
      · rw [if_neg c] at ha
        subst ha
        exact .ilp rfl (.irn c (.ret (out1 g1)))
      replace c := Classical.not_not.mp c
      rw [if_pos c] at ha
      subst ha
      rw [ic_side, mo_len]
      refine .iln (hb c) (.irp c ?_)
      by_cases cs : ¬ (1 ≤ (x3 + a).toInt ∧ (x3 + a).toInt ≤ 24)
      · rw [if_neg cs]
        exact .ilp rfl (.irp rfl (.ret (out1 g1)))
      replace cs := Classical.not_not.mp cs
      rw [if_pos cs]
      obtain ⟨H, hH, eH⟩ := i_sd cs
      rw [eH]
      refine .iln (by decide) (.irn (by decide) ?_)
      unfold f_MO_readHeight
      rw [show jfu = 19999 + 1 from rfl]
      unfold f_MO_readHeight_L6
      rw [jbd_as]
      refine .bd (num_false (κ := 5) (by decide) (g1.m hm) g1.n (fun q => Bool.noConfusion q)) ?_
      rintro a2 m2 b2 k2 ⟨hn2, ha2, h012, hb2, -⟩
      have g2 := g1.nu (by omega) hn2
      by_cases c2 : ¬ k2 38 20 = 0
      · rw [if_neg c2] at ha2
        subst ha2
        rw [if_neg c2, if_pos (rfl : nI k = nI k)]
        exact .ilp rfl (dr_no g2)
      replace c2 := Classical.not_not.mp c2
      rw [if_pos c2] at ha2
      subst ha2
      rw [if_pos c2, if_neg ne, ic_side, mo_len]
      refine .iln (hb2 c2) ?_
      by_cases cw : ¬ (1 ≤ ((0 : Int32) + a2).toInt ∧ ((0 : Int32) + a2).toInt ≤ 24)
      · rw [if_neg cw, if_pos rfl, if_pos rfl]
        exact (dr_no g2)
      replace cw := Classical.not_not.mp cw
      rw [if_pos cw, if_neg (show ¬ (1 : Int32) = 0 from by decide), if_neg (show ¬ (1 : Int32) = 0 from by decide)]
      obtain ⟨W, hW, eW⟩ := i_sd cw
      rw [eW, nI_clamp (show k < 2 ^ 31 by omega)]
      refine .ilp (g2.c hc) ?_
      exact dr_sym hm hT (by omega) ih g2 (by omega) (by omega) (Nat.lt_trans (show t < 9 by omega) (by decide)) (by omega) hW hH
    refine ⟨d0, ?_⟩
    intro N N' N'' h w f a b σ ρ hN hN' hN'' hf hd ha h01 hb hH
    by_cases c : ρ 38 20 = 0
    · rw [if_pos c] at ha
      subst ha
      obtain ⟨N, rfl⟩ : ∃ q, N = q + 1 := ⟨N - 1, by omega⟩
      rw [if_pos c, if_neg ne, mo_len]
      unfold f_IC_codeSymbols_L42R
      rw [ic_side]
      refine .iln lt (.ckl c8 (.iln (hb c) (.iln (hb c) ?_)))
      by_cases cw : ¬ (1 ≤ (w + a).toInt ∧ (w + a).toInt ≤ 24)
      · rw [if_neg cw, if_pos rfl, if_pos rfl]
        exact (dr_no hd)
      replace cw := Classical.not_not.mp cw
      rw [if_pos cw, if_neg (show ¬ (1 : Int32) = 0 from by decide), if_neg (show ¬ (1 : Int32) = 0 from by decide)]
      obtain ⟨W, hW, eW⟩ := i_sd cw
      rw [eW, nI_clamp (show k < 2 ^ 31 by omega)]
      refine .ilp (hd.c hc) ?_
      exact dr_sym hm hT (by omega) ih hd (by omega) (by omega) (by omega) (by omega) hW hH
    · rw [if_neg c] at ha
      subst ha
      have nf : ¬ nI k = nI f := fun q => by have := (nI_eq (by omega) (by omega)).mp q; omega
      rw [if_neg c, if_neg nf]
      exact .br rfl (.irp (nI_pos' (by omega)) (d0 N N' _ _ σ ρ (by omega) (by omega) hd))
theorem dr_all {σ ρ : jMem} {S M : Nat} (h : jGl 2 S M σ ρ) : jPP (f_IC_codeSymbols σ) (f_MO_readDictionary ρ) (fun a m b k => ∃ T, T ≤ 8 ∧ jDp σ ρ T a m b k) := by
  have hm : ρ 38 11 = 2 := h.1.2.2
  have hc : σ 0 7 = 2 := h.1.2.1
  unfold f_IC_codeSymbols f_MO_readDictionary
  refine .iln (by rw [hc]; decide) ?_
  have h0 : jDy σ ρ 0 σ ρ := ⟨h.2.2.2.2.1.2 rfl, fun p hp => h.2.2.2.2.2.1 p (by omega), .r _ _⟩
  refine .bd (num_false (κ := 3) (by decide) hm h0.n (fun q => Bool.noConfusion q)) ?_
  rintro a m b k ⟨hn, ha, h01, hb, -⟩
  have g1 := h0.nu (by omega) hn
  have hw : f_IC_within a (0 : Int32) (8 : Int32) m = if 0 ≤ a.toInt ∧ a.toInt ≤ 8 then 1 else 0 := by
    have := w_in (X := a.toInt) (A := 0) (B := 8) m (iI_rg a) (by decide) (by decide)
    rwa [← iI_of a] at this
  rw [hw]
  by_cases c : ¬ k 38 20 = 0
  · rw [if_neg c] at ha
    subst ha
    rw [if_neg (show ¬ (0 ≤ (-2147483648 : Int32).toInt ∧ (-2147483648 : Int32).toInt ≤ 8) from by decide)]
    exact .ilp rfl (.irn c (.ret ⟨0, by decide, rfl, Or.inl ⟨rfl, g1⟩⟩))
  replace c := Classical.not_not.mp c
  rw [if_pos c] at ha
  subst ha
  refine .irp c ?_
  have l0 : a < (0 : Int32) ↔ a.toInt < 0 := i_lt a 0 (by decide)
  have l8 : a ≤ (8 : Int32) ↔ a.toInt ≤ 8 := i_le a 8 (by decide)
  by_cases c8 : ¬ (0 ≤ a.toInt ∧ a.toInt ≤ 8)
  · rw [if_neg c8]
    refine .ilp rfl ?_
    by_cases cn : a.toInt < 0
    · exact .irp (l0.mpr cn) (.ret ⟨0, by decide, rfl, Or.inl ⟨rfl, g1⟩⟩)
    · exact .irn (fun q => cn (l0.mp q)) (.irn (fun q => by have := l8.mp q; omega) (.ret ⟨0, by decide, rfl, Or.inl ⟨rfl, g1⟩⟩))
  replace c8 := Classical.not_not.mp c8
  rw [if_pos c8]
  refine .iln (by decide) (.irn (fun q => by have := l0.mp q; omega) (.irp (l8.mpr c8.2) ?_))
  obtain ⟨T, hT, rfl⟩ : ∃ T, T ≤ 8 ∧ a = nI T := ⟨a.toInt.toNat, by omega, i_nat c8.1⟩
  refine ((dr_loop (σ0 := σ) (ρ0 := ρ) (T := T) hm hc hT T 0 (by omega)).1 jfu jfu 0 0 m k (by show T < 20000; omega) (by show T < 20000; omega) g1).mono ?_
  intro a m b k q
  exact ⟨T, hT, q⟩
