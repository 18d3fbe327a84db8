/-! numbers, whole -/
def jbi (j : Nat) : Nat := [2, 4, 6, 8, 12, 32].getD j 0
def jle (j : Nat) : Nat := [0, 4, 20, 84, 340, 4436].getD j 0
theorem jt_4 : ∀ j, j < 6 → jS_BITS.2.2.2.getD j 0 = nI (jbi j) ∧ f_MO_bitsOf (nI j) jz = nI (jbi j) ∧ jS_STARTS.2.2.2.getD j 0 = nI (jle j) ∧ f_MO_leastOf (nI j) jz = nI (jle j) ∧ jbi j ≤ 32 ∧ 1 ≤ jbi j ∧ jle j ≤ 4436 ∧ (nI j = 0 → nI (jle j) = 0) ∧ (j < 5 → jle (j + 1) = jle j + 2 ^ jbi j) := by decide +kernel
theorem mo_class {V : Nat} (h : V < 2 ^ 31) (σ : jMem) : f_MO_classOf (nI V) σ = nI (if V < 4 then 0 else if V < 20 then 1 else if V < 84 then 2 else if V < 340 then 3 else if V < 4436 then 4 else 5) := by
  unfold f_MO_classOf
  have e4 : (4 : Int32) ≤ nI V ↔ 4 ≤ V := nI_leI (a := 4) (by decide) h
  have e20 : (20 : Int32) ≤ nI V ↔ 20 ≤ V := nI_leI (a := 20) (by decide) h
  have e84 : (84 : Int32) ≤ nI V ↔ 84 ≤ V := nI_leI (a := 84) (by decide) h
  have e340 : (340 : Int32) ≤ nI V ↔ 340 ≤ V := nI_leI (a := 340) (by decide) h
  have e4436 : (4436 : Int32) ≤ nI V ↔ 4436 ≤ V := nI_leI (a := 4436) (by decide) h
  simp only [e4, e20, e84, e340, e4436]
  repeat' split
  all_goals first | rfl | omega
theorem mo_cls {V j : Nat} (h : V < 2 ^ 31) (hj : j < 5) (σ : jMem) : f_MO_classOf (nI V) σ ≤ nI j ↔ V < jle (j + 1) := by
  rw [mo_class h, nI_leI (by repeat' split
                             all_goals decide) (by omega)]
  match j, hj with
  | 0, _ => simp only [show jle (0 + 1) = 4 from rfl]; repeat' split
            all_goals omega
  | 1, _ => simp only [show jle (1 + 1) = 20 from rfl]; repeat' split
            all_goals omega
  | 2, _ => simp only [show jle (2 + 1) = 84 from rfl]; repeat' split
            all_goals omega
  | 3, _ => simp only [show jle (3 + 1) = 340 from rfl]; repeat' split
            all_goals omega
  | 4, _ => simp only [show jle (4 + 1) = 4436 from rfl]; repeat' split
            all_goals omega
theorem jfv {x6 x7 g L : Int32} (h6 : x6 = 0 ∨ x6 = 1) (hL : x7 = 0 → L = 0) : jfi x6 x7 g L = (if jnon x6 x7 L g = 0 then jval x6 L g else -2147483648) ∧ (jnon x6 x7 L g = 0 ∨ jnon x6 x7 L g = 1) ∧ (jnon x6 x7 L g = 0 → jval x6 L g ≠ -2147483648) := by
  unfold jfi jnon jval
  rcases h6 with rfl | rfl
  · by_cases c : L + g = -2147483648
    · simp [c]
    · simp [c]
  · by_cases c7 : x7 = 0
    · have hL := hL c7
      subst hL
      by_cases c8 : g = 0
      · simp [c7, c8]
      · by_cases c : -g = -2147483648
        · simp [c7, c8, c]
        · simp [c7, c8, c]
    · by_cases c : -(L + g) = -2147483648
      · simp [c7, c]
      · simp [c7, c]
def jvv (x6 : Int32) (V : Nat) : Int32 := if x6 = 1 then (if V = 0 then -2147483648 else -(nI V)) else nI V
def jpn (w : Bool) (σ0 ρ0 : jMem) (W : Int32 → Prop) : Int32 → jMem → Int32 → jMem → Prop := fun a m b k => jNu w σ0 ρ0 m k ∧ a = (if k 38 20 = 0 then b else -2147483648) ∧ (k 38 20 = 0 ∨ k 38 20 = 1) ∧ (k 38 20 = 0 → b ≠ -2147483648) ∧ (w = true → W a)
theorem moc (x1 y2 y3 : Int32) (ρ : jMem) : f_MO_codeNumber x1 y2 y3 ρ = jbd (f_MO_next x1 (if y3 = 0 then (if 0 ≤ y2 then 0 else 1) else 1) (ju ρ 38 19 1)) (fun v40 n40 => f_MO_codeNumber_L55 jfu x1 y2 y3 (if y3 = 0 then (if 0 ≤ y2 then y2 else -y2) else 0) v40 (f_MO_classOf (if y3 = 0 then (if 0 ≤ y2 then y2 else -y2) else 0) n40) 0 n40) := by
  unfold f_MO_codeNumber
  by_cases c3 : y3 = 0
  · by_cases c2 : 0 ≤ y2
    · simp only [if_pos c3, if_pos c2]
    · simp only [if_pos c3, if_neg c2]
  · by_cases c2 : 0 ≤ y2
    · simp only [if_neg c3]
    · simp only [if_neg c3]
theorem fin_true {σ0 ρ0 σ ρ τ : jMem} {κ j r : Nat} {x1 x2 x4 x6 y4 : Int32} (hκ : κ < 9) (hm : ρ0 38 11 = 1) (hj : j < 6) (h6 : x6 = 0 ∨ x6 = 1) (hr : r ≤ 511) (h : jNu true σ0 ρ0 σ ρ) (hq : ρ 38 19 = nI r) (hv : true = true → ∃ V, V ≤ 1000000 ∧ x4 = nI V ∧ y4 = nI V ∧ jle j ≤ V ∧ V - jle j < 2 ^ jbi j) : jPP (f_NU_codeNumber_W_L116 jfu x1 x2 ((11268 : Int32) + 512 * nI κ) x4 (nI r) x6 (nI j) (0 : Int32) ((jS_BITS.2.2.2.getD (nI j).toNatClampNeg 0) - (1 : Int32)) σ) (jbd (f_MO_many (nI κ) (f_MO_bitsOf (nI j) τ) (y4 - (f_MO_leastOf (nI j) τ)) ρ) (fun g m => some (jval x6 (f_MO_leastOf (nI j) τ) g, ju m 38 20 (jnon x6 (nI j) (f_MO_leastOf (nI j) τ) g)))) (jpn true σ0 ρ0 (fun a => ∀ V, x4 = nI V → V ≤ 1000000 → a = jvv x6 V)) := by
  obtain ⟨t1, t2, t3, t4, t5, t6, t7, t8, t9⟩ := jt_4 j hj
  rw [nI_clamp (by omega), show f_MO_bitsOf (nI j) τ = nI (jbi j) from t2, show f_MO_leastOf (nI j) τ = nI (jle j) from t4, t1]
  unfold f_MO_many
  rw [show jfu = (19999 - jbi j) + jbi j + 1 from by show 20000 = _; omega]
  refine .fr (man_true (x1 := x1) (x2 := x2) (x4 := x4) (y2 := nI (jbi j)) (y3 := y4 - nI (jle j)) hκ hm hj h6 ?_ (jbi j) t5 (19999 - jbi j) (19999 - jbi j) r 0 σ ρ hr h hq ?_) ?_
  · intro q
    obtain ⟨V, v1, v2, v3, v4, v5⟩ := hv q
    refine ⟨V - jle j, by omega, ?_, ?_⟩
    · rw [t3, v2, pk_sub v4]
    · rw [v3, pk_sub v4]
  · intro q V' v' e'
    obtain ⟨V, v1, v2, v3, v4, v5⟩ := hv q
    rw [v3, pk_sub v4] at e'
    have := (nI_eq (by omega) v').mp e'
    subst this
    rw [Nat.div_eq_of_lt v5]
    rfl
  · rintro a m g k ⟨rfl, hn, hg⟩
    rw [t3]
    obtain ⟨f1, f2, f3⟩ := jfv (g := g) (L := nI (jle j)) (x7 := nI j) h6 t8
    refine ⟨_, _, rfl, hn.r (Or.inr rfl), ?_, ?_, ?_, ?_⟩
    · simp only [ju_ap]; exact f1
    · simp only [ju_ap]; exact f2
    · simp only [ju_ap]; exact f3
    · intro q V e1 e2
      obtain ⟨V', v1, v2, v3, v4, v5⟩ := hv q
      have : V' = V := (nI_eq (by omega) (by omega)).mp (v2.symm.trans e1)
      subst this
      rw [hg q, v3, pk_sub v4]
      unfold jfi jvv
      rw [nI_add, Nat.add_sub_cancel' v4]
      rcases h6 with rfl | rfl
      · rfl
      · rw [if_pos rfl, if_pos rfl]
        by_cases c : V' = 0
        · subst c
          have j0 : j = 0 := by
            match j, hj, v4 with
            | 0, _, _ => rfl
            | 1, _, v => exact absurd v (by decide)
            | 2, _, v => exact absurd v (by decide)
            | 3, _, v => exact absurd v (by decide)
            | 4, _, v => exact absurd v (by decide)
            | 5, _, v => exact absurd v (by decide)
          subst j0
          rfl
        · rw [if_neg c, if_neg]
          rintro ⟨q1, q2⟩
          have e0 : j = 0 := (nI_eq (by omega) (by decide)).mp q1
          subst e0
          have := (nI_eq (b := 0) (by omega) (by decide)).mp q2
          simp [jle] at this
          exact c this
theorem rng_true {σ0 ρ0 : jMem} {κ : Nat} {x1 x2 x4 x6 y2 y3 y4 : Int32} (hκ : κ < 9) (hm : ρ0 38 11 = 1) (h6 : x6 = 0 ∨ x6 = 1) (hv : true = true → ∃ V, V ≤ 1000000 ∧ x4 = nI V ∧ y4 = nI V) : ∀ t j n m r τ σ ρ, j + t = 5 → r ≤ 511 → jNu true σ0 ρ0 σ ρ → ρ 38 19 = nI r → (true = true → ∀ V, V ≤ 1000000 → x4 = nI V → jle j ≤ V) → jPP (f_NU_codeNumber_W_L53 (n + t + 1) x1 x2 ((11268 : Int32) + 512 * nI κ) x4 (nI r) x6 (nI j) σ) (f_MO_codeNumber_L55 (m + t + 1) (nI κ) y2 y3 y4 x6 (f_MO_classOf y4 τ) (nI j) ρ) (jpn true σ0 ρ0 (fun a => ∀ V, x4 = nI V → V ≤ 1000000 → a = jvv x6 V)) := by
  intro t
  induction t with
  | zero =>
    intro j n m r τ σ ρ hj hr h hq hw
    have e : j = 5 := by omega
    subst e
    rw [f_NU_codeNumber_W_L53, mo_L55]
    refine .ilp (by decide) (.irp (by decide) (.ckl (by decide) ?_))
    refine fin_true hκ hm (by decide) h6 hr h hq ?_
    intro q
    obtain ⟨V, v1, v2, v3⟩ := hv q
    have e32 : 2 ^ jbi 5 = 4294967296 := by decide
    exact ⟨V, v1, v2, v3, hw q V v1 v2, by omega⟩
  | succ t ih =>
    intro j n m r τ σ ρ hj hr h hq hw
    rw [show n + (t + 1) + 1 = (n + t + 1) + 1 from by omega, show m + (t + 1) + 1 = (m + t + 1) + 1 from by omega, f_NU_codeNumber_W_L53, mo_L55]
    have h5 : ¬ (5 : Int32) ≤ nI j := (show ¬ nI 5 ≤ nI j from nI_ge (by omega) (by decide))
    obtain ⟨-, -, t3, -, -, -, -, -, -⟩ := jt_4 (j + 1) (by omega)
    obtain ⟨-, -, -, -, -, -, -, -, t9⟩ := jt_4 j (by omega)
    refine .iln h5 (.irn h5 ?_)
    rw [nI_1]
    refine .ckl (nI_in (by omega) (by decide)) ?_
    rw [nI_clamp (show j + 1 < 2 ^ 31 by omega), t3]
    have go : ∀ d e : Int32, jok true d e → (true = true → ∀ V, V ≤ 1000000 → x4 = nI V → d = if V < jle (j + 1) then 0 else 1) → jPP (jbd (f_NU_follow_W ((11268 : Int32) + 512 * nI κ) (nI r) d σ) (fun v81 n81 => if (f_NU_isOne v81 n81) = 0 then (jck (¬ (nI j < 0 ∨ 6 ≤ (nI j).toNatClampNeg)) (f_NU_codeNumber_W_L116 jfu x1 x2 ((11268 : Int32) + 512 * nI κ) x4 v81 x6 (nI j) (0 : Int32) ((jS_BITS.2.2.2.getD (nI j).toNatClampNeg 0) - (1 : Int32)) n81)) else (f_NU_codeNumber_W_L53 (n + t + 1) x1 x2 ((11268 : Int32) + 512 * nI κ) x4 v81 x6 (nI (j + 1)) n81))) (jbd (f_MO_next (nI κ) e ρ) (fun v75 n75 => if v75 = (1 : Int32) then (f_MO_codeNumber_L55 (m + t + 1) (nI κ) y2 y3 y4 x6 (f_MO_classOf y4 τ) (nI (j + 1)) n75) else (jbd (f_MO_many (nI κ) (f_MO_bitsOf (nI j) n75) (y4 - (f_MO_leastOf (nI j) n75)) n75) (fun g m => some (jval x6 (f_MO_leastOf (nI j) n75) g, ju m 38 20 (jnon x6 (nI j) (f_MO_leastOf (nI j) n75) g)))))) (jpn true σ0 ρ0 (fun a => ∀ V, x4 = nI V → V ≤ 1000000 → a = jvv x6 V)) := by
      intro d e hd hdv
      refine .bd (fol_true hκ hr hm h hq hd) ?_
      rintro a p b q ⟨r', r1, rfl, r2, hb, hab, hp, hwb⟩
      rw [jisOne hb hab]
      rcases hb with rfl | rfl
      · refine .ilp rfl (.irn (by decide) (.ckl (nI_in (by omega) (by decide)) ?_))
        refine fin_true hκ hm (by omega) h6 r1 hp r2 ?_
        intro qw
        obtain ⟨V, v1, v2, v3⟩ := hv qw
        have c1 := hdv qw V v1 v2
        rw [← hwb qw] at c1
        have c2 : V < jle (j + 1) := by
          apply Nat.lt_of_not_le
          intro qq
          rw [if_neg (by omega)] at c1
          exact absurd c1 (by decide)
        have c3 := hw qw V v1 v2
        exact ⟨V, v1, v2, v3, c3, by have := t9 (by omega); omega⟩
      · refine .iln (by decide) (.irp rfl ?_)
        refine ih (j + 1) n m r' τ p q (by omega) r1 hp r2 ?_
        intro qw V v1 v2
        have c1 := hdv qw V v1 v2
        rw [← hwb qw] at c1
        apply Nat.le_of_not_lt
        intro qq
        rw [if_pos qq] at c1
        exact absurd c1 (by decide)
    by_cases cl : x4 < nI (jle (j + 1))
    · refine .ilp cl ?_
      by_cases cr : f_MO_classOf y4 τ ≤ nI j
      · refine .irp cr (go 0 0 (fun _ => ⟨rfl, Or.inl rfl⟩) ?_)
        intro qw V v1 v2
        rw [v2] at cl
        have := (nI_ltI (by omega) (by have := (jt_4 (j + 1) (by omega)).2.2.2.2.2.2.1; omega)).mp cl
        rw [if_pos this]
      · refine .irn cr (go 0 1 ?_ ?_)
        · intro qw
          obtain ⟨V, v1, v2, v3⟩ := hv qw
          rw [v2] at cl
          have := (nI_ltI (by omega) (by have := (jt_4 (j + 1) (by omega)).2.2.2.2.2.2.1; omega)).mp cl
          rw [v3] at cr
          exact absurd ((mo_cls (by omega) (by omega) τ).mpr this) cr
        · intro qw V v1 v2
          rw [v2] at cl
          have := (nI_ltI (by omega) (by have := (jt_4 (j + 1) (by omega)).2.2.2.2.2.2.1; omega)).mp cl
          rw [if_pos this]
    · refine .iln cl ?_
      have ncl : ∀ V, V ≤ 1000000 → x4 = nI V → ¬ V < jle (j + 1) := by
        intro V v1 v2 qq
        rw [v2] at cl
        exact cl (nI_lt qq (by have := (jt_4 (j + 1) (by omega)).2.2.2.2.2.2.1; omega))
      by_cases cr : f_MO_classOf y4 τ ≤ nI j
      · refine .irp cr (go 1 0 ?_ ?_)
        · intro qw
          obtain ⟨V, v1, v2, v3⟩ := hv qw
          rw [v3] at cr
          exact absurd ((mo_cls (by omega) (by omega) τ).mp cr) (ncl V v1 v2)
        · intro qw V v1 v2
          rw [if_neg (ncl V v1 v2)]
      · refine .irn cr (go 1 1 (fun _ => ⟨rfl, Or.inr rfl⟩) ?_)
        intro qw V v1 v2
        rw [if_neg (ncl V v1 v2)]
theorem nuc_W (x1 v : Int32) (σ : jMem) : f_NU_codeNumber_W x1 v σ = jbd (f_NU_follow_W ((11268 : Int32) + ((512 : Int32) * x1)) (1 : Int32) (if 0 ≤ v then 0 else 1) σ) (fun v38 n38 => f_NU_codeNumber_W_L53 jfu x1 v ((11268 : Int32) + ((512 : Int32) * x1)) (if v = -2147483648 then 0 else f_MA_abs v σ) v38 (f_NU_isOne v38 n38) (0 : Int32) n38) := by
  unfold f_NU_codeNumber_W
  by_cases c1 : v = -2147483648
  · by_cases c2 : 0 ≤ v
    · simp only [if_pos c1, if_pos c2]
    · simp only [if_pos c1, if_neg c2]
  · by_cases c2 : 0 ≤ v
    · simp only [if_neg c1, if_pos c2]
    · simp only [if_neg c1, if_neg c2]
def jnw_true (v y2 y3 : Int32) : Prop := (v = -2147483648 ∧ y3 = 1) ∨ (∃ V, V ≤ 1000000 ∧ (v = nI V ∨ v = -nI V) ∧ y2 = v ∧ y3 = 0)
theorem num_true {σ0 ρ0 σ ρ : jMem} {κ : Nat} {v y2 y3 : Int32} (hκ : κ < 9) (hm : ρ0 38 11 = 1) (h : jNu true σ0 ρ0 σ ρ) (hw : true = true → jnw_true v y2 y3) : jPP (f_NU_codeNumber_W (nI κ) v σ) (f_MO_codeNumber (nI κ) y2 y3 ρ) (jpn true σ0 ρ0 (fun a => a = v)) := by
  rw [nuc_W, moc]
  have facts : true = true → (if 0 ≤ v then (0 : Int32) else 1) = (if y3 = 0 then (if 0 ≤ y2 then 0 else 1) else 1) ∧ ∃ V, V ≤ 1000000 ∧ (if v = -2147483648 then 0 else f_MA_abs v σ) = nI V ∧ (if y3 = 0 then (if 0 ≤ y2 then y2 else -y2) else 0) = nI V ∧ jvv (if 0 ≤ v then 0 else 1) V = v := by
    intro q
    rcases hw q with ⟨rfl, rfl⟩ | ⟨V, v1, v2, rfl, rfl⟩
    · refine ⟨by rw [if_neg (by decide), if_neg (by decide)], 0, by omega, by rw [if_pos rfl]; rfl, by rw [if_neg (by decide)]; rfl, by decide⟩
    · refine ⟨by rw [if_pos rfl], ?_⟩
      have hne : ∀ y2 : Int32, (y2 = nI V ∨ y2 = -nI V) → y2 ≠ -2147483648 := by
        rintro z (rfl | rfl) e
        · have := congrArg Int32.toInt e
          rw [nI_toInt (by omega)] at this
          rw [show (-2147483648 : Int32).toInt = -2147483648 from by decide] at this
          omega
        · have := congrArg Int32.toInt e
          rw [sb_negT (by omega)] at this
          rw [show (-2147483648 : Int32).toInt = -2147483648 from by decide] at this
          omega
      rw [if_neg (hne _ v2), if_pos rfl]
      unfold f_MA_abs jvv
      by_cases c : 0 ≤ y2
      · rw [if_pos c, if_pos c]
        rcases v2 with rfl | rfl
        · exact ⟨V, v1, rfl, rfl, by rw [if_neg (by decide)]⟩
        · have : V = 0 := by
            have := Int32.le_iff_toInt_le.mp c
            rw [sb_negT (by omega)] at this
            rw [show (0 : Int32).toInt = 0 from by decide] at this
            omega
          subst this
          exact ⟨0, v1, rfl, rfl, by decide⟩
      · rw [if_neg c, if_neg c]
        rcases v2 with rfl | rfl
        · exact absurd (nI_pos' (by omega)) c
        · refine ⟨V, v1, by simp, by simp, ?_⟩
          have : V ≠ 0 := by
            rintro rfl
            exact c (by decide)
          rw [if_pos rfl, if_neg this]
  refine .bd (P := fun a m b k => ∃ q, q ≤ 511 ∧ a = nI q ∧ k 38 19 = nI q ∧ (b = 0 ∨ b = 1) ∧ (a &&& 1) = b ∧ jNu true σ0 ρ0 m k ∧ (true = true → b = (if 0 ≤ v then (0 : Int32) else 1))) (fol_true (r := 1) hκ (by decide) hm (h.r (Or.inl rfl)) (by simp [ju_ap]; rfl) ?_) ?_
  · intro q
    refine ⟨(facts q).1, ?_⟩
    by_cases c : 0 ≤ v
    · rw [if_pos c]; exact Or.inl rfl
    · rw [if_neg c]; exact Or.inr rfl
  · rintro a p b q ⟨r', r1, rfl, r2, hb, hab, hp, hwb⟩
    rw [jisOne hb hab]
    refine (rng_true (x1 := nI κ) (x2 := v) (x6 := b) (y2 := y2) (y3 := y3) hκ hm hb ?_ 5 0 19994 19994 r' q p q rfl r1 hp r2 ?_).mono ?_
    · intro qw
      obtain ⟨V, v1, v2, v3, -⟩ := (facts qw).2
      exact ⟨V, v1, v2, v3⟩
    · intro qw V v1 v2
      exact Nat.zero_le _
    · rintro a' m' b' k' ⟨g1, g2, g3, g4, g5⟩
      refine ⟨g1, g2, g3, g4, fun qw => ?_⟩
      obtain ⟨V, v1, v2, v3, v4⟩ := (facts qw).2
      rw [g5 qw V v2 v1, hwb qw, v4]
theorem cdi_true {σ0 ρ0 σ ρ : jMem} {v y : Int32} (hm : ρ0 38 11 = 1) (h : jNu true σ0 ρ0 σ ρ) (hw : true = true → ∃ V, V < 8 ∧ v = nI V ∧ y = nI V) : jPP (f_NU_codeIndex_W v σ) (f_MO_codeIndex y ρ) (fun a m b k => a = b ∧ jNu true σ0 ρ0 m k ∧ (∃ V, V < 8 ∧ a = nI V) ∧ (true = true → a = v)) := by
  have bits : ∀ V, V < 8 → ((nI V >>> ((2 : Int32) &&& 31)) &&& 1 = nI (V / 4)) ∧ ((nI V >>> ((1 : Int32) &&& 31)) &&& 1 = nI (V / 2 % 2)) ∧ (nI V &&& 1 = nI (V % 2)) ∧ (nI V >>> ((0 : Int32) &&& 31) &&& 1 = nI (V % 2)) := by decide +kernel
  have b01 : ∀ z, z < 2 → (nI z = 0 ∨ nI z = 1) := by decide
  have n01 : ∀ a : Int32, (a = 0 ∨ a = 1) → ∃ z, z < 2 ∧ a = nI z := by
    rintro a (rfl | rfl)
    · exact ⟨0, by decide, rfl⟩
    · exact ⟨1, by decide, rfl⟩
  unfold f_NU_codeIndex_W f_MO_codeIndex
  rw [show jfu = 19996 + 1 + 1 + 1 + 1 from rfl]
  rw [f_NU_codeIndex_W_L4]
  refine .iln (by decide) (.bd (P := jpd true σ0 ρ0 ρ ((v >>> ((2 : Int32) &&& 31)) &&& 1)) (dec_true (i := 15876) (by decide) hm h ?_) ?_)
  · intro q
    obtain ⟨V, v1, rfl, rfl⟩ := hw q
    exact ⟨rfl, by rw [(bits V v1).1]; exact b01 _ (by omega)⟩
  rintro a p b q ⟨rfl, h1, h2, h3, -, -⟩
  obtain ⟨z1, zl1, rfl⟩ := n01 a h1
  rw [f_NU_codeIndex_W_L4]
  rw [show (15876 : Int32) + (2 * 1 + nI z1) = nI (jx (15877 + z1)) from by
    rw [show (2 : Int32) * 1 = nI 2 from rfl, nI_add, show (15876 : Int32) = nI 15876 from rfl, nI_add]; unfold jx; rw [if_neg (by omega)]; congr 1; omega,
    show (15877 : Int32) + nI z1 = nI (15877 + z1) from by rw [show (15877 : Int32) = nI 15877 from rfl, nI_add]]
  refine .iln (by decide) (.bd (P := jpd true σ0 ρ0 q ((v >>> ((1 : Int32) &&& 31)) &&& 1)) (dec_true (by omega) hm h2 ?_) ?_)
  · intro q
    obtain ⟨V, v1, rfl, rfl⟩ := hw q
    exact ⟨rfl, by rw [show ((2 : Int32) + Int32.ofInt (-1)) = 1 from rfl, (bits V v1).2.1]; exact b01 _ (by omega)⟩
  rintro a p2 b q2 ⟨rfl, g1, g2, g3, -, -⟩
  obtain ⟨z2, zl2, rfl⟩ := n01 a g1
  rw [f_NU_codeIndex_W_L4]
  rw [show (15876 : Int32) + (2 * (2 * 1 + nI z1) + nI z2) = nI (jx (15879 + 2 * z1 + z2)) from by
    rw [show (2 : Int32) * 1 = nI 2 from rfl, nI_add, show (2 : Int32) = nI 2 from rfl, pk_mul, nI_add, show (15876 : Int32) = nI 15876 from rfl, nI_add]; unfold jx; rw [if_neg (by omega)]; congr 1; omega,
    show (15879 : Int32) + 2 * nI z1 + nI z2 = nI (15879 + 2 * z1 + z2) from by rw [show (2 : Int32) = nI 2 from rfl, pk_mul, show (15879 : Int32) = nI 15879 from rfl, nI_add, nI_add]]
  refine .iln (by decide) (.bd (P := jpd true σ0 ρ0 q2 ((v >>> ((0 : Int32) &&& 31)) &&& 1)) (dec_true (by omega) hm g2 ?_) ?_)
  · intro q
    obtain ⟨V, v1, rfl, rfl⟩ := hw q
    refine ⟨?_, ?_⟩
    · rw [show ((2 : Int32) + Int32.ofInt (-1) + Int32.ofInt (-1)) = 0 from rfl, (bits V v1).2.2.2, (bits V v1).2.2.1]
    · rw [show ((2 : Int32) + Int32.ofInt (-1) + Int32.ofInt (-1)) = 0 from rfl, (bits V v1).2.2.2]; exact b01 _ (by omega)
  rintro a p3 b q3 ⟨rfl, f1, f2, f3, -, -⟩
  obtain ⟨z3, zl3, rfl⟩ := n01 a f1
  rw [f_NU_codeIndex_W_L4]
  have tab : ∀ z1, z1 < 2 → ∀ z2, z2 < 2 → ∀ z3, z3 < 2 → (2 : Int32) * (2 * (2 * 1 + nI z1) + nI z2) + nI z3 - 8 = nI (4 * z1 + 2 * z2 + z3) ∧ (4 : Int32) * nI z1 + 2 * nI z2 + nI z3 = nI (4 * z1 + 2 * z2 + z3) := by decide
  obtain ⟨e1, e2⟩ := tab z1 zl1 z2 zl2 z3 zl3
  rw [e1, e2]
  refine .ilp (by decide) (.ret ⟨rfl, f2, ⟨_, by omega, rfl⟩, ?_⟩)
  intro q
  obtain ⟨V, v1, rfl, rfl⟩ := hw q
  have d1 := h3 q
  have d2 := g3 q
  have d3 := f3 q
  rw [(bits V v1).1] at d1
  rw [(bits V v1).2.1] at d2
  rw [(bits V v1).2.2.2] at d3
  have d1 := (nI_eq (by omega) (by omega)).mp d1
  have d2 := (nI_eq (by omega) (by omega)).mp d2
  have d3 := (nI_eq (by omega) (by omega)).mp d3
  congr 1
  omega
theorem fin_false {σ0 ρ0 σ ρ τ : jMem} {κ j r : Nat} {x1 x2 x4 x6 y4 : Int32} (hκ : κ < 9) (hm : ρ0 38 11 = 2) (hj : j < 6) (h6 : x6 = 0 ∨ x6 = 1) (hr : r ≤ 511) (h : jNu false σ0 ρ0 σ ρ) (hq : ρ 38 19 = nI r) (hv : false = true → ∃ V, V ≤ 1000000 ∧ x4 = nI V ∧ y4 = nI V ∧ jle j ≤ V ∧ V - jle j < 2 ^ jbi j) : jPP (f_NU_codeNumber_R_L116 jfu x1 x2 ((11268 : Int32) + 512 * nI κ) x4 (nI r) x6 (nI j) (0 : Int32) ((jS_BITS.2.2.2.getD (nI j).toNatClampNeg 0) - (1 : Int32)) σ) (jbd (f_MO_many (nI κ) (f_MO_bitsOf (nI j) τ) (y4 - (f_MO_leastOf (nI j) τ)) ρ) (fun g m => some (jval x6 (f_MO_leastOf (nI j) τ) g, ju m 38 20 (jnon x6 (nI j) (f_MO_leastOf (nI j) τ) g)))) (jpn false σ0 ρ0 (fun a => ∀ V, x4 = nI V → V ≤ 1000000 → a = jvv x6 V)) := by
  obtain ⟨t1, t2, t3, t4, t5, t6, t7, t8, t9⟩ := jt_4 j hj
  rw [nI_clamp (by omega), show f_MO_bitsOf (nI j) τ = nI (jbi j) from t2, show f_MO_leastOf (nI j) τ = nI (jle j) from t4, t1]
  unfold f_MO_many
  rw [show jfu = (19999 - jbi j) + jbi j + 1 from by show 20000 = _; omega]
  refine .fr (man_false (x1 := x1) (x2 := x2) (x4 := x4) (y2 := nI (jbi j)) (y3 := y4 - nI (jle j)) hκ hm hj h6 ?_ (jbi j) t5 (19999 - jbi j) (19999 - jbi j) r 0 σ ρ hr h hq ?_) ?_
  · intro q
    obtain ⟨V, v1, v2, v3, v4, v5⟩ := hv q
    refine ⟨V - jle j, by omega, ?_, ?_⟩
    · rw [t3, v2, pk_sub v4]
    · rw [v3, pk_sub v4]
  · intro q V' v' e'
    obtain ⟨V, v1, v2, v3, v4, v5⟩ := hv q
    rw [v3, pk_sub v4] at e'
    have := (nI_eq (by omega) v').mp e'
    subst this
    rw [Nat.div_eq_of_lt v5]
    rfl
  · rintro a m g k ⟨rfl, hn, hg⟩
    rw [t3]
    obtain ⟨f1, f2, f3⟩ := jfv (g := g) (L := nI (jle j)) (x7 := nI j) h6 t8
    refine ⟨_, _, rfl, hn.r (Or.inr rfl), ?_, ?_, ?_, ?_⟩
    · simp only [ju_ap]; exact f1
    · simp only [ju_ap]; exact f2
    · simp only [ju_ap]; exact f3
    · intro q V e1 e2
      obtain ⟨V', v1, v2, v3, v4, v5⟩ := hv q
      have : V' = V := (nI_eq (by omega) (by omega)).mp (v2.symm.trans e1)
      subst this
      rw [hg q, v3, pk_sub v4]
      unfold jfi jvv
      rw [nI_add, Nat.add_sub_cancel' v4]
      rcases h6 with rfl | rfl
      · rfl
      · rw [if_pos rfl, if_pos rfl]
        by_cases c : V' = 0
        · subst c
          have j0 : j = 0 := by
            match j, hj, v4 with
            | 0, _, _ => rfl
            | 1, _, v => exact absurd v (by decide)
            | 2, _, v => exact absurd v (by decide)
            | 3, _, v => exact absurd v (by decide)
            | 4, _, v => exact absurd v (by decide)
            | 5, _, v => exact absurd v (by decide)
          subst j0
          rfl
        · rw [if_neg c, if_neg]
          rintro ⟨q1, q2⟩
          have e0 : j = 0 := (nI_eq (by omega) (by decide)).mp q1
          subst e0
          have := (nI_eq (b := 0) (by omega) (by decide)).mp q2
          simp [jle] at this
          exact c this
theorem rng_false {σ0 ρ0 : jMem} {κ : Nat} {x1 x2 x4 x6 y2 y3 y4 : Int32} (hκ : κ < 9) (hm : ρ0 38 11 = 2) (h6 : x6 = 0 ∨ x6 = 1) (hv : false = true → ∃ V, V ≤ 1000000 ∧ x4 = nI V ∧ y4 = nI V) : ∀ t j n m r τ σ ρ, j + t = 5 → r ≤ 511 → jNu false σ0 ρ0 σ ρ → ρ 38 19 = nI r → (false = true → ∀ V, V ≤ 1000000 → x4 = nI V → jle j ≤ V) → jPP (f_NU_codeNumber_R_L53 (n + t + 1) x1 x2 ((11268 : Int32) + 512 * nI κ) x4 (nI r) x6 (nI j) σ) (f_MO_codeNumber_L55 (m + t + 1) (nI κ) y2 y3 y4 x6 (f_MO_classOf y4 τ) (nI j) ρ) (jpn false σ0 ρ0 (fun a => ∀ V, x4 = nI V → V ≤ 1000000 → a = jvv x6 V)) := by
  intro t
  induction t with
  | zero =>
    intro j n m r τ σ ρ hj hr h hq hw
    have e : j = 5 := by omega
    subst e
    rw [f_NU_codeNumber_R_L53, mo_L55]
    refine .ilp (by decide) (.irp (by decide) (.ckl (by decide) ?_))
    refine fin_false hκ hm (by decide) h6 hr h hq ?_
    intro q
    obtain ⟨V, v1, v2, v3⟩ := hv q
    have e32 : 2 ^ jbi 5 = 4294967296 := by decide
    exact ⟨V, v1, v2, v3, hw q V v1 v2, by omega⟩
  | succ t ih =>
    intro j n m r τ σ ρ hj hr h hq hw
    rw [show n + (t + 1) + 1 = (n + t + 1) + 1 from by omega, show m + (t + 1) + 1 = (m + t + 1) + 1 from by omega, f_NU_codeNumber_R_L53, mo_L55]
    have h5 : ¬ (5 : Int32) ≤ nI j := (show ¬ nI 5 ≤ nI j from nI_ge (by omega) (by decide))
    obtain ⟨-, -, t3, -, -, -, -, -, -⟩ := jt_4 (j + 1) (by omega)
    obtain ⟨-, -, -, -, -, -, -, -, t9⟩ := jt_4 j (by omega)
    refine .iln h5 (.irn h5 ?_)
    rw [nI_1]
    refine .ckl (nI_in (by omega) (by decide)) ?_
    rw [nI_clamp (show j + 1 < 2 ^ 31 by omega), t3]
    have go : ∀ d e : Int32, jok false d e → (false = true → ∀ V, V ≤ 1000000 → x4 = nI V → d = if V < jle (j + 1) then 0 else 1) → jPP (jbd (f_NU_follow_R ((11268 : Int32) + 512 * nI κ) (nI r) d σ) (fun v81 n81 => if (f_NU_isOne v81 n81) = 0 then (jck (¬ (nI j < 0 ∨ 6 ≤ (nI j).toNatClampNeg)) (f_NU_codeNumber_R_L116 jfu x1 x2 ((11268 : Int32) + 512 * nI κ) x4 v81 x6 (nI j) (0 : Int32) ((jS_BITS.2.2.2.getD (nI j).toNatClampNeg 0) - (1 : Int32)) n81)) else (f_NU_codeNumber_R_L53 (n + t + 1) x1 x2 ((11268 : Int32) + 512 * nI κ) x4 v81 x6 (nI (j + 1)) n81))) (jbd (f_MO_next (nI κ) e ρ) (fun v75 n75 => if v75 = (1 : Int32) then (f_MO_codeNumber_L55 (m + t + 1) (nI κ) y2 y3 y4 x6 (f_MO_classOf y4 τ) (nI (j + 1)) n75) else (jbd (f_MO_many (nI κ) (f_MO_bitsOf (nI j) n75) (y4 - (f_MO_leastOf (nI j) n75)) n75) (fun g m => some (jval x6 (f_MO_leastOf (nI j) n75) g, ju m 38 20 (jnon x6 (nI j) (f_MO_leastOf (nI j) n75) g)))))) (jpn false σ0 ρ0 (fun a => ∀ V, x4 = nI V → V ≤ 1000000 → a = jvv x6 V)) := by
      intro d e hd hdv
      refine .bd (fol_false hκ hr hm h hq hd) ?_
      rintro a p b q ⟨r', r1, rfl, r2, hb, hab, hp, hwb⟩
      rw [jisOne hb hab]
      rcases hb with rfl | rfl
      · refine .ilp rfl (.irn (by decide) (.ckl (nI_in (by omega) (by decide)) ?_))
        refine fin_false hκ hm (by omega) h6 r1 hp r2 ?_
        intro qw
        obtain ⟨V, v1, v2, v3⟩ := hv qw
        have c1 := hdv qw V v1 v2
        rw [← hwb qw] at c1
        have c2 : V < jle (j + 1) := by
          apply Nat.lt_of_not_le
          intro qq
          rw [if_neg (by omega)] at c1
          exact absurd c1 (by decide)
        have c3 := hw qw V v1 v2
        exact ⟨V, v1, v2, v3, c3, by have := t9 (by omega); omega⟩
      · refine .iln (by decide) (.irp rfl ?_)
        refine ih (j + 1) n m r' τ p q (by omega) r1 hp r2 ?_
        intro qw V v1 v2
        have c1 := hdv qw V v1 v2
        rw [← hwb qw] at c1
        apply Nat.le_of_not_lt
        intro qq
        rw [if_pos qq] at c1
        exact absurd c1 (by decide)
    by_cases cl : x4 < nI (jle (j + 1))
    · refine .ilp cl ?_
      by_cases cr : f_MO_classOf y4 τ ≤ nI j
      · refine .irp cr (go 0 0 (fun _ => ⟨rfl, Or.inl rfl⟩) ?_)
        intro qw V v1 v2
        rw [v2] at cl
        have := (nI_ltI (by omega) (by have := (jt_4 (j + 1) (by omega)).2.2.2.2.2.2.1; omega)).mp cl
        rw [if_pos this]
      · refine .irn cr (go 0 1 ?_ ?_)
        · intro qw
          obtain ⟨V, v1, v2, v3⟩ := hv qw
          rw [v2] at cl
          have := (nI_ltI (by omega) (by have := (jt_4 (j + 1) (by omega)).2.2.2.2.2.2.1; omega)).mp cl
          rw [v3] at cr
          exact absurd ((mo_cls (by omega) (by omega) τ).mpr this) cr
        · intro qw V v1 v2
          rw [v2] at cl
          have := (nI_ltI (by omega) (by have := (jt_4 (j + 1) (by omega)).2.2.2.2.2.2.1; omega)).mp cl
          rw [if_pos this]
    · refine .iln cl ?_
      have ncl : ∀ V, V ≤ 1000000 → x4 = nI V → ¬ V < jle (j + 1) := by
        intro V v1 v2 qq
        rw [v2] at cl
        exact cl (nI_lt qq (by have := (jt_4 (j + 1) (by omega)).2.2.2.2.2.2.1; omega))
      by_cases cr : f_MO_classOf y4 τ ≤ nI j
      · refine .irp cr (go 1 0 ?_ ?_)
        · intro qw
          obtain ⟨V, v1, v2, v3⟩ := hv qw
          rw [v3] at cr
          exact absurd ((mo_cls (by omega) (by omega) τ).mp cr) (ncl V v1 v2)
        · intro qw V v1 v2
          rw [if_neg (ncl V v1 v2)]
      · refine .irn cr (go 1 1 (fun _ => ⟨rfl, Or.inr rfl⟩) ?_)
        intro qw V v1 v2
        rw [if_neg (ncl V v1 v2)]
theorem nuc_R (x1 v : Int32) (σ : jMem) : f_NU_codeNumber_R x1 v σ = jbd (f_NU_follow_R ((11268 : Int32) + ((512 : Int32) * x1)) (1 : Int32) (if 0 ≤ v then 0 else 1) σ) (fun v38 n38 => f_NU_codeNumber_R_L53 jfu x1 v ((11268 : Int32) + ((512 : Int32) * x1)) (if v = -2147483648 then 0 else f_MA_abs v σ) v38 (f_NU_isOne v38 n38) (0 : Int32) n38) := by
  unfold f_NU_codeNumber_R
  by_cases c1 : v = -2147483648
  · by_cases c2 : 0 ≤ v
    · simp only [if_pos c1, if_pos c2]
    · simp only [if_pos c1, if_neg c2]
  · by_cases c2 : 0 ≤ v
    · simp only [if_neg c1, if_pos c2]
    · simp only [if_neg c1, if_neg c2]
def jnw_false (v y2 y3 : Int32) : Prop := (v = -2147483648 ∧ y3 = 1) ∨ (∃ V, V ≤ 1000000 ∧ (v = nI V ∨ v = -nI V) ∧ y2 = v ∧ y3 = 0)
theorem num_false {σ0 ρ0 σ ρ : jMem} {κ : Nat} {v y2 y3 : Int32} (hκ : κ < 9) (hm : ρ0 38 11 = 2) (h : jNu false σ0 ρ0 σ ρ) (hw : false = true → jnw_false v y2 y3) : jPP (f_NU_codeNumber_R (nI κ) v σ) (f_MO_codeNumber (nI κ) y2 y3 ρ) (jpn false σ0 ρ0 (fun a => a = v)) := by
  rw [nuc_R, moc]
  have facts : false = true → (if 0 ≤ v then (0 : Int32) else 1) = (if y3 = 0 then (if 0 ≤ y2 then 0 else 1) else 1) ∧ ∃ V, V ≤ 1000000 ∧ (if v = -2147483648 then 0 else f_MA_abs v σ) = nI V ∧ (if y3 = 0 then (if 0 ≤ y2 then y2 else -y2) else 0) = nI V ∧ jvv (if 0 ≤ v then 0 else 1) V = v := by
    intro q
    rcases hw q with ⟨rfl, rfl⟩ | ⟨V, v1, v2, rfl, rfl⟩
    · refine ⟨by rw [if_neg (by decide), if_neg (by decide)], 0, by omega, by rw [if_pos rfl]; rfl, by rw [if_neg (by decide)]; rfl, by decide⟩
    · refine ⟨by rw [if_pos rfl], ?_⟩
      have hne : ∀ y2 : Int32, (y2 = nI V ∨ y2 = -nI V) → y2 ≠ -2147483648 := by
        rintro z (rfl | rfl) e
        · have := congrArg Int32.toInt e
          rw [nI_toInt (by omega)] at this
          rw [show (-2147483648 : Int32).toInt = -2147483648 from by decide] at this
          omega
        · have := congrArg Int32.toInt e
          rw [sb_negT (by omega)] at this
          rw [show (-2147483648 : Int32).toInt = -2147483648 from by decide] at this
          omega
      rw [if_neg (hne _ v2), if_pos rfl]
      unfold f_MA_abs jvv
      by_cases c : 0 ≤ y2
      · rw [if_pos c, if_pos c]
        rcases v2 with rfl | rfl
        · exact ⟨V, v1, rfl, rfl, by rw [if_neg (by decide)]⟩
        · have : V = 0 := by
            have := Int32.le_iff_toInt_le.mp c
            rw [sb_negT (by omega)] at this
            rw [show (0 : Int32).toInt = 0 from by decide] at this
            omega
          subst this
          exact ⟨0, v1, rfl, rfl, by decide⟩
      · rw [if_neg c, if_neg c]
        rcases v2 with rfl | rfl
        · exact absurd (nI_pos' (by omega)) c
        · refine ⟨V, v1, by simp, by simp, ?_⟩
          have : V ≠ 0 := by
            rintro rfl
            exact c (by decide)
          rw [if_pos rfl, if_neg this]
  refine .bd (P := fun a m b k => ∃ q, q ≤ 511 ∧ a = nI q ∧ k 38 19 = nI q ∧ (b = 0 ∨ b = 1) ∧ (a &&& 1) = b ∧ jNu false σ0 ρ0 m k ∧ (false = true → b = (if 0 ≤ v then (0 : Int32) else 1))) (fol_false (r := 1) hκ (by decide) hm (h.r (Or.inl rfl)) (by simp [ju_ap]; rfl) ?_) ?_
  · intro q
    refine ⟨(facts q).1, ?_⟩
    by_cases c : 0 ≤ v
    · rw [if_pos c]; exact Or.inl rfl
    · rw [if_neg c]; exact Or.inr rfl
  · rintro a p b q ⟨r', r1, rfl, r2, hb, hab, hp, hwb⟩
    rw [jisOne hb hab]
    refine (rng_false (x1 := nI κ) (x2 := v) (x6 := b) (y2 := y2) (y3 := y3) hκ hm hb ?_ 5 0 19994 19994 r' q p q rfl r1 hp r2 ?_).mono ?_
    · intro qw
      obtain ⟨V, v1, v2, v3, -⟩ := (facts qw).2
      exact ⟨V, v1, v2, v3⟩
    · intro qw V v1 v2
      exact Nat.zero_le _
    · rintro a' m' b' k' ⟨g1, g2, g3, g4, g5⟩
      refine ⟨g1, g2, g3, g4, fun qw => ?_⟩
      obtain ⟨V, v1, v2, v3, v4⟩ := (facts qw).2
      rw [g5 qw V v2 v1, hwb qw, v4]
theorem cdi_false {σ0 ρ0 σ ρ : jMem} {v y : Int32} (hm : ρ0 38 11 = 2) (h : jNu false σ0 ρ0 σ ρ) (hw : false = true → ∃ V, V < 8 ∧ v = nI V ∧ y = nI V) : jPP (f_NU_codeIndex_R v σ) (f_MO_codeIndex y ρ) (fun a m b k => a = b ∧ jNu false σ0 ρ0 m k ∧ (∃ V, V < 8 ∧ a = nI V) ∧ (false = true → a = v)) := by
  have bits : ∀ V, V < 8 → ((nI V >>> ((2 : Int32) &&& 31)) &&& 1 = nI (V / 4)) ∧ ((nI V >>> ((1 : Int32) &&& 31)) &&& 1 = nI (V / 2 % 2)) ∧ (nI V &&& 1 = nI (V % 2)) ∧ (nI V >>> ((0 : Int32) &&& 31) &&& 1 = nI (V % 2)) := by decide +kernel
  have b01 : ∀ z, z < 2 → (nI z = 0 ∨ nI z = 1) := by decide
  have n01 : ∀ a : Int32, (a = 0 ∨ a = 1) → ∃ z, z < 2 ∧ a = nI z := by
    rintro a (rfl | rfl)
    · exact ⟨0, by decide, rfl⟩
    · exact ⟨1, by decide, rfl⟩
  unfold f_NU_codeIndex_R f_MO_codeIndex
  rw [show jfu = 19996 + 1 + 1 + 1 + 1 from rfl]
  rw [f_NU_codeIndex_R_L4]
  refine .iln (by decide) (.bd (P := jpd false σ0 ρ0 ρ ((v >>> ((2 : Int32) &&& 31)) &&& 1)) (dec_false (i := 15876) (by decide) hm h ?_) ?_)
  · intro q
    obtain ⟨V, v1, rfl, rfl⟩ := hw q
    exact ⟨rfl, by rw [(bits V v1).1]; exact b01 _ (by omega)⟩
  rintro a p b q ⟨rfl, h1, h2, h3, -, -⟩
  obtain ⟨z1, zl1, rfl⟩ := n01 a h1
  rw [f_NU_codeIndex_R_L4]
  rw [show (15876 : Int32) + (2 * 1 + nI z1) = nI (jx (15877 + z1)) from by
    rw [show (2 : Int32) * 1 = nI 2 from rfl, nI_add, show (15876 : Int32) = nI 15876 from rfl, nI_add]; unfold jx; rw [if_neg (by omega)]; congr 1; omega,
    show (15877 : Int32) + nI z1 = nI (15877 + z1) from by rw [show (15877 : Int32) = nI 15877 from rfl, nI_add]]
  refine .iln (by decide) (.bd (P := jpd false σ0 ρ0 q ((v >>> ((1 : Int32) &&& 31)) &&& 1)) (dec_false (by omega) hm h2 ?_) ?_)
  · intro q
    obtain ⟨V, v1, rfl, rfl⟩ := hw q
    exact ⟨rfl, by rw [show ((2 : Int32) + Int32.ofInt (-1)) = 1 from rfl, (bits V v1).2.1]; exact b01 _ (by omega)⟩
  rintro a p2 b q2 ⟨rfl, g1, g2, g3, -, -⟩
  obtain ⟨z2, zl2, rfl⟩ := n01 a g1
  rw [f_NU_codeIndex_R_L4]
  rw [show (15876 : Int32) + (2 * (2 * 1 + nI z1) + nI z2) = nI (jx (15879 + 2 * z1 + z2)) from by
    rw [show (2 : Int32) * 1 = nI 2 from rfl, nI_add, show (2 : Int32) = nI 2 from rfl, pk_mul, nI_add, show (15876 : Int32) = nI 15876 from rfl, nI_add]; unfold jx; rw [if_neg (by omega)]; congr 1; omega,
    show (15879 : Int32) + 2 * nI z1 + nI z2 = nI (15879 + 2 * z1 + z2) from by rw [show (2 : Int32) = nI 2 from rfl, pk_mul, show (15879 : Int32) = nI 15879 from rfl, nI_add, nI_add]]
  refine .iln (by decide) (.bd (P := jpd false σ0 ρ0 q2 ((v >>> ((0 : Int32) &&& 31)) &&& 1)) (dec_false (by omega) hm g2 ?_) ?_)
  · intro q
    obtain ⟨V, v1, rfl, rfl⟩ := hw q
    refine ⟨?_, ?_⟩
    · rw [show ((2 : Int32) + Int32.ofInt (-1) + Int32.ofInt (-1)) = 0 from rfl, (bits V v1).2.2.2, (bits V v1).2.2.1]
    · rw [show ((2 : Int32) + Int32.ofInt (-1) + Int32.ofInt (-1)) = 0 from rfl, (bits V v1).2.2.2]; exact b01 _ (by omega)
  rintro a p3 b q3 ⟨rfl, f1, f2, f3, -, -⟩
  obtain ⟨z3, zl3, rfl⟩ := n01 a f1
  rw [f_NU_codeIndex_R_L4]
  have tab : ∀ z1, z1 < 2 → ∀ z2, z2 < 2 → ∀ z3, z3 < 2 → (2 : Int32) * (2 * (2 * 1 + nI z1) + nI z2) + nI z3 - 8 = nI (4 * z1 + 2 * z2 + z3) ∧ (4 : Int32) * nI z1 + 2 * nI z2 + nI z3 = nI (4 * z1 + 2 * z2 + z3) := by decide
  obtain ⟨e1, e2⟩ := tab z1 zl1 z2 zl2 z3 zl3
  rw [e1, e2]
  refine .ilp (by decide) (.ret ⟨rfl, f2, ⟨_, by omega, rfl⟩, ?_⟩)
  intro q
  obtain ⟨V, v1, rfl, rfl⟩ := hw q
  have d1 := h3 q
  have d2 := g3 q
  have d3 := f3 q
  rw [(bits V v1).1] at d1
  rw [(bits V v1).2.1] at d2
  rw [(bits V v1).2.2.2] at d3
  have d1 := (nI_eq (by omega) (by omega)).mp d1
  have d2 := (nI_eq (by omega) (by omega)).mp d2
  have d3 := (nI_eq (by omega) (by omega)).mp d3
  congr 1
  omega
