/-! texts that are read -/
def jxt (tr : Int32) (W H : Nat) : Nat := if tr = 0 then W - 1 else H - 1
def jBf (c : Nat) (tr : Int32) (W H : Nat) : Nat := if tr = 0 then (if c ≤ 1 then 0 else W - 1) else (if c = 0 ∨ c = 2 then H - 1 else 0)
def jDh (c : Nat) (tr : Int32) (W H : Nat) : Nat := if tr = 0 then (if c ≤ 1 then W - 1 else 0) else (if c = 0 ∨ c = 2 then 0 else H - 1)
theorem jBD (c : Nat) (tr : Int32) (W H : Nat) : jBf c tr W H + jDh c tr W H = jxt tr W H := by
  unfold jBf jDh jxt
  by_cases h : tr = 0
  · simp only [if_pos h]; by_cases h2 : c ≤ 1
    · simp only [if_pos h2]; omega
    · simp only [if_neg h2]; omega
  · simp only [if_neg h]; by_cases h2 : c = 0 ∨ c = 2
    · simp only [if_pos h2]; omega
    · simp only [if_neg h2]; omega
theorem c4 {c : Nat} (h : c < 4) : c = 0 ∨ c = 1 ∨ c = 2 ∨ c = 3 := by omega
theorem ic_right {c : Nat} (h : c < 4) (σ : jMem) : f_IC_isRight (nI c) σ = if c ≤ 1 then 0 else 1 := by
  rcases c4 h with rfl | rfl | rfl | rfl <;> rfl
theorem ic_lower {c : Nat} (h : c < 4) (σ : jMem) : f_IC_isLower (nI c) σ = if c = 0 ∨ c = 2 then 1 else 0 := by
  rcases c4 h with rfl | rfl | rfl | rfl <;> rfl
theorem c_le1 {c : Nat} (h : c < 4) : nI c ≤ 1 ↔ c ≤ 1 := by
  rcases c4 h with rfl | rfl | rfl | rfl <;> decide
theorem c_ge2 {c : Nat} (h : c < 4) : (2 : Int32) ≤ nI c ↔ ¬ c ≤ 1 := by
  rcases c4 h with rfl | rfl | rfl | rfl <;> decide
theorem c_ev0 {c : Nat} (h : c < 4) : nI c - nI c / 2 * 2 = 0 ↔ (c = 0 ∨ c = 2) := by
  rcases c4 h with rfl | rfl | rfl | rfl <;> decide
theorem c_ev1 {c : Nat} (h : c < 4) : nI c - nI c / 2 * 2 = 1 ↔ ¬ (c = 0 ∨ c = 2) := by
  rcases c4 h with rfl | rfl | rfl | rfl <;> decide
theorem nI_m1 {n : Nat} (h : 1 ≤ n) : nI n - 1 = nI (n - 1) := by
  obtain ⟨k, rfl⟩ : ∃ k, n = k + 1 := ⟨n - 1, by omega⟩
  rw [nI_pred]; rfl
theorem ic_ext {σ ρ : jMem} {v W H : Nat} (tr : Int32) (hv : v < 8) (hP : jP σ ρ (4 + v) W H) : f_IC_extent (nI v) tr σ = some (nI (jxt tr W H), σ) := by
  unfold f_IC_extent jxt
  have h1 := hP.1.1
  have h2 := hP.1.2.2.1
  rw [jck_pos (i8 hv), nI_clamp (by omega), hP.2.1, hP.2.2.1]
  by_cases c : tr = 0
  · rw [if_pos c, if_pos c, nI_m1 h1]
  · rw [if_neg c, if_neg c, nI_m1 h2]
theorem ic_bef {σ ρ : jMem} {v c W H : Nat} (tr : Int32) (hc : c < 4) (hv : v < 8) (hP : jP σ ρ (4 + v) W H) : f_IC_before (nI v) (nI c) tr σ = some (nI (jBf c tr W H), σ) := by
  unfold f_IC_before
  have he := ic_ext tr hv hP
  unfold jBf
  unfold jxt at he
  by_cases ct : tr = 0
  · rw [if_pos ct] at he
    rw [if_pos ct, if_pos ct, ic_right hc]
    by_cases c1 : c ≤ 1
    · rw [if_pos c1, if_pos c1, if_pos rfl]; rfl
    · rw [if_neg c1, if_neg c1, if_neg (by decide), jbd_eq he]
  · rw [if_neg ct] at he
    rw [if_neg ct, if_neg ct, ic_lower hc]
    by_cases c1 : c = 0 ∨ c = 2
    · rw [if_pos c1, if_pos c1, if_neg (by decide), jbd_eq he]
    · rw [if_neg c1, if_neg c1, if_pos rfl]; rfl
theorem mo_bef {σ ρ : jMem} {v c W H : Nat} (tr : Int32) (hc : c < 4) (hv : v < 8) (hP : jP σ ρ (4 + v) W H) (h1 : ρ 38 21 = nI c) (h2 : ρ 38 22 = tr) : f_MO_before (nI v) ρ = some (nI (jBf c tr W H), ρ) := by
  unfold f_MO_before jBf
  rw [h1, h2, e4k, nI_clamp (show 4 + v < 2 ^ 31 by omega), hP.1.2.2.2.2.1, hP.1.2.2.2.2.2.1]
  have c12 : ¬ (nI (4 + v) < 0 ∨ 12 ≤ 4 + v) := by have := i12 (k := 4 + v) (by omega); rwa [nI_clamp (by omega)] at this
  have w1 := hP.1.1
  have w2 := hP.1.2.2.1
  by_cases ct : tr = 0
  · simp only [if_pos ct]
    by_cases c1 : c ≤ 1
    · rw [if_pos ((c_le1 hc).mpr c1), if_pos c1]; rfl
    · rw [if_neg (fun q => c1 ((c_le1 hc).mp q)), if_neg c1, jck_pos c12, nI_m1 w1]
  · simp only [if_neg ct]
    by_cases c1 : c = 0 ∨ c = 2
    · rw [if_pos ((c_ev0 hc).mpr c1), if_pos c1, jck_pos c12, nI_m1 w2]
    · rw [if_neg (fun q => c1 ((c_ev0 hc).mp q)), if_neg c1]; rfl
theorem mo_beh {σ ρ : jMem} {v c W H : Nat} (tr : Int32) (hc : c < 4) (hv : v < 8) (hP : jP σ ρ (4 + v) W H) (h1 : ρ 38 21 = nI c) (h2 : ρ 38 22 = tr) : f_MO_behind (nI v) ρ = some (nI (jDh c tr W H), ρ) := by
  unfold f_MO_behind jDh
  rw [h1, h2, e4k, nI_clamp (show 4 + v < 2 ^ 31 by omega), hP.1.2.2.2.2.1, hP.1.2.2.2.2.2.1]
  have c12 : ¬ (nI (4 + v) < 0 ∨ 12 ≤ 4 + v) := by have := i12 (k := 4 + v) (by omega); rwa [nI_clamp (by omega)] at this
  have w1 := hP.1.1
  have w2 := hP.1.2.2.1
  by_cases ct : tr = 0
  · simp only [if_pos ct]
    by_cases c1 : c ≤ 1
    · rw [if_neg (fun q => (c_ge2 hc).mp q c1), if_pos c1, jck_pos c12, nI_m1 w1]
    · rw [if_pos ((c_ge2 hc).mpr c1), if_neg c1]; rfl
  · simp only [if_neg ct]
    by_cases c1 : c = 0 ∨ c = 2
    · rw [if_neg (fun q => (c_ev1 hc).mp q c1), if_pos c1]; rfl
    · rw [if_pos ((c_ev1 hc).mpr c1), if_neg c1, jck_pos c12, nI_m1 w2]
theorem jB23 {c : Nat} {tr : Int32} {W H : Nat} (hW : W ≤ 24) (hH : H ≤ 24) : jBf c tr W H ≤ 23 ∧ jDh c tr W H ≤ 23 := by
  have := jBD c tr W H
  have : jxt tr W H ≤ 23 := by
    unfold jxt
    by_cases h : tr = 0
    · rw [if_pos h]; omega
    · rw [if_neg h]; omega
  omega
/-- the start of a stale mark: some number -/
theorem st_some {σ : jMem} {k v : Nat} {x2 x3 : Int32} (hk : k < 12) (hv : v < 8) (h : σ 5 k = nI v) : ∃ r, f_IC_startOf (nI k) x2 x3 σ = some (r, σ) := by
  unfold f_IC_startOf
  rw [jck_pos (i12 hk), jck_pos (i12 hk), nI_clamp (by omega), h]
  have e : ∃ r, f_IC_extent (nI v) x3 σ = some (r, σ) := by
    unfold f_IC_extent
    rw [jck_pos (i8 hv)]
    by_cases c : x3 = 0
    · rw [if_pos c]; exact ⟨_, rfl⟩
    · rw [if_neg c]; exact ⟨_, rfl⟩
  obtain ⟨r, hr⟩ := e
  have b : ∃ r, f_IC_before (nI v) x2 x3 σ = some (r, σ) := by
    unfold f_IC_before
    rw [jbd_eq hr]
    by_cases c : x3 = 0
    · rw [if_pos c]
      by_cases c2 : f_IC_isRight x2 σ = 0
      · rw [if_pos c2]; exact ⟨_, rfl⟩
      · rw [if_neg c2]; exact ⟨_, rfl⟩
    · rw [if_neg c]
      by_cases c2 : f_IC_isLower x2 σ = 0
      · rw [if_pos c2]; exact ⟨_, rfl⟩
      · rw [if_neg c2]; exact ⟨_, rfl⟩
  obtain ⟨q, hq⟩ := b
  rw [jbd_eq hq]
  exact ⟨_, rfl⟩
/-- the state while a text is read: n marks are kept -/
def jTf (σ0 ρ0 σ ρ : jMem) : Prop := (∀ o, ¬ (5 ≤ o ∧ o ≤ 9) → o ≠ 11 → o ≠ 12 → o ≠ 13 → σ o = σ0 o) ∧ (∀ o, ¬ (42 ≤ o ∧ o ≤ 46) → o ≠ 38 → ρ o = ρ0 o) ∧ (∀ j, j ≠ 5 → j ≠ 9 → ¬ (12 ≤ j ∧ j ≤ 20) → ρ 38 j = ρ0 38 j)
def jTy (σ0 ρ0 : jMem) (S n : Nat) (σ ρ : jMem) : Prop := jD false σ ρ σ ρ ∧ ρ 38 5 = nI n ∧ (∀ k, k < 12 → ∃ v, v < 8 ∧ σ 5 k = nI v) ∧ (∀ k, k < n → jMk S σ ρ k) ∧ jTf σ0 ρ0 σ ρ
theorem jTf.nu {w : Bool} {σ0 ρ0 σ ρ m k : jMem} (h : jTf σ0 ρ0 σ ρ) (hn : jNu w σ ρ m k) : jTf σ0 ρ0 m k := ⟨fun o h1 h2 h3 h4 => (hn.2.1 o (by omega) (by omega) h2 h3 h4).trans (h.1 o h1 h2 h3 h4), fun o h1 h2 => (hn.2.2.1 o h2 (by omega) (by omega)).trans (h.2.1 o h1 h2), fun j h1 h2 h3 => (hn.2.2.2 j h2 h3).trans (h.2.2 j h1 h2 h3)⟩
theorem jTy.nu {S n : Nat} {σ0 ρ0 σ ρ m k : jMem} (h : jTy σ0 ρ0 S n σ ρ) (hn : jNu false σ ρ m k) : jTy σ0 ρ0 S n m k := by
  have e5 := hn.2.1 5 (by decide) (by decide) (by decide) (by decide) (by decide)
  refine ⟨hn.1, (hn.2.2.2 5 (by decide) (by decide)).trans h.2.1, ?_, ?_, h.2.2.2.2.nu hn⟩
  · rw [e5]; exact h.2.2.1
  · intro j hj
    exact (h.2.2.2.1 j hj).c (by rw [e5]) (by rw [hn.2.1 6 (by decide) (by decide) (by decide) (by decide) (by decide)]) (by rw [hn.2.1 7 (by decide) (by decide) (by decide) (by decide) (by decide)]) (by rw [hn.2.2.1 42 (by decide) (by decide) (by decide)]) (by rw [hn.2.2.1 43 (by decide) (by decide) (by decide)]) (by rw [hn.2.2.1 44 (by decide) (by decide) (by decide)])
theorem jTy.p {S n p W H : Nat} {σ0 ρ0 σ ρ : jMem} (h : jTy σ0 ρ0 S n σ ρ) (hp : p < 12) (hP : jP σ0 ρ0 p W H) : jP σ ρ p W H := hP.o (fun o h1 h2 => h.2.2.2.2.1 o (by omega) (by omega) (by omega) (by omega)) hp (h.2.2.2.2.2.1 39 (by decide) (by decide)) (h.2.2.2.2.2.1 40 (by decide) (by decide)) (h.2.2.2.2.2.1 41 (by decide) (by decide))
theorem jTy.k {S n j : Nat} {σ0 ρ0 σ ρ : jMem} (h : jTy σ0 ρ0 S n σ ρ) {v : Int32} (h1 : ρ0 38 j = v) (hj : j = 0 ∨ j = 4 ∨ j = 11 ∨ j = 21 ∨ j = 22) : ρ 38 j = v := (h.2.2.2.2.2.2 j (by omega) (by omega) (by omega)).trans h1
theorem jTy.n {S n : Nat} {σ0 ρ0 σ ρ : jMem} (h : jTy σ0 ρ0 S n σ ρ) : jNu false σ ρ σ ρ := ⟨h.1, .r _, .r _⟩
theorem jTy.set {S n v : Nat} {s t : Int} {σ0 ρ0 σ ρ : jMem} (h : jTy σ0 ρ0 S n σ ρ) (hn : n < 12) (hv : v < S) (hS : S ≤ 8) (hs : -1000 ≤ s ∧ s ≤ 1000) (ht : -100 ≤ t ∧ t ≤ 100) : jTy σ0 ρ0 S (n + 1) (ju (ju (ju σ 5 n (nI v)) 6 n (iI s)) 7 n (iI t)) (ju (ju (ju (ju ρ 42 n (nI v)) 43 n (iI s)) 44 n (iI t)) 38 5 (nI (n + 1))) := by
  obtain ⟨hD, h5, hst, hmk, f1, f2, f3⟩ := h
  refine ⟨hD.g ?_ ?_ ?_ ?_ ?_ ?_ ?_ ?_, ?_, ?_, ?_, ?_, ?_, ?_⟩
  iterate 5 (rw [ju_n (by decide), ju_n (by decide), ju_n (by decide)])
  · intro j hj; rw [ju_ap, if_pos rfl, if_neg (by omega), ju_n (by decide), ju_n (by decide), ju_n (by decide)]
  iterate 2 (rw [ju_n (by decide), ju_n (by decide), ju_n (by decide), ju_n (by decide)])
  · simp [ju_ap]
  · intro k hk
    rw [ju_n (by decide), ju_n (by decide), ju_ap, if_pos rfl]
    by_cases e : k = n
    · rw [if_pos e]; exact ⟨v, by omega, rfl⟩
    · rw [if_neg e]; exact hst k hk
  · intro k hk
    by_cases e : k = n
    · subst e
      refine ⟨v, s, t, hv, hs, ht, ?_⟩
      simp [ju_ap]
    · refine (hmk k (by omega)).c ?_ ?_ ?_ ?_ ?_ ?_
      all_goals simp [ju_ap, e]
  · intro o h1 h2 h3 h4; rw [ju_n (by omega), ju_n (by omega), ju_n (by omega)]; exact f1 o h1 h2 h3 h4
  · intro o h1 h2; rw [ju_n h2, ju_n (by omega), ju_n (by omega), ju_n (by omega)]; exact f2 o h1 h2
  · intro j h1 h2 h3; rw [ju_ap, if_pos rfl, if_neg h1, ju_n (by decide), ju_n (by decide), ju_n (by decide)]; exact f3 j h1 h2 h3
def jTp (σ0 ρ0 : jMem) (S T : Nat) : Int32 → jMem → Int32 → jMem → Prop := fun a m b k => (a = -1 ∧ b = 0 ∧ ∃ n, jTy σ0 ρ0 S n m k) ∨ (a = nI T ∧ b = 1 ∧ jTy σ0 ρ0 S T m k)
/-- a row begins -/
def jT0 (σ0 ρ0 : jMem) (S T c : Nat) (tr : Int32) (t k : Nat) : Prop := ∀ N N' x5 x6 x7 σ ρ, t < N → t < N' → jTy σ0 ρ0 S k σ ρ → jPP (f_IC_codeMarks_L48R N (nI c) tr (nI T) x5 x6 x7 (-2147483648) (nI k) σ) (f_MO_readText_L36 N' (nI T) x5 x6 ρ) (jTp σ0 ρ0 S T)
/-- a gap was read -/
def jT1 (σ0 ρ0 : jMem) (S T c : Nat) (tr : Int32) (t k : Nat) : Prop := ∀ N N' N'' x5 x6 C y a b σ ρ, t < N → t < N' → t < N'' → (-100 ≤ x5.toInt ∧ x5.toInt ≤ 100) → jTy σ0 ρ0 S k σ ρ → a = (if ρ 38 20 = 0 then b else -2147483648) → (ρ 38 20 = 0 → b ≠ -2147483648) → jPP (f_IC_codeMarks_L48R N (nI c) tr (nI T) x5 x6 C a (nI k) σ) (jbd (if (ρ 38 20) = 0 then (if (ρ 38 5) = nI T then (some ((0 : Int32), ρ)) else (f_MO_readRow_L6 N'' (nI T) y x5 (C + b) (1 : Int32) ρ)) else (f_MO_readRow_L6 N'' (nI T) y x5 (C + b) (0 : Int32) ρ)) (fun v93 n93 => if v93 = 0 then (some ((0 : Int32), n93)) else (f_MO_readText_L36 N' (nI T) x5 x6 n93))) (jTp σ0 ρ0 S T)
theorem tr_no {σ0 ρ0 σ ρ : jMem} {S T n : Nat} {f : Int32 → jMem → Option (Int32 × jMem)} (h : jTy σ0 ρ0 S n σ ρ) : jPP (some ((-1 : Int32), σ)) (jbd (some ((0 : Int32), ρ)) (fun v93 n93 => if v93 = 0 then (some ((0 : Int32), n93)) else f v93 n93)) (jTp σ0 ρ0 S T) := .br rfl (.irp rfl (.ret (Or.inl ⟨rfl, rfl, n, h⟩)))
theorem i_w1000 (x : Int32) (σ : jMem) : f_IC_within x (-1000) 1000 σ = if -1000 ≤ x.toInt ∧ x.toInt ≤ 1000 then 1 else 0 := by
  have := w_in (X := x.toInt) (A := -1000) (B := 1000) σ (iI_rg x) (by decide) (by decide)
  rw [← iI_of x] at this
  exact this
theorem i_m1000 (x : Int32) : x < (-1000 : Int32) ↔ x.toInt < -1000 := by rw [show (-1000 : Int32) = iI (-1000) from by decide]; exact i_lt x (-1000) (by decide)
theorem i_p1000 (x : Int32) : x ≤ (1000 : Int32) ↔ x.toInt ≤ 1000 := i_le x 1000 (by decide)
/-- one mark -/
theorem tr_mark {σ0 ρ0 σ ρ : jMem} {S T c t k N N' N'' : Nat} {tr x5 x6 C y : Int32} (hm : ρ0 38 11 = 2) (hS : S ≤ 8) (hs : σ0 2 1 = nI S) (hs2 : ρ0 38 4 = nI S) (h21 : ρ0 38 21 = nI c) (h22 : ρ0 38 22 = tr) (hc : c < 4) (hP : ∀ p, p < 4 + S → ∃ W H, jP σ0 ρ0 p W H) (hT : T ≤ 12) (hk : k + t + 1 = T) (ih : jT1 σ0 ρ0 S T c tr t (k + 1)) (h : jTy σ0 ρ0 S k σ ρ) (hN : t < N) (hN' : t < N') (hN'' : t < N'') (h5 : -100 ≤ x5.toInt ∧ x5.toInt ≤ 100) : jPP (jbd (f_NU_codeIndex_R (σ 5 k) σ) (fun v167 n167 => if (f_IC_isSymbol v167 n167) = 0 then (some ((-1 : Int32), n167)) else (jbd (f_IC_before v167 (nI c) tr n167) (fun v190 n190 => if (f_IC_within (C + v190) (-1000 : Int32) (1000 : Int32) n190) = 0 then (some ((-1 : Int32), n190)) else (jbd (f_MR_set (nI k) v167 (C + v190) x5 n190) (fun _ n224 => jbd (f_IC_extent v167 tr n224) (fun v233 n233 => if nI T ≤ (nI k + (1 : Int32)) then (jbd (f_NU_codeNumber_R (8 : Int32) (-2147483648 : Int32) n233) (fun v298 n298 => f_IC_codeMarks_L48R N (nI c) tr (nI T) x5 x6 (C + v233) v298 (nI k + 1) n298)) else (jck (¬ ((nI k + (1 : Int32)) < 0 ∨ 12 ≤ (nI k + (1 : Int32)).toNatClampNeg)) (if (n233 7 ((nI k + (1 : Int32)).toNatClampNeg)) = x5 then (jbd (f_IC_startOf (nI k + (1 : Int32)) (nI c) tr n233) (fun v287 n287 => jbd (f_NU_codeNumber_R (8 : Int32) (v287 - (C + v233)) n287) (fun v298 n298 => f_IC_codeMarks_L48R N (nI c) tr (nI T) x5 x6 (C + v233) v298 (nI k + 1) n298))) else (jbd (f_NU_codeNumber_R (8 : Int32) (-2147483648 : Int32) n233) (fun v298 n298 => f_IC_codeMarks_L48R N (nI c) tr (nI T) x5 x6 (C + v233) v298 (nI k + 1) n298))))))))))) (jbd (f_MO_readRow_L6 (N'' + 1) (nI T) y x5 C (1 : Int32) ρ) (fun v93 n93 => if v93 = 0 then (some ((0 : Int32), n93)) else (f_MO_readText_L36 N' (nI T) x5 x6 n93))) (jTp σ0 ρ0 S T) := by
  unfold f_MO_readRow_L6
  rw [if_neg (by decide), jbd_as]
  refine .bd (cdi_false (h.k hm (by decide)) h.n (fun q => Bool.noConfusion q)) ?_
  rintro a m b k' ⟨rfl, hn, ⟨V, hV, rfl⟩, -⟩
  have g1 := h.nu hn
  have nT : ¬ nI k = nI T := fun q => by have := (nI_eq (by omega) (by omega)).mp q; omega
  have e21 : m 2 1 = nI S := (congrFun (g1.2.2.2.2.1 2 (by decide) (by decide) (by decide) (by decide)) 1).trans hs
  rw [ic_sym hS e21, nI_toInt (by omega), g1.2.1, g1.k hs2 (by decide), if_neg nT]
  by_cases cs : ¬ V < S
  · rw [if_neg (show ¬ (0 ≤ (V : Int) ∧ (V : Int) < S) by omega), if_neg (nI_nlt (by omega) (by omega))]
    exact .ilp rfl (tr_no g1)
  replace cs := Classical.not_not.mp cs
  rw [if_pos (show (0 ≤ (V : Int) ∧ (V : Int) < S) by omega), if_pos (nI_lt cs (by omega))]
  refine .iln (by decide) ?_
  obtain ⟨W, H, hQ⟩ := hP (4 + V) (by omega)
  have q1 := g1.p (by omega) hQ
  rw [jbd_as]
  refine .bl (ic_bef tr hc hV q1) (.br (mo_bef tr hc hV q1 (g1.k h21 (by decide)) (g1.k h22 (by decide))) ?_)
  rw [i_w1000]
  generalize hX : C + nI (jBf c tr W H) = X
  by_cases cw : ¬ (-1000 ≤ X.toInt ∧ X.toInt ≤ 1000)
  · rw [if_neg cw]
    refine .ilp rfl ?_
    by_cases cl : X.toInt < -1000
    · rw [if_pos ((i_m1000 X).mpr cl)]; exact tr_no g1
    · rw [if_neg (show ¬ X < -1000 from fun q => cl ((i_m1000 X).mp q)), if_neg (show ¬ X ≤ 1000 from fun q => by have := (i_p1000 X).mp q; omega)]; exact tr_no g1
  replace cw := Classical.not_not.mp cw
  rw [if_pos cw, if_neg (show ¬ X < -1000 from fun q => by have := (i_m1000 X).mp q; omega), if_pos ((i_p1000 X).mpr cw.2), jbd_as]
  refine .iln (by decide) ?_
  have c12 : ¬ (nI k < 0 ∨ 12 ≤ (nI k).toNatClampNeg) := i12 (by omega)
  have k1 : f_MR_set (nI k) (nI V) X x5 m = some ((), ju (ju (ju m 5 k (nI V)) 6 k X) 7 k x5) := by
    unfold f_MR_set
    rw [jck_pos c12, jck_pos c12, jck_pos c12, nI_clamp (by omega)]
  have k2 : f_MO_keepMark (nI V) X x5 k' = some ((), ju (ju (ju (ju k' 42 k (nI V)) 43 k X) 44 k x5) 38 5 (nI (k + 1))) := by
    unfold f_MO_keepMark
    rw [g1.2.1, jck_pos c12, jck_pos c12, jck_pos c12, nI_clamp (by omega), nI_1]
  refine .bl k1 (.br k2 ?_)
  have g2 := g1.set (v := V) (s := X.toInt) (t := x5.toInt) (by omega) cs hS cw h5
  rw [← iI_of X, ← iI_of x5] at g2
  generalize ju (ju (ju m 5 k (nI V)) 6 k X) 7 k x5 = m2 at g2 ⊢
  generalize ju (ju (ju (ju k' 42 k (nI V)) 43 k X) 44 k x5) 38 5 (nI (k + 1)) = k2' at g2 ⊢
  have q2 := g2.p (by omega) hQ
  rw [jbd_as]
  refine .bl (ic_ext tr hV q2) (.br (mo_beh tr hc hV q2 (g2.k h21 (by decide)) (g2.k h22 (by decide))) ?_)
  rw [jbd_as, nI_1]
  have eC : C + nI (jxt tr W H) = X + nI (jDh c tr W H) := by rw [← hX, ← jBD c tr W H, ← nI_add]; grind
  rw [eC]
  have key : ∀ v m3, m3 = m2 → jPP (jbd (f_NU_codeNumber_R (8 : Int32) v m3) (fun v298 n298 => f_IC_codeMarks_L48R N (nI c) tr (nI T) x5 x6 (X + nI (jDh c tr W H)) v298 (nI (k + 1)) n298)) (jbd (f_MO_codeNumber (8 : Int32) (0 : Int32) (0 : Int32) k2') (fun v93 n93 => jbd (if (n93 38 20) = 0 then (if (n93 38 5) = nI T then (some ((0 : Int32), n93)) else (f_MO_readRow_L6 N'' (nI T) y x5 ((X + nI (jDh c tr W H)) + v93) (1 : Int32) n93)) else (f_MO_readRow_L6 N'' (nI T) y x5 ((X + nI (jDh c tr W H)) + v93) (0 : Int32) n93)) (fun v93 n93 => if v93 = 0 then (some ((0 : Int32), n93)) else (f_MO_readText_L36 N' (nI T) x5 x6 n93)))) (jTp σ0 ρ0 S T) := by
    intro v m3 e3
    subst e3
    refine .bd (num_false (κ := 8) (by decide) (g2.k hm (by decide)) g2.n (fun q => Bool.noConfusion q)) ?_
    rintro a m4 b k4 ⟨hn4, ha, h01, hb, -⟩
    exact ih N N' N'' x5 x6 _ y a b m4 k4 hN hN' hN'' h5 (g2.nu hn4) ha hb
  by_cases cT : nI T ≤ nI (k + 1)
  · exact .ilp cT (key _ _ rfl)
  have hl : k + 1 < T := by
    apply Nat.lt_of_not_le
    intro q
    exact cT (nI_le q (by omega))
  refine .iln cT (.ckl (i12 (by omega)) ?_)
  by_cases c7 : m2 7 (nI (k + 1)).toNatClampNeg = x5
  · refine .ilp c7 ?_
    obtain ⟨v', hv', e'⟩ := g2.2.2.1 (k + 1) (by omega)
    obtain ⟨r, hr⟩ := st_some (σ := m2) (x2 := nI c) (x3 := tr) (show k + 1 < 12 by omega) hv' e'
    exact .bl hr (key _ _ rfl)
  · exact .iln c7 (key _ _ rfl)
theorem tr_loop {σ0 ρ0 : jMem} {S T c : Nat} {tr : Int32} (hm : ρ0 38 11 = 2) (hS : S ≤ 8) (hs : σ0 2 1 = nI S) (hs2 : ρ0 38 4 = nI S) (h21 : ρ0 38 21 = nI c) (h22 : ρ0 38 22 = tr) (hc : c < 4) (hP : ∀ p, p < 4 + S → ∃ W H, jP σ0 ρ0 p W H) (hT : T ≤ 12) : ∀ t k, k + t = T → jT0 σ0 ρ0 S T c tr t k ∧ jT1 σ0 ρ0 S T c tr t k := by
  intro t
  induction t with
  | zero =>
    intro k hk
    have : k = T := by omega
    subst this
    have d0 : jT0 σ0 ρ0 S k c tr 0 k := by
      intro N N' x5 x6 x7 σ ρ hN hN' h
      obtain ⟨N, rfl⟩ : ∃ q, N = q + 1 := ⟨N - 1, by omega⟩
      obtain ⟨N', rfl⟩ : ∃ q, N' = q + 1 := ⟨N' - 1, by omega⟩
      unfold f_IC_codeMarks_L48R f_MO_readText_L36
      exact .ilp (nI_le (by omega) (by omega)) (.ilp rfl (.irp (by rw [h.2.1]; exact nI_le (by omega) (by omega)) (.ret (Or.inr ⟨rfl, rfl, h⟩))))
    refine ⟨d0, ?_⟩
    intro N N' N'' x5 x6 C y a b σ ρ hN hN' hN'' h5 h ha hb
    by_cases cz : ρ 38 20 = 0
    · rw [if_pos cz] at ha
      subst ha
      obtain ⟨N, rfl⟩ : ∃ q, N = q + 1 := ⟨N - 1, by omega⟩
      rw [if_pos cz, if_pos h.2.1]
      unfold f_IC_codeMarks_L48R
      exact .ilp (nI_le (by omega) (by omega)) (.iln (hb cz) (tr_no h))
    · rw [if_neg cz] at ha
      subst ha
      obtain ⟨N'', rfl⟩ : ∃ q, N'' = q + 1 := ⟨N'' - 1, by omega⟩
      rw [if_neg cz]
      unfold f_MO_readRow_L6
      rw [if_pos rfl]
      exact .br rfl (.irn (by decide) (d0 N N' _ _ _ σ ρ hN hN' h))
  | succ t iht =>
    intro k hk
    have ih := (iht (k + 1) (by omega)).2
    have lt : ¬ nI T ≤ nI k := nI_ge (by omega) (by omega)
    have c12 : ¬ (nI k < 0 ∨ 12 ≤ (nI k).toNatClampNeg) := i12 (by omega)
    have ne : ¬ nI k = nI T := fun q => by have := (nI_eq (by omega) (by omega)).mp q; omega
    have d0 : jT0 σ0 ρ0 S T c tr (t + 1) k := by
      intro N N' x5 x6 x7 σ ρ hN hN' h
      obtain ⟨N, rfl⟩ : ∃ q, N = q + 1 := ⟨N - 1, by omega⟩
      obtain ⟨N', rfl⟩ : ∃ q, N' = q + 1 := ⟨N' - 1, by omega⟩
      unfold f_IC_codeMarks_L48R f_MO_readText_L36
      rw [h.2.1]
      refine .iln lt (.irn lt (.ilp rfl (.ckl c12 ?_)))
      have out : ∀ {m k1}, jTy σ0 ρ0 S k m k1 → jTp σ0 ρ0 S T (-1) m 0 k1 := fun g => Or.inl ⟨rfl, rfl, k, g⟩
      refine .bd (num_false (κ := 6) (by decide) (h.k hm (by decide)) h.n (fun q => Bool.noConfusion q)) ?_
      rintro a m b k1 ⟨hn, ha, h01, hb, -⟩
      have g1 := h.nu hn
      by_cases cz : ¬ k1 38 20 = 0
      · rw [if_neg cz] at ha
        subst ha
        exact .ilp rfl (.irn cz (.ret (out g1)))
      replace cz := Classical.not_not.mp cz
      rw [if_pos cz] at ha
      subst ha
      rw [ic_place, mo_far]
      refine .iln (hb cz) (.irp cz ?_)
      by_cases cp : ¬ (-100 ≤ (x5 + a).toInt ∧ (x5 + a).toInt ≤ 100)
      · rw [if_neg cp, if_neg cp]
        exact .ilp rfl (.irn (by decide) (.ret (out g1)))
      replace cp := Classical.not_not.mp cp
      rw [if_pos cp, if_pos cp]
      refine .iln (by decide) (.irp rfl ?_)
      obtain ⟨v', hv', e'⟩ := g1.2.2.1 k (by omega)
      obtain ⟨r, hr⟩ := st_some (σ := m) (x2 := nI c) (x3 := tr) (show k < 12 by omega) hv' e'
      refine .bl hr ?_
      refine .bd (num_false (κ := 7) (by decide) (g1.k hm (by decide)) g1.n (fun q => Bool.noConfusion q)) ?_
      rintro a2 m2 b2 k2 ⟨hn2, ha2, h012, hb2, -⟩
      have g2 := g1.nu hn2
      by_cases c2 : ¬ k2 38 20 = 0
      · rw [if_neg c2] at ha2
        subst ha2
        exact .ilp rfl (.irn c2 (.ret (out g2)))
      replace c2 := Classical.not_not.mp c2
      rw [if_pos c2] at ha2
      subst ha2
      refine .iln (hb2 c2) (.irp c2 (.ckl c12 ?_))
      rw [nI_clamp (show k < 2 ^ 31 by omega)]
      unfold f_MO_readRow
      rw [show jfu = 19999 + 1 from rfl]
      exact tr_mark hm hS hs hs2 h21 h22 hc hP hT (by omega) ih g2 (by omega) (by omega) (Nat.lt_trans (show t < 13 by omega) (by decide)) cp
    refine ⟨d0, ?_⟩
    intro N N' N'' x5 x6 C y a b σ ρ hN hN' hN'' h5 h ha hb
    by_cases cz : ρ 38 20 = 0
    · rw [if_pos cz] at ha
      subst ha
      obtain ⟨N, rfl⟩ : ∃ q, N = q + 1 := ⟨N - 1, by omega⟩
      obtain ⟨N'', rfl⟩ : ∃ q, N'' = q + 1 := ⟨N'' - 1, by omega⟩
      rw [if_pos cz, if_neg (by rw [h.2.1]; exact ne)]
      unfold f_IC_codeMarks_L48R
      refine .iln lt (.iln (hb cz) (.ckl c12 ?_))
      rw [nI_clamp (show k < 2 ^ 31 by omega)]
      exact tr_mark hm hS hs hs2 h21 h22 hc hP hT (by omega) ih h (by omega) (by omega) (by omega) h5
    · rw [if_neg cz] at ha
      subst ha
      obtain ⟨N'', rfl⟩ : ∃ q, N'' = q + 1 := ⟨N'' - 1, by omega⟩
      rw [if_neg cz]
      unfold f_MO_readRow_L6
      rw [if_pos rfl]
      exact .br rfl (.irn (by decide) (d0 N N' _ _ _ σ ρ hN hN' h))
theorem tr_all {σ ρ : jMem} {S M c : Nat} {tr : Int32} (h : jGl 2 S M σ ρ) (hc : c < 4) (h21 : ρ 38 21 = nI c) (h22 : ρ 38 22 = tr) : jPP (f_IC_codeMarks (nI c) tr σ) (f_MO_readText ρ) (fun a m b k => ∃ T, T ≤ 12 ∧ jTp σ ρ S T a m b k) := by
  have hm : ρ 38 11 = 2 := h.1.2.2
  have hcm : σ 0 7 = 2 := h.1.2.1
  have hS := h.2.1.1
  unfold f_IC_codeMarks f_MO_readText
  refine .iln (by rw [hcm]; decide) ?_
  have hD := h.2.2.2.2.1.2 rfl
  refine .bd (num_false (κ := 3) (σ0 := σ) (ρ0 := ρ) (by decide) hm ⟨hD, .r _, .r _⟩ (fun q => Bool.noConfusion q)) ?_
  rintro a m b k ⟨hn, ha, h01, hb, -⟩
  have g1 : jTy σ ρ S 0 m (ju k 38 5 0) := by
    refine ⟨hn.1.g rfl rfl rfl rfl rfl (fun j hj => by rw [ju_ap, if_pos rfl, if_neg (by omega)]) (ju_n (by decide)) (ju_n (by decide)), by rw [ju_ap, if_pos rfl, if_pos rfl]; rfl, ?_, fun j hj => absurd hj (by omega), fun o h1 h2 h3 h4 => hn.2.1 o (by omega) (by omega) h2 h3 h4, fun o h1 h2 => by rw [ju_n h2]; exact hn.2.2.1 o h2 (by omega) (by omega), fun j h1 h2 h3 => by rw [ju_ap, if_pos rfl, if_neg h1]; exact hn.2.2.2 j h2 h3⟩
    rw [hn.2.1 5 (by decide) (by decide) (by decide) (by decide) (by decide)]
    exact h.2.2.2.2.2.2.1
  have hw : f_IC_within a (0 : Int32) (12 : Int32) m = if 0 ≤ a.toInt ∧ a.toInt ≤ 12 then 1 else 0 := by
    have := w_in (X := a.toInt) (A := 0) (B := 12) m (iI_rg a) (by decide) (by decide)
    rwa [← iI_of a] at this
  rw [hw]
  have out : ∃ T, T ≤ 12 ∧ jTp σ ρ S T (-1) m 0 (ju k 38 5 0) := ⟨0, by decide, Or.inl ⟨rfl, rfl, 0, g1⟩⟩
  by_cases cz : ¬ k 38 20 = 0
  · rw [if_neg cz] at ha
    subst ha
    rw [if_neg (show ¬ (0 ≤ (-2147483648 : Int32).toInt ∧ (-2147483648 : Int32).toInt ≤ 12) from by decide)]
    exact .ilp rfl (.irn cz (.ret out))
  replace cz := Classical.not_not.mp cz
  rw [if_pos cz] at ha
  subst ha
  refine .irp cz ?_
  have l0 : a < (0 : Int32) ↔ a.toInt < 0 := i_lt a 0 (by decide)
  have l8 : a ≤ (12 : Int32) ↔ a.toInt ≤ 12 := i_le a 12 (by decide)
  by_cases c8 : ¬ (0 ≤ a.toInt ∧ a.toInt ≤ 12)
  · rw [if_neg c8]
    refine .ilp rfl ?_
    by_cases cn : a.toInt < 0
    · exact .irp (l0.mpr cn) (.ret out)
    · exact .irn (fun q => cn (l0.mp q)) (.irn (fun q => by have := l8.mp q; omega) (.ret out))
  replace c8 := Classical.not_not.mp c8
  rw [if_pos c8]
  refine .iln (by decide) (.irn (fun q => by have := l0.mp q; omega) (.irp (l8.mpr c8.2) ?_))
  obtain ⟨T, hT, rfl⟩ : ∃ T, T ≤ 12 ∧ a = nI T := ⟨a.toInt.toNat, by omega, i_nat c8.1⟩
  refine ((tr_loop (σ0 := σ) (ρ0 := ρ) (T := T) hm hS h.2.1.2.1 h.2.1.2.2 h21 h22 hc h.2.2.2.2.2.1 hT T 0 (by omega)).1 jfu jfu 0 0 0 m (ju k 38 5 0) (by show T < 20000; omega) (by show T < 20000; omega) g1).mono ?_
  intro a m b k q
  exact ⟨T, hT, q⟩
