/-! texts: drawn, and whole -/
theorem jGl.mk {md S M k : Nat} {σ ρ : jMem} (h : jGl md S M σ ρ) (hk : k < M) : jMk S σ ρ k := h.2.2.2.2.2.2.2 k hk
theorem tw_all {σ ρ : jMem} {S M c : Nat} {tr : Int32} (h : jGl 1 S M σ ρ) (hc : c < 4) (h21 : ρ 38 21 = nI c) (h22 : ρ 38 22 = tr) : jPP (f_IC_codeMarks (nI c) tr σ) (f_MO_writeText ρ) (jTx σ ρ M) := by
  have hm : ρ 38 11 = 1 := h.1.2.2
  have hcm : σ 0 7 = 1 := h.1.2.1
  have hS := h.2.1.1
  have hM := h.2.2.1.1
  have hMs : jMs σ ρ S M c tr (fun k => (ρ 42 k).toNatClampNeg) (fun k => (ρ 43 k).toInt) (fun k => (ρ 44 k).toInt) (fun k => jBf c tr (ρ 40 (4 + (ρ 42 k).toNatClampNeg)).toNatClampNeg (ρ 41 (4 + (ρ 42 k).toNatClampNeg)).toNatClampNeg) (fun k => jDh c tr (ρ 40 (4 + (ρ 42 k).toNatClampNeg)).toNatClampNeg (ρ 41 (4 + (ρ 42 k).toNatClampNeg)).toNatClampNeg) := by
    intro k hk
    obtain ⟨v, s, t, z1, z2, z3, z4, z5, z6, z7, z8, z9⟩ := h.mk hk
    have ev : (ρ 42 k).toNatClampNeg = v := by rw [z5, nI_clamp (by omega)]
    obtain ⟨W, H, hP⟩ := h.2.2.2.2.2.1 (4 + v) (by omega)
    have w1 := hP.1.2.1
    have w2 := hP.1.2.2.2.1
    simp only [ev, z7, z9, iI_toInt (show jrg s by constructor <;> omega), iI_toInt (show jrg t by constructor <;> omega), hP.1.2.2.2.2.1, hP.1.2.2.2.2.2.1, nI_clamp (show W < 2 ^ 31 by omega), nI_clamp (show H < 2 ^ 31 by omega)]
    refine ⟨z1, z2, z3, jB23 w1 w2, ⟨z4, z5, z6, trivial, z8, trivial⟩, ?_⟩
    intro σ' ρ' hn
    have q := hP.nu (by omega) hn
    have g21 : ρ' 38 21 = nI c := (hn.2.2.2 21 (by decide) (by decide)).trans h21
    have g22 : ρ' 38 22 = tr := (hn.2.2.2 22 (by decide) (by decide)).trans h22
    refine ⟨ic_bef tr hc (by omega) q, mo_bef tr hc (by omega) q g21 g22, mo_beh tr hc (by omega) q g21 g22, ?_⟩
    rw [jBD]
    exact ic_ext tr (by omega) q
  unfold f_IC_codeMarks f_MO_writeText
  refine .ilp hcm ?_
  rw [h.2.2.1.2.1, h.2.2.1.2.2, ← iI_nI]
  refine .bd (tw_num (κ := 3) hm (by decide) ⟨h.2.2.2.2.1.1 rfl, .r _, .r _⟩ (by omega)) ?_
  rintro a m b k ⟨rfl, rfl, hd⟩
  have hw : f_IC_within (iI M) (0 : Int32) (12 : Int32) m = 1 := by
    have := w_in (X := (M : Int)) (A := 0) (B := 12) m (by constructor <;> omega) (by decide) (by decide)
    rw [if_pos (by omega)] at this
    exact this
  rw [hw, iI_nI]
  refine .iln (by decide) ?_
  exact (tw_loop hm hS h.2.1.2.1 h.2.2.1.2.2 hM hMs M).1 0 (by omega) jfu jfu 0 0 0 0 m k (by show M < 20000; omega) (by show M < 20000; omega) (by decide) (by decide) (Or.inl rfl) hd
def jXL (c : Nat) (tr : Int32) (s t : Int) (W : Nat) : Int := if c ≤ 1 then (if tr = 0 then s else t) else (if tr = 0 then s else t) - W + 1
def jYT (c : Nat) (tr : Int32) (s t : Int) (H : Nat) : Int := if c = 0 ∨ c = 2 then (if tr = 0 then t else s) - H + 1 else (if tr = 0 then t else s)
theorem iI_p1 (s : Int) (W : Nat) : iI s - nI W + 1 = iI (s - W + 1) := by rw [← iI_nI, iI_sub, show (1 : Int32) = iI 1 from rfl, iI_add]
theorem ic_stamp {σ : jMem} {b k v c W H : Nat} {tr op : Int32} {s t : Int} (hc : c < 4) (hk : k < 12) (hv : v < 8) (h5 : σ 5 k = nI v) (h6 : σ 6 k = iI s) (h7 : σ 7 k = iI t) (hW : σ (14 + 2 * (4 + v)) 1 = nI W) (hH : σ (14 + 2 * (4 + v)) 2 = nI H) : f_IC_stampMark b (nI k) (nI c) tr op σ = jbd (f_PI_stamp b (4 + v) (iI (jXL c tr s t W)) (iI (jYT c tr s t H)) op σ) (fun _ n132 => some ((), n132)) := by
  unfold f_IC_stampMark jXL jYT
  simp only [nI_clamp (show k < 2 ^ 31 by omega), h5, h6, h7, nI_clamp (show v < 2 ^ 31 by omega), hW, hH, iI_p1, ic_right hc, ic_lower hc]
  have c12 : ¬ (nI k < 0 ∨ 12 ≤ k) := by have := i12 hk; rwa [nI_clamp (by omega)] at this
  have c8 : ¬ (nI v < 0 ∨ 8 ≤ v) := by have := i8 hv; rwa [nI_clamp (by omega)] at this
  simp only [jck_pos c12, jck_pos c8]
  have n10 : ¬ (1 : Int32) = 0 := by decide
  by_cases a : tr = 0 <;> by_cases b : c ≤ 1 <;> by_cases d : c = 0 ∨ c = 2 <;> simp only [a, b, d, if_true, if_false, n10]
theorem mo_draw {ρ : jMem} {b k v c W H M N : Nat} {tr op : Int32} {s t : Int} (hc : c < 4) (hM : M ≤ 12) (hk : k < M) (hv : v < 8) (h5 : ρ 38 5 = nI M) (h21 : ρ 38 21 = nI c) (h22 : ρ 38 22 = tr) (h2 : ρ 42 k = nI v) (h3 : ρ 43 k = iI s) (h4 : ρ 44 k = iI t) (hW : ρ 40 (4 + v) = nI W) (hH : ρ 41 (4 + v) = nI H) : f_MO_drawMarks_L2 (N + 1) (nI b) op (nI k) ρ = jbd (f_MO_lay (nI b) (nI (4 + v)) (iI (jXL c tr s t W)) (iI (jYT c tr s t H)) op ρ) (fun _ n132 => f_MO_drawMarks_L2 N (nI b) op (nI k + 1) n132) := by
  rw [f_MO_drawMarks_L2]
  unfold jXL jYT
  rw [h5, if_neg (nI_ge hk (by omega))]
  simp only [nI_clamp (show k < 2 ^ 31 by omega), h21, h22, h2, h3, h4, e4k, nI_clamp (show 4 + v < 2 ^ 31 by omega), hW, hH, iI_p1]
  have c12 : ¬ (nI k < 0 ∨ 12 ≤ k) := by have := i12 (k := k) (by omega); rwa [nI_clamp (by omega)] at this
  have c13 : ¬ (nI (4 + v) < 0 ∨ 12 ≤ 4 + v) := by have := i12 (k := 4 + v) (by omega); rwa [nI_clamp (by omega)] at this
  simp only [jck_pos c12, jck_pos c13, c_le1 hc, c_ev0 hc]
  by_cases a : tr = 0 <;> by_cases b : c ≤ 1 <;> by_cases d : c = 0 ∨ c = 2 <;> simp only [a, b, d, if_true, if_false]
theorem dm_loop {md S M c b : Nat} {tr op x5 : Int32} (hc : c < 4) (hb : b < 4) : ∀ t k N N' σ ρ, k + t = M → t < N → t < N' → jGl md S M σ ρ → ρ 38 21 = nI c → ρ 38 22 = tr → jPP (f_IC_text_L77 N (nI b) (nI c) tr op x5 (nI k) σ) (f_MO_drawMarks_L2 N' (nI b) op (nI k) ρ) (fun a m _ k' => a = .inr x5 ∧ jGl md S M m k' ∧ jFr σ ρ m k' ∧ k' 38 = ρ 38) := by
  intro t
  induction t with
  | zero =>
    intro k N N' σ ρ hk hN hN' h h21 h22
    have : k = M := by omega
    subst this
    obtain ⟨N, rfl⟩ : ∃ q, N = q + 1 := ⟨N - 1, by omega⟩
    obtain ⟨N', rfl⟩ : ∃ q, N' = q + 1 := ⟨N' - 1, by omega⟩
    have hM := h.2.2.1.1
    rw [f_IC_text_L77, f_MO_drawMarks_L2, h.2.2.1.2.1, h.2.2.1.2.2]
    exact .ipp (nI_le (by omega) (by omega)) (.ret ⟨rfl, h, .r _ _, rfl⟩)
  | succ t ih =>
    intro k N N' σ ρ hk hN hN' h h21 h22
    obtain ⟨N, rfl⟩ : ∃ q, N = q + 1 := ⟨N - 1, by omega⟩
    obtain ⟨N', rfl⟩ : ∃ q, N' = q + 1 := ⟨N' - 1, by omega⟩
    have hM := h.2.2.1.1
    have hS := h.2.1.1
    obtain ⟨v, s, tt, z1, z2, z3, z4, z5, z6, z7, z8, z9⟩ := h.mk (k := k) (by omega)
    obtain ⟨W, H, hP⟩ := h.bd hb
    obtain ⟨W', H', hQ⟩ := h.2.2.2.2.2.1 (4 + v) (by omega)
    have w1 := hQ.1.2.1
    have w2 := hQ.1.2.2.2.1
    rw [f_IC_text_L77, mo_draw hc hM (by omega) (by omega) h.2.2.1.2.2 h21 h22 z5 z7 z9 hQ.1.2.2.2.2.1 hQ.1.2.2.2.2.2.1, h.2.2.1.2.1]
    refine .iln (nI_ge (by omega) (by omega)) (.ckl (in4 hb) ?_)
    rw [nI_clamp (show b < 2 ^ 31 by omega), ic_stamp hc (by omega) (by omega) z4 z6 z8 hQ.2.1 hQ.2.2.1, jbd_as]
    have rX : -5000 ≤ jXL c tr s tt W' ∧ jXL c tr s tt W' ≤ 5000 := by
      unfold jXL
      by_cases a : tr = 0 <;> by_cases b : c ≤ 1 <;> simp only [a, b, if_true, if_false] <;> omega
    have rY : -5000 ≤ jYT c tr s tt H' ∧ jYT c tr s tt H' ≤ 5000 := by
      unfold jYT
      by_cases a : tr = 0 <;> by_cases b : c = 0 ∨ c = 2 <;> simp only [a, b, if_true, if_false] <;> omega
    refine .bd (stamp_lay (op := op) (by omega) (by omega) (by omega) rX rY hP hQ) ?_
    rintro _ m _ k' ⟨h1, h2, h3⟩
    have e38 : k' 38 = ρ 38 := h2.z.1 38 (by decide) (by decide) (by decide)
    show jPP (f_IC_text_L77 N (nI b) (nI c) tr op x5 (nI k + 1) m) (f_MO_drawMarks_L2 N' (nI b) op (nI k + 1) k') _
    rw [nI_1]
    refine (ih (k + 1) N N' m k' (by omega) (by omega) (by omega) (h.z h1.b h2.z h3) (by rw [e38, h21]) (by rw [e38, h22])).mono ?_
    rintro a m2 _ k2 ⟨e, g1, g2, g3⟩
    exact ⟨e, g1, ((jFr.r σ ρ).d (by omega) h1 h2).x g2.1 g2.2, g3.trans e38⟩
theorem ty_gl {σ0 ρ0 m k m' k' : jMem} {S M n T md' : Nat} (h : jGl 2 S M σ0 ρ0) (hy : jTy σ0 ρ0 S n m k) (hmd : md' = 0 ∨ md' = 2) (hT : T ≤ n) (hT2 : T ≤ 12) (a1 : ∀ o, o < 38 → o ≠ 0 → o ≠ 4 → m' o = m o) (a2 : m' 0 7 = nI md') (a3 : m' 4 3 = nI T) (a4 : ∀ j, j ≠ 5 → j ≠ 11 → k' 38 j = k 38 j) (a5 : ∀ o, 39 ≤ o → o < 47 → k' o = k o) (a6 : k' 38 11 = nI md') (a7 : k' 38 5 = nI T) : jGl md' S T m' k' := by
  have hS := h.2.1.1
  have hd' : jD false m' k' m' k' := hy.1.g (a1 8 (by decide) (by decide) (by decide)) (a1 9 (by decide) (by decide) (by decide)) (a1 11 (by decide) (by decide) (by decide)) (a1 12 (by decide) (by decide) (by decide)) (a1 13 (by decide) (by decide) (by decide)) (fun j hj => a4 j (by omega) (by omega)) (a5 45 (by decide) (by decide)) (a5 46 (by decide) (by decide))
  refine ⟨⟨by omega, a2, a6⟩, ⟨hS, ?_, ?_⟩, ⟨hT2, a3, a7⟩, hd'.cb, ⟨fun q => by omega, fun _ => hd'⟩, ?_, ?_, ?_⟩
  · rw [a1 2 (by decide) (by decide) (by decide), hy.2.2.2.2.1 2 (by decide) (by decide) (by decide) (by decide)]; exact h.2.1.2.1
  · rw [a4 4 (by decide) (by decide), hy.k h.2.1.2.2 (by decide)]
  · intro p hp
    obtain ⟨W, H, q⟩ := h.2.2.2.2.2.1 p hp
    exact ⟨W, H, (hy.p (by omega) q).o (fun o h1 h2 => a1 o h2 (by omega) (by omega)) (by omega) (a5 39 (by decide) (by decide)) (a5 40 (by decide) (by decide)) (a5 41 (by decide) (by decide))⟩
  · rw [a1 5 (by decide) (by decide) (by decide)]; exact hy.2.2.1
  · intro j hj
    exact (hy.2.2.2.1 j (by omega)).c (by rw [a1 5 (by decide) (by decide) (by decide)]) (by rw [a1 6 (by decide) (by decide) (by decide)]) (by rw [a1 7 (by decide) (by decide) (by decide)]) (by rw [a5 42 (by decide) (by decide)]) (by rw [a5 43 (by decide) (by decide)]) (by rw [a5 44 (by decide) (by decide)])
theorem jGl.kk {md S M j : Nat} {σ ρ : jMem} (h : jGl md S M σ ρ) (hj : 18 ≤ j) (v : Int32) : jGl md S M σ (ju ρ 38 j v) := by
  have hS := h.2.1.1
  refine h.pic (fun _ _ => rfl) (fun k h1 h2 => by rw [ju_ap, if_pos rfl, if_neg (by omega)]) (fun o h1 h2 => ju_n (by omega)) (fun p hp => ?_)
  obtain ⟨W, H, q⟩ := h.2.2.2.2.2.1 p hp
  exact ⟨W, H, q.o (fun _ _ _ => rfl) (by omega) (ju_n (by decide)) (ju_n (by decide)) (ju_n (by decide))⟩
theorem jFr.tf {σ0 ρ0 σ ρ m k : jMem} (h : jFr σ0 ρ0 σ ρ) (hd : jTf σ ρ m k) : jFr σ0 ρ0 m k := h.x (fun o ho => hd.1 o (by omega) (by omega) (by omega) (by omega)) (fun o ho => hd.2.1 o (by omega) (by omega))
theorem m_text {md S M : Nat} {σ ρ : jMem} (h : jGl md S M σ ρ) (x1 x2 x3 x4 : Int32) (h3 : x3 = 0 ∨ x3 = 1) : jPP (f_IC_text x1 x2 x3 x4 σ) (f_MO_text x1 x2 x3 x4 ρ) (jpx c201 σ ρ) := by
  unfold f_IC_text f_MO_text
  rw [ic_idle h.1.1 h.1.2.1, h.1.2.2, mo_board]
  by_cases c0 : md = 0
  · subst c0
    rw [if_pos rfl, jbt_ex]
    exact .irp rfl (.ret (jx_ex h rfl))
  rw [if_neg c0, jbt_in, ic_refB]
  refine .irn (jmdn h.1.1 c0) ?_
  by_cases cb : ¬ (0 ≤ x1.toInt ∧ x1.toInt ≤ 3)
  · rw [if_neg cb, if_neg cb, jbt_ex]
    exact .irp rfl (.ret (jx_ex h rfl))
  replace cb := Classical.not_not.mp cb
  rw [if_pos cb, if_pos cb, jbt_in]
  refine .irn (by decide) ?_
  have l1 : x2 < (0 : Int32) ↔ x2.toInt < 0 := i_lt x2 0 (by decide)
  have l3 : (3 : Int32) < x2 ↔ 3 < x2.toInt := i_gt x2 3 (by decide)
  have l4 : x4 < (0 : Int32) ↔ x4.toInt < 0 := i_lt x4 0 (by decide)
  have l5 : x4 ≤ (4 : Int32) ↔ x4.toInt ≤ 4 := i_le x4 4 (by decide)
  have hw : f_IC_within x2 (0 : Int32) (3 : Int32) σ = if 0 ≤ x2.toInt ∧ x2.toInt ≤ 3 then 1 else 0 := by
    have := w_in (X := x2.toInt) (A := 0) (B := 3) σ (iI_rg x2) (by decide) (by decide)
    rwa [← iI_of x2] at this
  have hw4 : f_IC_within x4 (0 : Int32) (4 : Int32) σ = if 0 ≤ x4.toInt ∧ x4.toInt ≤ 4 then 1 else 0 := by
    have := w_in (X := x4.toInt) (A := 0) (B := 4) σ (iI_rg x4) (by decide) (by decide)
    rwa [← iI_of x4] at this
  rw [hw, hw4]
  by_cases c2 : ¬ (0 ≤ x2.toInt ∧ x2.toInt ≤ 3)
  · rw [if_neg c2]
    refine .ilp rfl ?_
    by_cases c : x2.toInt < 0
    · exact .irp (l1.mpr c) (.ret (jx_ex h rfl))
    · exact .irn (fun q => c (l1.mp q)) (.irp (l3.mpr (by omega)) (.ret (jx_ex h rfl)))
  replace c2 := Classical.not_not.mp c2
  rw [if_pos c2]
  refine .iln (by decide) (.irn (fun q => by have := l1.mp q; omega) (.irn (fun q => by have := l3.mp q; omega) ?_))
  by_cases c4 : ¬ (0 ≤ x4.toInt ∧ x4.toInt ≤ 4)
  · rw [if_neg c4]
    refine .ilp rfl ?_
    by_cases c : x4.toInt < 0
    · exact .irp (l4.mpr c) (.ret (jx_ex h rfl))
    · exact .irn (fun q => c (l4.mp q)) (.irn (fun q => by have := l5.mp q; omega) (.ret (jx_ex h rfl)))
  replace c4 := Classical.not_not.mp c4
  rw [if_pos c4]
  refine .iln (by decide) (.irn (fun q => by have := l4.mp q; omega) (.irp (l5.mpr c4.2) (.ckr h3 ?_)))
  obtain ⟨b, hb, rfl⟩ := i_b4 cb
  obtain ⟨c, hc, rfl⟩ := i_b4 c2
  have hz := ((h.th 0).kk (j := 21) (by decide) (nI c)).kk (j := 22) (by decide) x3
  have z21 : (ju (ju (ju ρ 38 0 0) 38 21 (nI c)) 38 22 x3) 38 21 = nI c := by simp [ju_ap]
  have z22 : (ju (ju (ju ρ 38 0 0) 38 21 (nI c)) 38 22 x3) 38 22 = x3 := by simp [ju_ap]
  have z0 : (ju (ju (ju ρ 38 0 0) 38 21 (nI c)) 38 22 x3) 38 0 = 0 := by simp [ju_ap]
  have hf0 : jFr σ ρ σ (ju (ju (ju ρ 38 0 0) 38 21 (nI c)) 38 22 x3) := (((jFr.r σ ρ).th (by decide)).th (by decide)).th (by decide)
  generalize ju (ju (ju ρ 38 0 0) 38 21 (nI c)) 38 22 x3 = ρ1 at hz z21 z22 z0 hf0 ⊢
  have hM := h.2.2.1.1
  by_cases c1 : md = 1
  · subst c1
    refine .irp rfl (.bd (tw_all hz hc z21 z22) ?_)
    rintro a m _ k ⟨rfl, hn⟩
    have g := hz.nu (w := true) rfl hn
    have ns : ¬ nI M = -1 := fun q => by
      have := congrArg Int32.toInt q
      rw [nI_toInt (by omega), show (-1 : Int32).toInt = -1 from by decide] at this
      omega
    refine .iln ns (.iln ns ?_)
    rw [ju_id g.2.2.1.2.1]
    unfold f_MO_drawMarks
    refine .fr (dm_loop (x5 := nI M) hc hb M 0 jfu jfu m k (by omega) (by show M < 20000; omega) (by show M < 20000; omega) g ((hn.2.2.2 21 (by decide) (by decide)).trans z21) ((hn.2.2.2 22 (by decide) (by decide)).trans z22)) ?_
    rintro a m2 _ k2 ⟨rfl, g1, g2, g3⟩
    refine ⟨_, _, rfl, ⟨⟨1, S, M, g1⟩, (hf0.nu hn).x g2.1 g2.2⟩, ?_, g1.2.2.1.2.2⟩
    rw [g3]; exact (hn.2.2.2 0 (by decide) (by decide)).trans z0
  · have := jmd h.1.1 c0 c1
    subst this
    refine .irn (by decide) (.bd (tr_all hz hc z21 z22) ?_)
    rintro a m b' k ⟨T, hT, ⟨rfl, rfl, n, hy⟩ | ⟨rfl, rfl, hy⟩⟩
    · rw [show jfu = 19999 + 1 from rfl, f_IC_text_L77]
      refine .ilp rfl (.ilp rfl (.ilp (by rw [ju_n (by decide), ju_ap, if_pos rfl, if_pos rfl]; decide) (.irp rfl (.ret ⟨⟨⟨0, S, 0, ?_⟩, ?_⟩, ?_, rfl⟩))))
      · refine ty_gl hz hy (Or.inl rfl) (by omega) (by decide) ?_ ?_ ?_ ?_ ?_ ?_ ?_
        · intro o _ h0 h4; rw [ju_n h0, ju_n h4]
        · simp [ju_ap]; rfl
        · simp [ju_ap]; rfl
        · intro j j5 j11; simp [ju_ap, j5, j11]
        · intro o h1 h2; rw [ju_n (by omega), ju_n (by omega)]
        · simp [ju_ap]; rfl
        · simp [ju_ap]; rfl
      · exact ((((hf0.tf hy.2.2.2.2).th (by decide)).th (by decide)).cl (by decide)).cl (by decide)
      · have := hy.k z0 (by decide)
        simp [ju_ap, this]
    · have ns : ¬ nI T = -1 := fun q => by
        have := congrArg Int32.toInt q
        rw [nI_toInt (by omega), show (-1 : Int32).toInt = -1 from by decide] at this
        omega
      refine .iln ns (.iln ns (.irn (by decide) ?_))
      have g : jGl 2 S T (ju m 4 3 (nI T)) k := by
        refine ty_gl hz hy (Or.inr rfl) (by omega) hT ?_ ?_ ?_ ?_ ?_ ?_ ?_
        · intro o _ h0 h4; rw [ju_n h4]
        · rw [ju_n (by decide), hy.2.2.2.2.1 0 (by decide) (by decide) (by decide) (by decide)]; exact hz.1.2.1
        · simp [ju_ap]
        · intro j _ _; rfl
        · intro o _ _; rfl
        · exact hy.k hz.1.2.2 (by decide)
        · exact hy.2.1
      unfold f_MO_drawMarks
      refine .fr (dm_loop (x5 := nI T) hc hb T 0 jfu jfu _ k (by omega) (by show T < 20000; omega) (by show T < 20000; omega) g (hy.k z21 (by decide)) (hy.k z22 (by decide))) ?_
      rintro a m2 _ k2 ⟨rfl, g1, g2, g3⟩
      refine ⟨_, _, rfl, ⟨⟨2, S, T, g1⟩, ((hf0.tf hy.2.2.2.2).cl (by decide)).x g2.1 g2.2⟩, ?_, g1.2.2.1.2.2⟩
      rw [g3]; exact hy.k z0 (by decide)
