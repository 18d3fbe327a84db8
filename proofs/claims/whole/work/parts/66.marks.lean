/-! bytes, symbols, marks: class beside reference -/
theorem jGl.by {S M n : Nat} {σ ρ σ' ρ' : jMem} (h : jGl 0 S M σ ρ) (hb : jCb σ' ρ' n) (hc : ∀ o, o < 38 → o ≠ 8 → o ≠ 9 → σ' o = σ o) (h38 : ∀ k, k = 4 ∨ k = 5 ∨ k = 11 → ρ' 38 k = ρ 38 k) (hr : ∀ o, 39 ≤ o → o ≤ 44 → ρ' o = ρ o) : jGl 0 S M σ' ρ' := by
  obtain ⟨h1, h2, h3, -, -, h6, h7, h8⟩ := h
  have hS := h2.1
  refine ⟨?_, ?_, ?_, ⟨n, hb⟩, ⟨fun q => absurd q (by decide), fun q => absurd q (by decide)⟩, ?_, ?_, ?_⟩
  · rw [hc 0 (by decide) (by decide) (by decide), h38 11 (by decide)]; exact h1
  · rw [hc 2 (by decide) (by decide) (by decide), h38 4 (by decide)]; exact h2
  · rw [hc 4 (by decide) (by decide) (by decide), h38 5 (by decide)]; exact h3
  · intro p hp
    obtain ⟨W, H, q⟩ := h6 p hp
    exact ⟨W, H, q.o (fun o h1 h2 => hc o h2 (by omega) (by omega)) (by omega) (hr 39 (by decide) (by decide)) (hr 40 (by decide) (by decide)) (hr 41 (by decide) (by decide))⟩
  · rw [hc 5 (by decide) (by decide) (by decide)]; exact h7
  · unfold jMk
    rw [hc 5 (by decide) (by decide) (by decide), hc 6 (by decide) (by decide) (by decide), hc 7 (by decide) (by decide) (by decide), hr 42 (by decide) (by decide), hr 43 (by decide) (by decide), hr 44 (by decide) (by decide)]
    exact h8
theorem jmd0 {md : Nat} (h : md ≤ 2) (q : nI md = 0) : md = 0 := (nI_eq (b := 0) (by omega) (by decide)).mp q
theorem jmdn {md : Nat} (h : md ≤ 2) (q : ¬ md = 0) : ¬ nI md = 0 := fun e => q (jmd0 h e)
theorem m_put {md S M : Nat} {σ ρ : jMem} (h : jGl md S M σ ρ) (x1 : Int32) : jPP (f_IC_put x1 σ) (f_MO_put x1 ρ) (fun a m b k => a = b ∧ jXX σ ρ m k) := by
  unfold f_IC_put f_MO_put
  rw [h.1.2.1, h.1.2.2]
  have fin : jXX σ ρ σ (ju ρ 38 0 0) := ⟨⟨md, S, M, h.th 0⟩, (jFr.r σ ρ).th (by decide)⟩
  by_cases c : md = 0
  · subst c
    refine .ipp rfl ?_
    obtain ⟨n, hn, b1, b2, b3⟩ := h.2.2.2.1
    rw [b2]
    rcases Nat.lt_or_ge n 600 with hl | hl
    · refine .bl (br_append1 _ b1 hl) (.iln (by decide) (.irn ?_ (.ckr (nI_in hl (by decide)) (.ret ⟨rfl, ⟨0, S, M, ?_⟩, ?_⟩))))
      · intro q
        have := (nI_eq (b := 600) (by omega) (by decide)).mp q
        omega
      · rw [nI_clamp (by omega), nI_1]
        refine h.by (n := n + 1) ⟨by omega, ?_, ?_, ?_⟩ ?_ ?_ ?_
        · simp [ju_ap]
        · simp [ju_ap]
        · intro i hi; simp [ju_ap, b3 i hi]
        · intro o _ h8 h9; rw [ju_n h8, ju_n h9]
        · rintro k (rfl | rfl | rfl) <;> simp [ju_ap]
        · intro o h1 h2; rw [ju_n (by omega), ju_n (by omega), ju_n (by omega)]
      · exact ((((jFr.r σ ρ).th (by decide)).th (by decide)).th (by decide)).cl (by decide) |>.cl (by decide)
    · have e : n = 600 := by omega
      subst e
      refine .bl (br_append0 _ b1) (.ilp rfl (.irp rfl (.ret ⟨rfl, fin⟩)))
  · exact .iln (jmdn h.1.1 c) (.irn (jmdn h.1.1 c) (.ret ⟨rfl, fin⟩))
theorem m_cut {md S M : Nat} {σ ρ : jMem} (h : jGl md S M σ ρ) (x1 : Int32) : jPP (f_IC_cut x1 σ) (some (f_MO_cut x1 ρ)) (fun a m b k => a = b ∧ jXX σ ρ m k) := by
  unfold f_IC_cut f_MO_cut
  rw [h.1.2.1, h.1.2.2]
  have fin : jXX σ ρ σ (ju ρ 38 0 0) := ⟨⟨md, S, M, h.th 0⟩, (jFr.r σ ρ).th (by decide)⟩
  by_cases c : md = 0
  · subst c
    obtain ⟨n, hn, b1, b2, b3⟩ := h.2.2.2.1
    rw [if_pos (show nI 0 = 0 from rfl), if_pos (show nI 0 = 0 from rfl), b1, b2]
    have hw : f_IC_within x1 (0 : Int32) (nI n) σ = if 0 ≤ x1.toInt ∧ x1.toInt ≤ n then 1 else 0 := by
      have := w_in (X := x1.toInt) (A := 0) (B := n) σ (iI_rg x1) (by decide) (by constructor <;> omega)
      rw [← iI_of x1, iI_nI] at this
      exact this
    have l0 : x1 < (0 : Int32) ↔ x1.toInt < 0 := i_lt x1 0 (by decide)
    have ln : x1 ≤ nI n ↔ x1.toInt ≤ n := by rw [← iI_nI]; exact i_le x1 n (by constructor <;> omega)
    rw [hw]
    by_cases c1 : 0 ≤ x1.toInt ∧ x1.toInt ≤ n
    · rw [if_pos c1, if_neg (by decide), if_neg (fun q => by have := l0.mp q; omega), if_pos (ln.mpr c1.2)]
      refine .ret ⟨rfl, ⟨0, S, M, ?_⟩, (((jFr.r σ ρ).th (by decide)).th (by decide)).cl (by decide)⟩
      have e1 := i_nat c1.1
      refine h.by (n := x1.toInt.toNat) ⟨by omega, ?_, ?_, ?_⟩ ?_ ?_ ?_
      · rw [ju_ap, if_pos rfl, if_pos rfl]; exact e1
      · rw [ju_ap, if_pos rfl, if_pos rfl]; exact e1
      · intro i hi; simp [ju_ap, b3 i hi]
      · intro o _ h8 h9; rw [ju_n h8]
      · rintro k (rfl | rfl | rfl) <;> simp [ju_ap]
      · intro o h1 h2; rw [ju_n (by omega), ju_n (by omega)]
    · rw [if_neg c1, if_pos rfl]
      by_cases c2 : x1.toInt < 0
      · rw [if_pos (l0.mpr c2)]; exact .ret ⟨rfl, fin⟩
      · rw [if_neg (fun q => c2 (l0.mp q)), if_neg (fun q => by have := ln.mp q; omega)]; exact .ret ⟨rfl, fin⟩
  · rw [if_neg (jmdn h.1.1 c), if_neg (jmdn h.1.1 c)]; exact .ret ⟨rfl, fin⟩
theorem m_length {md S M : Nat} {σ ρ : jMem} (h : jGl md S M σ ρ) : jPP (f_IC_length σ) (some (f_MO_length ρ)) (fun a m b k => a = b ∧ jXX σ ρ m k) := by
  obtain ⟨n, hn, b1, b2, b3⟩ := h.2.2.2.1
  exact .ret ⟨b1.trans b2.symm, ⟨md, S, M, h.th 0⟩, (jFr.r σ ρ).th (by decide)⟩
theorem m_state {md S M : Nat} {σ ρ : jMem} (h : jGl md S M σ ρ) : jPP (f_IC_state σ) (some (f_MO_state ρ)) (fun a m b k => a = b ∧ jXX σ ρ m k) :=
  .ret ⟨h.1.2.1.trans h.1.2.2.symm, ⟨md, S, M, h.th 0⟩, (jFr.r σ ρ).th (by decide)⟩
theorem m_code {md S M : Nat} {σ ρ : jMem} (h : jGl md S M σ ρ) (x1 : Int32) : jPP (f_IC_code x1 σ) (f_MO_code x1 ρ) (jpx c0 σ ρ) := by
  unfold f_IC_code f_MO_code
  obtain ⟨n, hb⟩ := h.2.2.2.1
  have hb0 := hb
  obtain ⟨hn, b1, b2, b3⟩ := hb
  have hw : f_IC_within x1 (0 : Int32) (nI n - 1) σ = if 0 ≤ x1.toInt ∧ x1.toInt ≤ (n : Int) - 1 then 1 else 0 := by
    have := w_in (X := x1.toInt) (A := 0) (B := (n : Int) - 1) σ (iI_rg x1) (by decide) (by constructor <;> omega)
    rw [← iI_of x1, ← iI_sub, iI_nI] at this
    exact this
  have l0 : x1 < (0 : Int32) ↔ x1.toInt < 0 := i_lt x1 0 (by decide)
  have ln : x1 < nI n ↔ x1.toInt < n := by rw [← iI_nI]; exact i_lt x1 n (by constructor <;> omega)
  rw [b1, b2, hw]
  by_cases c : 0 ≤ x1.toInt ∧ x1.toInt ≤ (n : Int) - 1
  · rw [if_pos c]
    refine .iln (by decide) (.irn (fun q => by have := l0.mp q; omega) (.irp (ln.mpr (by omega)) ?_))
    obtain ⟨i, hi, rfl⟩ : ∃ i : Nat, i < n ∧ x1 = nI i := ⟨x1.toInt.toNat, by omega, i_nat c.1⟩
    rw [nI_clamp (by omega)]
    have := br_at hb0 (show i ≤ 1000 by omega)
    unfold jby at this
    rw [if_neg (by omega)] at this
    refine .bl this (.ckr (by have := nI_in (c := i) (N := 600) (by omega) (by decide); rwa [nI_clamp (by omega)] at this) (.ret ⟨⟨⟨md, S, M, h.th 0⟩, (jFr.r σ ρ).th (by decide)⟩, ju38, rfl⟩))
  · rw [if_neg c]
    refine .ilp rfl ?_
    by_cases c2 : x1.toInt < 0
    · exact .irp (l0.mpr c2) (.ret (jx_ex h rfl))
    · exact .irn (fun q => c2 (l0.mp q)) (.irn (fun q => by have := ln.mp q; omega) (.ret (jx_ex h rfl)))
theorem m_forget {md S M : Nat} {σ ρ : jMem} (h : jGl md S M σ ρ) : jPP (f_IC_forget σ) (some ((), f_MO_forget ρ)) (fun _ m _ k => jXX σ ρ m k) := by
  obtain ⟨h1, h2, h3, ⟨n, h4⟩, ⟨h5, h5'⟩, h6, h7, h8⟩ := h
  have hd : ∀ w, jD w σ ρ σ ρ → jD w (ju (ju σ 2 1 0) 4 3 0) (ju (ju (ju ρ 38 0 0) 38 4 0) 38 5 0) (ju (ju σ 2 1 0) 4 3 0) (ju (ju (ju ρ 38 0 0) 38 4 0) 38 5 0) := by
    intro w hw
    refine hw.g ?_ ?_ ?_ ?_ ?_ ?_ ?_ ?_
    iterate 5 (rw [ju_n (by decide), ju_n (by decide)])
    · intro k hk; rw [ju_ap, if_pos rfl, if_neg (show ¬ k = 5 by omega), ju_ap, if_pos rfl, if_neg (show ¬ k = 4 by omega), ju_ap, if_pos rfl, if_neg (show ¬ k = 0 by omega)]
    iterate 2 (rw [ju_n (by decide), ju_n (by decide), ju_n (by decide)])
  refine .ret ⟨⟨md, 0, 0, ?_, ?_, ?_, ⟨n, h4.c ?_ ?_ ?_ ?_⟩, ⟨fun q => hd _ (h5 q), fun q => hd _ (h5' q)⟩, ?_, ?_, fun k hk => absurd hk (by omega)⟩, ?_⟩
  · exact ⟨h1.1, by simp [ju_ap, h1.2.1], by simp [f_MO_forget, ju_ap, h1.2.2]⟩
  · exact ⟨by decide, by simp [ju_ap]; rfl, by simp [f_MO_forget, ju_ap]; rfl⟩
  · exact ⟨by decide, by simp [ju_ap]; rfl, by simp [f_MO_forget, ju_ap]; rfl⟩
  · rw [ju_n (by decide), ju_n (by decide)]
  · rw [ju_n (by decide), ju_n (by decide)]
  · simp [f_MO_forget, ju_ap]
  · unfold f_MO_forget; rw [ju_n (by decide), ju_n (by decide), ju_n (by decide)]
  · intro p hp
    obtain ⟨W, H, q⟩ := h6 p (by omega)
    refine ⟨W, H, q.o (fun o h1 _ => by rw [ju_n (by omega), ju_n (by omega)]) (by omega) ?_ ?_ ?_⟩
    all_goals unfold f_MO_forget; rw [ju_n (by decide), ju_n (by decide), ju_n (by decide)]
  · rw [ju_n (by decide), ju_n (by decide)]; exact h7
  · exact ((((jFr.r σ ρ).th (by decide)).th (by decide)).th (by decide)).cl (by decide) |>.cl (by decide)
theorem ic_sym {S : Nat} (hS : S ≤ 8) {σ : jMem} (h : σ 2 1 = nI S) (x : Int32) : f_IC_isSymbol x σ = if 0 ≤ x.toInt ∧ x.toInt < S then 1 else 0 := by
  unfold f_IC_isSymbol
  rw [h]
  have := w_in (X := x.toInt) (A := 0) (B := (S : Int) - 1) σ (iI_rg x) (by decide) (by constructor <;> omega)
  rw [← iI_of x, ← iI_sub, iI_nI] at this
  have this : f_IC_within x 0 (nI S - 1) σ = _ := this
  rw [this]
  by_cases c : 0 ≤ x.toInt ∧ x.toInt < S
  · rw [if_pos c, if_pos (by omega)]
  · rw [if_neg c, if_neg (by omega)]
theorem mo_sym {S : Nat} (hS : S ≤ 8) {ρ : jMem} (h : ρ 38 4 = nI S) (x : Int32) : f_MO_isSymbol x ρ = if 0 ≤ x.toInt ∧ x.toInt < S then 1 else 0 := by
  unfold f_MO_isSymbol
  rw [h]
  have h0 : x < 0 ↔ x.toInt < 0 := i_lt x 0 (by decide)
  have h4 : nI S ≤ x ↔ (S : Int) ≤ x.toInt := by rw [← iI_nI]; exact i_ge x S (by constructor <;> omega)
  by_cases c1 : x.toInt < 0
  · rw [if_pos (h0.mpr c1), if_neg (by omega)]
  · rw [if_neg (fun q => c1 (h0.mp q))]
    by_cases c2 : (S : Int) ≤ x.toInt
    · rw [if_pos (h4.mpr c2), if_neg (by omega)]
    · rw [if_neg (fun q => c2 (h4.mp q)), if_pos (by omega)]
theorem ic_refS {S : Nat} (hS : S ≤ 8) {σ : jMem} (h : σ 2 1 = nI S) (x : Int32) : f_IC_refuseMissingSymbol x σ = if 0 ≤ x.toInt ∧ x.toInt < S then some (.inr (), σ) else some (.inl 0, σ) := by
  unfold f_IC_refuseMissingSymbol
  rw [ic_sym hS h]
  by_cases c : 0 ≤ x.toInt ∧ x.toInt < S
  · rw [if_pos c, if_pos c, if_neg (by decide)]
  · rw [if_neg c, if_neg c, if_pos rfl]
theorem m_learn {md S M : Nat} {σ ρ : jMem} (h : jGl md S M σ ρ) (x1 : Int32) : jPP (f_IC_learn x1 σ) (f_MO_learn x1 ρ) (jpx c03 σ ρ) := by
  unfold f_IC_learn f_MO_learn
  rw [ic_refB, mo_board]
  by_cases cb : ¬ (0 ≤ x1.toInt ∧ x1.toInt ≤ 3)
  · rw [if_neg cb, if_neg cb, jbt_ex]
    exact .irp rfl (.ret (jx_ex h rfl))
  replace cb := Classical.not_not.mp cb
  rw [if_pos cb, if_pos cb, jbt_in]
  refine .irn (by decide) ?_
  have hS := h.2.1.1
  rw [h.2.1.2.1, h.2.1.2.2]
  by_cases c8 : S = 8
  · subst c8
    exact .ilp rfl (.irp rfl (.ret (jx_ex h rfl)))
  have n8 : ¬ nI S = 8 := fun q => c8 ((nI_eq (b := 8) (by omega) (by decide)).mp q)
  refine .iln n8 (.irn n8 ?_)
  obtain ⟨b, hb, rfl⟩ := i_b4 cb
  obtain ⟨W, H, hP⟩ := (h.th 0).bd hb
  obtain ⟨σ', ρ1, ρ2, q1, q2, q3, q4, q5, q6⟩ := copy_learn (p := 4 + S) (by omega) (by omega) (by omega) hP
  have hw1 : ρ 40 b = nI W := by have := hP.1.2.2.2.2.1; rwa [ju_n (by decide)] at this
  have hw2 : ρ 41 b = nI H := by have := hP.1.2.2.2.2.2.1; rwa [ju_n (by decide)] at this
  have hc12 : ¬ (nI b < 0 ∨ 12 ≤ (nI b).toNatClampNeg) := nI_in (by omega) (by decide)
  refine .ckl (nI_in (by omega) (by decide)) (.ckl (in4 hb) (.ckr hc12 (.ckr hc12 ?_)))
  rw [nI_clamp (show b < 2 ^ 31 by omega), nI_clamp (show S < 2 ^ 31 by omega), hw1, hw2, show (4 : Int32) + nI S = nI (4 + S) from by rw [show (4 : Int32) = nI 4 from rfl, nI_add]]
  refine .bl q1 (.br q2 (.br q3 ?_))
  have e1 : σ' 2 1 = nI S := by rw [q4 2 (by omega) (by omega)]; exact h.2.1.2.1
  have e2 : ρ2 38 4 = nI S := by rw [q5.1 38 (by decide) (by decide) (by decide), ju_ap, if_pos rfl, if_neg (by decide)]; exact h.2.1.2.2
  rw [e1, e2, nI_1, nI_pred]
  have hz : jGl md S M σ' ρ2 := by
    refine (h.th 0).pic (fun o ho => q4 o (by omega) (by omega)) (fun j _ _ => by rw [q5.1 38 (by decide) (by decide) (by decide)]) (fun o ho ho2 => q5.1 o (by omega) (by omega) (by omega)) (fun p hp => ?_)
    obtain ⟨W', H', q⟩ := (h.th 0).2.2.2.2.2.1 p hp
    exact ⟨W', H', q.z (by omega) q4 q5⟩
  refine .ret ⟨⟨⟨md, S + 1, M, ?_⟩, ((((jFr.r σ ρ).th (o := 38) (k := 0) (v := 0) (by decide)).z (by omega) q4 q5).th (by decide)).cl (by decide)⟩, ?_, rfl⟩
  · obtain ⟨g1, g2, g3, ⟨n, g4⟩, ⟨g5, g5'⟩, g6, g7, g8⟩ := hz
    have hd : ∀ w, jD w σ' ρ2 σ' ρ2 → jD w (ju σ' 2 1 (nI (S + 1))) (ju ρ2 38 4 (nI (S + 1))) (ju σ' 2 1 (nI (S + 1))) (ju ρ2 38 4 (nI (S + 1))) := by
      intro w hw
      refine hw.g ?_ ?_ ?_ ?_ ?_ ?_ ?_ ?_
      iterate 5 (rw [ju_n (by decide)])
      · intro k hk; rw [ju_ap, if_pos rfl, if_neg (by omega)]
      iterate 2 (rw [ju_n (by decide)])
    refine ⟨?_, ?_, ?_, ⟨n, g4.c ?_ ?_ ?_ ?_⟩, ⟨fun q => hd _ (g5 q), fun q => hd _ (g5' q)⟩, ?_, ?_, ?_⟩
    · exact ⟨g1.1, by simp [ju_ap, g1.2.1], by simp [ju_ap, g1.2.2]⟩
    · exact ⟨by omega, by simp [ju_ap], by simp [ju_ap]⟩
    · exact ⟨g3.1, by simp [ju_ap, g3.2.1], by simp [ju_ap, g3.2.2]⟩
    · rw [ju_n (by decide)]
    · rw [ju_n (by decide)]
    · simp [ju_ap]
    · rw [ju_n (by decide)]
    · intro p hp
      by_cases e : p = 4 + S
      · subst e
        exact ⟨W, H, q6.o (fun o h1 _ => ju_n (by omega)) (by omega) (ju_n (by decide)) (ju_n (by decide)) (ju_n (by decide))⟩
      · obtain ⟨W', H', q⟩ := g6 p (by omega)
        exact ⟨W', H', q.o (fun o h1 _ => ju_n (by omega)) (by omega) (ju_n (by decide)) (ju_n (by decide)) (ju_n (by decide))⟩
    · rw [ju_n (by decide)]; exact g7
    · intro k hk
      obtain ⟨v, s, t, z1, z2⟩ := g8 k hk
      refine ⟨v, s, t, by omega, ?_⟩
      rw [ju_n (by decide), ju_n (by decide), ju_n (by decide), ju_n (by decide), ju_n (by decide), ju_n (by decide)]
      exact z2
  · rw [ju_ap, if_pos rfl, if_neg (by decide)]
    exact q5.th
theorem jMk.c {S : Nat} {σ ρ σ' ρ' : jMem} {k : Nat} (h : jMk S σ ρ k) (h5 : σ' 5 k = σ 5 k) (h6 : σ' 6 k = σ 6 k) (h7 : σ' 7 k = σ 7 k) (r2 : ρ' 42 k = ρ 42 k) (r3 : ρ' 43 k = ρ 43 k) (r4 : ρ' 44 k = ρ 44 k) : jMk S σ' ρ' k := by
  unfold jMk
  rw [h5, h6, h7, r2, r3, r4]
  exact h
theorem m_mark {md S M : Nat} {σ ρ : jMem} (h : jGl md S M σ ρ) (x1 x2 x3 : Int32) : jPP (f_IC_mark x1 x2 x3 σ) (f_MO_mark x1 x2 x3 ρ) (jpx c013 σ ρ) := by
  have hS := h.2.1.1
  have hM := h.2.2.1.1
  have m1 := h.2.2.1.2.1
  have m2 := h.2.2.1.2.2
  unfold f_IC_mark f_MO_mark
  rw [ic_refS hS h.2.1.2.1, mo_sym hS h.2.1.2.2]
  by_cases cs : ¬ (0 ≤ x1.toInt ∧ x1.toInt < S)
  · rw [if_neg cs, if_neg cs, jbt_ex]
    exact .irp rfl (.ret (jx_ex h rfl))
  replace cs := Classical.not_not.mp cs
  rw [if_pos cs, if_pos cs, jbt_in, ic_place, ic_place, mo_far, mo_far]
  refine .irn (by decide) ?_
  by_cases c2 : ¬ (-100 ≤ x2.toInt ∧ x2.toInt ≤ 100)
  · rw [if_neg c2, if_neg c2]
    exact .ilp rfl (.irn (by decide) (.ret (jx_ex h rfl)))
  replace c2 := Classical.not_not.mp c2
  rw [if_pos c2, if_pos c2]
  refine .iln (by decide) (.irp rfl ?_)
  by_cases c3 : ¬ (-100 ≤ x3.toInt ∧ x3.toInt ≤ 100)
  · rw [if_neg c3, if_neg c3]
    exact .ilp rfl (.irn (by decide) (.ret (jx_ex h rfl)))
  replace c3 := Classical.not_not.mp c3
  rw [if_pos c3, if_pos c3]
  refine .iln (by decide) (.irp rfl ?_)
  obtain ⟨v, hv, rfl⟩ : ∃ v, v < S ∧ x1 = nI v := ⟨x1.toInt.toNat, by omega, i_nat cs.1⟩
  have keep : M < 12 → jPP (jbd (f_MR_set (σ 4 3) (nI v) x2 x3 σ) (fun _ n72 => some (.inr ((n72 4 3) + (1 : Int32)), (ju n72 4 3 ((n72 4 3) + (1 : Int32)))))) (jbd (f_MO_keepMark (nI v) x2 x3 (ju ρ 38 0 (0 : Int32))) (fun _ n83 => some (n83 38 5, n83))) (jpx c013 σ ρ) := by
    intro hl
    have hc : ¬ (nI M < 0 ∨ 12 ≤ (nI M).toNatClampNeg) := nI_in hl (by decide)
    have k1 : f_MR_set (σ 4 3) (nI v) x2 x3 σ = some ((), ju (ju (ju σ 5 M (nI v)) 6 M x2) 7 M x3) := by
      unfold f_MR_set
      rw [m1, jck_pos hc, jck_pos hc, jck_pos hc, nI_clamp (by omega)]
    have k2 : f_MO_keepMark (nI v) x2 x3 (ju ρ 38 0 (0 : Int32)) = some ((), ju (ju (ju (ju (ju ρ 38 0 0) 42 M (nI v)) 43 M x2) 44 M x3) 38 5 (nI (M + 1))) := by
      unfold f_MO_keepMark
      rw [show (ju ρ 38 0 0) 38 5 = nI M from by rw [ju_ap, if_pos rfl, if_neg (by decide), m2], jck_pos hc, jck_pos hc, jck_pos hc, nI_clamp (by omega), nI_1]
    refine .bl k1 (.br k2 ?_)
    rw [show (ju (ju (ju σ 5 M (nI v)) 6 M x2) 7 M x3) 4 3 = nI M from by rw [ju_n (by decide), ju_n (by decide), ju_n (by decide), m1], nI_1]
    refine .ret ⟨⟨⟨md, S, M + 1, ?_⟩, (((((((((jFr.r σ ρ).th (by decide)).th (by decide)).th (by decide)).th (by decide)).th (by decide)).cl (by decide)).cl (by decide)).cl (by decide)).cl (by decide)⟩, ?_, ?_⟩
    · obtain ⟨g1, g2, g3, ⟨n, g4⟩, ⟨g5, g5'⟩, g6, g7, g8⟩ := h
      have hd : ∀ w, jD w σ ρ σ ρ → jD w (ju (ju (ju (ju σ 5 M (nI v)) 6 M x2) 7 M x3) 4 3 (nI (M + 1))) (ju (ju (ju (ju (ju ρ 38 0 0) 42 M (nI v)) 43 M x2) 44 M x3) 38 5 (nI (M + 1))) (ju (ju (ju (ju σ 5 M (nI v)) 6 M x2) 7 M x3) 4 3 (nI (M + 1))) (ju (ju (ju (ju (ju ρ 38 0 0) 42 M (nI v)) 43 M x2) 44 M x3) 38 5 (nI (M + 1))) := by
        intro w hw
        refine hw.g ?_ ?_ ?_ ?_ ?_ ?_ ?_ ?_
        iterate 5 (rw [ju_n (by decide), ju_n (by decide), ju_n (by decide), ju_n (by decide)])
        · intro k hk; rw [ju_ap, if_pos rfl, if_neg (show ¬ k = 5 by omega), ju_n (by decide), ju_n (by decide), ju_n (by decide), ju_ap, if_pos rfl, if_neg (show ¬ k = 0 by omega)]
        iterate 2 (rw [ju_n (by decide), ju_n (by decide), ju_n (by decide), ju_n (by decide), ju_n (by decide)])
      refine ⟨?_, ?_, ?_, ⟨n, g4.c ?_ ?_ ?_ ?_⟩, ⟨fun q => hd _ (g5 q), fun q => hd _ (g5' q)⟩, ?_, ?_, ?_⟩
      · exact ⟨g1.1, by simp [ju_ap, g1.2.1], by simp [ju_ap, g1.2.2]⟩
      · exact ⟨g2.1, by simp [ju_ap, g2.2.1], by simp [ju_ap, g2.2.2]⟩
      · exact ⟨by omega, by simp [ju_ap], by simp [ju_ap]⟩
      · rw [ju_n (by decide), ju_n (by decide), ju_n (by decide), ju_n (by decide)]
      · rw [ju_n (by decide), ju_n (by decide), ju_n (by decide), ju_n (by decide)]
      · simp [ju_ap]
      · rw [ju_n (by decide), ju_n (by decide), ju_n (by decide), ju_n (by decide), ju_n (by decide)]
      · intro p hp
        obtain ⟨W', H', q⟩ := g6 p (by omega)
        refine ⟨W', H', q.o (fun o h1 _ => by rw [ju_n (by omega), ju_n (by omega), ju_n (by omega), ju_n (by omega)]) (by omega) ?_ ?_ ?_⟩
        all_goals rw [ju_n (by decide), ju_n (by decide), ju_n (by decide), ju_n (by decide), ju_n (by decide)]
      · intro k hk
        rw [ju_n (by decide), ju_n (by decide), ju_n (by decide), ju_ap, if_pos rfl]
        by_cases e : k = M
        · rw [if_pos e]; exact ⟨v, by omega, rfl⟩
        · rw [if_neg e]; exact g7 k hk
      · intro k hk
        by_cases e : k = M
        · subst e
          refine ⟨v, x2.toInt, x3.toInt, hv, by omega, c3, ?_⟩
          rw [← iI_of x2, ← iI_of x3]
          simp [ju_ap]
        · refine (g8 k (by omega)).c ?_ ?_ ?_ ?_ ?_ ?_
          all_goals simp [ju_ap, e]
    · simp [ju_ap]
    · simp [ju_ap]
  unfold f_MR_endsBehind
  rw [m1, m2]
  by_cases c0 : M = 0
  · subst c0
    rw [if_pos (by decide), if_pos (by decide)]
    refine .bl rfl (.ilp rfl ?_)
    rw [m1]
    refine .iln (by decide) (.irn (by decide) ?_)
    have := keep (by decide)
    rw [m1] at this
    exact this
  obtain ⟨j, rfl⟩ : ∃ j, M = j + 1 := ⟨M - 1, by omega⟩
  have hc : ¬ (nI j < 0 ∨ 12 ≤ (nI j).toNatClampNeg) := nI_in (by omega) (by decide)
  rw [if_neg (nI_nle (by omega) (by omega)), if_neg (nI_nle (by omega) (by omega)), nI_pred, jck_pos hc, jck_pos hc, nI_clamp (by omega)]
  obtain ⟨v', s', t', z1, z2, z3, z4, z5, z6, z7, z8, z9⟩ := h.2.2.2.2.2.2.2 j (by omega)
  rw [z8, z9]
  by_cases ct : iI t' ≤ x3
  · rw [if_pos ct, if_pos ct]
    refine .bl rfl (.ilp rfl ?_)
    rw [m1]
    by_cases c12 : j + 1 = 12
    · rw [c12]
      exact .ilp rfl (.irp rfl (.ret (jx_ex h rfl)))
    · have n12 : ¬ nI (j + 1) = 12 := fun q => c12 ((nI_eq (b := 12) (by omega) (by decide)).mp q)
      refine .iln n12 (.irn n12 ?_)
      have := keep (by omega)
      rw [m1] at this
      exact this
  · rw [if_neg ct, if_neg ct]
    exact .bl rfl (.iln (by decide) (.ret (jx_ex h rfl)))
theorem m_symbol {md S M : Nat} {σ ρ : jMem} (h : jGl md S M σ ρ) (x1 x2 x3 : Int32) : jPP (f_IC_symbol x1 x2 x3 σ) (f_MO_symbol x1 x2 x3 ρ) (jpx c0 σ ρ) := by
  have hS := h.2.1.1
  unfold f_IC_symbol f_MO_symbol
  rw [ic_refS hS h.2.1.2.1, mo_sym hS h.2.1.2.2]
  by_cases cs : ¬ (0 ≤ x1.toInt ∧ x1.toInt < S)
  · rw [if_neg cs, if_neg cs, jbt_ex]
    by_cases e1 : x2 = -1
    · exact .irp e1 (.irp rfl (.ret (jx_ex h rfl)))
    · by_cases e2 : x2 = -2
      · exact .irn e1 (.irp e2 (.irp rfl (.ret (jx_ex h rfl))))
      · exact .irn e1 (.irn e2 (.irp rfl (.ret (jx_ex h rfl))))
  replace cs := Classical.not_not.mp cs
  rw [if_pos cs, if_pos cs, jbt_in]
  obtain ⟨v, hv, rfl⟩ : ∃ v, v < S ∧ x1 = nI v := ⟨x1.toInt.toNat, by omega, i_nat cs.1⟩
  have hz := h.th 0
  obtain ⟨W, H, hP⟩ := hz.2.2.2.2.2.1 (4 + v) (by omega)
  obtain ⟨W1, H1, hP1⟩ := h.2.2.2.2.2.1 (4 + v) (by omega)
  have fin : jXX σ ρ σ (ju ρ 38 0 0) := ⟨⟨md, S, M, hz⟩, (jFr.r σ ρ).th (by decide)⟩
  have e4 : (4 : Int32) + nI v = nI (4 + v) := by rw [show (4 : Int32) = nI 4 from rfl, nI_add]
  have hc12 : ¬ (nI (4 + v) < 0 ∨ 12 ≤ (nI (4 + v)).toNatClampNeg) := nI_in (by omega) (by decide)
  refine .ckl (nI_in (by omega) (by decide)) ?_
  rw [e4, nI_clamp (show v < 2 ^ 31 by omega), nI_clamp (show 4 + v < 2 ^ 31 by omega)]
  rw [nI_clamp (by omega)] at hc12
  by_cases e1 : x2 = -1
  · refine .ilp e1 (.irp e1 (.irn (by decide) (.irp e1 (.ckr hc12 (.ret ⟨fin, ju38, ?_⟩)))))
    rw [hP1.2.1, hP1.1.2.2.2.2.1]
  refine .iln e1 (.irn e1 ?_)
  by_cases e2 : x2 = -2
  · refine .ilp e2 (.irp e2 (.irn (by decide) (.irn e1 (.irp e2 (.ckr hc12 (.ret ⟨fin, ju38, ?_⟩))))))
    rw [hP1.2.2.1, hP1.1.2.2.2.2.2.1]
  refine .iln e2 (.irn e2 (.irn (by decide) ?_))
  obtain ⟨X, hX, rfl⟩ := i_of2 x2
  obtain ⟨Y, hY, rfl⟩ := i_of2 x3
  refine .bl (pi_has hP1 hX hY) (.br (mo_inside (by omega) hP1.1 hX hY) ?_)
  by_cases c : ¬ (jin W1 H1 X Y)
  · rw [if_neg c]
    exact .ilp rfl (.irp rfl (.ret (jx_ex h rfl)))
  replace c := Classical.not_not.mp c
  rw [if_pos c]
  exact .iln (by decide) (.irn (by decide) (.irn e1 (.irn e2 (.bl (pi_at hP hX hY) (.br (mo_at (by omega) hP.1 hX hY) (.ret ⟨fin, ju38, rfl⟩))))))
theorem m_marked {md S M : Nat} {σ ρ : jMem} (h : jGl md S M σ ρ) (x1 x2 : Int32) : jPP (f_IC_marked x1 x2 σ) (f_MO_marked x1 x2 ρ) (jpx c0 σ ρ) := by
  have hM := h.2.2.1.1
  have m1 := h.2.2.1.2.1
  have m2 := h.2.2.1.2.2
  unfold f_IC_marked f_MO_marked
  have hw : f_IC_within x1 (0 : Int32) (nI M - 1) σ = if 0 ≤ x1.toInt ∧ x1.toInt ≤ (M : Int) - 1 then 1 else 0 := by
    have := w_in (X := x1.toInt) (A := 0) (B := (M : Int) - 1) σ (iI_rg x1) (by decide) (by constructor <;> omega)
    rw [← iI_of x1, ← iI_sub, iI_nI] at this
    exact this
  have l0 : x1 < (0 : Int32) ↔ x1.toInt < 0 := i_lt x1 0 (by decide)
  have lM : nI M ≤ x1 ↔ (M : Int) ≤ x1.toInt := by rw [← iI_nI]; exact i_ge x1 M (by constructor <;> omega)
  rw [m1, m2, hw]
  by_cases c : ¬ (0 ≤ x1.toInt ∧ x1.toInt ≤ (M : Int) - 1)
  · rw [if_neg c]
    refine .ilp rfl ?_
    by_cases c2 : x1.toInt < 0
    · exact .irp (l0.mpr c2) (.ret (jx_ex h rfl))
    · exact .irn (fun q => c2 (l0.mp q)) (.irp (lM.mpr (by omega)) (.ret (jx_ex h rfl)))
  replace c := Classical.not_not.mp c
  rw [if_pos c]
  refine .iln (by decide) (.irn (fun q => by have := l0.mp q; omega) (.irn (fun q => by have := lM.mp q; omega) ?_))
  obtain ⟨k, hk, rfl⟩ : ∃ k, k < M ∧ x1 = nI k := ⟨x1.toInt.toNat, by omega, i_nat c.1⟩
  have hc : ¬ (nI k < 0 ∨ 12 ≤ (nI k).toNatClampNeg) := nI_in (by omega) (by decide)
  rw [nI_clamp (by omega)] at hc ⊢
  obtain ⟨v', s', t', z1, z2, z3, z4, z5, z6, z7, z8, z9⟩ := h.2.2.2.2.2.2.2 k hk
  have fin : jXX σ ρ σ (ju ρ 38 0 0) := ⟨⟨md, S, M, h.th 0⟩, (jFr.r σ ρ).th (by decide)⟩
  have p0 : x2 < (0 : Int32) ↔ x2.toInt < 0 := i_lt x2 0 (by decide)
  have p2 : x2 ≤ (2 : Int32) ↔ x2.toInt ≤ 2 := i_le x2 2 (by decide)
  have e0 : x2 = (0 : Int32) ↔ x2.toInt = 0 := i_eq x2 0 (by decide)
  have e1 : x2 = (1 : Int32) ↔ x2.toInt = 1 := i_eq x2 1 (by decide)
  have e2 : x2 = (2 : Int32) ↔ x2.toInt = 2 := i_eq x2 2 (by decide)
  by_cases cp : ¬ (0 ≤ x2.toInt ∧ x2.toInt ≤ 2)
  · refine .iln (fun q => by have := e0.mp q; omega) (.iln (fun q => by have := e1.mp q; omega) (.iln (fun q => by have := e2.mp q; omega) ?_))
    by_cases c2 : x2.toInt < 0
    · exact .irp (p0.mpr c2) (.ret (jx_ex h rfl))
    · exact .irn (fun q => c2 (p0.mp q)) (.irn (fun q => by have := p2.mp q; omega) (.ret (jx_ex h rfl)))
  replace cp := Classical.not_not.mp cp
  refine .irn (fun q => by have := p0.mp q; omega) (.irp (p2.mpr cp.2) ?_)
  by_cases q0 : x2 = 0
  · exact .ilp q0 (.irp q0 (.ckl hc (.ckr hc (.ret ⟨fin, ju38, z5.trans z4.symm⟩))))
  refine .iln q0 (.irn q0 ?_)
  by_cases q1 : x2 = 1
  · exact .ilp q1 (.irp q1 (.ckl hc (.ckr hc (.ret ⟨fin, ju38, z7.trans z6.symm⟩))))
  have w0 : x2.toInt ≠ 0 := fun q => q0 (e0.mpr q)
  have w1 : x2.toInt ≠ 1 := fun q => q1 (e1.mpr q)
  exact .iln q1 (.irn q1 (.ilp (e2.mpr (by omega)) (.ckl hc (.ckr hc (.ret ⟨fin, ju38, z9.trans z8.symm⟩)))))
