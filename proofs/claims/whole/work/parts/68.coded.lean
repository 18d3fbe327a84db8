/-! end, regions, refinements, numbers: class beside reference -/
theorem ic_idle {md : Nat} {σ : jMem} (hm : md ≤ 2) (h : σ 0 7 = nI md) : f_IC_refuseIdle σ = if md = 0 then some (.inl 2, σ) else some (.inr (), σ) := by
  unfold f_IC_refuseIdle
  rw [h]
  by_cases c : md = 0
  · subst c; rfl
  · rw [if_neg (jmdn hm c), if_neg c]
theorem jW.c3 {σ0 ρ0 σ ρ : jMem} (h : jW σ0 ρ0 σ ρ) {C : Int32} : jW σ0 ρ0 (ju σ 12 3 C) (ju ρ 38 13 C) := by
  obtain ⟨hK, hR, hx, ⟨n, hb, ht⟩, h2, h3, h4, h5⟩ := h
  refine ⟨hK.u (by decide), hR.u (by decide), hx.c (by funext i; simp [ju_ap]) (by funext i; simp [ju_ap]), ⟨n, hb.c (by funext i; simp [ju_ap]) (by funext i; simp [ju_ap]) (by simp [ju_ap]) (by funext i; simp [ju_ap]), ?_⟩, ?_, ?_, ?_, ?_⟩
  · unfold jCt at ht ⊢; simpa [ju_ap] using ht
  all_goals simp [ju_ap, h2, h4, h5]
def jEn (σ0 ρ0 σ ρ : jMem) : Prop := (∃ n, jCb σ ρ n) ∧ jK σ0 σ ∧ jKr ρ0 ρ
theorem ap_out {σ0 ρ0 σ ρ : jMem} (v : Int32) (h : jEn σ0 ρ0 σ ρ) : jPP (f_BR_append v σ) (f_MO_out v ρ) (fun _ m _ k => jEn σ0 ρ0 m k) := by
  obtain ⟨⟨n, hn, b1, b2, b3⟩, hK, hR⟩ := h
  rcases Nat.lt_or_ge n 600 with hl | hl
  · rw [br_append1 v b1 hl, mo_out1 v b2 hl]
    refine .ret ⟨⟨n + 1, by omega, ?_, ?_, ?_⟩, (hK.u (by decide)).u (by decide), ((((hR.u (by decide)).u (by decide)).v (by decide)).u (by decide)).u (by decide)⟩
    · simp [ju_ap]
    · simp [ju_ap]
    · intro i hi; simp [ju_ap, b3 i hi]
  · have e : n = 600 := by omega
    subst e
    rw [br_append0 v b1, mo_out0 v b2]
    refine .ret ⟨⟨600, by omega, ?_, ?_, ?_⟩, hK, (hR.u (by decide)).u (by decide)⟩
    · exact b1
    · simp [ju_ap, b2]
    · intro i hi; simp [ju_ap, b3 i hi]
theorem en_tail {σ0 ρ0 m k : jMem} (h : jW σ0 ρ0 m k) : jPP (jbd (f_WR_sendByte (ju m 12 3 ((m 12 3) <<< ((m 12 4) &&& 31)))) (fun _ n71 => if (n71 12 5) = (255 : Int32) then (jbd (f_BR_append (172 : Int32) n71) (fun v102 n102 => some ((), n102))) else (jbd (f_BR_append (255 : Int32) n71) (fun v91 n91 => jbd (f_BR_append (172 : Int32) n91) (fun v102 n102 => some ((), n102)))))) (jbd (f_MO_goOut (ju k 38 13 ((k 38 13) <<< ((k 38 14) &&& 31)))) (fun _ n78 => if (n78 38 15) = (255 : Int32) then (jbd (f_MO_out (172 : Int32) n78) (fun _ n102 => some ((), n102))) else (jbd (f_MO_out (255 : Int32) n78) (fun _ n95 => jbd (f_MO_out (172 : Int32) n95) (fun _ n102 => some ((), n102)))))) (fun _ m _ k => jEn σ0 ρ0 m k) := by
  rw [h.2.2.2.2.2.1, h.2.2.2.2.2.2.1]
  refine .bd (wr_send h.c3) ?_
  rintro _ m _ k ⟨hw, -⟩
  obtain ⟨hK, hR, hx, ⟨n, hb, ht⟩, h2, h3, h4, h5⟩ := hw
  rw [h5]
  have e : jEn σ0 ρ0 m k := ⟨⟨n, hb⟩, hK, hR⟩
  by_cases c : k 38 15 = 255
  · exact .ipp c (.bd (ap_out _ e) (fun _ m _ k e => .ret e))
  · exact .inn c (.bd (ap_out _ e) (fun _ m _ k e => .bd (ap_out _ e) (fun _ m _ k e => .ret e)))
theorem wr_fin {σ0 ρ0 σ ρ : jMem} (h : jW σ0 ρ0 σ ρ) : jPP (f_WR_finish σ) (f_MO_flush ρ) (fun _ m _ k => jEn σ0 ρ0 m k) := by
  unfold f_WR_finish f_MO_flush
  obtain ⟨h2, h3, h4, h5⟩ := h.2.2.2.2
  rw [h2, h3, h4]
  simp only [ju_ju]
  by_cases c : (ρ 38 13 ||| 65535) < ρ 38 13 + ρ 38 12
  · exact .ipp c (.bd (wr_send h.c3) (fun _ m _ k e => en_tail e.1))
  · exact .inn c (.bd (wr_send h.c3) (fun _ m _ k e => en_tail e.1))
theorem m_end {md S M : Nat} {σ ρ : jMem} (h : jGl md S M σ ρ) : jPP (f_IC_end σ) (f_MO_end ρ) (jpx c2 σ ρ) := by
  unfold f_IC_end f_MO_end
  rw [ic_idle h.1.1 h.1.2.1, h.1.2.2]
  by_cases c0 : md = 0
  · subst c0
    rw [if_pos rfl, jbt_ex]
    exact .irp rfl (.ret (jx_ex h rfl))
  rw [if_neg c0, jbt_in, h.1.2.1]
  refine .irn (jmdn h.1.1 c0) ?_
  by_cases c1 : md = 1
  · subst c1
    have hw : jWA σ (ju ρ 38 0 0) σ (ju ρ 38 0 0) := (h.th 0).2.2.2.2.1.1 rfl
    refine .ipp rfl (.bd (wr_fin hw.1) ?_)
    rintro _ m _ k ⟨⟨n, hn, b1, b2, b3⟩, hK, hR⟩
    rw [b1, b2]
    refine .ret ⟨⟨⟨0, S, M, ?_⟩, ?_⟩, ?_, rfl⟩
    · refine (h.th 0).mode (by decide) (by simp [ju_ap]; rfl) (by simp [ju_ap]; rfl) ⟨n, hn, by simp [ju_ap, b1], by simp [ju_ap, b2], fun i hi => by simp [ju_ap, b3 i hi]⟩ (fun q => absurd q (by decide)) (fun q => absurd q (by decide)) ?_ ?_ ?_
      · intro o _ h0 h8 h9 h11 h12 h13; rw [ju_n h0]; exact hK o h8 h9 h11 h12 h13
      · rintro j (rfl | rfl) <;> rw [ju_ap, if_pos rfl, if_neg (by decide)]
        · exact hR.2 4 (by decide) (by decide)
        · exact hR.2 5 (by decide) (by decide)
      · intro o h1 h2; rw [ju_n (by omega)]; exact hR.1 o (by omega) (by omega) (by omega)
    · exact ((jFr.r σ ρ).th (k := 0) (v := 0) (o := 38) (by decide)).x (fun o ho => by rw [ju_n (by omega)]; exact hK o (by omega) (by omega) (by omega) (by omega) (by omega)) (fun o ho => by rw [ju_n (by omega)]; exact hR.1 o (by omega) (by omega) (by omega))
    · rw [ju_ap, if_pos rfl, if_neg (by decide), hR.2 0 (by decide) (by decide)]; exact ju38
  · have hm := h.1.1
    have n1 : ¬ nI md = 1 := fun q => c1 ((nI_eq (b := 1) (by omega) (by decide)).mp q)
    refine .inn n1 ?_
    obtain ⟨n, hn, b1, b2, b3⟩ := h.2.2.2.1
    rw [b1, b2]
    refine .ret ⟨⟨⟨0, S, M, ?_⟩, (((jFr.r σ ρ).th (by decide)).th (by decide)).cl (by decide)⟩, by simp [ju_ap], rfl⟩
    refine h.mode (by decide) (by simp [ju_ap]; rfl) (by simp [ju_ap]; rfl) ⟨n, hn, by simp [ju_ap, b1], by simp [ju_ap, b2], fun i hi => by simp [ju_ap, b3 i hi]⟩ (fun q => absurd q (by decide)) (fun q => absurd q (by decide)) ?_ ?_ ?_
    · intro o _ h0 _ _ _ _ _; rw [ju_n h0]
    · rintro j (rfl | rfl) <;> simp [ju_ap]
    · intro o h1 h2; rw [ju_n (by omega), ju_n (by omega)]
/-- a region was coded -/
theorem jGl.rg {w : Bool} {md S M p W H : Nat} {σ ρ m k : jMem} (h : jGl md S M σ ρ) (hmd : md = if w then 1 else 2) (hp : p < 12) (hr : jRg w p W H σ ρ m k) : jGl md S M m k := by
  obtain ⟨hD, hK, hR, hP⟩ := hr
  have hS := h.2.1.1
  refine h.cod hmd hD (fun o h1 h8 h9 h11 h12 h13 => hK o h8 h9 h11 h12 h13 (by omega)) ?_ (fun o h1 h2 => hR.1 o (by omega) (by omega) (by omega) (by omega)) ?_
  · rintro j (rfl | rfl | rfl)
    · exact hR.2.1 4 (by decide) (by decide)
    · exact hR.2.1 5 (by decide) (by decide)
    · exact hR.2.1 11 (by decide) (by decide)
  · intro q hq
    by_cases e : q = p
    · subst e; exact ⟨W, H, hP⟩
    · obtain ⟨W', H', hQ⟩ := h.2.2.2.2.2.1 q hq
      exact ⟨W', H', hQ.c (hK _ (by omega) (by omega) (by omega) (by omega) (by omega) (by omega)) (hK _ (by omega) (by omega) (by omega) (by omega) (by omega) (by omega)) (fun y hy => hR.2.2 _ (by omega)) (by rw [hR.1 40 (by decide) (by decide) (by decide) (by decide)]) (by rw [hR.1 41 (by decide) (by decide) (by decide) (by decide)])⟩
theorem jFr.rg {w : Bool} {p W H : Nat} {σ0 ρ0 σ ρ m k : jMem} (h : jFr σ0 ρ0 σ ρ) (hp : p < 11) (hr : jRg w p W H σ ρ m k) : jFr σ0 ρ0 m k := h.x (fun o ho => hr.2.1 o (by omega) (by omega) (by omega) (by omega) (by omega) (by omega)) (fun o ho => hr.2.2.1.1 o (by omega) (by omega) (by omega) (by omega))
theorem jRg.th {w : Bool} {p W H : Nat} {σ ρ m k : jMem} {v : Int32} (hr : jRg w p W H σ (ju ρ 38 0 v) m k) : k 38 0 = v := (hr.2.2.1.2.1 0 (by decide) (by decide)).trans ju38
theorem jmd {md : Nat} (h : md ≤ 2) (h0 : ¬ md = 0) (h1 : ¬ md = 1) : md = 2 := by omega
theorem m_region {md S M : Nat} {σ ρ : jMem} (h : jGl md S M σ ρ) (x1 x2 x3 : Int32) : jPP (f_IC_region x1 x2 x3 σ) (f_MO_region x1 x2 x3 ρ) (jpx c201 σ ρ) := by
  unfold f_IC_region f_MO_region
  rw [ic_idle h.1.1 h.1.2.1, h.1.2.2, mo_board]
  by_cases c0 : md = 0
  · subst c0
    rw [if_pos rfl, jbt_ex]
    exact .irp rfl (.ret (jx_ex h rfl))
  rw [if_neg c0, jbt_in, ic_refB]
  refine .irn (jmdn h.1.1 c0) ?_
  by_cases cb : ¬ (0 ≤ x1.toInt ∧ x1.toInt ≤ 3)
  · rw [if_neg cb, if_neg cb, jbt_ex]
    exact .irp rfl (.ret (jx_ex h rfl))
  replace cb := Classical.not_not.mp cb
  rw [if_pos cb, if_pos cb, jbt_in]
  refine .irn (by decide) ?_
  have l1 : x2 < (1 : Int32) ↔ x2.toInt < 1 := i_lt x2 1 (by decide)
  have l3 : x2 ≤ (3 : Int32) ↔ x2.toInt ≤ 3 := i_le x2 3 (by decide)
  have hw : f_IC_within x2 (1 : Int32) (3 : Int32) σ = if 1 ≤ x2.toInt ∧ x2.toInt ≤ 3 then 1 else 0 := by
    have := w_in (X := x2.toInt) (A := 1) (B := 3) σ (iI_rg x2) (by decide) (by decide)
    rwa [← iI_of x2] at this
  rw [hw]
  by_cases c2 : ¬ (1 ≤ x2.toInt ∧ x2.toInt ≤ 3)
  · rw [if_neg c2]
    refine .ilp rfl ?_
    by_cases c : x2.toInt < 1
    · exact .irp (l1.mpr c) (.ret (jx_ex h rfl))
    · exact .irn (fun q => c (l1.mp q)) (.irn (fun q => by have := l3.mp q; omega) (.ret (jx_ex h rfl)))
  replace c2 := Classical.not_not.mp c2
  rw [if_pos c2]
  refine .iln (by decide) (.irn (fun q => by have := l1.mp q; omega) (.irp (l3.mpr c2.2) ?_))
  obtain ⟨b, hb, rfl⟩ := i_b4 cb
  obtain ⟨t, ht, rfl⟩ : ∃ t, (1 ≤ t ∧ t ≤ 3) ∧ x2 = nI t := ⟨x2.toInt.toNat, by omega, i_nat (by omega)⟩
  rw [h.1.2.1, nI_clamp (show b < 2 ^ 31 by omega)]
  have hz := h.th 0
  obtain ⟨W, H, hP⟩ := hz.bd hb
  have i4 := in4 hb
  rw [nI_clamp (by omega)] at i4
  by_cases c1 : md = 1
  · subst c1
    refine .ilp rfl (.ckl i4 (.bd (rgn_true (by omega) hz.1.2.2 ht (hz.2.2.2.2.1.1 rfl) hP) ?_))
    rintro a m b' k ⟨rfl, hr⟩
    exact .ret ⟨⟨⟨1, S, M, hz.rg (w := true) rfl (by omega) hr⟩, ((jFr.r σ ρ).th (by decide)).rg (by omega) hr⟩, hr.th, rfl⟩
  · have := jmd h.1.1 c0 c1
    subst this
    refine .iln (by decide) (.ckl i4 (.bd (rgn_false (by omega) hz.1.2.2 ht (hz.2.2.2.2.1.2 rfl) hP) ?_))
    rintro a m b' k ⟨rfl, hr⟩
    exact .ret ⟨⟨⟨2, S, M, hz.rg (w := false) rfl (by omega) hr⟩, ((jFr.r σ ρ).th (by decide)).rg (by omega) hr⟩, hr.th, rfl⟩
theorem m_refine {md S M : Nat} {σ ρ : jMem} (h : jGl md S M σ ρ) (x1 x2 x3 x4 : Int32) : jPP (f_IC_refine x1 x2 x3 x4 σ) (f_MO_refine x1 x2 x3 x4 ρ) (jpx c201 σ ρ) := by
  unfold f_IC_refine f_MO_refine
  rw [ic_idle h.1.1 h.1.2.1, h.1.2.2, mo_board, mo_board]
  by_cases c0 : md = 0
  · subst c0
    rw [if_pos rfl, jbt_ex]
    exact .irp rfl (.ret (jx_ex h rfl))
  rw [if_neg c0, jbt_in, ic_refB]
  refine .irn (jmdn h.1.1 c0) ?_
  by_cases cb : ¬ (0 ≤ x1.toInt ∧ x1.toInt ≤ 3)
  · rw [if_neg cb, if_neg cb, jbt_ex]
    exact .irp rfl (.ret (jx_ex h rfl))
  replace cb := Classical.not_not.mp cb
  rw [if_pos cb, if_pos cb, jbt_in, ic_refB]
  refine .irn (by decide) ?_
  by_cases cb2 : ¬ (0 ≤ x2.toInt ∧ x2.toInt ≤ 3)
  · rw [if_neg cb2, if_neg cb2, jbt_ex]
    exact .irp rfl (.ret (jx_ex h rfl))
  replace cb2 := Classical.not_not.mp cb2
  rw [if_pos cb2, if_pos cb2, jbt_in, ic_shift, ic_shift]
  refine .irn (by decide) ?_
  by_cases ce : x1 = x2
  · exact .ipp ce (.ret (jx_ex h rfl))
  refine .inn ce ?_
  have l1 : x3 < (-24 : Int32) ↔ x3.toInt < -24 := by rw [show (-24 : Int32) = iI (-24) from by decide]; exact i_lt x3 (-24) (by decide)
  have l2 : (24 : Int32) < x3 ↔ 24 < x3.toInt := i_gt x3 24 (by decide)
  have l3 : x4 < (-24 : Int32) ↔ x4.toInt < -24 := by rw [show (-24 : Int32) = iI (-24) from by decide]; exact i_lt x4 (-24) (by decide)
  have l4 : x4 ≤ (24 : Int32) ↔ x4.toInt ≤ 24 := i_le x4 24 (by decide)
  by_cases c3 : ¬ (-24 ≤ x3.toInt ∧ x3.toInt ≤ 24)
  · rw [if_neg c3]
    refine .ilp rfl ?_
    by_cases c : x3.toInt < -24
    · exact .irp (l1.mpr c) (.ret (jx_ex h rfl))
    · exact .irn (fun q => c (l1.mp q)) (.irp (l2.mpr (by omega)) (.ret (jx_ex h rfl)))
  replace c3 := Classical.not_not.mp c3
  rw [if_pos c3]
  refine .iln (by decide) (.irn (fun q => by have := l1.mp q; omega) (.irn (fun q => by have := l2.mp q; omega) ?_))
  by_cases c4 : ¬ (-24 ≤ x4.toInt ∧ x4.toInt ≤ 24)
  · rw [if_neg c4]
    refine .ilp rfl ?_
    by_cases c : x4.toInt < -24
    · exact .irp (l3.mpr c) (.ret (jx_ex h rfl))
    · exact .irn (fun q => c (l3.mp q)) (.irn (fun q => by have := l4.mp q; omega) (.ret (jx_ex h rfl)))
  replace c4 := Classical.not_not.mp c4
  rw [if_pos c4]
  refine .iln (by decide) (.irn (fun q => by have := l3.mp q; omega) (.irp (l4.mpr c4.2) ?_))
  obtain ⟨b, hb, rfl⟩ := i_b4 cb
  obtain ⟨b2, hb2, rfl⟩ := i_b4 cb2
  rw [h.1.2.1, nI_clamp (show b < 2 ^ 31 by omega), nI_clamp (show b2 < 2 ^ 31 by omega)]
  have hz := h.th 0
  obtain ⟨W, H, hP⟩ := hz.bd hb
  obtain ⟨W', H', hQ⟩ := hz.bd hb2
  have i4 := in4 hb
  have i5 := in4 hb2
  rw [nI_clamp (by omega)] at i4 i5
  have e3 := iI_of x3
  have e4 := iI_of x4
  have hne : b2 ≠ b := fun q => ce (by rw [q])
  rw [e3, e4]
  by_cases c1 : md = 1
  · subst c1
    refine .ilp rfl (.ckl i4 (.ckl i5 (.fl (ref_true (by omega) (by omega) hne hz.1.2.2 (by omega) (by omega) hQ (hz.2.2.2.2.1.1 rfl) hP) ?_)))
    rintro a m b' k ⟨rfl, hr⟩
    exact ⟨_, _, rfl, ⟨⟨1, S, M, hz.rg (w := true) rfl (by omega) hr⟩, ((jFr.r σ ρ).th (by decide)).rg (by omega) hr⟩, hr.th, rfl⟩
  · have := jmd h.1.1 c0 c1
    subst this
    refine .iln (by decide) (.ckl i4 (.ckl i5 (.fl (ref_false (by omega) (by omega) hne hz.1.2.2 (by omega) (by omega) hQ (hz.2.2.2.2.1.2 rfl) hP) ?_)))
    rintro a m b' k ⟨rfl, hr⟩
    exact ⟨_, _, rfl, ⟨⟨2, S, M, hz.rg (w := false) rfl (by omega) hr⟩, ((jFr.r σ ρ).th (by decide)).rg (by omega) hr⟩, hr.th, rfl⟩
/-- numbers were coded -/
theorem jGl.nu {w : Bool} {md S M : Nat} {σ ρ m k : jMem} (h : jGl md S M σ ρ) (hmd : md = if w then 1 else 2) (hr : jNu w σ ρ m k) : jGl md S M m k := by
  obtain ⟨hD, hK, hR⟩ := hr
  have hS := h.2.1.1
  refine h.cod hmd hD (fun o h1 h8 h9 h11 h12 h13 => hK o h8 h9 h11 h12 h13) ?_ (fun o h1 h2 => hR.1 o (by omega) (by omega) (by omega)) ?_
  · rintro j (rfl | rfl | rfl)
    · exact hR.2 4 (by decide) (by decide)
    · exact hR.2 5 (by decide) (by decide)
    · exact hR.2 11 (by decide) (by decide)
  · intro q hq
    obtain ⟨W', H', hQ⟩ := h.2.2.2.2.2.1 q hq
    exact ⟨W', H', hQ.o (fun o h1 h2 => hK o (by omega) (by omega) (by omega) (by omega) (by omega)) (by omega) (hR.1 39 (by decide) (by decide) (by decide)) (hR.1 40 (by decide) (by decide) (by decide)) (hR.1 41 (by decide) (by decide) (by decide))⟩
theorem jFr.nu {w : Bool} {σ0 ρ0 σ ρ m k : jMem} (h : jFr σ0 ρ0 σ ρ) (hr : jNu w σ ρ m k) : jFr σ0 ρ0 m k := h.x (fun o ho => hr.2.1 o (by omega) (by omega) (by omega) (by omega) (by omega)) (fun o ho => hr.2.2.1 o (by omega) (by omega) (by omega))
theorem m_number {md S M : Nat} {σ ρ : jMem} (h : jGl md S M σ ρ) (x1 x2 : Int32) : jPP (f_IC_number x1 x2 σ) (f_MO_number x1 x2 ρ) (jpx c201 σ ρ) := by
  unfold f_IC_number f_MO_number
  rw [ic_idle h.1.1 h.1.2.1, h.1.2.2]
  by_cases c0 : md = 0
  · subst c0
    rw [if_pos rfl, jbt_ex]
    exact .irp rfl (.ret (jx_ex h rfl))
  rw [if_neg c0, jbt_in]
  refine .irn (jmdn h.1.1 c0) ?_
  have l0 : x1 < (0 : Int32) ↔ x1.toInt < 0 := i_lt x1 0 (by decide)
  have l2 : x1 ≤ (2 : Int32) ↔ x1.toInt ≤ 2 := i_le x1 2 (by decide)
  have hw : f_IC_within x1 (0 : Int32) (2 : Int32) σ = if 0 ≤ x1.toInt ∧ x1.toInt ≤ 2 then 1 else 0 := by
    have := w_in (X := x1.toInt) (A := 0) (B := 2) σ (iI_rg x1) (by decide) (by decide)
    rwa [← iI_of x1] at this
  rw [hw]
  by_cases c2 : ¬ (0 ≤ x1.toInt ∧ x1.toInt ≤ 2)
  · rw [if_neg c2]
    refine .ilp rfl ?_
    by_cases c : x1.toInt < 0
    · exact .irp (l0.mpr c) (.ret (jx_ex h rfl))
    · exact .irn (fun q => c (l0.mp q)) (.irn (fun q => by have := l2.mp q; omega) (.ret (jx_ex h rfl)))
  replace c2 := Classical.not_not.mp c2
  rw [if_pos c2]
  refine .iln (by decide) (.irn (fun q => by have := l0.mp q; omega) (.irp (l2.mpr c2.2) ?_))
  obtain ⟨κ, hκ, rfl⟩ : ∃ t, t ≤ 2 ∧ x1 = nI t := ⟨x1.toInt.toNat, by omega, i_nat (by omega)⟩
  have hz := h.th 0
  rw [h.1.2.1]
  by_cases c1 : md = 1
  · subst c1
    have key : ∀ y2 y3, jnw_true x2 y2 y3 → jPP (jbd (f_NU_codeNumber_W (nI κ) x2 σ) (fun v60 n60 => some (.inr v60, n60))) (jbd (f_MO_codeNumber (nI κ) y2 y3 (ju ρ 38 0 (0 : Int32))) (fun v92 n92 => if (n92 38 20) = 0 then (some (v92, n92)) else (some ((-2147483648 : Int32), n92)))) (jpx c201 σ ρ) := by
      intro y2 y3 hy
      refine .bd (num_true (by omega) hz.1.2.2 ⟨hz.2.2.2.2.1.1 rfl, .r _, .r _⟩ (fun _ => hy)) ?_
      rintro a m b k ⟨hn, ha, -⟩
      have fin : jXX σ ρ m k := ⟨⟨1, S, M, hz.nu (w := true) rfl hn⟩, ((jFr.r σ ρ).th (by decide)).nu hn⟩
      have t0 : k 38 0 = 0 := (hn.2.2.2 0 (by decide) (by decide)).trans ju38
      subst ha
      by_cases cz : k 38 20 = 0
      · rw [if_pos cz]; exact .irp cz (.ret ⟨fin, t0, rfl⟩)
      · rw [if_neg cz]; exact .irn cz (.ret ⟨fin, t0, rfl⟩)
    refine .ipp rfl ?_
    by_cases ce : x2 = -2147483648
    · exact .ipp ce (.ilp rfl (.irp ce (.irp ce (key _ _ (Or.inl ⟨ce, rfl⟩)))))
    refine .inn ce ?_
    have hw2 : f_IC_within x2 (-1000000 : Int32) (1000000 : Int32) σ = if -1000000 ≤ x2.toInt ∧ x2.toInt ≤ 1000000 then 1 else 0 := by
      have := w_in (X := x2.toInt) (A := -1000000) (B := 1000000) σ (iI_rg x2) (by decide) (by decide)
      rwa [← iI_of x2] at this
    have m1 : x2 < (-1000000 : Int32) ↔ x2.toInt < -1000000 := by rw [show (-1000000 : Int32) = iI (-1000000) from by decide]; exact i_lt x2 (-1000000) (by decide)
    have m2 : x2 ≤ (1000000 : Int32) ↔ x2.toInt ≤ 1000000 := i_le x2 1000000 (by decide)
    rw [hw2]
    by_cases c3 : ¬ (-1000000 ≤ x2.toInt ∧ x2.toInt ≤ 1000000)
    · rw [if_neg c3]
      refine .ilp rfl ?_
      by_cases c : x2.toInt < -1000000
      · exact .irp (m1.mpr c) (.ret (jx_ex h rfl))
      · exact .irn (fun q => c (m1.mp q)) (.irn (fun q => by have := m2.mp q; omega) (.ret (jx_ex h rfl)))
    replace c3 := Classical.not_not.mp c3
    rw [if_pos c3]
    refine .iln (by decide) (.irn (fun q => by have := m1.mp q; omega) (.irp (m2.mpr c3.2) (.ilp rfl (.irn ce (.irn ce (key _ _ (Or.inr ?_)))))))
    by_cases cn : 0 ≤ x2.toInt
    · exact ⟨x2.toInt.toNat, by omega, Or.inl (i_nat cn), rfl, rfl⟩
    · refine ⟨(-x2.toInt).toNat, by omega, Or.inr ?_, rfl, rfl⟩
      apply Int32.toInt_inj.mp
      rw [sb_negT (by omega)]
      omega
  · have := jmd h.1.1 c0 c1
    subst this
    have key : ∀ y2 y3, jPP (jbd (f_NU_codeNumber_R (nI κ) x2 σ) (fun v60 n60 => some (.inr v60, n60))) (jbd (f_MO_codeNumber (nI κ) y2 y3 (ju ρ 38 0 (0 : Int32))) (fun v92 n92 => if (n92 38 20) = 0 then (some (v92, n92)) else (some ((-2147483648 : Int32), n92)))) (jpx c201 σ ρ) := by
      intro y2 y3
      refine .bd (num_false (by omega) hz.1.2.2 ⟨hz.2.2.2.2.1.2 rfl, .r _, .r _⟩ (fun q => Bool.noConfusion q)) ?_
      rintro a m b k ⟨hn, ha, -⟩
      have fin : jXX σ ρ m k := ⟨⟨2, S, M, hz.nu (w := false) rfl hn⟩, ((jFr.r σ ρ).th (by decide)).nu hn⟩
      have t0 : k 38 0 = 0 := (hn.2.2.2 0 (by decide) (by decide)).trans ju38
      subst ha
      by_cases cz : k 38 20 = 0
      · rw [if_pos cz]; exact .irp cz (.ret ⟨fin, t0, rfl⟩)
      · rw [if_neg cz]; exact .irn cz (.ret ⟨fin, t0, rfl⟩)
    refine .iln (by decide) (.irn (by decide) (.iln (by decide) ?_))
    by_cases ce : x2 = -2147483648
    · exact .irp ce (.irp ce (key _ _))
    · exact .irn ce (.irn ce (key _ _))
