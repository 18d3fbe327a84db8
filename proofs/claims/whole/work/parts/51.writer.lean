/-! the writer beside the reference's -/
def jCb (σ ρ : jMem) (n : Nat) : Prop := n ≤ 600 ∧ σ 8 1 = nI n ∧ ρ 38 9 = nI n ∧ ∀ i, i < 600 → σ 9 i = ρ 45 i
def jCw (σ ρ : jMem) : Prop := σ 12 2 = ρ 38 12 ∧ σ 12 3 = ρ 38 13 ∧ σ 12 4 = ρ 38 14 ∧ σ 12 5 = ρ 38 15
def jCt (σ ρ : jMem) (n : Nat) : Prop := (σ 12 6 = 0 ∧ ρ 38 16 < 0) ∨ (σ 12 6 = 1 ∧ ∃ j, n = j + 1 ∧ ρ 38 16 = nI j)
def jW (σ0 ρ0 σ ρ : jMem) : Prop := jK σ0 σ ∧ jKr ρ0 ρ ∧ jCx σ ρ ∧ (∃ n, jCb σ ρ n ∧ jCt σ ρ n) ∧ jCw σ ρ
theorem br_append1 {σ : jMem} {n : Nat} (v : Int32) (h : σ 8 1 = nI n) (hn : n < 600) : f_BR_append v σ = some (1, ju (ju σ 9 n v) 8 1 (nI (n + 1))) := by
  unfold f_BR_append
  rw [h, if_neg (fun q => by have := congrArg Int32.toNatClampNeg q; rw [nI_clamp (by omega)] at this; exact absurd this (by show ¬ n = 600; omega)), jck_pos (nI_in hn (by decide)), nI_clamp (by omega), nI_1]
theorem br_append0 {σ : jMem} (v : Int32) (h : σ 8 1 = nI 600) : f_BR_append v σ = some (0, σ) := by
  unfold f_BR_append
  rw [h, if_pos (show nI 600 = 600 from rfl)]
theorem mo_out1 {ρ : jMem} {n : Nat} (v : Int32) (h : ρ 38 9 = nI n) (hn : n < 600) : f_MO_out v ρ = some ((), ju (ju (ju (ju (ju ρ 38 15 v) 38 16 (-1)) 45 n v) 38 16 (nI n)) 38 9 (nI (n + 1))) := by
  unfold f_MO_out
  rw [h, if_neg (show ¬ (600 : Int32) ≤ nI n from nI_ge hn (by decide)), jck_pos (nI_in hn (by decide)), nI_clamp (by omega), nI_1]
theorem mo_out0 {ρ : jMem} (v : Int32) (h : ρ 38 9 = nI 600) : f_MO_out v ρ = some ((), ju (ju ρ 38 15 v) 38 16 (-1)) := by
  unfold f_MO_out
  rw [h, if_pos (by decide)]
theorem jneg {n : Nat} (h : n < 2 ^ 31) : ¬ nI n < 0 := nI_pos h
set_option maxHeartbeats 1000000 in
theorem wr_tail {σ0 ρ0 σ ρ : jMem} {n : Nat} {A : Int32} (V C N M : Int32) (hK : jK σ0 σ) (hR : jKr ρ0 ρ) (hx : jCx σ ρ) (hb : jCb σ ρ n) (ha : σ 12 2 = ρ 38 12) (hC : C = ρ 38 13 &&& M) (hA : σ 12 2 = A) : jPP (jbd (f_BR_append V (ju (ju (ju σ 12 5 V) 12 3 C) 12 4 N)) (fun v150 n150 => jck (v150 = 0 ∨ v150 = 1) (some ((), (ju n150 12 6 v150))))) (jbd (f_MO_out V ρ) (fun _ n95 => some ((), (ju (ju n95 38 13 ((n95 38 13) &&& M)) 38 14 N)))) (fun _ m _ k => jW σ0 ρ0 m k ∧ m 12 2 = A) := by
  obtain ⟨hn, h1, h2, h3⟩ := hb
  rcases Nat.lt_or_ge n 600 with hl | hl
  · refine jPP.bl (br_append1 (n := n) V (by simp [ju_ap, h1]) hl) (jPP.br (mo_out1 V h2 hl) (jPP.ckl (Or.inr rfl) (jPP.ret ⟨⟨?_, ?_, ?_, ⟨n + 1, ⟨by omega, ?_, ?_, ?_⟩, Or.inr ⟨?_, n, rfl, ?_⟩⟩, ?_, ?_, ?_, ?_⟩, ?_⟩)))
    · exact ((((((hK.u (by decide)).u (by decide)).u (by decide)).u (by decide)).u (by decide)).u (by decide))
    · exact ((((((((hR.u (by decide)).u (by decide)).v (by decide)).u (by decide)).u (by decide)).u (by decide)).u (by decide)))
    · exact hx.c (by funext i; simp [ju_ap]) (by funext i; simp [ju_ap])
    · simp [ju_ap]
    · simp [ju_ap]
    · intro i hi; simp [ju_ap, h3 i hi]
    · simp [ju_ap]
    · simp [ju_ap]
    · simp [ju_ap, ha]
    · simp [ju_ap, hC]
    · simp [ju_ap]
    · simp [ju_ap]
    · simp [ju_ap, hA]
  · have e : n = 600 := by omega
    subst e
    refine jPP.bl (br_append0 V (by simp [ju_ap, h1])) (jPP.br (mo_out0 V h2) (jPP.ckl (Or.inl rfl) (jPP.ret ⟨⟨?_, ?_, ?_, ⟨600, ⟨by omega, ?_, ?_, ?_⟩, Or.inl ⟨?_, ?_⟩⟩, ?_, ?_, ?_, ?_⟩, ?_⟩)))
    · exact (((hK.u (by decide)).u (by decide)).u (by decide)).u (by decide)
    · exact (((hR.u (by decide)).u (by decide)).u (by decide)).u (by decide)
    · exact hx.c (by funext i; simp [ju_ap]) (by funext i; simp [ju_ap])
    · simp [ju_ap, h1]
    · simp [ju_ap, h2]
    · intro i hi; simp [ju_ap, h3 i hi]
    · simp [ju_ap]
    · simp [ju_ap]
    · simp [ju_ap, ha]
    · simp [ju_ap, hC]
    · simp [ju_ap]
    · simp [ju_ap]
    · simp [ju_ap, hA]
theorem jCb.c {σ ρ σ' ρ' : jMem} {n : Nat} (h : jCb σ ρ n) (h1 : σ' 8 = σ 8) (h2 : σ' 9 = σ 9) (h3 : ρ' 38 9 = ρ 38 9) (h4 : ρ' 45 = ρ 45) : jCb σ' ρ' n := by
  unfold jCb
  rw [h1, h2, h3, h4]
  exact h
theorem br_replace {σ : jMem} {j : Nat} (v : Int32) (h : σ 8 1 = nI (j + 1)) (hj : j < 600) : f_BR_replaceLast v σ = some ((), ju σ 9 j v) := by
  unfold f_BR_replaceLast
  rw [h, if_neg (nI_nle (by omega) (by omega)), nI_pred, jck_pos (nI_in hj (by decide)), nI_clamp (by omega)]
set_option maxHeartbeats 1000000 in
theorem wr_send {σ0 ρ0 σ ρ : jMem} (h : jW σ0 ρ0 σ ρ) : jPP (f_WR_sendByte σ) (f_MO_goOut ρ) (fun _ m _ k => jW σ0 ρ0 m k ∧ m 12 2 = σ 12 2) := by
  obtain ⟨hK, hR, hx, ⟨n, hb, ht⟩, h2, h3, h4, h5⟩ := h
  unfold f_WR_sendByte f_MO_goOut
  rw [h5, h3]
  by_cases c1 : ρ 38 15 = 255
  · refine .ipp c1 (.ipp c1 ?_)
    exact wr_tail _ _ _ _ hK hR hx hb h2 rfl rfl
  refine .inn c1 ?_
  by_cases c2 : ρ 38 13 < 134217728
  · refine .ipp c2 (.inn c1 ?_)
    exact wr_tail _ _ _ _ hK hR hx hb h2 rfl rfl
  refine .inn c2 ?_
  rcases ht with ⟨t1, t2⟩ | ⟨t1, j, rfl, t2⟩
  · refine .ilp t1 (.irp t2 ?_)
    by_cases c3 : ρ 38 15 + 1 = 255
    · refine .ipp c3 (.ipp c3 ?_)
      refine wr_tail _ _ _ _ ((hK.u (by decide)).u (by decide)) ((hR.u (by decide)).u (by decide)) (hx.c (by funext i; simp [ju_ap]) (by funext i; simp [ju_ap])) (hb.c (by funext i; simp [ju_ap]) (by funext i; simp [ju_ap]) (by simp [ju_ap]) (by funext i; simp [ju_ap])) ?_ ?_ ?_
      · simp [ju_ap, h2]
      · simp [ju_ap]
      · simp [ju_ap]
    · refine .inn c3 (.inn c3 ?_)
      refine wr_tail _ _ _ _ (hK.u (by decide)) ((hR.u (by decide)).u (by decide)) (hx.c (by funext i; simp [ju_ap]) (by funext i; simp [ju_ap])) (hb.c (by funext i; simp [ju_ap]) (by funext i; simp [ju_ap]) (by simp [ju_ap]) (by funext i; simp [ju_ap])) ?_ ?_ ?_
      · simp [ju_ap, h2]
      · simp [ju_ap]
      · simp [ju_ap]
  · obtain ⟨hn, b1, b2, b3⟩ := hb
    refine .iln (by rw [t1]; decide) (.irn (by rw [t2]; exact nI_pos (by omega)) ?_)
    refine .bl (br_replace (j := j) _ (by simp [ju_ap, b1]) (by omega)) (.ckr (by rw [t2]; exact nI_in (by omega) (by decide)) ?_)
    have q5 : (ju (ju σ 12 5 (ρ 38 15 + 1)) 9 j (ρ 38 15 + 1)) 12 5 = ρ 38 15 + 1 := by simp [ju_ap]
    have q3 : (ju (ju σ 12 5 (ρ 38 15 + 1)) 9 j (ρ 38 15 + 1)) 12 3 = ρ 38 13 := by simp [ju_ap, h3]
    rw [q5, q3, t2, nI_clamp (show j < 2 ^ 31 by omega)]
    by_cases c3 : ρ 38 15 + 1 = 255
    · refine .ipp c3 (.ipp c3 ?_)
      refine wr_tail _ _ _ _ (((hK.u (by decide)).u (by decide)).u (by decide)) (((hR.u (by decide)).v (by decide)).u (by decide)) (hx.c (by funext i; simp [ju_ap]) (by funext i; simp [ju_ap])) (n := j + 1) ⟨hn, by simp [ju_ap, b1], by simp [ju_ap, b2], fun i hi => by simp [ju_ap, b3 i hi]⟩ ?_ ?_ ?_
      · simp [ju_ap, h2]
      · simp [ju_ap]
      · simp [ju_ap]
    · refine .inn c3 (.inn c3 ?_)
      refine wr_tail _ _ _ _ ((hK.u (by decide)).u (by decide)) (((hR.u (by decide)).v (by decide)).u (by decide)) (hx.c (by funext i; simp [ju_ap]) (by funext i; simp [ju_ap])) (n := j + 1) ⟨hn, by simp [ju_ap, b1], by simp [ju_ap, b2], fun i hi => by simp [ju_ap, b3 i hi]⟩ ?_ ?_ ?_
      · simp [ju_ap, h2]
      · simp [ju_ap]
      · simp [ju_ap]
theorem jsh1 {A : Nat} (h : A < 2 ^ 31) : nI A <<< ((1 : Int32) &&& 31) = nI (2 * A) := by
  have := pk_shlN (n := A) ((1 : Int32) &&& 31) 1 (by decide) (by omega)
  rw [this, Nat.mul_comm]
theorem jW.s {σ0 ρ0 σ ρ : jMem} (h : jW σ0 ρ0 σ ρ) {A C N : Int32} : jW σ0 ρ0 (ju (ju (ju σ 12 2 A) 12 3 C) 12 4 N) (ju (ju (ju ρ 38 12 A) 38 13 C) 38 14 N) := by
  obtain ⟨hK, hR, hx, ⟨n, hb, ht⟩, h2, h3, h4, h5⟩ := h
  refine ⟨((hK.u (by decide)).u (by decide)).u (by decide), ((hR.u (by decide)).u (by decide)).u (by decide), hx.c (by funext i; simp [ju_ap]) (by funext i; simp [ju_ap]), ⟨n, hb.c (by funext i; simp [ju_ap]) (by funext i; simp [ju_ap]) (by simp [ju_ap]) (by funext i; simp [ju_ap]), ?_⟩, ?_, ?_, ?_, ?_⟩
  · unfold jCt at ht ⊢; simpa [ju_ap] using ht
  · simp [ju_ap]
  · simp [ju_ap]
  · simp [ju_ap]
  · simp [ju_ap, h5]
/-- one doubling: the common body -/
theorem wr_body {σ0 ρ0 σ ρ : jMem} {A : Nat} (h : jW σ0 ρ0 σ ρ) (hA : A < 2 ^ 31) (ha : σ 12 2 = nI A) {f : Unit → jMem → Option (Unit × jMem)} {x : jMem → Option (Unit × jMem)} {g : Unit → jMem → Option (Unit × jMem)} {y : Option (Unit × jMem)} {Q : Unit → jMem → Unit → jMem → Prop} (hf : ∀ m k, jW σ0 ρ0 m k → m 12 2 = nI (2 * A) → jPP (f () m) (g () k) Q) (hx : ∀ m, x m = f () m) (hy : y = g () (ju (ju (ju ρ 38 12 ((ρ 38 12) <<< ((1 : Int32) &&& 31))) 38 13 ((ρ 38 13) <<< ((1 : Int32) &&& 31))) 38 14 ((ρ 38 14) - (1 : Int32)))) : jPP (if ((σ 12 4) - (1 : Int32)) = 0 then (jbd (f_WR_sendByte (ju (ju (ju σ 12 2 ((σ 12 2) <<< ((1 : Int32) &&& 31))) 12 3 ((σ 12 3) <<< ((1 : Int32) &&& 31))) 12 4 ((σ 12 4) - (1 : Int32)))) f) else x (ju (ju (ju σ 12 2 ((σ 12 2) <<< ((1 : Int32) &&& 31))) 12 3 ((σ 12 3) <<< ((1 : Int32) &&& 31))) 12 4 ((σ 12 4) - (1 : Int32)))) (if ((ρ 38 14) - (1 : Int32)) = 0 then (jbd (f_MO_goOut (ju (ju (ju ρ 38 12 ((ρ 38 12) <<< ((1 : Int32) &&& 31))) 38 13 ((ρ 38 13) <<< ((1 : Int32) &&& 31))) 38 14 ((ρ 38 14) - (1 : Int32)))) g) else y) Q := by
  have h0 := h
  obtain ⟨hK, hR, hx', ⟨n, hb, ht⟩, h2, h3, h4, h5⟩ := h0
  have ha2 : ρ 38 12 = nI A := h2 ▸ ha
  rw [hy, hx, h2, h3, h4, ha2, jsh1 hA]
  by_cases c : ρ 38 14 - 1 = 0
  · refine .ipp c (jPP.bd (wr_send h.s) ?_)
    intro _ m _ k hm
    exact hf m k hm.1 (hm.2.trans (by simp [ju_ap]))
  · refine .inn c ?_
    exact hf _ _ h.s (by simp [ju_ap])
set_option maxHeartbeats 1000000 in
theorem wr_loop {σ0 ρ0 : jMem} {x1 x2 x3 : Int32} : ∀ t j A n m σ ρ, j + t = 15 → 2 ^ j ≤ A → A < 32768 → σ 12 2 = nI A → jW σ0 ρ0 σ ρ → jPP (f_WR_shiftOut_L2 (n + t + 2) (nI j) σ) (f_MO_write_L122 (m + t + 2) x1 x2 x3 1 ρ) (fun _ m _ k => jW σ0 ρ0 m k ∧ ∃ A, 32768 ≤ A ∧ A < 65536 ∧ m 12 2 = nI A) := by
  intro t
  induction t with
  | zero =>
    intro j A n m σ ρ hj hA
    have : j = 15 := by omega
    subst this
    intro h2
    exact absurd h2 (by have : 2 ^ 15 = 32768 := by decide
                        omega)
  | succ t ih =>
    intro j A n m σ ρ hj hA hB ha h
    rw [show n + (t + 1) + 2 = (n + t + 2) + 1 from by omega, show m + (t + 1) + 2 = (m + t + 2) + 1 from by omega]
    unfold f_WR_shiftOut_L2 f_MO_write_L122
    refine .iln (show ¬ nI 16 ≤ nI j from nI_ge (by omega) (by decide)) (.irn (by decide) ?_)
    have key : jPP (if ((σ 12 4) - (1 : Int32)) = 0 then (jbd (f_WR_sendByte (ju (ju (ju σ 12 2 ((σ 12 2) <<< ((1 : Int32) &&& 31))) 12 3 ((σ 12 3) <<< ((1 : Int32) &&& 31))) 12 4 ((σ 12 4) - (1 : Int32)))) (fun _ n59 => f_WR_shiftOut_L2 (n + t + 2) (nI j + 1) n59)) else (f_WR_shiftOut_L2 (n + t + 2) (nI j + 1) (ju (ju (ju σ 12 2 ((σ 12 2) <<< ((1 : Int32) &&& 31))) 12 3 ((σ 12 3) <<< ((1 : Int32) &&& 31))) 12 4 ((σ 12 4) - (1 : Int32))))) (if ((ρ 38 14) - (1 : Int32)) = 0 then (jbd (f_MO_goOut (ju (ju (ju ρ 38 12 ((ρ 38 12) <<< ((1 : Int32) &&& 31))) 38 13 ((ρ 38 13) <<< ((1 : Int32) &&& 31))) 38 14 ((ρ 38 14) - (1 : Int32)))) (fun _ n165 => if (32768 : Int32) ≤ (n165 38 12) then (f_MO_write_L122 (m + t + 2) x1 x2 x3 (0 : Int32) n165) else (f_MO_write_L122 (m + t + 2) x1 x2 x3 (1 : Int32) n165))) else (if (32768 : Int32) ≤ ((ρ 38 12) <<< ((1 : Int32) &&& 31)) then (f_MO_write_L122 (m + t + 2) x1 x2 x3 (0 : Int32) (ju (ju (ju ρ 38 12 ((ρ 38 12) <<< ((1 : Int32) &&& 31))) 38 13 ((ρ 38 13) <<< ((1 : Int32) &&& 31))) 38 14 ((ρ 38 14) - (1 : Int32)))) else (f_MO_write_L122 (m + t + 2) x1 x2 x3 (1 : Int32) (ju (ju (ju ρ 38 12 ((ρ 38 12) <<< ((1 : Int32) &&& 31))) 38 13 ((ρ 38 13) <<< ((1 : Int32) &&& 31))) 38 14 ((ρ 38 14) - (1 : Int32)))))) (fun _ m _ k => jW σ0 ρ0 m k ∧ ∃ A, 32768 ≤ A ∧ A < 65536 ∧ m 12 2 = nI A) := by
      refine wr_body (A := A) h (by omega) ha ?_ (x := fun q => f_WR_shiftOut_L2 (n + t + 2) (nI j + 1) q) (fun _ => rfl) (by simp [ju_ap])
      intro p q hp hq
      have hq2 : q 38 12 = nI (2 * A) := hp.2.2.2.2.1 ▸ hq
      rw [hq2, nI_1]
      by_cases c : 32768 ≤ 2 * A
      · refine .irp (show nI 32768 ≤ nI (2 * A) from nI_le c (by omega)) ?_
        rw [show m + t + 2 = (m + t + 1) + 1 from rfl, show n + t + 2 = (n + t + 1) + 1 from rfl]
        unfold f_WR_shiftOut_L2 f_MO_write_L122
        refine .irp rfl ?_
        by_cases c2 : (16 : Int32) ≤ nI (j + 1)
        · exact .ilp c2 (.ret ⟨hp, 2 * A, c, by omega, hq⟩)
        · refine .iln c2 (.iln (nI_ne0 (by omega) (by omega)) (.ilp ?_ (.ret ⟨hp, 2 * A, c, by omega, hq⟩)))
          rw [hq]
          exact (show nI 32768 ≤ nI (2 * A) from nI_le c (by omega))
      · refine .irn (show ¬ nI 32768 ≤ nI (2 * A) from nI_ge (by omega) (by omega)) ?_
        exact ih (j + 1) (2 * A) n m p q (by omega) (by rw [Nat.pow_succ]; omega) (by omega) hq hp
    by_cases c : nI j = 0
    · exact .ilp c key
    · refine .iln c (.iln ?_ key)
      rw [ha]
      exact (show ¬ nI 32768 ≤ nI A from nI_ge (by omega) (by omega))
theorem wr_shift {σ0 ρ0 σ ρ : jMem} {x1 x2 x3 : Int32} {A : Nat} (h1 : 1 ≤ A) (h2 : A < 32768) (ha : σ 12 2 = nI A) (h : jW σ0 ρ0 σ ρ) : jPP (f_WR_shiftOut σ) (f_MO_write_L122 jfu x1 x2 x3 1 ρ) (fun _ m _ k => jW σ0 ρ0 m k ∧ ∃ A, 32768 ≤ A ∧ A < 65536 ∧ m 12 2 = nI A) :=
  wr_loop (x1 := x1) (x2 := x2) (x3 := x3) 15 0 A 19983 19983 σ ρ rfl h1 h2 ha h
