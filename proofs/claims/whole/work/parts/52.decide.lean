/-! one decision: writer and reader beside the reference -/
theorem jPP.fl {α β γ : Type} {x : Option (γ × jMem)} {y : Option (β × jMem)} {f : γ → jMem → Option (α × jMem)} {P : γ → jMem → β → jMem → Prop} {Q : α → jMem → β → jMem → Prop} (h : jPP x y P) (k : ∀ a m b n, P a m b n → ∃ a' m', f a m = some (a', m') ∧ Q a' m' b n) : jPP (jbd x f) y Q := by
  obtain ⟨a, m, b, n, rfl, rfl, hp⟩ := h
  obtain ⟨a', m', h1, h2⟩ := k a m b n hp
  exact ⟨a', m', b, n, h1, rfl, h2⟩
theorem jPP.fr {α β γ : Type} {x : Option (α × jMem)} {y : Option (γ × jMem)} {f : γ → jMem → Option (β × jMem)} {P : α → jMem → γ → jMem → Prop} {Q : α → jMem → β → jMem → Prop} (h : jPP x y P) (k : ∀ a m b n, P a m b n → ∃ b' n', f b n = some (b', n') ∧ Q a m b' n') : jPP x (jbd y f) Q := by
  obtain ⟨a, m, b, n, rfl, rfl, hp⟩ := h
  obtain ⟨a', m', h1, h2⟩ := k a m b n hp
  exact ⟨a, m, a', m', rfl, h1, h2⟩
def jWA (σ0 ρ0 σ ρ : jMem) : Prop := jW σ0 ρ0 σ ρ ∧ ∃ A, 32768 ≤ A ∧ A < 65536 ∧ σ 12 2 = nI A
theorem jW.ac {σ0 ρ0 σ ρ : jMem} (h : jW σ0 ρ0 σ ρ) {A C : Int32} : jW σ0 ρ0 (ju (ju σ 12 2 A) 12 3 C) (ju (ju ρ 38 12 A) 38 13 C) := by
  obtain ⟨hK, hR, hx, ⟨n, hb, ht⟩, h2, h3, h4, h5⟩ := h
  refine ⟨(hK.u (by decide)).u (by decide), (hR.u (by decide)).u (by decide), hx.c (by funext i; simp [ju_ap]) (by funext i; simp [ju_ap]), ⟨n, hb.c (by funext i; simp [ju_ap]) (by funext i; simp [ju_ap]) (by simp [ju_ap]) (by funext i; simp [ju_ap]), ?_⟩, ?_, ?_, ?_, ?_⟩
  · unfold jCt at ht ⊢; simpa [ju_ap] using ht
  all_goals simp [ju_ap, h4, h5]
theorem jW.aa {σ0 ρ0 σ ρ : jMem} (h : jW σ0 ρ0 σ ρ) {A B : Int32} : jW σ0 ρ0 (ju (ju σ 12 2 A) 12 2 B) (ju (ju ρ 38 12 A) 38 12 B) := by
  obtain ⟨hK, hR, hx, ⟨n, hb, ht⟩, h2, h3, h4, h5⟩ := h
  refine ⟨(hK.u (by decide)).u (by decide), (hR.u (by decide)).u (by decide), hx.c (by funext i; simp [ju_ap]) (by funext i; simp [ju_ap]), ⟨n, hb.c (by funext i; simp [ju_ap]) (by funext i; simp [ju_ap]) (by simp [ju_ap]) (by funext i; simp [ju_ap]), ?_⟩, ?_, ?_, ?_, ?_⟩
  · unfold jCt at ht ⊢; simpa [ju_ap] using ht
  all_goals simp [ju_ap, h3, h4, h5]
theorem jW.cx {σ0 ρ0 σ ρ : jMem} (h : jW σ0 ρ0 σ ρ) {i k : Nat} (hi : i < 15883) (hk : k < 94) : jW σ0 ρ0 (ju σ 11 (jx i) (nI k)) (ju ρ 46 i (nI k)) := by
  obtain ⟨hK, hR, hx, ⟨n, hb, ht⟩, h2, h3, h4, h5⟩ := h
  refine ⟨hK.u (by decide), hR.v (by decide), hx.u hi hk, ⟨n, hb.c (by funext i; simp [ju_ap]) (by funext i; simp [ju_ap]) (by simp [ju_ap]) (by funext i; simp [ju_ap]), ?_⟩, ?_, ?_, ?_, ?_⟩
  · unfold jCt at ht ⊢; simpa [ju_ap] using ht
  all_goals simp [ju_ap, h2, h3, h4, h5]
theorem wr_adsh {σ0 ρ0 σ ρ : jMem} {x1 x2 x3 d : Int32} {i v A : Nat} (hi : i < 15883) (hv : v < 94) (h : jW σ0 ρ0 σ ρ) (ha : σ 12 2 = nI A) (h1 : 1 ≤ A) (h2 : A < 32768) {x y : Option (Unit × jMem)} (hx : x = some ((), ju σ 11 (jx i) (nI v))) (hy : y = some ((), ju ρ 46 i (nI v))) : jPP (jbd x (fun _ n111 => jbd (f_WR_shiftOut n111) (fun _ n115 => some (d, n115)))) (jbd y (fun _ n82 => f_MO_write_L122 jfu x1 x2 x3 (1 : Int32) n82)) (fun a m _ k => a = d ∧ jWA σ0 ρ0 m k) := by
  refine .bl hx (.br hy (.fl (wr_shift h1 h2 (by simp [ju_ap, ha]) (h.cx hi hv)) ?_))
  intro _ m _ k hp
  exact ⟨d, m, rfl, rfl, hp⟩
set_option maxHeartbeats 1000000 in
theorem wr_decide {σ0 ρ0 σ ρ : jMem} {i : Nat} {d : Int32} (hi : i < 15883) (h : jWA σ0 ρ0 σ ρ) : jPP (f_WR_decide (nI (jx i)) d σ) (f_MO_write (nI i) d ρ) (fun a m _ k => a = d ∧ jWA σ0 ρ0 m k) := by
  obtain ⟨hw, A, hA1, hA2, ha⟩ := h
  obtain ⟨k, hk, k1, k2⟩ := hw.2.2.1 i hi
  obtain ⟨t1, t2, t3, t4, t5, t6, t7⟩ := jt_1 k hk
  have h12 : ρ 38 12 = nI A := hw.2.2.2.2.1 ▸ ha
  have h13 : σ 12 3 = ρ 38 13 := hw.2.2.2.2.2.1
  unfold f_WR_decide f_MO_write
  refine .bl (cx_sizeOf hi hk k2) (.bl (cx_likely hi hk k2) (.ckr (mx_in hi) (.ckr (mx_in hi) ?_)))
  rw [jcl (by omega), k1, jt_s, show nI k - nI k / 2 * 2 = jl k from rfl, ha, h12, h13]
  generalize hQ : (jq k).toNatClampNeg = Q at t5 t6 t7
  have hs : nI A - jq k = nI (A - Q) := by rw [t7]; exact pk_sub (by omega)
  rw [hs]
  by_cases c1 : d = jl k
  · refine .ipp c1 ?_
    by_cases c2 : A - Q < 32768
    · refine .ipp (show nI (A - Q) < nI 32768 from nI_lt c2 (by decide)) ?_
      by_cases c3 : Q ≤ A - Q
      · refine .ipp (by rw [t7]; exact nI_le c3 (by omega)) ?_
        exact wr_adsh (A := A - Q) hi (jt_2 k hk).1 hw.ac (by simp [ju_ap]) (by omega) (by omega) (cx_adapt1 hi hk (by simp [ju_ap, k2])) (mo_usual hi hk (by simp [ju_ap, k1]))
      · refine .inn (by rw [t7]; exact nI_ge (by omega) (by omega)) ?_
        exact wr_adsh (A := Q) hi (jt_2 k hk).1 hw.aa (by simp [ju_ap]; exact t7) (by omega) (by omega) (cx_adapt1 hi hk (by simp [ju_ap, k2])) (mo_usual hi hk (by simp [ju_ap, k1]))
    · refine .inn (show ¬ nI (A - Q) < nI 32768 from nI_nlt (by omega) (by omega)) (.ret ⟨rfl, hw.ac, A - Q, by omega, by omega, by simp [ju_ap]⟩)
  · refine .inn c1 ?_
    by_cases c3 : Q ≤ A - Q
    · refine .ipp (by rw [t7]; exact nI_le c3 (by omega)) ?_
      exact wr_adsh (A := Q) hi (jt_3 k hk).1 hw.aa (by simp [ju_ap]; exact t7) (by omega) (by omega) (cx_adapt0 hi hk (by simp [ju_ap, k2])) (mo_wrong hi hk (by simp [ju_ap, k1]))
    · refine .inn (by rw [t7]; exact nI_ge (by omega) (by omega)) ?_
      exact wr_adsh (A := A - Q) hi (jt_3 k hk).1 hw.ac (by simp [ju_ap]) (by omega) (by omega) (cx_adapt0 hi hk (by simp [ju_ap, k2])) (mo_wrong hi hk (by simp [ju_ap, k1]))
theorem dec_W {σ0 ρ0 σ ρ : jMem} {i : Nat} {d : Int32} (hi : i < 15883) (hm : ρ0 38 11 = 1) (h : jWA σ0 ρ0 σ ρ) : jPP (f_WR_decide (nI (jx i)) d σ) (f_MO_decide (nI i) d ρ) (fun a m b k => a = d ∧ b = d ∧ jWA σ0 ρ0 m k) := by
  unfold f_MO_decide
  refine .irp (by rw [h.1.2.1.2 11 (by decide) (by decide), hm]) (.fr (wr_decide hi h) ?_)
  intro a m _ k hp
  exact ⟨d, k, rfl, hp.1, rfl, hp.2⟩
/-! the reader -/
def jCr (σ ρ : jMem) : Prop := σ 13 2 = ρ 38 12 ∧ σ 13 3 = ρ 38 13 ∧ σ 13 4 = ρ 38 14
def jR (σ0 ρ0 σ ρ : jMem) : Prop := jK σ0 σ ∧ jKr ρ0 ρ ∧ jCx σ ρ ∧ (∃ n t, jCb σ ρ n ∧ t ≤ n ∧ σ 13 5 = nI t ∧ ρ 38 17 = nI t) ∧ jCr σ ρ
def jRA (σ0 ρ0 σ ρ : jMem) : Prop := jR σ0 ρ0 σ ρ ∧ ∃ A, 32768 ≤ A ∧ A < 65536 ∧ σ 13 2 = nI A
def jby (ρ : jMem) (n t : Nat) : Int32 := if n ≤ t then 255 else ρ 45 t
theorem br_at {σ ρ : jMem} {n t : Nat} (h : jCb σ ρ n) (ht : t ≤ 1000) : f_BR_at (nI t) σ = some (jby ρ n t, σ) := by
  obtain ⟨hn, h1, h2, h3⟩ := h
  unfold f_BR_at jby
  rw [h1]
  by_cases c : n ≤ t
  · rw [if_pos (nI_le c (by omega)), if_pos c]
  · rw [if_neg (nI_ge (by omega) (by omega)), if_neg c, jck_pos (nI_in (by omega) (by decide)), nI_clamp (by omega), h3 t (by omega)]
theorem mo_byteAt {σ ρ : jMem} {n t : Nat} (h : jCb σ ρ n) (ht : t ≤ 1000) : f_MO_byteAt (nI t) ρ = some (jby ρ n t, ρ) := by
  obtain ⟨hn, h1, h2, h3⟩ := h
  unfold f_MO_byteAt jby
  rw [h2]
  by_cases c : n ≤ t
  · rw [if_pos (nI_le c (by omega)), if_pos c]
  · rw [if_neg (nI_ge (by omega) (by omega)), if_neg c, jck_pos (nI_in (by omega) (by decide)), nI_clamp (by omega)]
theorem jshl (x : Int32) (s : Int32) (k : Nat) (m : Int32) (hs : ∀ y : BitVec 32, y <<< (s.toBitVec.smod 32) = y * m.toBitVec) : x <<< s = m * x := by
  apply Int32.toBitVec_inj.mp
  rw [Int32.toBitVec_shiftLeft, Int32.toBitVec_mul]
  show x.toBitVec <<< (s.toBitVec.smod 32) = _
  rw [hs, BitVec.mul_comm]
theorem jshl8 (x : Int32) : x <<< ((8 : Int32) &&& 31) = 256 * x := jshl x _ 8 256 (fun y => by
  show y <<< ((8 : Int32) &&& 31).toBitVec.smod 32 = _
  rw [show ((8 : Int32) &&& 31).toBitVec.smod 32 = 8#32 from by decide]
  apply BitVec.eq_of_toNat_eq
  simp [BitVec.toNat_shiftLeft, Nat.shiftLeft_eq, BitVec.toNat_mul])
theorem jshl9 (x : Int32) : x <<< ((9 : Int32) &&& 31) = 512 * x := jshl x _ 9 512 (fun y => by
  rw [show ((9 : Int32) &&& 31).toBitVec.smod 32 = 9#32 from by decide]
  apply BitVec.eq_of_toNat_eq
  simp [BitVec.toNat_shiftLeft, Nat.shiftLeft_eq, BitVec.toNat_mul])
theorem jshl16 (x : Int32) : x <<< ((16 : Int32) &&& 31) = 65536 * x := jshl x _ 16 65536 (fun y => by
  rw [show ((16 : Int32) &&& 31).toBitVec.smod 32 = 16#32 from by decide]
  apply BitVec.eq_of_toNat_eq
  simp [BitVec.toNat_shiftLeft, Nat.shiftLeft_eq, BitVec.toNat_mul])
theorem jR.n {σ0 ρ0 σ ρ : jMem} (h : jR σ0 ρ0 σ ρ) {C N : Int32} : jR σ0 ρ0 (ju (ju σ 13 3 C) 13 4 N) (ju (ju ρ 38 13 C) 38 14 N) := by
  obtain ⟨hK, hR, hx, ⟨n, t, hb, htn, ht, ht2⟩, h2, h3, h4⟩ := h
  refine ⟨(hK.u (by decide)).u (by decide), (hR.u (by decide)).u (by decide), hx.c (by funext i; simp [ju_ap]) (by funext i; simp [ju_ap]), ⟨n, t, hb.c (by funext i; simp [ju_ap]) (by funext i; simp [ju_ap]) (by simp [ju_ap]) (by funext i; simp [ju_ap]), htn, by simp [ju_ap, ht], by simp [ju_ap, ht2]⟩, ?_, ?_, ?_⟩
  all_goals simp [ju_ap, h2]
theorem jR.p {σ0 ρ0 σ ρ : jMem} {n t : Nat} (hb : jCb σ ρ n) (htn : t + 1 ≤ n) (h : jR σ0 ρ0 σ ρ) : jR σ0 ρ0 (ju σ 13 5 (nI (t + 1))) (ju ρ 38 17 (nI (t + 1))) := by
  obtain ⟨hK, hR, hx, -, h2, h3, h4⟩ := h
  refine ⟨hK.u (by decide), hR.u (by decide), hx.c (by funext i; simp [ju_ap]) (by funext i; simp [ju_ap]), ⟨n, t + 1, hb.c (by funext i; simp [ju_ap]) (by funext i; simp [ju_ap]) (by simp [ju_ap]) (by funext i; simp [ju_ap]), htn, by simp [ju_ap], by simp [ju_ap]⟩, ?_, ?_, ?_⟩
  all_goals simp [ju_ap, h2, h3, h4]
set_option maxHeartbeats 1000000 in
theorem rd_take {σ0 ρ0 σ ρ : jMem} (h : jR σ0 ρ0 σ ρ) : jPP (f_RD_takeByte σ) (f_MO_comeIn ρ) (fun _ m _ k => jR σ0 ρ0 m k ∧ m 13 2 = σ 13 2) := by
  have h0 := h
  obtain ⟨hK, hR, hx, ⟨n, t, hb, htn, ht, ht2⟩, h2, h3, h4⟩ := h0
  have hn := hb.1
  unfold f_RD_takeByte f_MO_comeIn
  rw [ht, ht2]
  refine .bl (br_at hb (by omega)) (.br (mo_byteAt hb (by omega)) ?_)
  rw [ht, ht2, nI_1]
  refine .bl (br_at hb (by omega)) ?_
  by_cases c1 : jby ρ n t = 255
  · refine .ipp c1 (.br (mo_byteAt hb (by omega)) ?_)
    by_cases c2 : jby ρ n (t + 1) ≤ 143
    · have hl : t + 1 < n := by
        apply Nat.lt_of_not_le
        intro q
        unfold jby at c2
        rw [if_pos q] at c2
        exact absurd c2 (by decide)
      refine .ipp c2 (.br (by rw [ht2]; exact mo_byteAt hb (by omega)) (.irp c1 ?_))
      rw [ht, ht2, nI_1]
      have hp := jR.p (t := t) hb (by omega) h
      have hb2 : jCb (ju σ 13 5 (nI (t + 1))) (ju ρ 38 17 (nI (t + 1))) n := hb.c (by funext i; simp [ju_ap]) (by funext i; simp [ju_ap]) (by simp [ju_ap]) (by funext i; simp [ju_ap])
      refine .br (mo_byteAt hb2 (by omega)) ?_
      have e1 : jby (ju ρ 38 17 (nI (t + 1))) n (t + 1) = jby ρ n (t + 1) := by unfold jby; simp [ju_ap]
      rw [e1, jshl9, h3]
      exact .ret ⟨hp.n, by simp [ju_ap]⟩
    · refine .inn c2 ?_
      rw [h3]
      exact .ret ⟨h.n, by simp [ju_ap]⟩
  · have hl : t < n := by
      apply Nat.lt_of_not_le
      intro q
      unfold jby at c1
      rw [if_pos q] at c1
      exact absurd rfl c1
    refine .inn c1 (.br (by exact mo_byteAt hb (by omega)) (.irn c1 ?_))
    rw [ht, ht2, nI_1]
    have hp := jR.p (t := t) hb (by omega) h
    have hb2 : jCb (ju σ 13 5 (nI (t + 1))) (ju ρ 38 17 (nI (t + 1))) n := hb.c (by funext i; simp [ju_ap]) (by funext i; simp [ju_ap]) (by simp [ju_ap]) (by funext i; simp [ju_ap])
    refine .br (mo_byteAt hb2 (by omega)) ?_
    have e1 : jby (ju ρ 38 17 (nI (t + 1))) n (t + 1) = jby ρ n (t + 1) := by unfold jby; simp [ju_ap]
    rw [e1, jshl8, h3]
    exact .ret ⟨hp.n, by simp [ju_ap]⟩
