/-! the reader's doublings and its decision -/
theorem jR.s {σ0 ρ0 σ ρ : jMem} (h : jR σ0 ρ0 σ ρ) {A C N : Int32} : jR σ0 ρ0 (ju (ju (ju σ 13 2 A) 13 3 C) 13 4 N) (ju (ju (ju ρ 38 12 A) 38 13 C) 38 14 N) := by
  obtain ⟨hK, hR, hx, ⟨n, t, hb, htn, ht, ht2⟩, h2, h3, h4⟩ := h
  refine ⟨((hK.u (by decide)).u (by decide)).u (by decide), ((hR.u (by decide)).u (by decide)).u (by decide), hx.c (by funext i; simp [ju_ap]) (by funext i; simp [ju_ap]), ⟨n, t, hb.c (by funext i; simp [ju_ap]) (by funext i; simp [ju_ap]) (by simp [ju_ap]) (by funext i; simp [ju_ap]), htn, by simp [ju_ap, ht], by simp [ju_ap, ht2]⟩, ?_, ?_, ?_⟩
  all_goals simp [ju_ap]
theorem rd_body {σ0 ρ0 σ ρ : jMem} {A : Nat} (h : jR σ0 ρ0 σ ρ) (hA : A < 2 ^ 31) (ha : σ 13 2 = nI A) {F : jMem → Option (Unit × jMem)} {G0 G1 : jMem → Option (Int32 × jMem)} {Q : Unit → jMem → Int32 → jMem → Prop} (hf : ∀ m k, jR σ0 ρ0 m k → m 13 2 = nI (2 * A) → jPP (F m) (if (32768 : Int32) ≤ nI (2 * A) then G0 k else G1 k) Q) : jPP (if (σ 13 4) = 0 then (jbd (f_RD_takeByte σ) (fun _ n29 => F (ju (ju (ju n29 13 2 ((n29 13 2) <<< ((1 : Int32) &&& 31))) 13 3 ((n29 13 3) <<< ((1 : Int32) &&& 31))) 13 4 ((n29 13 4) - (1 : Int32))))) else (F (ju (ju (ju σ 13 2 ((σ 13 2) <<< ((1 : Int32) &&& 31))) 13 3 ((σ 13 3) <<< ((1 : Int32) &&& 31))) 13 4 ((σ 13 4) - (1 : Int32))))) (if (ρ 38 14) = 0 then (jbd (f_MO_comeIn ρ) (fun _ n177 => if (32768 : Int32) ≤ ((n177 38 12) <<< ((1 : Int32) &&& 31)) then (G0 (ju (ju (ju n177 38 12 ((n177 38 12) <<< ((1 : Int32) &&& 31))) 38 13 ((n177 38 13) <<< ((1 : Int32) &&& 31))) 38 14 ((n177 38 14) - (1 : Int32)))) else (G1 (ju (ju (ju n177 38 12 ((n177 38 12) <<< ((1 : Int32) &&& 31))) 38 13 ((n177 38 13) <<< ((1 : Int32) &&& 31))) 38 14 ((n177 38 14) - (1 : Int32)))))) else (if (32768 : Int32) ≤ ((ρ 38 12) <<< ((1 : Int32) &&& 31)) then (G0 (ju (ju (ju ρ 38 12 ((ρ 38 12) <<< ((1 : Int32) &&& 31))) 38 13 ((ρ 38 13) <<< ((1 : Int32) &&& 31))) 38 14 ((ρ 38 14) - (1 : Int32)))) else (G1 (ju (ju (ju ρ 38 12 ((ρ 38 12) <<< ((1 : Int32) &&& 31))) 38 13 ((ρ 38 13) <<< ((1 : Int32) &&& 31))) 38 14 ((ρ 38 14) - (1 : Int32)))))) Q := by
  have go : ∀ m k, jR σ0 ρ0 m k → m 13 2 = nI A → jPP (F (ju (ju (ju m 13 2 ((m 13 2) <<< ((1 : Int32) &&& 31))) 13 3 ((m 13 3) <<< ((1 : Int32) &&& 31))) 13 4 ((m 13 4) - (1 : Int32)))) (if (32768 : Int32) ≤ ((k 38 12) <<< ((1 : Int32) &&& 31)) then (G0 (ju (ju (ju k 38 12 ((k 38 12) <<< ((1 : Int32) &&& 31))) 38 13 ((k 38 13) <<< ((1 : Int32) &&& 31))) 38 14 ((k 38 14) - (1 : Int32)))) else (G1 (ju (ju (ju k 38 12 ((k 38 12) <<< ((1 : Int32) &&& 31))) 38 13 ((k 38 13) <<< ((1 : Int32) &&& 31))) 38 14 ((k 38 14) - (1 : Int32))))) Q := by
    intro m k hr hm
    obtain ⟨r2, r3, r4⟩ := hr.2.2.2.2
    have hk : k 38 12 = nI A := r2 ▸ hm
    rw [r3, r4, hm, hk, jsh1 hA]
    exact hf _ _ hr.s (by simp [ju_ap])
  have h4 : σ 13 4 = ρ 38 14 := h.2.2.2.2.2.2
  by_cases c : ρ 38 14 = 0
  · refine .irp c (.ilp (h4.trans c) ?_)
    refine jPP.bd (rd_take h) ?_
    intro _ m _ k hm
    exact go m k hm.1 (hm.2.trans ha)
  · refine .irn c (.iln (fun q => c (h4.symm.trans q)) ?_)
    exact go σ ρ h ha
set_option maxHeartbeats 1000000 in
theorem rd_loop {σ0 ρ0 : jMem} {x1 x2 x3 x4 x5 : Int32} : ∀ t j A n m σ ρ, j + t = 15 → 2 ^ j ≤ A → A < 32768 → σ 13 2 = nI A → jR σ0 ρ0 σ ρ → jPP (f_RD_shiftIn_L2 (n + t + 2) (nI j) σ) (f_MO_read_L164 (m + t + 2) x1 x2 x3 x4 x5 1 ρ) (fun _ m b k => b = x4 ∧ jRA σ0 ρ0 m k) := by
  intro t
  induction t with
  | zero =>
    intro j A n m σ ρ hj hA
    have : j = 15 := by omega
    subst this
    intro h2
    exact absurd h2 (by have : 2 ^ 15 = 32768 := by decide
                        omega)
  | succ t ih =>
    intro j A n m σ ρ hj hA hB ha h
    rw [show n + (t + 1) + 2 = (n + t + 2) + 1 from by omega, show m + (t + 1) + 2 = (m + t + 2) + 1 from by omega]
    unfold f_RD_shiftIn_L2 f_MO_read_L164
    refine .iln (show ¬ nI 16 ≤ nI j from nI_ge (by omega) (by decide)) (.irn (by decide) ?_)
    have fin : ∀ p q, jR σ0 ρ0 p q → p 13 2 = nI (2 * A) → jPP (f_RD_shiftIn_L2 (n + t + 2) (nI j + 1) p) (if (32768 : Int32) ≤ nI (2 * A) then f_MO_read_L164 (m + t + 2) x1 x2 x3 x4 x5 0 q else f_MO_read_L164 (m + t + 2) x1 x2 x3 x4 x5 1 q) (fun _ m b k => b = x4 ∧ jRA σ0 ρ0 m k) := by
      intro p q hp hq
      rw [nI_1]
      by_cases c : 32768 ≤ 2 * A
      · refine .irp (show nI 32768 ≤ nI (2 * A) from nI_le c (by omega)) ?_
        rw [show m + t + 2 = (m + t + 1) + 1 from rfl, show n + t + 2 = (n + t + 1) + 1 from rfl]
        unfold f_RD_shiftIn_L2 f_MO_read_L164
        refine .irp rfl ?_
        by_cases c2 : (16 : Int32) ≤ nI (j + 1)
        · exact .ilp c2 (.ret ⟨rfl, hp, 2 * A, c, by omega, hq⟩)
        · refine .iln c2 (.iln (nI_ne0 (by omega) (by omega)) (.ilp ?_ (.ret ⟨rfl, hp, 2 * A, c, by omega, hq⟩)))
          rw [hq]
          exact (show nI 32768 ≤ nI (2 * A) from nI_le c (by omega))
      · refine .irn (show ¬ nI 32768 ≤ nI (2 * A) from nI_ge (by omega) (by omega)) ?_
        exact ih (j + 1) (2 * A) n m p q (by omega) (by rw [Nat.pow_succ]; omega) (by omega) hq hp
    have key := rd_body (F := f_RD_shiftIn_L2 (n + t + 2) (nI j + 1)) (G0 := f_MO_read_L164 (m + t + 2) x1 x2 x3 x4 x5 0) (G1 := f_MO_read_L164 (m + t + 2) x1 x2 x3 x4 x5 1) (A := A) h (by omega) ha fin
    by_cases c : nI j = 0
    · exact .ilp c key
    · refine .iln c (.iln ?_ key)
      rw [ha]
      exact (show ¬ nI 32768 ≤ nI A from nI_ge (by omega) (by omega))
theorem rd_shift {σ0 ρ0 σ ρ : jMem} {x1 x2 x3 x4 x5 : Int32} {A : Nat} (h1 : 1 ≤ A) (h2 : A < 32768) (ha : σ 13 2 = nI A) (h : jR σ0 ρ0 σ ρ) : jPP (f_RD_shiftIn σ) (f_MO_read_L164 jfu x1 x2 x3 x4 x5 1 ρ) (fun _ m b k => b = x4 ∧ jRA σ0 ρ0 m k) :=
  rd_loop (x1 := x1) (x2 := x2) (x3 := x3) 15 0 A 19983 19983 σ ρ rfl h1 h2 ha h
theorem jR.a {σ0 ρ0 σ ρ σ' ρ' : jMem} (h : jR σ0 ρ0 σ ρ) {A C : Int32} (hs : σ' = ju (ju σ 13 2 A) 13 3 C) (hr : ρ' = ju (ju ρ 38 12 A) 38 13 C) : jR σ0 ρ0 σ' ρ' := by
  subst hs hr
  obtain ⟨hK, hR, hx, ⟨n, t, hb, htn, ht, ht2⟩, h2, h3, h4⟩ := h
  refine ⟨(hK.u (by decide)).u (by decide), (hR.u (by decide)).u (by decide), hx.c (by funext i; simp [ju_ap]) (by funext i; simp [ju_ap]), ⟨n, t, hb.c (by funext i; simp [ju_ap]) (by funext i; simp [ju_ap]) (by simp [ju_ap]) (by funext i; simp [ju_ap]), htn, by simp [ju_ap, ht], by simp [ju_ap, ht2]⟩, ?_, ?_, ?_⟩
  all_goals simp [ju_ap, h4]
theorem jR.aa {σ0 ρ0 σ ρ : jMem} (h : jR σ0 ρ0 σ ρ) {A B : Int32} : jR σ0 ρ0 (ju (ju σ 13 2 A) 13 2 B) (ju (ju ρ 38 12 A) 38 12 B) := by
  obtain ⟨hK, hR, hx, ⟨n, t, hb, htn, ht, ht2⟩, h2, h3, h4⟩ := h
  refine ⟨(hK.u (by decide)).u (by decide), (hR.u (by decide)).u (by decide), hx.c (by funext i; simp [ju_ap]) (by funext i; simp [ju_ap]), ⟨n, t, hb.c (by funext i; simp [ju_ap]) (by funext i; simp [ju_ap]) (by simp [ju_ap]) (by funext i; simp [ju_ap]), htn, by simp [ju_ap, ht], by simp [ju_ap, ht2]⟩, ?_, ?_, ?_⟩
  all_goals simp [ju_ap, h3, h4]
theorem jR.cx {σ0 ρ0 σ ρ : jMem} (h : jR σ0 ρ0 σ ρ) {i k : Nat} (hi : i < 15883) (hk : k < 94) : jR σ0 ρ0 (ju σ 11 (jx i) (nI k)) (ju ρ 46 i (nI k)) := by
  obtain ⟨hK, hR, hx, ⟨n, t, hb, htn, ht, ht2⟩, h2, h3, h4⟩ := h
  refine ⟨hK.u (by decide), hR.v (by decide), hx.u hi hk, ⟨n, t, hb.c (by funext i; simp [ju_ap]) (by funext i; simp [ju_ap]) (by simp [ju_ap]) (by funext i; simp [ju_ap]), htn, by simp [ju_ap, ht], by simp [ju_ap, ht2]⟩, ?_, ?_, ?_⟩
  all_goals simp [ju_ap, h2, h3, h4]
theorem ju_com {σ : jMem} {a k b l : Nat} {v w : Int32} (h : a ≠ b) : ju (ju σ a k v) b l w = ju (ju σ b l w) a k v := by
  funext o i
  simp only [ju_ap]
  by_cases h1 : o = b
  · have h2 : o ≠ a := fun q => h (q.symm.trans h1)
    simp [h1, h2, h1 ▸ h2]
  · by_cases h2 : o = a <;> simp [h1, h2, h]
theorem rd_adsh {σ0 ρ0 σ ρ : jMem} {x1 x2 x3 x4 x5 d : Int32} {i v A : Nat} (hi : i < 15883) (hv : v < 94) (h : jR σ0 ρ0 σ ρ) (ha : σ 13 2 = nI A) (h1 : 1 ≤ A) (h2 : A < 32768) {x : Option (Unit × jMem)} {ρ' : jMem} (hx : x = some ((), ju σ 11 (jx i) (nI v))) (hy : ρ' = ju ρ 46 i (nI v)) (hd : x4 = d) : jPP (jbd x (fun _ n110 => jbd (f_RD_shiftIn n110) (fun _ n114 => some (d, n114)))) (f_MO_read_L164 jfu x1 x2 x3 x4 x5 (1 : Int32) ρ') (fun a m b k => a = b ∧ a = d ∧ jRA σ0 ρ0 m k) := by
  subst hy hd
  refine .bl hx (.fl (rd_shift h1 h2 (by simp [ju_ap, ha]) (h.cx hi hv)) ?_)
  intro _ m b k hp
  exact ⟨x4, m, rfl, hp.1.symm, rfl, hp.2⟩
theorem jl_not {k : Nat} (hk : k < 94) : (1 - jl k = 0 ∨ 1 - jl k = 1) := by
  rcases (jt_1 k hk).2.2.2.1 with h | h <;> rw [h] <;> decide
set_option maxHeartbeats 1000000 in
theorem rd_decide {σ0 ρ0 σ ρ : jMem} {i : Nat} {d : Int32} (hi : i < 15883) (h : jRA σ0 ρ0 σ ρ) : jPP (f_RD_decide (nI (jx i)) d σ) (f_MO_read (nI i) ρ) (fun a m b k => a = b ∧ (a = 0 ∨ a = 1) ∧ jRA σ0 ρ0 m k) := by
  obtain ⟨hw, A, hA1, hA2, ha⟩ := h
  obtain ⟨k, hk, k1, k2⟩ := hw.2.2.1 i hi
  obtain ⟨t1, t2, t3, t4, t5, t6, t7⟩ := jt_1 k hk
  have h12 : ρ 38 12 = nI A := hw.2.2.2.2.1 ▸ ha
  have h13 : σ 13 3 = ρ 38 13 := hw.2.2.2.2.2.1
  unfold f_RD_decide f_MO_read
  refine .bl (cx_sizeOf hi hk k2) (.bl (cx_likely hi hk k2) (.ckr (mx_in hi) (.ckr (mx_in hi) ?_)))
  rw [jcl (by omega), k1, jt_s, show nI k - nI k / 2 * 2 = jl k from rfl, ha, h12, h13, jshl16]
  generalize hQ : (jq k).toNatClampNeg = Q at t5 t6 t7
  have hs : nI A - jq k = nI (A - Q) := by rw [t7]; exact pk_sub (by omega)
  rw [hs]
  have nt := jl_not hk
  by_cases c3 : Q ≤ A - Q
  · refine .irp (by rw [t7]; exact nI_le c3 (by omega)) ?_
    by_cases c1 : jq k ≤ ((ρ 38 13).toUInt32 >>> ((16 : Int32).toUInt32 &&& Int32.toUInt32 31)).toInt32
    · refine .ipp c1 ?_
      by_cases c2 : A - Q < 32768
      · refine .ipp (show nI (A - Q) < nI 32768 from nI_lt c2 (by decide)) (.iln (by rw [t7]; exact nI_nlt c3 (by omega)) ?_)
        refine .br (mo_usual hi hk (by simp [ju_ap, k1])) (.mono (rd_adsh (A := A - Q) hi (jt_2 k hk).1 (hw.a rfl rfl) (by simp [ju_ap]) (by omega) (by omega) (cx_adapt1 hi hk (by simp [ju_ap, k2])) rfl rfl) ?_)
        intro a m b q hp
        exact ⟨hp.1, hp.2.1 ▸ t4, hp.2.2⟩
      · exact .inn (show ¬ nI (A - Q) < nI 32768 from nI_nlt (by omega) (by omega)) (.ret ⟨rfl, t4, hw.a rfl rfl, A - Q, by omega, by omega, by simp [ju_ap]⟩)
    · refine .inn c1 (.ilp (by rw [t7]; exact nI_le c3 (by omega)) ?_)
      refine .br (mo_wrong hi hk (by simp [ju_ap, k1])) (.mono (rd_adsh (A := Q) hi (jt_3 k hk).1 hw.aa (by simp [ju_ap]; exact t7) (by omega) (by omega) (cx_adapt0 hi hk (by simp [ju_ap, k2])) (ju_com (by decide)) rfl) ?_)
      intro a m b q hp
      exact ⟨hp.1, hp.2.1 ▸ nt, hp.2.2⟩
  · refine .irn (by rw [t7]; exact nI_ge (by omega) (by omega)) ?_
    by_cases c1 : jq k ≤ ((ρ 38 13).toUInt32 >>> ((16 : Int32).toUInt32 &&& Int32.toUInt32 31)).toInt32
    · refine .ipp c1 ?_
      by_cases c2 : A - Q < 32768
      · refine .ipp (show nI (A - Q) < nI 32768 from nI_lt c2 (by decide)) (.ilp (by rw [t7]; exact nI_lt (by omega) (by omega)) ?_)
        refine .br (mo_wrong hi hk (by simp [ju_ap, k1])) (.mono (rd_adsh (A := A - Q) hi (jt_3 k hk).1 (hw.a rfl rfl) (by simp [ju_ap]) (by omega) (by omega) (cx_adapt0 hi hk (by simp [ju_ap, k2])) rfl rfl) ?_)
        intro a m b q hp
        exact ⟨hp.1, hp.2.1 ▸ nt, hp.2.2⟩
      · exact .inn (show ¬ nI (A - Q) < nI 32768 from nI_nlt (by omega) (by omega)) (.ret ⟨rfl, t4, hw.a rfl rfl, A - Q, by omega, by omega, by simp [ju_ap]⟩)
    · refine .inn c1 (.iln (by rw [t7]; exact nI_ge (by omega) (by omega)) ?_)
      refine .br (mo_usual hi hk (by simp [ju_ap, k1])) (.mono (rd_adsh (A := Q) hi (jt_2 k hk).1 hw.aa (by simp [ju_ap]; exact t7) (by omega) (by omega) (cx_adapt1 hi hk (by simp [ju_ap, k2])) (ju_com (by decide)) rfl) ?_)
      intro a m b q hp
      exact ⟨hp.1, hp.2.1 ▸ t4, hp.2.2⟩
theorem dec_R {σ0 ρ0 σ ρ : jMem} {i : Nat} {d e : Int32} (hi : i < 15883) (hm : ρ0 38 11 = 2) (h : jRA σ0 ρ0 σ ρ) : jPP (f_RD_decide (nI (jx i)) d σ) (f_MO_decide (nI i) e ρ) (fun a m b k => a = b ∧ (a = 0 ∨ a = 1) ∧ jRA σ0 ρ0 m k) := by
  unfold f_MO_decide
  refine .irn (by rw [h.1.2.1.2 11 (by decide) (by decide), hm]; decide) (.fr (rd_decide hi h) ?_)
  intro a m b k hp
  exact ⟨b, k, rfl, hp⟩
