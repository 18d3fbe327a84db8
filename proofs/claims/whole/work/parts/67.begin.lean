/-! begin -/
theorem ju_id {σ : jMem} {o k : Nat} {v : Int32} (h : σ o k = v) : ju σ o k v = σ := by
  funext a b
  rw [ju_ap]
  by_cases h1 : a = o
  · subst h1
    by_cases h2 : b = k
    · subst h2; rw [if_pos rfl, if_pos rfl, h]
    · rw [if_pos rfl, if_neg h2]
  · rw [if_neg h1]
theorem rd_take0 {σ ρ : jMem} {n : Nat} (hb : jCb σ ρ n) (ht : σ 13 5 = nI 0) (ht2 : ρ 38 17 = nI 0) (h3 : σ 13 3 = ρ 38 13) : ∃ T C N, T ≤ n ∧ f_RD_takeByte σ = some ((), ju (ju (ju σ 13 5 (nI T)) 13 3 C) 13 4 N) ∧ f_MO_comeIn ρ = some ((), ju (ju (ju ρ 38 17 (nI T)) 38 13 C) 38 14 N) := by
  have hn := hb.1
  unfold f_RD_takeByte f_MO_comeIn
  rw [ht, ht2, jbd_eq (br_at hb (by omega)), jbd_eq (mo_byteAt hb (by omega)), ht, ht2, nI_1, jbd_eq (br_at hb (by omega)), h3, ht]
  by_cases c1 : jby ρ n 0 = 255
  · rw [if_pos c1, if_pos c1, jbd_eq (mo_byteAt hb (by omega))]
    by_cases c2 : jby ρ n 1 ≤ 143
    · have hl : 1 < n := by
        apply Nat.lt_of_not_le
        intro q
        unfold jby at c2
        rw [if_pos q] at c2
        exact absurd c2 (by decide)
      have hb2 : jCb σ (ju ρ 38 17 (nI 1)) n := hb.c rfl rfl (by simp [ju_ap]) (by funext i; simp [ju_ap])
      have e1 : jby (ju ρ 38 17 (nI 1)) n 1 = jby ρ n 1 := by unfold jby; simp [ju_ap]
      rw [if_pos c2, if_pos c2, ht2, jbd_eq (mo_byteAt hb (by omega)), if_pos c1, ht2, nI_1, jbd_eq (mo_byteAt hb2 (by omega)), e1, jshl9]
      exact ⟨1, _, _, by omega, rfl, rfl⟩
    · rw [if_neg c2, if_neg c2]
      refine ⟨0, ρ 38 13 + 65280, 8, by omega, ?_, ?_⟩
      · rw [ju_id ht]
      · rw [ju_id ht2]
  · have hl : 0 < n := by
      apply Nat.lt_of_not_le
      intro q
      unfold jby at c1
      rw [if_pos q] at c1
      exact absurd rfl c1
    have hb2 : jCb σ (ju ρ 38 17 (nI 1)) n := hb.c rfl rfl (by simp [ju_ap]) (by funext i; simp [ju_ap])
    have e1 : jby (ju ρ 38 17 (nI 1)) n 1 = jby ρ n 1 := by unfold jby; simp [ju_ap]
    rw [if_neg c1, if_neg c1, jbd_eq (mo_byteAt hb (by omega)), if_neg c1, ht2, nI_1, jbd_eq (mo_byteAt hb2 (by omega)), e1, jshl8]
    exact ⟨1, _, _, by omega, rfl, rfl⟩
theorem fill11_L {v : Int32} : ∀ t i n σ, i + t = 15884 → ∃ m, f_AR_fill_11_L5 (n + t + 1) v (nI i) 15884 σ = some ((), m) ∧ (∀ o, o ≠ 11 → m o = σ o) ∧ (∀ j, j < i → m 11 j = σ 11 j) ∧ (∀ j, i ≤ j → j < 15884 → m 11 j = v) := by
  intro t
  induction t with
  | zero =>
    intro i n σ hi
    unfold f_AR_fill_11_L5
    rw [if_pos (show (15884 : Int32) ≤ nI i from nI_le (a := 15884) (by omega) (by omega))]
    exact ⟨σ, rfl, fun _ _ => rfl, fun _ _ => rfl, fun j h1 h2 => by omega⟩
  | succ t ih =>
    intro i n σ hi
    rw [show n + (t + 1) + 1 = (n + t + 1) + 1 from by omega]
    unfold f_AR_fill_11_L5
    rw [if_neg (show ¬ (15884 : Int32) ≤ nI i from nI_ge (b := 15884) (by omega) (by omega)), jck_pos (nI_in (by omega) (by decide)), nI_clamp (by omega), nI_1]
    obtain ⟨m, h1, h2, h3, h4⟩ := ih (i + 1) n (ju σ 11 i v) (by omega)
    refine ⟨m, h1, fun o ho => (h2 o ho).trans (ju_n ho), fun j hj => ?_, fun j h5 h6 => ?_⟩
    · rw [h3 j (by omega), ju_ap, if_pos rfl, if_neg (by omega)]
    · rcases Nat.eq_or_lt_of_le h5 with e | e
      · subst e; rw [h3 i (by omega), ju_ap, if_pos rfl, if_pos rfl]
      · exact h4 j (by omega) h6
theorem beg_L {x1 : Int32} : ∀ t i n ρ, i + t = 15883 → ∃ k, f_MO_begin_L7 (n + t + 1) x1 (nI i) ρ = f_MO_begin_L7 (n + 1) x1 (nI 15883) k ∧ (∀ o, o ≠ 46 → k o = ρ o) ∧ (∀ j, j < i → k 46 j = ρ 46 j) ∧ (∀ j, i ≤ j → j < 15883 → k 46 j = 0) := by
  intro t
  induction t with
  | zero =>
    intro i n ρ hi
    have : i = 15883 := by omega
    subst this
    exact ⟨ρ, rfl, fun _ _ => rfl, fun _ _ => rfl, fun j h1 h2 => by omega⟩
  | succ t ih =>
    intro i n ρ hi
    obtain ⟨k, h1, h2, h3, h4⟩ := ih (i + 1) n (ju ρ 46 i 0) (by omega)
    refine ⟨k, ?_, fun o ho => (h2 o ho).trans (ju_n ho), fun j hj => ?_, fun j h5 h6 => ?_⟩
    · rw [← h1, show n + (t + 1) + 1 = (n + t + 1) + 1 from by omega, f_MO_begin_L7, if_neg (show ¬ (15883 : Int32) ≤ nI i from nI_ge (b := 15883) (by omega) (by omega)), jck_pos (nI_in (by omega) (by decide)), nI_clamp (by omega), nI_1]
    · rw [h3 j (by omega), ju_ap, if_pos rfl, if_neg (by omega)]
    · rcases Nat.eq_or_lt_of_le h5 with e | e
      · subst e; rw [h3 i (by omega), ju_ap, if_pos rfl, if_pos rfl]
      · exact h4 j (by omega) h6
/-- a new mode: what the coder does not touch is as before -/
theorem jGl.mode {md S M md' : Nat} {σ ρ σ' ρ' : jMem} (h : jGl md S M σ ρ) (hmd : md' ≤ 2) (e1 : σ' 0 7 = nI md') (e2 : ρ' 38 11 = nI md') (hb : ∃ n, jCb σ' ρ' n) (hw : md' = 1 → jD true σ' ρ' σ' ρ') (hr : md' = 2 → jD false σ' ρ' σ' ρ') (hc : ∀ o, o < 38 → o ≠ 0 → o ≠ 8 → o ≠ 9 → o ≠ 11 → o ≠ 12 → o ≠ 13 → σ' o = σ o) (h38 : ∀ k, k = 4 ∨ k = 5 → ρ' 38 k = ρ 38 k) (hr2 : ∀ o, 39 ≤ o → o ≤ 44 → ρ' o = ρ o) : jGl md' S M σ' ρ' := by
  obtain ⟨h1, h2, h3, -, -, h6, h7, h8⟩ := h
  have hS := h2.1
  refine ⟨⟨hmd, e1, e2⟩, ?_, ?_, hb, ⟨hw, hr⟩, ?_, ?_, ?_⟩
  · rw [hc 2 (by decide) (by decide) (by decide) (by decide) (by decide) (by decide) (by decide), h38 4 (by decide)]; exact h2
  · rw [hc 4 (by decide) (by decide) (by decide) (by decide) (by decide) (by decide) (by decide), h38 5 (by decide)]; exact h3
  · intro p hp
    obtain ⟨W, H, q⟩ := h6 p hp
    exact ⟨W, H, q.o (fun o h1 h2 => hc o h2 (by omega) (by omega) (by omega) (by omega) (by omega) (by omega)) (by omega) (hr2 39 (by decide) (by decide)) (hr2 40 (by decide) (by decide)) (hr2 41 (by decide) (by decide))⟩
  · rw [hc 5 (by decide) (by decide) (by decide) (by decide) (by decide) (by decide) (by decide)]; exact h7
  · unfold jMk
    rw [hc 5 (by decide) (by decide) (by decide) (by decide) (by decide) (by decide) (by decide), hc 6 (by decide) (by decide) (by decide) (by decide) (by decide) (by decide) (by decide), hc 7 (by decide) (by decide) (by decide) (by decide) (by decide) (by decide) (by decide), hr2 42 (by decide) (by decide), hr2 43 (by decide) (by decide), hr2 44 (by decide) (by decide)]
    exact h8
theorem jFr.x {σ0 ρ0 σ ρ m k : jMem} (h : jFr σ0 ρ0 σ ρ) (h1 : ∀ o, 38 ≤ o → m o = σ o) (h2 : ∀ o, o < 38 ∨ 47 ≤ o → k o = ρ o) : jFr σ0 ρ0 m k := ⟨fun o ho => (h1 o ho).trans (h.1 o ho), fun o ho => (h2 o ho).trans (h.2 o ho)⟩
theorem m_begin {md S M : Nat} {σ ρ : jMem} (h : jGl md S M σ ρ) (x1 : Int32) : jPP (f_IC_begin x1 σ) (f_MO_begin x1 ρ) (fun _ m _ k => jXX σ ρ m k) := by
  unfold f_IC_begin f_MO_begin f_CX_renew f_AR_fill_11
  obtain ⟨m, m1, m2, m3, m4⟩ := fill11_L (v := 0) 15884 0 4115 σ (by decide)
  obtain ⟨k, k1, k2, k3, k4⟩ := beg_L (x1 := x1) 15883 0 4116 (ju ρ 38 0 0) (by decide)
  rw [show f_AR_fill_11_L5 jfu 0 0 15884 σ = some ((), m) from m1, show f_MO_begin_L7 jfu x1 0 (ju ρ 38 0 0) = f_MO_begin_L7 (4116 + 1) x1 (nI 15883) k from k1]
  have hx : jCx m k := by
    intro i hi
    exact ⟨0, by decide, k4 i (by omega) hi, m4 (jx i) (by omega) (jx_lt hi)⟩
  obtain ⟨n, hb⟩ := (h.th 0).2.2.2.1
  have hb1 : jCb m k n := hb.c (m2 8 (by decide)) (m2 9 (by decide)) (by rw [k2 38 (by decide)]) (k2 45 (by decide))
  have hg : jGl 0 S M (ju m 0 7 0) (ju k 38 11 0) := by
    refine (h.th 0).mode (by decide) (by simp [ju_ap]; rfl) (by simp [ju_ap]; rfl) ⟨n, hb1.c (by funext i; simp [ju_ap]) (by funext i; simp [ju_ap]) (by simp [ju_ap]) (by funext i; simp [ju_ap])⟩ (fun q => absurd q (by decide)) (fun q => absurd q (by decide)) ?_ ?_ ?_
    · intro o _ h0 _ _ h11 _ _; rw [ju_n h0, m2 o h11]
    · rintro j (rfl | rfl) <;> rw [ju_ap, if_pos rfl, if_neg (by decide), k2 38 (by decide)]
    · intro o h1 h2; rw [ju_n (by omega), k2 o (by omega)]
  have hf : jFr σ ρ m k := ((jFr.r σ ρ).th (k := 0) (v := 0) (o := 38) (by decide)).x (fun o ho => m2 o (by omega)) (fun o ho => k2 o (by omega))
  rw [jbd_eq rfl, jbd_eq rfl, f_MO_begin_L7, if_pos (show (15883 : Int32) ≤ nI 15883 from by decide)]
  by_cases c : x1 = 0
  · simp only [if_pos c]
    unfold f_RD_start
    have b1 : jCb (ju m 13 5 0) (ju (ju (ju k 38 12 32768) 38 11 2) 38 17 0) n := hb1.c (by funext i; simp [ju_ap]) (by funext i; simp [ju_ap]) (by simp [ju_ap]) (by funext i; simp [ju_ap])
    rw [show (0 : Int32) = nI 0 from rfl] at b1 ⊢
    rw [jbd_eq (br_at b1 (by decide)), jbd_eq (mo_byteAt b1 (by decide)), jshl16]
    generalize jby _ n 0 = B
    have b2 : jCb (ju (ju m 13 5 (nI 0)) 13 3 (65536 * B)) (ju (ju (ju (ju k 38 12 32768) 38 11 2) 38 17 (nI 0)) 38 13 (65536 * B)) n := b1.c (by funext i; simp [ju_ap]) (by funext i; simp [ju_ap]) (by simp [ju_ap]) (by funext i; simp [ju_ap])
    obtain ⟨T, C, N, hT, t1, t2⟩ := rd_take0 b2 (by simp [ju_ap]) (by simp [ju_ap]) (by simp [ju_ap])
    rw [jbd_eq t1, jbd_eq t2, jbd_eq rfl]
    refine .ret ⟨⟨2, S, M, ?_⟩, ?_⟩
    · have b3 : jCb (ju (ju (ju (ju (ju (ju (ju (ju (ju m 13 5 (nI 0)) 13 3 (65536 * B)) 13 5 (nI T)) 13 3 C) 13 4 N) 13 3 (C <<< ((7 : Int32) &&& 31))) 13 4 (N - 7)) 13 2 32768) 0 7 2) (ju (ju (ju (ju (ju (ju (ju (ju (ju k 38 12 32768) 38 11 2) 38 17 (nI 0)) 38 13 (65536 * B)) 38 17 (nI T)) 38 13 C) 38 14 N) 38 13 (C <<< ((7 : Int32) &&& 31))) 38 14 (N - 7)) n := hb1.c (by funext i; simp [ju_ap]) (by funext i; simp [ju_ap]) (by simp [ju_ap]) (by funext i; simp [ju_ap])
      refine hg.mode (by decide) ?_ ?_ ⟨n, ?_⟩ (fun q => absurd q (by decide)) (fun _ => ⟨⟨.r _, .r _, ?_, ⟨n, T, ?_, hT, ?_, ?_⟩, ?_, ?_, ?_⟩, ?_⟩) ?_ ?_ ?_
      · simp [ju_ap]; rfl
      · simp [ju_ap]; rfl
      · exact hb1.c (by funext i; simp [ju_ap]) (by funext i; simp [ju_ap]) (by simp [ju_ap]) (by funext i; simp [ju_ap])
      · exact hx.c (by funext i; simp [ju_ap]) (by funext i; simp [ju_ap])
      · exact hb1.c (by funext i; simp [ju_ap]) (by funext i; simp [ju_ap]) (by simp [ju_ap]) (by funext i; simp [ju_ap])
      · simp [ju_ap]
      · simp [ju_ap]
      · simp [ju_ap]
      · simp [ju_ap]
      · simp [ju_ap]
      · exact ⟨32768, by decide, by decide, by simp [ju_ap]; rfl⟩
      · intro o _ h0 _ _ _ _ h13; simp [ju, h0, h13]
      · rintro j (rfl | rfl) <;> simp [ju_ap]
      · intro o h1 h2; have : o ≠ 38 := by omega
        simp [ju, this]
    · exact hf.x (fun o ho => by have h0 : o ≠ 0 := by omega
                                 have h13 : o ≠ 13 := by omega
                                 simp [ju, h0, h13]) (fun o ho => by have h0 : o ≠ 38 := by omega
                                                                     simp [ju, h0])
  · simp only [if_neg c]
    unfold f_WR_start
    rw [jbd_eq rfl]
    refine .ret ⟨⟨1, S, M, ?_⟩, ?_⟩
    · have b0 : ∀ i, i < 600 → m 9 i = k 45 i := hb1.2.2.2
      refine hg.mode (by decide) ?_ ?_ ⟨0, by decide, ?_, ?_, ?_⟩ (fun _ => ⟨⟨.r _, .r _, ?_, ⟨0, ⟨by decide, ?_, ?_, ?_⟩, Or.inl ⟨?_, ?_⟩⟩, ?_, ?_, ?_, ?_⟩, ?_⟩) (fun q => absurd q (by decide)) ?_ ?_ ?_
      · simp [ju_ap]; rfl
      · simp [ju_ap]; rfl
      · simp [ju_ap]; rfl
      · simp [ju_ap]; rfl
      · intro i hi; simp [ju_ap, b0 i hi]
      · exact hx.c (by funext i; simp [ju_ap]) (by funext i; simp [ju_ap])
      · simp [ju_ap]; rfl
      · simp [ju_ap]; rfl
      · intro i hi; simp [ju_ap, b0 i hi]
      · simp [ju_ap]
      · simp [ju_ap]
      · simp [ju_ap]
      · simp [ju_ap]
      · simp [ju_ap]
      · simp [ju_ap]
      · exact ⟨32768, by decide, by decide, by simp [ju_ap]; rfl⟩
      · intro o _ h0 h8 _ _ h12 _; simp [ju, h0, h8, h12]
      · rintro j (rfl | rfl) <;> simp [ju_ap]
      · intro o h1 h2; have : o ≠ 38 := by omega
        simp [ju, this]
    · exact hf.x (fun o ho => by have h0 : o ≠ 0 := by omega
                                 have h8 : o ≠ 8 := by omega
                                 have h12 : o ≠ 12 := by omega
                                 simp [ju, h0, h8, h12]) (fun o ho => by have h0 : o ≠ 38 := by omega
                                                                         simp [ju, h0])
