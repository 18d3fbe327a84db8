/-! the whole state: class beside reference -/
theorem jD.g {w : Bool} {σ0 ρ0 σ ρ σ' ρ' : jMem} (h : jD w σ0 ρ0 σ ρ) (e8 : σ' 8 = σ 8) (e9 : σ' 9 = σ 9) (e11 : σ' 11 = σ 11) (e12 : σ' 12 = σ 12) (e13 : σ' 13 = σ 13) (r38 : ∀ k, k = 9 ∨ (12 ≤ k ∧ k ≤ 17) → ρ' 38 k = ρ 38 k) (r45 : ρ' 45 = ρ 45) (r46 : ρ' 46 = ρ 46) : jD w σ' ρ' σ' ρ' := by
  have k9 := r38 9 (by decide)
  have k12 := r38 12 (by decide)
  have k13 := r38 13 (by decide)
  have k14 := r38 14 (by decide)
  have k15 := r38 15 (by decide)
  have k16 := r38 16 (by decide)
  have k17 := r38 17 (by decide)
  cases w with
  | true =>
    obtain ⟨⟨-, -, hx, ⟨n, hb, ht⟩, hw⟩, hA⟩ := h
    refine ⟨⟨.r _, .r _, hx.c e11 r46, ⟨n, hb.c e8 e9 k9 r45, ?_⟩, ?_⟩, ?_⟩
    · unfold jCt; rw [e12, k16]; exact ht
    · unfold jCw; rw [e12, k12, k13, k14, k15]; exact hw
    · rw [e12]; exact hA
  | false =>
    obtain ⟨⟨-, -, hx, ⟨n, t, hb, htn, ht, ht2⟩, hw⟩, hA⟩ := h
    refine ⟨⟨.r _, .r _, hx.c e11 r46, ⟨n, t, hb.c e8 e9 k9 r45, htn, by rw [e13]; exact ht, by rw [k17]; exact ht2⟩, ?_⟩, ?_⟩
    · unfold jCr; rw [e13, k12, k13, k14]; exact hw
    · rw [e13]; exact hA
theorem jD.cb {w : Bool} {σ0 ρ0 σ ρ : jMem} (h : jD w σ0 ρ0 σ ρ) : ∃ n, jCb σ ρ n := by
  cases w with
  | true => obtain ⟨⟨-, -, -, ⟨n, hb, -⟩, -⟩, -⟩ := h; exact ⟨n, hb⟩
  | false => obtain ⟨⟨-, -, -, ⟨n, t, hb, -⟩, -⟩, -⟩ := h; exact ⟨n, hb⟩
def jMk (S : Nat) (σ ρ : jMem) (k : Nat) : Prop := ∃ (v : Nat) (s t : Int), v < S ∧ (-1000 ≤ s ∧ s ≤ 1000) ∧ (-100 ≤ t ∧ t ≤ 100) ∧ σ 5 k = nI v ∧ ρ 42 k = nI v ∧ σ 6 k = iI s ∧ ρ 43 k = iI s ∧ σ 7 k = iI t ∧ ρ 44 k = iI t
def jGl (md S M : Nat) (σ ρ : jMem) : Prop := (md ≤ 2 ∧ σ 0 7 = nI md ∧ ρ 38 11 = nI md) ∧ (S ≤ 8 ∧ σ 2 1 = nI S ∧ ρ 38 4 = nI S) ∧ (M ≤ 12 ∧ σ 4 3 = nI M ∧ ρ 38 5 = nI M) ∧ (∃ n, jCb σ ρ n) ∧ ((md = 1 → jD true σ ρ σ ρ) ∧ (md = 2 → jD false σ ρ σ ρ)) ∧ (∀ p, p < 4 + S → ∃ W H, jP σ ρ p W H) ∧ (∀ k, k < 12 → ∃ v, v < 8 ∧ σ 5 k = nI v) ∧ (∀ k, k < M → jMk S σ ρ k)
def jFr (σ0 ρ0 σ ρ : jMem) : Prop := (∀ o, 38 ≤ o → σ o = σ0 o) ∧ (∀ o, o < 38 ∨ 47 ≤ o → ρ o = ρ0 o)
def jXX (σ0 ρ0 σ ρ : jMem) : Prop := (∃ md S M, jGl md S M σ ρ) ∧ jFr σ0 ρ0 σ ρ
theorem jFr.r (σ ρ : jMem) : jFr σ ρ σ ρ := ⟨fun _ _ => rfl, fun _ _ => rfl⟩
theorem jGl.c {md S M : Nat} {σ ρ σ' ρ' : jMem} (h : jGl md S M σ ρ) (hc : ∀ o, o < 38 → σ' o = σ o) (hr : ∀ o, 38 ≤ o → o < 47 → ρ' o = ρ o) : jGl md S M σ' ρ' := by
  obtain ⟨h1, h2, h3, ⟨n, h4⟩, ⟨h5, h5'⟩, h6, h7, h8⟩ := h
  have hd : ∀ w, jD w σ ρ σ ρ → jD w σ' ρ' σ' ρ' := fun w h => h.c (hc 8 (by decide)) (hc 9 (by decide)) (hc 11 (by decide)) (hc 12 (by decide)) (hc 13 (by decide)) (hr 38 (by decide) (by decide)) (hr 45 (by decide) (by decide)) (hr 46 (by decide) (by decide))
  refine ⟨?_, ?_, ?_, ⟨n, h4.c (hc 8 (by decide)) (hc 9 (by decide)) (by rw [hr 38 (by decide) (by decide)]) (hr 45 (by decide) (by decide))⟩, ⟨fun q => hd _ (h5 q), fun q => hd _ (h5' q)⟩, ?_, ?_, ?_⟩
  · rw [hc 0 (by decide), hr 38 (by decide) (by decide)]; exact h1
  · rw [hc 2 (by decide), hr 38 (by decide) (by decide)]; exact h2
  · rw [hc 4 (by decide), hr 38 (by decide) (by decide)]; exact h3
  · intro p hp
    obtain ⟨W, H, q⟩ := h6 p hp
    have := h2.1
    exact ⟨W, H, q.c (hc _ (by omega)) (hc _ (by omega)) (fun y _ => by rw [hr 39 (by decide) (by decide)]) (by rw [hr 40 (by decide) (by decide)]) (by rw [hr 41 (by decide) (by decide)])⟩
  · rw [hc 5 (by decide)]; exact h7
  · unfold jMk
    rw [hc 5 (by decide), hc 6 (by decide), hc 7 (by decide), hr 42 (by decide) (by decide), hr 43 (by decide) (by decide), hr 44 (by decide) (by decide)]
    exact h8
/-- only pictures (and what is thrown) have changed -/
theorem jGl.pic {md S M : Nat} {σ ρ σ' ρ' : jMem} (h : jGl md S M σ ρ) (hc : ∀ o, o < 14 → σ' o = σ o) (h38 : ∀ k, 1 ≤ k → k ≤ 17 → ρ' 38 k = ρ 38 k) (hr : ∀ o, 42 ≤ o → o ≤ 46 → ρ' o = ρ o) (hp : ∀ p, p < 4 + S → ∃ W H, jP σ' ρ' p W H) : jGl md S M σ' ρ' := by
  obtain ⟨h1, h2, h3, ⟨n, h4⟩, ⟨h5, h5'⟩, h6, h7, h8⟩ := h
  have hd : ∀ w, jD w σ ρ σ ρ → jD w σ' ρ' σ' ρ' := fun w h => h.g (hc 8 (by decide)) (hc 9 (by decide)) (hc 11 (by decide)) (hc 12 (by decide)) (hc 13 (by decide)) (fun k hk => h38 k (by omega) (by omega)) (hr 45 (by decide) (by decide)) (hr 46 (by decide) (by decide))
  refine ⟨?_, ?_, ?_, ⟨n, h4.c (hc 8 (by decide)) (hc 9 (by decide)) (h38 9 (by decide) (by decide)) (hr 45 (by decide) (by decide))⟩, ⟨fun q => hd _ (h5 q), fun q => hd _ (h5' q)⟩, hp, ?_, ?_⟩
  · rw [hc 0 (by decide), h38 11 (by decide) (by decide)]; exact h1
  · rw [hc 2 (by decide), h38 4 (by decide) (by decide)]; exact h2
  · rw [hc 4 (by decide), h38 5 (by decide) (by decide)]; exact h3
  · rw [hc 5 (by decide)]; exact h7
  · unfold jMk
    rw [hc 5 (by decide), hc 6 (by decide), hc 7 (by decide), hr 42 (by decide) (by decide), hr 43 (by decide) (by decide), hr 44 (by decide) (by decide)]
    exact h8
/-- the coder has run -/
theorem jGl.cod {w : Bool} {md S M : Nat} {σ ρ σ' ρ' : jMem} (h : jGl md S M σ ρ) (hmd : md = if w then 1 else 2) (hD : jD w σ' ρ' σ' ρ') (hc : ∀ o, o < 14 → o ≠ 8 → o ≠ 9 → o ≠ 11 → o ≠ 12 → o ≠ 13 → σ' o = σ o) (h38 : ∀ k, k = 4 ∨ k = 5 ∨ k = 11 → ρ' 38 k = ρ 38 k) (hr : ∀ o, 42 ≤ o → o ≤ 44 → ρ' o = ρ o) (hp : ∀ p, p < 4 + S → ∃ W H, jP σ' ρ' p W H) : jGl md S M σ' ρ' := by
  obtain ⟨h1, h2, h3, -, -, h6, h7, h8⟩ := h
  refine ⟨?_, ?_, ?_, hD.cb, ⟨?_, ?_⟩, hp, ?_, ?_⟩
  · rw [hc 0 (by decide) (by decide) (by decide) (by decide) (by decide) (by decide), h38 11 (by decide)]; exact h1
  · rw [hc 2 (by decide) (by decide) (by decide) (by decide) (by decide) (by decide), h38 4 (by decide)]; exact h2
  · rw [hc 4 (by decide) (by decide) (by decide) (by decide) (by decide) (by decide), h38 5 (by decide)]; exact h3
  · intro q; cases w
    · simp at hmd; omega
    · exact hD
  · intro q; cases w
    · exact hD
    · simp at hmd; omega
  · rw [hc 5 (by decide) (by decide) (by decide) (by decide) (by decide) (by decide)]; exact h7
  · unfold jMk
    rw [hc 5 (by decide) (by decide) (by decide) (by decide) (by decide) (by decide), hc 6 (by decide) (by decide) (by decide) (by decide) (by decide) (by decide), hc 7 (by decide) (by decide) (by decide) (by decide) (by decide) (by decide), hr 42 (by decide) (by decide), hr 43 (by decide) (by decide), hr 44 (by decide) (by decide)]
    exact h8
theorem jP.o {σ ρ σ' ρ' : jMem} {p W H : Nat} (h : jP σ ρ p W H) (hc : ∀ o, 14 ≤ o → o < 38 → σ' o = σ o) (hp : p < 12) (h3 : ρ' 39 = ρ 39) (h4 : ρ' 40 = ρ 40) (h5 : ρ' 41 = ρ 41) : jP σ' ρ' p W H := h.c (hc _ (by omega) (by omega)) (hc _ (by omega) (by omega)) (fun _ _ => by rw [h3]) (by rw [h4]) (by rw [h5])
/-- thrown is told -/
theorem jGl.th {md S M : Nat} {σ ρ : jMem} (h : jGl md S M σ ρ) (v : Int32) : jGl md S M σ (ju ρ 38 0 v) := by
  have hS := h.2.1.1
  refine h.pic (fun _ _ => rfl) (fun k h1 h2 => by rw [ju_ap, if_pos rfl, if_neg (by omega)]) (fun o h1 h2 => ju_n (by omega)) (fun p hp => ?_)
  obtain ⟨W, H, q⟩ := h.2.2.2.2.2.1 p hp
  exact ⟨W, H, q.o (fun _ _ _ => rfl) (by omega) (ju_n (by decide)) (ju_n (by decide)) (ju_n (by decide))⟩
theorem jFr.th {σ0 ρ0 σ ρ : jMem} (h : jFr σ0 ρ0 σ ρ) {k : Nat} {v : Int32} {o : Nat} (ho : 38 ≤ o ∧ o < 47) : jFr σ0 ρ0 σ (ju ρ o k v) := ⟨h.1, fun a ha => by rw [ju_n (by omega)]; exact h.2 a ha⟩
theorem jFr.cl {σ0 ρ0 σ ρ : jMem} (h : jFr σ0 ρ0 σ ρ) {k : Nat} {v : Int32} {o : Nat} (ho : o < 38) : jFr σ0 ρ0 (ju σ o k v) ρ := ⟨fun a ha => by rw [ju_n (by omega)]; exact h.1 a ha, h.2⟩
theorem jbt_in {α β : Type} {a : α} {m : jMem} {f : α → jMem → Option ((Nat ⊕ β) × jMem)} : jbt (some (.inr a, m)) f = f a m := rfl
theorem jbt_ex {α β : Type} {e : Nat} {m : jMem} {f : α → jMem → Option ((Nat ⊕ β) × jMem)} : jbt (some (.inl e, m)) f = some (.inl e, m) := rfl
/-- small questions, by numbers -/
theorem w_in {X A B : Int} (σ : jMem) (hX : jrg X) (hA : jrg A) (hB : jrg B) : f_IC_within (iI X) (iI A) (iI B) σ = if A ≤ X ∧ X ≤ B then 1 else 0 := by
  unfold f_IC_within
  by_cases c1 : X < A
  · rw [if_pos ((iI_lt hX hA).mpr c1), if_neg (by omega)]
  · rw [if_neg (fun q => c1 ((iI_lt hX hA).mp q))]
    by_cases c2 : B < X
    · rw [if_pos ((iI_lt hB hX).mpr c2), if_neg (by omega)]
    · rw [if_neg (fun q => c2 ((iI_lt hB hX).mp q)), if_pos (by omega)]
theorem ic_board (x : Int32) (σ : jMem) : f_IC_isBoard x σ = if 0 ≤ x.toInt ∧ x.toInt ≤ 3 then 1 else 0 := by
  have := w_in (X := x.toInt) (A := 0) (B := 3) σ (iI_rg x) (by decide) (by decide)
  rw [← iI_of x, show iI (0) = (0 : Int32) from by decide, show iI 3 = (3 : Int32) from by decide] at this
  exact this
theorem ic_side (x : Int32) (σ : jMem) : f_IC_isSide x σ = if 1 ≤ x.toInt ∧ x.toInt ≤ 24 then 1 else 0 := by
  have := w_in (X := x.toInt) (A := 1) (B := 24) σ (iI_rg x) (by decide) (by decide)
  rw [← iI_of x, show iI (1) = (1 : Int32) from by decide, show iI 24 = (24 : Int32) from by decide] at this
  exact this
theorem ic_place (x : Int32) (σ : jMem) : f_IC_isPlace x σ = if -100 ≤ x.toInt ∧ x.toInt ≤ 100 then 1 else 0 := by
  have := w_in (X := x.toInt) (A := -100) (B := 100) σ (iI_rg x) (by decide) (by decide)
  rw [← iI_of x, show iI (-100) = (-100 : Int32) from by decide, show iI 100 = (100 : Int32) from by decide] at this
  exact this
theorem ic_shift (x : Int32) (σ : jMem) : f_IC_isShift x σ = if -24 ≤ x.toInt ∧ x.toInt ≤ 24 then 1 else 0 := by
  have := w_in (X := x.toInt) (A := -24) (B := 24) σ (iI_rg x) (by decide) (by decide)
  rw [← iI_of x, show iI (-24) = (-24 : Int32) from by decide, show iI 24 = (24 : Int32) from by decide] at this
  exact this
theorem i_lt (x : Int32) (c : Int) (hc : jrg c) : x < iI c ↔ x.toInt < c := by
  have := iI_lt (X := x.toInt) (Y := c) (iI_rg x) hc
  rwa [← iI_of x] at this
theorem i_le (x : Int32) (c : Int) (hc : jrg c) : x ≤ iI c ↔ x.toInt ≤ c := by
  have := iI_le (X := x.toInt) (Y := c) (iI_rg x) hc
  rwa [← iI_of x] at this
theorem i_gt (x : Int32) (c : Int) (hc : jrg c) : iI c < x ↔ c < x.toInt := by
  have := iI_lt (X := c) (Y := x.toInt) hc (iI_rg x)
  rwa [← iI_of x] at this
theorem i_ge (x : Int32) (c : Int) (hc : jrg c) : iI c ≤ x ↔ c ≤ x.toInt := by
  have := iI_le (X := c) (Y := x.toInt) hc (iI_rg x)
  rwa [← iI_of x] at this
theorem i_eq (x : Int32) (c : Int) (hc : jrg c) : x = iI c ↔ x.toInt = c := by
  have := iI_eq (X := x.toInt) (Y := c) (iI_rg x) hc
  rwa [← iI_of x] at this
theorem mo_board (x : Int32) (σ : jMem) : f_MO_isBoard x σ = if 0 ≤ x.toInt ∧ x.toInt ≤ 3 then 1 else 0 := by
  unfold f_MO_isBoard
  have h0 : x < 0 ↔ x.toInt < 0 := i_lt x 0 (by decide)
  have h4 : (4 : Int32) ≤ x ↔ 4 ≤ x.toInt := i_ge x 4 (by decide)
  by_cases c1 : x.toInt < 0
  · rw [if_pos (h0.mpr c1), if_neg (by omega)]
  · rw [if_neg (fun q => c1 (h0.mp q))]
    by_cases c2 : 4 ≤ x.toInt
    · rw [if_pos (h4.mpr c2), if_neg (by omega)]
    · rw [if_neg (fun q => c2 (h4.mp q)), if_pos (by omega)]
theorem mo_far (x : Int32) (σ : jMem) : f_MO_isFar x σ = if -100 ≤ x.toInt ∧ x.toInt ≤ 100 then 0 else 1 := by
  unfold f_MO_isFar
  have h0 : x < (-100 : Int32) ↔ x.toInt < -100 := by rw [show (-100 : Int32) = iI (-100) from by decide]; exact i_lt x (-100) (by decide)
  have h4 : x ≤ (100 : Int32) ↔ x.toInt ≤ 100 := i_le x 100 (by decide)
  by_cases c1 : x.toInt < -100
  · rw [if_pos (h0.mpr c1), if_neg (by omega)]
  · rw [if_neg (fun q => c1 (h0.mp q))]
    by_cases c2 : x.toInt ≤ 100
    · rw [if_pos (h4.mpr c2), if_pos (by omega)]
    · rw [if_neg (fun q => c2 (h4.mp q)), if_neg (by omega)]
theorem ic_refB (x : Int32) (σ : jMem) : f_IC_refuseMissingBoard x σ = if 0 ≤ x.toInt ∧ x.toInt ≤ 3 then some (.inr (), σ) else some (.inl 0, σ) := by
  unfold f_IC_refuseMissingBoard
  rw [ic_board]
  by_cases c : 0 ≤ x.toInt ∧ x.toInt ≤ 3
  · rw [if_pos c, if_pos c, if_neg (by decide)]
  · rw [if_neg c, if_neg c, if_pos rfl]
theorem i_nat {x : Int32} (h : 0 ≤ x.toInt) : x = nI x.toInt.toNat := by
  have := iI_nat h
  rwa [← iI_of x] at this
