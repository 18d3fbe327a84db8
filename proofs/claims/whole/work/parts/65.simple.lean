/-! the small methods: class beside reference -/
def jpx (c : Nat → Option Int32) (σ0 ρ0 : jMem) : (Nat ⊕ Int32) → jMem → Int32 → jMem → Prop := fun a m b k => jXX σ0 ρ0 m k ∧ (match a with
  | .inr r => k 38 0 = 0 ∧ b = r
  | .inl e => c e = some (k 38 0))
def jpu (c : Nat → Option Int32) (σ0 ρ0 : jMem) : (Nat ⊕ Unit) → jMem → Unit → jMem → Prop := fun a m _ k => jXX σ0 ρ0 m k ∧ (match a with
  | .inr _ => k 38 0 = 0
  | .inl e => c e = some (k 38 0))
def c01 (e : Nat) : Option Int32 := if e = 0 then some 1 else if e = 1 then some 2 else none
def c0 (e : Nat) : Option Int32 := if e = 0 then some 1 else none
def c2 (e : Nat) : Option Int32 := if e = 2 then some 1 else none
def c201 (e : Nat) : Option Int32 := if e = 2 then some 1 else if e = 0 then some 2 else if e = 1 then some 3 else none
def c03 (e : Nat) : Option Int32 := if e = 0 then some 1 else if e = 3 then some 2 else none
def c013 (e : Nat) : Option Int32 := if e = 0 then some 1 else if e = 1 then some 2 else if e = 3 then some 3 else none
theorem ju38 {ρ : jMem} {v : Int32} : (ju ρ 38 0 v) 38 0 = v := by rw [ju_ap, if_pos rfl, if_pos rfl]
theorem jx_ex {c : Nat → Option Int32} {md S M e : Nat} {v b : Int32} {σ ρ : jMem} (h : jGl md S M σ ρ) (hc : c e = some v) : jpx c σ ρ (.inl e) σ b (ju ρ 38 0 v) := ⟨⟨⟨md, S, M, h.th v⟩, (jFr.r σ ρ).th (by decide)⟩, by show c e = _; rw [ju38, hc]⟩
theorem ju_ex {c : Nat → Option Int32} {md S M e : Nat} {v : Int32} {σ ρ : jMem} (h : jGl md S M σ ρ) (hc : c e = some v) : jpu c σ ρ (.inl e) σ () (ju ρ 38 0 v) := ⟨⟨⟨md, S, M, h.th v⟩, (jFr.r σ ρ).th (by decide)⟩, by show c e = _; rw [ju38, hc]⟩
theorem jP.z {b p W H : Nat} {σ ρ m k : jMem} (h : jP σ ρ p W H) (hp : p ≠ b) (h1 : jKb b σ m) (h2 : jKz b ρ k) : jP m k p W H := h.c (h1 _ (by omega) (by omega)) (h1 _ (by omega) (by omega)) (fun y hy => h2.2.2 _ (by omega)) (h2.2.1 p hp).1 (h2.2.1 p hp).2
theorem jKc.b {p : Nat} {a b : jMem} (h : jKc p a b) : jKb p a b := fun o _ h2 => h o h2
theorem jGl.z {md S M b W H : Nat} {σ ρ m k : jMem} (h : jGl md S M σ ρ) (h1 : jKb b σ m) (h2 : jKz b ρ k) (h3 : jP m k b W H) : jGl md S M m k := by
  refine h.pic (fun o ho => h1 o (by omega) (by omega)) (fun j _ _ => by rw [h2.1 38 (by decide) (by decide) (by decide)]) (fun o ho ho2 => h2.1 o (by omega) (by omega) (by omega)) (fun p hp => ?_)
  by_cases e : p = b
  · subst e; exact ⟨W, H, h3⟩
  · obtain ⟨W', H', q⟩ := h.2.2.2.2.2.1 p hp
    exact ⟨W', H', q.z e h1 h2⟩
theorem jFr.z {b : Nat} {σ0 ρ0 σ ρ m k : jMem} (h : jFr σ0 ρ0 σ ρ) (hb : b < 12) (h1 : jKb b σ m) (h2 : jKz b ρ k) : jFr σ0 ρ0 m k := ⟨fun o ho => (h1 o (by omega) (by omega)).trans (h.1 o ho), fun o ho => (h2.1 o (by omega) (by omega) (by omega)).trans (h.2 o ho)⟩
theorem jKz.th {b : Nat} {ρ k : jMem} {v : Int32} (h : jKz b (ju ρ 38 0 v) k) : k 38 0 = v := by rw [h.1 38 (by decide) (by decide) (by decide), ju38]
theorem i_b4 {x : Int32} (h : 0 ≤ x.toInt ∧ x.toInt ≤ 3) : ∃ b, b < 4 ∧ x = nI b := ⟨x.toInt.toNat, by omega, i_nat h.1⟩
theorem i_sd {x : Int32} (h : 1 ≤ x.toInt ∧ x.toInt ≤ 24) : ∃ b, (1 ≤ b ∧ b ≤ 24) ∧ x = nI b := ⟨x.toInt.toNat, by omega, i_nat (by omega)⟩
theorem in4 {b : Nat} (h : b < 4) : ¬ (nI b < 0 ∨ 4 ≤ (nI b).toNatClampNeg) := nI_in h (by decide)
theorem m_size {md S M : Nat} {σ ρ : jMem} (h : jGl md S M σ ρ) (x1 x2 x3 : Int32) : jPP (f_IC_size x1 x2 x3 σ) (f_MO_size x1 x2 x3 ρ) (jpu c01 σ ρ) := by
  unfold f_IC_size f_MO_size
  rw [ic_refB, mo_board]
  by_cases cb : ¬ (0 ≤ x1.toInt ∧ x1.toInt ≤ 3)
  · rw [if_neg cb, if_neg cb, jbt_ex]
    exact .irp rfl (.ret (ju_ex h rfl))
  replace cb := Classical.not_not.mp cb
  rw [if_pos cb, if_pos cb, jbt_in, ic_side, ic_side]
  refine .irn (by decide) ?_
  have l1 : x2 < (1 : Int32) ↔ x2.toInt < 1 := i_lt x2 1 (by decide)
  have l2 : (24 : Int32) < x2 ↔ 24 < x2.toInt := i_gt x2 24 (by decide)
  have l3 : x3 < (1 : Int32) ↔ x3.toInt < 1 := i_lt x3 1 (by decide)
  have l4 : x3 ≤ (24 : Int32) ↔ x3.toInt ≤ 24 := i_le x3 24 (by decide)
  by_cases c2 : ¬ (1 ≤ x2.toInt ∧ x2.toInt ≤ 24)
  · rw [if_neg c2]
    refine .ilp rfl ?_
    by_cases c : x2.toInt < 1
    · exact .irp (l1.mpr c) (.ret (ju_ex h rfl))
    · exact .irn (fun q => c (l1.mp q)) (.irp (l2.mpr (by omega)) (.ret (ju_ex h rfl)))
  replace c2 := Classical.not_not.mp c2
  rw [if_pos c2]
  refine .iln (by decide) (.irn (fun q => by have := l1.mp q; omega) (.irn (fun q => by have := l2.mp q; omega) ?_))
  by_cases c3 : ¬ (1 ≤ x3.toInt ∧ x3.toInt ≤ 24)
  · rw [if_neg c3]
    refine .ilp rfl ?_
    by_cases c : x3.toInt < 1
    · exact .irp (l3.mpr c) (.ret (ju_ex h rfl))
    · exact .irn (fun q => c (l3.mp q)) (.irn (fun q => by have := l4.mp q; omega) (.ret (ju_ex h rfl)))
  replace c3 := Classical.not_not.mp c3
  rw [if_pos c3]
  refine .iln (by decide) (.irn (fun q => by have := l3.mp q; omega) (.irp (l4.mpr c3.2) ?_))
  obtain ⟨b, hb, rfl⟩ := i_b4 cb
  obtain ⟨W, hW, rfl⟩ := i_sd c2
  obtain ⟨H, hH, rfl⟩ := i_sd c3
  rw [jck_pos (in4 hb), nI_clamp (by omega)]
  refine .bd (blank_resize (σ := σ) (ρ := ju ρ 38 0 0) (p := b) (by omega) hW hH) ?_
  rintro _ m _ k ⟨h1, h2, h3⟩
  exact .ret ⟨⟨⟨md, S, M, (h.th 0).z h1 h2 h3⟩, ((jFr.r σ ρ).th (by decide)).z (by omega) h1 h2⟩, h2.th⟩
theorem i_of2 (x : Int32) : ∃ X, jrg X ∧ x = iI X := ⟨x.toInt, iI_rg x, iI_of x⟩
theorem jb_not (a : Bool) : (1 : Int32) - jb a = jb (!a) := by cases a <;> decide
theorem jGl.bd {md S M : Nat} {σ ρ : jMem} (h : jGl md S M σ ρ) {b : Nat} (hb : b < 4) : ∃ W H, jP σ ρ b W H := h.2.2.2.2.2.1 b (by omega)
theorem m_flip {md S M : Nat} {σ ρ : jMem} (h : jGl md S M σ ρ) (x1 x2 x3 : Int32) : jPP (f_IC_flip x1 x2 x3 σ) (f_MO_flip x1 x2 x3 ρ) (jpx c0 σ ρ) := by
  unfold f_IC_flip f_MO_flip
  rw [ic_refB, mo_board]
  by_cases cb : ¬ (0 ≤ x1.toInt ∧ x1.toInt ≤ 3)
  · rw [if_neg cb, if_neg cb, jbt_ex]
    exact .irp rfl (.ret (jx_ex h rfl))
  replace cb := Classical.not_not.mp cb
  rw [if_pos cb, if_pos cb, jbt_in]
  refine .irn (by decide) ?_
  obtain ⟨b, hb, rfl⟩ := i_b4 cb
  obtain ⟨X, hX, rfl⟩ := i_of2 x2
  obtain ⟨Y, hY, rfl⟩ := i_of2 x3
  obtain ⟨W, H, hP⟩ := h.bd hb
  have hw := hP.1.2.1
  have hh := hP.1.2.2.2.1
  refine .ckl (in4 hb) ?_
  rw [nI_clamp (show b < 2 ^ 31 by omega)]
  refine .bl (pi_has hP hX hY) (.br (mo_inside (by omega) hP.1 hX hY) ?_)
  by_cases c : ¬ (jin W H X Y)
  · rw [if_neg c]
    exact .ilp rfl (.irp rfl (.ret (jx_ex h rfl)))
  replace c := Classical.not_not.mp c
  rw [if_pos c]
  have hP0 : jP σ (ju ρ 38 0 0) b W H := hP.o (fun _ _ _ => rfl) (by omega) (ju_n (by decide)) (ju_n (by decide)) (ju_n (by decide))
  have c4 : ¬ (nI b < 0 ∨ 4 ≤ b) := by have := in4 hb; rwa [nI_clamp (by omega)] at this
  refine .iln (by decide) (.irn (by decide) (.ckl c4 (.bl (pi_at hP0 hX hY) (.br (mo_at (by omega) hP0.1 hX hY) (.ckl c4 ?_)))))
  rw [jb_not]
  obtain ⟨x, hx, rfl⟩ : ∃ x : Nat, x < W ∧ X = x := ⟨X.toNat, by omega, by omega⟩
  obtain ⟨y, hy, rfl⟩ : ∃ y : Nat, y < H ∧ Y = y := ⟨Y.toNat, by omega, by omega⟩
  generalize jat (ju ρ 38 0 0) b (x : Int) (y : Int) = d
  rw [iI_nI, iI_nI]
  refine .bl (pi_set (by omega) (by omega)) (.br (mo_ink (by omega) (by omega) (by omega)) ?_)
  have hP1 := hP0.set (x := x) (y := y) (d := !d) hx hy
  have k1 : jKb b σ (ju σ (15 + 2 * b) y (jsb (σ (15 + 2 * b) y) (28 - x) (!d))) := fun o _ h2 => ju_n h2
  have k2 : jKz b (ju ρ 38 0 0) (ju (ju ρ 38 0 0) 39 (24 * b + y) (jsb ((ju ρ 38 0 0) 39 (24 * b + y)) x (!d))) := (((jKd.r b (ju ρ 38 0 0)).u (by omega))).z
  have e : jat (ju (ju ρ 38 0 0) 39 (24 * b + y) (jsb ((ju ρ 38 0 0) 39 (24 * b + y)) x (!d))) b (x : Int) (y : Int) = !d := by
    rw [hP1.1.ins ⟨by omega, by omega, by omega, by omega⟩, ju_ap, if_pos rfl]
    rw [show ((y : Int)).toNat = y from by omega, show ((x : Int)).toNat = x from by omega, if_pos rfl, b_jsb (by omega) (by omega), if_pos rfl]
  have hat := mo_at (by omega) hP1.1 hX hY
  rw [iI_nI, iI_nI, e] at hat
  refine .br hat ?_
  have fin : jXX σ ρ _ _ := ⟨⟨md, S, M, (h.th 0).z k1 k2 hP1⟩, ((jFr.r σ ρ).th (by decide)).z (by omega) k1 k2⟩
  by_cases cd : jb (!d) = 1
  · exact .ipp cd (.ret ⟨fin, k2.th, rfl⟩)
  · exact .inn cd (.ret ⟨fin, k2.th, rfl⟩)
theorem m_point {md S M : Nat} {σ ρ : jMem} (h : jGl md S M σ ρ) (x1 x2 x3 : Int32) : jPP (f_IC_point x1 x2 x3 σ) (f_MO_point x1 x2 x3 ρ) (fun a m b k => a = b ∧ jXX σ ρ m k) := by
  unfold f_IC_point f_MO_point
  rw [ic_board, mo_board]
  have fin : jXX σ ρ σ (ju ρ 38 0 0) := ⟨⟨md, S, M, h.th 0⟩, (jFr.r σ ρ).th (by decide)⟩
  by_cases cb : ¬ (0 ≤ x1.toInt ∧ x1.toInt ≤ 3)
  · rw [if_neg cb]
    exact .ipp rfl (.ret ⟨rfl, fin⟩)
  replace cb := Classical.not_not.mp cb
  rw [if_pos cb]
  refine .inn (by decide) ?_
  obtain ⟨b, hb, rfl⟩ := i_b4 cb
  obtain ⟨X, hX, rfl⟩ := i_of2 x2
  obtain ⟨Y, hY, rfl⟩ := i_of2 x3
  obtain ⟨W, H, hP⟩ := (h.th 0).bd hb
  refine .ckl (in4 hb) ?_
  rw [nI_clamp (show b < 2 ^ 31 by omega)]
  refine .bl (pi_at hP hX hY) (.br (mo_at (by omega) hP.1 hX hY) ?_)
  by_cases cd : jb (jat (ju ρ 38 0 0) b X Y) = 1
  · exact .ipp cd (.ret ⟨rfl, fin⟩)
  · exact .inn cd (.ret ⟨rfl, fin⟩)
theorem jFr.d {b : Nat} {σ0 ρ0 σ ρ m k : jMem} (h : jFr σ0 ρ0 σ ρ) (hb : b < 12) (h1 : jKc b σ m) (h2 : jKd b ρ k) : jFr σ0 ρ0 m k := h.z hb h1.b h2.z
theorem m_draw {md S M : Nat} {σ ρ : jMem} (h : jGl md S M σ ρ) (x1 x2 x3 x4 x5 : Int32) : jPP (f_IC_draw x1 x2 x3 x4 x5 σ) (f_MO_draw x1 x2 x3 x4 x5 ρ) (jpu c01 σ ρ) := by
  unfold f_IC_draw f_MO_draw
  rw [ic_refB, mo_board, mo_board]
  by_cases cb : ¬ (0 ≤ x1.toInt ∧ x1.toInt ≤ 3)
  · rw [if_neg cb, if_neg cb, jbt_ex]
    exact .irp rfl (.ret (ju_ex h rfl))
  replace cb := Classical.not_not.mp cb
  rw [if_pos cb, if_pos cb, jbt_in, ic_refB]
  refine .irn (by decide) ?_
  by_cases cb2 : ¬ (0 ≤ x2.toInt ∧ x2.toInt ≤ 3)
  · rw [if_neg cb2, if_neg cb2, jbt_ex]
    exact .irp rfl (.ret (ju_ex h rfl))
  replace cb2 := Classical.not_not.mp cb2
  rw [if_pos cb2, if_pos cb2, jbt_in]
  refine .irn (by decide) ?_
  by_cases ce : x1 = x2
  · exact .ipp ce (.ret (ju_ex h rfl))
  refine .inn ce ?_
  have l0 : x5 < (0 : Int32) ↔ x5.toInt < 0 := i_lt x5 0 (by decide)
  have l4 : (4 : Int32) < x5 ↔ 4 < x5.toInt := i_gt x5 4 (by decide)
  have hw : f_IC_within x5 (0 : Int32) (4 : Int32) σ = if 0 ≤ x5.toInt ∧ x5.toInt ≤ 4 then 1 else 0 := by
    have := w_in (X := x5.toInt) (A := 0) (B := 4) σ (iI_rg x5) (by decide) (by decide)
    rwa [← iI_of x5] at this
  rw [hw, ic_place, ic_place, mo_far, mo_far]
  by_cases co : ¬ (0 ≤ x5.toInt ∧ x5.toInt ≤ 4)
  · rw [if_neg co]
    refine .ilp rfl ?_
    by_cases c : x5.toInt < 0
    · exact .irp (l0.mpr c) (.ret (ju_ex h rfl))
    · exact .irn (fun q => c (l0.mp q)) (.irp (l4.mpr (by omega)) (.ret (ju_ex h rfl)))
  replace co := Classical.not_not.mp co
  rw [if_pos co]
  refine .iln (by decide) (.irn (fun q => by have := l0.mp q; omega) (.irn (fun q => by have := l4.mp q; omega) ?_))
  by_cases c3 : ¬ (-100 ≤ x3.toInt ∧ x3.toInt ≤ 100)
  · rw [if_neg c3, if_neg c3]
    exact .ilp rfl (.irn (by decide) (.ret (ju_ex h rfl)))
  replace c3 := Classical.not_not.mp c3
  rw [if_pos c3, if_pos c3]
  refine .iln (by decide) (.irp rfl ?_)
  by_cases c4 : ¬ (-100 ≤ x4.toInt ∧ x4.toInt ≤ 100)
  · rw [if_neg c4, if_neg c4]
    exact .ilp rfl (.irn (by decide) (.ret (ju_ex h rfl)))
  replace c4 := Classical.not_not.mp c4
  rw [if_pos c4, if_pos c4]
  refine .iln (by decide) (.irp rfl ?_)
  obtain ⟨b, hb, rfl⟩ := i_b4 cb
  obtain ⟨b2, hb2, rfl⟩ := i_b4 cb2
  obtain ⟨W, H, hP⟩ := (h.th 0).bd hb
  obtain ⟨W', H', hQ⟩ := (h.th 0).bd hb2
  have e3 := iI_of x3
  have e4 := iI_of x4
  refine .ckl (in4 hb) (.ckl (in4 hb2) ?_)
  rw [nI_clamp (show b < 2 ^ 31 by omega), nI_clamp (show b2 < 2 ^ 31 by omega), e3, e4]
  refine .bd (stamp_lay (op := x5) (by omega) (by omega) (fun q => ce (by rw [q])) (by omega) (by omega) hP hQ) ?_
  rintro _ m _ k ⟨h1, h2, h3⟩
  exact .ret ⟨⟨⟨md, S, M, (h.th 0).z h1.b h2.z h3⟩, ((jFr.r σ ρ).th (by decide)).d (by omega) h1 h2⟩, h2.z.th⟩
theorem m_board {md S M : Nat} {σ ρ : jMem} (h : jGl md S M σ ρ) (x1 x2 : Int32) : jPP (f_IC_board x1 x2 σ) (f_MO_board x1 x2 ρ) (jpx c01 σ ρ) := by
  unfold f_IC_board f_MO_board
  rw [ic_refB, mo_board]
  by_cases cb : ¬ (0 ≤ x1.toInt ∧ x1.toInt ≤ 3)
  · rw [if_neg cb, if_neg cb, jbt_ex]
    exact .irp rfl (.ret (jx_ex h rfl))
  replace cb := Classical.not_not.mp cb
  rw [if_pos cb, if_pos cb, jbt_in]
  refine .irn (by decide) ?_
  have l0 : x2 < (0 : Int32) ↔ x2.toInt < 0 := i_lt x2 0 (by decide)
  have l2 : x2 ≤ (2 : Int32) ↔ x2.toInt ≤ 2 := i_le x2 2 (by decide)
  have e0 : x2 = (0 : Int32) ↔ x2.toInt = 0 := i_eq x2 0 (by decide)
  have e1 : x2 = (1 : Int32) ↔ x2.toInt = 1 := i_eq x2 1 (by decide)
  have e2 : x2 = (2 : Int32) ↔ x2.toInt = 2 := i_eq x2 2 (by decide)
  by_cases cp : ¬ (0 ≤ x2.toInt ∧ x2.toInt ≤ 2)
  · refine .iln (fun q => by have := e0.mp q; omega) (.iln (fun q => by have := e1.mp q; omega) (.iln (fun q => by have := e2.mp q; omega) ?_))
    by_cases c : x2.toInt < 0
    · exact .irp (l0.mpr c) (.ret (jx_ex h rfl))
    · exact .irn (fun q => c (l0.mp q)) (.irn (fun q => by have := l2.mp q; omega) (.ret (jx_ex h rfl)))
  replace cp := Classical.not_not.mp cp
  refine .irn (fun q => by have := l0.mp q; omega) (.irp (l2.mpr cp.2) ?_)
  obtain ⟨b, hb, rfl⟩ := i_b4 cb
  obtain ⟨W, H, hP⟩ := (h.th 0).bd hb
  have fin : jXX σ ρ σ (ju ρ 38 0 0) := ⟨⟨md, S, M, h.th 0⟩, (jFr.r σ ρ).th (by decide)⟩
  have hon := mo_ones (ρ := ju ρ 38 0 0) (x2 := x2) (show b < 12 by omega) hP.1
  rw [hon, jck_pos (in4 hb), jck_pos (in4 hb), jck_pos (in4 hb), nI_clamp (show b < 2 ^ 31 by omega)]
  by_cases q0 : x2 = 0
  · rw [if_pos q0, if_pos q0]
    exact .bl (pi_ones hP) (.ret ⟨fin, ju38, rfl⟩)
  rw [if_neg q0, if_neg q0]
  by_cases q1 : x2 = 1
  · rw [if_pos q1, if_pos q1]
    exact .ret ⟨fin, ju38, hP.2.1.symm⟩
  have z0 : x2.toInt ≠ 0 := fun q => q0 (e0.mpr q)
  have z1 : x2.toInt ≠ 1 := fun q => q1 (e1.mpr q)
  have q2 : x2 = 2 := e2.mpr (by omega)
  rw [if_neg q1, if_neg q1, if_pos q2]
  exact .ret ⟨fin, ju38, hP.2.2.1.symm⟩
