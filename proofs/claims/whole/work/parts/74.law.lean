/-! the law's loop -/
theorem lg_self (x : Int64) : lg_cmp x x = 0 := by
  unfold lg_cmp
  rw [if_neg (by intro h; exact absurd h (by simp [Int64.lt_iff_toInt_lt])), if_pos rfl]
/-- after both have run: the state is one again -/
theorem jXX.one {σ ρ m k : jMem} (h : jXX σ ρ m k) (e : ∀ o, o < 38 → ρ o = m o) : ∃ md S M, jGl md S M k k := by
  obtain ⟨⟨md, S, M, g⟩, f1, f2⟩ := h
  exact ⟨md, S, M, g.c (fun o ho => (f2 o (Or.inl ho)).trans (e o ho)) (fun _ _ _ => rfl)⟩
theorem lw_e {α : Type} {md S M : Nat} {σ : jMem} (h : jGl md S M σ σ) {C : Option (α × jMem)} {R : jMem → Option (α × jMem)} (hm : ∀ ρ, jGl md S M σ ρ → jPP C (R ρ) (fun a m b k => a = b ∧ jXX σ ρ m k)) : ∃ v m, C = some (v, m) ∧ ∃ k, R m = some (v, k) ∧ ∃ md S M, jGl md S M k k := by
  obtain ⟨a, m, b, k, hC, -, -, -, f⟩ := hm σ h
  have g : jGl md S M σ m := h.c (fun _ _ => rfl) (fun o h1 _ => f.1 o h1)
  obtain ⟨a2, m2, b2, k2, hC2, hR, e, x⟩ := hm m g
  rw [hC] at hC2
  cases hC2
  subst e
  exact ⟨a, m, hC, k2, hR, x.one (fun _ _ => rfl)⟩
theorem lw_b {md S M : Nat} {σ : jMem} (h : jGl md S M σ σ) {C : Option (Unit × jMem)} {R : jMem → Option (Unit × jMem)} (hm : ∀ ρ, jGl md S M σ ρ → jPP C (R ρ) (fun _ m _ k => jXX σ ρ m k)) : ∃ m, C = some ((), m) ∧ ∃ k, R m = some ((), k) ∧ ∃ md S M, jGl md S M k k := by
  obtain ⟨v, m, h1, k, h2, h3⟩ := lw_e h (C := C) (R := R) (fun ρ g => (hm ρ g).mono (fun _ _ _ _ x => ⟨rfl, x⟩))
  exact ⟨m, h1, k, h2, h3⟩
theorem lw_u {md S M : Nat} {σ : jMem} {c : Nat → Option Int32} (h : jGl md S M σ σ) {C : Option ((Nat ⊕ Unit) × jMem)} {R : jMem → Option (Unit × jMem)} {H : Nat → jMem → Option (Int32 × jMem)} (hm : ∀ ρ, jGl md S M σ ρ → jPP C (R ρ) (jpu c σ ρ)) (hH : ∀ e n w, c e = some w → H e n = some (w, n)) : ∃ v m, jbh C (fun _ n => some ((0 : Int32), n)) H = some (v, m) ∧ ∃ k, R m = some ((), k) ∧ f_MO_thrown k = v ∧ ∃ md S M, jGl md S M k k := by
  obtain ⟨a, m, b, k, hC, -, ⟨-, f⟩, -⟩ := hm σ h
  have g : jGl md S M σ m := h.c (fun _ _ => rfl) (fun o h1 _ => f.1 o h1)
  obtain ⟨a2, m2, b2, k2, hC2, hR, x, e⟩ := hm m g
  rw [hC] at hC2
  cases hC2
  subst hC
  cases a with
  | inr r => exact ⟨0, m, rfl, k2, hR, e, x.one (fun _ _ => rfl)⟩
  | inl q => exact ⟨k2 38 0, m, hH q m _ e, k2, hR, rfl, x.one (fun _ _ => rfl)⟩
theorem lw_x {md S M : Nat} {σ : jMem} {c : Nat → Option Int32} (h : jGl md S M σ σ) {C : Option ((Nat ⊕ Int32) × jMem)} {R : jMem → Option (Int32 × jMem)} {H : Nat → jMem → Option (Int32 × jMem)} (hm : ∀ ρ, jGl md S M σ ρ → jPP C (R ρ) (jpx c σ ρ)) (hH : ∀ e n w, c e = some w → H e n = some (w, n) ∧ w ≠ 0) : ∃ v m, jbh C (fun v n => some ((0 : Int32), (ju n 47 ((0 : Int32).toNatClampNeg) v))) H = some (v, m) ∧ ∃ b k, R m = some (b, k) ∧ f_MO_thrown k = v ∧ (v = 0 → k 47 0 = b) ∧ ∃ md S M, jGl md S M k k := by
  obtain ⟨a, m, b, k, hC, -, ⟨-, f⟩, -⟩ := hm σ h
  subst hC
  cases a with
  | inr r =>
    have g : jGl md S M σ (ju m 47 0 r) := h.c (fun _ _ => rfl) (fun o h1 h2 => (ju_n (by omega)).trans (f.1 o h1))
    obtain ⟨a2, m2, b2, k2, hC2, hR, x, e⟩ := hm _ g
    cases hC2
    refine ⟨0, _, rfl, b2, k2, hR, e.1, fun _ => ?_, x.one (fun o ho => ju_n (by omega))⟩
    rw [x.2.2 47 (by decide), ju_ap, if_pos rfl, if_pos rfl]
    exact e.2.symm
  | inl q =>
    have g : jGl md S M σ m := h.c (fun _ _ => rfl) (fun o h1 _ => f.1 o h1)
    obtain ⟨a2, m2, b2, k2, hC2, hR, x, e⟩ := hm _ g
    cases hC2
    have e : c q = some (k2 38 0) := e
    exact ⟨k2 38 0, m, (hH q m _ e).1, b2, k2, hR, rfl, fun z => absurd z (hH q m _ e).2, x.one (fun _ _ => rfl)⟩
theorem lw_f {md S M : Nat} {σ : jMem} {c : Nat → Option Int32} (h : jGl md S M σ σ) {C : Option ((Nat ⊕ Int32) × jMem)} {R : jMem → Option (Int32 × jMem)} {H : Nat → jMem → Option (Int32 × jMem)} (hm : ∀ ρ, jGl md S M σ ρ → jPP C (R ρ) (jpx c σ ρ)) (hH : ∀ e n w, c e = some w → H e n = some (w, n) ∧ w ≠ 0) : ∃ v m, jbh C (fun v7 n7 => if v7 = 0 then (some ((0 : Int32), (ju n7 47 ((0 : Int32).toNatClampNeg) (0 : Int32)))) else (some ((0 : Int32), (ju n7 47 ((0 : Int32).toNatClampNeg) (1 : Int32))))) H = some (v, m) ∧ ∃ b k, R m = some (b, k) ∧ f_MO_thrown k = v ∧ (v = 0 → k 47 0 = if b = 0 then 0 else 1) ∧ ∃ md S M, jGl md S M k k := by
  obtain ⟨a, m, b, k, hC, -, ⟨-, f⟩, -⟩ := hm σ h
  subst hC
  cases a with
  | inr r =>
    have g : ∀ v, jGl md S M σ (ju m 47 0 v) := fun v => h.c (fun _ _ => rfl) (fun o h1 h2 => (ju_n (by omega)).trans (f.1 o h1))
    by_cases z : r = 0
    · obtain ⟨a2, m2, b2, k2, hC2, hR, x, e⟩ := hm _ (g 0)
      cases hC2
      refine ⟨0, ju m 47 0 0, if_pos z, b2, k2, hR, e.1, fun _ => ?_, x.one (fun o ho => ju_n (by omega))⟩
      rw [x.2.2 47 (by decide), ju_ap, if_pos rfl, if_pos rfl, if_pos (e.2.trans z)]
    · obtain ⟨a2, m2, b2, k2, hC2, hR, x, e⟩ := hm _ (g 1)
      cases hC2
      refine ⟨0, ju m 47 0 1, if_neg z, b2, k2, hR, e.1, fun _ => ?_, x.one (fun o ho => ju_n (by omega))⟩
      rw [x.2.2 47 (by decide), ju_ap, if_pos rfl, if_pos rfl, if_neg (fun q => z (e.2.symm.trans q))]
  | inl q =>
    have g : jGl md S M σ m := h.c (fun _ _ => rfl) (fun o h1 _ => f.1 o h1)
    obtain ⟨a2, m2, b2, k2, hC2, hR, x, e⟩ := hm _ g
    cases hC2
    have e : c q = some (k2 38 0) := e
    exact ⟨k2 38 0, m, (hH q m _ e).1, b2, k2, hR, rfl, fun z => absurd z (hH q m _ e).2, x.one (fun _ _ => rfl)⟩
theorem H0 (e : Nat) (n : jMem) (w : Int32) (h : c0 e = some w) : (if e = 0 then (some ((1 : Int32), n)) else none) = some (w, n) ∧ w ≠ 0 := by
  unfold c0 at h
  by_cases a : e = 0
  · rw [if_pos a] at h ⊢; cases h; exact ⟨rfl, by decide⟩
  · rw [if_neg a] at h; cases h
theorem H2 (e : Nat) (n : jMem) (w : Int32) (h : c2 e = some w) : (if e = 2 then (some ((1 : Int32), n)) else none) = some (w, n) ∧ w ≠ 0 := by
  unfold c2 at h
  by_cases a : e = 2
  · rw [if_pos a] at h ⊢; cases h; exact ⟨rfl, by decide⟩
  · rw [if_neg a] at h; cases h
theorem H01 (e : Nat) (n : jMem) (w : Int32) (h : c01 e = some w) : (if e = 0 then (some ((1 : Int32), n)) else (if e = 1 then (some ((2 : Int32), n)) else none)) = some (w, n) ∧ w ≠ 0 := by
  unfold c01 at h
  by_cases a : e = 0
  · rw [if_pos a] at h ⊢; cases h; exact ⟨rfl, by decide⟩
  · rw [if_neg a] at h ⊢
    by_cases b : e = 1
    · rw [if_pos b] at h ⊢; cases h; exact ⟨rfl, by decide⟩
    · rw [if_neg b] at h; cases h
theorem H03 (e : Nat) (n : jMem) (w : Int32) (h : c03 e = some w) : (if e = 0 then (some ((1 : Int32), n)) else (if e = 3 then (some ((2 : Int32), n)) else none)) = some (w, n) ∧ w ≠ 0 := by
  unfold c03 at h
  by_cases a : e = 0
  · rw [if_pos a] at h ⊢; cases h; exact ⟨rfl, by decide⟩
  · rw [if_neg a] at h ⊢
    by_cases b : e = 3
    · rw [if_pos b] at h ⊢; cases h; exact ⟨rfl, by decide⟩
    · rw [if_neg b] at h; cases h
theorem H013 (e : Nat) (n : jMem) (w : Int32) (h : c013 e = some w) : (if e = 0 then (some ((1 : Int32), n)) else (if e = 1 then (some ((2 : Int32), n)) else (if e = 3 then (some ((3 : Int32), n)) else none))) = some (w, n) ∧ w ≠ 0 := by
  unfold c013 at h
  by_cases a : e = 0
  · rw [if_pos a] at h ⊢; cases h; exact ⟨rfl, by decide⟩
  · rw [if_neg a] at h ⊢
    by_cases b : e = 1
    · rw [if_pos b] at h ⊢; cases h; exact ⟨rfl, by decide⟩
    · rw [if_neg b] at h ⊢
      by_cases d : e = 3
      · rw [if_pos d] at h ⊢; cases h; exact ⟨rfl, by decide⟩
      · rw [if_neg d] at h; cases h
theorem H201 (e : Nat) (n : jMem) (w : Int32) (h : c201 e = some w) : (if e = 2 then (some ((1 : Int32), n)) else (if e = 0 then (some ((2 : Int32), n)) else (if e = 1 then (some ((3 : Int32), n)) else none))) = some (w, n) ∧ w ≠ 0 := by
  unfold c201 at h
  by_cases a : e = 2
  · rw [if_pos a] at h ⊢; cases h; exact ⟨rfl, by decide⟩
  · rw [if_neg a] at h ⊢
    by_cases b : e = 0
    · rw [if_pos b] at h ⊢; cases h; exact ⟨rfl, by decide⟩
    · rw [if_neg b] at h ⊢
      by_cases d : e = 1
      · rw [if_pos d] at h ⊢; cases h; exact ⟨rfl, by decide⟩
      · rw [if_neg d] at h; cases h
/-- what follows a call that answers -/
theorem lw_fin {v b : Int32} {k : jMem} {F : jMem → Option (Int32 × jMem)} (h1 : f_MO_thrown k = v) (h2 : v = 0 → k 47 0 = b) (hF : ∃ τ, F k = some (1, τ)) : ∃ τ, (if (f_MO_thrown k) = v then (if v = 0 then (if (lg_cmp ((k 47 ((0 : Int32).toNatClampNeg)).toInt64) b.toInt64) = 0 then F k else (some ((0 : Int32), k))) else F k) else (some ((0 : Int32), k))) = some (1, τ) := by
  rw [if_pos h1]
  by_cases z : v = 0
  · rw [if_pos z, show k 47 ((0 : Int32).toNatClampNeg) = b from h2 z, lg_self, if_pos rfl]; exact hF
  · rw [if_neg z]; exact hF
