/-! regions -/
theorem jD.c {w : Bool} {σ0 ρ0 σ ρ σ' ρ' : jMem} (h : jD w σ0 ρ0 σ ρ) (e8 : σ' 8 = σ 8) (e9 : σ' 9 = σ 9) (e11 : σ' 11 = σ 11) (e12 : σ' 12 = σ 12) (e13 : σ' 13 = σ 13) (r38 : ρ' 38 = ρ 38) (r45 : ρ' 45 = ρ 45) (r46 : ρ' 46 = ρ 46) : jD w σ' ρ' σ' ρ' := by
  cases w with
  | true =>
    obtain ⟨⟨-, -, hx, ⟨n, hb, ht⟩, hw⟩, hA⟩ := h
    refine ⟨⟨.r _, .r _, hx.c e11 r46, ⟨n, hb.c e8 e9 (by rw [r38]) r45, ?_⟩, ?_⟩, ?_⟩
    · unfold jCt; rw [e12, r38]; exact ht
    · unfold jCw; rw [e12, r38]; exact hw
    · rw [e12]; exact hA
  | false =>
    obtain ⟨⟨-, -, hx, ⟨n, t, hb, htn, ht, ht2⟩, hw⟩, hA⟩ := h
    refine ⟨⟨.r _, .r _, hx.c e11 r46, ⟨n, t, hb.c e8 e9 (by rw [r38]) r45, htn, by rw [e13]; exact ht, by rw [r38]; exact ht2⟩, ?_⟩, ?_⟩
    · unfold jCr; rw [e13, r38]; exact hw
    · rw [e13]; exact hA
def jKp (p : Nat) (σ0 σ : jMem) : Prop := ∀ o, o ≠ 8 → o ≠ 9 → o ≠ 11 → o ≠ 12 → o ≠ 13 → o ≠ 15 + 2 * p → σ o = σ0 o
def jKq (p : Nat) (ρ0 ρ : jMem) : Prop := (∀ o, o ≠ 38 → o ≠ 39 → o ≠ 45 → o ≠ 46 → ρ o = ρ0 o) ∧ (∀ k, k ≠ 9 → ¬ (12 ≤ k ∧ k ≤ 20) → ρ 38 k = ρ0 38 k) ∧ (∀ i, ¬ (24 * p ≤ i ∧ i < 24 * p + 24) → ρ 39 i = ρ0 39 i)
theorem jKp.r (p : Nat) (σ : jMem) : jKp p σ σ := fun _ _ _ _ _ _ _ => rfl
theorem jKq.r (p : Nat) (σ : jMem) : jKq p σ σ := ⟨fun _ _ _ _ _ => rfl, fun _ _ _ => rfl, fun _ _ => rfl⟩
theorem jKp.t {p : Nat} {a b c : jMem} (h : jKp p a b) (k : jKp p b c) : jKp p a c := fun o h1 h2 h3 h4 h5 h6 => (k o h1 h2 h3 h4 h5 h6).trans (h o h1 h2 h3 h4 h5 h6)
theorem jKq.t {p : Nat} {a b c : jMem} (h : jKq p a b) (k : jKq p b c) : jKq p a c := ⟨fun o h1 h2 h3 h4 => (k.1 o h1 h2 h3 h4).trans (h.1 o h1 h2 h3 h4), fun o h1 h2 => (k.2.1 o h1 h2).trans (h.2.1 o h1 h2), fun i hi => (k.2.2 i hi).trans (h.2.2 i hi)⟩
theorem jK.p {p : Nat} {a b : jMem} (h : jK a b) : jKp p a b := fun o h1 h2 h3 h4 h5 _ => h o h1 h2 h3 h4 h5
theorem jKs.q {p : Nat} {a b : jMem} (h : jKs a b) : jKq p a b := ⟨fun o h1 _ h3 h4 => h.1 o h1 h3 h4, h.2, fun i _ => by rw [h.1 39 (by decide) (by decide) (by decide)]⟩
theorem jKp.u {p k : Nat} {v : Int32} {a b : jMem} (h : jKp p a b) : jKp p a (ju b (15 + 2 * p) k v) := fun o h1 h2 h3 h4 h5 h6 => by rw [ju_n h6]; exact h o h1 h2 h3 h4 h5 h6
theorem jKq.u {p k : Nat} {v : Int32} {a b : jMem} (h : jKq p a b) (hk : 24 * p ≤ k ∧ k < 24 * p + 24) : jKq p a (ju b 39 k v) := ⟨fun o h1 h2 h3 h4 => by rw [ju_n h2]; exact h.1 o h1 h2 h3 h4, fun i h1 h2 => by rw [ju_ap, if_neg (by decide)]; exact h.2.1 i h1 h2, fun i hi => by rw [ju_ap, if_pos rfl, if_neg (by rintro rfl; exact hi hk)]; exact h.2.2 i hi⟩
theorem jP.c {σ ρ σ' ρ' : jMem} {p W H : Nat} (h : jP σ ρ p W H) (h1 : σ' (14 + 2 * p) = σ (14 + 2 * p)) (h2 : σ' (15 + 2 * p) = σ (15 + 2 * p)) (h3 : ∀ y, y < 24 → ρ' 39 (24 * p + y) = ρ 39 (24 * p + y)) (h4 : ρ' 40 p = ρ 40 p) (h5 : ρ' 41 p = ρ 41 p) : jP σ' ρ' p W H := by
  obtain ⟨⟨w1, w2, g1, g2, a3, a4, hz⟩, a1, a2, hb⟩ := h
  refine ⟨⟨w1, w2, g1, g2, by rw [h4]; exact a3, by rw [h5]; exact a4, ?_⟩, by rw [h1]; exact a1, by rw [h1]; exact a2, ?_⟩
  · intro y hy i; rw [h3 y hy]; exact hz y hy i
  · intro y hy i hi; rw [h2, h3 y hy]; exact hb y hy i hi
def jRg (w : Bool) (p W H : Nat) (σ0 ρ0 σ ρ : jMem) : Prop := jD w σ ρ σ ρ ∧ jKp p σ0 σ ∧ jKq p ρ0 ρ ∧ jP σ ρ p W H
theorem jRg.n {w : Bool} {p W H : Nat} {σ0 ρ0 σ ρ m k : jMem} (h : jRg w p W H σ0 ρ0 σ ρ) (hn : jNu w σ ρ m k) : jRg w p W H σ0 ρ0 m k := by
  obtain ⟨h1, h2, h3, h4⟩ := h
  obtain ⟨n1, n2, n3⟩ := hn
  refine ⟨n1, h2.t n2.p, h3.t n3.q, h4.c ?_ ?_ ?_ ?_ ?_⟩
  · exact n2 _ (by omega) (by omega) (by omega) (by omega) (by omega)
  · exact n2 _ (by omega) (by omega) (by omega) (by omega) (by omega)
  · intro y _; rw [n3.1 39 (by decide) (by decide) (by decide)]
  · rw [n3.1 40 (by decide) (by decide) (by decide)]
  · rw [n3.1 41 (by decide) (by decide) (by decide)]
theorem jRg.set {w : Bool} {p W H x y : Nat} {d : Bool} {σ0 ρ0 σ ρ : jMem} (h : jRg w p W H σ0 ρ0 σ ρ) (hx : x < W) (hy : y < H) : jRg w p W H σ0 ρ0 (ju σ (15 + 2 * p) y (jsb (σ (15 + 2 * p) y) (28 - x) d)) (ju ρ 39 (24 * p + y) (jsb (ρ 39 (24 * p + y)) x d)) := by
  obtain ⟨h1, h2, h3, h4⟩ := h
  have := h4.1.2.2.2.1
  refine ⟨h1.c ?_ ?_ ?_ ?_ ?_ ?_ ?_ ?_, h2.u, h3.u (by omega), h4.set hx hy⟩
  all_goals first | exact ju_n (by omega) | exact ju_n (by decide)
theorem jn01 {a : Int32} (h : a = 0 ∨ a = 1) : ∃ d, a = jb d := by
  rcases h with rfl | rfl
  · exact ⟨false, rfl⟩
  · exact ⟨true, rfl⟩
theorem jx_s {i : Nat} (h : i < 10240) : jx i = i := by unfold jx; rw [if_pos h]
theorem jcast (x : Nat) : nI x = iI (x : Int) := (iI_nI x).symm
def jab (σ : jMem) (p y : Nat) : Int32 := if y = 0 then 0 else σ (15 + 2 * p) (y - 1)
theorem pi_above {σ : jMem} {p y : Nat} (hy : y < 24) : f_PI_rowAbove p (nI y) σ = some (jab σ p y, σ) := by
  unfold f_PI_rowAbove jab
  by_cases c : y = 0
  · subst c; rw [if_pos (show nI 0 = 0 from rfl), if_pos rfl]
  · rw [if_neg (nI_ne0 (by omega) (by omega)), if_neg c]
    obtain ⟨z, rfl⟩ : ∃ z, y = z + 1 := ⟨y - 1, by omega⟩
    rw [nI_pred, jck_pos (nI_in (by omega) (by decide)), nI_clamp (by omega)]
    rfl
theorem jP.bit {σ ρ : jMem} {p W H y j : Nat} (h : jP σ ρ p W H) (hy : y < 24) (hj : j < 32) : bt (σ (15 + 2 * p) y) j = (decide (j ≤ 28) && jat ρ p ((28 - j : Nat) : Int) (y : Int)) := by
  rw [h.2.2.2 y hy j hj]
  unfold jat
  rw [if_pos (by omega)]
  rfl
theorem jP.bita {σ ρ : jMem} {p W H y j : Nat} (h : jP σ ρ p W H) (hy : y < 24) (hj : j < 32) : bt (jab σ p y) j = (decide (j ≤ 28) && jat ρ p ((28 - j : Nat) : Int) ((y : Int) - 1)) := by
  unfold jab
  by_cases c : y = 0
  · rw [if_pos c, b_0]
    have : jat ρ p ((28 - j : Nat) : Int) ((y : Int) - 1) = false := by unfold jat; rw [if_neg (by omega)]
    rw [this, Bool.and_false]
  · rw [if_neg c, h.bit (by omega) hj]
    rw [show (((y - 1 : Nat)) : Int) = (y : Int) - 1 from by omega]
theorem jP.rowEq {σ ρ : jMem} {p W H y : Nat} (h : jP σ ρ p W H) (hy : y < 24) : (σ (15 + 2 * p) y = jab σ p y) ↔ ∀ i : Nat, i < W → jat ρ p (i : Int) (y : Int) = jat ρ p (i : Int) ((y : Int) - 1) := by
  have hW := h.1.2.1
  constructor
  · intro e i hi
    have h1 := h.bit (j := 28 - i) hy (by omega)
    have h2 := h.bita (j := 28 - i) hy (by omega)
    rw [e, h2, decide_eq_true (by omega), Bool.true_and, Bool.true_and, show 28 - (28 - i) = i from by omega] at h1
    exact h1.symm
  · intro e
    apply b_ext
    intro j hj
    rw [h.bit hy hj, h.bita hy hj]
    by_cases c : j ≤ 28
    · rw [decide_eq_true c, Bool.true_and, Bool.true_and]
      by_cases c2 : 28 - j < W
      · exact e _ c2
      · rw [h.1.out (by omega), h.1.out (by omega)]
    · rw [decide_eq_false c, Bool.false_and, Bool.false_and]
theorem mo_asL {ρ : jMem} {p W H y : Nat} (hp : p < 12) (h : jQz ρ p W H) (hy : y < 24) : ∀ t X m x3, X + t = W → (x3 = 0 ∨ x3 = 1) → ∃ r, f_MO_isAsAbove_L5 (m + t + 1) (nI p) (nI y) x3 (nI X) ρ = some (r, ρ) ∧ (r = 0 ∨ r = 1) ∧ (r = 1 ↔ x3 = 1 ∧ ∀ i : Nat, X ≤ i → i < W → jat ρ p (i : Int) (y : Int) = jat ρ p (i : Int) ((y : Int) - 1)) := by
  have hW := h.2.1
  have hc : ¬ (nI p < 0 ∨ 12 ≤ (nI p).toNatClampNeg) := nI_in hp (by decide)
  have hw : ρ 40 (nI p).toNatClampNeg = nI W := by rw [nI_clamp (by omega)]; exact h.2.2.2.2.1
  intro t
  induction t with
  | zero =>
    intro X m x3 hX h3
    rw [f_MO_isAsAbove_L5, jck_pos hc, hw, if_pos (nI_le (by omega) (by omega)), jck_pos h3]
    refine ⟨x3, rfl, h3, fun q => ⟨q, fun i h1 h2 => by omega⟩, fun q => q.1⟩
  | succ t ih =>
    intro X m x3 hX h3
    rw [show m + (t + 1) + 1 = (m + t + 1) + 1 from by omega, f_MO_isAsAbove_L5, jck_pos hc, hw, if_neg (nI_ge (by omega) (by omega)), nI_1]
    rcases h3 with rfl | rfl
    · rw [if_pos rfl]
      obtain ⟨r, h1, h2, h3⟩ := ih (X + 1) m 0 (by omega) (Or.inl rfl)
      refine ⟨r, h1, h2, fun q => absurd (h3.mp q).1 (by decide), fun q => absurd q.1 (by decide)⟩
    · rw [if_neg (by decide), jcast X, jcast y, show iI (y : Int) - (1 : Int32) = iI ((y : Int) - 1) from iI_sub y 1, jbd_eq (mo_at hp h (by constructor <;> omega) (by constructor <;> omega)), jbd_eq (mo_at hp h (by constructor <;> omega) (by constructor <;> omega)), iI_nI y]
      by_cases c : jat ρ p (X : Int) (y : Int) = jat ρ p (X : Int) ((y : Int) - 1)
      · rw [if_pos (by rw [c])]
        obtain ⟨r, h1, h2, h3⟩ := ih (X + 1) m 1 (by omega) (Or.inr rfl)
        refine ⟨r, h1, h2, fun q => ⟨rfl, fun i i1 i2 => ?_⟩, fun q => h3.mpr ⟨rfl, fun i i1 i2 => q.2 i (by omega) i2⟩⟩
        by_cases e : i = X
        · subst e; exact c
        · exact (h3.mp q).2 i (by omega) i2
      · rw [if_neg (fun q => c (jb_inj.mp q))]
        obtain ⟨r, h1, h2, h3⟩ := ih (X + 1) m 0 (by omega) (Or.inl rfl)
        refine ⟨r, h1, h2, fun q => absurd (h3.mp q).1 (by decide), fun q => absurd (q.2 X (by omega) (by omega)) c⟩
theorem mo_as {σ ρ : jMem} {p W H y : Nat} (hp : p < 12) (h : jP σ ρ p W H) (hy : y < 24) : f_MO_isAsAbove (nI p) (nI y) ρ = some (if σ (15 + 2 * p) y = jab σ p y then 1 else 0, ρ) := by
  have hW := h.1.2.1
  unfold f_MO_isAsAbove
  obtain ⟨r, h1, h2, h3⟩ := mo_asL hp h.1 hy W 0 (19999 - W) 1 (by omega) (Or.inr rfl)
  rw [show jfu = (19999 - W) + W + 1 from by show 20000 = _; omega, show (0 : Int32) = nI 0 from rfl, h1]
  congr 2
  by_cases c : σ (15 + 2 * p) y = jab σ p y
  · rw [if_pos c]
    exact h3.mpr ⟨rfl, fun i _ hi => (h.rowEq hy).mp c i hi⟩
  · rw [if_neg c]
    rcases h2 with e | e
    · exact e
    · exact absurd ((h.rowEq hy).mpr (fun i hi => (h3.mp e).2 i (by omega) hi)) c
theorem ju_ju {σ : jMem} {o k : Nat} {v w : Int32} : ju (ju σ o k v) o k w = ju σ o k w := by
  funext a b
  simp only [ju_ap]
  by_cases h : a = o
  · by_cases h2 : b = k <;> simp [h, h2]
  · simp [h]
abbrev jT5 : Type := Int32 × Int32 × Int32 × Int32 × Int32 × Int32 × Int32
def jt5 (q : jT5) (x1 x2 x3 x4 x5 : Int32) : Prop := q.1 = x1 ∧ q.2.1 = x2 ∧ q.2.2.1 = x3 ∧ q.2.2.2.1 = x4 ∧ q.2.2.2.2.1 = x5
theorem mo_cpL {ρ : jMem} {p W H y : Nat} {x2 x3 x4 : Int32} (hp : p < 12) (h : jQz ρ p W H) (hy : y < H) : ∀ t X m z, X + t = W → (∀ i, bt z i = true → i < W) → ∃ z' q, f_MO_codeRegion_L63 (m + t + 1) (nI p) x2 x3 x4 (nI y) 1 (nI X) (ju ρ 39 (24 * p + y) z) = some (q, ju ρ 39 (24 * p + y) z') ∧ jt5 q (nI p) x2 x3 x4 (nI y) ∧ ∀ i, i < 32 → bt z' i = if X ≤ i ∧ i < W then jat ρ p (i : Int) ((y : Int) - 1) else bt z i := by
  have hW := h.2.1
  have hH := h.2.2.2.1
  have hc : ¬ (nI p < 0 ∨ 12 ≤ (nI p).toNatClampNeg) := nI_in hp (by decide)
  intro t
  induction t with
  | zero =>
    intro X m z hX hz
    have hw : (ju ρ 39 (24 * p + y) z) 40 (nI p).toNatClampNeg = nI W := by rw [nI_clamp (by omega), ju_ap, if_neg (by decide)]; exact h.2.2.2.2.1
    rw [f_MO_codeRegion_L63, jck_pos hc, hw, if_pos (nI_le (by omega) (by omega))]
    exact ⟨z, _, rfl, ⟨rfl, rfl, rfl, rfl, rfl⟩, fun i hi => by rw [if_neg (by omega)]⟩
  | succ t ih =>
    intro X m z hX hz
    have hw : (ju ρ 39 (24 * p + y) z) 40 (nI p).toNatClampNeg = nI W := by rw [nI_clamp (by omega), ju_ap, if_neg (by decide)]; exact h.2.2.2.2.1
    have hQ : jQz (ju ρ 39 (24 * p + y) z) p W H := by
      obtain ⟨w1, w2, h1, h2, a3, a4, hb⟩ := h
      refine ⟨w1, w2, h1, h2, by rw [ju_ap, if_neg (by decide)]; exact a3, by rw [ju_ap, if_neg (by decide)]; exact a4, ?_⟩
      intro y' hy' i
      rw [ju_ap, if_pos rfl]
      by_cases e : y' = y
      · subst e; rw [if_pos rfl]; intro q; exact ⟨hz i q, hy⟩
      · rw [if_neg (by omega)]; exact hb y' hy' i
    have hat : jat (ju ρ 39 (24 * p + y) z) p (X : Int) ((y : Int) - 1) = jat ρ p (X : Int) ((y : Int) - 1) := by
      unfold jat
      by_cases c : 0 ≤ (X : Int) ∧ (X : Int) < 32 ∧ 0 ≤ (y : Int) - 1 ∧ (y : Int) - 1 < 24
      · rw [if_pos c, if_pos c, ju_ap, if_pos rfl, if_neg (by omega)]
      · rw [if_neg c, if_neg c]
    rw [show m + (t + 1) + 1 = (m + t + 1) + 1 from by omega, f_MO_codeRegion_L63, jck_pos hc, hw, if_neg (nI_ge (by omega) (by omega)), if_pos rfl, jcast X, jcast y, show iI (y : Int) - (1 : Int32) = iI ((y : Int) - 1) from iI_sub y 1, jbd_eq (mo_at hp hQ (by constructor <;> omega) (by constructor <;> omega)), iI_nI y, iI_nI X, jbd_eq (mo_ink hp (by omega) (by omega)), hat, nI_1, ju_ju]
    rw [show (ju ρ 39 (24 * p + y) z) 39 (24 * p + y) = z from by rw [ju_ap, if_pos rfl, if_pos rfl]]
    obtain ⟨z', q, h1, h2, h3⟩ := ih (X + 1) m (jsb z X (jat ρ p (X : Int) ((y : Int) - 1))) (by omega) (by
      intro i q
      by_cases hi : i < 32
      · rw [b_jsb (by omega) hi] at q
        by_cases e : i = X
        · omega
        · rw [if_neg e] at q; exact hz i q
      · rw [b_big (by omega)] at q; exact Bool.noConfusion q)
    refine ⟨z', q, h1, h2, fun i hi => ?_⟩
    rw [h3 i hi, b_jsb (by omega) hi]
    by_cases e : i = X
    · subst e
      rw [if_neg (by omega), if_pos rfl, if_pos (by omega)]
    · rw [if_neg e]
      by_cases c : X ≤ i ∧ i < W
      · rw [if_pos c, if_pos (by omega)]
      · rw [if_neg c, if_neg (by omega)]
/-- a row becomes the one above it, in both -/
theorem jRg.cp {w : Bool} {p W H y : Nat} {x2 x3 x4 : Int32} {σ0 ρ0 σ ρ : jMem} (hp : p < 12) (h : jRg w p W H σ0 ρ0 σ ρ) (hy : y < H) : ∃ ρ' q, f_MO_codeRegion_L63 jfu (nI p) x2 x3 x4 (nI y) 1 (0 : Int32) ρ = some (q, ρ') ∧ jt5 q (nI p) x2 x3 x4 (nI y) ∧ jRg w p W H σ0 ρ0 (ju σ (15 + 2 * p) y (jab σ p y)) ρ' := by
  obtain ⟨h1, h2, h3, h4⟩ := h
  have hW := h4.1.2.1
  have hH := h4.1.2.2.2.1
  have hid : ju ρ 39 (24 * p + y) (ρ 39 (24 * p + y)) = ρ := by
    funext a b
    rw [ju_ap]
    by_cases c : a = 39
    · subst c; rw [if_pos rfl]
      by_cases c2 : b = 24 * p + y
      · rw [if_pos c2, c2]
      · rw [if_neg c2]
    · rw [if_neg c]
  obtain ⟨z', q, q1, q2, q3⟩ := mo_cpL (x2 := x2) (x3 := x3) (x4 := x4) hp h4.1 hy W 0 (19999 - W) (ρ 39 (24 * p + y)) (by omega) (fun i hi => (h4.1.2.2.2.2.2.2 y (by omega) i hi).1)
  rw [hid, show (19999 - W) + W + 1 = jfu from by show _ = 20000; omega] at q1
  have zb : ∀ i, i < 32 → bt z' i = jat ρ p (i : Int) ((y : Int) - 1) := by
    intro i hi
    rw [q3 i hi]
    by_cases c : i < W
    · rw [if_pos ⟨by omega, c⟩]
    · rw [if_neg (by omega), h4.1.out (by omega)]
      cases e : bt (ρ 39 (24 * p + y)) i with
      | false => rfl
      | true => exact absurd (h4.1.2.2.2.2.2.2 y (by omega) i e).1 c
  refine ⟨_, q, q1, q2, h1.c ?_ ?_ ?_ ?_ ?_ ?_ ?_ ?_, h2.u, h3.u (by omega), ?_⟩
  iterate 5 exact ju_n (by omega)
  iterate 3 exact ju_n (by decide)
  obtain ⟨⟨w1, w2, g1, g2, a3, a4, hz⟩, a1, a2, hb⟩ := h4
  refine ⟨⟨w1, w2, g1, g2, ?_, ?_, ?_⟩, ?_, ?_, ?_⟩
  · rw [ju_ap, if_neg (by decide)]; exact a3
  · rw [ju_ap, if_neg (by decide)]; exact a4
  · intro y' hy' i
    rw [ju_ap, if_pos rfl]
    by_cases e : y' = y
    · subst e
      rw [if_pos rfl]
      intro qq
      by_cases hi : i < 32
      · rw [q3 i hi] at qq
        by_cases c : 0 ≤ i ∧ i < W
        · exact ⟨c.2, hy⟩
        · rw [if_neg c] at qq; exact hz y' hy' i qq
      · rw [b_big (by omega)] at qq; exact Bool.noConfusion qq
    · rw [if_neg (by omega)]; exact hz y' hy' i
  · rw [ju_ap, if_neg (by omega)]; exact a1
  · rw [ju_ap, if_neg (by omega)]; exact a2
  · intro y' hy' j hj
    rw [ju_ap, if_pos rfl, ju_ap, if_pos rfl]
    by_cases e : y' = y
    · subst e
      rw [if_pos rfl, if_pos rfl, jP.bita ⟨⟨w1, w2, g1, g2, a3, a4, hz⟩, a1, a2, hb⟩ hy' hj, zb _ (by omega)]
    · rw [if_neg e, if_neg (by omega)]; exact hb y' hy' j hj
set_option maxHeartbeats 1000000 in
theorem row_true {σ0 ρ0 : jMem} {p W H y t5 : Nat} {x3 x4 : Int32} (hp : p < 12) (hm : ρ0 38 11 = 1) (hy : y < H) (h5 : 1 ≤ t5 ∧ t5 ≤ 3) : ∀ t X n m σ ρ, X + t = W → jRg true p W H σ0 ρ0 σ ρ → jPP (f_PT_codeRow_W_L3 p (n + t + 1) (nI t5) (nI y) (nI X) σ) (f_MO_codeRegion_L63 (m + t + 1) (nI p) (nI t5) x3 x4 (nI y) 0 (nI X) ρ) (fun _ m q k => jRg true p W H σ0 ρ0 m k ∧ jt5 q (nI p) (nI t5) x3 x4 (nI y)) := by
  have hc : ¬ (nI p < 0 ∨ 12 ≤ (nI p).toNatClampNeg) := nI_in hp (by decide)
  intro t
  induction t with
  | zero =>
    intro X n m σ ρ hX h
    have hW := h.2.2.2.1.2.1
    have hw : ρ 40 (nI p).toNatClampNeg = nI W := by rw [nI_clamp (by omega)]; exact h.2.2.2.1.2.2.2.2.1
    have hw2 : σ (14 + 2 * p) 1 = nI W := h.2.2.2.2.1
    rw [f_PT_codeRow_W_L3, f_MO_codeRegion_L63, hw, hw2]
    exact .ilp (nI_le (by omega) (by omega)) (.ckr hc (.irp (nI_le (by omega) (by omega)) (.ret ⟨h, rfl, rfl, rfl, rfl, rfl⟩)))
  | succ t ih =>
    intro X n m σ ρ hX h
    have hW := h.2.2.2.1.2.1
    have hH := h.2.2.2.1.2.2.2.1
    have hw : ρ 40 (nI p).toNatClampNeg = nI W := by rw [nI_clamp (by omega)]; exact h.2.2.2.1.2.2.2.2.1
    have hw2 : σ (14 + 2 * p) 1 = nI W := h.2.2.2.2.1
    rw [show n + (t + 1) + 1 = (n + t + 1) + 1 from by omega, show m + (t + 1) + 1 = (m + t + 1) + 1 from by omega, f_PT_codeRow_W_L3, f_MO_codeRegion_L63, hw, hw2]
    refine .iln (nI_ge (by omega) (by omega)) (.ckr hc (.irn (nI_ge (by omega) (by omega)) (.irn (by decide) ?_)))
    rw [nI_1, jcast X, jcast y]
    refine .bl (pt_ctx h.2.2.2 (by omega) (by omega) h5) (.br (mo_ctx hp h.2.2.2.1 (by omega) (by omega) h5) ?_)
    refine .bl (pi_at h.2.2.2 (by constructor <;> omega) (by constructor <;> omega)) (.br (mo_at hp h.2.2.2.1 (by constructor <;> omega) (by constructor <;> omega)) ?_)
    have hl := jctx_lt ρ p t5 (X : Int) (y : Int)
    have hm' : ρ 38 11 = 1 := (h.2.2.1.2.1 11 (by decide) (by decide)).trans hm
    have hd := dec_true (σ0 := σ) (ρ0 := ρ) (σ := σ) (ρ := ρ) (i := jctx ρ p t5 (X : Int) (y : Int)) (d := jb (jat ρ p (X : Int) (y : Int))) (e := jb (jat ρ p (X : Int) (y : Int))) (by omega) hm' ⟨h.1, .r _, .r _⟩ (fun _ => ⟨rfl, jb01 _⟩)
    rw [jx_s hl] at hd
    refine .bd hd ?_
    rintro a p1 b q1 ⟨rfl, a01, hn, -, -, -⟩
    obtain ⟨d, rfl⟩ := jn01 a01
    rw [iI_nI, iI_nI]
    refine .bl (pi_set (by omega) (by omega)) (.br (mo_ink hp (by omega) (by omega)) ?_)
    exact ih (X + 1) n m _ _ (by omega) ((h.n hn).set (by omega) hy)
set_option maxHeartbeats 1000000 in
theorem reg_true {σ0 ρ0 : jMem} {p W H t5 : Nat} {x3 : Int32} (hp : p < 12) (hm : ρ0 38 11 = 1) (h5 : 1 ≤ t5 ∧ t5 ≤ 3) : ∀ t y n m x4 σ ρ, y + t = H → jRg true p W H σ0 ρ0 σ ρ → jPP (f_PT_codeRegion_W_L6 p (n + t + 1) (nI t5) x3 x4 (nI y) σ) (f_MO_codeRegion_L6 (m + t + 1) (nI p) (nI t5) x3 x4 (nI y) ρ) (fun a m b k => a = b ∧ jRg true p W H σ0 ρ0 m k) := by
  have hc : ¬ (nI p < 0 ∨ 12 ≤ (nI p).toNatClampNeg) := nI_in hp (by decide)
  intro t
  induction t with
  | zero =>
    intro y n m x4 σ ρ hX h
    have hH := h.2.2.2.1.2.2.2.1
    have hw : ρ 41 (nI p).toNatClampNeg = nI H := by rw [nI_clamp (by omega)]; exact h.2.2.2.1.2.2.2.2.2.1
    have hw2 : σ (14 + 2 * p) 2 = nI H := h.2.2.2.2.2.1
    rw [f_PT_codeRegion_W_L6, f_MO_codeRegion_L6, hw, hw2]
    exact .ilp (nI_le (by omega) (by omega)) (.ckr hc (.irp (nI_le (by omega) (by omega)) (.ret ⟨rfl, h⟩)))
  | succ t ih =>
    intro y n m x4 σ ρ hX h
    have hW := h.2.2.2.1.2.1
    have hH := h.2.2.2.1.2.2.2.1
    have hw : ρ 41 (nI p).toNatClampNeg = nI H := by rw [nI_clamp (by omega)]; exact h.2.2.2.1.2.2.2.2.2.1
    have hw2 : σ (14 + 2 * p) 2 = nI H := h.2.2.2.2.2.1
    rw [show n + (t + 1) + 1 = (n + t + 1) + 1 from by omega, show m + (t + 1) + 1 = (m + t + 1) + 1 from by omega, f_PT_codeRegion_W_L6, f_MO_codeRegion_L6, hw, hw2]
    refine .iln (nI_ge (by omega) (by omega)) (.ckr hc (.irn (nI_ge (by omega) (by omega)) ?_))
    have row : ∀ z σ' ρ', jRg true p W H σ0 ρ0 σ' ρ' → jPP (jbd (f_PT_codeRow_W p (nI t5) (nI y) σ') (fun _ n67 => f_PT_codeRegion_W_L6 p (n + t + 1) (nI t5) x3 z (nI y + 1) n67)) (jbd (f_MO_codeRegion_L63 jfu (nI p) (nI t5) x3 z (nI y) (0 : Int32) (0 : Int32) ρ') (fun q63 m63 => f_MO_codeRegion_L6 (m + t + 1) q63.1 q63.2.1 q63.2.2.1 q63.2.2.2.1 (q63.2.2.2.2.1 + 1) m63)) (fun a m b k => a = b ∧ jRg true p W H σ0 ρ0 m k) := by
      intro z σ' ρ' h'
      unfold f_PT_codeRow_W
      refine .bd (P := fun _ m q k => jRg true p W H σ0 ρ0 m k ∧ jt5 q (nI p) (nI t5) x3 z (nI y)) ?_ ?_
      · rw [show jfu = (19999 - W) + W + 1 from by show 20000 = _; omega]
        exact row_true hp hm (by omega) h5 W 0 _ _ σ' ρ' (by omega) h'
      · rintro _ m1 q k1 ⟨h1, e1, e2, e3, e4, e5⟩
        rw [e1, e2, e3, e4, e5, nI_1]
        exact ih (y + 1) n m z m1 k1 (by omega) h1
    by_cases c3 : x3 = 0
    · exact .ipp c3 (row _ σ ρ h)
    · refine .inn c3 ?_
      unfold f_PT_codeSameness_W
      refine .br (mo_as hp h.2.2.2 (by omega)) ?_
      have hm' : ρ 38 11 = 1 := (h.2.2.1.2.1 11 (by decide) (by decide)).trans hm
      rw [jck_pos (nI_in (show y < 24 by omega) (by decide)), jbd_eq (pi_above (show y < 24 by omega)), nI_clamp (show y < 2 ^ 31 by omega)]
      have key : ∀ d : Int32, (d = 0 ∨ d = 1) → jPP (jbd (jbd (f_WR_decide ((10240 : Int32) + nI t5) d σ) (fun v29 n29 => some (v29, n29))) (fun v24 n24 => if v24 = (1 : Int32) then (jbd (f_PI_rowAbove p (nI y) n24) (fun v55 n55 => jck (¬ (nI y < 0 ∨ 24 ≤ y)) (f_PT_codeRegion_W_L6 p (n + t + 1) (nI t5) x3 (x4 + v24) (nI y + 1) (ju n55 (15 + 2 * p) y v55)))) else (jbd (f_PT_codeRow_W p (nI t5) (nI y) n24) (fun _ n67 => f_PT_codeRegion_W_L6 p (n + t + 1) (nI t5) x3 (x4 + v24) (nI y + 1) n67)))) (jbd (f_MO_decide (((10240 : Int32) + nI t5) - (1 : Int32)) d ρ) (fun v44 n44 => jbd (f_MO_codeRegion_L63 jfu (nI p) (nI t5) x3 (x4 + v44) (nI y) v44 (0 : Int32) n44) (fun q63 m63 => f_MO_codeRegion_L6 (m + t + 1) q63.1 q63.2.1 q63.2.2.1 q63.2.2.2.1 (q63.2.2.2.2.1 + 1) m63))) (fun a m b k => a = b ∧ jRg true p W H σ0 ρ0 m k) := by
        intro d hd
        have e1 : (10240 : Int32) + nI t5 = nI (jx (10239 + t5)) := by
          rw [show (10240 : Int32) = nI 10240 from rfl, nI_add]; unfold jx; rw [if_neg (by omega)]; congr 1; omega
        have e2 : ((10240 : Int32) + nI t5) - 1 = nI (10239 + t5) := by
          rw [show (10240 : Int32) = nI 10240 from rfl, nI_add, show 10240 + t5 = (10239 + t5) + 1 from by omega, nI_pred]
        rw [e2, e1]
        refine .bd (P := fun a m b k => a = b ∧ (a = 0 ∨ a = 1) ∧ jNu true σ ρ m k) (.fl (dec_true (σ0 := σ) (ρ0 := ρ) (d := d) (e := d) (by omega) hm' ⟨h.1, .r _, .r _⟩ (fun _ => ⟨rfl, hd⟩)) ?_) ?_
        · rintro a m1 b k1 ⟨g1, g2, g3, -, -, -⟩
          exact ⟨a, m1, rfl, g1, g2, g3⟩
        · rintro a m1 b k1 ⟨rfl, g2, g3⟩
          have h' := h.n g3
          rcases g2 with rfl | rfl
          · exact .iln (by decide) (row _ m1 k1 h')
          · refine .ilp rfl ?_
            obtain ⟨ρ', q, q1, ⟨z1, z2, z3, z4, z5⟩, q3⟩ := jRg.cp (x2 := nI t5) (x3 := x3) (x4 := x4 + 1) hp h' (show y < H by omega)
            refine .bl (pi_above (by omega)) (.br q1 ?_)
            rw [z1, z2, z3, z4, z5, nI_1]
            refine .ckl (by have := nI_in (c := y) (N := 24) (by omega) (by decide); rw [nI_clamp (by omega)] at this; exact this) ?_
            exact ih (y + 1) n m _ _ _ (by omega) q3
      by_cases ce : σ (15 + 2 * p) y = jab σ p y
      · rw [if_pos ce, if_pos ce]
        exact .irn (by decide) (key 1 (Or.inr rfl))
      · rw [if_neg ce, if_neg ce]
        exact .irp rfl (key 0 (Or.inl rfl))
theorem rgn_true {σ ρ : jMem} {p W H t5 : Nat} {x3 : Int32} (hp : p < 12) (hm : ρ 38 11 = 1) (h5 : 1 ≤ t5 ∧ t5 ≤ 3) (h : jD true σ ρ σ ρ) (hP : jP σ ρ p W H) : jPP (f_PT_codeRegion_W p (nI t5) x3 σ) (f_MO_codeRegion (nI p) (nI t5) x3 ρ) (fun a m b k => a = b ∧ jRg true p W H σ ρ m k) := by
  have hH := hP.1.2.2.2.1
  unfold f_PT_codeRegion_W f_MO_codeRegion
  rw [show jfu = (19999 - H) + H + 1 from by show 20000 = _; omega]
  exact reg_true hp hm h5 H 0 _ _ 0 σ ρ (by omega) ⟨h, .r _ _, .r _ _, hP⟩
set_option maxHeartbeats 1000000 in
theorem row_false {σ0 ρ0 : jMem} {p W H y t5 : Nat} {x3 x4 : Int32} (hp : p < 12) (hm : ρ0 38 11 = 2) (hy : y < H) (h5 : 1 ≤ t5 ∧ t5 ≤ 3) : ∀ t X n m σ ρ, X + t = W → jRg false p W H σ0 ρ0 σ ρ → jPP (f_PT_codeRow_R_L3 p (n + t + 1) (nI t5) (nI y) (nI X) σ) (f_MO_codeRegion_L63 (m + t + 1) (nI p) (nI t5) x3 x4 (nI y) 0 (nI X) ρ) (fun _ m q k => jRg false p W H σ0 ρ0 m k ∧ jt5 q (nI p) (nI t5) x3 x4 (nI y)) := by
  have hc : ¬ (nI p < 0 ∨ 12 ≤ (nI p).toNatClampNeg) := nI_in hp (by decide)
  intro t
  induction t with
  | zero =>
    intro X n m σ ρ hX h
    have hW := h.2.2.2.1.2.1
    have hw : ρ 40 (nI p).toNatClampNeg = nI W := by rw [nI_clamp (by omega)]; exact h.2.2.2.1.2.2.2.2.1
    have hw2 : σ (14 + 2 * p) 1 = nI W := h.2.2.2.2.1
    rw [f_PT_codeRow_R_L3, f_MO_codeRegion_L63, hw, hw2]
    exact .ilp (nI_le (by omega) (by omega)) (.ckr hc (.irp (nI_le (by omega) (by omega)) (.ret ⟨h, rfl, rfl, rfl, rfl, rfl⟩)))
  | succ t ih =>
    intro X n m σ ρ hX h
    have hW := h.2.2.2.1.2.1
    have hH := h.2.2.2.1.2.2.2.1
    have hw : ρ 40 (nI p).toNatClampNeg = nI W := by rw [nI_clamp (by omega)]; exact h.2.2.2.1.2.2.2.2.1
    have hw2 : σ (14 + 2 * p) 1 = nI W := h.2.2.2.2.1
    rw [show n + (t + 1) + 1 = (n + t + 1) + 1 from by omega, show m + (t + 1) + 1 = (m + t + 1) + 1 from by omega, f_PT_codeRow_R_L3, f_MO_codeRegion_L63, hw, hw2]
    refine .iln (nI_ge (by omega) (by omega)) (.ckr hc (.irn (nI_ge (by omega) (by omega)) (.irn (by decide) ?_)))
    rw [nI_1, jcast X, jcast y]
    refine .bl (pt_ctx h.2.2.2 (by omega) (by omega) h5) (.br (mo_ctx hp h.2.2.2.1 (by omega) (by omega) h5) ?_)
    refine .bl (pi_at h.2.2.2 (by constructor <;> omega) (by constructor <;> omega)) (.br (mo_at hp h.2.2.2.1 (by constructor <;> omega) (by constructor <;> omega)) ?_)
    have hl := jctx_lt ρ p t5 (X : Int) (y : Int)
    have hm' : ρ 38 11 = 2 := (h.2.2.1.2.1 11 (by decide) (by decide)).trans hm
    have hd := dec_false (σ0 := σ) (ρ0 := ρ) (σ := σ) (ρ := ρ) (i := jctx ρ p t5 (X : Int) (y : Int)) (d := jb (jat ρ p (X : Int) (y : Int))) (e := jb (jat ρ p (X : Int) (y : Int))) (by omega) hm' ⟨h.1, .r _, .r _⟩ (fun _ => ⟨rfl, jb01 _⟩)
    rw [jx_s hl] at hd
    refine .bd hd ?_
    rintro a p1 b q1 ⟨rfl, a01, hn, -, -, -⟩
    obtain ⟨d, rfl⟩ := jn01 a01
    rw [iI_nI, iI_nI]
    refine .bl (pi_set (by omega) (by omega)) (.br (mo_ink hp (by omega) (by omega)) ?_)
    exact ih (X + 1) n m _ _ (by omega) ((h.n hn).set (by omega) hy)
set_option maxHeartbeats 1000000 in
theorem reg_false {σ0 ρ0 : jMem} {p W H t5 : Nat} {x3 : Int32} (hp : p < 12) (hm : ρ0 38 11 = 2) (h5 : 1 ≤ t5 ∧ t5 ≤ 3) : ∀ t y n m x4 σ ρ, y + t = H → jRg false p W H σ0 ρ0 σ ρ → jPP (f_PT_codeRegion_R_L6 p (n + t + 1) (nI t5) x3 x4 (nI y) σ) (f_MO_codeRegion_L6 (m + t + 1) (nI p) (nI t5) x3 x4 (nI y) ρ) (fun a m b k => a = b ∧ jRg false p W H σ0 ρ0 m k) := by
  have hc : ¬ (nI p < 0 ∨ 12 ≤ (nI p).toNatClampNeg) := nI_in hp (by decide)
  intro t
  induction t with
  | zero =>
    intro y n m x4 σ ρ hX h
    have hH := h.2.2.2.1.2.2.2.1
    have hw : ρ 41 (nI p).toNatClampNeg = nI H := by rw [nI_clamp (by omega)]; exact h.2.2.2.1.2.2.2.2.2.1
    have hw2 : σ (14 + 2 * p) 2 = nI H := h.2.2.2.2.2.1
    rw [f_PT_codeRegion_R_L6, f_MO_codeRegion_L6, hw, hw2]
    exact .ilp (nI_le (by omega) (by omega)) (.ckr hc (.irp (nI_le (by omega) (by omega)) (.ret ⟨rfl, h⟩)))
  | succ t ih =>
    intro y n m x4 σ ρ hX h
    have hW := h.2.2.2.1.2.1
    have hH := h.2.2.2.1.2.2.2.1
    have hw : ρ 41 (nI p).toNatClampNeg = nI H := by rw [nI_clamp (by omega)]; exact h.2.2.2.1.2.2.2.2.2.1
    have hw2 : σ (14 + 2 * p) 2 = nI H := h.2.2.2.2.2.1
    rw [show n + (t + 1) + 1 = (n + t + 1) + 1 from by omega, show m + (t + 1) + 1 = (m + t + 1) + 1 from by omega, f_PT_codeRegion_R_L6, f_MO_codeRegion_L6, hw, hw2]
    refine .iln (nI_ge (by omega) (by omega)) (.ckr hc (.irn (nI_ge (by omega) (by omega)) ?_))
    have row : ∀ z σ' ρ', jRg false p W H σ0 ρ0 σ' ρ' → jPP (jbd (f_PT_codeRow_R p (nI t5) (nI y) σ') (fun _ n67 => f_PT_codeRegion_R_L6 p (n + t + 1) (nI t5) x3 z (nI y + 1) n67)) (jbd (f_MO_codeRegion_L63 jfu (nI p) (nI t5) x3 z (nI y) (0 : Int32) (0 : Int32) ρ') (fun q63 m63 => f_MO_codeRegion_L6 (m + t + 1) q63.1 q63.2.1 q63.2.2.1 q63.2.2.2.1 (q63.2.2.2.2.1 + 1) m63)) (fun a m b k => a = b ∧ jRg false p W H σ0 ρ0 m k) := by
      intro z σ' ρ' h'
      unfold f_PT_codeRow_R
      refine .bd (P := fun _ m q k => jRg false p W H σ0 ρ0 m k ∧ jt5 q (nI p) (nI t5) x3 z (nI y)) ?_ ?_
      · rw [show jfu = (19999 - W) + W + 1 from by show 20000 = _; omega]
        exact row_false hp hm (by omega) h5 W 0 _ _ σ' ρ' (by omega) h'
      · rintro _ m1 q k1 ⟨h1, e1, e2, e3, e4, e5⟩
        rw [e1, e2, e3, e4, e5, nI_1]
        exact ih (y + 1) n m z m1 k1 (by omega) h1
    by_cases c3 : x3 = 0
    · exact .ipp c3 (row _ σ ρ h)
    · refine .inn c3 ?_
      unfold f_PT_codeSameness_R
      refine .br (mo_as hp h.2.2.2 (by omega)) ?_
      have hm' : ρ 38 11 = 2 := (h.2.2.1.2.1 11 (by decide) (by decide)).trans hm
      rw [jck_pos (nI_in (show y < 24 by omega) (by decide)), jbd_eq (pi_above (show y < 24 by omega)), nI_clamp (show y < 2 ^ 31 by omega)]
      have key : ∀ d : Int32, (d = 0 ∨ d = 1) → jPP (jbd (jbd (f_RD_decide ((10240 : Int32) + nI t5) d σ) (fun v29 n29 => some (v29, n29))) (fun v24 n24 => if v24 = (1 : Int32) then (jbd (f_PI_rowAbove p (nI y) n24) (fun v55 n55 => jck (¬ (nI y < 0 ∨ 24 ≤ y)) (f_PT_codeRegion_R_L6 p (n + t + 1) (nI t5) x3 (x4 + v24) (nI y + 1) (ju n55 (15 + 2 * p) y v55)))) else (jbd (f_PT_codeRow_R p (nI t5) (nI y) n24) (fun _ n67 => f_PT_codeRegion_R_L6 p (n + t + 1) (nI t5) x3 (x4 + v24) (nI y + 1) n67)))) (jbd (f_MO_decide (((10240 : Int32) + nI t5) - (1 : Int32)) d ρ) (fun v44 n44 => jbd (f_MO_codeRegion_L63 jfu (nI p) (nI t5) x3 (x4 + v44) (nI y) v44 (0 : Int32) n44) (fun q63 m63 => f_MO_codeRegion_L6 (m + t + 1) q63.1 q63.2.1 q63.2.2.1 q63.2.2.2.1 (q63.2.2.2.2.1 + 1) m63))) (fun a m b k => a = b ∧ jRg false p W H σ0 ρ0 m k) := by
        intro d hd
        have e1 : (10240 : Int32) + nI t5 = nI (jx (10239 + t5)) := by
          rw [show (10240 : Int32) = nI 10240 from rfl, nI_add]; unfold jx; rw [if_neg (by omega)]; congr 1; omega
        have e2 : ((10240 : Int32) + nI t5) - 1 = nI (10239 + t5) := by
          rw [show (10240 : Int32) = nI 10240 from rfl, nI_add, show 10240 + t5 = (10239 + t5) + 1 from by omega, nI_pred]
        rw [e2, e1]
        refine .bd (P := fun a m b k => a = b ∧ (a = 0 ∨ a = 1) ∧ jNu false σ ρ m k) (.fl (dec_false (σ0 := σ) (ρ0 := ρ) (d := d) (e := d) (by omega) hm' ⟨h.1, .r _, .r _⟩ (fun _ => ⟨rfl, hd⟩)) ?_) ?_
        · rintro a m1 b k1 ⟨g1, g2, g3, -, -, -⟩
          exact ⟨a, m1, rfl, g1, g2, g3⟩
        · rintro a m1 b k1 ⟨rfl, g2, g3⟩
          have h' := h.n g3
          rcases g2 with rfl | rfl
          · exact .iln (by decide) (row _ m1 k1 h')
          · refine .ilp rfl ?_
            obtain ⟨ρ', q, q1, ⟨z1, z2, z3, z4, z5⟩, q3⟩ := jRg.cp (x2 := nI t5) (x3 := x3) (x4 := x4 + 1) hp h' (show y < H by omega)
            refine .bl (pi_above (by omega)) (.br q1 ?_)
            rw [z1, z2, z3, z4, z5, nI_1]
            refine .ckl (by have := nI_in (c := y) (N := 24) (by omega) (by decide); rw [nI_clamp (by omega)] at this; exact this) ?_
            exact ih (y + 1) n m _ _ _ (by omega) q3
      by_cases ce : σ (15 + 2 * p) y = jab σ p y
      · rw [if_pos ce, if_pos ce]
        exact .irn (by decide) (key 1 (Or.inr rfl))
      · rw [if_neg ce, if_neg ce]
        exact .irp rfl (key 0 (Or.inl rfl))
theorem rgn_false {σ ρ : jMem} {p W H t5 : Nat} {x3 : Int32} (hp : p < 12) (hm : ρ 38 11 = 2) (h5 : 1 ≤ t5 ∧ t5 ≤ 3) (h : jD false σ ρ σ ρ) (hP : jP σ ρ p W H) : jPP (f_PT_codeRegion_R p (nI t5) x3 σ) (f_MO_codeRegion (nI p) (nI t5) x3 ρ) (fun a m b k => a = b ∧ jRg false p W H σ ρ m k) := by
  have hH := hP.1.2.2.2.1
  unfold f_PT_codeRegion_R f_MO_codeRegion
  rw [show jfu = (19999 - H) + H + 1 from by show 20000 = _; omega]
  exact reg_false hp hm h5 H 0 _ _ 0 σ ρ (by omega) ⟨h, .r _ _, .r _ _, hP⟩
