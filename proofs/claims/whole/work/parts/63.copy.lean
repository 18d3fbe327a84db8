/-! sums of points; copies -/
def jsr (g : Nat → Nat) : Nat → Nat
  | 0 => 0
  | n + 1 => jsr g n + g n
theorem jsr_c {f g : Nat → Nat} : ∀ n, (∀ i, i < n → f i = g i) → jsr f n = jsr g n := by
  intro n
  induction n with
  | zero => intro _; rfl
  | succ n ih => intro h; simp only [jsr]; rw [ih (fun i hi => h i (by omega)), h n (by omega)]
theorem jsr_0 {g : Nat → Nat} {m : Nat} : ∀ n, (∀ i, m ≤ i → i < m + n → g i = 0) → jsr g (m + n) = jsr g m := by
  intro n
  induction n with
  | zero => intro _; rfl
  | succ n ih => intro h; rw [← Nat.add_assoc]; simp only [jsr]; rw [ih (fun i h1 h2 => h i h1 (by omega)), h (m + n) (by omega) (by omega)]; rfl
theorem jcn_0 {f : Nat → Bool} : ∀ n, (∀ i, i < n → f i = false) → jcn f n = 0 := by
  intro n
  induction n with
  | zero => intro _; rfl
  | succ n ih => intro h; simp only [jcn]; rw [ih (fun i hi => h i (by omega)), h n (by omega)]; rfl
theorem ones_L {σ : jMem} {p H : Nat} (hH : H ≤ 24) (h : σ (14 + 2 * p) 2 = nI H) : ∀ t y n, y + t = H → f_PI_ones_L4 p (n + t + 1) (nI (jsr (fun y => jcn (bt (σ (15 + 2 * p) y)) 32) y)) (nI y) σ = some (nI (jsr (fun y => jcn (bt (σ (15 + 2 * p) y)) 32) H), σ) := by
  intro t
  induction t with
  | zero =>
    intro y n hy
    rw [f_PI_ones_L4, h, if_pos (nI_le (by omega) (by omega)), show y = H from by omega]
  | succ t ih =>
    intro y n hy
    rw [show n + (t + 1) + 1 = (n + t + 1) + 1 from by omega, f_PI_ones_L4, h, if_neg (nI_ge (by omega) (by omega)), jck_pos (nI_in (by omega) (by decide)), nI_clamp (by omega), jbc32, nI_add, nI_1]
    exact ih (y + 1) n (by omega)
theorem pi_ones {σ ρ : jMem} {p W H : Nat} (h : jP σ ρ p W H) : f_PI_ones p σ = some (nI (jsr (fun y => jcn (bt (ρ 39 (24 * p + y))) 24) H), σ) := by
  have hH := h.1.2.2.2.1
  unfold f_PI_ones
  rw [show jfu = (19999 - H) + H + 1 from by show 20000 = _; omega]
  have := ones_L (σ := σ) (p := p) hH h.2.2.1 H 0 (19999 - H) (by omega)
  rw [show nI (jsr (fun y => jcn (bt (σ (15 + 2 * p) y)) 32) 0) = 0 from rfl, show nI 0 = 0 from rfl] at this
  rw [this, jsr_c H (fun y hy => h.cnt (by omega))]
def jbF (ρ : jMem) (b k : Nat) : Bool := bt (ρ 39 (24 * b + k / 24)) (k % 24)
theorem jbF_sum (ρ : jMem) (b : Nat) : ∀ n, jcn (jbF ρ b) (24 * n) = jsr (fun y => jcn (bt (ρ 39 (24 * b + y))) 24) n := by
  intro n
  induction n with
  | zero => rfl
  | succ n ih =>
    rw [show 24 * (n + 1) = 24 * n + 24 from by omega, jcn_add, ih]
    simp only [jsr]
    congr 1
    refine jcn_c 24 ?_
    intro i hi
    unfold jbF
    rw [show (24 * n + i) / 24 = n from by omega, show (24 * n + i) % 24 = i from by omega]
theorem board_L {ρ : jMem} {b : Nat} {x2 : Int32} (hb : b < 12) : ∀ t k n, k + t = 576 → f_MO_board_L43 (n + t + 1) (nI b) x2 (nI (jcn (jbF ρ b) k)) (nI k) ρ = some (if x2 = 0 then nI (jcn (jbF ρ b) 576) else if x2 = 1 then ρ 40 b else ρ 41 b, ρ) := by
  have hc : ¬ (nI b < 0 ∨ 12 ≤ (nI b).toNatClampNeg) := nI_in hb (by decide)
  intro t
  induction t with
  | zero =>
    intro k n hk
    rw [f_MO_board_L43, if_pos (show (576 : Int32) ≤ nI k from nI_le (a := 576) (by omega) (by omega)), jck_pos hc, jck_pos hc, nI_clamp (by omega), show k = 576 from by omega]
    by_cases c0 : x2 = 0
    · rw [if_pos c0, if_pos c0]
    · by_cases c1 : x2 = 1
      · rw [if_neg c0, if_pos c1, if_neg c0, if_pos c1]
      · rw [if_neg c0, if_neg c1, if_neg c0, if_neg c1]
  | succ t ih =>
    intro k n hk
    have e1 : nI k / (24 : Int32) = nI (k / 24) := pk_div (d := 24) (by omega) (by decide) (by decide)
    have e2 : nI k - nI k / (24 : Int32) * (24 : Int32) = nI (k % 24) := pk_rem (d := 24) (by omega) (by decide) (by decide)
    rw [show n + (t + 1) + 1 = (n + t + 1) + 1 from by omega, f_MO_board_L43, if_neg (show ¬ (576 : Int32) ≤ nI k from nI_ge (b := 576) (by omega) (by omega)), e2, e1, j24, jck_pos (nI_in (by omega) (by decide)), nI_clamp (by omega), b_and1, b_sshr (k % 24) (by omega) _ (by decide), if_pos (by omega), jtn, nI_add, nI_1]
    exact ih (k + 1) n (by omega)
theorem mo_ones {ρ : jMem} {b W H : Nat} {x2 : Int32} (hb : b < 12) (h : jQz ρ b W H) : f_MO_board_L43 jfu (nI b) x2 (0 : Int32) (0 : Int32) ρ = some (if x2 = 0 then nI (jsr (fun y => jcn (bt (ρ 39 (24 * b + y))) 24) H) else if x2 = 1 then nI W else nI H, ρ) := by
  have hH := h.2.2.2.1
  have := board_L (ρ := ρ) (x2 := x2) hb 576 0 19423 rfl
  rw [show nI (jcn (jbF ρ b) 0) = 0 from rfl, show nI 0 = 0 from rfl] at this
  rw [show jfu = 19423 + 576 + 1 from rfl, this, show 576 = 24 * 24 from rfl, jbF_sum, show 24 = H + (24 - H) from by omega, jsr_0, h.2.2.2.2.1, h.2.2.2.2.2.1]
  intro y h1 h2
  refine jcn_0 _ ?_
  intro i _
  cases e : bt (ρ 39 ((H + (24 - H)) * b + y)) i with
  | false => rfl
  | true =>
    rw [show H + (24 - H) = 24 from by omega] at e
    have := (h.2.2.2.2.2.2 y (by omega) i e).2
    omega
theorem jKd.z {p : Nat} {a b : jMem} (h : jKd p a b) : jKz p a b := ⟨fun o h1 _ _ => h.1 o h1, fun i _ => ⟨by rw [h.1 40 (by decide)], by rw [h.1 41 (by decide)]⟩, h.2⟩
theorem jKz.t {p : Nat} {a b c : jMem} (h : jKz p a b) (k : jKz p b c) : jKz p a c := ⟨fun o h1 h2 h3 => (k.1 o h1 h2 h3).trans (h.1 o h1 h2 h3), fun i hi => ⟨((k.2.1 i hi).1).trans (h.2.1 i hi).1, ((k.2.1 i hi).2).trans (h.2.1 i hi).2⟩, fun i hi => (k.2.2 i hi).trans (h.2.2 i hi)⟩
theorem copy_learn {σ ρ : jMem} {p q W H : Nat} (hp : p < 12) (hq : q < 12) (hpq : q ≠ p) (h : jP σ ρ q W H) : ∃ σ' ρ1 ρ2, f_PI_copy p q σ = some ((), σ') ∧ f_MO_resize (nI p) (nI W) (nI H) ρ = some ((), ρ1) ∧ f_MO_lay (nI p) (nI q) 0 0 4 ρ1 = some ((), ρ2) ∧ jKb p σ σ' ∧ jKz p ρ ρ2 ∧ jP σ' ρ2 p W H := by
  have hW := h.1.2.1
  have hH := h.1.2.2.2.1
  obtain ⟨ρ1, r1, r2, r3, r4⟩ := mo_resize (ρ := ρ) (W := W) (H := H) hp ⟨h.1.1, hW⟩ ⟨h.1.2.2.1, hH⟩
  have hq1 : jQz ρ1 q W H := h.1.c (fun y hy => r2.2.2 _ (by omega)) (r2.2.1 q hpq).1 (r2.2.1 q hpq).2
  obtain ⟨ρ2, l1, l2, l3, l4⟩ := mo_lay (ρ := ρ1) (x := 0) (y := 0) (op := 4) hp hq hpq (by decide) (by decide) r3 hq1
  have bits : ∀ Y, Y < 24 → ∀ i, i < 32 → bt (ρ2 39 (24 * p + Y)) i = jat ρ q i Y := by
    intro Y hY i hi
    rw [l4 Y hY i hi]
    have e : jat ρ1 q (i : Int) (Y : Int) = jat ρ q i Y := jat_c (fun y hy => r2.2.2 _ (by omega)) _ _
    unfold jdr
    by_cases c : (0 ≤ (i : Int) ∧ (i : Int) < W ∧ 0 ≤ (Y : Int) ∧ (Y : Int) < H) ∧ (0 ≤ (i : Int) ∧ (i : Int) < 0 + W ∧ 0 ≤ (Y : Int) ∧ (Y : Int) < 0 + H)
    · rw [if_pos c, Int.sub_zero, Int.sub_zero, e]
      rfl
    · rw [if_neg c, r3.out (by omega), h.1.out (by omega)]
  refine ⟨_, ρ1, ρ2, rfl, r1, l1, ?_, r2.t l2.z, l3, ?_, ?_, ?_⟩
  · intro o h1 h2
    unfold jcp
    simp only [if_neg h2]
    rw [ju_n h1, ju_n h1]
  · unfold jcp
    simp only [if_neg (show ¬ 14 + 2 * p = 15 + 2 * p by omega)]
    rw [ju_ap, if_pos rfl, if_neg (by decide), ju_ap, if_pos rfl, if_pos rfl]
    exact h.2.1
  · unfold jcp
    simp only [if_neg (show ¬ 14 + 2 * p = 15 + 2 * p by omega)]
    rw [ju_ap, if_pos rfl, if_pos rfl, ju_n (by omega)]
    exact h.2.2.1
  · intro y hy j hj
    have e : (jcp (ju (ju σ (14 + 2 * p) 1 (σ (14 + 2 * q) 1)) (14 + 2 * p) 2 ((ju σ (14 + 2 * p) 1 (σ (14 + 2 * q) 1)) (14 + 2 * q) 2)) (15 + 2 * q) (15 + 2 * p) (0 : Int32).toNatClampNeg (0 : Int32).toNatClampNeg (24 : Int32).toNatClampNeg) (15 + 2 * p) y = σ (15 + 2 * q) y := by
      unfold jcp
      rw [if_pos rfl]
      rw [show (0 : Int32).toNatClampNeg = 0 from rfl, show (24 : Int32).toNatClampNeg = 24 from rfl, pk_cpy_in (by omega) (by omega), ju_n (by omega), ju_n (by omega)]
      congr 1
      omega
    rw [e, h.bit hy hj, bits y hy _ (by omega)]
