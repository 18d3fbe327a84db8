def bt (x : Int32) (i : Nat) : Bool := x.toBitVec.getLsbD i
theorem b_ext {x y : Int32} (h : ∀ i, i < 32 → bt x i = bt y i) : x = y := Int32.toBitVec_inj.mp (BitVec.eq_of_getLsbD_eq (fun i hi => h i hi))
theorem b_or (x y : Int32) (i : Nat) : bt (x ||| y) i = (bt x i || bt y i) := by unfold bt; rw [Int32.toBitVec_or, BitVec.getLsbD_or]
theorem b_and (x y : Int32) (i : Nat) : bt (x &&& y) i = (bt x i && bt y i) := by unfold bt; rw [Int32.toBitVec_and, BitVec.getLsbD_and]
theorem b_xor (x y : Int32) (i : Nat) : bt (x ^^^ y) i = (bt x i ^^ bt y i) := by unfold bt; rw [Int32.toBitVec_xor, BitVec.getLsbD_xor]
theorem b_big {x : Int32} {i : Nat} (h : 32 ≤ i) : bt x i = false := BitVec.getLsbD_of_ge _ _ h
theorem b_255 (i : Nat) : bt 255 i = decide (i < 8) := by
  rcases Nat.lt_or_ge i 32 with h | h
  · exact (by decide +kernel : ∀ i, i < 32 → bt 255 i = decide (i < 8)) i h
  · rw [b_big h, decide_eq_false (by omega)]
theorem b_65535 (i : Nat) : bt 65535 i = decide (i < 16) := by
  rcases Nat.lt_or_ge i 32 with h | h
  · exact (by decide +kernel : ∀ i, i < 32 → bt 65535 i = decide (i < 16)) i h
  · rw [b_big h, decide_eq_false (by omega)]
theorem b_m1 : ∀ i, i < 32 → bt (-1) i = true := by decide +kernel
theorem b_0 (i : Nat) : bt 0 i = false := BitVec.getLsbD_zero
theorem s_l : ∀ n, n < 32 → ((nI n &&& 31).toBitVec.smod 32).toNat = n := by decide +kernel
theorem s_u : ∀ n, n < 32 → (((nI n).toUInt32 &&& Int32.toUInt32 31).toBitVec % 32).toNat = n := by decide +kernel
theorem b_shl (n : Nat) (hn : n < 32) (x : Int32) {i : Nat} (hi : i < 32) : bt (x <<< (nI n &&& 31)) i = (decide (n ≤ i) && bt x (i - n)) := by
  unfold bt
  rw [Int32.toBitVec_shiftLeft]
  show (x.toBitVec <<< ((nI n &&& 31).toBitVec.smod 32).toNat).getLsbD i = _
  rw [s_l n hn, BitVec.getLsbD_shiftLeft]
  rcases Nat.lt_or_ge i n with h | h
  · simp [h, Nat.not_le.mpr h]
  · simp [hi, h, Nat.not_lt.mpr h]
theorem b_ushr (n : Nat) (hn : n < 32) (x : Int32) (i : Nat) : bt ((x.toUInt32 >>> ((nI n).toUInt32 &&& Int32.toUInt32 31)).toInt32) i = bt x (n + i) := by
  show (x.toUInt32 >>> ((nI n).toUInt32 &&& Int32.toUInt32 31)).toBitVec.getLsbD i = x.toUInt32.toBitVec.getLsbD (n + i)
  rw [UInt32.toBitVec_shiftRight]
  show (x.toUInt32.toBitVec >>> (((nI n).toUInt32 &&& Int32.toUInt32 31).toBitVec % 32).toNat).getLsbD i = _
  rw [s_u n hn, BitVec.getLsbD_ushiftRight]
theorem b_sshr (n : Nat) (hn : n < 32) (x : Int32) {i : Nat} (hi : i < 32) : bt (x >>> (nI n &&& 31)) i = if n + i < 32 then bt x (n + i) else bt x 31 := by
  unfold bt
  rw [Int32.toBitVec_shiftRight]
  show (x.toBitVec.sshiftRight ((nI n &&& 31).toBitVec.smod 32).toNat).getLsbD i = _
  rw [s_l n hn, BitVec.getLsbD_sshiftRight, BitVec.msb_eq_getLsbD_last]
  simp [hi]
theorem b_shl8 (x : Int32) {i : Nat} (hi : i < 32) : bt (x <<< ((8 : Int32) &&& 31)) i = (decide (8 ≤ i) && bt x (i - 8)) := b_shl 8 (by omega) x hi
theorem b_shl16 (x : Int32) {i : Nat} (hi : i < 32) : bt (x <<< ((16 : Int32) &&& 31)) i = (decide (16 ≤ i) && bt x (i - 16)) := b_shl 16 (by omega) x hi
theorem b_shl24 (x : Int32) {i : Nat} (hi : i < 32) : bt (x <<< ((24 : Int32) &&& 31)) i = (decide (24 ≤ i) && bt x (i - 24)) := b_shl 24 (by omega) x hi
theorem b_sshr8 (x : Int32) {i : Nat} (hi : i < 32) : bt (x >>> ((8 : Int32) &&& 31)) i = if 8 + i < 32 then bt x (8 + i) else bt x 31 := b_sshr 8 (by omega) x hi
/-! the pure side: pairs of runs (the class's on one memory, the reference's on another), and their rules -/
def jPP {α β : Type} (x : Option (α × jMem)) (y : Option (β × jMem)) (P : α → jMem → β → jMem → Prop) : Prop := ∃ a m b n, x = some (a, m) ∧ y = some (b, n) ∧ P a m b n
theorem jPP.ret {α β : Type} {a : α} {b : β} {m n : jMem} {P : α → jMem → β → jMem → Prop} (h : P a m b n) : jPP (some (a, m)) (some (b, n)) P := ⟨a, m, b, n, rfl, rfl, h⟩
theorem jPP.bd {α β γ δ : Type} {x : Option (α × jMem)} {y : Option (β × jMem)} {f : α → jMem → Option (γ × jMem)} {g : β → jMem → Option (δ × jMem)} {P : α → jMem → β → jMem → Prop} {Q : γ → jMem → δ → jMem → Prop} (h : jPP x y P) (k : ∀ a m b n, P a m b n → jPP (f a m) (g b n) Q) : jPP (jbd x f) (jbd y g) Q := by
  obtain ⟨a, m, b, n, rfl, rfl, hp⟩ := h
  exact k a m b n hp
theorem jPP.mono {α β : Type} {x : Option (α × jMem)} {y : Option (β × jMem)} {P Q : α → jMem → β → jMem → Prop} (h : jPP x y P) (k : ∀ a m b n, P a m b n → Q a m b n) : jPP x y Q := by
  obtain ⟨a, m, b, n, hx, hy, hp⟩ := h
  exact ⟨a, m, b, n, hx, hy, k a m b n hp⟩
theorem jPP.ckl {α β : Type} {c : Prop} [Decidable c] {x : Option (α × jMem)} {y : Option (β × jMem)} {Q : α → jMem → β → jMem → Prop} (h : c) (k : jPP x y Q) : jPP (jck c x) y Q := by rw [jck_pos h]; exact k
theorem jPP.ckr {α β : Type} {c : Prop} [Decidable c] {x : Option (α × jMem)} {y : Option (β × jMem)} {Q : α → jMem → β → jMem → Prop} (h : c) (k : jPP x y Q) : jPP x (jck c y) Q := by rw [jck_pos h]; exact k
theorem jPP.bl {α β γ : Type} {x : Option (γ × jMem)} {f : γ → jMem → Option (α × jMem)} {y : Option (β × jMem)} {Q : α → jMem → β → jMem → Prop} {a : γ} {m : jMem} (h : x = some (a, m)) (k : jPP (f a m) y Q) : jPP (jbd x f) y Q := by rw [jbd_eq h]; exact k
theorem jPP.br {α β γ : Type} {x : Option (γ × jMem)} {f : γ → jMem → Option (β × jMem)} {y : Option (α × jMem)} {Q : α → jMem → β → jMem → Prop} {a : γ} {m : jMem} (h : x = some (a, m)) (k : jPP y (f a m) Q) : jPP y (jbd x f) Q := by rw [jbd_eq h]; exact k
theorem jPP.ilp {α β : Type} {c : Prop} [Decidable c] {x x' : Option (α × jMem)} {y : Option (β × jMem)} {Q : α → jMem → β → jMem → Prop} (h : c) (k : jPP x y Q) : jPP (if c then x else x') y Q := by rw [if_pos h]; exact k
theorem jPP.iln {α β : Type} {c : Prop} [Decidable c] {x x' : Option (α × jMem)} {y : Option (β × jMem)} {Q : α → jMem → β → jMem → Prop} (h : ¬ c) (k : jPP x' y Q) : jPP (if c then x else x') y Q := by rw [if_neg h]; exact k
theorem jPP.irp {α β : Type} {c : Prop} [Decidable c] {x x' : Option (β × jMem)} {y : Option (α × jMem)} {Q : α → jMem → β → jMem → Prop} (h : c) (k : jPP y x Q) : jPP y (if c then x else x') Q := by rw [if_pos h]; exact k
theorem jPP.irn {α β : Type} {c : Prop} [Decidable c] {x x' : Option (β × jMem)} {y : Option (α × jMem)} {Q : α → jMem → β → jMem → Prop} (h : ¬ c) (k : jPP y x' Q) : jPP y (if c then x else x') Q := by rw [if_neg h]; exact k
theorem jPP.ipp {α β : Type} {c : Prop} [Decidable c] {x x' : Option (α × jMem)} {y y' : Option (β × jMem)} {Q : α → jMem → β → jMem → Prop} (h : c) (k : jPP x y Q) : jPP (if c then x else x') (if c then y else y') Q := .ilp h (.irp h k)
theorem jPP.inn {α β : Type} {c : Prop} [Decidable c] {x x' : Option (α × jMem)} {y y' : Option (β × jMem)} {Q : α → jMem → β → jMem → Prop} (h : ¬ c) (k : jPP x' y' Q) : jPP (if c then x else x') (if c then y else y') Q := .iln h (.irn h k)
theorem ju_ap (σ : jMem) (o k a b : Nat) (v : Int32) : ju σ o k v a b = if a = o then (if b = k then v else σ a b) else σ a b := by
  unfold ju upd
  by_cases h : a = o
  · subst h; simp
  · simp [h]
/-- what the coder leaves alone: of the class, of the reference -/
def jK (σ0 σ : jMem) : Prop := ∀ o, o ≠ 8 → o ≠ 9 → o ≠ 11 → o ≠ 12 → o ≠ 13 → σ o = σ0 o
def jKr (ρ0 ρ : jMem) : Prop := (∀ o, o ≠ 38 → o ≠ 45 → o ≠ 46 → ρ o = ρ0 o) ∧ (∀ k, k ≠ 9 → ¬ (12 ≤ k ∧ k ≤ 17) → ρ 38 k = ρ0 38 k)
theorem jK.r (σ : jMem) : jK σ σ := fun _ _ _ _ _ _ => rfl
theorem jKr.r (σ : jMem) : jKr σ σ := ⟨fun _ _ _ _ => rfl, fun _ _ _ => rfl⟩
theorem jK.t {a b c : jMem} (h : jK a b) (k : jK b c) : jK a c := fun o h1 h2 h3 h4 h5 => (k o h1 h2 h3 h4 h5).trans (h o h1 h2 h3 h4 h5)
theorem jKr.t {a b c : jMem} (h : jKr a b) (k : jKr b c) : jKr a c := ⟨fun o h1 h2 h3 => (k.1 o h1 h2 h3).trans (h.1 o h1 h2 h3), fun o h1 h2 => (k.2 o h1 h2).trans (h.2 o h1 h2)⟩
theorem jK.u {σ0 σ : jMem} (h : jK σ0 σ) {o k : Nat} {v : Int32} (ho : o = 8 ∨ o = 9 ∨ o = 11 ∨ o = 12 ∨ o = 13) : jK σ0 (ju σ o k v) := by
  intro a h1 h2 h3 h4 h5
  rw [ju_n (by rintro rfl; rcases ho with h | h | h | h | h <;> contradiction)]
  exact h a h1 h2 h3 h4 h5
theorem jKr.u {ρ0 ρ : jMem} (h : jKr ρ0 ρ) {k : Nat} {v : Int32} (hk : k = 9 ∨ (12 ≤ k ∧ k ≤ 17)) : jKr ρ0 (ju ρ 38 k v) := by
  refine ⟨fun o h1 h2 h3 => ?_, fun j h1 h2 => ?_⟩
  · rw [ju_n h1]; exact h.1 o h1 h2 h3
  · rw [ju_ap, if_pos rfl, if_neg (by rintro rfl; rcases hk with h | h <;> contradiction)]; exact h.2 j h1 h2
theorem jKr.v {ρ0 ρ : jMem} (h : jKr ρ0 ρ) {o k : Nat} {v : Int32} (ho : o = 45 ∨ o = 46) : jKr ρ0 (ju ρ o k v) := by
  refine ⟨fun a h1 h2 h3 => ?_, fun j h1 h2 => ?_⟩
  · rw [ju_n (by rintro rfl; rcases ho with h | h <;> contradiction)]; exact h.1 a h1 h2 h3
  · rw [ju_ap, if_neg (by rcases ho with h | h <;> omega)]; exact h.2 j h1 h2
/-- contexts: the class has one more, unused -/
def jx (i : Nat) : Nat := if i < 10240 then i else i + 1
theorem jx_inj {i j : Nat} (h : jx i = jx j) : i = j := by
  unfold jx at h
  split at h <;> split at h <;> omega
theorem jx_lt {i : Nat} (h : i < 15883) : jx i < 15884 := by
  unfold jx
  split <;> omega
def jCx (σ ρ : jMem) : Prop := ∀ i, i < 15883 → ∃ k, k < 94 ∧ ρ 46 i = nI k ∧ σ 11 (jx i) = nI k
theorem jCx.c {σ ρ σ' ρ' : jMem} (h : jCx σ ρ) (h1 : σ' 11 = σ 11) (h2 : ρ' 46 = ρ 46) : jCx σ' ρ' := by
  intro i hi
  rw [h1, h2]
  exact h i hi
theorem jCx.u {σ ρ : jMem} (h : jCx σ ρ) {i k : Nat} (hi : i < 15883) (hk : k < 94) : jCx (ju σ 11 (jx i) (nI k)) (ju ρ 46 i (nI k)) := by
  intro j hj
  by_cases e : j = i
  · subst e
    exact ⟨k, hk, by simp [ju_ap], by simp [ju_ap]⟩
  · have e2 : jx j ≠ jx i := fun q => e (jx_inj q)
    obtain ⟨q, h1, h2, h3⟩ := h j hj
    exact ⟨q, h1, by simp [ju_ap, e, h2], by simp [ju_ap, e2, h3]⟩
def jz : jMem := fun _ _ => 0
def jq (k : Nat) : Int32 := f_MO_sizeOf (nI k / 2) jz
def jl (k : Nat) : Int32 := nI k - nI k / 2 * 2
def jnx (k : Nat) : Nat := (2 * f_MO_nextOf (nI k / 2) jz + jl k).toNatClampNeg
def jlz (k : Nat) : Nat := (2 * f_MO_lessOf (nI k / 2) jz + (if nI k / 2 = 0 ∨ nI k / 2 = 6 ∨ nI k / 2 = 14 then 1 - jl k else jl k)).toNatClampNeg
theorem jt_1 : ∀ k, k < 94 → (¬ ((nI k >>> ((1 : Int32) &&& 31)) < 0 ∨ 47 ≤ (nI k >>> ((1 : Int32) &&& 31)).toNatClampNeg)) ∧ jS_SIZES.2.2.2.getD (nI k >>> ((1 : Int32) &&& 31)).toNatClampNeg 0 = jq k ∧ (nI k &&& 1) = jl k ∧ (jl k = 0 ∨ jl k = 1) ∧ 1 ≤ (jq k).toNatClampNeg ∧ (jq k).toNatClampNeg ≤ 22017 ∧ jq k = nI (jq k).toNatClampNeg := by decide +kernel
theorem jt_2 : ∀ k, k < 94 → jnx k < 94 ∧ 2 * f_MO_nextOf (nI k / 2) jz + jl k = nI (jnx k) ∧ 2 * (jS_NEXT.2.2.2.getD (nI k >>> ((1 : Int32) &&& 31)).toNatClampNeg 0) + jl k = nI (jnx k) := by decide +kernel
theorem jt_3 : ∀ k, k < 94 → jlz k < 94 ∧ 2 * f_MO_lessOf (nI k / 2) jz + (if nI k / 2 = 0 ∨ nI k / 2 = 6 ∨ nI k / 2 = 14 then 1 - jl k else jl k) = nI (jlz k) ∧ 2 * (jS_LESS.2.2.2.getD (nI k >>> ((1 : Int32) &&& 31)).toNatClampNeg 0) + (if f_CX_isTurn (nI k >>> ((1 : Int32) &&& 31)) jz = 0 then jl k else 1 - jl k) = nI (jlz k) := by decide +kernel
theorem jt_s {k : Nat} {σ : jMem} : f_MO_sizeOf (nI k / 2) σ = jq k := rfl
theorem jcl {n : Nat} (h : n < 15884) : (nI n).toNatClampNeg = n := nI_clamp (Nat.lt_trans h (by decide))
theorem cx_in {n : Nat} (h : n < 15884) : ¬ (nI n < 0 ∨ 15884 ≤ (nI n).toNatClampNeg) := nI_in h (by decide)
theorem mx_in {n : Nat} (h : n < 15883) : ¬ (nI n < 0 ∨ 15883 ≤ (nI n).toNatClampNeg) := nI_in h (by decide)
theorem cx_sizeOf {σ : jMem} {i k : Nat} (hi : i < 15883) (hk : k < 94) (h : σ 11 (jx i) = nI k) : f_CX_sizeOf (nI (jx i)) σ = some (jq k, σ) := by
  have hj := jx_lt hi
  unfold f_CX_sizeOf
  rw [jck_pos (cx_in hj), jcl hj, h, jck_pos (jt_1 k hk).1, (jt_1 k hk).2.1]
theorem cx_likely {σ : jMem} {i k : Nat} (hi : i < 15883) (hk : k < 94) (h : σ 11 (jx i) = nI k) : f_CX_likely (nI (jx i)) σ = some (jl k, σ) := by
  have hj := jx_lt hi
  unfold f_CX_likely
  rw [jck_pos (cx_in hj), jcl hj, h, (jt_1 k hk).2.2.1]
theorem cx_adapt1 {σ : jMem} {i k : Nat} (hi : i < 15883) (hk : k < 94) (h : σ 11 (jx i) = nI k) : f_CX_adapt (nI (jx i)) 1 σ = some ((), ju σ 11 (jx i) (nI (jnx k))) := by
  have hj := jx_lt hi
  unfold f_CX_adapt
  rw [jck_pos (cx_in hj), jck_pos (cx_in hj), if_neg (by decide), jcl hj, h, jck_pos (jt_1 k hk).1, jck_pos (by have := cx_in hj; rw [jcl hj] at this; exact this), (jt_1 k hk).2.2.1, (jt_2 k hk).2.2]
theorem cx_adapt0 {σ : jMem} {i k : Nat} (hi : i < 15883) (hk : k < 94) (h : σ 11 (jx i) = nI k) : f_CX_adapt (nI (jx i)) 0 σ = some ((), ju σ 11 (jx i) (nI (jlz k))) := by
  have hj := jx_lt hi
  have hh := (jt_3 k hk).2.2
  have he : f_CX_isTurn (nI k >>> ((1 : Int32) &&& 31)) σ = f_CX_isTurn (nI k >>> ((1 : Int32) &&& 31)) jz := rfl
  have hc : ¬ (nI (jx i) < 0 ∨ 15884 ≤ jx i) := by have := cx_in hj; rw [jcl hj] at this; exact this
  unfold f_CX_adapt
  rw [jck_pos (cx_in hj), jck_pos (cx_in hj), if_pos rfl, jcl hj, h, jck_pos (jt_1 k hk).1, he, jck_pos hc, jck_pos hc, (jt_1 k hk).2.2.1]
  by_cases ht : f_CX_isTurn (nI k >>> ((1 : Int32) &&& 31)) jz = 0
  · rw [if_pos ht] at hh ⊢; rw [hh]
  · rw [if_neg ht] at hh ⊢; rw [hh]
theorem mo_usual {ρ : jMem} {i k : Nat} (hi : i < 15883) (hk : k < 94) (h : ρ 46 i = nI k) : f_MO_usual (nI i) ρ = some ((), ju ρ 46 i (nI (jnx k))) := by
  have hj : i < 15884 := by omega
  have hc : ¬ (nI i < 0 ∨ 15883 ≤ i) := by have := mx_in hi; rw [jcl hj] at this; exact this
  unfold f_MO_usual
  rw [jcl hj, jck_pos hc, jck_pos hc, jck_pos hc, h]
  show some ((), ju ρ 46 i (2 * f_MO_nextOf (nI k / 2) jz + jl k)) = _
  rw [(jt_2 k hk).2.1]
theorem mo_wrong {ρ : jMem} {i k : Nat} (hi : i < 15883) (hk : k < 94) (h : ρ 46 i = nI k) : f_MO_wrong (nI i) ρ = some ((), ju ρ 46 i (nI (jlz k))) := by
  have hj : i < 15884 := by omega
  have hc : ¬ (nI i < 0 ∨ 15883 ≤ i) := by have := mx_in hi; rw [jcl hj] at this; exact this
  have hh := (jt_3 k hk).2.1
  unfold f_MO_wrong
  simp only [jcl hj, jck_pos hc, h]
  have e1 : f_MO_lessOf (nI k / 2) ρ = f_MO_lessOf (nI k / 2) jz := rfl
  rw [e1, show nI k - nI k / 2 * 2 = jl k from rfl]
  by_cases h1 : nI k / 2 = 0
  · rw [if_pos h1]; rw [if_pos (Or.inl h1)] at hh; rw [hh]
  · rw [if_neg h1]
    by_cases h2 : nI k / 2 = 6
    · rw [if_pos h2]; rw [if_pos (Or.inr (Or.inl h2))] at hh; rw [hh]
    · rw [if_neg h2]
      by_cases h3 : nI k / 2 = 14
      · rw [if_pos h3]; rw [if_pos (Or.inr (Or.inr h3))] at hh; rw [hh]
      · rw [if_neg h3]; rw [if_neg (by rintro (q | q | q) <;> contradiction)] at hh; rw [hh]
