/-! points counted; pictures copied -/
theorem jand8 {A M a m : Nat} (ha : a < 256) (hm : m < 256) : (2 ^ 8 * A + a) &&& (2 ^ 8 * M + m) = 2 ^ 8 * (A &&& M) + (a &&& m) := by
  have h3 : a &&& m < 2 ^ 8 := Nat.and_lt_two_pow _ hm
  apply Nat.eq_of_testBit_eq
  intro j
  rw [Nat.testBit_and, Nat.testBit_two_pow_mul_add _ ha, Nat.testBit_two_pow_mul_add _ hm, Nat.testBit_two_pow_mul_add _ h3]
  by_cases c : j < 8
  · rw [if_pos c, if_pos c, if_pos c, Nat.testBit_and]
  · rw [if_neg c, if_neg c, if_neg c, Nat.testBit_and]
theorem jshr8 {A M a m s : Nat} (ha : a < 256) (hm : m < 2 ^ (8 - s)) (hs : s < 8) : ((2 ^ 8 * A + a) >>> s) &&& (2 ^ 8 * M + m) = 2 ^ 8 * ((A >>> s) &&& M) + ((a >>> s) &&& m) := by
  have hm8 : m < 2 ^ 8 := Nat.lt_of_lt_of_le hm (Nat.pow_le_pow_right (by decide) (by omega))
  have h3 : (a >>> s) &&& m < 2 ^ 8 := Nat.and_lt_two_pow _ hm8
  apply Nat.eq_of_testBit_eq
  intro j
  rw [Nat.testBit_and, Nat.testBit_shiftRight, Nat.testBit_two_pow_mul_add _ ha, Nat.testBit_two_pow_mul_add _ hm8, Nat.testBit_two_pow_mul_add _ h3]
  by_cases c : j < 8
  · rw [if_pos c, if_pos c, Nat.testBit_and, Nat.testBit_shiftRight]
    by_cases c2 : s + j < 8
    · rw [if_pos c2]
    · have : m.testBit j = false := Nat.testBit_lt_two_pow (Nat.lt_of_lt_of_le hm (Nat.pow_le_pow_right (by decide) (by omega)))
      rw [this, Bool.and_false, Bool.and_false]
  · rw [if_neg c, if_neg c, if_neg (by omega), Nat.testBit_and, Nat.testBit_shiftRight, show s + j - 8 = s + (j - 8) from by omega]
def jV4 (a b c d : Nat) : Nat := 2 ^ 8 * (2 ^ 8 * (2 ^ 8 * d + c) + b) + a
theorem jV4_and {a b c d m : Nat} (ha : a < 256) (hb : b < 256) (hc : c < 256) (hd : d < 256) (hm : m < 256) : jV4 a b c d &&& jV4 m m m m = jV4 (a &&& m) (b &&& m) (c &&& m) (d &&& m) := by
  unfold jV4
  rw [jand8 ha hm, jand8 hb hm, jand8 hc hm]
theorem jV4_shr {a b c d m s : Nat} (ha : a < 256) (hb : b < 256) (hc : c < 256) (hd : d < 256) (hs : s < 8) (hm : m < 2 ^ (8 - s)) : (jV4 a b c d >>> s) &&& jV4 m m m m = jV4 ((a >>> s) &&& m) ((b >>> s) &&& m) ((c >>> s) &&& m) ((d >>> s) &&& m) := by
  unfold jV4
  rw [jshr8 ha hm hs, jshr8 hb hm hs, jshr8 hc hm hs]
def jpb (a : Nat) : Nat := (a.testBit 0).toNat + (a.testBit 1).toNat + (a.testBit 2).toNat + (a.testBit 3).toNat + (a.testBit 4).toNat + (a.testBit 5).toNat + (a.testBit 6).toNat + (a.testBit 7).toNat
def jg1 (a : Nat) : Nat := a - ((a >>> 1) &&& 85)
def jg2 (a : Nat) : Nat := (jg1 a &&& 51) + ((jg1 a >>> 2) &&& 51)
theorem jg_tab : ∀ a, a < 256 → (a >>> 1) &&& 85 ≤ a ∧ jg1 a < 256 ∧ (jg2 a ≤ 68 ∧ jg2 a % 16 ≤ 4) ∧ jg2 a >>> 4 < 8 ∧ (jg2 a &&& 15) + ((jg2 a >>> 4) &&& 15) = jpb a ∧ (jg2 a + (jg2 a >>> 4)) &&& 15 = jpb a ∧ jpb a ≤ 8 ∧ (jg1 a &&& 51) < 128 ∧ ((jg1 a >>> 2) &&& 51) < 128 := by decide +kernel
theorem pk_subN {a b : Nat} (h : b ≤ a) : nI a - nI b = nI (a - b) := pk_sub h
theorem jush {n : Nat} (hn : n < 2 ^ 32) (s : Int32) (k : Nat) (hs : ((s.toUInt32 &&& Int32.toUInt32 31).toBitVec % 32).toNat = k) : ((nI n).toUInt32 >>> (s.toUInt32 &&& Int32.toUInt32 31)).toInt32 = nI (n >>> k) := by
  rw [pk_ushrN hn s k hs, Nat.shiftRight_eq_div_pow]
theorem jlt4 {a b c d : Nat} (ha : a < 256) (hb : b < 256) (hc : c < 256) (hd : d < 256) : jV4 a b c d < 2 ^ 32 := by unfold jV4; omega
theorem nx_an (a b : Nat) : nI a &&& nI b = nI (a &&& b) := by
  apply b_ext
  intro i hi
  rw [b_and, b_nI hi, b_nI hi, b_nI hi, Nat.testBit_and]
theorem jand_nI {n : Nat} (M : Int32) (N : Nat) (h : M = nI N) : nI n &&& M = nI (n &&& N) := by rw [h, nx_an]
set_option maxHeartbeats 2000000 in
theorem jbc {a b c d : Nat} (ha : a < 256) (hb : b < 256) (hc : c < 256) (hd : d < 256) (σ : jMem) : f_IG_bitCount (nI (jV4 a b c d)) σ = nI (jpb a + jpb b + jpb c + jpb d) := by
  obtain ⟨a1, a2, a3, a4, -, a6, a7, a8, a9⟩ := jg_tab a ha
  obtain ⟨b1, b2, b3, b4, -, b6, b7, b8, b9⟩ := jg_tab b hb
  obtain ⟨c1, c2, c3, c4, -, c6, c7, c8, c9⟩ := jg_tab c hc
  obtain ⟨d1, d2, d3, d4, -, d6, d7, d8, d9⟩ := jg_tab d hd
  have e1 : nI (jV4 a b c d) - ((((nI (jV4 a b c d)).toUInt32 >>> ((1 : Int32).toUInt32 &&& Int32.toUInt32 31)).toInt32) &&& (1431655765 : Int32)) = nI (jV4 (jg1 a) (jg1 b) (jg1 c) (jg1 d)) := by
    rw [jush (jlt4 ha hb hc hd) 1 1 (by decide), jand_nI _ (jV4 85 85 85 85) (by decide), jV4_shr ha hb hc hd (by decide) (by decide), pk_sub (by unfold jV4; omega)]
    congr 1
    unfold jV4 jg1
    omega
  have e2 : (nI (jV4 (jg1 a) (jg1 b) (jg1 c) (jg1 d)) &&& (858993459 : Int32)) + ((((nI (jV4 (jg1 a) (jg1 b) (jg1 c) (jg1 d))).toUInt32 >>> ((2 : Int32).toUInt32 &&& Int32.toUInt32 31)).toInt32) &&& (858993459 : Int32)) = nI (jV4 (jg2 a) (jg2 b) (jg2 c) (jg2 d)) := by
    rw [jush (jlt4 a2 b2 c2 d2) 2 2 (by decide), jand_nI _ (jV4 51 51 51 51) (by decide), jand_nI _ (jV4 51 51 51 51) (by decide), jV4_shr a2 b2 c2 d2 (by decide) (by decide), jV4_and a2 b2 c2 d2 (by decide), nI_add]
    congr 1
    unfold jV4 jg2
    omega
  have e3 : (nI (jV4 (jg2 a) (jg2 b) (jg2 c) (jg2 d)) + (((nI (jV4 (jg2 a) (jg2 b) (jg2 c) (jg2 d))).toUInt32 >>> ((4 : Int32).toUInt32 &&& Int32.toUInt32 31)).toInt32)) &&& (252645135 : Int32) = nI (jV4 (jpb a) (jpb b) (jpb c) (jpb d)) := by
    rw [jush (jlt4 (by omega) (by omega) (by omega) (by omega)) 4 4 (by decide), nI_add, jand_nI _ (jV4 15 15 15 15) (by decide)]
    congr 1
    have p3 := a3.2
    have q3 := b3.2
    have r3 := c3.2
    have s3 := d3.2
    have p4 := a3.1
    have q4 := b3.1
    have r4 := c3.1
    have s4 := d3.1
    generalize jg2 a = p at *
    generalize jg2 b = q at *
    generalize jg2 c = r at *
    generalize jg2 d = s at *
    rw [Nat.shiftRight_eq_div_pow] at a4 a6 b4 b6 c4 c6 d4 d6 ⊢
    have m15 : ∀ z, z &&& 15 = z % 16 := fun z => Nat.and_two_pow_sub_one_eq_mod z 4
    rw [m15] at a6 b6 c6 d6
    rw [show jV4 p q r s + jV4 p q r s / 2 ^ 4 = jV4 (p + (p / 16 + 16 * (q % 16))) (q + (q / 16 + 16 * (r % 16))) (r + (r / 16 + 16 * (s % 16))) (s + s / 16) from by unfold jV4; omega]
    rw [jV4_and (by omega) (by omega) (by omega) (by omega) (by decide), m15, m15, m15, m15]
    congr 1 <;> omega
  have e4 : nI (jV4 (jpb a) (jpb b) (jpb c) (jpb d)) + (((nI (jV4 (jpb a) (jpb b) (jpb c) (jpb d))).toUInt32 >>> ((8 : Int32).toUInt32 &&& Int32.toUInt32 31)).toInt32) = nI (jV4 (jpb a + jpb b) (jpb b + jpb c) (jpb c + jpb d) (jpb d)) := by
    rw [jush (jlt4 (by omega) (by omega) (by omega) (by omega)) 8 8 (by decide), nI_add, Nat.shiftRight_eq_div_pow]
    congr 1
    unfold jV4
    omega
  have e5 : nI (jV4 (jpb a + jpb b) (jpb b + jpb c) (jpb c + jpb d) (jpb d)) + (((nI (jV4 (jpb a + jpb b) (jpb b + jpb c) (jpb c + jpb d) (jpb d))).toUInt32 >>> ((16 : Int32).toUInt32 &&& Int32.toUInt32 31)).toInt32) = nI (jV4 (jpb a + jpb b + jpb c + jpb d) (jpb b + jpb c + jpb d) (jpb c + jpb d) (jpb d)) := by
    rw [jush (jlt4 (by omega) (by omega) (by omega) (by omega)) 16 16 (by decide), nI_add, Nat.shiftRight_eq_div_pow]
    congr 1
    unfold jV4
    omega
  have e6 : nI (jV4 (jpb a + jpb b + jpb c + jpb d) (jpb b + jpb c + jpb d) (jpb c + jpb d) (jpb d)) &&& (63 : Int32) = nI (jpb a + jpb b + jpb c + jpb d) := by
    rw [jand_nI (63 : Int32) 63 rfl, Nat.and_two_pow_sub_one_eq_mod _ 6]
    congr 1
    unfold jV4
    omega
  unfold f_IG_bitCount
  rw [e1, e2, e3, e4, e5, e6]
def jcn (f : Nat → Bool) : Nat → Nat
  | 0 => 0
  | n + 1 => jcn f n + (f n).toNat
theorem jcn_add (f : Nat → Bool) (m : Nat) : ∀ n, jcn f (m + n) = jcn f m + jcn (fun i => f (m + i)) n := by
  intro n
  induction n with
  | zero => simp [jcn]
  | succ n ih => rw [← Nat.add_assoc]; simp only [jcn]; rw [ih]; omega
theorem jcn_c {f g : Nat → Bool} : ∀ n, (∀ i, i < n → f i = g i) → jcn f n = jcn g n := by
  intro n
  induction n with
  | zero => intro _; rfl
  | succ n ih => intro h; simp only [jcn]; rw [ih (fun i hi => h i (by omega)), h n (by omega)]
theorem jbc32 (x : Int32) (σ : jMem) : f_IG_bitCount x σ = nI (jcn (bt x) 32) := by
  have hX := x.toBitVec.isLt
  have hx : x = nI x.toBitVec.toNat := Int32.toBitVec_inj.mp (by show _ = BitVec.ofNat 32 _; simp)
  generalize x.toBitVec.toNat = X at hX hx
  have hv : X = jV4 (X % 256) (X / 256 % 256) (X / 65536 % 256) (X / 16777216 % 256) := by unfold jV4; omega
  have hb : ∀ i, i < 32 → bt x i = X.testBit i := fun i hi => by rw [hx, b_nI hi]
  have t0 : ∀ i, i < 8 → (X % 256).testBit i = X.testBit i := fun i hi => by rw [show 256 = 2 ^ 8 from rfl, Nat.testBit_mod_two_pow]; simp [hi]
  have t1 : ∀ i, i < 8 → (X / 256 % 256).testBit i = X.testBit (8 + i) := fun i hi => by rw [show 256 = 2 ^ 8 from rfl, Nat.testBit_mod_two_pow, Nat.testBit_div_two_pow]; simp [hi, Nat.add_comm]
  have t2 : ∀ i, i < 8 → (X / 65536 % 256).testBit i = X.testBit (16 + i) := fun i hi => by rw [show 256 = 2 ^ 8 from rfl, show 65536 = 2 ^ 16 from rfl, Nat.testBit_mod_two_pow, Nat.testBit_div_two_pow]; simp [hi, Nat.add_comm]
  have t3 : ∀ i, i < 8 → (X / 16777216 % 256).testBit i = X.testBit (24 + i) := fun i hi => by rw [show 256 = 2 ^ 8 from rfl, show 16777216 = 2 ^ 24 from rfl, Nat.testBit_mod_two_pow, Nat.testBit_div_two_pow]; simp [hi, Nat.add_comm]
  have e8 : ∀ a, jpb a = jcn a.testBit 8 := fun a => by simp [jpb, jcn]
  rw [hx, hv, jbc (by omega) (by omega) (by omega) (by omega), ← hv, ← hx, e8, e8, e8, e8, jcn_c 8 t0, jcn_c 8 t1, jcn_c 8 t2, jcn_c 8 t3]
  congr 1
  rw [jcn_c 32 hb, show 32 = 24 + 8 from rfl, jcn_add, show 24 = 16 + 8 from rfl, jcn_add, show 16 = 8 + 8 from rfl, jcn_add]
theorem jcn_rev {f g : Nat → Bool} (hf : ∀ j, j < 32 → f j = (decide (j ≤ 28) && g (28 - j))) (hg : ∀ i, 24 ≤ i → i ≤ 28 → g i = false) : jcn f 32 = jcn g 24 := by
  simp only [jcn]
  rw [hf 0 (by decide), hf 1 (by decide), hf 2 (by decide), hf 3 (by decide), hf 4 (by decide), hf 5 (by decide), hf 6 (by decide), hf 7 (by decide), hf 8 (by decide), hf 9 (by decide), hf 10 (by decide), hf 11 (by decide), hf 12 (by decide), hf 13 (by decide), hf 14 (by decide), hf 15 (by decide), hf 16 (by decide), hf 17 (by decide), hf 18 (by decide), hf 19 (by decide), hf 20 (by decide), hf 21 (by decide), hf 22 (by decide), hf 23 (by decide), hf 24 (by decide), hf 25 (by decide), hf 26 (by decide), hf 27 (by decide), hf 28 (by decide), hf 29 (by decide), hf 30 (by decide), hf 31 (by decide)]
  simp [hg 24 (by decide) (by decide), hg 25 (by decide) (by decide), hg 26 (by decide) (by decide), hg 27 (by decide) (by decide), hg 28 (by decide) (by decide)]
  omega
theorem jP.cnt {σ ρ : jMem} {p W H y : Nat} (h : jP σ ρ p W H) (hy : y < 24) : jcn (bt (σ (15 + 2 * p) y)) 32 = jcn (bt (ρ 39 (24 * p + y))) 24 := by
  refine jcn_rev (h.2.2.2 y hy) ?_
  intro i h1 _
  cases e : bt (ρ 39 (24 * p + y)) i with
  | false => rfl
  | true => have := (h.1.2.2.2.2.2.2 y hy i e).1; have := h.1.2.1; omega
