/-! points: the class's rows beside the reference's -/
def iI (X : Int) : Int32 := Int32.ofInt X
abbrev jrg (X : Int) : Prop := -2147483648 ≤ X ∧ X < 2147483648
theorem iI_toInt {X : Int} (h : jrg X) : (iI X).toInt = X := Int32.toInt_ofInt_of_le (by have := h.1; omega) (by have := h.2; omega)
theorem iI_of (x : Int32) : x = iI x.toInt := (Int32.ofInt_toInt x).symm
theorem iI_rg (x : Int32) : jrg x.toInt := ⟨by have := Int32.le_toInt x; omega, by have := Int32.toInt_lt x; omega⟩
theorem iI_nI (n : Nat) : iI (n : Int) = nI n := by
  apply Int32.toBitVec_inj.mp
  show BitVec.ofInt 32 (n : Int) = BitVec.ofNat 32 n
  exact BitVec.ofInt_natCast 32 n
theorem iI_add (X Y : Int) : iI X + iI Y = iI (X + Y) := (Int32.ofInt_add X Y).symm
theorem iI_sub (X Y : Int) : iI X - iI Y = iI (X - Y) := (Int32.ofInt_sub X Y).symm
theorem iI_neg (X : Int) : -iI X = iI (-X) := (Int32.ofInt_neg X).symm
theorem iI_le {X Y : Int} (hX : jrg X) (hY : jrg Y) : iI X ≤ iI Y ↔ X ≤ Y := by rw [Int32.le_iff_toInt_le, iI_toInt hX, iI_toInt hY]
theorem iI_lt {X Y : Int} (hX : jrg X) (hY : jrg Y) : iI X < iI Y ↔ X < Y := by rw [Int32.lt_iff_toInt_lt, iI_toInt hX, iI_toInt hY]
theorem iI_eq {X Y : Int} (hX : jrg X) (hY : jrg Y) : iI X = iI Y ↔ X = Y := ⟨fun h => by have := congrArg Int32.toInt h; rwa [iI_toInt hX, iI_toInt hY] at this, fun h => by rw [h]⟩
theorem iI_neg0 {X : Int} (hX : jrg X) : iI X < 0 ↔ X < 0 := iI_lt (Y := 0) hX (by decide)
theorem iI_nat {X : Int} (h : 0 ≤ X) : iI X = nI X.toNat := by rw [← iI_nI]; congr 1; omega
theorem nI_leX {n : Nat} {X : Int} (hn : n < 2 ^ 31) (hX : jrg X) : nI n ≤ iI X ↔ (n : Int) ≤ X := by rw [← iI_nI]; exact iI_le (by constructor <;> omega) hX
def jb (b : Bool) : Int32 := if b then 1 else 0
theorem jb01 (b : Bool) : jb b = 0 ∨ jb b = 1 := by cases b <;> first | exact Or.inl rfl | exact Or.inr rfl
theorem jb_inj {a b : Bool} : jb a = jb b ↔ a = b := by cases a <;> cases b <;> decide
def jat (ρ : jMem) (p : Nat) (X Y : Int) : Bool := if 0 ≤ X ∧ X < 32 ∧ 0 ≤ Y ∧ Y < 24 then bt (ρ 39 (24 * p + Y.toNat)) X.toNat else false
abbrev jin (W H : Nat) (X Y : Int) : Prop := 0 ≤ X ∧ X < W ∧ 0 ≤ Y ∧ Y < H
def jQz (ρ : jMem) (p W H : Nat) : Prop := 1 ≤ W ∧ W ≤ 24 ∧ 1 ≤ H ∧ H ≤ 24 ∧ ρ 40 p = nI W ∧ ρ 41 p = nI H ∧ (∀ y, y < 24 → ∀ i, bt (ρ 39 (24 * p + y)) i = true → i < W ∧ y < H)
def jP (σ ρ : jMem) (p W H : Nat) : Prop := jQz ρ p W H ∧ σ (14 + 2 * p) 1 = nI W ∧ σ (14 + 2 * p) 2 = nI H ∧ (∀ y, y < 24 → ∀ i, i < 32 → bt (σ (15 + 2 * p) y) i = (decide (i ≤ 28) && bt (ρ 39 (24 * p + y)) (28 - i)))
theorem jQz.out {ρ : jMem} {p W H : Nat} (h : jQz ρ p W H) {X Y : Int} (hn : ¬ jin W H X Y) : jat ρ p X Y = false := by
  unfold jat
  by_cases c : 0 ≤ X ∧ X < 32 ∧ 0 ≤ Y ∧ Y < 24
  · rw [if_pos c]
    cases e : bt (ρ 39 (24 * p + Y.toNat)) X.toNat with
    | false => rfl
    | true =>
      have := h.2.2.2.2.2.2 Y.toNat (by omega) X.toNat e
      exact absurd ⟨c.1, by omega, c.2.2.1, by omega⟩ hn
  · rw [if_neg c]
theorem jQz.ins {ρ : jMem} {p W H : Nat} (h : jQz ρ p W H) {X Y : Int} (hn : jin W H X Y) : jat ρ p X Y = bt (ρ 39 (24 * p + Y.toNat)) X.toNat := by
  have h1 := h.2.1
  have h2 := h.2.2.2.1
  unfold jat
  rw [if_pos ⟨hn.1, by omega, hn.2.2.1, by omega⟩]
theorem mo_inside {ρ : jMem} {p W H : Nat} (hp : p < 12) (h : jQz ρ p W H) {X Y : Int} (hX : jrg X) (hY : jrg Y) : f_MO_isInside (nI p) (iI X) (iI Y) ρ = some (if jin W H X Y then 1 else 0, ρ) := by
  obtain ⟨w1, w2, h1, h2, hw, hh, -⟩ := h
  have hc : ¬ (nI p < 0 ∨ 12 ≤ (nI p).toNatClampNeg) := nI_in hp (by decide)
  unfold f_MO_isInside
  rw [jck_pos hc, nI_clamp (by omega), hw, hh]
  by_cases c1 : X < 0
  · rw [if_pos ((iI_neg0 hX).mpr c1), if_neg (by omega)]
  rw [if_neg (fun q => c1 ((iI_neg0 hX).mp q))]
  by_cases c2 : (W : Int) ≤ X
  · rw [if_pos ((nI_leX (by omega) hX).mpr c2), if_neg (by omega)]
  rw [if_neg (fun q => c2 ((nI_leX (by omega) hX).mp q))]
  by_cases c3 : Y < 0
  · rw [if_pos ((iI_neg0 hY).mpr c3), if_neg (by omega)]
  rw [if_neg (fun q => c3 ((iI_neg0 hY).mp q)), jck_pos (by rw [nI_clamp (by omega)] at hc; exact hc)]
  by_cases c4 : (H : Int) ≤ Y
  · rw [if_pos ((nI_leX (by omega) hY).mpr c4), if_neg (by omega)]
  rw [if_neg (fun q => c4 ((nI_leX (by omega) hY).mp q)), if_pos ⟨by omega, by omega, by omega, by omega⟩]
theorem pi_has {σ ρ : jMem} {p W H : Nat} (h : jP σ ρ p W H) {X Y : Int} (hX : jrg X) (hY : jrg Y) : f_PI_has p (iI X) (iI Y) σ = some (if jin W H X Y then 1 else 0, σ) := by
  obtain ⟨⟨w1, w2, h1, h2, -, -, -⟩, hw, hh, -⟩ := h
  unfold f_PI_has
  rw [hw, hh]
  by_cases c1 : X < 0
  · rw [if_pos ((iI_neg0 hX).mpr c1), if_neg (by omega)]
  rw [if_neg (fun q => c1 ((iI_neg0 hX).mp q))]
  by_cases c2 : (W : Int) ≤ X
  · rw [if_pos ((nI_leX (by omega) hX).mpr c2), if_neg (by omega)]
  rw [if_neg (fun q => c2 ((nI_leX (by omega) hX).mp q))]
  by_cases c3 : Y < 0
  · rw [if_pos ((iI_neg0 hY).mpr c3), if_neg (by omega)]
  rw [if_neg (fun q => c3 ((iI_neg0 hY).mp q))]
  by_cases c4 : (H : Int) ≤ Y
  · rw [if_pos ((nI_leX (by omega) hY).mpr c4), if_neg (by omega)]
  rw [if_neg (fun q => c4 ((nI_leX (by omega) hY).mp q)), if_pos ⟨by omega, by omega, by omega, by omega⟩]
theorem b_one (i : Nat) : bt 1 i = decide (i = 0) := by
  rcases Nat.lt_or_ge i 32 with h | h
  · exact (by decide +kernel : ∀ i, i < 32 → bt 1 i = decide (i = 0)) i h
  · rw [b_big h, decide_eq_false (by omega)]
theorem b_and1 (z : Int32) : z &&& 1 = jb (bt z 0) := by
  apply b_ext
  intro i hi
  rw [b_and, b_one]
  unfold jb
  by_cases c : i = 0
  · subst c
    cases bt z 0 <;> decide
  · rw [decide_eq_false c, Bool.and_false]
    cases bt z 0
    · exact (b_0 i).symm
    · rw [if_pos rfl, b_one, decide_eq_false c]
theorem j24 {p : Nat} {y : Nat} : (24 : Int32) * nI p + nI y = nI (24 * p + y) := by rw [show (24 : Int32) = nI 24 from rfl, pk_mul, nI_add]
theorem mo_at {ρ : jMem} {p W H : Nat} (hp : p < 12) (h : jQz ρ p W H) {X Y : Int} (hX : jrg X) (hY : jrg Y) : f_MO_at (nI p) (iI X) (iI Y) ρ = some (jb (jat ρ p X Y), ρ) := by
  have hw := h.2.1
  have hh := h.2.2.2.1
  unfold f_MO_at
  rw [jbd_eq (mo_inside hp h hX hY)]
  by_cases c : jin W H X Y
  · rw [if_pos c, if_neg (by decide), h.ins c, iI_nat c.1, iI_nat c.2.2.1, j24, jck_pos (nI_in (by omega) (by decide)), nI_clamp (by omega), b_and1, b_sshr X.toNat (by omega) _ (by decide), if_pos (by omega)]
    rfl
  · rw [if_neg c, if_pos rfl, h.out c]
    rfl
theorem pi_at {σ ρ : jMem} {p W H : Nat} (h : jP σ ρ p W H) {X Y : Int} (hX : jrg X) (hY : jrg Y) : f_PI_at p (iI X) (iI Y) σ = some (jb (jat ρ p X Y), σ) := by
  have hw := h.1.2.1
  have hh := h.1.2.2.2.1
  unfold f_PI_at
  rw [jbd_eq (pi_has h hX hY)]
  by_cases c : jin W H X Y
  · rw [if_pos c, if_neg (by decide), h.1.ins c, iI_nat c.1, iI_nat c.2.2.1, jck_pos (nI_in (by omega) (by decide)), nI_clamp (by omega), show (28 : Int32) - nI X.toNat = nI (28 - X.toNat) from pk_sub (a := 28) (by omega), b_and1, b_ushr _ (by omega), h.2.2.2 _ (by omega) _ (by omega), decide_eq_true (by omega)]
    rw [show 28 - (28 - X.toNat + 0) = X.toNat from by omega, Bool.true_and]
  · rw [if_neg c, if_pos rfl, h.1.out c]
    rfl
/-- the points of row Y from L - n + 1 to L, as a number -/
def jsp (ρ : jMem) (p : Nat) (Y : Int) : Int → Nat → Nat
  | _, 0 => 0
  | L, n + 1 => 2 * jsp ρ p Y (L - 1) n + (jat ρ p L Y).toNat
theorem jsp_lt (ρ : jMem) (p : Nat) (Y : Int) : ∀ n L, jsp ρ p Y L n < 2 ^ n := by
  intro n
  induction n with
  | zero => intro L; simp [jsp]
  | succ n ih =>
    intro L
    have := ih (L - 1)
    have h2 : (jat ρ p L Y).toNat ≤ 1 := Bool.toNat_le _
    simp only [jsp, Nat.pow_succ]
    omega
theorem jsp_bit (ρ : jMem) (p : Nat) (Y : Int) : ∀ n L j, (jsp ρ p Y L n).testBit j = (decide (j < n) && jat ρ p (L - j) Y) := by
  intro n
  induction n with
  | zero => intro L j; simp [jsp]
  | succ n ih =>
    intro L j
    cases j with
    | zero =>
      simp only [jsp, Nat.testBit_zero]
      cases e : jat ρ p L Y <;> simp [e] <;> omega
    | succ j =>
      have e : (jsp ρ p Y L (n + 1)) / 2 = jsp ρ p Y (L - 1) n := by
        simp only [jsp]
        have h2 : (jat ρ p L Y).toNat ≤ 1 := Bool.toNat_le _
        omega
      rw [Nat.testBit_succ, e, ih]
      rw [show L - 1 - (j : Int) = L - ((j + 1 : Nat) : Int) from by omega]
      congr 1
      by_cases c : j < n
      · rw [decide_eq_true c, decide_eq_true (by omega)]
      · rw [decide_eq_false c, decide_eq_false (by omega)]
theorem jsp_left (ρ : jMem) (p : Nat) (Y : Int) : ∀ n L, jsp ρ p Y L (n + 1) = (jat ρ p (L - n) Y).toNat * 2 ^ n + jsp ρ p Y L n := by
  intro n
  induction n with
  | zero => intro L; simp [jsp]
  | succ n ih =>
    intro L
    rw [show jsp ρ p Y L (n + 1 + 1) = 2 * jsp ρ p Y (L - 1) (n + 1) + (jat ρ p L Y).toNat from rfl, ih (L - 1), show jsp ρ p Y L (n + 1) = 2 * jsp ρ p Y (L - 1) n + (jat ρ p L Y).toNat from rfl, show L - 1 - (n : Int) = L - ((n + 1 : Nat) : Int) from by omega, Nat.pow_succ, Nat.mul_add]
    rw [show 2 * ((jat ρ p (L - ((n + 1 : Nat) : Int)) Y).toNat * 2 ^ n) = (jat ρ p (L - ((n + 1 : Nat) : Int)) Y).toNat * (2 ^ n * 2) from by rw [Nat.mul_comm, Nat.mul_assoc]]
    omega
theorem b_nI {k i : Nat} (hi : i < 32) : bt (nI k) i = k.testBit i := by
  show (BitVec.ofNat 32 k).getLsbD i = _
  rw [BitVec.getLsbD_ofNat]
  simp [hi]
theorem jsp_0 {ρ : jMem} {p : Nat} {Y : Int} {n : Nat} {L : Int} (h : ∀ j : Nat, j < n → jat ρ p (L - j) Y = false) : jsp ρ p Y L n = 0 := by
  apply Nat.eq_of_testBit_eq
  intro j
  rw [jsp_bit, Nat.zero_testBit]
  by_cases c : j < n
  · rw [h j c, Bool.and_false]
  · rw [decide_eq_false c, Bool.false_and]
theorem jmk : ∀ w, w < 7 → ∀ i, i < 32 → bt (((1 : Int32) <<< (nI w &&& 31)) - 1) i = decide (i < w) := by decide +kernel
theorem pi_span {σ ρ : jMem} {p W H w : Nat} (h : jP σ ρ p W H) {L Y : Int} (hL : jrg L) (hY : jrg Y) (hw : w < 7) : f_PI_span p (iI Y) (iI L) (nI w) σ = some (nI (jsp ρ p Y L w), σ) := by
  have h0 := h
  obtain ⟨⟨w1, w2, h1, h2, -, -, -⟩, hww, hh, hb⟩ := h
  unfold f_PI_span
  rw [hh]
  by_cases c1 : Y < 0
  · rw [if_pos ((iI_neg0 hY).mpr c1), jsp_0 (fun j _ => h0.1.out (by omega))]; rfl
  rw [if_neg (fun q => c1 ((iI_neg0 hY).mp q))]
  by_cases c2 : (H : Int) ≤ Y
  · rw [if_pos ((nI_leX (by omega) hY).mpr c2), jsp_0 (fun j _ => h0.1.out (by omega))]; rfl
  rw [if_neg (fun q => c2 ((nI_leX (by omega) hY).mp q))]
  by_cases c3 : L < 0
  · rw [if_pos ((iI_neg0 hL).mpr c3), jsp_0 (fun j _ => h0.1.out (by omega))]; rfl
  rw [if_neg (fun q => c3 ((iI_neg0 hL).mp q))]
  have e28 : iI L ≤ (28 : Int32) ↔ L ≤ 28 := iI_le (Y := 28) hL (by decide)
  by_cases c4 : L ≤ 28
  · rw [if_pos (e28.mpr c4), iI_nat (show 0 ≤ Y by omega), iI_nat (show 0 ≤ L by omega), jck_pos (nI_in (by omega) (by decide)), nI_clamp (by omega), show (28 : Int32) - nI L.toNat = nI (28 - L.toNat) from pk_sub (a := 28) (by omega)]
    congr 2
    apply b_ext
    intro i hi
    rw [b_and, jmk w hw i hi, b_ushr _ (by omega), b_nI hi, jsp_bit]
    by_cases c5 : i < w
    · rw [decide_eq_true c5, Bool.and_true, Bool.true_and]
      by_cases c6 : 28 - L.toNat + i < 32
      · rw [hb _ (by omega) _ c6]
        unfold jat
        by_cases c7 : i ≤ L.toNat
        · rw [decide_eq_true (by omega), Bool.true_and, if_pos ⟨by omega, by omega, by omega, by omega⟩]
          congr 1
          omega
        · rw [decide_eq_false (by omega), Bool.false_and, if_neg (by omega)]
      · rw [b_big (by omega)]
        symm
        exact h0.1.out (by omega)
    · rw [decide_eq_false c5, Bool.and_false, Bool.false_and]
  · rw [if_neg (fun q => c4 (e28.mp q)), jsp_0 (fun j hj => h0.1.out (by omega))]; rfl
theorem jtn (b : Bool) : jb b = nI b.toNat := by cases b <;> rfl
theorem mo_aroundL {ρ : jMem} {p W H : Nat} (hp : p < 12) (h : jQz ρ p W H) {T Y : Int} (hT : -10000 ≤ T ∧ T ≤ 10000) (hY : jrg Y) (x1 x4 : Int32) : ∀ n, n ≤ 10 → ∀ m B, f_MO_around_L7 (m + n + 1) x1 (nI p) (iI Y) x4 (iI T) (nI B) (iI (T - n + 1)) ρ = some (nI (B * 2 ^ n + jsp ρ p Y T n), ρ) := by
  intro n
  induction n with
  | zero =>
    intro _ m B
    rw [f_MO_around_L7, if_pos ((iI_lt (by constructor <;> omega) (by constructor <;> omega)).mpr (by omega))]
    simp [jsp]
  | succ n ih =>
    intro hn m B
    rw [show m + (n + 1) + 1 = (m + n + 1) + 1 from by omega, f_MO_around_L7, if_neg (fun q => by have := (iI_lt (by constructor <;> omega) (by constructor <;> omega)).mp q; omega), jbd_eq (mo_at hp h (by constructor <;> omega) hY)]
    rw [show iI (T - ((n + 1 : Nat) : Int) + 1) + 1 = iI (T - n + 1) from by rw [show (1 : Int32) = iI 1 from rfl, iI_add]; congr 1; omega, jtn, show (2 : Int32) = nI 2 from rfl, pk_mul, nI_add, ih (by omega), jsp_left, show T - ((n + 1 : Nat) : Int) + 1 = T - n from by omega, Nat.pow_succ]
    congr 3
    rw [Nat.add_mul, Nat.mul_comm 2 B, Nat.mul_assoc B, Nat.mul_comm 2 (2 ^ n)]
    omega
theorem mo_around {ρ : jMem} {p W H : Nat} (hp : p < 12) (h : jQz ρ p W H) {T F Y : Int} (n : Nat) (hT : -10000 ≤ T ∧ T ≤ 10000) (hY : jrg Y) (hn : n ≤ 10) (hF : F = T - n + 1) (B : Nat) : f_MO_around (nI B) (nI p) (iI Y) (iI F) (iI T) ρ = some (nI (B * 2 ^ n + jsp ρ p Y T n), ρ) := by
  subst hF
  unfold f_MO_around
  rw [show jfu = (19999 - n) + n + 1 from by show 20000 = _; omega]
  exact mo_aroundL hp h hT hY _ _ n hn _ B
theorem nx_or (a b : Nat) : nI a ||| nI b = nI (a ||| b) := by
  apply b_ext
  intro i hi
  rw [b_or, b_nI hi, b_nI hi, b_nI hi, Nat.testBit_or]
theorem jcat {a b k : Nat} {s : Int32} (hs : (s.toBitVec.smod 32).toNat = k) (hb : b < 2 ^ k) (ha : a * 2 ^ k < 2 ^ 32) : (nI a <<< s) ||| nI b = nI (a * 2 ^ k + b) := by
  rw [pk_shlN s k hs ha, nx_or]
  congr 1
  rw [← Nat.shiftLeft_eq, Nat.shiftLeft_add_eq_or_of_lt hb]
def jctx (ρ : jMem) (p t : Nat) (X Y : Int) : Nat := if t = 1 then jsp ρ p (Y - 2) (X + 2) 4 * 512 + jsp ρ p (Y - 1) (X + 3) 6 * 8 + jsp ρ p Y (X - 1) 3 else if t = 2 then 8192 + (jsp ρ p (Y - 2) (X + 1) 3 * 128 + jsp ρ p (Y - 1) (X + 2) 5 * 4 + jsp ρ p Y (X - 1) 2) else 9216 + (jsp ρ p (Y - 1) (X + 2) 6 * 16 + jsp ρ p Y (X - 1) 4)
theorem jctx_lt (ρ : jMem) (p t : Nat) (X Y : Int) : jctx ρ p t X Y < 10240 := by
  have a1 := jsp_lt ρ p (Y - 2) 4 (X + 2)
  have a2 := jsp_lt ρ p (Y - 1) 6 (X + 3)
  have a3 := jsp_lt ρ p Y 3 (X - 1)
  have b1 := jsp_lt ρ p (Y - 2) 3 (X + 1)
  have b2 := jsp_lt ρ p (Y - 1) 5 (X + 2)
  have b3 := jsp_lt ρ p Y 2 (X - 1)
  have c1 := jsp_lt ρ p (Y - 1) 6 (X + 2)
  have c2 := jsp_lt ρ p Y 4 (X - 1)
  unfold jctx
  split
  · omega
  · split <;> omega
