/-! contexts of points; a point set -/
theorem iI_sl {X : Int} {c : Int32} (d : Int) (h : c = iI d) : iI X - c = iI (X - d) := by rw [h, iI_sub]
theorem iI_al {X : Int} {c : Int32} (d : Int) (h : c = iI d) : iI X + c = iI (X + d) := by rw [h, iI_add]
set_option maxHeartbeats 1000000 in
theorem pt_ctx {σ ρ : jMem} {p W H t : Nat} (h : jP σ ρ p W H) {X Y : Int} (hX : -1000 ≤ X ∧ X ≤ 1000) (hY : -1000 ≤ Y ∧ Y ≤ 1000) (ht : 1 ≤ t ∧ t ≤ 3) : f_PT_contextOf p (nI t) (iI X) (iI Y) σ = some (nI (jctx ρ p t X Y), σ) := by
  have r : ∀ Z : Int, -2000 ≤ Z ∧ Z ≤ 2000 → jrg Z := fun Z hz => ⟨by omega, by omega⟩
  have s4 := pi_span (L := X + 2) (Y := Y - 2) (w := 4) h (r _ (by omega)) (r _ (by omega)) (by decide)
  have s6 := pi_span (L := X + 3) (Y := Y - 1) (w := 6) h (r _ (by omega)) (r _ (by omega)) (by decide)
  have s3 := pi_span (L := X - 1) (Y := Y) (w := 3) h (r _ (by omega)) (r _ (by omega)) (by decide)
  have q3 := pi_span (L := X + 1) (Y := Y - 2) (w := 3) h (r _ (by omega)) (r _ (by omega)) (by decide)
  have q5 := pi_span (L := X + 2) (Y := Y - 1) (w := 5) h (r _ (by omega)) (r _ (by omega)) (by decide)
  have q2 := pi_span (L := X - 1) (Y := Y) (w := 2) h (r _ (by omega)) (r _ (by omega)) (by decide)
  have z6 := pi_span (L := X + 2) (Y := Y - 1) (w := 6) h (r _ (by omega)) (r _ (by omega)) (by decide)
  have z4 := pi_span (L := X - 1) (Y := Y) (w := 4) h (r _ (by omega)) (r _ (by omega)) (by decide)
  have a1 := jsp_lt ρ p (Y - 2) 4 (X + 2)
  have a2 := jsp_lt ρ p (Y - 1) 6 (X + 3)
  have a3 := jsp_lt ρ p Y 3 (X - 1)
  have b1 := jsp_lt ρ p (Y - 2) 3 (X + 1)
  have b2 := jsp_lt ρ p (Y - 1) 5 (X + 2)
  have b3 := jsp_lt ρ p Y 2 (X - 1)
  have c1 := jsp_lt ρ p (Y - 1) 6 (X + 2)
  have c2 := jsp_lt ρ p Y 4 (X - 1)
  unfold f_PT_contextOf
  rw [show iI Y - (2 : Int32) = iI (Y - 2) from iI_sub Y 2, show iI Y - (1 : Int32) = iI (Y - 1) from iI_sub Y 1, show iI X - (1 : Int32) = iI (X - 1) from iI_sub X 1, show iI X + (2 : Int32) = iI (X + 2) from iI_add X 2, show iI X + (3 : Int32) = iI (X + 3) from iI_add X 3, show iI X + (1 : Int32) = iI (X + 1) from iI_add X 1]
  have cases : t = 1 ∨ t = 2 ∨ t = 3 := by omega
  rcases cases with rfl | rfl | rfl
  · rw [if_pos (show nI 1 = 1 from rfl), show (4 : Int32) = nI 4 from rfl, show (6 : Int32) = nI 6 from rfl, show ((3 : Int32)) = nI 3 from rfl, jbd_eq s4, jbd_eq s6, jbd_eq s3]
    unfold jctx
    rw [if_pos rfl, Int32.zero_add, pk_shlN ((9 : Int32) &&& 31) 9 (by decide) (by omega), pk_shlN (nI 3 &&& 31) 3 (by decide) (by omega), nx_or, nx_or]
    congr 3
    rw [← Nat.shiftLeft_eq, ← Nat.shiftLeft_eq, ← Nat.shiftLeft_add_eq_or_of_lt (by rw [Nat.shiftLeft_eq]; omega)]
    rw [show jsp ρ p (Y - 2) (X + 2) 4 <<< 9 + jsp ρ p (Y - 1) (X + 3) 6 <<< 3 = (jsp ρ p (Y - 2) (X + 2) 4 <<< 6 + jsp ρ p (Y - 1) (X + 3) 6) <<< 3 from by simp only [Nat.shiftLeft_eq]; omega, ← Nat.shiftLeft_add_eq_or_of_lt (by omega)]
  · rw [if_neg (by decide), if_pos (show nI 2 = 2 from rfl), show (3 : Int32) = nI 3 from rfl, show (5 : Int32) = nI 5 from rfl, show ((2 : Int32)) = nI 2 from rfl, jbd_eq q3, jbd_eq q5, jbd_eq q2]
    unfold jctx
    rw [if_neg (by decide), if_pos rfl, pk_shlN ((7 : Int32) &&& 31) 7 (by decide) (by omega), pk_shlN (nI 2 &&& 31) 2 (by decide) (by omega), nx_or, nx_or, show (8192 : Int32) = nI 8192 from rfl, nI_add]
    congr 4
    rw [← Nat.shiftLeft_eq, ← Nat.shiftLeft_eq, ← Nat.shiftLeft_add_eq_or_of_lt (by rw [Nat.shiftLeft_eq]; omega)]
    rw [show jsp ρ p (Y - 2) (X + 1) 3 <<< 7 + jsp ρ p (Y - 1) (X + 2) 5 <<< 2 = (jsp ρ p (Y - 2) (X + 1) 3 <<< 5 + jsp ρ p (Y - 1) (X + 2) 5) <<< 2 from by simp only [Nat.shiftLeft_eq]; omega, ← Nat.shiftLeft_add_eq_or_of_lt (by omega)]
  · rw [if_neg (by decide), if_neg (by decide), show (6 : Int32) = nI 6 from rfl, show (4 : Int32) = nI 4 from rfl, jbd_eq z6, jbd_eq z4]
    unfold jctx
    rw [if_neg (by decide), if_neg (by decide), pk_shlN (nI 4 &&& 31) 4 (by decide) (by omega), nx_or, show (9216 : Int32) = nI 9216 from rfl, nI_add]
    congr 4
    rw [← Nat.shiftLeft_eq, ← Nat.shiftLeft_add_eq_or_of_lt (by omega), Nat.shiftLeft_eq]
set_option maxHeartbeats 1000000 in
theorem mo_ctx {ρ : jMem} {p W H t : Nat} (hp : p < 12) (h : jQz ρ p W H) {X Y : Int} (hX : -1000 ≤ X ∧ X ≤ 1000) (hY : -1000 ≤ Y ∧ Y ≤ 1000) (ht : 1 ≤ t ∧ t ≤ 3) : f_MO_contextOf (nI p) (nI t) (iI X) (iI Y) ρ = some (nI (jctx ρ p t X Y), ρ) := by
  have r : ∀ Z : Int, -2000 ≤ Z ∧ Z ≤ 2000 → jrg Z := fun Z hz => ⟨by omega, by omega⟩
  unfold f_MO_contextOf
  rw [show iI Y - (2 : Int32) = iI (Y - 2) from iI_sub Y 2, show iI Y - (1 : Int32) = iI (Y - 1) from iI_sub Y 1, show iI X - (1 : Int32) = iI (X - 1) from iI_sub X 1, show iI X - (2 : Int32) = iI (X - 2) from iI_sub X 2, show iI X - (3 : Int32) = iI (X - 3) from iI_sub X 3, show iI X - (4 : Int32) = iI (X - 4) from iI_sub X 4, show iI X + (2 : Int32) = iI (X + 2) from iI_add X 2, show iI X + (3 : Int32) = iI (X + 3) from iI_add X 3, show iI X + (1 : Int32) = iI (X + 1) from iI_add X 1]
  have cases : t = 1 ∨ t = 2 ∨ t = 3 := by omega
  rcases cases with rfl | rfl | rfl
  · rw [if_pos (show nI 1 = 1 from rfl), show (0 : Int32) = nI 0 from rfl, jbd_eq (mo_around hp h 4 (by omega) (r _ (by omega)) (by decide) (by omega) 0), jbd_eq (mo_around hp h 6 (by omega) (r _ (by omega)) (by decide) (by omega) _), jbd_eq (mo_around hp h 3 (by omega) (r _ (by omega)) (by decide) (by omega) _)]
    unfold jctx
    rw [if_pos rfl]
    congr 3
    omega
  · rw [if_neg (by decide), if_pos (show nI 2 = 2 from rfl), show (0 : Int32) = nI 0 from rfl, jbd_eq (mo_around hp h 3 (by omega) (r _ (by omega)) (by decide) (by omega) 0), jbd_eq (mo_around hp h 5 (by omega) (r _ (by omega)) (by decide) (by omega) _), jbd_eq (mo_around hp h 2 (by omega) (r _ (by omega)) (by decide) (by omega) _)]
    unfold jctx
    rw [if_neg (by decide), if_pos rfl, show (8192 : Int32) = nI 8192 from rfl, nI_add]
    congr 3
    omega
  · rw [if_neg (by decide), if_neg (by decide), show (0 : Int32) = nI 0 from rfl, jbd_eq (mo_around hp h 6 (by omega) (r _ (by omega)) (by decide) (by omega) 0), jbd_eq (mo_around hp h 4 (by omega) (r _ (by omega)) (by decide) (by omega) _)]
    unfold jctx
    rw [if_neg (by decide), if_neg (by decide), show (9216 : Int32) = nI 9216 from rfl, nI_add]
    congr 3
    omega
/-- a word with one bit set anew -/
def jsb (z : Int32) (i : Nat) (d : Bool) : Int32 := if d then z ||| ((1 : Int32) <<< (nI i &&& 31)) else z &&& (((1 : Int32) <<< (nI i &&& 31)) ^^^ (-1))
theorem b_shl1 {n i : Nat} (hn : n < 32) (hi : i < 32) : bt ((1 : Int32) <<< (nI n &&& 31)) i = decide (i = n) := by
  rw [b_shl n hn _ hi, b_one]
  by_cases c : n ≤ i
  · by_cases e : i = n
    · subst e; simp
    · rw [decide_eq_true c, decide_eq_false (by omega), decide_eq_false e]; rfl
  · rw [decide_eq_false c, decide_eq_false (show ¬ i = n by omega)]; rfl
theorem b_jsb {z : Int32} {n i : Nat} {d : Bool} (hn : n < 32) (hi : i < 32) : bt (jsb z n d) i = if i = n then d else bt z i := by
  unfold jsb
  cases d with
  | true =>
    rw [if_pos rfl, b_or, b_shl1 hn hi]
    by_cases e : i = n
    · simp [e]
    · simp [e]
  | false =>
    rw [if_neg (by decide), b_and, b_xor, b_m1 i hi, b_shl1 hn hi]
    by_cases e : i = n
    · simp [e]
    · simp [e]
theorem jb1 {d : Bool} : jb d = 1 ↔ d = true := by cases d <;> decide
theorem pi_set {σ : jMem} {p x y : Nat} {d : Bool} (hx : x < 24) (hy : y < 24) : f_PI_set p (nI x) (nI y) (jb d) σ = some ((), ju σ (15 + 2 * p) y (jsb (σ (15 + 2 * p) y) (28 - x) d)) := by
  have hc : ¬ (nI y < 0 ∨ 24 ≤ (nI y).toNatClampNeg) := nI_in hy (by decide)
  unfold f_PI_set jsb
  simp only [jck_pos hc]
  rw [nI_clamp (by omega), show (28 : Int32) - nI x = nI (28 - x) from pk_sub (a := 28) (by omega)]
  cases d with
  | true => rw [if_pos (show jb true = 1 from rfl), if_pos rfl]
  | false => rw [if_neg (by decide), if_neg (by decide)]
theorem mo_ink {ρ : jMem} {p x y : Nat} {d : Bool} (hp : p < 12) (hx : x < 24) (hy : y < 24) : f_MO_ink (nI p) (nI x) (nI y) (jb d) ρ = some ((), ju ρ 39 (24 * p + y) (jsb (ρ 39 (24 * p + y)) x d)) := by
  have hc : ¬ (nI (24 * p + y) < 0 ∨ 288 ≤ (nI (24 * p + y)).toNatClampNeg) := nI_in (by omega) (by decide)
  unfold f_MO_ink
  rw [j24, jck_pos hc, jck_pos hc, nI_clamp (by omega)]
  congr 3
  apply b_ext
  intro i hi
  rw [b_jsb (by omega) hi, b_or, b_and, b_xor, b_m1 i hi, b_shl1 (by omega) hi, b_shl x (by omega) _ hi]
  by_cases e : i = x
  · subst e
    cases d <;> simp [jb, b_one, b_0]
  · rw [if_neg e, decide_eq_false e]
    have : (decide (x ≤ i) && bt (jb d) (i - x)) = false := by
      by_cases c : x ≤ i
      · cases d
        · simp [jb, b_0]
        · simp [jb, b_one]; omega
      · simp [c]
    rw [this]
    simp
/-- a point of picture p is set in both -/
theorem jP.set {σ ρ : jMem} {p W H x y : Nat} {d : Bool} (h : jP σ ρ p W H) (hx : x < W) (hy : y < H) : jP (ju σ (15 + 2 * p) y (jsb (σ (15 + 2 * p) y) (28 - x) d)) (ju ρ 39 (24 * p + y) (jsb (ρ 39 (24 * p + y)) x d)) p W H := by
  obtain ⟨⟨w1, w2, h1, h2, a3, a4, hz⟩, a1, a2, hb⟩ := h
  have hQ : jQz (ju ρ 39 (24 * p + y) (jsb (ρ 39 (24 * p + y)) x d)) p W H := by
    refine ⟨w1, w2, h1, h2, ?_, ?_, ?_⟩
    · rw [ju_ap, if_neg (by decide), a3]
    · rw [ju_ap, if_neg (by decide), a4]
    · intro y' hy' i
      rw [ju_ap, if_pos rfl]
      by_cases e : y' = y
      · subst e
        rw [if_pos rfl]
        intro q
        by_cases hi : i < 32
        · rw [b_jsb (by omega) hi] at q
          by_cases e2 : i = x
          · omega
          · rw [if_neg e2] at q
            exact hz y' hy' i q
        · rw [b_big (by omega)] at q
          exact Bool.noConfusion q
      · rw [if_neg (by omega)]
        exact hz y' hy' i
  refine ⟨hQ, ?_, ?_, ?_⟩
  · rw [ju_ap, if_neg (by omega), a1]
  · rw [ju_ap, if_neg (by omega), a2]
  · intro y' hy' i hi
    rw [ju_ap, if_pos rfl, ju_ap, if_pos rfl]
    by_cases e : y' = y
    · subst e
      rw [if_pos rfl, if_pos rfl, b_jsb (by omega) hi, b_jsb (by omega) (by omega), hb y' hy' i hi]
      by_cases e2 : i = 28 - x
      · rw [if_pos e2, if_pos (by omega), decide_eq_true (by omega), Bool.true_and]
      · rw [if_neg e2]
        by_cases e3 : i ≤ 28
        · rw [if_neg (by omega)]
        · rw [decide_eq_false e3, Bool.false_and, Bool.false_and]
    · rw [if_neg e, if_neg (by omega), hb y' hy' i hi]
