/-! the class draws a picture on a picture; blank pictures; copies -/
def jac (W : Nat) : Int32 := ((((1 : Int32) <<< (nI W &&& 31)) - (1 : Int32)) <<< (((29 : Int32) - nI W) &&& 31))
theorem jac_bit : ∀ W, W < 25 → ∀ j, j < 32 → bt (jac W) j = decide (29 - W ≤ j ∧ j ≤ 28) := by decide +kernel
theorem sh_bit {r : Int32} {X : Int} {σ : jMem} (hX : -32 < X ∧ X < 32) {j : Nat} (hj : j < 32) : bt (f_PI_shifted r (iI X) σ) j = if 0 ≤ (j : Int) + X ∧ (j : Int) + X < 32 then bt r ((j : Int) + X).toNat else false := by
  unfold f_PI_shifted
  by_cases c : X < 0
  · rw [if_pos ((iI_neg0 (by constructor <;> omega)).mpr c), iI_neg, iI_nat (show 0 ≤ -X by omega), b_shl _ (by omega) _ hj]
    by_cases c2 : (-X).toNat ≤ j
    · rw [decide_eq_true c2, Bool.true_and, if_pos (by omega)]
      congr 1
      omega
    · rw [decide_eq_false c2, Bool.false_and, if_neg (by omega)]
  · rw [if_neg (fun q => c ((iI_neg0 (by constructor <;> omega)).mp q)), iI_nat (show 0 ≤ X by omega), b_ushr _ (by omega)]
    by_cases c2 : (j : Int) + X < 32
    · rw [if_pos (by omega)]
      congr 1
      omega
    · rw [if_neg (by omega), b_big (by omega)]
theorem un_bit {W W' : Nat} {X : Int} {σ : jMem} (hW : W < 25) (hW' : W' < 25) (hX : -32 < X ∧ X < 32) {j : Nat} (hj : j < 32) : bt (f_PI_shifted (jac W') (iI X) σ &&& jac W) j = decide (j ≤ 28 ∧ 28 - j < W ∧ X ≤ 28 - (j : Int) ∧ 28 - (j : Int) < X + W') := by
  rw [b_and, sh_bit hX hj, jac_bit W hW j hj]
  by_cases c : 0 ≤ (j : Int) + X ∧ (j : Int) + X < 32
  · rw [if_pos c, jac_bit W' hW' _ (by omega), ← Bool.decide_and]
    congr 1
    apply propext
    constructor
    · rintro ⟨⟨h1, h2⟩, h3, h4⟩; omega
    · intro h; omega
  · rw [if_neg c, Bool.false_and, decide_eq_false (by omega)]
def stw (und x2 op a b : Int32) : Int32 := (a &&& (und ^^^ (-1 : Int32))) ||| ((f_PI_mixed a (f_PI_shifted b x2 jz) op jz) &&& und)
theorem stw_bit {und x2 op a b : Int32} {j : Nat} (hj : j < 32) : bt (stw und x2 op a b) j = if bt und j then mixb op (bt a j) (bt (f_PI_shifted b x2 jz) j) else bt a j := by
  unfold stw
  rw [b_or, b_and, b_xor, b_m1 j hj, b_and, pi_mixed _ _ _ _ hj]
  cases bt und j
  · simp
  · simp
set_option maxHeartbeats 1000000 in
theorem stp_L {p q H H' : Nat} {y : Int} {x2 op und : Int32} (hpq : q ≠ p) (hH : H ≤ 24) (hH' : H' ≤ 24) (hy : -5000 ≤ y ∧ y ≤ 5000) : ∀ t v n τ, v + t = H' → τ (14 + 2 * q) 2 = nI H' → τ (14 + 2 * p) 2 = nI H → ∃ τ', f_PI_stamp_L36 p q (n + t + 1) x2 (iI y) op und (nI v) τ = some ((), τ') ∧ (∀ o, o ≠ 15 + 2 * p → τ' o = τ o) ∧ ∀ Y, Y < 24 → τ' (15 + 2 * p) Y = if (y + v ≤ Y ∧ (Y : Int) < y + H') ∧ Y < H then stw und x2 op (τ (15 + 2 * p) Y) (τ (15 + 2 * q) ((Y : Int) - y).toNat) else τ (15 + 2 * p) Y := by
  intro t
  induction t with
  | zero =>
    intro v n τ hv h1 h2
    rw [f_PI_stamp_L36, h1, if_pos (nI_le (by omega) (by omega))]
    refine ⟨τ, rfl, fun _ _ => rfl, fun Y hY => ?_⟩
    rw [if_neg (by omega)]
  | succ t ih =>
    intro v n τ hv h1 h2
    have r : ∀ Z : Int, -20000 ≤ Z ∧ Z ≤ 20000 → jrg Z := fun Z hz => ⟨by omega, by omega⟩
    rw [show n + (t + 1) + 1 = (n + t + 1) + 1 from by omega, f_PI_stamp_L36, h1, h2, if_neg (nI_ge (by omega) (by omega)), nI_1]
    rw [show iI y + nI v = iI (y + v) from by rw [← iI_nI, iI_add]]
    by_cases c1 : y + v < 0
    · rw [if_pos ((iI_neg0 (r _ (by omega))).mpr c1)]
      obtain ⟨τ', g1, g2, g3⟩ := ih (v + 1) n τ (by omega) h1 h2
      refine ⟨τ', g1, g2, fun Y hY => ?_⟩
      rw [g3 Y hY]
      by_cases c : (y + v ≤ Y ∧ (Y : Int) < y + H') ∧ Y < H
      · rw [if_pos c, if_pos (by omega)]
      · rw [if_neg c, if_neg (by omega)]
    rw [if_neg (fun q => c1 ((iI_neg0 (r _ (by omega))).mp q))]
    by_cases c2 : (H : Int) ≤ y + v
    · rw [if_pos ((nI_leX (by omega) (r _ (by omega))).mpr c2)]
      obtain ⟨τ', g1, g2, g3⟩ := ih (v + 1) n τ (by omega) h1 h2
      refine ⟨τ', g1, g2, fun Y hY => ?_⟩
      rw [g3 Y hY]
      by_cases c : (y + v ≤ Y ∧ (Y : Int) < y + H') ∧ Y < H
      · rw [if_pos c, if_pos (by omega)]
      · rw [if_neg c, if_neg (by omega)]
    rw [if_neg (fun q => c2 ((nI_leX (by omega) (r _ (by omega))).mp q)), iI_nat (show 0 ≤ y + v by omega)]
    have hc : ¬ (nI (y + v).toNat < 0 ∨ 24 ≤ (nI (y + v).toNat).toNatClampNeg) := nI_in (by omega) (by decide)
    simp only [jck_pos hc]
    rw [jck_pos (nI_in (show v < 24 by omega) (by decide)), nI_clamp (show (y + v).toNat < 2 ^ 31 by omega), nI_clamp (show v < 2 ^ 31 by omega)]
    obtain ⟨τ', g1, g2, g3⟩ := ih (v + 1) n (ju τ (15 + 2 * p) (y + v).toNat (stw und x2 op (τ (15 + 2 * p) (y + v).toNat) (τ (15 + 2 * q) v))) (by omega) (by rw [ju_n (by omega)]; exact h1) (by rw [ju_n (by omega)]; exact h2)
    refine ⟨τ', g1, fun o ho => by rw [g2 o ho, ju_n ho], fun Y hY => ?_⟩
    rw [g3 Y hY, ju_n (show 15 + 2 * q ≠ 15 + 2 * p by omega), ju_ap, if_pos rfl]
    by_cases e : Y = (y + v).toNat
    · rw [if_neg (by omega), if_pos e, if_pos (by omega), show ((Y : Int) - y).toNat = v from by omega, e]
    · rw [if_neg e]
      by_cases c : (y + v ≤ Y ∧ (Y : Int) < y + H') ∧ Y < H
      · rw [if_pos c, if_pos (by omega)]
      · rw [if_neg c, if_neg (by omega)]
set_option maxHeartbeats 1000000 in
theorem pi_stamp {σ ρ : jMem} {p q W H W' H' : Nat} {x y : Int} {op : Int32} (hpq : q ≠ p) (hx : -5000 ≤ x ∧ x ≤ 5000) (hy : -5000 ≤ y ∧ y ≤ 5000) (hP : jP σ ρ p W H) (hQ : jP σ ρ q W' H') : ∃ σ', f_PI_stamp p q (iI x) (iI y) op σ = some ((), σ') ∧ (∀ o, o ≠ 15 + 2 * p → σ' o = σ o) ∧ ∀ Y, Y < 24 → ∀ j, j < 32 → bt (σ' (15 + 2 * p) Y) j = (decide (j ≤ 28) && jdr ρ p q W H W' H' x y op ((28 - j : Nat) : Int) Y) := by
  have hW := hP.1.2.1
  have hH := hP.1.2.2.2.1
  have hW' := hQ.1.2.1
  have hH' := hQ.1.2.2.2.1
  have r : ∀ Z : Int, -20000 ≤ Z ∧ Z ≤ 20000 → jrg Z := fun Z hz => ⟨by omega, by omega⟩
  have stay : ∀ Y, Y < 24 → ∀ j, j < 32 → ¬ (x ≤ ((28 - j : Nat) : Int) ∧ ((28 - j : Nat) : Int) < x + W' ∧ ((28 - j : Nat) : Int) < W ∧ j ≤ 28) → bt (σ (15 + 2 * p) Y) j = (decide (j ≤ 28) && jdr ρ p q W H W' H' x y op ((28 - j : Nat) : Int) Y) := by
    intro Y hY j hj c
    rw [hP.bit hY hj]
    unfold jdr
    by_cases c2 : j ≤ 28
    · rw [if_neg (by omega)]
    · rw [decide_eq_false c2, Bool.false_and, Bool.false_and]
  unfold f_PI_stamp
  rw [hP.2.1, hQ.2.1]
  by_cases c1 : (W : Int) ≤ x
  · rw [if_pos ((nI_leX (by omega) (r _ (by omega))).mpr c1)]
    exact ⟨σ, rfl, fun _ _ => rfl, fun Y hY j hj => stay Y hY j hj (by omega)⟩
  rw [if_neg (fun q => c1 ((nI_leX (by omega) (r _ (by omega))).mp q)), ← iI_nI W', iI_neg]
  by_cases c2 : -(W' : Int) < x
  · rw [if_pos ((iI_lt (r _ (by omega)) (r _ (by omega))).mpr c2)]
    have a1 : f_PI_allColumns q σ = some (jac W', σ) := by unfold f_PI_allColumns; rw [hQ.2.1]; rfl
    have a2 : f_PI_allColumns p σ = some (jac W, σ) := by unfold f_PI_allColumns; rw [hP.2.1]; rfl
    rw [jbd_eq a1, jbd_eq a2]
    obtain ⟨τ, g1, g2, g3⟩ := stp_L (x2 := iI x) (op := op) (und := f_PI_shifted (jac W') (iI x) σ &&& jac W) hpq hH hH' hy H' 0 (19999 - H') σ (by omega) hQ.2.2.1 hP.2.2.1
    rw [show (19999 - H') + H' + 1 = jfu from by show _ = 20000; omega] at g1
    refine ⟨τ, g1, g2, fun Y hY j hj => ?_⟩
    rw [g3 Y hY]
    by_cases c : (y + (0 : Nat) ≤ Y ∧ (Y : Int) < y + H') ∧ Y < H
    · rw [if_pos c, stw_bit hj, un_bit (by omega) (by omega) (by omega) hj]
      by_cases c3 : j ≤ 28 ∧ 28 - j < W ∧ x ≤ 28 - (j : Int) ∧ 28 - (j : Int) < x + W'
      · rw [decide_eq_true c3, if_pos rfl, hP.bit hY hj, decide_eq_true c3.1, Bool.true_and, Bool.true_and, sh_bit (by omega) hj]
        unfold jdr
        rw [if_pos (by omega), if_pos (by omega), hQ.bit (y := ((Y : Int) - y).toNat) (by omega) (by omega), decide_eq_true (by omega), Bool.true_and]
        congr 2
        · omega
        · omega
      · rw [decide_eq_false c3]
        exact stay Y hY j hj (by omega)
    · rw [if_neg c, hP.bit hY hj]
      unfold jdr
      by_cases c4 : j ≤ 28
      · rw [if_neg (by omega)]
      · rw [decide_eq_false c4, Bool.false_and, Bool.false_and]
  · rw [if_neg (fun q => c2 ((iI_lt (r _ (by omega)) (r _ (by omega))).mp q))]
    exact ⟨σ, rfl, fun _ _ => rfl, fun Y hY j hj => stay Y hY j hj (by omega)⟩
def jKc (p : Nat) (σ0 σ : jMem) : Prop := ∀ o, o ≠ 15 + 2 * p → σ o = σ0 o
theorem stamp_lay {σ ρ : jMem} {p q W H W' H' : Nat} {x y : Int} {op : Int32} (hp : p < 12) (hq : q < 12) (hpq : q ≠ p) (hx : -5000 ≤ x ∧ x ≤ 5000) (hy : -5000 ≤ y ∧ y ≤ 5000) (hP : jP σ ρ p W H) (hQ : jP σ ρ q W' H') : jPP (f_PI_stamp p q (iI x) (iI y) op σ) (f_MO_lay (nI p) (nI q) (iI x) (iI y) op ρ) (fun _ m _ k => jKc p σ m ∧ jKd p ρ k ∧ jP m k p W H) := by
  obtain ⟨σ', s1, s2, s3⟩ := pi_stamp (op := op) hpq hx hy hP hQ
  obtain ⟨ρ', r1, r2, r3, r4⟩ := mo_lay (op := op) hp hq hpq hx hy hP.1 hQ.1
  refine ⟨(), σ', (), ρ', s1, r1, s2, r2, r3, ?_, ?_, ?_⟩
  · rw [s2 _ (by omega)]; exact hP.2.1
  · rw [s2 _ (by omega)]; exact hP.2.2.1
  · intro Y hY j hj
    rw [s3 Y hY j hj]
    by_cases c : j ≤ 28
    · rw [r4 Y hY _ (by omega)]
    · rw [decide_eq_false c, Bool.false_and, Bool.false_and]
/-- pictures made anew -/
def jKb (p : Nat) (σ0 σ : jMem) : Prop := ∀ o, o ≠ 14 + 2 * p → o ≠ 15 + 2 * p → σ o = σ0 o
def jKz (p : Nat) (ρ0 ρ : jMem) : Prop := (∀ o, o ≠ 39 → o ≠ 40 → o ≠ 41 → ρ o = ρ0 o) ∧ (∀ i, i ≠ p → ρ 40 i = ρ0 40 i ∧ ρ 41 i = ρ0 41 i) ∧ (∀ i, ¬ (24 * p ≤ i ∧ i < 24 * p + 24) → ρ 39 i = ρ0 39 i)
theorem fill_L {p : Nat} : ∀ t y n τ, y + t = 24 → ∃ τ', f_AR_fill_x_L5 p (n + t + 1) 0 (nI y) 24 τ = some ((), τ') ∧ (∀ o, o ≠ 15 + 2 * p → τ' o = τ o) ∧ ∀ i, i < 24 → τ' (15 + 2 * p) i = if y ≤ i then 0 else τ (15 + 2 * p) i := by
  intro t
  induction t with
  | zero =>
    intro y n τ hy
    rw [f_AR_fill_x_L5, if_pos (show (24 : Int32) ≤ nI y from nI_le (a := 24) (by omega) (by omega))]
    exact ⟨τ, rfl, fun _ _ => rfl, fun i hi => by rw [if_neg (by omega)]⟩
  | succ t ih =>
    intro y n τ hy
    obtain ⟨τ', g1, g2, g3⟩ := ih (y + 1) n (ju τ (15 + 2 * p) y 0) (by omega)
    rw [show n + (t + 1) + 1 = (n + t + 1) + 1 from by omega, f_AR_fill_x_L5, if_neg (show ¬ (24 : Int32) ≤ nI y from nI_ge (b := 24) (by omega) (by omega)), jck_pos (nI_in (by omega) (by decide)), nI_clamp (by omega), nI_1]
    refine ⟨τ', g1, fun o ho => by rw [g2 o ho, ju_n ho], fun i hi => ?_⟩
    rw [g3 i hi, ju_ap, if_pos rfl]
    by_cases e : i = y
    · rw [if_neg (by omega), if_pos e, if_pos (by omega)]
    · rw [if_neg e]
      by_cases c : y ≤ i
      · rw [if_pos (by omega), if_pos c]
      · rw [if_neg (by omega), if_neg c]
theorem resz_L {p : Nat} {x2 x3 : Int32} (hp : p < 12) : ∀ t y n τ, y + t = 24 → ∃ τ', f_MO_resize_L20 (n + t + 1) (nI p) x2 x3 (nI (24 * p + y)) τ = some ((), τ') ∧ (∀ o, o ≠ 39 → τ' o = τ o) ∧ (∀ i, ¬ (24 * p ≤ i ∧ i < 24 * p + 24) → τ' 39 i = τ 39 i) ∧ ∀ i, i < 24 → τ' 39 (24 * p + i) = if y ≤ i then 0 else τ 39 (24 * p + i) := by
  have e24 : (24 : Int32) * nI p + 24 = nI (24 * p + 24) := by rw [show (24 : Int32) = nI 24 from rfl, pk_mul, nI_add]
  intro t
  induction t with
  | zero =>
    intro y n τ hy
    rw [f_MO_resize_L20, e24, if_pos (nI_le (by omega) (by omega))]
    exact ⟨τ, rfl, fun _ _ => rfl, fun _ _ => rfl, fun i hi => by rw [if_neg (by omega)]⟩
  | succ t ih =>
    intro y n τ hy
    obtain ⟨τ', g1, g2, g3, g4⟩ := ih (y + 1) n (ju τ 39 (24 * p + y) 0) (by omega)
    rw [show n + (t + 1) + 1 = (n + t + 1) + 1 from by omega, f_MO_resize_L20, e24, if_neg (nI_ge (by omega) (by omega)), jck_pos (nI_in (by omega) (by decide)), nI_clamp (by omega), nI_1]
    refine ⟨τ', g1, fun o ho => by rw [g2 o ho, ju_n ho], fun i hi => ?_, fun i hi => ?_⟩
    · rw [g3 i hi, ju_ap, if_pos rfl, if_neg (by omega)]
    · rw [g4 i hi, ju_ap, if_pos rfl]
      by_cases e : i = y
      · rw [if_neg (by omega), if_pos (by omega), if_pos (by omega)]
      · rw [if_neg (show ¬ 24 * p + i = 24 * p + y by omega)]
        by_cases c : y ≤ i
        · rw [if_pos (by omega), if_pos c]
        · rw [if_neg (by omega), if_neg c]
theorem mo_resize {ρ : jMem} {p W H : Nat} (hp : p < 12) (hW : 1 ≤ W ∧ W ≤ 24) (hH : 1 ≤ H ∧ H ≤ 24) : ∃ ρ', f_MO_resize (nI p) (nI W) (nI H) ρ = some ((), ρ') ∧ jKz p ρ ρ' ∧ jQz ρ' p W H ∧ ∀ y, y < 24 → ρ' 39 (24 * p + y) = 0 := by
  have hc : ¬ (nI p < 0 ∨ 12 ≤ (nI p).toNatClampNeg) := nI_in hp (by decide)
  unfold f_MO_resize
  rw [jck_pos hc, jck_pos hc, nI_clamp (by omega), show (24 : Int32) * nI p = nI (24 * p + 0) from by rw [show (24 : Int32) = nI 24 from rfl, pk_mul]; rfl]
  obtain ⟨τ, g1, g2, g3, g4⟩ := resz_L (x2 := nI W) (x3 := nI H) hp 24 0 19975 (ju (ju ρ 40 p (nI W)) 41 p (nI H)) rfl
  have z : ∀ y, y < 24 → τ 39 (24 * p + y) = 0 := fun y hy => by rw [g4 y hy, if_pos (by omega)]
  refine ⟨τ, g1, ⟨fun o h1 h2 h3 => by rw [g2 o h1, ju_n h3, ju_n h2], fun i hi => ⟨?_, ?_⟩, fun i hi => by rw [g3 i hi, ju_n (by decide), ju_n (by decide)]⟩, ⟨hW.1, hW.2, hH.1, hH.2, ?_, ?_, ?_⟩, z⟩
  · rw [g2 40 (by decide), ju_n (by decide), ju_ap, if_pos rfl, if_neg hi]
  · rw [g2 41 (by decide), ju_ap, if_pos rfl, if_neg hi, ju_n (by decide)]
  · rw [g2 40 (by decide), ju_n (by decide), ju_ap, if_pos rfl, if_pos rfl]
  · rw [g2 41 (by decide), ju_ap, if_pos rfl, if_pos rfl]
  · intro y hy i q
    rw [z y hy, b_0] at q
    exact Bool.noConfusion q
theorem blank_resize {σ ρ : jMem} {p W H : Nat} (hp : p < 12) (hW : 1 ≤ W ∧ W ≤ 24) (hH : 1 ≤ H ∧ H ≤ 24) : jPP (f_PI_blank p (nI W) (nI H) σ) (f_MO_resize (nI p) (nI W) (nI H) ρ) (fun _ m _ k => jKb p σ m ∧ jKz p ρ k ∧ jP m k p W H) := by
  obtain ⟨ρ', r1, r2, r3, r4⟩ := mo_resize (ρ := ρ) hp hW hH
  obtain ⟨τ, g1, g2, g3⟩ := fill_L (p := p) 24 0 19975 (ju (ju σ (14 + 2 * p) 1 (nI W)) (14 + 2 * p) 2 (nI H)) rfl
  refine ⟨(), τ, (), ρ', ?_, r1, ?_, r2, r3, ?_, ?_, ?_⟩
  · unfold f_PI_blank f_AR_fill_x
    exact (jbd_eq g1)
  · intro o h1 h2
    rw [g2 o h2, ju_n h1, ju_n h1]
  · rw [g2 _ (by omega), ju_ap, if_pos rfl, if_neg (by decide), ju_ap, if_pos rfl, if_pos rfl]
  · rw [g2 _ (by omega), ju_ap, if_pos rfl, if_pos rfl]
  · intro y hy i hi
    rw [g3 y hy, if_pos (by omega), r4 y hy, b_0, b_0, Bool.and_false]
