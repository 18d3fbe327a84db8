/-! pictures drawn on pictures; pictures made blank -/
def mixb (op : Int32) (a b : Bool) : Bool := if op = 0 then a || b else if op = 1 then a && b else if op = 2 then a ^^ b else if op = 3 then !(a ^^ b) else b
theorem mo_mix (op : Int32) (a b : Bool) (σ : jMem) : f_MO_mix (jb a) (jb b) op σ = jb (mixb op a b) := by
  unfold f_MO_mix mixb
  by_cases c0 : op = 0
  · simp only [c0, if_true]; cases a <;> cases b <;> rfl
  by_cases c1 : op = 1
  · simp only [c0, c1, if_false, if_true]; cases a <;> cases b <;> decide
  by_cases c2 : op = 2
  · simp only [c0, c1, c2, if_false, if_true]; cases a <;> cases b <;> decide
  by_cases c3 : op = 3
  · simp only [c0, c1, c2, c3, if_false, if_true]; cases a <;> cases b <;> decide
  simp only [c0, c1, c2, c3, if_false]
theorem pi_mixed (op a b : Int32) (σ : jMem) {j : Nat} (hj : j < 32) : bt (f_PI_mixed a b op σ) j = mixb op (bt a j) (bt b j) := by
  unfold f_PI_mixed mixb
  by_cases c0 : op = 0
  · simp only [c0, if_true, b_or]
  by_cases c1 : op = 1
  · rw [if_neg c0, if_pos c1, if_neg c0, if_pos c1, b_and]
  by_cases c2 : op = 2
  · rw [if_neg c0, if_neg c1, if_pos c2, if_neg c0, if_neg c1, if_pos c2, b_xor]
  by_cases c3 : op = 3
  · rw [if_neg c0, if_neg c1, if_neg c2, if_pos c3, if_neg c0, if_neg c1, if_neg c2, if_pos c3, b_xor, b_xor, b_m1 j hj, Bool.xor_true]
  rw [if_neg c0, if_neg c1, if_neg c2, if_neg c3, if_neg c0, if_neg c1, if_neg c2, if_neg c3]
theorem jQz.set {ρ : jMem} {p W H x y : Nat} {d : Bool} (h : jQz ρ p W H) (hx : x < W) (hy : y < H) : jQz (ju ρ 39 (24 * p + y) (jsb (ρ 39 (24 * p + y)) x d)) p W H := by
  obtain ⟨w1, w2, h1, h2, a3, a4, hz⟩ := h
  refine ⟨w1, w2, h1, h2, ?_, ?_, ?_⟩
  · rw [ju_ap, if_neg (by decide), a3]
  · rw [ju_ap, if_neg (by decide), a4]
  · intro y' hy' i
    rw [ju_ap, if_pos rfl]
    by_cases e : y' = y
    · subst e
      rw [if_pos rfl]
      intro q
      by_cases hi : i < 32
      · rw [b_jsb (by omega) hi] at q
        by_cases e2 : i = x
        · omega
        · rw [if_neg e2] at q
          exact hz y' hy' i q
      · rw [b_big (by omega)] at q
        exact Bool.noConfusion q
    · rw [if_neg (by omega)]
      exact hz y' hy' i
theorem jQz.c {ρ ρ' : jMem} {p W H : Nat} (h : jQz ρ p W H) (h3 : ∀ y, y < 24 → ρ' 39 (24 * p + y) = ρ 39 (24 * p + y)) (h4 : ρ' 40 p = ρ 40 p) (h5 : ρ' 41 p = ρ 41 p) : jQz ρ' p W H := by
  obtain ⟨w1, w2, g1, g2, a3, a4, hz⟩ := h
  refine ⟨w1, w2, g1, g2, by rw [h4]; exact a3, by rw [h5]; exact a4, ?_⟩
  intro y hy i; rw [h3 y hy]; exact hz y hy i
theorem jat_c {ρ ρ' : jMem} {p : Nat} (h3 : ∀ y, y < 24 → ρ' 39 (24 * p + y) = ρ 39 (24 * p + y)) (X Y : Int) : jat ρ' p X Y = jat ρ p X Y := by
  unfold jat
  by_cases c : 0 ≤ X ∧ X < 32 ∧ 0 ≤ Y ∧ Y < 24
  · rw [if_pos c, if_pos c, h3 _ (by omega)]
  · rw [if_neg c, if_neg c]
/-- what is drawn on picture p leaves the rest of the reference alone -/
def jKd (p : Nat) (ρ0 ρ : jMem) : Prop := (∀ o, o ≠ 39 → ρ o = ρ0 o) ∧ (∀ i, ¬ (24 * p ≤ i ∧ i < 24 * p + 24) → ρ 39 i = ρ0 39 i)
theorem jKd.r (p : Nat) (ρ : jMem) : jKd p ρ ρ := ⟨fun _ _ => rfl, fun _ _ => rfl⟩
theorem jKd.t {p : Nat} {a b c : jMem} (h : jKd p a b) (k : jKd p b c) : jKd p a c := ⟨fun o ho => (k.1 o ho).trans (h.1 o ho), fun i hi => (k.2 i hi).trans (h.2 i hi)⟩
theorem jKd.u {p k : Nat} {v : Int32} {a b : jMem} (h : jKd p a b) (hk : 24 * p ≤ k ∧ k < 24 * p + 24) : jKd p a (ju b 39 k v) := ⟨fun o ho => by rw [ju_n ho]; exact h.1 o ho, fun i hi => by rw [ju_ap, if_pos rfl, if_neg (by rintro rfl; exact hi hk)]; exact h.2 i hi⟩
theorem jKd.q {p q W H : Nat} {a b : jMem} (h : jKd p a b) (hq : q ≠ p) (k : jQz a q W H) : jQz b q W H := k.c (fun y hy => h.2 _ (by omega)) (by rw [h.1 40 (by decide)]) (by rw [h.1 41 (by decide)])
theorem jKd.at {p q : Nat} {a b : jMem} (h : jKd p a b) (hq : q ≠ p) (X Y : Int) : jat b q X Y = jat a q X Y := jat_c (fun y hy => h.2 _ (by omega)) X Y
set_option maxHeartbeats 1000000 in
theorem lay_in {p q W H W' H' : Nat} {x y : Int} {op : Int32} {v : Nat} (hp : p < 12) (hq : q < 12) (hpq : q ≠ p) (hx : -5000 ≤ x ∧ x ≤ 5000) (hy : -5000 ≤ y ∧ y ≤ 5000) (hv : v < H') : ∀ t u m τ, u + t = W' → jQz τ p W H → jQz τ q W' H' → ∃ τ' r, f_MO_lay_L17 (m + t + 1) (nI p) (nI q) (iI x) (iI y) op (nI v) (nI u) τ = some (r, τ') ∧ (r.1 = nI p ∧ r.2.1 = nI q ∧ r.2.2.1 = iI x ∧ r.2.2.2.1 = iI y ∧ r.2.2.2.2.1 = op ∧ r.2.2.2.2.2.1 = nI v) ∧ jKd p τ τ' ∧ jQz τ' p W H ∧ ∀ Y, Y < 24 → ∀ i, i < 32 → bt (τ' 39 (24 * p + Y)) i = if (Y : Int) = y + v ∧ Y < H ∧ i < W ∧ x + u ≤ i ∧ (i : Int) < x + W' then mixb op (bt (τ 39 (24 * p + Y)) i) (jat τ q ((i : Int) - x) v) else bt (τ 39 (24 * p + Y)) i := by
  have hc : ¬ (nI q < 0 ∨ 12 ≤ (nI q).toNatClampNeg) := nI_in hq (by decide)
  intro t
  induction t with
  | zero =>
    intro u m τ hu hP hQ
    have hW' := hQ.2.1
    have hw : τ 40 (nI q).toNatClampNeg = nI W' := by rw [nI_clamp (by omega)]; exact hQ.2.2.2.2.1
    rw [f_MO_lay_L17, jck_pos hc, hw, if_pos (nI_le (by omega) (by omega))]
    refine ⟨τ, _, rfl, ⟨rfl, rfl, rfl, rfl, rfl, rfl⟩, .r _ _, hP, fun Y hY i hi => ?_⟩
    rw [if_neg (by omega)]
  | succ t ih =>
    intro u m τ hu hP hQ
    have hW' := hQ.2.1
    have hH' := hQ.2.2.2.1
    have hW := hP.2.1
    have hH := hP.2.2.2.1
    have hw : τ 40 (nI q).toNatClampNeg = nI W' := by rw [nI_clamp (by omega)]; exact hQ.2.2.2.2.1
    have r : ∀ Z : Int, -20000 ≤ Z ∧ Z ≤ 20000 → jrg Z := fun Z hz => ⟨by omega, by omega⟩
    rw [show m + (t + 1) + 1 = (m + t + 1) + 1 from by omega, f_MO_lay_L17, jck_pos hc, hw, if_neg (nI_ge (by omega) (by omega)), nI_1]
    rw [show iI x + nI u = iI (x + u) from by rw [← iI_nI, iI_add], show iI y + nI v = iI (y + v) from by rw [← iI_nI, iI_add], jbd_eq (mo_inside hp hP (r _ (by omega)) (r _ (by omega)))]
    by_cases c : jin W H (x + u) (y + v)
    · rw [if_pos c, if_neg (by decide), jbd_eq (mo_at hp hP (r _ (by omega)) (r _ (by omega))), jcast u, jcast v, jbd_eq (mo_at hq hQ (r _ (by omega)) (r _ (by omega))), mo_mix, iI_nat c.1, iI_nat c.2.2.1, jbd_eq (mo_ink hp (by omega) (by omega)), iI_nI]
      generalize hd : mixb op (jat τ p (x + u) (y + v)) (jat τ q u v) = d
      obtain ⟨τ', rr, h1, h2, h3, h4, h5⟩ := ih (u + 1) m _ (by omega) (hP.set (x := (x + u).toNat) (y := (y + v).toNat) (d := d) (by omega) (by omega)) (hQ.c (fun Y hY => by rw [ju_ap, if_pos rfl, if_neg (by omega)]) (by rw [ju_ap, if_neg (by decide)]) (by rw [ju_ap, if_neg (by decide)]))
      refine ⟨τ', rr, h1, h2, ((jKd.r p τ).u (by omega)).t h3, h4, fun Y hY i hi => ?_⟩
      rw [h5 Y hY i hi]
      have hat : jat (ju τ 39 (24 * p + (y + v).toNat) (jsb (τ 39 (24 * p + (y + v).toNat)) (x + u).toNat d)) q ((i : Int) - x) v = jat τ q ((i : Int) - x) v := jat_c (fun Y hY => by rw [ju_ap, if_pos rfl, if_neg (by omega)]) _ _
      rw [hat, ju_ap, if_pos rfl]
      by_cases e : (Y : Int) = y + v
      · rw [if_pos (show 24 * p + Y = 24 * p + (y + v).toNat by omega), b_jsb (by omega) hi, show (y + v).toNat = Y from by omega]
        by_cases e2 : i = (x + u).toNat
        · rw [if_pos e2, if_neg (by omega), if_pos (by omega), ← hd, hP.ins c]
          rw [show (y + v).toNat = Y from by omega, ← e2, show ((i : Int) - x) = u from by omega]
        · rw [if_neg e2]
          by_cases c5 : (Y : Int) = y + v ∧ Y < H ∧ i < W ∧ x + u ≤ i ∧ (i : Int) < x + W'
          · rw [if_pos c5, if_pos (by omega)]
          · rw [if_neg c5, if_neg (by omega)]
      · rw [if_neg (show ¬ 24 * p + Y = 24 * p + (y + v).toNat by omega), if_neg (by omega), if_neg (by omega)]
    · rw [if_neg c, if_pos rfl]
      obtain ⟨τ', rr, h1, h2, h3, h4, h5⟩ := ih (u + 1) m τ (by omega) hP hQ
      refine ⟨τ', rr, h1, h2, h3, h4, fun Y hY i hi => ?_⟩
      rw [h5 Y hY i hi]
      by_cases c5 : (Y : Int) = y + v ∧ Y < H ∧ i < W ∧ x + u ≤ i ∧ (i : Int) < x + W'
      · rw [if_pos c5, if_pos (by omega)]
      · rw [if_neg c5, if_neg (by omega)]
set_option maxHeartbeats 1000000 in
theorem lay_out {p q W H W' H' : Nat} {x y : Int} {op : Int32} (hp : p < 12) (hq : q < 12) (hpq : q ≠ p) (hx : -5000 ≤ x ∧ x ≤ 5000) (hy : -5000 ≤ y ∧ y ≤ 5000) : ∀ t v m τ, v + t = H' → jQz τ p W H → jQz τ q W' H' → ∃ τ', f_MO_lay_L3 (m + t + 1) (nI p) (nI q) (iI x) (iI y) op (nI v) τ = some ((), τ') ∧ jKd p τ τ' ∧ jQz τ' p W H ∧ ∀ Y, Y < 24 → ∀ i, i < 32 → bt (τ' 39 (24 * p + Y)) i = if (y + v ≤ Y ∧ (Y : Int) < y + H') ∧ Y < H ∧ i < W ∧ x ≤ i ∧ (i : Int) < x + W' then mixb op (bt (τ 39 (24 * p + Y)) i) (jat τ q ((i : Int) - x) ((Y : Int) - y)) else bt (τ 39 (24 * p + Y)) i := by
  have hc : ¬ (nI q < 0 ∨ 12 ≤ (nI q).toNatClampNeg) := nI_in hq (by decide)
  intro t
  induction t with
  | zero =>
    intro v m τ hu hP hQ
    have hH' := hQ.2.2.2.1
    have hw : τ 41 (nI q).toNatClampNeg = nI H' := by rw [nI_clamp (by omega)]; exact hQ.2.2.2.2.2.1
    rw [f_MO_lay_L3, jck_pos hc, hw, if_pos (nI_le (by omega) (by omega))]
    refine ⟨τ, rfl, .r _ _, hP, fun Y hY i hi => ?_⟩
    rw [if_neg (by omega)]
  | succ t ih =>
    intro v m τ hu hP hQ
    have hW' := hQ.2.1
    have hH' := hQ.2.2.2.1
    have hw : τ 41 (nI q).toNatClampNeg = nI H' := by rw [nI_clamp (by omega)]; exact hQ.2.2.2.2.2.1
    obtain ⟨τ1, rr, h1, ⟨e1, e2, e3, e4, e5, e6⟩, h3, h4, h5⟩ := lay_in (op := op) (v := v) hp hq hpq hx hy (by omega) W' 0 (19999 - W') τ (by omega) hP hQ
    rw [show (19999 - W') + W' + 1 = jfu from by show _ = 20000; omega] at h1
    obtain ⟨τ2, g1, g2, g3, g4⟩ := ih (v + 1) m τ1 (by omega) h4 (h3.q hpq hQ)
    rw [show m + (t + 1) + 1 = (m + t + 1) + 1 from by omega, f_MO_lay_L3, jck_pos hc, hw, if_neg (nI_ge (by omega) (by omega)), show (0 : Int32) = nI 0 from rfl, jbd_eq h1, e1, e2, e3, e4, e5, e6, nI_1]
    refine ⟨τ2, g1, h3.t g2, g3, fun Y hY i hi => ?_⟩
    rw [g4 Y hY i hi, h5 Y hY i hi, h3.at hpq]
    by_cases c : (Y : Int) = y + v ∧ Y < H ∧ i < W ∧ x + (0 : Nat) ≤ i ∧ (i : Int) < x + W'
    · rw [if_neg (by omega), if_pos c, if_pos (by omega), show (Y : Int) - y = v from by omega]
    · rw [if_neg c]
      by_cases c2 : (y + (v + 1 : Nat) ≤ Y ∧ (Y : Int) < y + H') ∧ Y < H ∧ i < W ∧ x ≤ i ∧ (i : Int) < x + W'
      · rw [if_pos c2, if_pos (by omega)]
      · rw [if_neg c2, if_neg (by omega)]
/-- a point of the drawing -/
def jdr (ρ : jMem) (p q W H W' H' : Nat) (x y : Int) (op : Int32) (X Y : Int) : Bool := if (0 ≤ X ∧ X < W ∧ 0 ≤ Y ∧ Y < H) ∧ (x ≤ X ∧ X < x + W' ∧ y ≤ Y ∧ Y < y + H') then mixb op (jat ρ p X Y) (jat ρ q (X - x) (Y - y)) else jat ρ p X Y
theorem mo_lay {ρ : jMem} {p q W H W' H' : Nat} {x y : Int} {op : Int32} (hp : p < 12) (hq : q < 12) (hpq : q ≠ p) (hx : -5000 ≤ x ∧ x ≤ 5000) (hy : -5000 ≤ y ∧ y ≤ 5000) (hP : jQz ρ p W H) (hQ : jQz ρ q W' H') : ∃ ρ', f_MO_lay (nI p) (nI q) (iI x) (iI y) op ρ = some ((), ρ') ∧ jKd p ρ ρ' ∧ jQz ρ' p W H ∧ ∀ Y, Y < 24 → ∀ i, i < 32 → bt (ρ' 39 (24 * p + Y)) i = jdr ρ p q W H W' H' x y op i Y := by
  have hH' := hQ.2.2.2.1
  obtain ⟨τ, h1, h2, h3, h4⟩ := lay_out (op := op) hp hq hpq hx hy H' 0 (19999 - H') ρ (by omega) hP hQ
  rw [show (19999 - H') + H' + 1 = jfu from by show _ = 20000; omega] at h1
  refine ⟨τ, h1, h2, h3, fun Y hY i hi => ?_⟩
  rw [h4 Y hY i hi]
  have e : bt (ρ 39 (24 * p + Y)) i = jat ρ p (i : Int) (Y : Int) := by
    unfold jat
    rw [if_pos (by omega)]
    rfl
  unfold jdr
  rw [e]
  by_cases c : (y + (0 : Nat) ≤ Y ∧ (Y : Int) < y + H') ∧ Y < H ∧ i < W ∧ x ≤ i ∧ (i : Int) < x + W'
  · rw [if_pos c, if_pos (by omega)]
  · rw [if_neg c, if_neg (by omega)]
