/-! refinements -/
theorem jP.f {p q W H : Nat} {σ0 ρ0 σ ρ : jMem} (h : jP σ0 ρ0 q W H) (hq : q ≠ p) (h1 : jKp p σ0 σ) (h2 : jKq p ρ0 ρ) : jP σ ρ q W H := by
  refine h.c ?_ ?_ ?_ ?_ ?_
  · exact h1 _ (by omega) (by omega) (by omega) (by omega) (by omega) (by omega)
  · exact h1 _ (by omega) (by omega) (by omega) (by omega) (by omega) (by omega)
  · intro y hy; exact h2.2.2 _ (by omega)
  · rw [h2.1 40 (by decide) (by decide) (by decide) (by decide)]
  · rw [h2.1 41 (by decide) (by decide) (by decide) (by decide)]
def jrc (ρ : jMem) (p q : Nat) (X Y U V : Int) : Nat := (jsp ρ p (Y - 1) (X + 1) 3 * 2 + jsp ρ p Y (X - 1) 1) * 64 + ((jsp ρ q (V - 1) U 1 * 32 + jsp ρ q V (U + 1) 3 * 4) + jsp ρ q (V + 1) (U + 1) 2)
theorem jrc_lt (ρ : jMem) (p q : Nat) (X Y U V : Int) : jrc ρ p q X Y U V < 1024 := by
  have a1 := jsp_lt ρ p (Y - 1) 3 (X + 1)
  have a2 := jsp_lt ρ p Y 1 (X - 1)
  have a3 := jsp_lt ρ q (V - 1) 1 U
  have a4 := jsp_lt ρ q V 3 (U + 1)
  have a5 := jsp_lt ρ q (V + 1) 2 (U + 1)
  unfold jrc
  omega
theorem mo_rc {ρ : jMem} {p q W H W' H' : Nat} (hp : p < 12) (hq : q < 12) (h : jQz ρ p W H) (h' : jQz ρ q W' H') {X Y U V : Int} (hX : -1000 ≤ X ∧ X ≤ 1000) (hY : -1000 ≤ Y ∧ Y ≤ 1000) (hU : -1000 ≤ U ∧ U ≤ 1000) (hV : -1000 ≤ V ∧ V ≤ 1000) : f_MO_refinedContext (nI p) (nI q) (iI X) (iI Y) (iI U) (iI V) ρ = some (nI (10243 + jrc ρ p q X Y U V), ρ) := by
  have r : ∀ Z : Int, -2000 ≤ Z ∧ Z ≤ 2000 → jrg Z := fun Z hz => ⟨by omega, by omega⟩
  unfold f_MO_refinedContext
  rw [show iI Y - (1 : Int32) = iI (Y - 1) from iI_sub Y 1, show iI X - (1 : Int32) = iI (X - 1) from iI_sub X 1, show iI X + (1 : Int32) = iI (X + 1) from iI_add X 1, show iI V - (1 : Int32) = iI (V - 1) from iI_sub V 1, show iI V + (1 : Int32) = iI (V + 1) from iI_add V 1, show iI U - (1 : Int32) = iI (U - 1) from iI_sub U 1, show iI U + (1 : Int32) = iI (U + 1) from iI_add U 1, show (0 : Int32) = nI 0 from rfl]
  rw [jbd_eq (mo_around hp h 3 (by omega) (r _ (by omega)) (by decide) (by omega) 0), jbd_eq (mo_around hp h 1 (by omega) (r _ (by omega)) (by decide) (by omega) _), jbd_eq (mo_around hq h' 1 (by omega) (r _ (by omega)) (by decide) (by omega) _), jbd_eq (mo_around hq h' 3 (by omega) (r _ (by omega)) (by decide) (by omega) _), jbd_eq (mo_around hq h' 2 (by omega) (r _ (by omega)) (by decide) (by omega) _), show (10243 : Int32) = nI 10243 from rfl, nI_add]
  unfold jrc
  congr 3
  omega
theorem jorN {a b k : Nat} (hb : b < 2 ^ k) : a * 2 ^ k ||| b = a * 2 ^ k + b := by
  rw [← Nat.shiftLeft_eq, Nat.shiftLeft_add_eq_or_of_lt hb]
theorem cl_rc {ρ : jMem} {p q : Nat} {X Y U V : Int} : (10244 : Int32) + ((((nI (jsp ρ p (Y - 1) (X + 1) 3) <<< ((1 : Int32) &&& 31)) ||| nI (jsp ρ p Y (X - 1) 1)) <<< ((6 : Int32) &&& 31)) ||| (((nI (jsp ρ q (V - 1) U 1) <<< ((5 : Int32) &&& 31)) ||| (nI (jsp ρ q V (U + 1) 3) <<< ((2 : Int32) &&& 31))) ||| nI (jsp ρ q (V + 1) (U + 1) 2))) = nI (jx (10243 + jrc ρ p q X Y U V)) := by
  have a1 := jsp_lt ρ p (Y - 1) 3 (X + 1)
  have a2 := jsp_lt ρ p Y 1 (X - 1)
  have a3 := jsp_lt ρ q (V - 1) 1 U
  have a4 := jsp_lt ρ q V 3 (U + 1)
  have a5 := jsp_lt ρ q (V + 1) 2 (U + 1)
  rw [jcat (k := 1) (by decide) (by omega) (by omega), pk_shlN ((2 : Int32) &&& 31) 2 (by decide) (by omega), jcat (k := 5) (by decide) (by omega) (by omega)]
  rw [show jsp ρ q (V - 1) U 1 * 2 ^ 5 + jsp ρ q V (U + 1) 3 * 2 ^ 2 = (jsp ρ q (V - 1) U 1 * 8 + jsp ρ q V (U + 1) 3) * 2 ^ 2 from by omega, nx_or, jorN (by omega)]
  rw [jcat (k := 6) (by decide) (by omega) (by omega), show (10244 : Int32) = nI 10244 from rfl, nI_add]
  unfold jrc jx
  rw [if_neg (by omega)]
  congr 1
  omega
set_option maxHeartbeats 1000000 in
theorem rfr_true {σ0 ρ0 : jMem} {p q W H W' H' y : Nat} {DX DY : Int} (hp : p < 12) (hq : q < 12) (hpq : q ≠ p) (hm : ρ0 38 11 = 1) (hy : y < H) (hX : -100 ≤ DX ∧ DX ≤ 100) (hY : -100 ≤ DY ∧ DY ≤ 100) (hQ : jP σ0 ρ0 q W' H') : ∀ t X n m x5 σ ρ, X + t = W → jRg true p W H σ0 ρ0 σ ρ → jPP (f_PT_codeRefinement_W_L18 p q (n + t + 1) (iI DX) (iI DY) x5 (nI y) (nI X) σ) (f_MO_refine_L98 (m + t + 1) (nI p) (nI q) (iI DX) (iI DY) x5 (nI y) (nI X) ρ) (fun a m b k => jRg true p W H σ0 ρ0 m k ∧ (a.1 = iI DX ∧ a.2.1 = iI DY ∧ a.2.2.2.1 = nI y) ∧ (b.1 = nI p ∧ b.2.1 = nI q ∧ b.2.2.1 = iI DX ∧ b.2.2.2.1 = iI DY ∧ b.2.2.2.2.2.1 = nI y) ∧ a.2.2.1 = b.2.2.2.2.1) := by
  have hc : ¬ (nI p < 0 ∨ 12 ≤ (nI p).toNatClampNeg) := nI_in hp (by decide)
  intro t
  induction t with
  | zero =>
    intro X n m x5 σ ρ hX h
    have hW := h.2.2.2.1.2.1
    have hw : ρ 40 (nI p).toNatClampNeg = nI W := by rw [nI_clamp (by omega)]; exact h.2.2.2.1.2.2.2.2.1
    have hw2 : σ (14 + 2 * p) 1 = nI W := h.2.2.2.2.1
    rw [f_PT_codeRefinement_W_L18, f_MO_refine_L98, hw, hw2]
    exact .ilp (nI_le (by omega) (by omega)) (.ckr hc (.irp (nI_le (by omega) (by omega)) (.ret ⟨h, ⟨rfl, rfl, rfl⟩, ⟨rfl, rfl, rfl, rfl, rfl⟩, rfl⟩)))
  | succ t ih =>
    intro X n m x5 σ ρ hXt h
    have hW := h.2.2.2.1.2.1
    have hH := h.2.2.2.1.2.2.2.1
    have hw : ρ 40 (nI p).toNatClampNeg = nI W := by rw [nI_clamp (by omega)]; exact h.2.2.2.1.2.2.2.2.1
    have hw2 : σ (14 + 2 * p) 1 = nI W := h.2.2.2.2.1
    have hQ1 : jP σ ρ q W' H' := hQ.f hpq h.2.1 h.2.2.1
    have r : ∀ Z : Int, -2000 ≤ Z ∧ Z ≤ 2000 → jrg Z := fun Z hz => ⟨by omega, by omega⟩
    rw [show n + (t + 1) + 1 = (n + t + 1) + 1 from by omega, show m + (t + 1) + 1 = (m + t + 1) + 1 from by omega, f_PT_codeRefinement_W_L18, f_MO_refine_L98, hw, hw2]
    refine .iln (nI_ge (by omega) (by omega)) (.ckr hc (.irn (nI_ge (by omega) (by omega)) ?_))
    rw [jcast X, jcast y, iI_sub, iI_sub]
    rw [show iI (y : Int) - (1 : Int32) = iI ((y : Int) - 1) from iI_sub y 1, show iI (X : Int) - (1 : Int32) = iI ((X : Int) - 1) from iI_sub X 1, show iI (X : Int) + (1 : Int32) = iI ((X : Int) + 1) from iI_add X 1, show iI ((y : Int) - DY) - (1 : Int32) = iI ((y : Int) - DY - 1) from iI_sub _ 1, show iI ((y : Int) - DY) + (1 : Int32) = iI ((y : Int) - DY + 1) from iI_add _ 1, show iI ((X : Int) - DX) + (1 : Int32) = iI ((X : Int) - DX + 1) from iI_add _ 1]
    refine .bl (pi_span (w := 3) h.2.2.2 (r _ (by omega)) (r _ (by omega)) (by decide)) ?_
    refine .bl (pi_span (w := 1) h.2.2.2 (r _ (by omega)) (r _ (by omega)) (by decide)) ?_
    refine .bl (pi_span (w := 1) hQ1 (r _ (by omega)) (r _ (by omega)) (by decide)) ?_
    refine .bl (pi_span (w := 3) hQ1 (r _ (by omega)) (r _ (by omega)) (by decide)) ?_
    refine .bl (pi_span (w := 2) hQ1 (r _ (by omega)) (r _ (by omega)) (by decide)) ?_
    refine .bl (pi_at h.2.2.2 (r _ (by omega)) (r _ (by omega))) (.br (mo_rc hp hq h.2.2.2.1 hQ1.1 (by omega) (by omega) (by omega) (by omega)) (.br (mo_at hp h.2.2.2.1 (r _ (by omega)) (r _ (by omega))) ?_))
    rw [cl_rc]
    have hl := jrc_lt ρ p q (X : Int) (y : Int) ((X : Int) - DX) ((y : Int) - DY)
    have hm' : ρ 38 11 = 1 := (h.2.2.1.2.1 11 (by decide) (by decide)).trans hm
    refine .bd (dec_true (σ0 := σ) (ρ0 := ρ) (σ := σ) (ρ := ρ) (by omega) hm' ⟨h.1, .r _, .r _⟩ (fun _ => ⟨rfl, jb01 _⟩)) ?_
    rintro a p1 b q1 ⟨rfl, a01, hn, -, -, -⟩
    obtain ⟨d, rfl⟩ := jn01 a01
    rw [show iI ((X : Int) + 1) = nI (X + 1) from by rw [← iI_nI]; rfl, iI_nI, iI_nI]
    refine .bl (pi_set (by omega) (by omega)) (.br (mo_ink hp (by omega) (by omega)) ?_)
    have h2 := (h.n hn).set (x := X) (y := y) (d := d) (by omega) hy
    have hQ2 := hQ.f hpq h2.2.1 h2.2.2.1
    refine .bl (pi_at hQ2 (r _ (by omega)) (r _ (by omega))) (.br (mo_at hq hQ2.1 (r _ (by omega)) (r _ (by omega))) ?_)
    rw [Int32.add_zero]
    by_cases c : jb d = jb (jat (ju q1 39 (24 * p + y) (jsb (q1 39 (24 * p + y)) X d)) q ((X : Int) - DX) ((y : Int) - DY))
    · exact .ipp c (ih (X + 1) n m _ _ _ (by omega) h2)
    · exact .inn c (ih (X + 1) n m _ _ _ (by omega) h2)
theorem rfn_true {σ0 ρ0 : jMem} {p q W H W' H' : Nat} {DX DY : Int} (hp : p < 12) (hq : q < 12) (hpq : q ≠ p) (hm : ρ0 38 11 = 1) (hX : -100 ≤ DX ∧ DX ≤ 100) (hY : -100 ≤ DY ∧ DY ≤ 100) (hQ : jP σ0 ρ0 q W' H') : ∀ t y n m x5 σ ρ, y + t = H → jRg true p W H σ0 ρ0 σ ρ → jPP (f_PT_codeRefinement_W_L6 p q (n + t + 1) (iI DX) (iI DY) x5 (nI y) σ) (f_MO_refine_L84 (m + t + 1) (nI p) (nI q) (iI DX) (iI DY) x5 (nI y) ρ) (fun a m b k => a = b ∧ jRg true p W H σ0 ρ0 m k) := by
  have hc : ¬ (nI p < 0 ∨ 12 ≤ (nI p).toNatClampNeg) := nI_in hp (by decide)
  intro t
  induction t with
  | zero =>
    intro y n m x5 σ ρ hXt h
    have hH := h.2.2.2.1.2.2.2.1
    have hw : ρ 41 (nI p).toNatClampNeg = nI H := by rw [nI_clamp (by omega)]; exact h.2.2.2.1.2.2.2.2.2.1
    have hw2 : σ (14 + 2 * p) 2 = nI H := h.2.2.2.2.2.1
    rw [f_PT_codeRefinement_W_L6, f_MO_refine_L84, hw, hw2]
    exact .ilp (nI_le (by omega) (by omega)) (.ckr hc (.irp (nI_le (by omega) (by omega)) (.ret ⟨rfl, h⟩)))
  | succ t ih =>
    intro y n m x5 σ ρ hXt h
    have hW := h.2.2.2.1.2.1
    have hH := h.2.2.2.1.2.2.2.1
    have hw : ρ 41 (nI p).toNatClampNeg = nI H := by rw [nI_clamp (by omega)]; exact h.2.2.2.1.2.2.2.2.2.1
    have hw2 : σ (14 + 2 * p) 2 = nI H := h.2.2.2.2.2.1
    rw [show n + (t + 1) + 1 = (n + t + 1) + 1 from by omega, show m + (t + 1) + 1 = (m + t + 1) + 1 from by omega, f_PT_codeRefinement_W_L6, f_MO_refine_L84, hw, hw2]
    refine .iln (nI_ge (by omega) (by omega)) (.ckr hc (.irn (nI_ge (by omega) (by omega)) (.bd (P := fun a m b k => jRg true p W H σ0 ρ0 m k ∧ (a.1 = iI DX ∧ a.2.1 = iI DY ∧ a.2.2.2.1 = nI y) ∧ (b.1 = nI p ∧ b.2.1 = nI q ∧ b.2.2.1 = iI DX ∧ b.2.2.2.1 = iI DY ∧ b.2.2.2.2.2.1 = nI y) ∧ a.2.2.1 = b.2.2.2.2.1) ?_ ?_)))
    · rw [show jfu = (19999 - W) + W + 1 from by show 20000 = _; omega]
      exact rfr_true hp hq hpq hm (by omega) hX hY hQ W 0 _ _ x5 σ ρ (by omega) h
    · rintro a m1 b k1 ⟨h1, ⟨e1, e2, e3⟩, ⟨f1, f2, f3, f4, f5⟩, g⟩
      rw [e1, e2, e3, f1, f2, f3, f4, f5, g, nI_1]
      exact ih (y + 1) n m _ m1 k1 (by omega) h1
theorem ref_true {σ ρ : jMem} {p q W H W' H' : Nat} {DX DY : Int} (hp : p < 12) (hq : q < 12) (hpq : q ≠ p) (hm : ρ 38 11 = 1) (hX : -100 ≤ DX ∧ DX ≤ 100) (hY : -100 ≤ DY ∧ DY ≤ 100) (hQ : jP σ ρ q W' H') (h : jD true σ ρ σ ρ) (hP : jP σ ρ p W H) : jPP (f_PT_codeRefinement_W p q (iI DX) (iI DY) σ) (f_MO_refine_L84 jfu (nI p) (nI q) (iI DX) (iI DY) (0 : Int32) (0 : Int32) ρ) (fun a m b k => a = b ∧ jRg true p W H σ ρ m k) := by
  have hH := hP.1.2.2.2.1
  unfold f_PT_codeRefinement_W
  rw [show jfu = (19999 - H) + H + 1 from by show 20000 = _; omega]
  exact rfn_true hp hq hpq hm hX hY hQ H 0 _ _ 0 σ ρ (by omega) ⟨h, .r _ _, .r _ _, hP⟩
set_option maxHeartbeats 1000000 in
theorem rfr_false {σ0 ρ0 : jMem} {p q W H W' H' y : Nat} {DX DY : Int} (hp : p < 12) (hq : q < 12) (hpq : q ≠ p) (hm : ρ0 38 11 = 2) (hy : y < H) (hX : -100 ≤ DX ∧ DX ≤ 100) (hY : -100 ≤ DY ∧ DY ≤ 100) (hQ : jP σ0 ρ0 q W' H') : ∀ t X n m x5 σ ρ, X + t = W → jRg false p W H σ0 ρ0 σ ρ → jPP (f_PT_codeRefinement_R_L18 p q (n + t + 1) (iI DX) (iI DY) x5 (nI y) (nI X) σ) (f_MO_refine_L98 (m + t + 1) (nI p) (nI q) (iI DX) (iI DY) x5 (nI y) (nI X) ρ) (fun a m b k => jRg false p W H σ0 ρ0 m k ∧ (a.1 = iI DX ∧ a.2.1 = iI DY ∧ a.2.2.2.1 = nI y) ∧ (b.1 = nI p ∧ b.2.1 = nI q ∧ b.2.2.1 = iI DX ∧ b.2.2.2.1 = iI DY ∧ b.2.2.2.2.2.1 = nI y) ∧ a.2.2.1 = b.2.2.2.2.1) := by
  have hc : ¬ (nI p < 0 ∨ 12 ≤ (nI p).toNatClampNeg) := nI_in hp (by decide)
  intro t
  induction t with
  | zero =>
    intro X n m x5 σ ρ hX h
    have hW := h.2.2.2.1.2.1
    have hw : ρ 40 (nI p).toNatClampNeg = nI W := by rw [nI_clamp (by omega)]; exact h.2.2.2.1.2.2.2.2.1
    have hw2 : σ (14 + 2 * p) 1 = nI W := h.2.2.2.2.1
    rw [f_PT_codeRefinement_R_L18, f_MO_refine_L98, hw, hw2]
    exact .ilp (nI_le (by omega) (by omega)) (.ckr hc (.irp (nI_le (by omega) (by omega)) (.ret ⟨h, ⟨rfl, rfl, rfl⟩, ⟨rfl, rfl, rfl, rfl, rfl⟩, rfl⟩)))
  | succ t ih =>
    intro X n m x5 σ ρ hXt h
    have hW := h.2.2.2.1.2.1
    have hH := h.2.2.2.1.2.2.2.1
    have hw : ρ 40 (nI p).toNatClampNeg = nI W := by rw [nI_clamp (by omega)]; exact h.2.2.2.1.2.2.2.2.1
    have hw2 : σ (14 + 2 * p) 1 = nI W := h.2.2.2.2.1
    have hQ1 : jP σ ρ q W' H' := hQ.f hpq h.2.1 h.2.2.1
    have r : ∀ Z : Int, -2000 ≤ Z ∧ Z ≤ 2000 → jrg Z := fun Z hz => ⟨by omega, by omega⟩
    rw [show n + (t + 1) + 1 = (n + t + 1) + 1 from by omega, show m + (t + 1) + 1 = (m + t + 1) + 1 from by omega, f_PT_codeRefinement_R_L18, f_MO_refine_L98, hw, hw2]
    refine .iln (nI_ge (by omega) (by omega)) (.ckr hc (.irn (nI_ge (by omega) (by omega)) ?_))
    rw [jcast X, jcast y, iI_sub, iI_sub]
    rw [show iI (y : Int) - (1 : Int32) = iI ((y : Int) - 1) from iI_sub y 1, show iI (X : Int) - (1 : Int32) = iI ((X : Int) - 1) from iI_sub X 1, show iI (X : Int) + (1 : Int32) = iI ((X : Int) + 1) from iI_add X 1, show iI ((y : Int) - DY) - (1 : Int32) = iI ((y : Int) - DY - 1) from iI_sub _ 1, show iI ((y : Int) - DY) + (1 : Int32) = iI ((y : Int) - DY + 1) from iI_add _ 1, show iI ((X : Int) - DX) + (1 : Int32) = iI ((X : Int) - DX + 1) from iI_add _ 1]
    refine .bl (pi_span (w := 3) h.2.2.2 (r _ (by omega)) (r _ (by omega)) (by decide)) ?_
    refine .bl (pi_span (w := 1) h.2.2.2 (r _ (by omega)) (r _ (by omega)) (by decide)) ?_
    refine .bl (pi_span (w := 1) hQ1 (r _ (by omega)) (r _ (by omega)) (by decide)) ?_
    refine .bl (pi_span (w := 3) hQ1 (r _ (by omega)) (r _ (by omega)) (by decide)) ?_
    refine .bl (pi_span (w := 2) hQ1 (r _ (by omega)) (r _ (by omega)) (by decide)) ?_
    refine .bl (pi_at h.2.2.2 (r _ (by omega)) (r _ (by omega))) (.br (mo_rc hp hq h.2.2.2.1 hQ1.1 (by omega) (by omega) (by omega) (by omega)) (.br (mo_at hp h.2.2.2.1 (r _ (by omega)) (r _ (by omega))) ?_))
    rw [cl_rc]
    have hl := jrc_lt ρ p q (X : Int) (y : Int) ((X : Int) - DX) ((y : Int) - DY)
    have hm' : ρ 38 11 = 2 := (h.2.2.1.2.1 11 (by decide) (by decide)).trans hm
    refine .bd (dec_false (σ0 := σ) (ρ0 := ρ) (σ := σ) (ρ := ρ) (by omega) hm' ⟨h.1, .r _, .r _⟩ (fun _ => ⟨rfl, jb01 _⟩)) ?_
    rintro a p1 b q1 ⟨rfl, a01, hn, -, -, -⟩
    obtain ⟨d, rfl⟩ := jn01 a01
    rw [show iI ((X : Int) + 1) = nI (X + 1) from by rw [← iI_nI]; rfl, iI_nI, iI_nI]
    refine .bl (pi_set (by omega) (by omega)) (.br (mo_ink hp (by omega) (by omega)) ?_)
    have h2 := (h.n hn).set (x := X) (y := y) (d := d) (by omega) hy
    have hQ2 := hQ.f hpq h2.2.1 h2.2.2.1
    refine .bl (pi_at hQ2 (r _ (by omega)) (r _ (by omega))) (.br (mo_at hq hQ2.1 (r _ (by omega)) (r _ (by omega))) ?_)
    rw [Int32.add_zero]
    by_cases c : jb d = jb (jat (ju q1 39 (24 * p + y) (jsb (q1 39 (24 * p + y)) X d)) q ((X : Int) - DX) ((y : Int) - DY))
    · exact .ipp c (ih (X + 1) n m _ _ _ (by omega) h2)
    · exact .inn c (ih (X + 1) n m _ _ _ (by omega) h2)
theorem rfn_false {σ0 ρ0 : jMem} {p q W H W' H' : Nat} {DX DY : Int} (hp : p < 12) (hq : q < 12) (hpq : q ≠ p) (hm : ρ0 38 11 = 2) (hX : -100 ≤ DX ∧ DX ≤ 100) (hY : -100 ≤ DY ∧ DY ≤ 100) (hQ : jP σ0 ρ0 q W' H') : ∀ t y n m x5 σ ρ, y + t = H → jRg false p W H σ0 ρ0 σ ρ → jPP (f_PT_codeRefinement_R_L6 p q (n + t + 1) (iI DX) (iI DY) x5 (nI y) σ) (f_MO_refine_L84 (m + t + 1) (nI p) (nI q) (iI DX) (iI DY) x5 (nI y) ρ) (fun a m b k => a = b ∧ jRg false p W H σ0 ρ0 m k) := by
  have hc : ¬ (nI p < 0 ∨ 12 ≤ (nI p).toNatClampNeg) := nI_in hp (by decide)
  intro t
  induction t with
  | zero =>
    intro y n m x5 σ ρ hXt h
    have hH := h.2.2.2.1.2.2.2.1
    have hw : ρ 41 (nI p).toNatClampNeg = nI H := by rw [nI_clamp (by omega)]; exact h.2.2.2.1.2.2.2.2.2.1
    have hw2 : σ (14 + 2 * p) 2 = nI H := h.2.2.2.2.2.1
    rw [f_PT_codeRefinement_R_L6, f_MO_refine_L84, hw, hw2]
    exact .ilp (nI_le (by omega) (by omega)) (.ckr hc (.irp (nI_le (by omega) (by omega)) (.ret ⟨rfl, h⟩)))
  | succ t ih =>
    intro y n m x5 σ ρ hXt h
    have hW := h.2.2.2.1.2.1
    have hH := h.2.2.2.1.2.2.2.1
    have hw : ρ 41 (nI p).toNatClampNeg = nI H := by rw [nI_clamp (by omega)]; exact h.2.2.2.1.2.2.2.2.2.1
    have hw2 : σ (14 + 2 * p) 2 = nI H := h.2.2.2.2.2.1
    rw [show n + (t + 1) + 1 = (n + t + 1) + 1 from by omega, show m + (t + 1) + 1 = (m + t + 1) + 1 from by omega, f_PT_codeRefinement_R_L6, f_MO_refine_L84, hw, hw2]
    refine .iln (nI_ge (by omega) (by omega)) (.ckr hc (.irn (nI_ge (by omega) (by omega)) (.bd (P := fun a m b k => jRg false p W H σ0 ρ0 m k ∧ (a.1 = iI DX ∧ a.2.1 = iI DY ∧ a.2.2.2.1 = nI y) ∧ (b.1 = nI p ∧ b.2.1 = nI q ∧ b.2.2.1 = iI DX ∧ b.2.2.2.1 = iI DY ∧ b.2.2.2.2.2.1 = nI y) ∧ a.2.2.1 = b.2.2.2.2.1) ?_ ?_)))
    · rw [show jfu = (19999 - W) + W + 1 from by show 20000 = _; omega]
      exact rfr_false hp hq hpq hm (by omega) hX hY hQ W 0 _ _ x5 σ ρ (by omega) h
    · rintro a m1 b k1 ⟨h1, ⟨e1, e2, e3⟩, ⟨f1, f2, f3, f4, f5⟩, g⟩
      rw [e1, e2, e3, f1, f2, f3, f4, f5, g, nI_1]
      exact ih (y + 1) n m _ m1 k1 (by omega) h1
theorem ref_false {σ ρ : jMem} {p q W H W' H' : Nat} {DX DY : Int} (hp : p < 12) (hq : q < 12) (hpq : q ≠ p) (hm : ρ 38 11 = 2) (hX : -100 ≤ DX ∧ DX ≤ 100) (hY : -100 ≤ DY ∧ DY ≤ 100) (hQ : jP σ ρ q W' H') (h : jD false σ ρ σ ρ) (hP : jP σ ρ p W H) : jPP (f_PT_codeRefinement_R p q (iI DX) (iI DY) σ) (f_MO_refine_L84 jfu (nI p) (nI q) (iI DX) (iI DY) (0 : Int32) (0 : Int32) ρ) (fun a m b k => a = b ∧ jRg false p W H σ ρ m k) := by
  have hH := hP.1.2.2.2.1
  unfold f_PT_codeRefinement_R
  rw [show jfu = (19999 - H) + H + 1 from by show 20000 = _; omega]
  exact rfn_false hp hq hpq hm hX hY hQ H 0 _ _ 0 σ ρ (by omega) ⟨h, .r _ _, .r _ _, hP⟩
