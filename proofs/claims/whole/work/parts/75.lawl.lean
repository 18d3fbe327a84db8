/-! the law's loop: every call -/
theorem law_go {xs : Nat → Int32} {L : Nat} (hL : L ≤ 3072) : ∀ n i σ, i ≤ L → L < i + 6 * n → (∃ md S M, jGl md S M σ σ) → ∃ τ, f_LW_law_L23 xs L n (nI i) σ = some (1, τ) := by
  intro n
  induction n with
  | zero => intro i σ h1 h2; omega
  | succ n ih =>
    intro i σ h1 h2 ⟨md, S, M, h⟩
    rw [f_LW_law_L23]
    have eL : Int32.ofNat L - 6 < nI i ↔ (L : Int) - 6 < i := by
      rw [show Int32.ofNat L = iI L from (iI_nI L).symm, show (6 : Int32) = iI 6 from rfl, iI_sub, ← iI_nI i]
      exact iI_lt (by constructor <;> omega) (by constructor <;> omega)
    by_cases c : L < i + 6
    · rw [if_pos (eL.mpr (by omega))]; exact ⟨σ, rfl⟩
    rw [if_neg (fun q => by have := eL.mp q; omega), jck_pos (nI_in (by omega) (by omega))]
    have go : ∀ k, (∃ md S M, jGl md S M k k) → ∃ τ, f_LW_law_L23 xs L n (nI i + Int32.ofInt 6) k = some (1, τ) := by
      intro k hk
      rw [show nI i + Int32.ofInt 6 = nI (i + 6) from by rw [show Int32.ofInt 6 = nI 6 from rfl, nI_add]]
      exact ih (i + 6) k (by omega) (by omega) hk
    have q1 : ¬ (nI i + 1 < 0 ∨ L ≤ (nI i + 1).toNatClampNeg) := by rw [show nI i + 1 = nI (i + 1) from by rw [show (1 : Int32) = nI 1 from rfl, nI_add]]; exact nI_in (by omega) (by omega)
    have q2 : ¬ (nI i + 2 < 0 ∨ L ≤ (nI i + 2).toNatClampNeg) := by rw [show nI i + 2 = nI (i + 2) from by rw [show (2 : Int32) = nI 2 from rfl, nI_add]]; exact nI_in (by omega) (by omega)
    have q3 : ¬ (nI i + 3 < 0 ∨ L ≤ (nI i + 3).toNatClampNeg) := by rw [show nI i + 3 = nI (i + 3) from by rw [show (3 : Int32) = nI 3 from rfl, nI_add]]; exact nI_in (by omega) (by omega)
    have q4 : ¬ (nI i + 4 < 0 ∨ L ≤ (nI i + 4).toNatClampNeg) := by rw [show nI i + 4 = nI (i + 4) from by rw [show (4 : Int32) = nI 4 from rfl, nI_add]]; exact nI_in (by omega) (by omega)
    have q5 : ¬ (nI i + 5 < 0 ∨ L ≤ (nI i + 5).toNatClampNeg) := by rw [show nI i + 5 = nI (i + 5) from by rw [show (5 : Int32) = nI 5 from rfl, nI_add]]; exact nI_in (by omega) (by omega)
    simp only [jck_pos q1, jck_pos q2, jck_pos q3, jck_pos q4, jck_pos q5]
    generalize xs (nI i + 1).toNatClampNeg = y1
    generalize xs (nI i + 2).toNatClampNeg = y2
    generalize xs (nI i + 3).toNatClampNeg = y3
    generalize xs (nI i + 4).toNatClampNeg = y4
    generalize xs (nI i + 5).toNatClampNeg = y5
    by_cases o0 : xs (nI i).toNatClampNeg &&& 31 = 0
    · rw [if_pos o0]
      obtain ⟨v, m, hC, k, hR, ht, g⟩ := (lw_u (c := c01) h (fun ρ g => m_size g y1 y2 y3) (fun e n w q => (H01 e n w q).1) : ∃ v m, f_LW_size y1 y2 y3 σ = some (v, m) ∧ _)
      have hC : f_LW_size y1 y2 y3 σ = some (v, m) := hC
      rw [jbd_eq hC, jbd_eq hR, if_pos ht]; exact go k g
    rw [if_neg o0]
    by_cases o1 : xs (nI i).toNatClampNeg &&& 31 = 1
    · rw [if_pos o1]
      obtain ⟨v, m, hC, b, k, hR, ht, hv, g⟩ := (lw_f (c := c0) h (fun ρ g => m_flip g y1 y2 y3) (fun e n w q => H0 e n w q) : ∃ v m, f_LW_flip y1 y2 y3 σ = some (v, m) ∧ _)
      have hC : f_LW_flip y1 y2 y3 σ = some (v, m) := hC
      rw [jbd_eq hC, jbd_eq hR, if_pos ht]
      by_cases z : v = 0
      · rw [if_pos z, show k 47 ((0 : Int32).toNatClampNeg) = _ from hv z]
        by_cases zb : b = 0
        · rw [if_pos zb, if_pos zb, if_pos (by decide)]; exact go k g
        · rw [if_neg zb, if_neg zb, if_pos (by decide)]; exact go k g
      · rw [if_neg z]; exact go k g
    rw [if_neg o1]
    by_cases o2 : xs (nI i).toNatClampNeg &&& 31 = 2
    · rw [if_pos o2]
      obtain ⟨v, m, hC, k, hR, g⟩ := lw_e h (fun ρ g => m_point g y1 y2 y3)
      rw [jbd_eq hC, jbd_eq hR, if_pos rfl]; exact go k g
    rw [if_neg o2]
    by_cases o3 : xs (nI i).toNatClampNeg &&& 31 = 3
    · rw [if_pos o3]
      obtain ⟨v, m, hC, k, hR, ht, g⟩ := (lw_u (c := c01) h (fun ρ g => m_draw g y1 y2 y3 y4 y5) (fun e n w q => (H01 e n w q).1) : ∃ v m, f_LW_draw y1 y2 y3 y4 y5 σ = some (v, m) ∧ _)
      have hC : f_LW_draw y1 y2 y3 y4 y5 σ = some (v, m) := hC
      rw [jbd_eq hC, jbd_eq hR, if_pos ht]; exact go k g
    rw [if_neg o3]
    by_cases o4 : xs (nI i).toNatClampNeg &&& 31 = 4
    · rw [if_pos o4]
      obtain ⟨v, m, hC, b, k, hR, ht, hv, g⟩ := (lw_x (c := c01) h (fun ρ g => m_board g y1 y2) (fun e n w q => H01 e n w q) : ∃ v m, f_LW_board y1 y2 σ = some (v, m) ∧ _)
      have hC : f_LW_board y1 y2 σ = some (v, m) := hC
      rw [jbd_eq hC, jbd_eq hR]; exact lw_fin (F := f_LW_law_L23 xs L n (nI i + Int32.ofInt 6)) ht hv (go k g)
    rw [if_neg o4]
    by_cases o5 : xs (nI i).toNatClampNeg &&& 31 = 5
    · rw [if_pos o5]
      obtain ⟨v, m, hC, k, hR, g⟩ := lw_e h (fun ρ g => m_put g y1)
      rw [jbd_eq hC, jbd_eq hR, if_pos rfl]; exact go k g
    rw [if_neg o5]
    by_cases o6 : xs (nI i).toNatClampNeg &&& 31 = 6
    · rw [if_pos o6]
      obtain ⟨v, m, hC, k, hR, g⟩ := lw_e h (R := fun ρ => some (f_MO_cut y1 ρ)) (fun ρ g => m_cut g y1)
      have hR : f_MO_cut y1 m = (v, k) := Option.some.inj hR
      rw [jbd_eq hC, hR, if_pos rfl]; exact go k g
    rw [if_neg o6]
    by_cases o7 : xs (nI i).toNatClampNeg &&& 31 = 7
    · rw [if_pos o7]
      obtain ⟨v, m, hC, k, hR, g⟩ := lw_e h (R := fun ρ => some (f_MO_length ρ)) (fun ρ g => m_length g)
      have hR : f_MO_length m = (v, k) := Option.some.inj hR
      rw [jbd_eq hC, hR, if_pos rfl]; exact go k g
    rw [if_neg o7]
    by_cases o8 : xs (nI i).toNatClampNeg &&& 31 = 8
    · rw [if_pos o8]
      obtain ⟨v, m, hC, b, k, hR, ht, hv, g⟩ := (lw_x (c := c0) h (fun ρ g => m_code g y1) (fun e n w q => H0 e n w q) : ∃ v m, f_LW_code y1 σ = some (v, m) ∧ _)
      have hC : f_LW_code y1 σ = some (v, m) := hC
      rw [jbd_eq hC, jbd_eq hR]; exact lw_fin (F := f_LW_law_L23 xs L n (nI i + Int32.ofInt 6)) ht hv (go k g)
    rw [if_neg o8]
    by_cases o9 : xs (nI i).toNatClampNeg &&& 31 = 9
    · rw [if_pos o9]
      by_cases z : y1 = 0
      · simp only [if_pos z]
        obtain ⟨m, hC, k, hR, g⟩ := lw_b h (fun ρ g => m_begin g (0 : Int32))
        rw [jbd_eq hC, jbd_eq hR]; exact go k g
      · simp only [if_neg z]
        obtain ⟨m, hC, k, hR, g⟩ := lw_b h (fun ρ g => m_begin g (1 : Int32))
        rw [jbd_eq hC, jbd_eq hR]; exact go k g
    rw [if_neg o9]
    by_cases o10 : xs (nI i).toNatClampNeg &&& 31 = 10
    · rw [if_pos o10]
      obtain ⟨v, m, hC, b, k, hR, ht, hv, g⟩ := (lw_x (c := c2) h (fun ρ g => m_end g) (fun e n w q => H2 e n w q) : ∃ v m, f_LW_end σ = some (v, m) ∧ _)
      have hC : f_LW_end σ = some (v, m) := hC
      rw [jbd_eq hC, jbd_eq hR]; exact lw_fin (F := f_LW_law_L23 xs L n (nI i + Int32.ofInt 6)) ht hv (go k g)
    rw [if_neg o10]
    by_cases o11 : xs (nI i).toNatClampNeg &&& 31 = 11
    · rw [if_pos o11]
      obtain ⟨v, m, hC, k, hR, g⟩ := lw_e h (R := fun ρ => some (f_MO_state ρ)) (fun ρ g => m_state g)
      have hR : f_MO_state m = (v, k) := Option.some.inj hR
      rw [jbd_eq hC, hR, if_pos rfl]; exact go k g
    rw [if_neg o11]
    by_cases o12 : xs (nI i).toNatClampNeg &&& 31 = 12
    · rw [if_pos o12]
      by_cases z : y3 = 0
      · simp only [if_pos z]
        obtain ⟨v, m, hC, b, k, hR, ht, hv, g⟩ := (lw_x (c := c201) h (fun ρ g => m_region g y1 y2 (0 : Int32)) (fun e n w q => H201 e n w q) : ∃ v m, f_LW_region y1 y2 (0 : Int32) σ = some (v, m) ∧ _)
        have hC : f_LW_region y1 y2 (0 : Int32) σ = some (v, m) := hC
        rw [jbd_eq hC, jbd_eq hR]; exact lw_fin (F := f_LW_law_L23 xs L n (nI i + Int32.ofInt 6)) ht hv (go k g)
      · simp only [if_neg z]
        obtain ⟨v, m, hC, b, k, hR, ht, hv, g⟩ := (lw_x (c := c201) h (fun ρ g => m_region g y1 y2 (1 : Int32)) (fun e n w q => H201 e n w q) : ∃ v m, f_LW_region y1 y2 (1 : Int32) σ = some (v, m) ∧ _)
        have hC : f_LW_region y1 y2 (1 : Int32) σ = some (v, m) := hC
        rw [jbd_eq hC, jbd_eq hR]; exact lw_fin (F := f_LW_law_L23 xs L n (nI i + Int32.ofInt 6)) ht hv (go k g)
    rw [if_neg o12]
    by_cases o13 : xs (nI i).toNatClampNeg &&& 31 = 13
    · rw [if_pos o13]
      obtain ⟨v, m, hC, b, k, hR, ht, hv, g⟩ := (lw_x (c := c201) h (fun ρ g => m_refine g y1 y2 y3 y4) (fun e n w q => H201 e n w q) : ∃ v m, f_LW_refine y1 y2 y3 y4 σ = some (v, m) ∧ _)
      have hC : f_LW_refine y1 y2 y3 y4 σ = some (v, m) := hC
      rw [jbd_eq hC, jbd_eq hR]; exact lw_fin (F := f_LW_law_L23 xs L n (nI i + Int32.ofInt 6)) ht hv (go k g)
    rw [if_neg o13]
    by_cases o14 : xs (nI i).toNatClampNeg &&& 31 = 14
    · rw [if_pos o14]
      obtain ⟨v, m, hC, b, k, hR, ht, hv, g⟩ := (lw_x (c := c201) h (fun ρ g => m_number g y1 y2) (fun e n w q => H201 e n w q) : ∃ v m, f_LW_number y1 y2 σ = some (v, m) ∧ _)
      have hC : f_LW_number y1 y2 σ = some (v, m) := hC
      rw [jbd_eq hC, jbd_eq hR]; exact lw_fin (F := f_LW_law_L23 xs L n (nI i + Int32.ofInt 6)) ht hv (go k g)
    rw [if_neg o14]
    by_cases o15 : xs (nI i).toNatClampNeg &&& 31 = 15
    · rw [if_pos o15]
      obtain ⟨v, m, hC, b, k, hR, ht, hv, g⟩ := (lw_x (c := c03) h (fun ρ g => m_learn g y1) (fun e n w q => H03 e n w q) : ∃ v m, f_LW_learn y1 σ = some (v, m) ∧ _)
      have hC : f_LW_learn y1 σ = some (v, m) := hC
      rw [jbd_eq hC, jbd_eq hR]; exact lw_fin (F := f_LW_law_L23 xs L n (nI i + Int32.ofInt 6)) ht hv (go k g)
    rw [if_neg o15]
    by_cases o16 : xs (nI i).toNatClampNeg &&& 31 = 16
    · rw [if_pos o16]
      obtain ⟨m, hC, k, hR, g⟩ := lw_b h (R := fun ρ => some ((), f_MO_forget ρ)) (fun ρ g => m_forget g)
      have hR : f_MO_forget m = k := congrArg Prod.snd (Option.some.inj hR)
      rw [jbd_eq hC, hR]; exact go k g
    rw [if_neg o16]
    by_cases o17 : xs (nI i).toNatClampNeg &&& 31 = 17
    · rw [if_pos o17]
      obtain ⟨v, m, hC, b, k, hR, ht, hv, g⟩ := (lw_x (c := c013) h (fun ρ g => m_mark g y1 y2 y3) (fun e n w q => H013 e n w q) : ∃ v m, f_LW_mark y1 y2 y3 σ = some (v, m) ∧ _)
      have hC : f_LW_mark y1 y2 y3 σ = some (v, m) := hC
      rw [jbd_eq hC, jbd_eq hR]; exact lw_fin (F := f_LW_law_L23 xs L n (nI i + Int32.ofInt 6)) ht hv (go k g)
    rw [if_neg o17]
    by_cases o18 : xs (nI i).toNatClampNeg &&& 31 = 18
    · rw [if_pos o18]
      obtain ⟨v, m, hC, b, k, hR, ht, hv, g⟩ := (lw_x (c := c0) h (fun ρ g => m_symbol g y1 y2 y3) (fun e n w q => H0 e n w q) : ∃ v m, f_LW_symbol y1 y2 y3 σ = some (v, m) ∧ _)
      have hC : f_LW_symbol y1 y2 y3 σ = some (v, m) := hC
      rw [jbd_eq hC, jbd_eq hR]; exact lw_fin (F := f_LW_law_L23 xs L n (nI i + Int32.ofInt 6)) ht hv (go k g)
    rw [if_neg o18]
    by_cases o19 : xs (nI i).toNatClampNeg &&& 31 = 19
    · rw [if_pos o19]
      obtain ⟨v, m, hC, b, k, hR, ht, hv, g⟩ := (lw_x (c := c0) h (fun ρ g => m_marked g y1 y2) (fun e n w q => H0 e n w q) : ∃ v m, f_LW_marked y1 y2 σ = some (v, m) ∧ _)
      have hC : f_LW_marked y1 y2 σ = some (v, m) := hC
      rw [jbd_eq hC, jbd_eq hR]; exact lw_fin (F := f_LW_law_L23 xs L n (nI i + Int32.ofInt 6)) ht hv (go k g)
    rw [if_neg o19]
    by_cases o20 : xs (nI i).toNatClampNeg &&& 31 = 20
    · rw [if_pos o20]
      obtain ⟨v, m, hC, b, k, hR, ht, hv, g⟩ := (lw_x (c := c2) h (fun ρ g => m_dictionary g) (fun e n w q => H2 e n w q) : ∃ v m, f_LW_dictionary σ = some (v, m) ∧ _)
      have hC : f_LW_dictionary σ = some (v, m) := hC
      rw [jbd_eq hC, jbd_eq hR]; exact lw_fin (F := f_LW_law_L23 xs L n (nI i + Int32.ofInt 6)) ht hv (go k g)
    rw [if_neg o20]
    by_cases o21 : xs (nI i).toNatClampNeg &&& 31 = 21
    · rw [if_pos o21]
      by_cases z : y3 = 0
      · simp only [if_pos z]
        obtain ⟨v, m, hC, b, k, hR, ht, hv, g⟩ := (lw_x (c := c201) h (fun ρ g => m_text g y1 y2 (0 : Int32) y4 (by decide)) (fun e n w q => H201 e n w q) : ∃ v m, f_LW_text y1 y2 (0 : Int32) y4 σ = some (v, m) ∧ _)
        have hC : f_LW_text y1 y2 (0 : Int32) y4 σ = some (v, m) := hC
        rw [jbd_eq hC, jbd_eq hR]; exact lw_fin (F := f_LW_law_L23 xs L n (nI i + Int32.ofInt 6)) ht hv (go k g)
      · simp only [if_neg z]
        obtain ⟨v, m, hC, b, k, hR, ht, hv, g⟩ := (lw_x (c := c201) h (fun ρ g => m_text g y1 y2 (1 : Int32) y4 (by decide)) (fun e n w q => H201 e n w q) : ∃ v m, f_LW_text y1 y2 (1 : Int32) y4 σ = some (v, m) ∧ _)
        have hC : f_LW_text y1 y2 (1 : Int32) y4 σ = some (v, m) := hC
        rw [jbd_eq hC, jbd_eq hR]; exact lw_fin (F := f_LW_law_L23 xs L n (nI i + Int32.ofInt 6)) ht hv (go k g)
    rw [if_neg o21]
    exact go σ ⟨md, S, M, h⟩
