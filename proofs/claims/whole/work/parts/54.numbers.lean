/-! numbers: the class's beside the reference's -/
def jD (w : Bool) (σ0 ρ0 σ ρ : jMem) : Prop := match w with
  | true => jWA σ0 ρ0 σ ρ
  | false => jRA σ0 ρ0 σ ρ
def jok (w : Bool) (d e : Int32) : Prop := w = true → d = e ∧ (d = 0 ∨ d = 1)
theorem jW.r {σ0 ρ0 σ ρ : jMem} (h : jW σ0 ρ0 σ ρ) {k : Nat} {v : Int32} (hk : k = 19 ∨ k = 20) : jW σ (ju ρ 38 k v) σ (ju ρ 38 k v) := by
  obtain ⟨hK, hR, hx, ⟨n, hb, ht⟩, h2, h3, h4, h5⟩ := h
  rcases hk with rfl | rfl
  · refine ⟨.r _, .r _, hx.c rfl (by funext i; simp [ju_ap]), ⟨n, hb.c rfl rfl (by simp [ju_ap]) (by funext i; simp [ju_ap]), ?_⟩, ?_, ?_, ?_, ?_⟩
    · unfold jCt at ht ⊢; simpa [ju_ap] using ht
    all_goals simp [ju_ap, h2, h3, h4, h5]
  · refine ⟨.r _, .r _, hx.c rfl (by funext i; simp [ju_ap]), ⟨n, hb.c rfl rfl (by simp [ju_ap]) (by funext i; simp [ju_ap]), ?_⟩, ?_, ?_, ?_, ?_⟩
    · unfold jCt at ht ⊢; simpa [ju_ap] using ht
    all_goals simp [ju_ap, h2, h3, h4, h5]
theorem jR.r {σ0 ρ0 σ ρ : jMem} (h : jR σ0 ρ0 σ ρ) {k : Nat} {v : Int32} (hk : k = 19 ∨ k = 20) : jR σ (ju ρ 38 k v) σ (ju ρ 38 k v) := by
  obtain ⟨hK, hR, hx, ⟨n, t, hb, htn, ht, ht2⟩, h2, h3, h4⟩ := h
  rcases hk with rfl | rfl
  · refine ⟨.r _, .r _, hx.c rfl (by funext i; simp [ju_ap]), ⟨n, t, hb.c rfl rfl (by simp [ju_ap]) (by funext i; simp [ju_ap]), htn, ht, by simp [ju_ap, ht2]⟩, ?_, ?_, ?_⟩
    all_goals simp [ju_ap, h2, h3, h4]
  · refine ⟨.r _, .r _, hx.c rfl (by funext i; simp [ju_ap]), ⟨n, t, hb.c rfl rfl (by simp [ju_ap]) (by funext i; simp [ju_ap]), htn, ht, by simp [ju_ap, ht2]⟩, ?_, ?_, ?_⟩
    all_goals simp [ju_ap, h2, h3, h4]
theorem jD.r {w : Bool} {σ0 ρ0 σ ρ : jMem} (h : jD w σ0 ρ0 σ ρ) {k : Nat} {v : Int32} (hk : k = 19 ∨ k = 20) : jD w σ (ju ρ 38 k v) σ (ju ρ 38 k v) := by
  cases w with
  | true => exact ⟨h.1.r hk, h.2⟩
  | false => exact ⟨h.1.r hk, h.2⟩
theorem jD.b {w : Bool} {σ0 ρ0 σ ρ : jMem} (h : jD w σ0 ρ0 σ ρ) : jD w σ ρ σ ρ := by
  cases w with
  | true => exact ⟨⟨.r _, .r _, h.1.2.2⟩, h.2⟩
  | false => exact ⟨⟨.r _, .r _, h.1.2.2⟩, h.2⟩
theorem jD.k {w : Bool} {σ0 ρ0 σ ρ : jMem} (h : jD w σ0 ρ0 σ ρ) : jK σ0 σ := by
  cases w with
  | true => exact h.1.1
  | false => exact h.1.1
theorem jD.kr {w : Bool} {σ0 ρ0 σ ρ : jMem} (h : jD w σ0 ρ0 σ ρ) : jKr ρ0 ρ := by
  cases w with
  | true => exact h.1.2.1
  | false => exact h.1.2.1
/-- the frame of numbers and regions: of the reference also r and none -/
def jKs (ρ0 ρ : jMem) : Prop := (∀ o, o ≠ 38 → o ≠ 45 → o ≠ 46 → ρ o = ρ0 o) ∧ (∀ k, k ≠ 9 → ¬ (12 ≤ k ∧ k ≤ 20) → ρ 38 k = ρ0 38 k)
theorem jKs.r (σ : jMem) : jKs σ σ := ⟨fun _ _ _ _ => rfl, fun _ _ _ => rfl⟩
theorem jKs.t {a b c : jMem} (h : jKs a b) (k : jKs b c) : jKs a c := ⟨fun o h1 h2 h3 => (k.1 o h1 h2 h3).trans (h.1 o h1 h2 h3), fun o h1 h2 => (k.2 o h1 h2).trans (h.2 o h1 h2)⟩
theorem jKr.s {a b : jMem} (h : jKr a b) : jKs a b := ⟨h.1, fun k h1 h2 => h.2 k h1 (fun q => h2 ⟨q.1, by omega⟩)⟩
theorem jKs.u {ρ0 ρ : jMem} (h : jKs ρ0 ρ) {k : Nat} {v : Int32} (hk : k = 9 ∨ (12 ≤ k ∧ k ≤ 20)) : jKs ρ0 (ju ρ 38 k v) := by
  refine ⟨fun o h1 h2 h3 => ?_, fun j h1 h2 => ?_⟩
  · rw [ju_n h1]; exact h.1 o h1 h2 h3
  · rw [ju_ap, if_pos rfl, if_neg (by rintro rfl; rcases hk with h | h <;> contradiction)]; exact h.2 j h1 h2
def jNu (w : Bool) (σ0 ρ0 σ ρ : jMem) : Prop := jD w σ ρ σ ρ ∧ jK σ0 σ ∧ jKs ρ0 ρ
theorem jNu.b {w : Bool} {σ0 ρ0 σ ρ : jMem} (h : jNu w σ0 ρ0 σ ρ) : jNu w σ ρ σ ρ := ⟨h.1, .r _, .r _⟩
theorem jNu.t {w : Bool} {σ0 ρ0 σ ρ σ' ρ' : jMem} (h : jK σ0 σ) (h2 : jKs ρ0 ρ) (k : jNu w σ ρ σ' ρ') : jNu w σ0 ρ0 σ' ρ' := ⟨k.1, h.t k.2.1, h2.t k.2.2⟩
theorem jNu.r {w : Bool} {σ0 ρ0 σ ρ : jMem} (h : jNu w σ0 ρ0 σ ρ) {k : Nat} {v : Int32} (hk : k = 19 ∨ k = 20) : jNu w σ0 ρ0 σ (ju ρ 38 k v) := ⟨h.1.r hk, h.2.1, h.2.2.u (by omega)⟩
def jpd (w : Bool) (σ0 ρ0 ρ : jMem) (d : Int32) : Int32 → jMem → Int32 → jMem → Prop := fun a m b k => a = b ∧ (a = 0 ∨ a = 1) ∧ jNu w σ0 ρ0 m k ∧ (w = true → a = d) ∧ k 38 19 = ρ 38 19 ∧ k 38 20 = ρ 38 20
theorem dec_true {σ0 ρ0 σ ρ : jMem} {i : Nat} {d e : Int32} (hi : i < 15883) (hm : ρ0 38 11 = 1) (h : jNu true σ0 ρ0 σ ρ) (hd : jok true d e) : jPP (f_WR_decide (nI (jx i)) d σ) (f_MO_decide (nI i) e ρ) (jpd true σ0 ρ0 ρ d) := by
  obtain ⟨hq, hd'⟩ := hd rfl
  subst hq
  refine (dec_W hi ((h.2.2.2 11 (by decide) (by decide)).trans hm) h.1).mono ?_
  rintro a m b k ⟨rfl, rfl, q⟩
  have q : jD true σ ρ m k := q
  exact ⟨rfl, hd', ⟨q.b, h.2.1.t q.k, h.2.2.t q.kr.s⟩, fun _ => rfl, q.kr.2 19 (by decide) (by decide), q.kr.2 20 (by decide) (by decide)⟩
theorem dec_false {σ0 ρ0 σ ρ : jMem} {i : Nat} {d e : Int32} (hi : i < 15883) (hm : ρ0 38 11 = 2) (h : jNu false σ0 ρ0 σ ρ) (hd : jok false d e) : jPP (f_RD_decide (nI (jx i)) d σ) (f_MO_decide (nI i) e ρ) (jpd false σ0 ρ0 ρ d) := by
  refine (dec_R hi ((h.2.2.2 11 (by decide) (by decide)).trans hm) h.1).mono ?_
  rintro a m b k ⟨rfl, h1, q⟩
  have q : jD false σ ρ m k := q
  exact ⟨rfl, h1, ⟨q.b, h.2.1.t q.k, h.2.2.t q.kr.s⟩, fun q => Bool.noConfusion q, q.kr.2 19 (by decide) (by decide), q.kr.2 20 (by decide) (by decide)⟩
theorem jor1 (x b : Int32) (h : b = 0 ∨ b = 1) : (x <<< ((1 : Int32) &&& 31)) ||| b = 2 * x + b := by
  have e : x <<< ((1 : Int32) &&& 31) = 2 * x := jshl x _ 1 2 (fun y => by
    rw [show ((1 : Int32) &&& 31).toBitVec.smod 32 = 1#32 from by decide]
    apply BitVec.eq_of_toNat_eq
    simp [BitVec.toNat_shiftLeft, Nat.shiftLeft_eq, BitVec.toNat_mul])
  rcases h with rfl | rfl
  · rw [e]; apply Int32.toBitVec_inj.mp; rw [Int32.toBitVec_or, Int32.toBitVec_add]; simp
  · rw [← e]
    apply Int32.toBitVec_inj.mp
    rw [Int32.toBitVec_or, Int32.toBitVec_add]
    symm
    apply BitVec.add_eq_or_of_and_eq_zero
    rw [Int32.toBitVec_shiftLeft]
    show x.toBitVec <<< (((1 : Int32) &&& 31).toBitVec.smod 32) &&& 1#32 = 0#32
    rw [show ((1 : Int32) &&& 31).toBitVec.smod 32 = 1#32 from by decide]
    apply BitVec.eq_of_getLsbD_eq
    intro i hi
    rw [BitVec.getLsbD_and]
    rcases Nat.eq_zero_or_pos i with rfl | hp
    · simp [BitVec.shiftLeft_eq']
    · have : (1#32).getLsbD i = false := by rw [BitVec.getLsbD_one]; simp; omega
      simp [this]
theorem jix {κ r : Nat} : (11268 : Int32) + 512 * nI κ + nI r = nI (11268 + 512 * κ + r) := by
  rw [show (512 : Int32) = nI 512 from rfl, pk_mul, show (11268 : Int32) = nI 11268 from rfl, nI_add, nI_add]
theorem jiy {κ r : Nat} : (11267 : Int32) + 512 * nI κ + nI r = nI (11267 + 512 * κ + r) := by
  rw [show (512 : Int32) = nI 512 from rfl, pk_mul, show (11267 : Int32) = nI 11267 from rfl, nI_add, nI_add]
theorem jbit {b : Int32} {r : Nat} (hr : r < 256) (hb : b = 0 ∨ b = 1) : ∃ q, q ≤ 511 ∧ 2 * nI r + b = nI q ∧ (nI q &&& 1) = b := by
  rcases hb with rfl | rfl
  · refine ⟨2 * r, by omega, ?_, ?_⟩
    · rw [show (2 : Int32) = nI 2 from rfl, pk_mul, show (0 : Int32) = nI 0 from rfl, nI_add]; rfl
    · rw [pk_andN (m := 1) (by omega) 1 (by decide)]; simp; rfl
  · refine ⟨2 * r + 1, by omega, ?_, ?_⟩
    · rw [show (2 : Int32) = nI 2 from rfl, pk_mul, show (1 : Int32) = nI 1 from rfl, nI_add]
    · rw [pk_andN (m := 1) (by omega) 1 (by decide)]; simp; rfl
theorem jbit2 : ∀ r, r < 512 → ∀ b : Fin 2, (((2 * nI r + nI b.val) &&& 255) ||| 256).toNatClampNeg ≤ 511 ∧ ((2 * nI r + nI b.val) &&& 255) ||| 256 = nI (((2 * nI r + nI b.val) &&& 255) ||| 256).toNatClampNeg ∧ (((2 * nI r + nI b.val) &&& 255) ||| 256) &&& 1 = nI b.val := by decide +kernel
theorem jbit3 {b : Int32} {r : Nat} (hr : r < 512) (hb : b = 0 ∨ b = 1) : ∃ q, q ≤ 511 ∧ ((2 * nI r + b) &&& 255) ||| 256 = nI q ∧ (nI q &&& 1) = b := by
  have go : ∀ c : Fin 2, b = nI c.val → ∃ q, q ≤ 511 ∧ ((2 * nI r + b) &&& 255) ||| 256 = nI q ∧ (nI q &&& 1) = b := by
    intro c hc
    obtain ⟨h1, h2, h3⟩ := jbit2 r hr c
    rw [hc]
    exact ⟨_, h1, h2, h2 ▸ h3⟩
  rcases hb with h | h
  · exact go 0 h
  · exact go 1 h
theorem jisOne {r : Int32} {σ : jMem} {b : Int32} (hb : b = 0 ∨ b = 1) (h : (r &&& 1) = b) : f_NU_isOne r σ = b := by
  unfold f_NU_isOne
  rw [h]
  rcases hb with rfl | rfl <;> rfl
def jfi (x6 x7 x8 L : Int32) : Int32 := if x6 = 1 then (if x7 = 0 ∧ x8 = 0 then -2147483648 else -(L + x8)) else L + x8
theorem jofm (t : Nat) : nI t + Int32.ofInt (-1) = nI t - 1 := by
  rw [Int32.sub_eq_add_neg]; rfl
def jval (x5 L g : Int32) : Int32 := if x5 = 1 then -(L + g) else L + g
def jnon (x5 x7 L g : Int32) : Int32 := if (x5 = 1 ∧ x7 = 0 ∧ L + g = 0) ∨ jval x5 L g = -2147483648 then 1 else 0
theorem jtree (x5 x7 L g : Int32) (m : jMem) : (if x5 = (1 : Int32) then (if x5 = (1 : Int32) then (if x7 = 0 then (if (L + g) = 0 then (some (-(L + g), (ju m 38 20 (1 : Int32)))) else (if (-(L + g)) = (-2147483648 : Int32) then (some (-(L + g), (ju m 38 20 (1 : Int32)))) else (some (-(L + g), (ju m 38 20 (0 : Int32)))))) else (if (-(L + g)) = (-2147483648 : Int32) then (some (-(L + g), (ju m 38 20 (1 : Int32)))) else (some (-(L + g), (ju m 38 20 (0 : Int32)))))) else (if (-(L + g)) = (-2147483648 : Int32) then (some (-(L + g), (ju m 38 20 (1 : Int32)))) else (some (-(L + g), (ju m 38 20 (0 : Int32)))))) else (if x5 = (1 : Int32) then (if x7 = 0 then (if (L + g) = 0 then (some (L + g, (ju m 38 20 (1 : Int32)))) else (if (L + g) = (-2147483648 : Int32) then (some (L + g, (ju m 38 20 (1 : Int32)))) else (some (L + g, (ju m 38 20 (0 : Int32)))))) else (if (L + g) = (-2147483648 : Int32) then (some (L + g, (ju m 38 20 (1 : Int32)))) else (some (L + g, (ju m 38 20 (0 : Int32)))))) else (if (L + g) = (-2147483648 : Int32) then (some (L + g, (ju m 38 20 (1 : Int32)))) else (some (L + g, (ju m 38 20 (0 : Int32))))))) = some (jval x5 L g, ju m 38 20 (jnon x5 x7 L g)) := by
  unfold jnon jval
  by_cases h5 : x5 = 1
  · by_cases h7 : x7 = 0
    · by_cases h0 : L + g = 0
      · simp [h5, h7, h0]
      · by_cases h1 : -(L + g) = -2147483648 <;> simp [h5, h7, h0, h1]
    · by_cases h1 : -(L + g) = -2147483648 <;> simp [h5, h7, h1]
  · by_cases h1 : L + g = -2147483648 <;> simp [h5, h1]
theorem mo_L55 (n : Nat) (x1 x2 x3 x4 x5 x6 x7 : Int32) (σ : jMem) : f_MO_codeNumber_L55 (n + 1) x1 x2 x3 x4 x5 x6 x7 σ = if (5 : Int32) ≤ x7 then (jbd (f_MO_many x1 (f_MO_bitsOf x7 σ) (x4 - (f_MO_leastOf x7 σ)) σ) (fun g m => some (jval x5 (f_MO_leastOf x7 σ) g, ju m 38 20 (jnon x5 x7 (f_MO_leastOf x7 σ) g)))) else (if x6 ≤ x7 then (jbd (f_MO_next x1 (0 : Int32) σ) (fun v75 n75 => if v75 = (1 : Int32) then (f_MO_codeNumber_L55 n x1 x2 x3 x4 x5 x6 (x7 + 1) n75) else (jbd (f_MO_many x1 (f_MO_bitsOf x7 n75) (x4 - (f_MO_leastOf x7 n75)) n75) (fun g m => some (jval x5 (f_MO_leastOf x7 n75) g, ju m 38 20 (jnon x5 x7 (f_MO_leastOf x7 n75) g)))))) else (jbd (f_MO_next x1 (1 : Int32) σ) (fun v75 n75 => if v75 = (1 : Int32) then (f_MO_codeNumber_L55 n x1 x2 x3 x4 x5 x6 (x7 + 1) n75) else (jbd (f_MO_many x1 (f_MO_bitsOf x7 n75) (x4 - (f_MO_leastOf x7 n75)) n75) (fun g m => some (jval x5 (f_MO_leastOf x7 n75) g, ju m 38 20 (jnon x5 x7 (f_MO_leastOf x7 n75) g))))))) := by
  rw [f_MO_codeNumber_L55]
  simp only [jtree]
theorem fol_true {σ0 ρ0 σ ρ : jMem} {κ r : Nat} {d e : Int32} (hκ : κ < 9) (hr : r ≤ 511) (hm : ρ0 38 11 = 1) (h : jNu true σ0 ρ0 σ ρ) (hq : ρ 38 19 = nI r) (hd : jok true d e) : jPP (f_NU_follow_W ((11268 : Int32) + 512 * nI κ) (nI r) d σ) (f_MO_next (nI κ) e ρ) (fun a m b k => ∃ q, q ≤ 511 ∧ a = nI q ∧ k 38 19 = nI q ∧ (b = 0 ∨ b = 1) ∧ (a &&& 1) = b ∧ jNu true σ0 ρ0 m k ∧ (true = true → b = d)) := by
  unfold f_NU_follow_W f_MO_next
  rw [hq, jix, jiy]
  have hx : 11268 + 512 * κ + r = jx (11267 + 512 * κ + r) := by unfold jx; rw [if_neg (by omega)]; omega
  rw [hx]
  refine .bd (dec_true (by omega) hm h hd) ?_
  rintro a m b k ⟨rfl, h1, h2, h3, h4, h5⟩
  rw [h4, hq]
  by_cases c : 256 ≤ r
  · refine .ipp (show nI 256 ≤ nI r from nI_le c (by omega)) (.ret ?_)
    obtain ⟨q, q1, q2, q3⟩ := jbit3 (b := a) (r := r) (by omega) h1
    exact ⟨q, q1, q2, by simp [ju_ap]; exact q2, h1, q2 ▸ q3, h2.r (Or.inl rfl), h3⟩
  · refine .inn (show ¬ nI 256 ≤ nI r from nI_ge (by omega) (by omega)) (.ret ?_)
    obtain ⟨q, q1, q2, q3⟩ := jbit (b := a) (r := r) (by omega) h1
    exact ⟨q, q1, q2, by simp [ju_ap]; exact q2, h1, q2 ▸ q3, h2.r (Or.inl rfl), h3⟩
theorem man_true {σ0 ρ0 : jMem} {κ ra : Nat} {x1 x2 x4 x6 y2 y3 : Int32} (hκ : κ < 9) (hm : ρ0 38 11 = 1) (hra : ra < 6) (h6 : x6 = 0 ∨ x6 = 1) (hv : true = true → ∃ V, V < 2 ^ 31 ∧ x4 - jS_STARTS.2.2.2.getD ra 0 = nI V ∧ y3 = nI V) : ∀ t, t ≤ 32 → ∀ n m r x8 σ ρ, r ≤ 511 → jNu true σ0 ρ0 σ ρ → ρ 38 19 = nI r → (true = true → ∀ V, V < 2 ^ 31 → y3 = nI V → x8 = nI (V / 2 ^ t)) → jPP (f_NU_codeNumber_W_L116 (n + t + 1) x1 x2 ((11268 : Int32) + 512 * nI κ) x4 (nI r) x6 (nI ra) x8 (nI t - 1) σ) (f_MO_many_L8 (m + t + 1) (nI κ) y2 y3 x8 (nI t - 1) ρ) (fun a m b k => a = jfi x6 (nI ra) b (jS_STARTS.2.2.2.getD ra 0) ∧ jNu true σ0 ρ0 m k ∧ (true = true → b = y3)) := by
  have hin : ¬ (nI ra < 0 ∨ 6 ≤ (nI ra).toNatClampNeg) := nI_in hra (by decide)
  have hcl : (nI ra).toNatClampNeg = ra := nI_clamp (by omega)
  rw [hcl] at hin
  intro t
  induction t with
  | zero =>
    intro _ n m r x8 σ ρ hr h hq hw
    unfold f_NU_codeNumber_W_L116 f_MO_many_L8
    rw [hcl]
    refine .ilp (by decide) (.irp (by decide) ?_)
    have hfin : true = true → x8 = y3 := by
      intro q
      obtain ⟨V, v1, v2, v3⟩ := hv q
      rw [hw q V v1 v3, v3]; simp
    unfold jfi
    rcases h6 with rfl | rfl
    · refine .ilp rfl (.ckl hin (.ilp rfl (.ret ⟨?_, h, hfin⟩)))
      rw [if_neg (by decide)]
    · refine .iln (by decide) ?_
      by_cases c7 : nI ra = 0
      · refine .ilp c7 ?_
        by_cases c8 : x8 = 0
        · refine .ilp c8 (.ret ⟨?_, h, hfin⟩)
          rw [if_pos rfl, if_pos ⟨c7, c8⟩]
        · refine .iln c8 (.ckl hin (.iln (by decide) (.ret ⟨?_, h, hfin⟩)))
          rw [if_pos rfl, if_neg (fun q => c8 q.2)]
      · refine .iln c7 (.ckl hin (.iln (by decide) (.ret ⟨?_, h, hfin⟩)))
        rw [if_pos rfl, if_neg (fun q => c7 q.1)]
  | succ t ih =>
    intro ht n m r x8 σ ρ hr h hq hw
    rw [show n + (t + 1) + 1 = (n + t + 1) + 1 from by omega, show m + (t + 1) + 1 = (m + t + 1) + 1 from by omega]
    unfold f_NU_codeNumber_W_L116 f_MO_many_L8
    rw [nI_pred, hcl]
    have hn0 : ¬ nI t < 0 := nI_pos (by omega)
    refine .iln hn0 (.irn hn0 (.ckl hin (.bd (fol_true hκ hr hm h hq ?_) ?_)))
    · intro q
      obtain ⟨V, v1, v2, v3⟩ := hv q
      rw [v2, v3]
      refine ⟨rfl, ?_⟩
      rw [pk_ushrN (by omega) (nI t) t (s_u t (by omega)), pk_andN (m := 1) (Nat.lt_of_le_of_lt (Nat.div_le_self _ _) (by omega)) 1 (by decide)]
      rcases Nat.mod_two_eq_zero_or_one (V / 2 ^ t) with e | e
      · left; rw [show 2 ^ 1 = 2 from rfl, e]; rfl
      · right; rw [show 2 ^ 1 = 2 from rfl, e]; rfl
    · rintro a p b q ⟨r', r1, rfl, r2, hb, hab, hp, hwb⟩
      rw [hab, jor1 _ _ hb, jofm]
      refine ih (by omega) n m r' _ p q r1 hp r2 ?_
      intro qw V v1 v3
      rw [hwb qw, hw qw V v1 v3]
      obtain ⟨V', v1', v2', v3'⟩ := hv qw
      have : V' = V := by
        have := v3'.symm.trans v3
        exact (nI_eq v1' v1).mp this
      subst this
      rw [v2', pk_ushrN (by omega) (nI t) t (s_u t (by omega)), pk_andN (m := 1) (Nat.lt_of_le_of_lt (Nat.div_le_self _ _) (by omega)) 1 (by decide), show (2 : Int32) = nI 2 from rfl, pk_mul, nI_add]
      congr 1
      rw [Nat.pow_succ, ← Nat.div_div_eq_div_mul]
      omega
theorem fol_false {σ0 ρ0 σ ρ : jMem} {κ r : Nat} {d e : Int32} (hκ : κ < 9) (hr : r ≤ 511) (hm : ρ0 38 11 = 2) (h : jNu false σ0 ρ0 σ ρ) (hq : ρ 38 19 = nI r) (hd : jok false d e) : jPP (f_NU_follow_R ((11268 : Int32) + 512 * nI κ) (nI r) d σ) (f_MO_next (nI κ) e ρ) (fun a m b k => ∃ q, q ≤ 511 ∧ a = nI q ∧ k 38 19 = nI q ∧ (b = 0 ∨ b = 1) ∧ (a &&& 1) = b ∧ jNu false σ0 ρ0 m k ∧ (false = true → b = d)) := by
  unfold f_NU_follow_R f_MO_next
  rw [hq, jix, jiy]
  have hx : 11268 + 512 * κ + r = jx (11267 + 512 * κ + r) := by unfold jx; rw [if_neg (by omega)]; omega
  rw [hx]
  refine .bd (dec_false (by omega) hm h hd) ?_
  rintro a m b k ⟨rfl, h1, h2, h3, h4, h5⟩
  rw [h4, hq]
  by_cases c : 256 ≤ r
  · refine .ipp (show nI 256 ≤ nI r from nI_le c (by omega)) (.ret ?_)
    obtain ⟨q, q1, q2, q3⟩ := jbit3 (b := a) (r := r) (by omega) h1
    exact ⟨q, q1, q2, by simp [ju_ap]; exact q2, h1, q2 ▸ q3, h2.r (Or.inl rfl), h3⟩
  · refine .inn (show ¬ nI 256 ≤ nI r from nI_ge (by omega) (by omega)) (.ret ?_)
    obtain ⟨q, q1, q2, q3⟩ := jbit (b := a) (r := r) (by omega) h1
    exact ⟨q, q1, q2, by simp [ju_ap]; exact q2, h1, q2 ▸ q3, h2.r (Or.inl rfl), h3⟩
theorem man_false {σ0 ρ0 : jMem} {κ ra : Nat} {x1 x2 x4 x6 y2 y3 : Int32} (hκ : κ < 9) (hm : ρ0 38 11 = 2) (hra : ra < 6) (h6 : x6 = 0 ∨ x6 = 1) (hv : false = true → ∃ V, V < 2 ^ 31 ∧ x4 - jS_STARTS.2.2.2.getD ra 0 = nI V ∧ y3 = nI V) : ∀ t, t ≤ 32 → ∀ n m r x8 σ ρ, r ≤ 511 → jNu false σ0 ρ0 σ ρ → ρ 38 19 = nI r → (false = true → ∀ V, V < 2 ^ 31 → y3 = nI V → x8 = nI (V / 2 ^ t)) → jPP (f_NU_codeNumber_R_L116 (n + t + 1) x1 x2 ((11268 : Int32) + 512 * nI κ) x4 (nI r) x6 (nI ra) x8 (nI t - 1) σ) (f_MO_many_L8 (m + t + 1) (nI κ) y2 y3 x8 (nI t - 1) ρ) (fun a m b k => a = jfi x6 (nI ra) b (jS_STARTS.2.2.2.getD ra 0) ∧ jNu false σ0 ρ0 m k ∧ (false = true → b = y3)) := by
  have hin : ¬ (nI ra < 0 ∨ 6 ≤ (nI ra).toNatClampNeg) := nI_in hra (by decide)
  have hcl : (nI ra).toNatClampNeg = ra := nI_clamp (by omega)
  rw [hcl] at hin
  intro t
  induction t with
  | zero =>
    intro _ n m r x8 σ ρ hr h hq hw
    unfold f_NU_codeNumber_R_L116 f_MO_many_L8
    rw [hcl]
    refine .ilp (by decide) (.irp (by decide) ?_)
    have hfin : false = true → x8 = y3 := by
      intro q
      obtain ⟨V, v1, v2, v3⟩ := hv q
      rw [hw q V v1 v3, v3]; simp
    unfold jfi
    rcases h6 with rfl | rfl
    · refine .ilp rfl (.ckl hin (.ilp rfl (.ret ⟨?_, h, hfin⟩)))
      rw [if_neg (by decide)]
    · refine .iln (by decide) ?_
      by_cases c7 : nI ra = 0
      · refine .ilp c7 ?_
        by_cases c8 : x8 = 0
        · refine .ilp c8 (.ret ⟨?_, h, hfin⟩)
          rw [if_pos rfl, if_pos ⟨c7, c8⟩]
        · refine .iln c8 (.ckl hin (.iln (by decide) (.ret ⟨?_, h, hfin⟩)))
          rw [if_pos rfl, if_neg (fun q => c8 q.2)]
      · refine .iln c7 (.ckl hin (.iln (by decide) (.ret ⟨?_, h, hfin⟩)))
        rw [if_pos rfl, if_neg (fun q => c7 q.1)]
  | succ t ih =>
    intro ht n m r x8 σ ρ hr h hq hw
    rw [show n + (t + 1) + 1 = (n + t + 1) + 1 from by omega, show m + (t + 1) + 1 = (m + t + 1) + 1 from by omega]
    unfold f_NU_codeNumber_R_L116 f_MO_many_L8
    rw [nI_pred, hcl]
    have hn0 : ¬ nI t < 0 := nI_pos (by omega)
    refine .iln hn0 (.irn hn0 (.ckl hin (.bd (fol_false hκ hr hm h hq ?_) ?_)))
    · intro q
      obtain ⟨V, v1, v2, v3⟩ := hv q
      rw [v2, v3]
      refine ⟨rfl, ?_⟩
      rw [pk_ushrN (by omega) (nI t) t (s_u t (by omega)), pk_andN (m := 1) (Nat.lt_of_le_of_lt (Nat.div_le_self _ _) (by omega)) 1 (by decide)]
      rcases Nat.mod_two_eq_zero_or_one (V / 2 ^ t) with e | e
      · left; rw [show 2 ^ 1 = 2 from rfl, e]; rfl
      · right; rw [show 2 ^ 1 = 2 from rfl, e]; rfl
    · rintro a p b q ⟨r', r1, rfl, r2, hb, hab, hp, hwb⟩
      rw [hab, jor1 _ _ hb, jofm]
      refine ih (by omega) n m r' _ p q r1 hp r2 ?_
      intro qw V v1 v3
      rw [hwb qw, hw qw V v1 v3]
      obtain ⟨V', v1', v2', v3'⟩ := hv qw
      have : V' = V := by
        have := v3'.symm.trans v3
        exact (nI_eq v1' v1).mp this
      subst this
      rw [v2', pk_ushrN (by omega) (nI t) t (s_u t (by omega)), pk_andN (m := 1) (Nat.lt_of_le_of_lt (Nat.div_le_self _ _) (by omega)) 1 (by decide), show (2 : Int32) = nI 2 from rfl, pk_mul, nI_add]
      congr 1
      rw [Nat.pow_succ, ← Nat.div_div_eq_div_mul]
      omega
