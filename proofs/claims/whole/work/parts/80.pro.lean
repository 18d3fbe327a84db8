/-! the law's beginning: both objects are made -/
theorem kcons {α : Type} {l : List α} {n : Nat} (h : l.length = n + 1) : ∃ a t, l = a :: t ∧ t.length = n := by
  cases l with
  | nil => cases h
  | cons a t => exact ⟨a, t, rfl, Nat.succ.inj h⟩
theorem knil {α : Type} {l : List α} (h : l.length = 0) : l = [] := List.eq_nil_of_length_eq_zero h
def kLw (R : Room) : kZ := fun below A s => jMQ below (fun st oc t => oc = .returned (some (.int 1)) ∧ va_F A st t) s R.cells R.slots A
def jG.at (G : jG) (ad : Nat → Nat) : jG := (G.1, G.2.1, ad, G.2.2.2)
theorem jT.at {G : jG} {ad : Nat → Nat} {A : Nat → Prop} {U : State} (h : jT G A U) (hag : ∀ o, 48 ≤ o → ad o = G.ad o) : jT (G.at ad) A U := by
  obtain ⟨h1, h2, h3, h4⟩ := h
  have e : (G.at ad).ad jScr = G.ad jScr := hag jScr (by decide)
  refine ⟨fun q hq => ?_, by rw [e]; exact h2, by rw [e]; exact h3, h4⟩
  have eq : (G.at ad).ad q.2.2.1 = G.ad q.2.2.1 := hag _ ((by decide : ∀ q ∈ jSt, 48 ≤ q.2.2.1) q hq)
  rw [eq]
  exact h1 q hq
theorem jF.at {G : jG} {ad : Nat → Nat} {M : jM} {p : Program} {s : State} {m : MethodId} {args : Array Value} {meth : Method} {c : Code} {A : Nat → Prop} (F : jF G M p s m args meth c A) (hag : ∀ o, 48 ≤ o → ad o = G.ad o) : jF (G.at ad) M p s m args meth c A := by
  obtain ⟨h1, h2, h3, h4, h5, h6, h7, h8, h9, h10, h11⟩ := F
  exact ⟨h1, h2, h3, h4, h5, h6, h7, h8, h9, h10.at hag, h11⟩
/-- from a world as a list to the memory -/
theorem kv_mem {G : jG} {M : jM} {R : Room} {k n pc : Nat} {ls : List (Nat × Value)} {ls' : List (Nat × Value)} {ws : va_W} {σ τ : jMem} (ad : Nat → Nat) (hag : ∀ o, 48 ≤ o → ad o = G.ad o) (ix : Nat → Nat) (hix : ∀ o, o < jN → ws[ix o]? = some (ad o, jcell (G.at ad) σ o)) (hinj : ∀ i, i < jN → ∀ j, j < jN → ix i = ix j → i = j) (hls : jls ad ls' = ls) (kk : jV (G.at ad) M R (jI fun r9 τ9 => r9 = 1 ∧ τ9 = τ) k n pc ls' [] σ) : kV G M R (kLw R) k n pc ls [] ws := by
  intro p e s m args below meth c A H locs L F hN hP hD hS hl
  have hlt : ∀ (k : Nat) (q : Nat × va_E), (jwd (G.at ad) σ)[k]? = some q → k < jN := fun k q h => by
    have := (List.getElem?_eq_some_iff.mp h).1
    simpa [jwd] using this
  have hat : ∀ (k : Nat) (q : Nat × va_E), (jwd (G.at ad) σ)[k]? = some q → ws[ix k]? = some q := fun k q h => by
    have h1 := hlt k q h
    rw [jwd_get h1] at h
    rw [hix k h1]
    exact h
  have hP1 : va_P (G.at ad).D jCl (jwd (G.at ad) σ) H := fun k q h => hP _ q (hat k q h)
  have hD1 : va_D A (jwd (G.at ad) σ) := ⟨fun i j x y hx hy hxy => hinj i (hlt i x hx) j (hlt j y hy) (hD.1 _ _ x y (hat i x hx) (hat j y hy) hxy), fun k q h => hD.2 _ q (hat k q h)⟩
  have := kk p e s m args below meth c A H locs L (F.at hag) hP1 hD1 hS (by rw [show jls (G.at ad).ad ls' = ls from hls]; exact hl)
  refine W.imp9 this ?_
  rintro t ⟨o, g1, g2, ⟨⟨o', σ', ⟨r, rfl, rfl, -⟩, ho, -⟩, hf⟩, g4⟩
  exact ⟨o, g1, g2, ⟨ho, hf⟩, g4⟩
def kAd (G : jG) (as : List Nat) : Nat → Nat := fun o => (as[o]?).getD (G.ad o)
theorem kAd_ag {G : jG} {as : List Nat} (h : as.length = 48) : ∀ o, 48 ≤ o → kAd G as o = G.ad o := by
  intro o ho
  unfold kAd
  rw [List.getElem?_eq_none (by omega)]
  rfl
theorem kpq_4 {G : jG} {ad : Nat → Nat} (x0 x1 x2 x3 : Nat × Nat) (h0 : ad 14 = x0.1) (h1 : ad 16 = x1.1) (h2 : ad 18 = x2.1) (h3 : ad 20 = x3.1) : kPq G 4 [x0, x1, x2, x3] = .inl (G.tP, 4, .inr (.inr (.inr (.inr fun i => (([14, 16, 18, 20] : List Nat)[i]?).map ad)))) := by
  unfold kPq
  congr 7
  funext j
  match j with
  | 0 => exact congrArg some h0.symm
  | 1 => exact congrArg some h1.symm
  | 2 => exact congrArg some h2.symm
  | 3 => exact congrArg some h3.symm
  | j + 4 => rfl
theorem kpq_8 {G : jG} {ad : Nat → Nat} (x0 x1 x2 x3 x4 x5 x6 x7 : Nat × Nat) (h0 : ad 22 = x0.1) (h1 : ad 24 = x1.1) (h2 : ad 26 = x2.1) (h3 : ad 28 = x3.1) (h4 : ad 30 = x4.1) (h5 : ad 32 = x5.1) (h6 : ad 34 = x6.1) (h7 : ad 36 = x7.1) : kPq G 8 [x0, x1, x2, x3, x4, x5, x6, x7] = .inl (G.tP, 8, .inr (.inr (.inr (.inr fun i => (([22, 24, 26, 28, 30, 32, 34, 36] : List Nat)[i]?).map ad)))) := by
  unfold kPq
  congr 7
  funext j
  match j with
  | 0 => exact congrArg some h0.symm
  | 1 => exact congrArg some h1.symm
  | 2 => exact congrArg some h2.symm
  | 3 => exact congrArg some h3.symm
  | 4 => exact congrArg some h4.symm
  | 5 => exact congrArg some h5.symm
  | 6 => exact congrArg some h6.symm
  | 7 => exact congrArg some h7.symm
  | j + 8 => rfl
theorem kc_0 {G : jG} {ad : Nat → Nat} : jcell (G.at ad) jm0 0 = .inr (0, [.ref (ad 1), .ref (ad 2), .ref (ad 4), .ref (ad 8), .ref (ad 10), .ref (ad 12), .ref (ad 13), .int 0]) := rfl
theorem kc_1 {G : jG} {ad : Nat → Nat} : jcell (G.at ad) jm0 1 = .inl (G.tP, 4, .inr (.inr (.inr (.inr fun i => (([14, 16, 18, 20] : List Nat)[i]?).map ad)))) := rfl
theorem kc_2 {G : jG} {ad : Nat → Nat} : jcell (G.at ad) jm0 2 = .inr (2, [.ref (ad 3), .int 0]) := rfl
theorem kc_3 {G : jG} {ad : Nat → Nat} : jcell (G.at ad) jm0 3 = .inl (G.tP, 8, .inr (.inr (.inr (.inr fun i => (([22, 24, 26, 28, 30, 32, 34, 36] : List Nat)[i]?).map ad)))) := rfl
theorem kc_4 {G : jG} {ad : Nat → Nat} : jcell (G.at ad) jm0 4 = .inr (3, [.ref (ad 5), .ref (ad 6), .ref (ad 7), .int 0]) := rfl
theorem kc_5 {G : jG} {ad : Nat → Nat} : jcell (G.at ad) jm0 5 = kIa G 12 := rfl
theorem kc_6 {G : jG} {ad : Nat → Nat} : jcell (G.at ad) jm0 6 = kIa G 12 := rfl
theorem kc_7 {G : jG} {ad : Nat → Nat} : jcell (G.at ad) jm0 7 = kIa G 12 := rfl
theorem kc_8 {G : jG} {ad : Nat → Nat} : jcell (G.at ad) jm0 8 = .inr (4, [.ref (ad 9), .int 0]) := rfl
theorem kc_9 {G : jG} {ad : Nat → Nat} : jcell (G.at ad) jm0 9 = kIa G 600 := rfl
theorem kc_10 {G : jG} {ad : Nat → Nat} : jcell (G.at ad) jm0 10 = .inr (5, [.ref (ad 11)]) := rfl
theorem kc_11 {G : jG} {ad : Nat → Nat} : jcell (G.at ad) jm0 11 = kIa G 15884 := rfl
theorem kc_12 {G : jG} {ad : Nat → Nat} : jcell (G.at ad) jm0 12 = .inr (6, [.ref (ad 10), .ref (ad 8), .int 0, .int 0, .int 0, .int 0, .int 0]) := rfl
theorem kc_13 {G : jG} {ad : Nat → Nat} : jcell (G.at ad) jm0 13 = .inr (7, [.ref (ad 10), .ref (ad 8), .int 0, .int 0, .int 0, .int 0]) := rfl
theorem kc_14 {G : jG} {ad : Nat → Nat} : jcell (G.at ad) jm0 14 = .inr (1, [.ref (ad 15), .int 1, .int 1]) := rfl
theorem kc_15 {G : jG} {ad : Nat → Nat} : jcell (G.at ad) jm0 15 = kIa G 24 := rfl
theorem kc_16 {G : jG} {ad : Nat → Nat} : jcell (G.at ad) jm0 16 = .inr (1, [.ref (ad 17), .int 1, .int 1]) := rfl
theorem kc_17 {G : jG} {ad : Nat → Nat} : jcell (G.at ad) jm0 17 = kIa G 24 := rfl
theorem kc_18 {G : jG} {ad : Nat → Nat} : jcell (G.at ad) jm0 18 = .inr (1, [.ref (ad 19), .int 1, .int 1]) := rfl
theorem kc_19 {G : jG} {ad : Nat → Nat} : jcell (G.at ad) jm0 19 = kIa G 24 := rfl
theorem kc_20 {G : jG} {ad : Nat → Nat} : jcell (G.at ad) jm0 20 = .inr (1, [.ref (ad 21), .int 1, .int 1]) := rfl
theorem kc_21 {G : jG} {ad : Nat → Nat} : jcell (G.at ad) jm0 21 = kIa G 24 := rfl
theorem kc_22 {G : jG} {ad : Nat → Nat} : jcell (G.at ad) jm0 22 = .inr (1, [.ref (ad 23), .int 1, .int 1]) := rfl
theorem kc_23 {G : jG} {ad : Nat → Nat} : jcell (G.at ad) jm0 23 = kIa G 24 := rfl
theorem kc_24 {G : jG} {ad : Nat → Nat} : jcell (G.at ad) jm0 24 = .inr (1, [.ref (ad 25), .int 1, .int 1]) := rfl
theorem kc_25 {G : jG} {ad : Nat → Nat} : jcell (G.at ad) jm0 25 = kIa G 24 := rfl
theorem kc_26 {G : jG} {ad : Nat → Nat} : jcell (G.at ad) jm0 26 = .inr (1, [.ref (ad 27), .int 1, .int 1]) := rfl
theorem kc_27 {G : jG} {ad : Nat → Nat} : jcell (G.at ad) jm0 27 = kIa G 24 := rfl
theorem kc_28 {G : jG} {ad : Nat → Nat} : jcell (G.at ad) jm0 28 = .inr (1, [.ref (ad 29), .int 1, .int 1]) := rfl
theorem kc_29 {G : jG} {ad : Nat → Nat} : jcell (G.at ad) jm0 29 = kIa G 24 := rfl
theorem kc_30 {G : jG} {ad : Nat → Nat} : jcell (G.at ad) jm0 30 = .inr (1, [.ref (ad 31), .int 1, .int 1]) := rfl
theorem kc_31 {G : jG} {ad : Nat → Nat} : jcell (G.at ad) jm0 31 = kIa G 24 := rfl
theorem kc_32 {G : jG} {ad : Nat → Nat} : jcell (G.at ad) jm0 32 = .inr (1, [.ref (ad 33), .int 1, .int 1]) := rfl
theorem kc_33 {G : jG} {ad : Nat → Nat} : jcell (G.at ad) jm0 33 = kIa G 24 := rfl
theorem kc_34 {G : jG} {ad : Nat → Nat} : jcell (G.at ad) jm0 34 = .inr (1, [.ref (ad 35), .int 1, .int 1]) := rfl
theorem kc_35 {G : jG} {ad : Nat → Nat} : jcell (G.at ad) jm0 35 = kIa G 24 := rfl
theorem kc_36 {G : jG} {ad : Nat → Nat} : jcell (G.at ad) jm0 36 = .inr (1, [.ref (ad 37), .int 1, .int 1]) := rfl
theorem kc_37 {G : jG} {ad : Nat → Nat} : jcell (G.at ad) jm0 37 = kIa G 24 := rfl
theorem kc_38 {G : jG} {ad : Nat → Nat} : jcell (G.at ad) jm0 38 = .inr (8, [.int 0, .ref (ad 39), .ref (ad 40), .ref (ad 41), .int 0, .int 0, .ref (ad 42), .ref (ad 43), .ref (ad 44), .int 0, .ref (ad 45), .int 0, .int 0, .int 0, .int 0, .int 0, .int 0, .int 0, .ref (ad 46), .int 0, .int 0, .int 0, .int 0]) := rfl
theorem kc_39 {G : jG} {ad : Nat → Nat} : jcell (G.at ad) jm0 39 = kIa G 288 := rfl
theorem kc_40 {G : jG} {ad : Nat → Nat} : jcell (G.at ad) jm0 40 = kIm G 4 := rfl
theorem kc_41 {G : jG} {ad : Nat → Nat} : jcell (G.at ad) jm0 41 = kIm G 4 := rfl
theorem kc_42 {G : jG} {ad : Nat → Nat} : jcell (G.at ad) jm0 42 = kIa G 12 := rfl
theorem kc_43 {G : jG} {ad : Nat → Nat} : jcell (G.at ad) jm0 43 = kIa G 12 := rfl
theorem kc_44 {G : jG} {ad : Nat → Nat} : jcell (G.at ad) jm0 44 = kIa G 12 := rfl
theorem kc_45 {G : jG} {ad : Nat → Nat} : jcell (G.at ad) jm0 45 = kIa G 600 := rfl
theorem kc_46 {G : jG} {ad : Nat → Nat} : jcell (G.at ad) jm0 46 = kIa G 15883 := rfl
theorem kc_47 {G : jG} {ad : Nat → Nat} : jcell (G.at ad) jm0 47 = .inl (G.tL, 1, .inr (.inl fun _ => 0)) := rfl
def kIx (o : Nat) : Nat := (([0, 1, 10, 11, 28, 29, 30, 31, 32, 33, 34, 35, 36, 37, 2, 3, 4, 5, 6, 7, 8, 9, 12, 13, 14, 15, 16, 17, 18, 19, 20, 21, 22, 23, 24, 25, 26, 27, 38, 39, 40, 41, 42, 43, 44, 45, 46, 47] : List Nat)[o]?).getD 0
theorem kIx_inj : ∀ i, i < jN → ∀ j, j < jN → kIx i = kIx j → i = j := by decide +kernel
def kWs (G : jG) (a q b q2 c c1 c2 c3 d d1 e e1 f g m r1 r2 r3 r6 r7 r8 r10 r18 l : Nat) (x0 x1 x2 x3 y0 y1 y2 y3 y4 y5 y6 y7 : Nat × Nat) : va_W := [(a, .inr (0, [.ref q, .ref b, .ref c, .ref d, .ref e, .ref f, .ref g, .int 0])), (q, .inl (G.tP, 4, .inr (.inr (.inr (.inr fun i => (([14, 16, 18, 20] : List Nat)[i]?).map (kAd G [a, q, b, q2, c, c1, c2, c3, d, d1, e, e1, f, g, x0.1, x0.2, x1.1, x1.2, x2.1, x2.2, x3.1, x3.2, y0.1, y0.2, y1.1, y1.2, y2.1, y2.2, y3.1, y3.2, y4.1, y4.2, y5.1, y5.2, y6.1, y6.2, y7.1, y7.2, m, r1, r2, r3, r6, r7, r8, r10, r18, l])))))), (x0.1, .inr (1, [.ref x0.2, .int 1, .int 1])), (x0.2, kIa G 24), (x1.1, .inr (1, [.ref x1.2, .int 1, .int 1])), (x1.2, kIa G 24), (x2.1, .inr (1, [.ref x2.2, .int 1, .int 1])), (x2.2, kIa G 24), (x3.1, .inr (1, [.ref x3.2, .int 1, .int 1])), (x3.2, kIa G 24), (b, .inr (2, [.ref q2, .int 0])), (q2, .inl (G.tP, 8, .inr (.inr (.inr (.inr fun i => (([22, 24, 26, 28, 30, 32, 34, 36] : List Nat)[i]?).map (kAd G [a, q, b, q2, c, c1, c2, c3, d, d1, e, e1, f, g, x0.1, x0.2, x1.1, x1.2, x2.1, x2.2, x3.1, x3.2, y0.1, y0.2, y1.1, y1.2, y2.1, y2.2, y3.1, y3.2, y4.1, y4.2, y5.1, y5.2, y6.1, y6.2, y7.1, y7.2, m, r1, r2, r3, r6, r7, r8, r10, r18, l])))))), (y0.1, .inr (1, [.ref y0.2, .int 1, .int 1])), (y0.2, kIa G 24), (y1.1, .inr (1, [.ref y1.2, .int 1, .int 1])), (y1.2, kIa G 24), (y2.1, .inr (1, [.ref y2.2, .int 1, .int 1])), (y2.2, kIa G 24), (y3.1, .inr (1, [.ref y3.2, .int 1, .int 1])), (y3.2, kIa G 24), (y4.1, .inr (1, [.ref y4.2, .int 1, .int 1])), (y4.2, kIa G 24), (y5.1, .inr (1, [.ref y5.2, .int 1, .int 1])), (y5.2, kIa G 24), (y6.1, .inr (1, [.ref y6.2, .int 1, .int 1])), (y6.2, kIa G 24), (y7.1, .inr (1, [.ref y7.2, .int 1, .int 1])), (y7.2, kIa G 24), (c, .inr (3, [.ref c1, .ref c2, .ref c3, .int 0])), (c1, kIa G 12), (c2, kIa G 12), (c3, kIa G 12), (d, .inr (4, [.ref d1, .int 0])), (d1, kIa G 600), (e, .inr (5, [.ref e1])), (e1, kIa G 15884), (f, .inr (6, [.ref e, .ref d, .int 0, .int 0, .int 0, .int 0, .int 0])), (g, .inr (7, [.ref e, .ref d, .int 0, .int 0, .int 0, .int 0])), (m, .inr (8, [.int 0, .ref r1, .ref r2, .ref r3, .int 0, .int 0, .ref r6, .ref r7, .ref r8, .int 0, .ref r10, .int 0, .int 0, .int 0, .int 0, .int 0, .int 0, .int 0, .ref r18, .int 0, .int 0, .int 0, .int 0])), (r1, kIa G 288), (r2, kIm G 4), (r3, kIm G 4), (r6, kIa G 12), (r7, kIa G 12), (r8, kIa G 12), (r10, kIa G 600), (r18, kIa G 15883), (l, .inl (G.tL, 1, .inr (.inl fun _ => 0)))]
def kAl (a q b q2 c c1 c2 c3 d d1 e e1 f g m r1 r2 r3 r6 r7 r8 r10 r18 l : Nat) (x0 x1 x2 x3 y0 y1 y2 y3 y4 y5 y6 y7 : Nat × Nat) : List Nat := [a, q, b, q2, c, c1, c2, c3, d, d1, e, e1, f, g, x0.1, x0.2, x1.1, x1.2, x2.1, x2.2, x3.1, x3.2, y0.1, y0.2, y1.1, y1.2, y2.1, y2.2, y3.1, y3.2, y4.1, y4.2, y5.1, y5.2, y6.1, y6.2, y7.1, y7.2, m, r1, r2, r3, r6, r7, r8, r10, r18, l]
theorem kix {G : jG} (a q b q2 c c1 c2 c3 d d1 e e1 f g m r1 r2 r3 r6 r7 r8 r10 r18 l : Nat) (x0 x1 x2 x3 y0 y1 y2 y3 y4 y5 y6 y7 : Nat × Nat) : ∀ o, o < jN → (kWs G a q b q2 c c1 c2 c3 d d1 e e1 f g m r1 r2 r3 r6 r7 r8 r10 r18 l x0 x1 x2 x3 y0 y1 y2 y3 y4 y5 y6 y7)[kIx o]? = some (kAd G (kAl a q b q2 c c1 c2 c3 d d1 e e1 f g m r1 r2 r3 r6 r7 r8 r10 r18 l x0 x1 x2 x3 y0 y1 y2 y3 y4 y5 y6 y7) o, jcell (G.at (kAd G (kAl a q b q2 c c1 c2 c3 d d1 e e1 f g m r1 r2 r3 r6 r7 r8 r10 r18 l x0 x1 x2 x3 y0 y1 y2 y3 y4 y5 y6 y7))) jm0 o) := by
  intro o ho
  match o, ho with
  | 0, _ => exact kc_0 (G := G) (ad := kAd G (kAl a q b q2 c c1 c2 c3 d d1 e e1 f g m r1 r2 r3 r6 r7 r8 r10 r18 l x0 x1 x2 x3 y0 y1 y2 y3 y4 y5 y6 y7)) ▸ rfl
  | 1, _ => exact kc_1 (G := G) (ad := kAd G (kAl a q b q2 c c1 c2 c3 d d1 e e1 f g m r1 r2 r3 r6 r7 r8 r10 r18 l x0 x1 x2 x3 y0 y1 y2 y3 y4 y5 y6 y7)) ▸ rfl
  | 2, _ => exact kc_2 (G := G) (ad := kAd G (kAl a q b q2 c c1 c2 c3 d d1 e e1 f g m r1 r2 r3 r6 r7 r8 r10 r18 l x0 x1 x2 x3 y0 y1 y2 y3 y4 y5 y6 y7)) ▸ rfl
  | 3, _ => exact kc_3 (G := G) (ad := kAd G (kAl a q b q2 c c1 c2 c3 d d1 e e1 f g m r1 r2 r3 r6 r7 r8 r10 r18 l x0 x1 x2 x3 y0 y1 y2 y3 y4 y5 y6 y7)) ▸ rfl
  | 4, _ => exact kc_4 (G := G) (ad := kAd G (kAl a q b q2 c c1 c2 c3 d d1 e e1 f g m r1 r2 r3 r6 r7 r8 r10 r18 l x0 x1 x2 x3 y0 y1 y2 y3 y4 y5 y6 y7)) ▸ rfl
  | 5, _ => exact kc_5 (G := G) (ad := kAd G (kAl a q b q2 c c1 c2 c3 d d1 e e1 f g m r1 r2 r3 r6 r7 r8 r10 r18 l x0 x1 x2 x3 y0 y1 y2 y3 y4 y5 y6 y7)) ▸ rfl
  | 6, _ => exact kc_6 (G := G) (ad := kAd G (kAl a q b q2 c c1 c2 c3 d d1 e e1 f g m r1 r2 r3 r6 r7 r8 r10 r18 l x0 x1 x2 x3 y0 y1 y2 y3 y4 y5 y6 y7)) ▸ rfl
  | 7, _ => exact kc_7 (G := G) (ad := kAd G (kAl a q b q2 c c1 c2 c3 d d1 e e1 f g m r1 r2 r3 r6 r7 r8 r10 r18 l x0 x1 x2 x3 y0 y1 y2 y3 y4 y5 y6 y7)) ▸ rfl
  | 8, _ => exact kc_8 (G := G) (ad := kAd G (kAl a q b q2 c c1 c2 c3 d d1 e e1 f g m r1 r2 r3 r6 r7 r8 r10 r18 l x0 x1 x2 x3 y0 y1 y2 y3 y4 y5 y6 y7)) ▸ rfl
  | 9, _ => exact kc_9 (G := G) (ad := kAd G (kAl a q b q2 c c1 c2 c3 d d1 e e1 f g m r1 r2 r3 r6 r7 r8 r10 r18 l x0 x1 x2 x3 y0 y1 y2 y3 y4 y5 y6 y7)) ▸ rfl
  | 10, _ => exact kc_10 (G := G) (ad := kAd G (kAl a q b q2 c c1 c2 c3 d d1 e e1 f g m r1 r2 r3 r6 r7 r8 r10 r18 l x0 x1 x2 x3 y0 y1 y2 y3 y4 y5 y6 y7)) ▸ rfl
  | 11, _ => exact kc_11 (G := G) (ad := kAd G (kAl a q b q2 c c1 c2 c3 d d1 e e1 f g m r1 r2 r3 r6 r7 r8 r10 r18 l x0 x1 x2 x3 y0 y1 y2 y3 y4 y5 y6 y7)) ▸ rfl
  | 12, _ => exact kc_12 (G := G) (ad := kAd G (kAl a q b q2 c c1 c2 c3 d d1 e e1 f g m r1 r2 r3 r6 r7 r8 r10 r18 l x0 x1 x2 x3 y0 y1 y2 y3 y4 y5 y6 y7)) ▸ rfl
  | 13, _ => exact kc_13 (G := G) (ad := kAd G (kAl a q b q2 c c1 c2 c3 d d1 e e1 f g m r1 r2 r3 r6 r7 r8 r10 r18 l x0 x1 x2 x3 y0 y1 y2 y3 y4 y5 y6 y7)) ▸ rfl
  | 14, _ => exact kc_14 (G := G) (ad := kAd G (kAl a q b q2 c c1 c2 c3 d d1 e e1 f g m r1 r2 r3 r6 r7 r8 r10 r18 l x0 x1 x2 x3 y0 y1 y2 y3 y4 y5 y6 y7)) ▸ rfl
  | 15, _ => exact kc_15 (G := G) (ad := kAd G (kAl a q b q2 c c1 c2 c3 d d1 e e1 f g m r1 r2 r3 r6 r7 r8 r10 r18 l x0 x1 x2 x3 y0 y1 y2 y3 y4 y5 y6 y7)) ▸ rfl
  | 16, _ => exact kc_16 (G := G) (ad := kAd G (kAl a q b q2 c c1 c2 c3 d d1 e e1 f g m r1 r2 r3 r6 r7 r8 r10 r18 l x0 x1 x2 x3 y0 y1 y2 y3 y4 y5 y6 y7)) ▸ rfl
  | 17, _ => exact kc_17 (G := G) (ad := kAd G (kAl a q b q2 c c1 c2 c3 d d1 e e1 f g m r1 r2 r3 r6 r7 r8 r10 r18 l x0 x1 x2 x3 y0 y1 y2 y3 y4 y5 y6 y7)) ▸ rfl
  | 18, _ => exact kc_18 (G := G) (ad := kAd G (kAl a q b q2 c c1 c2 c3 d d1 e e1 f g m r1 r2 r3 r6 r7 r8 r10 r18 l x0 x1 x2 x3 y0 y1 y2 y3 y4 y5 y6 y7)) ▸ rfl
  | 19, _ => exact kc_19 (G := G) (ad := kAd G (kAl a q b q2 c c1 c2 c3 d d1 e e1 f g m r1 r2 r3 r6 r7 r8 r10 r18 l x0 x1 x2 x3 y0 y1 y2 y3 y4 y5 y6 y7)) ▸ rfl
  | 20, _ => exact kc_20 (G := G) (ad := kAd G (kAl a q b q2 c c1 c2 c3 d d1 e e1 f g m r1 r2 r3 r6 r7 r8 r10 r18 l x0 x1 x2 x3 y0 y1 y2 y3 y4 y5 y6 y7)) ▸ rfl
  | 21, _ => exact kc_21 (G := G) (ad := kAd G (kAl a q b q2 c c1 c2 c3 d d1 e e1 f g m r1 r2 r3 r6 r7 r8 r10 r18 l x0 x1 x2 x3 y0 y1 y2 y3 y4 y5 y6 y7)) ▸ rfl
  | 22, _ => exact kc_22 (G := G) (ad := kAd G (kAl a q b q2 c c1 c2 c3 d d1 e e1 f g m r1 r2 r3 r6 r7 r8 r10 r18 l x0 x1 x2 x3 y0 y1 y2 y3 y4 y5 y6 y7)) ▸ rfl
  | 23, _ => exact kc_23 (G := G) (ad := kAd G (kAl a q b q2 c c1 c2 c3 d d1 e e1 f g m r1 r2 r3 r6 r7 r8 r10 r18 l x0 x1 x2 x3 y0 y1 y2 y3 y4 y5 y6 y7)) ▸ rfl
  | 24, _ => exact kc_24 (G := G) (ad := kAd G (kAl a q b q2 c c1 c2 c3 d d1 e e1 f g m r1 r2 r3 r6 r7 r8 r10 r18 l x0 x1 x2 x3 y0 y1 y2 y3 y4 y5 y6 y7)) ▸ rfl
  | 25, _ => exact kc_25 (G := G) (ad := kAd G (kAl a q b q2 c c1 c2 c3 d d1 e e1 f g m r1 r2 r3 r6 r7 r8 r10 r18 l x0 x1 x2 x3 y0 y1 y2 y3 y4 y5 y6 y7)) ▸ rfl
  | 26, _ => exact kc_26 (G := G) (ad := kAd G (kAl a q b q2 c c1 c2 c3 d d1 e e1 f g m r1 r2 r3 r6 r7 r8 r10 r18 l x0 x1 x2 x3 y0 y1 y2 y3 y4 y5 y6 y7)) ▸ rfl
  | 27, _ => exact kc_27 (G := G) (ad := kAd G (kAl a q b q2 c c1 c2 c3 d d1 e e1 f g m r1 r2 r3 r6 r7 r8 r10 r18 l x0 x1 x2 x3 y0 y1 y2 y3 y4 y5 y6 y7)) ▸ rfl
  | 28, _ => exact kc_28 (G := G) (ad := kAd G (kAl a q b q2 c c1 c2 c3 d d1 e e1 f g m r1 r2 r3 r6 r7 r8 r10 r18 l x0 x1 x2 x3 y0 y1 y2 y3 y4 y5 y6 y7)) ▸ rfl
  | 29, _ => exact kc_29 (G := G) (ad := kAd G (kAl a q b q2 c c1 c2 c3 d d1 e e1 f g m r1 r2 r3 r6 r7 r8 r10 r18 l x0 x1 x2 x3 y0 y1 y2 y3 y4 y5 y6 y7)) ▸ rfl
  | 30, _ => exact kc_30 (G := G) (ad := kAd G (kAl a q b q2 c c1 c2 c3 d d1 e e1 f g m r1 r2 r3 r6 r7 r8 r10 r18 l x0 x1 x2 x3 y0 y1 y2 y3 y4 y5 y6 y7)) ▸ rfl
  | 31, _ => exact kc_31 (G := G) (ad := kAd G (kAl a q b q2 c c1 c2 c3 d d1 e e1 f g m r1 r2 r3 r6 r7 r8 r10 r18 l x0 x1 x2 x3 y0 y1 y2 y3 y4 y5 y6 y7)) ▸ rfl
  | 32, _ => exact kc_32 (G := G) (ad := kAd G (kAl a q b q2 c c1 c2 c3 d d1 e e1 f g m r1 r2 r3 r6 r7 r8 r10 r18 l x0 x1 x2 x3 y0 y1 y2 y3 y4 y5 y6 y7)) ▸ rfl
  | 33, _ => exact kc_33 (G := G) (ad := kAd G (kAl a q b q2 c c1 c2 c3 d d1 e e1 f g m r1 r2 r3 r6 r7 r8 r10 r18 l x0 x1 x2 x3 y0 y1 y2 y3 y4 y5 y6 y7)) ▸ rfl
  | 34, _ => exact kc_34 (G := G) (ad := kAd G (kAl a q b q2 c c1 c2 c3 d d1 e e1 f g m r1 r2 r3 r6 r7 r8 r10 r18 l x0 x1 x2 x3 y0 y1 y2 y3 y4 y5 y6 y7)) ▸ rfl
  | 35, _ => exact kc_35 (G := G) (ad := kAd G (kAl a q b q2 c c1 c2 c3 d d1 e e1 f g m r1 r2 r3 r6 r7 r8 r10 r18 l x0 x1 x2 x3 y0 y1 y2 y3 y4 y5 y6 y7)) ▸ rfl
  | 36, _ => exact kc_36 (G := G) (ad := kAd G (kAl a q b q2 c c1 c2 c3 d d1 e e1 f g m r1 r2 r3 r6 r7 r8 r10 r18 l x0 x1 x2 x3 y0 y1 y2 y3 y4 y5 y6 y7)) ▸ rfl
  | 37, _ => exact kc_37 (G := G) (ad := kAd G (kAl a q b q2 c c1 c2 c3 d d1 e e1 f g m r1 r2 r3 r6 r7 r8 r10 r18 l x0 x1 x2 x3 y0 y1 y2 y3 y4 y5 y6 y7)) ▸ rfl
  | 38, _ => exact kc_38 (G := G) (ad := kAd G (kAl a q b q2 c c1 c2 c3 d d1 e e1 f g m r1 r2 r3 r6 r7 r8 r10 r18 l x0 x1 x2 x3 y0 y1 y2 y3 y4 y5 y6 y7)) ▸ rfl
  | 39, _ => exact kc_39 (G := G) (ad := kAd G (kAl a q b q2 c c1 c2 c3 d d1 e e1 f g m r1 r2 r3 r6 r7 r8 r10 r18 l x0 x1 x2 x3 y0 y1 y2 y3 y4 y5 y6 y7)) ▸ rfl
  | 40, _ => exact kc_40 (G := G) (ad := kAd G (kAl a q b q2 c c1 c2 c3 d d1 e e1 f g m r1 r2 r3 r6 r7 r8 r10 r18 l x0 x1 x2 x3 y0 y1 y2 y3 y4 y5 y6 y7)) ▸ rfl
  | 41, _ => exact kc_41 (G := G) (ad := kAd G (kAl a q b q2 c c1 c2 c3 d d1 e e1 f g m r1 r2 r3 r6 r7 r8 r10 r18 l x0 x1 x2 x3 y0 y1 y2 y3 y4 y5 y6 y7)) ▸ rfl
  | 42, _ => exact kc_42 (G := G) (ad := kAd G (kAl a q b q2 c c1 c2 c3 d d1 e e1 f g m r1 r2 r3 r6 r7 r8 r10 r18 l x0 x1 x2 x3 y0 y1 y2 y3 y4 y5 y6 y7)) ▸ rfl
  | 43, _ => exact kc_43 (G := G) (ad := kAd G (kAl a q b q2 c c1 c2 c3 d d1 e e1 f g m r1 r2 r3 r6 r7 r8 r10 r18 l x0 x1 x2 x3 y0 y1 y2 y3 y4 y5 y6 y7)) ▸ rfl
  | 44, _ => exact kc_44 (G := G) (ad := kAd G (kAl a q b q2 c c1 c2 c3 d d1 e e1 f g m r1 r2 r3 r6 r7 r8 r10 r18 l x0 x1 x2 x3 y0 y1 y2 y3 y4 y5 y6 y7)) ▸ rfl
  | 45, _ => exact kc_45 (G := G) (ad := kAd G (kAl a q b q2 c c1 c2 c3 d d1 e e1 f g m r1 r2 r3 r6 r7 r8 r10 r18 l x0 x1 x2 x3 y0 y1 y2 y3 y4 y5 y6 y7)) ▸ rfl
  | 46, _ => exact kc_46 (G := G) (ad := kAd G (kAl a q b q2 c c1 c2 c3 d d1 e e1 f g m r1 r2 r3 r6 r7 r8 r10 r18 l x0 x1 x2 x3 y0 y1 y2 y3 y4 y5 y6 y7)) ▸ rfl
  | 47, _ => exact kc_47 (G := G) (ad := kAd G (kAl a q b q2 c c1 c2 c3 d d1 e e1 f g m r1 r2 r3 r6 r7 r8 r10 r18 l x0 x1 x2 x3 y0 y1 y2 y3 y4 y5 y6 y7)) ▸ rfl
  | o + 48, ho => exact absurd ho (by unfold jN; omega)
theorem law_in {G : jG} (htr : G.l.stackTraces = false) (hL : G.L ≤ 3072) {k n : Nat} (hk : k + 2052 ≤ 601024) (hn : n + 12312 ≤ 7293034) (a q b q2 c c1 c2 c3 d d1 e e1 f g m r1 r2 r3 r6 r7 r8 r10 r18 l : Nat) (x0 x1 x2 x3 y0 y1 y2 y3 y4 y5 y6 y7 : Nat × Nat) : kV G M_LW_law room_1 (kLw room_1) k n 23 [(0, .ref (G.ad jScr)), (1, .ref a), (2, .ref m), (3, .ref l), (4, .int 0)] [] (kWs G a q b q2 c c1 c2 c3 d d1 e e1 f g m r1 r2 r3 r6 r7 r8 r10 r18 l x0 x1 x2 x3 y0 y1 y2 y3 y4 y5 y6 y7) := by
  obtain ⟨τ, hτ⟩ := law_all (xs := G.xs) hL
  refine kv_mem (σ := jm0) (τ := τ) (ls' := [(0, .ref jScr), (1, .ref 0), (2, .ref 38), (3, .ref 47), (4, .int 0)]) (kAd G (kAl a q b q2 c c1 c2 c3 d d1 e e1 f g m r1 r2 r3 r6 r7 r8 r10 r18 l x0 x1 x2 x3 y0 y1 y2 y3 y4 y5 y6 y7)) (kAd_ag rfl) kIx (kix a q b q2 c c1 c2 c3 d d1 e e1 f g m r1 r2 r3 r6 r7 r8 r10 r18 l x0 x1 x2 x3 y0 y1 y2 y3 y4 y5 y6 y7) kIx_inj rfl ?_
  exact lp_LW_law_23 (G := G.at (kAd G (kAl a q b q2 c c1 c2 c3 d d1 e e1 f g m r1 r2 r3 r6 r7 r8 r10 r18 l x0 x1 x2 x3 y0 y1 y2 y3 y4 y5 y6 y7))) htr 513 0 k n jm0 τ 1 hk hn hτ
theorem law_pro {G : jG} (htr : G.l.stackTraces = false) (hL : G.L ≤ 3072) : kV G M_LW_law room_1 (kLw room_1) 0 0 0 [(0, .ref (G.ad jScr))] [] [] := by
  refine kv_new (ci := 0) (fs := [.null, .null, .null, .null, .null, .null, .null, .int 0]) jtIC d_LW_law_0 rfl juIC jpIC (jin1 24 rfl rfl) (jin1 25 rfl rfl) (jin1 1 rfl rfl) kdIC (by decide) (by decide) (fun a => ?_)
  refine kv_dup d_LW_law_3 rfl ?_
  refine kv_call (wr := []) (as := []) (c_IC_init a) rfl d_LW_law_4 c0_IC_init rfl rfl lk_LW_72 in_IC_init rfl (Nat.le_of_ble_eq_true rfl) ⟨by decide, by decide, by decide, by decide⟩ ?_
  rintro w1 ⟨q, ps, b, q2, ps2, c, c1, c2, c3, d, d1, e, e1, f, g, hp, hp2, rfl⟩
  obtain ⟨x0, pt0, rfl, ha0⟩ := kcons hp
  obtain ⟨x1, pt1, rfl, ha1⟩ := kcons ha0
  obtain ⟨x2, pt2, rfl, ha2⟩ := kcons ha1
  obtain ⟨x3, pt3, rfl, ha3⟩ := kcons ha2
  obtain rfl := knil ha3
  obtain ⟨y0, pu0, rfl, hb0⟩ := kcons hp2
  obtain ⟨y1, pu1, rfl, hb1⟩ := kcons hb0
  obtain ⟨y2, pu2, rfl, hb2⟩ := kcons hb1
  obtain ⟨y3, pu3, rfl, hb3⟩ := kcons hb2
  obtain ⟨y4, pu4, rfl, hb4⟩ := kcons hb3
  obtain ⟨y5, pu5, rfl, hb5⟩ := kcons hb4
  obtain ⟨y6, pu6, rfl, hb6⟩ := kcons hb5
  obtain ⟨y7, pu7, rfl, hb7⟩ := kcons hb6
  obtain rfl := knil hb7
  refine kv_astore_n (i := 1) (ls1 := [(1, .ref a), (0, .ref (G.ad jScr))]) d_LW_law_7 rfl (by decide) (jsto_new rfl) ?_
  refine kv_new (ci := 8) (fs := [.int 0, .null, .null, .null, .int 0, .int 0, .null, .null, .null, .int 0, .null, .int 0, .int 0, .int 0, .int 0, .int 0, .int 0, .int 0, .null, .int 0, .int 0, .int 0, .int 0]) jtMO d_LW_law_8 rfl juMO jpMO (jin3 234 rfl rfl) (jin3 235 rfl rfl) (jin1 10 rfl rfl) kdMO (by decide) (by decide) (fun m => ?_)
  refine kv_dup d_LW_law_11 rfl ?_
  refine kv_call (as := []) (c_MO_init m) rfl d_LW_law_12 c0_MO_init rfl rfl lk_LW_75 in_MO_init rfl (Nat.le_of_ble_eq_true rfl) ⟨by decide, by decide, by decide, by decide⟩ ?_
  rintro w2 ⟨r1, r2, r3, r6, r7, r8, r10, r18, rfl⟩
  refine kv_astore_n (i := 2) (ls1 := [(2, .ref m), (1, .ref a), (0, .ref (G.ad jScr))]) d_LW_law_15 rfl (by decide) (jsto_new rfl) ?_
  refine kv_iconst 1 d_LW_law_16 rfl ?_
  refine kv_newl d_LW_law_17 lArL (by decide) rfl (by decide) (by decide) (by decide) (fun l => ?_)
  refine kv_astore_n (i := 3) (ls1 := [(3, .ref l), (2, .ref m), (1, .ref a), (0, .ref (G.ad jScr))]) d_LW_law_19 rfl (by decide) (jsto_new rfl) ?_
  refine kv_iconst 0 d_LW_law_20 rfl ?_
  refine kv_istore (i := 4) (ls1 := [(0, .ref (G.ad jScr)), (1, .ref a), (2, .ref m), (3, .ref l), (4, .int 0)]) d_LW_law_21 (by decide) (by rintro q hq; simp only [List.mem_cons, List.not_mem_nil, or_false] at hq; rcases hq with rfl | rfl | rfl | rfl | rfl <;> first | exact Or.inl rfl | exact Or.inr ⟨by simp, rfl⟩) ?_
  rw [kpq_4 (ad := kAd G [a, q, b, q2, c, c1, c2, c3, d, d1, e, e1, f, g, x0.1, x0.2, x1.1, x1.2, x2.1, x2.2, x3.1, x3.2, y0.1, y0.2, y1.1, y1.2, y2.1, y2.2, y3.1, y3.2, y4.1, y4.2, y5.1, y5.2, y6.1, y6.2, y7.1, y7.2, m, r1, r2, r3, r6, r7, r8, r10, r18, l]) x0 x1 x2 x3 rfl rfl rfl rfl, kpq_8 (ad := kAd G [a, q, b, q2, c, c1, c2, c3, d, d1, e, e1, f, g, x0.1, x0.2, x1.1, x1.2, x2.1, x2.2, x3.1, x3.2, y0.1, y0.2, y1.1, y1.2, y2.1, y2.2, y3.1, y3.2, y4.1, y4.2, y5.1, y5.2, y6.1, y6.2, y7.1, y7.2, m, r1, r2, r3, r6, r7, r8, r10, r18, l]) y0 y1 y2 y3 y4 y5 y6 y7 rfl rfl rfl rfl rfl rfl rfl rfl]
  exact law_in htr hL (by decide) (by decide) a q b q2 c c1 c2 c3 d d1 e e1 f g m r1 r2 r3 r6 r7 r8 r10 r18 l x0 x1 x2 x3 y0 y1 y2 y3 y4 y5 y6 y7
