/-! names, by program out of the Statement: words that stay good, tables of fields, the objects by number, the methods -/
def jTW : List Cond := lw_tbl.filter goodWord
def jnst : Cond → Bool
  | .fieldLinkNest .. => true
  | .methodLinkNest .. => true
  | .declares _ => true
  | .castable .. => true
  | _ => false
def jNW : List Cond := lw_tbl.filter jnst
theorem jmem0 {w : Cond} (i : Nat) (h : (k2_sels lw_privs)[i]? = some w) : w ∈ lw_tbl := by
  have h := List.mem_of_getElem? h
  exact List.mem_append_left _ h
theorem jin0 {w : Cond} (i : Nat) (h : (k2_sels lw_privs)[i]? = some w) (hg : goodWord w = true) : w ∈ jTW := List.mem_filter.mpr ⟨jmem0 i h, hg⟩
theorem jinN0 {w : Cond} (i : Nat) (h : (k2_sels lw_privs)[i]? = some w) (hg : jnst w = true) : w ∈ jNW := List.mem_filter.mpr ⟨jmem0 i h, hg⟩
theorem jmem1 {w : Cond} (i : Nat) (h : tables_1_1[i]? = some w) : w ∈ lw_tbl := by
  have h := List.mem_of_getElem? h
  exact List.mem_append_right _ (List.mem_append_left _ h)
theorem jin1 {w : Cond} (i : Nat) (h : tables_1_1[i]? = some w) (hg : goodWord w = true) : w ∈ jTW := List.mem_filter.mpr ⟨jmem1 i h, hg⟩
theorem jinN1 {w : Cond} (i : Nat) (h : tables_1_1[i]? = some w) (hg : jnst w = true) : w ∈ jNW := List.mem_filter.mpr ⟨jmem1 i h, hg⟩
theorem jmem2 {w : Cond} (i : Nat) (h : tables_1_2[i]? = some w) : w ∈ lw_tbl := by
  have h := List.mem_of_getElem? h
  exact List.mem_append_right _ (List.mem_append_right _ (List.mem_append_left _ h))
theorem jin2 {w : Cond} (i : Nat) (h : tables_1_2[i]? = some w) (hg : goodWord w = true) : w ∈ jTW := List.mem_filter.mpr ⟨jmem2 i h, hg⟩
theorem jinN2 {w : Cond} (i : Nat) (h : tables_1_2[i]? = some w) (hg : jnst w = true) : w ∈ jNW := List.mem_filter.mpr ⟨jmem2 i h, hg⟩
theorem jmem3 {w : Cond} (i : Nat) (h : tables_1_3[i]? = some w) : w ∈ lw_tbl := by
  have h := List.mem_of_getElem? h
  exact List.mem_append_right _ (List.mem_append_right _ (List.mem_append_right _ (List.mem_append_left _ h)))
theorem jin3 {w : Cond} (i : Nat) (h : tables_1_3[i]? = some w) (hg : goodWord w = true) : w ∈ jTW := List.mem_filter.mpr ⟨jmem3 i h, hg⟩
theorem jinN3 {w : Cond} (i : Nat) (h : tables_1_3[i]? = some w) (hg : jnst w = true) : w ∈ jNW := List.mem_filter.mpr ⟨jmem3 i h, hg⟩
theorem jmem4 {w : Cond} (i : Nat) (h : tables_1_4[i]? = some w) : w ∈ lw_tbl := by
  have h := List.mem_of_getElem? h
  exact List.mem_append_right _ (List.mem_append_right _ (List.mem_append_right _ (List.mem_append_right _ (List.mem_append_left _ h))))
theorem jin4 {w : Cond} (i : Nat) (h : tables_1_4[i]? = some w) (hg : goodWord w = true) : w ∈ jTW := List.mem_filter.mpr ⟨jmem4 i h, hg⟩
theorem jinN4 {w : Cond} (i : Nat) (h : tables_1_4[i]? = some w) (hg : jnst w = true) : w ∈ jNW := List.mem_filter.mpr ⟨jmem4 i h, hg⟩
theorem jmem5 {w : Cond} (i : Nat) (h : tables_1_5[i]? = some w) : w ∈ lw_tbl := by
  have h := List.mem_of_getElem? h
  exact List.mem_append_right _ (List.mem_append_right _ (List.mem_append_right _ (List.mem_append_right _ (List.mem_append_right _ (h)))))
theorem jin5 {w : Cond} (i : Nat) (h : tables_1_5[i]? = some w) (hg : goodWord w = true) : w ∈ jTW := List.mem_filter.mpr ⟨jmem5 i h, hg⟩
theorem jinN5 {w : Cond} (i : Nat) (h : tables_1_5[i]? = some w) (hg : jnst w = true) : w ∈ jNW := List.mem_filter.mpr ⟨jmem5 i h, hg⟩
theorem jTW_good : ∀ w ∈ jTW, (w.onTables && w.keeps) = true ∨ ∃ ty, w = .arrayClass ty := fun w h => good_of_word (List.mem_filter.mp h).2
theorem jNW_on {w : Cond} (h : w ∈ jNW) : w.onTables = true := by
  have h2 := (List.mem_filter.mp h).2
  cases w <;> first | rfl | (simp [jnst] at h2)
theorem jNW_warm {s U : State} (hW : s.WarmedH U.vm) {w : Cond} (h : w ∈ jNW) (hb : w.before #[] s = true) : w.before #[] U = true := by
  have h2 := (List.mem_filter.mp h).2
  cases w <;> first | (simp [jnst] at h2; done) | exact va_Nw.warmF hW hb | exact va_Nw.warmM hW hb | exact va_Nw.warmD hW hb | exact va_Nw.warmC hW hb
def jTIC : u_T := fun k => match k with
  | 0 => ("InkCoder", "boards", "[LInkCoder$Picture;", true)
  | 1 => ("InkCoder", "symbols", "LInkCoder$SymbolRow;", true)
  | 2 => ("InkCoder", "marks", "LInkCoder$MarkRow;", true)
  | 3 => ("InkCoder", "bytes", "LInkCoder$ByteRow;", true)
  | 4 => ("InkCoder", "contexts", "LInkCoder$Contexts;", true)
  | 5 => ("InkCoder", "writer", "LInkCoder$Writer;", true)
  | 6 => ("InkCoder", "reader", "LInkCoder$Reader;", true)
  | _ => ("InkCoder", "mode", "I", false)
def jtIC : Nat → FieldType := fun k => match k with
  | 0 => .array (.object "InkCoder$Picture")
  | 1 => .object "InkCoder$SymbolRow"
  | 2 => .object "InkCoder$MarkRow"
  | 3 => .object "InkCoder$ByteRow"
  | 4 => .object "InkCoder$Contexts"
  | 5 => .object "InkCoder$Writer"
  | 6 => .object "InkCoder$Reader"
  | _ => .int
theorem jnIC : ∀ a, a < 8 → ∀ b, b < 8 → a ≠ b → (jTIC a).2.1 ≠ (jTIC b).2.1 := by decide +kernel
theorem jpIC : ∀ k, k < 8 → parseFieldDescriptor (jTIC k).2.2.1 = some (jtIC k) := by decide +kernel
theorem juIC : ∀ w ∈ u_ws "InkCoder" jTIC 8, w ∈ jTW := by decide +kernel
def jTPI : u_T := fun k => match k with
  | 0 => ("InkCoder$Picture", "rows", "[I", true)
  | 1 => ("InkCoder$Picture", "w", "I", false)
  | _ => ("InkCoder$Picture", "h", "I", false)
def jtPI : Nat → FieldType := fun k => match k with
  | 0 => .array .int
  | 1 => .int
  | _ => .int
theorem jnPI : ∀ a, a < 3 → ∀ b, b < 3 → a ≠ b → (jTPI a).2.1 ≠ (jTPI b).2.1 := by decide +kernel
theorem jpPI : ∀ k, k < 3 → parseFieldDescriptor (jTPI k).2.2.1 = some (jtPI k) := by decide +kernel
theorem juPI : ∀ w ∈ u_ws "InkCoder$Picture" jTPI 3, w ∈ jTW := by decide +kernel
def jTSR : u_T := fun k => match k with
  | 0 => ("InkCoder$SymbolRow", "pictures", "[LInkCoder$Picture;", true)
  | _ => ("InkCoder$SymbolRow", "count", "I", false)
def jtSR : Nat → FieldType := fun k => match k with
  | 0 => .array (.object "InkCoder$Picture")
  | _ => .int
theorem jnSR : ∀ a, a < 2 → ∀ b, b < 2 → a ≠ b → (jTSR a).2.1 ≠ (jTSR b).2.1 := by decide +kernel
theorem jpSR : ∀ k, k < 2 → parseFieldDescriptor (jTSR k).2.2.1 = some (jtSR k) := by decide +kernel
theorem juSR : ∀ w ∈ u_ws "InkCoder$SymbolRow" jTSR 2, w ∈ jTW := by decide +kernel
def jTMR : u_T := fun k => match k with
  | 0 => ("InkCoder$MarkRow", "symbols", "[I", true)
  | 1 => ("InkCoder$MarkRow", "s", "[I", true)
  | 2 => ("InkCoder$MarkRow", "t", "[I", true)
  | _ => ("InkCoder$MarkRow", "count", "I", false)
def jtMR : Nat → FieldType := fun k => match k with
  | 0 => .array .int
  | 1 => .array .int
  | 2 => .array .int
  | _ => .int
theorem jnMR : ∀ a, a < 4 → ∀ b, b < 4 → a ≠ b → (jTMR a).2.1 ≠ (jTMR b).2.1 := by decide +kernel
theorem jpMR : ∀ k, k < 4 → parseFieldDescriptor (jTMR k).2.2.1 = some (jtMR k) := by decide +kernel
theorem juMR : ∀ w ∈ u_ws "InkCoder$MarkRow" jTMR 4, w ∈ jTW := by decide +kernel
def jTBR : u_T := fun k => match k with
  | 0 => ("InkCoder$ByteRow", "values", "[I", true)
  | _ => ("InkCoder$ByteRow", "count", "I", false)
def jtBR : Nat → FieldType := fun k => match k with
  | 0 => .array .int
  | _ => .int
theorem jnBR : ∀ a, a < 2 → ∀ b, b < 2 → a ≠ b → (jTBR a).2.1 ≠ (jTBR b).2.1 := by decide +kernel
theorem jpBR : ∀ k, k < 2 → parseFieldDescriptor (jTBR k).2.2.1 = some (jtBR k) := by decide +kernel
theorem juBR : ∀ w ∈ u_ws "InkCoder$ByteRow" jTBR 2, w ∈ jTW := by decide +kernel
def jTCX : u_T := fun k => match k with
  | _ => ("InkCoder$Contexts", "learned", "[I", true)
def jtCX : Nat → FieldType := fun k => match k with
  | _ => .array .int
theorem jnCX : ∀ a, a < 1 → ∀ b, b < 1 → a ≠ b → (jTCX a).2.1 ≠ (jTCX b).2.1 := by decide +kernel
theorem jpCX : ∀ k, k < 1 → parseFieldDescriptor (jTCX k).2.2.1 = some (jtCX k) := by decide +kernel
theorem juCX : ∀ w ∈ u_ws "InkCoder$Contexts" jTCX 1, w ∈ jTW := by decide +kernel
def jTWR : u_T := fun k => match k with
  | 0 => ("InkCoder$Coder", "contexts", "LInkCoder$Contexts;", true)
  | 1 => ("InkCoder$Coder", "bytes", "LInkCoder$ByteRow;", true)
  | 2 => ("InkCoder$Coder", "a", "I", false)
  | 3 => ("InkCoder$Coder", "c", "I", false)
  | 4 => ("InkCoder$Coder", "n", "I", false)
  | 5 => ("InkCoder$Writer", "last", "I", false)
  | _ => ("InkCoder$Writer", "lastIsKept", "Z", false)
def jtWR : Nat → FieldType := fun k => match k with
  | 0 => .object "InkCoder$Contexts"
  | 1 => .object "InkCoder$ByteRow"
  | 2 => .int
  | 3 => .int
  | 4 => .int
  | 5 => .int
  | _ => .boolean
theorem jnWR : ∀ a, a < 7 → ∀ b, b < 7 → a ≠ b → (jTWR a).2.1 ≠ (jTWR b).2.1 := by decide +kernel
theorem jpWR : ∀ k, k < 7 → parseFieldDescriptor (jTWR k).2.2.1 = some (jtWR k) := by decide +kernel
theorem juWR : ∀ w ∈ u_ws "InkCoder$Writer" jTWR 7, w ∈ jTW := by decide +kernel
def jTRD : u_T := fun k => match k with
  | 0 => ("InkCoder$Coder", "contexts", "LInkCoder$Contexts;", true)
  | 1 => ("InkCoder$Coder", "bytes", "LInkCoder$ByteRow;", true)
  | 2 => ("InkCoder$Coder", "a", "I", false)
  | 3 => ("InkCoder$Coder", "c", "I", false)
  | 4 => ("InkCoder$Coder", "n", "I", false)
  | _ => ("InkCoder$Reader", "place", "I", false)
def jtRD : Nat → FieldType := fun k => match k with
  | 0 => .object "InkCoder$Contexts"
  | 1 => .object "InkCoder$ByteRow"
  | 2 => .int
  | 3 => .int
  | 4 => .int
  | _ => .int
theorem jnRD : ∀ a, a < 6 → ∀ b, b < 6 → a ≠ b → (jTRD a).2.1 ≠ (jTRD b).2.1 := by decide +kernel
theorem jpRD : ∀ k, k < 6 → parseFieldDescriptor (jTRD k).2.2.1 = some (jtRD k) := by decide +kernel
theorem juRD : ∀ w ∈ u_ws "InkCoder$Reader" jTRD 6, w ∈ jTW := by decide +kernel
def jTMO : u_T := fun k => match k with
  | 0 => ("InkCoderModel", "thrown", "I", false)
  | 1 => ("InkCoderModel", "rows", "[I", true)
  | 2 => ("InkCoderModel", "wide", "[I", true)
  | 3 => ("InkCoderModel", "high", "[I", true)
  | 4 => ("InkCoderModel", "symbols", "I", false)
  | 5 => ("InkCoderModel", "marks", "I", false)
  | 6 => ("InkCoderModel", "markSymbol", "[I", true)
  | 7 => ("InkCoderModel", "markS", "[I", true)
  | 8 => ("InkCoderModel", "markT", "[I", true)
  | 9 => ("InkCoderModel", "bytes", "I", false)
  | 10 => ("InkCoderModel", "code", "[I", true)
  | 11 => ("InkCoderModel", "state", "I", false)
  | 12 => ("InkCoderModel", "a", "I", false)
  | 13 => ("InkCoderModel", "c", "I", false)
  | 14 => ("InkCoderModel", "n", "I", false)
  | 15 => ("InkCoderModel", "last", "I", false)
  | 16 => ("InkCoderModel", "lastAt", "I", false)
  | 17 => ("InkCoderModel", "place", "I", false)
  | 18 => ("InkCoderModel", "learnt", "[I", true)
  | 19 => ("InkCoderModel", "\x72", "I", false)
  | 20 => ("InkCoderModel", "none", "Z", false)
  | 21 => ("InkCoderModel", "corner", "I", false)
  | _ => ("InkCoderModel", "turned", "Z", false)
def jtMO : Nat → FieldType := fun k => match k with
  | 0 => .int
  | 1 => .array .int
  | 2 => .array .int
  | 3 => .array .int
  | 4 => .int
  | 5 => .int
  | 6 => .array .int
  | 7 => .array .int
  | 8 => .array .int
  | 9 => .int
  | 10 => .array .int
  | 11 => .int
  | 12 => .int
  | 13 => .int
  | 14 => .int
  | 15 => .int
  | 16 => .int
  | 17 => .int
  | 18 => .array .int
  | 19 => .int
  | 20 => .boolean
  | 21 => .int
  | _ => .boolean
theorem jnMO : ∀ a, a < 23 → ∀ b, b < 23 → a ≠ b → (jTMO a).2.1 ≠ (jTMO b).2.1 := by decide +kernel
theorem jpMO : ∀ k, k < 23 → parseFieldDescriptor (jTMO k).2.2.1 = some (jtMO k) := by decide +kernel
theorem juMO : ∀ w ∈ u_ws "InkCoderModel" jTMO 23, w ∈ jTW := by decide +kernel
abbrev jCl : List vw_C := [("InkCoder", jTIC, 8), ("InkCoder$Picture", jTPI, 3), ("InkCoder$SymbolRow", jTSR, 2), ("InkCoder$MarkRow", jTMR, 4), ("InkCoder$ByteRow", jTBR, 2), ("InkCoder$Contexts", jTCX, 1), ("InkCoder$Writer", jTWR, 7), ("InkCoder$Reader", jTRD, 6), ("InkCoderModel", jTMO, 23)]
/-- the objects: 0 the coder, 1 its boards, 2 the symbols, 3 their pictures, 4..7 the marks, 8, 9 the bytes, 10, 11 the contexts, 12 the writer, 13 the reader, 14 + 2 p, 15 + 2 p the pictures (p < 12), 38..46 the reference, 47 the long array of the law -/
def jN : Nat := 48
def jScr : Nat := 60
abbrev jShp : Type := (Nat × List (Option Nat)) ⊕ (Nat ⊕ (List Nat ⊕ Unit))
def jshp (o : Nat) : jShp := if 14 ≤ o ∧ o < 38 then (if o % 2 = 0 then .inl (1, [some (o + 1), none, none]) else .inr (.inl 24)) else match o with
  | 0 => .inl (0, [some 1, some 2, some 4, some 8, some 10, some 12, some 13, none])
  | 1 => .inr (.inr (.inl [14, 16, 18, 20]))
  | 2 => .inl (2, [some 3, none])
  | 3 => .inr (.inr (.inl [22, 24, 26, 28, 30, 32, 34, 36]))
  | 4 => .inl (3, [some 5, some 6, some 7, none])
  | 5 => .inr (.inl 12)
  | 6 => .inr (.inl 12)
  | 7 => .inr (.inl 12)
  | 8 => .inl (4, [some 9, none])
  | 9 => .inr (.inl 600)
  | 10 => .inl (5, [some 11])
  | 11 => .inr (.inl 15884)
  | 12 => .inl (6, [some 10, some 8, none, none, none, none, none])
  | 13 => .inl (7, [some 10, some 8, none, none, none, none])
  | 38 => .inl (8, [none, some 39, some 40, some 41, none, none, some 42, some 43, some 44, none, some 45, none, none, none, none, none, none, none, some 46, none, none, none, none])
  | 39 => .inr (.inl 288)
  | 40 => .inr (.inl 12)
  | 41 => .inr (.inl 12)
  | 42 => .inr (.inl 12)
  | 43 => .inr (.inl 12)
  | 44 => .inr (.inl 12)
  | 45 => .inr (.inl 600)
  | 46 => .inr (.inl 15883)
  | _ => .inr (.inr (.inr ()))
theorem jshp_pic {p : Nat} (h : p < 12) : jshp (14 + 2 * p) = .inl (1, [some (15 + 2 * p), none, none]) := by
  unfold jshp
  rw [if_pos ⟨by omega, by omega⟩, if_pos (by omega), show 14 + 2 * p + 1 = 15 + 2 * p by omega]
theorem jshp_row {p : Nat} (h : p < 12) : jshp (15 + 2 * p) = .inr (.inl 24) := by
  unfold jshp
  rw [if_pos ⟨by omega, by omega⟩, if_neg (by omega)]
abbrev jS_SIZES : String × String × Nat × List Int32 := ("InkCoder$Contexts", "SIZES", 50, [22017, 13313, 6145, 2753, 1313, 545, 22017, 21505, 18433, 14337, 12289, 9217, 7169, 5633, 22017, 21505, 20737, 18433, 14337, 13313, 12289, 10241, 9217, 8705, 7169, 6145, 5633, 5121, 4609, 4353, 2753, 2497, 2209, 1313, 1089, 673, 545, 321, 273, 133, 73, 37, 21, 9, 5, 1, 22017])
abbrev jS_NEXT : String × String × Nat × List Int32 := ("InkCoder$Contexts", "NEXT", 51, [1, 2, 3, 4, 5, 38, 7, 8, 9, 10, 11, 12, 13, 29, 15, 16, 17, 18, 19, 20, 21, 22, 23, 24, 25, 26, 27, 28, 29, 30, 31, 32, 33, 34, 35, 36, 37, 38, 39, 40, 41, 42, 43, 44, 45, 45, 46])
abbrev jS_LESS : String × String × Nat × List Int32 := ("InkCoder$Contexts", "LESS", 52, [1, 6, 9, 12, 29, 33, 6, 14, 14, 14, 17, 18, 20, 21, 14, 14, 15, 16, 17, 18, 19, 19, 20, 21, 22, 23, 24, 25, 26, 27, 28, 29, 30, 31, 32, 33, 34, 35, 36, 37, 38, 39, 40, 41, 42, 43, 46])
abbrev jS_STARTS : String × String × Nat × List Int32 := ("InkCoder$Numbers", "STARTS", 53, [0, 4, 20, 84, 340, 4436])
abbrev jS_BITS : String × String × Nat × List Int32 := ("InkCoder$Numbers", "BITS", 54, [2, 4, 6, 8, 12, 32])
def jSt : List (String × String × Nat × List Int32) := [jS_SIZES, jS_NEXT, jS_LESS, jS_STARTS, jS_BITS]
def jX (x : Nat) : String := match x with
  | 0 => "java/lang/IndexOutOfBoundsException"
  | 1 => "java/lang/IllegalArgumentException"
  | 2 => "java/lang/IllegalStateException"
  | _ => "java/lang/UnsupportedOperationException"
def jNC : List (String × String) := [("java/lang/IndexOutOfBoundsException", "java/lang/IllegalArgumentException"), ("java/lang/IndexOutOfBoundsException", "java/lang/IllegalStateException"), ("java/lang/IndexOutOfBoundsException", "java/lang/UnsupportedOperationException"), ("java/lang/IllegalArgumentException", "java/lang/IndexOutOfBoundsException"), ("java/lang/IllegalArgumentException", "java/lang/IllegalStateException"), ("java/lang/IllegalArgumentException", "java/lang/UnsupportedOperationException"), ("java/lang/IllegalStateException", "java/lang/IndexOutOfBoundsException"), ("java/lang/IllegalStateException", "java/lang/IllegalArgumentException"), ("java/lang/IllegalStateException", "java/lang/UnsupportedOperationException"), ("java/lang/UnsupportedOperationException", "java/lang/IndexOutOfBoundsException"), ("java/lang/UnsupportedOperationException", "java/lang/IllegalArgumentException"), ("java/lang/UnsupportedOperationException", "java/lang/IllegalStateException")]
def jr (d k n : Nat) : Room := { frames := d, cells := k, slots := n, locals := 40 * d }
