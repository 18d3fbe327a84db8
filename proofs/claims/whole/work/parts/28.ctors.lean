/-! constructors -/
def M_PI_init : jM := ("InkCoder$Picture", ⟨"InkCoder$Picture", "<init>", "()V"⟩, prog_7_method_1_code, 1, none, [])
abbrev tl_PI_init : List (Nat × Instr × Nat) := [(0, .aload_n 0, 1), (1, .invokespecial 3, 3), (4, .aload_n 0, 1), (5, .bipush (24), 2), (7, .newarray .int, 2), (9, .putfield 9, 3), (12, .aload_n 0, 1), (13, .iconst (1), 1), (14, .putfield 15, 3), (17, .aload_n 0, 1), (18, .iconst (1), 1), (19, .putfield 19, 3), (22, .return_, 1)]
theorem tb_PI_init : ∀ q ∈ tl_PI_init, decode M_PI_init.cc q.1 = .ok q.2 := by decide +kernel
theorem d_PI_init_0 : decode M_PI_init.cc 0 = .ok (.aload_n 0, 1) := tb_PI_init (0, .aload_n 0, 1) (List.mem_of_getElem? (i := 0) rfl)
theorem d_PI_init_1 : decode M_PI_init.cc 1 = .ok (.invokespecial 3, 3) := tb_PI_init (1, .invokespecial 3, 3) (List.mem_of_getElem? (i := 1) rfl)
theorem d_PI_init_4 : decode M_PI_init.cc 4 = .ok (.aload_n 0, 1) := tb_PI_init (4, .aload_n 0, 1) (List.mem_of_getElem? (i := 2) rfl)
theorem d_PI_init_5 : decode M_PI_init.cc 5 = .ok (.bipush (24), 2) := tb_PI_init (5, .bipush (24), 2) (List.mem_of_getElem? (i := 3) rfl)
theorem d_PI_init_7 : decode M_PI_init.cc 7 = .ok (.newarray .int, 2) := tb_PI_init (7, .newarray .int, 2) (List.mem_of_getElem? (i := 4) rfl)
theorem d_PI_init_9 : decode M_PI_init.cc 9 = .ok (.putfield 9, 3) := tb_PI_init (9, .putfield 9, 3) (List.mem_of_getElem? (i := 5) rfl)
theorem d_PI_init_12 : decode M_PI_init.cc 12 = .ok (.aload_n 0, 1) := tb_PI_init (12, .aload_n 0, 1) (List.mem_of_getElem? (i := 6) rfl)
theorem d_PI_init_13 : decode M_PI_init.cc 13 = .ok (.iconst (1), 1) := tb_PI_init (13, .iconst (1), 1) (List.mem_of_getElem? (i := 7) rfl)
theorem d_PI_init_14 : decode M_PI_init.cc 14 = .ok (.putfield 15, 3) := tb_PI_init (14, .putfield 15, 3) (List.mem_of_getElem? (i := 8) rfl)
theorem d_PI_init_17 : decode M_PI_init.cc 17 = .ok (.aload_n 0, 1) := tb_PI_init (17, .aload_n 0, 1) (List.mem_of_getElem? (i := 9) rfl)
theorem d_PI_init_18 : decode M_PI_init.cc 18 = .ok (.iconst (1), 1) := tb_PI_init (18, .iconst (1), 1) (List.mem_of_getElem? (i := 10) rfl)
theorem d_PI_init_19 : decode M_PI_init.cc 19 = .ok (.putfield 19, 3) := tb_PI_init (19, .putfield 19, 3) (List.mem_of_getElem? (i := 11) rfl)
theorem d_PI_init_22 : decode M_PI_init.cc 22 = .ok (.return_, 1) := tb_PI_init (22, .return_, 1) (List.mem_of_getElem? (i := 12) rfl)
theorem c0_PI_init : jC0 M_PI_init 0 := ⟨rfl, jin1 37 rfl rfl, jin1 2 rfl rfl, ⟨by decide, by decide⟩, by decide +kernel⟩
theorem in_PI_init : Cond.instanceMethod M_PI_init.y ∈ jTW := jin1 36 rfl rfl
def M_SR_init : jM := ("InkCoder$SymbolRow", ⟨"InkCoder$SymbolRow", "<init>", "()V"⟩, prog_10_method_1_code, 2, none, [])
abbrev tl_SR_init : List (Nat × Instr × Nat) := [(0, .aload_n 0, 1), (1, .invokespecial 1, 3), (4, .aload_n 0, 1), (5, .bipush (8), 2), (7, .anewarray 9, 3), (10, .putfield 11, 3), (13, .iconst (0), 1), (14, .istore_n 1, 1), (15, .iload_n 1, 1), (16, .bipush (8), 2), (18, .if_icmp .ge (22), 3), (21, .aload_n 0, 1), (22, .getfield 11, 3), (25, .iload_n 1, 1), (26, .new 9, 3), (29, .dup, 1), (30, .invokespecial 15, 3), (33, .aastore, 1), (34, .iinc 1 (1), 3), (37, .goto (-22), 3), (40, .return_, 1)]
theorem tb_SR_init : ∀ q ∈ tl_SR_init, decode M_SR_init.cc q.1 = .ok q.2 := by decide +kernel
theorem d_SR_init_0 : decode M_SR_init.cc 0 = .ok (.aload_n 0, 1) := tb_SR_init (0, .aload_n 0, 1) (List.mem_of_getElem? (i := 0) rfl)
theorem d_SR_init_1 : decode M_SR_init.cc 1 = .ok (.invokespecial 1, 3) := tb_SR_init (1, .invokespecial 1, 3) (List.mem_of_getElem? (i := 1) rfl)
theorem d_SR_init_4 : decode M_SR_init.cc 4 = .ok (.aload_n 0, 1) := tb_SR_init (4, .aload_n 0, 1) (List.mem_of_getElem? (i := 2) rfl)
theorem d_SR_init_5 : decode M_SR_init.cc 5 = .ok (.bipush (8), 2) := tb_SR_init (5, .bipush (8), 2) (List.mem_of_getElem? (i := 3) rfl)
theorem d_SR_init_7 : decode M_SR_init.cc 7 = .ok (.anewarray 9, 3) := tb_SR_init (7, .anewarray 9, 3) (List.mem_of_getElem? (i := 4) rfl)
theorem d_SR_init_10 : decode M_SR_init.cc 10 = .ok (.putfield 11, 3) := tb_SR_init (10, .putfield 11, 3) (List.mem_of_getElem? (i := 5) rfl)
theorem d_SR_init_13 : decode M_SR_init.cc 13 = .ok (.iconst (0), 1) := tb_SR_init (13, .iconst (0), 1) (List.mem_of_getElem? (i := 6) rfl)
theorem d_SR_init_14 : decode M_SR_init.cc 14 = .ok (.istore_n 1, 1) := tb_SR_init (14, .istore_n 1, 1) (List.mem_of_getElem? (i := 7) rfl)
theorem d_SR_init_15 : decode M_SR_init.cc 15 = .ok (.iload_n 1, 1) := tb_SR_init (15, .iload_n 1, 1) (List.mem_of_getElem? (i := 8) rfl)
theorem d_SR_init_16 : decode M_SR_init.cc 16 = .ok (.bipush (8), 2) := tb_SR_init (16, .bipush (8), 2) (List.mem_of_getElem? (i := 9) rfl)
theorem d_SR_init_18 : decode M_SR_init.cc 18 = .ok (.if_icmp .ge (22), 3) := tb_SR_init (18, .if_icmp .ge (22), 3) (List.mem_of_getElem? (i := 10) rfl)
theorem d_SR_init_21 : decode M_SR_init.cc 21 = .ok (.aload_n 0, 1) := tb_SR_init (21, .aload_n 0, 1) (List.mem_of_getElem? (i := 11) rfl)
theorem d_SR_init_22 : decode M_SR_init.cc 22 = .ok (.getfield 11, 3) := tb_SR_init (22, .getfield 11, 3) (List.mem_of_getElem? (i := 12) rfl)
theorem d_SR_init_25 : decode M_SR_init.cc 25 = .ok (.iload_n 1, 1) := tb_SR_init (25, .iload_n 1, 1) (List.mem_of_getElem? (i := 13) rfl)
theorem d_SR_init_26 : decode M_SR_init.cc 26 = .ok (.new 9, 3) := tb_SR_init (26, .new 9, 3) (List.mem_of_getElem? (i := 14) rfl)
theorem d_SR_init_29 : decode M_SR_init.cc 29 = .ok (.dup, 1) := tb_SR_init (29, .dup, 1) (List.mem_of_getElem? (i := 15) rfl)
theorem d_SR_init_30 : decode M_SR_init.cc 30 = .ok (.invokespecial 15, 3) := tb_SR_init (30, .invokespecial 15, 3) (List.mem_of_getElem? (i := 16) rfl)
theorem d_SR_init_33 : decode M_SR_init.cc 33 = .ok (.aastore, 1) := tb_SR_init (33, .aastore, 1) (List.mem_of_getElem? (i := 17) rfl)
theorem d_SR_init_34 : decode M_SR_init.cc 34 = .ok (.iinc 1 (1), 3) := tb_SR_init (34, .iinc 1 (1), 3) (List.mem_of_getElem? (i := 18) rfl)
theorem d_SR_init_37 : decode M_SR_init.cc 37 = .ok (.goto (-22), 3) := tb_SR_init (37, .goto (-22), 3) (List.mem_of_getElem? (i := 19) rfl)
theorem d_SR_init_40 : decode M_SR_init.cc 40 = .ok (.return_, 1) := tb_SR_init (40, .return_, 1) (List.mem_of_getElem? (i := 20) rfl)
theorem c0_SR_init : jC0 M_SR_init 0 := ⟨rfl, jin1 59 rfl rfl, jin1 3 rfl rfl, ⟨by decide, by decide⟩, by decide +kernel⟩
theorem in_SR_init : Cond.instanceMethod M_SR_init.y ∈ jTW := jin1 58 rfl rfl
def M_MR_init : jM := ("InkCoder$MarkRow", ⟨"InkCoder$MarkRow", "<init>", "()V"⟩, prog_5_method_1_code, 1, none, [])
abbrev tl_MR_init : List (Nat × Instr × Nat) := [(0, .aload_n 0, 1), (1, .invokespecial 1, 3), (4, .aload_n 0, 1), (5, .bipush (12), 2), (7, .newarray .int, 2), (9, .putfield 9, 3), (12, .aload_n 0, 1), (13, .bipush (12), 2), (15, .newarray .int, 2), (17, .putfield 13, 3), (20, .aload_n 0, 1), (21, .bipush (12), 2), (23, .newarray .int, 2), (25, .putfield 16, 3), (28, .return_, 1)]
theorem tb_MR_init : ∀ q ∈ tl_MR_init, decode M_MR_init.cc q.1 = .ok q.2 := by decide +kernel
theorem d_MR_init_0 : decode M_MR_init.cc 0 = .ok (.aload_n 0, 1) := tb_MR_init (0, .aload_n 0, 1) (List.mem_of_getElem? (i := 0) rfl)
theorem d_MR_init_1 : decode M_MR_init.cc 1 = .ok (.invokespecial 1, 3) := tb_MR_init (1, .invokespecial 1, 3) (List.mem_of_getElem? (i := 1) rfl)
theorem d_MR_init_4 : decode M_MR_init.cc 4 = .ok (.aload_n 0, 1) := tb_MR_init (4, .aload_n 0, 1) (List.mem_of_getElem? (i := 2) rfl)
theorem d_MR_init_5 : decode M_MR_init.cc 5 = .ok (.bipush (12), 2) := tb_MR_init (5, .bipush (12), 2) (List.mem_of_getElem? (i := 3) rfl)
theorem d_MR_init_7 : decode M_MR_init.cc 7 = .ok (.newarray .int, 2) := tb_MR_init (7, .newarray .int, 2) (List.mem_of_getElem? (i := 4) rfl)
theorem d_MR_init_9 : decode M_MR_init.cc 9 = .ok (.putfield 9, 3) := tb_MR_init (9, .putfield 9, 3) (List.mem_of_getElem? (i := 5) rfl)
theorem d_MR_init_12 : decode M_MR_init.cc 12 = .ok (.aload_n 0, 1) := tb_MR_init (12, .aload_n 0, 1) (List.mem_of_getElem? (i := 6) rfl)
theorem d_MR_init_13 : decode M_MR_init.cc 13 = .ok (.bipush (12), 2) := tb_MR_init (13, .bipush (12), 2) (List.mem_of_getElem? (i := 7) rfl)
theorem d_MR_init_15 : decode M_MR_init.cc 15 = .ok (.newarray .int, 2) := tb_MR_init (15, .newarray .int, 2) (List.mem_of_getElem? (i := 8) rfl)
theorem d_MR_init_17 : decode M_MR_init.cc 17 = .ok (.putfield 13, 3) := tb_MR_init (17, .putfield 13, 3) (List.mem_of_getElem? (i := 9) rfl)
theorem d_MR_init_20 : decode M_MR_init.cc 20 = .ok (.aload_n 0, 1) := tb_MR_init (20, .aload_n 0, 1) (List.mem_of_getElem? (i := 10) rfl)
theorem d_MR_init_21 : decode M_MR_init.cc 21 = .ok (.bipush (12), 2) := tb_MR_init (21, .bipush (12), 2) (List.mem_of_getElem? (i := 11) rfl)
theorem d_MR_init_23 : decode M_MR_init.cc 23 = .ok (.newarray .int, 2) := tb_MR_init (23, .newarray .int, 2) (List.mem_of_getElem? (i := 12) rfl)
theorem d_MR_init_25 : decode M_MR_init.cc 25 = .ok (.putfield 16, 3) := tb_MR_init (25, .putfield 16, 3) (List.mem_of_getElem? (i := 13) rfl)
theorem d_MR_init_28 : decode M_MR_init.cc 28 = .ok (.return_, 1) := tb_MR_init (28, .return_, 1) (List.mem_of_getElem? (i := 14) rfl)
theorem c0_MR_init : jC0 M_MR_init 0 := ⟨rfl, jin1 75 rfl rfl, jin1 4 rfl rfl, ⟨by decide, by decide⟩, by decide +kernel⟩
theorem in_MR_init : Cond.instanceMethod M_MR_init.y ∈ jTW := jin1 74 rfl rfl
def M_BR_init : jM := ("InkCoder$ByteRow", ⟨"InkCoder$ByteRow", "<init>", "()V"⟩, prog_2_method_1_code, 1, none, [])
abbrev tl_BR_init : List (Nat × Instr × Nat) := [(0, .aload_n 0, 1), (1, .invokespecial 1, 3), (4, .aload_n 0, 1), (5, .sipush (600), 3), (8, .newarray .int, 2), (10, .putfield 9, 3), (13, .return_, 1)]
theorem tb_BR_init : ∀ q ∈ tl_BR_init, decode M_BR_init.cc q.1 = .ok q.2 := by decide +kernel
theorem d_BR_init_0 : decode M_BR_init.cc 0 = .ok (.aload_n 0, 1) := tb_BR_init (0, .aload_n 0, 1) (List.mem_of_getElem? (i := 0) rfl)
theorem d_BR_init_1 : decode M_BR_init.cc 1 = .ok (.invokespecial 1, 3) := tb_BR_init (1, .invokespecial 1, 3) (List.mem_of_getElem? (i := 1) rfl)
theorem d_BR_init_4 : decode M_BR_init.cc 4 = .ok (.aload_n 0, 1) := tb_BR_init (4, .aload_n 0, 1) (List.mem_of_getElem? (i := 2) rfl)
theorem d_BR_init_5 : decode M_BR_init.cc 5 = .ok (.sipush (600), 3) := tb_BR_init (5, .sipush (600), 3) (List.mem_of_getElem? (i := 3) rfl)
theorem d_BR_init_8 : decode M_BR_init.cc 8 = .ok (.newarray .int, 2) := tb_BR_init (8, .newarray .int, 2) (List.mem_of_getElem? (i := 4) rfl)
theorem d_BR_init_10 : decode M_BR_init.cc 10 = .ok (.putfield 9, 3) := tb_BR_init (10, .putfield 9, 3) (List.mem_of_getElem? (i := 5) rfl)
theorem d_BR_init_13 : decode M_BR_init.cc 13 = .ok (.return_, 1) := tb_BR_init (13, .return_, 1) (List.mem_of_getElem? (i := 6) rfl)
theorem c0_BR_init : jC0 M_BR_init 0 := ⟨rfl, jin1 98 rfl rfl, jin1 5 rfl rfl, ⟨by decide, by decide⟩, by decide +kernel⟩
theorem in_BR_init : Cond.instanceMethod M_BR_init.y ∈ jTW := jin1 97 rfl rfl
def M_CX_init : jM := ("InkCoder$Contexts", ⟨"InkCoder$Contexts", "<init>", "()V"⟩, prog_4_method_1_code, 1, none, [])
abbrev tl_CX_init : List (Nat × Instr × Nat) := [(0, .aload_n 0, 1), (1, .invokespecial 1, 3), (4, .aload_n 0, 1), (5, .sipush (15884), 3), (8, .newarray .int, 2), (10, .putfield 9, 3), (13, .return_, 1)]
theorem tb_CX_init : ∀ q ∈ tl_CX_init, decode M_CX_init.cc q.1 = .ok q.2 := by decide +kernel
theorem d_CX_init_0 : decode M_CX_init.cc 0 = .ok (.aload_n 0, 1) := tb_CX_init (0, .aload_n 0, 1) (List.mem_of_getElem? (i := 0) rfl)
theorem d_CX_init_1 : decode M_CX_init.cc 1 = .ok (.invokespecial 1, 3) := tb_CX_init (1, .invokespecial 1, 3) (List.mem_of_getElem? (i := 1) rfl)
theorem d_CX_init_4 : decode M_CX_init.cc 4 = .ok (.aload_n 0, 1) := tb_CX_init (4, .aload_n 0, 1) (List.mem_of_getElem? (i := 2) rfl)
theorem d_CX_init_5 : decode M_CX_init.cc 5 = .ok (.sipush (15884), 3) := tb_CX_init (5, .sipush (15884), 3) (List.mem_of_getElem? (i := 3) rfl)
theorem d_CX_init_8 : decode M_CX_init.cc 8 = .ok (.newarray .int, 2) := tb_CX_init (8, .newarray .int, 2) (List.mem_of_getElem? (i := 4) rfl)
theorem d_CX_init_10 : decode M_CX_init.cc 10 = .ok (.putfield 9, 3) := tb_CX_init (10, .putfield 9, 3) (List.mem_of_getElem? (i := 5) rfl)
theorem d_CX_init_13 : decode M_CX_init.cc 13 = .ok (.return_, 1) := tb_CX_init (13, .return_, 1) (List.mem_of_getElem? (i := 6) rfl)
theorem c0_CX_init : jC0 M_CX_init 0 := ⟨rfl, jin1 113 rfl rfl, jin1 6 rfl rfl, ⟨by decide, by decide⟩, by decide +kernel⟩
theorem in_CX_init : Cond.instanceMethod M_CX_init.y ∈ jTW := jin1 112 rfl rfl
def M_CO_init : jM := ("InkCoder$Coder", ⟨"InkCoder$Coder", "<init>", "(LInkCoder$Contexts;LInkCoder$ByteRow;)V"⟩, prog_3_method_1_code, 3, none, [])
abbrev tl_CO_init : List (Nat × Instr × Nat) := [(0, .aload_n 0, 1), (1, .invokespecial 1, 3), (4, .aload_n 0, 1), (5, .aload_n 1, 1), (6, .putfield 7, 3), (9, .aload_n 0, 1), (10, .aload_n 2, 1), (11, .putfield 13, 3), (14, .return_, 1)]
theorem tb_CO_init : ∀ q ∈ tl_CO_init, decode M_CO_init.cc q.1 = .ok q.2 := by decide +kernel
theorem d_CO_init_0 : decode M_CO_init.cc 0 = .ok (.aload_n 0, 1) := tb_CO_init (0, .aload_n 0, 1) (List.mem_of_getElem? (i := 0) rfl)
theorem d_CO_init_1 : decode M_CO_init.cc 1 = .ok (.invokespecial 1, 3) := tb_CO_init (1, .invokespecial 1, 3) (List.mem_of_getElem? (i := 1) rfl)
theorem d_CO_init_4 : decode M_CO_init.cc 4 = .ok (.aload_n 0, 1) := tb_CO_init (4, .aload_n 0, 1) (List.mem_of_getElem? (i := 2) rfl)
theorem d_CO_init_5 : decode M_CO_init.cc 5 = .ok (.aload_n 1, 1) := tb_CO_init (5, .aload_n 1, 1) (List.mem_of_getElem? (i := 3) rfl)
theorem d_CO_init_6 : decode M_CO_init.cc 6 = .ok (.putfield 7, 3) := tb_CO_init (6, .putfield 7, 3) (List.mem_of_getElem? (i := 4) rfl)
theorem d_CO_init_9 : decode M_CO_init.cc 9 = .ok (.aload_n 0, 1) := tb_CO_init (9, .aload_n 0, 1) (List.mem_of_getElem? (i := 5) rfl)
theorem d_CO_init_10 : decode M_CO_init.cc 10 = .ok (.aload_n 2, 1) := tb_CO_init (10, .aload_n 2, 1) (List.mem_of_getElem? (i := 6) rfl)
theorem d_CO_init_11 : decode M_CO_init.cc 11 = .ok (.putfield 13, 3) := tb_CO_init (11, .putfield 13, 3) (List.mem_of_getElem? (i := 7) rfl)
theorem d_CO_init_14 : decode M_CO_init.cc 14 = .ok (.return_, 1) := tb_CO_init (14, .return_, 1) (List.mem_of_getElem? (i := 8) rfl)
theorem c0_CO_init : jC0 M_CO_init 2 := ⟨rfl, jin1 126 rfl rfl, jin1 7 rfl rfl, ⟨by decide, by decide⟩, by decide +kernel⟩
theorem in_CO_init : Cond.instanceMethod M_CO_init.y ∈ jTW := jin1 125 rfl rfl
def M_WR_init : jM := ("InkCoder$Writer", ⟨"InkCoder$Writer", "<init>", "(LInkCoder$Contexts;LInkCoder$ByteRow;)V"⟩, prog_11_method_1_code, 3, none, [])
abbrev tl_WR_init : List (Nat × Instr × Nat) := [(0, .aload_n 0, 1), (1, .aload_n 1, 1), (2, .aload_n 2, 1), (3, .invokespecial 1, 3), (6, .return_, 1)]
theorem tb_WR_init : ∀ q ∈ tl_WR_init, decode M_WR_init.cc q.1 = .ok q.2 := by decide +kernel
theorem d_WR_init_0 : decode M_WR_init.cc 0 = .ok (.aload_n 0, 1) := tb_WR_init (0, .aload_n 0, 1) (List.mem_of_getElem? (i := 0) rfl)
theorem d_WR_init_1 : decode M_WR_init.cc 1 = .ok (.aload_n 1, 1) := tb_WR_init (1, .aload_n 1, 1) (List.mem_of_getElem? (i := 1) rfl)
theorem d_WR_init_2 : decode M_WR_init.cc 2 = .ok (.aload_n 2, 1) := tb_WR_init (2, .aload_n 2, 1) (List.mem_of_getElem? (i := 2) rfl)
theorem d_WR_init_3 : decode M_WR_init.cc 3 = .ok (.invokespecial 1, 3) := tb_WR_init (3, .invokespecial 1, 3) (List.mem_of_getElem? (i := 3) rfl)
theorem d_WR_init_6 : decode M_WR_init.cc 6 = .ok (.return_, 1) := tb_WR_init (6, .return_, 1) (List.mem_of_getElem? (i := 4) rfl)
theorem c0_WR_init : jC0 M_WR_init 2 := ⟨rfl, jin1 123 rfl rfl, jin1 8 rfl rfl, ⟨by decide, by decide⟩, by decide +kernel⟩
theorem in_WR_init : Cond.instanceMethod M_WR_init.y ∈ jTW := jin1 122 rfl rfl
def M_RD_init : jM := ("InkCoder$Reader", ⟨"InkCoder$Reader", "<init>", "(LInkCoder$Contexts;LInkCoder$ByteRow;)V"⟩, prog_9_method_1_code, 3, none, [])
abbrev tl_RD_init : List (Nat × Instr × Nat) := [(0, .aload_n 0, 1), (1, .aload_n 1, 1), (2, .aload_n 2, 1), (3, .invokespecial 1, 3), (6, .return_, 1)]
theorem tb_RD_init : ∀ q ∈ tl_RD_init, decode M_RD_init.cc q.1 = .ok q.2 := by decide +kernel
theorem d_RD_init_0 : decode M_RD_init.cc 0 = .ok (.aload_n 0, 1) := tb_RD_init (0, .aload_n 0, 1) (List.mem_of_getElem? (i := 0) rfl)
theorem d_RD_init_1 : decode M_RD_init.cc 1 = .ok (.aload_n 1, 1) := tb_RD_init (1, .aload_n 1, 1) (List.mem_of_getElem? (i := 1) rfl)
theorem d_RD_init_2 : decode M_RD_init.cc 2 = .ok (.aload_n 2, 1) := tb_RD_init (2, .aload_n 2, 1) (List.mem_of_getElem? (i := 2) rfl)
theorem d_RD_init_3 : decode M_RD_init.cc 3 = .ok (.invokespecial 1, 3) := tb_RD_init (3, .invokespecial 1, 3) (List.mem_of_getElem? (i := 3) rfl)
theorem d_RD_init_6 : decode M_RD_init.cc 6 = .ok (.return_, 1) := tb_RD_init (6, .return_, 1) (List.mem_of_getElem? (i := 4) rfl)
theorem c0_RD_init : jC0 M_RD_init 2 := ⟨rfl, jin1 171 rfl rfl, jin1 9 rfl rfl, ⟨by decide, by decide⟩, by decide +kernel⟩
theorem in_RD_init : Cond.instanceMethod M_RD_init.y ∈ jTW := jin1 170 rfl rfl
def M_IC_init : jM := ("InkCoder", ⟨"InkCoder", "<init>", "()V"⟩, prog_1_method_1_code, 2, none, [])
abbrev tl_IC_init : List (Nat × Instr × Nat) := [(0, .aload_n 0, 1), (1, .invokespecial 1, 3), (4, .aload_n 0, 1), (5, .iconst (4), 1), (6, .anewarray 9, 3), (9, .putfield 11, 3), (12, .iconst (0), 1), (13, .istore_n 1, 1), (14, .iload_n 1, 1), (15, .iconst (4), 1), (16, .if_icmp .ge (22), 3), (19, .aload_n 0, 1), (20, .getfield 11, 3), (23, .iload_n 1, 1), (24, .new 9, 3), (27, .dup, 1), (28, .invokespecial 15, 3), (31, .aastore, 1), (32, .iinc 1 (1), 3), (35, .goto (-21), 3), (38, .aload_n 0, 1), (39, .new 16, 3), (42, .dup, 1), (43, .invokespecial 18, 3), (46, .putfield 19, 3), (49, .aload_n 0, 1), (50, .new 23, 3), (53, .dup, 1), (54, .invokespecial 25, 3), (57, .putfield 26, 3), (60, .aload_n 0, 1), (61, .new 30, 3), (64, .dup, 1), (65, .invokespecial 32, 3), (68, .putfield 33, 3), (71, .aload_n 0, 1), (72, .new 37, 3), (75, .dup, 1), (76, .invokespecial 39, 3), (79, .putfield 40, 3), (82, .aload_n 0, 1), (83, .new 44, 3), (86, .dup, 1), (87, .aload_n 0, 1), (88, .getfield 40, 3), (91, .aload_n 0, 1), (92, .getfield 33, 3), (95, .invokespecial 46, 3), (98, .putfield 49, 3), (101, .aload_n 0, 1), (102, .new 53, 3), (105, .dup, 1), (106, .aload_n 0, 1), (107, .getfield 40, 3), (110, .aload_n 0, 1), (111, .getfield 33, 3), (114, .invokespecial 55, 3), (117, .putfield 56, 3), (120, .aload_n 0, 1), (121, .iconst (0), 1), (122, .putfield 60, 3), (125, .return_, 1)]
theorem tb_IC_init : ∀ q ∈ tl_IC_init, decode M_IC_init.cc q.1 = .ok q.2 := by decide +kernel
theorem d_IC_init_0 : decode M_IC_init.cc 0 = .ok (.aload_n 0, 1) := tb_IC_init (0, .aload_n 0, 1) (List.mem_of_getElem? (i := 0) rfl)
theorem d_IC_init_1 : decode M_IC_init.cc 1 = .ok (.invokespecial 1, 3) := tb_IC_init (1, .invokespecial 1, 3) (List.mem_of_getElem? (i := 1) rfl)
theorem d_IC_init_4 : decode M_IC_init.cc 4 = .ok (.aload_n 0, 1) := tb_IC_init (4, .aload_n 0, 1) (List.mem_of_getElem? (i := 2) rfl)
theorem d_IC_init_5 : decode M_IC_init.cc 5 = .ok (.iconst (4), 1) := tb_IC_init (5, .iconst (4), 1) (List.mem_of_getElem? (i := 3) rfl)
theorem d_IC_init_6 : decode M_IC_init.cc 6 = .ok (.anewarray 9, 3) := tb_IC_init (6, .anewarray 9, 3) (List.mem_of_getElem? (i := 4) rfl)
theorem d_IC_init_9 : decode M_IC_init.cc 9 = .ok (.putfield 11, 3) := tb_IC_init (9, .putfield 11, 3) (List.mem_of_getElem? (i := 5) rfl)
theorem d_IC_init_12 : decode M_IC_init.cc 12 = .ok (.iconst (0), 1) := tb_IC_init (12, .iconst (0), 1) (List.mem_of_getElem? (i := 6) rfl)
theorem d_IC_init_13 : decode M_IC_init.cc 13 = .ok (.istore_n 1, 1) := tb_IC_init (13, .istore_n 1, 1) (List.mem_of_getElem? (i := 7) rfl)
theorem d_IC_init_14 : decode M_IC_init.cc 14 = .ok (.iload_n 1, 1) := tb_IC_init (14, .iload_n 1, 1) (List.mem_of_getElem? (i := 8) rfl)
theorem d_IC_init_15 : decode M_IC_init.cc 15 = .ok (.iconst (4), 1) := tb_IC_init (15, .iconst (4), 1) (List.mem_of_getElem? (i := 9) rfl)
theorem d_IC_init_16 : decode M_IC_init.cc 16 = .ok (.if_icmp .ge (22), 3) := tb_IC_init (16, .if_icmp .ge (22), 3) (List.mem_of_getElem? (i := 10) rfl)
theorem d_IC_init_19 : decode M_IC_init.cc 19 = .ok (.aload_n 0, 1) := tb_IC_init (19, .aload_n 0, 1) (List.mem_of_getElem? (i := 11) rfl)
theorem d_IC_init_20 : decode M_IC_init.cc 20 = .ok (.getfield 11, 3) := tb_IC_init (20, .getfield 11, 3) (List.mem_of_getElem? (i := 12) rfl)
theorem d_IC_init_23 : decode M_IC_init.cc 23 = .ok (.iload_n 1, 1) := tb_IC_init (23, .iload_n 1, 1) (List.mem_of_getElem? (i := 13) rfl)
theorem d_IC_init_24 : decode M_IC_init.cc 24 = .ok (.new 9, 3) := tb_IC_init (24, .new 9, 3) (List.mem_of_getElem? (i := 14) rfl)
theorem d_IC_init_27 : decode M_IC_init.cc 27 = .ok (.dup, 1) := tb_IC_init (27, .dup, 1) (List.mem_of_getElem? (i := 15) rfl)
theorem d_IC_init_28 : decode M_IC_init.cc 28 = .ok (.invokespecial 15, 3) := tb_IC_init (28, .invokespecial 15, 3) (List.mem_of_getElem? (i := 16) rfl)
theorem d_IC_init_31 : decode M_IC_init.cc 31 = .ok (.aastore, 1) := tb_IC_init (31, .aastore, 1) (List.mem_of_getElem? (i := 17) rfl)
theorem d_IC_init_32 : decode M_IC_init.cc 32 = .ok (.iinc 1 (1), 3) := tb_IC_init (32, .iinc 1 (1), 3) (List.mem_of_getElem? (i := 18) rfl)
theorem d_IC_init_35 : decode M_IC_init.cc 35 = .ok (.goto (-21), 3) := tb_IC_init (35, .goto (-21), 3) (List.mem_of_getElem? (i := 19) rfl)
theorem d_IC_init_38 : decode M_IC_init.cc 38 = .ok (.aload_n 0, 1) := tb_IC_init (38, .aload_n 0, 1) (List.mem_of_getElem? (i := 20) rfl)
theorem d_IC_init_39 : decode M_IC_init.cc 39 = .ok (.new 16, 3) := tb_IC_init (39, .new 16, 3) (List.mem_of_getElem? (i := 21) rfl)
theorem d_IC_init_42 : decode M_IC_init.cc 42 = .ok (.dup, 1) := tb_IC_init (42, .dup, 1) (List.mem_of_getElem? (i := 22) rfl)
theorem d_IC_init_43 : decode M_IC_init.cc 43 = .ok (.invokespecial 18, 3) := tb_IC_init (43, .invokespecial 18, 3) (List.mem_of_getElem? (i := 23) rfl)
theorem d_IC_init_46 : decode M_IC_init.cc 46 = .ok (.putfield 19, 3) := tb_IC_init (46, .putfield 19, 3) (List.mem_of_getElem? (i := 24) rfl)
theorem d_IC_init_49 : decode M_IC_init.cc 49 = .ok (.aload_n 0, 1) := tb_IC_init (49, .aload_n 0, 1) (List.mem_of_getElem? (i := 25) rfl)
theorem d_IC_init_50 : decode M_IC_init.cc 50 = .ok (.new 23, 3) := tb_IC_init (50, .new 23, 3) (List.mem_of_getElem? (i := 26) rfl)
theorem d_IC_init_53 : decode M_IC_init.cc 53 = .ok (.dup, 1) := tb_IC_init (53, .dup, 1) (List.mem_of_getElem? (i := 27) rfl)
theorem d_IC_init_54 : decode M_IC_init.cc 54 = .ok (.invokespecial 25, 3) := tb_IC_init (54, .invokespecial 25, 3) (List.mem_of_getElem? (i := 28) rfl)
theorem d_IC_init_57 : decode M_IC_init.cc 57 = .ok (.putfield 26, 3) := tb_IC_init (57, .putfield 26, 3) (List.mem_of_getElem? (i := 29) rfl)
theorem d_IC_init_60 : decode M_IC_init.cc 60 = .ok (.aload_n 0, 1) := tb_IC_init (60, .aload_n 0, 1) (List.mem_of_getElem? (i := 30) rfl)
theorem d_IC_init_61 : decode M_IC_init.cc 61 = .ok (.new 30, 3) := tb_IC_init (61, .new 30, 3) (List.mem_of_getElem? (i := 31) rfl)
theorem d_IC_init_64 : decode M_IC_init.cc 64 = .ok (.dup, 1) := tb_IC_init (64, .dup, 1) (List.mem_of_getElem? (i := 32) rfl)
theorem d_IC_init_65 : decode M_IC_init.cc 65 = .ok (.invokespecial 32, 3) := tb_IC_init (65, .invokespecial 32, 3) (List.mem_of_getElem? (i := 33) rfl)
theorem d_IC_init_68 : decode M_IC_init.cc 68 = .ok (.putfield 33, 3) := tb_IC_init (68, .putfield 33, 3) (List.mem_of_getElem? (i := 34) rfl)
theorem d_IC_init_71 : decode M_IC_init.cc 71 = .ok (.aload_n 0, 1) := tb_IC_init (71, .aload_n 0, 1) (List.mem_of_getElem? (i := 35) rfl)
theorem d_IC_init_72 : decode M_IC_init.cc 72 = .ok (.new 37, 3) := tb_IC_init (72, .new 37, 3) (List.mem_of_getElem? (i := 36) rfl)
theorem d_IC_init_75 : decode M_IC_init.cc 75 = .ok (.dup, 1) := tb_IC_init (75, .dup, 1) (List.mem_of_getElem? (i := 37) rfl)
theorem d_IC_init_76 : decode M_IC_init.cc 76 = .ok (.invokespecial 39, 3) := tb_IC_init (76, .invokespecial 39, 3) (List.mem_of_getElem? (i := 38) rfl)
theorem d_IC_init_79 : decode M_IC_init.cc 79 = .ok (.putfield 40, 3) := tb_IC_init (79, .putfield 40, 3) (List.mem_of_getElem? (i := 39) rfl)
theorem d_IC_init_82 : decode M_IC_init.cc 82 = .ok (.aload_n 0, 1) := tb_IC_init (82, .aload_n 0, 1) (List.mem_of_getElem? (i := 40) rfl)
theorem d_IC_init_83 : decode M_IC_init.cc 83 = .ok (.new 44, 3) := tb_IC_init (83, .new 44, 3) (List.mem_of_getElem? (i := 41) rfl)
theorem d_IC_init_86 : decode M_IC_init.cc 86 = .ok (.dup, 1) := tb_IC_init (86, .dup, 1) (List.mem_of_getElem? (i := 42) rfl)
theorem d_IC_init_87 : decode M_IC_init.cc 87 = .ok (.aload_n 0, 1) := tb_IC_init (87, .aload_n 0, 1) (List.mem_of_getElem? (i := 43) rfl)
theorem d_IC_init_88 : decode M_IC_init.cc 88 = .ok (.getfield 40, 3) := tb_IC_init (88, .getfield 40, 3) (List.mem_of_getElem? (i := 44) rfl)
theorem d_IC_init_91 : decode M_IC_init.cc 91 = .ok (.aload_n 0, 1) := tb_IC_init (91, .aload_n 0, 1) (List.mem_of_getElem? (i := 45) rfl)
theorem d_IC_init_92 : decode M_IC_init.cc 92 = .ok (.getfield 33, 3) := tb_IC_init (92, .getfield 33, 3) (List.mem_of_getElem? (i := 46) rfl)
theorem d_IC_init_95 : decode M_IC_init.cc 95 = .ok (.invokespecial 46, 3) := tb_IC_init (95, .invokespecial 46, 3) (List.mem_of_getElem? (i := 47) rfl)
theorem d_IC_init_98 : decode M_IC_init.cc 98 = .ok (.putfield 49, 3) := tb_IC_init (98, .putfield 49, 3) (List.mem_of_getElem? (i := 48) rfl)
theorem d_IC_init_101 : decode M_IC_init.cc 101 = .ok (.aload_n 0, 1) := tb_IC_init (101, .aload_n 0, 1) (List.mem_of_getElem? (i := 49) rfl)
theorem d_IC_init_102 : decode M_IC_init.cc 102 = .ok (.new 53, 3) := tb_IC_init (102, .new 53, 3) (List.mem_of_getElem? (i := 50) rfl)
theorem d_IC_init_105 : decode M_IC_init.cc 105 = .ok (.dup, 1) := tb_IC_init (105, .dup, 1) (List.mem_of_getElem? (i := 51) rfl)
theorem d_IC_init_106 : decode M_IC_init.cc 106 = .ok (.aload_n 0, 1) := tb_IC_init (106, .aload_n 0, 1) (List.mem_of_getElem? (i := 52) rfl)
theorem d_IC_init_107 : decode M_IC_init.cc 107 = .ok (.getfield 40, 3) := tb_IC_init (107, .getfield 40, 3) (List.mem_of_getElem? (i := 53) rfl)
theorem d_IC_init_110 : decode M_IC_init.cc 110 = .ok (.aload_n 0, 1) := tb_IC_init (110, .aload_n 0, 1) (List.mem_of_getElem? (i := 54) rfl)
theorem d_IC_init_111 : decode M_IC_init.cc 111 = .ok (.getfield 33, 3) := tb_IC_init (111, .getfield 33, 3) (List.mem_of_getElem? (i := 55) rfl)
theorem d_IC_init_114 : decode M_IC_init.cc 114 = .ok (.invokespecial 55, 3) := tb_IC_init (114, .invokespecial 55, 3) (List.mem_of_getElem? (i := 56) rfl)
theorem d_IC_init_117 : decode M_IC_init.cc 117 = .ok (.putfield 56, 3) := tb_IC_init (117, .putfield 56, 3) (List.mem_of_getElem? (i := 57) rfl)
theorem d_IC_init_120 : decode M_IC_init.cc 120 = .ok (.aload_n 0, 1) := tb_IC_init (120, .aload_n 0, 1) (List.mem_of_getElem? (i := 58) rfl)
theorem d_IC_init_121 : decode M_IC_init.cc 121 = .ok (.iconst (0), 1) := tb_IC_init (121, .iconst (0), 1) (List.mem_of_getElem? (i := 59) rfl)
theorem d_IC_init_122 : decode M_IC_init.cc 122 = .ok (.putfield 60, 3) := tb_IC_init (122, .putfield 60, 3) (List.mem_of_getElem? (i := 60) rfl)
theorem d_IC_init_125 : decode M_IC_init.cc 125 = .ok (.return_, 1) := tb_IC_init (125, .return_, 1) (List.mem_of_getElem? (i := 61) rfl)
theorem c0_IC_init : jC0 M_IC_init 0 := ⟨rfl, jin1 28 rfl rfl, jin1 1 rfl rfl, ⟨by decide, by decide⟩, by decide +kernel⟩
theorem in_IC_init : Cond.instanceMethod M_IC_init.y ∈ jTW := jin1 27 rfl rfl
def M_MO_init : jM := ("InkCoderModel", ⟨"InkCoderModel", "<init>", "()V"⟩, prog_13_method_1_code, 2, none, [])
abbrev tl_MO_init : List (Nat × Instr × Nat) := [(0, .aload_n 0, 1), (1, .invokespecial 1, 3), (4, .aload_n 0, 1), (5, .sipush (288), 3), (8, .newarray .int, 2), (10, .putfield 7, 3), (13, .aload_n 0, 1), (14, .bipush (12), 2), (16, .newarray .int, 2), (18, .putfield 13, 3), (21, .aload_n 0, 1), (22, .bipush (12), 2), (24, .newarray .int, 2), (26, .putfield 16, 3), (29, .aload_n 0, 1), (30, .bipush (12), 2), (32, .newarray .int, 2), (34, .putfield 19, 3), (37, .aload_n 0, 1), (38, .bipush (12), 2), (40, .newarray .int, 2), (42, .putfield 22, 3), (45, .aload_n 0, 1), (46, .bipush (12), 2), (48, .newarray .int, 2), (50, .putfield 25, 3), (53, .aload_n 0, 1), (54, .sipush (600), 3), (57, .newarray .int, 2), (59, .putfield 28, 3), (62, .aload_n 0, 1), (63, .sipush (15883), 3), (66, .newarray .int, 2), (68, .putfield 31, 3), (71, .iconst (0), 1), (72, .istore_n 1, 1), (73, .iload_n 1, 1), (74, .iconst (4), 1), (75, .if_icmp .ge (23), 3), (78, .aload_n 0, 1), (79, .getfield 13, 3), (82, .iload_n 1, 1), (83, .iconst (1), 1), (84, .iastore, 1), (85, .aload_n 0, 1), (86, .getfield 16, 3), (89, .iload_n 1, 1), (90, .iconst (1), 1), (91, .iastore, 1), (92, .iinc 1 (1), 3), (95, .goto (-22), 3), (98, .return_, 1)]
theorem tb_MO_init : ∀ q ∈ tl_MO_init, decode M_MO_init.cc q.1 = .ok q.2 := by decide +kernel
theorem d_MO_init_0 : decode M_MO_init.cc 0 = .ok (.aload_n 0, 1) := tb_MO_init (0, .aload_n 0, 1) (List.mem_of_getElem? (i := 0) rfl)
theorem d_MO_init_1 : decode M_MO_init.cc 1 = .ok (.invokespecial 1, 3) := tb_MO_init (1, .invokespecial 1, 3) (List.mem_of_getElem? (i := 1) rfl)
theorem d_MO_init_4 : decode M_MO_init.cc 4 = .ok (.aload_n 0, 1) := tb_MO_init (4, .aload_n 0, 1) (List.mem_of_getElem? (i := 2) rfl)
theorem d_MO_init_5 : decode M_MO_init.cc 5 = .ok (.sipush (288), 3) := tb_MO_init (5, .sipush (288), 3) (List.mem_of_getElem? (i := 3) rfl)
theorem d_MO_init_8 : decode M_MO_init.cc 8 = .ok (.newarray .int, 2) := tb_MO_init (8, .newarray .int, 2) (List.mem_of_getElem? (i := 4) rfl)
theorem d_MO_init_10 : decode M_MO_init.cc 10 = .ok (.putfield 7, 3) := tb_MO_init (10, .putfield 7, 3) (List.mem_of_getElem? (i := 5) rfl)
theorem d_MO_init_13 : decode M_MO_init.cc 13 = .ok (.aload_n 0, 1) := tb_MO_init (13, .aload_n 0, 1) (List.mem_of_getElem? (i := 6) rfl)
theorem d_MO_init_14 : decode M_MO_init.cc 14 = .ok (.bipush (12), 2) := tb_MO_init (14, .bipush (12), 2) (List.mem_of_getElem? (i := 7) rfl)
theorem d_MO_init_16 : decode M_MO_init.cc 16 = .ok (.newarray .int, 2) := tb_MO_init (16, .newarray .int, 2) (List.mem_of_getElem? (i := 8) rfl)
theorem d_MO_init_18 : decode M_MO_init.cc 18 = .ok (.putfield 13, 3) := tb_MO_init (18, .putfield 13, 3) (List.mem_of_getElem? (i := 9) rfl)
theorem d_MO_init_21 : decode M_MO_init.cc 21 = .ok (.aload_n 0, 1) := tb_MO_init (21, .aload_n 0, 1) (List.mem_of_getElem? (i := 10) rfl)
theorem d_MO_init_22 : decode M_MO_init.cc 22 = .ok (.bipush (12), 2) := tb_MO_init (22, .bipush (12), 2) (List.mem_of_getElem? (i := 11) rfl)
theorem d_MO_init_24 : decode M_MO_init.cc 24 = .ok (.newarray .int, 2) := tb_MO_init (24, .newarray .int, 2) (List.mem_of_getElem? (i := 12) rfl)
theorem d_MO_init_26 : decode M_MO_init.cc 26 = .ok (.putfield 16, 3) := tb_MO_init (26, .putfield 16, 3) (List.mem_of_getElem? (i := 13) rfl)
theorem d_MO_init_29 : decode M_MO_init.cc 29 = .ok (.aload_n 0, 1) := tb_MO_init (29, .aload_n 0, 1) (List.mem_of_getElem? (i := 14) rfl)
theorem d_MO_init_30 : decode M_MO_init.cc 30 = .ok (.bipush (12), 2) := tb_MO_init (30, .bipush (12), 2) (List.mem_of_getElem? (i := 15) rfl)
theorem d_MO_init_32 : decode M_MO_init.cc 32 = .ok (.newarray .int, 2) := tb_MO_init (32, .newarray .int, 2) (List.mem_of_getElem? (i := 16) rfl)
theorem d_MO_init_34 : decode M_MO_init.cc 34 = .ok (.putfield 19, 3) := tb_MO_init (34, .putfield 19, 3) (List.mem_of_getElem? (i := 17) rfl)
theorem d_MO_init_37 : decode M_MO_init.cc 37 = .ok (.aload_n 0, 1) := tb_MO_init (37, .aload_n 0, 1) (List.mem_of_getElem? (i := 18) rfl)
theorem d_MO_init_38 : decode M_MO_init.cc 38 = .ok (.bipush (12), 2) := tb_MO_init (38, .bipush (12), 2) (List.mem_of_getElem? (i := 19) rfl)
theorem d_MO_init_40 : decode M_MO_init.cc 40 = .ok (.newarray .int, 2) := tb_MO_init (40, .newarray .int, 2) (List.mem_of_getElem? (i := 20) rfl)
theorem d_MO_init_42 : decode M_MO_init.cc 42 = .ok (.putfield 22, 3) := tb_MO_init (42, .putfield 22, 3) (List.mem_of_getElem? (i := 21) rfl)
theorem d_MO_init_45 : decode M_MO_init.cc 45 = .ok (.aload_n 0, 1) := tb_MO_init (45, .aload_n 0, 1) (List.mem_of_getElem? (i := 22) rfl)
theorem d_MO_init_46 : decode M_MO_init.cc 46 = .ok (.bipush (12), 2) := tb_MO_init (46, .bipush (12), 2) (List.mem_of_getElem? (i := 23) rfl)
theorem d_MO_init_48 : decode M_MO_init.cc 48 = .ok (.newarray .int, 2) := tb_MO_init (48, .newarray .int, 2) (List.mem_of_getElem? (i := 24) rfl)
theorem d_MO_init_50 : decode M_MO_init.cc 50 = .ok (.putfield 25, 3) := tb_MO_init (50, .putfield 25, 3) (List.mem_of_getElem? (i := 25) rfl)
theorem d_MO_init_53 : decode M_MO_init.cc 53 = .ok (.aload_n 0, 1) := tb_MO_init (53, .aload_n 0, 1) (List.mem_of_getElem? (i := 26) rfl)
theorem d_MO_init_54 : decode M_MO_init.cc 54 = .ok (.sipush (600), 3) := tb_MO_init (54, .sipush (600), 3) (List.mem_of_getElem? (i := 27) rfl)
theorem d_MO_init_57 : decode M_MO_init.cc 57 = .ok (.newarray .int, 2) := tb_MO_init (57, .newarray .int, 2) (List.mem_of_getElem? (i := 28) rfl)
theorem d_MO_init_59 : decode M_MO_init.cc 59 = .ok (.putfield 28, 3) := tb_MO_init (59, .putfield 28, 3) (List.mem_of_getElem? (i := 29) rfl)
theorem d_MO_init_62 : decode M_MO_init.cc 62 = .ok (.aload_n 0, 1) := tb_MO_init (62, .aload_n 0, 1) (List.mem_of_getElem? (i := 30) rfl)
theorem d_MO_init_63 : decode M_MO_init.cc 63 = .ok (.sipush (15883), 3) := tb_MO_init (63, .sipush (15883), 3) (List.mem_of_getElem? (i := 31) rfl)
theorem d_MO_init_66 : decode M_MO_init.cc 66 = .ok (.newarray .int, 2) := tb_MO_init (66, .newarray .int, 2) (List.mem_of_getElem? (i := 32) rfl)
theorem d_MO_init_68 : decode M_MO_init.cc 68 = .ok (.putfield 31, 3) := tb_MO_init (68, .putfield 31, 3) (List.mem_of_getElem? (i := 33) rfl)
theorem d_MO_init_71 : decode M_MO_init.cc 71 = .ok (.iconst (0), 1) := tb_MO_init (71, .iconst (0), 1) (List.mem_of_getElem? (i := 34) rfl)
theorem d_MO_init_72 : decode M_MO_init.cc 72 = .ok (.istore_n 1, 1) := tb_MO_init (72, .istore_n 1, 1) (List.mem_of_getElem? (i := 35) rfl)
theorem d_MO_init_73 : decode M_MO_init.cc 73 = .ok (.iload_n 1, 1) := tb_MO_init (73, .iload_n 1, 1) (List.mem_of_getElem? (i := 36) rfl)
theorem d_MO_init_74 : decode M_MO_init.cc 74 = .ok (.iconst (4), 1) := tb_MO_init (74, .iconst (4), 1) (List.mem_of_getElem? (i := 37) rfl)
theorem d_MO_init_75 : decode M_MO_init.cc 75 = .ok (.if_icmp .ge (23), 3) := tb_MO_init (75, .if_icmp .ge (23), 3) (List.mem_of_getElem? (i := 38) rfl)
theorem d_MO_init_78 : decode M_MO_init.cc 78 = .ok (.aload_n 0, 1) := tb_MO_init (78, .aload_n 0, 1) (List.mem_of_getElem? (i := 39) rfl)
theorem d_MO_init_79 : decode M_MO_init.cc 79 = .ok (.getfield 13, 3) := tb_MO_init (79, .getfield 13, 3) (List.mem_of_getElem? (i := 40) rfl)
theorem d_MO_init_82 : decode M_MO_init.cc 82 = .ok (.iload_n 1, 1) := tb_MO_init (82, .iload_n 1, 1) (List.mem_of_getElem? (i := 41) rfl)
theorem d_MO_init_83 : decode M_MO_init.cc 83 = .ok (.iconst (1), 1) := tb_MO_init (83, .iconst (1), 1) (List.mem_of_getElem? (i := 42) rfl)
theorem d_MO_init_84 : decode M_MO_init.cc 84 = .ok (.iastore, 1) := tb_MO_init (84, .iastore, 1) (List.mem_of_getElem? (i := 43) rfl)
theorem d_MO_init_85 : decode M_MO_init.cc 85 = .ok (.aload_n 0, 1) := tb_MO_init (85, .aload_n 0, 1) (List.mem_of_getElem? (i := 44) rfl)
theorem d_MO_init_86 : decode M_MO_init.cc 86 = .ok (.getfield 16, 3) := tb_MO_init (86, .getfield 16, 3) (List.mem_of_getElem? (i := 45) rfl)
theorem d_MO_init_89 : decode M_MO_init.cc 89 = .ok (.iload_n 1, 1) := tb_MO_init (89, .iload_n 1, 1) (List.mem_of_getElem? (i := 46) rfl)
theorem d_MO_init_90 : decode M_MO_init.cc 90 = .ok (.iconst (1), 1) := tb_MO_init (90, .iconst (1), 1) (List.mem_of_getElem? (i := 47) rfl)
theorem d_MO_init_91 : decode M_MO_init.cc 91 = .ok (.iastore, 1) := tb_MO_init (91, .iastore, 1) (List.mem_of_getElem? (i := 48) rfl)
theorem d_MO_init_92 : decode M_MO_init.cc 92 = .ok (.iinc 1 (1), 3) := tb_MO_init (92, .iinc 1 (1), 3) (List.mem_of_getElem? (i := 49) rfl)
theorem d_MO_init_95 : decode M_MO_init.cc 95 = .ok (.goto (-22), 3) := tb_MO_init (95, .goto (-22), 3) (List.mem_of_getElem? (i := 50) rfl)
theorem d_MO_init_98 : decode M_MO_init.cc 98 = .ok (.return_, 1) := tb_MO_init (98, .return_, 1) (List.mem_of_getElem? (i := 51) rfl)
theorem c0_MO_init : jC0 M_MO_init 0 := ⟨rfl, jin3 238 rfl rfl, jin1 10 rfl rfl, ⟨by decide, by decide⟩, by decide +kernel⟩
theorem in_MO_init : Cond.instanceMethod M_MO_init.y ∈ jTW := jin3 237 rfl rfl
theorem lObjI : Cond.instanceMethod Lib.objectInit ∈ jTW := jin1 30 rfl rfl
theorem lObjC : Cond.code Lib.objectInit ⟨#[0xb1]⟩ 1 none ∈ jTW := jin1 31 rfl rfl
theorem lArI : Cond.arrayClass .int ∈ jTW := jin1 54 rfl rfl
theorem lArL : Cond.arrayClass .long ∈ jTW := jin5 126 rfl rfl
theorem kdPI : ∀ j, j < 3 → defaultValue (jtPI j) = vp_V [.null, .int 0, .int 0] j := by decide +kernel
theorem kdSR : ∀ j, j < 2 → defaultValue (jtSR j) = vp_V [.null, .int 0] j := by decide +kernel
theorem kdMR : ∀ j, j < 4 → defaultValue (jtMR j) = vp_V [.null, .null, .null, .int 0] j := by decide +kernel
theorem kdBR : ∀ j, j < 2 → defaultValue (jtBR j) = vp_V [.null, .int 0] j := by decide +kernel
theorem kdCX : ∀ j, j < 1 → defaultValue (jtCX j) = vp_V [.null] j := by decide +kernel
theorem kdWR : ∀ j, j < 7 → defaultValue (jtWR j) = vp_V [.null, .null, .int 0, .int 0, .int 0, .int 0, .int 0] j := by decide +kernel
theorem kdRD : ∀ j, j < 6 → defaultValue (jtRD j) = vp_V [.null, .null, .int 0, .int 0, .int 0, .int 0] j := by decide +kernel
theorem kdIC : ∀ j, j < 8 → defaultValue (jtIC j) = vp_V [.null, .null, .null, .null, .null, .null, .null, .int 0] j := by decide +kernel
theorem kdMO : ∀ j, j < 23 → defaultValue (jtMO j) = vp_V [.int 0, .null, .null, .null, .int 0, .int 0, .null, .null, .null, .int 0, .null, .int 0, .int 0, .int 0, .int 0, .int 0, .int 0, .int 0, .null, .int 0, .int 0, .int 0, .int 0] j := by decide +kernel
def kIa (G : jG) (n : Nat) : va_E := .inl (G.tI, n, .inl fun _ => 0)
def kPi (r : Nat) : va_E := .inr (1, [.ref r, .int 1, .int 1])
def kPq (G : jG) (n : Nat) (ps : List (Nat × Nat)) : va_E := .inl (G.tP, n, .inr (.inr (.inr (.inr fun j => (ps[j]?).map Prod.fst))))
def kpics (G : jG) (ps : List (Nat × Nat)) : va_W := ps.flatMap fun q => [(q.1, kPi q.2), (q.2, kIa G 24)]
theorem c_PI_init {G : jG} (a : Nat) : kSp G M_PI_init (jr 1 1 24) [.ref a] [(a, .inr (1, [.null, .int 0, .int 0]))] (fun w => ∃ r, w = [(a, kPi r), (r, kIa G 24)]) := by
  refine kSp.of rfl rfl (Nat.le_of_ble_eq_true rfl) ?_
  refine kv_aload_n 0 d_PI_init_0 rfl ?_
  refine kv_objinit d_PI_init_1 (jin1 38 rfl rfl) lObjI lObjC (by decide) (by decide) (by decide) ?_
  refine kv_aload_n 0 d_PI_init_4 rfl ?_
  refine kv_bipush 24 d_PI_init_5 rfl ?_
  refine kv_newi d_PI_init_7 lArI (by decide) rfl (by decide) (by decide) (by decide) (fun r => ?_)
  refine kv_putF (q0 := 0) (ci := 1) (kk := 0) jtPI d_PI_init_9 rfl juPI jpPI jnPI (by decide) rfl (jin1 39 rfl rfl) rfl rfl rfl rfl rfl (Nat.le_of_ble_eq_true rfl) ?_
  refine kv_aload_n 0 d_PI_init_12 rfl ?_
  refine kv_iconst 1 d_PI_init_13 rfl ?_
  refine kv_put (q0 := 0) (ci := 1) (kk := 1) jtPI d_PI_init_14 rfl juPI jpPI jnPI (by decide) rfl (jin1 41 rfl rfl) rfl rfl rfl rfl (Nat.le_of_ble_eq_true rfl) ?_
  refine kv_aload_n 0 d_PI_init_17 rfl ?_
  refine kv_iconst 1 d_PI_init_18 rfl ?_
  refine kv_put (q0 := 0) (ci := 1) (kk := 2) jtPI d_PI_init_19 rfl juPI jpPI jnPI (by decide) rfl (jin1 44 rfl rfl) rfl rfl rfl rfl (Nat.le_of_ble_eq_true rfl) ?_
  exact kv_ret d_PI_init_22 rfl (by decide) (by decide) ⟨r, rfl⟩
theorem c_MR_init {G : jG} (a : Nat) : kSp G M_MR_init (jr 1 3 36) [.ref a] [(a, .inr (3, [.null, .null, .null, .int 0]))] (fun w => ∃ r s t, w = [(a, .inr (3, [.ref r, .ref s, .ref t, .int 0])), (r, kIa G 12), (s, kIa G 12), (t, kIa G 12)]) := by
  refine kSp.of rfl rfl (Nat.le_of_ble_eq_true rfl) ?_
  refine kv_aload_n 0 d_MR_init_0 rfl ?_
  refine kv_objinit d_MR_init_1 (jin1 76 rfl rfl) lObjI lObjC (by decide) (by decide) (by decide) ?_
  refine kv_aload_n 0 d_MR_init_4 rfl ?_
  refine kv_bipush 12 d_MR_init_5 rfl ?_
  refine kv_newi d_MR_init_7 lArI (by decide) rfl (by decide) (by decide) (by decide) (fun r => ?_)
  refine kv_putF (q0 := 0) (ci := 3) (kk := 0) jtMR d_MR_init_9 rfl juMR jpMR jnMR (by decide) rfl (jin1 77 rfl rfl) rfl rfl rfl rfl rfl (Nat.le_of_ble_eq_true rfl) ?_
  refine kv_aload_n 0 d_MR_init_12 rfl ?_
  refine kv_bipush 12 d_MR_init_13 rfl ?_
  refine kv_newi d_MR_init_15 lArI (by decide) rfl (by decide) (by decide) (by decide) (fun s => ?_)
  refine kv_putF (q0 := 0) (ci := 3) (kk := 1) jtMR d_MR_init_17 rfl juMR jpMR jnMR (by decide) rfl (jin1 79 rfl rfl) rfl rfl rfl rfl rfl (Nat.le_of_ble_eq_true rfl) ?_
  refine kv_aload_n 0 d_MR_init_20 rfl ?_
  refine kv_bipush 12 d_MR_init_21 rfl ?_
  refine kv_newi d_MR_init_23 lArI (by decide) rfl (by decide) (by decide) (by decide) (fun t => ?_)
  refine kv_putF (q0 := 0) (ci := 3) (kk := 2) jtMR d_MR_init_25 rfl juMR jpMR jnMR (by decide) rfl (jin1 81 rfl rfl) rfl rfl rfl rfl rfl (Nat.le_of_ble_eq_true rfl) ?_
  exact kv_ret d_MR_init_28 rfl (by decide) (by decide) ⟨r, s, t, rfl⟩
theorem c_BR_init {G : jG} (a : Nat) : kSp G M_BR_init (jr 1 1 600) [.ref a] [(a, .inr (4, [.null, .int 0]))] (fun w => ∃ r, w = [(a, .inr (4, [.ref r, .int 0])), (r, kIa G 600)]) := by
  refine kSp.of rfl rfl (Nat.le_of_ble_eq_true rfl) ?_
  refine kv_aload_n 0 d_BR_init_0 rfl ?_
  refine kv_objinit d_BR_init_1 (jin1 99 rfl rfl) lObjI lObjC (by decide) (by decide) (by decide) ?_
  refine kv_aload_n 0 d_BR_init_4 rfl ?_
  refine kv_sipush 600 d_BR_init_5 rfl ?_
  refine kv_newi d_BR_init_8 lArI (by decide) rfl (by decide) (by decide) (by decide) (fun r => ?_)
  refine kv_putF (q0 := 0) (ci := 4) (kk := 0) jtBR d_BR_init_10 rfl juBR jpBR jnBR (by decide) rfl (jin1 100 rfl rfl) rfl rfl rfl rfl rfl (Nat.le_of_ble_eq_true rfl) ?_
  exact kv_ret d_BR_init_13 rfl (by decide) (by decide) ⟨r, rfl⟩
theorem c_CX_init {G : jG} (a : Nat) : kSp G M_CX_init (jr 1 1 15884) [.ref a] [(a, .inr (5, [.null]))] (fun w => ∃ r, w = [(a, .inr (5, [.ref r])), (r, kIa G 15884)]) := by
  refine kSp.of rfl rfl (Nat.le_of_ble_eq_true rfl) ?_
  refine kv_aload_n 0 d_CX_init_0 rfl ?_
  refine kv_objinit d_CX_init_1 (jin1 114 rfl rfl) lObjI lObjC (by decide) (by decide) (by decide) ?_
  refine kv_aload_n 0 d_CX_init_4 rfl ?_
  refine kv_sipush 15884 d_CX_init_5 rfl ?_
  refine kv_newi d_CX_init_8 lArI (by decide) rfl (by decide) (by decide) (by decide) (fun r => ?_)
  refine kv_putF (q0 := 0) (ci := 5) (kk := 0) jtCX d_CX_init_10 rfl juCX jpCX jnCX (by decide) rfl (jin1 115 rfl rfl) rfl rfl rfl rfl rfl (Nat.le_of_ble_eq_true rfl) ?_
  exact kv_ret d_CX_init_13 rfl (by decide) (by decide) ⟨r, rfl⟩
theorem c_CO_WR {G : jG} (a x y : Nat) : kSp G M_CO_init (jr 1 0 0) [.ref a, .ref x, .ref y] [(a, .inr (6, [.null, .null, .int 0, .int 0, .int 0, .int 0, .int 0]))] (fun w => w = [(a, .inr (6, [.ref x, .ref y, .int 0, .int 0, .int 0, .int 0, .int 0]))]) := by
  refine kSp.of rfl rfl (Nat.le_of_ble_eq_true rfl) ?_
  refine kv_aload_n 0 d_CO_init_0 rfl ?_
  refine kv_objinit d_CO_init_1 (jin1 127 rfl rfl) lObjI lObjC (by decide) (by decide) (by decide) ?_
  refine kv_aload_n 0 d_CO_init_4 rfl ?_
  refine kv_aload_n 1 d_CO_init_5 rfl ?_
  refine kv_putF (q0 := 0) (ci := 6) (kk := 0) jtWR d_CO_init_6 rfl juWR jpWR jnWR (by decide) rfl (jin1 130 rfl rfl) rfl rfl rfl rfl rfl (Nat.le_of_ble_eq_true rfl) ?_
  refine kv_aload_n 0 d_CO_init_9 rfl ?_
  refine kv_aload_n 2 d_CO_init_10 rfl ?_
  refine kv_putF (q0 := 0) (ci := 6) (kk := 1) jtWR d_CO_init_11 rfl juWR jpWR jnWR (by decide) rfl (jin1 135 rfl rfl) rfl rfl rfl rfl rfl (Nat.le_of_ble_eq_true rfl) ?_
  exact kv_ret d_CO_init_14 rfl (by decide) (by decide) rfl
theorem c_WR_init {G : jG} (a x y : Nat) : kSp G M_WR_init (jr 2 0 0) [.ref a, .ref x, .ref y] [(a, .inr (6, [.null, .null, .int 0, .int 0, .int 0, .int 0, .int 0]))] (fun w => w = [(a, .inr (6, [.ref x, .ref y, .int 0, .int 0, .int 0, .int 0, .int 0]))]) := by
  refine kSp.of rfl rfl (Nat.le_of_ble_eq_true rfl) ?_
  refine kv_aload_n 0 d_WR_init_0 rfl ?_
  refine kv_aload_n 1 d_WR_init_1 rfl ?_
  refine kv_aload_n 2 d_WR_init_2 rfl ?_
  refine kv_call (wr := []) (as := [.ref x, .ref y]) (c_CO_WR a x y) rfl d_WR_init_3 c0_CO_init rfl rfl lk_WR_1 in_CO_init rfl (Nat.le_of_ble_eq_true rfl) ⟨by decide, by decide, by decide, by decide⟩ ?_
  rintro w1 rfl
  exact kv_ret d_WR_init_6 rfl (by decide) (by decide) rfl
theorem c_CO_RD {G : jG} (a x y : Nat) : kSp G M_CO_init (jr 1 0 0) [.ref a, .ref x, .ref y] [(a, .inr (7, [.null, .null, .int 0, .int 0, .int 0, .int 0]))] (fun w => w = [(a, .inr (7, [.ref x, .ref y, .int 0, .int 0, .int 0, .int 0]))]) := by
  refine kSp.of rfl rfl (Nat.le_of_ble_eq_true rfl) ?_
  refine kv_aload_n 0 d_CO_init_0 rfl ?_
  refine kv_objinit d_CO_init_1 (jin1 127 rfl rfl) lObjI lObjC (by decide) (by decide) (by decide) ?_
  refine kv_aload_n 0 d_CO_init_4 rfl ?_
  refine kv_aload_n 1 d_CO_init_5 rfl ?_
  refine kv_putF (q0 := 0) (ci := 7) (kk := 0) jtRD d_CO_init_6 rfl juRD jpRD jnRD (by decide) rfl (jin1 130 rfl rfl) rfl rfl rfl rfl rfl (Nat.le_of_ble_eq_true rfl) ?_
  refine kv_aload_n 0 d_CO_init_9 rfl ?_
  refine kv_aload_n 2 d_CO_init_10 rfl ?_
  refine kv_putF (q0 := 0) (ci := 7) (kk := 1) jtRD d_CO_init_11 rfl juRD jpRD jnRD (by decide) rfl (jin1 135 rfl rfl) rfl rfl rfl rfl rfl (Nat.le_of_ble_eq_true rfl) ?_
  exact kv_ret d_CO_init_14 rfl (by decide) (by decide) rfl
theorem c_RD_init {G : jG} (a x y : Nat) : kSp G M_RD_init (jr 2 0 0) [.ref a, .ref x, .ref y] [(a, .inr (7, [.null, .null, .int 0, .int 0, .int 0, .int 0]))] (fun w => w = [(a, .inr (7, [.ref x, .ref y, .int 0, .int 0, .int 0, .int 0]))]) := by
  refine kSp.of rfl rfl (Nat.le_of_ble_eq_true rfl) ?_
  refine kv_aload_n 0 d_RD_init_0 rfl ?_
  refine kv_aload_n 1 d_RD_init_1 rfl ?_
  refine kv_aload_n 2 d_RD_init_2 rfl ?_
  refine kv_call (wr := []) (as := [.ref x, .ref y]) (c_CO_RD a x y) rfl d_RD_init_3 c0_CO_init rfl rfl lk_RD_1 in_CO_init rfl (Nat.le_of_ble_eq_true rfl) ⟨by decide, by decide, by decide, by decide⟩ ?_
  rintro w1 rfl
  exact kv_ret d_RD_init_6 rfl (by decide) (by decide) rfl
theorem kpq_up {G : jG} {N : Nat} {ps : List (Nat × Nat)} {p r : Nat} : (.inl (G.tP, N, .inr (.inr (.inr (.inr (va_up (fun j => (ps[j]?).map Prod.fst) ps.length (some p)))))) : va_E) = kPq G N (ps ++ [(p, r)]) := by
  unfold kPq
  congr 7
  funext j
  unfold va_up
  by_cases h : j = ps.length
  · subst h; simp
  · rw [if_neg h]
    show (ps[j]?).map Prod.fst = _
    by_cases h2 : j < ps.length
    · rw [List.getElem?_append_left h2]
    · rw [List.getElem?_eq_none (by omega), List.getElem?_eq_none (by rw [List.length_append, List.length_singleton]; omega)]
theorem kpics_up {G : jG} {ps : List (Nat × Nat)} {p r : Nat} : kpics G ps ++ [(p, kPi r), (r, kIa G 24)] = kpics G (ps ++ [(p, r)]) := by
  unfold kpics
  simp [List.flatMap_append]
theorem lp_SR_init {G : jG} {R : Room} {Z : kZ} {a q : Nat} {kc sc : Nat} (hf : 2 ≤ R.frames) (hl : 8 + (M_PI_init.nL + 11) + 40 ≤ R.locals) (hc : kc ≤ R.cells) (hsl : sc ≤ R.slots) (kont : ∀ ps k n, ps.length = 8 → k ≤ kc → n ≤ sc → kV G M_SR_init R Z k n 40 [(1, .int (nI ps.length)), (0, .ref a)] [] ((a, .inr (2, [.ref q, .int 0])) :: (q, kPq G 8 ps) :: kpics G ps)) : ∀ t ps k n, ps.length + t = 8 → k + 2 * t ≤ kc → n + 27 * t ≤ sc → kV G M_SR_init R Z k n 15 [(1, .int (nI ps.length)), (0, .ref a)] [] ((a, .inr (2, [.ref q, .int 0])) :: (q, kPq G 8 ps) :: kpics G ps) := by
  intro t
  induction t with
  | zero =>
    intro ps k n ht hk hn
    refine kv_iload_n 0 d_SR_init_15 rfl ?_
    refine kv_bipush 8 d_SR_init_16 rfl ?_
    refine kv_icmp_ge 40 d_SR_init_18 rfl (fun _ => kont ps k n (by omega) (by omega) (by omega)) (fun h => absurd (show (8 : Int32) ≤ nI ps.length from nI_le (a := 8) (by omega) (by omega)) h)
  | succ t ih =>
    intro ps k n ht hk hn
    refine kv_iload_n 0 d_SR_init_15 rfl ?_
    refine kv_bipush 8 d_SR_init_16 rfl ?_
    refine kv_icmp_ge 40 d_SR_init_18 rfl (fun h => absurd h (show ¬ (8 : Int32) ≤ nI ps.length from nI_ge (b := 8) (by omega) (by omega))) (fun _ => ?_)
    refine kv_aload_n 1 d_SR_init_21 rfl ?_
    refine kv_get (q0 := 0) (ci := 2) (kk := 0) d_SR_init_22 rfl juSR (by decide) rfl (jin1 63 rfl rfl) rfl rfl ?_
    refine kv_iload_n 0 d_SR_init_25 rfl ?_
    refine kv_new (ci := 1) (fs := [.null, .int 0, .int 0]) jtPI d_SR_init_26 rfl juPI jpPI (jin1 61 rfl rfl) (jin1 34 rfl rfl) (jin1 2 rfl rfl) kdPI (by omega) (by omega) (fun p => ?_)
    refine kv_dup d_SR_init_29 rfl ?_
    refine kv_call (wr := ((a, .inr (2, [.ref q, .int 0])) :: (q, kPq G 8 ps) :: kpics G ps)) (as := []) (c_PI_init p) rfl d_SR_init_30 c0_PI_init rfl rfl lk_SR_15 in_PI_init rfl (Nat.le_of_ble_eq_true rfl) ⟨hf, hl, by show k + 1 + 1 ≤ R.cells; omega, by show n + 3 + 24 ≤ R.slots; omega⟩ ?_
    rintro w1 ⟨r, rfl⟩
    refine kv_astq (q0 := 1) (qk := ((a, .inr (2, [.ref q, .int 0])) :: (q, kPq G 8 ps) :: kpics G ps).length + 0) (N := 8) d_SR_init_33 rfl (kap_r rfl) (nI_in (by omega) (by decide)) ?_
    rw [nI_clamp (show ps.length < 2 ^ 31 by omega)]
    show kV G M_SR_init R Z (k + 1 + 1) (n + 3 + 24) 34 [(1, .int (nI ps.length)), (0, .ref a)] [] ((a, .inr (2, [.ref q, .int 0])) :: (q, (.inl (G.tP, 8, .inr (.inr (.inr (.inr (va_up (fun j => (ps[j]?).map Prod.fst) ps.length (some p)))))) : va_E)) :: (kpics G ps ++ [(p, kPi r), (r, kIa G 24)]))
    rw [kpq_up (r := r), kpics_up]
    refine kv_iinc 0 (nI (ps ++ [(p, r)]).length) d_SR_init_34 rfl (by rw [List.length_append]; exact nI_1 _) (by decide) (jst0 rfl) ?_
    refine kv_goto 15 d_SR_init_37 rfl ?_
    exact ih (ps ++ [(p, r)]) _ _ (by simp; omega) (by omega) (by omega)
theorem lp_IC_init {G : jG} {R : Room} {Z : kZ} {a q : Nat} {kc sc : Nat} (hf : 2 ≤ R.frames) (hl : 8 + (M_PI_init.nL + 11) + 40 ≤ R.locals) (hc : kc ≤ R.cells) (hsl : sc ≤ R.slots) (kont : ∀ ps k n, ps.length = 4 → k ≤ kc → n ≤ sc → kV G M_IC_init R Z k n 38 [(1, .int (nI ps.length)), (0, .ref a)] [] ((a, .inr (0, [.ref q, .null, .null, .null, .null, .null, .null, .int 0])) :: (q, kPq G 4 ps) :: kpics G ps)) : ∀ t ps k n, ps.length + t = 4 → k + 2 * t ≤ kc → n + 27 * t ≤ sc → kV G M_IC_init R Z k n 14 [(1, .int (nI ps.length)), (0, .ref a)] [] ((a, .inr (0, [.ref q, .null, .null, .null, .null, .null, .null, .int 0])) :: (q, kPq G 4 ps) :: kpics G ps) := by
  intro t
  induction t with
  | zero =>
    intro ps k n ht hk hn
    refine kv_iload_n 0 d_IC_init_14 rfl ?_
    refine kv_iconst 4 d_IC_init_15 rfl ?_
    refine kv_icmp_ge 38 d_IC_init_16 rfl (fun _ => kont ps k n (by omega) (by omega) (by omega)) (fun h => absurd (show (4 : Int32) ≤ nI ps.length from nI_le (a := 4) (by omega) (by omega)) h)
  | succ t ih =>
    intro ps k n ht hk hn
    refine kv_iload_n 0 d_IC_init_14 rfl ?_
    refine kv_iconst 4 d_IC_init_15 rfl ?_
    refine kv_icmp_ge 38 d_IC_init_16 rfl (fun h => absurd h (show ¬ (4 : Int32) ≤ nI ps.length from nI_ge (b := 4) (by omega) (by omega))) (fun _ => ?_)
    refine kv_aload_n 1 d_IC_init_19 rfl ?_
    refine kv_get (q0 := 0) (ci := 0) (kk := 0) d_IC_init_20 rfl juIC (by decide) rfl (jin1 182 rfl rfl) rfl rfl ?_
    refine kv_iload_n 0 d_IC_init_23 rfl ?_
    refine kv_new (ci := 1) (fs := [.null, .int 0, .int 0]) jtPI d_IC_init_24 rfl juPI jpPI (jin1 32 rfl rfl) (jin1 34 rfl rfl) (jin1 2 rfl rfl) kdPI (by omega) (by omega) (fun p => ?_)
    refine kv_dup d_IC_init_27 rfl ?_
    refine kv_call (wr := ((a, .inr (0, [.ref q, .null, .null, .null, .null, .null, .null, .int 0])) :: (q, kPq G 4 ps) :: kpics G ps)) (as := []) (c_PI_init p) rfl d_IC_init_28 c0_PI_init rfl rfl lk_IC_15 in_PI_init rfl (Nat.le_of_ble_eq_true rfl) ⟨hf, hl, by show k + 1 + 1 ≤ R.cells; omega, by show n + 3 + 24 ≤ R.slots; omega⟩ ?_
    rintro w1 ⟨r, rfl⟩
    refine kv_astq (q0 := 1) (qk := ((a, .inr (0, [.ref q, .null, .null, .null, .null, .null, .null, .int 0])) :: (q, kPq G 4 ps) :: kpics G ps).length + 0) (N := 4) d_IC_init_31 rfl (kap_r rfl) (nI_in (by omega) (by decide)) ?_
    rw [nI_clamp (show ps.length < 2 ^ 31 by omega)]
    show kV G M_IC_init R Z (k + 1 + 1) (n + 3 + 24) 32 [(1, .int (nI ps.length)), (0, .ref a)] [] ((a, .inr (0, [.ref q, .null, .null, .null, .null, .null, .null, .int 0])) :: (q, (.inl (G.tP, 4, .inr (.inr (.inr (.inr (va_up (fun j => (ps[j]?).map Prod.fst) ps.length (some p)))))) : va_E)) :: (kpics G ps ++ [(p, kPi r), (r, kIa G 24)]))
    rw [kpq_up (r := r), kpics_up]
    refine kv_iinc 0 (nI (ps ++ [(p, r)]).length) d_IC_init_32 rfl (by rw [List.length_append]; exact nI_1 _) (by decide) (jst0 rfl) ?_
    refine kv_goto 14 d_IC_init_35 rfl ?_
    exact ih (ps ++ [(p, r)]) _ _ (by simp; omega) (by omega) (by omega)
theorem c_SR_init {G : jG} (a : Nat) : kSp G M_SR_init (jr 2 17 224) [.ref a] [(a, .inr (2, [.null, .int 0]))] (fun w => ∃ q ps, ps.length = 8 ∧ w = (a, .inr (2, [.ref q, .int 0])) :: (q, kPq G 8 ps) :: kpics G ps) := by
  refine kSp.of rfl rfl (Nat.le_of_ble_eq_true rfl) ?_
  refine kv_aload_n 0 d_SR_init_0 rfl ?_
  refine kv_objinit d_SR_init_1 (jin1 60 rfl rfl) lObjI lObjC (by decide) (by decide) (by decide) ?_
  refine kv_aload_n 0 d_SR_init_4 rfl ?_
  refine kv_bipush 8 d_SR_init_5 rfl ?_
  refine kv_newq d_SR_init_7 (jin1 61 rfl rfl) (by decide) rfl (by decide) (by decide) (by decide) (fun q => ?_)
  refine kv_putF (q0 := 0) (ci := 2) (kk := 0) jtSR d_SR_init_10 rfl juSR jpSR jnSR (by decide) rfl (jin1 63 rfl rfl) rfl rfl rfl rfl rfl (Nat.le_of_ble_eq_true rfl) ?_
  refine kv_iconst 0 d_SR_init_13 rfl ?_
  refine kv_istore_n (i := 1) (ls1 := [(1, .int (nI 0)), (0, .ref a)]) d_SR_init_14 rfl (by decide) (jsto_new rfl) ?_
  exact lp_SR_init (q := q) (kc := 17) (sc := 224) (by decide) (by decide) (by decide) (by decide) (fun ps k n h1 h2 h3 => kv_ret d_SR_init_40 rfl h2 h3 ⟨q, ps, h1, rfl⟩) 8 [] _ _ rfl (by decide) (by decide)
theorem c_IC_init {G : jG} (a : Nat) : kSp G M_IC_init (jr 4 37 16878) [.ref a] [(a, .inr (0, [.null, .null, .null, .null, .null, .null, .null, .int 0]))] (fun w => ∃ q ps b q2 ps2 c c1 c2 c3 d d1 e e1 f g, ps.length = 4 ∧ ps2.length = 8 ∧ w = (a, .inr (0, [.ref q, .ref b, .ref c, .ref d, .ref e, .ref f, .ref g, .int 0])) :: (q, kPq G 4 ps) :: (kpics G ps ++ ((b, .inr (2, [.ref q2, .int 0])) :: (q2, kPq G 8 ps2) :: kpics G ps2) ++ [(c, .inr (3, [.ref c1, .ref c2, .ref c3, .int 0])), (c1, kIa G 12), (c2, kIa G 12), (c3, kIa G 12)] ++ [(d, .inr (4, [.ref d1, .int 0])), (d1, kIa G 600)] ++ [(e, .inr (5, [.ref e1])), (e1, kIa G 15884)] ++ [(f, .inr (6, [.ref e, .ref d, .int 0, .int 0, .int 0, .int 0, .int 0]))] ++ [(g, .inr (7, [.ref e, .ref d, .int 0, .int 0, .int 0, .int 0]))])) := by
  refine kSp.of rfl rfl (Nat.le_of_ble_eq_true rfl) ?_
  refine kv_aload_n 0 d_IC_init_0 rfl ?_
  refine kv_objinit d_IC_init_1 (jin1 29 rfl rfl) lObjI lObjC (by decide) (by decide) (by decide) ?_
  refine kv_aload_n 0 d_IC_init_4 rfl ?_
  refine kv_iconst 4 d_IC_init_5 rfl ?_
  refine kv_newq d_IC_init_6 (jin1 32 rfl rfl) (by decide) rfl (by decide) (by decide) (by decide) (fun q => ?_)
  refine kv_putF (q0 := 0) (ci := 0) (kk := 0) jtIC d_IC_init_9 rfl juIC jpIC jnIC (by decide) rfl (jin1 182 rfl rfl) rfl rfl rfl rfl rfl (Nat.le_of_ble_eq_true rfl) ?_
  refine kv_iconst 0 d_IC_init_12 rfl ?_
  refine kv_istore_n (i := 1) (ls1 := [(1, .int (nI 0)), (0, .ref a)]) d_IC_init_13 rfl (by decide) (jsto_new rfl) ?_
  refine lp_IC_init (q := q) (kc := 9) (sc := 112) (by decide) (by decide) (by decide) (by decide) (fun ps k n hp hk hn => ?_) 4 [] _ _ rfl (by decide) (by decide)
  refine kv_aload_n 1 d_IC_init_38 rfl ?_
  refine kv_new (ci := 2) (fs := [.null, .int 0]) jtSR d_IC_init_39 rfl juSR jpSR (jin1 55 rfl rfl) (jin1 56 rfl rfl) (jin1 3 rfl rfl) kdSR (by simp only [jr]; omega) (by simp only [jr]; omega) (fun b => ?_)
  refine kv_dup d_IC_init_42 rfl ?_
  refine kv_call (wr := (a, .inr (0, [.ref q, .null, .null, .null, .null, .null, .null, .int 0])) :: ((q, kPq G 4 ps) :: kpics G ps)) (as := []) (c_SR_init b) rfl d_IC_init_43 c0_SR_init rfl rfl lk_IC_18 in_SR_init rfl (Nat.le_of_ble_eq_true rfl) ⟨by decide, by decide, by simp only [jr]; omega, by simp only [jr]; omega⟩ ?_
  rintro w1 ⟨q2, ps2, hp2, rfl⟩
  refine kv_putF (q0 := 0) (ci := 0) (kk := 1) jtIC d_IC_init_46 rfl juIC jpIC jnIC (by decide) rfl (jin1 183 rfl rfl) rfl rfl rfl rfl rfl (Nat.le_of_ble_eq_true rfl) ?_
  show kV G M_IC_init _ _ _ _ 49 [(1, .int (nI ps.length)), (0, .ref a)] [] ((a, .inr (0, [.ref q, .ref b, .null, .null, .null, .null, .null, .int 0])) :: (((q, kPq G 4 ps) :: kpics G ps) ++ ((b, .inr (2, [.ref q2, .int 0])) :: (q2, kPq G 8 ps2) :: kpics G ps2)))
  refine kv_aload_n 1 d_IC_init_49 rfl ?_
  refine kv_new (ci := 3) (fs := [.null, .null, .null, .int 0]) jtMR d_IC_init_50 rfl juMR jpMR (jin1 71 rfl rfl) (jin1 72 rfl rfl) (jin1 4 rfl rfl) kdMR (by simp only [jr]; omega) (by simp only [jr]; omega) (fun c => ?_)
  refine kv_dup d_IC_init_53 rfl ?_
  refine kv_call (wr := (a, .inr (0, [.ref q, .ref b, .null, .null, .null, .null, .null, .int 0])) :: (((q, kPq G 4 ps) :: kpics G ps) ++ ((b, .inr (2, [.ref q2, .int 0])) :: (q2, kPq G 8 ps2) :: kpics G ps2))) (as := []) (c_MR_init c) rfl d_IC_init_54 c0_MR_init rfl rfl lk_IC_25 in_MR_init rfl (Nat.le_of_ble_eq_true rfl) ⟨by decide, by decide, by simp only [jr]; omega, by simp only [jr]; omega⟩ ?_
  rintro w1 ⟨c1, c2, c3, rfl⟩
  refine kv_putF (q0 := 0) (ci := 0) (kk := 2) jtIC d_IC_init_57 rfl juIC jpIC jnIC (by decide) rfl (jin1 184 rfl rfl) rfl rfl rfl rfl rfl (Nat.le_of_ble_eq_true rfl) ?_
  show kV G M_IC_init _ _ _ _ 60 [(1, .int (nI ps.length)), (0, .ref a)] [] ((a, .inr (0, [.ref q, .ref b, .ref c, .null, .null, .null, .null, .int 0])) :: ((((q, kPq G 4 ps) :: kpics G ps) ++ ((b, .inr (2, [.ref q2, .int 0])) :: (q2, kPq G 8 ps2) :: kpics G ps2)) ++ ([(c, .inr (3, [.ref c1, .ref c2, .ref c3, .int 0])), (c1, kIa G 12), (c2, kIa G 12), (c3, kIa G 12)])))
  refine kv_aload_n 1 d_IC_init_60 rfl ?_
  refine kv_new (ci := 4) (fs := [.null, .int 0]) jtBR d_IC_init_61 rfl juBR jpBR (jin1 94 rfl rfl) (jin1 95 rfl rfl) (jin1 5 rfl rfl) kdBR (by simp only [jr]; omega) (by simp only [jr]; omega) (fun d => ?_)
  refine kv_dup d_IC_init_64 rfl ?_
  refine kv_call (wr := (a, .inr (0, [.ref q, .ref b, .ref c, .null, .null, .null, .null, .int 0])) :: ((((q, kPq G 4 ps) :: kpics G ps) ++ ((b, .inr (2, [.ref q2, .int 0])) :: (q2, kPq G 8 ps2) :: kpics G ps2)) ++ ([(c, .inr (3, [.ref c1, .ref c2, .ref c3, .int 0])), (c1, kIa G 12), (c2, kIa G 12), (c3, kIa G 12)]))) (as := []) (c_BR_init d) rfl d_IC_init_65 c0_BR_init rfl rfl lk_IC_32 in_BR_init rfl (Nat.le_of_ble_eq_true rfl) ⟨by decide, by decide, by simp only [jr]; omega, by simp only [jr]; omega⟩ ?_
  rintro w1 ⟨d1, rfl⟩
  refine kv_putF (q0 := 0) (ci := 0) (kk := 3) jtIC d_IC_init_68 rfl juIC jpIC jnIC (by decide) rfl (jin1 185 rfl rfl) rfl rfl rfl rfl rfl (Nat.le_of_ble_eq_true rfl) ?_
  show kV G M_IC_init _ _ _ _ 71 [(1, .int (nI ps.length)), (0, .ref a)] [] ((a, .inr (0, [.ref q, .ref b, .ref c, .ref d, .null, .null, .null, .int 0])) :: (((((q, kPq G 4 ps) :: kpics G ps) ++ ((b, .inr (2, [.ref q2, .int 0])) :: (q2, kPq G 8 ps2) :: kpics G ps2)) ++ ([(c, .inr (3, [.ref c1, .ref c2, .ref c3, .int 0])), (c1, kIa G 12), (c2, kIa G 12), (c3, kIa G 12)])) ++ ([(d, .inr (4, [.ref d1, .int 0])), (d1, kIa G 600)])))
  refine kv_aload_n 1 d_IC_init_71 rfl ?_
  refine kv_new (ci := 5) (fs := [.null]) jtCX d_IC_init_72 rfl juCX jpCX (jin1 109 rfl rfl) (jin1 110 rfl rfl) (jin1 6 rfl rfl) kdCX (by simp only [jr]; omega) (by simp only [jr]; omega) (fun e => ?_)
  refine kv_dup d_IC_init_75 rfl ?_
  refine kv_call (wr := (a, .inr (0, [.ref q, .ref b, .ref c, .ref d, .null, .null, .null, .int 0])) :: (((((q, kPq G 4 ps) :: kpics G ps) ++ ((b, .inr (2, [.ref q2, .int 0])) :: (q2, kPq G 8 ps2) :: kpics G ps2)) ++ ([(c, .inr (3, [.ref c1, .ref c2, .ref c3, .int 0])), (c1, kIa G 12), (c2, kIa G 12), (c3, kIa G 12)])) ++ ([(d, .inr (4, [.ref d1, .int 0])), (d1, kIa G 600)]))) (as := []) (c_CX_init e) rfl d_IC_init_76 c0_CX_init rfl rfl lk_IC_39 in_CX_init rfl (Nat.le_of_ble_eq_true rfl) ⟨by decide, by decide, by simp only [jr]; omega, by simp only [jr]; omega⟩ ?_
  rintro w1 ⟨e1, rfl⟩
  refine kv_putF (q0 := 0) (ci := 0) (kk := 4) jtIC d_IC_init_79 rfl juIC jpIC jnIC (by decide) rfl (jin1 186 rfl rfl) rfl rfl rfl rfl rfl (Nat.le_of_ble_eq_true rfl) ?_
  show kV G M_IC_init _ _ _ _ 82 [(1, .int (nI ps.length)), (0, .ref a)] [] ((a, .inr (0, [.ref q, .ref b, .ref c, .ref d, .ref e, .null, .null, .int 0])) :: ((((((q, kPq G 4 ps) :: kpics G ps) ++ ((b, .inr (2, [.ref q2, .int 0])) :: (q2, kPq G 8 ps2) :: kpics G ps2)) ++ ([(c, .inr (3, [.ref c1, .ref c2, .ref c3, .int 0])), (c1, kIa G 12), (c2, kIa G 12), (c3, kIa G 12)])) ++ ([(d, .inr (4, [.ref d1, .int 0])), (d1, kIa G 600)])) ++ ([(e, .inr (5, [.ref e1])), (e1, kIa G 15884)])))
  refine kv_aload_n 1 d_IC_init_82 rfl ?_
  refine kv_new (ci := 6) (fs := [.null, .null, .int 0, .int 0, .int 0, .int 0, .int 0]) jtWR d_IC_init_83 rfl juWR jpWR (jin1 119 rfl rfl) (jin1 120 rfl rfl) (jin1 8 rfl rfl) kdWR (by simp only [jr]; omega) (by simp only [jr]; omega) (fun f => ?_)
  refine kv_dup d_IC_init_86 rfl ?_
  refine kv_aload_n 1 d_IC_init_87 rfl ?_
  refine kv_get (q0 := 0) (ci := 0) (kk := 4) d_IC_init_88 rfl juIC (by decide) rfl (jin1 186 rfl rfl) rfl rfl ?_
  refine kv_aload_n 1 d_IC_init_91 rfl ?_
  refine kv_get (q0 := 0) (ci := 0) (kk := 3) d_IC_init_92 rfl juIC (by decide) rfl (jin1 185 rfl rfl) rfl rfl ?_
  refine kv_call (wr := (a, .inr (0, [.ref q, .ref b, .ref c, .ref d, .ref e, .null, .null, .int 0])) :: ((((((q, kPq G 4 ps) :: kpics G ps) ++ ((b, .inr (2, [.ref q2, .int 0])) :: (q2, kPq G 8 ps2) :: kpics G ps2)) ++ ([(c, .inr (3, [.ref c1, .ref c2, .ref c3, .int 0])), (c1, kIa G 12), (c2, kIa G 12), (c3, kIa G 12)])) ++ ([(d, .inr (4, [.ref d1, .int 0])), (d1, kIa G 600)])) ++ ([(e, .inr (5, [.ref e1])), (e1, kIa G 15884)]))) (as := [.ref e, .ref d]) (c_WR_init f e d) rfl d_IC_init_95 c0_WR_init rfl rfl lk_IC_46 in_WR_init rfl (Nat.le_of_ble_eq_true rfl) ⟨by decide, by decide, by simp only [jr]; omega, by simp only [jr]; omega⟩ ?_
  rintro w1 rfl
  refine kv_putF (q0 := 0) (ci := 0) (kk := 5) jtIC d_IC_init_98 rfl juIC jpIC jnIC (by decide) rfl (jin1 187 rfl rfl) rfl rfl rfl rfl rfl (Nat.le_of_ble_eq_true rfl) ?_
  show kV G M_IC_init _ _ _ _ 101 [(1, .int (nI ps.length)), (0, .ref a)] [] ((a, .inr (0, [.ref q, .ref b, .ref c, .ref d, .ref e, .ref f, .null, .int 0])) :: (((((((q, kPq G 4 ps) :: kpics G ps) ++ ((b, .inr (2, [.ref q2, .int 0])) :: (q2, kPq G 8 ps2) :: kpics G ps2)) ++ ([(c, .inr (3, [.ref c1, .ref c2, .ref c3, .int 0])), (c1, kIa G 12), (c2, kIa G 12), (c3, kIa G 12)])) ++ ([(d, .inr (4, [.ref d1, .int 0])), (d1, kIa G 600)])) ++ ([(e, .inr (5, [.ref e1])), (e1, kIa G 15884)])) ++ ([(f, .inr (6, [.ref e, .ref d, .int 0, .int 0, .int 0, .int 0, .int 0]))])))
  refine kv_aload_n 1 d_IC_init_101 rfl ?_
  refine kv_new (ci := 7) (fs := [.null, .null, .int 0, .int 0, .int 0, .int 0]) jtRD d_IC_init_102 rfl juRD jpRD (jin1 167 rfl rfl) (jin1 168 rfl rfl) (jin1 9 rfl rfl) kdRD (by simp only [jr]; omega) (by simp only [jr]; omega) (fun g => ?_)
  refine kv_dup d_IC_init_105 rfl ?_
  refine kv_aload_n 1 d_IC_init_106 rfl ?_
  refine kv_get (q0 := 0) (ci := 0) (kk := 4) d_IC_init_107 rfl juIC (by decide) rfl (jin1 186 rfl rfl) rfl rfl ?_
  refine kv_aload_n 1 d_IC_init_110 rfl ?_
  refine kv_get (q0 := 0) (ci := 0) (kk := 3) d_IC_init_111 rfl juIC (by decide) rfl (jin1 185 rfl rfl) rfl rfl ?_
  refine kv_call (wr := (a, .inr (0, [.ref q, .ref b, .ref c, .ref d, .ref e, .ref f, .null, .int 0])) :: (((((((q, kPq G 4 ps) :: kpics G ps) ++ ((b, .inr (2, [.ref q2, .int 0])) :: (q2, kPq G 8 ps2) :: kpics G ps2)) ++ ([(c, .inr (3, [.ref c1, .ref c2, .ref c3, .int 0])), (c1, kIa G 12), (c2, kIa G 12), (c3, kIa G 12)])) ++ ([(d, .inr (4, [.ref d1, .int 0])), (d1, kIa G 600)])) ++ ([(e, .inr (5, [.ref e1])), (e1, kIa G 15884)])) ++ ([(f, .inr (6, [.ref e, .ref d, .int 0, .int 0, .int 0, .int 0, .int 0]))]))) (as := [.ref e, .ref d]) (c_RD_init g e d) rfl d_IC_init_114 c0_RD_init rfl rfl lk_IC_55 in_RD_init rfl (Nat.le_of_ble_eq_true rfl) ⟨by decide, by decide, by simp only [jr]; omega, by simp only [jr]; omega⟩ ?_
  rintro w1 rfl
  refine kv_putF (q0 := 0) (ci := 0) (kk := 6) jtIC d_IC_init_117 rfl juIC jpIC jnIC (by decide) rfl (jin1 188 rfl rfl) rfl rfl rfl rfl rfl (Nat.le_of_ble_eq_true rfl) ?_
  show kV G M_IC_init _ _ _ _ 120 [(1, .int (nI ps.length)), (0, .ref a)] [] ((a, .inr (0, [.ref q, .ref b, .ref c, .ref d, .ref e, .ref f, .ref g, .int 0])) :: ((((((((q, kPq G 4 ps) :: kpics G ps) ++ ((b, .inr (2, [.ref q2, .int 0])) :: (q2, kPq G 8 ps2) :: kpics G ps2)) ++ ([(c, .inr (3, [.ref c1, .ref c2, .ref c3, .int 0])), (c1, kIa G 12), (c2, kIa G 12), (c3, kIa G 12)])) ++ ([(d, .inr (4, [.ref d1, .int 0])), (d1, kIa G 600)])) ++ ([(e, .inr (5, [.ref e1])), (e1, kIa G 15884)])) ++ ([(f, .inr (6, [.ref e, .ref d, .int 0, .int 0, .int 0, .int 0, .int 0]))])) ++ ([(g, .inr (7, [.ref e, .ref d, .int 0, .int 0, .int 0, .int 0]))])))
  refine kv_aload_n 1 d_IC_init_120 rfl ?_
  refine kv_iconst 0 d_IC_init_121 rfl ?_
  refine kv_put (q0 := 0) (ci := 0) (kk := 7) jtIC d_IC_init_122 rfl juIC jpIC jnIC (by decide) rfl (jin1 189 rfl rfl) rfl rfl rfl rfl (Nat.le_of_ble_eq_true rfl) ?_
  exact kv_ret d_IC_init_125 rfl (by simp only [jr]; omega) (by simp only [jr]; omega) ⟨q, ps, b, q2, ps2, c, c1, c2, c3, d, d1, e, e1, f, g, hp, hp2, rfl⟩
def kIm (G : jG) (i : Nat) : va_E := .inl (G.tI, 12, .inl fun k => if k < i then 1 else 0)
theorem kim_up {G : jG} {i : Nat} : (.inl (G.tI, 12, .inl (upd (fun k => if k < i then 1 else 0) i 1)) : va_E) = kIm G (i + 1) := by
  unfold kIm
  congr 4
  funext j
  unfold upd
  by_cases h : j = i
  · rw [if_pos h, if_pos (by omega)]
  · rw [if_neg h]
    show (if j < i then (1 : Int32) else 0) = _
    by_cases h2 : j < i
    · rw [if_pos h2, if_pos (by omega)]
    · rw [if_neg h2, if_neg (by omega)]
theorem lp_MO_init {G : jG} {R : Room} {Z : kZ} {a r1 r2 r3 r6 r7 r8 r10 r18 k n : Nat} (kont : kV G M_MO_init R Z k n 98 [(1, .int (nI 4)), (0, .ref a)] [] [(a, .inr (8, [.int 0, .ref r1, .ref r2, .ref r3, .int 0, .int 0, .ref r6, .ref r7, .ref r8, .int 0, .ref r10, .int 0, .int 0, .int 0, .int 0, .int 0, .int 0, .int 0, .ref r18, .int 0, .int 0, .int 0, .int 0])), (r1, kIa G 288), (r2, kIm G 4), (r3, kIm G 4), (r6, kIa G 12), (r7, kIa G 12), (r8, kIa G 12), (r10, kIa G 600), (r18, kIa G 15883)]) : ∀ t i, i + t = 4 → kV G M_MO_init R Z k n 73 [(1, .int (nI i)), (0, .ref a)] [] [(a, .inr (8, [.int 0, .ref r1, .ref r2, .ref r3, .int 0, .int 0, .ref r6, .ref r7, .ref r8, .int 0, .ref r10, .int 0, .int 0, .int 0, .int 0, .int 0, .int 0, .int 0, .ref r18, .int 0, .int 0, .int 0, .int 0])), (r1, kIa G 288), (r2, kIm G i), (r3, kIm G i), (r6, kIa G 12), (r7, kIa G 12), (r8, kIa G 12), (r10, kIa G 600), (r18, kIa G 15883)] := by
  intro t
  induction t with
  | zero =>
    intro i hi
    have : i = 4 := by omega
    subst this
    refine kv_iload_n 0 d_MO_init_73 rfl ?_
    refine kv_iconst 4 d_MO_init_74 rfl ?_
    refine kv_icmp_ge 98 d_MO_init_75 rfl (fun _ => kont) (fun h => absurd (by decide) h)
  | succ t ih =>
    intro i hi
    refine kv_iload_n 0 d_MO_init_73 rfl ?_
    refine kv_iconst 4 d_MO_init_74 rfl ?_
    refine kv_icmp_ge 98 d_MO_init_75 rfl (fun h => absurd h (show ¬ (4 : Int32) ≤ nI i from nI_ge (b := 4) (by omega) (by omega))) (fun _ => ?_)
    refine kv_aload_n 1 d_MO_init_78 rfl ?_
    refine kv_get (q0 := 0) (ci := 8) (kk := 2) d_MO_init_79 rfl juMO (by decide) rfl (jin4 2 rfl rfl) rfl rfl ?_
    refine kv_iload_n 0 d_MO_init_82 rfl ?_
    refine kv_iconst 1 d_MO_init_83 rfl ?_
    refine kv_iast (q0 := 2) (N := 12) d_MO_init_84 rfl (nI_in (by omega) (by decide)) ?_
    rw [nI_clamp (show i < 2 ^ 31 by omega), kim_up]
    show kV G M_MO_init R Z k n 85 [(1, .int (nI i)), (0, .ref a)] [] [(a, .inr (8, [.int 0, .ref r1, .ref r2, .ref r3, .int 0, .int 0, .ref r6, .ref r7, .ref r8, .int 0, .ref r10, .int 0, .int 0, .int 0, .int 0, .int 0, .int 0, .int 0, .ref r18, .int 0, .int 0, .int 0, .int 0])), (r1, kIa G 288), (r2, kIm G (i + 1)), (r3, kIm G i), (r6, kIa G 12), (r7, kIa G 12), (r8, kIa G 12), (r10, kIa G 600), (r18, kIa G 15883)]
    refine kv_aload_n 1 d_MO_init_85 rfl ?_
    refine kv_get (q0 := 0) (ci := 8) (kk := 3) d_MO_init_86 rfl juMO (by decide) rfl (jin4 3 rfl rfl) rfl rfl ?_
    refine kv_iload_n 0 d_MO_init_89 rfl ?_
    refine kv_iconst 1 d_MO_init_90 rfl ?_
    refine kv_iast (q0 := 3) (N := 12) d_MO_init_91 rfl (nI_in (by omega) (by decide)) ?_
    rw [nI_clamp (show i < 2 ^ 31 by omega), kim_up]
    show kV G M_MO_init R Z k n 92 [(1, .int (nI i)), (0, .ref a)] [] [(a, .inr (8, [.int 0, .ref r1, .ref r2, .ref r3, .int 0, .int 0, .ref r6, .ref r7, .ref r8, .int 0, .ref r10, .int 0, .int 0, .int 0, .int 0, .int 0, .int 0, .int 0, .ref r18, .int 0, .int 0, .int 0, .int 0])), (r1, kIa G 288), (r2, kIm G (i + 1)), (r3, kIm G (i + 1)), (r6, kIa G 12), (r7, kIa G 12), (r8, kIa G 12), (r10, kIa G 600), (r18, kIa G 15883)]
    refine kv_iinc 0 (nI (i + 1)) d_MO_init_92 rfl (nI_1 _) (by decide) (jst0 rfl) ?_
    refine kv_goto 73 d_MO_init_95 rfl ?_
    exact ih (i + 1) (by omega)
theorem c_MO_init {G : jG} (a : Nat) : kSp G M_MO_init (jr 1 8 16831) [.ref a] [(a, .inr (8, [.int 0, .null, .null, .null, .int 0, .int 0, .null, .null, .null, .int 0, .null, .int 0, .int 0, .int 0, .int 0, .int 0, .int 0, .int 0, .null, .int 0, .int 0, .int 0, .int 0]))] (fun w => ∃ r1 r2 r3 r6 r7 r8 r10 r18, w = [(a, .inr (8, [.int 0, .ref r1, .ref r2, .ref r3, .int 0, .int 0, .ref r6, .ref r7, .ref r8, .int 0, .ref r10, .int 0, .int 0, .int 0, .int 0, .int 0, .int 0, .int 0, .ref r18, .int 0, .int 0, .int 0, .int 0])), (r1, kIa G 288), (r2, kIm G 4), (r3, kIm G 4), (r6, kIa G 12), (r7, kIa G 12), (r8, kIa G 12), (r10, kIa G 600), (r18, kIa G 15883)]) := by
  refine kSp.of rfl rfl (Nat.le_of_ble_eq_true rfl) ?_
  refine kv_aload_n 0 d_MO_init_0 rfl ?_
  refine kv_objinit d_MO_init_1 (jin3 239 rfl rfl) lObjI lObjC (by decide) (by decide) (by decide) ?_
  refine kv_aload_n 0 d_MO_init_4 rfl ?_
  refine kv_sipush 288 d_MO_init_5 rfl ?_
  refine kv_newi d_MO_init_8 lArI (by decide) rfl (by decide) (by decide) (by decide) (fun r1 => ?_)
  refine kv_putF (q0 := 0) (ci := 8) (kk := 1) jtMO d_MO_init_10 rfl juMO jpMO jnMO (by decide) rfl (jin4 1 rfl rfl) rfl rfl rfl rfl rfl (Nat.le_of_ble_eq_true rfl) ?_
  refine kv_aload_n 0 d_MO_init_13 rfl ?_
  refine kv_bipush 12 d_MO_init_14 rfl ?_
  refine kv_newi d_MO_init_16 lArI (by decide) rfl (by decide) (by decide) (by decide) (fun r2 => ?_)
  refine kv_putF (q0 := 0) (ci := 8) (kk := 2) jtMO d_MO_init_18 rfl juMO jpMO jnMO (by decide) rfl (jin4 2 rfl rfl) rfl rfl rfl rfl rfl (Nat.le_of_ble_eq_true rfl) ?_
  refine kv_aload_n 0 d_MO_init_21 rfl ?_
  refine kv_bipush 12 d_MO_init_22 rfl ?_
  refine kv_newi d_MO_init_24 lArI (by decide) rfl (by decide) (by decide) (by decide) (fun r3 => ?_)
  refine kv_putF (q0 := 0) (ci := 8) (kk := 3) jtMO d_MO_init_26 rfl juMO jpMO jnMO (by decide) rfl (jin4 3 rfl rfl) rfl rfl rfl rfl rfl (Nat.le_of_ble_eq_true rfl) ?_
  refine kv_aload_n 0 d_MO_init_29 rfl ?_
  refine kv_bipush 12 d_MO_init_30 rfl ?_
  refine kv_newi d_MO_init_32 lArI (by decide) rfl (by decide) (by decide) (by decide) (fun r6 => ?_)
  refine kv_putF (q0 := 0) (ci := 8) (kk := 6) jtMO d_MO_init_34 rfl juMO jpMO jnMO (by decide) rfl (jin4 6 rfl rfl) rfl rfl rfl rfl rfl (Nat.le_of_ble_eq_true rfl) ?_
  refine kv_aload_n 0 d_MO_init_37 rfl ?_
  refine kv_bipush 12 d_MO_init_38 rfl ?_
  refine kv_newi d_MO_init_40 lArI (by decide) rfl (by decide) (by decide) (by decide) (fun r7 => ?_)
  refine kv_putF (q0 := 0) (ci := 8) (kk := 7) jtMO d_MO_init_42 rfl juMO jpMO jnMO (by decide) rfl (jin4 7 rfl rfl) rfl rfl rfl rfl rfl (Nat.le_of_ble_eq_true rfl) ?_
  refine kv_aload_n 0 d_MO_init_45 rfl ?_
  refine kv_bipush 12 d_MO_init_46 rfl ?_
  refine kv_newi d_MO_init_48 lArI (by decide) rfl (by decide) (by decide) (by decide) (fun r8 => ?_)
  refine kv_putF (q0 := 0) (ci := 8) (kk := 8) jtMO d_MO_init_50 rfl juMO jpMO jnMO (by decide) rfl (jin4 8 rfl rfl) rfl rfl rfl rfl rfl (Nat.le_of_ble_eq_true rfl) ?_
  refine kv_aload_n 0 d_MO_init_53 rfl ?_
  refine kv_sipush 600 d_MO_init_54 rfl ?_
  refine kv_newi d_MO_init_57 lArI (by decide) rfl (by decide) (by decide) (by decide) (fun r10 => ?_)
  refine kv_putF (q0 := 0) (ci := 8) (kk := 10) jtMO d_MO_init_59 rfl juMO jpMO jnMO (by decide) rfl (jin4 10 rfl rfl) rfl rfl rfl rfl rfl (Nat.le_of_ble_eq_true rfl) ?_
  refine kv_aload_n 0 d_MO_init_62 rfl ?_
  refine kv_sipush 15883 d_MO_init_63 rfl ?_
  refine kv_newi d_MO_init_66 lArI (by decide) rfl (by decide) (by decide) (by decide) (fun r18 => ?_)
  refine kv_putF (q0 := 0) (ci := 8) (kk := 18) jtMO d_MO_init_68 rfl juMO jpMO jnMO (by decide) rfl (jin4 18 rfl rfl) rfl rfl rfl rfl rfl (Nat.le_of_ble_eq_true rfl) ?_
  refine kv_iconst 0 d_MO_init_71 rfl ?_
  refine kv_istore_n (i := 1) (ls1 := [(1, .int (nI 0)), (0, .ref a)]) d_MO_init_72 rfl (by decide) (jsto_new rfl) ?_
  exact lp_MO_init (kv_ret d_MO_init_98 rfl (by decide) (by decide) ⟨r1, r2, r3, r6, r7, r8, r10, r18, rfl⟩) 4 0 rfl
