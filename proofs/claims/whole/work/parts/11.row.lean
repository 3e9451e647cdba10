abbrev c_Row_init : ByteArray := prog_6_method_1_code
abbrev y_Row_init : jM := (⟨"MarkBlocks$Row", "<init>", "()V"⟩, c_Row_init, 1, none)
def k_Row_init : List (Nat × Instr × Nat) := [(0, .aload_n 0, 1), (1, .invokespecial 3, 3), (4, .aload_n 0, 1), (5, .bipush 32, 2), (7, .newarray .int, 2), (9, .putfield 11, 3), (12, .aload_n 0, 1), (13, .iconst 0, 1), (14, .putfield 15, 3), (17, .return_, 1)]
theorem dk_Row_init : ∀ e ∈ k_Row_init, decode c_Row_init e.1 = .ok e.2 := by decide +kernel
abbrev c_Row_size : ByteArray := prog_6_method_2_code
abbrev y_Row_size : jM := (⟨"MarkBlocks$Row", "size", "()I"⟩, c_Row_size, 1, (some .int))
def k_Row_size : List (Nat × Instr × Nat) := [(0, .aload_n 0, 1), (1, .getfield 15, 3), (4, .ireturn, 1)]
theorem dk_Row_size : ∀ e ∈ k_Row_size, decode c_Row_size e.1 = .ok e.2 := by decide +kernel
abbrev c_Row_at : ByteArray := prog_6_method_3_code
abbrev y_Row_at : jM := (⟨"MarkBlocks$Row", "at", "(I)I"⟩, c_Row_at, 2, (some .int))
def k_Row_at : List (Nat × Instr × Nat) := [(0, .iload_n 1, 1), (1, .ifCond .lt 29, 3), (4, .iload_n 1, 1), (5, .aload_n 0, 1), (6, .getfield 15, 3), (9, .if_icmp .ge 21, 3), (12, .iload_n 1, 1), (13, .aload_n 0, 1), (14, .getfield 11, 3), (17, .arraylength, 1), (18, .if_icmp .ge 12, 3), (21, .aload_n 0, 1), (22, .getfield 11, 3), (25, .iload_n 1, 1), (26, .iaload, 1), (27, .goto 4, 3), (30, .iconst (-1), 1), (31, .ireturn, 1)]
theorem dk_Row_at : ∀ e ∈ k_Row_at, decode c_Row_at e.1 = .ok e.2 := by decide +kernel
abbrev c_Row_add : ByteArray := prog_6_method_4_code
abbrev y_Row_add : jM := (⟨"MarkBlocks$Row", "add", "(I)V"⟩, c_Row_add, 2, none)
def k_Row_add : List (Nat × Instr × Nat) := [(0, .aload_n 0, 1), (1, .getfield 15, 3), (4, .sipush 16384, 3), (7, .if_icmp .lt 4, 3), (10, .return_, 1), (11, .aload_n 0, 1), (12, .getfield 15, 3), (15, .aload_n 0, 1), (16, .getfield 11, 3), (19, .arraylength, 1), (20, .if_icmp .lt 21, 3), (23, .aload_n 0, 1), (24, .aload_n 0, 1), (25, .getfield 11, 3), (28, .iconst 2, 1), (29, .aload_n 0, 1), (30, .getfield 11, 3), (33, .arraylength, 1), (34, .imul, 1), (35, .invokestatic 19, 3), (38, .putfield 11, 3), (41, .aload_n 0, 1), (42, .getfield 11, 3), (45, .aload_n 0, 1), (46, .getfield 15, 3), (49, .iload_n 1, 1), (50, .iastore, 1), (51, .aload_n 0, 1), (52, .dup, 1), (53, .getfield 15, 3), (56, .iconst 1, 1), (57, .iadd, 1), (58, .putfield 15, 3), (61, .return_, 1)]
theorem dk_Row_add : ∀ e ∈ k_Row_add, decode c_Row_add e.1 = .ok e.2 := by decide +kernel
abbrev c_Row_cut : ByteArray := prog_6_method_5_code
abbrev y_Row_cut : jM := (⟨"MarkBlocks$Row", "cut", "(I)V"⟩, c_Row_cut, 2, none)
def k_Row_cut : List (Nat × Instr × Nat) := [(0, .iload_n 1, 1), (1, .ifCond .lt 16, 3), (4, .iload_n 1, 1), (5, .aload_n 0, 1), (6, .getfield 15, 3), (9, .if_icmp .ge 8, 3), (12, .aload_n 0, 1), (13, .iload_n 1, 1), (14, .putfield 15, 3), (17, .return_, 1)]
theorem dk_Row_cut : ∀ e ∈ k_Row_cut, decode c_Row_cut e.1 = .ok e.2 := by decide +kernel
