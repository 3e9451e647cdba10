abbrev c_Line_init : ByteArray := prog_4_method_1_code
abbrev y_Line_init : jM := (⟨"MarkBlocks$Line", "<init>", "()V"⟩, c_Line_init, 1, none)
def k_Line_init : List (Nat × Instr × Nat) := [(0, .aload_n 0, 1), (1, .invokespecial 3, 3), (4, .aload_n 0, 1), (5, .new 9, 3), (8, .dup, 1), (9, .invokespecial 11, 3), (12, .putfield 12, 3), (15, .return_, 1)]
theorem dk_Line_init : ∀ e ∈ k_Line_init, decode c_Line_init e.1 = .ok e.2 := by decide +kernel
abbrev c_Line_rewind : ByteArray := prog_4_method_2_code
abbrev y_Line_rewind : jM := (⟨"MarkBlocks$Line", "rewind", "()V"⟩, c_Line_rewind, 1, none)
def k_Line_rewind : List (Nat × Instr × Nat) := [(0, .aload_n 0, 1), (1, .iconst 0, 1), (2, .putfield 18, 3), (5, .return_, 1)]
theorem dk_Line_rewind : ∀ e ∈ k_Line_rewind, decode c_Line_rewind e.1 = .ok e.2 := by decide +kernel
abbrev c_Line_takeNext : ByteArray := prog_4_method_3_code
abbrev y_Line_takeNext : jM := (⟨"MarkBlocks$Line", "takeNext", "(LMarkBlocks$Row;)Z"⟩, c_Line_takeNext, 3, (some .boolean))
def k_Line_takeNext : List (Nat × Instr × Nat) := [(0, .aload_n 0, 1), (1, .getfield 18, 3), (4, .aload_n 1, 1), (5, .invokevirtual 22, 3), (8, .if_icmp .lt 5, 3), (11, .iconst 0, 1), (12, .ireturn, 1), (13, .aload_n 0, 1), (14, .getfield 12, 3), (17, .iconst 0, 1), (18, .invokevirtual 26, 3), (21, .aload_n 0, 1), (22, .getfield 18, 3), (25, .istore_n 2, 1), (26, .iload_n 2, 1), (27, .aload_n 1, 1), (28, .invokevirtual 22, 3), (31, .if_icmp .ge 38, 3), (34, .aload_n 1, 1), (35, .iload_n 2, 1), (36, .invokevirtual 30, 3), (39, .bipush 10, 2), (41, .if_icmp .eq 28, 3), (44, .aload_n 1, 1), (45, .iload_n 2, 1), (46, .invokevirtual 30, 3), (49, .bipush 13, 2), (51, .if_icmp .eq 18, 3), (54, .aload_n 0, 1), (55, .aload_n 1, 1), (56, .iload_n 2, 1), (57, .invokevirtual 30, 3), (60, .invokevirtual 34, 3), (63, .iinc 2 1, 3), (66, .goto (-40), 3), (69, .aload_n 0, 1), (70, .aload_n 1, 1), (71, .iload_n 2, 1), (72, .invokevirtual 30, 3), (75, .bipush 13, 2), (77, .if_icmp .ne 21, 3), (80, .aload_n 1, 1), (81, .iload_n 2, 1), (82, .iconst 1, 1), (83, .iadd, 1), (84, .invokevirtual 30, 3), (87, .bipush 10, 2), (89, .if_icmp .ne 9, 3), (92, .iload_n 2, 1), (93, .iconst 2, 1), (94, .iadd, 1), (95, .goto 6, 3), (98, .iload_n 2, 1), (99, .iconst 1, 1), (100, .iadd, 1), (101, .putfield 18, 3), (104, .aload_n 0, 1), (105, .iconst 0, 1), (106, .invokevirtual 37, 3), (109, .iconst 1, 1), (110, .ireturn, 1)]
theorem dk_Line_takeNext : ∀ e ∈ k_Line_takeNext, decode c_Line_takeNext e.1 = .ok e.2 := by decide +kernel
abbrev c_Line_addSign : ByteArray := prog_4_method_4_code
abbrev y_Line_addSign : jM := (⟨"MarkBlocks$Line", "addSign", "(I)V"⟩, c_Line_addSign, 4, none)
def k_Line_addSign : List (Nat × Instr × Nat) := [(0, .iload_n 1, 1), (1, .bipush 9, 2), (3, .if_icmp .eq 12, 3), (6, .aload_n 0, 1), (7, .getfield 12, 3), (10, .iload_n 1, 1), (11, .invokevirtual 40, 3), (14, .return_, 1), (15, .iconst 4, 1), (16, .aload_n 0, 1), (17, .getfield 12, 3), (20, .invokevirtual 22, 3), (23, .iconst 4, 1), (24, .irem, 1), (25, .isub, 1), (26, .istore_n 2, 1), (27, .iconst 0, 1), (28, .istore_n 3, 1), (29, .iload_n 3, 1), (30, .iload_n 2, 1), (31, .if_icmp .ge 18, 3), (34, .aload_n 0, 1), (35, .getfield 12, 3), (38, .bipush 32, 2), (40, .invokevirtual 40, 3), (43, .iinc 3 1, 3), (46, .goto (-17), 3), (49, .return_, 1)]
theorem dk_Line_addSign : ∀ e ∈ k_Line_addSign, decode c_Line_addSign e.1 = .ok e.2 := by decide +kernel
abbrev c_Line_moveTo : ByteArray := prog_4_method_12_code
abbrev y_Line_moveTo : jM := (⟨"MarkBlocks$Line", "moveTo", "(I)V"⟩, c_Line_moveTo, 2, none)
def k_Line_moveTo : List (Nat × Instr × Nat) := [(0, .aload_n 0, 1), (1, .iload_n 1, 1), (2, .aload_n 0, 1), (3, .getfield 12, 3), (6, .invokevirtual 22, 3), (9, .invokestatic 52, 3), (12, .putfield 43, 3), (15, .aload_n 0, 1), (16, .iconst 0, 1), (17, .putfield 46, 3), (20, .aload_n 0, 1), (21, .getfield 43, 3), (24, .aload_n 0, 1), (25, .getfield 46, 3), (28, .iadd, 1), (29, .aload_n 0, 1), (30, .getfield 12, 3), (33, .invokevirtual 22, 3), (36, .if_icmp .ge 37, 3), (39, .aload_n 0, 1), (40, .getfield 12, 3), (43, .aload_n 0, 1), (44, .getfield 43, 3), (47, .aload_n 0, 1), (48, .getfield 46, 3), (51, .iadd, 1), (52, .invokevirtual 30, 3), (55, .bipush 32, 2), (57, .if_icmp .ne 16, 3), (60, .aload_n 0, 1), (61, .dup, 1), (62, .getfield 46, 3), (65, .iconst 1, 1), (66, .iadd, 1), (67, .putfield 46, 3), (70, .goto (-50), 3), (73, .return_, 1)]
theorem dk_Line_moveTo : ∀ e ∈ k_Line_moveTo, decode c_Line_moveTo e.1 = .ok e.2 := by decide +kernel
abbrev c_Line_passQuoteMark : ByteArray := prog_4_method_15_code
abbrev y_Line_passQuoteMark : jM := (⟨"MarkBlocks$Line", "passQuoteMark", "()Z"⟩, c_Line_passQuoteMark, 2, (some .boolean))
def k_Line_passQuoteMark : List (Nat × Instr × Nat) := [(0, .aload_n 0, 1), (1, .invokevirtual 62, 3), (4, .ifCond .ne 5, 3), (7, .iconst 0, 1), (8, .ireturn, 1), (9, .aload_n 0, 1), (10, .invokevirtual 49, 3), (13, .iconst 1, 1), (14, .iadd, 1), (15, .istore_n 1, 1), (16, .aload_n 0, 1), (17, .aload_n 0, 1), (18, .getfield 12, 3), (21, .iload_n 1, 1), (22, .invokevirtual 30, 3), (25, .bipush 32, 2), (27, .if_icmp .ne 9, 3), (30, .iload_n 1, 1), (31, .iconst 1, 1), (32, .iadd, 1), (33, .goto 4, 3), (36, .iload_n 1, 1), (37, .invokevirtual 37, 3), (40, .iconst 1, 1), (41, .ireturn, 1)]
theorem dk_Line_passQuoteMark : ∀ e ∈ k_Line_passQuoteMark, decode c_Line_passQuoteMark e.1 = .ok e.2 := by decide +kernel
abbrev c_Line_hasQuoteMark : ByteArray := prog_4_method_14_code
abbrev y_Line_hasQuoteMark : jM := (⟨"MarkBlocks$Line", "hasQuoteMark", "()Z"⟩, c_Line_hasQuoteMark, 1, (some .boolean))
def k_Line_hasQuoteMark : List (Nat × Instr × Nat) := [(0, .aload_n 0, 1), (1, .invokevirtual 58, 3), (4, .ifCond .ne 23, 3), (7, .aload_n 0, 1), (8, .getfield 12, 3), (11, .aload_n 0, 1), (12, .invokevirtual 49, 3), (15, .invokevirtual 30, 3), (18, .bipush 62, 2), (20, .if_icmp .ne 7, 3), (23, .iconst 1, 1), (24, .goto 4, 3), (27, .iconst 0, 1), (28, .ireturn, 1)]
theorem dk_Line_hasQuoteMark : ∀ e ∈ k_Line_hasQuoteMark, decode c_Line_hasQuoteMark e.1 = .ok e.2 := by decide +kernel
abbrev c_Line_isTooFar : ByteArray := prog_4_method_11_code
abbrev y_Line_isTooFar : jM := (⟨"MarkBlocks$Line", "isTooFar", "()Z"⟩, c_Line_isTooFar, 1, (some .boolean))
def k_Line_isTooFar : List (Nat × Instr × Nat) := [(0, .aload_n 0, 1), (1, .getfield 46, 3), (4, .iconst 4, 1), (5, .if_icmp .lt 7, 3), (8, .iconst 1, 1), (9, .goto 4, 3), (12, .iconst 0, 1), (13, .ireturn, 1)]
theorem dk_Line_isTooFar : ∀ e ∈ k_Line_isTooFar, decode c_Line_isTooFar e.1 = .ok e.2 := by decide +kernel
abbrev c_Line_start : ByteArray := prog_4_method_9_code
abbrev y_Line_start : jM := (⟨"MarkBlocks$Line", "start", "()I"⟩, c_Line_start, 1, (some .int))
def k_Line_start : List (Nat × Instr × Nat) := [(0, .aload_n 0, 1), (1, .getfield 43, 3), (4, .aload_n 0, 1), (5, .getfield 46, 3), (8, .iadd, 1), (9, .ireturn, 1)]
theorem dk_Line_start : ∀ e ∈ k_Line_start, decode c_Line_start e.1 = .ok e.2 := by decide +kernel
abbrev c_Line_isBlank : ByteArray := prog_4_method_10_code
abbrev y_Line_isBlank : jM := (⟨"MarkBlocks$Line", "isBlank", "()Z"⟩, c_Line_isBlank, 1, (some .boolean))
def k_Line_isBlank : List (Nat × Instr × Nat) := [(0, .aload_n 0, 1), (1, .invokevirtual 49, 3), (4, .aload_n 0, 1), (5, .getfield 12, 3), (8, .invokevirtual 22, 3), (11, .if_icmp .lt 7, 3), (14, .iconst 1, 1), (15, .goto 4, 3), (18, .iconst 0, 1), (19, .ireturn, 1)]
theorem dk_Line_isBlank : ∀ e ∈ k_Line_isBlank, decode c_Line_isBlank e.1 = .ok e.2 := by decide +kernel
abbrev c_Line_indent : ByteArray := prog_4_method_8_code
abbrev y_Line_indent : jM := (⟨"MarkBlocks$Line", "indent", "()I"⟩, c_Line_indent, 1, (some .int))
def k_Line_indent : List (Nat × Instr × Nat) := [(0, .aload_n 0, 1), (1, .getfield 46, 3), (4, .ireturn, 1)]
theorem dk_Line_indent : ∀ e ∈ k_Line_indent, decode c_Line_indent e.1 = .ok e.2 := by decide +kernel
abbrev c_Line_moveOn : ByteArray := prog_4_method_13_code
abbrev y_Line_moveOn : jM := (⟨"MarkBlocks$Line", "moveOn", "(I)V"⟩, c_Line_moveOn, 2, none)
def k_Line_moveOn : List (Nat × Instr × Nat) := [(0, .aload_n 0, 1), (1, .aload_n 0, 1), (2, .getfield 43, 3), (5, .iload_n 1, 1), (6, .iadd, 1), (7, .invokevirtual 37, 3), (10, .return_, 1)]
theorem dk_Line_moveOn : ∀ e ∈ k_Line_moveOn, decode c_Line_moveOn e.1 = .ok e.2 := by decide +kernel
abbrev c_Line_endsFence : ByteArray := prog_4_method_18_code
abbrev y_Line_endsFence : jM := (⟨"MarkBlocks$Line", "endsFence", "(II)Z"⟩, c_Line_endsFence, 4, (some .boolean))
def k_Line_endsFence : List (Nat × Instr × Nat) := [(0, .aload_n 0, 1), (1, .invokevirtual 58, 3), (4, .ifCond .ne 18, 3), (7, .aload_n 0, 1), (8, .getfield 12, 3), (11, .aload_n 0, 1), (12, .invokevirtual 49, 3), (15, .invokevirtual 30, 3), (18, .iload_n 1, 1), (19, .if_icmp .eq 5, 3), (22, .iconst 0, 1), (23, .ireturn, 1), (24, .aload_n 0, 1), (25, .aload_n 0, 1), (26, .invokevirtual 49, 3), (29, .invokevirtual 65, 3), (32, .istore_n 3, 1), (33, .iload_n 3, 1), (34, .iload_n 2, 1), (35, .if_icmp .lt 20, 3), (38, .aload_n 0, 1), (39, .aload_n 0, 1), (40, .invokevirtual 49, 3), (43, .iload_n 3, 1), (44, .iadd, 1), (45, .invokevirtual 72, 3), (48, .ifCond .eq 7, 3), (51, .iconst 1, 1), (52, .goto 4, 3), (55, .iconst 0, 1), (56, .ireturn, 1)]
theorem dk_Line_endsFence : ∀ e ∈ k_Line_endsFence, decode c_Line_endsFence e.1 = .ok e.2 := by decide +kernel
abbrev c_Line_sameFrom : ByteArray := prog_4_method_27_code
abbrev y_Line_sameFrom : jM := (⟨"MarkBlocks$Line", "sameFrom", "(I)I"⟩, c_Line_sameFrom, 3, (some .int))
def k_Line_sameFrom : List (Nat × Instr × Nat) := [(0, .iload_n 1, 1), (1, .istore_n 2, 1), (2, .iload_n 2, 1), (3, .aload_n 0, 1), (4, .getfield 12, 3), (7, .invokevirtual 22, 3), (10, .if_icmp .ge 28, 3), (13, .aload_n 0, 1), (14, .getfield 12, 3), (17, .iload_n 2, 1), (18, .invokevirtual 30, 3), (21, .aload_n 0, 1), (22, .getfield 12, 3), (25, .iload_n 1, 1), (26, .invokevirtual 30, 3), (29, .if_icmp .ne 9, 3), (32, .iinc 2 1, 3), (35, .goto (-33), 3), (38, .iload_n 2, 1), (39, .iload_n 1, 1), (40, .isub, 1), (41, .ireturn, 1)]
theorem dk_Line_sameFrom : ∀ e ∈ k_Line_sameFrom, decode c_Line_sameFrom e.1 = .ok e.2 := by decide +kernel
abbrev c_Line_isBlankFrom : ByteArray := prog_4_method_28_code
abbrev y_Line_isBlankFrom : jM := (⟨"MarkBlocks$Line", "isBlankFrom", "(I)Z"⟩, c_Line_isBlankFrom, 2, (some .boolean))
def k_Line_isBlankFrom : List (Nat × Instr × Nat) := [(0, .iload_n 1, 1), (1, .aload_n 0, 1), (2, .iload_n 1, 1), (3, .invokevirtual 87, 3), (6, .iadd, 1), (7, .aload_n 0, 1), (8, .getfield 12, 3), (11, .invokevirtual 22, 3), (14, .if_icmp .lt 7, 3), (17, .iconst 1, 1), (18, .goto 4, 3), (21, .iconst 0, 1), (22, .ireturn, 1)]
theorem dk_Line_isBlankFrom : ∀ e ∈ k_Line_isBlankFrom, decode c_Line_isBlankFrom e.1 = .ok e.2 := by decide +kernel
abbrev c_Line_spacesAt : ByteArray := prog_4_method_26_code
abbrev y_Line_spacesAt : jM := (⟨"MarkBlocks$Line", "spacesAt", "(I)I"⟩, c_Line_spacesAt, 3, (some .int))
def k_Line_spacesAt : List (Nat × Instr × Nat) := [(0, .iload_n 1, 1), (1, .istore_n 2, 1), (2, .iload_n 2, 1), (3, .aload_n 0, 1), (4, .getfield 12, 3), (7, .invokevirtual 22, 3), (10, .if_icmp .ge 22, 3), (13, .aload_n 0, 1), (14, .getfield 12, 3), (17, .iload_n 2, 1), (18, .invokevirtual 30, 3), (21, .bipush 32, 2), (23, .if_icmp .ne 9, 3), (26, .iinc 2 1, 3), (29, .goto (-27), 3), (32, .iload_n 2, 1), (33, .iload_n 1, 1), (34, .isub, 1), (35, .ireturn, 1)]
theorem dk_Line_spacesAt : ∀ e ∈ k_Line_spacesAt, decode c_Line_spacesAt e.1 = .ok e.2 := by decide +kernel
abbrev c_Line_headingLevel : ByteArray := prog_4_method_16_code
abbrev y_Line_headingLevel : jM := (⟨"MarkBlocks$Line", "headingLevel", "()I"⟩, c_Line_headingLevel, 2, (some .int))
def k_Line_headingLevel : List (Nat × Instr × Nat) := [(0, .aload_n 0, 1), (1, .getfield 12, 3), (4, .aload_n 0, 1), (5, .invokevirtual 49, 3), (8, .invokevirtual 30, 3), (11, .bipush 35, 2), (13, .if_icmp .ne 14, 3), (16, .aload_n 0, 1), (17, .aload_n 0, 1), (18, .invokevirtual 49, 3), (21, .invokevirtual 65, 3), (24, .goto 4, 3), (27, .iconst 0, 1), (28, .istore_n 1, 1), (29, .iload_n 1, 1), (30, .bipush 6, 2), (32, .if_icmp .gt 20, 3), (35, .aload_n 0, 1), (36, .aload_n 0, 1), (37, .invokevirtual 49, 3), (40, .iload_n 1, 1), (41, .iadd, 1), (42, .invokevirtual 68, 3), (45, .ifCond .eq 7, 3), (48, .iload_n 1, 1), (49, .goto 4, 3), (52, .iconst 0, 1), (53, .ireturn, 1)]
theorem dk_Line_headingLevel : ∀ e ∈ k_Line_headingLevel, decode c_Line_headingLevel e.1 = .ok e.2 := by decide +kernel
abbrev c_Line_isSpaceOrEnd : ByteArray := prog_4_method_29_code
abbrev y_Line_isSpaceOrEnd : jM := (⟨"MarkBlocks$Line", "isSpaceOrEnd", "(I)Z"⟩, c_Line_isSpaceOrEnd, 2, (some .boolean))
def k_Line_isSpaceOrEnd : List (Nat × Instr × Nat) := [(0, .iload_n 1, 1), (1, .aload_n 0, 1), (2, .getfield 12, 3), (5, .invokevirtual 22, 3), (8, .if_icmp .ge 16, 3), (11, .aload_n 0, 1), (12, .getfield 12, 3), (15, .iload_n 1, 1), (16, .invokevirtual 30, 3), (19, .bipush 32, 2), (21, .if_icmp .ne 7, 3), (24, .iconst 1, 1), (25, .goto 4, 3), (28, .iconst 0, 1), (29, .ireturn, 1)]
theorem dk_Line_isSpaceOrEnd : ∀ e ∈ k_Line_isSpaceOrEnd, decode c_Line_isSpaceOrEnd e.1 = .ok e.2 := by decide +kernel
abbrev c_Line_fenceLength : ByteArray := prog_4_method_17_code
abbrev y_Line_fenceLength : jM := (⟨"MarkBlocks$Line", "fenceLength", "()I"⟩, c_Line_fenceLength, 4, (some .int))
def k_Line_fenceLength : List (Nat × Instr × Nat) := [(0, .aload_n 0, 1), (1, .getfield 12, 3), (4, .aload_n 0, 1), (5, .invokevirtual 49, 3), (8, .invokevirtual 30, 3), (11, .istore_n 1, 1), (12, .iload_n 1, 1), (13, .bipush 96, 2), (15, .if_icmp .eq 11, 3), (18, .iload_n 1, 1), (19, .bipush 126, 2), (21, .if_icmp .eq 5, 3), (24, .iconst 0, 1), (25, .ireturn, 1), (26, .aload_n 0, 1), (27, .aload_n 0, 1), (28, .invokevirtual 49, 3), (31, .invokevirtual 65, 3), (34, .istore_n 2, 1), (35, .aload_n 0, 1), (36, .invokevirtual 49, 3), (39, .iload_n 2, 1), (40, .iadd, 1), (41, .istore_n 3, 1), (42, .iload_n 3, 1), (43, .aload_n 0, 1), (44, .getfield 12, 3), (47, .invokevirtual 22, 3), (50, .if_icmp .ge 30, 3), (53, .iload_n 1, 1), (54, .bipush 96, 2), (56, .if_icmp .ne 18, 3), (59, .aload_n 0, 1), (60, .getfield 12, 3), (63, .iload_n 3, 1), (64, .invokevirtual 30, 3), (67, .bipush 96, 2), (69, .if_icmp .ne 5, 3), (72, .iconst 0, 1), (73, .ireturn, 1), (74, .iinc 3 1, 3), (77, .goto (-35), 3), (80, .iload_n 2, 1), (81, .iconst 3, 1), (82, .if_icmp .lt 7, 3), (85, .iload_n 2, 1), (86, .goto 4, 3), (89, .iconst 0, 1), (90, .ireturn, 1)]
theorem dk_Line_fenceLength : ∀ e ∈ k_Line_fenceLength, decode c_Line_fenceLength e.1 = .ok e.2 := by decide +kernel
abbrev c_Line_underlineLevel : ByteArray := prog_4_method_19_code
abbrev y_Line_underlineLevel : jM := (⟨"MarkBlocks$Line", "underlineLevel", "()I"⟩, c_Line_underlineLevel, 2, (some .int))
def k_Line_underlineLevel : List (Nat × Instr × Nat) := [(0, .aload_n 0, 1), (1, .getfield 12, 3), (4, .aload_n 0, 1), (5, .invokevirtual 49, 3), (8, .invokevirtual 30, 3), (11, .istore_n 1, 1), (12, .iload_n 1, 1), (13, .bipush 61, 2), (15, .if_icmp .eq 9, 3), (18, .iload_n 1, 1), (19, .bipush 45, 2), (21, .if_icmp .ne 23, 3), (24, .aload_n 0, 1), (25, .aload_n 0, 1), (26, .invokevirtual 49, 3), (29, .aload_n 0, 1), (30, .aload_n 0, 1), (31, .invokevirtual 49, 3), (34, .invokevirtual 65, 3), (37, .iadd, 1), (38, .invokevirtual 72, 3), (41, .ifCond .ne 5, 3), (44, .iconst 0, 1), (45, .ireturn, 1), (46, .iload_n 1, 1), (47, .bipush 61, 2), (49, .if_icmp .ne 7, 3), (52, .iconst 1, 1), (53, .goto 4, 3), (56, .iconst 2, 1), (57, .ireturn, 1)]
theorem dk_Line_underlineLevel : ∀ e ∈ k_Line_underlineLevel, decode c_Line_underlineLevel e.1 = .ok e.2 := by decide +kernel
abbrev c_Line_isRule : ByteArray := prog_4_method_20_code
abbrev y_Line_isRule : jM := (⟨"MarkBlocks$Line", "isRule", "()Z"⟩, c_Line_isRule, 4, (some .boolean))
def k_Line_isRule : List (Nat × Instr × Nat) := [(0, .aload_n 0, 1), (1, .getfield 12, 3), (4, .aload_n 0, 1), (5, .invokevirtual 49, 3), (8, .invokevirtual 30, 3), (11, .istore_n 1, 1), (12, .iload_n 1, 1), (13, .bipush 42, 2), (15, .if_icmp .eq 17, 3), (18, .iload_n 1, 1), (19, .bipush 45, 2), (21, .if_icmp .eq 11, 3), (24, .iload_n 1, 1), (25, .bipush 95, 2), (27, .if_icmp .eq 5, 3), (30, .iconst 0, 1), (31, .ireturn, 1), (32, .iconst 0, 1), (33, .istore_n 2, 1), (34, .aload_n 0, 1), (35, .invokevirtual 49, 3), (38, .istore_n 3, 1), (39, .iload_n 3, 1), (40, .aload_n 0, 1), (41, .getfield 12, 3), (44, .invokevirtual 22, 3), (47, .if_icmp .ge 42, 3), (50, .aload_n 0, 1), (51, .getfield 12, 3), (54, .iload_n 3, 1), (55, .invokevirtual 30, 3), (58, .iload_n 1, 1), (59, .if_icmp .ne 9, 3), (62, .iinc 2 1, 3), (65, .goto 18, 3), (68, .aload_n 0, 1), (69, .getfield 12, 3), (72, .iload_n 3, 1), (73, .invokevirtual 30, 3), (76, .bipush 32, 2), (78, .if_icmp .eq 5, 3), (81, .iconst 0, 1), (82, .ireturn, 1), (83, .iinc 3 1, 3), (86, .goto (-47), 3), (89, .iload_n 2, 1), (90, .iconst 3, 1), (91, .if_icmp .lt 7, 3), (94, .iconst 1, 1), (95, .goto 4, 3), (98, .iconst 0, 1), (99, .ireturn, 1)]
theorem dk_Line_isRule : ∀ e ∈ k_Line_isRule, decode c_Line_isRule e.1 = .ok e.2 := by decide +kernel
abbrev c_Line_findMark : ByteArray := prog_4_method_21_code
abbrev y_Line_findMark : jM := (⟨"MarkBlocks$Line", "findMark", "()Z"⟩, c_Line_findMark, 3, (some .boolean))
def k_Line_findMark : List (Nat × Instr × Nat) := [(0, .iconst 0, 1), (1, .istore_n 1, 1), (2, .aload_n 0, 1), (3, .iconst 0, 1), (4, .putfield 75, 3), (7, .iload_n 1, 1), (8, .bipush 9, 2), (10, .if_icmp .ge 56, 3), (13, .aload_n 0, 1), (14, .getfield 12, 3), (17, .aload_n 0, 1), (18, .invokevirtual 49, 3), (21, .iload_n 1, 1), (22, .iadd, 1), (23, .invokevirtual 30, 3), (26, .invokestatic 78, 3), (29, .ifCond .eq 37, 3), (32, .aload_n 0, 1), (33, .bipush 10, 2), (35, .aload_n 0, 1), (36, .getfield 75, 3), (39, .imul, 1), (40, .aload_n 0, 1), (41, .getfield 12, 3), (44, .aload_n 0, 1), (45, .invokevirtual 49, 3), (48, .iload_n 1, 1), (49, .iadd, 1), (50, .invokevirtual 30, 3), (53, .iadd, 1), (54, .bipush 48, 2), (56, .isub, 1), (57, .putfield 75, 3), (60, .iinc 1 1, 3), (63, .goto (-56), 3), (66, .aload_n 0, 1), (67, .aload_n 0, 1), (68, .getfield 12, 3), (71, .aload_n 0, 1), (72, .invokevirtual 49, 3), (75, .iload_n 1, 1), (76, .iadd, 1), (77, .invokevirtual 30, 3), (80, .putfield 81, 3), (83, .aload_n 0, 1), (84, .iload_n 1, 1), (85, .iconst 1, 1), (86, .iadd, 1), (87, .putfield 84, 3), (90, .iload_n 1, 1), (91, .ifCond .ne 38, 3), (94, .aload_n 0, 1), (95, .getfield 81, 3), (98, .bipush 42, 2), (100, .if_icmp .eq 21, 3), (103, .aload_n 0, 1), (104, .getfield 81, 3), (107, .bipush 43, 2), (109, .if_icmp .eq 12, 3), (112, .aload_n 0, 1), (113, .getfield 81, 3), (116, .bipush 45, 2), (118, .if_icmp .ne 7, 3), (121, .iconst 1, 1), (122, .goto 30, 3), (125, .iconst 0, 1), (126, .goto 26, 3), (129, .aload_n 0, 1), (130, .getfield 81, 3), (133, .bipush 46, 2), (135, .if_icmp .eq 12, 3), (138, .aload_n 0, 1), (139, .getfield 81, 3), (142, .bipush 41, 2), (144, .if_icmp .ne 7, 3), (147, .iconst 1, 1), (148, .goto 4, 3), (151, .iconst 0, 1), (152, .istore_n 2, 1), (153, .iload_n 2, 1), (154, .ifCond .eq 23, 3), (157, .aload_n 0, 1), (158, .aload_n 0, 1), (159, .invokevirtual 49, 3), (162, .aload_n 0, 1), (163, .getfield 84, 3), (166, .iadd, 1), (167, .invokevirtual 68, 3), (170, .ifCond .eq 7, 3), (173, .iconst 1, 1), (174, .goto 4, 3), (177, .iconst 0, 1), (178, .ireturn, 1)]
theorem dk_Line_findMark : ∀ e ∈ k_Line_findMark, decode c_Line_findMark e.1 = .ok e.2 := by decide +kernel
abbrev c_Line_isDigit : ByteArray := prog_4_method_30_code
abbrev y_Line_isDigit : jM := (⟨"MarkBlocks$Line", "isDigit", "(I)Z"⟩, c_Line_isDigit, 1, (some .boolean))
def k_Line_isDigit : List (Nat × Instr × Nat) := [(0, .iload_n 0, 1), (1, .bipush 48, 2), (3, .if_icmp .lt 13, 3), (6, .iload_n 0, 1), (7, .bipush 57, 2), (9, .if_icmp .gt 7, 3), (12, .iconst 1, 1), (13, .goto 4, 3), (16, .iconst 0, 1), (17, .ireturn, 1)]
theorem dk_Line_isDigit : ∀ e ∈ k_Line_isDigit, decode c_Line_isDigit e.1 = .ok e.2 := by decide +kernel
abbrev c_Line_markEndsParagraph : ByteArray := prog_4_method_24_code
abbrev y_Line_markEndsParagraph : jM := (⟨"MarkBlocks$Line", "markEndsParagraph", "()Z"⟩, c_Line_markEndsParagraph, 1, (some .boolean))
def k_Line_markEndsParagraph : List (Nat × Instr × Nat) := [(0, .aload_n 0, 1), (1, .aload_n 0, 1), (2, .invokevirtual 49, 3), (5, .aload_n 0, 1), (6, .getfield 84, 3), (9, .iadd, 1), (10, .invokevirtual 72, 3), (13, .ifCond .ne 23, 3), (16, .aload_n 0, 1), (17, .getfield 84, 3), (20, .iconst 1, 1), (21, .if_icmp .eq 11, 3), (24, .aload_n 0, 1), (25, .getfield 75, 3), (28, .iconst 1, 1), (29, .if_icmp .ne 7, 3), (32, .iconst 1, 1), (33, .goto 4, 3), (36, .iconst 0, 1), (37, .ireturn, 1)]
theorem dk_Line_markEndsParagraph : ∀ e ∈ k_Line_markEndsParagraph, decode c_Line_markEndsParagraph e.1 = .ok e.2 := by decide +kernel
abbrev c_Line_markSign : ByteArray := prog_4_method_22_code
abbrev y_Line_markSign : jM := (⟨"MarkBlocks$Line", "markSign", "()I"⟩, c_Line_markSign, 1, (some .int))
def k_Line_markSign : List (Nat × Instr × Nat) := [(0, .aload_n 0, 1), (1, .getfield 81, 3), (4, .ireturn, 1)]
theorem dk_Line_markSign : ∀ e ∈ k_Line_markSign, decode c_Line_markSign e.1 = .ok e.2 := by decide +kernel
abbrev c_Line_markNumber : ByteArray := prog_4_method_23_code
abbrev y_Line_markNumber : jM := (⟨"MarkBlocks$Line", "markNumber", "()I"⟩, c_Line_markNumber, 1, (some .int))
def k_Line_markNumber : List (Nat × Instr × Nat) := [(0, .aload_n 0, 1), (1, .getfield 75, 3), (4, .ireturn, 1)]
theorem dk_Line_markNumber : ∀ e ∈ k_Line_markNumber, decode c_Line_markNumber e.1 = .ok e.2 := by decide +kernel
abbrev c_Line_itemWidth : ByteArray := prog_4_method_25_code
abbrev y_Line_itemWidth : jM := (⟨"MarkBlocks$Line", "itemWidth", "()I"⟩, c_Line_itemWidth, 4, (some .int))
def k_Line_itemWidth : List (Nat × Instr × Nat) := [(0, .aload_n 0, 1), (1, .invokevirtual 49, 3), (4, .aload_n 0, 1), (5, .getfield 84, 3), (8, .iadd, 1), (9, .istore_n 1, 1), (10, .aload_n 0, 1), (11, .iload_n 1, 1), (12, .invokevirtual 87, 3), (15, .istore_n 2, 1), (16, .iload_n 2, 1), (17, .iconst 4, 1), (18, .if_icmp .gt 20, 3), (21, .iload_n 1, 1), (22, .iload_n 2, 1), (23, .iadd, 1), (24, .aload_n 0, 1), (25, .getfield 12, 3), (28, .invokevirtual 22, 3), (31, .if_icmp .ge 7, 3), (34, .iconst 1, 1), (35, .goto 4, 3), (38, .iconst 0, 1), (39, .istore_n 3, 1), (40, .aload_n 0, 1), (41, .getfield 46, 3), (44, .aload_n 0, 1), (45, .getfield 84, 3), (48, .iadd, 1), (49, .iload_n 3, 1), (50, .ifCond .eq 7, 3), (53, .iload_n 2, 1), (54, .goto 4, 3), (57, .iconst 1, 1), (58, .iadd, 1), (59, .ireturn, 1)]
theorem dk_Line_itemWidth : ∀ e ∈ k_Line_itemWidth, decode c_Line_itemWidth e.1 = .ok e.2 := by decide +kernel
abbrev c_Line_size : ByteArray := prog_4_method_5_code
abbrev y_Line_size : jM := (⟨"MarkBlocks$Line", "size", "()I"⟩, c_Line_size, 1, (some .int))
def k_Line_size : List (Nat × Instr × Nat) := [(0, .aload_n 0, 1), (1, .getfield 12, 3), (4, .invokevirtual 22, 3), (7, .ireturn, 1)]
theorem dk_Line_size : ∀ e ∈ k_Line_size, decode c_Line_size e.1 = .ok e.2 := by decide +kernel
abbrev c_Line_at : ByteArray := prog_4_method_6_code
abbrev y_Line_at : jM := (⟨"MarkBlocks$Line", "at", "(I)I"⟩, c_Line_at, 2, (some .int))
def k_Line_at : List (Nat × Instr × Nat) := [(0, .aload_n 0, 1), (1, .getfield 12, 3), (4, .iload_n 1, 1), (5, .invokevirtual 30, 3), (8, .ireturn, 1)]
theorem dk_Line_at : ∀ e ∈ k_Line_at, decode c_Line_at e.1 = .ok e.2 := by decide +kernel
abbrev c_Line_place : ByteArray := prog_4_method_7_code
abbrev y_Line_place : jM := (⟨"MarkBlocks$Line", "place", "()I"⟩, c_Line_place, 1, (some .int))
def k_Line_place : List (Nat × Instr × Nat) := [(0, .aload_n 0, 1), (1, .getfield 43, 3), (4, .ireturn, 1)]
theorem dk_Line_place : ∀ e ∈ k_Line_place, decode c_Line_place e.1 = .ok e.2 := by decide +kernel
theorem dx_Line_init (i : Nat) {e : Nat × Instr × Nat} (h : k_Line_init[i]? = some e) : decode y_Line_init.2.1 e.1 = .ok e.2 := dk_Line_init e (List.mem_of_getElem? h)
theorem can_Line_init : jCan lw_tbl y_Line_init 0 := ⟨jw_269, jw_13, by decide +kernel, by decide +kernel, by decide⟩
theorem dx_Line_rewind (i : Nat) {e : Nat × Instr × Nat} (h : k_Line_rewind[i]? = some e) : decode y_Line_rewind.2.1 e.1 = .ok e.2 := dk_Line_rewind e (List.mem_of_getElem? h)
theorem f_Line_rewind_2 : jFld jcl lw_tbl y_Line_rewind 2 5 1 .putfield := ⟨18, "MarkBlocks$Line", jQ_Line, dx_Line_rewind 2 (e := (2, .putfield 18, 3)) rfl, rfl, by decide, Or.inl jw_274, Or.inl rfl⟩
theorem can_Line_rewind : jCan lw_tbl y_Line_rewind 0 := ⟨jw_535, jw_13, by decide +kernel, by decide +kernel, by decide⟩
theorem dx_Line_takeNext (i : Nat) {e : Nat × Instr × Nat} (h : k_Line_takeNext[i]? = some e) : decode y_Line_takeNext.2.1 e.1 = .ok e.2 := dk_Line_takeNext e (List.mem_of_getElem? h)
theorem f_Line_takeNext_1 : jFld jcl lw_tbl y_Line_takeNext 1 5 1 .getfield := ⟨18, "MarkBlocks$Line", jQ_Line, dx_Line_takeNext 1 (e := (1, .getfield 18, 3)) rfl, rfl, by decide, Or.inl jw_274, Or.inl rfl⟩
theorem f_Line_takeNext_14 : jFld jcl lw_tbl y_Line_takeNext 14 5 0 .getfield := ⟨12, "MarkBlocks$Line", jQ_Line, dx_Line_takeNext 8 (e := (14, .getfield 12, 3)) rfl, rfl, by decide, Or.inl jw_273, Or.inl rfl⟩
theorem f_Line_takeNext_22 : jFld jcl lw_tbl y_Line_takeNext 22 5 1 .getfield := ⟨18, "MarkBlocks$Line", jQ_Line, dx_Line_takeNext 12 (e := (22, .getfield 18, 3)) rfl, rfl, by decide, Or.inl jw_274, Or.inl rfl⟩
theorem f_Line_takeNext_101 : jFld jcl lw_tbl y_Line_takeNext 101 5 1 .putfield := ⟨18, "MarkBlocks$Line", jQ_Line, dx_Line_takeNext 55 (e := (101, .putfield 18, 3)) rfl, rfl, by decide, Or.inl jw_274, Or.inl rfl⟩
theorem can_Line_takeNext : jCan lw_tbl y_Line_takeNext 1 := ⟨jw_552, jw_13, by decide +kernel, by decide +kernel, by decide⟩
theorem dx_Line_addSign (i : Nat) {e : Nat × Instr × Nat} (h : k_Line_addSign[i]? = some e) : decode y_Line_addSign.2.1 e.1 = .ok e.2 := dk_Line_addSign e (List.mem_of_getElem? h)
theorem f_Line_addSign_7 : jFld jcl lw_tbl y_Line_addSign 7 5 0 .getfield := ⟨12, "MarkBlocks$Line", jQ_Line, dx_Line_addSign 4 (e := (7, .getfield 12, 3)) rfl, rfl, by decide, Or.inl jw_273, Or.inl rfl⟩
theorem f_Line_addSign_17 : jFld jcl lw_tbl y_Line_addSign 17 5 0 .getfield := ⟨12, "MarkBlocks$Line", jQ_Line, dx_Line_addSign 10 (e := (17, .getfield 12, 3)) rfl, rfl, by decide, Or.inl jw_273, Or.inl rfl⟩
theorem f_Line_addSign_35 : jFld jcl lw_tbl y_Line_addSign 35 5 0 .getfield := ⟨12, "MarkBlocks$Line", jQ_Line, dx_Line_addSign 22 (e := (35, .getfield 12, 3)) rfl, rfl, by decide, Or.inl jw_273, Or.inl rfl⟩
theorem can_Line_addSign : jCan lw_tbl y_Line_addSign 1 := ⟨jw_559, jw_13, by decide +kernel, by decide +kernel, by decide⟩
theorem dx_Line_moveTo (i : Nat) {e : Nat × Instr × Nat} (h : k_Line_moveTo[i]? = some e) : decode y_Line_moveTo.2.1 e.1 = .ok e.2 := dk_Line_moveTo e (List.mem_of_getElem? h)
theorem f_Line_moveTo_3 : jFld jcl lw_tbl y_Line_moveTo 3 5 0 .getfield := ⟨12, "MarkBlocks$Line", jQ_Line, dx_Line_moveTo 3 (e := (3, .getfield 12, 3)) rfl, rfl, by decide, Or.inl jw_273, Or.inl rfl⟩
theorem f_Line_moveTo_12 : jFld jcl lw_tbl y_Line_moveTo 12 5 2 .putfield := ⟨43, "MarkBlocks$Line", jQ_Line, dx_Line_moveTo 6 (e := (12, .putfield 43, 3)) rfl, rfl, by decide, Or.inl jw_275, Or.inl rfl⟩
theorem f_Line_moveTo_17 : jFld jcl lw_tbl y_Line_moveTo 17 5 3 .putfield := ⟨46, "MarkBlocks$Line", jQ_Line, dx_Line_moveTo 9 (e := (17, .putfield 46, 3)) rfl, rfl, by decide, Or.inl jw_276, Or.inl rfl⟩
theorem f_Line_moveTo_21 : jFld jcl lw_tbl y_Line_moveTo 21 5 2 .getfield := ⟨43, "MarkBlocks$Line", jQ_Line, dx_Line_moveTo 11 (e := (21, .getfield 43, 3)) rfl, rfl, by decide, Or.inl jw_275, Or.inl rfl⟩
theorem f_Line_moveTo_25 : jFld jcl lw_tbl y_Line_moveTo 25 5 3 .getfield := ⟨46, "MarkBlocks$Line", jQ_Line, dx_Line_moveTo 13 (e := (25, .getfield 46, 3)) rfl, rfl, by decide, Or.inl jw_276, Or.inl rfl⟩
theorem f_Line_moveTo_30 : jFld jcl lw_tbl y_Line_moveTo 30 5 0 .getfield := ⟨12, "MarkBlocks$Line", jQ_Line, dx_Line_moveTo 16 (e := (30, .getfield 12, 3)) rfl, rfl, by decide, Or.inl jw_273, Or.inl rfl⟩
theorem f_Line_moveTo_40 : jFld jcl lw_tbl y_Line_moveTo 40 5 0 .getfield := ⟨12, "MarkBlocks$Line", jQ_Line, dx_Line_moveTo 20 (e := (40, .getfield 12, 3)) rfl, rfl, by decide, Or.inl jw_273, Or.inl rfl⟩
theorem f_Line_moveTo_44 : jFld jcl lw_tbl y_Line_moveTo 44 5 2 .getfield := ⟨43, "MarkBlocks$Line", jQ_Line, dx_Line_moveTo 22 (e := (44, .getfield 43, 3)) rfl, rfl, by decide, Or.inl jw_275, Or.inl rfl⟩
theorem f_Line_moveTo_48 : jFld jcl lw_tbl y_Line_moveTo 48 5 3 .getfield := ⟨46, "MarkBlocks$Line", jQ_Line, dx_Line_moveTo 24 (e := (48, .getfield 46, 3)) rfl, rfl, by decide, Or.inl jw_276, Or.inl rfl⟩
theorem f_Line_moveTo_62 : jFld jcl lw_tbl y_Line_moveTo 62 5 3 .getfield := ⟨46, "MarkBlocks$Line", jQ_Line, dx_Line_moveTo 31 (e := (62, .getfield 46, 3)) rfl, rfl, by decide, Or.inl jw_276, Or.inl rfl⟩
theorem f_Line_moveTo_67 : jFld jcl lw_tbl y_Line_moveTo 67 5 3 .putfield := ⟨46, "MarkBlocks$Line", jQ_Line, dx_Line_moveTo 34 (e := (67, .putfield 46, 3)) rfl, rfl, by decide, Or.inl jw_276, Or.inl rfl⟩
theorem can_Line_moveTo : jCan lw_tbl y_Line_moveTo 1 := ⟨jw_564, jw_13, by decide +kernel, by decide +kernel, by decide⟩
theorem dx_Line_passQuoteMark (i : Nat) {e : Nat × Instr × Nat} (h : k_Line_passQuoteMark[i]? = some e) : decode y_Line_passQuoteMark.2.1 e.1 = .ok e.2 := dk_Line_passQuoteMark e (List.mem_of_getElem? h)
theorem f_Line_passQuoteMark_18 : jFld jcl lw_tbl y_Line_passQuoteMark 18 5 0 .getfield := ⟨12, "MarkBlocks$Line", jQ_Line, dx_Line_passQuoteMark 12 (e := (18, .getfield 12, 3)) rfl, rfl, by decide, Or.inl jw_273, Or.inl rfl⟩
theorem can_Line_passQuoteMark : jCan lw_tbl y_Line_passQuoteMark 0 := ⟨jw_581, jw_13, by decide +kernel, by decide +kernel, by decide⟩
theorem dx_Line_hasQuoteMark (i : Nat) {e : Nat × Instr × Nat} (h : k_Line_hasQuoteMark[i]? = some e) : decode y_Line_hasQuoteMark.2.1 e.1 = .ok e.2 := dk_Line_hasQuoteMark e (List.mem_of_getElem? h)
theorem f_Line_hasQuoteMark_8 : jFld jcl lw_tbl y_Line_hasQuoteMark 8 5 0 .getfield := ⟨12, "MarkBlocks$Line", jQ_Line, dx_Line_hasQuoteMark 4 (e := (8, .getfield 12, 3)) rfl, rfl, by decide, Or.inl jw_273, Or.inl rfl⟩
theorem can_Line_hasQuoteMark : jCan lw_tbl y_Line_hasQuoteMark 0 := ⟨jw_585, jw_13, by decide +kernel, by decide +kernel, by decide⟩
theorem dx_Line_isTooFar (i : Nat) {e : Nat × Instr × Nat} (h : k_Line_isTooFar[i]? = some e) : decode y_Line_isTooFar.2.1 e.1 = .ok e.2 := dk_Line_isTooFar e (List.mem_of_getElem? h)
theorem f_Line_isTooFar_1 : jFld jcl lw_tbl y_Line_isTooFar 1 5 3 .getfield := ⟨46, "MarkBlocks$Line", jQ_Line, dx_Line_isTooFar 1 (e := (1, .getfield 46, 3)) rfl, rfl, by decide, Or.inl jw_276, Or.inl rfl⟩
theorem can_Line_isTooFar : jCan lw_tbl y_Line_isTooFar 0 := ⟨jw_589, jw_13, by decide +kernel, by decide +kernel, by decide⟩
theorem dx_Line_start (i : Nat) {e : Nat × Instr × Nat} (h : k_Line_start[i]? = some e) : decode y_Line_start.2.1 e.1 = .ok e.2 := dk_Line_start e (List.mem_of_getElem? h)
theorem f_Line_start_1 : jFld jcl lw_tbl y_Line_start 1 5 2 .getfield := ⟨43, "MarkBlocks$Line", jQ_Line, dx_Line_start 1 (e := (1, .getfield 43, 3)) rfl, rfl, by decide, Or.inl jw_275, Or.inl rfl⟩
theorem f_Line_start_5 : jFld jcl lw_tbl y_Line_start 5 5 3 .getfield := ⟨46, "MarkBlocks$Line", jQ_Line, dx_Line_start 3 (e := (5, .getfield 46, 3)) rfl, rfl, by decide, Or.inl jw_276, Or.inl rfl⟩
theorem can_Line_start : jCan lw_tbl y_Line_start 0 := ⟨jw_593, jw_13, by decide +kernel, by decide +kernel, by decide⟩
theorem dx_Line_isBlank (i : Nat) {e : Nat × Instr × Nat} (h : k_Line_isBlank[i]? = some e) : decode y_Line_isBlank.2.1 e.1 = .ok e.2 := dk_Line_isBlank e (List.mem_of_getElem? h)
theorem f_Line_isBlank_5 : jFld jcl lw_tbl y_Line_isBlank 5 5 0 .getfield := ⟨12, "MarkBlocks$Line", jQ_Line, dx_Line_isBlank 3 (e := (5, .getfield 12, 3)) rfl, rfl, by decide, Or.inl jw_273, Or.inl rfl⟩
theorem can_Line_isBlank : jCan lw_tbl y_Line_isBlank 0 := ⟨jw_601, jw_13, by decide +kernel, by decide +kernel, by decide⟩
theorem dx_Line_indent (i : Nat) {e : Nat × Instr × Nat} (h : k_Line_indent[i]? = some e) : decode y_Line_indent.2.1 e.1 = .ok e.2 := dk_Line_indent e (List.mem_of_getElem? h)
theorem f_Line_indent_1 : jFld jcl lw_tbl y_Line_indent 1 5 3 .getfield := ⟨46, "MarkBlocks$Line", jQ_Line, dx_Line_indent 1 (e := (1, .getfield 46, 3)) rfl, rfl, by decide, Or.inl jw_276, Or.inl rfl⟩
theorem can_Line_indent : jCan lw_tbl y_Line_indent 0 := ⟨jw_610, jw_13, by decide +kernel, by decide +kernel, by decide⟩
theorem dx_Line_moveOn (i : Nat) {e : Nat × Instr × Nat} (h : k_Line_moveOn[i]? = some e) : decode y_Line_moveOn.2.1 e.1 = .ok e.2 := dk_Line_moveOn e (List.mem_of_getElem? h)
theorem f_Line_moveOn_2 : jFld jcl lw_tbl y_Line_moveOn 2 5 2 .getfield := ⟨43, "MarkBlocks$Line", jQ_Line, dx_Line_moveOn 2 (e := (2, .getfield 43, 3)) rfl, rfl, by decide, Or.inl jw_275, Or.inl rfl⟩
theorem can_Line_moveOn : jCan lw_tbl y_Line_moveOn 1 := ⟨jw_614, jw_13, by decide +kernel, by decide +kernel, by decide⟩
theorem dx_Line_endsFence (i : Nat) {e : Nat × Instr × Nat} (h : k_Line_endsFence[i]? = some e) : decode y_Line_endsFence.2.1 e.1 = .ok e.2 := dk_Line_endsFence e (List.mem_of_getElem? h)
theorem f_Line_endsFence_8 : jFld jcl lw_tbl y_Line_endsFence 8 5 0 .getfield := ⟨12, "MarkBlocks$Line", jQ_Line, dx_Line_endsFence 4 (e := (8, .getfield 12, 3)) rfl, rfl, by decide, Or.inl jw_273, Or.inl rfl⟩
theorem can_Line_endsFence : jCan lw_tbl y_Line_endsFence 2 := ⟨jw_622, jw_13, by decide +kernel, by decide +kernel, by decide⟩
theorem dx_Line_sameFrom (i : Nat) {e : Nat × Instr × Nat} (h : k_Line_sameFrom[i]? = some e) : decode y_Line_sameFrom.2.1 e.1 = .ok e.2 := dk_Line_sameFrom e (List.mem_of_getElem? h)
theorem f_Line_sameFrom_4 : jFld jcl lw_tbl y_Line_sameFrom 4 5 0 .getfield := ⟨12, "MarkBlocks$Line", jQ_Line, dx_Line_sameFrom 4 (e := (4, .getfield 12, 3)) rfl, rfl, by decide, Or.inl jw_273, Or.inl rfl⟩
theorem f_Line_sameFrom_14 : jFld jcl lw_tbl y_Line_sameFrom 14 5 0 .getfield := ⟨12, "MarkBlocks$Line", jQ_Line, dx_Line_sameFrom 8 (e := (14, .getfield 12, 3)) rfl, rfl, by decide, Or.inl jw_273, Or.inl rfl⟩
theorem f_Line_sameFrom_22 : jFld jcl lw_tbl y_Line_sameFrom 22 5 0 .getfield := ⟨12, "MarkBlocks$Line", jQ_Line, dx_Line_sameFrom 12 (e := (22, .getfield 12, 3)) rfl, rfl, by decide, Or.inl jw_273, Or.inl rfl⟩
theorem can_Line_sameFrom : jCan lw_tbl y_Line_sameFrom 1 := ⟨jw_626, jw_13, by decide +kernel, by decide +kernel, by decide⟩
theorem dx_Line_isBlankFrom (i : Nat) {e : Nat × Instr × Nat} (h : k_Line_isBlankFrom[i]? = some e) : decode y_Line_isBlankFrom.2.1 e.1 = .ok e.2 := dk_Line_isBlankFrom e (List.mem_of_getElem? h)
theorem f_Line_isBlankFrom_8 : jFld jcl lw_tbl y_Line_isBlankFrom 8 5 0 .getfield := ⟨12, "MarkBlocks$Line", jQ_Line, dx_Line_isBlankFrom 6 (e := (8, .getfield 12, 3)) rfl, rfl, by decide, Or.inl jw_273, Or.inl rfl⟩
theorem can_Line_isBlankFrom : jCan lw_tbl y_Line_isBlankFrom 1 := ⟨jw_630, jw_13, by decide +kernel, by decide +kernel, by decide⟩
theorem dx_Line_spacesAt (i : Nat) {e : Nat × Instr × Nat} (h : k_Line_spacesAt[i]? = some e) : decode y_Line_spacesAt.2.1 e.1 = .ok e.2 := dk_Line_spacesAt e (List.mem_of_getElem? h)
theorem f_Line_spacesAt_4 : jFld jcl lw_tbl y_Line_spacesAt 4 5 0 .getfield := ⟨12, "MarkBlocks$Line", jQ_Line, dx_Line_spacesAt 4 (e := (4, .getfield 12, 3)) rfl, rfl, by decide, Or.inl jw_273, Or.inl rfl⟩
theorem f_Line_spacesAt_14 : jFld jcl lw_tbl y_Line_spacesAt 14 5 0 .getfield := ⟨12, "MarkBlocks$Line", jQ_Line, dx_Line_spacesAt 8 (e := (14, .getfield 12, 3)) rfl, rfl, by decide, Or.inl jw_273, Or.inl rfl⟩
theorem can_Line_spacesAt : jCan lw_tbl y_Line_spacesAt 1 := ⟨jw_634, jw_13, by decide +kernel, by decide +kernel, by decide⟩
theorem dx_Line_headingLevel (i : Nat) {e : Nat × Instr × Nat} (h : k_Line_headingLevel[i]? = some e) : decode y_Line_headingLevel.2.1 e.1 = .ok e.2 := dk_Line_headingLevel e (List.mem_of_getElem? h)
theorem f_Line_headingLevel_1 : jFld jcl lw_tbl y_Line_headingLevel 1 5 0 .getfield := ⟨12, "MarkBlocks$Line", jQ_Line, dx_Line_headingLevel 1 (e := (1, .getfield 12, 3)) rfl, rfl, by decide, Or.inl jw_273, Or.inl rfl⟩
theorem can_Line_headingLevel : jCan lw_tbl y_Line_headingLevel 0 := ⟨jw_657, jw_13, by decide +kernel, by decide +kernel, by decide⟩
theorem dx_Line_isSpaceOrEnd (i : Nat) {e : Nat × Instr × Nat} (h : k_Line_isSpaceOrEnd[i]? = some e) : decode y_Line_isSpaceOrEnd.2.1 e.1 = .ok e.2 := dk_Line_isSpaceOrEnd e (List.mem_of_getElem? h)
theorem f_Line_isSpaceOrEnd_2 : jFld jcl lw_tbl y_Line_isSpaceOrEnd 2 5 0 .getfield := ⟨12, "MarkBlocks$Line", jQ_Line, dx_Line_isSpaceOrEnd 2 (e := (2, .getfield 12, 3)) rfl, rfl, by decide, Or.inl jw_273, Or.inl rfl⟩
theorem f_Line_isSpaceOrEnd_12 : jFld jcl lw_tbl y_Line_isSpaceOrEnd 12 5 0 .getfield := ⟨12, "MarkBlocks$Line", jQ_Line, dx_Line_isSpaceOrEnd 6 (e := (12, .getfield 12, 3)) rfl, rfl, by decide, Or.inl jw_273, Or.inl rfl⟩
theorem can_Line_isSpaceOrEnd : jCan lw_tbl y_Line_isSpaceOrEnd 1 := ⟨jw_661, jw_13, by decide +kernel, by decide +kernel, by decide⟩
theorem dx_Line_fenceLength (i : Nat) {e : Nat × Instr × Nat} (h : k_Line_fenceLength[i]? = some e) : decode y_Line_fenceLength.2.1 e.1 = .ok e.2 := dk_Line_fenceLength e (List.mem_of_getElem? h)
theorem f_Line_fenceLength_1 : jFld jcl lw_tbl y_Line_fenceLength 1 5 0 .getfield := ⟨12, "MarkBlocks$Line", jQ_Line, dx_Line_fenceLength 1 (e := (1, .getfield 12, 3)) rfl, rfl, by decide, Or.inl jw_273, Or.inl rfl⟩
theorem f_Line_fenceLength_44 : jFld jcl lw_tbl y_Line_fenceLength 44 5 0 .getfield := ⟨12, "MarkBlocks$Line", jQ_Line, dx_Line_fenceLength 26 (e := (44, .getfield 12, 3)) rfl, rfl, by decide, Or.inl jw_273, Or.inl rfl⟩
theorem f_Line_fenceLength_60 : jFld jcl lw_tbl y_Line_fenceLength 60 5 0 .getfield := ⟨12, "MarkBlocks$Line", jQ_Line, dx_Line_fenceLength 33 (e := (60, .getfield 12, 3)) rfl, rfl, by decide, Or.inl jw_273, Or.inl rfl⟩
theorem can_Line_fenceLength : jCan lw_tbl y_Line_fenceLength 0 := ⟨jw_665, jw_13, by decide +kernel, by decide +kernel, by decide⟩
theorem dx_Line_underlineLevel (i : Nat) {e : Nat × Instr × Nat} (h : k_Line_underlineLevel[i]? = some e) : decode y_Line_underlineLevel.2.1 e.1 = .ok e.2 := dk_Line_underlineLevel e (List.mem_of_getElem? h)
theorem f_Line_underlineLevel_1 : jFld jcl lw_tbl y_Line_underlineLevel 1 5 0 .getfield := ⟨12, "MarkBlocks$Line", jQ_Line, dx_Line_underlineLevel 1 (e := (1, .getfield 12, 3)) rfl, rfl, by decide, Or.inl jw_273, Or.inl rfl⟩
theorem can_Line_underlineLevel : jCan lw_tbl y_Line_underlineLevel 0 := ⟨jw_669, jw_13, by decide +kernel, by decide +kernel, by decide⟩
theorem dx_Line_isRule (i : Nat) {e : Nat × Instr × Nat} (h : k_Line_isRule[i]? = some e) : decode y_Line_isRule.2.1 e.1 = .ok e.2 := dk_Line_isRule e (List.mem_of_getElem? h)
theorem f_Line_isRule_1 : jFld jcl lw_tbl y_Line_isRule 1 5 0 .getfield := ⟨12, "MarkBlocks$Line", jQ_Line, dx_Line_isRule 1 (e := (1, .getfield 12, 3)) rfl, rfl, by decide, Or.inl jw_273, Or.inl rfl⟩
theorem f_Line_isRule_41 : jFld jcl lw_tbl y_Line_isRule 41 5 0 .getfield := ⟨12, "MarkBlocks$Line", jQ_Line, dx_Line_isRule 24 (e := (41, .getfield 12, 3)) rfl, rfl, by decide, Or.inl jw_273, Or.inl rfl⟩
theorem f_Line_isRule_51 : jFld jcl lw_tbl y_Line_isRule 51 5 0 .getfield := ⟨12, "MarkBlocks$Line", jQ_Line, dx_Line_isRule 28 (e := (51, .getfield 12, 3)) rfl, rfl, by decide, Or.inl jw_273, Or.inl rfl⟩
theorem f_Line_isRule_69 : jFld jcl lw_tbl y_Line_isRule 69 5 0 .getfield := ⟨12, "MarkBlocks$Line", jQ_Line, dx_Line_isRule 36 (e := (69, .getfield 12, 3)) rfl, rfl, by decide, Or.inl jw_273, Or.inl rfl⟩
theorem can_Line_isRule : jCan lw_tbl y_Line_isRule 0 := ⟨jw_673, jw_13, by decide +kernel, by decide +kernel, by decide⟩
theorem dx_Line_findMark (i : Nat) {e : Nat × Instr × Nat} (h : k_Line_findMark[i]? = some e) : decode y_Line_findMark.2.1 e.1 = .ok e.2 := dk_Line_findMark e (List.mem_of_getElem? h)
theorem f_Line_findMark_4 : jFld jcl lw_tbl y_Line_findMark 4 5 6 .putfield := ⟨75, "MarkBlocks$Line", jQ_Line, dx_Line_findMark 4 (e := (4, .putfield 75, 3)) rfl, rfl, by decide, Or.inl jw_279, Or.inl rfl⟩
theorem f_Line_findMark_14 : jFld jcl lw_tbl y_Line_findMark 14 5 0 .getfield := ⟨12, "MarkBlocks$Line", jQ_Line, dx_Line_findMark 9 (e := (14, .getfield 12, 3)) rfl, rfl, by decide, Or.inl jw_273, Or.inl rfl⟩
theorem f_Line_findMark_36 : jFld jcl lw_tbl y_Line_findMark 36 5 6 .getfield := ⟨75, "MarkBlocks$Line", jQ_Line, dx_Line_findMark 20 (e := (36, .getfield 75, 3)) rfl, rfl, by decide, Or.inl jw_279, Or.inl rfl⟩
theorem f_Line_findMark_41 : jFld jcl lw_tbl y_Line_findMark 41 5 0 .getfield := ⟨12, "MarkBlocks$Line", jQ_Line, dx_Line_findMark 23 (e := (41, .getfield 12, 3)) rfl, rfl, by decide, Or.inl jw_273, Or.inl rfl⟩
theorem f_Line_findMark_57 : jFld jcl lw_tbl y_Line_findMark 57 5 6 .putfield := ⟨75, "MarkBlocks$Line", jQ_Line, dx_Line_findMark 32 (e := (57, .putfield 75, 3)) rfl, rfl, by decide, Or.inl jw_279, Or.inl rfl⟩
theorem f_Line_findMark_68 : jFld jcl lw_tbl y_Line_findMark 68 5 0 .getfield := ⟨12, "MarkBlocks$Line", jQ_Line, dx_Line_findMark 37 (e := (68, .getfield 12, 3)) rfl, rfl, by decide, Or.inl jw_273, Or.inl rfl⟩
theorem f_Line_findMark_80 : jFld jcl lw_tbl y_Line_findMark 80 5 4 .putfield := ⟨81, "MarkBlocks$Line", jQ_Line, dx_Line_findMark 43 (e := (80, .putfield 81, 3)) rfl, rfl, by decide, Or.inl jw_277, Or.inl rfl⟩
theorem f_Line_findMark_87 : jFld jcl lw_tbl y_Line_findMark 87 5 5 .putfield := ⟨84, "MarkBlocks$Line", jQ_Line, dx_Line_findMark 48 (e := (87, .putfield 84, 3)) rfl, rfl, by decide, Or.inl jw_278, Or.inl rfl⟩
theorem f_Line_findMark_95 : jFld jcl lw_tbl y_Line_findMark 95 5 4 .getfield := ⟨81, "MarkBlocks$Line", jQ_Line, dx_Line_findMark 52 (e := (95, .getfield 81, 3)) rfl, rfl, by decide, Or.inl jw_277, Or.inl rfl⟩
theorem f_Line_findMark_104 : jFld jcl lw_tbl y_Line_findMark 104 5 4 .getfield := ⟨81, "MarkBlocks$Line", jQ_Line, dx_Line_findMark 56 (e := (104, .getfield 81, 3)) rfl, rfl, by decide, Or.inl jw_277, Or.inl rfl⟩
theorem f_Line_findMark_113 : jFld jcl lw_tbl y_Line_findMark 113 5 4 .getfield := ⟨81, "MarkBlocks$Line", jQ_Line, dx_Line_findMark 60 (e := (113, .getfield 81, 3)) rfl, rfl, by decide, Or.inl jw_277, Or.inl rfl⟩
theorem f_Line_findMark_130 : jFld jcl lw_tbl y_Line_findMark 130 5 4 .getfield := ⟨81, "MarkBlocks$Line", jQ_Line, dx_Line_findMark 68 (e := (130, .getfield 81, 3)) rfl, rfl, by decide, Or.inl jw_277, Or.inl rfl⟩
theorem f_Line_findMark_139 : jFld jcl lw_tbl y_Line_findMark 139 5 4 .getfield := ⟨81, "MarkBlocks$Line", jQ_Line, dx_Line_findMark 72 (e := (139, .getfield 81, 3)) rfl, rfl, by decide, Or.inl jw_277, Or.inl rfl⟩
theorem f_Line_findMark_163 : jFld jcl lw_tbl y_Line_findMark 163 5 5 .getfield := ⟨84, "MarkBlocks$Line", jQ_Line, dx_Line_findMark 85 (e := (163, .getfield 84, 3)) rfl, rfl, by decide, Or.inl jw_278, Or.inl rfl⟩
theorem can_Line_findMark : jCan lw_tbl y_Line_findMark 0 := ⟨jw_677, jw_13, by decide +kernel, by decide +kernel, by decide⟩
theorem dx_Line_isDigit (i : Nat) {e : Nat × Instr × Nat} (h : k_Line_isDigit[i]? = some e) : decode y_Line_isDigit.2.1 e.1 = .ok e.2 := dk_Line_isDigit e (List.mem_of_getElem? h)
theorem can_Line_isDigit : jCan lw_tbl y_Line_isDigit 1 := ⟨jw_680, jw_13, by decide +kernel, by decide +kernel, by decide⟩
theorem dx_Line_markEndsParagraph (i : Nat) {e : Nat × Instr × Nat} (h : k_Line_markEndsParagraph[i]? = some e) : decode y_Line_markEndsParagraph.2.1 e.1 = .ok e.2 := dk_Line_markEndsParagraph e (List.mem_of_getElem? h)
theorem f_Line_markEndsParagraph_6 : jFld jcl lw_tbl y_Line_markEndsParagraph 6 5 5 .getfield := ⟨84, "MarkBlocks$Line", jQ_Line, dx_Line_markEndsParagraph 4 (e := (6, .getfield 84, 3)) rfl, rfl, by decide, Or.inl jw_278, Or.inl rfl⟩
theorem f_Line_markEndsParagraph_17 : jFld jcl lw_tbl y_Line_markEndsParagraph 17 5 5 .getfield := ⟨84, "MarkBlocks$Line", jQ_Line, dx_Line_markEndsParagraph 9 (e := (17, .getfield 84, 3)) rfl, rfl, by decide, Or.inl jw_278, Or.inl rfl⟩
theorem f_Line_markEndsParagraph_25 : jFld jcl lw_tbl y_Line_markEndsParagraph 25 5 6 .getfield := ⟨75, "MarkBlocks$Line", jQ_Line, dx_Line_markEndsParagraph 13 (e := (25, .getfield 75, 3)) rfl, rfl, by decide, Or.inl jw_279, Or.inl rfl⟩
theorem can_Line_markEndsParagraph : jCan lw_tbl y_Line_markEndsParagraph 0 := ⟨jw_684, jw_13, by decide +kernel, by decide +kernel, by decide⟩
theorem dx_Line_markSign (i : Nat) {e : Nat × Instr × Nat} (h : k_Line_markSign[i]? = some e) : decode y_Line_markSign.2.1 e.1 = .ok e.2 := dk_Line_markSign e (List.mem_of_getElem? h)
theorem f_Line_markSign_1 : jFld jcl lw_tbl y_Line_markSign 1 5 4 .getfield := ⟨81, "MarkBlocks$Line", jQ_Line, dx_Line_markSign 1 (e := (1, .getfield 81, 3)) rfl, rfl, by decide, Or.inl jw_277, Or.inl rfl⟩
theorem can_Line_markSign : jCan lw_tbl y_Line_markSign 0 := ⟨jw_808, jw_13, by decide +kernel, by decide +kernel, by decide⟩
theorem dx_Line_markNumber (i : Nat) {e : Nat × Instr × Nat} (h : k_Line_markNumber[i]? = some e) : decode y_Line_markNumber.2.1 e.1 = .ok e.2 := dk_Line_markNumber e (List.mem_of_getElem? h)
theorem f_Line_markNumber_1 : jFld jcl lw_tbl y_Line_markNumber 1 5 6 .getfield := ⟨75, "MarkBlocks$Line", jQ_Line, dx_Line_markNumber 1 (e := (1, .getfield 75, 3)) rfl, rfl, by decide, Or.inl jw_279, Or.inl rfl⟩
theorem can_Line_markNumber : jCan lw_tbl y_Line_markNumber 0 := ⟨jw_832, jw_13, by decide +kernel, by decide +kernel, by decide⟩
theorem dx_Line_itemWidth (i : Nat) {e : Nat × Instr × Nat} (h : k_Line_itemWidth[i]? = some e) : decode y_Line_itemWidth.2.1 e.1 = .ok e.2 := dk_Line_itemWidth e (List.mem_of_getElem? h)
theorem f_Line_itemWidth_5 : jFld jcl lw_tbl y_Line_itemWidth 5 5 5 .getfield := ⟨84, "MarkBlocks$Line", jQ_Line, dx_Line_itemWidth 3 (e := (5, .getfield 84, 3)) rfl, rfl, by decide, Or.inl jw_278, Or.inl rfl⟩
theorem f_Line_itemWidth_25 : jFld jcl lw_tbl y_Line_itemWidth 25 5 0 .getfield := ⟨12, "MarkBlocks$Line", jQ_Line, dx_Line_itemWidth 17 (e := (25, .getfield 12, 3)) rfl, rfl, by decide, Or.inl jw_273, Or.inl rfl⟩
theorem f_Line_itemWidth_41 : jFld jcl lw_tbl y_Line_itemWidth 41 5 3 .getfield := ⟨46, "MarkBlocks$Line", jQ_Line, dx_Line_itemWidth 25 (e := (41, .getfield 46, 3)) rfl, rfl, by decide, Or.inl jw_276, Or.inl rfl⟩
theorem f_Line_itemWidth_45 : jFld jcl lw_tbl y_Line_itemWidth 45 5 5 .getfield := ⟨84, "MarkBlocks$Line", jQ_Line, dx_Line_itemWidth 27 (e := (45, .getfield 84, 3)) rfl, rfl, by decide, Or.inl jw_278, Or.inl rfl⟩
theorem can_Line_itemWidth : jCan lw_tbl y_Line_itemWidth 0 := ⟨jw_836, jw_13, by decide +kernel, by decide +kernel, by decide⟩
theorem dx_Line_size (i : Nat) {e : Nat × Instr × Nat} (h : k_Line_size[i]? = some e) : decode y_Line_size.2.1 e.1 = .ok e.2 := dk_Line_size e (List.mem_of_getElem? h)
theorem f_Line_size_1 : jFld jcl lw_tbl y_Line_size 1 5 0 .getfield := ⟨12, "MarkBlocks$Line", jQ_Line, dx_Line_size 1 (e := (1, .getfield 12, 3)) rfl, rfl, by decide, Or.inl jw_273, Or.inl rfl⟩
theorem can_Line_size : jCan lw_tbl y_Line_size 0 := ⟨jw_849, jw_13, by decide +kernel, by decide +kernel, by decide⟩
theorem dx_Line_at (i : Nat) {e : Nat × Instr × Nat} (h : k_Line_at[i]? = some e) : decode y_Line_at.2.1 e.1 = .ok e.2 := dk_Line_at e (List.mem_of_getElem? h)
theorem f_Line_at_1 : jFld jcl lw_tbl y_Line_at 1 5 0 .getfield := ⟨12, "MarkBlocks$Line", jQ_Line, dx_Line_at 1 (e := (1, .getfield 12, 3)) rfl, rfl, by decide, Or.inl jw_273, Or.inl rfl⟩
theorem can_Line_at : jCan lw_tbl y_Line_at 1 := ⟨jw_853, jw_13, by decide +kernel, by decide +kernel, by decide⟩
theorem dx_Line_place (i : Nat) {e : Nat × Instr × Nat} (h : k_Line_place[i]? = some e) : decode y_Line_place.2.1 e.1 = .ok e.2 := dk_Line_place e (List.mem_of_getElem? h)
theorem f_Line_place_1 : jFld jcl lw_tbl y_Line_place 1 5 2 .getfield := ⟨43, "MarkBlocks$Line", jQ_Line, dx_Line_place 1 (e := (1, .getfield 43, 3)) rfl, rfl, by decide, Or.inl jw_275, Or.inl rfl⟩
theorem can_Line_place : jCan lw_tbl y_Line_place 0 := ⟨jw_961, jw_13, by decide +kernel, by decide +kernel, by decide⟩
