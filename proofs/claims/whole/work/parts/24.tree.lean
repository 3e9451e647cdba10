abbrev c_Tree_init : ByteArray := prog_7_method_1_code
abbrev y_Tree_init : jM := (⟨"MarkBlocks$Tree", "<init>", "()V"⟩, c_Tree_init, 1, none)
def k_Tree_init : List (Nat × Instr × Nat) := [(0, .aload_n 0, 1), (1, .invokespecial 3, 3), (4, .aload_n 0, 1), (5, .new 9, 3), (8, .dup, 1), (9, .invokespecial 11, 3), (12, .putfield 12, 3), (15, .aload_n 0, 1), (16, .new 18, 3), (19, .dup, 1), (20, .invokespecial 20, 3), (23, .putfield 21, 3), (26, .aload_n 0, 1), (27, .getfield 12, 3), (30, .aload_n 0, 1), (31, .getfield 21, 3), (34, .invokevirtual 25, 3), (37, .pop, 1), (38, .aload_n 0, 1), (39, .new 29, 3), (42, .dup, 1), (43, .invokespecial 31, 3), (46, .putfield 32, 3), (49, .aload_n 0, 1), (50, .iconst 0, 1), (51, .putfield 36, 3), (54, .return_, 1)]
theorem dk_Tree_init : ∀ e ∈ k_Tree_init, decode c_Tree_init e.1 = .ok e.2 := by decide +kernel
abbrev c_Tree_at : ByteArray := prog_7_method_3_code
abbrev y_Tree_at : jM := (⟨"MarkBlocks$Tree", "at", "(I)LMarkBlocks$Block;"⟩, c_Tree_at, 2, (some (.object "MarkBlocks$Block")))
def k_Tree_at : List (Nat × Instr × Nat) := [(0, .iload_n 1, 1), (1, .ifCond .lt 36, 3), (4, .iload_n 1, 1), (5, .aload_n 0, 1), (6, .getfield 36, 3), (9, .if_icmp .ge 28, 3), (12, .iload_n 1, 1), (13, .aload_n 0, 1), (14, .getfield 12, 3), (17, .invokevirtual 40, 3), (20, .if_icmp .ge 17, 3), (23, .aload_n 0, 1), (24, .getfield 12, 3), (27, .iload_n 1, 1), (28, .invokevirtual 44, 3), (31, .checkcast 18, 3), (34, .goto 4, 3), (37, .aconst_null, 1), (38, .areturn, 1)]
theorem dk_Tree_at : ∀ e ∈ k_Tree_at, decode c_Tree_at e.1 = .ok e.2 := by decide +kernel
abbrev c_Tree_size : ByteArray := prog_7_method_2_code
abbrev y_Tree_size : jM := (⟨"MarkBlocks$Tree", "size", "()I"⟩, c_Tree_size, 1, (some .int))
def k_Tree_size : List (Nat × Instr × Nat) := [(0, .aload_n 0, 1), (1, .getfield 36, 3), (4, .ireturn, 1)]
theorem dk_Tree_size : ∀ e ∈ k_Tree_size, decode c_Tree_size e.1 = .ok e.2 := by decide +kernel
abbrev c_Tree_clear : ByteArray := prog_7_method_4_code
abbrev y_Tree_clear : jM := (⟨"MarkBlocks$Tree", "clear", "()V"⟩, c_Tree_clear, 1, none)
def k_Tree_clear : List (Nat × Instr × Nat) := [(0, .aload_n 0, 1), (1, .iconst 0, 1), (2, .putfield 36, 3), (5, .aload_n 0, 1), (6, .getfield 32, 3), (9, .iconst 0, 1), (10, .invokevirtual 48, 3), (13, .return_, 1)]
theorem dk_Tree_clear : ∀ e ∈ k_Tree_clear, decode c_Tree_clear e.1 = .ok e.2 := by decide +kernel
abbrev c_Tree_add : ByteArray := prog_7_method_5_code
abbrev y_Tree_add : jM := (⟨"MarkBlocks$Tree", "add", "(III)LMarkBlocks$Block;"⟩, c_Tree_add, 5, (some (.object "MarkBlocks$Block")))
def k_Tree_add : List (Nat × Instr × Nat) := [(0, .aload_n 0, 1), (1, .getfield 36, 3), (4, .aload_n 0, 1), (5, .getfield 12, 3), (8, .invokevirtual 40, 3), (11, .if_icmp .lt 18, 3), (14, .aload_n 0, 1), (15, .getfield 12, 3), (18, .new 18, 3), (21, .dup, 1), (22, .invokespecial 20, 3), (25, .invokevirtual 25, 3), (28, .pop, 1), (29, .aload_n 0, 1), (30, .getfield 12, 3), (33, .aload_n 0, 1), (34, .getfield 36, 3), (37, .invokevirtual 44, 3), (40, .checkcast 18, 3), (43, .astore 4, 2), (45, .aload 4, 2), (47, .iload_n 1, 1), (48, .aload_n 0, 1), (49, .getfield 36, 3), (52, .iload_n 2, 1), (53, .iload_n 3, 1), (54, .aload_n 0, 1), (55, .getfield 32, 3), (58, .invokevirtual 52, 3), (61, .invokevirtual 53, 3), (64, .aload_n 0, 1), (65, .dup, 1), (66, .getfield 36, 3), (69, .iconst 1, 1), (70, .iadd, 1), (71, .putfield 36, 3), (74, .aload 4, 2), (76, .areturn, 1)]
theorem dk_Tree_add : ∀ e ∈ k_Tree_add, decode c_Tree_add e.1 = .ok e.2 := by decide +kernel
abbrev c_Tree_holdsSomething : ByteArray := prog_7_method_7_code
abbrev y_Tree_holdsSomething : jM := (⟨"MarkBlocks$Tree", "holdsSomething", "(LMarkBlocks$Block;)Z"⟩, c_Tree_holdsSomething, 3, (some .boolean))
def k_Tree_holdsSomething : List (Nat × Instr × Nat) := [(0, .aload_n 0, 1), (1, .aload_n 1, 1), (2, .getfield 57, 3), (5, .iconst 1, 1), (6, .iadd, 1), (7, .invokevirtual 60, 3), (10, .astore_n 2, 1), (11, .aload_n 2, 1), (12, .ifnull 18, 3), (15, .aload_n 2, 1), (16, .getfield 64, 3), (19, .aload_n 1, 1), (20, .getfield 57, 3), (23, .if_icmp .ne 7, 3), (26, .iconst 1, 1), (27, .goto 4, 3), (30, .iconst 0, 1), (31, .ireturn, 1)]
theorem dk_Tree_holdsSomething : ∀ e ∈ k_Tree_holdsSomething, decode c_Tree_holdsSomething e.1 = .ok e.2 := by decide +kernel
abbrev c_Tree_dropLast : ByteArray := prog_7_method_6_code
abbrev y_Tree_dropLast : jM := (⟨"MarkBlocks$Tree", "dropLast", "()V"⟩, c_Tree_dropLast, 1, none)
def k_Tree_dropLast : List (Nat × Instr × Nat) := [(0, .aload_n 0, 1), (1, .getfield 36, 3), (4, .ifCond .le 13, 3), (7, .aload_n 0, 1), (8, .dup, 1), (9, .getfield 36, 3), (12, .iconst 1, 1), (13, .isub, 1), (14, .putfield 36, 3), (17, .return_, 1)]
theorem dk_Tree_dropLast : ∀ e ∈ k_Tree_dropLast, decode c_Tree_dropLast e.1 = .ok e.2 := by decide +kernel
abbrev c_Tree_finish : ByteArray := prog_7_method_8_code
abbrev y_Tree_finish : jM := (⟨"MarkBlocks$Tree", "finish", "()V"⟩, c_Tree_finish, 4, none)
def k_Tree_finish : List (Nat × Instr × Nat) := [(0, .aload_n 0, 1), (1, .getfield 36, 3), (4, .iconst 1, 1), (5, .isub, 1), (6, .istore_n 1, 1), (7, .iload_n 1, 1), (8, .ifCond .le 51, 3), (11, .aload_n 0, 1), (12, .iload_n 1, 1), (13, .invokevirtual 60, 3), (16, .astore_n 2, 1), (17, .aload_n 2, 1), (18, .ifnonnull 7, 3), (21, .aconst_null, 1), (22, .goto 11, 3), (25, .aload_n 0, 1), (26, .aload_n 2, 1), (27, .getfield 64, 3), (30, .invokevirtual 60, 3), (33, .astore_n 3, 1), (34, .aload_n 3, 1), (35, .ifnull 18, 3), (38, .aload_n 3, 1), (39, .aload_n 3, 1), (40, .getfield 67, 3), (43, .aload_n 2, 1), (44, .getfield 67, 3), (47, .invokestatic 70, 3), (50, .putfield 67, 3), (53, .iinc 1 (-1), 3), (56, .goto (-49), 3), (59, .iconst 1, 1), (60, .istore_n 1, 1), (61, .iload_n 1, 1), (62, .aload_n 0, 1), (63, .getfield 36, 3), (66, .if_icmp .ge 47, 3), (69, .aload_n 0, 1), (70, .iload_n 1, 1), (71, .invokevirtual 60, 3), (74, .astore_n 2, 1), (75, .aload_n 2, 1), (76, .ifnonnull 7, 3), (79, .aconst_null, 1), (80, .goto 11, 3), (83, .aload_n 0, 1), (84, .aload_n 2, 1), (85, .getfield 64, 3), (88, .invokevirtual 60, 3), (91, .astore_n 3, 1), (92, .aload_n 3, 1), (93, .ifnull 14, 3), (96, .aload_n 0, 1), (97, .aload_n 2, 1), (98, .aload_n 3, 1), (99, .invokevirtual 76, 3), (102, .aload_n 3, 1), (103, .iload_n 1, 1), (104, .putfield 80, 3), (107, .iinc 1 1, 3), (110, .goto (-49), 3), (113, .return_, 1)]
theorem dk_Tree_finish : ∀ e ∈ k_Tree_finish, decode c_Tree_finish e.1 = .ok e.2 := by decide +kernel
abbrev c_Tree_lookForGap : ByteArray := prog_7_method_9_code
abbrev y_Tree_lookForGap : jM := (⟨"MarkBlocks$Tree", "lookForGap", "(LMarkBlocks$Block;LMarkBlocks$Block;)V"⟩, c_Tree_lookForGap, 5, none)
def k_Tree_lookForGap : List (Nat × Instr × Nat) := [(0, .aload_n 0, 1), (1, .aload_n 2, 1), (2, .getfield 80, 3), (5, .invokevirtual 60, 3), (8, .astore_n 3, 1), (9, .aload_n 2, 1), (10, .getfield 83, 3), (13, .iconst 3, 1), (14, .if_icmp .ne 14, 3), (17, .aload_n 0, 1), (18, .aload_n 2, 1), (19, .getfield 64, 3), (22, .invokevirtual 60, 3), (25, .goto 4, 3), (28, .aload_n 2, 1), (29, .astore 4, 2), (31, .aload_n 3, 1), (32, .ifnull 36, 3), (35, .aload 4, 2), (37, .ifnull 31, 3), (40, .aload 4, 2), (42, .getfield 83, 3), (45, .iconst 2, 1), (46, .if_icmp .ne 22, 3), (49, .aload_n 1, 1), (50, .getfield 86, 3), (53, .aload_n 3, 1), (54, .getfield 67, 3), (57, .isub, 1), (58, .iconst 1, 1), (59, .if_icmp .le 9, 3), (62, .aload 4, 2), (64, .iconst 1, 1), (65, .putfield 89, 3), (68, .return_, 1)]
theorem dk_Tree_lookForGap : ∀ e ∈ k_Tree_lookForGap, decode c_Tree_lookForGap e.1 = .ok e.2 := by decide +kernel
abbrev c_AL_size : ByteArray := prog_24_method_8_code
abbrev y_AL_size : jM := (⟨"java/util/ArrayList", "size", "()I"⟩, c_AL_size, 1, (some .int))
def k_AL_size : List (Nat × Instr × Nat) := [(0, .aload_n 0, 1), (1, .getfield 48, 3), (4, .ireturn, 1)]
theorem dk_AL_size : ∀ e ∈ k_AL_size, decode c_AL_size e.1 = .ok e.2 := by decide +kernel
abbrev c_AL_get : ByteArray := prog_24_method_20_code
abbrev y_AL_get : jM := (⟨"java/util/ArrayList", "get", "(I)Ljava/lang/Object;"⟩, c_AL_get, 2, (some (.object "java/lang/Object")))
def k_AL_get : List (Nat × Instr × Nat) := [(0, .iload_n 1, 1), (1, .aload_n 0, 1), (2, .getfield 48, 3), (5, .invokestatic 118, 3), (8, .pop, 1), (9, .aload_n 0, 1), (10, .iload_n 1, 1), (11, .invokevirtual 123, 3), (14, .areturn, 1)]
theorem dk_AL_get : ∀ e ∈ k_AL_get, decode c_AL_get e.1 = .ok e.2 := by decide +kernel
abbrev c_AL_elementData : ByteArray := prog_24_method_18_code
abbrev y_AL_elementData : jM := (⟨"java/util/ArrayList", "elementData", "(I)Ljava/lang/Object;"⟩, c_AL_elementData, 2, (some (.object "java/lang/Object")))
def k_AL_elementData : List (Nat × Instr × Nat) := [(0, .aload_n 0, 1), (1, .getfield 9, 3), (4, .iload_n 1, 1), (5, .aaload, 1), (6, .areturn, 1)]
theorem dk_AL_elementData : ∀ e ∈ k_AL_elementData, decode c_AL_elementData e.1 = .ok e.2 := by decide +kernel
abbrev c_Objs_checkIndex : ByteArray := prog_28_method_17_code
abbrev y_Objs_checkIndex : jM := (⟨"java/util/Objects", "checkIndex", "(II)I"⟩, c_Objs_checkIndex, 2, (some .int))
def k_Objs_checkIndex : List (Nat × Instr × Nat) := [(0, .iload_n 0, 1), (1, .iload_n 1, 1), (2, .aconst_null, 1), (3, .invokestatic 105, 3), (6, .ireturn, 1)]
theorem dk_Objs_checkIndex : ∀ e ∈ k_Objs_checkIndex, decode c_Objs_checkIndex e.1 = .ok e.2 := by decide +kernel
abbrev c_Prec_checkIndex : ByteArray := prog_32_method_11_code
abbrev y_Prec_checkIndex : jM := (⟨"jdk/internal/util/Preconditions", "checkIndex", "(IILjava/util/function/BiFunction;)I"⟩, c_Prec_checkIndex, 3, (some .int))
def k_Prec_checkIndex : List (Nat × Instr × Nat) := [(0, .iload_n 0, 1), (1, .ifCond .lt 8, 3), (4, .iload_n 0, 1), (5, .iload_n 1, 1), (6, .if_icmp .lt 10, 3), (9, .aload_n 2, 1), (10, .iload_n 0, 1), (11, .iload_n 1, 1), (12, .invokestatic 95, 3), (15, .athrow, 1), (16, .iload_n 0, 1), (17, .ireturn, 1)]
theorem dk_Prec_checkIndex : ∀ e ∈ k_Prec_checkIndex, decode c_Prec_checkIndex e.1 = .ok e.2 := by decide +kernel
theorem dx_Tree_init (i : Nat) {e : Nat × Instr × Nat} (h : k_Tree_init[i]? = some e) : decode y_Tree_init.2.1 e.1 = .ok e.2 := dk_Tree_init e (List.mem_of_getElem? h)
theorem f_Tree_init_27 : jFld jcl lw_tbl y_Tree_init 27 2 0 .getfield := ⟨12, "MarkBlocks$Tree", jQ_Tree, dx_Tree_init 13 (e := (27, .getfield 12, 3)) rfl, rfl, by decide, Or.inl jw_210, Or.inl rfl⟩
theorem f_Tree_init_31 : jFld jcl lw_tbl y_Tree_init 31 2 1 .getfield := ⟨21, "MarkBlocks$Tree", jQ_Tree, dx_Tree_init 15 (e := (31, .getfield 21, 3)) rfl, rfl, by decide, Or.inl jw_211, Or.inl rfl⟩
theorem f_Tree_init_51 : jFld jcl lw_tbl y_Tree_init 51 2 3 .putfield := ⟨36, "MarkBlocks$Tree", jQ_Tree, dx_Tree_init 25 (e := (51, .putfield 36, 3)) rfl, rfl, by decide, Or.inl jw_216, Or.inl rfl⟩
theorem can_Tree_init : jCan lw_tbl y_Tree_init 0 := ⟨jw_51, jw_3, by decide +kernel, by decide +kernel, by decide⟩
theorem dx_Tree_at (i : Nat) {e : Nat × Instr × Nat} (h : k_Tree_at[i]? = some e) : decode y_Tree_at.2.1 e.1 = .ok e.2 := dk_Tree_at e (List.mem_of_getElem? h)
theorem f_Tree_at_6 : jFld jcl lw_tbl y_Tree_at 6 2 3 .getfield := ⟨36, "MarkBlocks$Tree", jQ_Tree, dx_Tree_at 4 (e := (6, .getfield 36, 3)) rfl, rfl, by decide, Or.inl jw_216, Or.inl rfl⟩
theorem f_Tree_at_14 : jFld jcl lw_tbl y_Tree_at 14 2 0 .getfield := ⟨12, "MarkBlocks$Tree", jQ_Tree, dx_Tree_at 8 (e := (14, .getfield 12, 3)) rfl, rfl, by decide, Or.inl jw_210, Or.inl rfl⟩
theorem f_Tree_at_24 : jFld jcl lw_tbl y_Tree_at 24 2 0 .getfield := ⟨12, "MarkBlocks$Tree", jQ_Tree, dx_Tree_at 12 (e := (24, .getfield 12, 3)) rfl, rfl, by decide, Or.inl jw_210, Or.inl rfl⟩
theorem can_Tree_at : jCan lw_tbl y_Tree_at 1 := ⟨jw_411, jw_3, by decide +kernel, by decide +kernel, by decide⟩
theorem dx_Tree_size (i : Nat) {e : Nat × Instr × Nat} (h : k_Tree_size[i]? = some e) : decode y_Tree_size.2.1 e.1 = .ok e.2 := dk_Tree_size e (List.mem_of_getElem? h)
theorem f_Tree_size_1 : jFld jcl lw_tbl y_Tree_size 1 2 3 .getfield := ⟨36, "MarkBlocks$Tree", jQ_Tree, dx_Tree_size 1 (e := (1, .getfield 36, 3)) rfl, rfl, by decide, Or.inl jw_216, Or.inl rfl⟩
theorem can_Tree_size : jCan lw_tbl y_Tree_size 0 := ⟨jw_510, jw_3, by decide +kernel, by decide +kernel, by decide⟩
theorem dx_Tree_clear (i : Nat) {e : Nat × Instr × Nat} (h : k_Tree_clear[i]? = some e) : decode y_Tree_clear.2.1 e.1 = .ok e.2 := dk_Tree_clear e (List.mem_of_getElem? h)
theorem f_Tree_clear_2 : jFld jcl lw_tbl y_Tree_clear 2 2 3 .putfield := ⟨36, "MarkBlocks$Tree", jQ_Tree, dx_Tree_clear 2 (e := (2, .putfield 36, 3)) rfl, rfl, by decide, Or.inl jw_216, Or.inl rfl⟩
theorem f_Tree_clear_6 : jFld jcl lw_tbl y_Tree_clear 6 2 2 .getfield := ⟨32, "MarkBlocks$Tree", jQ_Tree, dx_Tree_clear 4 (e := (6, .getfield 32, 3)) rfl, rfl, by decide, Or.inl jw_214, Or.inl rfl⟩
theorem can_Tree_clear : jCan lw_tbl y_Tree_clear 0 := ⟨jw_526, jw_3, by decide +kernel, by decide +kernel, by decide⟩
theorem dx_Tree_add (i : Nat) {e : Nat × Instr × Nat} (h : k_Tree_add[i]? = some e) : decode y_Tree_add.2.1 e.1 = .ok e.2 := dk_Tree_add e (List.mem_of_getElem? h)
theorem f_Tree_add_1 : jFld jcl lw_tbl y_Tree_add 1 2 3 .getfield := ⟨36, "MarkBlocks$Tree", jQ_Tree, dx_Tree_add 1 (e := (1, .getfield 36, 3)) rfl, rfl, by decide, Or.inl jw_216, Or.inl rfl⟩
theorem f_Tree_add_5 : jFld jcl lw_tbl y_Tree_add 5 2 0 .getfield := ⟨12, "MarkBlocks$Tree", jQ_Tree, dx_Tree_add 3 (e := (5, .getfield 12, 3)) rfl, rfl, by decide, Or.inl jw_210, Or.inl rfl⟩
theorem f_Tree_add_15 : jFld jcl lw_tbl y_Tree_add 15 2 0 .getfield := ⟨12, "MarkBlocks$Tree", jQ_Tree, dx_Tree_add 7 (e := (15, .getfield 12, 3)) rfl, rfl, by decide, Or.inl jw_210, Or.inl rfl⟩
theorem f_Tree_add_30 : jFld jcl lw_tbl y_Tree_add 30 2 0 .getfield := ⟨12, "MarkBlocks$Tree", jQ_Tree, dx_Tree_add 14 (e := (30, .getfield 12, 3)) rfl, rfl, by decide, Or.inl jw_210, Or.inl rfl⟩
theorem f_Tree_add_34 : jFld jcl lw_tbl y_Tree_add 34 2 3 .getfield := ⟨36, "MarkBlocks$Tree", jQ_Tree, dx_Tree_add 16 (e := (34, .getfield 36, 3)) rfl, rfl, by decide, Or.inl jw_216, Or.inl rfl⟩
theorem f_Tree_add_49 : jFld jcl lw_tbl y_Tree_add 49 2 3 .getfield := ⟨36, "MarkBlocks$Tree", jQ_Tree, dx_Tree_add 23 (e := (49, .getfield 36, 3)) rfl, rfl, by decide, Or.inl jw_216, Or.inl rfl⟩
theorem f_Tree_add_55 : jFld jcl lw_tbl y_Tree_add 55 2 2 .getfield := ⟨32, "MarkBlocks$Tree", jQ_Tree, dx_Tree_add 27 (e := (55, .getfield 32, 3)) rfl, rfl, by decide, Or.inl jw_214, Or.inl rfl⟩
theorem f_Tree_add_66 : jFld jcl lw_tbl y_Tree_add 66 2 3 .getfield := ⟨36, "MarkBlocks$Tree", jQ_Tree, dx_Tree_add 32 (e := (66, .getfield 36, 3)) rfl, rfl, by decide, Or.inl jw_216, Or.inl rfl⟩
theorem f_Tree_add_71 : jFld jcl lw_tbl y_Tree_add 71 2 3 .putfield := ⟨36, "MarkBlocks$Tree", jQ_Tree, dx_Tree_add 35 (e := (71, .putfield 36, 3)) rfl, rfl, by decide, Or.inl jw_216, Or.inl rfl⟩
theorem can_Tree_add : jCan lw_tbl y_Tree_add 3 := ⟨jw_543, jw_3, by decide +kernel, by decide +kernel, by decide⟩
theorem dx_Tree_holdsSomething (i : Nat) {e : Nat × Instr × Nat} (h : k_Tree_holdsSomething[i]? = some e) : decode y_Tree_holdsSomething.2.1 e.1 = .ok e.2 := dk_Tree_holdsSomething e (List.mem_of_getElem? h)
theorem f_Tree_holdsSomething_2 : jFld jcl lw_tbl y_Tree_holdsSomething 2 3 1 .getfield := ⟨57, "MarkBlocks$Block", jQ_Block, dx_Tree_holdsSomething 2 (e := (2, .getfield 57, 3)) rfl, rfl, by decide, Or.inr ⟨_, jw_89⟩, Or.inl rfl⟩
theorem f_Tree_holdsSomething_16 : jFld jcl lw_tbl y_Tree_holdsSomething 16 3 2 .getfield := ⟨64, "MarkBlocks$Block", jQ_Block, dx_Tree_holdsSomething 10 (e := (16, .getfield 64, 3)) rfl, rfl, by decide, Or.inr ⟨_, jw_92⟩, Or.inl rfl⟩
theorem f_Tree_holdsSomething_20 : jFld jcl lw_tbl y_Tree_holdsSomething 20 3 1 .getfield := ⟨57, "MarkBlocks$Block", jQ_Block, dx_Tree_holdsSomething 12 (e := (20, .getfield 57, 3)) rfl, rfl, by decide, Or.inr ⟨_, jw_89⟩, Or.inl rfl⟩
theorem can_Tree_holdsSomething : jCan lw_tbl y_Tree_holdsSomething 1 := ⟨jw_605, jw_3, by decide +kernel, by decide +kernel, by decide⟩
theorem dx_Tree_dropLast (i : Nat) {e : Nat × Instr × Nat} (h : k_Tree_dropLast[i]? = some e) : decode y_Tree_dropLast.2.1 e.1 = .ok e.2 := dk_Tree_dropLast e (List.mem_of_getElem? h)
theorem f_Tree_dropLast_1 : jFld jcl lw_tbl y_Tree_dropLast 1 2 3 .getfield := ⟨36, "MarkBlocks$Tree", jQ_Tree, dx_Tree_dropLast 1 (e := (1, .getfield 36, 3)) rfl, rfl, by decide, Or.inl jw_216, Or.inl rfl⟩
theorem f_Tree_dropLast_9 : jFld jcl lw_tbl y_Tree_dropLast 9 2 3 .getfield := ⟨36, "MarkBlocks$Tree", jQ_Tree, dx_Tree_dropLast 5 (e := (9, .getfield 36, 3)) rfl, rfl, by decide, Or.inl jw_216, Or.inl rfl⟩
theorem f_Tree_dropLast_14 : jFld jcl lw_tbl y_Tree_dropLast 14 2 3 .putfield := ⟨36, "MarkBlocks$Tree", jQ_Tree, dx_Tree_dropLast 8 (e := (14, .putfield 36, 3)) rfl, rfl, by decide, Or.inl jw_216, Or.inl rfl⟩
theorem can_Tree_dropLast : jCan lw_tbl y_Tree_dropLast 0 := ⟨jw_800, jw_3, by decide +kernel, by decide +kernel, by decide⟩
theorem dx_Tree_finish (i : Nat) {e : Nat × Instr × Nat} (h : k_Tree_finish[i]? = some e) : decode y_Tree_finish.2.1 e.1 = .ok e.2 := dk_Tree_finish e (List.mem_of_getElem? h)
theorem f_Tree_finish_1 : jFld jcl lw_tbl y_Tree_finish 1 2 3 .getfield := ⟨36, "MarkBlocks$Tree", jQ_Tree, dx_Tree_finish 1 (e := (1, .getfield 36, 3)) rfl, rfl, by decide, Or.inl jw_216, Or.inl rfl⟩
theorem f_Tree_finish_27 : jFld jcl lw_tbl y_Tree_finish 27 3 2 .getfield := ⟨64, "MarkBlocks$Block", jQ_Block, dx_Tree_finish 17 (e := (27, .getfield 64, 3)) rfl, rfl, by decide, Or.inr ⟨_, jw_92⟩, Or.inl rfl⟩
theorem f_Tree_finish_40 : jFld jcl lw_tbl y_Tree_finish 40 3 10 .getfield := ⟨67, "MarkBlocks$Block", jQ_Block, dx_Tree_finish 24 (e := (40, .getfield 67, 3)) rfl, rfl, by decide, Or.inr ⟨_, jw_114⟩, Or.inl rfl⟩
theorem f_Tree_finish_44 : jFld jcl lw_tbl y_Tree_finish 44 3 10 .getfield := ⟨67, "MarkBlocks$Block", jQ_Block, dx_Tree_finish 26 (e := (44, .getfield 67, 3)) rfl, rfl, by decide, Or.inr ⟨_, jw_114⟩, Or.inl rfl⟩
theorem f_Tree_finish_50 : jFld jcl lw_tbl y_Tree_finish 50 3 10 .putfield := ⟨67, "MarkBlocks$Block", jQ_Block, dx_Tree_finish 28 (e := (50, .putfield 67, 3)) rfl, rfl, by decide, Or.inr ⟨_, jw_114⟩, Or.inl rfl⟩
theorem f_Tree_finish_63 : jFld jcl lw_tbl y_Tree_finish 63 2 3 .getfield := ⟨36, "MarkBlocks$Tree", jQ_Tree, dx_Tree_finish 35 (e := (63, .getfield 36, 3)) rfl, rfl, by decide, Or.inl jw_216, Or.inl rfl⟩
theorem f_Tree_finish_85 : jFld jcl lw_tbl y_Tree_finish 85 3 2 .getfield := ⟨64, "MarkBlocks$Block", jQ_Block, dx_Tree_finish 47 (e := (85, .getfield 64, 3)) rfl, rfl, by decide, Or.inr ⟨_, jw_92⟩, Or.inl rfl⟩
theorem f_Tree_finish_104 : jFld jcl lw_tbl y_Tree_finish 104 3 13 .putfield := ⟨80, "MarkBlocks$Block", jQ_Block, dx_Tree_finish 58 (e := (104, .putfield 80, 3)) rfl, rfl, by decide, Or.inr ⟨_, jw_121⟩, Or.inl rfl⟩
theorem can_Tree_finish : jCan lw_tbl y_Tree_finish 0 := ⟨jw_969, jw_3, by decide +kernel, by decide +kernel, by decide⟩
theorem dx_Tree_lookForGap (i : Nat) {e : Nat × Instr × Nat} (h : k_Tree_lookForGap[i]? = some e) : decode y_Tree_lookForGap.2.1 e.1 = .ok e.2 := dk_Tree_lookForGap e (List.mem_of_getElem? h)
theorem f_Tree_lookForGap_2 : jFld jcl lw_tbl y_Tree_lookForGap 2 3 13 .getfield := ⟨80, "MarkBlocks$Block", jQ_Block, dx_Tree_lookForGap 2 (e := (2, .getfield 80, 3)) rfl, rfl, by decide, Or.inr ⟨_, jw_121⟩, Or.inl rfl⟩
theorem f_Tree_lookForGap_10 : jFld jcl lw_tbl y_Tree_lookForGap 10 3 0 .getfield := ⟨83, "MarkBlocks$Block", jQ_Block, dx_Tree_lookForGap 6 (e := (10, .getfield 83, 3)) rfl, rfl, by decide, Or.inr ⟨_, jw_87⟩, Or.inl rfl⟩
theorem f_Tree_lookForGap_19 : jFld jcl lw_tbl y_Tree_lookForGap 19 3 2 .getfield := ⟨64, "MarkBlocks$Block", jQ_Block, dx_Tree_lookForGap 11 (e := (19, .getfield 64, 3)) rfl, rfl, by decide, Or.inr ⟨_, jw_92⟩, Or.inl rfl⟩
theorem f_Tree_lookForGap_42 : jFld jcl lw_tbl y_Tree_lookForGap 42 3 0 .getfield := ⟨83, "MarkBlocks$Block", jQ_Block, dx_Tree_lookForGap 21 (e := (42, .getfield 83, 3)) rfl, rfl, by decide, Or.inr ⟨_, jw_87⟩, Or.inl rfl⟩
theorem f_Tree_lookForGap_50 : jFld jcl lw_tbl y_Tree_lookForGap 50 3 9 .getfield := ⟨86, "MarkBlocks$Block", jQ_Block, dx_Tree_lookForGap 25 (e := (50, .getfield 86, 3)) rfl, rfl, by decide, Or.inr ⟨_, jw_112⟩, Or.inl rfl⟩
theorem f_Tree_lookForGap_54 : jFld jcl lw_tbl y_Tree_lookForGap 54 3 10 .getfield := ⟨67, "MarkBlocks$Block", jQ_Block, dx_Tree_lookForGap 27 (e := (54, .getfield 67, 3)) rfl, rfl, by decide, Or.inr ⟨_, jw_114⟩, Or.inl rfl⟩
theorem f_Tree_lookForGap_65 : jFld jcl lw_tbl y_Tree_lookForGap 65 3 4 .putfield := ⟨89, "MarkBlocks$Block", jQ_Block, dx_Tree_lookForGap 33 (e := (65, .putfield 89, 3)) rfl, rfl, by decide, Or.inr ⟨_, jw_96⟩, Or.inl rfl⟩
theorem can_Tree_lookForGap : jCan lw_tbl y_Tree_lookForGap 2 := ⟨jw_974, jw_3, by decide +kernel, by decide +kernel, by decide⟩
theorem dx_AL_size (i : Nat) {e : Nat × Instr × Nat} (h : k_AL_size[i]? = some e) : decode y_AL_size.2.1 e.1 = .ok e.2 := dk_AL_size e (List.mem_of_getElem? h)
theorem f_AL_size_1 : jFld jcl lw_tbl y_AL_size 1 7 1 .getfield := ⟨48, "java/util/ArrayList", jQ_AL, dx_AL_size 1 (e := (1, .getfield 48, 3)) rfl, rfl, by decide, Or.inl jw_68, Or.inl rfl⟩
theorem can_AL_size : jCan lw_tbl y_AL_size 0 := ⟨jw_415, jw_6, by decide +kernel, by decide +kernel, by decide⟩
theorem dx_AL_get (i : Nat) {e : Nat × Instr × Nat} (h : k_AL_get[i]? = some e) : decode y_AL_get.2.1 e.1 = .ok e.2 := dk_AL_get e (List.mem_of_getElem? h)
theorem f_AL_get_2 : jFld jcl lw_tbl y_AL_get 2 7 1 .getfield := ⟨48, "java/util/ArrayList", jQ_AL, dx_AL_get 2 (e := (2, .getfield 48, 3)) rfl, rfl, by decide, Or.inl jw_68, Or.inl rfl⟩
theorem can_AL_get : jCan lw_tbl y_AL_get 1 := ⟨jw_419, jw_6, by decide +kernel, by decide +kernel, by decide⟩
theorem dx_AL_elementData (i : Nat) {e : Nat × Instr × Nat} (h : k_AL_elementData[i]? = some e) : decode y_AL_elementData.2.1 e.1 = .ok e.2 := dk_AL_elementData e (List.mem_of_getElem? h)
theorem f_AL_elementData_1 : jFld jcl lw_tbl y_AL_elementData 1 7 0 .getfield := ⟨9, "java/util/ArrayList", jQ_AL, dx_AL_elementData 1 (e := (1, .getfield 9, 3)) rfl, rfl, by decide, Or.inl jw_67, Or.inl rfl⟩
theorem can_AL_elementData : jCan lw_tbl y_AL_elementData 1 := ⟨jw_429, jw_6, by decide +kernel, by decide +kernel, by decide⟩
theorem dx_Objs_checkIndex (i : Nat) {e : Nat × Instr × Nat} (h : k_Objs_checkIndex[i]? = some e) : decode y_Objs_checkIndex.2.1 e.1 = .ok e.2 := dk_Objs_checkIndex e (List.mem_of_getElem? h)
theorem can_Objs_checkIndex : jCan lw_tbl y_Objs_checkIndex 2 := ⟨jw_422, jw_16, by decide +kernel, by decide +kernel, by decide⟩
theorem dx_Prec_checkIndex (i : Nat) {e : Nat × Instr × Nat} (h : k_Prec_checkIndex[i]? = some e) : decode y_Prec_checkIndex.2.1 e.1 = .ok e.2 := dk_Prec_checkIndex e (List.mem_of_getElem? h)
theorem can_Prec_checkIndex : jCan lw_tbl y_Prec_checkIndex 3 := ⟨jw_425, jw_17, by decide +kernel, by decide +kernel, by decide⟩
/-- the list of blocks: al with its array ed of cp places, the first N of them the blocks at bs, whose numbers are bf -/
def ListAt (B : Nat) (σ : jS) (al ed cp N : Nat) (bs : Nat → Nat) (bf : Nat → Nat → Int32) : Prop :=
  (∃ v : Nat → Value, ∃ mc : Int32, σ.1 al = some (7, 3, v) ∧ v 0 = .ref ed ∧ v 1 = .int (nI N) ∧ v 2 = .int mc ∧ B ≤ al) ∧ (∃ w : Nat → Value, σ.1 ed = some (1004, cp, w) ∧ (∀ i, i < N → w i = .ref (bs i)) ∧ B ≤ ed) ∧ (∀ i, i < N → BlkAt B σ (bs i) (bf i)) ∧ (∀ i j, i < N → j < N → bs i = bs j → i = j) ∧ N ≤ cp ∧ cp ≤ 20000
/-- the Tree at tr: its list, its first block, its text, how many blocks count -/
def TreeAt (B : Nat) (σ : jS) (tr al dc tx ed cp N ct : Nat) (bs : Nat → Nat) (bf : Nat → Nat → Int32) : Prop :=
  (∃ v : Nat → Value, σ.1 tr = some (2, 4, v) ∧ v 0 = .ref al ∧ v 1 = .ref dc ∧ v 2 = .ref tx ∧ v 3 = .int (nI ct) ∧ B ≤ tr) ∧ ListAt B σ al ed cp N bs bf ∧ ct ≤ N ∧ bs 0 = dc ∧ 1 ≤ N
theorem BlkAt.keep {B b : Nat} {σ σ' : jS} {ks : List Nat} {g : Nat → Int32} (h : BlkAt B σ b g) (hk : jK ks σ σ') (h1 : 3 ∉ ks) : BlkAt B σ' b g := by
  obtain ⟨v, q1, q2⟩ := h
  exact ⟨v, hk _ _ _ _ q1 h1, q2⟩
theorem ListAt.keep {B al ed cp N : Nat} {σ σ' : jS} {ks : List Nat} {bs : Nat → Nat} {bf : Nat → Nat → Int32} (h : ListAt B σ al ed cp N bs bf) (hk : jK ks σ σ') (h1 : 3 ∉ ks) (h2 : 7 ∉ ks) (h3 : 1004 ∉ ks) : ListAt B σ' al ed cp N bs bf := by
  obtain ⟨⟨v, mc, q1, q2⟩, ⟨w, q3, q4⟩, q5, q6⟩ := h
  exact ⟨⟨v, mc, hk _ _ _ _ q1 h2, q2⟩, ⟨w, hk _ _ _ _ q3 h3, q4⟩, fun i hi => (q5 i hi).keep hk h1, q6⟩
theorem TreeAt.keep {B tr al dc tx ed cp N ct : Nat} {σ σ' : jS} {ks : List Nat} {bs : Nat → Nat} {bf : Nat → Nat → Int32} (h : TreeAt B σ tr al dc tx ed cp N ct bs bf) (hk : jK ks σ σ') (h0 : 2 ∉ ks) (h1 : 3 ∉ ks) (h2 : 7 ∉ ks) (h3 : 1004 ∉ ks) : TreeAt B σ' tr al dc tx ed cp N ct bs bf := by
  obtain ⟨⟨v, q1, q2⟩, q3, q4⟩ := h
  exact ⟨⟨v, hk _ _ _ _ q1 h0, q2⟩, q3.keep hk h1 h2 h3, q4⟩
section TREE
variable {l : Launch} {s0 : State} {D : va_G} {cA : Nat → ClassId} {a0 : Array Value} {d : Nat} {σ : jS} {tr al dc tx ed cp N ct : Nat} {bs : Nat → Nat} {bf : Nat → Nat → Int32}
theorem e_Prec_checkIndex (F : jOK s0 jcl D cA lw_tbl a0 jty) {i n : Nat} (hi : i < n) (hn : n < 2 ^ 31) : jE l s0 jcl D cA d y_Prec_checkIndex [.int (nI i), .int (nI n), .null] σ (fun r σ' => r = some (.int (nI i)) ∧ σ' = σ) := by
  refine jE.ofF (by decide +kernel) (by simp [Value.category]) (Nat.le_of_ble_eq_true rfl) rfl ?_
  refine jW.iload_n (dx_Prec_checkIndex 0 (e := (0, .iload_n 0, 1)) rfl) rfl rfl (pc' := 1) rfl ?_
  refine jW.if_lt (dx_Prec_checkIndex 1 (e := (1, .ifCond .lt 8, 3)) rfl) 9 (by decide) (pc' := 4) rfl (fun c_1 => ?_) (fun c_1 => ?_)
  · first
      | exact absurd c_1 (nI_pos (by omega))
      | exact absurd ((nI_ltI (by omega) hn).mpr hi) c_6
  · refine jW.iload_n (dx_Prec_checkIndex 2 (e := (4, .iload_n 0, 1)) rfl) rfl rfl (pc' := 5) rfl ?_
    refine jW.iload_n (dx_Prec_checkIndex 3 (e := (5, .iload_n 1, 1)) rfl) rfl rfl (pc' := 6) rfl ?_
    refine jW.icmp_lt (dx_Prec_checkIndex 4 (e := (6, .if_icmp .lt 10, 3)) rfl) 16 (by decide) (pc' := 9) rfl (fun c_6 => ?_) (fun c_6 => ?_)
    · refine jW.iload_n (dx_Prec_checkIndex 10 (e := (16, .iload_n 0, 1)) rfl) rfl rfl (pc' := 17) rfl ?_
      refine jW.iret (dx_Prec_checkIndex 11 (e := (17, .ireturn, 1)) rfl) rfl ?_
      exact ⟨rfl, rfl⟩
    · first
        | exact absurd c_1 (nI_pos (by omega))
        | exact absurd ((nI_ltI (by omega) hn).mpr hi) c_6
theorem e_Objs_checkIndex (F : jOK s0 jcl D cA lw_tbl a0 jty) {i n : Nat} (hi : i < n) (hn : n < 2 ^ 31) : jE l s0 jcl D cA (d + 1) y_Objs_checkIndex [.int (nI i), .int (nI n)] σ (fun r σ' => r = some (.int (nI i)) ∧ σ' = σ) := by
  refine jE.ofF (by decide +kernel) (by simp [Value.category]) (Nat.le_of_ble_eq_true rfl) rfl ?_
  refine jW.iload_n (dx_Objs_checkIndex 0 (e := (0, .iload_n 0, 1)) rfl) rfl rfl (pc' := 1) rfl ?_
  refine jW.iload_n (dx_Objs_checkIndex 1 (e := (1, .iload_n 1, 1)) rfl) rfl rfl (pc' := 2) rfl ?_
  refine jW.null (dx_Objs_checkIndex 2 (e := (2, .aconst_null, 1)) rfl) (pc' := 3) rfl ?_
  refine jW.callS F (e_Prec_checkIndex F hi hn) (dx_Objs_checkIndex 3 (e := (3, .invokestatic 105, 3)) rfl) can_Prec_checkIndex jw_423 jw_424 rfl rfl (Nat.le_of_ble_eq_true rfl) (pc' := 6) rfl (fun r σ1 hr => ?_)
  obtain ⟨rfl, rfl⟩ := hr
  refine jW.iret (dx_Objs_checkIndex 4 (e := (6, .ireturn, 1)) rfl) rfl ?_
  exact ⟨rfl, rfl⟩
theorem e_AL_size (F : jOK s0 jcl D cA lw_tbl a0 jty) (h : ListAt s0.heap.size σ al ed cp N bs bf) : jE l s0 jcl D cA d y_AL_size [.ref al] σ (fun r σ' => r = some (.int (nI N)) ∧ σ' = σ) := by
  have hL0 := h
  obtain ⟨⟨v, mc, h1, h2, h3, h4, h5⟩, ⟨w, h6, h7, h8⟩, h9, h10, h11, h12⟩ := h
  refine jE.ofF (by decide +kernel) (by simp [Value.category]) (Nat.le_of_ble_eq_true rfl) rfl ?_
  refine jW.aload_n (dx_AL_size 0 (e := (0, .aload_n 0, 1)) rfl) rfl rfl (pc' := 1) rfl ?_
  refine jW.getf F f_AL_size_1 (by assumption) (by assumption) (pc' := 4) rfl ?_
  refine jW.iret (dx_AL_size 2 (e := (4, .ireturn, 1)) rfl) rfl ?_
  exact ⟨rfl, rfl⟩
theorem e_AL_elementData (F : jOK s0 jcl D cA lw_tbl a0 jty) (h : ListAt s0.heap.size σ al ed cp N bs bf) {i : Nat} (hi : i < N) : jE l s0 jcl D cA d y_AL_elementData [.ref al, .int (nI i)] σ (fun r σ' => r = some (.ref (bs i)) ∧ σ' = σ) := by
  have hL0 := h
  obtain ⟨⟨v, mc, h1, h2, h3, h4, h5⟩, ⟨w, h6, h7, h8⟩, h9, h10, h11, h12⟩ := h
  refine jE.ofF (by decide +kernel) (by simp [Value.category]) (Nat.le_of_ble_eq_true rfl) rfl ?_
  refine jW.aload_n (dx_AL_elementData 0 (e := (0, .aload_n 0, 1)) rfl) rfl rfl (pc' := 1) rfl ?_
  refine jW.getf F f_AL_elementData_1 (by assumption) (by assumption) (pc' := 4) rfl ?_
  refine jW.iload_n (dx_AL_elementData 2 (e := (4, .iload_n 1, 1)) rfl) rfl rfl (pc' := 5) rfl ?_
  refine jW.aald (t := 1004) (w := .ref (bs i)) F (dx_AL_elementData 3 (e := (5, .aaload, 1)) rfl) (by decide) rfl h6 (vp_in_nI (by omega) (by omega)) (by rw [nI_clamp (by omega)]; exact h7 i hi) (pc' := 6) rfl ?_
  refine jW.aret (dx_AL_elementData 4 (e := (6, .areturn, 1)) rfl) rfl (by first | exact Or.inl ⟨_, rfl⟩ | exact Or.inr ⟨_, rfl⟩) (by first | exact Or.inl rfl | exact Or.inr ⟨_, rfl⟩) ?_
  exact ⟨rfl, rfl⟩
theorem e_AL_get (F : jOK s0 jcl D cA lw_tbl a0 jty) (h : ListAt s0.heap.size σ al ed cp N bs bf) {i : Nat} (hi : i < N) : jE l s0 jcl D cA (d + 2) y_AL_get [.ref al, .int (nI i)] σ (fun r σ' => r = some (.ref (bs i)) ∧ σ' = σ) := by
  have hL0 := h
  obtain ⟨⟨v, mc, h1, h2, h3, h4, h5⟩, ⟨w, h6, h7, h8⟩, h9, h10, h11, h12⟩ := h
  refine jE.ofF (by decide +kernel) (by simp [Value.category]) (Nat.le_of_ble_eq_true rfl) rfl ?_
  refine jW.iload_n (dx_AL_get 0 (e := (0, .iload_n 1, 1)) rfl) rfl rfl (pc' := 1) rfl ?_
  refine jW.aload_n (dx_AL_get 1 (e := (1, .aload_n 0, 1)) rfl) rfl rfl (pc' := 2) rfl ?_
  refine jW.getf F f_AL_get_2 (by assumption) (by assumption) (pc' := 5) rfl ?_
  refine jW.callS F (e_Objs_checkIndex F hi (by omega)) (dx_AL_get 3 (e := (5, .invokestatic 118, 3)) rfl) can_Objs_checkIndex jw_420 jw_421 rfl rfl (Nat.le_of_ble_eq_true rfl) (pc' := 8) rfl (fun r σ1 hr => ?_)
  obtain ⟨rfl, rfl⟩ := hr
  refine jW.pop (dx_AL_get 4 (e := (8, .pop, 1)) rfl) rfl (pc' := 9) rfl ?_
  refine jW.aload_n (dx_AL_get 5 (e := (9, .aload_n 0, 1)) rfl) rfl rfl (pc' := 10) rfl ?_
  refine jW.iload_n (dx_AL_get 6 (e := (10, .iload_n 1, 1)) rfl) rfl rfl (pc' := 11) rfl ?_
  refine jW.callV F (e_AL_elementData F hL0 hi) (dx_AL_get 7 (e := (11, .invokevirtual 123, 3)) rfl) can_AL_elementData jw_426 jw_427 (by assumption) rfl jw_428 rfl rfl (Nat.le_of_ble_eq_true rfl) (pc' := 14) rfl (fun r σ1 hr => ?_)
  obtain ⟨rfl, rfl⟩ := hr
  refine jW.aret (dx_AL_get 8 (e := (14, .areturn, 1)) rfl) rfl (by first | exact Or.inl ⟨_, rfl⟩ | exact Or.inr ⟨_, rfl⟩) (by first | exact Or.inl rfl | exact Or.inr ⟨_, rfl⟩) ?_
  exact ⟨rfl, rfl⟩
theorem e_Tree_size (F : jOK s0 jcl D cA lw_tbl a0 jty) (h : TreeAt s0.heap.size σ tr al dc tx ed cp N ct bs bf) : jE l s0 jcl D cA d y_Tree_size [.ref tr] σ (fun r σ' => r = some (.int (nI ct)) ∧ σ' = σ) := by
  have hT0 := h
  obtain ⟨⟨v, h1, h2, h3, h4, h5, h6⟩, hL, b1, b2, b3⟩ := h
  have hL0 := hL
  obtain ⟨⟨va, mc, k1, k2, k3, k4, k5⟩, ⟨w, k6, k7, k8⟩, k9, k10, k11, k12⟩ := hL
  refine jE.of (by decide) (by simp [Value.category]) (Nat.le_of_ble_eq_true rfl) rfl ?_
  refine jW.aload_n (dx_Tree_size 0 (e := (0, .aload_n 0, 1)) rfl) rfl rfl (pc' := 1) rfl ?_
  refine jW.getf F f_Tree_size_1 (by assumption) (by assumption) (pc' := 4) rfl ?_
  refine jW.iret (dx_Tree_size 2 (e := (4, .ireturn, 1)) rfl) rfl ?_
  exact ⟨rfl, rfl⟩
/-- the block of number x, or null -/
def trRef (ct : Nat) (bs : Nat → Nat) (x : Int32) : Value := if x < 0 ∨ nI ct ≤ x then .null else .ref (bs x.toNatClampNeg)
theorem e_Tree_at (F : jOK s0 jcl D cA lw_tbl a0 jty) (h : TreeAt s0.heap.size σ tr al dc tx ed cp N ct bs bf) (x : Int32) : jE l s0 jcl D cA (d + 3) y_Tree_at [.ref tr, .int x] σ (fun r σ' => r = some (trRef ct bs x) ∧ σ' = σ) := by
  have hT0 := h
  obtain ⟨⟨v, h1, h2, h3, h4, h5, h6⟩, hL, b1, b2, b3⟩ := h
  have hL0 := hL
  obtain ⟨⟨va, mc, k1, k2, k3, k4, k5⟩, ⟨w, k6, k7, k8⟩, k9, k10, k11, k12⟩ := hL
  refine jE.of (by decide) (by simp [Value.category]) (Nat.le_of_ble_eq_true rfl) rfl ?_
  refine jW.iload_n (dx_Tree_at 0 (e := (0, .iload_n 1, 1)) rfl) rfl rfl (pc' := 1) rfl ?_
  refine jW.if_lt (dx_Tree_at 1 (e := (1, .ifCond .lt 36, 3)) rfl) 37 (by decide) (pc' := 4) rfl (fun c_1 => ?_) (fun c_1 => ?_)
  · refine jW.null (dx_Tree_at 17 (e := (37, .aconst_null, 1)) rfl) (pc' := 38) rfl ?_
    refine jW.aret (dx_Tree_at 18 (e := (38, .areturn, 1)) rfl) rfl (by first | exact Or.inl ⟨_, rfl⟩ | exact Or.inr ⟨_, rfl⟩) (by first | exact Or.inl rfl | exact Or.inr ⟨_, rfl⟩) ?_
    first
      | exact ⟨by unfold trRef; rw [if_pos (Or.inl c_1)], rfl⟩
      | exact ⟨by unfold trRef; rw [if_pos (Or.inr c_9)], rfl⟩
      | exact absurd c_20 (fun q => by
          obtain ⟨i, hi, rfl⟩ := nI_of c_1
          have hlt : i < ct := Nat.not_le.mp (fun q => c_9 ((nI_leI (by omega) (by omega)).mpr q))
          have := (nI_leI (by omega) (by omega)).mp q
          omega)
      | exact ⟨by unfold trRef; rw [if_neg (fun q => q.elim c_1 c_9), nI_clamp (by omega)], rfl⟩
  · refine jW.iload_n (dx_Tree_at 2 (e := (4, .iload_n 1, 1)) rfl) rfl rfl (pc' := 5) rfl ?_
    refine jW.aload_n (dx_Tree_at 3 (e := (5, .aload_n 0, 1)) rfl) rfl rfl (pc' := 6) rfl ?_
    refine jW.getf F f_Tree_at_6 (by assumption) (by assumption) (pc' := 9) rfl ?_
    refine jW.icmp_ge (dx_Tree_at 5 (e := (9, .if_icmp .ge 28, 3)) rfl) 37 (by decide) (pc' := 12) rfl (fun c_9 => ?_) (fun c_9 => ?_)
    · refine jW.null (dx_Tree_at 17 (e := (37, .aconst_null, 1)) rfl) (pc' := 38) rfl ?_
      refine jW.aret (dx_Tree_at 18 (e := (38, .areturn, 1)) rfl) rfl (by first | exact Or.inl ⟨_, rfl⟩ | exact Or.inr ⟨_, rfl⟩) (by first | exact Or.inl rfl | exact Or.inr ⟨_, rfl⟩) ?_
      first
        | exact ⟨by unfold trRef; rw [if_pos (Or.inl c_1)], rfl⟩
        | exact ⟨by unfold trRef; rw [if_pos (Or.inr c_9)], rfl⟩
        | exact absurd c_20 (fun q => by
            obtain ⟨i, hi, rfl⟩ := nI_of c_1
            have hlt : i < ct := Nat.not_le.mp (fun q => c_9 ((nI_leI (by omega) (by omega)).mpr q))
            have := (nI_leI (by omega) (by omega)).mp q
            omega)
        | exact ⟨by unfold trRef; rw [if_neg (fun q => q.elim c_1 c_9), nI_clamp (by omega)], rfl⟩
    · refine jW.iload_n (dx_Tree_at 6 (e := (12, .iload_n 1, 1)) rfl) rfl rfl (pc' := 13) rfl ?_
      refine jW.aload_n (dx_Tree_at 7 (e := (13, .aload_n 0, 1)) rfl) rfl rfl (pc' := 14) rfl ?_
      refine jW.getf F f_Tree_at_14 (by assumption) (by assumption) (pc' := 17) rfl ?_
      refine jW.callV F (e_AL_size F hL0) (dx_Tree_at 9 (e := (17, .invokevirtual 40, 3)) rfl) can_AL_size jw_412 jw_413 (by assumption) rfl jw_414 rfl rfl (Nat.le_of_ble_eq_true rfl) (pc' := 20) rfl (fun r σ1 hr => ?_)
      obtain ⟨rfl, rfl⟩ := hr
      refine jW.icmp_ge (dx_Tree_at 10 (e := (20, .if_icmp .ge 17, 3)) rfl) 37 (by decide) (pc' := 23) rfl (fun c_20 => ?_) (fun c_20 => ?_)
      · refine jW.null (dx_Tree_at 17 (e := (37, .aconst_null, 1)) rfl) (pc' := 38) rfl ?_
        refine jW.aret (dx_Tree_at 18 (e := (38, .areturn, 1)) rfl) rfl (by first | exact Or.inl ⟨_, rfl⟩ | exact Or.inr ⟨_, rfl⟩) (by first | exact Or.inl rfl | exact Or.inr ⟨_, rfl⟩) ?_
        first
          | exact ⟨by unfold trRef; rw [if_pos (Or.inl c_1)], rfl⟩
          | exact ⟨by unfold trRef; rw [if_pos (Or.inr c_9)], rfl⟩
          | exact absurd c_20 (fun q => by
              obtain ⟨i, hi, rfl⟩ := nI_of c_1
              have hlt : i < ct := Nat.not_le.mp (fun q => c_9 ((nI_leI (by omega) (by omega)).mpr q))
              have := (nI_leI (by omega) (by omega)).mp q
              omega)
          | exact ⟨by unfold trRef; rw [if_neg (fun q => q.elim c_1 c_9), nI_clamp (by omega)], rfl⟩
      · refine jW.aload_n (dx_Tree_at 11 (e := (23, .aload_n 0, 1)) rfl) rfl rfl (pc' := 24) rfl ?_
        refine jW.getf F f_Tree_at_24 (by assumption) (by assumption) (pc' := 27) rfl ?_
        refine jW.iload_n (dx_Tree_at 13 (e := (27, .iload_n 1, 1)) rfl) rfl rfl (pc' := 28) rfl ?_
        obtain ⟨i, hi, rfl⟩ := nI_of c_1
        have hlt : i < ct := Nat.not_le.mp (fun q => c_9 ((nI_leI (by omega) (by omega)).mpr q))
        obtain ⟨vb, p1, p2, p3⟩ := k9 i (by omega)
        refine jW.callV F (e_AL_get F hL0 (i := i) (by omega)) (dx_Tree_at 14 (e := (28, .invokevirtual 44, 3)) rfl) can_AL_get jw_416 jw_417 (by assumption) rfl jw_418 rfl rfl (Nat.le_of_ble_eq_true rfl) (pc' := 31) rfl (fun r σ1 hr => ?_)
        obtain ⟨rfl, rfl⟩ := hr
        refine jW.cast F (dx_Tree_at 15 (e := (31, .checkcast 18, 3)) rfl) p1 rfl jw_79 jw_1420 (pc' := 34) rfl ?_
        refine jW.goto (dx_Tree_at 16 (e := (34, .goto 4, 3)) rfl) 38 (by decide) ?_
        refine jW.aret (dx_Tree_at 18 (e := (38, .areturn, 1)) rfl) rfl (by first | exact Or.inl ⟨_, rfl⟩ | exact Or.inr ⟨_, rfl⟩) (by first | exact Or.inl rfl | exact Or.inr ⟨_, rfl⟩) ?_
        first
          | exact ⟨by unfold trRef; rw [if_pos (Or.inl c_1)], rfl⟩
          | exact ⟨by unfold trRef; rw [if_pos (Or.inr c_9)], rfl⟩
          | exact absurd c_20 (fun q => by
              obtain ⟨i, hi, rfl⟩ := nI_of c_1
              have hlt : i < ct := Nat.not_le.mp (fun q => c_9 ((nI_leI (by omega) (by omega)).mpr q))
              have := (nI_leI (by omega) (by omega)).mp q
              omega)
          | exact ⟨by unfold trRef; rw [if_neg (fun q => q.elim c_1 c_9), nI_clamp (by omega)], rfl⟩
end TREE
