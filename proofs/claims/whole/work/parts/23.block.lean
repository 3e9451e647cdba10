abbrev c_Block_init : ByteArray := prog_2_method_1_code
abbrev y_Block_init : jM := (⟨"MarkBlocks$Block", "<init>", "()V"⟩, c_Block_init, 1, none)
def k_Block_init : List (Nat × Instr × Nat) := [(0, .aload_n 0, 1), (1, .invokespecial 3, 3), (4, .return_, 1)]
theorem dk_Block_init : ∀ e ∈ k_Block_init, decode c_Block_init e.1 = .ok e.2 := by decide +kernel
abbrev c_Block_tell : ByteArray := prog_2_method_3_code
abbrev y_Block_tell : jM := (⟨"MarkBlocks$Block", "tell", "(I)I"⟩, c_Block_tell, 2, (some .int))
def k_Block_tell : List (Nat × Instr × Nat) := [(0, .iload_n 1, 1), (1, .tableswitch 105 0 9 #[55, 60, 65, 70, 75, 80, 85, 90, 95, 100], 55), (56, .aload_n 0, 1), (57, .getfield 9, 3), (60, .ireturn, 1), (61, .aload_n 0, 1), (62, .getfield 18, 3), (65, .ireturn, 1), (66, .aload_n 0, 1), (67, .getfield 21, 3), (70, .ireturn, 1), (71, .aload_n 0, 1), (72, .getfield 24, 3), (75, .ireturn, 1), (76, .aload_n 0, 1), (77, .getfield 30, 3), (80, .ireturn, 1), (81, .aload_n 0, 1), (82, .getfield 36, 3), (85, .ireturn, 1), (86, .aload_n 0, 1), (87, .getfield 39, 3), (90, .ireturn, 1), (91, .aload_n 0, 1), (92, .getfield 42, 3), (95, .ireturn, 1), (96, .aload_n 0, 1), (97, .getfield 45, 3), (100, .ireturn, 1), (101, .aload_n 0, 1), (102, .getfield 48, 3), (105, .ireturn, 1), (106, .iconst (-1), 1), (107, .ireturn, 1)]
theorem dk_Block_tell : ∀ e ∈ k_Block_tell, decode c_Block_tell e.1 = .ok e.2 := by decide +kernel
abbrev c_Block_begin : ByteArray := prog_2_method_2_code
abbrev y_Block_begin : jM := (⟨"MarkBlocks$Block", "begin", "(IIIII)V"⟩, c_Block_begin, 6, none)
def k_Block_begin : List (Nat × Instr × Nat) := [(0, .aload_n 0, 1), (1, .iload_n 1, 1), (2, .putfield 9, 3), (5, .aload_n 0, 1), (6, .iload_n 2, 1), (7, .putfield 15, 3), (10, .aload_n 0, 1), (11, .iload_n 3, 1), (12, .putfield 18, 3), (15, .aload_n 0, 1), (16, .iconst 0, 1), (17, .putfield 21, 3), (20, .aload_n 0, 1), (21, .iconst 0, 1), (22, .putfield 24, 3), (25, .aload_n 0, 1), (26, .iload 5, 2), (28, .putfield 27, 3), (31, .aload_n 0, 1), (32, .iconst 0, 1), (33, .putfield 30, 3), (36, .aload_n 0, 1), (37, .iload 5, 2), (39, .putfield 33, 3), (42, .aload_n 0, 1), (43, .iconst 0, 1), (44, .putfield 36, 3), (47, .aload_n 0, 1), (48, .iload 4, 2), (50, .putfield 39, 3), (53, .aload_n 0, 1), (54, .iload 4, 2), (56, .putfield 42, 3), (59, .aload_n 0, 1), (60, .iconst 0, 1), (61, .putfield 45, 3), (64, .aload_n 0, 1), (65, .iconst 0, 1), (66, .putfield 48, 3), (69, .aload_n 0, 1), (70, .iconst (-1), 1), (71, .putfield 51, 3), (74, .return_, 1)]
theorem dk_Block_begin : ∀ e ∈ k_Block_begin, decode c_Block_begin e.1 = .ok e.2 := by decide +kernel
theorem dx_Block_init (i : Nat) {e : Nat × Instr × Nat} (h : k_Block_init[i]? = some e) : decode y_Block_init.2.1 e.1 = .ok e.2 := dk_Block_init e (List.mem_of_getElem? h)
theorem can_Block_init : jCan lw_tbl y_Block_init 0 := ⟨jw_83, jw_7, by decide +kernel, by decide +kernel, by decide⟩
theorem dx_Block_tell (i : Nat) {e : Nat × Instr × Nat} (h : k_Block_tell[i]? = some e) : decode y_Block_tell.2.1 e.1 = .ok e.2 := dk_Block_tell e (List.mem_of_getElem? h)
theorem f_Block_tell_57 : jFld jcl lw_tbl y_Block_tell 57 3 0 .getfield := ⟨9, "MarkBlocks$Block", jQ_Block, dx_Block_tell 3 (e := (57, .getfield 9, 3)) rfl, rfl, by decide, Or.inl jw_85, Or.inl rfl⟩
theorem f_Block_tell_62 : jFld jcl lw_tbl y_Block_tell 62 3 2 .getfield := ⟨18, "MarkBlocks$Block", jQ_Block, dx_Block_tell 6 (e := (62, .getfield 18, 3)) rfl, rfl, by decide, Or.inl jw_91, Or.inl rfl⟩
theorem f_Block_tell_67 : jFld jcl lw_tbl y_Block_tell 67 3 3 .getfield := ⟨21, "MarkBlocks$Block", jQ_Block, dx_Block_tell 9 (e := (67, .getfield 21, 3)) rfl, rfl, by decide, Or.inl jw_93, Or.inl rfl⟩
theorem f_Block_tell_72 : jFld jcl lw_tbl y_Block_tell 72 3 4 .getfield := ⟨24, "MarkBlocks$Block", jQ_Block, dx_Block_tell 12 (e := (72, .getfield 24, 3)) rfl, rfl, by decide, Or.inl jw_95, Or.inl rfl⟩
theorem f_Block_tell_77 : jFld jcl lw_tbl y_Block_tell 77 3 6 .getfield := ⟨30, "MarkBlocks$Block", jQ_Block, dx_Block_tell 15 (e := (77, .getfield 30, 3)) rfl, rfl, by decide, Or.inl jw_101, Or.inl rfl⟩
theorem f_Block_tell_82 : jFld jcl lw_tbl y_Block_tell 82 3 8 .getfield := ⟨36, "MarkBlocks$Block", jQ_Block, dx_Block_tell 18 (e := (82, .getfield 36, 3)) rfl, rfl, by decide, Or.inl jw_108, Or.inl rfl⟩
theorem f_Block_tell_87 : jFld jcl lw_tbl y_Block_tell 87 3 9 .getfield := ⟨39, "MarkBlocks$Block", jQ_Block, dx_Block_tell 21 (e := (87, .getfield 39, 3)) rfl, rfl, by decide, Or.inl jw_111, Or.inl rfl⟩
theorem f_Block_tell_92 : jFld jcl lw_tbl y_Block_tell 92 3 10 .getfield := ⟨42, "MarkBlocks$Block", jQ_Block, dx_Block_tell 24 (e := (92, .getfield 42, 3)) rfl, rfl, by decide, Or.inl jw_113, Or.inl rfl⟩
theorem f_Block_tell_97 : jFld jcl lw_tbl y_Block_tell 97 3 11 .getfield := ⟨45, "MarkBlocks$Block", jQ_Block, dx_Block_tell 27 (e := (97, .getfield 45, 3)) rfl, rfl, by decide, Or.inl jw_116, Or.inl rfl⟩
theorem f_Block_tell_102 : jFld jcl lw_tbl y_Block_tell 102 3 12 .getfield := ⟨48, "MarkBlocks$Block", jQ_Block, dx_Block_tell 30 (e := (102, .getfield 48, 3)) rfl, rfl, by decide, Or.inl jw_118, Or.inl rfl⟩
theorem can_Block_tell : jCan lw_tbl y_Block_tell 1 := ⟨jw_433, jw_7, by decide +kernel, by decide +kernel, by decide⟩
theorem dx_Block_begin (i : Nat) {e : Nat × Instr × Nat} (h : k_Block_begin[i]? = some e) : decode y_Block_begin.2.1 e.1 = .ok e.2 := dk_Block_begin e (List.mem_of_getElem? h)
theorem f_Block_begin_2 : jFld jcl lw_tbl y_Block_begin 2 3 0 .putfield := ⟨9, "MarkBlocks$Block", jQ_Block, dx_Block_begin 2 (e := (2, .putfield 9, 3)) rfl, rfl, by decide, Or.inl jw_85, Or.inl rfl⟩
theorem f_Block_begin_7 : jFld jcl lw_tbl y_Block_begin 7 3 1 .putfield := ⟨15, "MarkBlocks$Block", jQ_Block, dx_Block_begin 5 (e := (7, .putfield 15, 3)) rfl, rfl, by decide, Or.inl jw_88, Or.inl rfl⟩
theorem f_Block_begin_12 : jFld jcl lw_tbl y_Block_begin 12 3 2 .putfield := ⟨18, "MarkBlocks$Block", jQ_Block, dx_Block_begin 8 (e := (12, .putfield 18, 3)) rfl, rfl, by decide, Or.inl jw_91, Or.inl rfl⟩
theorem f_Block_begin_17 : jFld jcl lw_tbl y_Block_begin 17 3 3 .putfield := ⟨21, "MarkBlocks$Block", jQ_Block, dx_Block_begin 11 (e := (17, .putfield 21, 3)) rfl, rfl, by decide, Or.inl jw_93, Or.inl rfl⟩
theorem f_Block_begin_22 : jFld jcl lw_tbl y_Block_begin 22 3 4 .putfield := ⟨24, "MarkBlocks$Block", jQ_Block, dx_Block_begin 14 (e := (22, .putfield 24, 3)) rfl, rfl, by decide, Or.inl jw_95, Or.inl rfl⟩
theorem f_Block_begin_28 : jFld jcl lw_tbl y_Block_begin 28 3 5 .putfield := ⟨27, "MarkBlocks$Block", jQ_Block, dx_Block_begin 17 (e := (28, .putfield 27, 3)) rfl, rfl, by decide, Or.inl jw_97, Or.inl rfl⟩
theorem f_Block_begin_33 : jFld jcl lw_tbl y_Block_begin 33 3 6 .putfield := ⟨30, "MarkBlocks$Block", jQ_Block, dx_Block_begin 20 (e := (33, .putfield 30, 3)) rfl, rfl, by decide, Or.inl jw_101, Or.inl rfl⟩
theorem f_Block_begin_39 : jFld jcl lw_tbl y_Block_begin 39 3 7 .putfield := ⟨33, "MarkBlocks$Block", jQ_Block, dx_Block_begin 23 (e := (39, .putfield 33, 3)) rfl, rfl, by decide, Or.inl jw_105, Or.inl rfl⟩
theorem f_Block_begin_44 : jFld jcl lw_tbl y_Block_begin 44 3 8 .putfield := ⟨36, "MarkBlocks$Block", jQ_Block, dx_Block_begin 26 (e := (44, .putfield 36, 3)) rfl, rfl, by decide, Or.inl jw_108, Or.inl rfl⟩
theorem f_Block_begin_50 : jFld jcl lw_tbl y_Block_begin 50 3 9 .putfield := ⟨39, "MarkBlocks$Block", jQ_Block, dx_Block_begin 29 (e := (50, .putfield 39, 3)) rfl, rfl, by decide, Or.inl jw_111, Or.inl rfl⟩
theorem f_Block_begin_56 : jFld jcl lw_tbl y_Block_begin 56 3 10 .putfield := ⟨42, "MarkBlocks$Block", jQ_Block, dx_Block_begin 32 (e := (56, .putfield 42, 3)) rfl, rfl, by decide, Or.inl jw_113, Or.inl rfl⟩
theorem f_Block_begin_61 : jFld jcl lw_tbl y_Block_begin 61 3 11 .putfield := ⟨45, "MarkBlocks$Block", jQ_Block, dx_Block_begin 35 (e := (61, .putfield 45, 3)) rfl, rfl, by decide, Or.inl jw_116, Or.inl rfl⟩
theorem f_Block_begin_66 : jFld jcl lw_tbl y_Block_begin 66 3 12 .putfield := ⟨48, "MarkBlocks$Block", jQ_Block, dx_Block_begin 38 (e := (66, .putfield 48, 3)) rfl, rfl, by decide, Or.inl jw_118, Or.inl rfl⟩
theorem f_Block_begin_71 : jFld jcl lw_tbl y_Block_begin 71 3 13 .putfield := ⟨51, "MarkBlocks$Block", jQ_Block, dx_Block_begin 41 (e := (71, .putfield 51, 3)) rfl, rfl, by decide, Or.inl jw_120, Or.inl rfl⟩
theorem can_Block_begin : jCan lw_tbl y_Block_begin 5 := ⟨jw_548, jw_7, by decide +kernel, by decide +kernel, by decide⟩
theorem jput_jput (σ : jS) (a : Nat) (c c' : jCell) : jput (jput σ a c) a c' = jput σ a c' := by
  unfold jput
  congr 1
  funext q
  by_cases e : q = a
  · simp [e]
  · simp [e]
theorem sw_of {x : Int32} {N : Nat} (hN : N < 2 ^ 30) (h : ¬ (x.toInt < 0 ∨ (N : Int) < x.toInt)) : ∃ j : Nat, j ≤ N ∧ x = nI j := by
  have h0 : ¬ x < 0 := fun q => h (Or.inl (by simpa using Int32.lt_iff_toInt_lt.mp q))
  obtain ⟨j, hj, rfl⟩ := nI_of h0
  refine ⟨j, ?_, rfl⟩
  rw [nI_toInt hj] at h
  omega
/-- the Block at b: its fourteen numbers -/
def BlkAt (B : Nat) (σ : jS) (b : Nat) (g : Nat → Int32) : Prop := ∃ v : Nat → Value, σ.1 b = some (3, 14, v) ∧ (∀ k, k < 14 → v k = .int (g k)) ∧ B ≤ b
/-- a block as it begins -/
def begG (kd ix ho li tx : Int32) : Nat → Int32
  | 0 => kd
  | 1 => ix
  | 2 => ho
  | 5 => tx
  | 7 => tx
  | 9 => li
  | 10 => li
  | 13 => -1
  | _ => 0
/-- what block() tells of a block's numbers -/
def tellG (g : Nat → Int32) (x : Int32) : Int32 := if x.toInt < 0 ∨ 9 < x.toInt then -1 else match x.toNatClampNeg with
  | 0 => g 0
  | 1 => g 2
  | 2 => g 3
  | 3 => g 4
  | 4 => g 6
  | 5 => g 8
  | 6 => g 9
  | 7 => g 10
  | 8 => g 11
  | _ => g 12
section BLOCK
variable {l : Launch} {s0 : State} {D : va_G} {cA : Nat → ClassId} {a0 : Array Value} {d : Nat} {σ : jS} {b : Nat} {g : Nat → Int32}
theorem e_Block_begin (F : jOK s0 jcl D cA lw_tbl a0 jty) (hb : BlkAt s0.heap.size σ b g) (kd ix ho li tx : Int32) : jE l s0 jcl D cA d y_Block_begin [.ref b, .int kd, .int ix, .int ho, .int li, .int tx] σ (fun r σ' => r = none ∧ ∃ w : Nat → Value, σ' = jput σ b (3, 14, w) ∧ ∀ k, k < 14 → w k = .int (begG kd ix ho li tx k)) := by
  obtain ⟨v, h1, h2, h3⟩ := hb
  refine jE.of (by decide) (by simp [Value.category]) (Nat.le_of_ble_eq_true rfl) rfl ?_
  refine jW.aload_n (dx_Block_begin 0 (e := (0, .aload_n 0, 1)) rfl) rfl rfl (pc' := 1) rfl ?_
  refine jW.iload_n (dx_Block_begin 1 (e := (1, .iload_n 1, 1)) rfl) rfl rfl (pc' := 2) rfl ?_
  refine jW.putf F f_Block_begin_2 rfl jF_Block jTab_Block rfl h1 h3 rfl rfl rfl (pc' := 5) rfl ?_
  refine jW.aload_n (dx_Block_begin 3 (e := (5, .aload_n 0, 1)) rfl) rfl rfl (pc' := 6) rfl ?_
  refine jW.iload_n (dx_Block_begin 4 (e := (6, .iload_n 2, 1)) rfl) rfl rfl (pc' := 7) rfl ?_
  refine jW.putf F f_Block_begin_7 rfl jF_Block jTab_Block rfl (jput_at _ _ _) h3 rfl rfl (jput_jput _ _ _ _) (pc' := 10) rfl ?_
  refine jW.aload_n (dx_Block_begin 6 (e := (10, .aload_n 0, 1)) rfl) rfl rfl (pc' := 11) rfl ?_
  refine jW.iload_n (dx_Block_begin 7 (e := (11, .iload_n 3, 1)) rfl) rfl rfl (pc' := 12) rfl ?_
  refine jW.putf F f_Block_begin_12 rfl jF_Block jTab_Block rfl (jput_at _ _ _) h3 rfl rfl (jput_jput _ _ _ _) (pc' := 15) rfl ?_
  refine jW.aload_n (dx_Block_begin 9 (e := (15, .aload_n 0, 1)) rfl) rfl rfl (pc' := 16) rfl ?_
  refine jW.iconst (v := 0) (dx_Block_begin 10 (e := (16, .iconst 0, 1)) rfl) (by decide) (pc' := 17) rfl ?_
  refine jW.putf F f_Block_begin_17 rfl jF_Block jTab_Block rfl (jput_at _ _ _) h3 rfl rfl (jput_jput _ _ _ _) (pc' := 20) rfl ?_
  refine jW.aload_n (dx_Block_begin 12 (e := (20, .aload_n 0, 1)) rfl) rfl rfl (pc' := 21) rfl ?_
  refine jW.iconst (v := 0) (dx_Block_begin 13 (e := (21, .iconst 0, 1)) rfl) (by decide) (pc' := 22) rfl ?_
  refine jW.putf F f_Block_begin_22 rfl jF_Block jTab_Block rfl (jput_at _ _ _) h3 rfl rfl (jput_jput _ _ _ _) (pc' := 25) rfl ?_
  refine jW.aload_n (dx_Block_begin 15 (e := (25, .aload_n 0, 1)) rfl) rfl rfl (pc' := 26) rfl ?_
  refine jW.iload (dx_Block_begin 16 (e := (26, .iload 5, 2)) rfl) rfl (pc' := 28) rfl ?_
  refine jW.putf F f_Block_begin_28 rfl jF_Block jTab_Block rfl (jput_at _ _ _) h3 rfl rfl (jput_jput _ _ _ _) (pc' := 31) rfl ?_
  refine jW.aload_n (dx_Block_begin 18 (e := (31, .aload_n 0, 1)) rfl) rfl rfl (pc' := 32) rfl ?_
  refine jW.iconst (v := 0) (dx_Block_begin 19 (e := (32, .iconst 0, 1)) rfl) (by decide) (pc' := 33) rfl ?_
  refine jW.putf F f_Block_begin_33 rfl jF_Block jTab_Block rfl (jput_at _ _ _) h3 rfl rfl (jput_jput _ _ _ _) (pc' := 36) rfl ?_
  refine jW.aload_n (dx_Block_begin 21 (e := (36, .aload_n 0, 1)) rfl) rfl rfl (pc' := 37) rfl ?_
  refine jW.iload (dx_Block_begin 22 (e := (37, .iload 5, 2)) rfl) rfl (pc' := 39) rfl ?_
  refine jW.putf F f_Block_begin_39 rfl jF_Block jTab_Block rfl (jput_at _ _ _) h3 rfl rfl (jput_jput _ _ _ _) (pc' := 42) rfl ?_
  refine jW.aload_n (dx_Block_begin 24 (e := (42, .aload_n 0, 1)) rfl) rfl rfl (pc' := 43) rfl ?_
  refine jW.iconst (v := 0) (dx_Block_begin 25 (e := (43, .iconst 0, 1)) rfl) (by decide) (pc' := 44) rfl ?_
  refine jW.putf F f_Block_begin_44 rfl jF_Block jTab_Block rfl (jput_at _ _ _) h3 rfl rfl (jput_jput _ _ _ _) (pc' := 47) rfl ?_
  refine jW.aload_n (dx_Block_begin 27 (e := (47, .aload_n 0, 1)) rfl) rfl rfl (pc' := 48) rfl ?_
  refine jW.iload (dx_Block_begin 28 (e := (48, .iload 4, 2)) rfl) rfl (pc' := 50) rfl ?_
  refine jW.putf F f_Block_begin_50 rfl jF_Block jTab_Block rfl (jput_at _ _ _) h3 rfl rfl (jput_jput _ _ _ _) (pc' := 53) rfl ?_
  refine jW.aload_n (dx_Block_begin 30 (e := (53, .aload_n 0, 1)) rfl) rfl rfl (pc' := 54) rfl ?_
  refine jW.iload (dx_Block_begin 31 (e := (54, .iload 4, 2)) rfl) rfl (pc' := 56) rfl ?_
  refine jW.putf F f_Block_begin_56 rfl jF_Block jTab_Block rfl (jput_at _ _ _) h3 rfl rfl (jput_jput _ _ _ _) (pc' := 59) rfl ?_
  refine jW.aload_n (dx_Block_begin 33 (e := (59, .aload_n 0, 1)) rfl) rfl rfl (pc' := 60) rfl ?_
  refine jW.iconst (v := 0) (dx_Block_begin 34 (e := (60, .iconst 0, 1)) rfl) (by decide) (pc' := 61) rfl ?_
  refine jW.putf F f_Block_begin_61 rfl jF_Block jTab_Block rfl (jput_at _ _ _) h3 rfl rfl (jput_jput _ _ _ _) (pc' := 64) rfl ?_
  refine jW.aload_n (dx_Block_begin 36 (e := (64, .aload_n 0, 1)) rfl) rfl rfl (pc' := 65) rfl ?_
  refine jW.iconst (v := 0) (dx_Block_begin 37 (e := (65, .iconst 0, 1)) rfl) (by decide) (pc' := 66) rfl ?_
  refine jW.putf F f_Block_begin_66 rfl jF_Block jTab_Block rfl (jput_at _ _ _) h3 rfl rfl (jput_jput _ _ _ _) (pc' := 69) rfl ?_
  refine jW.aload_n (dx_Block_begin 39 (e := (69, .aload_n 0, 1)) rfl) rfl rfl (pc' := 70) rfl ?_
  refine jW.iconst (v := -1) (dx_Block_begin 40 (e := (70, .iconst (-1), 1)) rfl) (by decide) (pc' := 71) rfl ?_
  refine jW.putf F f_Block_begin_71 rfl jF_Block jTab_Block rfl (jput_at _ _ _) h3 rfl rfl (jput_jput _ _ _ _) (pc' := 74) rfl ?_
  refine jW.vret (dx_Block_begin 42 (e := (74, .return_, 1)) rfl) rfl ?_
  refine ⟨rfl, _, rfl, fun k hk => ?_⟩
  match k, hk with
  | 0, _ => rfl
  | 1, _ => rfl
  | 2, _ => rfl
  | 3, _ => rfl
  | 4, _ => rfl
  | 5, _ => rfl
  | 6, _ => rfl
  | 7, _ => rfl
  | 8, _ => rfl
  | 9, _ => rfl
  | 10, _ => rfl
  | 11, _ => rfl
  | 12, _ => rfl
  | 13, _ => rfl
  | k + 14, hk => omega
theorem e_Block_tell (F : jOK s0 jcl D cA lw_tbl a0 jty) (hb : BlkAt s0.heap.size σ b g) (x : Int32) : jE l s0 jcl D cA d y_Block_tell [.ref b, .int x] σ (fun r σ' => r = some (.int (tellG g x)) ∧ σ' = σ) := by
  obtain ⟨v, h1, h2, h3⟩ := hb
  have f0 := h2 0 (by decide)
  have f1 := h2 1 (by decide)
  have f2 := h2 2 (by decide)
  have f3 := h2 3 (by decide)
  have f4 := h2 4 (by decide)
  have f5 := h2 5 (by decide)
  have f6 := h2 6 (by decide)
  have f7 := h2 7 (by decide)
  have f8 := h2 8 (by decide)
  have f9 := h2 9 (by decide)
  have f10 := h2 10 (by decide)
  have f11 := h2 11 (by decide)
  have f12 := h2 12 (by decide)
  have f13 := h2 13 (by decide)
  refine jE.of (by decide) (by simp [Value.category]) (Nat.le_of_ble_eq_true rfl) rfl ?_
  refine jW.iload_n (dx_Block_tell 0 (e := (0, .iload_n 1, 1)) rfl) rfl rfl (pc' := 1) rfl ?_
  -- the switch
  by_cases hsw : x.toInt < 0 ∨ 9 < x.toInt
  · refine jW.tableOut (dx_Block_tell 1 (e := (1, .tableswitch 105 0 9 #[55, 60, 65, 70, 75, 80, 85, 90, 95, 100], 55)) rfl) hsw 106 (by decide) ?_
    rw [show tellG g x = -1 from if_pos hsw]
    refine jW.iconst (v := -1) (dx_Block_tell 32 (e := (106, .iconst (-1), 1)) rfl) (by decide) (pc' := 107) rfl ?_
    refine jW.iret (dx_Block_tell 33 (e := (107, .ireturn, 1)) rfl) rfl ?_
    exact ⟨rfl, rfl⟩
  · obtain ⟨j, hj, rfl⟩ := sw_of (N := 9) (by decide) hsw
    match j, hj with
    | 0, _ =>
      refine jW.tableIn (dx_Block_tell 1 (e := (1, .tableswitch 105 0 9 #[55, 60, 65, 70, 75, 80, 85, 90, 95, 100], 55)) rfl) (by decide) (by decide) rfl 56 (by decide) ?_
      refine jW.aload_n (dx_Block_tell 2 (e := (56, .aload_n 0, 1)) rfl) rfl rfl (pc' := 57) rfl ?_
      refine jW.getf F f_Block_tell_57 (by assumption) (by assumption) (pc' := 60) rfl ?_
      refine jW.iret (dx_Block_tell 4 (e := (60, .ireturn, 1)) rfl) rfl ?_
      exact ⟨rfl, rfl⟩
    | 1, _ =>
      refine jW.tableIn (dx_Block_tell 1 (e := (1, .tableswitch 105 0 9 #[55, 60, 65, 70, 75, 80, 85, 90, 95, 100], 55)) rfl) (by decide) (by decide) rfl 61 (by decide) ?_
      refine jW.aload_n (dx_Block_tell 5 (e := (61, .aload_n 0, 1)) rfl) rfl rfl (pc' := 62) rfl ?_
      refine jW.getf F f_Block_tell_62 (by assumption) (by assumption) (pc' := 65) rfl ?_
      refine jW.iret (dx_Block_tell 7 (e := (65, .ireturn, 1)) rfl) rfl ?_
      exact ⟨rfl, rfl⟩
    | 2, _ =>
      refine jW.tableIn (dx_Block_tell 1 (e := (1, .tableswitch 105 0 9 #[55, 60, 65, 70, 75, 80, 85, 90, 95, 100], 55)) rfl) (by decide) (by decide) rfl 66 (by decide) ?_
      refine jW.aload_n (dx_Block_tell 8 (e := (66, .aload_n 0, 1)) rfl) rfl rfl (pc' := 67) rfl ?_
      refine jW.getf F f_Block_tell_67 (by assumption) (by assumption) (pc' := 70) rfl ?_
      refine jW.iret (dx_Block_tell 10 (e := (70, .ireturn, 1)) rfl) rfl ?_
      exact ⟨rfl, rfl⟩
    | 3, _ =>
      refine jW.tableIn (dx_Block_tell 1 (e := (1, .tableswitch 105 0 9 #[55, 60, 65, 70, 75, 80, 85, 90, 95, 100], 55)) rfl) (by decide) (by decide) rfl 71 (by decide) ?_
      refine jW.aload_n (dx_Block_tell 11 (e := (71, .aload_n 0, 1)) rfl) rfl rfl (pc' := 72) rfl ?_
      refine jW.getf F f_Block_tell_72 (by assumption) (by assumption) (pc' := 75) rfl ?_
      refine jW.iret (dx_Block_tell 13 (e := (75, .ireturn, 1)) rfl) rfl ?_
      exact ⟨rfl, rfl⟩
    | 4, _ =>
      refine jW.tableIn (dx_Block_tell 1 (e := (1, .tableswitch 105 0 9 #[55, 60, 65, 70, 75, 80, 85, 90, 95, 100], 55)) rfl) (by decide) (by decide) rfl 76 (by decide) ?_
      refine jW.aload_n (dx_Block_tell 14 (e := (76, .aload_n 0, 1)) rfl) rfl rfl (pc' := 77) rfl ?_
      refine jW.getf F f_Block_tell_77 (by assumption) (by assumption) (pc' := 80) rfl ?_
      refine jW.iret (dx_Block_tell 16 (e := (80, .ireturn, 1)) rfl) rfl ?_
      exact ⟨rfl, rfl⟩
    | 5, _ =>
      refine jW.tableIn (dx_Block_tell 1 (e := (1, .tableswitch 105 0 9 #[55, 60, 65, 70, 75, 80, 85, 90, 95, 100], 55)) rfl) (by decide) (by decide) rfl 81 (by decide) ?_
      refine jW.aload_n (dx_Block_tell 17 (e := (81, .aload_n 0, 1)) rfl) rfl rfl (pc' := 82) rfl ?_
      refine jW.getf F f_Block_tell_82 (by assumption) (by assumption) (pc' := 85) rfl ?_
      refine jW.iret (dx_Block_tell 19 (e := (85, .ireturn, 1)) rfl) rfl ?_
      exact ⟨rfl, rfl⟩
    | 6, _ =>
      refine jW.tableIn (dx_Block_tell 1 (e := (1, .tableswitch 105 0 9 #[55, 60, 65, 70, 75, 80, 85, 90, 95, 100], 55)) rfl) (by decide) (by decide) rfl 86 (by decide) ?_
      refine jW.aload_n (dx_Block_tell 20 (e := (86, .aload_n 0, 1)) rfl) rfl rfl (pc' := 87) rfl ?_
      refine jW.getf F f_Block_tell_87 (by assumption) (by assumption) (pc' := 90) rfl ?_
      refine jW.iret (dx_Block_tell 22 (e := (90, .ireturn, 1)) rfl) rfl ?_
      exact ⟨rfl, rfl⟩
    | 7, _ =>
      refine jW.tableIn (dx_Block_tell 1 (e := (1, .tableswitch 105 0 9 #[55, 60, 65, 70, 75, 80, 85, 90, 95, 100], 55)) rfl) (by decide) (by decide) rfl 91 (by decide) ?_
      refine jW.aload_n (dx_Block_tell 23 (e := (91, .aload_n 0, 1)) rfl) rfl rfl (pc' := 92) rfl ?_
      refine jW.getf F f_Block_tell_92 (by assumption) (by assumption) (pc' := 95) rfl ?_
      refine jW.iret (dx_Block_tell 25 (e := (95, .ireturn, 1)) rfl) rfl ?_
      exact ⟨rfl, rfl⟩
    | 8, _ =>
      refine jW.tableIn (dx_Block_tell 1 (e := (1, .tableswitch 105 0 9 #[55, 60, 65, 70, 75, 80, 85, 90, 95, 100], 55)) rfl) (by decide) (by decide) rfl 96 (by decide) ?_
      refine jW.aload_n (dx_Block_tell 26 (e := (96, .aload_n 0, 1)) rfl) rfl rfl (pc' := 97) rfl ?_
      refine jW.getf F f_Block_tell_97 (by assumption) (by assumption) (pc' := 100) rfl ?_
      refine jW.iret (dx_Block_tell 28 (e := (100, .ireturn, 1)) rfl) rfl ?_
      exact ⟨rfl, rfl⟩
    | 9, _ =>
      refine jW.tableIn (dx_Block_tell 1 (e := (1, .tableswitch 105 0 9 #[55, 60, 65, 70, 75, 80, 85, 90, 95, 100], 55)) rfl) (by decide) (by decide) rfl 101 (by decide) ?_
      refine jW.aload_n (dx_Block_tell 29 (e := (101, .aload_n 0, 1)) rfl) rfl rfl (pc' := 102) rfl ?_
      refine jW.getf F f_Block_tell_102 (by assumption) (by assumption) (pc' := 105) rfl ?_
      refine jW.iret (dx_Block_tell 31 (e := (105, .ireturn, 1)) rfl) rfl ?_
      exact ⟨rfl, rfl⟩
    | k + 10, hj => omega
end BLOCK
