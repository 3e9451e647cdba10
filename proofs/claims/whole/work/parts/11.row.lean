abbrev c_Row_init : ByteArray := prog_6_method_1_code
abbrev y_Row_init : jM := (⟨"MarkBlocks$Row", "<init>", "()V"⟩, c_Row_init, 1, none)
def k_Row_init : List (Nat × Instr × Nat) := [(0, .aload_n 0, 1), (1, .invokespecial 3, 3), (4, .aload_n 0, 1), (5, .bipush 32, 2), (7, .newarray .int, 2), (9, .putfield 11, 3), (12, .aload_n 0, 1), (13, .iconst 0, 1), (14, .putfield 15, 3), (17, .return_, 1)]
theorem dk_Row_init : ∀ e ∈ k_Row_init, decode c_Row_init e.1 = .ok e.2 := by decide +kernel
abbrev c_Row_size : ByteArray := prog_6_method_2_code
abbrev y_Row_size : jM := (⟨"MarkBlocks$Row", "size", "()I"⟩, c_Row_size, 1, (some .int))
def k_Row_size : List (Nat × Instr × Nat) := [(0, .aload_n 0, 1), (1, .getfield 15, 3), (4, .ireturn, 1)]
theorem dk_Row_size : ∀ e ∈ k_Row_size, decode c_Row_size e.1 = .ok e.2 := by decide +kernel
abbrev c_Row_add : ByteArray := prog_6_method_4_code
abbrev y_Row_add : jM := (⟨"MarkBlocks$Row", "add", "(I)V"⟩, c_Row_add, 2, none)
def k_Row_add : List (Nat × Instr × Nat) := [(0, .aload_n 0, 1), (1, .getfield 15, 3), (4, .sipush 16384, 3), (7, .if_icmp .lt 4, 3), (10, .return_, 1), (11, .aload_n 0, 1), (12, .getfield 15, 3), (15, .aload_n 0, 1), (16, .getfield 11, 3), (19, .arraylength, 1), (20, .if_icmp .lt 21, 3), (23, .aload_n 0, 1), (24, .aload_n 0, 1), (25, .getfield 11, 3), (28, .iconst 2, 1), (29, .aload_n 0, 1), (30, .getfield 11, 3), (33, .arraylength, 1), (34, .imul, 1), (35, .invokestatic 19, 3), (38, .putfield 11, 3), (41, .aload_n 0, 1), (42, .getfield 11, 3), (45, .aload_n 0, 1), (46, .getfield 15, 3), (49, .iload_n 1, 1), (50, .iastore, 1), (51, .aload_n 0, 1), (52, .dup, 1), (53, .getfield 15, 3), (56, .iconst 1, 1), (57, .iadd, 1), (58, .putfield 15, 3), (61, .return_, 1)]
theorem dk_Row_add : ∀ e ∈ k_Row_add, decode c_Row_add e.1 = .ok e.2 := by decide +kernel
abbrev c_Row_cut : ByteArray := prog_6_method_5_code
abbrev y_Row_cut : jM := (⟨"MarkBlocks$Row", "cut", "(I)V"⟩, c_Row_cut, 2, none)
def k_Row_cut : List (Nat × Instr × Nat) := [(0, .iload_n 1, 1), (1, .ifCond .lt 16, 3), (4, .iload_n 1, 1), (5, .aload_n 0, 1), (6, .getfield 15, 3), (9, .if_icmp .ge 8, 3), (12, .aload_n 0, 1), (13, .iload_n 1, 1), (14, .putfield 15, 3), (17, .return_, 1)]
theorem dk_Row_cut : ∀ e ∈ k_Row_cut, decode c_Row_cut e.1 = .ok e.2 := by decide +kernel
abbrev c_Row_at : ByteArray := prog_6_method_3_code
abbrev y_Row_at : jM := (⟨"MarkBlocks$Row", "at", "(I)I"⟩, c_Row_at, 2, (some .int))
def k_Row_at : List (Nat × Instr × Nat) := [(0, .iload_n 1, 1), (1, .ifCond .lt 29, 3), (4, .iload_n 1, 1), (5, .aload_n 0, 1), (6, .getfield 15, 3), (9, .if_icmp .ge 21, 3), (12, .iload_n 1, 1), (13, .aload_n 0, 1), (14, .getfield 11, 3), (17, .arraylength, 1), (18, .if_icmp .ge 12, 3), (21, .aload_n 0, 1), (22, .getfield 11, 3), (25, .iload_n 1, 1), (26, .iaload, 1), (27, .goto 4, 3), (30, .iconst (-1), 1), (31, .ireturn, 1)]
theorem dk_Row_at : ∀ e ∈ k_Row_at, decode c_Row_at e.1 = .ok e.2 := by decide +kernel
abbrev c_Math_min : ByteArray := prog_15_method_69_code
abbrev y_Math_min : jM := (⟨"java/lang/Math", "min", "(II)I"⟩, c_Math_min, 2, (some .int))
def k_Math_min : List (Nat × Instr × Nat) := [(0, .iload_n 0, 1), (1, .iload_n 1, 1), (2, .if_icmp .gt 7, 3), (5, .iload_n 0, 1), (6, .goto 4, 3), (9, .iload_n 1, 1), (10, .ireturn, 1)]
theorem dk_Math_min : ∀ e ∈ k_Math_min, decode c_Math_min e.1 = .ok e.2 := by decide +kernel
abbrev c_Math_max : ByteArray := prog_15_method_65_code
abbrev y_Math_max : jM := (⟨"java/lang/Math", "max", "(II)I"⟩, c_Math_max, 2, (some .int))
def k_Math_max : List (Nat × Instr × Nat) := [(0, .iload_n 0, 1), (1, .iload_n 1, 1), (2, .if_icmp .lt 7, 3), (5, .iload_n 0, 1), (6, .goto 4, 3), (9, .iload_n 1, 1), (10, .ireturn, 1)]
theorem dk_Math_max : ∀ e ∈ k_Math_max, decode c_Math_max e.1 = .ok e.2 := by decide +kernel
abbrev c_Arrs_copyOf3 : ByteArray := prog_25_method_123_code
abbrev y_Arrs_copyOf3 : jM := (⟨"java/util/Arrays", "copyOf", "([II)[I"⟩, c_Arrs_copyOf3, 3, (some (.array .int)))
def k_Arrs_copyOf3 : List (Nat × Instr × Nat) := [(0, .iload_n 1, 1), (1, .aload_n 0, 1), (2, .arraylength, 1), (3, .if_icmp .ne 11, 3), (6, .aload_n 0, 1), (7, .invokevirtual 316, 3), (10, .checkcast 317, 3), (13, .areturn, 1), (14, .iload_n 1, 1), (15, .newarray .int, 2), (17, .astore_n 2, 1), (18, .aload_n 0, 1), (19, .iconst 0, 1), (20, .aload_n 2, 1), (21, .iconst 0, 1), (22, .aload_n 0, 1), (23, .arraylength, 1), (24, .iload_n 1, 1), (25, .invokestatic 304, 3), (28, .invokestatic 150, 3), (31, .aload_n 2, 1), (32, .areturn, 1)]
theorem dk_Arrs_copyOf3 : ∀ e ∈ k_Arrs_copyOf3, decode c_Arrs_copyOf3 e.1 = .ok e.2 := by decide +kernel
theorem dx_Row_init (i : Nat) {e : Nat × Instr × Nat} (h : k_Row_init[i]? = some e) : decode y_Row_init.2.1 e.1 = .ok e.2 := dk_Row_init e (List.mem_of_getElem? h)
theorem f_Row_init_9 {ci : Nat} (h : jcl[ci]? = some jQ_Row) : jFld jcl lw_tbl y_Row_init 9 ci 0 .putfield := ⟨11, "MarkBlocks$Row", jQ_Row, dx_Row_init 5 (e := (9, .putfield 11, 3)) rfl, h, by decide, Or.inl jw_39, Or.inl rfl⟩
theorem f_Row_init_14 {ci : Nat} (h : jcl[ci]? = some jQ_Row) : jFld jcl lw_tbl y_Row_init 14 ci 1 .putfield := ⟨15, "MarkBlocks$Row", jQ_Row, dx_Row_init 8 (e := (14, .putfield 15, 3)) rfl, h, by decide, Or.inl jw_40, Or.inl rfl⟩
theorem can_Row_init : jCan lw_tbl y_Row_init 0 := ⟨jw_37, jw_2, by decide +kernel, by decide +kernel, by decide⟩
theorem dx_Row_size (i : Nat) {e : Nat × Instr × Nat} (h : k_Row_size[i]? = some e) : decode y_Row_size.2.1 e.1 = .ok e.2 := dk_Row_size e (List.mem_of_getElem? h)
theorem f_Row_size_1 {ci : Nat} (h : jcl[ci]? = some jQ_Row) : jFld jcl lw_tbl y_Row_size 1 ci 1 .getfield := ⟨15, "MarkBlocks$Row", jQ_Row, dx_Row_size 1 (e := (1, .getfield 15, 3)) rfl, h, by decide, Or.inl jw_40, Or.inl rfl⟩
theorem can_Row_size : jCan lw_tbl y_Row_size 0 := ⟨jw_374, jw_2, by decide +kernel, by decide +kernel, by decide⟩
theorem dx_Row_add (i : Nat) {e : Nat × Instr × Nat} (h : k_Row_add[i]? = some e) : decode y_Row_add.2.1 e.1 = .ok e.2 := dk_Row_add e (List.mem_of_getElem? h)
theorem f_Row_add_1 {ci : Nat} (h : jcl[ci]? = some jQ_Row) : jFld jcl lw_tbl y_Row_add 1 ci 1 .getfield := ⟨15, "MarkBlocks$Row", jQ_Row, dx_Row_add 1 (e := (1, .getfield 15, 3)) rfl, h, by decide, Or.inl jw_40, Or.inl rfl⟩
theorem f_Row_add_12 {ci : Nat} (h : jcl[ci]? = some jQ_Row) : jFld jcl lw_tbl y_Row_add 12 ci 1 .getfield := ⟨15, "MarkBlocks$Row", jQ_Row, dx_Row_add 6 (e := (12, .getfield 15, 3)) rfl, h, by decide, Or.inl jw_40, Or.inl rfl⟩
theorem f_Row_add_16 {ci : Nat} (h : jcl[ci]? = some jQ_Row) : jFld jcl lw_tbl y_Row_add 16 ci 0 .getfield := ⟨11, "MarkBlocks$Row", jQ_Row, dx_Row_add 8 (e := (16, .getfield 11, 3)) rfl, h, by decide, Or.inl jw_39, Or.inl rfl⟩
theorem f_Row_add_25 {ci : Nat} (h : jcl[ci]? = some jQ_Row) : jFld jcl lw_tbl y_Row_add 25 ci 0 .getfield := ⟨11, "MarkBlocks$Row", jQ_Row, dx_Row_add 13 (e := (25, .getfield 11, 3)) rfl, h, by decide, Or.inl jw_39, Or.inl rfl⟩
theorem f_Row_add_30 {ci : Nat} (h : jcl[ci]? = some jQ_Row) : jFld jcl lw_tbl y_Row_add 30 ci 0 .getfield := ⟨11, "MarkBlocks$Row", jQ_Row, dx_Row_add 16 (e := (30, .getfield 11, 3)) rfl, h, by decide, Or.inl jw_39, Or.inl rfl⟩
theorem f_Row_add_38 {ci : Nat} (h : jcl[ci]? = some jQ_Row) : jFld jcl lw_tbl y_Row_add 38 ci 0 .putfield := ⟨11, "MarkBlocks$Row", jQ_Row, dx_Row_add 20 (e := (38, .putfield 11, 3)) rfl, h, by decide, Or.inl jw_39, Or.inl rfl⟩
theorem f_Row_add_42 {ci : Nat} (h : jcl[ci]? = some jQ_Row) : jFld jcl lw_tbl y_Row_add 42 ci 0 .getfield := ⟨11, "MarkBlocks$Row", jQ_Row, dx_Row_add 22 (e := (42, .getfield 11, 3)) rfl, h, by decide, Or.inl jw_39, Or.inl rfl⟩
theorem f_Row_add_46 {ci : Nat} (h : jcl[ci]? = some jQ_Row) : jFld jcl lw_tbl y_Row_add 46 ci 1 .getfield := ⟨15, "MarkBlocks$Row", jQ_Row, dx_Row_add 24 (e := (46, .getfield 15, 3)) rfl, h, by decide, Or.inl jw_40, Or.inl rfl⟩
theorem f_Row_add_53 {ci : Nat} (h : jcl[ci]? = some jQ_Row) : jFld jcl lw_tbl y_Row_add 53 ci 1 .getfield := ⟨15, "MarkBlocks$Row", jQ_Row, dx_Row_add 29 (e := (53, .getfield 15, 3)) rfl, h, by decide, Or.inl jw_40, Or.inl rfl⟩
theorem f_Row_add_58 {ci : Nat} (h : jcl[ci]? = some jQ_Row) : jFld jcl lw_tbl y_Row_add 58 ci 1 .putfield := ⟨15, "MarkBlocks$Row", jQ_Row, dx_Row_add 32 (e := (58, .putfield 15, 3)) rfl, h, by decide, Or.inl jw_40, Or.inl rfl⟩
theorem can_Row_add : jCan lw_tbl y_Row_add 1 := ⟨jw_378, jw_2, by decide +kernel, by decide +kernel, by decide⟩
theorem dx_Row_cut (i : Nat) {e : Nat × Instr × Nat} (h : k_Row_cut[i]? = some e) : decode y_Row_cut.2.1 e.1 = .ok e.2 := dk_Row_cut e (List.mem_of_getElem? h)
theorem f_Row_cut_6 {ci : Nat} (h : jcl[ci]? = some jQ_Row) : jFld jcl lw_tbl y_Row_cut 6 ci 1 .getfield := ⟨15, "MarkBlocks$Row", jQ_Row, dx_Row_cut 4 (e := (6, .getfield 15, 3)) rfl, h, by decide, Or.inl jw_40, Or.inl rfl⟩
theorem f_Row_cut_14 {ci : Nat} (h : jcl[ci]? = some jQ_Row) : jFld jcl lw_tbl y_Row_cut 14 ci 1 .putfield := ⟨15, "MarkBlocks$Row", jQ_Row, dx_Row_cut 8 (e := (14, .putfield 15, 3)) rfl, h, by decide, Or.inl jw_40, Or.inl rfl⟩
theorem can_Row_cut : jCan lw_tbl y_Row_cut 1 := ⟨jw_399, jw_2, by decide +kernel, by decide +kernel, by decide⟩
theorem dx_Row_at (i : Nat) {e : Nat × Instr × Nat} (h : k_Row_at[i]? = some e) : decode y_Row_at.2.1 e.1 = .ok e.2 := dk_Row_at e (List.mem_of_getElem? h)
theorem f_Row_at_6 {ci : Nat} (h : jcl[ci]? = some jQ_Row) : jFld jcl lw_tbl y_Row_at 6 ci 1 .getfield := ⟨15, "MarkBlocks$Row", jQ_Row, dx_Row_at 4 (e := (6, .getfield 15, 3)) rfl, h, by decide, Or.inl jw_40, Or.inl rfl⟩
theorem f_Row_at_14 {ci : Nat} (h : jcl[ci]? = some jQ_Row) : jFld jcl lw_tbl y_Row_at 14 ci 0 .getfield := ⟨11, "MarkBlocks$Row", jQ_Row, dx_Row_at 8 (e := (14, .getfield 11, 3)) rfl, h, by decide, Or.inl jw_39, Or.inl rfl⟩
theorem f_Row_at_22 {ci : Nat} (h : jcl[ci]? = some jQ_Row) : jFld jcl lw_tbl y_Row_at 22 ci 0 .getfield := ⟨11, "MarkBlocks$Row", jQ_Row, dx_Row_at 12 (e := (22, .getfield 11, 3)) rfl, h, by decide, Or.inl jw_39, Or.inl rfl⟩
theorem can_Row_at : jCan lw_tbl y_Row_at 1 := ⟨jw_441, jw_2, by decide +kernel, by decide +kernel, by decide⟩
theorem dx_Math_min (i : Nat) {e : Nat × Instr × Nat} (h : k_Math_min[i]? = some e) : decode y_Math_min.2.1 e.1 = .ok e.2 := dk_Math_min e (List.mem_of_getElem? h)
theorem can_Math_min : jCan lw_tbl y_Math_min 2 := ⟨jw_202, jw_9, by decide +kernel, by decide +kernel, by decide⟩
theorem dx_Math_max (i : Nat) {e : Nat × Instr × Nat} (h : k_Math_max[i]? = some e) : decode y_Math_max.2.1 e.1 = .ok e.2 := dk_Math_max e (List.mem_of_getElem? h)
theorem can_Math_max : jCan lw_tbl y_Math_max 2 := ⟨jw_172, jw_9, by decide +kernel, by decide +kernel, by decide⟩
theorem dx_Arrs_copyOf3 (i : Nat) {e : Nat × Instr × Nat} (h : k_Arrs_copyOf3[i]? = some e) : decode y_Arrs_copyOf3.2.1 e.1 = .ok e.2 := dk_Arrs_copyOf3 e (List.mem_of_getElem? h)
theorem can_Arrs_copyOf3 : jCan lw_tbl y_Arrs_copyOf3 2 := ⟨jw_381, jw_10, by decide +kernel, by decide +kernel, by decide⟩
/-- the array kinds: 1001 .. byte, boolean, long, references; from 1100 on the model's own arrays; else int -/
def jty : Nat → FieldType := fun t => match t with
  | 1001 => .byte
  | 1002 => .boolean
  | 1003 => .long
  | 1004 => .object "java/lang/Object"
  | 1005 => .object "MarkBlocks$Block"
  | 1101 => .byte
  | 1102 => .byte
  | 1126 => .boolean
  | 1127 => .boolean
  | _ => .int
/-- number i of a row; -1 where there is none -/
def rowAt (xs : List Int32) (i : Int32) : Int32 := if i < 0 then -1 else xs.getD i.toNatClampNeg (-1)
/-- the Row at address k (kind τ, its array of kind α and n places) holds xs -/
def RowAt (B τ α : Nat) (σ : jS) (k n : Nat) (xs : List Int32) : Prop := ∃ (h : Nat) (v w : Nat → Value), σ.1 k = some (τ, 2, v) ∧ v 0 = .ref h ∧ v 1 = .int (nI xs.length) ∧ σ.1 h = some (α, n, w) ∧ (∀ i, i < n → ∃ z : Int32, w i = .int z) ∧ (∀ (i : Nat) (x : Int32), xs[i]? = some x → w i = .int x) ∧ xs.length ≤ n ∧ 32 ≤ n ∧ n ≤ 32768 ∧ B ≤ k ∧ B ≤ h
theorem RowAt.keep {B τ α k n : Nat} {σ σ' : jS} {ks : List Nat} {xs : List Int32} (h : RowAt B τ α σ k n xs) (hk : jK ks σ σ') (h1 : τ ∉ ks) (h2 : α ∉ ks) : RowAt B τ α σ' k n xs := by
  obtain ⟨h0, v, w, q1, q2, q3, q4, q5⟩ := h
  exact ⟨h0, v, w, hk _ _ _ _ q1 h1, q2, q3, hk _ _ _ _ q4 h2, q5⟩
theorem rowAt_neg {xs : List Int32} {i : Int32} (h : i < 0) : rowAt xs i = -1 := if_pos h
theorem rowAt_nI {xs : List Int32} {j : Nat} (h : j < 2 ^ 31) : rowAt xs (nI j) = xs.getD j (-1) := by
  unfold rowAt
  rw [if_neg (nI_pos h), nI_clamp h]
theorem rowAt_ge {xs : List Int32} {i : Int32} (h0 : ¬ i < 0) (h : nI xs.length ≤ i) (hl : xs.length < 2 ^ 31) : rowAt xs i = -1 := by
  obtain ⟨j, hj, rfl⟩ := nI_of h0
  rw [nI_leI hl hj] at h
  rw [rowAt_nI hj]
  simp [List.getD_eq_getElem?_getD, List.getElem?_eq_none h]
section LIBR
variable {l : Launch} {s0 : State} {D : va_G} {cA : Nat → ClassId} {a0 : Array Value} {σ : jS} {d : Nat}
theorem e_Math_min (F : jOK s0 jcl D cA lw_tbl a0 jty) (a b : Int32) : jE l s0 jcl D cA d y_Math_min [.int a, .int b] σ (fun r σ' => r = some (.int (if b < a then b else a)) ∧ σ' = σ) := by
  refine jE.ofF (by decide +kernel) (by simp [Value.category]) (Nat.le_of_ble_eq_true rfl) rfl ?_
  refine jW.iload_n (dx_Math_min 0 (e := (0, .iload_n 0, 1)) rfl) rfl rfl (pc' := 1) rfl ?_
  refine jW.iload_n (dx_Math_min 1 (e := (1, .iload_n 1, 1)) rfl) rfl rfl (pc' := 2) rfl ?_
  refine jW.icmp_gt (dx_Math_min 2 (e := (2, .if_icmp .gt 7, 3)) rfl) 9 (by decide) (pc' := 5) rfl (fun c_2 => ?_) (fun c_2 => ?_)
  · refine jW.iload_n (dx_Math_min 5 (e := (9, .iload_n 1, 1)) rfl) rfl rfl (pc' := 10) rfl ?_
    refine jW.iret (dx_Math_min 6 (e := (10, .ireturn, 1)) rfl) rfl ?_
    first | exact ⟨by rw [if_pos c_2], rfl⟩ | exact ⟨by rw [if_neg c_2], rfl⟩
  · refine jW.iload_n (dx_Math_min 3 (e := (5, .iload_n 0, 1)) rfl) rfl rfl (pc' := 6) rfl ?_
    refine jW.goto (dx_Math_min 4 (e := (6, .goto 4, 3)) rfl) 10 (by decide) ?_
    refine jW.iret (dx_Math_min 6 (e := (10, .ireturn, 1)) rfl) rfl ?_
    first | exact ⟨by rw [if_pos c_2], rfl⟩ | exact ⟨by rw [if_neg c_2], rfl⟩
theorem e_Math_max (F : jOK s0 jcl D cA lw_tbl a0 jty) (a b : Int32) : jE l s0 jcl D cA d y_Math_max [.int a, .int b] σ (fun r σ' => r = some (.int (if a < b then b else a)) ∧ σ' = σ) := by
  refine jE.ofF (by decide +kernel) (by simp [Value.category]) (Nat.le_of_ble_eq_true rfl) rfl ?_
  refine jW.iload_n (dx_Math_max 0 (e := (0, .iload_n 0, 1)) rfl) rfl rfl (pc' := 1) rfl ?_
  refine jW.iload_n (dx_Math_max 1 (e := (1, .iload_n 1, 1)) rfl) rfl rfl (pc' := 2) rfl ?_
  refine jW.icmp_lt (dx_Math_max 2 (e := (2, .if_icmp .lt 7, 3)) rfl) 9 (by decide) (pc' := 5) rfl (fun c_2 => ?_) (fun c_2 => ?_)
  · refine jW.iload_n (dx_Math_max 5 (e := (9, .iload_n 1, 1)) rfl) rfl rfl (pc' := 10) rfl ?_
    refine jW.iret (dx_Math_max 6 (e := (10, .ireturn, 1)) rfl) rfl ?_
    first | exact ⟨by rw [if_pos c_2], rfl⟩ | exact ⟨by rw [if_neg c_2], rfl⟩
  · refine jW.iload_n (dx_Math_max 3 (e := (5, .iload_n 0, 1)) rfl) rfl rfl (pc' := 6) rfl ?_
    refine jW.goto (dx_Math_max 4 (e := (6, .goto 4, 3)) rfl) 10 (by decide) ?_
    refine jW.iret (dx_Math_max 6 (e := (10, .ireturn, 1)) rfl) rfl ?_
    first | exact ⟨by rw [if_pos c_2], rfl⟩ | exact ⟨by rw [if_neg c_2], rfl⟩
theorem e_Arrs_copyOf3 (F : jOK s0 jcl D cA lw_tbl a0 jty) {α h n N : Nat} {w : Nat → Value} (hα : 1000 ≤ α) (hty : jty α = .int) (hI : jI s0.heap.size σ) (hh : σ.1 h = some (α, n, w)) (hw : ∀ i, i < n → ∃ z : Int32, w i = .int z) (hn : n < N) (hN : N ≤ 65536) : jE l s0 jcl D cA (d + 1) y_Arrs_copyOf3 [.ref h, .int (nI N)] σ (fun r σ' => r = some (.ref σ.2.1) ∧ jI s0.heap.size σ' ∧ jK [] σ σ' ∧ σ'.2.1 = σ.2.1 + 1 ∧ σ'.2.2 = σ.2.2 + N ∧ ∃ w' : Nat → Value, σ'.1 σ.2.1 = some (α, N, w') ∧ (∀ i, i < n → w' i = w i) ∧ ∀ i, n ≤ i → w' i = .int 0) := by
  refine jE.ofF (by decide +kernel) (by simp [Value.category]) (Nat.le_of_ble_eq_true rfl) rfl ?_
  refine jW.iload_n (dx_Arrs_copyOf3 0 (e := (0, .iload_n 1, 1)) rfl) rfl rfl (pc' := 1) rfl ?_
  refine jW.aload_n (dx_Arrs_copyOf3 1 (e := (1, .aload_n 0, 1)) rfl) rfl rfl (pc' := 2) rfl ?_
  refine jW.alen (t := α) (i := nI n) F (dx_Arrs_copyOf3 2 (e := (2, .arraylength, 1)) rfl) hα hh rfl (pc' := 3) rfl ?_
  refine jW.icmp_ne (dx_Arrs_copyOf3 3 (e := (3, .if_icmp .ne 11, 3)) rfl) 14 (by decide) (pc' := 6) rfl (fun c_3 => ?_) (fun c_3 => ?_)
  · refine jW.iload_n (dx_Arrs_copyOf3 8 (e := (14, .iload_n 1, 1)) rfl) rfl rfl (pc' := 15) rfl ?_
    have hRA : ∀ U : State, va_RA U (cA α) (jty α) → U.vm.findClass ("[" ++ (newarray.typeOf .int).toString) = some (cA α) := by
      intro U q
      rw [hty] at q
      exact q
    refine jW.newa (t := α) (atype := .int) F (dx_Arrs_copyOf3 9 (e := (15, .newarray .int, 2)) rfl) hα hty.symm hRA jw_46 (nI_pos (by omega)) (nI_clamp (by omega)) (by show N * 4 ≤ _; omega) rfl rfl rfl (pc' := 17) rfl hI.1 ?_
    have hh1 : (jnew σ (α, N, fun _ => Value.int 0) N).1 h = some (α, n, w) := by rw [jnew_ne (hI.ne hh)]; exact hh
    have hh2 : (jnew σ (α, N, fun _ => Value.int 0) N).1 σ.2.1 = some (α, N, fun _ => Value.int 0) := jnew_at _ _ _
    refine jW.astore_n (dx_Arrs_copyOf3 10 (e := (17, .astore_n 2, 1)) rfl) rfl (by decide) rfl (pc' := 18) rfl ?_
    refine jW.aload_n (dx_Arrs_copyOf3 11 (e := (18, .aload_n 0, 1)) rfl) rfl rfl (pc' := 19) rfl ?_
    refine jW.iconst (v := 0) (dx_Arrs_copyOf3 12 (e := (19, .iconst 0, 1)) rfl) (by decide) (pc' := 20) rfl ?_
    refine jW.aload_n (dx_Arrs_copyOf3 13 (e := (20, .aload_n 2, 1)) rfl) rfl rfl (pc' := 21) rfl ?_
    refine jW.iconst (v := 0) (dx_Arrs_copyOf3 14 (e := (21, .iconst 0, 1)) rfl) (by decide) (pc' := 22) rfl ?_
    refine jW.aload_n (dx_Arrs_copyOf3 15 (e := (22, .aload_n 0, 1)) rfl) rfl rfl (pc' := 23) rfl ?_
    refine jW.alen (t := α) (i := nI n) F (dx_Arrs_copyOf3 16 (e := (23, .arraylength, 1)) rfl) hα hh1 rfl (pc' := 24) rfl ?_
    refine jW.iload_n (dx_Arrs_copyOf3 17 (e := (24, .iload_n 1, 1)) rfl) rfl rfl (pc' := 25) rfl ?_
    refine jW.callS F (e_Math_min F (nI n) (nI N)) (dx_Arrs_copyOf3 18 (e := (25, .invokestatic 304, 3)) rfl) can_Math_min jw_200 jw_201 rfl rfl (Nat.le_of_ble_eq_true rfl) (pc' := 28) rfl (fun r σ1 hr => ?_)
    obtain ⟨rfl, rfl⟩ := hr
    rw [show (if nI N < nI n then nI N else nI n) = nI n from if_neg (by rw [nI_ltI (by omega) (by omega)]; omega)]
    refine jW.copyp (t1 := α) (t2 := α) F (dx_Arrs_copyOf3 19 (e := (28, .invokestatic 150, 3)) rfl) jw_203 jw_205 jw_204 jw_11 hα hα rfl (by rw [hty]; rfl) hh1 hh2 hI.1 (by decide) (by decide) (nI_pos (by omega)) (by rw [nI_clamp (by omega)]; exact Nat.le_of_eq (Nat.zero_add n)) (by rw [nI_clamp (by omega)]; show 0 + n ≤ N; omega) (fun i hi => by
        rw [nI_clamp (by omega)] at hi
        obtain ⟨z, hz⟩ := hw i hi
        refine ⟨z, by show w (0 + i) = _; rw [Nat.zero_add]; exact hz, by rw [hty]; rfl⟩) (Nat.le_of_ble_eq_true rfl) (by rw [nI_clamp (by omega), sb_cl0]) (pc' := 31) rfl ?_
    refine jW.aload_n (dx_Arrs_copyOf3 20 (e := (31, .aload_n 2, 1)) rfl) rfl rfl (pc' := 32) rfl ?_
    refine jW.aret (dx_Arrs_copyOf3 21 (e := (32, .areturn, 1)) rfl) rfl (by first | exact Or.inl ⟨_, rfl⟩ | exact Or.inr ⟨_, rfl⟩) (by first | exact Or.inl rfl | exact Or.inr ⟨_, rfl⟩) ?_
    have hne := hI.ne hh
    have e1 : (jput (jnew σ (α, N, fun _ => Value.int 0) N) σ.2.1 (α, N, va_cpy w (fun _ => Value.int 0) 0 0 n)).1 σ.2.1 = some (α, N, va_cpy w (fun _ => Value.int 0) 0 0 n) := jput_at _ _ _
    exact ⟨rfl, (hI.new).put (jnew_at _ _ _), fun a t n1 v1 q _ => by rw [jput_ne (hI.ne q), jnew_ne (hI.ne q)]; exact q, rfl, rfl, _, e1, fun i hi => by rw [pk_cpy_in (Nat.zero_le _) (by omega)]; simp, fun i hi => pk_cpy_out (by omega)⟩
  · exact absurd ((nI_eq (by omega) (by omega)).mp c_3) (by omega)
end LIBR
section ROW
variable {l : Launch} {s0 : State} {D : va_G} {cA : Nat → ClassId} {a0 : Array Value} {σ : jS} {d k n τ α : Nat} {xs : List Int32}
theorem e_Row_size (F : jOK s0 jcl D cA lw_tbl a0 jty) (hτ : jcl[τ]? = some jQ_Row) (hα : 1000 ≤ α) (hty : jty α = .int) (h : RowAt s0.heap.size τ α σ k n xs) : jE l s0 jcl D cA d y_Row_size [.ref k] σ (fun r σ' => r = some (.int (nI xs.length)) ∧ σ' = σ) := by
  obtain ⟨h0, v, w, h1, h2, h3, h4, h5, h6, h7, h8, h9, h10, h11⟩ := h
  refine jE.of (by decide) (by simp [Value.category]) (Nat.le_of_ble_eq_true rfl) rfl ?_
  refine jW.aload_n (dx_Row_size 0 (e := (0, .aload_n 0, 1)) rfl) rfl rfl (pc' := 1) rfl ?_
  refine jW.getf F (f_Row_size_1 hτ) (by assumption) (by assumption) (pc' := 4) rfl ?_
  refine jW.iret (dx_Row_size 2 (e := (4, .ireturn, 1)) rfl) rfl ?_
  exact ⟨rfl, rfl⟩
theorem e_Row_at (F : jOK s0 jcl D cA lw_tbl a0 jty) (hτ : jcl[τ]? = some jQ_Row) (hα : 1000 ≤ α) (hty : jty α = .int) (h : RowAt s0.heap.size τ α σ k n xs) (i : Int32) : jE l s0 jcl D cA d y_Row_at [.ref k, .int i] σ (fun r σ' => r = some (.int (rowAt xs i)) ∧ σ' = σ) := by
  obtain ⟨h0, v, w, h1, h2, h3, h4, h5, h6, h7, h8, h9, h10, h11⟩ := h
  refine jE.of (by decide) (by simp [Value.category]) (Nat.le_of_ble_eq_true rfl) rfl ?_
  refine jW.iload_n (dx_Row_at 0 (e := (0, .iload_n 1, 1)) rfl) rfl rfl (pc' := 1) rfl ?_
  refine jW.if_lt (dx_Row_at 1 (e := (1, .ifCond .lt 29, 3)) rfl) 30 (by decide) (pc' := 4) rfl (fun c_1 => ?_) (fun c_1 => ?_)
  · refine jW.iconst (v := -1) (dx_Row_at 16 (e := (30, .iconst (-1), 1)) rfl) (by decide) (pc' := 31) rfl ?_
    refine jW.iret (dx_Row_at 17 (e := (31, .ireturn, 1)) rfl) rfl ?_
    first
      | exact ⟨by rw [rowAt_neg c_1], rfl⟩
      | exact ⟨by rw [rowAt_ge c_1 c_9 (by omega)], rfl⟩
      | exact absurd c_18 (fun q => by
          obtain ⟨j, hj, rfl⟩ := nI_of c_1
          rw [nI_leI (by omega) hj] at c_9
          have := (nI_leI (a := n) (by omega) hj).mp q
          omega)
      | exact ⟨rfl, rfl⟩
  · refine jW.iload_n (dx_Row_at 2 (e := (4, .iload_n 1, 1)) rfl) rfl rfl (pc' := 5) rfl ?_
    refine jW.aload_n (dx_Row_at 3 (e := (5, .aload_n 0, 1)) rfl) rfl rfl (pc' := 6) rfl ?_
    refine jW.getf F (f_Row_at_6 hτ) (by assumption) (by assumption) (pc' := 9) rfl ?_
    refine jW.icmp_ge (dx_Row_at 5 (e := (9, .if_icmp .ge 21, 3)) rfl) 30 (by decide) (pc' := 12) rfl (fun c_9 => ?_) (fun c_9 => ?_)
    · refine jW.iconst (v := -1) (dx_Row_at 16 (e := (30, .iconst (-1), 1)) rfl) (by decide) (pc' := 31) rfl ?_
      refine jW.iret (dx_Row_at 17 (e := (31, .ireturn, 1)) rfl) rfl ?_
      first
        | exact ⟨by rw [rowAt_neg c_1], rfl⟩
        | exact ⟨by rw [rowAt_ge c_1 c_9 (by omega)], rfl⟩
        | exact absurd c_18 (fun q => by
            obtain ⟨j, hj, rfl⟩ := nI_of c_1
            rw [nI_leI (by omega) hj] at c_9
            have := (nI_leI (a := n) (by omega) hj).mp q
            omega)
        | exact ⟨rfl, rfl⟩
    · refine jW.iload_n (dx_Row_at 6 (e := (12, .iload_n 1, 1)) rfl) rfl rfl (pc' := 13) rfl ?_
      refine jW.aload_n (dx_Row_at 7 (e := (13, .aload_n 0, 1)) rfl) rfl rfl (pc' := 14) rfl ?_
      refine jW.getf F (f_Row_at_14 hτ) (by assumption) (by assumption) (pc' := 17) rfl ?_
      refine jW.alen (t := α) (i := nI n) F (dx_Row_at 9 (e := (17, .arraylength, 1)) rfl) hα (by assumption) rfl (pc' := 18) rfl ?_
      refine jW.icmp_ge (dx_Row_at 10 (e := (18, .if_icmp .ge 12, 3)) rfl) 30 (by decide) (pc' := 21) rfl (fun c_18 => ?_) (fun c_18 => ?_)
      · refine jW.iconst (v := -1) (dx_Row_at 16 (e := (30, .iconst (-1), 1)) rfl) (by decide) (pc' := 31) rfl ?_
        refine jW.iret (dx_Row_at 17 (e := (31, .ireturn, 1)) rfl) rfl ?_
        first
          | exact ⟨by rw [rowAt_neg c_1], rfl⟩
          | exact ⟨by rw [rowAt_ge c_1 c_9 (by omega)], rfl⟩
          | exact absurd c_18 (fun q => by
              obtain ⟨j, hj, rfl⟩ := nI_of c_1
              rw [nI_leI (by omega) hj] at c_9
              have := (nI_leI (a := n) (by omega) hj).mp q
              omega)
          | exact ⟨rfl, rfl⟩
      · refine jW.aload_n (dx_Row_at 11 (e := (21, .aload_n 0, 1)) rfl) rfl rfl (pc' := 22) rfl ?_
        refine jW.getf F (f_Row_at_22 hτ) (by assumption) (by assumption) (pc' := 25) rfl ?_
        refine jW.iload_n (dx_Row_at 13 (e := (25, .iload_n 1, 1)) rfl) rfl rfl (pc' := 26) rfl ?_
        obtain ⟨j, hj, rfl⟩ := nI_of c_1
        rw [nI_leI (by omega) hj] at c_9
        have hlt : j < xs.length := by omega
        have hv : w (nI j).toNatClampNeg = .int (rowAt xs (nI j)) := by
          rw [nI_clamp hj, rowAt_nI hj]
          exact h6 j _ (by rw [List.getElem?_eq_getElem hlt, List.getD_eq_getElem?_getD, List.getElem?_eq_getElem hlt]; rfl)
        refine jW.iald (t := α) F (dx_Row_at 14 (e := (26, .iaload, 1)) rfl) hα hty (by assumption) (vp_in_nI (by omega) (by omega)) hv (pc' := 27) rfl ?_
        refine jW.goto (dx_Row_at 15 (e := (27, .goto 4, 3)) rfl) 31 (by decide) ?_
        refine jW.iret (dx_Row_at 17 (e := (31, .ireturn, 1)) rfl) rfl ?_
        first
          | exact ⟨by rw [rowAt_neg c_1], rfl⟩
          | exact ⟨by rw [rowAt_ge c_1 c_9 (by omega)], rfl⟩
          | exact absurd c_18 (fun q => by
              obtain ⟨j, hj, rfl⟩ := nI_of c_1
              rw [nI_leI (by omega) hj] at c_9
              have := (nI_leI (a := n) (by omega) hj).mp q
              omega)
          | exact ⟨rfl, rfl⟩
/-- what is left of a row that is cut -/
def rowCut (xs : List Int32) (m : Int32) : List Int32 := if m < 0 then xs else xs.take m.toNatClampNeg
theorem e_Row_cut (F : jOK s0 jcl D cA lw_tbl a0 jty) (hI : jI s0.heap.size σ) (hτ : jcl[τ]? = some jQ_Row) (hα : 1000 ≤ α) (hty : jty α = .int) (h : RowAt s0.heap.size τ α σ k n xs) (m : Int32) : jE l s0 jcl D cA d y_Row_cut [.ref k, .int m] σ (fun r σ' => r = none ∧ jI s0.heap.size σ' ∧ jK [τ] σ σ' ∧ σ'.2 = σ.2 ∧ RowAt s0.heap.size τ α σ' k n (rowCut xs m)) := by
  obtain ⟨h0, v, w, h1, h2, h3, h4, h5, h6, h7, h8, h9, h10, h11⟩ := h
  refine jE.of (by decide) (by simp [Value.category]) (Nat.le_of_ble_eq_true rfl) rfl ?_
  refine jW.iload_n (dx_Row_cut 0 (e := (0, .iload_n 1, 1)) rfl) rfl rfl (pc' := 1) rfl ?_
  refine jW.if_lt (dx_Row_cut 1 (e := (1, .ifCond .lt 16, 3)) rfl) 17 (by decide) (pc' := 4) rfl (fun c_1 => ?_) (fun c_1 => ?_)
  · refine jW.vret (dx_Row_cut 9 (e := (17, .return_, 1)) rfl) rfl ?_
    first
      | (have e : rowCut xs m = xs := by first | exact if_pos c_1 | (unfold rowCut; rw [if_neg c_1]; obtain ⟨j, hj, rfl⟩ := nI_of c_1; rw [nI_clamp hj]; exact List.take_of_length_le ((nI_leI (by omega) hj).mp c_9))
         rw [e]
         exact ⟨rfl, hI, jK.rfl, rfl, h0, v, w, h1, h2, h3, h4, h5, h6, h7, h8, h9, h10, h11⟩)
      | (have e : rowCut xs (nI j) = xs.take j := by unfold rowCut; rw [if_neg (nI_pos hj), nI_clamp hj]
         rw [e]
         have hne : h0 ≠ k := jne h4 h1 (by intro q; subst q; have := (F.2.1 _ _ hτ).1; omega)
         refine ⟨rfl, hI.put h1, jK.put h1 (List.mem_singleton.mpr rfl), rfl, h0, updV v 1 (.int (nI j)), w, jput_at _ _ _, ?_, ?_, ?_, h5, ?_, ?_, h8, h9, h10, h11⟩
         · rw [updV_ne (by decide)]; exact h2
         · rw [updV_at, List.length_take, Nat.min_eq_left (by omega)]
         · rw [jput_ne hne]; exact h4
         · intro i x hx
           rw [List.getElem?_take] at hx
           split at hx
           · exact h6 i x hx
           · cases hx
         · rw [List.length_take]; omega)
  · refine jW.iload_n (dx_Row_cut 2 (e := (4, .iload_n 1, 1)) rfl) rfl rfl (pc' := 5) rfl ?_
    refine jW.aload_n (dx_Row_cut 3 (e := (5, .aload_n 0, 1)) rfl) rfl rfl (pc' := 6) rfl ?_
    refine jW.getf F (f_Row_cut_6 hτ) (by assumption) (by assumption) (pc' := 9) rfl ?_
    refine jW.icmp_ge (dx_Row_cut 5 (e := (9, .if_icmp .ge 8, 3)) rfl) 17 (by decide) (pc' := 12) rfl (fun c_9 => ?_) (fun c_9 => ?_)
    · refine jW.vret (dx_Row_cut 9 (e := (17, .return_, 1)) rfl) rfl ?_
      first
        | (have e : rowCut xs m = xs := by first | exact if_pos c_1 | (unfold rowCut; rw [if_neg c_1]; obtain ⟨j, hj, rfl⟩ := nI_of c_1; rw [nI_clamp hj]; exact List.take_of_length_le ((nI_leI (by omega) hj).mp c_9))
           rw [e]
           exact ⟨rfl, hI, jK.rfl, rfl, h0, v, w, h1, h2, h3, h4, h5, h6, h7, h8, h9, h10, h11⟩)
        | (have e : rowCut xs (nI j) = xs.take j := by unfold rowCut; rw [if_neg (nI_pos hj), nI_clamp hj]
           rw [e]
           have hne : h0 ≠ k := jne h4 h1 (by intro q; subst q; have := (F.2.1 _ _ hτ).1; omega)
           refine ⟨rfl, hI.put h1, jK.put h1 (List.mem_singleton.mpr rfl), rfl, h0, updV v 1 (.int (nI j)), w, jput_at _ _ _, ?_, ?_, ?_, h5, ?_, ?_, h8, h9, h10, h11⟩
           · rw [updV_ne (by decide)]; exact h2
           · rw [updV_at, List.length_take, Nat.min_eq_left (by omega)]
           · rw [jput_ne hne]; exact h4
           · intro i x hx
             rw [List.getElem?_take] at hx
             split at hx
             · exact h6 i x hx
             · cases hx
           · rw [List.length_take]; omega)
    · refine jW.aload_n (dx_Row_cut 6 (e := (12, .aload_n 0, 1)) rfl) rfl rfl (pc' := 13) rfl ?_
      refine jW.iload_n (dx_Row_cut 7 (e := (13, .iload_n 1, 1)) rfl) rfl rfl (pc' := 14) rfl ?_
      obtain ⟨j, hj, rfl⟩ := nI_of c_1
      rw [nI_leI (by omega) hj] at c_9
      refine jW.putf F (f_Row_cut_14 hτ) hτ jF_Row jTab_Row rfl h1 h10 rfl rfl rfl (pc' := 17) rfl ?_
      refine jW.vret (dx_Row_cut 9 (e := (17, .return_, 1)) rfl) rfl ?_
      first
        | (have e : rowCut xs m = xs := by first | exact if_pos c_1 | (unfold rowCut; rw [if_neg c_1]; obtain ⟨j, hj, rfl⟩ := nI_of c_1; rw [nI_clamp hj]; exact List.take_of_length_le ((nI_leI (by omega) hj).mp c_9))
           rw [e]
           exact ⟨rfl, hI, jK.rfl, rfl, h0, v, w, h1, h2, h3, h4, h5, h6, h7, h8, h9, h10, h11⟩)
        | (have e : rowCut xs (nI j) = xs.take j := by unfold rowCut; rw [if_neg (nI_pos hj), nI_clamp hj]
           rw [e]
           have hne : h0 ≠ k := jne h4 h1 (by intro q; subst q; have := (F.2.1 _ _ hτ).1; omega)
           refine ⟨rfl, hI.put h1, jK.put h1 (List.mem_singleton.mpr rfl), rfl, h0, updV v 1 (.int (nI j)), w, jput_at _ _ _, ?_, ?_, ?_, h5, ?_, ?_, h8, h9, h10, h11⟩
           · rw [updV_ne (by decide)]; exact h2
           · rw [updV_at, List.length_take, Nat.min_eq_left (by omega)]
           · rw [jput_ne hne]; exact h4
           · intro i x hx
             rw [List.getElem?_take] at hx
             split at hx
             · exact h6 i x hx
             · cases hx
           · rw [List.length_take]; omega)
theorem e_Row_add41 (F : jOK s0 jcl D cA lw_tbl a0 jty) (hI : jI s0.heap.size σ) (hτ : jcl[τ]? = some jQ_Row) (hα : 1000 ≤ α) (hty : jty α = .int) (h : RowAt s0.heap.size τ α σ k n xs) (hlt : xs.length < n) (x : Int32) {Φ : Option Value → jS → Prop} (hΦ : ∀ σ' : jS, jI s0.heap.size σ' → jK [τ, α] σ σ' → σ'.2 = σ.2 → RowAt s0.heap.size τ α σ' k n (xs ++ [x]) → Φ none σ') : jW l s0 jcl D cA d y_Row_add 41 [some (.ref k), some (.int x)] [] σ Φ := by
  obtain ⟨h0, v, w, h1, h2, h3, h4, h5, h6, h7, h8, h9, h10, h11⟩ := h
  refine jW.aload_n (dx_Row_add 21 (e := (41, .aload_n 0, 1)) rfl) rfl rfl (pc' := 42) rfl ?_
  refine jW.getf F (f_Row_add_42 hτ) (by assumption) (by assumption) (pc' := 45) rfl ?_
  refine jW.aload_n (dx_Row_add 23 (e := (45, .aload_n 0, 1)) rfl) rfl rfl (pc' := 46) rfl ?_
  refine jW.getf F (f_Row_add_46 hτ) (by assumption) (by assumption) (pc' := 49) rfl ?_
  refine jW.iload_n (dx_Row_add 25 (e := (49, .iload_n 1, 1)) rfl) rfl rfl (pc' := 50) rfl ?_
  have hne : h0 ≠ k := jne h4 h1 (by intro q; subst q; have := (F.2.1 _ _ hτ).1; omega)
  refine jW.iast (t := α) F (dx_Row_add 26 (e := (50, .iastore, 1)) rfl) hα hty h4 h11 (vp_in_nI hlt (by omega)) (by rw [nI_clamp (by omega)]) (pc' := 51) rfl ?_
  have q1 : (jput σ h0 (α, n, updV w xs.length (.int x))).1 k = some (τ, 2, v) := by rw [jput_ne hne.symm]; exact h1
  have q4 : (jput σ h0 (α, n, updV w xs.length (.int x))).1 h0 = some (α, n, updV w xs.length (.int x)) := jput_at _ _ _
  have hI1 := hI.put (c := (α, n, updV w xs.length (.int x))) h4
  refine jW.aload_n (dx_Row_add 27 (e := (51, .aload_n 0, 1)) rfl) rfl rfl (pc' := 52) rfl ?_
  refine jW.dup (dx_Row_add 28 (e := (52, .dup, 1)) rfl) rfl (pc' := 53) rfl ?_
  refine jW.getf F (f_Row_add_53 hτ) (by assumption) (by assumption) (pc' := 56) rfl ?_
  refine jW.iconst (v := 1) (dx_Row_add 30 (e := (56, .iconst 1, 1)) rfl) (by decide) (pc' := 57) rfl ?_
  refine jW.iadd (dx_Row_add 31 (e := (57, .iadd, 1)) rfl) (pc' := 58) rfl ?_
  refine jW.putf F (f_Row_add_58 hτ) hτ jF_Row jTab_Row rfl q1 h10 rfl rfl rfl (pc' := 61) rfl ?_
  refine jW.vret (dx_Row_add 33 (e := (61, .return_, 1)) rfl) rfl ?_
  refine hΦ _ (hI1.put q1) ((jK.put h4 (by simp)).trans (jK.put q1 (by simp))) rfl ⟨h0, _, _, jput_at _ _ _, ?_, ?_, by rw [jput_ne hne]; exact q4, ?_, ?_, ?_, h8, h9, h10, h11⟩
  · rw [updV_ne (by decide)]; exact h2
  · rw [updV_at, List.length_append]; exact congrArg Value.int (nI_1 xs.length)
  · intro i hi
    by_cases e : i = xs.length
    · rw [e, updV_at]; exact ⟨x, rfl⟩
    · rw [updV_ne e]; exact h5 i hi
  · intro i z hz
    by_cases e : i = xs.length
    · subst e
      rw [updV_at]
      simp at hz
      rw [hz]
    · rw [updV_ne e]
      refine h6 i z ?_
      rw [List.getElem?_append] at hz
      split at hz
      · exact hz
      · have : i - xs.length < 1 := (List.getElem?_eq_some_iff.mp hz).1
        omega
  · rw [List.length_append]; show xs.length + 1 ≤ n; omega
theorem e_Row_add (F : jOK s0 jcl D cA lw_tbl a0 jty) (hI : jI s0.heap.size σ) (hτ : jcl[τ]? = some jQ_Row) (hα : 1000 ≤ α) (hty : jty α = .int) (h : RowAt s0.heap.size τ α σ k n xs) (hl : xs.length < 16384) (x : Int32) : jE l s0 jcl D cA (d + 2) y_Row_add [.ref k, .int x] σ (fun r σ' => r = none ∧ jI s0.heap.size σ' ∧ jK [τ, α] σ σ' ∧ ∃ n' : Nat, RowAt s0.heap.size τ α σ' k n' (xs ++ [x]) ∧ n ≤ n' ∧ σ'.2.1 + n ≤ σ.2.1 + n' ∧ σ'.2.2 + 2 * n = σ.2.2 + 2 * n') := by
  have hR := h
  obtain ⟨h0, v, w, h1, h2, h3, h4, h5, h6, h7, h8, h9, h10, h11⟩ := h
  refine jE.of (by decide) (by simp [Value.category]) (Nat.le_of_ble_eq_true rfl) rfl ?_
  refine jW.aload_n (dx_Row_add 0 (e := (0, .aload_n 0, 1)) rfl) rfl rfl (pc' := 1) rfl ?_
  refine jW.getf F (f_Row_add_1 hτ) (by assumption) (by assumption) (pc' := 4) rfl ?_
  refine jW.sipush (v := 16384) (dx_Row_add 2 (e := (4, .sipush 16384, 3)) rfl) (by decide) (pc' := 7) rfl ?_
  refine jW.icmp_lt (dx_Row_add 3 (e := (7, .if_icmp .lt 4, 3)) rfl) 11 (by decide) (pc' := 10) rfl (fun c_7 => ?_) (fun c_7 => ?_)
  · refine jW.aload_n (dx_Row_add 5 (e := (11, .aload_n 0, 1)) rfl) rfl rfl (pc' := 12) rfl ?_
    refine jW.getf F (f_Row_add_12 hτ) (by assumption) (by assumption) (pc' := 15) rfl ?_
    refine jW.aload_n (dx_Row_add 7 (e := (15, .aload_n 0, 1)) rfl) rfl rfl (pc' := 16) rfl ?_
    refine jW.getf F (f_Row_add_16 hτ) (by assumption) (by assumption) (pc' := 19) rfl ?_
    refine jW.alen (t := α) (i := nI n) F (dx_Row_add 9 (e := (19, .arraylength, 1)) rfl) hα (by assumption) rfl (pc' := 20) rfl ?_
    refine jW.icmp_lt (dx_Row_add 10 (e := (20, .if_icmp .lt 21, 3)) rfl) 41 (by decide) (pc' := 23) rfl (fun c_20 => ?_) (fun c_20 => ?_)
    · exact e_Row_add41 F hI hτ hα hty hR (by rw [nI_ltI (by omega) (by omega)] at c_20; exact c_20) x (fun σ' z1 z2 z3 z4 => ⟨rfl, z1, z2, n, z4, Nat.le_refl _, by rw [z3]; exact Nat.le_refl _, by rw [z3]⟩)
    · refine jW.aload_n (dx_Row_add 11 (e := (23, .aload_n 0, 1)) rfl) rfl rfl (pc' := 24) rfl ?_
      refine jW.aload_n (dx_Row_add 12 (e := (24, .aload_n 0, 1)) rfl) rfl rfl (pc' := 25) rfl ?_
      refine jW.getf F (f_Row_add_25 hτ) (by assumption) (by assumption) (pc' := 28) rfl ?_
      refine jW.iconst (v := 2) (dx_Row_add 14 (e := (28, .iconst 2, 1)) rfl) (by decide) (pc' := 29) rfl ?_
      refine jW.aload_n (dx_Row_add 15 (e := (29, .aload_n 0, 1)) rfl) rfl rfl (pc' := 30) rfl ?_
      refine jW.getf F (f_Row_add_30 hτ) (by assumption) (by assumption) (pc' := 33) rfl ?_
      refine jW.alen (t := α) (i := nI n) F (dx_Row_add 17 (e := (33, .arraylength, 1)) rfl) hα (by assumption) rfl (pc' := 34) rfl ?_
      refine jW.imul (dx_Row_add 18 (e := (34, .imul, 1)) rfl) (pc' := 35) rfl ?_
      rw [show (2 : Int32) * nI n = nI (2 * n) from pk_mul 2 n]
      refine jW.callS F (e_Arrs_copyOf3 (N := 2 * n) F hα hty hI h4 h5 (by omega) (by omega)) (dx_Row_add 19 (e := (35, .invokestatic 19, 3)) rfl) can_Arrs_copyOf3 jw_379 jw_380 rfl rfl (Nat.le_of_ble_eq_true rfl) (pc' := 38) rfl (fun r σ1 hr => ?_)
      obtain ⟨rfl, hI1, hK1, hz1, hz2, w1, g1, g2, g3⟩ := hr
      have hnn : xs.length = n := by rw [nI_ltI (by omega) (by omega)] at c_20; omega
      have k1 := hK1 _ _ _ _ h1 (by simp)
      have hfr : σ.2.1 ≠ k := fun e => hI.ne h1 e.symm
      refine jW.putf F (f_Row_add_38 hτ) hτ jF_Row jTab_Row rfl k1 h10 rfl rfl rfl (pc' := 41) rfl ?_
      refine e_Row_add41 F (n := 2 * n) (hI1.put k1) hτ hα hty ⟨σ.2.1, _, w1, jput_at _ _ _, updV_at _ _ _, by rw [updV_ne (by decide)]; exact h3, by rw [jput_ne hfr]; exact g1, ?_, ?_, by omega, by omega, by omega, h10, hI.1⟩ (by omega) x (fun σ' z1 z2 z3 z4 => ⟨rfl, z1, ?_, 2 * n, z4, by omega, ?_, ?_⟩)
      · intro i hi
        by_cases e : i < n
        · rw [g2 i e]; exact h5 i e
        · rw [g3 i (by omega)]; exact ⟨0, rfl⟩
      · intro i z hz
        have : i < xs.length := (List.getElem?_eq_some_iff.mp hz).1
        rw [g2 i (by omega)]; exact h6 i z hz
      · exact (hK1.mono (by simp)).trans ((jK.put k1 (by simp)).trans z2)
      · rw [z3]; show σ1.2.1 + n ≤ _; omega
      · rw [z3]; show σ1.2.2 + 2 * n = _; omega
  · exact absurd (show nI xs.length < 16384 from (nI_ltI (b := 16384) (by omega) (by omega)).mpr hl) c_7
end ROW
