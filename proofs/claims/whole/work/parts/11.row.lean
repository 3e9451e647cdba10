abbrev c_Row_init : ByteArray := prog_6_method_1_code
abbrev y_Row_init : jM := (⟨"MarkBlocks$Row", "<init>", "()V"⟩, c_Row_init, 1, none)
def k_Row_init : List (Nat × Instr × Nat) := [(0, .aload_n 0, 1), (1, .invokespecial 3, 3), (4, .aload_n 0, 1), (5, .bipush 32, 2), (7, .newarray .int, 2), (9, .putfield 11, 3), (12, .aload_n 0, 1), (13, .iconst 0, 1), (14, .putfield 15, 3), (17, .return_, 1)]
theorem dk_Row_init : ∀ e ∈ k_Row_init, decode c_Row_init e.1 = .ok e.2 := by decide +kernel
abbrev c_Row_size : ByteArray := prog_6_method_2_code
abbrev y_Row_size : jM := (⟨"MarkBlocks$Row", "size", "()I"⟩, c_Row_size, 1, (some .int))
def k_Row_size : List (Nat × Instr × Nat) := [(0, .aload_n 0, 1), (1, .getfield 15, 3), (4, .ireturn, 1)]
theorem dk_Row_size : ∀ e ∈ k_Row_size, decode c_Row_size e.1 = .ok e.2 := by decide +kernel
abbrev c_Row_at : ByteArray := prog_6_method_3_code
abbrev y_Row_at : jM := (⟨"MarkBlocks$Row", "at", "(I)I"⟩, c_Row_at, 2, (some .int))
def k_Row_at : List (Nat × Instr × Nat) := [(0, .iload_n 1, 1), (1, .ifCond .lt 29, 3), (4, .iload_n 1, 1), (5, .aload_n 0, 1), (6, .getfield 15, 3), (9, .if_icmp .ge 21, 3), (12, .iload_n 1, 1), (13, .aload_n 0, 1), (14, .getfield 11, 3), (17, .arraylength, 1), (18, .if_icmp .ge 12, 3), (21, .aload_n 0, 1), (22, .getfield 11, 3), (25, .iload_n 1, 1), (26, .iaload, 1), (27, .goto 4, 3), (30, .iconst (-1), 1), (31, .ireturn, 1)]
theorem dk_Row_at : ∀ e ∈ k_Row_at, decode c_Row_at e.1 = .ok e.2 := by decide +kernel
abbrev c_Row_add : ByteArray := prog_6_method_4_code
abbrev y_Row_add : jM := (⟨"MarkBlocks$Row", "add", "(I)V"⟩, c_Row_add, 2, none)
def k_Row_add : List (Nat × Instr × Nat) := [(0, .aload_n 0, 1), (1, .getfield 15, 3), (4, .sipush 16384, 3), (7, .if_icmp .lt 4, 3), (10, .return_, 1), (11, .aload_n 0, 1), (12, .getfield 15, 3), (15, .aload_n 0, 1), (16, .getfield 11, 3), (19, .arraylength, 1), (20, .if_icmp .lt 21, 3), (23, .aload_n 0, 1), (24, .aload_n 0, 1), (25, .getfield 11, 3), (28, .iconst 2, 1), (29, .aload_n 0, 1), (30, .getfield 11, 3), (33, .arraylength, 1), (34, .imul, 1), (35, .invokestatic 19, 3), (38, .putfield 11, 3), (41, .aload_n 0, 1), (42, .getfield 11, 3), (45, .aload_n 0, 1), (46, .getfield 15, 3), (49, .iload_n 1, 1), (50, .iastore, 1), (51, .aload_n 0, 1), (52, .dup, 1), (53, .getfield 15, 3), (56, .iconst 1, 1), (57, .iadd, 1), (58, .putfield 15, 3), (61, .return_, 1)]
theorem dk_Row_add : ∀ e ∈ k_Row_add, decode c_Row_add e.1 = .ok e.2 := by decide +kernel
abbrev c_Row_cut : ByteArray := prog_6_method_5_code
abbrev y_Row_cut : jM := (⟨"MarkBlocks$Row", "cut", "(I)V"⟩, c_Row_cut, 2, none)
def k_Row_cut : List (Nat × Instr × Nat) := [(0, .iload_n 1, 1), (1, .ifCond .lt 16, 3), (4, .iload_n 1, 1), (5, .aload_n 0, 1), (6, .getfield 15, 3), (9, .if_icmp .ge 8, 3), (12, .aload_n 0, 1), (13, .iload_n 1, 1), (14, .putfield 15, 3), (17, .return_, 1)]
theorem dk_Row_cut : ∀ e ∈ k_Row_cut, decode c_Row_cut e.1 = .ok e.2 := by decide +kernel
theorem dx_Row_init (i : Nat) {e : Nat × Instr × Nat} (h : k_Row_init[i]? = some e) : decode c_Row_init e.1 = .ok e.2 := dk_Row_init e (List.mem_of_getElem? h)
theorem f_Row_init_9 : jFld jcl lw_tbl y_Row_init 9 1 0 .putfield := ⟨11, "MarkBlocks$Row", jQ_Row, dx_Row_init 5 (e := (9, .putfield 11, 3)) rfl, rfl, by decide, Or.inl jw_39, Or.inl rfl⟩
theorem f_Row_init_14 : jFld jcl lw_tbl y_Row_init 14 1 1 .putfield := ⟨15, "MarkBlocks$Row", jQ_Row, dx_Row_init 8 (e := (14, .putfield 15, 3)) rfl, rfl, by decide, Or.inl jw_40, Or.inl rfl⟩
theorem can_Row_init : jCan lw_tbl y_Row_init 0 := ⟨jw_37, jw_2, by decide +kernel, by decide +kernel, by decide⟩
theorem dx_Row_size (i : Nat) {e : Nat × Instr × Nat} (h : k_Row_size[i]? = some e) : decode c_Row_size e.1 = .ok e.2 := dk_Row_size e (List.mem_of_getElem? h)
theorem f_Row_size_1 : jFld jcl lw_tbl y_Row_size 1 1 1 .getfield := ⟨15, "MarkBlocks$Row", jQ_Row, dx_Row_size 1 (e := (1, .getfield 15, 3)) rfl, rfl, by decide, Or.inl jw_40, Or.inl rfl⟩
theorem can_Row_size : jCan lw_tbl y_Row_size 0 := ⟨jw_374, jw_2, by decide +kernel, by decide +kernel, by decide⟩
theorem dx_Row_at (i : Nat) {e : Nat × Instr × Nat} (h : k_Row_at[i]? = some e) : decode c_Row_at e.1 = .ok e.2 := dk_Row_at e (List.mem_of_getElem? h)
theorem f_Row_at_6 : jFld jcl lw_tbl y_Row_at 6 1 1 .getfield := ⟨15, "MarkBlocks$Row", jQ_Row, dx_Row_at 4 (e := (6, .getfield 15, 3)) rfl, rfl, by decide, Or.inl jw_40, Or.inl rfl⟩
theorem f_Row_at_14 : jFld jcl lw_tbl y_Row_at 14 1 0 .getfield := ⟨11, "MarkBlocks$Row", jQ_Row, dx_Row_at 8 (e := (14, .getfield 11, 3)) rfl, rfl, by decide, Or.inl jw_39, Or.inl rfl⟩
theorem f_Row_at_22 : jFld jcl lw_tbl y_Row_at 22 1 0 .getfield := ⟨11, "MarkBlocks$Row", jQ_Row, dx_Row_at 12 (e := (22, .getfield 11, 3)) rfl, rfl, by decide, Or.inl jw_39, Or.inl rfl⟩
theorem can_Row_at : jCan lw_tbl y_Row_at 1 := ⟨jw_441, jw_2, by decide +kernel, by decide +kernel, by decide⟩
theorem dx_Row_add (i : Nat) {e : Nat × Instr × Nat} (h : k_Row_add[i]? = some e) : decode c_Row_add e.1 = .ok e.2 := dk_Row_add e (List.mem_of_getElem? h)
theorem f_Row_add_1 : jFld jcl lw_tbl y_Row_add 1 1 1 .getfield := ⟨15, "MarkBlocks$Row", jQ_Row, dx_Row_add 1 (e := (1, .getfield 15, 3)) rfl, rfl, by decide, Or.inl jw_40, Or.inl rfl⟩
theorem f_Row_add_12 : jFld jcl lw_tbl y_Row_add 12 1 1 .getfield := ⟨15, "MarkBlocks$Row", jQ_Row, dx_Row_add 6 (e := (12, .getfield 15, 3)) rfl, rfl, by decide, Or.inl jw_40, Or.inl rfl⟩
theorem f_Row_add_16 : jFld jcl lw_tbl y_Row_add 16 1 0 .getfield := ⟨11, "MarkBlocks$Row", jQ_Row, dx_Row_add 8 (e := (16, .getfield 11, 3)) rfl, rfl, by decide, Or.inl jw_39, Or.inl rfl⟩
theorem f_Row_add_25 : jFld jcl lw_tbl y_Row_add 25 1 0 .getfield := ⟨11, "MarkBlocks$Row", jQ_Row, dx_Row_add 13 (e := (25, .getfield 11, 3)) rfl, rfl, by decide, Or.inl jw_39, Or.inl rfl⟩
theorem f_Row_add_30 : jFld jcl lw_tbl y_Row_add 30 1 0 .getfield := ⟨11, "MarkBlocks$Row", jQ_Row, dx_Row_add 16 (e := (30, .getfield 11, 3)) rfl, rfl, by decide, Or.inl jw_39, Or.inl rfl⟩
theorem f_Row_add_38 : jFld jcl lw_tbl y_Row_add 38 1 0 .putfield := ⟨11, "MarkBlocks$Row", jQ_Row, dx_Row_add 20 (e := (38, .putfield 11, 3)) rfl, rfl, by decide, Or.inl jw_39, Or.inl rfl⟩
theorem f_Row_add_42 : jFld jcl lw_tbl y_Row_add 42 1 0 .getfield := ⟨11, "MarkBlocks$Row", jQ_Row, dx_Row_add 22 (e := (42, .getfield 11, 3)) rfl, rfl, by decide, Or.inl jw_39, Or.inl rfl⟩
theorem f_Row_add_46 : jFld jcl lw_tbl y_Row_add 46 1 1 .getfield := ⟨15, "MarkBlocks$Row", jQ_Row, dx_Row_add 24 (e := (46, .getfield 15, 3)) rfl, rfl, by decide, Or.inl jw_40, Or.inl rfl⟩
theorem f_Row_add_53 : jFld jcl lw_tbl y_Row_add 53 1 1 .getfield := ⟨15, "MarkBlocks$Row", jQ_Row, dx_Row_add 29 (e := (53, .getfield 15, 3)) rfl, rfl, by decide, Or.inl jw_40, Or.inl rfl⟩
theorem f_Row_add_58 : jFld jcl lw_tbl y_Row_add 58 1 1 .putfield := ⟨15, "MarkBlocks$Row", jQ_Row, dx_Row_add 32 (e := (58, .putfield 15, 3)) rfl, rfl, by decide, Or.inl jw_40, Or.inl rfl⟩
theorem can_Row_add : jCan lw_tbl y_Row_add 1 := ⟨jw_378, jw_2, by decide +kernel, by decide +kernel, by decide⟩
theorem dx_Row_cut (i : Nat) {e : Nat × Instr × Nat} (h : k_Row_cut[i]? = some e) : decode c_Row_cut e.1 = .ok e.2 := dk_Row_cut e (List.mem_of_getElem? h)
theorem f_Row_cut_6 : jFld jcl lw_tbl y_Row_cut 6 1 1 .getfield := ⟨15, "MarkBlocks$Row", jQ_Row, dx_Row_cut 4 (e := (6, .getfield 15, 3)) rfl, rfl, by decide, Or.inl jw_40, Or.inl rfl⟩
theorem f_Row_cut_14 : jFld jcl lw_tbl y_Row_cut 14 1 1 .putfield := ⟨15, "MarkBlocks$Row", jQ_Row, dx_Row_cut 8 (e := (14, .putfield 15, 3)) rfl, rfl, by decide, Or.inl jw_40, Or.inl rfl⟩
theorem can_Row_cut : jCan lw_tbl y_Row_cut 1 := ⟨jw_399, jw_2, by decide +kernel, by decide +kernel, by decide⟩
def jty : Nat → FieldType := fun t => match t with
  | 1001 => .byte
  | 1002 => .boolean
  | 1003 => .long
  | 1004 => .object "java/lang/Object"
  | 1005 => .object "MarkBlocks$Block"
  | _ => .int
/-- number i of a row; -1 where there is none -/
def rowAt (xs : List Int32) (i : Int32) : Int32 := if i < 0 then -1 else xs.getD i.toNatClampNeg (-1)
/-- the Row at address k holds xs -/
def RowAt (σ : jS) (k : Nat) (xs : List Int32) : Prop := ∃ (h n : Nat) (v w : Nat → Value), σ.1 k = some (1, 2, v) ∧ v 0 = .ref h ∧ v 1 = .int (nI xs.length) ∧ σ.1 h = some (1000, n, w) ∧ (∀ (i : Nat) (x : Int32), xs[i]? = some x → w i = .int x) ∧ xs.length ≤ n ∧ n ≤ 32768
theorem rowAt_neg {xs : List Int32} {i : Int32} (h : i < 0) : rowAt xs i = -1 := if_pos h
theorem rowAt_nI {xs : List Int32} {j : Nat} (h : j < 2 ^ 31) : rowAt xs (nI j) = xs.getD j (-1) := by
  unfold rowAt
  rw [if_neg (nI_pos h), nI_clamp h]
theorem rowAt_ge {xs : List Int32} {i : Int32} (h0 : ¬ i < 0) (h : nI xs.length ≤ i) (hl : xs.length < 2 ^ 31) : rowAt xs i = -1 := by
  obtain ⟨j, hj, rfl⟩ := nI_of h0
  rw [nI_leI hl hj] at h
  rw [rowAt_nI hj]
  simp [List.getD_eq_getElem?_getD, List.getElem?_eq_none h]
section ROW
variable {l : Launch} {s0 : State} {D : va_G} {cA : Nat → ClassId} {a0 : Array Value} {σ : jS} {d k : Nat} {xs : List Int32}
theorem e_Row_size (F : jOK s0 jcl D cA lw_tbl a0 jty) (h : RowAt σ k xs) : jE l s0 jcl D cA d y_Row_size [.ref k] σ (fun r σ' => r = some (.int (nI xs.length)) ∧ σ' = σ) := by
  obtain ⟨h0, n, v, w, h1, h2, h3, h4, h5, h6, h7⟩ := h
  refine jE.of (by decide) (by simp [Value.category]) (Nat.le_of_ble_eq_true rfl) rfl ?_
  refine jW.aload_n (dx_Row_size 0 (e := (0, .aload_n 0, 1)) rfl) rfl rfl (pc' := 1) rfl ?_
  refine jW.getf F f_Row_size_1 (by assumption) (by assumption) (pc' := 4) rfl ?_
  refine jW.iret (dx_Row_size 2 (e := (4, .ireturn, 1)) rfl) rfl ?_
  exact ⟨rfl, rfl⟩
theorem e_Row_at (F : jOK s0 jcl D cA lw_tbl a0 jty) (h : RowAt σ k xs) (i : Int32) : jE l s0 jcl D cA d y_Row_at [.ref k, .int i] σ (fun r σ' => r = some (.int (rowAt xs i)) ∧ σ' = σ) := by
  obtain ⟨h0, n, v, w, h1, h2, h3, h4, h5, h6, h7⟩ := h
  refine jE.of (by decide) (by simp [Value.category]) (Nat.le_of_ble_eq_true rfl) rfl ?_
  refine jW.iload_n (dx_Row_at 0 (e := (0, .iload_n 1, 1)) rfl) rfl rfl (pc' := 1) rfl ?_
  refine jW.if_lt (dx_Row_at 1 (e := (1, .ifCond .lt 29, 3)) rfl) 30 (by decide) (pc' := 4) rfl (fun c_1 => ?_) (fun c_1 => ?_)
  · refine jW.iconst (v := -1) (dx_Row_at 16 (e := (30, .iconst (-1), 1)) rfl) (by decide) (pc' := 31) rfl ?_
    refine jW.iret (dx_Row_at 17 (e := (31, .ireturn, 1)) rfl) rfl ?_
    first
      | exact ⟨by rw [rowAt_neg c_1], rfl⟩
      | exact ⟨by rw [rowAt_ge c_1 c_9 (by omega)], rfl⟩
      | exact absurd c_18 (fun q => by
          obtain ⟨j, hj, rfl⟩ := nI_of c_1
          rw [nI_leI (by omega) hj] at c_9
          have := (nI_leI (a := n) (by omega) hj).mp q
          omega)
      | exact ⟨rfl, rfl⟩
  · refine jW.iload_n (dx_Row_at 2 (e := (4, .iload_n 1, 1)) rfl) rfl rfl (pc' := 5) rfl ?_
    refine jW.aload_n (dx_Row_at 3 (e := (5, .aload_n 0, 1)) rfl) rfl rfl (pc' := 6) rfl ?_
    refine jW.getf F f_Row_at_6 (by assumption) (by assumption) (pc' := 9) rfl ?_
    refine jW.icmp_ge (dx_Row_at 5 (e := (9, .if_icmp .ge 21, 3)) rfl) 30 (by decide) (pc' := 12) rfl (fun c_9 => ?_) (fun c_9 => ?_)
    · refine jW.iconst (v := -1) (dx_Row_at 16 (e := (30, .iconst (-1), 1)) rfl) (by decide) (pc' := 31) rfl ?_
      refine jW.iret (dx_Row_at 17 (e := (31, .ireturn, 1)) rfl) rfl ?_
      first
      | exact ⟨by rw [rowAt_neg c_1], rfl⟩
      | exact ⟨by rw [rowAt_ge c_1 c_9 (by omega)], rfl⟩
      | exact absurd c_18 (fun q => by
          obtain ⟨j, hj, rfl⟩ := nI_of c_1
          rw [nI_leI (by omega) hj] at c_9
          have := (nI_leI (a := n) (by omega) hj).mp q
          omega)
      | exact ⟨rfl, rfl⟩
    · refine jW.iload_n (dx_Row_at 6 (e := (12, .iload_n 1, 1)) rfl) rfl rfl (pc' := 13) rfl ?_
      refine jW.aload_n (dx_Row_at 7 (e := (13, .aload_n 0, 1)) rfl) rfl rfl (pc' := 14) rfl ?_
      refine jW.getf F f_Row_at_14 (by assumption) (by assumption) (pc' := 17) rfl ?_
      refine jW.alen (t := 1000) F (dx_Row_at 9 (e := (17, .arraylength, 1)) rfl) (by decide) (by assumption) rfl (pc' := 18) rfl ?_
      refine jW.icmp_ge (dx_Row_at 10 (e := (18, .if_icmp .ge 12, 3)) rfl) 30 (by decide) (pc' := 21) rfl (fun c_18 => ?_) (fun c_18 => ?_)
      · refine jW.iconst (v := -1) (dx_Row_at 16 (e := (30, .iconst (-1), 1)) rfl) (by decide) (pc' := 31) rfl ?_
        refine jW.iret (dx_Row_at 17 (e := (31, .ireturn, 1)) rfl) rfl ?_
        first
      | exact ⟨by rw [rowAt_neg c_1], rfl⟩
      | exact ⟨by rw [rowAt_ge c_1 c_9 (by omega)], rfl⟩
      | exact absurd c_18 (fun q => by
          obtain ⟨j, hj, rfl⟩ := nI_of c_1
          rw [nI_leI (by omega) hj] at c_9
          have := (nI_leI (a := n) (by omega) hj).mp q
          omega)
      | exact ⟨rfl, rfl⟩
      · refine jW.aload_n (dx_Row_at 11 (e := (21, .aload_n 0, 1)) rfl) rfl rfl (pc' := 22) rfl ?_
        refine jW.getf F f_Row_at_22 (by assumption) (by assumption) (pc' := 25) rfl ?_
        refine jW.iload_n (dx_Row_at 13 (e := (25, .iload_n 1, 1)) rfl) rfl rfl (pc' := 26) rfl ?_
        obtain ⟨j, hj, rfl⟩ := nI_of c_1
        rw [nI_leI (by omega) hj] at c_9
        have hlt : j < xs.length := by omega
        have hv : w (nI j).toNatClampNeg = .int (rowAt xs (nI j)) := by
          rw [nI_clamp hj, rowAt_nI hj]
          exact h5 j _ (by rw [List.getElem?_eq_getElem hlt, List.getD_eq_getElem?_getD, List.getElem?_eq_getElem hlt]; rfl)
        refine jW.iald (t := 1000) F (dx_Row_at 14 (e := (26, .iaload, 1)) rfl) (by decide) rfl (by assumption) (vp_in_nI (by omega) (by omega)) hv (pc' := 27) rfl ?_
        refine jW.goto (dx_Row_at 15 (e := (27, .goto 4, 3)) rfl) 31 (by decide) ?_
        refine jW.iret (dx_Row_at 17 (e := (31, .ireturn, 1)) rfl) rfl ?_
        first
      | exact ⟨by rw [rowAt_neg c_1], rfl⟩
      | exact ⟨by rw [rowAt_ge c_1 c_9 (by omega)], rfl⟩
      | exact absurd c_18 (fun q => by
          obtain ⟨j, hj, rfl⟩ := nI_of c_1
          rw [nI_leI (by omega) hj] at c_9
          have := (nI_leI (a := n) (by omega) hj).mp q
          omega)
      | exact ⟨rfl, rfl⟩
end ROW
