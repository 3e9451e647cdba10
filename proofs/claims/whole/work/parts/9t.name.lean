section OLDR
variable {l : Launch} {s0 : State} {cl : List vw_C} {D : va_G} {cA : Nat → ClassId} {tb : List Cond} {a0 : Array Value} {ty : Nat → FieldType} {d : Nat} {y : jM} {pc : Nat} {L : jL} {st : List Value} {σ : jS} {Φ : Option Value → jS → Prop}
/-- a string constant -/
theorem jW.ldcS (F : jOK s0 cl D cA tb a0 ty) {index q : Nat} {tx : String} (hd : decode y.2.1 pc = .ok (.ldc index, 2)) (hZ : vk_R y.1.cls index tx q s0) {pc' : Nat} (hp : pc + 2 = pc') (kk : jW l s0 cl D cA d y pc' L (.ref q :: st) σ Φ) : jW l s0 cl D cA d y pc L st σ Φ := by
  subst hp
  refine kk.rd fun p e R s m args below meth c H locs ls cells slots Q hX hH hL w => ?_
  exact va_ldcS hX.1.1 hX.1.2 hX.2.2.2.1 (hZ.warm hX.2.2.2.2.2.2.1) hd (w ls hL)
/-- a field of an object that was there before -/
theorem jW.getO (F : jOK s0 cl D cA tb a0 ty) {index q : Nat} {o n de : String} {v : Value} (hd : decode y.2.1 pc = .ok (.getfield index, 3)) (hl : Cond.fieldLink y.1.cls index o n de ∈ tb) (hE : va_OF o n de v q (fun q => s0.heap.size ≤ q) s0 s0.heap) {pc' : Nat} (hp : pc + 3 = pc') (kk : jW l s0 cl D cA d y pc' L (v :: st) σ Φ) : jW l s0 cl D cA d y pc L (.ref q :: st) σ Φ := by
  subst hp
  refine kk.rd fun p e R s m args below meth c H locs ls cells slots Q hX hH hL w => ?_
  obtain ⟨cf, k, fi, f, cell, h1, h2, h3, h4, h5, h6⟩ := hE.moved hX.2.2.2.2.2.2.1.alike
  exact W.getf hX.1.1 hX.1.2 hX.2.2.2.1 (F.word hX.2.2.2.2.2.2.1 hl (Or.inl (by first | rfl | simp [Cond.onTables, Cond.keeps, Cond.steady])) args) h1 h2 (by rw [hH.2.1 q (Nat.not_le.mp h6)]; exact h3) h4 (v := v) h5 rfl rfl hd (w ls hL)
theorem jW.alenO (F : jOK s0 cl D cA tb a0 ty) {a n : Nat} {t : FieldType} {f : Nat → Value} (hd : decode y.2.1 pc = .ok (.arraylength, 1)) (hT : va_T t a n f (fun q => s0.heap.size ≤ q) s0 s0.heap) {i : Int32} (hi : Int32.ofNat n = i) {pc' : Nat} (hp : pc + 1 = pc') (kk : jW l s0 cl D cA d y pc' L (.int i :: st) σ Φ) : jW l s0 cl D cA d y pc L (.ref a :: st) σ Φ := by
  subst hp; subst hi
  refine kk.rd fun p e R s m args below meth c H locs ls cells slots Q hX hH hL w => ?_
  obtain ⟨cell, h1, h2, h3, h4, h5, h6, h7⟩ := hT.moved hX.2.2.2.2.2.2.1.alike
  exact W.alen hX.1.1 hX.1.2 (by rw [hH.2.1 a (Nat.not_le.mp h7)]; exact h1) h2 h5 rfl rfl hd (w ls hL)
theorem jW.ialdO (F : jOK s0 cl D cA tb a0 ty) {a n : Nat} {f : Nat → Value} (hd : decode y.2.1 pc = .ok (.iaload, 1)) (hT : va_T .int a n f (fun q => s0.heap.size ≤ q) s0 s0.heap) {i : Int32} (hi : vp_in i n) {w : Value} (hw : f i.toNatClampNeg = w) {pc' : Nat} (hp : pc + 1 = pc') (kk : jW l s0 cl D cA d y pc' L (w :: st) σ Φ) : jW l s0 cl D cA d y pc L (.int i :: .ref a :: st) σ Φ := by
  subst hp; subst hw
  refine kk.rd fun p e R s m args below meth c H locs ls cells slots Q hX hH hL w => ?_
  obtain ⟨cell, h1, h2, h3, h4, h5, h6, h7⟩ := hT.moved hX.2.2.2.2.2.2.1.alike
  have hlt : i.toNatClampNeg < n := Nat.not_le.mp fun q => hi (Or.inr q)
  exact W.iald hX.1.1 hX.1.2 (by rw [hH.2.1 a (Nat.not_le.mp h7)]; exact h1) h2 h3 (fun q => hi (q.imp id (fun q => Nat.le_trans h4 q))) (h6 _ hlt) rfl rfl hd (w ls hL)
theorem jW.baldO (F : jOK s0 cl D cA tb a0 ty) {a n : Nat} {f : Nat → Value} (hd : decode y.2.1 pc = .ok (.baload, 1)) (hT : va_T .byte a n f (fun q => s0.heap.size ≤ q) s0 s0.heap) {i : Int32} (hi : vp_in i n) {w : Value} (hw : f i.toNatClampNeg = w) {pc' : Nat} (hp : pc + 1 = pc') (kk : jW l s0 cl D cA d y pc' L (w :: st) σ Φ) : jW l s0 cl D cA d y pc L (.int i :: .ref a :: st) σ Φ := by
  subst hp; subst hw
  refine kk.rd fun p e R s m args below meth c H locs ls cells slots Q hX hH hL w => ?_
  obtain ⟨cell, h1, h2, h3, h4, h5, h6, h7⟩ := hT.moved hX.2.2.2.2.2.2.1.alike
  have hlt : i.toNatClampNeg < n := Nat.not_le.mp fun q => hi (Or.inr q)
  exact W.bald hX.1.1 hX.1.2 (by rw [hH.2.1 a (Nat.not_le.mp h7)]; exact h1) h2 h3 (fun q => hi (q.imp id (fun q => Nat.le_trans h4 q))) (h6 _ hlt) rfl rfl hd (w ls hL)
/-- a call on an object that was there before -/
theorem jW.callVO (F : jOK s0 cl D cA tb a0 ty) {z : jM} {index n b : Nat} {C : String} {As : List Value} {Ψ : Option Value → jS → Prop} (hE : jE l s0 cl D cA d z (.ref b :: As) σ Ψ) (hd : decode y.2.1 pc = .ok (.invokevirtual index, 3)) (hc : jCan tb z n) (hl : Cond.methodLink y.1.cls index z.1 ∈ tb) (hs : Cond.instanceMethod z.1 ∈ tb) (hb0 : va_O C b (fun q => s0.heap.size ≤ q) s0 s0.heap) (hsel : Cond.selects C z.1 z.1 ∈ tb) (hn : As.length = n) {st' : List Value} (hst : st' = As.reverse ++ .ref b :: st) (hcat : (st.map fun v => v.category).sum ≤ 8) {pc' : Nat} (hp : pc + 3 = pc') (kk : ∀ r σ1, Ψ r σ1 → jW l s0 cl D cA (d + 1) y pc' L (r.toList ++ st) σ1 Φ) : jW l s0 cl D cA (d + 1) y pc L st' σ Φ := by
  refine jW.call hE hp kk fun mc ms Qc p e R s m args below meth c H locs ls cells slots hM hB hP hX hH hL hf => ?_
  obtain ⟨⟨hx, hb⟩, hml, hr, hown, hlk, hnm2, hW, hfr, hlo⟩ := hX
  obtain ⟨cell, q1, q2, q3, q4⟩ := hb0.moved hW.alike
  exact va_runV (Ts := []) (C := C) ⟨hx, hb, hml, hown, fun _ h => by cases h⟩ hM ⟨F.callB hW hfr hlo hc hl args, F.word hW hs (Or.inl (by first | rfl | simp [Cond.onTables, Cond.keeps, Cond.steady])) args, F.word hW hsel (Or.inl (by first | rfl | simp [Cond.onTables, Cond.keeps, Cond.steady])) args⟩ ⟨hB, ⟨cell, by rw [hH.2.1 b (Nat.not_le.mp q4)]; exact q1, q2, q3⟩, hP⟩ rfl hn hL.1 hst (lv_room hcat) hd hf
end OLDR
abbrev c_Str_length : ByteArray := prog_17_method_54_code
abbrev y_Str_length : jM := (⟨"java/lang/String", "length", "()I"⟩, c_Str_length, 1, (some .int))
def k_Str_length : List (Nat × Instr × Nat) := [(0, .aload_n 0, 1), (1, .getfield 9, 3), (4, .arraylength, 1), (5, .aload_n 0, 1), (6, .invokevirtual 335, 3), (9, .ishr, 1), (10, .ireturn, 1)]
theorem dk_Str_length : ∀ e ∈ k_Str_length, decode c_Str_length e.1 = .ok e.2 := by decide +kernel
theorem dx_Str_length (i : Nat) {e : Nat × Instr × Nat} (h : k_Str_length[i]? = some e) : decode y_Str_length.2.1 e.1 = .ok e.2 := dk_Str_length e (List.mem_of_getElem? h)
theorem can_Str_length : jCan lw_tbl y_Str_length 0 := ⟨jw_751, jw_18, by decide +kernel, by decide +kernel, by decide⟩
abbrev c_Str_coder : ByteArray := prog_17_method_152_code
abbrev y_Str_coder : jM := (⟨"java/lang/String", "coder", "()B"⟩, c_Str_coder, 1, (some .byte))
def k_Str_coder : List (Nat × Instr × Nat) := [(0, .getstatic 38, 3), (3, .ifCond .eq 10, 3), (6, .aload_n 0, 1), (7, .getfield 15, 3), (10, .goto 4, 3), (13, .iconst 1, 1), (14, .ireturn, 1)]
theorem dk_Str_coder : ∀ e ∈ k_Str_coder, decode c_Str_coder e.1 = .ok e.2 := by decide +kernel
theorem dx_Str_coder (i : Nat) {e : Nat × Instr × Nat} (h : k_Str_coder[i]? = some e) : decode y_Str_coder.2.1 e.1 = .ok e.2 := dk_Str_coder e (List.mem_of_getElem? h)
theorem can_Str_coder : jCan lw_tbl y_Str_coder 0 := ⟨jw_755, jw_18, by decide +kernel, by decide +kernel, by decide⟩
abbrev c_Str_charAt : ByteArray := prog_17_method_56_code
abbrev y_Str_charAt : jM := (⟨"java/lang/String", "charAt", "(I)C"⟩, c_Str_charAt, 2, (some .char))
def k_Str_charAt : List (Nat × Instr × Nat) := [(0, .aload_n 0, 1), (1, .invokevirtual 492, 3), (4, .ifCond .eq 12, 3), (7, .aload_n 0, 1), (8, .getfield 9, 3), (11, .iload_n 1, 1), (12, .invokestatic 495, 3), (15, .ireturn, 1), (16, .aload_n 0, 1), (17, .getfield 9, 3), (20, .iload_n 1, 1), (21, .invokestatic 498, 3), (24, .ireturn, 1)]
theorem dk_Str_charAt : ∀ e ∈ k_Str_charAt, decode c_Str_charAt e.1 = .ok e.2 := by decide +kernel
theorem dx_Str_charAt (i : Nat) {e : Nat × Instr × Nat} (h : k_Str_charAt[i]? = some e) : decode y_Str_charAt.2.1 e.1 = .ok e.2 := dk_Str_charAt e (List.mem_of_getElem? h)
theorem can_Str_charAt : jCan lw_tbl y_Str_charAt 1 := ⟨jw_763, jw_18, by decide +kernel, by decide +kernel, by decide⟩
abbrev c_Str_isLatin1 : ByteArray := prog_17_method_154_code
abbrev y_Str_isLatin1 : jM := (⟨"java/lang/String", "isLatin1", "()Z"⟩, c_Str_isLatin1, 1, (some .boolean))
def k_Str_isLatin1 : List (Nat × Instr × Nat) := [(0, .getstatic 38, 3), (3, .ifCond .eq 14, 3), (6, .aload_n 0, 1), (7, .getfield 15, 3), (10, .ifCond .ne 7, 3), (13, .iconst 1, 1), (14, .goto 4, 3), (17, .iconst 0, 1), (18, .ireturn, 1)]
theorem dk_Str_isLatin1 : ∀ e ∈ k_Str_isLatin1, decode c_Str_isLatin1 e.1 = .ok e.2 := by decide +kernel
theorem dx_Str_isLatin1 (i : Nat) {e : Nat × Instr × Nat} (h : k_Str_isLatin1[i]? = some e) : decode y_Str_isLatin1.2.1 e.1 = .ok e.2 := dk_Str_isLatin1 e (List.mem_of_getElem? h)
theorem can_Str_isLatin1 : jCan lw_tbl y_Str_isLatin1 0 := ⟨jw_767, jw_18, by decide +kernel, by decide +kernel, by decide⟩
abbrev c_Str_checkIndex : ByteArray := prog_17_method_155_code
abbrev y_Str_checkIndex : jM := (⟨"java/lang/String", "checkIndex", "(II)V"⟩, c_Str_checkIndex, 2, none)
def k_Str_checkIndex : List (Nat × Instr × Nat) := [(0, .iload_n 0, 1), (1, .iload_n 1, 1), (2, .getstatic 1053, 3), (5, .invokestatic 1059, 3), (8, .pop, 1), (9, .return_, 1)]
theorem dk_Str_checkIndex : ∀ e ∈ k_Str_checkIndex, decode c_Str_checkIndex e.1 = .ok e.2 := by decide +kernel
theorem dx_Str_checkIndex (i : Nat) {e : Nat × Instr × Nat} (h : k_Str_checkIndex[i]? = some e) : decode y_Str_checkIndex.2.1 e.1 = .ok e.2 := dk_Str_checkIndex e (List.mem_of_getElem? h)
theorem can_Str_checkIndex : jCan lw_tbl y_Str_checkIndex 2 := ⟨jw_773, jw_18, by decide +kernel, by decide +kernel, by decide⟩
abbrev c_Lat_charAt : ByteArray := prog_18_method_2_code
abbrev y_Lat_charAt : jM := (⟨"java/lang/StringLatin1", "charAt", "([BI)C"⟩, c_Lat_charAt, 2, (some .char))
def k_Lat_charAt : List (Nat × Instr × Nat) := [(0, .iload_n 1, 1), (1, .aload_n 0, 1), (2, .arraylength, 1), (3, .invokestatic 9, 3), (6, .aload_n 0, 1), (7, .iload_n 1, 1), (8, .baload, 1), (9, .sipush 255, 3), (12, .iand, 1), (13, .i2c, 1), (14, .ireturn, 1)]
theorem dk_Lat_charAt : ∀ e ∈ k_Lat_charAt, decode c_Lat_charAt e.1 = .ok e.2 := by decide +kernel
theorem dx_Lat_charAt (i : Nat) {e : Nat × Instr × Nat} (h : k_Lat_charAt[i]? = some e) : decode y_Lat_charAt.2.1 e.1 = .ok e.2 := dk_Lat_charAt e (List.mem_of_getElem? h)
theorem can_Lat_charAt : jCan lw_tbl y_Lat_charAt 2 := ⟨jw_770, jw_19, by decide +kernel, by decide +kernel, by decide⟩
section STRM
variable {l : Launch} {s0 : State} {D : va_G} {cA : Nat → ClassId} {a0 : Array Value} {d : Nat} {σ : jS}
/-- a string of the start: n signs, one byte each -/
def OSt (s0 : State) (q v n : Nat) (f : Nat → Int32) : Prop := va_O "java/lang/String" q (fun q => s0.heap.size ≤ q) s0 s0.heap ∧ va_OF "java/lang/String" "coder" "B" (.int 0) q (fun q => s0.heap.size ≤ q) s0 s0.heap ∧ va_OF "java/lang/String" "value" "[B" (.ref v) q (fun q => s0.heap.size ≤ q) s0 s0.heap ∧ va_T .byte v n (fun j => .int (f j)) (fun q => s0.heap.size ≤ q) s0 s0.heap ∧ n < 2 ^ 31 ∧ ∀ j, ∃ k, f j = nI k ∧ k < 128
/-- the statics that strings ask -/
def OSs (s0 : State) : Prop := va_Z "java/lang/String" "COMPACT_STRINGS" "Z" (.int 1) (fun q => s0.heap.size ≤ q) s0 s0.heap ∧ ∃ v, (v = .null ∨ ∃ f, v = .ref f) ∧ va_Z "jdk/internal/util/Preconditions" "SIOOBE_FORMATTER" "Ljava/util/function/BiFunction;" v (fun q => s0.heap.size ≤ q) s0 s0.heap
theorem sh0 (x : Int32) : x >>> ((0 : Int32) &&& 31) = x := by
  rw [show (0 : Int32) &&& 31 = 0 by decide]
  exact Int32.shiftRight_zero
theorem chF : ∀ k : Fin 128, ((nI k.val &&& 255).toUInt32 % 65536).toInt32 = nI k.val ∧ narrow .char (.int (nI k.val)) = .int (nI k.val) := by decide +kernel
theorem e_Prec_checkIndexR (F : jOK s0 jcl D cA lw_tbl a0 jty) {i n r0 : Nat} (hi : i < n) (hn : n < 2 ^ 31) : jE l s0 jcl D cA d y_Prec_checkIndex [.int (nI i), .int (nI n), .ref r0] σ (fun r σ' => r = some (.int (nI i)) ∧ σ' = σ) := by
  refine jE.ofF (by decide +kernel) (by simp [Value.category]) (Nat.le_of_ble_eq_true rfl) rfl ?_
  refine jW.iload_n (dx_Prec_checkIndex 0 (e := (0, .iload_n 0, 1)) rfl) rfl rfl (pc' := 1) rfl ?_
  refine jW.if_lt (dx_Prec_checkIndex 1 (e := (1, .ifCond .lt 8, 3)) rfl) 9 (by decide) (pc' := 4) rfl (fun c_1 => ?_) (fun c_1 => ?_)
  · first
      | exact absurd c_1 (nI_pos (by omega))
      | exact absurd ((nI_ltI (by omega) hn).mpr hi) c_6
  · refine jW.iload_n (dx_Prec_checkIndex 2 (e := (4, .iload_n 0, 1)) rfl) rfl rfl (pc' := 5) rfl ?_
    refine jW.iload_n (dx_Prec_checkIndex 3 (e := (5, .iload_n 1, 1)) rfl) rfl rfl (pc' := 6) rfl ?_
    refine jW.icmp_lt (dx_Prec_checkIndex 4 (e := (6, .if_icmp .lt 10, 3)) rfl) 16 (by decide) (pc' := 9) rfl (fun c_6 => ?_) (fun c_6 => ?_)
    · refine jW.iload_n (dx_Prec_checkIndex 10 (e := (16, .iload_n 0, 1)) rfl) rfl rfl (pc' := 17) rfl ?_
      refine jW.iret (dx_Prec_checkIndex 11 (e := (17, .ireturn, 1)) rfl) rfl ?_
      exact ⟨rfl, rfl⟩
    · first
        | exact absurd c_1 (nI_pos (by omega))
        | exact absurd ((nI_ltI (by omega) hn).mpr hi) c_6
theorem e_Str_coder (F : jOK s0 jcl D cA lw_tbl a0 jty) {q v n : Nat} {f : Nat → Int32} (H : OSt s0 q v n f) (HS : OSs s0) : jE l s0 jcl D cA d y_Str_coder [.ref q] σ (fun r σ' => r = some (.int 0) ∧ σ' = σ) := by
  have H0 := H
  have HS0 := HS
  obtain ⟨o1, o2, o3, o4, o5, o6⟩ := H
  obtain ⟨z1, fm, z2⟩ := HS
  refine jE.ofF (by decide +kernel) (by simp [Value.category]) (Nat.le_of_ble_eq_true rfl) rfl ?_
  refine jW.gets F (dx_Str_coder 0 (e := (0, .getstatic 38, 3)) rfl) jw_756 z1 (pc' := 3) rfl ?_
  refine jW.if_eq (dx_Str_coder 1 (e := (3, .ifCond .eq 10, 3)) rfl) 13 (by decide) (pc' := 6) rfl (fun c_3 => ?_) (fun c_3 => ?_)
  · exact absurd c_3 (by decide)
  · refine jW.aload_n (dx_Str_coder 2 (e := (6, .aload_n 0, 1)) rfl) rfl rfl (pc' := 7) rfl ?_
    refine jW.getO F (dx_Str_coder 3 (e := (7, .getfield 15, 3)) rfl) jw_1434 o2 (pc' := 10) rfl ?_
    refine jW.goto (dx_Str_coder 4 (e := (10, .goto 4, 3)) rfl) 14 (by decide) ?_
    refine jW.zret (dx_Str_coder 6 (e := (14, .ireturn, 1)) rfl) rfl (by decide) ?_
    exact ⟨rfl, rfl⟩
theorem e_Str_isLatin1 (F : jOK s0 jcl D cA lw_tbl a0 jty) {q v n : Nat} {f : Nat → Int32} (H : OSt s0 q v n f) (HS : OSs s0) : jE l s0 jcl D cA d y_Str_isLatin1 [.ref q] σ (fun r σ' => r = some (.int 1) ∧ σ' = σ) := by
  have H0 := H
  have HS0 := HS
  obtain ⟨o1, o2, o3, o4, o5, o6⟩ := H
  obtain ⟨z1, fm, z2⟩ := HS
  refine jE.ofF (by decide +kernel) (by simp [Value.category]) (Nat.le_of_ble_eq_true rfl) rfl ?_
  refine jW.gets F (dx_Str_isLatin1 0 (e := (0, .getstatic 38, 3)) rfl) jw_756 z1 (pc' := 3) rfl ?_
  refine jW.if_eq (dx_Str_isLatin1 1 (e := (3, .ifCond .eq 14, 3)) rfl) 17 (by decide) (pc' := 6) rfl (fun c_3 => ?_) (fun c_3 => ?_)
  · first
      | exact absurd c_3 (by decide)
      | exact absurd rfl c_10
  · refine jW.aload_n (dx_Str_isLatin1 2 (e := (6, .aload_n 0, 1)) rfl) rfl rfl (pc' := 7) rfl ?_
    refine jW.getO F (dx_Str_isLatin1 3 (e := (7, .getfield 15, 3)) rfl) jw_1434 o2 (pc' := 10) rfl ?_
    refine jW.if_ne (dx_Str_isLatin1 4 (e := (10, .ifCond .ne 7, 3)) rfl) 17 (by decide) (pc' := 13) rfl (fun c_10 => ?_) (fun c_10 => ?_)
    · first
        | exact absurd c_3 (by decide)
        | exact absurd rfl c_10
    · refine jW.iconst (v := 1) (dx_Str_isLatin1 5 (e := (13, .iconst 1, 1)) rfl) (by decide) (pc' := 14) rfl ?_
      refine jW.goto (dx_Str_isLatin1 6 (e := (14, .goto 4, 3)) rfl) 18 (by decide) ?_
      refine jW.zret (dx_Str_isLatin1 8 (e := (18, .ireturn, 1)) rfl) rfl (by decide) ?_
      exact ⟨rfl, rfl⟩
theorem e_Str_length (F : jOK s0 jcl D cA lw_tbl a0 jty) {q v n : Nat} {f : Nat → Int32} (H : OSt s0 q v n f) (HS : OSs s0) : jE l s0 jcl D cA (d + 1) y_Str_length [.ref q] σ (fun r σ' => r = some (.int (nI n)) ∧ σ' = σ) := by
  have H0 := H
  have HS0 := HS
  obtain ⟨o1, o2, o3, o4, o5, o6⟩ := H
  obtain ⟨z1, fm, z2⟩ := HS
  refine jE.ofF (by decide +kernel) (by simp [Value.category]) (Nat.le_of_ble_eq_true rfl) rfl ?_
  refine jW.aload_n (dx_Str_length 0 (e := (0, .aload_n 0, 1)) rfl) rfl rfl (pc' := 1) rfl ?_
  refine jW.getO F (dx_Str_length 1 (e := (1, .getfield 9, 3)) rfl) jw_1433 o3 (pc' := 4) rfl ?_
  refine jW.alenO F (dx_Str_length 2 (e := (4, .arraylength, 1)) rfl) o4 rfl (pc' := 5) rfl ?_
  refine jW.aload_n (dx_Str_length 3 (e := (5, .aload_n 0, 1)) rfl) rfl rfl (pc' := 6) rfl ?_
  refine jW.callVO F (e_Str_coder F H0 HS0) (dx_Str_length 4 (e := (6, .invokevirtual 335, 3)) rfl) can_Str_coder jw_752 jw_753 o1 jw_754 rfl rfl (Nat.le_of_ble_eq_true rfl) (pc' := 9) rfl (fun r σ1 hr => ?_)
  obtain ⟨rfl, hσ⟩ := hr
  rw [hσ]
  refine jW.ishr (dx_Str_length 5 (e := (9, .ishr, 1)) rfl) (pc' := 10) rfl ?_
  refine jW.iret (dx_Str_length 6 (e := (10, .ireturn, 1)) rfl) rfl ?_
  refine ⟨?_, rfl⟩
  show some (Value.int (nI n >>> ((0 : Int32) &&& 31))) = _
  rw [sh0]
theorem e_Str_checkIndex (F : jOK s0 jcl D cA lw_tbl a0 jty) (HS : OSs s0) {i n : Nat} (hi : i < n) (hn : n < 2 ^ 31) : jE l s0 jcl D cA (d + 1) y_Str_checkIndex [.int (nI i), .int (nI n)] σ (fun r σ' => r = none ∧ σ' = σ) := by
  obtain ⟨z1, fv, hfv, z2⟩ := HS
  refine jE.ofF (by decide +kernel) (by simp [Value.category]) (Nat.le_of_ble_eq_true rfl) rfl ?_
  rcases hfv with rfl | ⟨fm, rfl⟩
  · refine jW.iload_n (dx_Str_checkIndex 0 (e := (0, .iload_n 0, 1)) rfl) rfl rfl (pc' := 1) rfl ?_
    refine jW.iload_n (dx_Str_checkIndex 1 (e := (1, .iload_n 1, 1)) rfl) rfl rfl (pc' := 2) rfl ?_
    refine jW.gets F (dx_Str_checkIndex 2 (e := (2, .getstatic 1053, 3)) rfl) jw_774 z2 (pc' := 5) rfl ?_
    refine jW.callS F (e_Prec_checkIndex F hi hn) (dx_Str_checkIndex 3 (e := (5, .invokestatic 1059, 3)) rfl) can_Prec_checkIndex jw_776 jw_424 rfl rfl (Nat.le_of_ble_eq_true rfl) (pc' := 8) rfl (fun r σ1 hr => ?_)
    obtain ⟨rfl, hσ⟩ := hr
    rw [hσ]
    refine jW.pop (dx_Str_checkIndex 4 (e := (8, .pop, 1)) rfl) rfl (pc' := 9) rfl ?_
    refine jW.vret (dx_Str_checkIndex 5 (e := (9, .return_, 1)) rfl) rfl ?_
    exact ⟨rfl, rfl⟩
  · refine jW.iload_n (dx_Str_checkIndex 0 (e := (0, .iload_n 0, 1)) rfl) rfl rfl (pc' := 1) rfl ?_
    refine jW.iload_n (dx_Str_checkIndex 1 (e := (1, .iload_n 1, 1)) rfl) rfl rfl (pc' := 2) rfl ?_
    refine jW.gets F (dx_Str_checkIndex 2 (e := (2, .getstatic 1053, 3)) rfl) jw_774 z2 (pc' := 5) rfl ?_
    refine jW.callS F (e_Prec_checkIndexR F hi hn) (dx_Str_checkIndex 3 (e := (5, .invokestatic 1059, 3)) rfl) can_Prec_checkIndex jw_776 jw_424 rfl rfl (Nat.le_of_ble_eq_true rfl) (pc' := 8) rfl (fun r σ1 hr => ?_)
    obtain ⟨rfl, hσ⟩ := hr
    rw [hσ]
    refine jW.pop (dx_Str_checkIndex 4 (e := (8, .pop, 1)) rfl) rfl (pc' := 9) rfl ?_
    refine jW.vret (dx_Str_checkIndex 5 (e := (9, .return_, 1)) rfl) rfl ?_
    exact ⟨rfl, rfl⟩
theorem e_Lat_charAt (F : jOK s0 jcl D cA lw_tbl a0 jty) {q v n : Nat} {f : Nat → Int32} (H : OSt s0 q v n f) (HS : OSs s0) {i : Nat} (hi : i < n) : jE l s0 jcl D cA (d + 2) y_Lat_charAt [.ref v, .int (nI i)] σ (fun r σ' => r = some (.int (f i)) ∧ σ' = σ) := by
  have HS0 := HS
  obtain ⟨o1, o2, o3, o4, o5, o6⟩ := H
  obtain ⟨z1, fm, z2⟩ := HS
  have hc : (nI i).toNatClampNeg = i := nI_clamp (by omega)
  obtain ⟨k, hk, hk2⟩ := o6 i
  refine jE.ofF (by decide +kernel) (by simp [Value.category]) (Nat.le_of_ble_eq_true rfl) rfl ?_
  refine jW.iload_n (dx_Lat_charAt 0 (e := (0, .iload_n 1, 1)) rfl) rfl rfl (pc' := 1) rfl ?_
  refine jW.aload_n (dx_Lat_charAt 1 (e := (1, .aload_n 0, 1)) rfl) rfl rfl (pc' := 2) rfl ?_
  refine jW.alenO F (dx_Lat_charAt 2 (e := (2, .arraylength, 1)) rfl) o4 rfl (pc' := 3) rfl ?_
  refine jW.callS F (e_Str_checkIndex F HS0 hi o5) (dx_Lat_charAt 3 (e := (3, .invokestatic 9, 3)) rfl) can_Str_checkIndex jw_771 jw_772 rfl rfl (Nat.le_of_ble_eq_true rfl) (pc' := 6) rfl (fun r σ1 hr => ?_)
  obtain ⟨rfl, hσ⟩ := hr
  rw [hσ]
  refine jW.aload_n (dx_Lat_charAt 4 (e := (6, .aload_n 0, 1)) rfl) rfl rfl (pc' := 7) rfl ?_
  refine jW.iload_n (dx_Lat_charAt 5 (e := (7, .iload_n 1, 1)) rfl) rfl rfl (pc' := 8) rfl ?_
  refine jW.baldO F (dx_Lat_charAt 6 (e := (8, .baload, 1)) rfl) o4 ((vp_nI (by omega)).mpr hi) rfl (pc' := 9) rfl ?_
  rw [hc, hk]
  refine jW.sipush (v := 255) (dx_Lat_charAt 7 (e := (9, .sipush 255, 3)) rfl) (by decide) (pc' := 12) rfl ?_
  refine jW.iand (dx_Lat_charAt 8 (e := (12, .iand, 1)) rfl) (pc' := 13) rfl ?_
  refine jW.i2c (dx_Lat_charAt 9 (e := (13, .i2c, 1)) rfl) (chF ⟨k, hk2⟩).1 (pc' := 14) rfl ?_
  refine jW.zret (dx_Lat_charAt 10 (e := (14, .ireturn, 1)) rfl) rfl (chF ⟨k, hk2⟩).2 ?_
  exact ⟨rfl, rfl⟩
theorem e_Str_charAt (F : jOK s0 jcl D cA lw_tbl a0 jty) {q v n : Nat} {f : Nat → Int32} (H : OSt s0 q v n f) (HS : OSs s0) {i : Nat} (hi : i < n) : jE l s0 jcl D cA (d + 3) y_Str_charAt [.ref q, .int (nI i)] σ (fun r σ' => r = some (.int (f i)) ∧ σ' = σ) := by
  have H0 := H
  have HS0 := HS
  obtain ⟨o1, o2, o3, o4, o5, o6⟩ := H
  obtain ⟨z1, fm, z2⟩ := HS
  obtain ⟨k, hk, hk2⟩ := o6 i
  refine jE.ofF (by decide +kernel) (by simp [Value.category]) (Nat.le_of_ble_eq_true rfl) rfl ?_
  refine jW.aload_n (dx_Str_charAt 0 (e := (0, .aload_n 0, 1)) rfl) rfl rfl (pc' := 1) rfl ?_
  refine jW.callVO F (e_Str_isLatin1 F H0 HS0) (dx_Str_charAt 1 (e := (1, .invokevirtual 492, 3)) rfl) can_Str_isLatin1 jw_764 jw_765 o1 jw_766 rfl rfl (Nat.le_of_ble_eq_true rfl) (pc' := 4) rfl (fun r σ1 hr => ?_)
  obtain ⟨rfl, hσ⟩ := hr
  rw [hσ]
  refine jW.if_eq (dx_Str_charAt 2 (e := (4, .ifCond .eq 12, 3)) rfl) 16 (by decide) (pc' := 7) rfl (fun c_4 => ?_) (fun c_4 => ?_)
  · exact absurd c_4 (by decide)
  · refine jW.aload_n (dx_Str_charAt 3 (e := (7, .aload_n 0, 1)) rfl) rfl rfl (pc' := 8) rfl ?_
    refine jW.getO F (dx_Str_charAt 4 (e := (8, .getfield 9, 3)) rfl) jw_1433 o3 (pc' := 11) rfl ?_
    refine jW.iload_n (dx_Str_charAt 5 (e := (11, .iload_n 1, 1)) rfl) rfl rfl (pc' := 12) rfl ?_
    refine jW.callS F (e_Lat_charAt F H0 HS0 hi) (dx_Str_charAt 6 (e := (12, .invokestatic 495, 3)) rfl) can_Lat_charAt jw_768 jw_769 rfl rfl (Nat.le_of_ble_eq_true rfl) (pc' := 15) rfl (fun r σ1 hr => ?_)
    obtain ⟨rfl, hσ⟩ := hr
    rw [hσ]
    refine jW.zret (dx_Str_charAt 7 (e := (15, .ireturn, 1)) rfl) rfl (by rw [hk]; exact (chF ⟨k, hk2⟩).2) ?_
    exact ⟨rfl, rfl⟩
theorem e_Str_charAtX (F : jOK s0 jcl D cA lw_tbl a0 jty) {q v n : Nat} {f : Nat → Int32} (H : OSt s0 q v n f) (HS : OSs s0) {x : Int32} (hx : vp_in x n) : jE l s0 jcl D cA (d + 3) y_Str_charAt [.ref q, .int x] σ (fun r σ' => r = some (.int (f x.toNatClampNeg)) ∧ σ' = σ) := by
  have h0 : nI 0 ≤ x := Int32.not_lt.mp fun q => hx (Or.inl q)
  obtain ⟨k, h1, h2, rfl⟩ := ge_nI (by decide) h0
  rw [nI_clamp (by omega)]
  exact e_Str_charAt F H HS ((vp_nI (by omega)).mp hx)
end STRM
def nmL : List Nat := [97, 109, 112, 59, 108, 116, 59, 103, 116, 59, 113, 117, 111, 116, 59, 97, 112, 111, 115, 59, 110, 98, 115, 112, 59]
def nmM : List Nat := [38, 60, 62, 34, 39, 160]
def nmF (j : Nat) : Int32 := nI (nmL.getD j 0)
def nmN (j : Nat) : Int32 := nI (nmM.getD j 0)
/-- what the start holds for the names of references -/
def NMS (X : CX) : Prop := ∃ q v a, vk_R "MarkBlocks$Labels" 126 "amp;lt;gt;quot;apos;nbsp;" q X.2.1 ∧ OSt X.2.1 q v 25 nmF ∧ OSs X.2.1 ∧ va_Z "MarkBlocks$Labels" "NAMED" "[I" (.ref a) (fun q => X.2.1.heap.size ≤ q) X.2.1 X.2.1.heap ∧ va_T .int a 6 (fun j => .int (nmN j)) (fun q => X.2.1.heap.size ≤ q) X.2.1 X.2.1.heap
def nmK (p : Nat) : Nat := ((nmL.take p).filter (fun q => decide (q = 59))).length
abbrev bnB (T : List Int32) (i t jj p : Nat) (b : Bool) : Bool := b && decide (i + 1 + jj < t ∧ tA T (i + 1 + jj) = nmF p)
def bnL (T : List Int32) (i t : Nat) : Nat → Nat → Nat → Nat → Bool → Option (Nat × Nat)
  | 0, _, _, _, _ => none
  | n + 1, p, k, jj, b => if nmL.getD p 0 = 59 then (if bnB T i t jj p b = true then some (i + 1 + jj + 1, nmM.getD k 0) else bnL T i t n (p + 1) (k + 1) 0 true) else bnL T i t n (p + 1) k (jj + 1) (bnB T i t jj p b)
section BNN
variable {T : List Int32} {i t n p k jj : Nat} {b : Bool}
theorem bnL_n (h : nmL.getD p 0 ≠ 59) : bnL T i t (n + 1) p k jj b = bnL T i t n (p + 1) k (jj + 1) (bnB T i t jj p b) := if_neg h
theorem bnL_e (h : nmL.getD p 0 = 59) : bnL T i t (n + 1) p k jj b = if bnB T i t jj p b = true then some (i + 1 + jj + 1, nmM.getD k 0) else bnL T i t n (p + 1) (k + 1) 0 true := if_pos h
theorem bn2 (p : Nat) (h : nmF (p + 2) = 59) : bnB T i t 2 (p + 2) (bnB T i t 1 (p + 1) (bnB T i t 0 p true)) = true ↔ nmE T i t [nmL.getD p 0, nmL.getD (p + 1) 0] := by
  simp only [bnB, Bool.and_eq_true, decide_eq_true_eq, true_and, h]
  constructor
  · rintro ⟨⟨⟨a1, a2⟩, b1, b2⟩, c1, c2⟩
    refine ⟨c1, fun j hj => ?_, c2⟩
    match j, hj with
    | 0, _ => exact a2
    | 1, _ => exact b2
  · rintro ⟨h1, h2, h3⟩
    have h1' : i + 1 + 2 < t := h1
    exact ⟨⟨⟨by omega, h2 0 (by simp)⟩, by omega, h2 1 (by simp)⟩, h1, h3⟩
theorem bn3 (p : Nat) (h : nmF (p + 3) = 59) : bnB T i t 3 (p + 3) (bnB T i t 2 (p + 2) (bnB T i t 1 (p + 1) (bnB T i t 0 p true))) = true ↔ nmE T i t [nmL.getD p 0, nmL.getD (p + 1) 0, nmL.getD (p + 2) 0] := by
  simp only [bnB, Bool.and_eq_true, decide_eq_true_eq, true_and, h]
  constructor
  · rintro ⟨⟨⟨⟨a1, a2⟩, b1, b2⟩, d1, d2⟩, c1, c2⟩
    refine ⟨c1, fun j hj => ?_, c2⟩
    match j, hj with
    | 0, _ => exact a2
    | 1, _ => exact b2
    | 2, _ => exact d2
  · rintro ⟨h1, h2, h3⟩
    have h1' : i + 1 + 3 < t := h1
    exact ⟨⟨⟨⟨by omega, h2 0 (by simp)⟩, by omega, h2 1 (by simp)⟩, by omega, h2 2 (by simp)⟩, h1, h3⟩
theorem bn4 (p : Nat) (h : nmF (p + 4) = 59) : bnB T i t 4 (p + 4) (bnB T i t 3 (p + 3) (bnB T i t 2 (p + 2) (bnB T i t 1 (p + 1) (bnB T i t 0 p true)))) = true ↔ nmE T i t [nmL.getD p 0, nmL.getD (p + 1) 0, nmL.getD (p + 2) 0, nmL.getD (p + 3) 0] := by
  simp only [bnB, Bool.and_eq_true, decide_eq_true_eq, true_and, h]
  constructor
  · rintro ⟨⟨⟨⟨⟨a1, a2⟩, b1, b2⟩, d1, d2⟩, e1, e2⟩, c1, c2⟩
    refine ⟨c1, fun j hj => ?_, c2⟩
    match j, hj with
    | 0, _ => exact a2
    | 1, _ => exact b2
    | 2, _ => exact d2
    | 3, _ => exact e2
  · rintro ⟨h1, h2, h3⟩
    have h1' : i + 1 + 4 < t := h1
    exact ⟨⟨⟨⟨⟨by omega, h2 0 (by simp)⟩, by omega, h2 1 (by simp)⟩, by omega, h2 2 (by simp)⟩, by omega, h2 3 (by simp)⟩, h1, h3⟩
theorem ifc {α : Type} {p q : Prop} [Decidable p] [Decidable q] {a b a' b' : α} (h : p ↔ q) (h1 : a = a') (h2 : b = b') : (if p then a else b) = if q then a' else b' := by
  subst h1 h2
  by_cases z : p
  · rw [if_pos z, if_pos (h.mp z)]
  · rw [if_neg z, if_neg (fun y => z (h.mpr y))]
theorem bnL_eq : bnL T i t 25 0 0 0 true = nameR T i t := by
  rw [bnL_n (by decide), bnL_n (by decide), bnL_n (by decide), bnL_e (by decide)]
  rw [bnL_n (by decide), bnL_n (by decide), bnL_e (by decide)]
  rw [bnL_n (by decide), bnL_n (by decide), bnL_e (by decide)]
  rw [bnL_n (by decide), bnL_n (by decide), bnL_n (by decide), bnL_n (by decide), bnL_e (by decide)]
  rw [bnL_n (by decide), bnL_n (by decide), bnL_n (by decide), bnL_n (by decide), bnL_e (by decide)]
  rw [bnL_n (by decide), bnL_n (by decide), bnL_n (by decide), bnL_n (by decide), bnL_e (by decide)]
  unfold nameR
  exact ifc (bn3 0 (by decide)) rfl (ifc (bn2 4 (by decide)) rfl (ifc (bn2 7 (by decide)) rfl (ifc (bn4 10 (by decide)) rfl (ifc (bn4 15 (by decide)) rfl (ifc (bn4 20 (by decide)) rfl rfl)))))
end BNN
def w_Lab_behindName_120 (X : CX) (x1 : Int32) (x2 : Int32) (x3 : Int32) (x4 : Int32) (x5 : Int32) (x6 : Int32) (m : CS) (Φ : Option Value → CS → Prop) : Prop := Φ (some (.int (-1))) m
theorem t_Lab_behindName_120 {X : CX} {a0 : Array Value} (F : cF X a0) (H0 : NMS X) {d : Nat} {x1 : Int32} {x2 : Int32} {x3 : Int32} {x4 : Int32} {x5 : Int32} {x6 : Int32} {m : CS} {σ : jS} {Φ : Option Value → CS → Prop} (hV : CV X m σ) (h : w_Lab_behindName_120 X x1 x2 x3 x4 x5 x6 m Φ) : jW X.1 X.2.1 jcl X.2.2.1 X.2.2.2.1 (d + 4) y_Lab_behindName 120 [some (.ref (adr X 4)), some (.int x1), some (.int x2), some (.int x3), some (.int x4), some (.int x5), some (.int x6)] [] σ (cP X Φ) := by
  unfold w_Lab_behindName_120 at h
  refine jW.iconst (v := -1) (dx_Lab_behindName 60 (e := (120, .iconst (-1), 1)) rfl) (by decide) (pc' := 121) rfl ?_
  exact jW.iret (dx_Lab_behindName 61 (e := (121, .ireturn, 1)) rfl) rfl ⟨_, hV, h⟩
def w_Lab_behindName_114 (X : CX) (x1 : Int32) (x2 : Int32) (x3 : Int32) (x4 : Int32) (x5 : Int32) (x6 : Int32) (m : CS) (Φ : Option Value → CS → Prop) (K13 : Int32 → Int32 → Int32 → Int32 → Int32 → Int32 → CS → Prop) : Prop := K13 (x1) (x2) (x3) (x4) (x5) (x6 + 1) m
theorem t_Lab_behindName_114 {X : CX} {a0 : Array Value} (F : cF X a0) (H0 : NMS X) {d : Nat} {x1 : Int32} {x2 : Int32} {x3 : Int32} {x4 : Int32} {x5 : Int32} {x6 : Int32} {m : CS} {σ : jS} {Φ : Option Value → CS → Prop} {K13 : Int32 → Int32 → Int32 → Int32 → Int32 → Int32 → CS → Prop} (hV : CV X m σ) (h : w_Lab_behindName_114 X x1 x2 x3 x4 x5 x6 m Φ K13) (hK13 : ∀ (x1 : Int32) (x2 : Int32) (x3 : Int32) (x4 : Int32) (x5 : Int32) (x6 : Int32) (m : CS) (σ : jS), CV X m σ → K13 x1 x2 x3 x4 x5 x6 m → jW X.1 X.2.1 jcl X.2.2.1 X.2.2.2.1 (d + 4) y_Lab_behindName 13 [some (.ref (adr X 4)), some (.int x1), some (.int x2), some (.int x3), some (.int x4), some (.int x5), some (.int x6)] [] σ (cP X Φ)) : jW X.1 X.2.1 jcl X.2.2.1 X.2.2.2.1 (d + 4) y_Lab_behindName 114 [some (.ref (adr X 4)), some (.int x1), some (.int x2), some (.int x3), some (.int x4), some (.int x5), some (.int x6)] [] σ (cP X Φ) := by
  unfold w_Lab_behindName_114 at h
  refine jW.iinc (v := _ + (1)) (dx_Lab_behindName 58 (e := (114, .iinc 6 1, 3)) rfl) rfl rfl (by decide) rfl (pc' := 117) rfl ?_
  refine jW.goto (dx_Lab_behindName 59 (e := (117, .goto (-104), 3)) rfl) 13 (by decide) ?_
  exact hK13 _ _ _ _ _ _ _ _ hV h
def w_Lab_behindName_66 (X : CX) (x1 : Int32) (x2 : Int32) (x3 : Int32) (x4 : Int32) (x5 : Int32) (x6 : Int32) (s0 : Int32) (m : CS) (Φ : Option Value → CS → Prop) (K13 : Int32 → Int32 → Int32 → Int32 → Int32 → Int32 → CS → Prop) : Prop := (vp_in (x6) 25 ∧ ((nmF (x6 : Int32).toNatClampNeg = 59 → ((s0 = 0 → w_Lab_behindName_114 X (x1) (x2) (x3 + 1) (x1 + 1) (1) (x6) m Φ K13) ∧ (¬ s0 = 0 → (vp_in (x3) 6 ∧ ∀ m1, m1 = cI m 49 (nmN (x3 : Int32).toNatClampNeg) → Φ (some (.int (x4 + 1))) m1)))) ∧ (¬ nmF (x6 : Int32).toNatClampNeg = 59 → w_Lab_behindName_114 X (x1) (x2) (x3) (x4 + 1) (s0) (x6) m Φ K13)))
theorem t_Lab_behindName_66 {X : CX} {a0 : Array Value} (F : cF X a0) (H0 : NMS X) {d : Nat} {x1 : Int32} {x2 : Int32} {x3 : Int32} {x4 : Int32} {x5 : Int32} {x6 : Int32} {s0 : Int32} {m : CS} {σ : jS} {Φ : Option Value → CS → Prop} {K13 : Int32 → Int32 → Int32 → Int32 → Int32 → Int32 → CS → Prop} (hV : CV X m σ) (h : w_Lab_behindName_66 X x1 x2 x3 x4 x5 x6 s0 m Φ K13) (hK13 : ∀ (x1 : Int32) (x2 : Int32) (x3 : Int32) (x4 : Int32) (x5 : Int32) (x6 : Int32) (m : CS) (σ : jS), CV X m σ → K13 x1 x2 x3 x4 x5 x6 m → jW X.1 X.2.1 jcl X.2.2.1 X.2.2.2.1 (d + 4) y_Lab_behindName 13 [some (.ref (adr X 4)), some (.int x1), some (.int x2), some (.int x3), some (.int x4), some (.int x5), some (.int x6)] [] σ (cP X Φ)) : jW X.1 X.2.1 jcl X.2.2.1 X.2.2.2.1 (d + 4) y_Lab_behindName 66 [some (.ref (adr X 4)), some (.int x1), some (.int x2), some (.int x3), some (.int x4), some (.int x5), some (.int x6)] [.int s0] σ (cP X Φ) := by
  unfold w_Lab_behindName_66 at h
  refine jW.istore (dx_Lab_behindName 34 (e := (66, .istore 5, 2)) rfl) (by decide) rfl (pc' := 68) rfl ?_
  refine jW.iinc (v := _ + (1)) (dx_Lab_behindName 35 (e := (68, .iinc 4 1, 3)) rfl) rfl rfl (by decide) rfl (pc' := 71) rfl ?_
  obtain ⟨q0, v0, n0, H1, H2, H3, H4, H5⟩ := id H0
  refine jW.ldcS F (dx_Lab_behindName 36 (e := (71, .ldc 126, 2)) rfl) H1 (pc' := 73) rfl ?_
  refine jW.iload (dx_Lab_behindName 37 (e := (73, .iload 6, 2)) rfl) rfl (pc' := 75) rfl ?_
  refine jW.callVO F (e_Str_charAtX F H2 H3 h.1) (dx_Lab_behindName 38 (e := (75, .invokevirtual 137, 3)) rfl) can_Str_charAt jw_760 jw_761 H2.1 jw_762 rfl rfl (Nat.le_of_ble_eq_true rfl) (pc' := 78) rfl (fun r σ1 hr => ?_)
  obtain ⟨rfl, hσ⟩ := hr
  rw [hσ]
  clear hσ σ1
  replace h := h.2
  refine jW.bipush (v := 59) (dx_Lab_behindName 39 (e := (78, .bipush 59, 2)) rfl) (by decide) (pc' := 80) rfl ?_
  refine jW.icmp_eq (dx_Lab_behindName 40 (e := (80, .if_icmp .eq 6, 3)) rfl) 86 (by decide) (pc' := 83) rfl (fun c => ?_) (fun c => ?_)
  · replace h := h.1 c
    refine jW.iload (dx_Lab_behindName 42 (e := (86, .iload 5, 2)) rfl) rfl (pc' := 88) rfl ?_
    refine jW.if_eq (dx_Lab_behindName 43 (e := (88, .ifCond .eq 15, 3)) rfl) 103 (by decide) (pc' := 91) rfl (fun c => ?_) (fun c => ?_)
    · replace h := h.1 c
      refine jW.iinc (v := _ + (1)) (dx_Lab_behindName 51 (e := (103, .iinc 3 1, 3)) rfl) rfl rfl (by decide) rfl (pc' := 106) rfl ?_
      refine jW.iload_n (dx_Lab_behindName 52 (e := (106, .iload_n 1, 1)) rfl) rfl rfl (pc' := 107) rfl ?_
      refine jW.iconst (v := 1) (dx_Lab_behindName 53 (e := (107, .iconst 1, 1)) rfl) (by decide) (pc' := 108) rfl ?_
      refine jW.iadd (dx_Lab_behindName 54 (e := (108, .iadd, 1)) rfl) (pc' := 109) rfl ?_
      refine jW.istore (dx_Lab_behindName 55 (e := (109, .istore 4, 2)) rfl) (by decide) rfl (pc' := 111) rfl ?_
      refine jW.iconst (v := 1) (dx_Lab_behindName 56 (e := (111, .iconst 1, 1)) rfl) (by decide) (pc' := 112) rfl ?_
      refine jW.istore (dx_Lab_behindName 57 (e := (112, .istore 5, 2)) rfl) (by decide) rfl (pc' := 114) rfl ?_
      exact t_Lab_behindName_114 F H0 hV h hK13
    · replace h := h.2 c
      refine jW.aload_n (dx_Lab_behindName 44 (e := (91, .aload_n 0, 1)) rfl) rfl rfl (pc' := 92) rfl ?_
      obtain ⟨q1, v1, n1, N1, N2, N3, N4, N5⟩ := id H0
      refine jW.gets F (dx_Lab_behindName 45 (e := (92, .getstatic 133, 3)) rfl) jw_758 N4 (pc' := 95) rfl ?_
      refine jW.iload_n (dx_Lab_behindName 46 (e := (95, .iload_n 3, 1)) rfl) rfl rfl (pc' := 96) rfl ?_
      refine jW.ialdO F (dx_Lab_behindName 47 (e := (96, .iaload, 1)) rfl) N5 h.1 rfl (pc' := 97) rfl ?_
      replace h := h.2
      refine jW.cp4 (k := 9) F hV f_Lab_behindName_97 (by decide) rfl rfl rfl (pc' := 100) rfl (fun σ hV => ?_)
      replace h := h _ rfl
      refine jW.iload (dx_Lab_behindName 49 (e := (100, .iload 4, 2)) rfl) rfl (pc' := 102) rfl ?_
      exact jW.iret (dx_Lab_behindName 50 (e := (102, .ireturn, 1)) rfl) rfl ⟨_, hV, h⟩
  · replace h := h.2 c
    refine jW.goto (dx_Lab_behindName 41 (e := (83, .goto 31, 3)) rfl) 114 (by decide) ?_
    exact t_Lab_behindName_114 F H0 hV h hK13
def w_Lab_behindName_65 (X : CX) (x1 : Int32) (x2 : Int32) (x3 : Int32) (x4 : Int32) (x5 : Int32) (x6 : Int32) (m : CS) (Φ : Option Value → CS → Prop) (K13 : Int32 → Int32 → Int32 → Int32 → Int32 → Int32 → CS → Prop) : Prop := w_Lab_behindName_66 X (x1) (x2) (x3) (x4) (x5) (x6) (0) m Φ K13
theorem t_Lab_behindName_65 {X : CX} {a0 : Array Value} (F : cF X a0) (H0 : NMS X) {d : Nat} {x1 : Int32} {x2 : Int32} {x3 : Int32} {x4 : Int32} {x5 : Int32} {x6 : Int32} {m : CS} {σ : jS} {Φ : Option Value → CS → Prop} {K13 : Int32 → Int32 → Int32 → Int32 → Int32 → Int32 → CS → Prop} (hV : CV X m σ) (h : w_Lab_behindName_65 X x1 x2 x3 x4 x5 x6 m Φ K13) (hK13 : ∀ (x1 : Int32) (x2 : Int32) (x3 : Int32) (x4 : Int32) (x5 : Int32) (x6 : Int32) (m : CS) (σ : jS), CV X m σ → K13 x1 x2 x3 x4 x5 x6 m → jW X.1 X.2.1 jcl X.2.2.1 X.2.2.2.1 (d + 4) y_Lab_behindName 13 [some (.ref (adr X 4)), some (.int x1), some (.int x2), some (.int x3), some (.int x4), some (.int x5), some (.int x6)] [] σ (cP X Φ)) : jW X.1 X.2.1 jcl X.2.2.1 X.2.2.2.1 (d + 4) y_Lab_behindName 65 [some (.ref (adr X 4)), some (.int x1), some (.int x2), some (.int x3), some (.int x4), some (.int x5), some (.int x6)] [] σ (cP X Φ) := by
  unfold w_Lab_behindName_65 at h
  refine jW.iconst (v := 0) (dx_Lab_behindName 33 (e := (65, .iconst 0, 1)) rfl) (by decide) (pc' := 66) rfl ?_
  exact t_Lab_behindName_66 F H0 hV h hK13
def w_Lab_behindName_13 (X : CX) (x1 : Int32) (x2 : Int32) (x3 : Int32) (x4 : Int32) (x5 : Int32) (x6 : Int32) (m : CS) (Φ : Option Value → CS → Prop) (K13 : Int32 → Int32 → Int32 → Int32 → Int32 → Int32 → CS → Prop) : Prop := ((nI 25 ≤ x6 → w_Lab_behindName_120 X (x1) (x2) (x3) (x4) (x5) (x6) m Φ) ∧ (¬ nI 25 ≤ x6 → ((nI 6 ≤ x3 → w_Lab_behindName_120 X (x1) (x2) (x3) (x4) (x5) (x6) m Φ) ∧ (¬ nI 6 ≤ x3 → ((x5 = 0 → w_Lab_behindName_65 X (x1) (x2) (x3) (x4) (x5) (x6) m Φ K13) ∧ (¬ x5 = 0 → ((x2 ≤ x4 → w_Lab_behindName_65 X (x1) (x2) (x3) (x4) (x5) (x6) m Φ K13) ∧ (¬ x2 ≤ x4 → cE X 0 y_Row_at [.ref (adr X 10), .int (x4)] m (ciP fun r1 m1 => (vp_in (x6) 25 ∧ ((r1 = nmF (x6 : Int32).toNatClampNeg → w_Lab_behindName_66 X (x1) (x2) (x3) (x4) (x5) (x6) (1) m1 Φ K13) ∧ (¬ r1 = nmF (x6 : Int32).toNatClampNeg → w_Lab_behindName_65 X (x1) (x2) (x3) (x4) (x5) (x6) m1 Φ K13))))))))))))
theorem t_Lab_behindName_13 {X : CX} {a0 : Array Value} (F : cF X a0) (H0 : NMS X) {d : Nat} {x1 : Int32} {x2 : Int32} {x3 : Int32} {x4 : Int32} {x5 : Int32} {x6 : Int32} {m : CS} {σ : jS} {Φ : Option Value → CS → Prop} {K13 : Int32 → Int32 → Int32 → Int32 → Int32 → Int32 → CS → Prop} (hV : CV X m σ) (h : w_Lab_behindName_13 X x1 x2 x3 x4 x5 x6 m Φ K13) (hK13 : ∀ (x1 : Int32) (x2 : Int32) (x3 : Int32) (x4 : Int32) (x5 : Int32) (x6 : Int32) (m : CS) (σ : jS), CV X m σ → K13 x1 x2 x3 x4 x5 x6 m → jW X.1 X.2.1 jcl X.2.2.1 X.2.2.2.1 (d + 4) y_Lab_behindName 13 [some (.ref (adr X 4)), some (.int x1), some (.int x2), some (.int x3), some (.int x4), some (.int x5), some (.int x6)] [] σ (cP X Φ)) : jW X.1 X.2.1 jcl X.2.2.1 X.2.2.2.1 (d + 4) y_Lab_behindName 13 [some (.ref (adr X 4)), some (.int x1), some (.int x2), some (.int x3), some (.int x4), some (.int x5), some (.int x6)] [] σ (cP X Φ) := by
  unfold w_Lab_behindName_13 at h
  refine jW.iload (dx_Lab_behindName 10 (e := (13, .iload 6, 2)) rfl) rfl (pc' := 15) rfl ?_
  obtain ⟨q0, v0, n0, H1, H2, H3, H4, H5⟩ := id H0
  refine jW.ldcS F (dx_Lab_behindName 11 (e := (15, .ldc 126, 2)) rfl) H1 (pc' := 17) rfl ?_
  refine jW.callVO F (e_Str_length F H2 H3) (dx_Lab_behindName 12 (e := (17, .invokevirtual 128, 3)) rfl) can_Str_length jw_748 jw_749 H2.1 jw_750 rfl rfl (Nat.le_of_ble_eq_true rfl) (pc' := 20) rfl (fun r σ1 hr => ?_)
  obtain ⟨rfl, hσ⟩ := hr
  rw [hσ]
  clear hσ σ1
  refine jW.icmp_ge (dx_Lab_behindName 13 (e := (20, .if_icmp .ge 100, 3)) rfl) 120 (by decide) (pc' := 23) rfl (fun c => ?_) (fun c => ?_)
  · replace h := h.1 c
    exact t_Lab_behindName_120 F H0 hV h
  · replace h := h.2 c
    refine jW.iload_n (dx_Lab_behindName 14 (e := (23, .iload_n 3, 1)) rfl) rfl rfl (pc' := 24) rfl ?_
    obtain ⟨q1, v1, n1, N1, N2, N3, N4, N5⟩ := id H0
    refine jW.gets F (dx_Lab_behindName 15 (e := (24, .getstatic 133, 3)) rfl) jw_758 N4 (pc' := 27) rfl ?_
    refine jW.alenO F (dx_Lab_behindName 16 (e := (27, .arraylength, 1)) rfl) N5 rfl (pc' := 28) rfl ?_
    refine jW.icmp_ge (dx_Lab_behindName 17 (e := (28, .if_icmp .ge 92, 3)) rfl) 120 (by decide) (pc' := 31) rfl (fun c => ?_) (fun c => ?_)
    · replace h := h.1 c
      exact t_Lab_behindName_120 F H0 hV h
    · replace h := h.2 c
      refine jW.iload (dx_Lab_behindName 18 (e := (31, .iload 5, 2)) rfl) rfl (pc' := 33) rfl ?_
      refine jW.if_eq (dx_Lab_behindName 19 (e := (33, .ifCond .eq 32, 3)) rfl) 65 (by decide) (pc' := 36) rfl (fun c => ?_) (fun c => ?_)
      · replace h := h.1 c
        exact t_Lab_behindName_65 F H0 hV h hK13
      · replace h := h.2 c
        refine jW.iload (dx_Lab_behindName 20 (e := (36, .iload 4, 2)) rfl) rfl (pc' := 38) rfl ?_
        refine jW.iload_n (dx_Lab_behindName 21 (e := (38, .iload_n 2, 1)) rfl) rfl rfl (pc' := 39) rfl ?_
        refine jW.icmp_ge (dx_Lab_behindName 22 (e := (39, .if_icmp .ge 26, 3)) rfl) 65 (by decide) (pc' := 42) rfl (fun c => ?_) (fun c => ?_)
        · replace h := h.1 c
          exact t_Lab_behindName_65 F H0 hV h hK13
        · replace h := h.2 c
          refine jW.aload_n (dx_Lab_behindName 23 (e := (42, .aload_n 0, 1)) rfl) rfl rfl (pc' := 43) rfl ?_
          refine jW.cg (κ := 4) (k := 0) F hV.s4 f_Lab_behindName_43 (by decide) rfl (pc' := 46) rfl ?_
          refine jW.iload (dx_Lab_behindName 25 (e := (46, .iload 4, 2)) rfl) rfl (pc' := 48) rfl ?_
          refine jW.callVe F (h (d + 3) _ hV) (dx_Lab_behindName 26 (e := (48, .invokevirtual 43, 3)) rfl) can_Row_at jw_464 jw_439 (hV.clr (κ := 10) (by unfold isR; decide)) rfl jw_440 rfl rfl (Nat.le_of_ble_eq_true rfl) (pc' := 51) rfl (fun r σ hr => ?_)
          clear hV
          obtain ⟨_, hV, _, rfl, h⟩ := hr
          obtain ⟨q0, v0, n0, H1, H2, H3, H4, H5⟩ := id H0
          refine jW.ldcS F (dx_Lab_behindName 27 (e := (51, .ldc 126, 2)) rfl) H1 (pc' := 53) rfl ?_
          refine jW.iload (dx_Lab_behindName 28 (e := (53, .iload 6, 2)) rfl) rfl (pc' := 55) rfl ?_
          refine jW.callVO F (e_Str_charAtX F H2 H3 h.1) (dx_Lab_behindName 29 (e := (55, .invokevirtual 137, 3)) rfl) can_Str_charAt jw_760 jw_761 H2.1 jw_762 rfl rfl (Nat.le_of_ble_eq_true rfl) (pc' := 58) rfl (fun r σ1 hr => ?_)
          obtain ⟨rfl, hσ⟩ := hr
          rw [hσ]
          clear hσ σ1
          replace h := h.2
          refine jW.icmp_ne (dx_Lab_behindName 30 (e := (58, .if_icmp .ne 7, 3)) rfl) 65 (by decide) (pc' := 61) rfl (fun c => ?_) (fun c => ?_)
          · replace h := h.2 c
            exact t_Lab_behindName_65 F H0 hV h hK13
          · replace h := h.1 c
            refine jW.iconst (v := 1) (dx_Lab_behindName 31 (e := (61, .iconst 1, 1)) rfl) (by decide) (pc' := 62) rfl ?_
            refine jW.goto (dx_Lab_behindName 32 (e := (62, .goto 4, 3)) rfl) 66 (by decide) ?_
            exact t_Lab_behindName_66 F H0 hV h hK13
def w_Lab_behindName_0 (X : CX) (x1 : Int32) (x2 : Int32) (m : CS) (Φ : Option Value → CS → Prop) (K13 : Int32 → Int32 → Int32 → Int32 → Int32 → Int32 → CS → Prop) : Prop := K13 (x1) (x2) (0) (x1 + 1) (1) (0) m
theorem t_Lab_behindName_0 {X : CX} {a0 : Array Value} (F : cF X a0) (H0 : NMS X) {d : Nat} {x1 : Int32} {x2 : Int32} {o3 o4 o5 o6 : Option Value} {m : CS} {σ : jS} {Φ : Option Value → CS → Prop} {K13 : Int32 → Int32 → Int32 → Int32 → Int32 → Int32 → CS → Prop} (hV : CV X m σ) (h : w_Lab_behindName_0 X x1 x2 m Φ K13) (hK13 : ∀ (x1 : Int32) (x2 : Int32) (x3 : Int32) (x4 : Int32) (x5 : Int32) (x6 : Int32) (m : CS) (σ : jS), CV X m σ → K13 x1 x2 x3 x4 x5 x6 m → jW X.1 X.2.1 jcl X.2.2.1 X.2.2.2.1 (d + 4) y_Lab_behindName 13 [some (.ref (adr X 4)), some (.int x1), some (.int x2), some (.int x3), some (.int x4), some (.int x5), some (.int x6)] [] σ (cP X Φ)) : jW X.1 X.2.1 jcl X.2.2.1 X.2.2.2.1 (d + 4) y_Lab_behindName 0 [some (.ref (adr X 4)), some (.int x1), some (.int x2), o3, o4, o5, o6] [] σ (cP X Φ) := by
  unfold w_Lab_behindName_0 at h
  refine jW.iconst (v := 0) (dx_Lab_behindName 0 (e := (0, .iconst 0, 1)) rfl) (by decide) (pc' := 1) rfl ?_
  refine jW.istore_n (dx_Lab_behindName 1 (e := (1, .istore_n 3, 1)) rfl) rfl (by decide) rfl (pc' := 2) rfl ?_
  refine jW.iload_n (dx_Lab_behindName 2 (e := (2, .iload_n 1, 1)) rfl) rfl rfl (pc' := 3) rfl ?_
  refine jW.iconst (v := 1) (dx_Lab_behindName 3 (e := (3, .iconst 1, 1)) rfl) (by decide) (pc' := 4) rfl ?_
  refine jW.iadd (dx_Lab_behindName 4 (e := (4, .iadd, 1)) rfl) (pc' := 5) rfl ?_
  refine jW.istore (dx_Lab_behindName 5 (e := (5, .istore 4, 2)) rfl) (by decide) rfl (pc' := 7) rfl ?_
  refine jW.iconst (v := 1) (dx_Lab_behindName 6 (e := (7, .iconst 1, 1)) rfl) (by decide) (pc' := 8) rfl ?_
  refine jW.istore (dx_Lab_behindName 7 (e := (8, .istore 5, 2)) rfl) (by decide) rfl (pc' := 10) rfl ?_
  refine jW.iconst (v := 0) (dx_Lab_behindName 8 (e := (10, .iconst 0, 1)) rfl) (by decide) (pc' := 11) rfl ?_
  refine jW.istore (dx_Lab_behindName 9 (e := (11, .istore 6, 2)) rfl) (by decide) rfl (pc' := 13) rfl ?_
  exact hK13 _ _ _ _ _ _ _ _ hV h
theorem g_Lab_behindName {X : CX} {a0 : Array Value} (F : cF X a0) (H0 : NMS X) {x1 : Int32} {x2 : Int32} {m : CS} {Φ : Option Value → CS → Prop} {I13 : Nat → Int32 → Int32 → Int32 → Int32 → Int32 → Int32 → CS → Prop} (he : w_Lab_behindName_0 X x1 x2 m Φ (fun x1 x2 x3 x4 x5 x6 m => ∃ j, I13 j x1 x2 x3 x4 x5 x6 m)) (h13 : ∀ (n : Nat) (x1 : Int32) (x2 : Int32) (x3 : Int32) (x4 : Int32) (x5 : Int32) (x6 : Int32) (m : CS), I13 n x1 x2 x3 x4 x5 x6 m → w_Lab_behindName_13 X x1 x2 x3 x4 x5 x6 m Φ (fun x1 x2 x3 x4 x5 x6 m => ∃ j, j < n ∧ I13 j x1 x2 x3 x4 x5 x6 m)) : cE X 4 y_Lab_behindName [.ref (adr X 4), .int x1, .int x2] m Φ := by
  intro d σ hV
  have hL13 : ∀ n, (∀ (x1 : Int32) (x2 : Int32) (x3 : Int32) (x4 : Int32) (x5 : Int32) (x6 : Int32) (m : CS) (σ : jS), CV X m σ → I13 n x1 x2 x3 x4 x5 x6 m → jW X.1 X.2.1 jcl X.2.2.1 X.2.2.2.1 (d + 4) y_Lab_behindName 13 [some (.ref (adr X 4)), some (.int x1), some (.int x2), some (.int x3), some (.int x4), some (.int x5), some (.int x6)] [] σ (cP X Φ)) := by
    intro n
    induction n using Nat.strongRecOn with
    | _ n ih =>
      exact fun x1 x2 x3 x4 x5 x6 m σ hV hI => t_Lab_behindName_13 F H0 hV (h13 n x1 x2 x3 x4 x5 x6 m hI) (fun x1 x2 x3 x4 x5 x6 m σ hV ⟨j, hj, hI⟩ => (ih j hj) x1 x2 x3 x4 x5 x6 m σ hV hI)
  refine jE.of (by decide) (by simp [Value.category]) (Nat.le_of_ble_eq_true rfl) rfl ?_
  exact t_Lab_behindName_0 F H0 hV he (fun x1 x2 x3 x4 x5 x6 m σ hV ⟨j, hI⟩ => (hL13 j) x1 x2 x3 x4 x5 x6 m σ hV hI)

theorem nmK_s : ∀ p : Fin 25, (nmL.getD p.val 0 = 59 → nmK (p.val + 1) = nmK p.val + 1) ∧ (nmL.getD p.val 0 ≠ 59 → nmK (p.val + 1) = nmK p.val) ∧ nmK p.val < 6 ∧ (nmF p.val = 59 ↔ nmL.getD p.val 0 = 59) := by decide +kernel
def BmI (c : CS) (T : List Int32) (i t n : Nat) (x1 x2 x3 x4 x5 x6 : Int32) (c' : CS) : Prop := c' = c ∧ x1 = nI i ∧ x2 = nI t ∧ ∃ (p jj : Nat) (b : Bool), n + p = 25 ∧ jj ≤ p ∧ x3 = nI (nmK p) ∧ x4 = nI (i + 1 + jj) ∧ x5 = bI (b = true) ∧ x6 = nI p ∧ bnL T i t n p (nmK p) jj b = nameR T i t
theorem BN_ok {X : CX} {a0 : Array Value} (F : cF X a0) (H0 : NMS X) : BNok X := by
  intro c T i t N hT hl hit ht hn hs
  refine g_Lab_behindName (I13 := fun n x1 x2 x3 x4 x5 x6 c' => BmI c T i t n x1 x2 x3 x4 x5 x6 c') F H0 ?_ ?_
  · unfold w_Lab_behindName_0
    exact ⟨25, rfl, rfl, rfl, 0, 0, true, rfl, Nat.le_refl _, rfl, nI_1 i, rfl, rfl, bnL_eq⟩
  · rintro n x1 x2 x3 x4 x5 x6 c' ⟨rfl, rfl, rfl, p, jj, b, hp, hj, rfl, rfl, rfl, rfl, e⟩
    have h25 : nI 25 ≤ nI p ↔ 25 ≤ p := nI_leI (by decide) (by omega)
    unfold w_Lab_behindName_13 w_Lab_behindName_120
    cases n with
    | zero =>
      refine ⟨fun _ => ciP.i (hn ?_) rfl, fun z => absurd (h25.mpr (by omega)) z⟩
      rw [← e]; rfl
    | succ n =>
      obtain ⟨k1, k2, k3, k4⟩ := nmK_s ⟨p, by omega⟩
      dsimp only at k1 k2 k3 k4
      have hcl : (nI p).toNatClampNeg = p := nI_clamp (by omega)
      have hin : vp_in (nI p) 25 := (vp_nI (by omega)).mpr (by omega)
      have h66 : ∀ s0 : Int32, s0 = bI (bnB T i t jj p b = true) → w_Lab_behindName_66 X (nI i) (nI t) (nI (nmK p)) (nI (i + 1 + jj)) (bI (b = true)) (nI p) s0 c' (ciP N) (fun x1 x2 x3 x4 x5 x6 m => ∃ j, j < n + 1 ∧ BmI c' T i t j x1 x2 x3 x4 x5 x6 m) := by
        intro s0 hs0
        unfold w_Lab_behindName_66 w_Lab_behindName_114
        rw [hcl]
        refine ⟨hin, fun q => ⟨fun z => ?_, fun z => ⟨(vp_nI (by omega)).mpr k3, ?_⟩⟩, fun q => ?_⟩
        · rw [hs0] at z
          have h59 := k4.mp q
          refine ⟨n, by omega, rfl, rfl, rfl, p + 1, 0, true, by omega, by omega, ?_, nI_1 i, rfl, nI_1 p, ?_⟩
          · rw [k1 h59]; exact nI_1 _
          · rw [← e, bnL_e h59, if_neg (bI_0 z), k1 h59]
        · rintro m1 rfl
          rw [hs0] at z
          have h59 := k4.mp q
          rw [bnL_e h59, if_pos (bI_n0 z)] at e
          rw [nI_clamp (by omega)]
          exact ciP.i (hs _ _ e.symm) (nI_1 _)
        · have h59 : nmL.getD p 0 ≠ 59 := fun z => q (k4.mpr z)
          refine ⟨n, by omega, rfl, rfl, rfl, p + 1, jj + 1, _, by omega, by omega, ?_, nI_1 _, hs0, nI_1 p, ?_⟩
          · rw [k2 h59]
          · rw [← e, bnL_n h59, k2 h59]
      have h65 : bnB T i t jj p b = false → w_Lab_behindName_65 X (nI i) (nI t) (nI (nmK p)) (nI (i + 1 + jj)) (bI (b = true)) (nI p) c' (ciP N) (fun x1 x2 x3 x4 x5 x6 m => ∃ j, j < n + 1 ∧ BmI c' T i t j x1 x2 x3 x4 x5 x6 m) := fun z => h66 0 (by rw [bI_f (by rw [z]; decide)])
      refine ⟨fun z => absurd (h25.mp z) (by omega), fun _ => ⟨fun z => absurd ((nI_leI (by decide) (by omega)).mp z) (by omega), fun _ => ⟨fun z => h65 ?_, fun z => ⟨fun z2 => h65 ?_, fun z2 => q_Row_at F isR10 ?_⟩⟩⟩⟩
      · have := bI_0 z
        show (b && _) = false
        rw [Bool.not_eq_true] at this
        rw [this]; rfl
      · rw [nI_leI (by omega) (by omega)] at z2
        show (b && decide _) = false
        rw [decide_eq_false (fun q => by omega), Bool.and_false]
      · rw [nI_leI (by omega) (by omega)] at z2
        rw [hT, hcl]
        refine ⟨hin, fun z3 => h66 1 ?_, fun z3 => h65 ?_⟩
        · refine (bI_t ?_).symm
          show (b && decide _) = true
          rw [bI_n0 z, decide_eq_true ⟨by omega, z3⟩]; rfl
        · show (b && decide _) = false
          rw [decide_eq_false (fun q => z3 q.2), Bool.and_false]
