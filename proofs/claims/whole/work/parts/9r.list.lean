abbrev c_AL_add : ByteArray := prog_24_method_25_code
abbrev y_AL_add : jM := (⟨"java/util/ArrayList", "add", "(Ljava/lang/Object;)Z"⟩, c_AL_add, 2, (some .boolean))
def k_AL_add : List (Nat × Instr × Nat) := [(0, .aload_n 0, 1), (1, .dup, 1), (2, .getfield 63, 3), (5, .iconst 1, 1), (6, .iadd, 1), (7, .putfield 63, 3), (10, .aload_n 0, 1), (11, .aload_n 1, 1), (12, .aload_n 0, 1), (13, .getfield 9, 3), (16, .aload_n 0, 1), (17, .getfield 48, 3), (20, .invokevirtual 131, 3), (23, .iconst 1, 1), (24, .ireturn, 1)]
theorem dk_AL_add : ∀ e ∈ k_AL_add, decode c_AL_add e.1 = .ok e.2 := by decide +kernel
abbrev c_AL_add2 : ByteArray := prog_24_method_24_code
abbrev y_AL_add2 : jM := (⟨"java/util/ArrayList", "add", "(Ljava/lang/Object;[Ljava/lang/Object;I)V"⟩, c_AL_add2, 4, none)
def k_AL_add2 : List (Nat × Instr × Nat) := [(0, .iload_n 3, 1), (1, .aload_n 2, 1), (2, .arraylength, 1), (3, .if_icmp .ne 8, 3), (6, .aload_n 0, 1), (7, .invokevirtual 129, 3), (10, .astore_n 2, 1), (11, .aload_n 2, 1), (12, .iload_n 3, 1), (13, .aload_n 1, 1), (14, .aastore, 1), (15, .aload_n 0, 1), (16, .iload_n 3, 1), (17, .iconst 1, 1), (18, .iadd, 1), (19, .putfield 48, 3), (22, .return_, 1)]
theorem dk_AL_add2 : ∀ e ∈ k_AL_add2, decode c_AL_add2 e.1 = .ok e.2 := by decide +kernel
abbrev c_AL_grow : ByteArray := prog_24_method_7_code
abbrev y_AL_grow : jM := (⟨"java/util/ArrayList", "grow", "()[Ljava/lang/Object;"⟩, c_AL_grow, 1, (some (.array (.object "java/lang/Object"))))
def k_AL_grow : List (Nat × Instr × Nat) := [(0, .aload_n 0, 1), (1, .aload_n 0, 1), (2, .getfield 48, 3), (5, .iconst 1, 1), (6, .iadd, 1), (7, .invokevirtual 69, 3), (10, .areturn, 1)]
theorem dk_AL_grow : ∀ e ∈ k_AL_grow, decode c_AL_grow e.1 = .ok e.2 := by decide +kernel
abbrev c_AL_grow2 : ByteArray := prog_24_method_6_code
abbrev y_AL_grow2 : jM := (⟨"java/util/ArrayList", "grow", "(I)[Ljava/lang/Object;"⟩, c_AL_grow2, 4, (some (.array (.object "java/lang/Object"))))
def k_AL_grow2 : List (Nat × Instr × Nat) := [(0, .aload_n 0, 1), (1, .getfield 9, 3), (4, .arraylength, 1), (5, .istore_n 2, 1), (6, .iload_n 2, 1), (7, .ifCond .gt 13, 3), (10, .aload_n 0, 1), (11, .getfield 9, 3), (14, .getstatic 39, 3), (17, .if_acmp .eq 28, 3), (20, .iload_n 2, 1), (21, .iload_n 1, 1), (22, .iload_n 2, 1), (23, .isub, 1), (24, .iload_n 2, 1), (25, .iconst 1, 1), (26, .ishr, 1), (27, .invokestatic 73, 3), (30, .istore_n 3, 1), (31, .aload_n 0, 1), (32, .aload_n 0, 1), (33, .getfield 9, 3), (36, .iload_n 3, 1), (37, .invokestatic 66, 3), (40, .dup_x1, 1), (41, .putfield 9, 3), (44, .areturn, 1), (45, .aload_n 0, 1), (46, .bipush 10, 2), (48, .iload_n 1, 1), (49, .invokestatic 79, 3), (52, .anewarray 7, 3), (55, .dup_x1, 1), (56, .putfield 9, 3), (59, .areturn, 1)]
theorem dk_AL_grow2 : ∀ e ∈ k_AL_grow2, decode c_AL_grow2 e.1 = .ok e.2 := by decide +kernel
abbrev c_ASup_newLength : ByteArray := prog_31_method_27_code
abbrev y_ASup_newLength : jM := (⟨"jdk/internal/util/ArraysSupport", "newLength", "(III)I"⟩, c_ASup_newLength, 4, (some .int))
def k_ASup_newLength : List (Nat × Instr × Nat) := [(0, .iload_n 0, 1), (1, .iload_n 1, 1), (2, .iload_n 2, 1), (3, .invokestatic 194, 3), (6, .iadd, 1), (7, .istore_n 3, 1), (8, .iconst 0, 1), (9, .iload_n 3, 1), (10, .if_icmp .ge 11, 3), (13, .iload_n 3, 1), (14, .ldc 200, 2), (16, .if_icmp .gt 5, 3), (19, .iload_n 3, 1), (20, .ireturn, 1), (21, .iload_n 0, 1), (22, .iload_n 1, 1), (23, .invokestatic 201, 3), (26, .ireturn, 1)]
theorem dk_ASup_newLength : ∀ e ∈ k_ASup_newLength, decode c_ASup_newLength e.1 = .ok e.2 := by decide +kernel
abbrev c_Arrs_copyOf : ByteArray := prog_25_method_119_code
abbrev y_Arrs_copyOf : jM := (⟨"java/util/Arrays", "copyOf", "([Ljava/lang/Object;I)[Ljava/lang/Object;"⟩, c_Arrs_copyOf, 2, (some (.array (.object "java/lang/Object"))))
def k_Arrs_copyOf : List (Nat × Instr × Nat) := [(0, .aload_n 0, 1), (1, .iload_n 1, 1), (2, .aload_n 0, 1), (3, .invokevirtual 86, 3), (6, .invokestatic 300, 3), (9, .areturn, 1)]
theorem dk_Arrs_copyOf : ∀ e ∈ k_Arrs_copyOf, decode c_Arrs_copyOf e.1 = .ok e.2 := by decide +kernel
abbrev c_Arrs_copyOf2 : ByteArray := prog_25_method_120_code
abbrev y_Arrs_copyOf2 : jM := (⟨"java/util/Arrays", "copyOf", "([Ljava/lang/Object;ILjava/lang/Class;)[Ljava/lang/Object;"⟩, c_Arrs_copyOf2, 4, (some (.array (.object "java/lang/Object"))))
def k_Arrs_copyOf2 : List (Nat × Instr × Nat) := [(0, .aload_n 2, 1), (1, .ldc 110, 2), (3, .if_acmp .ne 10, 3), (6, .iload_n 1, 1), (7, .anewarray 2, 3), (10, .goto 14, 3), (13, .aload_n 2, 1), (14, .invokevirtual 90, 3), (17, .iload_n 1, 1), (18, .invokestatic 95, 3), (21, .checkcast 110, 3), (24, .astore_n 3, 1), (25, .aload_n 0, 1), (26, .iconst 0, 1), (27, .aload_n 3, 1), (28, .iconst 0, 1), (29, .aload_n 0, 1), (30, .arraylength, 1), (31, .iload_n 1, 1), (32, .invokestatic 304, 3), (35, .invokestatic 150, 3), (38, .aload_n 3, 1), (39, .areturn, 1)]
theorem dk_Arrs_copyOf2 : ∀ e ∈ k_Arrs_copyOf2, decode c_Arrs_copyOf2 e.1 = .ok e.2 := by decide +kernel
theorem dx_AL_add (i : Nat) {e : Nat × Instr × Nat} (h : k_AL_add[i]? = some e) : decode y_AL_add.2.1 e.1 = .ok e.2 := dk_AL_add e (List.mem_of_getElem? h)
theorem f_AL_add_2 : jFld jcl lw_tbl y_AL_add 2 7 2 .getfield := ⟨63, "java/util/ArrayList", jQ_AL, dx_AL_add 2 (e := (2, .getfield 63, 3)) rfl, rfl, by decide, Or.inl jw_70, Or.inr jw_71⟩
theorem f_AL_add_7 : jFld jcl lw_tbl y_AL_add 7 7 2 .putfield := ⟨63, "java/util/ArrayList", jQ_AL, dx_AL_add 5 (e := (7, .putfield 63, 3)) rfl, rfl, by decide, Or.inl jw_70, Or.inr jw_71⟩
theorem f_AL_add_13 : jFld jcl lw_tbl y_AL_add 13 7 0 .getfield := ⟨9, "java/util/ArrayList", jQ_AL, dx_AL_add 9 (e := (13, .getfield 9, 3)) rfl, rfl, by decide, Or.inl jw_67, Or.inl rfl⟩
theorem f_AL_add_17 : jFld jcl lw_tbl y_AL_add 17 7 1 .getfield := ⟨48, "java/util/ArrayList", jQ_AL, dx_AL_add 11 (e := (17, .getfield 48, 3)) rfl, rfl, by decide, Or.inl jw_68, Or.inl rfl⟩
theorem can_AL_add : jCan lw_tbl y_AL_add 1 := ⟨jw_154, jw_6, by decide +kernel, by decide +kernel, by decide⟩
theorem dx_AL_add2 (i : Nat) {e : Nat × Instr × Nat} (h : k_AL_add2[i]? = some e) : decode y_AL_add2.2.1 e.1 = .ok e.2 := dk_AL_add2 e (List.mem_of_getElem? h)
theorem f_AL_add2_19 : jFld jcl lw_tbl y_AL_add2 19 7 1 .putfield := ⟨48, "java/util/ArrayList", jQ_AL, dx_AL_add2 15 (e := (19, .putfield 48, 3)) rfl, rfl, by decide, Or.inl jw_68, Or.inl rfl⟩
theorem can_AL_add2 : jCan lw_tbl y_AL_add2 3 := ⟨jw_158, jw_6, by decide +kernel, by decide +kernel, by decide⟩
theorem dx_AL_grow (i : Nat) {e : Nat × Instr × Nat} (h : k_AL_grow[i]? = some e) : decode y_AL_grow.2.1 e.1 = .ok e.2 := dk_AL_grow e (List.mem_of_getElem? h)
theorem f_AL_grow_2 : jFld jcl lw_tbl y_AL_grow 2 7 1 .getfield := ⟨48, "java/util/ArrayList", jQ_AL, dx_AL_grow 2 (e := (2, .getfield 48, 3)) rfl, rfl, by decide, Or.inl jw_68, Or.inl rfl⟩
theorem can_AL_grow : jCan lw_tbl y_AL_grow 0 := ⟨jw_162, jw_6, by decide +kernel, by decide +kernel, by decide⟩
theorem dx_AL_grow2 (i : Nat) {e : Nat × Instr × Nat} (h : k_AL_grow2[i]? = some e) : decode y_AL_grow2.2.1 e.1 = .ok e.2 := dk_AL_grow2 e (List.mem_of_getElem? h)
theorem f_AL_grow2_1 : jFld jcl lw_tbl y_AL_grow2 1 7 0 .getfield := ⟨9, "java/util/ArrayList", jQ_AL, dx_AL_grow2 1 (e := (1, .getfield 9, 3)) rfl, rfl, by decide, Or.inl jw_67, Or.inl rfl⟩
theorem f_AL_grow2_11 : jFld jcl lw_tbl y_AL_grow2 11 7 0 .getfield := ⟨9, "java/util/ArrayList", jQ_AL, dx_AL_grow2 7 (e := (11, .getfield 9, 3)) rfl, rfl, by decide, Or.inl jw_67, Or.inl rfl⟩
theorem f_AL_grow2_33 : jFld jcl lw_tbl y_AL_grow2 33 7 0 .getfield := ⟨9, "java/util/ArrayList", jQ_AL, dx_AL_grow2 21 (e := (33, .getfield 9, 3)) rfl, rfl, by decide, Or.inl jw_67, Or.inl rfl⟩
theorem f_AL_grow2_41 : jFld jcl lw_tbl y_AL_grow2 41 7 0 .putfield := ⟨9, "java/util/ArrayList", jQ_AL, dx_AL_grow2 25 (e := (41, .putfield 9, 3)) rfl, rfl, by decide, Or.inl jw_67, Or.inl rfl⟩
theorem f_AL_grow2_56 : jFld jcl lw_tbl y_AL_grow2 56 7 0 .putfield := ⟨9, "java/util/ArrayList", jQ_AL, dx_AL_grow2 33 (e := (56, .putfield 9, 3)) rfl, rfl, by decide, Or.inl jw_67, Or.inl rfl⟩
theorem can_AL_grow2 : jCan lw_tbl y_AL_grow2 1 := ⟨jw_166, jw_6, by decide +kernel, by decide +kernel, by decide⟩
theorem dx_ASup_newLength (i : Nat) {e : Nat × Instr × Nat} (h : k_ASup_newLength[i]? = some e) : decode y_ASup_newLength.2.1 e.1 = .ok e.2 := dk_ASup_newLength e (List.mem_of_getElem? h)
theorem can_ASup_newLength : jCan lw_tbl y_ASup_newLength 3 := ⟨jw_169, jw_8, by decide +kernel, by decide +kernel, by decide⟩
theorem dx_Arrs_copyOf (i : Nat) {e : Nat × Instr × Nat} (h : k_Arrs_copyOf[i]? = some e) : decode y_Arrs_copyOf.2.1 e.1 = .ok e.2 := dk_Arrs_copyOf e (List.mem_of_getElem? h)
theorem can_Arrs_copyOf : jCan lw_tbl y_Arrs_copyOf 2 := ⟨jw_179, jw_10, by decide +kernel, by decide +kernel, by decide⟩
theorem dx_Arrs_copyOf2 (i : Nat) {e : Nat × Instr × Nat} (h : k_Arrs_copyOf2[i]? = some e) : decode y_Arrs_copyOf2.2.1 e.1 = .ok e.2 := dk_Arrs_copyOf2 e (List.mem_of_getElem? h)
theorem can_Arrs_copyOf2 : jCan lw_tbl y_Arrs_copyOf2 3 := ⟨jw_196, jw_10, by decide +kernel, by decide +kernel, by decide⟩
section ANEW
variable {l : Launch} {s0 : State} {cl : List vw_C} {D : va_G} {cA : Nat → ClassId} {d : Nat} {y : jM} {pc : Nat} {L : jL} {st : List Value} {σ : jS} {Φ : Option Value → jS → Prop} {tb : List Cond} {a0 : Array Value} {ty : Nat → FieldType}
/-- a new array of references -/
theorem jW.anewO (F : jOK s0 cl D cA tb a0 ty) {t index : Nat} {C : String} (hd : decode y.2.1 pc = .ok (.anewarray index, 3)) (h1000 : 1000 ≤ t) (hty : ty t = .object C) (h1 : Cond.classLink y.1.cls index C ∈ tb) (h2 : Cond.arrayOver (.object C) ∈ tb) {i : Int32} {N : Nat} (hi : ¬ i < 0) (hN : i.toNatClampNeg = N) (hb8 : N * 4 ≤ 536870912) {a : Nat} (ha : σ.2.1 = a) {σ1 : jS} (hσ : jnew σ (t, N, fun _ => .null) N = σ1) {pc' : Nat} (hp : pc + 3 = pc') (hB : s0.heap.size ≤ σ.2.1) (kk : jW l s0 cl D cA d y pc' L (.ref a :: st) σ1 Φ) : jW l s0 cl D cA d y pc L (.int i :: st) σ Φ := by
  subst hp; subst hσ; subst ha; subst hN
  refine jW.al kk fun p e R s m args below meth c H locs ls cells slots Q r1 r2 hX hH hL w1 => ?_
  have hW := hX.2.2.2.2.2.2.1
  have hRA := (F.2.2 t h1000).2.moved hW.alike
  rw [hty] at hRA
  obtain ⟨kA', comp', k1, k2, k3, k4⟩ := hRA
  refine W.anew hX.1.1 hX.1.2 hX.2.2.2.1 (F.word hW h1 (Or.inl (by first | rfl | simp [Cond.onTables, Cond.keeps, Cond.steady])) args) ((va_AO.moved hW.alike (va_AO.of (F.1 _ h2))).use) rfl hd rfl hi hb8 r1 r2 fun cA1 kA comp e1 e2 e3 e4 => ?_
  cases k4.symm.trans e1
  have hs := hH.1.1
  rw [hs]
  refine w1 _ locs ⟨hH.1.new (Or.inr ⟨h1000, ?_⟩) (by simp [hs]) (fun q hq => by rw [Array.getElem?_push, if_neg (by omega)]), fun x hx => ?_, hH.2.2⟩
  · rw [← arrV_new, ← hs]; simp
  · rw [Array.getElem?_push, if_neg (by omega)]; exact hH.2.1 x hx
end ANEW
section ALADD
variable {l : Launch} {s0 : State} {D : va_G} {cA : Nat → ClassId} {a0 : Array Value} {d : Nat} {σ : jS} {al ed cp N : Nat}
theorem e_Arrs_copyOf2 (F : jOK s0 jcl D cA lw_tbl a0 jty) {a m mi : Nat} {w : Nat → Value} (hM : va_Mi "[Ljava/lang/Object;" mi s0) (hI : jI s0.heap.size σ) (ha : σ.1 a = some (1004, cp, w)) (hel : ∀ i, i < cp → w i = .null ∨ ∃ (z n : Nat) (u : Nat → Value), w i = .ref z ∧ σ.1 z = some (3, n, u)) (hm : cp ≤ m) (hm2 : m ≤ 30000) : jE l s0 jcl D cA (d + 1) y_Arrs_copyOf2 [.ref a, .int (nI m), .ref mi] σ (fun r σ' => r = some (.ref σ.2.1) ∧ jI s0.heap.size σ' ∧ jK [] σ σ' ∧ σ'.2.1 = σ.2.1 + 1 ∧ σ'.2.2 = σ.2.2 + m ∧ ∃ w', σ'.1 σ.2.1 = some (1004, m, w') ∧ ∀ i, i < cp → w' i = w i) := by
  refine jE.ofF (by decide +kernel) (by simp [Value.category]) (Nat.le_of_ble_eq_true rfl) rfl ?_
  refine jW.aload_n (dx_Arrs_copyOf2 0 (e := (0, .aload_n 2, 1)) rfl) rfl rfl (pc' := 1) rfl ?_
  refine jW.ldcM F (dx_Arrs_copyOf2 1 (e := (1, .ldc 110, 2)) rfl) jw_197 hM (pc' := 3) rfl ?_
  refine jW.acmp_ne (rx := some mi) (ry := some mi) (dx_Arrs_copyOf2 2 (e := (3, .if_acmp .ne 10, 3)) rfl) 13 (by decide) (pc' := 6) rfl rfl rfl (fun z => absurd rfl z) (fun _ => ?_)
  refine jW.iload_n (dx_Arrs_copyOf2 3 (e := (6, .iload_n 1, 1)) rfl) rfl rfl (pc' := 7) rfl ?_
  refine jW.anewO (t := 1004) (C := "java/lang/Object") F (dx_Arrs_copyOf2 4 (e := (7, .anewarray 2, 3)) rfl) (by decide) rfl jw_199 jw_198 (nI_pos (by omega)) (nI_clamp (by omega)) (by omega) rfl rfl (pc' := 10) rfl hI.1 ?_
  have hh1 : (jnew σ (1004, m, fun _ => Value.null) m).1 a = some (1004, cp, w) := by rw [jnew_ne (hI.ne ha)]; exact ha
  have hh2 : (jnew σ (1004, m, fun _ => Value.null) m).1 σ.2.1 = some (1004, m, fun _ => Value.null) := jnew_at _ _ _
  refine jW.goto (dx_Arrs_copyOf2 5 (e := (10, .goto 14, 3)) rfl) 24 (by decide) ?_
  refine jW.astore_n (dx_Arrs_copyOf2 11 (e := (24, .astore_n 3, 1)) rfl) rfl (by decide) rfl (pc' := 25) rfl ?_
  refine jW.aload_n (dx_Arrs_copyOf2 12 (e := (25, .aload_n 0, 1)) rfl) rfl rfl (pc' := 26) rfl ?_
  refine jW.iconst (v := 0) (dx_Arrs_copyOf2 13 (e := (26, .iconst 0, 1)) rfl) (by decide) (pc' := 27) rfl ?_
  refine jW.aload_n (dx_Arrs_copyOf2 14 (e := (27, .aload_n 3, 1)) rfl) rfl rfl (pc' := 28) rfl ?_
  refine jW.iconst (v := 0) (dx_Arrs_copyOf2 15 (e := (28, .iconst 0, 1)) rfl) (by decide) (pc' := 29) rfl ?_
  refine jW.aload_n (dx_Arrs_copyOf2 16 (e := (29, .aload_n 0, 1)) rfl) rfl rfl (pc' := 30) rfl ?_
  refine jW.alen (t := 1004) (i := nI cp) F (dx_Arrs_copyOf2 17 (e := (30, .arraylength, 1)) rfl) (by decide) hh1 rfl (pc' := 31) rfl ?_
  refine jW.iload_n (dx_Arrs_copyOf2 18 (e := (31, .iload_n 1, 1)) rfl) rfl rfl (pc' := 32) rfl ?_
  refine jW.callS F (e_Math_min F (nI cp) (nI m)) (dx_Arrs_copyOf2 19 (e := (32, .invokestatic 304, 3)) rfl) can_Math_min jw_200 jw_201 rfl rfl (Nat.le_of_ble_eq_true rfl) (pc' := 35) rfl (fun r σ1 hr => ?_)
  obtain ⟨rfl, rfl⟩ := hr
  rw [show (if nI m < nI cp then nI m else nI cp) = nI cp from if_neg (by rw [nI_ltI (by omega) (by omega)]; omega)]
  refine jW.copyq (t := 1004) (ci := 3) (q := jQ_Block) (C := "java/lang/Object") F (dx_Arrs_copyOf2 20 (e := (35, .invokestatic 150, 3)) rfl) jw_203 jw_205 jw_204 jw_11 (by decide) rfl hh1 hh2 hI.1 rfl jw_1427 (by omega) (Nat.le_refl _) hm (fun i hi => ?_) (Nat.le_of_ble_eq_true rfl) rfl (pc' := 38) rfl ?_
  · rcases hel i hi with z | ⟨z, n, u, z1, z2⟩
    · exact Or.inl z
    · exact Or.inr ⟨z, n, u, z1, by rw [jnew_ne (hI.ne z2)]; exact z2⟩
  refine jW.aload_n (dx_Arrs_copyOf2 21 (e := (38, .aload_n 3, 1)) rfl) rfl rfl (pc' := 39) rfl ?_
  refine jW.aret (dx_Arrs_copyOf2 22 (e := (39, .areturn, 1)) rfl) rfl (by first | exact Or.inl ⟨_, rfl⟩ | exact Or.inr ⟨_, rfl⟩) (by first | exact Or.inl rfl | exact Or.inr ⟨_, rfl⟩) ?_
  have e1 : (jput (jnew σ (1004, m, fun _ => Value.null) m) σ.2.1 (1004, m, va_cpy w (fun _ => Value.null) 0 0 cp)).1 σ.2.1 = some (1004, m, va_cpy w (fun _ => Value.null) 0 0 cp) := jput_at _ _ _
  exact ⟨rfl, (hI.new).put (jnew_at _ _ _), fun a t n1 v1 q _ => by rw [jput_ne (hI.ne q), jnew_ne (hI.ne q)]; exact q, rfl, rfl, _, e1, fun i hi => by rw [pk_cpy_in (Nat.zero_le _) (by omega)]; simp⟩
theorem e_Arrs_copyOf (F : jOK s0 jcl D cA lw_tbl a0 jty) {a m mi : Nat} {w : Nat → Value} (hM : va_Mi "[Ljava/lang/Object;" mi s0) (hI : jI s0.heap.size σ) (ha : σ.1 a = some (1004, cp, w)) (hel : ∀ i, i < cp → w i = .null ∨ ∃ (z n : Nat) (u : Nat → Value), w i = .ref z ∧ σ.1 z = some (3, n, u)) (hm : cp ≤ m) (hm2 : m ≤ 30000) : jE l s0 jcl D cA (d + 2) y_Arrs_copyOf [.ref a, .int (nI m)] σ (fun r σ' => r = some (.ref σ.2.1) ∧ jI s0.heap.size σ' ∧ jK [] σ σ' ∧ σ'.2.1 = σ.2.1 + 1 ∧ σ'.2.2 = σ.2.2 + m ∧ ∃ w', σ'.1 σ.2.1 = some (1004, m, w') ∧ ∀ i, i < cp → w' i = w i) := by
  refine jE.ofF (by decide +kernel) (by simp [Value.category]) (Nat.le_of_ble_eq_true rfl) rfl ?_
  refine jW.aload_n (dx_Arrs_copyOf 0 (e := (0, .aload_n 0, 1)) rfl) rfl rfl (pc' := 1) rfl ?_
  refine jW.iload_n (dx_Arrs_copyOf 1 (e := (1, .iload_n 1, 1)) rfl) rfl rfl (pc' := 2) rfl ?_
  refine jW.aload_n (dx_Arrs_copyOf 2 (e := (2, .aload_n 0, 1)) rfl) rfl rfl (pc' := 3) rfl ?_
  refine jW.getC (t := 1004) (C := "java/lang/Object") F (dx_Arrs_copyOf 3 (e := (3, .invokevirtual 86, 3)) rfl) jw_180 jw_1423 jw_1422 jw_181 jw_193 hM (by decide) rfl ha (Nat.le_of_ble_eq_true rfl) (pc' := 6) rfl ?_
  refine jW.callS F (e_Arrs_copyOf2 F hM hI ha hel hm hm2) (dx_Arrs_copyOf 4 (e := (6, .invokestatic 300, 3)) rfl) can_Arrs_copyOf2 jw_194 jw_195 rfl rfl (Nat.le_of_ble_eq_true rfl) (pc' := 9) rfl (fun r σ1 hr => ?_)
  obtain ⟨rfl, z1⟩ := hr
  refine jW.aret (dx_Arrs_copyOf 5 (e := (9, .areturn, 1)) rfl) rfl (by first | exact Or.inl ⟨_, rfl⟩ | exact Or.inr ⟨_, rfl⟩) (by first | exact Or.inl rfl | exact Or.inr ⟨_, rfl⟩) ?_
  exact ⟨rfl, z1⟩
theorem e_newLength (F : jOK s0 jcl D cA lw_tbl a0 jty) {o g p : Nat} (h : o + max g p ≤ 100000) (h0 : 0 < o) : jE l s0 jcl D cA (d + 1) y_ASup_newLength [.int (nI o), .int (nI g), .int (nI p)] σ (fun r σ' => r = some (.int (nI (o + max g p))) ∧ σ' = σ) := by
  have hg : g ≤ 100000 := by have := Nat.le_max_left g p; omega
  have hp : p ≤ 100000 := by have := Nat.le_max_right g p; omega
  refine jE.ofF (by decide +kernel) (by simp [Value.category]) (Nat.le_of_ble_eq_true rfl) rfl ?_
  refine jW.iload_n (dx_ASup_newLength 0 (e := (0, .iload_n 0, 1)) rfl) rfl rfl (pc' := 1) rfl ?_
  refine jW.iload_n (dx_ASup_newLength 1 (e := (1, .iload_n 1, 1)) rfl) rfl rfl (pc' := 2) rfl ?_
  refine jW.iload_n (dx_ASup_newLength 2 (e := (2, .iload_n 2, 1)) rfl) rfl rfl (pc' := 3) rfl ?_
  refine jW.callS F (e_Math_max F (nI g) (nI p)) (dx_ASup_newLength 3 (e := (3, .invokestatic 194, 3)) rfl) can_Math_max jw_170 jw_171 rfl rfl (Nat.le_of_ble_eq_true rfl) (pc' := 6) rfl (fun r σ1 hr => ?_)
  obtain ⟨rfl, rfl⟩ := hr
  have hmx : (if nI g < nI p then nI p else nI g) = nI (max g p) := by
    by_cases q : g < p
    · rw [if_pos ((nI_ltI (by omega) (by omega)).mpr q), Nat.max_eq_right (by omega)]
    · rw [if_neg (fun z => q ((nI_ltI (by omega) (by omega)).mp z)), Nat.max_eq_left (by omega)]
  rw [hmx]
  refine jW.iadd (dx_ASup_newLength 4 (e := (6, .iadd, 1)) rfl) (pc' := 7) rfl ?_
  rw [nI_add]
  refine jW.istore_n (dx_ASup_newLength 5 (e := (7, .istore_n 3, 1)) rfl) rfl (by decide) rfl (pc' := 8) rfl ?_
  refine jW.iconst (v := 0) (dx_ASup_newLength 6 (e := (8, .iconst 0, 1)) rfl) (by decide) (pc' := 9) rfl ?_
  refine jW.iload_n (dx_ASup_newLength 7 (e := (9, .iload_n 3, 1)) rfl) rfl rfl (pc' := 10) rfl ?_
  refine jW.icmp_ge (dx_ASup_newLength 8 (e := (10, .if_icmp .ge 11, 3)) rfl) 21 (by decide) (pc' := 13) rfl (fun c_10 => ?_) (fun c_10 => ?_)
  · exfalso
    first
      | exact absurd c_16 (by
          intro z
          have := Int32.lt_iff_toInt_lt.mp z
          rw [nI_toInt (by omega)] at this
          have e : (2147483639 : Int32).toInt = 2147483639 := rfl
          omega)
      | exact absurd c_10 (by
          intro z
          have := (lit_leJ (a := 0) (by decide) (by omega)).mp z
          have e0 : (OfNat.ofNat 0 : Nat) = 0 := rfl
          omega)
  · refine jW.iload_n (dx_ASup_newLength 9 (e := (13, .iload_n 3, 1)) rfl) rfl rfl (pc' := 14) rfl ?_
    refine jW.ldc F (dx_ASup_newLength 10 (e := (14, .ldc 200, 2)) rfl) jw_173 (Or.inl (by first | rfl | simp [Cond.onTables, Cond.keeps, Cond.steady])) (pc' := 16) rfl ?_
    refine jW.icmp_gt (dx_ASup_newLength 11 (e := (16, .if_icmp .gt 5, 3)) rfl) 21 (by decide) (pc' := 19) rfl (fun c_16 => ?_) (fun c_16 => ?_)
    · exfalso
      first
        | exact absurd c_16 (by
            intro z
            have := Int32.lt_iff_toInt_lt.mp z
            rw [nI_toInt (by omega)] at this
            have e : (2147483639 : Int32).toInt = 2147483639 := rfl
            omega)
        | exact absurd c_10 (by
            intro z
            have := (lit_leJ (a := 0) (by decide) (by omega)).mp z
            have e0 : (OfNat.ofNat 0 : Nat) = 0 := rfl
            omega)
    · refine jW.iload_n (dx_ASup_newLength 12 (e := (19, .iload_n 3, 1)) rfl) rfl rfl (pc' := 20) rfl ?_
      refine jW.iret (dx_ASup_newLength 13 (e := (20, .ireturn, 1)) rfl) rfl ?_
      exact ⟨rfl, rfl⟩
theorem e_AL_grow2 (F : jOK s0 jcl D cA lw_tbl a0 jty) {mi : Nat} {v w : Nat → Value} {mc : Int32} (hM : va_Mi "[Ljava/lang/Object;" mi s0) (hI : jI s0.heap.size σ) (hal : σ.1 al = some (7, 3, v)) (h0 : v 0 = .ref ed) (h1 : v 1 = .int (nI N)) (h2 : v 2 = .int mc) (hB1 : s0.heap.size ≤ al) (hed : σ.1 ed = some (1004, cp, w)) (hel : ∀ i, i < N → ∃ (z n : Nat) (u : Nat → Value), w i = .ref z ∧ σ.1 z = some (3, n, u)) (hN : N = cp) (hc : 0 < cp) (hc2 : cp ≤ 12000) : jE l s0 jcl D cA (d + 3) y_AL_grow2 [.ref al, .int (nI (N + 1))] σ (fun r σ' => r = some (.ref σ.2.1) ∧ jI s0.heap.size σ' ∧ jK [7] σ σ' ∧ σ'.2.1 = σ.2.1 + 1 ∧ σ'.2.2 = σ.2.2 + (cp + max 1 (cp / 2)) ∧ (∃ v', σ'.1 al = some (7, 3, v') ∧ v' 0 = .ref σ.2.1 ∧ v' 1 = v 1 ∧ v' 2 = v 2) ∧ ∃ w', σ'.1 σ.2.1 = some (1004, cp + max 1 (cp / 2), w') ∧ ∀ i, i < cp → w' i = w i) := by
  subst hN
  have hmx : N + max 1 (N / 2) ≤ 30000 := by omega
  refine jE.ofF (by decide +kernel) (by simp [Value.category]) (Nat.le_of_ble_eq_true rfl) rfl ?_
  refine jW.aload_n (dx_AL_grow2 0 (e := (0, .aload_n 0, 1)) rfl) rfl rfl (pc' := 1) rfl ?_
  refine jW.getf F f_AL_grow2_1 (by assumption) (by assumption) (pc' := 4) rfl ?_
  refine jW.alen (t := 1004) (i := nI N) F (dx_AL_grow2 2 (e := (4, .arraylength, 1)) rfl) (by decide) hed rfl (pc' := 5) rfl ?_
  refine jW.istore_n (dx_AL_grow2 3 (e := (5, .istore_n 2, 1)) rfl) rfl (by decide) rfl (pc' := 6) rfl ?_
  refine jW.iload_n (dx_AL_grow2 4 (e := (6, .iload_n 2, 1)) rfl) rfl rfl (pc' := 7) rfl ?_
  refine jW.if_gt (dx_AL_grow2 5 (e := (7, .ifCond .gt 13, 3)) rfl) 20 (by decide) (pc' := 10) rfl (fun c_7 => ?_) (fun c_7 => ?_)
  · refine jW.iload_n (dx_AL_grow2 10 (e := (20, .iload_n 2, 1)) rfl) rfl rfl (pc' := 21) rfl ?_
    refine jW.iload_n (dx_AL_grow2 11 (e := (21, .iload_n 1, 1)) rfl) rfl rfl (pc' := 22) rfl ?_
    refine jW.iload_n (dx_AL_grow2 12 (e := (22, .iload_n 2, 1)) rfl) rfl rfl (pc' := 23) rfl ?_
    refine jW.isub (dx_AL_grow2 13 (e := (23, .isub, 1)) rfl) (pc' := 24) rfl ?_
    rw [show nI (N + 1) - nI N = nI 1 from by rw [pk_sub (by omega)]; congr 1; omega]
    refine jW.iload_n (dx_AL_grow2 14 (e := (24, .iload_n 2, 1)) rfl) rfl rfl (pc' := 25) rfl ?_
    refine jW.iconst (v := 1) (dx_AL_grow2 15 (e := (25, .iconst 1, 1)) rfl) (by decide) (pc' := 26) rfl ?_
    refine jW.ishr (dx_AL_grow2 16 (e := (26, .ishr, 1)) rfl) (pc' := 27) rfl ?_
    rw [show nI N >>> ((1 : Int32) &&& 31) = nI (N / 2) from pk_shrN (by omega) _ 1 (by decide)]
    refine jW.callS F (e_newLength F (o := N) (g := 1) (p := N / 2) (by omega) hc) (dx_AL_grow2 17 (e := (27, .invokestatic 73, 3)) rfl) can_ASup_newLength jw_167 jw_168 rfl rfl (Nat.le_of_ble_eq_true rfl) (pc' := 30) rfl (fun r σ1 hr => ?_)
    obtain ⟨rfl, hσ⟩ := hr
    rw [hσ]
    refine jW.istore_n (dx_AL_grow2 18 (e := (30, .istore_n 3, 1)) rfl) rfl (by decide) rfl (pc' := 31) rfl ?_
    refine jW.aload_n (dx_AL_grow2 19 (e := (31, .aload_n 0, 1)) rfl) rfl rfl (pc' := 32) rfl ?_
    refine jW.aload_n (dx_AL_grow2 20 (e := (32, .aload_n 0, 1)) rfl) rfl rfl (pc' := 33) rfl ?_
    refine jW.getf F f_AL_grow2_33 (by assumption) (by assumption) (pc' := 36) rfl ?_
    refine jW.iload_n (dx_AL_grow2 22 (e := (36, .iload_n 3, 1)) rfl) rfl rfl (pc' := 37) rfl ?_
    refine jW.callS F (e_Arrs_copyOf F (m := N + max 1 (N / 2)) hM hI hed (fun i hi => Or.inr (hel i hi)) (by omega) hmx) (dx_AL_grow2 23 (e := (37, .invokestatic 66, 3)) rfl) can_Arrs_copyOf jw_177 jw_178 rfl rfl (Nat.le_of_ble_eq_true rfl) (pc' := 40) rfl (fun r σ1 hr => ?_)
    obtain ⟨hr0, g1, g2, g3, g4, w', g5, g6⟩ := hr
    subst hr0
    have hal1 : σ1.1 al = some (7, 3, v) := g2 _ _ _ _ hal (by simp)
    have hne : σ.2.1 ≠ al := fun z => (hI.ne hal) z.symm
    refine jW.dup_x1 (dx_AL_grow2 24 (e := (40, .dup_x1, 1)) rfl) rfl rfl (pc' := 41) rfl ?_
    refine jW.putf F f_AL_grow2_41 rfl jF_AL jTab_AL rfl (by assumption) (by assumption) rfl rfl rfl (pc' := 44) rfl ?_
    refine jW.aret (dx_AL_grow2 26 (e := (44, .areturn, 1)) rfl) rfl (by first | exact Or.inl ⟨_, rfl⟩ | exact Or.inr ⟨_, rfl⟩) (by first | exact Or.inl rfl | exact Or.inr ⟨_, rfl⟩) ?_
    have e1 : (jput σ1 al (7, 3, updV v 0 (.ref σ.2.1))).1 al = some (7, 3, updV v 0 (.ref σ.2.1)) := jput_at _ _ _
    exact ⟨rfl, g1.put hal1, fun a t n1 v1 q hq => by rw [jput_ne (fun e => by rw [e, hal] at q; cases q; exact hq (by simp))]; exact g2 _ _ _ _ q (by simp), g3, g4, ⟨_, e1, rfl, rfl, rfl⟩, w', by rw [jput_ne hne]; exact g5, g6⟩
  · exact absurd ((lit_ltI (a := 0) (by decide) (by omega)).mpr hc) c_7
theorem e_AL_grow (F : jOK s0 jcl D cA lw_tbl a0 jty) {mi : Nat} {v w : Nat → Value} {mc : Int32} (hM : va_Mi "[Ljava/lang/Object;" mi s0) (hI : jI s0.heap.size σ) (hal : σ.1 al = some (7, 3, v)) (h0 : v 0 = .ref ed) (h1 : v 1 = .int (nI N)) (h2 : v 2 = .int mc) (hB1 : s0.heap.size ≤ al) (hed : σ.1 ed = some (1004, cp, w)) (hel : ∀ i, i < N → ∃ (z n : Nat) (u : Nat → Value), w i = .ref z ∧ σ.1 z = some (3, n, u)) (hN : N = cp) (hc : 0 < cp) (hc2 : cp ≤ 12000) : jE l s0 jcl D cA (d + 4) y_AL_grow [.ref al] σ (fun r σ' => r = some (.ref σ.2.1) ∧ jI s0.heap.size σ' ∧ jK [7] σ σ' ∧ σ'.2.1 = σ.2.1 + 1 ∧ σ'.2.2 = σ.2.2 + (cp + max 1 (cp / 2)) ∧ (∃ v', σ'.1 al = some (7, 3, v') ∧ v' 0 = .ref σ.2.1 ∧ v' 1 = v 1 ∧ v' 2 = v 2) ∧ ∃ w', σ'.1 σ.2.1 = some (1004, cp + max 1 (cp / 2), w') ∧ ∀ i, i < cp → w' i = w i) := by
  refine jE.ofF (by decide +kernel) (by simp [Value.category]) (Nat.le_of_ble_eq_true rfl) rfl ?_
  refine jW.aload_n (dx_AL_grow 0 (e := (0, .aload_n 0, 1)) rfl) rfl rfl (pc' := 1) rfl ?_
  refine jW.aload_n (dx_AL_grow 1 (e := (1, .aload_n 0, 1)) rfl) rfl rfl (pc' := 2) rfl ?_
  refine jW.getf F f_AL_grow_2 (by assumption) (by assumption) (pc' := 5) rfl ?_
  refine jW.iconst (v := 1) (dx_AL_grow 3 (e := (5, .iconst 1, 1)) rfl) (by decide) (pc' := 6) rfl ?_
  refine jW.iadd (dx_AL_grow 4 (e := (6, .iadd, 1)) rfl) (pc' := 7) rfl ?_
  rw [nI_1]
  refine jW.callV F (e_AL_grow2 F hM hI hal h0 h1 h2 hB1 hed hel hN hc hc2) (dx_AL_grow 5 (e := (7, .invokevirtual 69, 3)) rfl) can_AL_grow2 jw_163 jw_165 (by assumption) rfl sel_AL_grow2 rfl rfl (Nat.le_of_ble_eq_true rfl) (pc' := 10) rfl (fun r σ1 hr => ?_)
  obtain ⟨rfl, z1⟩ := hr
  refine jW.aret (dx_AL_grow 6 (e := (10, .areturn, 1)) rfl) rfl (by first | exact Or.inl ⟨_, rfl⟩ | exact Or.inr ⟨_, rfl⟩) (by first | exact Or.inl rfl | exact Or.inr ⟨_, rfl⟩) ?_
  exact ⟨rfl, z1⟩
theorem e_AL_add2 (F : jOK s0 jcl D cA lw_tbl a0 jty) {mi b nb : Nat} {v w ub : Nat → Value} {mc : Int32} (hM : va_Mi "[Ljava/lang/Object;" mi s0) (hI : jI s0.heap.size σ) (hal : σ.1 al = some (7, 3, v)) (h0 : v 0 = .ref ed) (h1 : v 1 = .int (nI N)) (h2 : v 2 = .int mc) (hB1 : s0.heap.size ≤ al) (hed : σ.1 ed = some (1004, cp, w)) (hB2 : s0.heap.size ≤ ed) (hel : ∀ i, i < N → ∃ (z n : Nat) (u : Nat → Value), w i = .ref z ∧ σ.1 z = some (3, n, u)) (hb : σ.1 b = some (3, nb, ub)) (hN : N ≤ cp) (hc : 0 < cp) (hc2 : cp ≤ 20000) (hN2 : N ≤ 3400) : jE l s0 jcl D cA (d + 5) y_AL_add2 [.ref al, .ref b, .ref ed, .int (nI N)] σ (fun r σ' => r = none ∧ jI s0.heap.size σ' ∧ jK [7, 1004] σ σ' ∧ ∃ (ed' cp' : Nat) (v' w' : Nat → Value), σ'.1 al = some (7, 3, v') ∧ v' 0 = .ref ed' ∧ v' 1 = .int (nI (N + 1)) ∧ v' 2 = v 2 ∧ σ'.1 ed' = some (1004, cp', w') ∧ (∀ i, i < N → w' i = w i) ∧ w' N = .ref b ∧ N + 1 ≤ cp' ∧ cp' ≤ 20000 ∧ cp ≤ cp' ∧ σ'.2.1 + cp ≤ σ.2.1 + cp' ∧ σ'.2.2 + 4 * cp ≤ σ.2.2 + 4 * cp' ∧ s0.heap.size ≤ ed') := by
  refine jE.ofF (by decide +kernel) (by simp [Value.category]) (Nat.le_of_ble_eq_true rfl) rfl ?_
  refine jW.iload_n (dx_AL_add2 0 (e := (0, .iload_n 3, 1)) rfl) rfl rfl (pc' := 1) rfl ?_
  refine jW.aload_n (dx_AL_add2 1 (e := (1, .aload_n 2, 1)) rfl) rfl rfl (pc' := 2) rfl ?_
  refine jW.alen (t := 1004) (i := nI cp) F (dx_AL_add2 2 (e := (2, .arraylength, 1)) rfl) (by decide) hed rfl (pc' := 3) rfl ?_
  refine jW.icmp_ne (dx_AL_add2 3 (e := (3, .if_icmp .ne 8, 3)) rfl) 11 (by decide) (pc' := 6) rfl (fun c_3 => ?_) (fun c_3 => ?_)
  · -- there is room
    have hlt : N < cp := by
      have : N ≠ cp := fun e => c_3 (by rw [e])
      omega
    refine jW.aload_n (dx_AL_add2 7 (e := (11, .aload_n 2, 1)) rfl) rfl rfl (pc' := 12) rfl ?_
    refine jW.iload_n (dx_AL_add2 8 (e := (12, .iload_n 3, 1)) rfl) rfl rfl (pc' := 13) rfl ?_
    refine jW.aload_n (dx_AL_add2 9 (e := (13, .aload_n 1, 1)) rfl) rfl rfl (pc' := 14) rfl ?_
    refine jW.aast (t := 1004) (ci := 3) (q := jQ_Block) (C := "java/lang/Object") F (dx_AL_add2 10 (e := (14, .aastore, 1)) rfl) (by decide) rfl hed hB2 hb rfl (Or.inr jw_1427) (vp_in_nI hlt (by omega)) rfl (pc' := 15) rfl ?_
    rw [nI_clamp (by omega)]
    have hal1 : (jput σ ed (1004, cp, updV w N (.ref b))).1 al = some (7, 3, v) := by rw [jput_ne (jne hal hed (by decide))]; exact hal
    refine jW.aload_n (dx_AL_add2 11 (e := (15, .aload_n 0, 1)) rfl) rfl rfl (pc' := 16) rfl ?_
    refine jW.iload_n (dx_AL_add2 12 (e := (16, .iload_n 3, 1)) rfl) rfl rfl (pc' := 17) rfl ?_
    refine jW.iconst (v := 1) (dx_AL_add2 13 (e := (17, .iconst 1, 1)) rfl) (by decide) (pc' := 18) rfl ?_
    refine jW.iadd (dx_AL_add2 14 (e := (18, .iadd, 1)) rfl) (pc' := 19) rfl ?_
    rw [nI_1]
    refine jW.putf F f_AL_add2_19 rfl jF_AL jTab_AL rfl (by assumption) (by assumption) rfl rfl rfl (pc' := 22) rfl ?_
    refine jW.vret (dx_AL_add2 16 (e := (22, .return_, 1)) rfl) rfl ?_
    have e1 : (jput (jput σ ed (1004, cp, updV w N (.ref b))) al (7, 3, updV v 1 (.int (nI (N + 1))))).1 ed = some (1004, cp, updV w N (.ref b)) := by rw [jput_ne (jne hed hal (by decide))]; exact jput_at _ _ _
    exact ⟨rfl, (hI.put hed).put hal1, (jK.put hed (by simp)).trans (jK.put hal1 (by simp)), ed, cp, _, _, jput_at _ _ _, h0, rfl, rfl, e1, fun i hi => if_neg (by omega), if_pos rfl, by omega, by omega, Nat.le_refl _, Nat.le_refl _, Nat.le_refl _, hB2⟩
  · -- it grows
    have hNc : N = cp := (nI_eq (by omega) (by omega)).mp c_3
    refine jW.aload_n (dx_AL_add2 4 (e := (6, .aload_n 0, 1)) rfl) rfl rfl (pc' := 7) rfl ?_
    refine jW.callV F (e_AL_grow F hM hI hal h0 h1 h2 hB1 hed hel hNc hc (by omega)) (dx_AL_add2 5 (e := (7, .invokevirtual 129, 3)) rfl) can_AL_grow jw_159 jw_161 (by assumption) rfl sel_AL_grow rfl rfl (Nat.le_of_ble_eq_true rfl) (pc' := 10) rfl (fun r σ1 hr => ?_)
    obtain ⟨rfl, g1, g2, g3, g4, ⟨v', g5, g6, g7, g8⟩, w', g9, g10⟩ := hr
    have hb1 : σ1.1 b = some (3, nb, ub) := g2 _ _ _ _ hb (by simp)
    have hBn : s0.heap.size ≤ σ.2.1 := hI.1
    refine jW.astore_n (dx_AL_add2 6 (e := (10, .astore_n 2, 1)) rfl) rfl (by decide) rfl (pc' := 11) rfl ?_
    refine jW.aload_n (dx_AL_add2 7 (e := (11, .aload_n 2, 1)) rfl) rfl rfl (pc' := 12) rfl ?_
    refine jW.iload_n (dx_AL_add2 8 (e := (12, .iload_n 3, 1)) rfl) rfl rfl (pc' := 13) rfl ?_
    refine jW.aload_n (dx_AL_add2 9 (e := (13, .aload_n 1, 1)) rfl) rfl rfl (pc' := 14) rfl ?_
    refine jW.aast (t := 1004) (ci := 3) (q := jQ_Block) (C := "java/lang/Object") F (dx_AL_add2 10 (e := (14, .aastore, 1)) rfl) (by decide) rfl g9 hBn hb1 rfl (Or.inr jw_1427) (vp_in_nI (by omega) (by omega)) rfl (pc' := 15) rfl ?_
    rw [nI_clamp (by omega)]
    have hal1 : (jput σ1 σ.2.1 (1004, cp + max 1 (cp / 2), updV w' N (.ref b))).1 al = some (7, 3, v') := by rw [jput_ne (jne g5 g9 (by decide))]; exact g5
    refine jW.aload_n (dx_AL_add2 11 (e := (15, .aload_n 0, 1)) rfl) rfl rfl (pc' := 16) rfl ?_
    refine jW.iload_n (dx_AL_add2 12 (e := (16, .iload_n 3, 1)) rfl) rfl rfl (pc' := 17) rfl ?_
    refine jW.iconst (v := 1) (dx_AL_add2 13 (e := (17, .iconst 1, 1)) rfl) (by decide) (pc' := 18) rfl ?_
    refine jW.iadd (dx_AL_add2 14 (e := (18, .iadd, 1)) rfl) (pc' := 19) rfl ?_
    rw [nI_1]
    refine jW.putf F f_AL_add2_19 rfl jF_AL jTab_AL rfl (by assumption) (by assumption) rfl rfl rfl (pc' := 22) rfl ?_
    refine jW.vret (dx_AL_add2 16 (e := (22, .return_, 1)) rfl) rfl ?_
    have e1 : (jput (jput σ1 σ.2.1 (1004, cp + max 1 (cp / 2), updV w' N (.ref b))) al (7, 3, updV v' 1 (.int (nI (N + 1))))).1 σ.2.1 = some (1004, cp + max 1 (cp / 2), updV w' N (.ref b)) := by rw [jput_ne (jne g9 g5 (by decide))]; exact jput_at _ _ _
    exact ⟨rfl, (g1.put g9).put hal1, ((g2.mono (by simp)).trans (jK.put g9 (by simp))).trans (jK.put hal1 (by simp)), σ.2.1, cp + max 1 (cp / 2), _, _, jput_at _ _ _, g6, rfl, g8, e1, fun i hi => (if_neg (by omega)).trans (g10 i (by omega)), if_pos rfl, by omega, by omega, by omega, by show σ1.2.1 + cp ≤ _; omega, by show σ1.2.2 + 4 * cp ≤ _; omega, hBn⟩
end ALADD
