theorem uin_MB : ∀ w ∈ u_ws jQ_MB.1 jQ_MB.2.1 jQ_MB.2.2, w ∈ lw_tbl := by
  intro w hw
  obtain ⟨k, hk, rfl⟩ := List.mem_map.mp hw
  have hk := List.mem_range.mp hk
  match k, hk with
  | 0, _ => exact jw_342
  | 1, _ => exact jw_344
  | 2, _ => exact jw_346
  | 3, _ => exact jw_348
  | 4, _ => exact jw_350
  | 5, _ => exact jw_352
  | 6, _ => exact jw_354
  | 7, _ => exact jw_356
  | n + 8, h => exact absurd h (by show ¬ n + 8 < 8; omega)
theorem uin_Row : ∀ w ∈ u_ws jQ_Row.1 jQ_Row.2.1 jQ_Row.2.2, w ∈ lw_tbl := by
  intro w hw
  obtain ⟨k, hk, rfl⟩ := List.mem_map.mp hw
  have hk := List.mem_range.mp hk
  match k, hk with
  | 0, _ => exact jw_41
  | 1, _ => exact jw_43
  | n + 2, h => exact absurd h (by show ¬ n + 2 < 2; omega)
theorem uin_Tree : ∀ w ∈ u_ws jQ_Tree.1 jQ_Tree.2.1 jQ_Tree.2.2, w ∈ lw_tbl := by
  intro w hw
  obtain ⟨k, hk, rfl⟩ := List.mem_map.mp hw
  have hk := List.mem_range.mp hk
  match k, hk with
  | 0, _ => exact jw_217
  | 1, _ => exact jw_219
  | 2, _ => exact jw_221
  | 3, _ => exact jw_223
  | n + 4, h => exact absurd h (by show ¬ n + 4 < 4; omega)
theorem uin_Block : ∀ w ∈ u_ws jQ_Block.1 jQ_Block.2.1 jQ_Block.2.2, w ∈ lw_tbl := by
  intro w hw
  obtain ⟨k, hk, rfl⟩ := List.mem_map.mp hw
  have hk := List.mem_range.mp hk
  match k, hk with
  | 0, _ => exact jw_122
  | 1, _ => exact jw_124
  | 2, _ => exact jw_126
  | 3, _ => exact jw_128
  | 4, _ => exact jw_130
  | 5, _ => exact jw_132
  | 6, _ => exact jw_134
  | 7, _ => exact jw_136
  | 8, _ => exact jw_138
  | 9, _ => exact jw_140
  | 10, _ => exact jw_142
  | 11, _ => exact jw_144
  | 12, _ => exact jw_146
  | 13, _ => exact jw_148
  | n + 14, h => exact absurd h (by show ¬ n + 14 < 14; omega)
theorem uin_Lab : ∀ w ∈ u_ws jQ_Lab.1 jQ_Lab.2.1 jQ_Lab.2.2, w ∈ lw_tbl := by
  intro w hw
  obtain ⟨k, hk, rfl⟩ := List.mem_map.mp hw
  have hk := List.mem_range.mp hk
  match k, hk with
  | 0, _ => exact jw_244
  | 1, _ => exact jw_246
  | 2, _ => exact jw_248
  | 3, _ => exact jw_250
  | 4, _ => exact jw_252
  | 5, _ => exact jw_254
  | 6, _ => exact jw_256
  | 7, _ => exact jw_258
  | 8, _ => exact jw_260
  | 9, _ => exact jw_262
  | n + 10, h => exact absurd h (by show ¬ n + 10 < 10; omega)
theorem uin_Line : ∀ w ∈ u_ws jQ_Line.1 jQ_Line.2.1 jQ_Line.2.2, w ∈ lw_tbl := by
  intro w hw
  obtain ⟨k, hk, rfl⟩ := List.mem_map.mp hw
  have hk := List.mem_range.mp hk
  match k, hk with
  | 0, _ => exact jw_280
  | 1, _ => exact jw_282
  | 2, _ => exact jw_284
  | 3, _ => exact jw_286
  | 4, _ => exact jw_288
  | 5, _ => exact jw_290
  | 6, _ => exact jw_292
  | n + 7, h => exact absurd h (by show ¬ n + 7 < 7; omega)
theorem uin_Rd : ∀ w ∈ u_ws jQ_Rd.1 jQ_Rd.2.1 jQ_Rd.2.2, w ∈ lw_tbl := by
  intro w hw
  obtain ⟨k, hk, rfl⟩ := List.mem_map.mp hw
  have hk := List.mem_range.mp hk
  match k, hk with
  | 0, _ => exact jw_313
  | 1, _ => exact jw_315
  | 2, _ => exact jw_317
  | 3, _ => exact jw_319
  | 4, _ => exact jw_321
  | 5, _ => exact jw_323
  | 6, _ => exact jw_325
  | 7, _ => exact jw_327
  | 8, _ => exact jw_329
  | 9, _ => exact jw_331
  | n + 10, h => exact absurd h (by show ¬ n + 10 < 10; omega)
theorem uin_AL : ∀ w ∈ u_ws jQ_AL.1 jQ_AL.2.1 jQ_AL.2.2, w ∈ lw_tbl := by
  intro w hw
  obtain ⟨k, hk, rfl⟩ := List.mem_map.mp hw
  have hk := List.mem_range.mp hk
  match k, hk with
  | 0, _ => exact jw_72
  | 1, _ => exact jw_74
  | 2, _ => exact jw_76
  | n + 3, h => exact absurd h (by show ¬ n + 3 < 3; omega)
theorem uin_Mo : ∀ w ∈ u_ws jQ_Mo.1 jQ_Mo.2.1 jQ_Mo.2.2, w ∈ lw_tbl := by
  intro w hw
  obtain ⟨k, hk, rfl⟩ := List.mem_map.mp hw
  have hk := List.mem_range.mp hk
  match k, hk with
  | 0, _ => exact jw_1040
  | 1, _ => exact jw_1042
  | 2, _ => exact jw_1044
  | 3, _ => exact jw_1046
  | 4, _ => exact jw_1048
  | 5, _ => exact jw_1050
  | 6, _ => exact jw_1052
  | 7, _ => exact jw_1054
  | 8, _ => exact jw_1056
  | 9, _ => exact jw_1058
  | 10, _ => exact jw_1060
  | 11, _ => exact jw_1062
  | 12, _ => exact jw_1064
  | 13, _ => exact jw_1066
  | 14, _ => exact jw_1068
  | 15, _ => exact jw_1070
  | 16, _ => exact jw_1072
  | 17, _ => exact jw_1074
  | 18, _ => exact jw_1076
  | 19, _ => exact jw_1078
  | 20, _ => exact jw_1080
  | 21, _ => exact jw_1082
  | 22, _ => exact jw_1084
  | 23, _ => exact jw_1086
  | 24, _ => exact jw_1088
  | 25, _ => exact jw_1090
  | 26, _ => exact jw_1092
  | 27, _ => exact jw_1094
  | 28, _ => exact jw_1096
  | 29, _ => exact jw_1098
  | 30, _ => exact jw_1100
  | 31, _ => exact jw_1102
  | 32, _ => exact jw_1104
  | 33, _ => exact jw_1106
  | 34, _ => exact jw_1108
  | 35, _ => exact jw_1110
  | 36, _ => exact jw_1112
  | 37, _ => exact jw_1114
  | 38, _ => exact jw_1116
  | 39, _ => exact jw_1118
  | 40, _ => exact jw_1120
  | 41, _ => exact jw_1122
  | 42, _ => exact jw_1124
  | 43, _ => exact jw_1126
  | 44, _ => exact jw_1128
  | 45, _ => exact jw_1130
  | 46, _ => exact jw_1132
  | 47, _ => exact jw_1134
  | 48, _ => exact jw_1136
  | 49, _ => exact jw_1138
  | 50, _ => exact jw_1140
  | 51, _ => exact jw_1142
  | 52, _ => exact jw_1144
  | 53, _ => exact jw_1146
  | n + 54, h => exact absurd h (by show ¬ n + 54 < 54; omega)
theorem uin_IAE : ∀ w ∈ u_ws jQ_IAE.1 jQ_IAE.2.1 jQ_IAE.2.2, w ∈ lw_tbl := by
  intro w hw
  obtain ⟨k, hk, rfl⟩ := List.mem_map.mp hw
  have hk := List.mem_range.mp hk
  match k, hk with
  | 0, _ => exact jw_883
  | 1, _ => exact jw_885
  | 2, _ => exact jw_887
  | 3, _ => exact jw_889
  | 4, _ => exact jw_891
  | 5, _ => exact jw_933
  | n + 6, h => exact absurd h (by show ¬ n + 6 < 6; omega)
section START
variable {s : State} {a : Array Value}
theorem kn_all (hts : ∀ w ∈ lw_tbl, w.before a s = true) : ∀ c : Nat, ∃ q0 : ClassId × (Nat → Nat), ∀ q, jcl[c]? = some q → u_Kn s q.1 q.2.1 q.2.2 q0.1 q0.2 := by
  intro c
  have mk : ∀ (q1 : vw_C) (n : Nat), (∀ w ∈ u_ws q1.1 q1.2.1 q1.2.2, w ∈ lw_tbl) → Cond.instantiable q1.1 n ∈ lw_tbl → jcl[c]? = some q1 → ∃ q0 : ClassId × (Nat → Nat), ∀ q, jcl[c]? = some q → u_Kn s q.1 q.2.1 q.2.2 q0.1 q0.2 := by
    intro q1 n h1 h2 h3
    obtain ⟨cC, iS, h⟩ := u_known hts h1 (hts _ h2)
    refine ⟨(cC, iS), fun q hq => ?_⟩
    cases h3.symm.trans hq
    exact h
  match c with
  | 0 => exact mk jQ_MB 8 uin_MB jw_26 rfl
  | 1 => exact mk jQ_Row 2 uin_Row jw_34 rfl
  | 2 => exact mk jQ_Tree 4 uin_Tree jw_48 rfl
  | 3 => exact mk jQ_Block 14 uin_Block jw_80 rfl
  | 4 => exact mk jQ_Lab 10 uin_Lab jw_227 rfl
  | 5 => exact mk jQ_Line 7 uin_Line jw_266 rfl
  | 6 => exact mk jQ_Rd 10 uin_Rd jw_296 rfl
  | 7 => exact mk jQ_AL 3 uin_AL jw_54 rfl
  | 8 => exact mk jQ_Mo 54 uin_Mo jw_976 rfl
  | 9 => exact mk jQ_IAE 6 uin_IAE jw_873 rfl
  | 10 => exact mk jQ_Row 2 uin_Row jw_34 rfl
  | 11 => exact mk jQ_Row 2 uin_Row jw_34 rfl
  | 12 => exact mk jQ_Row 2 uin_Row jw_34 rfl
  | 13 => exact mk jQ_Row 2 uin_Row jw_34 rfl
  | n + 14 => exact ⟨(0, fun _ => 0), fun q hq => by cases hq⟩
theorem ar_p {ty : FieldType} (h : (Cond.arrayClass ty).before a s = true) : ∃ cA, ArrOfT s cA ty ∧ s.vm.findClass ("[" ++ ty.toString) = some cA := by
  obtain ⟨c, k, comp, h1, h2, h3⟩ := Cond.arrayClass_spec h
  exact ⟨c, fun n z => ⟨fun k q => (by cases q), k, h2, comp, h3⟩, h1⟩
theorem ar_o {C : String} (h : (Cond.arrayOver (.object C)).before a s = true) : ∃ cA, ArrOfT s cA (.object C) ∧ va_RA s cA (.object C) := by
  obtain ⟨comp, c, k, h0, -, h2, h3, h1⟩ := Cond.arrayOver_spec h
  exact ⟨c, fun n z => ⟨fun k q => (by cases q), k, h2, comp, h3⟩, k, comp, h2, h3, h0, h1⟩
theorem ar_all (hts : ∀ w ∈ lw_tbl, w.before a s = true) (t : Nat) : ∃ cA, ArrOfT s cA (jty t) ∧ va_RA s cA (jty t) := by
  have hc : jty t = .byte ∨ jty t = .boolean ∨ jty t = .long ∨ jty t = .object "java/lang/Object" ∨ jty t = .object "MarkBlocks$Block" ∨ jty t = .int := by
    unfold jty
    split <;> simp
  rcases hc with e | e | e | e | e | e <;> rw [e]
  · exact ar_p (hts _ jw_937)
  · exact ar_p (hts _ jw_1149)
  · exact ar_p (hts _ jw_1418)
  · exact ar_o (hts _ jw_198)
  · exact ar_o (hts _ jw_302)
  · exact ar_p (hts _ jw_46)
theorem jOK_start (hts : ∀ w ∈ lw_tbl, w.before a s = true) : ∃ (D : va_G) (cA : Nat → ClassId), jOK s jcl D cA lw_tbl a jty := by
  obtain ⟨f, hf⟩ := Classical.axiomOfChoice (kn_all hts)
  obtain ⟨g, hg⟩ := Classical.axiomOfChoice (ar_all (a := a) hts)
  refine ⟨(fun c => (f c).1, fun c => (f c).2), g, hts, fun c q hq => ⟨?_, hf c q hq, ?_⟩, fun t _ => hg t⟩
  · have : c < jcl.length := (List.getElem?_eq_some_iff.mp hq).1
    have e : jcl.length = 14 := rfl
    omega
  · match c, hq with
    | 0, hq => cases hq; exact uin_MB
    | 1, hq => cases hq; exact uin_Row
    | 2, hq => cases hq; exact uin_Tree
    | 3, hq => cases hq; exact uin_Block
    | 4, hq => cases hq; exact uin_Lab
    | 5, hq => cases hq; exact uin_Line
    | 6, hq => cases hq; exact uin_Rd
    | 7, hq => cases hq; exact uin_AL
    | 8, hq => cases hq; exact uin_Mo
    | 9, hq => cases hq; exact uin_IAE
    | 10, hq => cases hq; exact uin_Row
    | 11, hq => cases hq; exact uin_Row
    | 12, hq => cases hq; exact uin_Row
    | 13, hq => cases hq; exact uin_Row
    | n + 14, hq => cases hq
theorem va_T.congr {ty : FieldType} {t N : Nat} {f g : Nat → Value} {A : Nat → Prop} {U : State} {H : Heap} (h : va_T ty t N f A U H) (e : ∀ j, j < N → f j = g j) : va_T ty t N g A U H := by
  obtain ⟨cell, h1, h2, h3, h4, h5, h6, h7⟩ := h
  exact ⟨cell, h1, h2, h3, h4, h5, fun j hj => by rw [h6 j hj, e j hj], h7⟩
def nrw : Cond := Jvm.Cond.and given_1 narrow_1
variable {b : Nat}
abbrev Ao (s : State) : Nat → Prop := fun q => s.heap.size ≤ q
theorem Ao_old : ∀ a : Nat, a < s.heap.size → ¬ Ao s a := fun a h q => absurd h (Nat.not_lt.mpr q)
theorem st_str (hts : ∀ w ∈ lw_tbl, w.before a s = true) (h : nrw.before a s = true) : OSs s := by
  have hs := flat_of_before _ h
  have h1 : (Cond.eq (.static "java/lang/String" "COMPACT_STRINGS" "Z") (.int 1)).before a s = true := hs _ (by decide +kernel)
  have h2 : (Cond.isRef (.static "jdk/internal/util/Preconditions" "SIOOBE_FORMATTER" "Ljava/util/function/BiFunction;")).before a s = true := hs _ (by decide +kernel)
  refine ⟨va_Zof (hts _ jw_757) (hts _ jw_18) (va_eqi h1) Ao_old, ?_⟩
  cases e : (Term.static "jdk/internal/util/Preconditions" "SIOOBE_FORMATTER" "Ljava/util/function/BiFunction;").eval a s none [] s with
  | none => simp [Cond.before, Cond.holds, Cond.value, e] at h2
  | some v =>
    refine ⟨v, ?_, va_Zof (hts _ jw_775) (hts _ jw_17) e Ao_old⟩
    cases v <;> simp [Cond.before, Cond.holds, Cond.value, e] at h2
    · exact Or.inl rfl
    · exact Or.inr ⟨_, rfl⟩
def bytL : List Int32 := [97, 109, 112, 59, 108, 116, 59, 103, 116, 59, 113, 117, 111, 116, 59, 97, 112, 111, 115, 59, 110, 98, 115, 112, 59]
theorem byt_F : ∀ j : Fin 25, bytL.getD j.val 0 = nmF j.val := by decide +kernel
theorem nmF_k (j : Nat) : ∃ k, nmF j = nI k ∧ k < 128 := by
  by_cases h : j < 25
  · have : ∀ j : Fin 25, nmL.getD j.val 0 < 128 := by decide +kernel
    exact ⟨_, rfl, this ⟨j, h⟩⟩
  · refine ⟨_, rfl, ?_⟩
    have e : nmL.getD j 0 = 0 := by
      unfold List.getD
      rw [List.getElem?_eq_none (by show 25 ≤ j; omega)]
      rfl
    rw [e]
    decide
theorem byt_in : ∀ j : Fin 25, (Cond.eq (.elem (.field (.string "MarkBlocks$Labels" 126) "java/lang/String" "value" "[B") (.int (Int32.ofNat j.val))) (.int (bytL.getD j.val 0))) ∈ flatC nrw := by decide +kernel
theorem nam_in : ∀ j : Fin 6, (Cond.eq (.elem (.static "MarkBlocks$Labels" "NAMED" "[I") (.int (Int32.ofNat j.val))) (.int (nmN j.val))) ∈ flatC nrw := by decide +kernel
theorem st_lab (hts : ∀ w ∈ lw_tbl, w.before a s = true) (h : nrw.before a s = true) : ∃ q v, vk_R "MarkBlocks$Labels" 126 "amp;lt;gt;quot;apos;nbsp;" q s ∧ OSt s q v 25 nmF := by
  have hs := flat_of_before _ h
  have z0 : ∀ i : Nat, i < 1 → i = 0 := fun i hi => by omega
  have k1 : ∀ i : Nat, i < 1 → [25].getD i 0 < 2 ^ 31 := fun i hi => by rw [z0 i hi]; decide
  have k2 : ∀ i : Nat, i < 1 → (Cond.exactly (.string "MarkBlocks$Labels" 126) "java/lang/String").before a s = true := fun i hi => hs _ (by decide +kernel)
  have k3 : ∀ i : Nat, i < 1 → (Cond.eq (.field (.string "MarkBlocks$Labels" 126) "java/lang/String" "coder" "B") (.int 0)).before a s = true := fun i hi => hs _ (by decide +kernel)
  have k4 : ∀ i : Nat, i < 1 → (Cond.arrayOf (.field (.string "MarkBlocks$Labels" 126) "java/lang/String" "value" "[B") .byte).before a s = true := fun i hi => hs _ (by decide +kernel)
  have k5 : ∀ i : Nat, i < 1 → (Cond.eq (.length (.field (.string "MarkBlocks$Labels" 126) "java/lang/String" "value" "[B")) (.int (Int32.ofNat ([25].getD i 0)))).before a s = true := fun i hi => by rw [z0 i hi]; exact hs _ (by decide +kernel)
  have k6 : ∀ i : Nat, i < 1 → ∀ j : Nat, j < [25].getD i 0 → (Cond.eq (.elem (.field (.string "MarkBlocks$Labels" 126) "java/lang/String" "value" "[B") (.int (Int32.ofNat j))) (.int (([bytL].getD i []).getD j 0))).before a s = true := fun i hi j hj => by
    have e := z0 i hi
    subst e
    exact hs _ (byt_in ⟨j, hj⟩)
  obtain ⟨adK, adV, hS, hE⟩ := vk_Sof (args := a) (s := s) (N := 1) (tm := fun _ => .string "MarkBlocks$Labels" 126) (len := [25]) (byt := [bytL]) (A := Ao s) k1 k2 k3 k4 k5 k6 (fun i j hi hj hne => absurd (by omega : i = j) hne) Ao_old
  obtain ⟨g1, g2, g3, g4⟩ := hS.1 0 (by decide)
  exact ⟨adK 0, adV 0, vk_R.of (hts _ jw_747) (by have := hE 0 (by decide); exact (Term.string_eval_of_vm (args := a) rfl ▸ this)), g1, g2, g3, g4.congr (fun j hj => by show Value.int (bytL.getD j 0) = _; rw [byt_F ⟨j, hj⟩]), by decide, nmF_k⟩
end START
