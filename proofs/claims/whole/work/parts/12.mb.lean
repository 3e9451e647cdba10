abbrev c_MB_putReady : ByteArray := prog_1_method_14_code
abbrev y_MB_putReady : jM := (⟨"MarkBlocks", "putReady", "(II)V"⟩, c_MB_putReady, 4, none)
def k_MB_putReady : List (Nat × Instr × Nat) := [(0, .iconst 0, 1), (1, .istore_n 3, 1), (2, .iload_n 3, 1), (3, .iconst 4, 1), (4, .if_icmp .ge 41, 3), (7, .iload_n 1, 1), (8, .iload_n 3, 1), (9, .iadd, 1), (10, .aload_n 0, 1), (11, .getfield 16, 3), (14, .arraylength, 1), (15, .if_icmp .ge 24, 3), (18, .aload_n 0, 1), (19, .getfield 16, 3), (22, .iload_n 1, 1), (23, .iload_n 3, 1), (24, .iadd, 1), (25, .iload_n 2, 1), (26, .bipush 24, 2), (28, .bipush 8, 2), (30, .iload_n 3, 1), (31, .imul, 1), (32, .isub, 1), (33, .iushr, 1), (34, .sipush 255, 3), (37, .iand, 1), (38, .iastore, 1), (39, .iinc 3 1, 3), (42, .goto (-40), 3), (45, .return_, 1)]
theorem dk_MB_putReady : ∀ e ∈ k_MB_putReady, decode c_MB_putReady e.1 = .ok e.2 := by decide +kernel
abbrev c_MB_feed : ByteArray := prog_1_method_2_code
abbrev y_MB_feed : jM := (⟨"MarkBlocks", "feed", "(IIIII)V"⟩, c_MB_feed, 6, none)
def k_MB_feed : List (Nat × Instr × Nat) := [(0, .aload_n 0, 1), (1, .iconst 0, 1), (2, .iload_n 1, 1), (3, .invokevirtual 62, 3), (6, .aload_n 0, 1), (7, .iconst 4, 1), (8, .iload_n 2, 1), (9, .invokevirtual 62, 3), (12, .aload_n 0, 1), (13, .bipush 8, 2), (15, .iload_n 3, 1), (16, .invokevirtual 62, 3), (19, .aload_n 0, 1), (20, .bipush 12, 2), (22, .iload 4, 2), (24, .invokevirtual 62, 3), (27, .aload_n 0, 1), (28, .bipush 16, 2), (30, .iload 5, 2), (32, .invokevirtual 62, 3), (35, .return_, 1)]
theorem dk_MB_feed : ∀ e ∈ k_MB_feed, decode c_MB_feed e.1 = .ok e.2 := by decide +kernel
abbrev c_MB_wipe : ByteArray := prog_1_method_4_code
abbrev y_MB_wipe : jM := (⟨"MarkBlocks", "wipe", "()V"⟩, c_MB_wipe, 1, none)
def k_MB_wipe : List (Nat × Instr × Nat) := [(0, .aload_n 0, 1), (1, .getfield 10, 3), (4, .iconst 0, 1), (5, .invokevirtual 80, 3), (8, .return_, 1)]
theorem dk_MB_wipe : ∀ e ∈ k_MB_wipe, decode c_MB_wipe e.1 = .ok e.2 := by decide +kernel
abbrev c_MB_fault : ByteArray := prog_1_method_6_code
abbrev y_MB_fault : jM := (⟨"MarkBlocks", "fault", "()I"⟩, c_MB_fault, 1, (some .int))
def k_MB_fault : List (Nat × Instr × Nat) := [(0, .aload_n 0, 1), (1, .getfield 59, 3), (4, .ireturn, 1)]
theorem dk_MB_fault : ∀ e ∈ k_MB_fault, decode c_MB_fault e.1 = .ok e.2 := by decide +kernel
abbrev c_MB_end : ByteArray := prog_1_method_3_code
abbrev y_MB_end : jM := (⟨"MarkBlocks", "end", "(I)I"⟩, c_MB_end, 3, (some .int))
def k_MB_end : List (Nat × Instr × Nat) := [(0, .iload_n 1, 1), (1, .ifCond .lt 27, 3), (4, .iload_n 1, 1), (5, .aload_n 0, 1), (6, .getfield 16, 3), (9, .arraylength, 1), (10, .if_icmp .gt 18, 3), (13, .aload_n 0, 1), (14, .getfield 10, 3), (17, .invokevirtual 66, 3), (20, .iload_n 1, 1), (21, .iadd, 1), (22, .sipush 3000, 3), (25, .if_icmp .le 5, 3), (28, .iconst (-1), 1), (29, .ireturn, 1), (30, .iconst 0, 1), (31, .istore_n 2, 1), (32, .iload_n 2, 1), (33, .iload_n 1, 1), (34, .if_icmp .ge 22, 3), (37, .aload_n 0, 1), (38, .getfield 10, 3), (41, .aload_n 0, 1), (42, .getfield 16, 3), (45, .iload_n 2, 1), (46, .iaload, 1), (47, .invokevirtual 70, 3), (50, .iinc 2 1, 3), (53, .goto (-21), 3), (56, .aload_n 0, 1), (57, .getfield 16, 3), (60, .iconst 0, 1), (61, .invokestatic 74, 3), (64, .aload_n 0, 1), (65, .getfield 10, 3), (68, .invokevirtual 66, 3), (71, .ireturn, 1)]
theorem dk_MB_end : ∀ e ∈ k_MB_end, decode c_MB_end e.1 = .ok e.2 := by decide +kernel
abbrev c_Arrs_fill : ByteArray := prog_25_method_103_code
abbrev y_Arrs_fill : jM := (⟨"java/util/Arrays", "fill", "([II)V"⟩, c_Arrs_fill, 4, none)
def k_Arrs_fill : List (Nat × Instr × Nat) := [(0, .iconst 0, 1), (1, .istore_n 2, 1), (2, .aload_n 0, 1), (3, .arraylength, 1), (4, .istore_n 3, 1), (5, .iload_n 2, 1), (6, .iload_n 3, 1), (7, .if_icmp .ge 13, 3), (10, .aload_n 0, 1), (11, .iload_n 2, 1), (12, .iload_n 1, 1), (13, .iastore, 1), (14, .iinc 2 1, 3), (17, .goto (-12), 3), (20, .return_, 1)]
theorem dk_Arrs_fill : ∀ e ∈ k_Arrs_fill, decode c_Arrs_fill e.1 = .ok e.2 := by decide +kernel
theorem dx_MB_putReady (i : Nat) {e : Nat × Instr × Nat} (h : k_MB_putReady[i]? = some e) : decode y_MB_putReady.2.1 e.1 = .ok e.2 := dk_MB_putReady e (List.mem_of_getElem? h)
theorem f_MB_putReady_11 : jFld jcl lw_tbl y_MB_putReady 11 0 1 .getfield := ⟨16, "MarkBlocks", jQ_MB, dx_MB_putReady 9 (e := (11, .getfield 16, 3)) rfl, rfl, by decide, Or.inl jw_335, Or.inl rfl⟩
theorem f_MB_putReady_19 : jFld jcl lw_tbl y_MB_putReady 19 0 1 .getfield := ⟨16, "MarkBlocks", jQ_MB, dx_MB_putReady 13 (e := (19, .getfield 16, 3)) rfl, rfl, by decide, Or.inl jw_335, Or.inl rfl⟩
theorem can_MB_putReady : jCan lw_tbl y_MB_putReady 2 := ⟨jw_366, jw_1, by decide +kernel, by decide +kernel, by decide⟩
theorem dx_MB_feed (i : Nat) {e : Nat × Instr × Nat} (h : k_MB_feed[i]? = some e) : decode y_MB_feed.2.1 e.1 = .ok e.2 := dk_MB_feed e (List.mem_of_getElem? h)
theorem can_MB_feed : jCan lw_tbl y_MB_feed 5 := ⟨jw_362, jw_1, by decide +kernel, by decide +kernel, by decide⟩
theorem dx_MB_wipe (i : Nat) {e : Nat × Instr × Nat} (h : k_MB_wipe[i]? = some e) : decode y_MB_wipe.2.1 e.1 = .ok e.2 := dk_MB_wipe e (List.mem_of_getElem? h)
theorem f_MB_wipe_1 : jFld jcl lw_tbl y_MB_wipe 1 0 0 .getfield := ⟨10, "MarkBlocks", jQ_MB, dx_MB_wipe 1 (e := (1, .getfield 10, 3)) rfl, rfl, by decide, Or.inl jw_334, Or.inl rfl⟩
theorem can_MB_wipe : jCan lw_tbl y_MB_wipe 0 := ⟨jw_395, jw_1, by decide +kernel, by decide +kernel, by decide⟩
theorem dx_MB_fault (i : Nat) {e : Nat × Instr × Nat} (h : k_MB_fault[i]? = some e) : decode y_MB_fault.2.1 e.1 = .ok e.2 := dk_MB_fault e (List.mem_of_getElem? h)
theorem f_MB_fault_1 : jFld jcl lw_tbl y_MB_fault 1 0 7 .getfield := ⟨59, "MarkBlocks", jQ_MB, dx_MB_fault 1 (e := (1, .getfield 59, 3)) rfl, rfl, by decide, Or.inl jw_341, Or.inl rfl⟩
theorem can_MB_fault : jCan lw_tbl y_MB_fault 0 := ⟨jw_403, jw_1, by decide +kernel, by decide +kernel, by decide⟩
theorem dx_MB_end (i : Nat) {e : Nat × Instr × Nat} (h : k_MB_end[i]? = some e) : decode y_MB_end.2.1 e.1 = .ok e.2 := dk_MB_end e (List.mem_of_getElem? h)
theorem f_MB_end_6 : jFld jcl lw_tbl y_MB_end 6 0 1 .getfield := ⟨16, "MarkBlocks", jQ_MB, dx_MB_end 4 (e := (6, .getfield 16, 3)) rfl, rfl, by decide, Or.inl jw_335, Or.inl rfl⟩
theorem f_MB_end_14 : jFld jcl lw_tbl y_MB_end 14 0 0 .getfield := ⟨10, "MarkBlocks", jQ_MB, dx_MB_end 8 (e := (14, .getfield 10, 3)) rfl, rfl, by decide, Or.inl jw_334, Or.inl rfl⟩
theorem f_MB_end_38 : jFld jcl lw_tbl y_MB_end 38 0 0 .getfield := ⟨10, "MarkBlocks", jQ_MB, dx_MB_end 22 (e := (38, .getfield 10, 3)) rfl, rfl, by decide, Or.inl jw_334, Or.inl rfl⟩
theorem f_MB_end_42 : jFld jcl lw_tbl y_MB_end 42 0 1 .getfield := ⟨16, "MarkBlocks", jQ_MB, dx_MB_end 24 (e := (42, .getfield 16, 3)) rfl, rfl, by decide, Or.inl jw_335, Or.inl rfl⟩
theorem f_MB_end_57 : jFld jcl lw_tbl y_MB_end 57 0 1 .getfield := ⟨16, "MarkBlocks", jQ_MB, dx_MB_end 31 (e := (57, .getfield 16, 3)) rfl, rfl, by decide, Or.inl jw_335, Or.inl rfl⟩
theorem f_MB_end_65 : jFld jcl lw_tbl y_MB_end 65 0 0 .getfield := ⟨10, "MarkBlocks", jQ_MB, dx_MB_end 35 (e := (65, .getfield 10, 3)) rfl, rfl, by decide, Or.inl jw_334, Or.inl rfl⟩
theorem can_MB_end : jCan lw_tbl y_MB_end 1 := ⟨jw_370, jw_1, by decide +kernel, by decide +kernel, by decide⟩
theorem dx_Arrs_fill (i : Nat) {e : Nat × Instr × Nat} (h : k_Arrs_fill[i]? = some e) : decode y_Arrs_fill.2.1 e.1 = .ok e.2 := dk_Arrs_fill e (List.mem_of_getElem? h)
theorem can_Arrs_fill : jCan lw_tbl y_Arrs_fill 2 := ⟨jw_391, jw_10, by decide +kernel, by decide +kernel, by decide⟩
/-- an array of ints: of kind α, at a, n places that hold f -/
def ArrI (B α : Nat) (σ : jS) (a n : Nat) (f : Nat → Int32) : Prop := ∃ w : Nat → Value, σ.1 a = some (α, n, w) ∧ (∀ i, i < n → w i = .int (f i)) ∧ B ≤ a
theorem ArrI.keep {B α a n : Nat} {σ σ' : jS} {ks : List Nat} {f : Nat → Int32} (h : ArrI B α σ a n f) (hk : jK ks σ σ') (h1 : α ∉ ks) : ArrI B α σ' a n f := by
  obtain ⟨w, q1, q2⟩ := h
  exact ⟨w, hk _ _ _ _ q1 h1, q2⟩
theorem RowAt.cell {B τ α k n : Nat} {σ : jS} {xs : List Int32} (h : RowAt B τ α σ k n xs) : ∃ v : Nat → Value, σ.1 k = some (τ, 2, v) := by
  obtain ⟨h0, v, w, q1, _⟩ := h
  exact ⟨v, q1⟩
/-- the object itself: where its parts are, lines, faultLine -/
def MBAt (B : Nat) (σ : jS) (m tp rd tr lb ln re : Nat) (li fa : Int32) : Prop := ∃ v : Nat → Value, σ.1 m = some (0, 8, v) ∧ v 0 = .ref tp ∧ v 1 = .ref rd ∧ v 2 = .ref tr ∧ v 3 = .ref lb ∧ v 4 = .ref ln ∧ v 5 = .ref re ∧ v 6 = .int li ∧ v 7 = .int fa ∧ B ≤ m
theorem MBAt.keep {B m tp rd tr lb ln re : Nat} {li fa : Int32} {σ σ' : jS} {ks : List Nat} (h : MBAt B σ m tp rd tr lb ln re li fa) (hk : jK ks σ σ') (h1 : 0 ∉ ks) : MBAt B σ' m tp rd tr lb ln re li fa := by
  obtain ⟨v, q1, q2⟩ := h
  exact ⟨v, hk _ _ _ _ q1 h1, q2⟩
/-- byte i of a number, the highest first -/
def byteOf (b : Int32) (i : Nat) : Int32 := (b.toUInt32 >>> ((24 - 8 * nI i).toUInt32 &&& Int32.toUInt32 31)).toInt32 &&& 255
section MB1
variable {l : Launch} {s0 : State} {D : va_G} {cA : Nat → ClassId} {a0 : Array Value} {d : Nat}
theorem e_fill5 (F : jOK s0 jcl D cA lw_tbl a0 jty) {α a n : Nat} (hα : 1000 ≤ α) (hty : jty α = .int) (hn : n < 2 ^ 31) (x : Int32) {Φ : Option Value → jS → Prop} : ∀ (k i : Nat) (σ : jS) (f : Nat → Int32), i + k = n → jI s0.heap.size σ → ArrI s0.heap.size α σ a n f → (∀ σ' : jS, jI s0.heap.size σ' → jK [α] σ σ' → σ'.2 = σ.2 → ArrI s0.heap.size α σ' a n (fun j => if i ≤ j then x else f j) → Φ none σ') → jW l s0 jcl D cA d y_Arrs_fill 5 [some (.ref a), some (.int x), some (.int (nI i)), some (.int (nI n))] [] σ Φ := by
  intro k
  induction k with
  | zero =>
    intro i σ f hk hI hA hΦ
    obtain ⟨w, h1, h2, h3⟩ := hA
    refine jW.iload_n (dx_Arrs_fill 5 (e := (5, .iload_n 2, 1)) rfl) rfl rfl (pc' := 6) rfl ?_
    refine jW.iload_n (dx_Arrs_fill 6 (e := (6, .iload_n 3, 1)) rfl) rfl rfl (pc' := 7) rfl ?_
    refine jW.icmp_ge (dx_Arrs_fill 7 (e := (7, .if_icmp .ge 13, 3)) rfl) 20 (by decide) (pc' := 10) rfl (fun c_7 => ?_) (fun c_7 => ?_)
    · refine jW.vret (dx_Arrs_fill 14 (e := (20, .return_, 1)) rfl) rfl ?_
      exact hΦ σ hI jK.rfl rfl ⟨w, h1, fun j hj => by dsimp only; rw [if_neg (by omega)]; exact h2 j hj, h3⟩
    · exact absurd ((nI_leI (by omega) (by omega)).mpr (by omega)) c_7
  | succ k ih =>
    intro i σ f hk hI hA hΦ
    obtain ⟨w, h1, h2, h3⟩ := hA
    refine jW.iload_n (dx_Arrs_fill 5 (e := (5, .iload_n 2, 1)) rfl) rfl rfl (pc' := 6) rfl ?_
    refine jW.iload_n (dx_Arrs_fill 6 (e := (6, .iload_n 3, 1)) rfl) rfl rfl (pc' := 7) rfl ?_
    refine jW.icmp_ge (dx_Arrs_fill 7 (e := (7, .if_icmp .ge 13, 3)) rfl) 20 (by decide) (pc' := 10) rfl (fun c_7 => ?_) (fun c_7 => ?_)
    · exact absurd ((nI_leI (by omega) (by omega)).mp c_7) (by omega)
    · refine jW.aload_n (dx_Arrs_fill 8 (e := (10, .aload_n 0, 1)) rfl) rfl rfl (pc' := 11) rfl ?_
      refine jW.iload_n (dx_Arrs_fill 9 (e := (11, .iload_n 2, 1)) rfl) rfl rfl (pc' := 12) rfl ?_
      refine jW.iload_n (dx_Arrs_fill 10 (e := (12, .iload_n 1, 1)) rfl) rfl rfl (pc' := 13) rfl ?_
      refine jW.iast (t := α) F (dx_Arrs_fill 11 (e := (13, .iastore, 1)) rfl) hα hty h1 h3 (vp_in_nI (by omega) (by omega)) (by rw [nI_clamp (by omega)]) (pc' := 14) rfl ?_
      refine jW.iinc (v := nI (i + 1)) (dx_Arrs_fill 12 (e := (14, .iinc 2 1, 3)) rfl) rfl (nI_1 i) (by decide) rfl (pc' := 17) rfl ?_
      refine jW.goto (dx_Arrs_fill 13 (e := (17, .goto (-12), 3)) rfl) 5 (by decide) ?_
      refine ih (i + 1) _ (fun j => if j = i then x else f j) (by omega) (hI.put h1) ⟨_, jput_at _ _ _, ?_, h3⟩ (fun σ' z1 z2 z3 z4 => hΦ σ' z1 ((jK.put h1 (by simp)).trans z2) z3 ?_)
      · intro j hj
        by_cases e : j = i
        · subst e; rw [updV_at]; dsimp only; rw [if_pos rfl]
        · rw [updV_ne e]; dsimp only; rw [if_neg e]; exact h2 j hj
      · obtain ⟨w', g1, g2, g3⟩ := z4
        refine ⟨w', g1, fun j hj => ?_, g3⟩
        rw [g2 j hj]
        dsimp only
        by_cases e : i + 1 ≤ j
        · rw [if_pos e, if_pos (by omega)]
        · rw [if_neg e]
          by_cases e2 : j = i
          · rw [if_pos e2, if_pos (by omega)]
          · rw [if_neg e2, if_neg (by omega)]
theorem e_Arrs_fill (F : jOK s0 jcl D cA lw_tbl a0 jty) {σ : jS} {α a n : Nat} {f : Nat → Int32} (hα : 1000 ≤ α) (hty : jty α = .int) (hn : n < 2 ^ 31) (x : Int32) (hI : jI s0.heap.size σ) (hA : ArrI s0.heap.size α σ a n f) : jE l s0 jcl D cA d y_Arrs_fill [.ref a, .int x] σ (fun r σ' => r = none ∧ jI s0.heap.size σ' ∧ jK [α] σ σ' ∧ σ'.2 = σ.2 ∧ ArrI s0.heap.size α σ' a n (fun _ => x)) := by
  have hA0 := hA
  obtain ⟨w, h1, h2, h3⟩ := hA
  refine jE.ofF (by decide +kernel) (by simp [Value.category]) (Nat.le_of_ble_eq_true rfl) rfl ?_
  refine jW.iconst (v := 0) (dx_Arrs_fill 0 (e := (0, .iconst 0, 1)) rfl) (by decide) (pc' := 1) rfl ?_
  refine jW.istore_n (dx_Arrs_fill 1 (e := (1, .istore_n 2, 1)) rfl) rfl (by decide) rfl (pc' := 2) rfl ?_
  refine jW.aload_n (dx_Arrs_fill 2 (e := (2, .aload_n 0, 1)) rfl) rfl rfl (pc' := 3) rfl ?_
  refine jW.alen (t := α) (i := nI n) F (dx_Arrs_fill 3 (e := (3, .arraylength, 1)) rfl) hα h1 rfl (pc' := 4) rfl ?_
  refine jW.istore_n (dx_Arrs_fill 4 (e := (4, .istore_n 3, 1)) rfl) rfl (by decide) rfl (pc' := 5) rfl ?_
  exact e_fill5 F hα hty hn x n 0 σ f (by omega) hI hA0 (fun σ' z1 z2 z3 z4 => ⟨rfl, z1, z2, z3, by
      obtain ⟨w', g1, g2, g3⟩ := z4
      exact ⟨w', g1, fun j hj => by rw [g2 j hj]; dsimp only; rw [if_pos (Nat.zero_le j)], g3⟩⟩)
theorem e_put2 (F : jOK s0 jcl D cA lw_tbl a0 jty) {m tp rd tr lb ln re c : Nat} {li fa : Int32} (hc : c ≤ 16) (b : Int32) {Φ : Option Value → jS → Prop} : ∀ (k i : Nat) (σ : jS) (f : Nat → Int32), i + k = 4 → jI s0.heap.size σ → MBAt s0.heap.size σ m tp rd tr lb ln re li fa → ArrI s0.heap.size 1015 σ rd 20 f → (∀ σ' : jS, jI s0.heap.size σ' → jK [1015] σ σ' → σ'.2 = σ.2 → ArrI s0.heap.size 1015 σ' rd 20 (fun j => if c + i ≤ j ∧ j < c + 4 then byteOf b (j - c) else f j) → Φ none σ') → jW l s0 jcl D cA d y_MB_putReady 2 [some (.ref m), some (.int (nI c)), some (.int b), some (.int (nI i))] [] σ Φ := by
  intro k
  induction k with
  | zero =>
    intro i σ f hk hI hM hA hΦ
    obtain ⟨w, h1, h2, h3⟩ := hA
    refine jW.iload_n (dx_MB_putReady 2 (e := (2, .iload_n 3, 1)) rfl) rfl rfl (pc' := 3) rfl ?_
    refine jW.iconst (v := 4) (dx_MB_putReady 3 (e := (3, .iconst 4, 1)) rfl) (by decide) (pc' := 4) rfl ?_
    refine jW.icmp_ge (dx_MB_putReady 4 (e := (4, .if_icmp .ge 41, 3)) rfl) 45 (by decide) (pc' := 7) rfl (fun c_4 => ?_) (fun c_4 => ?_)
    · refine jW.vret (dx_MB_putReady 29 (e := (45, .return_, 1)) rfl) rfl ?_
      exact hΦ σ hI jK.rfl rfl ⟨w, h1, fun j hj => by dsimp only; rw [if_neg (by omega)]; exact h2 j hj, h3⟩
    · exact absurd ((nI_leI (a := 4) (by omega) (by omega)).mpr (by omega)) c_4
  | succ k ih =>
    intro i σ f hk hI hM hA hΦ
    have hM0 := hM
    obtain ⟨w, h1, h2, h3⟩ := hA
    obtain ⟨v, m1, m2, m3, m4, m5, m6, m7, m8, m9, m10⟩ := hM
    refine jW.iload_n (dx_MB_putReady 2 (e := (2, .iload_n 3, 1)) rfl) rfl rfl (pc' := 3) rfl ?_
    refine jW.iconst (v := 4) (dx_MB_putReady 3 (e := (3, .iconst 4, 1)) rfl) (by decide) (pc' := 4) rfl ?_
    refine jW.icmp_ge (dx_MB_putReady 4 (e := (4, .if_icmp .ge 41, 3)) rfl) 45 (by decide) (pc' := 7) rfl (fun c_4 => ?_) (fun c_4 => ?_)
    · exact absurd ((nI_leI (a := 4) (by omega) (by omega)).mp c_4) (by omega)
    · refine jW.iload_n (dx_MB_putReady 5 (e := (7, .iload_n 1, 1)) rfl) rfl rfl (pc' := 8) rfl ?_
      refine jW.iload_n (dx_MB_putReady 6 (e := (8, .iload_n 3, 1)) rfl) rfl rfl (pc' := 9) rfl ?_
      refine jW.iadd (dx_MB_putReady 7 (e := (9, .iadd, 1)) rfl) (pc' := 10) rfl ?_
      rw [nI_add]
      refine jW.aload_n (dx_MB_putReady 8 (e := (10, .aload_n 0, 1)) rfl) rfl rfl (pc' := 11) rfl ?_
      refine jW.getf F f_MB_putReady_11 (by assumption) (by assumption) (pc' := 14) rfl ?_
      refine jW.alen (t := 1015) (i := nI 20) F (dx_MB_putReady 10 (e := (14, .arraylength, 1)) rfl) (by decide) h1 rfl (pc' := 15) rfl ?_
      refine jW.icmp_ge (dx_MB_putReady 11 (e := (15, .if_icmp .ge 24, 3)) rfl) 39 (by decide) (pc' := 18) rfl (fun c_15 => ?_) (fun c_15 => ?_)
      · exact absurd ((nI_leI (by omega) (by omega)).mp c_15) (by omega)
      · refine jW.aload_n (dx_MB_putReady 12 (e := (18, .aload_n 0, 1)) rfl) rfl rfl (pc' := 19) rfl ?_
        refine jW.getf F f_MB_putReady_19 (by assumption) (by assumption) (pc' := 22) rfl ?_
        refine jW.iload_n (dx_MB_putReady 14 (e := (22, .iload_n 1, 1)) rfl) rfl rfl (pc' := 23) rfl ?_
        refine jW.iload_n (dx_MB_putReady 15 (e := (23, .iload_n 3, 1)) rfl) rfl rfl (pc' := 24) rfl ?_
        refine jW.iadd (dx_MB_putReady 16 (e := (24, .iadd, 1)) rfl) (pc' := 25) rfl ?_
        rw [nI_add]
        refine jW.iload_n (dx_MB_putReady 17 (e := (25, .iload_n 2, 1)) rfl) rfl rfl (pc' := 26) rfl ?_
        refine jW.bipush (v := 24) (dx_MB_putReady 18 (e := (26, .bipush 24, 2)) rfl) (by decide) (pc' := 28) rfl ?_
        refine jW.bipush (v := 8) (dx_MB_putReady 19 (e := (28, .bipush 8, 2)) rfl) (by decide) (pc' := 30) rfl ?_
        refine jW.iload_n (dx_MB_putReady 20 (e := (30, .iload_n 3, 1)) rfl) rfl rfl (pc' := 31) rfl ?_
        refine jW.imul (dx_MB_putReady 21 (e := (31, .imul, 1)) rfl) (pc' := 32) rfl ?_
        refine jW.isub (dx_MB_putReady 22 (e := (32, .isub, 1)) rfl) (pc' := 33) rfl ?_
        refine jW.iushr (dx_MB_putReady 23 (e := (33, .iushr, 1)) rfl) rfl (pc' := 34) rfl ?_
        refine jW.sipush (v := 255) (dx_MB_putReady 24 (e := (34, .sipush 255, 3)) rfl) (by decide) (pc' := 37) rfl ?_
        refine jW.iand (dx_MB_putReady 25 (e := (37, .iand, 1)) rfl) (pc' := 38) rfl ?_
        refine jW.iast (t := 1015) F (dx_MB_putReady 26 (e := (38, .iastore, 1)) rfl) (by decide) rfl h1 h3 (vp_in_nI (by omega) (by omega)) (by rw [nI_clamp (by omega)]) (pc' := 39) rfl ?_
        refine jW.iinc (v := nI (i + 1)) (dx_MB_putReady 27 (e := (39, .iinc 3 1, 3)) rfl) rfl (nI_1 i) (by decide) rfl (pc' := 42) rfl ?_
        refine jW.goto (dx_MB_putReady 28 (e := (42, .goto (-40), 3)) rfl) 2 (by decide) ?_
        refine ih (i + 1) _ (fun j => if j = c + i then byteOf b i else f j) (by omega) (hI.put h1) (hM0.keep (jK.put (ks := [1015]) h1 (by simp)) (by decide)) ⟨_, jput_at _ _ _, ?_, h3⟩ (fun σ' z1 z2 z3 z4 => hΦ σ' z1 ((jK.put h1 (by simp)).trans z2) z3 ?_)
        · intro j hj
          by_cases e : j = c + i
          · subst e; rw [updV_at]; dsimp only; rw [if_pos rfl]; rfl
          · rw [updV_ne e]; dsimp only; rw [if_neg e]; exact h2 j hj
        · obtain ⟨w', g1, g2, g3⟩ := z4
          refine ⟨w', g1, fun j hj => ?_, g3⟩
          rw [g2 j hj]
          dsimp only
          by_cases e : c + (i + 1) ≤ j ∧ j < c + 4
          · rw [if_pos e, if_pos (by omega)]
          · rw [if_neg e]
            by_cases e2 : j = c + i
            · rw [if_pos e2, if_pos (by omega), show j - c = i by omega]
            · rw [if_neg e2, if_neg (by omega)]
/-- four of the characters that are ready -/
def put4 (f : Nat → Int32) (c : Nat) (b : Int32) : Nat → Int32 := fun j => if c ≤ j ∧ j < c + 4 then byteOf b (j - c) else f j
theorem e_MB_putReady (F : jOK s0 jcl D cA lw_tbl a0 jty) {σ : jS} {m tp rd tr lb ln re c : Nat} {li fa : Int32} {f : Nat → Int32} (hc : c ≤ 16) (b : Int32) (hI : jI s0.heap.size σ) (hM : MBAt s0.heap.size σ m tp rd tr lb ln re li fa) (hA : ArrI s0.heap.size 1015 σ rd 20 f) : jE l s0 jcl D cA d y_MB_putReady [.ref m, .int (nI c), .int b] σ (fun r σ' => r = none ∧ jI s0.heap.size σ' ∧ jK [1015] σ σ' ∧ σ'.2 = σ.2 ∧ ArrI s0.heap.size 1015 σ' rd 20 (put4 f c b)) := by
  refine jE.of (by decide) (by simp [Value.category]) (Nat.le_of_ble_eq_true rfl) rfl ?_
  refine jW.iconst (v := 0) (dx_MB_putReady 0 (e := (0, .iconst 0, 1)) rfl) (by decide) (pc' := 1) rfl ?_
  refine jW.istore_n (dx_MB_putReady 1 (e := (1, .istore_n 3, 1)) rfl) rfl (by decide) rfl (pc' := 2) rfl ?_
  exact e_put2 F hc b 4 0 σ f (by omega) hI hM hA (fun σ' z1 z2 z3 z4 => ⟨rfl, z1, z2, z3, z4⟩)
theorem e_MB_feed (F : jOK s0 jcl D cA lw_tbl a0 jty) {σ : jS} {m tp rd tr lb ln re : Nat} {li fa : Int32} {f : Nat → Int32} (b0 b1 b2 b3 b4 : Int32) (hI : jI s0.heap.size σ) (hM : MBAt s0.heap.size σ m tp rd tr lb ln re li fa) (hA : ArrI s0.heap.size 1015 σ rd 20 f) : jE l s0 jcl D cA (d + 1) y_MB_feed [.ref m, .int b0, .int b1, .int b2, .int b3, .int b4] σ (fun r σ' => r = none ∧ jI s0.heap.size σ' ∧ jK [1015] σ σ' ∧ σ'.2 = σ.2 ∧ ArrI s0.heap.size 1015 σ' rd 20 (put4 (put4 (put4 (put4 (put4 f 0 b0) 4 b1) 8 b2) 12 b3) 16 b4)) := by
  refine jE.of (by decide) (by simp [Value.category]) (Nat.le_of_ble_eq_true rfl) rfl ?_
  refine jW.aload_n (dx_MB_feed 0 (e := (0, .aload_n 0, 1)) rfl) rfl rfl (pc' := 1) rfl ?_
  refine jW.iconst (v := 0) (dx_MB_feed 1 (e := (1, .iconst 0, 1)) rfl) (by decide) (pc' := 2) rfl ?_
  refine jW.iload_n (dx_MB_feed 2 (e := (2, .iload_n 1, 1)) rfl) rfl rfl (pc' := 3) rfl ?_
  have hM0 := hM
  have hv0 := hM0
  obtain ⟨v0, m0, _⟩ := hv0
  refine jW.callV F (e_MB_putReady (c := 0) F (by decide) b0 hI hM0 hA) (dx_MB_feed 3 (e := (3, .invokevirtual 62, 3)) rfl) can_MB_putReady jw_363 jw_365 (by assumption) rfl sel_MB_putReady rfl rfl (Nat.le_of_ble_eq_true rfl) (pc' := 6) rfl (fun r σ1 hr => ?_)
  obtain ⟨rfl, z0_1, z0_2, z0_3, z0_4⟩ := hr
  refine jW.aload_n (dx_MB_feed 4 (e := (6, .aload_n 0, 1)) rfl) rfl rfl (pc' := 7) rfl ?_
  refine jW.iconst (v := 4) (dx_MB_feed 5 (e := (7, .iconst 4, 1)) rfl) (by decide) (pc' := 8) rfl ?_
  refine jW.iload_n (dx_MB_feed 6 (e := (8, .iload_n 2, 1)) rfl) rfl rfl (pc' := 9) rfl ?_
  have hM1 := hM0.keep z0_2 (by decide)
  have hv1 := hM1
  obtain ⟨v1, m1, _⟩ := hv1
  refine jW.callV F (e_MB_putReady (c := 4) F (by decide) b1 z0_1 hM1 z0_4) (dx_MB_feed 7 (e := (9, .invokevirtual 62, 3)) rfl) can_MB_putReady jw_363 jw_365 (by assumption) rfl sel_MB_putReady rfl rfl (Nat.le_of_ble_eq_true rfl) (pc' := 12) rfl (fun r σ1 hr => ?_)
  obtain ⟨rfl, z1_1, z1_2, z1_3, z1_4⟩ := hr
  refine jW.aload_n (dx_MB_feed 8 (e := (12, .aload_n 0, 1)) rfl) rfl rfl (pc' := 13) rfl ?_
  refine jW.bipush (v := 8) (dx_MB_feed 9 (e := (13, .bipush 8, 2)) rfl) (by decide) (pc' := 15) rfl ?_
  refine jW.iload_n (dx_MB_feed 10 (e := (15, .iload_n 3, 1)) rfl) rfl rfl (pc' := 16) rfl ?_
  have hM2 := hM1.keep z1_2 (by decide)
  have hv2 := hM2
  obtain ⟨v2, m2, _⟩ := hv2
  refine jW.callV F (e_MB_putReady (c := 8) F (by decide) b2 z1_1 hM2 z1_4) (dx_MB_feed 11 (e := (16, .invokevirtual 62, 3)) rfl) can_MB_putReady jw_363 jw_365 (by assumption) rfl sel_MB_putReady rfl rfl (Nat.le_of_ble_eq_true rfl) (pc' := 19) rfl (fun r σ1 hr => ?_)
  obtain ⟨rfl, z2_1, z2_2, z2_3, z2_4⟩ := hr
  refine jW.aload_n (dx_MB_feed 12 (e := (19, .aload_n 0, 1)) rfl) rfl rfl (pc' := 20) rfl ?_
  refine jW.bipush (v := 12) (dx_MB_feed 13 (e := (20, .bipush 12, 2)) rfl) (by decide) (pc' := 22) rfl ?_
  refine jW.iload (dx_MB_feed 14 (e := (22, .iload 4, 2)) rfl) rfl (pc' := 24) rfl ?_
  have hM3 := hM2.keep z2_2 (by decide)
  have hv3 := hM3
  obtain ⟨v3, m3, _⟩ := hv3
  refine jW.callV F (e_MB_putReady (c := 12) F (by decide) b3 z2_1 hM3 z2_4) (dx_MB_feed 15 (e := (24, .invokevirtual 62, 3)) rfl) can_MB_putReady jw_363 jw_365 (by assumption) rfl sel_MB_putReady rfl rfl (Nat.le_of_ble_eq_true rfl) (pc' := 27) rfl (fun r σ1 hr => ?_)
  obtain ⟨rfl, z3_1, z3_2, z3_3, z3_4⟩ := hr
  refine jW.aload_n (dx_MB_feed 16 (e := (27, .aload_n 0, 1)) rfl) rfl rfl (pc' := 28) rfl ?_
  refine jW.bipush (v := 16) (dx_MB_feed 17 (e := (28, .bipush 16, 2)) rfl) (by decide) (pc' := 30) rfl ?_
  refine jW.iload (dx_MB_feed 18 (e := (30, .iload 5, 2)) rfl) rfl (pc' := 32) rfl ?_
  have hM4 := hM3.keep z3_2 (by decide)
  have hv4 := hM4
  obtain ⟨v4, m4, _⟩ := hv4
  refine jW.callV F (e_MB_putReady (c := 16) F (by decide) b4 z3_1 hM4 z3_4) (dx_MB_feed 19 (e := (32, .invokevirtual 62, 3)) rfl) can_MB_putReady jw_363 jw_365 (by assumption) rfl sel_MB_putReady rfl rfl (Nat.le_of_ble_eq_true rfl) (pc' := 35) rfl (fun r σ1 hr => ?_)
  obtain ⟨rfl, z4_1, z4_2, z4_3, z4_4⟩ := hr
  refine jW.vret (dx_MB_feed 20 (e := (35, .return_, 1)) rfl) rfl ?_
  exact ⟨rfl, z4_1, z0_2.trans (z1_2.trans (z2_2.trans (z3_2.trans z4_2))), by rw [z4_3, z3_3, z2_3, z1_3, z0_3], z4_4⟩
theorem e_MB_wipe (F : jOK s0 jcl D cA lw_tbl a0 jty) {σ : jS} {m tp rd tr lb ln re n : Nat} {li fa : Int32} {xs : List Int32} (hI : jI s0.heap.size σ) (hM : MBAt s0.heap.size σ m tp rd tr lb ln re li fa) (hT : RowAt s0.heap.size 1 1010 σ tp n xs) : jE l s0 jcl D cA (d + 1) y_MB_wipe [.ref m] σ (fun r σ' => r = none ∧ jI s0.heap.size σ' ∧ jK [1] σ σ' ∧ σ'.2 = σ.2 ∧ RowAt s0.heap.size 1 1010 σ' tp n []) := by
  obtain ⟨v, m1, m2, m3, m4, m5, m6, m7, m8, m9, m10⟩ := hM
  obtain ⟨vt, ht⟩ := hT.cell
  refine jE.of (by decide) (by simp [Value.category]) (Nat.le_of_ble_eq_true rfl) rfl ?_
  refine jW.aload_n (dx_MB_wipe 0 (e := (0, .aload_n 0, 1)) rfl) rfl rfl (pc' := 1) rfl ?_
  refine jW.getf F f_MB_wipe_1 (by assumption) (by assumption) (pc' := 4) rfl ?_
  refine jW.iconst (v := 0) (dx_MB_wipe 2 (e := (4, .iconst 0, 1)) rfl) (by decide) (pc' := 5) rfl ?_
  refine jW.callV F (e_Row_cut F hI rfl (by decide) rfl hT 0) (dx_MB_wipe 3 (e := (5, .invokevirtual 80, 3)) rfl) can_Row_cut jw_396 jw_397 (by assumption) rfl jw_398 rfl rfl (Nat.le_of_ble_eq_true rfl) (pc' := 8) rfl (fun r σ1 hr => ?_)
  obtain ⟨rfl, z1, z2, z3, z4⟩ := hr
  refine jW.vret (dx_MB_wipe 4 (e := (8, .return_, 1)) rfl) rfl ?_
  exact ⟨rfl, z1, z2, z3, z4⟩
theorem e_MB_fault (F : jOK s0 jcl D cA lw_tbl a0 jty) {σ : jS} {m tp rd tr lb ln re : Nat} {li fa : Int32} (hM : MBAt s0.heap.size σ m tp rd tr lb ln re li fa) : jE l s0 jcl D cA d y_MB_fault [.ref m] σ (fun r σ' => r = some (.int fa) ∧ σ' = σ) := by
  obtain ⟨v, m1, m2, m3, m4, m5, m6, m7, m8, m9, m10⟩ := hM
  refine jE.of (by decide) (by simp [Value.category]) (Nat.le_of_ble_eq_true rfl) rfl ?_
  refine jW.aload_n (dx_MB_fault 0 (e := (0, .aload_n 0, 1)) rfl) rfl rfl (pc' := 1) rfl ?_
  refine jW.getf F f_MB_fault_1 (by assumption) (by assumption) (pc' := 4) rfl ?_
  refine jW.iret (dx_MB_fault 2 (e := (4, .ireturn, 1)) rfl) rfl ?_
  exact ⟨rfl, rfl⟩
end MB1
