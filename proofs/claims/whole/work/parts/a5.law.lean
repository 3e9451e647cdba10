abbrev y_law : jM := (⟨"MarkBlocksLaw", "law", "([I)Z"⟩, code, 7, some .boolean)
def k_law : List (Nat × Instr × Nat) := [(0, .new 8, 3), (3, .dup, 1), (4, .invokespecial 15, 3), (7, .astore_n 1, 1), (8, .new 16, 3), (11, .dup, 1), (12, .invokespecial 18, 3), (15, .astore_n 2, 1), (16, .iconst 1, 1), (17, .newarray .long, 2), (19, .astore_n 3, 1), (20, .iconst 0, 1), (21, .istore 4, 2), (23, .iload 4, 2), (25, .aload_n 0, 1), (26, .arraylength, 1), (27, .bipush 6, 2), (29, .isub, 1), (30, .if_icmp .gt 483, 3), (33, .aload_n 0, 1), (34, .iload 4, 2), (36, .iaload, 1), (37, .bipush 15, 2), (39, .iand, 1), (40, .tableswitch 467 0 11 #[64, 135, 160, 171, 215, 228, 265, 330, 343, 380, 429, 442], 64), (104, .aload_n 1, 1), (105, .aload_n 0, 1), (106, .iload 4, 2), (108, .iconst 1, 1), (109, .iadd, 1), (110, .iaload, 1), (111, .aload_n 0, 1), (112, .iload 4, 2), (114, .iconst 2, 1), (115, .iadd, 1), (116, .iaload, 1), (117, .aload_n 0, 1), (118, .iload 4, 2), (120, .iconst 3, 1), (121, .iadd, 1), (122, .iaload, 1), (123, .aload_n 0, 1), (124, .iload 4, 2), (126, .iconst 4, 1), (127, .iadd, 1), (128, .iaload, 1), (129, .aload_n 0, 1), (130, .iload 4, 2), (132, .iconst 5, 1), (133, .iadd, 1), (134, .iaload, 1), (135, .invokevirtual 19, 3), (138, .aload_n 2, 1), (139, .aload_n 0, 1), (140, .iload 4, 2), (142, .iconst 1, 1), (143, .iadd, 1), (144, .iaload, 1), (145, .aload_n 0, 1), (146, .iload 4, 2), (148, .iconst 2, 1), (149, .iadd, 1), (150, .iaload, 1), (151, .aload_n 0, 1), (152, .iload 4, 2), (154, .iconst 3, 1), (155, .iadd, 1), (156, .iaload, 1), (157, .aload_n 0, 1), (158, .iload 4, 2), (160, .iconst 4, 1), (161, .iadd, 1), (162, .iaload, 1), (163, .aload_n 0, 1), (164, .iload 4, 2), (166, .iconst 5, 1), (167, .iadd, 1), (168, .iaload, 1), (169, .invokevirtual 23, 3), (172, .goto 335, 3), (175, .aload_n 1, 1), (176, .aload_n 0, 1), (177, .iload 4, 2), (179, .iconst 1, 1), (180, .iadd, 1), (181, .iaload, 1), (182, .invokevirtual 24, 3), (185, .aload_n 2, 1), (186, .aload_n 0, 1), (187, .iload 4, 2), (189, .iconst 1, 1), (190, .iadd, 1), (191, .iaload, 1), (192, .invokevirtual 28, 3), (195, .if_icmp .eq 312, 3), (198, .iconst 0, 1), (199, .ireturn, 1), (200, .aload_n 1, 1), (201, .invokevirtual 29, 3), (204, .aload_n 2, 1), (205, .invokevirtual 32, 3), (208, .goto 299, 3), (211, .aload_n 1, 1), (212, .aload_n 3, 1), (213, .invokestatic 33, 3), (216, .istore 5, 2), (218, .aload_n 2, 1), (219, .invokevirtual 38, 3), (222, .istore 6, 2), (224, .aload_n 2, 1), (225, .invokevirtual 39, 3), (228, .iload 5, 2), (230, .if_icmp .eq 5, 3), (233, .iconst 0, 1), (234, .ireturn, 1), (235, .iload 5, 2), (237, .ifCond .ne 15, 3), (240, .aload_n 3, 1), (241, .iconst 0, 1), (242, .laload, 1), (243, .iload 6, 2), (245, .i2l, 1), (246, .lcmp, 1), (247, .ifCond .eq 5, 3), (250, .iconst 0, 1), (251, .ireturn, 1), (252, .goto 255, 3), (255, .aload_n 1, 1), (256, .invokevirtual 42, 3), (259, .aload_n 2, 1), (260, .invokevirtual 45, 3), (263, .if_icmp .eq 244, 3), (266, .iconst 0, 1), (267, .ireturn, 1), (268, .aload_n 1, 1), (269, .aload_n 0, 1), (270, .iload 4, 2), (272, .iconst 1, 1), (273, .iadd, 1), (274, .iaload, 1), (275, .aload_n 0, 1), (276, .iload 4, 2), (278, .iconst 2, 1), (279, .iadd, 1), (280, .iaload, 1), (281, .invokevirtual 46, 3), (284, .aload_n 2, 1), (285, .aload_n 0, 1), (286, .iload 4, 2), (288, .iconst 1, 1), (289, .iadd, 1), (290, .iaload, 1), (291, .aload_n 0, 1), (292, .iload 4, 2), (294, .iconst 2, 1), (295, .iadd, 1), (296, .iaload, 1), (297, .invokevirtual 50, 3), (300, .if_icmp .eq 207, 3), (303, .iconst 0, 1), (304, .ireturn, 1), (305, .aload_n 1, 1), (306, .aload_n 0, 1), (307, .iload 4, 2), (309, .iconst 1, 1), (310, .iadd, 1), (311, .iaload, 1), (312, .aload_n 0, 1), (313, .iload 4, 2), (315, .iconst 2, 1), (316, .iadd, 1), (317, .iaload, 1), (318, .ifCond .eq 7, 3), (321, .iconst 1, 1), (322, .goto 4, 3), (325, .iconst 0, 1), (326, .aload_n 0, 1), (327, .iload 4, 2), (329, .iconst 3, 1), (330, .iadd, 1), (331, .iaload, 1), (332, .invokevirtual 51, 3), (335, .aload_n 2, 1), (336, .aload_n 0, 1), (337, .iload 4, 2), (339, .iconst 1, 1), (340, .iadd, 1), (341, .iaload, 1), (342, .aload_n 0, 1), (343, .iload 4, 2), (345, .iconst 2, 1), (346, .iadd, 1), (347, .iaload, 1), (348, .ifCond .eq 7, 3), (351, .iconst 1, 1), (352, .goto 4, 3), (355, .iconst 0, 1), (356, .aload_n 0, 1), (357, .iload 4, 2), (359, .iconst 3, 1), (360, .iadd, 1), (361, .iaload, 1), (362, .invokevirtual 55, 3), (365, .if_icmp .eq 142, 3), (368, .iconst 0, 1), (369, .ireturn, 1), (370, .aload_n 1, 1), (371, .invokevirtual 56, 3), (374, .aload_n 2, 1), (375, .invokevirtual 59, 3), (378, .if_icmp .eq 129, 3), (381, .iconst 0, 1), (382, .ireturn, 1), (383, .aload_n 1, 1), (384, .aload_n 0, 1), (385, .iload 4, 2), (387, .iconst 1, 1), (388, .iadd, 1), (389, .iaload, 1), (390, .aload_n 0, 1), (391, .iload 4, 2), (393, .iconst 2, 1), (394, .iadd, 1), (395, .iaload, 1), (396, .invokevirtual 60, 3), (399, .aload_n 2, 1), (400, .aload_n 0, 1), (401, .iload 4, 2), (403, .iconst 1, 1), (404, .iadd, 1), (405, .iaload, 1), (406, .aload_n 0, 1), (407, .iload 4, 2), (409, .iconst 2, 1), (410, .iadd, 1), (411, .iaload, 1), (412, .invokevirtual 63, 3), (415, .if_icmp .eq 92, 3), (418, .iconst 0, 1), (419, .ireturn, 1), (420, .aload_n 1, 1), (421, .aload_n 0, 1), (422, .iload 4, 2), (424, .iconst 1, 1), (425, .iadd, 1), (426, .iaload, 1), (427, .aload_n 0, 1), (428, .iload 4, 2), (430, .iconst 2, 1), (431, .iadd, 1), (432, .iaload, 1), (433, .aload_n 0, 1), (434, .iload 4, 2), (436, .iconst 3, 1), (437, .iadd, 1), (438, .iaload, 1), (439, .invokevirtual 64, 3), (442, .aload_n 2, 1), (443, .aload_n 0, 1), (444, .iload 4, 2), (446, .iconst 1, 1), (447, .iadd, 1), (448, .iaload, 1), (449, .aload_n 0, 1), (450, .iload 4, 2), (452, .iconst 2, 1), (453, .iadd, 1), (454, .iaload, 1), (455, .aload_n 0, 1), (456, .iload 4, 2), (458, .iconst 3, 1), (459, .iadd, 1), (460, .iaload, 1), (461, .invokevirtual 68, 3), (464, .if_icmp .eq 43, 3), (467, .iconst 0, 1), (468, .ireturn, 1), (469, .aload_n 1, 1), (470, .invokevirtual 69, 3), (473, .aload_n 2, 1), (474, .invokevirtual 72, 3), (477, .if_icmp .eq 30, 3), (480, .iconst 0, 1), (481, .ireturn, 1), (482, .aload_n 1, 1), (483, .aload_n 0, 1), (484, .iload 4, 2), (486, .iconst 1, 1), (487, .iadd, 1), (488, .iaload, 1), (489, .invokevirtual 73, 3), (492, .aload_n 2, 1), (493, .aload_n 0, 1), (494, .iload 4, 2), (496, .iconst 1, 1), (497, .iadd, 1), (498, .iaload, 1), (499, .invokevirtual 76, 3), (502, .if_icmp .eq 5, 3), (505, .iconst 0, 1), (506, .ireturn, 1), (507, .iinc 4 6, 3), (510, .goto (-487), 3), (513, .iconst 1, 1), (514, .ireturn, 1)]
theorem dk_law : ∀ e ∈ k_law, decode code e.1 = .ok e.2 := by decide +kernel
theorem dx_law (i : Nat) {e : Nat × Instr × Nat} (h : k_law[i]? = some e) : decode y_law.2.1 e.1 = .ok e.2 := dk_law e (List.mem_of_getElem? h)
abbrev y_Law_read : jM := (⟨"MarkBlocksLaw", "read", "(LMarkBlocks;[J)I"⟩, method_3_code, 3, some .int)
def k_Law_read : List (Nat × Instr × Nat) := [(0, .aload_n 1, 1), (1, .iconst 0, 1), (2, .aload_n 0, 1), (3, .invokevirtual 7, 3), (6, .i2l, 1), (7, .lastore, 1), (8, .goto 6, 3), (11, .astore_n 2, 1), (12, .iconst 1, 1), (13, .ireturn, 1), (14, .iconst 0, 1), (15, .ireturn, 1)]
theorem dk_Law_read : ∀ e ∈ k_Law_read, decode method_3_code e.1 = .ok e.2 := by decide +kernel
theorem dx_Law_read (i : Nat) {e : Nat × Instr × Nat} (h : k_Law_read[i]? = some e) : decode y_Law_read.2.1 e.1 = .ok e.2 := dk_Law_read e (List.mem_of_getElem? h)
section MOVES
variable {l : Launch} {s0 : State} {D : va_G} {cA : Nat → ClassId}
abbrev xB (l : Launch) (s0 : State) (D : va_G) (cA : Nat → ClassId) (ad : Nat → Nat) (σ : jS) (n z : Nat) : CX := (l, s0, D, cA, ad, σ, n, z)
abbrev yB (l : Launch) (s0 : State) (D : va_G) (cA : Nat → ClassId) (o : Nat) (ar : Nat → Nat) : MX := (l, s0, D, cA, (o, ar), (fun _ => none, 0, 0))
/-- cells of other kinds have changed, cells have come: the class's view moves up -/
theorem CV.re {ad : Nat → Nat} {σb σ σ2 : jS} {n z n2 z2 : Nat} {c : CS} {ks : List Nat} (h : CV (xB l s0 D cA ad σb n z) c σ) (hK : jK ks σ σ2) (hks : ∀ t ∈ ks, t ∉ cKs) (hI : jI s0.heap.size σ2) (h1 : σ2.2.1 + n ≤ σ.2.1 + n2) (h2 : σ2.2.2 + z ≤ σ.2.2 + z2) : CV (xB l s0 D cA ad σ2 n2 z2) c σ2 := by
  have hn : ∀ t, t ∈ cKs → t ∉ ks := fun t ht q => hks t q ht
  obtain ⟨nr, ed, cp, i0, j1, ⟨s0', s2, s4, s5, s6⟩, ⟨r1, r10, r11, r12, r13⟩, hl, hop, hy, hb, hr⟩ := h
  refine ⟨nr, ed, cp, hI, jK.rfl, ⟨s0'.keep hK (hn _ (by decide)) (fun _ _ => rfl), s2.keep hK (hn _ (by decide)) (fun _ _ => rfl), s4.keep hK (hn _ (by decide)) (fun _ _ => rfl), s5.keep hK (hn _ (by decide)) (fun _ _ => rfl), s6.keep hK (hn _ (by decide)) (fun _ _ => rfl)⟩, ⟨r1.keep hK (hn _ (by decide)) (hn _ (by decide)), r10.keep hK (hn _ (by decide)) (hn _ (by decide)), r11.keep hK (hn _ (by decide)) (hn _ (by decide)), r12.keep hK (hn _ (by decide)) (hn _ (by decide)), r13.keep hK (hn _ (by decide)) (hn _ (by decide))⟩, hl.keep hK (hn _ (by decide)) (hn _ (by decide)) (hn _ (by decide)), hop.keep hK (hn _ (by decide)) rfl (fun _ _ => rfl) (Nat.le_refl _), hy.keep hK (hn _ (by decide)), hb, ?_⟩
  obtain ⟨z1, z2'⟩ := hr
  have e1 : σ.2.1 ≤ n + (nr 1 + nr 10 + nr 11 + nr 12 + nr 13) + c.2.2 + cp := z1
  have e2 : σ.2.2 ≤ z + 2 * (nr 1 + nr 10 + nr 11 + nr 12 + nr 13) + 14 * c.2.2 + 4 * cp := z2'
  refine ⟨?_, ?_⟩
  · show σ2.2.1 ≤ n2 + (nr 1 + nr 10 + nr 11 + nr 12 + nr 13) + c.2.2 + cp
    omega
  · show σ2.2.2 ≤ z2 + 2 * (nr 1 + nr 10 + nr 11 + nr 12 + nr 13) + 14 * c.2.2 + 4 * cp
    omega
theorem CV.base {ad : Nat → Nat} {σb σ : jS} {n z : Nat} {c : CS} (h : CV (xB l s0 D cA ad σb n z) c σ) : jK cKs σb σ ∧ jI s0.heap.size σ := by
  obtain ⟨nr, ed, cp, i0, j1, _⟩ := h
  exact ⟨j1, i0⟩
theorem CV.bound {ad : Nat → Nat} {σb σ : jS} {n z : Nat} {c : CS} (h : CV (xB l s0 D cA ad σb n z) c σ) : σ.2.1 ≤ n + 203840 ∧ σ.2.2 ≤ z + 687680 := by
  obtain ⟨nr, ed, cp, i0, j1, _, ⟨r1, r10, r11, r12, r13⟩, hl, _, _, _, z1, z2⟩ := h
  obtain ⟨_, _, _, _, l1, l2⟩ := hl
  have f : ∀ {τ α a q : Nat} {xs : List Int32}, RowAt s0.heap.size τ α σ a q xs → q ≤ 32768 := by
    intro τ α a q xs h
    obtain ⟨_, _, _, _, _, _, _, _, _, _, _, h, _⟩ := h
    exact h
  have b1 := f r1
  have b2 := f r10
  have b3 := f r11
  have b4 := f r12
  have b5 := f r13
  have e1 : σ.2.1 ≤ n + (nr 1 + nr 10 + nr 11 + nr 12 + nr 13) + c.2.2 + cp := z1
  have e2 : σ.2.2 ≤ z + 2 * (nr 1 + nr 10 + nr 11 + nr 12 + nr 13) + 14 * c.2.2 + 4 * cp := z2
  omega
theorem MV.re {o : Nat} {ar : Nat → Nat} {σ σ2 : jS} {m : MS} {ks : List Nat} (h : MV (yB l s0 D cA o ar) m σ) (hK : jK ks σ σ2) (hks : ∀ t ∈ ks, t ∉ mKs) (hI : jI s0.heap.size σ2) : MV (yB l s0 D cA o ar) m σ2 := by
  have hn : ∀ t, t ∈ mKs → t ∉ ks := fun t ht q => hks t q ht
  obtain ⟨_, _, _, ⟨v, h1, h2, h3⟩, h4⟩ := h
  refine ⟨hI, trivial, trivial, ⟨v, hK _ _ _ _ h1 (hn _ (mK8 rfl)), h2, h3⟩, fun k hk hl => ?_⟩
  obtain ⟨w, q1, q2⟩ := h4 k hk hl
  exact ⟨w, hK _ _ _ _ q1 (hn _ (mKa hk hl)), q2⟩
/-- what holds between two calls of the law -/
def LW (l : Launch) (s0 : State) (D : va_G) (cA : Nat → ClassId) (ad : Nat → Nat) (o : Nat) (ar : Nat → Nat) (ou n z : Nat) (c : CS) (m : MS) (σ : jS) : Prop := CV (xB l s0 D cA ad σ n z) c σ ∧ MV (yB l s0 D cA o ar) m σ ∧ (∃ w : Nat → Value, σ.1 ou = some (1003, 1, w)) ∧ s0.heap.size ≤ ou
variable {ad : Nat → Nat} {o ou n z : Nat} {ar : Nat → Nat} {c c' : CS} {m m' : MS} {σ σ1 : jS}
/-- behind a call of the class -/
theorem LW.ofC (h : LW l s0 D cA ad o ar ou n z c m σ) (hV : CV (xB l s0 D cA ad σ n z) c' σ1) : LW l s0 D cA ad o ar ou n z c' m σ1 := by
  obtain ⟨h1, h2, ⟨w, h3⟩, h4⟩ := h
  obtain ⟨hK, hI⟩ := hV.base
  exact ⟨hV.re (ks := []) jK.rfl (fun _ h => by cases h) hI (Nat.le_refl _) (Nat.le_refl _), h2.re hK (by decide) hI, ⟨w, hK _ _ _ _ h3 (by decide)⟩, h4⟩
/-- behind a call of the model -/
theorem LW.ofM (h : LW l s0 D cA ad o ar ou n z c m σ) (hF : FR σ σ1) (hM : MV (yB l s0 D cA o ar) m' σ1) : LW l s0 D cA ad o ar ou n z c m' σ1 := by
  obtain ⟨h1, h2, ⟨w, h3⟩, h4⟩ := h
  exact ⟨h1.re hF.1 (by decide) hM.1 (by rw [hF.2]; exact Nat.le_refl _) (by rw [hF.2]; exact Nat.le_refl _), hM, ⟨w, hF.1 _ _ _ _ h3 (by decide)⟩, h4⟩
end MOVES
