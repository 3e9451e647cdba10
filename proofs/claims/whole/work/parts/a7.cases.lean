section LAWC
variable {l : Launch} {s0 : State} {D : va_G} {cA : Nat → ClassId} {a0 : Array Value} {ad : Nat → Nat} {o ou n z : Nat} {ar : Nat → Nat} {c : CS} {m : MS} {σ : jS} {Φ : Option Value → jS → Prop} {b L i : Nat} {xs : Nat → Int32} {o5 o6 : Option Value}
/-- the script's ints -/
theorem jW.lwx {d : Nat} {y : jM} {pc : Nat} {Lc : jL} {st : List Value} (F : jOK s0 jcl D cA lw_tbl a0 jty) (hd : decode y.2.1 pc = .ok (.iaload, 1)) (hT : va_T .int b L (fun j => .int (xs j)) (fun q => s0.heap.size ≤ q) s0 s0.heap) {k : Nat} (hk : k < L) (hL : L ≤ 3072) {q : Int32} (hq : q = nI k) {pc' : Nat} (hp : pc + 1 = pc') (kk : jW l s0 jcl D cA d y pc' Lc (.int (xs k) :: st) σ Φ) : jW l s0 jcl D cA d y pc Lc (.int q :: .ref b :: st) σ Φ := by
  subst hq
  exact jW.ialdO F hd hT ((vp_nI (by omega)).mpr hk) (by rw [nI_clamp (by omega)]) hp kk
/-- where the law goes on behind a call -/
def Nxt (l : Launch) (s0 : State) (D : va_G) (cA : Nat → ClassId) (ad : Nat → Nat) (o : Nat) (ar : Nat → Nat) (ou n z b i : Nat) (Φ : Option Value → jS → Prop) : Prop := ∀ (c' : CS) (m' : MS) (σ' : jS) (n' z' : Nat) (o5 o6 : Option Value), LW l s0 D cA ad o ar ou n' z' c' m' σ' → REL c' m' → n' ≤ n + 1 → z' ≤ z + 6 → jW l s0 jcl D cA 16 y_law 507 [some (.ref b), some (.ref (ad 0)), some (.ref o), some (.ref ou), some (.int (nI i)), o5, o6] [] σ' Φ
theorem lw_c0 (F : jOK s0 jcl D cA lw_tbl a0 jty) (hT : va_T .int b L (fun j => .int (xs j)) (fun q => s0.heap.size ≤ q) s0 s0.heap) (hi : i + 6 ≤ L) (hL : L ≤ 3072) (hrel : REL c m) (h : LW l s0 D cA ad o ar ou n z c m σ) (hK : Nxt l s0 D cA ad o ar ou n z b i Φ) : jW l s0 jcl D cA 16 y_law 104 [some (.ref b), some (.ref (ad 0)), some (.ref o), some (.ref ou), some (.int (nI i)), o5, o6] [] σ Φ := by
  obtain ⟨c1, hC, hM⟩ := a_feed (X := xB l s0 D cA ad σ n z) (Y := yB l s0 D cA o ar) (a1 := a0) F F hrel (xs (i + 1)) (xs (i + 2)) (xs (i + 3)) (xs (i + 4)) (xs (i + 5))
  refine jW.aload_n (dx_law 25 (e := (104, .aload_n 1, 1)) rfl) rfl rfl (pc' := 105) rfl ?_
  refine jW.aload_n (dx_law 26 (e := (105, .aload_n 0, 1)) rfl) rfl rfl (pc' := 106) rfl ?_
  refine jW.iload (dx_law 27 (e := (106, .iload 4, 2)) rfl) rfl (pc' := 108) rfl ?_
  refine jW.iconst (v := 1) (dx_law 28 (e := (108, .iconst 1, 1)) rfl) (by decide) (pc' := 109) rfl ?_
  refine jW.iadd (dx_law 29 (e := (109, .iadd, 1)) rfl) (pc' := 110) rfl ?_
  refine jW.lwx (k := i + 1) F (dx_law 30 (e := (110, .iaload, 1)) rfl) hT (by omega) hL (nI_add i 1) (pc' := 111) rfl ?_
  refine jW.aload_n (dx_law 31 (e := (111, .aload_n 0, 1)) rfl) rfl rfl (pc' := 112) rfl ?_
  refine jW.iload (dx_law 32 (e := (112, .iload 4, 2)) rfl) rfl (pc' := 114) rfl ?_
  refine jW.iconst (v := 2) (dx_law 33 (e := (114, .iconst 2, 1)) rfl) (by decide) (pc' := 115) rfl ?_
  refine jW.iadd (dx_law 34 (e := (115, .iadd, 1)) rfl) (pc' := 116) rfl ?_
  refine jW.lwx (k := i + 2) F (dx_law 35 (e := (116, .iaload, 1)) rfl) hT (by omega) hL (nI_add i 2) (pc' := 117) rfl ?_
  refine jW.aload_n (dx_law 36 (e := (117, .aload_n 0, 1)) rfl) rfl rfl (pc' := 118) rfl ?_
  refine jW.iload (dx_law 37 (e := (118, .iload 4, 2)) rfl) rfl (pc' := 120) rfl ?_
  refine jW.iconst (v := 3) (dx_law 38 (e := (120, .iconst 3, 1)) rfl) (by decide) (pc' := 121) rfl ?_
  refine jW.iadd (dx_law 39 (e := (121, .iadd, 1)) rfl) (pc' := 122) rfl ?_
  refine jW.lwx (k := i + 3) F (dx_law 40 (e := (122, .iaload, 1)) rfl) hT (by omega) hL (nI_add i 3) (pc' := 123) rfl ?_
  refine jW.aload_n (dx_law 41 (e := (123, .aload_n 0, 1)) rfl) rfl rfl (pc' := 124) rfl ?_
  refine jW.iload (dx_law 42 (e := (124, .iload 4, 2)) rfl) rfl (pc' := 126) rfl ?_
  refine jW.iconst (v := 4) (dx_law 43 (e := (126, .iconst 4, 1)) rfl) (by decide) (pc' := 127) rfl ?_
  refine jW.iadd (dx_law 44 (e := (127, .iadd, 1)) rfl) (pc' := 128) rfl ?_
  refine jW.lwx (k := i + 4) F (dx_law 45 (e := (128, .iaload, 1)) rfl) hT (by omega) hL (nI_add i 4) (pc' := 129) rfl ?_
  refine jW.aload_n (dx_law 46 (e := (129, .aload_n 0, 1)) rfl) rfl rfl (pc' := 130) rfl ?_
  refine jW.iload (dx_law 47 (e := (130, .iload 4, 2)) rfl) rfl (pc' := 132) rfl ?_
  refine jW.iconst (v := 5) (dx_law 48 (e := (132, .iconst 5, 1)) rfl) (by decide) (pc' := 133) rfl ?_
  refine jW.iadd (dx_law 49 (e := (133, .iadd, 1)) rfl) (pc' := 134) rfl ?_
  refine jW.lwx (k := i + 5) F (dx_law 50 (e := (134, .iaload, 1)) rfl) hT (by omega) hL (nI_add i 5) (pc' := 135) rfl ?_
  refine jW.callVe F (hC 14 σ h.1) (dx_law 51 (e := (135, .invokevirtual 19, 3)) rfl) can_MB_feed jw_359 jw_360 h.1.cl0 rfl jw_361 rfl rfl (Nat.le_of_ble_eq_true rfl) (pc' := 138) rfl (fun r σ1 hr => ?_)
  obtain ⟨c9, hV1, rfl, hc⟩ := hr
  rw [hc] at hV1
  have h1 := h.ofC hV1
  refine jW.aload_n (dx_law 52 (e := (138, .aload_n 2, 1)) rfl) rfl rfl (pc' := 139) rfl ?_
  refine jW.aload_n (dx_law 53 (e := (139, .aload_n 0, 1)) rfl) rfl rfl (pc' := 140) rfl ?_
  refine jW.iload (dx_law 54 (e := (140, .iload 4, 2)) rfl) rfl (pc' := 142) rfl ?_
  refine jW.iconst (v := 1) (dx_law 55 (e := (142, .iconst 1, 1)) rfl) (by decide) (pc' := 143) rfl ?_
  refine jW.iadd (dx_law 56 (e := (143, .iadd, 1)) rfl) (pc' := 144) rfl ?_
  refine jW.lwx (k := i + 1) F (dx_law 57 (e := (144, .iaload, 1)) rfl) hT (by omega) hL (nI_add i 1) (pc' := 145) rfl ?_
  refine jW.aload_n (dx_law 58 (e := (145, .aload_n 0, 1)) rfl) rfl rfl (pc' := 146) rfl ?_
  refine jW.iload (dx_law 59 (e := (146, .iload 4, 2)) rfl) rfl (pc' := 148) rfl ?_
  refine jW.iconst (v := 2) (dx_law 60 (e := (148, .iconst 2, 1)) rfl) (by decide) (pc' := 149) rfl ?_
  refine jW.iadd (dx_law 61 (e := (149, .iadd, 1)) rfl) (pc' := 150) rfl ?_
  refine jW.lwx (k := i + 2) F (dx_law 62 (e := (150, .iaload, 1)) rfl) hT (by omega) hL (nI_add i 2) (pc' := 151) rfl ?_
  refine jW.aload_n (dx_law 63 (e := (151, .aload_n 0, 1)) rfl) rfl rfl (pc' := 152) rfl ?_
  refine jW.iload (dx_law 64 (e := (152, .iload 4, 2)) rfl) rfl (pc' := 154) rfl ?_
  refine jW.iconst (v := 3) (dx_law 65 (e := (154, .iconst 3, 1)) rfl) (by decide) (pc' := 155) rfl ?_
  refine jW.iadd (dx_law 66 (e := (155, .iadd, 1)) rfl) (pc' := 156) rfl ?_
  refine jW.lwx (k := i + 3) F (dx_law 67 (e := (156, .iaload, 1)) rfl) hT (by omega) hL (nI_add i 3) (pc' := 157) rfl ?_
  refine jW.aload_n (dx_law 68 (e := (157, .aload_n 0, 1)) rfl) rfl rfl (pc' := 158) rfl ?_
  refine jW.iload (dx_law 69 (e := (158, .iload 4, 2)) rfl) rfl (pc' := 160) rfl ?_
  refine jW.iconst (v := 4) (dx_law 70 (e := (160, .iconst 4, 1)) rfl) (by decide) (pc' := 161) rfl ?_
  refine jW.iadd (dx_law 71 (e := (161, .iadd, 1)) rfl) (pc' := 162) rfl ?_
  refine jW.lwx (k := i + 4) F (dx_law 72 (e := (162, .iaload, 1)) rfl) hT (by omega) hL (nI_add i 4) (pc' := 163) rfl ?_
  refine jW.aload_n (dx_law 73 (e := (163, .aload_n 0, 1)) rfl) rfl rfl (pc' := 164) rfl ?_
  refine jW.iload (dx_law 74 (e := (164, .iload 4, 2)) rfl) rfl (pc' := 166) rfl ?_
  refine jW.iconst (v := 5) (dx_law 75 (e := (166, .iconst 5, 1)) rfl) (by decide) (pc' := 167) rfl ?_
  refine jW.iadd (dx_law 76 (e := (167, .iadd, 1)) rfl) (pc' := 168) rfl ?_
  refine jW.lwx (k := i + 5) F (dx_law 77 (e := (168, .iaload, 1)) rfl) hT (by omega) hL (nI_add i 5) (pc' := 169) rfl ?_
  refine jW.callVe F (hM 15 σ1 h1.2.1) (dx_law 78 (e := (169, .invokevirtual 23, 3)) rfl) can_Mo_feed jw_1154 jw_1155 h1.2.1.cl rfl jw_1156 rfl rfl (Nat.le_of_ble_eq_true rfl) (pc' := 172) rfl (fun r σ2 hr => ?_)
  obtain ⟨hF, m9, hM2, rfl, hrel2⟩ := hr
  have h2 := h1.ofM hF hM2
  refine jW.goto (dx_law 79 (e := (172, .goto 335, 3)) rfl) 507 (by decide) ?_
  exact hK _ _ _ _ _ _ _ h2 hrel2 (Nat.le_add_right _ _) (Nat.le_add_right _ _)
theorem lw_c1 (F : jOK s0 jcl D cA lw_tbl a0 jty) (hT : va_T .int b L (fun j => .int (xs j)) (fun q => s0.heap.size ≤ q) s0 s0.heap) (hi : i + 6 ≤ L) (hL : L ≤ 3072) (hrel : REL c m) (h : LW l s0 D cA ad o ar ou n z c m σ) (hK : Nxt l s0 D cA ad o ar ou n z b i Φ) : jW l s0 jcl D cA 16 y_law 175 [some (.ref b), some (.ref (ad 0)), some (.ref o), some (.ref ou), some (.int (nI i)), o5, o6] [] σ Φ := by
  obtain ⟨R, c1, hC, hM⟩ := a_end (X := xB l s0 D cA ad σ n z) (Y := yB l s0 D cA o ar) (a1 := a0) F F hrel (xs (i + 1))
  refine jW.aload_n (dx_law 80 (e := (175, .aload_n 1, 1)) rfl) rfl rfl (pc' := 176) rfl ?_
  refine jW.aload_n (dx_law 81 (e := (176, .aload_n 0, 1)) rfl) rfl rfl (pc' := 177) rfl ?_
  refine jW.iload (dx_law 82 (e := (177, .iload 4, 2)) rfl) rfl (pc' := 179) rfl ?_
  refine jW.iconst (v := 1) (dx_law 83 (e := (179, .iconst 1, 1)) rfl) (by decide) (pc' := 180) rfl ?_
  refine jW.iadd (dx_law 84 (e := (180, .iadd, 1)) rfl) (pc' := 181) rfl ?_
  refine jW.lwx (k := i + 1) F (dx_law 85 (e := (181, .iaload, 1)) rfl) hT (by omega) hL (nI_add i 1) (pc' := 182) rfl ?_
  refine jW.callVe F (hC 12 σ h.1) (dx_law 86 (e := (182, .invokevirtual 24, 3)) rfl) can_MB_end jw_367 jw_368 h.1.cl0 rfl jw_369 rfl rfl (Nat.le_of_ble_eq_true rfl) (pc' := 185) rfl (fun r σ1 hr => ?_)
  obtain ⟨c9, hV1, x9, rfl, hx9, hc⟩ := hr
  rw [hc] at hV1
  rw [hx9]
  have h1 := h.ofC hV1
  refine jW.aload_n (dx_law 87 (e := (185, .aload_n 2, 1)) rfl) rfl rfl (pc' := 186) rfl ?_
  refine jW.aload_n (dx_law 88 (e := (186, .aload_n 0, 1)) rfl) rfl rfl (pc' := 187) rfl ?_
  refine jW.iload (dx_law 89 (e := (187, .iload 4, 2)) rfl) rfl (pc' := 189) rfl ?_
  refine jW.iconst (v := 1) (dx_law 90 (e := (189, .iconst 1, 1)) rfl) (by decide) (pc' := 190) rfl ?_
  refine jW.iadd (dx_law 91 (e := (190, .iadd, 1)) rfl) (pc' := 191) rfl ?_
  refine jW.lwx (k := i + 1) F (dx_law 92 (e := (191, .iaload, 1)) rfl) hT (by omega) hL (nI_add i 1) (pc' := 192) rfl ?_
  refine jW.callVe F (hM 15 σ1 h1.2.1) (dx_law 93 (e := (192, .invokevirtual 28, 3)) rfl) can_Mo_end jw_1158 jw_1159 h1.2.1.cl rfl jw_1160 rfl rfl (Nat.le_of_ble_eq_true rfl) (pc' := 195) rfl (fun r σ2 hr => ?_)
  obtain ⟨hF, m9, hM2, x8, rfl, hx8, hrel2⟩ := hr
  rw [hx8]
  have h2 := h1.ofM hF hM2
  refine jW.icmp_eq (dx_law 94 (e := (195, .if_icmp .eq 312, 3)) rfl) 507 (by decide) (pc' := 198) rfl (fun _ => ?_) (fun z => absurd rfl z)
  exact hK _ _ _ _ _ _ _ h2 hrel2 (Nat.le_add_right _ _) (Nat.le_add_right _ _)
theorem lw_c2 (F : jOK s0 jcl D cA lw_tbl a0 jty) (hT : va_T .int b L (fun j => .int (xs j)) (fun q => s0.heap.size ≤ q) s0 s0.heap) (hi : i + 6 ≤ L) (hL : L ≤ 3072) (hrel : REL c m) (h : LW l s0 D cA ad o ar ou n z c m σ) (hK : Nxt l s0 D cA ad o ar ou n z b i Φ) : jW l s0 jcl D cA 16 y_law 200 [some (.ref b), some (.ref (ad 0)), some (.ref o), some (.ref ou), some (.int (nI i)), o5, o6] [] σ Φ := by
  obtain ⟨c1, hC, hM⟩ := a_wipe (X := xB l s0 D cA ad σ n z) (Y := yB l s0 D cA o ar) (a1 := a0) F F hrel 
  refine jW.aload_n (dx_law 97 (e := (200, .aload_n 1, 1)) rfl) rfl rfl (pc' := 201) rfl ?_
  refine jW.callVe F (hC 14 σ h.1) (dx_law 98 (e := (201, .invokevirtual 29, 3)) rfl) can_MB_wipe jw_392 jw_393 h.1.cl0 rfl jw_394 rfl rfl (Nat.le_of_ble_eq_true rfl) (pc' := 204) rfl (fun r σ1 hr => ?_)
  obtain ⟨c9, hV1, rfl, hc⟩ := hr
  rw [hc] at hV1
  have h1 := h.ofC hV1
  refine jW.aload_n (dx_law 99 (e := (204, .aload_n 2, 1)) rfl) rfl rfl (pc' := 205) rfl ?_
  refine jW.callVe F (hM 15 σ1 h1.2.1) (dx_law 100 (e := (205, .invokevirtual 32, 3)) rfl) can_Mo_wipe jw_1162 jw_1163 h1.2.1.cl rfl jw_1164 rfl rfl (Nat.le_of_ble_eq_true rfl) (pc' := 208) rfl (fun r σ2 hr => ?_)
  obtain ⟨hF, m9, hM2, rfl, hrel2⟩ := hr
  have h2 := h1.ofM hF hM2
  refine jW.goto (dx_law 101 (e := (208, .goto 299, 3)) rfl) 507 (by decide) ?_
  exact hK _ _ _ _ _ _ _ h2 hrel2 (Nat.le_add_right _ _) (Nat.le_add_right _ _)
theorem lw_c4 (F : jOK s0 jcl D cA lw_tbl a0 jty) (hT : va_T .int b L (fun j => .int (xs j)) (fun q => s0.heap.size ≤ q) s0 s0.heap) (hi : i + 6 ≤ L) (hL : L ≤ 3072) (hrel : REL c m) (h : LW l s0 D cA ad o ar ou n z c m σ) (hK : Nxt l s0 D cA ad o ar ou n z b i Φ) : jW l s0 jcl D cA 16 y_law 255 [some (.ref b), some (.ref (ad 0)), some (.ref o), some (.ref ou), some (.int (nI i)), o5, o6] [] σ Φ := by
  obtain ⟨R, hC, hM⟩ := a_fault (X := xB l s0 D cA ad σ n z) (Y := yB l s0 D cA o ar) (a1 := a0) F F hrel 
  refine jW.aload_n (dx_law 127 (e := (255, .aload_n 1, 1)) rfl) rfl rfl (pc' := 256) rfl ?_
  refine jW.callVe F (hC 15 σ h.1) (dx_law 128 (e := (256, .invokevirtual 42, 3)) rfl) can_MB_fault jw_400 jw_401 h.1.cl0 rfl jw_402 rfl rfl (Nat.le_of_ble_eq_true rfl) (pc' := 259) rfl (fun r σ1 hr => ?_)
  obtain ⟨c9, hV1, x9, rfl, hx9, hc⟩ := hr
  rw [hc] at hV1
  rw [hx9]
  have h1 := h.ofC hV1
  refine jW.aload_n (dx_law 129 (e := (259, .aload_n 2, 1)) rfl) rfl rfl (pc' := 260) rfl ?_
  refine jW.callVe F (hM 15 σ1 h1.2.1) (dx_law 130 (e := (260, .invokevirtual 45, 3)) rfl) can_Mo_fault jw_1376 jw_1377 h1.2.1.cl rfl jw_1378 rfl rfl (Nat.le_of_ble_eq_true rfl) (pc' := 263) rfl (fun r σ2 hr => ?_)
  obtain ⟨hF, m9, hM2, x8, rfl, hx8, hm9⟩ := hr
  rw [hx8]
  have h2 := h1.ofM hF hM2
  have hrel2 : REL c m9 := by rw [hm9]; exact hrel.z 0
  refine jW.icmp_eq (dx_law 131 (e := (263, .if_icmp .eq 244, 3)) rfl) 507 (by decide) (pc' := 266) rfl (fun _ => ?_) (fun z => absurd rfl z)
  exact hK _ _ _ _ _ _ _ h2 hrel2 (Nat.le_add_right _ _) (Nat.le_add_right _ _)
theorem lw_c5 (F : jOK s0 jcl D cA lw_tbl a0 jty) (hT : va_T .int b L (fun j => .int (xs j)) (fun q => s0.heap.size ≤ q) s0 s0.heap) (hi : i + 6 ≤ L) (hL : L ≤ 3072) (hrel : REL c m) (h : LW l s0 D cA ad o ar ou n z c m σ) (hK : Nxt l s0 D cA ad o ar ou n z b i Φ) : jW l s0 jcl D cA 16 y_law 268 [some (.ref b), some (.ref (ad 0)), some (.ref o), some (.ref ou), some (.int (nI i)), o5, o6] [] σ Φ := by
  obtain ⟨R, hC, hM⟩ := a_block (X := xB l s0 D cA ad σ n z) (Y := yB l s0 D cA o ar) (a1 := a0) F F hrel (xs (i + 1)) (xs (i + 2))
  refine jW.aload_n (dx_law 134 (e := (268, .aload_n 1, 1)) rfl) rfl rfl (pc' := 269) rfl ?_
  refine jW.aload_n (dx_law 135 (e := (269, .aload_n 0, 1)) rfl) rfl rfl (pc' := 270) rfl ?_
  refine jW.iload (dx_law 136 (e := (270, .iload 4, 2)) rfl) rfl (pc' := 272) rfl ?_
  refine jW.iconst (v := 1) (dx_law 137 (e := (272, .iconst 1, 1)) rfl) (by decide) (pc' := 273) rfl ?_
  refine jW.iadd (dx_law 138 (e := (273, .iadd, 1)) rfl) (pc' := 274) rfl ?_
  refine jW.lwx (k := i + 1) F (dx_law 139 (e := (274, .iaload, 1)) rfl) hT (by omega) hL (nI_add i 1) (pc' := 275) rfl ?_
  refine jW.aload_n (dx_law 140 (e := (275, .aload_n 0, 1)) rfl) rfl rfl (pc' := 276) rfl ?_
  refine jW.iload (dx_law 141 (e := (276, .iload 4, 2)) rfl) rfl (pc' := 278) rfl ?_
  refine jW.iconst (v := 2) (dx_law 142 (e := (278, .iconst 2, 1)) rfl) (by decide) (pc' := 279) rfl ?_
  refine jW.iadd (dx_law 143 (e := (279, .iadd, 1)) rfl) (pc' := 280) rfl ?_
  refine jW.lwx (k := i + 2) F (dx_law 144 (e := (280, .iaload, 1)) rfl) hT (by omega) hL (nI_add i 2) (pc' := 281) rfl ?_
  refine jW.callVe F (hC 11 σ h.1) (dx_law 145 (e := (281, .invokevirtual 46, 3)) rfl) can_MB_block jw_404 jw_405 h.1.cl0 rfl jw_406 rfl rfl (Nat.le_of_ble_eq_true rfl) (pc' := 284) rfl (fun r σ1 hr => ?_)
  obtain ⟨c9, hV1, x9, rfl, hx9, hc⟩ := hr
  rw [hc] at hV1
  rw [hx9]
  have h1 := h.ofC hV1
  refine jW.aload_n (dx_law 146 (e := (284, .aload_n 2, 1)) rfl) rfl rfl (pc' := 285) rfl ?_
  refine jW.aload_n (dx_law 147 (e := (285, .aload_n 0, 1)) rfl) rfl rfl (pc' := 286) rfl ?_
  refine jW.iload (dx_law 148 (e := (286, .iload 4, 2)) rfl) rfl (pc' := 288) rfl ?_
  refine jW.iconst (v := 1) (dx_law 149 (e := (288, .iconst 1, 1)) rfl) (by decide) (pc' := 289) rfl ?_
  refine jW.iadd (dx_law 150 (e := (289, .iadd, 1)) rfl) (pc' := 290) rfl ?_
  refine jW.lwx (k := i + 1) F (dx_law 151 (e := (290, .iaload, 1)) rfl) hT (by omega) hL (nI_add i 1) (pc' := 291) rfl ?_
  refine jW.aload_n (dx_law 152 (e := (291, .aload_n 0, 1)) rfl) rfl rfl (pc' := 292) rfl ?_
  refine jW.iload (dx_law 153 (e := (292, .iload 4, 2)) rfl) rfl (pc' := 294) rfl ?_
  refine jW.iconst (v := 2) (dx_law 154 (e := (294, .iconst 2, 1)) rfl) (by decide) (pc' := 295) rfl ?_
  refine jW.iadd (dx_law 155 (e := (295, .iadd, 1)) rfl) (pc' := 296) rfl ?_
  refine jW.lwx (k := i + 2) F (dx_law 156 (e := (296, .iaload, 1)) rfl) hT (by omega) hL (nI_add i 2) (pc' := 297) rfl ?_
  refine jW.callVe F (hM 14 σ1 h1.2.1) (dx_law 157 (e := (297, .invokevirtual 50, 3)) rfl) can_Mo_block jw_1380 jw_1381 h1.2.1.cl rfl jw_1382 rfl rfl (Nat.le_of_ble_eq_true rfl) (pc' := 300) rfl (fun r σ2 hr => ?_)
  obtain ⟨hF, m9, hM2, x8, rfl, hx8, hm9⟩ := hr
  rw [hx8]
  have h2 := h1.ofM hF hM2
  have hrel2 : REL c m9 := by rw [hm9]; exact hrel.z 0
  refine jW.icmp_eq (dx_law 158 (e := (300, .if_icmp .eq 207, 3)) rfl) 507 (by decide) (pc' := 303) rfl (fun _ => ?_) (fun z => absurd rfl z)
  exact hK _ _ _ _ _ _ _ h2 hrel2 (Nat.le_add_right _ _) (Nat.le_add_right _ _)
theorem lw_c6 (F : jOK s0 jcl D cA lw_tbl a0 jty) (hT : va_T .int b L (fun j => .int (xs j)) (fun q => s0.heap.size ≤ q) s0 s0.heap) (hi : i + 6 ≤ L) (hL : L ≤ 3072) (hrel : REL c m) (h : LW l s0 D cA ad o ar ou n z c m σ) (hK : Nxt l s0 D cA ad o ar ou n z b i Φ) : jW l s0 jcl D cA 16 y_law 305 [some (.ref b), some (.ref (ad 0)), some (.ref o), some (.ref ou), some (.int (nI i)), o5, o6] [] σ Φ := by
  by_cases hx : xs (i + 2) = 0
  · obtain ⟨R, hC, hM⟩ := a_letter (X := xB l s0 D cA ad σ n z) (Y := yB l s0 D cA o ar) (a1 := a0) F F hrel (xs (i + 1)) (0) (xs (i + 3))
    refine jW.aload_n (dx_law 161 (e := (305, .aload_n 1, 1)) rfl) rfl rfl (pc' := 306) rfl ?_
    refine jW.aload_n (dx_law 162 (e := (306, .aload_n 0, 1)) rfl) rfl rfl (pc' := 307) rfl ?_
    refine jW.iload (dx_law 163 (e := (307, .iload 4, 2)) rfl) rfl (pc' := 309) rfl ?_
    refine jW.iconst (v := 1) (dx_law 164 (e := (309, .iconst 1, 1)) rfl) (by decide) (pc' := 310) rfl ?_
    refine jW.iadd (dx_law 165 (e := (310, .iadd, 1)) rfl) (pc' := 311) rfl ?_
    refine jW.lwx (k := i + 1) F (dx_law 166 (e := (311, .iaload, 1)) rfl) hT (by omega) hL (nI_add i 1) (pc' := 312) rfl ?_
    refine jW.aload_n (dx_law 167 (e := (312, .aload_n 0, 1)) rfl) rfl rfl (pc' := 313) rfl ?_
    refine jW.iload (dx_law 168 (e := (313, .iload 4, 2)) rfl) rfl (pc' := 315) rfl ?_
    refine jW.iconst (v := 2) (dx_law 169 (e := (315, .iconst 2, 1)) rfl) (by decide) (pc' := 316) rfl ?_
    refine jW.iadd (dx_law 170 (e := (316, .iadd, 1)) rfl) (pc' := 317) rfl ?_
    refine jW.lwx (k := i + 2) F (dx_law 171 (e := (317, .iaload, 1)) rfl) hT (by omega) hL (nI_add i 2) (pc' := 318) rfl ?_
    refine jW.if_eq (dx_law 172 (e := (318, .ifCond .eq 7, 3)) rfl) 325 (by decide) (pc' := 321) rfl (fun _ => ?_) (fun z => absurd hx z)
    refine jW.iconst (v := 0) (dx_law 175 (e := (325, .iconst 0, 1)) rfl) (by decide) (pc' := 326) rfl ?_
    refine jW.aload_n (dx_law 176 (e := (326, .aload_n 0, 1)) rfl) rfl rfl (pc' := 327) rfl ?_
    refine jW.iload (dx_law 177 (e := (327, .iload 4, 2)) rfl) rfl (pc' := 329) rfl ?_
    refine jW.iconst (v := 3) (dx_law 178 (e := (329, .iconst 3, 1)) rfl) (by decide) (pc' := 330) rfl ?_
    refine jW.iadd (dx_law 179 (e := (330, .iadd, 1)) rfl) (pc' := 331) rfl ?_
    refine jW.lwx (k := i + 3) F (dx_law 180 (e := (331, .iaload, 1)) rfl) hT (by omega) hL (nI_add i 3) (pc' := 332) rfl ?_
    refine jW.callVe F (hC 11 σ h.1) (dx_law 181 (e := (332, .invokevirtual 51, 3)) rfl) can_MB_letter jw_434 jw_435 h.1.cl0 rfl jw_436 rfl rfl (Nat.le_of_ble_eq_true rfl) (pc' := 335) rfl (fun r σ1 hr => ?_)
    obtain ⟨c9, hV1, x9, rfl, hx9, hc⟩ := hr
    rw [hc] at hV1
    rw [hx9]
    have h1 := h.ofC hV1
    refine jW.aload_n (dx_law 182 (e := (335, .aload_n 2, 1)) rfl) rfl rfl (pc' := 336) rfl ?_
    refine jW.aload_n (dx_law 183 (e := (336, .aload_n 0, 1)) rfl) rfl rfl (pc' := 337) rfl ?_
    refine jW.iload (dx_law 184 (e := (337, .iload 4, 2)) rfl) rfl (pc' := 339) rfl ?_
    refine jW.iconst (v := 1) (dx_law 185 (e := (339, .iconst 1, 1)) rfl) (by decide) (pc' := 340) rfl ?_
    refine jW.iadd (dx_law 186 (e := (340, .iadd, 1)) rfl) (pc' := 341) rfl ?_
    refine jW.lwx (k := i + 1) F (dx_law 187 (e := (341, .iaload, 1)) rfl) hT (by omega) hL (nI_add i 1) (pc' := 342) rfl ?_
    refine jW.aload_n (dx_law 188 (e := (342, .aload_n 0, 1)) rfl) rfl rfl (pc' := 343) rfl ?_
    refine jW.iload (dx_law 189 (e := (343, .iload 4, 2)) rfl) rfl (pc' := 345) rfl ?_
    refine jW.iconst (v := 2) (dx_law 190 (e := (345, .iconst 2, 1)) rfl) (by decide) (pc' := 346) rfl ?_
    refine jW.iadd (dx_law 191 (e := (346, .iadd, 1)) rfl) (pc' := 347) rfl ?_
    refine jW.lwx (k := i + 2) F (dx_law 192 (e := (347, .iaload, 1)) rfl) hT (by omega) hL (nI_add i 2) (pc' := 348) rfl ?_
    refine jW.if_eq (dx_law 193 (e := (348, .ifCond .eq 7, 3)) rfl) 355 (by decide) (pc' := 351) rfl (fun _ => ?_) (fun z => absurd hx z)
    refine jW.iconst (v := 0) (dx_law 196 (e := (355, .iconst 0, 1)) rfl) (by decide) (pc' := 356) rfl ?_
    refine jW.aload_n (dx_law 197 (e := (356, .aload_n 0, 1)) rfl) rfl rfl (pc' := 357) rfl ?_
    refine jW.iload (dx_law 198 (e := (357, .iload 4, 2)) rfl) rfl (pc' := 359) rfl ?_
    refine jW.iconst (v := 3) (dx_law 199 (e := (359, .iconst 3, 1)) rfl) (by decide) (pc' := 360) rfl ?_
    refine jW.iadd (dx_law 200 (e := (360, .iadd, 1)) rfl) (pc' := 361) rfl ?_
    refine jW.lwx (k := i + 3) F (dx_law 201 (e := (361, .iaload, 1)) rfl) hT (by omega) hL (nI_add i 3) (pc' := 362) rfl ?_
    refine jW.callVe F (hM 13 σ1 h1.2.1) (dx_law 202 (e := (362, .invokevirtual 55, 3)) rfl) can_Mo_letter jw_1388 jw_1389 h1.2.1.cl rfl jw_1390 rfl rfl (Nat.le_of_ble_eq_true rfl) (pc' := 365) rfl (fun r σ2 hr => ?_)
    obtain ⟨hF, m9, hM2, x8, rfl, hx8, hm9⟩ := hr
    rw [hx8]
    have h2 := h1.ofM hF hM2
    have hrel2 : REL c m9 := by rw [hm9]; exact hrel.z 0
    refine jW.icmp_eq (dx_law 203 (e := (365, .if_icmp .eq 142, 3)) rfl) 507 (by decide) (pc' := 368) rfl (fun _ => ?_) (fun z => absurd rfl z)
    exact hK _ _ _ _ _ _ _ h2 hrel2 (Nat.le_add_right _ _) (Nat.le_add_right _ _)
  · obtain ⟨R, hC, hM⟩ := a_letter (X := xB l s0 D cA ad σ n z) (Y := yB l s0 D cA o ar) (a1 := a0) F F hrel (xs (i + 1)) (1) (xs (i + 3))
    refine jW.aload_n (dx_law 161 (e := (305, .aload_n 1, 1)) rfl) rfl rfl (pc' := 306) rfl ?_
    refine jW.aload_n (dx_law 162 (e := (306, .aload_n 0, 1)) rfl) rfl rfl (pc' := 307) rfl ?_
    refine jW.iload (dx_law 163 (e := (307, .iload 4, 2)) rfl) rfl (pc' := 309) rfl ?_
    refine jW.iconst (v := 1) (dx_law 164 (e := (309, .iconst 1, 1)) rfl) (by decide) (pc' := 310) rfl ?_
    refine jW.iadd (dx_law 165 (e := (310, .iadd, 1)) rfl) (pc' := 311) rfl ?_
    refine jW.lwx (k := i + 1) F (dx_law 166 (e := (311, .iaload, 1)) rfl) hT (by omega) hL (nI_add i 1) (pc' := 312) rfl ?_
    refine jW.aload_n (dx_law 167 (e := (312, .aload_n 0, 1)) rfl) rfl rfl (pc' := 313) rfl ?_
    refine jW.iload (dx_law 168 (e := (313, .iload 4, 2)) rfl) rfl (pc' := 315) rfl ?_
    refine jW.iconst (v := 2) (dx_law 169 (e := (315, .iconst 2, 1)) rfl) (by decide) (pc' := 316) rfl ?_
    refine jW.iadd (dx_law 170 (e := (316, .iadd, 1)) rfl) (pc' := 317) rfl ?_
    refine jW.lwx (k := i + 2) F (dx_law 171 (e := (317, .iaload, 1)) rfl) hT (by omega) hL (nI_add i 2) (pc' := 318) rfl ?_
    refine jW.if_eq (dx_law 172 (e := (318, .ifCond .eq 7, 3)) rfl) 325 (by decide) (pc' := 321) rfl (fun z => absurd z hx) (fun _ => ?_)
    refine jW.iconst (v := 1) (dx_law 173 (e := (321, .iconst 1, 1)) rfl) (by decide) (pc' := 322) rfl ?_
    refine jW.goto (dx_law 174 (e := (322, .goto 4, 3)) rfl) 326 (by decide) ?_
    refine jW.aload_n (dx_law 176 (e := (326, .aload_n 0, 1)) rfl) rfl rfl (pc' := 327) rfl ?_
    refine jW.iload (dx_law 177 (e := (327, .iload 4, 2)) rfl) rfl (pc' := 329) rfl ?_
    refine jW.iconst (v := 3) (dx_law 178 (e := (329, .iconst 3, 1)) rfl) (by decide) (pc' := 330) rfl ?_
    refine jW.iadd (dx_law 179 (e := (330, .iadd, 1)) rfl) (pc' := 331) rfl ?_
    refine jW.lwx (k := i + 3) F (dx_law 180 (e := (331, .iaload, 1)) rfl) hT (by omega) hL (nI_add i 3) (pc' := 332) rfl ?_
    refine jW.callVe F (hC 11 σ h.1) (dx_law 181 (e := (332, .invokevirtual 51, 3)) rfl) can_MB_letter jw_434 jw_435 h.1.cl0 rfl jw_436 rfl rfl (Nat.le_of_ble_eq_true rfl) (pc' := 335) rfl (fun r σ1 hr => ?_)
    obtain ⟨c9, hV1, x9, rfl, hx9, hc⟩ := hr
    rw [hc] at hV1
    rw [hx9]
    have h1 := h.ofC hV1
    refine jW.aload_n (dx_law 182 (e := (335, .aload_n 2, 1)) rfl) rfl rfl (pc' := 336) rfl ?_
    refine jW.aload_n (dx_law 183 (e := (336, .aload_n 0, 1)) rfl) rfl rfl (pc' := 337) rfl ?_
    refine jW.iload (dx_law 184 (e := (337, .iload 4, 2)) rfl) rfl (pc' := 339) rfl ?_
    refine jW.iconst (v := 1) (dx_law 185 (e := (339, .iconst 1, 1)) rfl) (by decide) (pc' := 340) rfl ?_
    refine jW.iadd (dx_law 186 (e := (340, .iadd, 1)) rfl) (pc' := 341) rfl ?_
    refine jW.lwx (k := i + 1) F (dx_law 187 (e := (341, .iaload, 1)) rfl) hT (by omega) hL (nI_add i 1) (pc' := 342) rfl ?_
    refine jW.aload_n (dx_law 188 (e := (342, .aload_n 0, 1)) rfl) rfl rfl (pc' := 343) rfl ?_
    refine jW.iload (dx_law 189 (e := (343, .iload 4, 2)) rfl) rfl (pc' := 345) rfl ?_
    refine jW.iconst (v := 2) (dx_law 190 (e := (345, .iconst 2, 1)) rfl) (by decide) (pc' := 346) rfl ?_
    refine jW.iadd (dx_law 191 (e := (346, .iadd, 1)) rfl) (pc' := 347) rfl ?_
    refine jW.lwx (k := i + 2) F (dx_law 192 (e := (347, .iaload, 1)) rfl) hT (by omega) hL (nI_add i 2) (pc' := 348) rfl ?_
    refine jW.if_eq (dx_law 193 (e := (348, .ifCond .eq 7, 3)) rfl) 355 (by decide) (pc' := 351) rfl (fun z => absurd z hx) (fun _ => ?_)
    refine jW.iconst (v := 1) (dx_law 194 (e := (351, .iconst 1, 1)) rfl) (by decide) (pc' := 352) rfl ?_
    refine jW.goto (dx_law 195 (e := (352, .goto 4, 3)) rfl) 356 (by decide) ?_
    refine jW.aload_n (dx_law 197 (e := (356, .aload_n 0, 1)) rfl) rfl rfl (pc' := 357) rfl ?_
    refine jW.iload (dx_law 198 (e := (357, .iload 4, 2)) rfl) rfl (pc' := 359) rfl ?_
    refine jW.iconst (v := 3) (dx_law 199 (e := (359, .iconst 3, 1)) rfl) (by decide) (pc' := 360) rfl ?_
    refine jW.iadd (dx_law 200 (e := (360, .iadd, 1)) rfl) (pc' := 361) rfl ?_
    refine jW.lwx (k := i + 3) F (dx_law 201 (e := (361, .iaload, 1)) rfl) hT (by omega) hL (nI_add i 3) (pc' := 362) rfl ?_
    refine jW.callVe F (hM 13 σ1 h1.2.1) (dx_law 202 (e := (362, .invokevirtual 55, 3)) rfl) can_Mo_letter jw_1388 jw_1389 h1.2.1.cl rfl jw_1390 rfl rfl (Nat.le_of_ble_eq_true rfl) (pc' := 365) rfl (fun r σ2 hr => ?_)
    obtain ⟨hF, m9, hM2, x8, rfl, hx8, hm9⟩ := hr
    rw [hx8]
    have h2 := h1.ofM hF hM2
    have hrel2 : REL c m9 := by rw [hm9]; exact hrel.z 0
    refine jW.icmp_eq (dx_law 203 (e := (365, .if_icmp .eq 142, 3)) rfl) 507 (by decide) (pc' := 368) rfl (fun _ => ?_) (fun z => absurd rfl z)
    exact hK _ _ _ _ _ _ _ h2 hrel2 (Nat.le_add_right _ _) (Nat.le_add_right _ _)
theorem lw_c7 (F : jOK s0 jcl D cA lw_tbl a0 jty) (hT : va_T .int b L (fun j => .int (xs j)) (fun q => s0.heap.size ≤ q) s0 s0.heap) (hi : i + 6 ≤ L) (hL : L ≤ 3072) (hrel : REL c m) (h : LW l s0 D cA ad o ar ou n z c m σ) (hK : Nxt l s0 D cA ad o ar ou n z b i Φ) : jW l s0 jcl D cA 16 y_law 370 [some (.ref b), some (.ref (ad 0)), some (.ref o), some (.ref ou), some (.int (nI i)), o5, o6] [] σ Φ := by
  obtain ⟨R, hC, hM⟩ := a_definitions (X := xB l s0 D cA ad σ n z) (Y := yB l s0 D cA o ar) (a1 := a0) F F hrel 
  refine jW.aload_n (dx_law 206 (e := (370, .aload_n 1, 1)) rfl) rfl rfl (pc' := 371) rfl ?_
  refine jW.callVe F (hC 13 σ h.1) (dx_law 207 (e := (371, .invokevirtual 56, 3)) rfl) can_MB_definitions jw_442 jw_443 h.1.cl0 rfl jw_444 rfl rfl (Nat.le_of_ble_eq_true rfl) (pc' := 374) rfl (fun r σ1 hr => ?_)
  obtain ⟨c9, hV1, x9, rfl, hx9, hc⟩ := hr
  rw [hc] at hV1
  rw [hx9]
  have h1 := h.ofC hV1
  refine jW.aload_n (dx_law 208 (e := (374, .aload_n 2, 1)) rfl) rfl rfl (pc' := 375) rfl ?_
  refine jW.callVe F (hM 15 σ1 h1.2.1) (dx_law 209 (e := (375, .invokevirtual 59, 3)) rfl) can_Mo_definitions jw_1393 jw_1394 h1.2.1.cl rfl jw_1395 rfl rfl (Nat.le_of_ble_eq_true rfl) (pc' := 378) rfl (fun r σ2 hr => ?_)
  obtain ⟨hF, m9, hM2, x8, rfl, hx8, hm9⟩ := hr
  rw [hx8]
  have h2 := h1.ofM hF hM2
  have hrel2 : REL c m9 := by rw [hm9]; exact hrel.z 0
  refine jW.icmp_eq (dx_law 210 (e := (378, .if_icmp .eq 129, 3)) rfl) 507 (by decide) (pc' := 381) rfl (fun _ => ?_) (fun z => absurd rfl z)
  exact hK _ _ _ _ _ _ _ h2 hrel2 (Nat.le_add_right _ _) (Nat.le_add_right _ _)
theorem lw_c8 (F : jOK s0 jcl D cA lw_tbl a0 jty) (hT : va_T .int b L (fun j => .int (xs j)) (fun q => s0.heap.size ≤ q) s0 s0.heap) (hi : i + 6 ≤ L) (hL : L ≤ 3072) (hrel : REL c m) (h : LW l s0 D cA ad o ar ou n z c m σ) (hK : Nxt l s0 D cA ad o ar ou n z b i Φ) : jW l s0 jcl D cA 16 y_law 383 [some (.ref b), some (.ref (ad 0)), some (.ref o), some (.ref ou), some (.int (nI i)), o5, o6] [] σ Φ := by
  obtain ⟨R, hC, hM⟩ := a_definition (X := xB l s0 D cA ad σ n z) (Y := yB l s0 D cA o ar) (a1 := a0) F F hrel (xs (i + 1)) (xs (i + 2))
  refine jW.aload_n (dx_law 213 (e := (383, .aload_n 1, 1)) rfl) rfl rfl (pc' := 384) rfl ?_
  refine jW.aload_n (dx_law 214 (e := (384, .aload_n 0, 1)) rfl) rfl rfl (pc' := 385) rfl ?_
  refine jW.iload (dx_law 215 (e := (385, .iload 4, 2)) rfl) rfl (pc' := 387) rfl ?_
  refine jW.iconst (v := 1) (dx_law 216 (e := (387, .iconst 1, 1)) rfl) (by decide) (pc' := 388) rfl ?_
  refine jW.iadd (dx_law 217 (e := (388, .iadd, 1)) rfl) (pc' := 389) rfl ?_
  refine jW.lwx (k := i + 1) F (dx_law 218 (e := (389, .iaload, 1)) rfl) hT (by omega) hL (nI_add i 1) (pc' := 390) rfl ?_
  refine jW.aload_n (dx_law 219 (e := (390, .aload_n 0, 1)) rfl) rfl rfl (pc' := 391) rfl ?_
  refine jW.iload (dx_law 220 (e := (391, .iload 4, 2)) rfl) rfl (pc' := 393) rfl ?_
  refine jW.iconst (v := 2) (dx_law 221 (e := (393, .iconst 2, 1)) rfl) (by decide) (pc' := 394) rfl ?_
  refine jW.iadd (dx_law 222 (e := (394, .iadd, 1)) rfl) (pc' := 395) rfl ?_
  refine jW.lwx (k := i + 2) F (dx_law 223 (e := (395, .iaload, 1)) rfl) hT (by omega) hL (nI_add i 2) (pc' := 396) rfl ?_
  refine jW.callVe F (hC 12 σ h.1) (dx_law 224 (e := (396, .invokevirtual 60, 3)) rfl) can_MB_definition jw_451 jw_452 h.1.cl0 rfl jw_453 rfl rfl (Nat.le_of_ble_eq_true rfl) (pc' := 399) rfl (fun r σ1 hr => ?_)
  obtain ⟨c9, hV1, x9, rfl, hx9, hc⟩ := hr
  rw [hc] at hV1
  rw [hx9]
  have h1 := h.ofC hV1
  refine jW.aload_n (dx_law 225 (e := (399, .aload_n 2, 1)) rfl) rfl rfl (pc' := 400) rfl ?_
  refine jW.aload_n (dx_law 226 (e := (400, .aload_n 0, 1)) rfl) rfl rfl (pc' := 401) rfl ?_
  refine jW.iload (dx_law 227 (e := (401, .iload 4, 2)) rfl) rfl (pc' := 403) rfl ?_
  refine jW.iconst (v := 1) (dx_law 228 (e := (403, .iconst 1, 1)) rfl) (by decide) (pc' := 404) rfl ?_
  refine jW.iadd (dx_law 229 (e := (404, .iadd, 1)) rfl) (pc' := 405) rfl ?_
  refine jW.lwx (k := i + 1) F (dx_law 230 (e := (405, .iaload, 1)) rfl) hT (by omega) hL (nI_add i 1) (pc' := 406) rfl ?_
  refine jW.aload_n (dx_law 231 (e := (406, .aload_n 0, 1)) rfl) rfl rfl (pc' := 407) rfl ?_
  refine jW.iload (dx_law 232 (e := (407, .iload 4, 2)) rfl) rfl (pc' := 409) rfl ?_
  refine jW.iconst (v := 2) (dx_law 233 (e := (409, .iconst 2, 1)) rfl) (by decide) (pc' := 410) rfl ?_
  refine jW.iadd (dx_law 234 (e := (410, .iadd, 1)) rfl) (pc' := 411) rfl ?_
  refine jW.lwx (k := i + 2) F (dx_law 235 (e := (411, .iaload, 1)) rfl) hT (by omega) hL (nI_add i 2) (pc' := 412) rfl ?_
  refine jW.callVe F (hM 15 σ1 h1.2.1) (dx_law 236 (e := (412, .invokevirtual 63, 3)) rfl) can_Mo_definition jw_1397 jw_1398 h1.2.1.cl rfl jw_1399 rfl rfl (Nat.le_of_ble_eq_true rfl) (pc' := 415) rfl (fun r σ2 hr => ?_)
  obtain ⟨hF, m9, hM2, x8, rfl, hx8, hm9⟩ := hr
  rw [hx8]
  have h2 := h1.ofM hF hM2
  have hrel2 : REL c m9 := by rw [hm9]; exact hrel.z 0
  refine jW.icmp_eq (dx_law 237 (e := (415, .if_icmp .eq 92, 3)) rfl) 507 (by decide) (pc' := 418) rfl (fun _ => ?_) (fun z => absurd rfl z)
  exact hK _ _ _ _ _ _ _ h2 hrel2 (Nat.le_add_right _ _) (Nat.le_add_right _ _)
theorem lw_c9 (F : jOK s0 jcl D cA lw_tbl a0 jty) (hT : va_T .int b L (fun j => .int (xs j)) (fun q => s0.heap.size ≤ q) s0 s0.heap) (hi : i + 6 ≤ L) (hL : L ≤ 3072) (hrel : REL c m) (h : LW l s0 D cA ad o ar ou n z c m σ) (hK : Nxt l s0 D cA ad o ar ou n z b i Φ) : jW l s0 jcl D cA 16 y_law 420 [some (.ref b), some (.ref (ad 0)), some (.ref o), some (.ref ou), some (.int (nI i)), o5, o6] [] σ Φ := by
  obtain ⟨R, hC, hM⟩ := a_defined (X := xB l s0 D cA ad σ n z) (Y := yB l s0 D cA o ar) (a1 := a0) F F hrel (xs (i + 1)) (xs (i + 2)) (xs (i + 3))
  refine jW.aload_n (dx_law 240 (e := (420, .aload_n 1, 1)) rfl) rfl rfl (pc' := 421) rfl ?_
  refine jW.aload_n (dx_law 241 (e := (421, .aload_n 0, 1)) rfl) rfl rfl (pc' := 422) rfl ?_
  refine jW.iload (dx_law 242 (e := (422, .iload 4, 2)) rfl) rfl (pc' := 424) rfl ?_
  refine jW.iconst (v := 1) (dx_law 243 (e := (424, .iconst 1, 1)) rfl) (by decide) (pc' := 425) rfl ?_
  refine jW.iadd (dx_law 244 (e := (425, .iadd, 1)) rfl) (pc' := 426) rfl ?_
  refine jW.lwx (k := i + 1) F (dx_law 245 (e := (426, .iaload, 1)) rfl) hT (by omega) hL (nI_add i 1) (pc' := 427) rfl ?_
  refine jW.aload_n (dx_law 246 (e := (427, .aload_n 0, 1)) rfl) rfl rfl (pc' := 428) rfl ?_
  refine jW.iload (dx_law 247 (e := (428, .iload 4, 2)) rfl) rfl (pc' := 430) rfl ?_
  refine jW.iconst (v := 2) (dx_law 248 (e := (430, .iconst 2, 1)) rfl) (by decide) (pc' := 431) rfl ?_
  refine jW.iadd (dx_law 249 (e := (431, .iadd, 1)) rfl) (pc' := 432) rfl ?_
  refine jW.lwx (k := i + 2) F (dx_law 250 (e := (432, .iaload, 1)) rfl) hT (by omega) hL (nI_add i 2) (pc' := 433) rfl ?_
  refine jW.aload_n (dx_law 251 (e := (433, .aload_n 0, 1)) rfl) rfl rfl (pc' := 434) rfl ?_
  refine jW.iload (dx_law 252 (e := (434, .iload 4, 2)) rfl) rfl (pc' := 436) rfl ?_
  refine jW.iconst (v := 3) (dx_law 253 (e := (436, .iconst 3, 1)) rfl) (by decide) (pc' := 437) rfl ?_
  refine jW.iadd (dx_law 254 (e := (437, .iadd, 1)) rfl) (pc' := 438) rfl ?_
  refine jW.lwx (k := i + 3) F (dx_law 255 (e := (438, .iaload, 1)) rfl) hT (by omega) hL (nI_add i 3) (pc' := 439) rfl ?_
  refine jW.callVe F (hC 11 σ h.1) (dx_law 256 (e := (439, .invokevirtual 64, 3)) rfl) can_MB_defined jw_469 jw_470 h.1.cl0 rfl jw_471 rfl rfl (Nat.le_of_ble_eq_true rfl) (pc' := 442) rfl (fun r σ1 hr => ?_)
  obtain ⟨c9, hV1, x9, rfl, hx9, hc⟩ := hr
  rw [hc] at hV1
  rw [hx9]
  have h1 := h.ofC hV1
  refine jW.aload_n (dx_law 257 (e := (442, .aload_n 2, 1)) rfl) rfl rfl (pc' := 443) rfl ?_
  refine jW.aload_n (dx_law 258 (e := (443, .aload_n 0, 1)) rfl) rfl rfl (pc' := 444) rfl ?_
  refine jW.iload (dx_law 259 (e := (444, .iload 4, 2)) rfl) rfl (pc' := 446) rfl ?_
  refine jW.iconst (v := 1) (dx_law 260 (e := (446, .iconst 1, 1)) rfl) (by decide) (pc' := 447) rfl ?_
  refine jW.iadd (dx_law 261 (e := (447, .iadd, 1)) rfl) (pc' := 448) rfl ?_
  refine jW.lwx (k := i + 1) F (dx_law 262 (e := (448, .iaload, 1)) rfl) hT (by omega) hL (nI_add i 1) (pc' := 449) rfl ?_
  refine jW.aload_n (dx_law 263 (e := (449, .aload_n 0, 1)) rfl) rfl rfl (pc' := 450) rfl ?_
  refine jW.iload (dx_law 264 (e := (450, .iload 4, 2)) rfl) rfl (pc' := 452) rfl ?_
  refine jW.iconst (v := 2) (dx_law 265 (e := (452, .iconst 2, 1)) rfl) (by decide) (pc' := 453) rfl ?_
  refine jW.iadd (dx_law 266 (e := (453, .iadd, 1)) rfl) (pc' := 454) rfl ?_
  refine jW.lwx (k := i + 2) F (dx_law 267 (e := (454, .iaload, 1)) rfl) hT (by omega) hL (nI_add i 2) (pc' := 455) rfl ?_
  refine jW.aload_n (dx_law 268 (e := (455, .aload_n 0, 1)) rfl) rfl rfl (pc' := 456) rfl ?_
  refine jW.iload (dx_law 269 (e := (456, .iload 4, 2)) rfl) rfl (pc' := 458) rfl ?_
  refine jW.iconst (v := 3) (dx_law 270 (e := (458, .iconst 3, 1)) rfl) (by decide) (pc' := 459) rfl ?_
  refine jW.iadd (dx_law 271 (e := (459, .iadd, 1)) rfl) (pc' := 460) rfl ?_
  refine jW.lwx (k := i + 3) F (dx_law 272 (e := (460, .iaload, 1)) rfl) hT (by omega) hL (nI_add i 3) (pc' := 461) rfl ?_
  refine jW.callVe F (hM 14 σ1 h1.2.1) (dx_law 273 (e := (461, .invokevirtual 68, 3)) rfl) can_Mo_defined jw_1401 jw_1402 h1.2.1.cl rfl jw_1403 rfl rfl (Nat.le_of_ble_eq_true rfl) (pc' := 464) rfl (fun r σ2 hr => ?_)
  obtain ⟨hF, m9, hM2, x8, rfl, hx8, hm9⟩ := hr
  rw [hx8]
  have h2 := h1.ofM hF hM2
  have hrel2 : REL c m9 := by rw [hm9]; exact hrel.z 0
  refine jW.icmp_eq (dx_law 274 (e := (464, .if_icmp .eq 43, 3)) rfl) 507 (by decide) (pc' := 467) rfl (fun _ => ?_) (fun z => absurd rfl z)
  exact hK _ _ _ _ _ _ _ h2 hrel2 (Nat.le_add_right _ _) (Nat.le_add_right _ _)
theorem lw_c10 (F : jOK s0 jcl D cA lw_tbl a0 jty) (hT : va_T .int b L (fun j => .int (xs j)) (fun q => s0.heap.size ≤ q) s0 s0.heap) (hi : i + 6 ≤ L) (hL : L ≤ 3072) (hrel : REL c m) (h : LW l s0 D cA ad o ar ou n z c m σ) (hK : Nxt l s0 D cA ad o ar ou n z b i Φ) : jW l s0 jcl D cA 16 y_law 469 [some (.ref b), some (.ref (ad 0)), some (.ref o), some (.ref ou), some (.int (nI i)), o5, o6] [] σ Φ := by
  obtain ⟨R, hC, hM⟩ := a_find (X := xB l s0 D cA ad σ n z) (Y := yB l s0 D cA o ar) (a1 := a0) F F hrel 
  refine jW.aload_n (dx_law 277 (e := (469, .aload_n 1, 1)) rfl) rfl rfl (pc' := 470) rfl ?_
  refine jW.callVe F (hC 10 σ h.1) (dx_law 278 (e := (470, .invokevirtual 69, 3)) rfl) can_MB_find jw_478 jw_479 h.1.cl0 rfl jw_480 rfl rfl (Nat.le_of_ble_eq_true rfl) (pc' := 473) rfl (fun r σ1 hr => ?_)
  obtain ⟨c9, hV1, x9, rfl, hx9, hc⟩ := hr
  rw [hc] at hV1
  rw [hx9]
  have h1 := h.ofC hV1
  refine jW.aload_n (dx_law 279 (e := (473, .aload_n 2, 1)) rfl) rfl rfl (pc' := 474) rfl ?_
  refine jW.callVe F (hM 13 σ1 h1.2.1) (dx_law 280 (e := (474, .invokevirtual 72, 3)) rfl) can_Mo_find jw_1410 jw_1411 h1.2.1.cl rfl jw_1412 rfl rfl (Nat.le_of_ble_eq_true rfl) (pc' := 477) rfl (fun r σ2 hr => ?_)
  obtain ⟨hF, m9, hM2, x8, rfl, hx8, hrel2⟩ := hr
  rw [hx8]
  have h2 := h1.ofM hF hM2
  refine jW.icmp_eq (dx_law 281 (e := (477, .if_icmp .eq 30, 3)) rfl) 507 (by decide) (pc' := 480) rfl (fun _ => ?_) (fun z => absurd rfl z)
  exact hK _ _ _ _ _ _ _ h2 hrel2 (Nat.le_add_right _ _) (Nat.le_add_right _ _)
theorem lw_c11 (F : jOK s0 jcl D cA lw_tbl a0 jty) (hT : va_T .int b L (fun j => .int (xs j)) (fun q => s0.heap.size ≤ q) s0 s0.heap) (hi : i + 6 ≤ L) (hL : L ≤ 3072) (hrel : REL c m) (h : LW l s0 D cA ad o ar ou n z c m σ) (hK : Nxt l s0 D cA ad o ar ou n z b i Φ) : jW l s0 jcl D cA 16 y_law 482 [some (.ref b), some (.ref (ad 0)), some (.ref o), some (.ref ou), some (.int (nI i)), o5, o6] [] σ Φ := by
  obtain ⟨R, hC, hM⟩ := a_about (X := xB l s0 D cA ad σ n z) (Y := yB l s0 D cA o ar) (a1 := a0) F F hrel (xs (i + 1))
  refine jW.aload_n (dx_law 284 (e := (482, .aload_n 1, 1)) rfl) rfl rfl (pc' := 483) rfl ?_
  refine jW.aload_n (dx_law 285 (e := (483, .aload_n 0, 1)) rfl) rfl rfl (pc' := 484) rfl ?_
  refine jW.iload (dx_law 286 (e := (484, .iload 4, 2)) rfl) rfl (pc' := 486) rfl ?_
  refine jW.iconst (v := 1) (dx_law 287 (e := (486, .iconst 1, 1)) rfl) (by decide) (pc' := 487) rfl ?_
  refine jW.iadd (dx_law 288 (e := (487, .iadd, 1)) rfl) (pc' := 488) rfl ?_
  refine jW.lwx (k := i + 1) F (dx_law 289 (e := (488, .iaload, 1)) rfl) hT (by omega) hL (nI_add i 1) (pc' := 489) rfl ?_
  refine jW.callVe F (hC 14 σ h.1) (dx_law 290 (e := (489, .invokevirtual 73, 3)) rfl) can_MB_about jw_503 jw_504 h.1.cl0 rfl jw_505 rfl rfl (Nat.le_of_ble_eq_true rfl) (pc' := 492) rfl (fun r σ1 hr => ?_)
  obtain ⟨c9, hV1, x9, rfl, hx9, hc⟩ := hr
  rw [hc] at hV1
  rw [hx9]
  have h1 := h.ofC hV1
  refine jW.aload_n (dx_law 291 (e := (492, .aload_n 2, 1)) rfl) rfl rfl (pc' := 493) rfl ?_
  refine jW.aload_n (dx_law 292 (e := (493, .aload_n 0, 1)) rfl) rfl rfl (pc' := 494) rfl ?_
  refine jW.iload (dx_law 293 (e := (494, .iload 4, 2)) rfl) rfl (pc' := 496) rfl ?_
  refine jW.iconst (v := 1) (dx_law 294 (e := (496, .iconst 1, 1)) rfl) (by decide) (pc' := 497) rfl ?_
  refine jW.iadd (dx_law 295 (e := (497, .iadd, 1)) rfl) (pc' := 498) rfl ?_
  refine jW.lwx (k := i + 1) F (dx_law 296 (e := (498, .iaload, 1)) rfl) hT (by omega) hL (nI_add i 1) (pc' := 499) rfl ?_
  refine jW.callVe F (hM 15 σ1 h1.2.1) (dx_law 297 (e := (499, .invokevirtual 76, 3)) rfl) can_Mo_about jw_1414 jw_1415 h1.2.1.cl rfl jw_1416 rfl rfl (Nat.le_of_ble_eq_true rfl) (pc' := 502) rfl (fun r σ2 hr => ?_)
  obtain ⟨hF, m9, hM2, x8, rfl, hx8, hm9⟩ := hr
  rw [hx8]
  have h2 := h1.ofM hF hM2
  have hrel2 : REL c m9 := by rw [hm9]; exact hrel.z 0
  refine jW.icmp_eq (dx_law 298 (e := (502, .if_icmp .eq 5, 3)) rfl) 507 (by decide) (pc' := 505) rfl (fun _ => ?_) (fun z => absurd rfl z)
  exact hK _ _ _ _ _ _ _ h2 hrel2 (Nat.le_add_right _ _) (Nat.le_add_right _ _)
theorem lg_self (x : Int64) : lg_cmp x x = 0 := by
  unfold lg_cmp
  rw [if_neg (fun z => Int64.lt_irrefl z), if_pos rfl]
theorem a_thrown {Y : MX} {a1 : Array Value} (G : mF Y a1) (m : MS) : mE Y 0 y_Mo_thrown [.ref (mo Y)] m (iP fun r m' => r = m.1 0 ∧ m' = m) := by
  refine g_Mo_thrown G ?_
  unfold w_Mo_thrown_0
  exact ⟨_, rfl, rfl, rfl⟩
theorem lw_c3 (F : jOK s0 jcl D cA lw_tbl a0 jty) (hT : va_T .int b L (fun j => .int (xs j)) (fun q => s0.heap.size ≤ q) s0 s0.heap) (hi : i + 6 ≤ L) (hL : L ≤ 3072) (hrel : REL c m) (h : LW l s0 D cA ad o ar ou n z c m σ) (hK : Nxt l s0 D cA ad o ar ou n z b i Φ) (HT : THs (xB l s0 D cA ad σ n z) a0) (hBN : BNok (xB l s0 D cA ad σ n z)) (hTA : TAok (xB l s0 D cA ad σ n z)) : jW l s0 jcl D cA 16 y_law 211 [some (.ref b), some (.ref (ad 0)), some (.ref o), some (.ref ou), some (.int (nI i)), o5, o6] [] σ Φ := by
  refine jW.aload_n (dx_law 102 (e := (211, .aload_n 1, 1)) rfl) rfl rfl (pc' := 212) rfl ?_
  refine jW.aload_n (dx_law 103 (e := (212, .aload_n 3, 1)) rfl) rfl rfl (pc' := 213) rfl ?_
  refine jW.callSw F (e_Law_read F HT hBN hTA hrel h) (dx_law 104 (e := (213, .invokestatic 33, 3)) rfl) jw_513 jw_0 (by decide +kernel) (n := 2) (by decide +kernel) (by decide) jw_511 jw_512 rfl rfl (Nat.le_of_ble_eq_true rfl) (pc' := 216) rfl (fun r σ1 hr => ?_)
  obtain ⟨c1, n1, z1, h1, hn1, hz1, hr | hr⟩ := hr
  · obtain ⟨rfl, x, w, hw, hw0, hM⟩ := hr
    refine jW.istore (dx_law 105 (e := (216, .istore 5, 2)) rfl) (by decide) rfl (pc' := 218) rfl ?_
    refine jW.aload_n (dx_law 106 (e := (218, .aload_n 2, 1)) rfl) rfl rfl (pc' := 219) rfl ?_
    refine jW.callVe F (hM 3 σ1 h1.2.1) (dx_law 107 (e := (219, .invokevirtual 38, 3)) rfl) can_Mo_read jw_1166 jw_1167 h1.2.1.cl rfl jw_1168 rfl rfl (Nat.le_of_ble_eq_true rfl) (pc' := 222) rfl (fun r σ2 hr => ?_)
    obtain ⟨hF, m2, hM2, x2, rfl, hx2, ht, hrel2⟩ := hr
    have h2 := h1.ofM hF hM2
    have hw2 := hF.1 _ _ _ _ hw (by decide)
    rw [hx2]
    refine jW.istore (dx_law 108 (e := (222, .istore 6, 2)) rfl) (by decide) rfl (pc' := 224) rfl ?_
    refine jW.aload_n (dx_law 109 (e := (224, .aload_n 2, 1)) rfl) rfl rfl (pc' := 225) rfl ?_
    refine jW.callVe F (a_thrown (Y := yB l s0 D cA o ar) (a1 := a0) F m2 15 σ2 h2.2.1) (dx_law 110 (e := (225, .invokevirtual 39, 3)) rfl) can_Mo_thrown jw_1150 jw_1151 h2.2.1.cl rfl jw_1152 rfl rfl (Nat.le_of_ble_eq_true rfl) (pc' := 228) rfl (fun r σ3 hr => ?_)
    obtain ⟨hF3, m3, hM3, x3, rfl, hx3, hm3⟩ := hr
    rw [hm3] at hM3
    have h3 := h2.ofM hF3 hM3
    have hw3 := hF3.1 _ _ _ _ hw2 (by decide)
    rw [hx3, ht]
    refine jW.iload (dx_law 111 (e := (228, .iload 5, 2)) rfl) rfl (pc' := 230) rfl ?_
    refine jW.icmp_eq (dx_law 112 (e := (230, .if_icmp .eq 5, 3)) rfl) 235 (by decide) (pc' := 233) rfl (fun _ => ?_) (fun z => absurd rfl z)
    refine jW.iload (dx_law 115 (e := (235, .iload 5, 2)) rfl) rfl (pc' := 237) rfl ?_
    refine jW.if_ne (dx_law 116 (e := (237, .ifCond .ne 15, 3)) rfl) 252 (by decide) (pc' := 240) rfl (fun z => absurd rfl z) (fun _ => ?_)
    refine jW.aload_n (dx_law 117 (e := (240, .aload_n 3, 1)) rfl) rfl rfl (pc' := 241) rfl ?_
    refine jW.iconst (v := 0) (dx_law 118 (e := (241, .iconst 0, 1)) rfl) (by decide) (pc' := 242) rfl ?_
    refine jW.lald (t := 1003) F (dx_law 119 (e := (242, .laload, 1)) rfl) (by decide) rfl hw3 ((vp_nI (n := 0) (N := 1) (by decide)).mpr (by decide)) (w := .long x.toInt64) hw0 (pc' := 243) rfl ?_
    refine jW.iload (dx_law 120 (e := (243, .iload 6, 2)) rfl) rfl (pc' := 245) rfl ?_
    refine jW.i2l (dx_law 121 (e := (245, .i2l, 1)) rfl) (v := x.toInt64) rfl (pc' := 246) rfl ?_
    refine jW.lcmp (dx_law 122 (e := (246, .lcmp, 1)) rfl) (pc' := 247) rfl ?_
    rw [lg_self]
    refine jW.if_eq (dx_law 123 (e := (247, .ifCond .eq 5, 3)) rfl) 252 (by decide) (pc' := 250) rfl (fun _ => ?_) (fun z => absurd rfl z)
    refine jW.goto (dx_law 126 (e := (252, .goto 255, 3)) rfl) 507 (by decide) ?_
    exact hK _ _ _ _ _ _ _ h3 hrel2 hn1 hz1
  · obtain ⟨rfl, hM⟩ := hr
    refine jW.istore (dx_law 105 (e := (216, .istore 5, 2)) rfl) (by decide) rfl (pc' := 218) rfl ?_
    refine jW.aload_n (dx_law 106 (e := (218, .aload_n 2, 1)) rfl) rfl rfl (pc' := 219) rfl ?_
    refine jW.callVe F (hM 3 σ1 h1.2.1) (dx_law 107 (e := (219, .invokevirtual 38, 3)) rfl) can_Mo_read jw_1166 jw_1167 h1.2.1.cl rfl jw_1168 rfl rfl (Nat.le_of_ble_eq_true rfl) (pc' := 222) rfl (fun r σ2 hr => ?_)
    obtain ⟨hF, m2, hM2, x2, rfl, hx2, ht, hrel2⟩ := hr
    have h2 := h1.ofM hF hM2
    refine jW.istore (dx_law 108 (e := (222, .istore 6, 2)) rfl) (by decide) rfl (pc' := 224) rfl ?_
    refine jW.aload_n (dx_law 109 (e := (224, .aload_n 2, 1)) rfl) rfl rfl (pc' := 225) rfl ?_
    refine jW.callVe F (a_thrown (Y := yB l s0 D cA o ar) (a1 := a0) F m2 15 σ2 h2.2.1) (dx_law 110 (e := (225, .invokevirtual 39, 3)) rfl) can_Mo_thrown jw_1150 jw_1151 h2.2.1.cl rfl jw_1152 rfl rfl (Nat.le_of_ble_eq_true rfl) (pc' := 228) rfl (fun r σ3 hr => ?_)
    obtain ⟨hF3, m3, hM3, x3, rfl, hx3, hm3⟩ := hr
    rw [hm3] at hM3
    have h3 := h2.ofM hF3 hM3
    rw [hx3, ht]
    refine jW.iload (dx_law 111 (e := (228, .iload 5, 2)) rfl) rfl (pc' := 230) rfl ?_
    refine jW.icmp_eq (dx_law 112 (e := (230, .if_icmp .eq 5, 3)) rfl) 235 (by decide) (pc' := 233) rfl (fun _ => ?_) (fun z => absurd rfl z)
    refine jW.iload (dx_law 115 (e := (235, .iload 5, 2)) rfl) rfl (pc' := 237) rfl ?_
    refine jW.if_ne (dx_law 116 (e := (237, .ifCond .ne 15, 3)) rfl) 252 (by decide) (pc' := 240) rfl (fun _ => ?_) (fun z => absurd z (by decide))
    refine jW.goto (dx_law 126 (e := (252, .goto 255, 3)) rfl) 507 (by decide) ?_
    exact hK _ _ _ _ _ _ _ h3 hrel2 hn1 hz1
end LAWC
