def w_Mo_beginQuote_42 (X : MX) (x1 x2 x3 s1 s2 : Int32) (m : MS) (Φ : Option Value → MS → Prop) : Prop := ∀ m1, m1 = mI m 31 (s1 + s2) → Φ none m1
theorem t_Mo_beginQuote_42 {X : MX} {a0 : Array Value} (F : mF X a0) {d : Nat} {x1 x2 x3 s1 s2 : Int32} {m : MS} {σ : jS} {Φ : Option Value → MS → Prop} (hV : MV X m σ) (h : w_Mo_beginQuote_42 X x1 x2 x3 s1 s2 m Φ) : jW X.1 X.2.1 jcl X.2.2.1 X.2.2.2.1 (d + 8) y_Mo_beginQuote 42 [some (.ref (mo X)), some (.int x1), some (.int x2), some (.int x3)] [.int s2, .int s1, .ref (mo X)] σ (mQ X Φ σ) := by
  unfold w_Mo_beginQuote_42 at h
  refine jW.iadd (dx_Mo_beginQuote 25 (e := (42, .iadd, 1)) rfl) (pc' := 43) rfl ?_
  refine jW.mpi F hV f_Mo_beginQuote_43 (by decide) rfl rfl rfl (pc' := 46) rfl (fun σ hV => ?_)
  replace h := h _ rfl
  exact jW.vret (dx_Mo_beginQuote 27 (e := (46, .return_, 1)) rfl) rfl ⟨FR.rfl, _, hV, h⟩
def w_Mo_beginQuote_0 (X : MX) (x1 x2 : Int32) (m : MS) (Φ : Option Value → MS → Prop) : Prop := mE X 7 y_Mo_begin [.ref (mo X), .int (1), .int (x2)] m (iP fun r1 m1 => ∀ m2, m2 = mI m1 31 ((m1.1 31) + (x1 + 1)) → mE X 0 y_Mo_at [.ref (mo X), .int (m2.1 31)] m2 (iP fun r3 m3 => ((r3 = 32 → w_Mo_beginQuote_42 X (x1) (x2) (r1) (m2.1 31) (1) m3 Φ) ∧ (¬ r3 = 32 → w_Mo_beginQuote_42 X (x1) (x2) (r1) (m2.1 31) (0) m3 Φ))))
theorem t_Mo_beginQuote_0 {X : MX} {a0 : Array Value} (F : mF X a0) {d : Nat} {x1 x2 : Int32} {o3 : Option Value} {m : MS} {σ : jS} {Φ : Option Value → MS → Prop} (hV : MV X m σ) (h : w_Mo_beginQuote_0 X x1 x2 m Φ) : jW X.1 X.2.1 jcl X.2.2.1 X.2.2.2.1 (d + 8) y_Mo_beginQuote 0 [some (.ref (mo X)), some (.int x1), some (.int x2), o3] [] σ (mQ X Φ σ) := by
  unfold w_Mo_beginQuote_0 at h
  refine jW.aload_n (dx_Mo_beginQuote 0 (e := (0, .aload_n 0, 1)) rfl) rfl rfl (pc' := 1) rfl ?_
  refine jW.iconst (v := 1) (dx_Mo_beginQuote 1 (e := (1, .iconst 1, 1)) rfl) (by decide) (pc' := 2) rfl ?_
  refine jW.iload_n (dx_Mo_beginQuote 2 (e := (2, .iload_n 2, 1)) rfl) rfl rfl (pc' := 3) rfl ?_
  refine jW.callVe F (h (d + 0) _ hV) (dx_Mo_beginQuote 3 (e := (3, .invokevirtual 186, 3)) rfl) can_Mo_begin jw_1312 jw_1314 hV.cl rfl sel_Mo_begin rfl rfl (Nat.le_of_ble_eq_true rfl) (pc' := 6) rfl (fun r σ hr => ?_)
  clear hV
  refine mQ.up hr.1 ?_
  obtain ⟨_, hV, _, rfl, h⟩ := hr.2
  refine jW.istore_n (dx_Mo_beginQuote 4 (e := (6, .istore_n 3, 1)) rfl) rfl (by decide) rfl (pc' := 7) rfl ?_
  refine jW.aload_n (dx_Mo_beginQuote 5 (e := (7, .aload_n 0, 1)) rfl) rfl rfl (pc' := 8) rfl ?_
  refine jW.dup (dx_Mo_beginQuote 6 (e := (8, .dup, 1)) rfl) rfl (pc' := 9) rfl ?_
  refine jW.mgi F hV f_Mo_beginQuote_9 (by decide) (pc' := 12) rfl ?_
  refine jW.iload_n (dx_Mo_beginQuote 8 (e := (12, .iload_n 1, 1)) rfl) rfl rfl (pc' := 13) rfl ?_
  refine jW.iconst (v := 1) (dx_Mo_beginQuote 9 (e := (13, .iconst 1, 1)) rfl) (by decide) (pc' := 14) rfl ?_
  refine jW.iadd (dx_Mo_beginQuote 10 (e := (14, .iadd, 1)) rfl) (pc' := 15) rfl ?_
  refine jW.iadd (dx_Mo_beginQuote 11 (e := (15, .iadd, 1)) rfl) (pc' := 16) rfl ?_
  refine jW.mpi F hV f_Mo_beginQuote_16 (by decide) rfl rfl rfl (pc' := 19) rfl (fun σ hV => ?_)
  replace h := h _ rfl
  refine jW.aload_n (dx_Mo_beginQuote 13 (e := (19, .aload_n 0, 1)) rfl) rfl rfl (pc' := 20) rfl ?_
  refine jW.dup (dx_Mo_beginQuote 14 (e := (20, .dup, 1)) rfl) rfl (pc' := 21) rfl ?_
  refine jW.mgi F hV f_Mo_beginQuote_21 (by decide) (pc' := 24) rfl ?_
  refine jW.aload_n (dx_Mo_beginQuote 16 (e := (24, .aload_n 0, 1)) rfl) rfl rfl (pc' := 25) rfl ?_
  refine jW.aload_n (dx_Mo_beginQuote 17 (e := (25, .aload_n 0, 1)) rfl) rfl rfl (pc' := 26) rfl ?_
  refine jW.mgi F hV f_Mo_beginQuote_26 (by decide) (pc' := 29) rfl ?_
  refine jW.callVe F (h (d + 7) _ hV) (dx_Mo_beginQuote 19 (e := (29, .invokevirtual 129, 3)) rfl) can_Mo_at jw_1194 jw_1196 hV.cl rfl sel_Mo_at rfl rfl (Nat.le_of_ble_eq_true rfl) (pc' := 32) rfl (fun r σ hr => ?_)
  clear hV
  refine mQ.up hr.1 ?_
  obtain ⟨_, hV, _, rfl, h⟩ := hr.2
  refine jW.bipush (v := 32) (dx_Mo_beginQuote 20 (e := (32, .bipush 32, 2)) rfl) (by decide) (pc' := 34) rfl ?_
  refine jW.icmp_ne (dx_Mo_beginQuote 21 (e := (34, .if_icmp .ne 7, 3)) rfl) 41 (by decide) (pc' := 37) rfl (fun c => ?_) (fun c => ?_)
  · replace h := h.2 c
    refine jW.iconst (v := 0) (dx_Mo_beginQuote 24 (e := (41, .iconst 0, 1)) rfl) (by decide) (pc' := 42) rfl ?_
    exact t_Mo_beginQuote_42 F hV h
  · replace h := h.1 c
    refine jW.iconst (v := 1) (dx_Mo_beginQuote 22 (e := (37, .iconst 1, 1)) rfl) (by decide) (pc' := 38) rfl ?_
    refine jW.goto (dx_Mo_beginQuote 23 (e := (38, .goto 4, 3)) rfl) 42 (by decide) ?_
    exact t_Mo_beginQuote_42 F hV h
theorem g_Mo_beginQuote {X : MX} {a0 : Array Value} (F : mF X a0) {x1 x2 : Int32} {m : MS} {Φ : Option Value → MS → Prop} (he : w_Mo_beginQuote_0 X x1 x2 m Φ) : mE X 8 y_Mo_beginQuote [.ref (mo X), .int x1, .int x2] m Φ := by
  intro d σ hV
  refine jE.of (by decide) (by simp [Value.category]) (Nat.le_of_ble_eq_true rfl) rfl ?_
  exact t_Mo_beginQuote_0 F hV he
def w_Mo_begin_51 (X : MX) (x1 x2 : Int32) (m : MS) (Φ : Option Value → MS → Prop) (K10 : Int32 → Int32 → MS → Prop) : Prop := mE X 6 y_Mo_closeTo [.ref (mo X), .int (m.1 32)] m (vP fun m1 => ∀ m2, m2 = mI m1 32 ((m1.1 32) - 1) → K10 (x1) (x2) m2)
theorem t_Mo_begin_51 {X : MX} {a0 : Array Value} (F : mF X a0) {d : Nat} {x1 x2 : Int32} {o3 : Option Value} {m : MS} {σ : jS} {Φ : Option Value → MS → Prop} {K10 : Int32 → Int32 → MS → Prop} (hV : MV X m σ) (h : w_Mo_begin_51 X x1 x2 m Φ K10) (hK10 : ∀ (x1 x2 : Int32) (o3 : Option Value) (m : MS) (σ : jS), MV X m σ → K10 x1 x2 m → jW X.1 X.2.1 jcl X.2.2.1 X.2.2.2.1 (d + 7) y_Mo_begin 10 [some (.ref (mo X)), some (.int x1), some (.int x2), o3] [] σ (mQ X Φ σ)) : jW X.1 X.2.1 jcl X.2.2.1 X.2.2.2.1 (d + 7) y_Mo_begin 51 [some (.ref (mo X)), some (.int x1), some (.int x2), o3] [] σ (mQ X Φ σ) := by
  unfold w_Mo_begin_51 at h
  refine jW.aload_n (dx_Mo_begin 29 (e := (51, .aload_n 0, 1)) rfl) rfl rfl (pc' := 52) rfl ?_
  refine jW.aload_n (dx_Mo_begin 30 (e := (52, .aload_n 0, 1)) rfl) rfl rfl (pc' := 53) rfl ?_
  refine jW.mgi F hV f_Mo_begin_53 (by decide) (pc' := 56) rfl ?_
  refine jW.callVe F (h (d + 0) _ hV) (dx_Mo_begin 32 (e := (56, .invokevirtual 171, 3)) rfl) can_Mo_closeTo jw_1202 jw_1204 hV.cl rfl sel_Mo_closeTo rfl rfl (Nat.le_of_ble_eq_true rfl) (pc' := 59) rfl (fun r σ hr => ?_)
  clear hV
  refine mQ.up hr.1 ?_
  obtain ⟨_, hV, rfl, h⟩ := hr.2
  refine jW.aload_n (dx_Mo_begin 33 (e := (59, .aload_n 0, 1)) rfl) rfl rfl (pc' := 60) rfl ?_
  refine jW.dup (dx_Mo_begin 34 (e := (60, .dup, 1)) rfl) rfl (pc' := 61) rfl ?_
  refine jW.mgi F hV f_Mo_begin_61 (by decide) (pc' := 64) rfl ?_
  refine jW.iconst (v := 1) (dx_Mo_begin 36 (e := (64, .iconst 1, 1)) rfl) (by decide) (pc' := 65) rfl ?_
  refine jW.isub (dx_Mo_begin 37 (e := (65, .isub, 1)) rfl) (pc' := 66) rfl ?_
  refine jW.mpi F hV f_Mo_begin_66 (by decide) rfl rfl rfl (pc' := 69) rfl (fun σ hV => ?_)
  replace h := h _ rfl
  refine jW.goto (dx_Mo_begin 39 (e := (69, .goto (-59), 3)) rfl) 10 (by decide) ?_
  exact hK10 _ _ _ _ _ hV h
def w_Mo_begin_96 (X : MX) (x1 x2 : Int32) (m : MS) (Φ : Option Value → MS → Prop) : Prop := (vp_in (m.1 28) 3300 ∧ ∀ m1, m1 = mA m 13 (m.1 28 : Int32).toNatClampNeg (x1) → (vp_in (m1.1 32) 40 ∧ (vp_in (m.1 28) 3300 ∧ ∀ m2, m2 = mA m1 14 (m.1 28 : Int32).toNatClampNeg (m1.2 29 (m1.1 32 : Int32).toNatClampNeg) → (vp_in (m.1 28) 3300 ∧ ∀ m3, m3 = mA m2 15 (m.1 28 : Int32).toNatClampNeg (0) → (vp_in (m.1 28) 3300 ∧ ∀ m4, m4 = mA m3 16 (m.1 28 : Int32).toNatClampNeg (x2) → (vp_in (m.1 28) 3300 ∧ ∀ m5, m5 = mA m4 17 (m.1 28 : Int32).toNatClampNeg (x2) → (vp_in (m.1 28) 3300 ∧ ∀ m6, m6 = mA m5 18 (m.1 28 : Int32).toNatClampNeg (m5.1 10) → (vp_in (m.1 28) 3300 ∧ ∀ m7, m7 = mA m6 19 (m.1 28 : Int32).toNatClampNeg (0) → (vp_in (m.1 28) 3300 ∧ ∀ m8, m8 = mA m7 20 (m.1 28 : Int32).toNatClampNeg (m7.1 10) → (vp_in (m.1 28) 3300 ∧ ∀ m9, m9 = mA m8 21 (m.1 28 : Int32).toNatClampNeg (0) → (vp_in (m.1 28) 3300 ∧ ∀ m10, m10 = mA m9 22 (m.1 28 : Int32).toNatClampNeg (0) → (vp_in (m.1 28) 3300 ∧ ∀ m11, m11 = mA m10 23 (m.1 28 : Int32).toNatClampNeg (0) → (vp_in (m.1 28) 3300 ∧ ∀ m12, m12 = mA m11 24 (m.1 28 : Int32).toNatClampNeg (0) → (vp_in (m.1 28) 3300 ∧ ∀ m13, m13 = mA m12 25 (m.1 28 : Int32).toNatClampNeg (0) → (vp_in (m.1 28) 3300 ∧ ∀ m14, m14 = mA m13 26 (m.1 28 : Int32).toNatClampNeg (0 &&& 1) → (vp_in (m.1 28) 3300 ∧ ∀ m15, m15 = mA m14 27 (m.1 28 : Int32).toNatClampNeg (0 &&& 1) → (vp_in (m.1 28) 3300 ∧ (vp_in (m15.2 14 (m.1 28 : Int32).toNatClampNeg) 3300 ∧ (vp_in (m15.2 14 (m.1 28 : Int32).toNatClampNeg) 3300 ∧ ∀ m16, m16 = mA m15 25 (m15.2 14 (m.1 28 : Int32).toNatClampNeg : Int32).toNatClampNeg ((m15.2 25 (m15.2 14 (m.1 28 : Int32).toNatClampNeg : Int32).toNatClampNeg) + 1) → ∀ m17, m17 = mI m16 28 ((m16.1 28) + 1) → (vp_in (m17.1 30) 40 ∧ ∀ m18, m18 = mA m17 29 (m17.1 30 : Int32).toNatClampNeg (m.1 28) → ∀ m19, m19 = mI m18 30 ((m18.1 30) + 1) → ∀ m20, m20 = mI m19 32 ((m19.1 30) - 1) → ∀ m21, m21 = mI m20 33 (1) → Φ (some (.int (m.1 28))) m21))))))))))))))))))))
theorem t_Mo_begin_96 {X : MX} {a0 : Array Value} (F : mF X a0) {d : Nat} {x1 x2 : Int32} {o3 : Option Value} {m : MS} {σ : jS} {Φ : Option Value → MS → Prop} (hV : MV X m σ) (h : w_Mo_begin_96 X x1 x2 m Φ) : jW X.1 X.2.1 jcl X.2.2.1 X.2.2.2.1 (d + 7) y_Mo_begin 96 [some (.ref (mo X)), some (.int x1), some (.int x2), o3] [] σ (mQ X Φ σ) := by
  unfold w_Mo_begin_96 at h
  refine jW.aload_n (dx_Mo_begin 53 (e := (96, .aload_n 0, 1)) rfl) rfl rfl (pc' := 97) rfl ?_
  refine jW.mgi F hV f_Mo_begin_97 (by decide) (pc' := 100) rfl ?_
  refine jW.istore_n (dx_Mo_begin 55 (e := (100, .istore_n 3, 1)) rfl) rfl (by decide) rfl (pc' := 101) rfl ?_
  refine jW.aload_n (dx_Mo_begin 56 (e := (101, .aload_n 0, 1)) rfl) rfl rfl (pc' := 102) rfl ?_
  refine jW.mga F hV f_Mo_begin_102 (by decide) (pc' := 105) rfl ?_
  refine jW.iload_n (dx_Mo_begin 58 (e := (105, .iload_n 3, 1)) rfl) rfl rfl (pc' := 106) rfl ?_
  refine jW.iload_n (dx_Mo_begin 59 (e := (106, .iload_n 1, 1)) rfl) rfl rfl (pc' := 107) rfl ?_
  refine jW.msa F hV (dx_Mo_begin 60 (e := (107, .iastore, 1)) rfl) (by decide) rfl h.1 (pc' := 108) rfl (fun σ hV => ?_)
  replace h := h.2 _ rfl
  refine jW.aload_n (dx_Mo_begin 61 (e := (108, .aload_n 0, 1)) rfl) rfl rfl (pc' := 109) rfl ?_
  refine jW.mga F hV f_Mo_begin_109 (by decide) (pc' := 112) rfl ?_
  refine jW.iload_n (dx_Mo_begin 63 (e := (112, .iload_n 3, 1)) rfl) rfl rfl (pc' := 113) rfl ?_
  refine jW.aload_n (dx_Mo_begin 64 (e := (113, .aload_n 0, 1)) rfl) rfl rfl (pc' := 114) rfl ?_
  refine jW.mga F hV f_Mo_begin_114 (by decide) (pc' := 117) rfl ?_
  refine jW.aload_n (dx_Mo_begin 66 (e := (117, .aload_n 0, 1)) rfl) rfl rfl (pc' := 118) rfl ?_
  refine jW.mgi F hV f_Mo_begin_118 (by decide) (pc' := 121) rfl ?_
  refine jW.mla F hV (dx_Mo_begin 68 (e := (121, .iaload, 1)) rfl) (by decide) rfl h.1 (pc' := 122) rfl ?_
  replace h := h.2
  refine jW.msa F hV (dx_Mo_begin 69 (e := (122, .iastore, 1)) rfl) (by decide) rfl h.1 (pc' := 123) rfl (fun σ hV => ?_)
  replace h := h.2 _ rfl
  refine jW.aload_n (dx_Mo_begin 70 (e := (123, .aload_n 0, 1)) rfl) rfl rfl (pc' := 124) rfl ?_
  refine jW.mga F hV f_Mo_begin_124 (by decide) (pc' := 127) rfl ?_
  refine jW.iload_n (dx_Mo_begin 72 (e := (127, .iload_n 3, 1)) rfl) rfl rfl (pc' := 128) rfl ?_
  refine jW.iconst (v := 0) (dx_Mo_begin 73 (e := (128, .iconst 0, 1)) rfl) (by decide) (pc' := 129) rfl ?_
  refine jW.msa F hV (dx_Mo_begin 74 (e := (129, .iastore, 1)) rfl) (by decide) rfl h.1 (pc' := 130) rfl (fun σ hV => ?_)
  replace h := h.2 _ rfl
  refine jW.aload_n (dx_Mo_begin 75 (e := (130, .aload_n 0, 1)) rfl) rfl rfl (pc' := 131) rfl ?_
  refine jW.mga F hV f_Mo_begin_131 (by decide) (pc' := 134) rfl ?_
  refine jW.iload_n (dx_Mo_begin 77 (e := (134, .iload_n 3, 1)) rfl) rfl rfl (pc' := 135) rfl ?_
  refine jW.iload_n (dx_Mo_begin 78 (e := (135, .iload_n 2, 1)) rfl) rfl rfl (pc' := 136) rfl ?_
  refine jW.msa F hV (dx_Mo_begin 79 (e := (136, .iastore, 1)) rfl) (by decide) rfl h.1 (pc' := 137) rfl (fun σ hV => ?_)
  replace h := h.2 _ rfl
  refine jW.aload_n (dx_Mo_begin 80 (e := (137, .aload_n 0, 1)) rfl) rfl rfl (pc' := 138) rfl ?_
  refine jW.mga F hV f_Mo_begin_138 (by decide) (pc' := 141) rfl ?_
  refine jW.iload_n (dx_Mo_begin 82 (e := (141, .iload_n 3, 1)) rfl) rfl rfl (pc' := 142) rfl ?_
  refine jW.iload_n (dx_Mo_begin 83 (e := (142, .iload_n 2, 1)) rfl) rfl rfl (pc' := 143) rfl ?_
  refine jW.msa F hV (dx_Mo_begin 84 (e := (143, .iastore, 1)) rfl) (by decide) rfl h.1 (pc' := 144) rfl (fun σ hV => ?_)
  replace h := h.2 _ rfl
  refine jW.aload_n (dx_Mo_begin 85 (e := (144, .aload_n 0, 1)) rfl) rfl rfl (pc' := 145) rfl ?_
  refine jW.mga F hV f_Mo_begin_145 (by decide) (pc' := 148) rfl ?_
  refine jW.iload_n (dx_Mo_begin 87 (e := (148, .iload_n 3, 1)) rfl) rfl rfl (pc' := 149) rfl ?_
  refine jW.aload_n (dx_Mo_begin 88 (e := (149, .aload_n 0, 1)) rfl) rfl rfl (pc' := 150) rfl ?_
  refine jW.mgi F hV f_Mo_begin_150 (by decide) (pc' := 153) rfl ?_
  refine jW.msa F hV (dx_Mo_begin 90 (e := (153, .iastore, 1)) rfl) (by decide) rfl h.1 (pc' := 154) rfl (fun σ hV => ?_)
  replace h := h.2 _ rfl
  refine jW.aload_n (dx_Mo_begin 91 (e := (154, .aload_n 0, 1)) rfl) rfl rfl (pc' := 155) rfl ?_
  refine jW.mga F hV f_Mo_begin_155 (by decide) (pc' := 158) rfl ?_
  refine jW.iload_n (dx_Mo_begin 93 (e := (158, .iload_n 3, 1)) rfl) rfl rfl (pc' := 159) rfl ?_
  refine jW.iconst (v := 0) (dx_Mo_begin 94 (e := (159, .iconst 0, 1)) rfl) (by decide) (pc' := 160) rfl ?_
  refine jW.msa F hV (dx_Mo_begin 95 (e := (160, .iastore, 1)) rfl) (by decide) rfl h.1 (pc' := 161) rfl (fun σ hV => ?_)
  replace h := h.2 _ rfl
  refine jW.aload_n (dx_Mo_begin 96 (e := (161, .aload_n 0, 1)) rfl) rfl rfl (pc' := 162) rfl ?_
  refine jW.mga F hV f_Mo_begin_162 (by decide) (pc' := 165) rfl ?_
  refine jW.iload_n (dx_Mo_begin 98 (e := (165, .iload_n 3, 1)) rfl) rfl rfl (pc' := 166) rfl ?_
  refine jW.aload_n (dx_Mo_begin 99 (e := (166, .aload_n 0, 1)) rfl) rfl rfl (pc' := 167) rfl ?_
  refine jW.mgi F hV f_Mo_begin_167 (by decide) (pc' := 170) rfl ?_
  refine jW.msa F hV (dx_Mo_begin 101 (e := (170, .iastore, 1)) rfl) (by decide) rfl h.1 (pc' := 171) rfl (fun σ hV => ?_)
  replace h := h.2 _ rfl
  refine jW.aload_n (dx_Mo_begin 102 (e := (171, .aload_n 0, 1)) rfl) rfl rfl (pc' := 172) rfl ?_
  refine jW.mga F hV f_Mo_begin_172 (by decide) (pc' := 175) rfl ?_
  refine jW.iload_n (dx_Mo_begin 104 (e := (175, .iload_n 3, 1)) rfl) rfl rfl (pc' := 176) rfl ?_
  refine jW.iconst (v := 0) (dx_Mo_begin 105 (e := (176, .iconst 0, 1)) rfl) (by decide) (pc' := 177) rfl ?_
  refine jW.msa F hV (dx_Mo_begin 106 (e := (177, .iastore, 1)) rfl) (by decide) rfl h.1 (pc' := 178) rfl (fun σ hV => ?_)
  replace h := h.2 _ rfl
  refine jW.aload_n (dx_Mo_begin 107 (e := (178, .aload_n 0, 1)) rfl) rfl rfl (pc' := 179) rfl ?_
  refine jW.mga F hV f_Mo_begin_179 (by decide) (pc' := 182) rfl ?_
  refine jW.iload_n (dx_Mo_begin 109 (e := (182, .iload_n 3, 1)) rfl) rfl rfl (pc' := 183) rfl ?_
  refine jW.iconst (v := 0) (dx_Mo_begin 110 (e := (183, .iconst 0, 1)) rfl) (by decide) (pc' := 184) rfl ?_
  refine jW.msa F hV (dx_Mo_begin 111 (e := (184, .iastore, 1)) rfl) (by decide) rfl h.1 (pc' := 185) rfl (fun σ hV => ?_)
  replace h := h.2 _ rfl
  refine jW.aload_n (dx_Mo_begin 112 (e := (185, .aload_n 0, 1)) rfl) rfl rfl (pc' := 186) rfl ?_
  refine jW.mga F hV f_Mo_begin_186 (by decide) (pc' := 189) rfl ?_
  refine jW.iload_n (dx_Mo_begin 114 (e := (189, .iload_n 3, 1)) rfl) rfl rfl (pc' := 190) rfl ?_
  refine jW.iconst (v := 0) (dx_Mo_begin 115 (e := (190, .iconst 0, 1)) rfl) (by decide) (pc' := 191) rfl ?_
  refine jW.msa F hV (dx_Mo_begin 116 (e := (191, .iastore, 1)) rfl) (by decide) rfl h.1 (pc' := 192) rfl (fun σ hV => ?_)
  replace h := h.2 _ rfl
  refine jW.aload_n (dx_Mo_begin 117 (e := (192, .aload_n 0, 1)) rfl) rfl rfl (pc' := 193) rfl ?_
  refine jW.mga F hV f_Mo_begin_193 (by decide) (pc' := 196) rfl ?_
  refine jW.iload_n (dx_Mo_begin 119 (e := (196, .iload_n 3, 1)) rfl) rfl rfl (pc' := 197) rfl ?_
  refine jW.iconst (v := 0) (dx_Mo_begin 120 (e := (197, .iconst 0, 1)) rfl) (by decide) (pc' := 198) rfl ?_
  refine jW.msa F hV (dx_Mo_begin 121 (e := (198, .iastore, 1)) rfl) (by decide) rfl h.1 (pc' := 199) rfl (fun σ hV => ?_)
  replace h := h.2 _ rfl
  refine jW.aload_n (dx_Mo_begin 122 (e := (199, .aload_n 0, 1)) rfl) rfl rfl (pc' := 200) rfl ?_
  refine jW.mga F hV f_Mo_begin_200 (by decide) (pc' := 203) rfl ?_
  refine jW.iload_n (dx_Mo_begin 124 (e := (203, .iload_n 3, 1)) rfl) rfl rfl (pc' := 204) rfl ?_
  refine jW.iconst (v := 0) (dx_Mo_begin 125 (e := (204, .iconst 0, 1)) rfl) (by decide) (pc' := 205) rfl ?_
  refine jW.msa F hV (dx_Mo_begin 126 (e := (205, .iastore, 1)) rfl) (by decide) rfl h.1 (pc' := 206) rfl (fun σ hV => ?_)
  replace h := h.2 _ rfl
  refine jW.aload_n (dx_Mo_begin 127 (e := (206, .aload_n 0, 1)) rfl) rfl rfl (pc' := 207) rfl ?_
  refine jW.mga F hV f_Mo_begin_207 (by decide) (pc' := 210) rfl ?_
  refine jW.iload_n (dx_Mo_begin 129 (e := (210, .iload_n 3, 1)) rfl) rfl rfl (pc' := 211) rfl ?_
  refine jW.iconst (v := 0) (dx_Mo_begin 130 (e := (211, .iconst 0, 1)) rfl) (by decide) (pc' := 212) rfl ?_
  refine jW.msz F hV (dx_Mo_begin 131 (e := (212, .bastore, 1)) rfl) (by decide) rfl h.1 (pc' := 213) rfl (fun σ hV => ?_)
  replace h := h.2 _ rfl
  refine jW.aload_n (dx_Mo_begin 132 (e := (213, .aload_n 0, 1)) rfl) rfl rfl (pc' := 214) rfl ?_
  refine jW.mga F hV f_Mo_begin_214 (by decide) (pc' := 217) rfl ?_
  refine jW.iload_n (dx_Mo_begin 134 (e := (217, .iload_n 3, 1)) rfl) rfl rfl (pc' := 218) rfl ?_
  refine jW.iconst (v := 0) (dx_Mo_begin 135 (e := (218, .iconst 0, 1)) rfl) (by decide) (pc' := 219) rfl ?_
  refine jW.msz F hV (dx_Mo_begin 136 (e := (219, .bastore, 1)) rfl) (by decide) rfl h.1 (pc' := 220) rfl (fun σ hV => ?_)
  replace h := h.2 _ rfl
  refine jW.aload_n (dx_Mo_begin 137 (e := (220, .aload_n 0, 1)) rfl) rfl rfl (pc' := 221) rfl ?_
  refine jW.mga F hV f_Mo_begin_221 (by decide) (pc' := 224) rfl ?_
  refine jW.aload_n (dx_Mo_begin 139 (e := (224, .aload_n 0, 1)) rfl) rfl rfl (pc' := 225) rfl ?_
  refine jW.mga F hV f_Mo_begin_225 (by decide) (pc' := 228) rfl ?_
  refine jW.iload_n (dx_Mo_begin 141 (e := (228, .iload_n 3, 1)) rfl) rfl rfl (pc' := 229) rfl ?_
  refine jW.mla F hV (dx_Mo_begin 142 (e := (229, .iaload, 1)) rfl) (by decide) rfl h.1 (pc' := 230) rfl ?_
  replace h := h.2
  refine jW.dup2 (dx_Mo_begin 143 (e := (230, .dup2, 1)) rfl) rfl rfl (pc' := 231) rfl ?_
  refine jW.mla F hV (dx_Mo_begin 144 (e := (231, .iaload, 1)) rfl) (by decide) rfl h.1 (pc' := 232) rfl ?_
  replace h := h.2
  refine jW.iconst (v := 1) (dx_Mo_begin 145 (e := (232, .iconst 1, 1)) rfl) (by decide) (pc' := 233) rfl ?_
  refine jW.iadd (dx_Mo_begin 146 (e := (233, .iadd, 1)) rfl) (pc' := 234) rfl ?_
  refine jW.msa F hV (dx_Mo_begin 147 (e := (234, .iastore, 1)) rfl) (by decide) rfl h.1 (pc' := 235) rfl (fun σ hV => ?_)
  replace h := h.2 _ rfl
  refine jW.aload_n (dx_Mo_begin 148 (e := (235, .aload_n 0, 1)) rfl) rfl rfl (pc' := 236) rfl ?_
  refine jW.dup (dx_Mo_begin 149 (e := (236, .dup, 1)) rfl) rfl (pc' := 237) rfl ?_
  refine jW.mgi F hV f_Mo_begin_237 (by decide) (pc' := 240) rfl ?_
  refine jW.iconst (v := 1) (dx_Mo_begin 151 (e := (240, .iconst 1, 1)) rfl) (by decide) (pc' := 241) rfl ?_
  refine jW.iadd (dx_Mo_begin 152 (e := (241, .iadd, 1)) rfl) (pc' := 242) rfl ?_
  refine jW.mpi F hV f_Mo_begin_242 (by decide) rfl rfl rfl (pc' := 245) rfl (fun σ hV => ?_)
  replace h := h _ rfl
  refine jW.aload_n (dx_Mo_begin 154 (e := (245, .aload_n 0, 1)) rfl) rfl rfl (pc' := 246) rfl ?_
  refine jW.mga F hV f_Mo_begin_246 (by decide) (pc' := 249) rfl ?_
  refine jW.aload_n (dx_Mo_begin 156 (e := (249, .aload_n 0, 1)) rfl) rfl rfl (pc' := 250) rfl ?_
  refine jW.mgi F hV f_Mo_begin_250 (by decide) (pc' := 253) rfl ?_
  refine jW.iload_n (dx_Mo_begin 158 (e := (253, .iload_n 3, 1)) rfl) rfl rfl (pc' := 254) rfl ?_
  refine jW.msa F hV (dx_Mo_begin 159 (e := (254, .iastore, 1)) rfl) (by decide) rfl h.1 (pc' := 255) rfl (fun σ hV => ?_)
  replace h := h.2 _ rfl
  refine jW.aload_n (dx_Mo_begin 160 (e := (255, .aload_n 0, 1)) rfl) rfl rfl (pc' := 256) rfl ?_
  refine jW.dup (dx_Mo_begin 161 (e := (256, .dup, 1)) rfl) rfl (pc' := 257) rfl ?_
  refine jW.mgi F hV f_Mo_begin_257 (by decide) (pc' := 260) rfl ?_
  refine jW.iconst (v := 1) (dx_Mo_begin 163 (e := (260, .iconst 1, 1)) rfl) (by decide) (pc' := 261) rfl ?_
  refine jW.iadd (dx_Mo_begin 164 (e := (261, .iadd, 1)) rfl) (pc' := 262) rfl ?_
  refine jW.mpi F hV f_Mo_begin_262 (by decide) rfl rfl rfl (pc' := 265) rfl (fun σ hV => ?_)
  replace h := h _ rfl
  refine jW.aload_n (dx_Mo_begin 166 (e := (265, .aload_n 0, 1)) rfl) rfl rfl (pc' := 266) rfl ?_
  refine jW.aload_n (dx_Mo_begin 167 (e := (266, .aload_n 0, 1)) rfl) rfl rfl (pc' := 267) rfl ?_
  refine jW.mgi F hV f_Mo_begin_267 (by decide) (pc' := 270) rfl ?_
  refine jW.iconst (v := 1) (dx_Mo_begin 169 (e := (270, .iconst 1, 1)) rfl) (by decide) (pc' := 271) rfl ?_
  refine jW.isub (dx_Mo_begin 170 (e := (271, .isub, 1)) rfl) (pc' := 272) rfl ?_
  refine jW.mpi F hV f_Mo_begin_272 (by decide) rfl rfl rfl (pc' := 275) rfl (fun σ hV => ?_)
  replace h := h _ rfl
  refine jW.aload_n (dx_Mo_begin 172 (e := (275, .aload_n 0, 1)) rfl) rfl rfl (pc' := 276) rfl ?_
  refine jW.iconst (v := 1) (dx_Mo_begin 173 (e := (276, .iconst 1, 1)) rfl) (by decide) (pc' := 277) rfl ?_
  refine jW.mpi F hV f_Mo_begin_277 (by decide) rfl rfl rfl (pc' := 280) rfl (fun σ hV => ?_)
  replace h := h _ rfl
  refine jW.iload_n (dx_Mo_begin 175 (e := (280, .iload_n 3, 1)) rfl) rfl rfl (pc' := 281) rfl ?_
  exact jW.iret (dx_Mo_begin 176 (e := (281, .ireturn, 1)) rfl) rfl ⟨FR.rfl, _, hV, h⟩
def w_Mo_begin_72 (X : MX) (x1 x2 : Int32) (m : MS) (Φ : Option Value → MS → Prop) : Prop := ((x1 < 1 → w_Mo_begin_96 X (x1) (x2) m Φ) ∧ (¬ x1 < 1 → ((3 < x1 → w_Mo_begin_96 X (x1) (x2) m Φ) ∧ (¬ 3 < x1 → mE X 0 y_Mo_depthAtHand [.ref (mo X)] m (iP fun r1 m1 => ((r1 < 12 → w_Mo_begin_96 X (x1) (x2) m1 Φ) ∧ (¬ r1 < 12 → mE X 0 y_Mo_tooDeep [.ref (mo X), .int (x2)] m1 (vP fun m2 => w_Mo_begin_96 X (x1) (x2) m2 Φ))))))))
theorem t_Mo_begin_72 {X : MX} {a0 : Array Value} (F : mF X a0) {d : Nat} {x1 x2 : Int32} {o3 : Option Value} {m : MS} {σ : jS} {Φ : Option Value → MS → Prop} (hV : MV X m σ) (h : w_Mo_begin_72 X x1 x2 m Φ) : jW X.1 X.2.1 jcl X.2.2.1 X.2.2.2.1 (d + 7) y_Mo_begin 72 [some (.ref (mo X)), some (.int x1), some (.int x2), o3] [] σ (mQ X Φ σ) := by
  unfold w_Mo_begin_72 at h
  refine jW.iload_n (dx_Mo_begin 40 (e := (72, .iload_n 1, 1)) rfl) rfl rfl (pc' := 73) rfl ?_
  refine jW.iconst (v := 1) (dx_Mo_begin 41 (e := (73, .iconst 1, 1)) rfl) (by decide) (pc' := 74) rfl ?_
  refine jW.icmp_lt (dx_Mo_begin 42 (e := (74, .if_icmp .lt 22, 3)) rfl) 96 (by decide) (pc' := 77) rfl (fun c => ?_) (fun c => ?_)
  · replace h := h.1 c
    exact t_Mo_begin_96 F hV h
  · replace h := h.2 c
    refine jW.iload_n (dx_Mo_begin 43 (e := (77, .iload_n 1, 1)) rfl) rfl rfl (pc' := 78) rfl ?_
    refine jW.iconst (v := 3) (dx_Mo_begin 44 (e := (78, .iconst 3, 1)) rfl) (by decide) (pc' := 79) rfl ?_
    refine jW.icmp_gt (dx_Mo_begin 45 (e := (79, .if_icmp .gt 17, 3)) rfl) 96 (by decide) (pc' := 82) rfl (fun c => ?_) (fun c => ?_)
    · replace h := h.1 c
      exact t_Mo_begin_96 F hV h
    · replace h := h.2 c
      refine jW.aload_n (dx_Mo_begin 46 (e := (82, .aload_n 0, 1)) rfl) rfl rfl (pc' := 83) rfl ?_
      refine jW.callVe F (h (d + 6) _ hV) (dx_Mo_begin 47 (e := (83, .invokevirtual 174, 3)) rfl) can_Mo_depthAtHand jw_1316 jw_1318 hV.cl rfl sel_Mo_depthAtHand rfl rfl (Nat.le_of_ble_eq_true rfl) (pc' := 86) rfl (fun r σ hr => ?_)
      clear hV
      refine mQ.up hr.1 ?_
      obtain ⟨_, hV, _, rfl, h⟩ := hr.2
      refine jW.bipush (v := 12) (dx_Mo_begin 48 (e := (86, .bipush 12, 2)) rfl) (by decide) (pc' := 88) rfl ?_
      refine jW.icmp_lt (dx_Mo_begin 49 (e := (88, .if_icmp .lt 8, 3)) rfl) 96 (by decide) (pc' := 91) rfl (fun c => ?_) (fun c => ?_)
      · replace h := h.1 c
        exact t_Mo_begin_96 F hV h
      · replace h := h.2 c
        refine jW.aload_n (dx_Mo_begin 50 (e := (91, .aload_n 0, 1)) rfl) rfl rfl (pc' := 92) rfl ?_
        refine jW.iload_n (dx_Mo_begin 51 (e := (92, .iload_n 2, 1)) rfl) rfl rfl (pc' := 93) rfl ?_
        refine jW.callVe F (h (d + 6) _ hV) (dx_Mo_begin 52 (e := (93, .invokevirtual 177, 3)) rfl) can_Mo_tooDeep jw_1320 jw_1322 hV.cl rfl sel_Mo_tooDeep rfl rfl (Nat.le_of_ble_eq_true rfl) (pc' := 96) rfl (fun r σ hr => ?_)
        clear hV
        refine mQ.up hr.1 ?_
        obtain ⟨_, hV, rfl, h⟩ := hr.2
        exact t_Mo_begin_96 F hV h
def w_Mo_begin_10 (X : MX) (x1 x2 : Int32) (m : MS) (Φ : Option Value → MS → Prop) (K10 : Int32 → Int32 → MS → Prop) : Prop := (vp_in (m.1 32) 40 ∧ (vp_in (m.2 29 (m.1 32 : Int32).toNatClampNeg) 3300 ∧ ((3 < m.2 13 (m.2 29 (m.1 32 : Int32).toNatClampNeg : Int32).toNatClampNeg → w_Mo_begin_51 X (x1) (x2) m Φ K10) ∧ (¬ 3 < m.2 13 (m.2 29 (m.1 32 : Int32).toNatClampNeg : Int32).toNatClampNeg → (vp_in (m.1 32) 40 ∧ (vp_in (m.2 29 (m.1 32 : Int32).toNatClampNeg) 3300 ∧ ((m.2 13 (m.2 29 (m.1 32 : Int32).toNatClampNeg : Int32).toNatClampNeg = 2 → ((x1 = 3 → w_Mo_begin_72 X (x1) (x2) m Φ) ∧ (¬ x1 = 3 → w_Mo_begin_51 X (x1) (x2) m Φ K10))) ∧ (¬ m.2 13 (m.2 29 (m.1 32 : Int32).toNatClampNeg : Int32).toNatClampNeg = 2 → w_Mo_begin_72 X (x1) (x2) m Φ))))))))
theorem t_Mo_begin_10 {X : MX} {a0 : Array Value} (F : mF X a0) {d : Nat} {x1 x2 : Int32} {o3 : Option Value} {m : MS} {σ : jS} {Φ : Option Value → MS → Prop} {K10 : Int32 → Int32 → MS → Prop} (hV : MV X m σ) (h : w_Mo_begin_10 X x1 x2 m Φ K10) (hK10 : ∀ (x1 x2 : Int32) (o3 : Option Value) (m : MS) (σ : jS), MV X m σ → K10 x1 x2 m → jW X.1 X.2.1 jcl X.2.2.1 X.2.2.2.1 (d + 7) y_Mo_begin 10 [some (.ref (mo X)), some (.int x1), some (.int x2), o3] [] σ (mQ X Φ σ)) : jW X.1 X.2.1 jcl X.2.2.1 X.2.2.2.1 (d + 7) y_Mo_begin 10 [some (.ref (mo X)), some (.int x1), some (.int x2), o3] [] σ (mQ X Φ σ) := by
  unfold w_Mo_begin_10 at h
  refine jW.aload_n (dx_Mo_begin 6 (e := (10, .aload_n 0, 1)) rfl) rfl rfl (pc' := 11) rfl ?_
  refine jW.mga F hV f_Mo_begin_11 (by decide) (pc' := 14) rfl ?_
  refine jW.aload_n (dx_Mo_begin 8 (e := (14, .aload_n 0, 1)) rfl) rfl rfl (pc' := 15) rfl ?_
  refine jW.mga F hV f_Mo_begin_15 (by decide) (pc' := 18) rfl ?_
  refine jW.aload_n (dx_Mo_begin 10 (e := (18, .aload_n 0, 1)) rfl) rfl rfl (pc' := 19) rfl ?_
  refine jW.mgi F hV f_Mo_begin_19 (by decide) (pc' := 22) rfl ?_
  refine jW.mla F hV (dx_Mo_begin 12 (e := (22, .iaload, 1)) rfl) (by decide) rfl h.1 (pc' := 23) rfl ?_
  replace h := h.2
  refine jW.mla F hV (dx_Mo_begin 13 (e := (23, .iaload, 1)) rfl) (by decide) rfl h.1 (pc' := 24) rfl ?_
  replace h := h.2
  refine jW.iconst (v := 3) (dx_Mo_begin 14 (e := (24, .iconst 3, 1)) rfl) (by decide) (pc' := 25) rfl ?_
  refine jW.icmp_gt (dx_Mo_begin 15 (e := (25, .if_icmp .gt 26, 3)) rfl) 51 (by decide) (pc' := 28) rfl (fun c => ?_) (fun c => ?_)
  · replace h := h.1 c
    exact t_Mo_begin_51 F hV h hK10
  · replace h := h.2 c
    refine jW.aload_n (dx_Mo_begin 16 (e := (28, .aload_n 0, 1)) rfl) rfl rfl (pc' := 29) rfl ?_
    refine jW.mga F hV f_Mo_begin_29 (by decide) (pc' := 32) rfl ?_
    refine jW.aload_n (dx_Mo_begin 18 (e := (32, .aload_n 0, 1)) rfl) rfl rfl (pc' := 33) rfl ?_
    refine jW.mga F hV f_Mo_begin_33 (by decide) (pc' := 36) rfl ?_
    refine jW.aload_n (dx_Mo_begin 20 (e := (36, .aload_n 0, 1)) rfl) rfl rfl (pc' := 37) rfl ?_
    refine jW.mgi F hV f_Mo_begin_37 (by decide) (pc' := 40) rfl ?_
    refine jW.mla F hV (dx_Mo_begin 22 (e := (40, .iaload, 1)) rfl) (by decide) rfl h.1 (pc' := 41) rfl ?_
    replace h := h.2
    refine jW.mla F hV (dx_Mo_begin 23 (e := (41, .iaload, 1)) rfl) (by decide) rfl h.1 (pc' := 42) rfl ?_
    replace h := h.2
    refine jW.iconst (v := 2) (dx_Mo_begin 24 (e := (42, .iconst 2, 1)) rfl) (by decide) (pc' := 43) rfl ?_
    refine jW.icmp_ne (dx_Mo_begin 25 (e := (43, .if_icmp .ne 29, 3)) rfl) 72 (by decide) (pc' := 46) rfl (fun c => ?_) (fun c => ?_)
    · replace h := h.2 c
      exact t_Mo_begin_72 F hV h
    · replace h := h.1 c
      refine jW.iload_n (dx_Mo_begin 26 (e := (46, .iload_n 1, 1)) rfl) rfl rfl (pc' := 47) rfl ?_
      refine jW.iconst (v := 3) (dx_Mo_begin 27 (e := (47, .iconst 3, 1)) rfl) (by decide) (pc' := 48) rfl ?_
      refine jW.icmp_eq (dx_Mo_begin 28 (e := (48, .if_icmp .eq 24, 3)) rfl) 72 (by decide) (pc' := 51) rfl (fun c => ?_) (fun c => ?_)
      · replace h := h.1 c
        exact t_Mo_begin_72 F hV h
      · replace h := h.2 c
        exact t_Mo_begin_51 F hV h hK10
def w_Mo_begin_0 (X : MX) (x1 x2 : Int32) (m : MS) (Φ : Option Value → MS → Prop) (K10 : Int32 → Int32 → MS → Prop) : Prop := mE X 6 y_Mo_closeTo [.ref (mo X), .int ((m.1 32) + 1)] m (vP fun m1 => K10 (x1) (x2) m1)
theorem t_Mo_begin_0 {X : MX} {a0 : Array Value} (F : mF X a0) {d : Nat} {x1 x2 : Int32} {o3 : Option Value} {m : MS} {σ : jS} {Φ : Option Value → MS → Prop} {K10 : Int32 → Int32 → MS → Prop} (hV : MV X m σ) (h : w_Mo_begin_0 X x1 x2 m Φ K10) (hK10 : ∀ (x1 x2 : Int32) (o3 : Option Value) (m : MS) (σ : jS), MV X m σ → K10 x1 x2 m → jW X.1 X.2.1 jcl X.2.2.1 X.2.2.2.1 (d + 7) y_Mo_begin 10 [some (.ref (mo X)), some (.int x1), some (.int x2), o3] [] σ (mQ X Φ σ)) : jW X.1 X.2.1 jcl X.2.2.1 X.2.2.2.1 (d + 7) y_Mo_begin 0 [some (.ref (mo X)), some (.int x1), some (.int x2), o3] [] σ (mQ X Φ σ) := by
  unfold w_Mo_begin_0 at h
  refine jW.aload_n (dx_Mo_begin 0 (e := (0, .aload_n 0, 1)) rfl) rfl rfl (pc' := 1) rfl ?_
  refine jW.aload_n (dx_Mo_begin 1 (e := (1, .aload_n 0, 1)) rfl) rfl rfl (pc' := 2) rfl ?_
  refine jW.mgi F hV f_Mo_begin_2 (by decide) (pc' := 5) rfl ?_
  refine jW.iconst (v := 1) (dx_Mo_begin 3 (e := (5, .iconst 1, 1)) rfl) (by decide) (pc' := 6) rfl ?_
  refine jW.iadd (dx_Mo_begin 4 (e := (6, .iadd, 1)) rfl) (pc' := 7) rfl ?_
  refine jW.callVe F (h (d + 0) _ hV) (dx_Mo_begin 5 (e := (7, .invokevirtual 171, 3)) rfl) can_Mo_closeTo jw_1202 jw_1204 hV.cl rfl sel_Mo_closeTo rfl rfl (Nat.le_of_ble_eq_true rfl) (pc' := 10) rfl (fun r σ hr => ?_)
  clear hV
  refine mQ.up hr.1 ?_
  obtain ⟨_, hV, rfl, h⟩ := hr.2
  exact hK10 _ _ _ _ _ hV h
theorem g_Mo_begin {X : MX} {a0 : Array Value} (F : mF X a0) {x1 x2 : Int32} {m : MS} {Φ : Option Value → MS → Prop} {I10 : Nat → Int32 → Int32 → MS → Prop} (he : w_Mo_begin_0 X x1 x2 m Φ (fun x1 x2 m => ∃ j, I10 j x1 x2 m)) (h10 : ∀ (n : Nat) (x1 x2 : Int32) (m : MS), I10 n x1 x2 m → w_Mo_begin_10 X x1 x2 m Φ (fun x1 x2 m => ∃ j, j < n ∧ I10 j x1 x2 m)) : mE X 7 y_Mo_begin [.ref (mo X), .int x1, .int x2] m Φ := by
  intro d σ hV
  have hL10 : ∀ n, (∀ (x1 x2 : Int32) (o3 : Option Value) (m : MS) (σ : jS), MV X m σ → I10 n x1 x2 m → jW X.1 X.2.1 jcl X.2.2.1 X.2.2.2.1 (d + 7) y_Mo_begin 10 [some (.ref (mo X)), some (.int x1), some (.int x2), o3] [] σ (mQ X Φ σ)) := by
    intro n
    induction n using Nat.strongRecOn with
    | _ n ih =>
      exact fun x1 x2 o3 m σ hV hI => t_Mo_begin_10 F hV (h10 n x1 x2 m hI) (fun x1 x2 o3 m σ hV ⟨j, hj, hI⟩ => (ih j hj) x1 x2 o3 m σ hV hI)
  refine jE.of (by decide) (by simp [Value.category]) (Nat.le_of_ble_eq_true rfl) rfl ?_
  exact t_Mo_begin_0 F hV he (fun x1 x2 o3 m σ hV ⟨j, hI⟩ => (hL10 j) x1 x2 o3 m σ hV hI)
def w_Mo_depthAtHand_48 (X : MX) (x1 x2 s0 s1 : Int32) (m : MS) (Φ : Option Value → MS → Prop) (K4 : Int32 → Int32 → MS → Prop) : Prop := K4 (s0 + s1) (x2 + 1) m
theorem t_Mo_depthAtHand_48 {X : MX} {a0 : Array Value} (F : mF X a0) {d : Nat} {x1 x2 s0 s1 : Int32} {m : MS} {σ : jS} {Φ : Option Value → MS → Prop} {K4 : Int32 → Int32 → MS → Prop} (hV : MV X m σ) (h : w_Mo_depthAtHand_48 X x1 x2 s0 s1 m Φ K4) (hK4 : ∀ (x1 x2 : Int32) (m : MS) (σ : jS), MV X m σ → K4 x1 x2 m → jW X.1 X.2.1 jcl X.2.2.1 X.2.2.2.1 (d + 0) y_Mo_depthAtHand 4 [some (.ref (mo X)), some (.int x1), some (.int x2)] [] σ (mQ X Φ σ)) : jW X.1 X.2.1 jcl X.2.2.1 X.2.2.2.1 (d + 0) y_Mo_depthAtHand 48 [some (.ref (mo X)), some (.int x1), some (.int x2)] [.int s1, .int s0] σ (mQ X Φ σ) := by
  unfold w_Mo_depthAtHand_48 at h
  refine jW.iadd (dx_Mo_depthAtHand 30 (e := (48, .iadd, 1)) rfl) (pc' := 49) rfl ?_
  refine jW.istore_n (dx_Mo_depthAtHand 31 (e := (49, .istore_n 1, 1)) rfl) rfl (by decide) rfl (pc' := 50) rfl ?_
  refine jW.iinc (v := _ + (1)) (dx_Mo_depthAtHand 32 (e := (50, .iinc 2 1, 3)) rfl) rfl rfl (by decide) rfl (pc' := 53) rfl ?_
  refine jW.goto (dx_Mo_depthAtHand 33 (e := (53, .goto (-49), 3)) rfl) 4 (by decide) ?_
  exact hK4 _ _ _ _ hV h
def w_Mo_depthAtHand_47 (X : MX) (x1 x2 s0 : Int32) (m : MS) (Φ : Option Value → MS → Prop) (K4 : Int32 → Int32 → MS → Prop) : Prop := w_Mo_depthAtHand_48 X (x1) (x2) (s0) (0) m Φ K4
theorem t_Mo_depthAtHand_47 {X : MX} {a0 : Array Value} (F : mF X a0) {d : Nat} {x1 x2 s0 : Int32} {m : MS} {σ : jS} {Φ : Option Value → MS → Prop} {K4 : Int32 → Int32 → MS → Prop} (hV : MV X m σ) (h : w_Mo_depthAtHand_47 X x1 x2 s0 m Φ K4) (hK4 : ∀ (x1 x2 : Int32) (m : MS) (σ : jS), MV X m σ → K4 x1 x2 m → jW X.1 X.2.1 jcl X.2.2.1 X.2.2.2.1 (d + 0) y_Mo_depthAtHand 4 [some (.ref (mo X)), some (.int x1), some (.int x2)] [] σ (mQ X Φ σ)) : jW X.1 X.2.1 jcl X.2.2.1 X.2.2.2.1 (d + 0) y_Mo_depthAtHand 47 [some (.ref (mo X)), some (.int x1), some (.int x2)] [.int s0] σ (mQ X Φ σ) := by
  unfold w_Mo_depthAtHand_47 at h
  refine jW.iconst (v := 0) (dx_Mo_depthAtHand 29 (e := (47, .iconst 0, 1)) rfl) (by decide) (pc' := 48) rfl ?_
  exact t_Mo_depthAtHand_48 F hV h hK4
def w_Mo_depthAtHand_4 (X : MX) (x1 x2 : Int32) (m : MS) (Φ : Option Value → MS → Prop) (K4 : Int32 → Int32 → MS → Prop) : Prop := ((m.1 32 < x2 → Φ (some (.int (x1))) m) ∧ (¬ m.1 32 < x2 → (vp_in (x2) 40 ∧ (vp_in (m.2 29 (x2 : Int32).toNatClampNeg) 3300 ∧ ((m.2 13 (m.2 29 (x2 : Int32).toNatClampNeg : Int32).toNatClampNeg < 1 → w_Mo_depthAtHand_47 X (x1) (x2) (x1) m Φ K4) ∧ (¬ m.2 13 (m.2 29 (x2 : Int32).toNatClampNeg : Int32).toNatClampNeg < 1 → (vp_in (x2) 40 ∧ (vp_in (m.2 29 (x2 : Int32).toNatClampNeg) 3300 ∧ ((3 < m.2 13 (m.2 29 (x2 : Int32).toNatClampNeg : Int32).toNatClampNeg → w_Mo_depthAtHand_47 X (x1) (x2) (x1) m Φ K4) ∧ (¬ 3 < m.2 13 (m.2 29 (x2 : Int32).toNatClampNeg : Int32).toNatClampNeg → w_Mo_depthAtHand_48 X (x1) (x2) (x1) (1) m Φ K4))))))))))
theorem t_Mo_depthAtHand_4 {X : MX} {a0 : Array Value} (F : mF X a0) {d : Nat} {x1 x2 : Int32} {m : MS} {σ : jS} {Φ : Option Value → MS → Prop} {K4 : Int32 → Int32 → MS → Prop} (hV : MV X m σ) (h : w_Mo_depthAtHand_4 X x1 x2 m Φ K4) (hK4 : ∀ (x1 x2 : Int32) (m : MS) (σ : jS), MV X m σ → K4 x1 x2 m → jW X.1 X.2.1 jcl X.2.2.1 X.2.2.2.1 (d + 0) y_Mo_depthAtHand 4 [some (.ref (mo X)), some (.int x1), some (.int x2)] [] σ (mQ X Φ σ)) : jW X.1 X.2.1 jcl X.2.2.1 X.2.2.2.1 (d + 0) y_Mo_depthAtHand 4 [some (.ref (mo X)), some (.int x1), some (.int x2)] [] σ (mQ X Φ σ) := by
  unfold w_Mo_depthAtHand_4 at h
  refine jW.iload_n (dx_Mo_depthAtHand 4 (e := (4, .iload_n 2, 1)) rfl) rfl rfl (pc' := 5) rfl ?_
  refine jW.aload_n (dx_Mo_depthAtHand 5 (e := (5, .aload_n 0, 1)) rfl) rfl rfl (pc' := 6) rfl ?_
  refine jW.mgi F hV f_Mo_depthAtHand_6 (by decide) (pc' := 9) rfl ?_
  refine jW.icmp_gt (dx_Mo_depthAtHand 7 (e := (9, .if_icmp .gt 47, 3)) rfl) 56 (by decide) (pc' := 12) rfl (fun c => ?_) (fun c => ?_)
  · replace h := h.1 c
    refine jW.iload_n (dx_Mo_depthAtHand 34 (e := (56, .iload_n 1, 1)) rfl) rfl rfl (pc' := 57) rfl ?_
    exact jW.iret (dx_Mo_depthAtHand 35 (e := (57, .ireturn, 1)) rfl) rfl ⟨FR.rfl, _, hV, h⟩
  · replace h := h.2 c
    refine jW.iload_n (dx_Mo_depthAtHand 8 (e := (12, .iload_n 1, 1)) rfl) rfl rfl (pc' := 13) rfl ?_
    refine jW.aload_n (dx_Mo_depthAtHand 9 (e := (13, .aload_n 0, 1)) rfl) rfl rfl (pc' := 14) rfl ?_
    refine jW.mga F hV f_Mo_depthAtHand_14 (by decide) (pc' := 17) rfl ?_
    refine jW.aload_n (dx_Mo_depthAtHand 11 (e := (17, .aload_n 0, 1)) rfl) rfl rfl (pc' := 18) rfl ?_
    refine jW.mga F hV f_Mo_depthAtHand_18 (by decide) (pc' := 21) rfl ?_
    refine jW.iload_n (dx_Mo_depthAtHand 13 (e := (21, .iload_n 2, 1)) rfl) rfl rfl (pc' := 22) rfl ?_
    refine jW.mla F hV (dx_Mo_depthAtHand 14 (e := (22, .iaload, 1)) rfl) (by decide) rfl h.1 (pc' := 23) rfl ?_
    replace h := h.2
    refine jW.mla F hV (dx_Mo_depthAtHand 15 (e := (23, .iaload, 1)) rfl) (by decide) rfl h.1 (pc' := 24) rfl ?_
    replace h := h.2
    refine jW.iconst (v := 1) (dx_Mo_depthAtHand 16 (e := (24, .iconst 1, 1)) rfl) (by decide) (pc' := 25) rfl ?_
    refine jW.icmp_lt (dx_Mo_depthAtHand 17 (e := (25, .if_icmp .lt 22, 3)) rfl) 47 (by decide) (pc' := 28) rfl (fun c => ?_) (fun c => ?_)
    · replace h := h.1 c
      exact t_Mo_depthAtHand_47 F hV h hK4
    · replace h := h.2 c
      refine jW.aload_n (dx_Mo_depthAtHand 18 (e := (28, .aload_n 0, 1)) rfl) rfl rfl (pc' := 29) rfl ?_
      refine jW.mga F hV f_Mo_depthAtHand_29 (by decide) (pc' := 32) rfl ?_
      refine jW.aload_n (dx_Mo_depthAtHand 20 (e := (32, .aload_n 0, 1)) rfl) rfl rfl (pc' := 33) rfl ?_
      refine jW.mga F hV f_Mo_depthAtHand_33 (by decide) (pc' := 36) rfl ?_
      refine jW.iload_n (dx_Mo_depthAtHand 22 (e := (36, .iload_n 2, 1)) rfl) rfl rfl (pc' := 37) rfl ?_
      refine jW.mla F hV (dx_Mo_depthAtHand 23 (e := (37, .iaload, 1)) rfl) (by decide) rfl h.1 (pc' := 38) rfl ?_
      replace h := h.2
      refine jW.mla F hV (dx_Mo_depthAtHand 24 (e := (38, .iaload, 1)) rfl) (by decide) rfl h.1 (pc' := 39) rfl ?_
      replace h := h.2
      refine jW.iconst (v := 3) (dx_Mo_depthAtHand 25 (e := (39, .iconst 3, 1)) rfl) (by decide) (pc' := 40) rfl ?_
      refine jW.icmp_gt (dx_Mo_depthAtHand 26 (e := (40, .if_icmp .gt 7, 3)) rfl) 47 (by decide) (pc' := 43) rfl (fun c => ?_) (fun c => ?_)
      · replace h := h.1 c
        exact t_Mo_depthAtHand_47 F hV h hK4
      · replace h := h.2 c
        refine jW.iconst (v := 1) (dx_Mo_depthAtHand 27 (e := (43, .iconst 1, 1)) rfl) (by decide) (pc' := 44) rfl ?_
        refine jW.goto (dx_Mo_depthAtHand 28 (e := (44, .goto 4, 3)) rfl) 48 (by decide) ?_
        exact t_Mo_depthAtHand_48 F hV h hK4
def w_Mo_depthAtHand_0 (X : MX) (m : MS) (Φ : Option Value → MS → Prop) (K4 : Int32 → Int32 → MS → Prop) : Prop := K4 (0) (0) m
theorem t_Mo_depthAtHand_0 {X : MX} {a0 : Array Value} (F : mF X a0) {d : Nat} {o1 o2 : Option Value} {m : MS} {σ : jS} {Φ : Option Value → MS → Prop} {K4 : Int32 → Int32 → MS → Prop} (hV : MV X m σ) (h : w_Mo_depthAtHand_0 X m Φ K4) (hK4 : ∀ (x1 x2 : Int32) (m : MS) (σ : jS), MV X m σ → K4 x1 x2 m → jW X.1 X.2.1 jcl X.2.2.1 X.2.2.2.1 (d + 0) y_Mo_depthAtHand 4 [some (.ref (mo X)), some (.int x1), some (.int x2)] [] σ (mQ X Φ σ)) : jW X.1 X.2.1 jcl X.2.2.1 X.2.2.2.1 (d + 0) y_Mo_depthAtHand 0 [some (.ref (mo X)), o1, o2] [] σ (mQ X Φ σ) := by
  unfold w_Mo_depthAtHand_0 at h
  refine jW.iconst (v := 0) (dx_Mo_depthAtHand 0 (e := (0, .iconst 0, 1)) rfl) (by decide) (pc' := 1) rfl ?_
  refine jW.istore_n (dx_Mo_depthAtHand 1 (e := (1, .istore_n 1, 1)) rfl) rfl (by decide) rfl (pc' := 2) rfl ?_
  refine jW.iconst (v := 0) (dx_Mo_depthAtHand 2 (e := (2, .iconst 0, 1)) rfl) (by decide) (pc' := 3) rfl ?_
  refine jW.istore_n (dx_Mo_depthAtHand 3 (e := (3, .istore_n 2, 1)) rfl) rfl (by decide) rfl (pc' := 4) rfl ?_
  exact hK4 _ _ _ _ hV h
theorem g_Mo_depthAtHand {X : MX} {a0 : Array Value} (F : mF X a0) {m : MS} {Φ : Option Value → MS → Prop} {I4 : Nat → Int32 → Int32 → MS → Prop} (he : w_Mo_depthAtHand_0 X m Φ (fun x1 x2 m => ∃ j, I4 j x1 x2 m)) (h4 : ∀ (n : Nat) (x1 x2 : Int32) (m : MS), I4 n x1 x2 m → w_Mo_depthAtHand_4 X x1 x2 m Φ (fun x1 x2 m => ∃ j, j < n ∧ I4 j x1 x2 m)) : mE X 0 y_Mo_depthAtHand [.ref (mo X)] m Φ := by
  intro d σ hV
  have hL4 : ∀ n, (∀ (x1 x2 : Int32) (m : MS) (σ : jS), MV X m σ → I4 n x1 x2 m → jW X.1 X.2.1 jcl X.2.2.1 X.2.2.2.1 (d + 0) y_Mo_depthAtHand 4 [some (.ref (mo X)), some (.int x1), some (.int x2)] [] σ (mQ X Φ σ)) := by
    intro n
    induction n using Nat.strongRecOn with
    | _ n ih =>
      exact fun x1 x2 m σ hV hI => t_Mo_depthAtHand_4 F hV (h4 n x1 x2 m hI) (fun x1 x2 m σ hV ⟨j, hj, hI⟩ => (ih j hj) x1 x2 m σ hV hI)
  refine jE.of (by decide) (by simp [Value.category]) (Nat.le_of_ble_eq_true rfl) rfl ?_
  exact t_Mo_depthAtHand_0 F hV he (fun x1 x2 m σ hV ⟨j, hI⟩ => (hL4 j) x1 x2 m σ hV hI)
def w_Mo_tooDeep_13 (X : MX) (x1 : Int32) (m : MS) (Φ : Option Value → MS → Prop) : Prop := Φ none m
theorem t_Mo_tooDeep_13 {X : MX} {a0 : Array Value} (F : mF X a0) {d : Nat} {x1 : Int32} {m : MS} {σ : jS} {Φ : Option Value → MS → Prop} (hV : MV X m σ) (h : w_Mo_tooDeep_13 X x1 m Φ) : jW X.1 X.2.1 jcl X.2.2.1 X.2.2.2.1 (d + 0) y_Mo_tooDeep 13 [some (.ref (mo X)), some (.int x1)] [] σ (mQ X Φ σ) := by
  unfold w_Mo_tooDeep_13 at h
  exact jW.vret (dx_Mo_tooDeep 7 (e := (13, .return_, 1)) rfl) rfl ⟨FR.rfl, _, hV, h⟩
def w_Mo_tooDeep_0 (X : MX) (x1 : Int32) (m : MS) (Φ : Option Value → MS → Prop) : Prop := ((m.1 5 = -1 → ∀ m1, m1 = mI m 5 (x1) → w_Mo_tooDeep_13 X (x1) m1 Φ) ∧ (¬ m.1 5 = -1 → w_Mo_tooDeep_13 X (x1) m Φ))
theorem t_Mo_tooDeep_0 {X : MX} {a0 : Array Value} (F : mF X a0) {d : Nat} {x1 : Int32} {m : MS} {σ : jS} {Φ : Option Value → MS → Prop} (hV : MV X m σ) (h : w_Mo_tooDeep_0 X x1 m Φ) : jW X.1 X.2.1 jcl X.2.2.1 X.2.2.2.1 (d + 0) y_Mo_tooDeep 0 [some (.ref (mo X)), some (.int x1)] [] σ (mQ X Φ σ) := by
  unfold w_Mo_tooDeep_0 at h
  refine jW.aload_n (dx_Mo_tooDeep 0 (e := (0, .aload_n 0, 1)) rfl) rfl rfl (pc' := 1) rfl ?_
  refine jW.mgi F hV f_Mo_tooDeep_1 (by decide) (pc' := 4) rfl ?_
  refine jW.iconst (v := -1) (dx_Mo_tooDeep 2 (e := (4, .iconst (-1), 1)) rfl) (by decide) (pc' := 5) rfl ?_
  refine jW.icmp_ne (dx_Mo_tooDeep 3 (e := (5, .if_icmp .ne 8, 3)) rfl) 13 (by decide) (pc' := 8) rfl (fun c => ?_) (fun c => ?_)
  · replace h := h.2 c
    exact t_Mo_tooDeep_13 F hV h
  · replace h := h.1 c
    refine jW.aload_n (dx_Mo_tooDeep 4 (e := (8, .aload_n 0, 1)) rfl) rfl rfl (pc' := 9) rfl ?_
    refine jW.iload_n (dx_Mo_tooDeep 5 (e := (9, .iload_n 1, 1)) rfl) rfl rfl (pc' := 10) rfl ?_
    refine jW.mpi F hV f_Mo_tooDeep_10 (by decide) rfl rfl rfl (pc' := 13) rfl (fun σ hV => ?_)
    replace h := h _ rfl
    exact t_Mo_tooDeep_13 F hV h
theorem g_Mo_tooDeep {X : MX} {a0 : Array Value} (F : mF X a0) {x1 : Int32} {m : MS} {Φ : Option Value → MS → Prop} (he : w_Mo_tooDeep_0 X x1 m Φ) : mE X 0 y_Mo_tooDeep [.ref (mo X), .int x1] m Φ := by
  intro d σ hV
  refine jE.of (by decide) (by simp [Value.category]) (Nat.le_of_ble_eq_true rfl) rfl ?_
  exact t_Mo_tooDeep_0 F hV he
def w_Mo_isHash_69 (X : MX) (x1 x2 s0 : Int32) (m : MS) (Φ : Option Value → MS → Prop) : Prop := (mZ (s0) ∧ Φ (some (.int (s0))) m)
theorem t_Mo_isHash_69 {X : MX} {a0 : Array Value} (F : mF X a0) {d : Nat} {x1 x2 s0 : Int32} {m : MS} {σ : jS} {Φ : Option Value → MS → Prop} (hV : MV X m σ) (h : w_Mo_isHash_69 X x1 x2 s0 m Φ) : jW X.1 X.2.1 jcl X.2.2.1 X.2.2.2.1 (d + 2) y_Mo_isHash 69 [some (.ref (mo X)), some (.int x1), some (.int x2)] [.int s0] σ (mQ X Φ σ) := by
  unfold w_Mo_isHash_69 at h
  exact jW.zret (dx_Mo_isHash 40 (e := (69, .ireturn, 1)) rfl) rfl h.1.n ⟨FR.rfl, _, hV, h.2⟩
def w_Mo_isHash_68 (X : MX) (x1 x2 : Int32) (m : MS) (Φ : Option Value → MS → Prop) : Prop := w_Mo_isHash_69 X (x1) (x2) (0) m Φ
theorem t_Mo_isHash_68 {X : MX} {a0 : Array Value} (F : mF X a0) {d : Nat} {x1 x2 : Int32} {m : MS} {σ : jS} {Φ : Option Value → MS → Prop} (hV : MV X m σ) (h : w_Mo_isHash_68 X x1 x2 m Φ) : jW X.1 X.2.1 jcl X.2.2.1 X.2.2.2.1 (d + 2) y_Mo_isHash 68 [some (.ref (mo X)), some (.int x1), some (.int x2)] [] σ (mQ X Φ σ) := by
  unfold w_Mo_isHash_68 at h
  refine jW.iconst (v := 0) (dx_Mo_isHash 39 (e := (68, .iconst 0, 1)) rfl) (by decide) (pc' := 69) rfl ?_
  exact t_Mo_isHash_69 F hV h
def w_Mo_isHash_64 (X : MX) (x1 x2 : Int32) (m : MS) (Φ : Option Value → MS → Prop) : Prop := w_Mo_isHash_69 X (x1) (x2) (1) m Φ
theorem t_Mo_isHash_64 {X : MX} {a0 : Array Value} (F : mF X a0) {d : Nat} {x1 x2 : Int32} {m : MS} {σ : jS} {Φ : Option Value → MS → Prop} (hV : MV X m σ) (h : w_Mo_isHash_64 X x1 x2 m Φ) : jW X.1 X.2.1 jcl X.2.2.1 X.2.2.2.1 (d + 2) y_Mo_isHash 64 [some (.ref (mo X)), some (.int x1), some (.int x2)] [] σ (mQ X Φ σ) := by
  unfold w_Mo_isHash_64 at h
  refine jW.iconst (v := 1) (dx_Mo_isHash 37 (e := (64, .iconst 1, 1)) rfl) (by decide) (pc' := 65) rfl ?_
  refine jW.goto (dx_Mo_isHash 38 (e := (65, .goto 4, 3)) rfl) 69 (by decide) ?_
  exact t_Mo_isHash_69 F hV h
def w_Mo_isHash_21 (X : MX) (x1 s0 : Int32) (m : MS) (Φ : Option Value → MS → Prop) : Prop := ((s0 ≤ 0 → w_Mo_isHash_68 X (x1) (s0) m Φ) ∧ (¬ s0 ≤ 0 → ((7 ≤ s0 → w_Mo_isHash_68 X (x1) (s0) m Φ) ∧ (¬ 7 ≤ s0 → ((((m.1 31) + x1) + s0 = m.1 12 → w_Mo_isHash_64 X (x1) (s0) m Φ) ∧ (¬ ((m.1 31) + x1) + s0 = m.1 12 → mE X 0 y_Mo_at [.ref (mo X), .int (((m.1 31) + x1) + s0)] m (iP fun r1 m1 => ((r1 = 32 → w_Mo_isHash_64 X (x1) (s0) m1 Φ) ∧ (¬ r1 = 32 → w_Mo_isHash_68 X (x1) (s0) m1 Φ)))))))))
theorem t_Mo_isHash_21 {X : MX} {a0 : Array Value} (F : mF X a0) {d : Nat} {x1 s0 : Int32} {o2 : Option Value} {m : MS} {σ : jS} {Φ : Option Value → MS → Prop} (hV : MV X m σ) (h : w_Mo_isHash_21 X x1 s0 m Φ) : jW X.1 X.2.1 jcl X.2.2.1 X.2.2.2.1 (d + 2) y_Mo_isHash 21 [some (.ref (mo X)), some (.int x1), o2] [.int s0] σ (mQ X Φ σ) := by
  unfold w_Mo_isHash_21 at h
  refine jW.istore_n (dx_Mo_isHash 12 (e := (21, .istore_n 2, 1)) rfl) rfl (by decide) rfl (pc' := 22) rfl ?_
  refine jW.iload_n (dx_Mo_isHash 13 (e := (22, .iload_n 2, 1)) rfl) rfl rfl (pc' := 23) rfl ?_
  refine jW.if_le (dx_Mo_isHash 14 (e := (23, .ifCond .le 45, 3)) rfl) 68 (by decide) (pc' := 26) rfl (fun c => ?_) (fun c => ?_)
  · replace h := h.1 c
    exact t_Mo_isHash_68 F hV h
  · replace h := h.2 c
    refine jW.iload_n (dx_Mo_isHash 15 (e := (26, .iload_n 2, 1)) rfl) rfl rfl (pc' := 27) rfl ?_
    refine jW.bipush (v := 7) (dx_Mo_isHash 16 (e := (27, .bipush 7, 2)) rfl) (by decide) (pc' := 29) rfl ?_
    refine jW.icmp_ge (dx_Mo_isHash 17 (e := (29, .if_icmp .ge 39, 3)) rfl) 68 (by decide) (pc' := 32) rfl (fun c => ?_) (fun c => ?_)
    · replace h := h.1 c
      exact t_Mo_isHash_68 F hV h
    · replace h := h.2 c
      refine jW.aload_n (dx_Mo_isHash 18 (e := (32, .aload_n 0, 1)) rfl) rfl rfl (pc' := 33) rfl ?_
      refine jW.mgi F hV f_Mo_isHash_33 (by decide) (pc' := 36) rfl ?_
      refine jW.iload_n (dx_Mo_isHash 20 (e := (36, .iload_n 1, 1)) rfl) rfl rfl (pc' := 37) rfl ?_
      refine jW.iadd (dx_Mo_isHash 21 (e := (37, .iadd, 1)) rfl) (pc' := 38) rfl ?_
      refine jW.iload_n (dx_Mo_isHash 22 (e := (38, .iload_n 2, 1)) rfl) rfl rfl (pc' := 39) rfl ?_
      refine jW.iadd (dx_Mo_isHash 23 (e := (39, .iadd, 1)) rfl) (pc' := 40) rfl ?_
      refine jW.aload_n (dx_Mo_isHash 24 (e := (40, .aload_n 0, 1)) rfl) rfl rfl (pc' := 41) rfl ?_
      refine jW.mgi F hV f_Mo_isHash_41 (by decide) (pc' := 44) rfl ?_
      refine jW.icmp_eq (dx_Mo_isHash 26 (e := (44, .if_icmp .eq 20, 3)) rfl) 64 (by decide) (pc' := 47) rfl (fun c => ?_) (fun c => ?_)
      · replace h := h.1 c
        exact t_Mo_isHash_64 F hV h
      · replace h := h.2 c
        refine jW.aload_n (dx_Mo_isHash 27 (e := (47, .aload_n 0, 1)) rfl) rfl rfl (pc' := 48) rfl ?_
        refine jW.aload_n (dx_Mo_isHash 28 (e := (48, .aload_n 0, 1)) rfl) rfl rfl (pc' := 49) rfl ?_
        refine jW.mgi F hV f_Mo_isHash_49 (by decide) (pc' := 52) rfl ?_
        refine jW.iload_n (dx_Mo_isHash 30 (e := (52, .iload_n 1, 1)) rfl) rfl rfl (pc' := 53) rfl ?_
        refine jW.iadd (dx_Mo_isHash 31 (e := (53, .iadd, 1)) rfl) (pc' := 54) rfl ?_
        refine jW.iload_n (dx_Mo_isHash 32 (e := (54, .iload_n 2, 1)) rfl) rfl rfl (pc' := 55) rfl ?_
        refine jW.iadd (dx_Mo_isHash 33 (e := (55, .iadd, 1)) rfl) (pc' := 56) rfl ?_
        refine jW.callVe F (h (d + 1) _ hV) (dx_Mo_isHash 34 (e := (56, .invokevirtual 129, 3)) rfl) can_Mo_at jw_1194 jw_1196 hV.cl rfl sel_Mo_at rfl rfl (Nat.le_of_ble_eq_true rfl) (pc' := 59) rfl (fun r σ hr => ?_)
        clear hV
        refine mQ.up hr.1 ?_
        obtain ⟨_, hV, _, rfl, h⟩ := hr.2
        refine jW.bipush (v := 32) (dx_Mo_isHash 35 (e := (59, .bipush 32, 2)) rfl) (by decide) (pc' := 61) rfl ?_
        refine jW.icmp_ne (dx_Mo_isHash 36 (e := (61, .if_icmp .ne 7, 3)) rfl) 68 (by decide) (pc' := 64) rfl (fun c => ?_) (fun c => ?_)
        · replace h := h.2 c
          exact t_Mo_isHash_68 F hV h
        · replace h := h.1 c
          exact t_Mo_isHash_64 F hV h
def w_Mo_isHash_0 (X : MX) (x1 : Int32) (m : MS) (Φ : Option Value → MS → Prop) : Prop := ((4 ≤ x1 → w_Mo_isHash_21 X (x1) (0) m Φ) ∧ (¬ 4 ≤ x1 → mE X 1 y_Mo_row [.ref (mo X), .int ((m.1 31) + x1), .int (35)] m (iP fun r1 m1 => w_Mo_isHash_21 X (x1) (r1) m1 Φ)))
theorem t_Mo_isHash_0 {X : MX} {a0 : Array Value} (F : mF X a0) {d : Nat} {x1 : Int32} {o2 : Option Value} {m : MS} {σ : jS} {Φ : Option Value → MS → Prop} (hV : MV X m σ) (h : w_Mo_isHash_0 X x1 m Φ) : jW X.1 X.2.1 jcl X.2.2.1 X.2.2.2.1 (d + 2) y_Mo_isHash 0 [some (.ref (mo X)), some (.int x1), o2] [] σ (mQ X Φ σ) := by
  unfold w_Mo_isHash_0 at h
  refine jW.iload_n (dx_Mo_isHash 0 (e := (0, .iload_n 1, 1)) rfl) rfl rfl (pc' := 1) rfl ?_
  refine jW.iconst (v := 4) (dx_Mo_isHash 1 (e := (1, .iconst 4, 1)) rfl) (by decide) (pc' := 2) rfl ?_
  refine jW.icmp_ge (dx_Mo_isHash 2 (e := (2, .if_icmp .ge 18, 3)) rfl) 20 (by decide) (pc' := 5) rfl (fun c => ?_) (fun c => ?_)
  · replace h := h.1 c
    refine jW.iconst (v := 0) (dx_Mo_isHash 11 (e := (20, .iconst 0, 1)) rfl) (by decide) (pc' := 21) rfl ?_
    exact t_Mo_isHash_21 F hV h
  · replace h := h.2 c
    refine jW.aload_n (dx_Mo_isHash 3 (e := (5, .aload_n 0, 1)) rfl) rfl rfl (pc' := 6) rfl ?_
    refine jW.aload_n (dx_Mo_isHash 4 (e := (6, .aload_n 0, 1)) rfl) rfl rfl (pc' := 7) rfl ?_
    refine jW.mgi F hV f_Mo_isHash_7 (by decide) (pc' := 10) rfl ?_
    refine jW.iload_n (dx_Mo_isHash 6 (e := (10, .iload_n 1, 1)) rfl) rfl rfl (pc' := 11) rfl ?_
    refine jW.iadd (dx_Mo_isHash 7 (e := (11, .iadd, 1)) rfl) (pc' := 12) rfl ?_
    refine jW.bipush (v := 35) (dx_Mo_isHash 8 (e := (12, .bipush 35, 2)) rfl) (by decide) (pc' := 14) rfl ?_
    refine jW.callVe F (h (d + 0) _ hV) (dx_Mo_isHash 9 (e := (14, .invokevirtual 141, 3)) rfl) can_Mo_row jw_1198 jw_1200 hV.cl rfl sel_Mo_row rfl rfl (Nat.le_of_ble_eq_true rfl) (pc' := 17) rfl (fun r σ hr => ?_)
    clear hV
    refine mQ.up hr.1 ?_
    obtain ⟨_, hV, _, rfl, h⟩ := hr.2
    refine jW.goto (dx_Mo_isHash 10 (e := (17, .goto 4, 3)) rfl) 21 (by decide) ?_
    exact t_Mo_isHash_21 F hV h
theorem g_Mo_isHash {X : MX} {a0 : Array Value} (F : mF X a0) {x1 : Int32} {m : MS} {Φ : Option Value → MS → Prop} (he : w_Mo_isHash_0 X x1 m Φ) : mE X 2 y_Mo_isHash [.ref (mo X), .int x1] m Φ := by
  intro d σ hV
  refine jE.of (by decide) (by simp [Value.category]) (Nat.le_of_ble_eq_true rfl) rfl ?_
  exact t_Mo_isHash_0 F hV he
def w_Mo_beginHeading_155 (X : MX) (x1 x2 x3 x4 x5 x6 x7 : Int32) (m : MS) (Φ : Option Value → MS → Prop) : Prop := mE X 1 y_Mo_keepTrimmed [.ref (mo X), .int (x5), .int (x6)] m (iP fun r1 m1 => (vp_in (x4) 3300 ∧ ∀ m2, m2 = mA m1 19 (x4 : Int32).toNatClampNeg (r1) → ∀ m3, m3 = mI m2 34 (1) → mE X 6 y_Mo_closeTo [.ref (mo X), .int (m3.1 32)] m3 (vP fun m4 => Φ none m4)))
theorem t_Mo_beginHeading_155 {X : MX} {a0 : Array Value} (F : mF X a0) {d : Nat} {x1 x2 x3 x4 x5 x6 x7 : Int32} {m : MS} {σ : jS} {Φ : Option Value → MS → Prop} (hV : MV X m σ) (h : w_Mo_beginHeading_155 X x1 x2 x3 x4 x5 x6 x7 m Φ) : jW X.1 X.2.1 jcl X.2.2.1 X.2.2.2.1 (d + 8) y_Mo_beginHeading 155 [some (.ref (mo X)), some (.int x1), some (.int x2), some (.int x3), some (.int x4), some (.int x5), some (.int x6), some (.int x7)] [] σ (mQ X Φ σ) := by
  unfold w_Mo_beginHeading_155 at h
  refine jW.aload_n (dx_Mo_beginHeading 81 (e := (155, .aload_n 0, 1)) rfl) rfl rfl (pc' := 156) rfl ?_
  refine jW.mga F hV f_Mo_beginHeading_156 (by decide) (pc' := 159) rfl ?_
  refine jW.iload (dx_Mo_beginHeading 83 (e := (159, .iload 4, 2)) rfl) rfl (pc' := 161) rfl ?_
  refine jW.aload_n (dx_Mo_beginHeading 84 (e := (161, .aload_n 0, 1)) rfl) rfl rfl (pc' := 162) rfl ?_
  refine jW.iload (dx_Mo_beginHeading 85 (e := (162, .iload 5, 2)) rfl) rfl (pc' := 164) rfl ?_
  refine jW.iload (dx_Mo_beginHeading 86 (e := (164, .iload 6, 2)) rfl) rfl (pc' := 166) rfl ?_
  refine jW.callVe F (h (d + 6) _ hV) (dx_Mo_beginHeading 87 (e := (166, .invokevirtual 192, 3)) rfl) can_Mo_keepTrimmed jw_1332 jw_1334 hV.cl rfl sel_Mo_keepTrimmed rfl rfl (Nat.le_of_ble_eq_true rfl) (pc' := 169) rfl (fun r σ hr => ?_)
  clear hV
  refine mQ.up hr.1 ?_
  obtain ⟨_, hV, _, rfl, h⟩ := hr.2
  refine jW.msa F hV (dx_Mo_beginHeading 88 (e := (169, .iastore, 1)) rfl) (by decide) rfl h.1 (pc' := 170) rfl (fun σ hV => ?_)
  replace h := h.2 _ rfl
  refine jW.aload_n (dx_Mo_beginHeading 89 (e := (170, .aload_n 0, 1)) rfl) rfl rfl (pc' := 171) rfl ?_
  refine jW.iconst (v := 1) (dx_Mo_beginHeading 90 (e := (171, .iconst 1, 1)) rfl) (by decide) (pc' := 172) rfl ?_
  refine jW.mpi F hV f_Mo_beginHeading_172 (by decide) rfl rfl rfl (pc' := 175) rfl (fun σ hV => ?_)
  replace h := h _ rfl
  refine jW.aload_n (dx_Mo_beginHeading 92 (e := (175, .aload_n 0, 1)) rfl) rfl rfl (pc' := 176) rfl ?_
  refine jW.aload_n (dx_Mo_beginHeading 93 (e := (176, .aload_n 0, 1)) rfl) rfl rfl (pc' := 177) rfl ?_
  refine jW.mgi F hV f_Mo_beginHeading_177 (by decide) (pc' := 180) rfl ?_
  refine jW.callVe F (h (d + 1) _ hV) (dx_Mo_beginHeading 95 (e := (180, .invokevirtual 171, 3)) rfl) can_Mo_closeTo jw_1202 jw_1204 hV.cl rfl sel_Mo_closeTo rfl rfl (Nat.le_of_ble_eq_true rfl) (pc' := 183) rfl (fun r σ hr => ?_)
  clear hV
  refine mQ.up hr.1 ?_
  obtain ⟨_, hV, rfl, h⟩ := hr.2
  exact jW.vret (dx_Mo_beginHeading 96 (e := (183, .return_, 1)) rfl) rfl ⟨FR.rfl, _, hV, h⟩
def w_Mo_beginHeading_151 (X : MX) (x1 x2 x3 x4 x5 x6 x7 : Int32) (m : MS) (Φ : Option Value → MS → Prop) : Prop := w_Mo_beginHeading_155 X (x1) (x2) (x3) (x4) (x5) (x7) (x7) m Φ
theorem t_Mo_beginHeading_151 {X : MX} {a0 : Array Value} (F : mF X a0) {d : Nat} {x1 x2 x3 x4 x5 x6 x7 : Int32} {m : MS} {σ : jS} {Φ : Option Value → MS → Prop} (hV : MV X m σ) (h : w_Mo_beginHeading_151 X x1 x2 x3 x4 x5 x6 x7 m Φ) : jW X.1 X.2.1 jcl X.2.2.1 X.2.2.2.1 (d + 8) y_Mo_beginHeading 151 [some (.ref (mo X)), some (.int x1), some (.int x2), some (.int x3), some (.int x4), some (.int x5), some (.int x6), some (.int x7)] [] σ (mQ X Φ σ) := by
  unfold w_Mo_beginHeading_151 at h
  refine jW.iload (dx_Mo_beginHeading 79 (e := (151, .iload 7, 2)) rfl) rfl (pc' := 153) rfl ?_
  refine jW.istore (dx_Mo_beginHeading 80 (e := (153, .istore 6, 2)) rfl) (by decide) rfl (pc' := 155) rfl ?_
  exact t_Mo_beginHeading_155 F hV h
def w_Mo_beginHeading_130 (X : MX) (x1 x2 x3 x4 x5 x6 x7 : Int32) (m : MS) (Φ : Option Value → MS → Prop) : Prop := ((x7 = x5 → w_Mo_beginHeading_151 X (x1) (x2) (x3) (x4) (x5) (x6) (x7) m Φ) ∧ (¬ x7 = x5 → (vp_in (x7 - 1) 12100 ∧ ((m.2 9 (x7 - 1 : Int32).toNatClampNeg = 32 → w_Mo_beginHeading_151 X (x1) (x2) (x3) (x4) (x5) (x6) (x7) m Φ) ∧ (¬ m.2 9 (x7 - 1 : Int32).toNatClampNeg = 32 → w_Mo_beginHeading_155 X (x1) (x2) (x3) (x4) (x5) (x6) (x7) m Φ)))))
theorem t_Mo_beginHeading_130 {X : MX} {a0 : Array Value} (F : mF X a0) {d : Nat} {x1 x2 x3 x4 x5 x6 x7 : Int32} {m : MS} {σ : jS} {Φ : Option Value → MS → Prop} (hV : MV X m σ) (h : w_Mo_beginHeading_130 X x1 x2 x3 x4 x5 x6 x7 m Φ) : jW X.1 X.2.1 jcl X.2.2.1 X.2.2.2.1 (d + 8) y_Mo_beginHeading 130 [some (.ref (mo X)), some (.int x1), some (.int x2), some (.int x3), some (.int x4), some (.int x5), some (.int x6), some (.int x7)] [] σ (mQ X Φ σ) := by
  unfold w_Mo_beginHeading_130 at h
  refine jW.iload (dx_Mo_beginHeading 68 (e := (130, .iload 7, 2)) rfl) rfl (pc' := 132) rfl ?_
  refine jW.iload (dx_Mo_beginHeading 69 (e := (132, .iload 5, 2)) rfl) rfl (pc' := 134) rfl ?_
  refine jW.icmp_eq (dx_Mo_beginHeading 70 (e := (134, .if_icmp .eq 17, 3)) rfl) 151 (by decide) (pc' := 137) rfl (fun c => ?_) (fun c => ?_)
  · replace h := h.1 c
    exact t_Mo_beginHeading_151 F hV h
  · replace h := h.2 c
    refine jW.aload_n (dx_Mo_beginHeading 71 (e := (137, .aload_n 0, 1)) rfl) rfl rfl (pc' := 138) rfl ?_
    refine jW.mga F hV f_Mo_beginHeading_138 (by decide) (pc' := 141) rfl ?_
    refine jW.iload (dx_Mo_beginHeading 73 (e := (141, .iload 7, 2)) rfl) rfl (pc' := 143) rfl ?_
    refine jW.iconst (v := 1) (dx_Mo_beginHeading 74 (e := (143, .iconst 1, 1)) rfl) (by decide) (pc' := 144) rfl ?_
    refine jW.isub (dx_Mo_beginHeading 75 (e := (144, .isub, 1)) rfl) (pc' := 145) rfl ?_
    refine jW.mla F hV (dx_Mo_beginHeading 76 (e := (145, .iaload, 1)) rfl) (by decide) rfl h.1 (pc' := 146) rfl ?_
    replace h := h.2
    refine jW.bipush (v := 32) (dx_Mo_beginHeading 77 (e := (146, .bipush 32, 2)) rfl) (by decide) (pc' := 148) rfl ?_
    refine jW.icmp_ne (dx_Mo_beginHeading 78 (e := (148, .if_icmp .ne 7, 3)) rfl) 155 (by decide) (pc' := 151) rfl (fun c => ?_) (fun c => ?_)
    · replace h := h.2 c
      exact t_Mo_beginHeading_155 F hV h
    · replace h := h.1 c
      exact t_Mo_beginHeading_151 F hV h
def w_Mo_beginHeading_103 (X : MX) (x1 x2 x3 x4 x5 x6 x7 : Int32) (m : MS) (Φ : Option Value → MS → Prop) (K103 : Int32 → Int32 → Int32 → Int32 → Int32 → Int32 → Int32 → MS → Prop) : Prop := ((x7 ≤ x5 → w_Mo_beginHeading_130 X (x1) (x2) (x3) (x4) (x5) (x6) (x7) m Φ) ∧ (¬ x7 ≤ x5 → (vp_in (x7 - 1) 12100 ∧ ((m.2 9 (x7 - 1 : Int32).toNatClampNeg = 35 → K103 (x1) (x2) (x3) (x4) (x5) (x6) (x7 + (-1)) m) ∧ (¬ m.2 9 (x7 - 1 : Int32).toNatClampNeg = 35 → w_Mo_beginHeading_130 X (x1) (x2) (x3) (x4) (x5) (x6) (x7) m Φ)))))
theorem t_Mo_beginHeading_103 {X : MX} {a0 : Array Value} (F : mF X a0) {d : Nat} {x1 x2 x3 x4 x5 x6 x7 : Int32} {m : MS} {σ : jS} {Φ : Option Value → MS → Prop} {K103 : Int32 → Int32 → Int32 → Int32 → Int32 → Int32 → Int32 → MS → Prop} (hV : MV X m σ) (h : w_Mo_beginHeading_103 X x1 x2 x3 x4 x5 x6 x7 m Φ K103) (hK103 : ∀ (x1 x2 x3 x4 x5 x6 x7 : Int32) (m : MS) (σ : jS), MV X m σ → K103 x1 x2 x3 x4 x5 x6 x7 m → jW X.1 X.2.1 jcl X.2.2.1 X.2.2.2.1 (d + 8) y_Mo_beginHeading 103 [some (.ref (mo X)), some (.int x1), some (.int x2), some (.int x3), some (.int x4), some (.int x5), some (.int x6), some (.int x7)] [] σ (mQ X Φ σ)) : jW X.1 X.2.1 jcl X.2.2.1 X.2.2.2.1 (d + 8) y_Mo_beginHeading 103 [some (.ref (mo X)), some (.int x1), some (.int x2), some (.int x3), some (.int x4), some (.int x5), some (.int x6), some (.int x7)] [] σ (mQ X Φ σ) := by
  unfold w_Mo_beginHeading_103 at h
  refine jW.iload (dx_Mo_beginHeading 55 (e := (103, .iload 7, 2)) rfl) rfl (pc' := 105) rfl ?_
  refine jW.iload (dx_Mo_beginHeading 56 (e := (105, .iload 5, 2)) rfl) rfl (pc' := 107) rfl ?_
  refine jW.icmp_le (dx_Mo_beginHeading 57 (e := (107, .if_icmp .le 23, 3)) rfl) 130 (by decide) (pc' := 110) rfl (fun c => ?_) (fun c => ?_)
  · replace h := h.1 c
    exact t_Mo_beginHeading_130 F hV h
  · replace h := h.2 c
    refine jW.aload_n (dx_Mo_beginHeading 58 (e := (110, .aload_n 0, 1)) rfl) rfl rfl (pc' := 111) rfl ?_
    refine jW.mga F hV f_Mo_beginHeading_111 (by decide) (pc' := 114) rfl ?_
    refine jW.iload (dx_Mo_beginHeading 60 (e := (114, .iload 7, 2)) rfl) rfl (pc' := 116) rfl ?_
    refine jW.iconst (v := 1) (dx_Mo_beginHeading 61 (e := (116, .iconst 1, 1)) rfl) (by decide) (pc' := 117) rfl ?_
    refine jW.isub (dx_Mo_beginHeading 62 (e := (117, .isub, 1)) rfl) (pc' := 118) rfl ?_
    refine jW.mla F hV (dx_Mo_beginHeading 63 (e := (118, .iaload, 1)) rfl) (by decide) rfl h.1 (pc' := 119) rfl ?_
    replace h := h.2
    refine jW.bipush (v := 35) (dx_Mo_beginHeading 64 (e := (119, .bipush 35, 2)) rfl) (by decide) (pc' := 121) rfl ?_
    refine jW.icmp_ne (dx_Mo_beginHeading 65 (e := (121, .if_icmp .ne 9, 3)) rfl) 130 (by decide) (pc' := 124) rfl (fun c => ?_) (fun c => ?_)
    · replace h := h.2 c
      exact t_Mo_beginHeading_130 F hV h
    · replace h := h.1 c
      refine jW.iinc (v := _ + (-1)) (dx_Mo_beginHeading 66 (e := (124, .iinc 7 (-1), 3)) rfl) rfl rfl (by decide) rfl (pc' := 127) rfl ?_
      refine jW.goto (dx_Mo_beginHeading 67 (e := (127, .goto (-24), 3)) rfl) 103 (by decide) ?_
      exact hK103 _ _ _ _ _ _ _ _ _ hV h
def w_Mo_beginHeading_99 (X : MX) (x1 x2 x3 x4 x5 x6 : Int32) (m : MS) (Φ : Option Value → MS → Prop) (K103 : Int32 → Int32 → Int32 → Int32 → Int32 → Int32 → Int32 → MS → Prop) : Prop := K103 (x1) (x2) (x3) (x4) (x5) (x6) (x6) m
theorem t_Mo_beginHeading_99 {X : MX} {a0 : Array Value} (F : mF X a0) {d : Nat} {x1 x2 x3 x4 x5 x6 : Int32} {o7 : Option Value} {m : MS} {σ : jS} {Φ : Option Value → MS → Prop} {K103 : Int32 → Int32 → Int32 → Int32 → Int32 → Int32 → Int32 → MS → Prop} (hV : MV X m σ) (h : w_Mo_beginHeading_99 X x1 x2 x3 x4 x5 x6 m Φ K103) (hK103 : ∀ (x1 x2 x3 x4 x5 x6 x7 : Int32) (m : MS) (σ : jS), MV X m σ → K103 x1 x2 x3 x4 x5 x6 x7 m → jW X.1 X.2.1 jcl X.2.2.1 X.2.2.2.1 (d + 8) y_Mo_beginHeading 103 [some (.ref (mo X)), some (.int x1), some (.int x2), some (.int x3), some (.int x4), some (.int x5), some (.int x6), some (.int x7)] [] σ (mQ X Φ σ)) : jW X.1 X.2.1 jcl X.2.2.1 X.2.2.2.1 (d + 8) y_Mo_beginHeading 99 [some (.ref (mo X)), some (.int x1), some (.int x2), some (.int x3), some (.int x4), some (.int x5), some (.int x6), o7] [] σ (mQ X Φ σ) := by
  unfold w_Mo_beginHeading_99 at h
  refine jW.iload (dx_Mo_beginHeading 53 (e := (99, .iload 6, 2)) rfl) rfl (pc' := 101) rfl ?_
  refine jW.istore (dx_Mo_beginHeading 54 (e := (101, .istore 7, 2)) rfl) (by decide) rfl (pc' := 103) rfl ?_
  exact hK103 _ _ _ _ _ _ _ _ _ hV h
def w_Mo_beginHeading_72 (X : MX) (x1 x2 x3 x4 x5 x6 : Int32) (m : MS) (Φ : Option Value → MS → Prop) (K72 : Int32 → Int32 → Int32 → Int32 → Int32 → Int32 → MS → Prop) (K103 : Int32 → Int32 → Int32 → Int32 → Int32 → Int32 → Int32 → MS → Prop) : Prop := ((x6 ≤ x5 → w_Mo_beginHeading_99 X (x1) (x2) (x3) (x4) (x5) (x6) m Φ K103) ∧ (¬ x6 ≤ x5 → (vp_in (x6 - 1) 12100 ∧ ((m.2 9 (x6 - 1 : Int32).toNatClampNeg = 32 → K72 (x1) (x2) (x3) (x4) (x5) (x6 + (-1)) m) ∧ (¬ m.2 9 (x6 - 1 : Int32).toNatClampNeg = 32 → w_Mo_beginHeading_99 X (x1) (x2) (x3) (x4) (x5) (x6) m Φ K103)))))
theorem t_Mo_beginHeading_72 {X : MX} {a0 : Array Value} (F : mF X a0) {d : Nat} {x1 x2 x3 x4 x5 x6 : Int32} {o7 : Option Value} {m : MS} {σ : jS} {Φ : Option Value → MS → Prop} {K72 : Int32 → Int32 → Int32 → Int32 → Int32 → Int32 → MS → Prop} {K103 : Int32 → Int32 → Int32 → Int32 → Int32 → Int32 → Int32 → MS → Prop} (hV : MV X m σ) (h : w_Mo_beginHeading_72 X x1 x2 x3 x4 x5 x6 m Φ K72 K103) (hK72 : ∀ (x1 x2 x3 x4 x5 x6 : Int32) (o7 : Option Value) (m : MS) (σ : jS), MV X m σ → K72 x1 x2 x3 x4 x5 x6 m → jW X.1 X.2.1 jcl X.2.2.1 X.2.2.2.1 (d + 8) y_Mo_beginHeading 72 [some (.ref (mo X)), some (.int x1), some (.int x2), some (.int x3), some (.int x4), some (.int x5), some (.int x6), o7] [] σ (mQ X Φ σ)) (hK103 : ∀ (x1 x2 x3 x4 x5 x6 x7 : Int32) (m : MS) (σ : jS), MV X m σ → K103 x1 x2 x3 x4 x5 x6 x7 m → jW X.1 X.2.1 jcl X.2.2.1 X.2.2.2.1 (d + 8) y_Mo_beginHeading 103 [some (.ref (mo X)), some (.int x1), some (.int x2), some (.int x3), some (.int x4), some (.int x5), some (.int x6), some (.int x7)] [] σ (mQ X Φ σ)) : jW X.1 X.2.1 jcl X.2.2.1 X.2.2.2.1 (d + 8) y_Mo_beginHeading 72 [some (.ref (mo X)), some (.int x1), some (.int x2), some (.int x3), some (.int x4), some (.int x5), some (.int x6), o7] [] σ (mQ X Φ σ) := by
  unfold w_Mo_beginHeading_72 at h
  refine jW.iload (dx_Mo_beginHeading 40 (e := (72, .iload 6, 2)) rfl) rfl (pc' := 74) rfl ?_
  refine jW.iload (dx_Mo_beginHeading 41 (e := (74, .iload 5, 2)) rfl) rfl (pc' := 76) rfl ?_
  refine jW.icmp_le (dx_Mo_beginHeading 42 (e := (76, .if_icmp .le 23, 3)) rfl) 99 (by decide) (pc' := 79) rfl (fun c => ?_) (fun c => ?_)
  · replace h := h.1 c
    exact t_Mo_beginHeading_99 F hV h hK103
  · replace h := h.2 c
    refine jW.aload_n (dx_Mo_beginHeading 43 (e := (79, .aload_n 0, 1)) rfl) rfl rfl (pc' := 80) rfl ?_
    refine jW.mga F hV f_Mo_beginHeading_80 (by decide) (pc' := 83) rfl ?_
    refine jW.iload (dx_Mo_beginHeading 45 (e := (83, .iload 6, 2)) rfl) rfl (pc' := 85) rfl ?_
    refine jW.iconst (v := 1) (dx_Mo_beginHeading 46 (e := (85, .iconst 1, 1)) rfl) (by decide) (pc' := 86) rfl ?_
    refine jW.isub (dx_Mo_beginHeading 47 (e := (86, .isub, 1)) rfl) (pc' := 87) rfl ?_
    refine jW.mla F hV (dx_Mo_beginHeading 48 (e := (87, .iaload, 1)) rfl) (by decide) rfl h.1 (pc' := 88) rfl ?_
    replace h := h.2
    refine jW.bipush (v := 32) (dx_Mo_beginHeading 49 (e := (88, .bipush 32, 2)) rfl) (by decide) (pc' := 90) rfl ?_
    refine jW.icmp_ne (dx_Mo_beginHeading 50 (e := (90, .if_icmp .ne 9, 3)) rfl) 99 (by decide) (pc' := 93) rfl (fun c => ?_) (fun c => ?_)
    · replace h := h.2 c
      exact t_Mo_beginHeading_99 F hV h hK103
    · replace h := h.1 c
      refine jW.iinc (v := _ + (-1)) (dx_Mo_beginHeading 51 (e := (93, .iinc 6 (-1), 3)) rfl) rfl rfl (by decide) rfl (pc' := 96) rfl ?_
      refine jW.goto (dx_Mo_beginHeading 52 (e := (96, .goto (-24), 3)) rfl) 72 (by decide) ?_
      exact hK72 _ _ _ _ _ _ _ _ _ hV h
def w_Mo_beginHeading_66 (X : MX) (x1 x2 x3 x4 x5 : Int32) (m : MS) (Φ : Option Value → MS → Prop) (K72 : Int32 → Int32 → Int32 → Int32 → Int32 → Int32 → MS → Prop) (K103 : Int32 → Int32 → Int32 → Int32 → Int32 → Int32 → Int32 → MS → Prop) : Prop := K72 (x1) (x2) (x3) (x4) (x5) (m.1 12) m
theorem t_Mo_beginHeading_66 {X : MX} {a0 : Array Value} (F : mF X a0) {d : Nat} {x1 x2 x3 x4 x5 : Int32} {o6 o7 : Option Value} {m : MS} {σ : jS} {Φ : Option Value → MS → Prop} {K72 : Int32 → Int32 → Int32 → Int32 → Int32 → Int32 → MS → Prop} {K103 : Int32 → Int32 → Int32 → Int32 → Int32 → Int32 → Int32 → MS → Prop} (hV : MV X m σ) (h : w_Mo_beginHeading_66 X x1 x2 x3 x4 x5 m Φ K72 K103) (hK72 : ∀ (x1 x2 x3 x4 x5 x6 : Int32) (o7 : Option Value) (m : MS) (σ : jS), MV X m σ → K72 x1 x2 x3 x4 x5 x6 m → jW X.1 X.2.1 jcl X.2.2.1 X.2.2.2.1 (d + 8) y_Mo_beginHeading 72 [some (.ref (mo X)), some (.int x1), some (.int x2), some (.int x3), some (.int x4), some (.int x5), some (.int x6), o7] [] σ (mQ X Φ σ)) (hK103 : ∀ (x1 x2 x3 x4 x5 x6 x7 : Int32) (m : MS) (σ : jS), MV X m σ → K103 x1 x2 x3 x4 x5 x6 x7 m → jW X.1 X.2.1 jcl X.2.2.1 X.2.2.2.1 (d + 8) y_Mo_beginHeading 103 [some (.ref (mo X)), some (.int x1), some (.int x2), some (.int x3), some (.int x4), some (.int x5), some (.int x6), some (.int x7)] [] σ (mQ X Φ σ)) : jW X.1 X.2.1 jcl X.2.2.1 X.2.2.2.1 (d + 8) y_Mo_beginHeading 66 [some (.ref (mo X)), some (.int x1), some (.int x2), some (.int x3), some (.int x4), some (.int x5), o6, o7] [] σ (mQ X Φ σ) := by
  unfold w_Mo_beginHeading_66 at h
  refine jW.aload_n (dx_Mo_beginHeading 37 (e := (66, .aload_n 0, 1)) rfl) rfl rfl (pc' := 67) rfl ?_
  refine jW.mgi F hV f_Mo_beginHeading_67 (by decide) (pc' := 70) rfl ?_
  refine jW.istore (dx_Mo_beginHeading 39 (e := (70, .istore 6, 2)) rfl) (by decide) rfl (pc' := 72) rfl ?_
  exact hK72 _ _ _ _ _ _ _ _ _ hV h
def w_Mo_beginHeading_39 (X : MX) (x1 x2 x3 x4 x5 : Int32) (m : MS) (Φ : Option Value → MS → Prop) (K39 : Int32 → Int32 → Int32 → Int32 → Int32 → MS → Prop) (K72 : Int32 → Int32 → Int32 → Int32 → Int32 → Int32 → MS → Prop) (K103 : Int32 → Int32 → Int32 → Int32 → Int32 → Int32 → Int32 → MS → Prop) : Prop := ((m.1 12 ≤ x5 → w_Mo_beginHeading_66 X (x1) (x2) (x3) (x4) (x5) m Φ K72 K103) ∧ (¬ m.1 12 ≤ x5 → (vp_in (x5) 12100 ∧ ((m.2 9 (x5 : Int32).toNatClampNeg = 32 → K39 (x1) (x2) (x3) (x4) (x5 + 1) m) ∧ (¬ m.2 9 (x5 : Int32).toNatClampNeg = 32 → w_Mo_beginHeading_66 X (x1) (x2) (x3) (x4) (x5) m Φ K72 K103)))))
theorem t_Mo_beginHeading_39 {X : MX} {a0 : Array Value} (F : mF X a0) {d : Nat} {x1 x2 x3 x4 x5 : Int32} {o6 o7 : Option Value} {m : MS} {σ : jS} {Φ : Option Value → MS → Prop} {K39 : Int32 → Int32 → Int32 → Int32 → Int32 → MS → Prop} {K72 : Int32 → Int32 → Int32 → Int32 → Int32 → Int32 → MS → Prop} {K103 : Int32 → Int32 → Int32 → Int32 → Int32 → Int32 → Int32 → MS → Prop} (hV : MV X m σ) (h : w_Mo_beginHeading_39 X x1 x2 x3 x4 x5 m Φ K39 K72 K103) (hK39 : ∀ (x1 x2 x3 x4 x5 : Int32) (o6 o7 : Option Value) (m : MS) (σ : jS), MV X m σ → K39 x1 x2 x3 x4 x5 m → jW X.1 X.2.1 jcl X.2.2.1 X.2.2.2.1 (d + 8) y_Mo_beginHeading 39 [some (.ref (mo X)), some (.int x1), some (.int x2), some (.int x3), some (.int x4), some (.int x5), o6, o7] [] σ (mQ X Φ σ)) (hK72 : ∀ (x1 x2 x3 x4 x5 x6 : Int32) (o7 : Option Value) (m : MS) (σ : jS), MV X m σ → K72 x1 x2 x3 x4 x5 x6 m → jW X.1 X.2.1 jcl X.2.2.1 X.2.2.2.1 (d + 8) y_Mo_beginHeading 72 [some (.ref (mo X)), some (.int x1), some (.int x2), some (.int x3), some (.int x4), some (.int x5), some (.int x6), o7] [] σ (mQ X Φ σ)) (hK103 : ∀ (x1 x2 x3 x4 x5 x6 x7 : Int32) (m : MS) (σ : jS), MV X m σ → K103 x1 x2 x3 x4 x5 x6 x7 m → jW X.1 X.2.1 jcl X.2.2.1 X.2.2.2.1 (d + 8) y_Mo_beginHeading 103 [some (.ref (mo X)), some (.int x1), some (.int x2), some (.int x3), some (.int x4), some (.int x5), some (.int x6), some (.int x7)] [] σ (mQ X Φ σ)) : jW X.1 X.2.1 jcl X.2.2.1 X.2.2.2.1 (d + 8) y_Mo_beginHeading 39 [some (.ref (mo X)), some (.int x1), some (.int x2), some (.int x3), some (.int x4), some (.int x5), o6, o7] [] σ (mQ X Φ σ) := by
  unfold w_Mo_beginHeading_39 at h
  refine jW.iload (dx_Mo_beginHeading 25 (e := (39, .iload 5, 2)) rfl) rfl (pc' := 41) rfl ?_
  refine jW.aload_n (dx_Mo_beginHeading 26 (e := (41, .aload_n 0, 1)) rfl) rfl rfl (pc' := 42) rfl ?_
  refine jW.mgi F hV f_Mo_beginHeading_42 (by decide) (pc' := 45) rfl ?_
  refine jW.icmp_ge (dx_Mo_beginHeading 28 (e := (45, .if_icmp .ge 21, 3)) rfl) 66 (by decide) (pc' := 48) rfl (fun c => ?_) (fun c => ?_)
  · replace h := h.1 c
    exact t_Mo_beginHeading_66 F hV h hK72 hK103
  · replace h := h.2 c
    refine jW.aload_n (dx_Mo_beginHeading 29 (e := (48, .aload_n 0, 1)) rfl) rfl rfl (pc' := 49) rfl ?_
    refine jW.mga F hV f_Mo_beginHeading_49 (by decide) (pc' := 52) rfl ?_
    refine jW.iload (dx_Mo_beginHeading 31 (e := (52, .iload 5, 2)) rfl) rfl (pc' := 54) rfl ?_
    refine jW.mla F hV (dx_Mo_beginHeading 32 (e := (54, .iaload, 1)) rfl) (by decide) rfl h.1 (pc' := 55) rfl ?_
    replace h := h.2
    refine jW.bipush (v := 32) (dx_Mo_beginHeading 33 (e := (55, .bipush 32, 2)) rfl) (by decide) (pc' := 57) rfl ?_
    refine jW.icmp_ne (dx_Mo_beginHeading 34 (e := (57, .if_icmp .ne 9, 3)) rfl) 66 (by decide) (pc' := 60) rfl (fun c => ?_) (fun c => ?_)
    · replace h := h.2 c
      exact t_Mo_beginHeading_66 F hV h hK72 hK103
    · replace h := h.1 c
      refine jW.iinc (v := _ + (1)) (dx_Mo_beginHeading 35 (e := (60, .iinc 5 1, 3)) rfl) rfl rfl (by decide) rfl (pc' := 63) rfl ?_
      refine jW.goto (dx_Mo_beginHeading 36 (e := (63, .goto (-24), 3)) rfl) 39 (by decide) ?_
      exact hK39 _ _ _ _ _ _ _ _ _ hV h
def w_Mo_beginHeading_0 (X : MX) (x1 x2 : Int32) (m : MS) (Φ : Option Value → MS → Prop) (K39 : Int32 → Int32 → Int32 → Int32 → Int32 → MS → Prop) (K72 : Int32 → Int32 → Int32 → Int32 → Int32 → Int32 → MS → Prop) (K103 : Int32 → Int32 → Int32 → Int32 → Int32 → Int32 → Int32 → MS → Prop) : Prop := mE X 1 y_Mo_row [.ref (mo X), .int ((m.1 31) + x1), .int (35)] m (iP fun r1 m1 => mE X 7 y_Mo_begin [.ref (mo X), .int (5), .int (x2)] m1 (iP fun r2 m2 => (vp_in (r2) 3300 ∧ ∀ m3, m3 = mA m2 15 (r2 : Int32).toNatClampNeg (r1) → K39 (x1) (x2) (r1) (r2) (((m3.1 31) + x1) + r1) m3)))
theorem t_Mo_beginHeading_0 {X : MX} {a0 : Array Value} (F : mF X a0) {d : Nat} {x1 x2 : Int32} {o3 o4 o5 o6 o7 : Option Value} {m : MS} {σ : jS} {Φ : Option Value → MS → Prop} {K39 : Int32 → Int32 → Int32 → Int32 → Int32 → MS → Prop} {K72 : Int32 → Int32 → Int32 → Int32 → Int32 → Int32 → MS → Prop} {K103 : Int32 → Int32 → Int32 → Int32 → Int32 → Int32 → Int32 → MS → Prop} (hV : MV X m σ) (h : w_Mo_beginHeading_0 X x1 x2 m Φ K39 K72 K103) (hK39 : ∀ (x1 x2 x3 x4 x5 : Int32) (o6 o7 : Option Value) (m : MS) (σ : jS), MV X m σ → K39 x1 x2 x3 x4 x5 m → jW X.1 X.2.1 jcl X.2.2.1 X.2.2.2.1 (d + 8) y_Mo_beginHeading 39 [some (.ref (mo X)), some (.int x1), some (.int x2), some (.int x3), some (.int x4), some (.int x5), o6, o7] [] σ (mQ X Φ σ)) (hK72 : ∀ (x1 x2 x3 x4 x5 x6 : Int32) (o7 : Option Value) (m : MS) (σ : jS), MV X m σ → K72 x1 x2 x3 x4 x5 x6 m → jW X.1 X.2.1 jcl X.2.2.1 X.2.2.2.1 (d + 8) y_Mo_beginHeading 72 [some (.ref (mo X)), some (.int x1), some (.int x2), some (.int x3), some (.int x4), some (.int x5), some (.int x6), o7] [] σ (mQ X Φ σ)) (hK103 : ∀ (x1 x2 x3 x4 x5 x6 x7 : Int32) (m : MS) (σ : jS), MV X m σ → K103 x1 x2 x3 x4 x5 x6 x7 m → jW X.1 X.2.1 jcl X.2.2.1 X.2.2.2.1 (d + 8) y_Mo_beginHeading 103 [some (.ref (mo X)), some (.int x1), some (.int x2), some (.int x3), some (.int x4), some (.int x5), some (.int x6), some (.int x7)] [] σ (mQ X Φ σ)) : jW X.1 X.2.1 jcl X.2.2.1 X.2.2.2.1 (d + 8) y_Mo_beginHeading 0 [some (.ref (mo X)), some (.int x1), some (.int x2), o3, o4, o5, o6, o7] [] σ (mQ X Φ σ) := by
  unfold w_Mo_beginHeading_0 at h
  refine jW.aload_n (dx_Mo_beginHeading 0 (e := (0, .aload_n 0, 1)) rfl) rfl rfl (pc' := 1) rfl ?_
  refine jW.aload_n (dx_Mo_beginHeading 1 (e := (1, .aload_n 0, 1)) rfl) rfl rfl (pc' := 2) rfl ?_
  refine jW.mgi F hV f_Mo_beginHeading_2 (by decide) (pc' := 5) rfl ?_
  refine jW.iload_n (dx_Mo_beginHeading 3 (e := (5, .iload_n 1, 1)) rfl) rfl rfl (pc' := 6) rfl ?_
  refine jW.iadd (dx_Mo_beginHeading 4 (e := (6, .iadd, 1)) rfl) (pc' := 7) rfl ?_
  refine jW.bipush (v := 35) (dx_Mo_beginHeading 5 (e := (7, .bipush 35, 2)) rfl) (by decide) (pc' := 9) rfl ?_
  refine jW.callVe F (h (d + 6) _ hV) (dx_Mo_beginHeading 6 (e := (9, .invokevirtual 141, 3)) rfl) can_Mo_row jw_1198 jw_1200 hV.cl rfl sel_Mo_row rfl rfl (Nat.le_of_ble_eq_true rfl) (pc' := 12) rfl (fun r σ hr => ?_)
  clear hV
  refine mQ.up hr.1 ?_
  obtain ⟨_, hV, _, rfl, h⟩ := hr.2
  refine jW.istore_n (dx_Mo_beginHeading 7 (e := (12, .istore_n 3, 1)) rfl) rfl (by decide) rfl (pc' := 13) rfl ?_
  refine jW.aload_n (dx_Mo_beginHeading 8 (e := (13, .aload_n 0, 1)) rfl) rfl rfl (pc' := 14) rfl ?_
  refine jW.iconst (v := 5) (dx_Mo_beginHeading 9 (e := (14, .iconst 5, 1)) rfl) (by decide) (pc' := 15) rfl ?_
  refine jW.iload_n (dx_Mo_beginHeading 10 (e := (15, .iload_n 2, 1)) rfl) rfl rfl (pc' := 16) rfl ?_
  refine jW.callVe F (h (d + 0) _ hV) (dx_Mo_beginHeading 11 (e := (16, .invokevirtual 186, 3)) rfl) can_Mo_begin jw_1312 jw_1314 hV.cl rfl sel_Mo_begin rfl rfl (Nat.le_of_ble_eq_true rfl) (pc' := 19) rfl (fun r σ hr => ?_)
  clear hV
  refine mQ.up hr.1 ?_
  obtain ⟨_, hV, _, rfl, h⟩ := hr.2
  refine jW.istore (dx_Mo_beginHeading 12 (e := (19, .istore 4, 2)) rfl) (by decide) rfl (pc' := 21) rfl ?_
  refine jW.aload_n (dx_Mo_beginHeading 13 (e := (21, .aload_n 0, 1)) rfl) rfl rfl (pc' := 22) rfl ?_
  refine jW.mga F hV f_Mo_beginHeading_22 (by decide) (pc' := 25) rfl ?_
  refine jW.iload (dx_Mo_beginHeading 15 (e := (25, .iload 4, 2)) rfl) rfl (pc' := 27) rfl ?_
  refine jW.iload_n (dx_Mo_beginHeading 16 (e := (27, .iload_n 3, 1)) rfl) rfl rfl (pc' := 28) rfl ?_
  refine jW.msa F hV (dx_Mo_beginHeading 17 (e := (28, .iastore, 1)) rfl) (by decide) rfl h.1 (pc' := 29) rfl (fun σ hV => ?_)
  replace h := h.2 _ rfl
  refine jW.aload_n (dx_Mo_beginHeading 18 (e := (29, .aload_n 0, 1)) rfl) rfl rfl (pc' := 30) rfl ?_
  refine jW.mgi F hV f_Mo_beginHeading_30 (by decide) (pc' := 33) rfl ?_
  refine jW.iload_n (dx_Mo_beginHeading 20 (e := (33, .iload_n 1, 1)) rfl) rfl rfl (pc' := 34) rfl ?_
  refine jW.iadd (dx_Mo_beginHeading 21 (e := (34, .iadd, 1)) rfl) (pc' := 35) rfl ?_
  refine jW.iload_n (dx_Mo_beginHeading 22 (e := (35, .iload_n 3, 1)) rfl) rfl rfl (pc' := 36) rfl ?_
  refine jW.iadd (dx_Mo_beginHeading 23 (e := (36, .iadd, 1)) rfl) (pc' := 37) rfl ?_
  refine jW.istore (dx_Mo_beginHeading 24 (e := (37, .istore 5, 2)) rfl) (by decide) rfl (pc' := 39) rfl ?_
  exact hK39 _ _ _ _ _ _ _ _ _ hV h
theorem g_Mo_beginHeading {X : MX} {a0 : Array Value} (F : mF X a0) {x1 x2 : Int32} {m : MS} {Φ : Option Value → MS → Prop} {I39 : Nat → Int32 → Int32 → Int32 → Int32 → Int32 → MS → Prop} {I72 : Nat → Int32 → Int32 → Int32 → Int32 → Int32 → Int32 → MS → Prop} {I103 : Nat → Int32 → Int32 → Int32 → Int32 → Int32 → Int32 → Int32 → MS → Prop} (he : w_Mo_beginHeading_0 X x1 x2 m Φ (fun x1 x2 x3 x4 x5 m => ∃ j, I39 j x1 x2 x3 x4 x5 m) (fun x1 x2 x3 x4 x5 x6 m => ∃ j, I72 j x1 x2 x3 x4 x5 x6 m) (fun x1 x2 x3 x4 x5 x6 x7 m => ∃ j, I103 j x1 x2 x3 x4 x5 x6 x7 m)) (h103 : ∀ (n : Nat) (x1 x2 x3 x4 x5 x6 x7 : Int32) (m : MS), I103 n x1 x2 x3 x4 x5 x6 x7 m → w_Mo_beginHeading_103 X x1 x2 x3 x4 x5 x6 x7 m Φ (fun x1 x2 x3 x4 x5 x6 x7 m => ∃ j, j < n ∧ I103 j x1 x2 x3 x4 x5 x6 x7 m)) (h72 : ∀ (n : Nat) (x1 x2 x3 x4 x5 x6 : Int32) (m : MS), I72 n x1 x2 x3 x4 x5 x6 m → w_Mo_beginHeading_72 X x1 x2 x3 x4 x5 x6 m Φ (fun x1 x2 x3 x4 x5 x6 m => ∃ j, j < n ∧ I72 j x1 x2 x3 x4 x5 x6 m) (fun x1 x2 x3 x4 x5 x6 x7 m => ∃ j, I103 j x1 x2 x3 x4 x5 x6 x7 m)) (h39 : ∀ (n : Nat) (x1 x2 x3 x4 x5 : Int32) (m : MS), I39 n x1 x2 x3 x4 x5 m → w_Mo_beginHeading_39 X x1 x2 x3 x4 x5 m Φ (fun x1 x2 x3 x4 x5 m => ∃ j, j < n ∧ I39 j x1 x2 x3 x4 x5 m) (fun x1 x2 x3 x4 x5 x6 m => ∃ j, I72 j x1 x2 x3 x4 x5 x6 m) (fun x1 x2 x3 x4 x5 x6 x7 m => ∃ j, I103 j x1 x2 x3 x4 x5 x6 x7 m)) : mE X 8 y_Mo_beginHeading [.ref (mo X), .int x1, .int x2] m Φ := by
  intro d σ hV
  have hL103 : ∀ n, (∀ (x1 x2 x3 x4 x5 x6 x7 : Int32) (m : MS) (σ : jS), MV X m σ → I103 n x1 x2 x3 x4 x5 x6 x7 m → jW X.1 X.2.1 jcl X.2.2.1 X.2.2.2.1 (d + 8) y_Mo_beginHeading 103 [some (.ref (mo X)), some (.int x1), some (.int x2), some (.int x3), some (.int x4), some (.int x5), some (.int x6), some (.int x7)] [] σ (mQ X Φ σ)) := by
    intro n
    induction n using Nat.strongRecOn with
    | _ n ih =>
      exact fun x1 x2 x3 x4 x5 x6 x7 m σ hV hI => t_Mo_beginHeading_103 F hV (h103 n x1 x2 x3 x4 x5 x6 x7 m hI) (fun x1 x2 x3 x4 x5 x6 x7 m σ hV ⟨j, hj, hI⟩ => (ih j hj) x1 x2 x3 x4 x5 x6 x7 m σ hV hI)
  have hL72 : ∀ n, (∀ (x1 x2 x3 x4 x5 x6 : Int32) (o7 : Option Value) (m : MS) (σ : jS), MV X m σ → I72 n x1 x2 x3 x4 x5 x6 m → jW X.1 X.2.1 jcl X.2.2.1 X.2.2.2.1 (d + 8) y_Mo_beginHeading 72 [some (.ref (mo X)), some (.int x1), some (.int x2), some (.int x3), some (.int x4), some (.int x5), some (.int x6), o7] [] σ (mQ X Φ σ)) := by
    intro n
    induction n using Nat.strongRecOn with
    | _ n ih =>
      exact fun x1 x2 x3 x4 x5 x6 o7 m σ hV hI => t_Mo_beginHeading_72 F hV (h72 n x1 x2 x3 x4 x5 x6 m hI) (fun x1 x2 x3 x4 x5 x6 o7 m σ hV ⟨j, hj, hI⟩ => (ih j hj) x1 x2 x3 x4 x5 x6 o7 m σ hV hI) (fun x1 x2 x3 x4 x5 x6 x7 m σ hV ⟨j, hI⟩ => (hL103 j) x1 x2 x3 x4 x5 x6 x7 m σ hV hI)
  have hL39 : ∀ n, (∀ (x1 x2 x3 x4 x5 : Int32) (o6 o7 : Option Value) (m : MS) (σ : jS), MV X m σ → I39 n x1 x2 x3 x4 x5 m → jW X.1 X.2.1 jcl X.2.2.1 X.2.2.2.1 (d + 8) y_Mo_beginHeading 39 [some (.ref (mo X)), some (.int x1), some (.int x2), some (.int x3), some (.int x4), some (.int x5), o6, o7] [] σ (mQ X Φ σ)) := by
    intro n
    induction n using Nat.strongRecOn with
    | _ n ih =>
      exact fun x1 x2 x3 x4 x5 o6 o7 m σ hV hI => t_Mo_beginHeading_39 F hV (h39 n x1 x2 x3 x4 x5 m hI) (fun x1 x2 x3 x4 x5 o6 o7 m σ hV ⟨j, hj, hI⟩ => (ih j hj) x1 x2 x3 x4 x5 o6 o7 m σ hV hI) (fun x1 x2 x3 x4 x5 x6 o7 m σ hV ⟨j, hI⟩ => (hL72 j) x1 x2 x3 x4 x5 x6 o7 m σ hV hI) (fun x1 x2 x3 x4 x5 x6 x7 m σ hV ⟨j, hI⟩ => (hL103 j) x1 x2 x3 x4 x5 x6 x7 m σ hV hI)
  refine jE.of (by decide) (by simp [Value.category]) (Nat.le_of_ble_eq_true rfl) rfl ?_
  exact t_Mo_beginHeading_0 F hV he (fun x1 x2 x3 x4 x5 o6 o7 m σ hV ⟨j, hI⟩ => (hL39 j) x1 x2 x3 x4 x5 o6 o7 m σ hV hI) (fun x1 x2 x3 x4 x5 x6 o7 m σ hV ⟨j, hI⟩ => (hL72 j) x1 x2 x3 x4 x5 x6 o7 m σ hV hI) (fun x1 x2 x3 x4 x5 x6 x7 m σ hV ⟨j, hI⟩ => (hL103 j) x1 x2 x3 x4 x5 x6 x7 m σ hV hI)
def w_Mo_keepTrimmed_57 (X : MX) (x1 x2 x3 x4 x5 : Int32) (m : MS) (Φ : Option Value → MS → Prop) (K57 : Int32 → Int32 → Int32 → Int32 → Int32 → MS → Prop) : Prop := ((x4 ≤ x5 → Φ (some (.int (x4 - x3))) m) ∧ (¬ x4 ≤ x5 → (vp_in (x5) 12100 ∧ mE X 0 y_Mo_keep [.ref (mo X), .int (m.2 9 (x5 : Int32).toNatClampNeg)] m (vP fun m1 => K57 (x1) (x2) (x3) (x4) (x5 + 1) m1))))
theorem t_Mo_keepTrimmed_57 {X : MX} {a0 : Array Value} (F : mF X a0) {d : Nat} {x1 x2 x3 x4 x5 : Int32} {m : MS} {σ : jS} {Φ : Option Value → MS → Prop} {K57 : Int32 → Int32 → Int32 → Int32 → Int32 → MS → Prop} (hV : MV X m σ) (h : w_Mo_keepTrimmed_57 X x1 x2 x3 x4 x5 m Φ K57) (hK57 : ∀ (x1 x2 x3 x4 x5 : Int32) (m : MS) (σ : jS), MV X m σ → K57 x1 x2 x3 x4 x5 m → jW X.1 X.2.1 jcl X.2.2.1 X.2.2.2.1 (d + 1) y_Mo_keepTrimmed 57 [some (.ref (mo X)), some (.int x1), some (.int x2), some (.int x3), some (.int x4), some (.int x5)] [] σ (mQ X Φ σ)) : jW X.1 X.2.1 jcl X.2.2.1 X.2.2.2.1 (d + 1) y_Mo_keepTrimmed 57 [some (.ref (mo X)), some (.int x1), some (.int x2), some (.int x3), some (.int x4), some (.int x5)] [] σ (mQ X Φ σ) := by
  unfold w_Mo_keepTrimmed_57 at h
  refine jW.iload (dx_Mo_keepTrimmed 30 (e := (57, .iload 5, 2)) rfl) rfl (pc' := 59) rfl ?_
  refine jW.iload (dx_Mo_keepTrimmed 31 (e := (59, .iload 4, 2)) rfl) rfl (pc' := 61) rfl ?_
  refine jW.icmp_ge (dx_Mo_keepTrimmed 32 (e := (61, .if_icmp .ge 20, 3)) rfl) 81 (by decide) (pc' := 64) rfl (fun c => ?_) (fun c => ?_)
  · replace h := h.1 c
    refine jW.iload (dx_Mo_keepTrimmed 41 (e := (81, .iload 4, 2)) rfl) rfl (pc' := 83) rfl ?_
    refine jW.iload_n (dx_Mo_keepTrimmed 42 (e := (83, .iload_n 3, 1)) rfl) rfl rfl (pc' := 84) rfl ?_
    refine jW.isub (dx_Mo_keepTrimmed 43 (e := (84, .isub, 1)) rfl) (pc' := 85) rfl ?_
    exact jW.iret (dx_Mo_keepTrimmed 44 (e := (85, .ireturn, 1)) rfl) rfl ⟨FR.rfl, _, hV, h⟩
  · replace h := h.2 c
    refine jW.aload_n (dx_Mo_keepTrimmed 33 (e := (64, .aload_n 0, 1)) rfl) rfl rfl (pc' := 65) rfl ?_
    refine jW.aload_n (dx_Mo_keepTrimmed 34 (e := (65, .aload_n 0, 1)) rfl) rfl rfl (pc' := 66) rfl ?_
    refine jW.mga F hV f_Mo_keepTrimmed_66 (by decide) (pc' := 69) rfl ?_
    refine jW.iload (dx_Mo_keepTrimmed 36 (e := (69, .iload 5, 2)) rfl) rfl (pc' := 71) rfl ?_
    refine jW.mla F hV (dx_Mo_keepTrimmed 37 (e := (71, .iaload, 1)) rfl) (by decide) rfl h.1 (pc' := 72) rfl ?_
    replace h := h.2
    refine jW.callVe F (h (d + 0) _ hV) (dx_Mo_keepTrimmed 38 (e := (72, .invokevirtual 189, 3)) rfl) can_Mo_keep jw_1248 jw_1250 hV.cl rfl sel_Mo_keep rfl rfl (Nat.le_of_ble_eq_true rfl) (pc' := 75) rfl (fun r σ hr => ?_)
    clear hV
    refine mQ.up hr.1 ?_
    obtain ⟨_, hV, rfl, h⟩ := hr.2
    refine jW.iinc (v := _ + (1)) (dx_Mo_keepTrimmed 39 (e := (75, .iinc 5 1, 3)) rfl) rfl rfl (by decide) rfl (pc' := 78) rfl ?_
    refine jW.goto (dx_Mo_keepTrimmed 40 (e := (78, .goto (-21), 3)) rfl) 57 (by decide) ?_
    exact hK57 _ _ _ _ _ _ _ hV h
def w_Mo_keepTrimmed_54 (X : MX) (x1 x2 x3 x4 : Int32) (m : MS) (Φ : Option Value → MS → Prop) (K57 : Int32 → Int32 → Int32 → Int32 → Int32 → MS → Prop) : Prop := K57 (x1) (x2) (x3) (x4) (x3) m
theorem t_Mo_keepTrimmed_54 {X : MX} {a0 : Array Value} (F : mF X a0) {d : Nat} {x1 x2 x3 x4 : Int32} {o5 : Option Value} {m : MS} {σ : jS} {Φ : Option Value → MS → Prop} {K57 : Int32 → Int32 → Int32 → Int32 → Int32 → MS → Prop} (hV : MV X m σ) (h : w_Mo_keepTrimmed_54 X x1 x2 x3 x4 m Φ K57) (hK57 : ∀ (x1 x2 x3 x4 x5 : Int32) (m : MS) (σ : jS), MV X m σ → K57 x1 x2 x3 x4 x5 m → jW X.1 X.2.1 jcl X.2.2.1 X.2.2.2.1 (d + 1) y_Mo_keepTrimmed 57 [some (.ref (mo X)), some (.int x1), some (.int x2), some (.int x3), some (.int x4), some (.int x5)] [] σ (mQ X Φ σ)) : jW X.1 X.2.1 jcl X.2.2.1 X.2.2.2.1 (d + 1) y_Mo_keepTrimmed 54 [some (.ref (mo X)), some (.int x1), some (.int x2), some (.int x3), some (.int x4), o5] [] σ (mQ X Φ σ) := by
  unfold w_Mo_keepTrimmed_54 at h
  refine jW.iload_n (dx_Mo_keepTrimmed 28 (e := (54, .iload_n 3, 1)) rfl) rfl rfl (pc' := 55) rfl ?_
  refine jW.istore (dx_Mo_keepTrimmed 29 (e := (55, .istore 5, 2)) rfl) (by decide) rfl (pc' := 57) rfl ?_
  exact hK57 _ _ _ _ _ _ _ hV h
def w_Mo_keepTrimmed_28 (X : MX) (x1 x2 x3 x4 : Int32) (m : MS) (Φ : Option Value → MS → Prop) (K28 : Int32 → Int32 → Int32 → Int32 → MS → Prop) (K57 : Int32 → Int32 → Int32 → Int32 → Int32 → MS → Prop) : Prop := ((x4 ≤ x3 → w_Mo_keepTrimmed_54 X (x1) (x2) (x3) (x4) m Φ K57) ∧ (¬ x4 ≤ x3 → (vp_in (x4 - 1) 12100 ∧ ((m.2 9 (x4 - 1 : Int32).toNatClampNeg = 32 → K28 (x1) (x2) (x3) (x4 + (-1)) m) ∧ (¬ m.2 9 (x4 - 1 : Int32).toNatClampNeg = 32 → w_Mo_keepTrimmed_54 X (x1) (x2) (x3) (x4) m Φ K57)))))
theorem t_Mo_keepTrimmed_28 {X : MX} {a0 : Array Value} (F : mF X a0) {d : Nat} {x1 x2 x3 x4 : Int32} {o5 : Option Value} {m : MS} {σ : jS} {Φ : Option Value → MS → Prop} {K28 : Int32 → Int32 → Int32 → Int32 → MS → Prop} {K57 : Int32 → Int32 → Int32 → Int32 → Int32 → MS → Prop} (hV : MV X m σ) (h : w_Mo_keepTrimmed_28 X x1 x2 x3 x4 m Φ K28 K57) (hK28 : ∀ (x1 x2 x3 x4 : Int32) (o5 : Option Value) (m : MS) (σ : jS), MV X m σ → K28 x1 x2 x3 x4 m → jW X.1 X.2.1 jcl X.2.2.1 X.2.2.2.1 (d + 1) y_Mo_keepTrimmed 28 [some (.ref (mo X)), some (.int x1), some (.int x2), some (.int x3), some (.int x4), o5] [] σ (mQ X Φ σ)) (hK57 : ∀ (x1 x2 x3 x4 x5 : Int32) (m : MS) (σ : jS), MV X m σ → K57 x1 x2 x3 x4 x5 m → jW X.1 X.2.1 jcl X.2.2.1 X.2.2.2.1 (d + 1) y_Mo_keepTrimmed 57 [some (.ref (mo X)), some (.int x1), some (.int x2), some (.int x3), some (.int x4), some (.int x5)] [] σ (mQ X Φ σ)) : jW X.1 X.2.1 jcl X.2.2.1 X.2.2.2.1 (d + 1) y_Mo_keepTrimmed 28 [some (.ref (mo X)), some (.int x1), some (.int x2), some (.int x3), some (.int x4), o5] [] σ (mQ X Φ σ) := by
  unfold w_Mo_keepTrimmed_28 at h
  refine jW.iload (dx_Mo_keepTrimmed 15 (e := (28, .iload 4, 2)) rfl) rfl (pc' := 30) rfl ?_
  refine jW.iload_n (dx_Mo_keepTrimmed 16 (e := (30, .iload_n 3, 1)) rfl) rfl rfl (pc' := 31) rfl ?_
  refine jW.icmp_le (dx_Mo_keepTrimmed 17 (e := (31, .if_icmp .le 23, 3)) rfl) 54 (by decide) (pc' := 34) rfl (fun c => ?_) (fun c => ?_)
  · replace h := h.1 c
    exact t_Mo_keepTrimmed_54 F hV h hK57
  · replace h := h.2 c
    refine jW.aload_n (dx_Mo_keepTrimmed 18 (e := (34, .aload_n 0, 1)) rfl) rfl rfl (pc' := 35) rfl ?_
    refine jW.mga F hV f_Mo_keepTrimmed_35 (by decide) (pc' := 38) rfl ?_
    refine jW.iload (dx_Mo_keepTrimmed 20 (e := (38, .iload 4, 2)) rfl) rfl (pc' := 40) rfl ?_
    refine jW.iconst (v := 1) (dx_Mo_keepTrimmed 21 (e := (40, .iconst 1, 1)) rfl) (by decide) (pc' := 41) rfl ?_
    refine jW.isub (dx_Mo_keepTrimmed 22 (e := (41, .isub, 1)) rfl) (pc' := 42) rfl ?_
    refine jW.mla F hV (dx_Mo_keepTrimmed 23 (e := (42, .iaload, 1)) rfl) (by decide) rfl h.1 (pc' := 43) rfl ?_
    replace h := h.2
    refine jW.bipush (v := 32) (dx_Mo_keepTrimmed 24 (e := (43, .bipush 32, 2)) rfl) (by decide) (pc' := 45) rfl ?_
    refine jW.icmp_ne (dx_Mo_keepTrimmed 25 (e := (45, .if_icmp .ne 9, 3)) rfl) 54 (by decide) (pc' := 48) rfl (fun c => ?_) (fun c => ?_)
    · replace h := h.2 c
      exact t_Mo_keepTrimmed_54 F hV h hK57
    · replace h := h.1 c
      refine jW.iinc (v := _ + (-1)) (dx_Mo_keepTrimmed 26 (e := (48, .iinc 4 (-1), 3)) rfl) rfl rfl (by decide) rfl (pc' := 51) rfl ?_
      refine jW.goto (dx_Mo_keepTrimmed 27 (e := (51, .goto (-23), 3)) rfl) 28 (by decide) ?_
      exact hK28 _ _ _ _ _ _ _ hV h
def w_Mo_keepTrimmed_5 (X : MX) (x1 x2 x3 x4 : Int32) (m : MS) (Φ : Option Value → MS → Prop) (K5 : Int32 → Int32 → Int32 → Int32 → MS → Prop) (K28 : Int32 → Int32 → Int32 → Int32 → MS → Prop) (K57 : Int32 → Int32 → Int32 → Int32 → Int32 → MS → Prop) : Prop := ((x4 ≤ x3 → K28 (x1) (x2) (x3) (x4) m) ∧ (¬ x4 ≤ x3 → (vp_in (x3) 12100 ∧ ((m.2 9 (x3 : Int32).toNatClampNeg = 32 → K5 (x1) (x2) (x3 + 1) (x4) m) ∧ (¬ m.2 9 (x3 : Int32).toNatClampNeg = 32 → K28 (x1) (x2) (x3) (x4) m)))))
theorem t_Mo_keepTrimmed_5 {X : MX} {a0 : Array Value} (F : mF X a0) {d : Nat} {x1 x2 x3 x4 : Int32} {o5 : Option Value} {m : MS} {σ : jS} {Φ : Option Value → MS → Prop} {K5 : Int32 → Int32 → Int32 → Int32 → MS → Prop} {K28 : Int32 → Int32 → Int32 → Int32 → MS → Prop} {K57 : Int32 → Int32 → Int32 → Int32 → Int32 → MS → Prop} (hV : MV X m σ) (h : w_Mo_keepTrimmed_5 X x1 x2 x3 x4 m Φ K5 K28 K57) (hK5 : ∀ (x1 x2 x3 x4 : Int32) (o5 : Option Value) (m : MS) (σ : jS), MV X m σ → K5 x1 x2 x3 x4 m → jW X.1 X.2.1 jcl X.2.2.1 X.2.2.2.1 (d + 1) y_Mo_keepTrimmed 5 [some (.ref (mo X)), some (.int x1), some (.int x2), some (.int x3), some (.int x4), o5] [] σ (mQ X Φ σ)) (hK28 : ∀ (x1 x2 x3 x4 : Int32) (o5 : Option Value) (m : MS) (σ : jS), MV X m σ → K28 x1 x2 x3 x4 m → jW X.1 X.2.1 jcl X.2.2.1 X.2.2.2.1 (d + 1) y_Mo_keepTrimmed 28 [some (.ref (mo X)), some (.int x1), some (.int x2), some (.int x3), some (.int x4), o5] [] σ (mQ X Φ σ)) (hK57 : ∀ (x1 x2 x3 x4 x5 : Int32) (m : MS) (σ : jS), MV X m σ → K57 x1 x2 x3 x4 x5 m → jW X.1 X.2.1 jcl X.2.2.1 X.2.2.2.1 (d + 1) y_Mo_keepTrimmed 57 [some (.ref (mo X)), some (.int x1), some (.int x2), some (.int x3), some (.int x4), some (.int x5)] [] σ (mQ X Φ σ)) : jW X.1 X.2.1 jcl X.2.2.1 X.2.2.2.1 (d + 1) y_Mo_keepTrimmed 5 [some (.ref (mo X)), some (.int x1), some (.int x2), some (.int x3), some (.int x4), o5] [] σ (mQ X Φ σ) := by
  unfold w_Mo_keepTrimmed_5 at h
  refine jW.iload_n (dx_Mo_keepTrimmed 4 (e := (5, .iload_n 3, 1)) rfl) rfl rfl (pc' := 6) rfl ?_
  refine jW.iload (dx_Mo_keepTrimmed 5 (e := (6, .iload 4, 2)) rfl) rfl (pc' := 8) rfl ?_
  refine jW.icmp_ge (dx_Mo_keepTrimmed 6 (e := (8, .if_icmp .ge 20, 3)) rfl) 28 (by decide) (pc' := 11) rfl (fun c => ?_) (fun c => ?_)
  · replace h := h.1 c
    exact hK28 _ _ _ _ _ _ _ hV h
  · replace h := h.2 c
    refine jW.aload_n (dx_Mo_keepTrimmed 7 (e := (11, .aload_n 0, 1)) rfl) rfl rfl (pc' := 12) rfl ?_
    refine jW.mga F hV f_Mo_keepTrimmed_12 (by decide) (pc' := 15) rfl ?_
    refine jW.iload_n (dx_Mo_keepTrimmed 9 (e := (15, .iload_n 3, 1)) rfl) rfl rfl (pc' := 16) rfl ?_
    refine jW.mla F hV (dx_Mo_keepTrimmed 10 (e := (16, .iaload, 1)) rfl) (by decide) rfl h.1 (pc' := 17) rfl ?_
    replace h := h.2
    refine jW.bipush (v := 32) (dx_Mo_keepTrimmed 11 (e := (17, .bipush 32, 2)) rfl) (by decide) (pc' := 19) rfl ?_
    refine jW.icmp_ne (dx_Mo_keepTrimmed 12 (e := (19, .if_icmp .ne 9, 3)) rfl) 28 (by decide) (pc' := 22) rfl (fun c => ?_) (fun c => ?_)
    · replace h := h.2 c
      exact hK28 _ _ _ _ _ _ _ hV h
    · replace h := h.1 c
      refine jW.iinc (v := _ + (1)) (dx_Mo_keepTrimmed 13 (e := (22, .iinc 3 1, 3)) rfl) rfl rfl (by decide) rfl (pc' := 25) rfl ?_
      refine jW.goto (dx_Mo_keepTrimmed 14 (e := (25, .goto (-20), 3)) rfl) 5 (by decide) ?_
      exact hK5 _ _ _ _ _ _ _ hV h
def w_Mo_keepTrimmed_0 (X : MX) (x1 x2 : Int32) (m : MS) (Φ : Option Value → MS → Prop) (K5 : Int32 → Int32 → Int32 → Int32 → MS → Prop) (K28 : Int32 → Int32 → Int32 → Int32 → MS → Prop) (K57 : Int32 → Int32 → Int32 → Int32 → Int32 → MS → Prop) : Prop := K5 (x1) (x2) (x1) (x2) m
theorem t_Mo_keepTrimmed_0 {X : MX} {a0 : Array Value} (F : mF X a0) {d : Nat} {x1 x2 : Int32} {o3 o4 o5 : Option Value} {m : MS} {σ : jS} {Φ : Option Value → MS → Prop} {K5 : Int32 → Int32 → Int32 → Int32 → MS → Prop} {K28 : Int32 → Int32 → Int32 → Int32 → MS → Prop} {K57 : Int32 → Int32 → Int32 → Int32 → Int32 → MS → Prop} (hV : MV X m σ) (h : w_Mo_keepTrimmed_0 X x1 x2 m Φ K5 K28 K57) (hK5 : ∀ (x1 x2 x3 x4 : Int32) (o5 : Option Value) (m : MS) (σ : jS), MV X m σ → K5 x1 x2 x3 x4 m → jW X.1 X.2.1 jcl X.2.2.1 X.2.2.2.1 (d + 1) y_Mo_keepTrimmed 5 [some (.ref (mo X)), some (.int x1), some (.int x2), some (.int x3), some (.int x4), o5] [] σ (mQ X Φ σ)) (hK28 : ∀ (x1 x2 x3 x4 : Int32) (o5 : Option Value) (m : MS) (σ : jS), MV X m σ → K28 x1 x2 x3 x4 m → jW X.1 X.2.1 jcl X.2.2.1 X.2.2.2.1 (d + 1) y_Mo_keepTrimmed 28 [some (.ref (mo X)), some (.int x1), some (.int x2), some (.int x3), some (.int x4), o5] [] σ (mQ X Φ σ)) (hK57 : ∀ (x1 x2 x3 x4 x5 : Int32) (m : MS) (σ : jS), MV X m σ → K57 x1 x2 x3 x4 x5 m → jW X.1 X.2.1 jcl X.2.2.1 X.2.2.2.1 (d + 1) y_Mo_keepTrimmed 57 [some (.ref (mo X)), some (.int x1), some (.int x2), some (.int x3), some (.int x4), some (.int x5)] [] σ (mQ X Φ σ)) : jW X.1 X.2.1 jcl X.2.2.1 X.2.2.2.1 (d + 1) y_Mo_keepTrimmed 0 [some (.ref (mo X)), some (.int x1), some (.int x2), o3, o4, o5] [] σ (mQ X Φ σ) := by
  unfold w_Mo_keepTrimmed_0 at h
  refine jW.iload_n (dx_Mo_keepTrimmed 0 (e := (0, .iload_n 1, 1)) rfl) rfl rfl (pc' := 1) rfl ?_
  refine jW.istore_n (dx_Mo_keepTrimmed 1 (e := (1, .istore_n 3, 1)) rfl) rfl (by decide) rfl (pc' := 2) rfl ?_
  refine jW.iload_n (dx_Mo_keepTrimmed 2 (e := (2, .iload_n 2, 1)) rfl) rfl rfl (pc' := 3) rfl ?_
  refine jW.istore (dx_Mo_keepTrimmed 3 (e := (3, .istore 4, 2)) rfl) (by decide) rfl (pc' := 5) rfl ?_
  exact hK5 _ _ _ _ _ _ _ hV h
theorem g_Mo_keepTrimmed {X : MX} {a0 : Array Value} (F : mF X a0) {x1 x2 : Int32} {m : MS} {Φ : Option Value → MS → Prop} {I5 : Nat → Int32 → Int32 → Int32 → Int32 → MS → Prop} {I28 : Nat → Int32 → Int32 → Int32 → Int32 → MS → Prop} {I57 : Nat → Int32 → Int32 → Int32 → Int32 → Int32 → MS → Prop} (he : w_Mo_keepTrimmed_0 X x1 x2 m Φ (fun x1 x2 x3 x4 m => ∃ j, I5 j x1 x2 x3 x4 m) (fun x1 x2 x3 x4 m => ∃ j, I28 j x1 x2 x3 x4 m) (fun x1 x2 x3 x4 x5 m => ∃ j, I57 j x1 x2 x3 x4 x5 m)) (h57 : ∀ (n : Nat) (x1 x2 x3 x4 x5 : Int32) (m : MS), I57 n x1 x2 x3 x4 x5 m → w_Mo_keepTrimmed_57 X x1 x2 x3 x4 x5 m Φ (fun x1 x2 x3 x4 x5 m => ∃ j, j < n ∧ I57 j x1 x2 x3 x4 x5 m)) (h28 : ∀ (n : Nat) (x1 x2 x3 x4 : Int32) (m : MS), I28 n x1 x2 x3 x4 m → w_Mo_keepTrimmed_28 X x1 x2 x3 x4 m Φ (fun x1 x2 x3 x4 m => ∃ j, j < n ∧ I28 j x1 x2 x3 x4 m) (fun x1 x2 x3 x4 x5 m => ∃ j, I57 j x1 x2 x3 x4 x5 m)) (h5 : ∀ (n : Nat) (x1 x2 x3 x4 : Int32) (m : MS), I5 n x1 x2 x3 x4 m → w_Mo_keepTrimmed_5 X x1 x2 x3 x4 m Φ (fun x1 x2 x3 x4 m => ∃ j, j < n ∧ I5 j x1 x2 x3 x4 m) (fun x1 x2 x3 x4 m => ∃ j, I28 j x1 x2 x3 x4 m) (fun x1 x2 x3 x4 x5 m => ∃ j, I57 j x1 x2 x3 x4 x5 m)) : mE X 1 y_Mo_keepTrimmed [.ref (mo X), .int x1, .int x2] m Φ := by
  intro d σ hV
  have hL57 : ∀ n, (∀ (x1 x2 x3 x4 x5 : Int32) (m : MS) (σ : jS), MV X m σ → I57 n x1 x2 x3 x4 x5 m → jW X.1 X.2.1 jcl X.2.2.1 X.2.2.2.1 (d + 1) y_Mo_keepTrimmed 57 [some (.ref (mo X)), some (.int x1), some (.int x2), some (.int x3), some (.int x4), some (.int x5)] [] σ (mQ X Φ σ)) := by
    intro n
    induction n using Nat.strongRecOn with
    | _ n ih =>
      exact fun x1 x2 x3 x4 x5 m σ hV hI => t_Mo_keepTrimmed_57 F hV (h57 n x1 x2 x3 x4 x5 m hI) (fun x1 x2 x3 x4 x5 m σ hV ⟨j, hj, hI⟩ => (ih j hj) x1 x2 x3 x4 x5 m σ hV hI)
  have hL28 : ∀ n, (∀ (x1 x2 x3 x4 : Int32) (o5 : Option Value) (m : MS) (σ : jS), MV X m σ → I28 n x1 x2 x3 x4 m → jW X.1 X.2.1 jcl X.2.2.1 X.2.2.2.1 (d + 1) y_Mo_keepTrimmed 28 [some (.ref (mo X)), some (.int x1), some (.int x2), some (.int x3), some (.int x4), o5] [] σ (mQ X Φ σ)) := by
    intro n
    induction n using Nat.strongRecOn with
    | _ n ih =>
      exact fun x1 x2 x3 x4 o5 m σ hV hI => t_Mo_keepTrimmed_28 F hV (h28 n x1 x2 x3 x4 m hI) (fun x1 x2 x3 x4 o5 m σ hV ⟨j, hj, hI⟩ => (ih j hj) x1 x2 x3 x4 o5 m σ hV hI) (fun x1 x2 x3 x4 x5 m σ hV ⟨j, hI⟩ => (hL57 j) x1 x2 x3 x4 x5 m σ hV hI)
  have hL5 : ∀ n, (∀ (x1 x2 x3 x4 : Int32) (o5 : Option Value) (m : MS) (σ : jS), MV X m σ → I5 n x1 x2 x3 x4 m → jW X.1 X.2.1 jcl X.2.2.1 X.2.2.2.1 (d + 1) y_Mo_keepTrimmed 5 [some (.ref (mo X)), some (.int x1), some (.int x2), some (.int x3), some (.int x4), o5] [] σ (mQ X Φ σ)) := by
    intro n
    induction n using Nat.strongRecOn with
    | _ n ih =>
      exact fun x1 x2 x3 x4 o5 m σ hV hI => t_Mo_keepTrimmed_5 F hV (h5 n x1 x2 x3 x4 m hI) (fun x1 x2 x3 x4 o5 m σ hV ⟨j, hj, hI⟩ => (ih j hj) x1 x2 x3 x4 o5 m σ hV hI) (fun x1 x2 x3 x4 o5 m σ hV ⟨j, hI⟩ => (hL28 j) x1 x2 x3 x4 o5 m σ hV hI) (fun x1 x2 x3 x4 x5 m σ hV ⟨j, hI⟩ => (hL57 j) x1 x2 x3 x4 x5 m σ hV hI)
  refine jE.of (by decide) (by simp [Value.category]) (Nat.le_of_ble_eq_true rfl) rfl ?_
  exact t_Mo_keepTrimmed_0 F hV he (fun x1 x2 x3 x4 o5 m σ hV ⟨j, hI⟩ => (hL5 j) x1 x2 x3 x4 o5 m σ hV hI) (fun x1 x2 x3 x4 o5 m σ hV ⟨j, hI⟩ => (hL28 j) x1 x2 x3 x4 o5 m σ hV hI) (fun x1 x2 x3 x4 x5 m σ hV ⟨j, hI⟩ => (hL57 j) x1 x2 x3 x4 x5 m σ hV hI)
def w_Mo_isFence_91 (X : MX) (x1 x2 x3 x4 x5 : Int32) (m : MS) (Φ : Option Value → MS → Prop) : Prop := (mZ (x4) ∧ Φ (some (.int (x4))) m)
theorem t_Mo_isFence_91 {X : MX} {a0 : Array Value} (F : mF X a0) {d : Nat} {x1 x2 x3 x4 x5 : Int32} {m : MS} {σ : jS} {Φ : Option Value → MS → Prop} (hV : MV X m σ) (h : w_Mo_isFence_91 X x1 x2 x3 x4 x5 m Φ) : jW X.1 X.2.1 jcl X.2.2.1 X.2.2.2.1 (d + 2) y_Mo_isFence 91 [some (.ref (mo X)), some (.int x1), some (.int x2), some (.int x3), some (.int x4), some (.int x5)] [] σ (mQ X Φ σ) := by
  unfold w_Mo_isFence_91 at h
  refine jW.iload (dx_Mo_isFence 52 (e := (91, .iload 4, 2)) rfl) rfl (pc' := 93) rfl ?_
  exact jW.zret (dx_Mo_isFence 53 (e := (93, .ireturn, 1)) rfl) rfl h.1.n ⟨FR.rfl, _, hV, h.2⟩
def w_Mo_isFence_83 (X : MX) (x1 x2 x3 x4 x5 s0 : Int32) (m : MS) (Φ : Option Value → MS → Prop) (K52 : Int32 → Int32 → Int32 → Int32 → Int32 → MS → Prop) : Prop := K52 (x1) (x2) (x3) (s0) (x5 + 1) m
theorem t_Mo_isFence_83 {X : MX} {a0 : Array Value} (F : mF X a0) {d : Nat} {x1 x2 x3 x4 x5 s0 : Int32} {m : MS} {σ : jS} {Φ : Option Value → MS → Prop} {K52 : Int32 → Int32 → Int32 → Int32 → Int32 → MS → Prop} (hV : MV X m σ) (h : w_Mo_isFence_83 X x1 x2 x3 x4 x5 s0 m Φ K52) (hK52 : ∀ (x1 x2 x3 x4 x5 : Int32) (m : MS) (σ : jS), MV X m σ → K52 x1 x2 x3 x4 x5 m → jW X.1 X.2.1 jcl X.2.2.1 X.2.2.2.1 (d + 2) y_Mo_isFence 52 [some (.ref (mo X)), some (.int x1), some (.int x2), some (.int x3), some (.int x4), some (.int x5)] [] σ (mQ X Φ σ)) : jW X.1 X.2.1 jcl X.2.2.1 X.2.2.2.1 (d + 2) y_Mo_isFence 83 [some (.ref (mo X)), some (.int x1), some (.int x2), some (.int x3), some (.int x4), some (.int x5)] [.int s0] σ (mQ X Φ σ) := by
  unfold w_Mo_isFence_83 at h
  refine jW.istore (dx_Mo_isFence 49 (e := (83, .istore 4, 2)) rfl) (by decide) rfl (pc' := 85) rfl ?_
  refine jW.iinc (v := _ + (1)) (dx_Mo_isFence 50 (e := (85, .iinc 5 1, 3)) rfl) rfl rfl (by decide) rfl (pc' := 88) rfl ?_
  refine jW.goto (dx_Mo_isFence 51 (e := (88, .goto (-36), 3)) rfl) 52 (by decide) ?_
  exact hK52 _ _ _ _ _ _ _ hV h
def w_Mo_isFence_52 (X : MX) (x1 x2 x3 x4 x5 : Int32) (m : MS) (Φ : Option Value → MS → Prop) (K52 : Int32 → Int32 → Int32 → Int32 → Int32 → MS → Prop) : Prop := ((m.1 12 ≤ x5 → w_Mo_isFence_91 X (x1) (x2) (x3) (x4) (x5) m Φ) ∧ (¬ m.1 12 ≤ x5 → ((x4 = 0 → w_Mo_isFence_91 X (x1) (x2) (x3) (x4) (x5) m Φ) ∧ (¬ x4 = 0 → (vp_in (x5) 12100 ∧ ((m.2 9 (x5 : Int32).toNatClampNeg = 96 → w_Mo_isFence_83 X (x1) (x2) (x3) (x4) (x5) (0) m Φ K52) ∧ (¬ m.2 9 (x5 : Int32).toNatClampNeg = 96 → w_Mo_isFence_83 X (x1) (x2) (x3) (x4) (x5) (1) m Φ K52)))))))
theorem t_Mo_isFence_52 {X : MX} {a0 : Array Value} (F : mF X a0) {d : Nat} {x1 x2 x3 x4 x5 : Int32} {m : MS} {σ : jS} {Φ : Option Value → MS → Prop} {K52 : Int32 → Int32 → Int32 → Int32 → Int32 → MS → Prop} (hV : MV X m σ) (h : w_Mo_isFence_52 X x1 x2 x3 x4 x5 m Φ K52) (hK52 : ∀ (x1 x2 x3 x4 x5 : Int32) (m : MS) (σ : jS), MV X m σ → K52 x1 x2 x3 x4 x5 m → jW X.1 X.2.1 jcl X.2.2.1 X.2.2.2.1 (d + 2) y_Mo_isFence 52 [some (.ref (mo X)), some (.int x1), some (.int x2), some (.int x3), some (.int x4), some (.int x5)] [] σ (mQ X Φ σ)) : jW X.1 X.2.1 jcl X.2.2.1 X.2.2.2.1 (d + 2) y_Mo_isFence 52 [some (.ref (mo X)), some (.int x1), some (.int x2), some (.int x3), some (.int x4), some (.int x5)] [] σ (mQ X Φ σ) := by
  unfold w_Mo_isFence_52 at h
  refine jW.iload (dx_Mo_isFence 34 (e := (52, .iload 5, 2)) rfl) rfl (pc' := 54) rfl ?_
  refine jW.aload_n (dx_Mo_isFence 35 (e := (54, .aload_n 0, 1)) rfl) rfl rfl (pc' := 55) rfl ?_
  refine jW.mgi F hV f_Mo_isFence_55 (by decide) (pc' := 58) rfl ?_
  refine jW.icmp_ge (dx_Mo_isFence 37 (e := (58, .if_icmp .ge 33, 3)) rfl) 91 (by decide) (pc' := 61) rfl (fun c => ?_) (fun c => ?_)
  · replace h := h.1 c
    exact t_Mo_isFence_91 F hV h
  · replace h := h.2 c
    refine jW.iload (dx_Mo_isFence 38 (e := (61, .iload 4, 2)) rfl) rfl (pc' := 63) rfl ?_
    refine jW.if_eq (dx_Mo_isFence 39 (e := (63, .ifCond .eq 28, 3)) rfl) 91 (by decide) (pc' := 66) rfl (fun c => ?_) (fun c => ?_)
    · replace h := h.1 c
      exact t_Mo_isFence_91 F hV h
    · replace h := h.2 c
      refine jW.aload_n (dx_Mo_isFence 40 (e := (66, .aload_n 0, 1)) rfl) rfl rfl (pc' := 67) rfl ?_
      refine jW.mga F hV f_Mo_isFence_67 (by decide) (pc' := 70) rfl ?_
      refine jW.iload (dx_Mo_isFence 42 (e := (70, .iload 5, 2)) rfl) rfl (pc' := 72) rfl ?_
      refine jW.mla F hV (dx_Mo_isFence 43 (e := (72, .iaload, 1)) rfl) (by decide) rfl h.1 (pc' := 73) rfl ?_
      replace h := h.2
      refine jW.bipush (v := 96) (dx_Mo_isFence 44 (e := (73, .bipush 96, 2)) rfl) (by decide) (pc' := 75) rfl ?_
      refine jW.icmp_eq (dx_Mo_isFence 45 (e := (75, .if_icmp .eq 7, 3)) rfl) 82 (by decide) (pc' := 78) rfl (fun c => ?_) (fun c => ?_)
      · replace h := h.1 c
        refine jW.iconst (v := 0) (dx_Mo_isFence 48 (e := (82, .iconst 0, 1)) rfl) (by decide) (pc' := 83) rfl ?_
        exact t_Mo_isFence_83 F hV h hK52
      · replace h := h.2 c
        refine jW.iconst (v := 1) (dx_Mo_isFence 46 (e := (78, .iconst 1, 1)) rfl) (by decide) (pc' := 79) rfl ?_
        refine jW.goto (dx_Mo_isFence 47 (e := (79, .goto 4, 3)) rfl) 83 (by decide) ?_
        exact t_Mo_isFence_83 F hV h hK52
def w_Mo_isFence_45 (X : MX) (x1 x2 x3 s0 : Int32) (m : MS) (Φ : Option Value → MS → Prop) (K52 : Int32 → Int32 → Int32 → Int32 → Int32 → MS → Prop) : Prop := K52 (x1) (x2) (x3) (s0) (x2 + x3) m
theorem t_Mo_isFence_45 {X : MX} {a0 : Array Value} (F : mF X a0) {d : Nat} {x1 x2 x3 s0 : Int32} {o4 o5 : Option Value} {m : MS} {σ : jS} {Φ : Option Value → MS → Prop} {K52 : Int32 → Int32 → Int32 → Int32 → Int32 → MS → Prop} (hV : MV X m σ) (h : w_Mo_isFence_45 X x1 x2 x3 s0 m Φ K52) (hK52 : ∀ (x1 x2 x3 x4 x5 : Int32) (m : MS) (σ : jS), MV X m σ → K52 x1 x2 x3 x4 x5 m → jW X.1 X.2.1 jcl X.2.2.1 X.2.2.2.1 (d + 2) y_Mo_isFence 52 [some (.ref (mo X)), some (.int x1), some (.int x2), some (.int x3), some (.int x4), some (.int x5)] [] σ (mQ X Φ σ)) : jW X.1 X.2.1 jcl X.2.2.1 X.2.2.2.1 (d + 2) y_Mo_isFence 45 [some (.ref (mo X)), some (.int x1), some (.int x2), some (.int x3), o4, o5] [.int s0] σ (mQ X Φ σ) := by
  unfold w_Mo_isFence_45 at h
  refine jW.istore (dx_Mo_isFence 29 (e := (45, .istore 4, 2)) rfl) (by decide) rfl (pc' := 47) rfl ?_
  refine jW.iload_n (dx_Mo_isFence 30 (e := (47, .iload_n 2, 1)) rfl) rfl rfl (pc' := 48) rfl ?_
  refine jW.iload_n (dx_Mo_isFence 31 (e := (48, .iload_n 3, 1)) rfl) rfl rfl (pc' := 49) rfl ?_
  refine jW.iadd (dx_Mo_isFence 32 (e := (49, .iadd, 1)) rfl) (pc' := 50) rfl ?_
  refine jW.istore (dx_Mo_isFence 33 (e := (50, .istore 5, 2)) rfl) (by decide) rfl (pc' := 52) rfl ?_
  exact hK52 _ _ _ _ _ _ _ hV h
def w_Mo_isFence_0 (X : MX) (x1 : Int32) (m : MS) (Φ : Option Value → MS → Prop) (K52 : Int32 → Int32 → Int32 → Int32 → Int32 → MS → Prop) : Prop := ((x1 ≤ 3 → mE X 1 y_Mo_row [.ref (mo X), .int ((m.1 31) + x1), .int (126)] m (iP fun r1 m1 => ((r1 ≤ 2 → mE X 1 y_Mo_row [.ref (mo X), .int ((m.1 31) + x1), .int (96)] m1 (iP fun r2 m2 => ((r2 ≤ 2 → w_Mo_isFence_45 X (x1) ((m.1 31) + x1) (r2) (0) m2 Φ K52) ∧ (¬ r2 ≤ 2 → w_Mo_isFence_45 X (x1) ((m.1 31) + x1) (r2) (1) m2 Φ K52)))) ∧ (¬ r1 ≤ 2 → Φ (some (.int (1))) m1)))) ∧ (¬ x1 ≤ 3 → Φ (some (.int (0))) m))
theorem t_Mo_isFence_0 {X : MX} {a0 : Array Value} (F : mF X a0) {d : Nat} {x1 : Int32} {o2 o3 o4 o5 : Option Value} {m : MS} {σ : jS} {Φ : Option Value → MS → Prop} {K52 : Int32 → Int32 → Int32 → Int32 → Int32 → MS → Prop} (hV : MV X m σ) (h : w_Mo_isFence_0 X x1 m Φ K52) (hK52 : ∀ (x1 x2 x3 x4 x5 : Int32) (m : MS) (σ : jS), MV X m σ → K52 x1 x2 x3 x4 x5 m → jW X.1 X.2.1 jcl X.2.2.1 X.2.2.2.1 (d + 2) y_Mo_isFence 52 [some (.ref (mo X)), some (.int x1), some (.int x2), some (.int x3), some (.int x4), some (.int x5)] [] σ (mQ X Φ σ)) : jW X.1 X.2.1 jcl X.2.2.1 X.2.2.2.1 (d + 2) y_Mo_isFence 0 [some (.ref (mo X)), some (.int x1), o2, o3, o4, o5] [] σ (mQ X Φ σ) := by
  unfold w_Mo_isFence_0 at h
  refine jW.aload_n (dx_Mo_isFence 0 (e := (0, .aload_n 0, 1)) rfl) rfl rfl (pc' := 1) rfl ?_
  refine jW.mgi F hV f_Mo_isFence_1 (by decide) (pc' := 4) rfl ?_
  refine jW.iload_n (dx_Mo_isFence 2 (e := (4, .iload_n 1, 1)) rfl) rfl rfl (pc' := 5) rfl ?_
  refine jW.iadd (dx_Mo_isFence 3 (e := (5, .iadd, 1)) rfl) (pc' := 6) rfl ?_
  refine jW.istore_n (dx_Mo_isFence 4 (e := (6, .istore_n 2, 1)) rfl) rfl (by decide) rfl (pc' := 7) rfl ?_
  refine jW.iload_n (dx_Mo_isFence 5 (e := (7, .iload_n 1, 1)) rfl) rfl rfl (pc' := 8) rfl ?_
  refine jW.iconst (v := 3) (dx_Mo_isFence 6 (e := (8, .iconst 3, 1)) rfl) (by decide) (pc' := 9) rfl ?_
  refine jW.icmp_le (dx_Mo_isFence 7 (e := (9, .if_icmp .le 5, 3)) rfl) 14 (by decide) (pc' := 12) rfl (fun c => ?_) (fun c => ?_)
  · replace h := h.1 c
    refine jW.aload_n (dx_Mo_isFence 10 (e := (14, .aload_n 0, 1)) rfl) rfl rfl (pc' := 15) rfl ?_
    refine jW.iload_n (dx_Mo_isFence 11 (e := (15, .iload_n 2, 1)) rfl) rfl rfl (pc' := 16) rfl ?_
    refine jW.bipush (v := 126) (dx_Mo_isFence 12 (e := (16, .bipush 126, 2)) rfl) (by decide) (pc' := 18) rfl ?_
    refine jW.callVe F (h (d + 0) _ hV) (dx_Mo_isFence 13 (e := (18, .invokevirtual 141, 3)) rfl) can_Mo_row jw_1198 jw_1200 hV.cl rfl sel_Mo_row rfl rfl (Nat.le_of_ble_eq_true rfl) (pc' := 21) rfl (fun r σ hr => ?_)
    clear hV
    refine mQ.up hr.1 ?_
    obtain ⟨_, hV, _, rfl, h⟩ := hr.2
    refine jW.iconst (v := 2) (dx_Mo_isFence 14 (e := (21, .iconst 2, 1)) rfl) (by decide) (pc' := 22) rfl ?_
    refine jW.icmp_le (dx_Mo_isFence 15 (e := (22, .if_icmp .le 5, 3)) rfl) 27 (by decide) (pc' := 25) rfl (fun c => ?_) (fun c => ?_)
    · replace h := h.1 c
      refine jW.aload_n (dx_Mo_isFence 18 (e := (27, .aload_n 0, 1)) rfl) rfl rfl (pc' := 28) rfl ?_
      refine jW.iload_n (dx_Mo_isFence 19 (e := (28, .iload_n 2, 1)) rfl) rfl rfl (pc' := 29) rfl ?_
      refine jW.bipush (v := 96) (dx_Mo_isFence 20 (e := (29, .bipush 96, 2)) rfl) (by decide) (pc' := 31) rfl ?_
      refine jW.callVe F (h (d + 0) _ hV) (dx_Mo_isFence 21 (e := (31, .invokevirtual 141, 3)) rfl) can_Mo_row jw_1198 jw_1200 hV.cl rfl sel_Mo_row rfl rfl (Nat.le_of_ble_eq_true rfl) (pc' := 34) rfl (fun r σ hr => ?_)
      clear hV
      refine mQ.up hr.1 ?_
      obtain ⟨_, hV, _, rfl, h⟩ := hr.2
      refine jW.istore_n (dx_Mo_isFence 22 (e := (34, .istore_n 3, 1)) rfl) rfl (by decide) rfl (pc' := 35) rfl ?_
      refine jW.iload_n (dx_Mo_isFence 23 (e := (35, .iload_n 3, 1)) rfl) rfl rfl (pc' := 36) rfl ?_
      refine jW.iconst (v := 2) (dx_Mo_isFence 24 (e := (36, .iconst 2, 1)) rfl) (by decide) (pc' := 37) rfl ?_
      refine jW.icmp_le (dx_Mo_isFence 25 (e := (37, .if_icmp .le 7, 3)) rfl) 44 (by decide) (pc' := 40) rfl (fun c => ?_) (fun c => ?_)
      · replace h := h.1 c
        refine jW.iconst (v := 0) (dx_Mo_isFence 28 (e := (44, .iconst 0, 1)) rfl) (by decide) (pc' := 45) rfl ?_
        exact t_Mo_isFence_45 F hV h hK52
      · replace h := h.2 c
        refine jW.iconst (v := 1) (dx_Mo_isFence 26 (e := (40, .iconst 1, 1)) rfl) (by decide) (pc' := 41) rfl ?_
        refine jW.goto (dx_Mo_isFence 27 (e := (41, .goto 4, 3)) rfl) 45 (by decide) ?_
        exact t_Mo_isFence_45 F hV h hK52
    · replace h := h.2 c
      refine jW.iconst (v := 1) (dx_Mo_isFence 16 (e := (25, .iconst 1, 1)) rfl) (by decide) (pc' := 26) rfl ?_
      exact jW.zret (dx_Mo_isFence 17 (e := (26, .ireturn, 1)) rfl) rfl (by decide) ⟨FR.rfl, _, hV, h⟩
  · replace h := h.2 c
    refine jW.iconst (v := 0) (dx_Mo_isFence 8 (e := (12, .iconst 0, 1)) rfl) (by decide) (pc' := 13) rfl ?_
    exact jW.zret (dx_Mo_isFence 9 (e := (13, .ireturn, 1)) rfl) rfl (by decide) ⟨FR.rfl, _, hV, h⟩
theorem g_Mo_isFence {X : MX} {a0 : Array Value} (F : mF X a0) {x1 : Int32} {m : MS} {Φ : Option Value → MS → Prop} {I52 : Nat → Int32 → Int32 → Int32 → Int32 → Int32 → MS → Prop} (he : w_Mo_isFence_0 X x1 m Φ (fun x1 x2 x3 x4 x5 m => ∃ j, I52 j x1 x2 x3 x4 x5 m)) (h52 : ∀ (n : Nat) (x1 x2 x3 x4 x5 : Int32) (m : MS), I52 n x1 x2 x3 x4 x5 m → w_Mo_isFence_52 X x1 x2 x3 x4 x5 m Φ (fun x1 x2 x3 x4 x5 m => ∃ j, j < n ∧ I52 j x1 x2 x3 x4 x5 m)) : mE X 2 y_Mo_isFence [.ref (mo X), .int x1] m Φ := by
  intro d σ hV
  have hL52 : ∀ n, (∀ (x1 x2 x3 x4 x5 : Int32) (m : MS) (σ : jS), MV X m σ → I52 n x1 x2 x3 x4 x5 m → jW X.1 X.2.1 jcl X.2.2.1 X.2.2.2.1 (d + 2) y_Mo_isFence 52 [some (.ref (mo X)), some (.int x1), some (.int x2), some (.int x3), some (.int x4), some (.int x5)] [] σ (mQ X Φ σ)) := by
    intro n
    induction n using Nat.strongRecOn with
    | _ n ih =>
      exact fun x1 x2 x3 x4 x5 m σ hV hI => t_Mo_isFence_52 F hV (h52 n x1 x2 x3 x4 x5 m hI) (fun x1 x2 x3 x4 x5 m σ hV ⟨j, hj, hI⟩ => (ih j hj) x1 x2 x3 x4 x5 m σ hV hI)
  refine jE.of (by decide) (by simp [Value.category]) (Nat.le_of_ble_eq_true rfl) rfl ?_
  exact t_Mo_isFence_0 F hV he (fun x1 x2 x3 x4 x5 m σ hV ⟨j, hI⟩ => (hL52 j) x1 x2 x3 x4 x5 m σ hV hI)
def w_Mo_beginFence_0 (X : MX) (x1 x2 : Int32) (m : MS) (Φ : Option Value → MS → Prop) : Prop := mE X 0 y_Mo_at [.ref (mo X), .int ((m.1 31) + x1)] m (iP fun r1 m1 => mE X 1 y_Mo_row [.ref (mo X), .int ((m1.1 31) + x1), .int (r1)] m1 (iP fun r2 m2 => mE X 7 y_Mo_begin [.ref (mo X), .int (7), .int (x2)] m2 (iP fun r3 m3 => (vp_in (r3) 3300 ∧ ∀ m4, m4 = mA m3 22 (r3 : Int32).toNatClampNeg (r1) → (vp_in (r3) 3300 ∧ ∀ m5, m5 = mA m4 23 (r3 : Int32).toNatClampNeg (r2) → (vp_in (r3) 3300 ∧ ∀ m6, m6 = mA m5 24 (r3 : Int32).toNatClampNeg (x1) → (vp_in (r3) 3300 ∧ ∀ m7, m7 = mA m6 20 (r3 : Int32).toNatClampNeg (m6.1 10) → mE X 1 y_Mo_keepTrimmed [.ref (mo X), .int (((m7.1 31) + x1) + r2), .int (m7.1 12)] m7 (iP fun r8 m8 => (vp_in (r3) 3300 ∧ ∀ m9, m9 = mA m8 21 (r3 : Int32).toNatClampNeg (r8) → (vp_in (r3) 3300 ∧ ∀ m10, m10 = mA m9 18 (r3 : Int32).toNatClampNeg (m9.1 10) → ∀ m11, m11 = mI m10 34 (1) → Φ none m11))))))))))
theorem t_Mo_beginFence_0 {X : MX} {a0 : Array Value} (F : mF X a0) {d : Nat} {x1 x2 : Int32} {o3 o4 o5 : Option Value} {m : MS} {σ : jS} {Φ : Option Value → MS → Prop} (hV : MV X m σ) (h : w_Mo_beginFence_0 X x1 x2 m Φ) : jW X.1 X.2.1 jcl X.2.2.1 X.2.2.2.1 (d + 8) y_Mo_beginFence 0 [some (.ref (mo X)), some (.int x1), some (.int x2), o3, o4, o5] [] σ (mQ X Φ σ) := by
  unfold w_Mo_beginFence_0 at h
  refine jW.aload_n (dx_Mo_beginFence 0 (e := (0, .aload_n 0, 1)) rfl) rfl rfl (pc' := 1) rfl ?_
  refine jW.aload_n (dx_Mo_beginFence 1 (e := (1, .aload_n 0, 1)) rfl) rfl rfl (pc' := 2) rfl ?_
  refine jW.mgi F hV f_Mo_beginFence_2 (by decide) (pc' := 5) rfl ?_
  refine jW.iload_n (dx_Mo_beginFence 3 (e := (5, .iload_n 1, 1)) rfl) rfl rfl (pc' := 6) rfl ?_
  refine jW.iadd (dx_Mo_beginFence 4 (e := (6, .iadd, 1)) rfl) (pc' := 7) rfl ?_
  refine jW.callVe F (h (d + 7) _ hV) (dx_Mo_beginFence 5 (e := (7, .invokevirtual 129, 3)) rfl) can_Mo_at jw_1194 jw_1196 hV.cl rfl sel_Mo_at rfl rfl (Nat.le_of_ble_eq_true rfl) (pc' := 10) rfl (fun r σ hr => ?_)
  clear hV
  refine mQ.up hr.1 ?_
  obtain ⟨_, hV, _, rfl, h⟩ := hr.2
  refine jW.istore_n (dx_Mo_beginFence 6 (e := (10, .istore_n 3, 1)) rfl) rfl (by decide) rfl (pc' := 11) rfl ?_
  refine jW.aload_n (dx_Mo_beginFence 7 (e := (11, .aload_n 0, 1)) rfl) rfl rfl (pc' := 12) rfl ?_
  refine jW.aload_n (dx_Mo_beginFence 8 (e := (12, .aload_n 0, 1)) rfl) rfl rfl (pc' := 13) rfl ?_
  refine jW.mgi F hV f_Mo_beginFence_13 (by decide) (pc' := 16) rfl ?_
  refine jW.iload_n (dx_Mo_beginFence 10 (e := (16, .iload_n 1, 1)) rfl) rfl rfl (pc' := 17) rfl ?_
  refine jW.iadd (dx_Mo_beginFence 11 (e := (17, .iadd, 1)) rfl) (pc' := 18) rfl ?_
  refine jW.iload_n (dx_Mo_beginFence 12 (e := (18, .iload_n 3, 1)) rfl) rfl rfl (pc' := 19) rfl ?_
  refine jW.callVe F (h (d + 6) _ hV) (dx_Mo_beginFence 13 (e := (19, .invokevirtual 141, 3)) rfl) can_Mo_row jw_1198 jw_1200 hV.cl rfl sel_Mo_row rfl rfl (Nat.le_of_ble_eq_true rfl) (pc' := 22) rfl (fun r σ hr => ?_)
  clear hV
  refine mQ.up hr.1 ?_
  obtain ⟨_, hV, _, rfl, h⟩ := hr.2
  refine jW.istore (dx_Mo_beginFence 14 (e := (22, .istore 4, 2)) rfl) (by decide) rfl (pc' := 24) rfl ?_
  refine jW.aload_n (dx_Mo_beginFence 15 (e := (24, .aload_n 0, 1)) rfl) rfl rfl (pc' := 25) rfl ?_
  refine jW.bipush (v := 7) (dx_Mo_beginFence 16 (e := (25, .bipush 7, 2)) rfl) (by decide) (pc' := 27) rfl ?_
  refine jW.iload_n (dx_Mo_beginFence 17 (e := (27, .iload_n 2, 1)) rfl) rfl rfl (pc' := 28) rfl ?_
  refine jW.callVe F (h (d + 0) _ hV) (dx_Mo_beginFence 18 (e := (28, .invokevirtual 186, 3)) rfl) can_Mo_begin jw_1312 jw_1314 hV.cl rfl sel_Mo_begin rfl rfl (Nat.le_of_ble_eq_true rfl) (pc' := 31) rfl (fun r σ hr => ?_)
  clear hV
  refine mQ.up hr.1 ?_
  obtain ⟨_, hV, _, rfl, h⟩ := hr.2
  refine jW.istore (dx_Mo_beginFence 19 (e := (31, .istore 5, 2)) rfl) (by decide) rfl (pc' := 33) rfl ?_
  refine jW.aload_n (dx_Mo_beginFence 20 (e := (33, .aload_n 0, 1)) rfl) rfl rfl (pc' := 34) rfl ?_
  refine jW.mga F hV f_Mo_beginFence_34 (by decide) (pc' := 37) rfl ?_
  refine jW.iload (dx_Mo_beginFence 22 (e := (37, .iload 5, 2)) rfl) rfl (pc' := 39) rfl ?_
  refine jW.iload_n (dx_Mo_beginFence 23 (e := (39, .iload_n 3, 1)) rfl) rfl rfl (pc' := 40) rfl ?_
  refine jW.msa F hV (dx_Mo_beginFence 24 (e := (40, .iastore, 1)) rfl) (by decide) rfl h.1 (pc' := 41) rfl (fun σ hV => ?_)
  replace h := h.2 _ rfl
  refine jW.aload_n (dx_Mo_beginFence 25 (e := (41, .aload_n 0, 1)) rfl) rfl rfl (pc' := 42) rfl ?_
  refine jW.mga F hV f_Mo_beginFence_42 (by decide) (pc' := 45) rfl ?_
  refine jW.iload (dx_Mo_beginFence 27 (e := (45, .iload 5, 2)) rfl) rfl (pc' := 47) rfl ?_
  refine jW.iload (dx_Mo_beginFence 28 (e := (47, .iload 4, 2)) rfl) rfl (pc' := 49) rfl ?_
  refine jW.msa F hV (dx_Mo_beginFence 29 (e := (49, .iastore, 1)) rfl) (by decide) rfl h.1 (pc' := 50) rfl (fun σ hV => ?_)
  replace h := h.2 _ rfl
  refine jW.aload_n (dx_Mo_beginFence 30 (e := (50, .aload_n 0, 1)) rfl) rfl rfl (pc' := 51) rfl ?_
  refine jW.mga F hV f_Mo_beginFence_51 (by decide) (pc' := 54) rfl ?_
  refine jW.iload (dx_Mo_beginFence 32 (e := (54, .iload 5, 2)) rfl) rfl (pc' := 56) rfl ?_
  refine jW.iload_n (dx_Mo_beginFence 33 (e := (56, .iload_n 1, 1)) rfl) rfl rfl (pc' := 57) rfl ?_
  refine jW.msa F hV (dx_Mo_beginFence 34 (e := (57, .iastore, 1)) rfl) (by decide) rfl h.1 (pc' := 58) rfl (fun σ hV => ?_)
  replace h := h.2 _ rfl
  refine jW.aload_n (dx_Mo_beginFence 35 (e := (58, .aload_n 0, 1)) rfl) rfl rfl (pc' := 59) rfl ?_
  refine jW.mga F hV f_Mo_beginFence_59 (by decide) (pc' := 62) rfl ?_
  refine jW.iload (dx_Mo_beginFence 37 (e := (62, .iload 5, 2)) rfl) rfl (pc' := 64) rfl ?_
  refine jW.aload_n (dx_Mo_beginFence 38 (e := (64, .aload_n 0, 1)) rfl) rfl rfl (pc' := 65) rfl ?_
  refine jW.mgi F hV f_Mo_beginFence_65 (by decide) (pc' := 68) rfl ?_
  refine jW.msa F hV (dx_Mo_beginFence 40 (e := (68, .iastore, 1)) rfl) (by decide) rfl h.1 (pc' := 69) rfl (fun σ hV => ?_)
  replace h := h.2 _ rfl
  refine jW.aload_n (dx_Mo_beginFence 41 (e := (69, .aload_n 0, 1)) rfl) rfl rfl (pc' := 70) rfl ?_
  refine jW.mga F hV f_Mo_beginFence_70 (by decide) (pc' := 73) rfl ?_
  refine jW.iload (dx_Mo_beginFence 43 (e := (73, .iload 5, 2)) rfl) rfl (pc' := 75) rfl ?_
  refine jW.aload_n (dx_Mo_beginFence 44 (e := (75, .aload_n 0, 1)) rfl) rfl rfl (pc' := 76) rfl ?_
  refine jW.aload_n (dx_Mo_beginFence 45 (e := (76, .aload_n 0, 1)) rfl) rfl rfl (pc' := 77) rfl ?_
  refine jW.mgi F hV f_Mo_beginFence_77 (by decide) (pc' := 80) rfl ?_
  refine jW.iload_n (dx_Mo_beginFence 47 (e := (80, .iload_n 1, 1)) rfl) rfl rfl (pc' := 81) rfl ?_
  refine jW.iadd (dx_Mo_beginFence 48 (e := (81, .iadd, 1)) rfl) (pc' := 82) rfl ?_
  refine jW.iload (dx_Mo_beginFence 49 (e := (82, .iload 4, 2)) rfl) rfl (pc' := 84) rfl ?_
  refine jW.iadd (dx_Mo_beginFence 50 (e := (84, .iadd, 1)) rfl) (pc' := 85) rfl ?_
  refine jW.aload_n (dx_Mo_beginFence 51 (e := (85, .aload_n 0, 1)) rfl) rfl rfl (pc' := 86) rfl ?_
  refine jW.mgi F hV f_Mo_beginFence_86 (by decide) (pc' := 89) rfl ?_
  refine jW.callVe F (h (d + 6) _ hV) (dx_Mo_beginFence 53 (e := (89, .invokevirtual 192, 3)) rfl) can_Mo_keepTrimmed jw_1332 jw_1334 hV.cl rfl sel_Mo_keepTrimmed rfl rfl (Nat.le_of_ble_eq_true rfl) (pc' := 92) rfl (fun r σ hr => ?_)
  clear hV
  refine mQ.up hr.1 ?_
  obtain ⟨_, hV, _, rfl, h⟩ := hr.2
  refine jW.msa F hV (dx_Mo_beginFence 54 (e := (92, .iastore, 1)) rfl) (by decide) rfl h.1 (pc' := 93) rfl (fun σ hV => ?_)
  replace h := h.2 _ rfl
  refine jW.aload_n (dx_Mo_beginFence 55 (e := (93, .aload_n 0, 1)) rfl) rfl rfl (pc' := 94) rfl ?_
  refine jW.mga F hV f_Mo_beginFence_94 (by decide) (pc' := 97) rfl ?_
  refine jW.iload (dx_Mo_beginFence 57 (e := (97, .iload 5, 2)) rfl) rfl (pc' := 99) rfl ?_
  refine jW.aload_n (dx_Mo_beginFence 58 (e := (99, .aload_n 0, 1)) rfl) rfl rfl (pc' := 100) rfl ?_
  refine jW.mgi F hV f_Mo_beginFence_100 (by decide) (pc' := 103) rfl ?_
  refine jW.msa F hV (dx_Mo_beginFence 60 (e := (103, .iastore, 1)) rfl) (by decide) rfl h.1 (pc' := 104) rfl (fun σ hV => ?_)
  replace h := h.2 _ rfl
  refine jW.aload_n (dx_Mo_beginFence 61 (e := (104, .aload_n 0, 1)) rfl) rfl rfl (pc' := 105) rfl ?_
  refine jW.iconst (v := 1) (dx_Mo_beginFence 62 (e := (105, .iconst 1, 1)) rfl) (by decide) (pc' := 106) rfl ?_
  refine jW.mpi F hV f_Mo_beginFence_106 (by decide) rfl rfl rfl (pc' := 109) rfl (fun σ hV => ?_)
  replace h := h _ rfl
  exact jW.vret (dx_Mo_beginFence 64 (e := (109, .return_, 1)) rfl) rfl ⟨FR.rfl, _, hV, h⟩
theorem g_Mo_beginFence {X : MX} {a0 : Array Value} (F : mF X a0) {x1 x2 : Int32} {m : MS} {Φ : Option Value → MS → Prop} (he : w_Mo_beginFence_0 X x1 x2 m Φ) : mE X 8 y_Mo_beginFence [.ref (mo X), .int x1, .int x2] m Φ := by
  intro d σ hV
  refine jE.of (by decide) (by simp [Value.category]) (Nat.le_of_ble_eq_true rfl) rfl ?_
  exact t_Mo_beginFence_0 F hV he
def w_Mo_underline_23 (X : MX) (x1 : Int32) (m : MS) (Φ : Option Value → MS → Prop) : Prop := Φ (some (.int (0))) m
theorem t_Mo_underline_23 {X : MX} {a0 : Array Value} (F : mF X a0) {d : Nat} {x1 : Int32} {o2 : Option Value} {m : MS} {σ : jS} {Φ : Option Value → MS → Prop} (hV : MV X m σ) (h : w_Mo_underline_23 X x1 m Φ) : jW X.1 X.2.1 jcl X.2.2.1 X.2.2.2.1 (d + 2) y_Mo_underline 23 [some (.ref (mo X)), some (.int x1), o2] [] σ (mQ X Φ σ) := by
  unfold w_Mo_underline_23 at h
  refine jW.iconst (v := 0) (dx_Mo_underline 13 (e := (23, .iconst 0, 1)) rfl) (by decide) (pc' := 24) rfl ?_
  exact jW.iret (dx_Mo_underline 14 (e := (24, .ireturn, 1)) rfl) rfl ⟨FR.rfl, _, hV, h⟩
def w_Mo_underline_86 (X : MX) (x1 x2 s0 : Int32) (m : MS) (Φ : Option Value → MS → Prop) : Prop := Φ (some (.int (s0))) m
theorem t_Mo_underline_86 {X : MX} {a0 : Array Value} (F : mF X a0) {d : Nat} {x1 x2 s0 : Int32} {m : MS} {σ : jS} {Φ : Option Value → MS → Prop} (hV : MV X m σ) (h : w_Mo_underline_86 X x1 x2 s0 m Φ) : jW X.1 X.2.1 jcl X.2.2.1 X.2.2.2.1 (d + 2) y_Mo_underline 86 [some (.ref (mo X)), some (.int x1), some (.int x2)] [.int s0] σ (mQ X Φ σ) := by
  unfold w_Mo_underline_86 at h
  exact jW.iret (dx_Mo_underline 51 (e := (86, .ireturn, 1)) rfl) rfl ⟨FR.rfl, _, hV, h⟩
def w_Mo_underline_73 (X : MX) (x1 x2 : Int32) (m : MS) (Φ : Option Value → MS → Prop) : Prop := Φ (some (.int (0))) m
theorem t_Mo_underline_73 {X : MX} {a0 : Array Value} (F : mF X a0) {d : Nat} {x1 x2 : Int32} {m : MS} {σ : jS} {Φ : Option Value → MS → Prop} (hV : MV X m σ) (h : w_Mo_underline_73 X x1 x2 m Φ) : jW X.1 X.2.1 jcl X.2.2.1 X.2.2.2.1 (d + 2) y_Mo_underline 73 [some (.ref (mo X)), some (.int x1), some (.int x2)] [] σ (mQ X Φ σ) := by
  unfold w_Mo_underline_73 at h
  refine jW.iconst (v := 0) (dx_Mo_underline 43 (e := (73, .iconst 0, 1)) rfl) (by decide) (pc' := 74) rfl ?_
  exact jW.iret (dx_Mo_underline 44 (e := (74, .ireturn, 1)) rfl) rfl ⟨FR.rfl, _, hV, h⟩
def w_Mo_underline_48 (X : MX) (x1 x2 : Int32) (m : MS) (Φ : Option Value → MS → Prop) : Prop := mE X 1 y_Mo_row [.ref (mo X), .int ((m.1 31) + x1), .int (x2)] m (iP fun r1 m1 => mE X 0 y_Mo_isBlank [.ref (mo X), .int (((m.1 31) + x1) + r1)] m1 (iP fun r2 m2 => ((r2 = 0 → w_Mo_underline_73 X (x1) (x2) m2 Φ) ∧ (¬ r2 = 0 → ((x2 = 61 → w_Mo_underline_86 X (x1) (x2) (1) m2 Φ) ∧ (¬ x2 = 61 → w_Mo_underline_86 X (x1) (x2) (2) m2 Φ))))))
theorem t_Mo_underline_48 {X : MX} {a0 : Array Value} (F : mF X a0) {d : Nat} {x1 x2 : Int32} {m : MS} {σ : jS} {Φ : Option Value → MS → Prop} (hV : MV X m σ) (h : w_Mo_underline_48 X x1 x2 m Φ) : jW X.1 X.2.1 jcl X.2.2.1 X.2.2.2.1 (d + 2) y_Mo_underline 48 [some (.ref (mo X)), some (.int x1), some (.int x2)] [] σ (mQ X Φ σ) := by
  unfold w_Mo_underline_48 at h
  refine jW.aload_n (dx_Mo_underline 28 (e := (48, .aload_n 0, 1)) rfl) rfl rfl (pc' := 49) rfl ?_
  refine jW.aload_n (dx_Mo_underline 29 (e := (49, .aload_n 0, 1)) rfl) rfl rfl (pc' := 50) rfl ?_
  refine jW.mgi F hV f_Mo_underline_50 (by decide) (pc' := 53) rfl ?_
  refine jW.iload_n (dx_Mo_underline 31 (e := (53, .iload_n 1, 1)) rfl) rfl rfl (pc' := 54) rfl ?_
  refine jW.iadd (dx_Mo_underline 32 (e := (54, .iadd, 1)) rfl) (pc' := 55) rfl ?_
  refine jW.aload_n (dx_Mo_underline 33 (e := (55, .aload_n 0, 1)) rfl) rfl rfl (pc' := 56) rfl ?_
  refine jW.aload_n (dx_Mo_underline 34 (e := (56, .aload_n 0, 1)) rfl) rfl rfl (pc' := 57) rfl ?_
  refine jW.mgi F hV f_Mo_underline_57 (by decide) (pc' := 60) rfl ?_
  refine jW.iload_n (dx_Mo_underline 36 (e := (60, .iload_n 1, 1)) rfl) rfl rfl (pc' := 61) rfl ?_
  refine jW.iadd (dx_Mo_underline 37 (e := (61, .iadd, 1)) rfl) (pc' := 62) rfl ?_
  refine jW.iload_n (dx_Mo_underline 38 (e := (62, .iload_n 2, 1)) rfl) rfl rfl (pc' := 63) rfl ?_
  refine jW.callVe F (h (d + 0) _ hV) (dx_Mo_underline 39 (e := (63, .invokevirtual 141, 3)) rfl) can_Mo_row jw_1198 jw_1200 hV.cl rfl sel_Mo_row rfl rfl (Nat.le_of_ble_eq_true rfl) (pc' := 66) rfl (fun r σ hr => ?_)
  clear hV
  refine mQ.up hr.1 ?_
  obtain ⟨_, hV, _, rfl, h⟩ := hr.2
  refine jW.iadd (dx_Mo_underline 40 (e := (66, .iadd, 1)) rfl) (pc' := 67) rfl ?_
  refine jW.callVe F (h (d + 1) _ hV) (dx_Mo_underline 41 (e := (67, .invokevirtual 137, 3)) rfl) can_Mo_isBlank jw_1190 jw_1192 hV.cl rfl sel_Mo_isBlank rfl rfl (Nat.le_of_ble_eq_true rfl) (pc' := 70) rfl (fun r σ hr => ?_)
  clear hV
  refine mQ.up hr.1 ?_
  obtain ⟨_, hV, _, rfl, h⟩ := hr.2
  refine jW.if_ne (dx_Mo_underline 42 (e := (70, .ifCond .ne 5, 3)) rfl) 75 (by decide) (pc' := 73) rfl (fun c => ?_) (fun c => ?_)
  · replace h := h.2 c
    refine jW.iload_n (dx_Mo_underline 45 (e := (75, .iload_n 2, 1)) rfl) rfl rfl (pc' := 76) rfl ?_
    refine jW.bipush (v := 61) (dx_Mo_underline 46 (e := (76, .bipush 61, 2)) rfl) (by decide) (pc' := 78) rfl ?_
    refine jW.icmp_ne (dx_Mo_underline 47 (e := (78, .if_icmp .ne 7, 3)) rfl) 85 (by decide) (pc' := 81) rfl (fun c => ?_) (fun c => ?_)
    · replace h := h.2 c
      refine jW.iconst (v := 2) (dx_Mo_underline 50 (e := (85, .iconst 2, 1)) rfl) (by decide) (pc' := 86) rfl ?_
      exact t_Mo_underline_86 F hV h
    · replace h := h.1 c
      refine jW.iconst (v := 1) (dx_Mo_underline 48 (e := (81, .iconst 1, 1)) rfl) (by decide) (pc' := 82) rfl ?_
      refine jW.goto (dx_Mo_underline 49 (e := (82, .goto 4, 3)) rfl) 86 (by decide) ?_
      exact t_Mo_underline_86 F hV h
  · replace h := h.1 c
    exact t_Mo_underline_73 F hV h
def w_Mo_underline_0 (X : MX) (x1 : Int32) (m : MS) (Φ : Option Value → MS → Prop) : Prop := ((3 < x1 → w_Mo_underline_23 X (x1) m Φ) ∧ (¬ 3 < x1 → (vp_in (m.1 32) 40 ∧ (vp_in (m.2 29 (m.1 32 : Int32).toNatClampNeg) 3300 ∧ ((m.2 13 (m.2 29 (m.1 32 : Int32).toNatClampNeg : Int32).toNatClampNeg = 4 → mE X 0 y_Mo_at [.ref (mo X), .int ((m.1 31) + x1)] m (iP fun r1 m1 => ((r1 = 61 → w_Mo_underline_48 X (x1) (r1) m1 Φ) ∧ (¬ r1 = 61 → ((r1 = 45 → w_Mo_underline_48 X (x1) (r1) m1 Φ) ∧ (¬ r1 = 45 → w_Mo_underline_73 X (x1) (r1) m1 Φ)))))) ∧ (¬ m.2 13 (m.2 29 (m.1 32 : Int32).toNatClampNeg : Int32).toNatClampNeg = 4 → w_Mo_underline_23 X (x1) m Φ))))))
theorem t_Mo_underline_0 {X : MX} {a0 : Array Value} (F : mF X a0) {d : Nat} {x1 : Int32} {o2 : Option Value} {m : MS} {σ : jS} {Φ : Option Value → MS → Prop} (hV : MV X m σ) (h : w_Mo_underline_0 X x1 m Φ) : jW X.1 X.2.1 jcl X.2.2.1 X.2.2.2.1 (d + 2) y_Mo_underline 0 [some (.ref (mo X)), some (.int x1), o2] [] σ (mQ X Φ σ) := by
  unfold w_Mo_underline_0 at h
  refine jW.iload_n (dx_Mo_underline 0 (e := (0, .iload_n 1, 1)) rfl) rfl rfl (pc' := 1) rfl ?_
  refine jW.iconst (v := 3) (dx_Mo_underline 1 (e := (1, .iconst 3, 1)) rfl) (by decide) (pc' := 2) rfl ?_
  refine jW.icmp_gt (dx_Mo_underline 2 (e := (2, .if_icmp .gt 21, 3)) rfl) 23 (by decide) (pc' := 5) rfl (fun c => ?_) (fun c => ?_)
  · replace h := h.1 c
    exact t_Mo_underline_23 F hV h
  · replace h := h.2 c
    refine jW.aload_n (dx_Mo_underline 3 (e := (5, .aload_n 0, 1)) rfl) rfl rfl (pc' := 6) rfl ?_
    refine jW.mga F hV f_Mo_underline_6 (by decide) (pc' := 9) rfl ?_
    refine jW.aload_n (dx_Mo_underline 5 (e := (9, .aload_n 0, 1)) rfl) rfl rfl (pc' := 10) rfl ?_
    refine jW.mga F hV f_Mo_underline_10 (by decide) (pc' := 13) rfl ?_
    refine jW.aload_n (dx_Mo_underline 7 (e := (13, .aload_n 0, 1)) rfl) rfl rfl (pc' := 14) rfl ?_
    refine jW.mgi F hV f_Mo_underline_14 (by decide) (pc' := 17) rfl ?_
    refine jW.mla F hV (dx_Mo_underline 9 (e := (17, .iaload, 1)) rfl) (by decide) rfl h.1 (pc' := 18) rfl ?_
    replace h := h.2
    refine jW.mla F hV (dx_Mo_underline 10 (e := (18, .iaload, 1)) rfl) (by decide) rfl h.1 (pc' := 19) rfl ?_
    replace h := h.2
    refine jW.iconst (v := 4) (dx_Mo_underline 11 (e := (19, .iconst 4, 1)) rfl) (by decide) (pc' := 20) rfl ?_
    refine jW.icmp_eq (dx_Mo_underline 12 (e := (20, .if_icmp .eq 5, 3)) rfl) 25 (by decide) (pc' := 23) rfl (fun c => ?_) (fun c => ?_)
    · replace h := h.1 c
      refine jW.aload_n (dx_Mo_underline 15 (e := (25, .aload_n 0, 1)) rfl) rfl rfl (pc' := 26) rfl ?_
      refine jW.aload_n (dx_Mo_underline 16 (e := (26, .aload_n 0, 1)) rfl) rfl rfl (pc' := 27) rfl ?_
      refine jW.mgi F hV f_Mo_underline_27 (by decide) (pc' := 30) rfl ?_
      refine jW.iload_n (dx_Mo_underline 18 (e := (30, .iload_n 1, 1)) rfl) rfl rfl (pc' := 31) rfl ?_
      refine jW.iadd (dx_Mo_underline 19 (e := (31, .iadd, 1)) rfl) (pc' := 32) rfl ?_
      refine jW.callVe F (h (d + 1) _ hV) (dx_Mo_underline 20 (e := (32, .invokevirtual 129, 3)) rfl) can_Mo_at jw_1194 jw_1196 hV.cl rfl sel_Mo_at rfl rfl (Nat.le_of_ble_eq_true rfl) (pc' := 35) rfl (fun r σ hr => ?_)
      clear hV
      refine mQ.up hr.1 ?_
      obtain ⟨_, hV, _, rfl, h⟩ := hr.2
      refine jW.istore_n (dx_Mo_underline 21 (e := (35, .istore_n 2, 1)) rfl) rfl (by decide) rfl (pc' := 36) rfl ?_
      refine jW.iload_n (dx_Mo_underline 22 (e := (36, .iload_n 2, 1)) rfl) rfl rfl (pc' := 37) rfl ?_
      refine jW.bipush (v := 61) (dx_Mo_underline 23 (e := (37, .bipush 61, 2)) rfl) (by decide) (pc' := 39) rfl ?_
      refine jW.icmp_eq (dx_Mo_underline 24 (e := (39, .if_icmp .eq 9, 3)) rfl) 48 (by decide) (pc' := 42) rfl (fun c => ?_) (fun c => ?_)
      · replace h := h.1 c
        exact t_Mo_underline_48 F hV h
      · replace h := h.2 c
        refine jW.iload_n (dx_Mo_underline 25 (e := (42, .iload_n 2, 1)) rfl) rfl rfl (pc' := 43) rfl ?_
        refine jW.bipush (v := 45) (dx_Mo_underline 26 (e := (43, .bipush 45, 2)) rfl) (by decide) (pc' := 45) rfl ?_
        refine jW.icmp_ne (dx_Mo_underline 27 (e := (45, .if_icmp .ne 28, 3)) rfl) 73 (by decide) (pc' := 48) rfl (fun c => ?_) (fun c => ?_)
        · replace h := h.2 c
          exact t_Mo_underline_73 F hV h
        · replace h := h.1 c
          exact t_Mo_underline_48 F hV h
    · replace h := h.2 c
      exact t_Mo_underline_23 F hV h
theorem g_Mo_underline {X : MX} {a0 : Array Value} (F : mF X a0) {x1 : Int32} {m : MS} {Φ : Option Value → MS → Prop} (he : w_Mo_underline_0 X x1 m Φ) : mE X 2 y_Mo_underline [.ref (mo X), .int x1] m Φ := by
  intro d σ hV
  refine jE.of (by decide) (by simp [Value.category]) (Nat.le_of_ble_eq_true rfl) rfl ?_
  exact t_Mo_underline_0 F hV he
def w_Mo_makeHeading_73 (X : MX) (x1 x2 x3 : Int32) (m : MS) (Φ : Option Value → MS → Prop) : Prop := ∀ m1, m1 = mI m 30 ((m.1 30) - 1) → ∀ m2, m2 = mI m1 32 ((m1.1 32) - 1) → Φ none m2
theorem t_Mo_makeHeading_73 {X : MX} {a0 : Array Value} (F : mF X a0) {d : Nat} {x1 x2 x3 : Int32} {m : MS} {σ : jS} {Φ : Option Value → MS → Prop} (hV : MV X m σ) (h : w_Mo_makeHeading_73 X x1 x2 x3 m Φ) : jW X.1 X.2.1 jcl X.2.2.1 X.2.2.2.1 (d + 7) y_Mo_makeHeading 73 [some (.ref (mo X)), some (.int x1), some (.int x2), some (.int x3)] [] σ (mQ X Φ σ) := by
  unfold w_Mo_makeHeading_73 at h
  refine jW.aload_n (dx_Mo_makeHeading 45 (e := (73, .aload_n 0, 1)) rfl) rfl rfl (pc' := 74) rfl ?_
  refine jW.dup (dx_Mo_makeHeading 46 (e := (74, .dup, 1)) rfl) rfl (pc' := 75) rfl ?_
  refine jW.mgi F hV f_Mo_makeHeading_75 (by decide) (pc' := 78) rfl ?_
  refine jW.iconst (v := 1) (dx_Mo_makeHeading 48 (e := (78, .iconst 1, 1)) rfl) (by decide) (pc' := 79) rfl ?_
  refine jW.isub (dx_Mo_makeHeading 49 (e := (79, .isub, 1)) rfl) (pc' := 80) rfl ?_
  refine jW.mpi F hV f_Mo_makeHeading_80 (by decide) rfl rfl rfl (pc' := 83) rfl (fun σ hV => ?_)
  replace h := h _ rfl
  refine jW.aload_n (dx_Mo_makeHeading 51 (e := (83, .aload_n 0, 1)) rfl) rfl rfl (pc' := 84) rfl ?_
  refine jW.dup (dx_Mo_makeHeading 52 (e := (84, .dup, 1)) rfl) rfl (pc' := 85) rfl ?_
  refine jW.mgi F hV f_Mo_makeHeading_85 (by decide) (pc' := 88) rfl ?_
  refine jW.iconst (v := 1) (dx_Mo_makeHeading 54 (e := (88, .iconst 1, 1)) rfl) (by decide) (pc' := 89) rfl ?_
  refine jW.isub (dx_Mo_makeHeading 55 (e := (89, .isub, 1)) rfl) (pc' := 90) rfl ?_
  refine jW.mpi F hV f_Mo_makeHeading_90 (by decide) rfl rfl rfl (pc' := 93) rfl (fun σ hV => ?_)
  replace h := h _ rfl
  exact jW.vret (dx_Mo_makeHeading 57 (e := (93, .return_, 1)) rfl) rfl ⟨FR.rfl, _, hV, h⟩
def w_Mo_makeHeading_0 (X : MX) (x1 x2 : Int32) (m : MS) (Φ : Option Value → MS → Prop) : Prop := (vp_in (m.1 32) 40 ∧ mE X 6 y_Mo_closeTo [.ref (mo X), .int ((m.1 32) + 1)] m (vP fun m1 => mE X 4 y_Mo_takeDefinitions [.ref (mo X), .int (m.2 29 (m.1 32 : Int32).toNatClampNeg)] m1 (vP fun m2 => (vp_in (m.2 29 (m.1 32 : Int32).toNatClampNeg) 3300 ∧ ((m2.2 19 (m.2 29 (m.1 32 : Int32).toNatClampNeg : Int32).toNatClampNeg ≤ 0 → mE X 0 y_Mo_goAway [.ref (mo X), .int (m.2 29 (m.1 32 : Int32).toNatClampNeg)] m2 (vP fun m3 => w_Mo_makeHeading_73 X (x1) (x2) (m.2 29 (m.1 32 : Int32).toNatClampNeg) m3 Φ)) ∧ (¬ m2.2 19 (m.2 29 (m.1 32 : Int32).toNatClampNeg : Int32).toNatClampNeg ≤ 0 → (vp_in (m.2 29 (m.1 32 : Int32).toNatClampNeg) 3300 ∧ ∀ m4, m4 = mA m2 13 (m.2 29 (m.1 32 : Int32).toNatClampNeg : Int32).toNatClampNeg (5) → (vp_in (m.2 29 (m.1 32 : Int32).toNatClampNeg) 3300 ∧ ∀ m5, m5 = mA m4 15 (m.2 29 (m.1 32 : Int32).toNatClampNeg : Int32).toNatClampNeg (x1) → (vp_in (m.2 29 (m.1 32 : Int32).toNatClampNeg) 3300 ∧ ∀ m6, m6 = mA m5 17 (m.2 29 (m.1 32 : Int32).toNatClampNeg : Int32).toNatClampNeg (x2) → mE X 0 y_Mo_trimEnd [.ref (mo X), .int (m.2 29 (m.1 32 : Int32).toNatClampNeg)] m6 (vP fun m7 => ∀ m8, m8 = mI m7 34 (1) → w_Mo_makeHeading_73 X (x1) (x2) (m.2 29 (m.1 32 : Int32).toNatClampNeg) m8 Φ))))))))))
theorem t_Mo_makeHeading_0 {X : MX} {a0 : Array Value} (F : mF X a0) {d : Nat} {x1 x2 : Int32} {o3 : Option Value} {m : MS} {σ : jS} {Φ : Option Value → MS → Prop} (hV : MV X m σ) (h : w_Mo_makeHeading_0 X x1 x2 m Φ) : jW X.1 X.2.1 jcl X.2.2.1 X.2.2.2.1 (d + 7) y_Mo_makeHeading 0 [some (.ref (mo X)), some (.int x1), some (.int x2), o3] [] σ (mQ X Φ σ) := by
  unfold w_Mo_makeHeading_0 at h
  refine jW.aload_n (dx_Mo_makeHeading 0 (e := (0, .aload_n 0, 1)) rfl) rfl rfl (pc' := 1) rfl ?_
  refine jW.mga F hV f_Mo_makeHeading_1 (by decide) (pc' := 4) rfl ?_
  refine jW.aload_n (dx_Mo_makeHeading 2 (e := (4, .aload_n 0, 1)) rfl) rfl rfl (pc' := 5) rfl ?_
  refine jW.mgi F hV f_Mo_makeHeading_5 (by decide) (pc' := 8) rfl ?_
  refine jW.mla F hV (dx_Mo_makeHeading 4 (e := (8, .iaload, 1)) rfl) (by decide) rfl h.1 (pc' := 9) rfl ?_
  replace h := h.2
  refine jW.istore_n (dx_Mo_makeHeading 5 (e := (9, .istore_n 3, 1)) rfl) rfl (by decide) rfl (pc' := 10) rfl ?_
  refine jW.aload_n (dx_Mo_makeHeading 6 (e := (10, .aload_n 0, 1)) rfl) rfl rfl (pc' := 11) rfl ?_
  refine jW.aload_n (dx_Mo_makeHeading 7 (e := (11, .aload_n 0, 1)) rfl) rfl rfl (pc' := 12) rfl ?_
  refine jW.mgi F hV f_Mo_makeHeading_12 (by decide) (pc' := 15) rfl ?_
  refine jW.iconst (v := 1) (dx_Mo_makeHeading 9 (e := (15, .iconst 1, 1)) rfl) (by decide) (pc' := 16) rfl ?_
  refine jW.iadd (dx_Mo_makeHeading 10 (e := (16, .iadd, 1)) rfl) (pc' := 17) rfl ?_
  refine jW.callVe F (h (d + 0) _ hV) (dx_Mo_makeHeading 11 (e := (17, .invokevirtual 171, 3)) rfl) can_Mo_closeTo jw_1202 jw_1204 hV.cl rfl sel_Mo_closeTo rfl rfl (Nat.le_of_ble_eq_true rfl) (pc' := 20) rfl (fun r σ hr => ?_)
  clear hV
  refine mQ.up hr.1 ?_
  obtain ⟨_, hV, rfl, h⟩ := hr.2
  refine jW.aload_n (dx_Mo_makeHeading 12 (e := (20, .aload_n 0, 1)) rfl) rfl rfl (pc' := 21) rfl ?_
  refine jW.iload_n (dx_Mo_makeHeading 13 (e := (21, .iload_n 3, 1)) rfl) rfl rfl (pc' := 22) rfl ?_
  refine jW.callVe F (h (d + 2) _ hV) (dx_Mo_makeHeading 14 (e := (22, .invokevirtual 156, 3)) rfl) can_Mo_takeDefinitions jw_1210 jw_1212 hV.cl rfl sel_Mo_takeDefinitions rfl rfl (Nat.le_of_ble_eq_true rfl) (pc' := 25) rfl (fun r σ hr => ?_)
  clear hV
  refine mQ.up hr.1 ?_
  obtain ⟨_, hV, rfl, h⟩ := hr.2
  refine jW.aload_n (dx_Mo_makeHeading 15 (e := (25, .aload_n 0, 1)) rfl) rfl rfl (pc' := 26) rfl ?_
  refine jW.mga F hV f_Mo_makeHeading_26 (by decide) (pc' := 29) rfl ?_
  refine jW.iload_n (dx_Mo_makeHeading 17 (e := (29, .iload_n 3, 1)) rfl) rfl rfl (pc' := 30) rfl ?_
  refine jW.mla F hV (dx_Mo_makeHeading 18 (e := (30, .iaload, 1)) rfl) (by decide) rfl h.1 (pc' := 31) rfl ?_
  replace h := h.2
  refine jW.if_le (dx_Mo_makeHeading 19 (e := (31, .ifCond .le 37, 3)) rfl) 68 (by decide) (pc' := 34) rfl (fun c => ?_) (fun c => ?_)
  · replace h := h.1 c
    refine jW.aload_n (dx_Mo_makeHeading 42 (e := (68, .aload_n 0, 1)) rfl) rfl rfl (pc' := 69) rfl ?_
    refine jW.iload_n (dx_Mo_makeHeading 43 (e := (69, .iload_n 3, 1)) rfl) rfl rfl (pc' := 70) rfl ?_
    refine jW.callVe F (h (d + 6) _ hV) (dx_Mo_makeHeading 44 (e := (70, .invokevirtual 162, 3)) rfl) can_Mo_goAway jw_1292 jw_1294 hV.cl rfl sel_Mo_goAway rfl rfl (Nat.le_of_ble_eq_true rfl) (pc' := 73) rfl (fun r σ hr => ?_)
    clear hV
    refine mQ.up hr.1 ?_
    obtain ⟨_, hV, rfl, h⟩ := hr.2
    exact t_Mo_makeHeading_73 F hV h
  · replace h := h.2 c
    refine jW.aload_n (dx_Mo_makeHeading 20 (e := (34, .aload_n 0, 1)) rfl) rfl rfl (pc' := 35) rfl ?_
    refine jW.mga F hV f_Mo_makeHeading_35 (by decide) (pc' := 38) rfl ?_
    refine jW.iload_n (dx_Mo_makeHeading 22 (e := (38, .iload_n 3, 1)) rfl) rfl rfl (pc' := 39) rfl ?_
    refine jW.iconst (v := 5) (dx_Mo_makeHeading 23 (e := (39, .iconst 5, 1)) rfl) (by decide) (pc' := 40) rfl ?_
    refine jW.msa F hV (dx_Mo_makeHeading 24 (e := (40, .iastore, 1)) rfl) (by decide) rfl h.1 (pc' := 41) rfl (fun σ hV => ?_)
    replace h := h.2 _ rfl
    refine jW.aload_n (dx_Mo_makeHeading 25 (e := (41, .aload_n 0, 1)) rfl) rfl rfl (pc' := 42) rfl ?_
    refine jW.mga F hV f_Mo_makeHeading_42 (by decide) (pc' := 45) rfl ?_
    refine jW.iload_n (dx_Mo_makeHeading 27 (e := (45, .iload_n 3, 1)) rfl) rfl rfl (pc' := 46) rfl ?_
    refine jW.iload_n (dx_Mo_makeHeading 28 (e := (46, .iload_n 1, 1)) rfl) rfl rfl (pc' := 47) rfl ?_
    refine jW.msa F hV (dx_Mo_makeHeading 29 (e := (47, .iastore, 1)) rfl) (by decide) rfl h.1 (pc' := 48) rfl (fun σ hV => ?_)
    replace h := h.2 _ rfl
    refine jW.aload_n (dx_Mo_makeHeading 30 (e := (48, .aload_n 0, 1)) rfl) rfl rfl (pc' := 49) rfl ?_
    refine jW.mga F hV f_Mo_makeHeading_49 (by decide) (pc' := 52) rfl ?_
    refine jW.iload_n (dx_Mo_makeHeading 32 (e := (52, .iload_n 3, 1)) rfl) rfl rfl (pc' := 53) rfl ?_
    refine jW.iload_n (dx_Mo_makeHeading 33 (e := (53, .iload_n 2, 1)) rfl) rfl rfl (pc' := 54) rfl ?_
    refine jW.msa F hV (dx_Mo_makeHeading 34 (e := (54, .iastore, 1)) rfl) (by decide) rfl h.1 (pc' := 55) rfl (fun σ hV => ?_)
    replace h := h.2 _ rfl
    refine jW.aload_n (dx_Mo_makeHeading 35 (e := (55, .aload_n 0, 1)) rfl) rfl rfl (pc' := 56) rfl ?_
    refine jW.iload_n (dx_Mo_makeHeading 36 (e := (56, .iload_n 3, 1)) rfl) rfl rfl (pc' := 57) rfl ?_
    refine jW.callVe F (h (d + 6) _ hV) (dx_Mo_makeHeading 37 (e := (57, .invokevirtual 159, 3)) rfl) can_Mo_trimEnd jw_1288 jw_1290 hV.cl rfl sel_Mo_trimEnd rfl rfl (Nat.le_of_ble_eq_true rfl) (pc' := 60) rfl (fun r σ hr => ?_)
    clear hV
    refine mQ.up hr.1 ?_
    obtain ⟨_, hV, rfl, h⟩ := hr.2
    refine jW.aload_n (dx_Mo_makeHeading 38 (e := (60, .aload_n 0, 1)) rfl) rfl rfl (pc' := 61) rfl ?_
    refine jW.iconst (v := 1) (dx_Mo_makeHeading 39 (e := (61, .iconst 1, 1)) rfl) (by decide) (pc' := 62) rfl ?_
    refine jW.mpi F hV f_Mo_makeHeading_62 (by decide) rfl rfl rfl (pc' := 65) rfl (fun σ hV => ?_)
    replace h := h _ rfl
    refine jW.goto (dx_Mo_makeHeading 41 (e := (65, .goto 8, 3)) rfl) 73 (by decide) ?_
    exact t_Mo_makeHeading_73 F hV h
theorem g_Mo_makeHeading {X : MX} {a0 : Array Value} (F : mF X a0) {x1 x2 : Int32} {m : MS} {Φ : Option Value → MS → Prop} (he : w_Mo_makeHeading_0 X x1 x2 m Φ) : mE X 7 y_Mo_makeHeading [.ref (mo X), .int x1, .int x2] m Φ := by
  intro d σ hV
  refine jE.of (by decide) (by simp [Value.category]) (Nat.le_of_ble_eq_true rfl) rfl ?_
  exact t_Mo_makeHeading_0 F hV he
def w_Mo_isRule_34 (X : MX) (x1 x2 : Int32) (m : MS) (Φ : Option Value → MS → Prop) : Prop := Φ (some (.int (0))) m
theorem t_Mo_isRule_34 {X : MX} {a0 : Array Value} (F : mF X a0) {d : Nat} {x1 x2 : Int32} {o3 o4 o5 : Option Value} {m : MS} {σ : jS} {Φ : Option Value → MS → Prop} (hV : MV X m σ) (h : w_Mo_isRule_34 X x1 x2 m Φ) : jW X.1 X.2.1 jcl X.2.2.1 X.2.2.2.1 (d + 1) y_Mo_isRule 34 [some (.ref (mo X)), some (.int x1), some (.int x2), o3, o4, o5] [] σ (mQ X Φ σ) := by
  unfold w_Mo_isRule_34 at h
  refine jW.iconst (v := 0) (dx_Mo_isRule 19 (e := (34, .iconst 0, 1)) rfl) (by decide) (pc' := 35) rfl ?_
  exact jW.zret (dx_Mo_isRule 20 (e := (35, .ireturn, 1)) rfl) rfl (by decide) ⟨FR.rfl, _, hV, h⟩
def w_Mo_isRule_133 (X : MX) (x1 x2 x3 x4 x5 s0 : Int32) (m : MS) (Φ : Option Value → MS → Prop) : Prop := (mZ (s0) ∧ Φ (some (.int (s0))) m)
theorem t_Mo_isRule_133 {X : MX} {a0 : Array Value} (F : mF X a0) {d : Nat} {x1 x2 x3 x4 x5 s0 : Int32} {m : MS} {σ : jS} {Φ : Option Value → MS → Prop} (hV : MV X m σ) (h : w_Mo_isRule_133 X x1 x2 x3 x4 x5 s0 m Φ) : jW X.1 X.2.1 jcl X.2.2.1 X.2.2.2.1 (d + 1) y_Mo_isRule 133 [some (.ref (mo X)), some (.int x1), some (.int x2), some (.int x3), some (.int x4), some (.int x5)] [.int s0] σ (mQ X Φ σ) := by
  unfold w_Mo_isRule_133 at h
  exact jW.zret (dx_Mo_isRule 74 (e := (133, .ireturn, 1)) rfl) rfl h.1.n ⟨FR.rfl, _, hV, h.2⟩
def w_Mo_isRule_132 (X : MX) (x1 x2 x3 x4 x5 : Int32) (m : MS) (Φ : Option Value → MS → Prop) : Prop := w_Mo_isRule_133 X (x1) (x2) (x3) (x4) (x5) (0) m Φ
theorem t_Mo_isRule_132 {X : MX} {a0 : Array Value} (F : mF X a0) {d : Nat} {x1 x2 x3 x4 x5 : Int32} {m : MS} {σ : jS} {Φ : Option Value → MS → Prop} (hV : MV X m σ) (h : w_Mo_isRule_132 X x1 x2 x3 x4 x5 m Φ) : jW X.1 X.2.1 jcl X.2.2.1 X.2.2.2.1 (d + 1) y_Mo_isRule 132 [some (.ref (mo X)), some (.int x1), some (.int x2), some (.int x3), some (.int x4), some (.int x5)] [] σ (mQ X Φ σ) := by
  unfold w_Mo_isRule_132 at h
  refine jW.iconst (v := 0) (dx_Mo_isRule 73 (e := (132, .iconst 0, 1)) rfl) (by decide) (pc' := 133) rfl ?_
  exact t_Mo_isRule_133 F hV h
def w_Mo_isRule_118 (X : MX) (x1 x2 x3 x4 x5 : Int32) (m : MS) (Φ : Option Value → MS → Prop) : Prop := ((x4 = 0 → w_Mo_isRule_132 X (x1) (x2) (x3) (x4) (x5) m Φ) ∧ (¬ x4 = 0 → ((x3 ≤ 2 → w_Mo_isRule_132 X (x1) (x2) (x3) (x4) (x5) m Φ) ∧ (¬ x3 ≤ 2 → w_Mo_isRule_133 X (x1) (x2) (x3) (x4) (x5) (1) m Φ))))
theorem t_Mo_isRule_118 {X : MX} {a0 : Array Value} (F : mF X a0) {d : Nat} {x1 x2 x3 x4 x5 : Int32} {m : MS} {σ : jS} {Φ : Option Value → MS → Prop} (hV : MV X m σ) (h : w_Mo_isRule_118 X x1 x2 x3 x4 x5 m Φ) : jW X.1 X.2.1 jcl X.2.2.1 X.2.2.2.1 (d + 1) y_Mo_isRule 118 [some (.ref (mo X)), some (.int x1), some (.int x2), some (.int x3), some (.int x4), some (.int x5)] [] σ (mQ X Φ σ) := by
  unfold w_Mo_isRule_118 at h
  refine jW.iload (dx_Mo_isRule 66 (e := (118, .iload 4, 2)) rfl) rfl (pc' := 120) rfl ?_
  refine jW.if_eq (dx_Mo_isRule 67 (e := (120, .ifCond .eq 12, 3)) rfl) 132 (by decide) (pc' := 123) rfl (fun c => ?_) (fun c => ?_)
  · replace h := h.1 c
    exact t_Mo_isRule_132 F hV h
  · replace h := h.2 c
    refine jW.iload_n (dx_Mo_isRule 68 (e := (123, .iload_n 3, 1)) rfl) rfl rfl (pc' := 124) rfl ?_
    refine jW.iconst (v := 2) (dx_Mo_isRule 69 (e := (124, .iconst 2, 1)) rfl) (by decide) (pc' := 125) rfl ?_
    refine jW.icmp_le (dx_Mo_isRule 70 (e := (125, .if_icmp .le 7, 3)) rfl) 132 (by decide) (pc' := 128) rfl (fun c => ?_) (fun c => ?_)
    · replace h := h.1 c
      exact t_Mo_isRule_132 F hV h
    · replace h := h.2 c
      refine jW.iconst (v := 1) (dx_Mo_isRule 71 (e := (128, .iconst 1, 1)) rfl) (by decide) (pc' := 129) rfl ?_
      refine jW.goto (dx_Mo_isRule 72 (e := (129, .goto 4, 3)) rfl) 133 (by decide) ?_
      exact t_Mo_isRule_133 F hV h
def w_Mo_isRule_110 (X : MX) (x1 x2 x3 x4 x5 s0 s1 : Int32) (m : MS) (Φ : Option Value → MS → Prop) (K49 : Int32 → Int32 → Int32 → Int32 → Int32 → MS → Prop) : Prop := K49 (x1) (x2) (s0 + s1) (x4) (x5 + 1) m
theorem t_Mo_isRule_110 {X : MX} {a0 : Array Value} (F : mF X a0) {d : Nat} {x1 x2 x3 x4 x5 s0 s1 : Int32} {m : MS} {σ : jS} {Φ : Option Value → MS → Prop} {K49 : Int32 → Int32 → Int32 → Int32 → Int32 → MS → Prop} (hV : MV X m σ) (h : w_Mo_isRule_110 X x1 x2 x3 x4 x5 s0 s1 m Φ K49) (hK49 : ∀ (x1 x2 x3 x4 x5 : Int32) (m : MS) (σ : jS), MV X m σ → K49 x1 x2 x3 x4 x5 m → jW X.1 X.2.1 jcl X.2.2.1 X.2.2.2.1 (d + 1) y_Mo_isRule 49 [some (.ref (mo X)), some (.int x1), some (.int x2), some (.int x3), some (.int x4), some (.int x5)] [] σ (mQ X Φ σ)) : jW X.1 X.2.1 jcl X.2.2.1 X.2.2.2.1 (d + 1) y_Mo_isRule 110 [some (.ref (mo X)), some (.int x1), some (.int x2), some (.int x3), some (.int x4), some (.int x5)] [.int s1, .int s0] σ (mQ X Φ σ) := by
  unfold w_Mo_isRule_110 at h
  refine jW.iadd (dx_Mo_isRule 62 (e := (110, .iadd, 1)) rfl) (pc' := 111) rfl ?_
  refine jW.istore_n (dx_Mo_isRule 63 (e := (111, .istore_n 3, 1)) rfl) rfl (by decide) rfl (pc' := 112) rfl ?_
  refine jW.iinc (v := _ + (1)) (dx_Mo_isRule 64 (e := (112, .iinc 5 1, 3)) rfl) rfl rfl (by decide) rfl (pc' := 115) rfl ?_
  refine jW.goto (dx_Mo_isRule 65 (e := (115, .goto (-66), 3)) rfl) 49 (by decide) ?_
  exact hK49 _ _ _ _ _ _ _ hV h
def w_Mo_isRule_91 (X : MX) (x1 x2 x3 x4 x5 s0 : Int32) (m : MS) (Φ : Option Value → MS → Prop) (K49 : Int32 → Int32 → Int32 → Int32 → Int32 → MS → Prop) : Prop := (vp_in (x5) 12100 ∧ ((m.2 9 (x5 : Int32).toNatClampNeg = x2 → w_Mo_isRule_110 X (x1) (x2) (x3) (s0) (x5) (x3) (1) m Φ K49) ∧ (¬ m.2 9 (x5 : Int32).toNatClampNeg = x2 → w_Mo_isRule_110 X (x1) (x2) (x3) (s0) (x5) (x3) (0) m Φ K49)))
theorem t_Mo_isRule_91 {X : MX} {a0 : Array Value} (F : mF X a0) {d : Nat} {x1 x2 x3 x4 x5 s0 : Int32} {m : MS} {σ : jS} {Φ : Option Value → MS → Prop} {K49 : Int32 → Int32 → Int32 → Int32 → Int32 → MS → Prop} (hV : MV X m σ) (h : w_Mo_isRule_91 X x1 x2 x3 x4 x5 s0 m Φ K49) (hK49 : ∀ (x1 x2 x3 x4 x5 : Int32) (m : MS) (σ : jS), MV X m σ → K49 x1 x2 x3 x4 x5 m → jW X.1 X.2.1 jcl X.2.2.1 X.2.2.2.1 (d + 1) y_Mo_isRule 49 [some (.ref (mo X)), some (.int x1), some (.int x2), some (.int x3), some (.int x4), some (.int x5)] [] σ (mQ X Φ σ)) : jW X.1 X.2.1 jcl X.2.2.1 X.2.2.2.1 (d + 1) y_Mo_isRule 91 [some (.ref (mo X)), some (.int x1), some (.int x2), some (.int x3), some (.int x4), some (.int x5)] [.int s0] σ (mQ X Φ σ) := by
  unfold w_Mo_isRule_91 at h
  refine jW.istore (dx_Mo_isRule 51 (e := (91, .istore 4, 2)) rfl) (by decide) rfl (pc' := 93) rfl ?_
  refine jW.iload_n (dx_Mo_isRule 52 (e := (93, .iload_n 3, 1)) rfl) rfl rfl (pc' := 94) rfl ?_
  refine jW.aload_n (dx_Mo_isRule 53 (e := (94, .aload_n 0, 1)) rfl) rfl rfl (pc' := 95) rfl ?_
  refine jW.mga F hV f_Mo_isRule_95 (by decide) (pc' := 98) rfl ?_
  refine jW.iload (dx_Mo_isRule 55 (e := (98, .iload 5, 2)) rfl) rfl (pc' := 100) rfl ?_
  refine jW.mla F hV (dx_Mo_isRule 56 (e := (100, .iaload, 1)) rfl) (by decide) rfl h.1 (pc' := 101) rfl ?_
  replace h := h.2
  refine jW.iload_n (dx_Mo_isRule 57 (e := (101, .iload_n 2, 1)) rfl) rfl rfl (pc' := 102) rfl ?_
  refine jW.icmp_ne (dx_Mo_isRule 58 (e := (102, .if_icmp .ne 7, 3)) rfl) 109 (by decide) (pc' := 105) rfl (fun c => ?_) (fun c => ?_)
  · replace h := h.2 c
    refine jW.iconst (v := 0) (dx_Mo_isRule 61 (e := (109, .iconst 0, 1)) rfl) (by decide) (pc' := 110) rfl ?_
    exact t_Mo_isRule_110 F hV h hK49
  · replace h := h.1 c
    refine jW.iconst (v := 1) (dx_Mo_isRule 59 (e := (105, .iconst 1, 1)) rfl) (by decide) (pc' := 106) rfl ?_
    refine jW.goto (dx_Mo_isRule 60 (e := (106, .goto 4, 3)) rfl) 110 (by decide) ?_
    exact t_Mo_isRule_110 F hV h hK49
def w_Mo_isRule_86 (X : MX) (x1 x2 x3 x4 x5 : Int32) (m : MS) (Φ : Option Value → MS → Prop) (K49 : Int32 → Int32 → Int32 → Int32 → Int32 → MS → Prop) : Prop := w_Mo_isRule_91 X (x1) (x2) (x3) (x4) (x5) (1) m Φ K49
theorem t_Mo_isRule_86 {X : MX} {a0 : Array Value} (F : mF X a0) {d : Nat} {x1 x2 x3 x4 x5 : Int32} {m : MS} {σ : jS} {Φ : Option Value → MS → Prop} {K49 : Int32 → Int32 → Int32 → Int32 → Int32 → MS → Prop} (hV : MV X m σ) (h : w_Mo_isRule_86 X x1 x2 x3 x4 x5 m Φ K49) (hK49 : ∀ (x1 x2 x3 x4 x5 : Int32) (m : MS) (σ : jS), MV X m σ → K49 x1 x2 x3 x4 x5 m → jW X.1 X.2.1 jcl X.2.2.1 X.2.2.2.1 (d + 1) y_Mo_isRule 49 [some (.ref (mo X)), some (.int x1), some (.int x2), some (.int x3), some (.int x4), some (.int x5)] [] σ (mQ X Φ σ)) : jW X.1 X.2.1 jcl X.2.2.1 X.2.2.2.1 (d + 1) y_Mo_isRule 86 [some (.ref (mo X)), some (.int x1), some (.int x2), some (.int x3), some (.int x4), some (.int x5)] [] σ (mQ X Φ σ) := by
  unfold w_Mo_isRule_86 at h
  refine jW.iconst (v := 1) (dx_Mo_isRule 48 (e := (86, .iconst 1, 1)) rfl) (by decide) (pc' := 87) rfl ?_
  refine jW.goto (dx_Mo_isRule 49 (e := (87, .goto 4, 3)) rfl) 91 (by decide) ?_
  exact t_Mo_isRule_91 F hV h hK49
def w_Mo_isRule_49 (X : MX) (x1 x2 x3 x4 x5 : Int32) (m : MS) (Φ : Option Value → MS → Prop) (K49 : Int32 → Int32 → Int32 → Int32 → Int32 → MS → Prop) : Prop := ((m.1 12 ≤ x5 → w_Mo_isRule_118 X (x1) (x2) (x3) (x4) (x5) m Φ) ∧ (¬ m.1 12 ≤ x5 → ((x4 = 0 → w_Mo_isRule_118 X (x1) (x2) (x3) (x4) (x5) m Φ) ∧ (¬ x4 = 0 → (vp_in (x5) 12100 ∧ ((m.2 9 (x5 : Int32).toNatClampNeg = x2 → w_Mo_isRule_86 X (x1) (x2) (x3) (x4) (x5) m Φ K49) ∧ (¬ m.2 9 (x5 : Int32).toNatClampNeg = x2 → (vp_in (x5) 12100 ∧ ((m.2 9 (x5 : Int32).toNatClampNeg = 32 → w_Mo_isRule_86 X (x1) (x2) (x3) (x4) (x5) m Φ K49) ∧ (¬ m.2 9 (x5 : Int32).toNatClampNeg = 32 → w_Mo_isRule_91 X (x1) (x2) (x3) (x4) (x5) (0) m Φ K49))))))))))
theorem t_Mo_isRule_49 {X : MX} {a0 : Array Value} (F : mF X a0) {d : Nat} {x1 x2 x3 x4 x5 : Int32} {m : MS} {σ : jS} {Φ : Option Value → MS → Prop} {K49 : Int32 → Int32 → Int32 → Int32 → Int32 → MS → Prop} (hV : MV X m σ) (h : w_Mo_isRule_49 X x1 x2 x3 x4 x5 m Φ K49) (hK49 : ∀ (x1 x2 x3 x4 x5 : Int32) (m : MS) (σ : jS), MV X m σ → K49 x1 x2 x3 x4 x5 m → jW X.1 X.2.1 jcl X.2.2.1 X.2.2.2.1 (d + 1) y_Mo_isRule 49 [some (.ref (mo X)), some (.int x1), some (.int x2), some (.int x3), some (.int x4), some (.int x5)] [] σ (mQ X Φ σ)) : jW X.1 X.2.1 jcl X.2.2.1 X.2.2.2.1 (d + 1) y_Mo_isRule 49 [some (.ref (mo X)), some (.int x1), some (.int x2), some (.int x3), some (.int x4), some (.int x5)] [] σ (mQ X Φ σ) := by
  unfold w_Mo_isRule_49 at h
  refine jW.iload (dx_Mo_isRule 30 (e := (49, .iload 5, 2)) rfl) rfl (pc' := 51) rfl ?_
  refine jW.aload_n (dx_Mo_isRule 31 (e := (51, .aload_n 0, 1)) rfl) rfl rfl (pc' := 52) rfl ?_
  refine jW.mgi F hV f_Mo_isRule_52 (by decide) (pc' := 55) rfl ?_
  refine jW.icmp_ge (dx_Mo_isRule 33 (e := (55, .if_icmp .ge 63, 3)) rfl) 118 (by decide) (pc' := 58) rfl (fun c => ?_) (fun c => ?_)
  · replace h := h.1 c
    exact t_Mo_isRule_118 F hV h
  · replace h := h.2 c
    refine jW.iload (dx_Mo_isRule 34 (e := (58, .iload 4, 2)) rfl) rfl (pc' := 60) rfl ?_
    refine jW.if_eq (dx_Mo_isRule 35 (e := (60, .ifCond .eq 58, 3)) rfl) 118 (by decide) (pc' := 63) rfl (fun c => ?_) (fun c => ?_)
    · replace h := h.1 c
      exact t_Mo_isRule_118 F hV h
    · replace h := h.2 c
      refine jW.aload_n (dx_Mo_isRule 36 (e := (63, .aload_n 0, 1)) rfl) rfl rfl (pc' := 64) rfl ?_
      refine jW.mga F hV f_Mo_isRule_64 (by decide) (pc' := 67) rfl ?_
      refine jW.iload (dx_Mo_isRule 38 (e := (67, .iload 5, 2)) rfl) rfl (pc' := 69) rfl ?_
      refine jW.mla F hV (dx_Mo_isRule 39 (e := (69, .iaload, 1)) rfl) (by decide) rfl h.1 (pc' := 70) rfl ?_
      replace h := h.2
      refine jW.iload_n (dx_Mo_isRule 40 (e := (70, .iload_n 2, 1)) rfl) rfl rfl (pc' := 71) rfl ?_
      refine jW.icmp_eq (dx_Mo_isRule 41 (e := (71, .if_icmp .eq 15, 3)) rfl) 86 (by decide) (pc' := 74) rfl (fun c => ?_) (fun c => ?_)
      · replace h := h.1 c
        exact t_Mo_isRule_86 F hV h hK49
      · replace h := h.2 c
        refine jW.aload_n (dx_Mo_isRule 42 (e := (74, .aload_n 0, 1)) rfl) rfl rfl (pc' := 75) rfl ?_
        refine jW.mga F hV f_Mo_isRule_75 (by decide) (pc' := 78) rfl ?_
        refine jW.iload (dx_Mo_isRule 44 (e := (78, .iload 5, 2)) rfl) rfl (pc' := 80) rfl ?_
        refine jW.mla F hV (dx_Mo_isRule 45 (e := (80, .iaload, 1)) rfl) (by decide) rfl h.1 (pc' := 81) rfl ?_
        replace h := h.2
        refine jW.bipush (v := 32) (dx_Mo_isRule 46 (e := (81, .bipush 32, 2)) rfl) (by decide) (pc' := 83) rfl ?_
        refine jW.icmp_ne (dx_Mo_isRule 47 (e := (83, .if_icmp .ne 7, 3)) rfl) 90 (by decide) (pc' := 86) rfl (fun c => ?_) (fun c => ?_)
        · replace h := h.2 c
          refine jW.iconst (v := 0) (dx_Mo_isRule 50 (e := (90, .iconst 0, 1)) rfl) (by decide) (pc' := 91) rfl ?_
          exact t_Mo_isRule_91 F hV h hK49
        · replace h := h.1 c
          exact t_Mo_isRule_86 F hV h hK49
def w_Mo_isRule_36 (X : MX) (x1 x2 : Int32) (m : MS) (Φ : Option Value → MS → Prop) (K49 : Int32 → Int32 → Int32 → Int32 → Int32 → MS → Prop) : Prop := K49 (x1) (x2) (0) (1) ((m.1 31) + x1) m
theorem t_Mo_isRule_36 {X : MX} {a0 : Array Value} (F : mF X a0) {d : Nat} {x1 x2 : Int32} {o3 o4 o5 : Option Value} {m : MS} {σ : jS} {Φ : Option Value → MS → Prop} {K49 : Int32 → Int32 → Int32 → Int32 → Int32 → MS → Prop} (hV : MV X m σ) (h : w_Mo_isRule_36 X x1 x2 m Φ K49) (hK49 : ∀ (x1 x2 x3 x4 x5 : Int32) (m : MS) (σ : jS), MV X m σ → K49 x1 x2 x3 x4 x5 m → jW X.1 X.2.1 jcl X.2.2.1 X.2.2.2.1 (d + 1) y_Mo_isRule 49 [some (.ref (mo X)), some (.int x1), some (.int x2), some (.int x3), some (.int x4), some (.int x5)] [] σ (mQ X Φ σ)) : jW X.1 X.2.1 jcl X.2.2.1 X.2.2.2.1 (d + 1) y_Mo_isRule 36 [some (.ref (mo X)), some (.int x1), some (.int x2), o3, o4, o5] [] σ (mQ X Φ σ) := by
  unfold w_Mo_isRule_36 at h
  refine jW.iconst (v := 0) (dx_Mo_isRule 21 (e := (36, .iconst 0, 1)) rfl) (by decide) (pc' := 37) rfl ?_
  refine jW.istore_n (dx_Mo_isRule 22 (e := (37, .istore_n 3, 1)) rfl) rfl (by decide) rfl (pc' := 38) rfl ?_
  refine jW.iconst (v := 1) (dx_Mo_isRule 23 (e := (38, .iconst 1, 1)) rfl) (by decide) (pc' := 39) rfl ?_
  refine jW.istore (dx_Mo_isRule 24 (e := (39, .istore 4, 2)) rfl) (by decide) rfl (pc' := 41) rfl ?_
  refine jW.aload_n (dx_Mo_isRule 25 (e := (41, .aload_n 0, 1)) rfl) rfl rfl (pc' := 42) rfl ?_
  refine jW.mgi F hV f_Mo_isRule_42 (by decide) (pc' := 45) rfl ?_
  refine jW.iload_n (dx_Mo_isRule 27 (e := (45, .iload_n 1, 1)) rfl) rfl rfl (pc' := 46) rfl ?_
  refine jW.iadd (dx_Mo_isRule 28 (e := (46, .iadd, 1)) rfl) (pc' := 47) rfl ?_
  refine jW.istore (dx_Mo_isRule 29 (e := (47, .istore 5, 2)) rfl) (by decide) rfl (pc' := 49) rfl ?_
  exact hK49 _ _ _ _ _ _ _ hV h
def w_Mo_isRule_0 (X : MX) (x1 : Int32) (m : MS) (Φ : Option Value → MS → Prop) (K49 : Int32 → Int32 → Int32 → Int32 → Int32 → MS → Prop) : Prop := mE X 0 y_Mo_at [.ref (mo X), .int ((m.1 31) + x1)] m (iP fun r1 m1 => ((3 < x1 → w_Mo_isRule_34 X (x1) (r1) m1 Φ) ∧ (¬ 3 < x1 → ((r1 = 42 → w_Mo_isRule_36 X (x1) (r1) m1 Φ K49) ∧ (¬ r1 = 42 → ((r1 = 45 → w_Mo_isRule_36 X (x1) (r1) m1 Φ K49) ∧ (¬ r1 = 45 → ((r1 = 95 → w_Mo_isRule_36 X (x1) (r1) m1 Φ K49) ∧ (¬ r1 = 95 → w_Mo_isRule_34 X (x1) (r1) m1 Φ)))))))))
theorem t_Mo_isRule_0 {X : MX} {a0 : Array Value} (F : mF X a0) {d : Nat} {x1 : Int32} {o2 o3 o4 o5 : Option Value} {m : MS} {σ : jS} {Φ : Option Value → MS → Prop} {K49 : Int32 → Int32 → Int32 → Int32 → Int32 → MS → Prop} (hV : MV X m σ) (h : w_Mo_isRule_0 X x1 m Φ K49) (hK49 : ∀ (x1 x2 x3 x4 x5 : Int32) (m : MS) (σ : jS), MV X m σ → K49 x1 x2 x3 x4 x5 m → jW X.1 X.2.1 jcl X.2.2.1 X.2.2.2.1 (d + 1) y_Mo_isRule 49 [some (.ref (mo X)), some (.int x1), some (.int x2), some (.int x3), some (.int x4), some (.int x5)] [] σ (mQ X Φ σ)) : jW X.1 X.2.1 jcl X.2.2.1 X.2.2.2.1 (d + 1) y_Mo_isRule 0 [some (.ref (mo X)), some (.int x1), o2, o3, o4, o5] [] σ (mQ X Φ σ) := by
  unfold w_Mo_isRule_0 at h
  refine jW.aload_n (dx_Mo_isRule 0 (e := (0, .aload_n 0, 1)) rfl) rfl rfl (pc' := 1) rfl ?_
  refine jW.aload_n (dx_Mo_isRule 1 (e := (1, .aload_n 0, 1)) rfl) rfl rfl (pc' := 2) rfl ?_
  refine jW.mgi F hV f_Mo_isRule_2 (by decide) (pc' := 5) rfl ?_
  refine jW.iload_n (dx_Mo_isRule 3 (e := (5, .iload_n 1, 1)) rfl) rfl rfl (pc' := 6) rfl ?_
  refine jW.iadd (dx_Mo_isRule 4 (e := (6, .iadd, 1)) rfl) (pc' := 7) rfl ?_
  refine jW.callVe F (h (d + 0) _ hV) (dx_Mo_isRule 5 (e := (7, .invokevirtual 129, 3)) rfl) can_Mo_at jw_1194 jw_1196 hV.cl rfl sel_Mo_at rfl rfl (Nat.le_of_ble_eq_true rfl) (pc' := 10) rfl (fun r σ hr => ?_)
  clear hV
  refine mQ.up hr.1 ?_
  obtain ⟨_, hV, _, rfl, h⟩ := hr.2
  refine jW.istore_n (dx_Mo_isRule 6 (e := (10, .istore_n 2, 1)) rfl) rfl (by decide) rfl (pc' := 11) rfl ?_
  refine jW.iload_n (dx_Mo_isRule 7 (e := (11, .iload_n 1, 1)) rfl) rfl rfl (pc' := 12) rfl ?_
  refine jW.iconst (v := 3) (dx_Mo_isRule 8 (e := (12, .iconst 3, 1)) rfl) (by decide) (pc' := 13) rfl ?_
  refine jW.icmp_gt (dx_Mo_isRule 9 (e := (13, .if_icmp .gt 21, 3)) rfl) 34 (by decide) (pc' := 16) rfl (fun c => ?_) (fun c => ?_)
  · replace h := h.1 c
    exact t_Mo_isRule_34 F hV h
  · replace h := h.2 c
    refine jW.iload_n (dx_Mo_isRule 10 (e := (16, .iload_n 2, 1)) rfl) rfl rfl (pc' := 17) rfl ?_
    refine jW.bipush (v := 42) (dx_Mo_isRule 11 (e := (17, .bipush 42, 2)) rfl) (by decide) (pc' := 19) rfl ?_
    refine jW.icmp_eq (dx_Mo_isRule 12 (e := (19, .if_icmp .eq 17, 3)) rfl) 36 (by decide) (pc' := 22) rfl (fun c => ?_) (fun c => ?_)
    · replace h := h.1 c
      exact t_Mo_isRule_36 F hV h hK49
    · replace h := h.2 c
      refine jW.iload_n (dx_Mo_isRule 13 (e := (22, .iload_n 2, 1)) rfl) rfl rfl (pc' := 23) rfl ?_
      refine jW.bipush (v := 45) (dx_Mo_isRule 14 (e := (23, .bipush 45, 2)) rfl) (by decide) (pc' := 25) rfl ?_
      refine jW.icmp_eq (dx_Mo_isRule 15 (e := (25, .if_icmp .eq 11, 3)) rfl) 36 (by decide) (pc' := 28) rfl (fun c => ?_) (fun c => ?_)
      · replace h := h.1 c
        exact t_Mo_isRule_36 F hV h hK49
      · replace h := h.2 c
        refine jW.iload_n (dx_Mo_isRule 16 (e := (28, .iload_n 2, 1)) rfl) rfl rfl (pc' := 29) rfl ?_
        refine jW.bipush (v := 95) (dx_Mo_isRule 17 (e := (29, .bipush 95, 2)) rfl) (by decide) (pc' := 31) rfl ?_
        refine jW.icmp_eq (dx_Mo_isRule 18 (e := (31, .if_icmp .eq 5, 3)) rfl) 36 (by decide) (pc' := 34) rfl (fun c => ?_) (fun c => ?_)
        · replace h := h.1 c
          exact t_Mo_isRule_36 F hV h hK49
        · replace h := h.2 c
          exact t_Mo_isRule_34 F hV h
theorem g_Mo_isRule {X : MX} {a0 : Array Value} (F : mF X a0) {x1 : Int32} {m : MS} {Φ : Option Value → MS → Prop} {I49 : Nat → Int32 → Int32 → Int32 → Int32 → Int32 → MS → Prop} (he : w_Mo_isRule_0 X x1 m Φ (fun x1 x2 x3 x4 x5 m => ∃ j, I49 j x1 x2 x3 x4 x5 m)) (h49 : ∀ (n : Nat) (x1 x2 x3 x4 x5 : Int32) (m : MS), I49 n x1 x2 x3 x4 x5 m → w_Mo_isRule_49 X x1 x2 x3 x4 x5 m Φ (fun x1 x2 x3 x4 x5 m => ∃ j, j < n ∧ I49 j x1 x2 x3 x4 x5 m)) : mE X 1 y_Mo_isRule [.ref (mo X), .int x1] m Φ := by
  intro d σ hV
  have hL49 : ∀ n, (∀ (x1 x2 x3 x4 x5 : Int32) (m : MS) (σ : jS), MV X m σ → I49 n x1 x2 x3 x4 x5 m → jW X.1 X.2.1 jcl X.2.2.1 X.2.2.2.1 (d + 1) y_Mo_isRule 49 [some (.ref (mo X)), some (.int x1), some (.int x2), some (.int x3), some (.int x4), some (.int x5)] [] σ (mQ X Φ σ)) := by
    intro n
    induction n using Nat.strongRecOn with
    | _ n ih =>
      exact fun x1 x2 x3 x4 x5 m σ hV hI => t_Mo_isRule_49 F hV (h49 n x1 x2 x3 x4 x5 m hI) (fun x1 x2 x3 x4 x5 m σ hV ⟨j, hj, hI⟩ => (ih j hj) x1 x2 x3 x4 x5 m σ hV hI)
  refine jE.of (by decide) (by simp [Value.category]) (Nat.le_of_ble_eq_true rfl) rfl ?_
  exact t_Mo_isRule_0 F hV he (fun x1 x2 x3 x4 x5 m σ hV ⟨j, hI⟩ => (hL49 j) x1 x2 x3 x4 x5 m σ hV hI)
def w_Mo_mark_244 (X : MX) (x1 x2 x3 x4 : Int32) (m : MS) (Φ : Option Value → MS → Prop) : Prop := Φ (some (.int (x4))) m
theorem t_Mo_mark_244 {X : MX} {a0 : Array Value} (F : mF X a0) {d : Nat} {x1 x2 x3 x4 : Int32} {m : MS} {σ : jS} {Φ : Option Value → MS → Prop} (hV : MV X m σ) (h : w_Mo_mark_244 X x1 x2 x3 x4 m Φ) : jW X.1 X.2.1 jcl X.2.2.1 X.2.2.2.1 (d + 1) y_Mo_mark 244 [some (.ref (mo X)), some (.int x1), some (.int x2), some (.int x3), some (.int x4)] [] σ (mQ X Φ σ) := by
  unfold w_Mo_mark_244 at h
  refine jW.iload (dx_Mo_mark 132 (e := (244, .iload 4, 2)) rfl) rfl (pc' := 246) rfl ?_
  exact jW.iret (dx_Mo_mark 133 (e := (246, .ireturn, 1)) rfl) rfl ⟨FR.rfl, _, hV, h⟩
def w_Mo_mark_242 (X : MX) (x1 x2 x3 x4 : Int32) (m : MS) (Φ : Option Value → MS → Prop) : Prop := Φ (some (.int (0))) m
theorem t_Mo_mark_242 {X : MX} {a0 : Array Value} (F : mF X a0) {d : Nat} {x1 x2 x3 x4 : Int32} {m : MS} {σ : jS} {Φ : Option Value → MS → Prop} (hV : MV X m σ) (h : w_Mo_mark_242 X x1 x2 x3 x4 m Φ) : jW X.1 X.2.1 jcl X.2.2.1 X.2.2.2.1 (d + 1) y_Mo_mark 242 [some (.ref (mo X)), some (.int x1), some (.int x2), some (.int x3), some (.int x4)] [] σ (mQ X Φ σ) := by
  unfold w_Mo_mark_242 at h
  refine jW.iconst (v := 0) (dx_Mo_mark 130 (e := (242, .iconst 0, 1)) rfl) (by decide) (pc' := 243) rfl ?_
  exact jW.iret (dx_Mo_mark 131 (e := (243, .ireturn, 1)) rfl) rfl ⟨FR.rfl, _, hV, h⟩
def w_Mo_mark_198 (X : MX) (x1 x2 x3 x4 : Int32) (m : MS) (Φ : Option Value → MS → Prop) : Prop := (vp_in (m.1 32) 40 ∧ (vp_in (m.2 29 (m.1 32 : Int32).toNatClampNeg) 3300 ∧ ((m.2 13 (m.2 29 (m.1 32 : Int32).toNatClampNeg : Int32).toNatClampNeg = 4 → mE X 0 y_Mo_isBlank [.ref (mo X), .int (x2 + x4)] m (iP fun r1 m1 => ((r1 = 0 → mE X 0 y_Mo_isDigit [.int (x3)] m1 (iP fun r2 m2 => ((r2 = 0 → w_Mo_mark_244 X (x1) (x2) (x3) (x4) m2 Φ) ∧ (¬ r2 = 0 → ((m2.1 36 = 1 → w_Mo_mark_244 X (x1) (x2) (x3) (x4) m2 Φ) ∧ (¬ m2.1 36 = 1 → w_Mo_mark_242 X (x1) (x2) (x3) (x4) m2 Φ)))))) ∧ (¬ r1 = 0 → w_Mo_mark_242 X (x1) (x2) (x3) (x4) m1 Φ)))) ∧ (¬ m.2 13 (m.2 29 (m.1 32 : Int32).toNatClampNeg : Int32).toNatClampNeg = 4 → w_Mo_mark_244 X (x1) (x2) (x3) (x4) m Φ))))
theorem t_Mo_mark_198 {X : MX} {a0 : Array Value} (F : mF X a0) {d : Nat} {x1 x2 x3 x4 : Int32} {m : MS} {σ : jS} {Φ : Option Value → MS → Prop} (hV : MV X m σ) (h : w_Mo_mark_198 X x1 x2 x3 x4 m Φ) : jW X.1 X.2.1 jcl X.2.2.1 X.2.2.2.1 (d + 1) y_Mo_mark 198 [some (.ref (mo X)), some (.int x1), some (.int x2), some (.int x3), some (.int x4)] [] σ (mQ X Φ σ) := by
  unfold w_Mo_mark_198 at h
  refine jW.aload_n (dx_Mo_mark 107 (e := (198, .aload_n 0, 1)) rfl) rfl rfl (pc' := 199) rfl ?_
  refine jW.mga F hV f_Mo_mark_199 (by decide) (pc' := 202) rfl ?_
  refine jW.aload_n (dx_Mo_mark 109 (e := (202, .aload_n 0, 1)) rfl) rfl rfl (pc' := 203) rfl ?_
  refine jW.mga F hV f_Mo_mark_203 (by decide) (pc' := 206) rfl ?_
  refine jW.aload_n (dx_Mo_mark 111 (e := (206, .aload_n 0, 1)) rfl) rfl rfl (pc' := 207) rfl ?_
  refine jW.mgi F hV f_Mo_mark_207 (by decide) (pc' := 210) rfl ?_
  refine jW.mla F hV (dx_Mo_mark 113 (e := (210, .iaload, 1)) rfl) (by decide) rfl h.1 (pc' := 211) rfl ?_
  replace h := h.2
  refine jW.mla F hV (dx_Mo_mark 114 (e := (211, .iaload, 1)) rfl) (by decide) rfl h.1 (pc' := 212) rfl ?_
  replace h := h.2
  refine jW.iconst (v := 4) (dx_Mo_mark 115 (e := (212, .iconst 4, 1)) rfl) (by decide) (pc' := 213) rfl ?_
  refine jW.icmp_ne (dx_Mo_mark 116 (e := (213, .if_icmp .ne 31, 3)) rfl) 244 (by decide) (pc' := 216) rfl (fun c => ?_) (fun c => ?_)
  · replace h := h.2 c
    exact t_Mo_mark_244 F hV h
  · replace h := h.1 c
    refine jW.aload_n (dx_Mo_mark 117 (e := (216, .aload_n 0, 1)) rfl) rfl rfl (pc' := 217) rfl ?_
    refine jW.iload_n (dx_Mo_mark 118 (e := (217, .iload_n 2, 1)) rfl) rfl rfl (pc' := 218) rfl ?_
    refine jW.iload (dx_Mo_mark 119 (e := (218, .iload 4, 2)) rfl) rfl (pc' := 220) rfl ?_
    refine jW.iadd (dx_Mo_mark 120 (e := (220, .iadd, 1)) rfl) (pc' := 221) rfl ?_
    refine jW.callVe F (h (d + 0) _ hV) (dx_Mo_mark 121 (e := (221, .invokevirtual 137, 3)) rfl) can_Mo_isBlank jw_1190 jw_1192 hV.cl rfl sel_Mo_isBlank rfl rfl (Nat.le_of_ble_eq_true rfl) (pc' := 224) rfl (fun r σ hr => ?_)
    clear hV
    refine mQ.up hr.1 ?_
    obtain ⟨_, hV, _, rfl, h⟩ := hr.2
    refine jW.if_ne (dx_Mo_mark 122 (e := (224, .ifCond .ne 18, 3)) rfl) 242 (by decide) (pc' := 227) rfl (fun c => ?_) (fun c => ?_)
    · replace h := h.2 c
      exact t_Mo_mark_242 F hV h
    · replace h := h.1 c
      refine jW.iload_n (dx_Mo_mark 123 (e := (227, .iload_n 3, 1)) rfl) rfl rfl (pc' := 228) rfl ?_
      refine jW.callS F (h (d + 0) _ hV) (dx_Mo_mark 124 (e := (228, .invokestatic 201, 3)) rfl) can_Mo_isDigit jw_1266 jw_1267 rfl rfl (Nat.le_of_ble_eq_true rfl) (pc' := 231) rfl (fun r σ hr => ?_)
      clear hV
      refine mQ.up hr.1 ?_
      obtain ⟨_, hV, _, rfl, h⟩ := hr.2
      refine jW.if_eq (dx_Mo_mark 125 (e := (231, .ifCond .eq 13, 3)) rfl) 244 (by decide) (pc' := 234) rfl (fun c => ?_) (fun c => ?_)
      · replace h := h.1 c
        exact t_Mo_mark_244 F hV h
      · replace h := h.2 c
        refine jW.aload_n (dx_Mo_mark 126 (e := (234, .aload_n 0, 1)) rfl) rfl rfl (pc' := 235) rfl ?_
        refine jW.mgi F hV f_Mo_mark_235 (by decide) (pc' := 238) rfl ?_
        refine jW.iconst (v := 1) (dx_Mo_mark 128 (e := (238, .iconst 1, 1)) rfl) (by decide) (pc' := 239) rfl ?_
        refine jW.icmp_eq (dx_Mo_mark 129 (e := (239, .if_icmp .eq 5, 3)) rfl) 244 (by decide) (pc' := 242) rfl (fun c => ?_) (fun c => ?_)
        · replace h := h.1 c
          exact t_Mo_mark_244 F hV h
        · replace h := h.2 c
          exact t_Mo_mark_242 F hV h
def w_Mo_mark_172 (X : MX) (x1 x2 x3 x4 : Int32) (m : MS) (Φ : Option Value → MS → Prop) : Prop := ((m.1 12 ≤ x2 + x4 → w_Mo_mark_198 X (x1) (x2) (x3) (x4) m Φ) ∧ (¬ m.1 12 ≤ x2 + x4 → mE X 0 y_Mo_at [.ref (mo X), .int (x2 + x4)] m (iP fun r1 m1 => ((r1 = 32 → w_Mo_mark_198 X (x1) (x2) (x3) (x4) m1 Φ) ∧ (¬ r1 = 32 → Φ (some (.int (0))) m1)))))
theorem t_Mo_mark_172 {X : MX} {a0 : Array Value} (F : mF X a0) {d : Nat} {x1 x2 x3 x4 : Int32} {m : MS} {σ : jS} {Φ : Option Value → MS → Prop} (hV : MV X m σ) (h : w_Mo_mark_172 X x1 x2 x3 x4 m Φ) : jW X.1 X.2.1 jcl X.2.2.1 X.2.2.2.1 (d + 1) y_Mo_mark 172 [some (.ref (mo X)), some (.int x1), some (.int x2), some (.int x3), some (.int x4)] [] σ (mQ X Φ σ) := by
  unfold w_Mo_mark_172 at h
  refine jW.iload_n (dx_Mo_mark 92 (e := (172, .iload_n 2, 1)) rfl) rfl rfl (pc' := 173) rfl ?_
  refine jW.iload (dx_Mo_mark 93 (e := (173, .iload 4, 2)) rfl) rfl (pc' := 175) rfl ?_
  refine jW.iadd (dx_Mo_mark 94 (e := (175, .iadd, 1)) rfl) (pc' := 176) rfl ?_
  refine jW.aload_n (dx_Mo_mark 95 (e := (176, .aload_n 0, 1)) rfl) rfl rfl (pc' := 177) rfl ?_
  refine jW.mgi F hV f_Mo_mark_177 (by decide) (pc' := 180) rfl ?_
  refine jW.icmp_ge (dx_Mo_mark 97 (e := (180, .if_icmp .ge 18, 3)) rfl) 198 (by decide) (pc' := 183) rfl (fun c => ?_) (fun c => ?_)
  · replace h := h.1 c
    exact t_Mo_mark_198 F hV h
  · replace h := h.2 c
    refine jW.aload_n (dx_Mo_mark 98 (e := (183, .aload_n 0, 1)) rfl) rfl rfl (pc' := 184) rfl ?_
    refine jW.iload_n (dx_Mo_mark 99 (e := (184, .iload_n 2, 1)) rfl) rfl rfl (pc' := 185) rfl ?_
    refine jW.iload (dx_Mo_mark 100 (e := (185, .iload 4, 2)) rfl) rfl (pc' := 187) rfl ?_
    refine jW.iadd (dx_Mo_mark 101 (e := (187, .iadd, 1)) rfl) (pc' := 188) rfl ?_
    refine jW.callVe F (h (d + 0) _ hV) (dx_Mo_mark 102 (e := (188, .invokevirtual 129, 3)) rfl) can_Mo_at jw_1194 jw_1196 hV.cl rfl sel_Mo_at rfl rfl (Nat.le_of_ble_eq_true rfl) (pc' := 191) rfl (fun r σ hr => ?_)
    clear hV
    refine mQ.up hr.1 ?_
    obtain ⟨_, hV, _, rfl, h⟩ := hr.2
    refine jW.bipush (v := 32) (dx_Mo_mark 103 (e := (191, .bipush 32, 2)) rfl) (by decide) (pc' := 193) rfl ?_
    refine jW.icmp_eq (dx_Mo_mark 104 (e := (193, .if_icmp .eq 5, 3)) rfl) 198 (by decide) (pc' := 196) rfl (fun c => ?_) (fun c => ?_)
    · replace h := h.1 c
      exact t_Mo_mark_198 F hV h
    · replace h := h.2 c
      refine jW.iconst (v := 0) (dx_Mo_mark 105 (e := (196, .iconst 0, 1)) rfl) (by decide) (pc' := 197) rfl ?_
      exact jW.iret (dx_Mo_mark 106 (e := (197, .ireturn, 1)) rfl) rfl ⟨FR.rfl, _, hV, h⟩
def w_Mo_mark_144 (X : MX) (x1 x2 x3 x4 : Int32) (m : MS) (Φ : Option Value → MS → Prop) : Prop := Φ (some (.int (0))) m
theorem t_Mo_mark_144 {X : MX} {a0 : Array Value} (F : mF X a0) {d : Nat} {x1 x2 x3 x4 : Int32} {m : MS} {σ : jS} {Φ : Option Value → MS → Prop} (hV : MV X m σ) (h : w_Mo_mark_144 X x1 x2 x3 x4 m Φ) : jW X.1 X.2.1 jcl X.2.2.1 X.2.2.2.1 (d + 1) y_Mo_mark 144 [some (.ref (mo X)), some (.int x1), some (.int x2), some (.int x3), some (.int x4)] [] σ (mQ X Φ σ) := by
  unfold w_Mo_mark_144 at h
  refine jW.iconst (v := 0) (dx_Mo_mark 77 (e := (144, .iconst 0, 1)) rfl) (by decide) (pc' := 145) rfl ?_
  exact jW.iret (dx_Mo_mark 78 (e := (145, .ireturn, 1)) rfl) rfl ⟨FR.rfl, _, hV, h⟩
def w_Mo_mark_146 (X : MX) (x1 x2 x3 x4 : Int32) (m : MS) (Φ : Option Value → MS → Prop) : Prop := w_Mo_mark_172 X (x1) (x2) (x3) (x4 + 1) m Φ
theorem t_Mo_mark_146 {X : MX} {a0 : Array Value} (F : mF X a0) {d : Nat} {x1 x2 x3 x4 : Int32} {m : MS} {σ : jS} {Φ : Option Value → MS → Prop} (hV : MV X m σ) (h : w_Mo_mark_146 X x1 x2 x3 x4 m Φ) : jW X.1 X.2.1 jcl X.2.2.1 X.2.2.2.1 (d + 1) y_Mo_mark 146 [some (.ref (mo X)), some (.int x1), some (.int x2), some (.int x3), some (.int x4)] [] σ (mQ X Φ σ) := by
  unfold w_Mo_mark_146 at h
  refine jW.iinc (v := _ + (1)) (dx_Mo_mark 79 (e := (146, .iinc 4 1, 3)) rfl) rfl rfl (by decide) rfl (pc' := 149) rfl ?_
  refine jW.goto (dx_Mo_mark 80 (e := (149, .goto 23, 3)) rfl) 172 (by decide) ?_
  exact t_Mo_mark_172 F hV h
def w_Mo_mark_107 (X : MX) (x1 x2 x3 x4 : Int32) (m : MS) (Φ : Option Value → MS → Prop) : Prop := mE X 0 y_Mo_at [.ref (mo X), .int (x2 + x4)] m (iP fun r1 m1 => ∀ m2, m2 = mI m1 35 (r1) → ((9 < x4 → w_Mo_mark_144 X (x1) (x2) (x3) (x4) m2 Φ) ∧ (¬ 9 < x4 → ((m2.1 35 = 46 → w_Mo_mark_146 X (x1) (x2) (x3) (x4) m2 Φ) ∧ (¬ m2.1 35 = 46 → ((m2.1 35 = 41 → w_Mo_mark_146 X (x1) (x2) (x3) (x4) m2 Φ) ∧ (¬ m2.1 35 = 41 → w_Mo_mark_144 X (x1) (x2) (x3) (x4) m2 Φ)))))))
theorem t_Mo_mark_107 {X : MX} {a0 : Array Value} (F : mF X a0) {d : Nat} {x1 x2 x3 x4 : Int32} {m : MS} {σ : jS} {Φ : Option Value → MS → Prop} (hV : MV X m σ) (h : w_Mo_mark_107 X x1 x2 x3 x4 m Φ) : jW X.1 X.2.1 jcl X.2.2.1 X.2.2.2.1 (d + 1) y_Mo_mark 107 [some (.ref (mo X)), some (.int x1), some (.int x2), some (.int x3), some (.int x4)] [] σ (mQ X Φ σ) := by
  unfold w_Mo_mark_107 at h
  refine jW.aload_n (dx_Mo_mark 59 (e := (107, .aload_n 0, 1)) rfl) rfl rfl (pc' := 108) rfl ?_
  refine jW.aload_n (dx_Mo_mark 60 (e := (108, .aload_n 0, 1)) rfl) rfl rfl (pc' := 109) rfl ?_
  refine jW.iload_n (dx_Mo_mark 61 (e := (109, .iload_n 2, 1)) rfl) rfl rfl (pc' := 110) rfl ?_
  refine jW.iload (dx_Mo_mark 62 (e := (110, .iload 4, 2)) rfl) rfl (pc' := 112) rfl ?_
  refine jW.iadd (dx_Mo_mark 63 (e := (112, .iadd, 1)) rfl) (pc' := 113) rfl ?_
  refine jW.callVe F (h (d + 0) _ hV) (dx_Mo_mark 64 (e := (113, .invokevirtual 129, 3)) rfl) can_Mo_at jw_1194 jw_1196 hV.cl rfl sel_Mo_at rfl rfl (Nat.le_of_ble_eq_true rfl) (pc' := 116) rfl (fun r σ hr => ?_)
  clear hV
  refine mQ.up hr.1 ?_
  obtain ⟨_, hV, _, rfl, h⟩ := hr.2
  refine jW.mpi F hV f_Mo_mark_116 (by decide) rfl rfl rfl (pc' := 119) rfl (fun σ hV => ?_)
  replace h := h _ rfl
  refine jW.iload (dx_Mo_mark 66 (e := (119, .iload 4, 2)) rfl) rfl (pc' := 121) rfl ?_
  refine jW.bipush (v := 9) (dx_Mo_mark 67 (e := (121, .bipush 9, 2)) rfl) (by decide) (pc' := 123) rfl ?_
  refine jW.icmp_gt (dx_Mo_mark 68 (e := (123, .if_icmp .gt 21, 3)) rfl) 144 (by decide) (pc' := 126) rfl (fun c => ?_) (fun c => ?_)
  · replace h := h.1 c
    exact t_Mo_mark_144 F hV h
  · replace h := h.2 c
    refine jW.aload_n (dx_Mo_mark 69 (e := (126, .aload_n 0, 1)) rfl) rfl rfl (pc' := 127) rfl ?_
    refine jW.mgi F hV f_Mo_mark_127 (by decide) (pc' := 130) rfl ?_
    refine jW.bipush (v := 46) (dx_Mo_mark 71 (e := (130, .bipush 46, 2)) rfl) (by decide) (pc' := 132) rfl ?_
    refine jW.icmp_eq (dx_Mo_mark 72 (e := (132, .if_icmp .eq 14, 3)) rfl) 146 (by decide) (pc' := 135) rfl (fun c => ?_) (fun c => ?_)
    · replace h := h.1 c
      exact t_Mo_mark_146 F hV h
    · replace h := h.2 c
      refine jW.aload_n (dx_Mo_mark 73 (e := (135, .aload_n 0, 1)) rfl) rfl rfl (pc' := 136) rfl ?_
      refine jW.mgi F hV f_Mo_mark_136 (by decide) (pc' := 139) rfl ?_
      refine jW.bipush (v := 41) (dx_Mo_mark 75 (e := (139, .bipush 41, 2)) rfl) (by decide) (pc' := 141) rfl ?_
      refine jW.icmp_eq (dx_Mo_mark 76 (e := (141, .if_icmp .eq 5, 3)) rfl) 146 (by decide) (pc' := 144) rfl (fun c => ?_) (fun c => ?_)
      · replace h := h.1 c
        exact t_Mo_mark_146 F hV h
      · replace h := h.2 c
        exact t_Mo_mark_144 F hV h
def w_Mo_mark_98 (X : MX) (x1 x2 x3 x4 s1 : Int32) (m : MS) (Φ : Option Value → MS → Prop) (K43 : Int32 → Int32 → Int32 → Int32 → MS → Prop) : Prop := ∀ m1, m1 = mI m 36 (s1) → K43 (x1) (x2) (x3) (x4 + 1) m1
theorem t_Mo_mark_98 {X : MX} {a0 : Array Value} (F : mF X a0) {d : Nat} {x1 x2 x3 x4 s1 : Int32} {m : MS} {σ : jS} {Φ : Option Value → MS → Prop} {K43 : Int32 → Int32 → Int32 → Int32 → MS → Prop} (hV : MV X m σ) (h : w_Mo_mark_98 X x1 x2 x3 x4 s1 m Φ K43) (hK43 : ∀ (x1 x2 x3 x4 : Int32) (m : MS) (σ : jS), MV X m σ → K43 x1 x2 x3 x4 m → jW X.1 X.2.1 jcl X.2.2.1 X.2.2.2.1 (d + 1) y_Mo_mark 43 [some (.ref (mo X)), some (.int x1), some (.int x2), some (.int x3), some (.int x4)] [] σ (mQ X Φ σ)) : jW X.1 X.2.1 jcl X.2.2.1 X.2.2.2.1 (d + 1) y_Mo_mark 98 [some (.ref (mo X)), some (.int x1), some (.int x2), some (.int x3), some (.int x4)] [.int s1, .ref (mo X)] σ (mQ X Φ σ) := by
  unfold w_Mo_mark_98 at h
  refine jW.mpi F hV f_Mo_mark_98 (by decide) rfl rfl rfl (pc' := 101) rfl (fun σ hV => ?_)
  replace h := h _ rfl
  refine jW.iinc (v := _ + (1)) (dx_Mo_mark 57 (e := (101, .iinc 4 1, 3)) rfl) rfl rfl (by decide) rfl (pc' := 104) rfl ?_
  refine jW.goto (dx_Mo_mark 58 (e := (104, .goto (-61), 3)) rfl) 43 (by decide) ?_
  exact hK43 _ _ _ _ _ _ hV h
def w_Mo_mark_43 (X : MX) (x1 x2 x3 x4 : Int32) (m : MS) (Φ : Option Value → MS → Prop) (K43 : Int32 → Int32 → Int32 → Int32 → MS → Prop) : Prop := mE X 0 y_Mo_at [.ref (mo X), .int (x2 + x4)] m (iP fun r1 m1 => mE X 0 y_Mo_isDigit [.int (r1)] m1 (iP fun r2 m2 => ((r2 = 0 → w_Mo_mark_107 X (x1) (x2) (x3) (x4) m2 Φ) ∧ (¬ r2 = 0 → ((10 ≤ x4 → w_Mo_mark_107 X (x1) (x2) (x3) (x4) m2 Φ) ∧ (¬ 10 ≤ x4 → ((9 ≤ x4 → w_Mo_mark_98 X (x1) (x2) (x3) (x4) (m2.1 36) m2 Φ K43) ∧ (¬ 9 ≤ x4 → mE X 0 y_Mo_at [.ref (mo X), .int (x2 + x4)] m2 (iP fun r3 m3 => w_Mo_mark_98 X (x1) (x2) (x3) (x4) (((10 * (m2.1 36)) + r3) - 48) m3 Φ K43)))))))))
theorem t_Mo_mark_43 {X : MX} {a0 : Array Value} (F : mF X a0) {d : Nat} {x1 x2 x3 x4 : Int32} {m : MS} {σ : jS} {Φ : Option Value → MS → Prop} {K43 : Int32 → Int32 → Int32 → Int32 → MS → Prop} (hV : MV X m σ) (h : w_Mo_mark_43 X x1 x2 x3 x4 m Φ K43) (hK43 : ∀ (x1 x2 x3 x4 : Int32) (m : MS) (σ : jS), MV X m σ → K43 x1 x2 x3 x4 m → jW X.1 X.2.1 jcl X.2.2.1 X.2.2.2.1 (d + 1) y_Mo_mark 43 [some (.ref (mo X)), some (.int x1), some (.int x2), some (.int x3), some (.int x4)] [] σ (mQ X Φ σ)) : jW X.1 X.2.1 jcl X.2.2.1 X.2.2.2.1 (d + 1) y_Mo_mark 43 [some (.ref (mo X)), some (.int x1), some (.int x2), some (.int x3), some (.int x4)] [] σ (mQ X Φ σ) := by
  unfold w_Mo_mark_43 at h
  refine jW.aload_n (dx_Mo_mark 27 (e := (43, .aload_n 0, 1)) rfl) rfl rfl (pc' := 44) rfl ?_
  refine jW.iload_n (dx_Mo_mark 28 (e := (44, .iload_n 2, 1)) rfl) rfl rfl (pc' := 45) rfl ?_
  refine jW.iload (dx_Mo_mark 29 (e := (45, .iload 4, 2)) rfl) rfl (pc' := 47) rfl ?_
  refine jW.iadd (dx_Mo_mark 30 (e := (47, .iadd, 1)) rfl) (pc' := 48) rfl ?_
  refine jW.callVe F (h (d + 0) _ hV) (dx_Mo_mark 31 (e := (48, .invokevirtual 129, 3)) rfl) can_Mo_at jw_1194 jw_1196 hV.cl rfl sel_Mo_at rfl rfl (Nat.le_of_ble_eq_true rfl) (pc' := 51) rfl (fun r σ hr => ?_)
  clear hV
  refine mQ.up hr.1 ?_
  obtain ⟨_, hV, _, rfl, h⟩ := hr.2
  refine jW.callS F (h (d + 0) _ hV) (dx_Mo_mark 32 (e := (51, .invokestatic 201, 3)) rfl) can_Mo_isDigit jw_1266 jw_1267 rfl rfl (Nat.le_of_ble_eq_true rfl) (pc' := 54) rfl (fun r σ hr => ?_)
  clear hV
  refine mQ.up hr.1 ?_
  obtain ⟨_, hV, _, rfl, h⟩ := hr.2
  refine jW.if_eq (dx_Mo_mark 33 (e := (54, .ifCond .eq 53, 3)) rfl) 107 (by decide) (pc' := 57) rfl (fun c => ?_) (fun c => ?_)
  · replace h := h.1 c
    exact t_Mo_mark_107 F hV h
  · replace h := h.2 c
    refine jW.iload (dx_Mo_mark 34 (e := (57, .iload 4, 2)) rfl) rfl (pc' := 59) rfl ?_
    refine jW.bipush (v := 10) (dx_Mo_mark 35 (e := (59, .bipush 10, 2)) rfl) (by decide) (pc' := 61) rfl ?_
    refine jW.icmp_ge (dx_Mo_mark 36 (e := (61, .if_icmp .ge 46, 3)) rfl) 107 (by decide) (pc' := 64) rfl (fun c => ?_) (fun c => ?_)
    · replace h := h.1 c
      exact t_Mo_mark_107 F hV h
    · replace h := h.2 c
      refine jW.aload_n (dx_Mo_mark 37 (e := (64, .aload_n 0, 1)) rfl) rfl rfl (pc' := 65) rfl ?_
      refine jW.iload (dx_Mo_mark 38 (e := (65, .iload 4, 2)) rfl) rfl (pc' := 67) rfl ?_
      refine jW.bipush (v := 9) (dx_Mo_mark 39 (e := (67, .bipush 9, 2)) rfl) (by decide) (pc' := 69) rfl ?_
      refine jW.icmp_ge (dx_Mo_mark 40 (e := (69, .if_icmp .ge 25, 3)) rfl) 94 (by decide) (pc' := 72) rfl (fun c => ?_) (fun c => ?_)
      · replace h := h.1 c
        refine jW.aload_n (dx_Mo_mark 54 (e := (94, .aload_n 0, 1)) rfl) rfl rfl (pc' := 95) rfl ?_
        refine jW.mgi F hV f_Mo_mark_95 (by decide) (pc' := 98) rfl ?_
        exact t_Mo_mark_98 F hV h hK43
      · replace h := h.2 c
        refine jW.bipush (v := 10) (dx_Mo_mark 41 (e := (72, .bipush 10, 2)) rfl) (by decide) (pc' := 74) rfl ?_
        refine jW.aload_n (dx_Mo_mark 42 (e := (74, .aload_n 0, 1)) rfl) rfl rfl (pc' := 75) rfl ?_
        refine jW.mgi F hV f_Mo_mark_75 (by decide) (pc' := 78) rfl ?_
        refine jW.imul (dx_Mo_mark 44 (e := (78, .imul, 1)) rfl) (pc' := 79) rfl ?_
        refine jW.aload_n (dx_Mo_mark 45 (e := (79, .aload_n 0, 1)) rfl) rfl rfl (pc' := 80) rfl ?_
        refine jW.iload_n (dx_Mo_mark 46 (e := (80, .iload_n 2, 1)) rfl) rfl rfl (pc' := 81) rfl ?_
        refine jW.iload (dx_Mo_mark 47 (e := (81, .iload 4, 2)) rfl) rfl (pc' := 83) rfl ?_
        refine jW.iadd (dx_Mo_mark 48 (e := (83, .iadd, 1)) rfl) (pc' := 84) rfl ?_
        refine jW.callVe F (h (d + 0) _ hV) (dx_Mo_mark 49 (e := (84, .invokevirtual 129, 3)) rfl) can_Mo_at jw_1194 jw_1196 hV.cl rfl sel_Mo_at rfl rfl (Nat.le_of_ble_eq_true rfl) (pc' := 87) rfl (fun r σ hr => ?_)
        clear hV
        refine mQ.up hr.1 ?_
        obtain ⟨_, hV, _, rfl, h⟩ := hr.2
        refine jW.iadd (dx_Mo_mark 50 (e := (87, .iadd, 1)) rfl) (pc' := 88) rfl ?_
        refine jW.bipush (v := 48) (dx_Mo_mark 51 (e := (88, .bipush 48, 2)) rfl) (by decide) (pc' := 90) rfl ?_
        refine jW.isub (dx_Mo_mark 52 (e := (90, .isub, 1)) rfl) (pc' := 91) rfl ?_
        refine jW.goto (dx_Mo_mark 53 (e := (91, .goto 7, 3)) rfl) 98 (by decide) ?_
        exact t_Mo_mark_98 F hV h hK43
def w_Mo_mark_0 (X : MX) (x1 : Int32) (m : MS) (Φ : Option Value → MS → Prop) (K43 : Int32 → Int32 → Int32 → Int32 → MS → Prop) : Prop := mE X 0 y_Mo_at [.ref (mo X), .int ((m.1 31) + x1)] m (iP fun r1 m1 => ((x1 ≤ 3 → ∀ m2, m2 = mI m1 35 (r1) → ∀ m3, m3 = mI m2 36 (0) → mE X 0 y_Mo_isDigit [.int (r1)] m3 (iP fun r4 m4 => ((r4 = 0 → ((r1 = 42 → w_Mo_mark_172 X (x1) ((m.1 31) + x1) (r1) (1) m4 Φ) ∧ (¬ r1 = 42 → ((r1 = 43 → w_Mo_mark_172 X (x1) ((m.1 31) + x1) (r1) (1) m4 Φ) ∧ (¬ r1 = 43 → ((r1 = 45 → w_Mo_mark_172 X (x1) ((m.1 31) + x1) (r1) (1) m4 Φ) ∧ (¬ r1 = 45 → Φ (some (.int (0))) m4))))))) ∧ (¬ r4 = 0 → K43 (x1) ((m.1 31) + x1) (r1) (0) m4)))) ∧ (¬ x1 ≤ 3 → Φ (some (.int (0))) m1)))
theorem t_Mo_mark_0 {X : MX} {a0 : Array Value} (F : mF X a0) {d : Nat} {x1 : Int32} {o2 o3 o4 : Option Value} {m : MS} {σ : jS} {Φ : Option Value → MS → Prop} {K43 : Int32 → Int32 → Int32 → Int32 → MS → Prop} (hV : MV X m σ) (h : w_Mo_mark_0 X x1 m Φ K43) (hK43 : ∀ (x1 x2 x3 x4 : Int32) (m : MS) (σ : jS), MV X m σ → K43 x1 x2 x3 x4 m → jW X.1 X.2.1 jcl X.2.2.1 X.2.2.2.1 (d + 1) y_Mo_mark 43 [some (.ref (mo X)), some (.int x1), some (.int x2), some (.int x3), some (.int x4)] [] σ (mQ X Φ σ)) : jW X.1 X.2.1 jcl X.2.2.1 X.2.2.2.1 (d + 1) y_Mo_mark 0 [some (.ref (mo X)), some (.int x1), o2, o3, o4] [] σ (mQ X Φ σ) := by
  unfold w_Mo_mark_0 at h
  refine jW.aload_n (dx_Mo_mark 0 (e := (0, .aload_n 0, 1)) rfl) rfl rfl (pc' := 1) rfl ?_
  refine jW.mgi F hV f_Mo_mark_1 (by decide) (pc' := 4) rfl ?_
  refine jW.iload_n (dx_Mo_mark 2 (e := (4, .iload_n 1, 1)) rfl) rfl rfl (pc' := 5) rfl ?_
  refine jW.iadd (dx_Mo_mark 3 (e := (5, .iadd, 1)) rfl) (pc' := 6) rfl ?_
  refine jW.istore_n (dx_Mo_mark 4 (e := (6, .istore_n 2, 1)) rfl) rfl (by decide) rfl (pc' := 7) rfl ?_
  refine jW.aload_n (dx_Mo_mark 5 (e := (7, .aload_n 0, 1)) rfl) rfl rfl (pc' := 8) rfl ?_
  refine jW.iload_n (dx_Mo_mark 6 (e := (8, .iload_n 2, 1)) rfl) rfl rfl (pc' := 9) rfl ?_
  refine jW.callVe F (h (d + 0) _ hV) (dx_Mo_mark 7 (e := (9, .invokevirtual 129, 3)) rfl) can_Mo_at jw_1194 jw_1196 hV.cl rfl sel_Mo_at rfl rfl (Nat.le_of_ble_eq_true rfl) (pc' := 12) rfl (fun r σ hr => ?_)
  clear hV
  refine mQ.up hr.1 ?_
  obtain ⟨_, hV, _, rfl, h⟩ := hr.2
  refine jW.istore_n (dx_Mo_mark 8 (e := (12, .istore_n 3, 1)) rfl) rfl (by decide) rfl (pc' := 13) rfl ?_
  refine jW.iload_n (dx_Mo_mark 9 (e := (13, .iload_n 1, 1)) rfl) rfl rfl (pc' := 14) rfl ?_
  refine jW.iconst (v := 3) (dx_Mo_mark 10 (e := (14, .iconst 3, 1)) rfl) (by decide) (pc' := 15) rfl ?_
  refine jW.icmp_le (dx_Mo_mark 11 (e := (15, .if_icmp .le 5, 3)) rfl) 20 (by decide) (pc' := 18) rfl (fun c => ?_) (fun c => ?_)
  · replace h := h.1 c
    refine jW.iconst (v := 1) (dx_Mo_mark 14 (e := (20, .iconst 1, 1)) rfl) (by decide) (pc' := 21) rfl ?_
    refine jW.istore (dx_Mo_mark 15 (e := (21, .istore 4, 2)) rfl) (by decide) rfl (pc' := 23) rfl ?_
    refine jW.aload_n (dx_Mo_mark 16 (e := (23, .aload_n 0, 1)) rfl) rfl rfl (pc' := 24) rfl ?_
    refine jW.iload_n (dx_Mo_mark 17 (e := (24, .iload_n 3, 1)) rfl) rfl rfl (pc' := 25) rfl ?_
    refine jW.mpi F hV f_Mo_mark_25 (by decide) rfl rfl rfl (pc' := 28) rfl (fun σ hV => ?_)
    replace h := h _ rfl
    refine jW.aload_n (dx_Mo_mark 19 (e := (28, .aload_n 0, 1)) rfl) rfl rfl (pc' := 29) rfl ?_
    refine jW.iconst (v := 0) (dx_Mo_mark 20 (e := (29, .iconst 0, 1)) rfl) (by decide) (pc' := 30) rfl ?_
    refine jW.mpi F hV f_Mo_mark_30 (by decide) rfl rfl rfl (pc' := 33) rfl (fun σ hV => ?_)
    replace h := h _ rfl
    refine jW.iload_n (dx_Mo_mark 22 (e := (33, .iload_n 3, 1)) rfl) rfl rfl (pc' := 34) rfl ?_
    refine jW.callS F (h (d + 0) _ hV) (dx_Mo_mark 23 (e := (34, .invokestatic 201, 3)) rfl) can_Mo_isDigit jw_1266 jw_1267 rfl rfl (Nat.le_of_ble_eq_true rfl) (pc' := 37) rfl (fun r σ hr => ?_)
    clear hV
    refine mQ.up hr.1 ?_
    obtain ⟨_, hV, _, rfl, h⟩ := hr.2
    refine jW.if_eq (dx_Mo_mark 24 (e := (37, .ifCond .eq 115, 3)) rfl) 152 (by decide) (pc' := 40) rfl (fun c => ?_) (fun c => ?_)
    · replace h := h.1 c
      refine jW.iload_n (dx_Mo_mark 81 (e := (152, .iload_n 3, 1)) rfl) rfl rfl (pc' := 153) rfl ?_
      refine jW.bipush (v := 42) (dx_Mo_mark 82 (e := (153, .bipush 42, 2)) rfl) (by decide) (pc' := 155) rfl ?_
      refine jW.icmp_eq (dx_Mo_mark 83 (e := (155, .if_icmp .eq 17, 3)) rfl) 172 (by decide) (pc' := 158) rfl (fun c => ?_) (fun c => ?_)
      · replace h := h.1 c
        exact t_Mo_mark_172 F hV h
      · replace h := h.2 c
        refine jW.iload_n (dx_Mo_mark 84 (e := (158, .iload_n 3, 1)) rfl) rfl rfl (pc' := 159) rfl ?_
        refine jW.bipush (v := 43) (dx_Mo_mark 85 (e := (159, .bipush 43, 2)) rfl) (by decide) (pc' := 161) rfl ?_
        refine jW.icmp_eq (dx_Mo_mark 86 (e := (161, .if_icmp .eq 11, 3)) rfl) 172 (by decide) (pc' := 164) rfl (fun c => ?_) (fun c => ?_)
        · replace h := h.1 c
          exact t_Mo_mark_172 F hV h
        · replace h := h.2 c
          refine jW.iload_n (dx_Mo_mark 87 (e := (164, .iload_n 3, 1)) rfl) rfl rfl (pc' := 165) rfl ?_
          refine jW.bipush (v := 45) (dx_Mo_mark 88 (e := (165, .bipush 45, 2)) rfl) (by decide) (pc' := 167) rfl ?_
          refine jW.icmp_eq (dx_Mo_mark 89 (e := (167, .if_icmp .eq 5, 3)) rfl) 172 (by decide) (pc' := 170) rfl (fun c => ?_) (fun c => ?_)
          · replace h := h.1 c
            exact t_Mo_mark_172 F hV h
          · replace h := h.2 c
            refine jW.iconst (v := 0) (dx_Mo_mark 90 (e := (170, .iconst 0, 1)) rfl) (by decide) (pc' := 171) rfl ?_
            exact jW.iret (dx_Mo_mark 91 (e := (171, .ireturn, 1)) rfl) rfl ⟨FR.rfl, _, hV, h⟩
    · replace h := h.2 c
      refine jW.iconst (v := 0) (dx_Mo_mark 25 (e := (40, .iconst 0, 1)) rfl) (by decide) (pc' := 41) rfl ?_
      refine jW.istore (dx_Mo_mark 26 (e := (41, .istore 4, 2)) rfl) (by decide) rfl (pc' := 43) rfl ?_
      exact hK43 _ _ _ _ _ _ hV h
  · replace h := h.2 c
    refine jW.iconst (v := 0) (dx_Mo_mark 12 (e := (18, .iconst 0, 1)) rfl) (by decide) (pc' := 19) rfl ?_
    exact jW.iret (dx_Mo_mark 13 (e := (19, .ireturn, 1)) rfl) rfl ⟨FR.rfl, _, hV, h⟩
theorem g_Mo_mark {X : MX} {a0 : Array Value} (F : mF X a0) {x1 : Int32} {m : MS} {Φ : Option Value → MS → Prop} {I43 : Nat → Int32 → Int32 → Int32 → Int32 → MS → Prop} (he : w_Mo_mark_0 X x1 m Φ (fun x1 x2 x3 x4 m => ∃ j, I43 j x1 x2 x3 x4 m)) (h43 : ∀ (n : Nat) (x1 x2 x3 x4 : Int32) (m : MS), I43 n x1 x2 x3 x4 m → w_Mo_mark_43 X x1 x2 x3 x4 m Φ (fun x1 x2 x3 x4 m => ∃ j, j < n ∧ I43 j x1 x2 x3 x4 m)) : mE X 1 y_Mo_mark [.ref (mo X), .int x1] m Φ := by
  intro d σ hV
  have hL43 : ∀ n, (∀ (x1 x2 x3 x4 : Int32) (m : MS) (σ : jS), MV X m σ → I43 n x1 x2 x3 x4 m → jW X.1 X.2.1 jcl X.2.2.1 X.2.2.2.1 (d + 1) y_Mo_mark 43 [some (.ref (mo X)), some (.int x1), some (.int x2), some (.int x3), some (.int x4)] [] σ (mQ X Φ σ)) := by
    intro n
    induction n using Nat.strongRecOn with
    | _ n ih =>
      exact fun x1 x2 x3 x4 m σ hV hI => t_Mo_mark_43 F hV (h43 n x1 x2 x3 x4 m hI) (fun x1 x2 x3 x4 m σ hV ⟨j, hj, hI⟩ => (ih j hj) x1 x2 x3 x4 m σ hV hI)
  refine jE.of (by decide) (by simp [Value.category]) (Nat.le_of_ble_eq_true rfl) rfl ?_
  exact t_Mo_mark_0 F hV he (fun x1 x2 x3 x4 m σ hV ⟨j, hI⟩ => (hL43 j) x1 x2 x3 x4 m σ hV hI)
def w_Mo_beginItem_195 (X : MX) (x1 x2 x3 x4 x5 x6 x7 x8 s1 : Int32) (m : MS) (Φ : Option Value → MS → Prop) : Prop := ∀ m1, m1 = mI m 31 (s1) → Φ none m1
theorem t_Mo_beginItem_195 {X : MX} {a0 : Array Value} (F : mF X a0) {d : Nat} {x1 x2 x3 x4 x5 x6 x7 x8 s1 : Int32} {m : MS} {σ : jS} {Φ : Option Value → MS → Prop} (hV : MV X m σ) (h : w_Mo_beginItem_195 X x1 x2 x3 x4 x5 x6 x7 x8 s1 m Φ) : jW X.1 X.2.1 jcl X.2.2.1 X.2.2.2.1 (d + 8) y_Mo_beginItem 195 [some (.ref (mo X)), some (.int x1), some (.int x2), some (.int x3), some (.int x4), some (.int x5), some (.int x6), some (.int x7), some (.int x8)] [.int s1, .ref (mo X)] σ (mQ X Φ σ) := by
  unfold w_Mo_beginItem_195 at h
  refine jW.mpi F hV f_Mo_beginItem_195 (by decide) rfl rfl rfl (pc' := 198) rfl (fun σ hV => ?_)
  replace h := h _ rfl
  exact jW.vret (dx_Mo_beginItem 106 (e := (198, .return_, 1)) rfl) rfl ⟨FR.rfl, _, hV, h⟩
def w_Mo_beginItem_168 (X : MX) (x1 x2 x3 x4 x5 x6 x7 x8 s1 s2 : Int32) (m : MS) (Φ : Option Value → MS → Prop) : Prop := ∀ m1, m1 = mI m 31 (s1 + s2) → ((m1.1 31 ≤ m1.1 12 → w_Mo_beginItem_195 X (x1) (x2) (x3) (x4) (x5) (x6) (x7) (x8) (m1.1 31) m1 Φ) ∧ (¬ m1.1 31 ≤ m1.1 12 → w_Mo_beginItem_195 X (x1) (x2) (x3) (x4) (x5) (x6) (x7) (x8) (m1.1 12) m1 Φ))
theorem t_Mo_beginItem_168 {X : MX} {a0 : Array Value} (F : mF X a0) {d : Nat} {x1 x2 x3 x4 x5 x6 x7 x8 s1 s2 : Int32} {m : MS} {σ : jS} {Φ : Option Value → MS → Prop} (hV : MV X m σ) (h : w_Mo_beginItem_168 X x1 x2 x3 x4 x5 x6 x7 x8 s1 s2 m Φ) : jW X.1 X.2.1 jcl X.2.2.1 X.2.2.2.1 (d + 8) y_Mo_beginItem 168 [some (.ref (mo X)), some (.int x1), some (.int x2), some (.int x3), some (.int x4), some (.int x5), some (.int x6), some (.int x7), some (.int x8)] [.int s2, .int s1, .ref (mo X)] σ (mQ X Φ σ) := by
  unfold w_Mo_beginItem_168 at h
  refine jW.iadd (dx_Mo_beginItem 92 (e := (168, .iadd, 1)) rfl) (pc' := 169) rfl ?_
  refine jW.mpi F hV f_Mo_beginItem_169 (by decide) rfl rfl rfl (pc' := 172) rfl (fun σ hV => ?_)
  replace h := h _ rfl
  refine jW.aload_n (dx_Mo_beginItem 94 (e := (172, .aload_n 0, 1)) rfl) rfl rfl (pc' := 173) rfl ?_
  refine jW.aload_n (dx_Mo_beginItem 95 (e := (173, .aload_n 0, 1)) rfl) rfl rfl (pc' := 174) rfl ?_
  refine jW.mgi F hV f_Mo_beginItem_174 (by decide) (pc' := 177) rfl ?_
  refine jW.aload_n (dx_Mo_beginItem 97 (e := (177, .aload_n 0, 1)) rfl) rfl rfl (pc' := 178) rfl ?_
  refine jW.mgi F hV f_Mo_beginItem_178 (by decide) (pc' := 181) rfl ?_
  refine jW.icmp_le (dx_Mo_beginItem 99 (e := (181, .if_icmp .le 10, 3)) rfl) 191 (by decide) (pc' := 184) rfl (fun c => ?_) (fun c => ?_)
  · replace h := h.1 c
    refine jW.aload_n (dx_Mo_beginItem 103 (e := (191, .aload_n 0, 1)) rfl) rfl rfl (pc' := 192) rfl ?_
    refine jW.mgi F hV f_Mo_beginItem_192 (by decide) (pc' := 195) rfl ?_
    exact t_Mo_beginItem_195 F hV h
  · replace h := h.2 c
    refine jW.aload_n (dx_Mo_beginItem 100 (e := (184, .aload_n 0, 1)) rfl) rfl rfl (pc' := 185) rfl ?_
    refine jW.mgi F hV f_Mo_beginItem_185 (by decide) (pc' := 188) rfl ?_
    refine jW.goto (dx_Mo_beginItem 102 (e := (188, .goto 7, 3)) rfl) 195 (by decide) ?_
    exact t_Mo_beginItem_195 F hV h
def w_Mo_beginItem_150 (X : MX) (x1 x2 x3 x4 x5 x6 x7 x8 s1 s2 s3 : Int32) (m : MS) (Φ : Option Value → MS → Prop) : Prop := (vp_in (s1) 3300 ∧ ∀ m1, m1 = mA m 24 (s1 : Int32).toNatClampNeg (s2 + s3) → ((x8 = 0 → w_Mo_beginItem_168 X (x1) (x2) (x3) (x4) (x5) (x6) (x7) (x8) (m1.1 31) (1) m1 Φ) ∧ (¬ x8 = 0 → w_Mo_beginItem_168 X (x1) (x2) (x3) (x4) (x5) (x6) (x7) (x8) (m1.1 31) (x7) m1 Φ)))
theorem t_Mo_beginItem_150 {X : MX} {a0 : Array Value} (F : mF X a0) {d : Nat} {x1 x2 x3 x4 x5 x6 x7 x8 s1 s2 s3 : Int32} {m : MS} {σ : jS} {Φ : Option Value → MS → Prop} (hV : MV X m σ) (h : w_Mo_beginItem_150 X x1 x2 x3 x4 x5 x6 x7 x8 s1 s2 s3 m Φ) : jW X.1 X.2.1 jcl X.2.2.1 X.2.2.2.1 (d + 8) y_Mo_beginItem 150 [some (.ref (mo X)), some (.int x1), some (.int x2), some (.int x3), some (.int x4), some (.int x5), some (.int x6), some (.int x7), some (.int x8)] [.int s3, .int s2, .int s1, .ref (ar X 24)] σ (mQ X Φ σ) := by
  unfold w_Mo_beginItem_150 at h
  refine jW.iadd (dx_Mo_beginItem 82 (e := (150, .iadd, 1)) rfl) (pc' := 151) rfl ?_
  refine jW.msa F hV (dx_Mo_beginItem 83 (e := (151, .iastore, 1)) rfl) (by decide) rfl h.1 (pc' := 152) rfl (fun σ hV => ?_)
  replace h := h.2 _ rfl
  refine jW.aload_n (dx_Mo_beginItem 84 (e := (152, .aload_n 0, 1)) rfl) rfl rfl (pc' := 153) rfl ?_
  refine jW.dup (dx_Mo_beginItem 85 (e := (153, .dup, 1)) rfl) rfl (pc' := 154) rfl ?_
  refine jW.mgi F hV f_Mo_beginItem_154 (by decide) (pc' := 157) rfl ?_
  refine jW.iload (dx_Mo_beginItem 87 (e := (157, .iload 8, 2)) rfl) rfl (pc' := 159) rfl ?_
  refine jW.if_eq (dx_Mo_beginItem 88 (e := (159, .ifCond .eq 8, 3)) rfl) 167 (by decide) (pc' := 162) rfl (fun c => ?_) (fun c => ?_)
  · replace h := h.1 c
    refine jW.iconst (v := 1) (dx_Mo_beginItem 91 (e := (167, .iconst 1, 1)) rfl) (by decide) (pc' := 168) rfl ?_
    exact t_Mo_beginItem_168 F hV h
  · replace h := h.2 c
    refine jW.iload (dx_Mo_beginItem 89 (e := (162, .iload 7, 2)) rfl) rfl (pc' := 164) rfl ?_
    refine jW.goto (dx_Mo_beginItem 90 (e := (164, .goto 4, 3)) rfl) 168 (by decide) ?_
    exact t_Mo_beginItem_168 F hV h
def w_Mo_beginItem_128 (X : MX) (x1 x2 x3 x4 x5 x6 x7 s0 : Int32) (m : MS) (Φ : Option Value → MS → Prop) : Prop := ((s0 = 0 → w_Mo_beginItem_150 X (x1) (x2) (x3) (x4) (x5) (x6) (x7) (s0) (x6) (x1 + x2) (1) m Φ) ∧ (¬ s0 = 0 → w_Mo_beginItem_150 X (x1) (x2) (x3) (x4) (x5) (x6) (x7) (s0) (x6) (x1 + x2) (x7) m Φ))
theorem t_Mo_beginItem_128 {X : MX} {a0 : Array Value} (F : mF X a0) {d : Nat} {x1 x2 x3 x4 x5 x6 x7 s0 : Int32} {o8 : Option Value} {m : MS} {σ : jS} {Φ : Option Value → MS → Prop} (hV : MV X m σ) (h : w_Mo_beginItem_128 X x1 x2 x3 x4 x5 x6 x7 s0 m Φ) : jW X.1 X.2.1 jcl X.2.2.1 X.2.2.2.1 (d + 8) y_Mo_beginItem 128 [some (.ref (mo X)), some (.int x1), some (.int x2), some (.int x3), some (.int x4), some (.int x5), some (.int x6), some (.int x7), o8] [.int s0] σ (mQ X Φ σ) := by
  unfold w_Mo_beginItem_128 at h
  refine jW.istore (dx_Mo_beginItem 70 (e := (128, .istore 8, 2)) rfl) (by decide) rfl (pc' := 130) rfl ?_
  refine jW.aload_n (dx_Mo_beginItem 71 (e := (130, .aload_n 0, 1)) rfl) rfl rfl (pc' := 131) rfl ?_
  refine jW.mga F hV f_Mo_beginItem_131 (by decide) (pc' := 134) rfl ?_
  refine jW.iload (dx_Mo_beginItem 73 (e := (134, .iload 6, 2)) rfl) rfl (pc' := 136) rfl ?_
  refine jW.iload_n (dx_Mo_beginItem 74 (e := (136, .iload_n 1, 1)) rfl) rfl rfl (pc' := 137) rfl ?_
  refine jW.iload_n (dx_Mo_beginItem 75 (e := (137, .iload_n 2, 1)) rfl) rfl rfl (pc' := 138) rfl ?_
  refine jW.iadd (dx_Mo_beginItem 76 (e := (138, .iadd, 1)) rfl) (pc' := 139) rfl ?_
  refine jW.iload (dx_Mo_beginItem 77 (e := (139, .iload 8, 2)) rfl) rfl (pc' := 141) rfl ?_
  refine jW.if_eq (dx_Mo_beginItem 78 (e := (141, .ifCond .eq 8, 3)) rfl) 149 (by decide) (pc' := 144) rfl (fun c => ?_) (fun c => ?_)
  · replace h := h.1 c
    refine jW.iconst (v := 1) (dx_Mo_beginItem 81 (e := (149, .iconst 1, 1)) rfl) (by decide) (pc' := 150) rfl ?_
    exact t_Mo_beginItem_150 F hV h
  · replace h := h.2 c
    refine jW.iload (dx_Mo_beginItem 79 (e := (144, .iload 7, 2)) rfl) rfl (pc' := 146) rfl ?_
    refine jW.goto (dx_Mo_beginItem 80 (e := (146, .goto 4, 3)) rfl) 150 (by decide) ?_
    exact t_Mo_beginItem_150 F hV h
def w_Mo_beginItem_127 (X : MX) (x1 x2 x3 x4 x5 x6 x7 : Int32) (m : MS) (Φ : Option Value → MS → Prop) : Prop := w_Mo_beginItem_128 X (x1) (x2) (x3) (x4) (x5) (x6) (x7) (0) m Φ
theorem t_Mo_beginItem_127 {X : MX} {a0 : Array Value} (F : mF X a0) {d : Nat} {x1 x2 x3 x4 x5 x6 x7 : Int32} {o8 : Option Value} {m : MS} {σ : jS} {Φ : Option Value → MS → Prop} (hV : MV X m σ) (h : w_Mo_beginItem_127 X x1 x2 x3 x4 x5 x6 x7 m Φ) : jW X.1 X.2.1 jcl X.2.2.1 X.2.2.2.1 (d + 8) y_Mo_beginItem 127 [some (.ref (mo X)), some (.int x1), some (.int x2), some (.int x3), some (.int x4), some (.int x5), some (.int x6), some (.int x7), o8] [] σ (mQ X Φ σ) := by
  unfold w_Mo_beginItem_127 at h
  refine jW.iconst (v := 0) (dx_Mo_beginItem 69 (e := (127, .iconst 0, 1)) rfl) (by decide) (pc' := 128) rfl ?_
  exact t_Mo_beginItem_128 F hV h
def w_Mo_beginItem_75 (X : MX) (x1 x2 x3 x4 x5 : Int32) (m : MS) (Φ : Option Value → MS → Prop) : Prop := mE X 7 y_Mo_begin [.ref (mo X), .int (3), .int (x3)] m (iP fun r1 m1 => ∀ m2, m2 = mI m1 31 ((m1.1 31) + (x1 + x2)) → mE X 0 y_Mo_indent [.ref (mo X)] m2 (iP fun r3 m3 => ((r3 ≤ 0 → w_Mo_beginItem_127 X (x1) (x2) (x3) (x4) (x5) (r1) (r3) m3 Φ) ∧ (¬ r3 ≤ 0 → ((5 ≤ r3 → w_Mo_beginItem_127 X (x1) (x2) (x3) (x4) (x5) (r1) (r3) m3 Φ) ∧ (¬ 5 ≤ r3 → mE X 0 y_Mo_isBlank [.ref (mo X), .int (m3.1 31)] m3 (iP fun r4 m4 => ((r4 = 0 → w_Mo_beginItem_128 X (x1) (x2) (x3) (x4) (x5) (r1) (r3) (1) m4 Φ) ∧ (¬ r4 = 0 → w_Mo_beginItem_127 X (x1) (x2) (x3) (x4) (x5) (r1) (r3) m4 Φ)))))))))
theorem t_Mo_beginItem_75 {X : MX} {a0 : Array Value} (F : mF X a0) {d : Nat} {x1 x2 x3 x4 x5 : Int32} {o6 o7 o8 : Option Value} {m : MS} {σ : jS} {Φ : Option Value → MS → Prop} (hV : MV X m σ) (h : w_Mo_beginItem_75 X x1 x2 x3 x4 x5 m Φ) : jW X.1 X.2.1 jcl X.2.2.1 X.2.2.2.1 (d + 8) y_Mo_beginItem 75 [some (.ref (mo X)), some (.int x1), some (.int x2), some (.int x3), some (.int x4), some (.int x5), o6, o7, o8] [] σ (mQ X Φ σ) := by
  unfold w_Mo_beginItem_75 at h
  refine jW.aload_n (dx_Mo_beginItem 41 (e := (75, .aload_n 0, 1)) rfl) rfl rfl (pc' := 76) rfl ?_
  refine jW.iconst (v := 3) (dx_Mo_beginItem 42 (e := (76, .iconst 3, 1)) rfl) (by decide) (pc' := 77) rfl ?_
  refine jW.iload_n (dx_Mo_beginItem 43 (e := (77, .iload_n 3, 1)) rfl) rfl rfl (pc' := 78) rfl ?_
  refine jW.callVe F (h (d + 0) _ hV) (dx_Mo_beginItem 44 (e := (78, .invokevirtual 186, 3)) rfl) can_Mo_begin jw_1312 jw_1314 hV.cl rfl sel_Mo_begin rfl rfl (Nat.le_of_ble_eq_true rfl) (pc' := 81) rfl (fun r σ hr => ?_)
  clear hV
  refine mQ.up hr.1 ?_
  obtain ⟨_, hV, _, rfl, h⟩ := hr.2
  refine jW.istore (dx_Mo_beginItem 45 (e := (81, .istore 6, 2)) rfl) (by decide) rfl (pc' := 83) rfl ?_
  refine jW.aload_n (dx_Mo_beginItem 46 (e := (83, .aload_n 0, 1)) rfl) rfl rfl (pc' := 84) rfl ?_
  refine jW.dup (dx_Mo_beginItem 47 (e := (84, .dup, 1)) rfl) rfl (pc' := 85) rfl ?_
  refine jW.mgi F hV f_Mo_beginItem_85 (by decide) (pc' := 88) rfl ?_
  refine jW.iload_n (dx_Mo_beginItem 49 (e := (88, .iload_n 1, 1)) rfl) rfl rfl (pc' := 89) rfl ?_
  refine jW.iload_n (dx_Mo_beginItem 50 (e := (89, .iload_n 2, 1)) rfl) rfl rfl (pc' := 90) rfl ?_
  refine jW.iadd (dx_Mo_beginItem 51 (e := (90, .iadd, 1)) rfl) (pc' := 91) rfl ?_
  refine jW.iadd (dx_Mo_beginItem 52 (e := (91, .iadd, 1)) rfl) (pc' := 92) rfl ?_
  refine jW.mpi F hV f_Mo_beginItem_92 (by decide) rfl rfl rfl (pc' := 95) rfl (fun σ hV => ?_)
  replace h := h _ rfl
  refine jW.aload_n (dx_Mo_beginItem 54 (e := (95, .aload_n 0, 1)) rfl) rfl rfl (pc' := 96) rfl ?_
  refine jW.callVe F (h (d + 7) _ hV) (dx_Mo_beginItem 55 (e := (96, .invokevirtual 133, 3)) rfl) can_Mo_indent jw_1186 jw_1188 hV.cl rfl sel_Mo_indent rfl rfl (Nat.le_of_ble_eq_true rfl) (pc' := 99) rfl (fun r σ hr => ?_)
  clear hV
  refine mQ.up hr.1 ?_
  obtain ⟨_, hV, _, rfl, h⟩ := hr.2
  refine jW.istore (dx_Mo_beginItem 56 (e := (99, .istore 7, 2)) rfl) (by decide) rfl (pc' := 101) rfl ?_
  refine jW.iload (dx_Mo_beginItem 57 (e := (101, .iload 7, 2)) rfl) rfl (pc' := 103) rfl ?_
  refine jW.if_le (dx_Mo_beginItem 58 (e := (103, .ifCond .le 24, 3)) rfl) 127 (by decide) (pc' := 106) rfl (fun c => ?_) (fun c => ?_)
  · replace h := h.1 c
    exact t_Mo_beginItem_127 F hV h
  · replace h := h.2 c
    refine jW.iload (dx_Mo_beginItem 59 (e := (106, .iload 7, 2)) rfl) rfl (pc' := 108) rfl ?_
    refine jW.iconst (v := 5) (dx_Mo_beginItem 60 (e := (108, .iconst 5, 1)) rfl) (by decide) (pc' := 109) rfl ?_
    refine jW.icmp_ge (dx_Mo_beginItem 61 (e := (109, .if_icmp .ge 18, 3)) rfl) 127 (by decide) (pc' := 112) rfl (fun c => ?_) (fun c => ?_)
    · replace h := h.1 c
      exact t_Mo_beginItem_127 F hV h
    · replace h := h.2 c
      refine jW.aload_n (dx_Mo_beginItem 62 (e := (112, .aload_n 0, 1)) rfl) rfl rfl (pc' := 113) rfl ?_
      refine jW.aload_n (dx_Mo_beginItem 63 (e := (113, .aload_n 0, 1)) rfl) rfl rfl (pc' := 114) rfl ?_
      refine jW.mgi F hV f_Mo_beginItem_114 (by decide) (pc' := 117) rfl ?_
      refine jW.callVe F (h (d + 7) _ hV) (dx_Mo_beginItem 65 (e := (117, .invokevirtual 137, 3)) rfl) can_Mo_isBlank jw_1190 jw_1192 hV.cl rfl sel_Mo_isBlank rfl rfl (Nat.le_of_ble_eq_true rfl) (pc' := 120) rfl (fun r σ hr => ?_)
      clear hV
      refine mQ.up hr.1 ?_
      obtain ⟨_, hV, _, rfl, h⟩ := hr.2
      refine jW.if_ne (dx_Mo_beginItem 66 (e := (120, .ifCond .ne 7, 3)) rfl) 127 (by decide) (pc' := 123) rfl (fun c => ?_) (fun c => ?_)
      · replace h := h.2 c
        exact t_Mo_beginItem_127 F hV h
      · replace h := h.1 c
        refine jW.iconst (v := 1) (dx_Mo_beginItem 67 (e := (123, .iconst 1, 1)) rfl) (by decide) (pc' := 124) rfl ?_
        refine jW.goto (dx_Mo_beginItem 68 (e := (124, .goto 4, 3)) rfl) 128 (by decide) ?_
        exact t_Mo_beginItem_128 F hV h
def w_Mo_beginItem_49 (X : MX) (x1 x2 x3 x4 x5 : Int32) (m : MS) (Φ : Option Value → MS → Prop) : Prop := mE X 7 y_Mo_begin [.ref (mo X), .int (2), .int (x3)] m (iP fun r1 m1 => (vp_in (r1) 3300 ∧ ∀ m2, m2 = mA m1 22 (r1 : Int32).toNatClampNeg (x4) → (vp_in (r1) 3300 ∧ ∀ m3, m3 = mA m2 15 (r1 : Int32).toNatClampNeg (x5) → w_Mo_beginItem_75 X (x1) (x2) (x3) (x4) (x5) m3 Φ)))
theorem t_Mo_beginItem_49 {X : MX} {a0 : Array Value} (F : mF X a0) {d : Nat} {x1 x2 x3 x4 x5 : Int32} {o6 o7 o8 : Option Value} {m : MS} {σ : jS} {Φ : Option Value → MS → Prop} (hV : MV X m σ) (h : w_Mo_beginItem_49 X x1 x2 x3 x4 x5 m Φ) : jW X.1 X.2.1 jcl X.2.2.1 X.2.2.2.1 (d + 8) y_Mo_beginItem 49 [some (.ref (mo X)), some (.int x1), some (.int x2), some (.int x3), some (.int x4), some (.int x5), o6, o7, o8] [] σ (mQ X Φ σ) := by
  unfold w_Mo_beginItem_49 at h
  refine jW.aload_n (dx_Mo_beginItem 26 (e := (49, .aload_n 0, 1)) rfl) rfl rfl (pc' := 50) rfl ?_
  refine jW.iconst (v := 2) (dx_Mo_beginItem 27 (e := (50, .iconst 2, 1)) rfl) (by decide) (pc' := 51) rfl ?_
  refine jW.iload_n (dx_Mo_beginItem 28 (e := (51, .iload_n 3, 1)) rfl) rfl rfl (pc' := 52) rfl ?_
  refine jW.callVe F (h (d + 0) _ hV) (dx_Mo_beginItem 29 (e := (52, .invokevirtual 186, 3)) rfl) can_Mo_begin jw_1312 jw_1314 hV.cl rfl sel_Mo_begin rfl rfl (Nat.le_of_ble_eq_true rfl) (pc' := 55) rfl (fun r σ hr => ?_)
  clear hV
  refine mQ.up hr.1 ?_
  obtain ⟨_, hV, _, rfl, h⟩ := hr.2
  refine jW.istore (dx_Mo_beginItem 30 (e := (55, .istore 6, 2)) rfl) (by decide) rfl (pc' := 57) rfl ?_
  refine jW.aload_n (dx_Mo_beginItem 31 (e := (57, .aload_n 0, 1)) rfl) rfl rfl (pc' := 58) rfl ?_
  refine jW.mga F hV f_Mo_beginItem_58 (by decide) (pc' := 61) rfl ?_
  refine jW.iload (dx_Mo_beginItem 33 (e := (61, .iload 6, 2)) rfl) rfl (pc' := 63) rfl ?_
  refine jW.iload (dx_Mo_beginItem 34 (e := (63, .iload 4, 2)) rfl) rfl (pc' := 65) rfl ?_
  refine jW.msa F hV (dx_Mo_beginItem 35 (e := (65, .iastore, 1)) rfl) (by decide) rfl h.1 (pc' := 66) rfl (fun σ hV => ?_)
  replace h := h.2 _ rfl
  refine jW.aload_n (dx_Mo_beginItem 36 (e := (66, .aload_n 0, 1)) rfl) rfl rfl (pc' := 67) rfl ?_
  refine jW.mga F hV f_Mo_beginItem_67 (by decide) (pc' := 70) rfl ?_
  refine jW.iload (dx_Mo_beginItem 38 (e := (70, .iload 6, 2)) rfl) rfl (pc' := 72) rfl ?_
  refine jW.iload (dx_Mo_beginItem 39 (e := (72, .iload 5, 2)) rfl) rfl (pc' := 74) rfl ?_
  refine jW.msa F hV (dx_Mo_beginItem 40 (e := (74, .iastore, 1)) rfl) (by decide) rfl h.1 (pc' := 75) rfl (fun σ hV => ?_)
  replace h := h.2 _ rfl
  exact t_Mo_beginItem_75 F hV h
def w_Mo_beginItem_0 (X : MX) (x1 x2 x3 : Int32) (m : MS) (Φ : Option Value → MS → Prop) : Prop := (vp_in (m.1 32) 40 ∧ (vp_in (m.2 29 (m.1 32 : Int32).toNatClampNeg) 3300 ∧ ((m.2 13 (m.2 29 (m.1 32 : Int32).toNatClampNeg : Int32).toNatClampNeg = 2 → (vp_in (m.1 32) 40 ∧ (vp_in (m.2 29 (m.1 32 : Int32).toNatClampNeg) 3300 ∧ ((m.2 22 (m.2 29 (m.1 32 : Int32).toNatClampNeg : Int32).toNatClampNeg = m.1 35 → w_Mo_beginItem_75 X (x1) (x2) (x3) (m.1 35) (m.1 36) m Φ) ∧ (¬ m.2 22 (m.2 29 (m.1 32 : Int32).toNatClampNeg : Int32).toNatClampNeg = m.1 35 → w_Mo_beginItem_49 X (x1) (x2) (x3) (m.1 35) (m.1 36) m Φ))))) ∧ (¬ m.2 13 (m.2 29 (m.1 32 : Int32).toNatClampNeg : Int32).toNatClampNeg = 2 → w_Mo_beginItem_49 X (x1) (x2) (x3) (m.1 35) (m.1 36) m Φ))))
theorem t_Mo_beginItem_0 {X : MX} {a0 : Array Value} (F : mF X a0) {d : Nat} {x1 x2 x3 : Int32} {o4 o5 o6 o7 o8 : Option Value} {m : MS} {σ : jS} {Φ : Option Value → MS → Prop} (hV : MV X m σ) (h : w_Mo_beginItem_0 X x1 x2 x3 m Φ) : jW X.1 X.2.1 jcl X.2.2.1 X.2.2.2.1 (d + 8) y_Mo_beginItem 0 [some (.ref (mo X)), some (.int x1), some (.int x2), some (.int x3), o4, o5, o6, o7, o8] [] σ (mQ X Φ σ) := by
  unfold w_Mo_beginItem_0 at h
  refine jW.aload_n (dx_Mo_beginItem 0 (e := (0, .aload_n 0, 1)) rfl) rfl rfl (pc' := 1) rfl ?_
  refine jW.mgi F hV f_Mo_beginItem_1 (by decide) (pc' := 4) rfl ?_
  refine jW.istore (dx_Mo_beginItem 2 (e := (4, .istore 4, 2)) rfl) (by decide) rfl (pc' := 6) rfl ?_
  refine jW.aload_n (dx_Mo_beginItem 3 (e := (6, .aload_n 0, 1)) rfl) rfl rfl (pc' := 7) rfl ?_
  refine jW.mgi F hV f_Mo_beginItem_7 (by decide) (pc' := 10) rfl ?_
  refine jW.istore (dx_Mo_beginItem 5 (e := (10, .istore 5, 2)) rfl) (by decide) rfl (pc' := 12) rfl ?_
  refine jW.aload_n (dx_Mo_beginItem 6 (e := (12, .aload_n 0, 1)) rfl) rfl rfl (pc' := 13) rfl ?_
  refine jW.mga F hV f_Mo_beginItem_13 (by decide) (pc' := 16) rfl ?_
  refine jW.aload_n (dx_Mo_beginItem 8 (e := (16, .aload_n 0, 1)) rfl) rfl rfl (pc' := 17) rfl ?_
  refine jW.mga F hV f_Mo_beginItem_17 (by decide) (pc' := 20) rfl ?_
  refine jW.aload_n (dx_Mo_beginItem 10 (e := (20, .aload_n 0, 1)) rfl) rfl rfl (pc' := 21) rfl ?_
  refine jW.mgi F hV f_Mo_beginItem_21 (by decide) (pc' := 24) rfl ?_
  refine jW.mla F hV (dx_Mo_beginItem 12 (e := (24, .iaload, 1)) rfl) (by decide) rfl h.1 (pc' := 25) rfl ?_
  replace h := h.2
  refine jW.mla F hV (dx_Mo_beginItem 13 (e := (25, .iaload, 1)) rfl) (by decide) rfl h.1 (pc' := 26) rfl ?_
  replace h := h.2
  refine jW.iconst (v := 2) (dx_Mo_beginItem 14 (e := (26, .iconst 2, 1)) rfl) (by decide) (pc' := 27) rfl ?_
  refine jW.icmp_ne (dx_Mo_beginItem 15 (e := (27, .if_icmp .ne 22, 3)) rfl) 49 (by decide) (pc' := 30) rfl (fun c => ?_) (fun c => ?_)
  · replace h := h.2 c
    exact t_Mo_beginItem_49 F hV h
  · replace h := h.1 c
    refine jW.aload_n (dx_Mo_beginItem 16 (e := (30, .aload_n 0, 1)) rfl) rfl rfl (pc' := 31) rfl ?_
    refine jW.mga F hV f_Mo_beginItem_31 (by decide) (pc' := 34) rfl ?_
    refine jW.aload_n (dx_Mo_beginItem 18 (e := (34, .aload_n 0, 1)) rfl) rfl rfl (pc' := 35) rfl ?_
    refine jW.mga F hV f_Mo_beginItem_35 (by decide) (pc' := 38) rfl ?_
    refine jW.aload_n (dx_Mo_beginItem 20 (e := (38, .aload_n 0, 1)) rfl) rfl rfl (pc' := 39) rfl ?_
    refine jW.mgi F hV f_Mo_beginItem_39 (by decide) (pc' := 42) rfl ?_
    refine jW.mla F hV (dx_Mo_beginItem 22 (e := (42, .iaload, 1)) rfl) (by decide) rfl h.1 (pc' := 43) rfl ?_
    replace h := h.2
    refine jW.mla F hV (dx_Mo_beginItem 23 (e := (43, .iaload, 1)) rfl) (by decide) rfl h.1 (pc' := 44) rfl ?_
    replace h := h.2
    refine jW.iload (dx_Mo_beginItem 24 (e := (44, .iload 4, 2)) rfl) rfl (pc' := 46) rfl ?_
    refine jW.icmp_eq (dx_Mo_beginItem 25 (e := (46, .if_icmp .eq 29, 3)) rfl) 75 (by decide) (pc' := 49) rfl (fun c => ?_) (fun c => ?_)
    · replace h := h.1 c
      exact t_Mo_beginItem_75 F hV h
    · replace h := h.2 c
      exact t_Mo_beginItem_49 F hV h
theorem g_Mo_beginItem {X : MX} {a0 : Array Value} (F : mF X a0) {x1 x2 x3 : Int32} {m : MS} {Φ : Option Value → MS → Prop} (he : w_Mo_beginItem_0 X x1 x2 x3 m Φ) : mE X 8 y_Mo_beginItem [.ref (mo X), .int x1, .int x2, .int x3] m Φ := by
  intro d σ hV
  refine jE.of (by decide) (by simp [Value.category]) (Nat.le_of_ble_eq_true rfl) rfl ?_
  exact t_Mo_beginItem_0 F hV he
def w_Mo_add_143 (X : MX) (x1 x2 x3 x4 : Int32) (m : MS) (Φ : Option Value → MS → Prop) : Prop := Φ none m
theorem t_Mo_add_143 {X : MX} {a0 : Array Value} (F : mF X a0) {d : Nat} {x1 x2 x3 x4 : Int32} {m : MS} {σ : jS} {Φ : Option Value → MS → Prop} (hV : MV X m σ) (h : w_Mo_add_143 X x1 x2 x3 x4 m Φ) : jW X.1 X.2.1 jcl X.2.2.1 X.2.2.2.1 (d + 1) y_Mo_add 143 [some (.ref (mo X)), some (.int x1), some (.int x2), some (.int x3), some (.int x4)] [] σ (mQ X Φ σ) := by
  unfold w_Mo_add_143 at h
  exact jW.vret (dx_Mo_add 79 (e := (143, .return_, 1)) rfl) rfl ⟨FR.rfl, _, hV, h⟩
def w_Mo_add_136 (X : MX) (x1 x2 x3 x4 : Int32) (m : MS) (Φ : Option Value → MS → Prop) : Prop := (vp_in (x1) 3300 ∧ ∀ m1, m1 = mA m 17 (x1 : Int32).toNatClampNeg (x2) → w_Mo_add_143 X (x1) (x2) (x3) (x4) m1 Φ)
theorem t_Mo_add_136 {X : MX} {a0 : Array Value} (F : mF X a0) {d : Nat} {x1 x2 x3 x4 : Int32} {m : MS} {σ : jS} {Φ : Option Value → MS → Prop} (hV : MV X m σ) (h : w_Mo_add_136 X x1 x2 x3 x4 m Φ) : jW X.1 X.2.1 jcl X.2.2.1 X.2.2.2.1 (d + 1) y_Mo_add 136 [some (.ref (mo X)), some (.int x1), some (.int x2), some (.int x3), some (.int x4)] [] σ (mQ X Φ σ) := by
  unfold w_Mo_add_136 at h
  refine jW.aload_n (dx_Mo_add 74 (e := (136, .aload_n 0, 1)) rfl) rfl rfl (pc' := 137) rfl ?_
  refine jW.mga F hV f_Mo_add_137 (by decide) (pc' := 140) rfl ?_
  refine jW.iload_n (dx_Mo_add 76 (e := (140, .iload_n 1, 1)) rfl) rfl rfl (pc' := 141) rfl ?_
  refine jW.iload_n (dx_Mo_add 77 (e := (141, .iload_n 2, 1)) rfl) rfl rfl (pc' := 142) rfl ?_
  refine jW.msa F hV (dx_Mo_add 78 (e := (142, .iastore, 1)) rfl) (by decide) rfl h.1 (pc' := 143) rfl (fun σ hV => ?_)
  replace h := h.2 _ rfl
  exact t_Mo_add_143 F hV h
def w_Mo_add_96 (X : MX) (x1 x2 x3 x4 : Int32) (m : MS) (Φ : Option Value → MS → Prop) : Prop := (vp_in (x1) 3300 ∧ (vp_in (x1) 3300 ∧ ∀ m1, m1 = mA m 19 (x1 : Int32).toNatClampNeg ((m.1 10) - (m.2 18 (x1 : Int32).toNatClampNeg)) → (vp_in (x1) 3300 ∧ ((m1.2 13 (x1 : Int32).toNatClampNeg = 4 → w_Mo_add_136 X (x1) (x2) (x3) (x4) m1 Φ) ∧ (¬ m1.2 13 (x1 : Int32).toNatClampNeg = 4 → (vp_in (x1) 3300 ∧ ((m1.2 22 (x1 : Int32).toNatClampNeg = 0 → ((x3 = 0 → w_Mo_add_136 X (x1) (x2) (x3) (x4) m1 Φ) ∧ (¬ x3 = 0 → w_Mo_add_143 X (x1) (x2) (x3) (x4) m1 Φ))) ∧ (¬ m1.2 22 (x1 : Int32).toNatClampNeg = 0 → w_Mo_add_136 X (x1) (x2) (x3) (x4) m1 Φ))))))))
theorem t_Mo_add_96 {X : MX} {a0 : Array Value} (F : mF X a0) {d : Nat} {x1 x2 x3 x4 : Int32} {m : MS} {σ : jS} {Φ : Option Value → MS → Prop} (hV : MV X m σ) (h : w_Mo_add_96 X x1 x2 x3 x4 m Φ) : jW X.1 X.2.1 jcl X.2.2.1 X.2.2.2.1 (d + 1) y_Mo_add 96 [some (.ref (mo X)), some (.int x1), some (.int x2), some (.int x3), some (.int x4)] [] σ (mQ X Φ σ) := by
  unfold w_Mo_add_96 at h
  refine jW.aload_n (dx_Mo_add 50 (e := (96, .aload_n 0, 1)) rfl) rfl rfl (pc' := 97) rfl ?_
  refine jW.mga F hV f_Mo_add_97 (by decide) (pc' := 100) rfl ?_
  refine jW.iload_n (dx_Mo_add 52 (e := (100, .iload_n 1, 1)) rfl) rfl rfl (pc' := 101) rfl ?_
  refine jW.aload_n (dx_Mo_add 53 (e := (101, .aload_n 0, 1)) rfl) rfl rfl (pc' := 102) rfl ?_
  refine jW.mgi F hV f_Mo_add_102 (by decide) (pc' := 105) rfl ?_
  refine jW.aload_n (dx_Mo_add 55 (e := (105, .aload_n 0, 1)) rfl) rfl rfl (pc' := 106) rfl ?_
  refine jW.mga F hV f_Mo_add_106 (by decide) (pc' := 109) rfl ?_
  refine jW.iload_n (dx_Mo_add 57 (e := (109, .iload_n 1, 1)) rfl) rfl rfl (pc' := 110) rfl ?_
  refine jW.mla F hV (dx_Mo_add 58 (e := (110, .iaload, 1)) rfl) (by decide) rfl h.1 (pc' := 111) rfl ?_
  replace h := h.2
  refine jW.isub (dx_Mo_add 59 (e := (111, .isub, 1)) rfl) (pc' := 112) rfl ?_
  refine jW.msa F hV (dx_Mo_add 60 (e := (112, .iastore, 1)) rfl) (by decide) rfl h.1 (pc' := 113) rfl (fun σ hV => ?_)
  replace h := h.2 _ rfl
  refine jW.aload_n (dx_Mo_add 61 (e := (113, .aload_n 0, 1)) rfl) rfl rfl (pc' := 114) rfl ?_
  refine jW.mga F hV f_Mo_add_114 (by decide) (pc' := 117) rfl ?_
  refine jW.iload_n (dx_Mo_add 63 (e := (117, .iload_n 1, 1)) rfl) rfl rfl (pc' := 118) rfl ?_
  refine jW.mla F hV (dx_Mo_add 64 (e := (118, .iaload, 1)) rfl) (by decide) rfl h.1 (pc' := 119) rfl ?_
  replace h := h.2
  refine jW.iconst (v := 4) (dx_Mo_add 65 (e := (119, .iconst 4, 1)) rfl) (by decide) (pc' := 120) rfl ?_
  refine jW.icmp_eq (dx_Mo_add 66 (e := (120, .if_icmp .eq 16, 3)) rfl) 136 (by decide) (pc' := 123) rfl (fun c => ?_) (fun c => ?_)
  · replace h := h.1 c
    exact t_Mo_add_136 F hV h
  · replace h := h.2 c
    refine jW.aload_n (dx_Mo_add 67 (e := (123, .aload_n 0, 1)) rfl) rfl rfl (pc' := 124) rfl ?_
    refine jW.mga F hV f_Mo_add_124 (by decide) (pc' := 127) rfl ?_
    refine jW.iload_n (dx_Mo_add 69 (e := (127, .iload_n 1, 1)) rfl) rfl rfl (pc' := 128) rfl ?_
    refine jW.mla F hV (dx_Mo_add 70 (e := (128, .iaload, 1)) rfl) (by decide) rfl h.1 (pc' := 129) rfl ?_
    replace h := h.2
    refine jW.if_ne (dx_Mo_add 71 (e := (129, .ifCond .ne 7, 3)) rfl) 136 (by decide) (pc' := 132) rfl (fun c => ?_) (fun c => ?_)
    · replace h := h.2 c
      exact t_Mo_add_136 F hV h
    · replace h := h.1 c
      refine jW.iload_n (dx_Mo_add 72 (e := (132, .iload_n 3, 1)) rfl) rfl rfl (pc' := 133) rfl ?_
      refine jW.if_ne (dx_Mo_add 73 (e := (133, .ifCond .ne 10, 3)) rfl) 143 (by decide) (pc' := 136) rfl (fun c => ?_) (fun c => ?_)
      · replace h := h.2 c
        exact t_Mo_add_143 F hV h
      · replace h := h.1 c
        exact t_Mo_add_136 F hV h
def w_Mo_add_53 (X : MX) (x1 x2 x3 x4 : Int32) (m : MS) (Φ : Option Value → MS → Prop) (K53 : Int32 → Int32 → Int32 → Int32 → MS → Prop) : Prop := ((m.1 12 ≤ x4 → (vp_in (x1) 3300 ∧ ((m.2 13 (x1 : Int32).toNatClampNeg = 7 → mE X 0 y_Mo_keep [.ref (mo X), .int (10)] m (vP fun m1 => w_Mo_add_96 X (x1) (x2) (x3) (x4) m1 Φ)) ∧ (¬ m.2 13 (x1 : Int32).toNatClampNeg = 7 → w_Mo_add_96 X (x1) (x2) (x3) (x4) m Φ)))) ∧ (¬ m.1 12 ≤ x4 → (vp_in (x4) 12100 ∧ mE X 0 y_Mo_keep [.ref (mo X), .int (m.2 9 (x4 : Int32).toNatClampNeg)] m (vP fun m2 => K53 (x1) (x2) (x3) (x4 + 1) m2))))
theorem t_Mo_add_53 {X : MX} {a0 : Array Value} (F : mF X a0) {d : Nat} {x1 x2 x3 x4 : Int32} {m : MS} {σ : jS} {Φ : Option Value → MS → Prop} {K53 : Int32 → Int32 → Int32 → Int32 → MS → Prop} (hV : MV X m σ) (h : w_Mo_add_53 X x1 x2 x3 x4 m Φ K53) (hK53 : ∀ (x1 x2 x3 x4 : Int32) (m : MS) (σ : jS), MV X m σ → K53 x1 x2 x3 x4 m → jW X.1 X.2.1 jcl X.2.2.1 X.2.2.2.1 (d + 1) y_Mo_add 53 [some (.ref (mo X)), some (.int x1), some (.int x2), some (.int x3), some (.int x4)] [] σ (mQ X Φ σ)) : jW X.1 X.2.1 jcl X.2.2.1 X.2.2.2.1 (d + 1) y_Mo_add 53 [some (.ref (mo X)), some (.int x1), some (.int x2), some (.int x3), some (.int x4)] [] σ (mQ X Φ σ) := by
  unfold w_Mo_add_53 at h
  refine jW.iload (dx_Mo_add 29 (e := (53, .iload 4, 2)) rfl) rfl (pc' := 55) rfl ?_
  refine jW.aload_n (dx_Mo_add 30 (e := (55, .aload_n 0, 1)) rfl) rfl rfl (pc' := 56) rfl ?_
  refine jW.mgi F hV f_Mo_add_56 (by decide) (pc' := 59) rfl ?_
  refine jW.icmp_ge (dx_Mo_add 32 (e := (59, .if_icmp .ge 20, 3)) rfl) 79 (by decide) (pc' := 62) rfl (fun c => ?_) (fun c => ?_)
  · replace h := h.1 c
    refine jW.aload_n (dx_Mo_add 41 (e := (79, .aload_n 0, 1)) rfl) rfl rfl (pc' := 80) rfl ?_
    refine jW.mga F hV f_Mo_add_80 (by decide) (pc' := 83) rfl ?_
    refine jW.iload_n (dx_Mo_add 43 (e := (83, .iload_n 1, 1)) rfl) rfl rfl (pc' := 84) rfl ?_
    refine jW.mla F hV (dx_Mo_add 44 (e := (84, .iaload, 1)) rfl) (by decide) rfl h.1 (pc' := 85) rfl ?_
    replace h := h.2
    refine jW.bipush (v := 7) (dx_Mo_add 45 (e := (85, .bipush 7, 2)) rfl) (by decide) (pc' := 87) rfl ?_
    refine jW.icmp_ne (dx_Mo_add 46 (e := (87, .if_icmp .ne 9, 3)) rfl) 96 (by decide) (pc' := 90) rfl (fun c => ?_) (fun c => ?_)
    · replace h := h.2 c
      exact t_Mo_add_96 F hV h
    · replace h := h.1 c
      refine jW.aload_n (dx_Mo_add 47 (e := (90, .aload_n 0, 1)) rfl) rfl rfl (pc' := 91) rfl ?_
      refine jW.bipush (v := 10) (dx_Mo_add 48 (e := (91, .bipush 10, 2)) rfl) (by decide) (pc' := 93) rfl ?_
      refine jW.callVe F (h (d + 0) _ hV) (dx_Mo_add 49 (e := (93, .invokevirtual 189, 3)) rfl) can_Mo_keep jw_1248 jw_1250 hV.cl rfl sel_Mo_keep rfl rfl (Nat.le_of_ble_eq_true rfl) (pc' := 96) rfl (fun r σ hr => ?_)
      clear hV
      refine mQ.up hr.1 ?_
      obtain ⟨_, hV, rfl, h⟩ := hr.2
      exact t_Mo_add_96 F hV h
  · replace h := h.2 c
    refine jW.aload_n (dx_Mo_add 33 (e := (62, .aload_n 0, 1)) rfl) rfl rfl (pc' := 63) rfl ?_
    refine jW.aload_n (dx_Mo_add 34 (e := (63, .aload_n 0, 1)) rfl) rfl rfl (pc' := 64) rfl ?_
    refine jW.mga F hV f_Mo_add_64 (by decide) (pc' := 67) rfl ?_
    refine jW.iload (dx_Mo_add 36 (e := (67, .iload 4, 2)) rfl) rfl (pc' := 69) rfl ?_
    refine jW.mla F hV (dx_Mo_add 37 (e := (69, .iaload, 1)) rfl) (by decide) rfl h.1 (pc' := 70) rfl ?_
    replace h := h.2
    refine jW.callVe F (h (d + 0) _ hV) (dx_Mo_add 38 (e := (70, .invokevirtual 189, 3)) rfl) can_Mo_keep jw_1248 jw_1250 hV.cl rfl sel_Mo_keep rfl rfl (Nat.le_of_ble_eq_true rfl) (pc' := 73) rfl (fun r σ hr => ?_)
    clear hV
    refine mQ.up hr.1 ?_
    obtain ⟨_, hV, rfl, h⟩ := hr.2
    refine jW.iinc (v := _ + (1)) (dx_Mo_add 39 (e := (73, .iinc 4 1, 3)) rfl) rfl rfl (by decide) rfl (pc' := 76) rfl ?_
    refine jW.goto (dx_Mo_add 40 (e := (76, .goto (-23), 3)) rfl) 53 (by decide) ?_
    exact hK53 _ _ _ _ _ _ hV h
def w_Mo_add_38 (X : MX) (x1 x2 : Int32) (m : MS) (Φ : Option Value → MS → Prop) (K53 : Int32 → Int32 → Int32 → Int32 → MS → Prop) : Prop := mE X 0 y_Mo_isBlank [.ref (mo X), .int (m.1 31)] m (iP fun r1 m1 => K53 (x1) (x2) (r1) (m1.1 31) m1)
theorem t_Mo_add_38 {X : MX} {a0 : Array Value} (F : mF X a0) {d : Nat} {x1 x2 : Int32} {o3 o4 : Option Value} {m : MS} {σ : jS} {Φ : Option Value → MS → Prop} {K53 : Int32 → Int32 → Int32 → Int32 → MS → Prop} (hV : MV X m σ) (h : w_Mo_add_38 X x1 x2 m Φ K53) (hK53 : ∀ (x1 x2 x3 x4 : Int32) (m : MS) (σ : jS), MV X m σ → K53 x1 x2 x3 x4 m → jW X.1 X.2.1 jcl X.2.2.1 X.2.2.2.1 (d + 1) y_Mo_add 53 [some (.ref (mo X)), some (.int x1), some (.int x2), some (.int x3), some (.int x4)] [] σ (mQ X Φ σ)) : jW X.1 X.2.1 jcl X.2.2.1 X.2.2.2.1 (d + 1) y_Mo_add 38 [some (.ref (mo X)), some (.int x1), some (.int x2), o3, o4] [] σ (mQ X Φ σ) := by
  unfold w_Mo_add_38 at h
  refine jW.aload_n (dx_Mo_add 21 (e := (38, .aload_n 0, 1)) rfl) rfl rfl (pc' := 39) rfl ?_
  refine jW.aload_n (dx_Mo_add 22 (e := (39, .aload_n 0, 1)) rfl) rfl rfl (pc' := 40) rfl ?_
  refine jW.mgi F hV f_Mo_add_40 (by decide) (pc' := 43) rfl ?_
  refine jW.callVe F (h (d + 0) _ hV) (dx_Mo_add 24 (e := (43, .invokevirtual 137, 3)) rfl) can_Mo_isBlank jw_1190 jw_1192 hV.cl rfl sel_Mo_isBlank rfl rfl (Nat.le_of_ble_eq_true rfl) (pc' := 46) rfl (fun r σ hr => ?_)
  clear hV
  refine mQ.up hr.1 ?_
  obtain ⟨_, hV, _, rfl, h⟩ := hr.2
  refine jW.istore_n (dx_Mo_add 25 (e := (46, .istore_n 3, 1)) rfl) rfl (by decide) rfl (pc' := 47) rfl ?_
  refine jW.aload_n (dx_Mo_add 26 (e := (47, .aload_n 0, 1)) rfl) rfl rfl (pc' := 48) rfl ?_
  refine jW.mgi F hV f_Mo_add_48 (by decide) (pc' := 51) rfl ?_
  refine jW.istore (dx_Mo_add 28 (e := (51, .istore 4, 2)) rfl) (by decide) rfl (pc' := 53) rfl ?_
  exact hK53 _ _ _ _ _ _ hV h
def w_Mo_add_0 (X : MX) (x1 x2 : Int32) (m : MS) (Φ : Option Value → MS → Prop) (K53 : Int32 → Int32 → Int32 → Int32 → MS → Prop) : Prop := (vp_in (x1) 3300 ∧ ((m.2 13 (x1 : Int32).toNatClampNeg = 4 → mE X 0 y_Mo_indent [.ref (mo X)] m (iP fun r1 m1 => ∀ m2, m2 = mI m1 31 ((m.1 31) + r1) → (vp_in (x1) 3300 ∧ ((m2.2 19 (x1 : Int32).toNatClampNeg ≤ 0 → w_Mo_add_38 X (x1) (x2) m2 Φ K53) ∧ (¬ m2.2 19 (x1 : Int32).toNatClampNeg ≤ 0 → mE X 0 y_Mo_keep [.ref (mo X), .int (10)] m2 (vP fun m3 => w_Mo_add_38 X (x1) (x2) m3 Φ K53)))))) ∧ (¬ m.2 13 (x1 : Int32).toNatClampNeg = 4 → w_Mo_add_38 X (x1) (x2) m Φ K53)))
theorem t_Mo_add_0 {X : MX} {a0 : Array Value} (F : mF X a0) {d : Nat} {x1 x2 : Int32} {o3 o4 : Option Value} {m : MS} {σ : jS} {Φ : Option Value → MS → Prop} {K53 : Int32 → Int32 → Int32 → Int32 → MS → Prop} (hV : MV X m σ) (h : w_Mo_add_0 X x1 x2 m Φ K53) (hK53 : ∀ (x1 x2 x3 x4 : Int32) (m : MS) (σ : jS), MV X m σ → K53 x1 x2 x3 x4 m → jW X.1 X.2.1 jcl X.2.2.1 X.2.2.2.1 (d + 1) y_Mo_add 53 [some (.ref (mo X)), some (.int x1), some (.int x2), some (.int x3), some (.int x4)] [] σ (mQ X Φ σ)) : jW X.1 X.2.1 jcl X.2.2.1 X.2.2.2.1 (d + 1) y_Mo_add 0 [some (.ref (mo X)), some (.int x1), some (.int x2), o3, o4] [] σ (mQ X Φ σ) := by
  unfold w_Mo_add_0 at h
  refine jW.aload_n (dx_Mo_add 0 (e := (0, .aload_n 0, 1)) rfl) rfl rfl (pc' := 1) rfl ?_
  refine jW.mga F hV f_Mo_add_1 (by decide) (pc' := 4) rfl ?_
  refine jW.iload_n (dx_Mo_add 2 (e := (4, .iload_n 1, 1)) rfl) rfl rfl (pc' := 5) rfl ?_
  refine jW.mla F hV (dx_Mo_add 3 (e := (5, .iaload, 1)) rfl) (by decide) rfl h.1 (pc' := 6) rfl ?_
  replace h := h.2
  refine jW.iconst (v := 4) (dx_Mo_add 4 (e := (6, .iconst 4, 1)) rfl) (by decide) (pc' := 7) rfl ?_
  refine jW.icmp_ne (dx_Mo_add 5 (e := (7, .if_icmp .ne 31, 3)) rfl) 38 (by decide) (pc' := 10) rfl (fun c => ?_) (fun c => ?_)
  · replace h := h.2 c
    exact t_Mo_add_38 F hV h hK53
  · replace h := h.1 c
    refine jW.aload_n (dx_Mo_add 6 (e := (10, .aload_n 0, 1)) rfl) rfl rfl (pc' := 11) rfl ?_
    refine jW.dup (dx_Mo_add 7 (e := (11, .dup, 1)) rfl) rfl (pc' := 12) rfl ?_
    refine jW.mgi F hV f_Mo_add_12 (by decide) (pc' := 15) rfl ?_
    refine jW.aload_n (dx_Mo_add 9 (e := (15, .aload_n 0, 1)) rfl) rfl rfl (pc' := 16) rfl ?_
    refine jW.callVe F (h (d + 0) _ hV) (dx_Mo_add 10 (e := (16, .invokevirtual 133, 3)) rfl) can_Mo_indent jw_1186 jw_1188 hV.cl rfl sel_Mo_indent rfl rfl (Nat.le_of_ble_eq_true rfl) (pc' := 19) rfl (fun r σ hr => ?_)
    clear hV
    refine mQ.up hr.1 ?_
    obtain ⟨_, hV, _, rfl, h⟩ := hr.2
    refine jW.iadd (dx_Mo_add 11 (e := (19, .iadd, 1)) rfl) (pc' := 20) rfl ?_
    refine jW.mpi F hV f_Mo_add_20 (by decide) rfl rfl rfl (pc' := 23) rfl (fun σ hV => ?_)
    replace h := h _ rfl
    refine jW.aload_n (dx_Mo_add 13 (e := (23, .aload_n 0, 1)) rfl) rfl rfl (pc' := 24) rfl ?_
    refine jW.mga F hV f_Mo_add_24 (by decide) (pc' := 27) rfl ?_
    refine jW.iload_n (dx_Mo_add 15 (e := (27, .iload_n 1, 1)) rfl) rfl rfl (pc' := 28) rfl ?_
    refine jW.mla F hV (dx_Mo_add 16 (e := (28, .iaload, 1)) rfl) (by decide) rfl h.1 (pc' := 29) rfl ?_
    replace h := h.2
    refine jW.if_le (dx_Mo_add 17 (e := (29, .ifCond .le 9, 3)) rfl) 38 (by decide) (pc' := 32) rfl (fun c => ?_) (fun c => ?_)
    · replace h := h.1 c
      exact t_Mo_add_38 F hV h hK53
    · replace h := h.2 c
      refine jW.aload_n (dx_Mo_add 18 (e := (32, .aload_n 0, 1)) rfl) rfl rfl (pc' := 33) rfl ?_
      refine jW.bipush (v := 10) (dx_Mo_add 19 (e := (33, .bipush 10, 2)) rfl) (by decide) (pc' := 35) rfl ?_
      refine jW.callVe F (h (d + 0) _ hV) (dx_Mo_add 20 (e := (35, .invokevirtual 189, 3)) rfl) can_Mo_keep jw_1248 jw_1250 hV.cl rfl sel_Mo_keep rfl rfl (Nat.le_of_ble_eq_true rfl) (pc' := 38) rfl (fun r σ hr => ?_)
      clear hV
      refine mQ.up hr.1 ?_
      obtain ⟨_, hV, rfl, h⟩ := hr.2
      exact t_Mo_add_38 F hV h hK53
theorem g_Mo_add {X : MX} {a0 : Array Value} (F : mF X a0) {x1 x2 : Int32} {m : MS} {Φ : Option Value → MS → Prop} {I53 : Nat → Int32 → Int32 → Int32 → Int32 → MS → Prop} (he : w_Mo_add_0 X x1 x2 m Φ (fun x1 x2 x3 x4 m => ∃ j, I53 j x1 x2 x3 x4 m)) (h53 : ∀ (n : Nat) (x1 x2 x3 x4 : Int32) (m : MS), I53 n x1 x2 x3 x4 m → w_Mo_add_53 X x1 x2 x3 x4 m Φ (fun x1 x2 x3 x4 m => ∃ j, j < n ∧ I53 j x1 x2 x3 x4 m)) : mE X 1 y_Mo_add [.ref (mo X), .int x1, .int x2] m Φ := by
  intro d σ hV
  have hL53 : ∀ n, (∀ (x1 x2 x3 x4 : Int32) (m : MS) (σ : jS), MV X m σ → I53 n x1 x2 x3 x4 m → jW X.1 X.2.1 jcl X.2.2.1 X.2.2.2.1 (d + 1) y_Mo_add 53 [some (.ref (mo X)), some (.int x1), some (.int x2), some (.int x3), some (.int x4)] [] σ (mQ X Φ σ)) := by
    intro n
    induction n using Nat.strongRecOn with
    | _ n ih =>
      exact fun x1 x2 x3 x4 m σ hV hI => t_Mo_add_53 F hV (h53 n x1 x2 x3 x4 m hI) (fun x1 x2 x3 x4 m σ hV ⟨j, hj, hI⟩ => (ih j hj) x1 x2 x3 x4 m σ hV hI)
  refine jE.of (by decide) (by simp [Value.category]) (Nat.le_of_ble_eq_true rfl) rfl ?_
  exact t_Mo_add_0 F hV he (fun x1 x2 x3 x4 m σ hV ⟨j, hI⟩ => (hL53 j) x1 x2 x3 x4 m σ hV hI)
