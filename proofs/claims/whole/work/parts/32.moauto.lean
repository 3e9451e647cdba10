def w_Mo_thrown_0 (X : MX) (m : MS) (Φ : Option Value → MS → Prop) : Prop := Φ (some (.int (m.1 0))) m
theorem t_Mo_thrown_0 {X : MX} {a0 : Array Value} (F : mF X a0) {d : Nat} {m : MS} {σ : jS} {Φ : Option Value → MS → Prop} (hV : MV X m σ) (h : w_Mo_thrown_0 X m Φ) : jW X.1 X.2.1 jcl X.2.2.1 X.2.2.2.1 (d + 0) y_Mo_thrown 0 [some (.ref (mo X))] [] σ (mQ X Φ σ) := by
  unfold w_Mo_thrown_0 at h
  refine jW.aload_n (dx_Mo_thrown 0 (e := (0, .aload_n 0, 1)) rfl) rfl rfl (pc' := 1) rfl ?_
  refine jW.mgi F hV f_Mo_thrown_1 (by decide) (pc' := 4) rfl ?_
  exact jW.iret (dx_Mo_thrown 2 (e := (4, .ireturn, 1)) rfl) rfl ⟨FR.rfl, _, hV, h⟩
theorem g_Mo_thrown {X : MX} {a0 : Array Value} (F : mF X a0) {m : MS} {Φ : Option Value → MS → Prop} (he : w_Mo_thrown_0 X m Φ) : mE X 0 y_Mo_thrown [.ref (mo X)] m Φ := by
  intro d σ hV
  refine jE.of (by decide) (by simp [Value.category]) (Nat.le_of_ble_eq_true rfl) rfl ?_
  exact t_Mo_thrown_0 F hV he
def w_Mo_feed_8 (X : MX) (x1 x2 x3 x4 x5 x6 : Int32) (m : MS) (Φ : Option Value → MS → Prop) (K8 : Int32 → Int32 → Int32 → Int32 → Int32 → Int32 → MS → Prop) : Prop := ((4 ≤ x6 → Φ none m) ∧ (¬ 4 ≤ x6 → (vp_in (x6) 20 ∧ ∀ m1, m1 = mA m 2 (x6 : Int32).toNatClampNeg ((x1 >>> ((24 - (8 * x6)) &&& 31) : Int32).toInt8.toInt32 : Int32).toInt8.toInt32 → (vp_in (4 + x6) 20 ∧ ∀ m2, m2 = mA m1 2 (4 + x6 : Int32).toNatClampNeg ((x2 >>> ((24 - (8 * x6)) &&& 31) : Int32).toInt8.toInt32 : Int32).toInt8.toInt32 → (vp_in (8 + x6) 20 ∧ ∀ m3, m3 = mA m2 2 (8 + x6 : Int32).toNatClampNeg ((x3 >>> ((24 - (8 * x6)) &&& 31) : Int32).toInt8.toInt32 : Int32).toInt8.toInt32 → (vp_in (12 + x6) 20 ∧ ∀ m4, m4 = mA m3 2 (12 + x6 : Int32).toNatClampNeg ((x4 >>> ((24 - (8 * x6)) &&& 31) : Int32).toInt8.toInt32 : Int32).toInt8.toInt32 → (vp_in (16 + x6) 20 ∧ ∀ m5, m5 = mA m4 2 (16 + x6 : Int32).toNatClampNeg ((x5 >>> ((24 - (8 * x6)) &&& 31) : Int32).toInt8.toInt32 : Int32).toInt8.toInt32 → K8 (x1) (x2) (x3) (x4) (x5) (x6 + 1) m5)))))))
theorem t_Mo_feed_8 {X : MX} {a0 : Array Value} (F : mF X a0) {d : Nat} {x1 x2 x3 x4 x5 x6 : Int32} {o7 : Option Value} {m : MS} {σ : jS} {Φ : Option Value → MS → Prop} {K8 : Int32 → Int32 → Int32 → Int32 → Int32 → Int32 → MS → Prop} (hV : MV X m σ) (h : w_Mo_feed_8 X x1 x2 x3 x4 x5 x6 m Φ K8) (hK8 : ∀ (x1 x2 x3 x4 x5 x6 : Int32) (o7 : Option Value) (m : MS) (σ : jS), MV X m σ → K8 x1 x2 x3 x4 x5 x6 m → jW X.1 X.2.1 jcl X.2.2.1 X.2.2.2.1 (d + 0) y_Mo_feed 8 [some (.ref (mo X)), some (.int x1), some (.int x2), some (.int x3), some (.int x4), some (.int x5), some (.int x6), o7] [] σ (mQ X Φ σ)) : jW X.1 X.2.1 jcl X.2.2.1 X.2.2.2.1 (d + 0) y_Mo_feed 8 [some (.ref (mo X)), some (.int x1), some (.int x2), some (.int x3), some (.int x4), some (.int x5), some (.int x6), o7] [] σ (mQ X Φ σ) := by
  unfold w_Mo_feed_8 at h
  refine jW.iload (dx_Mo_feed 5 (e := (8, .iload 6, 2)) rfl) rfl (pc' := 10) rfl ?_
  refine jW.iconst (v := 4) (dx_Mo_feed 6 (e := (10, .iconst 4, 1)) rfl) (by decide) (pc' := 11) rfl ?_
  refine jW.icmp_ge (dx_Mo_feed 7 (e := (11, .if_icmp .ge 92, 3)) rfl) 103 (by decide) (pc' := 14) rfl (fun c => ?_) (fun c => ?_)
  · replace h := h.1 c
    exact jW.vret (dx_Mo_feed 64 (e := (103, .return_, 1)) rfl) rfl ⟨FR.rfl, _, hV, h⟩
  · replace h := h.2 c
    refine jW.bipush (v := 24) (dx_Mo_feed 8 (e := (14, .bipush 24, 2)) rfl) (by decide) (pc' := 16) rfl ?_
    refine jW.bipush (v := 8) (dx_Mo_feed 9 (e := (16, .bipush 8, 2)) rfl) (by decide) (pc' := 18) rfl ?_
    refine jW.iload (dx_Mo_feed 10 (e := (18, .iload 6, 2)) rfl) rfl (pc' := 20) rfl ?_
    refine jW.imul (dx_Mo_feed 11 (e := (20, .imul, 1)) rfl) (pc' := 21) rfl ?_
    refine jW.isub (dx_Mo_feed 12 (e := (21, .isub, 1)) rfl) (pc' := 22) rfl ?_
    refine jW.istore (dx_Mo_feed 13 (e := (22, .istore 7, 2)) rfl) (by decide) rfl (pc' := 24) rfl ?_
    refine jW.aload_n (dx_Mo_feed 14 (e := (24, .aload_n 0, 1)) rfl) rfl rfl (pc' := 25) rfl ?_
    refine jW.mga F hV f_Mo_feed_25 (by decide) (pc' := 28) rfl ?_
    refine jW.iload (dx_Mo_feed 16 (e := (28, .iload 6, 2)) rfl) rfl (pc' := 30) rfl ?_
    refine jW.iload_n (dx_Mo_feed 17 (e := (30, .iload_n 1, 1)) rfl) rfl rfl (pc' := 31) rfl ?_
    refine jW.iload (dx_Mo_feed 18 (e := (31, .iload 7, 2)) rfl) rfl (pc' := 33) rfl ?_
    refine jW.ishr (dx_Mo_feed 19 (e := (33, .ishr, 1)) rfl) (pc' := 34) rfl ?_
    refine jW.i2b (dx_Mo_feed 20 (e := (34, .i2b, 1)) rfl) rfl (pc' := 35) rfl ?_
    refine jW.msb F hV (dx_Mo_feed 21 (e := (35, .bastore, 1)) rfl) (by decide) rfl h.1 (pc' := 36) rfl (fun σ hV => ?_)
    replace h := h.2 _ rfl
    refine jW.aload_n (dx_Mo_feed 22 (e := (36, .aload_n 0, 1)) rfl) rfl rfl (pc' := 37) rfl ?_
    refine jW.mga F hV f_Mo_feed_37 (by decide) (pc' := 40) rfl ?_
    refine jW.iconst (v := 4) (dx_Mo_feed 24 (e := (40, .iconst 4, 1)) rfl) (by decide) (pc' := 41) rfl ?_
    refine jW.iload (dx_Mo_feed 25 (e := (41, .iload 6, 2)) rfl) rfl (pc' := 43) rfl ?_
    refine jW.iadd (dx_Mo_feed 26 (e := (43, .iadd, 1)) rfl) (pc' := 44) rfl ?_
    refine jW.iload_n (dx_Mo_feed 27 (e := (44, .iload_n 2, 1)) rfl) rfl rfl (pc' := 45) rfl ?_
    refine jW.iload (dx_Mo_feed 28 (e := (45, .iload 7, 2)) rfl) rfl (pc' := 47) rfl ?_
    refine jW.ishr (dx_Mo_feed 29 (e := (47, .ishr, 1)) rfl) (pc' := 48) rfl ?_
    refine jW.i2b (dx_Mo_feed 30 (e := (48, .i2b, 1)) rfl) rfl (pc' := 49) rfl ?_
    refine jW.msb F hV (dx_Mo_feed 31 (e := (49, .bastore, 1)) rfl) (by decide) rfl h.1 (pc' := 50) rfl (fun σ hV => ?_)
    replace h := h.2 _ rfl
    refine jW.aload_n (dx_Mo_feed 32 (e := (50, .aload_n 0, 1)) rfl) rfl rfl (pc' := 51) rfl ?_
    refine jW.mga F hV f_Mo_feed_51 (by decide) (pc' := 54) rfl ?_
    refine jW.bipush (v := 8) (dx_Mo_feed 34 (e := (54, .bipush 8, 2)) rfl) (by decide) (pc' := 56) rfl ?_
    refine jW.iload (dx_Mo_feed 35 (e := (56, .iload 6, 2)) rfl) rfl (pc' := 58) rfl ?_
    refine jW.iadd (dx_Mo_feed 36 (e := (58, .iadd, 1)) rfl) (pc' := 59) rfl ?_
    refine jW.iload_n (dx_Mo_feed 37 (e := (59, .iload_n 3, 1)) rfl) rfl rfl (pc' := 60) rfl ?_
    refine jW.iload (dx_Mo_feed 38 (e := (60, .iload 7, 2)) rfl) rfl (pc' := 62) rfl ?_
    refine jW.ishr (dx_Mo_feed 39 (e := (62, .ishr, 1)) rfl) (pc' := 63) rfl ?_
    refine jW.i2b (dx_Mo_feed 40 (e := (63, .i2b, 1)) rfl) rfl (pc' := 64) rfl ?_
    refine jW.msb F hV (dx_Mo_feed 41 (e := (64, .bastore, 1)) rfl) (by decide) rfl h.1 (pc' := 65) rfl (fun σ hV => ?_)
    replace h := h.2 _ rfl
    refine jW.aload_n (dx_Mo_feed 42 (e := (65, .aload_n 0, 1)) rfl) rfl rfl (pc' := 66) rfl ?_
    refine jW.mga F hV f_Mo_feed_66 (by decide) (pc' := 69) rfl ?_
    refine jW.bipush (v := 12) (dx_Mo_feed 44 (e := (69, .bipush 12, 2)) rfl) (by decide) (pc' := 71) rfl ?_
    refine jW.iload (dx_Mo_feed 45 (e := (71, .iload 6, 2)) rfl) rfl (pc' := 73) rfl ?_
    refine jW.iadd (dx_Mo_feed 46 (e := (73, .iadd, 1)) rfl) (pc' := 74) rfl ?_
    refine jW.iload (dx_Mo_feed 47 (e := (74, .iload 4, 2)) rfl) rfl (pc' := 76) rfl ?_
    refine jW.iload (dx_Mo_feed 48 (e := (76, .iload 7, 2)) rfl) rfl (pc' := 78) rfl ?_
    refine jW.ishr (dx_Mo_feed 49 (e := (78, .ishr, 1)) rfl) (pc' := 79) rfl ?_
    refine jW.i2b (dx_Mo_feed 50 (e := (79, .i2b, 1)) rfl) rfl (pc' := 80) rfl ?_
    refine jW.msb F hV (dx_Mo_feed 51 (e := (80, .bastore, 1)) rfl) (by decide) rfl h.1 (pc' := 81) rfl (fun σ hV => ?_)
    replace h := h.2 _ rfl
    refine jW.aload_n (dx_Mo_feed 52 (e := (81, .aload_n 0, 1)) rfl) rfl rfl (pc' := 82) rfl ?_
    refine jW.mga F hV f_Mo_feed_82 (by decide) (pc' := 85) rfl ?_
    refine jW.bipush (v := 16) (dx_Mo_feed 54 (e := (85, .bipush 16, 2)) rfl) (by decide) (pc' := 87) rfl ?_
    refine jW.iload (dx_Mo_feed 55 (e := (87, .iload 6, 2)) rfl) rfl (pc' := 89) rfl ?_
    refine jW.iadd (dx_Mo_feed 56 (e := (89, .iadd, 1)) rfl) (pc' := 90) rfl ?_
    refine jW.iload (dx_Mo_feed 57 (e := (90, .iload 5, 2)) rfl) rfl (pc' := 92) rfl ?_
    refine jW.iload (dx_Mo_feed 58 (e := (92, .iload 7, 2)) rfl) rfl (pc' := 94) rfl ?_
    refine jW.ishr (dx_Mo_feed 59 (e := (94, .ishr, 1)) rfl) (pc' := 95) rfl ?_
    refine jW.i2b (dx_Mo_feed 60 (e := (95, .i2b, 1)) rfl) rfl (pc' := 96) rfl ?_
    refine jW.msb F hV (dx_Mo_feed 61 (e := (96, .bastore, 1)) rfl) (by decide) rfl h.1 (pc' := 97) rfl (fun σ hV => ?_)
    replace h := h.2 _ rfl
    refine jW.iinc (v := _ + (1)) (dx_Mo_feed 62 (e := (97, .iinc 6 1, 3)) rfl) rfl rfl (by decide) rfl (pc' := 100) rfl ?_
    refine jW.goto (dx_Mo_feed 63 (e := (100, .goto (-92), 3)) rfl) 8 (by decide) ?_
    exact hK8 _ _ _ _ _ _ _ _ _ hV h
def w_Mo_feed_0 (X : MX) (x1 x2 x3 x4 x5 : Int32) (m : MS) (Φ : Option Value → MS → Prop) (K8 : Int32 → Int32 → Int32 → Int32 → Int32 → Int32 → MS → Prop) : Prop := ∀ m1, m1 = mI m 0 (0) → K8 (x1) (x2) (x3) (x4) (x5) (0) m1
theorem t_Mo_feed_0 {X : MX} {a0 : Array Value} (F : mF X a0) {d : Nat} {x1 x2 x3 x4 x5 : Int32} {o6 o7 : Option Value} {m : MS} {σ : jS} {Φ : Option Value → MS → Prop} {K8 : Int32 → Int32 → Int32 → Int32 → Int32 → Int32 → MS → Prop} (hV : MV X m σ) (h : w_Mo_feed_0 X x1 x2 x3 x4 x5 m Φ K8) (hK8 : ∀ (x1 x2 x3 x4 x5 x6 : Int32) (o7 : Option Value) (m : MS) (σ : jS), MV X m σ → K8 x1 x2 x3 x4 x5 x6 m → jW X.1 X.2.1 jcl X.2.2.1 X.2.2.2.1 (d + 0) y_Mo_feed 8 [some (.ref (mo X)), some (.int x1), some (.int x2), some (.int x3), some (.int x4), some (.int x5), some (.int x6), o7] [] σ (mQ X Φ σ)) : jW X.1 X.2.1 jcl X.2.2.1 X.2.2.2.1 (d + 0) y_Mo_feed 0 [some (.ref (mo X)), some (.int x1), some (.int x2), some (.int x3), some (.int x4), some (.int x5), o6, o7] [] σ (mQ X Φ σ) := by
  unfold w_Mo_feed_0 at h
  refine jW.aload_n (dx_Mo_feed 0 (e := (0, .aload_n 0, 1)) rfl) rfl rfl (pc' := 1) rfl ?_
  refine jW.iconst (v := 0) (dx_Mo_feed 1 (e := (1, .iconst 0, 1)) rfl) (by decide) (pc' := 2) rfl ?_
  refine jW.mpi F hV f_Mo_feed_2 (by decide) rfl rfl rfl (pc' := 5) rfl (fun σ hV => ?_)
  replace h := h _ rfl
  refine jW.iconst (v := 0) (dx_Mo_feed 3 (e := (5, .iconst 0, 1)) rfl) (by decide) (pc' := 6) rfl ?_
  refine jW.istore (dx_Mo_feed 4 (e := (6, .istore 6, 2)) rfl) (by decide) rfl (pc' := 8) rfl ?_
  exact hK8 _ _ _ _ _ _ _ _ _ hV h
theorem g_Mo_feed {X : MX} {a0 : Array Value} (F : mF X a0) {x1 x2 x3 x4 x5 : Int32} {m : MS} {Φ : Option Value → MS → Prop} {I8 : Nat → Int32 → Int32 → Int32 → Int32 → Int32 → Int32 → MS → Prop} (he : w_Mo_feed_0 X x1 x2 x3 x4 x5 m Φ (fun x1 x2 x3 x4 x5 x6 m => ∃ j, I8 j x1 x2 x3 x4 x5 x6 m)) (h8 : ∀ (n : Nat) (x1 x2 x3 x4 x5 x6 : Int32) (m : MS), I8 n x1 x2 x3 x4 x5 x6 m → w_Mo_feed_8 X x1 x2 x3 x4 x5 x6 m Φ (fun x1 x2 x3 x4 x5 x6 m => ∃ j, j < n ∧ I8 j x1 x2 x3 x4 x5 x6 m)) : mE X 0 y_Mo_feed [.ref (mo X), .int x1, .int x2, .int x3, .int x4, .int x5] m Φ := by
  intro d σ hV
  have hL8 : ∀ n, (∀ (x1 x2 x3 x4 x5 x6 : Int32) (o7 : Option Value) (m : MS) (σ : jS), MV X m σ → I8 n x1 x2 x3 x4 x5 x6 m → jW X.1 X.2.1 jcl X.2.2.1 X.2.2.2.1 (d + 0) y_Mo_feed 8 [some (.ref (mo X)), some (.int x1), some (.int x2), some (.int x3), some (.int x4), some (.int x5), some (.int x6), o7] [] σ (mQ X Φ σ)) := by
    intro n
    induction n using Nat.strongRecOn with
    | _ n ih =>
      exact fun x1 x2 x3 x4 x5 x6 o7 m σ hV hI => t_Mo_feed_8 F hV (h8 n x1 x2 x3 x4 x5 x6 m hI) (fun x1 x2 x3 x4 x5 x6 o7 m σ hV ⟨j, hj, hI⟩ => (ih j hj) x1 x2 x3 x4 x5 x6 o7 m σ hV hI)
  refine jE.of (by decide) (by simp [Value.category]) (Nat.le_of_ble_eq_true rfl) rfl ?_
  exact t_Mo_feed_0 F hV he (fun x1 x2 x3 x4 x5 x6 o7 m σ hV ⟨j, hI⟩ => (hL8 j) x1 x2 x3 x4 x5 x6 o7 m σ hV hI)
def w_Mo_end_27 (X : MX) (x1 : Int32) (m : MS) (Φ : Option Value → MS → Prop) : Prop := Φ (some (.int (-1))) m
theorem t_Mo_end_27 {X : MX} {a0 : Array Value} (F : mF X a0) {d : Nat} {x1 : Int32} {o2 : Option Value} {m : MS} {σ : jS} {Φ : Option Value → MS → Prop} (hV : MV X m σ) (h : w_Mo_end_27 X x1 m Φ) : jW X.1 X.2.1 jcl X.2.2.1 X.2.2.2.1 (d + 0) y_Mo_end 27 [some (.ref (mo X)), some (.int x1), o2] [] σ (mQ X Φ σ) := by
  unfold w_Mo_end_27 at h
  refine jW.iconst (v := -1) (dx_Mo_end 14 (e := (27, .iconst (-1), 1)) rfl) (by decide) (pc' := 28) rfl ?_
  exact jW.iret (dx_Mo_end 15 (e := (28, .ireturn, 1)) rfl) rfl ⟨FR.rfl, _, hV, h⟩
def w_Mo_end_71 (X : MX) (x1 x2 : Int32) (m : MS) (Φ : Option Value → MS → Prop) (K71 : Int32 → Int32 → MS → Prop) : Prop := ((20 ≤ x2 → Φ (some (.int (m.1 3))) m) ∧ (¬ 20 ≤ x2 → (vp_in (x2) 20 ∧ ∀ m1, m1 = mA m 2 (x2 : Int32).toNatClampNeg (0 : Int32).toInt8.toInt32 → K71 (x1) (x2 + 1) m1)))
theorem t_Mo_end_71 {X : MX} {a0 : Array Value} (F : mF X a0) {d : Nat} {x1 x2 : Int32} {m : MS} {σ : jS} {Φ : Option Value → MS → Prop} {K71 : Int32 → Int32 → MS → Prop} (hV : MV X m σ) (h : w_Mo_end_71 X x1 x2 m Φ K71) (hK71 : ∀ (x1 x2 : Int32) (m : MS) (σ : jS), MV X m σ → K71 x1 x2 m → jW X.1 X.2.1 jcl X.2.2.1 X.2.2.2.1 (d + 0) y_Mo_end 71 [some (.ref (mo X)), some (.int x1), some (.int x2)] [] σ (mQ X Φ σ)) : jW X.1 X.2.1 jcl X.2.2.1 X.2.2.2.1 (d + 0) y_Mo_end 71 [some (.ref (mo X)), some (.int x1), some (.int x2)] [] σ (mQ X Φ σ) := by
  unfold w_Mo_end_71 at h
  refine jW.iload_n (dx_Mo_end 42 (e := (71, .iload_n 2, 1)) rfl) rfl rfl (pc' := 72) rfl ?_
  refine jW.bipush (v := 20) (dx_Mo_end 43 (e := (72, .bipush 20, 2)) rfl) (by decide) (pc' := 74) rfl ?_
  refine jW.icmp_ge (dx_Mo_end 44 (e := (74, .if_icmp .ge 16, 3)) rfl) 90 (by decide) (pc' := 77) rfl (fun c => ?_) (fun c => ?_)
  · replace h := h.1 c
    refine jW.aload_n (dx_Mo_end 52 (e := (90, .aload_n 0, 1)) rfl) rfl rfl (pc' := 91) rfl ?_
    refine jW.mgi F hV f_Mo_end_91 (by decide) (pc' := 94) rfl ?_
    exact jW.iret (dx_Mo_end 54 (e := (94, .ireturn, 1)) rfl) rfl ⟨FR.rfl, _, hV, h⟩
  · replace h := h.2 c
    refine jW.aload_n (dx_Mo_end 45 (e := (77, .aload_n 0, 1)) rfl) rfl rfl (pc' := 78) rfl ?_
    refine jW.mga F hV f_Mo_end_78 (by decide) (pc' := 81) rfl ?_
    refine jW.iload_n (dx_Mo_end 47 (e := (81, .iload_n 2, 1)) rfl) rfl rfl (pc' := 82) rfl ?_
    refine jW.iconst (v := 0) (dx_Mo_end 48 (e := (82, .iconst 0, 1)) rfl) (by decide) (pc' := 83) rfl ?_
    refine jW.msb F hV (dx_Mo_end 49 (e := (83, .bastore, 1)) rfl) (by decide) rfl h.1 (pc' := 84) rfl (fun σ hV => ?_)
    replace h := h.2 _ rfl
    refine jW.iinc (v := _ + (1)) (dx_Mo_end 50 (e := (84, .iinc 2 1, 3)) rfl) rfl rfl (by decide) rfl (pc' := 87) rfl ?_
    refine jW.goto (dx_Mo_end 51 (e := (87, .goto (-16), 3)) rfl) 71 (by decide) ?_
    exact hK71 _ _ _ _ hV h
def w_Mo_end_31 (X : MX) (x1 x2 : Int32) (m : MS) (Φ : Option Value → MS → Prop) (K31 : Int32 → Int32 → MS → Prop) (K71 : Int32 → Int32 → MS → Prop) : Prop := ((x1 ≤ x2 → ∀ m1, m1 = mI m 3 ((m.1 3) + x1) → K71 (x1) (0) m1) ∧ (¬ x1 ≤ x2 → (vp_in (x2) 20 ∧ (vp_in ((m.1 3) + x2) 3000 ∧ ∀ m2, m2 = mA m 1 ((m.1 3) + x2 : Int32).toNatClampNeg (m.2 2 (x2 : Int32).toNatClampNeg : Int32).toInt8.toInt32 → K31 (x1) (x2 + 1) m2))))
theorem t_Mo_end_31 {X : MX} {a0 : Array Value} (F : mF X a0) {d : Nat} {x1 x2 : Int32} {m : MS} {σ : jS} {Φ : Option Value → MS → Prop} {K31 : Int32 → Int32 → MS → Prop} {K71 : Int32 → Int32 → MS → Prop} (hV : MV X m σ) (h : w_Mo_end_31 X x1 x2 m Φ K31 K71) (hK31 : ∀ (x1 x2 : Int32) (m : MS) (σ : jS), MV X m σ → K31 x1 x2 m → jW X.1 X.2.1 jcl X.2.2.1 X.2.2.2.1 (d + 0) y_Mo_end 31 [some (.ref (mo X)), some (.int x1), some (.int x2)] [] σ (mQ X Φ σ)) (hK71 : ∀ (x1 x2 : Int32) (m : MS) (σ : jS), MV X m σ → K71 x1 x2 m → jW X.1 X.2.1 jcl X.2.2.1 X.2.2.2.1 (d + 0) y_Mo_end 71 [some (.ref (mo X)), some (.int x1), some (.int x2)] [] σ (mQ X Φ σ)) : jW X.1 X.2.1 jcl X.2.2.1 X.2.2.2.1 (d + 0) y_Mo_end 31 [some (.ref (mo X)), some (.int x1), some (.int x2)] [] σ (mQ X Φ σ) := by
  unfold w_Mo_end_31 at h
  refine jW.iload_n (dx_Mo_end 18 (e := (31, .iload_n 2, 1)) rfl) rfl rfl (pc' := 32) rfl ?_
  refine jW.iload_n (dx_Mo_end 19 (e := (32, .iload_n 1, 1)) rfl) rfl rfl (pc' := 33) rfl ?_
  refine jW.icmp_ge (dx_Mo_end 20 (e := (33, .if_icmp .ge 26, 3)) rfl) 59 (by decide) (pc' := 36) rfl (fun c => ?_) (fun c => ?_)
  · replace h := h.1 c
    refine jW.aload_n (dx_Mo_end 34 (e := (59, .aload_n 0, 1)) rfl) rfl rfl (pc' := 60) rfl ?_
    refine jW.dup (dx_Mo_end 35 (e := (60, .dup, 1)) rfl) rfl (pc' := 61) rfl ?_
    refine jW.mgi F hV f_Mo_end_61 (by decide) (pc' := 64) rfl ?_
    refine jW.iload_n (dx_Mo_end 37 (e := (64, .iload_n 1, 1)) rfl) rfl rfl (pc' := 65) rfl ?_
    refine jW.iadd (dx_Mo_end 38 (e := (65, .iadd, 1)) rfl) (pc' := 66) rfl ?_
    refine jW.mpi F hV f_Mo_end_66 (by decide) rfl rfl rfl (pc' := 69) rfl (fun σ hV => ?_)
    replace h := h _ rfl
    refine jW.iconst (v := 0) (dx_Mo_end 40 (e := (69, .iconst 0, 1)) rfl) (by decide) (pc' := 70) rfl ?_
    refine jW.istore_n (dx_Mo_end 41 (e := (70, .istore_n 2, 1)) rfl) rfl (by decide) rfl (pc' := 71) rfl ?_
    exact hK71 _ _ _ _ hV h
  · replace h := h.2 c
    refine jW.aload_n (dx_Mo_end 21 (e := (36, .aload_n 0, 1)) rfl) rfl rfl (pc' := 37) rfl ?_
    refine jW.mga F hV f_Mo_end_37 (by decide) (pc' := 40) rfl ?_
    refine jW.aload_n (dx_Mo_end 23 (e := (40, .aload_n 0, 1)) rfl) rfl rfl (pc' := 41) rfl ?_
    refine jW.mgi F hV f_Mo_end_41 (by decide) (pc' := 44) rfl ?_
    refine jW.iload_n (dx_Mo_end 25 (e := (44, .iload_n 2, 1)) rfl) rfl rfl (pc' := 45) rfl ?_
    refine jW.iadd (dx_Mo_end 26 (e := (45, .iadd, 1)) rfl) (pc' := 46) rfl ?_
    refine jW.aload_n (dx_Mo_end 27 (e := (46, .aload_n 0, 1)) rfl) rfl rfl (pc' := 47) rfl ?_
    refine jW.mga F hV f_Mo_end_47 (by decide) (pc' := 50) rfl ?_
    refine jW.iload_n (dx_Mo_end 29 (e := (50, .iload_n 2, 1)) rfl) rfl rfl (pc' := 51) rfl ?_
    refine jW.mlb F hV (dx_Mo_end 30 (e := (51, .baload, 1)) rfl) (by decide) rfl h.1 (pc' := 52) rfl ?_
    replace h := h.2
    refine jW.msb F hV (dx_Mo_end 31 (e := (52, .bastore, 1)) rfl) (by decide) rfl h.1 (pc' := 53) rfl (fun σ hV => ?_)
    replace h := h.2 _ rfl
    refine jW.iinc (v := _ + (1)) (dx_Mo_end 32 (e := (53, .iinc 2 1, 3)) rfl) rfl rfl (by decide) rfl (pc' := 56) rfl ?_
    refine jW.goto (dx_Mo_end 33 (e := (56, .goto (-25), 3)) rfl) 31 (by decide) ?_
    exact hK31 _ _ _ _ hV h
def w_Mo_end_0 (X : MX) (x1 : Int32) (m : MS) (Φ : Option Value → MS → Prop) (K31 : Int32 → Int32 → MS → Prop) (K71 : Int32 → Int32 → MS → Prop) : Prop := ∀ m1, m1 = mI m 0 (0) → ((x1 < 0 → w_Mo_end_27 X (x1) m1 Φ) ∧ (¬ x1 < 0 → ((20 < x1 → w_Mo_end_27 X (x1) m1 Φ) ∧ (¬ 20 < x1 → (((m1.1 3) + x1 ≤ 3000 → K31 (x1) (0) m1) ∧ (¬ (m1.1 3) + x1 ≤ 3000 → w_Mo_end_27 X (x1) m1 Φ))))))
theorem t_Mo_end_0 {X : MX} {a0 : Array Value} (F : mF X a0) {d : Nat} {x1 : Int32} {o2 : Option Value} {m : MS} {σ : jS} {Φ : Option Value → MS → Prop} {K31 : Int32 → Int32 → MS → Prop} {K71 : Int32 → Int32 → MS → Prop} (hV : MV X m σ) (h : w_Mo_end_0 X x1 m Φ K31 K71) (hK31 : ∀ (x1 x2 : Int32) (m : MS) (σ : jS), MV X m σ → K31 x1 x2 m → jW X.1 X.2.1 jcl X.2.2.1 X.2.2.2.1 (d + 0) y_Mo_end 31 [some (.ref (mo X)), some (.int x1), some (.int x2)] [] σ (mQ X Φ σ)) (hK71 : ∀ (x1 x2 : Int32) (m : MS) (σ : jS), MV X m σ → K71 x1 x2 m → jW X.1 X.2.1 jcl X.2.2.1 X.2.2.2.1 (d + 0) y_Mo_end 71 [some (.ref (mo X)), some (.int x1), some (.int x2)] [] σ (mQ X Φ σ)) : jW X.1 X.2.1 jcl X.2.2.1 X.2.2.2.1 (d + 0) y_Mo_end 0 [some (.ref (mo X)), some (.int x1), o2] [] σ (mQ X Φ σ) := by
  unfold w_Mo_end_0 at h
  refine jW.aload_n (dx_Mo_end 0 (e := (0, .aload_n 0, 1)) rfl) rfl rfl (pc' := 1) rfl ?_
  refine jW.iconst (v := 0) (dx_Mo_end 1 (e := (1, .iconst 0, 1)) rfl) (by decide) (pc' := 2) rfl ?_
  refine jW.mpi F hV f_Mo_end_2 (by decide) rfl rfl rfl (pc' := 5) rfl (fun σ hV => ?_)
  replace h := h _ rfl
  refine jW.iload_n (dx_Mo_end 3 (e := (5, .iload_n 1, 1)) rfl) rfl rfl (pc' := 6) rfl ?_
  refine jW.if_lt (dx_Mo_end 4 (e := (6, .ifCond .lt 21, 3)) rfl) 27 (by decide) (pc' := 9) rfl (fun c => ?_) (fun c => ?_)
  · replace h := h.1 c
    exact t_Mo_end_27 F hV h
  · replace h := h.2 c
    refine jW.iload_n (dx_Mo_end 5 (e := (9, .iload_n 1, 1)) rfl) rfl rfl (pc' := 10) rfl ?_
    refine jW.bipush (v := 20) (dx_Mo_end 6 (e := (10, .bipush 20, 2)) rfl) (by decide) (pc' := 12) rfl ?_
    refine jW.icmp_gt (dx_Mo_end 7 (e := (12, .if_icmp .gt 15, 3)) rfl) 27 (by decide) (pc' := 15) rfl (fun c => ?_) (fun c => ?_)
    · replace h := h.1 c
      exact t_Mo_end_27 F hV h
    · replace h := h.2 c
      refine jW.aload_n (dx_Mo_end 8 (e := (15, .aload_n 0, 1)) rfl) rfl rfl (pc' := 16) rfl ?_
      refine jW.mgi F hV f_Mo_end_16 (by decide) (pc' := 19) rfl ?_
      refine jW.iload_n (dx_Mo_end 10 (e := (19, .iload_n 1, 1)) rfl) rfl rfl (pc' := 20) rfl ?_
      refine jW.iadd (dx_Mo_end 11 (e := (20, .iadd, 1)) rfl) (pc' := 21) rfl ?_
      refine jW.sipush (v := 3000) (dx_Mo_end 12 (e := (21, .sipush 3000, 3)) rfl) (by decide) (pc' := 24) rfl ?_
      refine jW.icmp_le (dx_Mo_end 13 (e := (24, .if_icmp .le 5, 3)) rfl) 29 (by decide) (pc' := 27) rfl (fun c => ?_) (fun c => ?_)
      · replace h := h.1 c
        refine jW.iconst (v := 0) (dx_Mo_end 16 (e := (29, .iconst 0, 1)) rfl) (by decide) (pc' := 30) rfl ?_
        refine jW.istore_n (dx_Mo_end 17 (e := (30, .istore_n 2, 1)) rfl) rfl (by decide) rfl (pc' := 31) rfl ?_
        exact hK31 _ _ _ _ hV h
      · replace h := h.2 c
        exact t_Mo_end_27 F hV h
theorem g_Mo_end {X : MX} {a0 : Array Value} (F : mF X a0) {x1 : Int32} {m : MS} {Φ : Option Value → MS → Prop} {I31 : Nat → Int32 → Int32 → MS → Prop} {I71 : Nat → Int32 → Int32 → MS → Prop} (he : w_Mo_end_0 X x1 m Φ (fun x1 x2 m => ∃ j, I31 j x1 x2 m) (fun x1 x2 m => ∃ j, I71 j x1 x2 m)) (h71 : ∀ (n : Nat) (x1 x2 : Int32) (m : MS), I71 n x1 x2 m → w_Mo_end_71 X x1 x2 m Φ (fun x1 x2 m => ∃ j, j < n ∧ I71 j x1 x2 m)) (h31 : ∀ (n : Nat) (x1 x2 : Int32) (m : MS), I31 n x1 x2 m → w_Mo_end_31 X x1 x2 m Φ (fun x1 x2 m => ∃ j, j < n ∧ I31 j x1 x2 m) (fun x1 x2 m => ∃ j, I71 j x1 x2 m)) : mE X 0 y_Mo_end [.ref (mo X), .int x1] m Φ := by
  intro d σ hV
  have hL71 : ∀ n, (∀ (x1 x2 : Int32) (m : MS) (σ : jS), MV X m σ → I71 n x1 x2 m → jW X.1 X.2.1 jcl X.2.2.1 X.2.2.2.1 (d + 0) y_Mo_end 71 [some (.ref (mo X)), some (.int x1), some (.int x2)] [] σ (mQ X Φ σ)) := by
    intro n
    induction n using Nat.strongRecOn with
    | _ n ih =>
      exact fun x1 x2 m σ hV hI => t_Mo_end_71 F hV (h71 n x1 x2 m hI) (fun x1 x2 m σ hV ⟨j, hj, hI⟩ => (ih j hj) x1 x2 m σ hV hI)
  have hL31 : ∀ n, (∀ (x1 x2 : Int32) (m : MS) (σ : jS), MV X m σ → I31 n x1 x2 m → jW X.1 X.2.1 jcl X.2.2.1 X.2.2.2.1 (d + 0) y_Mo_end 31 [some (.ref (mo X)), some (.int x1), some (.int x2)] [] σ (mQ X Φ σ)) := by
    intro n
    induction n using Nat.strongRecOn with
    | _ n ih =>
      exact fun x1 x2 m σ hV hI => t_Mo_end_31 F hV (h31 n x1 x2 m hI) (fun x1 x2 m σ hV ⟨j, hj, hI⟩ => (ih j hj) x1 x2 m σ hV hI) (fun x1 x2 m σ hV ⟨j, hI⟩ => (hL71 j) x1 x2 m σ hV hI)
  refine jE.of (by decide) (by simp [Value.category]) (Nat.le_of_ble_eq_true rfl) rfl ?_
  exact t_Mo_end_0 F hV he (fun x1 x2 m σ hV ⟨j, hI⟩ => (hL31 j) x1 x2 m σ hV hI) (fun x1 x2 m σ hV ⟨j, hI⟩ => (hL71 j) x1 x2 m σ hV hI)
def w_Mo_wipe_0 (X : MX) (m : MS) (Φ : Option Value → MS → Prop) : Prop := ∀ m1, m1 = mI m 0 (0) → ∀ m2, m2 = mI m1 3 (0) → Φ none m2
theorem t_Mo_wipe_0 {X : MX} {a0 : Array Value} (F : mF X a0) {d : Nat} {m : MS} {σ : jS} {Φ : Option Value → MS → Prop} (hV : MV X m σ) (h : w_Mo_wipe_0 X m Φ) : jW X.1 X.2.1 jcl X.2.2.1 X.2.2.2.1 (d + 0) y_Mo_wipe 0 [some (.ref (mo X))] [] σ (mQ X Φ σ) := by
  unfold w_Mo_wipe_0 at h
  refine jW.aload_n (dx_Mo_wipe 0 (e := (0, .aload_n 0, 1)) rfl) rfl rfl (pc' := 1) rfl ?_
  refine jW.iconst (v := 0) (dx_Mo_wipe 1 (e := (1, .iconst 0, 1)) rfl) (by decide) (pc' := 2) rfl ?_
  refine jW.mpi F hV f_Mo_wipe_2 (by decide) rfl rfl rfl (pc' := 5) rfl (fun σ hV => ?_)
  replace h := h _ rfl
  refine jW.aload_n (dx_Mo_wipe 3 (e := (5, .aload_n 0, 1)) rfl) rfl rfl (pc' := 6) rfl ?_
  refine jW.iconst (v := 0) (dx_Mo_wipe 4 (e := (6, .iconst 0, 1)) rfl) (by decide) (pc' := 7) rfl ?_
  refine jW.mpi F hV f_Mo_wipe_7 (by decide) rfl rfl rfl (pc' := 10) rfl (fun σ hV => ?_)
  replace h := h _ rfl
  exact jW.vret (dx_Mo_wipe 6 (e := (10, .return_, 1)) rfl) rfl ⟨FR.rfl, _, hV, h⟩
theorem g_Mo_wipe {X : MX} {a0 : Array Value} (F : mF X a0) {m : MS} {Φ : Option Value → MS → Prop} (he : w_Mo_wipe_0 X m Φ) : mE X 0 y_Mo_wipe [.ref (mo X)] m Φ := by
  intro d σ hV
  refine jE.of (by decide) (by simp [Value.category]) (Nat.le_of_ble_eq_true rfl) rfl ?_
  exact t_Mo_wipe_0 F hV he
def w_Mo_read_78 (X : MX) (x1 s1 : Int32) (m : MS) (Φ : Option Value → MS → Prop) : Prop := ∀ m1, m1 = mI m 0 (s1) → ((m1.1 0 ≤ 0 → ∀ m2, m2 = mI m1 4 (1) → mE X 0 y_Mo_countAgain [.ref (mo X)] m2 (vP fun m3 => Φ (some (.int (m3.1 39))) m3)) ∧ (¬ m1.1 0 ≤ 0 → ∀ m4, m4 = mI m1 40 (0) → Φ (some (.int (0))) m4))
theorem t_Mo_read_78 {X : MX} {a0 : Array Value} (F : mF X a0) {d : Nat} {x1 s1 : Int32} {m : MS} {σ : jS} {Φ : Option Value → MS → Prop} (hV : MV X m σ) (h : w_Mo_read_78 X x1 s1 m Φ) : jW X.1 X.2.1 jcl X.2.2.1 X.2.2.2.1 (d + 12) y_Mo_read 78 [some (.ref (mo X)), some (.int x1)] [.int s1, .ref (mo X)] σ (mQ X Φ σ) := by
  unfold w_Mo_read_78 at h
  refine jW.mpi F hV f_Mo_read_78 (by decide) rfl rfl rfl (pc' := 81) rfl (fun σ hV => ?_)
  replace h := h _ rfl
  refine jW.aload_n (dx_Mo_read 45 (e := (81, .aload_n 0, 1)) rfl) rfl rfl (pc' := 82) rfl ?_
  refine jW.mgi F hV f_Mo_read_82 (by decide) (pc' := 85) rfl ?_
  refine jW.if_le (dx_Mo_read 47 (e := (85, .ifCond .le 10, 3)) rfl) 95 (by decide) (pc' := 88) rfl (fun c => ?_) (fun c => ?_)
  · replace h := h.1 c
    refine jW.aload_n (dx_Mo_read 53 (e := (95, .aload_n 0, 1)) rfl) rfl rfl (pc' := 96) rfl ?_
    refine jW.iconst (v := 1) (dx_Mo_read 54 (e := (96, .iconst 1, 1)) rfl) (by decide) (pc' := 97) rfl ?_
    refine jW.mpi F hV f_Mo_read_97 (by decide) rfl rfl rfl (pc' := 100) rfl (fun σ hV => ?_)
    replace h := h _ rfl
    refine jW.aload_n (dx_Mo_read 56 (e := (100, .aload_n 0, 1)) rfl) rfl rfl (pc' := 101) rfl ?_
    refine jW.callVe F (h (d + 11) _ hV) (dx_Mo_read 57 (e := (101, .invokevirtual 261, 3)) rfl) can_Mo_countAgain jw_1372 jw_1374 hV.cl rfl sel_Mo_countAgain rfl rfl (Nat.le_of_ble_eq_true rfl) (pc' := 104) rfl (fun r σ hr => ?_)
    clear hV
    refine mQ.up hr.1 ?_
    obtain ⟨_, hV, rfl, h⟩ := hr.2
    refine jW.aload_n (dx_Mo_read 58 (e := (104, .aload_n 0, 1)) rfl) rfl rfl (pc' := 105) rfl ?_
    refine jW.mgi F hV f_Mo_read_105 (by decide) (pc' := 108) rfl ?_
    exact jW.iret (dx_Mo_read 60 (e := (108, .ireturn, 1)) rfl) rfl ⟨FR.rfl, _, hV, h⟩
  · replace h := h.2 c
    refine jW.aload_n (dx_Mo_read 48 (e := (88, .aload_n 0, 1)) rfl) rfl rfl (pc' := 89) rfl ?_
    refine jW.iconst (v := 0) (dx_Mo_read 49 (e := (89, .iconst 0, 1)) rfl) (by decide) (pc' := 90) rfl ?_
    refine jW.mpi F hV f_Mo_read_90 (by decide) rfl rfl rfl (pc' := 93) rfl (fun σ hV => ?_)
    replace h := h _ rfl
    refine jW.iconst (v := 0) (dx_Mo_read 51 (e := (93, .iconst 0, 1)) rfl) (by decide) (pc' := 94) rfl ?_
    exact jW.iret (dx_Mo_read 52 (e := (94, .ireturn, 1)) rfl) rfl ⟨FR.rfl, _, hV, h⟩
def w_Mo_read_15 (X : MX) (x1 : Int32) (m : MS) (Φ : Option Value → MS → Prop) (K15 : Int32 → MS → Prop) : Prop := ((m.1 3 ≤ x1 → ∀ m1, m1 = mI m 10 (0) → ∀ m2, m2 = mI m1 5 (-1) → ∀ m3, m3 = mI m2 4 (0) → mE X 11 y_Mo_readBlocks [.ref (mo X)] m3 (vP fun m4 => ((m4.1 5 = -1 → w_Mo_read_78 X (x1) (0) m4 Φ) ∧ (¬ m4.1 5 = -1 → w_Mo_read_78 X (x1) (1) m4 Φ)))) ∧ (¬ m.1 3 ≤ x1 → (vp_in (x1) 3000 ∧ (vp_in (x1) 3000 ∧ ∀ m5, m5 = mA m 8 (x1 : Int32).toNatClampNeg ((m.2 1 (x1 : Int32).toNatClampNeg) &&& 255) → K15 (x1 + 1) m5))))
theorem t_Mo_read_15 {X : MX} {a0 : Array Value} (F : mF X a0) {d : Nat} {x1 : Int32} {m : MS} {σ : jS} {Φ : Option Value → MS → Prop} {K15 : Int32 → MS → Prop} (hV : MV X m σ) (h : w_Mo_read_15 X x1 m Φ K15) (hK15 : ∀ (x1 : Int32) (m : MS) (σ : jS), MV X m σ → K15 x1 m → jW X.1 X.2.1 jcl X.2.2.1 X.2.2.2.1 (d + 12) y_Mo_read 15 [some (.ref (mo X)), some (.int x1)] [] σ (mQ X Φ σ)) : jW X.1 X.2.1 jcl X.2.2.1 X.2.2.2.1 (d + 12) y_Mo_read 15 [some (.ref (mo X)), some (.int x1)] [] σ (mQ X Φ σ) := by
  unfold w_Mo_read_15 at h
  refine jW.iload_n (dx_Mo_read 9 (e := (15, .iload_n 1, 1)) rfl) rfl rfl (pc' := 16) rfl ?_
  refine jW.aload_n (dx_Mo_read 10 (e := (16, .aload_n 0, 1)) rfl) rfl rfl (pc' := 17) rfl ?_
  refine jW.mgi F hV f_Mo_read_17 (by decide) (pc' := 20) rfl ?_
  refine jW.icmp_ge (dx_Mo_read 12 (e := (20, .if_icmp .ge 25, 3)) rfl) 45 (by decide) (pc' := 23) rfl (fun c => ?_) (fun c => ?_)
  · replace h := h.1 c
    refine jW.aload_n (dx_Mo_read 25 (e := (45, .aload_n 0, 1)) rfl) rfl rfl (pc' := 46) rfl ?_
    refine jW.iconst (v := 0) (dx_Mo_read 26 (e := (46, .iconst 0, 1)) rfl) (by decide) (pc' := 47) rfl ?_
    refine jW.mpi F hV f_Mo_read_47 (by decide) rfl rfl rfl (pc' := 50) rfl (fun σ hV => ?_)
    replace h := h _ rfl
    refine jW.aload_n (dx_Mo_read 28 (e := (50, .aload_n 0, 1)) rfl) rfl rfl (pc' := 51) rfl ?_
    refine jW.iconst (v := -1) (dx_Mo_read 29 (e := (51, .iconst (-1), 1)) rfl) (by decide) (pc' := 52) rfl ?_
    refine jW.mpi F hV f_Mo_read_52 (by decide) rfl rfl rfl (pc' := 55) rfl (fun σ hV => ?_)
    replace h := h _ rfl
    refine jW.aload_n (dx_Mo_read 31 (e := (55, .aload_n 0, 1)) rfl) rfl rfl (pc' := 56) rfl ?_
    refine jW.iconst (v := 0) (dx_Mo_read 32 (e := (56, .iconst 0, 1)) rfl) (by decide) (pc' := 57) rfl ?_
    refine jW.mpi F hV f_Mo_read_57 (by decide) rfl rfl rfl (pc' := 60) rfl (fun σ hV => ?_)
    replace h := h _ rfl
    refine jW.aload_n (dx_Mo_read 34 (e := (60, .aload_n 0, 1)) rfl) rfl rfl (pc' := 61) rfl ?_
    refine jW.callVe F (h (d + 0) _ hV) (dx_Mo_read 35 (e := (61, .invokevirtual 255, 3)) rfl) can_Mo_readBlocks jw_1170 jw_1172 hV.cl rfl sel_Mo_readBlocks rfl rfl (Nat.le_of_ble_eq_true rfl) (pc' := 64) rfl (fun r σ hr => ?_)
    clear hV
    refine mQ.up hr.1 ?_
    obtain ⟨_, hV, rfl, h⟩ := hr.2
    refine jW.aload_n (dx_Mo_read 36 (e := (64, .aload_n 0, 1)) rfl) rfl rfl (pc' := 65) rfl ?_
    refine jW.aload_n (dx_Mo_read 37 (e := (65, .aload_n 0, 1)) rfl) rfl rfl (pc' := 66) rfl ?_
    refine jW.mgi F hV f_Mo_read_66 (by decide) (pc' := 69) rfl ?_
    refine jW.iconst (v := -1) (dx_Mo_read 39 (e := (69, .iconst (-1), 1)) rfl) (by decide) (pc' := 70) rfl ?_
    refine jW.icmp_eq (dx_Mo_read 40 (e := (70, .if_icmp .eq 7, 3)) rfl) 77 (by decide) (pc' := 73) rfl (fun c => ?_) (fun c => ?_)
    · replace h := h.1 c
      refine jW.iconst (v := 0) (dx_Mo_read 43 (e := (77, .iconst 0, 1)) rfl) (by decide) (pc' := 78) rfl ?_
      exact t_Mo_read_78 F hV h
    · replace h := h.2 c
      refine jW.iconst (v := 1) (dx_Mo_read 41 (e := (73, .iconst 1, 1)) rfl) (by decide) (pc' := 74) rfl ?_
      refine jW.goto (dx_Mo_read 42 (e := (74, .goto 4, 3)) rfl) 78 (by decide) ?_
      exact t_Mo_read_78 F hV h
  · replace h := h.2 c
    refine jW.aload_n (dx_Mo_read 13 (e := (23, .aload_n 0, 1)) rfl) rfl rfl (pc' := 24) rfl ?_
    refine jW.mga F hV f_Mo_read_24 (by decide) (pc' := 27) rfl ?_
    refine jW.iload_n (dx_Mo_read 15 (e := (27, .iload_n 1, 1)) rfl) rfl rfl (pc' := 28) rfl ?_
    refine jW.aload_n (dx_Mo_read 16 (e := (28, .aload_n 0, 1)) rfl) rfl rfl (pc' := 29) rfl ?_
    refine jW.mga F hV f_Mo_read_29 (by decide) (pc' := 32) rfl ?_
    refine jW.iload_n (dx_Mo_read 18 (e := (32, .iload_n 1, 1)) rfl) rfl rfl (pc' := 33) rfl ?_
    refine jW.mlb F hV (dx_Mo_read 19 (e := (33, .baload, 1)) rfl) (by decide) rfl h.1 (pc' := 34) rfl ?_
    replace h := h.2
    refine jW.sipush (v := 255) (dx_Mo_read 20 (e := (34, .sipush 255, 3)) rfl) (by decide) (pc' := 37) rfl ?_
    refine jW.iand (dx_Mo_read 21 (e := (37, .iand, 1)) rfl) (pc' := 38) rfl ?_
    refine jW.msa F hV (dx_Mo_read 22 (e := (38, .iastore, 1)) rfl) (by decide) rfl h.1 (pc' := 39) rfl (fun σ hV => ?_)
    replace h := h.2 _ rfl
    refine jW.iinc (v := _ + (1)) (dx_Mo_read 23 (e := (39, .iinc 1 1, 3)) rfl) rfl rfl (by decide) rfl (pc' := 42) rfl ?_
    refine jW.goto (dx_Mo_read 24 (e := (42, .goto (-27), 3)) rfl) 15 (by decide) ?_
    exact hK15 _ _ _ hV h
def w_Mo_read_0 (X : MX) (m : MS) (Φ : Option Value → MS → Prop) (K15 : Int32 → MS → Prop) : Prop := ∀ m1, m1 = mI m 0 (0) → ∀ m2, m2 = mI m1 11 (m1.1 3) → K15 (0) m2
theorem t_Mo_read_0 {X : MX} {a0 : Array Value} (F : mF X a0) {d : Nat} {o1 : Option Value} {m : MS} {σ : jS} {Φ : Option Value → MS → Prop} {K15 : Int32 → MS → Prop} (hV : MV X m σ) (h : w_Mo_read_0 X m Φ K15) (hK15 : ∀ (x1 : Int32) (m : MS) (σ : jS), MV X m σ → K15 x1 m → jW X.1 X.2.1 jcl X.2.2.1 X.2.2.2.1 (d + 12) y_Mo_read 15 [some (.ref (mo X)), some (.int x1)] [] σ (mQ X Φ σ)) : jW X.1 X.2.1 jcl X.2.2.1 X.2.2.2.1 (d + 12) y_Mo_read 0 [some (.ref (mo X)), o1] [] σ (mQ X Φ σ) := by
  unfold w_Mo_read_0 at h
  refine jW.aload_n (dx_Mo_read 0 (e := (0, .aload_n 0, 1)) rfl) rfl rfl (pc' := 1) rfl ?_
  refine jW.iconst (v := 0) (dx_Mo_read 1 (e := (1, .iconst 0, 1)) rfl) (by decide) (pc' := 2) rfl ?_
  refine jW.mpi F hV f_Mo_read_2 (by decide) rfl rfl rfl (pc' := 5) rfl (fun σ hV => ?_)
  replace h := h _ rfl
  refine jW.aload_n (dx_Mo_read 3 (e := (5, .aload_n 0, 1)) rfl) rfl rfl (pc' := 6) rfl ?_
  refine jW.aload_n (dx_Mo_read 4 (e := (6, .aload_n 0, 1)) rfl) rfl rfl (pc' := 7) rfl ?_
  refine jW.mgi F hV f_Mo_read_7 (by decide) (pc' := 10) rfl ?_
  refine jW.mpi F hV f_Mo_read_10 (by decide) rfl rfl rfl (pc' := 13) rfl (fun σ hV => ?_)
  replace h := h _ rfl
  refine jW.iconst (v := 0) (dx_Mo_read 7 (e := (13, .iconst 0, 1)) rfl) (by decide) (pc' := 14) rfl ?_
  refine jW.istore_n (dx_Mo_read 8 (e := (14, .istore_n 1, 1)) rfl) rfl (by decide) rfl (pc' := 15) rfl ?_
  exact hK15 _ _ _ hV h
theorem g_Mo_read {X : MX} {a0 : Array Value} (F : mF X a0) {m : MS} {Φ : Option Value → MS → Prop} {I15 : Nat → Int32 → MS → Prop} (he : w_Mo_read_0 X m Φ (fun x1 m => ∃ j, I15 j x1 m)) (h15 : ∀ (n : Nat) (x1 : Int32) (m : MS), I15 n x1 m → w_Mo_read_15 X x1 m Φ (fun x1 m => ∃ j, j < n ∧ I15 j x1 m)) : mE X 12 y_Mo_read [.ref (mo X)] m Φ := by
  intro d σ hV
  have hL15 : ∀ n, (∀ (x1 : Int32) (m : MS) (σ : jS), MV X m σ → I15 n x1 m → jW X.1 X.2.1 jcl X.2.2.1 X.2.2.2.1 (d + 12) y_Mo_read 15 [some (.ref (mo X)), some (.int x1)] [] σ (mQ X Φ σ)) := by
    intro n
    induction n using Nat.strongRecOn with
    | _ n ih =>
      exact fun x1 m σ hV hI => t_Mo_read_15 F hV (h15 n x1 m hI) (fun x1 m σ hV ⟨j, hj, hI⟩ => (ih j hj) x1 m σ hV hI)
  refine jE.of (by decide) (by simp [Value.category]) (Nat.le_of_ble_eq_true rfl) rfl ?_
  exact t_Mo_read_0 F hV he (fun x1 m σ hV ⟨j, hI⟩ => (hL15 j) x1 m σ hV hI)
def w_Mo_readBlocks_157 (X : MX) (x1 : Int32) (m : MS) (Φ : Option Value → MS → Prop) : Prop := ((m.1 5 = -1 → mE X 6 y_Mo_closeTo [.ref (mo X), .int (1)] m (vP fun m1 => mE X 0 y_Mo_findLoose [.ref (mo X)] m1 (vP fun m2 => Φ none m2))) ∧ (¬ m.1 5 = -1 → Φ none m))
theorem t_Mo_readBlocks_157 {X : MX} {a0 : Array Value} (F : mF X a0) {d : Nat} {x1 : Int32} {m : MS} {σ : jS} {Φ : Option Value → MS → Prop} (hV : MV X m σ) (h : w_Mo_readBlocks_157 X x1 m Φ) : jW X.1 X.2.1 jcl X.2.2.1 X.2.2.2.1 (d + 11) y_Mo_readBlocks 157 [some (.ref (mo X)), some (.int x1)] [] σ (mQ X Φ σ) := by
  unfold w_Mo_readBlocks_157 at h
  refine jW.aload_n (dx_Mo_readBlocks 101 (e := (157, .aload_n 0, 1)) rfl) rfl rfl (pc' := 158) rfl ?_
  refine jW.mgi F hV f_Mo_readBlocks_158 (by decide) (pc' := 161) rfl ?_
  refine jW.iconst (v := -1) (dx_Mo_readBlocks 103 (e := (161, .iconst (-1), 1)) rfl) (by decide) (pc' := 162) rfl ?_
  refine jW.icmp_eq (dx_Mo_readBlocks 104 (e := (162, .if_icmp .eq 4, 3)) rfl) 166 (by decide) (pc' := 165) rfl (fun c => ?_) (fun c => ?_)
  · replace h := h.1 c
    refine jW.aload_n (dx_Mo_readBlocks 106 (e := (166, .aload_n 0, 1)) rfl) rfl rfl (pc' := 167) rfl ?_
    refine jW.iconst (v := 1) (dx_Mo_readBlocks 107 (e := (167, .iconst 1, 1)) rfl) (by decide) (pc' := 168) rfl ?_
    refine jW.callVe F (h (d + 4) _ hV) (dx_Mo_readBlocks 108 (e := (168, .invokevirtual 171, 3)) rfl) can_Mo_closeTo jw_1202 jw_1204 hV.cl rfl sel_Mo_closeTo rfl rfl (Nat.le_of_ble_eq_true rfl) (pc' := 171) rfl (fun r σ hr => ?_)
    clear hV
    refine mQ.up hr.1 ?_
    obtain ⟨_, hV, rfl, h⟩ := hr.2
    refine jW.aload_n (dx_Mo_readBlocks 109 (e := (171, .aload_n 0, 1)) rfl) rfl rfl (pc' := 172) rfl ?_
    refine jW.callVe F (h (d + 10) _ hV) (dx_Mo_readBlocks 110 (e := (172, .invokevirtual 276, 3)) rfl) can_Mo_findLoose jw_1368 jw_1370 hV.cl rfl sel_Mo_findLoose rfl rfl (Nat.le_of_ble_eq_true rfl) (pc' := 175) rfl (fun r σ hr => ?_)
    clear hV
    refine mQ.up hr.1 ?_
    obtain ⟨_, hV, rfl, h⟩ := hr.2
    exact jW.vret (dx_Mo_readBlocks 111 (e := (175, .return_, 1)) rfl) rfl ⟨FR.rfl, _, hV, h⟩
  · replace h := h.2 c
    exact jW.vret (dx_Mo_readBlocks 105 (e := (165, .return_, 1)) rfl) rfl ⟨FR.rfl, _, hV, h⟩
def w_Mo_readBlocks_114 (X : MX) (x1 : Int32) (m : MS) (Φ : Option Value → MS → Prop) (K114 : Int32 → MS → Prop) : Prop := ((m.1 11 ≤ x1 → w_Mo_readBlocks_157 X (x1) m Φ) ∧ (¬ m.1 11 ≤ x1 → ((m.1 5 = -1 → mE X 0 y_Mo_lineFrom [.ref (mo X), .int (x1)] m (iP fun r1 m1 => mE X 10 y_Mo_takeLine [.ref (mo X), .int (m1.1 6)] m1 (vP fun m2 => ∀ m3, m3 = mI m2 6 ((m2.1 6) + 1) → K114 (r1) m3))) ∧ (¬ m.1 5 = -1 → w_Mo_readBlocks_157 X (x1) m Φ))))
theorem t_Mo_readBlocks_114 {X : MX} {a0 : Array Value} (F : mF X a0) {d : Nat} {x1 : Int32} {m : MS} {σ : jS} {Φ : Option Value → MS → Prop} {K114 : Int32 → MS → Prop} (hV : MV X m σ) (h : w_Mo_readBlocks_114 X x1 m Φ K114) (hK114 : ∀ (x1 : Int32) (m : MS) (σ : jS), MV X m σ → K114 x1 m → jW X.1 X.2.1 jcl X.2.2.1 X.2.2.2.1 (d + 11) y_Mo_readBlocks 114 [some (.ref (mo X)), some (.int x1)] [] σ (mQ X Φ σ)) : jW X.1 X.2.1 jcl X.2.2.1 X.2.2.2.1 (d + 11) y_Mo_readBlocks 114 [some (.ref (mo X)), some (.int x1)] [] σ (mQ X Φ σ) := by
  unfold w_Mo_readBlocks_114 at h
  refine jW.iload_n (dx_Mo_readBlocks 78 (e := (114, .iload_n 1, 1)) rfl) rfl rfl (pc' := 115) rfl ?_
  refine jW.aload_n (dx_Mo_readBlocks 79 (e := (115, .aload_n 0, 1)) rfl) rfl rfl (pc' := 116) rfl ?_
  refine jW.mgi F hV f_Mo_readBlocks_116 (by decide) (pc' := 119) rfl ?_
  refine jW.icmp_ge (dx_Mo_readBlocks 81 (e := (119, .if_icmp .ge 38, 3)) rfl) 157 (by decide) (pc' := 122) rfl (fun c => ?_) (fun c => ?_)
  · replace h := h.1 c
    exact t_Mo_readBlocks_157 F hV h
  · replace h := h.2 c
    refine jW.aload_n (dx_Mo_readBlocks 82 (e := (122, .aload_n 0, 1)) rfl) rfl rfl (pc' := 123) rfl ?_
    refine jW.mgi F hV f_Mo_readBlocks_123 (by decide) (pc' := 126) rfl ?_
    refine jW.iconst (v := -1) (dx_Mo_readBlocks 84 (e := (126, .iconst (-1), 1)) rfl) (by decide) (pc' := 127) rfl ?_
    refine jW.icmp_ne (dx_Mo_readBlocks 85 (e := (127, .if_icmp .ne 30, 3)) rfl) 157 (by decide) (pc' := 130) rfl (fun c => ?_) (fun c => ?_)
    · replace h := h.2 c
      exact t_Mo_readBlocks_157 F hV h
    · replace h := h.1 c
      refine jW.aload_n (dx_Mo_readBlocks 86 (e := (130, .aload_n 0, 1)) rfl) rfl rfl (pc' := 131) rfl ?_
      refine jW.iload_n (dx_Mo_readBlocks 87 (e := (131, .iload_n 1, 1)) rfl) rfl rfl (pc' := 132) rfl ?_
      refine jW.callVe F (h (d + 10) _ hV) (dx_Mo_readBlocks 88 (e := (132, .invokevirtual 270, 3)) rfl) can_Mo_lineFrom jw_1174 jw_1176 hV.cl rfl sel_Mo_lineFrom rfl rfl (Nat.le_of_ble_eq_true rfl) (pc' := 135) rfl (fun r σ hr => ?_)
      clear hV
      refine mQ.up hr.1 ?_
      obtain ⟨_, hV, _, rfl, h⟩ := hr.2
      refine jW.istore_n (dx_Mo_readBlocks 89 (e := (135, .istore_n 1, 1)) rfl) rfl (by decide) rfl (pc' := 136) rfl ?_
      refine jW.aload_n (dx_Mo_readBlocks 90 (e := (136, .aload_n 0, 1)) rfl) rfl rfl (pc' := 137) rfl ?_
      refine jW.aload_n (dx_Mo_readBlocks 91 (e := (137, .aload_n 0, 1)) rfl) rfl rfl (pc' := 138) rfl ?_
      refine jW.mgi F hV f_Mo_readBlocks_138 (by decide) (pc' := 141) rfl ?_
      refine jW.callVe F (h (d + 0) _ hV) (dx_Mo_readBlocks 93 (e := (141, .invokevirtual 273, 3)) rfl) can_Mo_takeLine jw_1178 jw_1180 hV.cl rfl sel_Mo_takeLine rfl rfl (Nat.le_of_ble_eq_true rfl) (pc' := 144) rfl (fun r σ hr => ?_)
      clear hV
      refine mQ.up hr.1 ?_
      obtain ⟨_, hV, rfl, h⟩ := hr.2
      refine jW.aload_n (dx_Mo_readBlocks 94 (e := (144, .aload_n 0, 1)) rfl) rfl rfl (pc' := 145) rfl ?_
      refine jW.dup (dx_Mo_readBlocks 95 (e := (145, .dup, 1)) rfl) rfl (pc' := 146) rfl ?_
      refine jW.mgi F hV f_Mo_readBlocks_146 (by decide) (pc' := 149) rfl ?_
      refine jW.iconst (v := 1) (dx_Mo_readBlocks 97 (e := (149, .iconst 1, 1)) rfl) (by decide) (pc' := 150) rfl ?_
      refine jW.iadd (dx_Mo_readBlocks 98 (e := (150, .iadd, 1)) rfl) (pc' := 151) rfl ?_
      refine jW.mpi F hV f_Mo_readBlocks_151 (by decide) rfl rfl rfl (pc' := 154) rfl (fun σ hV => ?_)
      replace h := h _ rfl
      refine jW.goto (dx_Mo_readBlocks 100 (e := (154, .goto (-40), 3)) rfl) 114 (by decide) ?_
      exact hK114 _ _ _ hV h
def w_Mo_readBlocks_0 (X : MX) (m : MS) (Φ : Option Value → MS → Prop) (K114 : Int32 → MS → Prop) : Prop := ∀ m1, m1 = mI m 28 (0) → ∀ m2, m2 = mI m1 30 (0) → ∀ m3, m3 = mI m2 32 (-1) → ∀ m4, m4 = mI m3 40 (0) → (vp_in (0) 3300 ∧ ∀ m5, m5 = mA m4 13 (0 : Int32).toNatClampNeg (0) → (vp_in (0) 3300 ∧ ∀ m6, m6 = mA m5 14 (0 : Int32).toNatClampNeg (-1) → (vp_in (0) 3300 ∧ ∀ m7, m7 = mA m6 15 (0 : Int32).toNatClampNeg (0) → (vp_in (0) 3300 ∧ ∀ m8, m8 = mA m7 16 (0 : Int32).toNatClampNeg (0) → (vp_in (0) 3300 ∧ ∀ m9, m9 = mA m8 17 (0 : Int32).toNatClampNeg (0) → (vp_in (0) 3300 ∧ ∀ m10, m10 = mA m9 25 (0 : Int32).toNatClampNeg (0) → (vp_in (0) 3300 ∧ ∀ m11, m11 = mA m10 19 (0 : Int32).toNatClampNeg (0) → (vp_in (0) 3300 ∧ ∀ m12, m12 = mA m11 21 (0 : Int32).toNatClampNeg (0) → (vp_in (0) 3300 ∧ ∀ m13, m13 = mA m12 26 (0 : Int32).toNatClampNeg (0 &&& 1) → (vp_in (0) 3300 ∧ ∀ m14, m14 = mA m13 27 (0 : Int32).toNatClampNeg (0 &&& 1) → ∀ m15, m15 = mI m14 28 (1) → (vp_in (0) 40 ∧ ∀ m16, m16 = mA m15 29 (0 : Int32).toNatClampNeg (0) → ∀ m17, m17 = mI m16 30 (1) → ∀ m18, m18 = mI m17 6 (0) → K114 (0) m18)))))))))))
theorem t_Mo_readBlocks_0 {X : MX} {a0 : Array Value} (F : mF X a0) {d : Nat} {o1 : Option Value} {m : MS} {σ : jS} {Φ : Option Value → MS → Prop} {K114 : Int32 → MS → Prop} (hV : MV X m σ) (h : w_Mo_readBlocks_0 X m Φ K114) (hK114 : ∀ (x1 : Int32) (m : MS) (σ : jS), MV X m σ → K114 x1 m → jW X.1 X.2.1 jcl X.2.2.1 X.2.2.2.1 (d + 11) y_Mo_readBlocks 114 [some (.ref (mo X)), some (.int x1)] [] σ (mQ X Φ σ)) : jW X.1 X.2.1 jcl X.2.2.1 X.2.2.2.1 (d + 11) y_Mo_readBlocks 0 [some (.ref (mo X)), o1] [] σ (mQ X Φ σ) := by
  unfold w_Mo_readBlocks_0 at h
  refine jW.aload_n (dx_Mo_readBlocks 0 (e := (0, .aload_n 0, 1)) rfl) rfl rfl (pc' := 1) rfl ?_
  refine jW.iconst (v := 0) (dx_Mo_readBlocks 1 (e := (1, .iconst 0, 1)) rfl) (by decide) (pc' := 2) rfl ?_
  refine jW.mpi F hV f_Mo_readBlocks_2 (by decide) rfl rfl rfl (pc' := 5) rfl (fun σ hV => ?_)
  replace h := h _ rfl
  refine jW.aload_n (dx_Mo_readBlocks 3 (e := (5, .aload_n 0, 1)) rfl) rfl rfl (pc' := 6) rfl ?_
  refine jW.iconst (v := 0) (dx_Mo_readBlocks 4 (e := (6, .iconst 0, 1)) rfl) (by decide) (pc' := 7) rfl ?_
  refine jW.mpi F hV f_Mo_readBlocks_7 (by decide) rfl rfl rfl (pc' := 10) rfl (fun σ hV => ?_)
  replace h := h _ rfl
  refine jW.aload_n (dx_Mo_readBlocks 6 (e := (10, .aload_n 0, 1)) rfl) rfl rfl (pc' := 11) rfl ?_
  refine jW.iconst (v := -1) (dx_Mo_readBlocks 7 (e := (11, .iconst (-1), 1)) rfl) (by decide) (pc' := 12) rfl ?_
  refine jW.mpi F hV f_Mo_readBlocks_12 (by decide) rfl rfl rfl (pc' := 15) rfl (fun σ hV => ?_)
  replace h := h _ rfl
  refine jW.aload_n (dx_Mo_readBlocks 9 (e := (15, .aload_n 0, 1)) rfl) rfl rfl (pc' := 16) rfl ?_
  refine jW.iconst (v := 0) (dx_Mo_readBlocks 10 (e := (16, .iconst 0, 1)) rfl) (by decide) (pc' := 17) rfl ?_
  refine jW.mpi F hV f_Mo_readBlocks_17 (by decide) rfl rfl rfl (pc' := 20) rfl (fun σ hV => ?_)
  replace h := h _ rfl
  refine jW.aload_n (dx_Mo_readBlocks 12 (e := (20, .aload_n 0, 1)) rfl) rfl rfl (pc' := 21) rfl ?_
  refine jW.mga F hV f_Mo_readBlocks_21 (by decide) (pc' := 24) rfl ?_
  refine jW.iconst (v := 0) (dx_Mo_readBlocks 14 (e := (24, .iconst 0, 1)) rfl) (by decide) (pc' := 25) rfl ?_
  refine jW.iconst (v := 0) (dx_Mo_readBlocks 15 (e := (25, .iconst 0, 1)) rfl) (by decide) (pc' := 26) rfl ?_
  refine jW.msa F hV (dx_Mo_readBlocks 16 (e := (26, .iastore, 1)) rfl) (by decide) rfl h.1 (pc' := 27) rfl (fun σ hV => ?_)
  replace h := h.2 _ rfl
  refine jW.aload_n (dx_Mo_readBlocks 17 (e := (27, .aload_n 0, 1)) rfl) rfl rfl (pc' := 28) rfl ?_
  refine jW.mga F hV f_Mo_readBlocks_28 (by decide) (pc' := 31) rfl ?_
  refine jW.iconst (v := 0) (dx_Mo_readBlocks 19 (e := (31, .iconst 0, 1)) rfl) (by decide) (pc' := 32) rfl ?_
  refine jW.iconst (v := -1) (dx_Mo_readBlocks 20 (e := (32, .iconst (-1), 1)) rfl) (by decide) (pc' := 33) rfl ?_
  refine jW.msa F hV (dx_Mo_readBlocks 21 (e := (33, .iastore, 1)) rfl) (by decide) rfl h.1 (pc' := 34) rfl (fun σ hV => ?_)
  replace h := h.2 _ rfl
  refine jW.aload_n (dx_Mo_readBlocks 22 (e := (34, .aload_n 0, 1)) rfl) rfl rfl (pc' := 35) rfl ?_
  refine jW.mga F hV f_Mo_readBlocks_35 (by decide) (pc' := 38) rfl ?_
  refine jW.iconst (v := 0) (dx_Mo_readBlocks 24 (e := (38, .iconst 0, 1)) rfl) (by decide) (pc' := 39) rfl ?_
  refine jW.iconst (v := 0) (dx_Mo_readBlocks 25 (e := (39, .iconst 0, 1)) rfl) (by decide) (pc' := 40) rfl ?_
  refine jW.msa F hV (dx_Mo_readBlocks 26 (e := (40, .iastore, 1)) rfl) (by decide) rfl h.1 (pc' := 41) rfl (fun σ hV => ?_)
  replace h := h.2 _ rfl
  refine jW.aload_n (dx_Mo_readBlocks 27 (e := (41, .aload_n 0, 1)) rfl) rfl rfl (pc' := 42) rfl ?_
  refine jW.mga F hV f_Mo_readBlocks_42 (by decide) (pc' := 45) rfl ?_
  refine jW.iconst (v := 0) (dx_Mo_readBlocks 29 (e := (45, .iconst 0, 1)) rfl) (by decide) (pc' := 46) rfl ?_
  refine jW.iconst (v := 0) (dx_Mo_readBlocks 30 (e := (46, .iconst 0, 1)) rfl) (by decide) (pc' := 47) rfl ?_
  refine jW.msa F hV (dx_Mo_readBlocks 31 (e := (47, .iastore, 1)) rfl) (by decide) rfl h.1 (pc' := 48) rfl (fun σ hV => ?_)
  replace h := h.2 _ rfl
  refine jW.aload_n (dx_Mo_readBlocks 32 (e := (48, .aload_n 0, 1)) rfl) rfl rfl (pc' := 49) rfl ?_
  refine jW.mga F hV f_Mo_readBlocks_49 (by decide) (pc' := 52) rfl ?_
  refine jW.iconst (v := 0) (dx_Mo_readBlocks 34 (e := (52, .iconst 0, 1)) rfl) (by decide) (pc' := 53) rfl ?_
  refine jW.iconst (v := 0) (dx_Mo_readBlocks 35 (e := (53, .iconst 0, 1)) rfl) (by decide) (pc' := 54) rfl ?_
  refine jW.msa F hV (dx_Mo_readBlocks 36 (e := (54, .iastore, 1)) rfl) (by decide) rfl h.1 (pc' := 55) rfl (fun σ hV => ?_)
  replace h := h.2 _ rfl
  refine jW.aload_n (dx_Mo_readBlocks 37 (e := (55, .aload_n 0, 1)) rfl) rfl rfl (pc' := 56) rfl ?_
  refine jW.mga F hV f_Mo_readBlocks_56 (by decide) (pc' := 59) rfl ?_
  refine jW.iconst (v := 0) (dx_Mo_readBlocks 39 (e := (59, .iconst 0, 1)) rfl) (by decide) (pc' := 60) rfl ?_
  refine jW.iconst (v := 0) (dx_Mo_readBlocks 40 (e := (60, .iconst 0, 1)) rfl) (by decide) (pc' := 61) rfl ?_
  refine jW.msa F hV (dx_Mo_readBlocks 41 (e := (61, .iastore, 1)) rfl) (by decide) rfl h.1 (pc' := 62) rfl (fun σ hV => ?_)
  replace h := h.2 _ rfl
  refine jW.aload_n (dx_Mo_readBlocks 42 (e := (62, .aload_n 0, 1)) rfl) rfl rfl (pc' := 63) rfl ?_
  refine jW.mga F hV f_Mo_readBlocks_63 (by decide) (pc' := 66) rfl ?_
  refine jW.iconst (v := 0) (dx_Mo_readBlocks 44 (e := (66, .iconst 0, 1)) rfl) (by decide) (pc' := 67) rfl ?_
  refine jW.iconst (v := 0) (dx_Mo_readBlocks 45 (e := (67, .iconst 0, 1)) rfl) (by decide) (pc' := 68) rfl ?_
  refine jW.msa F hV (dx_Mo_readBlocks 46 (e := (68, .iastore, 1)) rfl) (by decide) rfl h.1 (pc' := 69) rfl (fun σ hV => ?_)
  replace h := h.2 _ rfl
  refine jW.aload_n (dx_Mo_readBlocks 47 (e := (69, .aload_n 0, 1)) rfl) rfl rfl (pc' := 70) rfl ?_
  refine jW.mga F hV f_Mo_readBlocks_70 (by decide) (pc' := 73) rfl ?_
  refine jW.iconst (v := 0) (dx_Mo_readBlocks 49 (e := (73, .iconst 0, 1)) rfl) (by decide) (pc' := 74) rfl ?_
  refine jW.iconst (v := 0) (dx_Mo_readBlocks 50 (e := (74, .iconst 0, 1)) rfl) (by decide) (pc' := 75) rfl ?_
  refine jW.msa F hV (dx_Mo_readBlocks 51 (e := (75, .iastore, 1)) rfl) (by decide) rfl h.1 (pc' := 76) rfl (fun σ hV => ?_)
  replace h := h.2 _ rfl
  refine jW.aload_n (dx_Mo_readBlocks 52 (e := (76, .aload_n 0, 1)) rfl) rfl rfl (pc' := 77) rfl ?_
  refine jW.mga F hV f_Mo_readBlocks_77 (by decide) (pc' := 80) rfl ?_
  refine jW.iconst (v := 0) (dx_Mo_readBlocks 54 (e := (80, .iconst 0, 1)) rfl) (by decide) (pc' := 81) rfl ?_
  refine jW.iconst (v := 0) (dx_Mo_readBlocks 55 (e := (81, .iconst 0, 1)) rfl) (by decide) (pc' := 82) rfl ?_
  refine jW.msz F hV (dx_Mo_readBlocks 56 (e := (82, .bastore, 1)) rfl) (by decide) rfl h.1 (pc' := 83) rfl (fun σ hV => ?_)
  replace h := h.2 _ rfl
  refine jW.aload_n (dx_Mo_readBlocks 57 (e := (83, .aload_n 0, 1)) rfl) rfl rfl (pc' := 84) rfl ?_
  refine jW.mga F hV f_Mo_readBlocks_84 (by decide) (pc' := 87) rfl ?_
  refine jW.iconst (v := 0) (dx_Mo_readBlocks 59 (e := (87, .iconst 0, 1)) rfl) (by decide) (pc' := 88) rfl ?_
  refine jW.iconst (v := 0) (dx_Mo_readBlocks 60 (e := (88, .iconst 0, 1)) rfl) (by decide) (pc' := 89) rfl ?_
  refine jW.msz F hV (dx_Mo_readBlocks 61 (e := (89, .bastore, 1)) rfl) (by decide) rfl h.1 (pc' := 90) rfl (fun σ hV => ?_)
  replace h := h.2 _ rfl
  refine jW.aload_n (dx_Mo_readBlocks 62 (e := (90, .aload_n 0, 1)) rfl) rfl rfl (pc' := 91) rfl ?_
  refine jW.iconst (v := 1) (dx_Mo_readBlocks 63 (e := (91, .iconst 1, 1)) rfl) (by decide) (pc' := 92) rfl ?_
  refine jW.mpi F hV f_Mo_readBlocks_92 (by decide) rfl rfl rfl (pc' := 95) rfl (fun σ hV => ?_)
  replace h := h _ rfl
  refine jW.aload_n (dx_Mo_readBlocks 65 (e := (95, .aload_n 0, 1)) rfl) rfl rfl (pc' := 96) rfl ?_
  refine jW.mga F hV f_Mo_readBlocks_96 (by decide) (pc' := 99) rfl ?_
  refine jW.iconst (v := 0) (dx_Mo_readBlocks 67 (e := (99, .iconst 0, 1)) rfl) (by decide) (pc' := 100) rfl ?_
  refine jW.iconst (v := 0) (dx_Mo_readBlocks 68 (e := (100, .iconst 0, 1)) rfl) (by decide) (pc' := 101) rfl ?_
  refine jW.msa F hV (dx_Mo_readBlocks 69 (e := (101, .iastore, 1)) rfl) (by decide) rfl h.1 (pc' := 102) rfl (fun σ hV => ?_)
  replace h := h.2 _ rfl
  refine jW.aload_n (dx_Mo_readBlocks 70 (e := (102, .aload_n 0, 1)) rfl) rfl rfl (pc' := 103) rfl ?_
  refine jW.iconst (v := 1) (dx_Mo_readBlocks 71 (e := (103, .iconst 1, 1)) rfl) (by decide) (pc' := 104) rfl ?_
  refine jW.mpi F hV f_Mo_readBlocks_104 (by decide) rfl rfl rfl (pc' := 107) rfl (fun σ hV => ?_)
  replace h := h _ rfl
  refine jW.iconst (v := 0) (dx_Mo_readBlocks 73 (e := (107, .iconst 0, 1)) rfl) (by decide) (pc' := 108) rfl ?_
  refine jW.istore_n (dx_Mo_readBlocks 74 (e := (108, .istore_n 1, 1)) rfl) rfl (by decide) rfl (pc' := 109) rfl ?_
  refine jW.aload_n (dx_Mo_readBlocks 75 (e := (109, .aload_n 0, 1)) rfl) rfl rfl (pc' := 110) rfl ?_
  refine jW.iconst (v := 0) (dx_Mo_readBlocks 76 (e := (110, .iconst 0, 1)) rfl) (by decide) (pc' := 111) rfl ?_
  refine jW.mpi F hV f_Mo_readBlocks_111 (by decide) rfl rfl rfl (pc' := 114) rfl (fun σ hV => ?_)
  replace h := h _ rfl
  exact hK114 _ _ _ hV h
theorem g_Mo_readBlocks {X : MX} {a0 : Array Value} (F : mF X a0) {m : MS} {Φ : Option Value → MS → Prop} {I114 : Nat → Int32 → MS → Prop} (he : w_Mo_readBlocks_0 X m Φ (fun x1 m => ∃ j, I114 j x1 m)) (h114 : ∀ (n : Nat) (x1 : Int32) (m : MS), I114 n x1 m → w_Mo_readBlocks_114 X x1 m Φ (fun x1 m => ∃ j, j < n ∧ I114 j x1 m)) : mE X 11 y_Mo_readBlocks [.ref (mo X)] m Φ := by
  intro d σ hV
  have hL114 : ∀ n, (∀ (x1 : Int32) (m : MS) (σ : jS), MV X m σ → I114 n x1 m → jW X.1 X.2.1 jcl X.2.2.1 X.2.2.2.1 (d + 11) y_Mo_readBlocks 114 [some (.ref (mo X)), some (.int x1)] [] σ (mQ X Φ σ)) := by
    intro n
    induction n using Nat.strongRecOn with
    | _ n ih =>
      exact fun x1 m σ hV hI => t_Mo_readBlocks_114 F hV (h114 n x1 m hI) (fun x1 m σ hV ⟨j, hj, hI⟩ => (ih j hj) x1 m σ hV hI)
  refine jE.of (by decide) (by simp [Value.category]) (Nat.le_of_ble_eq_true rfl) rfl ?_
  exact t_Mo_readBlocks_0 F hV he (fun x1 m σ hV ⟨j, hI⟩ => (hL114 j) x1 m σ hV hI)
def w_Mo_lineFrom_165 (X : MX) (x1 x2 s0 : Int32) (m : MS) (Φ : Option Value → MS → Prop) : Prop := Φ (some (.int (s0))) m
theorem t_Mo_lineFrom_165 {X : MX} {a0 : Array Value} (F : mF X a0) {d : Nat} {x1 x2 s0 : Int32} {m : MS} {σ : jS} {Φ : Option Value → MS → Prop} (hV : MV X m σ) (h : w_Mo_lineFrom_165 X x1 x2 s0 m Φ) : jW X.1 X.2.1 jcl X.2.2.1 X.2.2.2.1 (d + 0) y_Mo_lineFrom 165 [some (.ref (mo X)), some (.int x1), some (.int x2)] [.int s0] σ (mQ X Φ σ) := by
  unfold w_Mo_lineFrom_165 at h
  exact jW.iret (dx_Mo_lineFrom 95 (e := (165, .ireturn, 1)) rfl) rfl ⟨FR.rfl, _, hV, h⟩
def w_Mo_lineFrom_162 (X : MX) (x1 x2 : Int32) (m : MS) (Φ : Option Value → MS → Prop) : Prop := w_Mo_lineFrom_165 X (x1) (x2) (x2 + 1) m Φ
theorem t_Mo_lineFrom_162 {X : MX} {a0 : Array Value} (F : mF X a0) {d : Nat} {x1 x2 : Int32} {m : MS} {σ : jS} {Φ : Option Value → MS → Prop} (hV : MV X m σ) (h : w_Mo_lineFrom_162 X x1 x2 m Φ) : jW X.1 X.2.1 jcl X.2.2.1 X.2.2.2.1 (d + 0) y_Mo_lineFrom 162 [some (.ref (mo X)), some (.int x1), some (.int x2)] [] σ (mQ X Φ σ) := by
  unfold w_Mo_lineFrom_162 at h
  refine jW.iload_n (dx_Mo_lineFrom 92 (e := (162, .iload_n 2, 1)) rfl) rfl rfl (pc' := 163) rfl ?_
  refine jW.iconst (v := 1) (dx_Mo_lineFrom 93 (e := (163, .iconst 1, 1)) rfl) (by decide) (pc' := 164) rfl ?_
  refine jW.iadd (dx_Mo_lineFrom 94 (e := (164, .iadd, 1)) rfl) (pc' := 165) rfl ?_
  exact t_Mo_lineFrom_165 F hV h
def w_Mo_lineFrom_112 (X : MX) (x1 x2 : Int32) (m : MS) (Φ : Option Value → MS → Prop) : Prop := ((x2 = m.1 11 → Φ (some (.int (x2))) m) ∧ (¬ x2 = m.1 11 → (vp_in (x2) 3000 ∧ ((m.2 8 (x2 : Int32).toNatClampNeg = 13 → ((m.1 11 ≤ x2 + 1 → w_Mo_lineFrom_162 X (x1) (x2) m Φ) ∧ (¬ m.1 11 ≤ x2 + 1 → (vp_in (x2 + 1) 3000 ∧ ((m.2 8 (x2 + 1 : Int32).toNatClampNeg = 10 → w_Mo_lineFrom_165 X (x1) (x2) (x2 + 2) m Φ) ∧ (¬ m.2 8 (x2 + 1 : Int32).toNatClampNeg = 10 → w_Mo_lineFrom_162 X (x1) (x2) m Φ)))))) ∧ (¬ m.2 8 (x2 : Int32).toNatClampNeg = 13 → w_Mo_lineFrom_162 X (x1) (x2) m Φ)))))
theorem t_Mo_lineFrom_112 {X : MX} {a0 : Array Value} (F : mF X a0) {d : Nat} {x1 x2 : Int32} {m : MS} {σ : jS} {Φ : Option Value → MS → Prop} (hV : MV X m σ) (h : w_Mo_lineFrom_112 X x1 x2 m Φ) : jW X.1 X.2.1 jcl X.2.2.1 X.2.2.2.1 (d + 0) y_Mo_lineFrom 112 [some (.ref (mo X)), some (.int x1), some (.int x2)] [] σ (mQ X Φ σ) := by
  unfold w_Mo_lineFrom_112 at h
  refine jW.iload_n (dx_Mo_lineFrom 62 (e := (112, .iload_n 2, 1)) rfl) rfl rfl (pc' := 113) rfl ?_
  refine jW.aload_n (dx_Mo_lineFrom 63 (e := (113, .aload_n 0, 1)) rfl) rfl rfl (pc' := 114) rfl ?_
  refine jW.mgi F hV f_Mo_lineFrom_114 (by decide) (pc' := 117) rfl ?_
  refine jW.icmp_ne (dx_Mo_lineFrom 65 (e := (117, .if_icmp .ne 5, 3)) rfl) 122 (by decide) (pc' := 120) rfl (fun c => ?_) (fun c => ?_)
  · replace h := h.2 c
    refine jW.aload_n (dx_Mo_lineFrom 68 (e := (122, .aload_n 0, 1)) rfl) rfl rfl (pc' := 123) rfl ?_
    refine jW.mga F hV f_Mo_lineFrom_123 (by decide) (pc' := 126) rfl ?_
    refine jW.iload_n (dx_Mo_lineFrom 70 (e := (126, .iload_n 2, 1)) rfl) rfl rfl (pc' := 127) rfl ?_
    refine jW.mla F hV (dx_Mo_lineFrom 71 (e := (127, .iaload, 1)) rfl) (by decide) rfl h.1 (pc' := 128) rfl ?_
    replace h := h.2
    refine jW.bipush (v := 13) (dx_Mo_lineFrom 72 (e := (128, .bipush 13, 2)) rfl) (by decide) (pc' := 130) rfl ?_
    refine jW.icmp_ne (dx_Mo_lineFrom 73 (e := (130, .if_icmp .ne 32, 3)) rfl) 162 (by decide) (pc' := 133) rfl (fun c => ?_) (fun c => ?_)
    · replace h := h.2 c
      exact t_Mo_lineFrom_162 F hV h
    · replace h := h.1 c
      refine jW.iload_n (dx_Mo_lineFrom 74 (e := (133, .iload_n 2, 1)) rfl) rfl rfl (pc' := 134) rfl ?_
      refine jW.iconst (v := 1) (dx_Mo_lineFrom 75 (e := (134, .iconst 1, 1)) rfl) (by decide) (pc' := 135) rfl ?_
      refine jW.iadd (dx_Mo_lineFrom 76 (e := (135, .iadd, 1)) rfl) (pc' := 136) rfl ?_
      refine jW.aload_n (dx_Mo_lineFrom 77 (e := (136, .aload_n 0, 1)) rfl) rfl rfl (pc' := 137) rfl ?_
      refine jW.mgi F hV f_Mo_lineFrom_137 (by decide) (pc' := 140) rfl ?_
      refine jW.icmp_ge (dx_Mo_lineFrom 79 (e := (140, .if_icmp .ge 22, 3)) rfl) 162 (by decide) (pc' := 143) rfl (fun c => ?_) (fun c => ?_)
      · replace h := h.1 c
        exact t_Mo_lineFrom_162 F hV h
      · replace h := h.2 c
        refine jW.aload_n (dx_Mo_lineFrom 80 (e := (143, .aload_n 0, 1)) rfl) rfl rfl (pc' := 144) rfl ?_
        refine jW.mga F hV f_Mo_lineFrom_144 (by decide) (pc' := 147) rfl ?_
        refine jW.iload_n (dx_Mo_lineFrom 82 (e := (147, .iload_n 2, 1)) rfl) rfl rfl (pc' := 148) rfl ?_
        refine jW.iconst (v := 1) (dx_Mo_lineFrom 83 (e := (148, .iconst 1, 1)) rfl) (by decide) (pc' := 149) rfl ?_
        refine jW.iadd (dx_Mo_lineFrom 84 (e := (149, .iadd, 1)) rfl) (pc' := 150) rfl ?_
        refine jW.mla F hV (dx_Mo_lineFrom 85 (e := (150, .iaload, 1)) rfl) (by decide) rfl h.1 (pc' := 151) rfl ?_
        replace h := h.2
        refine jW.bipush (v := 10) (dx_Mo_lineFrom 86 (e := (151, .bipush 10, 2)) rfl) (by decide) (pc' := 153) rfl ?_
        refine jW.icmp_ne (dx_Mo_lineFrom 87 (e := (153, .if_icmp .ne 9, 3)) rfl) 162 (by decide) (pc' := 156) rfl (fun c => ?_) (fun c => ?_)
        · replace h := h.2 c
          exact t_Mo_lineFrom_162 F hV h
        · replace h := h.1 c
          refine jW.iload_n (dx_Mo_lineFrom 88 (e := (156, .iload_n 2, 1)) rfl) rfl rfl (pc' := 157) rfl ?_
          refine jW.iconst (v := 2) (dx_Mo_lineFrom 89 (e := (157, .iconst 2, 1)) rfl) (by decide) (pc' := 158) rfl ?_
          refine jW.iadd (dx_Mo_lineFrom 90 (e := (158, .iadd, 1)) rfl) (pc' := 159) rfl ?_
          refine jW.goto (dx_Mo_lineFrom 91 (e := (159, .goto 6, 3)) rfl) 165 (by decide) ?_
          exact t_Mo_lineFrom_165 F hV h
  · replace h := h.1 c
    refine jW.iload_n (dx_Mo_lineFrom 66 (e := (120, .iload_n 2, 1)) rfl) rfl rfl (pc' := 121) rfl ?_
    exact jW.iret (dx_Mo_lineFrom 67 (e := (121, .ireturn, 1)) rfl) rfl ⟨FR.rfl, _, hV, h⟩
def w_Mo_lineFrom_106 (X : MX) (x1 x2 : Int32) (m : MS) (Φ : Option Value → MS → Prop) (K7 : Int32 → Int32 → MS → Prop) (K48 : Int32 → Int32 → MS → Prop) : Prop := K7 (x1) (x2 + 1) m
theorem t_Mo_lineFrom_106 {X : MX} {a0 : Array Value} (F : mF X a0) {d : Nat} {x1 x2 : Int32} {m : MS} {σ : jS} {Φ : Option Value → MS → Prop} {K7 : Int32 → Int32 → MS → Prop} {K48 : Int32 → Int32 → MS → Prop} (hV : MV X m σ) (h : w_Mo_lineFrom_106 X x1 x2 m Φ K7 K48) (hK7 : ∀ (x1 x2 : Int32) (m : MS) (σ : jS), MV X m σ → K7 x1 x2 m → jW X.1 X.2.1 jcl X.2.2.1 X.2.2.2.1 (d + 0) y_Mo_lineFrom 7 [some (.ref (mo X)), some (.int x1), some (.int x2)] [] σ (mQ X Φ σ)) (hK48 : ∀ (x1 x2 : Int32) (m : MS) (σ : jS), MV X m σ → K48 x1 x2 m → jW X.1 X.2.1 jcl X.2.2.1 X.2.2.2.1 (d + 0) y_Mo_lineFrom 48 [some (.ref (mo X)), some (.int x1), some (.int x2)] [] σ (mQ X Φ σ)) : jW X.1 X.2.1 jcl X.2.2.1 X.2.2.2.1 (d + 0) y_Mo_lineFrom 106 [some (.ref (mo X)), some (.int x1), some (.int x2)] [] σ (mQ X Φ σ) := by
  unfold w_Mo_lineFrom_106 at h
  refine jW.iinc (v := _ + (1)) (dx_Mo_lineFrom 60 (e := (106, .iinc 2 1, 3)) rfl) rfl rfl (by decide) rfl (pc' := 109) rfl ?_
  refine jW.goto (dx_Mo_lineFrom 61 (e := (109, .goto (-102), 3)) rfl) 7 (by decide) ?_
  exact hK7 _ _ _ _ hV h
def w_Mo_lineFrom_48 (X : MX) (x1 x2 : Int32) (m : MS) (Φ : Option Value → MS → Prop) (K7 : Int32 → Int32 → MS → Prop) (K48 : Int32 → Int32 → MS → Prop) : Prop := (vp_in (m.1 12) 12100 ∧ ∀ m1, m1 = mA m 9 (m.1 12 : Int32).toNatClampNeg (32) → ∀ m2, m2 = mI m1 12 ((m1.1 12) + 1) → (((m2.1 12) - (m2.1 12) / 4 * 4 = 0 → w_Mo_lineFrom_106 X (x1) (x2) m2 Φ K7 K48) ∧ (¬ (m2.1 12) - (m2.1 12) / 4 * 4 = 0 → K48 (x1) (x2) m2)))
theorem t_Mo_lineFrom_48 {X : MX} {a0 : Array Value} (F : mF X a0) {d : Nat} {x1 x2 : Int32} {m : MS} {σ : jS} {Φ : Option Value → MS → Prop} {K7 : Int32 → Int32 → MS → Prop} {K48 : Int32 → Int32 → MS → Prop} (hV : MV X m σ) (h : w_Mo_lineFrom_48 X x1 x2 m Φ K7 K48) (hK7 : ∀ (x1 x2 : Int32) (m : MS) (σ : jS), MV X m σ → K7 x1 x2 m → jW X.1 X.2.1 jcl X.2.2.1 X.2.2.2.1 (d + 0) y_Mo_lineFrom 7 [some (.ref (mo X)), some (.int x1), some (.int x2)] [] σ (mQ X Φ σ)) (hK48 : ∀ (x1 x2 : Int32) (m : MS) (σ : jS), MV X m σ → K48 x1 x2 m → jW X.1 X.2.1 jcl X.2.2.1 X.2.2.2.1 (d + 0) y_Mo_lineFrom 48 [some (.ref (mo X)), some (.int x1), some (.int x2)] [] σ (mQ X Φ σ)) : jW X.1 X.2.1 jcl X.2.2.1 X.2.2.2.1 (d + 0) y_Mo_lineFrom 48 [some (.ref (mo X)), some (.int x1), some (.int x2)] [] σ (mQ X Φ σ) := by
  unfold w_Mo_lineFrom_48 at h
  refine jW.aload_n (dx_Mo_lineFrom 27 (e := (48, .aload_n 0, 1)) rfl) rfl rfl (pc' := 49) rfl ?_
  refine jW.mga F hV f_Mo_lineFrom_49 (by decide) (pc' := 52) rfl ?_
  refine jW.aload_n (dx_Mo_lineFrom 29 (e := (52, .aload_n 0, 1)) rfl) rfl rfl (pc' := 53) rfl ?_
  refine jW.mgi F hV f_Mo_lineFrom_53 (by decide) (pc' := 56) rfl ?_
  refine jW.bipush (v := 32) (dx_Mo_lineFrom 31 (e := (56, .bipush 32, 2)) rfl) (by decide) (pc' := 58) rfl ?_
  refine jW.msa F hV (dx_Mo_lineFrom 32 (e := (58, .iastore, 1)) rfl) (by decide) rfl h.1 (pc' := 59) rfl (fun σ hV => ?_)
  replace h := h.2 _ rfl
  refine jW.aload_n (dx_Mo_lineFrom 33 (e := (59, .aload_n 0, 1)) rfl) rfl rfl (pc' := 60) rfl ?_
  refine jW.dup (dx_Mo_lineFrom 34 (e := (60, .dup, 1)) rfl) rfl (pc' := 61) rfl ?_
  refine jW.mgi F hV f_Mo_lineFrom_61 (by decide) (pc' := 64) rfl ?_
  refine jW.iconst (v := 1) (dx_Mo_lineFrom 36 (e := (64, .iconst 1, 1)) rfl) (by decide) (pc' := 65) rfl ?_
  refine jW.iadd (dx_Mo_lineFrom 37 (e := (65, .iadd, 1)) rfl) (pc' := 66) rfl ?_
  refine jW.mpi F hV f_Mo_lineFrom_66 (by decide) rfl rfl rfl (pc' := 69) rfl (fun σ hV => ?_)
  replace h := h _ rfl
  refine jW.aload_n (dx_Mo_lineFrom 39 (e := (69, .aload_n 0, 1)) rfl) rfl rfl (pc' := 70) rfl ?_
  refine jW.mgi F hV f_Mo_lineFrom_70 (by decide) (pc' := 73) rfl ?_
  refine jW.iconst (v := 4) (dx_Mo_lineFrom 41 (e := (73, .iconst 4, 1)) rfl) (by decide) (pc' := 74) rfl ?_
  refine jW.irem (dx_Mo_lineFrom 42 (e := (74, .irem, 1)) rfl) (by decide) (pc' := 75) rfl ?_
  refine jW.if_ne (dx_Mo_lineFrom 43 (e := (75, .ifCond .ne (-27), 3)) rfl) 48 (by decide) (pc' := 78) rfl (fun c => ?_) (fun c => ?_)
  · replace h := h.2 c
    exact hK48 _ _ _ _ hV h
  · replace h := h.1 c
    refine jW.goto (dx_Mo_lineFrom 44 (e := (78, .goto 28, 3)) rfl) 106 (by decide) ?_
    exact t_Mo_lineFrom_106 F hV h hK7 hK48
def w_Mo_lineFrom_7 (X : MX) (x1 x2 : Int32) (m : MS) (Φ : Option Value → MS → Prop) (K7 : Int32 → Int32 → MS → Prop) (K48 : Int32 → Int32 → MS → Prop) : Prop := ((m.1 11 ≤ x2 → w_Mo_lineFrom_112 X (x1) (x2) m Φ) ∧ (¬ m.1 11 ≤ x2 → (vp_in (x2) 3000 ∧ ((m.2 8 (x2 : Int32).toNatClampNeg = 10 → w_Mo_lineFrom_112 X (x1) (x2) m Φ) ∧ (¬ m.2 8 (x2 : Int32).toNatClampNeg = 10 → (vp_in (x2) 3000 ∧ ((m.2 8 (x2 : Int32).toNatClampNeg = 13 → w_Mo_lineFrom_112 X (x1) (x2) m Φ) ∧ (¬ m.2 8 (x2 : Int32).toNatClampNeg = 13 → (vp_in (x2) 3000 ∧ ((m.2 8 (x2 : Int32).toNatClampNeg = 9 → K48 (x1) (x2) m) ∧ (¬ m.2 8 (x2 : Int32).toNatClampNeg = 9 → (vp_in (x2) 3000 ∧ (vp_in (m.1 12) 12100 ∧ ∀ m1, m1 = mA m 9 (m.1 12 : Int32).toNatClampNeg (m.2 8 (x2 : Int32).toNatClampNeg) → ∀ m2, m2 = mI m1 12 ((m1.1 12) + 1) → w_Mo_lineFrom_106 X (x1) (x2) m2 Φ K7 K48)))))))))))))
theorem t_Mo_lineFrom_7 {X : MX} {a0 : Array Value} (F : mF X a0) {d : Nat} {x1 x2 : Int32} {m : MS} {σ : jS} {Φ : Option Value → MS → Prop} {K7 : Int32 → Int32 → MS → Prop} {K48 : Int32 → Int32 → MS → Prop} (hV : MV X m σ) (h : w_Mo_lineFrom_7 X x1 x2 m Φ K7 K48) (hK7 : ∀ (x1 x2 : Int32) (m : MS) (σ : jS), MV X m σ → K7 x1 x2 m → jW X.1 X.2.1 jcl X.2.2.1 X.2.2.2.1 (d + 0) y_Mo_lineFrom 7 [some (.ref (mo X)), some (.int x1), some (.int x2)] [] σ (mQ X Φ σ)) (hK48 : ∀ (x1 x2 : Int32) (m : MS) (σ : jS), MV X m σ → K48 x1 x2 m → jW X.1 X.2.1 jcl X.2.2.1 X.2.2.2.1 (d + 0) y_Mo_lineFrom 48 [some (.ref (mo X)), some (.int x1), some (.int x2)] [] σ (mQ X Φ σ)) : jW X.1 X.2.1 jcl X.2.2.1 X.2.2.2.1 (d + 0) y_Mo_lineFrom 7 [some (.ref (mo X)), some (.int x1), some (.int x2)] [] σ (mQ X Φ σ) := by
  unfold w_Mo_lineFrom_7 at h
  refine jW.iload_n (dx_Mo_lineFrom 5 (e := (7, .iload_n 2, 1)) rfl) rfl rfl (pc' := 8) rfl ?_
  refine jW.aload_n (dx_Mo_lineFrom 6 (e := (8, .aload_n 0, 1)) rfl) rfl rfl (pc' := 9) rfl ?_
  refine jW.mgi F hV f_Mo_lineFrom_9 (by decide) (pc' := 12) rfl ?_
  refine jW.icmp_ge (dx_Mo_lineFrom 8 (e := (12, .if_icmp .ge 100, 3)) rfl) 112 (by decide) (pc' := 15) rfl (fun c => ?_) (fun c => ?_)
  · replace h := h.1 c
    exact t_Mo_lineFrom_112 F hV h
  · replace h := h.2 c
    refine jW.aload_n (dx_Mo_lineFrom 9 (e := (15, .aload_n 0, 1)) rfl) rfl rfl (pc' := 16) rfl ?_
    refine jW.mga F hV f_Mo_lineFrom_16 (by decide) (pc' := 19) rfl ?_
    refine jW.iload_n (dx_Mo_lineFrom 11 (e := (19, .iload_n 2, 1)) rfl) rfl rfl (pc' := 20) rfl ?_
    refine jW.mla F hV (dx_Mo_lineFrom 12 (e := (20, .iaload, 1)) rfl) (by decide) rfl h.1 (pc' := 21) rfl ?_
    replace h := h.2
    refine jW.bipush (v := 10) (dx_Mo_lineFrom 13 (e := (21, .bipush 10, 2)) rfl) (by decide) (pc' := 23) rfl ?_
    refine jW.icmp_eq (dx_Mo_lineFrom 14 (e := (23, .if_icmp .eq 89, 3)) rfl) 112 (by decide) (pc' := 26) rfl (fun c => ?_) (fun c => ?_)
    · replace h := h.1 c
      exact t_Mo_lineFrom_112 F hV h
    · replace h := h.2 c
      refine jW.aload_n (dx_Mo_lineFrom 15 (e := (26, .aload_n 0, 1)) rfl) rfl rfl (pc' := 27) rfl ?_
      refine jW.mga F hV f_Mo_lineFrom_27 (by decide) (pc' := 30) rfl ?_
      refine jW.iload_n (dx_Mo_lineFrom 17 (e := (30, .iload_n 2, 1)) rfl) rfl rfl (pc' := 31) rfl ?_
      refine jW.mla F hV (dx_Mo_lineFrom 18 (e := (31, .iaload, 1)) rfl) (by decide) rfl h.1 (pc' := 32) rfl ?_
      replace h := h.2
      refine jW.bipush (v := 13) (dx_Mo_lineFrom 19 (e := (32, .bipush 13, 2)) rfl) (by decide) (pc' := 34) rfl ?_
      refine jW.icmp_eq (dx_Mo_lineFrom 20 (e := (34, .if_icmp .eq 78, 3)) rfl) 112 (by decide) (pc' := 37) rfl (fun c => ?_) (fun c => ?_)
      · replace h := h.1 c
        exact t_Mo_lineFrom_112 F hV h
      · replace h := h.2 c
        refine jW.aload_n (dx_Mo_lineFrom 21 (e := (37, .aload_n 0, 1)) rfl) rfl rfl (pc' := 38) rfl ?_
        refine jW.mga F hV f_Mo_lineFrom_38 (by decide) (pc' := 41) rfl ?_
        refine jW.iload_n (dx_Mo_lineFrom 23 (e := (41, .iload_n 2, 1)) rfl) rfl rfl (pc' := 42) rfl ?_
        refine jW.mla F hV (dx_Mo_lineFrom 24 (e := (42, .iaload, 1)) rfl) (by decide) rfl h.1 (pc' := 43) rfl ?_
        replace h := h.2
        refine jW.bipush (v := 9) (dx_Mo_lineFrom 25 (e := (43, .bipush 9, 2)) rfl) (by decide) (pc' := 45) rfl ?_
        refine jW.icmp_ne (dx_Mo_lineFrom 26 (e := (45, .if_icmp .ne 36, 3)) rfl) 81 (by decide) (pc' := 48) rfl (fun c => ?_) (fun c => ?_)
        · replace h := h.2 c
          refine jW.aload_n (dx_Mo_lineFrom 45 (e := (81, .aload_n 0, 1)) rfl) rfl rfl (pc' := 82) rfl ?_
          refine jW.mga F hV f_Mo_lineFrom_82 (by decide) (pc' := 85) rfl ?_
          refine jW.aload_n (dx_Mo_lineFrom 47 (e := (85, .aload_n 0, 1)) rfl) rfl rfl (pc' := 86) rfl ?_
          refine jW.mgi F hV f_Mo_lineFrom_86 (by decide) (pc' := 89) rfl ?_
          refine jW.aload_n (dx_Mo_lineFrom 49 (e := (89, .aload_n 0, 1)) rfl) rfl rfl (pc' := 90) rfl ?_
          refine jW.mga F hV f_Mo_lineFrom_90 (by decide) (pc' := 93) rfl ?_
          refine jW.iload_n (dx_Mo_lineFrom 51 (e := (93, .iload_n 2, 1)) rfl) rfl rfl (pc' := 94) rfl ?_
          refine jW.mla F hV (dx_Mo_lineFrom 52 (e := (94, .iaload, 1)) rfl) (by decide) rfl h.1 (pc' := 95) rfl ?_
          replace h := h.2
          refine jW.msa F hV (dx_Mo_lineFrom 53 (e := (95, .iastore, 1)) rfl) (by decide) rfl h.1 (pc' := 96) rfl (fun σ hV => ?_)
          replace h := h.2 _ rfl
          refine jW.aload_n (dx_Mo_lineFrom 54 (e := (96, .aload_n 0, 1)) rfl) rfl rfl (pc' := 97) rfl ?_
          refine jW.dup (dx_Mo_lineFrom 55 (e := (97, .dup, 1)) rfl) rfl (pc' := 98) rfl ?_
          refine jW.mgi F hV f_Mo_lineFrom_98 (by decide) (pc' := 101) rfl ?_
          refine jW.iconst (v := 1) (dx_Mo_lineFrom 57 (e := (101, .iconst 1, 1)) rfl) (by decide) (pc' := 102) rfl ?_
          refine jW.iadd (dx_Mo_lineFrom 58 (e := (102, .iadd, 1)) rfl) (pc' := 103) rfl ?_
          refine jW.mpi F hV f_Mo_lineFrom_103 (by decide) rfl rfl rfl (pc' := 106) rfl (fun σ hV => ?_)
          replace h := h _ rfl
          exact t_Mo_lineFrom_106 F hV h hK7 hK48
        · replace h := h.1 c
          exact hK48 _ _ _ _ hV h
def w_Mo_lineFrom_0 (X : MX) (x1 : Int32) (m : MS) (Φ : Option Value → MS → Prop) (K7 : Int32 → Int32 → MS → Prop) (K48 : Int32 → Int32 → MS → Prop) : Prop := ∀ m1, m1 = mI m 12 (0) → K7 (x1) (x1) m1
theorem t_Mo_lineFrom_0 {X : MX} {a0 : Array Value} (F : mF X a0) {d : Nat} {x1 : Int32} {o2 : Option Value} {m : MS} {σ : jS} {Φ : Option Value → MS → Prop} {K7 : Int32 → Int32 → MS → Prop} {K48 : Int32 → Int32 → MS → Prop} (hV : MV X m σ) (h : w_Mo_lineFrom_0 X x1 m Φ K7 K48) (hK7 : ∀ (x1 x2 : Int32) (m : MS) (σ : jS), MV X m σ → K7 x1 x2 m → jW X.1 X.2.1 jcl X.2.2.1 X.2.2.2.1 (d + 0) y_Mo_lineFrom 7 [some (.ref (mo X)), some (.int x1), some (.int x2)] [] σ (mQ X Φ σ)) (hK48 : ∀ (x1 x2 : Int32) (m : MS) (σ : jS), MV X m σ → K48 x1 x2 m → jW X.1 X.2.1 jcl X.2.2.1 X.2.2.2.1 (d + 0) y_Mo_lineFrom 48 [some (.ref (mo X)), some (.int x1), some (.int x2)] [] σ (mQ X Φ σ)) : jW X.1 X.2.1 jcl X.2.2.1 X.2.2.2.1 (d + 0) y_Mo_lineFrom 0 [some (.ref (mo X)), some (.int x1), o2] [] σ (mQ X Φ σ) := by
  unfold w_Mo_lineFrom_0 at h
  refine jW.aload_n (dx_Mo_lineFrom 0 (e := (0, .aload_n 0, 1)) rfl) rfl rfl (pc' := 1) rfl ?_
  refine jW.iconst (v := 0) (dx_Mo_lineFrom 1 (e := (1, .iconst 0, 1)) rfl) (by decide) (pc' := 2) rfl ?_
  refine jW.mpi F hV f_Mo_lineFrom_2 (by decide) rfl rfl rfl (pc' := 5) rfl (fun σ hV => ?_)
  replace h := h _ rfl
  refine jW.iload_n (dx_Mo_lineFrom 3 (e := (5, .iload_n 1, 1)) rfl) rfl rfl (pc' := 6) rfl ?_
  refine jW.istore_n (dx_Mo_lineFrom 4 (e := (6, .istore_n 2, 1)) rfl) rfl (by decide) rfl (pc' := 7) rfl ?_
  exact hK7 _ _ _ _ hV h
theorem g_Mo_lineFrom {X : MX} {a0 : Array Value} (F : mF X a0) {x1 : Int32} {m : MS} {Φ : Option Value → MS → Prop} {I7 : Nat → Int32 → Int32 → MS → Prop} {I48 : Nat → Int32 → Int32 → MS → Prop} (he : w_Mo_lineFrom_0 X x1 m Φ (fun x1 x2 m => ∃ j, I7 j x1 x2 m) (fun x1 x2 m => ∃ j, I48 j x1 x2 m)) (h7 : ∀ (n : Nat) (x1 x2 : Int32) (m : MS), I7 n x1 x2 m → w_Mo_lineFrom_7 X x1 x2 m Φ (fun x1 x2 m => ∃ j, j < n ∧ I7 j x1 x2 m) (fun x1 x2 m => ∃ j, j < n ∧ I48 j x1 x2 m)) (h48 : ∀ (n : Nat) (x1 x2 : Int32) (m : MS), I48 n x1 x2 m → w_Mo_lineFrom_48 X x1 x2 m Φ (fun x1 x2 m => ∃ j, j < n ∧ I7 j x1 x2 m) (fun x1 x2 m => ∃ j, j < n ∧ I48 j x1 x2 m)) : mE X 0 y_Mo_lineFrom [.ref (mo X), .int x1] m Φ := by
  intro d σ hV
  have hL7 : ∀ n, (∀ (x1 x2 : Int32) (m : MS) (σ : jS), MV X m σ → I7 n x1 x2 m → jW X.1 X.2.1 jcl X.2.2.1 X.2.2.2.1 (d + 0) y_Mo_lineFrom 7 [some (.ref (mo X)), some (.int x1), some (.int x2)] [] σ (mQ X Φ σ)) ∧ (∀ (x1 x2 : Int32) (m : MS) (σ : jS), MV X m σ → I48 n x1 x2 m → jW X.1 X.2.1 jcl X.2.2.1 X.2.2.2.1 (d + 0) y_Mo_lineFrom 48 [some (.ref (mo X)), some (.int x1), some (.int x2)] [] σ (mQ X Φ σ)) := by
    intro n
    induction n using Nat.strongRecOn with
    | _ n ih =>
      exact ⟨fun x1 x2 m σ hV hI => t_Mo_lineFrom_7 F hV (h7 n x1 x2 m hI) (fun x1 x2 m σ hV ⟨j, hj, hI⟩ => (ih j hj).1 x1 x2 m σ hV hI) (fun x1 x2 m σ hV ⟨j, hj, hI⟩ => (ih j hj).2 x1 x2 m σ hV hI), fun x1 x2 m σ hV hI => t_Mo_lineFrom_48 F hV (h48 n x1 x2 m hI) (fun x1 x2 m σ hV ⟨j, hj, hI⟩ => (ih j hj).1 x1 x2 m σ hV hI) (fun x1 x2 m σ hV ⟨j, hj, hI⟩ => (ih j hj).2 x1 x2 m σ hV hI)⟩
  refine jE.of (by decide) (by simp [Value.category]) (Nat.le_of_ble_eq_true rfl) rfl ?_
  exact t_Mo_lineFrom_0 F hV he (fun x1 x2 m σ hV ⟨j, hI⟩ => (hL7 j).1 x1 x2 m σ hV hI) (fun x1 x2 m σ hV ⟨j, hI⟩ => (hL7 j).2 x1 x2 m σ hV hI)
def w_Mo_takeLine_202 (X : MX) (x1 x2 x3 x4 x5 : Int32) (m : MS) (Φ : Option Value → MS → Prop) : Prop := Φ none m
theorem t_Mo_takeLine_202 {X : MX} {a0 : Array Value} (F : mF X a0) {d : Nat} {x1 x2 x3 x4 x5 : Int32} {o6 : Option Value} {m : MS} {σ : jS} {Φ : Option Value → MS → Prop} (hV : MV X m σ) (h : w_Mo_takeLine_202 X x1 x2 x3 x4 x5 m Φ) : jW X.1 X.2.1 jcl X.2.2.1 X.2.2.2.1 (d + 10) y_Mo_takeLine 202 [some (.ref (mo X)), some (.int x1), some (.int x2), some (.int x3), some (.int x4), some (.int x5), o6] [] σ (mQ X Φ σ) := by
  unfold w_Mo_takeLine_202 at h
  exact jW.vret (dx_Mo_takeLine 109 (e := (202, .return_, 1)) rfl) rfl ⟨FR.rfl, _, hV, h⟩
def w_Mo_takeLine_323 (X : MX) (x1 x2 x3 x4 x5 x6 : Int32) (m : MS) (Φ : Option Value → MS → Prop) : Prop := Φ none m
theorem t_Mo_takeLine_323 {X : MX} {a0 : Array Value} (F : mF X a0) {d : Nat} {x1 x2 x3 x4 x5 x6 : Int32} {m : MS} {σ : jS} {Φ : Option Value → MS → Prop} (hV : MV X m σ) (h : w_Mo_takeLine_323 X x1 x2 x3 x4 x5 x6 m Φ) : jW X.1 X.2.1 jcl X.2.2.1 X.2.2.2.1 (d + 10) y_Mo_takeLine 323 [some (.ref (mo X)), some (.int x1), some (.int x2), some (.int x3), some (.int x4), some (.int x5), some (.int x6)] [] σ (mQ X Φ σ) := by
  unfold w_Mo_takeLine_323 at h
  exact jW.vret (dx_Mo_takeLine 174 (e := (323, .return_, 1)) rfl) rfl ⟨FR.rfl, _, hV, h⟩
def w_Mo_takeLine_287 (X : MX) (x1 x2 x3 x4 x5 x6 : Int32) (m : MS) (Φ : Option Value → MS → Prop) : Prop := mE X 1 y_Mo_add [.ref (mo X), .int (x6), .int (x1)] m (vP fun m1 => w_Mo_takeLine_323 X (x1) (x2) (x3) (x4) (x5) (x6) m1 Φ)
theorem t_Mo_takeLine_287 {X : MX} {a0 : Array Value} (F : mF X a0) {d : Nat} {x1 x2 x3 x4 x5 x6 : Int32} {m : MS} {σ : jS} {Φ : Option Value → MS → Prop} (hV : MV X m σ) (h : w_Mo_takeLine_287 X x1 x2 x3 x4 x5 x6 m Φ) : jW X.1 X.2.1 jcl X.2.2.1 X.2.2.2.1 (d + 10) y_Mo_takeLine 287 [some (.ref (mo X)), some (.int x1), some (.int x2), some (.int x3), some (.int x4), some (.int x5), some (.int x6)] [] σ (mQ X Φ σ) := by
  unfold w_Mo_takeLine_287 at h
  refine jW.aload_n (dx_Mo_takeLine 155 (e := (287, .aload_n 0, 1)) rfl) rfl rfl (pc' := 288) rfl ?_
  refine jW.iload (dx_Mo_takeLine 156 (e := (288, .iload 6, 2)) rfl) rfl (pc' := 290) rfl ?_
  refine jW.iload_n (dx_Mo_takeLine 157 (e := (290, .iload_n 1, 1)) rfl) rfl rfl (pc' := 291) rfl ?_
  refine jW.callVe F (h (d + 8) _ hV) (dx_Mo_takeLine 158 (e := (291, .invokevirtual 246, 3)) rfl) can_Mo_add jw_1364 jw_1366 hV.cl rfl sel_Mo_add rfl rfl (Nat.le_of_ble_eq_true rfl) (pc' := 294) rfl (fun r σ hr => ?_)
  clear hV
  refine mQ.up hr.1 ?_
  obtain ⟨_, hV, rfl, h⟩ := hr.2
  refine jW.goto (dx_Mo_takeLine 159 (e := (294, .goto 29, 3)) rfl) 323 (by decide) ?_
  exact t_Mo_takeLine_323 F hV h
def w_Mo_takeLine_243 (X : MX) (x1 x2 x3 x4 x5 : Int32) (m : MS) (Φ : Option Value → MS → Prop) : Prop := mE X 6 y_Mo_closeTo [.ref (mo X), .int ((m.1 32) + 1)] m (vP fun m1 => (vp_in (m1.1 32) 40 ∧ (vp_in (m1.2 29 (m1.1 32 : Int32).toNatClampNeg) 3300 ∧ ((m1.2 13 (m1.2 29 (m1.1 32 : Int32).toNatClampNeg : Int32).toNatClampNeg = 7 → w_Mo_takeLine_287 X (x1) (x2) (x3) (x4) (x5) (m1.2 29 (m1.1 32 : Int32).toNatClampNeg) m1 Φ) ∧ (¬ m1.2 13 (m1.2 29 (m1.1 32 : Int32).toNatClampNeg : Int32).toNatClampNeg = 7 → (vp_in (m1.2 29 (m1.1 32 : Int32).toNatClampNeg) 3300 ∧ ((m1.2 13 (m1.2 29 (m1.1 32 : Int32).toNatClampNeg : Int32).toNatClampNeg = 4 → w_Mo_takeLine_287 X (x1) (x2) (x3) (x4) (x5) (m1.2 29 (m1.1 32 : Int32).toNatClampNeg) m1 Φ) ∧ (¬ m1.2 13 (m1.2 29 (m1.1 32 : Int32).toNatClampNeg : Int32).toNatClampNeg = 4 → mE X 0 y_Mo_isBlank [.ref (mo X), .int (m1.1 31)] m1 (iP fun r2 m2 => ((r2 = 0 → mE X 7 y_Mo_begin [.ref (mo X), .int (4), .int (x1)] m2 (iP fun r3 m3 => mE X 1 y_Mo_add [.ref (mo X), .int (r3), .int (x1)] m3 (vP fun m4 => w_Mo_takeLine_323 X (x1) (x2) (x3) (x4) (x5) (r3) m4 Φ))) ∧ (¬ r2 = 0 → w_Mo_takeLine_323 X (x1) (x2) (x3) (x4) (x5) (m1.2 29 (m1.1 32 : Int32).toNatClampNeg) m2 Φ)))))))))))
theorem t_Mo_takeLine_243 {X : MX} {a0 : Array Value} (F : mF X a0) {d : Nat} {x1 x2 x3 x4 x5 : Int32} {o6 : Option Value} {m : MS} {σ : jS} {Φ : Option Value → MS → Prop} (hV : MV X m σ) (h : w_Mo_takeLine_243 X x1 x2 x3 x4 x5 m Φ) : jW X.1 X.2.1 jcl X.2.2.1 X.2.2.2.1 (d + 10) y_Mo_takeLine 243 [some (.ref (mo X)), some (.int x1), some (.int x2), some (.int x3), some (.int x4), some (.int x5), o6] [] σ (mQ X Φ σ) := by
  unfold w_Mo_takeLine_243 at h
  refine jW.aload_n (dx_Mo_takeLine 131 (e := (243, .aload_n 0, 1)) rfl) rfl rfl (pc' := 244) rfl ?_
  refine jW.aload_n (dx_Mo_takeLine 132 (e := (244, .aload_n 0, 1)) rfl) rfl rfl (pc' := 245) rfl ?_
  refine jW.mgi F hV f_Mo_takeLine_245 (by decide) (pc' := 248) rfl ?_
  refine jW.iconst (v := 1) (dx_Mo_takeLine 134 (e := (248, .iconst 1, 1)) rfl) (by decide) (pc' := 249) rfl ?_
  refine jW.iadd (dx_Mo_takeLine 135 (e := (249, .iadd, 1)) rfl) (pc' := 250) rfl ?_
  refine jW.callVe F (h (d + 3) _ hV) (dx_Mo_takeLine 136 (e := (250, .invokevirtual 171, 3)) rfl) can_Mo_closeTo jw_1202 jw_1204 hV.cl rfl sel_Mo_closeTo rfl rfl (Nat.le_of_ble_eq_true rfl) (pc' := 253) rfl (fun r σ hr => ?_)
  clear hV
  refine mQ.up hr.1 ?_
  obtain ⟨_, hV, rfl, h⟩ := hr.2
  refine jW.aload_n (dx_Mo_takeLine 137 (e := (253, .aload_n 0, 1)) rfl) rfl rfl (pc' := 254) rfl ?_
  refine jW.mga F hV f_Mo_takeLine_254 (by decide) (pc' := 257) rfl ?_
  refine jW.aload_n (dx_Mo_takeLine 139 (e := (257, .aload_n 0, 1)) rfl) rfl rfl (pc' := 258) rfl ?_
  refine jW.mgi F hV f_Mo_takeLine_258 (by decide) (pc' := 261) rfl ?_
  refine jW.mla F hV (dx_Mo_takeLine 141 (e := (261, .iaload, 1)) rfl) (by decide) rfl h.1 (pc' := 262) rfl ?_
  replace h := h.2
  refine jW.istore (dx_Mo_takeLine 142 (e := (262, .istore 6, 2)) rfl) (by decide) rfl (pc' := 264) rfl ?_
  refine jW.aload_n (dx_Mo_takeLine 143 (e := (264, .aload_n 0, 1)) rfl) rfl rfl (pc' := 265) rfl ?_
  refine jW.mga F hV f_Mo_takeLine_265 (by decide) (pc' := 268) rfl ?_
  refine jW.iload (dx_Mo_takeLine 145 (e := (268, .iload 6, 2)) rfl) rfl (pc' := 270) rfl ?_
  refine jW.mla F hV (dx_Mo_takeLine 146 (e := (270, .iaload, 1)) rfl) (by decide) rfl h.1 (pc' := 271) rfl ?_
  replace h := h.2
  refine jW.bipush (v := 7) (dx_Mo_takeLine 147 (e := (271, .bipush 7, 2)) rfl) (by decide) (pc' := 273) rfl ?_
  refine jW.icmp_eq (dx_Mo_takeLine 148 (e := (273, .if_icmp .eq 14, 3)) rfl) 287 (by decide) (pc' := 276) rfl (fun c => ?_) (fun c => ?_)
  · replace h := h.1 c
    exact t_Mo_takeLine_287 F hV h
  · replace h := h.2 c
    refine jW.aload_n (dx_Mo_takeLine 149 (e := (276, .aload_n 0, 1)) rfl) rfl rfl (pc' := 277) rfl ?_
    refine jW.mga F hV f_Mo_takeLine_277 (by decide) (pc' := 280) rfl ?_
    refine jW.iload (dx_Mo_takeLine 151 (e := (280, .iload 6, 2)) rfl) rfl (pc' := 282) rfl ?_
    refine jW.mla F hV (dx_Mo_takeLine 152 (e := (282, .iaload, 1)) rfl) (by decide) rfl h.1 (pc' := 283) rfl ?_
    replace h := h.2
    refine jW.iconst (v := 4) (dx_Mo_takeLine 153 (e := (283, .iconst 4, 1)) rfl) (by decide) (pc' := 284) rfl ?_
    refine jW.icmp_ne (dx_Mo_takeLine 154 (e := (284, .if_icmp .ne 13, 3)) rfl) 297 (by decide) (pc' := 287) rfl (fun c => ?_) (fun c => ?_)
    · replace h := h.2 c
      refine jW.aload_n (dx_Mo_takeLine 160 (e := (297, .aload_n 0, 1)) rfl) rfl rfl (pc' := 298) rfl ?_
      refine jW.aload_n (dx_Mo_takeLine 161 (e := (298, .aload_n 0, 1)) rfl) rfl rfl (pc' := 299) rfl ?_
      refine jW.mgi F hV f_Mo_takeLine_299 (by decide) (pc' := 302) rfl ?_
      refine jW.callVe F (h (d + 9) _ hV) (dx_Mo_takeLine 163 (e := (302, .invokevirtual 137, 3)) rfl) can_Mo_isBlank jw_1190 jw_1192 hV.cl rfl sel_Mo_isBlank rfl rfl (Nat.le_of_ble_eq_true rfl) (pc' := 305) rfl (fun r σ hr => ?_)
      clear hV
      refine mQ.up hr.1 ?_
      obtain ⟨_, hV, _, rfl, h⟩ := hr.2
      refine jW.if_ne (dx_Mo_takeLine 164 (e := (305, .ifCond .ne 18, 3)) rfl) 323 (by decide) (pc' := 308) rfl (fun c => ?_) (fun c => ?_)
      · replace h := h.2 c
        exact t_Mo_takeLine_323 F hV h
      · replace h := h.1 c
        refine jW.aload_n (dx_Mo_takeLine 165 (e := (308, .aload_n 0, 1)) rfl) rfl rfl (pc' := 309) rfl ?_
        refine jW.iconst (v := 4) (dx_Mo_takeLine 166 (e := (309, .iconst 4, 1)) rfl) (by decide) (pc' := 310) rfl ?_
        refine jW.iload_n (dx_Mo_takeLine 167 (e := (310, .iload_n 1, 1)) rfl) rfl rfl (pc' := 311) rfl ?_
        refine jW.callVe F (h (d + 2) _ hV) (dx_Mo_takeLine 168 (e := (311, .invokevirtual 186, 3)) rfl) can_Mo_begin jw_1312 jw_1314 hV.cl rfl sel_Mo_begin rfl rfl (Nat.le_of_ble_eq_true rfl) (pc' := 314) rfl (fun r σ hr => ?_)
        clear hV
        refine mQ.up hr.1 ?_
        obtain ⟨_, hV, _, rfl, h⟩ := hr.2
        refine jW.istore (dx_Mo_takeLine 169 (e := (314, .istore 6, 2)) rfl) (by decide) rfl (pc' := 316) rfl ?_
        refine jW.aload_n (dx_Mo_takeLine 170 (e := (316, .aload_n 0, 1)) rfl) rfl rfl (pc' := 317) rfl ?_
        refine jW.iload (dx_Mo_takeLine 171 (e := (317, .iload 6, 2)) rfl) rfl (pc' := 319) rfl ?_
        refine jW.iload_n (dx_Mo_takeLine 172 (e := (319, .iload_n 1, 1)) rfl) rfl rfl (pc' := 320) rfl ?_
        refine jW.callVe F (h (d + 8) _ hV) (dx_Mo_takeLine 173 (e := (320, .invokevirtual 246, 3)) rfl) can_Mo_add jw_1364 jw_1366 hV.cl rfl sel_Mo_add rfl rfl (Nat.le_of_ble_eq_true rfl) (pc' := 323) rfl (fun r σ hr => ?_)
        clear hV
        refine mQ.up hr.1 ?_
        obtain ⟨_, hV, rfl, h⟩ := hr.2
        exact t_Mo_takeLine_323 F hV h
    · replace h := h.1 c
      exact t_Mo_takeLine_287 F hV h
def w_Mo_takeLine_187 (X : MX) (x1 x2 x3 x4 x5 : Int32) (m : MS) (Φ : Option Value → MS → Prop) : Prop := ((m.1 34 = 0 → ((m.1 5 = -1 → ((m.1 33 = 0 → ((x4 = 0 → mE X 0 y_Mo_isBlank [.ref (mo X), .int (m.1 31)] m (iP fun r1 m1 => ((r1 = 0 → (vp_in (x2) 3300 ∧ ((m1.2 13 (x2 : Int32).toNatClampNeg = 4 → mE X 1 y_Mo_add [.ref (mo X), .int (x2), .int (x1)] m1 (vP fun m2 => Φ none m2)) ∧ (¬ m1.2 13 (x2 : Int32).toNatClampNeg = 4 → w_Mo_takeLine_243 X (x1) (x2) (x3) (x4) (x5) m1 Φ)))) ∧ (¬ r1 = 0 → w_Mo_takeLine_243 X (x1) (x2) (x3) (x4) (x5) m1 Φ)))) ∧ (¬ x4 = 0 → w_Mo_takeLine_243 X (x1) (x2) (x3) (x4) (x5) m Φ))) ∧ (¬ m.1 33 = 0 → w_Mo_takeLine_243 X (x1) (x2) (x3) (x4) (x5) m Φ))) ∧ (¬ m.1 5 = -1 → w_Mo_takeLine_202 X (x1) (x2) (x3) (x4) (x5) m Φ))) ∧ (¬ m.1 34 = 0 → w_Mo_takeLine_202 X (x1) (x2) (x3) (x4) (x5) m Φ))
theorem t_Mo_takeLine_187 {X : MX} {a0 : Array Value} (F : mF X a0) {d : Nat} {x1 x2 x3 x4 x5 : Int32} {o6 : Option Value} {m : MS} {σ : jS} {Φ : Option Value → MS → Prop} (hV : MV X m σ) (h : w_Mo_takeLine_187 X x1 x2 x3 x4 x5 m Φ) : jW X.1 X.2.1 jcl X.2.2.1 X.2.2.2.1 (d + 10) y_Mo_takeLine 187 [some (.ref (mo X)), some (.int x1), some (.int x2), some (.int x3), some (.int x4), some (.int x5), o6] [] σ (mQ X Φ σ) := by
  unfold w_Mo_takeLine_187 at h
  refine jW.aload_n (dx_Mo_takeLine 102 (e := (187, .aload_n 0, 1)) rfl) rfl rfl (pc' := 188) rfl ?_
  refine jW.mgi F hV f_Mo_takeLine_188 (by decide) (pc' := 191) rfl ?_
  refine jW.if_ne (dx_Mo_takeLine 104 (e := (191, .ifCond .ne 11, 3)) rfl) 202 (by decide) (pc' := 194) rfl (fun c => ?_) (fun c => ?_)
  · replace h := h.2 c
    exact t_Mo_takeLine_202 F hV h
  · replace h := h.1 c
    refine jW.aload_n (dx_Mo_takeLine 105 (e := (194, .aload_n 0, 1)) rfl) rfl rfl (pc' := 195) rfl ?_
    refine jW.mgi F hV f_Mo_takeLine_195 (by decide) (pc' := 198) rfl ?_
    refine jW.iconst (v := -1) (dx_Mo_takeLine 107 (e := (198, .iconst (-1), 1)) rfl) (by decide) (pc' := 199) rfl ?_
    refine jW.icmp_eq (dx_Mo_takeLine 108 (e := (199, .if_icmp .eq 4, 3)) rfl) 203 (by decide) (pc' := 202) rfl (fun c => ?_) (fun c => ?_)
    · replace h := h.1 c
      refine jW.aload_n (dx_Mo_takeLine 110 (e := (203, .aload_n 0, 1)) rfl) rfl rfl (pc' := 204) rfl ?_
      refine jW.mgi F hV f_Mo_takeLine_204 (by decide) (pc' := 207) rfl ?_
      refine jW.if_ne (dx_Mo_takeLine 112 (e := (207, .ifCond .ne 36, 3)) rfl) 243 (by decide) (pc' := 210) rfl (fun c => ?_) (fun c => ?_)
      · replace h := h.2 c
        exact t_Mo_takeLine_243 F hV h
      · replace h := h.1 c
        refine jW.iload (dx_Mo_takeLine 113 (e := (210, .iload 4, 2)) rfl) rfl (pc' := 212) rfl ?_
        refine jW.if_ne (dx_Mo_takeLine 114 (e := (212, .ifCond .ne 31, 3)) rfl) 243 (by decide) (pc' := 215) rfl (fun c => ?_) (fun c => ?_)
        · replace h := h.2 c
          exact t_Mo_takeLine_243 F hV h
        · replace h := h.1 c
          refine jW.aload_n (dx_Mo_takeLine 115 (e := (215, .aload_n 0, 1)) rfl) rfl rfl (pc' := 216) rfl ?_
          refine jW.aload_n (dx_Mo_takeLine 116 (e := (216, .aload_n 0, 1)) rfl) rfl rfl (pc' := 217) rfl ?_
          refine jW.mgi F hV f_Mo_takeLine_217 (by decide) (pc' := 220) rfl ?_
          refine jW.callVe F (h (d + 9) _ hV) (dx_Mo_takeLine 118 (e := (220, .invokevirtual 137, 3)) rfl) can_Mo_isBlank jw_1190 jw_1192 hV.cl rfl sel_Mo_isBlank rfl rfl (Nat.le_of_ble_eq_true rfl) (pc' := 223) rfl (fun r σ hr => ?_)
          clear hV
          refine mQ.up hr.1 ?_
          obtain ⟨_, hV, _, rfl, h⟩ := hr.2
          refine jW.if_ne (dx_Mo_takeLine 119 (e := (223, .ifCond .ne 20, 3)) rfl) 243 (by decide) (pc' := 226) rfl (fun c => ?_) (fun c => ?_)
          · replace h := h.2 c
            exact t_Mo_takeLine_243 F hV h
          · replace h := h.1 c
            refine jW.aload_n (dx_Mo_takeLine 120 (e := (226, .aload_n 0, 1)) rfl) rfl rfl (pc' := 227) rfl ?_
            refine jW.mga F hV f_Mo_takeLine_227 (by decide) (pc' := 230) rfl ?_
            refine jW.iload_n (dx_Mo_takeLine 122 (e := (230, .iload_n 2, 1)) rfl) rfl rfl (pc' := 231) rfl ?_
            refine jW.mla F hV (dx_Mo_takeLine 123 (e := (231, .iaload, 1)) rfl) (by decide) rfl h.1 (pc' := 232) rfl ?_
            replace h := h.2
            refine jW.iconst (v := 4) (dx_Mo_takeLine 124 (e := (232, .iconst 4, 1)) rfl) (by decide) (pc' := 233) rfl ?_
            refine jW.icmp_ne (dx_Mo_takeLine 125 (e := (233, .if_icmp .ne 10, 3)) rfl) 243 (by decide) (pc' := 236) rfl (fun c => ?_) (fun c => ?_)
            · replace h := h.2 c
              exact t_Mo_takeLine_243 F hV h
            · replace h := h.1 c
              refine jW.aload_n (dx_Mo_takeLine 126 (e := (236, .aload_n 0, 1)) rfl) rfl rfl (pc' := 237) rfl ?_
              refine jW.iload_n (dx_Mo_takeLine 127 (e := (237, .iload_n 2, 1)) rfl) rfl rfl (pc' := 238) rfl ?_
              refine jW.iload_n (dx_Mo_takeLine 128 (e := (238, .iload_n 1, 1)) rfl) rfl rfl (pc' := 239) rfl ?_
              refine jW.callVe F (h (d + 8) _ hV) (dx_Mo_takeLine 129 (e := (239, .invokevirtual 246, 3)) rfl) can_Mo_add jw_1364 jw_1366 hV.cl rfl sel_Mo_add rfl rfl (Nat.le_of_ble_eq_true rfl) (pc' := 242) rfl (fun r σ hr => ?_)
              clear hV
              refine mQ.up hr.1 ?_
              obtain ⟨_, hV, rfl, h⟩ := hr.2
              exact jW.vret (dx_Mo_takeLine 130 (e := (242, .return_, 1)) rfl) rfl ⟨FR.rfl, _, hV, h⟩
    · replace h := h.2 c
      exact t_Mo_takeLine_202 F hV h
def w_Mo_takeLine_163 (X : MX) (x1 x2 x3 x4 x5 : Int32) (m : MS) (Φ : Option Value → MS → Prop) (K163 : Int32 → Int32 → Int32 → Int32 → Int32 → MS → Prop) : Prop := ((x5 = 0 → w_Mo_takeLine_187 X (x1) (x2) (x3) (x4) (x5) m Φ) ∧ (¬ x5 = 0 → ((m.1 5 = -1 → mE X 9 y_Mo_beginning [.ref (mo X), .int (x2), .int (x1)] m (iP fun r1 m1 => K163 (x1) (x2) (x3) (x4) (r1) m1)) ∧ (¬ m.1 5 = -1 → w_Mo_takeLine_187 X (x1) (x2) (x3) (x4) (x5) m Φ))))
theorem t_Mo_takeLine_163 {X : MX} {a0 : Array Value} (F : mF X a0) {d : Nat} {x1 x2 x3 x4 x5 : Int32} {o6 : Option Value} {m : MS} {σ : jS} {Φ : Option Value → MS → Prop} {K163 : Int32 → Int32 → Int32 → Int32 → Int32 → MS → Prop} (hV : MV X m σ) (h : w_Mo_takeLine_163 X x1 x2 x3 x4 x5 m Φ K163) (hK163 : ∀ (x1 x2 x3 x4 x5 : Int32) (o6 : Option Value) (m : MS) (σ : jS), MV X m σ → K163 x1 x2 x3 x4 x5 m → jW X.1 X.2.1 jcl X.2.2.1 X.2.2.2.1 (d + 10) y_Mo_takeLine 163 [some (.ref (mo X)), some (.int x1), some (.int x2), some (.int x3), some (.int x4), some (.int x5), o6] [] σ (mQ X Φ σ)) : jW X.1 X.2.1 jcl X.2.2.1 X.2.2.2.1 (d + 10) y_Mo_takeLine 163 [some (.ref (mo X)), some (.int x1), some (.int x2), some (.int x3), some (.int x4), some (.int x5), o6] [] σ (mQ X Φ σ) := by
  unfold w_Mo_takeLine_163 at h
  refine jW.iload (dx_Mo_takeLine 90 (e := (163, .iload 5, 2)) rfl) rfl (pc' := 165) rfl ?_
  refine jW.if_eq (dx_Mo_takeLine 91 (e := (165, .ifCond .eq 22, 3)) rfl) 187 (by decide) (pc' := 168) rfl (fun c => ?_) (fun c => ?_)
  · replace h := h.1 c
    exact t_Mo_takeLine_187 F hV h
  · replace h := h.2 c
    refine jW.aload_n (dx_Mo_takeLine 92 (e := (168, .aload_n 0, 1)) rfl) rfl rfl (pc' := 169) rfl ?_
    refine jW.mgi F hV f_Mo_takeLine_169 (by decide) (pc' := 172) rfl ?_
    refine jW.iconst (v := -1) (dx_Mo_takeLine 94 (e := (172, .iconst (-1), 1)) rfl) (by decide) (pc' := 173) rfl ?_
    refine jW.icmp_ne (dx_Mo_takeLine 95 (e := (173, .if_icmp .ne 14, 3)) rfl) 187 (by decide) (pc' := 176) rfl (fun c => ?_) (fun c => ?_)
    · replace h := h.2 c
      exact t_Mo_takeLine_187 F hV h
    · replace h := h.1 c
      refine jW.aload_n (dx_Mo_takeLine 96 (e := (176, .aload_n 0, 1)) rfl) rfl rfl (pc' := 177) rfl ?_
      refine jW.iload_n (dx_Mo_takeLine 97 (e := (177, .iload_n 2, 1)) rfl) rfl rfl (pc' := 178) rfl ?_
      refine jW.iload_n (dx_Mo_takeLine 98 (e := (178, .iload_n 1, 1)) rfl) rfl rfl (pc' := 179) rfl ?_
      refine jW.callVe F (h (d + 0) _ hV) (dx_Mo_takeLine 99 (e := (179, .invokevirtual 243, 3)) rfl) can_Mo_beginning jw_1300 jw_1302 hV.cl rfl sel_Mo_beginning rfl rfl (Nat.le_of_ble_eq_true rfl) (pc' := 182) rfl (fun r σ hr => ?_)
      clear hV
      refine mQ.up hr.1 ?_
      obtain ⟨_, hV, _, rfl, h⟩ := hr.2
      refine jW.istore (dx_Mo_takeLine 100 (e := (182, .istore 5, 2)) rfl) (by decide) rfl (pc' := 184) rfl ?_
      refine jW.goto (dx_Mo_takeLine 101 (e := (184, .goto (-21), 3)) rfl) 163 (by decide) ?_
      exact hK163 _ _ _ _ _ _ _ _ hV h
def w_Mo_takeLine_161 (X : MX) (x1 x2 x3 x4 s0 : Int32) (m : MS) (Φ : Option Value → MS → Prop) (K163 : Int32 → Int32 → Int32 → Int32 → Int32 → MS → Prop) : Prop := K163 (x1) (x2) (x3) (x4) (s0) m
theorem t_Mo_takeLine_161 {X : MX} {a0 : Array Value} (F : mF X a0) {d : Nat} {x1 x2 x3 x4 s0 : Int32} {o5 o6 : Option Value} {m : MS} {σ : jS} {Φ : Option Value → MS → Prop} {K163 : Int32 → Int32 → Int32 → Int32 → Int32 → MS → Prop} (hV : MV X m σ) (h : w_Mo_takeLine_161 X x1 x2 x3 x4 s0 m Φ K163) (hK163 : ∀ (x1 x2 x3 x4 x5 : Int32) (o6 : Option Value) (m : MS) (σ : jS), MV X m σ → K163 x1 x2 x3 x4 x5 m → jW X.1 X.2.1 jcl X.2.2.1 X.2.2.2.1 (d + 10) y_Mo_takeLine 163 [some (.ref (mo X)), some (.int x1), some (.int x2), some (.int x3), some (.int x4), some (.int x5), o6] [] σ (mQ X Φ σ)) : jW X.1 X.2.1 jcl X.2.2.1 X.2.2.2.1 (d + 10) y_Mo_takeLine 161 [some (.ref (mo X)), some (.int x1), some (.int x2), some (.int x3), some (.int x4), o5, o6] [.int s0] σ (mQ X Φ σ) := by
  unfold w_Mo_takeLine_161 at h
  refine jW.istore (dx_Mo_takeLine 89 (e := (161, .istore 5, 2)) rfl) (by decide) rfl (pc' := 163) rfl ?_
  exact hK163 _ _ _ _ _ _ _ _ hV h
def w_Mo_takeLine_135 (X : MX) (x1 x2 x3 x4 s0 : Int32) (m : MS) (Φ : Option Value → MS → Prop) (K163 : Int32 → Int32 → Int32 → Int32 → Int32 → MS → Prop) : Prop := (vp_in (m.1 32) 40 ∧ (vp_in (m.2 29 (m.1 32 : Int32).toNatClampNeg) 3300 ∧ ((m.2 13 (m.2 29 (m.1 32 : Int32).toNatClampNeg : Int32).toNatClampNeg = 7 → w_Mo_takeLine_161 X (x1) (x2) (x3) (s0) (0) m Φ K163) ∧ (¬ m.2 13 (m.2 29 (m.1 32 : Int32).toNatClampNeg : Int32).toNatClampNeg = 7 → w_Mo_takeLine_161 X (x1) (x2) (x3) (s0) (1) m Φ K163))))
theorem t_Mo_takeLine_135 {X : MX} {a0 : Array Value} (F : mF X a0) {d : Nat} {x1 x2 x3 x4 s0 : Int32} {o5 o6 : Option Value} {m : MS} {σ : jS} {Φ : Option Value → MS → Prop} {K163 : Int32 → Int32 → Int32 → Int32 → Int32 → MS → Prop} (hV : MV X m σ) (h : w_Mo_takeLine_135 X x1 x2 x3 x4 s0 m Φ K163) (hK163 : ∀ (x1 x2 x3 x4 x5 : Int32) (o6 : Option Value) (m : MS) (σ : jS), MV X m σ → K163 x1 x2 x3 x4 x5 m → jW X.1 X.2.1 jcl X.2.2.1 X.2.2.2.1 (d + 10) y_Mo_takeLine 163 [some (.ref (mo X)), some (.int x1), some (.int x2), some (.int x3), some (.int x4), some (.int x5), o6] [] σ (mQ X Φ σ)) : jW X.1 X.2.1 jcl X.2.2.1 X.2.2.2.1 (d + 10) y_Mo_takeLine 135 [some (.ref (mo X)), some (.int x1), some (.int x2), some (.int x3), some (.int x4), o5, o6] [.int s0] σ (mQ X Φ σ) := by
  unfold w_Mo_takeLine_135 at h
  refine jW.istore (dx_Mo_takeLine 75 (e := (135, .istore 4, 2)) rfl) (by decide) rfl (pc' := 137) rfl ?_
  refine jW.aload_n (dx_Mo_takeLine 76 (e := (137, .aload_n 0, 1)) rfl) rfl rfl (pc' := 138) rfl ?_
  refine jW.mga F hV f_Mo_takeLine_138 (by decide) (pc' := 141) rfl ?_
  refine jW.aload_n (dx_Mo_takeLine 78 (e := (141, .aload_n 0, 1)) rfl) rfl rfl (pc' := 142) rfl ?_
  refine jW.mga F hV f_Mo_takeLine_142 (by decide) (pc' := 145) rfl ?_
  refine jW.aload_n (dx_Mo_takeLine 80 (e := (145, .aload_n 0, 1)) rfl) rfl rfl (pc' := 146) rfl ?_
  refine jW.mgi F hV f_Mo_takeLine_146 (by decide) (pc' := 149) rfl ?_
  refine jW.mla F hV (dx_Mo_takeLine 82 (e := (149, .iaload, 1)) rfl) (by decide) rfl h.1 (pc' := 150) rfl ?_
  replace h := h.2
  refine jW.mla F hV (dx_Mo_takeLine 83 (e := (150, .iaload, 1)) rfl) (by decide) rfl h.1 (pc' := 151) rfl ?_
  replace h := h.2
  refine jW.bipush (v := 7) (dx_Mo_takeLine 84 (e := (151, .bipush 7, 2)) rfl) (by decide) (pc' := 153) rfl ?_
  refine jW.icmp_eq (dx_Mo_takeLine 85 (e := (153, .if_icmp .eq 7, 3)) rfl) 160 (by decide) (pc' := 156) rfl (fun c => ?_) (fun c => ?_)
  · replace h := h.1 c
    refine jW.iconst (v := 0) (dx_Mo_takeLine 88 (e := (160, .iconst 0, 1)) rfl) (by decide) (pc' := 161) rfl ?_
    exact t_Mo_takeLine_161 F hV h hK163
  · replace h := h.2 c
    refine jW.iconst (v := 1) (dx_Mo_takeLine 86 (e := (156, .iconst 1, 1)) rfl) (by decide) (pc' := 157) rfl ?_
    refine jW.goto (dx_Mo_takeLine 87 (e := (157, .goto 4, 3)) rfl) 161 (by decide) ?_
    exact t_Mo_takeLine_161 F hV h hK163
def w_Mo_takeLine_86 (X : MX) (x1 x2 x3 x4 : Int32) (m : MS) (Φ : Option Value → MS → Prop) (K163 : Int32 → Int32 → Int32 → Int32 → Int32 → MS → Prop) : Prop := ((m.1 34 = 0 → ((m.1 32 = (m.1 30) - 1 → w_Mo_takeLine_135 X (x1) (x2) (x3) (x4) (1) m Φ K163) ∧ (¬ m.1 32 = (m.1 30) - 1 → w_Mo_takeLine_135 X (x1) (x2) (x3) (x4) (0) m Φ K163))) ∧ (¬ m.1 34 = 0 → (vp_in (m.1 32) 40 ∧ (vp_in (m.2 29 (m.1 32 : Int32).toNatClampNeg) 3300 ∧ ∀ m1, m1 = mA m 17 (m.2 29 (m.1 32 : Int32).toNatClampNeg : Int32).toNatClampNeg (x1) → mE X 6 y_Mo_closeTo [.ref (mo X), .int (m1.1 32)] m1 (vP fun m2 => Φ none m2)))))
theorem t_Mo_takeLine_86 {X : MX} {a0 : Array Value} (F : mF X a0) {d : Nat} {x1 x2 x3 x4 : Int32} {o5 o6 : Option Value} {m : MS} {σ : jS} {Φ : Option Value → MS → Prop} {K163 : Int32 → Int32 → Int32 → Int32 → Int32 → MS → Prop} (hV : MV X m σ) (h : w_Mo_takeLine_86 X x1 x2 x3 x4 m Φ K163) (hK163 : ∀ (x1 x2 x3 x4 x5 : Int32) (o6 : Option Value) (m : MS) (σ : jS), MV X m σ → K163 x1 x2 x3 x4 x5 m → jW X.1 X.2.1 jcl X.2.2.1 X.2.2.2.1 (d + 10) y_Mo_takeLine 163 [some (.ref (mo X)), some (.int x1), some (.int x2), some (.int x3), some (.int x4), some (.int x5), o6] [] σ (mQ X Φ σ)) : jW X.1 X.2.1 jcl X.2.2.1 X.2.2.2.1 (d + 10) y_Mo_takeLine 86 [some (.ref (mo X)), some (.int x1), some (.int x2), some (.int x3), some (.int x4), o5, o6] [] σ (mQ X Φ σ) := by
  unfold w_Mo_takeLine_86 at h
  refine jW.aload_n (dx_Mo_takeLine 48 (e := (86, .aload_n 0, 1)) rfl) rfl rfl (pc' := 87) rfl ?_
  refine jW.mgi F hV f_Mo_takeLine_87 (by decide) (pc' := 90) rfl ?_
  refine jW.if_eq (dx_Mo_takeLine 50 (e := (90, .ifCond .eq 27, 3)) rfl) 117 (by decide) (pc' := 93) rfl (fun c => ?_) (fun c => ?_)
  · replace h := h.1 c
    refine jW.aload_n (dx_Mo_takeLine 65 (e := (117, .aload_n 0, 1)) rfl) rfl rfl (pc' := 118) rfl ?_
    refine jW.mgi F hV f_Mo_takeLine_118 (by decide) (pc' := 121) rfl ?_
    refine jW.aload_n (dx_Mo_takeLine 67 (e := (121, .aload_n 0, 1)) rfl) rfl rfl (pc' := 122) rfl ?_
    refine jW.mgi F hV f_Mo_takeLine_122 (by decide) (pc' := 125) rfl ?_
    refine jW.iconst (v := 1) (dx_Mo_takeLine 69 (e := (125, .iconst 1, 1)) rfl) (by decide) (pc' := 126) rfl ?_
    refine jW.isub (dx_Mo_takeLine 70 (e := (126, .isub, 1)) rfl) (pc' := 127) rfl ?_
    refine jW.icmp_ne (dx_Mo_takeLine 71 (e := (127, .if_icmp .ne 7, 3)) rfl) 134 (by decide) (pc' := 130) rfl (fun c => ?_) (fun c => ?_)
    · replace h := h.2 c
      refine jW.iconst (v := 0) (dx_Mo_takeLine 74 (e := (134, .iconst 0, 1)) rfl) (by decide) (pc' := 135) rfl ?_
      exact t_Mo_takeLine_135 F hV h hK163
    · replace h := h.1 c
      refine jW.iconst (v := 1) (dx_Mo_takeLine 72 (e := (130, .iconst 1, 1)) rfl) (by decide) (pc' := 131) rfl ?_
      refine jW.goto (dx_Mo_takeLine 73 (e := (131, .goto 4, 3)) rfl) 135 (by decide) ?_
      exact t_Mo_takeLine_135 F hV h hK163
  · replace h := h.2 c
    refine jW.aload_n (dx_Mo_takeLine 51 (e := (93, .aload_n 0, 1)) rfl) rfl rfl (pc' := 94) rfl ?_
    refine jW.mga F hV f_Mo_takeLine_94 (by decide) (pc' := 97) rfl ?_
    refine jW.aload_n (dx_Mo_takeLine 53 (e := (97, .aload_n 0, 1)) rfl) rfl rfl (pc' := 98) rfl ?_
    refine jW.mga F hV f_Mo_takeLine_98 (by decide) (pc' := 101) rfl ?_
    refine jW.aload_n (dx_Mo_takeLine 55 (e := (101, .aload_n 0, 1)) rfl) rfl rfl (pc' := 102) rfl ?_
    refine jW.mgi F hV f_Mo_takeLine_102 (by decide) (pc' := 105) rfl ?_
    refine jW.mla F hV (dx_Mo_takeLine 57 (e := (105, .iaload, 1)) rfl) (by decide) rfl h.1 (pc' := 106) rfl ?_
    replace h := h.2
    refine jW.iload_n (dx_Mo_takeLine 58 (e := (106, .iload_n 1, 1)) rfl) rfl rfl (pc' := 107) rfl ?_
    refine jW.msa F hV (dx_Mo_takeLine 59 (e := (107, .iastore, 1)) rfl) (by decide) rfl h.1 (pc' := 108) rfl (fun σ hV => ?_)
    replace h := h.2 _ rfl
    refine jW.aload_n (dx_Mo_takeLine 60 (e := (108, .aload_n 0, 1)) rfl) rfl rfl (pc' := 109) rfl ?_
    refine jW.aload_n (dx_Mo_takeLine 61 (e := (109, .aload_n 0, 1)) rfl) rfl rfl (pc' := 110) rfl ?_
    refine jW.mgi F hV f_Mo_takeLine_110 (by decide) (pc' := 113) rfl ?_
    refine jW.callVe F (h (d + 3) _ hV) (dx_Mo_takeLine 63 (e := (113, .invokevirtual 171, 3)) rfl) can_Mo_closeTo jw_1202 jw_1204 hV.cl rfl sel_Mo_closeTo rfl rfl (Nat.le_of_ble_eq_true rfl) (pc' := 116) rfl (fun r σ hr => ?_)
    clear hV
    refine mQ.up hr.1 ?_
    obtain ⟨_, hV, rfl, h⟩ := hr.2
    exact jW.vret (dx_Mo_takeLine 64 (e := (116, .return_, 1)) rfl) rfl ⟨FR.rfl, _, hV, h⟩
def w_Mo_takeLine_80 (X : MX) (x1 x2 x3 x4 : Int32) (m : MS) (Φ : Option Value → MS → Prop) (K37 : Int32 → Int32 → Int32 → Int32 → MS → Prop) (K163 : Int32 → Int32 → Int32 → Int32 → Int32 → MS → Prop) : Prop := K37 (x1) (x2) (x3) (x4 + 1) m
theorem t_Mo_takeLine_80 {X : MX} {a0 : Array Value} (F : mF X a0) {d : Nat} {x1 x2 x3 x4 : Int32} {o5 o6 : Option Value} {m : MS} {σ : jS} {Φ : Option Value → MS → Prop} {K37 : Int32 → Int32 → Int32 → Int32 → MS → Prop} {K163 : Int32 → Int32 → Int32 → Int32 → Int32 → MS → Prop} (hV : MV X m σ) (h : w_Mo_takeLine_80 X x1 x2 x3 x4 m Φ K37 K163) (hK37 : ∀ (x1 x2 x3 x4 : Int32) (o5 o6 : Option Value) (m : MS) (σ : jS), MV X m σ → K37 x1 x2 x3 x4 m → jW X.1 X.2.1 jcl X.2.2.1 X.2.2.2.1 (d + 10) y_Mo_takeLine 37 [some (.ref (mo X)), some (.int x1), some (.int x2), some (.int x3), some (.int x4), o5, o6] [] σ (mQ X Φ σ)) (hK163 : ∀ (x1 x2 x3 x4 x5 : Int32) (o6 : Option Value) (m : MS) (σ : jS), MV X m σ → K163 x1 x2 x3 x4 x5 m → jW X.1 X.2.1 jcl X.2.2.1 X.2.2.2.1 (d + 10) y_Mo_takeLine 163 [some (.ref (mo X)), some (.int x1), some (.int x2), some (.int x3), some (.int x4), some (.int x5), o6] [] σ (mQ X Φ σ)) : jW X.1 X.2.1 jcl X.2.2.1 X.2.2.2.1 (d + 10) y_Mo_takeLine 80 [some (.ref (mo X)), some (.int x1), some (.int x2), some (.int x3), some (.int x4), o5, o6] [] σ (mQ X Φ σ) := by
  unfold w_Mo_takeLine_80 at h
  refine jW.iinc (v := _ + (1)) (dx_Mo_takeLine 46 (e := (80, .iinc 4 1, 3)) rfl) rfl rfl (by decide) rfl (pc' := 83) rfl ?_
  refine jW.goto (dx_Mo_takeLine 47 (e := (83, .goto (-46), 3)) rfl) 37 (by decide) ?_
  exact hK37 _ _ _ _ _ _ _ _ hV h
def w_Mo_takeLine_37 (X : MX) (x1 x2 x3 x4 : Int32) (m : MS) (Φ : Option Value → MS → Prop) (K37 : Int32 → Int32 → Int32 → Int32 → MS → Prop) (K163 : Int32 → Int32 → Int32 → Int32 → Int32 → MS → Prop) : Prop := ((m.1 30 ≤ x4 → w_Mo_takeLine_86 X (x1) (x2) (x3) (x4) m Φ K163) ∧ (¬ m.1 30 ≤ x4 → ((x3 = 0 → w_Mo_takeLine_86 X (x1) (x2) (x3) (x4) m Φ K163) ∧ (¬ x3 = 0 → ((m.1 34 = 0 → (vp_in (x4) 40 ∧ mE X 2 y_Mo_goesOn [.ref (mo X), .int (m.2 29 (x4 : Int32).toNatClampNeg), .int (x1)] m (iP fun r1 m1 => ((r1 = 0 → w_Mo_takeLine_80 X (x1) (x2) (r1) (x4) m1 Φ K37 K163) ∧ (¬ r1 = 0 → ∀ m2, m2 = mI m1 32 (x4) → w_Mo_takeLine_80 X (x1) (x2) (r1) (x4) m2 Φ K37 K163))))) ∧ (¬ m.1 34 = 0 → w_Mo_takeLine_86 X (x1) (x2) (x3) (x4) m Φ K163))))))
theorem t_Mo_takeLine_37 {X : MX} {a0 : Array Value} (F : mF X a0) {d : Nat} {x1 x2 x3 x4 : Int32} {o5 o6 : Option Value} {m : MS} {σ : jS} {Φ : Option Value → MS → Prop} {K37 : Int32 → Int32 → Int32 → Int32 → MS → Prop} {K163 : Int32 → Int32 → Int32 → Int32 → Int32 → MS → Prop} (hV : MV X m σ) (h : w_Mo_takeLine_37 X x1 x2 x3 x4 m Φ K37 K163) (hK37 : ∀ (x1 x2 x3 x4 : Int32) (o5 o6 : Option Value) (m : MS) (σ : jS), MV X m σ → K37 x1 x2 x3 x4 m → jW X.1 X.2.1 jcl X.2.2.1 X.2.2.2.1 (d + 10) y_Mo_takeLine 37 [some (.ref (mo X)), some (.int x1), some (.int x2), some (.int x3), some (.int x4), o5, o6] [] σ (mQ X Φ σ)) (hK163 : ∀ (x1 x2 x3 x4 x5 : Int32) (o6 : Option Value) (m : MS) (σ : jS), MV X m σ → K163 x1 x2 x3 x4 x5 m → jW X.1 X.2.1 jcl X.2.2.1 X.2.2.2.1 (d + 10) y_Mo_takeLine 163 [some (.ref (mo X)), some (.int x1), some (.int x2), some (.int x3), some (.int x4), some (.int x5), o6] [] σ (mQ X Φ σ)) : jW X.1 X.2.1 jcl X.2.2.1 X.2.2.2.1 (d + 10) y_Mo_takeLine 37 [some (.ref (mo X)), some (.int x1), some (.int x2), some (.int x3), some (.int x4), o5, o6] [] σ (mQ X Φ σ) := by
  unfold w_Mo_takeLine_37 at h
  refine jW.iload (dx_Mo_takeLine 24 (e := (37, .iload 4, 2)) rfl) rfl (pc' := 39) rfl ?_
  refine jW.aload_n (dx_Mo_takeLine 25 (e := (39, .aload_n 0, 1)) rfl) rfl rfl (pc' := 40) rfl ?_
  refine jW.mgi F hV f_Mo_takeLine_40 (by decide) (pc' := 43) rfl ?_
  refine jW.icmp_ge (dx_Mo_takeLine 27 (e := (43, .if_icmp .ge 43, 3)) rfl) 86 (by decide) (pc' := 46) rfl (fun c => ?_) (fun c => ?_)
  · replace h := h.1 c
    exact t_Mo_takeLine_86 F hV h hK163
  · replace h := h.2 c
    refine jW.iload_n (dx_Mo_takeLine 28 (e := (46, .iload_n 3, 1)) rfl) rfl rfl (pc' := 47) rfl ?_
    refine jW.if_eq (dx_Mo_takeLine 29 (e := (47, .ifCond .eq 39, 3)) rfl) 86 (by decide) (pc' := 50) rfl (fun c => ?_) (fun c => ?_)
    · replace h := h.1 c
      exact t_Mo_takeLine_86 F hV h hK163
    · replace h := h.2 c
      refine jW.aload_n (dx_Mo_takeLine 30 (e := (50, .aload_n 0, 1)) rfl) rfl rfl (pc' := 51) rfl ?_
      refine jW.mgi F hV f_Mo_takeLine_51 (by decide) (pc' := 54) rfl ?_
      refine jW.if_ne (dx_Mo_takeLine 32 (e := (54, .ifCond .ne 32, 3)) rfl) 86 (by decide) (pc' := 57) rfl (fun c => ?_) (fun c => ?_)
      · replace h := h.2 c
        exact t_Mo_takeLine_86 F hV h hK163
      · replace h := h.1 c
        refine jW.aload_n (dx_Mo_takeLine 33 (e := (57, .aload_n 0, 1)) rfl) rfl rfl (pc' := 58) rfl ?_
        refine jW.aload_n (dx_Mo_takeLine 34 (e := (58, .aload_n 0, 1)) rfl) rfl rfl (pc' := 59) rfl ?_
        refine jW.mga F hV f_Mo_takeLine_59 (by decide) (pc' := 62) rfl ?_
        refine jW.iload (dx_Mo_takeLine 36 (e := (62, .iload 4, 2)) rfl) rfl (pc' := 64) rfl ?_
        refine jW.mla F hV (dx_Mo_takeLine 37 (e := (64, .iaload, 1)) rfl) (by decide) rfl h.1 (pc' := 65) rfl ?_
        replace h := h.2
        refine jW.iload_n (dx_Mo_takeLine 38 (e := (65, .iload_n 1, 1)) rfl) rfl rfl (pc' := 66) rfl ?_
        refine jW.callVe F (h (d + 7) _ hV) (dx_Mo_takeLine 39 (e := (66, .invokevirtual 239, 3)) rfl) can_Mo_goesOn jw_1182 jw_1184 hV.cl rfl sel_Mo_goesOn rfl rfl (Nat.le_of_ble_eq_true rfl) (pc' := 69) rfl (fun r σ hr => ?_)
        clear hV
        refine mQ.up hr.1 ?_
        obtain ⟨_, hV, _, rfl, h⟩ := hr.2
        refine jW.istore_n (dx_Mo_takeLine 40 (e := (69, .istore_n 3, 1)) rfl) rfl (by decide) rfl (pc' := 70) rfl ?_
        refine jW.iload_n (dx_Mo_takeLine 41 (e := (70, .iload_n 3, 1)) rfl) rfl rfl (pc' := 71) rfl ?_
        refine jW.if_eq (dx_Mo_takeLine 42 (e := (71, .ifCond .eq 9, 3)) rfl) 80 (by decide) (pc' := 74) rfl (fun c => ?_) (fun c => ?_)
        · replace h := h.1 c
          exact t_Mo_takeLine_80 F hV h hK37 hK163
        · replace h := h.2 c
          refine jW.aload_n (dx_Mo_takeLine 43 (e := (74, .aload_n 0, 1)) rfl) rfl rfl (pc' := 75) rfl ?_
          refine jW.iload (dx_Mo_takeLine 44 (e := (75, .iload 4, 2)) rfl) rfl (pc' := 77) rfl ?_
          refine jW.mpi F hV f_Mo_takeLine_77 (by decide) rfl rfl rfl (pc' := 80) rfl (fun σ hV => ?_)
          replace h := h _ rfl
          exact t_Mo_takeLine_80 F hV h hK37 hK163
def w_Mo_takeLine_0 (X : MX) (x1 : Int32) (m : MS) (Φ : Option Value → MS → Prop) (K37 : Int32 → Int32 → Int32 → Int32 → MS → Prop) (K163 : Int32 → Int32 → Int32 → Int32 → Int32 → MS → Prop) : Prop := ∀ m1, m1 = mI m 31 (0) → ∀ m2, m2 = mI m1 34 (0) → ∀ m3, m3 = mI m2 33 (0) → (vp_in ((m3.1 30) - 1) 40 ∧ ∀ m4, m4 = mI m3 32 (0) → K37 (x1) (m3.2 29 ((m3.1 30) - 1 : Int32).toNatClampNeg) (1) (1) m4)
theorem t_Mo_takeLine_0 {X : MX} {a0 : Array Value} (F : mF X a0) {d : Nat} {x1 : Int32} {o2 o3 o4 o5 o6 : Option Value} {m : MS} {σ : jS} {Φ : Option Value → MS → Prop} {K37 : Int32 → Int32 → Int32 → Int32 → MS → Prop} {K163 : Int32 → Int32 → Int32 → Int32 → Int32 → MS → Prop} (hV : MV X m σ) (h : w_Mo_takeLine_0 X x1 m Φ K37 K163) (hK37 : ∀ (x1 x2 x3 x4 : Int32) (o5 o6 : Option Value) (m : MS) (σ : jS), MV X m σ → K37 x1 x2 x3 x4 m → jW X.1 X.2.1 jcl X.2.2.1 X.2.2.2.1 (d + 10) y_Mo_takeLine 37 [some (.ref (mo X)), some (.int x1), some (.int x2), some (.int x3), some (.int x4), o5, o6] [] σ (mQ X Φ σ)) (hK163 : ∀ (x1 x2 x3 x4 x5 : Int32) (o6 : Option Value) (m : MS) (σ : jS), MV X m σ → K163 x1 x2 x3 x4 x5 m → jW X.1 X.2.1 jcl X.2.2.1 X.2.2.2.1 (d + 10) y_Mo_takeLine 163 [some (.ref (mo X)), some (.int x1), some (.int x2), some (.int x3), some (.int x4), some (.int x5), o6] [] σ (mQ X Φ σ)) : jW X.1 X.2.1 jcl X.2.2.1 X.2.2.2.1 (d + 10) y_Mo_takeLine 0 [some (.ref (mo X)), some (.int x1), o2, o3, o4, o5, o6] [] σ (mQ X Φ σ) := by
  unfold w_Mo_takeLine_0 at h
  refine jW.aload_n (dx_Mo_takeLine 0 (e := (0, .aload_n 0, 1)) rfl) rfl rfl (pc' := 1) rfl ?_
  refine jW.iconst (v := 0) (dx_Mo_takeLine 1 (e := (1, .iconst 0, 1)) rfl) (by decide) (pc' := 2) rfl ?_
  refine jW.mpi F hV f_Mo_takeLine_2 (by decide) rfl rfl rfl (pc' := 5) rfl (fun σ hV => ?_)
  replace h := h _ rfl
  refine jW.aload_n (dx_Mo_takeLine 3 (e := (5, .aload_n 0, 1)) rfl) rfl rfl (pc' := 6) rfl ?_
  refine jW.iconst (v := 0) (dx_Mo_takeLine 4 (e := (6, .iconst 0, 1)) rfl) (by decide) (pc' := 7) rfl ?_
  refine jW.mpi F hV f_Mo_takeLine_7 (by decide) rfl rfl rfl (pc' := 10) rfl (fun σ hV => ?_)
  replace h := h _ rfl
  refine jW.aload_n (dx_Mo_takeLine 6 (e := (10, .aload_n 0, 1)) rfl) rfl rfl (pc' := 11) rfl ?_
  refine jW.iconst (v := 0) (dx_Mo_takeLine 7 (e := (11, .iconst 0, 1)) rfl) (by decide) (pc' := 12) rfl ?_
  refine jW.mpi F hV f_Mo_takeLine_12 (by decide) rfl rfl rfl (pc' := 15) rfl (fun σ hV => ?_)
  replace h := h _ rfl
  refine jW.aload_n (dx_Mo_takeLine 9 (e := (15, .aload_n 0, 1)) rfl) rfl rfl (pc' := 16) rfl ?_
  refine jW.mga F hV f_Mo_takeLine_16 (by decide) (pc' := 19) rfl ?_
  refine jW.aload_n (dx_Mo_takeLine 11 (e := (19, .aload_n 0, 1)) rfl) rfl rfl (pc' := 20) rfl ?_
  refine jW.mgi F hV f_Mo_takeLine_20 (by decide) (pc' := 23) rfl ?_
  refine jW.iconst (v := 1) (dx_Mo_takeLine 13 (e := (23, .iconst 1, 1)) rfl) (by decide) (pc' := 24) rfl ?_
  refine jW.isub (dx_Mo_takeLine 14 (e := (24, .isub, 1)) rfl) (pc' := 25) rfl ?_
  refine jW.mla F hV (dx_Mo_takeLine 15 (e := (25, .iaload, 1)) rfl) (by decide) rfl h.1 (pc' := 26) rfl ?_
  replace h := h.2
  refine jW.istore_n (dx_Mo_takeLine 16 (e := (26, .istore_n 2, 1)) rfl) rfl (by decide) rfl (pc' := 27) rfl ?_
  refine jW.aload_n (dx_Mo_takeLine 17 (e := (27, .aload_n 0, 1)) rfl) rfl rfl (pc' := 28) rfl ?_
  refine jW.iconst (v := 0) (dx_Mo_takeLine 18 (e := (28, .iconst 0, 1)) rfl) (by decide) (pc' := 29) rfl ?_
  refine jW.mpi F hV f_Mo_takeLine_29 (by decide) rfl rfl rfl (pc' := 32) rfl (fun σ hV => ?_)
  replace h := h _ rfl
  refine jW.iconst (v := 1) (dx_Mo_takeLine 20 (e := (32, .iconst 1, 1)) rfl) (by decide) (pc' := 33) rfl ?_
  refine jW.istore_n (dx_Mo_takeLine 21 (e := (33, .istore_n 3, 1)) rfl) rfl (by decide) rfl (pc' := 34) rfl ?_
  refine jW.iconst (v := 1) (dx_Mo_takeLine 22 (e := (34, .iconst 1, 1)) rfl) (by decide) (pc' := 35) rfl ?_
  refine jW.istore (dx_Mo_takeLine 23 (e := (35, .istore 4, 2)) rfl) (by decide) rfl (pc' := 37) rfl ?_
  exact hK37 _ _ _ _ _ _ _ _ hV h
theorem g_Mo_takeLine {X : MX} {a0 : Array Value} (F : mF X a0) {x1 : Int32} {m : MS} {Φ : Option Value → MS → Prop} {I37 : Nat → Int32 → Int32 → Int32 → Int32 → MS → Prop} {I163 : Nat → Int32 → Int32 → Int32 → Int32 → Int32 → MS → Prop} (he : w_Mo_takeLine_0 X x1 m Φ (fun x1 x2 x3 x4 m => ∃ j, I37 j x1 x2 x3 x4 m) (fun x1 x2 x3 x4 x5 m => ∃ j, I163 j x1 x2 x3 x4 x5 m)) (h163 : ∀ (n : Nat) (x1 x2 x3 x4 x5 : Int32) (m : MS), I163 n x1 x2 x3 x4 x5 m → w_Mo_takeLine_163 X x1 x2 x3 x4 x5 m Φ (fun x1 x2 x3 x4 x5 m => ∃ j, j < n ∧ I163 j x1 x2 x3 x4 x5 m)) (h37 : ∀ (n : Nat) (x1 x2 x3 x4 : Int32) (m : MS), I37 n x1 x2 x3 x4 m → w_Mo_takeLine_37 X x1 x2 x3 x4 m Φ (fun x1 x2 x3 x4 m => ∃ j, j < n ∧ I37 j x1 x2 x3 x4 m) (fun x1 x2 x3 x4 x5 m => ∃ j, I163 j x1 x2 x3 x4 x5 m)) : mE X 10 y_Mo_takeLine [.ref (mo X), .int x1] m Φ := by
  intro d σ hV
  have hL163 : ∀ n, (∀ (x1 x2 x3 x4 x5 : Int32) (o6 : Option Value) (m : MS) (σ : jS), MV X m σ → I163 n x1 x2 x3 x4 x5 m → jW X.1 X.2.1 jcl X.2.2.1 X.2.2.2.1 (d + 10) y_Mo_takeLine 163 [some (.ref (mo X)), some (.int x1), some (.int x2), some (.int x3), some (.int x4), some (.int x5), o6] [] σ (mQ X Φ σ)) := by
    intro n
    induction n using Nat.strongRecOn with
    | _ n ih =>
      exact fun x1 x2 x3 x4 x5 o6 m σ hV hI => t_Mo_takeLine_163 F hV (h163 n x1 x2 x3 x4 x5 m hI) (fun x1 x2 x3 x4 x5 o6 m σ hV ⟨j, hj, hI⟩ => (ih j hj) x1 x2 x3 x4 x5 o6 m σ hV hI)
  have hL37 : ∀ n, (∀ (x1 x2 x3 x4 : Int32) (o5 o6 : Option Value) (m : MS) (σ : jS), MV X m σ → I37 n x1 x2 x3 x4 m → jW X.1 X.2.1 jcl X.2.2.1 X.2.2.2.1 (d + 10) y_Mo_takeLine 37 [some (.ref (mo X)), some (.int x1), some (.int x2), some (.int x3), some (.int x4), o5, o6] [] σ (mQ X Φ σ)) := by
    intro n
    induction n using Nat.strongRecOn with
    | _ n ih =>
      exact fun x1 x2 x3 x4 o5 o6 m σ hV hI => t_Mo_takeLine_37 F hV (h37 n x1 x2 x3 x4 m hI) (fun x1 x2 x3 x4 o5 o6 m σ hV ⟨j, hj, hI⟩ => (ih j hj) x1 x2 x3 x4 o5 o6 m σ hV hI) (fun x1 x2 x3 x4 x5 o6 m σ hV ⟨j, hI⟩ => (hL163 j) x1 x2 x3 x4 x5 o6 m σ hV hI)
  refine jE.of (by decide) (by simp [Value.category]) (Nat.le_of_ble_eq_true rfl) rfl ?_
  exact t_Mo_takeLine_0 F hV he (fun x1 x2 x3 x4 o5 o6 m σ hV ⟨j, hI⟩ => (hL37 j) x1 x2 x3 x4 o5 o6 m σ hV hI) (fun x1 x2 x3 x4 x5 o6 m σ hV ⟨j, hI⟩ => (hL163 j) x1 x2 x3 x4 x5 o6 m σ hV hI)
def w_Mo_goesOn_84 (X : MX) (x1 x2 x3 x4 : Int32) (m : MS) (Φ : Option Value → MS → Prop) : Prop := Φ (some (.int (0))) m
theorem t_Mo_goesOn_84 {X : MX} {a0 : Array Value} (F : mF X a0) {d : Nat} {x1 x2 x3 x4 : Int32} {o5 : Option Value} {m : MS} {σ : jS} {Φ : Option Value → MS → Prop} (hV : MV X m σ) (h : w_Mo_goesOn_84 X x1 x2 x3 x4 m Φ) : jW X.1 X.2.1 jcl X.2.2.1 X.2.2.2.1 (d + 2) y_Mo_goesOn 84 [some (.ref (mo X)), some (.int x1), some (.int x2), some (.int x3), some (.int x4), o5] [] σ (mQ X Φ σ) := by
  unfold w_Mo_goesOn_84 at h
  refine jW.iconst (v := 0) (dx_Mo_goesOn 24 (e := (84, .iconst 0, 1)) rfl) (by decide) (pc' := 85) rfl ?_
  exact jW.zret (dx_Mo_goesOn 25 (e := (85, .ireturn, 1)) rfl) rfl (by decide) ⟨FR.rfl, _, hV, h⟩
def w_Mo_goesOn_121 (X : MX) (x1 x2 x3 x4 s1 s2 : Int32) (m : MS) (Φ : Option Value → MS → Prop) : Prop := ∀ m1, m1 = mI m 31 (s1 + s2) → Φ (some (.int (1))) m1
theorem t_Mo_goesOn_121 {X : MX} {a0 : Array Value} (F : mF X a0) {d : Nat} {x1 x2 x3 x4 s1 s2 : Int32} {o5 : Option Value} {m : MS} {σ : jS} {Φ : Option Value → MS → Prop} (hV : MV X m σ) (h : w_Mo_goesOn_121 X x1 x2 x3 x4 s1 s2 m Φ) : jW X.1 X.2.1 jcl X.2.2.1 X.2.2.2.1 (d + 2) y_Mo_goesOn 121 [some (.ref (mo X)), some (.int x1), some (.int x2), some (.int x3), some (.int x4), o5] [.int s2, .int s1, .ref (mo X)] σ (mQ X Φ σ) := by
  unfold w_Mo_goesOn_121 at h
  refine jW.iadd (dx_Mo_goesOn 46 (e := (121, .iadd, 1)) rfl) (pc' := 122) rfl ?_
  refine jW.mpi F hV f_Mo_goesOn_122 (by decide) rfl rfl rfl (pc' := 125) rfl (fun σ hV => ?_)
  replace h := h _ rfl
  refine jW.iconst (v := 1) (dx_Mo_goesOn 48 (e := (125, .iconst 1, 1)) rfl) (by decide) (pc' := 126) rfl ?_
  exact jW.zret (dx_Mo_goesOn 49 (e := (126, .ireturn, 1)) rfl) rfl (by decide) ⟨FR.rfl, _, hV, h⟩
def w_Mo_goesOn_182 (X : MX) (x1 x2 x3 x4 s1 : Int32) (m : MS) (Φ : Option Value → MS → Prop) : Prop := ∀ m1, m1 = mI m 31 (s1) → Φ (some (.int (1))) m1
theorem t_Mo_goesOn_182 {X : MX} {a0 : Array Value} (F : mF X a0) {d : Nat} {x1 x2 x3 x4 s1 : Int32} {o5 : Option Value} {m : MS} {σ : jS} {Φ : Option Value → MS → Prop} (hV : MV X m σ) (h : w_Mo_goesOn_182 X x1 x2 x3 x4 s1 m Φ) : jW X.1 X.2.1 jcl X.2.2.1 X.2.2.2.1 (d + 2) y_Mo_goesOn 182 [some (.ref (mo X)), some (.int x1), some (.int x2), some (.int x3), some (.int x4), o5] [.int s1, .ref (mo X)] σ (mQ X Φ σ) := by
  unfold w_Mo_goesOn_182 at h
  refine jW.mpi F hV f_Mo_goesOn_182 (by decide) rfl rfl rfl (pc' := 185) rfl (fun σ hV => ?_)
  replace h := h _ rfl
  refine jW.iconst (v := 1) (dx_Mo_goesOn 82 (e := (185, .iconst 1, 1)) rfl) (by decide) (pc' := 186) rfl ?_
  exact jW.zret (dx_Mo_goesOn 83 (e := (186, .ireturn, 1)) rfl) rfl (by decide) ⟨FR.rfl, _, hV, h⟩
def w_Mo_goesOn_158 (X : MX) (x1 x2 x3 x4 : Int32) (m : MS) (Φ : Option Value → MS → Prop) : Prop := ((x4 = 0 → (vp_in (x1) 3300 ∧ w_Mo_goesOn_182 X (x1) (x2) (x3) (x4) ((m.1 31) + (m.2 24 (x1 : Int32).toNatClampNeg)) m Φ)) ∧ (¬ x4 = 0 → w_Mo_goesOn_182 X (x1) (x2) (x3) (x4) (m.1 12) m Φ))
theorem t_Mo_goesOn_158 {X : MX} {a0 : Array Value} (F : mF X a0) {d : Nat} {x1 x2 x3 x4 : Int32} {o5 : Option Value} {m : MS} {σ : jS} {Φ : Option Value → MS → Prop} (hV : MV X m σ) (h : w_Mo_goesOn_158 X x1 x2 x3 x4 m Φ) : jW X.1 X.2.1 jcl X.2.2.1 X.2.2.2.1 (d + 2) y_Mo_goesOn 158 [some (.ref (mo X)), some (.int x1), some (.int x2), some (.int x3), some (.int x4), o5] [] σ (mQ X Φ σ) := by
  unfold w_Mo_goesOn_158 at h
  refine jW.aload_n (dx_Mo_goesOn 68 (e := (158, .aload_n 0, 1)) rfl) rfl rfl (pc' := 159) rfl ?_
  refine jW.iload (dx_Mo_goesOn 69 (e := (159, .iload 4, 2)) rfl) rfl (pc' := 161) rfl ?_
  refine jW.if_eq (dx_Mo_goesOn 70 (e := (161, .ifCond .eq 10, 3)) rfl) 171 (by decide) (pc' := 164) rfl (fun c => ?_) (fun c => ?_)
  · replace h := h.1 c
    refine jW.aload_n (dx_Mo_goesOn 74 (e := (171, .aload_n 0, 1)) rfl) rfl rfl (pc' := 172) rfl ?_
    refine jW.mgi F hV f_Mo_goesOn_172 (by decide) (pc' := 175) rfl ?_
    refine jW.aload_n (dx_Mo_goesOn 76 (e := (175, .aload_n 0, 1)) rfl) rfl rfl (pc' := 176) rfl ?_
    refine jW.mga F hV f_Mo_goesOn_176 (by decide) (pc' := 179) rfl ?_
    refine jW.iload_n (dx_Mo_goesOn 78 (e := (179, .iload_n 1, 1)) rfl) rfl rfl (pc' := 180) rfl ?_
    refine jW.mla F hV (dx_Mo_goesOn 79 (e := (180, .iaload, 1)) rfl) (by decide) rfl h.1 (pc' := 181) rfl ?_
    replace h := h.2
    refine jW.iadd (dx_Mo_goesOn 80 (e := (181, .iadd, 1)) rfl) (pc' := 182) rfl ?_
    exact t_Mo_goesOn_182 F hV h
  · replace h := h.2 c
    refine jW.aload_n (dx_Mo_goesOn 71 (e := (164, .aload_n 0, 1)) rfl) rfl rfl (pc' := 165) rfl ?_
    refine jW.mgi F hV f_Mo_goesOn_165 (by decide) (pc' := 168) rfl ?_
    refine jW.goto (dx_Mo_goesOn 73 (e := (168, .goto 14, 3)) rfl) 182 (by decide) ?_
    exact t_Mo_goesOn_182 F hV h
def w_Mo_goesOn_156 (X : MX) (x1 x2 x3 x4 : Int32) (m : MS) (Φ : Option Value → MS → Prop) : Prop := Φ (some (.int (0))) m
theorem t_Mo_goesOn_156 {X : MX} {a0 : Array Value} (F : mF X a0) {d : Nat} {x1 x2 x3 x4 : Int32} {o5 : Option Value} {m : MS} {σ : jS} {Φ : Option Value → MS → Prop} (hV : MV X m σ) (h : w_Mo_goesOn_156 X x1 x2 x3 x4 m Φ) : jW X.1 X.2.1 jcl X.2.2.1 X.2.2.2.1 (d + 2) y_Mo_goesOn 156 [some (.ref (mo X)), some (.int x1), some (.int x2), some (.int x3), some (.int x4), o5] [] σ (mQ X Φ σ) := by
  unfold w_Mo_goesOn_156 at h
  refine jW.iconst (v := 0) (dx_Mo_goesOn 66 (e := (156, .iconst 0, 1)) rfl) (by decide) (pc' := 157) rfl ?_
  exact jW.zret (dx_Mo_goesOn 67 (e := (157, .ireturn, 1)) rfl) rfl (by decide) ⟨FR.rfl, _, hV, h⟩
def w_Mo_goesOn_197 (X : MX) (x1 x2 x3 x4 s0 : Int32) (m : MS) (Φ : Option Value → MS → Prop) : Prop := (mZ (s0) ∧ Φ (some (.int (s0))) m)
theorem t_Mo_goesOn_197 {X : MX} {a0 : Array Value} (F : mF X a0) {d : Nat} {x1 x2 x3 x4 s0 : Int32} {o5 : Option Value} {m : MS} {σ : jS} {Φ : Option Value → MS → Prop} (hV : MV X m σ) (h : w_Mo_goesOn_197 X x1 x2 x3 x4 s0 m Φ) : jW X.1 X.2.1 jcl X.2.2.1 X.2.2.2.1 (d + 2) y_Mo_goesOn 197 [some (.ref (mo X)), some (.int x1), some (.int x2), some (.int x3), some (.int x4), o5] [.int s0] σ (mQ X Φ σ) := by
  unfold w_Mo_goesOn_197 at h
  exact jW.zret (dx_Mo_goesOn 89 (e := (197, .ireturn, 1)) rfl) rfl h.1.n ⟨FR.rfl, _, hV, h.2⟩
def w_Mo_goesOn_334 (X : MX) (x1 x2 x3 x4 : Int32) (m : MS) (Φ : Option Value → MS → Prop) : Prop := Φ (some (.int (0))) m
theorem t_Mo_goesOn_334 {X : MX} {a0 : Array Value} (F : mF X a0) {d : Nat} {x1 x2 x3 x4 : Int32} {o5 : Option Value} {m : MS} {σ : jS} {Φ : Option Value → MS → Prop} (hV : MV X m σ) (h : w_Mo_goesOn_334 X x1 x2 x3 x4 m Φ) : jW X.1 X.2.1 jcl X.2.2.1 X.2.2.2.1 (d + 2) y_Mo_goesOn 334 [some (.ref (mo X)), some (.int x1), some (.int x2), some (.int x3), some (.int x4), o5] [] σ (mQ X Φ σ) := by
  unfold w_Mo_goesOn_334 at h
  refine jW.iconst (v := 0) (dx_Mo_goesOn 170 (e := (334, .iconst 0, 1)) rfl) (by decide) (pc' := 335) rfl ?_
  exact jW.zret (dx_Mo_goesOn 171 (e := (335, .ireturn, 1)) rfl) rfl (by decide) ⟨FR.rfl, _, hV, h⟩
def w_Mo_goesOn_328 (X : MX) (x1 x2 x3 x4 x5 s1 s2 : Int32) (m : MS) (Φ : Option Value → MS → Prop) : Prop := ∀ m1, m1 = mI m 31 (s1 + s2) → Φ (some (.int (1))) m1
theorem t_Mo_goesOn_328 {X : MX} {a0 : Array Value} (F : mF X a0) {d : Nat} {x1 x2 x3 x4 x5 s1 s2 : Int32} {m : MS} {σ : jS} {Φ : Option Value → MS → Prop} (hV : MV X m σ) (h : w_Mo_goesOn_328 X x1 x2 x3 x4 x5 s1 s2 m Φ) : jW X.1 X.2.1 jcl X.2.2.1 X.2.2.2.1 (d + 2) y_Mo_goesOn 328 [some (.ref (mo X)), some (.int x1), some (.int x2), some (.int x3), some (.int x4), some (.int x5)] [.int s2, .int s1, .ref (mo X)] σ (mQ X Φ σ) := by
  unfold w_Mo_goesOn_328 at h
  refine jW.iadd (dx_Mo_goesOn 166 (e := (328, .iadd, 1)) rfl) (pc' := 329) rfl ?_
  refine jW.mpi F hV f_Mo_goesOn_329 (by decide) rfl rfl rfl (pc' := 332) rfl (fun σ hV => ?_)
  replace h := h _ rfl
  refine jW.iconst (v := 1) (dx_Mo_goesOn 168 (e := (332, .iconst 1, 1)) rfl) (by decide) (pc' := 333) rfl ?_
  exact jW.zret (dx_Mo_goesOn 169 (e := (333, .ireturn, 1)) rfl) rfl (by decide) ⟨FR.rfl, _, hV, h⟩
def w_Mo_goesOn_300 (X : MX) (x1 x2 x3 x4 x5 s1 : Int32) (m : MS) (Φ : Option Value → MS → Prop) : Prop := (mZ (s1) ∧ ∀ m1, m1 = mI m 34 (s1) → (vp_in (x1) 3300 ∧ ((m1.2 24 (x1 : Int32).toNatClampNeg ≤ x3 → (vp_in (x1) 3300 ∧ w_Mo_goesOn_328 X (x1) (x2) (x3) (x4) (x5) (m1.1 31) (m1.2 24 (x1 : Int32).toNatClampNeg) m1 Φ)) ∧ (¬ m1.2 24 (x1 : Int32).toNatClampNeg ≤ x3 → w_Mo_goesOn_328 X (x1) (x2) (x3) (x4) (x5) (m1.1 31) (x3) m1 Φ))))
theorem t_Mo_goesOn_300 {X : MX} {a0 : Array Value} (F : mF X a0) {d : Nat} {x1 x2 x3 x4 x5 s1 : Int32} {m : MS} {σ : jS} {Φ : Option Value → MS → Prop} (hV : MV X m σ) (h : w_Mo_goesOn_300 X x1 x2 x3 x4 x5 s1 m Φ) : jW X.1 X.2.1 jcl X.2.2.1 X.2.2.2.1 (d + 2) y_Mo_goesOn 300 [some (.ref (mo X)), some (.int x1), some (.int x2), some (.int x3), some (.int x4), some (.int x5)] [.int s1, .ref (mo X)] σ (mQ X Φ σ) := by
  unfold w_Mo_goesOn_300 at h
  refine jW.mpi F hV f_Mo_goesOn_300 (by decide) rfl h.1.n h.1.f (pc' := 303) rfl (fun σ hV => ?_)
  replace h := h.2
  replace h := h _ rfl
  refine jW.aload_n (dx_Mo_goesOn 151 (e := (303, .aload_n 0, 1)) rfl) rfl rfl (pc' := 304) rfl ?_
  refine jW.dup (dx_Mo_goesOn 152 (e := (304, .dup, 1)) rfl) rfl (pc' := 305) rfl ?_
  refine jW.mgi F hV f_Mo_goesOn_305 (by decide) (pc' := 308) rfl ?_
  refine jW.iload_n (dx_Mo_goesOn 154 (e := (308, .iload_n 3, 1)) rfl) rfl rfl (pc' := 309) rfl ?_
  refine jW.aload_n (dx_Mo_goesOn 155 (e := (309, .aload_n 0, 1)) rfl) rfl rfl (pc' := 310) rfl ?_
  refine jW.mga F hV f_Mo_goesOn_310 (by decide) (pc' := 313) rfl ?_
  refine jW.iload_n (dx_Mo_goesOn 157 (e := (313, .iload_n 1, 1)) rfl) rfl rfl (pc' := 314) rfl ?_
  refine jW.mla F hV (dx_Mo_goesOn 158 (e := (314, .iaload, 1)) rfl) (by decide) rfl h.1 (pc' := 315) rfl ?_
  replace h := h.2
  refine jW.icmp_ge (dx_Mo_goesOn 159 (e := (315, .if_icmp .ge 7, 3)) rfl) 322 (by decide) (pc' := 318) rfl (fun c => ?_) (fun c => ?_)
  · replace h := h.1 c
    refine jW.aload_n (dx_Mo_goesOn 162 (e := (322, .aload_n 0, 1)) rfl) rfl rfl (pc' := 323) rfl ?_
    refine jW.mga F hV f_Mo_goesOn_323 (by decide) (pc' := 326) rfl ?_
    refine jW.iload_n (dx_Mo_goesOn 164 (e := (326, .iload_n 1, 1)) rfl) rfl rfl (pc' := 327) rfl ?_
    refine jW.mla F hV (dx_Mo_goesOn 165 (e := (327, .iaload, 1)) rfl) (by decide) rfl h.1 (pc' := 328) rfl ?_
    replace h := h.2
    exact t_Mo_goesOn_328 F hV h
  · replace h := h.2 c
    refine jW.iload_n (dx_Mo_goesOn 160 (e := (318, .iload_n 3, 1)) rfl) rfl rfl (pc' := 319) rfl ?_
    refine jW.goto (dx_Mo_goesOn 161 (e := (319, .goto 9, 3)) rfl) 328 (by decide) ?_
    exact t_Mo_goesOn_328 F hV h
def w_Mo_goesOn_299 (X : MX) (x1 x2 x3 x4 x5 : Int32) (m : MS) (Φ : Option Value → MS → Prop) : Prop := w_Mo_goesOn_300 X (x1) (x2) (x3) (x4) (x5) (0) m Φ
theorem t_Mo_goesOn_299 {X : MX} {a0 : Array Value} (F : mF X a0) {d : Nat} {x1 x2 x3 x4 x5 : Int32} {m : MS} {σ : jS} {Φ : Option Value → MS → Prop} (hV : MV X m σ) (h : w_Mo_goesOn_299 X x1 x2 x3 x4 x5 m Φ) : jW X.1 X.2.1 jcl X.2.2.1 X.2.2.2.1 (d + 2) y_Mo_goesOn 299 [some (.ref (mo X)), some (.int x1), some (.int x2), some (.int x3), some (.int x4), some (.int x5)] [.ref (mo X)] σ (mQ X Φ σ) := by
  unfold w_Mo_goesOn_299 at h
  refine jW.iconst (v := 0) (dx_Mo_goesOn 149 (e := (299, .iconst 0, 1)) rfl) (by decide) (pc' := 300) rfl ?_
  exact t_Mo_goesOn_300 F hV h
def w_Mo_goesOn_265 (X : MX) (x1 x2 x3 x4 s0 : Int32) (m : MS) (Φ : Option Value → MS → Prop) : Prop := (vp_in (x1) 3300 ∧ ((s0 < m.2 23 (x1 : Int32).toNatClampNeg → w_Mo_goesOn_299 X (x1) (x2) (x3) (x4) (s0) m Φ) ∧ (¬ s0 < m.2 23 (x1 : Int32).toNatClampNeg → mE X 0 y_Mo_isBlank [.ref (mo X), .int (((m.1 31) + x3) + s0)] m (iP fun r1 m1 => ((r1 = 0 → w_Mo_goesOn_299 X (x1) (x2) (x3) (x4) (s0) m1 Φ) ∧ (¬ r1 = 0 → w_Mo_goesOn_300 X (x1) (x2) (x3) (x4) (s0) (1) m1 Φ))))))
theorem t_Mo_goesOn_265 {X : MX} {a0 : Array Value} (F : mF X a0) {d : Nat} {x1 x2 x3 x4 s0 : Int32} {o5 : Option Value} {m : MS} {σ : jS} {Φ : Option Value → MS → Prop} (hV : MV X m σ) (h : w_Mo_goesOn_265 X x1 x2 x3 x4 s0 m Φ) : jW X.1 X.2.1 jcl X.2.2.1 X.2.2.2.1 (d + 2) y_Mo_goesOn 265 [some (.ref (mo X)), some (.int x1), some (.int x2), some (.int x3), some (.int x4), o5] [.int s0] σ (mQ X Φ σ) := by
  unfold w_Mo_goesOn_265 at h
  refine jW.istore (dx_Mo_goesOn 130 (e := (265, .istore 5, 2)) rfl) (by decide) rfl (pc' := 267) rfl ?_
  refine jW.aload_n (dx_Mo_goesOn 131 (e := (267, .aload_n 0, 1)) rfl) rfl rfl (pc' := 268) rfl ?_
  refine jW.iload (dx_Mo_goesOn 132 (e := (268, .iload 5, 2)) rfl) rfl (pc' := 270) rfl ?_
  refine jW.aload_n (dx_Mo_goesOn 133 (e := (270, .aload_n 0, 1)) rfl) rfl rfl (pc' := 271) rfl ?_
  refine jW.mga F hV f_Mo_goesOn_271 (by decide) (pc' := 274) rfl ?_
  refine jW.iload_n (dx_Mo_goesOn 135 (e := (274, .iload_n 1, 1)) rfl) rfl rfl (pc' := 275) rfl ?_
  refine jW.mla F hV (dx_Mo_goesOn 136 (e := (275, .iaload, 1)) rfl) (by decide) rfl h.1 (pc' := 276) rfl ?_
  replace h := h.2
  refine jW.icmp_lt (dx_Mo_goesOn 137 (e := (276, .if_icmp .lt 23, 3)) rfl) 299 (by decide) (pc' := 279) rfl (fun c => ?_) (fun c => ?_)
  · replace h := h.1 c
    exact t_Mo_goesOn_299 F hV h
  · replace h := h.2 c
    refine jW.aload_n (dx_Mo_goesOn 138 (e := (279, .aload_n 0, 1)) rfl) rfl rfl (pc' := 280) rfl ?_
    refine jW.aload_n (dx_Mo_goesOn 139 (e := (280, .aload_n 0, 1)) rfl) rfl rfl (pc' := 281) rfl ?_
    refine jW.mgi F hV f_Mo_goesOn_281 (by decide) (pc' := 284) rfl ?_
    refine jW.iload_n (dx_Mo_goesOn 141 (e := (284, .iload_n 3, 1)) rfl) rfl rfl (pc' := 285) rfl ?_
    refine jW.iadd (dx_Mo_goesOn 142 (e := (285, .iadd, 1)) rfl) (pc' := 286) rfl ?_
    refine jW.iload (dx_Mo_goesOn 143 (e := (286, .iload 5, 2)) rfl) rfl (pc' := 288) rfl ?_
    refine jW.iadd (dx_Mo_goesOn 144 (e := (288, .iadd, 1)) rfl) (pc' := 289) rfl ?_
    refine jW.callVe F (h (d + 1) _ hV) (dx_Mo_goesOn 145 (e := (289, .invokevirtual 137, 3)) rfl) can_Mo_isBlank jw_1190 jw_1192 hV.cl rfl sel_Mo_isBlank rfl rfl (Nat.le_of_ble_eq_true rfl) (pc' := 292) rfl (fun r σ hr => ?_)
    clear hV
    refine mQ.up hr.1 ?_
    obtain ⟨_, hV, _, rfl, h⟩ := hr.2
    refine jW.if_eq (dx_Mo_goesOn 146 (e := (292, .ifCond .eq 7, 3)) rfl) 299 (by decide) (pc' := 295) rfl (fun c => ?_) (fun c => ?_)
    · replace h := h.1 c
      exact t_Mo_goesOn_299 F hV h
    · replace h := h.2 c
      refine jW.iconst (v := 1) (dx_Mo_goesOn 147 (e := (295, .iconst 1, 1)) rfl) (by decide) (pc' := 296) rfl ?_
      refine jW.goto (dx_Mo_goesOn 148 (e := (296, .goto 4, 3)) rfl) 300 (by decide) ?_
      exact t_Mo_goesOn_300 F hV h
def w_Mo_goesOn_234 (X : MX) (x1 x2 x3 x4 s1 s2 : Int32) (m : MS) (Φ : Option Value → MS → Prop) : Prop := ∀ m1, m1 = mI m 31 (s1 + s2) → Φ (some (.int (1))) m1
theorem t_Mo_goesOn_234 {X : MX} {a0 : Array Value} (F : mF X a0) {d : Nat} {x1 x2 x3 x4 s1 s2 : Int32} {o5 : Option Value} {m : MS} {σ : jS} {Φ : Option Value → MS → Prop} (hV : MV X m σ) (h : w_Mo_goesOn_234 X x1 x2 x3 x4 s1 s2 m Φ) : jW X.1 X.2.1 jcl X.2.2.1 X.2.2.2.1 (d + 2) y_Mo_goesOn 234 [some (.ref (mo X)), some (.int x1), some (.int x2), some (.int x3), some (.int x4), o5] [.int s2, .int s1, .ref (mo X)] σ (mQ X Φ σ) := by
  unfold w_Mo_goesOn_234 at h
  refine jW.iadd (dx_Mo_goesOn 111 (e := (234, .iadd, 1)) rfl) (pc' := 235) rfl ?_
  refine jW.mpi F hV f_Mo_goesOn_235 (by decide) rfl rfl rfl (pc' := 238) rfl (fun σ hV => ?_)
  replace h := h _ rfl
  refine jW.iconst (v := 1) (dx_Mo_goesOn 113 (e := (238, .iconst 1, 1)) rfl) (by decide) (pc' := 239) rfl ?_
  exact jW.zret (dx_Mo_goesOn 114 (e := (239, .ireturn, 1)) rfl) rfl (by decide) ⟨FR.rfl, _, hV, h⟩
def w_Mo_goesOn_219 (X : MX) (x1 x2 x3 x4 : Int32) (m : MS) (Φ : Option Value → MS → Prop) : Prop := ((4 ≤ x3 → w_Mo_goesOn_234 X (x1) (x2) (x3) (x4) (m.1 31) (4) m Φ) ∧ (¬ 4 ≤ x3 → w_Mo_goesOn_234 X (x1) (x2) (x3) (x4) (m.1 31) (x3) m Φ))
theorem t_Mo_goesOn_219 {X : MX} {a0 : Array Value} (F : mF X a0) {d : Nat} {x1 x2 x3 x4 : Int32} {o5 : Option Value} {m : MS} {σ : jS} {Φ : Option Value → MS → Prop} (hV : MV X m σ) (h : w_Mo_goesOn_219 X x1 x2 x3 x4 m Φ) : jW X.1 X.2.1 jcl X.2.2.1 X.2.2.2.1 (d + 2) y_Mo_goesOn 219 [some (.ref (mo X)), some (.int x1), some (.int x2), some (.int x3), some (.int x4), o5] [] σ (mQ X Φ σ) := by
  unfold w_Mo_goesOn_219 at h
  refine jW.aload_n (dx_Mo_goesOn 102 (e := (219, .aload_n 0, 1)) rfl) rfl rfl (pc' := 220) rfl ?_
  refine jW.dup (dx_Mo_goesOn 103 (e := (220, .dup, 1)) rfl) rfl (pc' := 221) rfl ?_
  refine jW.mgi F hV f_Mo_goesOn_221 (by decide) (pc' := 224) rfl ?_
  refine jW.iload_n (dx_Mo_goesOn 105 (e := (224, .iload_n 3, 1)) rfl) rfl rfl (pc' := 225) rfl ?_
  refine jW.iconst (v := 4) (dx_Mo_goesOn 106 (e := (225, .iconst 4, 1)) rfl) (by decide) (pc' := 226) rfl ?_
  refine jW.icmp_ge (dx_Mo_goesOn 107 (e := (226, .if_icmp .ge 7, 3)) rfl) 233 (by decide) (pc' := 229) rfl (fun c => ?_) (fun c => ?_)
  · replace h := h.1 c
    refine jW.iconst (v := 4) (dx_Mo_goesOn 110 (e := (233, .iconst 4, 1)) rfl) (by decide) (pc' := 234) rfl ?_
    exact t_Mo_goesOn_234 F hV h
  · replace h := h.2 c
    refine jW.iload_n (dx_Mo_goesOn 108 (e := (229, .iload_n 3, 1)) rfl) rfl rfl (pc' := 230) rfl ?_
    refine jW.goto (dx_Mo_goesOn 109 (e := (230, .goto 4, 3)) rfl) 234 (by decide) ?_
    exact t_Mo_goesOn_234 F hV h
def w_Mo_goesOn_0 (X : MX) (x1 x2 : Int32) (m : MS) (Φ : Option Value → MS → Prop) : Prop := mE X 0 y_Mo_indent [.ref (mo X)] m (iP fun r1 m1 => mE X 0 y_Mo_isBlank [.ref (mo X), .int (m1.1 31)] m1 (iP fun r2 m2 => (vp_in (x1) 3300 ∧ (((m2.2 13 (x1 : Int32).toNatClampNeg).toInt < 1 ∨ 7 < (m2.2 13 (x1 : Int32).toNatClampNeg).toInt → w_Mo_goesOn_334 X (x1) (x2) (r1) (r2) m2 Φ) ∧ (m2.2 13 (x1 : Int32).toNatClampNeg = 1 → ((3 < r1 → w_Mo_goesOn_84 X (x1) (x2) (r1) (r2) m2 Φ) ∧ (¬ 3 < r1 → mE X 0 y_Mo_at [.ref (mo X), .int ((m2.1 31) + r1)] m2 (iP fun r3 m3 => ((r3 = 62 → ∀ m4, m4 = mI m3 31 ((m3.1 31) + (r1 + 1)) → mE X 0 y_Mo_at [.ref (mo X), .int (m4.1 31)] m4 (iP fun r5 m5 => ((r5 = 32 → w_Mo_goesOn_121 X (x1) (x2) (r1) (r2) (m4.1 31) (1) m5 Φ) ∧ (¬ r5 = 32 → w_Mo_goesOn_121 X (x1) (x2) (r1) (r2) (m4.1 31) (0) m5 Φ)))) ∧ (¬ r3 = 62 → w_Mo_goesOn_84 X (x1) (x2) (r1) (r2) m3 Φ)))))) ∧ (m2.2 13 (x1 : Int32).toNatClampNeg = 2 → Φ (some (.int (1))) m2) ∧ (m2.2 13 (x1 : Int32).toNatClampNeg = 3 → ((r2 = 0 → (vp_in (x1) 3300 ∧ ((m2.2 24 (x1 : Int32).toNatClampNeg ≤ r1 → w_Mo_goesOn_158 X (x1) (x2) (r1) (r2) m2 Φ) ∧ (¬ m2.2 24 (x1 : Int32).toNatClampNeg ≤ r1 → w_Mo_goesOn_156 X (x1) (x2) (r1) (r2) m2 Φ)))) ∧ (¬ r2 = 0 → (vp_in (x1) 3300 ∧ ((m2.2 25 (x1 : Int32).toNatClampNeg = 0 → w_Mo_goesOn_156 X (x1) (x2) (r1) (r2) m2 Φ) ∧ (¬ m2.2 25 (x1 : Int32).toNatClampNeg = 0 → w_Mo_goesOn_158 X (x1) (x2) (r1) (r2) m2 Φ)))))) ∧ (m2.2 13 (x1 : Int32).toNatClampNeg = 4 → ((r2 = 0 → w_Mo_goesOn_197 X (x1) (x2) (r1) (r2) (1) m2 Φ) ∧ (¬ r2 = 0 → w_Mo_goesOn_197 X (x1) (x2) (r1) (r2) (0) m2 Φ))) ∧ (m2.2 13 (x1 : Int32).toNatClampNeg = 5 → w_Mo_goesOn_334 X (x1) (x2) (r1) (r2) m2 Φ) ∧ (m2.2 13 (x1 : Int32).toNatClampNeg = 6 → w_Mo_goesOn_334 X (x1) (x2) (r1) (r2) m2 Φ) ∧ (m2.2 13 (x1 : Int32).toNatClampNeg = 7 → (vp_in (x1) 3300 ∧ ((m2.2 22 (x1 : Int32).toNatClampNeg = 0 → ((4 ≤ r1 → w_Mo_goesOn_219 X (x1) (x2) (r1) (r2) m2 Φ) ∧ (¬ 4 ≤ r1 → ((r2 = 0 → Φ (some (.int (0))) m2) ∧ (¬ r2 = 0 → w_Mo_goesOn_219 X (x1) (x2) (r1) (r2) m2 Φ))))) ∧ (¬ m2.2 22 (x1 : Int32).toNatClampNeg = 0 → ((4 ≤ r1 → w_Mo_goesOn_265 X (x1) (x2) (r1) (r2) (0) m2 Φ) ∧ (¬ 4 ≤ r1 → (vp_in (x1) 3300 ∧ mE X 1 y_Mo_row [.ref (mo X), .int ((m2.1 31) + r1), .int (m2.2 22 (x1 : Int32).toNatClampNeg)] m2 (iP fun r6 m6 => w_Mo_goesOn_265 X (x1) (x2) (r1) (r2) (r6) m6 Φ))))))))))))
theorem t_Mo_goesOn_0 {X : MX} {a0 : Array Value} (F : mF X a0) {d : Nat} {x1 x2 : Int32} {o3 o4 o5 : Option Value} {m : MS} {σ : jS} {Φ : Option Value → MS → Prop} (hV : MV X m σ) (h : w_Mo_goesOn_0 X x1 x2 m Φ) : jW X.1 X.2.1 jcl X.2.2.1 X.2.2.2.1 (d + 2) y_Mo_goesOn 0 [some (.ref (mo X)), some (.int x1), some (.int x2), o3, o4, o5] [] σ (mQ X Φ σ) := by
  unfold w_Mo_goesOn_0 at h
  refine jW.aload_n (dx_Mo_goesOn 0 (e := (0, .aload_n 0, 1)) rfl) rfl rfl (pc' := 1) rfl ?_
  refine jW.callVe F (h (d + 1) _ hV) (dx_Mo_goesOn 1 (e := (1, .invokevirtual 133, 3)) rfl) can_Mo_indent jw_1186 jw_1188 hV.cl rfl sel_Mo_indent rfl rfl (Nat.le_of_ble_eq_true rfl) (pc' := 4) rfl (fun r σ hr => ?_)
  clear hV
  refine mQ.up hr.1 ?_
  obtain ⟨_, hV, _, rfl, h⟩ := hr.2
  refine jW.istore_n (dx_Mo_goesOn 2 (e := (4, .istore_n 3, 1)) rfl) rfl (by decide) rfl (pc' := 5) rfl ?_
  refine jW.aload_n (dx_Mo_goesOn 3 (e := (5, .aload_n 0, 1)) rfl) rfl rfl (pc' := 6) rfl ?_
  refine jW.aload_n (dx_Mo_goesOn 4 (e := (6, .aload_n 0, 1)) rfl) rfl rfl (pc' := 7) rfl ?_
  refine jW.mgi F hV f_Mo_goesOn_7 (by decide) (pc' := 10) rfl ?_
  refine jW.callVe F (h (d + 1) _ hV) (dx_Mo_goesOn 6 (e := (10, .invokevirtual 137, 3)) rfl) can_Mo_isBlank jw_1190 jw_1192 hV.cl rfl sel_Mo_isBlank rfl rfl (Nat.le_of_ble_eq_true rfl) (pc' := 13) rfl (fun r σ hr => ?_)
  clear hV
  refine mQ.up hr.1 ?_
  obtain ⟨_, hV, _, rfl, h⟩ := hr.2
  refine jW.istore (dx_Mo_goesOn 7 (e := (13, .istore 4, 2)) rfl) (by decide) rfl (pc' := 15) rfl ?_
  refine jW.aload_n (dx_Mo_goesOn 8 (e := (15, .aload_n 0, 1)) rfl) rfl rfl (pc' := 16) rfl ?_
  refine jW.mga F hV f_Mo_goesOn_16 (by decide) (pc' := 19) rfl ?_
  refine jW.iload_n (dx_Mo_goesOn 10 (e := (19, .iload_n 1, 1)) rfl) rfl rfl (pc' := 20) rfl ?_
  refine jW.mla F hV (dx_Mo_goesOn 11 (e := (20, .iaload, 1)) rfl) (by decide) rfl h.1 (pc' := 21) rfl ?_
  replace h := h.2
  refine jW.sw (lo := 1) (hi := 7) (fun c => ?_) (fun c => ?_)
  · replace h := h.1 c
    refine jW.tableOut (dx_Mo_goesOn 12 (e := (21, .tableswitch 313 1 7 #[43, 106, 108, 166, 313, 313, 177], 43)) rfl) c 334 (by decide) ?_
    exact t_Mo_goesOn_334 F hV h
  · replace h := h.2
    refine jW.swc 1 c (by decide) (fun e => ?_) (fun c => ?_)
    · replace h := h.1 e
      refine jW.tableJ (dx_Mo_goesOn 12 (e := (21, .tableswitch 313 1 7 #[43, 106, 108, 166, 313, 313, 177], 43)) rfl) e (by decide) (by decide) rfl 64 (by decide) ?_
      refine jW.iload_n (dx_Mo_goesOn 13 (e := (64, .iload_n 3, 1)) rfl) rfl rfl (pc' := 65) rfl ?_
      refine jW.iconst (v := 3) (dx_Mo_goesOn 14 (e := (65, .iconst 3, 1)) rfl) (by decide) (pc' := 66) rfl ?_
      refine jW.icmp_gt (dx_Mo_goesOn 15 (e := (66, .if_icmp .gt 18, 3)) rfl) 84 (by decide) (pc' := 69) rfl (fun c => ?_) (fun c => ?_)
      · replace h := h.1 c
        exact t_Mo_goesOn_84 F hV h
      · replace h := h.2 c
        refine jW.aload_n (dx_Mo_goesOn 16 (e := (69, .aload_n 0, 1)) rfl) rfl rfl (pc' := 70) rfl ?_
        refine jW.aload_n (dx_Mo_goesOn 17 (e := (70, .aload_n 0, 1)) rfl) rfl rfl (pc' := 71) rfl ?_
        refine jW.mgi F hV f_Mo_goesOn_71 (by decide) (pc' := 74) rfl ?_
        refine jW.iload_n (dx_Mo_goesOn 19 (e := (74, .iload_n 3, 1)) rfl) rfl rfl (pc' := 75) rfl ?_
        refine jW.iadd (dx_Mo_goesOn 20 (e := (75, .iadd, 1)) rfl) (pc' := 76) rfl ?_
        refine jW.callVe F (h (d + 1) _ hV) (dx_Mo_goesOn 21 (e := (76, .invokevirtual 129, 3)) rfl) can_Mo_at jw_1194 jw_1196 hV.cl rfl sel_Mo_at rfl rfl (Nat.le_of_ble_eq_true rfl) (pc' := 79) rfl (fun r σ hr => ?_)
        clear hV
        refine mQ.up hr.1 ?_
        obtain ⟨_, hV, _, rfl, h⟩ := hr.2
        refine jW.bipush (v := 62) (dx_Mo_goesOn 22 (e := (79, .bipush 62, 2)) rfl) (by decide) (pc' := 81) rfl ?_
        refine jW.icmp_eq (dx_Mo_goesOn 23 (e := (81, .if_icmp .eq 5, 3)) rfl) 86 (by decide) (pc' := 84) rfl (fun c => ?_) (fun c => ?_)
        · replace h := h.1 c
          refine jW.aload_n (dx_Mo_goesOn 26 (e := (86, .aload_n 0, 1)) rfl) rfl rfl (pc' := 87) rfl ?_
          refine jW.dup (dx_Mo_goesOn 27 (e := (87, .dup, 1)) rfl) rfl (pc' := 88) rfl ?_
          refine jW.mgi F hV f_Mo_goesOn_88 (by decide) (pc' := 91) rfl ?_
          refine jW.iload_n (dx_Mo_goesOn 29 (e := (91, .iload_n 3, 1)) rfl) rfl rfl (pc' := 92) rfl ?_
          refine jW.iconst (v := 1) (dx_Mo_goesOn 30 (e := (92, .iconst 1, 1)) rfl) (by decide) (pc' := 93) rfl ?_
          refine jW.iadd (dx_Mo_goesOn 31 (e := (93, .iadd, 1)) rfl) (pc' := 94) rfl ?_
          refine jW.iadd (dx_Mo_goesOn 32 (e := (94, .iadd, 1)) rfl) (pc' := 95) rfl ?_
          refine jW.mpi F hV f_Mo_goesOn_95 (by decide) rfl rfl rfl (pc' := 98) rfl (fun σ hV => ?_)
          replace h := h _ rfl
          refine jW.aload_n (dx_Mo_goesOn 34 (e := (98, .aload_n 0, 1)) rfl) rfl rfl (pc' := 99) rfl ?_
          refine jW.dup (dx_Mo_goesOn 35 (e := (99, .dup, 1)) rfl) rfl (pc' := 100) rfl ?_
          refine jW.mgi F hV f_Mo_goesOn_100 (by decide) (pc' := 103) rfl ?_
          refine jW.aload_n (dx_Mo_goesOn 37 (e := (103, .aload_n 0, 1)) rfl) rfl rfl (pc' := 104) rfl ?_
          refine jW.aload_n (dx_Mo_goesOn 38 (e := (104, .aload_n 0, 1)) rfl) rfl rfl (pc' := 105) rfl ?_
          refine jW.mgi F hV f_Mo_goesOn_105 (by decide) (pc' := 108) rfl ?_
          refine jW.callVe F (h (d + 1) _ hV) (dx_Mo_goesOn 40 (e := (108, .invokevirtual 129, 3)) rfl) can_Mo_at jw_1194 jw_1196 hV.cl rfl sel_Mo_at rfl rfl (Nat.le_of_ble_eq_true rfl) (pc' := 111) rfl (fun r σ hr => ?_)
          clear hV
          refine mQ.up hr.1 ?_
          obtain ⟨_, hV, _, rfl, h⟩ := hr.2
          refine jW.bipush (v := 32) (dx_Mo_goesOn 41 (e := (111, .bipush 32, 2)) rfl) (by decide) (pc' := 113) rfl ?_
          refine jW.icmp_ne (dx_Mo_goesOn 42 (e := (113, .if_icmp .ne 7, 3)) rfl) 120 (by decide) (pc' := 116) rfl (fun c => ?_) (fun c => ?_)
          · replace h := h.2 c
            refine jW.iconst (v := 0) (dx_Mo_goesOn 45 (e := (120, .iconst 0, 1)) rfl) (by decide) (pc' := 121) rfl ?_
            exact t_Mo_goesOn_121 F hV h
          · replace h := h.1 c
            refine jW.iconst (v := 1) (dx_Mo_goesOn 43 (e := (116, .iconst 1, 1)) rfl) (by decide) (pc' := 117) rfl ?_
            refine jW.goto (dx_Mo_goesOn 44 (e := (117, .goto 4, 3)) rfl) 121 (by decide) ?_
            exact t_Mo_goesOn_121 F hV h
        · replace h := h.2 c
          exact t_Mo_goesOn_84 F hV h
    · replace h := h.2
      refine jW.swc 2 c (by decide) (fun e => ?_) (fun c => ?_)
      · replace h := h.1 e
        refine jW.tableJ (dx_Mo_goesOn 12 (e := (21, .tableswitch 313 1 7 #[43, 106, 108, 166, 313, 313, 177], 43)) rfl) e (by decide) (by decide) rfl 127 (by decide) ?_
        refine jW.iconst (v := 1) (dx_Mo_goesOn 50 (e := (127, .iconst 1, 1)) rfl) (by decide) (pc' := 128) rfl ?_
        exact jW.zret (dx_Mo_goesOn 51 (e := (128, .ireturn, 1)) rfl) rfl (by decide) ⟨FR.rfl, _, hV, h⟩
      · replace h := h.2
        refine jW.swc 3 c (by decide) (fun e => ?_) (fun c => ?_)
        · replace h := h.1 e
          refine jW.tableJ (dx_Mo_goesOn 12 (e := (21, .tableswitch 313 1 7 #[43, 106, 108, 166, 313, 313, 177], 43)) rfl) e (by decide) (by decide) rfl 129 (by decide) ?_
          refine jW.iload (dx_Mo_goesOn 52 (e := (129, .iload 4, 2)) rfl) rfl (pc' := 131) rfl ?_
          refine jW.if_eq (dx_Mo_goesOn 53 (e := (131, .ifCond .eq 15, 3)) rfl) 146 (by decide) (pc' := 134) rfl (fun c => ?_) (fun c => ?_)
          · replace h := h.1 c
            refine jW.iload_n (dx_Mo_goesOn 60 (e := (146, .iload_n 3, 1)) rfl) rfl rfl (pc' := 147) rfl ?_
            refine jW.aload_n (dx_Mo_goesOn 61 (e := (147, .aload_n 0, 1)) rfl) rfl rfl (pc' := 148) rfl ?_
            refine jW.mga F hV f_Mo_goesOn_148 (by decide) (pc' := 151) rfl ?_
            refine jW.iload_n (dx_Mo_goesOn 63 (e := (151, .iload_n 1, 1)) rfl) rfl rfl (pc' := 152) rfl ?_
            refine jW.mla F hV (dx_Mo_goesOn 64 (e := (152, .iaload, 1)) rfl) (by decide) rfl h.1 (pc' := 153) rfl ?_
            replace h := h.2
            refine jW.icmp_ge (dx_Mo_goesOn 65 (e := (153, .if_icmp .ge 5, 3)) rfl) 158 (by decide) (pc' := 156) rfl (fun c => ?_) (fun c => ?_)
            · replace h := h.1 c
              exact t_Mo_goesOn_158 F hV h
            · replace h := h.2 c
              exact t_Mo_goesOn_156 F hV h
          · replace h := h.2 c
            refine jW.aload_n (dx_Mo_goesOn 54 (e := (134, .aload_n 0, 1)) rfl) rfl rfl (pc' := 135) rfl ?_
            refine jW.mga F hV f_Mo_goesOn_135 (by decide) (pc' := 138) rfl ?_
            refine jW.iload_n (dx_Mo_goesOn 56 (e := (138, .iload_n 1, 1)) rfl) rfl rfl (pc' := 139) rfl ?_
            refine jW.mla F hV (dx_Mo_goesOn 57 (e := (139, .iaload, 1)) rfl) (by decide) rfl h.1 (pc' := 140) rfl ?_
            replace h := h.2
            refine jW.if_ne (dx_Mo_goesOn 58 (e := (140, .ifCond .ne 18, 3)) rfl) 158 (by decide) (pc' := 143) rfl (fun c => ?_) (fun c => ?_)
            · replace h := h.2 c
              exact t_Mo_goesOn_158 F hV h
            · replace h := h.1 c
              refine jW.goto (dx_Mo_goesOn 59 (e := (143, .goto 13, 3)) rfl) 156 (by decide) ?_
              exact t_Mo_goesOn_156 F hV h
        · replace h := h.2
          refine jW.swc 4 c (by decide) (fun e => ?_) (fun c => ?_)
          · replace h := h.1 e
            refine jW.tableJ (dx_Mo_goesOn 12 (e := (21, .tableswitch 313 1 7 #[43, 106, 108, 166, 313, 313, 177], 43)) rfl) e (by decide) (by decide) rfl 187 (by decide) ?_
            refine jW.iload (dx_Mo_goesOn 84 (e := (187, .iload 4, 2)) rfl) rfl (pc' := 189) rfl ?_
            refine jW.if_ne (dx_Mo_goesOn 85 (e := (189, .ifCond .ne 7, 3)) rfl) 196 (by decide) (pc' := 192) rfl (fun c => ?_) (fun c => ?_)
            · replace h := h.2 c
              refine jW.iconst (v := 0) (dx_Mo_goesOn 88 (e := (196, .iconst 0, 1)) rfl) (by decide) (pc' := 197) rfl ?_
              exact t_Mo_goesOn_197 F hV h
            · replace h := h.1 c
              refine jW.iconst (v := 1) (dx_Mo_goesOn 86 (e := (192, .iconst 1, 1)) rfl) (by decide) (pc' := 193) rfl ?_
              refine jW.goto (dx_Mo_goesOn 87 (e := (193, .goto 4, 3)) rfl) 197 (by decide) ?_
              exact t_Mo_goesOn_197 F hV h
          · replace h := h.2
            refine jW.swc 5 c (by decide) (fun e => ?_) (fun c => ?_)
            · replace h := h.1 e
              refine jW.tableJ (dx_Mo_goesOn 12 (e := (21, .tableswitch 313 1 7 #[43, 106, 108, 166, 313, 313, 177], 43)) rfl) e (by decide) (by decide) rfl 334 (by decide) ?_
              exact t_Mo_goesOn_334 F hV h
            · replace h := h.2
              refine jW.swc 6 c (by decide) (fun e => ?_) (fun c => ?_)
              · replace h := h.1 e
                refine jW.tableJ (dx_Mo_goesOn 12 (e := (21, .tableswitch 313 1 7 #[43, 106, 108, 166, 313, 313, 177], 43)) rfl) e (by decide) (by decide) rfl 334 (by decide) ?_
                exact t_Mo_goesOn_334 F hV h
              · replace h := h.2
                have e := sw_last (v := 7) c (by decide) (by decide)
                replace h := h e
                refine jW.tableJ (z := 7) (dx_Mo_goesOn 12 (e := (21, .tableswitch 313 1 7 #[43, 106, 108, 166, 313, 313, 177], 43)) rfl) e (by decide) (by decide) rfl 198 (by decide) ?_
                refine jW.aload_n (dx_Mo_goesOn 90 (e := (198, .aload_n 0, 1)) rfl) rfl rfl (pc' := 199) rfl ?_
                refine jW.mga F hV f_Mo_goesOn_199 (by decide) (pc' := 202) rfl ?_
                refine jW.iload_n (dx_Mo_goesOn 92 (e := (202, .iload_n 1, 1)) rfl) rfl rfl (pc' := 203) rfl ?_
                refine jW.mla F hV (dx_Mo_goesOn 93 (e := (203, .iaload, 1)) rfl) (by decide) rfl h.1 (pc' := 204) rfl ?_
                replace h := h.2
                refine jW.if_ne (dx_Mo_goesOn 94 (e := (204, .ifCond .ne 36, 3)) rfl) 240 (by decide) (pc' := 207) rfl (fun c => ?_) (fun c => ?_)
                · replace h := h.2 c
                  refine jW.iload_n (dx_Mo_goesOn 115 (e := (240, .iload_n 3, 1)) rfl) rfl rfl (pc' := 241) rfl ?_
                  refine jW.iconst (v := 4) (dx_Mo_goesOn 116 (e := (241, .iconst 4, 1)) rfl) (by decide) (pc' := 242) rfl ?_
                  refine jW.icmp_ge (dx_Mo_goesOn 117 (e := (242, .if_icmp .ge 22, 3)) rfl) 264 (by decide) (pc' := 245) rfl (fun c => ?_) (fun c => ?_)
                  · replace h := h.1 c
                    refine jW.iconst (v := 0) (dx_Mo_goesOn 129 (e := (264, .iconst 0, 1)) rfl) (by decide) (pc' := 265) rfl ?_
                    exact t_Mo_goesOn_265 F hV h
                  · replace h := h.2 c
                    refine jW.aload_n (dx_Mo_goesOn 118 (e := (245, .aload_n 0, 1)) rfl) rfl rfl (pc' := 246) rfl ?_
                    refine jW.aload_n (dx_Mo_goesOn 119 (e := (246, .aload_n 0, 1)) rfl) rfl rfl (pc' := 247) rfl ?_
                    refine jW.mgi F hV f_Mo_goesOn_247 (by decide) (pc' := 250) rfl ?_
                    refine jW.iload_n (dx_Mo_goesOn 121 (e := (250, .iload_n 3, 1)) rfl) rfl rfl (pc' := 251) rfl ?_
                    refine jW.iadd (dx_Mo_goesOn 122 (e := (251, .iadd, 1)) rfl) (pc' := 252) rfl ?_
                    refine jW.aload_n (dx_Mo_goesOn 123 (e := (252, .aload_n 0, 1)) rfl) rfl rfl (pc' := 253) rfl ?_
                    refine jW.mga F hV f_Mo_goesOn_253 (by decide) (pc' := 256) rfl ?_
                    refine jW.iload_n (dx_Mo_goesOn 125 (e := (256, .iload_n 1, 1)) rfl) rfl rfl (pc' := 257) rfl ?_
                    refine jW.mla F hV (dx_Mo_goesOn 126 (e := (257, .iaload, 1)) rfl) (by decide) rfl h.1 (pc' := 258) rfl ?_
                    replace h := h.2
                    refine jW.callVe F (h (d + 0) _ hV) (dx_Mo_goesOn 127 (e := (258, .invokevirtual 141, 3)) rfl) can_Mo_row jw_1198 jw_1200 hV.cl rfl sel_Mo_row rfl rfl (Nat.le_of_ble_eq_true rfl) (pc' := 261) rfl (fun r σ hr => ?_)
                    clear hV
                    refine mQ.up hr.1 ?_
                    obtain ⟨_, hV, _, rfl, h⟩ := hr.2
                    refine jW.goto (dx_Mo_goesOn 128 (e := (261, .goto 4, 3)) rfl) 265 (by decide) ?_
                    exact t_Mo_goesOn_265 F hV h
                · replace h := h.1 c
                  refine jW.iload_n (dx_Mo_goesOn 95 (e := (207, .iload_n 3, 1)) rfl) rfl rfl (pc' := 208) rfl ?_
                  refine jW.iconst (v := 4) (dx_Mo_goesOn 96 (e := (208, .iconst 4, 1)) rfl) (by decide) (pc' := 209) rfl ?_
                  refine jW.icmp_ge (dx_Mo_goesOn 97 (e := (209, .if_icmp .ge 10, 3)) rfl) 219 (by decide) (pc' := 212) rfl (fun c => ?_) (fun c => ?_)
                  · replace h := h.1 c
                    exact t_Mo_goesOn_219 F hV h
                  · replace h := h.2 c
                    refine jW.iload (dx_Mo_goesOn 98 (e := (212, .iload 4, 2)) rfl) rfl (pc' := 214) rfl ?_
                    refine jW.if_ne (dx_Mo_goesOn 99 (e := (214, .ifCond .ne 5, 3)) rfl) 219 (by decide) (pc' := 217) rfl (fun c => ?_) (fun c => ?_)
                    · replace h := h.2 c
                      exact t_Mo_goesOn_219 F hV h
                    · replace h := h.1 c
                      refine jW.iconst (v := 0) (dx_Mo_goesOn 100 (e := (217, .iconst 0, 1)) rfl) (by decide) (pc' := 218) rfl ?_
                      exact jW.zret (dx_Mo_goesOn 101 (e := (218, .ireturn, 1)) rfl) rfl (by decide) ⟨FR.rfl, _, hV, h⟩
theorem g_Mo_goesOn {X : MX} {a0 : Array Value} (F : mF X a0) {x1 x2 : Int32} {m : MS} {Φ : Option Value → MS → Prop} (he : w_Mo_goesOn_0 X x1 x2 m Φ) : mE X 2 y_Mo_goesOn [.ref (mo X), .int x1, .int x2] m Φ := by
  intro d σ hV
  refine jE.of (by decide) (by simp [Value.category]) (Nat.le_of_ble_eq_true rfl) rfl ?_
  exact t_Mo_goesOn_0 F hV he
def w_Mo_indent_37 (X : MX) (x1 : Int32) (m : MS) (Φ : Option Value → MS → Prop) : Prop := Φ (some (.int (x1))) m
theorem t_Mo_indent_37 {X : MX} {a0 : Array Value} (F : mF X a0) {d : Nat} {x1 : Int32} {m : MS} {σ : jS} {Φ : Option Value → MS → Prop} (hV : MV X m σ) (h : w_Mo_indent_37 X x1 m Φ) : jW X.1 X.2.1 jcl X.2.2.1 X.2.2.2.1 (d + 0) y_Mo_indent 37 [some (.ref (mo X)), some (.int x1)] [] σ (mQ X Φ σ) := by
  unfold w_Mo_indent_37 at h
  refine jW.iload_n (dx_Mo_indent 20 (e := (37, .iload_n 1, 1)) rfl) rfl rfl (pc' := 38) rfl ?_
  exact jW.iret (dx_Mo_indent 21 (e := (38, .ireturn, 1)) rfl) rfl ⟨FR.rfl, _, hV, h⟩
def w_Mo_indent_2 (X : MX) (x1 : Int32) (m : MS) (Φ : Option Value → MS → Prop) (K2 : Int32 → MS → Prop) : Prop := ((m.1 12 ≤ (m.1 31) + x1 → w_Mo_indent_37 X (x1) m Φ) ∧ (¬ m.1 12 ≤ (m.1 31) + x1 → (vp_in ((m.1 31) + x1) 12100 ∧ ((m.2 9 ((m.1 31) + x1 : Int32).toNatClampNeg = 32 → K2 (x1 + 1) m) ∧ (¬ m.2 9 ((m.1 31) + x1 : Int32).toNatClampNeg = 32 → w_Mo_indent_37 X (x1) m Φ)))))
theorem t_Mo_indent_2 {X : MX} {a0 : Array Value} (F : mF X a0) {d : Nat} {x1 : Int32} {m : MS} {σ : jS} {Φ : Option Value → MS → Prop} {K2 : Int32 → MS → Prop} (hV : MV X m σ) (h : w_Mo_indent_2 X x1 m Φ K2) (hK2 : ∀ (x1 : Int32) (m : MS) (σ : jS), MV X m σ → K2 x1 m → jW X.1 X.2.1 jcl X.2.2.1 X.2.2.2.1 (d + 0) y_Mo_indent 2 [some (.ref (mo X)), some (.int x1)] [] σ (mQ X Φ σ)) : jW X.1 X.2.1 jcl X.2.2.1 X.2.2.2.1 (d + 0) y_Mo_indent 2 [some (.ref (mo X)), some (.int x1)] [] σ (mQ X Φ σ) := by
  unfold w_Mo_indent_2 at h
  refine jW.aload_n (dx_Mo_indent 2 (e := (2, .aload_n 0, 1)) rfl) rfl rfl (pc' := 3) rfl ?_
  refine jW.mgi F hV f_Mo_indent_3 (by decide) (pc' := 6) rfl ?_
  refine jW.iload_n (dx_Mo_indent 4 (e := (6, .iload_n 1, 1)) rfl) rfl rfl (pc' := 7) rfl ?_
  refine jW.iadd (dx_Mo_indent 5 (e := (7, .iadd, 1)) rfl) (pc' := 8) rfl ?_
  refine jW.aload_n (dx_Mo_indent 6 (e := (8, .aload_n 0, 1)) rfl) rfl rfl (pc' := 9) rfl ?_
  refine jW.mgi F hV f_Mo_indent_9 (by decide) (pc' := 12) rfl ?_
  refine jW.icmp_ge (dx_Mo_indent 8 (e := (12, .if_icmp .ge 25, 3)) rfl) 37 (by decide) (pc' := 15) rfl (fun c => ?_) (fun c => ?_)
  · replace h := h.1 c
    exact t_Mo_indent_37 F hV h
  · replace h := h.2 c
    refine jW.aload_n (dx_Mo_indent 9 (e := (15, .aload_n 0, 1)) rfl) rfl rfl (pc' := 16) rfl ?_
    refine jW.mga F hV f_Mo_indent_16 (by decide) (pc' := 19) rfl ?_
    refine jW.aload_n (dx_Mo_indent 11 (e := (19, .aload_n 0, 1)) rfl) rfl rfl (pc' := 20) rfl ?_
    refine jW.mgi F hV f_Mo_indent_20 (by decide) (pc' := 23) rfl ?_
    refine jW.iload_n (dx_Mo_indent 13 (e := (23, .iload_n 1, 1)) rfl) rfl rfl (pc' := 24) rfl ?_
    refine jW.iadd (dx_Mo_indent 14 (e := (24, .iadd, 1)) rfl) (pc' := 25) rfl ?_
    refine jW.mla F hV (dx_Mo_indent 15 (e := (25, .iaload, 1)) rfl) (by decide) rfl h.1 (pc' := 26) rfl ?_
    replace h := h.2
    refine jW.bipush (v := 32) (dx_Mo_indent 16 (e := (26, .bipush 32, 2)) rfl) (by decide) (pc' := 28) rfl ?_
    refine jW.icmp_ne (dx_Mo_indent 17 (e := (28, .if_icmp .ne 9, 3)) rfl) 37 (by decide) (pc' := 31) rfl (fun c => ?_) (fun c => ?_)
    · replace h := h.2 c
      exact t_Mo_indent_37 F hV h
    · replace h := h.1 c
      refine jW.iinc (v := _ + (1)) (dx_Mo_indent 18 (e := (31, .iinc 1 1, 3)) rfl) rfl rfl (by decide) rfl (pc' := 34) rfl ?_
      refine jW.goto (dx_Mo_indent 19 (e := (34, .goto (-32), 3)) rfl) 2 (by decide) ?_
      exact hK2 _ _ _ hV h
def w_Mo_indent_0 (X : MX) (m : MS) (Φ : Option Value → MS → Prop) (K2 : Int32 → MS → Prop) : Prop := K2 (0) m
theorem t_Mo_indent_0 {X : MX} {a0 : Array Value} (F : mF X a0) {d : Nat} {o1 : Option Value} {m : MS} {σ : jS} {Φ : Option Value → MS → Prop} {K2 : Int32 → MS → Prop} (hV : MV X m σ) (h : w_Mo_indent_0 X m Φ K2) (hK2 : ∀ (x1 : Int32) (m : MS) (σ : jS), MV X m σ → K2 x1 m → jW X.1 X.2.1 jcl X.2.2.1 X.2.2.2.1 (d + 0) y_Mo_indent 2 [some (.ref (mo X)), some (.int x1)] [] σ (mQ X Φ σ)) : jW X.1 X.2.1 jcl X.2.2.1 X.2.2.2.1 (d + 0) y_Mo_indent 0 [some (.ref (mo X)), o1] [] σ (mQ X Φ σ) := by
  unfold w_Mo_indent_0 at h
  refine jW.iconst (v := 0) (dx_Mo_indent 0 (e := (0, .iconst 0, 1)) rfl) (by decide) (pc' := 1) rfl ?_
  refine jW.istore_n (dx_Mo_indent 1 (e := (1, .istore_n 1, 1)) rfl) rfl (by decide) rfl (pc' := 2) rfl ?_
  exact hK2 _ _ _ hV h
theorem g_Mo_indent {X : MX} {a0 : Array Value} (F : mF X a0) {m : MS} {Φ : Option Value → MS → Prop} {I2 : Nat → Int32 → MS → Prop} (he : w_Mo_indent_0 X m Φ (fun x1 m => ∃ j, I2 j x1 m)) (h2 : ∀ (n : Nat) (x1 : Int32) (m : MS), I2 n x1 m → w_Mo_indent_2 X x1 m Φ (fun x1 m => ∃ j, j < n ∧ I2 j x1 m)) : mE X 0 y_Mo_indent [.ref (mo X)] m Φ := by
  intro d σ hV
  have hL2 : ∀ n, (∀ (x1 : Int32) (m : MS) (σ : jS), MV X m σ → I2 n x1 m → jW X.1 X.2.1 jcl X.2.2.1 X.2.2.2.1 (d + 0) y_Mo_indent 2 [some (.ref (mo X)), some (.int x1)] [] σ (mQ X Φ σ)) := by
    intro n
    induction n using Nat.strongRecOn with
    | _ n ih =>
      exact fun x1 m σ hV hI => t_Mo_indent_2 F hV (h2 n x1 m hI) (fun x1 m σ hV ⟨j, hj, hI⟩ => (ih j hj) x1 m σ hV hI)
  refine jE.of (by decide) (by simp [Value.category]) (Nat.le_of_ble_eq_true rfl) rfl ?_
  exact t_Mo_indent_0 F hV he (fun x1 m σ hV ⟨j, hI⟩ => (hL2 j) x1 m σ hV hI)
def w_Mo_isBlank_39 (X : MX) (x1 x2 x3 : Int32) (m : MS) (Φ : Option Value → MS → Prop) : Prop := (mZ (x2) ∧ Φ (some (.int (x2))) m)
theorem t_Mo_isBlank_39 {X : MX} {a0 : Array Value} (F : mF X a0) {d : Nat} {x1 x2 x3 : Int32} {m : MS} {σ : jS} {Φ : Option Value → MS → Prop} (hV : MV X m σ) (h : w_Mo_isBlank_39 X x1 x2 x3 m Φ) : jW X.1 X.2.1 jcl X.2.2.1 X.2.2.2.1 (d + 0) y_Mo_isBlank 39 [some (.ref (mo X)), some (.int x1), some (.int x2), some (.int x3)] [] σ (mQ X Φ σ) := by
  unfold w_Mo_isBlank_39 at h
  refine jW.iload_n (dx_Mo_isBlank 22 (e := (39, .iload_n 2, 1)) rfl) rfl rfl (pc' := 40) rfl ?_
  exact jW.zret (dx_Mo_isBlank 23 (e := (40, .ireturn, 1)) rfl) rfl h.1.n ⟨FR.rfl, _, hV, h.2⟩
def w_Mo_isBlank_32 (X : MX) (x1 x2 x3 s0 : Int32) (m : MS) (Φ : Option Value → MS → Prop) (K4 : Int32 → Int32 → Int32 → MS → Prop) : Prop := K4 (x1) (s0) (x3 + 1) m
theorem t_Mo_isBlank_32 {X : MX} {a0 : Array Value} (F : mF X a0) {d : Nat} {x1 x2 x3 s0 : Int32} {m : MS} {σ : jS} {Φ : Option Value → MS → Prop} {K4 : Int32 → Int32 → Int32 → MS → Prop} (hV : MV X m σ) (h : w_Mo_isBlank_32 X x1 x2 x3 s0 m Φ K4) (hK4 : ∀ (x1 x2 x3 : Int32) (m : MS) (σ : jS), MV X m σ → K4 x1 x2 x3 m → jW X.1 X.2.1 jcl X.2.2.1 X.2.2.2.1 (d + 0) y_Mo_isBlank 4 [some (.ref (mo X)), some (.int x1), some (.int x2), some (.int x3)] [] σ (mQ X Φ σ)) : jW X.1 X.2.1 jcl X.2.2.1 X.2.2.2.1 (d + 0) y_Mo_isBlank 32 [some (.ref (mo X)), some (.int x1), some (.int x2), some (.int x3)] [.int s0] σ (mQ X Φ σ) := by
  unfold w_Mo_isBlank_32 at h
  refine jW.istore_n (dx_Mo_isBlank 19 (e := (32, .istore_n 2, 1)) rfl) rfl (by decide) rfl (pc' := 33) rfl ?_
  refine jW.iinc (v := _ + (1)) (dx_Mo_isBlank 20 (e := (33, .iinc 3 1, 3)) rfl) rfl rfl (by decide) rfl (pc' := 36) rfl ?_
  refine jW.goto (dx_Mo_isBlank 21 (e := (36, .goto (-32), 3)) rfl) 4 (by decide) ?_
  exact hK4 _ _ _ _ _ hV h
def w_Mo_isBlank_4 (X : MX) (x1 x2 x3 : Int32) (m : MS) (Φ : Option Value → MS → Prop) (K4 : Int32 → Int32 → Int32 → MS → Prop) : Prop := ((m.1 12 ≤ x3 → w_Mo_isBlank_39 X (x1) (x2) (x3) m Φ) ∧ (¬ m.1 12 ≤ x3 → ((x2 = 0 → w_Mo_isBlank_39 X (x1) (x2) (x3) m Φ) ∧ (¬ x2 = 0 → (vp_in (x3) 12100 ∧ ((m.2 9 (x3 : Int32).toNatClampNeg = 32 → w_Mo_isBlank_32 X (x1) (x2) (x3) (1) m Φ K4) ∧ (¬ m.2 9 (x3 : Int32).toNatClampNeg = 32 → w_Mo_isBlank_32 X (x1) (x2) (x3) (0) m Φ K4)))))))
theorem t_Mo_isBlank_4 {X : MX} {a0 : Array Value} (F : mF X a0) {d : Nat} {x1 x2 x3 : Int32} {m : MS} {σ : jS} {Φ : Option Value → MS → Prop} {K4 : Int32 → Int32 → Int32 → MS → Prop} (hV : MV X m σ) (h : w_Mo_isBlank_4 X x1 x2 x3 m Φ K4) (hK4 : ∀ (x1 x2 x3 : Int32) (m : MS) (σ : jS), MV X m σ → K4 x1 x2 x3 m → jW X.1 X.2.1 jcl X.2.2.1 X.2.2.2.1 (d + 0) y_Mo_isBlank 4 [some (.ref (mo X)), some (.int x1), some (.int x2), some (.int x3)] [] σ (mQ X Φ σ)) : jW X.1 X.2.1 jcl X.2.2.1 X.2.2.2.1 (d + 0) y_Mo_isBlank 4 [some (.ref (mo X)), some (.int x1), some (.int x2), some (.int x3)] [] σ (mQ X Φ σ) := by
  unfold w_Mo_isBlank_4 at h
  refine jW.iload_n (dx_Mo_isBlank 4 (e := (4, .iload_n 3, 1)) rfl) rfl rfl (pc' := 5) rfl ?_
  refine jW.aload_n (dx_Mo_isBlank 5 (e := (5, .aload_n 0, 1)) rfl) rfl rfl (pc' := 6) rfl ?_
  refine jW.mgi F hV f_Mo_isBlank_6 (by decide) (pc' := 9) rfl ?_
  refine jW.icmp_ge (dx_Mo_isBlank 7 (e := (9, .if_icmp .ge 30, 3)) rfl) 39 (by decide) (pc' := 12) rfl (fun c => ?_) (fun c => ?_)
  · replace h := h.1 c
    exact t_Mo_isBlank_39 F hV h
  · replace h := h.2 c
    refine jW.iload_n (dx_Mo_isBlank 8 (e := (12, .iload_n 2, 1)) rfl) rfl rfl (pc' := 13) rfl ?_
    refine jW.if_eq (dx_Mo_isBlank 9 (e := (13, .ifCond .eq 26, 3)) rfl) 39 (by decide) (pc' := 16) rfl (fun c => ?_) (fun c => ?_)
    · replace h := h.1 c
      exact t_Mo_isBlank_39 F hV h
    · replace h := h.2 c
      refine jW.aload_n (dx_Mo_isBlank 10 (e := (16, .aload_n 0, 1)) rfl) rfl rfl (pc' := 17) rfl ?_
      refine jW.mga F hV f_Mo_isBlank_17 (by decide) (pc' := 20) rfl ?_
      refine jW.iload_n (dx_Mo_isBlank 12 (e := (20, .iload_n 3, 1)) rfl) rfl rfl (pc' := 21) rfl ?_
      refine jW.mla F hV (dx_Mo_isBlank 13 (e := (21, .iaload, 1)) rfl) (by decide) rfl h.1 (pc' := 22) rfl ?_
      replace h := h.2
      refine jW.bipush (v := 32) (dx_Mo_isBlank 14 (e := (22, .bipush 32, 2)) rfl) (by decide) (pc' := 24) rfl ?_
      refine jW.icmp_ne (dx_Mo_isBlank 15 (e := (24, .if_icmp .ne 7, 3)) rfl) 31 (by decide) (pc' := 27) rfl (fun c => ?_) (fun c => ?_)
      · replace h := h.2 c
        refine jW.iconst (v := 0) (dx_Mo_isBlank 18 (e := (31, .iconst 0, 1)) rfl) (by decide) (pc' := 32) rfl ?_
        exact t_Mo_isBlank_32 F hV h hK4
      · replace h := h.1 c
        refine jW.iconst (v := 1) (dx_Mo_isBlank 16 (e := (27, .iconst 1, 1)) rfl) (by decide) (pc' := 28) rfl ?_
        refine jW.goto (dx_Mo_isBlank 17 (e := (28, .goto 4, 3)) rfl) 32 (by decide) ?_
        exact t_Mo_isBlank_32 F hV h hK4
def w_Mo_isBlank_0 (X : MX) (x1 : Int32) (m : MS) (Φ : Option Value → MS → Prop) (K4 : Int32 → Int32 → Int32 → MS → Prop) : Prop := K4 (x1) (1) (x1) m
theorem t_Mo_isBlank_0 {X : MX} {a0 : Array Value} (F : mF X a0) {d : Nat} {x1 : Int32} {o2 o3 : Option Value} {m : MS} {σ : jS} {Φ : Option Value → MS → Prop} {K4 : Int32 → Int32 → Int32 → MS → Prop} (hV : MV X m σ) (h : w_Mo_isBlank_0 X x1 m Φ K4) (hK4 : ∀ (x1 x2 x3 : Int32) (m : MS) (σ : jS), MV X m σ → K4 x1 x2 x3 m → jW X.1 X.2.1 jcl X.2.2.1 X.2.2.2.1 (d + 0) y_Mo_isBlank 4 [some (.ref (mo X)), some (.int x1), some (.int x2), some (.int x3)] [] σ (mQ X Φ σ)) : jW X.1 X.2.1 jcl X.2.2.1 X.2.2.2.1 (d + 0) y_Mo_isBlank 0 [some (.ref (mo X)), some (.int x1), o2, o3] [] σ (mQ X Φ σ) := by
  unfold w_Mo_isBlank_0 at h
  refine jW.iconst (v := 1) (dx_Mo_isBlank 0 (e := (0, .iconst 1, 1)) rfl) (by decide) (pc' := 1) rfl ?_
  refine jW.istore_n (dx_Mo_isBlank 1 (e := (1, .istore_n 2, 1)) rfl) rfl (by decide) rfl (pc' := 2) rfl ?_
  refine jW.iload_n (dx_Mo_isBlank 2 (e := (2, .iload_n 1, 1)) rfl) rfl rfl (pc' := 3) rfl ?_
  refine jW.istore_n (dx_Mo_isBlank 3 (e := (3, .istore_n 3, 1)) rfl) rfl (by decide) rfl (pc' := 4) rfl ?_
  exact hK4 _ _ _ _ _ hV h
theorem g_Mo_isBlank {X : MX} {a0 : Array Value} (F : mF X a0) {x1 : Int32} {m : MS} {Φ : Option Value → MS → Prop} {I4 : Nat → Int32 → Int32 → Int32 → MS → Prop} (he : w_Mo_isBlank_0 X x1 m Φ (fun x1 x2 x3 m => ∃ j, I4 j x1 x2 x3 m)) (h4 : ∀ (n : Nat) (x1 x2 x3 : Int32) (m : MS), I4 n x1 x2 x3 m → w_Mo_isBlank_4 X x1 x2 x3 m Φ (fun x1 x2 x3 m => ∃ j, j < n ∧ I4 j x1 x2 x3 m)) : mE X 0 y_Mo_isBlank [.ref (mo X), .int x1] m Φ := by
  intro d σ hV
  have hL4 : ∀ n, (∀ (x1 x2 x3 : Int32) (m : MS) (σ : jS), MV X m σ → I4 n x1 x2 x3 m → jW X.1 X.2.1 jcl X.2.2.1 X.2.2.2.1 (d + 0) y_Mo_isBlank 4 [some (.ref (mo X)), some (.int x1), some (.int x2), some (.int x3)] [] σ (mQ X Φ σ)) := by
    intro n
    induction n using Nat.strongRecOn with
    | _ n ih =>
      exact fun x1 x2 x3 m σ hV hI => t_Mo_isBlank_4 F hV (h4 n x1 x2 x3 m hI) (fun x1 x2 x3 m σ hV ⟨j, hj, hI⟩ => (ih j hj) x1 x2 x3 m σ hV hI)
  refine jE.of (by decide) (by simp [Value.category]) (Nat.le_of_ble_eq_true rfl) rfl ?_
  exact t_Mo_isBlank_0 F hV he (fun x1 x2 x3 m σ hV ⟨j, hI⟩ => (hL4 j) x1 x2 x3 m σ hV hI)
def w_Mo_at_18 (X : MX) (x1 s0 : Int32) (m : MS) (Φ : Option Value → MS → Prop) : Prop := Φ (some (.int (s0))) m
theorem t_Mo_at_18 {X : MX} {a0 : Array Value} (F : mF X a0) {d : Nat} {x1 s0 : Int32} {m : MS} {σ : jS} {Φ : Option Value → MS → Prop} (hV : MV X m σ) (h : w_Mo_at_18 X x1 s0 m Φ) : jW X.1 X.2.1 jcl X.2.2.1 X.2.2.2.1 (d + 0) y_Mo_at 18 [some (.ref (mo X)), some (.int x1)] [.int s0] σ (mQ X Φ σ) := by
  unfold w_Mo_at_18 at h
  exact jW.iret (dx_Mo_at 10 (e := (18, .ireturn, 1)) rfl) rfl ⟨FR.rfl, _, hV, h⟩
def w_Mo_at_0 (X : MX) (x1 : Int32) (m : MS) (Φ : Option Value → MS → Prop) : Prop := ((m.1 12 ≤ x1 → w_Mo_at_18 X (x1) (-1) m Φ) ∧ (¬ m.1 12 ≤ x1 → (vp_in (x1) 12100 ∧ w_Mo_at_18 X (x1) (m.2 9 (x1 : Int32).toNatClampNeg) m Φ)))
theorem t_Mo_at_0 {X : MX} {a0 : Array Value} (F : mF X a0) {d : Nat} {x1 : Int32} {m : MS} {σ : jS} {Φ : Option Value → MS → Prop} (hV : MV X m σ) (h : w_Mo_at_0 X x1 m Φ) : jW X.1 X.2.1 jcl X.2.2.1 X.2.2.2.1 (d + 0) y_Mo_at 0 [some (.ref (mo X)), some (.int x1)] [] σ (mQ X Φ σ) := by
  unfold w_Mo_at_0 at h
  refine jW.iload_n (dx_Mo_at 0 (e := (0, .iload_n 1, 1)) rfl) rfl rfl (pc' := 1) rfl ?_
  refine jW.aload_n (dx_Mo_at 1 (e := (1, .aload_n 0, 1)) rfl) rfl rfl (pc' := 2) rfl ?_
  refine jW.mgi F hV f_Mo_at_2 (by decide) (pc' := 5) rfl ?_
  refine jW.icmp_ge (dx_Mo_at 3 (e := (5, .if_icmp .ge 12, 3)) rfl) 17 (by decide) (pc' := 8) rfl (fun c => ?_) (fun c => ?_)
  · replace h := h.1 c
    refine jW.iconst (v := -1) (dx_Mo_at 9 (e := (17, .iconst (-1), 1)) rfl) (by decide) (pc' := 18) rfl ?_
    exact t_Mo_at_18 F hV h
  · replace h := h.2 c
    refine jW.aload_n (dx_Mo_at 4 (e := (8, .aload_n 0, 1)) rfl) rfl rfl (pc' := 9) rfl ?_
    refine jW.mga F hV f_Mo_at_9 (by decide) (pc' := 12) rfl ?_
    refine jW.iload_n (dx_Mo_at 6 (e := (12, .iload_n 1, 1)) rfl) rfl rfl (pc' := 13) rfl ?_
    refine jW.mla F hV (dx_Mo_at 7 (e := (13, .iaload, 1)) rfl) (by decide) rfl h.1 (pc' := 14) rfl ?_
    replace h := h.2
    refine jW.goto (dx_Mo_at 8 (e := (14, .goto 4, 3)) rfl) 18 (by decide) ?_
    exact t_Mo_at_18 F hV h
theorem g_Mo_at {X : MX} {a0 : Array Value} (F : mF X a0) {x1 : Int32} {m : MS} {Φ : Option Value → MS → Prop} (he : w_Mo_at_0 X x1 m Φ) : mE X 0 y_Mo_at [.ref (mo X), .int x1] m Φ := by
  intro d σ hV
  refine jE.of (by decide) (by simp [Value.category]) (Nat.le_of_ble_eq_true rfl) rfl ?_
  exact t_Mo_at_0 F hV he
def w_Mo_row_2 (X : MX) (x1 x2 x3 : Int32) (m : MS) (Φ : Option Value → MS → Prop) (K2 : Int32 → Int32 → Int32 → MS → Prop) : Prop := mE X 0 y_Mo_at [.ref (mo X), .int (x1 + x3)] m (iP fun r1 m1 => ((r1 = x2 → K2 (x1) (x2) (x3 + 1) m1) ∧ (¬ r1 = x2 → Φ (some (.int (x3))) m1)))
theorem t_Mo_row_2 {X : MX} {a0 : Array Value} (F : mF X a0) {d : Nat} {x1 x2 x3 : Int32} {m : MS} {σ : jS} {Φ : Option Value → MS → Prop} {K2 : Int32 → Int32 → Int32 → MS → Prop} (hV : MV X m σ) (h : w_Mo_row_2 X x1 x2 x3 m Φ K2) (hK2 : ∀ (x1 x2 x3 : Int32) (m : MS) (σ : jS), MV X m σ → K2 x1 x2 x3 m → jW X.1 X.2.1 jcl X.2.2.1 X.2.2.2.1 (d + 1) y_Mo_row 2 [some (.ref (mo X)), some (.int x1), some (.int x2), some (.int x3)] [] σ (mQ X Φ σ)) : jW X.1 X.2.1 jcl X.2.2.1 X.2.2.2.1 (d + 1) y_Mo_row 2 [some (.ref (mo X)), some (.int x1), some (.int x2), some (.int x3)] [] σ (mQ X Φ σ) := by
  unfold w_Mo_row_2 at h
  refine jW.aload_n (dx_Mo_row 2 (e := (2, .aload_n 0, 1)) rfl) rfl rfl (pc' := 3) rfl ?_
  refine jW.iload_n (dx_Mo_row 3 (e := (3, .iload_n 1, 1)) rfl) rfl rfl (pc' := 4) rfl ?_
  refine jW.iload_n (dx_Mo_row 4 (e := (4, .iload_n 3, 1)) rfl) rfl rfl (pc' := 5) rfl ?_
  refine jW.iadd (dx_Mo_row 5 (e := (5, .iadd, 1)) rfl) (pc' := 6) rfl ?_
  refine jW.callVe F (h (d + 0) _ hV) (dx_Mo_row 6 (e := (6, .invokevirtual 129, 3)) rfl) can_Mo_at jw_1194 jw_1196 hV.cl rfl sel_Mo_at rfl rfl (Nat.le_of_ble_eq_true rfl) (pc' := 9) rfl (fun r σ hr => ?_)
  clear hV
  refine mQ.up hr.1 ?_
  obtain ⟨_, hV, _, rfl, h⟩ := hr.2
  refine jW.iload_n (dx_Mo_row 7 (e := (9, .iload_n 2, 1)) rfl) rfl rfl (pc' := 10) rfl ?_
  refine jW.icmp_ne (dx_Mo_row 8 (e := (10, .if_icmp .ne 9, 3)) rfl) 19 (by decide) (pc' := 13) rfl (fun c => ?_) (fun c => ?_)
  · replace h := h.2 c
    refine jW.iload_n (dx_Mo_row 11 (e := (19, .iload_n 3, 1)) rfl) rfl rfl (pc' := 20) rfl ?_
    exact jW.iret (dx_Mo_row 12 (e := (20, .ireturn, 1)) rfl) rfl ⟨FR.rfl, _, hV, h⟩
  · replace h := h.1 c
    refine jW.iinc (v := _ + (1)) (dx_Mo_row 9 (e := (13, .iinc 3 1, 3)) rfl) rfl rfl (by decide) rfl (pc' := 16) rfl ?_
    refine jW.goto (dx_Mo_row 10 (e := (16, .goto (-14), 3)) rfl) 2 (by decide) ?_
    exact hK2 _ _ _ _ _ hV h
def w_Mo_row_0 (X : MX) (x1 x2 : Int32) (m : MS) (Φ : Option Value → MS → Prop) (K2 : Int32 → Int32 → Int32 → MS → Prop) : Prop := K2 (x1) (x2) (0) m
theorem t_Mo_row_0 {X : MX} {a0 : Array Value} (F : mF X a0) {d : Nat} {x1 x2 : Int32} {o3 : Option Value} {m : MS} {σ : jS} {Φ : Option Value → MS → Prop} {K2 : Int32 → Int32 → Int32 → MS → Prop} (hV : MV X m σ) (h : w_Mo_row_0 X x1 x2 m Φ K2) (hK2 : ∀ (x1 x2 x3 : Int32) (m : MS) (σ : jS), MV X m σ → K2 x1 x2 x3 m → jW X.1 X.2.1 jcl X.2.2.1 X.2.2.2.1 (d + 1) y_Mo_row 2 [some (.ref (mo X)), some (.int x1), some (.int x2), some (.int x3)] [] σ (mQ X Φ σ)) : jW X.1 X.2.1 jcl X.2.2.1 X.2.2.2.1 (d + 1) y_Mo_row 0 [some (.ref (mo X)), some (.int x1), some (.int x2), o3] [] σ (mQ X Φ σ) := by
  unfold w_Mo_row_0 at h
  refine jW.iconst (v := 0) (dx_Mo_row 0 (e := (0, .iconst 0, 1)) rfl) (by decide) (pc' := 1) rfl ?_
  refine jW.istore_n (dx_Mo_row 1 (e := (1, .istore_n 3, 1)) rfl) rfl (by decide) rfl (pc' := 2) rfl ?_
  exact hK2 _ _ _ _ _ hV h
theorem g_Mo_row {X : MX} {a0 : Array Value} (F : mF X a0) {x1 x2 : Int32} {m : MS} {Φ : Option Value → MS → Prop} {I2 : Nat → Int32 → Int32 → Int32 → MS → Prop} (he : w_Mo_row_0 X x1 x2 m Φ (fun x1 x2 x3 m => ∃ j, I2 j x1 x2 x3 m)) (h2 : ∀ (n : Nat) (x1 x2 x3 : Int32) (m : MS), I2 n x1 x2 x3 m → w_Mo_row_2 X x1 x2 x3 m Φ (fun x1 x2 x3 m => ∃ j, j < n ∧ I2 j x1 x2 x3 m)) : mE X 1 y_Mo_row [.ref (mo X), .int x1, .int x2] m Φ := by
  intro d σ hV
  have hL2 : ∀ n, (∀ (x1 x2 x3 : Int32) (m : MS) (σ : jS), MV X m σ → I2 n x1 x2 x3 m → jW X.1 X.2.1 jcl X.2.2.1 X.2.2.2.1 (d + 1) y_Mo_row 2 [some (.ref (mo X)), some (.int x1), some (.int x2), some (.int x3)] [] σ (mQ X Φ σ)) := by
    intro n
    induction n using Nat.strongRecOn with
    | _ n ih =>
      exact fun x1 x2 x3 m σ hV hI => t_Mo_row_2 F hV (h2 n x1 x2 x3 m hI) (fun x1 x2 x3 m σ hV ⟨j, hj, hI⟩ => (ih j hj) x1 x2 x3 m σ hV hI)
  refine jE.of (by decide) (by simp [Value.category]) (Nat.le_of_ble_eq_true rfl) rfl ?_
  exact t_Mo_row_0 F hV he (fun x1 x2 x3 m σ hV ⟨j, hI⟩ => (hL2 j) x1 x2 x3 m σ hV hI)
def w_Mo_closeTo_0 (X : MX) (x1 : Int32) (m : MS) (Φ : Option Value → MS → Prop) (K0 : Int32 → MS → Prop) : Prop := ((m.1 30 ≤ x1 → Φ none m) ∧ (¬ m.1 30 ≤ x1 → ∀ m1, m1 = mI m 30 ((m.1 30) - 1) → (vp_in (m1.1 30) 40 ∧ mE X 5 y_Mo_close [.ref (mo X), .int (m1.2 29 (m1.1 30 : Int32).toNatClampNeg)] m1 (vP fun m2 => K0 (x1) m2))))
theorem t_Mo_closeTo_0 {X : MX} {a0 : Array Value} (F : mF X a0) {d : Nat} {x1 : Int32} {m : MS} {σ : jS} {Φ : Option Value → MS → Prop} {K0 : Int32 → MS → Prop} (hV : MV X m σ) (h : w_Mo_closeTo_0 X x1 m Φ K0) (hK0 : ∀ (x1 : Int32) (m : MS) (σ : jS), MV X m σ → K0 x1 m → jW X.1 X.2.1 jcl X.2.2.1 X.2.2.2.1 (d + 6) y_Mo_closeTo 0 [some (.ref (mo X)), some (.int x1)] [] σ (mQ X Φ σ)) : jW X.1 X.2.1 jcl X.2.2.1 X.2.2.2.1 (d + 6) y_Mo_closeTo 0 [some (.ref (mo X)), some (.int x1)] [] σ (mQ X Φ σ) := by
  unfold w_Mo_closeTo_0 at h
  refine jW.aload_n (dx_Mo_closeTo 0 (e := (0, .aload_n 0, 1)) rfl) rfl rfl (pc' := 1) rfl ?_
  refine jW.mgi F hV f_Mo_closeTo_1 (by decide) (pc' := 4) rfl ?_
  refine jW.iload_n (dx_Mo_closeTo 2 (e := (4, .iload_n 1, 1)) rfl) rfl rfl (pc' := 5) rfl ?_
  refine jW.icmp_le (dx_Mo_closeTo 3 (e := (5, .if_icmp .le 29, 3)) rfl) 34 (by decide) (pc' := 8) rfl (fun c => ?_) (fun c => ?_)
  · replace h := h.1 c
    exact jW.vret (dx_Mo_closeTo 18 (e := (34, .return_, 1)) rfl) rfl ⟨FR.rfl, _, hV, h⟩
  · replace h := h.2 c
    refine jW.aload_n (dx_Mo_closeTo 4 (e := (8, .aload_n 0, 1)) rfl) rfl rfl (pc' := 9) rfl ?_
    refine jW.dup (dx_Mo_closeTo 5 (e := (9, .dup, 1)) rfl) rfl (pc' := 10) rfl ?_
    refine jW.mgi F hV f_Mo_closeTo_10 (by decide) (pc' := 13) rfl ?_
    refine jW.iconst (v := 1) (dx_Mo_closeTo 7 (e := (13, .iconst 1, 1)) rfl) (by decide) (pc' := 14) rfl ?_
    refine jW.isub (dx_Mo_closeTo 8 (e := (14, .isub, 1)) rfl) (pc' := 15) rfl ?_
    refine jW.mpi F hV f_Mo_closeTo_15 (by decide) rfl rfl rfl (pc' := 18) rfl (fun σ hV => ?_)
    replace h := h _ rfl
    refine jW.aload_n (dx_Mo_closeTo 10 (e := (18, .aload_n 0, 1)) rfl) rfl rfl (pc' := 19) rfl ?_
    refine jW.aload_n (dx_Mo_closeTo 11 (e := (19, .aload_n 0, 1)) rfl) rfl rfl (pc' := 20) rfl ?_
    refine jW.mga F hV f_Mo_closeTo_20 (by decide) (pc' := 23) rfl ?_
    refine jW.aload_n (dx_Mo_closeTo 13 (e := (23, .aload_n 0, 1)) rfl) rfl rfl (pc' := 24) rfl ?_
    refine jW.mgi F hV f_Mo_closeTo_24 (by decide) (pc' := 27) rfl ?_
    refine jW.mla F hV (dx_Mo_closeTo 15 (e := (27, .iaload, 1)) rfl) (by decide) rfl h.1 (pc' := 28) rfl ?_
    replace h := h.2
    refine jW.callVe F (h (d + 0) _ hV) (dx_Mo_closeTo 16 (e := (28, .invokevirtual 152, 3)) rfl) can_Mo_close jw_1206 jw_1208 hV.cl rfl sel_Mo_close rfl rfl (Nat.le_of_ble_eq_true rfl) (pc' := 31) rfl (fun r σ hr => ?_)
    clear hV
    refine mQ.up hr.1 ?_
    obtain ⟨_, hV, rfl, h⟩ := hr.2
    refine jW.goto (dx_Mo_closeTo 17 (e := (31, .goto (-31), 3)) rfl) 0 (by decide) ?_
    exact hK0 _ _ _ hV h
theorem g_Mo_closeTo {X : MX} {a0 : Array Value} (F : mF X a0) {x1 : Int32} {m : MS} {Φ : Option Value → MS → Prop} {I0 : Nat → Int32 → MS → Prop} (he : w_Mo_closeTo_0 X x1 m Φ (fun x1 m => ∃ j, I0 j x1 m)) (h0 : ∀ (n : Nat) (x1 : Int32) (m : MS), I0 n x1 m → w_Mo_closeTo_0 X x1 m Φ (fun x1 m => ∃ j, j < n ∧ I0 j x1 m)) : mE X 6 y_Mo_closeTo [.ref (mo X), .int x1] m Φ := by
  intro d σ hV
  have hL0 : ∀ n, (∀ (x1 : Int32) (m : MS) (σ : jS), MV X m σ → I0 n x1 m → jW X.1 X.2.1 jcl X.2.2.1 X.2.2.2.1 (d + 6) y_Mo_closeTo 0 [some (.ref (mo X)), some (.int x1)] [] σ (mQ X Φ σ)) := by
    intro n
    induction n using Nat.strongRecOn with
    | _ n ih =>
      exact fun x1 m σ hV hI => t_Mo_closeTo_0 F hV (h0 n x1 m hI) (fun x1 m σ hV ⟨j, hj, hI⟩ => (ih j hj) x1 m σ hV hI)
  refine jE.of (by decide) (by simp [Value.category]) (Nat.le_of_ble_eq_true rfl) rfl ?_
  exact t_Mo_closeTo_0 F hV he (fun x1 m σ hV ⟨j, hI⟩ => (hL0 j) x1 m σ hV hI)
def w_Mo_close_62 (X : MX) (x1 : Int32) (m : MS) (Φ : Option Value → MS → Prop) : Prop := Φ none m
theorem t_Mo_close_62 {X : MX} {a0 : Array Value} (F : mF X a0) {d : Nat} {x1 : Int32} {m : MS} {σ : jS} {Φ : Option Value → MS → Prop} (hV : MV X m σ) (h : w_Mo_close_62 X x1 m Φ) : jW X.1 X.2.1 jcl X.2.2.1 X.2.2.2.1 (d + 5) y_Mo_close 62 [some (.ref (mo X)), some (.int x1)] [] σ (mQ X Φ σ) := by
  unfold w_Mo_close_62 at h
  exact jW.vret (dx_Mo_close 35 (e := (62, .return_, 1)) rfl) rfl ⟨FR.rfl, _, hV, h⟩
def w_Mo_close_0 (X : MX) (x1 : Int32) (m : MS) (Φ : Option Value → MS → Prop) : Prop := (vp_in (x1) 3300 ∧ ((m.2 13 (x1 : Int32).toNatClampNeg = 4 → mE X 4 y_Mo_takeDefinitions [.ref (mo X), .int (x1)] m (vP fun m2 => mE X 0 y_Mo_trimEnd [.ref (mo X), .int (x1)] m2 (vP fun m3 => (vp_in (x1) 3300 ∧ ((m3.2 19 (x1 : Int32).toNatClampNeg = 0 → mE X 0 y_Mo_goAway [.ref (mo X), .int (x1)] m3 (vP fun m4 => w_Mo_close_62 X (x1) m4 Φ)) ∧ (¬ m3.2 19 (x1 : Int32).toNatClampNeg = 0 → w_Mo_close_62 X (x1) m3 Φ)))))) ∧ (¬ m.2 13 (x1 : Int32).toNatClampNeg = 4 → (vp_in (x1) 3300 ∧ ((m.2 13 (x1 : Int32).toNatClampNeg = 7 → (vp_in (x1) 3300 ∧ ((m.2 22 (x1 : Int32).toNatClampNeg = 0 → mE X 0 y_Mo_dropBlankLines [.ref (mo X), .int (x1)] m (vP fun m1 => w_Mo_close_62 X (x1) m1 Φ)) ∧ (¬ m.2 22 (x1 : Int32).toNatClampNeg = 0 → w_Mo_close_62 X (x1) m Φ)))) ∧ (¬ m.2 13 (x1 : Int32).toNatClampNeg = 7 → w_Mo_close_62 X (x1) m Φ))))))
theorem t_Mo_close_0 {X : MX} {a0 : Array Value} (F : mF X a0) {d : Nat} {x1 : Int32} {m : MS} {σ : jS} {Φ : Option Value → MS → Prop} (hV : MV X m σ) (h : w_Mo_close_0 X x1 m Φ) : jW X.1 X.2.1 jcl X.2.2.1 X.2.2.2.1 (d + 5) y_Mo_close 0 [some (.ref (mo X)), some (.int x1)] [] σ (mQ X Φ σ) := by
  unfold w_Mo_close_0 at h
  refine jW.aload_n (dx_Mo_close 0 (e := (0, .aload_n 0, 1)) rfl) rfl rfl (pc' := 1) rfl ?_
  refine jW.mga F hV f_Mo_close_1 (by decide) (pc' := 4) rfl ?_
  refine jW.iload_n (dx_Mo_close 2 (e := (4, .iload_n 1, 1)) rfl) rfl rfl (pc' := 5) rfl ?_
  refine jW.mla F hV (dx_Mo_close 3 (e := (5, .iaload, 1)) rfl) (by decide) rfl h.1 (pc' := 6) rfl ?_
  replace h := h.2
  refine jW.iconst (v := 4) (dx_Mo_close 4 (e := (6, .iconst 4, 1)) rfl) (by decide) (pc' := 7) rfl ?_
  refine jW.icmp_ne (dx_Mo_close 5 (e := (7, .if_icmp .ne 30, 3)) rfl) 37 (by decide) (pc' := 10) rfl (fun c => ?_) (fun c => ?_)
  · replace h := h.2 c
    refine jW.aload_n (dx_Mo_close 21 (e := (37, .aload_n 0, 1)) rfl) rfl rfl (pc' := 38) rfl ?_
    refine jW.mga F hV f_Mo_close_38 (by decide) (pc' := 41) rfl ?_
    refine jW.iload_n (dx_Mo_close 23 (e := (41, .iload_n 1, 1)) rfl) rfl rfl (pc' := 42) rfl ?_
    refine jW.mla F hV (dx_Mo_close 24 (e := (42, .iaload, 1)) rfl) (by decide) rfl h.1 (pc' := 43) rfl ?_
    replace h := h.2
    refine jW.bipush (v := 7) (dx_Mo_close 25 (e := (43, .bipush 7, 2)) rfl) (by decide) (pc' := 45) rfl ?_
    refine jW.icmp_ne (dx_Mo_close 26 (e := (45, .if_icmp .ne 17, 3)) rfl) 62 (by decide) (pc' := 48) rfl (fun c => ?_) (fun c => ?_)
    · replace h := h.2 c
      exact t_Mo_close_62 F hV h
    · replace h := h.1 c
      refine jW.aload_n (dx_Mo_close 27 (e := (48, .aload_n 0, 1)) rfl) rfl rfl (pc' := 49) rfl ?_
      refine jW.mga F hV f_Mo_close_49 (by decide) (pc' := 52) rfl ?_
      refine jW.iload_n (dx_Mo_close 29 (e := (52, .iload_n 1, 1)) rfl) rfl rfl (pc' := 53) rfl ?_
      refine jW.mla F hV (dx_Mo_close 30 (e := (53, .iaload, 1)) rfl) (by decide) rfl h.1 (pc' := 54) rfl ?_
      replace h := h.2
      refine jW.if_ne (dx_Mo_close 31 (e := (54, .ifCond .ne 8, 3)) rfl) 62 (by decide) (pc' := 57) rfl (fun c => ?_) (fun c => ?_)
      · replace h := h.2 c
        exact t_Mo_close_62 F hV h
      · replace h := h.1 c
        refine jW.aload_n (dx_Mo_close 32 (e := (57, .aload_n 0, 1)) rfl) rfl rfl (pc' := 58) rfl ?_
        refine jW.iload_n (dx_Mo_close 33 (e := (58, .iload_n 1, 1)) rfl) rfl rfl (pc' := 59) rfl ?_
        refine jW.callVe F (h (d + 4) _ hV) (dx_Mo_close 34 (e := (59, .invokevirtual 165, 3)) rfl) can_Mo_dropBlankLines jw_1296 jw_1298 hV.cl rfl sel_Mo_dropBlankLines rfl rfl (Nat.le_of_ble_eq_true rfl) (pc' := 62) rfl (fun r σ hr => ?_)
        clear hV
        refine mQ.up hr.1 ?_
        obtain ⟨_, hV, rfl, h⟩ := hr.2
        exact t_Mo_close_62 F hV h
  · replace h := h.1 c
    refine jW.aload_n (dx_Mo_close 6 (e := (10, .aload_n 0, 1)) rfl) rfl rfl (pc' := 11) rfl ?_
    refine jW.iload_n (dx_Mo_close 7 (e := (11, .iload_n 1, 1)) rfl) rfl rfl (pc' := 12) rfl ?_
    refine jW.callVe F (h (d + 0) _ hV) (dx_Mo_close 8 (e := (12, .invokevirtual 156, 3)) rfl) can_Mo_takeDefinitions jw_1210 jw_1212 hV.cl rfl sel_Mo_takeDefinitions rfl rfl (Nat.le_of_ble_eq_true rfl) (pc' := 15) rfl (fun r σ hr => ?_)
    clear hV
    refine mQ.up hr.1 ?_
    obtain ⟨_, hV, rfl, h⟩ := hr.2
    refine jW.aload_n (dx_Mo_close 9 (e := (15, .aload_n 0, 1)) rfl) rfl rfl (pc' := 16) rfl ?_
    refine jW.iload_n (dx_Mo_close 10 (e := (16, .iload_n 1, 1)) rfl) rfl rfl (pc' := 17) rfl ?_
    refine jW.callVe F (h (d + 4) _ hV) (dx_Mo_close 11 (e := (17, .invokevirtual 159, 3)) rfl) can_Mo_trimEnd jw_1288 jw_1290 hV.cl rfl sel_Mo_trimEnd rfl rfl (Nat.le_of_ble_eq_true rfl) (pc' := 20) rfl (fun r σ hr => ?_)
    clear hV
    refine mQ.up hr.1 ?_
    obtain ⟨_, hV, rfl, h⟩ := hr.2
    refine jW.aload_n (dx_Mo_close 12 (e := (20, .aload_n 0, 1)) rfl) rfl rfl (pc' := 21) rfl ?_
    refine jW.mga F hV f_Mo_close_21 (by decide) (pc' := 24) rfl ?_
    refine jW.iload_n (dx_Mo_close 14 (e := (24, .iload_n 1, 1)) rfl) rfl rfl (pc' := 25) rfl ?_
    refine jW.mla F hV (dx_Mo_close 15 (e := (25, .iaload, 1)) rfl) (by decide) rfl h.1 (pc' := 26) rfl ?_
    replace h := h.2
    refine jW.if_ne (dx_Mo_close 16 (e := (26, .ifCond .ne 36, 3)) rfl) 62 (by decide) (pc' := 29) rfl (fun c => ?_) (fun c => ?_)
    · replace h := h.2 c
      exact t_Mo_close_62 F hV h
    · replace h := h.1 c
      refine jW.aload_n (dx_Mo_close 17 (e := (29, .aload_n 0, 1)) rfl) rfl rfl (pc' := 30) rfl ?_
      refine jW.iload_n (dx_Mo_close 18 (e := (30, .iload_n 1, 1)) rfl) rfl rfl (pc' := 31) rfl ?_
      refine jW.callVe F (h (d + 4) _ hV) (dx_Mo_close 19 (e := (31, .invokevirtual 162, 3)) rfl) can_Mo_goAway jw_1292 jw_1294 hV.cl rfl sel_Mo_goAway rfl rfl (Nat.le_of_ble_eq_true rfl) (pc' := 34) rfl (fun r σ hr => ?_)
      clear hV
      refine mQ.up hr.1 ?_
      obtain ⟨_, hV, rfl, h⟩ := hr.2
      refine jW.goto (dx_Mo_close 20 (e := (34, .goto 28, 3)) rfl) 62 (by decide) ?_
      exact t_Mo_close_62 F hV h
theorem g_Mo_close {X : MX} {a0 : Array Value} (F : mF X a0) {x1 : Int32} {m : MS} {Φ : Option Value → MS → Prop} (he : w_Mo_close_0 X x1 m Φ) : mE X 5 y_Mo_close [.ref (mo X), .int x1] m Φ := by
  intro d σ hV
  refine jE.of (by decide) (by simp [Value.category]) (Nat.le_of_ble_eq_true rfl) rfl ?_
  exact t_Mo_close_0 F hV he
def w_Mo_takeDefinitions_237 (X : MX) (x1 x2 : Int32) (m : MS) (Φ : Option Value → MS → Prop) : Prop := Φ none m
theorem t_Mo_takeDefinitions_237 {X : MX} {a0 : Array Value} (F : mF X a0) {d : Nat} {x1 x2 : Int32} {o3 o4 o5 o6 o7 : Option Value} {m : MS} {σ : jS} {Φ : Option Value → MS → Prop} (hV : MV X m σ) (h : w_Mo_takeDefinitions_237 X x1 x2 m Φ) : jW X.1 X.2.1 jcl X.2.2.1 X.2.2.2.1 (d + 4) y_Mo_takeDefinitions 237 [some (.ref (mo X)), some (.int x1), some (.int x2), o3, o4, o5, o6, o7] [] σ (mQ X Φ σ) := by
  unfold w_Mo_takeDefinitions_237 at h
  exact jW.vret (dx_Mo_takeDefinitions 135 (e := (237, .return_, 1)) rfl) rfl ⟨FR.rfl, _, hV, h⟩
def w_Mo_takeDefinitions_212 (X : MX) (x1 x2 x3 x4 x5 x6 x7 s0 s1 : Int32) (m : MS) (Φ : Option Value → MS → Prop) (K2 : Int32 → Int32 → MS → Prop) : Prop := (vp_in (x1) 3300 ∧ ∀ m1, m1 = mA m 18 (x1 : Int32).toNatClampNeg (s0 + s1) → (vp_in (x1) 3300 ∧ ∀ m2, m2 = mA m1 19 (x1 : Int32).toNatClampNeg (x4 - (s0 + s1)) → K2 (x1) (x2) m2))
theorem t_Mo_takeDefinitions_212 {X : MX} {a0 : Array Value} (F : mF X a0) {d : Nat} {x1 x2 x3 x4 x5 x6 x7 s0 s1 : Int32} {m : MS} {σ : jS} {Φ : Option Value → MS → Prop} {K2 : Int32 → Int32 → MS → Prop} (hV : MV X m σ) (h : w_Mo_takeDefinitions_212 X x1 x2 x3 x4 x5 x6 x7 s0 s1 m Φ K2) (hK2 : ∀ (x1 x2 : Int32) (o3 o4 o5 o6 o7 : Option Value) (m : MS) (σ : jS), MV X m σ → K2 x1 x2 m → jW X.1 X.2.1 jcl X.2.2.1 X.2.2.2.1 (d + 4) y_Mo_takeDefinitions 2 [some (.ref (mo X)), some (.int x1), some (.int x2), o3, o4, o5, o6, o7] [] σ (mQ X Φ σ)) : jW X.1 X.2.1 jcl X.2.2.1 X.2.2.2.1 (d + 4) y_Mo_takeDefinitions 212 [some (.ref (mo X)), some (.int x1), some (.int x2), some (.int x3), some (.int x4), some (.int x5), some (.int x6), some (.int x7)] [.int s1, .int s0] σ (mQ X Φ σ) := by
  unfold w_Mo_takeDefinitions_212 at h
  refine jW.iadd (dx_Mo_takeDefinitions 120 (e := (212, .iadd, 1)) rfl) (pc' := 213) rfl ?_
  refine jW.istore (dx_Mo_takeDefinitions 121 (e := (213, .istore 5, 2)) rfl) (by decide) rfl (pc' := 215) rfl ?_
  refine jW.aload_n (dx_Mo_takeDefinitions 122 (e := (215, .aload_n 0, 1)) rfl) rfl rfl (pc' := 216) rfl ?_
  refine jW.mga F hV f_Mo_takeDefinitions_216 (by decide) (pc' := 219) rfl ?_
  refine jW.iload_n (dx_Mo_takeDefinitions 124 (e := (219, .iload_n 1, 1)) rfl) rfl rfl (pc' := 220) rfl ?_
  refine jW.iload (dx_Mo_takeDefinitions 125 (e := (220, .iload 5, 2)) rfl) rfl (pc' := 222) rfl ?_
  refine jW.msa F hV (dx_Mo_takeDefinitions 126 (e := (222, .iastore, 1)) rfl) (by decide) rfl h.1 (pc' := 223) rfl (fun σ hV => ?_)
  replace h := h.2 _ rfl
  refine jW.aload_n (dx_Mo_takeDefinitions 127 (e := (223, .aload_n 0, 1)) rfl) rfl rfl (pc' := 224) rfl ?_
  refine jW.mga F hV f_Mo_takeDefinitions_224 (by decide) (pc' := 227) rfl ?_
  refine jW.iload_n (dx_Mo_takeDefinitions 129 (e := (227, .iload_n 1, 1)) rfl) rfl rfl (pc' := 228) rfl ?_
  refine jW.iload (dx_Mo_takeDefinitions 130 (e := (228, .iload 4, 2)) rfl) rfl (pc' := 230) rfl ?_
  refine jW.iload (dx_Mo_takeDefinitions 131 (e := (230, .iload 5, 2)) rfl) rfl (pc' := 232) rfl ?_
  refine jW.isub (dx_Mo_takeDefinitions 132 (e := (232, .isub, 1)) rfl) (pc' := 233) rfl ?_
  refine jW.msa F hV (dx_Mo_takeDefinitions 133 (e := (233, .iastore, 1)) rfl) (by decide) rfl h.1 (pc' := 234) rfl (fun σ hV => ?_)
  replace h := h.2 _ rfl
  refine jW.goto (dx_Mo_takeDefinitions 134 (e := (234, .goto (-232), 3)) rfl) 2 (by decide) ?_
  exact hK2 _ _ _ _ _ _ _ _ _ hV h
def w_Mo_takeDefinitions_198 (X : MX) (x1 x2 x3 x4 x5 x6 x7 : Int32) (m : MS) (Φ : Option Value → MS → Prop) (K2 : Int32 → Int32 → MS → Prop) : Prop := ((x4 ≤ x5 → w_Mo_takeDefinitions_212 X (x1) (x2) (x3) (x4) (x5) (x6) (x7) (x5) (0) m Φ K2) ∧ (¬ x4 ≤ x5 → w_Mo_takeDefinitions_212 X (x1) (x2) (x3) (x4) (x5) (x6) (x7) (x5) (1) m Φ K2))
theorem t_Mo_takeDefinitions_198 {X : MX} {a0 : Array Value} (F : mF X a0) {d : Nat} {x1 x2 x3 x4 x5 x6 x7 : Int32} {m : MS} {σ : jS} {Φ : Option Value → MS → Prop} {K2 : Int32 → Int32 → MS → Prop} (hV : MV X m σ) (h : w_Mo_takeDefinitions_198 X x1 x2 x3 x4 x5 x6 x7 m Φ K2) (hK2 : ∀ (x1 x2 : Int32) (o3 o4 o5 o6 o7 : Option Value) (m : MS) (σ : jS), MV X m σ → K2 x1 x2 m → jW X.1 X.2.1 jcl X.2.2.1 X.2.2.2.1 (d + 4) y_Mo_takeDefinitions 2 [some (.ref (mo X)), some (.int x1), some (.int x2), o3, o4, o5, o6, o7] [] σ (mQ X Φ σ)) : jW X.1 X.2.1 jcl X.2.2.1 X.2.2.2.1 (d + 4) y_Mo_takeDefinitions 198 [some (.ref (mo X)), some (.int x1), some (.int x2), some (.int x3), some (.int x4), some (.int x5), some (.int x6), some (.int x7)] [] σ (mQ X Φ σ) := by
  unfold w_Mo_takeDefinitions_198 at h
  refine jW.iload (dx_Mo_takeDefinitions 113 (e := (198, .iload 5, 2)) rfl) rfl (pc' := 200) rfl ?_
  refine jW.iload (dx_Mo_takeDefinitions 114 (e := (200, .iload 5, 2)) rfl) rfl (pc' := 202) rfl ?_
  refine jW.iload (dx_Mo_takeDefinitions 115 (e := (202, .iload 4, 2)) rfl) rfl (pc' := 204) rfl ?_
  refine jW.icmp_ge (dx_Mo_takeDefinitions 116 (e := (204, .if_icmp .ge 7, 3)) rfl) 211 (by decide) (pc' := 207) rfl (fun c => ?_) (fun c => ?_)
  · replace h := h.1 c
    refine jW.iconst (v := 0) (dx_Mo_takeDefinitions 119 (e := (211, .iconst 0, 1)) rfl) (by decide) (pc' := 212) rfl ?_
    exact t_Mo_takeDefinitions_212 F hV h hK2
  · replace h := h.2 c
    refine jW.iconst (v := 1) (dx_Mo_takeDefinitions 117 (e := (207, .iconst 1, 1)) rfl) (by decide) (pc' := 208) rfl ?_
    refine jW.goto (dx_Mo_takeDefinitions 118 (e := (208, .goto 4, 3)) rfl) 212 (by decide) ?_
    exact t_Mo_takeDefinitions_212 F hV h hK2
def w_Mo_takeDefinitions_177 (X : MX) (x1 x2 x3 x4 x5 x6 x7 s1 s2 : Int32) (m : MS) (Φ : Option Value → MS → Prop) (K2 : Int32 → Int32 → MS → Prop) : Prop := (vp_in (s1) 700 ∧ ∀ m1, m1 = mA m 46 (s1 : Int32).toNatClampNeg (s2) → mE X 1 y_Mo_earlier [.ref (mo X), .int (x7)] m1 (iP fun r2 m2 => ((r2 = -1 → ∀ m3, m3 = mI m2 40 ((m2.1 40) + 1) → w_Mo_takeDefinitions_198 X (x1) (x2) (x3) (x4) (x5) (x6) (x7) m3 Φ K2) ∧ (¬ r2 = -1 → w_Mo_takeDefinitions_198 X (x1) (x2) (x3) (x4) (x5) (x6) (x7) m2 Φ K2))))
theorem t_Mo_takeDefinitions_177 {X : MX} {a0 : Array Value} (F : mF X a0) {d : Nat} {x1 x2 x3 x4 x5 x6 x7 s1 s2 : Int32} {m : MS} {σ : jS} {Φ : Option Value → MS → Prop} {K2 : Int32 → Int32 → MS → Prop} (hV : MV X m σ) (h : w_Mo_takeDefinitions_177 X x1 x2 x3 x4 x5 x6 x7 s1 s2 m Φ K2) (hK2 : ∀ (x1 x2 : Int32) (o3 o4 o5 o6 o7 : Option Value) (m : MS) (σ : jS), MV X m σ → K2 x1 x2 m → jW X.1 X.2.1 jcl X.2.2.1 X.2.2.2.1 (d + 4) y_Mo_takeDefinitions 2 [some (.ref (mo X)), some (.int x1), some (.int x2), o3, o4, o5, o6, o7] [] σ (mQ X Φ σ)) : jW X.1 X.2.1 jcl X.2.2.1 X.2.2.2.1 (d + 4) y_Mo_takeDefinitions 177 [some (.ref (mo X)), some (.int x1), some (.int x2), some (.int x3), some (.int x4), some (.int x5), some (.int x6), some (.int x7)] [.int s2, .int s1, .ref (ar X 46)] σ (mQ X Φ σ) := by
  unfold w_Mo_takeDefinitions_177 at h
  refine jW.msa F hV (dx_Mo_takeDefinitions 101 (e := (177, .iastore, 1)) rfl) (by decide) rfl h.1 (pc' := 178) rfl (fun σ hV => ?_)
  replace h := h.2 _ rfl
  refine jW.aload_n (dx_Mo_takeDefinitions 102 (e := (178, .aload_n 0, 1)) rfl) rfl rfl (pc' := 179) rfl ?_
  refine jW.iload (dx_Mo_takeDefinitions 103 (e := (179, .iload 7, 2)) rfl) rfl (pc' := 181) rfl ?_
  refine jW.callVe F (h (d + 2) _ hV) (dx_Mo_takeDefinitions 104 (e := (181, .invokevirtual 347, 3)) rfl) can_Mo_earlier jw_1280 jw_1282 hV.cl rfl sel_Mo_earlier rfl rfl (Nat.le_of_ble_eq_true rfl) (pc' := 184) rfl (fun r σ hr => ?_)
  clear hV
  refine mQ.up hr.1 ?_
  obtain ⟨_, hV, _, rfl, h⟩ := hr.2
  refine jW.iconst (v := -1) (dx_Mo_takeDefinitions 105 (e := (184, .iconst (-1), 1)) rfl) (by decide) (pc' := 185) rfl ?_
  refine jW.icmp_ne (dx_Mo_takeDefinitions 106 (e := (185, .if_icmp .ne 13, 3)) rfl) 198 (by decide) (pc' := 188) rfl (fun c => ?_) (fun c => ?_)
  · replace h := h.2 c
    exact t_Mo_takeDefinitions_198 F hV h hK2
  · replace h := h.1 c
    refine jW.aload_n (dx_Mo_takeDefinitions 107 (e := (188, .aload_n 0, 1)) rfl) rfl rfl (pc' := 189) rfl ?_
    refine jW.dup (dx_Mo_takeDefinitions 108 (e := (189, .dup, 1)) rfl) rfl (pc' := 190) rfl ?_
    refine jW.mgi F hV f_Mo_takeDefinitions_190 (by decide) (pc' := 193) rfl ?_
    refine jW.iconst (v := 1) (dx_Mo_takeDefinitions 110 (e := (193, .iconst 1, 1)) rfl) (by decide) (pc' := 194) rfl ?_
    refine jW.iadd (dx_Mo_takeDefinitions 111 (e := (194, .iadd, 1)) rfl) (pc' := 195) rfl ?_
    refine jW.mpi F hV f_Mo_takeDefinitions_195 (by decide) rfl rfl rfl (pc' := 198) rfl (fun σ hV => ?_)
    replace h := h _ rfl
    exact t_Mo_takeDefinitions_198 F hV h hK2
def w_Mo_takeDefinitions_51 (X : MX) (x1 x2 x3 x4 x5 s0 : Int32) (m : MS) (Φ : Option Value → MS → Prop) (K2 : Int32 → Int32 → MS → Prop) : Prop := ((s0 = 0 → K2 (x1) (s0) m) ∧ (¬ s0 = 0 → mE X 1 y_Mo_labelEnd [.ref (mo X), .int (x3), .int (x4)] m (iP fun r1 m1 => (vp_in (m1.1 40) 700 ∧ ∀ m2, m2 = mA m1 41 (m1.1 40 : Int32).toNatClampNeg (m1.1 10) → mE X 1 y_Mo_normal [.ref (mo X), .int (x3 + 1), .int (((r1 - 1) - x3) - 1)] m2 (iP fun r3 m3 => (vp_in (m1.1 40) 700 ∧ ∀ m4, m4 = mA m3 42 (m1.1 40 : Int32).toNatClampNeg (r3) → (vp_in (m1.1 40) 700 ∧ ∀ m5, m5 = mA m4 43 (m1.1 40 : Int32).toNatClampNeg (m4.1 10) → mE X 3 y_Mo_unescape [.ref (mo X), .int (m5.1 47), .int (m5.1 48)] m5 (iP fun r6 m6 => (vp_in (m1.1 40) 700 ∧ ∀ m7, m7 = mA m6 44 (m1.1 40 : Int32).toNatClampNeg (r6) → (vp_in (m1.1 40) 700 ∧ ∀ m8, m8 = mA m7 45 (m1.1 40 : Int32).toNatClampNeg (m7.1 10) → ((m8.1 50 = 0 → w_Mo_takeDefinitions_177 X (x1) (s0) (x3) (x4) (x5) (r1 - 1) (m1.1 40) (m1.1 40) (0) m8 Φ K2) ∧ (¬ m8.1 50 = 0 → mE X 3 y_Mo_unescape [.ref (mo X), .int (m8.1 49), .int (m8.1 50)] m8 (iP fun r9 m9 => w_Mo_takeDefinitions_177 X (x1) (s0) (x3) (x4) (x5) (r1 - 1) (m1.1 40) (m1.1 40) (r9) m9 Φ K2)))))))))))))
theorem t_Mo_takeDefinitions_51 {X : MX} {a0 : Array Value} (F : mF X a0) {d : Nat} {x1 x2 x3 x4 x5 s0 : Int32} {o6 o7 : Option Value} {m : MS} {σ : jS} {Φ : Option Value → MS → Prop} {K2 : Int32 → Int32 → MS → Prop} (hV : MV X m σ) (h : w_Mo_takeDefinitions_51 X x1 x2 x3 x4 x5 s0 m Φ K2) (hK2 : ∀ (x1 x2 : Int32) (o3 o4 o5 o6 o7 : Option Value) (m : MS) (σ : jS), MV X m σ → K2 x1 x2 m → jW X.1 X.2.1 jcl X.2.2.1 X.2.2.2.1 (d + 4) y_Mo_takeDefinitions 2 [some (.ref (mo X)), some (.int x1), some (.int x2), o3, o4, o5, o6, o7] [] σ (mQ X Φ σ)) : jW X.1 X.2.1 jcl X.2.2.1 X.2.2.2.1 (d + 4) y_Mo_takeDefinitions 51 [some (.ref (mo X)), some (.int x1), some (.int x2), some (.int x3), some (.int x4), some (.int x5), o6, o7] [.int s0] σ (mQ X Φ σ) := by
  unfold w_Mo_takeDefinitions_51 at h
  refine jW.istore_n (dx_Mo_takeDefinitions 31 (e := (51, .istore_n 2, 1)) rfl) rfl (by decide) rfl (pc' := 52) rfl ?_
  refine jW.iload_n (dx_Mo_takeDefinitions 32 (e := (52, .iload_n 2, 1)) rfl) rfl rfl (pc' := 53) rfl ?_
  refine jW.if_ne (dx_Mo_takeDefinitions 33 (e := (53, .ifCond .ne 6, 3)) rfl) 59 (by decide) (pc' := 56) rfl (fun c => ?_) (fun c => ?_)
  · replace h := h.2 c
    refine jW.aload_n (dx_Mo_takeDefinitions 35 (e := (59, .aload_n 0, 1)) rfl) rfl rfl (pc' := 60) rfl ?_
    refine jW.iload_n (dx_Mo_takeDefinitions 36 (e := (60, .iload_n 3, 1)) rfl) rfl rfl (pc' := 61) rfl ?_
    refine jW.iload (dx_Mo_takeDefinitions 37 (e := (61, .iload 4, 2)) rfl) rfl (pc' := 63) rfl ?_
    refine jW.callVe F (h (d + 2) _ hV) (dx_Mo_takeDefinitions 38 (e := (63, .invokevirtual 319, 3)) rfl) can_Mo_labelEnd jw_1218 jw_1220 hV.cl rfl sel_Mo_labelEnd rfl rfl (Nat.le_of_ble_eq_true rfl) (pc' := 66) rfl (fun r σ hr => ?_)
    clear hV
    refine mQ.up hr.1 ?_
    obtain ⟨_, hV, _, rfl, h⟩ := hr.2
    refine jW.iconst (v := 1) (dx_Mo_takeDefinitions 39 (e := (66, .iconst 1, 1)) rfl) (by decide) (pc' := 67) rfl ?_
    refine jW.isub (dx_Mo_takeDefinitions 40 (e := (67, .isub, 1)) rfl) (pc' := 68) rfl ?_
    refine jW.istore (dx_Mo_takeDefinitions 41 (e := (68, .istore 6, 2)) rfl) (by decide) rfl (pc' := 70) rfl ?_
    refine jW.aload_n (dx_Mo_takeDefinitions 42 (e := (70, .aload_n 0, 1)) rfl) rfl rfl (pc' := 71) rfl ?_
    refine jW.mgi F hV f_Mo_takeDefinitions_71 (by decide) (pc' := 74) rfl ?_
    refine jW.istore (dx_Mo_takeDefinitions 44 (e := (74, .istore 7, 2)) rfl) (by decide) rfl (pc' := 76) rfl ?_
    refine jW.aload_n (dx_Mo_takeDefinitions 45 (e := (76, .aload_n 0, 1)) rfl) rfl rfl (pc' := 77) rfl ?_
    refine jW.mga F hV f_Mo_takeDefinitions_77 (by decide) (pc' := 80) rfl ?_
    refine jW.iload (dx_Mo_takeDefinitions 47 (e := (80, .iload 7, 2)) rfl) rfl (pc' := 82) rfl ?_
    refine jW.aload_n (dx_Mo_takeDefinitions 48 (e := (82, .aload_n 0, 1)) rfl) rfl rfl (pc' := 83) rfl ?_
    refine jW.mgi F hV f_Mo_takeDefinitions_83 (by decide) (pc' := 86) rfl ?_
    refine jW.msa F hV (dx_Mo_takeDefinitions 50 (e := (86, .iastore, 1)) rfl) (by decide) rfl h.1 (pc' := 87) rfl (fun σ hV => ?_)
    replace h := h.2 _ rfl
    refine jW.aload_n (dx_Mo_takeDefinitions 51 (e := (87, .aload_n 0, 1)) rfl) rfl rfl (pc' := 88) rfl ?_
    refine jW.mga F hV f_Mo_takeDefinitions_88 (by decide) (pc' := 91) rfl ?_
    refine jW.iload (dx_Mo_takeDefinitions 53 (e := (91, .iload 7, 2)) rfl) rfl (pc' := 93) rfl ?_
    refine jW.aload_n (dx_Mo_takeDefinitions 54 (e := (93, .aload_n 0, 1)) rfl) rfl rfl (pc' := 94) rfl ?_
    refine jW.iload_n (dx_Mo_takeDefinitions 55 (e := (94, .iload_n 3, 1)) rfl) rfl rfl (pc' := 95) rfl ?_
    refine jW.iconst (v := 1) (dx_Mo_takeDefinitions 56 (e := (95, .iconst 1, 1)) rfl) (by decide) (pc' := 96) rfl ?_
    refine jW.iadd (dx_Mo_takeDefinitions 57 (e := (96, .iadd, 1)) rfl) (pc' := 97) rfl ?_
    refine jW.iload (dx_Mo_takeDefinitions 58 (e := (97, .iload 6, 2)) rfl) rfl (pc' := 99) rfl ?_
    refine jW.iload_n (dx_Mo_takeDefinitions 59 (e := (99, .iload_n 3, 1)) rfl) rfl rfl (pc' := 100) rfl ?_
    refine jW.isub (dx_Mo_takeDefinitions 60 (e := (100, .isub, 1)) rfl) (pc' := 101) rfl ?_
    refine jW.iconst (v := 1) (dx_Mo_takeDefinitions 61 (e := (101, .iconst 1, 1)) rfl) (by decide) (pc' := 102) rfl ?_
    refine jW.isub (dx_Mo_takeDefinitions 62 (e := (102, .isub, 1)) rfl) (pc' := 103) rfl ?_
    refine jW.callVe F (h (d + 2) _ hV) (dx_Mo_takeDefinitions 63 (e := (103, .invokevirtual 341, 3)) rfl) can_Mo_normal jw_1244 jw_1246 hV.cl rfl sel_Mo_normal rfl rfl (Nat.le_of_ble_eq_true rfl) (pc' := 106) rfl (fun r σ hr => ?_)
    clear hV
    refine mQ.up hr.1 ?_
    obtain ⟨_, hV, _, rfl, h⟩ := hr.2
    refine jW.msa F hV (dx_Mo_takeDefinitions 64 (e := (106, .iastore, 1)) rfl) (by decide) rfl h.1 (pc' := 107) rfl (fun σ hV => ?_)
    replace h := h.2 _ rfl
    refine jW.aload_n (dx_Mo_takeDefinitions 65 (e := (107, .aload_n 0, 1)) rfl) rfl rfl (pc' := 108) rfl ?_
    refine jW.mga F hV f_Mo_takeDefinitions_108 (by decide) (pc' := 111) rfl ?_
    refine jW.iload (dx_Mo_takeDefinitions 67 (e := (111, .iload 7, 2)) rfl) rfl (pc' := 113) rfl ?_
    refine jW.aload_n (dx_Mo_takeDefinitions 68 (e := (113, .aload_n 0, 1)) rfl) rfl rfl (pc' := 114) rfl ?_
    refine jW.mgi F hV f_Mo_takeDefinitions_114 (by decide) (pc' := 117) rfl ?_
    refine jW.msa F hV (dx_Mo_takeDefinitions 70 (e := (117, .iastore, 1)) rfl) (by decide) rfl h.1 (pc' := 118) rfl (fun σ hV => ?_)
    replace h := h.2 _ rfl
    refine jW.aload_n (dx_Mo_takeDefinitions 71 (e := (118, .aload_n 0, 1)) rfl) rfl rfl (pc' := 119) rfl ?_
    refine jW.mga F hV f_Mo_takeDefinitions_119 (by decide) (pc' := 122) rfl ?_
    refine jW.iload (dx_Mo_takeDefinitions 73 (e := (122, .iload 7, 2)) rfl) rfl (pc' := 124) rfl ?_
    refine jW.aload_n (dx_Mo_takeDefinitions 74 (e := (124, .aload_n 0, 1)) rfl) rfl rfl (pc' := 125) rfl ?_
    refine jW.aload_n (dx_Mo_takeDefinitions 75 (e := (125, .aload_n 0, 1)) rfl) rfl rfl (pc' := 126) rfl ?_
    refine jW.mgi F hV f_Mo_takeDefinitions_126 (by decide) (pc' := 129) rfl ?_
    refine jW.aload_n (dx_Mo_takeDefinitions 77 (e := (129, .aload_n 0, 1)) rfl) rfl rfl (pc' := 130) rfl ?_
    refine jW.mgi F hV f_Mo_takeDefinitions_130 (by decide) (pc' := 133) rfl ?_
    refine jW.callVe F (h (d + 0) _ hV) (dx_Mo_takeDefinitions 79 (e := (133, .invokevirtual 344, 3)) rfl) can_Mo_unescape jw_1255 jw_1257 hV.cl rfl sel_Mo_unescape rfl rfl (Nat.le_of_ble_eq_true rfl) (pc' := 136) rfl (fun r σ hr => ?_)
    clear hV
    refine mQ.up hr.1 ?_
    obtain ⟨_, hV, _, rfl, h⟩ := hr.2
    refine jW.msa F hV (dx_Mo_takeDefinitions 80 (e := (136, .iastore, 1)) rfl) (by decide) rfl h.1 (pc' := 137) rfl (fun σ hV => ?_)
    replace h := h.2 _ rfl
    refine jW.aload_n (dx_Mo_takeDefinitions 81 (e := (137, .aload_n 0, 1)) rfl) rfl rfl (pc' := 138) rfl ?_
    refine jW.mga F hV f_Mo_takeDefinitions_138 (by decide) (pc' := 141) rfl ?_
    refine jW.iload (dx_Mo_takeDefinitions 83 (e := (141, .iload 7, 2)) rfl) rfl (pc' := 143) rfl ?_
    refine jW.aload_n (dx_Mo_takeDefinitions 84 (e := (143, .aload_n 0, 1)) rfl) rfl rfl (pc' := 144) rfl ?_
    refine jW.mgi F hV f_Mo_takeDefinitions_144 (by decide) (pc' := 147) rfl ?_
    refine jW.msa F hV (dx_Mo_takeDefinitions 86 (e := (147, .iastore, 1)) rfl) (by decide) rfl h.1 (pc' := 148) rfl (fun σ hV => ?_)
    replace h := h.2 _ rfl
    refine jW.aload_n (dx_Mo_takeDefinitions 87 (e := (148, .aload_n 0, 1)) rfl) rfl rfl (pc' := 149) rfl ?_
    refine jW.mga F hV f_Mo_takeDefinitions_149 (by decide) (pc' := 152) rfl ?_
    refine jW.iload (dx_Mo_takeDefinitions 89 (e := (152, .iload 7, 2)) rfl) rfl (pc' := 154) rfl ?_
    refine jW.aload_n (dx_Mo_takeDefinitions 90 (e := (154, .aload_n 0, 1)) rfl) rfl rfl (pc' := 155) rfl ?_
    refine jW.mgi F hV f_Mo_takeDefinitions_155 (by decide) (pc' := 158) rfl ?_
    refine jW.if_ne (dx_Mo_takeDefinitions 92 (e := (158, .ifCond .ne 7, 3)) rfl) 165 (by decide) (pc' := 161) rfl (fun c => ?_) (fun c => ?_)
    · replace h := h.2 c
      refine jW.aload_n (dx_Mo_takeDefinitions 95 (e := (165, .aload_n 0, 1)) rfl) rfl rfl (pc' := 166) rfl ?_
      refine jW.aload_n (dx_Mo_takeDefinitions 96 (e := (166, .aload_n 0, 1)) rfl) rfl rfl (pc' := 167) rfl ?_
      refine jW.mgi F hV f_Mo_takeDefinitions_167 (by decide) (pc' := 170) rfl ?_
      refine jW.aload_n (dx_Mo_takeDefinitions 98 (e := (170, .aload_n 0, 1)) rfl) rfl rfl (pc' := 171) rfl ?_
      refine jW.mgi F hV f_Mo_takeDefinitions_171 (by decide) (pc' := 174) rfl ?_
      refine jW.callVe F (h (d + 0) _ hV) (dx_Mo_takeDefinitions 100 (e := (174, .invokevirtual 344, 3)) rfl) can_Mo_unescape jw_1255 jw_1257 hV.cl rfl sel_Mo_unescape rfl rfl (Nat.le_of_ble_eq_true rfl) (pc' := 177) rfl (fun r σ hr => ?_)
      clear hV
      refine mQ.up hr.1 ?_
      obtain ⟨_, hV, _, rfl, h⟩ := hr.2
      exact t_Mo_takeDefinitions_177 F hV h hK2
    · replace h := h.1 c
      refine jW.iconst (v := 0) (dx_Mo_takeDefinitions 93 (e := (161, .iconst 0, 1)) rfl) (by decide) (pc' := 162) rfl ?_
      refine jW.goto (dx_Mo_takeDefinitions 94 (e := (162, .goto 15, 3)) rfl) 177 (by decide) ?_
      exact t_Mo_takeDefinitions_177 F hV h hK2
  · replace h := h.1 c
    refine jW.goto (dx_Mo_takeDefinitions 34 (e := (56, .goto (-54), 3)) rfl) 2 (by decide) ?_
    exact hK2 _ _ _ _ _ _ _ _ _ hV h
def w_Mo_takeDefinitions_2 (X : MX) (x1 x2 : Int32) (m : MS) (Φ : Option Value → MS → Prop) (K2 : Int32 → Int32 → MS → Prop) : Prop := ((x2 = 0 → w_Mo_takeDefinitions_237 X (x1) (x2) m Φ) ∧ (¬ x2 = 0 → (vp_in (x1) 3300 ∧ ((m.2 19 (x1 : Int32).toNatClampNeg ≤ 0 → w_Mo_takeDefinitions_237 X (x1) (x2) m Φ) ∧ (¬ m.2 19 (x1 : Int32).toNatClampNeg ≤ 0 → (vp_in (x1) 3300 ∧ (vp_in (x1) 3300 ∧ mE X 2 y_Mo_definitionEnd [.ref (mo X), .int (m.2 18 (x1 : Int32).toNatClampNeg), .int ((m.2 18 (x1 : Int32).toNatClampNeg) + (m.2 19 (x1 : Int32).toNatClampNeg))] m (iP fun r1 m1 => ((r1 < 0 → w_Mo_takeDefinitions_51 X (x1) (x2) (m.2 18 (x1 : Int32).toNatClampNeg) ((m.2 18 (x1 : Int32).toNatClampNeg) + (m.2 19 (x1 : Int32).toNatClampNeg)) (r1) (0) m1 Φ K2) ∧ (¬ r1 < 0 → w_Mo_takeDefinitions_51 X (x1) (x2) (m.2 18 (x1 : Int32).toNatClampNeg) ((m.2 18 (x1 : Int32).toNatClampNeg) + (m.2 19 (x1 : Int32).toNatClampNeg)) (r1) (1) m1 Φ K2))))))))))
theorem t_Mo_takeDefinitions_2 {X : MX} {a0 : Array Value} (F : mF X a0) {d : Nat} {x1 x2 : Int32} {o3 o4 o5 o6 o7 : Option Value} {m : MS} {σ : jS} {Φ : Option Value → MS → Prop} {K2 : Int32 → Int32 → MS → Prop} (hV : MV X m σ) (h : w_Mo_takeDefinitions_2 X x1 x2 m Φ K2) (hK2 : ∀ (x1 x2 : Int32) (o3 o4 o5 o6 o7 : Option Value) (m : MS) (σ : jS), MV X m σ → K2 x1 x2 m → jW X.1 X.2.1 jcl X.2.2.1 X.2.2.2.1 (d + 4) y_Mo_takeDefinitions 2 [some (.ref (mo X)), some (.int x1), some (.int x2), o3, o4, o5, o6, o7] [] σ (mQ X Φ σ)) : jW X.1 X.2.1 jcl X.2.2.1 X.2.2.2.1 (d + 4) y_Mo_takeDefinitions 2 [some (.ref (mo X)), some (.int x1), some (.int x2), o3, o4, o5, o6, o7] [] σ (mQ X Φ σ) := by
  unfold w_Mo_takeDefinitions_2 at h
  refine jW.iload_n (dx_Mo_takeDefinitions 2 (e := (2, .iload_n 2, 1)) rfl) rfl rfl (pc' := 3) rfl ?_
  refine jW.if_eq (dx_Mo_takeDefinitions 3 (e := (3, .ifCond .eq 234, 3)) rfl) 237 (by decide) (pc' := 6) rfl (fun c => ?_) (fun c => ?_)
  · replace h := h.1 c
    exact t_Mo_takeDefinitions_237 F hV h
  · replace h := h.2 c
    refine jW.aload_n (dx_Mo_takeDefinitions 4 (e := (6, .aload_n 0, 1)) rfl) rfl rfl (pc' := 7) rfl ?_
    refine jW.mga F hV f_Mo_takeDefinitions_7 (by decide) (pc' := 10) rfl ?_
    refine jW.iload_n (dx_Mo_takeDefinitions 6 (e := (10, .iload_n 1, 1)) rfl) rfl rfl (pc' := 11) rfl ?_
    refine jW.mla F hV (dx_Mo_takeDefinitions 7 (e := (11, .iaload, 1)) rfl) (by decide) rfl h.1 (pc' := 12) rfl ?_
    replace h := h.2
    refine jW.if_le (dx_Mo_takeDefinitions 8 (e := (12, .ifCond .le 225, 3)) rfl) 237 (by decide) (pc' := 15) rfl (fun c => ?_) (fun c => ?_)
    · replace h := h.1 c
      exact t_Mo_takeDefinitions_237 F hV h
    · replace h := h.2 c
      refine jW.aload_n (dx_Mo_takeDefinitions 9 (e := (15, .aload_n 0, 1)) rfl) rfl rfl (pc' := 16) rfl ?_
      refine jW.mga F hV f_Mo_takeDefinitions_16 (by decide) (pc' := 19) rfl ?_
      refine jW.iload_n (dx_Mo_takeDefinitions 11 (e := (19, .iload_n 1, 1)) rfl) rfl rfl (pc' := 20) rfl ?_
      refine jW.mla F hV (dx_Mo_takeDefinitions 12 (e := (20, .iaload, 1)) rfl) (by decide) rfl h.1 (pc' := 21) rfl ?_
      replace h := h.2
      refine jW.istore_n (dx_Mo_takeDefinitions 13 (e := (21, .istore_n 3, 1)) rfl) rfl (by decide) rfl (pc' := 22) rfl ?_
      refine jW.iload_n (dx_Mo_takeDefinitions 14 (e := (22, .iload_n 3, 1)) rfl) rfl rfl (pc' := 23) rfl ?_
      refine jW.aload_n (dx_Mo_takeDefinitions 15 (e := (23, .aload_n 0, 1)) rfl) rfl rfl (pc' := 24) rfl ?_
      refine jW.mga F hV f_Mo_takeDefinitions_24 (by decide) (pc' := 27) rfl ?_
      refine jW.iload_n (dx_Mo_takeDefinitions 17 (e := (27, .iload_n 1, 1)) rfl) rfl rfl (pc' := 28) rfl ?_
      refine jW.mla F hV (dx_Mo_takeDefinitions 18 (e := (28, .iaload, 1)) rfl) (by decide) rfl h.1 (pc' := 29) rfl ?_
      replace h := h.2
      refine jW.iadd (dx_Mo_takeDefinitions 19 (e := (29, .iadd, 1)) rfl) (pc' := 30) rfl ?_
      refine jW.istore (dx_Mo_takeDefinitions 20 (e := (30, .istore 4, 2)) rfl) (by decide) rfl (pc' := 32) rfl ?_
      refine jW.aload_n (dx_Mo_takeDefinitions 21 (e := (32, .aload_n 0, 1)) rfl) rfl rfl (pc' := 33) rfl ?_
      refine jW.iload_n (dx_Mo_takeDefinitions 22 (e := (33, .iload_n 3, 1)) rfl) rfl rfl (pc' := 34) rfl ?_
      refine jW.iload (dx_Mo_takeDefinitions 23 (e := (34, .iload 4, 2)) rfl) rfl (pc' := 36) rfl ?_
      refine jW.callVe F (h (d + 1) _ hV) (dx_Mo_takeDefinitions 24 (e := (36, .invokevirtual 338, 3)) rfl) can_Mo_definitionEnd jw_1214 jw_1216 hV.cl rfl sel_Mo_definitionEnd rfl rfl (Nat.le_of_ble_eq_true rfl) (pc' := 39) rfl (fun r σ hr => ?_)
      clear hV
      refine mQ.up hr.1 ?_
      obtain ⟨_, hV, _, rfl, h⟩ := hr.2
      refine jW.istore (dx_Mo_takeDefinitions 25 (e := (39, .istore 5, 2)) rfl) (by decide) rfl (pc' := 41) rfl ?_
      refine jW.iload (dx_Mo_takeDefinitions 26 (e := (41, .iload 5, 2)) rfl) rfl (pc' := 43) rfl ?_
      refine jW.if_lt (dx_Mo_takeDefinitions 27 (e := (43, .ifCond .lt 7, 3)) rfl) 50 (by decide) (pc' := 46) rfl (fun c => ?_) (fun c => ?_)
      · replace h := h.1 c
        refine jW.iconst (v := 0) (dx_Mo_takeDefinitions 30 (e := (50, .iconst 0, 1)) rfl) (by decide) (pc' := 51) rfl ?_
        exact t_Mo_takeDefinitions_51 F hV h hK2
      · replace h := h.2 c
        refine jW.iconst (v := 1) (dx_Mo_takeDefinitions 28 (e := (46, .iconst 1, 1)) rfl) (by decide) (pc' := 47) rfl ?_
        refine jW.goto (dx_Mo_takeDefinitions 29 (e := (47, .goto 4, 3)) rfl) 51 (by decide) ?_
        exact t_Mo_takeDefinitions_51 F hV h hK2
def w_Mo_takeDefinitions_0 (X : MX) (x1 : Int32) (m : MS) (Φ : Option Value → MS → Prop) (K2 : Int32 → Int32 → MS → Prop) : Prop := K2 (x1) (1) m
theorem t_Mo_takeDefinitions_0 {X : MX} {a0 : Array Value} (F : mF X a0) {d : Nat} {x1 : Int32} {o2 o3 o4 o5 o6 o7 : Option Value} {m : MS} {σ : jS} {Φ : Option Value → MS → Prop} {K2 : Int32 → Int32 → MS → Prop} (hV : MV X m σ) (h : w_Mo_takeDefinitions_0 X x1 m Φ K2) (hK2 : ∀ (x1 x2 : Int32) (o3 o4 o5 o6 o7 : Option Value) (m : MS) (σ : jS), MV X m σ → K2 x1 x2 m → jW X.1 X.2.1 jcl X.2.2.1 X.2.2.2.1 (d + 4) y_Mo_takeDefinitions 2 [some (.ref (mo X)), some (.int x1), some (.int x2), o3, o4, o5, o6, o7] [] σ (mQ X Φ σ)) : jW X.1 X.2.1 jcl X.2.2.1 X.2.2.2.1 (d + 4) y_Mo_takeDefinitions 0 [some (.ref (mo X)), some (.int x1), o2, o3, o4, o5, o6, o7] [] σ (mQ X Φ σ) := by
  unfold w_Mo_takeDefinitions_0 at h
  refine jW.iconst (v := 1) (dx_Mo_takeDefinitions 0 (e := (0, .iconst 1, 1)) rfl) (by decide) (pc' := 1) rfl ?_
  refine jW.istore_n (dx_Mo_takeDefinitions 1 (e := (1, .istore_n 2, 1)) rfl) rfl (by decide) rfl (pc' := 2) rfl ?_
  exact hK2 _ _ _ _ _ _ _ _ _ hV h
theorem g_Mo_takeDefinitions {X : MX} {a0 : Array Value} (F : mF X a0) {x1 : Int32} {m : MS} {Φ : Option Value → MS → Prop} {I2 : Nat → Int32 → Int32 → MS → Prop} (he : w_Mo_takeDefinitions_0 X x1 m Φ (fun x1 x2 m => ∃ j, I2 j x1 x2 m)) (h2 : ∀ (n : Nat) (x1 x2 : Int32) (m : MS), I2 n x1 x2 m → w_Mo_takeDefinitions_2 X x1 x2 m Φ (fun x1 x2 m => ∃ j, j < n ∧ I2 j x1 x2 m)) : mE X 4 y_Mo_takeDefinitions [.ref (mo X), .int x1] m Φ := by
  intro d σ hV
  have hL2 : ∀ n, (∀ (x1 x2 : Int32) (o3 o4 o5 o6 o7 : Option Value) (m : MS) (σ : jS), MV X m σ → I2 n x1 x2 m → jW X.1 X.2.1 jcl X.2.2.1 X.2.2.2.1 (d + 4) y_Mo_takeDefinitions 2 [some (.ref (mo X)), some (.int x1), some (.int x2), o3, o4, o5, o6, o7] [] σ (mQ X Φ σ)) := by
    intro n
    induction n using Nat.strongRecOn with
    | _ n ih =>
      exact fun x1 x2 o3 o4 o5 o6 o7 m σ hV hI => t_Mo_takeDefinitions_2 F hV (h2 n x1 x2 m hI) (fun x1 x2 o3 o4 o5 o6 o7 m σ hV ⟨j, hj, hI⟩ => (ih j hj) x1 x2 o3 o4 o5 o6 o7 m σ hV hI)
  refine jE.of (by decide) (by simp [Value.category]) (Nat.le_of_ble_eq_true rfl) rfl ?_
  exact t_Mo_takeDefinitions_0 F hV he (fun x1 x2 o3 o4 o5 o6 o7 m σ hV ⟨j, hI⟩ => (hL2 j) x1 x2 o3 o4 o5 o6 o7 m σ hV hI)
def w_Mo_definitionEnd_27 (X : MX) (x1 x2 x3 : Int32) (m : MS) (Φ : Option Value → MS → Prop) : Prop := Φ (some (.int (-1))) m
theorem t_Mo_definitionEnd_27 {X : MX} {a0 : Array Value} (F : mF X a0) {d : Nat} {x1 x2 x3 : Int32} {o4 o5 o6 o7 : Option Value} {m : MS} {σ : jS} {Φ : Option Value → MS → Prop} (hV : MV X m σ) (h : w_Mo_definitionEnd_27 X x1 x2 x3 m Φ) : jW X.1 X.2.1 jcl X.2.2.1 X.2.2.2.1 (d + 2) y_Mo_definitionEnd 27 [some (.ref (mo X)), some (.int x1), some (.int x2), some (.int x3), o4, o5, o6, o7] [] σ (mQ X Φ σ) := by
  unfold w_Mo_definitionEnd_27 at h
  refine jW.iconst (v := -1) (dx_Mo_definitionEnd 16 (e := (27, .iconst (-1), 1)) rfl) (by decide) (pc' := 28) rfl ?_
  exact jW.iret (dx_Mo_definitionEnd 17 (e := (28, .ireturn, 1)) rfl) rfl ⟨FR.rfl, _, hV, h⟩
def w_Mo_definitionEnd_129 (X : MX) (x1 x2 x3 x4 x5 x6 x7 s0 : Int32) (m : MS) (Φ : Option Value → MS → Prop) : Prop := Φ (some (.int (s0))) m
theorem t_Mo_definitionEnd_129 {X : MX} {a0 : Array Value} (F : mF X a0) {d : Nat} {x1 x2 x3 x4 x5 x6 x7 s0 : Int32} {m : MS} {σ : jS} {Φ : Option Value → MS → Prop} (hV : MV X m σ) (h : w_Mo_definitionEnd_129 X x1 x2 x3 x4 x5 x6 x7 s0 m Φ) : jW X.1 X.2.1 jcl X.2.2.1 X.2.2.2.1 (d + 2) y_Mo_definitionEnd 129 [some (.ref (mo X)), some (.int x1), some (.int x2), some (.int x3), some (.int x4), some (.int x5), some (.int x6), some (.int x7)] [.int s0] σ (mQ X Φ σ) := by
  unfold w_Mo_definitionEnd_129 at h
  exact jW.iret (dx_Mo_definitionEnd 74 (e := (129, .ireturn, 1)) rfl) rfl ⟨FR.rfl, _, hV, h⟩
def w_Mo_definitionEnd_117 (X : MX) (x1 x2 x3 x4 x5 x6 x7 : Int32) (m : MS) (Φ : Option Value → MS → Prop) : Prop := ((x7 < 0 → w_Mo_definitionEnd_129 X (x1) (x2) (x3) (x4) (x5) (x6) (x7) (x4) m Φ) ∧ (¬ x7 < 0 → w_Mo_definitionEnd_129 X (x1) (x2) (x3) (x4) (x5) (x6) (x7) (x7) m Φ))
theorem t_Mo_definitionEnd_117 {X : MX} {a0 : Array Value} (F : mF X a0) {d : Nat} {x1 x2 x3 x4 x5 x6 x7 : Int32} {m : MS} {σ : jS} {Φ : Option Value → MS → Prop} (hV : MV X m σ) (h : w_Mo_definitionEnd_117 X x1 x2 x3 x4 x5 x6 x7 m Φ) : jW X.1 X.2.1 jcl X.2.2.1 X.2.2.2.1 (d + 2) y_Mo_definitionEnd 117 [some (.ref (mo X)), some (.int x1), some (.int x2), some (.int x3), some (.int x4), some (.int x5), some (.int x6), some (.int x7)] [] σ (mQ X Φ σ) := by
  unfold w_Mo_definitionEnd_117 at h
  refine jW.iload (dx_Mo_definitionEnd 69 (e := (117, .iload 7, 2)) rfl) rfl (pc' := 119) rfl ?_
  refine jW.if_lt (dx_Mo_definitionEnd 70 (e := (119, .ifCond .lt 8, 3)) rfl) 127 (by decide) (pc' := 122) rfl (fun c => ?_) (fun c => ?_)
  · replace h := h.1 c
    refine jW.iload (dx_Mo_definitionEnd 73 (e := (127, .iload 4, 2)) rfl) rfl (pc' := 129) rfl ?_
    exact t_Mo_definitionEnd_129 F hV h
  · replace h := h.2 c
    refine jW.iload (dx_Mo_definitionEnd 71 (e := (122, .iload 7, 2)) rfl) rfl (pc' := 124) rfl ?_
    refine jW.goto (dx_Mo_definitionEnd 72 (e := (124, .goto 5, 3)) rfl) 129 (by decide) ?_
    exact t_Mo_definitionEnd_129 F hV h
def w_Mo_definitionEnd_105 (X : MX) (x1 x2 x3 x4 x5 x6 s0 : Int32) (m : MS) (Φ : Option Value → MS → Prop) : Prop := ((0 ≤ s0 → w_Mo_definitionEnd_117 X (x1) (x2) (x3) (x4) (x5) (x6) (s0) m Φ) ∧ (¬ 0 ≤ s0 → ∀ m1, m1 = mI m 50 (0) → w_Mo_definitionEnd_117 X (x1) (x2) (x3) (x4) (x5) (x6) (s0) m1 Φ))
theorem t_Mo_definitionEnd_105 {X : MX} {a0 : Array Value} (F : mF X a0) {d : Nat} {x1 x2 x3 x4 x5 x6 s0 : Int32} {o7 : Option Value} {m : MS} {σ : jS} {Φ : Option Value → MS → Prop} (hV : MV X m σ) (h : w_Mo_definitionEnd_105 X x1 x2 x3 x4 x5 x6 s0 m Φ) : jW X.1 X.2.1 jcl X.2.2.1 X.2.2.2.1 (d + 2) y_Mo_definitionEnd 105 [some (.ref (mo X)), some (.int x1), some (.int x2), some (.int x3), some (.int x4), some (.int x5), some (.int x6), o7] [.int s0] σ (mQ X Φ σ) := by
  unfold w_Mo_definitionEnd_105 at h
  refine jW.istore (dx_Mo_definitionEnd 63 (e := (105, .istore 7, 2)) rfl) (by decide) rfl (pc' := 107) rfl ?_
  refine jW.iload (dx_Mo_definitionEnd 64 (e := (107, .iload 7, 2)) rfl) rfl (pc' := 109) rfl ?_
  refine jW.if_ge (dx_Mo_definitionEnd 65 (e := (109, .ifCond .ge 8, 3)) rfl) 117 (by decide) (pc' := 112) rfl (fun c => ?_) (fun c => ?_)
  · replace h := h.1 c
    exact t_Mo_definitionEnd_117 F hV h
  · replace h := h.2 c
    refine jW.aload_n (dx_Mo_definitionEnd 66 (e := (112, .aload_n 0, 1)) rfl) rfl rfl (pc' := 113) rfl ?_
    refine jW.iconst (v := 0) (dx_Mo_definitionEnd 67 (e := (113, .iconst 0, 1)) rfl) (by decide) (pc' := 114) rfl ?_
    refine jW.mpi F hV f_Mo_definitionEnd_114 (by decide) rfl rfl rfl (pc' := 117) rfl (fun σ hV => ?_)
    replace h := h _ rfl
    exact t_Mo_definitionEnd_117 F hV h
def w_Mo_definitionEnd_87 (X : MX) (x1 x2 x3 x4 x5 s0 : Int32) (m : MS) (Φ : Option Value → MS → Prop) : Prop := ((0 ≤ s0 → mE X 0 y_Mo_lineEnd [.ref (mo X), .int (s0), .int (x2)] m (iP fun r1 m1 => w_Mo_definitionEnd_105 X (x1) (x2) (x3) (x4) (x5) (s0) (r1) m1 Φ)) ∧ (¬ 0 ≤ s0 → w_Mo_definitionEnd_105 X (x1) (x2) (x3) (x4) (x5) (s0) (-1) m Φ))
theorem t_Mo_definitionEnd_87 {X : MX} {a0 : Array Value} (F : mF X a0) {d : Nat} {x1 x2 x3 x4 x5 s0 : Int32} {o6 o7 : Option Value} {m : MS} {σ : jS} {Φ : Option Value → MS → Prop} (hV : MV X m σ) (h : w_Mo_definitionEnd_87 X x1 x2 x3 x4 x5 s0 m Φ) : jW X.1 X.2.1 jcl X.2.2.1 X.2.2.2.1 (d + 2) y_Mo_definitionEnd 87 [some (.ref (mo X)), some (.int x1), some (.int x2), some (.int x3), some (.int x4), some (.int x5), o6, o7] [.int s0] σ (mQ X Φ σ) := by
  unfold w_Mo_definitionEnd_87 at h
  refine jW.istore (dx_Mo_definitionEnd 54 (e := (87, .istore 6, 2)) rfl) (by decide) rfl (pc' := 89) rfl ?_
  refine jW.iload (dx_Mo_definitionEnd 55 (e := (89, .iload 6, 2)) rfl) rfl (pc' := 91) rfl ?_
  refine jW.if_ge (dx_Mo_definitionEnd 56 (e := (91, .ifCond .ge 7, 3)) rfl) 98 (by decide) (pc' := 94) rfl (fun c => ?_) (fun c => ?_)
  · replace h := h.1 c
    refine jW.aload_n (dx_Mo_definitionEnd 59 (e := (98, .aload_n 0, 1)) rfl) rfl rfl (pc' := 99) rfl ?_
    refine jW.iload (dx_Mo_definitionEnd 60 (e := (99, .iload 6, 2)) rfl) rfl (pc' := 101) rfl ?_
    refine jW.iload_n (dx_Mo_definitionEnd 61 (e := (101, .iload_n 2, 1)) rfl) rfl rfl (pc' := 102) rfl ?_
    refine jW.callVe F (h (d + 1) _ hV) (dx_Mo_definitionEnd 62 (e := (102, .invokevirtual 328, 3)) rfl) can_Mo_lineEnd jw_1236 jw_1238 hV.cl rfl sel_Mo_lineEnd rfl rfl (Nat.le_of_ble_eq_true rfl) (pc' := 105) rfl (fun r σ hr => ?_)
    clear hV
    refine mQ.up hr.1 ?_
    obtain ⟨_, hV, _, rfl, h⟩ := hr.2
    exact t_Mo_definitionEnd_105 F hV h
  · replace h := h.2 c
    refine jW.iconst (v := -1) (dx_Mo_definitionEnd 57 (e := (94, .iconst (-1), 1)) rfl) (by decide) (pc' := 95) rfl ?_
    refine jW.goto (dx_Mo_definitionEnd 58 (e := (95, .goto 10, 3)) rfl) 105 (by decide) ?_
    exact t_Mo_definitionEnd_105 F hV h
def w_Mo_definitionEnd_0 (X : MX) (x1 x2 : Int32) (m : MS) (Φ : Option Value → MS → Prop) : Prop := mE X 1 y_Mo_labelEnd [.ref (mo X), .int (x1), .int (x2)] m (iP fun r1 m1 => ((r1 < 0 → w_Mo_definitionEnd_27 X (x1) (x2) (r1) m1 Φ) ∧ (¬ r1 < 0 → ((x2 ≤ r1 → w_Mo_definitionEnd_27 X (x1) (x2) (r1) m1 Φ) ∧ (¬ x2 ≤ r1 → (vp_in (r1) 48000 ∧ ((m1.2 7 (r1 : Int32).toNatClampNeg = 58 → mE X 0 y_Mo_gap [.ref (mo X), .int (r1 + 1), .int (x2)] m1 (iP fun r2 m2 => mE X 1 y_Mo_target [.ref (mo X), .int (r2), .int (x2)] m2 (iP fun r3 m3 => ((0 ≤ r3 → mE X 0 y_Mo_lineEnd [.ref (mo X), .int (r3), .int (x2)] m3 (iP fun r4 m4 => ∀ m5, m5 = mI m4 50 (0) → mE X 0 y_Mo_gap [.ref (mo X), .int (r3), .int (x2)] m5 (iP fun r6 m6 => ((r6 ≤ r3 → w_Mo_definitionEnd_87 X (x1) (x2) (r3) (r4) (r6) (-1) m6 Φ) ∧ (¬ r6 ≤ r3 → mE X 0 y_Mo_title [.ref (mo X), .int (r6), .int (x2)] m6 (iP fun r7 m7 => w_Mo_definitionEnd_87 X (x1) (x2) (r3) (r4) (r6) (r7) m7 Φ)))))) ∧ (¬ 0 ≤ r3 → Φ (some (.int (-1))) m3))))) ∧ (¬ m1.2 7 (r1 : Int32).toNatClampNeg = 58 → w_Mo_definitionEnd_27 X (x1) (x2) (r1) m1 Φ))))))))
theorem t_Mo_definitionEnd_0 {X : MX} {a0 : Array Value} (F : mF X a0) {d : Nat} {x1 x2 : Int32} {o3 o4 o5 o6 o7 : Option Value} {m : MS} {σ : jS} {Φ : Option Value → MS → Prop} (hV : MV X m σ) (h : w_Mo_definitionEnd_0 X x1 x2 m Φ) : jW X.1 X.2.1 jcl X.2.2.1 X.2.2.2.1 (d + 2) y_Mo_definitionEnd 0 [some (.ref (mo X)), some (.int x1), some (.int x2), o3, o4, o5, o6, o7] [] σ (mQ X Φ σ) := by
  unfold w_Mo_definitionEnd_0 at h
  refine jW.aload_n (dx_Mo_definitionEnd 0 (e := (0, .aload_n 0, 1)) rfl) rfl rfl (pc' := 1) rfl ?_
  refine jW.iload_n (dx_Mo_definitionEnd 1 (e := (1, .iload_n 1, 1)) rfl) rfl rfl (pc' := 2) rfl ?_
  refine jW.iload_n (dx_Mo_definitionEnd 2 (e := (2, .iload_n 2, 1)) rfl) rfl rfl (pc' := 3) rfl ?_
  refine jW.callVe F (h (d + 0) _ hV) (dx_Mo_definitionEnd 3 (e := (3, .invokevirtual 319, 3)) rfl) can_Mo_labelEnd jw_1218 jw_1220 hV.cl rfl sel_Mo_labelEnd rfl rfl (Nat.le_of_ble_eq_true rfl) (pc' := 6) rfl (fun r σ hr => ?_)
  clear hV
  refine mQ.up hr.1 ?_
  obtain ⟨_, hV, _, rfl, h⟩ := hr.2
  refine jW.istore_n (dx_Mo_definitionEnd 4 (e := (6, .istore_n 3, 1)) rfl) rfl (by decide) rfl (pc' := 7) rfl ?_
  refine jW.iload_n (dx_Mo_definitionEnd 5 (e := (7, .iload_n 3, 1)) rfl) rfl rfl (pc' := 8) rfl ?_
  refine jW.if_lt (dx_Mo_definitionEnd 6 (e := (8, .ifCond .lt 19, 3)) rfl) 27 (by decide) (pc' := 11) rfl (fun c => ?_) (fun c => ?_)
  · replace h := h.1 c
    exact t_Mo_definitionEnd_27 F hV h
  · replace h := h.2 c
    refine jW.iload_n (dx_Mo_definitionEnd 7 (e := (11, .iload_n 3, 1)) rfl) rfl rfl (pc' := 12) rfl ?_
    refine jW.iload_n (dx_Mo_definitionEnd 8 (e := (12, .iload_n 2, 1)) rfl) rfl rfl (pc' := 13) rfl ?_
    refine jW.icmp_ge (dx_Mo_definitionEnd 9 (e := (13, .if_icmp .ge 14, 3)) rfl) 27 (by decide) (pc' := 16) rfl (fun c => ?_) (fun c => ?_)
    · replace h := h.1 c
      exact t_Mo_definitionEnd_27 F hV h
    · replace h := h.2 c
      refine jW.aload_n (dx_Mo_definitionEnd 10 (e := (16, .aload_n 0, 1)) rfl) rfl rfl (pc' := 17) rfl ?_
      refine jW.mga F hV f_Mo_definitionEnd_17 (by decide) (pc' := 20) rfl ?_
      refine jW.iload_n (dx_Mo_definitionEnd 12 (e := (20, .iload_n 3, 1)) rfl) rfl rfl (pc' := 21) rfl ?_
      refine jW.mla F hV (dx_Mo_definitionEnd 13 (e := (21, .iaload, 1)) rfl) (by decide) rfl h.1 (pc' := 22) rfl ?_
      replace h := h.2
      refine jW.bipush (v := 58) (dx_Mo_definitionEnd 14 (e := (22, .bipush 58, 2)) rfl) (by decide) (pc' := 24) rfl ?_
      refine jW.icmp_eq (dx_Mo_definitionEnd 15 (e := (24, .if_icmp .eq 5, 3)) rfl) 29 (by decide) (pc' := 27) rfl (fun c => ?_) (fun c => ?_)
      · replace h := h.1 c
        refine jW.aload_n (dx_Mo_definitionEnd 18 (e := (29, .aload_n 0, 1)) rfl) rfl rfl (pc' := 30) rfl ?_
        refine jW.aload_n (dx_Mo_definitionEnd 19 (e := (30, .aload_n 0, 1)) rfl) rfl rfl (pc' := 31) rfl ?_
        refine jW.iload_n (dx_Mo_definitionEnd 20 (e := (31, .iload_n 3, 1)) rfl) rfl rfl (pc' := 32) rfl ?_
        refine jW.iconst (v := 1) (dx_Mo_definitionEnd 21 (e := (32, .iconst 1, 1)) rfl) (by decide) (pc' := 33) rfl ?_
        refine jW.iadd (dx_Mo_definitionEnd 22 (e := (33, .iadd, 1)) rfl) (pc' := 34) rfl ?_
        refine jW.iload_n (dx_Mo_definitionEnd 23 (e := (34, .iload_n 2, 1)) rfl) rfl rfl (pc' := 35) rfl ?_
        refine jW.callVe F (h (d + 1) _ hV) (dx_Mo_definitionEnd 24 (e := (35, .invokevirtual 322, 3)) rfl) can_Mo_gap jw_1225 jw_1227 hV.cl rfl sel_Mo_gap rfl rfl (Nat.le_of_ble_eq_true rfl) (pc' := 38) rfl (fun r σ hr => ?_)
        clear hV
        refine mQ.up hr.1 ?_
        obtain ⟨_, hV, _, rfl, h⟩ := hr.2
        refine jW.iload_n (dx_Mo_definitionEnd 25 (e := (38, .iload_n 2, 1)) rfl) rfl rfl (pc' := 39) rfl ?_
        refine jW.callVe F (h (d + 0) _ hV) (dx_Mo_definitionEnd 26 (e := (39, .invokevirtual 325, 3)) rfl) can_Mo_target jw_1229 jw_1231 hV.cl rfl sel_Mo_target rfl rfl (Nat.le_of_ble_eq_true rfl) (pc' := 42) rfl (fun r σ hr => ?_)
        clear hV
        refine mQ.up hr.1 ?_
        obtain ⟨_, hV, _, rfl, h⟩ := hr.2
        refine jW.istore_n (dx_Mo_definitionEnd 27 (e := (42, .istore_n 3, 1)) rfl) rfl (by decide) rfl (pc' := 43) rfl ?_
        refine jW.iload_n (dx_Mo_definitionEnd 28 (e := (43, .iload_n 3, 1)) rfl) rfl rfl (pc' := 44) rfl ?_
        refine jW.if_ge (dx_Mo_definitionEnd 29 (e := (44, .ifCond .ge 5, 3)) rfl) 49 (by decide) (pc' := 47) rfl (fun c => ?_) (fun c => ?_)
        · replace h := h.1 c
          refine jW.aload_n (dx_Mo_definitionEnd 32 (e := (49, .aload_n 0, 1)) rfl) rfl rfl (pc' := 50) rfl ?_
          refine jW.iload_n (dx_Mo_definitionEnd 33 (e := (50, .iload_n 3, 1)) rfl) rfl rfl (pc' := 51) rfl ?_
          refine jW.iload_n (dx_Mo_definitionEnd 34 (e := (51, .iload_n 2, 1)) rfl) rfl rfl (pc' := 52) rfl ?_
          refine jW.callVe F (h (d + 1) _ hV) (dx_Mo_definitionEnd 35 (e := (52, .invokevirtual 328, 3)) rfl) can_Mo_lineEnd jw_1236 jw_1238 hV.cl rfl sel_Mo_lineEnd rfl rfl (Nat.le_of_ble_eq_true rfl) (pc' := 55) rfl (fun r σ hr => ?_)
          clear hV
          refine mQ.up hr.1 ?_
          obtain ⟨_, hV, _, rfl, h⟩ := hr.2
          refine jW.istore (dx_Mo_definitionEnd 36 (e := (55, .istore 4, 2)) rfl) (by decide) rfl (pc' := 57) rfl ?_
          refine jW.aload_n (dx_Mo_definitionEnd 37 (e := (57, .aload_n 0, 1)) rfl) rfl rfl (pc' := 58) rfl ?_
          refine jW.iconst (v := 0) (dx_Mo_definitionEnd 38 (e := (58, .iconst 0, 1)) rfl) (by decide) (pc' := 59) rfl ?_
          refine jW.mpi F hV f_Mo_definitionEnd_59 (by decide) rfl rfl rfl (pc' := 62) rfl (fun σ hV => ?_)
          replace h := h _ rfl
          refine jW.aload_n (dx_Mo_definitionEnd 40 (e := (62, .aload_n 0, 1)) rfl) rfl rfl (pc' := 63) rfl ?_
          refine jW.iload_n (dx_Mo_definitionEnd 41 (e := (63, .iload_n 3, 1)) rfl) rfl rfl (pc' := 64) rfl ?_
          refine jW.iload_n (dx_Mo_definitionEnd 42 (e := (64, .iload_n 2, 1)) rfl) rfl rfl (pc' := 65) rfl ?_
          refine jW.callVe F (h (d + 1) _ hV) (dx_Mo_definitionEnd 43 (e := (65, .invokevirtual 322, 3)) rfl) can_Mo_gap jw_1225 jw_1227 hV.cl rfl sel_Mo_gap rfl rfl (Nat.le_of_ble_eq_true rfl) (pc' := 68) rfl (fun r σ hr => ?_)
          clear hV
          refine mQ.up hr.1 ?_
          obtain ⟨_, hV, _, rfl, h⟩ := hr.2
          refine jW.istore (dx_Mo_definitionEnd 44 (e := (68, .istore 5, 2)) rfl) (by decide) rfl (pc' := 70) rfl ?_
          refine jW.iload (dx_Mo_definitionEnd 45 (e := (70, .iload 5, 2)) rfl) rfl (pc' := 72) rfl ?_
          refine jW.iload_n (dx_Mo_definitionEnd 46 (e := (72, .iload_n 3, 1)) rfl) rfl rfl (pc' := 73) rfl ?_
          refine jW.icmp_le (dx_Mo_definitionEnd 47 (e := (73, .if_icmp .le 13, 3)) rfl) 86 (by decide) (pc' := 76) rfl (fun c => ?_) (fun c => ?_)
          · replace h := h.1 c
            refine jW.iconst (v := -1) (dx_Mo_definitionEnd 53 (e := (86, .iconst (-1), 1)) rfl) (by decide) (pc' := 87) rfl ?_
            exact t_Mo_definitionEnd_87 F hV h
          · replace h := h.2 c
            refine jW.aload_n (dx_Mo_definitionEnd 48 (e := (76, .aload_n 0, 1)) rfl) rfl rfl (pc' := 77) rfl ?_
            refine jW.iload (dx_Mo_definitionEnd 49 (e := (77, .iload 5, 2)) rfl) rfl (pc' := 79) rfl ?_
            refine jW.iload_n (dx_Mo_definitionEnd 50 (e := (79, .iload_n 2, 1)) rfl) rfl rfl (pc' := 80) rfl ?_
            refine jW.callVe F (h (d + 1) _ hV) (dx_Mo_definitionEnd 51 (e := (80, .invokevirtual 331, 3)) rfl) can_Mo_title jw_1240 jw_1242 hV.cl rfl sel_Mo_title rfl rfl (Nat.le_of_ble_eq_true rfl) (pc' := 83) rfl (fun r σ hr => ?_)
            clear hV
            refine mQ.up hr.1 ?_
            obtain ⟨_, hV, _, rfl, h⟩ := hr.2
            refine jW.goto (dx_Mo_definitionEnd 52 (e := (83, .goto 4, 3)) rfl) 87 (by decide) ?_
            exact t_Mo_definitionEnd_87 F hV h
        · replace h := h.2 c
          refine jW.iconst (v := -1) (dx_Mo_definitionEnd 30 (e := (47, .iconst (-1), 1)) rfl) (by decide) (pc' := 48) rfl ?_
          exact jW.iret (dx_Mo_definitionEnd 31 (e := (48, .ireturn, 1)) rfl) rfl ⟨FR.rfl, _, hV, h⟩
      · replace h := h.2 c
        exact t_Mo_definitionEnd_27 F hV h
theorem g_Mo_definitionEnd {X : MX} {a0 : Array Value} (F : mF X a0) {x1 x2 : Int32} {m : MS} {Φ : Option Value → MS → Prop} (he : w_Mo_definitionEnd_0 X x1 x2 m Φ) : mE X 2 y_Mo_definitionEnd [.ref (mo X), .int x1, .int x2] m Φ := by
  intro d σ hV
  refine jE.of (by decide) (by simp [Value.category]) (Nat.le_of_ble_eq_true rfl) rfl ?_
  exact t_Mo_definitionEnd_0 F hV he
def w_Mo_labelEnd_16 (X : MX) (x1 x2 : Int32) (m : MS) (Φ : Option Value → MS → Prop) : Prop := Φ (some (.int (-1))) m
theorem t_Mo_labelEnd_16 {X : MX} {a0 : Array Value} (F : mF X a0) {d : Nat} {x1 x2 : Int32} {o3 o4 : Option Value} {m : MS} {σ : jS} {Φ : Option Value → MS → Prop} (hV : MV X m σ) (h : w_Mo_labelEnd_16 X x1 x2 m Φ) : jW X.1 X.2.1 jcl X.2.2.1 X.2.2.2.1 (d + 1) y_Mo_labelEnd 16 [some (.ref (mo X)), some (.int x1), some (.int x2), o3, o4] [] σ (mQ X Φ σ) := by
  unfold w_Mo_labelEnd_16 at h
  refine jW.iconst (v := -1) (dx_Mo_labelEnd 9 (e := (16, .iconst (-1), 1)) rfl) (by decide) (pc' := 17) rfl ?_
  exact jW.iret (dx_Mo_labelEnd 10 (e := (17, .ireturn, 1)) rfl) rfl ⟨FR.rfl, _, hV, h⟩
def w_Mo_labelEnd_144 (X : MX) (x1 x2 x3 x4 s0 : Int32) (m : MS) (Φ : Option Value → MS → Prop) : Prop := Φ (some (.int (s0))) m
theorem t_Mo_labelEnd_144 {X : MX} {a0 : Array Value} (F : mF X a0) {d : Nat} {x1 x2 x3 x4 s0 : Int32} {m : MS} {σ : jS} {Φ : Option Value → MS → Prop} (hV : MV X m σ) (h : w_Mo_labelEnd_144 X x1 x2 x3 x4 s0 m Φ) : jW X.1 X.2.1 jcl X.2.2.1 X.2.2.2.1 (d + 1) y_Mo_labelEnd 144 [some (.ref (mo X)), some (.int x1), some (.int x2), some (.int x3), some (.int x4)] [.int s0] σ (mQ X Φ σ) := by
  unfold w_Mo_labelEnd_144 at h
  exact jW.iret (dx_Mo_labelEnd 83 (e := (144, .ireturn, 1)) rfl) rfl ⟨FR.rfl, _, hV, h⟩
def w_Mo_labelEnd_143 (X : MX) (x1 x2 x3 x4 : Int32) (m : MS) (Φ : Option Value → MS → Prop) : Prop := w_Mo_labelEnd_144 X (x1) (x2) (x3) (x4) (-1) m Φ
theorem t_Mo_labelEnd_143 {X : MX} {a0 : Array Value} (F : mF X a0) {d : Nat} {x1 x2 x3 x4 : Int32} {m : MS} {σ : jS} {Φ : Option Value → MS → Prop} (hV : MV X m σ) (h : w_Mo_labelEnd_143 X x1 x2 x3 x4 m Φ) : jW X.1 X.2.1 jcl X.2.2.1 X.2.2.2.1 (d + 1) y_Mo_labelEnd 143 [some (.ref (mo X)), some (.int x1), some (.int x2), some (.int x3), some (.int x4)] [] σ (mQ X Φ σ) := by
  unfold w_Mo_labelEnd_143 at h
  refine jW.iconst (v := -1) (dx_Mo_labelEnd 82 (e := (143, .iconst (-1), 1)) rfl) (by decide) (pc' := 144) rfl ?_
  exact t_Mo_labelEnd_144 F hV h
def w_Mo_labelEnd_106 (X : MX) (x1 x2 x3 x4 : Int32) (m : MS) (Φ : Option Value → MS → Prop) : Prop := ((x2 ≤ x3 → w_Mo_labelEnd_143 X (x1) (x2) (x3) (x4) m Φ) ∧ (¬ x2 ≤ x3 → (vp_in (x3) 48000 ∧ ((m.2 7 (x3 : Int32).toNatClampNeg = 93 → ((x4 = 0 → w_Mo_labelEnd_143 X (x1) (x2) (x3) (x4) m Φ) ∧ (¬ x4 = 0 → ((100 < (x3 - x1) - 1 → w_Mo_labelEnd_143 X (x1) (x2) (x3) (x4) m Φ) ∧ (¬ 100 < (x3 - x1) - 1 → w_Mo_labelEnd_144 X (x1) (x2) (x3) (x4) (x3 + 1) m Φ))))) ∧ (¬ m.2 7 (x3 : Int32).toNatClampNeg = 93 → w_Mo_labelEnd_143 X (x1) (x2) (x3) (x4) m Φ)))))
theorem t_Mo_labelEnd_106 {X : MX} {a0 : Array Value} (F : mF X a0) {d : Nat} {x1 x2 x3 x4 : Int32} {m : MS} {σ : jS} {Φ : Option Value → MS → Prop} (hV : MV X m σ) (h : w_Mo_labelEnd_106 X x1 x2 x3 x4 m Φ) : jW X.1 X.2.1 jcl X.2.2.1 X.2.2.2.1 (d + 1) y_Mo_labelEnd 106 [some (.ref (mo X)), some (.int x1), some (.int x2), some (.int x3), some (.int x4)] [] σ (mQ X Φ σ) := by
  unfold w_Mo_labelEnd_106 at h
  refine jW.iload_n (dx_Mo_labelEnd 60 (e := (106, .iload_n 3, 1)) rfl) rfl rfl (pc' := 107) rfl ?_
  refine jW.iload_n (dx_Mo_labelEnd 61 (e := (107, .iload_n 2, 1)) rfl) rfl rfl (pc' := 108) rfl ?_
  refine jW.icmp_ge (dx_Mo_labelEnd 62 (e := (108, .if_icmp .ge 35, 3)) rfl) 143 (by decide) (pc' := 111) rfl (fun c => ?_) (fun c => ?_)
  · replace h := h.1 c
    exact t_Mo_labelEnd_143 F hV h
  · replace h := h.2 c
    refine jW.aload_n (dx_Mo_labelEnd 63 (e := (111, .aload_n 0, 1)) rfl) rfl rfl (pc' := 112) rfl ?_
    refine jW.mga F hV f_Mo_labelEnd_112 (by decide) (pc' := 115) rfl ?_
    refine jW.iload_n (dx_Mo_labelEnd 65 (e := (115, .iload_n 3, 1)) rfl) rfl rfl (pc' := 116) rfl ?_
    refine jW.mla F hV (dx_Mo_labelEnd 66 (e := (116, .iaload, 1)) rfl) (by decide) rfl h.1 (pc' := 117) rfl ?_
    replace h := h.2
    refine jW.bipush (v := 93) (dx_Mo_labelEnd 67 (e := (117, .bipush 93, 2)) rfl) (by decide) (pc' := 119) rfl ?_
    refine jW.icmp_ne (dx_Mo_labelEnd 68 (e := (119, .if_icmp .ne 24, 3)) rfl) 143 (by decide) (pc' := 122) rfl (fun c => ?_) (fun c => ?_)
    · replace h := h.2 c
      exact t_Mo_labelEnd_143 F hV h
    · replace h := h.1 c
      refine jW.iload (dx_Mo_labelEnd 69 (e := (122, .iload 4, 2)) rfl) rfl (pc' := 124) rfl ?_
      refine jW.if_eq (dx_Mo_labelEnd 70 (e := (124, .ifCond .eq 19, 3)) rfl) 143 (by decide) (pc' := 127) rfl (fun c => ?_) (fun c => ?_)
      · replace h := h.1 c
        exact t_Mo_labelEnd_143 F hV h
      · replace h := h.2 c
        refine jW.iload_n (dx_Mo_labelEnd 71 (e := (127, .iload_n 3, 1)) rfl) rfl rfl (pc' := 128) rfl ?_
        refine jW.iload_n (dx_Mo_labelEnd 72 (e := (128, .iload_n 1, 1)) rfl) rfl rfl (pc' := 129) rfl ?_
        refine jW.isub (dx_Mo_labelEnd 73 (e := (129, .isub, 1)) rfl) (pc' := 130) rfl ?_
        refine jW.iconst (v := 1) (dx_Mo_labelEnd 74 (e := (130, .iconst 1, 1)) rfl) (by decide) (pc' := 131) rfl ?_
        refine jW.isub (dx_Mo_labelEnd 75 (e := (131, .isub, 1)) rfl) (pc' := 132) rfl ?_
        refine jW.bipush (v := 100) (dx_Mo_labelEnd 76 (e := (132, .bipush 100, 2)) rfl) (by decide) (pc' := 134) rfl ?_
        refine jW.icmp_gt (dx_Mo_labelEnd 77 (e := (134, .if_icmp .gt 9, 3)) rfl) 143 (by decide) (pc' := 137) rfl (fun c => ?_) (fun c => ?_)
        · replace h := h.1 c
          exact t_Mo_labelEnd_143 F hV h
        · replace h := h.2 c
          refine jW.iload_n (dx_Mo_labelEnd 78 (e := (137, .iload_n 3, 1)) rfl) rfl rfl (pc' := 138) rfl ?_
          refine jW.iconst (v := 1) (dx_Mo_labelEnd 79 (e := (138, .iconst 1, 1)) rfl) (by decide) (pc' := 139) rfl ?_
          refine jW.iadd (dx_Mo_labelEnd 80 (e := (139, .iadd, 1)) rfl) (pc' := 140) rfl ?_
          refine jW.goto (dx_Mo_labelEnd 81 (e := (140, .goto 4, 3)) rfl) 144 (by decide) ?_
          exact t_Mo_labelEnd_144 F hV h
def w_Mo_labelEnd_100 (X : MX) (x1 x2 x3 x4 : Int32) (m : MS) (Φ : Option Value → MS → Prop) (K25 : Int32 → Int32 → Int32 → Int32 → MS → Prop) : Prop := K25 (x1) (x2) (x3 + 1) (x4) m
theorem t_Mo_labelEnd_100 {X : MX} {a0 : Array Value} (F : mF X a0) {d : Nat} {x1 x2 x3 x4 : Int32} {m : MS} {σ : jS} {Φ : Option Value → MS → Prop} {K25 : Int32 → Int32 → Int32 → Int32 → MS → Prop} (hV : MV X m σ) (h : w_Mo_labelEnd_100 X x1 x2 x3 x4 m Φ K25) (hK25 : ∀ (x1 x2 x3 x4 : Int32) (m : MS) (σ : jS), MV X m σ → K25 x1 x2 x3 x4 m → jW X.1 X.2.1 jcl X.2.2.1 X.2.2.2.1 (d + 1) y_Mo_labelEnd 25 [some (.ref (mo X)), some (.int x1), some (.int x2), some (.int x3), some (.int x4)] [] σ (mQ X Φ σ)) : jW X.1 X.2.1 jcl X.2.2.1 X.2.2.2.1 (d + 1) y_Mo_labelEnd 100 [some (.ref (mo X)), some (.int x1), some (.int x2), some (.int x3), some (.int x4)] [] σ (mQ X Φ σ) := by
  unfold w_Mo_labelEnd_100 at h
  refine jW.iinc (v := _ + (1)) (dx_Mo_labelEnd 58 (e := (100, .iinc 3 1, 3)) rfl) rfl rfl (by decide) rfl (pc' := 103) rfl ?_
  refine jW.goto (dx_Mo_labelEnd 59 (e := (103, .goto (-78), 3)) rfl) 25 (by decide) ?_
  exact hK25 _ _ _ _ _ _ hV h
def w_Mo_labelEnd_74 (X : MX) (x1 x2 x3 x4 s0 : Int32) (m : MS) (Φ : Option Value → MS → Prop) (K25 : Int32 → Int32 → Int32 → Int32 → MS → Prop) : Prop := (vp_in (x3) 48000 ∧ ((m.2 7 (x3 : Int32).toNatClampNeg = 92 → ((x2 ≤ x3 + 1 → w_Mo_labelEnd_100 X (x1) (x2) (x3) (s0) m Φ K25) ∧ (¬ x2 ≤ x3 + 1 → w_Mo_labelEnd_100 X (x1) (x2) (x3 + 1) (1) m Φ K25))) ∧ (¬ m.2 7 (x3 : Int32).toNatClampNeg = 92 → w_Mo_labelEnd_100 X (x1) (x2) (x3) (s0) m Φ K25)))
theorem t_Mo_labelEnd_74 {X : MX} {a0 : Array Value} (F : mF X a0) {d : Nat} {x1 x2 x3 x4 s0 : Int32} {m : MS} {σ : jS} {Φ : Option Value → MS → Prop} {K25 : Int32 → Int32 → Int32 → Int32 → MS → Prop} (hV : MV X m σ) (h : w_Mo_labelEnd_74 X x1 x2 x3 x4 s0 m Φ K25) (hK25 : ∀ (x1 x2 x3 x4 : Int32) (m : MS) (σ : jS), MV X m σ → K25 x1 x2 x3 x4 m → jW X.1 X.2.1 jcl X.2.2.1 X.2.2.2.1 (d + 1) y_Mo_labelEnd 25 [some (.ref (mo X)), some (.int x1), some (.int x2), some (.int x3), some (.int x4)] [] σ (mQ X Φ σ)) : jW X.1 X.2.1 jcl X.2.2.1 X.2.2.2.1 (d + 1) y_Mo_labelEnd 74 [some (.ref (mo X)), some (.int x1), some (.int x2), some (.int x3), some (.int x4)] [.int s0] σ (mQ X Φ σ) := by
  unfold w_Mo_labelEnd_74 at h
  refine jW.istore (dx_Mo_labelEnd 43 (e := (74, .istore 4, 2)) rfl) (by decide) rfl (pc' := 76) rfl ?_
  refine jW.aload_n (dx_Mo_labelEnd 44 (e := (76, .aload_n 0, 1)) rfl) rfl rfl (pc' := 77) rfl ?_
  refine jW.mga F hV f_Mo_labelEnd_77 (by decide) (pc' := 80) rfl ?_
  refine jW.iload_n (dx_Mo_labelEnd 46 (e := (80, .iload_n 3, 1)) rfl) rfl rfl (pc' := 81) rfl ?_
  refine jW.mla F hV (dx_Mo_labelEnd 47 (e := (81, .iaload, 1)) rfl) (by decide) rfl h.1 (pc' := 82) rfl ?_
  replace h := h.2
  refine jW.bipush (v := 92) (dx_Mo_labelEnd 48 (e := (82, .bipush 92, 2)) rfl) (by decide) (pc' := 84) rfl ?_
  refine jW.icmp_ne (dx_Mo_labelEnd 49 (e := (84, .if_icmp .ne 16, 3)) rfl) 100 (by decide) (pc' := 87) rfl (fun c => ?_) (fun c => ?_)
  · replace h := h.2 c
    exact t_Mo_labelEnd_100 F hV h hK25
  · replace h := h.1 c
    refine jW.iload_n (dx_Mo_labelEnd 50 (e := (87, .iload_n 3, 1)) rfl) rfl rfl (pc' := 88) rfl ?_
    refine jW.iconst (v := 1) (dx_Mo_labelEnd 51 (e := (88, .iconst 1, 1)) rfl) (by decide) (pc' := 89) rfl ?_
    refine jW.iadd (dx_Mo_labelEnd 52 (e := (89, .iadd, 1)) rfl) (pc' := 90) rfl ?_
    refine jW.iload_n (dx_Mo_labelEnd 53 (e := (90, .iload_n 2, 1)) rfl) rfl rfl (pc' := 91) rfl ?_
    refine jW.icmp_ge (dx_Mo_labelEnd 54 (e := (91, .if_icmp .ge 9, 3)) rfl) 100 (by decide) (pc' := 94) rfl (fun c => ?_) (fun c => ?_)
    · replace h := h.1 c
      exact t_Mo_labelEnd_100 F hV h hK25
    · replace h := h.2 c
      refine jW.iinc (v := _ + (1)) (dx_Mo_labelEnd 55 (e := (94, .iinc 3 1, 3)) rfl) rfl rfl (by decide) rfl (pc' := 97) rfl ?_
      refine jW.iconst (v := 1) (dx_Mo_labelEnd 56 (e := (97, .iconst 1, 1)) rfl) (by decide) (pc' := 98) rfl ?_
      refine jW.istore (dx_Mo_labelEnd 57 (e := (98, .istore 4, 2)) rfl) (by decide) rfl (pc' := 100) rfl ?_
      exact t_Mo_labelEnd_100 F hV h hK25
def w_Mo_labelEnd_69 (X : MX) (x1 x2 x3 x4 : Int32) (m : MS) (Φ : Option Value → MS → Prop) (K25 : Int32 → Int32 → Int32 → Int32 → MS → Prop) : Prop := w_Mo_labelEnd_74 X (x1) (x2) (x3) (x4) (1) m Φ K25
theorem t_Mo_labelEnd_69 {X : MX} {a0 : Array Value} (F : mF X a0) {d : Nat} {x1 x2 x3 x4 : Int32} {m : MS} {σ : jS} {Φ : Option Value → MS → Prop} {K25 : Int32 → Int32 → Int32 → Int32 → MS → Prop} (hV : MV X m σ) (h : w_Mo_labelEnd_69 X x1 x2 x3 x4 m Φ K25) (hK25 : ∀ (x1 x2 x3 x4 : Int32) (m : MS) (σ : jS), MV X m σ → K25 x1 x2 x3 x4 m → jW X.1 X.2.1 jcl X.2.2.1 X.2.2.2.1 (d + 1) y_Mo_labelEnd 25 [some (.ref (mo X)), some (.int x1), some (.int x2), some (.int x3), some (.int x4)] [] σ (mQ X Φ σ)) : jW X.1 X.2.1 jcl X.2.2.1 X.2.2.2.1 (d + 1) y_Mo_labelEnd 69 [some (.ref (mo X)), some (.int x1), some (.int x2), some (.int x3), some (.int x4)] [] σ (mQ X Φ σ) := by
  unfold w_Mo_labelEnd_69 at h
  refine jW.iconst (v := 1) (dx_Mo_labelEnd 40 (e := (69, .iconst 1, 1)) rfl) (by decide) (pc' := 70) rfl ?_
  refine jW.goto (dx_Mo_labelEnd 41 (e := (70, .goto 4, 3)) rfl) 74 (by decide) ?_
  exact t_Mo_labelEnd_74 F hV h hK25
def w_Mo_labelEnd_25 (X : MX) (x1 x2 x3 x4 : Int32) (m : MS) (Φ : Option Value → MS → Prop) (K25 : Int32 → Int32 → Int32 → Int32 → MS → Prop) : Prop := ((x2 ≤ x3 → w_Mo_labelEnd_106 X (x1) (x2) (x3) (x4) m Φ) ∧ (¬ x2 ≤ x3 → (vp_in (x3) 48000 ∧ ((m.2 7 (x3 : Int32).toNatClampNeg = 93 → w_Mo_labelEnd_106 X (x1) (x2) (x3) (x4) m Φ) ∧ (¬ m.2 7 (x3 : Int32).toNatClampNeg = 93 → (vp_in (x3) 48000 ∧ ((m.2 7 (x3 : Int32).toNatClampNeg = 91 → w_Mo_labelEnd_106 X (x1) (x2) (x3) (x4) m Φ) ∧ (¬ m.2 7 (x3 : Int32).toNatClampNeg = 91 → ((x4 = 0 → (vp_in (x3) 48000 ∧ mE X 0 y_Mo_isWhite [.int (m.2 7 (x3 : Int32).toNatClampNeg)] m (iP fun r1 m1 => ((r1 = 0 → w_Mo_labelEnd_69 X (x1) (x2) (x3) (x4) m1 Φ K25) ∧ (¬ r1 = 0 → w_Mo_labelEnd_74 X (x1) (x2) (x3) (x4) (0) m1 Φ K25))))) ∧ (¬ x4 = 0 → w_Mo_labelEnd_69 X (x1) (x2) (x3) (x4) m Φ K25))))))))))
theorem t_Mo_labelEnd_25 {X : MX} {a0 : Array Value} (F : mF X a0) {d : Nat} {x1 x2 x3 x4 : Int32} {m : MS} {σ : jS} {Φ : Option Value → MS → Prop} {K25 : Int32 → Int32 → Int32 → Int32 → MS → Prop} (hV : MV X m σ) (h : w_Mo_labelEnd_25 X x1 x2 x3 x4 m Φ K25) (hK25 : ∀ (x1 x2 x3 x4 : Int32) (m : MS) (σ : jS), MV X m σ → K25 x1 x2 x3 x4 m → jW X.1 X.2.1 jcl X.2.2.1 X.2.2.2.1 (d + 1) y_Mo_labelEnd 25 [some (.ref (mo X)), some (.int x1), some (.int x2), some (.int x3), some (.int x4)] [] σ (mQ X Φ σ)) : jW X.1 X.2.1 jcl X.2.2.1 X.2.2.2.1 (d + 1) y_Mo_labelEnd 25 [some (.ref (mo X)), some (.int x1), some (.int x2), some (.int x3), some (.int x4)] [] σ (mQ X Φ σ) := by
  unfold w_Mo_labelEnd_25 at h
  refine jW.iload_n (dx_Mo_labelEnd 17 (e := (25, .iload_n 3, 1)) rfl) rfl rfl (pc' := 26) rfl ?_
  refine jW.iload_n (dx_Mo_labelEnd 18 (e := (26, .iload_n 2, 1)) rfl) rfl rfl (pc' := 27) rfl ?_
  refine jW.icmp_ge (dx_Mo_labelEnd 19 (e := (27, .if_icmp .ge 79, 3)) rfl) 106 (by decide) (pc' := 30) rfl (fun c => ?_) (fun c => ?_)
  · replace h := h.1 c
    exact t_Mo_labelEnd_106 F hV h
  · replace h := h.2 c
    refine jW.aload_n (dx_Mo_labelEnd 20 (e := (30, .aload_n 0, 1)) rfl) rfl rfl (pc' := 31) rfl ?_
    refine jW.mga F hV f_Mo_labelEnd_31 (by decide) (pc' := 34) rfl ?_
    refine jW.iload_n (dx_Mo_labelEnd 22 (e := (34, .iload_n 3, 1)) rfl) rfl rfl (pc' := 35) rfl ?_
    refine jW.mla F hV (dx_Mo_labelEnd 23 (e := (35, .iaload, 1)) rfl) (by decide) rfl h.1 (pc' := 36) rfl ?_
    replace h := h.2
    refine jW.bipush (v := 93) (dx_Mo_labelEnd 24 (e := (36, .bipush 93, 2)) rfl) (by decide) (pc' := 38) rfl ?_
    refine jW.icmp_eq (dx_Mo_labelEnd 25 (e := (38, .if_icmp .eq 68, 3)) rfl) 106 (by decide) (pc' := 41) rfl (fun c => ?_) (fun c => ?_)
    · replace h := h.1 c
      exact t_Mo_labelEnd_106 F hV h
    · replace h := h.2 c
      refine jW.aload_n (dx_Mo_labelEnd 26 (e := (41, .aload_n 0, 1)) rfl) rfl rfl (pc' := 42) rfl ?_
      refine jW.mga F hV f_Mo_labelEnd_42 (by decide) (pc' := 45) rfl ?_
      refine jW.iload_n (dx_Mo_labelEnd 28 (e := (45, .iload_n 3, 1)) rfl) rfl rfl (pc' := 46) rfl ?_
      refine jW.mla F hV (dx_Mo_labelEnd 29 (e := (46, .iaload, 1)) rfl) (by decide) rfl h.1 (pc' := 47) rfl ?_
      replace h := h.2
      refine jW.bipush (v := 91) (dx_Mo_labelEnd 30 (e := (47, .bipush 91, 2)) rfl) (by decide) (pc' := 49) rfl ?_
      refine jW.icmp_eq (dx_Mo_labelEnd 31 (e := (49, .if_icmp .eq 57, 3)) rfl) 106 (by decide) (pc' := 52) rfl (fun c => ?_) (fun c => ?_)
      · replace h := h.1 c
        exact t_Mo_labelEnd_106 F hV h
      · replace h := h.2 c
        refine jW.iload (dx_Mo_labelEnd 32 (e := (52, .iload 4, 2)) rfl) rfl (pc' := 54) rfl ?_
        refine jW.if_ne (dx_Mo_labelEnd 33 (e := (54, .ifCond .ne 15, 3)) rfl) 69 (by decide) (pc' := 57) rfl (fun c => ?_) (fun c => ?_)
        · replace h := h.2 c
          exact t_Mo_labelEnd_69 F hV h hK25
        · replace h := h.1 c
          refine jW.aload_n (dx_Mo_labelEnd 34 (e := (57, .aload_n 0, 1)) rfl) rfl rfl (pc' := 58) rfl ?_
          refine jW.mga F hV f_Mo_labelEnd_58 (by decide) (pc' := 61) rfl ?_
          refine jW.iload_n (dx_Mo_labelEnd 36 (e := (61, .iload_n 3, 1)) rfl) rfl rfl (pc' := 62) rfl ?_
          refine jW.mla F hV (dx_Mo_labelEnd 37 (e := (62, .iaload, 1)) rfl) (by decide) rfl h.1 (pc' := 63) rfl ?_
          replace h := h.2
          refine jW.callS F (h (d + 0) _ hV) (dx_Mo_labelEnd 38 (e := (63, .invokestatic 279, 3)) rfl) can_Mo_isWhite jw_1222 jw_1223 rfl rfl (Nat.le_of_ble_eq_true rfl) (pc' := 66) rfl (fun r σ hr => ?_)
          clear hV
          refine mQ.up hr.1 ?_
          obtain ⟨_, hV, _, rfl, h⟩ := hr.2
          refine jW.if_ne (dx_Mo_labelEnd 39 (e := (66, .ifCond .ne 7, 3)) rfl) 73 (by decide) (pc' := 69) rfl (fun c => ?_) (fun c => ?_)
          · replace h := h.2 c
            refine jW.iconst (v := 0) (dx_Mo_labelEnd 42 (e := (73, .iconst 0, 1)) rfl) (by decide) (pc' := 74) rfl ?_
            exact t_Mo_labelEnd_74 F hV h hK25
          · replace h := h.1 c
            exact t_Mo_labelEnd_69 F hV h hK25
def w_Mo_labelEnd_0 (X : MX) (x1 x2 : Int32) (m : MS) (Φ : Option Value → MS → Prop) (K25 : Int32 → Int32 → Int32 → Int32 → MS → Prop) : Prop := ((x2 ≤ x1 → w_Mo_labelEnd_16 X (x1) (x2) m Φ) ∧ (¬ x2 ≤ x1 → (vp_in (x1) 48000 ∧ ((m.2 7 (x1 : Int32).toNatClampNeg = 91 → K25 (x1) (x2) (x1 + 1) (0) m) ∧ (¬ m.2 7 (x1 : Int32).toNatClampNeg = 91 → w_Mo_labelEnd_16 X (x1) (x2) m Φ)))))
theorem t_Mo_labelEnd_0 {X : MX} {a0 : Array Value} (F : mF X a0) {d : Nat} {x1 x2 : Int32} {o3 o4 : Option Value} {m : MS} {σ : jS} {Φ : Option Value → MS → Prop} {K25 : Int32 → Int32 → Int32 → Int32 → MS → Prop} (hV : MV X m σ) (h : w_Mo_labelEnd_0 X x1 x2 m Φ K25) (hK25 : ∀ (x1 x2 x3 x4 : Int32) (m : MS) (σ : jS), MV X m σ → K25 x1 x2 x3 x4 m → jW X.1 X.2.1 jcl X.2.2.1 X.2.2.2.1 (d + 1) y_Mo_labelEnd 25 [some (.ref (mo X)), some (.int x1), some (.int x2), some (.int x3), some (.int x4)] [] σ (mQ X Φ σ)) : jW X.1 X.2.1 jcl X.2.2.1 X.2.2.2.1 (d + 1) y_Mo_labelEnd 0 [some (.ref (mo X)), some (.int x1), some (.int x2), o3, o4] [] σ (mQ X Φ σ) := by
  unfold w_Mo_labelEnd_0 at h
  refine jW.iload_n (dx_Mo_labelEnd 0 (e := (0, .iload_n 1, 1)) rfl) rfl rfl (pc' := 1) rfl ?_
  refine jW.iload_n (dx_Mo_labelEnd 1 (e := (1, .iload_n 2, 1)) rfl) rfl rfl (pc' := 2) rfl ?_
  refine jW.icmp_ge (dx_Mo_labelEnd 2 (e := (2, .if_icmp .ge 14, 3)) rfl) 16 (by decide) (pc' := 5) rfl (fun c => ?_) (fun c => ?_)
  · replace h := h.1 c
    exact t_Mo_labelEnd_16 F hV h
  · replace h := h.2 c
    refine jW.aload_n (dx_Mo_labelEnd 3 (e := (5, .aload_n 0, 1)) rfl) rfl rfl (pc' := 6) rfl ?_
    refine jW.mga F hV f_Mo_labelEnd_6 (by decide) (pc' := 9) rfl ?_
    refine jW.iload_n (dx_Mo_labelEnd 5 (e := (9, .iload_n 1, 1)) rfl) rfl rfl (pc' := 10) rfl ?_
    refine jW.mla F hV (dx_Mo_labelEnd 6 (e := (10, .iaload, 1)) rfl) (by decide) rfl h.1 (pc' := 11) rfl ?_
    replace h := h.2
    refine jW.bipush (v := 91) (dx_Mo_labelEnd 7 (e := (11, .bipush 91, 2)) rfl) (by decide) (pc' := 13) rfl ?_
    refine jW.icmp_eq (dx_Mo_labelEnd 8 (e := (13, .if_icmp .eq 5, 3)) rfl) 18 (by decide) (pc' := 16) rfl (fun c => ?_) (fun c => ?_)
    · replace h := h.1 c
      refine jW.iload_n (dx_Mo_labelEnd 11 (e := (18, .iload_n 1, 1)) rfl) rfl rfl (pc' := 19) rfl ?_
      refine jW.iconst (v := 1) (dx_Mo_labelEnd 12 (e := (19, .iconst 1, 1)) rfl) (by decide) (pc' := 20) rfl ?_
      refine jW.iadd (dx_Mo_labelEnd 13 (e := (20, .iadd, 1)) rfl) (pc' := 21) rfl ?_
      refine jW.istore_n (dx_Mo_labelEnd 14 (e := (21, .istore_n 3, 1)) rfl) rfl (by decide) rfl (pc' := 22) rfl ?_
      refine jW.iconst (v := 0) (dx_Mo_labelEnd 15 (e := (22, .iconst 0, 1)) rfl) (by decide) (pc' := 23) rfl ?_
      refine jW.istore (dx_Mo_labelEnd 16 (e := (23, .istore 4, 2)) rfl) (by decide) rfl (pc' := 25) rfl ?_
      exact hK25 _ _ _ _ _ _ hV h
    · replace h := h.2 c
      exact t_Mo_labelEnd_16 F hV h
theorem g_Mo_labelEnd {X : MX} {a0 : Array Value} (F : mF X a0) {x1 x2 : Int32} {m : MS} {Φ : Option Value → MS → Prop} {I25 : Nat → Int32 → Int32 → Int32 → Int32 → MS → Prop} (he : w_Mo_labelEnd_0 X x1 x2 m Φ (fun x1 x2 x3 x4 m => ∃ j, I25 j x1 x2 x3 x4 m)) (h25 : ∀ (n : Nat) (x1 x2 x3 x4 : Int32) (m : MS), I25 n x1 x2 x3 x4 m → w_Mo_labelEnd_25 X x1 x2 x3 x4 m Φ (fun x1 x2 x3 x4 m => ∃ j, j < n ∧ I25 j x1 x2 x3 x4 m)) : mE X 1 y_Mo_labelEnd [.ref (mo X), .int x1, .int x2] m Φ := by
  intro d σ hV
  have hL25 : ∀ n, (∀ (x1 x2 x3 x4 : Int32) (m : MS) (σ : jS), MV X m σ → I25 n x1 x2 x3 x4 m → jW X.1 X.2.1 jcl X.2.2.1 X.2.2.2.1 (d + 1) y_Mo_labelEnd 25 [some (.ref (mo X)), some (.int x1), some (.int x2), some (.int x3), some (.int x4)] [] σ (mQ X Φ σ)) := by
    intro n
    induction n using Nat.strongRecOn with
    | _ n ih =>
      exact fun x1 x2 x3 x4 m σ hV hI => t_Mo_labelEnd_25 F hV (h25 n x1 x2 x3 x4 m hI) (fun x1 x2 x3 x4 m σ hV ⟨j, hj, hI⟩ => (ih j hj) x1 x2 x3 x4 m σ hV hI)
  refine jE.of (by decide) (by simp [Value.category]) (Nat.le_of_ble_eq_true rfl) rfl ?_
  exact t_Mo_labelEnd_0 F hV he (fun x1 x2 x3 x4 m σ hV ⟨j, hI⟩ => (hL25 j) x1 x2 x3 x4 m σ hV hI)
def w_Mo_isWhite_29 (X : MX) (x0 s0 : Int32) (m : MS) (Φ : Option Value → MS → Prop) : Prop := (mZ (s0) ∧ Φ (some (.int (s0))) m)
theorem t_Mo_isWhite_29 {X : MX} {a0 : Array Value} (F : mF X a0) {d : Nat} {x0 s0 : Int32} {m : MS} {σ : jS} {Φ : Option Value → MS → Prop} (hV : MV X m σ) (h : w_Mo_isWhite_29 X x0 s0 m Φ) : jW X.1 X.2.1 jcl X.2.2.1 X.2.2.2.1 (d + 0) y_Mo_isWhite 29 [some (.int x0)] [.int s0] σ (mQ X Φ σ) := by
  unfold w_Mo_isWhite_29 at h
  exact jW.zret (dx_Mo_isWhite 15 (e := (29, .ireturn, 1)) rfl) rfl h.1.n ⟨FR.rfl, _, hV, h.2⟩
def w_Mo_isWhite_24 (X : MX) (x0 : Int32) (m : MS) (Φ : Option Value → MS → Prop) : Prop := w_Mo_isWhite_29 X (x0) (1) m Φ
theorem t_Mo_isWhite_24 {X : MX} {a0 : Array Value} (F : mF X a0) {d : Nat} {x0 : Int32} {m : MS} {σ : jS} {Φ : Option Value → MS → Prop} (hV : MV X m σ) (h : w_Mo_isWhite_24 X x0 m Φ) : jW X.1 X.2.1 jcl X.2.2.1 X.2.2.2.1 (d + 0) y_Mo_isWhite 24 [some (.int x0)] [] σ (mQ X Φ σ) := by
  unfold w_Mo_isWhite_24 at h
  refine jW.iconst (v := 1) (dx_Mo_isWhite 12 (e := (24, .iconst 1, 1)) rfl) (by decide) (pc' := 25) rfl ?_
  refine jW.goto (dx_Mo_isWhite 13 (e := (25, .goto 4, 3)) rfl) 29 (by decide) ?_
  exact t_Mo_isWhite_29 F hV h
def w_Mo_isWhite_0 (X : MX) (x0 : Int32) (m : MS) (Φ : Option Value → MS → Prop) : Prop := ((x0 = 9 → w_Mo_isWhite_24 X (x0) m Φ) ∧ (¬ x0 = 9 → ((x0 = 10 → w_Mo_isWhite_24 X (x0) m Φ) ∧ (¬ x0 = 10 → ((x0 = 13 → w_Mo_isWhite_24 X (x0) m Φ) ∧ (¬ x0 = 13 → ((x0 = 32 → w_Mo_isWhite_24 X (x0) m Φ) ∧ (¬ x0 = 32 → w_Mo_isWhite_29 X (x0) (0) m Φ))))))))
theorem t_Mo_isWhite_0 {X : MX} {a0 : Array Value} (F : mF X a0) {d : Nat} {x0 : Int32} {m : MS} {σ : jS} {Φ : Option Value → MS → Prop} (hV : MV X m σ) (h : w_Mo_isWhite_0 X x0 m Φ) : jW X.1 X.2.1 jcl X.2.2.1 X.2.2.2.1 (d + 0) y_Mo_isWhite 0 [some (.int x0)] [] σ (mQ X Φ σ) := by
  unfold w_Mo_isWhite_0 at h
  refine jW.iload_n (dx_Mo_isWhite 0 (e := (0, .iload_n 0, 1)) rfl) rfl rfl (pc' := 1) rfl ?_
  refine jW.bipush (v := 9) (dx_Mo_isWhite 1 (e := (1, .bipush 9, 2)) rfl) (by decide) (pc' := 3) rfl ?_
  refine jW.icmp_eq (dx_Mo_isWhite 2 (e := (3, .if_icmp .eq 21, 3)) rfl) 24 (by decide) (pc' := 6) rfl (fun c => ?_) (fun c => ?_)
  · replace h := h.1 c
    exact t_Mo_isWhite_24 F hV h
  · replace h := h.2 c
    refine jW.iload_n (dx_Mo_isWhite 3 (e := (6, .iload_n 0, 1)) rfl) rfl rfl (pc' := 7) rfl ?_
    refine jW.bipush (v := 10) (dx_Mo_isWhite 4 (e := (7, .bipush 10, 2)) rfl) (by decide) (pc' := 9) rfl ?_
    refine jW.icmp_eq (dx_Mo_isWhite 5 (e := (9, .if_icmp .eq 15, 3)) rfl) 24 (by decide) (pc' := 12) rfl (fun c => ?_) (fun c => ?_)
    · replace h := h.1 c
      exact t_Mo_isWhite_24 F hV h
    · replace h := h.2 c
      refine jW.iload_n (dx_Mo_isWhite 6 (e := (12, .iload_n 0, 1)) rfl) rfl rfl (pc' := 13) rfl ?_
      refine jW.bipush (v := 13) (dx_Mo_isWhite 7 (e := (13, .bipush 13, 2)) rfl) (by decide) (pc' := 15) rfl ?_
      refine jW.icmp_eq (dx_Mo_isWhite 8 (e := (15, .if_icmp .eq 9, 3)) rfl) 24 (by decide) (pc' := 18) rfl (fun c => ?_) (fun c => ?_)
      · replace h := h.1 c
        exact t_Mo_isWhite_24 F hV h
      · replace h := h.2 c
        refine jW.iload_n (dx_Mo_isWhite 9 (e := (18, .iload_n 0, 1)) rfl) rfl rfl (pc' := 19) rfl ?_
        refine jW.bipush (v := 32) (dx_Mo_isWhite 10 (e := (19, .bipush 32, 2)) rfl) (by decide) (pc' := 21) rfl ?_
        refine jW.icmp_ne (dx_Mo_isWhite 11 (e := (21, .if_icmp .ne 7, 3)) rfl) 28 (by decide) (pc' := 24) rfl (fun c => ?_) (fun c => ?_)
        · replace h := h.2 c
          refine jW.iconst (v := 0) (dx_Mo_isWhite 14 (e := (28, .iconst 0, 1)) rfl) (by decide) (pc' := 29) rfl ?_
          exact t_Mo_isWhite_29 F hV h
        · replace h := h.1 c
          exact t_Mo_isWhite_24 F hV h
theorem g_Mo_isWhite {X : MX} {a0 : Array Value} (F : mF X a0) {x0 : Int32} {m : MS} {Φ : Option Value → MS → Prop} (he : w_Mo_isWhite_0 X x0 m Φ) : mE X 0 y_Mo_isWhite [.int x0] m Φ := by
  intro d σ hV
  refine jE.of (by decide) (by simp [Value.category]) (Nat.le_of_ble_eq_true rfl) rfl ?_
  exact t_Mo_isWhite_0 F hV he
def w_Mo_gap_65 (X : MX) (x1 x2 x3 : Int32) (m : MS) (Φ : Option Value → MS → Prop) : Prop := Φ (some (.int (x3))) m
theorem t_Mo_gap_65 {X : MX} {a0 : Array Value} (F : mF X a0) {d : Nat} {x1 x2 x3 : Int32} {m : MS} {σ : jS} {Φ : Option Value → MS → Prop} (hV : MV X m σ) (h : w_Mo_gap_65 X x1 x2 x3 m Φ) : jW X.1 X.2.1 jcl X.2.2.1 X.2.2.2.1 (d + 0) y_Mo_gap 65 [some (.ref (mo X)), some (.int x1), some (.int x2), some (.int x3)] [] σ (mQ X Φ σ) := by
  unfold w_Mo_gap_65 at h
  refine jW.iload_n (dx_Mo_gap 34 (e := (65, .iload_n 3, 1)) rfl) rfl rfl (pc' := 66) rfl ?_
  exact jW.iret (dx_Mo_gap 35 (e := (66, .ireturn, 1)) rfl) rfl ⟨FR.rfl, _, hV, h⟩
def w_Mo_gap_43 (X : MX) (x1 x2 x3 : Int32) (m : MS) (Φ : Option Value → MS → Prop) (K43 : Int32 → Int32 → Int32 → MS → Prop) : Prop := ((x2 ≤ x3 → w_Mo_gap_65 X (x1) (x2) (x3) m Φ) ∧ (¬ x2 ≤ x3 → (vp_in (x3) 48000 ∧ ((m.2 7 (x3 : Int32).toNatClampNeg = 32 → K43 (x1) (x2) (x3 + 1) m) ∧ (¬ m.2 7 (x3 : Int32).toNatClampNeg = 32 → w_Mo_gap_65 X (x1) (x2) (x3) m Φ)))))
theorem t_Mo_gap_43 {X : MX} {a0 : Array Value} (F : mF X a0) {d : Nat} {x1 x2 x3 : Int32} {m : MS} {σ : jS} {Φ : Option Value → MS → Prop} {K43 : Int32 → Int32 → Int32 → MS → Prop} (hV : MV X m σ) (h : w_Mo_gap_43 X x1 x2 x3 m Φ K43) (hK43 : ∀ (x1 x2 x3 : Int32) (m : MS) (σ : jS), MV X m σ → K43 x1 x2 x3 m → jW X.1 X.2.1 jcl X.2.2.1 X.2.2.2.1 (d + 0) y_Mo_gap 43 [some (.ref (mo X)), some (.int x1), some (.int x2), some (.int x3)] [] σ (mQ X Φ σ)) : jW X.1 X.2.1 jcl X.2.2.1 X.2.2.2.1 (d + 0) y_Mo_gap 43 [some (.ref (mo X)), some (.int x1), some (.int x2), some (.int x3)] [] σ (mQ X Φ σ) := by
  unfold w_Mo_gap_43 at h
  refine jW.iload_n (dx_Mo_gap 23 (e := (43, .iload_n 3, 1)) rfl) rfl rfl (pc' := 44) rfl ?_
  refine jW.iload_n (dx_Mo_gap 24 (e := (44, .iload_n 2, 1)) rfl) rfl rfl (pc' := 45) rfl ?_
  refine jW.icmp_ge (dx_Mo_gap 25 (e := (45, .if_icmp .ge 20, 3)) rfl) 65 (by decide) (pc' := 48) rfl (fun c => ?_) (fun c => ?_)
  · replace h := h.1 c
    exact t_Mo_gap_65 F hV h
  · replace h := h.2 c
    refine jW.aload_n (dx_Mo_gap 26 (e := (48, .aload_n 0, 1)) rfl) rfl rfl (pc' := 49) rfl ?_
    refine jW.mga F hV f_Mo_gap_49 (by decide) (pc' := 52) rfl ?_
    refine jW.iload_n (dx_Mo_gap 28 (e := (52, .iload_n 3, 1)) rfl) rfl rfl (pc' := 53) rfl ?_
    refine jW.mla F hV (dx_Mo_gap 29 (e := (53, .iaload, 1)) rfl) (by decide) rfl h.1 (pc' := 54) rfl ?_
    replace h := h.2
    refine jW.bipush (v := 32) (dx_Mo_gap 30 (e := (54, .bipush 32, 2)) rfl) (by decide) (pc' := 56) rfl ?_
    refine jW.icmp_ne (dx_Mo_gap 31 (e := (56, .if_icmp .ne 9, 3)) rfl) 65 (by decide) (pc' := 59) rfl (fun c => ?_) (fun c => ?_)
    · replace h := h.2 c
      exact t_Mo_gap_65 F hV h
    · replace h := h.1 c
      refine jW.iinc (v := _ + (1)) (dx_Mo_gap 32 (e := (59, .iinc 3 1, 3)) rfl) rfl rfl (by decide) rfl (pc' := 62) rfl ?_
      refine jW.goto (dx_Mo_gap 33 (e := (62, .goto (-19), 3)) rfl) 43 (by decide) ?_
      exact hK43 _ _ _ _ _ hV h
def w_Mo_gap_24 (X : MX) (x1 x2 x3 : Int32) (m : MS) (Φ : Option Value → MS → Prop) (K43 : Int32 → Int32 → Int32 → MS → Prop) : Prop := ((x2 ≤ x3 → K43 (x1) (x2) (x3) m) ∧ (¬ x2 ≤ x3 → (vp_in (x3) 48000 ∧ ((m.2 7 (x3 : Int32).toNatClampNeg = 10 → K43 (x1) (x2) (x3 + 1) m) ∧ (¬ m.2 7 (x3 : Int32).toNatClampNeg = 10 → K43 (x1) (x2) (x3) m)))))
theorem t_Mo_gap_24 {X : MX} {a0 : Array Value} (F : mF X a0) {d : Nat} {x1 x2 x3 : Int32} {m : MS} {σ : jS} {Φ : Option Value → MS → Prop} {K43 : Int32 → Int32 → Int32 → MS → Prop} (hV : MV X m σ) (h : w_Mo_gap_24 X x1 x2 x3 m Φ K43) (hK43 : ∀ (x1 x2 x3 : Int32) (m : MS) (σ : jS), MV X m σ → K43 x1 x2 x3 m → jW X.1 X.2.1 jcl X.2.2.1 X.2.2.2.1 (d + 0) y_Mo_gap 43 [some (.ref (mo X)), some (.int x1), some (.int x2), some (.int x3)] [] σ (mQ X Φ σ)) : jW X.1 X.2.1 jcl X.2.2.1 X.2.2.2.1 (d + 0) y_Mo_gap 24 [some (.ref (mo X)), some (.int x1), some (.int x2), some (.int x3)] [] σ (mQ X Φ σ) := by
  unfold w_Mo_gap_24 at h
  refine jW.iload_n (dx_Mo_gap 13 (e := (24, .iload_n 3, 1)) rfl) rfl rfl (pc' := 25) rfl ?_
  refine jW.iload_n (dx_Mo_gap 14 (e := (25, .iload_n 2, 1)) rfl) rfl rfl (pc' := 26) rfl ?_
  refine jW.icmp_ge (dx_Mo_gap 15 (e := (26, .if_icmp .ge 17, 3)) rfl) 43 (by decide) (pc' := 29) rfl (fun c => ?_) (fun c => ?_)
  · replace h := h.1 c
    exact hK43 _ _ _ _ _ hV h
  · replace h := h.2 c
    refine jW.aload_n (dx_Mo_gap 16 (e := (29, .aload_n 0, 1)) rfl) rfl rfl (pc' := 30) rfl ?_
    refine jW.mga F hV f_Mo_gap_30 (by decide) (pc' := 33) rfl ?_
    refine jW.iload_n (dx_Mo_gap 18 (e := (33, .iload_n 3, 1)) rfl) rfl rfl (pc' := 34) rfl ?_
    refine jW.mla F hV (dx_Mo_gap 19 (e := (34, .iaload, 1)) rfl) (by decide) rfl h.1 (pc' := 35) rfl ?_
    replace h := h.2
    refine jW.bipush (v := 10) (dx_Mo_gap 20 (e := (35, .bipush 10, 2)) rfl) (by decide) (pc' := 37) rfl ?_
    refine jW.icmp_ne (dx_Mo_gap 21 (e := (37, .if_icmp .ne 6, 3)) rfl) 43 (by decide) (pc' := 40) rfl (fun c => ?_) (fun c => ?_)
    · replace h := h.2 c
      exact hK43 _ _ _ _ _ hV h
    · replace h := h.1 c
      refine jW.iinc (v := _ + (1)) (dx_Mo_gap 22 (e := (40, .iinc 3 1, 3)) rfl) rfl rfl (by decide) rfl (pc' := 43) rfl ?_
      exact hK43 _ _ _ _ _ hV h
def w_Mo_gap_2 (X : MX) (x1 x2 x3 : Int32) (m : MS) (Φ : Option Value → MS → Prop) (K2 : Int32 → Int32 → Int32 → MS → Prop) (K43 : Int32 → Int32 → Int32 → MS → Prop) : Prop := ((x2 ≤ x3 → w_Mo_gap_24 X (x1) (x2) (x3) m Φ K43) ∧ (¬ x2 ≤ x3 → (vp_in (x3) 48000 ∧ ((m.2 7 (x3 : Int32).toNatClampNeg = 32 → K2 (x1) (x2) (x3 + 1) m) ∧ (¬ m.2 7 (x3 : Int32).toNatClampNeg = 32 → w_Mo_gap_24 X (x1) (x2) (x3) m Φ K43)))))
theorem t_Mo_gap_2 {X : MX} {a0 : Array Value} (F : mF X a0) {d : Nat} {x1 x2 x3 : Int32} {m : MS} {σ : jS} {Φ : Option Value → MS → Prop} {K2 : Int32 → Int32 → Int32 → MS → Prop} {K43 : Int32 → Int32 → Int32 → MS → Prop} (hV : MV X m σ) (h : w_Mo_gap_2 X x1 x2 x3 m Φ K2 K43) (hK2 : ∀ (x1 x2 x3 : Int32) (m : MS) (σ : jS), MV X m σ → K2 x1 x2 x3 m → jW X.1 X.2.1 jcl X.2.2.1 X.2.2.2.1 (d + 0) y_Mo_gap 2 [some (.ref (mo X)), some (.int x1), some (.int x2), some (.int x3)] [] σ (mQ X Φ σ)) (hK43 : ∀ (x1 x2 x3 : Int32) (m : MS) (σ : jS), MV X m σ → K43 x1 x2 x3 m → jW X.1 X.2.1 jcl X.2.2.1 X.2.2.2.1 (d + 0) y_Mo_gap 43 [some (.ref (mo X)), some (.int x1), some (.int x2), some (.int x3)] [] σ (mQ X Φ σ)) : jW X.1 X.2.1 jcl X.2.2.1 X.2.2.2.1 (d + 0) y_Mo_gap 2 [some (.ref (mo X)), some (.int x1), some (.int x2), some (.int x3)] [] σ (mQ X Φ σ) := by
  unfold w_Mo_gap_2 at h
  refine jW.iload_n (dx_Mo_gap 2 (e := (2, .iload_n 3, 1)) rfl) rfl rfl (pc' := 3) rfl ?_
  refine jW.iload_n (dx_Mo_gap 3 (e := (3, .iload_n 2, 1)) rfl) rfl rfl (pc' := 4) rfl ?_
  refine jW.icmp_ge (dx_Mo_gap 4 (e := (4, .if_icmp .ge 20, 3)) rfl) 24 (by decide) (pc' := 7) rfl (fun c => ?_) (fun c => ?_)
  · replace h := h.1 c
    exact t_Mo_gap_24 F hV h hK43
  · replace h := h.2 c
    refine jW.aload_n (dx_Mo_gap 5 (e := (7, .aload_n 0, 1)) rfl) rfl rfl (pc' := 8) rfl ?_
    refine jW.mga F hV f_Mo_gap_8 (by decide) (pc' := 11) rfl ?_
    refine jW.iload_n (dx_Mo_gap 7 (e := (11, .iload_n 3, 1)) rfl) rfl rfl (pc' := 12) rfl ?_
    refine jW.mla F hV (dx_Mo_gap 8 (e := (12, .iaload, 1)) rfl) (by decide) rfl h.1 (pc' := 13) rfl ?_
    replace h := h.2
    refine jW.bipush (v := 32) (dx_Mo_gap 9 (e := (13, .bipush 32, 2)) rfl) (by decide) (pc' := 15) rfl ?_
    refine jW.icmp_ne (dx_Mo_gap 10 (e := (15, .if_icmp .ne 9, 3)) rfl) 24 (by decide) (pc' := 18) rfl (fun c => ?_) (fun c => ?_)
    · replace h := h.2 c
      exact t_Mo_gap_24 F hV h hK43
    · replace h := h.1 c
      refine jW.iinc (v := _ + (1)) (dx_Mo_gap 11 (e := (18, .iinc 3 1, 3)) rfl) rfl rfl (by decide) rfl (pc' := 21) rfl ?_
      refine jW.goto (dx_Mo_gap 12 (e := (21, .goto (-19), 3)) rfl) 2 (by decide) ?_
      exact hK2 _ _ _ _ _ hV h
def w_Mo_gap_0 (X : MX) (x1 x2 : Int32) (m : MS) (Φ : Option Value → MS → Prop) (K2 : Int32 → Int32 → Int32 → MS → Prop) (K43 : Int32 → Int32 → Int32 → MS → Prop) : Prop := K2 (x1) (x2) (x1) m
theorem t_Mo_gap_0 {X : MX} {a0 : Array Value} (F : mF X a0) {d : Nat} {x1 x2 : Int32} {o3 : Option Value} {m : MS} {σ : jS} {Φ : Option Value → MS → Prop} {K2 : Int32 → Int32 → Int32 → MS → Prop} {K43 : Int32 → Int32 → Int32 → MS → Prop} (hV : MV X m σ) (h : w_Mo_gap_0 X x1 x2 m Φ K2 K43) (hK2 : ∀ (x1 x2 x3 : Int32) (m : MS) (σ : jS), MV X m σ → K2 x1 x2 x3 m → jW X.1 X.2.1 jcl X.2.2.1 X.2.2.2.1 (d + 0) y_Mo_gap 2 [some (.ref (mo X)), some (.int x1), some (.int x2), some (.int x3)] [] σ (mQ X Φ σ)) (hK43 : ∀ (x1 x2 x3 : Int32) (m : MS) (σ : jS), MV X m σ → K43 x1 x2 x3 m → jW X.1 X.2.1 jcl X.2.2.1 X.2.2.2.1 (d + 0) y_Mo_gap 43 [some (.ref (mo X)), some (.int x1), some (.int x2), some (.int x3)] [] σ (mQ X Φ σ)) : jW X.1 X.2.1 jcl X.2.2.1 X.2.2.2.1 (d + 0) y_Mo_gap 0 [some (.ref (mo X)), some (.int x1), some (.int x2), o3] [] σ (mQ X Φ σ) := by
  unfold w_Mo_gap_0 at h
  refine jW.iload_n (dx_Mo_gap 0 (e := (0, .iload_n 1, 1)) rfl) rfl rfl (pc' := 1) rfl ?_
  refine jW.istore_n (dx_Mo_gap 1 (e := (1, .istore_n 3, 1)) rfl) rfl (by decide) rfl (pc' := 2) rfl ?_
  exact hK2 _ _ _ _ _ hV h
theorem g_Mo_gap {X : MX} {a0 : Array Value} (F : mF X a0) {x1 x2 : Int32} {m : MS} {Φ : Option Value → MS → Prop} {I2 : Nat → Int32 → Int32 → Int32 → MS → Prop} {I43 : Nat → Int32 → Int32 → Int32 → MS → Prop} (he : w_Mo_gap_0 X x1 x2 m Φ (fun x1 x2 x3 m => ∃ j, I2 j x1 x2 x3 m) (fun x1 x2 x3 m => ∃ j, I43 j x1 x2 x3 m)) (h43 : ∀ (n : Nat) (x1 x2 x3 : Int32) (m : MS), I43 n x1 x2 x3 m → w_Mo_gap_43 X x1 x2 x3 m Φ (fun x1 x2 x3 m => ∃ j, j < n ∧ I43 j x1 x2 x3 m)) (h2 : ∀ (n : Nat) (x1 x2 x3 : Int32) (m : MS), I2 n x1 x2 x3 m → w_Mo_gap_2 X x1 x2 x3 m Φ (fun x1 x2 x3 m => ∃ j, j < n ∧ I2 j x1 x2 x3 m) (fun x1 x2 x3 m => ∃ j, I43 j x1 x2 x3 m)) : mE X 0 y_Mo_gap [.ref (mo X), .int x1, .int x2] m Φ := by
  intro d σ hV
  have hL43 : ∀ n, (∀ (x1 x2 x3 : Int32) (m : MS) (σ : jS), MV X m σ → I43 n x1 x2 x3 m → jW X.1 X.2.1 jcl X.2.2.1 X.2.2.2.1 (d + 0) y_Mo_gap 43 [some (.ref (mo X)), some (.int x1), some (.int x2), some (.int x3)] [] σ (mQ X Φ σ)) := by
    intro n
    induction n using Nat.strongRecOn with
    | _ n ih =>
      exact fun x1 x2 x3 m σ hV hI => t_Mo_gap_43 F hV (h43 n x1 x2 x3 m hI) (fun x1 x2 x3 m σ hV ⟨j, hj, hI⟩ => (ih j hj) x1 x2 x3 m σ hV hI)
  have hL2 : ∀ n, (∀ (x1 x2 x3 : Int32) (m : MS) (σ : jS), MV X m σ → I2 n x1 x2 x3 m → jW X.1 X.2.1 jcl X.2.2.1 X.2.2.2.1 (d + 0) y_Mo_gap 2 [some (.ref (mo X)), some (.int x1), some (.int x2), some (.int x3)] [] σ (mQ X Φ σ)) := by
    intro n
    induction n using Nat.strongRecOn with
    | _ n ih =>
      exact fun x1 x2 x3 m σ hV hI => t_Mo_gap_2 F hV (h2 n x1 x2 x3 m hI) (fun x1 x2 x3 m σ hV ⟨j, hj, hI⟩ => (ih j hj) x1 x2 x3 m σ hV hI) (fun x1 x2 x3 m σ hV ⟨j, hI⟩ => (hL43 j) x1 x2 x3 m σ hV hI)
  refine jE.of (by decide) (by simp [Value.category]) (Nat.le_of_ble_eq_true rfl) rfl ?_
  exact t_Mo_gap_0 F hV he (fun x1 x2 x3 m σ hV ⟨j, hI⟩ => (hL2 j) x1 x2 x3 m σ hV hI) (fun x1 x2 x3 m σ hV ⟨j, hI⟩ => (hL43 j) x1 x2 x3 m σ hV hI)
