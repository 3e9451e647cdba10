def w_MB_block_22 (X : CX) (x1 : Int32) (x2 : Int32) (s0 : Int32) (m : CS) (Φ : Option Value → CS → Prop) : Prop := Φ (some (.int (s0))) m
theorem t_MB_block_22 {X : CX} {a0 : Array Value} (F : cF X a0) {d : Nat} {x1 : Int32} {x2 : Int32} {s0 : Int32} {o3 : Option Value} {m : CS} {σ : jS} {Φ : Option Value → CS → Prop} (hV : CV X m σ) (h : w_MB_block_22 X x1 x2 s0 m Φ) : jW X.1 X.2.1 jcl X.2.2.1 X.2.2.2.1 (d + 4) y_MB_block 22 [some (.ref (adr X 0)), some (.int x1), some (.int x2), o3] [.int s0] σ (cP X Φ) := by
  unfold w_MB_block_22 at h
  exact jW.iret (dx_MB_block 12 (e := (22, .ireturn, 1)) rfl) rfl ⟨_, hV, h⟩
def w_MB_block_0 (X : CX) (x1 : Int32) (x2 : Int32) (m : CS) (Φ : Option Value → CS → Prop) : Prop := cE X 3 y_Tree_at [.ref (adr X 2), .int (x1)] m (cnP (fun m1 => w_MB_block_22 X (x1) (x2) (-1) m1 Φ) (fun r1 m1 => (∃ i1, isB m1 (r1) i1 ∧ cE X 0 y_Block_tell [.ref (r1), .int (x2)] m1 (ciP fun r2 m2 => w_MB_block_22 X (x1) (x2) (r2) m2 Φ))))
theorem t_MB_block_0 {X : CX} {a0 : Array Value} (F : cF X a0) {d : Nat} {x1 : Int32} {x2 : Int32} {o3 : Option Value} {m : CS} {σ : jS} {Φ : Option Value → CS → Prop} (hV : CV X m σ) (h : w_MB_block_0 X x1 x2 m Φ) : jW X.1 X.2.1 jcl X.2.2.1 X.2.2.2.1 (d + 4) y_MB_block 0 [some (.ref (adr X 0)), some (.int x1), some (.int x2), o3] [] σ (cP X Φ) := by
  unfold w_MB_block_0 at h
  refine jW.aload_n (dx_MB_block 0 (e := (0, .aload_n 0, 1)) rfl) rfl rfl (pc' := 1) rfl ?_
  refine jW.cg (κ := 0) (k := 2) F hV.s0 f_MB_block_1 (by decide) rfl (pc' := 4) rfl ?_
  refine jW.iload_n (dx_MB_block 2 (e := (4, .iload_n 1, 1)) rfl) rfl rfl (pc' := 5) rfl ?_
  refine jW.callVe F (h (d + 0) _ hV) (dx_MB_block 3 (e := (5, .invokevirtual 115, 3)) rfl) can_Tree_at jw_408 jw_409 hV.cl2 rfl jw_410 rfl rfl (Nat.le_of_ble_eq_true rfl) (pc' := 8) rfl (fun r σ hr => ?_)
  clear hV
  obtain ⟨_, hV, ⟨rfl, h⟩ | ⟨_, rfl, h⟩⟩ := hr
  · refine jW.astore_nN (dx_MB_block 4 (e := (8, .astore_n 3, 1)) rfl) rfl (by decide) rfl (pc' := 9) rfl ?_
    refine jW.aload_nN (dx_MB_block 5 (e := (9, .aload_n 3, 1)) rfl) rfl rfl (pc' := 10) rfl ?_
    refine jW.ifnonnullN (dx_MB_block 6 (e := (10, .ifnonnull 7, 3)) rfl) (pc' := 13) rfl ?_
    refine jW.iconst (v := -1) (dx_MB_block 7 (e := (13, .iconst (-1), 1)) rfl) (by decide) (pc' := 14) rfl ?_
    refine jW.goto (dx_MB_block 8 (e := (14, .goto 8, 3)) rfl) 22 (by decide) ?_
    exact t_MB_block_22 F hV h
  · refine jW.astore_n (dx_MB_block 4 (e := (8, .astore_n 3, 1)) rfl) rfl (by decide) rfl (pc' := 9) rfl ?_
    refine jW.aload_n (dx_MB_block 5 (e := (9, .aload_n 3, 1)) rfl) rfl rfl (pc' := 10) rfl ?_
    refine jW.ifnonnull (dx_MB_block 6 (e := (10, .ifnonnull 7, 3)) rfl) 17 (by decide) ?_
    refine jW.aload_n (dx_MB_block 9 (e := (17, .aload_n 3, 1)) rfl) rfl rfl (pc' := 18) rfl ?_
    refine jW.iload_n (dx_MB_block 10 (e := (18, .iload_n 2, 1)) rfl) rfl rfl (pc' := 19) rfl ?_
    obtain ⟨i1, hi, h⟩ := h
    refine jW.callVe F (h (d + 3) _ hV) (dx_MB_block 11 (e := (19, .invokevirtual 119, 3)) rfl) can_Block_tell jw_430 jw_431 (hV.clb hi) rfl jw_432 rfl rfl (Nat.le_of_ble_eq_true rfl) (pc' := 22) rfl (fun r σ hr => ?_)
    clear hV
    obtain ⟨_, hV, _, rfl, h⟩ := hr
    exact t_MB_block_22 F hV h
theorem g_MB_block {X : CX} {a0 : Array Value} (F : cF X a0) {x1 : Int32} {x2 : Int32} {m : CS} {Φ : Option Value → CS → Prop} (he : w_MB_block_0 X x1 x2 m Φ) : cE X 4 y_MB_block [.ref (adr X 0), .int x1, .int x2] m Φ := by
  intro d σ hV
  refine jE.of (by decide) (by simp [Value.category]) (Nat.le_of_ble_eq_true rfl) rfl ?_
  exact t_MB_block_0 F hV he
def w_MB_letter_40 (X : CX) (x1 : Int32) (x2 : Int32) (x3 : Int32) (m : CS) (Φ : Option Value → CS → Prop) : Prop := Φ (some (.int (-1))) m
theorem t_MB_letter_40 {X : CX} {a0 : Array Value} (F : cF X a0) {d : Nat} {x1 : Int32} {x2 : Int32} {x3 : Int32} {o4 : Option Value} {m : CS} {σ : jS} {Φ : Option Value → CS → Prop} (hV : CV X m σ) (h : w_MB_letter_40 X x1 x2 x3 m Φ) : jW X.1 X.2.1 jcl X.2.2.1 X.2.2.2.1 (d + 4) y_MB_letter 40 [some (.ref (adr X 0)), some (.int x1), some (.int x2), some (.int x3), o4] [] σ (cP X Φ) := by
  unfold w_MB_letter_40 at h
  refine jW.iconst (v := -1) (dx_MB_letter 18 (e := (40, .iconst (-1), 1)) rfl) (by decide) (pc' := 41) rfl ?_
  exact jW.iret (dx_MB_letter 19 (e := (41, .ireturn, 1)) rfl) rfl ⟨_, hV, h⟩
def w_MB_letter_66 (X : CX) (x1 : Int32) (x2 : Int32) (x3 : Int32) (b4 : Nat) (s1 : Int32) (m : CS) (Φ : Option Value → CS → Prop) : Prop := cE X 0 y_Row_at [.ref (adr X 10), .int (s1 + x3)] m (ciP fun r1 m1 => Φ (some (.int (r1))) m1)
theorem t_MB_letter_66 {X : CX} {a0 : Array Value} (F : cF X a0) {d : Nat} {x1 : Int32} {x2 : Int32} {x3 : Int32} {b4 : Nat} {s1 : Int32} {m : CS} {σ : jS} {Φ : Option Value → CS → Prop} (hV : CV X m σ) (h : w_MB_letter_66 X x1 x2 x3 b4 s1 m Φ) : jW X.1 X.2.1 jcl X.2.2.1 X.2.2.2.1 (d + 4) y_MB_letter 66 [some (.ref (adr X 0)), some (.int x1), some (.int x2), some (.int x3), some (.ref b4)] [.int s1, .ref (adr X 10)] σ (cP X Φ) := by
  unfold w_MB_letter_66 at h
  refine jW.iload_n (dx_MB_letter 30 (e := (66, .iload_n 3, 1)) rfl) rfl rfl (pc' := 67) rfl ?_
  refine jW.iadd (dx_MB_letter 31 (e := (67, .iadd, 1)) rfl) (pc' := 68) rfl ?_
  refine jW.callVe F (h (d + 3) _ hV) (dx_MB_letter 32 (e := (68, .invokevirtual 137, 3)) rfl) can_Row_at jw_438 jw_439 (hV.clr (κ := 10) (by unfold isR; decide)) rfl jw_440 rfl rfl (Nat.le_of_ble_eq_true rfl) (pc' := 71) rfl (fun r σ hr => ?_)
  clear hV
  obtain ⟨_, hV, _, rfl, h⟩ := hr
  exact jW.iret (dx_MB_letter 33 (e := (71, .ireturn, 1)) rfl) rfl ⟨_, hV, h⟩
def w_MB_letter_37 (X : CX) (x1 : Int32) (x2 : Int32) (x3 : Int32) (b4 : Nat) (s0 : Int32) (s1 : Int32) (m : CS) (Φ : Option Value → CS → Prop) : Prop := ((s0 < s1 → ((x2 = 0 → (∃ i1, isB m (b4) i1 ∧ w_MB_letter_66 X (x1) (x2) (x3) (b4) (vb m.1 i1 5) m Φ)) ∧ (¬ x2 = 0 → (∃ i2, isB m (b4) i2 ∧ w_MB_letter_66 X (x1) (x2) (x3) (b4) (vb m.1 i2 7) m Φ)))) ∧ (¬ s0 < s1 → w_MB_letter_40 X (x1) (x2) (x3) m Φ))
theorem t_MB_letter_37 {X : CX} {a0 : Array Value} (F : cF X a0) {d : Nat} {x1 : Int32} {x2 : Int32} {x3 : Int32} {b4 : Nat} {s0 : Int32} {s1 : Int32} {m : CS} {σ : jS} {Φ : Option Value → CS → Prop} (hV : CV X m σ) (h : w_MB_letter_37 X x1 x2 x3 b4 s0 s1 m Φ) : jW X.1 X.2.1 jcl X.2.2.1 X.2.2.2.1 (d + 4) y_MB_letter 37 [some (.ref (adr X 0)), some (.int x1), some (.int x2), some (.int x3), some (.ref b4)] [.int s1, .int s0] σ (cP X Φ) := by
  unfold w_MB_letter_37 at h
  refine jW.icmp_lt (dx_MB_letter 17 (e := (37, .if_icmp .lt 5, 3)) rfl) 42 (by decide) (pc' := 40) rfl (fun c => ?_) (fun c => ?_)
  · replace h := h.1 c
    refine jW.aload_n (dx_MB_letter 20 (e := (42, .aload_n 0, 1)) rfl) rfl rfl (pc' := 43) rfl ?_
    refine jW.cg (κ := 0) (k := 2) F hV.s0 f_MB_letter_43 (by decide) rfl (pc' := 46) rfl ?_
    refine jW.cg (κ := 2) (k := 2) F hV.s2 f_MB_letter_46 (by decide) rfl (pc' := 49) rfl ?_
    refine jW.iload_n (dx_MB_letter 23 (e := (49, .iload_n 2, 1)) rfl) rfl rfl (pc' := 50) rfl ?_
    refine jW.if_eq (dx_MB_letter 24 (e := (50, .ifCond .eq 11, 3)) rfl) 61 (by decide) (pc' := 53) rfl (fun c => ?_) (fun c => ?_)
    · replace h := h.1 c
      refine jW.aload (dx_MB_letter 28 (e := (61, .aload 4, 2)) rfl) rfl (pc' := 63) rfl ?_
      obtain ⟨i1, hi, h⟩ := h
      refine jW.cgb F hV hi f_MB_letter_63 (by decide) (pc' := 66) rfl ?_
      exact t_MB_letter_66 F hV h
    · replace h := h.2 c
      refine jW.aload (dx_MB_letter 25 (e := (53, .aload 4, 2)) rfl) rfl (pc' := 55) rfl ?_
      obtain ⟨i2, hi, h⟩ := h
      refine jW.cgb F hV hi f_MB_letter_55 (by decide) (pc' := 58) rfl ?_
      refine jW.goto (dx_MB_letter 27 (e := (58, .goto 8, 3)) rfl) 66 (by decide) ?_
      exact t_MB_letter_66 F hV h
  · replace h := h.2 c
    exact t_MB_letter_40 F hV h
def w_MB_letter_0 (X : CX) (x1 : Int32) (x2 : Int32) (x3 : Int32) (m : CS) (Φ : Option Value → CS → Prop) : Prop := cE X 3 y_Tree_at [.ref (adr X 2), .int (x1)] m (cnP (fun m1 => w_MB_letter_40 X (x1) (x2) (x3) m1 Φ) (fun r1 m1 => ((x3 < 0 → w_MB_letter_40 X (x1) (x2) (x3) m1 Φ) ∧ (¬ x3 < 0 → ((x2 = 0 → (∃ i1, isB m1 (r1) i1 ∧ w_MB_letter_37 X (x1) (x2) (x3) (r1) (x3) (vb m1.1 i1 6) m1 Φ)) ∧ (¬ x2 = 0 → (∃ i2, isB m1 (r1) i2 ∧ w_MB_letter_37 X (x1) (x2) (x3) (r1) (x3) (vb m1.1 i2 8) m1 Φ)))))))
theorem t_MB_letter_0 {X : CX} {a0 : Array Value} (F : cF X a0) {d : Nat} {x1 : Int32} {x2 : Int32} {x3 : Int32} {o4 : Option Value} {m : CS} {σ : jS} {Φ : Option Value → CS → Prop} (hV : CV X m σ) (h : w_MB_letter_0 X x1 x2 x3 m Φ) : jW X.1 X.2.1 jcl X.2.2.1 X.2.2.2.1 (d + 4) y_MB_letter 0 [some (.ref (adr X 0)), some (.int x1), some (.int x2), some (.int x3), o4] [] σ (cP X Φ) := by
  unfold w_MB_letter_0 at h
  refine jW.aload_n (dx_MB_letter 0 (e := (0, .aload_n 0, 1)) rfl) rfl rfl (pc' := 1) rfl ?_
  refine jW.cg (κ := 0) (k := 2) F hV.s0 f_MB_letter_1 (by decide) rfl (pc' := 4) rfl ?_
  refine jW.iload_n (dx_MB_letter 2 (e := (4, .iload_n 1, 1)) rfl) rfl rfl (pc' := 5) rfl ?_
  refine jW.callVe F (h (d + 0) _ hV) (dx_MB_letter 3 (e := (5, .invokevirtual 115, 3)) rfl) can_Tree_at jw_408 jw_409 hV.cl2 rfl jw_410 rfl rfl (Nat.le_of_ble_eq_true rfl) (pc' := 8) rfl (fun r σ hr => ?_)
  clear hV
  obtain ⟨_, hV, ⟨rfl, h⟩ | ⟨_, rfl, h⟩⟩ := hr
  · refine jW.astoreN (dx_MB_letter 4 (e := (8, .astore 4, 2)) rfl) (by decide) rfl (pc' := 10) rfl ?_
    refine jW.aloadN (dx_MB_letter 5 (e := (10, .aload 4, 2)) rfl) rfl (pc' := 12) rfl ?_
    refine jW.ifnullN (dx_MB_letter 6 (e := (12, .ifnull 28, 3)) rfl) 40 (by decide) ?_
    exact t_MB_letter_40 F hV h
  · refine jW.astore (dx_MB_letter 4 (e := (8, .astore 4, 2)) rfl) (by decide) rfl (pc' := 10) rfl ?_
    refine jW.aload (dx_MB_letter 5 (e := (10, .aload 4, 2)) rfl) rfl (pc' := 12) rfl ?_
    refine jW.ifnull (dx_MB_letter 6 (e := (12, .ifnull 28, 3)) rfl) (pc' := 15) rfl ?_
    refine jW.iload_n (dx_MB_letter 7 (e := (15, .iload_n 3, 1)) rfl) rfl rfl (pc' := 16) rfl ?_
    refine jW.if_lt (dx_MB_letter 8 (e := (16, .ifCond .lt 24, 3)) rfl) 40 (by decide) (pc' := 19) rfl (fun c => ?_) (fun c => ?_)
    · replace h := h.1 c
      exact t_MB_letter_40 F hV h
    · replace h := h.2 c
      refine jW.iload_n (dx_MB_letter 9 (e := (19, .iload_n 3, 1)) rfl) rfl rfl (pc' := 20) rfl ?_
      refine jW.iload_n (dx_MB_letter 10 (e := (20, .iload_n 2, 1)) rfl) rfl rfl (pc' := 21) rfl ?_
      refine jW.if_eq (dx_MB_letter 11 (e := (21, .ifCond .eq 11, 3)) rfl) 32 (by decide) (pc' := 24) rfl (fun c => ?_) (fun c => ?_)
      · replace h := h.1 c
        refine jW.aload (dx_MB_letter 15 (e := (32, .aload 4, 2)) rfl) rfl (pc' := 34) rfl ?_
        obtain ⟨i1, hi, h⟩ := h
        refine jW.cgb F hV hi f_MB_letter_34 (by decide) (pc' := 37) rfl ?_
        exact t_MB_letter_37 F hV h
      · replace h := h.2 c
        refine jW.aload (dx_MB_letter 12 (e := (24, .aload 4, 2)) rfl) rfl (pc' := 26) rfl ?_
        obtain ⟨i2, hi, h⟩ := h
        refine jW.cgb F hV hi f_MB_letter_26 (by decide) (pc' := 29) rfl ?_
        refine jW.goto (dx_MB_letter 14 (e := (29, .goto 8, 3)) rfl) 37 (by decide) ?_
        exact t_MB_letter_37 F hV h
theorem g_MB_letter {X : CX} {a0 : Array Value} (F : cF X a0) {x1 : Int32} {x2 : Int32} {x3 : Int32} {m : CS} {Φ : Option Value → CS → Prop} (he : w_MB_letter_0 X x1 x2 x3 m Φ) : cE X 4 y_MB_letter [.ref (adr X 0), .int x1, .int x2, .int x3] m Φ := by
  intro d σ hV
  refine jE.of (by decide) (by simp [Value.category]) (Nat.le_of_ble_eq_true rfl) rfl ?_
  exact t_MB_letter_0 F hV he
def w_MB_definitions_0 (X : CX) (m : CS) (Φ : Option Value → CS → Prop) : Prop := cE X 1 y_Lab_size [.ref (adr X 4)] m (ciP fun r1 m1 => Φ (some (.int (r1))) m1)
theorem t_MB_definitions_0 {X : CX} {a0 : Array Value} (F : cF X a0) {d : Nat} {m : CS} {σ : jS} {Φ : Option Value → CS → Prop} (hV : CV X m σ) (h : w_MB_definitions_0 X m Φ) : jW X.1 X.2.1 jcl X.2.2.1 X.2.2.2.1 (d + 2) y_MB_definitions 0 [some (.ref (adr X 0))] [] σ (cP X Φ) := by
  unfold w_MB_definitions_0 at h
  refine jW.aload_n (dx_MB_definitions 0 (e := (0, .aload_n 0, 1)) rfl) rfl rfl (pc' := 1) rfl ?_
  refine jW.cg (κ := 0) (k := 3) F hV.s0 f_MB_definitions_1 (by decide) rfl (pc' := 4) rfl ?_
  refine jW.callVe F (h (d + 0) _ hV) (dx_MB_definitions 2 (e := (4, .invokevirtual 139, 3)) rfl) can_Lab_size jw_446 jw_447 hV.cl4 rfl jw_448 rfl rfl (Nat.le_of_ble_eq_true rfl) (pc' := 7) rfl (fun r σ hr => ?_)
  clear hV
  obtain ⟨_, hV, _, rfl, h⟩ := hr
  exact jW.iret (dx_MB_definitions 3 (e := (7, .ireturn, 1)) rfl) rfl ⟨_, hV, h⟩
theorem g_MB_definitions {X : CX} {a0 : Array Value} (F : cF X a0) {m : CS} {Φ : Option Value → CS → Prop} (he : w_MB_definitions_0 X m Φ) : cE X 2 y_MB_definitions [.ref (adr X 0)] m Φ := by
  intro d σ hV
  refine jE.of (by decide) (by simp [Value.category]) (Nat.le_of_ble_eq_true rfl) rfl ?_
  exact t_MB_definitions_0 F hV he
def w_MB_definition_0 (X : CX) (x1 : Int32) (x2 : Int32) (m : CS) (Φ : Option Value → CS → Prop) : Prop := cE X 2 y_Lab_partLength [.ref (adr X 4), .int (x1), .int (x2)] m (ciP fun r1 m1 => Φ (some (.int (r1))) m1)
theorem t_MB_definition_0 {X : CX} {a0 : Array Value} (F : cF X a0) {d : Nat} {x1 : Int32} {x2 : Int32} {m : CS} {σ : jS} {Φ : Option Value → CS → Prop} (hV : CV X m σ) (h : w_MB_definition_0 X x1 x2 m Φ) : jW X.1 X.2.1 jcl X.2.2.1 X.2.2.2.1 (d + 3) y_MB_definition 0 [some (.ref (adr X 0)), some (.int x1), some (.int x2)] [] σ (cP X Φ) := by
  unfold w_MB_definition_0 at h
  refine jW.aload_n (dx_MB_definition 0 (e := (0, .aload_n 0, 1)) rfl) rfl rfl (pc' := 1) rfl ?_
  refine jW.cg (κ := 0) (k := 3) F hV.s0 f_MB_definition_1 (by decide) rfl (pc' := 4) rfl ?_
  refine jW.iload_n (dx_MB_definition 2 (e := (4, .iload_n 1, 1)) rfl) rfl rfl (pc' := 5) rfl ?_
  refine jW.iload_n (dx_MB_definition 3 (e := (5, .iload_n 2, 1)) rfl) rfl rfl (pc' := 6) rfl ?_
  refine jW.callVe F (h (d + 0) _ hV) (dx_MB_definition 4 (e := (6, .invokevirtual 140, 3)) rfl) can_Lab_partLength jw_455 jw_456 hV.cl4 rfl jw_457 rfl rfl (Nat.le_of_ble_eq_true rfl) (pc' := 9) rfl (fun r σ hr => ?_)
  clear hV
  obtain ⟨_, hV, _, rfl, h⟩ := hr
  exact jW.iret (dx_MB_definition 5 (e := (9, .ireturn, 1)) rfl) rfl ⟨_, hV, h⟩
theorem g_MB_definition {X : CX} {a0 : Array Value} (F : cF X a0) {x1 : Int32} {x2 : Int32} {m : CS} {Φ : Option Value → CS → Prop} (he : w_MB_definition_0 X x1 x2 m Φ) : cE X 3 y_MB_definition [.ref (adr X 0), .int x1, .int x2] m Φ := by
  intro d σ hV
  refine jE.of (by decide) (by simp [Value.category]) (Nat.le_of_ble_eq_true rfl) rfl ?_
  exact t_MB_definition_0 F hV he
def w_MB_defined_0 (X : CX) (x1 : Int32) (x2 : Int32) (x3 : Int32) (m : CS) (Φ : Option Value → CS → Prop) : Prop := cE X 3 y_Lab_partSign [.ref (adr X 4), .int (x1), .int (x2), .int (x3)] m (ciP fun r1 m1 => Φ (some (.int (r1))) m1)
theorem t_MB_defined_0 {X : CX} {a0 : Array Value} (F : cF X a0) {d : Nat} {x1 : Int32} {x2 : Int32} {x3 : Int32} {m : CS} {σ : jS} {Φ : Option Value → CS → Prop} (hV : CV X m σ) (h : w_MB_defined_0 X x1 x2 x3 m Φ) : jW X.1 X.2.1 jcl X.2.2.1 X.2.2.2.1 (d + 4) y_MB_defined 0 [some (.ref (adr X 0)), some (.int x1), some (.int x2), some (.int x3)] [] σ (cP X Φ) := by
  unfold w_MB_defined_0 at h
  refine jW.aload_n (dx_MB_defined 0 (e := (0, .aload_n 0, 1)) rfl) rfl rfl (pc' := 1) rfl ?_
  refine jW.cg (κ := 0) (k := 3) F hV.s0 f_MB_defined_1 (by decide) rfl (pc' := 4) rfl ?_
  refine jW.iload_n (dx_MB_defined 2 (e := (4, .iload_n 1, 1)) rfl) rfl rfl (pc' := 5) rfl ?_
  refine jW.iload_n (dx_MB_defined 3 (e := (5, .iload_n 2, 1)) rfl) rfl rfl (pc' := 6) rfl ?_
  refine jW.iload_n (dx_MB_defined 4 (e := (6, .iload_n 3, 1)) rfl) rfl rfl (pc' := 7) rfl ?_
  refine jW.callVe F (h (d + 0) _ hV) (dx_MB_defined 5 (e := (7, .invokevirtual 144, 3)) rfl) can_Lab_partSign jw_473 jw_474 hV.cl4 rfl jw_475 rfl rfl (Nat.le_of_ble_eq_true rfl) (pc' := 10) rfl (fun r σ hr => ?_)
  clear hV
  obtain ⟨_, hV, _, rfl, h⟩ := hr
  exact jW.iret (dx_MB_defined 6 (e := (10, .ireturn, 1)) rfl) rfl ⟨_, hV, h⟩
theorem g_MB_defined {X : CX} {a0 : Array Value} (F : cF X a0) {x1 : Int32} {x2 : Int32} {x3 : Int32} {m : CS} {Φ : Option Value → CS → Prop} (he : w_MB_defined_0 X x1 x2 x3 m Φ) : cE X 4 y_MB_defined [.ref (adr X 0), .int x1, .int x2, .int x3] m Φ := by
  intro d σ hV
  refine jE.of (by decide) (by simp [Value.category]) (Nat.le_of_ble_eq_true rfl) rfl ?_
  exact t_MB_defined_0 F hV he
def w_MB_find_0 (X : CX) (m : CS) (Φ : Option Value → CS → Prop) : Prop := cE X 0 y_Row_size [.ref (adr X 1)] m (ciP fun r1 m1 => cE X 4 y_Lab_withLabel [.ref (adr X 4), .ref (adr X 1), .int (0), .int (r1)] m1 (ciP fun r2 m2 => Φ (some (.int (r2))) m2))
theorem t_MB_find_0 {X : CX} {a0 : Array Value} (F : cF X a0) {d : Nat} {m : CS} {σ : jS} {Φ : Option Value → CS → Prop} (hV : CV X m σ) (h : w_MB_find_0 X m Φ) : jW X.1 X.2.1 jcl X.2.2.1 X.2.2.2.1 (d + 5) y_MB_find 0 [some (.ref (adr X 0))] [] σ (cP X Φ) := by
  unfold w_MB_find_0 at h
  refine jW.aload_n (dx_MB_find 0 (e := (0, .aload_n 0, 1)) rfl) rfl rfl (pc' := 1) rfl ?_
  refine jW.cg (κ := 0) (k := 3) F hV.s0 f_MB_find_1 (by decide) rfl (pc' := 4) rfl ?_
  refine jW.aload_n (dx_MB_find 2 (e := (4, .aload_n 0, 1)) rfl) rfl rfl (pc' := 5) rfl ?_
  refine jW.cg (κ := 0) (k := 0) F hV.s0 f_MB_find_5 (by decide) rfl (pc' := 8) rfl ?_
  refine jW.iconst (v := 0) (dx_MB_find 4 (e := (8, .iconst 0, 1)) rfl) (by decide) (pc' := 9) rfl ?_
  refine jW.aload_n (dx_MB_find 5 (e := (9, .aload_n 0, 1)) rfl) rfl rfl (pc' := 10) rfl ?_
  refine jW.cg (κ := 0) (k := 0) F hV.s0 f_MB_find_10 (by decide) rfl (pc' := 13) rfl ?_
  refine jW.callVe F (h (d + 4) _ hV) (dx_MB_find 7 (e := (13, .invokevirtual 66, 3)) rfl) can_Row_size jw_371 jw_372 (hV.clr (κ := 1) (by unfold isR; decide)) rfl jw_373 rfl rfl (Nat.le_of_ble_eq_true rfl) (pc' := 16) rfl (fun r σ hr => ?_)
  clear hV
  obtain ⟨_, hV, _, rfl, h⟩ := hr
  refine jW.callVe F (h (d + 0) _ hV) (dx_MB_find 8 (e := (16, .invokevirtual 148, 3)) rfl) can_Lab_withLabel jw_482 jw_483 hV.cl4 rfl jw_484 rfl rfl (Nat.le_of_ble_eq_true rfl) (pc' := 19) rfl (fun r σ hr => ?_)
  clear hV
  obtain ⟨_, hV, _, rfl, h⟩ := hr
  exact jW.iret (dx_MB_find 9 (e := (19, .ireturn, 1)) rfl) rfl ⟨_, hV, h⟩
theorem g_MB_find {X : CX} {a0 : Array Value} (F : cF X a0) {m : CS} {Φ : Option Value → CS → Prop} (he : w_MB_find_0 X m Φ) : cE X 5 y_MB_find [.ref (adr X 0)] m Φ := by
  intro d σ hV
  refine jE.of (by decide) (by simp [Value.category]) (Nat.le_of_ble_eq_true rfl) rfl ?_
  exact t_MB_find_0 F hV he
def w_MB_about_0 (X : CX) (x1 : Int32) (m : CS) (Φ : Option Value → CS → Prop) : Prop := (((x1).toInt < 0 ∨ 2 < (x1).toInt → Φ (some (.int (-1))) m) ∧ (x1 = 0 → cE X 0 y_Row_size [.ref (adr X 1)] m (ciP fun r1 m1 => Φ (some (.int (r1))) m1)) ∧ (x1 = 1 → cE X 0 y_Tree_size [.ref (adr X 2)] m (ciP fun r2 m2 => Φ (some (.int (r2))) m2)) ∧ (x1 = 2 → Φ (some (.int (vi m.1 6))) m))
theorem t_MB_about_0 {X : CX} {a0 : Array Value} (F : cF X a0) {d : Nat} {x1 : Int32} {m : CS} {σ : jS} {Φ : Option Value → CS → Prop} (hV : CV X m σ) (h : w_MB_about_0 X x1 m Φ) : jW X.1 X.2.1 jcl X.2.2.1 X.2.2.2.1 (d + 1) y_MB_about 0 [some (.ref (adr X 0)), some (.int x1)] [] σ (cP X Φ) := by
  unfold w_MB_about_0 at h
  refine jW.iload_n (dx_MB_about 0 (e := (0, .iload_n 1, 1)) rfl) rfl rfl (pc' := 1) rfl ?_
  refine jW.sw (lo := 0) (hi := 2) (fun c => ?_) (fun c => ?_)
  · replace h := h.1 c
    refine jW.tableOut (dx_MB_about 1 (e := (1, .tableswitch 48 0 2 #[27, 35, 43], 27)) rfl) c 49 (by decide) ?_
    refine jW.iconst (v := -1) (dx_MB_about 13 (e := (49, .iconst (-1), 1)) rfl) (by decide) (pc' := 50) rfl ?_
    exact jW.iret (dx_MB_about 14 (e := (50, .ireturn, 1)) rfl) rfl ⟨_, hV, h⟩
  · replace h := h.2
    refine jW.swc 0 c (by decide) (fun e => ?_) (fun c => ?_)
    · replace h := h.1 e
      refine jW.tableJ (dx_MB_about 1 (e := (1, .tableswitch 48 0 2 #[27, 35, 43], 27)) rfl) e (by decide) (by decide) rfl 28 (by decide) ?_
      refine jW.aload_n (dx_MB_about 2 (e := (28, .aload_n 0, 1)) rfl) rfl rfl (pc' := 29) rfl ?_
      refine jW.cg (κ := 0) (k := 0) F hV.s0 f_MB_about_29 (by decide) rfl (pc' := 32) rfl ?_
      refine jW.callVe F (h (d + 0) _ hV) (dx_MB_about 4 (e := (32, .invokevirtual 66, 3)) rfl) can_Row_size jw_371 jw_372 (hV.clr (κ := 1) (by unfold isR; decide)) rfl jw_373 rfl rfl (Nat.le_of_ble_eq_true rfl) (pc' := 35) rfl (fun r σ hr => ?_)
      clear hV
      obtain ⟨_, hV, _, rfl, h⟩ := hr
      exact jW.iret (dx_MB_about 5 (e := (35, .ireturn, 1)) rfl) rfl ⟨_, hV, h⟩
    · replace h := h.2
      refine jW.swc 1 c (by decide) (fun e => ?_) (fun c => ?_)
      · replace h := h.1 e
        refine jW.tableJ (dx_MB_about 1 (e := (1, .tableswitch 48 0 2 #[27, 35, 43], 27)) rfl) e (by decide) (by decide) rfl 36 (by decide) ?_
        refine jW.aload_n (dx_MB_about 6 (e := (36, .aload_n 0, 1)) rfl) rfl rfl (pc' := 37) rfl ?_
        refine jW.cg (κ := 0) (k := 2) F hV.s0 f_MB_about_37 (by decide) rfl (pc' := 40) rfl ?_
        refine jW.callVe F (h (d + 0) _ hV) (dx_MB_about 8 (e := (40, .invokevirtual 114, 3)) rfl) can_Tree_size jw_507 jw_508 hV.cl2 rfl jw_509 rfl rfl (Nat.le_of_ble_eq_true rfl) (pc' := 43) rfl (fun r σ hr => ?_)
        clear hV
        obtain ⟨_, hV, _, rfl, h⟩ := hr
        exact jW.iret (dx_MB_about 9 (e := (43, .ireturn, 1)) rfl) rfl ⟨_, hV, h⟩
      · replace h := h.2
        have e := sw_last (v := 2) c (by decide) (by decide)
        replace h := h e
        refine jW.tableJ (z := 2) (dx_MB_about 1 (e := (1, .tableswitch 48 0 2 #[27, 35, 43], 27)) rfl) e (by decide) (by decide) rfl 44 (by decide) ?_
        refine jW.aload_n (dx_MB_about 10 (e := (44, .aload_n 0, 1)) rfl) rfl rfl (pc' := 45) rfl ?_
        refine jW.cg (κ := 0) (k := 6) F hV.s0 f_MB_about_45 (by decide) rfl (pc' := 48) rfl ?_
        exact jW.iret (dx_MB_about 12 (e := (48, .ireturn, 1)) rfl) rfl ⟨_, hV, h⟩
theorem g_MB_about {X : CX} {a0 : Array Value} (F : cF X a0) {x1 : Int32} {m : CS} {Φ : Option Value → CS → Prop} (he : w_MB_about_0 X x1 m Φ) : cE X 1 y_MB_about [.ref (adr X 0), .int x1] m Φ := by
  intro d σ hV
  refine jE.of (by decide) (by simp [Value.category]) (Nat.le_of_ble_eq_true rfl) rfl ?_
  exact t_MB_about_0 F hV he
def w_MB_forget_0 (X : CX) (m : CS) (Φ : Option Value → CS → Prop) : Prop := cE X 1 y_Tree_clear [.ref (adr X 2)] m (cvP fun m1 => cE X 1 y_Lab_clear [.ref (adr X 4)] m1 (cvP fun m2 => ∀ m3, m3 = cI m2 6 (0) → ∀ m4, m4 = cI m3 7 (-1) → cE X 0 y_Line_rewind [.ref (adr X 5)] m4 (cvP fun m5 => Φ none m5)))
theorem t_MB_forget_0 {X : CX} {a0 : Array Value} (F : cF X a0) {d : Nat} {m : CS} {σ : jS} {Φ : Option Value → CS → Prop} (hV : CV X m σ) (h : w_MB_forget_0 X m Φ) : jW X.1 X.2.1 jcl X.2.2.1 X.2.2.2.1 (d + 2) y_MB_forget 0 [some (.ref (adr X 0))] [] σ (cP X Φ) := by
  unfold w_MB_forget_0 at h
  refine jW.aload_n (dx_MB_forget 0 (e := (0, .aload_n 0, 1)) rfl) rfl rfl (pc' := 1) rfl ?_
  refine jW.cg (κ := 0) (k := 2) F hV.s0 f_MB_forget_1 (by decide) rfl (pc' := 4) rfl ?_
  refine jW.callVe F (h (d + 0) _ hV) (dx_MB_forget 2 (e := (4, .invokevirtual 152, 3)) rfl) can_Tree_clear jw_523 jw_524 hV.cl2 rfl jw_525 rfl rfl (Nat.le_of_ble_eq_true rfl) (pc' := 7) rfl (fun r σ hr => ?_)
  clear hV
  obtain ⟨_, hV, rfl, h⟩ := hr
  refine jW.aload_n (dx_MB_forget 3 (e := (7, .aload_n 0, 1)) rfl) rfl rfl (pc' := 8) rfl ?_
  refine jW.cg (κ := 0) (k := 3) F hV.s0 f_MB_forget_8 (by decide) rfl (pc' := 11) rfl ?_
  refine jW.callVe F (h (d + 0) _ hV) (dx_MB_forget 5 (e := (11, .invokevirtual 155, 3)) rfl) can_Lab_clear jw_528 jw_529 hV.cl4 rfl jw_530 rfl rfl (Nat.le_of_ble_eq_true rfl) (pc' := 14) rfl (fun r σ hr => ?_)
  clear hV
  obtain ⟨_, hV, rfl, h⟩ := hr
  refine jW.aload_n (dx_MB_forget 6 (e := (14, .aload_n 0, 1)) rfl) rfl rfl (pc' := 15) rfl ?_
  refine jW.iconst (v := 0) (dx_MB_forget 7 (e := (15, .iconst 0, 1)) rfl) (by decide) (pc' := 16) rfl ?_
  refine jW.cp0 (k := 6) F hV f_MB_forget_16 (by decide) rfl rfl rfl (pc' := 19) rfl (fun σ hV => ?_)
  replace h := h _ rfl
  refine jW.aload_n (dx_MB_forget 9 (e := (19, .aload_n 0, 1)) rfl) rfl rfl (pc' := 20) rfl ?_
  refine jW.iconst (v := -1) (dx_MB_forget 10 (e := (20, .iconst (-1), 1)) rfl) (by decide) (pc' := 21) rfl ?_
  refine jW.cp0 (k := 7) F hV f_MB_forget_21 (by decide) rfl rfl rfl (pc' := 24) rfl (fun σ hV => ?_)
  replace h := h _ rfl
  refine jW.aload_n (dx_MB_forget 12 (e := (24, .aload_n 0, 1)) rfl) rfl rfl (pc' := 25) rfl ?_
  refine jW.cg (κ := 0) (k := 4) F hV.s0 f_MB_forget_25 (by decide) rfl (pc' := 28) rfl ?_
  refine jW.callVe F (h (d + 1) _ hV) (dx_MB_forget 14 (e := (28, .invokevirtual 156, 3)) rfl) can_Line_rewind jw_532 jw_533 hV.cl5 rfl jw_534 rfl rfl (Nat.le_of_ble_eq_true rfl) (pc' := 31) rfl (fun r σ hr => ?_)
  clear hV
  obtain ⟨_, hV, rfl, h⟩ := hr
  exact jW.vret (dx_MB_forget 15 (e := (31, .return_, 1)) rfl) rfl ⟨_, hV, h⟩
theorem g_MB_forget {X : CX} {a0 : Array Value} (F : cF X a0) {m : CS} {Φ : Option Value → CS → Prop} (he : w_MB_forget_0 X m Φ) : cE X 2 y_MB_forget [.ref (adr X 0)] m Φ := by
  intro d σ hV
  refine jE.of (by decide) (by simp [Value.category]) (Nat.le_of_ble_eq_true rfl) rfl ?_
  exact t_MB_forget_0 F hV he
