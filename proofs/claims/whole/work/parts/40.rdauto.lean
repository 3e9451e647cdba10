def w_Rd_start_0 (X : CX) (m : CS) (Φ : Option Value → CS → Prop) : Prop := cE X 7 y_Tree_add [.ref (adr X 2), .int (0), .int (-1), .int (0)] m (cbP fun r1 m1 => ∀ m2, m2 = cI m1 64 (0) → ∀ m3, m3 = cI m2 65 (0) → Φ none m3)
theorem t_Rd_start_0 {X : CX} {a0 : Array Value} (F : cF X a0) {d : Nat} {m : CS} {σ : jS} {Φ : Option Value → CS → Prop} (hV : CV X m σ) (h : w_Rd_start_0 X m Φ) : jW X.1 X.2.1 jcl X.2.2.1 X.2.2.2.1 (d + 8) y_Rd_start 0 [some (.ref (adr X 6))] [] σ (cP X Φ) := by
  unfold w_Rd_start_0 at h
  refine jW.aload_n (dx_Rd_start 0 (e := (0, .aload_n 0, 1)) rfl) rfl rfl (pc' := 1) rfl ?_
  refine jW.cg (κ := 6) (k := 0) F hV.s6 f_Rd_start_1 (by decide) rfl (pc' := 4) rfl ?_
  refine jW.iconst (v := 0) (dx_Rd_start 2 (e := (4, .iconst 0, 1)) rfl) (by decide) (pc' := 5) rfl ?_
  refine jW.iconst (v := -1) (dx_Rd_start 3 (e := (5, .iconst (-1), 1)) rfl) (by decide) (pc' := 6) rfl ?_
  refine jW.iconst (v := 0) (dx_Rd_start 4 (e := (6, .iconst 0, 1)) rfl) (by decide) (pc' := 7) rfl ?_
  refine jW.callVe F (h (d + 0) _ hV) (dx_Rd_start 5 (e := (7, .invokevirtual 35, 3)) rfl) can_Tree_add jw_540 jw_541 hV.cl2 rfl jw_542 rfl rfl (Nat.le_of_ble_eq_true rfl) (pc' := 10) rfl (fun r σ hr => ?_)
  clear hV
  obtain ⟨_, hV, _, rfl, h⟩ := hr
  refine jW.pop (dx_Rd_start 6 (e := (10, .pop, 1)) rfl) rfl (pc' := 11) rfl ?_
  refine jW.aload_n (dx_Rd_start 7 (e := (11, .aload_n 0, 1)) rfl) rfl rfl (pc' := 12) rfl ?_
  refine jW.iconst (v := 0) (dx_Rd_start 8 (e := (12, .iconst 0, 1)) rfl) (by decide) (pc' := 13) rfl ?_
  refine jW.cp6 (k := 4) F hV f_Rd_start_13 (by decide) rfl rfl rfl (pc' := 16) rfl (fun σ hV => ?_)
  replace h := h _ rfl
  refine jW.aload_n (dx_Rd_start 10 (e := (16, .aload_n 0, 1)) rfl) rfl rfl (pc' := 17) rfl ?_
  refine jW.iconst (v := 0) (dx_Rd_start 11 (e := (17, .iconst 0, 1)) rfl) (by decide) (pc' := 18) rfl ?_
  refine jW.cp6 (k := 5) F hV f_Rd_start_18 (by decide) rfl rfl rfl (pc' := 21) rfl (fun σ hV => ?_)
  replace h := h _ rfl
  exact jW.vret (dx_Rd_start 13 (e := (21, .return_, 1)) rfl) rfl ⟨_, hV, h⟩
theorem g_Rd_start {X : CX} {a0 : Array Value} (F : cF X a0) {m : CS} {Φ : Option Value → CS → Prop} (he : w_Rd_start_0 X m Φ) : cE X 8 y_Rd_start [.ref (adr X 6)] m Φ := by
  intro d σ hV
  refine jE.of (by decide) (by simp [Value.category]) (Nat.le_of_ble_eq_true rfl) rfl ?_
  exact t_Rd_start_0 F hV he
def w_Rd_goOn_48 (X : CX) (x1 : Int32) (x2 : Int32) (m : CS) (Φ : Option Value → CS → Prop) : Prop := Φ none m
theorem t_Rd_goOn_48 {X : CX} {a0 : Array Value} (F : cF X a0) {d : Nat} {x1 : Int32} {x2 : Int32} {m : CS} {σ : jS} {Φ : Option Value → CS → Prop} (hV : CV X m σ) (h : w_Rd_goOn_48 X x1 x2 m Φ) : jW X.1 X.2.1 jcl X.2.2.1 X.2.2.2.1 (d + 7) y_Rd_goOn 48 [some (.ref (adr X 6)), some (.int x1), some (.int x2)] [] σ (cP X Φ) := by
  unfold w_Rd_goOn_48 at h
  exact jW.vret (dx_Rd_goOn 26 (e := (48, .return_, 1)) rfl) rfl ⟨_, hV, h⟩
def w_Rd_goOn_17 (X : CX) (x1 : Int32) (x2 : Int32) (m : CS) (Φ : Option Value → CS → Prop) (K17 : Int32 → Int32 → CS → Prop) : Prop := ((vi m.1 64 < x2 → w_Rd_goOn_48 X (x1) (x2) m Φ) ∧ (¬ vi m.1 64 < x2 → cE X 0 y_Rd_openAt [.ref (adr X 6), .int (x2)] m (cbP fun r1 m1 => cE X 6 y_Rd_goesOn [.ref (adr X 6), .ref (r1)] m1 (ciP fun r2 m2 => ((r2 = 0 → w_Rd_goOn_48 X (x1) (x2) m2 Φ) ∧ (¬ r2 = 0 → ∀ m3, m3 = cI m2 65 (x2) → K17 (x1) (x2 + 1) m3))))))
theorem t_Rd_goOn_17 {X : CX} {a0 : Array Value} (F : cF X a0) {d : Nat} {x1 : Int32} {x2 : Int32} {m : CS} {σ : jS} {Φ : Option Value → CS → Prop} {K17 : Int32 → Int32 → CS → Prop} (hV : CV X m σ) (h : w_Rd_goOn_17 X x1 x2 m Φ K17) (hK17 : ∀ (x1 : Int32) (x2 : Int32) (m : CS) (σ : jS), CV X m σ → K17 x1 x2 m → jW X.1 X.2.1 jcl X.2.2.1 X.2.2.2.1 (d + 7) y_Rd_goOn 17 [some (.ref (adr X 6)), some (.int x1), some (.int x2)] [] σ (cP X Φ)) : jW X.1 X.2.1 jcl X.2.2.1 X.2.2.2.1 (d + 7) y_Rd_goOn 17 [some (.ref (adr X 6)), some (.int x1), some (.int x2)] [] σ (cP X Φ) := by
  unfold w_Rd_goOn_17 at h
  refine jW.iload_n (dx_Rd_goOn 11 (e := (17, .iload_n 2, 1)) rfl) rfl rfl (pc' := 18) rfl ?_
  refine jW.aload_n (dx_Rd_goOn 12 (e := (18, .aload_n 0, 1)) rfl) rfl rfl (pc' := 19) rfl ?_
  refine jW.cg (κ := 6) (k := 4) F hV.s6 f_Rd_goOn_19 (by decide) rfl (pc' := 22) rfl ?_
  refine jW.icmp_gt (dx_Rd_goOn 14 (e := (22, .if_icmp .gt 26, 3)) rfl) 48 (by decide) (pc' := 25) rfl (fun c => ?_) (fun c => ?_)
  · replace h := h.1 c
    exact t_Rd_goOn_48 F hV h
  · replace h := h.2 c
    refine jW.aload_n (dx_Rd_goOn 15 (e := (25, .aload_n 0, 1)) rfl) rfl rfl (pc' := 26) rfl ?_
    refine jW.aload_n (dx_Rd_goOn 16 (e := (26, .aload_n 0, 1)) rfl) rfl rfl (pc' := 27) rfl ?_
    refine jW.iload_n (dx_Rd_goOn 17 (e := (27, .iload_n 2, 1)) rfl) rfl rfl (pc' := 28) rfl ?_
    refine jW.callVe F (h (d + 6) _ hV) (dx_Rd_goOn 18 (e := (28, .invokevirtual 53, 3)) rfl) can_Rd_openAt jw_570 jw_572 hV.cl6 rfl sel_Rd_openAt rfl rfl (Nat.le_of_ble_eq_true rfl) (pc' := 31) rfl (fun r σ hr => ?_)
    clear hV
    obtain ⟨_, hV, _, rfl, h⟩ := hr
    refine jW.callVe F (h (d + 0) _ hV) (dx_Rd_goOn 19 (e := (31, .invokevirtual 57, 3)) rfl) can_Rd_goesOn jw_574 jw_576 hV.cl6 rfl sel_Rd_goesOn rfl rfl (Nat.le_of_ble_eq_true rfl) (pc' := 34) rfl (fun r σ hr => ?_)
    clear hV
    obtain ⟨_, hV, _, rfl, h⟩ := hr
    refine jW.if_eq (dx_Rd_goOn 20 (e := (34, .ifCond .eq 14, 3)) rfl) 48 (by decide) (pc' := 37) rfl (fun c => ?_) (fun c => ?_)
    · replace h := h.1 c
      exact t_Rd_goOn_48 F hV h
    · replace h := h.2 c
      refine jW.aload_n (dx_Rd_goOn 21 (e := (37, .aload_n 0, 1)) rfl) rfl rfl (pc' := 38) rfl ?_
      refine jW.iload_n (dx_Rd_goOn 22 (e := (38, .iload_n 2, 1)) rfl) rfl rfl (pc' := 39) rfl ?_
      refine jW.cp6 (k := 5) F hV f_Rd_goOn_39 (by decide) rfl rfl rfl (pc' := 42) rfl (fun σ hV => ?_)
      replace h := h _ rfl
      refine jW.iinc (v := _ + (1)) (dx_Rd_goOn 24 (e := (42, .iinc 2 1, 3)) rfl) rfl rfl (by decide) rfl (pc' := 45) rfl ?_
      refine jW.goto (dx_Rd_goOn 25 (e := (45, .goto (-28), 3)) rfl) 17 (by decide) ?_
      exact hK17 _ _ _ _ hV h
def w_Rd_goOn_0 (X : CX) (x1 : Int32) (m : CS) (Φ : Option Value → CS → Prop) (K17 : Int32 → Int32 → CS → Prop) : Prop := ∀ m1, m1 = cI m 66 (x1) → ∀ m2, m2 = cI m1 67 (0) → ∀ m3, m3 = cI m2 65 (0) → K17 (x1) (1) m3
theorem t_Rd_goOn_0 {X : CX} {a0 : Array Value} (F : cF X a0) {d : Nat} {x1 : Int32} {o2 : Option Value} {m : CS} {σ : jS} {Φ : Option Value → CS → Prop} {K17 : Int32 → Int32 → CS → Prop} (hV : CV X m σ) (h : w_Rd_goOn_0 X x1 m Φ K17) (hK17 : ∀ (x1 : Int32) (x2 : Int32) (m : CS) (σ : jS), CV X m σ → K17 x1 x2 m → jW X.1 X.2.1 jcl X.2.2.1 X.2.2.2.1 (d + 7) y_Rd_goOn 17 [some (.ref (adr X 6)), some (.int x1), some (.int x2)] [] σ (cP X Φ)) : jW X.1 X.2.1 jcl X.2.2.1 X.2.2.2.1 (d + 7) y_Rd_goOn 0 [some (.ref (adr X 6)), some (.int x1), o2] [] σ (cP X Φ) := by
  unfold w_Rd_goOn_0 at h
  refine jW.aload_n (dx_Rd_goOn 0 (e := (0, .aload_n 0, 1)) rfl) rfl rfl (pc' := 1) rfl ?_
  refine jW.iload_n (dx_Rd_goOn 1 (e := (1, .iload_n 1, 1)) rfl) rfl rfl (pc' := 2) rfl ?_
  refine jW.cp6 (k := 6) F hV f_Rd_goOn_2 (by decide) rfl rfl rfl (pc' := 5) rfl (fun σ hV => ?_)
  replace h := h _ rfl
  refine jW.aload_n (dx_Rd_goOn 3 (e := (5, .aload_n 0, 1)) rfl) rfl rfl (pc' := 6) rfl ?_
  refine jW.iconst (v := 0) (dx_Rd_goOn 4 (e := (6, .iconst 0, 1)) rfl) (by decide) (pc' := 7) rfl ?_
  refine jW.cp6 (k := 7) F hV f_Rd_goOn_7 (by decide) rfl rfl rfl (pc' := 10) rfl (fun σ hV => ?_)
  replace h := h _ rfl
  refine jW.aload_n (dx_Rd_goOn 6 (e := (10, .aload_n 0, 1)) rfl) rfl rfl (pc' := 11) rfl ?_
  refine jW.iconst (v := 0) (dx_Rd_goOn 7 (e := (11, .iconst 0, 1)) rfl) (by decide) (pc' := 12) rfl ?_
  refine jW.cp6 (k := 5) F hV f_Rd_goOn_12 (by decide) rfl rfl rfl (pc' := 15) rfl (fun σ hV => ?_)
  replace h := h _ rfl
  refine jW.iconst (v := 1) (dx_Rd_goOn 9 (e := (15, .iconst 1, 1)) rfl) (by decide) (pc' := 16) rfl ?_
  refine jW.istore_n (dx_Rd_goOn 10 (e := (16, .istore_n 2, 1)) rfl) rfl (by decide) rfl (pc' := 17) rfl ?_
  exact hK17 _ _ _ _ hV h
theorem g_Rd_goOn {X : CX} {a0 : Array Value} (F : cF X a0) {x1 : Int32} {m : CS} {Φ : Option Value → CS → Prop} {I17 : Nat → Int32 → Int32 → CS → Prop} (he : w_Rd_goOn_0 X x1 m Φ (fun x1 x2 m => ∃ j, I17 j x1 x2 m)) (h17 : ∀ (n : Nat) (x1 : Int32) (x2 : Int32) (m : CS), I17 n x1 x2 m → w_Rd_goOn_17 X x1 x2 m Φ (fun x1 x2 m => ∃ j, j < n ∧ I17 j x1 x2 m)) : cE X 7 y_Rd_goOn [.ref (adr X 6), .int x1] m Φ := by
  intro d σ hV
  have hL17 : ∀ n, (∀ (x1 : Int32) (x2 : Int32) (m : CS) (σ : jS), CV X m σ → I17 n x1 x2 m → jW X.1 X.2.1 jcl X.2.2.1 X.2.2.2.1 (d + 7) y_Rd_goOn 17 [some (.ref (adr X 6)), some (.int x1), some (.int x2)] [] σ (cP X Φ)) := by
    intro n
    induction n using Nat.strongRecOn with
    | _ n ih =>
      exact fun x1 x2 m σ hV hI => t_Rd_goOn_17 F hV (h17 n x1 x2 m hI) (fun x1 x2 m σ hV ⟨j, hj, hI⟩ => (ih j hj) x1 x2 m σ hV hI)
  refine jE.of (by decide) (by simp [Value.category]) (Nat.le_of_ble_eq_true rfl) rfl ?_
  exact t_Rd_goOn_0 F hV he (fun x1 x2 m σ hV ⟨j, hI⟩ => (hL17 j) x1 x2 m σ hV hI)
def w_Rd_openAt_29 (X : CX) (x1 : Int32) (t0 : Nat) (m : CS) (Φ : Option Value → CS → Prop) : Prop := Φ (some (.ref (t0))) m
theorem t_Rd_openAt_29 {X : CX} {a0 : Array Value} (F : cF X a0) {d : Nat} {x1 : Int32} {t0 : Nat} {m : CS} {σ : jS} {Φ : Option Value → CS → Prop} (hV : CV X m σ) (h : w_Rd_openAt_29 X x1 t0 m Φ) : jW X.1 X.2.1 jcl X.2.2.1 X.2.2.2.1 (d + 0) y_Rd_openAt 29 [some (.ref (adr X 6)), some (.int x1)] [.ref t0] σ (cP X Φ) := by
  unfold w_Rd_openAt_29 at h
  exact jW.aret (dx_Rd_openAt 15 (e := (29, .areturn, 1)) rfl) rfl (Or.inl ⟨_, rfl⟩) (Or.inr ⟨_, rfl⟩) ⟨_, hV, h⟩
def w_Rd_openAt_22 (X : CX) (x1 : Int32) (m : CS) (Φ : Option Value → CS → Prop) : Prop := w_Rd_openAt_29 X (x1) (adr X 3) m Φ
theorem t_Rd_openAt_22 {X : CX} {a0 : Array Value} (F : cF X a0) {d : Nat} {x1 : Int32} {m : CS} {σ : jS} {Φ : Option Value → CS → Prop} (hV : CV X m σ) (h : w_Rd_openAt_22 X x1 m Φ) : jW X.1 X.2.1 jcl X.2.2.1 X.2.2.2.1 (d + 0) y_Rd_openAt 22 [some (.ref (adr X 6)), some (.int x1)] [] σ (cP X Φ) := by
  unfold w_Rd_openAt_22 at h
  refine jW.aload_n (dx_Rd_openAt 12 (e := (22, .aload_n 0, 1)) rfl) rfl rfl (pc' := 23) rfl ?_
  refine jW.cg (κ := 6) (k := 0) F hV.s6 f_Rd_openAt_23 (by decide) rfl (pc' := 26) rfl ?_
  refine jW.cg (κ := 2) (k := 1) F hV.s2 f_Rd_openAt_26 (by decide) rfl (pc' := 29) rfl ?_
  exact t_Rd_openAt_29 F hV h
def w_Rd_openAt_0 (X : CX) (x1 : Int32) (m : CS) (Φ : Option Value → CS → Prop) : Prop := ((x1 < 0 → w_Rd_openAt_22 X (x1) m Φ) ∧ (¬ x1 < 0 → ((14 ≤ x1 → w_Rd_openAt_22 X (x1) m Φ) ∧ (¬ 14 ≤ x1 → (vp_in (x1) 14 ∧ w_Rd_openAt_29 X (x1) (m.2.1 (vo m.1 (x1 : Int32).toNatClampNeg)) m Φ)))))
theorem t_Rd_openAt_0 {X : CX} {a0 : Array Value} (F : cF X a0) {d : Nat} {x1 : Int32} {m : CS} {σ : jS} {Φ : Option Value → CS → Prop} (hV : CV X m σ) (h : w_Rd_openAt_0 X x1 m Φ) : jW X.1 X.2.1 jcl X.2.2.1 X.2.2.2.1 (d + 0) y_Rd_openAt 0 [some (.ref (adr X 6)), some (.int x1)] [] σ (cP X Φ) := by
  unfold w_Rd_openAt_0 at h
  refine jW.iload_n (dx_Rd_openAt 0 (e := (0, .iload_n 1, 1)) rfl) rfl rfl (pc' := 1) rfl ?_
  refine jW.if_lt (dx_Rd_openAt 1 (e := (1, .ifCond .lt 21, 3)) rfl) 22 (by decide) (pc' := 4) rfl (fun c => ?_) (fun c => ?_)
  · replace h := h.1 c
    exact t_Rd_openAt_22 F hV h
  · replace h := h.2 c
    refine jW.iload_n (dx_Rd_openAt 2 (e := (4, .iload_n 1, 1)) rfl) rfl rfl (pc' := 5) rfl ?_
    refine jW.aload_n (dx_Rd_openAt 3 (e := (5, .aload_n 0, 1)) rfl) rfl rfl (pc' := 6) rfl ?_
    refine jW.cg (κ := 6) (k := 3) F hV.s6 f_Rd_openAt_6 (by decide) rfl (pc' := 9) rfl ?_
    refine jW.col F hV (dx_Rd_openAt 5 (e := (9, .arraylength, 1)) rfl) (pc' := 10) rfl ?_
    refine jW.icmp_ge (dx_Rd_openAt 6 (e := (10, .if_icmp .ge 12, 3)) rfl) 22 (by decide) (pc' := 13) rfl (fun c => ?_) (fun c => ?_)
    · replace h := h.1 c
      exact t_Rd_openAt_22 F hV h
    · replace h := h.2 c
      refine jW.aload_n (dx_Rd_openAt 7 (e := (13, .aload_n 0, 1)) rfl) rfl rfl (pc' := 14) rfl ?_
      refine jW.cg (κ := 6) (k := 3) F hV.s6 f_Rd_openAt_14 (by decide) rfl (pc' := 17) rfl ?_
      refine jW.iload_n (dx_Rd_openAt 9 (e := (17, .iload_n 1, 1)) rfl) rfl rfl (pc' := 18) rfl ?_
      refine jW.cog F hV (dx_Rd_openAt 10 (e := (18, .aaload, 1)) rfl) h.1 (pc' := 19) rfl ?_
      replace h := h.2
      refine jW.goto (dx_Rd_openAt 11 (e := (19, .goto 10, 3)) rfl) 29 (by decide) ?_
      exact t_Rd_openAt_29 F hV h
theorem g_Rd_openAt {X : CX} {a0 : Array Value} (F : cF X a0) {x1 : Int32} {m : CS} {Φ : Option Value → CS → Prop} (he : w_Rd_openAt_0 X x1 m Φ) : cE X 0 y_Rd_openAt [.ref (adr X 6), .int x1] m Φ := by
  intro d σ hV
  refine jE.of (by decide) (by simp [Value.category]) (Nat.le_of_ble_eq_true rfl) rfl ?_
  exact t_Rd_openAt_0 F hV he
def w_Rd_goesOn_79 (X : CX) (b1 : Nat) (s0 : Int32) (m : CS) (Φ : Option Value → CS → Prop) : Prop := (mZ (s0) ∧ Φ (some (.int (s0))) m)
theorem t_Rd_goesOn_79 {X : CX} {a0 : Array Value} (F : cF X a0) {d : Nat} {b1 : Nat} {s0 : Int32} {m : CS} {σ : jS} {Φ : Option Value → CS → Prop} (hV : CV X m σ) (h : w_Rd_goesOn_79 X b1 s0 m Φ) : jW X.1 X.2.1 jcl X.2.2.1 X.2.2.2.1 (d + 6) y_Rd_goesOn 79 [some (.ref (adr X 6)), some (.ref b1)] [.int s0] σ (cP X Φ) := by
  unfold w_Rd_goesOn_79 at h
  exact jW.zret (dx_Rd_goesOn 20 (e := (79, .ireturn, 1)) rfl) rfl h.1.n ⟨_, hV, h.2⟩
def w_Rd_goesOn_100 (X : CX) (b1 : Nat) (m : CS) (Φ : Option Value → CS → Prop) : Prop := Φ (some (.int (0))) m
theorem t_Rd_goesOn_100 {X : CX} {a0 : Array Value} (F : cF X a0) {d : Nat} {b1 : Nat} {m : CS} {σ : jS} {Φ : Option Value → CS → Prop} (hV : CV X m σ) (h : w_Rd_goesOn_100 X b1 m Φ) : jW X.1 X.2.1 jcl X.2.2.1 X.2.2.2.1 (d + 6) y_Rd_goesOn 100 [some (.ref (adr X 6)), some (.ref b1)] [] σ (cP X Φ) := by
  unfold w_Rd_goesOn_100 at h
  refine jW.iconst (v := 0) (dx_Rd_goesOn 31 (e := (100, .iconst 0, 1)) rfl) (by decide) (pc' := 101) rfl ?_
  exact jW.zret (dx_Rd_goesOn 32 (e := (101, .ireturn, 1)) rfl) rfl (by decide) ⟨_, hV, h⟩
def w_Rd_goesOn_99 (X : CX) (b1 : Nat) (s0 : Int32) (m : CS) (Φ : Option Value → CS → Prop) : Prop := (mZ (s0) ∧ Φ (some (.int (s0))) m)
theorem t_Rd_goesOn_99 {X : CX} {a0 : Array Value} (F : cF X a0) {d : Nat} {b1 : Nat} {s0 : Int32} {m : CS} {σ : jS} {Φ : Option Value → CS → Prop} (hV : CV X m σ) (h : w_Rd_goesOn_99 X b1 s0 m Φ) : jW X.1 X.2.1 jcl X.2.2.1 X.2.2.2.1 (d + 6) y_Rd_goesOn 99 [some (.ref (adr X 6)), some (.ref b1)] [.int s0] σ (cP X Φ) := by
  unfold w_Rd_goesOn_99 at h
  exact jW.zret (dx_Rd_goesOn 30 (e := (99, .ireturn, 1)) rfl) rfl h.1.n ⟨_, hV, h.2⟩
def w_Rd_goesOn_0 (X : CX) (b1 : Nat) (m : CS) (Φ : Option Value → CS → Prop) : Prop := (∃ i1, isB m (b1) i1 ∧ (((vb m.1 i1 0).toInt < 1 ∨ 7 < (vb m.1 i1 0).toInt → w_Rd_goesOn_100 X (b1) m Φ) ∧ (vb m.1 i1 0 = 1 → cE X 2 y_Line_passQuoteMark [.ref (adr X 5)] m (ciP fun r1 m1 => (mZ (r1) ∧ Φ (some (.int (r1))) m1))) ∧ (vb m.1 i1 0 = 2 → Φ (some (.int (1))) m) ∧ (vb m.1 i1 0 = 3 → cE X 5 y_Rd_itemGoesOn [.ref (adr X 6), .ref (b1)] m (ciP fun r2 m2 => (mZ (r2) ∧ Φ (some (.int (r2))) m2))) ∧ (vb m.1 i1 0 = 4 → cE X 1 y_Line_isBlank [.ref (adr X 5)] m (ciP fun r3 m3 => ((r3 = 0 → w_Rd_goesOn_79 X (b1) (1) m3 Φ) ∧ (¬ r3 = 0 → w_Rd_goesOn_79 X (b1) (0) m3 Φ)))) ∧ (vb m.1 i1 0 = 5 → w_Rd_goesOn_100 X (b1) m Φ) ∧ (vb m.1 i1 0 = 6 → w_Rd_goesOn_100 X (b1) m Φ) ∧ (vb m.1 i1 0 = 7 → (∃ i2, isB m (b1) i2 ∧ ((vb m.1 i2 12 = 0 → cE X 3 y_Rd_indentedGoesOn [.ref (adr X 6)] m (ciP fun r4 m4 => w_Rd_goesOn_99 X (b1) (r4) m4 Φ)) ∧ (¬ vb m.1 i2 12 = 0 → cE X 4 y_Rd_fencedGoesOn [.ref (adr X 6), .ref (b1)] m (ciP fun r5 m5 => w_Rd_goesOn_99 X (b1) (r5) m5 Φ)))))))
theorem t_Rd_goesOn_0 {X : CX} {a0 : Array Value} (F : cF X a0) {d : Nat} {b1 : Nat} {m : CS} {σ : jS} {Φ : Option Value → CS → Prop} (hV : CV X m σ) (h : w_Rd_goesOn_0 X b1 m Φ) : jW X.1 X.2.1 jcl X.2.2.1 X.2.2.2.1 (d + 6) y_Rd_goesOn 0 [some (.ref (adr X 6)), some (.ref b1)] [] σ (cP X Φ) := by
  unfold w_Rd_goesOn_0 at h
  refine jW.aload_n (dx_Rd_goesOn 0 (e := (0, .aload_n 1, 1)) rfl) rfl rfl (pc' := 1) rfl ?_
  obtain ⟨i1, hi, h⟩ := h
  refine jW.cgb F hV hi f_Rd_goesOn_1 (by decide) (pc' := 4) rfl ?_
  refine jW.sw (lo := 1) (hi := 7) (fun c => ?_) (fun c => ?_)
  · replace h := h.1 c
    refine jW.tableOut (dx_Rd_goesOn 2 (e := (4, .tableswitch 96 1 7 #[44, 52, 54, 60, 96, 96, 76], 44)) rfl) c 100 (by decide) ?_
    exact t_Rd_goesOn_100 F hV h
  · replace h := h.2
    refine jW.swc 1 c (by decide) (fun e => ?_) (fun c => ?_)
    · replace h := h.1 e
      refine jW.tableJ (dx_Rd_goesOn 2 (e := (4, .tableswitch 96 1 7 #[44, 52, 54, 60, 96, 96, 76], 44)) rfl) e (by decide) (by decide) rfl 48 (by decide) ?_
      refine jW.aload_n (dx_Rd_goesOn 3 (e := (48, .aload_n 0, 1)) rfl) rfl rfl (pc' := 49) rfl ?_
      refine jW.cg (κ := 6) (k := 2) F hV.s6 f_Rd_goesOn_49 (by decide) rfl (pc' := 52) rfl ?_
      refine jW.callVe F (h (d + 3) _ hV) (dx_Rd_goesOn 5 (e := (52, .invokevirtual 101, 3)) rfl) can_Line_passQuoteMark jw_578 jw_579 hV.cl5 rfl jw_580 rfl rfl (Nat.le_of_ble_eq_true rfl) (pc' := 55) rfl (fun r σ hr => ?_)
      clear hV
      obtain ⟨_, hV, _, rfl, h⟩ := hr
      exact jW.zret (dx_Rd_goesOn 6 (e := (55, .ireturn, 1)) rfl) rfl h.1.n ⟨_, hV, h.2⟩
    · replace h := h.2
      refine jW.swc 2 c (by decide) (fun e => ?_) (fun c => ?_)
      · replace h := h.1 e
        refine jW.tableJ (dx_Rd_goesOn 2 (e := (4, .tableswitch 96 1 7 #[44, 52, 54, 60, 96, 96, 76], 44)) rfl) e (by decide) (by decide) rfl 56 (by decide) ?_
        refine jW.iconst (v := 1) (dx_Rd_goesOn 7 (e := (56, .iconst 1, 1)) rfl) (by decide) (pc' := 57) rfl ?_
        exact jW.zret (dx_Rd_goesOn 8 (e := (57, .ireturn, 1)) rfl) rfl (by decide) ⟨_, hV, h⟩
      · replace h := h.2
        refine jW.swc 3 c (by decide) (fun e => ?_) (fun c => ?_)
        · replace h := h.1 e
          refine jW.tableJ (dx_Rd_goesOn 2 (e := (4, .tableswitch 96 1 7 #[44, 52, 54, 60, 96, 96, 76], 44)) rfl) e (by decide) (by decide) rfl 58 (by decide) ?_
          refine jW.aload_n (dx_Rd_goesOn 9 (e := (58, .aload_n 0, 1)) rfl) rfl rfl (pc' := 59) rfl ?_
          refine jW.aload_n (dx_Rd_goesOn 10 (e := (59, .aload_n 1, 1)) rfl) rfl rfl (pc' := 60) rfl ?_
          refine jW.callVe F (h (d + 0) _ hV) (dx_Rd_goesOn 11 (e := (60, .invokevirtual 104, 3)) rfl) can_Rd_itemGoesOn jw_594 jw_596 hV.cl6 rfl sel_Rd_itemGoesOn rfl rfl (Nat.le_of_ble_eq_true rfl) (pc' := 63) rfl (fun r σ hr => ?_)
          clear hV
          obtain ⟨_, hV, _, rfl, h⟩ := hr
          exact jW.zret (dx_Rd_goesOn 12 (e := (63, .ireturn, 1)) rfl) rfl h.1.n ⟨_, hV, h.2⟩
        · replace h := h.2
          refine jW.swc 4 c (by decide) (fun e => ?_) (fun c => ?_)
          · replace h := h.1 e
            refine jW.tableJ (dx_Rd_goesOn 2 (e := (4, .tableswitch 96 1 7 #[44, 52, 54, 60, 96, 96, 76], 44)) rfl) e (by decide) (by decide) rfl 64 (by decide) ?_
            refine jW.aload_n (dx_Rd_goesOn 13 (e := (64, .aload_n 0, 1)) rfl) rfl rfl (pc' := 65) rfl ?_
            refine jW.cg (κ := 6) (k := 2) F hV.s6 f_Rd_goesOn_65 (by decide) rfl (pc' := 68) rfl ?_
            refine jW.callVe F (h (d + 4) _ hV) (dx_Rd_goesOn 15 (e := (68, .invokevirtual 90, 3)) rfl) can_Line_isBlank jw_598 jw_599 hV.cl5 rfl jw_600 rfl rfl (Nat.le_of_ble_eq_true rfl) (pc' := 71) rfl (fun r σ hr => ?_)
            clear hV
            obtain ⟨_, hV, _, rfl, h⟩ := hr
            refine jW.if_ne (dx_Rd_goesOn 16 (e := (71, .ifCond .ne 7, 3)) rfl) 78 (by decide) (pc' := 74) rfl (fun c => ?_) (fun c => ?_)
            · replace h := h.2 c
              refine jW.iconst (v := 0) (dx_Rd_goesOn 19 (e := (78, .iconst 0, 1)) rfl) (by decide) (pc' := 79) rfl ?_
              exact t_Rd_goesOn_79 F hV h
            · replace h := h.1 c
              refine jW.iconst (v := 1) (dx_Rd_goesOn 17 (e := (74, .iconst 1, 1)) rfl) (by decide) (pc' := 75) rfl ?_
              refine jW.goto (dx_Rd_goesOn 18 (e := (75, .goto 4, 3)) rfl) 79 (by decide) ?_
              exact t_Rd_goesOn_79 F hV h
          · replace h := h.2
            refine jW.swc 5 c (by decide) (fun e => ?_) (fun c => ?_)
            · replace h := h.1 e
              refine jW.tableJ (dx_Rd_goesOn 2 (e := (4, .tableswitch 96 1 7 #[44, 52, 54, 60, 96, 96, 76], 44)) rfl) e (by decide) (by decide) rfl 100 (by decide) ?_
              exact t_Rd_goesOn_100 F hV h
            · replace h := h.2
              refine jW.swc 6 c (by decide) (fun e => ?_) (fun c => ?_)
              · replace h := h.1 e
                refine jW.tableJ (dx_Rd_goesOn 2 (e := (4, .tableswitch 96 1 7 #[44, 52, 54, 60, 96, 96, 76], 44)) rfl) e (by decide) (by decide) rfl 100 (by decide) ?_
                exact t_Rd_goesOn_100 F hV h
              · replace h := h.2
                have e := sw_last (v := 7) c (by decide) (by decide)
                replace h := h e
                refine jW.tableJ (z := 7) (dx_Rd_goesOn 2 (e := (4, .tableswitch 96 1 7 #[44, 52, 54, 60, 96, 96, 76], 44)) rfl) e (by decide) (by decide) rfl 80 (by decide) ?_
                refine jW.aload_n (dx_Rd_goesOn 21 (e := (80, .aload_n 1, 1)) rfl) rfl rfl (pc' := 81) rfl ?_
                obtain ⟨i2, hi, h⟩ := h
                refine jW.cgb F hV hi f_Rd_goesOn_81 (by decide) (pc' := 84) rfl ?_
                refine jW.if_eq (dx_Rd_goesOn 23 (e := (84, .ifCond .eq 11, 3)) rfl) 95 (by decide) (pc' := 87) rfl (fun c => ?_) (fun c => ?_)
                · replace h := h.1 c
                  refine jW.aload_n (dx_Rd_goesOn 28 (e := (95, .aload_n 0, 1)) rfl) rfl rfl (pc' := 96) rfl ?_
                  refine jW.callVe F (h (d + 2) _ hV) (dx_Rd_goesOn 29 (e := (96, .invokevirtual 113, 3)) rfl) can_Rd_indentedGoesOn jw_636 jw_638 hV.cl6 rfl sel_Rd_indentedGoesOn rfl rfl (Nat.le_of_ble_eq_true rfl) (pc' := 99) rfl (fun r σ hr => ?_)
                  clear hV
                  obtain ⟨_, hV, _, rfl, h⟩ := hr
                  exact t_Rd_goesOn_99 F hV h
                · replace h := h.2 c
                  refine jW.aload_n (dx_Rd_goesOn 24 (e := (87, .aload_n 0, 1)) rfl) rfl rfl (pc' := 88) rfl ?_
                  refine jW.aload_n (dx_Rd_goesOn 25 (e := (88, .aload_n 1, 1)) rfl) rfl rfl (pc' := 89) rfl ?_
                  refine jW.callVe F (h (d + 1) _ hV) (dx_Rd_goesOn 26 (e := (89, .invokevirtual 110, 3)) rfl) can_Rd_fencedGoesOn jw_615 jw_617 hV.cl6 rfl sel_Rd_fencedGoesOn rfl rfl (Nat.le_of_ble_eq_true rfl) (pc' := 92) rfl (fun r σ hr => ?_)
                  clear hV
                  obtain ⟨_, hV, _, rfl, h⟩ := hr
                  refine jW.goto (dx_Rd_goesOn 27 (e := (92, .goto 7, 3)) rfl) 99 (by decide) ?_
                  exact t_Rd_goesOn_99 F hV h
theorem g_Rd_goesOn {X : CX} {a0 : Array Value} (F : cF X a0) {b1 : Nat} {m : CS} {Φ : Option Value → CS → Prop} (he : w_Rd_goesOn_0 X b1 m Φ) : cE X 6 y_Rd_goesOn [.ref (adr X 6), .ref b1] m Φ := by
  intro d σ hV
  refine jE.of (by decide) (by simp [Value.category]) (Nat.le_of_ble_eq_true rfl) rfl ?_
  exact t_Rd_goesOn_0 F hV he
def w_Rd_itemGoesOn_64 (X : CX) (b1 : Nat) (x2 : Int32) (s1 : Int32) (m : CS) (Φ : Option Value → CS → Prop) : Prop := cE X 2 y_Line_moveOn [.ref (adr X 5), .int (s1)] m (cvP fun m1 => Φ (some (.int (1))) m1)
theorem t_Rd_itemGoesOn_64 {X : CX} {a0 : Array Value} (F : cF X a0) {d : Nat} {b1 : Nat} {x2 : Int32} {s1 : Int32} {m : CS} {σ : jS} {Φ : Option Value → CS → Prop} (hV : CV X m σ) (h : w_Rd_itemGoesOn_64 X b1 x2 s1 m Φ) : jW X.1 X.2.1 jcl X.2.2.1 X.2.2.2.1 (d + 5) y_Rd_itemGoesOn 64 [some (.ref (adr X 6)), some (.ref b1), some (.int x2)] [.int s1, .ref (adr X 5)] σ (cP X Φ) := by
  unfold w_Rd_itemGoesOn_64 at h
  refine jW.callVe F (h (d + 2) _ hV) (dx_Rd_itemGoesOn 30 (e := (64, .invokevirtual 125, 3)) rfl) can_Line_moveOn jw_611 jw_612 hV.cl5 rfl jw_613 rfl rfl (Nat.le_of_ble_eq_true rfl) (pc' := 67) rfl (fun r σ hr => ?_)
  clear hV
  obtain ⟨_, hV, rfl, h⟩ := hr
  refine jW.iconst (v := 1) (dx_Rd_itemGoesOn 31 (e := (67, .iconst 1, 1)) rfl) (by decide) (pc' := 68) rfl ?_
  exact jW.zret (dx_Rd_itemGoesOn 32 (e := (68, .ireturn, 1)) rfl) rfl (by decide) ⟨_, hV, h⟩
def w_Rd_itemGoesOn_42 (X : CX) (b1 : Nat) (x2 : Int32) (m : CS) (Φ : Option Value → CS → Prop) : Prop := ((x2 = 0 → (∃ i1, isB m (b1) i1 ∧ w_Rd_itemGoesOn_64 X (b1) (x2) (vb m.1 i1 11) m Φ)) ∧ (¬ x2 = 0 → cE X 0 y_Line_indent [.ref (adr X 5)] m (ciP fun r1 m1 => w_Rd_itemGoesOn_64 X (b1) (x2) (r1) m1 Φ)))
theorem t_Rd_itemGoesOn_42 {X : CX} {a0 : Array Value} (F : cF X a0) {d : Nat} {b1 : Nat} {x2 : Int32} {m : CS} {σ : jS} {Φ : Option Value → CS → Prop} (hV : CV X m σ) (h : w_Rd_itemGoesOn_42 X b1 x2 m Φ) : jW X.1 X.2.1 jcl X.2.2.1 X.2.2.2.1 (d + 5) y_Rd_itemGoesOn 42 [some (.ref (adr X 6)), some (.ref b1), some (.int x2)] [] σ (cP X Φ) := by
  unfold w_Rd_itemGoesOn_42 at h
  refine jW.aload_n (dx_Rd_itemGoesOn 20 (e := (42, .aload_n 0, 1)) rfl) rfl rfl (pc' := 43) rfl ?_
  refine jW.cg (κ := 6) (k := 2) F hV.s6 f_Rd_itemGoesOn_43 (by decide) rfl (pc' := 46) rfl ?_
  refine jW.iload_n (dx_Rd_itemGoesOn 22 (e := (46, .iload_n 2, 1)) rfl) rfl rfl (pc' := 47) rfl ?_
  refine jW.if_eq (dx_Rd_itemGoesOn 23 (e := (47, .ifCond .eq 13, 3)) rfl) 60 (by decide) (pc' := 50) rfl (fun c => ?_) (fun c => ?_)
  · replace h := h.1 c
    refine jW.aload_n (dx_Rd_itemGoesOn 28 (e := (60, .aload_n 1, 1)) rfl) rfl rfl (pc' := 61) rfl ?_
    obtain ⟨i1, hi, h⟩ := h
    refine jW.cgb F hV hi f_Rd_itemGoesOn_61 (by decide) (pc' := 64) rfl ?_
    exact t_Rd_itemGoesOn_64 F hV h
  · replace h := h.2 c
    refine jW.aload_n (dx_Rd_itemGoesOn 24 (e := (50, .aload_n 0, 1)) rfl) rfl rfl (pc' := 51) rfl ?_
    refine jW.cg (κ := 6) (k := 2) F hV.s6 f_Rd_itemGoesOn_51 (by decide) rfl (pc' := 54) rfl ?_
    refine jW.callVe F (h (d + 4) _ hV) (dx_Rd_itemGoesOn 26 (e := (54, .invokevirtual 119, 3)) rfl) can_Line_indent jw_607 jw_608 hV.cl5 rfl jw_609 rfl rfl (Nat.le_of_ble_eq_true rfl) (pc' := 57) rfl (fun r σ hr => ?_)
    clear hV
    obtain ⟨_, hV, _, rfl, h⟩ := hr
    refine jW.goto (dx_Rd_itemGoesOn 27 (e := (57, .goto 7, 3)) rfl) 64 (by decide) ?_
    exact t_Rd_itemGoesOn_64 F hV h
def w_Rd_itemGoesOn_40 (X : CX) (b1 : Nat) (x2 : Int32) (m : CS) (Φ : Option Value → CS → Prop) : Prop := Φ (some (.int (0))) m
theorem t_Rd_itemGoesOn_40 {X : CX} {a0 : Array Value} (F : cF X a0) {d : Nat} {b1 : Nat} {x2 : Int32} {m : CS} {σ : jS} {Φ : Option Value → CS → Prop} (hV : CV X m σ) (h : w_Rd_itemGoesOn_40 X b1 x2 m Φ) : jW X.1 X.2.1 jcl X.2.2.1 X.2.2.2.1 (d + 5) y_Rd_itemGoesOn 40 [some (.ref (adr X 6)), some (.ref b1), some (.int x2)] [] σ (cP X Φ) := by
  unfold w_Rd_itemGoesOn_40 at h
  refine jW.iconst (v := 0) (dx_Rd_itemGoesOn 18 (e := (40, .iconst 0, 1)) rfl) (by decide) (pc' := 41) rfl ?_
  exact jW.zret (dx_Rd_itemGoesOn 19 (e := (41, .ireturn, 1)) rfl) rfl (by decide) ⟨_, hV, h⟩
def w_Rd_itemGoesOn_0 (X : CX) (b1 : Nat) (m : CS) (Φ : Option Value → CS → Prop) : Prop := cE X 1 y_Line_isBlank [.ref (adr X 5)] m (ciP fun r1 m1 => ((r1 = 0 → cE X 0 y_Line_indent [.ref (adr X 5)] m1 (ciP fun r2 m2 => (∃ i1, isB m2 (b1) i1 ∧ ((vb m2.1 i1 11 ≤ r2 → w_Rd_itemGoesOn_42 X (b1) (r1) m2 Φ) ∧ (¬ vb m2.1 i1 11 ≤ r2 → w_Rd_itemGoesOn_40 X (b1) (r1) m2 Φ))))) ∧ (¬ r1 = 0 → cE X 4 y_Tree_holdsSomething [.ref (adr X 2), .ref (b1)] m1 (ciP fun r3 m3 => ((r3 = 0 → w_Rd_itemGoesOn_40 X (b1) (r1) m3 Φ) ∧ (¬ r3 = 0 → w_Rd_itemGoesOn_42 X (b1) (r1) m3 Φ))))))
theorem t_Rd_itemGoesOn_0 {X : CX} {a0 : Array Value} (F : cF X a0) {d : Nat} {b1 : Nat} {o2 : Option Value} {m : CS} {σ : jS} {Φ : Option Value → CS → Prop} (hV : CV X m σ) (h : w_Rd_itemGoesOn_0 X b1 m Φ) : jW X.1 X.2.1 jcl X.2.2.1 X.2.2.2.1 (d + 5) y_Rd_itemGoesOn 0 [some (.ref (adr X 6)), some (.ref b1), o2] [] σ (cP X Φ) := by
  unfold w_Rd_itemGoesOn_0 at h
  refine jW.aload_n (dx_Rd_itemGoesOn 0 (e := (0, .aload_n 0, 1)) rfl) rfl rfl (pc' := 1) rfl ?_
  refine jW.cg (κ := 6) (k := 2) F hV.s6 f_Rd_itemGoesOn_1 (by decide) rfl (pc' := 4) rfl ?_
  refine jW.callVe F (h (d + 3) _ hV) (dx_Rd_itemGoesOn 2 (e := (4, .invokevirtual 90, 3)) rfl) can_Line_isBlank jw_598 jw_599 hV.cl5 rfl jw_600 rfl rfl (Nat.le_of_ble_eq_true rfl) (pc' := 7) rfl (fun r σ hr => ?_)
  clear hV
  obtain ⟨_, hV, _, rfl, h⟩ := hr
  refine jW.istore_n (dx_Rd_itemGoesOn 3 (e := (7, .istore_n 2, 1)) rfl) rfl (by decide) rfl (pc' := 8) rfl ?_
  refine jW.iload_n (dx_Rd_itemGoesOn 4 (e := (8, .iload_n 2, 1)) rfl) rfl rfl (pc' := 9) rfl ?_
  refine jW.if_eq (dx_Rd_itemGoesOn 5 (e := (9, .ifCond .eq 17, 3)) rfl) 26 (by decide) (pc' := 12) rfl (fun c => ?_) (fun c => ?_)
  · replace h := h.1 c
    refine jW.aload_n (dx_Rd_itemGoesOn 12 (e := (26, .aload_n 0, 1)) rfl) rfl rfl (pc' := 27) rfl ?_
    refine jW.cg (κ := 6) (k := 2) F hV.s6 f_Rd_itemGoesOn_27 (by decide) rfl (pc' := 30) rfl ?_
    refine jW.callVe F (h (d + 4) _ hV) (dx_Rd_itemGoesOn 14 (e := (30, .invokevirtual 119, 3)) rfl) can_Line_indent jw_607 jw_608 hV.cl5 rfl jw_609 rfl rfl (Nat.le_of_ble_eq_true rfl) (pc' := 33) rfl (fun r σ hr => ?_)
    clear hV
    obtain ⟨_, hV, _, rfl, h⟩ := hr
    refine jW.aload_n (dx_Rd_itemGoesOn 15 (e := (33, .aload_n 1, 1)) rfl) rfl rfl (pc' := 34) rfl ?_
    obtain ⟨i1, hi, h⟩ := h
    refine jW.cgb F hV hi f_Rd_itemGoesOn_34 (by decide) (pc' := 37) rfl ?_
    refine jW.icmp_ge (dx_Rd_itemGoesOn 17 (e := (37, .if_icmp .ge 5, 3)) rfl) 42 (by decide) (pc' := 40) rfl (fun c => ?_) (fun c => ?_)
    · replace h := h.1 c
      exact t_Rd_itemGoesOn_42 F hV h
    · replace h := h.2 c
      exact t_Rd_itemGoesOn_40 F hV h
  · replace h := h.2 c
    refine jW.aload_n (dx_Rd_itemGoesOn 6 (e := (12, .aload_n 0, 1)) rfl) rfl rfl (pc' := 13) rfl ?_
    refine jW.cg (κ := 6) (k := 0) F hV.s6 f_Rd_itemGoesOn_13 (by decide) rfl (pc' := 16) rfl ?_
    refine jW.aload_n (dx_Rd_itemGoesOn 8 (e := (16, .aload_n 1, 1)) rfl) rfl rfl (pc' := 17) rfl ?_
    refine jW.callVe F (h (d + 0) _ hV) (dx_Rd_itemGoesOn 9 (e := (17, .invokevirtual 116, 3)) rfl) can_Tree_holdsSomething jw_602 jw_603 hV.cl2 rfl jw_604 rfl rfl (Nat.le_of_ble_eq_true rfl) (pc' := 20) rfl (fun r σ hr => ?_)
    clear hV
    obtain ⟨_, hV, _, rfl, h⟩ := hr
    refine jW.if_ne (dx_Rd_itemGoesOn 10 (e := (20, .ifCond .ne 22, 3)) rfl) 42 (by decide) (pc' := 23) rfl (fun c => ?_) (fun c => ?_)
    · replace h := h.2 c
      exact t_Rd_itemGoesOn_42 F hV h
    · replace h := h.1 c
      refine jW.goto (dx_Rd_itemGoesOn 11 (e := (23, .goto 17, 3)) rfl) 40 (by decide) ?_
      exact t_Rd_itemGoesOn_40 F hV h
theorem g_Rd_itemGoesOn {X : CX} {a0 : Array Value} (F : cF X a0) {b1 : Nat} {m : CS} {Φ : Option Value → CS → Prop} (he : w_Rd_itemGoesOn_0 X b1 m Φ) : cE X 5 y_Rd_itemGoesOn [.ref (adr X 6), .ref b1] m Φ := by
  intro d σ hV
  refine jE.of (by decide) (by simp [Value.category]) (Nat.le_of_ble_eq_true rfl) rfl ?_
  exact t_Rd_itemGoesOn_0 F hV he
def w_Rd_fencedGoesOn_0 (X : CX) (b1 : Nat) (m : CS) (Φ : Option Value → CS → Prop) : Prop := (∃ i1, isB m (b1) i1 ∧ cE X 3 y_Line_endsFence [.ref (adr X 5), .int (vb m.1 i1 12), .int (vi m.1 68)] m (ciP fun r1 m1 => ((r1 = 0 → cE X 0 y_Line_indent [.ref (adr X 5)] m1 (ciP fun r5 m5 => cE X 0 y_Math_min [.int (vi m1.1 69), .int (r5)] m5 (ciP fun r6 m6 => cE X 2 y_Line_moveOn [.ref (adr X 5), .int (r6)] m6 (cvP fun m7 => Φ (some (.int (1))) m7)))) ∧ (¬ r1 = 0 → (∃ i2, isB m1 (b1) i2 ∧ ∀ m2, m2 = cB m1 i2 10 (vi m1.1 66) → ∀ m3, m3 = cI m2 64 ((vi m2.1 64) - 1) → ∀ m4, m4 = cI m3 67 (1) → Φ (some (.int (0))) m4)))))
theorem t_Rd_fencedGoesOn_0 {X : CX} {a0 : Array Value} (F : cF X a0) {d : Nat} {b1 : Nat} {m : CS} {σ : jS} {Φ : Option Value → CS → Prop} (hV : CV X m σ) (h : w_Rd_fencedGoesOn_0 X b1 m Φ) : jW X.1 X.2.1 jcl X.2.2.1 X.2.2.2.1 (d + 4) y_Rd_fencedGoesOn 0 [some (.ref (adr X 6)), some (.ref b1)] [] σ (cP X Φ) := by
  unfold w_Rd_fencedGoesOn_0 at h
  refine jW.aload_n (dx_Rd_fencedGoesOn 0 (e := (0, .aload_n 0, 1)) rfl) rfl rfl (pc' := 1) rfl ?_
  refine jW.cg (κ := 6) (k := 2) F hV.s6 f_Rd_fencedGoesOn_1 (by decide) rfl (pc' := 4) rfl ?_
  refine jW.aload_n (dx_Rd_fencedGoesOn 2 (e := (4, .aload_n 1, 1)) rfl) rfl rfl (pc' := 5) rfl ?_
  obtain ⟨i1, hi, h⟩ := h
  refine jW.cgb F hV hi f_Rd_fencedGoesOn_5 (by decide) (pc' := 8) rfl ?_
  refine jW.aload_n (dx_Rd_fencedGoesOn 4 (e := (8, .aload_n 0, 1)) rfl) rfl rfl (pc' := 9) rfl ?_
  refine jW.cg (κ := 6) (k := 8) F hV.s6 f_Rd_fencedGoesOn_9 (by decide) rfl (pc' := 12) rfl ?_
  refine jW.callVe F (h (d + 0) _ hV) (dx_Rd_fencedGoesOn 6 (e := (12, .invokevirtual 131, 3)) rfl) can_Line_endsFence jw_619 jw_620 hV.cl5 rfl jw_621 rfl rfl (Nat.le_of_ble_eq_true rfl) (pc' := 15) rfl (fun r σ hr => ?_)
  clear hV
  obtain ⟨_, hV, _, rfl, h⟩ := hr
  refine jW.if_ne (dx_Rd_fencedGoesOn 7 (e := (15, .ifCond .ne 26, 3)) rfl) 41 (by decide) (pc' := 18) rfl (fun c => ?_) (fun c => ?_)
  · replace h := h.2 c
    refine jW.aload_n (dx_Rd_fencedGoesOn 19 (e := (41, .aload_n 1, 1)) rfl) rfl rfl (pc' := 42) rfl ?_
    refine jW.aload_n (dx_Rd_fencedGoesOn 20 (e := (42, .aload_n 0, 1)) rfl) rfl rfl (pc' := 43) rfl ?_
    refine jW.cg (κ := 6) (k := 6) F hV.s6 f_Rd_fencedGoesOn_43 (by decide) rfl (pc' := 46) rfl ?_
    obtain ⟨i2, hi, h⟩ := h
    refine jW.cpb F hV hi f_Rd_fencedGoesOn_46 (by decide) rfl rfl rfl (pc' := 49) rfl (fun σ hV => ?_)
    replace h := h _ rfl
    refine jW.aload_n (dx_Rd_fencedGoesOn 23 (e := (49, .aload_n 0, 1)) rfl) rfl rfl (pc' := 50) rfl ?_
    refine jW.dup (dx_Rd_fencedGoesOn 24 (e := (50, .dup, 1)) rfl) rfl (pc' := 51) rfl ?_
    refine jW.cg (κ := 6) (k := 4) F hV.s6 f_Rd_fencedGoesOn_51 (by decide) rfl (pc' := 54) rfl ?_
    refine jW.iconst (v := 1) (dx_Rd_fencedGoesOn 26 (e := (54, .iconst 1, 1)) rfl) (by decide) (pc' := 55) rfl ?_
    refine jW.isub (dx_Rd_fencedGoesOn 27 (e := (55, .isub, 1)) rfl) (pc' := 56) rfl ?_
    refine jW.cp6 (k := 4) F hV f_Rd_fencedGoesOn_56 (by decide) rfl rfl rfl (pc' := 59) rfl (fun σ hV => ?_)
    replace h := h _ rfl
    refine jW.aload_n (dx_Rd_fencedGoesOn 29 (e := (59, .aload_n 0, 1)) rfl) rfl rfl (pc' := 60) rfl ?_
    refine jW.iconst (v := 1) (dx_Rd_fencedGoesOn 30 (e := (60, .iconst 1, 1)) rfl) (by decide) (pc' := 61) rfl ?_
    refine jW.cp6 (k := 7) F hV f_Rd_fencedGoesOn_61 (by decide) rfl rfl rfl (pc' := 64) rfl (fun σ hV => ?_)
    replace h := h _ rfl
    refine jW.iconst (v := 0) (dx_Rd_fencedGoesOn 32 (e := (64, .iconst 0, 1)) rfl) (by decide) (pc' := 65) rfl ?_
    exact jW.zret (dx_Rd_fencedGoesOn 33 (e := (65, .ireturn, 1)) rfl) rfl (by decide) ⟨_, hV, h⟩
  · replace h := h.1 c
    refine jW.aload_n (dx_Rd_fencedGoesOn 8 (e := (18, .aload_n 0, 1)) rfl) rfl rfl (pc' := 19) rfl ?_
    refine jW.cg (κ := 6) (k := 2) F hV.s6 f_Rd_fencedGoesOn_19 (by decide) rfl (pc' := 22) rfl ?_
    refine jW.aload_n (dx_Rd_fencedGoesOn 10 (e := (22, .aload_n 0, 1)) rfl) rfl rfl (pc' := 23) rfl ?_
    refine jW.cg (κ := 6) (k := 9) F hV.s6 f_Rd_fencedGoesOn_23 (by decide) rfl (pc' := 26) rfl ?_
    refine jW.aload_n (dx_Rd_fencedGoesOn 12 (e := (26, .aload_n 0, 1)) rfl) rfl rfl (pc' := 27) rfl ?_
    refine jW.cg (κ := 6) (k := 2) F hV.s6 f_Rd_fencedGoesOn_27 (by decide) rfl (pc' := 30) rfl ?_
    refine jW.callVe F (h (d + 3) _ hV) (dx_Rd_fencedGoesOn 14 (e := (30, .invokevirtual 119, 3)) rfl) can_Line_indent jw_607 jw_608 hV.cl5 rfl jw_609 rfl rfl (Nat.le_of_ble_eq_true rfl) (pc' := 33) rfl (fun r σ hr => ?_)
    clear hV
    obtain ⟨_, hV, _, rfl, h⟩ := hr
    refine jW.callS F (h (d + 3) _ hV) (dx_Rd_fencedGoesOn 15 (e := (33, .invokestatic 138, 3)) rfl) can_Math_min jw_635 jw_201 rfl rfl (Nat.le_of_ble_eq_true rfl) (pc' := 36) rfl (fun r σ hr => ?_)
    clear hV
    obtain ⟨_, hV, _, rfl, h⟩ := hr
    refine jW.callVe F (h (d + 1) _ hV) (dx_Rd_fencedGoesOn 16 (e := (36, .invokevirtual 125, 3)) rfl) can_Line_moveOn jw_611 jw_612 hV.cl5 rfl jw_613 rfl rfl (Nat.le_of_ble_eq_true rfl) (pc' := 39) rfl (fun r σ hr => ?_)
    clear hV
    obtain ⟨_, hV, rfl, h⟩ := hr
    refine jW.iconst (v := 1) (dx_Rd_fencedGoesOn 17 (e := (39, .iconst 1, 1)) rfl) (by decide) (pc' := 40) rfl ?_
    exact jW.zret (dx_Rd_fencedGoesOn 18 (e := (40, .ireturn, 1)) rfl) rfl (by decide) ⟨_, hV, h⟩
theorem g_Rd_fencedGoesOn {X : CX} {a0 : Array Value} (F : cF X a0) {b1 : Nat} {m : CS} {Φ : Option Value → CS → Prop} (he : w_Rd_fencedGoesOn_0 X b1 m Φ) : cE X 4 y_Rd_fencedGoesOn [.ref (adr X 6), .ref b1] m Φ := by
  intro d σ hV
  refine jE.of (by decide) (by simp [Value.category]) (Nat.le_of_ble_eq_true rfl) rfl ?_
  exact t_Rd_fencedGoesOn_0 F hV he
def w_Rd_indentedGoesOn_23 (X : CX) (m : CS) (Φ : Option Value → CS → Prop) : Prop := cE X 0 y_Line_indent [.ref (adr X 5)] m (ciP fun r1 m1 => cE X 0 y_Math_min [.int (4), .int (r1)] m1 (ciP fun r2 m2 => cE X 2 y_Line_moveOn [.ref (adr X 5), .int (r2)] m2 (cvP fun m3 => Φ (some (.int (1))) m3)))
theorem t_Rd_indentedGoesOn_23 {X : CX} {a0 : Array Value} (F : cF X a0) {d : Nat} {m : CS} {σ : jS} {Φ : Option Value → CS → Prop} (hV : CV X m σ) (h : w_Rd_indentedGoesOn_23 X m Φ) : jW X.1 X.2.1 jcl X.2.2.1 X.2.2.2.1 (d + 3) y_Rd_indentedGoesOn 23 [some (.ref (adr X 6))] [] σ (cP X Φ) := by
  unfold w_Rd_indentedGoesOn_23 at h
  refine jW.aload_n (dx_Rd_indentedGoesOn 11 (e := (23, .aload_n 0, 1)) rfl) rfl rfl (pc' := 24) rfl ?_
  refine jW.cg (κ := 6) (k := 2) F hV.s6 f_Rd_indentedGoesOn_24 (by decide) rfl (pc' := 27) rfl ?_
  refine jW.iconst (v := 4) (dx_Rd_indentedGoesOn 13 (e := (27, .iconst 4, 1)) rfl) (by decide) (pc' := 28) rfl ?_
  refine jW.aload_n (dx_Rd_indentedGoesOn 14 (e := (28, .aload_n 0, 1)) rfl) rfl rfl (pc' := 29) rfl ?_
  refine jW.cg (κ := 6) (k := 2) F hV.s6 f_Rd_indentedGoesOn_29 (by decide) rfl (pc' := 32) rfl ?_
  refine jW.callVe F (h (d + 2) _ hV) (dx_Rd_indentedGoesOn 16 (e := (32, .invokevirtual 119, 3)) rfl) can_Line_indent jw_607 jw_608 hV.cl5 rfl jw_609 rfl rfl (Nat.le_of_ble_eq_true rfl) (pc' := 35) rfl (fun r σ hr => ?_)
  clear hV
  obtain ⟨_, hV, _, rfl, h⟩ := hr
  refine jW.callS F (h (d + 2) _ hV) (dx_Rd_indentedGoesOn 17 (e := (35, .invokestatic 138, 3)) rfl) can_Math_min jw_635 jw_201 rfl rfl (Nat.le_of_ble_eq_true rfl) (pc' := 38) rfl (fun r σ hr => ?_)
  clear hV
  obtain ⟨_, hV, _, rfl, h⟩ := hr
  refine jW.callVe F (h (d + 0) _ hV) (dx_Rd_indentedGoesOn 18 (e := (38, .invokevirtual 125, 3)) rfl) can_Line_moveOn jw_611 jw_612 hV.cl5 rfl jw_613 rfl rfl (Nat.le_of_ble_eq_true rfl) (pc' := 41) rfl (fun r σ hr => ?_)
  clear hV
  obtain ⟨_, hV, rfl, h⟩ := hr
  refine jW.iconst (v := 1) (dx_Rd_indentedGoesOn 19 (e := (41, .iconst 1, 1)) rfl) (by decide) (pc' := 42) rfl ?_
  exact jW.zret (dx_Rd_indentedGoesOn 20 (e := (42, .ireturn, 1)) rfl) rfl (by decide) ⟨_, hV, h⟩
def w_Rd_indentedGoesOn_0 (X : CX) (m : CS) (Φ : Option Value → CS → Prop) : Prop := cE X 0 y_Line_indent [.ref (adr X 5)] m (ciP fun r1 m1 => ((4 ≤ r1 → w_Rd_indentedGoesOn_23 X  m1 Φ) ∧ (¬ 4 ≤ r1 → cE X 1 y_Line_isBlank [.ref (adr X 5)] m1 (ciP fun r2 m2 => ((r2 = 0 → Φ (some (.int (0))) m2) ∧ (¬ r2 = 0 → w_Rd_indentedGoesOn_23 X  m2 Φ))))))
theorem t_Rd_indentedGoesOn_0 {X : CX} {a0 : Array Value} (F : cF X a0) {d : Nat} {m : CS} {σ : jS} {Φ : Option Value → CS → Prop} (hV : CV X m σ) (h : w_Rd_indentedGoesOn_0 X m Φ) : jW X.1 X.2.1 jcl X.2.2.1 X.2.2.2.1 (d + 3) y_Rd_indentedGoesOn 0 [some (.ref (adr X 6))] [] σ (cP X Φ) := by
  unfold w_Rd_indentedGoesOn_0 at h
  refine jW.aload_n (dx_Rd_indentedGoesOn 0 (e := (0, .aload_n 0, 1)) rfl) rfl rfl (pc' := 1) rfl ?_
  refine jW.cg (κ := 6) (k := 2) F hV.s6 f_Rd_indentedGoesOn_1 (by decide) rfl (pc' := 4) rfl ?_
  refine jW.callVe F (h (d + 2) _ hV) (dx_Rd_indentedGoesOn 2 (e := (4, .invokevirtual 119, 3)) rfl) can_Line_indent jw_607 jw_608 hV.cl5 rfl jw_609 rfl rfl (Nat.le_of_ble_eq_true rfl) (pc' := 7) rfl (fun r σ hr => ?_)
  clear hV
  obtain ⟨_, hV, _, rfl, h⟩ := hr
  refine jW.iconst (v := 4) (dx_Rd_indentedGoesOn 3 (e := (7, .iconst 4, 1)) rfl) (by decide) (pc' := 8) rfl ?_
  refine jW.icmp_ge (dx_Rd_indentedGoesOn 4 (e := (8, .if_icmp .ge 15, 3)) rfl) 23 (by decide) (pc' := 11) rfl (fun c => ?_) (fun c => ?_)
  · replace h := h.1 c
    exact t_Rd_indentedGoesOn_23 F hV h
  · replace h := h.2 c
    refine jW.aload_n (dx_Rd_indentedGoesOn 5 (e := (11, .aload_n 0, 1)) rfl) rfl rfl (pc' := 12) rfl ?_
    refine jW.cg (κ := 6) (k := 2) F hV.s6 f_Rd_indentedGoesOn_12 (by decide) rfl (pc' := 15) rfl ?_
    refine jW.callVe F (h (d + 1) _ hV) (dx_Rd_indentedGoesOn 7 (e := (15, .invokevirtual 90, 3)) rfl) can_Line_isBlank jw_598 jw_599 hV.cl5 rfl jw_600 rfl rfl (Nat.le_of_ble_eq_true rfl) (pc' := 18) rfl (fun r σ hr => ?_)
    clear hV
    obtain ⟨_, hV, _, rfl, h⟩ := hr
    refine jW.if_ne (dx_Rd_indentedGoesOn 8 (e := (18, .ifCond .ne 5, 3)) rfl) 23 (by decide) (pc' := 21) rfl (fun c => ?_) (fun c => ?_)
    · replace h := h.2 c
      exact t_Rd_indentedGoesOn_23 F hV h
    · replace h := h.1 c
      refine jW.iconst (v := 0) (dx_Rd_indentedGoesOn 9 (e := (21, .iconst 0, 1)) rfl) (by decide) (pc' := 22) rfl ?_
      exact jW.zret (dx_Rd_indentedGoesOn 10 (e := (22, .ireturn, 1)) rfl) rfl (by decide) ⟨_, hV, h⟩
theorem g_Rd_indentedGoesOn {X : CX} {a0 : Array Value} (F : cF X a0) {m : CS} {Φ : Option Value → CS → Prop} (he : w_Rd_indentedGoesOn_0 X m Φ) : cE X 3 y_Rd_indentedGoesOn [.ref (adr X 6)] m Φ := by
  intro d σ hV
  refine jE.of (by decide) (by simp [Value.category]) (Nat.le_of_ble_eq_true rfl) rfl ?_
  exact t_Rd_indentedGoesOn_0 F hV he
def w_Rd_lookForBeginnings_74 (X : CX) (x1 : Int32) (m : CS) (Φ : Option Value → CS → Prop) : Prop := Φ (some (.int (1))) m
theorem t_Rd_lookForBeginnings_74 {X : CX} {a0 : Array Value} (F : cF X a0) {d : Nat} {x1 : Int32} {o2 : Option Value} {m : CS} {σ : jS} {Φ : Option Value → CS → Prop} (hV : CV X m σ) (h : w_Rd_lookForBeginnings_74 X x1 m Φ) : jW X.1 X.2.1 jcl X.2.2.1 X.2.2.2.1 (d + 11) y_Rd_lookForBeginnings 74 [some (.ref (adr X 6)), some (.int x1), o2] [] σ (cP X Φ) := by
  unfold w_Rd_lookForBeginnings_74 at h
  refine jW.iconst (v := 1) (dx_Rd_lookForBeginnings 39 (e := (74, .iconst 1, 1)) rfl) (by decide) (pc' := 75) rfl ?_
  exact jW.zret (dx_Rd_lookForBeginnings 40 (e := (75, .ireturn, 1)) rfl) rfl (by decide) ⟨_, hV, h⟩
def w_Rd_lookForBeginnings_68 (X : CX) (x1 : Int32) (x2 : Int32) (m : CS) (Φ : Option Value → CS → Prop) (K2 : Int32 → CS → Prop) : Prop := K2 (x1 + 1) m
theorem t_Rd_lookForBeginnings_68 {X : CX} {a0 : Array Value} (F : cF X a0) {d : Nat} {x1 : Int32} {x2 : Int32} {m : CS} {σ : jS} {Φ : Option Value → CS → Prop} {K2 : Int32 → CS → Prop} (hV : CV X m σ) (h : w_Rd_lookForBeginnings_68 X x1 x2 m Φ K2) (hK2 : ∀ (x1 : Int32) (o2 : Option Value) (m : CS) (σ : jS), CV X m σ → K2 x1 m → jW X.1 X.2.1 jcl X.2.2.1 X.2.2.2.1 (d + 11) y_Rd_lookForBeginnings 2 [some (.ref (adr X 6)), some (.int x1), o2] [] σ (cP X Φ)) : jW X.1 X.2.1 jcl X.2.2.1 X.2.2.2.1 (d + 11) y_Rd_lookForBeginnings 68 [some (.ref (adr X 6)), some (.int x1), some (.int x2)] [] σ (cP X Φ) := by
  unfold w_Rd_lookForBeginnings_68 at h
  refine jW.iinc (v := _ + (1)) (dx_Rd_lookForBeginnings 37 (e := (68, .iinc 1 1, 3)) rfl) rfl rfl (by decide) rfl (pc' := 71) rfl ?_
  refine jW.goto (dx_Rd_lookForBeginnings 38 (e := (71, .goto (-69), 3)) rfl) 2 (by decide) ?_
  exact hK2 _ _ _ _ hV h
def w_Rd_lookForBeginnings_2 (X : CX) (x1 : Int32) (m : CS) (Φ : Option Value → CS → Prop) (K2 : Int32 → CS → Prop) : Prop := ((64 ≤ x1 → w_Rd_lookForBeginnings_74 X (x1) m Φ) ∧ (¬ 64 ≤ x1 → ((vi m.1 67 = 0 → cE X 1 y_Rd_kindAtHand [.ref (adr X 6)] m (ciP fun r1 m1 => ((r1 = 7 → w_Rd_lookForBeginnings_74 X (x1) m1 Φ) ∧ (¬ r1 = 7 → cE X 4 y_Rd_beginningAtPlace [.ref (adr X 6)] m1 (ciP fun r2 m2 => ((r2 = -1 → Φ (some (.int (1))) m2) ∧ (¬ r2 = -1 → ((r2 = 10 → cE X 8 y_Rd_underline [.ref (adr X 6)] m2 (cvP fun m6 => w_Rd_lookForBeginnings_68 X (x1) (r2) m6 Φ K2)) ∧ (¬ r2 = 10 → cE X 1 y_Rd_stepOutFor [.ref (adr X 6), .int (r2)] m2 (cvP fun m3 => cE X 8 y_Rd_close [.ref (adr X 6)] m3 (cvP fun m4 => cE X 10 y_Rd_carryOut [.ref (adr X 6), .int (r2)] m4 (ciP fun r5 m5 => ((r5 = 0 → Φ (some (.int (0))) m5) ∧ (¬ r5 = 0 → w_Rd_lookForBeginnings_68 X (x1) (r2) m5 Φ K2)))))))))))))) ∧ (¬ vi m.1 67 = 0 → w_Rd_lookForBeginnings_74 X (x1) m Φ))))
theorem t_Rd_lookForBeginnings_2 {X : CX} {a0 : Array Value} (F : cF X a0) {d : Nat} {x1 : Int32} {o2 : Option Value} {m : CS} {σ : jS} {Φ : Option Value → CS → Prop} {K2 : Int32 → CS → Prop} (hV : CV X m σ) (h : w_Rd_lookForBeginnings_2 X x1 m Φ K2) (hK2 : ∀ (x1 : Int32) (o2 : Option Value) (m : CS) (σ : jS), CV X m σ → K2 x1 m → jW X.1 X.2.1 jcl X.2.2.1 X.2.2.2.1 (d + 11) y_Rd_lookForBeginnings 2 [some (.ref (adr X 6)), some (.int x1), o2] [] σ (cP X Φ)) : jW X.1 X.2.1 jcl X.2.2.1 X.2.2.2.1 (d + 11) y_Rd_lookForBeginnings 2 [some (.ref (adr X 6)), some (.int x1), o2] [] σ (cP X Φ) := by
  unfold w_Rd_lookForBeginnings_2 at h
  refine jW.iload_n (dx_Rd_lookForBeginnings 2 (e := (2, .iload_n 1, 1)) rfl) rfl rfl (pc' := 3) rfl ?_
  refine jW.bipush (v := 64) (dx_Rd_lookForBeginnings 3 (e := (3, .bipush 64, 2)) rfl) (by decide) (pc' := 5) rfl ?_
  refine jW.icmp_ge (dx_Rd_lookForBeginnings 4 (e := (5, .if_icmp .ge 69, 3)) rfl) 74 (by decide) (pc' := 8) rfl (fun c => ?_) (fun c => ?_)
  · replace h := h.1 c
    exact t_Rd_lookForBeginnings_74 F hV h
  · replace h := h.2 c
    refine jW.aload_n (dx_Rd_lookForBeginnings 5 (e := (8, .aload_n 0, 1)) rfl) rfl rfl (pc' := 9) rfl ?_
    refine jW.cg (κ := 6) (k := 7) F hV.s6 f_Rd_lookForBeginnings_9 (by decide) rfl (pc' := 12) rfl ?_
    refine jW.if_ne (dx_Rd_lookForBeginnings 7 (e := (12, .ifCond .ne 62, 3)) rfl) 74 (by decide) (pc' := 15) rfl (fun c => ?_) (fun c => ?_)
    · replace h := h.2 c
      exact t_Rd_lookForBeginnings_74 F hV h
    · replace h := h.1 c
      refine jW.aload_n (dx_Rd_lookForBeginnings 8 (e := (15, .aload_n 0, 1)) rfl) rfl rfl (pc' := 16) rfl ?_
      refine jW.callVe F (h (d + 9) _ hV) (dx_Rd_lookForBeginnings 9 (e := (16, .invokevirtual 61, 3)) rfl) can_Rd_kindAtHand jw_644 jw_646 hV.cl6 rfl sel_Rd_kindAtHand rfl rfl (Nat.le_of_ble_eq_true rfl) (pc' := 19) rfl (fun r σ hr => ?_)
      clear hV
      obtain ⟨_, hV, _, rfl, h⟩ := hr
      refine jW.bipush (v := 7) (dx_Rd_lookForBeginnings 10 (e := (19, .bipush 7, 2)) rfl) (by decide) (pc' := 21) rfl ?_
      refine jW.icmp_eq (dx_Rd_lookForBeginnings 11 (e := (21, .if_icmp .eq 53, 3)) rfl) 74 (by decide) (pc' := 24) rfl (fun c => ?_) (fun c => ?_)
      · replace h := h.1 c
        exact t_Rd_lookForBeginnings_74 F hV h
      · replace h := h.2 c
        refine jW.aload_n (dx_Rd_lookForBeginnings 12 (e := (24, .aload_n 0, 1)) rfl) rfl rfl (pc' := 25) rfl ?_
        refine jW.callVe F (h (d + 6) _ hV) (dx_Rd_lookForBeginnings 13 (e := (25, .invokevirtual 65, 3)) rfl) can_Rd_beginningAtPlace jw_648 jw_650 hV.cl6 rfl sel_Rd_beginningAtPlace rfl rfl (Nat.le_of_ble_eq_true rfl) (pc' := 28) rfl (fun r σ hr => ?_)
        clear hV
        obtain ⟨_, hV, _, rfl, h⟩ := hr
        refine jW.istore_n (dx_Rd_lookForBeginnings 14 (e := (28, .istore_n 2, 1)) rfl) rfl (by decide) rfl (pc' := 29) rfl ?_
        refine jW.iload_n (dx_Rd_lookForBeginnings 15 (e := (29, .iload_n 2, 1)) rfl) rfl rfl (pc' := 30) rfl ?_
        refine jW.iconst (v := -1) (dx_Rd_lookForBeginnings 16 (e := (30, .iconst (-1), 1)) rfl) (by decide) (pc' := 31) rfl ?_
        refine jW.icmp_ne (dx_Rd_lookForBeginnings 17 (e := (31, .if_icmp .ne 5, 3)) rfl) 36 (by decide) (pc' := 34) rfl (fun c => ?_) (fun c => ?_)
        · replace h := h.2 c
          refine jW.iload_n (dx_Rd_lookForBeginnings 20 (e := (36, .iload_n 2, 1)) rfl) rfl rfl (pc' := 37) rfl ?_
          refine jW.bipush (v := 10) (dx_Rd_lookForBeginnings 21 (e := (37, .bipush 10, 2)) rfl) (by decide) (pc' := 39) rfl ?_
          refine jW.icmp_ne (dx_Rd_lookForBeginnings 22 (e := (39, .if_icmp .ne 10, 3)) rfl) 49 (by decide) (pc' := 42) rfl (fun c => ?_) (fun c => ?_)
          · replace h := h.2 c
            refine jW.aload_n (dx_Rd_lookForBeginnings 26 (e := (49, .aload_n 0, 1)) rfl) rfl rfl (pc' := 50) rfl ?_
            refine jW.iload_n (dx_Rd_lookForBeginnings 27 (e := (50, .iload_n 2, 1)) rfl) rfl rfl (pc' := 51) rfl ?_
            refine jW.callVe F (h (d + 9) _ hV) (dx_Rd_lookForBeginnings 28 (e := (51, .invokevirtual 71, 3)) rfl) can_Rd_stepOutFor jw_801 jw_803 hV.cl6 rfl sel_Rd_stepOutFor rfl rfl (Nat.le_of_ble_eq_true rfl) (pc' := 54) rfl (fun r σ hr => ?_)
            clear hV
            obtain ⟨_, hV, rfl, h⟩ := hr
            refine jW.aload_n (dx_Rd_lookForBeginnings 29 (e := (54, .aload_n 0, 1)) rfl) rfl rfl (pc' := 55) rfl ?_
            refine jW.callVe F (h (d + 2) _ hV) (dx_Rd_lookForBeginnings 30 (e := (55, .invokevirtual 75, 3)) rfl) can_Rd_close jw_809 jw_811 hV.cl6 rfl sel_Rd_close rfl rfl (Nat.le_of_ble_eq_true rfl) (pc' := 58) rfl (fun r σ hr => ?_)
            clear hV
            obtain ⟨_, hV, rfl, h⟩ := hr
            refine jW.aload_n (dx_Rd_lookForBeginnings 31 (e := (58, .aload_n 0, 1)) rfl) rfl rfl (pc' := 59) rfl ?_
            refine jW.iload_n (dx_Rd_lookForBeginnings 32 (e := (59, .iload_n 2, 1)) rfl) rfl rfl (pc' := 60) rfl ?_
            refine jW.callVe F (h (d + 0) _ hV) (dx_Rd_lookForBeginnings 33 (e := (60, .invokevirtual 78, 3)) rfl) can_Rd_carryOut jw_813 jw_815 hV.cl6 rfl sel_Rd_carryOut rfl rfl (Nat.le_of_ble_eq_true rfl) (pc' := 63) rfl (fun r σ hr => ?_)
            clear hV
            obtain ⟨_, hV, _, rfl, h⟩ := hr
            refine jW.if_ne (dx_Rd_lookForBeginnings 34 (e := (63, .ifCond .ne 5, 3)) rfl) 68 (by decide) (pc' := 66) rfl (fun c => ?_) (fun c => ?_)
            · replace h := h.2 c
              exact t_Rd_lookForBeginnings_68 F hV h hK2
            · replace h := h.1 c
              refine jW.iconst (v := 0) (dx_Rd_lookForBeginnings 35 (e := (66, .iconst 0, 1)) rfl) (by decide) (pc' := 67) rfl ?_
              exact jW.zret (dx_Rd_lookForBeginnings 36 (e := (67, .ireturn, 1)) rfl) rfl (by decide) ⟨_, hV, h⟩
          · replace h := h.1 c
            refine jW.aload_n (dx_Rd_lookForBeginnings 23 (e := (42, .aload_n 0, 1)) rfl) rfl rfl (pc' := 43) rfl ?_
            refine jW.callVe F (h (d + 2) _ hV) (dx_Rd_lookForBeginnings 24 (e := (43, .invokevirtual 68, 3)) rfl) can_Rd_underline jw_685 jw_687 hV.cl6 rfl sel_Rd_underline rfl rfl (Nat.le_of_ble_eq_true rfl) (pc' := 46) rfl (fun r σ hr => ?_)
            clear hV
            obtain ⟨_, hV, rfl, h⟩ := hr
            refine jW.goto (dx_Rd_lookForBeginnings 25 (e := (46, .goto 22, 3)) rfl) 68 (by decide) ?_
            exact t_Rd_lookForBeginnings_68 F hV h hK2
        · replace h := h.1 c
          refine jW.iconst (v := 1) (dx_Rd_lookForBeginnings 18 (e := (34, .iconst 1, 1)) rfl) (by decide) (pc' := 35) rfl ?_
          exact jW.zret (dx_Rd_lookForBeginnings 19 (e := (35, .ireturn, 1)) rfl) rfl (by decide) ⟨_, hV, h⟩
def w_Rd_lookForBeginnings_0 (X : CX) (m : CS) (Φ : Option Value → CS → Prop) (K2 : Int32 → CS → Prop) : Prop := K2 (0) m
theorem t_Rd_lookForBeginnings_0 {X : CX} {a0 : Array Value} (F : cF X a0) {d : Nat} {o1 o2 : Option Value} {m : CS} {σ : jS} {Φ : Option Value → CS → Prop} {K2 : Int32 → CS → Prop} (hV : CV X m σ) (h : w_Rd_lookForBeginnings_0 X m Φ K2) (hK2 : ∀ (x1 : Int32) (o2 : Option Value) (m : CS) (σ : jS), CV X m σ → K2 x1 m → jW X.1 X.2.1 jcl X.2.2.1 X.2.2.2.1 (d + 11) y_Rd_lookForBeginnings 2 [some (.ref (adr X 6)), some (.int x1), o2] [] σ (cP X Φ)) : jW X.1 X.2.1 jcl X.2.2.1 X.2.2.2.1 (d + 11) y_Rd_lookForBeginnings 0 [some (.ref (adr X 6)), o1, o2] [] σ (cP X Φ) := by
  unfold w_Rd_lookForBeginnings_0 at h
  refine jW.iconst (v := 0) (dx_Rd_lookForBeginnings 0 (e := (0, .iconst 0, 1)) rfl) (by decide) (pc' := 1) rfl ?_
  refine jW.istore_n (dx_Rd_lookForBeginnings 1 (e := (1, .istore_n 1, 1)) rfl) rfl (by decide) rfl (pc' := 2) rfl ?_
  exact hK2 _ _ _ _ hV h
theorem g_Rd_lookForBeginnings {X : CX} {a0 : Array Value} (F : cF X a0) {m : CS} {Φ : Option Value → CS → Prop} {I2 : Nat → Int32 → CS → Prop} (he : w_Rd_lookForBeginnings_0 X m Φ (fun x1 m => ∃ j, I2 j x1 m)) (h2 : ∀ (n : Nat) (x1 : Int32) (m : CS), I2 n x1 m → w_Rd_lookForBeginnings_2 X x1 m Φ (fun x1 m => ∃ j, j < n ∧ I2 j x1 m)) : cE X 11 y_Rd_lookForBeginnings [.ref (adr X 6)] m Φ := by
  intro d σ hV
  have hL2 : ∀ n, (∀ (x1 : Int32) (o2 : Option Value) (m : CS) (σ : jS), CV X m σ → I2 n x1 m → jW X.1 X.2.1 jcl X.2.2.1 X.2.2.2.1 (d + 11) y_Rd_lookForBeginnings 2 [some (.ref (adr X 6)), some (.int x1), o2] [] σ (cP X Φ)) := by
    intro n
    induction n using Nat.strongRecOn with
    | _ n ih =>
      exact fun x1 o2 m σ hV hI => t_Rd_lookForBeginnings_2 F hV (h2 n x1 m hI) (fun x1 o2 m σ hV ⟨j, hj, hI⟩ => (ih j hj) x1 o2 m σ hV hI)
  refine jE.of (by decide) (by simp [Value.category]) (Nat.le_of_ble_eq_true rfl) rfl ?_
  exact t_Rd_lookForBeginnings_0 F hV he (fun x1 o2 m σ hV ⟨j, hI⟩ => (hL2 j) x1 o2 m σ hV hI)
def w_Rd_kindAtHand_0 (X : CX) (m : CS) (Φ : Option Value → CS → Prop) : Prop := cE X 0 y_Rd_openAt [.ref (adr X 6), .int (vi m.1 65)] m (cbP fun r1 m1 => (∃ i1, isB m1 (r1) i1 ∧ Φ (some (.int (vb m1.1 i1 0))) m1))
theorem t_Rd_kindAtHand_0 {X : CX} {a0 : Array Value} (F : cF X a0) {d : Nat} {m : CS} {σ : jS} {Φ : Option Value → CS → Prop} (hV : CV X m σ) (h : w_Rd_kindAtHand_0 X m Φ) : jW X.1 X.2.1 jcl X.2.2.1 X.2.2.2.1 (d + 1) y_Rd_kindAtHand 0 [some (.ref (adr X 6))] [] σ (cP X Φ) := by
  unfold w_Rd_kindAtHand_0 at h
  refine jW.aload_n (dx_Rd_kindAtHand 0 (e := (0, .aload_n 0, 1)) rfl) rfl rfl (pc' := 1) rfl ?_
  refine jW.aload_n (dx_Rd_kindAtHand 1 (e := (1, .aload_n 0, 1)) rfl) rfl rfl (pc' := 2) rfl ?_
  refine jW.cg (κ := 6) (k := 5) F hV.s6 f_Rd_kindAtHand_2 (by decide) rfl (pc' := 5) rfl ?_
  refine jW.callVe F (h (d + 0) _ hV) (dx_Rd_kindAtHand 3 (e := (5, .invokevirtual 53, 3)) rfl) can_Rd_openAt jw_570 jw_572 hV.cl6 rfl sel_Rd_openAt rfl rfl (Nat.le_of_ble_eq_true rfl) (pc' := 8) rfl (fun r σ hr => ?_)
  clear hV
  obtain ⟨_, hV, _, rfl, h⟩ := hr
  obtain ⟨i1, hi, h⟩ := h
  refine jW.cgb F hV hi f_Rd_kindAtHand_8 (by decide) (pc' := 11) rfl ?_
  exact jW.iret (dx_Rd_kindAtHand 5 (e := (11, .ireturn, 1)) rfl) rfl ⟨_, hV, h⟩
theorem g_Rd_kindAtHand {X : CX} {a0 : Array Value} (F : cF X a0) {m : CS} {Φ : Option Value → CS → Prop} (he : w_Rd_kindAtHand_0 X m Φ) : cE X 1 y_Rd_kindAtHand [.ref (adr X 6)] m Φ := by
  intro d σ hV
  refine jE.of (by decide) (by simp [Value.category]) (Nat.le_of_ble_eq_true rfl) rfl ?_
  exact t_Rd_kindAtHand_0 F hV he
def w_Rd_beginningAtPlace_154 (X : CX) (x1 : Int32) (s0 : Int32) (m : CS) (Φ : Option Value → CS → Prop) : Prop := Φ (some (.int (s0))) m
theorem t_Rd_beginningAtPlace_154 {X : CX} {a0 : Array Value} (F : cF X a0) {d : Nat} {x1 : Int32} {s0 : Int32} {m : CS} {σ : jS} {Φ : Option Value → CS → Prop} (hV : CV X m σ) (h : w_Rd_beginningAtPlace_154 X x1 s0 m Φ) : jW X.1 X.2.1 jcl X.2.2.1 X.2.2.2.1 (d + 4) y_Rd_beginningAtPlace 154 [some (.ref (adr X 6)), some (.int x1)] [.int s0] σ (cP X Φ) := by
  unfold w_Rd_beginningAtPlace_154 at h
  exact jW.iret (dx_Rd_beginningAtPlace 74 (e := (154, .ireturn, 1)) rfl) rfl ⟨_, hV, h⟩
def w_Rd_beginningAtPlace_153 (X : CX) (x1 : Int32) (m : CS) (Φ : Option Value → CS → Prop) : Prop := w_Rd_beginningAtPlace_154 X (x1) (-1) m Φ
theorem t_Rd_beginningAtPlace_153 {X : CX} {a0 : Array Value} (F : cF X a0) {d : Nat} {x1 : Int32} {m : CS} {σ : jS} {Φ : Option Value → CS → Prop} (hV : CV X m σ) (h : w_Rd_beginningAtPlace_153 X x1 m Φ) : jW X.1 X.2.1 jcl X.2.2.1 X.2.2.2.1 (d + 4) y_Rd_beginningAtPlace 153 [some (.ref (adr X 6)), some (.int x1)] [] σ (cP X Φ) := by
  unfold w_Rd_beginningAtPlace_153 at h
  refine jW.iconst (v := -1) (dx_Rd_beginningAtPlace 73 (e := (153, .iconst (-1), 1)) rfl) (by decide) (pc' := 154) rfl ?_
  exact t_Rd_beginningAtPlace_154 F hV h
def w_Rd_beginningAtPlace_149 (X : CX) (x1 : Int32) (m : CS) (Φ : Option Value → CS → Prop) : Prop := w_Rd_beginningAtPlace_154 X (x1) (3) m Φ
theorem t_Rd_beginningAtPlace_149 {X : CX} {a0 : Array Value} (F : cF X a0) {d : Nat} {x1 : Int32} {m : CS} {σ : jS} {Φ : Option Value → CS → Prop} (hV : CV X m σ) (h : w_Rd_beginningAtPlace_149 X x1 m Φ) : jW X.1 X.2.1 jcl X.2.2.1 X.2.2.2.1 (d + 4) y_Rd_beginningAtPlace 149 [some (.ref (adr X 6)), some (.int x1)] [] σ (cP X Φ) := by
  unfold w_Rd_beginningAtPlace_149 at h
  refine jW.iconst (v := 3) (dx_Rd_beginningAtPlace 71 (e := (149, .iconst 3, 1)) rfl) (by decide) (pc' := 150) rfl ?_
  refine jW.goto (dx_Rd_beginningAtPlace 72 (e := (150, .goto 4, 3)) rfl) 154 (by decide) ?_
  exact t_Rd_beginningAtPlace_154 F hV h
def w_Rd_beginningAtPlace_112 (X : CX) (x1 : Int32) (m : CS) (Φ : Option Value → CS → Prop) : Prop := cE X 2 y_Line_isRule [.ref (adr X 5)] m (ciP fun r1 m1 => ((r1 = 0 → cE X 2 y_Line_findMark [.ref (adr X 5)] m1 (ciP fun r2 m2 => ((r2 = 0 → w_Rd_beginningAtPlace_153 X (x1) m2 Φ) ∧ (¬ r2 = 0 → ((x1 = 0 → w_Rd_beginningAtPlace_149 X (x1) m2 Φ) ∧ (¬ x1 = 0 → cE X 3 y_Line_markEndsParagraph [.ref (adr X 5)] m2 (ciP fun r3 m3 => ((r3 = 0 → w_Rd_beginningAtPlace_153 X (x1) m3 Φ) ∧ (¬ r3 = 0 → w_Rd_beginningAtPlace_149 X (x1) m3 Φ))))))))) ∧ (¬ r1 = 0 → Φ (some (.int (6))) m1)))
theorem t_Rd_beginningAtPlace_112 {X : CX} {a0 : Array Value} (F : cF X a0) {d : Nat} {x1 : Int32} {m : CS} {σ : jS} {Φ : Option Value → CS → Prop} (hV : CV X m σ) (h : w_Rd_beginningAtPlace_112 X x1 m Φ) : jW X.1 X.2.1 jcl X.2.2.1 X.2.2.2.1 (d + 4) y_Rd_beginningAtPlace 112 [some (.ref (adr X 6)), some (.int x1)] [] σ (cP X Φ) := by
  unfold w_Rd_beginningAtPlace_112 at h
  refine jW.aload_n (dx_Rd_beginningAtPlace 55 (e := (112, .aload_n 0, 1)) rfl) rfl rfl (pc' := 113) rfl ?_
  refine jW.cg (κ := 6) (k := 2) F hV.s6 f_Rd_beginningAtPlace_113 (by decide) rfl (pc' := 116) rfl ?_
  refine jW.callVe F (h (d + 1) _ hV) (dx_Rd_beginningAtPlace 57 (e := (116, .invokevirtual 161, 3)) rfl) can_Line_isRule jw_670 jw_671 hV.cl5 rfl jw_672 rfl rfl (Nat.le_of_ble_eq_true rfl) (pc' := 119) rfl (fun r σ hr => ?_)
  clear hV
  obtain ⟨_, hV, _, rfl, h⟩ := hr
  refine jW.if_eq (dx_Rd_beginningAtPlace 58 (e := (119, .ifCond .eq 6, 3)) rfl) 125 (by decide) (pc' := 122) rfl (fun c => ?_) (fun c => ?_)
  · replace h := h.1 c
    refine jW.aload_n (dx_Rd_beginningAtPlace 61 (e := (125, .aload_n 0, 1)) rfl) rfl rfl (pc' := 126) rfl ?_
    refine jW.cg (κ := 6) (k := 2) F hV.s6 f_Rd_beginningAtPlace_126 (by decide) rfl (pc' := 129) rfl ?_
    refine jW.callVe F (h (d + 1) _ hV) (dx_Rd_beginningAtPlace 63 (e := (129, .invokevirtual 164, 3)) rfl) can_Line_findMark jw_674 jw_675 hV.cl5 rfl jw_676 rfl rfl (Nat.le_of_ble_eq_true rfl) (pc' := 132) rfl (fun r σ hr => ?_)
    clear hV
    obtain ⟨_, hV, _, rfl, h⟩ := hr
    refine jW.if_eq (dx_Rd_beginningAtPlace 64 (e := (132, .ifCond .eq 21, 3)) rfl) 153 (by decide) (pc' := 135) rfl (fun c => ?_) (fun c => ?_)
    · replace h := h.1 c
      exact t_Rd_beginningAtPlace_153 F hV h
    · replace h := h.2 c
      refine jW.iload_n (dx_Rd_beginningAtPlace 65 (e := (135, .iload_n 1, 1)) rfl) rfl rfl (pc' := 136) rfl ?_
      refine jW.if_eq (dx_Rd_beginningAtPlace 66 (e := (136, .ifCond .eq 13, 3)) rfl) 149 (by decide) (pc' := 139) rfl (fun c => ?_) (fun c => ?_)
      · replace h := h.1 c
        exact t_Rd_beginningAtPlace_149 F hV h
      · replace h := h.2 c
        refine jW.aload_n (dx_Rd_beginningAtPlace 67 (e := (139, .aload_n 0, 1)) rfl) rfl rfl (pc' := 140) rfl ?_
        refine jW.cg (κ := 6) (k := 2) F hV.s6 f_Rd_beginningAtPlace_140 (by decide) rfl (pc' := 143) rfl ?_
        refine jW.callVe F (h (d + 0) _ hV) (dx_Rd_beginningAtPlace 69 (e := (143, .invokevirtual 167, 3)) rfl) can_Line_markEndsParagraph jw_681 jw_682 hV.cl5 rfl jw_683 rfl rfl (Nat.le_of_ble_eq_true rfl) (pc' := 146) rfl (fun r σ hr => ?_)
        clear hV
        obtain ⟨_, hV, _, rfl, h⟩ := hr
        refine jW.if_eq (dx_Rd_beginningAtPlace 70 (e := (146, .ifCond .eq 7, 3)) rfl) 153 (by decide) (pc' := 149) rfl (fun c => ?_) (fun c => ?_)
        · replace h := h.1 c
          exact t_Rd_beginningAtPlace_153 F hV h
        · replace h := h.2 c
          exact t_Rd_beginningAtPlace_149 F hV h
  · replace h := h.2 c
    refine jW.bipush (v := 6) (dx_Rd_beginningAtPlace 59 (e := (122, .bipush 6, 2)) rfl) (by decide) (pc' := 124) rfl ?_
    exact jW.iret (dx_Rd_beginningAtPlace 60 (e := (124, .ireturn, 1)) rfl) rfl ⟨_, hV, h⟩
def w_Rd_beginningAtPlace_94 (X : CX) (s0 : Int32) (m : CS) (Φ : Option Value → CS → Prop) : Prop := ((s0 = 0 → w_Rd_beginningAtPlace_112 X (s0) m Φ) ∧ (¬ s0 = 0 → cE X 3 y_Line_underlineLevel [.ref (adr X 5)] m (ciP fun r1 m1 => ((r1 ≤ 0 → w_Rd_beginningAtPlace_112 X (s0) m1 Φ) ∧ (¬ r1 ≤ 0 → Φ (some (.int (10))) m1)))))
theorem t_Rd_beginningAtPlace_94 {X : CX} {a0 : Array Value} (F : cF X a0) {d : Nat} {s0 : Int32} {o1 : Option Value} {m : CS} {σ : jS} {Φ : Option Value → CS → Prop} (hV : CV X m σ) (h : w_Rd_beginningAtPlace_94 X s0 m Φ) : jW X.1 X.2.1 jcl X.2.2.1 X.2.2.2.1 (d + 4) y_Rd_beginningAtPlace 94 [some (.ref (adr X 6)), o1] [.int s0] σ (cP X Φ) := by
  unfold w_Rd_beginningAtPlace_94 at h
  refine jW.istore_n (dx_Rd_beginningAtPlace 46 (e := (94, .istore_n 1, 1)) rfl) rfl (by decide) rfl (pc' := 95) rfl ?_
  refine jW.iload_n (dx_Rd_beginningAtPlace 47 (e := (95, .iload_n 1, 1)) rfl) rfl rfl (pc' := 96) rfl ?_
  refine jW.if_eq (dx_Rd_beginningAtPlace 48 (e := (96, .ifCond .eq 16, 3)) rfl) 112 (by decide) (pc' := 99) rfl (fun c => ?_) (fun c => ?_)
  · replace h := h.1 c
    exact t_Rd_beginningAtPlace_112 F hV h
  · replace h := h.2 c
    refine jW.aload_n (dx_Rd_beginningAtPlace 49 (e := (99, .aload_n 0, 1)) rfl) rfl rfl (pc' := 100) rfl ?_
    refine jW.cg (κ := 6) (k := 2) F hV.s6 f_Rd_beginningAtPlace_100 (by decide) rfl (pc' := 103) rfl ?_
    refine jW.callVe F (h (d + 0) _ hV) (dx_Rd_beginningAtPlace 51 (e := (103, .invokevirtual 158, 3)) rfl) can_Line_underlineLevel jw_666 jw_667 hV.cl5 rfl jw_668 rfl rfl (Nat.le_of_ble_eq_true rfl) (pc' := 106) rfl (fun r σ hr => ?_)
    clear hV
    obtain ⟨_, hV, _, rfl, h⟩ := hr
    refine jW.if_le (dx_Rd_beginningAtPlace 52 (e := (106, .ifCond .le 6, 3)) rfl) 112 (by decide) (pc' := 109) rfl (fun c => ?_) (fun c => ?_)
    · replace h := h.1 c
      exact t_Rd_beginningAtPlace_112 F hV h
    · replace h := h.2 c
      refine jW.bipush (v := 10) (dx_Rd_beginningAtPlace 53 (e := (109, .bipush 10, 2)) rfl) (by decide) (pc' := 111) rfl ?_
      exact jW.iret (dx_Rd_beginningAtPlace 54 (e := (111, .ireturn, 1)) rfl) rfl ⟨_, hV, h⟩
def w_Rd_beginningAtPlace_43 (X : CX) (s0 : Int32) (m : CS) (Φ : Option Value → CS → Prop) : Prop := Φ (some (.int (s0))) m
theorem t_Rd_beginningAtPlace_43 {X : CX} {a0 : Array Value} (F : cF X a0) {d : Nat} {s0 : Int32} {o1 : Option Value} {m : CS} {σ : jS} {Φ : Option Value → CS → Prop} (hV : CV X m σ) (h : w_Rd_beginningAtPlace_43 X s0 m Φ) : jW X.1 X.2.1 jcl X.2.2.1 X.2.2.2.1 (d + 4) y_Rd_beginningAtPlace 43 [some (.ref (adr X 6)), o1] [.int s0] σ (cP X Φ) := by
  unfold w_Rd_beginningAtPlace_43 at h
  exact jW.iret (dx_Rd_beginningAtPlace 20 (e := (43, .ireturn, 1)) rfl) rfl ⟨_, hV, h⟩
def w_Rd_beginningAtPlace_0 (X : CX) (m : CS) (Φ : Option Value → CS → Prop) : Prop := cE X 1 y_Line_isBlank [.ref (adr X 5)] m (ciP fun r1 m1 => ((r1 = 0 → cE X 0 y_Line_isTooFar [.ref (adr X 5)] m1 (ciP fun r2 m2 => ((r2 = 0 → cE X 1 y_Line_hasQuoteMark [.ref (adr X 5)] m2 (ciP fun r3 m3 => ((r3 = 0 → cE X 2 y_Line_headingLevel [.ref (adr X 5)] m3 (ciP fun r4 m4 => ((r4 ≤ 0 → cE X 2 y_Line_fenceLength [.ref (adr X 5)] m4 (ciP fun r5 m5 => ((r5 ≤ 0 → cE X 1 y_Rd_kindAtHand [.ref (adr X 6)] m5 (ciP fun r6 m6 => ((r6 = 4 → w_Rd_beginningAtPlace_94 X (1) m6 Φ) ∧ (¬ r6 = 4 → w_Rd_beginningAtPlace_94 X (0) m6 Φ)))) ∧ (¬ r5 ≤ 0 → Φ (some (.int (8))) m5)))) ∧ (¬ r4 ≤ 0 → Φ (some (.int (5))) m4)))) ∧ (¬ r3 = 0 → Φ (some (.int (1))) m3)))) ∧ (¬ r2 = 0 → cE X 0 y_Rd_openAt [.ref (adr X 6), .int (vi m2.1 64)] m2 (cbP fun r7 m7 => (∃ i1, isB m7 (r7) i1 ∧ ((vb m7.1 i1 0 = 4 → w_Rd_beginningAtPlace_43 X (-1) m7 Φ) ∧ (¬ vb m7.1 i1 0 = 4 → w_Rd_beginningAtPlace_43 X (9) m7 Φ)))))))) ∧ (¬ r1 = 0 → Φ (some (.int (-1))) m1)))
theorem t_Rd_beginningAtPlace_0 {X : CX} {a0 : Array Value} (F : cF X a0) {d : Nat} {o1 : Option Value} {m : CS} {σ : jS} {Φ : Option Value → CS → Prop} (hV : CV X m σ) (h : w_Rd_beginningAtPlace_0 X m Φ) : jW X.1 X.2.1 jcl X.2.2.1 X.2.2.2.1 (d + 4) y_Rd_beginningAtPlace 0 [some (.ref (adr X 6)), o1] [] σ (cP X Φ) := by
  unfold w_Rd_beginningAtPlace_0 at h
  refine jW.aload_n (dx_Rd_beginningAtPlace 0 (e := (0, .aload_n 0, 1)) rfl) rfl rfl (pc' := 1) rfl ?_
  refine jW.cg (κ := 6) (k := 2) F hV.s6 f_Rd_beginningAtPlace_1 (by decide) rfl (pc' := 4) rfl ?_
  refine jW.callVe F (h (d + 2) _ hV) (dx_Rd_beginningAtPlace 2 (e := (4, .invokevirtual 90, 3)) rfl) can_Line_isBlank jw_598 jw_599 hV.cl5 rfl jw_600 rfl rfl (Nat.le_of_ble_eq_true rfl) (pc' := 7) rfl (fun r σ hr => ?_)
  clear hV
  obtain ⟨_, hV, _, rfl, h⟩ := hr
  refine jW.if_eq (dx_Rd_beginningAtPlace 3 (e := (7, .ifCond .eq 5, 3)) rfl) 12 (by decide) (pc' := 10) rfl (fun c => ?_) (fun c => ?_)
  · replace h := h.1 c
    refine jW.aload_n (dx_Rd_beginningAtPlace 6 (e := (12, .aload_n 0, 1)) rfl) rfl rfl (pc' := 13) rfl ?_
    refine jW.cg (κ := 6) (k := 2) F hV.s6 f_Rd_beginningAtPlace_13 (by decide) rfl (pc' := 16) rfl ?_
    refine jW.callVe F (h (d + 3) _ hV) (dx_Rd_beginningAtPlace 8 (e := (16, .invokevirtual 147, 3)) rfl) can_Line_isTooFar jw_652 jw_587 hV.cl5 rfl jw_588 rfl rfl (Nat.le_of_ble_eq_true rfl) (pc' := 19) rfl (fun r σ hr => ?_)
    clear hV
    obtain ⟨_, hV, _, rfl, h⟩ := hr
    refine jW.if_eq (dx_Rd_beginningAtPlace 9 (e := (19, .ifCond .eq 25, 3)) rfl) 44 (by decide) (pc' := 22) rfl (fun c => ?_) (fun c => ?_)
    · replace h := h.1 c
      refine jW.aload_n (dx_Rd_beginningAtPlace 21 (e := (44, .aload_n 0, 1)) rfl) rfl rfl (pc' := 45) rfl ?_
      refine jW.cg (κ := 6) (k := 2) F hV.s6 f_Rd_beginningAtPlace_45 (by decide) rfl (pc' := 48) rfl ?_
      refine jW.callVe F (h (d + 2) _ hV) (dx_Rd_beginningAtPlace 23 (e := (48, .invokevirtual 150, 3)) rfl) can_Line_hasQuoteMark jw_653 jw_583 hV.cl5 rfl jw_584 rfl rfl (Nat.le_of_ble_eq_true rfl) (pc' := 51) rfl (fun r σ hr => ?_)
      clear hV
      obtain ⟨_, hV, _, rfl, h⟩ := hr
      refine jW.if_eq (dx_Rd_beginningAtPlace 24 (e := (51, .ifCond .eq 5, 3)) rfl) 56 (by decide) (pc' := 54) rfl (fun c => ?_) (fun c => ?_)
      · replace h := h.1 c
        refine jW.aload_n (dx_Rd_beginningAtPlace 27 (e := (56, .aload_n 0, 1)) rfl) rfl rfl (pc' := 57) rfl ?_
        refine jW.cg (κ := 6) (k := 2) F hV.s6 f_Rd_beginningAtPlace_57 (by decide) rfl (pc' := 60) rfl ?_
        refine jW.callVe F (h (d + 1) _ hV) (dx_Rd_beginningAtPlace 29 (e := (60, .invokevirtual 153, 3)) rfl) can_Line_headingLevel jw_654 jw_655 hV.cl5 rfl jw_656 rfl rfl (Nat.le_of_ble_eq_true rfl) (pc' := 63) rfl (fun r σ hr => ?_)
        clear hV
        obtain ⟨_, hV, _, rfl, h⟩ := hr
        refine jW.if_le (dx_Rd_beginningAtPlace 30 (e := (63, .ifCond .le 5, 3)) rfl) 68 (by decide) (pc' := 66) rfl (fun c => ?_) (fun c => ?_)
        · replace h := h.1 c
          refine jW.aload_n (dx_Rd_beginningAtPlace 33 (e := (68, .aload_n 0, 1)) rfl) rfl rfl (pc' := 69) rfl ?_
          refine jW.cg (κ := 6) (k := 2) F hV.s6 f_Rd_beginningAtPlace_69 (by decide) rfl (pc' := 72) rfl ?_
          refine jW.callVe F (h (d + 1) _ hV) (dx_Rd_beginningAtPlace 35 (e := (72, .invokevirtual 156, 3)) rfl) can_Line_fenceLength jw_662 jw_663 hV.cl5 rfl jw_664 rfl rfl (Nat.le_of_ble_eq_true rfl) (pc' := 75) rfl (fun r σ hr => ?_)
          clear hV
          obtain ⟨_, hV, _, rfl, h⟩ := hr
          refine jW.if_le (dx_Rd_beginningAtPlace 36 (e := (75, .ifCond .le 6, 3)) rfl) 81 (by decide) (pc' := 78) rfl (fun c => ?_) (fun c => ?_)
          · replace h := h.1 c
            refine jW.aload_n (dx_Rd_beginningAtPlace 39 (e := (81, .aload_n 0, 1)) rfl) rfl rfl (pc' := 82) rfl ?_
            refine jW.callVe F (h (d + 2) _ hV) (dx_Rd_beginningAtPlace 40 (e := (82, .invokevirtual 61, 3)) rfl) can_Rd_kindAtHand jw_644 jw_646 hV.cl6 rfl sel_Rd_kindAtHand rfl rfl (Nat.le_of_ble_eq_true rfl) (pc' := 85) rfl (fun r σ hr => ?_)
            clear hV
            obtain ⟨_, hV, _, rfl, h⟩ := hr
            refine jW.iconst (v := 4) (dx_Rd_beginningAtPlace 41 (e := (85, .iconst 4, 1)) rfl) (by decide) (pc' := 86) rfl ?_
            refine jW.icmp_ne (dx_Rd_beginningAtPlace 42 (e := (86, .if_icmp .ne 7, 3)) rfl) 93 (by decide) (pc' := 89) rfl (fun c => ?_) (fun c => ?_)
            · replace h := h.2 c
              refine jW.iconst (v := 0) (dx_Rd_beginningAtPlace 45 (e := (93, .iconst 0, 1)) rfl) (by decide) (pc' := 94) rfl ?_
              exact t_Rd_beginningAtPlace_94 F hV h
            · replace h := h.1 c
              refine jW.iconst (v := 1) (dx_Rd_beginningAtPlace 43 (e := (89, .iconst 1, 1)) rfl) (by decide) (pc' := 90) rfl ?_
              refine jW.goto (dx_Rd_beginningAtPlace 44 (e := (90, .goto 4, 3)) rfl) 94 (by decide) ?_
              exact t_Rd_beginningAtPlace_94 F hV h
          · replace h := h.2 c
            refine jW.bipush (v := 8) (dx_Rd_beginningAtPlace 37 (e := (78, .bipush 8, 2)) rfl) (by decide) (pc' := 80) rfl ?_
            exact jW.iret (dx_Rd_beginningAtPlace 38 (e := (80, .ireturn, 1)) rfl) rfl ⟨_, hV, h⟩
        · replace h := h.2 c
          refine jW.iconst (v := 5) (dx_Rd_beginningAtPlace 31 (e := (66, .iconst 5, 1)) rfl) (by decide) (pc' := 67) rfl ?_
          exact jW.iret (dx_Rd_beginningAtPlace 32 (e := (67, .ireturn, 1)) rfl) rfl ⟨_, hV, h⟩
      · replace h := h.2 c
        refine jW.iconst (v := 1) (dx_Rd_beginningAtPlace 25 (e := (54, .iconst 1, 1)) rfl) (by decide) (pc' := 55) rfl ?_
        exact jW.iret (dx_Rd_beginningAtPlace 26 (e := (55, .ireturn, 1)) rfl) rfl ⟨_, hV, h⟩
    · replace h := h.2 c
      refine jW.aload_n (dx_Rd_beginningAtPlace 10 (e := (22, .aload_n 0, 1)) rfl) rfl rfl (pc' := 23) rfl ?_
      refine jW.aload_n (dx_Rd_beginningAtPlace 11 (e := (23, .aload_n 0, 1)) rfl) rfl rfl (pc' := 24) rfl ?_
      refine jW.cg (κ := 6) (k := 4) F hV.s6 f_Rd_beginningAtPlace_24 (by decide) rfl (pc' := 27) rfl ?_
      refine jW.callVe F (h (d + 3) _ hV) (dx_Rd_beginningAtPlace 13 (e := (27, .invokevirtual 53, 3)) rfl) can_Rd_openAt jw_570 jw_572 hV.cl6 rfl sel_Rd_openAt rfl rfl (Nat.le_of_ble_eq_true rfl) (pc' := 30) rfl (fun r σ hr => ?_)
      clear hV
      obtain ⟨_, hV, _, rfl, h⟩ := hr
      obtain ⟨i1, hi, h⟩ := h
      refine jW.cgb F hV hi f_Rd_beginningAtPlace_30 (by decide) (pc' := 33) rfl ?_
      refine jW.iconst (v := 4) (dx_Rd_beginningAtPlace 15 (e := (33, .iconst 4, 1)) rfl) (by decide) (pc' := 34) rfl ?_
      refine jW.icmp_ne (dx_Rd_beginningAtPlace 16 (e := (34, .if_icmp .ne 7, 3)) rfl) 41 (by decide) (pc' := 37) rfl (fun c => ?_) (fun c => ?_)
      · replace h := h.2 c
        refine jW.bipush (v := 9) (dx_Rd_beginningAtPlace 19 (e := (41, .bipush 9, 2)) rfl) (by decide) (pc' := 43) rfl ?_
        exact t_Rd_beginningAtPlace_43 F hV h
      · replace h := h.1 c
        refine jW.iconst (v := -1) (dx_Rd_beginningAtPlace 17 (e := (37, .iconst (-1), 1)) rfl) (by decide) (pc' := 38) rfl ?_
        refine jW.goto (dx_Rd_beginningAtPlace 18 (e := (38, .goto 5, 3)) rfl) 43 (by decide) ?_
        exact t_Rd_beginningAtPlace_43 F hV h
  · replace h := h.2 c
    refine jW.iconst (v := -1) (dx_Rd_beginningAtPlace 4 (e := (10, .iconst (-1), 1)) rfl) (by decide) (pc' := 11) rfl ?_
    exact jW.iret (dx_Rd_beginningAtPlace 5 (e := (11, .ireturn, 1)) rfl) rfl ⟨_, hV, h⟩
theorem g_Rd_beginningAtPlace {X : CX} {a0 : Array Value} (F : cF X a0) {m : CS} {Φ : Option Value → CS → Prop} (he : w_Rd_beginningAtPlace_0 X m Φ) : cE X 4 y_Rd_beginningAtPlace [.ref (adr X 6)] m Φ := by
  intro d σ hV
  refine jE.of (by decide) (by simp [Value.category]) (Nat.le_of_ble_eq_true rfl) rfl ?_
  exact t_Rd_beginningAtPlace_0 F hV he
def w_Rd_underline_0 (X : CX) (m : CS) (Φ : Option Value → CS → Prop) : Prop := cE X 0 y_Rd_openAt [.ref (adr X 6), .int (vi m.1 64)] m (cbP fun r1 m1 => cE X 7 y_Lab_settle [.ref (adr X 4), .ref (r1)] m1 (ciP fun r2 m2 => ((r2 = 0 → cE X 0 y_Tree_dropLast [.ref (adr X 2)] m2 (cvP fun m8 => ∀ m9, m9 = cI m8 64 ((vi m8.1 64) - 1) → ∀ m10, m10 = cI m9 65 (vi m9.1 64) → Φ none m10)) ∧ (¬ r2 = 0 → (∃ i1, isB m2 (r1) i1 ∧ ∀ m3, m3 = cB m2 i1 0 (5) → cE X 3 y_Line_underlineLevel [.ref (adr X 5)] m3 (ciP fun r4 m4 => (∃ i2, isB m4 (r1) i2 ∧ ∀ m5, m5 = cB m4 i2 3 (r4) → (∃ i3, isB m5 (r1) i3 ∧ ∀ m6, m6 = cB m5 i3 10 (vi m5.1 66) → ∀ m7, m7 = cI m6 67 (1) → Φ none m7))))))))
theorem t_Rd_underline_0 {X : CX} {a0 : Array Value} (F : cF X a0) {d : Nat} {o1 : Option Value} {m : CS} {σ : jS} {Φ : Option Value → CS → Prop} (hV : CV X m σ) (h : w_Rd_underline_0 X m Φ) : jW X.1 X.2.1 jcl X.2.2.1 X.2.2.2.1 (d + 8) y_Rd_underline 0 [some (.ref (adr X 6)), o1] [] σ (cP X Φ) := by
  unfold w_Rd_underline_0 at h
  refine jW.aload_n (dx_Rd_underline 0 (e := (0, .aload_n 0, 1)) rfl) rfl rfl (pc' := 1) rfl ?_
  refine jW.aload_n (dx_Rd_underline 1 (e := (1, .aload_n 0, 1)) rfl) rfl rfl (pc' := 2) rfl ?_
  refine jW.cg (κ := 6) (k := 4) F hV.s6 f_Rd_underline_2 (by decide) rfl (pc' := 5) rfl ?_
  refine jW.callVe F (h (d + 7) _ hV) (dx_Rd_underline 3 (e := (5, .invokevirtual 53, 3)) rfl) can_Rd_openAt jw_570 jw_572 hV.cl6 rfl sel_Rd_openAt rfl rfl (Nat.le_of_ble_eq_true rfl) (pc' := 8) rfl (fun r σ hr => ?_)
  clear hV
  obtain ⟨_, hV, _, rfl, h⟩ := hr
  refine jW.astore_n (dx_Rd_underline 4 (e := (8, .astore_n 1, 1)) rfl) rfl (by decide) rfl (pc' := 9) rfl ?_
  refine jW.aload_n (dx_Rd_underline 5 (e := (9, .aload_n 0, 1)) rfl) rfl rfl (pc' := 10) rfl ?_
  refine jW.cg (κ := 6) (k := 1) F hV.s6 f_Rd_underline_10 (by decide) rfl (pc' := 13) rfl ?_
  refine jW.aload_n (dx_Rd_underline 7 (e := (13, .aload_n 1, 1)) rfl) rfl rfl (pc' := 14) rfl ?_
  refine jW.callVe F (h (d + 0) _ hV) (dx_Rd_underline 8 (e := (14, .invokevirtual 170, 3)) rfl) can_Lab_settle jw_689 jw_690 hV.cl4 rfl jw_691 rfl rfl (Nat.le_of_ble_eq_true rfl) (pc' := 17) rfl (fun r σ hr => ?_)
  clear hV
  obtain ⟨_, hV, _, rfl, h⟩ := hr
  refine jW.if_ne (dx_Rd_underline 9 (e := (17, .ifCond .ne 29, 3)) rfl) 46 (by decide) (pc' := 20) rfl (fun c => ?_) (fun c => ?_)
  · replace h := h.2 c
    refine jW.aload_n (dx_Rd_underline 24 (e := (46, .aload_n 1, 1)) rfl) rfl rfl (pc' := 47) rfl ?_
    refine jW.iconst (v := 5) (dx_Rd_underline 25 (e := (47, .iconst 5, 1)) rfl) (by decide) (pc' := 48) rfl ?_
    obtain ⟨i1, hi, h⟩ := h
    refine jW.cpb F hV hi f_Rd_underline_48 (by decide) rfl rfl rfl (pc' := 51) rfl (fun σ hV => ?_)
    replace h := h _ rfl
    refine jW.aload_n (dx_Rd_underline 27 (e := (51, .aload_n 1, 1)) rfl) rfl rfl (pc' := 52) rfl ?_
    refine jW.aload_n (dx_Rd_underline 28 (e := (52, .aload_n 0, 1)) rfl) rfl rfl (pc' := 53) rfl ?_
    refine jW.cg (κ := 6) (k := 2) F hV.s6 f_Rd_underline_53 (by decide) rfl (pc' := 56) rfl ?_
    refine jW.callVe F (h (d + 4) _ hV) (dx_Rd_underline 30 (e := (56, .invokevirtual 158, 3)) rfl) can_Line_underlineLevel jw_666 jw_667 hV.cl5 rfl jw_668 rfl rfl (Nat.le_of_ble_eq_true rfl) (pc' := 59) rfl (fun r σ hr => ?_)
    clear hV
    obtain ⟨_, hV, _, rfl, h⟩ := hr
    obtain ⟨i2, hi, h⟩ := h
    refine jW.cpb F hV hi f_Rd_underline_59 (by decide) rfl rfl rfl (pc' := 62) rfl (fun σ hV => ?_)
    replace h := h _ rfl
    refine jW.aload_n (dx_Rd_underline 32 (e := (62, .aload_n 1, 1)) rfl) rfl rfl (pc' := 63) rfl ?_
    refine jW.aload_n (dx_Rd_underline 33 (e := (63, .aload_n 0, 1)) rfl) rfl rfl (pc' := 64) rfl ?_
    refine jW.cg (κ := 6) (k := 6) F hV.s6 f_Rd_underline_64 (by decide) rfl (pc' := 67) rfl ?_
    obtain ⟨i3, hi, h⟩ := h
    refine jW.cpb F hV hi f_Rd_underline_67 (by decide) rfl rfl rfl (pc' := 70) rfl (fun σ hV => ?_)
    replace h := h _ rfl
    refine jW.aload_n (dx_Rd_underline 36 (e := (70, .aload_n 0, 1)) rfl) rfl rfl (pc' := 71) rfl ?_
    refine jW.iconst (v := 1) (dx_Rd_underline 37 (e := (71, .iconst 1, 1)) rfl) (by decide) (pc' := 72) rfl ?_
    refine jW.cp6 (k := 7) F hV f_Rd_underline_72 (by decide) rfl rfl rfl (pc' := 75) rfl (fun σ hV => ?_)
    replace h := h _ rfl
    exact jW.vret (dx_Rd_underline 39 (e := (75, .return_, 1)) rfl) rfl ⟨_, hV, h⟩
  · replace h := h.1 c
    refine jW.aload_n (dx_Rd_underline 10 (e := (20, .aload_n 0, 1)) rfl) rfl rfl (pc' := 21) rfl ?_
    refine jW.cg (κ := 6) (k := 0) F hV.s6 f_Rd_underline_21 (by decide) rfl (pc' := 24) rfl ?_
    refine jW.callVe F (h (d + 7) _ hV) (dx_Rd_underline 12 (e := (24, .invokevirtual 175, 3)) rfl) can_Tree_dropLast jw_797 jw_798 hV.cl2 rfl jw_799 rfl rfl (Nat.le_of_ble_eq_true rfl) (pc' := 27) rfl (fun r σ hr => ?_)
    clear hV
    obtain ⟨_, hV, rfl, h⟩ := hr
    refine jW.aload_n (dx_Rd_underline 13 (e := (27, .aload_n 0, 1)) rfl) rfl rfl (pc' := 28) rfl ?_
    refine jW.dup (dx_Rd_underline 14 (e := (28, .dup, 1)) rfl) rfl (pc' := 29) rfl ?_
    refine jW.cg (κ := 6) (k := 4) F hV.s6 f_Rd_underline_29 (by decide) rfl (pc' := 32) rfl ?_
    refine jW.iconst (v := 1) (dx_Rd_underline 16 (e := (32, .iconst 1, 1)) rfl) (by decide) (pc' := 33) rfl ?_
    refine jW.isub (dx_Rd_underline 17 (e := (33, .isub, 1)) rfl) (pc' := 34) rfl ?_
    refine jW.cp6 (k := 4) F hV f_Rd_underline_34 (by decide) rfl rfl rfl (pc' := 37) rfl (fun σ hV => ?_)
    replace h := h _ rfl
    refine jW.aload_n (dx_Rd_underline 19 (e := (37, .aload_n 0, 1)) rfl) rfl rfl (pc' := 38) rfl ?_
    refine jW.aload_n (dx_Rd_underline 20 (e := (38, .aload_n 0, 1)) rfl) rfl rfl (pc' := 39) rfl ?_
    refine jW.cg (κ := 6) (k := 4) F hV.s6 f_Rd_underline_39 (by decide) rfl (pc' := 42) rfl ?_
    refine jW.cp6 (k := 5) F hV f_Rd_underline_42 (by decide) rfl rfl rfl (pc' := 45) rfl (fun σ hV => ?_)
    replace h := h _ rfl
    exact jW.vret (dx_Rd_underline 23 (e := (45, .return_, 1)) rfl) rfl ⟨_, hV, h⟩
theorem g_Rd_underline {X : CX} {a0 : Array Value} (F : cF X a0) {m : CS} {Φ : Option Value → CS → Prop} (he : w_Rd_underline_0 X m Φ) : cE X 8 y_Rd_underline [.ref (adr X 6)] m Φ := by
  intro d σ hV
  refine jE.of (by decide) (by simp [Value.category]) (Nat.le_of_ble_eq_true rfl) rfl ?_
  exact t_Rd_underline_0 F hV he
def w_Rd_stepOutFor_64 (X : CX) (x1 : Int32) (b2 : Nat) (x3 : Int32) (m : CS) (Φ : Option Value → CS → Prop) : Prop := Φ none m
theorem t_Rd_stepOutFor_64 {X : CX} {a0 : Array Value} (F : cF X a0) {d : Nat} {x1 : Int32} {b2 : Nat} {x3 : Int32} {m : CS} {σ : jS} {Φ : Option Value → CS → Prop} (hV : CV X m σ) (h : w_Rd_stepOutFor_64 X x1 b2 x3 m Φ) : jW X.1 X.2.1 jcl X.2.2.1 X.2.2.2.1 (d + 1) y_Rd_stepOutFor 64 [some (.ref (adr X 6)), some (.int x1), some (.ref b2), some (.int x3)] [] σ (cP X Φ) := by
  unfold w_Rd_stepOutFor_64 at h
  exact jW.vret (dx_Rd_stepOutFor 34 (e := (64, .return_, 1)) rfl) rfl ⟨_, hV, h⟩
def w_Rd_stepOutFor_54 (X : CX) (x1 : Int32) (b2 : Nat) (x3 : Int32) (m : CS) (Φ : Option Value → CS → Prop) : Prop := ∀ m1, m1 = cI m 65 ((vi m.1 65) - 1) → w_Rd_stepOutFor_64 X (x1) (b2) (x3) m1 Φ
theorem t_Rd_stepOutFor_54 {X : CX} {a0 : Array Value} (F : cF X a0) {d : Nat} {x1 : Int32} {b2 : Nat} {x3 : Int32} {m : CS} {σ : jS} {Φ : Option Value → CS → Prop} (hV : CV X m σ) (h : w_Rd_stepOutFor_54 X x1 b2 x3 m Φ) : jW X.1 X.2.1 jcl X.2.2.1 X.2.2.2.1 (d + 1) y_Rd_stepOutFor 54 [some (.ref (adr X 6)), some (.int x1), some (.ref b2), some (.int x3)] [] σ (cP X Φ) := by
  unfold w_Rd_stepOutFor_54 at h
  refine jW.aload_n (dx_Rd_stepOutFor 28 (e := (54, .aload_n 0, 1)) rfl) rfl rfl (pc' := 55) rfl ?_
  refine jW.dup (dx_Rd_stepOutFor 29 (e := (55, .dup, 1)) rfl) rfl (pc' := 56) rfl ?_
  refine jW.cg (κ := 6) (k := 5) F hV.s6 f_Rd_stepOutFor_56 (by decide) rfl (pc' := 59) rfl ?_
  refine jW.iconst (v := 1) (dx_Rd_stepOutFor 31 (e := (59, .iconst 1, 1)) rfl) (by decide) (pc' := 60) rfl ?_
  refine jW.isub (dx_Rd_stepOutFor 32 (e := (60, .isub, 1)) rfl) (pc' := 61) rfl ?_
  refine jW.cp6 (k := 5) F hV f_Rd_stepOutFor_61 (by decide) rfl rfl rfl (pc' := 64) rfl (fun σ hV => ?_)
  replace h := h _ rfl
  exact t_Rd_stepOutFor_64 F hV h
def w_Rd_stepOutFor_33 (X : CX) (x1 : Int32) (b2 : Nat) (s0 : Int32) (m : CS) (Φ : Option Value → CS → Prop) : Prop := (∃ i1, isB m (b2) i1 ∧ ((vb m.1 i1 0 = 4 → w_Rd_stepOutFor_54 X (x1) (b2) (s0) m Φ) ∧ (¬ vb m.1 i1 0 = 4 → (∃ i2, isB m (b2) i2 ∧ ((vb m.1 i2 0 = 2 → ((s0 = 0 → w_Rd_stepOutFor_54 X (x1) (b2) (s0) m Φ) ∧ (¬ s0 = 0 → w_Rd_stepOutFor_64 X (x1) (b2) (s0) m Φ))) ∧ (¬ vb m.1 i2 0 = 2 → w_Rd_stepOutFor_64 X (x1) (b2) (s0) m Φ))))))
theorem t_Rd_stepOutFor_33 {X : CX} {a0 : Array Value} (F : cF X a0) {d : Nat} {x1 : Int32} {b2 : Nat} {s0 : Int32} {o3 : Option Value} {m : CS} {σ : jS} {Φ : Option Value → CS → Prop} (hV : CV X m σ) (h : w_Rd_stepOutFor_33 X x1 b2 s0 m Φ) : jW X.1 X.2.1 jcl X.2.2.1 X.2.2.2.1 (d + 1) y_Rd_stepOutFor 33 [some (.ref (adr X 6)), some (.int x1), some (.ref b2), o3] [.int s0] σ (cP X Φ) := by
  unfold w_Rd_stepOutFor_33 at h
  refine jW.istore_n (dx_Rd_stepOutFor 17 (e := (33, .istore_n 3, 1)) rfl) rfl (by decide) rfl (pc' := 34) rfl ?_
  refine jW.aload_n (dx_Rd_stepOutFor 18 (e := (34, .aload_n 2, 1)) rfl) rfl rfl (pc' := 35) rfl ?_
  obtain ⟨i1, hi, h⟩ := h
  refine jW.cgb F hV hi f_Rd_stepOutFor_35 (by decide) (pc' := 38) rfl ?_
  refine jW.iconst (v := 4) (dx_Rd_stepOutFor 20 (e := (38, .iconst 4, 1)) rfl) (by decide) (pc' := 39) rfl ?_
  refine jW.icmp_eq (dx_Rd_stepOutFor 21 (e := (39, .if_icmp .eq 15, 3)) rfl) 54 (by decide) (pc' := 42) rfl (fun c => ?_) (fun c => ?_)
  · replace h := h.1 c
    exact t_Rd_stepOutFor_54 F hV h
  · replace h := h.2 c
    refine jW.aload_n (dx_Rd_stepOutFor 22 (e := (42, .aload_n 2, 1)) rfl) rfl rfl (pc' := 43) rfl ?_
    obtain ⟨i2, hi, h⟩ := h
    refine jW.cgb F hV hi f_Rd_stepOutFor_43 (by decide) (pc' := 46) rfl ?_
    refine jW.iconst (v := 2) (dx_Rd_stepOutFor 24 (e := (46, .iconst 2, 1)) rfl) (by decide) (pc' := 47) rfl ?_
    refine jW.icmp_ne (dx_Rd_stepOutFor 25 (e := (47, .if_icmp .ne 17, 3)) rfl) 64 (by decide) (pc' := 50) rfl (fun c => ?_) (fun c => ?_)
    · replace h := h.2 c
      exact t_Rd_stepOutFor_64 F hV h
    · replace h := h.1 c
      refine jW.iload_n (dx_Rd_stepOutFor 26 (e := (50, .iload_n 3, 1)) rfl) rfl rfl (pc' := 51) rfl ?_
      refine jW.if_ne (dx_Rd_stepOutFor 27 (e := (51, .ifCond .ne 13, 3)) rfl) 64 (by decide) (pc' := 54) rfl (fun c => ?_) (fun c => ?_)
      · replace h := h.2 c
        exact t_Rd_stepOutFor_64 F hV h
      · replace h := h.1 c
        exact t_Rd_stepOutFor_54 F hV h
def w_Rd_stepOutFor_32 (X : CX) (x1 : Int32) (b2 : Nat) (m : CS) (Φ : Option Value → CS → Prop) : Prop := w_Rd_stepOutFor_33 X (x1) (b2) (0) m Φ
theorem t_Rd_stepOutFor_32 {X : CX} {a0 : Array Value} (F : cF X a0) {d : Nat} {x1 : Int32} {b2 : Nat} {o3 : Option Value} {m : CS} {σ : jS} {Φ : Option Value → CS → Prop} (hV : CV X m σ) (h : w_Rd_stepOutFor_32 X x1 b2 m Φ) : jW X.1 X.2.1 jcl X.2.2.1 X.2.2.2.1 (d + 1) y_Rd_stepOutFor 32 [some (.ref (adr X 6)), some (.int x1), some (.ref b2), o3] [] σ (cP X Φ) := by
  unfold w_Rd_stepOutFor_32 at h
  refine jW.iconst (v := 0) (dx_Rd_stepOutFor 16 (e := (32, .iconst 0, 1)) rfl) (by decide) (pc' := 33) rfl ?_
  exact t_Rd_stepOutFor_33 F hV h
def w_Rd_stepOutFor_0 (X : CX) (x1 : Int32) (m : CS) (Φ : Option Value → CS → Prop) : Prop := cE X 0 y_Rd_openAt [.ref (adr X 6), .int (vi m.1 65)] m (cbP fun r1 m1 => ((x1 = 3 → (∃ i1, isB m1 (r1) i1 ∧ cE X 0 y_Line_markSign [.ref (adr X 5)] m1 (ciP fun r2 m2 => ((vb m1.1 i1 12 = r2 → w_Rd_stepOutFor_33 X (x1) (r1) (1) m2 Φ) ∧ (¬ vb m1.1 i1 12 = r2 → w_Rd_stepOutFor_32 X (x1) (r1) m2 Φ))))) ∧ (¬ x1 = 3 → w_Rd_stepOutFor_32 X (x1) (r1) m1 Φ)))
theorem t_Rd_stepOutFor_0 {X : CX} {a0 : Array Value} (F : cF X a0) {d : Nat} {x1 : Int32} {o2 o3 : Option Value} {m : CS} {σ : jS} {Φ : Option Value → CS → Prop} (hV : CV X m σ) (h : w_Rd_stepOutFor_0 X x1 m Φ) : jW X.1 X.2.1 jcl X.2.2.1 X.2.2.2.1 (d + 1) y_Rd_stepOutFor 0 [some (.ref (adr X 6)), some (.int x1), o2, o3] [] σ (cP X Φ) := by
  unfold w_Rd_stepOutFor_0 at h
  refine jW.aload_n (dx_Rd_stepOutFor 0 (e := (0, .aload_n 0, 1)) rfl) rfl rfl (pc' := 1) rfl ?_
  refine jW.aload_n (dx_Rd_stepOutFor 1 (e := (1, .aload_n 0, 1)) rfl) rfl rfl (pc' := 2) rfl ?_
  refine jW.cg (κ := 6) (k := 5) F hV.s6 f_Rd_stepOutFor_2 (by decide) rfl (pc' := 5) rfl ?_
  refine jW.callVe F (h (d + 0) _ hV) (dx_Rd_stepOutFor 3 (e := (5, .invokevirtual 53, 3)) rfl) can_Rd_openAt jw_570 jw_572 hV.cl6 rfl sel_Rd_openAt rfl rfl (Nat.le_of_ble_eq_true rfl) (pc' := 8) rfl (fun r σ hr => ?_)
  clear hV
  obtain ⟨_, hV, _, rfl, h⟩ := hr
  refine jW.astore_n (dx_Rd_stepOutFor 4 (e := (8, .astore_n 2, 1)) rfl) rfl (by decide) rfl (pc' := 9) rfl ?_
  refine jW.iload_n (dx_Rd_stepOutFor 5 (e := (9, .iload_n 1, 1)) rfl) rfl rfl (pc' := 10) rfl ?_
  refine jW.iconst (v := 3) (dx_Rd_stepOutFor 6 (e := (10, .iconst 3, 1)) rfl) (by decide) (pc' := 11) rfl ?_
  refine jW.icmp_ne (dx_Rd_stepOutFor 7 (e := (11, .if_icmp .ne 21, 3)) rfl) 32 (by decide) (pc' := 14) rfl (fun c => ?_) (fun c => ?_)
  · replace h := h.2 c
    exact t_Rd_stepOutFor_32 F hV h
  · replace h := h.1 c
    refine jW.aload_n (dx_Rd_stepOutFor 8 (e := (14, .aload_n 2, 1)) rfl) rfl rfl (pc' := 15) rfl ?_
    obtain ⟨i1, hi, h⟩ := h
    refine jW.cgb F hV hi f_Rd_stepOutFor_15 (by decide) (pc' := 18) rfl ?_
    refine jW.aload_n (dx_Rd_stepOutFor 10 (e := (18, .aload_n 0, 1)) rfl) rfl rfl (pc' := 19) rfl ?_
    refine jW.cg (κ := 6) (k := 2) F hV.s6 f_Rd_stepOutFor_19 (by decide) rfl (pc' := 22) rfl ?_
    refine jW.callVe F (h (d + 0) _ hV) (dx_Rd_stepOutFor 12 (e := (22, .invokevirtual 179, 3)) rfl) can_Line_markSign jw_805 jw_806 hV.cl5 rfl jw_807 rfl rfl (Nat.le_of_ble_eq_true rfl) (pc' := 25) rfl (fun r σ hr => ?_)
    clear hV
    obtain ⟨_, hV, _, rfl, h⟩ := hr
    refine jW.icmp_ne (dx_Rd_stepOutFor 13 (e := (25, .if_icmp .ne 7, 3)) rfl) 32 (by decide) (pc' := 28) rfl (fun c => ?_) (fun c => ?_)
    · replace h := h.2 c
      exact t_Rd_stepOutFor_32 F hV h
    · replace h := h.1 c
      refine jW.iconst (v := 1) (dx_Rd_stepOutFor 14 (e := (28, .iconst 1, 1)) rfl) (by decide) (pc' := 29) rfl ?_
      refine jW.goto (dx_Rd_stepOutFor 15 (e := (29, .goto 4, 3)) rfl) 33 (by decide) ?_
      exact t_Rd_stepOutFor_33 F hV h
theorem g_Rd_stepOutFor {X : CX} {a0 : Array Value} (F : cF X a0) {x1 : Int32} {m : CS} {Φ : Option Value → CS → Prop} (he : w_Rd_stepOutFor_0 X x1 m Φ) : cE X 1 y_Rd_stepOutFor [.ref (adr X 6), .int x1] m Φ := by
  intro d σ hV
  refine jE.of (by decide) (by simp [Value.category]) (Nat.le_of_ble_eq_true rfl) rfl ?_
  exact t_Rd_stepOutFor_0 F hV he
def w_Rd_close_47 (X : CX) (b1 : Nat) (m : CS) (Φ : Option Value → CS → Prop) : Prop := ∀ m1, m1 = cI m 64 (vi m.1 65) → Φ none m1
theorem t_Rd_close_47 {X : CX} {a0 : Array Value} (F : cF X a0) {d : Nat} {b1 : Nat} {m : CS} {σ : jS} {Φ : Option Value → CS → Prop} (hV : CV X m σ) (h : w_Rd_close_47 X b1 m Φ) : jW X.1 X.2.1 jcl X.2.2.1 X.2.2.2.1 (d + 8) y_Rd_close 47 [some (.ref (adr X 6)), some (.ref b1)] [] σ (cP X Φ) := by
  unfold w_Rd_close_47 at h
  refine jW.aload_n (dx_Rd_close 23 (e := (47, .aload_n 0, 1)) rfl) rfl rfl (pc' := 48) rfl ?_
  refine jW.aload_n (dx_Rd_close 24 (e := (48, .aload_n 0, 1)) rfl) rfl rfl (pc' := 49) rfl ?_
  refine jW.cg (κ := 6) (k := 5) F hV.s6 f_Rd_close_49 (by decide) rfl (pc' := 52) rfl ?_
  refine jW.cp6 (k := 4) F hV f_Rd_close_52 (by decide) rfl rfl rfl (pc' := 55) rfl (fun σ hV => ?_)
  replace h := h _ rfl
  exact jW.vret (dx_Rd_close 27 (e := (55, .return_, 1)) rfl) rfl ⟨_, hV, h⟩
def w_Rd_close_0 (X : CX) (m : CS) (Φ : Option Value → CS → Prop) : Prop := ((vi m.1 65 < vi m.1 64 → cE X 0 y_Rd_openAt [.ref (adr X 6), .int (vi m.1 64)] m (cbP fun r1 m1 => (∃ i1, isB m1 (r1) i1 ∧ ((vb m1.1 i1 0 = 4 → cE X 7 y_Lab_settle [.ref (adr X 4), .ref (r1)] m1 (ciP fun r2 m2 => ((r2 = 0 → cE X 0 y_Tree_dropLast [.ref (adr X 2)] m2 (cvP fun m3 => w_Rd_close_47 X (r1) m3 Φ)) ∧ (¬ r2 = 0 → w_Rd_close_47 X (r1) m2 Φ)))) ∧ (¬ vb m1.1 i1 0 = 4 → w_Rd_close_47 X (r1) m1 Φ))))) ∧ (¬ vi m.1 65 < vi m.1 64 → Φ none m))
theorem t_Rd_close_0 {X : CX} {a0 : Array Value} (F : cF X a0) {d : Nat} {o1 : Option Value} {m : CS} {σ : jS} {Φ : Option Value → CS → Prop} (hV : CV X m σ) (h : w_Rd_close_0 X m Φ) : jW X.1 X.2.1 jcl X.2.2.1 X.2.2.2.1 (d + 8) y_Rd_close 0 [some (.ref (adr X 6)), o1] [] σ (cP X Φ) := by
  unfold w_Rd_close_0 at h
  refine jW.aload_n (dx_Rd_close 0 (e := (0, .aload_n 0, 1)) rfl) rfl rfl (pc' := 1) rfl ?_
  refine jW.cg (κ := 6) (k := 4) F hV.s6 f_Rd_close_1 (by decide) rfl (pc' := 4) rfl ?_
  refine jW.aload_n (dx_Rd_close 2 (e := (4, .aload_n 0, 1)) rfl) rfl rfl (pc' := 5) rfl ?_
  refine jW.cg (κ := 6) (k := 5) F hV.s6 f_Rd_close_5 (by decide) rfl (pc' := 8) rfl ?_
  refine jW.icmp_gt (dx_Rd_close 4 (e := (8, .if_icmp .gt 4, 3)) rfl) 12 (by decide) (pc' := 11) rfl (fun c => ?_) (fun c => ?_)
  · replace h := h.1 c
    refine jW.aload_n (dx_Rd_close 6 (e := (12, .aload_n 0, 1)) rfl) rfl rfl (pc' := 13) rfl ?_
    refine jW.aload_n (dx_Rd_close 7 (e := (13, .aload_n 0, 1)) rfl) rfl rfl (pc' := 14) rfl ?_
    refine jW.cg (κ := 6) (k := 4) F hV.s6 f_Rd_close_14 (by decide) rfl (pc' := 17) rfl ?_
    refine jW.callVe F (h (d + 7) _ hV) (dx_Rd_close 9 (e := (17, .invokevirtual 53, 3)) rfl) can_Rd_openAt jw_570 jw_572 hV.cl6 rfl sel_Rd_openAt rfl rfl (Nat.le_of_ble_eq_true rfl) (pc' := 20) rfl (fun r σ hr => ?_)
    clear hV
    obtain ⟨_, hV, _, rfl, h⟩ := hr
    refine jW.astore_n (dx_Rd_close 10 (e := (20, .astore_n 1, 1)) rfl) rfl (by decide) rfl (pc' := 21) rfl ?_
    refine jW.aload_n (dx_Rd_close 11 (e := (21, .aload_n 1, 1)) rfl) rfl rfl (pc' := 22) rfl ?_
    obtain ⟨i1, hi, h⟩ := h
    refine jW.cgb F hV hi f_Rd_close_22 (by decide) (pc' := 25) rfl ?_
    refine jW.iconst (v := 4) (dx_Rd_close 13 (e := (25, .iconst 4, 1)) rfl) (by decide) (pc' := 26) rfl ?_
    refine jW.icmp_ne (dx_Rd_close 14 (e := (26, .if_icmp .ne 21, 3)) rfl) 47 (by decide) (pc' := 29) rfl (fun c => ?_) (fun c => ?_)
    · replace h := h.2 c
      exact t_Rd_close_47 F hV h
    · replace h := h.1 c
      refine jW.aload_n (dx_Rd_close 15 (e := (29, .aload_n 0, 1)) rfl) rfl rfl (pc' := 30) rfl ?_
      refine jW.cg (κ := 6) (k := 1) F hV.s6 f_Rd_close_30 (by decide) rfl (pc' := 33) rfl ?_
      refine jW.aload_n (dx_Rd_close 17 (e := (33, .aload_n 1, 1)) rfl) rfl rfl (pc' := 34) rfl ?_
      refine jW.callVe F (h (d + 0) _ hV) (dx_Rd_close 18 (e := (34, .invokevirtual 170, 3)) rfl) can_Lab_settle jw_689 jw_690 hV.cl4 rfl jw_691 rfl rfl (Nat.le_of_ble_eq_true rfl) (pc' := 37) rfl (fun r σ hr => ?_)
      clear hV
      obtain ⟨_, hV, _, rfl, h⟩ := hr
      refine jW.if_ne (dx_Rd_close 19 (e := (37, .ifCond .ne 10, 3)) rfl) 47 (by decide) (pc' := 40) rfl (fun c => ?_) (fun c => ?_)
      · replace h := h.2 c
        exact t_Rd_close_47 F hV h
      · replace h := h.1 c
        refine jW.aload_n (dx_Rd_close 20 (e := (40, .aload_n 0, 1)) rfl) rfl rfl (pc' := 41) rfl ?_
        refine jW.cg (κ := 6) (k := 0) F hV.s6 f_Rd_close_41 (by decide) rfl (pc' := 44) rfl ?_
        refine jW.callVe F (h (d + 7) _ hV) (dx_Rd_close 22 (e := (44, .invokevirtual 175, 3)) rfl) can_Tree_dropLast jw_797 jw_798 hV.cl2 rfl jw_799 rfl rfl (Nat.le_of_ble_eq_true rfl) (pc' := 47) rfl (fun r σ hr => ?_)
        clear hV
        obtain ⟨_, hV, rfl, h⟩ := hr
        exact t_Rd_close_47 F hV h
  · replace h := h.2 c
    exact jW.vret (dx_Rd_close 5 (e := (11, .return_, 1)) rfl) rfl ⟨_, hV, h⟩
theorem g_Rd_close {X : CX} {a0 : Array Value} (F : cF X a0) {m : CS} {Φ : Option Value → CS → Prop} (he : w_Rd_close_0 X m Φ) : cE X 8 y_Rd_close [.ref (adr X 6)] m Φ := by
  intro d σ hV
  refine jE.of (by decide) (by simp [Value.category]) (Nat.le_of_ble_eq_true rfl) rfl ?_
  exact t_Rd_close_0 F hV he
def w_Rd_carryOut_80 (X : CX) (x1 : Int32) (m : CS) (Φ : Option Value → CS → Prop) : Prop := cE X 8 y_Rd_push [.ref (adr X 6), .int (6)] m (cbP fun r1 m1 => ∀ m2, m2 = cI m1 67 (1) → Φ (some (.int (1))) m2)
theorem t_Rd_carryOut_80 {X : CX} {a0 : Array Value} (F : cF X a0) {d : Nat} {x1 : Int32} {m : CS} {σ : jS} {Φ : Option Value → CS → Prop} (hV : CV X m σ) (h : w_Rd_carryOut_80 X x1 m Φ) : jW X.1 X.2.1 jcl X.2.2.1 X.2.2.2.1 (d + 10) y_Rd_carryOut 80 [some (.ref (adr X 6)), some (.int x1)] [] σ (cP X Φ) := by
  unfold w_Rd_carryOut_80 at h
  refine jW.aload_n (dx_Rd_carryOut 20 (e := (80, .aload_n 0, 1)) rfl) rfl rfl (pc' := 81) rfl ?_
  refine jW.bipush (v := 6) (dx_Rd_carryOut 21 (e := (81, .bipush 6, 2)) rfl) (by decide) (pc' := 83) rfl ?_
  refine jW.callVe F (h (d + 1) _ hV) (dx_Rd_carryOut 22 (e := (83, .invokevirtual 197, 3)) rfl) can_Rd_push jw_821 jw_823 hV.cl6 rfl sel_Rd_push rfl rfl (Nat.le_of_ble_eq_true rfl) (pc' := 86) rfl (fun r σ hr => ?_)
  clear hV
  obtain ⟨_, hV, _, rfl, h⟩ := hr
  refine jW.pop (dx_Rd_carryOut 23 (e := (86, .pop, 1)) rfl) rfl (pc' := 87) rfl ?_
  refine jW.aload_n (dx_Rd_carryOut 24 (e := (87, .aload_n 0, 1)) rfl) rfl rfl (pc' := 88) rfl ?_
  refine jW.iconst (v := 1) (dx_Rd_carryOut 25 (e := (88, .iconst 1, 1)) rfl) (by decide) (pc' := 89) rfl ?_
  refine jW.cp6 (k := 7) F hV f_Rd_carryOut_89 (by decide) rfl rfl rfl (pc' := 92) rfl (fun σ hV => ?_)
  replace h := h _ rfl
  refine jW.iconst (v := 1) (dx_Rd_carryOut 27 (e := (92, .iconst 1, 1)) rfl) (by decide) (pc' := 93) rfl ?_
  exact jW.zret (dx_Rd_carryOut 28 (e := (93, .ireturn, 1)) rfl) rfl (by decide) ⟨_, hV, h⟩
def w_Rd_carryOut_0 (X : CX) (x1 : Int32) (m : CS) (Φ : Option Value → CS → Prop) : Prop := (((x1).toInt < 1 ∨ 9 < (x1).toInt → w_Rd_carryOut_80 X (x1) m Φ) ∧ (x1 = 1 → cE X 9 y_Rd_beginQuote [.ref (adr X 6)] m (ciP fun r1 m1 => (mZ (r1) ∧ Φ (some (.int (r1))) m1))) ∧ (x1 = 2 → w_Rd_carryOut_80 X (x1) m Φ) ∧ (x1 = 3 → cE X 9 y_Rd_beginItem [.ref (adr X 6)] m (ciP fun r2 m2 => (mZ (r2) ∧ Φ (some (.int (r2))) m2))) ∧ (x1 = 4 → w_Rd_carryOut_80 X (x1) m Φ) ∧ (x1 = 5 → cE X 9 y_Rd_beginHeading [.ref (adr X 6)] m (cvP fun m3 => Φ (some (.int (1))) m3)) ∧ (x1 = 6 → w_Rd_carryOut_80 X (x1) m Φ) ∧ (x1 = 7 → w_Rd_carryOut_80 X (x1) m Φ) ∧ (x1 = 8 → cE X 9 y_Rd_beginFenced [.ref (adr X 6)] m (cvP fun m4 => Φ (some (.int (1))) m4)) ∧ (x1 = 9 → cE X 9 y_Rd_beginIndented [.ref (adr X 6)] m (cvP fun m5 => Φ (some (.int (1))) m5)))
theorem t_Rd_carryOut_0 {X : CX} {a0 : Array Value} (F : cF X a0) {d : Nat} {x1 : Int32} {m : CS} {σ : jS} {Φ : Option Value → CS → Prop} (hV : CV X m σ) (h : w_Rd_carryOut_0 X x1 m Φ) : jW X.1 X.2.1 jcl X.2.2.1 X.2.2.2.1 (d + 10) y_Rd_carryOut 0 [some (.ref (adr X 6)), some (.int x1)] [] σ (cP X Φ) := by
  unfold w_Rd_carryOut_0 at h
  refine jW.iload_n (dx_Rd_carryOut 0 (e := (0, .iload_n 1, 1)) rfl) rfl rfl (pc' := 1) rfl ?_
  refine jW.sw (lo := 1) (hi := 9) (fun c => ?_) (fun c => ?_)
  · replace h := h.1 c
    refine jW.tableOut (dx_Rd_carryOut 1 (e := (1, .tableswitch 79 1 9 #[51, 79, 56, 79, 61, 79, 79, 67, 73], 51)) rfl) c 80 (by decide) ?_
    exact t_Rd_carryOut_80 F hV h
  · replace h := h.2
    refine jW.swc 1 c (by decide) (fun e => ?_) (fun c => ?_)
    · replace h := h.1 e
      refine jW.tableJ (dx_Rd_carryOut 1 (e := (1, .tableswitch 79 1 9 #[51, 79, 56, 79, 61, 79, 79, 67, 73], 51)) rfl) e (by decide) (by decide) rfl 52 (by decide) ?_
      refine jW.aload_n (dx_Rd_carryOut 2 (e := (52, .aload_n 0, 1)) rfl) rfl rfl (pc' := 53) rfl ?_
      refine jW.callVe F (h (d + 0) _ hV) (dx_Rd_carryOut 3 (e := (53, .invokevirtual 182, 3)) rfl) can_Rd_beginQuote jw_817 jw_819 hV.cl6 rfl sel_Rd_beginQuote rfl rfl (Nat.le_of_ble_eq_true rfl) (pc' := 56) rfl (fun r σ hr => ?_)
      clear hV
      obtain ⟨_, hV, _, rfl, h⟩ := hr
      exact jW.zret (dx_Rd_carryOut 4 (e := (56, .ireturn, 1)) rfl) rfl h.1.n ⟨_, hV, h.2⟩
    · replace h := h.2
      refine jW.swc 2 c (by decide) (fun e => ?_) (fun c => ?_)
      · replace h := h.1 e
        refine jW.tableJ (dx_Rd_carryOut 1 (e := (1, .tableswitch 79 1 9 #[51, 79, 56, 79, 61, 79, 79, 67, 73], 51)) rfl) e (by decide) (by decide) rfl 80 (by decide) ?_
        exact t_Rd_carryOut_80 F hV h
      · replace h := h.2
        refine jW.swc 3 c (by decide) (fun e => ?_) (fun c => ?_)
        · replace h := h.1 e
          refine jW.tableJ (dx_Rd_carryOut 1 (e := (1, .tableswitch 79 1 9 #[51, 79, 56, 79, 61, 79, 79, 67, 73], 51)) rfl) e (by decide) (by decide) rfl 57 (by decide) ?_
          refine jW.aload_n (dx_Rd_carryOut 5 (e := (57, .aload_n 0, 1)) rfl) rfl rfl (pc' := 58) rfl ?_
          refine jW.callVe F (h (d + 0) _ hV) (dx_Rd_carryOut 6 (e := (58, .invokevirtual 185, 3)) rfl) can_Rd_beginItem jw_825 jw_827 hV.cl6 rfl sel_Rd_beginItem rfl rfl (Nat.le_of_ble_eq_true rfl) (pc' := 61) rfl (fun r σ hr => ?_)
          clear hV
          obtain ⟨_, hV, _, rfl, h⟩ := hr
          exact jW.zret (dx_Rd_carryOut 7 (e := (61, .ireturn, 1)) rfl) rfl h.1.n ⟨_, hV, h.2⟩
        · replace h := h.2
          refine jW.swc 4 c (by decide) (fun e => ?_) (fun c => ?_)
          · replace h := h.1 e
            refine jW.tableJ (dx_Rd_carryOut 1 (e := (1, .tableswitch 79 1 9 #[51, 79, 56, 79, 61, 79, 79, 67, 73], 51)) rfl) e (by decide) (by decide) rfl 80 (by decide) ?_
            exact t_Rd_carryOut_80 F hV h
          · replace h := h.2
            refine jW.swc 5 c (by decide) (fun e => ?_) (fun c => ?_)
            · replace h := h.1 e
              refine jW.tableJ (dx_Rd_carryOut 1 (e := (1, .tableswitch 79 1 9 #[51, 79, 56, 79, 61, 79, 79, 67, 73], 51)) rfl) e (by decide) (by decide) rfl 62 (by decide) ?_
              refine jW.aload_n (dx_Rd_carryOut 8 (e := (62, .aload_n 0, 1)) rfl) rfl rfl (pc' := 63) rfl ?_
              refine jW.callVe F (h (d + 0) _ hV) (dx_Rd_carryOut 9 (e := (63, .invokevirtual 188, 3)) rfl) can_Rd_beginHeading jw_837 jw_839 hV.cl6 rfl sel_Rd_beginHeading rfl rfl (Nat.le_of_ble_eq_true rfl) (pc' := 66) rfl (fun r σ hr => ?_)
              clear hV
              obtain ⟨_, hV, rfl, h⟩ := hr
              refine jW.iconst (v := 1) (dx_Rd_carryOut 10 (e := (66, .iconst 1, 1)) rfl) (by decide) (pc' := 67) rfl ?_
              exact jW.zret (dx_Rd_carryOut 11 (e := (67, .ireturn, 1)) rfl) rfl (by decide) ⟨_, hV, h⟩
            · replace h := h.2
              refine jW.swc 6 c (by decide) (fun e => ?_) (fun c => ?_)
              · replace h := h.1 e
                refine jW.tableJ (dx_Rd_carryOut 1 (e := (1, .tableswitch 79 1 9 #[51, 79, 56, 79, 61, 79, 79, 67, 73], 51)) rfl) e (by decide) (by decide) rfl 80 (by decide) ?_
                exact t_Rd_carryOut_80 F hV h
              · replace h := h.2
                refine jW.swc 7 c (by decide) (fun e => ?_) (fun c => ?_)
                · replace h := h.1 e
                  refine jW.tableJ (dx_Rd_carryOut 1 (e := (1, .tableswitch 79 1 9 #[51, 79, 56, 79, 61, 79, 79, 67, 73], 51)) rfl) e (by decide) (by decide) rfl 80 (by decide) ?_
                  exact t_Rd_carryOut_80 F hV h
                · replace h := h.2
                  refine jW.swc 8 c (by decide) (fun e => ?_) (fun c => ?_)
                  · replace h := h.1 e
                    refine jW.tableJ (dx_Rd_carryOut 1 (e := (1, .tableswitch 79 1 9 #[51, 79, 56, 79, 61, 79, 79, 67, 73], 51)) rfl) e (by decide) (by decide) rfl 68 (by decide) ?_
                    refine jW.aload_n (dx_Rd_carryOut 12 (e := (68, .aload_n 0, 1)) rfl) rfl rfl (pc' := 69) rfl ?_
                    refine jW.callVe F (h (d + 0) _ hV) (dx_Rd_carryOut 13 (e := (69, .invokevirtual 191, 3)) rfl) can_Rd_beginFenced jw_864 jw_866 hV.cl6 rfl sel_Rd_beginFenced rfl rfl (Nat.le_of_ble_eq_true rfl) (pc' := 72) rfl (fun r σ hr => ?_)
                    clear hV
                    obtain ⟨_, hV, rfl, h⟩ := hr
                    refine jW.iconst (v := 1) (dx_Rd_carryOut 14 (e := (72, .iconst 1, 1)) rfl) (by decide) (pc' := 73) rfl ?_
                    exact jW.zret (dx_Rd_carryOut 15 (e := (73, .ireturn, 1)) rfl) rfl (by decide) ⟨_, hV, h⟩
                  · replace h := h.2
                    have e := sw_last (v := 9) c (by decide) (by decide)
                    replace h := h e
                    refine jW.tableJ (z := 9) (dx_Rd_carryOut 1 (e := (1, .tableswitch 79 1 9 #[51, 79, 56, 79, 61, 79, 79, 67, 73], 51)) rfl) e (by decide) (by decide) rfl 74 (by decide) ?_
                    refine jW.aload_n (dx_Rd_carryOut 16 (e := (74, .aload_n 0, 1)) rfl) rfl rfl (pc' := 75) rfl ?_
                    refine jW.callVe F (h (d + 0) _ hV) (dx_Rd_carryOut 17 (e := (75, .invokevirtual 194, 3)) rfl) can_Rd_beginIndented jw_868 jw_870 hV.cl6 rfl sel_Rd_beginIndented rfl rfl (Nat.le_of_ble_eq_true rfl) (pc' := 78) rfl (fun r σ hr => ?_)
                    clear hV
                    obtain ⟨_, hV, rfl, h⟩ := hr
                    refine jW.iconst (v := 1) (dx_Rd_carryOut 18 (e := (78, .iconst 1, 1)) rfl) (by decide) (pc' := 79) rfl ?_
                    exact jW.zret (dx_Rd_carryOut 19 (e := (79, .ireturn, 1)) rfl) rfl (by decide) ⟨_, hV, h⟩
theorem g_Rd_carryOut {X : CX} {a0 : Array Value} (F : cF X a0) {x1 : Int32} {m : CS} {Φ : Option Value → CS → Prop} (he : w_Rd_carryOut_0 X x1 m Φ) : cE X 10 y_Rd_carryOut [.ref (adr X 6), .int x1] m Φ := by
  intro d σ hV
  refine jE.of (by decide) (by simp [Value.category]) (Nat.le_of_ble_eq_true rfl) rfl ?_
  exact t_Rd_carryOut_0 F hV he
def w_Rd_beginQuote_0 (X : CX) (m : CS) (Φ : Option Value → CS → Prop) : Prop := (((vi m.1 64) + 1 ≤ 12 → cE X 8 y_Rd_push [.ref (adr X 6), .int (1)] m (cbP fun r1 m1 => cE X 2 y_Line_passQuoteMark [.ref (adr X 5)] m1 (ciP fun r2 m2 => (mZ (r2) ∧ Φ (some (.int (r2))) m2)))) ∧ (¬ (vi m.1 64) + 1 ≤ 12 → Φ (some (.int (0))) m))
theorem t_Rd_beginQuote_0 {X : CX} {a0 : Array Value} (F : cF X a0) {d : Nat} {m : CS} {σ : jS} {Φ : Option Value → CS → Prop} (hV : CV X m σ) (h : w_Rd_beginQuote_0 X m Φ) : jW X.1 X.2.1 jcl X.2.2.1 X.2.2.2.1 (d + 9) y_Rd_beginQuote 0 [some (.ref (adr X 6))] [] σ (cP X Φ) := by
  unfold w_Rd_beginQuote_0 at h
  refine jW.aload_n (dx_Rd_beginQuote 0 (e := (0, .aload_n 0, 1)) rfl) rfl rfl (pc' := 1) rfl ?_
  refine jW.cg (κ := 6) (k := 4) F hV.s6 f_Rd_beginQuote_1 (by decide) rfl (pc' := 4) rfl ?_
  refine jW.iconst (v := 1) (dx_Rd_beginQuote 2 (e := (4, .iconst 1, 1)) rfl) (by decide) (pc' := 5) rfl ?_
  refine jW.iadd (dx_Rd_beginQuote 3 (e := (5, .iadd, 1)) rfl) (pc' := 6) rfl ?_
  refine jW.bipush (v := 12) (dx_Rd_beginQuote 4 (e := (6, .bipush 12, 2)) rfl) (by decide) (pc' := 8) rfl ?_
  refine jW.icmp_le (dx_Rd_beginQuote 5 (e := (8, .if_icmp .le 5, 3)) rfl) 13 (by decide) (pc' := 11) rfl (fun c => ?_) (fun c => ?_)
  · replace h := h.1 c
    refine jW.aload_n (dx_Rd_beginQuote 8 (e := (13, .aload_n 0, 1)) rfl) rfl rfl (pc' := 14) rfl ?_
    refine jW.iconst (v := 1) (dx_Rd_beginQuote 9 (e := (14, .iconst 1, 1)) rfl) (by decide) (pc' := 15) rfl ?_
    refine jW.callVe F (h (d + 0) _ hV) (dx_Rd_beginQuote 10 (e := (15, .invokevirtual 197, 3)) rfl) can_Rd_push jw_821 jw_823 hV.cl6 rfl sel_Rd_push rfl rfl (Nat.le_of_ble_eq_true rfl) (pc' := 18) rfl (fun r σ hr => ?_)
    clear hV
    obtain ⟨_, hV, _, rfl, h⟩ := hr
    refine jW.pop (dx_Rd_beginQuote 11 (e := (18, .pop, 1)) rfl) rfl (pc' := 19) rfl ?_
    refine jW.aload_n (dx_Rd_beginQuote 12 (e := (19, .aload_n 0, 1)) rfl) rfl rfl (pc' := 20) rfl ?_
    refine jW.cg (κ := 6) (k := 2) F hV.s6 f_Rd_beginQuote_20 (by decide) rfl (pc' := 23) rfl ?_
    refine jW.callVe F (h (d + 6) _ hV) (dx_Rd_beginQuote 14 (e := (23, .invokevirtual 101, 3)) rfl) can_Line_passQuoteMark jw_578 jw_579 hV.cl5 rfl jw_580 rfl rfl (Nat.le_of_ble_eq_true rfl) (pc' := 26) rfl (fun r σ hr => ?_)
    clear hV
    obtain ⟨_, hV, _, rfl, h⟩ := hr
    exact jW.zret (dx_Rd_beginQuote 15 (e := (26, .ireturn, 1)) rfl) rfl h.1.n ⟨_, hV, h.2⟩
  · replace h := h.2 c
    refine jW.iconst (v := 0) (dx_Rd_beginQuote 6 (e := (11, .iconst 0, 1)) rfl) (by decide) (pc' := 12) rfl ?_
    exact jW.zret (dx_Rd_beginQuote 7 (e := (12, .ireturn, 1)) rfl) rfl (by decide) ⟨_, hV, h⟩
theorem g_Rd_beginQuote {X : CX} {a0 : Array Value} (F : cF X a0) {m : CS} {Φ : Option Value → CS → Prop} (he : w_Rd_beginQuote_0 X m Φ) : cE X 9 y_Rd_beginQuote [.ref (adr X 6)] m Φ := by
  intro d σ hV
  refine jE.of (by decide) (by simp [Value.category]) (Nat.le_of_ble_eq_true rfl) rfl ?_
  exact t_Rd_beginQuote_0 F hV he
def w_Rd_push_56 (X : CX) (x1 : Int32) (b2 : Nat) (m : CS) (Φ : Option Value → CS → Prop) : Prop := ∀ m1, m1 = cI m 65 (vi m.1 64) → Φ (some (.ref (b2))) m1
theorem t_Rd_push_56 {X : CX} {a0 : Array Value} (F : cF X a0) {d : Nat} {x1 : Int32} {b2 : Nat} {m : CS} {σ : jS} {Φ : Option Value → CS → Prop} (hV : CV X m σ) (h : w_Rd_push_56 X x1 b2 m Φ) : jW X.1 X.2.1 jcl X.2.2.1 X.2.2.2.1 (d + 8) y_Rd_push 56 [some (.ref (adr X 6)), some (.int x1), some (.ref b2)] [] σ (cP X Φ) := by
  unfold w_Rd_push_56 at h
  refine jW.aload_n (dx_Rd_push 30 (e := (56, .aload_n 0, 1)) rfl) rfl rfl (pc' := 57) rfl ?_
  refine jW.aload_n (dx_Rd_push 31 (e := (57, .aload_n 0, 1)) rfl) rfl rfl (pc' := 58) rfl ?_
  refine jW.cg (κ := 6) (k := 4) F hV.s6 f_Rd_push_58 (by decide) rfl (pc' := 61) rfl ?_
  refine jW.cp6 (k := 5) F hV f_Rd_push_61 (by decide) rfl rfl rfl (pc' := 64) rfl (fun σ hV => ?_)
  replace h := h _ rfl
  refine jW.aload_n (dx_Rd_push 34 (e := (64, .aload_n 2, 1)) rfl) rfl rfl (pc' := 65) rfl ?_
  exact jW.aret (dx_Rd_push 35 (e := (65, .areturn, 1)) rfl) rfl (Or.inl ⟨_, rfl⟩) (Or.inr ⟨_, rfl⟩) ⟨_, hV, h⟩
def w_Rd_push_0 (X : CX) (x1 : Int32) (m : CS) (Φ : Option Value → CS → Prop) : Prop := cE X 0 y_Rd_openAt [.ref (adr X 6), .int (vi m.1 64)] m (cbP fun r1 m1 => (∃ i1, isB m1 (r1) i1 ∧ cE X 7 y_Tree_add [.ref (adr X 2), .int (x1), .int (vb m1.1 i1 1), .int (vi m1.1 66)] m1 (cbP fun r2 m2 => ∀ m3, m3 = cI m2 64 ((vi m2.1 64) + 1) → ((14 ≤ vi m3.1 64 → w_Rd_push_56 X (x1) (r2) m3 Φ) ∧ (¬ 14 ≤ vi m3.1 64 → (vp_in (vi m3.1 64) 14 ∧ ∃ i2, isB m3 (r2) i2 ∧ ∀ m4, m4 = cO m3 (vi m3.1 64 : Int32).toNatClampNeg i2 → w_Rd_push_56 X (x1) (r2) m4 Φ))))))
theorem t_Rd_push_0 {X : CX} {a0 : Array Value} (F : cF X a0) {d : Nat} {x1 : Int32} {o2 : Option Value} {m : CS} {σ : jS} {Φ : Option Value → CS → Prop} (hV : CV X m σ) (h : w_Rd_push_0 X x1 m Φ) : jW X.1 X.2.1 jcl X.2.2.1 X.2.2.2.1 (d + 8) y_Rd_push 0 [some (.ref (adr X 6)), some (.int x1), o2] [] σ (cP X Φ) := by
  unfold w_Rd_push_0 at h
  refine jW.aload_n (dx_Rd_push 0 (e := (0, .aload_n 0, 1)) rfl) rfl rfl (pc' := 1) rfl ?_
  refine jW.cg (κ := 6) (k := 0) F hV.s6 f_Rd_push_1 (by decide) rfl (pc' := 4) rfl ?_
  refine jW.iload_n (dx_Rd_push 2 (e := (4, .iload_n 1, 1)) rfl) rfl rfl (pc' := 5) rfl ?_
  refine jW.aload_n (dx_Rd_push 3 (e := (5, .aload_n 0, 1)) rfl) rfl rfl (pc' := 6) rfl ?_
  refine jW.aload_n (dx_Rd_push 4 (e := (6, .aload_n 0, 1)) rfl) rfl rfl (pc' := 7) rfl ?_
  refine jW.cg (κ := 6) (k := 4) F hV.s6 f_Rd_push_7 (by decide) rfl (pc' := 10) rfl ?_
  refine jW.callVe F (h (d + 7) _ hV) (dx_Rd_push 6 (e := (10, .invokevirtual 53, 3)) rfl) can_Rd_openAt jw_570 jw_572 hV.cl6 rfl sel_Rd_openAt rfl rfl (Nat.le_of_ble_eq_true rfl) (pc' := 13) rfl (fun r σ hr => ?_)
  clear hV
  obtain ⟨_, hV, _, rfl, h⟩ := hr
  obtain ⟨i1, hi, h⟩ := h
  refine jW.cgb F hV hi f_Rd_push_13 (by decide) (pc' := 16) rfl ?_
  refine jW.aload_n (dx_Rd_push 8 (e := (16, .aload_n 0, 1)) rfl) rfl rfl (pc' := 17) rfl ?_
  refine jW.cg (κ := 6) (k := 6) F hV.s6 f_Rd_push_17 (by decide) rfl (pc' := 20) rfl ?_
  refine jW.callVe F (h (d + 0) _ hV) (dx_Rd_push 10 (e := (20, .invokevirtual 35, 3)) rfl) can_Tree_add jw_540 jw_541 hV.cl2 rfl jw_542 rfl rfl (Nat.le_of_ble_eq_true rfl) (pc' := 23) rfl (fun r σ hr => ?_)
  clear hV
  obtain ⟨_, hV, _, rfl, h⟩ := hr
  refine jW.astore_n (dx_Rd_push 11 (e := (23, .astore_n 2, 1)) rfl) rfl (by decide) rfl (pc' := 24) rfl ?_
  refine jW.aload_n (dx_Rd_push 12 (e := (24, .aload_n 0, 1)) rfl) rfl rfl (pc' := 25) rfl ?_
  refine jW.dup (dx_Rd_push 13 (e := (25, .dup, 1)) rfl) rfl (pc' := 26) rfl ?_
  refine jW.cg (κ := 6) (k := 4) F hV.s6 f_Rd_push_26 (by decide) rfl (pc' := 29) rfl ?_
  refine jW.iconst (v := 1) (dx_Rd_push 15 (e := (29, .iconst 1, 1)) rfl) (by decide) (pc' := 30) rfl ?_
  refine jW.iadd (dx_Rd_push 16 (e := (30, .iadd, 1)) rfl) (pc' := 31) rfl ?_
  refine jW.cp6 (k := 4) F hV f_Rd_push_31 (by decide) rfl rfl rfl (pc' := 34) rfl (fun σ hV => ?_)
  replace h := h _ rfl
  refine jW.aload_n (dx_Rd_push 18 (e := (34, .aload_n 0, 1)) rfl) rfl rfl (pc' := 35) rfl ?_
  refine jW.cg (κ := 6) (k := 4) F hV.s6 f_Rd_push_35 (by decide) rfl (pc' := 38) rfl ?_
  refine jW.aload_n (dx_Rd_push 20 (e := (38, .aload_n 0, 1)) rfl) rfl rfl (pc' := 39) rfl ?_
  refine jW.cg (κ := 6) (k := 3) F hV.s6 f_Rd_push_39 (by decide) rfl (pc' := 42) rfl ?_
  refine jW.col F hV (dx_Rd_push 22 (e := (42, .arraylength, 1)) rfl) (pc' := 43) rfl ?_
  refine jW.icmp_ge (dx_Rd_push 23 (e := (43, .if_icmp .ge 13, 3)) rfl) 56 (by decide) (pc' := 46) rfl (fun c => ?_) (fun c => ?_)
  · replace h := h.1 c
    exact t_Rd_push_56 F hV h
  · replace h := h.2 c
    refine jW.aload_n (dx_Rd_push 24 (e := (46, .aload_n 0, 1)) rfl) rfl rfl (pc' := 47) rfl ?_
    refine jW.cg (κ := 6) (k := 3) F hV.s6 f_Rd_push_47 (by decide) rfl (pc' := 50) rfl ?_
    refine jW.aload_n (dx_Rd_push 26 (e := (50, .aload_n 0, 1)) rfl) rfl rfl (pc' := 51) rfl ?_
    refine jW.cg (κ := 6) (k := 4) F hV.s6 f_Rd_push_51 (by decide) rfl (pc' := 54) rfl ?_
    refine jW.aload_n (dx_Rd_push 28 (e := (54, .aload_n 2, 1)) rfl) rfl rfl (pc' := 55) rfl ?_
    obtain ⟨hx, i2, hi, h⟩ := h
    refine jW.cos F hV hi (dx_Rd_push 29 (e := (55, .aastore, 1)) rfl) hx (pc' := 56) rfl (fun σ hV => ?_)
    replace h := h _ rfl
    exact t_Rd_push_56 F hV h
theorem g_Rd_push {X : CX} {a0 : Array Value} (F : cF X a0) {x1 : Int32} {m : CS} {Φ : Option Value → CS → Prop} (he : w_Rd_push_0 X x1 m Φ) : cE X 8 y_Rd_push [.ref (adr X 6), .int x1] m Φ := by
  intro d σ hV
  refine jE.of (by decide) (by simp [Value.category]) (Nat.le_of_ble_eq_true rfl) rfl ?_
  exact t_Rd_push_0 F hV he
def w_Rd_beginItem_67 (X : CX) (x1 : Int32) (m : CS) (Φ : Option Value → CS → Prop) : Prop := cE X 8 y_Rd_push [.ref (adr X 6), .int (3)] m (cbP fun r1 m1 => cE X 2 y_Line_itemWidth [.ref (adr X 5)] m1 (ciP fun r2 m2 => (∃ i1, isB m2 (r1) i1 ∧ ∀ m3, m3 = cB m2 i1 11 (r2) → (∃ i2, isB m3 (r1) i2 ∧ cE X 2 y_Line_moveOn [.ref (adr X 5), .int (vb m3.1 i2 11)] m3 (cvP fun m4 => Φ (some (.int (1))) m4)))))
theorem t_Rd_beginItem_67 {X : CX} {a0 : Array Value} (F : cF X a0) {d : Nat} {x1 : Int32} {o2 : Option Value} {m : CS} {σ : jS} {Φ : Option Value → CS → Prop} (hV : CV X m σ) (h : w_Rd_beginItem_67 X x1 m Φ) : jW X.1 X.2.1 jcl X.2.2.1 X.2.2.2.1 (d + 9) y_Rd_beginItem 67 [some (.ref (adr X 6)), some (.int x1), o2] [] σ (cP X Φ) := by
  unfold w_Rd_beginItem_67 at h
  refine jW.aload_n (dx_Rd_beginItem 36 (e := (67, .aload_n 0, 1)) rfl) rfl rfl (pc' := 68) rfl ?_
  refine jW.iconst (v := 3) (dx_Rd_beginItem 37 (e := (68, .iconst 3, 1)) rfl) (by decide) (pc' := 69) rfl ?_
  refine jW.callVe F (h (d + 0) _ hV) (dx_Rd_beginItem 38 (e := (69, .invokevirtual 197, 3)) rfl) can_Rd_push jw_821 jw_823 hV.cl6 rfl sel_Rd_push rfl rfl (Nat.le_of_ble_eq_true rfl) (pc' := 72) rfl (fun r σ hr => ?_)
  clear hV
  obtain ⟨_, hV, _, rfl, h⟩ := hr
  refine jW.astore_n (dx_Rd_beginItem 39 (e := (72, .astore_n 2, 1)) rfl) rfl (by decide) rfl (pc' := 73) rfl ?_
  refine jW.aload_n (dx_Rd_beginItem 40 (e := (73, .aload_n 2, 1)) rfl) rfl rfl (pc' := 74) rfl ?_
  refine jW.aload_n (dx_Rd_beginItem 41 (e := (74, .aload_n 0, 1)) rfl) rfl rfl (pc' := 75) rfl ?_
  refine jW.cg (κ := 6) (k := 2) F hV.s6 f_Rd_beginItem_75 (by decide) rfl (pc' := 78) rfl ?_
  refine jW.callVe F (h (d + 6) _ hV) (dx_Rd_beginItem 43 (e := (78, .invokevirtual 206, 3)) rfl) can_Line_itemWidth jw_833 jw_834 hV.cl5 rfl jw_835 rfl rfl (Nat.le_of_ble_eq_true rfl) (pc' := 81) rfl (fun r σ hr => ?_)
  clear hV
  obtain ⟨_, hV, _, rfl, h⟩ := hr
  obtain ⟨i1, hi, h⟩ := h
  refine jW.cpb F hV hi f_Rd_beginItem_81 (by decide) rfl rfl rfl (pc' := 84) rfl (fun σ hV => ?_)
  replace h := h _ rfl
  refine jW.aload_n (dx_Rd_beginItem 45 (e := (84, .aload_n 0, 1)) rfl) rfl rfl (pc' := 85) rfl ?_
  refine jW.cg (κ := 6) (k := 2) F hV.s6 f_Rd_beginItem_85 (by decide) rfl (pc' := 88) rfl ?_
  refine jW.aload_n (dx_Rd_beginItem 47 (e := (88, .aload_n 2, 1)) rfl) rfl rfl (pc' := 89) rfl ?_
  obtain ⟨i2, hi, h⟩ := h
  refine jW.cgb F hV hi f_Rd_beginItem_89 (by decide) (pc' := 92) rfl ?_
  refine jW.callVe F (h (d + 6) _ hV) (dx_Rd_beginItem 49 (e := (92, .invokevirtual 125, 3)) rfl) can_Line_moveOn jw_611 jw_612 hV.cl5 rfl jw_613 rfl rfl (Nat.le_of_ble_eq_true rfl) (pc' := 95) rfl (fun r σ hr => ?_)
  clear hV
  obtain ⟨_, hV, rfl, h⟩ := hr
  refine jW.iconst (v := 1) (dx_Rd_beginItem 50 (e := (95, .iconst 1, 1)) rfl) (by decide) (pc' := 96) rfl ?_
  exact jW.zret (dx_Rd_beginItem 51 (e := (96, .ireturn, 1)) rfl) rfl (by decide) ⟨_, hV, h⟩
def w_Rd_beginItem_27 (X : CX) (x1 : Int32) (s0 : Int32) (s1 : Int32) (m : CS) (Φ : Option Value → CS → Prop) : Prop := ((s0 + s1 ≤ 12 → ((x1 = 0 → cE X 8 y_Rd_push [.ref (adr X 6), .int (2)] m (cbP fun r1 m1 => cE X 0 y_Line_markSign [.ref (adr X 5)] m1 (ciP fun r2 m2 => (∃ i1, isB m2 (r1) i1 ∧ ∀ m3, m3 = cB m2 i1 12 (r2) → cE X 0 y_Line_markNumber [.ref (adr X 5)] m3 (ciP fun r4 m4 => (∃ i2, isB m4 (r1) i2 ∧ ∀ m5, m5 = cB m4 i2 3 (r4) → w_Rd_beginItem_67 X (x1) m5 Φ)))))) ∧ (¬ x1 = 0 → w_Rd_beginItem_67 X (x1) m Φ))) ∧ (¬ s0 + s1 ≤ 12 → Φ (some (.int (0))) m))
theorem t_Rd_beginItem_27 {X : CX} {a0 : Array Value} (F : cF X a0) {d : Nat} {x1 : Int32} {s0 : Int32} {s1 : Int32} {o2 : Option Value} {m : CS} {σ : jS} {Φ : Option Value → CS → Prop} (hV : CV X m σ) (h : w_Rd_beginItem_27 X x1 s0 s1 m Φ) : jW X.1 X.2.1 jcl X.2.2.1 X.2.2.2.1 (d + 9) y_Rd_beginItem 27 [some (.ref (adr X 6)), some (.int x1), o2] [.int s1, .int s0] σ (cP X Φ) := by
  unfold w_Rd_beginItem_27 at h
  refine jW.iadd (dx_Rd_beginItem 15 (e := (27, .iadd, 1)) rfl) (pc' := 28) rfl ?_
  refine jW.bipush (v := 12) (dx_Rd_beginItem 16 (e := (28, .bipush 12, 2)) rfl) (by decide) (pc' := 30) rfl ?_
  refine jW.icmp_le (dx_Rd_beginItem 17 (e := (30, .if_icmp .le 5, 3)) rfl) 35 (by decide) (pc' := 33) rfl (fun c => ?_) (fun c => ?_)
  · replace h := h.1 c
    refine jW.iload_n (dx_Rd_beginItem 20 (e := (35, .iload_n 1, 1)) rfl) rfl rfl (pc' := 36) rfl ?_
    refine jW.if_ne (dx_Rd_beginItem 21 (e := (36, .ifCond .ne 31, 3)) rfl) 67 (by decide) (pc' := 39) rfl (fun c => ?_) (fun c => ?_)
    · replace h := h.2 c
      exact t_Rd_beginItem_67 F hV h
    · replace h := h.1 c
      refine jW.aload_n (dx_Rd_beginItem 22 (e := (39, .aload_n 0, 1)) rfl) rfl rfl (pc' := 40) rfl ?_
      refine jW.iconst (v := 2) (dx_Rd_beginItem 23 (e := (40, .iconst 2, 1)) rfl) (by decide) (pc' := 41) rfl ?_
      refine jW.callVe F (h (d + 0) _ hV) (dx_Rd_beginItem 24 (e := (41, .invokevirtual 197, 3)) rfl) can_Rd_push jw_821 jw_823 hV.cl6 rfl sel_Rd_push rfl rfl (Nat.le_of_ble_eq_true rfl) (pc' := 44) rfl (fun r σ hr => ?_)
      clear hV
      obtain ⟨_, hV, _, rfl, h⟩ := hr
      refine jW.astore_n (dx_Rd_beginItem 25 (e := (44, .astore_n 2, 1)) rfl) rfl (by decide) rfl (pc' := 45) rfl ?_
      refine jW.aload_n (dx_Rd_beginItem 26 (e := (45, .aload_n 2, 1)) rfl) rfl rfl (pc' := 46) rfl ?_
      refine jW.aload_n (dx_Rd_beginItem 27 (e := (46, .aload_n 0, 1)) rfl) rfl rfl (pc' := 47) rfl ?_
      refine jW.cg (κ := 6) (k := 2) F hV.s6 f_Rd_beginItem_47 (by decide) rfl (pc' := 50) rfl ?_
      refine jW.callVe F (h (d + 8) _ hV) (dx_Rd_beginItem 29 (e := (50, .invokevirtual 179, 3)) rfl) can_Line_markSign jw_805 jw_806 hV.cl5 rfl jw_807 rfl rfl (Nat.le_of_ble_eq_true rfl) (pc' := 53) rfl (fun r σ hr => ?_)
      clear hV
      obtain ⟨_, hV, _, rfl, h⟩ := hr
      obtain ⟨i1, hi, h⟩ := h
      refine jW.cpb F hV hi f_Rd_beginItem_53 (by decide) rfl rfl rfl (pc' := 56) rfl (fun σ hV => ?_)
      replace h := h _ rfl
      refine jW.aload_n (dx_Rd_beginItem 31 (e := (56, .aload_n 2, 1)) rfl) rfl rfl (pc' := 57) rfl ?_
      refine jW.aload_n (dx_Rd_beginItem 32 (e := (57, .aload_n 0, 1)) rfl) rfl rfl (pc' := 58) rfl ?_
      refine jW.cg (κ := 6) (k := 2) F hV.s6 f_Rd_beginItem_58 (by decide) rfl (pc' := 61) rfl ?_
      refine jW.callVe F (h (d + 8) _ hV) (dx_Rd_beginItem 34 (e := (61, .invokevirtual 203, 3)) rfl) can_Line_markNumber jw_829 jw_830 hV.cl5 rfl jw_831 rfl rfl (Nat.le_of_ble_eq_true rfl) (pc' := 64) rfl (fun r σ hr => ?_)
      clear hV
      obtain ⟨_, hV, _, rfl, h⟩ := hr
      obtain ⟨i2, hi, h⟩ := h
      refine jW.cpb F hV hi f_Rd_beginItem_64 (by decide) rfl rfl rfl (pc' := 67) rfl (fun σ hV => ?_)
      replace h := h _ rfl
      exact t_Rd_beginItem_67 F hV h
  · replace h := h.2 c
    refine jW.iconst (v := 0) (dx_Rd_beginItem 18 (e := (33, .iconst 0, 1)) rfl) (by decide) (pc' := 34) rfl ?_
    exact jW.zret (dx_Rd_beginItem 19 (e := (34, .ireturn, 1)) rfl) rfl (by decide) ⟨_, hV, h⟩
def w_Rd_beginItem_13 (X : CX) (s0 : Int32) (m : CS) (Φ : Option Value → CS → Prop) : Prop := ((s0 = 0 → w_Rd_beginItem_27 X (s0) (vi m.1 64) (2) m Φ) ∧ (¬ s0 = 0 → w_Rd_beginItem_27 X (s0) (vi m.1 64) (1) m Φ))
theorem t_Rd_beginItem_13 {X : CX} {a0 : Array Value} (F : cF X a0) {d : Nat} {s0 : Int32} {o1 o2 : Option Value} {m : CS} {σ : jS} {Φ : Option Value → CS → Prop} (hV : CV X m σ) (h : w_Rd_beginItem_13 X s0 m Φ) : jW X.1 X.2.1 jcl X.2.2.1 X.2.2.2.1 (d + 9) y_Rd_beginItem 13 [some (.ref (adr X 6)), o1, o2] [.int s0] σ (cP X Φ) := by
  unfold w_Rd_beginItem_13 at h
  refine jW.istore_n (dx_Rd_beginItem 7 (e := (13, .istore_n 1, 1)) rfl) rfl (by decide) rfl (pc' := 14) rfl ?_
  refine jW.aload_n (dx_Rd_beginItem 8 (e := (14, .aload_n 0, 1)) rfl) rfl rfl (pc' := 15) rfl ?_
  refine jW.cg (κ := 6) (k := 4) F hV.s6 f_Rd_beginItem_15 (by decide) rfl (pc' := 18) rfl ?_
  refine jW.iload_n (dx_Rd_beginItem 10 (e := (18, .iload_n 1, 1)) rfl) rfl rfl (pc' := 19) rfl ?_
  refine jW.if_eq (dx_Rd_beginItem 11 (e := (19, .ifCond .eq 7, 3)) rfl) 26 (by decide) (pc' := 22) rfl (fun c => ?_) (fun c => ?_)
  · replace h := h.1 c
    refine jW.iconst (v := 2) (dx_Rd_beginItem 14 (e := (26, .iconst 2, 1)) rfl) (by decide) (pc' := 27) rfl ?_
    exact t_Rd_beginItem_27 F hV h
  · replace h := h.2 c
    refine jW.iconst (v := 1) (dx_Rd_beginItem 12 (e := (22, .iconst 1, 1)) rfl) (by decide) (pc' := 23) rfl ?_
    refine jW.goto (dx_Rd_beginItem 13 (e := (23, .goto 4, 3)) rfl) 27 (by decide) ?_
    exact t_Rd_beginItem_27 F hV h
def w_Rd_beginItem_0 (X : CX) (m : CS) (Φ : Option Value → CS → Prop) : Prop := cE X 1 y_Rd_kindAtHand [.ref (adr X 6)] m (ciP fun r1 m1 => ((r1 = 2 → w_Rd_beginItem_13 X (1) m1 Φ) ∧ (¬ r1 = 2 → w_Rd_beginItem_13 X (0) m1 Φ)))
theorem t_Rd_beginItem_0 {X : CX} {a0 : Array Value} (F : cF X a0) {d : Nat} {o1 o2 : Option Value} {m : CS} {σ : jS} {Φ : Option Value → CS → Prop} (hV : CV X m σ) (h : w_Rd_beginItem_0 X m Φ) : jW X.1 X.2.1 jcl X.2.2.1 X.2.2.2.1 (d + 9) y_Rd_beginItem 0 [some (.ref (adr X 6)), o1, o2] [] σ (cP X Φ) := by
  unfold w_Rd_beginItem_0 at h
  refine jW.aload_n (dx_Rd_beginItem 0 (e := (0, .aload_n 0, 1)) rfl) rfl rfl (pc' := 1) rfl ?_
  refine jW.callVe F (h (d + 7) _ hV) (dx_Rd_beginItem 1 (e := (1, .invokevirtual 61, 3)) rfl) can_Rd_kindAtHand jw_644 jw_646 hV.cl6 rfl sel_Rd_kindAtHand rfl rfl (Nat.le_of_ble_eq_true rfl) (pc' := 4) rfl (fun r σ hr => ?_)
  clear hV
  obtain ⟨_, hV, _, rfl, h⟩ := hr
  refine jW.iconst (v := 2) (dx_Rd_beginItem 2 (e := (4, .iconst 2, 1)) rfl) (by decide) (pc' := 5) rfl ?_
  refine jW.icmp_ne (dx_Rd_beginItem 3 (e := (5, .if_icmp .ne 7, 3)) rfl) 12 (by decide) (pc' := 8) rfl (fun c => ?_) (fun c => ?_)
  · replace h := h.2 c
    refine jW.iconst (v := 0) (dx_Rd_beginItem 6 (e := (12, .iconst 0, 1)) rfl) (by decide) (pc' := 13) rfl ?_
    exact t_Rd_beginItem_13 F hV h
  · replace h := h.1 c
    refine jW.iconst (v := 1) (dx_Rd_beginItem 4 (e := (8, .iconst 1, 1)) rfl) (by decide) (pc' := 9) rfl ?_
    refine jW.goto (dx_Rd_beginItem 5 (e := (9, .goto 4, 3)) rfl) 13 (by decide) ?_
    exact t_Rd_beginItem_13 F hV h
theorem g_Rd_beginItem {X : CX} {a0 : Array Value} (F : cF X a0) {m : CS} {Φ : Option Value → CS → Prop} (he : w_Rd_beginItem_0 X m Φ) : cE X 9 y_Rd_beginItem [.ref (adr X 6)] m Φ := by
  intro d σ hV
  refine jE.of (by decide) (by simp [Value.category]) (Nat.le_of_ble_eq_true rfl) rfl ?_
  exact t_Rd_beginItem_0 F hV he
def w_Rd_beginHeading_108 (X : CX) (b1 : Nat) (x2 : Int32) (x3 : Int32) (x4 : Int32) (m : CS) (Φ : Option Value → CS → Prop) : Prop := cE X 3 y_Rd_copy [.ref (adr X 6), .int (x2), .int (x3)] m (cvP fun m1 => cE X 0 y_Row_size [.ref (adr X 10)] m1 (ciP fun r2 m2 => (∃ i1, isB m2 (b1) i1 ∧ (∃ i2, isB m2 (b1) i2 ∧ ∀ m3, m3 = cB m2 i2 6 (r2 - (vb m2.1 i1 5)) → ∀ m4, m4 = cI m3 67 (1) → Φ none m4))))
theorem t_Rd_beginHeading_108 {X : CX} {a0 : Array Value} (F : cF X a0) {d : Nat} {b1 : Nat} {x2 : Int32} {x3 : Int32} {x4 : Int32} {m : CS} {σ : jS} {Φ : Option Value → CS → Prop} (hV : CV X m σ) (h : w_Rd_beginHeading_108 X b1 x2 x3 x4 m Φ) : jW X.1 X.2.1 jcl X.2.2.1 X.2.2.2.1 (d + 9) y_Rd_beginHeading 108 [some (.ref (adr X 6)), some (.ref b1), some (.int x2), some (.int x3), some (.int x4)] [] σ (cP X Φ) := by
  unfold w_Rd_beginHeading_108 at h
  refine jW.aload_n (dx_Rd_beginHeading 56 (e := (108, .aload_n 0, 1)) rfl) rfl rfl (pc' := 109) rfl ?_
  refine jW.iload_n (dx_Rd_beginHeading 57 (e := (109, .iload_n 2, 1)) rfl) rfl rfl (pc' := 110) rfl ?_
  refine jW.iload_n (dx_Rd_beginHeading 58 (e := (110, .iload_n 3, 1)) rfl) rfl rfl (pc' := 111) rfl ?_
  refine jW.callVe F (h (d + 5) _ hV) (dx_Rd_beginHeading 59 (e := (111, .invokevirtual 225, 3)) rfl) can_Rd_copy jw_858 jw_860 hV.cl6 rfl sel_Rd_copy rfl rfl (Nat.le_of_ble_eq_true rfl) (pc' := 114) rfl (fun r σ hr => ?_)
  clear hV
  obtain ⟨_, hV, rfl, h⟩ := hr
  refine jW.aload_n (dx_Rd_beginHeading 60 (e := (114, .aload_n 1, 1)) rfl) rfl rfl (pc' := 115) rfl ?_
  refine jW.aload_n (dx_Rd_beginHeading 61 (e := (115, .aload_n 0, 1)) rfl) rfl rfl (pc' := 116) rfl ?_
  refine jW.cg (κ := 6) (k := 0) F hV.s6 f_Rd_beginHeading_116 (by decide) rfl (pc' := 119) rfl ?_
  refine jW.cg (κ := 2) (k := 2) F hV.s2 f_Rd_beginHeading_119 (by decide) rfl (pc' := 122) rfl ?_
  refine jW.callVe F (h (d + 8) _ hV) (dx_Rd_beginHeading 64 (e := (122, .invokevirtual 233, 3)) rfl) can_Row_size jw_863 jw_372 (hV.clr (κ := 10) (by unfold isR; decide)) rfl jw_373 rfl rfl (Nat.le_of_ble_eq_true rfl) (pc' := 125) rfl (fun r σ hr => ?_)
  clear hV
  obtain ⟨_, hV, _, rfl, h⟩ := hr
  refine jW.aload_n (dx_Rd_beginHeading 65 (e := (125, .aload_n 1, 1)) rfl) rfl rfl (pc' := 126) rfl ?_
  obtain ⟨i1, hi, h⟩ := h
  refine jW.cgb F hV hi f_Rd_beginHeading_126 (by decide) (pc' := 129) rfl ?_
  refine jW.isub (dx_Rd_beginHeading 67 (e := (129, .isub, 1)) rfl) (pc' := 130) rfl ?_
  obtain ⟨i2, hi, h⟩ := h
  refine jW.cpb F hV hi f_Rd_beginHeading_130 (by decide) rfl rfl rfl (pc' := 133) rfl (fun σ hV => ?_)
  replace h := h _ rfl
  refine jW.aload_n (dx_Rd_beginHeading 69 (e := (133, .aload_n 0, 1)) rfl) rfl rfl (pc' := 134) rfl ?_
  refine jW.iconst (v := 1) (dx_Rd_beginHeading 70 (e := (134, .iconst 1, 1)) rfl) (by decide) (pc' := 135) rfl ?_
  refine jW.cp6 (k := 7) F hV f_Rd_beginHeading_135 (by decide) rfl rfl rfl (pc' := 138) rfl (fun σ hV => ?_)
  replace h := h _ rfl
  exact jW.vret (dx_Rd_beginHeading 72 (e := (138, .return_, 1)) rfl) rfl ⟨_, hV, h⟩
def w_Rd_beginHeading_100 (X : CX) (b1 : Nat) (x2 : Int32) (x3 : Int32) (x4 : Int32) (m : CS) (Φ : Option Value → CS → Prop) : Prop := cE X 2 y_Rd_beforeSpaces [.ref (adr X 6), .int (x2), .int (x4)] m (ciP fun r1 m1 => w_Rd_beginHeading_108 X (b1) (x2) (r1) (x4) m1 Φ)
theorem t_Rd_beginHeading_100 {X : CX} {a0 : Array Value} (F : cF X a0) {d : Nat} {b1 : Nat} {x2 : Int32} {x3 : Int32} {x4 : Int32} {m : CS} {σ : jS} {Φ : Option Value → CS → Prop} (hV : CV X m σ) (h : w_Rd_beginHeading_100 X b1 x2 x3 x4 m Φ) : jW X.1 X.2.1 jcl X.2.2.1 X.2.2.2.1 (d + 9) y_Rd_beginHeading 100 [some (.ref (adr X 6)), some (.ref b1), some (.int x2), some (.int x3), some (.int x4)] [] σ (cP X Φ) := by
  unfold w_Rd_beginHeading_100 at h
  refine jW.aload_n (dx_Rd_beginHeading 51 (e := (100, .aload_n 0, 1)) rfl) rfl rfl (pc' := 101) rfl ?_
  refine jW.iload_n (dx_Rd_beginHeading 52 (e := (101, .iload_n 2, 1)) rfl) rfl rfl (pc' := 102) rfl ?_
  refine jW.iload (dx_Rd_beginHeading 53 (e := (102, .iload 4, 2)) rfl) rfl (pc' := 104) rfl ?_
  refine jW.callVe F (h (d + 6) _ hV) (dx_Rd_beginHeading 54 (e := (104, .invokevirtual 219, 3)) rfl) can_Rd_beforeSpaces jw_854 jw_856 hV.cl6 rfl sel_Rd_beforeSpaces rfl rfl (Nat.le_of_ble_eq_true rfl) (pc' := 107) rfl (fun r σ hr => ?_)
  clear hV
  obtain ⟨_, hV, _, rfl, h⟩ := hr
  refine jW.istore_n (dx_Rd_beginHeading 55 (e := (107, .istore_n 3, 1)) rfl) rfl (by decide) rfl (pc' := 108) rfl ?_
  exact t_Rd_beginHeading_108 F hV h
def w_Rd_beginHeading_78 (X : CX) (b1 : Nat) (x2 : Int32) (x3 : Int32) (x4 : Int32) (m : CS) (Φ : Option Value → CS → Prop) : Prop := ((x4 = x2 → w_Rd_beginHeading_100 X (b1) (x2) (x3) (x4) m Φ) ∧ (¬ x4 = x2 → cE X 1 y_Line_at [.ref (adr X 5), .int (x4 - 1)] m (ciP fun r1 m1 => ((r1 = 32 → w_Rd_beginHeading_100 X (b1) (x2) (x3) (x4) m1 Φ) ∧ (¬ r1 = 32 → w_Rd_beginHeading_108 X (b1) (x2) (x3) (x4) m1 Φ)))))
theorem t_Rd_beginHeading_78 {X : CX} {a0 : Array Value} (F : cF X a0) {d : Nat} {b1 : Nat} {x2 : Int32} {x3 : Int32} {x4 : Int32} {m : CS} {σ : jS} {Φ : Option Value → CS → Prop} (hV : CV X m σ) (h : w_Rd_beginHeading_78 X b1 x2 x3 x4 m Φ) : jW X.1 X.2.1 jcl X.2.2.1 X.2.2.2.1 (d + 9) y_Rd_beginHeading 78 [some (.ref (adr X 6)), some (.ref b1), some (.int x2), some (.int x3), some (.int x4)] [] σ (cP X Φ) := by
  unfold w_Rd_beginHeading_78 at h
  refine jW.iload (dx_Rd_beginHeading 40 (e := (78, .iload 4, 2)) rfl) rfl (pc' := 80) rfl ?_
  refine jW.iload_n (dx_Rd_beginHeading 41 (e := (80, .iload_n 2, 1)) rfl) rfl rfl (pc' := 81) rfl ?_
  refine jW.icmp_eq (dx_Rd_beginHeading 42 (e := (81, .if_icmp .eq 19, 3)) rfl) 100 (by decide) (pc' := 84) rfl (fun c => ?_) (fun c => ?_)
  · replace h := h.1 c
    exact t_Rd_beginHeading_100 F hV h
  · replace h := h.2 c
    refine jW.aload_n (dx_Rd_beginHeading 43 (e := (84, .aload_n 0, 1)) rfl) rfl rfl (pc' := 85) rfl ?_
    refine jW.cg (κ := 6) (k := 2) F hV.s6 f_Rd_beginHeading_85 (by decide) rfl (pc' := 88) rfl ?_
    refine jW.iload (dx_Rd_beginHeading 45 (e := (88, .iload 4, 2)) rfl) rfl (pc' := 90) rfl ?_
    refine jW.iconst (v := 1) (dx_Rd_beginHeading 46 (e := (90, .iconst 1, 1)) rfl) (by decide) (pc' := 91) rfl ?_
    refine jW.isub (dx_Rd_beginHeading 47 (e := (91, .isub, 1)) rfl) (pc' := 92) rfl ?_
    refine jW.callVe F (h (d + 7) _ hV) (dx_Rd_beginHeading 48 (e := (92, .invokevirtual 222, 3)) rfl) can_Line_at jw_850 jw_851 hV.cl5 rfl jw_852 rfl rfl (Nat.le_of_ble_eq_true rfl) (pc' := 95) rfl (fun r σ hr => ?_)
    clear hV
    obtain ⟨_, hV, _, rfl, h⟩ := hr
    refine jW.bipush (v := 32) (dx_Rd_beginHeading 49 (e := (95, .bipush 32, 2)) rfl) (by decide) (pc' := 97) rfl ?_
    refine jW.icmp_ne (dx_Rd_beginHeading 50 (e := (97, .if_icmp .ne 11, 3)) rfl) 108 (by decide) (pc' := 100) rfl (fun c => ?_) (fun c => ?_)
    · replace h := h.2 c
      exact t_Rd_beginHeading_108 F hV h
    · replace h := h.1 c
      exact t_Rd_beginHeading_100 F hV h
def w_Rd_beginHeading_50 (X : CX) (b1 : Nat) (x2 : Int32) (x3 : Int32) (x4 : Int32) (m : CS) (Φ : Option Value → CS → Prop) (K50 : Nat → Int32 → Int32 → Int32 → CS → Prop) : Prop := ((x4 ≤ x2 → w_Rd_beginHeading_78 X (b1) (x2) (x3) (x4) m Φ) ∧ (¬ x4 ≤ x2 → cE X 1 y_Line_at [.ref (adr X 5), .int (x4 - 1)] m (ciP fun r1 m1 => ((r1 = 35 → K50 (b1) (x2) (x3) (x4 + (-1)) m1) ∧ (¬ r1 = 35 → w_Rd_beginHeading_78 X (b1) (x2) (x3) (x4) m1 Φ)))))
theorem t_Rd_beginHeading_50 {X : CX} {a0 : Array Value} (F : cF X a0) {d : Nat} {b1 : Nat} {x2 : Int32} {x3 : Int32} {x4 : Int32} {m : CS} {σ : jS} {Φ : Option Value → CS → Prop} {K50 : Nat → Int32 → Int32 → Int32 → CS → Prop} (hV : CV X m σ) (h : w_Rd_beginHeading_50 X b1 x2 x3 x4 m Φ K50) (hK50 : ∀ (b1 : Nat) (x2 : Int32) (x3 : Int32) (x4 : Int32) (m : CS) (σ : jS), CV X m σ → K50 b1 x2 x3 x4 m → jW X.1 X.2.1 jcl X.2.2.1 X.2.2.2.1 (d + 9) y_Rd_beginHeading 50 [some (.ref (adr X 6)), some (.ref b1), some (.int x2), some (.int x3), some (.int x4)] [] σ (cP X Φ)) : jW X.1 X.2.1 jcl X.2.2.1 X.2.2.2.1 (d + 9) y_Rd_beginHeading 50 [some (.ref (adr X 6)), some (.ref b1), some (.int x2), some (.int x3), some (.int x4)] [] σ (cP X Φ) := by
  unfold w_Rd_beginHeading_50 at h
  refine jW.iload (dx_Rd_beginHeading 27 (e := (50, .iload 4, 2)) rfl) rfl (pc' := 52) rfl ?_
  refine jW.iload_n (dx_Rd_beginHeading 28 (e := (52, .iload_n 2, 1)) rfl) rfl rfl (pc' := 53) rfl ?_
  refine jW.icmp_le (dx_Rd_beginHeading 29 (e := (53, .if_icmp .le 25, 3)) rfl) 78 (by decide) (pc' := 56) rfl (fun c => ?_) (fun c => ?_)
  · replace h := h.1 c
    exact t_Rd_beginHeading_78 F hV h
  · replace h := h.2 c
    refine jW.aload_n (dx_Rd_beginHeading 30 (e := (56, .aload_n 0, 1)) rfl) rfl rfl (pc' := 57) rfl ?_
    refine jW.cg (κ := 6) (k := 2) F hV.s6 f_Rd_beginHeading_57 (by decide) rfl (pc' := 60) rfl ?_
    refine jW.iload (dx_Rd_beginHeading 32 (e := (60, .iload 4, 2)) rfl) rfl (pc' := 62) rfl ?_
    refine jW.iconst (v := 1) (dx_Rd_beginHeading 33 (e := (62, .iconst 1, 1)) rfl) (by decide) (pc' := 63) rfl ?_
    refine jW.isub (dx_Rd_beginHeading 34 (e := (63, .isub, 1)) rfl) (pc' := 64) rfl ?_
    refine jW.callVe F (h (d + 7) _ hV) (dx_Rd_beginHeading 35 (e := (64, .invokevirtual 222, 3)) rfl) can_Line_at jw_850 jw_851 hV.cl5 rfl jw_852 rfl rfl (Nat.le_of_ble_eq_true rfl) (pc' := 67) rfl (fun r σ hr => ?_)
    clear hV
    obtain ⟨_, hV, _, rfl, h⟩ := hr
    refine jW.bipush (v := 35) (dx_Rd_beginHeading 36 (e := (67, .bipush 35, 2)) rfl) (by decide) (pc' := 69) rfl ?_
    refine jW.icmp_ne (dx_Rd_beginHeading 37 (e := (69, .if_icmp .ne 9, 3)) rfl) 78 (by decide) (pc' := 72) rfl (fun c => ?_) (fun c => ?_)
    · replace h := h.2 c
      exact t_Rd_beginHeading_78 F hV h
    · replace h := h.1 c
      refine jW.iinc (v := _ + (-1)) (dx_Rd_beginHeading 38 (e := (72, .iinc 4 (-1), 3)) rfl) rfl rfl (by decide) rfl (pc' := 75) rfl ?_
      refine jW.goto (dx_Rd_beginHeading 39 (e := (75, .goto (-25), 3)) rfl) 50 (by decide) ?_
      exact hK50 _ _ _ _ _ _ hV h
def w_Rd_beginHeading_0 (X : CX) (m : CS) (Φ : Option Value → CS → Prop) (K50 : Nat → Int32 → Int32 → Int32 → CS → Prop) : Prop := cE X 8 y_Rd_push [.ref (adr X 6), .int (5)] m (cbP fun r1 m1 => cE X 2 y_Line_headingLevel [.ref (adr X 5)] m1 (ciP fun r2 m2 => (∃ i1, isB m2 (r1) i1 ∧ ∀ m3, m3 = cB m2 i1 3 (r2) → cE X 0 y_Line_start [.ref (adr X 5)] m3 (ciP fun r4 m4 => (∃ i2, isB m4 (r1) i2 ∧ cE X 2 y_Rd_afterSpaces [.ref (adr X 6), .int (r4 + (vb m4.1 i2 3))] m4 (ciP fun r5 m5 => cE X 1 y_Line_size [.ref (adr X 5)] m5 (ciP fun r6 m6 => cE X 2 y_Rd_beforeSpaces [.ref (adr X 6), .int (r5), .int (r6)] m6 (ciP fun r7 m7 => K50 (r1) (r5) (r7) (r7) m7))))))))
theorem t_Rd_beginHeading_0 {X : CX} {a0 : Array Value} (F : cF X a0) {d : Nat} {o1 o2 o3 o4 : Option Value} {m : CS} {σ : jS} {Φ : Option Value → CS → Prop} {K50 : Nat → Int32 → Int32 → Int32 → CS → Prop} (hV : CV X m σ) (h : w_Rd_beginHeading_0 X m Φ K50) (hK50 : ∀ (b1 : Nat) (x2 : Int32) (x3 : Int32) (x4 : Int32) (m : CS) (σ : jS), CV X m σ → K50 b1 x2 x3 x4 m → jW X.1 X.2.1 jcl X.2.2.1 X.2.2.2.1 (d + 9) y_Rd_beginHeading 50 [some (.ref (adr X 6)), some (.ref b1), some (.int x2), some (.int x3), some (.int x4)] [] σ (cP X Φ)) : jW X.1 X.2.1 jcl X.2.2.1 X.2.2.2.1 (d + 9) y_Rd_beginHeading 0 [some (.ref (adr X 6)), o1, o2, o3, o4] [] σ (cP X Φ) := by
  unfold w_Rd_beginHeading_0 at h
  refine jW.aload_n (dx_Rd_beginHeading 0 (e := (0, .aload_n 0, 1)) rfl) rfl rfl (pc' := 1) rfl ?_
  refine jW.iconst (v := 5) (dx_Rd_beginHeading 1 (e := (1, .iconst 5, 1)) rfl) (by decide) (pc' := 2) rfl ?_
  refine jW.callVe F (h (d + 0) _ hV) (dx_Rd_beginHeading 2 (e := (2, .invokevirtual 197, 3)) rfl) can_Rd_push jw_821 jw_823 hV.cl6 rfl sel_Rd_push rfl rfl (Nat.le_of_ble_eq_true rfl) (pc' := 5) rfl (fun r σ hr => ?_)
  clear hV
  obtain ⟨_, hV, _, rfl, h⟩ := hr
  refine jW.astore_n (dx_Rd_beginHeading 3 (e := (5, .astore_n 1, 1)) rfl) rfl (by decide) rfl (pc' := 6) rfl ?_
  refine jW.aload_n (dx_Rd_beginHeading 4 (e := (6, .aload_n 1, 1)) rfl) rfl rfl (pc' := 7) rfl ?_
  refine jW.aload_n (dx_Rd_beginHeading 5 (e := (7, .aload_n 0, 1)) rfl) rfl rfl (pc' := 8) rfl ?_
  refine jW.cg (κ := 6) (k := 2) F hV.s6 f_Rd_beginHeading_8 (by decide) rfl (pc' := 11) rfl ?_
  refine jW.callVe F (h (d + 6) _ hV) (dx_Rd_beginHeading 7 (e := (11, .invokevirtual 153, 3)) rfl) can_Line_headingLevel jw_654 jw_655 hV.cl5 rfl jw_656 rfl rfl (Nat.le_of_ble_eq_true rfl) (pc' := 14) rfl (fun r σ hr => ?_)
  clear hV
  obtain ⟨_, hV, _, rfl, h⟩ := hr
  obtain ⟨i1, hi, h⟩ := h
  refine jW.cpb F hV hi f_Rd_beginHeading_14 (by decide) rfl rfl rfl (pc' := 17) rfl (fun σ hV => ?_)
  replace h := h _ rfl
  refine jW.aload_n (dx_Rd_beginHeading 9 (e := (17, .aload_n 0, 1)) rfl) rfl rfl (pc' := 18) rfl ?_
  refine jW.aload_n (dx_Rd_beginHeading 10 (e := (18, .aload_n 0, 1)) rfl) rfl rfl (pc' := 19) rfl ?_
  refine jW.cg (κ := 6) (k := 2) F hV.s6 f_Rd_beginHeading_19 (by decide) rfl (pc' := 22) rfl ?_
  refine jW.callVe F (h (d + 8) _ hV) (dx_Rd_beginHeading 12 (e := (22, .invokevirtual 209, 3)) rfl) can_Line_start jw_841 jw_591 hV.cl5 rfl jw_592 rfl rfl (Nat.le_of_ble_eq_true rfl) (pc' := 25) rfl (fun r σ hr => ?_)
  clear hV
  obtain ⟨_, hV, _, rfl, h⟩ := hr
  refine jW.aload_n (dx_Rd_beginHeading 13 (e := (25, .aload_n 1, 1)) rfl) rfl rfl (pc' := 26) rfl ?_
  obtain ⟨i2, hi, h⟩ := h
  refine jW.cgb F hV hi f_Rd_beginHeading_26 (by decide) (pc' := 29) rfl ?_
  refine jW.iadd (dx_Rd_beginHeading 15 (e := (29, .iadd, 1)) rfl) (pc' := 30) rfl ?_
  refine jW.callVe F (h (d + 6) _ hV) (dx_Rd_beginHeading 16 (e := (30, .invokevirtual 212, 3)) rfl) can_Rd_afterSpaces jw_842 jw_844 hV.cl6 rfl sel_Rd_afterSpaces rfl rfl (Nat.le_of_ble_eq_true rfl) (pc' := 33) rfl (fun r σ hr => ?_)
  clear hV
  obtain ⟨_, hV, _, rfl, h⟩ := hr
  refine jW.istore_n (dx_Rd_beginHeading 17 (e := (33, .istore_n 2, 1)) rfl) rfl (by decide) rfl (pc' := 34) rfl ?_
  refine jW.aload_n (dx_Rd_beginHeading 18 (e := (34, .aload_n 0, 1)) rfl) rfl rfl (pc' := 35) rfl ?_
  refine jW.iload_n (dx_Rd_beginHeading 19 (e := (35, .iload_n 2, 1)) rfl) rfl rfl (pc' := 36) rfl ?_
  refine jW.aload_n (dx_Rd_beginHeading 20 (e := (36, .aload_n 0, 1)) rfl) rfl rfl (pc' := 37) rfl ?_
  refine jW.cg (κ := 6) (k := 2) F hV.s6 f_Rd_beginHeading_37 (by decide) rfl (pc' := 40) rfl ?_
  refine jW.callVe F (h (d + 7) _ hV) (dx_Rd_beginHeading 22 (e := (40, .invokevirtual 216, 3)) rfl) can_Line_size jw_846 jw_847 hV.cl5 rfl jw_848 rfl rfl (Nat.le_of_ble_eq_true rfl) (pc' := 43) rfl (fun r σ hr => ?_)
  clear hV
  obtain ⟨_, hV, _, rfl, h⟩ := hr
  refine jW.callVe F (h (d + 6) _ hV) (dx_Rd_beginHeading 23 (e := (43, .invokevirtual 219, 3)) rfl) can_Rd_beforeSpaces jw_854 jw_856 hV.cl6 rfl sel_Rd_beforeSpaces rfl rfl (Nat.le_of_ble_eq_true rfl) (pc' := 46) rfl (fun r σ hr => ?_)
  clear hV
  obtain ⟨_, hV, _, rfl, h⟩ := hr
  refine jW.istore_n (dx_Rd_beginHeading 24 (e := (46, .istore_n 3, 1)) rfl) rfl (by decide) rfl (pc' := 47) rfl ?_
  refine jW.iload_n (dx_Rd_beginHeading 25 (e := (47, .iload_n 3, 1)) rfl) rfl rfl (pc' := 48) rfl ?_
  refine jW.istore (dx_Rd_beginHeading 26 (e := (48, .istore 4, 2)) rfl) (by decide) rfl (pc' := 50) rfl ?_
  exact hK50 _ _ _ _ _ _ hV h
theorem g_Rd_beginHeading {X : CX} {a0 : Array Value} (F : cF X a0) {m : CS} {Φ : Option Value → CS → Prop} {I50 : Nat → Nat → Int32 → Int32 → Int32 → CS → Prop} (he : w_Rd_beginHeading_0 X m Φ (fun b1 x2 x3 x4 m => ∃ j, I50 j b1 x2 x3 x4 m)) (h50 : ∀ (n : Nat) (b1 : Nat) (x2 : Int32) (x3 : Int32) (x4 : Int32) (m : CS), I50 n b1 x2 x3 x4 m → w_Rd_beginHeading_50 X b1 x2 x3 x4 m Φ (fun b1 x2 x3 x4 m => ∃ j, j < n ∧ I50 j b1 x2 x3 x4 m)) : cE X 9 y_Rd_beginHeading [.ref (adr X 6)] m Φ := by
  intro d σ hV
  have hL50 : ∀ n, (∀ (b1 : Nat) (x2 : Int32) (x3 : Int32) (x4 : Int32) (m : CS) (σ : jS), CV X m σ → I50 n b1 x2 x3 x4 m → jW X.1 X.2.1 jcl X.2.2.1 X.2.2.2.1 (d + 9) y_Rd_beginHeading 50 [some (.ref (adr X 6)), some (.ref b1), some (.int x2), some (.int x3), some (.int x4)] [] σ (cP X Φ)) := by
    intro n
    induction n using Nat.strongRecOn with
    | _ n ih =>
      exact fun b1 x2 x3 x4 m σ hV hI => t_Rd_beginHeading_50 F hV (h50 n b1 x2 x3 x4 m hI) (fun b1 x2 x3 x4 m σ hV ⟨j, hj, hI⟩ => (ih j hj) b1 x2 x3 x4 m σ hV hI)
  refine jE.of (by decide) (by simp [Value.category]) (Nat.le_of_ble_eq_true rfl) rfl ?_
  exact t_Rd_beginHeading_0 F hV he (fun b1 x2 x3 x4 m σ hV ⟨j, hI⟩ => (hL50 j) b1 x2 x3 x4 m σ hV hI)
def w_Rd_afterSpaces_32 (X : CX) (x1 : Int32) (x2 : Int32) (m : CS) (Φ : Option Value → CS → Prop) : Prop := Φ (some (.int (x2))) m
theorem t_Rd_afterSpaces_32 {X : CX} {a0 : Array Value} (F : cF X a0) {d : Nat} {x1 : Int32} {x2 : Int32} {m : CS} {σ : jS} {Φ : Option Value → CS → Prop} (hV : CV X m σ) (h : w_Rd_afterSpaces_32 X x1 x2 m Φ) : jW X.1 X.2.1 jcl X.2.2.1 X.2.2.2.1 (d + 2) y_Rd_afterSpaces 32 [some (.ref (adr X 6)), some (.int x1), some (.int x2)] [] σ (cP X Φ) := by
  unfold w_Rd_afterSpaces_32 at h
  refine jW.iload_n (dx_Rd_afterSpaces 15 (e := (32, .iload_n 2, 1)) rfl) rfl rfl (pc' := 33) rfl ?_
  exact jW.iret (dx_Rd_afterSpaces 16 (e := (33, .ireturn, 1)) rfl) rfl ⟨_, hV, h⟩
def w_Rd_afterSpaces_2 (X : CX) (x1 : Int32) (x2 : Int32) (m : CS) (Φ : Option Value → CS → Prop) (K2 : Int32 → Int32 → CS → Prop) : Prop := cE X 1 y_Line_size [.ref (adr X 5)] m (ciP fun r1 m1 => ((r1 ≤ x2 → w_Rd_afterSpaces_32 X (x1) (x2) m1 Φ) ∧ (¬ r1 ≤ x2 → cE X 1 y_Line_at [.ref (adr X 5), .int (x2)] m1 (ciP fun r2 m2 => ((r2 = 32 → K2 (x1) (x2 + 1) m2) ∧ (¬ r2 = 32 → w_Rd_afterSpaces_32 X (x1) (x2) m2 Φ))))))
theorem t_Rd_afterSpaces_2 {X : CX} {a0 : Array Value} (F : cF X a0) {d : Nat} {x1 : Int32} {x2 : Int32} {m : CS} {σ : jS} {Φ : Option Value → CS → Prop} {K2 : Int32 → Int32 → CS → Prop} (hV : CV X m σ) (h : w_Rd_afterSpaces_2 X x1 x2 m Φ K2) (hK2 : ∀ (x1 : Int32) (x2 : Int32) (m : CS) (σ : jS), CV X m σ → K2 x1 x2 m → jW X.1 X.2.1 jcl X.2.2.1 X.2.2.2.1 (d + 2) y_Rd_afterSpaces 2 [some (.ref (adr X 6)), some (.int x1), some (.int x2)] [] σ (cP X Φ)) : jW X.1 X.2.1 jcl X.2.2.1 X.2.2.2.1 (d + 2) y_Rd_afterSpaces 2 [some (.ref (adr X 6)), some (.int x1), some (.int x2)] [] σ (cP X Φ) := by
  unfold w_Rd_afterSpaces_2 at h
  refine jW.iload_n (dx_Rd_afterSpaces 2 (e := (2, .iload_n 2, 1)) rfl) rfl rfl (pc' := 3) rfl ?_
  refine jW.aload_n (dx_Rd_afterSpaces 3 (e := (3, .aload_n 0, 1)) rfl) rfl rfl (pc' := 4) rfl ?_
  refine jW.cg (κ := 6) (k := 2) F hV.s6 f_Rd_afterSpaces_4 (by decide) rfl (pc' := 7) rfl ?_
  refine jW.callVe F (h (d + 0) _ hV) (dx_Rd_afterSpaces 5 (e := (7, .invokevirtual 216, 3)) rfl) can_Line_size jw_846 jw_847 hV.cl5 rfl jw_848 rfl rfl (Nat.le_of_ble_eq_true rfl) (pc' := 10) rfl (fun r σ hr => ?_)
  clear hV
  obtain ⟨_, hV, _, rfl, h⟩ := hr
  refine jW.icmp_ge (dx_Rd_afterSpaces 6 (e := (10, .if_icmp .ge 22, 3)) rfl) 32 (by decide) (pc' := 13) rfl (fun c => ?_) (fun c => ?_)
  · replace h := h.1 c
    exact t_Rd_afterSpaces_32 F hV h
  · replace h := h.2 c
    refine jW.aload_n (dx_Rd_afterSpaces 7 (e := (13, .aload_n 0, 1)) rfl) rfl rfl (pc' := 14) rfl ?_
    refine jW.cg (κ := 6) (k := 2) F hV.s6 f_Rd_afterSpaces_14 (by decide) rfl (pc' := 17) rfl ?_
    refine jW.iload_n (dx_Rd_afterSpaces 9 (e := (17, .iload_n 2, 1)) rfl) rfl rfl (pc' := 18) rfl ?_
    refine jW.callVe F (h (d + 0) _ hV) (dx_Rd_afterSpaces 10 (e := (18, .invokevirtual 222, 3)) rfl) can_Line_at jw_850 jw_851 hV.cl5 rfl jw_852 rfl rfl (Nat.le_of_ble_eq_true rfl) (pc' := 21) rfl (fun r σ hr => ?_)
    clear hV
    obtain ⟨_, hV, _, rfl, h⟩ := hr
    refine jW.bipush (v := 32) (dx_Rd_afterSpaces 11 (e := (21, .bipush 32, 2)) rfl) (by decide) (pc' := 23) rfl ?_
    refine jW.icmp_ne (dx_Rd_afterSpaces 12 (e := (23, .if_icmp .ne 9, 3)) rfl) 32 (by decide) (pc' := 26) rfl (fun c => ?_) (fun c => ?_)
    · replace h := h.2 c
      exact t_Rd_afterSpaces_32 F hV h
    · replace h := h.1 c
      refine jW.iinc (v := _ + (1)) (dx_Rd_afterSpaces 13 (e := (26, .iinc 2 1, 3)) rfl) rfl rfl (by decide) rfl (pc' := 29) rfl ?_
      refine jW.goto (dx_Rd_afterSpaces 14 (e := (29, .goto (-27), 3)) rfl) 2 (by decide) ?_
      exact hK2 _ _ _ _ hV h
def w_Rd_afterSpaces_0 (X : CX) (x1 : Int32) (m : CS) (Φ : Option Value → CS → Prop) (K2 : Int32 → Int32 → CS → Prop) : Prop := K2 (x1) (x1) m
theorem t_Rd_afterSpaces_0 {X : CX} {a0 : Array Value} (F : cF X a0) {d : Nat} {x1 : Int32} {o2 : Option Value} {m : CS} {σ : jS} {Φ : Option Value → CS → Prop} {K2 : Int32 → Int32 → CS → Prop} (hV : CV X m σ) (h : w_Rd_afterSpaces_0 X x1 m Φ K2) (hK2 : ∀ (x1 : Int32) (x2 : Int32) (m : CS) (σ : jS), CV X m σ → K2 x1 x2 m → jW X.1 X.2.1 jcl X.2.2.1 X.2.2.2.1 (d + 2) y_Rd_afterSpaces 2 [some (.ref (adr X 6)), some (.int x1), some (.int x2)] [] σ (cP X Φ)) : jW X.1 X.2.1 jcl X.2.2.1 X.2.2.2.1 (d + 2) y_Rd_afterSpaces 0 [some (.ref (adr X 6)), some (.int x1), o2] [] σ (cP X Φ) := by
  unfold w_Rd_afterSpaces_0 at h
  refine jW.iload_n (dx_Rd_afterSpaces 0 (e := (0, .iload_n 1, 1)) rfl) rfl rfl (pc' := 1) rfl ?_
  refine jW.istore_n (dx_Rd_afterSpaces 1 (e := (1, .istore_n 2, 1)) rfl) rfl (by decide) rfl (pc' := 2) rfl ?_
  exact hK2 _ _ _ _ hV h
theorem g_Rd_afterSpaces {X : CX} {a0 : Array Value} (F : cF X a0) {x1 : Int32} {m : CS} {Φ : Option Value → CS → Prop} {I2 : Nat → Int32 → Int32 → CS → Prop} (he : w_Rd_afterSpaces_0 X x1 m Φ (fun x1 x2 m => ∃ j, I2 j x1 x2 m)) (h2 : ∀ (n : Nat) (x1 : Int32) (x2 : Int32) (m : CS), I2 n x1 x2 m → w_Rd_afterSpaces_2 X x1 x2 m Φ (fun x1 x2 m => ∃ j, j < n ∧ I2 j x1 x2 m)) : cE X 2 y_Rd_afterSpaces [.ref (adr X 6), .int x1] m Φ := by
  intro d σ hV
  have hL2 : ∀ n, (∀ (x1 : Int32) (x2 : Int32) (m : CS) (σ : jS), CV X m σ → I2 n x1 x2 m → jW X.1 X.2.1 jcl X.2.2.1 X.2.2.2.1 (d + 2) y_Rd_afterSpaces 2 [some (.ref (adr X 6)), some (.int x1), some (.int x2)] [] σ (cP X Φ)) := by
    intro n
    induction n using Nat.strongRecOn with
    | _ n ih =>
      exact fun x1 x2 m σ hV hI => t_Rd_afterSpaces_2 F hV (h2 n x1 x2 m hI) (fun x1 x2 m σ hV ⟨j, hj, hI⟩ => (ih j hj) x1 x2 m σ hV hI)
  refine jE.of (by decide) (by simp [Value.category]) (Nat.le_of_ble_eq_true rfl) rfl ?_
  exact t_Rd_afterSpaces_0 F hV he (fun x1 x2 m σ hV ⟨j, hI⟩ => (hL2 j) x1 x2 m σ hV hI)
def w_Rd_beforeSpaces_28 (X : CX) (x1 : Int32) (x2 : Int32) (x3 : Int32) (m : CS) (Φ : Option Value → CS → Prop) : Prop := Φ (some (.int (x3))) m
theorem t_Rd_beforeSpaces_28 {X : CX} {a0 : Array Value} (F : cF X a0) {d : Nat} {x1 : Int32} {x2 : Int32} {x3 : Int32} {m : CS} {σ : jS} {Φ : Option Value → CS → Prop} (hV : CV X m σ) (h : w_Rd_beforeSpaces_28 X x1 x2 x3 m Φ) : jW X.1 X.2.1 jcl X.2.2.1 X.2.2.2.1 (d + 2) y_Rd_beforeSpaces 28 [some (.ref (adr X 6)), some (.int x1), some (.int x2), some (.int x3)] [] σ (cP X Φ) := by
  unfold w_Rd_beforeSpaces_28 at h
  refine jW.iload_n (dx_Rd_beforeSpaces 15 (e := (28, .iload_n 3, 1)) rfl) rfl rfl (pc' := 29) rfl ?_
  exact jW.iret (dx_Rd_beforeSpaces 16 (e := (29, .ireturn, 1)) rfl) rfl ⟨_, hV, h⟩
def w_Rd_beforeSpaces_2 (X : CX) (x1 : Int32) (x2 : Int32) (x3 : Int32) (m : CS) (Φ : Option Value → CS → Prop) (K2 : Int32 → Int32 → Int32 → CS → Prop) : Prop := ((x3 ≤ x1 → w_Rd_beforeSpaces_28 X (x1) (x2) (x3) m Φ) ∧ (¬ x3 ≤ x1 → cE X 1 y_Line_at [.ref (adr X 5), .int (x3 - 1)] m (ciP fun r1 m1 => ((r1 = 32 → K2 (x1) (x2) (x3 + (-1)) m1) ∧ (¬ r1 = 32 → w_Rd_beforeSpaces_28 X (x1) (x2) (x3) m1 Φ)))))
theorem t_Rd_beforeSpaces_2 {X : CX} {a0 : Array Value} (F : cF X a0) {d : Nat} {x1 : Int32} {x2 : Int32} {x3 : Int32} {m : CS} {σ : jS} {Φ : Option Value → CS → Prop} {K2 : Int32 → Int32 → Int32 → CS → Prop} (hV : CV X m σ) (h : w_Rd_beforeSpaces_2 X x1 x2 x3 m Φ K2) (hK2 : ∀ (x1 : Int32) (x2 : Int32) (x3 : Int32) (m : CS) (σ : jS), CV X m σ → K2 x1 x2 x3 m → jW X.1 X.2.1 jcl X.2.2.1 X.2.2.2.1 (d + 2) y_Rd_beforeSpaces 2 [some (.ref (adr X 6)), some (.int x1), some (.int x2), some (.int x3)] [] σ (cP X Φ)) : jW X.1 X.2.1 jcl X.2.2.1 X.2.2.2.1 (d + 2) y_Rd_beforeSpaces 2 [some (.ref (adr X 6)), some (.int x1), some (.int x2), some (.int x3)] [] σ (cP X Φ) := by
  unfold w_Rd_beforeSpaces_2 at h
  refine jW.iload_n (dx_Rd_beforeSpaces 2 (e := (2, .iload_n 3, 1)) rfl) rfl rfl (pc' := 3) rfl ?_
  refine jW.iload_n (dx_Rd_beforeSpaces 3 (e := (3, .iload_n 1, 1)) rfl) rfl rfl (pc' := 4) rfl ?_
  refine jW.icmp_le (dx_Rd_beforeSpaces 4 (e := (4, .if_icmp .le 24, 3)) rfl) 28 (by decide) (pc' := 7) rfl (fun c => ?_) (fun c => ?_)
  · replace h := h.1 c
    exact t_Rd_beforeSpaces_28 F hV h
  · replace h := h.2 c
    refine jW.aload_n (dx_Rd_beforeSpaces 5 (e := (7, .aload_n 0, 1)) rfl) rfl rfl (pc' := 8) rfl ?_
    refine jW.cg (κ := 6) (k := 2) F hV.s6 f_Rd_beforeSpaces_8 (by decide) rfl (pc' := 11) rfl ?_
    refine jW.iload_n (dx_Rd_beforeSpaces 7 (e := (11, .iload_n 3, 1)) rfl) rfl rfl (pc' := 12) rfl ?_
    refine jW.iconst (v := 1) (dx_Rd_beforeSpaces 8 (e := (12, .iconst 1, 1)) rfl) (by decide) (pc' := 13) rfl ?_
    refine jW.isub (dx_Rd_beforeSpaces 9 (e := (13, .isub, 1)) rfl) (pc' := 14) rfl ?_
    refine jW.callVe F (h (d + 0) _ hV) (dx_Rd_beforeSpaces 10 (e := (14, .invokevirtual 222, 3)) rfl) can_Line_at jw_850 jw_851 hV.cl5 rfl jw_852 rfl rfl (Nat.le_of_ble_eq_true rfl) (pc' := 17) rfl (fun r σ hr => ?_)
    clear hV
    obtain ⟨_, hV, _, rfl, h⟩ := hr
    refine jW.bipush (v := 32) (dx_Rd_beforeSpaces 11 (e := (17, .bipush 32, 2)) rfl) (by decide) (pc' := 19) rfl ?_
    refine jW.icmp_ne (dx_Rd_beforeSpaces 12 (e := (19, .if_icmp .ne 9, 3)) rfl) 28 (by decide) (pc' := 22) rfl (fun c => ?_) (fun c => ?_)
    · replace h := h.2 c
      exact t_Rd_beforeSpaces_28 F hV h
    · replace h := h.1 c
      refine jW.iinc (v := _ + (-1)) (dx_Rd_beforeSpaces 13 (e := (22, .iinc 3 (-1), 3)) rfl) rfl rfl (by decide) rfl (pc' := 25) rfl ?_
      refine jW.goto (dx_Rd_beforeSpaces 14 (e := (25, .goto (-23), 3)) rfl) 2 (by decide) ?_
      exact hK2 _ _ _ _ _ hV h
def w_Rd_beforeSpaces_0 (X : CX) (x1 : Int32) (x2 : Int32) (m : CS) (Φ : Option Value → CS → Prop) (K2 : Int32 → Int32 → Int32 → CS → Prop) : Prop := K2 (x1) (x2) (x2) m
theorem t_Rd_beforeSpaces_0 {X : CX} {a0 : Array Value} (F : cF X a0) {d : Nat} {x1 : Int32} {x2 : Int32} {o3 : Option Value} {m : CS} {σ : jS} {Φ : Option Value → CS → Prop} {K2 : Int32 → Int32 → Int32 → CS → Prop} (hV : CV X m σ) (h : w_Rd_beforeSpaces_0 X x1 x2 m Φ K2) (hK2 : ∀ (x1 : Int32) (x2 : Int32) (x3 : Int32) (m : CS) (σ : jS), CV X m σ → K2 x1 x2 x3 m → jW X.1 X.2.1 jcl X.2.2.1 X.2.2.2.1 (d + 2) y_Rd_beforeSpaces 2 [some (.ref (adr X 6)), some (.int x1), some (.int x2), some (.int x3)] [] σ (cP X Φ)) : jW X.1 X.2.1 jcl X.2.2.1 X.2.2.2.1 (d + 2) y_Rd_beforeSpaces 0 [some (.ref (adr X 6)), some (.int x1), some (.int x2), o3] [] σ (cP X Φ) := by
  unfold w_Rd_beforeSpaces_0 at h
  refine jW.iload_n (dx_Rd_beforeSpaces 0 (e := (0, .iload_n 2, 1)) rfl) rfl rfl (pc' := 1) rfl ?_
  refine jW.istore_n (dx_Rd_beforeSpaces 1 (e := (1, .istore_n 3, 1)) rfl) rfl (by decide) rfl (pc' := 2) rfl ?_
  exact hK2 _ _ _ _ _ hV h
theorem g_Rd_beforeSpaces {X : CX} {a0 : Array Value} (F : cF X a0) {x1 : Int32} {x2 : Int32} {m : CS} {Φ : Option Value → CS → Prop} {I2 : Nat → Int32 → Int32 → Int32 → CS → Prop} (he : w_Rd_beforeSpaces_0 X x1 x2 m Φ (fun x1 x2 x3 m => ∃ j, I2 j x1 x2 x3 m)) (h2 : ∀ (n : Nat) (x1 : Int32) (x2 : Int32) (x3 : Int32) (m : CS), I2 n x1 x2 x3 m → w_Rd_beforeSpaces_2 X x1 x2 x3 m Φ (fun x1 x2 x3 m => ∃ j, j < n ∧ I2 j x1 x2 x3 m)) : cE X 2 y_Rd_beforeSpaces [.ref (adr X 6), .int x1, .int x2] m Φ := by
  intro d σ hV
  have hL2 : ∀ n, (∀ (x1 : Int32) (x2 : Int32) (x3 : Int32) (m : CS) (σ : jS), CV X m σ → I2 n x1 x2 x3 m → jW X.1 X.2.1 jcl X.2.2.1 X.2.2.2.1 (d + 2) y_Rd_beforeSpaces 2 [some (.ref (adr X 6)), some (.int x1), some (.int x2), some (.int x3)] [] σ (cP X Φ)) := by
    intro n
    induction n using Nat.strongRecOn with
    | _ n ih =>
      exact fun x1 x2 x3 m σ hV hI => t_Rd_beforeSpaces_2 F hV (h2 n x1 x2 x3 m hI) (fun x1 x2 x3 m σ hV ⟨j, hj, hI⟩ => (ih j hj) x1 x2 x3 m σ hV hI)
  refine jE.of (by decide) (by simp [Value.category]) (Nat.le_of_ble_eq_true rfl) rfl ?_
  exact t_Rd_beforeSpaces_0 F hV he (fun x1 x2 x3 m σ hV ⟨j, hI⟩ => (hL2 j) x1 x2 x3 m σ hV hI)
def w_Rd_copy_2 (X : CX) (x1 : Int32) (x2 : Int32) (x3 : Int32) (m : CS) (Φ : Option Value → CS → Prop) (K2 : Int32 → Int32 → Int32 → CS → Prop) : Prop := ((x2 ≤ x3 → Φ none m) ∧ (¬ x2 ≤ x3 → cE X 1 y_Line_at [.ref (adr X 5), .int (x3)] m (ciP fun r1 m1 => cE X 2 y_Row_add [.ref (adr X 10), .int (r1)] m1 (cvP fun m2 => K2 (x1) (x2) (x3 + 1) m2))))
theorem t_Rd_copy_2 {X : CX} {a0 : Array Value} (F : cF X a0) {d : Nat} {x1 : Int32} {x2 : Int32} {x3 : Int32} {m : CS} {σ : jS} {Φ : Option Value → CS → Prop} {K2 : Int32 → Int32 → Int32 → CS → Prop} (hV : CV X m σ) (h : w_Rd_copy_2 X x1 x2 x3 m Φ K2) (hK2 : ∀ (x1 : Int32) (x2 : Int32) (x3 : Int32) (m : CS) (σ : jS), CV X m σ → K2 x1 x2 x3 m → jW X.1 X.2.1 jcl X.2.2.1 X.2.2.2.1 (d + 3) y_Rd_copy 2 [some (.ref (adr X 6)), some (.int x1), some (.int x2), some (.int x3)] [] σ (cP X Φ)) : jW X.1 X.2.1 jcl X.2.2.1 X.2.2.2.1 (d + 3) y_Rd_copy 2 [some (.ref (adr X 6)), some (.int x1), some (.int x2), some (.int x3)] [] σ (cP X Φ) := by
  unfold w_Rd_copy_2 at h
  refine jW.iload_n (dx_Rd_copy 2 (e := (2, .iload_n 3, 1)) rfl) rfl rfl (pc' := 3) rfl ?_
  refine jW.iload_n (dx_Rd_copy 3 (e := (3, .iload_n 2, 1)) rfl) rfl rfl (pc' := 4) rfl ?_
  refine jW.icmp_ge (dx_Rd_copy 4 (e := (4, .if_icmp .ge 27, 3)) rfl) 31 (by decide) (pc' := 7) rfl (fun c => ?_) (fun c => ?_)
  · replace h := h.1 c
    exact jW.vret (dx_Rd_copy 15 (e := (31, .return_, 1)) rfl) rfl ⟨_, hV, h⟩
  · replace h := h.2 c
    refine jW.aload_n (dx_Rd_copy 5 (e := (7, .aload_n 0, 1)) rfl) rfl rfl (pc' := 8) rfl ?_
    refine jW.cg (κ := 6) (k := 0) F hV.s6 f_Rd_copy_8 (by decide) rfl (pc' := 11) rfl ?_
    refine jW.cg (κ := 2) (k := 2) F hV.s2 f_Rd_copy_11 (by decide) rfl (pc' := 14) rfl ?_
    refine jW.aload_n (dx_Rd_copy 8 (e := (14, .aload_n 0, 1)) rfl) rfl rfl (pc' := 15) rfl ?_
    refine jW.cg (κ := 6) (k := 2) F hV.s6 f_Rd_copy_15 (by decide) rfl (pc' := 18) rfl ?_
    refine jW.iload_n (dx_Rd_copy 10 (e := (18, .iload_n 3, 1)) rfl) rfl rfl (pc' := 19) rfl ?_
    refine jW.callVe F (h (d + 1) _ hV) (dx_Rd_copy 11 (e := (19, .invokevirtual 222, 3)) rfl) can_Line_at jw_850 jw_851 hV.cl5 rfl jw_852 rfl rfl (Nat.le_of_ble_eq_true rfl) (pc' := 22) rfl (fun r σ hr => ?_)
    clear hV
    obtain ⟨_, hV, _, rfl, h⟩ := hr
    refine jW.callVe F (h (d + 0) _ hV) (dx_Rd_copy 12 (e := (22, .invokevirtual 251, 3)) rfl) can_Row_add jw_862 jw_376 (hV.clr (κ := 10) (by unfold isR; decide)) rfl jw_377 rfl rfl (Nat.le_of_ble_eq_true rfl) (pc' := 25) rfl (fun r σ hr => ?_)
    clear hV
    obtain ⟨_, hV, rfl, h⟩ := hr
    refine jW.iinc (v := _ + (1)) (dx_Rd_copy 13 (e := (25, .iinc 3 1, 3)) rfl) rfl rfl (by decide) rfl (pc' := 28) rfl ?_
    refine jW.goto (dx_Rd_copy 14 (e := (28, .goto (-26), 3)) rfl) 2 (by decide) ?_
    exact hK2 _ _ _ _ _ hV h
def w_Rd_copy_0 (X : CX) (x1 : Int32) (x2 : Int32) (m : CS) (Φ : Option Value → CS → Prop) (K2 : Int32 → Int32 → Int32 → CS → Prop) : Prop := K2 (x1) (x2) (x1) m
theorem t_Rd_copy_0 {X : CX} {a0 : Array Value} (F : cF X a0) {d : Nat} {x1 : Int32} {x2 : Int32} {o3 : Option Value} {m : CS} {σ : jS} {Φ : Option Value → CS → Prop} {K2 : Int32 → Int32 → Int32 → CS → Prop} (hV : CV X m σ) (h : w_Rd_copy_0 X x1 x2 m Φ K2) (hK2 : ∀ (x1 : Int32) (x2 : Int32) (x3 : Int32) (m : CS) (σ : jS), CV X m σ → K2 x1 x2 x3 m → jW X.1 X.2.1 jcl X.2.2.1 X.2.2.2.1 (d + 3) y_Rd_copy 2 [some (.ref (adr X 6)), some (.int x1), some (.int x2), some (.int x3)] [] σ (cP X Φ)) : jW X.1 X.2.1 jcl X.2.2.1 X.2.2.2.1 (d + 3) y_Rd_copy 0 [some (.ref (adr X 6)), some (.int x1), some (.int x2), o3] [] σ (cP X Φ) := by
  unfold w_Rd_copy_0 at h
  refine jW.iload_n (dx_Rd_copy 0 (e := (0, .iload_n 1, 1)) rfl) rfl rfl (pc' := 1) rfl ?_
  refine jW.istore_n (dx_Rd_copy 1 (e := (1, .istore_n 3, 1)) rfl) rfl (by decide) rfl (pc' := 2) rfl ?_
  exact hK2 _ _ _ _ _ hV h
theorem g_Rd_copy {X : CX} {a0 : Array Value} (F : cF X a0) {x1 : Int32} {x2 : Int32} {m : CS} {Φ : Option Value → CS → Prop} {I2 : Nat → Int32 → Int32 → Int32 → CS → Prop} (he : w_Rd_copy_0 X x1 x2 m Φ (fun x1 x2 x3 m => ∃ j, I2 j x1 x2 x3 m)) (h2 : ∀ (n : Nat) (x1 : Int32) (x2 : Int32) (x3 : Int32) (m : CS), I2 n x1 x2 x3 m → w_Rd_copy_2 X x1 x2 x3 m Φ (fun x1 x2 x3 m => ∃ j, j < n ∧ I2 j x1 x2 x3 m)) : cE X 3 y_Rd_copy [.ref (adr X 6), .int x1, .int x2] m Φ := by
  intro d σ hV
  have hL2 : ∀ n, (∀ (x1 : Int32) (x2 : Int32) (x3 : Int32) (m : CS) (σ : jS), CV X m σ → I2 n x1 x2 x3 m → jW X.1 X.2.1 jcl X.2.2.1 X.2.2.2.1 (d + 3) y_Rd_copy 2 [some (.ref (adr X 6)), some (.int x1), some (.int x2), some (.int x3)] [] σ (cP X Φ)) := by
    intro n
    induction n using Nat.strongRecOn with
    | _ n ih =>
      exact fun x1 x2 x3 m σ hV hI => t_Rd_copy_2 F hV (h2 n x1 x2 x3 m hI) (fun x1 x2 x3 m σ hV ⟨j, hj, hI⟩ => (ih j hj) x1 x2 x3 m σ hV hI)
  refine jE.of (by decide) (by simp [Value.category]) (Nat.le_of_ble_eq_true rfl) rfl ?_
  exact t_Rd_copy_0 F hV he (fun x1 x2 x3 m σ hV ⟨j, hI⟩ => (hL2 j) x1 x2 x3 m σ hV hI)
def w_Rd_beginFenced_0 (X : CX) (m : CS) (Φ : Option Value → CS → Prop) : Prop := cE X 8 y_Rd_push [.ref (adr X 6), .int (7)] m (cbP fun r1 m1 => cE X 0 y_Line_start [.ref (adr X 5)] m1 (ciP fun r2 m2 => cE X 1 y_Line_at [.ref (adr X 5), .int (r2)] m2 (ciP fun r3 m3 => (∃ i1, isB m3 (r1) i1 ∧ ∀ m4, m4 = cB m3 i1 12 (r3) → cE X 2 y_Line_fenceLength [.ref (adr X 5)] m4 (ciP fun r5 m5 => ∀ m6, m6 = cI m5 68 (r5) → cE X 0 y_Line_indent [.ref (adr X 5)] m6 (ciP fun r7 m7 => ∀ m8, m8 = cI m7 69 (r7) → cE X 0 y_Line_start [.ref (adr X 5)] m8 (ciP fun r9 m9 => cE X 2 y_Rd_afterSpaces [.ref (adr X 6), .int (r9 + (vi m9.1 68))] m9 (ciP fun r10 m10 => cE X 1 y_Line_size [.ref (adr X 5)] m10 (ciP fun r11 m11 => cE X 2 y_Rd_beforeSpaces [.ref (adr X 6), .int (r10), .int (r11)] m11 (ciP fun r12 m12 => cE X 3 y_Rd_copy [.ref (adr X 6), .int (r10), .int (r12)] m12 (cvP fun m13 => cE X 0 y_Row_size [.ref (adr X 10)] m13 (ciP fun r14 m14 => (∃ i2, isB m14 (r1) i2 ∧ (∃ i3, isB m14 (r1) i3 ∧ ∀ m15, m15 = cB m14 i3 8 (r14 - (vb m14.1 i2 7)) → cE X 0 y_Row_size [.ref (adr X 10)] m15 (ciP fun r16 m16 => (∃ i4, isB m16 (r1) i4 ∧ ∀ m17, m17 = cB m16 i4 5 (r16) → ∀ m18, m18 = cI m17 67 (1) → Φ none m18))))))))))))))))
theorem t_Rd_beginFenced_0 {X : CX} {a0 : Array Value} (F : cF X a0) {d : Nat} {o1 o2 : Option Value} {m : CS} {σ : jS} {Φ : Option Value → CS → Prop} (hV : CV X m σ) (h : w_Rd_beginFenced_0 X m Φ) : jW X.1 X.2.1 jcl X.2.2.1 X.2.2.2.1 (d + 9) y_Rd_beginFenced 0 [some (.ref (adr X 6)), o1, o2] [] σ (cP X Φ) := by
  unfold w_Rd_beginFenced_0 at h
  refine jW.aload_n (dx_Rd_beginFenced 0 (e := (0, .aload_n 0, 1)) rfl) rfl rfl (pc' := 1) rfl ?_
  refine jW.bipush (v := 7) (dx_Rd_beginFenced 1 (e := (1, .bipush 7, 2)) rfl) (by decide) (pc' := 3) rfl ?_
  refine jW.callVe F (h (d + 0) _ hV) (dx_Rd_beginFenced 2 (e := (3, .invokevirtual 197, 3)) rfl) can_Rd_push jw_821 jw_823 hV.cl6 rfl sel_Rd_push rfl rfl (Nat.le_of_ble_eq_true rfl) (pc' := 6) rfl (fun r σ hr => ?_)
  clear hV
  obtain ⟨_, hV, _, rfl, h⟩ := hr
  refine jW.astore_n (dx_Rd_beginFenced 3 (e := (6, .astore_n 1, 1)) rfl) rfl (by decide) rfl (pc' := 7) rfl ?_
  refine jW.aload_n (dx_Rd_beginFenced 4 (e := (7, .aload_n 1, 1)) rfl) rfl rfl (pc' := 8) rfl ?_
  refine jW.aload_n (dx_Rd_beginFenced 5 (e := (8, .aload_n 0, 1)) rfl) rfl rfl (pc' := 9) rfl ?_
  refine jW.cg (κ := 6) (k := 2) F hV.s6 f_Rd_beginFenced_9 (by decide) rfl (pc' := 12) rfl ?_
  refine jW.aload_n (dx_Rd_beginFenced 7 (e := (12, .aload_n 0, 1)) rfl) rfl rfl (pc' := 13) rfl ?_
  refine jW.cg (κ := 6) (k := 2) F hV.s6 f_Rd_beginFenced_13 (by decide) rfl (pc' := 16) rfl ?_
  refine jW.callVe F (h (d + 8) _ hV) (dx_Rd_beginFenced 9 (e := (16, .invokevirtual 209, 3)) rfl) can_Line_start jw_841 jw_591 hV.cl5 rfl jw_592 rfl rfl (Nat.le_of_ble_eq_true rfl) (pc' := 19) rfl (fun r σ hr => ?_)
  clear hV
  obtain ⟨_, hV, _, rfl, h⟩ := hr
  refine jW.callVe F (h (d + 7) _ hV) (dx_Rd_beginFenced 10 (e := (19, .invokevirtual 222, 3)) rfl) can_Line_at jw_850 jw_851 hV.cl5 rfl jw_852 rfl rfl (Nat.le_of_ble_eq_true rfl) (pc' := 22) rfl (fun r σ hr => ?_)
  clear hV
  obtain ⟨_, hV, _, rfl, h⟩ := hr
  obtain ⟨i1, hi, h⟩ := h
  refine jW.cpb F hV hi f_Rd_beginFenced_22 (by decide) rfl rfl rfl (pc' := 25) rfl (fun σ hV => ?_)
  replace h := h _ rfl
  refine jW.aload_n (dx_Rd_beginFenced 12 (e := (25, .aload_n 0, 1)) rfl) rfl rfl (pc' := 26) rfl ?_
  refine jW.aload_n (dx_Rd_beginFenced 13 (e := (26, .aload_n 0, 1)) rfl) rfl rfl (pc' := 27) rfl ?_
  refine jW.cg (κ := 6) (k := 2) F hV.s6 f_Rd_beginFenced_27 (by decide) rfl (pc' := 30) rfl ?_
  refine jW.callVe F (h (d + 6) _ hV) (dx_Rd_beginFenced 15 (e := (30, .invokevirtual 156, 3)) rfl) can_Line_fenceLength jw_662 jw_663 hV.cl5 rfl jw_664 rfl rfl (Nat.le_of_ble_eq_true rfl) (pc' := 33) rfl (fun r σ hr => ?_)
  clear hV
  obtain ⟨_, hV, _, rfl, h⟩ := hr
  refine jW.cp6 (k := 8) F hV f_Rd_beginFenced_33 (by decide) rfl rfl rfl (pc' := 36) rfl (fun σ hV => ?_)
  replace h := h _ rfl
  refine jW.aload_n (dx_Rd_beginFenced 17 (e := (36, .aload_n 0, 1)) rfl) rfl rfl (pc' := 37) rfl ?_
  refine jW.aload_n (dx_Rd_beginFenced 18 (e := (37, .aload_n 0, 1)) rfl) rfl rfl (pc' := 38) rfl ?_
  refine jW.cg (κ := 6) (k := 2) F hV.s6 f_Rd_beginFenced_38 (by decide) rfl (pc' := 41) rfl ?_
  refine jW.callVe F (h (d + 8) _ hV) (dx_Rd_beginFenced 20 (e := (41, .invokevirtual 119, 3)) rfl) can_Line_indent jw_607 jw_608 hV.cl5 rfl jw_609 rfl rfl (Nat.le_of_ble_eq_true rfl) (pc' := 44) rfl (fun r σ hr => ?_)
  clear hV
  obtain ⟨_, hV, _, rfl, h⟩ := hr
  refine jW.cp6 (k := 9) F hV f_Rd_beginFenced_44 (by decide) rfl rfl rfl (pc' := 47) rfl (fun σ hV => ?_)
  replace h := h _ rfl
  refine jW.aload_n (dx_Rd_beginFenced 22 (e := (47, .aload_n 0, 1)) rfl) rfl rfl (pc' := 48) rfl ?_
  refine jW.aload_n (dx_Rd_beginFenced 23 (e := (48, .aload_n 0, 1)) rfl) rfl rfl (pc' := 49) rfl ?_
  refine jW.cg (κ := 6) (k := 2) F hV.s6 f_Rd_beginFenced_49 (by decide) rfl (pc' := 52) rfl ?_
  refine jW.callVe F (h (d + 8) _ hV) (dx_Rd_beginFenced 25 (e := (52, .invokevirtual 209, 3)) rfl) can_Line_start jw_841 jw_591 hV.cl5 rfl jw_592 rfl rfl (Nat.le_of_ble_eq_true rfl) (pc' := 55) rfl (fun r σ hr => ?_)
  clear hV
  obtain ⟨_, hV, _, rfl, h⟩ := hr
  refine jW.aload_n (dx_Rd_beginFenced 26 (e := (55, .aload_n 0, 1)) rfl) rfl rfl (pc' := 56) rfl ?_
  refine jW.cg (κ := 6) (k := 8) F hV.s6 f_Rd_beginFenced_56 (by decide) rfl (pc' := 59) rfl ?_
  refine jW.iadd (dx_Rd_beginFenced 28 (e := (59, .iadd, 1)) rfl) (pc' := 60) rfl ?_
  refine jW.callVe F (h (d + 6) _ hV) (dx_Rd_beginFenced 29 (e := (60, .invokevirtual 212, 3)) rfl) can_Rd_afterSpaces jw_842 jw_844 hV.cl6 rfl sel_Rd_afterSpaces rfl rfl (Nat.le_of_ble_eq_true rfl) (pc' := 63) rfl (fun r σ hr => ?_)
  clear hV
  obtain ⟨_, hV, _, rfl, h⟩ := hr
  refine jW.istore_n (dx_Rd_beginFenced 30 (e := (63, .istore_n 2, 1)) rfl) rfl (by decide) rfl (pc' := 64) rfl ?_
  refine jW.aload_n (dx_Rd_beginFenced 31 (e := (64, .aload_n 0, 1)) rfl) rfl rfl (pc' := 65) rfl ?_
  refine jW.iload_n (dx_Rd_beginFenced 32 (e := (65, .iload_n 2, 1)) rfl) rfl rfl (pc' := 66) rfl ?_
  refine jW.aload_n (dx_Rd_beginFenced 33 (e := (66, .aload_n 0, 1)) rfl) rfl rfl (pc' := 67) rfl ?_
  refine jW.iload_n (dx_Rd_beginFenced 34 (e := (67, .iload_n 2, 1)) rfl) rfl rfl (pc' := 68) rfl ?_
  refine jW.aload_n (dx_Rd_beginFenced 35 (e := (68, .aload_n 0, 1)) rfl) rfl rfl (pc' := 69) rfl ?_
  refine jW.cg (κ := 6) (k := 2) F hV.s6 f_Rd_beginFenced_69 (by decide) rfl (pc' := 72) rfl ?_
  refine jW.callVe F (h (d + 7) _ hV) (dx_Rd_beginFenced 37 (e := (72, .invokevirtual 216, 3)) rfl) can_Line_size jw_846 jw_847 hV.cl5 rfl jw_848 rfl rfl (Nat.le_of_ble_eq_true rfl) (pc' := 75) rfl (fun r σ hr => ?_)
  clear hV
  obtain ⟨_, hV, _, rfl, h⟩ := hr
  refine jW.callVe F (h (d + 6) _ hV) (dx_Rd_beginFenced 38 (e := (75, .invokevirtual 219, 3)) rfl) can_Rd_beforeSpaces jw_854 jw_856 hV.cl6 rfl sel_Rd_beforeSpaces rfl rfl (Nat.le_of_ble_eq_true rfl) (pc' := 78) rfl (fun r σ hr => ?_)
  clear hV
  obtain ⟨_, hV, _, rfl, h⟩ := hr
  refine jW.callVe F (h (d + 5) _ hV) (dx_Rd_beginFenced 39 (e := (78, .invokevirtual 225, 3)) rfl) can_Rd_copy jw_858 jw_860 hV.cl6 rfl sel_Rd_copy rfl rfl (Nat.le_of_ble_eq_true rfl) (pc' := 81) rfl (fun r σ hr => ?_)
  clear hV
  obtain ⟨_, hV, rfl, h⟩ := hr
  refine jW.aload_n (dx_Rd_beginFenced 40 (e := (81, .aload_n 1, 1)) rfl) rfl rfl (pc' := 82) rfl ?_
  refine jW.aload_n (dx_Rd_beginFenced 41 (e := (82, .aload_n 0, 1)) rfl) rfl rfl (pc' := 83) rfl ?_
  refine jW.cg (κ := 6) (k := 0) F hV.s6 f_Rd_beginFenced_83 (by decide) rfl (pc' := 86) rfl ?_
  refine jW.cg (κ := 2) (k := 2) F hV.s2 f_Rd_beginFenced_86 (by decide) rfl (pc' := 89) rfl ?_
  refine jW.callVe F (h (d + 8) _ hV) (dx_Rd_beginFenced 44 (e := (89, .invokevirtual 233, 3)) rfl) can_Row_size jw_863 jw_372 (hV.clr (κ := 10) (by unfold isR; decide)) rfl jw_373 rfl rfl (Nat.le_of_ble_eq_true rfl) (pc' := 92) rfl (fun r σ hr => ?_)
  clear hV
  obtain ⟨_, hV, _, rfl, h⟩ := hr
  refine jW.aload_n (dx_Rd_beginFenced 45 (e := (92, .aload_n 1, 1)) rfl) rfl rfl (pc' := 93) rfl ?_
  obtain ⟨i2, hi, h⟩ := h
  refine jW.cgb F hV hi f_Rd_beginFenced_93 (by decide) (pc' := 96) rfl ?_
  refine jW.isub (dx_Rd_beginFenced 47 (e := (96, .isub, 1)) rfl) (pc' := 97) rfl ?_
  obtain ⟨i3, hi, h⟩ := h
  refine jW.cpb F hV hi f_Rd_beginFenced_97 (by decide) rfl rfl rfl (pc' := 100) rfl (fun σ hV => ?_)
  replace h := h _ rfl
  refine jW.aload_n (dx_Rd_beginFenced 49 (e := (100, .aload_n 1, 1)) rfl) rfl rfl (pc' := 101) rfl ?_
  refine jW.aload_n (dx_Rd_beginFenced 50 (e := (101, .aload_n 0, 1)) rfl) rfl rfl (pc' := 102) rfl ?_
  refine jW.cg (κ := 6) (k := 0) F hV.s6 f_Rd_beginFenced_102 (by decide) rfl (pc' := 105) rfl ?_
  refine jW.cg (κ := 2) (k := 2) F hV.s2 f_Rd_beginFenced_105 (by decide) rfl (pc' := 108) rfl ?_
  refine jW.callVe F (h (d + 8) _ hV) (dx_Rd_beginFenced 53 (e := (108, .invokevirtual 233, 3)) rfl) can_Row_size jw_863 jw_372 (hV.clr (κ := 10) (by unfold isR; decide)) rfl jw_373 rfl rfl (Nat.le_of_ble_eq_true rfl) (pc' := 111) rfl (fun r σ hr => ?_)
  clear hV
  obtain ⟨_, hV, _, rfl, h⟩ := hr
  obtain ⟨i4, hi, h⟩ := h
  refine jW.cpb F hV hi f_Rd_beginFenced_111 (by decide) rfl rfl rfl (pc' := 114) rfl (fun σ hV => ?_)
  replace h := h _ rfl
  refine jW.aload_n (dx_Rd_beginFenced 55 (e := (114, .aload_n 0, 1)) rfl) rfl rfl (pc' := 115) rfl ?_
  refine jW.iconst (v := 1) (dx_Rd_beginFenced 56 (e := (115, .iconst 1, 1)) rfl) (by decide) (pc' := 116) rfl ?_
  refine jW.cp6 (k := 7) F hV f_Rd_beginFenced_116 (by decide) rfl rfl rfl (pc' := 119) rfl (fun σ hV => ?_)
  replace h := h _ rfl
  exact jW.vret (dx_Rd_beginFenced 58 (e := (119, .return_, 1)) rfl) rfl ⟨_, hV, h⟩
theorem g_Rd_beginFenced {X : CX} {a0 : Array Value} (F : cF X a0) {m : CS} {Φ : Option Value → CS → Prop} (he : w_Rd_beginFenced_0 X m Φ) : cE X 9 y_Rd_beginFenced [.ref (adr X 6)] m Φ := by
  intro d σ hV
  refine jE.of (by decide) (by simp [Value.category]) (Nat.le_of_ble_eq_true rfl) rfl ?_
  exact t_Rd_beginFenced_0 F hV he
def w_Rd_beginIndented_0 (X : CX) (m : CS) (Φ : Option Value → CS → Prop) : Prop := cE X 8 y_Rd_push [.ref (adr X 6), .int (7)] m (cbP fun r1 m1 => cE X 2 y_Line_moveOn [.ref (adr X 5), .int (4)] m1 (cvP fun m2 => Φ none m2))
theorem t_Rd_beginIndented_0 {X : CX} {a0 : Array Value} (F : cF X a0) {d : Nat} {m : CS} {σ : jS} {Φ : Option Value → CS → Prop} (hV : CV X m σ) (h : w_Rd_beginIndented_0 X m Φ) : jW X.1 X.2.1 jcl X.2.2.1 X.2.2.2.1 (d + 9) y_Rd_beginIndented 0 [some (.ref (adr X 6))] [] σ (cP X Φ) := by
  unfold w_Rd_beginIndented_0 at h
  refine jW.aload_n (dx_Rd_beginIndented 0 (e := (0, .aload_n 0, 1)) rfl) rfl rfl (pc' := 1) rfl ?_
  refine jW.bipush (v := 7) (dx_Rd_beginIndented 1 (e := (1, .bipush 7, 2)) rfl) (by decide) (pc' := 3) rfl ?_
  refine jW.callVe F (h (d + 0) _ hV) (dx_Rd_beginIndented 2 (e := (3, .invokevirtual 197, 3)) rfl) can_Rd_push jw_821 jw_823 hV.cl6 rfl sel_Rd_push rfl rfl (Nat.le_of_ble_eq_true rfl) (pc' := 6) rfl (fun r σ hr => ?_)
  clear hV
  obtain ⟨_, hV, _, rfl, h⟩ := hr
  refine jW.pop (dx_Rd_beginIndented 3 (e := (6, .pop, 1)) rfl) rfl (pc' := 7) rfl ?_
  refine jW.aload_n (dx_Rd_beginIndented 4 (e := (7, .aload_n 0, 1)) rfl) rfl rfl (pc' := 8) rfl ?_
  refine jW.cg (κ := 6) (k := 2) F hV.s6 f_Rd_beginIndented_8 (by decide) rfl (pc' := 11) rfl ?_
  refine jW.iconst (v := 4) (dx_Rd_beginIndented 6 (e := (11, .iconst 4, 1)) rfl) (by decide) (pc' := 12) rfl ?_
  refine jW.callVe F (h (d + 6) _ hV) (dx_Rd_beginIndented 7 (e := (12, .invokevirtual 125, 3)) rfl) can_Line_moveOn jw_611 jw_612 hV.cl5 rfl jw_613 rfl rfl (Nat.le_of_ble_eq_true rfl) (pc' := 15) rfl (fun r σ hr => ?_)
  clear hV
  obtain ⟨_, hV, rfl, h⟩ := hr
  exact jW.vret (dx_Rd_beginIndented 8 (e := (15, .return_, 1)) rfl) rfl ⟨_, hV, h⟩
theorem g_Rd_beginIndented {X : CX} {a0 : Array Value} (F : cF X a0) {m : CS} {Φ : Option Value → CS → Prop} (he : w_Rd_beginIndented_0 X m Φ) : cE X 9 y_Rd_beginIndented [.ref (adr X 6)] m Φ := by
  intro d σ hV
  refine jE.of (by decide) (by simp [Value.category]) (Nat.le_of_ble_eq_true rfl) rfl ?_
  exact t_Rd_beginIndented_0 F hV he
def w_Rd_takeRest_56 (X : CX) (m : CS) (Φ : Option Value → CS → Prop) : Prop := cE X 8 y_Rd_close [.ref (adr X 6)] m (cvP fun m1 => cE X 9 y_Rd_addRest [.ref (adr X 6)] m1 (cvP fun m2 => Φ none m2))
theorem t_Rd_takeRest_56 {X : CX} {a0 : Array Value} (F : cF X a0) {d : Nat} {m : CS} {σ : jS} {Φ : Option Value → CS → Prop} (hV : CV X m σ) (h : w_Rd_takeRest_56 X m Φ) : jW X.1 X.2.1 jcl X.2.2.1 X.2.2.2.1 (d + 10) y_Rd_takeRest 56 [some (.ref (adr X 6))] [] σ (cP X Φ) := by
  unfold w_Rd_takeRest_56 at h
  refine jW.aload_n (dx_Rd_takeRest 28 (e := (56, .aload_n 0, 1)) rfl) rfl rfl (pc' := 57) rfl ?_
  refine jW.callVe F (h (d + 1) _ hV) (dx_Rd_takeRest 29 (e := (57, .invokevirtual 75, 3)) rfl) can_Rd_close jw_809 jw_811 hV.cl6 rfl sel_Rd_close rfl rfl (Nat.le_of_ble_eq_true rfl) (pc' := 60) rfl (fun r σ hr => ?_)
  clear hV
  obtain ⟨_, hV, rfl, h⟩ := hr
  refine jW.aload_n (dx_Rd_takeRest 30 (e := (60, .aload_n 0, 1)) rfl) rfl rfl (pc' := 61) rfl ?_
  refine jW.callVe F (h (d + 0) _ hV) (dx_Rd_takeRest 31 (e := (61, .invokevirtual 95, 3)) rfl) can_Rd_addRest jw_950 jw_952 hV.cl6 rfl sel_Rd_addRest rfl rfl (Nat.le_of_ble_eq_true rfl) (pc' := 64) rfl (fun r σ hr => ?_)
  clear hV
  obtain ⟨_, hV, rfl, h⟩ := hr
  exact jW.vret (dx_Rd_takeRest 32 (e := (64, .return_, 1)) rfl) rfl ⟨_, hV, h⟩
def w_Rd_takeRest_0 (X : CX) (m : CS) (Φ : Option Value → CS → Prop) : Prop := ((vi m.1 67 = 0 → cE X 2 y_Rd_goesOnWithoutMarks [.ref (adr X 6)] m (ciP fun r1 m1 => ((r1 = 0 → cE X 1 y_Line_isBlank [.ref (adr X 5)] m1 (ciP fun r2 m2 => ((r2 = 0 → cE X 1 y_Rd_kindAtHand [.ref (adr X 6)] m2 (ciP fun r3 m3 => ((r3 = 2 → ∀ m4, m4 = cI m3 65 ((vi m3.1 65) - 1) → w_Rd_takeRest_56 X  m4 Φ) ∧ (¬ r3 = 2 → w_Rd_takeRest_56 X  m3 Φ)))) ∧ (¬ r2 = 0 → w_Rd_takeRest_56 X  m2 Φ)))) ∧ (¬ r1 = 0 → cE X 0 y_Rd_openAt [.ref (adr X 6), .int (vi m1.1 64)] m1 (cbP fun r5 m5 => cE X 4 y_Rd_addToParagraph [.ref (adr X 6), .ref (r5)] m5 (cvP fun m6 => Φ none m6)))))) ∧ (¬ vi m.1 67 = 0 → Φ none m))
theorem t_Rd_takeRest_0 {X : CX} {a0 : Array Value} (F : cF X a0) {d : Nat} {m : CS} {σ : jS} {Φ : Option Value → CS → Prop} (hV : CV X m σ) (h : w_Rd_takeRest_0 X m Φ) : jW X.1 X.2.1 jcl X.2.2.1 X.2.2.2.1 (d + 10) y_Rd_takeRest 0 [some (.ref (adr X 6))] [] σ (cP X Φ) := by
  unfold w_Rd_takeRest_0 at h
  refine jW.aload_n (dx_Rd_takeRest 0 (e := (0, .aload_n 0, 1)) rfl) rfl rfl (pc' := 1) rfl ?_
  refine jW.cg (κ := 6) (k := 7) F hV.s6 f_Rd_takeRest_1 (by decide) rfl (pc' := 4) rfl ?_
  refine jW.if_eq (dx_Rd_takeRest 2 (e := (4, .ifCond .eq 4, 3)) rfl) 8 (by decide) (pc' := 7) rfl (fun c => ?_) (fun c => ?_)
  · replace h := h.1 c
    refine jW.aload_n (dx_Rd_takeRest 4 (e := (8, .aload_n 0, 1)) rfl) rfl rfl (pc' := 9) rfl ?_
    refine jW.callVe F (h (d + 7) _ hV) (dx_Rd_takeRest 5 (e := (9, .invokevirtual 82, 3)) rfl) can_Rd_goesOnWithoutMarks jw_942 jw_944 hV.cl6 rfl sel_Rd_goesOnWithoutMarks rfl rfl (Nat.le_of_ble_eq_true rfl) (pc' := 12) rfl (fun r σ hr => ?_)
    clear hV
    obtain ⟨_, hV, _, rfl, h⟩ := hr
    refine jW.if_eq (dx_Rd_takeRest 6 (e := (12, .ifCond .eq 16, 3)) rfl) 28 (by decide) (pc' := 15) rfl (fun c => ?_) (fun c => ?_)
    · replace h := h.1 c
      refine jW.aload_n (dx_Rd_takeRest 14 (e := (28, .aload_n 0, 1)) rfl) rfl rfl (pc' := 29) rfl ?_
      refine jW.cg (κ := 6) (k := 2) F hV.s6 f_Rd_takeRest_29 (by decide) rfl (pc' := 32) rfl ?_
      refine jW.callVe F (h (d + 8) _ hV) (dx_Rd_takeRest 16 (e := (32, .invokevirtual 90, 3)) rfl) can_Line_isBlank jw_598 jw_599 hV.cl5 rfl jw_600 rfl rfl (Nat.le_of_ble_eq_true rfl) (pc' := 35) rfl (fun r σ hr => ?_)
      clear hV
      obtain ⟨_, hV, _, rfl, h⟩ := hr
      refine jW.if_ne (dx_Rd_takeRest 17 (e := (35, .ifCond .ne 21, 3)) rfl) 56 (by decide) (pc' := 38) rfl (fun c => ?_) (fun c => ?_)
      · replace h := h.2 c
        exact t_Rd_takeRest_56 F hV h
      · replace h := h.1 c
        refine jW.aload_n (dx_Rd_takeRest 18 (e := (38, .aload_n 0, 1)) rfl) rfl rfl (pc' := 39) rfl ?_
        refine jW.callVe F (h (d + 8) _ hV) (dx_Rd_takeRest 19 (e := (39, .invokevirtual 61, 3)) rfl) can_Rd_kindAtHand jw_644 jw_646 hV.cl6 rfl sel_Rd_kindAtHand rfl rfl (Nat.le_of_ble_eq_true rfl) (pc' := 42) rfl (fun r σ hr => ?_)
        clear hV
        obtain ⟨_, hV, _, rfl, h⟩ := hr
        refine jW.iconst (v := 2) (dx_Rd_takeRest 20 (e := (42, .iconst 2, 1)) rfl) (by decide) (pc' := 43) rfl ?_
        refine jW.icmp_ne (dx_Rd_takeRest 21 (e := (43, .if_icmp .ne 13, 3)) rfl) 56 (by decide) (pc' := 46) rfl (fun c => ?_) (fun c => ?_)
        · replace h := h.2 c
          exact t_Rd_takeRest_56 F hV h
        · replace h := h.1 c
          refine jW.aload_n (dx_Rd_takeRest 22 (e := (46, .aload_n 0, 1)) rfl) rfl rfl (pc' := 47) rfl ?_
          refine jW.dup (dx_Rd_takeRest 23 (e := (47, .dup, 1)) rfl) rfl (pc' := 48) rfl ?_
          refine jW.cg (κ := 6) (k := 5) F hV.s6 f_Rd_takeRest_48 (by decide) rfl (pc' := 51) rfl ?_
          refine jW.iconst (v := 1) (dx_Rd_takeRest 25 (e := (51, .iconst 1, 1)) rfl) (by decide) (pc' := 52) rfl ?_
          refine jW.isub (dx_Rd_takeRest 26 (e := (52, .isub, 1)) rfl) (pc' := 53) rfl ?_
          refine jW.cp6 (k := 5) F hV f_Rd_takeRest_53 (by decide) rfl rfl rfl (pc' := 56) rfl (fun σ hV => ?_)
          replace h := h _ rfl
          exact t_Rd_takeRest_56 F hV h
    · replace h := h.2 c
      refine jW.aload_n (dx_Rd_takeRest 7 (e := (15, .aload_n 0, 1)) rfl) rfl rfl (pc' := 16) rfl ?_
      refine jW.aload_n (dx_Rd_takeRest 8 (e := (16, .aload_n 0, 1)) rfl) rfl rfl (pc' := 17) rfl ?_
      refine jW.aload_n (dx_Rd_takeRest 9 (e := (17, .aload_n 0, 1)) rfl) rfl rfl (pc' := 18) rfl ?_
      refine jW.cg (κ := 6) (k := 4) F hV.s6 f_Rd_takeRest_18 (by decide) rfl (pc' := 21) rfl ?_
      refine jW.callVe F (h (d + 9) _ hV) (dx_Rd_takeRest 11 (e := (21, .invokevirtual 53, 3)) rfl) can_Rd_openAt jw_570 jw_572 hV.cl6 rfl sel_Rd_openAt rfl rfl (Nat.le_of_ble_eq_true rfl) (pc' := 24) rfl (fun r σ hr => ?_)
      clear hV
      obtain ⟨_, hV, _, rfl, h⟩ := hr
      refine jW.callVe F (h (d + 5) _ hV) (dx_Rd_takeRest 12 (e := (24, .invokevirtual 86, 3)) rfl) can_Rd_addToParagraph jw_946 jw_948 hV.cl6 rfl sel_Rd_addToParagraph rfl rfl (Nat.le_of_ble_eq_true rfl) (pc' := 27) rfl (fun r σ hr => ?_)
      clear hV
      obtain ⟨_, hV, rfl, h⟩ := hr
      exact jW.vret (dx_Rd_takeRest 13 (e := (27, .return_, 1)) rfl) rfl ⟨_, hV, h⟩
  · replace h := h.2 c
    exact jW.vret (dx_Rd_takeRest 3 (e := (7, .return_, 1)) rfl) rfl ⟨_, hV, h⟩
theorem g_Rd_takeRest {X : CX} {a0 : Array Value} (F : cF X a0) {m : CS} {Φ : Option Value → CS → Prop} (he : w_Rd_takeRest_0 X m Φ) : cE X 10 y_Rd_takeRest [.ref (adr X 6)] m Φ := by
  intro d σ hV
  refine jE.of (by decide) (by simp [Value.category]) (Nat.le_of_ble_eq_true rfl) rfl ?_
  exact t_Rd_takeRest_0 F hV he
def w_Rd_goesOnWithoutMarks_41 (X : CX) (s0 : Int32) (m : CS) (Φ : Option Value → CS → Prop) : Prop := (mZ (s0) ∧ Φ (some (.int (s0))) m)
theorem t_Rd_goesOnWithoutMarks_41 {X : CX} {a0 : Array Value} (F : cF X a0) {d : Nat} {s0 : Int32} {m : CS} {σ : jS} {Φ : Option Value → CS → Prop} (hV : CV X m σ) (h : w_Rd_goesOnWithoutMarks_41 X s0 m Φ) : jW X.1 X.2.1 jcl X.2.2.1 X.2.2.2.1 (d + 2) y_Rd_goesOnWithoutMarks 41 [some (.ref (adr X 6))] [.int s0] σ (cP X Φ) := by
  unfold w_Rd_goesOnWithoutMarks_41 at h
  exact jW.zret (dx_Rd_goesOnWithoutMarks 19 (e := (41, .ireturn, 1)) rfl) rfl h.1.n ⟨_, hV, h.2⟩
def w_Rd_goesOnWithoutMarks_40 (X : CX) (m : CS) (Φ : Option Value → CS → Prop) : Prop := w_Rd_goesOnWithoutMarks_41 X (0) m Φ
theorem t_Rd_goesOnWithoutMarks_40 {X : CX} {a0 : Array Value} (F : cF X a0) {d : Nat} {m : CS} {σ : jS} {Φ : Option Value → CS → Prop} (hV : CV X m σ) (h : w_Rd_goesOnWithoutMarks_40 X m Φ) : jW X.1 X.2.1 jcl X.2.2.1 X.2.2.2.1 (d + 2) y_Rd_goesOnWithoutMarks 40 [some (.ref (adr X 6))] [] σ (cP X Φ) := by
  unfold w_Rd_goesOnWithoutMarks_40 at h
  refine jW.iconst (v := 0) (dx_Rd_goesOnWithoutMarks 18 (e := (40, .iconst 0, 1)) rfl) (by decide) (pc' := 41) rfl ?_
  exact t_Rd_goesOnWithoutMarks_41 F hV h
def w_Rd_goesOnWithoutMarks_0 (X : CX) (m : CS) (Φ : Option Value → CS → Prop) : Prop := ((vi m.1 64 ≤ vi m.1 65 → w_Rd_goesOnWithoutMarks_40 X  m Φ) ∧ (¬ vi m.1 64 ≤ vi m.1 65 → cE X 1 y_Line_isBlank [.ref (adr X 5)] m (ciP fun r1 m1 => ((r1 = 0 → cE X 0 y_Rd_openAt [.ref (adr X 6), .int (vi m1.1 64)] m1 (cbP fun r2 m2 => (∃ i1, isB m2 (r2) i1 ∧ ((vb m2.1 i1 0 = 4 → w_Rd_goesOnWithoutMarks_41 X (1) m2 Φ) ∧ (¬ vb m2.1 i1 0 = 4 → w_Rd_goesOnWithoutMarks_40 X  m2 Φ))))) ∧ (¬ r1 = 0 → w_Rd_goesOnWithoutMarks_40 X  m1 Φ)))))
theorem t_Rd_goesOnWithoutMarks_0 {X : CX} {a0 : Array Value} (F : cF X a0) {d : Nat} {m : CS} {σ : jS} {Φ : Option Value → CS → Prop} (hV : CV X m σ) (h : w_Rd_goesOnWithoutMarks_0 X m Φ) : jW X.1 X.2.1 jcl X.2.2.1 X.2.2.2.1 (d + 2) y_Rd_goesOnWithoutMarks 0 [some (.ref (adr X 6))] [] σ (cP X Φ) := by
  unfold w_Rd_goesOnWithoutMarks_0 at h
  refine jW.aload_n (dx_Rd_goesOnWithoutMarks 0 (e := (0, .aload_n 0, 1)) rfl) rfl rfl (pc' := 1) rfl ?_
  refine jW.cg (κ := 6) (k := 5) F hV.s6 f_Rd_goesOnWithoutMarks_1 (by decide) rfl (pc' := 4) rfl ?_
  refine jW.aload_n (dx_Rd_goesOnWithoutMarks 2 (e := (4, .aload_n 0, 1)) rfl) rfl rfl (pc' := 5) rfl ?_
  refine jW.cg (κ := 6) (k := 4) F hV.s6 f_Rd_goesOnWithoutMarks_5 (by decide) rfl (pc' := 8) rfl ?_
  refine jW.icmp_ge (dx_Rd_goesOnWithoutMarks 4 (e := (8, .if_icmp .ge 32, 3)) rfl) 40 (by decide) (pc' := 11) rfl (fun c => ?_) (fun c => ?_)
  · replace h := h.1 c
    exact t_Rd_goesOnWithoutMarks_40 F hV h
  · replace h := h.2 c
    refine jW.aload_n (dx_Rd_goesOnWithoutMarks 5 (e := (11, .aload_n 0, 1)) rfl) rfl rfl (pc' := 12) rfl ?_
    refine jW.cg (κ := 6) (k := 2) F hV.s6 f_Rd_goesOnWithoutMarks_12 (by decide) rfl (pc' := 15) rfl ?_
    refine jW.callVe F (h (d + 0) _ hV) (dx_Rd_goesOnWithoutMarks 7 (e := (15, .invokevirtual 90, 3)) rfl) can_Line_isBlank jw_598 jw_599 hV.cl5 rfl jw_600 rfl rfl (Nat.le_of_ble_eq_true rfl) (pc' := 18) rfl (fun r σ hr => ?_)
    clear hV
    obtain ⟨_, hV, _, rfl, h⟩ := hr
    refine jW.if_ne (dx_Rd_goesOnWithoutMarks 8 (e := (18, .ifCond .ne 22, 3)) rfl) 40 (by decide) (pc' := 21) rfl (fun c => ?_) (fun c => ?_)
    · replace h := h.2 c
      exact t_Rd_goesOnWithoutMarks_40 F hV h
    · replace h := h.1 c
      refine jW.aload_n (dx_Rd_goesOnWithoutMarks 9 (e := (21, .aload_n 0, 1)) rfl) rfl rfl (pc' := 22) rfl ?_
      refine jW.aload_n (dx_Rd_goesOnWithoutMarks 10 (e := (22, .aload_n 0, 1)) rfl) rfl rfl (pc' := 23) rfl ?_
      refine jW.cg (κ := 6) (k := 4) F hV.s6 f_Rd_goesOnWithoutMarks_23 (by decide) rfl (pc' := 26) rfl ?_
      refine jW.callVe F (h (d + 1) _ hV) (dx_Rd_goesOnWithoutMarks 12 (e := (26, .invokevirtual 53, 3)) rfl) can_Rd_openAt jw_570 jw_572 hV.cl6 rfl sel_Rd_openAt rfl rfl (Nat.le_of_ble_eq_true rfl) (pc' := 29) rfl (fun r σ hr => ?_)
      clear hV
      obtain ⟨_, hV, _, rfl, h⟩ := hr
      obtain ⟨i1, hi, h⟩ := h
      refine jW.cgb F hV hi f_Rd_goesOnWithoutMarks_29 (by decide) (pc' := 32) rfl ?_
      refine jW.iconst (v := 4) (dx_Rd_goesOnWithoutMarks 14 (e := (32, .iconst 4, 1)) rfl) (by decide) (pc' := 33) rfl ?_
      refine jW.icmp_ne (dx_Rd_goesOnWithoutMarks 15 (e := (33, .if_icmp .ne 7, 3)) rfl) 40 (by decide) (pc' := 36) rfl (fun c => ?_) (fun c => ?_)
      · replace h := h.2 c
        exact t_Rd_goesOnWithoutMarks_40 F hV h
      · replace h := h.1 c
        refine jW.iconst (v := 1) (dx_Rd_goesOnWithoutMarks 16 (e := (36, .iconst 1, 1)) rfl) (by decide) (pc' := 37) rfl ?_
        refine jW.goto (dx_Rd_goesOnWithoutMarks 17 (e := (37, .goto 4, 3)) rfl) 41 (by decide) ?_
        exact t_Rd_goesOnWithoutMarks_41 F hV h
theorem g_Rd_goesOnWithoutMarks {X : CX} {a0 : Array Value} (F : cF X a0) {m : CS} {Φ : Option Value → CS → Prop} (he : w_Rd_goesOnWithoutMarks_0 X m Φ) : cE X 2 y_Rd_goesOnWithoutMarks [.ref (adr X 6)] m Φ := by
  intro d σ hV
  refine jE.of (by decide) (by simp [Value.category]) (Nat.le_of_ble_eq_true rfl) rfl ?_
  exact t_Rd_goesOnWithoutMarks_0 F hV he
def w_Rd_addToParagraph_19 (X : CX) (b1 : Nat) (m : CS) (Φ : Option Value → CS → Prop) : Prop := cE X 0 y_Line_start [.ref (adr X 5)] m (ciP fun r1 m1 => cE X 1 y_Line_size [.ref (adr X 5)] m1 (ciP fun r2 m2 => cE X 3 y_Rd_copy [.ref (adr X 6), .int (r1), .int (r2)] m2 (cvP fun m3 => cE X 0 y_Row_size [.ref (adr X 10)] m3 (ciP fun r4 m4 => (∃ i1, isB m4 (b1) i1 ∧ (∃ i2, isB m4 (b1) i2 ∧ ∀ m5, m5 = cB m4 i2 6 (r4 - (vb m4.1 i1 5)) → (∃ i3, isB m5 (b1) i3 ∧ ∀ m6, m6 = cB m5 i3 10 (vi m5.1 66) → Φ none m6)))))))
theorem t_Rd_addToParagraph_19 {X : CX} {a0 : Array Value} (F : cF X a0) {d : Nat} {b1 : Nat} {m : CS} {σ : jS} {Φ : Option Value → CS → Prop} (hV : CV X m σ) (h : w_Rd_addToParagraph_19 X b1 m Φ) : jW X.1 X.2.1 jcl X.2.2.1 X.2.2.2.1 (d + 4) y_Rd_addToParagraph 19 [some (.ref (adr X 6)), some (.ref b1)] [] σ (cP X Φ) := by
  unfold w_Rd_addToParagraph_19 at h
  refine jW.aload_n (dx_Rd_addToParagraph 8 (e := (19, .aload_n 0, 1)) rfl) rfl rfl (pc' := 20) rfl ?_
  refine jW.aload_n (dx_Rd_addToParagraph 9 (e := (20, .aload_n 0, 1)) rfl) rfl rfl (pc' := 21) rfl ?_
  refine jW.cg (κ := 6) (k := 2) F hV.s6 f_Rd_addToParagraph_21 (by decide) rfl (pc' := 24) rfl ?_
  refine jW.callVe F (h (d + 3) _ hV) (dx_Rd_addToParagraph 11 (e := (24, .invokevirtual 209, 3)) rfl) can_Line_start jw_841 jw_591 hV.cl5 rfl jw_592 rfl rfl (Nat.le_of_ble_eq_true rfl) (pc' := 27) rfl (fun r σ hr => ?_)
  clear hV
  obtain ⟨_, hV, _, rfl, h⟩ := hr
  refine jW.aload_n (dx_Rd_addToParagraph 12 (e := (27, .aload_n 0, 1)) rfl) rfl rfl (pc' := 28) rfl ?_
  refine jW.cg (κ := 6) (k := 2) F hV.s6 f_Rd_addToParagraph_28 (by decide) rfl (pc' := 31) rfl ?_
  refine jW.callVe F (h (d + 2) _ hV) (dx_Rd_addToParagraph 14 (e := (31, .invokevirtual 216, 3)) rfl) can_Line_size jw_846 jw_847 hV.cl5 rfl jw_848 rfl rfl (Nat.le_of_ble_eq_true rfl) (pc' := 34) rfl (fun r σ hr => ?_)
  clear hV
  obtain ⟨_, hV, _, rfl, h⟩ := hr
  refine jW.callVe F (h (d + 0) _ hV) (dx_Rd_addToParagraph 15 (e := (34, .invokevirtual 225, 3)) rfl) can_Rd_copy jw_858 jw_860 hV.cl6 rfl sel_Rd_copy rfl rfl (Nat.le_of_ble_eq_true rfl) (pc' := 37) rfl (fun r σ hr => ?_)
  clear hV
  obtain ⟨_, hV, rfl, h⟩ := hr
  refine jW.aload_n (dx_Rd_addToParagraph 16 (e := (37, .aload_n 1, 1)) rfl) rfl rfl (pc' := 38) rfl ?_
  refine jW.aload_n (dx_Rd_addToParagraph 17 (e := (38, .aload_n 0, 1)) rfl) rfl rfl (pc' := 39) rfl ?_
  refine jW.cg (κ := 6) (k := 0) F hV.s6 f_Rd_addToParagraph_39 (by decide) rfl (pc' := 42) rfl ?_
  refine jW.cg (κ := 2) (k := 2) F hV.s2 f_Rd_addToParagraph_42 (by decide) rfl (pc' := 45) rfl ?_
  refine jW.callVe F (h (d + 3) _ hV) (dx_Rd_addToParagraph 20 (e := (45, .invokevirtual 233, 3)) rfl) can_Row_size jw_863 jw_372 (hV.clr (κ := 10) (by unfold isR; decide)) rfl jw_373 rfl rfl (Nat.le_of_ble_eq_true rfl) (pc' := 48) rfl (fun r σ hr => ?_)
  clear hV
  obtain ⟨_, hV, _, rfl, h⟩ := hr
  refine jW.aload_n (dx_Rd_addToParagraph 21 (e := (48, .aload_n 1, 1)) rfl) rfl rfl (pc' := 49) rfl ?_
  obtain ⟨i1, hi, h⟩ := h
  refine jW.cgb F hV hi f_Rd_addToParagraph_49 (by decide) (pc' := 52) rfl ?_
  refine jW.isub (dx_Rd_addToParagraph 23 (e := (52, .isub, 1)) rfl) (pc' := 53) rfl ?_
  obtain ⟨i2, hi, h⟩ := h
  refine jW.cpb F hV hi f_Rd_addToParagraph_53 (by decide) rfl rfl rfl (pc' := 56) rfl (fun σ hV => ?_)
  replace h := h _ rfl
  refine jW.aload_n (dx_Rd_addToParagraph 25 (e := (56, .aload_n 1, 1)) rfl) rfl rfl (pc' := 57) rfl ?_
  refine jW.aload_n (dx_Rd_addToParagraph 26 (e := (57, .aload_n 0, 1)) rfl) rfl rfl (pc' := 58) rfl ?_
  refine jW.cg (κ := 6) (k := 6) F hV.s6 f_Rd_addToParagraph_58 (by decide) rfl (pc' := 61) rfl ?_
  obtain ⟨i3, hi, h⟩ := h
  refine jW.cpb F hV hi f_Rd_addToParagraph_61 (by decide) rfl rfl rfl (pc' := 64) rfl (fun σ hV => ?_)
  replace h := h _ rfl
  exact jW.vret (dx_Rd_addToParagraph 29 (e := (64, .return_, 1)) rfl) rfl ⟨_, hV, h⟩
def w_Rd_addToParagraph_0 (X : CX) (b1 : Nat) (m : CS) (Φ : Option Value → CS → Prop) : Prop := (∃ i1, isB m (b1) i1 ∧ ((vb m.1 i1 6 ≤ 0 → w_Rd_addToParagraph_19 X (b1) m Φ) ∧ (¬ vb m.1 i1 6 ≤ 0 → cE X 2 y_Row_add [.ref (adr X 10), .int (10)] m (cvP fun m1 => w_Rd_addToParagraph_19 X (b1) m1 Φ))))
theorem t_Rd_addToParagraph_0 {X : CX} {a0 : Array Value} (F : cF X a0) {d : Nat} {b1 : Nat} {m : CS} {σ : jS} {Φ : Option Value → CS → Prop} (hV : CV X m σ) (h : w_Rd_addToParagraph_0 X b1 m Φ) : jW X.1 X.2.1 jcl X.2.2.1 X.2.2.2.1 (d + 4) y_Rd_addToParagraph 0 [some (.ref (adr X 6)), some (.ref b1)] [] σ (cP X Φ) := by
  unfold w_Rd_addToParagraph_0 at h
  refine jW.aload_n (dx_Rd_addToParagraph 0 (e := (0, .aload_n 1, 1)) rfl) rfl rfl (pc' := 1) rfl ?_
  obtain ⟨i1, hi, h⟩ := h
  refine jW.cgb F hV hi f_Rd_addToParagraph_1 (by decide) (pc' := 4) rfl ?_
  refine jW.if_le (dx_Rd_addToParagraph 2 (e := (4, .ifCond .le 15, 3)) rfl) 19 (by decide) (pc' := 7) rfl (fun c => ?_) (fun c => ?_)
  · replace h := h.1 c
    exact t_Rd_addToParagraph_19 F hV h
  · replace h := h.2 c
    refine jW.aload_n (dx_Rd_addToParagraph 3 (e := (7, .aload_n 0, 1)) rfl) rfl rfl (pc' := 8) rfl ?_
    refine jW.cg (κ := 6) (k := 0) F hV.s6 f_Rd_addToParagraph_8 (by decide) rfl (pc' := 11) rfl ?_
    refine jW.cg (κ := 2) (k := 2) F hV.s2 f_Rd_addToParagraph_11 (by decide) rfl (pc' := 14) rfl ?_
    refine jW.bipush (v := 10) (dx_Rd_addToParagraph 6 (e := (14, .bipush 10, 2)) rfl) (by decide) (pc' := 16) rfl ?_
    refine jW.callVe F (h (d + 1) _ hV) (dx_Rd_addToParagraph 7 (e := (16, .invokevirtual 251, 3)) rfl) can_Row_add jw_862 jw_376 (hV.clr (κ := 10) (by unfold isR; decide)) rfl jw_377 rfl rfl (Nat.le_of_ble_eq_true rfl) (pc' := 19) rfl (fun r σ hr => ?_)
    clear hV
    obtain ⟨_, hV, rfl, h⟩ := hr
    exact t_Rd_addToParagraph_19 F hV h
theorem g_Rd_addToParagraph {X : CX} {a0 : Array Value} (F : cF X a0) {b1 : Nat} {m : CS} {Φ : Option Value → CS → Prop} (he : w_Rd_addToParagraph_0 X b1 m Φ) : cE X 4 y_Rd_addToParagraph [.ref (adr X 6), .ref b1] m Φ := by
  intro d σ hV
  refine jE.of (by decide) (by simp [Value.category]) (Nat.le_of_ble_eq_true rfl) rfl ?_
  exact t_Rd_addToParagraph_0 F hV he
def w_Rd_addRest_61 (X : CX) (b1 : Nat) (m : CS) (Φ : Option Value → CS → Prop) : Prop := Φ none m
theorem t_Rd_addRest_61 {X : CX} {a0 : Array Value} (F : cF X a0) {d : Nat} {b1 : Nat} {m : CS} {σ : jS} {Φ : Option Value → CS → Prop} (hV : CV X m σ) (h : w_Rd_addRest_61 X b1 m Φ) : jW X.1 X.2.1 jcl X.2.2.1 X.2.2.2.1 (d + 9) y_Rd_addRest 61 [some (.ref (adr X 6)), some (.ref b1)] [] σ (cP X Φ) := by
  unfold w_Rd_addRest_61 at h
  exact jW.vret (dx_Rd_addRest 30 (e := (61, .return_, 1)) rfl) rfl ⟨_, hV, h⟩
def w_Rd_addRest_0 (X : CX) (m : CS) (Φ : Option Value → CS → Prop) : Prop := cE X 0 y_Rd_openAt [.ref (adr X 6), .int (vi m.1 65)] m (cbP fun r1 m1 => (∃ i1, isB m1 (r1) i1 ∧ ((vb m1.1 i1 0 = 7 → cE X 4 y_Rd_addToCode [.ref (adr X 6), .ref (r1)] m1 (cvP fun m6 => w_Rd_addRest_61 X (r1) m6 Φ)) ∧ (¬ vb m1.1 i1 0 = 7 → (∃ i2, isB m1 (r1) i2 ∧ ((vb m1.1 i2 0 = 4 → cE X 4 y_Rd_addToParagraph [.ref (adr X 6), .ref (r1)] m1 (cvP fun m5 => w_Rd_addRest_61 X (r1) m5 Φ)) ∧ (¬ vb m1.1 i2 0 = 4 → cE X 1 y_Line_isBlank [.ref (adr X 5)] m1 (ciP fun r2 m2 => ((r2 = 0 → cE X 8 y_Rd_push [.ref (adr X 6), .int (4)] m2 (cbP fun r3 m3 => cE X 4 y_Rd_addToParagraph [.ref (adr X 6), .ref (r3)] m3 (cvP fun m4 => w_Rd_addRest_61 X (r1) m4 Φ))) ∧ (¬ r2 = 0 → w_Rd_addRest_61 X (r1) m2 Φ))))))))))
theorem t_Rd_addRest_0 {X : CX} {a0 : Array Value} (F : cF X a0) {d : Nat} {o1 : Option Value} {m : CS} {σ : jS} {Φ : Option Value → CS → Prop} (hV : CV X m σ) (h : w_Rd_addRest_0 X m Φ) : jW X.1 X.2.1 jcl X.2.2.1 X.2.2.2.1 (d + 9) y_Rd_addRest 0 [some (.ref (adr X 6)), o1] [] σ (cP X Φ) := by
  unfold w_Rd_addRest_0 at h
  refine jW.aload_n (dx_Rd_addRest 0 (e := (0, .aload_n 0, 1)) rfl) rfl rfl (pc' := 1) rfl ?_
  refine jW.aload_n (dx_Rd_addRest 1 (e := (1, .aload_n 0, 1)) rfl) rfl rfl (pc' := 2) rfl ?_
  refine jW.cg (κ := 6) (k := 5) F hV.s6 f_Rd_addRest_2 (by decide) rfl (pc' := 5) rfl ?_
  refine jW.callVe F (h (d + 8) _ hV) (dx_Rd_addRest 3 (e := (5, .invokevirtual 53, 3)) rfl) can_Rd_openAt jw_570 jw_572 hV.cl6 rfl sel_Rd_openAt rfl rfl (Nat.le_of_ble_eq_true rfl) (pc' := 8) rfl (fun r σ hr => ?_)
  clear hV
  obtain ⟨_, hV, _, rfl, h⟩ := hr
  refine jW.astore_n (dx_Rd_addRest 4 (e := (8, .astore_n 1, 1)) rfl) rfl (by decide) rfl (pc' := 9) rfl ?_
  refine jW.aload_n (dx_Rd_addRest 5 (e := (9, .aload_n 1, 1)) rfl) rfl rfl (pc' := 10) rfl ?_
  obtain ⟨i1, hi, h⟩ := h
  refine jW.cgb F hV hi f_Rd_addRest_10 (by decide) (pc' := 13) rfl ?_
  refine jW.bipush (v := 7) (dx_Rd_addRest 7 (e := (13, .bipush 7, 2)) rfl) (by decide) (pc' := 15) rfl ?_
  refine jW.icmp_ne (dx_Rd_addRest 8 (e := (15, .if_icmp .ne 11, 3)) rfl) 26 (by decide) (pc' := 18) rfl (fun c => ?_) (fun c => ?_)
  · replace h := h.2 c
    refine jW.aload_n (dx_Rd_addRest 13 (e := (26, .aload_n 1, 1)) rfl) rfl rfl (pc' := 27) rfl ?_
    obtain ⟨i2, hi, h⟩ := h
    refine jW.cgb F hV hi f_Rd_addRest_27 (by decide) (pc' := 30) rfl ?_
    refine jW.iconst (v := 4) (dx_Rd_addRest 15 (e := (30, .iconst 4, 1)) rfl) (by decide) (pc' := 31) rfl ?_
    refine jW.icmp_ne (dx_Rd_addRest 16 (e := (31, .if_icmp .ne 11, 3)) rfl) 42 (by decide) (pc' := 34) rfl (fun c => ?_) (fun c => ?_)
    · replace h := h.2 c
      refine jW.aload_n (dx_Rd_addRest 21 (e := (42, .aload_n 0, 1)) rfl) rfl rfl (pc' := 43) rfl ?_
      refine jW.cg (κ := 6) (k := 2) F hV.s6 f_Rd_addRest_43 (by decide) rfl (pc' := 46) rfl ?_
      refine jW.callVe F (h (d + 7) _ hV) (dx_Rd_addRest 23 (e := (46, .invokevirtual 90, 3)) rfl) can_Line_isBlank jw_598 jw_599 hV.cl5 rfl jw_600 rfl rfl (Nat.le_of_ble_eq_true rfl) (pc' := 49) rfl (fun r σ hr => ?_)
      clear hV
      obtain ⟨_, hV, _, rfl, h⟩ := hr
      refine jW.if_ne (dx_Rd_addRest 24 (e := (49, .ifCond .ne 12, 3)) rfl) 61 (by decide) (pc' := 52) rfl (fun c => ?_) (fun c => ?_)
      · replace h := h.2 c
        exact t_Rd_addRest_61 F hV h
      · replace h := h.1 c
        refine jW.aload_n (dx_Rd_addRest 25 (e := (52, .aload_n 0, 1)) rfl) rfl rfl (pc' := 53) rfl ?_
        refine jW.aload_n (dx_Rd_addRest 26 (e := (53, .aload_n 0, 1)) rfl) rfl rfl (pc' := 54) rfl ?_
        refine jW.iconst (v := 4) (dx_Rd_addRest 27 (e := (54, .iconst 4, 1)) rfl) (by decide) (pc' := 55) rfl ?_
        refine jW.callVe F (h (d + 0) _ hV) (dx_Rd_addRest 28 (e := (55, .invokevirtual 197, 3)) rfl) can_Rd_push jw_821 jw_823 hV.cl6 rfl sel_Rd_push rfl rfl (Nat.le_of_ble_eq_true rfl) (pc' := 58) rfl (fun r σ hr => ?_)
        clear hV
        obtain ⟨_, hV, _, rfl, h⟩ := hr
        refine jW.callVe F (h (d + 4) _ hV) (dx_Rd_addRest 29 (e := (58, .invokevirtual 86, 3)) rfl) can_Rd_addToParagraph jw_946 jw_948 hV.cl6 rfl sel_Rd_addToParagraph rfl rfl (Nat.le_of_ble_eq_true rfl) (pc' := 61) rfl (fun r σ hr => ?_)
        clear hV
        obtain ⟨_, hV, rfl, h⟩ := hr
        exact t_Rd_addRest_61 F hV h
    · replace h := h.1 c
      refine jW.aload_n (dx_Rd_addRest 17 (e := (34, .aload_n 0, 1)) rfl) rfl rfl (pc' := 35) rfl ?_
      refine jW.aload_n (dx_Rd_addRest 18 (e := (35, .aload_n 1, 1)) rfl) rfl rfl (pc' := 36) rfl ?_
      refine jW.callVe F (h (d + 4) _ hV) (dx_Rd_addRest 19 (e := (36, .invokevirtual 86, 3)) rfl) can_Rd_addToParagraph jw_946 jw_948 hV.cl6 rfl sel_Rd_addToParagraph rfl rfl (Nat.le_of_ble_eq_true rfl) (pc' := 39) rfl (fun r σ hr => ?_)
      clear hV
      obtain ⟨_, hV, rfl, h⟩ := hr
      refine jW.goto (dx_Rd_addRest 20 (e := (39, .goto 22, 3)) rfl) 61 (by decide) ?_
      exact t_Rd_addRest_61 F hV h
  · replace h := h.1 c
    refine jW.aload_n (dx_Rd_addRest 9 (e := (18, .aload_n 0, 1)) rfl) rfl rfl (pc' := 19) rfl ?_
    refine jW.aload_n (dx_Rd_addRest 10 (e := (19, .aload_n 1, 1)) rfl) rfl rfl (pc' := 20) rfl ?_
    refine jW.callVe F (h (d + 4) _ hV) (dx_Rd_addRest 11 (e := (20, .invokevirtual 248, 3)) rfl) can_Rd_addToCode jw_954 jw_956 hV.cl6 rfl sel_Rd_addToCode rfl rfl (Nat.le_of_ble_eq_true rfl) (pc' := 23) rfl (fun r σ hr => ?_)
    clear hV
    obtain ⟨_, hV, rfl, h⟩ := hr
    refine jW.goto (dx_Rd_addRest 12 (e := (23, .goto 38, 3)) rfl) 61 (by decide) ?_
    exact t_Rd_addRest_61 F hV h
theorem g_Rd_addRest {X : CX} {a0 : Array Value} (F : cF X a0) {m : CS} {Φ : Option Value → CS → Prop} (he : w_Rd_addRest_0 X m Φ) : cE X 9 y_Rd_addRest [.ref (adr X 6)] m Φ := by
  intro d σ hV
  refine jE.of (by decide) (by simp [Value.category]) (Nat.le_of_ble_eq_true rfl) rfl ?_
  exact t_Rd_addRest_0 F hV he
def w_Rd_addToCode_74 (X : CX) (b1 : Nat) (m : CS) (Φ : Option Value → CS → Prop) : Prop := Φ none m
theorem t_Rd_addToCode_74 {X : CX} {a0 : Array Value} (F : cF X a0) {d : Nat} {b1 : Nat} {m : CS} {σ : jS} {Φ : Option Value → CS → Prop} (hV : CV X m σ) (h : w_Rd_addToCode_74 X b1 m Φ) : jW X.1 X.2.1 jcl X.2.2.1 X.2.2.2.1 (d + 4) y_Rd_addToCode 74 [some (.ref (adr X 6)), some (.ref b1)] [] σ (cP X Φ) := by
  unfold w_Rd_addToCode_74 at h
  exact jW.vret (dx_Rd_addToCode 33 (e := (74, .return_, 1)) rfl) rfl ⟨_, hV, h⟩
def w_Rd_addToCode_47 (X : CX) (b1 : Nat) (m : CS) (Φ : Option Value → CS → Prop) : Prop := cE X 0 y_Row_size [.ref (adr X 10)] m (ciP fun r1 m1 => (∃ i1, isB m1 (b1) i1 ∧ (∃ i2, isB m1 (b1) i2 ∧ ∀ m2, m2 = cB m1 i2 6 (r1 - (vb m1.1 i1 5)) → (∃ i3, isB m2 (b1) i3 ∧ ∀ m3, m3 = cB m2 i3 10 (vi m2.1 66) → w_Rd_addToCode_74 X (b1) m3 Φ))))
theorem t_Rd_addToCode_47 {X : CX} {a0 : Array Value} (F : cF X a0) {d : Nat} {b1 : Nat} {m : CS} {σ : jS} {Φ : Option Value → CS → Prop} (hV : CV X m σ) (h : w_Rd_addToCode_47 X b1 m Φ) : jW X.1 X.2.1 jcl X.2.2.1 X.2.2.2.1 (d + 4) y_Rd_addToCode 47 [some (.ref (adr X 6)), some (.ref b1)] [] σ (cP X Φ) := by
  unfold w_Rd_addToCode_47 at h
  refine jW.aload_n (dx_Rd_addToCode 20 (e := (47, .aload_n 1, 1)) rfl) rfl rfl (pc' := 48) rfl ?_
  refine jW.aload_n (dx_Rd_addToCode 21 (e := (48, .aload_n 0, 1)) rfl) rfl rfl (pc' := 49) rfl ?_
  refine jW.cg (κ := 6) (k := 0) F hV.s6 f_Rd_addToCode_49 (by decide) rfl (pc' := 52) rfl ?_
  refine jW.cg (κ := 2) (k := 2) F hV.s2 f_Rd_addToCode_52 (by decide) rfl (pc' := 55) rfl ?_
  refine jW.callVe F (h (d + 3) _ hV) (dx_Rd_addToCode 24 (e := (55, .invokevirtual 233, 3)) rfl) can_Row_size jw_863 jw_372 (hV.clr (κ := 10) (by unfold isR; decide)) rfl jw_373 rfl rfl (Nat.le_of_ble_eq_true rfl) (pc' := 58) rfl (fun r σ hr => ?_)
  clear hV
  obtain ⟨_, hV, _, rfl, h⟩ := hr
  refine jW.aload_n (dx_Rd_addToCode 25 (e := (58, .aload_n 1, 1)) rfl) rfl rfl (pc' := 59) rfl ?_
  obtain ⟨i1, hi, h⟩ := h
  refine jW.cgb F hV hi f_Rd_addToCode_59 (by decide) (pc' := 62) rfl ?_
  refine jW.isub (dx_Rd_addToCode 27 (e := (62, .isub, 1)) rfl) (pc' := 63) rfl ?_
  obtain ⟨i2, hi, h⟩ := h
  refine jW.cpb F hV hi f_Rd_addToCode_63 (by decide) rfl rfl rfl (pc' := 66) rfl (fun σ hV => ?_)
  replace h := h _ rfl
  refine jW.aload_n (dx_Rd_addToCode 29 (e := (66, .aload_n 1, 1)) rfl) rfl rfl (pc' := 67) rfl ?_
  refine jW.aload_n (dx_Rd_addToCode 30 (e := (67, .aload_n 0, 1)) rfl) rfl rfl (pc' := 68) rfl ?_
  refine jW.cg (κ := 6) (k := 6) F hV.s6 f_Rd_addToCode_68 (by decide) rfl (pc' := 71) rfl ?_
  obtain ⟨i3, hi, h⟩ := h
  refine jW.cpb F hV hi f_Rd_addToCode_71 (by decide) rfl rfl rfl (pc' := 74) rfl (fun σ hV => ?_)
  replace h := h _ rfl
  exact t_Rd_addToCode_74 F hV h
def w_Rd_addToCode_0 (X : CX) (b1 : Nat) (m : CS) (Φ : Option Value → CS → Prop) : Prop := cE X 0 y_Line_place [.ref (adr X 5)] m (ciP fun r1 m1 => cE X 1 y_Line_size [.ref (adr X 5)] m1 (ciP fun r2 m2 => cE X 3 y_Rd_copy [.ref (adr X 6), .int (r1), .int (r2)] m2 (cvP fun m3 => cE X 2 y_Row_add [.ref (adr X 10), .int (10)] m3 (cvP fun m4 => (∃ i1, isB m4 (b1) i1 ∧ ((vb m4.1 i1 12 = 0 → cE X 1 y_Line_isBlank [.ref (adr X 5)] m4 (ciP fun r5 m5 => ((r5 = 0 → w_Rd_addToCode_47 X (b1) m5 Φ) ∧ (¬ r5 = 0 → w_Rd_addToCode_74 X (b1) m5 Φ)))) ∧ (¬ vb m4.1 i1 12 = 0 → w_Rd_addToCode_47 X (b1) m4 Φ)))))))
theorem t_Rd_addToCode_0 {X : CX} {a0 : Array Value} (F : cF X a0) {d : Nat} {b1 : Nat} {m : CS} {σ : jS} {Φ : Option Value → CS → Prop} (hV : CV X m σ) (h : w_Rd_addToCode_0 X b1 m Φ) : jW X.1 X.2.1 jcl X.2.2.1 X.2.2.2.1 (d + 4) y_Rd_addToCode 0 [some (.ref (adr X 6)), some (.ref b1)] [] σ (cP X Φ) := by
  unfold w_Rd_addToCode_0 at h
  refine jW.aload_n (dx_Rd_addToCode 0 (e := (0, .aload_n 0, 1)) rfl) rfl rfl (pc' := 1) rfl ?_
  refine jW.aload_n (dx_Rd_addToCode 1 (e := (1, .aload_n 0, 1)) rfl) rfl rfl (pc' := 2) rfl ?_
  refine jW.cg (κ := 6) (k := 2) F hV.s6 f_Rd_addToCode_2 (by decide) rfl (pc' := 5) rfl ?_
  refine jW.callVe F (h (d + 3) _ hV) (dx_Rd_addToCode 3 (e := (5, .invokevirtual 253, 3)) rfl) can_Line_place jw_958 jw_959 hV.cl5 rfl jw_960 rfl rfl (Nat.le_of_ble_eq_true rfl) (pc' := 8) rfl (fun r σ hr => ?_)
  clear hV
  obtain ⟨_, hV, _, rfl, h⟩ := hr
  refine jW.aload_n (dx_Rd_addToCode 4 (e := (8, .aload_n 0, 1)) rfl) rfl rfl (pc' := 9) rfl ?_
  refine jW.cg (κ := 6) (k := 2) F hV.s6 f_Rd_addToCode_9 (by decide) rfl (pc' := 12) rfl ?_
  refine jW.callVe F (h (d + 2) _ hV) (dx_Rd_addToCode 6 (e := (12, .invokevirtual 216, 3)) rfl) can_Line_size jw_846 jw_847 hV.cl5 rfl jw_848 rfl rfl (Nat.le_of_ble_eq_true rfl) (pc' := 15) rfl (fun r σ hr => ?_)
  clear hV
  obtain ⟨_, hV, _, rfl, h⟩ := hr
  refine jW.callVe F (h (d + 0) _ hV) (dx_Rd_addToCode 7 (e := (15, .invokevirtual 225, 3)) rfl) can_Rd_copy jw_858 jw_860 hV.cl6 rfl sel_Rd_copy rfl rfl (Nat.le_of_ble_eq_true rfl) (pc' := 18) rfl (fun r σ hr => ?_)
  clear hV
  obtain ⟨_, hV, rfl, h⟩ := hr
  refine jW.aload_n (dx_Rd_addToCode 8 (e := (18, .aload_n 0, 1)) rfl) rfl rfl (pc' := 19) rfl ?_
  refine jW.cg (κ := 6) (k := 0) F hV.s6 f_Rd_addToCode_19 (by decide) rfl (pc' := 22) rfl ?_
  refine jW.cg (κ := 2) (k := 2) F hV.s2 f_Rd_addToCode_22 (by decide) rfl (pc' := 25) rfl ?_
  refine jW.bipush (v := 10) (dx_Rd_addToCode 11 (e := (25, .bipush 10, 2)) rfl) (by decide) (pc' := 27) rfl ?_
  refine jW.callVe F (h (d + 1) _ hV) (dx_Rd_addToCode 12 (e := (27, .invokevirtual 251, 3)) rfl) can_Row_add jw_862 jw_376 (hV.clr (κ := 10) (by unfold isR; decide)) rfl jw_377 rfl rfl (Nat.le_of_ble_eq_true rfl) (pc' := 30) rfl (fun r σ hr => ?_)
  clear hV
  obtain ⟨_, hV, rfl, h⟩ := hr
  refine jW.aload_n (dx_Rd_addToCode 13 (e := (30, .aload_n 1, 1)) rfl) rfl rfl (pc' := 31) rfl ?_
  obtain ⟨i1, hi, h⟩ := h
  refine jW.cgb F hV hi f_Rd_addToCode_31 (by decide) (pc' := 34) rfl ?_
  refine jW.if_ne (dx_Rd_addToCode 15 (e := (34, .ifCond .ne 13, 3)) rfl) 47 (by decide) (pc' := 37) rfl (fun c => ?_) (fun c => ?_)
  · replace h := h.2 c
    exact t_Rd_addToCode_47 F hV h
  · replace h := h.1 c
    refine jW.aload_n (dx_Rd_addToCode 16 (e := (37, .aload_n 0, 1)) rfl) rfl rfl (pc' := 38) rfl ?_
    refine jW.cg (κ := 6) (k := 2) F hV.s6 f_Rd_addToCode_38 (by decide) rfl (pc' := 41) rfl ?_
    refine jW.callVe F (h (d + 2) _ hV) (dx_Rd_addToCode 18 (e := (41, .invokevirtual 90, 3)) rfl) can_Line_isBlank jw_598 jw_599 hV.cl5 rfl jw_600 rfl rfl (Nat.le_of_ble_eq_true rfl) (pc' := 44) rfl (fun r σ hr => ?_)
    clear hV
    obtain ⟨_, hV, _, rfl, h⟩ := hr
    refine jW.if_ne (dx_Rd_addToCode 19 (e := (44, .ifCond .ne 30, 3)) rfl) 74 (by decide) (pc' := 47) rfl (fun c => ?_) (fun c => ?_)
    · replace h := h.2 c
      exact t_Rd_addToCode_74 F hV h
    · replace h := h.1 c
      exact t_Rd_addToCode_47 F hV h
theorem g_Rd_addToCode {X : CX} {a0 : Array Value} (F : cF X a0) {b1 : Nat} {m : CS} {Φ : Option Value → CS → Prop} (he : w_Rd_addToCode_0 X b1 m Φ) : cE X 4 y_Rd_addToCode [.ref (adr X 6), .ref b1] m Φ := by
  intro d σ hV
  refine jE.of (by decide) (by simp [Value.category]) (Nat.le_of_ble_eq_true rfl) rfl ?_
  exact t_Rd_addToCode_0 F hV he
def w_Rd_finish_0 (X : CX) (m : CS) (Φ : Option Value → CS → Prop) : Prop := ∀ m1, m1 = cI m 65 (0) → cE X 8 y_Rd_close [.ref (adr X 6)] m1 (cvP fun m2 => Φ none m2)
theorem t_Rd_finish_0 {X : CX} {a0 : Array Value} (F : cF X a0) {d : Nat} {m : CS} {σ : jS} {Φ : Option Value → CS → Prop} (hV : CV X m σ) (h : w_Rd_finish_0 X m Φ) : jW X.1 X.2.1 jcl X.2.2.1 X.2.2.2.1 (d + 9) y_Rd_finish 0 [some (.ref (adr X 6))] [] σ (cP X Φ) := by
  unfold w_Rd_finish_0 at h
  refine jW.aload_n (dx_Rd_finish 0 (e := (0, .aload_n 0, 1)) rfl) rfl rfl (pc' := 1) rfl ?_
  refine jW.iconst (v := 0) (dx_Rd_finish 1 (e := (1, .iconst 0, 1)) rfl) (by decide) (pc' := 2) rfl ?_
  refine jW.cp6 (k := 5) F hV f_Rd_finish_2 (by decide) rfl rfl rfl (pc' := 5) rfl (fun σ hV => ?_)
  replace h := h _ rfl
  refine jW.aload_n (dx_Rd_finish 3 (e := (5, .aload_n 0, 1)) rfl) rfl rfl (pc' := 6) rfl ?_
  refine jW.callVe F (h (d + 0) _ hV) (dx_Rd_finish 4 (e := (6, .invokevirtual 75, 3)) rfl) can_Rd_close jw_809 jw_811 hV.cl6 rfl sel_Rd_close rfl rfl (Nat.le_of_ble_eq_true rfl) (pc' := 9) rfl (fun r σ hr => ?_)
  clear hV
  obtain ⟨_, hV, rfl, h⟩ := hr
  exact jW.vret (dx_Rd_finish 5 (e := (9, .return_, 1)) rfl) rfl ⟨_, hV, h⟩
theorem g_Rd_finish {X : CX} {a0 : Array Value} (F : cF X a0) {m : CS} {Φ : Option Value → CS → Prop} (he : w_Rd_finish_0 X m Φ) : cE X 9 y_Rd_finish [.ref (adr X 6)] m Φ := by
  intro d σ hV
  refine jE.of (by decide) (by simp [Value.category]) (Nat.le_of_ble_eq_true rfl) rfl ?_
  exact t_Rd_finish_0 F hV he
