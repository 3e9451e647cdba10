/-! MarkBlocks.read: returns or throws -/
def THs (X : CX) (a0 : Array Value) : Prop := X.1.stackTraces = false ∧ (∀ w ∈ ownX, w.before a0 X.2.1 = true) ∧ ∃ q, vk_R "MarkBlocks" 102 "too deep" q X.2.1
def cPB (X : CX) (Φ : Option Value → CS → Prop) : Option (Option Value) → jS → Prop := fun r σ => ∃ c, CV X c σ ∧ match r with
  | some (some v) => Φ (some v) c
  | some none => False
  | none => Φ none c
def cR (X : CX) (k : Nat) (z : jM) (av : List Value) (c : CS) (Φ : Option Value → CS → Prop) : Prop := ∀ (d : Nat) (σ : jS), CV X c σ → jE X.1 X.2.1 jcl X.2.2.1 X.2.2.2.1 (d + k) z av σ (fun r σ' => cPB X Φ (some r) σ') ∨ jT X.1 X.2.1 jcl X.2.2.1 X.2.2.2.1 (d + k) z av σ (fun _ σ' => cPB X Φ none σ')
theorem CV.ge {X : CX} {c : CS} {σ : jS} (h : CV X c σ) : X.2.1.heap.size ≤ σ.2.1 := by
  obtain ⟨nr, ed, cp, h⟩ := h
  exact h.1.1
def w_MB_read_91 (X : CX) (x1 : Int32) (m : CS) (Φ : Option Value → CS → Prop) : Prop := cE X 9 y_Rd_finish [.ref (adr X 6)] m (cvP fun m1 => cE X 5 y_Tree_finish [.ref (adr X 2)] m1 (cvP fun m2 => cE X 0 y_Tree_size [.ref (adr X 2)] m2 (ciP fun r3 m3 => Φ (some (.int (r3))) m3)))
theorem t_MB_read_91 {X : CX} {a0 : Array Value} (F : cF X a0) (HT : THs X a0) {d : Nat} {x1 : Int32} {m : CS} {σ : jS} {Φ : Option Value → CS → Prop} (hV : CV X m σ) (h : w_MB_read_91 X x1 m Φ) : jV X.1 X.2.1 jcl X.2.2.1 X.2.2.2.1 (d + 12) y_MB_read 91 [some (.ref (adr X 0)), some (.int x1)] [] σ (cPB X Φ) := by
  unfold w_MB_read_91 at h
  refine jV.aload_n (dx_MB_read 44 (e := (91, .aload_n 0, 1)) rfl) rfl rfl (pc' := 92) rfl ?_
  refine jV.cg (κ := 0) (k := 5) F hV.s0 f_MB_read_92 (by decide) rfl (pc' := 95) rfl ?_
  refine jV.callVe F (h (d + 2) _ hV) (dx_MB_read 46 (e := (95, .invokevirtual 110, 3)) rfl) can_Rd_finish jw_962 jw_963 hV.cl6 rfl jw_964 rfl rfl (Nat.le_of_ble_eq_true rfl) (pc' := 98) rfl (fun r σ hr => ?_)
  clear hV
  obtain ⟨_, hV, rfl, h⟩ := hr
  refine jV.aload_n (dx_MB_read 47 (e := (98, .aload_n 0, 1)) rfl) rfl rfl (pc' := 99) rfl ?_
  refine jV.cg (κ := 0) (k := 2) F hV.s0 f_MB_read_99 (by decide) rfl (pc' := 102) rfl ?_
  refine jV.callVe F (h (d + 6) _ hV) (dx_MB_read 49 (e := (102, .invokevirtual 113, 3)) rfl) can_Tree_finish jw_966 jw_967 hV.cl2 rfl jw_968 rfl rfl (Nat.le_of_ble_eq_true rfl) (pc' := 105) rfl (fun r σ hr => ?_)
  clear hV
  obtain ⟨_, hV, rfl, h⟩ := hr
  refine jV.aload_n (dx_MB_read 50 (e := (105, .aload_n 0, 1)) rfl) rfl rfl (pc' := 106) rfl ?_
  refine jV.cg (κ := 0) (k := 2) F hV.s0 f_MB_read_106 (by decide) rfl (pc' := 109) rfl ?_
  refine jV.callVe F (h (d + 11) _ hV) (dx_MB_read 52 (e := (109, .invokevirtual 114, 3)) rfl) can_Tree_size jw_507 jw_508 hV.cl2 rfl jw_509 rfl rfl (Nat.le_of_ble_eq_true rfl) (pc' := 112) rfl (fun r σ hr => ?_)
  clear hV
  obtain ⟨_, hV, _, rfl, h⟩ := hr
  exact jV.iret (dx_MB_read 53 (e := (112, .ireturn, 1)) rfl) rfl ⟨_, hV, h⟩
def w_MB_read_13 (X : CX) (x1 : Int32) (m : CS) (Φ : Option Value → CS → Prop) (K13 : Int32 → CS → Prop) : Prop := ((3000 ≤ x1 → w_MB_read_91 X (x1) m Φ) ∧ (¬ 3000 ≤ x1 → cE X 4 y_Line_takeNext [.ref (adr X 5), .ref (adr X 1)] m (ciP fun r1 m1 => ((r1 = 0 → w_MB_read_91 X (x1) m1 Φ) ∧ (¬ r1 = 0 → cE X 7 y_Rd_goOn [.ref (adr X 6), .int (x1)] m1 (cvP fun m2 => cE X 11 y_Rd_lookForBeginnings [.ref (adr X 6)] m2 (ciP fun r3 m3 => ((r3 = 0 → cE X 2 y_MB_forget [.ref (adr X 0)] m3 (cvP fun m6 => ∀ m7, m7 = cI m6 7 (x1) → Φ none m7)) ∧ (¬ r3 = 0 → cE X 10 y_Rd_takeRest [.ref (adr X 6)] m3 (cvP fun m4 => ∀ m5, m5 = cI m4 6 (x1 + 1) → K13 (x1 + 1) m5))))))))))
theorem t_MB_read_13 {X : CX} {a0 : Array Value} (F : cF X a0) (HT : THs X a0) {d : Nat} {x1 : Int32} {m : CS} {σ : jS} {Φ : Option Value → CS → Prop} {K13 : Int32 → CS → Prop} (hV : CV X m σ) (h : w_MB_read_13 X x1 m Φ K13) (hK13 : ∀ (x1 : Int32) (m : CS) (σ : jS), CV X m σ → K13 x1 m → jV X.1 X.2.1 jcl X.2.2.1 X.2.2.2.1 (d + 12) y_MB_read 13 [some (.ref (adr X 0)), some (.int x1)] [] σ (cPB X Φ)) : jV X.1 X.2.1 jcl X.2.2.1 X.2.2.2.1 (d + 12) y_MB_read 13 [some (.ref (adr X 0)), some (.int x1)] [] σ (cPB X Φ) := by
  unfold w_MB_read_13 at h
  refine jV.iload_n (dx_MB_read 7 (e := (13, .iload_n 1, 1)) rfl) rfl rfl (pc' := 14) rfl ?_
  refine jV.sipush (v := 3000) (dx_MB_read 8 (e := (14, .sipush 3000, 3)) rfl) (by decide) (pc' := 17) rfl ?_
  refine jV.icmp_ge (dx_MB_read 9 (e := (17, .if_icmp .ge 74, 3)) rfl) 91 (by decide) (pc' := 20) rfl (fun c => ?_) (fun c => ?_)
  · replace h := h.1 c
    exact t_MB_read_91 F HT hV h
  · replace h := h.2 c
    refine jV.aload_n (dx_MB_read 10 (e := (20, .aload_n 0, 1)) rfl) rfl rfl (pc' := 21) rfl ?_
    refine jV.cg (κ := 0) (k := 4) F hV.s0 f_MB_read_21 (by decide) rfl (pc' := 24) rfl ?_
    refine jV.aload_n (dx_MB_read 12 (e := (24, .aload_n 0, 1)) rfl) rfl rfl (pc' := 25) rfl ?_
    refine jV.cg (κ := 0) (k := 0) F hV.s0 f_MB_read_25 (by decide) rfl (pc' := 28) rfl ?_
    refine jV.callVe F (h (d + 7) _ hV) (dx_MB_read 14 (e := (28, .invokevirtual 89, 3)) rfl) can_Line_takeNext jw_549 jw_550 hV.cl5 rfl jw_551 rfl rfl (Nat.le_of_ble_eq_true rfl) (pc' := 31) rfl (fun r σ hr => ?_)
    clear hV
    obtain ⟨_, hV, _, rfl, h⟩ := hr
    refine jV.if_eq (dx_MB_read 15 (e := (31, .ifCond .eq 60, 3)) rfl) 91 (by decide) (pc' := 34) rfl (fun c => ?_) (fun c => ?_)
    · replace h := h.1 c
      exact t_MB_read_91 F HT hV h
    · replace h := h.2 c
      refine jV.aload_n (dx_MB_read 16 (e := (34, .aload_n 0, 1)) rfl) rfl rfl (pc' := 35) rfl ?_
      refine jV.cg (κ := 0) (k := 5) F hV.s0 f_MB_read_35 (by decide) rfl (pc' := 38) rfl ?_
      refine jV.iload_n (dx_MB_read 18 (e := (38, .iload_n 1, 1)) rfl) rfl rfl (pc' := 39) rfl ?_
      refine jV.callVe F (h (d + 4) _ hV) (dx_MB_read 19 (e := (39, .invokevirtual 93, 3)) rfl) can_Rd_goOn jw_566 jw_567 hV.cl6 rfl jw_568 rfl rfl (Nat.le_of_ble_eq_true rfl) (pc' := 42) rfl (fun r σ hr => ?_)
      clear hV
      obtain ⟨_, hV, rfl, h⟩ := hr
      refine jV.aload_n (dx_MB_read 20 (e := (42, .aload_n 0, 1)) rfl) rfl rfl (pc' := 43) rfl ?_
      refine jV.cg (κ := 0) (k := 5) F hV.s0 f_MB_read_43 (by decide) rfl (pc' := 46) rfl ?_
      refine jV.callVe F (h (d + 0) _ hV) (dx_MB_read 22 (e := (46, .invokevirtual 96, 3)) rfl) can_Rd_lookForBeginnings jw_640 jw_641 hV.cl6 rfl jw_642 rfl rfl (Nat.le_of_ble_eq_true rfl) (pc' := 49) rfl (fun r σ hr => ?_)
      clear hV
      obtain ⟨_, hV, _, rfl, h⟩ := hr
      refine jV.if_ne (dx_MB_read 23 (e := (49, .ifCond .ne 22, 3)) rfl) 71 (by decide) (pc' := 52) rfl (fun c => ?_) (fun c => ?_)
      · replace h := h.2 c
        refine jV.aload_n (dx_MB_read 34 (e := (71, .aload_n 0, 1)) rfl) rfl rfl (pc' := 72) rfl ?_
        refine jV.cg (κ := 0) (k := 5) F hV.s0 f_MB_read_72 (by decide) rfl (pc' := 75) rfl ?_
        refine jV.callVe F (h (d + 1) _ hV) (dx_MB_read 36 (e := (75, .invokevirtual 107, 3)) rfl) can_Rd_takeRest jw_938 jw_939 hV.cl6 rfl jw_940 rfl rfl (Nat.le_of_ble_eq_true rfl) (pc' := 78) rfl (fun r σ hr => ?_)
        clear hV
        obtain ⟨_, hV, rfl, h⟩ := hr
        refine jV.aload_n (dx_MB_read 37 (e := (78, .aload_n 0, 1)) rfl) rfl rfl (pc' := 79) rfl ?_
        refine jV.iload_n (dx_MB_read 38 (e := (79, .iload_n 1, 1)) rfl) rfl rfl (pc' := 80) rfl ?_
        refine jV.iconst (v := 1) (dx_MB_read 39 (e := (80, .iconst 1, 1)) rfl) (by decide) (pc' := 81) rfl ?_
        refine jV.iadd (dx_MB_read 40 (e := (81, .iadd, 1)) rfl) (pc' := 82) rfl ?_
        refine jV.cp0 (k := 6) F hV f_MB_read_82 (by decide) rfl rfl rfl (pc' := 85) rfl (fun σ hV => ?_)
        replace h := h _ rfl
        refine jV.iinc (v := _ + (1)) (dx_MB_read 42 (e := (85, .iinc 1 1, 3)) rfl) rfl rfl (by decide) rfl (pc' := 88) rfl ?_
        refine jV.goto (dx_MB_read 43 (e := (88, .goto (-75), 3)) rfl) 13 (by decide) ?_
        exact hK13 _ _ _ hV h
      · replace h := h.1 c
        refine jV.aload_n (dx_MB_read 24 (e := (52, .aload_n 0, 1)) rfl) rfl rfl (pc' := 53) rfl ?_
        refine jV.callVe F (h (d + 9) _ hV) (dx_MB_read 25 (e := (53, .invokevirtual 83, 3)) rfl) can_MB_forget jw_519 jw_521 hV.cl0 rfl sel_MB_forget rfl rfl (Nat.le_of_ble_eq_true rfl) (pc' := 56) rfl (fun r σ hr => ?_)
        clear hV
        obtain ⟨_, hV, rfl, h⟩ := hr
        refine jV.aload_n (dx_MB_read 26 (e := (56, .aload_n 0, 1)) rfl) rfl rfl (pc' := 57) rfl ?_
        refine jV.iload_n (dx_MB_read 27 (e := (57, .iload_n 1, 1)) rfl) rfl rfl (pc' := 58) rfl ?_
        refine jV.cp0 (k := 7) F hV f_MB_read_58 (by decide) rfl rfl rfl (pc' := 61) rfl (fun σ hV => ?_)
        replace h := h _ rfl
        obtain ⟨q0, hq0⟩ := HT.2.2
        exact jV.throw F HT.1 HT.2.1 hq0 (by omega) hV.ge ⟨_, hV, h⟩
def w_MB_read_0 (X : CX) (m : CS) (Φ : Option Value → CS → Prop) (K13 : Int32 → CS → Prop) : Prop := cE X 2 y_MB_forget [.ref (adr X 0)] m (cvP fun m1 => cE X 8 y_Rd_start [.ref (adr X 6)] m1 (cvP fun m2 => K13 (0) m2))
theorem t_MB_read_0 {X : CX} {a0 : Array Value} (F : cF X a0) (HT : THs X a0) {d : Nat} {o1 : Option Value} {m : CS} {σ : jS} {Φ : Option Value → CS → Prop} {K13 : Int32 → CS → Prop} (hV : CV X m σ) (h : w_MB_read_0 X m Φ K13) (hK13 : ∀ (x1 : Int32) (m : CS) (σ : jS), CV X m σ → K13 x1 m → jV X.1 X.2.1 jcl X.2.2.1 X.2.2.2.1 (d + 12) y_MB_read 13 [some (.ref (adr X 0)), some (.int x1)] [] σ (cPB X Φ)) : jV X.1 X.2.1 jcl X.2.2.1 X.2.2.2.1 (d + 12) y_MB_read 0 [some (.ref (adr X 0)), o1] [] σ (cPB X Φ) := by
  unfold w_MB_read_0 at h
  refine jV.aload_n (dx_MB_read 0 (e := (0, .aload_n 0, 1)) rfl) rfl rfl (pc' := 1) rfl ?_
  refine jV.callVe F (h (d + 9) _ hV) (dx_MB_read 1 (e := (1, .invokevirtual 83, 3)) rfl) can_MB_forget jw_519 jw_521 hV.cl0 rfl sel_MB_forget rfl rfl (Nat.le_of_ble_eq_true rfl) (pc' := 4) rfl (fun r σ hr => ?_)
  clear hV
  obtain ⟨_, hV, rfl, h⟩ := hr
  refine jV.aload_n (dx_MB_read 2 (e := (4, .aload_n 0, 1)) rfl) rfl rfl (pc' := 5) rfl ?_
  refine jV.cg (κ := 0) (k := 5) F hV.s0 f_MB_read_5 (by decide) rfl (pc' := 8) rfl ?_
  refine jV.callVe F (h (d + 3) _ hV) (dx_MB_read 4 (e := (8, .invokevirtual 86, 3)) rfl) can_Rd_start jw_536 jw_537 hV.cl6 rfl jw_538 rfl rfl (Nat.le_of_ble_eq_true rfl) (pc' := 11) rfl (fun r σ hr => ?_)
  clear hV
  obtain ⟨_, hV, rfl, h⟩ := hr
  refine jV.iconst (v := 0) (dx_MB_read 5 (e := (11, .iconst 0, 1)) rfl) (by decide) (pc' := 12) rfl ?_
  refine jV.istore_n (dx_MB_read 6 (e := (12, .istore_n 1, 1)) rfl) rfl (by decide) rfl (pc' := 13) rfl ?_
  exact hK13 _ _ _ hV h
theorem g_MB_read {X : CX} {a0 : Array Value} (F : cF X a0) (HT : THs X a0) {m : CS} {Φ : Option Value → CS → Prop} {I13 : Nat → Int32 → CS → Prop} (he : w_MB_read_0 X m Φ (fun x1 m => ∃ j, I13 j x1 m)) (h13 : ∀ (n : Nat) (x1 : Int32) (m : CS), I13 n x1 m → w_MB_read_13 X x1 m Φ (fun x1 m => ∃ j, j < n ∧ I13 j x1 m)) : cR X 12 y_MB_read [.ref (adr X 0)] m Φ := by
  intro d σ hV
  have hL13 : ∀ n, (∀ (x1 : Int32) (m : CS) (σ : jS), CV X m σ → I13 n x1 m → jV X.1 X.2.1 jcl X.2.2.1 X.2.2.2.1 (d + 12) y_MB_read 13 [some (.ref (adr X 0)), some (.int x1)] [] σ (cPB X Φ)) := by
    intro n
    induction n using Nat.strongRecOn with
    | _ n ih =>
      exact fun x1 m σ hV hI => t_MB_read_13 F HT hV (h13 n x1 m hI) (fun x1 m σ hV ⟨j, hj, hI⟩ => (ih j hj) x1 m σ hV hI)
  refine jV.of (by decide) (by simp [Value.category]) (Nat.le_of_ble_eq_true rfl) rfl ?_
  exact t_MB_read_0 F HT hV he (fun x1 m σ hV ⟨j, hI⟩ => (hL13 j) x1 m σ hV hI)
