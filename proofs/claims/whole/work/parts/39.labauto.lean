def w_MB_isWhite_29 (X : CX) (x0 : Int32) (s0 : Int32) (m : CS) (Φ : Option Value → CS → Prop) : Prop := (mZ (s0) ∧ Φ (some (.int (s0))) m)
theorem t_MB_isWhite_29 {X : CX} {a0 : Array Value} (F : cF X a0) {d : Nat} {x0 : Int32} {s0 : Int32} {m : CS} {σ : jS} {Φ : Option Value → CS → Prop} (hV : CV X m σ) (h : w_MB_isWhite_29 X x0 s0 m Φ) : jW X.1 X.2.1 jcl X.2.2.1 X.2.2.2.1 (d + 0) y_MB_isWhite 29 [some (.int x0)] [.int s0] σ (cP X Φ) := by
  unfold w_MB_isWhite_29 at h
  exact jW.zret (dx_MB_isWhite 15 (e := (29, .ireturn, 1)) rfl) rfl h.1.n ⟨_, hV, h.2⟩
def w_MB_isWhite_24 (X : CX) (x0 : Int32) (m : CS) (Φ : Option Value → CS → Prop) : Prop := w_MB_isWhite_29 X (x0) (1) m Φ
theorem t_MB_isWhite_24 {X : CX} {a0 : Array Value} (F : cF X a0) {d : Nat} {x0 : Int32} {m : CS} {σ : jS} {Φ : Option Value → CS → Prop} (hV : CV X m σ) (h : w_MB_isWhite_24 X x0 m Φ) : jW X.1 X.2.1 jcl X.2.2.1 X.2.2.2.1 (d + 0) y_MB_isWhite 24 [some (.int x0)] [] σ (cP X Φ) := by
  unfold w_MB_isWhite_24 at h
  refine jW.iconst (v := 1) (dx_MB_isWhite 12 (e := (24, .iconst 1, 1)) rfl) (by decide) (pc' := 25) rfl ?_
  refine jW.goto (dx_MB_isWhite 13 (e := (25, .goto 4, 3)) rfl) 29 (by decide) ?_
  exact t_MB_isWhite_29 F hV h
def w_MB_isWhite_0 (X : CX) (x0 : Int32) (m : CS) (Φ : Option Value → CS → Prop) : Prop := ((x0 = 9 → w_MB_isWhite_24 X (x0) m Φ) ∧ (¬ x0 = 9 → ((x0 = 10 → w_MB_isWhite_24 X (x0) m Φ) ∧ (¬ x0 = 10 → ((x0 = 13 → w_MB_isWhite_24 X (x0) m Φ) ∧ (¬ x0 = 13 → ((x0 = 32 → w_MB_isWhite_24 X (x0) m Φ) ∧ (¬ x0 = 32 → w_MB_isWhite_29 X (x0) (0) m Φ))))))))
theorem t_MB_isWhite_0 {X : CX} {a0 : Array Value} (F : cF X a0) {d : Nat} {x0 : Int32} {m : CS} {σ : jS} {Φ : Option Value → CS → Prop} (hV : CV X m σ) (h : w_MB_isWhite_0 X x0 m Φ) : jW X.1 X.2.1 jcl X.2.2.1 X.2.2.2.1 (d + 0) y_MB_isWhite 0 [some (.int x0)] [] σ (cP X Φ) := by
  unfold w_MB_isWhite_0 at h
  refine jW.iload_n (dx_MB_isWhite 0 (e := (0, .iload_n 0, 1)) rfl) rfl rfl (pc' := 1) rfl ?_
  refine jW.bipush (v := 9) (dx_MB_isWhite 1 (e := (1, .bipush 9, 2)) rfl) (by decide) (pc' := 3) rfl ?_
  refine jW.icmp_eq (dx_MB_isWhite 2 (e := (3, .if_icmp .eq 21, 3)) rfl) 24 (by decide) (pc' := 6) rfl (fun c => ?_) (fun c => ?_)
  · replace h := h.1 c
    exact t_MB_isWhite_24 F hV h
  · replace h := h.2 c
    refine jW.iload_n (dx_MB_isWhite 3 (e := (6, .iload_n 0, 1)) rfl) rfl rfl (pc' := 7) rfl ?_
    refine jW.bipush (v := 10) (dx_MB_isWhite 4 (e := (7, .bipush 10, 2)) rfl) (by decide) (pc' := 9) rfl ?_
    refine jW.icmp_eq (dx_MB_isWhite 5 (e := (9, .if_icmp .eq 15, 3)) rfl) 24 (by decide) (pc' := 12) rfl (fun c => ?_) (fun c => ?_)
    · replace h := h.1 c
      exact t_MB_isWhite_24 F hV h
    · replace h := h.2 c
      refine jW.iload_n (dx_MB_isWhite 6 (e := (12, .iload_n 0, 1)) rfl) rfl rfl (pc' := 13) rfl ?_
      refine jW.bipush (v := 13) (dx_MB_isWhite 7 (e := (13, .bipush 13, 2)) rfl) (by decide) (pc' := 15) rfl ?_
      refine jW.icmp_eq (dx_MB_isWhite 8 (e := (15, .if_icmp .eq 9, 3)) rfl) 24 (by decide) (pc' := 18) rfl (fun c => ?_) (fun c => ?_)
      · replace h := h.1 c
        exact t_MB_isWhite_24 F hV h
      · replace h := h.2 c
        refine jW.iload_n (dx_MB_isWhite 9 (e := (18, .iload_n 0, 1)) rfl) rfl rfl (pc' := 19) rfl ?_
        refine jW.bipush (v := 32) (dx_MB_isWhite 10 (e := (19, .bipush 32, 2)) rfl) (by decide) (pc' := 21) rfl ?_
        refine jW.icmp_ne (dx_MB_isWhite 11 (e := (21, .if_icmp .ne 7, 3)) rfl) 28 (by decide) (pc' := 24) rfl (fun c => ?_) (fun c => ?_)
        · replace h := h.2 c
          refine jW.iconst (v := 0) (dx_MB_isWhite 14 (e := (28, .iconst 0, 1)) rfl) (by decide) (pc' := 29) rfl ?_
          exact t_MB_isWhite_29 F hV h
        · replace h := h.1 c
          exact t_MB_isWhite_24 F hV h
theorem g_MB_isWhite {X : CX} {a0 : Array Value} (F : cF X a0) {x0 : Int32} {m : CS} {Φ : Option Value → CS → Prop} (he : w_MB_isWhite_0 X x0 m Φ) : cE X 0 y_MB_isWhite [.int x0] m Φ := by
  intro d σ hV
  refine jE.of (by decide) (by simp [Value.category]) (Nat.le_of_ble_eq_true rfl) rfl ?_
  exact t_MB_isWhite_0 F hV he
def w_MB_isPunctuation_53 (X : CX) (x0 : Int32) (s0 : Int32) (m : CS) (Φ : Option Value → CS → Prop) : Prop := (mZ (s0) ∧ Φ (some (.int (s0))) m)
theorem t_MB_isPunctuation_53 {X : CX} {a0 : Array Value} (F : cF X a0) {d : Nat} {x0 : Int32} {s0 : Int32} {m : CS} {σ : jS} {Φ : Option Value → CS → Prop} (hV : CV X m σ) (h : w_MB_isPunctuation_53 X x0 s0 m Φ) : jW X.1 X.2.1 jcl X.2.2.1 X.2.2.2.1 (d + 0) y_MB_isPunctuation 53 [some (.int x0)] [.int s0] σ (cP X Φ) := by
  unfold w_MB_isPunctuation_53 at h
  exact jW.zret (dx_MB_isPunctuation 27 (e := (53, .ireturn, 1)) rfl) rfl h.1.n ⟨_, hV, h.2⟩
def w_MB_isPunctuation_52 (X : CX) (x0 : Int32) (m : CS) (Φ : Option Value → CS → Prop) : Prop := w_MB_isPunctuation_53 X (x0) (0) m Φ
theorem t_MB_isPunctuation_52 {X : CX} {a0 : Array Value} (F : cF X a0) {d : Nat} {x0 : Int32} {m : CS} {σ : jS} {Φ : Option Value → CS → Prop} (hV : CV X m σ) (h : w_MB_isPunctuation_52 X x0 m Φ) : jW X.1 X.2.1 jcl X.2.2.1 X.2.2.2.1 (d + 0) y_MB_isPunctuation 52 [some (.int x0)] [] σ (cP X Φ) := by
  unfold w_MB_isPunctuation_52 at h
  refine jW.iconst (v := 0) (dx_MB_isPunctuation 26 (e := (52, .iconst 0, 1)) rfl) (by decide) (pc' := 53) rfl ?_
  exact t_MB_isPunctuation_53 F hV h
def w_MB_isPunctuation_48 (X : CX) (x0 : Int32) (m : CS) (Φ : Option Value → CS → Prop) : Prop := w_MB_isPunctuation_53 X (x0) (1) m Φ
theorem t_MB_isPunctuation_48 {X : CX} {a0 : Array Value} (F : cF X a0) {d : Nat} {x0 : Int32} {m : CS} {σ : jS} {Φ : Option Value → CS → Prop} (hV : CV X m σ) (h : w_MB_isPunctuation_48 X x0 m Φ) : jW X.1 X.2.1 jcl X.2.2.1 X.2.2.2.1 (d + 0) y_MB_isPunctuation 48 [some (.int x0)] [] σ (cP X Φ) := by
  unfold w_MB_isPunctuation_48 at h
  refine jW.iconst (v := 1) (dx_MB_isPunctuation 24 (e := (48, .iconst 1, 1)) rfl) (by decide) (pc' := 49) rfl ?_
  refine jW.goto (dx_MB_isPunctuation 25 (e := (49, .goto 4, 3)) rfl) 53 (by decide) ?_
  exact t_MB_isPunctuation_53 F hV h
def w_MB_isPunctuation_36 (X : CX) (x0 : Int32) (m : CS) (Φ : Option Value → CS → Prop) : Prop := ((x0 < 123 → w_MB_isPunctuation_52 X (x0) m Φ) ∧ (¬ x0 < 123 → ((126 < x0 → w_MB_isPunctuation_52 X (x0) m Φ) ∧ (¬ 126 < x0 → w_MB_isPunctuation_48 X (x0) m Φ))))
theorem t_MB_isPunctuation_36 {X : CX} {a0 : Array Value} (F : cF X a0) {d : Nat} {x0 : Int32} {m : CS} {σ : jS} {Φ : Option Value → CS → Prop} (hV : CV X m σ) (h : w_MB_isPunctuation_36 X x0 m Φ) : jW X.1 X.2.1 jcl X.2.2.1 X.2.2.2.1 (d + 0) y_MB_isPunctuation 36 [some (.int x0)] [] σ (cP X Φ) := by
  unfold w_MB_isPunctuation_36 at h
  refine jW.iload_n (dx_MB_isPunctuation 18 (e := (36, .iload_n 0, 1)) rfl) rfl rfl (pc' := 37) rfl ?_
  refine jW.bipush (v := 123) (dx_MB_isPunctuation 19 (e := (37, .bipush 123, 2)) rfl) (by decide) (pc' := 39) rfl ?_
  refine jW.icmp_lt (dx_MB_isPunctuation 20 (e := (39, .if_icmp .lt 13, 3)) rfl) 52 (by decide) (pc' := 42) rfl (fun c => ?_) (fun c => ?_)
  · replace h := h.1 c
    exact t_MB_isPunctuation_52 F hV h
  · replace h := h.2 c
    refine jW.iload_n (dx_MB_isPunctuation 21 (e := (42, .iload_n 0, 1)) rfl) rfl rfl (pc' := 43) rfl ?_
    refine jW.bipush (v := 126) (dx_MB_isPunctuation 22 (e := (43, .bipush 126, 2)) rfl) (by decide) (pc' := 45) rfl ?_
    refine jW.icmp_gt (dx_MB_isPunctuation 23 (e := (45, .if_icmp .gt 7, 3)) rfl) 52 (by decide) (pc' := 48) rfl (fun c => ?_) (fun c => ?_)
    · replace h := h.1 c
      exact t_MB_isPunctuation_52 F hV h
    · replace h := h.2 c
      exact t_MB_isPunctuation_48 F hV h
def w_MB_isPunctuation_24 (X : CX) (x0 : Int32) (m : CS) (Φ : Option Value → CS → Prop) : Prop := ((x0 < 91 → w_MB_isPunctuation_36 X (x0) m Φ) ∧ (¬ x0 < 91 → ((x0 ≤ 96 → w_MB_isPunctuation_48 X (x0) m Φ) ∧ (¬ x0 ≤ 96 → w_MB_isPunctuation_36 X (x0) m Φ))))
theorem t_MB_isPunctuation_24 {X : CX} {a0 : Array Value} (F : cF X a0) {d : Nat} {x0 : Int32} {m : CS} {σ : jS} {Φ : Option Value → CS → Prop} (hV : CV X m σ) (h : w_MB_isPunctuation_24 X x0 m Φ) : jW X.1 X.2.1 jcl X.2.2.1 X.2.2.2.1 (d + 0) y_MB_isPunctuation 24 [some (.int x0)] [] σ (cP X Φ) := by
  unfold w_MB_isPunctuation_24 at h
  refine jW.iload_n (dx_MB_isPunctuation 12 (e := (24, .iload_n 0, 1)) rfl) rfl rfl (pc' := 25) rfl ?_
  refine jW.bipush (v := 91) (dx_MB_isPunctuation 13 (e := (25, .bipush 91, 2)) rfl) (by decide) (pc' := 27) rfl ?_
  refine jW.icmp_lt (dx_MB_isPunctuation 14 (e := (27, .if_icmp .lt 9, 3)) rfl) 36 (by decide) (pc' := 30) rfl (fun c => ?_) (fun c => ?_)
  · replace h := h.1 c
    exact t_MB_isPunctuation_36 F hV h
  · replace h := h.2 c
    refine jW.iload_n (dx_MB_isPunctuation 15 (e := (30, .iload_n 0, 1)) rfl) rfl rfl (pc' := 31) rfl ?_
    refine jW.bipush (v := 96) (dx_MB_isPunctuation 16 (e := (31, .bipush 96, 2)) rfl) (by decide) (pc' := 33) rfl ?_
    refine jW.icmp_le (dx_MB_isPunctuation 17 (e := (33, .if_icmp .le 15, 3)) rfl) 48 (by decide) (pc' := 36) rfl (fun c => ?_) (fun c => ?_)
    · replace h := h.1 c
      exact t_MB_isPunctuation_48 F hV h
    · replace h := h.2 c
      exact t_MB_isPunctuation_36 F hV h
def w_MB_isPunctuation_12 (X : CX) (x0 : Int32) (m : CS) (Φ : Option Value → CS → Prop) : Prop := ((x0 < 58 → w_MB_isPunctuation_24 X (x0) m Φ) ∧ (¬ x0 < 58 → ((x0 ≤ 64 → w_MB_isPunctuation_48 X (x0) m Φ) ∧ (¬ x0 ≤ 64 → w_MB_isPunctuation_24 X (x0) m Φ))))
theorem t_MB_isPunctuation_12 {X : CX} {a0 : Array Value} (F : cF X a0) {d : Nat} {x0 : Int32} {m : CS} {σ : jS} {Φ : Option Value → CS → Prop} (hV : CV X m σ) (h : w_MB_isPunctuation_12 X x0 m Φ) : jW X.1 X.2.1 jcl X.2.2.1 X.2.2.2.1 (d + 0) y_MB_isPunctuation 12 [some (.int x0)] [] σ (cP X Φ) := by
  unfold w_MB_isPunctuation_12 at h
  refine jW.iload_n (dx_MB_isPunctuation 6 (e := (12, .iload_n 0, 1)) rfl) rfl rfl (pc' := 13) rfl ?_
  refine jW.bipush (v := 58) (dx_MB_isPunctuation 7 (e := (13, .bipush 58, 2)) rfl) (by decide) (pc' := 15) rfl ?_
  refine jW.icmp_lt (dx_MB_isPunctuation 8 (e := (15, .if_icmp .lt 9, 3)) rfl) 24 (by decide) (pc' := 18) rfl (fun c => ?_) (fun c => ?_)
  · replace h := h.1 c
    exact t_MB_isPunctuation_24 F hV h
  · replace h := h.2 c
    refine jW.iload_n (dx_MB_isPunctuation 9 (e := (18, .iload_n 0, 1)) rfl) rfl rfl (pc' := 19) rfl ?_
    refine jW.bipush (v := 64) (dx_MB_isPunctuation 10 (e := (19, .bipush 64, 2)) rfl) (by decide) (pc' := 21) rfl ?_
    refine jW.icmp_le (dx_MB_isPunctuation 11 (e := (21, .if_icmp .le 27, 3)) rfl) 48 (by decide) (pc' := 24) rfl (fun c => ?_) (fun c => ?_)
    · replace h := h.1 c
      exact t_MB_isPunctuation_48 F hV h
    · replace h := h.2 c
      exact t_MB_isPunctuation_24 F hV h
def w_MB_isPunctuation_0 (X : CX) (x0 : Int32) (m : CS) (Φ : Option Value → CS → Prop) : Prop := ((x0 < 33 → w_MB_isPunctuation_12 X (x0) m Φ) ∧ (¬ x0 < 33 → ((x0 ≤ 47 → w_MB_isPunctuation_48 X (x0) m Φ) ∧ (¬ x0 ≤ 47 → w_MB_isPunctuation_12 X (x0) m Φ))))
theorem t_MB_isPunctuation_0 {X : CX} {a0 : Array Value} (F : cF X a0) {d : Nat} {x0 : Int32} {m : CS} {σ : jS} {Φ : Option Value → CS → Prop} (hV : CV X m σ) (h : w_MB_isPunctuation_0 X x0 m Φ) : jW X.1 X.2.1 jcl X.2.2.1 X.2.2.2.1 (d + 0) y_MB_isPunctuation 0 [some (.int x0)] [] σ (cP X Φ) := by
  unfold w_MB_isPunctuation_0 at h
  refine jW.iload_n (dx_MB_isPunctuation 0 (e := (0, .iload_n 0, 1)) rfl) rfl rfl (pc' := 1) rfl ?_
  refine jW.bipush (v := 33) (dx_MB_isPunctuation 1 (e := (1, .bipush 33, 2)) rfl) (by decide) (pc' := 3) rfl ?_
  refine jW.icmp_lt (dx_MB_isPunctuation 2 (e := (3, .if_icmp .lt 9, 3)) rfl) 12 (by decide) (pc' := 6) rfl (fun c => ?_) (fun c => ?_)
  · replace h := h.1 c
    exact t_MB_isPunctuation_12 F hV h
  · replace h := h.2 c
    refine jW.iload_n (dx_MB_isPunctuation 3 (e := (6, .iload_n 0, 1)) rfl) rfl rfl (pc' := 7) rfl ?_
    refine jW.bipush (v := 47) (dx_MB_isPunctuation 4 (e := (7, .bipush 47, 2)) rfl) (by decide) (pc' := 9) rfl ?_
    refine jW.icmp_le (dx_MB_isPunctuation 5 (e := (9, .if_icmp .le 39, 3)) rfl) 48 (by decide) (pc' := 12) rfl (fun c => ?_) (fun c => ?_)
    · replace h := h.1 c
      exact t_MB_isPunctuation_48 F hV h
    · replace h := h.2 c
      exact t_MB_isPunctuation_12 F hV h
theorem g_MB_isPunctuation {X : CX} {a0 : Array Value} (F : cF X a0) {x0 : Int32} {m : CS} {Φ : Option Value → CS → Prop} (he : w_MB_isPunctuation_0 X x0 m Φ) : cE X 0 y_MB_isPunctuation [.int x0] m Φ := by
  intro d σ hV
  refine jE.of (by decide) (by simp [Value.category]) (Nat.le_of_ble_eq_true rfl) rfl ?_
  exact t_MB_isPunctuation_0 F hV he
def w_Lab_digit_72 (X : CX) (x0 : Int32) (x1 : Int32) (s0 : Int32) (m : CS) (Φ : Option Value → CS → Prop) : Prop := Φ (some (.int (s0))) m
theorem t_Lab_digit_72 {X : CX} {a0 : Array Value} (F : cF X a0) {d : Nat} {x0 : Int32} {x1 : Int32} {s0 : Int32} {m : CS} {σ : jS} {Φ : Option Value → CS → Prop} (hV : CV X m σ) (h : w_Lab_digit_72 X x0 x1 s0 m Φ) : jW X.1 X.2.1 jcl X.2.2.1 X.2.2.2.1 (d + 0) y_Lab_digit 72 [some (.int x0), some (.int x1)] [.int s0] σ (cP X Φ) := by
  unfold w_Lab_digit_72 at h
  exact jW.iret (dx_Lab_digit 41 (e := (72, .ireturn, 1)) rfl) rfl ⟨_, hV, h⟩
def w_Lab_digit_71 (X : CX) (x0 : Int32) (x1 : Int32) (m : CS) (Φ : Option Value → CS → Prop) : Prop := w_Lab_digit_72 X (x0) (x1) (-1) m Φ
theorem t_Lab_digit_71 {X : CX} {a0 : Array Value} (F : cF X a0) {d : Nat} {x0 : Int32} {x1 : Int32} {m : CS} {σ : jS} {Φ : Option Value → CS → Prop} (hV : CV X m σ) (h : w_Lab_digit_71 X x0 x1 m Φ) : jW X.1 X.2.1 jcl X.2.2.1 X.2.2.2.1 (d + 0) y_Lab_digit 71 [some (.int x0), some (.int x1)] [] σ (cP X Φ) := by
  unfold w_Lab_digit_71 at h
  refine jW.iconst (v := -1) (dx_Lab_digit 40 (e := (71, .iconst (-1), 1)) rfl) (by decide) (pc' := 72) rfl ?_
  exact t_Lab_digit_72 F hV h
def w_Lab_digit_43 (X : CX) (x0 : Int32) (x1 : Int32) (m : CS) (Φ : Option Value → CS → Prop) : Prop := ((x1 = 16 → ((x0 < 65 → w_Lab_digit_71 X (x0) (x1) m Φ) ∧ (¬ x0 < 65 → ((70 < x0 → w_Lab_digit_71 X (x0) (x1) m Φ) ∧ (¬ 70 < x0 → w_Lab_digit_72 X (x0) (x1) ((x0 - 65) + 10) m Φ))))) ∧ (¬ x1 = 16 → w_Lab_digit_71 X (x0) (x1) m Φ))
theorem t_Lab_digit_43 {X : CX} {a0 : Array Value} (F : cF X a0) {d : Nat} {x0 : Int32} {x1 : Int32} {m : CS} {σ : jS} {Φ : Option Value → CS → Prop} (hV : CV X m σ) (h : w_Lab_digit_43 X x0 x1 m Φ) : jW X.1 X.2.1 jcl X.2.2.1 X.2.2.2.1 (d + 0) y_Lab_digit 43 [some (.int x0), some (.int x1)] [] σ (cP X Φ) := by
  unfold w_Lab_digit_43 at h
  refine jW.iload_n (dx_Lab_digit 25 (e := (43, .iload_n 1, 1)) rfl) rfl rfl (pc' := 44) rfl ?_
  refine jW.bipush (v := 16) (dx_Lab_digit 26 (e := (44, .bipush 16, 2)) rfl) (by decide) (pc' := 46) rfl ?_
  refine jW.icmp_ne (dx_Lab_digit 27 (e := (46, .if_icmp .ne 25, 3)) rfl) 71 (by decide) (pc' := 49) rfl (fun c => ?_) (fun c => ?_)
  · replace h := h.2 c
    exact t_Lab_digit_71 F hV h
  · replace h := h.1 c
    refine jW.iload_n (dx_Lab_digit 28 (e := (49, .iload_n 0, 1)) rfl) rfl rfl (pc' := 50) rfl ?_
    refine jW.bipush (v := 65) (dx_Lab_digit 29 (e := (50, .bipush 65, 2)) rfl) (by decide) (pc' := 52) rfl ?_
    refine jW.icmp_lt (dx_Lab_digit 30 (e := (52, .if_icmp .lt 19, 3)) rfl) 71 (by decide) (pc' := 55) rfl (fun c => ?_) (fun c => ?_)
    · replace h := h.1 c
      exact t_Lab_digit_71 F hV h
    · replace h := h.2 c
      refine jW.iload_n (dx_Lab_digit 31 (e := (55, .iload_n 0, 1)) rfl) rfl rfl (pc' := 56) rfl ?_
      refine jW.bipush (v := 70) (dx_Lab_digit 32 (e := (56, .bipush 70, 2)) rfl) (by decide) (pc' := 58) rfl ?_
      refine jW.icmp_gt (dx_Lab_digit 33 (e := (58, .if_icmp .gt 13, 3)) rfl) 71 (by decide) (pc' := 61) rfl (fun c => ?_) (fun c => ?_)
      · replace h := h.1 c
        exact t_Lab_digit_71 F hV h
      · replace h := h.2 c
        refine jW.iload_n (dx_Lab_digit 34 (e := (61, .iload_n 0, 1)) rfl) rfl rfl (pc' := 62) rfl ?_
        refine jW.bipush (v := 65) (dx_Lab_digit 35 (e := (62, .bipush 65, 2)) rfl) (by decide) (pc' := 64) rfl ?_
        refine jW.isub (dx_Lab_digit 36 (e := (64, .isub, 1)) rfl) (pc' := 65) rfl ?_
        refine jW.bipush (v := 10) (dx_Lab_digit 37 (e := (65, .bipush 10, 2)) rfl) (by decide) (pc' := 67) rfl ?_
        refine jW.iadd (dx_Lab_digit 38 (e := (67, .iadd, 1)) rfl) (pc' := 68) rfl ?_
        refine jW.goto (dx_Lab_digit 39 (e := (68, .goto 4, 3)) rfl) 72 (by decide) ?_
        exact t_Lab_digit_72 F hV h
def w_Lab_digit_17 (X : CX) (x0 : Int32) (x1 : Int32) (m : CS) (Φ : Option Value → CS → Prop) : Prop := ((x1 = 16 → ((x0 < 97 → w_Lab_digit_43 X (x0) (x1) m Φ) ∧ (¬ x0 < 97 → ((102 < x0 → w_Lab_digit_43 X (x0) (x1) m Φ) ∧ (¬ 102 < x0 → Φ (some (.int ((x0 - 97) + 10))) m))))) ∧ (¬ x1 = 16 → w_Lab_digit_43 X (x0) (x1) m Φ))
theorem t_Lab_digit_17 {X : CX} {a0 : Array Value} (F : cF X a0) {d : Nat} {x0 : Int32} {x1 : Int32} {m : CS} {σ : jS} {Φ : Option Value → CS → Prop} (hV : CV X m σ) (h : w_Lab_digit_17 X x0 x1 m Φ) : jW X.1 X.2.1 jcl X.2.2.1 X.2.2.2.1 (d + 0) y_Lab_digit 17 [some (.int x0), some (.int x1)] [] σ (cP X Φ) := by
  unfold w_Lab_digit_17 at h
  refine jW.iload_n (dx_Lab_digit 10 (e := (17, .iload_n 1, 1)) rfl) rfl rfl (pc' := 18) rfl ?_
  refine jW.bipush (v := 16) (dx_Lab_digit 11 (e := (18, .bipush 16, 2)) rfl) (by decide) (pc' := 20) rfl ?_
  refine jW.icmp_ne (dx_Lab_digit 12 (e := (20, .if_icmp .ne 23, 3)) rfl) 43 (by decide) (pc' := 23) rfl (fun c => ?_) (fun c => ?_)
  · replace h := h.2 c
    exact t_Lab_digit_43 F hV h
  · replace h := h.1 c
    refine jW.iload_n (dx_Lab_digit 13 (e := (23, .iload_n 0, 1)) rfl) rfl rfl (pc' := 24) rfl ?_
    refine jW.bipush (v := 97) (dx_Lab_digit 14 (e := (24, .bipush 97, 2)) rfl) (by decide) (pc' := 26) rfl ?_
    refine jW.icmp_lt (dx_Lab_digit 15 (e := (26, .if_icmp .lt 17, 3)) rfl) 43 (by decide) (pc' := 29) rfl (fun c => ?_) (fun c => ?_)
    · replace h := h.1 c
      exact t_Lab_digit_43 F hV h
    · replace h := h.2 c
      refine jW.iload_n (dx_Lab_digit 16 (e := (29, .iload_n 0, 1)) rfl) rfl rfl (pc' := 30) rfl ?_
      refine jW.bipush (v := 102) (dx_Lab_digit 17 (e := (30, .bipush 102, 2)) rfl) (by decide) (pc' := 32) rfl ?_
      refine jW.icmp_gt (dx_Lab_digit 18 (e := (32, .if_icmp .gt 11, 3)) rfl) 43 (by decide) (pc' := 35) rfl (fun c => ?_) (fun c => ?_)
      · replace h := h.1 c
        exact t_Lab_digit_43 F hV h
      · replace h := h.2 c
        refine jW.iload_n (dx_Lab_digit 19 (e := (35, .iload_n 0, 1)) rfl) rfl rfl (pc' := 36) rfl ?_
        refine jW.bipush (v := 97) (dx_Lab_digit 20 (e := (36, .bipush 97, 2)) rfl) (by decide) (pc' := 38) rfl ?_
        refine jW.isub (dx_Lab_digit 21 (e := (38, .isub, 1)) rfl) (pc' := 39) rfl ?_
        refine jW.bipush (v := 10) (dx_Lab_digit 22 (e := (39, .bipush 10, 2)) rfl) (by decide) (pc' := 41) rfl ?_
        refine jW.iadd (dx_Lab_digit 23 (e := (41, .iadd, 1)) rfl) (pc' := 42) rfl ?_
        exact jW.iret (dx_Lab_digit 24 (e := (42, .ireturn, 1)) rfl) rfl ⟨_, hV, h⟩
def w_Lab_digit_0 (X : CX) (x0 : Int32) (x1 : Int32) (m : CS) (Φ : Option Value → CS → Prop) : Prop := ((x0 < 48 → w_Lab_digit_17 X (x0) (x1) m Φ) ∧ (¬ x0 < 48 → ((57 < x0 → w_Lab_digit_17 X (x0) (x1) m Φ) ∧ (¬ 57 < x0 → Φ (some (.int (x0 - 48))) m))))
theorem t_Lab_digit_0 {X : CX} {a0 : Array Value} (F : cF X a0) {d : Nat} {x0 : Int32} {x1 : Int32} {m : CS} {σ : jS} {Φ : Option Value → CS → Prop} (hV : CV X m σ) (h : w_Lab_digit_0 X x0 x1 m Φ) : jW X.1 X.2.1 jcl X.2.2.1 X.2.2.2.1 (d + 0) y_Lab_digit 0 [some (.int x0), some (.int x1)] [] σ (cP X Φ) := by
  unfold w_Lab_digit_0 at h
  refine jW.iload_n (dx_Lab_digit 0 (e := (0, .iload_n 0, 1)) rfl) rfl rfl (pc' := 1) rfl ?_
  refine jW.bipush (v := 48) (dx_Lab_digit 1 (e := (1, .bipush 48, 2)) rfl) (by decide) (pc' := 3) rfl ?_
  refine jW.icmp_lt (dx_Lab_digit 2 (e := (3, .if_icmp .lt 14, 3)) rfl) 17 (by decide) (pc' := 6) rfl (fun c => ?_) (fun c => ?_)
  · replace h := h.1 c
    exact t_Lab_digit_17 F hV h
  · replace h := h.2 c
    refine jW.iload_n (dx_Lab_digit 3 (e := (6, .iload_n 0, 1)) rfl) rfl rfl (pc' := 7) rfl ?_
    refine jW.bipush (v := 57) (dx_Lab_digit 4 (e := (7, .bipush 57, 2)) rfl) (by decide) (pc' := 9) rfl ?_
    refine jW.icmp_gt (dx_Lab_digit 5 (e := (9, .if_icmp .gt 8, 3)) rfl) 17 (by decide) (pc' := 12) rfl (fun c => ?_) (fun c => ?_)
    · replace h := h.1 c
      exact t_Lab_digit_17 F hV h
    · replace h := h.2 c
      refine jW.iload_n (dx_Lab_digit 6 (e := (12, .iload_n 0, 1)) rfl) rfl rfl (pc' := 13) rfl ?_
      refine jW.bipush (v := 48) (dx_Lab_digit 7 (e := (13, .bipush 48, 2)) rfl) (by decide) (pc' := 15) rfl ?_
      refine jW.isub (dx_Lab_digit 8 (e := (15, .isub, 1)) rfl) (pc' := 16) rfl ?_
      exact jW.iret (dx_Lab_digit 9 (e := (16, .ireturn, 1)) rfl) rfl ⟨_, hV, h⟩
theorem g_Lab_digit {X : CX} {a0 : Array Value} (F : cF X a0) {x0 : Int32} {x1 : Int32} {m : CS} {Φ : Option Value → CS → Prop} (he : w_Lab_digit_0 X x0 x1 m Φ) : cE X 0 y_Lab_digit [.int x0, .int x1] m Φ := by
  intro d σ hV
  refine jE.of (by decide) (by simp [Value.category]) (Nat.le_of_ble_eq_true rfl) rfl ?_
  exact t_Lab_digit_0 F hV he
def w_Lab_clear_0 (X : CX) (m : CS) (Φ : Option Value → CS → Prop) : Prop := cE X 0 y_Row_cut [.ref (adr X 12), .int (0)] m (cvP fun m1 => cE X 0 y_Row_cut [.ref (adr X 13), .int (0)] m1 (cvP fun m2 => Φ none m2))
theorem t_Lab_clear_0 {X : CX} {a0 : Array Value} (F : cF X a0) {d : Nat} {m : CS} {σ : jS} {Φ : Option Value → CS → Prop} (hV : CV X m σ) (h : w_Lab_clear_0 X m Φ) : jW X.1 X.2.1 jcl X.2.2.1 X.2.2.2.1 (d + 1) y_Lab_clear 0 [some (.ref (adr X 4))] [] σ (cP X Φ) := by
  unfold w_Lab_clear_0 at h
  refine jW.aload_n (dx_Lab_clear 0 (e := (0, .aload_n 0, 1)) rfl) rfl rfl (pc' := 1) rfl ?_
  refine jW.cg (κ := 4) (k := 1) F hV.s4 f_Lab_clear_1 (by decide) rfl (pc' := 4) rfl ?_
  refine jW.iconst (v := 0) (dx_Lab_clear 2 (e := (4, .iconst 0, 1)) rfl) (by decide) (pc' := 5) rfl ?_
  refine jW.callVe F (h (d + 0) _ hV) (dx_Lab_clear 3 (e := (5, .invokevirtual 24, 3)) rfl) can_Row_cut jw_502 jw_397 (hV.clr (κ := 12) (by unfold isR; decide)) rfl jw_398 rfl rfl (Nat.le_of_ble_eq_true rfl) (pc' := 8) rfl (fun r σ hr => ?_)
  clear hV
  obtain ⟨_, hV, rfl, h⟩ := hr
  refine jW.aload_n (dx_Lab_clear 4 (e := (8, .aload_n 0, 1)) rfl) rfl rfl (pc' := 9) rfl ?_
  refine jW.cg (κ := 4) (k := 2) F hV.s4 f_Lab_clear_9 (by decide) rfl (pc' := 12) rfl ?_
  refine jW.iconst (v := 0) (dx_Lab_clear 6 (e := (12, .iconst 0, 1)) rfl) (by decide) (pc' := 13) rfl ?_
  refine jW.callVe F (h (d + 0) _ hV) (dx_Lab_clear 7 (e := (13, .invokevirtual 24, 3)) rfl) can_Row_cut jw_502 jw_397 (hV.clr (κ := 13) (by unfold isR; decide)) rfl jw_398 rfl rfl (Nat.le_of_ble_eq_true rfl) (pc' := 16) rfl (fun r σ hr => ?_)
  clear hV
  obtain ⟨_, hV, rfl, h⟩ := hr
  exact jW.vret (dx_Lab_clear 8 (e := (16, .return_, 1)) rfl) rfl ⟨_, hV, h⟩
theorem g_Lab_clear {X : CX} {a0 : Array Value} (F : cF X a0) {m : CS} {Φ : Option Value → CS → Prop} (he : w_Lab_clear_0 X m Φ) : cE X 1 y_Lab_clear [.ref (adr X 4)] m Φ := by
  intro d σ hV
  refine jE.of (by decide) (by simp [Value.category]) (Nat.le_of_ble_eq_true rfl) rfl ?_
  exact t_Lab_clear_0 F hV he
def w_Lab_size_0 (X : CX) (m : CS) (Φ : Option Value → CS → Prop) : Prop := cE X 0 y_Row_size [.ref (adr X 13)] m (ciP fun r1 m1 => Φ (some (.int (r1 / 3))) m1)
theorem t_Lab_size_0 {X : CX} {a0 : Array Value} (F : cF X a0) {d : Nat} {m : CS} {σ : jS} {Φ : Option Value → CS → Prop} (hV : CV X m σ) (h : w_Lab_size_0 X m Φ) : jW X.1 X.2.1 jcl X.2.2.1 X.2.2.2.1 (d + 1) y_Lab_size 0 [some (.ref (adr X 4))] [] σ (cP X Φ) := by
  unfold w_Lab_size_0 at h
  refine jW.aload_n (dx_Lab_size 0 (e := (0, .aload_n 0, 1)) rfl) rfl rfl (pc' := 1) rfl ?_
  refine jW.cg (κ := 4) (k := 2) F hV.s4 f_Lab_size_1 (by decide) rfl (pc' := 4) rfl ?_
  refine jW.callVe F (h (d + 0) _ hV) (dx_Lab_size 2 (e := (4, .invokevirtual 28, 3)) rfl) can_Row_size jw_450 jw_372 (hV.clr (κ := 13) (by unfold isR; decide)) rfl jw_373 rfl rfl (Nat.le_of_ble_eq_true rfl) (pc' := 7) rfl (fun r σ hr => ?_)
  clear hV
  obtain ⟨_, hV, _, rfl, h⟩ := hr
  refine jW.iconst (v := 3) (dx_Lab_size 3 (e := (7, .iconst 3, 1)) rfl) (by decide) (pc' := 8) rfl ?_
  refine jW.idiv (dx_Lab_size 4 (e := (8, .idiv, 1)) rfl) (by decide) (pc' := 9) rfl ?_
  exact jW.iret (dx_Lab_size 5 (e := (9, .ireturn, 1)) rfl) rfl ⟨_, hV, h⟩
theorem g_Lab_size {X : CX} {a0 : Array Value} (F : cF X a0) {m : CS} {Φ : Option Value → CS → Prop} (he : w_Lab_size_0 X m Φ) : cE X 1 y_Lab_size [.ref (adr X 4)] m Φ := by
  intro d σ hV
  refine jE.of (by decide) (by simp [Value.category]) (Nat.le_of_ble_eq_true rfl) rfl ?_
  exact t_Lab_size_0 F hV he
def w_Lab_partTo_0 (X : CX) (x1 : Int32) (x2 : Int32) (m : CS) (Φ : Option Value → CS → Prop) : Prop := cE X 0 y_Row_at [.ref (adr X 13), .int ((3 * x1) + x2)] m (ciP fun r1 m1 => Φ (some (.int (r1))) m1)
theorem t_Lab_partTo_0 {X : CX} {a0 : Array Value} (F : cF X a0) {d : Nat} {x1 : Int32} {x2 : Int32} {m : CS} {σ : jS} {Φ : Option Value → CS → Prop} (hV : CV X m σ) (h : w_Lab_partTo_0 X x1 x2 m Φ) : jW X.1 X.2.1 jcl X.2.2.1 X.2.2.2.1 (d + 1) y_Lab_partTo 0 [some (.ref (adr X 4)), some (.int x1), some (.int x2)] [] σ (cP X Φ) := by
  unfold w_Lab_partTo_0 at h
  refine jW.aload_n (dx_Lab_partTo 0 (e := (0, .aload_n 0, 1)) rfl) rfl rfl (pc' := 1) rfl ?_
  refine jW.cg (κ := 4) (k := 2) F hV.s4 f_Lab_partTo_1 (by decide) rfl (pc' := 4) rfl ?_
  refine jW.iconst (v := 3) (dx_Lab_partTo 2 (e := (4, .iconst 3, 1)) rfl) (by decide) (pc' := 5) rfl ?_
  refine jW.iload_n (dx_Lab_partTo 3 (e := (5, .iload_n 1, 1)) rfl) rfl rfl (pc' := 6) rfl ?_
  refine jW.imul (dx_Lab_partTo 4 (e := (6, .imul, 1)) rfl) (pc' := 7) rfl ?_
  refine jW.iload_n (dx_Lab_partTo 5 (e := (7, .iload_n 2, 1)) rfl) rfl rfl (pc' := 8) rfl ?_
  refine jW.iadd (dx_Lab_partTo 6 (e := (8, .iadd, 1)) rfl) (pc' := 9) rfl ?_
  refine jW.callVe F (h (d + 0) _ hV) (dx_Lab_partTo 7 (e := (9, .invokevirtual 43, 3)) rfl) can_Row_at jw_464 jw_439 (hV.clr (κ := 13) (by unfold isR; decide)) rfl jw_440 rfl rfl (Nat.le_of_ble_eq_true rfl) (pc' := 12) rfl (fun r σ hr => ?_)
  clear hV
  obtain ⟨_, hV, _, rfl, h⟩ := hr
  exact jW.iret (dx_Lab_partTo 8 (e := (12, .ireturn, 1)) rfl) rfl ⟨_, hV, h⟩
theorem g_Lab_partTo {X : CX} {a0 : Array Value} (F : cF X a0) {x1 : Int32} {x2 : Int32} {m : CS} {Φ : Option Value → CS → Prop} (he : w_Lab_partTo_0 X x1 x2 m Φ) : cE X 1 y_Lab_partTo [.ref (adr X 4), .int x1, .int x2] m Φ := by
  intro d σ hV
  refine jE.of (by decide) (by simp [Value.category]) (Nat.le_of_ble_eq_true rfl) rfl ?_
  exact t_Lab_partTo_0 F hV he
def w_Lab_partFrom_24 (X : CX) (x1 : Int32) (x2 : Int32) (x3 : Int32) (s0 : Int32) (m : CS) (Φ : Option Value → CS → Prop) : Prop := Φ (some (.int (s0))) m
theorem t_Lab_partFrom_24 {X : CX} {a0 : Array Value} (F : cF X a0) {d : Nat} {x1 : Int32} {x2 : Int32} {x3 : Int32} {s0 : Int32} {m : CS} {σ : jS} {Φ : Option Value → CS → Prop} (hV : CV X m σ) (h : w_Lab_partFrom_24 X x1 x2 x3 s0 m Φ) : jW X.1 X.2.1 jcl X.2.2.1 X.2.2.2.1 (d + 1) y_Lab_partFrom 24 [some (.ref (adr X 4)), some (.int x1), some (.int x2), some (.int x3)] [.int s0] σ (cP X Φ) := by
  unfold w_Lab_partFrom_24 at h
  exact jW.iret (dx_Lab_partFrom 16 (e := (24, .ireturn, 1)) rfl) rfl ⟨_, hV, h⟩
def w_Lab_partFrom_0 (X : CX) (x1 : Int32) (x2 : Int32) (m : CS) (Φ : Option Value → CS → Prop) : Prop := (((3 * x1) + x2 = 0 → w_Lab_partFrom_24 X (x1) (x2) ((3 * x1) + x2) (0) m Φ) ∧ (¬ (3 * x1) + x2 = 0 → cE X 0 y_Row_at [.ref (adr X 13), .int (((3 * x1) + x2) - 1)] m (ciP fun r1 m1 => w_Lab_partFrom_24 X (x1) (x2) ((3 * x1) + x2) (r1) m1 Φ)))
theorem t_Lab_partFrom_0 {X : CX} {a0 : Array Value} (F : cF X a0) {d : Nat} {x1 : Int32} {x2 : Int32} {o3 : Option Value} {m : CS} {σ : jS} {Φ : Option Value → CS → Prop} (hV : CV X m σ) (h : w_Lab_partFrom_0 X x1 x2 m Φ) : jW X.1 X.2.1 jcl X.2.2.1 X.2.2.2.1 (d + 1) y_Lab_partFrom 0 [some (.ref (adr X 4)), some (.int x1), some (.int x2), o3] [] σ (cP X Φ) := by
  unfold w_Lab_partFrom_0 at h
  refine jW.iconst (v := 3) (dx_Lab_partFrom 0 (e := (0, .iconst 3, 1)) rfl) (by decide) (pc' := 1) rfl ?_
  refine jW.iload_n (dx_Lab_partFrom 1 (e := (1, .iload_n 1, 1)) rfl) rfl rfl (pc' := 2) rfl ?_
  refine jW.imul (dx_Lab_partFrom 2 (e := (2, .imul, 1)) rfl) (pc' := 3) rfl ?_
  refine jW.iload_n (dx_Lab_partFrom 3 (e := (3, .iload_n 2, 1)) rfl) rfl rfl (pc' := 4) rfl ?_
  refine jW.iadd (dx_Lab_partFrom 4 (e := (4, .iadd, 1)) rfl) (pc' := 5) rfl ?_
  refine jW.istore_n (dx_Lab_partFrom 5 (e := (5, .istore_n 3, 1)) rfl) rfl (by decide) rfl (pc' := 6) rfl ?_
  refine jW.iload_n (dx_Lab_partFrom 6 (e := (6, .iload_n 3, 1)) rfl) rfl rfl (pc' := 7) rfl ?_
  refine jW.if_ne (dx_Lab_partFrom 7 (e := (7, .ifCond .ne 7, 3)) rfl) 14 (by decide) (pc' := 10) rfl (fun c => ?_) (fun c => ?_)
  · replace h := h.2 c
    refine jW.aload_n (dx_Lab_partFrom 10 (e := (14, .aload_n 0, 1)) rfl) rfl rfl (pc' := 15) rfl ?_
    refine jW.cg (κ := 4) (k := 2) F hV.s4 f_Lab_partFrom_15 (by decide) rfl (pc' := 18) rfl ?_
    refine jW.iload_n (dx_Lab_partFrom 12 (e := (18, .iload_n 3, 1)) rfl) rfl rfl (pc' := 19) rfl ?_
    refine jW.iconst (v := 1) (dx_Lab_partFrom 13 (e := (19, .iconst 1, 1)) rfl) (by decide) (pc' := 20) rfl ?_
    refine jW.isub (dx_Lab_partFrom 14 (e := (20, .isub, 1)) rfl) (pc' := 21) rfl ?_
    refine jW.callVe F (h (d + 0) _ hV) (dx_Lab_partFrom 15 (e := (21, .invokevirtual 43, 3)) rfl) can_Row_at jw_464 jw_439 (hV.clr (κ := 13) (by unfold isR; decide)) rfl jw_440 rfl rfl (Nat.le_of_ble_eq_true rfl) (pc' := 24) rfl (fun r σ hr => ?_)
    clear hV
    obtain ⟨_, hV, _, rfl, h⟩ := hr
    exact t_Lab_partFrom_24 F hV h
  · replace h := h.1 c
    refine jW.iconst (v := 0) (dx_Lab_partFrom 8 (e := (10, .iconst 0, 1)) rfl) (by decide) (pc' := 11) rfl ?_
    refine jW.goto (dx_Lab_partFrom 9 (e := (11, .goto 13, 3)) rfl) 24 (by decide) ?_
    exact t_Lab_partFrom_24 F hV h
theorem g_Lab_partFrom {X : CX} {a0 : Array Value} (F : cF X a0) {x1 : Int32} {x2 : Int32} {m : CS} {Φ : Option Value → CS → Prop} (he : w_Lab_partFrom_0 X x1 x2 m Φ) : cE X 1 y_Lab_partFrom [.ref (adr X 4), .int x1, .int x2] m Φ := by
  intro d σ hV
  refine jE.of (by decide) (by simp [Value.category]) (Nat.le_of_ble_eq_true rfl) rfl ?_
  exact t_Lab_partFrom_0 F hV he
def w_Lab_partLength_21 (X : CX) (x1 : Int32) (x2 : Int32) (m : CS) (Φ : Option Value → CS → Prop) : Prop := Φ (some (.int (-1))) m
theorem t_Lab_partLength_21 {X : CX} {a0 : Array Value} (F : cF X a0) {d : Nat} {x1 : Int32} {x2 : Int32} {m : CS} {σ : jS} {Φ : Option Value → CS → Prop} (hV : CV X m σ) (h : w_Lab_partLength_21 X x1 x2 m Φ) : jW X.1 X.2.1 jcl X.2.2.1 X.2.2.2.1 (d + 2) y_Lab_partLength 21 [some (.ref (adr X 4)), some (.int x1), some (.int x2)] [] σ (cP X Φ) := by
  unfold w_Lab_partLength_21 at h
  refine jW.iconst (v := -1) (dx_Lab_partLength 11 (e := (21, .iconst (-1), 1)) rfl) (by decide) (pc' := 22) rfl ?_
  exact jW.iret (dx_Lab_partLength 12 (e := (22, .ireturn, 1)) rfl) rfl ⟨_, hV, h⟩
def w_Lab_partLength_0 (X : CX) (x1 : Int32) (x2 : Int32) (m : CS) (Φ : Option Value → CS → Prop) : Prop := ((x1 < 0 → w_Lab_partLength_21 X (x1) (x2) m Φ) ∧ (¬ x1 < 0 → cE X 1 y_Lab_size [.ref (adr X 4)] m (ciP fun r1 m1 => ((r1 ≤ x1 → w_Lab_partLength_21 X (x1) (x2) m1 Φ) ∧ (¬ r1 ≤ x1 → ((x2 < 0 → w_Lab_partLength_21 X (x1) (x2) m1 Φ) ∧ (¬ x2 < 0 → ((x2 < 3 → cE X 1 y_Lab_partTo [.ref (adr X 4), .int (x1), .int (x2)] m1 (ciP fun r2 m2 => cE X 1 y_Lab_partFrom [.ref (adr X 4), .int (x1), .int (x2)] m2 (ciP fun r3 m3 => Φ (some (.int (r2 - r3))) m3))) ∧ (¬ x2 < 3 → w_Lab_partLength_21 X (x1) (x2) m1 Φ)))))))))
theorem t_Lab_partLength_0 {X : CX} {a0 : Array Value} (F : cF X a0) {d : Nat} {x1 : Int32} {x2 : Int32} {m : CS} {σ : jS} {Φ : Option Value → CS → Prop} (hV : CV X m σ) (h : w_Lab_partLength_0 X x1 x2 m Φ) : jW X.1 X.2.1 jcl X.2.2.1 X.2.2.2.1 (d + 2) y_Lab_partLength 0 [some (.ref (adr X 4)), some (.int x1), some (.int x2)] [] σ (cP X Φ) := by
  unfold w_Lab_partLength_0 at h
  refine jW.iload_n (dx_Lab_partLength 0 (e := (0, .iload_n 1, 1)) rfl) rfl rfl (pc' := 1) rfl ?_
  refine jW.if_lt (dx_Lab_partLength 1 (e := (1, .ifCond .lt 20, 3)) rfl) 21 (by decide) (pc' := 4) rfl (fun c => ?_) (fun c => ?_)
  · replace h := h.1 c
    exact t_Lab_partLength_21 F hV h
  · replace h := h.2 c
    refine jW.iload_n (dx_Lab_partLength 2 (e := (4, .iload_n 1, 1)) rfl) rfl rfl (pc' := 5) rfl ?_
    refine jW.aload_n (dx_Lab_partLength 3 (e := (5, .aload_n 0, 1)) rfl) rfl rfl (pc' := 6) rfl ?_
    refine jW.callVe F (h (d + 0) _ hV) (dx_Lab_partLength 4 (e := (6, .invokevirtual 32, 3)) rfl) can_Lab_size jw_459 jw_447 hV.cl4 rfl jw_448 rfl rfl (Nat.le_of_ble_eq_true rfl) (pc' := 9) rfl (fun r σ hr => ?_)
    clear hV
    obtain ⟨_, hV, _, rfl, h⟩ := hr
    refine jW.icmp_ge (dx_Lab_partLength 5 (e := (9, .if_icmp .ge 12, 3)) rfl) 21 (by decide) (pc' := 12) rfl (fun c => ?_) (fun c => ?_)
    · replace h := h.1 c
      exact t_Lab_partLength_21 F hV h
    · replace h := h.2 c
      refine jW.iload_n (dx_Lab_partLength 6 (e := (12, .iload_n 2, 1)) rfl) rfl rfl (pc' := 13) rfl ?_
      refine jW.if_lt (dx_Lab_partLength 7 (e := (13, .ifCond .lt 8, 3)) rfl) 21 (by decide) (pc' := 16) rfl (fun c => ?_) (fun c => ?_)
      · replace h := h.1 c
        exact t_Lab_partLength_21 F hV h
      · replace h := h.2 c
        refine jW.iload_n (dx_Lab_partLength 8 (e := (16, .iload_n 2, 1)) rfl) rfl rfl (pc' := 17) rfl ?_
        refine jW.iconst (v := 3) (dx_Lab_partLength 9 (e := (17, .iconst 3, 1)) rfl) (by decide) (pc' := 18) rfl ?_
        refine jW.icmp_lt (dx_Lab_partLength 10 (e := (18, .if_icmp .lt 5, 3)) rfl) 23 (by decide) (pc' := 21) rfl (fun c => ?_) (fun c => ?_)
        · replace h := h.1 c
          refine jW.aload_n (dx_Lab_partLength 13 (e := (23, .aload_n 0, 1)) rfl) rfl rfl (pc' := 24) rfl ?_
          refine jW.iload_n (dx_Lab_partLength 14 (e := (24, .iload_n 1, 1)) rfl) rfl rfl (pc' := 25) rfl ?_
          refine jW.iload_n (dx_Lab_partLength 15 (e := (25, .iload_n 2, 1)) rfl) rfl rfl (pc' := 26) rfl ?_
          refine jW.callVe F (h (d + 0) _ hV) (dx_Lab_partLength 16 (e := (26, .invokevirtual 33, 3)) rfl) can_Lab_partTo jw_460 jw_462 hV.cl4 rfl sel_Lab_partTo rfl rfl (Nat.le_of_ble_eq_true rfl) (pc' := 29) rfl (fun r σ hr => ?_)
          clear hV
          obtain ⟨_, hV, _, rfl, h⟩ := hr
          refine jW.aload_n (dx_Lab_partLength 17 (e := (29, .aload_n 0, 1)) rfl) rfl rfl (pc' := 30) rfl ?_
          refine jW.iload_n (dx_Lab_partLength 18 (e := (30, .iload_n 1, 1)) rfl) rfl rfl (pc' := 31) rfl ?_
          refine jW.iload_n (dx_Lab_partLength 19 (e := (31, .iload_n 2, 1)) rfl) rfl rfl (pc' := 32) rfl ?_
          refine jW.callVe F (h (d + 0) _ hV) (dx_Lab_partLength 20 (e := (32, .invokevirtual 37, 3)) rfl) can_Lab_partFrom jw_465 jw_467 hV.cl4 rfl sel_Lab_partFrom rfl rfl (Nat.le_of_ble_eq_true rfl) (pc' := 35) rfl (fun r σ hr => ?_)
          clear hV
          obtain ⟨_, hV, _, rfl, h⟩ := hr
          refine jW.isub (dx_Lab_partLength 21 (e := (35, .isub, 1)) rfl) (pc' := 36) rfl ?_
          exact jW.iret (dx_Lab_partLength 22 (e := (36, .ireturn, 1)) rfl) rfl ⟨_, hV, h⟩
        · replace h := h.2 c
          exact t_Lab_partLength_21 F hV h
theorem g_Lab_partLength {X : CX} {a0 : Array Value} (F : cF X a0) {x1 : Int32} {x2 : Int32} {m : CS} {Φ : Option Value → CS → Prop} (he : w_Lab_partLength_0 X x1 x2 m Φ) : cE X 2 y_Lab_partLength [.ref (adr X 4), .int x1, .int x2] m Φ := by
  intro d σ hV
  refine jE.of (by decide) (by simp [Value.category]) (Nat.le_of_ble_eq_true rfl) rfl ?_
  exact t_Lab_partLength_0 F hV he
def w_Lab_partSign_33 (X : CX) (x1 : Int32) (x2 : Int32) (x3 : Int32) (s0 : Int32) (m : CS) (Φ : Option Value → CS → Prop) : Prop := Φ (some (.int (s0))) m
theorem t_Lab_partSign_33 {X : CX} {a0 : Array Value} (F : cF X a0) {d : Nat} {x1 : Int32} {x2 : Int32} {x3 : Int32} {s0 : Int32} {m : CS} {σ : jS} {Φ : Option Value → CS → Prop} (hV : CV X m σ) (h : w_Lab_partSign_33 X x1 x2 x3 s0 m Φ) : jW X.1 X.2.1 jcl X.2.2.1 X.2.2.2.1 (d + 3) y_Lab_partSign 33 [some (.ref (adr X 4)), some (.int x1), some (.int x2), some (.int x3)] [.int s0] σ (cP X Φ) := by
  unfold w_Lab_partSign_33 at h
  exact jW.iret (dx_Lab_partSign 19 (e := (33, .ireturn, 1)) rfl) rfl ⟨_, hV, h⟩
def w_Lab_partSign_32 (X : CX) (x1 : Int32) (x2 : Int32) (x3 : Int32) (m : CS) (Φ : Option Value → CS → Prop) : Prop := w_Lab_partSign_33 X (x1) (x2) (x3) (-1) m Φ
theorem t_Lab_partSign_32 {X : CX} {a0 : Array Value} (F : cF X a0) {d : Nat} {x1 : Int32} {x2 : Int32} {x3 : Int32} {m : CS} {σ : jS} {Φ : Option Value → CS → Prop} (hV : CV X m σ) (h : w_Lab_partSign_32 X x1 x2 x3 m Φ) : jW X.1 X.2.1 jcl X.2.2.1 X.2.2.2.1 (d + 3) y_Lab_partSign 32 [some (.ref (adr X 4)), some (.int x1), some (.int x2), some (.int x3)] [] σ (cP X Φ) := by
  unfold w_Lab_partSign_32 at h
  refine jW.iconst (v := -1) (dx_Lab_partSign 18 (e := (32, .iconst (-1), 1)) rfl) (by decide) (pc' := 33) rfl ?_
  exact t_Lab_partSign_33 F hV h
def w_Lab_partSign_0 (X : CX) (x1 : Int32) (x2 : Int32) (x3 : Int32) (m : CS) (Φ : Option Value → CS → Prop) : Prop := ((x3 < 0 → w_Lab_partSign_32 X (x1) (x2) (x3) m Φ) ∧ (¬ x3 < 0 → cE X 2 y_Lab_partLength [.ref (adr X 4), .int (x1), .int (x2)] m (ciP fun r1 m1 => ((r1 ≤ x3 → w_Lab_partSign_32 X (x1) (x2) (x3) m1 Φ) ∧ (¬ r1 ≤ x3 → cE X 1 y_Lab_partFrom [.ref (adr X 4), .int (x1), .int (x2)] m1 (ciP fun r2 m2 => cE X 0 y_Row_at [.ref (adr X 12), .int (r2 + x3)] m2 (ciP fun r3 m3 => w_Lab_partSign_33 X (x1) (x2) (x3) (r3) m3 Φ)))))))
theorem t_Lab_partSign_0 {X : CX} {a0 : Array Value} (F : cF X a0) {d : Nat} {x1 : Int32} {x2 : Int32} {x3 : Int32} {m : CS} {σ : jS} {Φ : Option Value → CS → Prop} (hV : CV X m σ) (h : w_Lab_partSign_0 X x1 x2 x3 m Φ) : jW X.1 X.2.1 jcl X.2.2.1 X.2.2.2.1 (d + 3) y_Lab_partSign 0 [some (.ref (adr X 4)), some (.int x1), some (.int x2), some (.int x3)] [] σ (cP X Φ) := by
  unfold w_Lab_partSign_0 at h
  refine jW.iload_n (dx_Lab_partSign 0 (e := (0, .iload_n 3, 1)) rfl) rfl rfl (pc' := 1) rfl ?_
  refine jW.if_lt (dx_Lab_partSign 1 (e := (1, .ifCond .lt 31, 3)) rfl) 32 (by decide) (pc' := 4) rfl (fun c => ?_) (fun c => ?_)
  · replace h := h.1 c
    exact t_Lab_partSign_32 F hV h
  · replace h := h.2 c
    refine jW.iload_n (dx_Lab_partSign 2 (e := (4, .iload_n 3, 1)) rfl) rfl rfl (pc' := 5) rfl ?_
    refine jW.aload_n (dx_Lab_partSign 3 (e := (5, .aload_n 0, 1)) rfl) rfl rfl (pc' := 6) rfl ?_
    refine jW.iload_n (dx_Lab_partSign 4 (e := (6, .iload_n 1, 1)) rfl) rfl rfl (pc' := 7) rfl ?_
    refine jW.iload_n (dx_Lab_partSign 5 (e := (7, .iload_n 2, 1)) rfl) rfl rfl (pc' := 8) rfl ?_
    refine jW.callVe F (h (d + 0) _ hV) (dx_Lab_partSign 6 (e := (8, .invokevirtual 40, 3)) rfl) can_Lab_partLength jw_477 jw_456 hV.cl4 rfl jw_457 rfl rfl (Nat.le_of_ble_eq_true rfl) (pc' := 11) rfl (fun r σ hr => ?_)
    clear hV
    obtain ⟨_, hV, _, rfl, h⟩ := hr
    refine jW.icmp_ge (dx_Lab_partSign 7 (e := (11, .if_icmp .ge 21, 3)) rfl) 32 (by decide) (pc' := 14) rfl (fun c => ?_) (fun c => ?_)
    · replace h := h.1 c
      exact t_Lab_partSign_32 F hV h
    · replace h := h.2 c
      refine jW.aload_n (dx_Lab_partSign 8 (e := (14, .aload_n 0, 1)) rfl) rfl rfl (pc' := 15) rfl ?_
      refine jW.cg (κ := 4) (k := 1) F hV.s4 f_Lab_partSign_15 (by decide) rfl (pc' := 18) rfl ?_
      refine jW.aload_n (dx_Lab_partSign 10 (e := (18, .aload_n 0, 1)) rfl) rfl rfl (pc' := 19) rfl ?_
      refine jW.iload_n (dx_Lab_partSign 11 (e := (19, .iload_n 1, 1)) rfl) rfl rfl (pc' := 20) rfl ?_
      refine jW.iload_n (dx_Lab_partSign 12 (e := (20, .iload_n 2, 1)) rfl) rfl rfl (pc' := 21) rfl ?_
      refine jW.callVe F (h (d + 1) _ hV) (dx_Lab_partSign 13 (e := (21, .invokevirtual 37, 3)) rfl) can_Lab_partFrom jw_465 jw_467 hV.cl4 rfl sel_Lab_partFrom rfl rfl (Nat.le_of_ble_eq_true rfl) (pc' := 24) rfl (fun r σ hr => ?_)
      clear hV
      obtain ⟨_, hV, _, rfl, h⟩ := hr
      refine jW.iload_n (dx_Lab_partSign 14 (e := (24, .iload_n 3, 1)) rfl) rfl rfl (pc' := 25) rfl ?_
      refine jW.iadd (dx_Lab_partSign 15 (e := (25, .iadd, 1)) rfl) (pc' := 26) rfl ?_
      refine jW.callVe F (h (d + 2) _ hV) (dx_Lab_partSign 16 (e := (26, .invokevirtual 43, 3)) rfl) can_Row_at jw_464 jw_439 (hV.clr (κ := 12) (by unfold isR; decide)) rfl jw_440 rfl rfl (Nat.le_of_ble_eq_true rfl) (pc' := 29) rfl (fun r σ hr => ?_)
      clear hV
      obtain ⟨_, hV, _, rfl, h⟩ := hr
      refine jW.goto (dx_Lab_partSign 17 (e := (29, .goto 4, 3)) rfl) 33 (by decide) ?_
      exact t_Lab_partSign_33 F hV h
theorem g_Lab_partSign {X : CX} {a0 : Array Value} (F : cF X a0) {x1 : Int32} {x2 : Int32} {x3 : Int32} {m : CS} {Φ : Option Value → CS → Prop} (he : w_Lab_partSign_0 X x1 x2 x3 m Φ) : cE X 3 y_Lab_partSign [.ref (adr X 4), .int x1, .int x2, .int x3] m Φ := by
  intro d σ hV
  refine jE.of (by decide) (by simp [Value.category]) (Nat.le_of_ble_eq_true rfl) rfl ?_
  exact t_Lab_partSign_0 F hV he
def w_Lab_isSame_3 (X : CX) (x1 : Int32) (x2 : Int32) (x3 : Int32) (x4 : Int32) (m : CS) (Φ : Option Value → CS → Prop) (K3 : Int32 → Int32 → Int32 → Int32 → CS → Prop) : Prop := ((x3 ≤ x4 → Φ (some (.int (1))) m) ∧ (¬ x3 ≤ x4 → cE X 0 y_Row_at [.ref (adr X 12), .int (x1 + x4)] m (ciP fun r1 m1 => cE X 0 y_Row_at [.ref (adr X 12), .int (x2 + x4)] m1 (ciP fun r2 m2 => ((r1 = r2 → K3 (x1) (x2) (x3) (x4 + 1) m2) ∧ (¬ r1 = r2 → Φ (some (.int (0))) m2))))))
theorem t_Lab_isSame_3 {X : CX} {a0 : Array Value} (F : cF X a0) {d : Nat} {x1 : Int32} {x2 : Int32} {x3 : Int32} {x4 : Int32} {m : CS} {σ : jS} {Φ : Option Value → CS → Prop} {K3 : Int32 → Int32 → Int32 → Int32 → CS → Prop} (hV : CV X m σ) (h : w_Lab_isSame_3 X x1 x2 x3 x4 m Φ K3) (hK3 : ∀ (x1 : Int32) (x2 : Int32) (x3 : Int32) (x4 : Int32) (m : CS) (σ : jS), CV X m σ → K3 x1 x2 x3 x4 m → jW X.1 X.2.1 jcl X.2.2.1 X.2.2.2.1 (d + 1) y_Lab_isSame 3 [some (.ref (adr X 4)), some (.int x1), some (.int x2), some (.int x3), some (.int x4)] [] σ (cP X Φ)) : jW X.1 X.2.1 jcl X.2.2.1 X.2.2.2.1 (d + 1) y_Lab_isSame 3 [some (.ref (adr X 4)), some (.int x1), some (.int x2), some (.int x3), some (.int x4)] [] σ (cP X Φ) := by
  unfold w_Lab_isSame_3 at h
  refine jW.iload (dx_Lab_isSame 2 (e := (3, .iload 4, 2)) rfl) rfl (pc' := 5) rfl ?_
  refine jW.iload_n (dx_Lab_isSame 3 (e := (5, .iload_n 3, 1)) rfl) rfl rfl (pc' := 6) rfl ?_
  refine jW.icmp_ge (dx_Lab_isSame 4 (e := (6, .if_icmp .ge 36, 3)) rfl) 42 (by decide) (pc' := 9) rfl (fun c => ?_) (fun c => ?_)
  · replace h := h.1 c
    refine jW.iconst (v := 1) (dx_Lab_isSame 22 (e := (42, .iconst 1, 1)) rfl) (by decide) (pc' := 43) rfl ?_
    exact jW.zret (dx_Lab_isSame 23 (e := (43, .ireturn, 1)) rfl) rfl (by decide) ⟨_, hV, h⟩
  · replace h := h.2 c
    refine jW.aload_n (dx_Lab_isSame 5 (e := (9, .aload_n 0, 1)) rfl) rfl rfl (pc' := 10) rfl ?_
    refine jW.cg (κ := 4) (k := 1) F hV.s4 f_Lab_isSame_10 (by decide) rfl (pc' := 13) rfl ?_
    refine jW.iload_n (dx_Lab_isSame 7 (e := (13, .iload_n 1, 1)) rfl) rfl rfl (pc' := 14) rfl ?_
    refine jW.iload (dx_Lab_isSame 8 (e := (14, .iload 4, 2)) rfl) rfl (pc' := 16) rfl ?_
    refine jW.iadd (dx_Lab_isSame 9 (e := (16, .iadd, 1)) rfl) (pc' := 17) rfl ?_
    refine jW.callVe F (h (d + 0) _ hV) (dx_Lab_isSame 10 (e := (17, .invokevirtual 43, 3)) rfl) can_Row_at jw_464 jw_439 (hV.clr (κ := 12) (by unfold isR; decide)) rfl jw_440 rfl rfl (Nat.le_of_ble_eq_true rfl) (pc' := 20) rfl (fun r σ hr => ?_)
    clear hV
    obtain ⟨_, hV, _, rfl, h⟩ := hr
    refine jW.aload_n (dx_Lab_isSame 11 (e := (20, .aload_n 0, 1)) rfl) rfl rfl (pc' := 21) rfl ?_
    refine jW.cg (κ := 4) (k := 1) F hV.s4 f_Lab_isSame_21 (by decide) rfl (pc' := 24) rfl ?_
    refine jW.iload_n (dx_Lab_isSame 13 (e := (24, .iload_n 2, 1)) rfl) rfl rfl (pc' := 25) rfl ?_
    refine jW.iload (dx_Lab_isSame 14 (e := (25, .iload 4, 2)) rfl) rfl (pc' := 27) rfl ?_
    refine jW.iadd (dx_Lab_isSame 15 (e := (27, .iadd, 1)) rfl) (pc' := 28) rfl ?_
    refine jW.callVe F (h (d + 0) _ hV) (dx_Lab_isSame 16 (e := (28, .invokevirtual 43, 3)) rfl) can_Row_at jw_464 jw_439 (hV.clr (κ := 12) (by unfold isR; decide)) rfl jw_440 rfl rfl (Nat.le_of_ble_eq_true rfl) (pc' := 31) rfl (fun r σ hr => ?_)
    clear hV
    obtain ⟨_, hV, _, rfl, h⟩ := hr
    refine jW.icmp_eq (dx_Lab_isSame 17 (e := (31, .if_icmp .eq 5, 3)) rfl) 36 (by decide) (pc' := 34) rfl (fun c => ?_) (fun c => ?_)
    · replace h := h.1 c
      refine jW.iinc (v := _ + (1)) (dx_Lab_isSame 20 (e := (36, .iinc 4 1, 3)) rfl) rfl rfl (by decide) rfl (pc' := 39) rfl ?_
      refine jW.goto (dx_Lab_isSame 21 (e := (39, .goto (-36), 3)) rfl) 3 (by decide) ?_
      exact hK3 _ _ _ _ _ _ hV h
    · replace h := h.2 c
      refine jW.iconst (v := 0) (dx_Lab_isSame 18 (e := (34, .iconst 0, 1)) rfl) (by decide) (pc' := 35) rfl ?_
      exact jW.zret (dx_Lab_isSame 19 (e := (35, .ireturn, 1)) rfl) rfl (by decide) ⟨_, hV, h⟩
def w_Lab_isSame_0 (X : CX) (x1 : Int32) (x2 : Int32) (x3 : Int32) (m : CS) (Φ : Option Value → CS → Prop) (K3 : Int32 → Int32 → Int32 → Int32 → CS → Prop) : Prop := K3 (x1) (x2) (x3) (0) m
theorem t_Lab_isSame_0 {X : CX} {a0 : Array Value} (F : cF X a0) {d : Nat} {x1 : Int32} {x2 : Int32} {x3 : Int32} {o4 : Option Value} {m : CS} {σ : jS} {Φ : Option Value → CS → Prop} {K3 : Int32 → Int32 → Int32 → Int32 → CS → Prop} (hV : CV X m σ) (h : w_Lab_isSame_0 X x1 x2 x3 m Φ K3) (hK3 : ∀ (x1 : Int32) (x2 : Int32) (x3 : Int32) (x4 : Int32) (m : CS) (σ : jS), CV X m σ → K3 x1 x2 x3 x4 m → jW X.1 X.2.1 jcl X.2.2.1 X.2.2.2.1 (d + 1) y_Lab_isSame 3 [some (.ref (adr X 4)), some (.int x1), some (.int x2), some (.int x3), some (.int x4)] [] σ (cP X Φ)) : jW X.1 X.2.1 jcl X.2.2.1 X.2.2.2.1 (d + 1) y_Lab_isSame 0 [some (.ref (adr X 4)), some (.int x1), some (.int x2), some (.int x3), o4] [] σ (cP X Φ) := by
  unfold w_Lab_isSame_0 at h
  refine jW.iconst (v := 0) (dx_Lab_isSame 0 (e := (0, .iconst 0, 1)) rfl) (by decide) (pc' := 1) rfl ?_
  refine jW.istore (dx_Lab_isSame 1 (e := (1, .istore 4, 2)) rfl) (by decide) rfl (pc' := 3) rfl ?_
  exact hK3 _ _ _ _ _ _ hV h
theorem g_Lab_isSame {X : CX} {a0 : Array Value} (F : cF X a0) {x1 : Int32} {x2 : Int32} {x3 : Int32} {m : CS} {Φ : Option Value → CS → Prop} {I3 : Nat → Int32 → Int32 → Int32 → Int32 → CS → Prop} (he : w_Lab_isSame_0 X x1 x2 x3 m Φ (fun x1 x2 x3 x4 m => ∃ j, I3 j x1 x2 x3 x4 m)) (h3 : ∀ (n : Nat) (x1 : Int32) (x2 : Int32) (x3 : Int32) (x4 : Int32) (m : CS), I3 n x1 x2 x3 x4 m → w_Lab_isSame_3 X x1 x2 x3 x4 m Φ (fun x1 x2 x3 x4 m => ∃ j, j < n ∧ I3 j x1 x2 x3 x4 m)) : cE X 1 y_Lab_isSame [.ref (adr X 4), .int x1, .int x2, .int x3] m Φ := by
  intro d σ hV
  have hL3 : ∀ n, (∀ (x1 : Int32) (x2 : Int32) (x3 : Int32) (x4 : Int32) (m : CS) (σ : jS), CV X m σ → I3 n x1 x2 x3 x4 m → jW X.1 X.2.1 jcl X.2.2.1 X.2.2.2.1 (d + 1) y_Lab_isSame 3 [some (.ref (adr X 4)), some (.int x1), some (.int x2), some (.int x3), some (.int x4)] [] σ (cP X Φ)) := by
    intro n
    induction n using Nat.strongRecOn with
    | _ n ih =>
      exact fun x1 x2 x3 x4 m σ hV hI => t_Lab_isSame_3 F hV (h3 n x1 x2 x3 x4 m hI) (fun x1 x2 x3 x4 m σ hV ⟨j, hj, hI⟩ => (ih j hj) x1 x2 x3 x4 m σ hV hI)
  refine jE.of (by decide) (by simp [Value.category]) (Nat.le_of_ble_eq_true rfl) rfl ?_
  exact t_Lab_isSame_0 F hV he (fun x1 x2 x3 x4 m σ hV ⟨j, hI⟩ => (hL3 j) x1 x2 x3 x4 m σ hV hI)
def w_Lab_withLabelAt_54 (X : CX) (x1 : Int32) (x2 : Int32) (x3 : Int32) (x4 : Int32) (m : CS) (Φ : Option Value → CS → Prop) (K12 : Int32 → Int32 → Int32 → CS → Prop) : Prop := K12 (x1) (x2) (x3 + 1) m
theorem t_Lab_withLabelAt_54 {X : CX} {a0 : Array Value} (F : cF X a0) {d : Nat} {x1 : Int32} {x2 : Int32} {x3 : Int32} {x4 : Int32} {m : CS} {σ : jS} {Φ : Option Value → CS → Prop} {K12 : Int32 → Int32 → Int32 → CS → Prop} (hV : CV X m σ) (h : w_Lab_withLabelAt_54 X x1 x2 x3 x4 m Φ K12) (hK12 : ∀ (x1 : Int32) (x2 : Int32) (x3 : Int32) (o4 : Option Value) (m : CS) (σ : jS), CV X m σ → K12 x1 x2 x3 m → jW X.1 X.2.1 jcl X.2.2.1 X.2.2.2.1 (d + 2) y_Lab_withLabelAt 12 [some (.ref (adr X 4)), some (.int x1), some (.int x2), some (.int x3), o4] [] σ (cP X Φ)) : jW X.1 X.2.1 jcl X.2.2.1 X.2.2.2.1 (d + 2) y_Lab_withLabelAt 54 [some (.ref (adr X 4)), some (.int x1), some (.int x2), some (.int x3), some (.int x4)] [] σ (cP X Φ) := by
  unfold w_Lab_withLabelAt_54 at h
  refine jW.iinc (v := _ + (1)) (dx_Lab_withLabelAt 33 (e := (54, .iinc 3 1, 3)) rfl) rfl rfl (by decide) rfl (pc' := 57) rfl ?_
  refine jW.goto (dx_Lab_withLabelAt 34 (e := (57, .goto (-45), 3)) rfl) 12 (by decide) ?_
  exact hK12 _ _ _ _ _ _ hV h
def w_Lab_withLabelAt_12 (X : CX) (x1 : Int32) (x2 : Int32) (x3 : Int32) (m : CS) (Φ : Option Value → CS → Prop) (K12 : Int32 → Int32 → Int32 → CS → Prop) : Prop := cE X 1 y_Lab_size [.ref (adr X 4)] m (ciP fun r1 m1 => ((r1 ≤ x3 → Φ (some (.int (-1))) m1) ∧ (¬ r1 ≤ x3 → cE X 1 y_Lab_partFrom [.ref (adr X 4), .int (x3), .int (0)] m1 (ciP fun r2 m2 => cE X 1 y_Lab_partTo [.ref (adr X 4), .int (x3), .int (0)] m2 (ciP fun r3 m3 => ((r3 - r2 = x2 → cE X 1 y_Lab_isSame [.ref (adr X 4), .int (r2), .int (x1), .int (x2)] m3 (ciP fun r4 m4 => ((r4 = 0 → w_Lab_withLabelAt_54 X (x1) (x2) (x3) (r2) m4 Φ K12) ∧ (¬ r4 = 0 → Φ (some (.int (x3))) m4)))) ∧ (¬ r3 - r2 = x2 → w_Lab_withLabelAt_54 X (x1) (x2) (x3) (r2) m3 Φ K12)))))))
theorem t_Lab_withLabelAt_12 {X : CX} {a0 : Array Value} (F : cF X a0) {d : Nat} {x1 : Int32} {x2 : Int32} {x3 : Int32} {o4 : Option Value} {m : CS} {σ : jS} {Φ : Option Value → CS → Prop} {K12 : Int32 → Int32 → Int32 → CS → Prop} (hV : CV X m σ) (h : w_Lab_withLabelAt_12 X x1 x2 x3 m Φ K12) (hK12 : ∀ (x1 : Int32) (x2 : Int32) (x3 : Int32) (o4 : Option Value) (m : CS) (σ : jS), CV X m σ → K12 x1 x2 x3 m → jW X.1 X.2.1 jcl X.2.2.1 X.2.2.2.1 (d + 2) y_Lab_withLabelAt 12 [some (.ref (adr X 4)), some (.int x1), some (.int x2), some (.int x3), o4] [] σ (cP X Φ)) : jW X.1 X.2.1 jcl X.2.2.1 X.2.2.2.1 (d + 2) y_Lab_withLabelAt 12 [some (.ref (adr X 4)), some (.int x1), some (.int x2), some (.int x3), o4] [] σ (cP X Φ) := by
  unfold w_Lab_withLabelAt_12 at h
  refine jW.iload_n (dx_Lab_withLabelAt 8 (e := (12, .iload_n 3, 1)) rfl) rfl rfl (pc' := 13) rfl ?_
  refine jW.aload_n (dx_Lab_withLabelAt 9 (e := (13, .aload_n 0, 1)) rfl) rfl rfl (pc' := 14) rfl ?_
  refine jW.callVe F (h (d + 0) _ hV) (dx_Lab_withLabelAt 10 (e := (14, .invokevirtual 32, 3)) rfl) can_Lab_size jw_459 jw_447 hV.cl4 rfl jw_448 rfl rfl (Nat.le_of_ble_eq_true rfl) (pc' := 17) rfl (fun r σ hr => ?_)
  clear hV
  obtain ⟨_, hV, _, rfl, h⟩ := hr
  refine jW.icmp_ge (dx_Lab_withLabelAt 11 (e := (17, .if_icmp .ge 43, 3)) rfl) 60 (by decide) (pc' := 20) rfl (fun c => ?_) (fun c => ?_)
  · replace h := h.1 c
    refine jW.iconst (v := -1) (dx_Lab_withLabelAt 35 (e := (60, .iconst (-1), 1)) rfl) (by decide) (pc' := 61) rfl ?_
    exact jW.iret (dx_Lab_withLabelAt 36 (e := (61, .ireturn, 1)) rfl) rfl ⟨_, hV, h⟩
  · replace h := h.2 c
    refine jW.aload_n (dx_Lab_withLabelAt 12 (e := (20, .aload_n 0, 1)) rfl) rfl rfl (pc' := 21) rfl ?_
    refine jW.iload_n (dx_Lab_withLabelAt 13 (e := (21, .iload_n 3, 1)) rfl) rfl rfl (pc' := 22) rfl ?_
    refine jW.iconst (v := 0) (dx_Lab_withLabelAt 14 (e := (22, .iconst 0, 1)) rfl) (by decide) (pc' := 23) rfl ?_
    refine jW.callVe F (h (d + 0) _ hV) (dx_Lab_withLabelAt 15 (e := (23, .invokevirtual 37, 3)) rfl) can_Lab_partFrom jw_465 jw_467 hV.cl4 rfl sel_Lab_partFrom rfl rfl (Nat.le_of_ble_eq_true rfl) (pc' := 26) rfl (fun r σ hr => ?_)
    clear hV
    obtain ⟨_, hV, _, rfl, h⟩ := hr
    refine jW.istore (dx_Lab_withLabelAt 16 (e := (26, .istore 4, 2)) rfl) (by decide) rfl (pc' := 28) rfl ?_
    refine jW.aload_n (dx_Lab_withLabelAt 17 (e := (28, .aload_n 0, 1)) rfl) rfl rfl (pc' := 29) rfl ?_
    refine jW.iload_n (dx_Lab_withLabelAt 18 (e := (29, .iload_n 3, 1)) rfl) rfl rfl (pc' := 30) rfl ?_
    refine jW.iconst (v := 0) (dx_Lab_withLabelAt 19 (e := (30, .iconst 0, 1)) rfl) (by decide) (pc' := 31) rfl ?_
    refine jW.callVe F (h (d + 0) _ hV) (dx_Lab_withLabelAt 20 (e := (31, .invokevirtual 33, 3)) rfl) can_Lab_partTo jw_460 jw_462 hV.cl4 rfl sel_Lab_partTo rfl rfl (Nat.le_of_ble_eq_true rfl) (pc' := 34) rfl (fun r σ hr => ?_)
    clear hV
    obtain ⟨_, hV, _, rfl, h⟩ := hr
    refine jW.iload (dx_Lab_withLabelAt 21 (e := (34, .iload 4, 2)) rfl) rfl (pc' := 36) rfl ?_
    refine jW.isub (dx_Lab_withLabelAt 22 (e := (36, .isub, 1)) rfl) (pc' := 37) rfl ?_
    refine jW.iload_n (dx_Lab_withLabelAt 23 (e := (37, .iload_n 2, 1)) rfl) rfl rfl (pc' := 38) rfl ?_
    refine jW.icmp_ne (dx_Lab_withLabelAt 24 (e := (38, .if_icmp .ne 16, 3)) rfl) 54 (by decide) (pc' := 41) rfl (fun c => ?_) (fun c => ?_)
    · replace h := h.2 c
      exact t_Lab_withLabelAt_54 F hV h hK12
    · replace h := h.1 c
      refine jW.aload_n (dx_Lab_withLabelAt 25 (e := (41, .aload_n 0, 1)) rfl) rfl rfl (pc' := 42) rfl ?_
      refine jW.iload (dx_Lab_withLabelAt 26 (e := (42, .iload 4, 2)) rfl) rfl (pc' := 44) rfl ?_
      refine jW.iload_n (dx_Lab_withLabelAt 27 (e := (44, .iload_n 1, 1)) rfl) rfl rfl (pc' := 45) rfl ?_
      refine jW.iload_n (dx_Lab_withLabelAt 28 (e := (45, .iload_n 2, 1)) rfl) rfl rfl (pc' := 46) rfl ?_
      refine jW.callVe F (h (d + 0) _ hV) (dx_Lab_withLabelAt 29 (e := (46, .invokevirtual 54, 3)) rfl) can_Lab_isSame jw_498 jw_500 hV.cl4 rfl sel_Lab_isSame rfl rfl (Nat.le_of_ble_eq_true rfl) (pc' := 49) rfl (fun r σ hr => ?_)
      clear hV
      obtain ⟨_, hV, _, rfl, h⟩ := hr
      refine jW.if_eq (dx_Lab_withLabelAt 30 (e := (49, .ifCond .eq 5, 3)) rfl) 54 (by decide) (pc' := 52) rfl (fun c => ?_) (fun c => ?_)
      · replace h := h.1 c
        exact t_Lab_withLabelAt_54 F hV h hK12
      · replace h := h.2 c
        refine jW.iload_n (dx_Lab_withLabelAt 31 (e := (52, .iload_n 3, 1)) rfl) rfl rfl (pc' := 53) rfl ?_
        exact jW.iret (dx_Lab_withLabelAt 32 (e := (53, .ireturn, 1)) rfl) rfl ⟨_, hV, h⟩
def w_Lab_withLabelAt_0 (X : CX) (x1 : Int32) (m : CS) (Φ : Option Value → CS → Prop) (K12 : Int32 → Int32 → Int32 → CS → Prop) : Prop := cE X 0 y_Row_size [.ref (adr X 12)] m (ciP fun r1 m1 => K12 (x1) (r1 - x1) (0) m1)
theorem t_Lab_withLabelAt_0 {X : CX} {a0 : Array Value} (F : cF X a0) {d : Nat} {x1 : Int32} {o2 o3 o4 : Option Value} {m : CS} {σ : jS} {Φ : Option Value → CS → Prop} {K12 : Int32 → Int32 → Int32 → CS → Prop} (hV : CV X m σ) (h : w_Lab_withLabelAt_0 X x1 m Φ K12) (hK12 : ∀ (x1 : Int32) (x2 : Int32) (x3 : Int32) (o4 : Option Value) (m : CS) (σ : jS), CV X m σ → K12 x1 x2 x3 m → jW X.1 X.2.1 jcl X.2.2.1 X.2.2.2.1 (d + 2) y_Lab_withLabelAt 12 [some (.ref (adr X 4)), some (.int x1), some (.int x2), some (.int x3), o4] [] σ (cP X Φ)) : jW X.1 X.2.1 jcl X.2.2.1 X.2.2.2.1 (d + 2) y_Lab_withLabelAt 0 [some (.ref (adr X 4)), some (.int x1), o2, o3, o4] [] σ (cP X Φ) := by
  unfold w_Lab_withLabelAt_0 at h
  refine jW.aload_n (dx_Lab_withLabelAt 0 (e := (0, .aload_n 0, 1)) rfl) rfl rfl (pc' := 1) rfl ?_
  refine jW.cg (κ := 4) (k := 1) F hV.s4 f_Lab_withLabelAt_1 (by decide) rfl (pc' := 4) rfl ?_
  refine jW.callVe F (h (d + 1) _ hV) (dx_Lab_withLabelAt 2 (e := (4, .invokevirtual 28, 3)) rfl) can_Row_size jw_450 jw_372 (hV.clr (κ := 12) (by unfold isR; decide)) rfl jw_373 rfl rfl (Nat.le_of_ble_eq_true rfl) (pc' := 7) rfl (fun r σ hr => ?_)
  clear hV
  obtain ⟨_, hV, _, rfl, h⟩ := hr
  refine jW.iload_n (dx_Lab_withLabelAt 3 (e := (7, .iload_n 1, 1)) rfl) rfl rfl (pc' := 8) rfl ?_
  refine jW.isub (dx_Lab_withLabelAt 4 (e := (8, .isub, 1)) rfl) (pc' := 9) rfl ?_
  refine jW.istore_n (dx_Lab_withLabelAt 5 (e := (9, .istore_n 2, 1)) rfl) rfl (by decide) rfl (pc' := 10) rfl ?_
  refine jW.iconst (v := 0) (dx_Lab_withLabelAt 6 (e := (10, .iconst 0, 1)) rfl) (by decide) (pc' := 11) rfl ?_
  refine jW.istore_n (dx_Lab_withLabelAt 7 (e := (11, .istore_n 3, 1)) rfl) rfl (by decide) rfl (pc' := 12) rfl ?_
  exact hK12 _ _ _ _ _ _ hV h
theorem g_Lab_withLabelAt {X : CX} {a0 : Array Value} (F : cF X a0) {x1 : Int32} {m : CS} {Φ : Option Value → CS → Prop} {I12 : Nat → Int32 → Int32 → Int32 → CS → Prop} (he : w_Lab_withLabelAt_0 X x1 m Φ (fun x1 x2 x3 m => ∃ j, I12 j x1 x2 x3 m)) (h12 : ∀ (n : Nat) (x1 : Int32) (x2 : Int32) (x3 : Int32) (m : CS), I12 n x1 x2 x3 m → w_Lab_withLabelAt_12 X x1 x2 x3 m Φ (fun x1 x2 x3 m => ∃ j, j < n ∧ I12 j x1 x2 x3 m)) : cE X 2 y_Lab_withLabelAt [.ref (adr X 4), .int x1] m Φ := by
  intro d σ hV
  have hL12 : ∀ n, (∀ (x1 : Int32) (x2 : Int32) (x3 : Int32) (o4 : Option Value) (m : CS) (σ : jS), CV X m σ → I12 n x1 x2 x3 m → jW X.1 X.2.1 jcl X.2.2.1 X.2.2.2.1 (d + 2) y_Lab_withLabelAt 12 [some (.ref (adr X 4)), some (.int x1), some (.int x2), some (.int x3), o4] [] σ (cP X Φ)) := by
    intro n
    induction n using Nat.strongRecOn with
    | _ n ih =>
      exact fun x1 x2 x3 o4 m σ hV hI => t_Lab_withLabelAt_12 F hV (h12 n x1 x2 x3 m hI) (fun x1 x2 x3 o4 m σ hV ⟨j, hj, hI⟩ => (ih j hj) x1 x2 x3 o4 m σ hV hI)
  refine jE.of (by decide) (by simp [Value.category]) (Nat.le_of_ble_eq_true rfl) rfl ?_
  exact t_Lab_withLabelAt_0 F hV he (fun x1 x2 x3 o4 m σ hV ⟨j, hI⟩ => (hL12 j) x1 x2 x3 o4 m σ hV hI)
def w_Lab_addNormal_106 (X : CX) (q1 : Nat) (x2 : Int32) (x3 : Int32) (x4 : Int32) (x5 : Int32) (x6 : Int32) (x7 : Int32) (m : CS) (Φ : Option Value → CS → Prop) (K15 : Nat → Int32 → Int32 → Int32 → Int32 → Int32 → CS → Prop) : Prop := K15 (q1) (x2) (x3) (x4) (x5) (x6 + 1) m
theorem t_Lab_addNormal_106 {X : CX} {a0 : Array Value} (F : cF X a0) {d : Nat} {q1 : Nat} {x2 : Int32} {x3 : Int32} {x4 : Int32} {x5 : Int32} {x6 : Int32} {x7 : Int32} {m : CS} {σ : jS} {Φ : Option Value → CS → Prop} {K15 : Nat → Int32 → Int32 → Int32 → Int32 → Int32 → CS → Prop} (hV : CV X m σ) (h : w_Lab_addNormal_106 X q1 x2 x3 x4 x5 x6 x7 m Φ K15) (hK15 : ∀ (q1 : Nat) (x2 : Int32) (x3 : Int32) (x4 : Int32) (x5 : Int32) (x6 : Int32) (o7 : Option Value) (m : CS) (σ : jS), CV X m σ → K15 q1 x2 x3 x4 x5 x6 m → jW X.1 X.2.1 jcl X.2.2.1 X.2.2.2.1 (d + 3) y_Lab_addNormal 15 [some (.ref (adr X 4)), some (.ref (adr X q1)), some (.int x2), some (.int x3), some (.int x4), some (.int x5), some (.int x6), o7] [] σ (cP X Φ)) : jW X.1 X.2.1 jcl X.2.2.1 X.2.2.2.1 (d + 3) y_Lab_addNormal 106 [some (.ref (adr X 4)), some (.ref (adr X q1)), some (.int x2), some (.int x3), some (.int x4), some (.int x5), some (.int x6), some (.int x7)] [] σ (cP X Φ) := by
  unfold w_Lab_addNormal_106 at h
  refine jW.iinc (v := _ + (1)) (dx_Lab_addNormal 50 (e := (106, .iinc 6 1, 3)) rfl) rfl rfl (by decide) rfl (pc' := 109) rfl ?_
  refine jW.goto (dx_Lab_addNormal 51 (e := (109, .goto (-94), 3)) rfl) 15 (by decide) ?_
  exact hK15 _ _ _ _ _ _ _ _ _ hV h
def w_Lab_addNormal_103 (X : CX) (q1 : Nat) (x2 : Int32) (x3 : Int32) (x4 : Int32) (x5 : Int32) (x6 : Int32) (x7 : Int32) (s1 : Int32) (m : CS) (Φ : Option Value → CS → Prop) (K15 : Nat → Int32 → Int32 → Int32 → Int32 → Int32 → CS → Prop) : Prop := cE X 2 y_Row_add [.ref (adr X 12), .int (s1)] m (cvP fun m1 => w_Lab_addNormal_106 X (q1) (x2) (x3) (x4) (x5) (x6) (x7) m1 Φ K15)
theorem t_Lab_addNormal_103 {X : CX} {a0 : Array Value} (F : cF X a0) {d : Nat} {q1 : Nat} {x2 : Int32} {x3 : Int32} {x4 : Int32} {x5 : Int32} {x6 : Int32} {x7 : Int32} {s1 : Int32} {m : CS} {σ : jS} {Φ : Option Value → CS → Prop} {K15 : Nat → Int32 → Int32 → Int32 → Int32 → Int32 → CS → Prop} (hV : CV X m σ) (h : w_Lab_addNormal_103 X q1 x2 x3 x4 x5 x6 x7 s1 m Φ K15) (hK15 : ∀ (q1 : Nat) (x2 : Int32) (x3 : Int32) (x4 : Int32) (x5 : Int32) (x6 : Int32) (o7 : Option Value) (m : CS) (σ : jS), CV X m σ → K15 q1 x2 x3 x4 x5 x6 m → jW X.1 X.2.1 jcl X.2.2.1 X.2.2.2.1 (d + 3) y_Lab_addNormal 15 [some (.ref (adr X 4)), some (.ref (adr X q1)), some (.int x2), some (.int x3), some (.int x4), some (.int x5), some (.int x6), o7] [] σ (cP X Φ)) : jW X.1 X.2.1 jcl X.2.2.1 X.2.2.2.1 (d + 3) y_Lab_addNormal 103 [some (.ref (adr X 4)), some (.ref (adr X q1)), some (.int x2), some (.int x3), some (.int x4), some (.int x5), some (.int x6), some (.int x7)] [.int s1, .ref (adr X 12)] σ (cP X Φ) := by
  unfold w_Lab_addNormal_103 at h
  refine jW.callVe F (h (d + 0) _ hV) (dx_Lab_addNormal 49 (e := (103, .invokevirtual 62, 3)) rfl) can_Row_add jw_493 jw_376 (hV.clr (κ := 12) (by unfold isR; decide)) rfl jw_377 rfl rfl (Nat.le_of_ble_eq_true rfl) (pc' := 106) rfl (fun r σ hr => ?_)
  clear hV
  obtain ⟨_, hV, rfl, h⟩ := hr
  exact t_Lab_addNormal_106 F hV h hK15
def w_Lab_addNormal_101 (X : CX) (q1 : Nat) (x2 : Int32) (x3 : Int32) (x4 : Int32) (x5 : Int32) (x6 : Int32) (x7 : Int32) (m : CS) (Φ : Option Value → CS → Prop) (K15 : Nat → Int32 → Int32 → Int32 → Int32 → Int32 → CS → Prop) : Prop := w_Lab_addNormal_103 X (q1) (x2) (x3) (x4) (x5) (x6) (x7) (x7) m Φ K15
theorem t_Lab_addNormal_101 {X : CX} {a0 : Array Value} (F : cF X a0) {d : Nat} {q1 : Nat} {x2 : Int32} {x3 : Int32} {x4 : Int32} {x5 : Int32} {x6 : Int32} {x7 : Int32} {m : CS} {σ : jS} {Φ : Option Value → CS → Prop} {K15 : Nat → Int32 → Int32 → Int32 → Int32 → Int32 → CS → Prop} (hV : CV X m σ) (h : w_Lab_addNormal_101 X q1 x2 x3 x4 x5 x6 x7 m Φ K15) (hK15 : ∀ (q1 : Nat) (x2 : Int32) (x3 : Int32) (x4 : Int32) (x5 : Int32) (x6 : Int32) (o7 : Option Value) (m : CS) (σ : jS), CV X m σ → K15 q1 x2 x3 x4 x5 x6 m → jW X.1 X.2.1 jcl X.2.2.1 X.2.2.2.1 (d + 3) y_Lab_addNormal 15 [some (.ref (adr X 4)), some (.ref (adr X q1)), some (.int x2), some (.int x3), some (.int x4), some (.int x5), some (.int x6), o7] [] σ (cP X Φ)) : jW X.1 X.2.1 jcl X.2.2.1 X.2.2.2.1 (d + 3) y_Lab_addNormal 101 [some (.ref (adr X 4)), some (.ref (adr X q1)), some (.int x2), some (.int x3), some (.int x4), some (.int x5), some (.int x6), some (.int x7)] [.ref (adr X 12)] σ (cP X Φ) := by
  unfold w_Lab_addNormal_101 at h
  refine jW.iload (dx_Lab_addNormal 48 (e := (101, .iload 7, 2)) rfl) rfl (pc' := 103) rfl ?_
  exact t_Lab_addNormal_103 F hV h hK15
def w_Lab_addNormal_69 (X : CX) (q1 : Nat) (x2 : Int32) (x3 : Int32) (x4 : Int32) (x5 : Int32) (x6 : Int32) (x7 : Int32) (m : CS) (Φ : Option Value → CS → Prop) (K15 : Nat → Int32 → Int32 → Int32 → Int32 → Int32 → CS → Prop) : Prop := ((x7 < 65 → w_Lab_addNormal_101 X (q1) (x2) (x3) (x4) (0) (x6) (x7) m Φ K15) ∧ (¬ x7 < 65 → ((90 < x7 → w_Lab_addNormal_101 X (q1) (x2) (x3) (x4) (0) (x6) (x7) m Φ K15) ∧ (¬ 90 < x7 → w_Lab_addNormal_103 X (q1) (x2) (x3) (x4) (0) (x6) (x7) ((x7 - 65) + 97) m Φ K15))))
theorem t_Lab_addNormal_69 {X : CX} {a0 : Array Value} (F : cF X a0) {d : Nat} {q1 : Nat} {x2 : Int32} {x3 : Int32} {x4 : Int32} {x5 : Int32} {x6 : Int32} {x7 : Int32} {m : CS} {σ : jS} {Φ : Option Value → CS → Prop} {K15 : Nat → Int32 → Int32 → Int32 → Int32 → Int32 → CS → Prop} (hV : CV X m σ) (h : w_Lab_addNormal_69 X q1 x2 x3 x4 x5 x6 x7 m Φ K15) (hK15 : ∀ (q1 : Nat) (x2 : Int32) (x3 : Int32) (x4 : Int32) (x5 : Int32) (x6 : Int32) (o7 : Option Value) (m : CS) (σ : jS), CV X m σ → K15 q1 x2 x3 x4 x5 x6 m → jW X.1 X.2.1 jcl X.2.2.1 X.2.2.2.1 (d + 3) y_Lab_addNormal 15 [some (.ref (adr X 4)), some (.ref (adr X q1)), some (.int x2), some (.int x3), some (.int x4), some (.int x5), some (.int x6), o7] [] σ (cP X Φ)) : jW X.1 X.2.1 jcl X.2.2.1 X.2.2.2.1 (d + 3) y_Lab_addNormal 69 [some (.ref (adr X 4)), some (.ref (adr X q1)), some (.int x2), some (.int x3), some (.int x4), some (.int x5), some (.int x6), some (.int x7)] [] σ (cP X Φ) := by
  unfold w_Lab_addNormal_69 at h
  refine jW.iconst (v := 0) (dx_Lab_addNormal 32 (e := (69, .iconst 0, 1)) rfl) (by decide) (pc' := 70) rfl ?_
  refine jW.istore (dx_Lab_addNormal 33 (e := (70, .istore 5, 2)) rfl) (by decide) rfl (pc' := 72) rfl ?_
  refine jW.aload_n (dx_Lab_addNormal 34 (e := (72, .aload_n 0, 1)) rfl) rfl rfl (pc' := 73) rfl ?_
  refine jW.cg (κ := 4) (k := 1) F hV.s4 f_Lab_addNormal_73 (by decide) rfl (pc' := 76) rfl ?_
  refine jW.iload (dx_Lab_addNormal 36 (e := (76, .iload 7, 2)) rfl) rfl (pc' := 78) rfl ?_
  refine jW.bipush (v := 65) (dx_Lab_addNormal 37 (e := (78, .bipush 65, 2)) rfl) (by decide) (pc' := 80) rfl ?_
  refine jW.icmp_lt (dx_Lab_addNormal 38 (e := (80, .if_icmp .lt 21, 3)) rfl) 101 (by decide) (pc' := 83) rfl (fun c => ?_) (fun c => ?_)
  · replace h := h.1 c
    exact t_Lab_addNormal_101 F hV h hK15
  · replace h := h.2 c
    refine jW.iload (dx_Lab_addNormal 39 (e := (83, .iload 7, 2)) rfl) rfl (pc' := 85) rfl ?_
    refine jW.bipush (v := 90) (dx_Lab_addNormal 40 (e := (85, .bipush 90, 2)) rfl) (by decide) (pc' := 87) rfl ?_
    refine jW.icmp_gt (dx_Lab_addNormal 41 (e := (87, .if_icmp .gt 14, 3)) rfl) 101 (by decide) (pc' := 90) rfl (fun c => ?_) (fun c => ?_)
    · replace h := h.1 c
      exact t_Lab_addNormal_101 F hV h hK15
    · replace h := h.2 c
      refine jW.iload (dx_Lab_addNormal 42 (e := (90, .iload 7, 2)) rfl) rfl (pc' := 92) rfl ?_
      refine jW.bipush (v := 65) (dx_Lab_addNormal 43 (e := (92, .bipush 65, 2)) rfl) (by decide) (pc' := 94) rfl ?_
      refine jW.isub (dx_Lab_addNormal 44 (e := (94, .isub, 1)) rfl) (pc' := 95) rfl ?_
      refine jW.bipush (v := 97) (dx_Lab_addNormal 45 (e := (95, .bipush 97, 2)) rfl) (by decide) (pc' := 97) rfl ?_
      refine jW.iadd (dx_Lab_addNormal 46 (e := (97, .iadd, 1)) rfl) (pc' := 98) rfl ?_
      refine jW.goto (dx_Lab_addNormal 47 (e := (98, .goto 5, 3)) rfl) 103 (by decide) ?_
      exact t_Lab_addNormal_103 F hV h hK15
def w_Lab_addNormal_15 (X : CX) (q1 : Nat) (x2 : Int32) (x3 : Int32) (x4 : Int32) (x5 : Int32) (x6 : Int32) (m : CS) (Φ : Option Value → CS → Prop) (K15 : Nat → Int32 → Int32 → Int32 → Int32 → Int32 → CS → Prop) : Prop := ((x3 ≤ x6 → Φ none m) ∧ (¬ x3 ≤ x6 → (isR (q1) ∧ cE X 0 y_Row_at [.ref (adr X q1), .int (x6)] m (ciP fun r1 m1 => cE X 0 y_MB_isWhite [.int (r1)] m1 (ciP fun r2 m2 => ((r2 = 0 → ((x5 = 0 → w_Lab_addNormal_69 X (q1) (x2) (x3) (x4) (x5) (x6) (r1) m2 Φ K15) ∧ (¬ x5 = 0 → cE X 0 y_Row_size [.ref (adr X 12)] m2 (ciP fun r3 m3 => ((r3 ≤ x4 → w_Lab_addNormal_69 X (q1) (x2) (x3) (x4) (x5) (x6) (r1) m3 Φ K15) ∧ (¬ r3 ≤ x4 → cE X 2 y_Row_add [.ref (adr X 12), .int (32)] m3 (cvP fun m4 => w_Lab_addNormal_69 X (q1) (x2) (x3) (x4) (x5) (x6) (r1) m4 Φ K15))))))) ∧ (¬ r2 = 0 → w_Lab_addNormal_106 X (q1) (x2) (x3) (x4) (1) (x6) (r1) m2 Φ K15)))))))
theorem t_Lab_addNormal_15 {X : CX} {a0 : Array Value} (F : cF X a0) {d : Nat} {q1 : Nat} {x2 : Int32} {x3 : Int32} {x4 : Int32} {x5 : Int32} {x6 : Int32} {o7 : Option Value} {m : CS} {σ : jS} {Φ : Option Value → CS → Prop} {K15 : Nat → Int32 → Int32 → Int32 → Int32 → Int32 → CS → Prop} (hV : CV X m σ) (h : w_Lab_addNormal_15 X q1 x2 x3 x4 x5 x6 m Φ K15) (hK15 : ∀ (q1 : Nat) (x2 : Int32) (x3 : Int32) (x4 : Int32) (x5 : Int32) (x6 : Int32) (o7 : Option Value) (m : CS) (σ : jS), CV X m σ → K15 q1 x2 x3 x4 x5 x6 m → jW X.1 X.2.1 jcl X.2.2.1 X.2.2.2.1 (d + 3) y_Lab_addNormal 15 [some (.ref (adr X 4)), some (.ref (adr X q1)), some (.int x2), some (.int x3), some (.int x4), some (.int x5), some (.int x6), o7] [] σ (cP X Φ)) : jW X.1 X.2.1 jcl X.2.2.1 X.2.2.2.1 (d + 3) y_Lab_addNormal 15 [some (.ref (adr X 4)), some (.ref (adr X q1)), some (.int x2), some (.int x3), some (.int x4), some (.int x5), some (.int x6), o7] [] σ (cP X Φ) := by
  unfold w_Lab_addNormal_15 at h
  refine jW.iload (dx_Lab_addNormal 8 (e := (15, .iload 6, 2)) rfl) rfl (pc' := 17) rfl ?_
  refine jW.iload_n (dx_Lab_addNormal 9 (e := (17, .iload_n 3, 1)) rfl) rfl rfl (pc' := 18) rfl ?_
  refine jW.icmp_ge (dx_Lab_addNormal 10 (e := (18, .if_icmp .ge 94, 3)) rfl) 112 (by decide) (pc' := 21) rfl (fun c => ?_) (fun c => ?_)
  · replace h := h.1 c
    exact jW.vret (dx_Lab_addNormal 52 (e := (112, .return_, 1)) rfl) rfl ⟨_, hV, h⟩
  · replace h := h.2 c
    refine jW.aload_n (dx_Lab_addNormal 11 (e := (21, .aload_n 1, 1)) rfl) rfl rfl (pc' := 22) rfl ?_
    refine jW.iload (dx_Lab_addNormal 12 (e := (22, .iload 6, 2)) rfl) rfl (pc' := 24) rfl ?_
    obtain ⟨hi, h⟩ := h
    refine jW.callVe F (h (d + 2) _ hV) (dx_Lab_addNormal 13 (e := (24, .invokevirtual 43, 3)) rfl) can_Row_at jw_464 jw_439 (hV.clr hi) hi.jcl jw_440 rfl rfl (Nat.le_of_ble_eq_true rfl) (pc' := 27) rfl (fun r σ hr => ?_)
    clear hV
    obtain ⟨_, hV, _, rfl, h⟩ := hr
    refine jW.istore (dx_Lab_addNormal 14 (e := (27, .istore 7, 2)) rfl) (by decide) rfl (pc' := 29) rfl ?_
    refine jW.iload (dx_Lab_addNormal 15 (e := (29, .iload 7, 2)) rfl) rfl (pc' := 31) rfl ?_
    refine jW.callSN F (h (d + 2) _ hV) (dx_Lab_addNormal 16 (e := (31, .invokestatic 58, 3)) rfl) can_MB_isWhite jw_490 jw_491 rfl rfl (Nat.le_of_ble_eq_true rfl) (pc' := 34) rfl (fun r σ hr => ?_)
    clear hV
    obtain ⟨_, hV, _, rfl, h⟩ := hr
    refine jW.if_eq (dx_Lab_addNormal 17 (e := (34, .ifCond .eq 9, 3)) rfl) 43 (by decide) (pc' := 37) rfl (fun c => ?_) (fun c => ?_)
    · replace h := h.1 c
      refine jW.iload (dx_Lab_addNormal 21 (e := (43, .iload 5, 2)) rfl) rfl (pc' := 45) rfl ?_
      refine jW.if_eq (dx_Lab_addNormal 22 (e := (45, .ifCond .eq 24, 3)) rfl) 69 (by decide) (pc' := 48) rfl (fun c => ?_) (fun c => ?_)
      · replace h := h.1 c
        exact t_Lab_addNormal_69 F hV h hK15
      · replace h := h.2 c
        refine jW.aload_n (dx_Lab_addNormal 23 (e := (48, .aload_n 0, 1)) rfl) rfl rfl (pc' := 49) rfl ?_
        refine jW.cg (κ := 4) (k := 1) F hV.s4 f_Lab_addNormal_49 (by decide) rfl (pc' := 52) rfl ?_
        refine jW.callVe F (h (d + 2) _ hV) (dx_Lab_addNormal 25 (e := (52, .invokevirtual 28, 3)) rfl) can_Row_size jw_450 jw_372 (hV.clr (κ := 12) (by unfold isR; decide)) rfl jw_373 rfl rfl (Nat.le_of_ble_eq_true rfl) (pc' := 55) rfl (fun r σ hr => ?_)
        clear hV
        obtain ⟨_, hV, _, rfl, h⟩ := hr
        refine jW.iload (dx_Lab_addNormal 26 (e := (55, .iload 4, 2)) rfl) rfl (pc' := 57) rfl ?_
        refine jW.icmp_le (dx_Lab_addNormal 27 (e := (57, .if_icmp .le 12, 3)) rfl) 69 (by decide) (pc' := 60) rfl (fun c => ?_) (fun c => ?_)
        · replace h := h.1 c
          exact t_Lab_addNormal_69 F hV h hK15
        · replace h := h.2 c
          refine jW.aload_n (dx_Lab_addNormal 28 (e := (60, .aload_n 0, 1)) rfl) rfl rfl (pc' := 61) rfl ?_
          refine jW.cg (κ := 4) (k := 1) F hV.s4 f_Lab_addNormal_61 (by decide) rfl (pc' := 64) rfl ?_
          refine jW.bipush (v := 32) (dx_Lab_addNormal 30 (e := (64, .bipush 32, 2)) rfl) (by decide) (pc' := 66) rfl ?_
          refine jW.callVe F (h (d + 0) _ hV) (dx_Lab_addNormal 31 (e := (66, .invokevirtual 62, 3)) rfl) can_Row_add jw_493 jw_376 (hV.clr (κ := 12) (by unfold isR; decide)) rfl jw_377 rfl rfl (Nat.le_of_ble_eq_true rfl) (pc' := 69) rfl (fun r σ hr => ?_)
          clear hV
          obtain ⟨_, hV, rfl, h⟩ := hr
          exact t_Lab_addNormal_69 F hV h hK15
    · replace h := h.2 c
      refine jW.iconst (v := 1) (dx_Lab_addNormal 18 (e := (37, .iconst 1, 1)) rfl) (by decide) (pc' := 38) rfl ?_
      refine jW.istore (dx_Lab_addNormal 19 (e := (38, .istore 5, 2)) rfl) (by decide) rfl (pc' := 40) rfl ?_
      refine jW.goto (dx_Lab_addNormal 20 (e := (40, .goto 66, 3)) rfl) 106 (by decide) ?_
      exact t_Lab_addNormal_106 F hV h hK15
def w_Lab_addNormal_0 (X : CX) (q1 : Nat) (x2 : Int32) (x3 : Int32) (m : CS) (Φ : Option Value → CS → Prop) (K15 : Nat → Int32 → Int32 → Int32 → Int32 → Int32 → CS → Prop) : Prop := cE X 0 y_Row_size [.ref (adr X 12)] m (ciP fun r1 m1 => K15 (q1) (x2) (x3) (r1) (0) (x2) m1)
theorem t_Lab_addNormal_0 {X : CX} {a0 : Array Value} (F : cF X a0) {d : Nat} {q1 : Nat} {x2 : Int32} {x3 : Int32} {o4 o5 o6 o7 : Option Value} {m : CS} {σ : jS} {Φ : Option Value → CS → Prop} {K15 : Nat → Int32 → Int32 → Int32 → Int32 → Int32 → CS → Prop} (hV : CV X m σ) (h : w_Lab_addNormal_0 X q1 x2 x3 m Φ K15) (hK15 : ∀ (q1 : Nat) (x2 : Int32) (x3 : Int32) (x4 : Int32) (x5 : Int32) (x6 : Int32) (o7 : Option Value) (m : CS) (σ : jS), CV X m σ → K15 q1 x2 x3 x4 x5 x6 m → jW X.1 X.2.1 jcl X.2.2.1 X.2.2.2.1 (d + 3) y_Lab_addNormal 15 [some (.ref (adr X 4)), some (.ref (adr X q1)), some (.int x2), some (.int x3), some (.int x4), some (.int x5), some (.int x6), o7] [] σ (cP X Φ)) : jW X.1 X.2.1 jcl X.2.2.1 X.2.2.2.1 (d + 3) y_Lab_addNormal 0 [some (.ref (adr X 4)), some (.ref (adr X q1)), some (.int x2), some (.int x3), o4, o5, o6, o7] [] σ (cP X Φ) := by
  unfold w_Lab_addNormal_0 at h
  refine jW.aload_n (dx_Lab_addNormal 0 (e := (0, .aload_n 0, 1)) rfl) rfl rfl (pc' := 1) rfl ?_
  refine jW.cg (κ := 4) (k := 1) F hV.s4 f_Lab_addNormal_1 (by decide) rfl (pc' := 4) rfl ?_
  refine jW.callVe F (h (d + 2) _ hV) (dx_Lab_addNormal 2 (e := (4, .invokevirtual 28, 3)) rfl) can_Row_size jw_450 jw_372 (hV.clr (κ := 12) (by unfold isR; decide)) rfl jw_373 rfl rfl (Nat.le_of_ble_eq_true rfl) (pc' := 7) rfl (fun r σ hr => ?_)
  clear hV
  obtain ⟨_, hV, _, rfl, h⟩ := hr
  refine jW.istore (dx_Lab_addNormal 3 (e := (7, .istore 4, 2)) rfl) (by decide) rfl (pc' := 9) rfl ?_
  refine jW.iconst (v := 0) (dx_Lab_addNormal 4 (e := (9, .iconst 0, 1)) rfl) (by decide) (pc' := 10) rfl ?_
  refine jW.istore (dx_Lab_addNormal 5 (e := (10, .istore 5, 2)) rfl) (by decide) rfl (pc' := 12) rfl ?_
  refine jW.iload_n (dx_Lab_addNormal 6 (e := (12, .iload_n 2, 1)) rfl) rfl rfl (pc' := 13) rfl ?_
  refine jW.istore (dx_Lab_addNormal 7 (e := (13, .istore 6, 2)) rfl) (by decide) rfl (pc' := 15) rfl ?_
  exact hK15 _ _ _ _ _ _ _ _ _ hV h
theorem g_Lab_addNormal {X : CX} {a0 : Array Value} (F : cF X a0) {q1 : Nat} {x2 : Int32} {x3 : Int32} {m : CS} {Φ : Option Value → CS → Prop} {I15 : Nat → Nat → Int32 → Int32 → Int32 → Int32 → Int32 → CS → Prop} (he : w_Lab_addNormal_0 X q1 x2 x3 m Φ (fun q1 x2 x3 x4 x5 x6 m => ∃ j, I15 j q1 x2 x3 x4 x5 x6 m)) (h15 : ∀ (n : Nat) (q1 : Nat) (x2 : Int32) (x3 : Int32) (x4 : Int32) (x5 : Int32) (x6 : Int32) (m : CS), I15 n q1 x2 x3 x4 x5 x6 m → w_Lab_addNormal_15 X q1 x2 x3 x4 x5 x6 m Φ (fun q1 x2 x3 x4 x5 x6 m => ∃ j, j < n ∧ I15 j q1 x2 x3 x4 x5 x6 m)) : cE X 3 y_Lab_addNormal [.ref (adr X 4), .ref (adr X q1), .int x2, .int x3] m Φ := by
  intro d σ hV
  have hL15 : ∀ n, (∀ (q1 : Nat) (x2 : Int32) (x3 : Int32) (x4 : Int32) (x5 : Int32) (x6 : Int32) (o7 : Option Value) (m : CS) (σ : jS), CV X m σ → I15 n q1 x2 x3 x4 x5 x6 m → jW X.1 X.2.1 jcl X.2.2.1 X.2.2.2.1 (d + 3) y_Lab_addNormal 15 [some (.ref (adr X 4)), some (.ref (adr X q1)), some (.int x2), some (.int x3), some (.int x4), some (.int x5), some (.int x6), o7] [] σ (cP X Φ)) := by
    intro n
    induction n using Nat.strongRecOn with
    | _ n ih =>
      exact fun q1 x2 x3 x4 x5 x6 o7 m σ hV hI => t_Lab_addNormal_15 F hV (h15 n q1 x2 x3 x4 x5 x6 m hI) (fun q1 x2 x3 x4 x5 x6 o7 m σ hV ⟨j, hj, hI⟩ => (ih j hj) q1 x2 x3 x4 x5 x6 o7 m σ hV hI)
  refine jE.of (by decide) (by simp [Value.category]) (Nat.le_of_ble_eq_true rfl) rfl ?_
  exact t_Lab_addNormal_0 F hV he (fun q1 x2 x3 x4 x5 x6 o7 m σ hV ⟨j, hI⟩ => (hL15 j) q1 x2 x3 x4 x5 x6 o7 m σ hV hI)
def w_Lab_withLabel_0 (X : CX) (q1 : Nat) (x2 : Int32) (x3 : Int32) (m : CS) (Φ : Option Value → CS → Prop) : Prop := cE X 0 y_Row_size [.ref (adr X 12)] m (ciP fun r1 m1 => cE X 3 y_Lab_addNormal [.ref (adr X 4), .ref (adr X q1), .int (x2), .int (x3)] m1 (cvP fun m2 => cE X 2 y_Lab_withLabelAt [.ref (adr X 4), .int (r1)] m2 (ciP fun r3 m3 => cE X 0 y_Row_cut [.ref (adr X 12), .int (r1)] m3 (cvP fun m4 => Φ (some (.int (r3))) m4))))
theorem t_Lab_withLabel_0 {X : CX} {a0 : Array Value} (F : cF X a0) {d : Nat} {q1 : Nat} {x2 : Int32} {x3 : Int32} {o4 o5 : Option Value} {m : CS} {σ : jS} {Φ : Option Value → CS → Prop} (hV : CV X m σ) (h : w_Lab_withLabel_0 X q1 x2 x3 m Φ) : jW X.1 X.2.1 jcl X.2.2.1 X.2.2.2.1 (d + 4) y_Lab_withLabel 0 [some (.ref (adr X 4)), some (.ref (adr X q1)), some (.int x2), some (.int x3), o4, o5] [] σ (cP X Φ) := by
  unfold w_Lab_withLabel_0 at h
  refine jW.aload_n (dx_Lab_withLabel 0 (e := (0, .aload_n 0, 1)) rfl) rfl rfl (pc' := 1) rfl ?_
  refine jW.cg (κ := 4) (k := 1) F hV.s4 f_Lab_withLabel_1 (by decide) rfl (pc' := 4) rfl ?_
  refine jW.callVe F (h (d + 3) _ hV) (dx_Lab_withLabel 2 (e := (4, .invokevirtual 28, 3)) rfl) can_Row_size jw_450 jw_372 (hV.clr (κ := 12) (by unfold isR; decide)) rfl jw_373 rfl rfl (Nat.le_of_ble_eq_true rfl) (pc' := 7) rfl (fun r σ hr => ?_)
  clear hV
  obtain ⟨_, hV, _, rfl, h⟩ := hr
  refine jW.istore (dx_Lab_withLabel 3 (e := (7, .istore 4, 2)) rfl) (by decide) rfl (pc' := 9) rfl ?_
  refine jW.aload_n (dx_Lab_withLabel 4 (e := (9, .aload_n 0, 1)) rfl) rfl rfl (pc' := 10) rfl ?_
  refine jW.aload_n (dx_Lab_withLabel 5 (e := (10, .aload_n 1, 1)) rfl) rfl rfl (pc' := 11) rfl ?_
  refine jW.iload_n (dx_Lab_withLabel 6 (e := (11, .iload_n 2, 1)) rfl) rfl rfl (pc' := 12) rfl ?_
  refine jW.iload_n (dx_Lab_withLabel 7 (e := (12, .iload_n 3, 1)) rfl) rfl rfl (pc' := 13) rfl ?_
  refine jW.callVe F (h (d + 0) _ hV) (dx_Lab_withLabel 8 (e := (13, .invokevirtual 47, 3)) rfl) can_Lab_addNormal jw_486 jw_488 hV.cl4 rfl sel_Lab_addNormal rfl rfl (Nat.le_of_ble_eq_true rfl) (pc' := 16) rfl (fun r σ hr => ?_)
  clear hV
  obtain ⟨_, hV, rfl, h⟩ := hr
  refine jW.aload_n (dx_Lab_withLabel 9 (e := (16, .aload_n 0, 1)) rfl) rfl rfl (pc' := 17) rfl ?_
  refine jW.iload (dx_Lab_withLabel 10 (e := (17, .iload 4, 2)) rfl) rfl (pc' := 19) rfl ?_
  refine jW.callVe F (h (d + 1) _ hV) (dx_Lab_withLabel 11 (e := (19, .invokevirtual 51, 3)) rfl) can_Lab_withLabelAt jw_494 jw_496 hV.cl4 rfl sel_Lab_withLabelAt rfl rfl (Nat.le_of_ble_eq_true rfl) (pc' := 22) rfl (fun r σ hr => ?_)
  clear hV
  obtain ⟨_, hV, _, rfl, h⟩ := hr
  refine jW.istore (dx_Lab_withLabel 12 (e := (22, .istore 5, 2)) rfl) (by decide) rfl (pc' := 24) rfl ?_
  refine jW.aload_n (dx_Lab_withLabel 13 (e := (24, .aload_n 0, 1)) rfl) rfl rfl (pc' := 25) rfl ?_
  refine jW.cg (κ := 4) (k := 1) F hV.s4 f_Lab_withLabel_25 (by decide) rfl (pc' := 28) rfl ?_
  refine jW.iload (dx_Lab_withLabel 15 (e := (28, .iload 4, 2)) rfl) rfl (pc' := 30) rfl ?_
  refine jW.callVe F (h (d + 3) _ hV) (dx_Lab_withLabel 16 (e := (30, .invokevirtual 24, 3)) rfl) can_Row_cut jw_502 jw_397 (hV.clr (κ := 12) (by unfold isR; decide)) rfl jw_398 rfl rfl (Nat.le_of_ble_eq_true rfl) (pc' := 33) rfl (fun r σ hr => ?_)
  clear hV
  obtain ⟨_, hV, rfl, h⟩ := hr
  refine jW.iload (dx_Lab_withLabel 17 (e := (33, .iload 5, 2)) rfl) rfl (pc' := 35) rfl ?_
  exact jW.iret (dx_Lab_withLabel 18 (e := (35, .ireturn, 1)) rfl) rfl ⟨_, hV, h⟩
theorem g_Lab_withLabel {X : CX} {a0 : Array Value} (F : cF X a0) {q1 : Nat} {x2 : Int32} {x3 : Int32} {m : CS} {Φ : Option Value → CS → Prop} (he : w_Lab_withLabel_0 X q1 x2 x3 m Φ) : cE X 4 y_Lab_withLabel [.ref (adr X 4), .ref (adr X q1), .int x2, .int x3] m Φ := by
  intro d σ hV
  refine jE.of (by decide) (by simp [Value.category]) (Nat.le_of_ble_eq_true rfl) rfl ?_
  exact t_Lab_withLabel_0 F hV he
def w_Lab_behindGap_74 (X : CX) (x1 : Int32) (x2 : Int32) (x3 : Int32) (m : CS) (Φ : Option Value → CS → Prop) : Prop := Φ (some (.int (x3))) m
theorem t_Lab_behindGap_74 {X : CX} {a0 : Array Value} (F : cF X a0) {d : Nat} {x1 : Int32} {x2 : Int32} {x3 : Int32} {m : CS} {σ : jS} {Φ : Option Value → CS → Prop} (hV : CV X m σ) (h : w_Lab_behindGap_74 X x1 x2 x3 m Φ) : jW X.1 X.2.1 jcl X.2.2.1 X.2.2.2.1 (d + 1) y_Lab_behindGap 74 [some (.ref (adr X 4)), some (.int x1), some (.int x2), some (.int x3)] [] σ (cP X Φ) := by
  unfold w_Lab_behindGap_74 at h
  refine jW.iload_n (dx_Lab_behindGap 37 (e := (74, .iload_n 3, 1)) rfl) rfl rfl (pc' := 75) rfl ?_
  exact jW.iret (dx_Lab_behindGap 38 (e := (75, .ireturn, 1)) rfl) rfl ⟨_, hV, h⟩
def w_Lab_behindGap_67 (X : CX) (x1 : Int32) (x2 : Int32) (x3 : Int32) (s0 : Int32) (m : CS) (Φ : Option Value → CS → Prop) (K4 : Int32 → Int32 → Int32 → CS → Prop) : Prop := K4 (x1) (s0) (x3 + 1) m
theorem t_Lab_behindGap_67 {X : CX} {a0 : Array Value} (F : cF X a0) {d : Nat} {x1 : Int32} {x2 : Int32} {x3 : Int32} {s0 : Int32} {m : CS} {σ : jS} {Φ : Option Value → CS → Prop} {K4 : Int32 → Int32 → Int32 → CS → Prop} (hV : CV X m σ) (h : w_Lab_behindGap_67 X x1 x2 x3 s0 m Φ K4) (hK4 : ∀ (x1 : Int32) (x2 : Int32) (x3 : Int32) (m : CS) (σ : jS), CV X m σ → K4 x1 x2 x3 m → jW X.1 X.2.1 jcl X.2.2.1 X.2.2.2.1 (d + 1) y_Lab_behindGap 4 [some (.ref (adr X 4)), some (.int x1), some (.int x2), some (.int x3)] [] σ (cP X Φ)) : jW X.1 X.2.1 jcl X.2.2.1 X.2.2.2.1 (d + 1) y_Lab_behindGap 67 [some (.ref (adr X 4)), some (.int x1), some (.int x2), some (.int x3)] [.int s0] σ (cP X Φ) := by
  unfold w_Lab_behindGap_67 at h
  refine jW.istore_n (dx_Lab_behindGap 34 (e := (67, .istore_n 2, 1)) rfl) rfl (by decide) rfl (pc' := 68) rfl ?_
  refine jW.iinc (v := _ + (1)) (dx_Lab_behindGap 35 (e := (68, .iinc 3 1, 3)) rfl) rfl rfl (by decide) rfl (pc' := 71) rfl ?_
  refine jW.goto (dx_Lab_behindGap 36 (e := (71, .goto (-67), 3)) rfl) 4 (by decide) ?_
  exact hK4 _ _ _ _ _ hV h
def w_Lab_behindGap_62 (X : CX) (x1 : Int32) (x2 : Int32) (x3 : Int32) (m : CS) (Φ : Option Value → CS → Prop) (K4 : Int32 → Int32 → Int32 → CS → Prop) : Prop := w_Lab_behindGap_67 X (x1) (x2) (x3) (1) m Φ K4
theorem t_Lab_behindGap_62 {X : CX} {a0 : Array Value} (F : cF X a0) {d : Nat} {x1 : Int32} {x2 : Int32} {x3 : Int32} {m : CS} {σ : jS} {Φ : Option Value → CS → Prop} {K4 : Int32 → Int32 → Int32 → CS → Prop} (hV : CV X m σ) (h : w_Lab_behindGap_62 X x1 x2 x3 m Φ K4) (hK4 : ∀ (x1 : Int32) (x2 : Int32) (x3 : Int32) (m : CS) (σ : jS), CV X m σ → K4 x1 x2 x3 m → jW X.1 X.2.1 jcl X.2.2.1 X.2.2.2.1 (d + 1) y_Lab_behindGap 4 [some (.ref (adr X 4)), some (.int x1), some (.int x2), some (.int x3)] [] σ (cP X Φ)) : jW X.1 X.2.1 jcl X.2.2.1 X.2.2.2.1 (d + 1) y_Lab_behindGap 62 [some (.ref (adr X 4)), some (.int x1), some (.int x2), some (.int x3)] [] σ (cP X Φ) := by
  unfold w_Lab_behindGap_62 at h
  refine jW.iconst (v := 1) (dx_Lab_behindGap 31 (e := (62, .iconst 1, 1)) rfl) (by decide) (pc' := 63) rfl ?_
  refine jW.goto (dx_Lab_behindGap 32 (e := (63, .goto 4, 3)) rfl) 67 (by decide) ?_
  exact t_Lab_behindGap_67 F hV h hK4
def w_Lab_behindGap_45 (X : CX) (x1 : Int32) (x2 : Int32) (x3 : Int32) (m : CS) (Φ : Option Value → CS → Prop) (K4 : Int32 → Int32 → Int32 → CS → Prop) : Prop := ((x2 = 0 → cE X 0 y_Row_at [.ref (adr X 10), .int (x3)] m (ciP fun r1 m1 => ((r1 = 10 → w_Lab_behindGap_62 X (x1) (x2) (x3) m1 Φ K4) ∧ (¬ r1 = 10 → w_Lab_behindGap_67 X (x1) (x2) (x3) (0) m1 Φ K4)))) ∧ (¬ x2 = 0 → w_Lab_behindGap_62 X (x1) (x2) (x3) m Φ K4))
theorem t_Lab_behindGap_45 {X : CX} {a0 : Array Value} (F : cF X a0) {d : Nat} {x1 : Int32} {x2 : Int32} {x3 : Int32} {m : CS} {σ : jS} {Φ : Option Value → CS → Prop} {K4 : Int32 → Int32 → Int32 → CS → Prop} (hV : CV X m σ) (h : w_Lab_behindGap_45 X x1 x2 x3 m Φ K4) (hK4 : ∀ (x1 : Int32) (x2 : Int32) (x3 : Int32) (m : CS) (σ : jS), CV X m σ → K4 x1 x2 x3 m → jW X.1 X.2.1 jcl X.2.2.1 X.2.2.2.1 (d + 1) y_Lab_behindGap 4 [some (.ref (adr X 4)), some (.int x1), some (.int x2), some (.int x3)] [] σ (cP X Φ)) : jW X.1 X.2.1 jcl X.2.2.1 X.2.2.2.1 (d + 1) y_Lab_behindGap 45 [some (.ref (adr X 4)), some (.int x1), some (.int x2), some (.int x3)] [] σ (cP X Φ) := by
  unfold w_Lab_behindGap_45 at h
  refine jW.iload_n (dx_Lab_behindGap 23 (e := (45, .iload_n 2, 1)) rfl) rfl rfl (pc' := 46) rfl ?_
  refine jW.if_ne (dx_Lab_behindGap 24 (e := (46, .ifCond .ne 16, 3)) rfl) 62 (by decide) (pc' := 49) rfl (fun c => ?_) (fun c => ?_)
  · replace h := h.2 c
    exact t_Lab_behindGap_62 F hV h hK4
  · replace h := h.1 c
    refine jW.aload_n (dx_Lab_behindGap 25 (e := (49, .aload_n 0, 1)) rfl) rfl rfl (pc' := 50) rfl ?_
    refine jW.cg (κ := 4) (k := 0) F hV.s4 f_Lab_behindGap_50 (by decide) rfl (pc' := 53) rfl ?_
    refine jW.iload_n (dx_Lab_behindGap 27 (e := (53, .iload_n 3, 1)) rfl) rfl rfl (pc' := 54) rfl ?_
    refine jW.callVe F (h (d + 0) _ hV) (dx_Lab_behindGap 28 (e := (54, .invokevirtual 43, 3)) rfl) can_Row_at jw_464 jw_439 (hV.clr (κ := 10) (by unfold isR; decide)) rfl jw_440 rfl rfl (Nat.le_of_ble_eq_true rfl) (pc' := 57) rfl (fun r σ hr => ?_)
    clear hV
    obtain ⟨_, hV, _, rfl, h⟩ := hr
    refine jW.bipush (v := 10) (dx_Lab_behindGap 29 (e := (57, .bipush 10, 2)) rfl) (by decide) (pc' := 59) rfl ?_
    refine jW.icmp_ne (dx_Lab_behindGap 30 (e := (59, .if_icmp .ne 7, 3)) rfl) 66 (by decide) (pc' := 62) rfl (fun c => ?_) (fun c => ?_)
    · replace h := h.2 c
      refine jW.iconst (v := 0) (dx_Lab_behindGap 33 (e := (66, .iconst 0, 1)) rfl) (by decide) (pc' := 67) rfl ?_
      exact t_Lab_behindGap_67 F hV h hK4
    · replace h := h.1 c
      exact t_Lab_behindGap_62 F hV h hK4
def w_Lab_behindGap_4 (X : CX) (x1 : Int32) (x2 : Int32) (x3 : Int32) (m : CS) (Φ : Option Value → CS → Prop) (K4 : Int32 → Int32 → Int32 → CS → Prop) : Prop := cE X 0 y_Row_size [.ref (adr X 10)] m (ciP fun r1 m1 => ((r1 ≤ x3 → w_Lab_behindGap_74 X (x1) (x2) (x3) m1 Φ) ∧ (¬ r1 ≤ x3 → cE X 0 y_Row_at [.ref (adr X 10), .int (x3)] m1 (ciP fun r2 m2 => ((r2 = 32 → w_Lab_behindGap_45 X (x1) (x2) (x3) m2 Φ K4) ∧ (¬ r2 = 32 → cE X 0 y_Row_at [.ref (adr X 10), .int (x3)] m2 (ciP fun r3 m3 => ((r3 = 10 → ((x2 = 0 → w_Lab_behindGap_45 X (x1) (x2) (x3) m3 Φ K4) ∧ (¬ x2 = 0 → w_Lab_behindGap_74 X (x1) (x2) (x3) m3 Φ))) ∧ (¬ r3 = 10 → w_Lab_behindGap_74 X (x1) (x2) (x3) m3 Φ)))))))))
theorem t_Lab_behindGap_4 {X : CX} {a0 : Array Value} (F : cF X a0) {d : Nat} {x1 : Int32} {x2 : Int32} {x3 : Int32} {m : CS} {σ : jS} {Φ : Option Value → CS → Prop} {K4 : Int32 → Int32 → Int32 → CS → Prop} (hV : CV X m σ) (h : w_Lab_behindGap_4 X x1 x2 x3 m Φ K4) (hK4 : ∀ (x1 : Int32) (x2 : Int32) (x3 : Int32) (m : CS) (σ : jS), CV X m σ → K4 x1 x2 x3 m → jW X.1 X.2.1 jcl X.2.2.1 X.2.2.2.1 (d + 1) y_Lab_behindGap 4 [some (.ref (adr X 4)), some (.int x1), some (.int x2), some (.int x3)] [] σ (cP X Φ)) : jW X.1 X.2.1 jcl X.2.2.1 X.2.2.2.1 (d + 1) y_Lab_behindGap 4 [some (.ref (adr X 4)), some (.int x1), some (.int x2), some (.int x3)] [] σ (cP X Φ) := by
  unfold w_Lab_behindGap_4 at h
  refine jW.iload_n (dx_Lab_behindGap 4 (e := (4, .iload_n 3, 1)) rfl) rfl rfl (pc' := 5) rfl ?_
  refine jW.aload_n (dx_Lab_behindGap 5 (e := (5, .aload_n 0, 1)) rfl) rfl rfl (pc' := 6) rfl ?_
  refine jW.cg (κ := 4) (k := 0) F hV.s4 f_Lab_behindGap_6 (by decide) rfl (pc' := 9) rfl ?_
  refine jW.callVe F (h (d + 0) _ hV) (dx_Lab_behindGap 7 (e := (9, .invokevirtual 28, 3)) rfl) can_Row_size jw_450 jw_372 (hV.clr (κ := 10) (by unfold isR; decide)) rfl jw_373 rfl rfl (Nat.le_of_ble_eq_true rfl) (pc' := 12) rfl (fun r σ hr => ?_)
  clear hV
  obtain ⟨_, hV, _, rfl, h⟩ := hr
  refine jW.icmp_ge (dx_Lab_behindGap 8 (e := (12, .if_icmp .ge 62, 3)) rfl) 74 (by decide) (pc' := 15) rfl (fun c => ?_) (fun c => ?_)
  · replace h := h.1 c
    exact t_Lab_behindGap_74 F hV h
  · replace h := h.2 c
    refine jW.aload_n (dx_Lab_behindGap 9 (e := (15, .aload_n 0, 1)) rfl) rfl rfl (pc' := 16) rfl ?_
    refine jW.cg (κ := 4) (k := 0) F hV.s4 f_Lab_behindGap_16 (by decide) rfl (pc' := 19) rfl ?_
    refine jW.iload_n (dx_Lab_behindGap 11 (e := (19, .iload_n 3, 1)) rfl) rfl rfl (pc' := 20) rfl ?_
    refine jW.callVe F (h (d + 0) _ hV) (dx_Lab_behindGap 12 (e := (20, .invokevirtual 43, 3)) rfl) can_Row_at jw_464 jw_439 (hV.clr (κ := 10) (by unfold isR; decide)) rfl jw_440 rfl rfl (Nat.le_of_ble_eq_true rfl) (pc' := 23) rfl (fun r σ hr => ?_)
    clear hV
    obtain ⟨_, hV, _, rfl, h⟩ := hr
    refine jW.bipush (v := 32) (dx_Lab_behindGap 13 (e := (23, .bipush 32, 2)) rfl) (by decide) (pc' := 25) rfl ?_
    refine jW.icmp_eq (dx_Lab_behindGap 14 (e := (25, .if_icmp .eq 20, 3)) rfl) 45 (by decide) (pc' := 28) rfl (fun c => ?_) (fun c => ?_)
    · replace h := h.1 c
      exact t_Lab_behindGap_45 F hV h hK4
    · replace h := h.2 c
      refine jW.aload_n (dx_Lab_behindGap 15 (e := (28, .aload_n 0, 1)) rfl) rfl rfl (pc' := 29) rfl ?_
      refine jW.cg (κ := 4) (k := 0) F hV.s4 f_Lab_behindGap_29 (by decide) rfl (pc' := 32) rfl ?_
      refine jW.iload_n (dx_Lab_behindGap 17 (e := (32, .iload_n 3, 1)) rfl) rfl rfl (pc' := 33) rfl ?_
      refine jW.callVe F (h (d + 0) _ hV) (dx_Lab_behindGap 18 (e := (33, .invokevirtual 43, 3)) rfl) can_Row_at jw_464 jw_439 (hV.clr (κ := 10) (by unfold isR; decide)) rfl jw_440 rfl rfl (Nat.le_of_ble_eq_true rfl) (pc' := 36) rfl (fun r σ hr => ?_)
      clear hV
      obtain ⟨_, hV, _, rfl, h⟩ := hr
      refine jW.bipush (v := 10) (dx_Lab_behindGap 19 (e := (36, .bipush 10, 2)) rfl) (by decide) (pc' := 38) rfl ?_
      refine jW.icmp_ne (dx_Lab_behindGap 20 (e := (38, .if_icmp .ne 36, 3)) rfl) 74 (by decide) (pc' := 41) rfl (fun c => ?_) (fun c => ?_)
      · replace h := h.2 c
        exact t_Lab_behindGap_74 F hV h
      · replace h := h.1 c
        refine jW.iload_n (dx_Lab_behindGap 21 (e := (41, .iload_n 2, 1)) rfl) rfl rfl (pc' := 42) rfl ?_
        refine jW.if_ne (dx_Lab_behindGap 22 (e := (42, .ifCond .ne 32, 3)) rfl) 74 (by decide) (pc' := 45) rfl (fun c => ?_) (fun c => ?_)
        · replace h := h.2 c
          exact t_Lab_behindGap_74 F hV h
        · replace h := h.1 c
          exact t_Lab_behindGap_45 F hV h hK4
def w_Lab_behindGap_0 (X : CX) (x1 : Int32) (m : CS) (Φ : Option Value → CS → Prop) (K4 : Int32 → Int32 → Int32 → CS → Prop) : Prop := K4 (x1) (0) (x1) m
theorem t_Lab_behindGap_0 {X : CX} {a0 : Array Value} (F : cF X a0) {d : Nat} {x1 : Int32} {o2 o3 : Option Value} {m : CS} {σ : jS} {Φ : Option Value → CS → Prop} {K4 : Int32 → Int32 → Int32 → CS → Prop} (hV : CV X m σ) (h : w_Lab_behindGap_0 X x1 m Φ K4) (hK4 : ∀ (x1 : Int32) (x2 : Int32) (x3 : Int32) (m : CS) (σ : jS), CV X m σ → K4 x1 x2 x3 m → jW X.1 X.2.1 jcl X.2.2.1 X.2.2.2.1 (d + 1) y_Lab_behindGap 4 [some (.ref (adr X 4)), some (.int x1), some (.int x2), some (.int x3)] [] σ (cP X Φ)) : jW X.1 X.2.1 jcl X.2.2.1 X.2.2.2.1 (d + 1) y_Lab_behindGap 0 [some (.ref (adr X 4)), some (.int x1), o2, o3] [] σ (cP X Φ) := by
  unfold w_Lab_behindGap_0 at h
  refine jW.iconst (v := 0) (dx_Lab_behindGap 0 (e := (0, .iconst 0, 1)) rfl) (by decide) (pc' := 1) rfl ?_
  refine jW.istore_n (dx_Lab_behindGap 1 (e := (1, .istore_n 2, 1)) rfl) rfl (by decide) rfl (pc' := 2) rfl ?_
  refine jW.iload_n (dx_Lab_behindGap 2 (e := (2, .iload_n 1, 1)) rfl) rfl rfl (pc' := 3) rfl ?_
  refine jW.istore_n (dx_Lab_behindGap 3 (e := (3, .istore_n 3, 1)) rfl) rfl (by decide) rfl (pc' := 4) rfl ?_
  exact hK4 _ _ _ _ _ hV h
theorem g_Lab_behindGap {X : CX} {a0 : Array Value} (F : cF X a0) {x1 : Int32} {m : CS} {Φ : Option Value → CS → Prop} {I4 : Nat → Int32 → Int32 → Int32 → CS → Prop} (he : w_Lab_behindGap_0 X x1 m Φ (fun x1 x2 x3 m => ∃ j, I4 j x1 x2 x3 m)) (h4 : ∀ (n : Nat) (x1 : Int32) (x2 : Int32) (x3 : Int32) (m : CS), I4 n x1 x2 x3 m → w_Lab_behindGap_4 X x1 x2 x3 m Φ (fun x1 x2 x3 m => ∃ j, j < n ∧ I4 j x1 x2 x3 m)) : cE X 1 y_Lab_behindGap [.ref (adr X 4), .int x1] m Φ := by
  intro d σ hV
  have hL4 : ∀ n, (∀ (x1 : Int32) (x2 : Int32) (x3 : Int32) (m : CS) (σ : jS), CV X m σ → I4 n x1 x2 x3 m → jW X.1 X.2.1 jcl X.2.2.1 X.2.2.2.1 (d + 1) y_Lab_behindGap 4 [some (.ref (adr X 4)), some (.int x1), some (.int x2), some (.int x3)] [] σ (cP X Φ)) := by
    intro n
    induction n using Nat.strongRecOn with
    | _ n ih =>
      exact fun x1 x2 x3 m σ hV hI => t_Lab_behindGap_4 F hV (h4 n x1 x2 x3 m hI) (fun x1 x2 x3 m σ hV ⟨j, hj, hI⟩ => (ih j hj) x1 x2 x3 m σ hV hI)
  refine jE.of (by decide) (by simp [Value.category]) (Nat.le_of_ble_eq_true rfl) rfl ?_
  exact t_Lab_behindGap_0 F hV he (fun x1 x2 x3 m σ hV ⟨j, hI⟩ => (hL4 j) x1 x2 x3 m σ hV hI)
def w_Lab_behindLine_65 (X : CX) (x1 : Int32) (x2 : Int32) (s0 : Int32) (m : CS) (Φ : Option Value → CS → Prop) : Prop := Φ (some (.int (s0))) m
theorem t_Lab_behindLine_65 {X : CX} {a0 : Array Value} (F : cF X a0) {d : Nat} {x1 : Int32} {x2 : Int32} {s0 : Int32} {m : CS} {σ : jS} {Φ : Option Value → CS → Prop} (hV : CV X m σ) (h : w_Lab_behindLine_65 X x1 x2 s0 m Φ) : jW X.1 X.2.1 jcl X.2.2.1 X.2.2.2.1 (d + 1) y_Lab_behindLine 65 [some (.ref (adr X 4)), some (.int x1), some (.int x2)] [.int s0] σ (cP X Φ) := by
  unfold w_Lab_behindLine_65 at h
  exact jW.iret (dx_Lab_behindLine 33 (e := (65, .ireturn, 1)) rfl) rfl ⟨_, hV, h⟩
def w_Lab_behindLine_32 (X : CX) (x1 : Int32) (x2 : Int32) (m : CS) (Φ : Option Value → CS → Prop) : Prop := cE X 0 y_Row_size [.ref (adr X 10)] m (ciP fun r1 m1 => ((x2 < r1 → cE X 0 y_Row_at [.ref (adr X 10), .int (x2)] m1 (ciP fun r2 m2 => ((r2 = 10 → w_Lab_behindLine_65 X (x1) (x2) (x2 + 1) m2 Φ) ∧ (¬ r2 = 10 → w_Lab_behindLine_65 X (x1) (x2) (-1) m2 Φ)))) ∧ (¬ x2 < r1 → Φ (some (.int (x2))) m1)))
theorem t_Lab_behindLine_32 {X : CX} {a0 : Array Value} (F : cF X a0) {d : Nat} {x1 : Int32} {x2 : Int32} {m : CS} {σ : jS} {Φ : Option Value → CS → Prop} (hV : CV X m σ) (h : w_Lab_behindLine_32 X x1 x2 m Φ) : jW X.1 X.2.1 jcl X.2.2.1 X.2.2.2.1 (d + 1) y_Lab_behindLine 32 [some (.ref (adr X 4)), some (.int x1), some (.int x2)] [] σ (cP X Φ) := by
  unfold w_Lab_behindLine_32 at h
  refine jW.iload_n (dx_Lab_behindLine 15 (e := (32, .iload_n 2, 1)) rfl) rfl rfl (pc' := 33) rfl ?_
  refine jW.aload_n (dx_Lab_behindLine 16 (e := (33, .aload_n 0, 1)) rfl) rfl rfl (pc' := 34) rfl ?_
  refine jW.cg (κ := 4) (k := 0) F hV.s4 f_Lab_behindLine_34 (by decide) rfl (pc' := 37) rfl ?_
  refine jW.callVe F (h (d + 0) _ hV) (dx_Lab_behindLine 18 (e := (37, .invokevirtual 28, 3)) rfl) can_Row_size jw_450 jw_372 (hV.clr (κ := 10) (by unfold isR; decide)) rfl jw_373 rfl rfl (Nat.le_of_ble_eq_true rfl) (pc' := 40) rfl (fun r σ hr => ?_)
  clear hV
  obtain ⟨_, hV, _, rfl, h⟩ := hr
  refine jW.icmp_lt (dx_Lab_behindLine 19 (e := (40, .if_icmp .lt 5, 3)) rfl) 45 (by decide) (pc' := 43) rfl (fun c => ?_) (fun c => ?_)
  · replace h := h.1 c
    refine jW.aload_n (dx_Lab_behindLine 22 (e := (45, .aload_n 0, 1)) rfl) rfl rfl (pc' := 46) rfl ?_
    refine jW.cg (κ := 4) (k := 0) F hV.s4 f_Lab_behindLine_46 (by decide) rfl (pc' := 49) rfl ?_
    refine jW.iload_n (dx_Lab_behindLine 24 (e := (49, .iload_n 2, 1)) rfl) rfl rfl (pc' := 50) rfl ?_
    refine jW.callVe F (h (d + 0) _ hV) (dx_Lab_behindLine 25 (e := (50, .invokevirtual 43, 3)) rfl) can_Row_at jw_464 jw_439 (hV.clr (κ := 10) (by unfold isR; decide)) rfl jw_440 rfl rfl (Nat.le_of_ble_eq_true rfl) (pc' := 53) rfl (fun r σ hr => ?_)
    clear hV
    obtain ⟨_, hV, _, rfl, h⟩ := hr
    refine jW.bipush (v := 10) (dx_Lab_behindLine 26 (e := (53, .bipush 10, 2)) rfl) (by decide) (pc' := 55) rfl ?_
    refine jW.icmp_ne (dx_Lab_behindLine 27 (e := (55, .if_icmp .ne 9, 3)) rfl) 64 (by decide) (pc' := 58) rfl (fun c => ?_) (fun c => ?_)
    · replace h := h.2 c
      refine jW.iconst (v := -1) (dx_Lab_behindLine 32 (e := (64, .iconst (-1), 1)) rfl) (by decide) (pc' := 65) rfl ?_
      exact t_Lab_behindLine_65 F hV h
    · replace h := h.1 c
      refine jW.iload_n (dx_Lab_behindLine 28 (e := (58, .iload_n 2, 1)) rfl) rfl rfl (pc' := 59) rfl ?_
      refine jW.iconst (v := 1) (dx_Lab_behindLine 29 (e := (59, .iconst 1, 1)) rfl) (by decide) (pc' := 60) rfl ?_
      refine jW.iadd (dx_Lab_behindLine 30 (e := (60, .iadd, 1)) rfl) (pc' := 61) rfl ?_
      refine jW.goto (dx_Lab_behindLine 31 (e := (61, .goto 4, 3)) rfl) 65 (by decide) ?_
      exact t_Lab_behindLine_65 F hV h
  · replace h := h.2 c
    refine jW.iload_n (dx_Lab_behindLine 20 (e := (43, .iload_n 2, 1)) rfl) rfl rfl (pc' := 44) rfl ?_
    exact jW.iret (dx_Lab_behindLine 21 (e := (44, .ireturn, 1)) rfl) rfl ⟨_, hV, h⟩
def w_Lab_behindLine_2 (X : CX) (x1 : Int32) (x2 : Int32) (m : CS) (Φ : Option Value → CS → Prop) (K2 : Int32 → Int32 → CS → Prop) : Prop := cE X 0 y_Row_size [.ref (adr X 10)] m (ciP fun r1 m1 => ((r1 ≤ x2 → w_Lab_behindLine_32 X (x1) (x2) m1 Φ) ∧ (¬ r1 ≤ x2 → cE X 0 y_Row_at [.ref (adr X 10), .int (x2)] m1 (ciP fun r2 m2 => ((r2 = 32 → K2 (x1) (x2 + 1) m2) ∧ (¬ r2 = 32 → w_Lab_behindLine_32 X (x1) (x2) m2 Φ))))))
theorem t_Lab_behindLine_2 {X : CX} {a0 : Array Value} (F : cF X a0) {d : Nat} {x1 : Int32} {x2 : Int32} {m : CS} {σ : jS} {Φ : Option Value → CS → Prop} {K2 : Int32 → Int32 → CS → Prop} (hV : CV X m σ) (h : w_Lab_behindLine_2 X x1 x2 m Φ K2) (hK2 : ∀ (x1 : Int32) (x2 : Int32) (m : CS) (σ : jS), CV X m σ → K2 x1 x2 m → jW X.1 X.2.1 jcl X.2.2.1 X.2.2.2.1 (d + 1) y_Lab_behindLine 2 [some (.ref (adr X 4)), some (.int x1), some (.int x2)] [] σ (cP X Φ)) : jW X.1 X.2.1 jcl X.2.2.1 X.2.2.2.1 (d + 1) y_Lab_behindLine 2 [some (.ref (adr X 4)), some (.int x1), some (.int x2)] [] σ (cP X Φ) := by
  unfold w_Lab_behindLine_2 at h
  refine jW.iload_n (dx_Lab_behindLine 2 (e := (2, .iload_n 2, 1)) rfl) rfl rfl (pc' := 3) rfl ?_
  refine jW.aload_n (dx_Lab_behindLine 3 (e := (3, .aload_n 0, 1)) rfl) rfl rfl (pc' := 4) rfl ?_
  refine jW.cg (κ := 4) (k := 0) F hV.s4 f_Lab_behindLine_4 (by decide) rfl (pc' := 7) rfl ?_
  refine jW.callVe F (h (d + 0) _ hV) (dx_Lab_behindLine 5 (e := (7, .invokevirtual 28, 3)) rfl) can_Row_size jw_450 jw_372 (hV.clr (κ := 10) (by unfold isR; decide)) rfl jw_373 rfl rfl (Nat.le_of_ble_eq_true rfl) (pc' := 10) rfl (fun r σ hr => ?_)
  clear hV
  obtain ⟨_, hV, _, rfl, h⟩ := hr
  refine jW.icmp_ge (dx_Lab_behindLine 6 (e := (10, .if_icmp .ge 22, 3)) rfl) 32 (by decide) (pc' := 13) rfl (fun c => ?_) (fun c => ?_)
  · replace h := h.1 c
    exact t_Lab_behindLine_32 F hV h
  · replace h := h.2 c
    refine jW.aload_n (dx_Lab_behindLine 7 (e := (13, .aload_n 0, 1)) rfl) rfl rfl (pc' := 14) rfl ?_
    refine jW.cg (κ := 4) (k := 0) F hV.s4 f_Lab_behindLine_14 (by decide) rfl (pc' := 17) rfl ?_
    refine jW.iload_n (dx_Lab_behindLine 9 (e := (17, .iload_n 2, 1)) rfl) rfl rfl (pc' := 18) rfl ?_
    refine jW.callVe F (h (d + 0) _ hV) (dx_Lab_behindLine 10 (e := (18, .invokevirtual 43, 3)) rfl) can_Row_at jw_464 jw_439 (hV.clr (κ := 10) (by unfold isR; decide)) rfl jw_440 rfl rfl (Nat.le_of_ble_eq_true rfl) (pc' := 21) rfl (fun r σ hr => ?_)
    clear hV
    obtain ⟨_, hV, _, rfl, h⟩ := hr
    refine jW.bipush (v := 32) (dx_Lab_behindLine 11 (e := (21, .bipush 32, 2)) rfl) (by decide) (pc' := 23) rfl ?_
    refine jW.icmp_ne (dx_Lab_behindLine 12 (e := (23, .if_icmp .ne 9, 3)) rfl) 32 (by decide) (pc' := 26) rfl (fun c => ?_) (fun c => ?_)
    · replace h := h.2 c
      exact t_Lab_behindLine_32 F hV h
    · replace h := h.1 c
      refine jW.iinc (v := _ + (1)) (dx_Lab_behindLine 13 (e := (26, .iinc 2 1, 3)) rfl) rfl rfl (by decide) rfl (pc' := 29) rfl ?_
      refine jW.goto (dx_Lab_behindLine 14 (e := (29, .goto (-27), 3)) rfl) 2 (by decide) ?_
      exact hK2 _ _ _ _ hV h
def w_Lab_behindLine_0 (X : CX) (x1 : Int32) (m : CS) (Φ : Option Value → CS → Prop) (K2 : Int32 → Int32 → CS → Prop) : Prop := K2 (x1) (x1) m
theorem t_Lab_behindLine_0 {X : CX} {a0 : Array Value} (F : cF X a0) {d : Nat} {x1 : Int32} {o2 : Option Value} {m : CS} {σ : jS} {Φ : Option Value → CS → Prop} {K2 : Int32 → Int32 → CS → Prop} (hV : CV X m σ) (h : w_Lab_behindLine_0 X x1 m Φ K2) (hK2 : ∀ (x1 : Int32) (x2 : Int32) (m : CS) (σ : jS), CV X m σ → K2 x1 x2 m → jW X.1 X.2.1 jcl X.2.2.1 X.2.2.2.1 (d + 1) y_Lab_behindLine 2 [some (.ref (adr X 4)), some (.int x1), some (.int x2)] [] σ (cP X Φ)) : jW X.1 X.2.1 jcl X.2.2.1 X.2.2.2.1 (d + 1) y_Lab_behindLine 0 [some (.ref (adr X 4)), some (.int x1), o2] [] σ (cP X Φ) := by
  unfold w_Lab_behindLine_0 at h
  refine jW.iload_n (dx_Lab_behindLine 0 (e := (0, .iload_n 1, 1)) rfl) rfl rfl (pc' := 1) rfl ?_
  refine jW.istore_n (dx_Lab_behindLine 1 (e := (1, .istore_n 2, 1)) rfl) rfl (by decide) rfl (pc' := 2) rfl ?_
  exact hK2 _ _ _ _ hV h
theorem g_Lab_behindLine {X : CX} {a0 : Array Value} (F : cF X a0) {x1 : Int32} {m : CS} {Φ : Option Value → CS → Prop} {I2 : Nat → Int32 → Int32 → CS → Prop} (he : w_Lab_behindLine_0 X x1 m Φ (fun x1 x2 m => ∃ j, I2 j x1 x2 m)) (h2 : ∀ (n : Nat) (x1 : Int32) (x2 : Int32) (m : CS), I2 n x1 x2 m → w_Lab_behindLine_2 X x1 x2 m Φ (fun x1 x2 m => ∃ j, j < n ∧ I2 j x1 x2 m)) : cE X 1 y_Lab_behindLine [.ref (adr X 4), .int x1] m Φ := by
  intro d σ hV
  have hL2 : ∀ n, (∀ (x1 : Int32) (x2 : Int32) (m : CS) (σ : jS), CV X m σ → I2 n x1 x2 m → jW X.1 X.2.1 jcl X.2.2.1 X.2.2.2.1 (d + 1) y_Lab_behindLine 2 [some (.ref (adr X 4)), some (.int x1), some (.int x2)] [] σ (cP X Φ)) := by
    intro n
    induction n using Nat.strongRecOn with
    | _ n ih =>
      exact fun x1 x2 m σ hV hI => t_Lab_behindLine_2 F hV (h2 n x1 x2 m hI) (fun x1 x2 m σ hV ⟨j, hj, hI⟩ => (ih j hj) x1 x2 m σ hV hI)
  refine jE.of (by decide) (by simp [Value.category]) (Nat.le_of_ble_eq_true rfl) rfl ?_
  exact t_Lab_behindLine_0 F hV he (fun x1 x2 m σ hV ⟨j, hI⟩ => (hL2 j) x1 x2 m σ hV hI)
def w_Lab_behindLabel_133 (X : CX) (x1 : Int32) (x2 : Int32) (x3 : Int32) (m : CS) (Φ : Option Value → CS → Prop) : Prop := Φ (some (.int (-1))) m
theorem t_Lab_behindLabel_133 {X : CX} {a0 : Array Value} (F : cF X a0) {d : Nat} {x1 : Int32} {x2 : Int32} {x3 : Int32} {m : CS} {σ : jS} {Φ : Option Value → CS → Prop} (hV : CV X m σ) (h : w_Lab_behindLabel_133 X x1 x2 x3 m Φ) : jW X.1 X.2.1 jcl X.2.2.1 X.2.2.2.1 (d + 1) y_Lab_behindLabel 133 [some (.ref (adr X 4)), some (.int x1), some (.int x2), some (.int x3)] [] σ (cP X Φ) := by
  unfold w_Lab_behindLabel_133 at h
  refine jW.iconst (v := -1) (dx_Lab_behindLabel 72 (e := (133, .iconst (-1), 1)) rfl) (by decide) (pc' := 134) rfl ?_
  exact jW.iret (dx_Lab_behindLabel 73 (e := (134, .ireturn, 1)) rfl) rfl ⟨_, hV, h⟩
def w_Lab_behindLabel_108 (X : CX) (x1 : Int32) (x2 : Int32) (x3 : Int32) (m : CS) (Φ : Option Value → CS → Prop) : Prop := cE X 0 y_Row_size [.ref (adr X 10)] m (ciP fun r1 m1 => ((r1 ≤ x3 → w_Lab_behindLabel_133 X (x1) (x2) (x3) m1 Φ) ∧ (¬ r1 ≤ x3 → ((x2 = 0 → (((x3 - x1) - 1 ≤ 100 → ∀ m2, m2 = cI m1 43 (x1 + 1) → ∀ m3, m3 = cI m2 44 (x3) → Φ (some (.int (x3 + 1))) m3) ∧ (¬ (x3 - x1) - 1 ≤ 100 → w_Lab_behindLabel_133 X (x1) (x2) (x3) m1 Φ))) ∧ (¬ x2 = 0 → w_Lab_behindLabel_133 X (x1) (x2) (x3) m1 Φ)))))
theorem t_Lab_behindLabel_108 {X : CX} {a0 : Array Value} (F : cF X a0) {d : Nat} {x1 : Int32} {x2 : Int32} {x3 : Int32} {m : CS} {σ : jS} {Φ : Option Value → CS → Prop} (hV : CV X m σ) (h : w_Lab_behindLabel_108 X x1 x2 x3 m Φ) : jW X.1 X.2.1 jcl X.2.2.1 X.2.2.2.1 (d + 1) y_Lab_behindLabel 108 [some (.ref (adr X 4)), some (.int x1), some (.int x2), some (.int x3)] [] σ (cP X Φ) := by
  unfold w_Lab_behindLabel_108 at h
  refine jW.iload_n (dx_Lab_behindLabel 58 (e := (108, .iload_n 3, 1)) rfl) rfl rfl (pc' := 109) rfl ?_
  refine jW.aload_n (dx_Lab_behindLabel 59 (e := (109, .aload_n 0, 1)) rfl) rfl rfl (pc' := 110) rfl ?_
  refine jW.cg (κ := 4) (k := 0) F hV.s4 f_Lab_behindLabel_110 (by decide) rfl (pc' := 113) rfl ?_
  refine jW.callVe F (h (d + 0) _ hV) (dx_Lab_behindLabel 61 (e := (113, .invokevirtual 28, 3)) rfl) can_Row_size jw_450 jw_372 (hV.clr (κ := 10) (by unfold isR; decide)) rfl jw_373 rfl rfl (Nat.le_of_ble_eq_true rfl) (pc' := 116) rfl (fun r σ hr => ?_)
  clear hV
  obtain ⟨_, hV, _, rfl, h⟩ := hr
  refine jW.icmp_ge (dx_Lab_behindLabel 62 (e := (116, .if_icmp .ge 17, 3)) rfl) 133 (by decide) (pc' := 119) rfl (fun c => ?_) (fun c => ?_)
  · replace h := h.1 c
    exact t_Lab_behindLabel_133 F hV h
  · replace h := h.2 c
    refine jW.iload_n (dx_Lab_behindLabel 63 (e := (119, .iload_n 2, 1)) rfl) rfl rfl (pc' := 120) rfl ?_
    refine jW.if_ne (dx_Lab_behindLabel 64 (e := (120, .ifCond .ne 13, 3)) rfl) 133 (by decide) (pc' := 123) rfl (fun c => ?_) (fun c => ?_)
    · replace h := h.2 c
      exact t_Lab_behindLabel_133 F hV h
    · replace h := h.1 c
      refine jW.iload_n (dx_Lab_behindLabel 65 (e := (123, .iload_n 3, 1)) rfl) rfl rfl (pc' := 124) rfl ?_
      refine jW.iload_n (dx_Lab_behindLabel 66 (e := (124, .iload_n 1, 1)) rfl) rfl rfl (pc' := 125) rfl ?_
      refine jW.isub (dx_Lab_behindLabel 67 (e := (125, .isub, 1)) rfl) (pc' := 126) rfl ?_
      refine jW.iconst (v := 1) (dx_Lab_behindLabel 68 (e := (126, .iconst 1, 1)) rfl) (by decide) (pc' := 127) rfl ?_
      refine jW.isub (dx_Lab_behindLabel 69 (e := (127, .isub, 1)) rfl) (pc' := 128) rfl ?_
      refine jW.bipush (v := 100) (dx_Lab_behindLabel 70 (e := (128, .bipush 100, 2)) rfl) (by decide) (pc' := 130) rfl ?_
      refine jW.icmp_le (dx_Lab_behindLabel 71 (e := (130, .if_icmp .le 5, 3)) rfl) 135 (by decide) (pc' := 133) rfl (fun c => ?_) (fun c => ?_)
      · replace h := h.1 c
        refine jW.aload_n (dx_Lab_behindLabel 74 (e := (135, .aload_n 0, 1)) rfl) rfl rfl (pc' := 136) rfl ?_
        refine jW.iload_n (dx_Lab_behindLabel 75 (e := (136, .iload_n 1, 1)) rfl) rfl rfl (pc' := 137) rfl ?_
        refine jW.iconst (v := 1) (dx_Lab_behindLabel 76 (e := (137, .iconst 1, 1)) rfl) (by decide) (pc' := 138) rfl ?_
        refine jW.iadd (dx_Lab_behindLabel 77 (e := (138, .iadd, 1)) rfl) (pc' := 139) rfl ?_
        refine jW.cp4 (k := 3) F hV f_Lab_behindLabel_139 (by decide) rfl rfl rfl (pc' := 142) rfl (fun σ hV => ?_)
        replace h := h _ rfl
        refine jW.aload_n (dx_Lab_behindLabel 79 (e := (142, .aload_n 0, 1)) rfl) rfl rfl (pc' := 143) rfl ?_
        refine jW.iload_n (dx_Lab_behindLabel 80 (e := (143, .iload_n 3, 1)) rfl) rfl rfl (pc' := 144) rfl ?_
        refine jW.cp4 (k := 4) F hV f_Lab_behindLabel_144 (by decide) rfl rfl rfl (pc' := 147) rfl (fun σ hV => ?_)
        replace h := h _ rfl
        refine jW.iload_n (dx_Lab_behindLabel 82 (e := (147, .iload_n 3, 1)) rfl) rfl rfl (pc' := 148) rfl ?_
        refine jW.iconst (v := 1) (dx_Lab_behindLabel 83 (e := (148, .iconst 1, 1)) rfl) (by decide) (pc' := 149) rfl ?_
        refine jW.iadd (dx_Lab_behindLabel 84 (e := (149, .iadd, 1)) rfl) (pc' := 150) rfl ?_
        exact jW.iret (dx_Lab_behindLabel 85 (e := (150, .ireturn, 1)) rfl) rfl ⟨_, hV, h⟩
      · replace h := h.2 c
        exact t_Lab_behindLabel_133 F hV h
def w_Lab_behindLabel_103 (X : CX) (x1 : Int32) (x2 : Int32) (x3 : Int32) (s0 : Int32) (s1 : Int32) (m : CS) (Φ : Option Value → CS → Prop) (K21 : Int32 → Int32 → Int32 → CS → Prop) : Prop := K21 (x1) (x2) (s0 + s1) m
theorem t_Lab_behindLabel_103 {X : CX} {a0 : Array Value} (F : cF X a0) {d : Nat} {x1 : Int32} {x2 : Int32} {x3 : Int32} {s0 : Int32} {s1 : Int32} {m : CS} {σ : jS} {Φ : Option Value → CS → Prop} {K21 : Int32 → Int32 → Int32 → CS → Prop} (hV : CV X m σ) (h : w_Lab_behindLabel_103 X x1 x2 x3 s0 s1 m Φ K21) (hK21 : ∀ (x1 : Int32) (x2 : Int32) (x3 : Int32) (m : CS) (σ : jS), CV X m σ → K21 x1 x2 x3 m → jW X.1 X.2.1 jcl X.2.2.1 X.2.2.2.1 (d + 1) y_Lab_behindLabel 21 [some (.ref (adr X 4)), some (.int x1), some (.int x2), some (.int x3)] [] σ (cP X Φ)) : jW X.1 X.2.1 jcl X.2.2.1 X.2.2.2.1 (d + 1) y_Lab_behindLabel 103 [some (.ref (adr X 4)), some (.int x1), some (.int x2), some (.int x3)] [.int s1, .int s0] σ (cP X Φ) := by
  unfold w_Lab_behindLabel_103 at h
  refine jW.iadd (dx_Lab_behindLabel 55 (e := (103, .iadd, 1)) rfl) (pc' := 104) rfl ?_
  refine jW.istore_n (dx_Lab_behindLabel 56 (e := (104, .istore_n 3, 1)) rfl) rfl (by decide) rfl (pc' := 105) rfl ?_
  refine jW.goto (dx_Lab_behindLabel 57 (e := (105, .goto (-84), 3)) rfl) 21 (by decide) ?_
  exact hK21 _ _ _ _ _ hV h
def w_Lab_behindLabel_83 (X : CX) (x1 : Int32) (x2 : Int32) (x3 : Int32) (s0 : Int32) (m : CS) (Φ : Option Value → CS → Prop) (K21 : Int32 → Int32 → Int32 → CS → Prop) : Prop := cE X 0 y_Row_at [.ref (adr X 10), .int (x3)] m (ciP fun r1 m1 => ((r1 = 92 → w_Lab_behindLabel_103 X (x1) (s0) (x3) (x3) (2) m1 Φ K21) ∧ (¬ r1 = 92 → w_Lab_behindLabel_103 X (x1) (s0) (x3) (x3) (1) m1 Φ K21)))
theorem t_Lab_behindLabel_83 {X : CX} {a0 : Array Value} (F : cF X a0) {d : Nat} {x1 : Int32} {x2 : Int32} {x3 : Int32} {s0 : Int32} {m : CS} {σ : jS} {Φ : Option Value → CS → Prop} {K21 : Int32 → Int32 → Int32 → CS → Prop} (hV : CV X m σ) (h : w_Lab_behindLabel_83 X x1 x2 x3 s0 m Φ K21) (hK21 : ∀ (x1 : Int32) (x2 : Int32) (x3 : Int32) (m : CS) (σ : jS), CV X m σ → K21 x1 x2 x3 m → jW X.1 X.2.1 jcl X.2.2.1 X.2.2.2.1 (d + 1) y_Lab_behindLabel 21 [some (.ref (adr X 4)), some (.int x1), some (.int x2), some (.int x3)] [] σ (cP X Φ)) : jW X.1 X.2.1 jcl X.2.2.1 X.2.2.2.1 (d + 1) y_Lab_behindLabel 83 [some (.ref (adr X 4)), some (.int x1), some (.int x2), some (.int x3)] [.int s0] σ (cP X Φ) := by
  unfold w_Lab_behindLabel_83 at h
  refine jW.istore_n (dx_Lab_behindLabel 44 (e := (83, .istore_n 2, 1)) rfl) rfl (by decide) rfl (pc' := 84) rfl ?_
  refine jW.iload_n (dx_Lab_behindLabel 45 (e := (84, .iload_n 3, 1)) rfl) rfl rfl (pc' := 85) rfl ?_
  refine jW.aload_n (dx_Lab_behindLabel 46 (e := (85, .aload_n 0, 1)) rfl) rfl rfl (pc' := 86) rfl ?_
  refine jW.cg (κ := 4) (k := 0) F hV.s4 f_Lab_behindLabel_86 (by decide) rfl (pc' := 89) rfl ?_
  refine jW.iload_n (dx_Lab_behindLabel 48 (e := (89, .iload_n 3, 1)) rfl) rfl rfl (pc' := 90) rfl ?_
  refine jW.callVe F (h (d + 0) _ hV) (dx_Lab_behindLabel 49 (e := (90, .invokevirtual 43, 3)) rfl) can_Row_at jw_464 jw_439 (hV.clr (κ := 10) (by unfold isR; decide)) rfl jw_440 rfl rfl (Nat.le_of_ble_eq_true rfl) (pc' := 93) rfl (fun r σ hr => ?_)
  clear hV
  obtain ⟨_, hV, _, rfl, h⟩ := hr
  refine jW.bipush (v := 92) (dx_Lab_behindLabel 50 (e := (93, .bipush 92, 2)) rfl) (by decide) (pc' := 95) rfl ?_
  refine jW.icmp_ne (dx_Lab_behindLabel 51 (e := (95, .if_icmp .ne 7, 3)) rfl) 102 (by decide) (pc' := 98) rfl (fun c => ?_) (fun c => ?_)
  · replace h := h.2 c
    refine jW.iconst (v := 1) (dx_Lab_behindLabel 54 (e := (102, .iconst 1, 1)) rfl) (by decide) (pc' := 103) rfl ?_
    exact t_Lab_behindLabel_103 F hV h hK21
  · replace h := h.1 c
    refine jW.iconst (v := 2) (dx_Lab_behindLabel 52 (e := (98, .iconst 2, 1)) rfl) (by decide) (pc' := 99) rfl ?_
    refine jW.goto (dx_Lab_behindLabel 53 (e := (99, .goto 4, 3)) rfl) 103 (by decide) ?_
    exact t_Lab_behindLabel_103 F hV h hK21
def w_Lab_behindLabel_82 (X : CX) (x1 : Int32) (x2 : Int32) (x3 : Int32) (m : CS) (Φ : Option Value → CS → Prop) (K21 : Int32 → Int32 → Int32 → CS → Prop) : Prop := w_Lab_behindLabel_83 X (x1) (x2) (x3) (0) m Φ K21
theorem t_Lab_behindLabel_82 {X : CX} {a0 : Array Value} (F : cF X a0) {d : Nat} {x1 : Int32} {x2 : Int32} {x3 : Int32} {m : CS} {σ : jS} {Φ : Option Value → CS → Prop} {K21 : Int32 → Int32 → Int32 → CS → Prop} (hV : CV X m σ) (h : w_Lab_behindLabel_82 X x1 x2 x3 m Φ K21) (hK21 : ∀ (x1 : Int32) (x2 : Int32) (x3 : Int32) (m : CS) (σ : jS), CV X m σ → K21 x1 x2 x3 m → jW X.1 X.2.1 jcl X.2.2.1 X.2.2.2.1 (d + 1) y_Lab_behindLabel 21 [some (.ref (adr X 4)), some (.int x1), some (.int x2), some (.int x3)] [] σ (cP X Φ)) : jW X.1 X.2.1 jcl X.2.2.1 X.2.2.2.1 (d + 1) y_Lab_behindLabel 82 [some (.ref (adr X 4)), some (.int x1), some (.int x2), some (.int x3)] [] σ (cP X Φ) := by
  unfold w_Lab_behindLabel_82 at h
  refine jW.iconst (v := 0) (dx_Lab_behindLabel 43 (e := (82, .iconst 0, 1)) rfl) (by decide) (pc' := 83) rfl ?_
  exact t_Lab_behindLabel_83 F hV h hK21
def w_Lab_behindLabel_21 (X : CX) (x1 : Int32) (x2 : Int32) (x3 : Int32) (m : CS) (Φ : Option Value → CS → Prop) (K21 : Int32 → Int32 → Int32 → CS → Prop) : Prop := cE X 0 y_Row_size [.ref (adr X 10)] m (ciP fun r1 m1 => ((r1 ≤ x3 → w_Lab_behindLabel_108 X (x1) (x2) (x3) m1 Φ) ∧ (¬ r1 ≤ x3 → cE X 0 y_Row_at [.ref (adr X 10), .int (x3)] m1 (ciP fun r2 m2 => ((r2 = 93 → w_Lab_behindLabel_108 X (x1) (x2) (x3) m2 Φ) ∧ (¬ r2 = 93 → cE X 0 y_Row_at [.ref (adr X 10), .int (x3)] m2 (ciP fun r3 m3 => ((r3 = 91 → Φ (some (.int (-1))) m3) ∧ (¬ r3 = 91 → ((x2 = 0 → w_Lab_behindLabel_82 X (x1) (x2) (x3) m3 Φ K21) ∧ (¬ x2 = 0 → cE X 0 y_Row_at [.ref (adr X 10), .int (x3)] m3 (ciP fun r4 m4 => cE X 0 y_MB_isWhite [.int (r4)] m4 (ciP fun r5 m5 => ((r5 = 0 → w_Lab_behindLabel_82 X (x1) (x2) (x3) m5 Φ K21) ∧ (¬ r5 = 0 → w_Lab_behindLabel_83 X (x1) (x2) (x3) (1) m5 Φ K21)))))))))))))))
theorem t_Lab_behindLabel_21 {X : CX} {a0 : Array Value} (F : cF X a0) {d : Nat} {x1 : Int32} {x2 : Int32} {x3 : Int32} {m : CS} {σ : jS} {Φ : Option Value → CS → Prop} {K21 : Int32 → Int32 → Int32 → CS → Prop} (hV : CV X m σ) (h : w_Lab_behindLabel_21 X x1 x2 x3 m Φ K21) (hK21 : ∀ (x1 : Int32) (x2 : Int32) (x3 : Int32) (m : CS) (σ : jS), CV X m σ → K21 x1 x2 x3 m → jW X.1 X.2.1 jcl X.2.2.1 X.2.2.2.1 (d + 1) y_Lab_behindLabel 21 [some (.ref (adr X 4)), some (.int x1), some (.int x2), some (.int x3)] [] σ (cP X Φ)) : jW X.1 X.2.1 jcl X.2.2.1 X.2.2.2.1 (d + 1) y_Lab_behindLabel 21 [some (.ref (adr X 4)), some (.int x1), some (.int x2), some (.int x3)] [] σ (cP X Φ) := by
  unfold w_Lab_behindLabel_21 at h
  refine jW.iload_n (dx_Lab_behindLabel 14 (e := (21, .iload_n 3, 1)) rfl) rfl rfl (pc' := 22) rfl ?_
  refine jW.aload_n (dx_Lab_behindLabel 15 (e := (22, .aload_n 0, 1)) rfl) rfl rfl (pc' := 23) rfl ?_
  refine jW.cg (κ := 4) (k := 0) F hV.s4 f_Lab_behindLabel_23 (by decide) rfl (pc' := 26) rfl ?_
  refine jW.callVe F (h (d + 0) _ hV) (dx_Lab_behindLabel 17 (e := (26, .invokevirtual 28, 3)) rfl) can_Row_size jw_450 jw_372 (hV.clr (κ := 10) (by unfold isR; decide)) rfl jw_373 rfl rfl (Nat.le_of_ble_eq_true rfl) (pc' := 29) rfl (fun r σ hr => ?_)
  clear hV
  obtain ⟨_, hV, _, rfl, h⟩ := hr
  refine jW.icmp_ge (dx_Lab_behindLabel 18 (e := (29, .if_icmp .ge 79, 3)) rfl) 108 (by decide) (pc' := 32) rfl (fun c => ?_) (fun c => ?_)
  · replace h := h.1 c
    exact t_Lab_behindLabel_108 F hV h
  · replace h := h.2 c
    refine jW.aload_n (dx_Lab_behindLabel 19 (e := (32, .aload_n 0, 1)) rfl) rfl rfl (pc' := 33) rfl ?_
    refine jW.cg (κ := 4) (k := 0) F hV.s4 f_Lab_behindLabel_33 (by decide) rfl (pc' := 36) rfl ?_
    refine jW.iload_n (dx_Lab_behindLabel 21 (e := (36, .iload_n 3, 1)) rfl) rfl rfl (pc' := 37) rfl ?_
    refine jW.callVe F (h (d + 0) _ hV) (dx_Lab_behindLabel 22 (e := (37, .invokevirtual 43, 3)) rfl) can_Row_at jw_464 jw_439 (hV.clr (κ := 10) (by unfold isR; decide)) rfl jw_440 rfl rfl (Nat.le_of_ble_eq_true rfl) (pc' := 40) rfl (fun r σ hr => ?_)
    clear hV
    obtain ⟨_, hV, _, rfl, h⟩ := hr
    refine jW.bipush (v := 93) (dx_Lab_behindLabel 23 (e := (40, .bipush 93, 2)) rfl) (by decide) (pc' := 42) rfl ?_
    refine jW.icmp_eq (dx_Lab_behindLabel 24 (e := (42, .if_icmp .eq 66, 3)) rfl) 108 (by decide) (pc' := 45) rfl (fun c => ?_) (fun c => ?_)
    · replace h := h.1 c
      exact t_Lab_behindLabel_108 F hV h
    · replace h := h.2 c
      refine jW.aload_n (dx_Lab_behindLabel 25 (e := (45, .aload_n 0, 1)) rfl) rfl rfl (pc' := 46) rfl ?_
      refine jW.cg (κ := 4) (k := 0) F hV.s4 f_Lab_behindLabel_46 (by decide) rfl (pc' := 49) rfl ?_
      refine jW.iload_n (dx_Lab_behindLabel 27 (e := (49, .iload_n 3, 1)) rfl) rfl rfl (pc' := 50) rfl ?_
      refine jW.callVe F (h (d + 0) _ hV) (dx_Lab_behindLabel 28 (e := (50, .invokevirtual 43, 3)) rfl) can_Row_at jw_464 jw_439 (hV.clr (κ := 10) (by unfold isR; decide)) rfl jw_440 rfl rfl (Nat.le_of_ble_eq_true rfl) (pc' := 53) rfl (fun r σ hr => ?_)
      clear hV
      obtain ⟨_, hV, _, rfl, h⟩ := hr
      refine jW.bipush (v := 91) (dx_Lab_behindLabel 29 (e := (53, .bipush 91, 2)) rfl) (by decide) (pc' := 55) rfl ?_
      refine jW.icmp_ne (dx_Lab_behindLabel 30 (e := (55, .if_icmp .ne 5, 3)) rfl) 60 (by decide) (pc' := 58) rfl (fun c => ?_) (fun c => ?_)
      · replace h := h.2 c
        refine jW.iload_n (dx_Lab_behindLabel 33 (e := (60, .iload_n 2, 1)) rfl) rfl rfl (pc' := 61) rfl ?_
        refine jW.if_eq (dx_Lab_behindLabel 34 (e := (61, .ifCond .eq 21, 3)) rfl) 82 (by decide) (pc' := 64) rfl (fun c => ?_) (fun c => ?_)
        · replace h := h.1 c
          exact t_Lab_behindLabel_82 F hV h hK21
        · replace h := h.2 c
          refine jW.aload_n (dx_Lab_behindLabel 35 (e := (64, .aload_n 0, 1)) rfl) rfl rfl (pc' := 65) rfl ?_
          refine jW.cg (κ := 4) (k := 0) F hV.s4 f_Lab_behindLabel_65 (by decide) rfl (pc' := 68) rfl ?_
          refine jW.iload_n (dx_Lab_behindLabel 37 (e := (68, .iload_n 3, 1)) rfl) rfl rfl (pc' := 69) rfl ?_
          refine jW.callVe F (h (d + 0) _ hV) (dx_Lab_behindLabel 38 (e := (69, .invokevirtual 43, 3)) rfl) can_Row_at jw_464 jw_439 (hV.clr (κ := 10) (by unfold isR; decide)) rfl jw_440 rfl rfl (Nat.le_of_ble_eq_true rfl) (pc' := 72) rfl (fun r σ hr => ?_)
          clear hV
          obtain ⟨_, hV, _, rfl, h⟩ := hr
          refine jW.callSN F (h (d + 0) _ hV) (dx_Lab_behindLabel 39 (e := (72, .invokestatic 58, 3)) rfl) can_MB_isWhite jw_490 jw_491 rfl rfl (Nat.le_of_ble_eq_true rfl) (pc' := 75) rfl (fun r σ hr => ?_)
          clear hV
          obtain ⟨_, hV, _, rfl, h⟩ := hr
          refine jW.if_eq (dx_Lab_behindLabel 40 (e := (75, .ifCond .eq 7, 3)) rfl) 82 (by decide) (pc' := 78) rfl (fun c => ?_) (fun c => ?_)
          · replace h := h.1 c
            exact t_Lab_behindLabel_82 F hV h hK21
          · replace h := h.2 c
            refine jW.iconst (v := 1) (dx_Lab_behindLabel 41 (e := (78, .iconst 1, 1)) rfl) (by decide) (pc' := 79) rfl ?_
            refine jW.goto (dx_Lab_behindLabel 42 (e := (79, .goto 4, 3)) rfl) 83 (by decide) ?_
            exact t_Lab_behindLabel_83 F hV h hK21
      · replace h := h.1 c
        refine jW.iconst (v := -1) (dx_Lab_behindLabel 31 (e := (58, .iconst (-1), 1)) rfl) (by decide) (pc' := 59) rfl ?_
        exact jW.iret (dx_Lab_behindLabel 32 (e := (59, .ireturn, 1)) rfl) rfl ⟨_, hV, h⟩
def w_Lab_behindLabel_0 (X : CX) (x1 : Int32) (m : CS) (Φ : Option Value → CS → Prop) (K21 : Int32 → Int32 → Int32 → CS → Prop) : Prop := cE X 0 y_Row_at [.ref (adr X 10), .int (x1)] m (ciP fun r1 m1 => ((r1 = 91 → K21 (x1) (1) (x1 + 1) m1) ∧ (¬ r1 = 91 → Φ (some (.int (-1))) m1)))
theorem t_Lab_behindLabel_0 {X : CX} {a0 : Array Value} (F : cF X a0) {d : Nat} {x1 : Int32} {o2 o3 : Option Value} {m : CS} {σ : jS} {Φ : Option Value → CS → Prop} {K21 : Int32 → Int32 → Int32 → CS → Prop} (hV : CV X m σ) (h : w_Lab_behindLabel_0 X x1 m Φ K21) (hK21 : ∀ (x1 : Int32) (x2 : Int32) (x3 : Int32) (m : CS) (σ : jS), CV X m σ → K21 x1 x2 x3 m → jW X.1 X.2.1 jcl X.2.2.1 X.2.2.2.1 (d + 1) y_Lab_behindLabel 21 [some (.ref (adr X 4)), some (.int x1), some (.int x2), some (.int x3)] [] σ (cP X Φ)) : jW X.1 X.2.1 jcl X.2.2.1 X.2.2.2.1 (d + 1) y_Lab_behindLabel 0 [some (.ref (adr X 4)), some (.int x1), o2, o3] [] σ (cP X Φ) := by
  unfold w_Lab_behindLabel_0 at h
  refine jW.aload_n (dx_Lab_behindLabel 0 (e := (0, .aload_n 0, 1)) rfl) rfl rfl (pc' := 1) rfl ?_
  refine jW.cg (κ := 4) (k := 0) F hV.s4 f_Lab_behindLabel_1 (by decide) rfl (pc' := 4) rfl ?_
  refine jW.iload_n (dx_Lab_behindLabel 2 (e := (4, .iload_n 1, 1)) rfl) rfl rfl (pc' := 5) rfl ?_
  refine jW.callVe F (h (d + 0) _ hV) (dx_Lab_behindLabel 3 (e := (5, .invokevirtual 43, 3)) rfl) can_Row_at jw_464 jw_439 (hV.clr (κ := 10) (by unfold isR; decide)) rfl jw_440 rfl rfl (Nat.le_of_ble_eq_true rfl) (pc' := 8) rfl (fun r σ hr => ?_)
  clear hV
  obtain ⟨_, hV, _, rfl, h⟩ := hr
  refine jW.bipush (v := 91) (dx_Lab_behindLabel 4 (e := (8, .bipush 91, 2)) rfl) (by decide) (pc' := 10) rfl ?_
  refine jW.icmp_eq (dx_Lab_behindLabel 5 (e := (10, .if_icmp .eq 5, 3)) rfl) 15 (by decide) (pc' := 13) rfl (fun c => ?_) (fun c => ?_)
  · replace h := h.1 c
    refine jW.iconst (v := 1) (dx_Lab_behindLabel 8 (e := (15, .iconst 1, 1)) rfl) (by decide) (pc' := 16) rfl ?_
    refine jW.istore_n (dx_Lab_behindLabel 9 (e := (16, .istore_n 2, 1)) rfl) rfl (by decide) rfl (pc' := 17) rfl ?_
    refine jW.iload_n (dx_Lab_behindLabel 10 (e := (17, .iload_n 1, 1)) rfl) rfl rfl (pc' := 18) rfl ?_
    refine jW.iconst (v := 1) (dx_Lab_behindLabel 11 (e := (18, .iconst 1, 1)) rfl) (by decide) (pc' := 19) rfl ?_
    refine jW.iadd (dx_Lab_behindLabel 12 (e := (19, .iadd, 1)) rfl) (pc' := 20) rfl ?_
    refine jW.istore_n (dx_Lab_behindLabel 13 (e := (20, .istore_n 3, 1)) rfl) rfl (by decide) rfl (pc' := 21) rfl ?_
    exact hK21 _ _ _ _ _ hV h
  · replace h := h.2 c
    refine jW.iconst (v := -1) (dx_Lab_behindLabel 6 (e := (13, .iconst (-1), 1)) rfl) (by decide) (pc' := 14) rfl ?_
    exact jW.iret (dx_Lab_behindLabel 7 (e := (14, .ireturn, 1)) rfl) rfl ⟨_, hV, h⟩
theorem g_Lab_behindLabel {X : CX} {a0 : Array Value} (F : cF X a0) {x1 : Int32} {m : CS} {Φ : Option Value → CS → Prop} {I21 : Nat → Int32 → Int32 → Int32 → CS → Prop} (he : w_Lab_behindLabel_0 X x1 m Φ (fun x1 x2 x3 m => ∃ j, I21 j x1 x2 x3 m)) (h21 : ∀ (n : Nat) (x1 : Int32) (x2 : Int32) (x3 : Int32) (m : CS), I21 n x1 x2 x3 m → w_Lab_behindLabel_21 X x1 x2 x3 m Φ (fun x1 x2 x3 m => ∃ j, j < n ∧ I21 j x1 x2 x3 m)) : cE X 1 y_Lab_behindLabel [.ref (adr X 4), .int x1] m Φ := by
  intro d σ hV
  have hL21 : ∀ n, (∀ (x1 : Int32) (x2 : Int32) (x3 : Int32) (m : CS) (σ : jS), CV X m σ → I21 n x1 x2 x3 m → jW X.1 X.2.1 jcl X.2.2.1 X.2.2.2.1 (d + 1) y_Lab_behindLabel 21 [some (.ref (adr X 4)), some (.int x1), some (.int x2), some (.int x3)] [] σ (cP X Φ)) := by
    intro n
    induction n using Nat.strongRecOn with
    | _ n ih =>
      exact fun x1 x2 x3 m σ hV hI => t_Lab_behindLabel_21 F hV (h21 n x1 x2 x3 m hI) (fun x1 x2 x3 m σ hV ⟨j, hj, hI⟩ => (ih j hj) x1 x2 x3 m σ hV hI)
  refine jE.of (by decide) (by simp [Value.category]) (Nat.le_of_ble_eq_true rfl) rfl ?_
  exact t_Lab_behindLabel_0 F hV he (fun x1 x2 x3 m σ hV ⟨j, hI⟩ => (hL21 j) x1 x2 x3 m σ hV hI)
def w_Lab_behindAngles_95 (X : CX) (x1 : Int32) (x2 : Int32) (m : CS) (Φ : Option Value → CS → Prop) : Prop := cE X 0 y_Row_size [.ref (adr X 10)] m (ciP fun r1 m1 => ((x2 < r1 → ∀ m2, m2 = cI m1 45 (x1 + 1) → ∀ m3, m3 = cI m2 46 (x2) → Φ (some (.int (x2 + 1))) m3) ∧ (¬ x2 < r1 → Φ (some (.int (-1))) m1)))
theorem t_Lab_behindAngles_95 {X : CX} {a0 : Array Value} (F : cF X a0) {d : Nat} {x1 : Int32} {x2 : Int32} {m : CS} {σ : jS} {Φ : Option Value → CS → Prop} (hV : CV X m σ) (h : w_Lab_behindAngles_95 X x1 x2 m Φ) : jW X.1 X.2.1 jcl X.2.2.1 X.2.2.2.1 (d + 1) y_Lab_behindAngles 95 [some (.ref (adr X 4)), some (.int x1), some (.int x2)] [] σ (cP X Φ) := by
  unfold w_Lab_behindAngles_95 at h
  refine jW.iload_n (dx_Lab_behindAngles 50 (e := (95, .iload_n 2, 1)) rfl) rfl rfl (pc' := 96) rfl ?_
  refine jW.aload_n (dx_Lab_behindAngles 51 (e := (96, .aload_n 0, 1)) rfl) rfl rfl (pc' := 97) rfl ?_
  refine jW.cg (κ := 4) (k := 0) F hV.s4 f_Lab_behindAngles_97 (by decide) rfl (pc' := 100) rfl ?_
  refine jW.callVe F (h (d + 0) _ hV) (dx_Lab_behindAngles 53 (e := (100, .invokevirtual 28, 3)) rfl) can_Row_size jw_450 jw_372 (hV.clr (κ := 10) (by unfold isR; decide)) rfl jw_373 rfl rfl (Nat.le_of_ble_eq_true rfl) (pc' := 103) rfl (fun r σ hr => ?_)
  clear hV
  obtain ⟨_, hV, _, rfl, h⟩ := hr
  refine jW.icmp_lt (dx_Lab_behindAngles 54 (e := (103, .if_icmp .lt 5, 3)) rfl) 108 (by decide) (pc' := 106) rfl (fun c => ?_) (fun c => ?_)
  · replace h := h.1 c
    refine jW.aload_n (dx_Lab_behindAngles 57 (e := (108, .aload_n 0, 1)) rfl) rfl rfl (pc' := 109) rfl ?_
    refine jW.iload_n (dx_Lab_behindAngles 58 (e := (109, .iload_n 1, 1)) rfl) rfl rfl (pc' := 110) rfl ?_
    refine jW.iconst (v := 1) (dx_Lab_behindAngles 59 (e := (110, .iconst 1, 1)) rfl) (by decide) (pc' := 111) rfl ?_
    refine jW.iadd (dx_Lab_behindAngles 60 (e := (111, .iadd, 1)) rfl) (pc' := 112) rfl ?_
    refine jW.cp4 (k := 5) F hV f_Lab_behindAngles_112 (by decide) rfl rfl rfl (pc' := 115) rfl (fun σ hV => ?_)
    replace h := h _ rfl
    refine jW.aload_n (dx_Lab_behindAngles 62 (e := (115, .aload_n 0, 1)) rfl) rfl rfl (pc' := 116) rfl ?_
    refine jW.iload_n (dx_Lab_behindAngles 63 (e := (116, .iload_n 2, 1)) rfl) rfl rfl (pc' := 117) rfl ?_
    refine jW.cp4 (k := 6) F hV f_Lab_behindAngles_117 (by decide) rfl rfl rfl (pc' := 120) rfl (fun σ hV => ?_)
    replace h := h _ rfl
    refine jW.iload_n (dx_Lab_behindAngles 65 (e := (120, .iload_n 2, 1)) rfl) rfl rfl (pc' := 121) rfl ?_
    refine jW.iconst (v := 1) (dx_Lab_behindAngles 66 (e := (121, .iconst 1, 1)) rfl) (by decide) (pc' := 122) rfl ?_
    refine jW.iadd (dx_Lab_behindAngles 67 (e := (122, .iadd, 1)) rfl) (pc' := 123) rfl ?_
    exact jW.iret (dx_Lab_behindAngles 68 (e := (123, .ireturn, 1)) rfl) rfl ⟨_, hV, h⟩
  · replace h := h.2 c
    refine jW.iconst (v := -1) (dx_Lab_behindAngles 55 (e := (106, .iconst (-1), 1)) rfl) (by decide) (pc' := 107) rfl ?_
    exact jW.iret (dx_Lab_behindAngles 56 (e := (107, .ireturn, 1)) rfl) rfl ⟨_, hV, h⟩
def w_Lab_behindAngles_54 (X : CX) (x1 : Int32) (x2 : Int32) (m : CS) (Φ : Option Value → CS → Prop) : Prop := Φ (some (.int (-1))) m
theorem t_Lab_behindAngles_54 {X : CX} {a0 : Array Value} (F : cF X a0) {d : Nat} {x1 : Int32} {x2 : Int32} {m : CS} {σ : jS} {Φ : Option Value → CS → Prop} (hV : CV X m σ) (h : w_Lab_behindAngles_54 X x1 x2 m Φ) : jW X.1 X.2.1 jcl X.2.2.1 X.2.2.2.1 (d + 1) y_Lab_behindAngles 54 [some (.ref (adr X 4)), some (.int x1), some (.int x2)] [] σ (cP X Φ) := by
  unfold w_Lab_behindAngles_54 at h
  refine jW.iconst (v := -1) (dx_Lab_behindAngles 27 (e := (54, .iconst (-1), 1)) rfl) (by decide) (pc' := 55) rfl ?_
  exact jW.iret (dx_Lab_behindAngles 28 (e := (55, .ireturn, 1)) rfl) rfl ⟨_, hV, h⟩
def w_Lab_behindAngles_90 (X : CX) (x1 : Int32) (x2 : Int32) (s0 : Int32) (s1 : Int32) (m : CS) (Φ : Option Value → CS → Prop) (K4 : Int32 → Int32 → CS → Prop) : Prop := K4 (x1) (s0 + s1) m
theorem t_Lab_behindAngles_90 {X : CX} {a0 : Array Value} (F : cF X a0) {d : Nat} {x1 : Int32} {x2 : Int32} {s0 : Int32} {s1 : Int32} {m : CS} {σ : jS} {Φ : Option Value → CS → Prop} {K4 : Int32 → Int32 → CS → Prop} (hV : CV X m σ) (h : w_Lab_behindAngles_90 X x1 x2 s0 s1 m Φ K4) (hK4 : ∀ (x1 : Int32) (x2 : Int32) (m : CS) (σ : jS), CV X m σ → K4 x1 x2 m → jW X.1 X.2.1 jcl X.2.2.1 X.2.2.2.1 (d + 1) y_Lab_behindAngles 4 [some (.ref (adr X 4)), some (.int x1), some (.int x2)] [] σ (cP X Φ)) : jW X.1 X.2.1 jcl X.2.2.1 X.2.2.2.1 (d + 1) y_Lab_behindAngles 90 [some (.ref (adr X 4)), some (.int x1), some (.int x2)] [.int s1, .int s0] σ (cP X Φ) := by
  unfold w_Lab_behindAngles_90 at h
  refine jW.iadd (dx_Lab_behindAngles 47 (e := (90, .iadd, 1)) rfl) (pc' := 91) rfl ?_
  refine jW.istore_n (dx_Lab_behindAngles 48 (e := (91, .istore_n 2, 1)) rfl) rfl (by decide) rfl (pc' := 92) rfl ?_
  refine jW.goto (dx_Lab_behindAngles 49 (e := (92, .goto (-88), 3)) rfl) 4 (by decide) ?_
  exact hK4 _ _ _ _ hV h
def w_Lab_behindAngles_89 (X : CX) (x1 : Int32) (x2 : Int32) (s0 : Int32) (m : CS) (Φ : Option Value → CS → Prop) (K4 : Int32 → Int32 → CS → Prop) : Prop := w_Lab_behindAngles_90 X (x1) (x2) (s0) (1) m Φ K4
theorem t_Lab_behindAngles_89 {X : CX} {a0 : Array Value} (F : cF X a0) {d : Nat} {x1 : Int32} {x2 : Int32} {s0 : Int32} {m : CS} {σ : jS} {Φ : Option Value → CS → Prop} {K4 : Int32 → Int32 → CS → Prop} (hV : CV X m σ) (h : w_Lab_behindAngles_89 X x1 x2 s0 m Φ K4) (hK4 : ∀ (x1 : Int32) (x2 : Int32) (m : CS) (σ : jS), CV X m σ → K4 x1 x2 m → jW X.1 X.2.1 jcl X.2.2.1 X.2.2.2.1 (d + 1) y_Lab_behindAngles 4 [some (.ref (adr X 4)), some (.int x1), some (.int x2)] [] σ (cP X Φ)) : jW X.1 X.2.1 jcl X.2.2.1 X.2.2.2.1 (d + 1) y_Lab_behindAngles 89 [some (.ref (adr X 4)), some (.int x1), some (.int x2)] [.int s0] σ (cP X Φ) := by
  unfold w_Lab_behindAngles_89 at h
  refine jW.iconst (v := 1) (dx_Lab_behindAngles 46 (e := (89, .iconst 1, 1)) rfl) (by decide) (pc' := 90) rfl ?_
  exact t_Lab_behindAngles_90 F hV h hK4
def w_Lab_behindAngles_4 (X : CX) (x1 : Int32) (x2 : Int32) (m : CS) (Φ : Option Value → CS → Prop) (K4 : Int32 → Int32 → CS → Prop) : Prop := cE X 0 y_Row_size [.ref (adr X 10)] m (ciP fun r1 m1 => ((r1 ≤ x2 → w_Lab_behindAngles_95 X (x1) (x2) m1 Φ) ∧ (¬ r1 ≤ x2 → cE X 0 y_Row_at [.ref (adr X 10), .int (x2)] m1 (ciP fun r2 m2 => ((r2 = 62 → w_Lab_behindAngles_95 X (x1) (x2) m2 Φ) ∧ (¬ r2 = 62 → cE X 0 y_Row_at [.ref (adr X 10), .int (x2)] m2 (ciP fun r3 m3 => ((r3 = 60 → w_Lab_behindAngles_54 X (x1) (x2) m3 Φ) ∧ (¬ r3 = 60 → cE X 0 y_Row_at [.ref (adr X 10), .int (x2)] m3 (ciP fun r4 m4 => ((r4 = 10 → w_Lab_behindAngles_54 X (x1) (x2) m4 Φ) ∧ (¬ r4 = 10 → cE X 0 y_Row_at [.ref (adr X 10), .int (x2)] m4 (ciP fun r5 m5 => ((r5 = 92 → cE X 0 y_Row_at [.ref (adr X 10), .int (x2 + 1)] m5 (ciP fun r6 m6 => ((r6 = 10 → w_Lab_behindAngles_89 X (x1) (x2) (x2) m6 Φ K4) ∧ (¬ r6 = 10 → w_Lab_behindAngles_90 X (x1) (x2) (x2) (2) m6 Φ K4)))) ∧ (¬ r5 = 92 → w_Lab_behindAngles_89 X (x1) (x2) (x2) m5 Φ K4)))))))))))))))
theorem t_Lab_behindAngles_4 {X : CX} {a0 : Array Value} (F : cF X a0) {d : Nat} {x1 : Int32} {x2 : Int32} {m : CS} {σ : jS} {Φ : Option Value → CS → Prop} {K4 : Int32 → Int32 → CS → Prop} (hV : CV X m σ) (h : w_Lab_behindAngles_4 X x1 x2 m Φ K4) (hK4 : ∀ (x1 : Int32) (x2 : Int32) (m : CS) (σ : jS), CV X m σ → K4 x1 x2 m → jW X.1 X.2.1 jcl X.2.2.1 X.2.2.2.1 (d + 1) y_Lab_behindAngles 4 [some (.ref (adr X 4)), some (.int x1), some (.int x2)] [] σ (cP X Φ)) : jW X.1 X.2.1 jcl X.2.2.1 X.2.2.2.1 (d + 1) y_Lab_behindAngles 4 [some (.ref (adr X 4)), some (.int x1), some (.int x2)] [] σ (cP X Φ) := by
  unfold w_Lab_behindAngles_4 at h
  refine jW.iload_n (dx_Lab_behindAngles 4 (e := (4, .iload_n 2, 1)) rfl) rfl rfl (pc' := 5) rfl ?_
  refine jW.aload_n (dx_Lab_behindAngles 5 (e := (5, .aload_n 0, 1)) rfl) rfl rfl (pc' := 6) rfl ?_
  refine jW.cg (κ := 4) (k := 0) F hV.s4 f_Lab_behindAngles_6 (by decide) rfl (pc' := 9) rfl ?_
  refine jW.callVe F (h (d + 0) _ hV) (dx_Lab_behindAngles 7 (e := (9, .invokevirtual 28, 3)) rfl) can_Row_size jw_450 jw_372 (hV.clr (κ := 10) (by unfold isR; decide)) rfl jw_373 rfl rfl (Nat.le_of_ble_eq_true rfl) (pc' := 12) rfl (fun r σ hr => ?_)
  clear hV
  obtain ⟨_, hV, _, rfl, h⟩ := hr
  refine jW.icmp_ge (dx_Lab_behindAngles 8 (e := (12, .if_icmp .ge 83, 3)) rfl) 95 (by decide) (pc' := 15) rfl (fun c => ?_) (fun c => ?_)
  · replace h := h.1 c
    exact t_Lab_behindAngles_95 F hV h
  · replace h := h.2 c
    refine jW.aload_n (dx_Lab_behindAngles 9 (e := (15, .aload_n 0, 1)) rfl) rfl rfl (pc' := 16) rfl ?_
    refine jW.cg (κ := 4) (k := 0) F hV.s4 f_Lab_behindAngles_16 (by decide) rfl (pc' := 19) rfl ?_
    refine jW.iload_n (dx_Lab_behindAngles 11 (e := (19, .iload_n 2, 1)) rfl) rfl rfl (pc' := 20) rfl ?_
    refine jW.callVe F (h (d + 0) _ hV) (dx_Lab_behindAngles 12 (e := (20, .invokevirtual 43, 3)) rfl) can_Row_at jw_464 jw_439 (hV.clr (κ := 10) (by unfold isR; decide)) rfl jw_440 rfl rfl (Nat.le_of_ble_eq_true rfl) (pc' := 23) rfl (fun r σ hr => ?_)
    clear hV
    obtain ⟨_, hV, _, rfl, h⟩ := hr
    refine jW.bipush (v := 62) (dx_Lab_behindAngles 13 (e := (23, .bipush 62, 2)) rfl) (by decide) (pc' := 25) rfl ?_
    refine jW.icmp_eq (dx_Lab_behindAngles 14 (e := (25, .if_icmp .eq 70, 3)) rfl) 95 (by decide) (pc' := 28) rfl (fun c => ?_) (fun c => ?_)
    · replace h := h.1 c
      exact t_Lab_behindAngles_95 F hV h
    · replace h := h.2 c
      refine jW.aload_n (dx_Lab_behindAngles 15 (e := (28, .aload_n 0, 1)) rfl) rfl rfl (pc' := 29) rfl ?_
      refine jW.cg (κ := 4) (k := 0) F hV.s4 f_Lab_behindAngles_29 (by decide) rfl (pc' := 32) rfl ?_
      refine jW.iload_n (dx_Lab_behindAngles 17 (e := (32, .iload_n 2, 1)) rfl) rfl rfl (pc' := 33) rfl ?_
      refine jW.callVe F (h (d + 0) _ hV) (dx_Lab_behindAngles 18 (e := (33, .invokevirtual 43, 3)) rfl) can_Row_at jw_464 jw_439 (hV.clr (κ := 10) (by unfold isR; decide)) rfl jw_440 rfl rfl (Nat.le_of_ble_eq_true rfl) (pc' := 36) rfl (fun r σ hr => ?_)
      clear hV
      obtain ⟨_, hV, _, rfl, h⟩ := hr
      refine jW.bipush (v := 60) (dx_Lab_behindAngles 19 (e := (36, .bipush 60, 2)) rfl) (by decide) (pc' := 38) rfl ?_
      refine jW.icmp_eq (dx_Lab_behindAngles 20 (e := (38, .if_icmp .eq 16, 3)) rfl) 54 (by decide) (pc' := 41) rfl (fun c => ?_) (fun c => ?_)
      · replace h := h.1 c
        exact t_Lab_behindAngles_54 F hV h
      · replace h := h.2 c
        refine jW.aload_n (dx_Lab_behindAngles 21 (e := (41, .aload_n 0, 1)) rfl) rfl rfl (pc' := 42) rfl ?_
        refine jW.cg (κ := 4) (k := 0) F hV.s4 f_Lab_behindAngles_42 (by decide) rfl (pc' := 45) rfl ?_
        refine jW.iload_n (dx_Lab_behindAngles 23 (e := (45, .iload_n 2, 1)) rfl) rfl rfl (pc' := 46) rfl ?_
        refine jW.callVe F (h (d + 0) _ hV) (dx_Lab_behindAngles 24 (e := (46, .invokevirtual 43, 3)) rfl) can_Row_at jw_464 jw_439 (hV.clr (κ := 10) (by unfold isR; decide)) rfl jw_440 rfl rfl (Nat.le_of_ble_eq_true rfl) (pc' := 49) rfl (fun r σ hr => ?_)
        clear hV
        obtain ⟨_, hV, _, rfl, h⟩ := hr
        refine jW.bipush (v := 10) (dx_Lab_behindAngles 25 (e := (49, .bipush 10, 2)) rfl) (by decide) (pc' := 51) rfl ?_
        refine jW.icmp_ne (dx_Lab_behindAngles 26 (e := (51, .if_icmp .ne 5, 3)) rfl) 56 (by decide) (pc' := 54) rfl (fun c => ?_) (fun c => ?_)
        · replace h := h.2 c
          refine jW.iload_n (dx_Lab_behindAngles 29 (e := (56, .iload_n 2, 1)) rfl) rfl rfl (pc' := 57) rfl ?_
          refine jW.aload_n (dx_Lab_behindAngles 30 (e := (57, .aload_n 0, 1)) rfl) rfl rfl (pc' := 58) rfl ?_
          refine jW.cg (κ := 4) (k := 0) F hV.s4 f_Lab_behindAngles_58 (by decide) rfl (pc' := 61) rfl ?_
          refine jW.iload_n (dx_Lab_behindAngles 32 (e := (61, .iload_n 2, 1)) rfl) rfl rfl (pc' := 62) rfl ?_
          refine jW.callVe F (h (d + 0) _ hV) (dx_Lab_behindAngles 33 (e := (62, .invokevirtual 43, 3)) rfl) can_Row_at jw_464 jw_439 (hV.clr (κ := 10) (by unfold isR; decide)) rfl jw_440 rfl rfl (Nat.le_of_ble_eq_true rfl) (pc' := 65) rfl (fun r σ hr => ?_)
          clear hV
          obtain ⟨_, hV, _, rfl, h⟩ := hr
          refine jW.bipush (v := 92) (dx_Lab_behindAngles 34 (e := (65, .bipush 92, 2)) rfl) (by decide) (pc' := 67) rfl ?_
          refine jW.icmp_ne (dx_Lab_behindAngles 35 (e := (67, .if_icmp .ne 22, 3)) rfl) 89 (by decide) (pc' := 70) rfl (fun c => ?_) (fun c => ?_)
          · replace h := h.2 c
            exact t_Lab_behindAngles_89 F hV h hK4
          · replace h := h.1 c
            refine jW.aload_n (dx_Lab_behindAngles 36 (e := (70, .aload_n 0, 1)) rfl) rfl rfl (pc' := 71) rfl ?_
            refine jW.cg (κ := 4) (k := 0) F hV.s4 f_Lab_behindAngles_71 (by decide) rfl (pc' := 74) rfl ?_
            refine jW.iload_n (dx_Lab_behindAngles 38 (e := (74, .iload_n 2, 1)) rfl) rfl rfl (pc' := 75) rfl ?_
            refine jW.iconst (v := 1) (dx_Lab_behindAngles 39 (e := (75, .iconst 1, 1)) rfl) (by decide) (pc' := 76) rfl ?_
            refine jW.iadd (dx_Lab_behindAngles 40 (e := (76, .iadd, 1)) rfl) (pc' := 77) rfl ?_
            refine jW.callVe F (h (d + 0) _ hV) (dx_Lab_behindAngles 41 (e := (77, .invokevirtual 43, 3)) rfl) can_Row_at jw_464 jw_439 (hV.clr (κ := 10) (by unfold isR; decide)) rfl jw_440 rfl rfl (Nat.le_of_ble_eq_true rfl) (pc' := 80) rfl (fun r σ hr => ?_)
            clear hV
            obtain ⟨_, hV, _, rfl, h⟩ := hr
            refine jW.bipush (v := 10) (dx_Lab_behindAngles 42 (e := (80, .bipush 10, 2)) rfl) (by decide) (pc' := 82) rfl ?_
            refine jW.icmp_eq (dx_Lab_behindAngles 43 (e := (82, .if_icmp .eq 7, 3)) rfl) 89 (by decide) (pc' := 85) rfl (fun c => ?_) (fun c => ?_)
            · replace h := h.1 c
              exact t_Lab_behindAngles_89 F hV h hK4
            · replace h := h.2 c
              refine jW.iconst (v := 2) (dx_Lab_behindAngles 44 (e := (85, .iconst 2, 1)) rfl) (by decide) (pc' := 86) rfl ?_
              refine jW.goto (dx_Lab_behindAngles 45 (e := (86, .goto 4, 3)) rfl) 90 (by decide) ?_
              exact t_Lab_behindAngles_90 F hV h hK4
        · replace h := h.1 c
          exact t_Lab_behindAngles_54 F hV h
def w_Lab_behindAngles_0 (X : CX) (x1 : Int32) (m : CS) (Φ : Option Value → CS → Prop) (K4 : Int32 → Int32 → CS → Prop) : Prop := K4 (x1) (x1 + 1) m
theorem t_Lab_behindAngles_0 {X : CX} {a0 : Array Value} (F : cF X a0) {d : Nat} {x1 : Int32} {o2 : Option Value} {m : CS} {σ : jS} {Φ : Option Value → CS → Prop} {K4 : Int32 → Int32 → CS → Prop} (hV : CV X m σ) (h : w_Lab_behindAngles_0 X x1 m Φ K4) (hK4 : ∀ (x1 : Int32) (x2 : Int32) (m : CS) (σ : jS), CV X m σ → K4 x1 x2 m → jW X.1 X.2.1 jcl X.2.2.1 X.2.2.2.1 (d + 1) y_Lab_behindAngles 4 [some (.ref (adr X 4)), some (.int x1), some (.int x2)] [] σ (cP X Φ)) : jW X.1 X.2.1 jcl X.2.2.1 X.2.2.2.1 (d + 1) y_Lab_behindAngles 0 [some (.ref (adr X 4)), some (.int x1), o2] [] σ (cP X Φ) := by
  unfold w_Lab_behindAngles_0 at h
  refine jW.iload_n (dx_Lab_behindAngles 0 (e := (0, .iload_n 1, 1)) rfl) rfl rfl (pc' := 1) rfl ?_
  refine jW.iconst (v := 1) (dx_Lab_behindAngles 1 (e := (1, .iconst 1, 1)) rfl) (by decide) (pc' := 2) rfl ?_
  refine jW.iadd (dx_Lab_behindAngles 2 (e := (2, .iadd, 1)) rfl) (pc' := 3) rfl ?_
  refine jW.istore_n (dx_Lab_behindAngles 3 (e := (3, .istore_n 2, 1)) rfl) rfl (by decide) rfl (pc' := 4) rfl ?_
  exact hK4 _ _ _ _ hV h
theorem g_Lab_behindAngles {X : CX} {a0 : Array Value} (F : cF X a0) {x1 : Int32} {m : CS} {Φ : Option Value → CS → Prop} {I4 : Nat → Int32 → Int32 → CS → Prop} (he : w_Lab_behindAngles_0 X x1 m Φ (fun x1 x2 m => ∃ j, I4 j x1 x2 m)) (h4 : ∀ (n : Nat) (x1 : Int32) (x2 : Int32) (m : CS), I4 n x1 x2 m → w_Lab_behindAngles_4 X x1 x2 m Φ (fun x1 x2 m => ∃ j, j < n ∧ I4 j x1 x2 m)) : cE X 1 y_Lab_behindAngles [.ref (adr X 4), .int x1] m Φ := by
  intro d σ hV
  have hL4 : ∀ n, (∀ (x1 : Int32) (x2 : Int32) (m : CS) (σ : jS), CV X m σ → I4 n x1 x2 m → jW X.1 X.2.1 jcl X.2.2.1 X.2.2.2.1 (d + 1) y_Lab_behindAngles 4 [some (.ref (adr X 4)), some (.int x1), some (.int x2)] [] σ (cP X Φ)) := by
    intro n
    induction n using Nat.strongRecOn with
    | _ n ih =>
      exact fun x1 x2 m σ hV hI => t_Lab_behindAngles_4 F hV (h4 n x1 x2 m hI) (fun x1 x2 m σ hV ⟨j, hj, hI⟩ => (ih j hj) x1 x2 m σ hV hI)
  refine jE.of (by decide) (by simp [Value.category]) (Nat.le_of_ble_eq_true rfl) rfl ?_
  exact t_Lab_behindAngles_0 F hV he (fun x1 x2 m σ hV ⟨j, hI⟩ => (hL4 j) x1 x2 m σ hV hI)
def w_Lab_behindSigns_148 (X : CX) (x1 : Int32) (x2 : Int32) (x3 : Int32) (m : CS) (Φ : Option Value → CS → Prop) : Prop := Φ (some (.int (-1))) m
theorem t_Lab_behindSigns_148 {X : CX} {a0 : Array Value} (F : cF X a0) {d : Nat} {x1 : Int32} {x2 : Int32} {x3 : Int32} {m : CS} {σ : jS} {Φ : Option Value → CS → Prop} (hV : CV X m σ) (h : w_Lab_behindSigns_148 X x1 x2 x3 m Φ) : jW X.1 X.2.1 jcl X.2.2.1 X.2.2.2.1 (d + 1) y_Lab_behindSigns 148 [some (.ref (adr X 4)), some (.int x1), some (.int x2), some (.int x3)] [] σ (cP X Φ) := by
  unfold w_Lab_behindSigns_148 at h
  refine jW.iconst (v := -1) (dx_Lab_behindSigns 76 (e := (148, .iconst (-1), 1)) rfl) (by decide) (pc' := 149) rfl ?_
  exact jW.iret (dx_Lab_behindSigns 77 (e := (149, .ireturn, 1)) rfl) rfl ⟨_, hV, h⟩
def w_Lab_behindSigns_139 (X : CX) (x1 : Int32) (x2 : Int32) (x3 : Int32) (m : CS) (Φ : Option Value → CS → Prop) : Prop := ((x3 = x1 → w_Lab_behindSigns_148 X (x1) (x2) (x3) m Φ) ∧ (¬ x3 = x1 → ((x2 = 0 → ∀ m1, m1 = cI m 45 (x1) → ∀ m2, m2 = cI m1 46 (x3) → Φ (some (.int (x3))) m2) ∧ (¬ x2 = 0 → w_Lab_behindSigns_148 X (x1) (x2) (x3) m Φ))))
theorem t_Lab_behindSigns_139 {X : CX} {a0 : Array Value} (F : cF X a0) {d : Nat} {x1 : Int32} {x2 : Int32} {x3 : Int32} {m : CS} {σ : jS} {Φ : Option Value → CS → Prop} (hV : CV X m σ) (h : w_Lab_behindSigns_139 X x1 x2 x3 m Φ) : jW X.1 X.2.1 jcl X.2.2.1 X.2.2.2.1 (d + 1) y_Lab_behindSigns 139 [some (.ref (adr X 4)), some (.int x1), some (.int x2), some (.int x3)] [] σ (cP X Φ) := by
  unfold w_Lab_behindSigns_139 at h
  refine jW.iload_n (dx_Lab_behindSigns 71 (e := (139, .iload_n 3, 1)) rfl) rfl rfl (pc' := 140) rfl ?_
  refine jW.iload_n (dx_Lab_behindSigns 72 (e := (140, .iload_n 1, 1)) rfl) rfl rfl (pc' := 141) rfl ?_
  refine jW.icmp_eq (dx_Lab_behindSigns 73 (e := (141, .if_icmp .eq 7, 3)) rfl) 148 (by decide) (pc' := 144) rfl (fun c => ?_) (fun c => ?_)
  · replace h := h.1 c
    exact t_Lab_behindSigns_148 F hV h
  · replace h := h.2 c
    refine jW.iload_n (dx_Lab_behindSigns 74 (e := (144, .iload_n 2, 1)) rfl) rfl rfl (pc' := 145) rfl ?_
    refine jW.if_eq (dx_Lab_behindSigns 75 (e := (145, .ifCond .eq 5, 3)) rfl) 150 (by decide) (pc' := 148) rfl (fun c => ?_) (fun c => ?_)
    · replace h := h.1 c
      refine jW.aload_n (dx_Lab_behindSigns 78 (e := (150, .aload_n 0, 1)) rfl) rfl rfl (pc' := 151) rfl ?_
      refine jW.iload_n (dx_Lab_behindSigns 79 (e := (151, .iload_n 1, 1)) rfl) rfl rfl (pc' := 152) rfl ?_
      refine jW.cp4 (k := 5) F hV f_Lab_behindSigns_152 (by decide) rfl rfl rfl (pc' := 155) rfl (fun σ hV => ?_)
      replace h := h _ rfl
      refine jW.aload_n (dx_Lab_behindSigns 81 (e := (155, .aload_n 0, 1)) rfl) rfl rfl (pc' := 156) rfl ?_
      refine jW.iload_n (dx_Lab_behindSigns 82 (e := (156, .iload_n 3, 1)) rfl) rfl rfl (pc' := 157) rfl ?_
      refine jW.cp4 (k := 6) F hV f_Lab_behindSigns_157 (by decide) rfl rfl rfl (pc' := 160) rfl (fun σ hV => ?_)
      replace h := h _ rfl
      refine jW.iload_n (dx_Lab_behindSigns 84 (e := (160, .iload_n 3, 1)) rfl) rfl rfl (pc' := 161) rfl ?_
      exact jW.iret (dx_Lab_behindSigns 85 (e := (161, .ireturn, 1)) rfl) rfl ⟨_, hV, h⟩
    · replace h := h.2 c
      exact t_Lab_behindSigns_148 F hV h
def w_Lab_behindSigns_134 (X : CX) (x1 : Int32) (x2 : Int32) (x3 : Int32) (s0 : Int32) (s1 : Int32) (m : CS) (Φ : Option Value → CS → Prop) (K4 : Int32 → Int32 → Int32 → CS → Prop) : Prop := K4 (x1) (x2) (s0 + s1) m
theorem t_Lab_behindSigns_134 {X : CX} {a0 : Array Value} (F : cF X a0) {d : Nat} {x1 : Int32} {x2 : Int32} {x3 : Int32} {s0 : Int32} {s1 : Int32} {m : CS} {σ : jS} {Φ : Option Value → CS → Prop} {K4 : Int32 → Int32 → Int32 → CS → Prop} (hV : CV X m σ) (h : w_Lab_behindSigns_134 X x1 x2 x3 s0 s1 m Φ K4) (hK4 : ∀ (x1 : Int32) (x2 : Int32) (x3 : Int32) (m : CS) (σ : jS), CV X m σ → K4 x1 x2 x3 m → jW X.1 X.2.1 jcl X.2.2.1 X.2.2.2.1 (d + 1) y_Lab_behindSigns 4 [some (.ref (adr X 4)), some (.int x1), some (.int x2), some (.int x3)] [] σ (cP X Φ)) : jW X.1 X.2.1 jcl X.2.2.1 X.2.2.2.1 (d + 1) y_Lab_behindSigns 134 [some (.ref (adr X 4)), some (.int x1), some (.int x2), some (.int x3)] [.int s1, .int s0] σ (cP X Φ) := by
  unfold w_Lab_behindSigns_134 at h
  refine jW.iadd (dx_Lab_behindSigns 68 (e := (134, .iadd, 1)) rfl) (pc' := 135) rfl ?_
  refine jW.istore_n (dx_Lab_behindSigns 69 (e := (135, .istore_n 3, 1)) rfl) rfl (by decide) rfl (pc' := 136) rfl ?_
  refine jW.goto (dx_Lab_behindSigns 70 (e := (136, .goto (-132), 3)) rfl) 4 (by decide) ?_
  exact hK4 _ _ _ _ _ hV h
def w_Lab_behindSigns_133 (X : CX) (x1 : Int32) (x2 : Int32) (x3 : Int32) (s0 : Int32) (m : CS) (Φ : Option Value → CS → Prop) (K4 : Int32 → Int32 → Int32 → CS → Prop) : Prop := w_Lab_behindSigns_134 X (x1) (x2) (x3) (s0) (1) m Φ K4
theorem t_Lab_behindSigns_133 {X : CX} {a0 : Array Value} (F : cF X a0) {d : Nat} {x1 : Int32} {x2 : Int32} {x3 : Int32} {s0 : Int32} {m : CS} {σ : jS} {Φ : Option Value → CS → Prop} {K4 : Int32 → Int32 → Int32 → CS → Prop} (hV : CV X m σ) (h : w_Lab_behindSigns_133 X x1 x2 x3 s0 m Φ K4) (hK4 : ∀ (x1 : Int32) (x2 : Int32) (x3 : Int32) (m : CS) (σ : jS), CV X m σ → K4 x1 x2 x3 m → jW X.1 X.2.1 jcl X.2.2.1 X.2.2.2.1 (d + 1) y_Lab_behindSigns 4 [some (.ref (adr X 4)), some (.int x1), some (.int x2), some (.int x3)] [] σ (cP X Φ)) : jW X.1 X.2.1 jcl X.2.2.1 X.2.2.2.1 (d + 1) y_Lab_behindSigns 133 [some (.ref (adr X 4)), some (.int x1), some (.int x2), some (.int x3)] [.int s0] σ (cP X Φ) := by
  unfold w_Lab_behindSigns_133 at h
  refine jW.iconst (v := 1) (dx_Lab_behindSigns 67 (e := (133, .iconst 1, 1)) rfl) (by decide) (pc' := 134) rfl ?_
  exact t_Lab_behindSigns_134 F hV h hK4
def w_Lab_behindSigns_97 (X : CX) (x1 : Int32) (x2 : Int32) (x3 : Int32) (s0 : Int32) (s1 : Int32) (m : CS) (Φ : Option Value → CS → Prop) (K4 : Int32 → Int32 → Int32 → CS → Prop) : Prop := cE X 0 y_Row_at [.ref (adr X 10), .int (x3)] m (ciP fun r1 m1 => ((r1 = 92 → cE X 0 y_Row_at [.ref (adr X 10), .int (x3 + 1)] m1 (ciP fun r2 m2 => cE X 0 y_MB_isPunctuation [.int (r2)] m2 (ciP fun r3 m3 => ((r3 = 0 → w_Lab_behindSigns_133 X (x1) (s0 + s1) (x3) (x3) m3 Φ K4) ∧ (¬ r3 = 0 → w_Lab_behindSigns_134 X (x1) (s0 + s1) (x3) (x3) (2) m3 Φ K4))))) ∧ (¬ r1 = 92 → w_Lab_behindSigns_133 X (x1) (s0 + s1) (x3) (x3) m1 Φ K4)))
theorem t_Lab_behindSigns_97 {X : CX} {a0 : Array Value} (F : cF X a0) {d : Nat} {x1 : Int32} {x2 : Int32} {x3 : Int32} {s0 : Int32} {s1 : Int32} {m : CS} {σ : jS} {Φ : Option Value → CS → Prop} {K4 : Int32 → Int32 → Int32 → CS → Prop} (hV : CV X m σ) (h : w_Lab_behindSigns_97 X x1 x2 x3 s0 s1 m Φ K4) (hK4 : ∀ (x1 : Int32) (x2 : Int32) (x3 : Int32) (m : CS) (σ : jS), CV X m σ → K4 x1 x2 x3 m → jW X.1 X.2.1 jcl X.2.2.1 X.2.2.2.1 (d + 1) y_Lab_behindSigns 4 [some (.ref (adr X 4)), some (.int x1), some (.int x2), some (.int x3)] [] σ (cP X Φ)) : jW X.1 X.2.1 jcl X.2.2.1 X.2.2.2.1 (d + 1) y_Lab_behindSigns 97 [some (.ref (adr X 4)), some (.int x1), some (.int x2), some (.int x3)] [.int s1, .int s0] σ (cP X Φ) := by
  unfold w_Lab_behindSigns_97 at h
  refine jW.iadd (dx_Lab_behindSigns 48 (e := (97, .iadd, 1)) rfl) (pc' := 98) rfl ?_
  refine jW.istore_n (dx_Lab_behindSigns 49 (e := (98, .istore_n 2, 1)) rfl) rfl (by decide) rfl (pc' := 99) rfl ?_
  refine jW.iload_n (dx_Lab_behindSigns 50 (e := (99, .iload_n 3, 1)) rfl) rfl rfl (pc' := 100) rfl ?_
  refine jW.aload_n (dx_Lab_behindSigns 51 (e := (100, .aload_n 0, 1)) rfl) rfl rfl (pc' := 101) rfl ?_
  refine jW.cg (κ := 4) (k := 0) F hV.s4 f_Lab_behindSigns_101 (by decide) rfl (pc' := 104) rfl ?_
  refine jW.iload_n (dx_Lab_behindSigns 53 (e := (104, .iload_n 3, 1)) rfl) rfl rfl (pc' := 105) rfl ?_
  refine jW.callVe F (h (d + 0) _ hV) (dx_Lab_behindSigns 54 (e := (105, .invokevirtual 43, 3)) rfl) can_Row_at jw_464 jw_439 (hV.clr (κ := 10) (by unfold isR; decide)) rfl jw_440 rfl rfl (Nat.le_of_ble_eq_true rfl) (pc' := 108) rfl (fun r σ hr => ?_)
  clear hV
  obtain ⟨_, hV, _, rfl, h⟩ := hr
  refine jW.bipush (v := 92) (dx_Lab_behindSigns 55 (e := (108, .bipush 92, 2)) rfl) (by decide) (pc' := 110) rfl ?_
  refine jW.icmp_ne (dx_Lab_behindSigns 56 (e := (110, .if_icmp .ne 23, 3)) rfl) 133 (by decide) (pc' := 113) rfl (fun c => ?_) (fun c => ?_)
  · replace h := h.2 c
    exact t_Lab_behindSigns_133 F hV h hK4
  · replace h := h.1 c
    refine jW.aload_n (dx_Lab_behindSigns 57 (e := (113, .aload_n 0, 1)) rfl) rfl rfl (pc' := 114) rfl ?_
    refine jW.cg (κ := 4) (k := 0) F hV.s4 f_Lab_behindSigns_114 (by decide) rfl (pc' := 117) rfl ?_
    refine jW.iload_n (dx_Lab_behindSigns 59 (e := (117, .iload_n 3, 1)) rfl) rfl rfl (pc' := 118) rfl ?_
    refine jW.iconst (v := 1) (dx_Lab_behindSigns 60 (e := (118, .iconst 1, 1)) rfl) (by decide) (pc' := 119) rfl ?_
    refine jW.iadd (dx_Lab_behindSigns 61 (e := (119, .iadd, 1)) rfl) (pc' := 120) rfl ?_
    refine jW.callVe F (h (d + 0) _ hV) (dx_Lab_behindSigns 62 (e := (120, .invokevirtual 43, 3)) rfl) can_Row_at jw_464 jw_439 (hV.clr (κ := 10) (by unfold isR; decide)) rfl jw_440 rfl rfl (Nat.le_of_ble_eq_true rfl) (pc' := 123) rfl (fun r σ hr => ?_)
    clear hV
    obtain ⟨_, hV, _, rfl, h⟩ := hr
    refine jW.callSN F (h (d + 0) _ hV) (dx_Lab_behindSigns 63 (e := (123, .invokestatic 116, 3)) rfl) can_MB_isPunctuation jw_713 jw_714 rfl rfl (Nat.le_of_ble_eq_true rfl) (pc' := 126) rfl (fun r σ hr => ?_)
    clear hV
    obtain ⟨_, hV, _, rfl, h⟩ := hr
    refine jW.if_eq (dx_Lab_behindSigns 64 (e := (126, .ifCond .eq 7, 3)) rfl) 133 (by decide) (pc' := 129) rfl (fun c => ?_) (fun c => ?_)
    · replace h := h.1 c
      exact t_Lab_behindSigns_133 F hV h hK4
    · replace h := h.2 c
      refine jW.iconst (v := 2) (dx_Lab_behindSigns 65 (e := (129, .iconst 2, 1)) rfl) (by decide) (pc' := 130) rfl ?_
      refine jW.goto (dx_Lab_behindSigns 66 (e := (130, .goto 4, 3)) rfl) 134 (by decide) ?_
      exact t_Lab_behindSigns_134 F hV h hK4
def w_Lab_behindSigns_61 (X : CX) (x1 : Int32) (x2 : Int32) (x3 : Int32) (m : CS) (Φ : Option Value → CS → Prop) (K4 : Int32 → Int32 → Int32 → CS → Prop) : Prop := cE X 0 y_Row_at [.ref (adr X 10), .int (x3)] m (ciP fun r1 m1 => ((r1 = 40 → w_Lab_behindSigns_97 X (x1) (x2) (x3) (x2) (1) m1 Φ K4) ∧ (¬ r1 = 40 → cE X 0 y_Row_at [.ref (adr X 10), .int (x3)] m1 (ciP fun r2 m2 => ((r2 = 41 → w_Lab_behindSigns_97 X (x1) (x2) (x3) (x2) (-1) m2 Φ K4) ∧ (¬ r2 = 41 → w_Lab_behindSigns_97 X (x1) (x2) (x3) (x2) (0) m2 Φ K4))))))
theorem t_Lab_behindSigns_61 {X : CX} {a0 : Array Value} (F : cF X a0) {d : Nat} {x1 : Int32} {x2 : Int32} {x3 : Int32} {m : CS} {σ : jS} {Φ : Option Value → CS → Prop} {K4 : Int32 → Int32 → Int32 → CS → Prop} (hV : CV X m σ) (h : w_Lab_behindSigns_61 X x1 x2 x3 m Φ K4) (hK4 : ∀ (x1 : Int32) (x2 : Int32) (x3 : Int32) (m : CS) (σ : jS), CV X m σ → K4 x1 x2 x3 m → jW X.1 X.2.1 jcl X.2.2.1 X.2.2.2.1 (d + 1) y_Lab_behindSigns 4 [some (.ref (adr X 4)), some (.int x1), some (.int x2), some (.int x3)] [] σ (cP X Φ)) : jW X.1 X.2.1 jcl X.2.2.1 X.2.2.2.1 (d + 1) y_Lab_behindSigns 61 [some (.ref (adr X 4)), some (.int x1), some (.int x2), some (.int x3)] [] σ (cP X Φ) := by
  unfold w_Lab_behindSigns_61 at h
  refine jW.iload_n (dx_Lab_behindSigns 30 (e := (61, .iload_n 2, 1)) rfl) rfl rfl (pc' := 62) rfl ?_
  refine jW.aload_n (dx_Lab_behindSigns 31 (e := (62, .aload_n 0, 1)) rfl) rfl rfl (pc' := 63) rfl ?_
  refine jW.cg (κ := 4) (k := 0) F hV.s4 f_Lab_behindSigns_63 (by decide) rfl (pc' := 66) rfl ?_
  refine jW.iload_n (dx_Lab_behindSigns 33 (e := (66, .iload_n 3, 1)) rfl) rfl rfl (pc' := 67) rfl ?_
  refine jW.callVe F (h (d + 0) _ hV) (dx_Lab_behindSigns 34 (e := (67, .invokevirtual 43, 3)) rfl) can_Row_at jw_464 jw_439 (hV.clr (κ := 10) (by unfold isR; decide)) rfl jw_440 rfl rfl (Nat.le_of_ble_eq_true rfl) (pc' := 70) rfl (fun r σ hr => ?_)
  clear hV
  obtain ⟨_, hV, _, rfl, h⟩ := hr
  refine jW.bipush (v := 40) (dx_Lab_behindSigns 35 (e := (70, .bipush 40, 2)) rfl) (by decide) (pc' := 72) rfl ?_
  refine jW.icmp_ne (dx_Lab_behindSigns 36 (e := (72, .if_icmp .ne 7, 3)) rfl) 79 (by decide) (pc' := 75) rfl (fun c => ?_) (fun c => ?_)
  · replace h := h.2 c
    refine jW.aload_n (dx_Lab_behindSigns 39 (e := (79, .aload_n 0, 1)) rfl) rfl rfl (pc' := 80) rfl ?_
    refine jW.cg (κ := 4) (k := 0) F hV.s4 f_Lab_behindSigns_80 (by decide) rfl (pc' := 83) rfl ?_
    refine jW.iload_n (dx_Lab_behindSigns 41 (e := (83, .iload_n 3, 1)) rfl) rfl rfl (pc' := 84) rfl ?_
    refine jW.callVe F (h (d + 0) _ hV) (dx_Lab_behindSigns 42 (e := (84, .invokevirtual 43, 3)) rfl) can_Row_at jw_464 jw_439 (hV.clr (κ := 10) (by unfold isR; decide)) rfl jw_440 rfl rfl (Nat.le_of_ble_eq_true rfl) (pc' := 87) rfl (fun r σ hr => ?_)
    clear hV
    obtain ⟨_, hV, _, rfl, h⟩ := hr
    refine jW.bipush (v := 41) (dx_Lab_behindSigns 43 (e := (87, .bipush 41, 2)) rfl) (by decide) (pc' := 89) rfl ?_
    refine jW.icmp_ne (dx_Lab_behindSigns 44 (e := (89, .if_icmp .ne 7, 3)) rfl) 96 (by decide) (pc' := 92) rfl (fun c => ?_) (fun c => ?_)
    · replace h := h.2 c
      refine jW.iconst (v := 0) (dx_Lab_behindSigns 47 (e := (96, .iconst 0, 1)) rfl) (by decide) (pc' := 97) rfl ?_
      exact t_Lab_behindSigns_97 F hV h hK4
    · replace h := h.1 c
      refine jW.iconst (v := -1) (dx_Lab_behindSigns 45 (e := (92, .iconst (-1), 1)) rfl) (by decide) (pc' := 93) rfl ?_
      refine jW.goto (dx_Lab_behindSigns 46 (e := (93, .goto 4, 3)) rfl) 97 (by decide) ?_
      exact t_Lab_behindSigns_97 F hV h hK4
  · replace h := h.1 c
    refine jW.iconst (v := 1) (dx_Lab_behindSigns 37 (e := (75, .iconst 1, 1)) rfl) (by decide) (pc' := 76) rfl ?_
    refine jW.goto (dx_Lab_behindSigns 38 (e := (76, .goto 21, 3)) rfl) 97 (by decide) ?_
    exact t_Lab_behindSigns_97 F hV h hK4
def w_Lab_behindSigns_4 (X : CX) (x1 : Int32) (x2 : Int32) (x3 : Int32) (m : CS) (Φ : Option Value → CS → Prop) (K4 : Int32 → Int32 → Int32 → CS → Prop) : Prop := cE X 0 y_Row_size [.ref (adr X 10)] m (ciP fun r1 m1 => ((r1 ≤ x3 → w_Lab_behindSigns_139 X (x1) (x2) (x3) m1 Φ) ∧ (¬ r1 ≤ x3 → cE X 0 y_Row_at [.ref (adr X 10), .int (x3)] m1 (ciP fun r2 m2 => ((r2 ≤ 32 → w_Lab_behindSigns_139 X (x1) (x2) (x3) m2 Φ) ∧ (¬ r2 ≤ 32 → cE X 0 y_Row_at [.ref (adr X 10), .int (x3)] m2 (ciP fun r3 m3 => ((r3 = 127 → w_Lab_behindSigns_139 X (x1) (x2) (x3) m3 Φ) ∧ (¬ r3 = 127 → cE X 0 y_Row_at [.ref (adr X 10), .int (x3)] m3 (ciP fun r4 m4 => ((r4 = 41 → ((x2 = 0 → w_Lab_behindSigns_139 X (x1) (x2) (x3) m4 Φ) ∧ (¬ x2 = 0 → w_Lab_behindSigns_61 X (x1) (x2) (x3) m4 Φ K4))) ∧ (¬ r4 = 41 → w_Lab_behindSigns_61 X (x1) (x2) (x3) m4 Φ K4))))))))))))
theorem t_Lab_behindSigns_4 {X : CX} {a0 : Array Value} (F : cF X a0) {d : Nat} {x1 : Int32} {x2 : Int32} {x3 : Int32} {m : CS} {σ : jS} {Φ : Option Value → CS → Prop} {K4 : Int32 → Int32 → Int32 → CS → Prop} (hV : CV X m σ) (h : w_Lab_behindSigns_4 X x1 x2 x3 m Φ K4) (hK4 : ∀ (x1 : Int32) (x2 : Int32) (x3 : Int32) (m : CS) (σ : jS), CV X m σ → K4 x1 x2 x3 m → jW X.1 X.2.1 jcl X.2.2.1 X.2.2.2.1 (d + 1) y_Lab_behindSigns 4 [some (.ref (adr X 4)), some (.int x1), some (.int x2), some (.int x3)] [] σ (cP X Φ)) : jW X.1 X.2.1 jcl X.2.2.1 X.2.2.2.1 (d + 1) y_Lab_behindSigns 4 [some (.ref (adr X 4)), some (.int x1), some (.int x2), some (.int x3)] [] σ (cP X Φ) := by
  unfold w_Lab_behindSigns_4 at h
  refine jW.iload_n (dx_Lab_behindSigns 4 (e := (4, .iload_n 3, 1)) rfl) rfl rfl (pc' := 5) rfl ?_
  refine jW.aload_n (dx_Lab_behindSigns 5 (e := (5, .aload_n 0, 1)) rfl) rfl rfl (pc' := 6) rfl ?_
  refine jW.cg (κ := 4) (k := 0) F hV.s4 f_Lab_behindSigns_6 (by decide) rfl (pc' := 9) rfl ?_
  refine jW.callVe F (h (d + 0) _ hV) (dx_Lab_behindSigns 7 (e := (9, .invokevirtual 28, 3)) rfl) can_Row_size jw_450 jw_372 (hV.clr (κ := 10) (by unfold isR; decide)) rfl jw_373 rfl rfl (Nat.le_of_ble_eq_true rfl) (pc' := 12) rfl (fun r σ hr => ?_)
  clear hV
  obtain ⟨_, hV, _, rfl, h⟩ := hr
  refine jW.icmp_ge (dx_Lab_behindSigns 8 (e := (12, .if_icmp .ge 127, 3)) rfl) 139 (by decide) (pc' := 15) rfl (fun c => ?_) (fun c => ?_)
  · replace h := h.1 c
    exact t_Lab_behindSigns_139 F hV h
  · replace h := h.2 c
    refine jW.aload_n (dx_Lab_behindSigns 9 (e := (15, .aload_n 0, 1)) rfl) rfl rfl (pc' := 16) rfl ?_
    refine jW.cg (κ := 4) (k := 0) F hV.s4 f_Lab_behindSigns_16 (by decide) rfl (pc' := 19) rfl ?_
    refine jW.iload_n (dx_Lab_behindSigns 11 (e := (19, .iload_n 3, 1)) rfl) rfl rfl (pc' := 20) rfl ?_
    refine jW.callVe F (h (d + 0) _ hV) (dx_Lab_behindSigns 12 (e := (20, .invokevirtual 43, 3)) rfl) can_Row_at jw_464 jw_439 (hV.clr (κ := 10) (by unfold isR; decide)) rfl jw_440 rfl rfl (Nat.le_of_ble_eq_true rfl) (pc' := 23) rfl (fun r σ hr => ?_)
    clear hV
    obtain ⟨_, hV, _, rfl, h⟩ := hr
    refine jW.bipush (v := 32) (dx_Lab_behindSigns 13 (e := (23, .bipush 32, 2)) rfl) (by decide) (pc' := 25) rfl ?_
    refine jW.icmp_le (dx_Lab_behindSigns 14 (e := (25, .if_icmp .le 114, 3)) rfl) 139 (by decide) (pc' := 28) rfl (fun c => ?_) (fun c => ?_)
    · replace h := h.1 c
      exact t_Lab_behindSigns_139 F hV h
    · replace h := h.2 c
      refine jW.aload_n (dx_Lab_behindSigns 15 (e := (28, .aload_n 0, 1)) rfl) rfl rfl (pc' := 29) rfl ?_
      refine jW.cg (κ := 4) (k := 0) F hV.s4 f_Lab_behindSigns_29 (by decide) rfl (pc' := 32) rfl ?_
      refine jW.iload_n (dx_Lab_behindSigns 17 (e := (32, .iload_n 3, 1)) rfl) rfl rfl (pc' := 33) rfl ?_
      refine jW.callVe F (h (d + 0) _ hV) (dx_Lab_behindSigns 18 (e := (33, .invokevirtual 43, 3)) rfl) can_Row_at jw_464 jw_439 (hV.clr (κ := 10) (by unfold isR; decide)) rfl jw_440 rfl rfl (Nat.le_of_ble_eq_true rfl) (pc' := 36) rfl (fun r σ hr => ?_)
      clear hV
      obtain ⟨_, hV, _, rfl, h⟩ := hr
      refine jW.bipush (v := 127) (dx_Lab_behindSigns 19 (e := (36, .bipush 127, 2)) rfl) (by decide) (pc' := 38) rfl ?_
      refine jW.icmp_eq (dx_Lab_behindSigns 20 (e := (38, .if_icmp .eq 101, 3)) rfl) 139 (by decide) (pc' := 41) rfl (fun c => ?_) (fun c => ?_)
      · replace h := h.1 c
        exact t_Lab_behindSigns_139 F hV h
      · replace h := h.2 c
        refine jW.aload_n (dx_Lab_behindSigns 21 (e := (41, .aload_n 0, 1)) rfl) rfl rfl (pc' := 42) rfl ?_
        refine jW.cg (κ := 4) (k := 0) F hV.s4 f_Lab_behindSigns_42 (by decide) rfl (pc' := 45) rfl ?_
        refine jW.iload_n (dx_Lab_behindSigns 23 (e := (45, .iload_n 3, 1)) rfl) rfl rfl (pc' := 46) rfl ?_
        refine jW.callVe F (h (d + 0) _ hV) (dx_Lab_behindSigns 24 (e := (46, .invokevirtual 43, 3)) rfl) can_Row_at jw_464 jw_439 (hV.clr (κ := 10) (by unfold isR; decide)) rfl jw_440 rfl rfl (Nat.le_of_ble_eq_true rfl) (pc' := 49) rfl (fun r σ hr => ?_)
        clear hV
        obtain ⟨_, hV, _, rfl, h⟩ := hr
        refine jW.bipush (v := 41) (dx_Lab_behindSigns 25 (e := (49, .bipush 41, 2)) rfl) (by decide) (pc' := 51) rfl ?_
        refine jW.icmp_ne (dx_Lab_behindSigns 26 (e := (51, .if_icmp .ne 10, 3)) rfl) 61 (by decide) (pc' := 54) rfl (fun c => ?_) (fun c => ?_)
        · replace h := h.2 c
          exact t_Lab_behindSigns_61 F hV h hK4
        · replace h := h.1 c
          refine jW.iload_n (dx_Lab_behindSigns 27 (e := (54, .iload_n 2, 1)) rfl) rfl rfl (pc' := 55) rfl ?_
          refine jW.if_ne (dx_Lab_behindSigns 28 (e := (55, .ifCond .ne 6, 3)) rfl) 61 (by decide) (pc' := 58) rfl (fun c => ?_) (fun c => ?_)
          · replace h := h.2 c
            exact t_Lab_behindSigns_61 F hV h hK4
          · replace h := h.1 c
            refine jW.goto (dx_Lab_behindSigns 29 (e := (58, .goto 81, 3)) rfl) 139 (by decide) ?_
            exact t_Lab_behindSigns_139 F hV h
def w_Lab_behindSigns_0 (X : CX) (x1 : Int32) (m : CS) (Φ : Option Value → CS → Prop) (K4 : Int32 → Int32 → Int32 → CS → Prop) : Prop := K4 (x1) (0) (x1) m
theorem t_Lab_behindSigns_0 {X : CX} {a0 : Array Value} (F : cF X a0) {d : Nat} {x1 : Int32} {o2 o3 : Option Value} {m : CS} {σ : jS} {Φ : Option Value → CS → Prop} {K4 : Int32 → Int32 → Int32 → CS → Prop} (hV : CV X m σ) (h : w_Lab_behindSigns_0 X x1 m Φ K4) (hK4 : ∀ (x1 : Int32) (x2 : Int32) (x3 : Int32) (m : CS) (σ : jS), CV X m σ → K4 x1 x2 x3 m → jW X.1 X.2.1 jcl X.2.2.1 X.2.2.2.1 (d + 1) y_Lab_behindSigns 4 [some (.ref (adr X 4)), some (.int x1), some (.int x2), some (.int x3)] [] σ (cP X Φ)) : jW X.1 X.2.1 jcl X.2.2.1 X.2.2.2.1 (d + 1) y_Lab_behindSigns 0 [some (.ref (adr X 4)), some (.int x1), o2, o3] [] σ (cP X Φ) := by
  unfold w_Lab_behindSigns_0 at h
  refine jW.iconst (v := 0) (dx_Lab_behindSigns 0 (e := (0, .iconst 0, 1)) rfl) (by decide) (pc' := 1) rfl ?_
  refine jW.istore_n (dx_Lab_behindSigns 1 (e := (1, .istore_n 2, 1)) rfl) rfl (by decide) rfl (pc' := 2) rfl ?_
  refine jW.iload_n (dx_Lab_behindSigns 2 (e := (2, .iload_n 1, 1)) rfl) rfl rfl (pc' := 3) rfl ?_
  refine jW.istore_n (dx_Lab_behindSigns 3 (e := (3, .istore_n 3, 1)) rfl) rfl (by decide) rfl (pc' := 4) rfl ?_
  exact hK4 _ _ _ _ _ hV h
theorem g_Lab_behindSigns {X : CX} {a0 : Array Value} (F : cF X a0) {x1 : Int32} {m : CS} {Φ : Option Value → CS → Prop} {I4 : Nat → Int32 → Int32 → Int32 → CS → Prop} (he : w_Lab_behindSigns_0 X x1 m Φ (fun x1 x2 x3 m => ∃ j, I4 j x1 x2 x3 m)) (h4 : ∀ (n : Nat) (x1 : Int32) (x2 : Int32) (x3 : Int32) (m : CS), I4 n x1 x2 x3 m → w_Lab_behindSigns_4 X x1 x2 x3 m Φ (fun x1 x2 x3 m => ∃ j, j < n ∧ I4 j x1 x2 x3 m)) : cE X 1 y_Lab_behindSigns [.ref (adr X 4), .int x1] m Φ := by
  intro d σ hV
  have hL4 : ∀ n, (∀ (x1 : Int32) (x2 : Int32) (x3 : Int32) (m : CS) (σ : jS), CV X m σ → I4 n x1 x2 x3 m → jW X.1 X.2.1 jcl X.2.2.1 X.2.2.2.1 (d + 1) y_Lab_behindSigns 4 [some (.ref (adr X 4)), some (.int x1), some (.int x2), some (.int x3)] [] σ (cP X Φ)) := by
    intro n
    induction n using Nat.strongRecOn with
    | _ n ih =>
      exact fun x1 x2 x3 m σ hV hI => t_Lab_behindSigns_4 F hV (h4 n x1 x2 x3 m hI) (fun x1 x2 x3 m σ hV ⟨j, hj, hI⟩ => (ih j hj) x1 x2 x3 m σ hV hI)
  refine jE.of (by decide) (by simp [Value.category]) (Nat.le_of_ble_eq_true rfl) rfl ?_
  exact t_Lab_behindSigns_0 F hV he (fun x1 x2 x3 m σ hV ⟨j, hI⟩ => (hL4 j) x1 x2 x3 m σ hV hI)
def w_Lab_behindTitle_121 (X : CX) (x1 : Int32) (x2 : Int32) (x3 : Int32) (x4 : Int32) (m : CS) (Φ : Option Value → CS → Prop) : Prop := cE X 0 y_Row_size [.ref (adr X 10)] m (ciP fun r1 m1 => ((x4 < r1 → ∀ m2, m2 = cI m1 47 (x1 + 1) → ∀ m3, m3 = cI m2 48 (x4) → Φ (some (.int (x4 + 1))) m3) ∧ (¬ x4 < r1 → Φ (some (.int (-1))) m1)))
theorem t_Lab_behindTitle_121 {X : CX} {a0 : Array Value} (F : cF X a0) {d : Nat} {x1 : Int32} {x2 : Int32} {x3 : Int32} {x4 : Int32} {m : CS} {σ : jS} {Φ : Option Value → CS → Prop} (hV : CV X m σ) (h : w_Lab_behindTitle_121 X x1 x2 x3 x4 m Φ) : jW X.1 X.2.1 jcl X.2.2.1 X.2.2.2.1 (d + 1) y_Lab_behindTitle 121 [some (.ref (adr X 4)), some (.int x1), some (.int x2), some (.int x3), some (.int x4)] [] σ (cP X Φ) := by
  unfold w_Lab_behindTitle_121 at h
  refine jW.iload (dx_Lab_behindTitle 62 (e := (121, .iload 4, 2)) rfl) rfl (pc' := 123) rfl ?_
  refine jW.aload_n (dx_Lab_behindTitle 63 (e := (123, .aload_n 0, 1)) rfl) rfl rfl (pc' := 124) rfl ?_
  refine jW.cg (κ := 4) (k := 0) F hV.s4 f_Lab_behindTitle_124 (by decide) rfl (pc' := 127) rfl ?_
  refine jW.callVe F (h (d + 0) _ hV) (dx_Lab_behindTitle 65 (e := (127, .invokevirtual 28, 3)) rfl) can_Row_size jw_450 jw_372 (hV.clr (κ := 10) (by unfold isR; decide)) rfl jw_373 rfl rfl (Nat.le_of_ble_eq_true rfl) (pc' := 130) rfl (fun r σ hr => ?_)
  clear hV
  obtain ⟨_, hV, _, rfl, h⟩ := hr
  refine jW.icmp_lt (dx_Lab_behindTitle 66 (e := (130, .if_icmp .lt 5, 3)) rfl) 135 (by decide) (pc' := 133) rfl (fun c => ?_) (fun c => ?_)
  · replace h := h.1 c
    refine jW.aload_n (dx_Lab_behindTitle 69 (e := (135, .aload_n 0, 1)) rfl) rfl rfl (pc' := 136) rfl ?_
    refine jW.iload_n (dx_Lab_behindTitle 70 (e := (136, .iload_n 1, 1)) rfl) rfl rfl (pc' := 137) rfl ?_
    refine jW.iconst (v := 1) (dx_Lab_behindTitle 71 (e := (137, .iconst 1, 1)) rfl) (by decide) (pc' := 138) rfl ?_
    refine jW.iadd (dx_Lab_behindTitle 72 (e := (138, .iadd, 1)) rfl) (pc' := 139) rfl ?_
    refine jW.cp4 (k := 7) F hV f_Lab_behindTitle_139 (by decide) rfl rfl rfl (pc' := 142) rfl (fun σ hV => ?_)
    replace h := h _ rfl
    refine jW.aload_n (dx_Lab_behindTitle 74 (e := (142, .aload_n 0, 1)) rfl) rfl rfl (pc' := 143) rfl ?_
    refine jW.iload (dx_Lab_behindTitle 75 (e := (143, .iload 4, 2)) rfl) rfl (pc' := 145) rfl ?_
    refine jW.cp4 (k := 8) F hV f_Lab_behindTitle_145 (by decide) rfl rfl rfl (pc' := 148) rfl (fun σ hV => ?_)
    replace h := h _ rfl
    refine jW.iload (dx_Lab_behindTitle 77 (e := (148, .iload 4, 2)) rfl) rfl (pc' := 150) rfl ?_
    refine jW.iconst (v := 1) (dx_Lab_behindTitle 78 (e := (150, .iconst 1, 1)) rfl) (by decide) (pc' := 151) rfl ?_
    refine jW.iadd (dx_Lab_behindTitle 79 (e := (151, .iadd, 1)) rfl) (pc' := 152) rfl ?_
    exact jW.iret (dx_Lab_behindTitle 80 (e := (152, .ireturn, 1)) rfl) rfl ⟨_, hV, h⟩
  · replace h := h.2 c
    refine jW.iconst (v := -1) (dx_Lab_behindTitle 67 (e := (133, .iconst (-1), 1)) rfl) (by decide) (pc' := 134) rfl ?_
    exact jW.iret (dx_Lab_behindTitle 68 (e := (134, .ireturn, 1)) rfl) rfl ⟨_, hV, h⟩
def w_Lab_behindTitle_115 (X : CX) (x1 : Int32) (x2 : Int32) (x3 : Int32) (x4 : Int32) (s0 : Int32) (s1 : Int32) (m : CS) (Φ : Option Value → CS → Prop) (K47 : Int32 → Int32 → Int32 → Int32 → CS → Prop) : Prop := K47 (x1) (x2) (x3) (s0 + s1) m
theorem t_Lab_behindTitle_115 {X : CX} {a0 : Array Value} (F : cF X a0) {d : Nat} {x1 : Int32} {x2 : Int32} {x3 : Int32} {x4 : Int32} {s0 : Int32} {s1 : Int32} {m : CS} {σ : jS} {Φ : Option Value → CS → Prop} {K47 : Int32 → Int32 → Int32 → Int32 → CS → Prop} (hV : CV X m σ) (h : w_Lab_behindTitle_115 X x1 x2 x3 x4 s0 s1 m Φ K47) (hK47 : ∀ (x1 : Int32) (x2 : Int32) (x3 : Int32) (x4 : Int32) (m : CS) (σ : jS), CV X m σ → K47 x1 x2 x3 x4 m → jW X.1 X.2.1 jcl X.2.2.1 X.2.2.2.1 (d + 1) y_Lab_behindTitle 47 [some (.ref (adr X 4)), some (.int x1), some (.int x2), some (.int x3), some (.int x4)] [] σ (cP X Φ)) : jW X.1 X.2.1 jcl X.2.2.1 X.2.2.2.1 (d + 1) y_Lab_behindTitle 115 [some (.ref (adr X 4)), some (.int x1), some (.int x2), some (.int x3), some (.int x4)] [.int s1, .int s0] σ (cP X Φ) := by
  unfold w_Lab_behindTitle_115 at h
  refine jW.iadd (dx_Lab_behindTitle 59 (e := (115, .iadd, 1)) rfl) (pc' := 116) rfl ?_
  refine jW.istore (dx_Lab_behindTitle 60 (e := (116, .istore 4, 2)) rfl) (by decide) rfl (pc' := 118) rfl ?_
  refine jW.goto (dx_Lab_behindTitle 61 (e := (118, .goto (-71), 3)) rfl) 47 (by decide) ?_
  exact hK47 _ _ _ _ _ _ hV h
def w_Lab_behindTitle_94 (X : CX) (x1 : Int32) (x2 : Int32) (x3 : Int32) (x4 : Int32) (m : CS) (Φ : Option Value → CS → Prop) (K47 : Int32 → Int32 → Int32 → Int32 → CS → Prop) : Prop := cE X 0 y_Row_at [.ref (adr X 10), .int (x4)] m (ciP fun r1 m1 => ((r1 = 92 → w_Lab_behindTitle_115 X (x1) (x2) (x3) (x4) (x4) (2) m1 Φ K47) ∧ (¬ r1 = 92 → w_Lab_behindTitle_115 X (x1) (x2) (x3) (x4) (x4) (1) m1 Φ K47)))
theorem t_Lab_behindTitle_94 {X : CX} {a0 : Array Value} (F : cF X a0) {d : Nat} {x1 : Int32} {x2 : Int32} {x3 : Int32} {x4 : Int32} {m : CS} {σ : jS} {Φ : Option Value → CS → Prop} {K47 : Int32 → Int32 → Int32 → Int32 → CS → Prop} (hV : CV X m σ) (h : w_Lab_behindTitle_94 X x1 x2 x3 x4 m Φ K47) (hK47 : ∀ (x1 : Int32) (x2 : Int32) (x3 : Int32) (x4 : Int32) (m : CS) (σ : jS), CV X m σ → K47 x1 x2 x3 x4 m → jW X.1 X.2.1 jcl X.2.2.1 X.2.2.2.1 (d + 1) y_Lab_behindTitle 47 [some (.ref (adr X 4)), some (.int x1), some (.int x2), some (.int x3), some (.int x4)] [] σ (cP X Φ)) : jW X.1 X.2.1 jcl X.2.2.1 X.2.2.2.1 (d + 1) y_Lab_behindTitle 94 [some (.ref (adr X 4)), some (.int x1), some (.int x2), some (.int x3), some (.int x4)] [] σ (cP X Φ) := by
  unfold w_Lab_behindTitle_94 at h
  refine jW.iload (dx_Lab_behindTitle 49 (e := (94, .iload 4, 2)) rfl) rfl (pc' := 96) rfl ?_
  refine jW.aload_n (dx_Lab_behindTitle 50 (e := (96, .aload_n 0, 1)) rfl) rfl rfl (pc' := 97) rfl ?_
  refine jW.cg (κ := 4) (k := 0) F hV.s4 f_Lab_behindTitle_97 (by decide) rfl (pc' := 100) rfl ?_
  refine jW.iload (dx_Lab_behindTitle 52 (e := (100, .iload 4, 2)) rfl) rfl (pc' := 102) rfl ?_
  refine jW.callVe F (h (d + 0) _ hV) (dx_Lab_behindTitle 53 (e := (102, .invokevirtual 43, 3)) rfl) can_Row_at jw_464 jw_439 (hV.clr (κ := 10) (by unfold isR; decide)) rfl jw_440 rfl rfl (Nat.le_of_ble_eq_true rfl) (pc' := 105) rfl (fun r σ hr => ?_)
  clear hV
  obtain ⟨_, hV, _, rfl, h⟩ := hr
  refine jW.bipush (v := 92) (dx_Lab_behindTitle 54 (e := (105, .bipush 92, 2)) rfl) (by decide) (pc' := 107) rfl ?_
  refine jW.icmp_ne (dx_Lab_behindTitle 55 (e := (107, .if_icmp .ne 7, 3)) rfl) 114 (by decide) (pc' := 110) rfl (fun c => ?_) (fun c => ?_)
  · replace h := h.2 c
    refine jW.iconst (v := 1) (dx_Lab_behindTitle 58 (e := (114, .iconst 1, 1)) rfl) (by decide) (pc' := 115) rfl ?_
    exact t_Lab_behindTitle_115 F hV h hK47
  · replace h := h.1 c
    refine jW.iconst (v := 2) (dx_Lab_behindTitle 56 (e := (110, .iconst 2, 1)) rfl) (by decide) (pc' := 111) rfl ?_
    refine jW.goto (dx_Lab_behindTitle 57 (e := (111, .goto 4, 3)) rfl) 115 (by decide) ?_
    exact t_Lab_behindTitle_115 F hV h hK47
def w_Lab_behindTitle_47 (X : CX) (x1 : Int32) (x2 : Int32) (x3 : Int32) (x4 : Int32) (m : CS) (Φ : Option Value → CS → Prop) (K47 : Int32 → Int32 → Int32 → Int32 → CS → Prop) : Prop := cE X 0 y_Row_size [.ref (adr X 10)] m (ciP fun r1 m1 => ((r1 ≤ x4 → w_Lab_behindTitle_121 X (x1) (x2) (x3) (x4) m1 Φ) ∧ (¬ r1 ≤ x4 → cE X 0 y_Row_at [.ref (adr X 10), .int (x4)] m1 (ciP fun r2 m2 => ((r2 = x3 → w_Lab_behindTitle_121 X (x1) (x2) (x3) (x4) m2 Φ) ∧ (¬ r2 = x3 → cE X 0 y_Row_at [.ref (adr X 10), .int (x4)] m2 (ciP fun r3 m3 => ((r3 = 40 → ((x2 = 40 → Φ (some (.int (-1))) m3) ∧ (¬ x2 = 40 → w_Lab_behindTitle_94 X (x1) (x2) (x3) (x4) m3 Φ K47))) ∧ (¬ r3 = 40 → w_Lab_behindTitle_94 X (x1) (x2) (x3) (x4) m3 Φ K47)))))))))
theorem t_Lab_behindTitle_47 {X : CX} {a0 : Array Value} (F : cF X a0) {d : Nat} {x1 : Int32} {x2 : Int32} {x3 : Int32} {x4 : Int32} {m : CS} {σ : jS} {Φ : Option Value → CS → Prop} {K47 : Int32 → Int32 → Int32 → Int32 → CS → Prop} (hV : CV X m σ) (h : w_Lab_behindTitle_47 X x1 x2 x3 x4 m Φ K47) (hK47 : ∀ (x1 : Int32) (x2 : Int32) (x3 : Int32) (x4 : Int32) (m : CS) (σ : jS), CV X m σ → K47 x1 x2 x3 x4 m → jW X.1 X.2.1 jcl X.2.2.1 X.2.2.2.1 (d + 1) y_Lab_behindTitle 47 [some (.ref (adr X 4)), some (.int x1), some (.int x2), some (.int x3), some (.int x4)] [] σ (cP X Φ)) : jW X.1 X.2.1 jcl X.2.2.1 X.2.2.2.1 (d + 1) y_Lab_behindTitle 47 [some (.ref (adr X 4)), some (.int x1), some (.int x2), some (.int x3), some (.int x4)] [] σ (cP X Φ) := by
  unfold w_Lab_behindTitle_47 at h
  refine jW.iload (dx_Lab_behindTitle 27 (e := (47, .iload 4, 2)) rfl) rfl (pc' := 49) rfl ?_
  refine jW.aload_n (dx_Lab_behindTitle 28 (e := (49, .aload_n 0, 1)) rfl) rfl rfl (pc' := 50) rfl ?_
  refine jW.cg (κ := 4) (k := 0) F hV.s4 f_Lab_behindTitle_50 (by decide) rfl (pc' := 53) rfl ?_
  refine jW.callVe F (h (d + 0) _ hV) (dx_Lab_behindTitle 30 (e := (53, .invokevirtual 28, 3)) rfl) can_Row_size jw_450 jw_372 (hV.clr (κ := 10) (by unfold isR; decide)) rfl jw_373 rfl rfl (Nat.le_of_ble_eq_true rfl) (pc' := 56) rfl (fun r σ hr => ?_)
  clear hV
  obtain ⟨_, hV, _, rfl, h⟩ := hr
  refine jW.icmp_ge (dx_Lab_behindTitle 31 (e := (56, .if_icmp .ge 65, 3)) rfl) 121 (by decide) (pc' := 59) rfl (fun c => ?_) (fun c => ?_)
  · replace h := h.1 c
    exact t_Lab_behindTitle_121 F hV h
  · replace h := h.2 c
    refine jW.aload_n (dx_Lab_behindTitle 32 (e := (59, .aload_n 0, 1)) rfl) rfl rfl (pc' := 60) rfl ?_
    refine jW.cg (κ := 4) (k := 0) F hV.s4 f_Lab_behindTitle_60 (by decide) rfl (pc' := 63) rfl ?_
    refine jW.iload (dx_Lab_behindTitle 34 (e := (63, .iload 4, 2)) rfl) rfl (pc' := 65) rfl ?_
    refine jW.callVe F (h (d + 0) _ hV) (dx_Lab_behindTitle 35 (e := (65, .invokevirtual 43, 3)) rfl) can_Row_at jw_464 jw_439 (hV.clr (κ := 10) (by unfold isR; decide)) rfl jw_440 rfl rfl (Nat.le_of_ble_eq_true rfl) (pc' := 68) rfl (fun r σ hr => ?_)
    clear hV
    obtain ⟨_, hV, _, rfl, h⟩ := hr
    refine jW.iload_n (dx_Lab_behindTitle 36 (e := (68, .iload_n 3, 1)) rfl) rfl rfl (pc' := 69) rfl ?_
    refine jW.icmp_eq (dx_Lab_behindTitle 37 (e := (69, .if_icmp .eq 52, 3)) rfl) 121 (by decide) (pc' := 72) rfl (fun c => ?_) (fun c => ?_)
    · replace h := h.1 c
      exact t_Lab_behindTitle_121 F hV h
    · replace h := h.2 c
      refine jW.aload_n (dx_Lab_behindTitle 38 (e := (72, .aload_n 0, 1)) rfl) rfl rfl (pc' := 73) rfl ?_
      refine jW.cg (κ := 4) (k := 0) F hV.s4 f_Lab_behindTitle_73 (by decide) rfl (pc' := 76) rfl ?_
      refine jW.iload (dx_Lab_behindTitle 40 (e := (76, .iload 4, 2)) rfl) rfl (pc' := 78) rfl ?_
      refine jW.callVe F (h (d + 0) _ hV) (dx_Lab_behindTitle 41 (e := (78, .invokevirtual 43, 3)) rfl) can_Row_at jw_464 jw_439 (hV.clr (κ := 10) (by unfold isR; decide)) rfl jw_440 rfl rfl (Nat.le_of_ble_eq_true rfl) (pc' := 81) rfl (fun r σ hr => ?_)
      clear hV
      obtain ⟨_, hV, _, rfl, h⟩ := hr
      refine jW.bipush (v := 40) (dx_Lab_behindTitle 42 (e := (81, .bipush 40, 2)) rfl) (by decide) (pc' := 83) rfl ?_
      refine jW.icmp_ne (dx_Lab_behindTitle 43 (e := (83, .if_icmp .ne 11, 3)) rfl) 94 (by decide) (pc' := 86) rfl (fun c => ?_) (fun c => ?_)
      · replace h := h.2 c
        exact t_Lab_behindTitle_94 F hV h hK47
      · replace h := h.1 c
        refine jW.iload_n (dx_Lab_behindTitle 44 (e := (86, .iload_n 2, 1)) rfl) rfl rfl (pc' := 87) rfl ?_
        refine jW.bipush (v := 40) (dx_Lab_behindTitle 45 (e := (87, .bipush 40, 2)) rfl) (by decide) (pc' := 89) rfl ?_
        refine jW.icmp_ne (dx_Lab_behindTitle 46 (e := (89, .if_icmp .ne 5, 3)) rfl) 94 (by decide) (pc' := 92) rfl (fun c => ?_) (fun c => ?_)
        · replace h := h.2 c
          exact t_Lab_behindTitle_94 F hV h hK47
        · replace h := h.1 c
          refine jW.iconst (v := -1) (dx_Lab_behindTitle 47 (e := (92, .iconst (-1), 1)) rfl) (by decide) (pc' := 93) rfl ?_
          exact jW.iret (dx_Lab_behindTitle 48 (e := (93, .ireturn, 1)) rfl) rfl ⟨_, hV, h⟩
def w_Lab_behindTitle_41 (X : CX) (x1 : Int32) (x2 : Int32) (s0 : Int32) (m : CS) (Φ : Option Value → CS → Prop) (K47 : Int32 → Int32 → Int32 → Int32 → CS → Prop) : Prop := K47 (x1) (x2) (s0) (x1 + 1) m
theorem t_Lab_behindTitle_41 {X : CX} {a0 : Array Value} (F : cF X a0) {d : Nat} {x1 : Int32} {x2 : Int32} {s0 : Int32} {o3 o4 : Option Value} {m : CS} {σ : jS} {Φ : Option Value → CS → Prop} {K47 : Int32 → Int32 → Int32 → Int32 → CS → Prop} (hV : CV X m σ) (h : w_Lab_behindTitle_41 X x1 x2 s0 m Φ K47) (hK47 : ∀ (x1 : Int32) (x2 : Int32) (x3 : Int32) (x4 : Int32) (m : CS) (σ : jS), CV X m σ → K47 x1 x2 x3 x4 m → jW X.1 X.2.1 jcl X.2.2.1 X.2.2.2.1 (d + 1) y_Lab_behindTitle 47 [some (.ref (adr X 4)), some (.int x1), some (.int x2), some (.int x3), some (.int x4)] [] σ (cP X Φ)) : jW X.1 X.2.1 jcl X.2.2.1 X.2.2.2.1 (d + 1) y_Lab_behindTitle 41 [some (.ref (adr X 4)), some (.int x1), some (.int x2), o3, o4] [.int s0] σ (cP X Φ) := by
  unfold w_Lab_behindTitle_41 at h
  refine jW.istore_n (dx_Lab_behindTitle 22 (e := (41, .istore_n 3, 1)) rfl) rfl (by decide) rfl (pc' := 42) rfl ?_
  refine jW.iload_n (dx_Lab_behindTitle 23 (e := (42, .iload_n 1, 1)) rfl) rfl rfl (pc' := 43) rfl ?_
  refine jW.iconst (v := 1) (dx_Lab_behindTitle 24 (e := (43, .iconst 1, 1)) rfl) (by decide) (pc' := 44) rfl ?_
  refine jW.iadd (dx_Lab_behindTitle 25 (e := (44, .iadd, 1)) rfl) (pc' := 45) rfl ?_
  refine jW.istore (dx_Lab_behindTitle 26 (e := (45, .istore 4, 2)) rfl) (by decide) rfl (pc' := 47) rfl ?_
  exact hK47 _ _ _ _ _ _ hV h
def w_Lab_behindTitle_29 (X : CX) (x1 : Int32) (x2 : Int32) (m : CS) (Φ : Option Value → CS → Prop) (K47 : Int32 → Int32 → Int32 → Int32 → CS → Prop) : Prop := ((x2 = 40 → w_Lab_behindTitle_41 X (x1) (x2) (41) m Φ K47) ∧ (¬ x2 = 40 → w_Lab_behindTitle_41 X (x1) (x2) (x2) m Φ K47))
theorem t_Lab_behindTitle_29 {X : CX} {a0 : Array Value} (F : cF X a0) {d : Nat} {x1 : Int32} {x2 : Int32} {o3 o4 : Option Value} {m : CS} {σ : jS} {Φ : Option Value → CS → Prop} {K47 : Int32 → Int32 → Int32 → Int32 → CS → Prop} (hV : CV X m σ) (h : w_Lab_behindTitle_29 X x1 x2 m Φ K47) (hK47 : ∀ (x1 : Int32) (x2 : Int32) (x3 : Int32) (x4 : Int32) (m : CS) (σ : jS), CV X m σ → K47 x1 x2 x3 x4 m → jW X.1 X.2.1 jcl X.2.2.1 X.2.2.2.1 (d + 1) y_Lab_behindTitle 47 [some (.ref (adr X 4)), some (.int x1), some (.int x2), some (.int x3), some (.int x4)] [] σ (cP X Φ)) : jW X.1 X.2.1 jcl X.2.2.1 X.2.2.2.1 (d + 1) y_Lab_behindTitle 29 [some (.ref (adr X 4)), some (.int x1), some (.int x2), o3, o4] [] σ (cP X Φ) := by
  unfold w_Lab_behindTitle_29 at h
  refine jW.iload_n (dx_Lab_behindTitle 16 (e := (29, .iload_n 2, 1)) rfl) rfl rfl (pc' := 30) rfl ?_
  refine jW.bipush (v := 40) (dx_Lab_behindTitle 17 (e := (30, .bipush 40, 2)) rfl) (by decide) (pc' := 32) rfl ?_
  refine jW.icmp_ne (dx_Lab_behindTitle 18 (e := (32, .if_icmp .ne 8, 3)) rfl) 40 (by decide) (pc' := 35) rfl (fun c => ?_) (fun c => ?_)
  · replace h := h.2 c
    refine jW.iload_n (dx_Lab_behindTitle 21 (e := (40, .iload_n 2, 1)) rfl) rfl rfl (pc' := 41) rfl ?_
    exact t_Lab_behindTitle_41 F hV h hK47
  · replace h := h.1 c
    refine jW.bipush (v := 41) (dx_Lab_behindTitle 19 (e := (35, .bipush 41, 2)) rfl) (by decide) (pc' := 37) rfl ?_
    refine jW.goto (dx_Lab_behindTitle 20 (e := (37, .goto 4, 3)) rfl) 41 (by decide) ?_
    exact t_Lab_behindTitle_41 F hV h hK47
def w_Lab_behindTitle_0 (X : CX) (x1 : Int32) (m : CS) (Φ : Option Value → CS → Prop) (K47 : Int32 → Int32 → Int32 → Int32 → CS → Prop) : Prop := cE X 0 y_Row_at [.ref (adr X 10), .int (x1)] m (ciP fun r1 m1 => ((r1 = 34 → w_Lab_behindTitle_29 X (x1) (r1) m1 Φ K47) ∧ (¬ r1 = 34 → ((r1 = 39 → w_Lab_behindTitle_29 X (x1) (r1) m1 Φ K47) ∧ (¬ r1 = 39 → ((r1 = 40 → w_Lab_behindTitle_29 X (x1) (r1) m1 Φ K47) ∧ (¬ r1 = 40 → Φ (some (.int (-1))) m1)))))))
theorem t_Lab_behindTitle_0 {X : CX} {a0 : Array Value} (F : cF X a0) {d : Nat} {x1 : Int32} {o2 o3 o4 : Option Value} {m : CS} {σ : jS} {Φ : Option Value → CS → Prop} {K47 : Int32 → Int32 → Int32 → Int32 → CS → Prop} (hV : CV X m σ) (h : w_Lab_behindTitle_0 X x1 m Φ K47) (hK47 : ∀ (x1 : Int32) (x2 : Int32) (x3 : Int32) (x4 : Int32) (m : CS) (σ : jS), CV X m σ → K47 x1 x2 x3 x4 m → jW X.1 X.2.1 jcl X.2.2.1 X.2.2.2.1 (d + 1) y_Lab_behindTitle 47 [some (.ref (adr X 4)), some (.int x1), some (.int x2), some (.int x3), some (.int x4)] [] σ (cP X Φ)) : jW X.1 X.2.1 jcl X.2.2.1 X.2.2.2.1 (d + 1) y_Lab_behindTitle 0 [some (.ref (adr X 4)), some (.int x1), o2, o3, o4] [] σ (cP X Φ) := by
  unfold w_Lab_behindTitle_0 at h
  refine jW.aload_n (dx_Lab_behindTitle 0 (e := (0, .aload_n 0, 1)) rfl) rfl rfl (pc' := 1) rfl ?_
  refine jW.cg (κ := 4) (k := 0) F hV.s4 f_Lab_behindTitle_1 (by decide) rfl (pc' := 4) rfl ?_
  refine jW.iload_n (dx_Lab_behindTitle 2 (e := (4, .iload_n 1, 1)) rfl) rfl rfl (pc' := 5) rfl ?_
  refine jW.callVe F (h (d + 0) _ hV) (dx_Lab_behindTitle 3 (e := (5, .invokevirtual 43, 3)) rfl) can_Row_at jw_464 jw_439 (hV.clr (κ := 10) (by unfold isR; decide)) rfl jw_440 rfl rfl (Nat.le_of_ble_eq_true rfl) (pc' := 8) rfl (fun r σ hr => ?_)
  clear hV
  obtain ⟨_, hV, _, rfl, h⟩ := hr
  refine jW.istore_n (dx_Lab_behindTitle 4 (e := (8, .istore_n 2, 1)) rfl) rfl (by decide) rfl (pc' := 9) rfl ?_
  refine jW.iload_n (dx_Lab_behindTitle 5 (e := (9, .iload_n 2, 1)) rfl) rfl rfl (pc' := 10) rfl ?_
  refine jW.bipush (v := 34) (dx_Lab_behindTitle 6 (e := (10, .bipush 34, 2)) rfl) (by decide) (pc' := 12) rfl ?_
  refine jW.icmp_eq (dx_Lab_behindTitle 7 (e := (12, .if_icmp .eq 17, 3)) rfl) 29 (by decide) (pc' := 15) rfl (fun c => ?_) (fun c => ?_)
  · replace h := h.1 c
    exact t_Lab_behindTitle_29 F hV h hK47
  · replace h := h.2 c
    refine jW.iload_n (dx_Lab_behindTitle 8 (e := (15, .iload_n 2, 1)) rfl) rfl rfl (pc' := 16) rfl ?_
    refine jW.bipush (v := 39) (dx_Lab_behindTitle 9 (e := (16, .bipush 39, 2)) rfl) (by decide) (pc' := 18) rfl ?_
    refine jW.icmp_eq (dx_Lab_behindTitle 10 (e := (18, .if_icmp .eq 11, 3)) rfl) 29 (by decide) (pc' := 21) rfl (fun c => ?_) (fun c => ?_)
    · replace h := h.1 c
      exact t_Lab_behindTitle_29 F hV h hK47
    · replace h := h.2 c
      refine jW.iload_n (dx_Lab_behindTitle 11 (e := (21, .iload_n 2, 1)) rfl) rfl rfl (pc' := 22) rfl ?_
      refine jW.bipush (v := 40) (dx_Lab_behindTitle 12 (e := (22, .bipush 40, 2)) rfl) (by decide) (pc' := 24) rfl ?_
      refine jW.icmp_eq (dx_Lab_behindTitle 13 (e := (24, .if_icmp .eq 5, 3)) rfl) 29 (by decide) (pc' := 27) rfl (fun c => ?_) (fun c => ?_)
      · replace h := h.1 c
        exact t_Lab_behindTitle_29 F hV h hK47
      · replace h := h.2 c
        refine jW.iconst (v := -1) (dx_Lab_behindTitle 14 (e := (27, .iconst (-1), 1)) rfl) (by decide) (pc' := 28) rfl ?_
        exact jW.iret (dx_Lab_behindTitle 15 (e := (28, .ireturn, 1)) rfl) rfl ⟨_, hV, h⟩
theorem g_Lab_behindTitle {X : CX} {a0 : Array Value} (F : cF X a0) {x1 : Int32} {m : CS} {Φ : Option Value → CS → Prop} {I47 : Nat → Int32 → Int32 → Int32 → Int32 → CS → Prop} (he : w_Lab_behindTitle_0 X x1 m Φ (fun x1 x2 x3 x4 m => ∃ j, I47 j x1 x2 x3 x4 m)) (h47 : ∀ (n : Nat) (x1 : Int32) (x2 : Int32) (x3 : Int32) (x4 : Int32) (m : CS), I47 n x1 x2 x3 x4 m → w_Lab_behindTitle_47 X x1 x2 x3 x4 m Φ (fun x1 x2 x3 x4 m => ∃ j, j < n ∧ I47 j x1 x2 x3 x4 m)) : cE X 1 y_Lab_behindTitle [.ref (adr X 4), .int x1] m Φ := by
  intro d σ hV
  have hL47 : ∀ n, (∀ (x1 : Int32) (x2 : Int32) (x3 : Int32) (x4 : Int32) (m : CS) (σ : jS), CV X m σ → I47 n x1 x2 x3 x4 m → jW X.1 X.2.1 jcl X.2.2.1 X.2.2.2.1 (d + 1) y_Lab_behindTitle 47 [some (.ref (adr X 4)), some (.int x1), some (.int x2), some (.int x3), some (.int x4)] [] σ (cP X Φ)) := by
    intro n
    induction n using Nat.strongRecOn with
    | _ n ih =>
      exact fun x1 x2 x3 x4 m σ hV hI => t_Lab_behindTitle_47 F hV (h47 n x1 x2 x3 x4 m hI) (fun x1 x2 x3 x4 m σ hV ⟨j, hj, hI⟩ => (ih j hj) x1 x2 x3 x4 m σ hV hI)
  refine jE.of (by decide) (by simp [Value.category]) (Nat.le_of_ble_eq_true rfl) rfl ?_
  exact t_Lab_behindTitle_0 F hV he (fun x1 x2 x3 x4 m σ hV ⟨j, hI⟩ => (hL47 j) x1 x2 x3 x4 m σ hV hI)
def w_Lab_behindDefinition_24 (X : CX) (x1 : Int32) (x2 : Int32) (m : CS) (Φ : Option Value → CS → Prop) : Prop := Φ (some (.int (-1))) m
theorem t_Lab_behindDefinition_24 {X : CX} {a0 : Array Value} (F : cF X a0) {d : Nat} {x1 : Int32} {x2 : Int32} {o3 o4 o5 o6 o7 : Option Value} {m : CS} {σ : jS} {Φ : Option Value → CS → Prop} (hV : CV X m σ) (h : w_Lab_behindDefinition_24 X x1 x2 m Φ) : jW X.1 X.2.1 jcl X.2.2.1 X.2.2.2.1 (d + 2) y_Lab_behindDefinition 24 [some (.ref (adr X 4)), some (.int x1), some (.int x2), o3, o4, o5, o6, o7] [] σ (cP X Φ) := by
  unfold w_Lab_behindDefinition_24 at h
  refine jW.iconst (v := -1) (dx_Lab_behindDefinition 13 (e := (24, .iconst (-1), 1)) rfl) (by decide) (pc' := 25) rfl ?_
  exact jW.iret (dx_Lab_behindDefinition 14 (e := (25, .ireturn, 1)) rfl) rfl ⟨_, hV, h⟩
def w_Lab_behindDefinition_113 (X : CX) (x1 : Int32) (x2 : Int32) (x3 : Int32) (x4 : Int32) (x5 : Int32) (x6 : Int32) (s0 : Int32) (m : CS) (Φ : Option Value → CS → Prop) : Prop := ((s0 = -1 → ∀ m1, m1 = cI m 48 (vi m.1 47) → cE X 1 y_Lab_behindLine [.ref (adr X 4), .int (x4)] m1 (ciP fun r2 m2 => Φ (some (.int (r2))) m2)) ∧ (¬ s0 = -1 → Φ (some (.int (s0))) m))
theorem t_Lab_behindDefinition_113 {X : CX} {a0 : Array Value} (F : cF X a0) {d : Nat} {x1 : Int32} {x2 : Int32} {x3 : Int32} {x4 : Int32} {x5 : Int32} {x6 : Int32} {s0 : Int32} {o7 : Option Value} {m : CS} {σ : jS} {Φ : Option Value → CS → Prop} (hV : CV X m σ) (h : w_Lab_behindDefinition_113 X x1 x2 x3 x4 x5 x6 s0 m Φ) : jW X.1 X.2.1 jcl X.2.2.1 X.2.2.2.1 (d + 2) y_Lab_behindDefinition 113 [some (.ref (adr X 4)), some (.int x1), some (.int x2), some (.int x3), some (.int x4), some (.int x5), some (.int x6), o7] [.int s0] σ (cP X Φ) := by
  unfold w_Lab_behindDefinition_113 at h
  refine jW.istore (dx_Lab_behindDefinition 61 (e := (113, .istore 7, 2)) rfl) (by decide) rfl (pc' := 115) rfl ?_
  refine jW.iload (dx_Lab_behindDefinition 62 (e := (115, .iload 7, 2)) rfl) rfl (pc' := 117) rfl ?_
  refine jW.iconst (v := -1) (dx_Lab_behindDefinition 63 (e := (117, .iconst (-1), 1)) rfl) (by decide) (pc' := 118) rfl ?_
  refine jW.icmp_eq (dx_Lab_behindDefinition 64 (e := (118, .if_icmp .eq 6, 3)) rfl) 124 (by decide) (pc' := 121) rfl (fun c => ?_) (fun c => ?_)
  · replace h := h.1 c
    refine jW.aload_n (dx_Lab_behindDefinition 67 (e := (124, .aload_n 0, 1)) rfl) rfl rfl (pc' := 125) rfl ?_
    refine jW.aload_n (dx_Lab_behindDefinition 68 (e := (125, .aload_n 0, 1)) rfl) rfl rfl (pc' := 126) rfl ?_
    refine jW.cg (κ := 4) (k := 7) F hV.s4 f_Lab_behindDefinition_126 (by decide) rfl (pc' := 129) rfl ?_
    refine jW.cp4 (k := 8) F hV f_Lab_behindDefinition_129 (by decide) rfl rfl rfl (pc' := 132) rfl (fun σ hV => ?_)
    replace h := h _ rfl
    refine jW.aload_n (dx_Lab_behindDefinition 71 (e := (132, .aload_n 0, 1)) rfl) rfl rfl (pc' := 133) rfl ?_
    refine jW.iload (dx_Lab_behindDefinition 72 (e := (133, .iload 4, 2)) rfl) rfl (pc' := 135) rfl ?_
    refine jW.callVe F (h (d + 0) _ hV) (dx_Lab_behindDefinition 73 (e := (135, .invokevirtual 156, 3)) rfl) can_Lab_behindLine jw_720 jw_722 hV.cl4 rfl sel_Lab_behindLine rfl rfl (Nat.le_of_ble_eq_true rfl) (pc' := 138) rfl (fun r σ hr => ?_)
    clear hV
    obtain ⟨_, hV, _, rfl, h⟩ := hr
    exact jW.iret (dx_Lab_behindDefinition 74 (e := (138, .ireturn, 1)) rfl) rfl ⟨_, hV, h⟩
  · replace h := h.2 c
    refine jW.iload (dx_Lab_behindDefinition 65 (e := (121, .iload 7, 2)) rfl) rfl (pc' := 123) rfl ?_
    exact jW.iret (dx_Lab_behindDefinition 66 (e := (123, .ireturn, 1)) rfl) rfl ⟨_, hV, h⟩
def w_Lab_behindDefinition_95 (X : CX) (x1 : Int32) (x2 : Int32) (x3 : Int32) (x4 : Int32) (x5 : Int32) (s0 : Int32) (m : CS) (Φ : Option Value → CS → Prop) : Prop := ((s0 = -1 → w_Lab_behindDefinition_113 X (x1) (x2) (x3) (x4) (x5) (s0) (-1) m Φ) ∧ (¬ s0 = -1 → cE X 1 y_Lab_behindLine [.ref (adr X 4), .int (s0)] m (ciP fun r1 m1 => w_Lab_behindDefinition_113 X (x1) (x2) (x3) (x4) (x5) (s0) (r1) m1 Φ)))
theorem t_Lab_behindDefinition_95 {X : CX} {a0 : Array Value} (F : cF X a0) {d : Nat} {x1 : Int32} {x2 : Int32} {x3 : Int32} {x4 : Int32} {x5 : Int32} {s0 : Int32} {o6 o7 : Option Value} {m : CS} {σ : jS} {Φ : Option Value → CS → Prop} (hV : CV X m σ) (h : w_Lab_behindDefinition_95 X x1 x2 x3 x4 x5 s0 m Φ) : jW X.1 X.2.1 jcl X.2.2.1 X.2.2.2.1 (d + 2) y_Lab_behindDefinition 95 [some (.ref (adr X 4)), some (.int x1), some (.int x2), some (.int x3), some (.int x4), some (.int x5), o6, o7] [.int s0] σ (cP X Φ) := by
  unfold w_Lab_behindDefinition_95 at h
  refine jW.istore (dx_Lab_behindDefinition 52 (e := (95, .istore 6, 2)) rfl) (by decide) rfl (pc' := 97) rfl ?_
  refine jW.iload (dx_Lab_behindDefinition 53 (e := (97, .iload 6, 2)) rfl) rfl (pc' := 99) rfl ?_
  refine jW.iconst (v := -1) (dx_Lab_behindDefinition 54 (e := (99, .iconst (-1), 1)) rfl) (by decide) (pc' := 100) rfl ?_
  refine jW.icmp_ne (dx_Lab_behindDefinition 55 (e := (100, .if_icmp .ne 7, 3)) rfl) 107 (by decide) (pc' := 103) rfl (fun c => ?_) (fun c => ?_)
  · replace h := h.2 c
    refine jW.aload_n (dx_Lab_behindDefinition 58 (e := (107, .aload_n 0, 1)) rfl) rfl rfl (pc' := 108) rfl ?_
    refine jW.iload (dx_Lab_behindDefinition 59 (e := (108, .iload 6, 2)) rfl) rfl (pc' := 110) rfl ?_
    refine jW.callVe F (h (d + 0) _ hV) (dx_Lab_behindDefinition 60 (e := (110, .invokevirtual 156, 3)) rfl) can_Lab_behindLine jw_720 jw_722 hV.cl4 rfl sel_Lab_behindLine rfl rfl (Nat.le_of_ble_eq_true rfl) (pc' := 113) rfl (fun r σ hr => ?_)
    clear hV
    obtain ⟨_, hV, _, rfl, h⟩ := hr
    exact t_Lab_behindDefinition_113 F hV h
  · replace h := h.1 c
    refine jW.iconst (v := -1) (dx_Lab_behindDefinition 56 (e := (103, .iconst (-1), 1)) rfl) (by decide) (pc' := 104) rfl ?_
    refine jW.goto (dx_Lab_behindDefinition 57 (e := (104, .goto 9, 3)) rfl) 113 (by decide) ?_
    exact t_Lab_behindDefinition_113 F hV h
def w_Lab_behindDefinition_60 (X : CX) (x1 : Int32) (x2 : Int32) (x3 : Int32) (s0 : Int32) (m : CS) (Φ : Option Value → CS → Prop) : Prop := ((s0 = -1 → Φ (some (.int (-1))) m) ∧ (¬ s0 = -1 → cE X 1 y_Lab_behindGap [.ref (adr X 4), .int (s0)] m (ciP fun r1 m1 => ((r1 ≤ s0 → w_Lab_behindDefinition_95 X (x1) (x2) (x3) (s0) (r1) (-1) m1 Φ) ∧ (¬ r1 ≤ s0 → cE X 1 y_Lab_behindTitle [.ref (adr X 4), .int (r1)] m1 (ciP fun r2 m2 => w_Lab_behindDefinition_95 X (x1) (x2) (x3) (s0) (r1) (r2) m2 Φ))))))
theorem t_Lab_behindDefinition_60 {X : CX} {a0 : Array Value} (F : cF X a0) {d : Nat} {x1 : Int32} {x2 : Int32} {x3 : Int32} {s0 : Int32} {o4 o5 o6 o7 : Option Value} {m : CS} {σ : jS} {Φ : Option Value → CS → Prop} (hV : CV X m σ) (h : w_Lab_behindDefinition_60 X x1 x2 x3 s0 m Φ) : jW X.1 X.2.1 jcl X.2.2.1 X.2.2.2.1 (d + 2) y_Lab_behindDefinition 60 [some (.ref (adr X 4)), some (.int x1), some (.int x2), some (.int x3), o4, o5, o6, o7] [.int s0] σ (cP X Φ) := by
  unfold w_Lab_behindDefinition_60 at h
  refine jW.istore (dx_Lab_behindDefinition 34 (e := (60, .istore 4, 2)) rfl) (by decide) rfl (pc' := 62) rfl ?_
  refine jW.iload (dx_Lab_behindDefinition 35 (e := (62, .iload 4, 2)) rfl) rfl (pc' := 64) rfl ?_
  refine jW.iconst (v := -1) (dx_Lab_behindDefinition 36 (e := (64, .iconst (-1), 1)) rfl) (by decide) (pc' := 65) rfl ?_
  refine jW.icmp_ne (dx_Lab_behindDefinition 37 (e := (65, .if_icmp .ne 5, 3)) rfl) 70 (by decide) (pc' := 68) rfl (fun c => ?_) (fun c => ?_)
  · replace h := h.2 c
    refine jW.aload_n (dx_Lab_behindDefinition 40 (e := (70, .aload_n 0, 1)) rfl) rfl rfl (pc' := 71) rfl ?_
    refine jW.iload (dx_Lab_behindDefinition 41 (e := (71, .iload 4, 2)) rfl) rfl (pc' := 73) rfl ?_
    refine jW.callVe F (h (d + 0) _ hV) (dx_Lab_behindDefinition 42 (e := (73, .invokevirtual 144, 3)) rfl) can_Lab_behindGap jw_701 jw_703 hV.cl4 rfl sel_Lab_behindGap rfl rfl (Nat.le_of_ble_eq_true rfl) (pc' := 76) rfl (fun r σ hr => ?_)
    clear hV
    obtain ⟨_, hV, _, rfl, h⟩ := hr
    refine jW.istore (dx_Lab_behindDefinition 43 (e := (76, .istore 5, 2)) rfl) (by decide) rfl (pc' := 78) rfl ?_
    refine jW.iload (dx_Lab_behindDefinition 44 (e := (78, .iload 5, 2)) rfl) rfl (pc' := 80) rfl ?_
    refine jW.iload (dx_Lab_behindDefinition 45 (e := (80, .iload 4, 2)) rfl) rfl (pc' := 82) rfl ?_
    refine jW.icmp_le (dx_Lab_behindDefinition 46 (e := (82, .if_icmp .le 12, 3)) rfl) 94 (by decide) (pc' := 85) rfl (fun c => ?_) (fun c => ?_)
    · replace h := h.1 c
      refine jW.iconst (v := -1) (dx_Lab_behindDefinition 51 (e := (94, .iconst (-1), 1)) rfl) (by decide) (pc' := 95) rfl ?_
      exact t_Lab_behindDefinition_95 F hV h
    · replace h := h.2 c
      refine jW.aload_n (dx_Lab_behindDefinition 47 (e := (85, .aload_n 0, 1)) rfl) rfl rfl (pc' := 86) rfl ?_
      refine jW.iload (dx_Lab_behindDefinition 48 (e := (86, .iload 5, 2)) rfl) rfl (pc' := 88) rfl ?_
      refine jW.callVe F (h (d + 0) _ hV) (dx_Lab_behindDefinition 49 (e := (88, .invokevirtual 153, 3)) rfl) can_Lab_behindTitle jw_716 jw_718 hV.cl4 rfl sel_Lab_behindTitle rfl rfl (Nat.le_of_ble_eq_true rfl) (pc' := 91) rfl (fun r σ hr => ?_)
      clear hV
      obtain ⟨_, hV, _, rfl, h⟩ := hr
      refine jW.goto (dx_Lab_behindDefinition 50 (e := (91, .goto 4, 3)) rfl) 95 (by decide) ?_
      exact t_Lab_behindDefinition_95 F hV h
  · replace h := h.1 c
    refine jW.iconst (v := -1) (dx_Lab_behindDefinition 38 (e := (68, .iconst (-1), 1)) rfl) (by decide) (pc' := 69) rfl ?_
    exact jW.iret (dx_Lab_behindDefinition 39 (e := (69, .ireturn, 1)) rfl) rfl ⟨_, hV, h⟩
def w_Lab_behindDefinition_0 (X : CX) (x1 : Int32) (m : CS) (Φ : Option Value → CS → Prop) : Prop := cE X 1 y_Lab_behindLabel [.ref (adr X 4), .int (x1)] m (ciP fun r1 m1 => ((r1 = -1 → w_Lab_behindDefinition_24 X (x1) (r1) m1 Φ) ∧ (¬ r1 = -1 → cE X 0 y_Row_at [.ref (adr X 10), .int (r1)] m1 (ciP fun r2 m2 => ((r2 = 58 → cE X 1 y_Lab_behindGap [.ref (adr X 4), .int (r1 + 1)] m2 (ciP fun r3 m3 => cE X 0 y_Row_at [.ref (adr X 10), .int (r3)] m3 (ciP fun r4 m4 => ((r4 = 60 → cE X 1 y_Lab_behindAngles [.ref (adr X 4), .int (r3)] m4 (ciP fun r6 m6 => w_Lab_behindDefinition_60 X (x1) (r1) (r3) (r6) m6 Φ)) ∧ (¬ r4 = 60 → cE X 1 y_Lab_behindSigns [.ref (adr X 4), .int (r3)] m4 (ciP fun r5 m5 => w_Lab_behindDefinition_60 X (x1) (r1) (r3) (r5) m5 Φ)))))) ∧ (¬ r2 = 58 → w_Lab_behindDefinition_24 X (x1) (r1) m2 Φ))))))
theorem t_Lab_behindDefinition_0 {X : CX} {a0 : Array Value} (F : cF X a0) {d : Nat} {x1 : Int32} {o2 o3 o4 o5 o6 o7 : Option Value} {m : CS} {σ : jS} {Φ : Option Value → CS → Prop} (hV : CV X m σ) (h : w_Lab_behindDefinition_0 X x1 m Φ) : jW X.1 X.2.1 jcl X.2.2.1 X.2.2.2.1 (d + 2) y_Lab_behindDefinition 0 [some (.ref (adr X 4)), some (.int x1), o2, o3, o4, o5, o6, o7] [] σ (cP X Φ) := by
  unfold w_Lab_behindDefinition_0 at h
  refine jW.aload_n (dx_Lab_behindDefinition 0 (e := (0, .aload_n 0, 1)) rfl) rfl rfl (pc' := 1) rfl ?_
  refine jW.iload_n (dx_Lab_behindDefinition 1 (e := (1, .iload_n 1, 1)) rfl) rfl rfl (pc' := 2) rfl ?_
  refine jW.callVe F (h (d + 0) _ hV) (dx_Lab_behindDefinition 2 (e := (2, .invokevirtual 141, 3)) rfl) can_Lab_behindLabel jw_697 jw_699 hV.cl4 rfl sel_Lab_behindLabel rfl rfl (Nat.le_of_ble_eq_true rfl) (pc' := 5) rfl (fun r σ hr => ?_)
  clear hV
  obtain ⟨_, hV, _, rfl, h⟩ := hr
  refine jW.istore_n (dx_Lab_behindDefinition 3 (e := (5, .istore_n 2, 1)) rfl) rfl (by decide) rfl (pc' := 6) rfl ?_
  refine jW.iload_n (dx_Lab_behindDefinition 4 (e := (6, .iload_n 2, 1)) rfl) rfl rfl (pc' := 7) rfl ?_
  refine jW.iconst (v := -1) (dx_Lab_behindDefinition 5 (e := (7, .iconst (-1), 1)) rfl) (by decide) (pc' := 8) rfl ?_
  refine jW.icmp_eq (dx_Lab_behindDefinition 6 (e := (8, .if_icmp .eq 16, 3)) rfl) 24 (by decide) (pc' := 11) rfl (fun c => ?_) (fun c => ?_)
  · replace h := h.1 c
    exact t_Lab_behindDefinition_24 F hV h
  · replace h := h.2 c
    refine jW.aload_n (dx_Lab_behindDefinition 7 (e := (11, .aload_n 0, 1)) rfl) rfl rfl (pc' := 12) rfl ?_
    refine jW.cg (κ := 4) (k := 0) F hV.s4 f_Lab_behindDefinition_12 (by decide) rfl (pc' := 15) rfl ?_
    refine jW.iload_n (dx_Lab_behindDefinition 9 (e := (15, .iload_n 2, 1)) rfl) rfl rfl (pc' := 16) rfl ?_
    refine jW.callVe F (h (d + 1) _ hV) (dx_Lab_behindDefinition 10 (e := (16, .invokevirtual 43, 3)) rfl) can_Row_at jw_464 jw_439 (hV.clr (κ := 10) (by unfold isR; decide)) rfl jw_440 rfl rfl (Nat.le_of_ble_eq_true rfl) (pc' := 19) rfl (fun r σ hr => ?_)
    clear hV
    obtain ⟨_, hV, _, rfl, h⟩ := hr
    refine jW.bipush (v := 58) (dx_Lab_behindDefinition 11 (e := (19, .bipush 58, 2)) rfl) (by decide) (pc' := 21) rfl ?_
    refine jW.icmp_eq (dx_Lab_behindDefinition 12 (e := (21, .if_icmp .eq 5, 3)) rfl) 26 (by decide) (pc' := 24) rfl (fun c => ?_) (fun c => ?_)
    · replace h := h.1 c
      refine jW.aload_n (dx_Lab_behindDefinition 15 (e := (26, .aload_n 0, 1)) rfl) rfl rfl (pc' := 27) rfl ?_
      refine jW.iload_n (dx_Lab_behindDefinition 16 (e := (27, .iload_n 2, 1)) rfl) rfl rfl (pc' := 28) rfl ?_
      refine jW.iconst (v := 1) (dx_Lab_behindDefinition 17 (e := (28, .iconst 1, 1)) rfl) (by decide) (pc' := 29) rfl ?_
      refine jW.iadd (dx_Lab_behindDefinition 18 (e := (29, .iadd, 1)) rfl) (pc' := 30) rfl ?_
      refine jW.callVe F (h (d + 0) _ hV) (dx_Lab_behindDefinition 19 (e := (30, .invokevirtual 144, 3)) rfl) can_Lab_behindGap jw_701 jw_703 hV.cl4 rfl sel_Lab_behindGap rfl rfl (Nat.le_of_ble_eq_true rfl) (pc' := 33) rfl (fun r σ hr => ?_)
      clear hV
      obtain ⟨_, hV, _, rfl, h⟩ := hr
      refine jW.istore_n (dx_Lab_behindDefinition 20 (e := (33, .istore_n 3, 1)) rfl) rfl (by decide) rfl (pc' := 34) rfl ?_
      refine jW.aload_n (dx_Lab_behindDefinition 21 (e := (34, .aload_n 0, 1)) rfl) rfl rfl (pc' := 35) rfl ?_
      refine jW.cg (κ := 4) (k := 0) F hV.s4 f_Lab_behindDefinition_35 (by decide) rfl (pc' := 38) rfl ?_
      refine jW.iload_n (dx_Lab_behindDefinition 23 (e := (38, .iload_n 3, 1)) rfl) rfl rfl (pc' := 39) rfl ?_
      refine jW.callVe F (h (d + 1) _ hV) (dx_Lab_behindDefinition 24 (e := (39, .invokevirtual 43, 3)) rfl) can_Row_at jw_464 jw_439 (hV.clr (κ := 10) (by unfold isR; decide)) rfl jw_440 rfl rfl (Nat.le_of_ble_eq_true rfl) (pc' := 42) rfl (fun r σ hr => ?_)
      clear hV
      obtain ⟨_, hV, _, rfl, h⟩ := hr
      refine jW.bipush (v := 60) (dx_Lab_behindDefinition 25 (e := (42, .bipush 60, 2)) rfl) (by decide) (pc' := 44) rfl ?_
      refine jW.icmp_ne (dx_Lab_behindDefinition 26 (e := (44, .if_icmp .ne 11, 3)) rfl) 55 (by decide) (pc' := 47) rfl (fun c => ?_) (fun c => ?_)
      · replace h := h.2 c
        refine jW.aload_n (dx_Lab_behindDefinition 31 (e := (55, .aload_n 0, 1)) rfl) rfl rfl (pc' := 56) rfl ?_
        refine jW.iload_n (dx_Lab_behindDefinition 32 (e := (56, .iload_n 3, 1)) rfl) rfl rfl (pc' := 57) rfl ?_
        refine jW.callVe F (h (d + 0) _ hV) (dx_Lab_behindDefinition 33 (e := (57, .invokevirtual 150, 3)) rfl) can_Lab_behindSigns jw_709 jw_711 hV.cl4 rfl sel_Lab_behindSigns rfl rfl (Nat.le_of_ble_eq_true rfl) (pc' := 60) rfl (fun r σ hr => ?_)
        clear hV
        obtain ⟨_, hV, _, rfl, h⟩ := hr
        exact t_Lab_behindDefinition_60 F hV h
      · replace h := h.1 c
        refine jW.aload_n (dx_Lab_behindDefinition 27 (e := (47, .aload_n 0, 1)) rfl) rfl rfl (pc' := 48) rfl ?_
        refine jW.iload_n (dx_Lab_behindDefinition 28 (e := (48, .iload_n 3, 1)) rfl) rfl rfl (pc' := 49) rfl ?_
        refine jW.callVe F (h (d + 0) _ hV) (dx_Lab_behindDefinition 29 (e := (49, .invokevirtual 147, 3)) rfl) can_Lab_behindAngles jw_705 jw_707 hV.cl4 rfl sel_Lab_behindAngles rfl rfl (Nat.le_of_ble_eq_true rfl) (pc' := 52) rfl (fun r σ hr => ?_)
        clear hV
        obtain ⟨_, hV, _, rfl, h⟩ := hr
        refine jW.goto (dx_Lab_behindDefinition 30 (e := (52, .goto 8, 3)) rfl) 60 (by decide) ?_
        exact t_Lab_behindDefinition_60 F hV h
    · replace h := h.2 c
      exact t_Lab_behindDefinition_24 F hV h
theorem g_Lab_behindDefinition {X : CX} {a0 : Array Value} (F : cF X a0) {x1 : Int32} {m : CS} {Φ : Option Value → CS → Prop} (he : w_Lab_behindDefinition_0 X x1 m Φ) : cE X 2 y_Lab_behindDefinition [.ref (adr X 4), .int x1] m Φ := by
  intro d σ hV
  refine jE.of (by decide) (by simp [Value.category]) (Nat.le_of_ble_eq_true rfl) rfl ?_
  exact t_Lab_behindDefinition_0 F hV he
def w_Lab_behindNumber_188 (X : CX) (x1 : Int32) (x2 : Int32) (x3 : Int32) (x4 : Int32) (x5 : Int32) (x6 : Int32) (x7 : Int32) (x8 : Int32) (m : CS) (Φ : Option Value → CS → Prop) : Prop := Φ (some (.int (-1))) m
theorem t_Lab_behindNumber_188 {X : CX} {a0 : Array Value} (F : cF X a0) {d : Nat} {x1 : Int32} {x2 : Int32} {x3 : Int32} {x4 : Int32} {x5 : Int32} {x6 : Int32} {x7 : Int32} {x8 : Int32} {o9 : Option Value} {m : CS} {σ : jS} {Φ : Option Value → CS → Prop} (hV : CV X m σ) (h : w_Lab_behindNumber_188 X x1 x2 x3 x4 x5 x6 x7 x8 m Φ) : jW X.1 X.2.1 jcl X.2.2.1 X.2.2.2.1 (d + 1) y_Lab_behindNumber 188 [some (.ref (adr X 4)), some (.int x1), some (.int x2), some (.int x3), some (.int x4), some (.int x5), some (.int x6), some (.int x7), some (.int x8), o9] [] σ (cP X Φ) := by
  unfold w_Lab_behindNumber_188 at h
  refine jW.iconst (v := -1) (dx_Lab_behindNumber 95 (e := (188, .iconst (-1), 1)) rfl) (by decide) (pc' := 189) rfl ?_
  exact jW.iret (dx_Lab_behindNumber 96 (e := (189, .ireturn, 1)) rfl) rfl ⟨_, hV, h⟩
def w_Lab_behindNumber_236 (X : CX) (x1 : Int32) (x2 : Int32) (x3 : Int32) (x4 : Int32) (x5 : Int32) (x6 : Int32) (x7 : Int32) (x8 : Int32) (x9 : Int32) (s1 : Int32) (m : CS) (Φ : Option Value → CS → Prop) : Prop := ∀ m1, m1 = cI m 49 (s1) → Φ (some (.int (x8 + 1))) m1
theorem t_Lab_behindNumber_236 {X : CX} {a0 : Array Value} (F : cF X a0) {d : Nat} {x1 : Int32} {x2 : Int32} {x3 : Int32} {x4 : Int32} {x5 : Int32} {x6 : Int32} {x7 : Int32} {x8 : Int32} {x9 : Int32} {s1 : Int32} {m : CS} {σ : jS} {Φ : Option Value → CS → Prop} (hV : CV X m σ) (h : w_Lab_behindNumber_236 X x1 x2 x3 x4 x5 x6 x7 x8 x9 s1 m Φ) : jW X.1 X.2.1 jcl X.2.2.1 X.2.2.2.1 (d + 1) y_Lab_behindNumber 236 [some (.ref (adr X 4)), some (.int x1), some (.int x2), some (.int x3), some (.int x4), some (.int x5), some (.int x6), some (.int x7), some (.int x8), some (.int x9)] [.int s1, .ref (adr X 4)] σ (cP X Φ) := by
  unfold w_Lab_behindNumber_236 at h
  refine jW.cp4 (k := 9) F hV f_Lab_behindNumber_236 (by decide) rfl rfl rfl (pc' := 239) rfl (fun σ hV => ?_)
  replace h := h _ rfl
  refine jW.iload (dx_Lab_behindNumber 119 (e := (239, .iload 8, 2)) rfl) rfl (pc' := 241) rfl ?_
  refine jW.iconst (v := 1) (dx_Lab_behindNumber 120 (e := (241, .iconst 1, 1)) rfl) (by decide) (pc' := 242) rfl ?_
  refine jW.iadd (dx_Lab_behindNumber 121 (e := (242, .iadd, 1)) rfl) (pc' := 243) rfl ?_
  exact jW.iret (dx_Lab_behindNumber 122 (e := (243, .ireturn, 1)) rfl) rfl ⟨_, hV, h⟩
def w_Lab_behindNumber_221 (X : CX) (x1 : Int32) (x2 : Int32) (x3 : Int32) (x4 : Int32) (x5 : Int32) (x6 : Int32) (x7 : Int32) (x8 : Int32) (s0 : Int32) (m : CS) (Φ : Option Value → CS → Prop) : Prop := ((s0 = 0 → w_Lab_behindNumber_236 X (x1) (x2) (x3) (x4) (x5) (x6) (x7) (x8) (s0) (65533) m Φ) ∧ (¬ s0 = 0 → w_Lab_behindNumber_236 X (x1) (x2) (x3) (x4) (x5) (x6) (x7) (x8) (s0) (x7) m Φ))
theorem t_Lab_behindNumber_221 {X : CX} {a0 : Array Value} (F : cF X a0) {d : Nat} {x1 : Int32} {x2 : Int32} {x3 : Int32} {x4 : Int32} {x5 : Int32} {x6 : Int32} {x7 : Int32} {x8 : Int32} {s0 : Int32} {o9 : Option Value} {m : CS} {σ : jS} {Φ : Option Value → CS → Prop} (hV : CV X m σ) (h : w_Lab_behindNumber_221 X x1 x2 x3 x4 x5 x6 x7 x8 s0 m Φ) : jW X.1 X.2.1 jcl X.2.2.1 X.2.2.2.1 (d + 1) y_Lab_behindNumber 221 [some (.ref (adr X 4)), some (.int x1), some (.int x2), some (.int x3), some (.int x4), some (.int x5), some (.int x6), some (.int x7), some (.int x8), o9] [.int s0] σ (cP X Φ) := by
  unfold w_Lab_behindNumber_221 at h
  refine jW.istore (dx_Lab_behindNumber 111 (e := (221, .istore 9, 2)) rfl) (by decide) rfl (pc' := 223) rfl ?_
  refine jW.aload_n (dx_Lab_behindNumber 112 (e := (223, .aload_n 0, 1)) rfl) rfl rfl (pc' := 224) rfl ?_
  refine jW.iload (dx_Lab_behindNumber 113 (e := (224, .iload 9, 2)) rfl) rfl (pc' := 226) rfl ?_
  refine jW.if_eq (dx_Lab_behindNumber 114 (e := (226, .ifCond .eq 8, 3)) rfl) 234 (by decide) (pc' := 229) rfl (fun c => ?_) (fun c => ?_)
  · replace h := h.1 c
    refine jW.ldc (v := 65533) F (dx_Lab_behindNumber 117 (e := (234, .ldc 125, 2)) rfl) jw_742 (Or.inl rfl) (pc' := 236) rfl ?_
    exact t_Lab_behindNumber_236 F hV h
  · replace h := h.2 c
    refine jW.iload (dx_Lab_behindNumber 115 (e := (229, .iload 7, 2)) rfl) rfl (pc' := 231) rfl ?_
    refine jW.goto (dx_Lab_behindNumber 116 (e := (231, .goto 5, 3)) rfl) 236 (by decide) ?_
    exact t_Lab_behindNumber_236 F hV h
def w_Lab_behindNumber_220 (X : CX) (x1 : Int32) (x2 : Int32) (x3 : Int32) (x4 : Int32) (x5 : Int32) (x6 : Int32) (x7 : Int32) (x8 : Int32) (m : CS) (Φ : Option Value → CS → Prop) : Prop := w_Lab_behindNumber_221 X (x1) (x2) (x3) (x4) (x5) (x6) (x7) (x8) (0) m Φ
theorem t_Lab_behindNumber_220 {X : CX} {a0 : Array Value} (F : cF X a0) {d : Nat} {x1 : Int32} {x2 : Int32} {x3 : Int32} {x4 : Int32} {x5 : Int32} {x6 : Int32} {x7 : Int32} {x8 : Int32} {o9 : Option Value} {m : CS} {σ : jS} {Φ : Option Value → CS → Prop} (hV : CV X m σ) (h : w_Lab_behindNumber_220 X x1 x2 x3 x4 x5 x6 x7 x8 m Φ) : jW X.1 X.2.1 jcl X.2.2.1 X.2.2.2.1 (d + 1) y_Lab_behindNumber 220 [some (.ref (adr X 4)), some (.int x1), some (.int x2), some (.int x3), some (.int x4), some (.int x5), some (.int x6), some (.int x7), some (.int x8), o9] [] σ (cP X Φ) := by
  unfold w_Lab_behindNumber_220 at h
  refine jW.iconst (v := 0) (dx_Lab_behindNumber 110 (e := (220, .iconst 0, 1)) rfl) (by decide) (pc' := 221) rfl ?_
  exact t_Lab_behindNumber_221 F hV h
def w_Lab_behindNumber_216 (X : CX) (x1 : Int32) (x2 : Int32) (x3 : Int32) (x4 : Int32) (x5 : Int32) (x6 : Int32) (x7 : Int32) (x8 : Int32) (m : CS) (Φ : Option Value → CS → Prop) : Prop := w_Lab_behindNumber_221 X (x1) (x2) (x3) (x4) (x5) (x6) (x7) (x8) (1) m Φ
theorem t_Lab_behindNumber_216 {X : CX} {a0 : Array Value} (F : cF X a0) {d : Nat} {x1 : Int32} {x2 : Int32} {x3 : Int32} {x4 : Int32} {x5 : Int32} {x6 : Int32} {x7 : Int32} {x8 : Int32} {o9 : Option Value} {m : CS} {σ : jS} {Φ : Option Value → CS → Prop} (hV : CV X m σ) (h : w_Lab_behindNumber_216 X x1 x2 x3 x4 x5 x6 x7 x8 m Φ) : jW X.1 X.2.1 jcl X.2.2.1 X.2.2.2.1 (d + 1) y_Lab_behindNumber 216 [some (.ref (adr X 4)), some (.int x1), some (.int x2), some (.int x3), some (.int x4), some (.int x5), some (.int x6), some (.int x7), some (.int x8), o9] [] σ (cP X Φ) := by
  unfold w_Lab_behindNumber_216 at h
  refine jW.iconst (v := 1) (dx_Lab_behindNumber 108 (e := (216, .iconst 1, 1)) rfl) (by decide) (pc' := 217) rfl ?_
  refine jW.goto (dx_Lab_behindNumber 109 (e := (217, .goto 4, 3)) rfl) 221 (by decide) ?_
  exact t_Lab_behindNumber_221 F hV h
def w_Lab_behindNumber_146 (X : CX) (x1 : Int32) (x2 : Int32) (x3 : Int32) (x4 : Int32) (x5 : Int32) (x6 : Int32) (x7 : Int32) (x8 : Int32) (m : CS) (Φ : Option Value → CS → Prop) : Prop := cE X 0 y_Row_at [.ref (adr X 10), .int (x1 + 1)] m (ciP fun r1 m1 => ((r1 = 35 → ((x8 = x6 → w_Lab_behindNumber_188 X (x1) (x2) (x3) (x4) (x5) (x6) (x7) (x8) m1 Φ) ∧ (¬ x8 = x6 → ((x2 ≤ x8 → w_Lab_behindNumber_188 X (x1) (x2) (x3) (x4) (x5) (x6) (x7) (x8) m1 Φ) ∧ (¬ x2 ≤ x8 → cE X 0 y_Row_at [.ref (adr X 10), .int (x8)] m1 (ciP fun r2 m2 => ((r2 = 59 → ((x7 ≤ 0 → w_Lab_behindNumber_220 X (x1) (x2) (x3) (x4) (x5) (x6) (x7) (x8) m2 Φ) ∧ (¬ x7 ≤ 0 → ((1114111 < x7 → w_Lab_behindNumber_220 X (x1) (x2) (x3) (x4) (x5) (x6) (x7) (x8) m2 Φ) ∧ (¬ 1114111 < x7 → ((x7 < 55296 → w_Lab_behindNumber_216 X (x1) (x2) (x3) (x4) (x5) (x6) (x7) (x8) m2 Φ) ∧ (¬ x7 < 55296 → ((x7 ≤ 57343 → w_Lab_behindNumber_220 X (x1) (x2) (x3) (x4) (x5) (x6) (x7) (x8) m2 Φ) ∧ (¬ x7 ≤ 57343 → w_Lab_behindNumber_216 X (x1) (x2) (x3) (x4) (x5) (x6) (x7) (x8) m2 Φ))))))))) ∧ (¬ r2 = 59 → w_Lab_behindNumber_188 X (x1) (x2) (x3) (x4) (x5) (x6) (x7) (x8) m2 Φ)))))))) ∧ (¬ r1 = 35 → w_Lab_behindNumber_188 X (x1) (x2) (x3) (x4) (x5) (x6) (x7) (x8) m1 Φ)))
theorem t_Lab_behindNumber_146 {X : CX} {a0 : Array Value} (F : cF X a0) {d : Nat} {x1 : Int32} {x2 : Int32} {x3 : Int32} {x4 : Int32} {x5 : Int32} {x6 : Int32} {x7 : Int32} {x8 : Int32} {o9 : Option Value} {m : CS} {σ : jS} {Φ : Option Value → CS → Prop} (hV : CV X m σ) (h : w_Lab_behindNumber_146 X x1 x2 x3 x4 x5 x6 x7 x8 m Φ) : jW X.1 X.2.1 jcl X.2.2.1 X.2.2.2.1 (d + 1) y_Lab_behindNumber 146 [some (.ref (adr X 4)), some (.int x1), some (.int x2), some (.int x3), some (.int x4), some (.int x5), some (.int x6), some (.int x7), some (.int x8), o9] [] σ (cP X Φ) := by
  unfold w_Lab_behindNumber_146 at h
  refine jW.aload_n (dx_Lab_behindNumber 75 (e := (146, .aload_n 0, 1)) rfl) rfl rfl (pc' := 147) rfl ?_
  refine jW.cg (κ := 4) (k := 0) F hV.s4 f_Lab_behindNumber_147 (by decide) rfl (pc' := 150) rfl ?_
  refine jW.iload_n (dx_Lab_behindNumber 77 (e := (150, .iload_n 1, 1)) rfl) rfl rfl (pc' := 151) rfl ?_
  refine jW.iconst (v := 1) (dx_Lab_behindNumber 78 (e := (151, .iconst 1, 1)) rfl) (by decide) (pc' := 152) rfl ?_
  refine jW.iadd (dx_Lab_behindNumber 79 (e := (152, .iadd, 1)) rfl) (pc' := 153) rfl ?_
  refine jW.callVe F (h (d + 0) _ hV) (dx_Lab_behindNumber 80 (e := (153, .invokevirtual 43, 3)) rfl) can_Row_at jw_464 jw_439 (hV.clr (κ := 10) (by unfold isR; decide)) rfl jw_440 rfl rfl (Nat.le_of_ble_eq_true rfl) (pc' := 156) rfl (fun r σ hr => ?_)
  clear hV
  obtain ⟨_, hV, _, rfl, h⟩ := hr
  refine jW.bipush (v := 35) (dx_Lab_behindNumber 81 (e := (156, .bipush 35, 2)) rfl) (by decide) (pc' := 158) rfl ?_
  refine jW.icmp_ne (dx_Lab_behindNumber 82 (e := (158, .if_icmp .ne 30, 3)) rfl) 188 (by decide) (pc' := 161) rfl (fun c => ?_) (fun c => ?_)
  · replace h := h.2 c
    exact t_Lab_behindNumber_188 F hV h
  · replace h := h.1 c
    refine jW.iload (dx_Lab_behindNumber 83 (e := (161, .iload 8, 2)) rfl) rfl (pc' := 163) rfl ?_
    refine jW.iload (dx_Lab_behindNumber 84 (e := (163, .iload 6, 2)) rfl) rfl (pc' := 165) rfl ?_
    refine jW.icmp_eq (dx_Lab_behindNumber 85 (e := (165, .if_icmp .eq 23, 3)) rfl) 188 (by decide) (pc' := 168) rfl (fun c => ?_) (fun c => ?_)
    · replace h := h.1 c
      exact t_Lab_behindNumber_188 F hV h
    · replace h := h.2 c
      refine jW.iload (dx_Lab_behindNumber 86 (e := (168, .iload 8, 2)) rfl) rfl (pc' := 170) rfl ?_
      refine jW.iload_n (dx_Lab_behindNumber 87 (e := (170, .iload_n 2, 1)) rfl) rfl rfl (pc' := 171) rfl ?_
      refine jW.icmp_ge (dx_Lab_behindNumber 88 (e := (171, .if_icmp .ge 17, 3)) rfl) 188 (by decide) (pc' := 174) rfl (fun c => ?_) (fun c => ?_)
      · replace h := h.1 c
        exact t_Lab_behindNumber_188 F hV h
      · replace h := h.2 c
        refine jW.aload_n (dx_Lab_behindNumber 89 (e := (174, .aload_n 0, 1)) rfl) rfl rfl (pc' := 175) rfl ?_
        refine jW.cg (κ := 4) (k := 0) F hV.s4 f_Lab_behindNumber_175 (by decide) rfl (pc' := 178) rfl ?_
        refine jW.iload (dx_Lab_behindNumber 91 (e := (178, .iload 8, 2)) rfl) rfl (pc' := 180) rfl ?_
        refine jW.callVe F (h (d + 0) _ hV) (dx_Lab_behindNumber 92 (e := (180, .invokevirtual 43, 3)) rfl) can_Row_at jw_464 jw_439 (hV.clr (κ := 10) (by unfold isR; decide)) rfl jw_440 rfl rfl (Nat.le_of_ble_eq_true rfl) (pc' := 183) rfl (fun r σ hr => ?_)
        clear hV
        obtain ⟨_, hV, _, rfl, h⟩ := hr
        refine jW.bipush (v := 59) (dx_Lab_behindNumber 93 (e := (183, .bipush 59, 2)) rfl) (by decide) (pc' := 185) rfl ?_
        refine jW.icmp_eq (dx_Lab_behindNumber 94 (e := (185, .if_icmp .eq 5, 3)) rfl) 190 (by decide) (pc' := 188) rfl (fun c => ?_) (fun c => ?_)
        · replace h := h.1 c
          refine jW.iload (dx_Lab_behindNumber 97 (e := (190, .iload 7, 2)) rfl) rfl (pc' := 192) rfl ?_
          refine jW.if_le (dx_Lab_behindNumber 98 (e := (192, .ifCond .le 28, 3)) rfl) 220 (by decide) (pc' := 195) rfl (fun c => ?_) (fun c => ?_)
          · replace h := h.1 c
            exact t_Lab_behindNumber_220 F hV h
          · replace h := h.2 c
            refine jW.iload (dx_Lab_behindNumber 99 (e := (195, .iload 7, 2)) rfl) rfl (pc' := 197) rfl ?_
            refine jW.ldc (v := 1114111) F (dx_Lab_behindNumber 100 (e := (197, .ldc 122, 2)) rfl) jw_739 (Or.inl rfl) (pc' := 199) rfl ?_
            refine jW.icmp_gt (dx_Lab_behindNumber 101 (e := (199, .if_icmp .gt 21, 3)) rfl) 220 (by decide) (pc' := 202) rfl (fun c => ?_) (fun c => ?_)
            · replace h := h.1 c
              exact t_Lab_behindNumber_220 F hV h
            · replace h := h.2 c
              refine jW.iload (dx_Lab_behindNumber 102 (e := (202, .iload 7, 2)) rfl) rfl (pc' := 204) rfl ?_
              refine jW.ldc (v := 55296) F (dx_Lab_behindNumber 103 (e := (204, .ldc 123, 2)) rfl) jw_740 (Or.inl rfl) (pc' := 206) rfl ?_
              refine jW.icmp_lt (dx_Lab_behindNumber 104 (e := (206, .if_icmp .lt 10, 3)) rfl) 216 (by decide) (pc' := 209) rfl (fun c => ?_) (fun c => ?_)
              · replace h := h.1 c
                exact t_Lab_behindNumber_216 F hV h
              · replace h := h.2 c
                refine jW.iload (dx_Lab_behindNumber 105 (e := (209, .iload 7, 2)) rfl) rfl (pc' := 211) rfl ?_
                refine jW.ldc (v := 57343) F (dx_Lab_behindNumber 106 (e := (211, .ldc 124, 2)) rfl) jw_741 (Or.inl rfl) (pc' := 213) rfl ?_
                refine jW.icmp_le (dx_Lab_behindNumber 107 (e := (213, .if_icmp .le 7, 3)) rfl) 220 (by decide) (pc' := 216) rfl (fun c => ?_) (fun c => ?_)
                · replace h := h.1 c
                  exact t_Lab_behindNumber_220 F hV h
                · replace h := h.2 c
                  exact t_Lab_behindNumber_216 F hV h
        · replace h := h.2 c
          exact t_Lab_behindNumber_188 F hV h
def w_Lab_behindNumber_84 (X : CX) (x1 : Int32) (x2 : Int32) (x3 : Int32) (x4 : Int32) (x5 : Int32) (x6 : Int32) (x7 : Int32) (x8 : Int32) (m : CS) (Φ : Option Value → CS → Prop) (K84 : Int32 → Int32 → Int32 → Int32 → Int32 → Int32 → Int32 → Int32 → CS → Prop) : Prop := ((x2 ≤ x8 → w_Lab_behindNumber_146 X (x1) (x2) (x3) (x4) (x5) (x6) (x7) (x8) m Φ) ∧ (¬ x2 ≤ x8 → ((x5 ≤ x8 - x6 → w_Lab_behindNumber_146 X (x1) (x2) (x3) (x4) (x5) (x6) (x7) (x8) m Φ) ∧ (¬ x5 ≤ x8 - x6 → cE X 0 y_Row_at [.ref (adr X 10), .int (x8)] m (ciP fun r1 m1 => cE X 0 y_Lab_digit [.int (r1), .int (x4)] m1 (ciP fun r2 m2 => ((r2 = -1 → w_Lab_behindNumber_146 X (x1) (x2) (x3) (x4) (x5) (x6) (x7) (x8) m2 Φ) ∧ (¬ r2 = -1 → cE X 0 y_Row_at [.ref (adr X 10), .int (x8)] m2 (ciP fun r3 m3 => cE X 0 y_Lab_digit [.int (r3), .int (x4)] m3 (ciP fun r4 m4 => K84 (x1) (x2) (x3) (x4) (x5) (x6) ((x4 * x7) + r4) (x8 + 1) m4))))))))))
theorem t_Lab_behindNumber_84 {X : CX} {a0 : Array Value} (F : cF X a0) {d : Nat} {x1 : Int32} {x2 : Int32} {x3 : Int32} {x4 : Int32} {x5 : Int32} {x6 : Int32} {x7 : Int32} {x8 : Int32} {o9 : Option Value} {m : CS} {σ : jS} {Φ : Option Value → CS → Prop} {K84 : Int32 → Int32 → Int32 → Int32 → Int32 → Int32 → Int32 → Int32 → CS → Prop} (hV : CV X m σ) (h : w_Lab_behindNumber_84 X x1 x2 x3 x4 x5 x6 x7 x8 m Φ K84) (hK84 : ∀ (x1 : Int32) (x2 : Int32) (x3 : Int32) (x4 : Int32) (x5 : Int32) (x6 : Int32) (x7 : Int32) (x8 : Int32) (o9 : Option Value) (m : CS) (σ : jS), CV X m σ → K84 x1 x2 x3 x4 x5 x6 x7 x8 m → jW X.1 X.2.1 jcl X.2.2.1 X.2.2.2.1 (d + 1) y_Lab_behindNumber 84 [some (.ref (adr X 4)), some (.int x1), some (.int x2), some (.int x3), some (.int x4), some (.int x5), some (.int x6), some (.int x7), some (.int x8), o9] [] σ (cP X Φ)) : jW X.1 X.2.1 jcl X.2.2.1 X.2.2.2.1 (d + 1) y_Lab_behindNumber 84 [some (.ref (adr X 4)), some (.int x1), some (.int x2), some (.int x3), some (.int x4), some (.int x5), some (.int x6), some (.int x7), some (.int x8), o9] [] σ (cP X Φ) := by
  unfold w_Lab_behindNumber_84 at h
  refine jW.iload (dx_Lab_behindNumber 46 (e := (84, .iload 8, 2)) rfl) rfl (pc' := 86) rfl ?_
  refine jW.iload_n (dx_Lab_behindNumber 47 (e := (86, .iload_n 2, 1)) rfl) rfl rfl (pc' := 87) rfl ?_
  refine jW.icmp_ge (dx_Lab_behindNumber 48 (e := (87, .if_icmp .ge 59, 3)) rfl) 146 (by decide) (pc' := 90) rfl (fun c => ?_) (fun c => ?_)
  · replace h := h.1 c
    exact t_Lab_behindNumber_146 F hV h
  · replace h := h.2 c
    refine jW.iload (dx_Lab_behindNumber 49 (e := (90, .iload 8, 2)) rfl) rfl (pc' := 92) rfl ?_
    refine jW.iload (dx_Lab_behindNumber 50 (e := (92, .iload 6, 2)) rfl) rfl (pc' := 94) rfl ?_
    refine jW.isub (dx_Lab_behindNumber 51 (e := (94, .isub, 1)) rfl) (pc' := 95) rfl ?_
    refine jW.iload (dx_Lab_behindNumber 52 (e := (95, .iload 5, 2)) rfl) rfl (pc' := 97) rfl ?_
    refine jW.icmp_ge (dx_Lab_behindNumber 53 (e := (97, .if_icmp .ge 49, 3)) rfl) 146 (by decide) (pc' := 100) rfl (fun c => ?_) (fun c => ?_)
    · replace h := h.1 c
      exact t_Lab_behindNumber_146 F hV h
    · replace h := h.2 c
      refine jW.aload_n (dx_Lab_behindNumber 54 (e := (100, .aload_n 0, 1)) rfl) rfl rfl (pc' := 101) rfl ?_
      refine jW.cg (κ := 4) (k := 0) F hV.s4 f_Lab_behindNumber_101 (by decide) rfl (pc' := 104) rfl ?_
      refine jW.iload (dx_Lab_behindNumber 56 (e := (104, .iload 8, 2)) rfl) rfl (pc' := 106) rfl ?_
      refine jW.callVe F (h (d + 0) _ hV) (dx_Lab_behindNumber 57 (e := (106, .invokevirtual 43, 3)) rfl) can_Row_at jw_464 jw_439 (hV.clr (κ := 10) (by unfold isR; decide)) rfl jw_440 rfl rfl (Nat.le_of_ble_eq_true rfl) (pc' := 109) rfl (fun r σ hr => ?_)
      clear hV
      obtain ⟨_, hV, _, rfl, h⟩ := hr
      refine jW.iload (dx_Lab_behindNumber 58 (e := (109, .iload 4, 2)) rfl) rfl (pc' := 111) rfl ?_
      refine jW.callS F (h (d + 0) _ hV) (dx_Lab_behindNumber 59 (e := (111, .invokestatic 119, 3)) rfl) can_Lab_digit jw_736 jw_737 rfl rfl (Nat.le_of_ble_eq_true rfl) (pc' := 114) rfl (fun r σ hr => ?_)
      clear hV
      obtain ⟨_, hV, _, rfl, h⟩ := hr
      refine jW.iconst (v := -1) (dx_Lab_behindNumber 60 (e := (114, .iconst (-1), 1)) rfl) (by decide) (pc' := 115) rfl ?_
      refine jW.icmp_eq (dx_Lab_behindNumber 61 (e := (115, .if_icmp .eq 31, 3)) rfl) 146 (by decide) (pc' := 118) rfl (fun c => ?_) (fun c => ?_)
      · replace h := h.1 c
        exact t_Lab_behindNumber_146 F hV h
      · replace h := h.2 c
        refine jW.iload (dx_Lab_behindNumber 62 (e := (118, .iload 4, 2)) rfl) rfl (pc' := 120) rfl ?_
        refine jW.iload (dx_Lab_behindNumber 63 (e := (120, .iload 7, 2)) rfl) rfl (pc' := 122) rfl ?_
        refine jW.imul (dx_Lab_behindNumber 64 (e := (122, .imul, 1)) rfl) (pc' := 123) rfl ?_
        refine jW.aload_n (dx_Lab_behindNumber 65 (e := (123, .aload_n 0, 1)) rfl) rfl rfl (pc' := 124) rfl ?_
        refine jW.cg (κ := 4) (k := 0) F hV.s4 f_Lab_behindNumber_124 (by decide) rfl (pc' := 127) rfl ?_
        refine jW.iload (dx_Lab_behindNumber 67 (e := (127, .iload 8, 2)) rfl) rfl (pc' := 129) rfl ?_
        refine jW.callVe F (h (d + 0) _ hV) (dx_Lab_behindNumber 68 (e := (129, .invokevirtual 43, 3)) rfl) can_Row_at jw_464 jw_439 (hV.clr (κ := 10) (by unfold isR; decide)) rfl jw_440 rfl rfl (Nat.le_of_ble_eq_true rfl) (pc' := 132) rfl (fun r σ hr => ?_)
        clear hV
        obtain ⟨_, hV, _, rfl, h⟩ := hr
        refine jW.iload (dx_Lab_behindNumber 69 (e := (132, .iload 4, 2)) rfl) rfl (pc' := 134) rfl ?_
        refine jW.callS F (h (d + 0) _ hV) (dx_Lab_behindNumber 70 (e := (134, .invokestatic 119, 3)) rfl) can_Lab_digit jw_736 jw_737 rfl rfl (Nat.le_of_ble_eq_true rfl) (pc' := 137) rfl (fun r σ hr => ?_)
        clear hV
        obtain ⟨_, hV, _, rfl, h⟩ := hr
        refine jW.iadd (dx_Lab_behindNumber 71 (e := (137, .iadd, 1)) rfl) (pc' := 138) rfl ?_
        refine jW.istore (dx_Lab_behindNumber 72 (e := (138, .istore 7, 2)) rfl) (by decide) rfl (pc' := 140) rfl ?_
        refine jW.iinc (v := _ + (1)) (dx_Lab_behindNumber 73 (e := (140, .iinc 8 1, 3)) rfl) rfl rfl (by decide) rfl (pc' := 143) rfl ?_
        refine jW.goto (dx_Lab_behindNumber 74 (e := (143, .goto (-59), 3)) rfl) 84 (by decide) ?_
        exact hK84 _ _ _ _ _ _ _ _ _ _ _ hV h
def w_Lab_behindNumber_75 (X : CX) (x1 : Int32) (x2 : Int32) (x3 : Int32) (x4 : Int32) (x5 : Int32) (s0 : Int32) (m : CS) (Φ : Option Value → CS → Prop) (K84 : Int32 → Int32 → Int32 → Int32 → Int32 → Int32 → Int32 → Int32 → CS → Prop) : Prop := K84 (x1) (x2) (x3) (x4) (x5) (s0) (0) (s0) m
theorem t_Lab_behindNumber_75 {X : CX} {a0 : Array Value} (F : cF X a0) {d : Nat} {x1 : Int32} {x2 : Int32} {x3 : Int32} {x4 : Int32} {x5 : Int32} {s0 : Int32} {o6 o7 o8 o9 : Option Value} {m : CS} {σ : jS} {Φ : Option Value → CS → Prop} {K84 : Int32 → Int32 → Int32 → Int32 → Int32 → Int32 → Int32 → Int32 → CS → Prop} (hV : CV X m σ) (h : w_Lab_behindNumber_75 X x1 x2 x3 x4 x5 s0 m Φ K84) (hK84 : ∀ (x1 : Int32) (x2 : Int32) (x3 : Int32) (x4 : Int32) (x5 : Int32) (x6 : Int32) (x7 : Int32) (x8 : Int32) (o9 : Option Value) (m : CS) (σ : jS), CV X m σ → K84 x1 x2 x3 x4 x5 x6 x7 x8 m → jW X.1 X.2.1 jcl X.2.2.1 X.2.2.2.1 (d + 1) y_Lab_behindNumber 84 [some (.ref (adr X 4)), some (.int x1), some (.int x2), some (.int x3), some (.int x4), some (.int x5), some (.int x6), some (.int x7), some (.int x8), o9] [] σ (cP X Φ)) : jW X.1 X.2.1 jcl X.2.2.1 X.2.2.2.1 (d + 1) y_Lab_behindNumber 75 [some (.ref (adr X 4)), some (.int x1), some (.int x2), some (.int x3), some (.int x4), some (.int x5), o6, o7, o8, o9] [.int s0] σ (cP X Φ) := by
  unfold w_Lab_behindNumber_75 at h
  refine jW.istore (dx_Lab_behindNumber 41 (e := (75, .istore 6, 2)) rfl) (by decide) rfl (pc' := 77) rfl ?_
  refine jW.iconst (v := 0) (dx_Lab_behindNumber 42 (e := (77, .iconst 0, 1)) rfl) (by decide) (pc' := 78) rfl ?_
  refine jW.istore (dx_Lab_behindNumber 43 (e := (78, .istore 7, 2)) rfl) (by decide) rfl (pc' := 80) rfl ?_
  refine jW.iload (dx_Lab_behindNumber 44 (e := (80, .iload 6, 2)) rfl) rfl (pc' := 82) rfl ?_
  refine jW.istore (dx_Lab_behindNumber 45 (e := (82, .istore 8, 2)) rfl) (by decide) rfl (pc' := 84) rfl ?_
  exact hK84 _ _ _ _ _ _ _ _ _ _ _ hV h
def w_Lab_behindNumber_60 (X : CX) (x1 : Int32) (x2 : Int32) (x3 : Int32) (x4 : Int32) (s0 : Int32) (m : CS) (Φ : Option Value → CS → Prop) (K84 : Int32 → Int32 → Int32 → Int32 → Int32 → Int32 → Int32 → Int32 → CS → Prop) : Prop := ((x3 = 0 → w_Lab_behindNumber_75 X (x1) (x2) (x3) (x4) (s0) (x1 + 2) m Φ K84) ∧ (¬ x3 = 0 → w_Lab_behindNumber_75 X (x1) (x2) (x3) (x4) (s0) (x1 + 3) m Φ K84))
theorem t_Lab_behindNumber_60 {X : CX} {a0 : Array Value} (F : cF X a0) {d : Nat} {x1 : Int32} {x2 : Int32} {x3 : Int32} {x4 : Int32} {s0 : Int32} {o5 o6 o7 o8 o9 : Option Value} {m : CS} {σ : jS} {Φ : Option Value → CS → Prop} {K84 : Int32 → Int32 → Int32 → Int32 → Int32 → Int32 → Int32 → Int32 → CS → Prop} (hV : CV X m σ) (h : w_Lab_behindNumber_60 X x1 x2 x3 x4 s0 m Φ K84) (hK84 : ∀ (x1 : Int32) (x2 : Int32) (x3 : Int32) (x4 : Int32) (x5 : Int32) (x6 : Int32) (x7 : Int32) (x8 : Int32) (o9 : Option Value) (m : CS) (σ : jS), CV X m σ → K84 x1 x2 x3 x4 x5 x6 x7 x8 m → jW X.1 X.2.1 jcl X.2.2.1 X.2.2.2.1 (d + 1) y_Lab_behindNumber 84 [some (.ref (adr X 4)), some (.int x1), some (.int x2), some (.int x3), some (.int x4), some (.int x5), some (.int x6), some (.int x7), some (.int x8), o9] [] σ (cP X Φ)) : jW X.1 X.2.1 jcl X.2.2.1 X.2.2.2.1 (d + 1) y_Lab_behindNumber 60 [some (.ref (adr X 4)), some (.int x1), some (.int x2), some (.int x3), some (.int x4), o5, o6, o7, o8, o9] [.int s0] σ (cP X Φ) := by
  unfold w_Lab_behindNumber_60 at h
  refine jW.istore (dx_Lab_behindNumber 31 (e := (60, .istore 5, 2)) rfl) (by decide) rfl (pc' := 62) rfl ?_
  refine jW.iload_n (dx_Lab_behindNumber 32 (e := (62, .iload_n 3, 1)) rfl) rfl rfl (pc' := 63) rfl ?_
  refine jW.if_eq (dx_Lab_behindNumber 33 (e := (63, .ifCond .eq 9, 3)) rfl) 72 (by decide) (pc' := 66) rfl (fun c => ?_) (fun c => ?_)
  · replace h := h.1 c
    refine jW.iload_n (dx_Lab_behindNumber 38 (e := (72, .iload_n 1, 1)) rfl) rfl rfl (pc' := 73) rfl ?_
    refine jW.iconst (v := 2) (dx_Lab_behindNumber 39 (e := (73, .iconst 2, 1)) rfl) (by decide) (pc' := 74) rfl ?_
    refine jW.iadd (dx_Lab_behindNumber 40 (e := (74, .iadd, 1)) rfl) (pc' := 75) rfl ?_
    exact t_Lab_behindNumber_75 F hV h hK84
  · replace h := h.2 c
    refine jW.iload_n (dx_Lab_behindNumber 34 (e := (66, .iload_n 1, 1)) rfl) rfl rfl (pc' := 67) rfl ?_
    refine jW.iconst (v := 3) (dx_Lab_behindNumber 35 (e := (67, .iconst 3, 1)) rfl) (by decide) (pc' := 68) rfl ?_
    refine jW.iadd (dx_Lab_behindNumber 36 (e := (68, .iadd, 1)) rfl) (pc' := 69) rfl ?_
    refine jW.goto (dx_Lab_behindNumber 37 (e := (69, .goto 6, 3)) rfl) 75 (by decide) ?_
    exact t_Lab_behindNumber_75 F hV h hK84
def w_Lab_behindNumber_47 (X : CX) (x1 : Int32) (x2 : Int32) (x3 : Int32) (s0 : Int32) (m : CS) (Φ : Option Value → CS → Prop) (K84 : Int32 → Int32 → Int32 → Int32 → Int32 → Int32 → Int32 → Int32 → CS → Prop) : Prop := ((x3 = 0 → w_Lab_behindNumber_60 X (x1) (x2) (x3) (s0) (7) m Φ K84) ∧ (¬ x3 = 0 → w_Lab_behindNumber_60 X (x1) (x2) (x3) (s0) (6) m Φ K84))
theorem t_Lab_behindNumber_47 {X : CX} {a0 : Array Value} (F : cF X a0) {d : Nat} {x1 : Int32} {x2 : Int32} {x3 : Int32} {s0 : Int32} {o4 o5 o6 o7 o8 o9 : Option Value} {m : CS} {σ : jS} {Φ : Option Value → CS → Prop} {K84 : Int32 → Int32 → Int32 → Int32 → Int32 → Int32 → Int32 → Int32 → CS → Prop} (hV : CV X m σ) (h : w_Lab_behindNumber_47 X x1 x2 x3 s0 m Φ K84) (hK84 : ∀ (x1 : Int32) (x2 : Int32) (x3 : Int32) (x4 : Int32) (x5 : Int32) (x6 : Int32) (x7 : Int32) (x8 : Int32) (o9 : Option Value) (m : CS) (σ : jS), CV X m σ → K84 x1 x2 x3 x4 x5 x6 x7 x8 m → jW X.1 X.2.1 jcl X.2.2.1 X.2.2.2.1 (d + 1) y_Lab_behindNumber 84 [some (.ref (adr X 4)), some (.int x1), some (.int x2), some (.int x3), some (.int x4), some (.int x5), some (.int x6), some (.int x7), some (.int x8), o9] [] σ (cP X Φ)) : jW X.1 X.2.1 jcl X.2.2.1 X.2.2.2.1 (d + 1) y_Lab_behindNumber 47 [some (.ref (adr X 4)), some (.int x1), some (.int x2), some (.int x3), o4, o5, o6, o7, o8, o9] [.int s0] σ (cP X Φ) := by
  unfold w_Lab_behindNumber_47 at h
  refine jW.istore (dx_Lab_behindNumber 25 (e := (47, .istore 4, 2)) rfl) (by decide) rfl (pc' := 49) rfl ?_
  refine jW.iload_n (dx_Lab_behindNumber 26 (e := (49, .iload_n 3, 1)) rfl) rfl rfl (pc' := 50) rfl ?_
  refine jW.if_eq (dx_Lab_behindNumber 27 (e := (50, .ifCond .eq 8, 3)) rfl) 58 (by decide) (pc' := 53) rfl (fun c => ?_) (fun c => ?_)
  · replace h := h.1 c
    refine jW.bipush (v := 7) (dx_Lab_behindNumber 30 (e := (58, .bipush 7, 2)) rfl) (by decide) (pc' := 60) rfl ?_
    exact t_Lab_behindNumber_60 F hV h hK84
  · replace h := h.2 c
    refine jW.bipush (v := 6) (dx_Lab_behindNumber 28 (e := (53, .bipush 6, 2)) rfl) (by decide) (pc' := 55) rfl ?_
    refine jW.goto (dx_Lab_behindNumber 29 (e := (55, .goto 5, 3)) rfl) 60 (by decide) ?_
    exact t_Lab_behindNumber_60 F hV h hK84
def w_Lab_behindNumber_35 (X : CX) (x1 : Int32) (x2 : Int32) (s0 : Int32) (m : CS) (Φ : Option Value → CS → Prop) (K84 : Int32 → Int32 → Int32 → Int32 → Int32 → Int32 → Int32 → Int32 → CS → Prop) : Prop := ((s0 = 0 → w_Lab_behindNumber_47 X (x1) (x2) (s0) (10) m Φ K84) ∧ (¬ s0 = 0 → w_Lab_behindNumber_47 X (x1) (x2) (s0) (16) m Φ K84))
theorem t_Lab_behindNumber_35 {X : CX} {a0 : Array Value} (F : cF X a0) {d : Nat} {x1 : Int32} {x2 : Int32} {s0 : Int32} {o3 o4 o5 o6 o7 o8 o9 : Option Value} {m : CS} {σ : jS} {Φ : Option Value → CS → Prop} {K84 : Int32 → Int32 → Int32 → Int32 → Int32 → Int32 → Int32 → Int32 → CS → Prop} (hV : CV X m σ) (h : w_Lab_behindNumber_35 X x1 x2 s0 m Φ K84) (hK84 : ∀ (x1 : Int32) (x2 : Int32) (x3 : Int32) (x4 : Int32) (x5 : Int32) (x6 : Int32) (x7 : Int32) (x8 : Int32) (o9 : Option Value) (m : CS) (σ : jS), CV X m σ → K84 x1 x2 x3 x4 x5 x6 x7 x8 m → jW X.1 X.2.1 jcl X.2.2.1 X.2.2.2.1 (d + 1) y_Lab_behindNumber 84 [some (.ref (adr X 4)), some (.int x1), some (.int x2), some (.int x3), some (.int x4), some (.int x5), some (.int x6), some (.int x7), some (.int x8), o9] [] σ (cP X Φ)) : jW X.1 X.2.1 jcl X.2.2.1 X.2.2.2.1 (d + 1) y_Lab_behindNumber 35 [some (.ref (adr X 4)), some (.int x1), some (.int x2), o3, o4, o5, o6, o7, o8, o9] [.int s0] σ (cP X Φ) := by
  unfold w_Lab_behindNumber_35 at h
  refine jW.istore_n (dx_Lab_behindNumber 19 (e := (35, .istore_n 3, 1)) rfl) rfl (by decide) rfl (pc' := 36) rfl ?_
  refine jW.iload_n (dx_Lab_behindNumber 20 (e := (36, .iload_n 3, 1)) rfl) rfl rfl (pc' := 37) rfl ?_
  refine jW.if_eq (dx_Lab_behindNumber 21 (e := (37, .ifCond .eq 8, 3)) rfl) 45 (by decide) (pc' := 40) rfl (fun c => ?_) (fun c => ?_)
  · replace h := h.1 c
    refine jW.bipush (v := 10) (dx_Lab_behindNumber 24 (e := (45, .bipush 10, 2)) rfl) (by decide) (pc' := 47) rfl ?_
    exact t_Lab_behindNumber_47 F hV h hK84
  · replace h := h.2 c
    refine jW.bipush (v := 16) (dx_Lab_behindNumber 22 (e := (40, .bipush 16, 2)) rfl) (by decide) (pc' := 42) rfl ?_
    refine jW.goto (dx_Lab_behindNumber 23 (e := (42, .goto 5, 3)) rfl) 47 (by decide) ?_
    exact t_Lab_behindNumber_47 F hV h hK84
def w_Lab_behindNumber_30 (X : CX) (x1 : Int32) (x2 : Int32) (m : CS) (Φ : Option Value → CS → Prop) (K84 : Int32 → Int32 → Int32 → Int32 → Int32 → Int32 → Int32 → Int32 → CS → Prop) : Prop := w_Lab_behindNumber_35 X (x1) (x2) (1) m Φ K84
theorem t_Lab_behindNumber_30 {X : CX} {a0 : Array Value} (F : cF X a0) {d : Nat} {x1 : Int32} {x2 : Int32} {o3 o4 o5 o6 o7 o8 o9 : Option Value} {m : CS} {σ : jS} {Φ : Option Value → CS → Prop} {K84 : Int32 → Int32 → Int32 → Int32 → Int32 → Int32 → Int32 → Int32 → CS → Prop} (hV : CV X m σ) (h : w_Lab_behindNumber_30 X x1 x2 m Φ K84) (hK84 : ∀ (x1 : Int32) (x2 : Int32) (x3 : Int32) (x4 : Int32) (x5 : Int32) (x6 : Int32) (x7 : Int32) (x8 : Int32) (o9 : Option Value) (m : CS) (σ : jS), CV X m σ → K84 x1 x2 x3 x4 x5 x6 x7 x8 m → jW X.1 X.2.1 jcl X.2.2.1 X.2.2.2.1 (d + 1) y_Lab_behindNumber 84 [some (.ref (adr X 4)), some (.int x1), some (.int x2), some (.int x3), some (.int x4), some (.int x5), some (.int x6), some (.int x7), some (.int x8), o9] [] σ (cP X Φ)) : jW X.1 X.2.1 jcl X.2.2.1 X.2.2.2.1 (d + 1) y_Lab_behindNumber 30 [some (.ref (adr X 4)), some (.int x1), some (.int x2), o3, o4, o5, o6, o7, o8, o9] [] σ (cP X Φ) := by
  unfold w_Lab_behindNumber_30 at h
  refine jW.iconst (v := 1) (dx_Lab_behindNumber 16 (e := (30, .iconst 1, 1)) rfl) (by decide) (pc' := 31) rfl ?_
  refine jW.goto (dx_Lab_behindNumber 17 (e := (31, .goto 4, 3)) rfl) 35 (by decide) ?_
  exact t_Lab_behindNumber_35 F hV h hK84
def w_Lab_behindNumber_0 (X : CX) (x1 : Int32) (x2 : Int32) (m : CS) (Φ : Option Value → CS → Prop) (K84 : Int32 → Int32 → Int32 → Int32 → Int32 → Int32 → Int32 → Int32 → CS → Prop) : Prop := cE X 0 y_Row_at [.ref (adr X 10), .int (x1 + 2)] m (ciP fun r1 m1 => ((r1 = 120 → w_Lab_behindNumber_30 X (x1) (x2) m1 Φ K84) ∧ (¬ r1 = 120 → cE X 0 y_Row_at [.ref (adr X 10), .int (x1 + 2)] m1 (ciP fun r2 m2 => ((r2 = 88 → w_Lab_behindNumber_30 X (x1) (x2) m2 Φ K84) ∧ (¬ r2 = 88 → w_Lab_behindNumber_35 X (x1) (x2) (0) m2 Φ K84))))))
theorem t_Lab_behindNumber_0 {X : CX} {a0 : Array Value} (F : cF X a0) {d : Nat} {x1 : Int32} {x2 : Int32} {o3 o4 o5 o6 o7 o8 o9 : Option Value} {m : CS} {σ : jS} {Φ : Option Value → CS → Prop} {K84 : Int32 → Int32 → Int32 → Int32 → Int32 → Int32 → Int32 → Int32 → CS → Prop} (hV : CV X m σ) (h : w_Lab_behindNumber_0 X x1 x2 m Φ K84) (hK84 : ∀ (x1 : Int32) (x2 : Int32) (x3 : Int32) (x4 : Int32) (x5 : Int32) (x6 : Int32) (x7 : Int32) (x8 : Int32) (o9 : Option Value) (m : CS) (σ : jS), CV X m σ → K84 x1 x2 x3 x4 x5 x6 x7 x8 m → jW X.1 X.2.1 jcl X.2.2.1 X.2.2.2.1 (d + 1) y_Lab_behindNumber 84 [some (.ref (adr X 4)), some (.int x1), some (.int x2), some (.int x3), some (.int x4), some (.int x5), some (.int x6), some (.int x7), some (.int x8), o9] [] σ (cP X Φ)) : jW X.1 X.2.1 jcl X.2.2.1 X.2.2.2.1 (d + 1) y_Lab_behindNumber 0 [some (.ref (adr X 4)), some (.int x1), some (.int x2), o3, o4, o5, o6, o7, o8, o9] [] σ (cP X Φ) := by
  unfold w_Lab_behindNumber_0 at h
  refine jW.aload_n (dx_Lab_behindNumber 0 (e := (0, .aload_n 0, 1)) rfl) rfl rfl (pc' := 1) rfl ?_
  refine jW.cg (κ := 4) (k := 0) F hV.s4 f_Lab_behindNumber_1 (by decide) rfl (pc' := 4) rfl ?_
  refine jW.iload_n (dx_Lab_behindNumber 2 (e := (4, .iload_n 1, 1)) rfl) rfl rfl (pc' := 5) rfl ?_
  refine jW.iconst (v := 2) (dx_Lab_behindNumber 3 (e := (5, .iconst 2, 1)) rfl) (by decide) (pc' := 6) rfl ?_
  refine jW.iadd (dx_Lab_behindNumber 4 (e := (6, .iadd, 1)) rfl) (pc' := 7) rfl ?_
  refine jW.callVe F (h (d + 0) _ hV) (dx_Lab_behindNumber 5 (e := (7, .invokevirtual 43, 3)) rfl) can_Row_at jw_464 jw_439 (hV.clr (κ := 10) (by unfold isR; decide)) rfl jw_440 rfl rfl (Nat.le_of_ble_eq_true rfl) (pc' := 10) rfl (fun r σ hr => ?_)
  clear hV
  obtain ⟨_, hV, _, rfl, h⟩ := hr
  refine jW.bipush (v := 120) (dx_Lab_behindNumber 6 (e := (10, .bipush 120, 2)) rfl) (by decide) (pc' := 12) rfl ?_
  refine jW.icmp_eq (dx_Lab_behindNumber 7 (e := (12, .if_icmp .eq 18, 3)) rfl) 30 (by decide) (pc' := 15) rfl (fun c => ?_) (fun c => ?_)
  · replace h := h.1 c
    exact t_Lab_behindNumber_30 F hV h hK84
  · replace h := h.2 c
    refine jW.aload_n (dx_Lab_behindNumber 8 (e := (15, .aload_n 0, 1)) rfl) rfl rfl (pc' := 16) rfl ?_
    refine jW.cg (κ := 4) (k := 0) F hV.s4 f_Lab_behindNumber_16 (by decide) rfl (pc' := 19) rfl ?_
    refine jW.iload_n (dx_Lab_behindNumber 10 (e := (19, .iload_n 1, 1)) rfl) rfl rfl (pc' := 20) rfl ?_
    refine jW.iconst (v := 2) (dx_Lab_behindNumber 11 (e := (20, .iconst 2, 1)) rfl) (by decide) (pc' := 21) rfl ?_
    refine jW.iadd (dx_Lab_behindNumber 12 (e := (21, .iadd, 1)) rfl) (pc' := 22) rfl ?_
    refine jW.callVe F (h (d + 0) _ hV) (dx_Lab_behindNumber 13 (e := (22, .invokevirtual 43, 3)) rfl) can_Row_at jw_464 jw_439 (hV.clr (κ := 10) (by unfold isR; decide)) rfl jw_440 rfl rfl (Nat.le_of_ble_eq_true rfl) (pc' := 25) rfl (fun r σ hr => ?_)
    clear hV
    obtain ⟨_, hV, _, rfl, h⟩ := hr
    refine jW.bipush (v := 88) (dx_Lab_behindNumber 14 (e := (25, .bipush 88, 2)) rfl) (by decide) (pc' := 27) rfl ?_
    refine jW.icmp_ne (dx_Lab_behindNumber 15 (e := (27, .if_icmp .ne 7, 3)) rfl) 34 (by decide) (pc' := 30) rfl (fun c => ?_) (fun c => ?_)
    · replace h := h.2 c
      refine jW.iconst (v := 0) (dx_Lab_behindNumber 18 (e := (34, .iconst 0, 1)) rfl) (by decide) (pc' := 35) rfl ?_
      exact t_Lab_behindNumber_35 F hV h hK84
    · replace h := h.1 c
      exact t_Lab_behindNumber_30 F hV h hK84
theorem g_Lab_behindNumber {X : CX} {a0 : Array Value} (F : cF X a0) {x1 : Int32} {x2 : Int32} {m : CS} {Φ : Option Value → CS → Prop} {I84 : Nat → Int32 → Int32 → Int32 → Int32 → Int32 → Int32 → Int32 → Int32 → CS → Prop} (he : w_Lab_behindNumber_0 X x1 x2 m Φ (fun x1 x2 x3 x4 x5 x6 x7 x8 m => ∃ j, I84 j x1 x2 x3 x4 x5 x6 x7 x8 m)) (h84 : ∀ (n : Nat) (x1 : Int32) (x2 : Int32) (x3 : Int32) (x4 : Int32) (x5 : Int32) (x6 : Int32) (x7 : Int32) (x8 : Int32) (m : CS), I84 n x1 x2 x3 x4 x5 x6 x7 x8 m → w_Lab_behindNumber_84 X x1 x2 x3 x4 x5 x6 x7 x8 m Φ (fun x1 x2 x3 x4 x5 x6 x7 x8 m => ∃ j, j < n ∧ I84 j x1 x2 x3 x4 x5 x6 x7 x8 m)) : cE X 1 y_Lab_behindNumber [.ref (adr X 4), .int x1, .int x2] m Φ := by
  intro d σ hV
  have hL84 : ∀ n, (∀ (x1 : Int32) (x2 : Int32) (x3 : Int32) (x4 : Int32) (x5 : Int32) (x6 : Int32) (x7 : Int32) (x8 : Int32) (o9 : Option Value) (m : CS) (σ : jS), CV X m σ → I84 n x1 x2 x3 x4 x5 x6 x7 x8 m → jW X.1 X.2.1 jcl X.2.2.1 X.2.2.2.1 (d + 1) y_Lab_behindNumber 84 [some (.ref (adr X 4)), some (.int x1), some (.int x2), some (.int x3), some (.int x4), some (.int x5), some (.int x6), some (.int x7), some (.int x8), o9] [] σ (cP X Φ)) := by
    intro n
    induction n using Nat.strongRecOn with
    | _ n ih =>
      exact fun x1 x2 x3 x4 x5 x6 x7 x8 o9 m σ hV hI => t_Lab_behindNumber_84 F hV (h84 n x1 x2 x3 x4 x5 x6 x7 x8 m hI) (fun x1 x2 x3 x4 x5 x6 x7 x8 o9 m σ hV ⟨j, hj, hI⟩ => (ih j hj) x1 x2 x3 x4 x5 x6 x7 x8 o9 m σ hV hI)
  refine jE.of (by decide) (by simp [Value.category]) (Nat.le_of_ble_eq_true rfl) rfl ?_
  exact t_Lab_behindNumber_0 F hV he (fun x1 x2 x3 x4 x5 x6 x7 x8 o9 m σ hV ⟨j, hI⟩ => (hL84 j) x1 x2 x3 x4 x5 x6 x7 x8 o9 m σ hV hI)
def w_Lab_addUnescaped_133 (X : CX) (x1 : Int32) (x2 : Int32) (x3 : Int32) (x4 : Int32) (x5 : Int32) (m : CS) (Φ : Option Value → CS → Prop) (K2 : Int32 → Int32 → Int32 → CS → Prop) : Prop := K2 (x1) (x2) (x3) m
theorem t_Lab_addUnescaped_133 {X : CX} {a0 : Array Value} (F : cF X a0) {d : Nat} {x1 : Int32} {x2 : Int32} {x3 : Int32} {x4 : Int32} {x5 : Int32} {m : CS} {σ : jS} {Φ : Option Value → CS → Prop} {K2 : Int32 → Int32 → Int32 → CS → Prop} (hV : CV X m σ) (h : w_Lab_addUnescaped_133 X x1 x2 x3 x4 x5 m Φ K2) (hK2 : ∀ (x1 : Int32) (x2 : Int32) (x3 : Int32) (o4 o5 : Option Value) (m : CS) (σ : jS), CV X m σ → K2 x1 x2 x3 m → jW X.1 X.2.1 jcl X.2.2.1 X.2.2.2.1 (d + 5) y_Lab_addUnescaped 2 [some (.ref (adr X 4)), some (.int x1), some (.int x2), some (.int x3), o4, o5] [] σ (cP X Φ)) : jW X.1 X.2.1 jcl X.2.2.1 X.2.2.2.1 (d + 5) y_Lab_addUnescaped 133 [some (.ref (adr X 4)), some (.int x1), some (.int x2), some (.int x3), some (.int x4), some (.int x5)] [] σ (cP X Φ) := by
  unfold w_Lab_addUnescaped_133 at h
  refine jW.goto (dx_Lab_addUnescaped 68 (e := (133, .goto (-131), 3)) rfl) 2 (by decide) ?_
  exact hK2 _ _ _ _ _ _ _ hV h
def w_Lab_addUnescaped_121 (X : CX) (x1 : Int32) (x2 : Int32) (x3 : Int32) (x4 : Int32) (x5 : Int32) (m : CS) (Φ : Option Value → CS → Prop) (K2 : Int32 → Int32 → Int32 → CS → Prop) : Prop := cE X 2 y_Row_add [.ref (adr X 12), .int (x4)] m (cvP fun m1 => w_Lab_addUnescaped_133 X (x1) (x2) (x3 + 1) (x4) (x5) m1 Φ K2)
theorem t_Lab_addUnescaped_121 {X : CX} {a0 : Array Value} (F : cF X a0) {d : Nat} {x1 : Int32} {x2 : Int32} {x3 : Int32} {x4 : Int32} {x5 : Int32} {m : CS} {σ : jS} {Φ : Option Value → CS → Prop} {K2 : Int32 → Int32 → Int32 → CS → Prop} (hV : CV X m σ) (h : w_Lab_addUnescaped_121 X x1 x2 x3 x4 x5 m Φ K2) (hK2 : ∀ (x1 : Int32) (x2 : Int32) (x3 : Int32) (o4 o5 : Option Value) (m : CS) (σ : jS), CV X m σ → K2 x1 x2 x3 m → jW X.1 X.2.1 jcl X.2.2.1 X.2.2.2.1 (d + 5) y_Lab_addUnescaped 2 [some (.ref (adr X 4)), some (.int x1), some (.int x2), some (.int x3), o4, o5] [] σ (cP X Φ)) : jW X.1 X.2.1 jcl X.2.2.1 X.2.2.2.1 (d + 5) y_Lab_addUnescaped 121 [some (.ref (adr X 4)), some (.int x1), some (.int x2), some (.int x3), some (.int x4), some (.int x5)] [] σ (cP X Φ) := by
  unfold w_Lab_addUnescaped_121 at h
  refine jW.aload_n (dx_Lab_addUnescaped 63 (e := (121, .aload_n 0, 1)) rfl) rfl rfl (pc' := 122) rfl ?_
  refine jW.cg (κ := 4) (k := 1) F hV.s4 f_Lab_addUnescaped_122 (by decide) rfl (pc' := 125) rfl ?_
  refine jW.iload (dx_Lab_addUnescaped 65 (e := (125, .iload 4, 2)) rfl) rfl (pc' := 127) rfl ?_
  refine jW.callVe F (h (d + 2) _ hV) (dx_Lab_addUnescaped 66 (e := (127, .invokevirtual 62, 3)) rfl) can_Row_add jw_493 jw_376 (hV.clr (κ := 12) (by unfold isR; decide)) rfl jw_377 rfl rfl (Nat.le_of_ble_eq_true rfl) (pc' := 130) rfl (fun r σ hr => ?_)
  clear hV
  obtain ⟨_, hV, rfl, h⟩ := hr
  refine jW.iinc (v := _ + (1)) (dx_Lab_addUnescaped 67 (e := (130, .iinc 3 1, 3)) rfl) rfl rfl (by decide) rfl (pc' := 133) rfl ?_
  exact t_Lab_addUnescaped_133 F hV h hK2
def w_Lab_addUnescaped_43 (X : CX) (x1 : Int32) (x2 : Int32) (x3 : Int32) (x4 : Int32) (s0 : Int32) (m : CS) (Φ : Option Value → CS → Prop) (K2 : Int32 → Int32 → Int32 → CS → Prop) : Prop := ((s0 ≤ x3 → ((x4 = 92 → ((x2 ≤ x3 + 1 → w_Lab_addUnescaped_121 X (x1) (x2) (x3) (x4) (s0) m Φ K2) ∧ (¬ x2 ≤ x3 + 1 → cE X 0 y_Row_at [.ref (adr X 10), .int (x3 + 1)] m (ciP fun r1 m1 => cE X 0 y_MB_isPunctuation [.int (r1)] m1 (ciP fun r2 m2 => ((r2 = 0 → w_Lab_addUnescaped_121 X (x1) (x2) (x3) (x4) (s0) m2 Φ K2) ∧ (¬ r2 = 0 → cE X 0 y_Row_at [.ref (adr X 10), .int (x3 + 1)] m2 (ciP fun r3 m3 => cE X 2 y_Row_add [.ref (adr X 12), .int (r3)] m3 (cvP fun m4 => w_Lab_addUnescaped_133 X (x1) (x2) (x3 + 2) (x4) (s0) m4 Φ K2))))))))) ∧ (¬ x4 = 92 → w_Lab_addUnescaped_121 X (x1) (x2) (x3) (x4) (s0) m Φ K2))) ∧ (¬ s0 ≤ x3 → cE X 2 y_Row_add [.ref (adr X 12), .int (vi m.1 49)] m (cvP fun m5 => w_Lab_addUnescaped_133 X (x1) (x2) (s0) (x4) (s0) m5 Φ K2)))
theorem t_Lab_addUnescaped_43 {X : CX} {a0 : Array Value} (F : cF X a0) {d : Nat} {x1 : Int32} {x2 : Int32} {x3 : Int32} {x4 : Int32} {s0 : Int32} {o5 : Option Value} {m : CS} {σ : jS} {Φ : Option Value → CS → Prop} {K2 : Int32 → Int32 → Int32 → CS → Prop} (hV : CV X m σ) (h : w_Lab_addUnescaped_43 X x1 x2 x3 x4 s0 m Φ K2) (hK2 : ∀ (x1 : Int32) (x2 : Int32) (x3 : Int32) (o4 o5 : Option Value) (m : CS) (σ : jS), CV X m σ → K2 x1 x2 x3 m → jW X.1 X.2.1 jcl X.2.2.1 X.2.2.2.1 (d + 5) y_Lab_addUnescaped 2 [some (.ref (adr X 4)), some (.int x1), some (.int x2), some (.int x3), o4, o5] [] σ (cP X Φ)) : jW X.1 X.2.1 jcl X.2.2.1 X.2.2.2.1 (d + 5) y_Lab_addUnescaped 43 [some (.ref (adr X 4)), some (.int x1), some (.int x2), some (.int x3), some (.int x4), o5] [.int s0] σ (cP X Φ) := by
  unfold w_Lab_addUnescaped_43 at h
  refine jW.istore (dx_Lab_addUnescaped 24 (e := (43, .istore 5, 2)) rfl) (by decide) rfl (pc' := 45) rfl ?_
  refine jW.iload (dx_Lab_addUnescaped 25 (e := (45, .iload 5, 2)) rfl) rfl (pc' := 47) rfl ?_
  refine jW.iload_n (dx_Lab_addUnescaped 26 (e := (47, .iload_n 3, 1)) rfl) rfl rfl (pc' := 48) rfl ?_
  refine jW.icmp_le (dx_Lab_addUnescaped 27 (e := (48, .if_icmp .le 20, 3)) rfl) 68 (by decide) (pc' := 51) rfl (fun c => ?_) (fun c => ?_)
  · replace h := h.1 c
    refine jW.iload (dx_Lab_addUnescaped 36 (e := (68, .iload 4, 2)) rfl) rfl (pc' := 70) rfl ?_
    refine jW.bipush (v := 92) (dx_Lab_addUnescaped 37 (e := (70, .bipush 92, 2)) rfl) (by decide) (pc' := 72) rfl ?_
    refine jW.icmp_ne (dx_Lab_addUnescaped 38 (e := (72, .if_icmp .ne 49, 3)) rfl) 121 (by decide) (pc' := 75) rfl (fun c => ?_) (fun c => ?_)
    · replace h := h.2 c
      exact t_Lab_addUnescaped_121 F hV h hK2
    · replace h := h.1 c
      refine jW.iload_n (dx_Lab_addUnescaped 39 (e := (75, .iload_n 3, 1)) rfl) rfl rfl (pc' := 76) rfl ?_
      refine jW.iconst (v := 1) (dx_Lab_addUnescaped 40 (e := (76, .iconst 1, 1)) rfl) (by decide) (pc' := 77) rfl ?_
      refine jW.iadd (dx_Lab_addUnescaped 41 (e := (77, .iadd, 1)) rfl) (pc' := 78) rfl ?_
      refine jW.iload_n (dx_Lab_addUnescaped 42 (e := (78, .iload_n 2, 1)) rfl) rfl rfl (pc' := 79) rfl ?_
      refine jW.icmp_ge (dx_Lab_addUnescaped 43 (e := (79, .if_icmp .ge 42, 3)) rfl) 121 (by decide) (pc' := 82) rfl (fun c => ?_) (fun c => ?_)
      · replace h := h.1 c
        exact t_Lab_addUnescaped_121 F hV h hK2
      · replace h := h.2 c
        refine jW.aload_n (dx_Lab_addUnescaped 44 (e := (82, .aload_n 0, 1)) rfl) rfl rfl (pc' := 83) rfl ?_
        refine jW.cg (κ := 4) (k := 0) F hV.s4 f_Lab_addUnescaped_83 (by decide) rfl (pc' := 86) rfl ?_
        refine jW.iload_n (dx_Lab_addUnescaped 46 (e := (86, .iload_n 3, 1)) rfl) rfl rfl (pc' := 87) rfl ?_
        refine jW.iconst (v := 1) (dx_Lab_addUnescaped 47 (e := (87, .iconst 1, 1)) rfl) (by decide) (pc' := 88) rfl ?_
        refine jW.iadd (dx_Lab_addUnescaped 48 (e := (88, .iadd, 1)) rfl) (pc' := 89) rfl ?_
        refine jW.callVe F (h (d + 4) _ hV) (dx_Lab_addUnescaped 49 (e := (89, .invokevirtual 43, 3)) rfl) can_Row_at jw_464 jw_439 (hV.clr (κ := 10) (by unfold isR; decide)) rfl jw_440 rfl rfl (Nat.le_of_ble_eq_true rfl) (pc' := 92) rfl (fun r σ hr => ?_)
        clear hV
        obtain ⟨_, hV, _, rfl, h⟩ := hr
        refine jW.callSN F (h (d + 4) _ hV) (dx_Lab_addUnescaped 50 (e := (92, .invokestatic 116, 3)) rfl) can_MB_isPunctuation jw_713 jw_714 rfl rfl (Nat.le_of_ble_eq_true rfl) (pc' := 95) rfl (fun r σ hr => ?_)
        clear hV
        obtain ⟨_, hV, _, rfl, h⟩ := hr
        refine jW.if_eq (dx_Lab_addUnescaped 51 (e := (95, .ifCond .eq 26, 3)) rfl) 121 (by decide) (pc' := 98) rfl (fun c => ?_) (fun c => ?_)
        · replace h := h.1 c
          exact t_Lab_addUnescaped_121 F hV h hK2
        · replace h := h.2 c
          refine jW.aload_n (dx_Lab_addUnescaped 52 (e := (98, .aload_n 0, 1)) rfl) rfl rfl (pc' := 99) rfl ?_
          refine jW.cg (κ := 4) (k := 1) F hV.s4 f_Lab_addUnescaped_99 (by decide) rfl (pc' := 102) rfl ?_
          refine jW.aload_n (dx_Lab_addUnescaped 54 (e := (102, .aload_n 0, 1)) rfl) rfl rfl (pc' := 103) rfl ?_
          refine jW.cg (κ := 4) (k := 0) F hV.s4 f_Lab_addUnescaped_103 (by decide) rfl (pc' := 106) rfl ?_
          refine jW.iload_n (dx_Lab_addUnescaped 56 (e := (106, .iload_n 3, 1)) rfl) rfl rfl (pc' := 107) rfl ?_
          refine jW.iconst (v := 1) (dx_Lab_addUnescaped 57 (e := (107, .iconst 1, 1)) rfl) (by decide) (pc' := 108) rfl ?_
          refine jW.iadd (dx_Lab_addUnescaped 58 (e := (108, .iadd, 1)) rfl) (pc' := 109) rfl ?_
          refine jW.callVe F (h (d + 4) _ hV) (dx_Lab_addUnescaped 59 (e := (109, .invokevirtual 43, 3)) rfl) can_Row_at jw_464 jw_439 (hV.clr (κ := 10) (by unfold isR; decide)) rfl jw_440 rfl rfl (Nat.le_of_ble_eq_true rfl) (pc' := 112) rfl (fun r σ hr => ?_)
          clear hV
          obtain ⟨_, hV, _, rfl, h⟩ := hr
          refine jW.callVe F (h (d + 2) _ hV) (dx_Lab_addUnescaped 60 (e := (112, .invokevirtual 62, 3)) rfl) can_Row_add jw_493 jw_376 (hV.clr (κ := 12) (by unfold isR; decide)) rfl jw_377 rfl rfl (Nat.le_of_ble_eq_true rfl) (pc' := 115) rfl (fun r σ hr => ?_)
          clear hV
          obtain ⟨_, hV, rfl, h⟩ := hr
          refine jW.iinc (v := _ + (2)) (dx_Lab_addUnescaped 61 (e := (115, .iinc 3 2, 3)) rfl) rfl rfl (by decide) rfl (pc' := 118) rfl ?_
          refine jW.goto (dx_Lab_addUnescaped 62 (e := (118, .goto 15, 3)) rfl) 133 (by decide) ?_
          exact t_Lab_addUnescaped_133 F hV h hK2
  · replace h := h.2 c
    refine jW.aload_n (dx_Lab_addUnescaped 28 (e := (51, .aload_n 0, 1)) rfl) rfl rfl (pc' := 52) rfl ?_
    refine jW.cg (κ := 4) (k := 1) F hV.s4 f_Lab_addUnescaped_52 (by decide) rfl (pc' := 55) rfl ?_
    refine jW.aload_n (dx_Lab_addUnescaped 30 (e := (55, .aload_n 0, 1)) rfl) rfl rfl (pc' := 56) rfl ?_
    refine jW.cg (κ := 4) (k := 9) F hV.s4 f_Lab_addUnescaped_56 (by decide) rfl (pc' := 59) rfl ?_
    refine jW.callVe F (h (d + 2) _ hV) (dx_Lab_addUnescaped 32 (e := (59, .invokevirtual 62, 3)) rfl) can_Row_add jw_493 jw_376 (hV.clr (κ := 12) (by unfold isR; decide)) rfl jw_377 rfl rfl (Nat.le_of_ble_eq_true rfl) (pc' := 62) rfl (fun r σ hr => ?_)
    clear hV
    obtain ⟨_, hV, rfl, h⟩ := hr
    refine jW.iload (dx_Lab_addUnescaped 33 (e := (62, .iload 5, 2)) rfl) rfl (pc' := 64) rfl ?_
    refine jW.istore_n (dx_Lab_addUnescaped 34 (e := (64, .istore_n 3, 1)) rfl) rfl (by decide) rfl (pc' := 65) rfl ?_
    refine jW.goto (dx_Lab_addUnescaped 35 (e := (65, .goto 68, 3)) rfl) 133 (by decide) ?_
    exact t_Lab_addUnescaped_133 F hV h hK2
def w_Lab_addUnescaped_2 (X : CX) (x1 : Int32) (x2 : Int32) (x3 : Int32) (m : CS) (Φ : Option Value → CS → Prop) (K2 : Int32 → Int32 → Int32 → CS → Prop) : Prop := ((x2 ≤ x3 → Φ none m) ∧ (¬ x2 ≤ x3 → cE X 0 y_Row_at [.ref (adr X 10), .int (x3)] m (ciP fun r1 m1 => ((r1 = 38 → cE X 1 y_Lab_behindNumber [.ref (adr X 4), .int (x3), .int (x2)] m1 (ciP fun r2 m2 => cE X 4 y_Lab_behindName [.ref (adr X 4), .int (x3), .int (x2)] m2 (ciP fun r3 m3 => cE X 0 y_Math_max [.int (r2), .int (r3)] m3 (ciP fun r4 m4 => w_Lab_addUnescaped_43 X (x1) (x2) (x3) (r1) (r4) m4 Φ K2)))) ∧ (¬ r1 = 38 → w_Lab_addUnescaped_43 X (x1) (x2) (x3) (r1) (-1) m1 Φ K2)))))
theorem t_Lab_addUnescaped_2 {X : CX} {a0 : Array Value} (F : cF X a0) {d : Nat} {x1 : Int32} {x2 : Int32} {x3 : Int32} {o4 o5 : Option Value} {m : CS} {σ : jS} {Φ : Option Value → CS → Prop} {K2 : Int32 → Int32 → Int32 → CS → Prop} (hV : CV X m σ) (h : w_Lab_addUnescaped_2 X x1 x2 x3 m Φ K2) (hK2 : ∀ (x1 : Int32) (x2 : Int32) (x3 : Int32) (o4 o5 : Option Value) (m : CS) (σ : jS), CV X m σ → K2 x1 x2 x3 m → jW X.1 X.2.1 jcl X.2.2.1 X.2.2.2.1 (d + 5) y_Lab_addUnescaped 2 [some (.ref (adr X 4)), some (.int x1), some (.int x2), some (.int x3), o4, o5] [] σ (cP X Φ)) : jW X.1 X.2.1 jcl X.2.2.1 X.2.2.2.1 (d + 5) y_Lab_addUnescaped 2 [some (.ref (adr X 4)), some (.int x1), some (.int x2), some (.int x3), o4, o5] [] σ (cP X Φ) := by
  unfold w_Lab_addUnescaped_2 at h
  refine jW.iload_n (dx_Lab_addUnescaped 2 (e := (2, .iload_n 3, 1)) rfl) rfl rfl (pc' := 3) rfl ?_
  refine jW.iload_n (dx_Lab_addUnescaped 3 (e := (3, .iload_n 2, 1)) rfl) rfl rfl (pc' := 4) rfl ?_
  refine jW.icmp_ge (dx_Lab_addUnescaped 4 (e := (4, .if_icmp .ge 132, 3)) rfl) 136 (by decide) (pc' := 7) rfl (fun c => ?_) (fun c => ?_)
  · replace h := h.1 c
    exact jW.vret (dx_Lab_addUnescaped 69 (e := (136, .return_, 1)) rfl) rfl ⟨_, hV, h⟩
  · replace h := h.2 c
    refine jW.aload_n (dx_Lab_addUnescaped 5 (e := (7, .aload_n 0, 1)) rfl) rfl rfl (pc' := 8) rfl ?_
    refine jW.cg (κ := 4) (k := 0) F hV.s4 f_Lab_addUnescaped_8 (by decide) rfl (pc' := 11) rfl ?_
    refine jW.iload_n (dx_Lab_addUnescaped 7 (e := (11, .iload_n 3, 1)) rfl) rfl rfl (pc' := 12) rfl ?_
    refine jW.callVe F (h (d + 4) _ hV) (dx_Lab_addUnescaped 8 (e := (12, .invokevirtual 43, 3)) rfl) can_Row_at jw_464 jw_439 (hV.clr (κ := 10) (by unfold isR; decide)) rfl jw_440 rfl rfl (Nat.le_of_ble_eq_true rfl) (pc' := 15) rfl (fun r σ hr => ?_)
    clear hV
    obtain ⟨_, hV, _, rfl, h⟩ := hr
    refine jW.istore (dx_Lab_addUnescaped 9 (e := (15, .istore 4, 2)) rfl) (by decide) rfl (pc' := 17) rfl ?_
    refine jW.iload (dx_Lab_addUnescaped 10 (e := (17, .iload 4, 2)) rfl) rfl (pc' := 19) rfl ?_
    refine jW.bipush (v := 38) (dx_Lab_addUnescaped 11 (e := (19, .bipush 38, 2)) rfl) (by decide) (pc' := 21) rfl ?_
    refine jW.icmp_ne (dx_Lab_addUnescaped 12 (e := (21, .if_icmp .ne 21, 3)) rfl) 42 (by decide) (pc' := 24) rfl (fun c => ?_) (fun c => ?_)
    · replace h := h.2 c
      refine jW.iconst (v := -1) (dx_Lab_addUnescaped 23 (e := (42, .iconst (-1), 1)) rfl) (by decide) (pc' := 43) rfl ?_
      exact t_Lab_addUnescaped_43 F hV h hK2
    · replace h := h.1 c
      refine jW.aload_n (dx_Lab_addUnescaped 13 (e := (24, .aload_n 0, 1)) rfl) rfl rfl (pc' := 25) rfl ?_
      refine jW.iload_n (dx_Lab_addUnescaped 14 (e := (25, .iload_n 3, 1)) rfl) rfl rfl (pc' := 26) rfl ?_
      refine jW.iload_n (dx_Lab_addUnescaped 15 (e := (26, .iload_n 2, 1)) rfl) rfl rfl (pc' := 27) rfl ?_
      refine jW.callVe F (h (d + 3) _ hV) (dx_Lab_addUnescaped 16 (e := (27, .invokevirtual 102, 3)) rfl) can_Lab_behindNumber jw_732 jw_734 hV.cl4 rfl sel_Lab_behindNumber rfl rfl (Nat.le_of_ble_eq_true rfl) (pc' := 30) rfl (fun r σ hr => ?_)
      clear hV
      obtain ⟨_, hV, _, rfl, h⟩ := hr
      refine jW.aload_n (dx_Lab_addUnescaped 17 (e := (30, .aload_n 0, 1)) rfl) rfl rfl (pc' := 31) rfl ?_
      refine jW.iload_n (dx_Lab_addUnescaped 18 (e := (31, .iload_n 3, 1)) rfl) rfl rfl (pc' := 32) rfl ?_
      refine jW.iload_n (dx_Lab_addUnescaped 19 (e := (32, .iload_n 2, 1)) rfl) rfl rfl (pc' := 33) rfl ?_
      refine jW.callVe F (h (d + 0) _ hV) (dx_Lab_addUnescaped 20 (e := (33, .invokevirtual 105, 3)) rfl) can_Lab_behindName jw_743 jw_745 hV.cl4 rfl sel_Lab_behindName rfl rfl (Nat.le_of_ble_eq_true rfl) (pc' := 36) rfl (fun r σ hr => ?_)
      clear hV
      obtain ⟨_, hV, _, rfl, h⟩ := hr
      refine jW.callS F (h (d + 4) _ hV) (dx_Lab_addUnescaped 21 (e := (36, .invokestatic 108, 3)) rfl) can_Math_max jw_796 jw_171 rfl rfl (Nat.le_of_ble_eq_true rfl) (pc' := 39) rfl (fun r σ hr => ?_)
      clear hV
      obtain ⟨_, hV, _, rfl, h⟩ := hr
      refine jW.goto (dx_Lab_addUnescaped 22 (e := (39, .goto 4, 3)) rfl) 43 (by decide) ?_
      exact t_Lab_addUnescaped_43 F hV h hK2
def w_Lab_addUnescaped_0 (X : CX) (x1 : Int32) (x2 : Int32) (m : CS) (Φ : Option Value → CS → Prop) (K2 : Int32 → Int32 → Int32 → CS → Prop) : Prop := K2 (x1) (x2) (x1) m
theorem t_Lab_addUnescaped_0 {X : CX} {a0 : Array Value} (F : cF X a0) {d : Nat} {x1 : Int32} {x2 : Int32} {o3 o4 o5 : Option Value} {m : CS} {σ : jS} {Φ : Option Value → CS → Prop} {K2 : Int32 → Int32 → Int32 → CS → Prop} (hV : CV X m σ) (h : w_Lab_addUnescaped_0 X x1 x2 m Φ K2) (hK2 : ∀ (x1 : Int32) (x2 : Int32) (x3 : Int32) (o4 o5 : Option Value) (m : CS) (σ : jS), CV X m σ → K2 x1 x2 x3 m → jW X.1 X.2.1 jcl X.2.2.1 X.2.2.2.1 (d + 5) y_Lab_addUnescaped 2 [some (.ref (adr X 4)), some (.int x1), some (.int x2), some (.int x3), o4, o5] [] σ (cP X Φ)) : jW X.1 X.2.1 jcl X.2.2.1 X.2.2.2.1 (d + 5) y_Lab_addUnescaped 0 [some (.ref (adr X 4)), some (.int x1), some (.int x2), o3, o4, o5] [] σ (cP X Φ) := by
  unfold w_Lab_addUnescaped_0 at h
  refine jW.iload_n (dx_Lab_addUnescaped 0 (e := (0, .iload_n 1, 1)) rfl) rfl rfl (pc' := 1) rfl ?_
  refine jW.istore_n (dx_Lab_addUnescaped 1 (e := (1, .istore_n 3, 1)) rfl) rfl (by decide) rfl (pc' := 2) rfl ?_
  exact hK2 _ _ _ _ _ _ _ hV h
theorem g_Lab_addUnescaped {X : CX} {a0 : Array Value} (F : cF X a0) {x1 : Int32} {x2 : Int32} {m : CS} {Φ : Option Value → CS → Prop} {I2 : Nat → Int32 → Int32 → Int32 → CS → Prop} (he : w_Lab_addUnescaped_0 X x1 x2 m Φ (fun x1 x2 x3 m => ∃ j, I2 j x1 x2 x3 m)) (h2 : ∀ (n : Nat) (x1 : Int32) (x2 : Int32) (x3 : Int32) (m : CS), I2 n x1 x2 x3 m → w_Lab_addUnescaped_2 X x1 x2 x3 m Φ (fun x1 x2 x3 m => ∃ j, j < n ∧ I2 j x1 x2 x3 m)) : cE X 5 y_Lab_addUnescaped [.ref (adr X 4), .int x1, .int x2] m Φ := by
  intro d σ hV
  have hL2 : ∀ n, (∀ (x1 : Int32) (x2 : Int32) (x3 : Int32) (o4 o5 : Option Value) (m : CS) (σ : jS), CV X m σ → I2 n x1 x2 x3 m → jW X.1 X.2.1 jcl X.2.2.1 X.2.2.2.1 (d + 5) y_Lab_addUnescaped 2 [some (.ref (adr X 4)), some (.int x1), some (.int x2), some (.int x3), o4, o5] [] σ (cP X Φ)) := by
    intro n
    induction n using Nat.strongRecOn with
    | _ n ih =>
      exact fun x1 x2 x3 o4 o5 m σ hV hI => t_Lab_addUnescaped_2 F hV (h2 n x1 x2 x3 m hI) (fun x1 x2 x3 o4 o5 m σ hV ⟨j, hj, hI⟩ => (ih j hj) x1 x2 x3 o4 o5 m σ hV hI)
  refine jE.of (by decide) (by simp [Value.category]) (Nat.le_of_ble_eq_true rfl) rfl ?_
  exact t_Lab_addUnescaped_0 F hV he (fun x1 x2 x3 o4 o5 m σ hV ⟨j, hI⟩ => (hL2 j) x1 x2 x3 o4 o5 m σ hV hI)
def w_Lab_keep_0 (X : CX) (m : CS) (Φ : Option Value → CS → Prop) : Prop := cE X 0 y_Row_size [.ref (adr X 12)] m (ciP fun r1 m1 => cE X 3 y_Lab_addNormal [.ref (adr X 4), .ref (adr X 10), .int (vi m1.1 43), .int (vi m1.1 44)] m1 (cvP fun m2 => cE X 2 y_Lab_withLabelAt [.ref (adr X 4), .int (r1)] m2 (ciP fun r3 m3 => ((r3 = -1 → cE X 0 y_Row_size [.ref (adr X 12)] m3 (ciP fun r4 m4 => cE X 2 y_Row_add [.ref (adr X 13), .int (r4)] m4 (cvP fun m5 => cE X 5 y_Lab_addUnescaped [.ref (adr X 4), .int (vi m5.1 45), .int (vi m5.1 46)] m5 (cvP fun m6 => cE X 0 y_Row_size [.ref (adr X 12)] m6 (ciP fun r7 m7 => cE X 2 y_Row_add [.ref (adr X 13), .int (r7)] m7 (cvP fun m8 => cE X 5 y_Lab_addUnescaped [.ref (adr X 4), .int (vi m8.1 47), .int (vi m8.1 48)] m8 (cvP fun m9 => cE X 0 y_Row_size [.ref (adr X 12)] m9 (ciP fun r10 m10 => cE X 2 y_Row_add [.ref (adr X 13), .int (r10)] m10 (cvP fun m11 => Φ none m11))))))))) ∧ (¬ r3 = -1 → cE X 0 y_Row_cut [.ref (adr X 12), .int (r1)] m3 (cvP fun m12 => Φ none m12))))))
theorem t_Lab_keep_0 {X : CX} {a0 : Array Value} (F : cF X a0) {d : Nat} {o1 : Option Value} {m : CS} {σ : jS} {Φ : Option Value → CS → Prop} (hV : CV X m σ) (h : w_Lab_keep_0 X m Φ) : jW X.1 X.2.1 jcl X.2.2.1 X.2.2.2.1 (d + 6) y_Lab_keep 0 [some (.ref (adr X 4)), o1] [] σ (cP X Φ) := by
  unfold w_Lab_keep_0 at h
  refine jW.aload_n (dx_Lab_keep 0 (e := (0, .aload_n 0, 1)) rfl) rfl rfl (pc' := 1) rfl ?_
  refine jW.cg (κ := 4) (k := 1) F hV.s4 f_Lab_keep_1 (by decide) rfl (pc' := 4) rfl ?_
  refine jW.callVe F (h (d + 5) _ hV) (dx_Lab_keep 2 (e := (4, .invokevirtual 28, 3)) rfl) can_Row_size jw_450 jw_372 (hV.clr (κ := 12) (by unfold isR; decide)) rfl jw_373 rfl rfl (Nat.le_of_ble_eq_true rfl) (pc' := 7) rfl (fun r σ hr => ?_)
  clear hV
  obtain ⟨_, hV, _, rfl, h⟩ := hr
  refine jW.istore_n (dx_Lab_keep 3 (e := (7, .istore_n 1, 1)) rfl) rfl (by decide) rfl (pc' := 8) rfl ?_
  refine jW.aload_n (dx_Lab_keep 4 (e := (8, .aload_n 0, 1)) rfl) rfl rfl (pc' := 9) rfl ?_
  refine jW.aload_n (dx_Lab_keep 5 (e := (9, .aload_n 0, 1)) rfl) rfl rfl (pc' := 10) rfl ?_
  refine jW.cg (κ := 4) (k := 0) F hV.s4 f_Lab_keep_10 (by decide) rfl (pc' := 13) rfl ?_
  refine jW.aload_n (dx_Lab_keep 7 (e := (13, .aload_n 0, 1)) rfl) rfl rfl (pc' := 14) rfl ?_
  refine jW.cg (κ := 4) (k := 3) F hV.s4 f_Lab_keep_14 (by decide) rfl (pc' := 17) rfl ?_
  refine jW.aload_n (dx_Lab_keep 9 (e := (17, .aload_n 0, 1)) rfl) rfl rfl (pc' := 18) rfl ?_
  refine jW.cg (κ := 4) (k := 4) F hV.s4 f_Lab_keep_18 (by decide) rfl (pc' := 21) rfl ?_
  refine jW.callVe F (h (d + 2) _ hV) (dx_Lab_keep 11 (e := (21, .invokevirtual 47, 3)) rfl) can_Lab_addNormal jw_486 jw_488 hV.cl4 rfl sel_Lab_addNormal rfl rfl (Nat.le_of_ble_eq_true rfl) (pc' := 24) rfl (fun r σ hr => ?_)
  clear hV
  obtain ⟨_, hV, rfl, h⟩ := hr
  refine jW.aload_n (dx_Lab_keep 12 (e := (24, .aload_n 0, 1)) rfl) rfl rfl (pc' := 25) rfl ?_
  refine jW.iload_n (dx_Lab_keep 13 (e := (25, .iload_n 1, 1)) rfl) rfl rfl (pc' := 26) rfl ?_
  refine jW.callVe F (h (d + 3) _ hV) (dx_Lab_keep 14 (e := (26, .invokevirtual 51, 3)) rfl) can_Lab_withLabelAt jw_494 jw_496 hV.cl4 rfl sel_Lab_withLabelAt rfl rfl (Nat.le_of_ble_eq_true rfl) (pc' := 29) rfl (fun r σ hr => ?_)
  clear hV
  obtain ⟨_, hV, _, rfl, h⟩ := hr
  refine jW.iconst (v := -1) (dx_Lab_keep 15 (e := (29, .iconst (-1), 1)) rfl) (by decide) (pc' := 30) rfl ?_
  refine jW.icmp_eq (dx_Lab_keep 16 (e := (30, .if_icmp .eq 12, 3)) rfl) 42 (by decide) (pc' := 33) rfl (fun c => ?_) (fun c => ?_)
  · replace h := h.1 c
    refine jW.aload_n (dx_Lab_keep 22 (e := (42, .aload_n 0, 1)) rfl) rfl rfl (pc' := 43) rfl ?_
    refine jW.cg (κ := 4) (k := 2) F hV.s4 f_Lab_keep_43 (by decide) rfl (pc' := 46) rfl ?_
    refine jW.aload_n (dx_Lab_keep 24 (e := (46, .aload_n 0, 1)) rfl) rfl rfl (pc' := 47) rfl ?_
    refine jW.cg (κ := 4) (k := 1) F hV.s4 f_Lab_keep_47 (by decide) rfl (pc' := 50) rfl ?_
    refine jW.callVe F (h (d + 5) _ hV) (dx_Lab_keep 26 (e := (50, .invokevirtual 28, 3)) rfl) can_Row_size jw_450 jw_372 (hV.clr (κ := 12) (by unfold isR; decide)) rfl jw_373 rfl rfl (Nat.le_of_ble_eq_true rfl) (pc' := 53) rfl (fun r σ hr => ?_)
    clear hV
    obtain ⟨_, hV, _, rfl, h⟩ := hr
    refine jW.callVe F (h (d + 3) _ hV) (dx_Lab_keep 27 (e := (53, .invokevirtual 62, 3)) rfl) can_Row_add jw_493 jw_376 (hV.clr (κ := 13) (by unfold isR; decide)) rfl jw_377 rfl rfl (Nat.le_of_ble_eq_true rfl) (pc' := 56) rfl (fun r σ hr => ?_)
    clear hV
    obtain ⟨_, hV, rfl, h⟩ := hr
    refine jW.aload_n (dx_Lab_keep 28 (e := (56, .aload_n 0, 1)) rfl) rfl rfl (pc' := 57) rfl ?_
    refine jW.aload_n (dx_Lab_keep 29 (e := (57, .aload_n 0, 1)) rfl) rfl rfl (pc' := 58) rfl ?_
    refine jW.cg (κ := 4) (k := 5) F hV.s4 f_Lab_keep_58 (by decide) rfl (pc' := 61) rfl ?_
    refine jW.aload_n (dx_Lab_keep 31 (e := (61, .aload_n 0, 1)) rfl) rfl rfl (pc' := 62) rfl ?_
    refine jW.cg (κ := 4) (k := 6) F hV.s4 f_Lab_keep_62 (by decide) rfl (pc' := 65) rfl ?_
    refine jW.callVe F (h (d + 0) _ hV) (dx_Lab_keep 33 (e := (65, .invokevirtual 92, 3)) rfl) can_Lab_addUnescaped jw_728 jw_730 hV.cl4 rfl sel_Lab_addUnescaped rfl rfl (Nat.le_of_ble_eq_true rfl) (pc' := 68) rfl (fun r σ hr => ?_)
    clear hV
    obtain ⟨_, hV, rfl, h⟩ := hr
    refine jW.aload_n (dx_Lab_keep 34 (e := (68, .aload_n 0, 1)) rfl) rfl rfl (pc' := 69) rfl ?_
    refine jW.cg (κ := 4) (k := 2) F hV.s4 f_Lab_keep_69 (by decide) rfl (pc' := 72) rfl ?_
    refine jW.aload_n (dx_Lab_keep 36 (e := (72, .aload_n 0, 1)) rfl) rfl rfl (pc' := 73) rfl ?_
    refine jW.cg (κ := 4) (k := 1) F hV.s4 f_Lab_keep_73 (by decide) rfl (pc' := 76) rfl ?_
    refine jW.callVe F (h (d + 5) _ hV) (dx_Lab_keep 38 (e := (76, .invokevirtual 28, 3)) rfl) can_Row_size jw_450 jw_372 (hV.clr (κ := 12) (by unfold isR; decide)) rfl jw_373 rfl rfl (Nat.le_of_ble_eq_true rfl) (pc' := 79) rfl (fun r σ hr => ?_)
    clear hV
    obtain ⟨_, hV, _, rfl, h⟩ := hr
    refine jW.callVe F (h (d + 3) _ hV) (dx_Lab_keep 39 (e := (79, .invokevirtual 62, 3)) rfl) can_Row_add jw_493 jw_376 (hV.clr (κ := 13) (by unfold isR; decide)) rfl jw_377 rfl rfl (Nat.le_of_ble_eq_true rfl) (pc' := 82) rfl (fun r σ hr => ?_)
    clear hV
    obtain ⟨_, hV, rfl, h⟩ := hr
    refine jW.aload_n (dx_Lab_keep 40 (e := (82, .aload_n 0, 1)) rfl) rfl rfl (pc' := 83) rfl ?_
    refine jW.aload_n (dx_Lab_keep 41 (e := (83, .aload_n 0, 1)) rfl) rfl rfl (pc' := 84) rfl ?_
    refine jW.cg (κ := 4) (k := 7) F hV.s4 f_Lab_keep_84 (by decide) rfl (pc' := 87) rfl ?_
    refine jW.aload_n (dx_Lab_keep 43 (e := (87, .aload_n 0, 1)) rfl) rfl rfl (pc' := 88) rfl ?_
    refine jW.cg (κ := 4) (k := 8) F hV.s4 f_Lab_keep_88 (by decide) rfl (pc' := 91) rfl ?_
    refine jW.callVe F (h (d + 0) _ hV) (dx_Lab_keep 45 (e := (91, .invokevirtual 92, 3)) rfl) can_Lab_addUnescaped jw_728 jw_730 hV.cl4 rfl sel_Lab_addUnescaped rfl rfl (Nat.le_of_ble_eq_true rfl) (pc' := 94) rfl (fun r σ hr => ?_)
    clear hV
    obtain ⟨_, hV, rfl, h⟩ := hr
    refine jW.aload_n (dx_Lab_keep 46 (e := (94, .aload_n 0, 1)) rfl) rfl rfl (pc' := 95) rfl ?_
    refine jW.cg (κ := 4) (k := 2) F hV.s4 f_Lab_keep_95 (by decide) rfl (pc' := 98) rfl ?_
    refine jW.aload_n (dx_Lab_keep 48 (e := (98, .aload_n 0, 1)) rfl) rfl rfl (pc' := 99) rfl ?_
    refine jW.cg (κ := 4) (k := 1) F hV.s4 f_Lab_keep_99 (by decide) rfl (pc' := 102) rfl ?_
    refine jW.callVe F (h (d + 5) _ hV) (dx_Lab_keep 50 (e := (102, .invokevirtual 28, 3)) rfl) can_Row_size jw_450 jw_372 (hV.clr (κ := 12) (by unfold isR; decide)) rfl jw_373 rfl rfl (Nat.le_of_ble_eq_true rfl) (pc' := 105) rfl (fun r σ hr => ?_)
    clear hV
    obtain ⟨_, hV, _, rfl, h⟩ := hr
    refine jW.callVe F (h (d + 3) _ hV) (dx_Lab_keep 51 (e := (105, .invokevirtual 62, 3)) rfl) can_Row_add jw_493 jw_376 (hV.clr (κ := 13) (by unfold isR; decide)) rfl jw_377 rfl rfl (Nat.le_of_ble_eq_true rfl) (pc' := 108) rfl (fun r σ hr => ?_)
    clear hV
    obtain ⟨_, hV, rfl, h⟩ := hr
    exact jW.vret (dx_Lab_keep 52 (e := (108, .return_, 1)) rfl) rfl ⟨_, hV, h⟩
  · replace h := h.2 c
    refine jW.aload_n (dx_Lab_keep 17 (e := (33, .aload_n 0, 1)) rfl) rfl rfl (pc' := 34) rfl ?_
    refine jW.cg (κ := 4) (k := 1) F hV.s4 f_Lab_keep_34 (by decide) rfl (pc' := 37) rfl ?_
    refine jW.iload_n (dx_Lab_keep 19 (e := (37, .iload_n 1, 1)) rfl) rfl rfl (pc' := 38) rfl ?_
    refine jW.callVe F (h (d + 5) _ hV) (dx_Lab_keep 20 (e := (38, .invokevirtual 24, 3)) rfl) can_Row_cut jw_502 jw_397 (hV.clr (κ := 12) (by unfold isR; decide)) rfl jw_398 rfl rfl (Nat.le_of_ble_eq_true rfl) (pc' := 41) rfl (fun r σ hr => ?_)
    clear hV
    obtain ⟨_, hV, rfl, h⟩ := hr
    exact jW.vret (dx_Lab_keep 21 (e := (41, .return_, 1)) rfl) rfl ⟨_, hV, h⟩
theorem g_Lab_keep {X : CX} {a0 : Array Value} (F : cF X a0) {m : CS} {Φ : Option Value → CS → Prop} (he : w_Lab_keep_0 X m Φ) : cE X 6 y_Lab_keep [.ref (adr X 4)] m Φ := by
  intro d σ hV
  refine jE.of (by decide) (by simp [Value.category]) (Nat.le_of_ble_eq_true rfl) rfl ?_
  exact t_Lab_keep_0 F hV he
def w_Lab_settle_107 (X : CX) (b1 : Nat) (x2 : Int32) (x3 : Int32) (x4 : Int32) (s0 : Int32) (m : CS) (Φ : Option Value → CS → Prop) : Prop := (mZ (s0) ∧ Φ (some (.int (s0))) m)
theorem t_Lab_settle_107 {X : CX} {a0 : Array Value} (F : cF X a0) {d : Nat} {b1 : Nat} {x2 : Int32} {x3 : Int32} {x4 : Int32} {s0 : Int32} {m : CS} {σ : jS} {Φ : Option Value → CS → Prop} (hV : CV X m σ) (h : w_Lab_settle_107 X b1 x2 x3 x4 s0 m Φ) : jW X.1 X.2.1 jcl X.2.2.1 X.2.2.2.1 (d + 7) y_Lab_settle 107 [some (.ref (adr X 4)), some (.ref b1), some (.int x2), some (.int x3), some (.int x4)] [.int s0] σ (cP X Φ) := by
  unfold w_Lab_settle_107 at h
  exact jW.zret (dx_Lab_settle 56 (e := (107, .ireturn, 1)) rfl) rfl h.1.n ⟨_, hV, h.2⟩
def w_Lab_settle_83 (X : CX) (b1 : Nat) (x2 : Int32) (x3 : Int32) (x4 : Int32) (m : CS) (Φ : Option Value → CS → Prop) : Prop := (∃ i1, isB m (b1) i1 ∧ ∀ m1, m1 = cB m i1 5 (x2) → (∃ i2, isB m1 (b1) i2 ∧ ∀ m2, m2 = cB m1 i2 6 (x4 - x2) → ((x4 ≤ x2 → w_Lab_settle_107 X (b1) (x2) (x3) (x4) (0) m2 Φ) ∧ (¬ x4 ≤ x2 → w_Lab_settle_107 X (b1) (x2) (x3) (x4) (1) m2 Φ))))
theorem t_Lab_settle_83 {X : CX} {a0 : Array Value} (F : cF X a0) {d : Nat} {b1 : Nat} {x2 : Int32} {x3 : Int32} {x4 : Int32} {m : CS} {σ : jS} {Φ : Option Value → CS → Prop} (hV : CV X m σ) (h : w_Lab_settle_83 X b1 x2 x3 x4 m Φ) : jW X.1 X.2.1 jcl X.2.2.1 X.2.2.2.1 (d + 7) y_Lab_settle 83 [some (.ref (adr X 4)), some (.ref b1), some (.int x2), some (.int x3), some (.int x4)] [] σ (cP X Φ) := by
  unfold w_Lab_settle_83 at h
  refine jW.aload_n (dx_Lab_settle 42 (e := (83, .aload_n 1, 1)) rfl) rfl rfl (pc' := 84) rfl ?_
  refine jW.iload_n (dx_Lab_settle 43 (e := (84, .iload_n 2, 1)) rfl) rfl rfl (pc' := 85) rfl ?_
  obtain ⟨i1, hi, h⟩ := h
  refine jW.cpb F hV hi f_Lab_settle_85 (by decide) rfl rfl rfl (pc' := 88) rfl (fun σ hV => ?_)
  replace h := h _ rfl
  refine jW.aload_n (dx_Lab_settle 45 (e := (88, .aload_n 1, 1)) rfl) rfl rfl (pc' := 89) rfl ?_
  refine jW.iload (dx_Lab_settle 46 (e := (89, .iload 4, 2)) rfl) rfl (pc' := 91) rfl ?_
  refine jW.iload_n (dx_Lab_settle 47 (e := (91, .iload_n 2, 1)) rfl) rfl rfl (pc' := 92) rfl ?_
  refine jW.isub (dx_Lab_settle 48 (e := (92, .isub, 1)) rfl) (pc' := 93) rfl ?_
  obtain ⟨i2, hi, h⟩ := h
  refine jW.cpb F hV hi f_Lab_settle_93 (by decide) rfl rfl rfl (pc' := 96) rfl (fun σ hV => ?_)
  replace h := h _ rfl
  refine jW.iload (dx_Lab_settle 50 (e := (96, .iload 4, 2)) rfl) rfl (pc' := 98) rfl ?_
  refine jW.iload_n (dx_Lab_settle 51 (e := (98, .iload_n 2, 1)) rfl) rfl rfl (pc' := 99) rfl ?_
  refine jW.icmp_le (dx_Lab_settle 52 (e := (99, .if_icmp .le 7, 3)) rfl) 106 (by decide) (pc' := 102) rfl (fun c => ?_) (fun c => ?_)
  · replace h := h.1 c
    refine jW.iconst (v := 0) (dx_Lab_settle 55 (e := (106, .iconst 0, 1)) rfl) (by decide) (pc' := 107) rfl ?_
    exact t_Lab_settle_107 F hV h
  · replace h := h.2 c
    refine jW.iconst (v := 1) (dx_Lab_settle 53 (e := (102, .iconst 1, 1)) rfl) (by decide) (pc' := 103) rfl ?_
    refine jW.goto (dx_Lab_settle 54 (e := (103, .goto 4, 3)) rfl) 107 (by decide) ?_
    exact t_Lab_settle_107 F hV h
def w_Lab_settle_54 (X : CX) (b1 : Nat) (x2 : Int32) (x3 : Int32) (x4 : Int32) (m : CS) (Φ : Option Value → CS → Prop) (K54 : Nat → Int32 → Int32 → Int32 → CS → Prop) : Prop := ((x4 ≤ x2 → w_Lab_settle_83 X (b1) (x2) (x3) (x4) m Φ) ∧ (¬ x4 ≤ x2 → cE X 0 y_Row_at [.ref (adr X 10), .int (x4 - 1)] m (ciP fun r1 m1 => cE X 0 y_MB_isWhite [.int (r1)] m1 (ciP fun r2 m2 => ((r2 = 0 → w_Lab_settle_83 X (b1) (x2) (x3) (x4) m2 Φ) ∧ (¬ r2 = 0 → K54 (b1) (x2) (x3) (x4 + (-1)) m2))))))
theorem t_Lab_settle_54 {X : CX} {a0 : Array Value} (F : cF X a0) {d : Nat} {b1 : Nat} {x2 : Int32} {x3 : Int32} {x4 : Int32} {m : CS} {σ : jS} {Φ : Option Value → CS → Prop} {K54 : Nat → Int32 → Int32 → Int32 → CS → Prop} (hV : CV X m σ) (h : w_Lab_settle_54 X b1 x2 x3 x4 m Φ K54) (hK54 : ∀ (b1 : Nat) (x2 : Int32) (x3 : Int32) (x4 : Int32) (m : CS) (σ : jS), CV X m σ → K54 b1 x2 x3 x4 m → jW X.1 X.2.1 jcl X.2.2.1 X.2.2.2.1 (d + 7) y_Lab_settle 54 [some (.ref (adr X 4)), some (.ref b1), some (.int x2), some (.int x3), some (.int x4)] [] σ (cP X Φ)) : jW X.1 X.2.1 jcl X.2.2.1 X.2.2.2.1 (d + 7) y_Lab_settle 54 [some (.ref (adr X 4)), some (.ref b1), some (.int x2), some (.int x3), some (.int x4)] [] σ (cP X Φ) := by
  unfold w_Lab_settle_54 at h
  refine jW.iload (dx_Lab_settle 29 (e := (54, .iload 4, 2)) rfl) rfl (pc' := 56) rfl ?_
  refine jW.iload_n (dx_Lab_settle 30 (e := (56, .iload_n 2, 1)) rfl) rfl rfl (pc' := 57) rfl ?_
  refine jW.icmp_le (dx_Lab_settle 31 (e := (57, .if_icmp .le 26, 3)) rfl) 83 (by decide) (pc' := 60) rfl (fun c => ?_) (fun c => ?_)
  · replace h := h.1 c
    exact t_Lab_settle_83 F hV h
  · replace h := h.2 c
    refine jW.aload_n (dx_Lab_settle 32 (e := (60, .aload_n 0, 1)) rfl) rfl rfl (pc' := 61) rfl ?_
    refine jW.cg (κ := 4) (k := 0) F hV.s4 f_Lab_settle_61 (by decide) rfl (pc' := 64) rfl ?_
    refine jW.iload (dx_Lab_settle 34 (e := (64, .iload 4, 2)) rfl) rfl (pc' := 66) rfl ?_
    refine jW.iconst (v := 1) (dx_Lab_settle 35 (e := (66, .iconst 1, 1)) rfl) (by decide) (pc' := 67) rfl ?_
    refine jW.isub (dx_Lab_settle 36 (e := (67, .isub, 1)) rfl) (pc' := 68) rfl ?_
    refine jW.callVe F (h (d + 6) _ hV) (dx_Lab_settle 37 (e := (68, .invokevirtual 43, 3)) rfl) can_Row_at jw_464 jw_439 (hV.clr (κ := 10) (by unfold isR; decide)) rfl jw_440 rfl rfl (Nat.le_of_ble_eq_true rfl) (pc' := 71) rfl (fun r σ hr => ?_)
    clear hV
    obtain ⟨_, hV, _, rfl, h⟩ := hr
    refine jW.callSN F (h (d + 6) _ hV) (dx_Lab_settle 38 (e := (71, .invokestatic 58, 3)) rfl) can_MB_isWhite jw_490 jw_491 rfl rfl (Nat.le_of_ble_eq_true rfl) (pc' := 74) rfl (fun r σ hr => ?_)
    clear hV
    obtain ⟨_, hV, _, rfl, h⟩ := hr
    refine jW.if_eq (dx_Lab_settle 39 (e := (74, .ifCond .eq 9, 3)) rfl) 83 (by decide) (pc' := 77) rfl (fun c => ?_) (fun c => ?_)
    · replace h := h.1 c
      exact t_Lab_settle_83 F hV h
    · replace h := h.2 c
      refine jW.iinc (v := _ + (-1)) (dx_Lab_settle 40 (e := (77, .iinc 4 (-1), 3)) rfl) rfl rfl (by decide) rfl (pc' := 80) rfl ?_
      refine jW.goto (dx_Lab_settle 41 (e := (80, .goto (-26), 3)) rfl) 54 (by decide) ?_
      exact hK54 _ _ _ _ _ _ hV h
def w_Lab_settle_45 (X : CX) (b1 : Nat) (x2 : Int32) (x3 : Int32) (x4 : Int32) (m : CS) (Φ : Option Value → CS → Prop) (K54 : Nat → Int32 → Int32 → Int32 → CS → Prop) : Prop := cE X 0 y_Row_size [.ref (adr X 10)] m (ciP fun r1 m1 => K54 (b1) (x2) (x3) (r1) m1)
theorem t_Lab_settle_45 {X : CX} {a0 : Array Value} (F : cF X a0) {d : Nat} {b1 : Nat} {x2 : Int32} {x3 : Int32} {x4 : Int32} {m : CS} {σ : jS} {Φ : Option Value → CS → Prop} {K54 : Nat → Int32 → Int32 → Int32 → CS → Prop} (hV : CV X m σ) (h : w_Lab_settle_45 X b1 x2 x3 x4 m Φ K54) (hK54 : ∀ (b1 : Nat) (x2 : Int32) (x3 : Int32) (x4 : Int32) (m : CS) (σ : jS), CV X m σ → K54 b1 x2 x3 x4 m → jW X.1 X.2.1 jcl X.2.2.1 X.2.2.2.1 (d + 7) y_Lab_settle 54 [some (.ref (adr X 4)), some (.ref b1), some (.int x2), some (.int x3), some (.int x4)] [] σ (cP X Φ)) : jW X.1 X.2.1 jcl X.2.2.1 X.2.2.2.1 (d + 7) y_Lab_settle 45 [some (.ref (adr X 4)), some (.ref b1), some (.int x2), some (.int x3), some (.int x4)] [] σ (cP X Φ) := by
  unfold w_Lab_settle_45 at h
  refine jW.aload_n (dx_Lab_settle 25 (e := (45, .aload_n 0, 1)) rfl) rfl rfl (pc' := 46) rfl ?_
  refine jW.cg (κ := 4) (k := 0) F hV.s4 f_Lab_settle_46 (by decide) rfl (pc' := 49) rfl ?_
  refine jW.callVe F (h (d + 6) _ hV) (dx_Lab_settle 27 (e := (49, .invokevirtual 28, 3)) rfl) can_Row_size jw_450 jw_372 (hV.clr (κ := 10) (by unfold isR; decide)) rfl jw_373 rfl rfl (Nat.le_of_ble_eq_true rfl) (pc' := 52) rfl (fun r σ hr => ?_)
  clear hV
  obtain ⟨_, hV, _, rfl, h⟩ := hr
  refine jW.istore (dx_Lab_settle 28 (e := (52, .istore 4, 2)) rfl) (by decide) rfl (pc' := 54) rfl ?_
  exact hK54 _ _ _ _ _ _ hV h
def w_Lab_settle_14 (X : CX) (b1 : Nat) (x2 : Int32) (x3 : Int32) (x4 : Int32) (m : CS) (Φ : Option Value → CS → Prop) (K14 : Nat → Int32 → Int32 → Int32 → CS → Prop) (K54 : Nat → Int32 → Int32 → Int32 → CS → Prop) : Prop := ((3000 ≤ x4 → w_Lab_settle_45 X (b1) (x2) (x3) (x4) m Φ K54) ∧ (¬ 3000 ≤ x4 → ((x3 = -1 → w_Lab_settle_45 X (b1) (x2) (x3) (x4) m Φ K54) ∧ (¬ x3 = -1 → cE X 6 y_Lab_keep [.ref (adr X 4)] m (cvP fun m1 => cE X 2 y_Lab_behindDefinition [.ref (adr X 4), .int (x3)] m1 (ciP fun r2 m2 => K14 (b1) (x3) (r2) (x4 + 1) m2))))))
theorem t_Lab_settle_14 {X : CX} {a0 : Array Value} (F : cF X a0) {d : Nat} {b1 : Nat} {x2 : Int32} {x3 : Int32} {x4 : Int32} {m : CS} {σ : jS} {Φ : Option Value → CS → Prop} {K14 : Nat → Int32 → Int32 → Int32 → CS → Prop} {K54 : Nat → Int32 → Int32 → Int32 → CS → Prop} (hV : CV X m σ) (h : w_Lab_settle_14 X b1 x2 x3 x4 m Φ K14 K54) (hK14 : ∀ (b1 : Nat) (x2 : Int32) (x3 : Int32) (x4 : Int32) (m : CS) (σ : jS), CV X m σ → K14 b1 x2 x3 x4 m → jW X.1 X.2.1 jcl X.2.2.1 X.2.2.2.1 (d + 7) y_Lab_settle 14 [some (.ref (adr X 4)), some (.ref b1), some (.int x2), some (.int x3), some (.int x4)] [] σ (cP X Φ)) (hK54 : ∀ (b1 : Nat) (x2 : Int32) (x3 : Int32) (x4 : Int32) (m : CS) (σ : jS), CV X m σ → K54 b1 x2 x3 x4 m → jW X.1 X.2.1 jcl X.2.2.1 X.2.2.2.1 (d + 7) y_Lab_settle 54 [some (.ref (adr X 4)), some (.ref b1), some (.int x2), some (.int x3), some (.int x4)] [] σ (cP X Φ)) : jW X.1 X.2.1 jcl X.2.2.1 X.2.2.2.1 (d + 7) y_Lab_settle 14 [some (.ref (adr X 4)), some (.ref b1), some (.int x2), some (.int x3), some (.int x4)] [] σ (cP X Φ) := by
  unfold w_Lab_settle_14 at h
  refine jW.iload (dx_Lab_settle 9 (e := (14, .iload 4, 2)) rfl) rfl (pc' := 16) rfl ?_
  refine jW.sipush (v := 3000) (dx_Lab_settle 10 (e := (16, .sipush 3000, 3)) rfl) (by decide) (pc' := 19) rfl ?_
  refine jW.icmp_ge (dx_Lab_settle 11 (e := (19, .if_icmp .ge 26, 3)) rfl) 45 (by decide) (pc' := 22) rfl (fun c => ?_) (fun c => ?_)
  · replace h := h.1 c
    exact t_Lab_settle_45 F hV h hK54
  · replace h := h.2 c
    refine jW.iload_n (dx_Lab_settle 12 (e := (22, .iload_n 3, 1)) rfl) rfl rfl (pc' := 23) rfl ?_
    refine jW.iconst (v := -1) (dx_Lab_settle 13 (e := (23, .iconst (-1), 1)) rfl) (by decide) (pc' := 24) rfl ?_
    refine jW.icmp_eq (dx_Lab_settle 14 (e := (24, .if_icmp .eq 21, 3)) rfl) 45 (by decide) (pc' := 27) rfl (fun c => ?_) (fun c => ?_)
    · replace h := h.1 c
      exact t_Lab_settle_45 F hV h hK54
    · replace h := h.2 c
      refine jW.aload_n (dx_Lab_settle 15 (e := (27, .aload_n 0, 1)) rfl) rfl rfl (pc' := 28) rfl ?_
      refine jW.callVe F (h (d + 0) _ hV) (dx_Lab_settle 16 (e := (28, .invokevirtual 74, 3)) rfl) can_Lab_keep jw_724 jw_726 hV.cl4 rfl sel_Lab_keep rfl rfl (Nat.le_of_ble_eq_true rfl) (pc' := 31) rfl (fun r σ hr => ?_)
      clear hV
      obtain ⟨_, hV, rfl, h⟩ := hr
      refine jW.iload_n (dx_Lab_settle 17 (e := (31, .iload_n 3, 1)) rfl) rfl rfl (pc' := 32) rfl ?_
      refine jW.istore_n (dx_Lab_settle 18 (e := (32, .istore_n 2, 1)) rfl) rfl (by decide) rfl (pc' := 33) rfl ?_
      refine jW.aload_n (dx_Lab_settle 19 (e := (33, .aload_n 0, 1)) rfl) rfl rfl (pc' := 34) rfl ?_
      refine jW.iload_n (dx_Lab_settle 20 (e := (34, .iload_n 2, 1)) rfl) rfl rfl (pc' := 35) rfl ?_
      refine jW.callVe F (h (d + 4) _ hV) (dx_Lab_settle 21 (e := (35, .invokevirtual 71, 3)) rfl) can_Lab_behindDefinition jw_693 jw_695 hV.cl4 rfl sel_Lab_behindDefinition rfl rfl (Nat.le_of_ble_eq_true rfl) (pc' := 38) rfl (fun r σ hr => ?_)
      clear hV
      obtain ⟨_, hV, _, rfl, h⟩ := hr
      refine jW.istore_n (dx_Lab_settle 22 (e := (38, .istore_n 3, 1)) rfl) rfl (by decide) rfl (pc' := 39) rfl ?_
      refine jW.iinc (v := _ + (1)) (dx_Lab_settle 23 (e := (39, .iinc 4 1, 3)) rfl) rfl rfl (by decide) rfl (pc' := 42) rfl ?_
      refine jW.goto (dx_Lab_settle 24 (e := (42, .goto (-28), 3)) rfl) 14 (by decide) ?_
      exact hK14 _ _ _ _ _ _ hV h
def w_Lab_settle_0 (X : CX) (b1 : Nat) (m : CS) (Φ : Option Value → CS → Prop) (K14 : Nat → Int32 → Int32 → Int32 → CS → Prop) (K54 : Nat → Int32 → Int32 → Int32 → CS → Prop) : Prop := (∃ i1, isB m (b1) i1 ∧ cE X 2 y_Lab_behindDefinition [.ref (adr X 4), .int (vb m.1 i1 5)] m (ciP fun r1 m1 => K14 (b1) (vb m.1 i1 5) (r1) (0) m1))
theorem t_Lab_settle_0 {X : CX} {a0 : Array Value} (F : cF X a0) {d : Nat} {b1 : Nat} {o2 o3 o4 : Option Value} {m : CS} {σ : jS} {Φ : Option Value → CS → Prop} {K14 : Nat → Int32 → Int32 → Int32 → CS → Prop} {K54 : Nat → Int32 → Int32 → Int32 → CS → Prop} (hV : CV X m σ) (h : w_Lab_settle_0 X b1 m Φ K14 K54) (hK14 : ∀ (b1 : Nat) (x2 : Int32) (x3 : Int32) (x4 : Int32) (m : CS) (σ : jS), CV X m σ → K14 b1 x2 x3 x4 m → jW X.1 X.2.1 jcl X.2.2.1 X.2.2.2.1 (d + 7) y_Lab_settle 14 [some (.ref (adr X 4)), some (.ref b1), some (.int x2), some (.int x3), some (.int x4)] [] σ (cP X Φ)) (hK54 : ∀ (b1 : Nat) (x2 : Int32) (x3 : Int32) (x4 : Int32) (m : CS) (σ : jS), CV X m σ → K54 b1 x2 x3 x4 m → jW X.1 X.2.1 jcl X.2.2.1 X.2.2.2.1 (d + 7) y_Lab_settle 54 [some (.ref (adr X 4)), some (.ref b1), some (.int x2), some (.int x3), some (.int x4)] [] σ (cP X Φ)) : jW X.1 X.2.1 jcl X.2.2.1 X.2.2.2.1 (d + 7) y_Lab_settle 0 [some (.ref (adr X 4)), some (.ref b1), o2, o3, o4] [] σ (cP X Φ) := by
  unfold w_Lab_settle_0 at h
  refine jW.aload_n (dx_Lab_settle 0 (e := (0, .aload_n 1, 1)) rfl) rfl rfl (pc' := 1) rfl ?_
  obtain ⟨i1, hi, h⟩ := h
  refine jW.cgb F hV hi f_Lab_settle_1 (by decide) (pc' := 4) rfl ?_
  refine jW.istore_n (dx_Lab_settle 2 (e := (4, .istore_n 2, 1)) rfl) rfl (by decide) rfl (pc' := 5) rfl ?_
  refine jW.aload_n (dx_Lab_settle 3 (e := (5, .aload_n 0, 1)) rfl) rfl rfl (pc' := 6) rfl ?_
  refine jW.iload_n (dx_Lab_settle 4 (e := (6, .iload_n 2, 1)) rfl) rfl rfl (pc' := 7) rfl ?_
  refine jW.callVe F (h (d + 4) _ hV) (dx_Lab_settle 5 (e := (7, .invokevirtual 71, 3)) rfl) can_Lab_behindDefinition jw_693 jw_695 hV.cl4 rfl sel_Lab_behindDefinition rfl rfl (Nat.le_of_ble_eq_true rfl) (pc' := 10) rfl (fun r σ hr => ?_)
  clear hV
  obtain ⟨_, hV, _, rfl, h⟩ := hr
  refine jW.istore_n (dx_Lab_settle 6 (e := (10, .istore_n 3, 1)) rfl) rfl (by decide) rfl (pc' := 11) rfl ?_
  refine jW.iconst (v := 0) (dx_Lab_settle 7 (e := (11, .iconst 0, 1)) rfl) (by decide) (pc' := 12) rfl ?_
  refine jW.istore (dx_Lab_settle 8 (e := (12, .istore 4, 2)) rfl) (by decide) rfl (pc' := 14) rfl ?_
  exact hK14 _ _ _ _ _ _ hV h
theorem g_Lab_settle {X : CX} {a0 : Array Value} (F : cF X a0) {b1 : Nat} {m : CS} {Φ : Option Value → CS → Prop} {I14 : Nat → Nat → Int32 → Int32 → Int32 → CS → Prop} {I54 : Nat → Nat → Int32 → Int32 → Int32 → CS → Prop} (he : w_Lab_settle_0 X b1 m Φ (fun b1 x2 x3 x4 m => ∃ j, I14 j b1 x2 x3 x4 m) (fun b1 x2 x3 x4 m => ∃ j, I54 j b1 x2 x3 x4 m)) (h54 : ∀ (n : Nat) (b1 : Nat) (x2 : Int32) (x3 : Int32) (x4 : Int32) (m : CS), I54 n b1 x2 x3 x4 m → w_Lab_settle_54 X b1 x2 x3 x4 m Φ (fun b1 x2 x3 x4 m => ∃ j, j < n ∧ I54 j b1 x2 x3 x4 m)) (h14 : ∀ (n : Nat) (b1 : Nat) (x2 : Int32) (x3 : Int32) (x4 : Int32) (m : CS), I14 n b1 x2 x3 x4 m → w_Lab_settle_14 X b1 x2 x3 x4 m Φ (fun b1 x2 x3 x4 m => ∃ j, j < n ∧ I14 j b1 x2 x3 x4 m) (fun b1 x2 x3 x4 m => ∃ j, I54 j b1 x2 x3 x4 m)) : cE X 7 y_Lab_settle [.ref (adr X 4), .ref b1] m Φ := by
  intro d σ hV
  have hL54 : ∀ n, (∀ (b1 : Nat) (x2 : Int32) (x3 : Int32) (x4 : Int32) (m : CS) (σ : jS), CV X m σ → I54 n b1 x2 x3 x4 m → jW X.1 X.2.1 jcl X.2.2.1 X.2.2.2.1 (d + 7) y_Lab_settle 54 [some (.ref (adr X 4)), some (.ref b1), some (.int x2), some (.int x3), some (.int x4)] [] σ (cP X Φ)) := by
    intro n
    induction n using Nat.strongRecOn with
    | _ n ih =>
      exact fun b1 x2 x3 x4 m σ hV hI => t_Lab_settle_54 F hV (h54 n b1 x2 x3 x4 m hI) (fun b1 x2 x3 x4 m σ hV ⟨j, hj, hI⟩ => (ih j hj) b1 x2 x3 x4 m σ hV hI)
  have hL14 : ∀ n, (∀ (b1 : Nat) (x2 : Int32) (x3 : Int32) (x4 : Int32) (m : CS) (σ : jS), CV X m σ → I14 n b1 x2 x3 x4 m → jW X.1 X.2.1 jcl X.2.2.1 X.2.2.2.1 (d + 7) y_Lab_settle 14 [some (.ref (adr X 4)), some (.ref b1), some (.int x2), some (.int x3), some (.int x4)] [] σ (cP X Φ)) := by
    intro n
    induction n using Nat.strongRecOn with
    | _ n ih =>
      exact fun b1 x2 x3 x4 m σ hV hI => t_Lab_settle_14 F hV (h14 n b1 x2 x3 x4 m hI) (fun b1 x2 x3 x4 m σ hV ⟨j, hj, hI⟩ => (ih j hj) b1 x2 x3 x4 m σ hV hI) (fun b1 x2 x3 x4 m σ hV ⟨j, hI⟩ => (hL54 j) b1 x2 x3 x4 m σ hV hI)
  refine jE.of (by decide) (by simp [Value.category]) (Nat.le_of_ble_eq_true rfl) rfl ?_
  exact t_Lab_settle_0 F hV he (fun b1 x2 x3 x4 m σ hV ⟨j, hI⟩ => (hL14 j) b1 x2 x3 x4 m σ hV hI) (fun b1 x2 x3 x4 m σ hV ⟨j, hI⟩ => (hL54 j) b1 x2 x3 x4 m σ hV hI)
