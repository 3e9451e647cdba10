def w_Mo_target_309 (X : MX) (x1 x2 x3 x4 x5 s0 : Int32) (m : MS) (Φ : Option Value → MS → Prop) : Prop := Φ (some (.int (s0))) m
theorem t_Mo_target_309 {X : MX} {a0 : Array Value} (F : mF X a0) {d : Nat} {x1 x2 x3 x4 x5 s0 : Int32} {o6 o7 : Option Value} {m : MS} {σ : jS} {Φ : Option Value → MS → Prop} (hV : MV X m σ) (h : w_Mo_target_309 X x1 x2 x3 x4 x5 s0 m Φ) : jW X.1 X.2.1 jcl X.2.2.1 X.2.2.2.1 (d + 1) y_Mo_target 309 [some (.ref (mo X)), some (.int x1), some (.int x2), some (.int x3), some (.int x4), some (.int x5), o6, o7] [.int s0] σ (mQ X Φ σ) := by
  unfold w_Mo_target_309 at h
  exact jW.iret (dx_Mo_target 159 (e := (309, .ireturn, 1)) rfl) rfl ⟨FR.rfl, _, hV, h⟩
def w_Mo_target_308 (X : MX) (x1 x2 x3 x4 x5 : Int32) (m : MS) (Φ : Option Value → MS → Prop) : Prop := w_Mo_target_309 X (x1) (x2) (x3) (x4) (x5) (-1) m Φ
theorem t_Mo_target_308 {X : MX} {a0 : Array Value} (F : mF X a0) {d : Nat} {x1 x2 x3 x4 x5 : Int32} {o6 o7 : Option Value} {m : MS} {σ : jS} {Φ : Option Value → MS → Prop} (hV : MV X m σ) (h : w_Mo_target_308 X x1 x2 x3 x4 x5 m Φ) : jW X.1 X.2.1 jcl X.2.2.1 X.2.2.2.1 (d + 1) y_Mo_target 308 [some (.ref (mo X)), some (.int x1), some (.int x2), some (.int x3), some (.int x4), some (.int x5), o6, o7] [] σ (mQ X Φ σ) := by
  unfold w_Mo_target_308 at h
  refine jW.iconst (v := -1) (dx_Mo_target 158 (e := (308, .iconst (-1), 1)) rfl) (by decide) (pc' := 309) rfl ?_
  exact t_Mo_target_309 F hV h
def w_Mo_target_291 (X : MX) (x1 x2 x3 x4 x5 s0 : Int32) (m : MS) (Φ : Option Value → MS → Prop) : Prop := Φ (some (.int (s0))) m
theorem t_Mo_target_291 {X : MX} {a0 : Array Value} (F : mF X a0) {d : Nat} {x1 x2 x3 x4 x5 s0 : Int32} {o6 o7 : Option Value} {m : MS} {σ : jS} {Φ : Option Value → MS → Prop} (hV : MV X m σ) (h : w_Mo_target_291 X x1 x2 x3 x4 x5 s0 m Φ) : jW X.1 X.2.1 jcl X.2.2.1 X.2.2.2.1 (d + 1) y_Mo_target 291 [some (.ref (mo X)), some (.int x1), some (.int x2), some (.int x3), some (.int x4), some (.int x5), o6, o7] [.int s0] σ (mQ X Φ σ) := by
  unfold w_Mo_target_291 at h
  exact jW.iret (dx_Mo_target 150 (e := (291, .ireturn, 1)) rfl) rfl ⟨FR.rfl, _, hV, h⟩
def w_Mo_target_264 (X : MX) (x1 x2 x3 x4 x5 : Int32) (m : MS) (Φ : Option Value → MS → Prop) : Prop := ∀ m1, m1 = mI m 48 (x3 - (m.1 47)) → ((x4 = 0 → ((x5 = 0 → ((m1.1 48 ≤ 0 → w_Mo_target_308 X (x1) (x2) (x3) (x4) (x5) m1 Φ) ∧ (¬ m1.1 48 ≤ 0 → w_Mo_target_309 X (x1) (x2) (x3) (x4) (x5) (x3) m1 Φ))) ∧ (¬ x5 = 0 → w_Mo_target_308 X (x1) (x2) (x3) (x4) (x5) m1 Φ))) ∧ (¬ x4 = 0 → ((x2 ≤ x3 → w_Mo_target_291 X (x1) (x2) (x3) (x4) (x5) (-1) m1 Φ) ∧ (¬ x2 ≤ x3 → w_Mo_target_291 X (x1) (x2) (x3) (x4) (x5) (x3 + 1) m1 Φ))))
theorem t_Mo_target_264 {X : MX} {a0 : Array Value} (F : mF X a0) {d : Nat} {x1 x2 x3 x4 x5 : Int32} {o6 o7 : Option Value} {m : MS} {σ : jS} {Φ : Option Value → MS → Prop} (hV : MV X m σ) (h : w_Mo_target_264 X x1 x2 x3 x4 x5 m Φ) : jW X.1 X.2.1 jcl X.2.2.1 X.2.2.2.1 (d + 1) y_Mo_target 264 [some (.ref (mo X)), some (.int x1), some (.int x2), some (.int x3), some (.int x4), some (.int x5), o6, o7] [] σ (mQ X Φ σ) := by
  unfold w_Mo_target_264 at h
  refine jW.aload_n (dx_Mo_target 134 (e := (264, .aload_n 0, 1)) rfl) rfl rfl (pc' := 265) rfl ?_
  refine jW.iload_n (dx_Mo_target 135 (e := (265, .iload_n 3, 1)) rfl) rfl rfl (pc' := 266) rfl ?_
  refine jW.aload_n (dx_Mo_target 136 (e := (266, .aload_n 0, 1)) rfl) rfl rfl (pc' := 267) rfl ?_
  refine jW.mgi F hV f_Mo_target_267 (by decide) (pc' := 270) rfl ?_
  refine jW.isub (dx_Mo_target 138 (e := (270, .isub, 1)) rfl) (pc' := 271) rfl ?_
  refine jW.mpi F hV f_Mo_target_271 (by decide) rfl rfl rfl (pc' := 274) rfl (fun σ hV => ?_)
  replace h := h _ rfl
  refine jW.iload (dx_Mo_target 140 (e := (274, .iload 4, 2)) rfl) rfl (pc' := 276) rfl ?_
  refine jW.if_eq (dx_Mo_target 141 (e := (276, .ifCond .eq 16, 3)) rfl) 292 (by decide) (pc' := 279) rfl (fun c => ?_) (fun c => ?_)
  · replace h := h.1 c
    refine jW.iload (dx_Mo_target 151 (e := (292, .iload 5, 2)) rfl) rfl (pc' := 294) rfl ?_
    refine jW.if_ne (dx_Mo_target 152 (e := (294, .ifCond .ne 14, 3)) rfl) 308 (by decide) (pc' := 297) rfl (fun c => ?_) (fun c => ?_)
    · replace h := h.2 c
      exact t_Mo_target_308 F hV h
    · replace h := h.1 c
      refine jW.aload_n (dx_Mo_target 153 (e := (297, .aload_n 0, 1)) rfl) rfl rfl (pc' := 298) rfl ?_
      refine jW.mgi F hV f_Mo_target_298 (by decide) (pc' := 301) rfl ?_
      refine jW.if_le (dx_Mo_target 155 (e := (301, .ifCond .le 7, 3)) rfl) 308 (by decide) (pc' := 304) rfl (fun c => ?_) (fun c => ?_)
      · replace h := h.1 c
        exact t_Mo_target_308 F hV h
      · replace h := h.2 c
        refine jW.iload_n (dx_Mo_target 156 (e := (304, .iload_n 3, 1)) rfl) rfl rfl (pc' := 305) rfl ?_
        refine jW.goto (dx_Mo_target 157 (e := (305, .goto 4, 3)) rfl) 309 (by decide) ?_
        exact t_Mo_target_309 F hV h
  · replace h := h.2 c
    refine jW.iload_n (dx_Mo_target 142 (e := (279, .iload_n 3, 1)) rfl) rfl rfl (pc' := 280) rfl ?_
    refine jW.iload_n (dx_Mo_target 143 (e := (280, .iload_n 2, 1)) rfl) rfl rfl (pc' := 281) rfl ?_
    refine jW.icmp_ge (dx_Mo_target 144 (e := (281, .if_icmp .ge 9, 3)) rfl) 290 (by decide) (pc' := 284) rfl (fun c => ?_) (fun c => ?_)
    · replace h := h.1 c
      refine jW.iconst (v := -1) (dx_Mo_target 149 (e := (290, .iconst (-1), 1)) rfl) (by decide) (pc' := 291) rfl ?_
      exact t_Mo_target_291 F hV h
    · replace h := h.2 c
      refine jW.iload_n (dx_Mo_target 145 (e := (284, .iload_n 3, 1)) rfl) rfl rfl (pc' := 285) rfl ?_
      refine jW.iconst (v := 1) (dx_Mo_target 146 (e := (285, .iconst 1, 1)) rfl) (by decide) (pc' := 286) rfl ?_
      refine jW.iadd (dx_Mo_target 147 (e := (286, .iadd, 1)) rfl) (pc' := 287) rfl ?_
      refine jW.goto (dx_Mo_target 148 (e := (287, .goto 4, 3)) rfl) 291 (by decide) ?_
      exact t_Mo_target_291 F hV h
def w_Mo_target_130 (X : MX) (x1 x2 x3 x4 x5 x6 : Int32) (m : MS) (Φ : Option Value → MS → Prop) : Prop := Φ (some (.int (-1))) m
theorem t_Mo_target_130 {X : MX} {a0 : Array Value} (F : mF X a0) {d : Nat} {x1 x2 x3 x4 x5 x6 : Int32} {o7 : Option Value} {m : MS} {σ : jS} {Φ : Option Value → MS → Prop} (hV : MV X m σ) (h : w_Mo_target_130 X x1 x2 x3 x4 x5 x6 m Φ) : jW X.1 X.2.1 jcl X.2.2.1 X.2.2.2.1 (d + 1) y_Mo_target 130 [some (.ref (mo X)), some (.int x1), some (.int x2), some (.int x3), some (.int x4), some (.int x5), some (.int x6), o7] [] σ (mQ X Φ σ) := by
  unfold w_Mo_target_130 at h
  refine jW.iconst (v := -1) (dx_Mo_target 63 (e := (130, .iconst (-1), 1)) rfl) (by decide) (pc' := 131) rfl ?_
  exact jW.iret (dx_Mo_target 64 (e := (131, .ireturn, 1)) rfl) rfl ⟨FR.rfl, _, hV, h⟩
def w_Mo_target_258 (X : MX) (x1 x2 x3 x4 x5 x6 x7 : Int32) (m : MS) (Φ : Option Value → MS → Prop) (K43 : Int32 → Int32 → Int32 → Int32 → Int32 → MS → Prop) : Prop := K43 (x1) (x2) (x3 + 1) (x4) (x5) m
theorem t_Mo_target_258 {X : MX} {a0 : Array Value} (F : mF X a0) {d : Nat} {x1 x2 x3 x4 x5 x6 x7 : Int32} {m : MS} {σ : jS} {Φ : Option Value → MS → Prop} {K43 : Int32 → Int32 → Int32 → Int32 → Int32 → MS → Prop} (hV : MV X m σ) (h : w_Mo_target_258 X x1 x2 x3 x4 x5 x6 x7 m Φ K43) (hK43 : ∀ (x1 x2 x3 x4 x5 : Int32) (o6 o7 : Option Value) (m : MS) (σ : jS), MV X m σ → K43 x1 x2 x3 x4 x5 m → jW X.1 X.2.1 jcl X.2.2.1 X.2.2.2.1 (d + 1) y_Mo_target 43 [some (.ref (mo X)), some (.int x1), some (.int x2), some (.int x3), some (.int x4), some (.int x5), o6, o7] [] σ (mQ X Φ σ)) : jW X.1 X.2.1 jcl X.2.2.1 X.2.2.2.1 (d + 1) y_Mo_target 258 [some (.ref (mo X)), some (.int x1), some (.int x2), some (.int x3), some (.int x4), some (.int x5), some (.int x6), some (.int x7)] [] σ (mQ X Φ σ) := by
  unfold w_Mo_target_258 at h
  refine jW.iinc (v := _ + (1)) (dx_Mo_target 132 (e := (258, .iinc 3 1, 3)) rfl) rfl rfl (by decide) rfl (pc' := 261) rfl ?_
  refine jW.goto (dx_Mo_target 133 (e := (261, .goto (-218), 3)) rfl) 43 (by decide) ?_
  exact hK43 _ _ _ _ _ _ _ _ _ hV h
def w_Mo_target_255 (X : MX) (x1 x2 x3 x4 x5 x6 x7 s0 s1 : Int32) (m : MS) (Φ : Option Value → MS → Prop) (K43 : Int32 → Int32 → Int32 → Int32 → Int32 → MS → Prop) : Prop := w_Mo_target_258 X (x1) (x2) (x3) (x4) (s0 + s1) (x6) (x7) m Φ K43
theorem t_Mo_target_255 {X : MX} {a0 : Array Value} (F : mF X a0) {d : Nat} {x1 x2 x3 x4 x5 x6 x7 s0 s1 : Int32} {m : MS} {σ : jS} {Φ : Option Value → MS → Prop} {K43 : Int32 → Int32 → Int32 → Int32 → Int32 → MS → Prop} (hV : MV X m σ) (h : w_Mo_target_255 X x1 x2 x3 x4 x5 x6 x7 s0 s1 m Φ K43) (hK43 : ∀ (x1 x2 x3 x4 x5 : Int32) (o6 o7 : Option Value) (m : MS) (σ : jS), MV X m σ → K43 x1 x2 x3 x4 x5 m → jW X.1 X.2.1 jcl X.2.2.1 X.2.2.2.1 (d + 1) y_Mo_target 43 [some (.ref (mo X)), some (.int x1), some (.int x2), some (.int x3), some (.int x4), some (.int x5), o6, o7] [] σ (mQ X Φ σ)) : jW X.1 X.2.1 jcl X.2.2.1 X.2.2.2.1 (d + 1) y_Mo_target 255 [some (.ref (mo X)), some (.int x1), some (.int x2), some (.int x3), some (.int x4), some (.int x5), some (.int x6), some (.int x7)] [.int s1, .int s0] σ (mQ X Φ σ) := by
  unfold w_Mo_target_255 at h
  refine jW.iadd (dx_Mo_target 130 (e := (255, .iadd, 1)) rfl) (pc' := 256) rfl ?_
  refine jW.istore (dx_Mo_target 131 (e := (256, .istore 5, 2)) rfl) (by decide) rfl (pc' := 258) rfl ?_
  exact t_Mo_target_258 F hV h hK43
def w_Mo_target_212 (X : MX) (x1 x2 x3 x4 x5 x6 s0 : Int32) (m : MS) (Φ : Option Value → MS → Prop) (K43 : Int32 → Int32 → Int32 → Int32 → Int32 → MS → Prop) : Prop := ((s0 = 0 → ((x4 = 0 → ((x6 = 40 → w_Mo_target_255 X (x1) (x2) (x3) (x4) (x5) (x6) (s0) (x5) (1) m Φ K43) ∧ (¬ x6 = 40 → ((x6 = 41 → w_Mo_target_255 X (x1) (x2) (x3) (x4) (x5) (x6) (s0) (x5) (-1) m Φ K43) ∧ (¬ x6 = 41 → w_Mo_target_255 X (x1) (x2) (x3) (x4) (x5) (x6) (s0) (x5) (0) m Φ K43))))) ∧ (¬ x4 = 0 → w_Mo_target_258 X (x1) (x2) (x3) (x4) (x5) (x6) (s0) m Φ K43))) ∧ (¬ s0 = 0 → w_Mo_target_258 X (x1) (x2) (x3 + 1) (x4) (x5) (x6) (s0) m Φ K43))
theorem t_Mo_target_212 {X : MX} {a0 : Array Value} (F : mF X a0) {d : Nat} {x1 x2 x3 x4 x5 x6 s0 : Int32} {o7 : Option Value} {m : MS} {σ : jS} {Φ : Option Value → MS → Prop} {K43 : Int32 → Int32 → Int32 → Int32 → Int32 → MS → Prop} (hV : MV X m σ) (h : w_Mo_target_212 X x1 x2 x3 x4 x5 x6 s0 m Φ K43) (hK43 : ∀ (x1 x2 x3 x4 x5 : Int32) (o6 o7 : Option Value) (m : MS) (σ : jS), MV X m σ → K43 x1 x2 x3 x4 x5 m → jW X.1 X.2.1 jcl X.2.2.1 X.2.2.2.1 (d + 1) y_Mo_target 43 [some (.ref (mo X)), some (.int x1), some (.int x2), some (.int x3), some (.int x4), some (.int x5), o6, o7] [] σ (mQ X Φ σ)) : jW X.1 X.2.1 jcl X.2.2.1 X.2.2.2.1 (d + 1) y_Mo_target 212 [some (.ref (mo X)), some (.int x1), some (.int x2), some (.int x3), some (.int x4), some (.int x5), some (.int x6), o7] [.int s0] σ (mQ X Φ σ) := by
  unfold w_Mo_target_212 at h
  refine jW.istore (dx_Mo_target 111 (e := (212, .istore 7, 2)) rfl) (by decide) rfl (pc' := 214) rfl ?_
  refine jW.iload (dx_Mo_target 112 (e := (214, .iload 7, 2)) rfl) rfl (pc' := 216) rfl ?_
  refine jW.if_eq (dx_Mo_target 113 (e := (216, .ifCond .eq 9, 3)) rfl) 225 (by decide) (pc' := 219) rfl (fun c => ?_) (fun c => ?_)
  · replace h := h.1 c
    refine jW.iload (dx_Mo_target 116 (e := (225, .iload 4, 2)) rfl) rfl (pc' := 227) rfl ?_
    refine jW.if_ne (dx_Mo_target 117 (e := (227, .ifCond .ne 31, 3)) rfl) 258 (by decide) (pc' := 230) rfl (fun c => ?_) (fun c => ?_)
    · replace h := h.2 c
      exact t_Mo_target_258 F hV h hK43
    · replace h := h.1 c
      refine jW.iload (dx_Mo_target 118 (e := (230, .iload 5, 2)) rfl) rfl (pc' := 232) rfl ?_
      refine jW.iload (dx_Mo_target 119 (e := (232, .iload 6, 2)) rfl) rfl (pc' := 234) rfl ?_
      refine jW.bipush (v := 40) (dx_Mo_target 120 (e := (234, .bipush 40, 2)) rfl) (by decide) (pc' := 236) rfl ?_
      refine jW.icmp_ne (dx_Mo_target 121 (e := (236, .if_icmp .ne 7, 3)) rfl) 243 (by decide) (pc' := 239) rfl (fun c => ?_) (fun c => ?_)
      · replace h := h.2 c
        refine jW.iload (dx_Mo_target 124 (e := (243, .iload 6, 2)) rfl) rfl (pc' := 245) rfl ?_
        refine jW.bipush (v := 41) (dx_Mo_target 125 (e := (245, .bipush 41, 2)) rfl) (by decide) (pc' := 247) rfl ?_
        refine jW.icmp_ne (dx_Mo_target 126 (e := (247, .if_icmp .ne 7, 3)) rfl) 254 (by decide) (pc' := 250) rfl (fun c => ?_) (fun c => ?_)
        · replace h := h.2 c
          refine jW.iconst (v := 0) (dx_Mo_target 129 (e := (254, .iconst 0, 1)) rfl) (by decide) (pc' := 255) rfl ?_
          exact t_Mo_target_255 F hV h hK43
        · replace h := h.1 c
          refine jW.iconst (v := -1) (dx_Mo_target 127 (e := (250, .iconst (-1), 1)) rfl) (by decide) (pc' := 251) rfl ?_
          refine jW.goto (dx_Mo_target 128 (e := (251, .goto 4, 3)) rfl) 255 (by decide) ?_
          exact t_Mo_target_255 F hV h hK43
      · replace h := h.1 c
        refine jW.iconst (v := 1) (dx_Mo_target 122 (e := (239, .iconst 1, 1)) rfl) (by decide) (pc' := 240) rfl ?_
        refine jW.goto (dx_Mo_target 123 (e := (240, .goto 15, 3)) rfl) 255 (by decide) ?_
        exact t_Mo_target_255 F hV h hK43
  · replace h := h.2 c
    refine jW.iinc (v := _ + (1)) (dx_Mo_target 114 (e := (219, .iinc 3 1, 3)) rfl) rfl rfl (by decide) rfl (pc' := 222) rfl ?_
    refine jW.goto (dx_Mo_target 115 (e := (222, .goto 36, 3)) rfl) 258 (by decide) ?_
    exact t_Mo_target_258 F hV h hK43
def w_Mo_target_211 (X : MX) (x1 x2 x3 x4 x5 x6 : Int32) (m : MS) (Φ : Option Value → MS → Prop) (K43 : Int32 → Int32 → Int32 → Int32 → Int32 → MS → Prop) : Prop := w_Mo_target_212 X (x1) (x2) (x3) (x4) (x5) (x6) (0) m Φ K43
theorem t_Mo_target_211 {X : MX} {a0 : Array Value} (F : mF X a0) {d : Nat} {x1 x2 x3 x4 x5 x6 : Int32} {o7 : Option Value} {m : MS} {σ : jS} {Φ : Option Value → MS → Prop} {K43 : Int32 → Int32 → Int32 → Int32 → Int32 → MS → Prop} (hV : MV X m σ) (h : w_Mo_target_211 X x1 x2 x3 x4 x5 x6 m Φ K43) (hK43 : ∀ (x1 x2 x3 x4 x5 : Int32) (o6 o7 : Option Value) (m : MS) (σ : jS), MV X m σ → K43 x1 x2 x3 x4 x5 m → jW X.1 X.2.1 jcl X.2.2.1 X.2.2.2.1 (d + 1) y_Mo_target 43 [some (.ref (mo X)), some (.int x1), some (.int x2), some (.int x3), some (.int x4), some (.int x5), o6, o7] [] σ (mQ X Φ σ)) : jW X.1 X.2.1 jcl X.2.2.1 X.2.2.2.1 (d + 1) y_Mo_target 211 [some (.ref (mo X)), some (.int x1), some (.int x2), some (.int x3), some (.int x4), some (.int x5), some (.int x6), o7] [] σ (mQ X Φ σ) := by
  unfold w_Mo_target_211 at h
  refine jW.iconst (v := 0) (dx_Mo_target 110 (e := (211, .iconst 0, 1)) rfl) (by decide) (pc' := 212) rfl ?_
  exact t_Mo_target_212 F hV h hK43
def w_Mo_target_207 (X : MX) (x1 x2 x3 x4 x5 x6 : Int32) (m : MS) (Φ : Option Value → MS → Prop) (K43 : Int32 → Int32 → Int32 → Int32 → Int32 → MS → Prop) : Prop := w_Mo_target_212 X (x1) (x2) (x3) (x4) (x5) (x6) (1) m Φ K43
theorem t_Mo_target_207 {X : MX} {a0 : Array Value} (F : mF X a0) {d : Nat} {x1 x2 x3 x4 x5 x6 : Int32} {o7 : Option Value} {m : MS} {σ : jS} {Φ : Option Value → MS → Prop} {K43 : Int32 → Int32 → Int32 → Int32 → Int32 → MS → Prop} (hV : MV X m σ) (h : w_Mo_target_207 X x1 x2 x3 x4 x5 x6 m Φ K43) (hK43 : ∀ (x1 x2 x3 x4 x5 : Int32) (o6 o7 : Option Value) (m : MS) (σ : jS), MV X m σ → K43 x1 x2 x3 x4 x5 m → jW X.1 X.2.1 jcl X.2.2.1 X.2.2.2.1 (d + 1) y_Mo_target 43 [some (.ref (mo X)), some (.int x1), some (.int x2), some (.int x3), some (.int x4), some (.int x5), o6, o7] [] σ (mQ X Φ σ)) : jW X.1 X.2.1 jcl X.2.2.1 X.2.2.2.1 (d + 1) y_Mo_target 207 [some (.ref (mo X)), some (.int x1), some (.int x2), some (.int x3), some (.int x4), some (.int x5), some (.int x6), o7] [] σ (mQ X Φ σ) := by
  unfold w_Mo_target_207 at h
  refine jW.iconst (v := 1) (dx_Mo_target 108 (e := (207, .iconst 1, 1)) rfl) (by decide) (pc' := 208) rfl ?_
  refine jW.goto (dx_Mo_target 109 (e := (208, .goto 4, 3)) rfl) 212 (by decide) ?_
  exact t_Mo_target_212 F hV h hK43
def w_Mo_target_132 (X : MX) (x1 x2 x3 x4 x5 x6 : Int32) (m : MS) (Φ : Option Value → MS → Prop) (K43 : Int32 → Int32 → Int32 → Int32 → Int32 → MS → Prop) : Prop := ((x6 = 92 → ((x2 ≤ x3 + 1 → w_Mo_target_211 X (x1) (x2) (x3) (x4) (x5) (x6) m Φ K43) ∧ (¬ x2 ≤ x3 + 1 → ((x4 = 0 → (vp_in (x3 + 1) 48000 ∧ mE X 0 y_Mo_isAscii [.int (m.2 7 (x3 + 1 : Int32).toNatClampNeg)] m (iP fun r1 m1 => ((r1 = 0 → w_Mo_target_211 X (x1) (x2) (x3) (x4) (x5) (x6) m1 Φ K43) ∧ (¬ r1 = 0 → w_Mo_target_207 X (x1) (x2) (x3) (x4) (x5) (x6) m1 Φ K43))))) ∧ (¬ x4 = 0 → (vp_in (x3 + 1) 48000 ∧ ((m.2 7 (x3 + 1 : Int32).toNatClampNeg = 60 → w_Mo_target_207 X (x1) (x2) (x3) (x4) (x5) (x6) m Φ K43) ∧ (¬ m.2 7 (x3 + 1 : Int32).toNatClampNeg = 60 → (vp_in (x3 + 1) 48000 ∧ ((m.2 7 (x3 + 1 : Int32).toNatClampNeg = 62 → w_Mo_target_207 X (x1) (x2) (x3) (x4) (x5) (x6) m Φ K43) ∧ (¬ m.2 7 (x3 + 1 : Int32).toNatClampNeg = 62 → (vp_in (x3 + 1) 48000 ∧ ((m.2 7 (x3 + 1 : Int32).toNatClampNeg = 92 → w_Mo_target_207 X (x1) (x2) (x3) (x4) (x5) (x6) m Φ K43) ∧ (¬ m.2 7 (x3 + 1 : Int32).toNatClampNeg = 92 → w_Mo_target_211 X (x1) (x2) (x3) (x4) (x5) (x6) m Φ K43)))))))))))))) ∧ (¬ x6 = 92 → w_Mo_target_211 X (x1) (x2) (x3) (x4) (x5) (x6) m Φ K43))
theorem t_Mo_target_132 {X : MX} {a0 : Array Value} (F : mF X a0) {d : Nat} {x1 x2 x3 x4 x5 x6 : Int32} {o7 : Option Value} {m : MS} {σ : jS} {Φ : Option Value → MS → Prop} {K43 : Int32 → Int32 → Int32 → Int32 → Int32 → MS → Prop} (hV : MV X m σ) (h : w_Mo_target_132 X x1 x2 x3 x4 x5 x6 m Φ K43) (hK43 : ∀ (x1 x2 x3 x4 x5 : Int32) (o6 o7 : Option Value) (m : MS) (σ : jS), MV X m σ → K43 x1 x2 x3 x4 x5 m → jW X.1 X.2.1 jcl X.2.2.1 X.2.2.2.1 (d + 1) y_Mo_target 43 [some (.ref (mo X)), some (.int x1), some (.int x2), some (.int x3), some (.int x4), some (.int x5), o6, o7] [] σ (mQ X Φ σ)) : jW X.1 X.2.1 jcl X.2.2.1 X.2.2.2.1 (d + 1) y_Mo_target 132 [some (.ref (mo X)), some (.int x1), some (.int x2), some (.int x3), some (.int x4), some (.int x5), some (.int x6), o7] [] σ (mQ X Φ σ) := by
  unfold w_Mo_target_132 at h
  refine jW.iload (dx_Mo_target 65 (e := (132, .iload 6, 2)) rfl) rfl (pc' := 134) rfl ?_
  refine jW.bipush (v := 92) (dx_Mo_target 66 (e := (134, .bipush 92, 2)) rfl) (by decide) (pc' := 136) rfl ?_
  refine jW.icmp_ne (dx_Mo_target 67 (e := (136, .if_icmp .ne 75, 3)) rfl) 211 (by decide) (pc' := 139) rfl (fun c => ?_) (fun c => ?_)
  · replace h := h.2 c
    exact t_Mo_target_211 F hV h hK43
  · replace h := h.1 c
    refine jW.iload_n (dx_Mo_target 68 (e := (139, .iload_n 3, 1)) rfl) rfl rfl (pc' := 140) rfl ?_
    refine jW.iconst (v := 1) (dx_Mo_target 69 (e := (140, .iconst 1, 1)) rfl) (by decide) (pc' := 141) rfl ?_
    refine jW.iadd (dx_Mo_target 70 (e := (141, .iadd, 1)) rfl) (pc' := 142) rfl ?_
    refine jW.iload_n (dx_Mo_target 71 (e := (142, .iload_n 2, 1)) rfl) rfl rfl (pc' := 143) rfl ?_
    refine jW.icmp_ge (dx_Mo_target 72 (e := (143, .if_icmp .ge 68, 3)) rfl) 211 (by decide) (pc' := 146) rfl (fun c => ?_) (fun c => ?_)
    · replace h := h.1 c
      exact t_Mo_target_211 F hV h hK43
    · replace h := h.2 c
      refine jW.iload (dx_Mo_target 73 (e := (146, .iload 4, 2)) rfl) rfl (pc' := 148) rfl ?_
      refine jW.if_eq (dx_Mo_target 74 (e := (148, .ifCond .eq 45, 3)) rfl) 193 (by decide) (pc' := 151) rfl (fun c => ?_) (fun c => ?_)
      · replace h := h.1 c
        refine jW.aload_n (dx_Mo_target 100 (e := (193, .aload_n 0, 1)) rfl) rfl rfl (pc' := 194) rfl ?_
        refine jW.mga F hV f_Mo_target_194 (by decide) (pc' := 197) rfl ?_
        refine jW.iload_n (dx_Mo_target 102 (e := (197, .iload_n 3, 1)) rfl) rfl rfl (pc' := 198) rfl ?_
        refine jW.iconst (v := 1) (dx_Mo_target 103 (e := (198, .iconst 1, 1)) rfl) (by decide) (pc' := 199) rfl ?_
        refine jW.iadd (dx_Mo_target 104 (e := (199, .iadd, 1)) rfl) (pc' := 200) rfl ?_
        refine jW.mla F hV (dx_Mo_target 105 (e := (200, .iaload, 1)) rfl) (by decide) rfl h.1 (pc' := 201) rfl ?_
        replace h := h.2
        refine jW.callS F (h (d + 0) _ hV) (dx_Mo_target 106 (e := (201, .invokestatic 285, 3)) rfl) can_Mo_isAscii jw_1233 jw_1234 rfl rfl (Nat.le_of_ble_eq_true rfl) (pc' := 204) rfl (fun r σ hr => ?_)
        clear hV
        refine mQ.up hr.1 ?_
        obtain ⟨_, hV, _, rfl, h⟩ := hr.2
        refine jW.if_eq (dx_Mo_target 107 (e := (204, .ifCond .eq 7, 3)) rfl) 211 (by decide) (pc' := 207) rfl (fun c => ?_) (fun c => ?_)
        · replace h := h.1 c
          exact t_Mo_target_211 F hV h hK43
        · replace h := h.2 c
          exact t_Mo_target_207 F hV h hK43
      · replace h := h.2 c
        refine jW.aload_n (dx_Mo_target 75 (e := (151, .aload_n 0, 1)) rfl) rfl rfl (pc' := 152) rfl ?_
        refine jW.mga F hV f_Mo_target_152 (by decide) (pc' := 155) rfl ?_
        refine jW.iload_n (dx_Mo_target 77 (e := (155, .iload_n 3, 1)) rfl) rfl rfl (pc' := 156) rfl ?_
        refine jW.iconst (v := 1) (dx_Mo_target 78 (e := (156, .iconst 1, 1)) rfl) (by decide) (pc' := 157) rfl ?_
        refine jW.iadd (dx_Mo_target 79 (e := (157, .iadd, 1)) rfl) (pc' := 158) rfl ?_
        refine jW.mla F hV (dx_Mo_target 80 (e := (158, .iaload, 1)) rfl) (by decide) rfl h.1 (pc' := 159) rfl ?_
        replace h := h.2
        refine jW.bipush (v := 60) (dx_Mo_target 81 (e := (159, .bipush 60, 2)) rfl) (by decide) (pc' := 161) rfl ?_
        refine jW.icmp_eq (dx_Mo_target 82 (e := (161, .if_icmp .eq 46, 3)) rfl) 207 (by decide) (pc' := 164) rfl (fun c => ?_) (fun c => ?_)
        · replace h := h.1 c
          exact t_Mo_target_207 F hV h hK43
        · replace h := h.2 c
          refine jW.aload_n (dx_Mo_target 83 (e := (164, .aload_n 0, 1)) rfl) rfl rfl (pc' := 165) rfl ?_
          refine jW.mga F hV f_Mo_target_165 (by decide) (pc' := 168) rfl ?_
          refine jW.iload_n (dx_Mo_target 85 (e := (168, .iload_n 3, 1)) rfl) rfl rfl (pc' := 169) rfl ?_
          refine jW.iconst (v := 1) (dx_Mo_target 86 (e := (169, .iconst 1, 1)) rfl) (by decide) (pc' := 170) rfl ?_
          refine jW.iadd (dx_Mo_target 87 (e := (170, .iadd, 1)) rfl) (pc' := 171) rfl ?_
          refine jW.mla F hV (dx_Mo_target 88 (e := (171, .iaload, 1)) rfl) (by decide) rfl h.1 (pc' := 172) rfl ?_
          replace h := h.2
          refine jW.bipush (v := 62) (dx_Mo_target 89 (e := (172, .bipush 62, 2)) rfl) (by decide) (pc' := 174) rfl ?_
          refine jW.icmp_eq (dx_Mo_target 90 (e := (174, .if_icmp .eq 33, 3)) rfl) 207 (by decide) (pc' := 177) rfl (fun c => ?_) (fun c => ?_)
          · replace h := h.1 c
            exact t_Mo_target_207 F hV h hK43
          · replace h := h.2 c
            refine jW.aload_n (dx_Mo_target 91 (e := (177, .aload_n 0, 1)) rfl) rfl rfl (pc' := 178) rfl ?_
            refine jW.mga F hV f_Mo_target_178 (by decide) (pc' := 181) rfl ?_
            refine jW.iload_n (dx_Mo_target 93 (e := (181, .iload_n 3, 1)) rfl) rfl rfl (pc' := 182) rfl ?_
            refine jW.iconst (v := 1) (dx_Mo_target 94 (e := (182, .iconst 1, 1)) rfl) (by decide) (pc' := 183) rfl ?_
            refine jW.iadd (dx_Mo_target 95 (e := (183, .iadd, 1)) rfl) (pc' := 184) rfl ?_
            refine jW.mla F hV (dx_Mo_target 96 (e := (184, .iaload, 1)) rfl) (by decide) rfl h.1 (pc' := 185) rfl ?_
            replace h := h.2
            refine jW.bipush (v := 92) (dx_Mo_target 97 (e := (185, .bipush 92, 2)) rfl) (by decide) (pc' := 187) rfl ?_
            refine jW.icmp_ne (dx_Mo_target 98 (e := (187, .if_icmp .ne 24, 3)) rfl) 211 (by decide) (pc' := 190) rfl (fun c => ?_) (fun c => ?_)
            · replace h := h.2 c
              exact t_Mo_target_211 F hV h hK43
            · replace h := h.1 c
              refine jW.goto (dx_Mo_target 99 (e := (190, .goto 17, 3)) rfl) 207 (by decide) ?_
              exact t_Mo_target_207 F hV h hK43
def w_Mo_target_94 (X : MX) (x1 x2 x3 x4 x5 x6 : Int32) (m : MS) (Φ : Option Value → MS → Prop) (K43 : Int32 → Int32 → Int32 → Int32 → Int32 → MS → Prop) : Prop := ((x4 = 0 → ((x6 ≤ 32 → w_Mo_target_130 X (x1) (x2) (x3) (x4) (x5) (x6) m Φ) ∧ (¬ x6 ≤ 32 → ((x6 = 127 → w_Mo_target_130 X (x1) (x2) (x3) (x4) (x5) (x6) m Φ) ∧ (¬ x6 = 127 → w_Mo_target_132 X (x1) (x2) (x3) (x4) (x5) (x6) m Φ K43))))) ∧ (¬ x4 = 0 → ((x6 = 10 → w_Mo_target_130 X (x1) (x2) (x3) (x4) (x5) (x6) m Φ) ∧ (¬ x6 = 10 → ((x6 = 60 → w_Mo_target_130 X (x1) (x2) (x3) (x4) (x5) (x6) m Φ) ∧ (¬ x6 = 60 → w_Mo_target_132 X (x1) (x2) (x3) (x4) (x5) (x6) m Φ K43))))))
theorem t_Mo_target_94 {X : MX} {a0 : Array Value} (F : mF X a0) {d : Nat} {x1 x2 x3 x4 x5 x6 : Int32} {o7 : Option Value} {m : MS} {σ : jS} {Φ : Option Value → MS → Prop} {K43 : Int32 → Int32 → Int32 → Int32 → Int32 → MS → Prop} (hV : MV X m σ) (h : w_Mo_target_94 X x1 x2 x3 x4 x5 x6 m Φ K43) (hK43 : ∀ (x1 x2 x3 x4 x5 : Int32) (o6 o7 : Option Value) (m : MS) (σ : jS), MV X m σ → K43 x1 x2 x3 x4 x5 m → jW X.1 X.2.1 jcl X.2.2.1 X.2.2.2.1 (d + 1) y_Mo_target 43 [some (.ref (mo X)), some (.int x1), some (.int x2), some (.int x3), some (.int x4), some (.int x5), o6, o7] [] σ (mQ X Φ σ)) : jW X.1 X.2.1 jcl X.2.2.1 X.2.2.2.1 (d + 1) y_Mo_target 94 [some (.ref (mo X)), some (.int x1), some (.int x2), some (.int x3), some (.int x4), some (.int x5), some (.int x6), o7] [] σ (mQ X Φ σ) := by
  unfold w_Mo_target_94 at h
  refine jW.iload (dx_Mo_target 48 (e := (94, .iload 4, 2)) rfl) rfl (pc' := 96) rfl ?_
  refine jW.if_eq (dx_Mo_target 49 (e := (96, .ifCond .eq 20, 3)) rfl) 116 (by decide) (pc' := 99) rfl (fun c => ?_) (fun c => ?_)
  · replace h := h.1 c
    refine jW.iload (dx_Mo_target 57 (e := (116, .iload 6, 2)) rfl) rfl (pc' := 118) rfl ?_
    refine jW.bipush (v := 32) (dx_Mo_target 58 (e := (118, .bipush 32, 2)) rfl) (by decide) (pc' := 120) rfl ?_
    refine jW.icmp_le (dx_Mo_target 59 (e := (120, .if_icmp .le 10, 3)) rfl) 130 (by decide) (pc' := 123) rfl (fun c => ?_) (fun c => ?_)
    · replace h := h.1 c
      exact t_Mo_target_130 F hV h
    · replace h := h.2 c
      refine jW.iload (dx_Mo_target 60 (e := (123, .iload 6, 2)) rfl) rfl (pc' := 125) rfl ?_
      refine jW.bipush (v := 127) (dx_Mo_target 61 (e := (125, .bipush 127, 2)) rfl) (by decide) (pc' := 127) rfl ?_
      refine jW.icmp_ne (dx_Mo_target 62 (e := (127, .if_icmp .ne 5, 3)) rfl) 132 (by decide) (pc' := 130) rfl (fun c => ?_) (fun c => ?_)
      · replace h := h.2 c
        exact t_Mo_target_132 F hV h hK43
      · replace h := h.1 c
        exact t_Mo_target_130 F hV h
  · replace h := h.2 c
    refine jW.iload (dx_Mo_target 50 (e := (99, .iload 6, 2)) rfl) rfl (pc' := 101) rfl ?_
    refine jW.bipush (v := 10) (dx_Mo_target 51 (e := (101, .bipush 10, 2)) rfl) (by decide) (pc' := 103) rfl ?_
    refine jW.icmp_eq (dx_Mo_target 52 (e := (103, .if_icmp .eq 27, 3)) rfl) 130 (by decide) (pc' := 106) rfl (fun c => ?_) (fun c => ?_)
    · replace h := h.1 c
      exact t_Mo_target_130 F hV h
    · replace h := h.2 c
      refine jW.iload (dx_Mo_target 53 (e := (106, .iload 6, 2)) rfl) rfl (pc' := 108) rfl ?_
      refine jW.bipush (v := 60) (dx_Mo_target 54 (e := (108, .bipush 60, 2)) rfl) (by decide) (pc' := 110) rfl ?_
      refine jW.icmp_ne (dx_Mo_target 55 (e := (110, .if_icmp .ne 22, 3)) rfl) 132 (by decide) (pc' := 113) rfl (fun c => ?_) (fun c => ?_)
      · replace h := h.2 c
        exact t_Mo_target_132 F hV h hK43
      · replace h := h.1 c
        refine jW.goto (dx_Mo_target 56 (e := (113, .goto 17, 3)) rfl) 130 (by decide) ?_
        exact t_Mo_target_130 F hV h
def w_Mo_target_43 (X : MX) (x1 x2 x3 x4 x5 : Int32) (m : MS) (Φ : Option Value → MS → Prop) (K43 : Int32 → Int32 → Int32 → Int32 → Int32 → MS → Prop) : Prop := ((x2 ≤ x3 → w_Mo_target_264 X (x1) (x2) (x3) (x4) (x5) m Φ) ∧ (¬ x2 ≤ x3 → (vp_in (x3) 48000 ∧ ((x4 = 0 → mE X 0 y_Mo_isWhite [.int (m.2 7 (x3 : Int32).toNatClampNeg)] m (iP fun r1 m1 => ((r1 = 0 → ((m.2 7 (x3 : Int32).toNatClampNeg = 41 → ((x5 = 0 → w_Mo_target_264 X (x1) (x2) (x3) (x4) (x5) m1 Φ) ∧ (¬ x5 = 0 → w_Mo_target_94 X (x1) (x2) (x3) (x4) (x5) (m.2 7 (x3 : Int32).toNatClampNeg) m1 Φ K43))) ∧ (¬ m.2 7 (x3 : Int32).toNatClampNeg = 41 → w_Mo_target_94 X (x1) (x2) (x3) (x4) (x5) (m.2 7 (x3 : Int32).toNatClampNeg) m1 Φ K43))) ∧ (¬ r1 = 0 → w_Mo_target_264 X (x1) (x2) (x3) (x4) (x5) m1 Φ)))) ∧ (¬ x4 = 0 → ((m.2 7 (x3 : Int32).toNatClampNeg = 62 → w_Mo_target_264 X (x1) (x2) (x3) (x4) (x5) m Φ) ∧ (¬ m.2 7 (x3 : Int32).toNatClampNeg = 62 → w_Mo_target_94 X (x1) (x2) (x3) (x4) (x5) (m.2 7 (x3 : Int32).toNatClampNeg) m Φ K43)))))))
theorem t_Mo_target_43 {X : MX} {a0 : Array Value} (F : mF X a0) {d : Nat} {x1 x2 x3 x4 x5 : Int32} {o6 o7 : Option Value} {m : MS} {σ : jS} {Φ : Option Value → MS → Prop} {K43 : Int32 → Int32 → Int32 → Int32 → Int32 → MS → Prop} (hV : MV X m σ) (h : w_Mo_target_43 X x1 x2 x3 x4 x5 m Φ K43) (hK43 : ∀ (x1 x2 x3 x4 x5 : Int32) (o6 o7 : Option Value) (m : MS) (σ : jS), MV X m σ → K43 x1 x2 x3 x4 x5 m → jW X.1 X.2.1 jcl X.2.2.1 X.2.2.2.1 (d + 1) y_Mo_target 43 [some (.ref (mo X)), some (.int x1), some (.int x2), some (.int x3), some (.int x4), some (.int x5), o6, o7] [] σ (mQ X Φ σ)) : jW X.1 X.2.1 jcl X.2.2.1 X.2.2.2.1 (d + 1) y_Mo_target 43 [some (.ref (mo X)), some (.int x1), some (.int x2), some (.int x3), some (.int x4), some (.int x5), o6, o7] [] σ (mQ X Φ σ) := by
  unfold w_Mo_target_43 at h
  refine jW.iload_n (dx_Mo_target 25 (e := (43, .iload_n 3, 1)) rfl) rfl rfl (pc' := 44) rfl ?_
  refine jW.iload_n (dx_Mo_target 26 (e := (44, .iload_n 2, 1)) rfl) rfl rfl (pc' := 45) rfl ?_
  refine jW.icmp_ge (dx_Mo_target 27 (e := (45, .if_icmp .ge 219, 3)) rfl) 264 (by decide) (pc' := 48) rfl (fun c => ?_) (fun c => ?_)
  · replace h := h.1 c
    exact t_Mo_target_264 F hV h
  · replace h := h.2 c
    refine jW.aload_n (dx_Mo_target 28 (e := (48, .aload_n 0, 1)) rfl) rfl rfl (pc' := 49) rfl ?_
    refine jW.mga F hV f_Mo_target_49 (by decide) (pc' := 52) rfl ?_
    refine jW.iload_n (dx_Mo_target 30 (e := (52, .iload_n 3, 1)) rfl) rfl rfl (pc' := 53) rfl ?_
    refine jW.mla F hV (dx_Mo_target 31 (e := (53, .iaload, 1)) rfl) (by decide) rfl h.1 (pc' := 54) rfl ?_
    replace h := h.2
    refine jW.istore (dx_Mo_target 32 (e := (54, .istore 6, 2)) rfl) (by decide) rfl (pc' := 56) rfl ?_
    refine jW.iload (dx_Mo_target 33 (e := (56, .iload 4, 2)) rfl) rfl (pc' := 58) rfl ?_
    refine jW.if_eq (dx_Mo_target 34 (e := (58, .ifCond .eq 13, 3)) rfl) 71 (by decide) (pc' := 61) rfl (fun c => ?_) (fun c => ?_)
    · replace h := h.1 c
      refine jW.iload (dx_Mo_target 39 (e := (71, .iload 6, 2)) rfl) rfl (pc' := 73) rfl ?_
      refine jW.callS F (h (d + 0) _ hV) (dx_Mo_target 40 (e := (73, .invokestatic 279, 3)) rfl) can_Mo_isWhite jw_1222 jw_1223 rfl rfl (Nat.le_of_ble_eq_true rfl) (pc' := 76) rfl (fun r σ hr => ?_)
      clear hV
      refine mQ.up hr.1 ?_
      obtain ⟨_, hV, _, rfl, h⟩ := hr.2
      refine jW.if_ne (dx_Mo_target 41 (e := (76, .ifCond .ne 188, 3)) rfl) 264 (by decide) (pc' := 79) rfl (fun c => ?_) (fun c => ?_)
      · replace h := h.2 c
        exact t_Mo_target_264 F hV h
      · replace h := h.1 c
        refine jW.iload (dx_Mo_target 42 (e := (79, .iload 6, 2)) rfl) rfl (pc' := 81) rfl ?_
        refine jW.bipush (v := 41) (dx_Mo_target 43 (e := (81, .bipush 41, 2)) rfl) (by decide) (pc' := 83) rfl ?_
        refine jW.icmp_ne (dx_Mo_target 44 (e := (83, .if_icmp .ne 11, 3)) rfl) 94 (by decide) (pc' := 86) rfl (fun c => ?_) (fun c => ?_)
        · replace h := h.2 c
          exact t_Mo_target_94 F hV h hK43
        · replace h := h.1 c
          refine jW.iload (dx_Mo_target 45 (e := (86, .iload 5, 2)) rfl) rfl (pc' := 88) rfl ?_
          refine jW.if_ne (dx_Mo_target 46 (e := (88, .ifCond .ne 6, 3)) rfl) 94 (by decide) (pc' := 91) rfl (fun c => ?_) (fun c => ?_)
          · replace h := h.2 c
            exact t_Mo_target_94 F hV h hK43
          · replace h := h.1 c
            refine jW.goto (dx_Mo_target 47 (e := (91, .goto 173, 3)) rfl) 264 (by decide) ?_
            exact t_Mo_target_264 F hV h
    · replace h := h.2 c
      refine jW.iload (dx_Mo_target 35 (e := (61, .iload 6, 2)) rfl) rfl (pc' := 63) rfl ?_
      refine jW.bipush (v := 62) (dx_Mo_target 36 (e := (63, .bipush 62, 2)) rfl) (by decide) (pc' := 65) rfl ?_
      refine jW.icmp_ne (dx_Mo_target 37 (e := (65, .if_icmp .ne 29, 3)) rfl) 94 (by decide) (pc' := 68) rfl (fun c => ?_) (fun c => ?_)
      · replace h := h.2 c
        exact t_Mo_target_94 F hV h hK43
      · replace h := h.1 c
        refine jW.goto (dx_Mo_target 38 (e := (68, .goto 196, 3)) rfl) 264 (by decide) ?_
        exact t_Mo_target_264 F hV h
def w_Mo_target_38 (X : MX) (x1 x2 x3 x4 x5 : Int32) (m : MS) (Φ : Option Value → MS → Prop) (K43 : Int32 → Int32 → Int32 → Int32 → Int32 → MS → Prop) : Prop := ∀ m1, m1 = mI m 47 (x3) → K43 (x1) (x2) (x3) (x4) (x5) m1
theorem t_Mo_target_38 {X : MX} {a0 : Array Value} (F : mF X a0) {d : Nat} {x1 x2 x3 x4 x5 : Int32} {o6 o7 : Option Value} {m : MS} {σ : jS} {Φ : Option Value → MS → Prop} {K43 : Int32 → Int32 → Int32 → Int32 → Int32 → MS → Prop} (hV : MV X m σ) (h : w_Mo_target_38 X x1 x2 x3 x4 x5 m Φ K43) (hK43 : ∀ (x1 x2 x3 x4 x5 : Int32) (o6 o7 : Option Value) (m : MS) (σ : jS), MV X m σ → K43 x1 x2 x3 x4 x5 m → jW X.1 X.2.1 jcl X.2.2.1 X.2.2.2.1 (d + 1) y_Mo_target 43 [some (.ref (mo X)), some (.int x1), some (.int x2), some (.int x3), some (.int x4), some (.int x5), o6, o7] [] σ (mQ X Φ σ)) : jW X.1 X.2.1 jcl X.2.2.1 X.2.2.2.1 (d + 1) y_Mo_target 38 [some (.ref (mo X)), some (.int x1), some (.int x2), some (.int x3), some (.int x4), some (.int x5), o6, o7] [] σ (mQ X Φ σ) := by
  unfold w_Mo_target_38 at h
  refine jW.aload_n (dx_Mo_target 22 (e := (38, .aload_n 0, 1)) rfl) rfl rfl (pc' := 39) rfl ?_
  refine jW.iload_n (dx_Mo_target 23 (e := (39, .iload_n 3, 1)) rfl) rfl rfl (pc' := 40) rfl ?_
  refine jW.mpi F hV f_Mo_target_40 (by decide) rfl rfl rfl (pc' := 43) rfl (fun σ hV => ?_)
  replace h := h _ rfl
  exact hK43 _ _ _ _ _ _ _ _ _ hV h
def w_Mo_target_25 (X : MX) (x1 x2 x3 s0 : Int32) (m : MS) (Φ : Option Value → MS → Prop) (K43 : Int32 → Int32 → Int32 → Int32 → Int32 → MS → Prop) : Prop := ((s0 = 0 → w_Mo_target_38 X (x1) (x2) (x3) (s0) (0) m Φ K43) ∧ (¬ s0 = 0 → w_Mo_target_38 X (x1) (x2) (x3 + 1) (s0) (0) m Φ K43))
theorem t_Mo_target_25 {X : MX} {a0 : Array Value} (F : mF X a0) {d : Nat} {x1 x2 x3 s0 : Int32} {o4 o5 o6 o7 : Option Value} {m : MS} {σ : jS} {Φ : Option Value → MS → Prop} {K43 : Int32 → Int32 → Int32 → Int32 → Int32 → MS → Prop} (hV : MV X m σ) (h : w_Mo_target_25 X x1 x2 x3 s0 m Φ K43) (hK43 : ∀ (x1 x2 x3 x4 x5 : Int32) (o6 o7 : Option Value) (m : MS) (σ : jS), MV X m σ → K43 x1 x2 x3 x4 x5 m → jW X.1 X.2.1 jcl X.2.2.1 X.2.2.2.1 (d + 1) y_Mo_target 43 [some (.ref (mo X)), some (.int x1), some (.int x2), some (.int x3), some (.int x4), some (.int x5), o6, o7] [] σ (mQ X Φ σ)) : jW X.1 X.2.1 jcl X.2.2.1 X.2.2.2.1 (d + 1) y_Mo_target 25 [some (.ref (mo X)), some (.int x1), some (.int x2), some (.int x3), o4, o5, o6, o7] [.int s0] σ (mQ X Φ σ) := by
  unfold w_Mo_target_25 at h
  refine jW.istore (dx_Mo_target 16 (e := (25, .istore 4, 2)) rfl) (by decide) rfl (pc' := 27) rfl ?_
  refine jW.iconst (v := 0) (dx_Mo_target 17 (e := (27, .iconst 0, 1)) rfl) (by decide) (pc' := 28) rfl ?_
  refine jW.istore (dx_Mo_target 18 (e := (28, .istore 5, 2)) rfl) (by decide) rfl (pc' := 30) rfl ?_
  refine jW.iload (dx_Mo_target 19 (e := (30, .iload 4, 2)) rfl) rfl (pc' := 32) rfl ?_
  refine jW.if_eq (dx_Mo_target 20 (e := (32, .ifCond .eq 6, 3)) rfl) 38 (by decide) (pc' := 35) rfl (fun c => ?_) (fun c => ?_)
  · replace h := h.1 c
    exact t_Mo_target_38 F hV h hK43
  · replace h := h.2 c
    refine jW.iinc (v := _ + (1)) (dx_Mo_target 21 (e := (35, .iinc 3 1, 3)) rfl) rfl rfl (by decide) rfl (pc' := 38) rfl ?_
    exact t_Mo_target_38 F hV h hK43
def w_Mo_target_0 (X : MX) (x1 x2 : Int32) (m : MS) (Φ : Option Value → MS → Prop) (K43 : Int32 → Int32 → Int32 → Int32 → Int32 → MS → Prop) : Prop := ((x1 < x2 → (vp_in (x1) 48000 ∧ ((m.2 7 (x1 : Int32).toNatClampNeg = 60 → w_Mo_target_25 X (x1) (x2) (x1) (1) m Φ K43) ∧ (¬ m.2 7 (x1 : Int32).toNatClampNeg = 60 → w_Mo_target_25 X (x1) (x2) (x1) (0) m Φ K43)))) ∧ (¬ x1 < x2 → Φ (some (.int (-1))) m))
theorem t_Mo_target_0 {X : MX} {a0 : Array Value} (F : mF X a0) {d : Nat} {x1 x2 : Int32} {o3 o4 o5 o6 o7 : Option Value} {m : MS} {σ : jS} {Φ : Option Value → MS → Prop} {K43 : Int32 → Int32 → Int32 → Int32 → Int32 → MS → Prop} (hV : MV X m σ) (h : w_Mo_target_0 X x1 x2 m Φ K43) (hK43 : ∀ (x1 x2 x3 x4 x5 : Int32) (o6 o7 : Option Value) (m : MS) (σ : jS), MV X m σ → K43 x1 x2 x3 x4 x5 m → jW X.1 X.2.1 jcl X.2.2.1 X.2.2.2.1 (d + 1) y_Mo_target 43 [some (.ref (mo X)), some (.int x1), some (.int x2), some (.int x3), some (.int x4), some (.int x5), o6, o7] [] σ (mQ X Φ σ)) : jW X.1 X.2.1 jcl X.2.2.1 X.2.2.2.1 (d + 1) y_Mo_target 0 [some (.ref (mo X)), some (.int x1), some (.int x2), o3, o4, o5, o6, o7] [] σ (mQ X Φ σ) := by
  unfold w_Mo_target_0 at h
  refine jW.iload_n (dx_Mo_target 0 (e := (0, .iload_n 1, 1)) rfl) rfl rfl (pc' := 1) rfl ?_
  refine jW.iload_n (dx_Mo_target 1 (e := (1, .iload_n 2, 1)) rfl) rfl rfl (pc' := 2) rfl ?_
  refine jW.icmp_lt (dx_Mo_target 2 (e := (2, .if_icmp .lt 5, 3)) rfl) 7 (by decide) (pc' := 5) rfl (fun c => ?_) (fun c => ?_)
  · replace h := h.1 c
    refine jW.iload_n (dx_Mo_target 5 (e := (7, .iload_n 1, 1)) rfl) rfl rfl (pc' := 8) rfl ?_
    refine jW.istore_n (dx_Mo_target 6 (e := (8, .istore_n 3, 1)) rfl) rfl (by decide) rfl (pc' := 9) rfl ?_
    refine jW.aload_n (dx_Mo_target 7 (e := (9, .aload_n 0, 1)) rfl) rfl rfl (pc' := 10) rfl ?_
    refine jW.mga F hV f_Mo_target_10 (by decide) (pc' := 13) rfl ?_
    refine jW.iload_n (dx_Mo_target 9 (e := (13, .iload_n 1, 1)) rfl) rfl rfl (pc' := 14) rfl ?_
    refine jW.mla F hV (dx_Mo_target 10 (e := (14, .iaload, 1)) rfl) (by decide) rfl h.1 (pc' := 15) rfl ?_
    replace h := h.2
    refine jW.bipush (v := 60) (dx_Mo_target 11 (e := (15, .bipush 60, 2)) rfl) (by decide) (pc' := 17) rfl ?_
    refine jW.icmp_ne (dx_Mo_target 12 (e := (17, .if_icmp .ne 7, 3)) rfl) 24 (by decide) (pc' := 20) rfl (fun c => ?_) (fun c => ?_)
    · replace h := h.2 c
      refine jW.iconst (v := 0) (dx_Mo_target 15 (e := (24, .iconst 0, 1)) rfl) (by decide) (pc' := 25) rfl ?_
      exact t_Mo_target_25 F hV h hK43
    · replace h := h.1 c
      refine jW.iconst (v := 1) (dx_Mo_target 13 (e := (20, .iconst 1, 1)) rfl) (by decide) (pc' := 21) rfl ?_
      refine jW.goto (dx_Mo_target 14 (e := (21, .goto 4, 3)) rfl) 25 (by decide) ?_
      exact t_Mo_target_25 F hV h hK43
  · replace h := h.2 c
    refine jW.iconst (v := -1) (dx_Mo_target 3 (e := (5, .iconst (-1), 1)) rfl) (by decide) (pc' := 6) rfl ?_
    exact jW.iret (dx_Mo_target 4 (e := (6, .ireturn, 1)) rfl) rfl ⟨FR.rfl, _, hV, h⟩
theorem g_Mo_target {X : MX} {a0 : Array Value} (F : mF X a0) {x1 x2 : Int32} {m : MS} {Φ : Option Value → MS → Prop} {I43 : Nat → Int32 → Int32 → Int32 → Int32 → Int32 → MS → Prop} (he : w_Mo_target_0 X x1 x2 m Φ (fun x1 x2 x3 x4 x5 m => ∃ j, I43 j x1 x2 x3 x4 x5 m)) (h43 : ∀ (n : Nat) (x1 x2 x3 x4 x5 : Int32) (m : MS), I43 n x1 x2 x3 x4 x5 m → w_Mo_target_43 X x1 x2 x3 x4 x5 m Φ (fun x1 x2 x3 x4 x5 m => ∃ j, j < n ∧ I43 j x1 x2 x3 x4 x5 m)) : mE X 1 y_Mo_target [.ref (mo X), .int x1, .int x2] m Φ := by
  intro d σ hV
  have hL43 : ∀ n, (∀ (x1 x2 x3 x4 x5 : Int32) (o6 o7 : Option Value) (m : MS) (σ : jS), MV X m σ → I43 n x1 x2 x3 x4 x5 m → jW X.1 X.2.1 jcl X.2.2.1 X.2.2.2.1 (d + 1) y_Mo_target 43 [some (.ref (mo X)), some (.int x1), some (.int x2), some (.int x3), some (.int x4), some (.int x5), o6, o7] [] σ (mQ X Φ σ)) := by
    intro n
    induction n using Nat.strongRecOn with
    | _ n ih =>
      exact fun x1 x2 x3 x4 x5 o6 o7 m σ hV hI => t_Mo_target_43 F hV (h43 n x1 x2 x3 x4 x5 m hI) (fun x1 x2 x3 x4 x5 o6 o7 m σ hV ⟨j, hj, hI⟩ => (ih j hj) x1 x2 x3 x4 x5 o6 o7 m σ hV hI)
  refine jE.of (by decide) (by simp [Value.category]) (Nat.le_of_ble_eq_true rfl) rfl ?_
  exact t_Mo_target_0 F hV he (fun x1 x2 x3 x4 x5 o6 o7 m σ hV ⟨j, hI⟩ => (hL43 j) x1 x2 x3 x4 x5 o6 o7 m σ hV hI)
def w_Mo_isAscii_53 (X : MX) (x0 s0 : Int32) (m : MS) (Φ : Option Value → MS → Prop) : Prop := (mZ (s0) ∧ Φ (some (.int (s0))) m)
theorem t_Mo_isAscii_53 {X : MX} {a0 : Array Value} (F : mF X a0) {d : Nat} {x0 s0 : Int32} {m : MS} {σ : jS} {Φ : Option Value → MS → Prop} (hV : MV X m σ) (h : w_Mo_isAscii_53 X x0 s0 m Φ) : jW X.1 X.2.1 jcl X.2.2.1 X.2.2.2.1 (d + 0) y_Mo_isAscii 53 [some (.int x0)] [.int s0] σ (mQ X Φ σ) := by
  unfold w_Mo_isAscii_53 at h
  exact jW.zret (dx_Mo_isAscii 27 (e := (53, .ireturn, 1)) rfl) rfl h.1.n ⟨FR.rfl, _, hV, h.2⟩
def w_Mo_isAscii_52 (X : MX) (x0 : Int32) (m : MS) (Φ : Option Value → MS → Prop) : Prop := w_Mo_isAscii_53 X (x0) (0) m Φ
theorem t_Mo_isAscii_52 {X : MX} {a0 : Array Value} (F : mF X a0) {d : Nat} {x0 : Int32} {m : MS} {σ : jS} {Φ : Option Value → MS → Prop} (hV : MV X m σ) (h : w_Mo_isAscii_52 X x0 m Φ) : jW X.1 X.2.1 jcl X.2.2.1 X.2.2.2.1 (d + 0) y_Mo_isAscii 52 [some (.int x0)] [] σ (mQ X Φ σ) := by
  unfold w_Mo_isAscii_52 at h
  refine jW.iconst (v := 0) (dx_Mo_isAscii 26 (e := (52, .iconst 0, 1)) rfl) (by decide) (pc' := 53) rfl ?_
  exact t_Mo_isAscii_53 F hV h
def w_Mo_isAscii_48 (X : MX) (x0 : Int32) (m : MS) (Φ : Option Value → MS → Prop) : Prop := w_Mo_isAscii_53 X (x0) (1) m Φ
theorem t_Mo_isAscii_48 {X : MX} {a0 : Array Value} (F : mF X a0) {d : Nat} {x0 : Int32} {m : MS} {σ : jS} {Φ : Option Value → MS → Prop} (hV : MV X m σ) (h : w_Mo_isAscii_48 X x0 m Φ) : jW X.1 X.2.1 jcl X.2.2.1 X.2.2.2.1 (d + 0) y_Mo_isAscii 48 [some (.int x0)] [] σ (mQ X Φ σ) := by
  unfold w_Mo_isAscii_48 at h
  refine jW.iconst (v := 1) (dx_Mo_isAscii 24 (e := (48, .iconst 1, 1)) rfl) (by decide) (pc' := 49) rfl ?_
  refine jW.goto (dx_Mo_isAscii 25 (e := (49, .goto 4, 3)) rfl) 53 (by decide) ?_
  exact t_Mo_isAscii_53 F hV h
def w_Mo_isAscii_36 (X : MX) (x0 : Int32) (m : MS) (Φ : Option Value → MS → Prop) : Prop := ((x0 < 123 → w_Mo_isAscii_52 X (x0) m Φ) ∧ (¬ x0 < 123 → ((126 < x0 → w_Mo_isAscii_52 X (x0) m Φ) ∧ (¬ 126 < x0 → w_Mo_isAscii_48 X (x0) m Φ))))
theorem t_Mo_isAscii_36 {X : MX} {a0 : Array Value} (F : mF X a0) {d : Nat} {x0 : Int32} {m : MS} {σ : jS} {Φ : Option Value → MS → Prop} (hV : MV X m σ) (h : w_Mo_isAscii_36 X x0 m Φ) : jW X.1 X.2.1 jcl X.2.2.1 X.2.2.2.1 (d + 0) y_Mo_isAscii 36 [some (.int x0)] [] σ (mQ X Φ σ) := by
  unfold w_Mo_isAscii_36 at h
  refine jW.iload_n (dx_Mo_isAscii 18 (e := (36, .iload_n 0, 1)) rfl) rfl rfl (pc' := 37) rfl ?_
  refine jW.bipush (v := 123) (dx_Mo_isAscii 19 (e := (37, .bipush 123, 2)) rfl) (by decide) (pc' := 39) rfl ?_
  refine jW.icmp_lt (dx_Mo_isAscii 20 (e := (39, .if_icmp .lt 13, 3)) rfl) 52 (by decide) (pc' := 42) rfl (fun c => ?_) (fun c => ?_)
  · replace h := h.1 c
    exact t_Mo_isAscii_52 F hV h
  · replace h := h.2 c
    refine jW.iload_n (dx_Mo_isAscii 21 (e := (42, .iload_n 0, 1)) rfl) rfl rfl (pc' := 43) rfl ?_
    refine jW.bipush (v := 126) (dx_Mo_isAscii 22 (e := (43, .bipush 126, 2)) rfl) (by decide) (pc' := 45) rfl ?_
    refine jW.icmp_gt (dx_Mo_isAscii 23 (e := (45, .if_icmp .gt 7, 3)) rfl) 52 (by decide) (pc' := 48) rfl (fun c => ?_) (fun c => ?_)
    · replace h := h.1 c
      exact t_Mo_isAscii_52 F hV h
    · replace h := h.2 c
      exact t_Mo_isAscii_48 F hV h
def w_Mo_isAscii_24 (X : MX) (x0 : Int32) (m : MS) (Φ : Option Value → MS → Prop) : Prop := ((x0 < 91 → w_Mo_isAscii_36 X (x0) m Φ) ∧ (¬ x0 < 91 → ((x0 ≤ 96 → w_Mo_isAscii_48 X (x0) m Φ) ∧ (¬ x0 ≤ 96 → w_Mo_isAscii_36 X (x0) m Φ))))
theorem t_Mo_isAscii_24 {X : MX} {a0 : Array Value} (F : mF X a0) {d : Nat} {x0 : Int32} {m : MS} {σ : jS} {Φ : Option Value → MS → Prop} (hV : MV X m σ) (h : w_Mo_isAscii_24 X x0 m Φ) : jW X.1 X.2.1 jcl X.2.2.1 X.2.2.2.1 (d + 0) y_Mo_isAscii 24 [some (.int x0)] [] σ (mQ X Φ σ) := by
  unfold w_Mo_isAscii_24 at h
  refine jW.iload_n (dx_Mo_isAscii 12 (e := (24, .iload_n 0, 1)) rfl) rfl rfl (pc' := 25) rfl ?_
  refine jW.bipush (v := 91) (dx_Mo_isAscii 13 (e := (25, .bipush 91, 2)) rfl) (by decide) (pc' := 27) rfl ?_
  refine jW.icmp_lt (dx_Mo_isAscii 14 (e := (27, .if_icmp .lt 9, 3)) rfl) 36 (by decide) (pc' := 30) rfl (fun c => ?_) (fun c => ?_)
  · replace h := h.1 c
    exact t_Mo_isAscii_36 F hV h
  · replace h := h.2 c
    refine jW.iload_n (dx_Mo_isAscii 15 (e := (30, .iload_n 0, 1)) rfl) rfl rfl (pc' := 31) rfl ?_
    refine jW.bipush (v := 96) (dx_Mo_isAscii 16 (e := (31, .bipush 96, 2)) rfl) (by decide) (pc' := 33) rfl ?_
    refine jW.icmp_le (dx_Mo_isAscii 17 (e := (33, .if_icmp .le 15, 3)) rfl) 48 (by decide) (pc' := 36) rfl (fun c => ?_) (fun c => ?_)
    · replace h := h.1 c
      exact t_Mo_isAscii_48 F hV h
    · replace h := h.2 c
      exact t_Mo_isAscii_36 F hV h
def w_Mo_isAscii_12 (X : MX) (x0 : Int32) (m : MS) (Φ : Option Value → MS → Prop) : Prop := ((x0 < 58 → w_Mo_isAscii_24 X (x0) m Φ) ∧ (¬ x0 < 58 → ((x0 ≤ 64 → w_Mo_isAscii_48 X (x0) m Φ) ∧ (¬ x0 ≤ 64 → w_Mo_isAscii_24 X (x0) m Φ))))
theorem t_Mo_isAscii_12 {X : MX} {a0 : Array Value} (F : mF X a0) {d : Nat} {x0 : Int32} {m : MS} {σ : jS} {Φ : Option Value → MS → Prop} (hV : MV X m σ) (h : w_Mo_isAscii_12 X x0 m Φ) : jW X.1 X.2.1 jcl X.2.2.1 X.2.2.2.1 (d + 0) y_Mo_isAscii 12 [some (.int x0)] [] σ (mQ X Φ σ) := by
  unfold w_Mo_isAscii_12 at h
  refine jW.iload_n (dx_Mo_isAscii 6 (e := (12, .iload_n 0, 1)) rfl) rfl rfl (pc' := 13) rfl ?_
  refine jW.bipush (v := 58) (dx_Mo_isAscii 7 (e := (13, .bipush 58, 2)) rfl) (by decide) (pc' := 15) rfl ?_
  refine jW.icmp_lt (dx_Mo_isAscii 8 (e := (15, .if_icmp .lt 9, 3)) rfl) 24 (by decide) (pc' := 18) rfl (fun c => ?_) (fun c => ?_)
  · replace h := h.1 c
    exact t_Mo_isAscii_24 F hV h
  · replace h := h.2 c
    refine jW.iload_n (dx_Mo_isAscii 9 (e := (18, .iload_n 0, 1)) rfl) rfl rfl (pc' := 19) rfl ?_
    refine jW.bipush (v := 64) (dx_Mo_isAscii 10 (e := (19, .bipush 64, 2)) rfl) (by decide) (pc' := 21) rfl ?_
    refine jW.icmp_le (dx_Mo_isAscii 11 (e := (21, .if_icmp .le 27, 3)) rfl) 48 (by decide) (pc' := 24) rfl (fun c => ?_) (fun c => ?_)
    · replace h := h.1 c
      exact t_Mo_isAscii_48 F hV h
    · replace h := h.2 c
      exact t_Mo_isAscii_24 F hV h
def w_Mo_isAscii_0 (X : MX) (x0 : Int32) (m : MS) (Φ : Option Value → MS → Prop) : Prop := ((x0 < 33 → w_Mo_isAscii_12 X (x0) m Φ) ∧ (¬ x0 < 33 → ((x0 ≤ 47 → w_Mo_isAscii_48 X (x0) m Φ) ∧ (¬ x0 ≤ 47 → w_Mo_isAscii_12 X (x0) m Φ))))
theorem t_Mo_isAscii_0 {X : MX} {a0 : Array Value} (F : mF X a0) {d : Nat} {x0 : Int32} {m : MS} {σ : jS} {Φ : Option Value → MS → Prop} (hV : MV X m σ) (h : w_Mo_isAscii_0 X x0 m Φ) : jW X.1 X.2.1 jcl X.2.2.1 X.2.2.2.1 (d + 0) y_Mo_isAscii 0 [some (.int x0)] [] σ (mQ X Φ σ) := by
  unfold w_Mo_isAscii_0 at h
  refine jW.iload_n (dx_Mo_isAscii 0 (e := (0, .iload_n 0, 1)) rfl) rfl rfl (pc' := 1) rfl ?_
  refine jW.bipush (v := 33) (dx_Mo_isAscii 1 (e := (1, .bipush 33, 2)) rfl) (by decide) (pc' := 3) rfl ?_
  refine jW.icmp_lt (dx_Mo_isAscii 2 (e := (3, .if_icmp .lt 9, 3)) rfl) 12 (by decide) (pc' := 6) rfl (fun c => ?_) (fun c => ?_)
  · replace h := h.1 c
    exact t_Mo_isAscii_12 F hV h
  · replace h := h.2 c
    refine jW.iload_n (dx_Mo_isAscii 3 (e := (6, .iload_n 0, 1)) rfl) rfl rfl (pc' := 7) rfl ?_
    refine jW.bipush (v := 47) (dx_Mo_isAscii 4 (e := (7, .bipush 47, 2)) rfl) (by decide) (pc' := 9) rfl ?_
    refine jW.icmp_le (dx_Mo_isAscii 5 (e := (9, .if_icmp .le 39, 3)) rfl) 48 (by decide) (pc' := 12) rfl (fun c => ?_) (fun c => ?_)
    · replace h := h.1 c
      exact t_Mo_isAscii_48 F hV h
    · replace h := h.2 c
      exact t_Mo_isAscii_12 F hV h
theorem g_Mo_isAscii {X : MX} {a0 : Array Value} (F : mF X a0) {x0 : Int32} {m : MS} {Φ : Option Value → MS → Prop} (he : w_Mo_isAscii_0 X x0 m Φ) : mE X 0 y_Mo_isAscii [.int x0] m Φ := by
  intro d σ hV
  refine jE.of (by decide) (by simp [Value.category]) (Nat.le_of_ble_eq_true rfl) rfl ?_
  exact t_Mo_isAscii_0 F hV he
def w_Mo_lineEnd_45 (X : MX) (x1 x2 x3 s0 : Int32) (m : MS) (Φ : Option Value → MS → Prop) : Prop := Φ (some (.int (s0))) m
theorem t_Mo_lineEnd_45 {X : MX} {a0 : Array Value} (F : mF X a0) {d : Nat} {x1 x2 x3 s0 : Int32} {m : MS} {σ : jS} {Φ : Option Value → MS → Prop} (hV : MV X m σ) (h : w_Mo_lineEnd_45 X x1 x2 x3 s0 m Φ) : jW X.1 X.2.1 jcl X.2.2.1 X.2.2.2.1 (d + 0) y_Mo_lineEnd 45 [some (.ref (mo X)), some (.int x1), some (.int x2), some (.int x3)] [.int s0] σ (mQ X Φ σ) := by
  unfold w_Mo_lineEnd_45 at h
  exact jW.iret (dx_Mo_lineEnd 25 (e := (45, .ireturn, 1)) rfl) rfl ⟨FR.rfl, _, hV, h⟩
def w_Mo_lineEnd_40 (X : MX) (x1 x2 x3 : Int32) (m : MS) (Φ : Option Value → MS → Prop) : Prop := w_Mo_lineEnd_45 X (x1) (x2) (x3) (x3) m Φ
theorem t_Mo_lineEnd_40 {X : MX} {a0 : Array Value} (F : mF X a0) {d : Nat} {x1 x2 x3 : Int32} {m : MS} {σ : jS} {Φ : Option Value → MS → Prop} (hV : MV X m σ) (h : w_Mo_lineEnd_40 X x1 x2 x3 m Φ) : jW X.1 X.2.1 jcl X.2.2.1 X.2.2.2.1 (d + 0) y_Mo_lineEnd 40 [some (.ref (mo X)), some (.int x1), some (.int x2), some (.int x3)] [] σ (mQ X Φ σ) := by
  unfold w_Mo_lineEnd_40 at h
  refine jW.iload_n (dx_Mo_lineEnd 22 (e := (40, .iload_n 3, 1)) rfl) rfl rfl (pc' := 41) rfl ?_
  refine jW.goto (dx_Mo_lineEnd 23 (e := (41, .goto 4, 3)) rfl) 45 (by decide) ?_
  exact t_Mo_lineEnd_45 F hV h
def w_Mo_lineEnd_24 (X : MX) (x1 x2 x3 : Int32) (m : MS) (Φ : Option Value → MS → Prop) : Prop := ((x3 = x2 → w_Mo_lineEnd_40 X (x1) (x2) (x3) m Φ) ∧ (¬ x3 = x2 → (vp_in (x3) 48000 ∧ ((m.2 7 (x3 : Int32).toNatClampNeg = 10 → w_Mo_lineEnd_40 X (x1) (x2) (x3) m Φ) ∧ (¬ m.2 7 (x3 : Int32).toNatClampNeg = 10 → w_Mo_lineEnd_45 X (x1) (x2) (x3) (-1) m Φ)))))
theorem t_Mo_lineEnd_24 {X : MX} {a0 : Array Value} (F : mF X a0) {d : Nat} {x1 x2 x3 : Int32} {m : MS} {σ : jS} {Φ : Option Value → MS → Prop} (hV : MV X m σ) (h : w_Mo_lineEnd_24 X x1 x2 x3 m Φ) : jW X.1 X.2.1 jcl X.2.2.1 X.2.2.2.1 (d + 0) y_Mo_lineEnd 24 [some (.ref (mo X)), some (.int x1), some (.int x2), some (.int x3)] [] σ (mQ X Φ σ) := by
  unfold w_Mo_lineEnd_24 at h
  refine jW.iload_n (dx_Mo_lineEnd 13 (e := (24, .iload_n 3, 1)) rfl) rfl rfl (pc' := 25) rfl ?_
  refine jW.iload_n (dx_Mo_lineEnd 14 (e := (25, .iload_n 2, 1)) rfl) rfl rfl (pc' := 26) rfl ?_
  refine jW.icmp_eq (dx_Mo_lineEnd 15 (e := (26, .if_icmp .eq 14, 3)) rfl) 40 (by decide) (pc' := 29) rfl (fun c => ?_) (fun c => ?_)
  · replace h := h.1 c
    exact t_Mo_lineEnd_40 F hV h
  · replace h := h.2 c
    refine jW.aload_n (dx_Mo_lineEnd 16 (e := (29, .aload_n 0, 1)) rfl) rfl rfl (pc' := 30) rfl ?_
    refine jW.mga F hV f_Mo_lineEnd_30 (by decide) (pc' := 33) rfl ?_
    refine jW.iload_n (dx_Mo_lineEnd 18 (e := (33, .iload_n 3, 1)) rfl) rfl rfl (pc' := 34) rfl ?_
    refine jW.mla F hV (dx_Mo_lineEnd 19 (e := (34, .iaload, 1)) rfl) (by decide) rfl h.1 (pc' := 35) rfl ?_
    replace h := h.2
    refine jW.bipush (v := 10) (dx_Mo_lineEnd 20 (e := (35, .bipush 10, 2)) rfl) (by decide) (pc' := 37) rfl ?_
    refine jW.icmp_ne (dx_Mo_lineEnd 21 (e := (37, .if_icmp .ne 7, 3)) rfl) 44 (by decide) (pc' := 40) rfl (fun c => ?_) (fun c => ?_)
    · replace h := h.2 c
      refine jW.iconst (v := -1) (dx_Mo_lineEnd 24 (e := (44, .iconst (-1), 1)) rfl) (by decide) (pc' := 45) rfl ?_
      exact t_Mo_lineEnd_45 F hV h
    · replace h := h.1 c
      exact t_Mo_lineEnd_40 F hV h
def w_Mo_lineEnd_2 (X : MX) (x1 x2 x3 : Int32) (m : MS) (Φ : Option Value → MS → Prop) (K2 : Int32 → Int32 → Int32 → MS → Prop) : Prop := ((x2 ≤ x3 → w_Mo_lineEnd_24 X (x1) (x2) (x3) m Φ) ∧ (¬ x2 ≤ x3 → (vp_in (x3) 48000 ∧ ((m.2 7 (x3 : Int32).toNatClampNeg = 32 → K2 (x1) (x2) (x3 + 1) m) ∧ (¬ m.2 7 (x3 : Int32).toNatClampNeg = 32 → w_Mo_lineEnd_24 X (x1) (x2) (x3) m Φ)))))
theorem t_Mo_lineEnd_2 {X : MX} {a0 : Array Value} (F : mF X a0) {d : Nat} {x1 x2 x3 : Int32} {m : MS} {σ : jS} {Φ : Option Value → MS → Prop} {K2 : Int32 → Int32 → Int32 → MS → Prop} (hV : MV X m σ) (h : w_Mo_lineEnd_2 X x1 x2 x3 m Φ K2) (hK2 : ∀ (x1 x2 x3 : Int32) (m : MS) (σ : jS), MV X m σ → K2 x1 x2 x3 m → jW X.1 X.2.1 jcl X.2.2.1 X.2.2.2.1 (d + 0) y_Mo_lineEnd 2 [some (.ref (mo X)), some (.int x1), some (.int x2), some (.int x3)] [] σ (mQ X Φ σ)) : jW X.1 X.2.1 jcl X.2.2.1 X.2.2.2.1 (d + 0) y_Mo_lineEnd 2 [some (.ref (mo X)), some (.int x1), some (.int x2), some (.int x3)] [] σ (mQ X Φ σ) := by
  unfold w_Mo_lineEnd_2 at h
  refine jW.iload_n (dx_Mo_lineEnd 2 (e := (2, .iload_n 3, 1)) rfl) rfl rfl (pc' := 3) rfl ?_
  refine jW.iload_n (dx_Mo_lineEnd 3 (e := (3, .iload_n 2, 1)) rfl) rfl rfl (pc' := 4) rfl ?_
  refine jW.icmp_ge (dx_Mo_lineEnd 4 (e := (4, .if_icmp .ge 20, 3)) rfl) 24 (by decide) (pc' := 7) rfl (fun c => ?_) (fun c => ?_)
  · replace h := h.1 c
    exact t_Mo_lineEnd_24 F hV h
  · replace h := h.2 c
    refine jW.aload_n (dx_Mo_lineEnd 5 (e := (7, .aload_n 0, 1)) rfl) rfl rfl (pc' := 8) rfl ?_
    refine jW.mga F hV f_Mo_lineEnd_8 (by decide) (pc' := 11) rfl ?_
    refine jW.iload_n (dx_Mo_lineEnd 7 (e := (11, .iload_n 3, 1)) rfl) rfl rfl (pc' := 12) rfl ?_
    refine jW.mla F hV (dx_Mo_lineEnd 8 (e := (12, .iaload, 1)) rfl) (by decide) rfl h.1 (pc' := 13) rfl ?_
    replace h := h.2
    refine jW.bipush (v := 32) (dx_Mo_lineEnd 9 (e := (13, .bipush 32, 2)) rfl) (by decide) (pc' := 15) rfl ?_
    refine jW.icmp_ne (dx_Mo_lineEnd 10 (e := (15, .if_icmp .ne 9, 3)) rfl) 24 (by decide) (pc' := 18) rfl (fun c => ?_) (fun c => ?_)
    · replace h := h.2 c
      exact t_Mo_lineEnd_24 F hV h
    · replace h := h.1 c
      refine jW.iinc (v := _ + (1)) (dx_Mo_lineEnd 11 (e := (18, .iinc 3 1, 3)) rfl) rfl rfl (by decide) rfl (pc' := 21) rfl ?_
      refine jW.goto (dx_Mo_lineEnd 12 (e := (21, .goto (-19), 3)) rfl) 2 (by decide) ?_
      exact hK2 _ _ _ _ _ hV h
def w_Mo_lineEnd_0 (X : MX) (x1 x2 : Int32) (m : MS) (Φ : Option Value → MS → Prop) (K2 : Int32 → Int32 → Int32 → MS → Prop) : Prop := K2 (x1) (x2) (x1) m
theorem t_Mo_lineEnd_0 {X : MX} {a0 : Array Value} (F : mF X a0) {d : Nat} {x1 x2 : Int32} {o3 : Option Value} {m : MS} {σ : jS} {Φ : Option Value → MS → Prop} {K2 : Int32 → Int32 → Int32 → MS → Prop} (hV : MV X m σ) (h : w_Mo_lineEnd_0 X x1 x2 m Φ K2) (hK2 : ∀ (x1 x2 x3 : Int32) (m : MS) (σ : jS), MV X m σ → K2 x1 x2 x3 m → jW X.1 X.2.1 jcl X.2.2.1 X.2.2.2.1 (d + 0) y_Mo_lineEnd 2 [some (.ref (mo X)), some (.int x1), some (.int x2), some (.int x3)] [] σ (mQ X Φ σ)) : jW X.1 X.2.1 jcl X.2.2.1 X.2.2.2.1 (d + 0) y_Mo_lineEnd 0 [some (.ref (mo X)), some (.int x1), some (.int x2), o3] [] σ (mQ X Φ σ) := by
  unfold w_Mo_lineEnd_0 at h
  refine jW.iload_n (dx_Mo_lineEnd 0 (e := (0, .iload_n 1, 1)) rfl) rfl rfl (pc' := 1) rfl ?_
  refine jW.istore_n (dx_Mo_lineEnd 1 (e := (1, .istore_n 3, 1)) rfl) rfl (by decide) rfl (pc' := 2) rfl ?_
  exact hK2 _ _ _ _ _ hV h
theorem g_Mo_lineEnd {X : MX} {a0 : Array Value} (F : mF X a0) {x1 x2 : Int32} {m : MS} {Φ : Option Value → MS → Prop} {I2 : Nat → Int32 → Int32 → Int32 → MS → Prop} (he : w_Mo_lineEnd_0 X x1 x2 m Φ (fun x1 x2 x3 m => ∃ j, I2 j x1 x2 x3 m)) (h2 : ∀ (n : Nat) (x1 x2 x3 : Int32) (m : MS), I2 n x1 x2 x3 m → w_Mo_lineEnd_2 X x1 x2 x3 m Φ (fun x1 x2 x3 m => ∃ j, j < n ∧ I2 j x1 x2 x3 m)) : mE X 0 y_Mo_lineEnd [.ref (mo X), .int x1, .int x2] m Φ := by
  intro d σ hV
  have hL2 : ∀ n, (∀ (x1 x2 x3 : Int32) (m : MS) (σ : jS), MV X m σ → I2 n x1 x2 x3 m → jW X.1 X.2.1 jcl X.2.2.1 X.2.2.2.1 (d + 0) y_Mo_lineEnd 2 [some (.ref (mo X)), some (.int x1), some (.int x2), some (.int x3)] [] σ (mQ X Φ σ)) := by
    intro n
    induction n using Nat.strongRecOn with
    | _ n ih =>
      exact fun x1 x2 x3 m σ hV hI => t_Mo_lineEnd_2 F hV (h2 n x1 x2 x3 m hI) (fun x1 x2 x3 m σ hV ⟨j, hj, hI⟩ => (ih j hj) x1 x2 x3 m σ hV hI)
  refine jE.of (by decide) (by simp [Value.category]) (Nat.le_of_ble_eq_true rfl) rfl ?_
  exact t_Mo_lineEnd_0 F hV he (fun x1 x2 x3 m σ hV ⟨j, hI⟩ => (hL2 j) x1 x2 x3 m σ hV hI)
def w_Mo_title_133 (X : MX) (x1 x2 x3 x4 x5 : Int32) (m : MS) (Φ : Option Value → MS → Prop) : Prop := Φ (some (.int (-1))) m
theorem t_Mo_title_133 {X : MX} {a0 : Array Value} (F : mF X a0) {d : Nat} {x1 x2 x3 x4 x5 : Int32} {m : MS} {σ : jS} {Φ : Option Value → MS → Prop} (hV : MV X m σ) (h : w_Mo_title_133 X x1 x2 x3 x4 x5 m Φ) : jW X.1 X.2.1 jcl X.2.2.1 X.2.2.2.1 (d + 0) y_Mo_title 133 [some (.ref (mo X)), some (.int x1), some (.int x2), some (.int x3), some (.int x4), some (.int x5)] [] σ (mQ X Φ σ) := by
  unfold w_Mo_title_133 at h
  refine jW.iconst (v := -1) (dx_Mo_title 74 (e := (133, .iconst (-1), 1)) rfl) (by decide) (pc' := 134) rfl ?_
  exact jW.iret (dx_Mo_title 75 (e := (134, .ireturn, 1)) rfl) rfl ⟨FR.rfl, _, hV, h⟩
def w_Mo_title_115 (X : MX) (x1 x2 x3 x4 x5 : Int32) (m : MS) (Φ : Option Value → MS → Prop) : Prop := ((x2 ≤ x5 → w_Mo_title_133 X (x1) (x2) (x3) (x4) (x5) m Φ) ∧ (¬ x2 ≤ x5 → (vp_in (x5) 48000 ∧ ((m.2 7 (x5 : Int32).toNatClampNeg = x4 → ∀ m1, m1 = mI m 49 (x1 + 1) → ∀ m2, m2 = mI m1 50 ((x5 - x1) - 1) → Φ (some (.int (x5 + 1))) m2) ∧ (¬ m.2 7 (x5 : Int32).toNatClampNeg = x4 → w_Mo_title_133 X (x1) (x2) (x3) (x4) (x5) m Φ)))))
theorem t_Mo_title_115 {X : MX} {a0 : Array Value} (F : mF X a0) {d : Nat} {x1 x2 x3 x4 x5 : Int32} {m : MS} {σ : jS} {Φ : Option Value → MS → Prop} (hV : MV X m σ) (h : w_Mo_title_115 X x1 x2 x3 x4 x5 m Φ) : jW X.1 X.2.1 jcl X.2.2.1 X.2.2.2.1 (d + 0) y_Mo_title 115 [some (.ref (mo X)), some (.int x1), some (.int x2), some (.int x3), some (.int x4), some (.int x5)] [] σ (mQ X Φ σ) := by
  unfold w_Mo_title_115 at h
  refine jW.iload (dx_Mo_title 65 (e := (115, .iload 5, 2)) rfl) rfl (pc' := 117) rfl ?_
  refine jW.iload_n (dx_Mo_title 66 (e := (117, .iload_n 2, 1)) rfl) rfl rfl (pc' := 118) rfl ?_
  refine jW.icmp_ge (dx_Mo_title 67 (e := (118, .if_icmp .ge 15, 3)) rfl) 133 (by decide) (pc' := 121) rfl (fun c => ?_) (fun c => ?_)
  · replace h := h.1 c
    exact t_Mo_title_133 F hV h
  · replace h := h.2 c
    refine jW.aload_n (dx_Mo_title 68 (e := (121, .aload_n 0, 1)) rfl) rfl rfl (pc' := 122) rfl ?_
    refine jW.mga F hV f_Mo_title_122 (by decide) (pc' := 125) rfl ?_
    refine jW.iload (dx_Mo_title 70 (e := (125, .iload 5, 2)) rfl) rfl (pc' := 127) rfl ?_
    refine jW.mla F hV (dx_Mo_title 71 (e := (127, .iaload, 1)) rfl) (by decide) rfl h.1 (pc' := 128) rfl ?_
    replace h := h.2
    refine jW.iload (dx_Mo_title 72 (e := (128, .iload 4, 2)) rfl) rfl (pc' := 130) rfl ?_
    refine jW.icmp_eq (dx_Mo_title 73 (e := (130, .if_icmp .eq 5, 3)) rfl) 135 (by decide) (pc' := 133) rfl (fun c => ?_) (fun c => ?_)
    · replace h := h.1 c
      refine jW.aload_n (dx_Mo_title 76 (e := (135, .aload_n 0, 1)) rfl) rfl rfl (pc' := 136) rfl ?_
      refine jW.iload_n (dx_Mo_title 77 (e := (136, .iload_n 1, 1)) rfl) rfl rfl (pc' := 137) rfl ?_
      refine jW.iconst (v := 1) (dx_Mo_title 78 (e := (137, .iconst 1, 1)) rfl) (by decide) (pc' := 138) rfl ?_
      refine jW.iadd (dx_Mo_title 79 (e := (138, .iadd, 1)) rfl) (pc' := 139) rfl ?_
      refine jW.mpi F hV f_Mo_title_139 (by decide) rfl rfl rfl (pc' := 142) rfl (fun σ hV => ?_)
      replace h := h _ rfl
      refine jW.aload_n (dx_Mo_title 81 (e := (142, .aload_n 0, 1)) rfl) rfl rfl (pc' := 143) rfl ?_
      refine jW.iload (dx_Mo_title 82 (e := (143, .iload 5, 2)) rfl) rfl (pc' := 145) rfl ?_
      refine jW.iload_n (dx_Mo_title 83 (e := (145, .iload_n 1, 1)) rfl) rfl rfl (pc' := 146) rfl ?_
      refine jW.isub (dx_Mo_title 84 (e := (146, .isub, 1)) rfl) (pc' := 147) rfl ?_
      refine jW.iconst (v := 1) (dx_Mo_title 85 (e := (147, .iconst 1, 1)) rfl) (by decide) (pc' := 148) rfl ?_
      refine jW.isub (dx_Mo_title 86 (e := (148, .isub, 1)) rfl) (pc' := 149) rfl ?_
      refine jW.mpi F hV f_Mo_title_149 (by decide) rfl rfl rfl (pc' := 152) rfl (fun σ hV => ?_)
      replace h := h _ rfl
      refine jW.iload (dx_Mo_title 88 (e := (152, .iload 5, 2)) rfl) rfl (pc' := 154) rfl ?_
      refine jW.iconst (v := 1) (dx_Mo_title 89 (e := (154, .iconst 1, 1)) rfl) (by decide) (pc' := 155) rfl ?_
      refine jW.iadd (dx_Mo_title 90 (e := (155, .iadd, 1)) rfl) (pc' := 156) rfl ?_
      exact jW.iret (dx_Mo_title 91 (e := (156, .ireturn, 1)) rfl) rfl ⟨FR.rfl, _, hV, h⟩
    · replace h := h.2 c
      exact t_Mo_title_133 F hV h
def w_Mo_title_109 (X : MX) (x1 x2 x3 x4 x5 s0 s1 : Int32) (m : MS) (Φ : Option Value → MS → Prop) (K53 : Int32 → Int32 → Int32 → Int32 → Int32 → MS → Prop) : Prop := K53 (x1) (x2) (x3) (x4) (s0 + s1) m
theorem t_Mo_title_109 {X : MX} {a0 : Array Value} (F : mF X a0) {d : Nat} {x1 x2 x3 x4 x5 s0 s1 : Int32} {m : MS} {σ : jS} {Φ : Option Value → MS → Prop} {K53 : Int32 → Int32 → Int32 → Int32 → Int32 → MS → Prop} (hV : MV X m σ) (h : w_Mo_title_109 X x1 x2 x3 x4 x5 s0 s1 m Φ K53) (hK53 : ∀ (x1 x2 x3 x4 x5 : Int32) (m : MS) (σ : jS), MV X m σ → K53 x1 x2 x3 x4 x5 m → jW X.1 X.2.1 jcl X.2.2.1 X.2.2.2.1 (d + 0) y_Mo_title 53 [some (.ref (mo X)), some (.int x1), some (.int x2), some (.int x3), some (.int x4), some (.int x5)] [] σ (mQ X Φ σ)) : jW X.1 X.2.1 jcl X.2.2.1 X.2.2.2.1 (d + 0) y_Mo_title 109 [some (.ref (mo X)), some (.int x1), some (.int x2), some (.int x3), some (.int x4), some (.int x5)] [.int s1, .int s0] σ (mQ X Φ σ) := by
  unfold w_Mo_title_109 at h
  refine jW.iadd (dx_Mo_title 62 (e := (109, .iadd, 1)) rfl) (pc' := 110) rfl ?_
  refine jW.istore (dx_Mo_title 63 (e := (110, .istore 5, 2)) rfl) (by decide) rfl (pc' := 112) rfl ?_
  refine jW.goto (dx_Mo_title 64 (e := (112, .goto (-59), 3)) rfl) 53 (by decide) ?_
  exact hK53 _ _ _ _ _ _ _ hV h
def w_Mo_title_108 (X : MX) (x1 x2 x3 x4 x5 s0 : Int32) (m : MS) (Φ : Option Value → MS → Prop) (K53 : Int32 → Int32 → Int32 → Int32 → Int32 → MS → Prop) : Prop := w_Mo_title_109 X (x1) (x2) (x3) (x4) (x5) (s0) (1) m Φ K53
theorem t_Mo_title_108 {X : MX} {a0 : Array Value} (F : mF X a0) {d : Nat} {x1 x2 x3 x4 x5 s0 : Int32} {m : MS} {σ : jS} {Φ : Option Value → MS → Prop} {K53 : Int32 → Int32 → Int32 → Int32 → Int32 → MS → Prop} (hV : MV X m σ) (h : w_Mo_title_108 X x1 x2 x3 x4 x5 s0 m Φ K53) (hK53 : ∀ (x1 x2 x3 x4 x5 : Int32) (m : MS) (σ : jS), MV X m σ → K53 x1 x2 x3 x4 x5 m → jW X.1 X.2.1 jcl X.2.2.1 X.2.2.2.1 (d + 0) y_Mo_title 53 [some (.ref (mo X)), some (.int x1), some (.int x2), some (.int x3), some (.int x4), some (.int x5)] [] σ (mQ X Φ σ)) : jW X.1 X.2.1 jcl X.2.2.1 X.2.2.2.1 (d + 0) y_Mo_title 108 [some (.ref (mo X)), some (.int x1), some (.int x2), some (.int x3), some (.int x4), some (.int x5)] [.int s0] σ (mQ X Φ σ) := by
  unfold w_Mo_title_108 at h
  refine jW.iconst (v := 1) (dx_Mo_title 61 (e := (108, .iconst 1, 1)) rfl) (by decide) (pc' := 109) rfl ?_
  exact t_Mo_title_109 F hV h hK53
def w_Mo_title_53 (X : MX) (x1 x2 x3 x4 x5 : Int32) (m : MS) (Φ : Option Value → MS → Prop) (K53 : Int32 → Int32 → Int32 → Int32 → Int32 → MS → Prop) : Prop := ((x2 ≤ x5 → w_Mo_title_115 X (x1) (x2) (x3) (x4) (x5) m Φ) ∧ (¬ x2 ≤ x5 → (vp_in (x5) 48000 ∧ ((m.2 7 (x5 : Int32).toNatClampNeg = x4 → w_Mo_title_115 X (x1) (x2) (x3) (x4) (x5) m Φ) ∧ (¬ m.2 7 (x5 : Int32).toNatClampNeg = x4 → (vp_in (x5) 48000 ∧ ((m.2 7 (x5 : Int32).toNatClampNeg = x3 → w_Mo_title_115 X (x1) (x2) (x3) (x4) (x5) m Φ) ∧ (¬ m.2 7 (x5 : Int32).toNatClampNeg = x3 → (vp_in (x5) 48000 ∧ ((m.2 7 (x5 : Int32).toNatClampNeg = 92 → ((x2 ≤ x5 + 1 → w_Mo_title_108 X (x1) (x2) (x3) (x4) (x5) (x5) m Φ K53) ∧ (¬ x2 ≤ x5 + 1 → w_Mo_title_109 X (x1) (x2) (x3) (x4) (x5) (x5) (2) m Φ K53))) ∧ (¬ m.2 7 (x5 : Int32).toNatClampNeg = 92 → w_Mo_title_108 X (x1) (x2) (x3) (x4) (x5) (x5) m Φ K53)))))))))))
theorem t_Mo_title_53 {X : MX} {a0 : Array Value} (F : mF X a0) {d : Nat} {x1 x2 x3 x4 x5 : Int32} {m : MS} {σ : jS} {Φ : Option Value → MS → Prop} {K53 : Int32 → Int32 → Int32 → Int32 → Int32 → MS → Prop} (hV : MV X m σ) (h : w_Mo_title_53 X x1 x2 x3 x4 x5 m Φ K53) (hK53 : ∀ (x1 x2 x3 x4 x5 : Int32) (m : MS) (σ : jS), MV X m σ → K53 x1 x2 x3 x4 x5 m → jW X.1 X.2.1 jcl X.2.2.1 X.2.2.2.1 (d + 0) y_Mo_title 53 [some (.ref (mo X)), some (.int x1), some (.int x2), some (.int x3), some (.int x4), some (.int x5)] [] σ (mQ X Φ σ)) : jW X.1 X.2.1 jcl X.2.2.1 X.2.2.2.1 (d + 0) y_Mo_title 53 [some (.ref (mo X)), some (.int x1), some (.int x2), some (.int x3), some (.int x4), some (.int x5)] [] σ (mQ X Φ σ) := by
  unfold w_Mo_title_53 at h
  refine jW.iload (dx_Mo_title 32 (e := (53, .iload 5, 2)) rfl) rfl (pc' := 55) rfl ?_
  refine jW.iload_n (dx_Mo_title 33 (e := (55, .iload_n 2, 1)) rfl) rfl rfl (pc' := 56) rfl ?_
  refine jW.icmp_ge (dx_Mo_title 34 (e := (56, .if_icmp .ge 59, 3)) rfl) 115 (by decide) (pc' := 59) rfl (fun c => ?_) (fun c => ?_)
  · replace h := h.1 c
    exact t_Mo_title_115 F hV h
  · replace h := h.2 c
    refine jW.aload_n (dx_Mo_title 35 (e := (59, .aload_n 0, 1)) rfl) rfl rfl (pc' := 60) rfl ?_
    refine jW.mga F hV f_Mo_title_60 (by decide) (pc' := 63) rfl ?_
    refine jW.iload (dx_Mo_title 37 (e := (63, .iload 5, 2)) rfl) rfl (pc' := 65) rfl ?_
    refine jW.mla F hV (dx_Mo_title 38 (e := (65, .iaload, 1)) rfl) (by decide) rfl h.1 (pc' := 66) rfl ?_
    replace h := h.2
    refine jW.iload (dx_Mo_title 39 (e := (66, .iload 4, 2)) rfl) rfl (pc' := 68) rfl ?_
    refine jW.icmp_eq (dx_Mo_title 40 (e := (68, .if_icmp .eq 47, 3)) rfl) 115 (by decide) (pc' := 71) rfl (fun c => ?_) (fun c => ?_)
    · replace h := h.1 c
      exact t_Mo_title_115 F hV h
    · replace h := h.2 c
      refine jW.aload_n (dx_Mo_title 41 (e := (71, .aload_n 0, 1)) rfl) rfl rfl (pc' := 72) rfl ?_
      refine jW.mga F hV f_Mo_title_72 (by decide) (pc' := 75) rfl ?_
      refine jW.iload (dx_Mo_title 43 (e := (75, .iload 5, 2)) rfl) rfl (pc' := 77) rfl ?_
      refine jW.mla F hV (dx_Mo_title 44 (e := (77, .iaload, 1)) rfl) (by decide) rfl h.1 (pc' := 78) rfl ?_
      replace h := h.2
      refine jW.iload_n (dx_Mo_title 45 (e := (78, .iload_n 3, 1)) rfl) rfl rfl (pc' := 79) rfl ?_
      refine jW.icmp_eq (dx_Mo_title 46 (e := (79, .if_icmp .eq 36, 3)) rfl) 115 (by decide) (pc' := 82) rfl (fun c => ?_) (fun c => ?_)
      · replace h := h.1 c
        exact t_Mo_title_115 F hV h
      · replace h := h.2 c
        refine jW.iload (dx_Mo_title 47 (e := (82, .iload 5, 2)) rfl) rfl (pc' := 84) rfl ?_
        refine jW.aload_n (dx_Mo_title 48 (e := (84, .aload_n 0, 1)) rfl) rfl rfl (pc' := 85) rfl ?_
        refine jW.mga F hV f_Mo_title_85 (by decide) (pc' := 88) rfl ?_
        refine jW.iload (dx_Mo_title 50 (e := (88, .iload 5, 2)) rfl) rfl (pc' := 90) rfl ?_
        refine jW.mla F hV (dx_Mo_title 51 (e := (90, .iaload, 1)) rfl) (by decide) rfl h.1 (pc' := 91) rfl ?_
        replace h := h.2
        refine jW.bipush (v := 92) (dx_Mo_title 52 (e := (91, .bipush 92, 2)) rfl) (by decide) (pc' := 93) rfl ?_
        refine jW.icmp_ne (dx_Mo_title 53 (e := (93, .if_icmp .ne 15, 3)) rfl) 108 (by decide) (pc' := 96) rfl (fun c => ?_) (fun c => ?_)
        · replace h := h.2 c
          exact t_Mo_title_108 F hV h hK53
        · replace h := h.1 c
          refine jW.iload (dx_Mo_title 54 (e := (96, .iload 5, 2)) rfl) rfl (pc' := 98) rfl ?_
          refine jW.iconst (v := 1) (dx_Mo_title 55 (e := (98, .iconst 1, 1)) rfl) (by decide) (pc' := 99) rfl ?_
          refine jW.iadd (dx_Mo_title 56 (e := (99, .iadd, 1)) rfl) (pc' := 100) rfl ?_
          refine jW.iload_n (dx_Mo_title 57 (e := (100, .iload_n 2, 1)) rfl) rfl rfl (pc' := 101) rfl ?_
          refine jW.icmp_ge (dx_Mo_title 58 (e := (101, .if_icmp .ge 7, 3)) rfl) 108 (by decide) (pc' := 104) rfl (fun c => ?_) (fun c => ?_)
          · replace h := h.1 c
            exact t_Mo_title_108 F hV h hK53
          · replace h := h.2 c
            refine jW.iconst (v := 2) (dx_Mo_title 59 (e := (104, .iconst 2, 1)) rfl) (by decide) (pc' := 105) rfl ?_
            refine jW.goto (dx_Mo_title 60 (e := (105, .goto 4, 3)) rfl) 109 (by decide) ?_
            exact t_Mo_title_109 F hV h hK53
def w_Mo_title_46 (X : MX) (x1 x2 x3 s0 : Int32) (m : MS) (Φ : Option Value → MS → Prop) (K53 : Int32 → Int32 → Int32 → Int32 → Int32 → MS → Prop) : Prop := K53 (x1) (x2) (x3) (s0) (x1 + 1) m
theorem t_Mo_title_46 {X : MX} {a0 : Array Value} (F : mF X a0) {d : Nat} {x1 x2 x3 s0 : Int32} {o4 o5 : Option Value} {m : MS} {σ : jS} {Φ : Option Value → MS → Prop} {K53 : Int32 → Int32 → Int32 → Int32 → Int32 → MS → Prop} (hV : MV X m σ) (h : w_Mo_title_46 X x1 x2 x3 s0 m Φ K53) (hK53 : ∀ (x1 x2 x3 x4 x5 : Int32) (m : MS) (σ : jS), MV X m σ → K53 x1 x2 x3 x4 x5 m → jW X.1 X.2.1 jcl X.2.2.1 X.2.2.2.1 (d + 0) y_Mo_title 53 [some (.ref (mo X)), some (.int x1), some (.int x2), some (.int x3), some (.int x4), some (.int x5)] [] σ (mQ X Φ σ)) : jW X.1 X.2.1 jcl X.2.2.1 X.2.2.2.1 (d + 0) y_Mo_title 46 [some (.ref (mo X)), some (.int x1), some (.int x2), some (.int x3), o4, o5] [.int s0] σ (mQ X Φ σ) := by
  unfold w_Mo_title_46 at h
  refine jW.istore (dx_Mo_title 27 (e := (46, .istore 4, 2)) rfl) (by decide) rfl (pc' := 48) rfl ?_
  refine jW.iload_n (dx_Mo_title 28 (e := (48, .iload_n 1, 1)) rfl) rfl rfl (pc' := 49) rfl ?_
  refine jW.iconst (v := 1) (dx_Mo_title 29 (e := (49, .iconst 1, 1)) rfl) (by decide) (pc' := 50) rfl ?_
  refine jW.iadd (dx_Mo_title 30 (e := (50, .iadd, 1)) rfl) (pc' := 51) rfl ?_
  refine jW.istore (dx_Mo_title 31 (e := (51, .istore 5, 2)) rfl) (by decide) rfl (pc' := 53) rfl ?_
  exact hK53 _ _ _ _ _ _ _ hV h
def w_Mo_title_34 (X : MX) (x1 x2 x3 : Int32) (m : MS) (Φ : Option Value → MS → Prop) (K53 : Int32 → Int32 → Int32 → Int32 → Int32 → MS → Prop) : Prop := ((x3 = 40 → w_Mo_title_46 X (x1) (x2) (x3) (41) m Φ K53) ∧ (¬ x3 = 40 → w_Mo_title_46 X (x1) (x2) (x3) (x3) m Φ K53))
theorem t_Mo_title_34 {X : MX} {a0 : Array Value} (F : mF X a0) {d : Nat} {x1 x2 x3 : Int32} {o4 o5 : Option Value} {m : MS} {σ : jS} {Φ : Option Value → MS → Prop} {K53 : Int32 → Int32 → Int32 → Int32 → Int32 → MS → Prop} (hV : MV X m σ) (h : w_Mo_title_34 X x1 x2 x3 m Φ K53) (hK53 : ∀ (x1 x2 x3 x4 x5 : Int32) (m : MS) (σ : jS), MV X m σ → K53 x1 x2 x3 x4 x5 m → jW X.1 X.2.1 jcl X.2.2.1 X.2.2.2.1 (d + 0) y_Mo_title 53 [some (.ref (mo X)), some (.int x1), some (.int x2), some (.int x3), some (.int x4), some (.int x5)] [] σ (mQ X Φ σ)) : jW X.1 X.2.1 jcl X.2.2.1 X.2.2.2.1 (d + 0) y_Mo_title 34 [some (.ref (mo X)), some (.int x1), some (.int x2), some (.int x3), o4, o5] [] σ (mQ X Φ σ) := by
  unfold w_Mo_title_34 at h
  refine jW.iload_n (dx_Mo_title 21 (e := (34, .iload_n 3, 1)) rfl) rfl rfl (pc' := 35) rfl ?_
  refine jW.bipush (v := 40) (dx_Mo_title 22 (e := (35, .bipush 40, 2)) rfl) (by decide) (pc' := 37) rfl ?_
  refine jW.icmp_ne (dx_Mo_title 23 (e := (37, .if_icmp .ne 8, 3)) rfl) 45 (by decide) (pc' := 40) rfl (fun c => ?_) (fun c => ?_)
  · replace h := h.2 c
    refine jW.iload_n (dx_Mo_title 26 (e := (45, .iload_n 3, 1)) rfl) rfl rfl (pc' := 46) rfl ?_
    exact t_Mo_title_46 F hV h hK53
  · replace h := h.1 c
    refine jW.bipush (v := 41) (dx_Mo_title 24 (e := (40, .bipush 41, 2)) rfl) (by decide) (pc' := 42) rfl ?_
    refine jW.goto (dx_Mo_title 25 (e := (42, .goto 4, 3)) rfl) 46 (by decide) ?_
    exact t_Mo_title_46 F hV h hK53
def w_Mo_title_0 (X : MX) (x1 x2 : Int32) (m : MS) (Φ : Option Value → MS → Prop) (K53 : Int32 → Int32 → Int32 → Int32 → Int32 → MS → Prop) : Prop := ((x1 < x2 → (vp_in (x1) 48000 ∧ ((m.2 7 (x1 : Int32).toNatClampNeg = 34 → w_Mo_title_34 X (x1) (x2) (m.2 7 (x1 : Int32).toNatClampNeg) m Φ K53) ∧ (¬ m.2 7 (x1 : Int32).toNatClampNeg = 34 → ((m.2 7 (x1 : Int32).toNatClampNeg = 39 → w_Mo_title_34 X (x1) (x2) (m.2 7 (x1 : Int32).toNatClampNeg) m Φ K53) ∧ (¬ m.2 7 (x1 : Int32).toNatClampNeg = 39 → ((m.2 7 (x1 : Int32).toNatClampNeg = 40 → w_Mo_title_34 X (x1) (x2) (m.2 7 (x1 : Int32).toNatClampNeg) m Φ K53) ∧ (¬ m.2 7 (x1 : Int32).toNatClampNeg = 40 → Φ (some (.int (-1))) m)))))))) ∧ (¬ x1 < x2 → Φ (some (.int (-1))) m))
theorem t_Mo_title_0 {X : MX} {a0 : Array Value} (F : mF X a0) {d : Nat} {x1 x2 : Int32} {o3 o4 o5 : Option Value} {m : MS} {σ : jS} {Φ : Option Value → MS → Prop} {K53 : Int32 → Int32 → Int32 → Int32 → Int32 → MS → Prop} (hV : MV X m σ) (h : w_Mo_title_0 X x1 x2 m Φ K53) (hK53 : ∀ (x1 x2 x3 x4 x5 : Int32) (m : MS) (σ : jS), MV X m σ → K53 x1 x2 x3 x4 x5 m → jW X.1 X.2.1 jcl X.2.2.1 X.2.2.2.1 (d + 0) y_Mo_title 53 [some (.ref (mo X)), some (.int x1), some (.int x2), some (.int x3), some (.int x4), some (.int x5)] [] σ (mQ X Φ σ)) : jW X.1 X.2.1 jcl X.2.2.1 X.2.2.2.1 (d + 0) y_Mo_title 0 [some (.ref (mo X)), some (.int x1), some (.int x2), o3, o4, o5] [] σ (mQ X Φ σ) := by
  unfold w_Mo_title_0 at h
  refine jW.iload_n (dx_Mo_title 0 (e := (0, .iload_n 1, 1)) rfl) rfl rfl (pc' := 1) rfl ?_
  refine jW.iload_n (dx_Mo_title 1 (e := (1, .iload_n 2, 1)) rfl) rfl rfl (pc' := 2) rfl ?_
  refine jW.icmp_lt (dx_Mo_title 2 (e := (2, .if_icmp .lt 5, 3)) rfl) 7 (by decide) (pc' := 5) rfl (fun c => ?_) (fun c => ?_)
  · replace h := h.1 c
    refine jW.aload_n (dx_Mo_title 5 (e := (7, .aload_n 0, 1)) rfl) rfl rfl (pc' := 8) rfl ?_
    refine jW.mga F hV f_Mo_title_8 (by decide) (pc' := 11) rfl ?_
    refine jW.iload_n (dx_Mo_title 7 (e := (11, .iload_n 1, 1)) rfl) rfl rfl (pc' := 12) rfl ?_
    refine jW.mla F hV (dx_Mo_title 8 (e := (12, .iaload, 1)) rfl) (by decide) rfl h.1 (pc' := 13) rfl ?_
    replace h := h.2
    refine jW.istore_n (dx_Mo_title 9 (e := (13, .istore_n 3, 1)) rfl) rfl (by decide) rfl (pc' := 14) rfl ?_
    refine jW.iload_n (dx_Mo_title 10 (e := (14, .iload_n 3, 1)) rfl) rfl rfl (pc' := 15) rfl ?_
    refine jW.bipush (v := 34) (dx_Mo_title 11 (e := (15, .bipush 34, 2)) rfl) (by decide) (pc' := 17) rfl ?_
    refine jW.icmp_eq (dx_Mo_title 12 (e := (17, .if_icmp .eq 17, 3)) rfl) 34 (by decide) (pc' := 20) rfl (fun c => ?_) (fun c => ?_)
    · replace h := h.1 c
      exact t_Mo_title_34 F hV h hK53
    · replace h := h.2 c
      refine jW.iload_n (dx_Mo_title 13 (e := (20, .iload_n 3, 1)) rfl) rfl rfl (pc' := 21) rfl ?_
      refine jW.bipush (v := 39) (dx_Mo_title 14 (e := (21, .bipush 39, 2)) rfl) (by decide) (pc' := 23) rfl ?_
      refine jW.icmp_eq (dx_Mo_title 15 (e := (23, .if_icmp .eq 11, 3)) rfl) 34 (by decide) (pc' := 26) rfl (fun c => ?_) (fun c => ?_)
      · replace h := h.1 c
        exact t_Mo_title_34 F hV h hK53
      · replace h := h.2 c
        refine jW.iload_n (dx_Mo_title 16 (e := (26, .iload_n 3, 1)) rfl) rfl rfl (pc' := 27) rfl ?_
        refine jW.bipush (v := 40) (dx_Mo_title 17 (e := (27, .bipush 40, 2)) rfl) (by decide) (pc' := 29) rfl ?_
        refine jW.icmp_eq (dx_Mo_title 18 (e := (29, .if_icmp .eq 5, 3)) rfl) 34 (by decide) (pc' := 32) rfl (fun c => ?_) (fun c => ?_)
        · replace h := h.1 c
          exact t_Mo_title_34 F hV h hK53
        · replace h := h.2 c
          refine jW.iconst (v := -1) (dx_Mo_title 19 (e := (32, .iconst (-1), 1)) rfl) (by decide) (pc' := 33) rfl ?_
          exact jW.iret (dx_Mo_title 20 (e := (33, .ireturn, 1)) rfl) rfl ⟨FR.rfl, _, hV, h⟩
  · replace h := h.2 c
    refine jW.iconst (v := -1) (dx_Mo_title 3 (e := (5, .iconst (-1), 1)) rfl) (by decide) (pc' := 6) rfl ?_
    exact jW.iret (dx_Mo_title 4 (e := (6, .ireturn, 1)) rfl) rfl ⟨FR.rfl, _, hV, h⟩
theorem g_Mo_title {X : MX} {a0 : Array Value} (F : mF X a0) {x1 x2 : Int32} {m : MS} {Φ : Option Value → MS → Prop} {I53 : Nat → Int32 → Int32 → Int32 → Int32 → Int32 → MS → Prop} (he : w_Mo_title_0 X x1 x2 m Φ (fun x1 x2 x3 x4 x5 m => ∃ j, I53 j x1 x2 x3 x4 x5 m)) (h53 : ∀ (n : Nat) (x1 x2 x3 x4 x5 : Int32) (m : MS), I53 n x1 x2 x3 x4 x5 m → w_Mo_title_53 X x1 x2 x3 x4 x5 m Φ (fun x1 x2 x3 x4 x5 m => ∃ j, j < n ∧ I53 j x1 x2 x3 x4 x5 m)) : mE X 0 y_Mo_title [.ref (mo X), .int x1, .int x2] m Φ := by
  intro d σ hV
  have hL53 : ∀ n, (∀ (x1 x2 x3 x4 x5 : Int32) (m : MS) (σ : jS), MV X m σ → I53 n x1 x2 x3 x4 x5 m → jW X.1 X.2.1 jcl X.2.2.1 X.2.2.2.1 (d + 0) y_Mo_title 53 [some (.ref (mo X)), some (.int x1), some (.int x2), some (.int x3), some (.int x4), some (.int x5)] [] σ (mQ X Φ σ)) := by
    intro n
    induction n using Nat.strongRecOn with
    | _ n ih =>
      exact fun x1 x2 x3 x4 x5 m σ hV hI => t_Mo_title_53 F hV (h53 n x1 x2 x3 x4 x5 m hI) (fun x1 x2 x3 x4 x5 m σ hV ⟨j, hj, hI⟩ => (ih j hj) x1 x2 x3 x4 x5 m σ hV hI)
  refine jE.of (by decide) (by simp [Value.category]) (Nat.le_of_ble_eq_true rfl) rfl ?_
  exact t_Mo_title_0 F hV he (fun x1 x2 x3 x4 x5 m σ hV ⟨j, hI⟩ => (hL53 j) x1 x2 x3 x4 x5 m σ hV hI)
def w_Mo_normal_59 (X : MX) (x1 x2 x3 x4 x5 : Int32) (m : MS) (Φ : Option Value → MS → Prop) (K13 : Int32 → Int32 → Int32 → Int32 → Int32 → MS → Prop) (K33 : Int32 → Int32 → Int32 → Int32 → Int32 → MS → Prop) : Prop := ((m.1 10 ≤ x3 → K13 (x1) (x2) (x3) (x4) (x5) m) ∧ (¬ m.1 10 ≤ x3 → ((x4 ≤ x5 → K13 (x1) (x2) (x3) (x4) (x5) m) ∧ (¬ x4 ≤ x5 → mE X 0 y_Mo_keep [.ref (mo X), .int (32)] m (vP fun m1 => K13 (x1) (x2) (x3) (x4) (x5) m1)))))
theorem t_Mo_normal_59 {X : MX} {a0 : Array Value} (F : mF X a0) {d : Nat} {x1 x2 x3 x4 x5 : Int32} {m : MS} {σ : jS} {Φ : Option Value → MS → Prop} {K13 : Int32 → Int32 → Int32 → Int32 → Int32 → MS → Prop} {K33 : Int32 → Int32 → Int32 → Int32 → Int32 → MS → Prop} (hV : MV X m σ) (h : w_Mo_normal_59 X x1 x2 x3 x4 x5 m Φ K13 K33) (hK13 : ∀ (x1 x2 x3 x4 x5 : Int32) (m : MS) (σ : jS), MV X m σ → K13 x1 x2 x3 x4 x5 m → jW X.1 X.2.1 jcl X.2.2.1 X.2.2.2.1 (d + 1) y_Mo_normal 13 [some (.ref (mo X)), some (.int x1), some (.int x2), some (.int x3), some (.int x4), some (.int x5)] [] σ (mQ X Φ σ)) (hK33 : ∀ (x1 x2 x3 x4 x5 : Int32) (m : MS) (σ : jS), MV X m σ → K33 x1 x2 x3 x4 x5 m → jW X.1 X.2.1 jcl X.2.2.1 X.2.2.2.1 (d + 1) y_Mo_normal 33 [some (.ref (mo X)), some (.int x1), some (.int x2), some (.int x3), some (.int x4), some (.int x5)] [] σ (mQ X Φ σ)) : jW X.1 X.2.1 jcl X.2.2.1 X.2.2.2.1 (d + 1) y_Mo_normal 59 [some (.ref (mo X)), some (.int x1), some (.int x2), some (.int x3), some (.int x4), some (.int x5)] [] σ (mQ X Φ σ) := by
  unfold w_Mo_normal_59 at h
  refine jW.aload_n (dx_Mo_normal 29 (e := (59, .aload_n 0, 1)) rfl) rfl rfl (pc' := 60) rfl ?_
  refine jW.mgi F hV f_Mo_normal_60 (by decide) (pc' := 63) rfl ?_
  refine jW.iload_n (dx_Mo_normal 31 (e := (63, .iload_n 3, 1)) rfl) rfl rfl (pc' := 64) rfl ?_
  refine jW.icmp_le (dx_Mo_normal 32 (e := (64, .if_icmp .le (-51), 3)) rfl) 13 (by decide) (pc' := 67) rfl (fun c => ?_) (fun c => ?_)
  · replace h := h.1 c
    exact hK13 _ _ _ _ _ _ _ hV h
  · replace h := h.2 c
    refine jW.iload (dx_Mo_normal 33 (e := (67, .iload 5, 2)) rfl) rfl (pc' := 69) rfl ?_
    refine jW.iload (dx_Mo_normal 34 (e := (69, .iload 4, 2)) rfl) rfl (pc' := 71) rfl ?_
    refine jW.icmp_ge (dx_Mo_normal 35 (e := (71, .if_icmp .ge (-58), 3)) rfl) 13 (by decide) (pc' := 74) rfl (fun c => ?_) (fun c => ?_)
    · replace h := h.1 c
      exact hK13 _ _ _ _ _ _ _ hV h
    · replace h := h.2 c
      refine jW.aload_n (dx_Mo_normal 36 (e := (74, .aload_n 0, 1)) rfl) rfl rfl (pc' := 75) rfl ?_
      refine jW.bipush (v := 32) (dx_Mo_normal 37 (e := (75, .bipush 32, 2)) rfl) (by decide) (pc' := 77) rfl ?_
      refine jW.callVe F (h (d + 0) _ hV) (dx_Mo_normal 38 (e := (77, .invokevirtual 189, 3)) rfl) can_Mo_keep jw_1248 jw_1250 hV.cl rfl sel_Mo_keep rfl rfl (Nat.le_of_ble_eq_true rfl) (pc' := 80) rfl (fun r σ hr => ?_)
      clear hV
      refine mQ.up hr.1 ?_
      obtain ⟨_, hV, rfl, h⟩ := hr.2
      refine jW.goto (dx_Mo_normal 39 (e := (80, .goto (-67), 3)) rfl) 13 (by decide) ?_
      exact hK13 _ _ _ _ _ _ _ hV h
def w_Mo_normal_33 (X : MX) (x1 x2 x3 x4 x5 : Int32) (m : MS) (Φ : Option Value → MS → Prop) (K13 : Int32 → Int32 → Int32 → Int32 → Int32 → MS → Prop) (K33 : Int32 → Int32 → Int32 → Int32 → Int32 → MS → Prop) : Prop := ((x4 ≤ x5 → w_Mo_normal_59 X (x1) (x2) (x3) (x4) (x5) m Φ K13 K33) ∧ (¬ x4 ≤ x5 → (vp_in (x5) 48000 ∧ mE X 0 y_Mo_isWhite [.int (m.2 7 (x5 : Int32).toNatClampNeg)] m (iP fun r1 m1 => ((r1 = 0 → w_Mo_normal_59 X (x1) (x2) (x3) (x4) (x5) m1 Φ K13 K33) ∧ (¬ r1 = 0 → K33 (x1) (x2) (x3) (x4) (x5 + 1) m1))))))
theorem t_Mo_normal_33 {X : MX} {a0 : Array Value} (F : mF X a0) {d : Nat} {x1 x2 x3 x4 x5 : Int32} {m : MS} {σ : jS} {Φ : Option Value → MS → Prop} {K13 : Int32 → Int32 → Int32 → Int32 → Int32 → MS → Prop} {K33 : Int32 → Int32 → Int32 → Int32 → Int32 → MS → Prop} (hV : MV X m σ) (h : w_Mo_normal_33 X x1 x2 x3 x4 x5 m Φ K13 K33) (hK13 : ∀ (x1 x2 x3 x4 x5 : Int32) (m : MS) (σ : jS), MV X m σ → K13 x1 x2 x3 x4 x5 m → jW X.1 X.2.1 jcl X.2.2.1 X.2.2.2.1 (d + 1) y_Mo_normal 13 [some (.ref (mo X)), some (.int x1), some (.int x2), some (.int x3), some (.int x4), some (.int x5)] [] σ (mQ X Φ σ)) (hK33 : ∀ (x1 x2 x3 x4 x5 : Int32) (m : MS) (σ : jS), MV X m σ → K33 x1 x2 x3 x4 x5 m → jW X.1 X.2.1 jcl X.2.2.1 X.2.2.2.1 (d + 1) y_Mo_normal 33 [some (.ref (mo X)), some (.int x1), some (.int x2), some (.int x3), some (.int x4), some (.int x5)] [] σ (mQ X Φ σ)) : jW X.1 X.2.1 jcl X.2.2.1 X.2.2.2.1 (d + 1) y_Mo_normal 33 [some (.ref (mo X)), some (.int x1), some (.int x2), some (.int x3), some (.int x4), some (.int x5)] [] σ (mQ X Φ σ) := by
  unfold w_Mo_normal_33 at h
  refine jW.iload (dx_Mo_normal 18 (e := (33, .iload 5, 2)) rfl) rfl (pc' := 35) rfl ?_
  refine jW.iload (dx_Mo_normal 19 (e := (35, .iload 4, 2)) rfl) rfl (pc' := 37) rfl ?_
  refine jW.icmp_ge (dx_Mo_normal 20 (e := (37, .if_icmp .ge 22, 3)) rfl) 59 (by decide) (pc' := 40) rfl (fun c => ?_) (fun c => ?_)
  · replace h := h.1 c
    exact t_Mo_normal_59 F hV h hK13 hK33
  · replace h := h.2 c
    refine jW.aload_n (dx_Mo_normal 21 (e := (40, .aload_n 0, 1)) rfl) rfl rfl (pc' := 41) rfl ?_
    refine jW.mga F hV f_Mo_normal_41 (by decide) (pc' := 44) rfl ?_
    refine jW.iload (dx_Mo_normal 23 (e := (44, .iload 5, 2)) rfl) rfl (pc' := 46) rfl ?_
    refine jW.mla F hV (dx_Mo_normal 24 (e := (46, .iaload, 1)) rfl) (by decide) rfl h.1 (pc' := 47) rfl ?_
    replace h := h.2
    refine jW.callS F (h (d + 0) _ hV) (dx_Mo_normal 25 (e := (47, .invokestatic 279, 3)) rfl) can_Mo_isWhite jw_1222 jw_1223 rfl rfl (Nat.le_of_ble_eq_true rfl) (pc' := 50) rfl (fun r σ hr => ?_)
    clear hV
    refine mQ.up hr.1 ?_
    obtain ⟨_, hV, _, rfl, h⟩ := hr.2
    refine jW.if_eq (dx_Mo_normal 26 (e := (50, .ifCond .eq 9, 3)) rfl) 59 (by decide) (pc' := 53) rfl (fun c => ?_) (fun c => ?_)
    · replace h := h.1 c
      exact t_Mo_normal_59 F hV h hK13 hK33
    · replace h := h.2 c
      refine jW.iinc (v := _ + (1)) (dx_Mo_normal 27 (e := (53, .iinc 5 1, 3)) rfl) rfl rfl (by decide) rfl (pc' := 56) rfl ?_
      refine jW.goto (dx_Mo_normal 28 (e := (56, .goto (-23), 3)) rfl) 33 (by decide) ?_
      exact hK33 _ _ _ _ _ _ _ hV h
def w_Mo_normal_13 (X : MX) (x1 x2 x3 x4 x5 : Int32) (m : MS) (Φ : Option Value → MS → Prop) (K13 : Int32 → Int32 → Int32 → Int32 → Int32 → MS → Prop) (K33 : Int32 → Int32 → Int32 → Int32 → Int32 → MS → Prop) : Prop := ((x4 ≤ x5 → Φ (some (.int ((m.1 10) - x3))) m) ∧ (¬ x4 ≤ x5 → (vp_in (x5) 48000 ∧ mE X 0 y_Mo_isWhite [.int (m.2 7 (x5 : Int32).toNatClampNeg)] m (iP fun r1 m1 => ((r1 = 0 → (vp_in (x5) 48000 ∧ mE X 0 y_Mo_small [.int (m1.2 7 (x5 : Int32).toNatClampNeg)] m1 (iP fun r2 m2 => mE X 0 y_Mo_keep [.ref (mo X), .int (r2)] m2 (vP fun m3 => K13 (x1) (x2) (x3) (x4) (x5 + 1) m3)))) ∧ (¬ r1 = 0 → K33 (x1) (x2) (x3) (x4) (x5) m1))))))
theorem t_Mo_normal_13 {X : MX} {a0 : Array Value} (F : mF X a0) {d : Nat} {x1 x2 x3 x4 x5 : Int32} {m : MS} {σ : jS} {Φ : Option Value → MS → Prop} {K13 : Int32 → Int32 → Int32 → Int32 → Int32 → MS → Prop} {K33 : Int32 → Int32 → Int32 → Int32 → Int32 → MS → Prop} (hV : MV X m σ) (h : w_Mo_normal_13 X x1 x2 x3 x4 x5 m Φ K13 K33) (hK13 : ∀ (x1 x2 x3 x4 x5 : Int32) (m : MS) (σ : jS), MV X m σ → K13 x1 x2 x3 x4 x5 m → jW X.1 X.2.1 jcl X.2.2.1 X.2.2.2.1 (d + 1) y_Mo_normal 13 [some (.ref (mo X)), some (.int x1), some (.int x2), some (.int x3), some (.int x4), some (.int x5)] [] σ (mQ X Φ σ)) (hK33 : ∀ (x1 x2 x3 x4 x5 : Int32) (m : MS) (σ : jS), MV X m σ → K33 x1 x2 x3 x4 x5 m → jW X.1 X.2.1 jcl X.2.2.1 X.2.2.2.1 (d + 1) y_Mo_normal 33 [some (.ref (mo X)), some (.int x1), some (.int x2), some (.int x3), some (.int x4), some (.int x5)] [] σ (mQ X Φ σ)) : jW X.1 X.2.1 jcl X.2.2.1 X.2.2.2.1 (d + 1) y_Mo_normal 13 [some (.ref (mo X)), some (.int x1), some (.int x2), some (.int x3), some (.int x4), some (.int x5)] [] σ (mQ X Φ σ) := by
  unfold w_Mo_normal_13 at h
  refine jW.iload (dx_Mo_normal 9 (e := (13, .iload 5, 2)) rfl) rfl (pc' := 15) rfl ?_
  refine jW.iload (dx_Mo_normal 10 (e := (15, .iload 4, 2)) rfl) rfl (pc' := 17) rfl ?_
  refine jW.icmp_ge (dx_Mo_normal 11 (e := (17, .if_icmp .ge 86, 3)) rfl) 103 (by decide) (pc' := 20) rfl (fun c => ?_) (fun c => ?_)
  · replace h := h.1 c
    refine jW.aload_n (dx_Mo_normal 49 (e := (103, .aload_n 0, 1)) rfl) rfl rfl (pc' := 104) rfl ?_
    refine jW.mgi F hV f_Mo_normal_104 (by decide) (pc' := 107) rfl ?_
    refine jW.iload_n (dx_Mo_normal 51 (e := (107, .iload_n 3, 1)) rfl) rfl rfl (pc' := 108) rfl ?_
    refine jW.isub (dx_Mo_normal 52 (e := (108, .isub, 1)) rfl) (pc' := 109) rfl ?_
    exact jW.iret (dx_Mo_normal 53 (e := (109, .ireturn, 1)) rfl) rfl ⟨FR.rfl, _, hV, h⟩
  · replace h := h.2 c
    refine jW.aload_n (dx_Mo_normal 12 (e := (20, .aload_n 0, 1)) rfl) rfl rfl (pc' := 21) rfl ?_
    refine jW.mga F hV f_Mo_normal_21 (by decide) (pc' := 24) rfl ?_
    refine jW.iload (dx_Mo_normal 14 (e := (24, .iload 5, 2)) rfl) rfl (pc' := 26) rfl ?_
    refine jW.mla F hV (dx_Mo_normal 15 (e := (26, .iaload, 1)) rfl) (by decide) rfl h.1 (pc' := 27) rfl ?_
    replace h := h.2
    refine jW.callS F (h (d + 0) _ hV) (dx_Mo_normal 16 (e := (27, .invokestatic 279, 3)) rfl) can_Mo_isWhite jw_1222 jw_1223 rfl rfl (Nat.le_of_ble_eq_true rfl) (pc' := 30) rfl (fun r σ hr => ?_)
    clear hV
    refine mQ.up hr.1 ?_
    obtain ⟨_, hV, _, rfl, h⟩ := hr.2
    refine jW.if_eq (dx_Mo_normal 17 (e := (30, .ifCond .eq 53, 3)) rfl) 83 (by decide) (pc' := 33) rfl (fun c => ?_) (fun c => ?_)
    · replace h := h.1 c
      refine jW.aload_n (dx_Mo_normal 40 (e := (83, .aload_n 0, 1)) rfl) rfl rfl (pc' := 84) rfl ?_
      refine jW.aload_n (dx_Mo_normal 41 (e := (84, .aload_n 0, 1)) rfl) rfl rfl (pc' := 85) rfl ?_
      refine jW.mga F hV f_Mo_normal_85 (by decide) (pc' := 88) rfl ?_
      refine jW.iload (dx_Mo_normal 43 (e := (88, .iload 5, 2)) rfl) rfl (pc' := 90) rfl ?_
      refine jW.mla F hV (dx_Mo_normal 44 (e := (90, .iaload, 1)) rfl) (by decide) rfl h.1 (pc' := 91) rfl ?_
      replace h := h.2
      refine jW.callS F (h (d + 0) _ hV) (dx_Mo_normal 45 (e := (91, .invokestatic 316, 3)) rfl) can_Mo_small jw_1252 jw_1253 rfl rfl (Nat.le_of_ble_eq_true rfl) (pc' := 94) rfl (fun r σ hr => ?_)
      clear hV
      refine mQ.up hr.1 ?_
      obtain ⟨_, hV, _, rfl, h⟩ := hr.2
      refine jW.callVe F (h (d + 0) _ hV) (dx_Mo_normal 46 (e := (94, .invokevirtual 189, 3)) rfl) can_Mo_keep jw_1248 jw_1250 hV.cl rfl sel_Mo_keep rfl rfl (Nat.le_of_ble_eq_true rfl) (pc' := 97) rfl (fun r σ hr => ?_)
      clear hV
      refine mQ.up hr.1 ?_
      obtain ⟨_, hV, rfl, h⟩ := hr.2
      refine jW.iinc (v := _ + (1)) (dx_Mo_normal 47 (e := (97, .iinc 5 1, 3)) rfl) rfl rfl (by decide) rfl (pc' := 100) rfl ?_
      refine jW.goto (dx_Mo_normal 48 (e := (100, .goto (-87), 3)) rfl) 13 (by decide) ?_
      exact hK13 _ _ _ _ _ _ _ hV h
    · replace h := h.2 c
      exact hK33 _ _ _ _ _ _ _ hV h
def w_Mo_normal_0 (X : MX) (x1 x2 : Int32) (m : MS) (Φ : Option Value → MS → Prop) (K13 : Int32 → Int32 → Int32 → Int32 → Int32 → MS → Prop) (K33 : Int32 → Int32 → Int32 → Int32 → Int32 → MS → Prop) : Prop := K13 (x1) (x2) (m.1 10) (x1 + x2) (x1) m
theorem t_Mo_normal_0 {X : MX} {a0 : Array Value} (F : mF X a0) {d : Nat} {x1 x2 : Int32} {o3 o4 o5 : Option Value} {m : MS} {σ : jS} {Φ : Option Value → MS → Prop} {K13 : Int32 → Int32 → Int32 → Int32 → Int32 → MS → Prop} {K33 : Int32 → Int32 → Int32 → Int32 → Int32 → MS → Prop} (hV : MV X m σ) (h : w_Mo_normal_0 X x1 x2 m Φ K13 K33) (hK13 : ∀ (x1 x2 x3 x4 x5 : Int32) (m : MS) (σ : jS), MV X m σ → K13 x1 x2 x3 x4 x5 m → jW X.1 X.2.1 jcl X.2.2.1 X.2.2.2.1 (d + 1) y_Mo_normal 13 [some (.ref (mo X)), some (.int x1), some (.int x2), some (.int x3), some (.int x4), some (.int x5)] [] σ (mQ X Φ σ)) (hK33 : ∀ (x1 x2 x3 x4 x5 : Int32) (m : MS) (σ : jS), MV X m σ → K33 x1 x2 x3 x4 x5 m → jW X.1 X.2.1 jcl X.2.2.1 X.2.2.2.1 (d + 1) y_Mo_normal 33 [some (.ref (mo X)), some (.int x1), some (.int x2), some (.int x3), some (.int x4), some (.int x5)] [] σ (mQ X Φ σ)) : jW X.1 X.2.1 jcl X.2.2.1 X.2.2.2.1 (d + 1) y_Mo_normal 0 [some (.ref (mo X)), some (.int x1), some (.int x2), o3, o4, o5] [] σ (mQ X Φ σ) := by
  unfold w_Mo_normal_0 at h
  refine jW.aload_n (dx_Mo_normal 0 (e := (0, .aload_n 0, 1)) rfl) rfl rfl (pc' := 1) rfl ?_
  refine jW.mgi F hV f_Mo_normal_1 (by decide) (pc' := 4) rfl ?_
  refine jW.istore_n (dx_Mo_normal 2 (e := (4, .istore_n 3, 1)) rfl) rfl (by decide) rfl (pc' := 5) rfl ?_
  refine jW.iload_n (dx_Mo_normal 3 (e := (5, .iload_n 1, 1)) rfl) rfl rfl (pc' := 6) rfl ?_
  refine jW.iload_n (dx_Mo_normal 4 (e := (6, .iload_n 2, 1)) rfl) rfl rfl (pc' := 7) rfl ?_
  refine jW.iadd (dx_Mo_normal 5 (e := (7, .iadd, 1)) rfl) (pc' := 8) rfl ?_
  refine jW.istore (dx_Mo_normal 6 (e := (8, .istore 4, 2)) rfl) (by decide) rfl (pc' := 10) rfl ?_
  refine jW.iload_n (dx_Mo_normal 7 (e := (10, .iload_n 1, 1)) rfl) rfl rfl (pc' := 11) rfl ?_
  refine jW.istore (dx_Mo_normal 8 (e := (11, .istore 5, 2)) rfl) (by decide) rfl (pc' := 13) rfl ?_
  exact hK13 _ _ _ _ _ _ _ hV h
theorem g_Mo_normal {X : MX} {a0 : Array Value} (F : mF X a0) {x1 x2 : Int32} {m : MS} {Φ : Option Value → MS → Prop} {I13 : Nat → Int32 → Int32 → Int32 → Int32 → Int32 → MS → Prop} {I33 : Nat → Int32 → Int32 → Int32 → Int32 → Int32 → MS → Prop} (he : w_Mo_normal_0 X x1 x2 m Φ (fun x1 x2 x3 x4 x5 m => ∃ j, I13 j x1 x2 x3 x4 x5 m) (fun x1 x2 x3 x4 x5 m => ∃ j, I33 j x1 x2 x3 x4 x5 m)) (h13 : ∀ (n : Nat) (x1 x2 x3 x4 x5 : Int32) (m : MS), I13 n x1 x2 x3 x4 x5 m → w_Mo_normal_13 X x1 x2 x3 x4 x5 m Φ (fun x1 x2 x3 x4 x5 m => ∃ j, j < n ∧ I13 j x1 x2 x3 x4 x5 m) (fun x1 x2 x3 x4 x5 m => ∃ j, j < n ∧ I33 j x1 x2 x3 x4 x5 m)) (h33 : ∀ (n : Nat) (x1 x2 x3 x4 x5 : Int32) (m : MS), I33 n x1 x2 x3 x4 x5 m → w_Mo_normal_33 X x1 x2 x3 x4 x5 m Φ (fun x1 x2 x3 x4 x5 m => ∃ j, j < n ∧ I13 j x1 x2 x3 x4 x5 m) (fun x1 x2 x3 x4 x5 m => ∃ j, j < n ∧ I33 j x1 x2 x3 x4 x5 m)) : mE X 1 y_Mo_normal [.ref (mo X), .int x1, .int x2] m Φ := by
  intro d σ hV
  have hL13 : ∀ n, (∀ (x1 x2 x3 x4 x5 : Int32) (m : MS) (σ : jS), MV X m σ → I13 n x1 x2 x3 x4 x5 m → jW X.1 X.2.1 jcl X.2.2.1 X.2.2.2.1 (d + 1) y_Mo_normal 13 [some (.ref (mo X)), some (.int x1), some (.int x2), some (.int x3), some (.int x4), some (.int x5)] [] σ (mQ X Φ σ)) ∧ (∀ (x1 x2 x3 x4 x5 : Int32) (m : MS) (σ : jS), MV X m σ → I33 n x1 x2 x3 x4 x5 m → jW X.1 X.2.1 jcl X.2.2.1 X.2.2.2.1 (d + 1) y_Mo_normal 33 [some (.ref (mo X)), some (.int x1), some (.int x2), some (.int x3), some (.int x4), some (.int x5)] [] σ (mQ X Φ σ)) := by
    intro n
    induction n using Nat.strongRecOn with
    | _ n ih =>
      exact ⟨fun x1 x2 x3 x4 x5 m σ hV hI => t_Mo_normal_13 F hV (h13 n x1 x2 x3 x4 x5 m hI) (fun x1 x2 x3 x4 x5 m σ hV ⟨j, hj, hI⟩ => (ih j hj).1 x1 x2 x3 x4 x5 m σ hV hI) (fun x1 x2 x3 x4 x5 m σ hV ⟨j, hj, hI⟩ => (ih j hj).2 x1 x2 x3 x4 x5 m σ hV hI), fun x1 x2 x3 x4 x5 m σ hV hI => t_Mo_normal_33 F hV (h33 n x1 x2 x3 x4 x5 m hI) (fun x1 x2 x3 x4 x5 m σ hV ⟨j, hj, hI⟩ => (ih j hj).1 x1 x2 x3 x4 x5 m σ hV hI) (fun x1 x2 x3 x4 x5 m σ hV ⟨j, hj, hI⟩ => (ih j hj).2 x1 x2 x3 x4 x5 m σ hV hI)⟩
  refine jE.of (by decide) (by simp [Value.category]) (Nat.le_of_ble_eq_true rfl) rfl ?_
  exact t_Mo_normal_0 F hV he (fun x1 x2 x3 x4 x5 m σ hV ⟨j, hI⟩ => (hL13 j).1 x1 x2 x3 x4 x5 m σ hV hI) (fun x1 x2 x3 x4 x5 m σ hV ⟨j, hI⟩ => (hL13 j).2 x1 x2 x3 x4 x5 m σ hV hI)
def w_Mo_keep_0 (X : MX) (x1 : Int32) (m : MS) (Φ : Option Value → MS → Prop) : Prop := (vp_in (m.1 10) 48000 ∧ ∀ m1, m1 = mA m 7 (m.1 10 : Int32).toNatClampNeg (x1) → ∀ m2, m2 = mI m1 10 ((m1.1 10) + 1) → Φ none m2)
theorem t_Mo_keep_0 {X : MX} {a0 : Array Value} (F : mF X a0) {d : Nat} {x1 : Int32} {m : MS} {σ : jS} {Φ : Option Value → MS → Prop} (hV : MV X m σ) (h : w_Mo_keep_0 X x1 m Φ) : jW X.1 X.2.1 jcl X.2.2.1 X.2.2.2.1 (d + 0) y_Mo_keep 0 [some (.ref (mo X)), some (.int x1)] [] σ (mQ X Φ σ) := by
  unfold w_Mo_keep_0 at h
  refine jW.aload_n (dx_Mo_keep 0 (e := (0, .aload_n 0, 1)) rfl) rfl rfl (pc' := 1) rfl ?_
  refine jW.mga F hV f_Mo_keep_1 (by decide) (pc' := 4) rfl ?_
  refine jW.aload_n (dx_Mo_keep 2 (e := (4, .aload_n 0, 1)) rfl) rfl rfl (pc' := 5) rfl ?_
  refine jW.mgi F hV f_Mo_keep_5 (by decide) (pc' := 8) rfl ?_
  refine jW.iload_n (dx_Mo_keep 4 (e := (8, .iload_n 1, 1)) rfl) rfl rfl (pc' := 9) rfl ?_
  refine jW.msa F hV (dx_Mo_keep 5 (e := (9, .iastore, 1)) rfl) (by decide) rfl h.1 (pc' := 10) rfl (fun σ hV => ?_)
  replace h := h.2 _ rfl
  refine jW.aload_n (dx_Mo_keep 6 (e := (10, .aload_n 0, 1)) rfl) rfl rfl (pc' := 11) rfl ?_
  refine jW.dup (dx_Mo_keep 7 (e := (11, .dup, 1)) rfl) rfl (pc' := 12) rfl ?_
  refine jW.mgi F hV f_Mo_keep_12 (by decide) (pc' := 15) rfl ?_
  refine jW.iconst (v := 1) (dx_Mo_keep 9 (e := (15, .iconst 1, 1)) rfl) (by decide) (pc' := 16) rfl ?_
  refine jW.iadd (dx_Mo_keep 10 (e := (16, .iadd, 1)) rfl) (pc' := 17) rfl ?_
  refine jW.mpi F hV f_Mo_keep_17 (by decide) rfl rfl rfl (pc' := 20) rfl (fun σ hV => ?_)
  replace h := h _ rfl
  exact jW.vret (dx_Mo_keep 12 (e := (20, .return_, 1)) rfl) rfl ⟨FR.rfl, _, hV, h⟩
theorem g_Mo_keep {X : MX} {a0 : Array Value} (F : mF X a0) {x1 : Int32} {m : MS} {Φ : Option Value → MS → Prop} (he : w_Mo_keep_0 X x1 m Φ) : mE X 0 y_Mo_keep [.ref (mo X), .int x1] m Φ := by
  intro d σ hV
  refine jE.of (by decide) (by simp [Value.category]) (Nat.le_of_ble_eq_true rfl) rfl ?_
  exact t_Mo_keep_0 F hV he
def w_Mo_small_20 (X : MX) (x0 s0 : Int32) (m : MS) (Φ : Option Value → MS → Prop) : Prop := Φ (some (.int (s0))) m
theorem t_Mo_small_20 {X : MX} {a0 : Array Value} (F : mF X a0) {d : Nat} {x0 s0 : Int32} {m : MS} {σ : jS} {Φ : Option Value → MS → Prop} (hV : MV X m σ) (h : w_Mo_small_20 X x0 s0 m Φ) : jW X.1 X.2.1 jcl X.2.2.1 X.2.2.2.1 (d + 0) y_Mo_small 20 [some (.int x0)] [.int s0] σ (mQ X Φ σ) := by
  unfold w_Mo_small_20 at h
  exact jW.iret (dx_Mo_small 11 (e := (20, .ireturn, 1)) rfl) rfl ⟨FR.rfl, _, hV, h⟩
def w_Mo_small_19 (X : MX) (x0 : Int32) (m : MS) (Φ : Option Value → MS → Prop) : Prop := w_Mo_small_20 X (x0) (x0) m Φ
theorem t_Mo_small_19 {X : MX} {a0 : Array Value} (F : mF X a0) {d : Nat} {x0 : Int32} {m : MS} {σ : jS} {Φ : Option Value → MS → Prop} (hV : MV X m σ) (h : w_Mo_small_19 X x0 m Φ) : jW X.1 X.2.1 jcl X.2.2.1 X.2.2.2.1 (d + 0) y_Mo_small 19 [some (.int x0)] [] σ (mQ X Φ σ) := by
  unfold w_Mo_small_19 at h
  refine jW.iload_n (dx_Mo_small 10 (e := (19, .iload_n 0, 1)) rfl) rfl rfl (pc' := 20) rfl ?_
  exact t_Mo_small_20 F hV h
def w_Mo_small_0 (X : MX) (x0 : Int32) (m : MS) (Φ : Option Value → MS → Prop) : Prop := ((x0 < 65 → w_Mo_small_19 X (x0) m Φ) ∧ (¬ x0 < 65 → ((90 < x0 → w_Mo_small_19 X (x0) m Φ) ∧ (¬ 90 < x0 → w_Mo_small_20 X (x0) (x0 + 32) m Φ))))
theorem t_Mo_small_0 {X : MX} {a0 : Array Value} (F : mF X a0) {d : Nat} {x0 : Int32} {m : MS} {σ : jS} {Φ : Option Value → MS → Prop} (hV : MV X m σ) (h : w_Mo_small_0 X x0 m Φ) : jW X.1 X.2.1 jcl X.2.2.1 X.2.2.2.1 (d + 0) y_Mo_small 0 [some (.int x0)] [] σ (mQ X Φ σ) := by
  unfold w_Mo_small_0 at h
  refine jW.iload_n (dx_Mo_small 0 (e := (0, .iload_n 0, 1)) rfl) rfl rfl (pc' := 1) rfl ?_
  refine jW.bipush (v := 65) (dx_Mo_small 1 (e := (1, .bipush 65, 2)) rfl) (by decide) (pc' := 3) rfl ?_
  refine jW.icmp_lt (dx_Mo_small 2 (e := (3, .if_icmp .lt 16, 3)) rfl) 19 (by decide) (pc' := 6) rfl (fun c => ?_) (fun c => ?_)
  · replace h := h.1 c
    exact t_Mo_small_19 F hV h
  · replace h := h.2 c
    refine jW.iload_n (dx_Mo_small 3 (e := (6, .iload_n 0, 1)) rfl) rfl rfl (pc' := 7) rfl ?_
    refine jW.bipush (v := 90) (dx_Mo_small 4 (e := (7, .bipush 90, 2)) rfl) (by decide) (pc' := 9) rfl ?_
    refine jW.icmp_gt (dx_Mo_small 5 (e := (9, .if_icmp .gt 10, 3)) rfl) 19 (by decide) (pc' := 12) rfl (fun c => ?_) (fun c => ?_)
    · replace h := h.1 c
      exact t_Mo_small_19 F hV h
    · replace h := h.2 c
      refine jW.iload_n (dx_Mo_small 6 (e := (12, .iload_n 0, 1)) rfl) rfl rfl (pc' := 13) rfl ?_
      refine jW.bipush (v := 32) (dx_Mo_small 7 (e := (13, .bipush 32, 2)) rfl) (by decide) (pc' := 15) rfl ?_
      refine jW.iadd (dx_Mo_small 8 (e := (15, .iadd, 1)) rfl) (pc' := 16) rfl ?_
      refine jW.goto (dx_Mo_small 9 (e := (16, .goto 4, 3)) rfl) 20 (by decide) ?_
      exact t_Mo_small_20 F hV h
theorem g_Mo_small {X : MX} {a0 : Array Value} (F : mF X a0) {x0 : Int32} {m : MS} {Φ : Option Value → MS → Prop} (he : w_Mo_small_0 X x0 m Φ) : mE X 0 y_Mo_small [.int x0] m Φ := by
  intro d σ hV
  refine jE.of (by decide) (by simp [Value.category]) (Nat.le_of_ble_eq_true rfl) rfl ?_
  exact t_Mo_small_0 F hV he
def w_Mo_unescape_132 (X : MX) (x1 x2 x3 x4 x5 x6 x7 : Int32) (m : MS) (Φ : Option Value → MS → Prop) (K13 : Int32 → Int32 → Int32 → Int32 → Int32 → MS → Prop) : Prop := K13 (x1) (x2) (x3) (x4) (x5) m
theorem t_Mo_unescape_132 {X : MX} {a0 : Array Value} (F : mF X a0) {d : Nat} {x1 x2 x3 x4 x5 x6 x7 : Int32} {m : MS} {σ : jS} {Φ : Option Value → MS → Prop} {K13 : Int32 → Int32 → Int32 → Int32 → Int32 → MS → Prop} (hV : MV X m σ) (h : w_Mo_unescape_132 X x1 x2 x3 x4 x5 x6 x7 m Φ K13) (hK13 : ∀ (x1 x2 x3 x4 x5 : Int32) (o6 o7 : Option Value) (m : MS) (σ : jS), MV X m σ → K13 x1 x2 x3 x4 x5 m → jW X.1 X.2.1 jcl X.2.2.1 X.2.2.2.1 (d + 3) y_Mo_unescape 13 [some (.ref (mo X)), some (.int x1), some (.int x2), some (.int x3), some (.int x4), some (.int x5), o6, o7] [] σ (mQ X Φ σ)) : jW X.1 X.2.1 jcl X.2.2.1 X.2.2.2.1 (d + 3) y_Mo_unescape 132 [some (.ref (mo X)), some (.int x1), some (.int x2), some (.int x3), some (.int x4), some (.int x5), some (.int x6), some (.int x7)] [] σ (mQ X Φ σ) := by
  unfold w_Mo_unescape_132 at h
  refine jW.goto (dx_Mo_unescape 68 (e := (132, .goto (-119), 3)) rfl) 13 (by decide) ?_
  exact hK13 _ _ _ _ _ _ _ _ _ hV h
def w_Mo_unescape_123 (X : MX) (x1 x2 x3 x4 x5 x6 x7 : Int32) (m : MS) (Φ : Option Value → MS → Prop) (K13 : Int32 → Int32 → Int32 → Int32 → Int32 → MS → Prop) : Prop := mE X 0 y_Mo_keep [.ref (mo X), .int (x6)] m (vP fun m1 => w_Mo_unescape_132 X (x1) (x2) (x3) (x4) (x5 + 1) (x6) (x7) m1 Φ K13)
theorem t_Mo_unescape_123 {X : MX} {a0 : Array Value} (F : mF X a0) {d : Nat} {x1 x2 x3 x4 x5 x6 x7 : Int32} {m : MS} {σ : jS} {Φ : Option Value → MS → Prop} {K13 : Int32 → Int32 → Int32 → Int32 → Int32 → MS → Prop} (hV : MV X m σ) (h : w_Mo_unescape_123 X x1 x2 x3 x4 x5 x6 x7 m Φ K13) (hK13 : ∀ (x1 x2 x3 x4 x5 : Int32) (o6 o7 : Option Value) (m : MS) (σ : jS), MV X m σ → K13 x1 x2 x3 x4 x5 m → jW X.1 X.2.1 jcl X.2.2.1 X.2.2.2.1 (d + 3) y_Mo_unescape 13 [some (.ref (mo X)), some (.int x1), some (.int x2), some (.int x3), some (.int x4), some (.int x5), o6, o7] [] σ (mQ X Φ σ)) : jW X.1 X.2.1 jcl X.2.2.1 X.2.2.2.1 (d + 3) y_Mo_unescape 123 [some (.ref (mo X)), some (.int x1), some (.int x2), some (.int x3), some (.int x4), some (.int x5), some (.int x6), some (.int x7)] [] σ (mQ X Φ σ) := by
  unfold w_Mo_unescape_123 at h
  refine jW.aload_n (dx_Mo_unescape 64 (e := (123, .aload_n 0, 1)) rfl) rfl rfl (pc' := 124) rfl ?_
  refine jW.iload (dx_Mo_unescape 65 (e := (124, .iload 6, 2)) rfl) rfl (pc' := 126) rfl ?_
  refine jW.callVe F (h (d + 2) _ hV) (dx_Mo_unescape 66 (e := (126, .invokevirtual 189, 3)) rfl) can_Mo_keep jw_1248 jw_1250 hV.cl rfl sel_Mo_keep rfl rfl (Nat.le_of_ble_eq_true rfl) (pc' := 129) rfl (fun r σ hr => ?_)
  clear hV
  refine mQ.up hr.1 ?_
  obtain ⟨_, hV, rfl, h⟩ := hr.2
  refine jW.iinc (v := _ + (1)) (dx_Mo_unescape 67 (e := (129, .iinc 5 1, 3)) rfl) rfl rfl (by decide) rfl (pc' := 132) rfl ?_
  exact t_Mo_unescape_132 F hV h hK13
def w_Mo_unescape_48 (X : MX) (x1 x2 x3 x4 x5 x6 s0 : Int32) (m : MS) (Φ : Option Value → MS → Prop) (K13 : Int32 → Int32 → Int32 → Int32 → Int32 → MS → Prop) : Prop := ((s0 ≤ 0 → ((x6 = 92 → ((x4 ≤ x5 + 1 → w_Mo_unescape_123 X (x1) (x2) (x3) (x4) (x5) (x6) (s0) m Φ K13) ∧ (¬ x4 ≤ x5 + 1 → (vp_in (x5 + 1) 48000 ∧ mE X 0 y_Mo_isAscii [.int (m.2 7 (x5 + 1 : Int32).toNatClampNeg)] m (iP fun r1 m1 => ((r1 = 0 → w_Mo_unescape_123 X (x1) (x2) (x3) (x4) (x5) (x6) (s0) m1 Φ K13) ∧ (¬ r1 = 0 → (vp_in (x5 + 1) 48000 ∧ mE X 0 y_Mo_keep [.ref (mo X), .int (m1.2 7 (x5 + 1 : Int32).toNatClampNeg)] m1 (vP fun m2 => w_Mo_unescape_132 X (x1) (x2) (x3) (x4) (x5 + 2) (x6) (s0) m2 Φ K13))))))))) ∧ (¬ x6 = 92 → w_Mo_unescape_123 X (x1) (x2) (x3) (x4) (x5) (x6) (s0) m Φ K13))) ∧ (¬ s0 ≤ 0 → mE X 0 y_Mo_keep [.ref (mo X), .int (m.1 51)] m (vP fun m3 => w_Mo_unescape_132 X (x1) (x2) (x3) (x4) (x5 + s0) (x6) (s0) m3 Φ K13)))
theorem t_Mo_unescape_48 {X : MX} {a0 : Array Value} (F : mF X a0) {d : Nat} {x1 x2 x3 x4 x5 x6 s0 : Int32} {o7 : Option Value} {m : MS} {σ : jS} {Φ : Option Value → MS → Prop} {K13 : Int32 → Int32 → Int32 → Int32 → Int32 → MS → Prop} (hV : MV X m σ) (h : w_Mo_unescape_48 X x1 x2 x3 x4 x5 x6 s0 m Φ K13) (hK13 : ∀ (x1 x2 x3 x4 x5 : Int32) (o6 o7 : Option Value) (m : MS) (σ : jS), MV X m σ → K13 x1 x2 x3 x4 x5 m → jW X.1 X.2.1 jcl X.2.2.1 X.2.2.2.1 (d + 3) y_Mo_unescape 13 [some (.ref (mo X)), some (.int x1), some (.int x2), some (.int x3), some (.int x4), some (.int x5), o6, o7] [] σ (mQ X Φ σ)) : jW X.1 X.2.1 jcl X.2.2.1 X.2.2.2.1 (d + 3) y_Mo_unescape 48 [some (.ref (mo X)), some (.int x1), some (.int x2), some (.int x3), some (.int x4), some (.int x5), some (.int x6), o7] [.int s0] σ (mQ X Φ σ) := by
  unfold w_Mo_unescape_48 at h
  refine jW.istore (dx_Mo_unescape 26 (e := (48, .istore 7, 2)) rfl) (by decide) rfl (pc' := 50) rfl ?_
  refine jW.iload (dx_Mo_unescape 27 (e := (50, .iload 7, 2)) rfl) rfl (pc' := 52) rfl ?_
  refine jW.if_le (dx_Mo_unescape 28 (e := (52, .ifCond .le 21, 3)) rfl) 73 (by decide) (pc' := 55) rfl (fun c => ?_) (fun c => ?_)
  · replace h := h.1 c
    refine jW.iload (dx_Mo_unescape 38 (e := (73, .iload 6, 2)) rfl) rfl (pc' := 75) rfl ?_
    refine jW.bipush (v := 92) (dx_Mo_unescape 39 (e := (75, .bipush 92, 2)) rfl) (by decide) (pc' := 77) rfl ?_
    refine jW.icmp_ne (dx_Mo_unescape 40 (e := (77, .if_icmp .ne 46, 3)) rfl) 123 (by decide) (pc' := 80) rfl (fun c => ?_) (fun c => ?_)
    · replace h := h.2 c
      exact t_Mo_unescape_123 F hV h hK13
    · replace h := h.1 c
      refine jW.iload (dx_Mo_unescape 41 (e := (80, .iload 5, 2)) rfl) rfl (pc' := 82) rfl ?_
      refine jW.iconst (v := 1) (dx_Mo_unescape 42 (e := (82, .iconst 1, 1)) rfl) (by decide) (pc' := 83) rfl ?_
      refine jW.iadd (dx_Mo_unescape 43 (e := (83, .iadd, 1)) rfl) (pc' := 84) rfl ?_
      refine jW.iload (dx_Mo_unescape 44 (e := (84, .iload 4, 2)) rfl) rfl (pc' := 86) rfl ?_
      refine jW.icmp_ge (dx_Mo_unescape 45 (e := (86, .if_icmp .ge 37, 3)) rfl) 123 (by decide) (pc' := 89) rfl (fun c => ?_) (fun c => ?_)
      · replace h := h.1 c
        exact t_Mo_unescape_123 F hV h hK13
      · replace h := h.2 c
        refine jW.aload_n (dx_Mo_unescape 46 (e := (89, .aload_n 0, 1)) rfl) rfl rfl (pc' := 90) rfl ?_
        refine jW.mga F hV f_Mo_unescape_90 (by decide) (pc' := 93) rfl ?_
        refine jW.iload (dx_Mo_unescape 48 (e := (93, .iload 5, 2)) rfl) rfl (pc' := 95) rfl ?_
        refine jW.iconst (v := 1) (dx_Mo_unescape 49 (e := (95, .iconst 1, 1)) rfl) (by decide) (pc' := 96) rfl ?_
        refine jW.iadd (dx_Mo_unescape 50 (e := (96, .iadd, 1)) rfl) (pc' := 97) rfl ?_
        refine jW.mla F hV (dx_Mo_unescape 51 (e := (97, .iaload, 1)) rfl) (by decide) rfl h.1 (pc' := 98) rfl ?_
        replace h := h.2
        refine jW.callS F (h (d + 2) _ hV) (dx_Mo_unescape 52 (e := (98, .invokestatic 285, 3)) rfl) can_Mo_isAscii jw_1233 jw_1234 rfl rfl (Nat.le_of_ble_eq_true rfl) (pc' := 101) rfl (fun r σ hr => ?_)
        clear hV
        refine mQ.up hr.1 ?_
        obtain ⟨_, hV, _, rfl, h⟩ := hr.2
        refine jW.if_eq (dx_Mo_unescape 53 (e := (101, .ifCond .eq 22, 3)) rfl) 123 (by decide) (pc' := 104) rfl (fun c => ?_) (fun c => ?_)
        · replace h := h.1 c
          exact t_Mo_unescape_123 F hV h hK13
        · replace h := h.2 c
          refine jW.aload_n (dx_Mo_unescape 54 (e := (104, .aload_n 0, 1)) rfl) rfl rfl (pc' := 105) rfl ?_
          refine jW.aload_n (dx_Mo_unescape 55 (e := (105, .aload_n 0, 1)) rfl) rfl rfl (pc' := 106) rfl ?_
          refine jW.mga F hV f_Mo_unescape_106 (by decide) (pc' := 109) rfl ?_
          refine jW.iload (dx_Mo_unescape 57 (e := (109, .iload 5, 2)) rfl) rfl (pc' := 111) rfl ?_
          refine jW.iconst (v := 1) (dx_Mo_unescape 58 (e := (111, .iconst 1, 1)) rfl) (by decide) (pc' := 112) rfl ?_
          refine jW.iadd (dx_Mo_unescape 59 (e := (112, .iadd, 1)) rfl) (pc' := 113) rfl ?_
          refine jW.mla F hV (dx_Mo_unescape 60 (e := (113, .iaload, 1)) rfl) (by decide) rfl h.1 (pc' := 114) rfl ?_
          replace h := h.2
          refine jW.callVe F (h (d + 2) _ hV) (dx_Mo_unescape 61 (e := (114, .invokevirtual 189, 3)) rfl) can_Mo_keep jw_1248 jw_1250 hV.cl rfl sel_Mo_keep rfl rfl (Nat.le_of_ble_eq_true rfl) (pc' := 117) rfl (fun r σ hr => ?_)
          clear hV
          refine mQ.up hr.1 ?_
          obtain ⟨_, hV, rfl, h⟩ := hr.2
          refine jW.iinc (v := _ + (2)) (dx_Mo_unescape 62 (e := (117, .iinc 5 2, 3)) rfl) rfl rfl (by decide) rfl (pc' := 120) rfl ?_
          refine jW.goto (dx_Mo_unescape 63 (e := (120, .goto 12, 3)) rfl) 132 (by decide) ?_
          exact t_Mo_unescape_132 F hV h hK13
  · replace h := h.2 c
    refine jW.aload_n (dx_Mo_unescape 29 (e := (55, .aload_n 0, 1)) rfl) rfl rfl (pc' := 56) rfl ?_
    refine jW.aload_n (dx_Mo_unescape 30 (e := (56, .aload_n 0, 1)) rfl) rfl rfl (pc' := 57) rfl ?_
    refine jW.mgi F hV f_Mo_unescape_57 (by decide) (pc' := 60) rfl ?_
    refine jW.callVe F (h (d + 2) _ hV) (dx_Mo_unescape 32 (e := (60, .invokevirtual 189, 3)) rfl) can_Mo_keep jw_1248 jw_1250 hV.cl rfl sel_Mo_keep rfl rfl (Nat.le_of_ble_eq_true rfl) (pc' := 63) rfl (fun r σ hr => ?_)
    clear hV
    refine mQ.up hr.1 ?_
    obtain ⟨_, hV, rfl, h⟩ := hr.2
    refine jW.iload (dx_Mo_unescape 33 (e := (63, .iload 5, 2)) rfl) rfl (pc' := 65) rfl ?_
    refine jW.iload (dx_Mo_unescape 34 (e := (65, .iload 7, 2)) rfl) rfl (pc' := 67) rfl ?_
    refine jW.iadd (dx_Mo_unescape 35 (e := (67, .iadd, 1)) rfl) (pc' := 68) rfl ?_
    refine jW.istore (dx_Mo_unescape 36 (e := (68, .istore 5, 2)) rfl) (by decide) rfl (pc' := 70) rfl ?_
    refine jW.goto (dx_Mo_unescape 37 (e := (70, .goto 62, 3)) rfl) 132 (by decide) ?_
    exact t_Mo_unescape_132 F hV h hK13
def w_Mo_unescape_13 (X : MX) (x1 x2 x3 x4 x5 : Int32) (m : MS) (Φ : Option Value → MS → Prop) (K13 : Int32 → Int32 → Int32 → Int32 → Int32 → MS → Prop) : Prop := ((x4 ≤ x5 → Φ (some (.int ((m.1 10) - x3))) m) ∧ (¬ x4 ≤ x5 → (vp_in (x5) 48000 ∧ ((m.2 7 (x5 : Int32).toNatClampNeg = 38 → mE X 2 y_Mo_reference [.ref (mo X), .int (x5), .int (x4)] m (iP fun r1 m1 => w_Mo_unescape_48 X (x1) (x2) (x3) (x4) (x5) (m.2 7 (x5 : Int32).toNatClampNeg) (r1) m1 Φ K13)) ∧ (¬ m.2 7 (x5 : Int32).toNatClampNeg = 38 → w_Mo_unescape_48 X (x1) (x2) (x3) (x4) (x5) (m.2 7 (x5 : Int32).toNatClampNeg) (0) m Φ K13)))))
theorem t_Mo_unescape_13 {X : MX} {a0 : Array Value} (F : mF X a0) {d : Nat} {x1 x2 x3 x4 x5 : Int32} {o6 o7 : Option Value} {m : MS} {σ : jS} {Φ : Option Value → MS → Prop} {K13 : Int32 → Int32 → Int32 → Int32 → Int32 → MS → Prop} (hV : MV X m σ) (h : w_Mo_unescape_13 X x1 x2 x3 x4 x5 m Φ K13) (hK13 : ∀ (x1 x2 x3 x4 x5 : Int32) (o6 o7 : Option Value) (m : MS) (σ : jS), MV X m σ → K13 x1 x2 x3 x4 x5 m → jW X.1 X.2.1 jcl X.2.2.1 X.2.2.2.1 (d + 3) y_Mo_unescape 13 [some (.ref (mo X)), some (.int x1), some (.int x2), some (.int x3), some (.int x4), some (.int x5), o6, o7] [] σ (mQ X Φ σ)) : jW X.1 X.2.1 jcl X.2.2.1 X.2.2.2.1 (d + 3) y_Mo_unescape 13 [some (.ref (mo X)), some (.int x1), some (.int x2), some (.int x3), some (.int x4), some (.int x5), o6, o7] [] σ (mQ X Φ σ) := by
  unfold w_Mo_unescape_13 at h
  refine jW.iload (dx_Mo_unescape 9 (e := (13, .iload 5, 2)) rfl) rfl (pc' := 15) rfl ?_
  refine jW.iload (dx_Mo_unescape 10 (e := (15, .iload 4, 2)) rfl) rfl (pc' := 17) rfl ?_
  refine jW.icmp_ge (dx_Mo_unescape 11 (e := (17, .if_icmp .ge 118, 3)) rfl) 135 (by decide) (pc' := 20) rfl (fun c => ?_) (fun c => ?_)
  · replace h := h.1 c
    refine jW.aload_n (dx_Mo_unescape 69 (e := (135, .aload_n 0, 1)) rfl) rfl rfl (pc' := 136) rfl ?_
    refine jW.mgi F hV f_Mo_unescape_136 (by decide) (pc' := 139) rfl ?_
    refine jW.iload_n (dx_Mo_unescape 71 (e := (139, .iload_n 3, 1)) rfl) rfl rfl (pc' := 140) rfl ?_
    refine jW.isub (dx_Mo_unescape 72 (e := (140, .isub, 1)) rfl) (pc' := 141) rfl ?_
    exact jW.iret (dx_Mo_unescape 73 (e := (141, .ireturn, 1)) rfl) rfl ⟨FR.rfl, _, hV, h⟩
  · replace h := h.2 c
    refine jW.aload_n (dx_Mo_unescape 12 (e := (20, .aload_n 0, 1)) rfl) rfl rfl (pc' := 21) rfl ?_
    refine jW.mga F hV f_Mo_unescape_21 (by decide) (pc' := 24) rfl ?_
    refine jW.iload (dx_Mo_unescape 14 (e := (24, .iload 5, 2)) rfl) rfl (pc' := 26) rfl ?_
    refine jW.mla F hV (dx_Mo_unescape 15 (e := (26, .iaload, 1)) rfl) (by decide) rfl h.1 (pc' := 27) rfl ?_
    replace h := h.2
    refine jW.istore (dx_Mo_unescape 16 (e := (27, .istore 6, 2)) rfl) (by decide) rfl (pc' := 29) rfl ?_
    refine jW.iload (dx_Mo_unescape 17 (e := (29, .iload 6, 2)) rfl) rfl (pc' := 31) rfl ?_
    refine jW.bipush (v := 38) (dx_Mo_unescape 18 (e := (31, .bipush 38, 2)) rfl) (by decide) (pc' := 33) rfl ?_
    refine jW.icmp_ne (dx_Mo_unescape 19 (e := (33, .if_icmp .ne 14, 3)) rfl) 47 (by decide) (pc' := 36) rfl (fun c => ?_) (fun c => ?_)
    · replace h := h.2 c
      refine jW.iconst (v := 0) (dx_Mo_unescape 25 (e := (47, .iconst 0, 1)) rfl) (by decide) (pc' := 48) rfl ?_
      exact t_Mo_unescape_48 F hV h hK13
    · replace h := h.1 c
      refine jW.aload_n (dx_Mo_unescape 20 (e := (36, .aload_n 0, 1)) rfl) rfl rfl (pc' := 37) rfl ?_
      refine jW.iload (dx_Mo_unescape 21 (e := (37, .iload 5, 2)) rfl) rfl (pc' := 39) rfl ?_
      refine jW.iload (dx_Mo_unescape 22 (e := (39, .iload 4, 2)) rfl) rfl (pc' := 41) rfl ?_
      refine jW.callVe F (h (d + 0) _ hV) (dx_Mo_unescape 23 (e := (41, .invokevirtual 313, 3)) rfl) can_Mo_reference jw_1259 jw_1261 hV.cl rfl sel_Mo_reference rfl rfl (Nat.le_of_ble_eq_true rfl) (pc' := 44) rfl (fun r σ hr => ?_)
      clear hV
      refine mQ.up hr.1 ?_
      obtain ⟨_, hV, _, rfl, h⟩ := hr.2
      refine jW.goto (dx_Mo_unescape 24 (e := (44, .goto 4, 3)) rfl) 48 (by decide) ?_
      exact t_Mo_unescape_48 F hV h hK13
def w_Mo_unescape_0 (X : MX) (x1 x2 : Int32) (m : MS) (Φ : Option Value → MS → Prop) (K13 : Int32 → Int32 → Int32 → Int32 → Int32 → MS → Prop) : Prop := K13 (x1) (x2) (m.1 10) (x1 + x2) (x1) m
theorem t_Mo_unescape_0 {X : MX} {a0 : Array Value} (F : mF X a0) {d : Nat} {x1 x2 : Int32} {o3 o4 o5 o6 o7 : Option Value} {m : MS} {σ : jS} {Φ : Option Value → MS → Prop} {K13 : Int32 → Int32 → Int32 → Int32 → Int32 → MS → Prop} (hV : MV X m σ) (h : w_Mo_unescape_0 X x1 x2 m Φ K13) (hK13 : ∀ (x1 x2 x3 x4 x5 : Int32) (o6 o7 : Option Value) (m : MS) (σ : jS), MV X m σ → K13 x1 x2 x3 x4 x5 m → jW X.1 X.2.1 jcl X.2.2.1 X.2.2.2.1 (d + 3) y_Mo_unescape 13 [some (.ref (mo X)), some (.int x1), some (.int x2), some (.int x3), some (.int x4), some (.int x5), o6, o7] [] σ (mQ X Φ σ)) : jW X.1 X.2.1 jcl X.2.2.1 X.2.2.2.1 (d + 3) y_Mo_unescape 0 [some (.ref (mo X)), some (.int x1), some (.int x2), o3, o4, o5, o6, o7] [] σ (mQ X Φ σ) := by
  unfold w_Mo_unescape_0 at h
  refine jW.aload_n (dx_Mo_unescape 0 (e := (0, .aload_n 0, 1)) rfl) rfl rfl (pc' := 1) rfl ?_
  refine jW.mgi F hV f_Mo_unescape_1 (by decide) (pc' := 4) rfl ?_
  refine jW.istore_n (dx_Mo_unescape 2 (e := (4, .istore_n 3, 1)) rfl) rfl (by decide) rfl (pc' := 5) rfl ?_
  refine jW.iload_n (dx_Mo_unescape 3 (e := (5, .iload_n 1, 1)) rfl) rfl rfl (pc' := 6) rfl ?_
  refine jW.iload_n (dx_Mo_unescape 4 (e := (6, .iload_n 2, 1)) rfl) rfl rfl (pc' := 7) rfl ?_
  refine jW.iadd (dx_Mo_unescape 5 (e := (7, .iadd, 1)) rfl) (pc' := 8) rfl ?_
  refine jW.istore (dx_Mo_unescape 6 (e := (8, .istore 4, 2)) rfl) (by decide) rfl (pc' := 10) rfl ?_
  refine jW.iload_n (dx_Mo_unescape 7 (e := (10, .iload_n 1, 1)) rfl) rfl rfl (pc' := 11) rfl ?_
  refine jW.istore (dx_Mo_unescape 8 (e := (11, .istore 5, 2)) rfl) (by decide) rfl (pc' := 13) rfl ?_
  exact hK13 _ _ _ _ _ _ _ _ _ hV h
theorem g_Mo_unescape {X : MX} {a0 : Array Value} (F : mF X a0) {x1 x2 : Int32} {m : MS} {Φ : Option Value → MS → Prop} {I13 : Nat → Int32 → Int32 → Int32 → Int32 → Int32 → MS → Prop} (he : w_Mo_unescape_0 X x1 x2 m Φ (fun x1 x2 x3 x4 x5 m => ∃ j, I13 j x1 x2 x3 x4 x5 m)) (h13 : ∀ (n : Nat) (x1 x2 x3 x4 x5 : Int32) (m : MS), I13 n x1 x2 x3 x4 x5 m → w_Mo_unescape_13 X x1 x2 x3 x4 x5 m Φ (fun x1 x2 x3 x4 x5 m => ∃ j, j < n ∧ I13 j x1 x2 x3 x4 x5 m)) : mE X 3 y_Mo_unescape [.ref (mo X), .int x1, .int x2] m Φ := by
  intro d σ hV
  have hL13 : ∀ n, (∀ (x1 x2 x3 x4 x5 : Int32) (o6 o7 : Option Value) (m : MS) (σ : jS), MV X m σ → I13 n x1 x2 x3 x4 x5 m → jW X.1 X.2.1 jcl X.2.2.1 X.2.2.2.1 (d + 3) y_Mo_unescape 13 [some (.ref (mo X)), some (.int x1), some (.int x2), some (.int x3), some (.int x4), some (.int x5), o6, o7] [] σ (mQ X Φ σ)) := by
    intro n
    induction n using Nat.strongRecOn with
    | _ n ih =>
      exact fun x1 x2 x3 x4 x5 o6 o7 m σ hV hI => t_Mo_unescape_13 F hV (h13 n x1 x2 x3 x4 x5 m hI) (fun x1 x2 x3 x4 x5 o6 o7 m σ hV ⟨j, hj, hI⟩ => (ih j hj) x1 x2 x3 x4 x5 o6 o7 m σ hV hI)
  refine jE.of (by decide) (by simp [Value.category]) (Nat.le_of_ble_eq_true rfl) rfl ?_
  exact t_Mo_unescape_0 F hV he (fun x1 x2 x3 x4 x5 o6 o7 m σ hV ⟨j, hI⟩ => (hL13 j) x1 x2 x3 x4 x5 o6 o7 m σ hV hI)
def w_Mo_reference_321 (X : MX) (x1 x2 x3 : Int32) (m : MS) (Φ : Option Value → MS → Prop) : Prop := Φ (some (.int (0))) m
theorem t_Mo_reference_321 {X : MX} {a0 : Array Value} (F : mF X a0) {d : Nat} {x1 x2 x3 : Int32} {o4 o5 : Option Value} {m : MS} {σ : jS} {Φ : Option Value → MS → Prop} (hV : MV X m σ) (h : w_Mo_reference_321 X x1 x2 x3 m Φ) : jW X.1 X.2.1 jcl X.2.2.1 X.2.2.2.1 (d + 2) y_Mo_reference 321 [some (.ref (mo X)), some (.int x1), some (.int x2), some (.int x3), o4, o5] [] σ (mQ X Φ σ) := by
  unfold w_Mo_reference_321 at h
  refine jW.iconst (v := 0) (dx_Mo_reference 168 (e := (321, .iconst 0, 1)) rfl) (by decide) (pc' := 322) rfl ?_
  exact jW.iret (dx_Mo_reference 169 (e := (322, .ireturn, 1)) rfl) rfl ⟨FR.rfl, _, hV, h⟩
def w_Mo_reference_355 (X : MX) (x1 x2 x3 s0 : Int32) (m : MS) (Φ : Option Value → MS → Prop) : Prop := Φ (some (.int (s0))) m
theorem t_Mo_reference_355 {X : MX} {a0 : Array Value} (F : mF X a0) {d : Nat} {x1 x2 x3 s0 : Int32} {o4 o5 : Option Value} {m : MS} {σ : jS} {Φ : Option Value → MS → Prop} (hV : MV X m σ) (h : w_Mo_reference_355 X x1 x2 x3 s0 m Φ) : jW X.1 X.2.1 jcl X.2.2.1 X.2.2.2.1 (d + 2) y_Mo_reference 355 [some (.ref (mo X)), some (.int x1), some (.int x2), some (.int x3), o4, o5] [.int s0] σ (mQ X Φ σ) := by
  unfold w_Mo_reference_355 at h
  exact jW.iret (dx_Mo_reference 192 (e := (355, .ireturn, 1)) rfl) rfl ⟨FR.rfl, _, hV, h⟩
def w_Mo_reference_305 (X : MX) (x1 x2 x3 : Int32) (m : MS) (Φ : Option Value → MS → Prop) : Prop := ((x2 ≤ x3 → w_Mo_reference_321 X (x1) (x2) (x3) m Φ) ∧ (¬ x2 ≤ x3 → (vp_in (x3) 48000 ∧ ((m.2 7 (x3 : Int32).toNatClampNeg = 59 → mE X 0 y_Mo_named [.ref (mo X), .int (x1 + 1), .int ((x3 - x1) - 1)] m (iP fun r1 m1 => ∀ m2, m2 = mI m1 51 (r1) → ((m2.1 51 ≤ 0 → w_Mo_reference_355 X (x1) (x2) (x3) (0) m2 Φ) ∧ (¬ m2.1 51 ≤ 0 → w_Mo_reference_355 X (x1) (x2) (x3) ((x3 + 1) - x1) m2 Φ)))) ∧ (¬ m.2 7 (x3 : Int32).toNatClampNeg = 59 → w_Mo_reference_321 X (x1) (x2) (x3) m Φ)))))
theorem t_Mo_reference_305 {X : MX} {a0 : Array Value} (F : mF X a0) {d : Nat} {x1 x2 x3 : Int32} {o4 o5 : Option Value} {m : MS} {σ : jS} {Φ : Option Value → MS → Prop} (hV : MV X m σ) (h : w_Mo_reference_305 X x1 x2 x3 m Φ) : jW X.1 X.2.1 jcl X.2.2.1 X.2.2.2.1 (d + 2) y_Mo_reference 305 [some (.ref (mo X)), some (.int x1), some (.int x2), some (.int x3), o4, o5] [] σ (mQ X Φ σ) := by
  unfold w_Mo_reference_305 at h
  refine jW.iload_n (dx_Mo_reference 159 (e := (305, .iload_n 3, 1)) rfl) rfl rfl (pc' := 306) rfl ?_
  refine jW.iload_n (dx_Mo_reference 160 (e := (306, .iload_n 2, 1)) rfl) rfl rfl (pc' := 307) rfl ?_
  refine jW.icmp_ge (dx_Mo_reference 161 (e := (307, .if_icmp .ge 14, 3)) rfl) 321 (by decide) (pc' := 310) rfl (fun c => ?_) (fun c => ?_)
  · replace h := h.1 c
    exact t_Mo_reference_321 F hV h
  · replace h := h.2 c
    refine jW.aload_n (dx_Mo_reference 162 (e := (310, .aload_n 0, 1)) rfl) rfl rfl (pc' := 311) rfl ?_
    refine jW.mga F hV f_Mo_reference_311 (by decide) (pc' := 314) rfl ?_
    refine jW.iload_n (dx_Mo_reference 164 (e := (314, .iload_n 3, 1)) rfl) rfl rfl (pc' := 315) rfl ?_
    refine jW.mla F hV (dx_Mo_reference 165 (e := (315, .iaload, 1)) rfl) (by decide) rfl h.1 (pc' := 316) rfl ?_
    replace h := h.2
    refine jW.bipush (v := 59) (dx_Mo_reference 166 (e := (316, .bipush 59, 2)) rfl) (by decide) (pc' := 318) rfl ?_
    refine jW.icmp_eq (dx_Mo_reference 167 (e := (318, .if_icmp .eq 5, 3)) rfl) 323 (by decide) (pc' := 321) rfl (fun c => ?_) (fun c => ?_)
    · replace h := h.1 c
      refine jW.aload_n (dx_Mo_reference 170 (e := (323, .aload_n 0, 1)) rfl) rfl rfl (pc' := 324) rfl ?_
      refine jW.aload_n (dx_Mo_reference 171 (e := (324, .aload_n 0, 1)) rfl) rfl rfl (pc' := 325) rfl ?_
      refine jW.iload_n (dx_Mo_reference 172 (e := (325, .iload_n 1, 1)) rfl) rfl rfl (pc' := 326) rfl ?_
      refine jW.iconst (v := 1) (dx_Mo_reference 173 (e := (326, .iconst 1, 1)) rfl) (by decide) (pc' := 327) rfl ?_
      refine jW.iadd (dx_Mo_reference 174 (e := (327, .iadd, 1)) rfl) (pc' := 328) rfl ?_
      refine jW.iload_n (dx_Mo_reference 175 (e := (328, .iload_n 3, 1)) rfl) rfl rfl (pc' := 329) rfl ?_
      refine jW.iload_n (dx_Mo_reference 176 (e := (329, .iload_n 1, 1)) rfl) rfl rfl (pc' := 330) rfl ?_
      refine jW.isub (dx_Mo_reference 177 (e := (330, .isub, 1)) rfl) (pc' := 331) rfl ?_
      refine jW.iconst (v := 1) (dx_Mo_reference 178 (e := (331, .iconst 1, 1)) rfl) (by decide) (pc' := 332) rfl ?_
      refine jW.isub (dx_Mo_reference 179 (e := (332, .isub, 1)) rfl) (pc' := 333) rfl ?_
      refine jW.callVe F (h (d + 1) _ hV) (dx_Mo_reference 180 (e := (333, .invokevirtual 310, 3)) rfl) can_Mo_named jw_1276 jw_1278 hV.cl rfl sel_Mo_named rfl rfl (Nat.le_of_ble_eq_true rfl) (pc' := 336) rfl (fun r σ hr => ?_)
      clear hV
      refine mQ.up hr.1 ?_
      obtain ⟨_, hV, _, rfl, h⟩ := hr.2
      refine jW.mpi F hV f_Mo_reference_336 (by decide) rfl rfl rfl (pc' := 339) rfl (fun σ hV => ?_)
      replace h := h _ rfl
      refine jW.aload_n (dx_Mo_reference 182 (e := (339, .aload_n 0, 1)) rfl) rfl rfl (pc' := 340) rfl ?_
      refine jW.mgi F hV f_Mo_reference_340 (by decide) (pc' := 343) rfl ?_
      refine jW.if_le (dx_Mo_reference 184 (e := (343, .ifCond .le 11, 3)) rfl) 354 (by decide) (pc' := 346) rfl (fun c => ?_) (fun c => ?_)
      · replace h := h.1 c
        refine jW.iconst (v := 0) (dx_Mo_reference 191 (e := (354, .iconst 0, 1)) rfl) (by decide) (pc' := 355) rfl ?_
        exact t_Mo_reference_355 F hV h
      · replace h := h.2 c
        refine jW.iload_n (dx_Mo_reference 185 (e := (346, .iload_n 3, 1)) rfl) rfl rfl (pc' := 347) rfl ?_
        refine jW.iconst (v := 1) (dx_Mo_reference 186 (e := (347, .iconst 1, 1)) rfl) (by decide) (pc' := 348) rfl ?_
        refine jW.iadd (dx_Mo_reference 187 (e := (348, .iadd, 1)) rfl) (pc' := 349) rfl ?_
        refine jW.iload_n (dx_Mo_reference 188 (e := (349, .iload_n 1, 1)) rfl) rfl rfl (pc' := 350) rfl ?_
        refine jW.isub (dx_Mo_reference 189 (e := (350, .isub, 1)) rfl) (pc' := 351) rfl ?_
        refine jW.goto (dx_Mo_reference 190 (e := (351, .goto 4, 3)) rfl) 355 (by decide) ?_
        exact t_Mo_reference_355 F hV h
    · replace h := h.2 c
      exact t_Mo_reference_321 F hV h
def w_Mo_reference_299 (X : MX) (x1 x2 x3 : Int32) (m : MS) (Φ : Option Value → MS → Prop) (K270 : Int32 → Int32 → Int32 → MS → Prop) : Prop := K270 (x1) (x2) (x3 + 1) m
theorem t_Mo_reference_299 {X : MX} {a0 : Array Value} (F : mF X a0) {d : Nat} {x1 x2 x3 : Int32} {o4 o5 : Option Value} {m : MS} {σ : jS} {Φ : Option Value → MS → Prop} {K270 : Int32 → Int32 → Int32 → MS → Prop} (hV : MV X m σ) (h : w_Mo_reference_299 X x1 x2 x3 m Φ K270) (hK270 : ∀ (x1 x2 x3 : Int32) (o4 o5 : Option Value) (m : MS) (σ : jS), MV X m σ → K270 x1 x2 x3 m → jW X.1 X.2.1 jcl X.2.2.1 X.2.2.2.1 (d + 2) y_Mo_reference 270 [some (.ref (mo X)), some (.int x1), some (.int x2), some (.int x3), o4, o5] [] σ (mQ X Φ σ)) : jW X.1 X.2.1 jcl X.2.2.1 X.2.2.2.1 (d + 2) y_Mo_reference 299 [some (.ref (mo X)), some (.int x1), some (.int x2), some (.int x3), o4, o5] [] σ (mQ X Φ σ) := by
  unfold w_Mo_reference_299 at h
  refine jW.iinc (v := _ + (1)) (dx_Mo_reference 157 (e := (299, .iinc 3 1, 3)) rfl) rfl rfl (by decide) rfl (pc' := 302) rfl ?_
  refine jW.goto (dx_Mo_reference 158 (e := (302, .goto (-32), 3)) rfl) 270 (by decide) ?_
  exact hK270 _ _ _ _ _ _ _ hV h
def w_Mo_reference_270 (X : MX) (x1 x2 x3 : Int32) (m : MS) (Φ : Option Value → MS → Prop) (K270 : Int32 → Int32 → Int32 → MS → Prop) : Prop := ((x2 ≤ x3 → w_Mo_reference_305 X (x1) (x2) (x3) m Φ) ∧ (¬ x2 ≤ x3 → (vp_in (x3) 48000 ∧ mE X 0 y_Mo_isLetter [.int (m.2 7 (x3 : Int32).toNatClampNeg)] m (iP fun r1 m1 => ((r1 = 0 → (vp_in (x3) 48000 ∧ mE X 0 y_Mo_isDigit [.int (m1.2 7 (x3 : Int32).toNatClampNeg)] m1 (iP fun r2 m2 => ((r2 = 0 → w_Mo_reference_305 X (x1) (x2) (x3) m2 Φ) ∧ (¬ r2 = 0 → w_Mo_reference_299 X (x1) (x2) (x3) m2 Φ K270))))) ∧ (¬ r1 = 0 → w_Mo_reference_299 X (x1) (x2) (x3) m1 Φ K270))))))
theorem t_Mo_reference_270 {X : MX} {a0 : Array Value} (F : mF X a0) {d : Nat} {x1 x2 x3 : Int32} {o4 o5 : Option Value} {m : MS} {σ : jS} {Φ : Option Value → MS → Prop} {K270 : Int32 → Int32 → Int32 → MS → Prop} (hV : MV X m σ) (h : w_Mo_reference_270 X x1 x2 x3 m Φ K270) (hK270 : ∀ (x1 x2 x3 : Int32) (o4 o5 : Option Value) (m : MS) (σ : jS), MV X m σ → K270 x1 x2 x3 m → jW X.1 X.2.1 jcl X.2.2.1 X.2.2.2.1 (d + 2) y_Mo_reference 270 [some (.ref (mo X)), some (.int x1), some (.int x2), some (.int x3), o4, o5] [] σ (mQ X Φ σ)) : jW X.1 X.2.1 jcl X.2.2.1 X.2.2.2.1 (d + 2) y_Mo_reference 270 [some (.ref (mo X)), some (.int x1), some (.int x2), some (.int x3), o4, o5] [] σ (mQ X Φ σ) := by
  unfold w_Mo_reference_270 at h
  refine jW.iload_n (dx_Mo_reference 142 (e := (270, .iload_n 3, 1)) rfl) rfl rfl (pc' := 271) rfl ?_
  refine jW.iload_n (dx_Mo_reference 143 (e := (271, .iload_n 2, 1)) rfl) rfl rfl (pc' := 272) rfl ?_
  refine jW.icmp_ge (dx_Mo_reference 144 (e := (272, .if_icmp .ge 33, 3)) rfl) 305 (by decide) (pc' := 275) rfl (fun c => ?_) (fun c => ?_)
  · replace h := h.1 c
    exact t_Mo_reference_305 F hV h
  · replace h := h.2 c
    refine jW.aload_n (dx_Mo_reference 145 (e := (275, .aload_n 0, 1)) rfl) rfl rfl (pc' := 276) rfl ?_
    refine jW.mga F hV f_Mo_reference_276 (by decide) (pc' := 279) rfl ?_
    refine jW.iload_n (dx_Mo_reference 147 (e := (279, .iload_n 3, 1)) rfl) rfl rfl (pc' := 280) rfl ?_
    refine jW.mla F hV (dx_Mo_reference 148 (e := (280, .iaload, 1)) rfl) (by decide) rfl h.1 (pc' := 281) rfl ?_
    replace h := h.2
    refine jW.callS F (h (d + 1) _ hV) (dx_Mo_reference 149 (e := (281, .invokestatic 307, 3)) rfl) can_Mo_isLetter jw_1273 jw_1274 rfl rfl (Nat.le_of_ble_eq_true rfl) (pc' := 284) rfl (fun r σ hr => ?_)
    clear hV
    refine mQ.up hr.1 ?_
    obtain ⟨_, hV, _, rfl, h⟩ := hr.2
    refine jW.if_ne (dx_Mo_reference 150 (e := (284, .ifCond .ne 15, 3)) rfl) 299 (by decide) (pc' := 287) rfl (fun c => ?_) (fun c => ?_)
    · replace h := h.2 c
      exact t_Mo_reference_299 F hV h hK270
    · replace h := h.1 c
      refine jW.aload_n (dx_Mo_reference 151 (e := (287, .aload_n 0, 1)) rfl) rfl rfl (pc' := 288) rfl ?_
      refine jW.mga F hV f_Mo_reference_288 (by decide) (pc' := 291) rfl ?_
      refine jW.iload_n (dx_Mo_reference 153 (e := (291, .iload_n 3, 1)) rfl) rfl rfl (pc' := 292) rfl ?_
      refine jW.mla F hV (dx_Mo_reference 154 (e := (292, .iaload, 1)) rfl) (by decide) rfl h.1 (pc' := 293) rfl ?_
      replace h := h.2
      refine jW.callS F (h (d + 1) _ hV) (dx_Mo_reference 155 (e := (293, .invokestatic 201, 3)) rfl) can_Mo_isDigit jw_1266 jw_1267 rfl rfl (Nat.le_of_ble_eq_true rfl) (pc' := 296) rfl (fun r σ hr => ?_)
      clear hV
      refine mQ.up hr.1 ?_
      obtain ⟨_, hV, _, rfl, h⟩ := hr.2
      refine jW.if_eq (dx_Mo_reference 156 (e := (296, .ifCond .eq 9, 3)) rfl) 305 (by decide) (pc' := 299) rfl (fun c => ?_) (fun c => ?_)
      · replace h := h.1 c
        exact t_Mo_reference_305 F hV h
      · replace h := h.2 c
        exact t_Mo_reference_299 F hV h hK270
def w_Mo_reference_218 (X : MX) (x1 x2 x3 x4 x5 : Int32) (m : MS) (Φ : Option Value → MS → Prop) : Prop := Φ (some (.int (0))) m
theorem t_Mo_reference_218 {X : MX} {a0 : Array Value} (F : mF X a0) {d : Nat} {x1 x2 x3 x4 x5 : Int32} {m : MS} {σ : jS} {Φ : Option Value → MS → Prop} (hV : MV X m σ) (h : w_Mo_reference_218 X x1 x2 x3 x4 x5 m Φ) : jW X.1 X.2.1 jcl X.2.2.1 X.2.2.2.1 (d + 2) y_Mo_reference 218 [some (.ref (mo X)), some (.int x1), some (.int x2), some (.int x3), some (.int x4), some (.int x5)] [] σ (mQ X Φ σ) := by
  unfold w_Mo_reference_218 at h
  refine jW.iconst (v := 0) (dx_Mo_reference 116 (e := (218, .iconst 0, 1)) rfl) (by decide) (pc' := 219) rfl ?_
  exact jW.iret (dx_Mo_reference 117 (e := (219, .ireturn, 1)) rfl) rfl ⟨FR.rfl, _, hV, h⟩
def w_Mo_reference_264 (X : MX) (x1 x2 x3 x4 x5 : Int32) (m : MS) (Φ : Option Value → MS → Prop) : Prop := Φ (some (.int ((x3 + 1) - x1))) m
theorem t_Mo_reference_264 {X : MX} {a0 : Array Value} (F : mF X a0) {d : Nat} {x1 x2 x3 x4 x5 : Int32} {m : MS} {σ : jS} {Φ : Option Value → MS → Prop} (hV : MV X m σ) (h : w_Mo_reference_264 X x1 x2 x3 x4 x5 m Φ) : jW X.1 X.2.1 jcl X.2.2.1 X.2.2.2.1 (d + 2) y_Mo_reference 264 [some (.ref (mo X)), some (.int x1), some (.int x2), some (.int x3), some (.int x4), some (.int x5)] [] σ (mQ X Φ σ) := by
  unfold w_Mo_reference_264 at h
  refine jW.iload_n (dx_Mo_reference 136 (e := (264, .iload_n 3, 1)) rfl) rfl rfl (pc' := 265) rfl ?_
  refine jW.iconst (v := 1) (dx_Mo_reference 137 (e := (265, .iconst 1, 1)) rfl) (by decide) (pc' := 266) rfl ?_
  refine jW.iadd (dx_Mo_reference 138 (e := (266, .iadd, 1)) rfl) (pc' := 267) rfl ?_
  refine jW.iload_n (dx_Mo_reference 139 (e := (267, .iload_n 1, 1)) rfl) rfl rfl (pc' := 268) rfl ?_
  refine jW.isub (dx_Mo_reference 140 (e := (268, .isub, 1)) rfl) (pc' := 269) rfl ?_
  exact jW.iret (dx_Mo_reference 141 (e := (269, .ireturn, 1)) rfl) rfl ⟨FR.rfl, _, hV, h⟩
def w_Mo_reference_257 (X : MX) (x1 x2 x3 x4 x5 : Int32) (m : MS) (Φ : Option Value → MS → Prop) : Prop := ∀ m1, m1 = mI m 51 (65533) → w_Mo_reference_264 X (x1) (x2) (x3) (x4) (x5) m1 Φ
theorem t_Mo_reference_257 {X : MX} {a0 : Array Value} (F : mF X a0) {d : Nat} {x1 x2 x3 x4 x5 : Int32} {m : MS} {σ : jS} {Φ : Option Value → MS → Prop} (hV : MV X m σ) (h : w_Mo_reference_257 X x1 x2 x3 x4 x5 m Φ) : jW X.1 X.2.1 jcl X.2.2.1 X.2.2.2.1 (d + 2) y_Mo_reference 257 [some (.ref (mo X)), some (.int x1), some (.int x2), some (.int x3), some (.int x4), some (.int x5)] [] σ (mQ X Φ σ) := by
  unfold w_Mo_reference_257 at h
  refine jW.aload_n (dx_Mo_reference 133 (e := (257, .aload_n 0, 1)) rfl) rfl rfl (pc' := 258) rfl ?_
  refine jW.ldcw (v := 65533) F (dx_Mo_reference 134 (e := (258, .ldc_w 306, 3)) rfl) jw_1272 (Or.inl rfl) (pc' := 261) rfl ?_
  refine jW.mpi F hV f_Mo_reference_261 (by decide) rfl rfl rfl (pc' := 264) rfl (fun σ hV => ?_)
  replace h := h _ rfl
  exact t_Mo_reference_264 F hV h
def w_Mo_reference_199 (X : MX) (x1 x2 x3 x4 x5 s0 s1 : Int32) (m : MS) (Φ : Option Value → MS → Prop) : Prop := ((s1 < s0 → w_Mo_reference_218 X (x1) (x2) (x3) (x4) (x5) m Φ) ∧ (¬ s1 < s0 → ((x2 ≤ x3 → w_Mo_reference_218 X (x1) (x2) (x3) (x4) (x5) m Φ) ∧ (¬ x2 ≤ x3 → (vp_in (x3) 48000 ∧ ((m.2 7 (x3 : Int32).toNatClampNeg = 59 → ((m.1 51 = 0 → w_Mo_reference_257 X (x1) (x2) (x3) (x4) (x5) m Φ) ∧ (¬ m.1 51 = 0 → ((1114111 < m.1 51 → w_Mo_reference_257 X (x1) (x2) (x3) (x4) (x5) m Φ) ∧ (¬ 1114111 < m.1 51 → ((m.1 51 < 55296 → w_Mo_reference_264 X (x1) (x2) (x3) (x4) (x5) m Φ) ∧ (¬ m.1 51 < 55296 → ((57343 < m.1 51 → w_Mo_reference_264 X (x1) (x2) (x3) (x4) (x5) m Φ) ∧ (¬ 57343 < m.1 51 → w_Mo_reference_257 X (x1) (x2) (x3) (x4) (x5) m Φ))))))))) ∧ (¬ m.2 7 (x3 : Int32).toNatClampNeg = 59 → w_Mo_reference_218 X (x1) (x2) (x3) (x4) (x5) m Φ)))))))
theorem t_Mo_reference_199 {X : MX} {a0 : Array Value} (F : mF X a0) {d : Nat} {x1 x2 x3 x4 x5 s0 s1 : Int32} {m : MS} {σ : jS} {Φ : Option Value → MS → Prop} (hV : MV X m σ) (h : w_Mo_reference_199 X x1 x2 x3 x4 x5 s0 s1 m Φ) : jW X.1 X.2.1 jcl X.2.2.1 X.2.2.2.1 (d + 2) y_Mo_reference 199 [some (.ref (mo X)), some (.int x1), some (.int x2), some (.int x3), some (.int x4), some (.int x5)] [.int s1, .int s0] σ (mQ X Φ σ) := by
  unfold w_Mo_reference_199 at h
  refine jW.icmp_gt (dx_Mo_reference 106 (e := (199, .if_icmp .gt 19, 3)) rfl) 218 (by decide) (pc' := 202) rfl (fun c => ?_) (fun c => ?_)
  · replace h := h.1 c
    exact t_Mo_reference_218 F hV h
  · replace h := h.2 c
    refine jW.iload_n (dx_Mo_reference 107 (e := (202, .iload_n 3, 1)) rfl) rfl rfl (pc' := 203) rfl ?_
    refine jW.iload_n (dx_Mo_reference 108 (e := (203, .iload_n 2, 1)) rfl) rfl rfl (pc' := 204) rfl ?_
    refine jW.icmp_ge (dx_Mo_reference 109 (e := (204, .if_icmp .ge 14, 3)) rfl) 218 (by decide) (pc' := 207) rfl (fun c => ?_) (fun c => ?_)
    · replace h := h.1 c
      exact t_Mo_reference_218 F hV h
    · replace h := h.2 c
      refine jW.aload_n (dx_Mo_reference 110 (e := (207, .aload_n 0, 1)) rfl) rfl rfl (pc' := 208) rfl ?_
      refine jW.mga F hV f_Mo_reference_208 (by decide) (pc' := 211) rfl ?_
      refine jW.iload_n (dx_Mo_reference 112 (e := (211, .iload_n 3, 1)) rfl) rfl rfl (pc' := 212) rfl ?_
      refine jW.mla F hV (dx_Mo_reference 113 (e := (212, .iaload, 1)) rfl) (by decide) rfl h.1 (pc' := 213) rfl ?_
      replace h := h.2
      refine jW.bipush (v := 59) (dx_Mo_reference 114 (e := (213, .bipush 59, 2)) rfl) (by decide) (pc' := 215) rfl ?_
      refine jW.icmp_eq (dx_Mo_reference 115 (e := (215, .if_icmp .eq 5, 3)) rfl) 220 (by decide) (pc' := 218) rfl (fun c => ?_) (fun c => ?_)
      · replace h := h.1 c
        refine jW.aload_n (dx_Mo_reference 118 (e := (220, .aload_n 0, 1)) rfl) rfl rfl (pc' := 221) rfl ?_
        refine jW.mgi F hV f_Mo_reference_221 (by decide) (pc' := 224) rfl ?_
        refine jW.if_eq (dx_Mo_reference 120 (e := (224, .ifCond .eq 33, 3)) rfl) 257 (by decide) (pc' := 227) rfl (fun c => ?_) (fun c => ?_)
        · replace h := h.1 c
          exact t_Mo_reference_257 F hV h
        · replace h := h.2 c
          refine jW.aload_n (dx_Mo_reference 121 (e := (227, .aload_n 0, 1)) rfl) rfl rfl (pc' := 228) rfl ?_
          refine jW.mgi F hV f_Mo_reference_228 (by decide) (pc' := 231) rfl ?_
          refine jW.ldcw (v := 1114111) F (dx_Mo_reference 123 (e := (231, .ldc_w 303, 3)) rfl) jw_1269 (Or.inl rfl) (pc' := 234) rfl ?_
          refine jW.icmp_gt (dx_Mo_reference 124 (e := (234, .if_icmp .gt 23, 3)) rfl) 257 (by decide) (pc' := 237) rfl (fun c => ?_) (fun c => ?_)
          · replace h := h.1 c
            exact t_Mo_reference_257 F hV h
          · replace h := h.2 c
            refine jW.aload_n (dx_Mo_reference 125 (e := (237, .aload_n 0, 1)) rfl) rfl rfl (pc' := 238) rfl ?_
            refine jW.mgi F hV f_Mo_reference_238 (by decide) (pc' := 241) rfl ?_
            refine jW.ldcw (v := 55296) F (dx_Mo_reference 127 (e := (241, .ldc_w 304, 3)) rfl) jw_1270 (Or.inl rfl) (pc' := 244) rfl ?_
            refine jW.icmp_lt (dx_Mo_reference 128 (e := (244, .if_icmp .lt 20, 3)) rfl) 264 (by decide) (pc' := 247) rfl (fun c => ?_) (fun c => ?_)
            · replace h := h.1 c
              exact t_Mo_reference_264 F hV h
            · replace h := h.2 c
              refine jW.aload_n (dx_Mo_reference 129 (e := (247, .aload_n 0, 1)) rfl) rfl rfl (pc' := 248) rfl ?_
              refine jW.mgi F hV f_Mo_reference_248 (by decide) (pc' := 251) rfl ?_
              refine jW.ldcw (v := 57343) F (dx_Mo_reference 131 (e := (251, .ldc_w 305, 3)) rfl) jw_1271 (Or.inl rfl) (pc' := 254) rfl ?_
              refine jW.icmp_gt (dx_Mo_reference 132 (e := (254, .if_icmp .gt 10, 3)) rfl) 264 (by decide) (pc' := 257) rfl (fun c => ?_) (fun c => ?_)
              · replace h := h.1 c
                exact t_Mo_reference_264 F hV h
              · replace h := h.2 c
                exact t_Mo_reference_257 F hV h
      · replace h := h.2 c
        exact t_Mo_reference_218 F hV h
def w_Mo_reference_177 (X : MX) (x1 x2 x3 x4 x5 : Int32) (m : MS) (Φ : Option Value → MS → Prop) : Prop := ((x3 = x5 → w_Mo_reference_218 X (x1) (x2) (x3) (x4) (x5) m Φ) ∧ (¬ x3 = x5 → ((x4 = 0 → w_Mo_reference_199 X (x1) (x2) (x3) (x4) (x5) (x3 - x5) (7) m Φ) ∧ (¬ x4 = 0 → w_Mo_reference_199 X (x1) (x2) (x3) (x4) (x5) (x3 - x5) (6) m Φ))))
theorem t_Mo_reference_177 {X : MX} {a0 : Array Value} (F : mF X a0) {d : Nat} {x1 x2 x3 x4 x5 : Int32} {m : MS} {σ : jS} {Φ : Option Value → MS → Prop} (hV : MV X m σ) (h : w_Mo_reference_177 X x1 x2 x3 x4 x5 m Φ) : jW X.1 X.2.1 jcl X.2.2.1 X.2.2.2.1 (d + 2) y_Mo_reference 177 [some (.ref (mo X)), some (.int x1), some (.int x2), some (.int x3), some (.int x4), some (.int x5)] [] σ (mQ X Φ σ) := by
  unfold w_Mo_reference_177 at h
  refine jW.iload_n (dx_Mo_reference 95 (e := (177, .iload_n 3, 1)) rfl) rfl rfl (pc' := 178) rfl ?_
  refine jW.iload (dx_Mo_reference 96 (e := (178, .iload 5, 2)) rfl) rfl (pc' := 180) rfl ?_
  refine jW.icmp_eq (dx_Mo_reference 97 (e := (180, .if_icmp .eq 38, 3)) rfl) 218 (by decide) (pc' := 183) rfl (fun c => ?_) (fun c => ?_)
  · replace h := h.1 c
    exact t_Mo_reference_218 F hV h
  · replace h := h.2 c
    refine jW.iload_n (dx_Mo_reference 98 (e := (183, .iload_n 3, 1)) rfl) rfl rfl (pc' := 184) rfl ?_
    refine jW.iload (dx_Mo_reference 99 (e := (184, .iload 5, 2)) rfl) rfl (pc' := 186) rfl ?_
    refine jW.isub (dx_Mo_reference 100 (e := (186, .isub, 1)) rfl) (pc' := 187) rfl ?_
    refine jW.iload (dx_Mo_reference 101 (e := (187, .iload 4, 2)) rfl) rfl (pc' := 189) rfl ?_
    refine jW.if_eq (dx_Mo_reference 102 (e := (189, .ifCond .eq 8, 3)) rfl) 197 (by decide) (pc' := 192) rfl (fun c => ?_) (fun c => ?_)
    · replace h := h.1 c
      refine jW.bipush (v := 7) (dx_Mo_reference 105 (e := (197, .bipush 7, 2)) rfl) (by decide) (pc' := 199) rfl ?_
      exact t_Mo_reference_199 F hV h
    · replace h := h.2 c
      refine jW.bipush (v := 6) (dx_Mo_reference 103 (e := (192, .bipush 6, 2)) rfl) (by decide) (pc' := 194) rfl ?_
      refine jW.goto (dx_Mo_reference 104 (e := (194, .goto 5, 3)) rfl) 199 (by decide) ?_
      exact t_Mo_reference_199 F hV h
def w_Mo_reference_168 (X : MX) (x1 x2 x3 x4 x5 s1 : Int32) (m : MS) (Φ : Option Value → MS → Prop) (K78 : Int32 → Int32 → Int32 → Int32 → Int32 → MS → Prop) : Prop := ∀ m1, m1 = mI m 51 (s1) → K78 (x1) (x2) (x3 + 1) (x4) (x5) m1
theorem t_Mo_reference_168 {X : MX} {a0 : Array Value} (F : mF X a0) {d : Nat} {x1 x2 x3 x4 x5 s1 : Int32} {m : MS} {σ : jS} {Φ : Option Value → MS → Prop} {K78 : Int32 → Int32 → Int32 → Int32 → Int32 → MS → Prop} (hV : MV X m σ) (h : w_Mo_reference_168 X x1 x2 x3 x4 x5 s1 m Φ K78) (hK78 : ∀ (x1 x2 x3 x4 x5 : Int32) (m : MS) (σ : jS), MV X m σ → K78 x1 x2 x3 x4 x5 m → jW X.1 X.2.1 jcl X.2.2.1 X.2.2.2.1 (d + 2) y_Mo_reference 78 [some (.ref (mo X)), some (.int x1), some (.int x2), some (.int x3), some (.int x4), some (.int x5)] [] σ (mQ X Φ σ)) : jW X.1 X.2.1 jcl X.2.2.1 X.2.2.2.1 (d + 2) y_Mo_reference 168 [some (.ref (mo X)), some (.int x1), some (.int x2), some (.int x3), some (.int x4), some (.int x5)] [.int s1, .ref (mo X)] σ (mQ X Φ σ) := by
  unfold w_Mo_reference_168 at h
  refine jW.mpi F hV f_Mo_reference_168 (by decide) rfl rfl rfl (pc' := 171) rfl (fun σ hV => ?_)
  replace h := h _ rfl
  refine jW.iinc (v := _ + (1)) (dx_Mo_reference 93 (e := (171, .iinc 3 1, 3)) rfl) rfl rfl (by decide) rfl (pc' := 174) rfl ?_
  refine jW.goto (dx_Mo_reference 94 (e := (174, .goto (-96), 3)) rfl) 78 (by decide) ?_
  exact hK78 _ _ _ _ _ _ _ hV h
def w_Mo_reference_146 (X : MX) (x1 x2 x3 x4 x5 s1 : Int32) (m : MS) (Φ : Option Value → MS → Prop) (K78 : Int32 → Int32 → Int32 → Int32 → Int32 → MS → Prop) : Prop := (vp_in (x3) 48000 ∧ mE X 1 y_Mo_hex [.int (m.2 7 (x3 : Int32).toNatClampNeg)] m (iP fun r1 m1 => w_Mo_reference_168 X (x1) (x2) (x3) (x4) (x5) ((s1 * (m.1 51)) + r1) m1 Φ K78))
theorem t_Mo_reference_146 {X : MX} {a0 : Array Value} (F : mF X a0) {d : Nat} {x1 x2 x3 x4 x5 s1 : Int32} {m : MS} {σ : jS} {Φ : Option Value → MS → Prop} {K78 : Int32 → Int32 → Int32 → Int32 → Int32 → MS → Prop} (hV : MV X m σ) (h : w_Mo_reference_146 X x1 x2 x3 x4 x5 s1 m Φ K78) (hK78 : ∀ (x1 x2 x3 x4 x5 : Int32) (m : MS) (σ : jS), MV X m σ → K78 x1 x2 x3 x4 x5 m → jW X.1 X.2.1 jcl X.2.2.1 X.2.2.2.1 (d + 2) y_Mo_reference 78 [some (.ref (mo X)), some (.int x1), some (.int x2), some (.int x3), some (.int x4), some (.int x5)] [] σ (mQ X Φ σ)) : jW X.1 X.2.1 jcl X.2.2.1 X.2.2.2.1 (d + 2) y_Mo_reference 146 [some (.ref (mo X)), some (.int x1), some (.int x2), some (.int x3), some (.int x4), some (.int x5)] [.int s1, .ref (mo X)] σ (mQ X Φ σ) := by
  unfold w_Mo_reference_146 at h
  refine jW.aload_n (dx_Mo_reference 80 (e := (146, .aload_n 0, 1)) rfl) rfl rfl (pc' := 147) rfl ?_
  refine jW.mgi F hV f_Mo_reference_147 (by decide) (pc' := 150) rfl ?_
  refine jW.imul (dx_Mo_reference 82 (e := (150, .imul, 1)) rfl) (pc' := 151) rfl ?_
  refine jW.aload_n (dx_Mo_reference 83 (e := (151, .aload_n 0, 1)) rfl) rfl rfl (pc' := 152) rfl ?_
  refine jW.mga F hV f_Mo_reference_152 (by decide) (pc' := 155) rfl ?_
  refine jW.iload_n (dx_Mo_reference 85 (e := (155, .iload_n 3, 1)) rfl) rfl rfl (pc' := 156) rfl ?_
  refine jW.mla F hV (dx_Mo_reference 86 (e := (156, .iaload, 1)) rfl) (by decide) rfl h.1 (pc' := 157) rfl ?_
  replace h := h.2
  refine jW.callS F (h (d + 0) _ hV) (dx_Mo_reference 87 (e := (157, .invokestatic 300, 3)) rfl) can_Mo_hex jw_1263 jw_1264 rfl rfl (Nat.le_of_ble_eq_true rfl) (pc' := 160) rfl (fun r σ hr => ?_)
  clear hV
  refine mQ.up hr.1 ?_
  obtain ⟨_, hV, _, rfl, h⟩ := hr.2
  refine jW.iadd (dx_Mo_reference 88 (e := (160, .iadd, 1)) rfl) (pc' := 161) rfl ?_
  refine jW.goto (dx_Mo_reference 89 (e := (161, .goto 7, 3)) rfl) 168 (by decide) ?_
  exact t_Mo_reference_168 F hV h hK78
def w_Mo_reference_124 (X : MX) (x1 x2 x3 x4 x5 : Int32) (m : MS) (Φ : Option Value → MS → Prop) (K78 : Int32 → Int32 → Int32 → Int32 → Int32 → MS → Prop) : Prop := ((7 ≤ x3 - x5 → w_Mo_reference_168 X (x1) (x2) (x3) (x4) (x5) (m.1 51) m Φ K78) ∧ (¬ 7 ≤ x3 - x5 → ((x4 = 0 → w_Mo_reference_146 X (x1) (x2) (x3) (x4) (x5) (10) m Φ K78) ∧ (¬ x4 = 0 → w_Mo_reference_146 X (x1) (x2) (x3) (x4) (x5) (16) m Φ K78))))
theorem t_Mo_reference_124 {X : MX} {a0 : Array Value} (F : mF X a0) {d : Nat} {x1 x2 x3 x4 x5 : Int32} {m : MS} {σ : jS} {Φ : Option Value → MS → Prop} {K78 : Int32 → Int32 → Int32 → Int32 → Int32 → MS → Prop} (hV : MV X m σ) (h : w_Mo_reference_124 X x1 x2 x3 x4 x5 m Φ K78) (hK78 : ∀ (x1 x2 x3 x4 x5 : Int32) (m : MS) (σ : jS), MV X m σ → K78 x1 x2 x3 x4 x5 m → jW X.1 X.2.1 jcl X.2.2.1 X.2.2.2.1 (d + 2) y_Mo_reference 78 [some (.ref (mo X)), some (.int x1), some (.int x2), some (.int x3), some (.int x4), some (.int x5)] [] σ (mQ X Φ σ)) : jW X.1 X.2.1 jcl X.2.2.1 X.2.2.2.1 (d + 2) y_Mo_reference 124 [some (.ref (mo X)), some (.int x1), some (.int x2), some (.int x3), some (.int x4), some (.int x5)] [] σ (mQ X Φ σ) := by
  unfold w_Mo_reference_124 at h
  refine jW.aload_n (dx_Mo_reference 69 (e := (124, .aload_n 0, 1)) rfl) rfl rfl (pc' := 125) rfl ?_
  refine jW.iload_n (dx_Mo_reference 70 (e := (125, .iload_n 3, 1)) rfl) rfl rfl (pc' := 126) rfl ?_
  refine jW.iload (dx_Mo_reference 71 (e := (126, .iload 5, 2)) rfl) rfl (pc' := 128) rfl ?_
  refine jW.isub (dx_Mo_reference 72 (e := (128, .isub, 1)) rfl) (pc' := 129) rfl ?_
  refine jW.bipush (v := 7) (dx_Mo_reference 73 (e := (129, .bipush 7, 2)) rfl) (by decide) (pc' := 131) rfl ?_
  refine jW.icmp_ge (dx_Mo_reference 74 (e := (131, .if_icmp .ge 33, 3)) rfl) 164 (by decide) (pc' := 134) rfl (fun c => ?_) (fun c => ?_)
  · replace h := h.1 c
    refine jW.aload_n (dx_Mo_reference 90 (e := (164, .aload_n 0, 1)) rfl) rfl rfl (pc' := 165) rfl ?_
    refine jW.mgi F hV f_Mo_reference_165 (by decide) (pc' := 168) rfl ?_
    exact t_Mo_reference_168 F hV h hK78
  · replace h := h.2 c
    refine jW.iload (dx_Mo_reference 75 (e := (134, .iload 4, 2)) rfl) rfl (pc' := 136) rfl ?_
    refine jW.if_eq (dx_Mo_reference 76 (e := (136, .ifCond .eq 8, 3)) rfl) 144 (by decide) (pc' := 139) rfl (fun c => ?_) (fun c => ?_)
    · replace h := h.1 c
      refine jW.bipush (v := 10) (dx_Mo_reference 79 (e := (144, .bipush 10, 2)) rfl) (by decide) (pc' := 146) rfl ?_
      exact t_Mo_reference_146 F hV h hK78
    · replace h := h.2 c
      refine jW.bipush (v := 16) (dx_Mo_reference 77 (e := (139, .bipush 16, 2)) rfl) (by decide) (pc' := 141) rfl ?_
      refine jW.goto (dx_Mo_reference 78 (e := (141, .goto 5, 3)) rfl) 146 (by decide) ?_
      exact t_Mo_reference_146 F hV h hK78
def w_Mo_reference_78 (X : MX) (x1 x2 x3 x4 x5 : Int32) (m : MS) (Φ : Option Value → MS → Prop) (K78 : Int32 → Int32 → Int32 → Int32 → Int32 → MS → Prop) : Prop := ((x2 ≤ x3 → w_Mo_reference_177 X (x1) (x2) (x3) (x4) (x5) m Φ) ∧ (¬ x2 ≤ x3 → ((8 ≤ x3 - x5 → w_Mo_reference_177 X (x1) (x2) (x3) (x4) (x5) m Φ) ∧ (¬ 8 ≤ x3 - x5 → ((x4 = 0 → (vp_in (x3) 48000 ∧ mE X 0 y_Mo_isDigit [.int (m.2 7 (x3 : Int32).toNatClampNeg)] m (iP fun r1 m1 => ((r1 = 0 → w_Mo_reference_177 X (x1) (x2) (x3) (x4) (x5) m1 Φ) ∧ (¬ r1 = 0 → w_Mo_reference_124 X (x1) (x2) (x3) (x4) (x5) m1 Φ K78))))) ∧ (¬ x4 = 0 → (vp_in (x3) 48000 ∧ mE X 1 y_Mo_hex [.int (m.2 7 (x3 : Int32).toNatClampNeg)] m (iP fun r2 m2 => ((r2 < 0 → w_Mo_reference_177 X (x1) (x2) (x3) (x4) (x5) m2 Φ) ∧ (¬ r2 < 0 → w_Mo_reference_124 X (x1) (x2) (x3) (x4) (x5) m2 Φ K78))))))))))
theorem t_Mo_reference_78 {X : MX} {a0 : Array Value} (F : mF X a0) {d : Nat} {x1 x2 x3 x4 x5 : Int32} {m : MS} {σ : jS} {Φ : Option Value → MS → Prop} {K78 : Int32 → Int32 → Int32 → Int32 → Int32 → MS → Prop} (hV : MV X m σ) (h : w_Mo_reference_78 X x1 x2 x3 x4 x5 m Φ K78) (hK78 : ∀ (x1 x2 x3 x4 x5 : Int32) (m : MS) (σ : jS), MV X m σ → K78 x1 x2 x3 x4 x5 m → jW X.1 X.2.1 jcl X.2.2.1 X.2.2.2.1 (d + 2) y_Mo_reference 78 [some (.ref (mo X)), some (.int x1), some (.int x2), some (.int x3), some (.int x4), some (.int x5)] [] σ (mQ X Φ σ)) : jW X.1 X.2.1 jcl X.2.2.1 X.2.2.2.1 (d + 2) y_Mo_reference 78 [some (.ref (mo X)), some (.int x1), some (.int x2), some (.int x3), some (.int x4), some (.int x5)] [] σ (mQ X Φ σ) := by
  unfold w_Mo_reference_78 at h
  refine jW.iload_n (dx_Mo_reference 46 (e := (78, .iload_n 3, 1)) rfl) rfl rfl (pc' := 79) rfl ?_
  refine jW.iload_n (dx_Mo_reference 47 (e := (79, .iload_n 2, 1)) rfl) rfl rfl (pc' := 80) rfl ?_
  refine jW.icmp_ge (dx_Mo_reference 48 (e := (80, .if_icmp .ge 97, 3)) rfl) 177 (by decide) (pc' := 83) rfl (fun c => ?_) (fun c => ?_)
  · replace h := h.1 c
    exact t_Mo_reference_177 F hV h
  · replace h := h.2 c
    refine jW.iload_n (dx_Mo_reference 49 (e := (83, .iload_n 3, 1)) rfl) rfl rfl (pc' := 84) rfl ?_
    refine jW.iload (dx_Mo_reference 50 (e := (84, .iload 5, 2)) rfl) rfl (pc' := 86) rfl ?_
    refine jW.isub (dx_Mo_reference 51 (e := (86, .isub, 1)) rfl) (pc' := 87) rfl ?_
    refine jW.bipush (v := 8) (dx_Mo_reference 52 (e := (87, .bipush 8, 2)) rfl) (by decide) (pc' := 89) rfl ?_
    refine jW.icmp_ge (dx_Mo_reference 53 (e := (89, .if_icmp .ge 88, 3)) rfl) 177 (by decide) (pc' := 92) rfl (fun c => ?_) (fun c => ?_)
    · replace h := h.1 c
      exact t_Mo_reference_177 F hV h
    · replace h := h.2 c
      refine jW.iload (dx_Mo_reference 54 (e := (92, .iload 4, 2)) rfl) rfl (pc' := 94) rfl ?_
      refine jW.if_eq (dx_Mo_reference 55 (e := (94, .ifCond .eq 18, 3)) rfl) 112 (by decide) (pc' := 97) rfl (fun c => ?_) (fun c => ?_)
      · replace h := h.1 c
        refine jW.aload_n (dx_Mo_reference 63 (e := (112, .aload_n 0, 1)) rfl) rfl rfl (pc' := 113) rfl ?_
        refine jW.mga F hV f_Mo_reference_113 (by decide) (pc' := 116) rfl ?_
        refine jW.iload_n (dx_Mo_reference 65 (e := (116, .iload_n 3, 1)) rfl) rfl rfl (pc' := 117) rfl ?_
        refine jW.mla F hV (dx_Mo_reference 66 (e := (117, .iaload, 1)) rfl) (by decide) rfl h.1 (pc' := 118) rfl ?_
        replace h := h.2
        refine jW.callS F (h (d + 1) _ hV) (dx_Mo_reference 67 (e := (118, .invokestatic 201, 3)) rfl) can_Mo_isDigit jw_1266 jw_1267 rfl rfl (Nat.le_of_ble_eq_true rfl) (pc' := 121) rfl (fun r σ hr => ?_)
        clear hV
        refine mQ.up hr.1 ?_
        obtain ⟨_, hV, _, rfl, h⟩ := hr.2
        refine jW.if_eq (dx_Mo_reference 68 (e := (121, .ifCond .eq 56, 3)) rfl) 177 (by decide) (pc' := 124) rfl (fun c => ?_) (fun c => ?_)
        · replace h := h.1 c
          exact t_Mo_reference_177 F hV h
        · replace h := h.2 c
          exact t_Mo_reference_124 F hV h hK78
      · replace h := h.2 c
        refine jW.aload_n (dx_Mo_reference 56 (e := (97, .aload_n 0, 1)) rfl) rfl rfl (pc' := 98) rfl ?_
        refine jW.mga F hV f_Mo_reference_98 (by decide) (pc' := 101) rfl ?_
        refine jW.iload_n (dx_Mo_reference 58 (e := (101, .iload_n 3, 1)) rfl) rfl rfl (pc' := 102) rfl ?_
        refine jW.mla F hV (dx_Mo_reference 59 (e := (102, .iaload, 1)) rfl) (by decide) rfl h.1 (pc' := 103) rfl ?_
        replace h := h.2
        refine jW.callS F (h (d + 0) _ hV) (dx_Mo_reference 60 (e := (103, .invokestatic 300, 3)) rfl) can_Mo_hex jw_1263 jw_1264 rfl rfl (Nat.le_of_ble_eq_true rfl) (pc' := 106) rfl (fun r σ hr => ?_)
        clear hV
        refine mQ.up hr.1 ?_
        obtain ⟨_, hV, _, rfl, h⟩ := hr.2
        refine jW.if_lt (dx_Mo_reference 61 (e := (106, .ifCond .lt 71, 3)) rfl) 177 (by decide) (pc' := 109) rfl (fun c => ?_) (fun c => ?_)
        · replace h := h.1 c
          exact t_Mo_reference_177 F hV h
        · replace h := h.2 c
          refine jW.goto (dx_Mo_reference 62 (e := (109, .goto 15, 3)) rfl) 124 (by decide) ?_
          exact t_Mo_reference_124 F hV h hK78
def w_Mo_reference_68 (X : MX) (x1 x2 x3 x4 s0 s1 : Int32) (m : MS) (Φ : Option Value → MS → Prop) (K78 : Int32 → Int32 → Int32 → Int32 → Int32 → MS → Prop) : Prop := ∀ m1, m1 = mI m 51 (0) → K78 (x1) (x2) (s0 + s1) (x4) (s0 + s1) m1
theorem t_Mo_reference_68 {X : MX} {a0 : Array Value} (F : mF X a0) {d : Nat} {x1 x2 x3 x4 s0 s1 : Int32} {o5 : Option Value} {m : MS} {σ : jS} {Φ : Option Value → MS → Prop} {K78 : Int32 → Int32 → Int32 → Int32 → Int32 → MS → Prop} (hV : MV X m σ) (h : w_Mo_reference_68 X x1 x2 x3 x4 s0 s1 m Φ K78) (hK78 : ∀ (x1 x2 x3 x4 x5 : Int32) (m : MS) (σ : jS), MV X m σ → K78 x1 x2 x3 x4 x5 m → jW X.1 X.2.1 jcl X.2.2.1 X.2.2.2.1 (d + 2) y_Mo_reference 78 [some (.ref (mo X)), some (.int x1), some (.int x2), some (.int x3), some (.int x4), some (.int x5)] [] σ (mQ X Φ σ)) : jW X.1 X.2.1 jcl X.2.2.1 X.2.2.2.1 (d + 2) y_Mo_reference 68 [some (.ref (mo X)), some (.int x1), some (.int x2), some (.int x3), some (.int x4), o5] [.int s1, .int s0] σ (mQ X Φ σ) := by
  unfold w_Mo_reference_68 at h
  refine jW.iadd (dx_Mo_reference 39 (e := (68, .iadd, 1)) rfl) (pc' := 69) rfl ?_
  refine jW.istore_n (dx_Mo_reference 40 (e := (69, .istore_n 3, 1)) rfl) rfl (by decide) rfl (pc' := 70) rfl ?_
  refine jW.iload_n (dx_Mo_reference 41 (e := (70, .iload_n 3, 1)) rfl) rfl rfl (pc' := 71) rfl ?_
  refine jW.istore (dx_Mo_reference 42 (e := (71, .istore 5, 2)) rfl) (by decide) rfl (pc' := 73) rfl ?_
  refine jW.aload_n (dx_Mo_reference 43 (e := (73, .aload_n 0, 1)) rfl) rfl rfl (pc' := 74) rfl ?_
  refine jW.iconst (v := 0) (dx_Mo_reference 44 (e := (74, .iconst 0, 1)) rfl) (by decide) (pc' := 75) rfl ?_
  refine jW.mpi F hV f_Mo_reference_75 (by decide) rfl rfl rfl (pc' := 78) rfl (fun σ hV => ?_)
  replace h := h _ rfl
  exact hK78 _ _ _ _ _ _ _ hV h
def w_Mo_reference_55 (X : MX) (x1 x2 x3 s0 : Int32) (m : MS) (Φ : Option Value → MS → Prop) (K78 : Int32 → Int32 → Int32 → Int32 → Int32 → MS → Prop) : Prop := ((s0 = 0 → w_Mo_reference_68 X (x1) (x2) (x3) (s0) (x3) (0) m Φ K78) ∧ (¬ s0 = 0 → w_Mo_reference_68 X (x1) (x2) (x3) (s0) (x3) (1) m Φ K78))
theorem t_Mo_reference_55 {X : MX} {a0 : Array Value} (F : mF X a0) {d : Nat} {x1 x2 x3 s0 : Int32} {o4 o5 : Option Value} {m : MS} {σ : jS} {Φ : Option Value → MS → Prop} {K78 : Int32 → Int32 → Int32 → Int32 → Int32 → MS → Prop} (hV : MV X m σ) (h : w_Mo_reference_55 X x1 x2 x3 s0 m Φ K78) (hK78 : ∀ (x1 x2 x3 x4 x5 : Int32) (m : MS) (σ : jS), MV X m σ → K78 x1 x2 x3 x4 x5 m → jW X.1 X.2.1 jcl X.2.2.1 X.2.2.2.1 (d + 2) y_Mo_reference 78 [some (.ref (mo X)), some (.int x1), some (.int x2), some (.int x3), some (.int x4), some (.int x5)] [] σ (mQ X Φ σ)) : jW X.1 X.2.1 jcl X.2.2.1 X.2.2.2.1 (d + 2) y_Mo_reference 55 [some (.ref (mo X)), some (.int x1), some (.int x2), some (.int x3), o4, o5] [.int s0] σ (mQ X Φ σ) := by
  unfold w_Mo_reference_55 at h
  refine jW.istore (dx_Mo_reference 32 (e := (55, .istore 4, 2)) rfl) (by decide) rfl (pc' := 57) rfl ?_
  refine jW.iload_n (dx_Mo_reference 33 (e := (57, .iload_n 3, 1)) rfl) rfl rfl (pc' := 58) rfl ?_
  refine jW.iload (dx_Mo_reference 34 (e := (58, .iload 4, 2)) rfl) rfl (pc' := 60) rfl ?_
  refine jW.if_eq (dx_Mo_reference 35 (e := (60, .ifCond .eq 7, 3)) rfl) 67 (by decide) (pc' := 63) rfl (fun c => ?_) (fun c => ?_)
  · replace h := h.1 c
    refine jW.iconst (v := 0) (dx_Mo_reference 38 (e := (67, .iconst 0, 1)) rfl) (by decide) (pc' := 68) rfl ?_
    exact t_Mo_reference_68 F hV h hK78
  · replace h := h.2 c
    refine jW.iconst (v := 1) (dx_Mo_reference 36 (e := (63, .iconst 1, 1)) rfl) (by decide) (pc' := 64) rfl ?_
    refine jW.goto (dx_Mo_reference 37 (e := (64, .goto 4, 3)) rfl) 68 (by decide) ?_
    exact t_Mo_reference_68 F hV h hK78
def w_Mo_reference_54 (X : MX) (x1 x2 x3 : Int32) (m : MS) (Φ : Option Value → MS → Prop) (K78 : Int32 → Int32 → Int32 → Int32 → Int32 → MS → Prop) : Prop := w_Mo_reference_55 X (x1) (x2) (x3) (0) m Φ K78
theorem t_Mo_reference_54 {X : MX} {a0 : Array Value} (F : mF X a0) {d : Nat} {x1 x2 x3 : Int32} {o4 o5 : Option Value} {m : MS} {σ : jS} {Φ : Option Value → MS → Prop} {K78 : Int32 → Int32 → Int32 → Int32 → Int32 → MS → Prop} (hV : MV X m σ) (h : w_Mo_reference_54 X x1 x2 x3 m Φ K78) (hK78 : ∀ (x1 x2 x3 x4 x5 : Int32) (m : MS) (σ : jS), MV X m σ → K78 x1 x2 x3 x4 x5 m → jW X.1 X.2.1 jcl X.2.2.1 X.2.2.2.1 (d + 2) y_Mo_reference 78 [some (.ref (mo X)), some (.int x1), some (.int x2), some (.int x3), some (.int x4), some (.int x5)] [] σ (mQ X Φ σ)) : jW X.1 X.2.1 jcl X.2.2.1 X.2.2.2.1 (d + 2) y_Mo_reference 54 [some (.ref (mo X)), some (.int x1), some (.int x2), some (.int x3), o4, o5] [] σ (mQ X Φ σ) := by
  unfold w_Mo_reference_54 at h
  refine jW.iconst (v := 0) (dx_Mo_reference 31 (e := (54, .iconst 0, 1)) rfl) (by decide) (pc' := 55) rfl ?_
  exact t_Mo_reference_55 F hV h hK78
def w_Mo_reference_50 (X : MX) (x1 x2 x3 : Int32) (m : MS) (Φ : Option Value → MS → Prop) (K78 : Int32 → Int32 → Int32 → Int32 → Int32 → MS → Prop) : Prop := w_Mo_reference_55 X (x1) (x2) (x3) (1) m Φ K78
theorem t_Mo_reference_50 {X : MX} {a0 : Array Value} (F : mF X a0) {d : Nat} {x1 x2 x3 : Int32} {o4 o5 : Option Value} {m : MS} {σ : jS} {Φ : Option Value → MS → Prop} {K78 : Int32 → Int32 → Int32 → Int32 → Int32 → MS → Prop} (hV : MV X m σ) (h : w_Mo_reference_50 X x1 x2 x3 m Φ K78) (hK78 : ∀ (x1 x2 x3 x4 x5 : Int32) (m : MS) (σ : jS), MV X m σ → K78 x1 x2 x3 x4 x5 m → jW X.1 X.2.1 jcl X.2.2.1 X.2.2.2.1 (d + 2) y_Mo_reference 78 [some (.ref (mo X)), some (.int x1), some (.int x2), some (.int x3), some (.int x4), some (.int x5)] [] σ (mQ X Φ σ)) : jW X.1 X.2.1 jcl X.2.2.1 X.2.2.2.1 (d + 2) y_Mo_reference 50 [some (.ref (mo X)), some (.int x1), some (.int x2), some (.int x3), o4, o5] [] σ (mQ X Φ σ) := by
  unfold w_Mo_reference_50 at h
  refine jW.iconst (v := 1) (dx_Mo_reference 29 (e := (50, .iconst 1, 1)) rfl) (by decide) (pc' := 51) rfl ?_
  refine jW.goto (dx_Mo_reference 30 (e := (51, .goto 4, 3)) rfl) 55 (by decide) ?_
  exact t_Mo_reference_55 F hV h hK78
def w_Mo_reference_0 (X : MX) (x1 x2 : Int32) (m : MS) (Φ : Option Value → MS → Prop) (K78 : Int32 → Int32 → Int32 → Int32 → Int32 → MS → Prop) (K270 : Int32 → Int32 → Int32 → MS → Prop) : Prop := ((x2 ≤ x1 + 1 → K270 (x1) (x2) (x1 + 1) m) ∧ (¬ x2 ≤ x1 + 1 → (vp_in (x1 + 1) 48000 ∧ ((m.2 7 (x1 + 1 : Int32).toNatClampNeg = 35 → ((x2 ≤ (x1 + 1) + 1 → w_Mo_reference_54 X (x1) (x2) ((x1 + 1) + 1) m Φ K78) ∧ (¬ x2 ≤ (x1 + 1) + 1 → (vp_in ((x1 + 1) + 1) 48000 ∧ ((m.2 7 ((x1 + 1) + 1 : Int32).toNatClampNeg = 120 → w_Mo_reference_50 X (x1) (x2) ((x1 + 1) + 1) m Φ K78) ∧ (¬ m.2 7 ((x1 + 1) + 1 : Int32).toNatClampNeg = 120 → (vp_in ((x1 + 1) + 1) 48000 ∧ ((m.2 7 ((x1 + 1) + 1 : Int32).toNatClampNeg = 88 → w_Mo_reference_50 X (x1) (x2) ((x1 + 1) + 1) m Φ K78) ∧ (¬ m.2 7 ((x1 + 1) + 1 : Int32).toNatClampNeg = 88 → w_Mo_reference_54 X (x1) (x2) ((x1 + 1) + 1) m Φ K78))))))))) ∧ (¬ m.2 7 (x1 + 1 : Int32).toNatClampNeg = 35 → K270 (x1) (x2) (x1 + 1) m)))))
theorem t_Mo_reference_0 {X : MX} {a0 : Array Value} (F : mF X a0) {d : Nat} {x1 x2 : Int32} {o3 o4 o5 : Option Value} {m : MS} {σ : jS} {Φ : Option Value → MS → Prop} {K78 : Int32 → Int32 → Int32 → Int32 → Int32 → MS → Prop} {K270 : Int32 → Int32 → Int32 → MS → Prop} (hV : MV X m σ) (h : w_Mo_reference_0 X x1 x2 m Φ K78 K270) (hK78 : ∀ (x1 x2 x3 x4 x5 : Int32) (m : MS) (σ : jS), MV X m σ → K78 x1 x2 x3 x4 x5 m → jW X.1 X.2.1 jcl X.2.2.1 X.2.2.2.1 (d + 2) y_Mo_reference 78 [some (.ref (mo X)), some (.int x1), some (.int x2), some (.int x3), some (.int x4), some (.int x5)] [] σ (mQ X Φ σ)) (hK270 : ∀ (x1 x2 x3 : Int32) (o4 o5 : Option Value) (m : MS) (σ : jS), MV X m σ → K270 x1 x2 x3 m → jW X.1 X.2.1 jcl X.2.2.1 X.2.2.2.1 (d + 2) y_Mo_reference 270 [some (.ref (mo X)), some (.int x1), some (.int x2), some (.int x3), o4, o5] [] σ (mQ X Φ σ)) : jW X.1 X.2.1 jcl X.2.2.1 X.2.2.2.1 (d + 2) y_Mo_reference 0 [some (.ref (mo X)), some (.int x1), some (.int x2), o3, o4, o5] [] σ (mQ X Φ σ) := by
  unfold w_Mo_reference_0 at h
  refine jW.iload_n (dx_Mo_reference 0 (e := (0, .iload_n 1, 1)) rfl) rfl rfl (pc' := 1) rfl ?_
  refine jW.iconst (v := 1) (dx_Mo_reference 1 (e := (1, .iconst 1, 1)) rfl) (by decide) (pc' := 2) rfl ?_
  refine jW.iadd (dx_Mo_reference 2 (e := (2, .iadd, 1)) rfl) (pc' := 3) rfl ?_
  refine jW.istore_n (dx_Mo_reference 3 (e := (3, .istore_n 3, 1)) rfl) rfl (by decide) rfl (pc' := 4) rfl ?_
  refine jW.iload_n (dx_Mo_reference 4 (e := (4, .iload_n 3, 1)) rfl) rfl rfl (pc' := 5) rfl ?_
  refine jW.iload_n (dx_Mo_reference 5 (e := (5, .iload_n 2, 1)) rfl) rfl rfl (pc' := 6) rfl ?_
  refine jW.icmp_ge (dx_Mo_reference 6 (e := (6, .if_icmp .ge 264, 3)) rfl) 270 (by decide) (pc' := 9) rfl (fun c => ?_) (fun c => ?_)
  · replace h := h.1 c
    exact hK270 _ _ _ _ _ _ _ hV h
  · replace h := h.2 c
    refine jW.aload_n (dx_Mo_reference 7 (e := (9, .aload_n 0, 1)) rfl) rfl rfl (pc' := 10) rfl ?_
    refine jW.mga F hV f_Mo_reference_10 (by decide) (pc' := 13) rfl ?_
    refine jW.iload_n (dx_Mo_reference 9 (e := (13, .iload_n 3, 1)) rfl) rfl rfl (pc' := 14) rfl ?_
    refine jW.mla F hV (dx_Mo_reference 10 (e := (14, .iaload, 1)) rfl) (by decide) rfl h.1 (pc' := 15) rfl ?_
    replace h := h.2
    refine jW.bipush (v := 35) (dx_Mo_reference 11 (e := (15, .bipush 35, 2)) rfl) (by decide) (pc' := 17) rfl ?_
    refine jW.icmp_ne (dx_Mo_reference 12 (e := (17, .if_icmp .ne 253, 3)) rfl) 270 (by decide) (pc' := 20) rfl (fun c => ?_) (fun c => ?_)
    · replace h := h.2 c
      exact hK270 _ _ _ _ _ _ _ hV h
    · replace h := h.1 c
      refine jW.iinc (v := _ + (1)) (dx_Mo_reference 13 (e := (20, .iinc 3 1, 3)) rfl) rfl rfl (by decide) rfl (pc' := 23) rfl ?_
      refine jW.iload_n (dx_Mo_reference 14 (e := (23, .iload_n 3, 1)) rfl) rfl rfl (pc' := 24) rfl ?_
      refine jW.iload_n (dx_Mo_reference 15 (e := (24, .iload_n 2, 1)) rfl) rfl rfl (pc' := 25) rfl ?_
      refine jW.icmp_ge (dx_Mo_reference 16 (e := (25, .if_icmp .ge 29, 3)) rfl) 54 (by decide) (pc' := 28) rfl (fun c => ?_) (fun c => ?_)
      · replace h := h.1 c
        exact t_Mo_reference_54 F hV h hK78
      · replace h := h.2 c
        refine jW.aload_n (dx_Mo_reference 17 (e := (28, .aload_n 0, 1)) rfl) rfl rfl (pc' := 29) rfl ?_
        refine jW.mga F hV f_Mo_reference_29 (by decide) (pc' := 32) rfl ?_
        refine jW.iload_n (dx_Mo_reference 19 (e := (32, .iload_n 3, 1)) rfl) rfl rfl (pc' := 33) rfl ?_
        refine jW.mla F hV (dx_Mo_reference 20 (e := (33, .iaload, 1)) rfl) (by decide) rfl h.1 (pc' := 34) rfl ?_
        replace h := h.2
        refine jW.bipush (v := 120) (dx_Mo_reference 21 (e := (34, .bipush 120, 2)) rfl) (by decide) (pc' := 36) rfl ?_
        refine jW.icmp_eq (dx_Mo_reference 22 (e := (36, .if_icmp .eq 14, 3)) rfl) 50 (by decide) (pc' := 39) rfl (fun c => ?_) (fun c => ?_)
        · replace h := h.1 c
          exact t_Mo_reference_50 F hV h hK78
        · replace h := h.2 c
          refine jW.aload_n (dx_Mo_reference 23 (e := (39, .aload_n 0, 1)) rfl) rfl rfl (pc' := 40) rfl ?_
          refine jW.mga F hV f_Mo_reference_40 (by decide) (pc' := 43) rfl ?_
          refine jW.iload_n (dx_Mo_reference 25 (e := (43, .iload_n 3, 1)) rfl) rfl rfl (pc' := 44) rfl ?_
          refine jW.mla F hV (dx_Mo_reference 26 (e := (44, .iaload, 1)) rfl) (by decide) rfl h.1 (pc' := 45) rfl ?_
          replace h := h.2
          refine jW.bipush (v := 88) (dx_Mo_reference 27 (e := (45, .bipush 88, 2)) rfl) (by decide) (pc' := 47) rfl ?_
          refine jW.icmp_ne (dx_Mo_reference 28 (e := (47, .if_icmp .ne 7, 3)) rfl) 54 (by decide) (pc' := 50) rfl (fun c => ?_) (fun c => ?_)
          · replace h := h.2 c
            exact t_Mo_reference_54 F hV h hK78
          · replace h := h.1 c
            exact t_Mo_reference_50 F hV h hK78
theorem g_Mo_reference {X : MX} {a0 : Array Value} (F : mF X a0) {x1 x2 : Int32} {m : MS} {Φ : Option Value → MS → Prop} {I78 : Nat → Int32 → Int32 → Int32 → Int32 → Int32 → MS → Prop} {I270 : Nat → Int32 → Int32 → Int32 → MS → Prop} (he : w_Mo_reference_0 X x1 x2 m Φ (fun x1 x2 x3 x4 x5 m => ∃ j, I78 j x1 x2 x3 x4 x5 m) (fun x1 x2 x3 m => ∃ j, I270 j x1 x2 x3 m)) (h78 : ∀ (n : Nat) (x1 x2 x3 x4 x5 : Int32) (m : MS), I78 n x1 x2 x3 x4 x5 m → w_Mo_reference_78 X x1 x2 x3 x4 x5 m Φ (fun x1 x2 x3 x4 x5 m => ∃ j, j < n ∧ I78 j x1 x2 x3 x4 x5 m)) (h270 : ∀ (n : Nat) (x1 x2 x3 : Int32) (m : MS), I270 n x1 x2 x3 m → w_Mo_reference_270 X x1 x2 x3 m Φ (fun x1 x2 x3 m => ∃ j, j < n ∧ I270 j x1 x2 x3 m)) : mE X 2 y_Mo_reference [.ref (mo X), .int x1, .int x2] m Φ := by
  intro d σ hV
  have hL78 : ∀ n, (∀ (x1 x2 x3 x4 x5 : Int32) (m : MS) (σ : jS), MV X m σ → I78 n x1 x2 x3 x4 x5 m → jW X.1 X.2.1 jcl X.2.2.1 X.2.2.2.1 (d + 2) y_Mo_reference 78 [some (.ref (mo X)), some (.int x1), some (.int x2), some (.int x3), some (.int x4), some (.int x5)] [] σ (mQ X Φ σ)) := by
    intro n
    induction n using Nat.strongRecOn with
    | _ n ih =>
      exact fun x1 x2 x3 x4 x5 m σ hV hI => t_Mo_reference_78 F hV (h78 n x1 x2 x3 x4 x5 m hI) (fun x1 x2 x3 x4 x5 m σ hV ⟨j, hj, hI⟩ => (ih j hj) x1 x2 x3 x4 x5 m σ hV hI)
  have hL270 : ∀ n, (∀ (x1 x2 x3 : Int32) (o4 o5 : Option Value) (m : MS) (σ : jS), MV X m σ → I270 n x1 x2 x3 m → jW X.1 X.2.1 jcl X.2.2.1 X.2.2.2.1 (d + 2) y_Mo_reference 270 [some (.ref (mo X)), some (.int x1), some (.int x2), some (.int x3), o4, o5] [] σ (mQ X Φ σ)) := by
    intro n
    induction n using Nat.strongRecOn with
    | _ n ih =>
      exact fun x1 x2 x3 o4 o5 m σ hV hI => t_Mo_reference_270 F hV (h270 n x1 x2 x3 m hI) (fun x1 x2 x3 o4 o5 m σ hV ⟨j, hj, hI⟩ => (ih j hj) x1 x2 x3 o4 o5 m σ hV hI)
  refine jE.of (by decide) (by simp [Value.category]) (Nat.le_of_ble_eq_true rfl) rfl ?_
  exact t_Mo_reference_0 F hV he (fun x1 x2 x3 x4 x5 m σ hV ⟨j, hI⟩ => (hL78 j) x1 x2 x3 x4 x5 m σ hV hI) (fun x1 x2 x3 o4 o5 m σ hV ⟨j, hI⟩ => (hL270 j) x1 x2 x3 o4 o5 m σ hV hI)
def w_Mo_hex_53 (X : MX) (x0 s0 : Int32) (m : MS) (Φ : Option Value → MS → Prop) : Prop := Φ (some (.int (s0))) m
theorem t_Mo_hex_53 {X : MX} {a0 : Array Value} (F : mF X a0) {d : Nat} {x0 s0 : Int32} {m : MS} {σ : jS} {Φ : Option Value → MS → Prop} (hV : MV X m σ) (h : w_Mo_hex_53 X x0 s0 m Φ) : jW X.1 X.2.1 jcl X.2.2.1 X.2.2.2.1 (d + 1) y_Mo_hex 53 [some (.int x0)] [.int s0] σ (mQ X Φ σ) := by
  unfold w_Mo_hex_53 at h
  exact jW.iret (dx_Mo_hex 28 (e := (53, .ireturn, 1)) rfl) rfl ⟨FR.rfl, _, hV, h⟩
def w_Mo_hex_52 (X : MX) (x0 : Int32) (m : MS) (Φ : Option Value → MS → Prop) : Prop := w_Mo_hex_53 X (x0) (-1) m Φ
theorem t_Mo_hex_52 {X : MX} {a0 : Array Value} (F : mF X a0) {d : Nat} {x0 : Int32} {m : MS} {σ : jS} {Φ : Option Value → MS → Prop} (hV : MV X m σ) (h : w_Mo_hex_52 X x0 m Φ) : jW X.1 X.2.1 jcl X.2.2.1 X.2.2.2.1 (d + 1) y_Mo_hex 52 [some (.int x0)] [] σ (mQ X Φ σ) := by
  unfold w_Mo_hex_52 at h
  refine jW.iconst (v := -1) (dx_Mo_hex 27 (e := (52, .iconst (-1), 1)) rfl) (by decide) (pc' := 53) rfl ?_
  exact t_Mo_hex_53 F hV h
def w_Mo_hex_33 (X : MX) (x0 : Int32) (m : MS) (Φ : Option Value → MS → Prop) : Prop := ((x0 < 65 → w_Mo_hex_52 X (x0) m Φ) ∧ (¬ x0 < 65 → ((70 < x0 → w_Mo_hex_52 X (x0) m Φ) ∧ (¬ 70 < x0 → w_Mo_hex_53 X (x0) (x0 - 55) m Φ))))
theorem t_Mo_hex_33 {X : MX} {a0 : Array Value} (F : mF X a0) {d : Nat} {x0 : Int32} {m : MS} {σ : jS} {Φ : Option Value → MS → Prop} (hV : MV X m σ) (h : w_Mo_hex_33 X x0 m Φ) : jW X.1 X.2.1 jcl X.2.2.1 X.2.2.2.1 (d + 1) y_Mo_hex 33 [some (.int x0)] [] σ (mQ X Φ σ) := by
  unfold w_Mo_hex_33 at h
  refine jW.iload_n (dx_Mo_hex 17 (e := (33, .iload_n 0, 1)) rfl) rfl rfl (pc' := 34) rfl ?_
  refine jW.bipush (v := 65) (dx_Mo_hex 18 (e := (34, .bipush 65, 2)) rfl) (by decide) (pc' := 36) rfl ?_
  refine jW.icmp_lt (dx_Mo_hex 19 (e := (36, .if_icmp .lt 16, 3)) rfl) 52 (by decide) (pc' := 39) rfl (fun c => ?_) (fun c => ?_)
  · replace h := h.1 c
    exact t_Mo_hex_52 F hV h
  · replace h := h.2 c
    refine jW.iload_n (dx_Mo_hex 20 (e := (39, .iload_n 0, 1)) rfl) rfl rfl (pc' := 40) rfl ?_
    refine jW.bipush (v := 70) (dx_Mo_hex 21 (e := (40, .bipush 70, 2)) rfl) (by decide) (pc' := 42) rfl ?_
    refine jW.icmp_gt (dx_Mo_hex 22 (e := (42, .if_icmp .gt 10, 3)) rfl) 52 (by decide) (pc' := 45) rfl (fun c => ?_) (fun c => ?_)
    · replace h := h.1 c
      exact t_Mo_hex_52 F hV h
    · replace h := h.2 c
      refine jW.iload_n (dx_Mo_hex 23 (e := (45, .iload_n 0, 1)) rfl) rfl rfl (pc' := 46) rfl ?_
      refine jW.bipush (v := 55) (dx_Mo_hex 24 (e := (46, .bipush 55, 2)) rfl) (by decide) (pc' := 48) rfl ?_
      refine jW.isub (dx_Mo_hex 25 (e := (48, .isub, 1)) rfl) (pc' := 49) rfl ?_
      refine jW.goto (dx_Mo_hex 26 (e := (49, .goto 4, 3)) rfl) 53 (by decide) ?_
      exact t_Mo_hex_53 F hV h
def w_Mo_hex_0 (X : MX) (x0 : Int32) (m : MS) (Φ : Option Value → MS → Prop) : Prop := mE X 0 y_Mo_isDigit [.int (x0)] m (iP fun r1 m1 => ((r1 = 0 → ((x0 < 97 → w_Mo_hex_33 X (x0) m1 Φ) ∧ (¬ x0 < 97 → ((102 < x0 → w_Mo_hex_33 X (x0) m1 Φ) ∧ (¬ 102 < x0 → w_Mo_hex_53 X (x0) (x0 - 87) m1 Φ))))) ∧ (¬ r1 = 0 → w_Mo_hex_53 X (x0) (x0 - 48) m1 Φ)))
theorem t_Mo_hex_0 {X : MX} {a0 : Array Value} (F : mF X a0) {d : Nat} {x0 : Int32} {m : MS} {σ : jS} {Φ : Option Value → MS → Prop} (hV : MV X m σ) (h : w_Mo_hex_0 X x0 m Φ) : jW X.1 X.2.1 jcl X.2.2.1 X.2.2.2.1 (d + 1) y_Mo_hex 0 [some (.int x0)] [] σ (mQ X Φ σ) := by
  unfold w_Mo_hex_0 at h
  refine jW.iload_n (dx_Mo_hex 0 (e := (0, .iload_n 0, 1)) rfl) rfl rfl (pc' := 1) rfl ?_
  refine jW.callS F (h (d + 0) _ hV) (dx_Mo_hex 1 (e := (1, .invokestatic 201, 3)) rfl) can_Mo_isDigit jw_1266 jw_1267 rfl rfl (Nat.le_of_ble_eq_true rfl) (pc' := 4) rfl (fun r σ hr => ?_)
  clear hV
  refine mQ.up hr.1 ?_
  obtain ⟨_, hV, _, rfl, h⟩ := hr.2
  refine jW.if_eq (dx_Mo_hex 2 (e := (4, .ifCond .eq 10, 3)) rfl) 14 (by decide) (pc' := 7) rfl (fun c => ?_) (fun c => ?_)
  · replace h := h.1 c
    refine jW.iload_n (dx_Mo_hex 7 (e := (14, .iload_n 0, 1)) rfl) rfl rfl (pc' := 15) rfl ?_
    refine jW.bipush (v := 97) (dx_Mo_hex 8 (e := (15, .bipush 97, 2)) rfl) (by decide) (pc' := 17) rfl ?_
    refine jW.icmp_lt (dx_Mo_hex 9 (e := (17, .if_icmp .lt 16, 3)) rfl) 33 (by decide) (pc' := 20) rfl (fun c => ?_) (fun c => ?_)
    · replace h := h.1 c
      exact t_Mo_hex_33 F hV h
    · replace h := h.2 c
      refine jW.iload_n (dx_Mo_hex 10 (e := (20, .iload_n 0, 1)) rfl) rfl rfl (pc' := 21) rfl ?_
      refine jW.bipush (v := 102) (dx_Mo_hex 11 (e := (21, .bipush 102, 2)) rfl) (by decide) (pc' := 23) rfl ?_
      refine jW.icmp_gt (dx_Mo_hex 12 (e := (23, .if_icmp .gt 10, 3)) rfl) 33 (by decide) (pc' := 26) rfl (fun c => ?_) (fun c => ?_)
      · replace h := h.1 c
        exact t_Mo_hex_33 F hV h
      · replace h := h.2 c
        refine jW.iload_n (dx_Mo_hex 13 (e := (26, .iload_n 0, 1)) rfl) rfl rfl (pc' := 27) rfl ?_
        refine jW.bipush (v := 87) (dx_Mo_hex 14 (e := (27, .bipush 87, 2)) rfl) (by decide) (pc' := 29) rfl ?_
        refine jW.isub (dx_Mo_hex 15 (e := (29, .isub, 1)) rfl) (pc' := 30) rfl ?_
        refine jW.goto (dx_Mo_hex 16 (e := (30, .goto 23, 3)) rfl) 53 (by decide) ?_
        exact t_Mo_hex_53 F hV h
  · replace h := h.2 c
    refine jW.iload_n (dx_Mo_hex 3 (e := (7, .iload_n 0, 1)) rfl) rfl rfl (pc' := 8) rfl ?_
    refine jW.bipush (v := 48) (dx_Mo_hex 4 (e := (8, .bipush 48, 2)) rfl) (by decide) (pc' := 10) rfl ?_
    refine jW.isub (dx_Mo_hex 5 (e := (10, .isub, 1)) rfl) (pc' := 11) rfl ?_
    refine jW.goto (dx_Mo_hex 6 (e := (11, .goto 42, 3)) rfl) 53 (by decide) ?_
    exact t_Mo_hex_53 F hV h
theorem g_Mo_hex {X : MX} {a0 : Array Value} (F : mF X a0) {x0 : Int32} {m : MS} {Φ : Option Value → MS → Prop} (he : w_Mo_hex_0 X x0 m Φ) : mE X 1 y_Mo_hex [.int x0] m Φ := by
  intro d σ hV
  refine jE.of (by decide) (by simp [Value.category]) (Nat.le_of_ble_eq_true rfl) rfl ?_
  exact t_Mo_hex_0 F hV he
def w_Mo_isDigit_17 (X : MX) (x0 s0 : Int32) (m : MS) (Φ : Option Value → MS → Prop) : Prop := (mZ (s0) ∧ Φ (some (.int (s0))) m)
theorem t_Mo_isDigit_17 {X : MX} {a0 : Array Value} (F : mF X a0) {d : Nat} {x0 s0 : Int32} {m : MS} {σ : jS} {Φ : Option Value → MS → Prop} (hV : MV X m σ) (h : w_Mo_isDigit_17 X x0 s0 m Φ) : jW X.1 X.2.1 jcl X.2.2.1 X.2.2.2.1 (d + 0) y_Mo_isDigit 17 [some (.int x0)] [.int s0] σ (mQ X Φ σ) := by
  unfold w_Mo_isDigit_17 at h
  exact jW.zret (dx_Mo_isDigit 9 (e := (17, .ireturn, 1)) rfl) rfl h.1.n ⟨FR.rfl, _, hV, h.2⟩
def w_Mo_isDigit_16 (X : MX) (x0 : Int32) (m : MS) (Φ : Option Value → MS → Prop) : Prop := w_Mo_isDigit_17 X (x0) (0) m Φ
theorem t_Mo_isDigit_16 {X : MX} {a0 : Array Value} (F : mF X a0) {d : Nat} {x0 : Int32} {m : MS} {σ : jS} {Φ : Option Value → MS → Prop} (hV : MV X m σ) (h : w_Mo_isDigit_16 X x0 m Φ) : jW X.1 X.2.1 jcl X.2.2.1 X.2.2.2.1 (d + 0) y_Mo_isDigit 16 [some (.int x0)] [] σ (mQ X Φ σ) := by
  unfold w_Mo_isDigit_16 at h
  refine jW.iconst (v := 0) (dx_Mo_isDigit 8 (e := (16, .iconst 0, 1)) rfl) (by decide) (pc' := 17) rfl ?_
  exact t_Mo_isDigit_17 F hV h
def w_Mo_isDigit_0 (X : MX) (x0 : Int32) (m : MS) (Φ : Option Value → MS → Prop) : Prop := ((x0 < 48 → w_Mo_isDigit_16 X (x0) m Φ) ∧ (¬ x0 < 48 → ((57 < x0 → w_Mo_isDigit_16 X (x0) m Φ) ∧ (¬ 57 < x0 → w_Mo_isDigit_17 X (x0) (1) m Φ))))
theorem t_Mo_isDigit_0 {X : MX} {a0 : Array Value} (F : mF X a0) {d : Nat} {x0 : Int32} {m : MS} {σ : jS} {Φ : Option Value → MS → Prop} (hV : MV X m σ) (h : w_Mo_isDigit_0 X x0 m Φ) : jW X.1 X.2.1 jcl X.2.2.1 X.2.2.2.1 (d + 0) y_Mo_isDigit 0 [some (.int x0)] [] σ (mQ X Φ σ) := by
  unfold w_Mo_isDigit_0 at h
  refine jW.iload_n (dx_Mo_isDigit 0 (e := (0, .iload_n 0, 1)) rfl) rfl rfl (pc' := 1) rfl ?_
  refine jW.bipush (v := 48) (dx_Mo_isDigit 1 (e := (1, .bipush 48, 2)) rfl) (by decide) (pc' := 3) rfl ?_
  refine jW.icmp_lt (dx_Mo_isDigit 2 (e := (3, .if_icmp .lt 13, 3)) rfl) 16 (by decide) (pc' := 6) rfl (fun c => ?_) (fun c => ?_)
  · replace h := h.1 c
    exact t_Mo_isDigit_16 F hV h
  · replace h := h.2 c
    refine jW.iload_n (dx_Mo_isDigit 3 (e := (6, .iload_n 0, 1)) rfl) rfl rfl (pc' := 7) rfl ?_
    refine jW.bipush (v := 57) (dx_Mo_isDigit 4 (e := (7, .bipush 57, 2)) rfl) (by decide) (pc' := 9) rfl ?_
    refine jW.icmp_gt (dx_Mo_isDigit 5 (e := (9, .if_icmp .gt 7, 3)) rfl) 16 (by decide) (pc' := 12) rfl (fun c => ?_) (fun c => ?_)
    · replace h := h.1 c
      exact t_Mo_isDigit_16 F hV h
    · replace h := h.2 c
      refine jW.iconst (v := 1) (dx_Mo_isDigit 6 (e := (12, .iconst 1, 1)) rfl) (by decide) (pc' := 13) rfl ?_
      refine jW.goto (dx_Mo_isDigit 7 (e := (13, .goto 4, 3)) rfl) 17 (by decide) ?_
      exact t_Mo_isDigit_17 F hV h
theorem g_Mo_isDigit {X : MX} {a0 : Array Value} (F : mF X a0) {x0 : Int32} {m : MS} {Φ : Option Value → MS → Prop} (he : w_Mo_isDigit_0 X x0 m Φ) : mE X 0 y_Mo_isDigit [.int x0] m Φ := by
  intro d σ hV
  refine jE.of (by decide) (by simp [Value.category]) (Nat.le_of_ble_eq_true rfl) rfl ?_
  exact t_Mo_isDigit_0 F hV he
def w_Mo_isLetter_29 (X : MX) (x0 s0 : Int32) (m : MS) (Φ : Option Value → MS → Prop) : Prop := (mZ (s0) ∧ Φ (some (.int (s0))) m)
theorem t_Mo_isLetter_29 {X : MX} {a0 : Array Value} (F : mF X a0) {d : Nat} {x0 s0 : Int32} {m : MS} {σ : jS} {Φ : Option Value → MS → Prop} (hV : MV X m σ) (h : w_Mo_isLetter_29 X x0 s0 m Φ) : jW X.1 X.2.1 jcl X.2.2.1 X.2.2.2.1 (d + 0) y_Mo_isLetter 29 [some (.int x0)] [.int s0] σ (mQ X Φ σ) := by
  unfold w_Mo_isLetter_29 at h
  exact jW.zret (dx_Mo_isLetter 15 (e := (29, .ireturn, 1)) rfl) rfl h.1.n ⟨FR.rfl, _, hV, h.2⟩
def w_Mo_isLetter_28 (X : MX) (x0 : Int32) (m : MS) (Φ : Option Value → MS → Prop) : Prop := w_Mo_isLetter_29 X (x0) (0) m Φ
theorem t_Mo_isLetter_28 {X : MX} {a0 : Array Value} (F : mF X a0) {d : Nat} {x0 : Int32} {m : MS} {σ : jS} {Φ : Option Value → MS → Prop} (hV : MV X m σ) (h : w_Mo_isLetter_28 X x0 m Φ) : jW X.1 X.2.1 jcl X.2.2.1 X.2.2.2.1 (d + 0) y_Mo_isLetter 28 [some (.int x0)] [] σ (mQ X Φ σ) := by
  unfold w_Mo_isLetter_28 at h
  refine jW.iconst (v := 0) (dx_Mo_isLetter 14 (e := (28, .iconst 0, 1)) rfl) (by decide) (pc' := 29) rfl ?_
  exact t_Mo_isLetter_29 F hV h
def w_Mo_isLetter_24 (X : MX) (x0 : Int32) (m : MS) (Φ : Option Value → MS → Prop) : Prop := w_Mo_isLetter_29 X (x0) (1) m Φ
theorem t_Mo_isLetter_24 {X : MX} {a0 : Array Value} (F : mF X a0) {d : Nat} {x0 : Int32} {m : MS} {σ : jS} {Φ : Option Value → MS → Prop} (hV : MV X m σ) (h : w_Mo_isLetter_24 X x0 m Φ) : jW X.1 X.2.1 jcl X.2.2.1 X.2.2.2.1 (d + 0) y_Mo_isLetter 24 [some (.int x0)] [] σ (mQ X Φ σ) := by
  unfold w_Mo_isLetter_24 at h
  refine jW.iconst (v := 1) (dx_Mo_isLetter 12 (e := (24, .iconst 1, 1)) rfl) (by decide) (pc' := 25) rfl ?_
  refine jW.goto (dx_Mo_isLetter 13 (e := (25, .goto 4, 3)) rfl) 29 (by decide) ?_
  exact t_Mo_isLetter_29 F hV h
def w_Mo_isLetter_12 (X : MX) (x0 : Int32) (m : MS) (Φ : Option Value → MS → Prop) : Prop := ((x0 < 97 → w_Mo_isLetter_28 X (x0) m Φ) ∧ (¬ x0 < 97 → ((122 < x0 → w_Mo_isLetter_28 X (x0) m Φ) ∧ (¬ 122 < x0 → w_Mo_isLetter_24 X (x0) m Φ))))
theorem t_Mo_isLetter_12 {X : MX} {a0 : Array Value} (F : mF X a0) {d : Nat} {x0 : Int32} {m : MS} {σ : jS} {Φ : Option Value → MS → Prop} (hV : MV X m σ) (h : w_Mo_isLetter_12 X x0 m Φ) : jW X.1 X.2.1 jcl X.2.2.1 X.2.2.2.1 (d + 0) y_Mo_isLetter 12 [some (.int x0)] [] σ (mQ X Φ σ) := by
  unfold w_Mo_isLetter_12 at h
  refine jW.iload_n (dx_Mo_isLetter 6 (e := (12, .iload_n 0, 1)) rfl) rfl rfl (pc' := 13) rfl ?_
  refine jW.bipush (v := 97) (dx_Mo_isLetter 7 (e := (13, .bipush 97, 2)) rfl) (by decide) (pc' := 15) rfl ?_
  refine jW.icmp_lt (dx_Mo_isLetter 8 (e := (15, .if_icmp .lt 13, 3)) rfl) 28 (by decide) (pc' := 18) rfl (fun c => ?_) (fun c => ?_)
  · replace h := h.1 c
    exact t_Mo_isLetter_28 F hV h
  · replace h := h.2 c
    refine jW.iload_n (dx_Mo_isLetter 9 (e := (18, .iload_n 0, 1)) rfl) rfl rfl (pc' := 19) rfl ?_
    refine jW.bipush (v := 122) (dx_Mo_isLetter 10 (e := (19, .bipush 122, 2)) rfl) (by decide) (pc' := 21) rfl ?_
    refine jW.icmp_gt (dx_Mo_isLetter 11 (e := (21, .if_icmp .gt 7, 3)) rfl) 28 (by decide) (pc' := 24) rfl (fun c => ?_) (fun c => ?_)
    · replace h := h.1 c
      exact t_Mo_isLetter_28 F hV h
    · replace h := h.2 c
      exact t_Mo_isLetter_24 F hV h
def w_Mo_isLetter_0 (X : MX) (x0 : Int32) (m : MS) (Φ : Option Value → MS → Prop) : Prop := ((x0 < 65 → w_Mo_isLetter_12 X (x0) m Φ) ∧ (¬ x0 < 65 → ((x0 ≤ 90 → w_Mo_isLetter_24 X (x0) m Φ) ∧ (¬ x0 ≤ 90 → w_Mo_isLetter_12 X (x0) m Φ))))
theorem t_Mo_isLetter_0 {X : MX} {a0 : Array Value} (F : mF X a0) {d : Nat} {x0 : Int32} {m : MS} {σ : jS} {Φ : Option Value → MS → Prop} (hV : MV X m σ) (h : w_Mo_isLetter_0 X x0 m Φ) : jW X.1 X.2.1 jcl X.2.2.1 X.2.2.2.1 (d + 0) y_Mo_isLetter 0 [some (.int x0)] [] σ (mQ X Φ σ) := by
  unfold w_Mo_isLetter_0 at h
  refine jW.iload_n (dx_Mo_isLetter 0 (e := (0, .iload_n 0, 1)) rfl) rfl rfl (pc' := 1) rfl ?_
  refine jW.bipush (v := 65) (dx_Mo_isLetter 1 (e := (1, .bipush 65, 2)) rfl) (by decide) (pc' := 3) rfl ?_
  refine jW.icmp_lt (dx_Mo_isLetter 2 (e := (3, .if_icmp .lt 9, 3)) rfl) 12 (by decide) (pc' := 6) rfl (fun c => ?_) (fun c => ?_)
  · replace h := h.1 c
    exact t_Mo_isLetter_12 F hV h
  · replace h := h.2 c
    refine jW.iload_n (dx_Mo_isLetter 3 (e := (6, .iload_n 0, 1)) rfl) rfl rfl (pc' := 7) rfl ?_
    refine jW.bipush (v := 90) (dx_Mo_isLetter 4 (e := (7, .bipush 90, 2)) rfl) (by decide) (pc' := 9) rfl ?_
    refine jW.icmp_le (dx_Mo_isLetter 5 (e := (9, .if_icmp .le 15, 3)) rfl) 24 (by decide) (pc' := 12) rfl (fun c => ?_) (fun c => ?_)
    · replace h := h.1 c
      exact t_Mo_isLetter_24 F hV h
    · replace h := h.2 c
      exact t_Mo_isLetter_12 F hV h
theorem g_Mo_isLetter {X : MX} {a0 : Array Value} (F : mF X a0) {x0 : Int32} {m : MS} {Φ : Option Value → MS → Prop} (he : w_Mo_isLetter_0 X x0 m Φ) : mE X 0 y_Mo_isLetter [.int x0] m Φ := by
  intro d σ hV
  refine jE.of (by decide) (by simp [Value.category]) (Nat.le_of_ble_eq_true rfl) rfl ?_
  exact t_Mo_isLetter_0 F hV he
def w_Mo_named_87 (X : MX) (x1 x2 x3 x4 x5 : Int32) (m : MS) (Φ : Option Value → MS → Prop) : Prop := Φ (some (.int (x4))) m
theorem t_Mo_named_87 {X : MX} {a0 : Array Value} (F : mF X a0) {d : Nat} {x1 x2 x3 x4 x5 : Int32} {m : MS} {σ : jS} {Φ : Option Value → MS → Prop} (hV : MV X m σ) (h : w_Mo_named_87 X x1 x2 x3 x4 x5 m Φ) : jW X.1 X.2.1 jcl X.2.2.1 X.2.2.2.1 (d + 0) y_Mo_named 87 [some (.ref (mo X)), some (.int x1), some (.int x2), some (.int x3), some (.int x4), some (.int x5)] [] σ (mQ X Φ σ) := by
  unfold w_Mo_named_87 at h
  refine jW.iload (dx_Mo_named 48 (e := (87, .iload 4, 2)) rfl) rfl (pc' := 89) rfl ?_
  exact jW.iret (dx_Mo_named 49 (e := (89, .ireturn, 1)) rfl) rfl ⟨FR.rfl, _, hV, h⟩
def w_Mo_named_79 (X : MX) (x1 x2 x3 x4 x5 s0 : Int32) (m : MS) (Φ : Option Value → MS → Prop) (K44 : Int32 → Int32 → Int32 → Int32 → Int32 → MS → Prop) : Prop := K44 (x1) (x2) (x3) (s0) (x5 + 1) m
theorem t_Mo_named_79 {X : MX} {a0 : Array Value} (F : mF X a0) {d : Nat} {x1 x2 x3 x4 x5 s0 : Int32} {m : MS} {σ : jS} {Φ : Option Value → MS → Prop} {K44 : Int32 → Int32 → Int32 → Int32 → Int32 → MS → Prop} (hV : MV X m σ) (h : w_Mo_named_79 X x1 x2 x3 x4 x5 s0 m Φ K44) (hK44 : ∀ (x1 x2 x3 x4 x5 : Int32) (m : MS) (σ : jS), MV X m σ → K44 x1 x2 x3 x4 x5 m → jW X.1 X.2.1 jcl X.2.2.1 X.2.2.2.1 (d + 0) y_Mo_named 44 [some (.ref (mo X)), some (.int x1), some (.int x2), some (.int x3), some (.int x4), some (.int x5)] [] σ (mQ X Φ σ)) : jW X.1 X.2.1 jcl X.2.2.1 X.2.2.2.1 (d + 0) y_Mo_named 79 [some (.ref (mo X)), some (.int x1), some (.int x2), some (.int x3), some (.int x4), some (.int x5)] [.int s0] σ (mQ X Φ σ) := by
  unfold w_Mo_named_79 at h
  refine jW.istore (dx_Mo_named 45 (e := (79, .istore 4, 2)) rfl) (by decide) rfl (pc' := 81) rfl ?_
  refine jW.iinc (v := _ + (1)) (dx_Mo_named 46 (e := (81, .iinc 5 1, 3)) rfl) rfl rfl (by decide) rfl (pc' := 84) rfl ?_
  refine jW.goto (dx_Mo_named 47 (e := (84, .goto (-40), 3)) rfl) 44 (by decide) ?_
  exact hK44 _ _ _ _ _ _ _ hV h
def w_Mo_named_44 (X : MX) (x1 x2 x3 x4 x5 : Int32) (m : MS) (Φ : Option Value → MS → Prop) (K44 : Int32 → Int32 → Int32 → Int32 → Int32 → MS → Prop) : Prop := ((6 ≤ x5 → w_Mo_named_87 X (x1) (x2) (x3) (x4) (x5) m Φ) ∧ (¬ 6 ≤ x5 → ((5 ≤ x2 → w_Mo_named_87 X (x1) (x2) (x3) (x4) (x5) m Φ) ∧ (¬ 5 ≤ x2 → (vp_in (x5) 6 ∧ ((m.2 52 (x5 : Int32).toNatClampNeg = x3 → (vp_in (x5) 6 ∧ w_Mo_named_79 X (x1) (x2) (x3) (x4) (x5) (m.2 53 (x5 : Int32).toNatClampNeg) m Φ K44)) ∧ (¬ m.2 52 (x5 : Int32).toNatClampNeg = x3 → w_Mo_named_79 X (x1) (x2) (x3) (x4) (x5) (x4) m Φ K44)))))))
theorem t_Mo_named_44 {X : MX} {a0 : Array Value} (F : mF X a0) {d : Nat} {x1 x2 x3 x4 x5 : Int32} {m : MS} {σ : jS} {Φ : Option Value → MS → Prop} {K44 : Int32 → Int32 → Int32 → Int32 → Int32 → MS → Prop} (hV : MV X m σ) (h : w_Mo_named_44 X x1 x2 x3 x4 x5 m Φ K44) (hK44 : ∀ (x1 x2 x3 x4 x5 : Int32) (m : MS) (σ : jS), MV X m σ → K44 x1 x2 x3 x4 x5 m → jW X.1 X.2.1 jcl X.2.2.1 X.2.2.2.1 (d + 0) y_Mo_named 44 [some (.ref (mo X)), some (.int x1), some (.int x2), some (.int x3), some (.int x4), some (.int x5)] [] σ (mQ X Φ σ)) : jW X.1 X.2.1 jcl X.2.2.1 X.2.2.2.1 (d + 0) y_Mo_named 44 [some (.ref (mo X)), some (.int x1), some (.int x2), some (.int x3), some (.int x4), some (.int x5)] [] σ (mQ X Φ σ) := by
  unfold w_Mo_named_44 at h
  refine jW.iload (dx_Mo_named 27 (e := (44, .iload 5, 2)) rfl) rfl (pc' := 46) rfl ?_
  refine jW.bipush (v := 6) (dx_Mo_named 28 (e := (46, .bipush 6, 2)) rfl) (by decide) (pc' := 48) rfl ?_
  refine jW.icmp_ge (dx_Mo_named 29 (e := (48, .if_icmp .ge 39, 3)) rfl) 87 (by decide) (pc' := 51) rfl (fun c => ?_) (fun c => ?_)
  · replace h := h.1 c
    exact t_Mo_named_87 F hV h
  · replace h := h.2 c
    refine jW.iload_n (dx_Mo_named 30 (e := (51, .iload_n 2, 1)) rfl) rfl rfl (pc' := 52) rfl ?_
    refine jW.iconst (v := 5) (dx_Mo_named 31 (e := (52, .iconst 5, 1)) rfl) (by decide) (pc' := 53) rfl ?_
    refine jW.icmp_ge (dx_Mo_named 32 (e := (53, .if_icmp .ge 34, 3)) rfl) 87 (by decide) (pc' := 56) rfl (fun c => ?_) (fun c => ?_)
    · replace h := h.1 c
      exact t_Mo_named_87 F hV h
    · replace h := h.2 c
      refine jW.aload_n (dx_Mo_named 33 (e := (56, .aload_n 0, 1)) rfl) rfl rfl (pc' := 57) rfl ?_
      refine jW.mga F hV f_Mo_named_57 (by decide) (pc' := 60) rfl ?_
      refine jW.iload (dx_Mo_named 35 (e := (60, .iload 5, 2)) rfl) rfl (pc' := 62) rfl ?_
      refine jW.mla F hV (dx_Mo_named 36 (e := (62, .iaload, 1)) rfl) (by decide) rfl h.1 (pc' := 63) rfl ?_
      replace h := h.2
      refine jW.iload_n (dx_Mo_named 37 (e := (63, .iload_n 3, 1)) rfl) rfl rfl (pc' := 64) rfl ?_
      refine jW.icmp_ne (dx_Mo_named 38 (e := (64, .if_icmp .ne 13, 3)) rfl) 77 (by decide) (pc' := 67) rfl (fun c => ?_) (fun c => ?_)
      · replace h := h.2 c
        refine jW.iload (dx_Mo_named 44 (e := (77, .iload 4, 2)) rfl) rfl (pc' := 79) rfl ?_
        exact t_Mo_named_79 F hV h hK44
      · replace h := h.1 c
        refine jW.aload_n (dx_Mo_named 39 (e := (67, .aload_n 0, 1)) rfl) rfl rfl (pc' := 68) rfl ?_
        refine jW.mga F hV f_Mo_named_68 (by decide) (pc' := 71) rfl ?_
        refine jW.iload (dx_Mo_named 41 (e := (71, .iload 5, 2)) rfl) rfl (pc' := 73) rfl ?_
        refine jW.mla F hV (dx_Mo_named 42 (e := (73, .iaload, 1)) rfl) (by decide) rfl h.1 (pc' := 74) rfl ?_
        replace h := h.2
        refine jW.goto (dx_Mo_named 43 (e := (74, .goto 5, 3)) rfl) 79 (by decide) ?_
        exact t_Mo_named_79 F hV h hK44
def w_Mo_named_38 (X : MX) (x1 x2 x3 x4 : Int32) (m : MS) (Φ : Option Value → MS → Prop) (K44 : Int32 → Int32 → Int32 → Int32 → Int32 → MS → Prop) : Prop := K44 (x1) (x2) (x3) (0) (0) m
theorem t_Mo_named_38 {X : MX} {a0 : Array Value} (F : mF X a0) {d : Nat} {x1 x2 x3 x4 : Int32} {o5 : Option Value} {m : MS} {σ : jS} {Φ : Option Value → MS → Prop} {K44 : Int32 → Int32 → Int32 → Int32 → Int32 → MS → Prop} (hV : MV X m σ) (h : w_Mo_named_38 X x1 x2 x3 x4 m Φ K44) (hK44 : ∀ (x1 x2 x3 x4 x5 : Int32) (m : MS) (σ : jS), MV X m σ → K44 x1 x2 x3 x4 x5 m → jW X.1 X.2.1 jcl X.2.2.1 X.2.2.2.1 (d + 0) y_Mo_named 44 [some (.ref (mo X)), some (.int x1), some (.int x2), some (.int x3), some (.int x4), some (.int x5)] [] σ (mQ X Φ σ)) : jW X.1 X.2.1 jcl X.2.2.1 X.2.2.2.1 (d + 0) y_Mo_named 38 [some (.ref (mo X)), some (.int x1), some (.int x2), some (.int x3), some (.int x4), o5] [] σ (mQ X Φ σ) := by
  unfold w_Mo_named_38 at h
  refine jW.iconst (v := 0) (dx_Mo_named 23 (e := (38, .iconst 0, 1)) rfl) (by decide) (pc' := 39) rfl ?_
  refine jW.istore (dx_Mo_named 24 (e := (39, .istore 4, 2)) rfl) (by decide) rfl (pc' := 41) rfl ?_
  refine jW.iconst (v := 0) (dx_Mo_named 25 (e := (41, .iconst 0, 1)) rfl) (by decide) (pc' := 42) rfl ?_
  refine jW.istore (dx_Mo_named 26 (e := (42, .istore 5, 2)) rfl) (by decide) rfl (pc' := 44) rfl ?_
  exact hK44 _ _ _ _ _ _ _ hV h
def w_Mo_named_5 (X : MX) (x1 x2 x3 x4 : Int32) (m : MS) (Φ : Option Value → MS → Prop) (K5 : Int32 → Int32 → Int32 → Int32 → MS → Prop) (K44 : Int32 → Int32 → Int32 → Int32 → Int32 → MS → Prop) : Prop := ((x2 ≤ x4 → w_Mo_named_38 X (x1) (x2) (x3) (x4) m Φ K44) ∧ (¬ x2 ≤ x4 → ((4 ≤ x4 → w_Mo_named_38 X (x1) (x2) (x3) (x4) m Φ K44) ∧ (¬ 4 ≤ x4 → (vp_in (x1 + x4) 48000 ∧ K5 (x1) (x2) ((x3 <<< (8 &&& 31)) ||| (m.2 7 (x1 + x4 : Int32).toNatClampNeg)) (x4 + 1) m)))))
theorem t_Mo_named_5 {X : MX} {a0 : Array Value} (F : mF X a0) {d : Nat} {x1 x2 x3 x4 : Int32} {o5 : Option Value} {m : MS} {σ : jS} {Φ : Option Value → MS → Prop} {K5 : Int32 → Int32 → Int32 → Int32 → MS → Prop} {K44 : Int32 → Int32 → Int32 → Int32 → Int32 → MS → Prop} (hV : MV X m σ) (h : w_Mo_named_5 X x1 x2 x3 x4 m Φ K5 K44) (hK5 : ∀ (x1 x2 x3 x4 : Int32) (o5 : Option Value) (m : MS) (σ : jS), MV X m σ → K5 x1 x2 x3 x4 m → jW X.1 X.2.1 jcl X.2.2.1 X.2.2.2.1 (d + 0) y_Mo_named 5 [some (.ref (mo X)), some (.int x1), some (.int x2), some (.int x3), some (.int x4), o5] [] σ (mQ X Φ σ)) (hK44 : ∀ (x1 x2 x3 x4 x5 : Int32) (m : MS) (σ : jS), MV X m σ → K44 x1 x2 x3 x4 x5 m → jW X.1 X.2.1 jcl X.2.2.1 X.2.2.2.1 (d + 0) y_Mo_named 44 [some (.ref (mo X)), some (.int x1), some (.int x2), some (.int x3), some (.int x4), some (.int x5)] [] σ (mQ X Φ σ)) : jW X.1 X.2.1 jcl X.2.2.1 X.2.2.2.1 (d + 0) y_Mo_named 5 [some (.ref (mo X)), some (.int x1), some (.int x2), some (.int x3), some (.int x4), o5] [] σ (mQ X Φ σ) := by
  unfold w_Mo_named_5 at h
  refine jW.iload (dx_Mo_named 4 (e := (5, .iload 4, 2)) rfl) rfl (pc' := 7) rfl ?_
  refine jW.iload_n (dx_Mo_named 5 (e := (7, .iload_n 2, 1)) rfl) rfl rfl (pc' := 8) rfl ?_
  refine jW.icmp_ge (dx_Mo_named 6 (e := (8, .if_icmp .ge 30, 3)) rfl) 38 (by decide) (pc' := 11) rfl (fun c => ?_) (fun c => ?_)
  · replace h := h.1 c
    exact t_Mo_named_38 F hV h hK44
  · replace h := h.2 c
    refine jW.iload (dx_Mo_named 7 (e := (11, .iload 4, 2)) rfl) rfl (pc' := 13) rfl ?_
    refine jW.iconst (v := 4) (dx_Mo_named 8 (e := (13, .iconst 4, 1)) rfl) (by decide) (pc' := 14) rfl ?_
    refine jW.icmp_ge (dx_Mo_named 9 (e := (14, .if_icmp .ge 24, 3)) rfl) 38 (by decide) (pc' := 17) rfl (fun c => ?_) (fun c => ?_)
    · replace h := h.1 c
      exact t_Mo_named_38 F hV h hK44
    · replace h := h.2 c
      refine jW.iload_n (dx_Mo_named 10 (e := (17, .iload_n 3, 1)) rfl) rfl rfl (pc' := 18) rfl ?_
      refine jW.bipush (v := 8) (dx_Mo_named 11 (e := (18, .bipush 8, 2)) rfl) (by decide) (pc' := 20) rfl ?_
      refine jW.ishl (dx_Mo_named 12 (e := (20, .ishl, 1)) rfl) (pc' := 21) rfl ?_
      refine jW.aload_n (dx_Mo_named 13 (e := (21, .aload_n 0, 1)) rfl) rfl rfl (pc' := 22) rfl ?_
      refine jW.mga F hV f_Mo_named_22 (by decide) (pc' := 25) rfl ?_
      refine jW.iload_n (dx_Mo_named 15 (e := (25, .iload_n 1, 1)) rfl) rfl rfl (pc' := 26) rfl ?_
      refine jW.iload (dx_Mo_named 16 (e := (26, .iload 4, 2)) rfl) rfl (pc' := 28) rfl ?_
      refine jW.iadd (dx_Mo_named 17 (e := (28, .iadd, 1)) rfl) (pc' := 29) rfl ?_
      refine jW.mla F hV (dx_Mo_named 18 (e := (29, .iaload, 1)) rfl) (by decide) rfl h.1 (pc' := 30) rfl ?_
      replace h := h.2
      refine jW.ior (dx_Mo_named 19 (e := (30, .ior, 1)) rfl) (pc' := 31) rfl ?_
      refine jW.istore_n (dx_Mo_named 20 (e := (31, .istore_n 3, 1)) rfl) rfl (by decide) rfl (pc' := 32) rfl ?_
      refine jW.iinc (v := _ + (1)) (dx_Mo_named 21 (e := (32, .iinc 4 1, 3)) rfl) rfl rfl (by decide) rfl (pc' := 35) rfl ?_
      refine jW.goto (dx_Mo_named 22 (e := (35, .goto (-30), 3)) rfl) 5 (by decide) ?_
      exact hK5 _ _ _ _ _ _ _ hV h
def w_Mo_named_0 (X : MX) (x1 x2 : Int32) (m : MS) (Φ : Option Value → MS → Prop) (K5 : Int32 → Int32 → Int32 → Int32 → MS → Prop) (K44 : Int32 → Int32 → Int32 → Int32 → Int32 → MS → Prop) : Prop := K5 (x1) (x2) (0) (0) m
theorem t_Mo_named_0 {X : MX} {a0 : Array Value} (F : mF X a0) {d : Nat} {x1 x2 : Int32} {o3 o4 o5 : Option Value} {m : MS} {σ : jS} {Φ : Option Value → MS → Prop} {K5 : Int32 → Int32 → Int32 → Int32 → MS → Prop} {K44 : Int32 → Int32 → Int32 → Int32 → Int32 → MS → Prop} (hV : MV X m σ) (h : w_Mo_named_0 X x1 x2 m Φ K5 K44) (hK5 : ∀ (x1 x2 x3 x4 : Int32) (o5 : Option Value) (m : MS) (σ : jS), MV X m σ → K5 x1 x2 x3 x4 m → jW X.1 X.2.1 jcl X.2.2.1 X.2.2.2.1 (d + 0) y_Mo_named 5 [some (.ref (mo X)), some (.int x1), some (.int x2), some (.int x3), some (.int x4), o5] [] σ (mQ X Φ σ)) (hK44 : ∀ (x1 x2 x3 x4 x5 : Int32) (m : MS) (σ : jS), MV X m σ → K44 x1 x2 x3 x4 x5 m → jW X.1 X.2.1 jcl X.2.2.1 X.2.2.2.1 (d + 0) y_Mo_named 44 [some (.ref (mo X)), some (.int x1), some (.int x2), some (.int x3), some (.int x4), some (.int x5)] [] σ (mQ X Φ σ)) : jW X.1 X.2.1 jcl X.2.2.1 X.2.2.2.1 (d + 0) y_Mo_named 0 [some (.ref (mo X)), some (.int x1), some (.int x2), o3, o4, o5] [] σ (mQ X Φ σ) := by
  unfold w_Mo_named_0 at h
  refine jW.iconst (v := 0) (dx_Mo_named 0 (e := (0, .iconst 0, 1)) rfl) (by decide) (pc' := 1) rfl ?_
  refine jW.istore_n (dx_Mo_named 1 (e := (1, .istore_n 3, 1)) rfl) rfl (by decide) rfl (pc' := 2) rfl ?_
  refine jW.iconst (v := 0) (dx_Mo_named 2 (e := (2, .iconst 0, 1)) rfl) (by decide) (pc' := 3) rfl ?_
  refine jW.istore (dx_Mo_named 3 (e := (3, .istore 4, 2)) rfl) (by decide) rfl (pc' := 5) rfl ?_
  exact hK5 _ _ _ _ _ _ _ hV h
theorem g_Mo_named {X : MX} {a0 : Array Value} (F : mF X a0) {x1 x2 : Int32} {m : MS} {Φ : Option Value → MS → Prop} {I5 : Nat → Int32 → Int32 → Int32 → Int32 → MS → Prop} {I44 : Nat → Int32 → Int32 → Int32 → Int32 → Int32 → MS → Prop} (he : w_Mo_named_0 X x1 x2 m Φ (fun x1 x2 x3 x4 m => ∃ j, I5 j x1 x2 x3 x4 m) (fun x1 x2 x3 x4 x5 m => ∃ j, I44 j x1 x2 x3 x4 x5 m)) (h44 : ∀ (n : Nat) (x1 x2 x3 x4 x5 : Int32) (m : MS), I44 n x1 x2 x3 x4 x5 m → w_Mo_named_44 X x1 x2 x3 x4 x5 m Φ (fun x1 x2 x3 x4 x5 m => ∃ j, j < n ∧ I44 j x1 x2 x3 x4 x5 m)) (h5 : ∀ (n : Nat) (x1 x2 x3 x4 : Int32) (m : MS), I5 n x1 x2 x3 x4 m → w_Mo_named_5 X x1 x2 x3 x4 m Φ (fun x1 x2 x3 x4 m => ∃ j, j < n ∧ I5 j x1 x2 x3 x4 m) (fun x1 x2 x3 x4 x5 m => ∃ j, I44 j x1 x2 x3 x4 x5 m)) : mE X 0 y_Mo_named [.ref (mo X), .int x1, .int x2] m Φ := by
  intro d σ hV
  have hL44 : ∀ n, (∀ (x1 x2 x3 x4 x5 : Int32) (m : MS) (σ : jS), MV X m σ → I44 n x1 x2 x3 x4 x5 m → jW X.1 X.2.1 jcl X.2.2.1 X.2.2.2.1 (d + 0) y_Mo_named 44 [some (.ref (mo X)), some (.int x1), some (.int x2), some (.int x3), some (.int x4), some (.int x5)] [] σ (mQ X Φ σ)) := by
    intro n
    induction n using Nat.strongRecOn with
    | _ n ih =>
      exact fun x1 x2 x3 x4 x5 m σ hV hI => t_Mo_named_44 F hV (h44 n x1 x2 x3 x4 x5 m hI) (fun x1 x2 x3 x4 x5 m σ hV ⟨j, hj, hI⟩ => (ih j hj) x1 x2 x3 x4 x5 m σ hV hI)
  have hL5 : ∀ n, (∀ (x1 x2 x3 x4 : Int32) (o5 : Option Value) (m : MS) (σ : jS), MV X m σ → I5 n x1 x2 x3 x4 m → jW X.1 X.2.1 jcl X.2.2.1 X.2.2.2.1 (d + 0) y_Mo_named 5 [some (.ref (mo X)), some (.int x1), some (.int x2), some (.int x3), some (.int x4), o5] [] σ (mQ X Φ σ)) := by
    intro n
    induction n using Nat.strongRecOn with
    | _ n ih =>
      exact fun x1 x2 x3 x4 o5 m σ hV hI => t_Mo_named_5 F hV (h5 n x1 x2 x3 x4 m hI) (fun x1 x2 x3 x4 o5 m σ hV ⟨j, hj, hI⟩ => (ih j hj) x1 x2 x3 x4 o5 m σ hV hI) (fun x1 x2 x3 x4 x5 m σ hV ⟨j, hI⟩ => (hL44 j) x1 x2 x3 x4 x5 m σ hV hI)
  refine jE.of (by decide) (by simp [Value.category]) (Nat.le_of_ble_eq_true rfl) rfl ?_
  exact t_Mo_named_0 F hV he (fun x1 x2 x3 x4 o5 m σ hV ⟨j, hI⟩ => (hL5 j) x1 x2 x3 x4 o5 m σ hV hI) (fun x1 x2 x3 x4 x5 m σ hV ⟨j, hI⟩ => (hL44 j) x1 x2 x3 x4 x5 m σ hV hI)
def w_Mo_earlier_55 (X : MX) (x1 x2 x3 s0 : Int32) (m : MS) (Φ : Option Value → MS → Prop) (K6 : Int32 → Int32 → Int32 → MS → Prop) : Prop := K6 (x1) (s0) (x3 + (-1)) m
theorem t_Mo_earlier_55 {X : MX} {a0 : Array Value} (F : mF X a0) {d : Nat} {x1 x2 x3 s0 : Int32} {m : MS} {σ : jS} {Φ : Option Value → MS → Prop} {K6 : Int32 → Int32 → Int32 → MS → Prop} (hV : MV X m σ) (h : w_Mo_earlier_55 X x1 x2 x3 s0 m Φ K6) (hK6 : ∀ (x1 x2 x3 : Int32) (m : MS) (σ : jS), MV X m σ → K6 x1 x2 x3 m → jW X.1 X.2.1 jcl X.2.2.1 X.2.2.2.1 (d + 1) y_Mo_earlier 6 [some (.ref (mo X)), some (.int x1), some (.int x2), some (.int x3)] [] σ (mQ X Φ σ)) : jW X.1 X.2.1 jcl X.2.2.1 X.2.2.2.1 (d + 1) y_Mo_earlier 55 [some (.ref (mo X)), some (.int x1), some (.int x2), some (.int x3)] [.int s0] σ (mQ X Φ σ) := by
  unfold w_Mo_earlier_55 at h
  refine jW.istore_n (dx_Mo_earlier 35 (e := (55, .istore_n 2, 1)) rfl) rfl (by decide) rfl (pc' := 56) rfl ?_
  refine jW.iinc (v := _ + (-1)) (dx_Mo_earlier 36 (e := (56, .iinc 3 (-1), 3)) rfl) rfl rfl (by decide) rfl (pc' := 59) rfl ?_
  refine jW.goto (dx_Mo_earlier 37 (e := (59, .goto (-53), 3)) rfl) 6 (by decide) ?_
  exact hK6 _ _ _ _ _ hV h
def w_Mo_earlier_54 (X : MX) (x1 x2 x3 : Int32) (m : MS) (Φ : Option Value → MS → Prop) (K6 : Int32 → Int32 → Int32 → MS → Prop) : Prop := w_Mo_earlier_55 X (x1) (x2) (x3) (x2) m Φ K6
theorem t_Mo_earlier_54 {X : MX} {a0 : Array Value} (F : mF X a0) {d : Nat} {x1 x2 x3 : Int32} {m : MS} {σ : jS} {Φ : Option Value → MS → Prop} {K6 : Int32 → Int32 → Int32 → MS → Prop} (hV : MV X m σ) (h : w_Mo_earlier_54 X x1 x2 x3 m Φ K6) (hK6 : ∀ (x1 x2 x3 : Int32) (m : MS) (σ : jS), MV X m σ → K6 x1 x2 x3 m → jW X.1 X.2.1 jcl X.2.2.1 X.2.2.2.1 (d + 1) y_Mo_earlier 6 [some (.ref (mo X)), some (.int x1), some (.int x2), some (.int x3)] [] σ (mQ X Φ σ)) : jW X.1 X.2.1 jcl X.2.2.1 X.2.2.2.1 (d + 1) y_Mo_earlier 54 [some (.ref (mo X)), some (.int x1), some (.int x2), some (.int x3)] [] σ (mQ X Φ σ) := by
  unfold w_Mo_earlier_54 at h
  refine jW.iload_n (dx_Mo_earlier 34 (e := (54, .iload_n 2, 1)) rfl) rfl rfl (pc' := 55) rfl ?_
  exact t_Mo_earlier_55 F hV h hK6
def w_Mo_earlier_6 (X : MX) (x1 x2 x3 : Int32) (m : MS) (Φ : Option Value → MS → Prop) (K6 : Int32 → Int32 → Int32 → MS → Prop) : Prop := ((x3 < 0 → Φ (some (.int (x2))) m) ∧ (¬ x3 < 0 → (vp_in (x3) 700 ∧ (vp_in (x1) 700 ∧ ((m.2 42 (x3 : Int32).toNatClampNeg = m.2 42 (x1 : Int32).toNatClampNeg → (vp_in (x3) 700 ∧ (vp_in (x1) 700 ∧ (vp_in (x1) 700 ∧ mE X 0 y_Mo_areAlike [.ref (mo X), .int (m.2 41 (x3 : Int32).toNatClampNeg), .int (m.2 41 (x1 : Int32).toNatClampNeg), .int (m.2 42 (x1 : Int32).toNatClampNeg)] m (iP fun r1 m1 => ((r1 = 0 → w_Mo_earlier_54 X (x1) (x2) (x3) m1 Φ K6) ∧ (¬ r1 = 0 → w_Mo_earlier_55 X (x1) (x2) (x3) (x3) m1 Φ K6))))))) ∧ (¬ m.2 42 (x3 : Int32).toNatClampNeg = m.2 42 (x1 : Int32).toNatClampNeg → w_Mo_earlier_54 X (x1) (x2) (x3) m Φ K6))))))
theorem t_Mo_earlier_6 {X : MX} {a0 : Array Value} (F : mF X a0) {d : Nat} {x1 x2 x3 : Int32} {m : MS} {σ : jS} {Φ : Option Value → MS → Prop} {K6 : Int32 → Int32 → Int32 → MS → Prop} (hV : MV X m σ) (h : w_Mo_earlier_6 X x1 x2 x3 m Φ K6) (hK6 : ∀ (x1 x2 x3 : Int32) (m : MS) (σ : jS), MV X m σ → K6 x1 x2 x3 m → jW X.1 X.2.1 jcl X.2.2.1 X.2.2.2.1 (d + 1) y_Mo_earlier 6 [some (.ref (mo X)), some (.int x1), some (.int x2), some (.int x3)] [] σ (mQ X Φ σ)) : jW X.1 X.2.1 jcl X.2.2.1 X.2.2.2.1 (d + 1) y_Mo_earlier 6 [some (.ref (mo X)), some (.int x1), some (.int x2), some (.int x3)] [] σ (mQ X Φ σ) := by
  unfold w_Mo_earlier_6 at h
  refine jW.iload_n (dx_Mo_earlier 6 (e := (6, .iload_n 3, 1)) rfl) rfl rfl (pc' := 7) rfl ?_
  refine jW.if_lt (dx_Mo_earlier 7 (e := (7, .ifCond .lt 55, 3)) rfl) 62 (by decide) (pc' := 10) rfl (fun c => ?_) (fun c => ?_)
  · replace h := h.1 c
    refine jW.iload_n (dx_Mo_earlier 38 (e := (62, .iload_n 2, 1)) rfl) rfl rfl (pc' := 63) rfl ?_
    exact jW.iret (dx_Mo_earlier 39 (e := (63, .ireturn, 1)) rfl) rfl ⟨FR.rfl, _, hV, h⟩
  · replace h := h.2 c
    refine jW.aload_n (dx_Mo_earlier 8 (e := (10, .aload_n 0, 1)) rfl) rfl rfl (pc' := 11) rfl ?_
    refine jW.mga F hV f_Mo_earlier_11 (by decide) (pc' := 14) rfl ?_
    refine jW.iload_n (dx_Mo_earlier 10 (e := (14, .iload_n 3, 1)) rfl) rfl rfl (pc' := 15) rfl ?_
    refine jW.mla F hV (dx_Mo_earlier 11 (e := (15, .iaload, 1)) rfl) (by decide) rfl h.1 (pc' := 16) rfl ?_
    replace h := h.2
    refine jW.aload_n (dx_Mo_earlier 12 (e := (16, .aload_n 0, 1)) rfl) rfl rfl (pc' := 17) rfl ?_
    refine jW.mga F hV f_Mo_earlier_17 (by decide) (pc' := 20) rfl ?_
    refine jW.iload_n (dx_Mo_earlier 14 (e := (20, .iload_n 1, 1)) rfl) rfl rfl (pc' := 21) rfl ?_
    refine jW.mla F hV (dx_Mo_earlier 15 (e := (21, .iaload, 1)) rfl) (by decide) rfl h.1 (pc' := 22) rfl ?_
    replace h := h.2
    refine jW.icmp_ne (dx_Mo_earlier 16 (e := (22, .if_icmp .ne 32, 3)) rfl) 54 (by decide) (pc' := 25) rfl (fun c => ?_) (fun c => ?_)
    · replace h := h.2 c
      exact t_Mo_earlier_54 F hV h hK6
    · replace h := h.1 c
      refine jW.aload_n (dx_Mo_earlier 17 (e := (25, .aload_n 0, 1)) rfl) rfl rfl (pc' := 26) rfl ?_
      refine jW.aload_n (dx_Mo_earlier 18 (e := (26, .aload_n 0, 1)) rfl) rfl rfl (pc' := 27) rfl ?_
      refine jW.mga F hV f_Mo_earlier_27 (by decide) (pc' := 30) rfl ?_
      refine jW.iload_n (dx_Mo_earlier 20 (e := (30, .iload_n 3, 1)) rfl) rfl rfl (pc' := 31) rfl ?_
      refine jW.mla F hV (dx_Mo_earlier 21 (e := (31, .iaload, 1)) rfl) (by decide) rfl h.1 (pc' := 32) rfl ?_
      replace h := h.2
      refine jW.aload_n (dx_Mo_earlier 22 (e := (32, .aload_n 0, 1)) rfl) rfl rfl (pc' := 33) rfl ?_
      refine jW.mga F hV f_Mo_earlier_33 (by decide) (pc' := 36) rfl ?_
      refine jW.iload_n (dx_Mo_earlier 24 (e := (36, .iload_n 1, 1)) rfl) rfl rfl (pc' := 37) rfl ?_
      refine jW.mla F hV (dx_Mo_earlier 25 (e := (37, .iaload, 1)) rfl) (by decide) rfl h.1 (pc' := 38) rfl ?_
      replace h := h.2
      refine jW.aload_n (dx_Mo_earlier 26 (e := (38, .aload_n 0, 1)) rfl) rfl rfl (pc' := 39) rfl ?_
      refine jW.mga F hV f_Mo_earlier_39 (by decide) (pc' := 42) rfl ?_
      refine jW.iload_n (dx_Mo_earlier 28 (e := (42, .iload_n 1, 1)) rfl) rfl rfl (pc' := 43) rfl ?_
      refine jW.mla F hV (dx_Mo_earlier 29 (e := (43, .iaload, 1)) rfl) (by decide) rfl h.1 (pc' := 44) rfl ?_
      replace h := h.2
      refine jW.callVe F (h (d + 0) _ hV) (dx_Mo_earlier 30 (e := (44, .invokevirtual 334, 3)) rfl) can_Mo_areAlike jw_1284 jw_1286 hV.cl rfl sel_Mo_areAlike rfl rfl (Nat.le_of_ble_eq_true rfl) (pc' := 47) rfl (fun r σ hr => ?_)
      clear hV
      refine mQ.up hr.1 ?_
      obtain ⟨_, hV, _, rfl, h⟩ := hr.2
      refine jW.if_eq (dx_Mo_earlier 31 (e := (47, .ifCond .eq 7, 3)) rfl) 54 (by decide) (pc' := 50) rfl (fun c => ?_) (fun c => ?_)
      · replace h := h.1 c
        exact t_Mo_earlier_54 F hV h hK6
      · replace h := h.2 c
        refine jW.iload_n (dx_Mo_earlier 32 (e := (50, .iload_n 3, 1)) rfl) rfl rfl (pc' := 51) rfl ?_
        refine jW.goto (dx_Mo_earlier 33 (e := (51, .goto 4, 3)) rfl) 55 (by decide) ?_
        exact t_Mo_earlier_55 F hV h hK6
def w_Mo_earlier_0 (X : MX) (x1 : Int32) (m : MS) (Φ : Option Value → MS → Prop) (K6 : Int32 → Int32 → Int32 → MS → Prop) : Prop := K6 (x1) (-1) (x1 - 1) m
theorem t_Mo_earlier_0 {X : MX} {a0 : Array Value} (F : mF X a0) {d : Nat} {x1 : Int32} {o2 o3 : Option Value} {m : MS} {σ : jS} {Φ : Option Value → MS → Prop} {K6 : Int32 → Int32 → Int32 → MS → Prop} (hV : MV X m σ) (h : w_Mo_earlier_0 X x1 m Φ K6) (hK6 : ∀ (x1 x2 x3 : Int32) (m : MS) (σ : jS), MV X m σ → K6 x1 x2 x3 m → jW X.1 X.2.1 jcl X.2.2.1 X.2.2.2.1 (d + 1) y_Mo_earlier 6 [some (.ref (mo X)), some (.int x1), some (.int x2), some (.int x3)] [] σ (mQ X Φ σ)) : jW X.1 X.2.1 jcl X.2.2.1 X.2.2.2.1 (d + 1) y_Mo_earlier 0 [some (.ref (mo X)), some (.int x1), o2, o3] [] σ (mQ X Φ σ) := by
  unfold w_Mo_earlier_0 at h
  refine jW.iconst (v := -1) (dx_Mo_earlier 0 (e := (0, .iconst (-1), 1)) rfl) (by decide) (pc' := 1) rfl ?_
  refine jW.istore_n (dx_Mo_earlier 1 (e := (1, .istore_n 2, 1)) rfl) rfl (by decide) rfl (pc' := 2) rfl ?_
  refine jW.iload_n (dx_Mo_earlier 2 (e := (2, .iload_n 1, 1)) rfl) rfl rfl (pc' := 3) rfl ?_
  refine jW.iconst (v := 1) (dx_Mo_earlier 3 (e := (3, .iconst 1, 1)) rfl) (by decide) (pc' := 4) rfl ?_
  refine jW.isub (dx_Mo_earlier 4 (e := (4, .isub, 1)) rfl) (pc' := 5) rfl ?_
  refine jW.istore_n (dx_Mo_earlier 5 (e := (5, .istore_n 3, 1)) rfl) rfl (by decide) rfl (pc' := 6) rfl ?_
  exact hK6 _ _ _ _ _ hV h
theorem g_Mo_earlier {X : MX} {a0 : Array Value} (F : mF X a0) {x1 : Int32} {m : MS} {Φ : Option Value → MS → Prop} {I6 : Nat → Int32 → Int32 → Int32 → MS → Prop} (he : w_Mo_earlier_0 X x1 m Φ (fun x1 x2 x3 m => ∃ j, I6 j x1 x2 x3 m)) (h6 : ∀ (n : Nat) (x1 x2 x3 : Int32) (m : MS), I6 n x1 x2 x3 m → w_Mo_earlier_6 X x1 x2 x3 m Φ (fun x1 x2 x3 m => ∃ j, j < n ∧ I6 j x1 x2 x3 m)) : mE X 1 y_Mo_earlier [.ref (mo X), .int x1] m Φ := by
  intro d σ hV
  have hL6 : ∀ n, (∀ (x1 x2 x3 : Int32) (m : MS) (σ : jS), MV X m σ → I6 n x1 x2 x3 m → jW X.1 X.2.1 jcl X.2.2.1 X.2.2.2.1 (d + 1) y_Mo_earlier 6 [some (.ref (mo X)), some (.int x1), some (.int x2), some (.int x3)] [] σ (mQ X Φ σ)) := by
    intro n
    induction n using Nat.strongRecOn with
    | _ n ih =>
      exact fun x1 x2 x3 m σ hV hI => t_Mo_earlier_6 F hV (h6 n x1 x2 x3 m hI) (fun x1 x2 x3 m σ hV ⟨j, hj, hI⟩ => (ih j hj) x1 x2 x3 m σ hV hI)
  refine jE.of (by decide) (by simp [Value.category]) (Nat.le_of_ble_eq_true rfl) rfl ?_
  exact t_Mo_earlier_0 F hV he (fun x1 x2 x3 m σ hV ⟨j, hI⟩ => (hL6 j) x1 x2 x3 m σ hV hI)
def w_Mo_areAlike_51 (X : MX) (x1 x2 x3 x4 x5 : Int32) (m : MS) (Φ : Option Value → MS → Prop) : Prop := (mZ (x4) ∧ Φ (some (.int (x4))) m)
theorem t_Mo_areAlike_51 {X : MX} {a0 : Array Value} (F : mF X a0) {d : Nat} {x1 x2 x3 x4 x5 : Int32} {m : MS} {σ : jS} {Φ : Option Value → MS → Prop} (hV : MV X m σ) (h : w_Mo_areAlike_51 X x1 x2 x3 x4 x5 m Φ) : jW X.1 X.2.1 jcl X.2.2.1 X.2.2.2.1 (d + 0) y_Mo_areAlike 51 [some (.ref (mo X)), some (.int x1), some (.int x2), some (.int x3), some (.int x4), some (.int x5)] [] σ (mQ X Φ σ) := by
  unfold w_Mo_areAlike_51 at h
  refine jW.iload (dx_Mo_areAlike 28 (e := (51, .iload 4, 2)) rfl) rfl (pc' := 53) rfl ?_
  exact jW.zret (dx_Mo_areAlike 29 (e := (53, .ireturn, 1)) rfl) rfl h.1.n ⟨FR.rfl, _, hV, h.2⟩
def w_Mo_areAlike_43 (X : MX) (x1 x2 x3 x4 x5 s0 : Int32) (m : MS) (Φ : Option Value → MS → Prop) (K6 : Int32 → Int32 → Int32 → Int32 → Int32 → MS → Prop) : Prop := K6 (x1) (x2) (x3) (s0) (x5 + 1) m
theorem t_Mo_areAlike_43 {X : MX} {a0 : Array Value} (F : mF X a0) {d : Nat} {x1 x2 x3 x4 x5 s0 : Int32} {m : MS} {σ : jS} {Φ : Option Value → MS → Prop} {K6 : Int32 → Int32 → Int32 → Int32 → Int32 → MS → Prop} (hV : MV X m σ) (h : w_Mo_areAlike_43 X x1 x2 x3 x4 x5 s0 m Φ K6) (hK6 : ∀ (x1 x2 x3 x4 x5 : Int32) (m : MS) (σ : jS), MV X m σ → K6 x1 x2 x3 x4 x5 m → jW X.1 X.2.1 jcl X.2.2.1 X.2.2.2.1 (d + 0) y_Mo_areAlike 6 [some (.ref (mo X)), some (.int x1), some (.int x2), some (.int x3), some (.int x4), some (.int x5)] [] σ (mQ X Φ σ)) : jW X.1 X.2.1 jcl X.2.2.1 X.2.2.2.1 (d + 0) y_Mo_areAlike 43 [some (.ref (mo X)), some (.int x1), some (.int x2), some (.int x3), some (.int x4), some (.int x5)] [.int s0] σ (mQ X Φ σ) := by
  unfold w_Mo_areAlike_43 at h
  refine jW.istore (dx_Mo_areAlike 25 (e := (43, .istore 4, 2)) rfl) (by decide) rfl (pc' := 45) rfl ?_
  refine jW.iinc (v := _ + (1)) (dx_Mo_areAlike 26 (e := (45, .iinc 5 1, 3)) rfl) rfl rfl (by decide) rfl (pc' := 48) rfl ?_
  refine jW.goto (dx_Mo_areAlike 27 (e := (48, .goto (-42), 3)) rfl) 6 (by decide) ?_
  exact hK6 _ _ _ _ _ _ _ hV h
def w_Mo_areAlike_6 (X : MX) (x1 x2 x3 x4 x5 : Int32) (m : MS) (Φ : Option Value → MS → Prop) (K6 : Int32 → Int32 → Int32 → Int32 → Int32 → MS → Prop) : Prop := ((x3 ≤ x5 → w_Mo_areAlike_51 X (x1) (x2) (x3) (x4) (x5) m Φ) ∧ (¬ x3 ≤ x5 → ((x4 = 0 → w_Mo_areAlike_51 X (x1) (x2) (x3) (x4) (x5) m Φ) ∧ (¬ x4 = 0 → (vp_in (x1 + x5) 48000 ∧ (vp_in (x2 + x5) 48000 ∧ ((m.2 7 (x1 + x5 : Int32).toNatClampNeg = m.2 7 (x2 + x5 : Int32).toNatClampNeg → w_Mo_areAlike_43 X (x1) (x2) (x3) (x4) (x5) (1) m Φ K6) ∧ (¬ m.2 7 (x1 + x5 : Int32).toNatClampNeg = m.2 7 (x2 + x5 : Int32).toNatClampNeg → w_Mo_areAlike_43 X (x1) (x2) (x3) (x4) (x5) (0) m Φ K6))))))))
theorem t_Mo_areAlike_6 {X : MX} {a0 : Array Value} (F : mF X a0) {d : Nat} {x1 x2 x3 x4 x5 : Int32} {m : MS} {σ : jS} {Φ : Option Value → MS → Prop} {K6 : Int32 → Int32 → Int32 → Int32 → Int32 → MS → Prop} (hV : MV X m σ) (h : w_Mo_areAlike_6 X x1 x2 x3 x4 x5 m Φ K6) (hK6 : ∀ (x1 x2 x3 x4 x5 : Int32) (m : MS) (σ : jS), MV X m σ → K6 x1 x2 x3 x4 x5 m → jW X.1 X.2.1 jcl X.2.2.1 X.2.2.2.1 (d + 0) y_Mo_areAlike 6 [some (.ref (mo X)), some (.int x1), some (.int x2), some (.int x3), some (.int x4), some (.int x5)] [] σ (mQ X Φ σ)) : jW X.1 X.2.1 jcl X.2.2.1 X.2.2.2.1 (d + 0) y_Mo_areAlike 6 [some (.ref (mo X)), some (.int x1), some (.int x2), some (.int x3), some (.int x4), some (.int x5)] [] σ (mQ X Φ σ) := by
  unfold w_Mo_areAlike_6 at h
  refine jW.iload (dx_Mo_areAlike 4 (e := (6, .iload 5, 2)) rfl) rfl (pc' := 8) rfl ?_
  refine jW.iload_n (dx_Mo_areAlike 5 (e := (8, .iload_n 3, 1)) rfl) rfl rfl (pc' := 9) rfl ?_
  refine jW.icmp_ge (dx_Mo_areAlike 6 (e := (9, .if_icmp .ge 42, 3)) rfl) 51 (by decide) (pc' := 12) rfl (fun c => ?_) (fun c => ?_)
  · replace h := h.1 c
    exact t_Mo_areAlike_51 F hV h
  · replace h := h.2 c
    refine jW.iload (dx_Mo_areAlike 7 (e := (12, .iload 4, 2)) rfl) rfl (pc' := 14) rfl ?_
    refine jW.if_eq (dx_Mo_areAlike 8 (e := (14, .ifCond .eq 37, 3)) rfl) 51 (by decide) (pc' := 17) rfl (fun c => ?_) (fun c => ?_)
    · replace h := h.1 c
      exact t_Mo_areAlike_51 F hV h
    · replace h := h.2 c
      refine jW.aload_n (dx_Mo_areAlike 9 (e := (17, .aload_n 0, 1)) rfl) rfl rfl (pc' := 18) rfl ?_
      refine jW.mga F hV f_Mo_areAlike_18 (by decide) (pc' := 21) rfl ?_
      refine jW.iload_n (dx_Mo_areAlike 11 (e := (21, .iload_n 1, 1)) rfl) rfl rfl (pc' := 22) rfl ?_
      refine jW.iload (dx_Mo_areAlike 12 (e := (22, .iload 5, 2)) rfl) rfl (pc' := 24) rfl ?_
      refine jW.iadd (dx_Mo_areAlike 13 (e := (24, .iadd, 1)) rfl) (pc' := 25) rfl ?_
      refine jW.mla F hV (dx_Mo_areAlike 14 (e := (25, .iaload, 1)) rfl) (by decide) rfl h.1 (pc' := 26) rfl ?_
      replace h := h.2
      refine jW.aload_n (dx_Mo_areAlike 15 (e := (26, .aload_n 0, 1)) rfl) rfl rfl (pc' := 27) rfl ?_
      refine jW.mga F hV f_Mo_areAlike_27 (by decide) (pc' := 30) rfl ?_
      refine jW.iload_n (dx_Mo_areAlike 17 (e := (30, .iload_n 2, 1)) rfl) rfl rfl (pc' := 31) rfl ?_
      refine jW.iload (dx_Mo_areAlike 18 (e := (31, .iload 5, 2)) rfl) rfl (pc' := 33) rfl ?_
      refine jW.iadd (dx_Mo_areAlike 19 (e := (33, .iadd, 1)) rfl) (pc' := 34) rfl ?_
      refine jW.mla F hV (dx_Mo_areAlike 20 (e := (34, .iaload, 1)) rfl) (by decide) rfl h.1 (pc' := 35) rfl ?_
      replace h := h.2
      refine jW.icmp_ne (dx_Mo_areAlike 21 (e := (35, .if_icmp .ne 7, 3)) rfl) 42 (by decide) (pc' := 38) rfl (fun c => ?_) (fun c => ?_)
      · replace h := h.2 c
        refine jW.iconst (v := 0) (dx_Mo_areAlike 24 (e := (42, .iconst 0, 1)) rfl) (by decide) (pc' := 43) rfl ?_
        exact t_Mo_areAlike_43 F hV h hK6
      · replace h := h.1 c
        refine jW.iconst (v := 1) (dx_Mo_areAlike 22 (e := (38, .iconst 1, 1)) rfl) (by decide) (pc' := 39) rfl ?_
        refine jW.goto (dx_Mo_areAlike 23 (e := (39, .goto 4, 3)) rfl) 43 (by decide) ?_
        exact t_Mo_areAlike_43 F hV h hK6
def w_Mo_areAlike_0 (X : MX) (x1 x2 x3 : Int32) (m : MS) (Φ : Option Value → MS → Prop) (K6 : Int32 → Int32 → Int32 → Int32 → Int32 → MS → Prop) : Prop := K6 (x1) (x2) (x3) (1) (0) m
theorem t_Mo_areAlike_0 {X : MX} {a0 : Array Value} (F : mF X a0) {d : Nat} {x1 x2 x3 : Int32} {o4 o5 : Option Value} {m : MS} {σ : jS} {Φ : Option Value → MS → Prop} {K6 : Int32 → Int32 → Int32 → Int32 → Int32 → MS → Prop} (hV : MV X m σ) (h : w_Mo_areAlike_0 X x1 x2 x3 m Φ K6) (hK6 : ∀ (x1 x2 x3 x4 x5 : Int32) (m : MS) (σ : jS), MV X m σ → K6 x1 x2 x3 x4 x5 m → jW X.1 X.2.1 jcl X.2.2.1 X.2.2.2.1 (d + 0) y_Mo_areAlike 6 [some (.ref (mo X)), some (.int x1), some (.int x2), some (.int x3), some (.int x4), some (.int x5)] [] σ (mQ X Φ σ)) : jW X.1 X.2.1 jcl X.2.2.1 X.2.2.2.1 (d + 0) y_Mo_areAlike 0 [some (.ref (mo X)), some (.int x1), some (.int x2), some (.int x3), o4, o5] [] σ (mQ X Φ σ) := by
  unfold w_Mo_areAlike_0 at h
  refine jW.iconst (v := 1) (dx_Mo_areAlike 0 (e := (0, .iconst 1, 1)) rfl) (by decide) (pc' := 1) rfl ?_
  refine jW.istore (dx_Mo_areAlike 1 (e := (1, .istore 4, 2)) rfl) (by decide) rfl (pc' := 3) rfl ?_
  refine jW.iconst (v := 0) (dx_Mo_areAlike 2 (e := (3, .iconst 0, 1)) rfl) (by decide) (pc' := 4) rfl ?_
  refine jW.istore (dx_Mo_areAlike 3 (e := (4, .istore 5, 2)) rfl) (by decide) rfl (pc' := 6) rfl ?_
  exact hK6 _ _ _ _ _ _ _ hV h
theorem g_Mo_areAlike {X : MX} {a0 : Array Value} (F : mF X a0) {x1 x2 x3 : Int32} {m : MS} {Φ : Option Value → MS → Prop} {I6 : Nat → Int32 → Int32 → Int32 → Int32 → Int32 → MS → Prop} (he : w_Mo_areAlike_0 X x1 x2 x3 m Φ (fun x1 x2 x3 x4 x5 m => ∃ j, I6 j x1 x2 x3 x4 x5 m)) (h6 : ∀ (n : Nat) (x1 x2 x3 x4 x5 : Int32) (m : MS), I6 n x1 x2 x3 x4 x5 m → w_Mo_areAlike_6 X x1 x2 x3 x4 x5 m Φ (fun x1 x2 x3 x4 x5 m => ∃ j, j < n ∧ I6 j x1 x2 x3 x4 x5 m)) : mE X 0 y_Mo_areAlike [.ref (mo X), .int x1, .int x2, .int x3] m Φ := by
  intro d σ hV
  have hL6 : ∀ n, (∀ (x1 x2 x3 x4 x5 : Int32) (m : MS) (σ : jS), MV X m σ → I6 n x1 x2 x3 x4 x5 m → jW X.1 X.2.1 jcl X.2.2.1 X.2.2.2.1 (d + 0) y_Mo_areAlike 6 [some (.ref (mo X)), some (.int x1), some (.int x2), some (.int x3), some (.int x4), some (.int x5)] [] σ (mQ X Φ σ)) := by
    intro n
    induction n using Nat.strongRecOn with
    | _ n ih =>
      exact fun x1 x2 x3 x4 x5 m σ hV hI => t_Mo_areAlike_6 F hV (h6 n x1 x2 x3 x4 x5 m hI) (fun x1 x2 x3 x4 x5 m σ hV ⟨j, hj, hI⟩ => (ih j hj) x1 x2 x3 x4 x5 m σ hV hI)
  refine jE.of (by decide) (by simp [Value.category]) (Nat.le_of_ble_eq_true rfl) rfl ?_
  exact t_Mo_areAlike_0 F hV he (fun x1 x2 x3 x4 x5 m σ hV ⟨j, hI⟩ => (hL6 j) x1 x2 x3 x4 x5 m σ hV hI)
def w_Mo_trimEnd_47 (X : MX) (x1 : Int32) (m : MS) (Φ : Option Value → MS → Prop) : Prop := Φ none m
theorem t_Mo_trimEnd_47 {X : MX} {a0 : Array Value} (F : mF X a0) {d : Nat} {x1 : Int32} {m : MS} {σ : jS} {Φ : Option Value → MS → Prop} (hV : MV X m σ) (h : w_Mo_trimEnd_47 X x1 m Φ) : jW X.1 X.2.1 jcl X.2.2.1 X.2.2.2.1 (d + 0) y_Mo_trimEnd 47 [some (.ref (mo X)), some (.int x1)] [] σ (mQ X Φ σ) := by
  unfold w_Mo_trimEnd_47 at h
  exact jW.vret (dx_Mo_trimEnd 30 (e := (47, .return_, 1)) rfl) rfl ⟨FR.rfl, _, hV, h⟩
def w_Mo_trimEnd_0 (X : MX) (x1 : Int32) (m : MS) (Φ : Option Value → MS → Prop) (K0 : Int32 → MS → Prop) : Prop := (vp_in (x1) 3300 ∧ ((m.2 19 (x1 : Int32).toNatClampNeg ≤ 0 → w_Mo_trimEnd_47 X (x1) m Φ) ∧ (¬ m.2 19 (x1 : Int32).toNatClampNeg ≤ 0 → (vp_in (x1) 3300 ∧ (vp_in (x1) 3300 ∧ (vp_in (((m.2 18 (x1 : Int32).toNatClampNeg) + (m.2 19 (x1 : Int32).toNatClampNeg)) - 1) 48000 ∧ ((m.2 7 (((m.2 18 (x1 : Int32).toNatClampNeg) + (m.2 19 (x1 : Int32).toNatClampNeg)) - 1 : Int32).toNatClampNeg = 32 → (vp_in (x1) 3300 ∧ (vp_in (x1) 3300 ∧ ∀ m1, m1 = mA m 19 (x1 : Int32).toNatClampNeg ((m.2 19 (x1 : Int32).toNatClampNeg) - 1) → K0 (x1) m1))) ∧ (¬ m.2 7 (((m.2 18 (x1 : Int32).toNatClampNeg) + (m.2 19 (x1 : Int32).toNatClampNeg)) - 1 : Int32).toNatClampNeg = 32 → w_Mo_trimEnd_47 X (x1) m Φ))))))))
theorem t_Mo_trimEnd_0 {X : MX} {a0 : Array Value} (F : mF X a0) {d : Nat} {x1 : Int32} {m : MS} {σ : jS} {Φ : Option Value → MS → Prop} {K0 : Int32 → MS → Prop} (hV : MV X m σ) (h : w_Mo_trimEnd_0 X x1 m Φ K0) (hK0 : ∀ (x1 : Int32) (m : MS) (σ : jS), MV X m σ → K0 x1 m → jW X.1 X.2.1 jcl X.2.2.1 X.2.2.2.1 (d + 0) y_Mo_trimEnd 0 [some (.ref (mo X)), some (.int x1)] [] σ (mQ X Φ σ)) : jW X.1 X.2.1 jcl X.2.2.1 X.2.2.2.1 (d + 0) y_Mo_trimEnd 0 [some (.ref (mo X)), some (.int x1)] [] σ (mQ X Φ σ) := by
  unfold w_Mo_trimEnd_0 at h
  refine jW.aload_n (dx_Mo_trimEnd 0 (e := (0, .aload_n 0, 1)) rfl) rfl rfl (pc' := 1) rfl ?_
  refine jW.mga F hV f_Mo_trimEnd_1 (by decide) (pc' := 4) rfl ?_
  refine jW.iload_n (dx_Mo_trimEnd 2 (e := (4, .iload_n 1, 1)) rfl) rfl rfl (pc' := 5) rfl ?_
  refine jW.mla F hV (dx_Mo_trimEnd 3 (e := (5, .iaload, 1)) rfl) (by decide) rfl h.1 (pc' := 6) rfl ?_
  replace h := h.2
  refine jW.if_le (dx_Mo_trimEnd 4 (e := (6, .ifCond .le 41, 3)) rfl) 47 (by decide) (pc' := 9) rfl (fun c => ?_) (fun c => ?_)
  · replace h := h.1 c
    exact t_Mo_trimEnd_47 F hV h
  · replace h := h.2 c
    refine jW.aload_n (dx_Mo_trimEnd 5 (e := (9, .aload_n 0, 1)) rfl) rfl rfl (pc' := 10) rfl ?_
    refine jW.mga F hV f_Mo_trimEnd_10 (by decide) (pc' := 13) rfl ?_
    refine jW.aload_n (dx_Mo_trimEnd 7 (e := (13, .aload_n 0, 1)) rfl) rfl rfl (pc' := 14) rfl ?_
    refine jW.mga F hV f_Mo_trimEnd_14 (by decide) (pc' := 17) rfl ?_
    refine jW.iload_n (dx_Mo_trimEnd 9 (e := (17, .iload_n 1, 1)) rfl) rfl rfl (pc' := 18) rfl ?_
    refine jW.mla F hV (dx_Mo_trimEnd 10 (e := (18, .iaload, 1)) rfl) (by decide) rfl h.1 (pc' := 19) rfl ?_
    replace h := h.2
    refine jW.aload_n (dx_Mo_trimEnd 11 (e := (19, .aload_n 0, 1)) rfl) rfl rfl (pc' := 20) rfl ?_
    refine jW.mga F hV f_Mo_trimEnd_20 (by decide) (pc' := 23) rfl ?_
    refine jW.iload_n (dx_Mo_trimEnd 13 (e := (23, .iload_n 1, 1)) rfl) rfl rfl (pc' := 24) rfl ?_
    refine jW.mla F hV (dx_Mo_trimEnd 14 (e := (24, .iaload, 1)) rfl) (by decide) rfl h.1 (pc' := 25) rfl ?_
    replace h := h.2
    refine jW.iadd (dx_Mo_trimEnd 15 (e := (25, .iadd, 1)) rfl) (pc' := 26) rfl ?_
    refine jW.iconst (v := 1) (dx_Mo_trimEnd 16 (e := (26, .iconst 1, 1)) rfl) (by decide) (pc' := 27) rfl ?_
    refine jW.isub (dx_Mo_trimEnd 17 (e := (27, .isub, 1)) rfl) (pc' := 28) rfl ?_
    refine jW.mla F hV (dx_Mo_trimEnd 18 (e := (28, .iaload, 1)) rfl) (by decide) rfl h.1 (pc' := 29) rfl ?_
    replace h := h.2
    refine jW.bipush (v := 32) (dx_Mo_trimEnd 19 (e := (29, .bipush 32, 2)) rfl) (by decide) (pc' := 31) rfl ?_
    refine jW.icmp_ne (dx_Mo_trimEnd 20 (e := (31, .if_icmp .ne 16, 3)) rfl) 47 (by decide) (pc' := 34) rfl (fun c => ?_) (fun c => ?_)
    · replace h := h.2 c
      exact t_Mo_trimEnd_47 F hV h
    · replace h := h.1 c
      refine jW.aload_n (dx_Mo_trimEnd 21 (e := (34, .aload_n 0, 1)) rfl) rfl rfl (pc' := 35) rfl ?_
      refine jW.mga F hV f_Mo_trimEnd_35 (by decide) (pc' := 38) rfl ?_
      refine jW.iload_n (dx_Mo_trimEnd 23 (e := (38, .iload_n 1, 1)) rfl) rfl rfl (pc' := 39) rfl ?_
      refine jW.dup2 (dx_Mo_trimEnd 24 (e := (39, .dup2, 1)) rfl) rfl rfl (pc' := 40) rfl ?_
      refine jW.mla F hV (dx_Mo_trimEnd 25 (e := (40, .iaload, 1)) rfl) (by decide) rfl h.1 (pc' := 41) rfl ?_
      replace h := h.2
      refine jW.iconst (v := 1) (dx_Mo_trimEnd 26 (e := (41, .iconst 1, 1)) rfl) (by decide) (pc' := 42) rfl ?_
      refine jW.isub (dx_Mo_trimEnd 27 (e := (42, .isub, 1)) rfl) (pc' := 43) rfl ?_
      refine jW.msa F hV (dx_Mo_trimEnd 28 (e := (43, .iastore, 1)) rfl) (by decide) rfl h.1 (pc' := 44) rfl (fun σ hV => ?_)
      replace h := h.2 _ rfl
      refine jW.goto (dx_Mo_trimEnd 29 (e := (44, .goto (-44), 3)) rfl) 0 (by decide) ?_
      exact hK0 _ _ _ hV h
theorem g_Mo_trimEnd {X : MX} {a0 : Array Value} (F : mF X a0) {x1 : Int32} {m : MS} {Φ : Option Value → MS → Prop} {I0 : Nat → Int32 → MS → Prop} (he : w_Mo_trimEnd_0 X x1 m Φ (fun x1 m => ∃ j, I0 j x1 m)) (h0 : ∀ (n : Nat) (x1 : Int32) (m : MS), I0 n x1 m → w_Mo_trimEnd_0 X x1 m Φ (fun x1 m => ∃ j, j < n ∧ I0 j x1 m)) : mE X 0 y_Mo_trimEnd [.ref (mo X), .int x1] m Φ := by
  intro d σ hV
  have hL0 : ∀ n, (∀ (x1 : Int32) (m : MS) (σ : jS), MV X m σ → I0 n x1 m → jW X.1 X.2.1 jcl X.2.2.1 X.2.2.2.1 (d + 0) y_Mo_trimEnd 0 [some (.ref (mo X)), some (.int x1)] [] σ (mQ X Φ σ)) := by
    intro n
    induction n using Nat.strongRecOn with
    | _ n ih =>
      exact fun x1 m σ hV hI => t_Mo_trimEnd_0 F hV (h0 n x1 m hI) (fun x1 m σ hV ⟨j, hj, hI⟩ => (ih j hj) x1 m σ hV hI)
  refine jE.of (by decide) (by simp [Value.category]) (Nat.le_of_ble_eq_true rfl) rfl ?_
  exact t_Mo_trimEnd_0 F hV he (fun x1 m σ hV ⟨j, hI⟩ => (hL0 j) x1 m σ hV hI)
def w_Mo_goAway_0 (X : MX) (x1 : Int32) (m : MS) (Φ : Option Value → MS → Prop) : Prop := (vp_in (x1) 3300 ∧ ∀ m1, m1 = mA m 26 (x1 : Int32).toNatClampNeg (1 &&& 1) → (vp_in (x1) 3300 ∧ (vp_in (m1.2 14 (x1 : Int32).toNatClampNeg) 3300 ∧ (vp_in (m1.2 14 (x1 : Int32).toNatClampNeg) 3300 ∧ ∀ m2, m2 = mA m1 25 (m1.2 14 (x1 : Int32).toNatClampNeg : Int32).toNatClampNeg ((m1.2 25 (m1.2 14 (x1 : Int32).toNatClampNeg : Int32).toNatClampNeg) - 1) → Φ none m2))))
theorem t_Mo_goAway_0 {X : MX} {a0 : Array Value} (F : mF X a0) {d : Nat} {x1 : Int32} {m : MS} {σ : jS} {Φ : Option Value → MS → Prop} (hV : MV X m σ) (h : w_Mo_goAway_0 X x1 m Φ) : jW X.1 X.2.1 jcl X.2.2.1 X.2.2.2.1 (d + 0) y_Mo_goAway 0 [some (.ref (mo X)), some (.int x1)] [] σ (mQ X Φ σ) := by
  unfold w_Mo_goAway_0 at h
  refine jW.aload_n (dx_Mo_goAway 0 (e := (0, .aload_n 0, 1)) rfl) rfl rfl (pc' := 1) rfl ?_
  refine jW.mga F hV f_Mo_goAway_1 (by decide) (pc' := 4) rfl ?_
  refine jW.iload_n (dx_Mo_goAway 2 (e := (4, .iload_n 1, 1)) rfl) rfl rfl (pc' := 5) rfl ?_
  refine jW.iconst (v := 1) (dx_Mo_goAway 3 (e := (5, .iconst 1, 1)) rfl) (by decide) (pc' := 6) rfl ?_
  refine jW.msz F hV (dx_Mo_goAway 4 (e := (6, .bastore, 1)) rfl) (by decide) rfl h.1 (pc' := 7) rfl (fun σ hV => ?_)
  replace h := h.2 _ rfl
  refine jW.aload_n (dx_Mo_goAway 5 (e := (7, .aload_n 0, 1)) rfl) rfl rfl (pc' := 8) rfl ?_
  refine jW.mga F hV f_Mo_goAway_8 (by decide) (pc' := 11) rfl ?_
  refine jW.aload_n (dx_Mo_goAway 7 (e := (11, .aload_n 0, 1)) rfl) rfl rfl (pc' := 12) rfl ?_
  refine jW.mga F hV f_Mo_goAway_12 (by decide) (pc' := 15) rfl ?_
  refine jW.iload_n (dx_Mo_goAway 9 (e := (15, .iload_n 1, 1)) rfl) rfl rfl (pc' := 16) rfl ?_
  refine jW.mla F hV (dx_Mo_goAway 10 (e := (16, .iaload, 1)) rfl) (by decide) rfl h.1 (pc' := 17) rfl ?_
  replace h := h.2
  refine jW.dup2 (dx_Mo_goAway 11 (e := (17, .dup2, 1)) rfl) rfl rfl (pc' := 18) rfl ?_
  refine jW.mla F hV (dx_Mo_goAway 12 (e := (18, .iaload, 1)) rfl) (by decide) rfl h.1 (pc' := 19) rfl ?_
  replace h := h.2
  refine jW.iconst (v := 1) (dx_Mo_goAway 13 (e := (19, .iconst 1, 1)) rfl) (by decide) (pc' := 20) rfl ?_
  refine jW.isub (dx_Mo_goAway 14 (e := (20, .isub, 1)) rfl) (pc' := 21) rfl ?_
  refine jW.msa F hV (dx_Mo_goAway 15 (e := (21, .iastore, 1)) rfl) (by decide) rfl h.1 (pc' := 22) rfl (fun σ hV => ?_)
  replace h := h.2 _ rfl
  exact jW.vret (dx_Mo_goAway 16 (e := (22, .return_, 1)) rfl) rfl ⟨FR.rfl, _, hV, h⟩
theorem g_Mo_goAway {X : MX} {a0 : Array Value} (F : mF X a0) {x1 : Int32} {m : MS} {Φ : Option Value → MS → Prop} (he : w_Mo_goAway_0 X x1 m Φ) : mE X 0 y_Mo_goAway [.ref (mo X), .int x1] m Φ := by
  intro d σ hV
  refine jE.of (by decide) (by simp [Value.category]) (Nat.le_of_ble_eq_true rfl) rfl ?_
  exact t_Mo_goAway_0 F hV he
def w_Mo_dropBlankLines_98 (X : MX) (x1 x2 : Int32) (m : MS) (Φ : Option Value → MS → Prop) : Prop := Φ none m
theorem t_Mo_dropBlankLines_98 {X : MX} {a0 : Array Value} (F : mF X a0) {d : Nat} {x1 x2 : Int32} {o3 : Option Value} {m : MS} {σ : jS} {Φ : Option Value → MS → Prop} (hV : MV X m σ) (h : w_Mo_dropBlankLines_98 X x1 x2 m Φ) : jW X.1 X.2.1 jcl X.2.2.1 X.2.2.2.1 (d + 0) y_Mo_dropBlankLines 98 [some (.ref (mo X)), some (.int x1), some (.int x2), o3] [] σ (mQ X Φ σ) := by
  unfold w_Mo_dropBlankLines_98 at h
  exact jW.vret (dx_Mo_dropBlankLines 60 (e := (98, .return_, 1)) rfl) rfl ⟨FR.rfl, _, hV, h⟩
def w_Mo_dropBlankLines_95 (X : MX) (x1 x2 x3 : Int32) (m : MS) (Φ : Option Value → MS → Prop) (K2 : Int32 → Int32 → MS → Prop) (K24 : Int32 → Int32 → Int32 → MS → Prop) : Prop := K2 (x1) (x2) m
theorem t_Mo_dropBlankLines_95 {X : MX} {a0 : Array Value} (F : mF X a0) {d : Nat} {x1 x2 x3 : Int32} {m : MS} {σ : jS} {Φ : Option Value → MS → Prop} {K2 : Int32 → Int32 → MS → Prop} {K24 : Int32 → Int32 → Int32 → MS → Prop} (hV : MV X m σ) (h : w_Mo_dropBlankLines_95 X x1 x2 x3 m Φ K2 K24) (hK2 : ∀ (x1 x2 : Int32) (o3 : Option Value) (m : MS) (σ : jS), MV X m σ → K2 x1 x2 m → jW X.1 X.2.1 jcl X.2.2.1 X.2.2.2.1 (d + 0) y_Mo_dropBlankLines 2 [some (.ref (mo X)), some (.int x1), some (.int x2), o3] [] σ (mQ X Φ σ)) (hK24 : ∀ (x1 x2 x3 : Int32) (m : MS) (σ : jS), MV X m σ → K24 x1 x2 x3 m → jW X.1 X.2.1 jcl X.2.2.1 X.2.2.2.1 (d + 0) y_Mo_dropBlankLines 24 [some (.ref (mo X)), some (.int x1), some (.int x2), some (.int x3)] [] σ (mQ X Φ σ)) : jW X.1 X.2.1 jcl X.2.2.1 X.2.2.2.1 (d + 0) y_Mo_dropBlankLines 95 [some (.ref (mo X)), some (.int x1), some (.int x2), some (.int x3)] [] σ (mQ X Φ σ) := by
  unfold w_Mo_dropBlankLines_95 at h
  refine jW.goto (dx_Mo_dropBlankLines 59 (e := (95, .goto (-93), 3)) rfl) 2 (by decide) ?_
  exact hK2 _ _ _ _ _ hV h
def w_Mo_dropBlankLines_83 (X : MX) (x1 x2 x3 s0 : Int32) (m : MS) (Φ : Option Value → MS → Prop) (K2 : Int32 → Int32 → MS → Prop) (K24 : Int32 → Int32 → Int32 → MS → Prop) : Prop := ((s0 = 0 → w_Mo_dropBlankLines_95 X (x1) (s0) (x3) m Φ K2 K24) ∧ (¬ s0 = 0 → (vp_in (x1) 3300 ∧ ∀ m1, m1 = mA m 19 (x1 : Int32).toNatClampNeg (x3) → w_Mo_dropBlankLines_95 X (x1) (s0) (x3) m1 Φ K2 K24)))
theorem t_Mo_dropBlankLines_83 {X : MX} {a0 : Array Value} (F : mF X a0) {d : Nat} {x1 x2 x3 s0 : Int32} {m : MS} {σ : jS} {Φ : Option Value → MS → Prop} {K2 : Int32 → Int32 → MS → Prop} {K24 : Int32 → Int32 → Int32 → MS → Prop} (hV : MV X m σ) (h : w_Mo_dropBlankLines_83 X x1 x2 x3 s0 m Φ K2 K24) (hK2 : ∀ (x1 x2 : Int32) (o3 : Option Value) (m : MS) (σ : jS), MV X m σ → K2 x1 x2 m → jW X.1 X.2.1 jcl X.2.2.1 X.2.2.2.1 (d + 0) y_Mo_dropBlankLines 2 [some (.ref (mo X)), some (.int x1), some (.int x2), o3] [] σ (mQ X Φ σ)) (hK24 : ∀ (x1 x2 x3 : Int32) (m : MS) (σ : jS), MV X m σ → K24 x1 x2 x3 m → jW X.1 X.2.1 jcl X.2.2.1 X.2.2.2.1 (d + 0) y_Mo_dropBlankLines 24 [some (.ref (mo X)), some (.int x1), some (.int x2), some (.int x3)] [] σ (mQ X Φ σ)) : jW X.1 X.2.1 jcl X.2.2.1 X.2.2.2.1 (d + 0) y_Mo_dropBlankLines 83 [some (.ref (mo X)), some (.int x1), some (.int x2), some (.int x3)] [.int s0] σ (mQ X Φ σ) := by
  unfold w_Mo_dropBlankLines_83 at h
  refine jW.istore_n (dx_Mo_dropBlankLines 51 (e := (83, .istore_n 2, 1)) rfl) rfl (by decide) rfl (pc' := 84) rfl ?_
  refine jW.iload_n (dx_Mo_dropBlankLines 52 (e := (84, .iload_n 2, 1)) rfl) rfl rfl (pc' := 85) rfl ?_
  refine jW.if_eq (dx_Mo_dropBlankLines 53 (e := (85, .ifCond .eq 10, 3)) rfl) 95 (by decide) (pc' := 88) rfl (fun c => ?_) (fun c => ?_)
  · replace h := h.1 c
    exact t_Mo_dropBlankLines_95 F hV h hK2 hK24
  · replace h := h.2 c
    refine jW.aload_n (dx_Mo_dropBlankLines 54 (e := (88, .aload_n 0, 1)) rfl) rfl rfl (pc' := 89) rfl ?_
    refine jW.mga F hV f_Mo_dropBlankLines_89 (by decide) (pc' := 92) rfl ?_
    refine jW.iload_n (dx_Mo_dropBlankLines 56 (e := (92, .iload_n 1, 1)) rfl) rfl rfl (pc' := 93) rfl ?_
    refine jW.iload_n (dx_Mo_dropBlankLines 57 (e := (93, .iload_n 3, 1)) rfl) rfl rfl (pc' := 94) rfl ?_
    refine jW.msa F hV (dx_Mo_dropBlankLines 58 (e := (94, .iastore, 1)) rfl) (by decide) rfl h.1 (pc' := 95) rfl (fun σ hV => ?_)
    replace h := h.2 _ rfl
    exact t_Mo_dropBlankLines_95 F hV h hK2 hK24
def w_Mo_dropBlankLines_78 (X : MX) (x1 x2 x3 : Int32) (m : MS) (Φ : Option Value → MS → Prop) (K2 : Int32 → Int32 → MS → Prop) (K24 : Int32 → Int32 → Int32 → MS → Prop) : Prop := w_Mo_dropBlankLines_83 X (x1) (x2) (x3) (1) m Φ K2 K24
theorem t_Mo_dropBlankLines_78 {X : MX} {a0 : Array Value} (F : mF X a0) {d : Nat} {x1 x2 x3 : Int32} {m : MS} {σ : jS} {Φ : Option Value → MS → Prop} {K2 : Int32 → Int32 → MS → Prop} {K24 : Int32 → Int32 → Int32 → MS → Prop} (hV : MV X m σ) (h : w_Mo_dropBlankLines_78 X x1 x2 x3 m Φ K2 K24) (hK2 : ∀ (x1 x2 : Int32) (o3 : Option Value) (m : MS) (σ : jS), MV X m σ → K2 x1 x2 m → jW X.1 X.2.1 jcl X.2.2.1 X.2.2.2.1 (d + 0) y_Mo_dropBlankLines 2 [some (.ref (mo X)), some (.int x1), some (.int x2), o3] [] σ (mQ X Φ σ)) (hK24 : ∀ (x1 x2 x3 : Int32) (m : MS) (σ : jS), MV X m σ → K24 x1 x2 x3 m → jW X.1 X.2.1 jcl X.2.2.1 X.2.2.2.1 (d + 0) y_Mo_dropBlankLines 24 [some (.ref (mo X)), some (.int x1), some (.int x2), some (.int x3)] [] σ (mQ X Φ σ)) : jW X.1 X.2.1 jcl X.2.2.1 X.2.2.2.1 (d + 0) y_Mo_dropBlankLines 78 [some (.ref (mo X)), some (.int x1), some (.int x2), some (.int x3)] [] σ (mQ X Φ σ) := by
  unfold w_Mo_dropBlankLines_78 at h
  refine jW.iconst (v := 1) (dx_Mo_dropBlankLines 48 (e := (78, .iconst 1, 1)) rfl) (by decide) (pc' := 79) rfl ?_
  refine jW.goto (dx_Mo_dropBlankLines 49 (e := (79, .goto 4, 3)) rfl) 83 (by decide) ?_
  exact t_Mo_dropBlankLines_83 F hV h hK2 hK24
def w_Mo_dropBlankLines_54 (X : MX) (x1 x2 x3 : Int32) (m : MS) (Φ : Option Value → MS → Prop) (K2 : Int32 → Int32 → MS → Prop) (K24 : Int32 → Int32 → Int32 → MS → Prop) : Prop := ((x3 = 0 → w_Mo_dropBlankLines_78 X (x1) (x2) (x3) m Φ K2 K24) ∧ (¬ x3 = 0 → (vp_in (x1) 3300 ∧ (vp_in (((m.2 18 (x1 : Int32).toNatClampNeg) + x3) - 1) 48000 ∧ ((m.2 7 (((m.2 18 (x1 : Int32).toNatClampNeg) + x3) - 1 : Int32).toNatClampNeg = 10 → w_Mo_dropBlankLines_78 X (x1) (x2) (x3) m Φ K2 K24) ∧ (¬ m.2 7 (((m.2 18 (x1 : Int32).toNatClampNeg) + x3) - 1 : Int32).toNatClampNeg = 10 → w_Mo_dropBlankLines_83 X (x1) (x2) (x3) (0) m Φ K2 K24))))))
theorem t_Mo_dropBlankLines_54 {X : MX} {a0 : Array Value} (F : mF X a0) {d : Nat} {x1 x2 x3 : Int32} {m : MS} {σ : jS} {Φ : Option Value → MS → Prop} {K2 : Int32 → Int32 → MS → Prop} {K24 : Int32 → Int32 → Int32 → MS → Prop} (hV : MV X m σ) (h : w_Mo_dropBlankLines_54 X x1 x2 x3 m Φ K2 K24) (hK2 : ∀ (x1 x2 : Int32) (o3 : Option Value) (m : MS) (σ : jS), MV X m σ → K2 x1 x2 m → jW X.1 X.2.1 jcl X.2.2.1 X.2.2.2.1 (d + 0) y_Mo_dropBlankLines 2 [some (.ref (mo X)), some (.int x1), some (.int x2), o3] [] σ (mQ X Φ σ)) (hK24 : ∀ (x1 x2 x3 : Int32) (m : MS) (σ : jS), MV X m σ → K24 x1 x2 x3 m → jW X.1 X.2.1 jcl X.2.2.1 X.2.2.2.1 (d + 0) y_Mo_dropBlankLines 24 [some (.ref (mo X)), some (.int x1), some (.int x2), some (.int x3)] [] σ (mQ X Φ σ)) : jW X.1 X.2.1 jcl X.2.2.1 X.2.2.2.1 (d + 0) y_Mo_dropBlankLines 54 [some (.ref (mo X)), some (.int x1), some (.int x2), some (.int x3)] [] σ (mQ X Φ σ) := by
  unfold w_Mo_dropBlankLines_54 at h
  refine jW.iload_n (dx_Mo_dropBlankLines 33 (e := (54, .iload_n 3, 1)) rfl) rfl rfl (pc' := 55) rfl ?_
  refine jW.if_eq (dx_Mo_dropBlankLines 34 (e := (55, .ifCond .eq 23, 3)) rfl) 78 (by decide) (pc' := 58) rfl (fun c => ?_) (fun c => ?_)
  · replace h := h.1 c
    exact t_Mo_dropBlankLines_78 F hV h hK2 hK24
  · replace h := h.2 c
    refine jW.aload_n (dx_Mo_dropBlankLines 35 (e := (58, .aload_n 0, 1)) rfl) rfl rfl (pc' := 59) rfl ?_
    refine jW.mga F hV f_Mo_dropBlankLines_59 (by decide) (pc' := 62) rfl ?_
    refine jW.aload_n (dx_Mo_dropBlankLines 37 (e := (62, .aload_n 0, 1)) rfl) rfl rfl (pc' := 63) rfl ?_
    refine jW.mga F hV f_Mo_dropBlankLines_63 (by decide) (pc' := 66) rfl ?_
    refine jW.iload_n (dx_Mo_dropBlankLines 39 (e := (66, .iload_n 1, 1)) rfl) rfl rfl (pc' := 67) rfl ?_
    refine jW.mla F hV (dx_Mo_dropBlankLines 40 (e := (67, .iaload, 1)) rfl) (by decide) rfl h.1 (pc' := 68) rfl ?_
    replace h := h.2
    refine jW.iload_n (dx_Mo_dropBlankLines 41 (e := (68, .iload_n 3, 1)) rfl) rfl rfl (pc' := 69) rfl ?_
    refine jW.iadd (dx_Mo_dropBlankLines 42 (e := (69, .iadd, 1)) rfl) (pc' := 70) rfl ?_
    refine jW.iconst (v := 1) (dx_Mo_dropBlankLines 43 (e := (70, .iconst 1, 1)) rfl) (by decide) (pc' := 71) rfl ?_
    refine jW.isub (dx_Mo_dropBlankLines 44 (e := (71, .isub, 1)) rfl) (pc' := 72) rfl ?_
    refine jW.mla F hV (dx_Mo_dropBlankLines 45 (e := (72, .iaload, 1)) rfl) (by decide) rfl h.1 (pc' := 73) rfl ?_
    replace h := h.2
    refine jW.bipush (v := 10) (dx_Mo_dropBlankLines 46 (e := (73, .bipush 10, 2)) rfl) (by decide) (pc' := 75) rfl ?_
    refine jW.icmp_ne (dx_Mo_dropBlankLines 47 (e := (75, .if_icmp .ne 7, 3)) rfl) 82 (by decide) (pc' := 78) rfl (fun c => ?_) (fun c => ?_)
    · replace h := h.2 c
      refine jW.iconst (v := 0) (dx_Mo_dropBlankLines 50 (e := (82, .iconst 0, 1)) rfl) (by decide) (pc' := 83) rfl ?_
      exact t_Mo_dropBlankLines_83 F hV h hK2 hK24
    · replace h := h.1 c
      exact t_Mo_dropBlankLines_78 F hV h hK2 hK24
def w_Mo_dropBlankLines_24 (X : MX) (x1 x2 x3 : Int32) (m : MS) (Φ : Option Value → MS → Prop) (K2 : Int32 → Int32 → MS → Prop) (K24 : Int32 → Int32 → Int32 → MS → Prop) : Prop := ((x3 ≤ 0 → w_Mo_dropBlankLines_54 X (x1) (x2) (x3) m Φ K2 K24) ∧ (¬ x3 ≤ 0 → (vp_in (x1) 3300 ∧ (vp_in (((m.2 18 (x1 : Int32).toNatClampNeg) + x3) - 1) 48000 ∧ ((m.2 7 (((m.2 18 (x1 : Int32).toNatClampNeg) + x3) - 1 : Int32).toNatClampNeg = 32 → K24 (x1) (x2) (x3 + (-1)) m) ∧ (¬ m.2 7 (((m.2 18 (x1 : Int32).toNatClampNeg) + x3) - 1 : Int32).toNatClampNeg = 32 → w_Mo_dropBlankLines_54 X (x1) (x2) (x3) m Φ K2 K24))))))
theorem t_Mo_dropBlankLines_24 {X : MX} {a0 : Array Value} (F : mF X a0) {d : Nat} {x1 x2 x3 : Int32} {m : MS} {σ : jS} {Φ : Option Value → MS → Prop} {K2 : Int32 → Int32 → MS → Prop} {K24 : Int32 → Int32 → Int32 → MS → Prop} (hV : MV X m σ) (h : w_Mo_dropBlankLines_24 X x1 x2 x3 m Φ K2 K24) (hK2 : ∀ (x1 x2 : Int32) (o3 : Option Value) (m : MS) (σ : jS), MV X m σ → K2 x1 x2 m → jW X.1 X.2.1 jcl X.2.2.1 X.2.2.2.1 (d + 0) y_Mo_dropBlankLines 2 [some (.ref (mo X)), some (.int x1), some (.int x2), o3] [] σ (mQ X Φ σ)) (hK24 : ∀ (x1 x2 x3 : Int32) (m : MS) (σ : jS), MV X m σ → K24 x1 x2 x3 m → jW X.1 X.2.1 jcl X.2.2.1 X.2.2.2.1 (d + 0) y_Mo_dropBlankLines 24 [some (.ref (mo X)), some (.int x1), some (.int x2), some (.int x3)] [] σ (mQ X Φ σ)) : jW X.1 X.2.1 jcl X.2.2.1 X.2.2.2.1 (d + 0) y_Mo_dropBlankLines 24 [some (.ref (mo X)), some (.int x1), some (.int x2), some (.int x3)] [] σ (mQ X Φ σ) := by
  unfold w_Mo_dropBlankLines_24 at h
  refine jW.iload_n (dx_Mo_dropBlankLines 16 (e := (24, .iload_n 3, 1)) rfl) rfl rfl (pc' := 25) rfl ?_
  refine jW.if_le (dx_Mo_dropBlankLines 17 (e := (25, .ifCond .le 29, 3)) rfl) 54 (by decide) (pc' := 28) rfl (fun c => ?_) (fun c => ?_)
  · replace h := h.1 c
    exact t_Mo_dropBlankLines_54 F hV h hK2 hK24
  · replace h := h.2 c
    refine jW.aload_n (dx_Mo_dropBlankLines 18 (e := (28, .aload_n 0, 1)) rfl) rfl rfl (pc' := 29) rfl ?_
    refine jW.mga F hV f_Mo_dropBlankLines_29 (by decide) (pc' := 32) rfl ?_
    refine jW.aload_n (dx_Mo_dropBlankLines 20 (e := (32, .aload_n 0, 1)) rfl) rfl rfl (pc' := 33) rfl ?_
    refine jW.mga F hV f_Mo_dropBlankLines_33 (by decide) (pc' := 36) rfl ?_
    refine jW.iload_n (dx_Mo_dropBlankLines 22 (e := (36, .iload_n 1, 1)) rfl) rfl rfl (pc' := 37) rfl ?_
    refine jW.mla F hV (dx_Mo_dropBlankLines 23 (e := (37, .iaload, 1)) rfl) (by decide) rfl h.1 (pc' := 38) rfl ?_
    replace h := h.2
    refine jW.iload_n (dx_Mo_dropBlankLines 24 (e := (38, .iload_n 3, 1)) rfl) rfl rfl (pc' := 39) rfl ?_
    refine jW.iadd (dx_Mo_dropBlankLines 25 (e := (39, .iadd, 1)) rfl) (pc' := 40) rfl ?_
    refine jW.iconst (v := 1) (dx_Mo_dropBlankLines 26 (e := (40, .iconst 1, 1)) rfl) (by decide) (pc' := 41) rfl ?_
    refine jW.isub (dx_Mo_dropBlankLines 27 (e := (41, .isub, 1)) rfl) (pc' := 42) rfl ?_
    refine jW.mla F hV (dx_Mo_dropBlankLines 28 (e := (42, .iaload, 1)) rfl) (by decide) rfl h.1 (pc' := 43) rfl ?_
    replace h := h.2
    refine jW.bipush (v := 32) (dx_Mo_dropBlankLines 29 (e := (43, .bipush 32, 2)) rfl) (by decide) (pc' := 45) rfl ?_
    refine jW.icmp_ne (dx_Mo_dropBlankLines 30 (e := (45, .if_icmp .ne 9, 3)) rfl) 54 (by decide) (pc' := 48) rfl (fun c => ?_) (fun c => ?_)
    · replace h := h.2 c
      exact t_Mo_dropBlankLines_54 F hV h hK2 hK24
    · replace h := h.1 c
      refine jW.iinc (v := _ + (-1)) (dx_Mo_dropBlankLines 31 (e := (48, .iinc 3 (-1), 3)) rfl) rfl rfl (by decide) rfl (pc' := 51) rfl ?_
      refine jW.goto (dx_Mo_dropBlankLines 32 (e := (51, .goto (-27), 3)) rfl) 24 (by decide) ?_
      exact hK24 _ _ _ _ _ hV h
def w_Mo_dropBlankLines_2 (X : MX) (x1 x2 : Int32) (m : MS) (Φ : Option Value → MS → Prop) (K2 : Int32 → Int32 → MS → Prop) (K24 : Int32 → Int32 → Int32 → MS → Prop) : Prop := ((x2 = 0 → w_Mo_dropBlankLines_98 X (x1) (x2) m Φ) ∧ (¬ x2 = 0 → (vp_in (x1) 3300 ∧ ((m.2 19 (x1 : Int32).toNatClampNeg ≤ 0 → w_Mo_dropBlankLines_98 X (x1) (x2) m Φ) ∧ (¬ m.2 19 (x1 : Int32).toNatClampNeg ≤ 0 → (vp_in (x1) 3300 ∧ K24 (x1) (x2) ((m.2 19 (x1 : Int32).toNatClampNeg) - 1) m))))))
theorem t_Mo_dropBlankLines_2 {X : MX} {a0 : Array Value} (F : mF X a0) {d : Nat} {x1 x2 : Int32} {o3 : Option Value} {m : MS} {σ : jS} {Φ : Option Value → MS → Prop} {K2 : Int32 → Int32 → MS → Prop} {K24 : Int32 → Int32 → Int32 → MS → Prop} (hV : MV X m σ) (h : w_Mo_dropBlankLines_2 X x1 x2 m Φ K2 K24) (hK2 : ∀ (x1 x2 : Int32) (o3 : Option Value) (m : MS) (σ : jS), MV X m σ → K2 x1 x2 m → jW X.1 X.2.1 jcl X.2.2.1 X.2.2.2.1 (d + 0) y_Mo_dropBlankLines 2 [some (.ref (mo X)), some (.int x1), some (.int x2), o3] [] σ (mQ X Φ σ)) (hK24 : ∀ (x1 x2 x3 : Int32) (m : MS) (σ : jS), MV X m σ → K24 x1 x2 x3 m → jW X.1 X.2.1 jcl X.2.2.1 X.2.2.2.1 (d + 0) y_Mo_dropBlankLines 24 [some (.ref (mo X)), some (.int x1), some (.int x2), some (.int x3)] [] σ (mQ X Φ σ)) : jW X.1 X.2.1 jcl X.2.2.1 X.2.2.2.1 (d + 0) y_Mo_dropBlankLines 2 [some (.ref (mo X)), some (.int x1), some (.int x2), o3] [] σ (mQ X Φ σ) := by
  unfold w_Mo_dropBlankLines_2 at h
  refine jW.iload_n (dx_Mo_dropBlankLines 2 (e := (2, .iload_n 2, 1)) rfl) rfl rfl (pc' := 3) rfl ?_
  refine jW.if_eq (dx_Mo_dropBlankLines 3 (e := (3, .ifCond .eq 95, 3)) rfl) 98 (by decide) (pc' := 6) rfl (fun c => ?_) (fun c => ?_)
  · replace h := h.1 c
    exact t_Mo_dropBlankLines_98 F hV h
  · replace h := h.2 c
    refine jW.aload_n (dx_Mo_dropBlankLines 4 (e := (6, .aload_n 0, 1)) rfl) rfl rfl (pc' := 7) rfl ?_
    refine jW.mga F hV f_Mo_dropBlankLines_7 (by decide) (pc' := 10) rfl ?_
    refine jW.iload_n (dx_Mo_dropBlankLines 6 (e := (10, .iload_n 1, 1)) rfl) rfl rfl (pc' := 11) rfl ?_
    refine jW.mla F hV (dx_Mo_dropBlankLines 7 (e := (11, .iaload, 1)) rfl) (by decide) rfl h.1 (pc' := 12) rfl ?_
    replace h := h.2
    refine jW.if_le (dx_Mo_dropBlankLines 8 (e := (12, .ifCond .le 86, 3)) rfl) 98 (by decide) (pc' := 15) rfl (fun c => ?_) (fun c => ?_)
    · replace h := h.1 c
      exact t_Mo_dropBlankLines_98 F hV h
    · replace h := h.2 c
      refine jW.aload_n (dx_Mo_dropBlankLines 9 (e := (15, .aload_n 0, 1)) rfl) rfl rfl (pc' := 16) rfl ?_
      refine jW.mga F hV f_Mo_dropBlankLines_16 (by decide) (pc' := 19) rfl ?_
      refine jW.iload_n (dx_Mo_dropBlankLines 11 (e := (19, .iload_n 1, 1)) rfl) rfl rfl (pc' := 20) rfl ?_
      refine jW.mla F hV (dx_Mo_dropBlankLines 12 (e := (20, .iaload, 1)) rfl) (by decide) rfl h.1 (pc' := 21) rfl ?_
      replace h := h.2
      refine jW.iconst (v := 1) (dx_Mo_dropBlankLines 13 (e := (21, .iconst 1, 1)) rfl) (by decide) (pc' := 22) rfl ?_
      refine jW.isub (dx_Mo_dropBlankLines 14 (e := (22, .isub, 1)) rfl) (pc' := 23) rfl ?_
      refine jW.istore_n (dx_Mo_dropBlankLines 15 (e := (23, .istore_n 3, 1)) rfl) rfl (by decide) rfl (pc' := 24) rfl ?_
      exact hK24 _ _ _ _ _ hV h
def w_Mo_dropBlankLines_0 (X : MX) (x1 : Int32) (m : MS) (Φ : Option Value → MS → Prop) (K2 : Int32 → Int32 → MS → Prop) (K24 : Int32 → Int32 → Int32 → MS → Prop) : Prop := K2 (x1) (1) m
theorem t_Mo_dropBlankLines_0 {X : MX} {a0 : Array Value} (F : mF X a0) {d : Nat} {x1 : Int32} {o2 o3 : Option Value} {m : MS} {σ : jS} {Φ : Option Value → MS → Prop} {K2 : Int32 → Int32 → MS → Prop} {K24 : Int32 → Int32 → Int32 → MS → Prop} (hV : MV X m σ) (h : w_Mo_dropBlankLines_0 X x1 m Φ K2 K24) (hK2 : ∀ (x1 x2 : Int32) (o3 : Option Value) (m : MS) (σ : jS), MV X m σ → K2 x1 x2 m → jW X.1 X.2.1 jcl X.2.2.1 X.2.2.2.1 (d + 0) y_Mo_dropBlankLines 2 [some (.ref (mo X)), some (.int x1), some (.int x2), o3] [] σ (mQ X Φ σ)) (hK24 : ∀ (x1 x2 x3 : Int32) (m : MS) (σ : jS), MV X m σ → K24 x1 x2 x3 m → jW X.1 X.2.1 jcl X.2.2.1 X.2.2.2.1 (d + 0) y_Mo_dropBlankLines 24 [some (.ref (mo X)), some (.int x1), some (.int x2), some (.int x3)] [] σ (mQ X Φ σ)) : jW X.1 X.2.1 jcl X.2.2.1 X.2.2.2.1 (d + 0) y_Mo_dropBlankLines 0 [some (.ref (mo X)), some (.int x1), o2, o3] [] σ (mQ X Φ σ) := by
  unfold w_Mo_dropBlankLines_0 at h
  refine jW.iconst (v := 1) (dx_Mo_dropBlankLines 0 (e := (0, .iconst 1, 1)) rfl) (by decide) (pc' := 1) rfl ?_
  refine jW.istore_n (dx_Mo_dropBlankLines 1 (e := (1, .istore_n 2, 1)) rfl) rfl (by decide) rfl (pc' := 2) rfl ?_
  exact hK2 _ _ _ _ _ hV h
theorem g_Mo_dropBlankLines {X : MX} {a0 : Array Value} (F : mF X a0) {x1 : Int32} {m : MS} {Φ : Option Value → MS → Prop} {I2 : Nat → Int32 → Int32 → MS → Prop} {I24 : Nat → Int32 → Int32 → Int32 → MS → Prop} (he : w_Mo_dropBlankLines_0 X x1 m Φ (fun x1 x2 m => ∃ j, I2 j x1 x2 m) (fun x1 x2 x3 m => ∃ j, I24 j x1 x2 x3 m)) (h2 : ∀ (n : Nat) (x1 x2 : Int32) (m : MS), I2 n x1 x2 m → w_Mo_dropBlankLines_2 X x1 x2 m Φ (fun x1 x2 m => ∃ j, j < n ∧ I2 j x1 x2 m) (fun x1 x2 x3 m => ∃ j, j < n ∧ I24 j x1 x2 x3 m)) (h24 : ∀ (n : Nat) (x1 x2 x3 : Int32) (m : MS), I24 n x1 x2 x3 m → w_Mo_dropBlankLines_24 X x1 x2 x3 m Φ (fun x1 x2 m => ∃ j, j < n ∧ I2 j x1 x2 m) (fun x1 x2 x3 m => ∃ j, j < n ∧ I24 j x1 x2 x3 m)) : mE X 0 y_Mo_dropBlankLines [.ref (mo X), .int x1] m Φ := by
  intro d σ hV
  have hL2 : ∀ n, (∀ (x1 x2 : Int32) (o3 : Option Value) (m : MS) (σ : jS), MV X m σ → I2 n x1 x2 m → jW X.1 X.2.1 jcl X.2.2.1 X.2.2.2.1 (d + 0) y_Mo_dropBlankLines 2 [some (.ref (mo X)), some (.int x1), some (.int x2), o3] [] σ (mQ X Φ σ)) ∧ (∀ (x1 x2 x3 : Int32) (m : MS) (σ : jS), MV X m σ → I24 n x1 x2 x3 m → jW X.1 X.2.1 jcl X.2.2.1 X.2.2.2.1 (d + 0) y_Mo_dropBlankLines 24 [some (.ref (mo X)), some (.int x1), some (.int x2), some (.int x3)] [] σ (mQ X Φ σ)) := by
    intro n
    induction n using Nat.strongRecOn with
    | _ n ih =>
      exact ⟨fun x1 x2 o3 m σ hV hI => t_Mo_dropBlankLines_2 F hV (h2 n x1 x2 m hI) (fun x1 x2 o3 m σ hV ⟨j, hj, hI⟩ => (ih j hj).1 x1 x2 o3 m σ hV hI) (fun x1 x2 x3 m σ hV ⟨j, hj, hI⟩ => (ih j hj).2 x1 x2 x3 m σ hV hI), fun x1 x2 x3 m σ hV hI => t_Mo_dropBlankLines_24 F hV (h24 n x1 x2 x3 m hI) (fun x1 x2 o3 m σ hV ⟨j, hj, hI⟩ => (ih j hj).1 x1 x2 o3 m σ hV hI) (fun x1 x2 x3 m σ hV ⟨j, hj, hI⟩ => (ih j hj).2 x1 x2 x3 m σ hV hI)⟩
  refine jE.of (by decide) (by simp [Value.category]) (Nat.le_of_ble_eq_true rfl) rfl ?_
  exact t_Mo_dropBlankLines_0 F hV he (fun x1 x2 o3 m σ hV ⟨j, hI⟩ => (hL2 j).1 x1 x2 o3 m σ hV hI) (fun x1 x2 x3 m σ hV ⟨j, hI⟩ => (hL2 j).2 x1 x2 x3 m σ hV hI)
def w_Mo_beginning_199 (X : MX) (x1 x2 x3 x4 x5 : Int32) (m : MS) (Φ : Option Value → MS → Prop) : Prop := Φ (some (.int (0))) m
theorem t_Mo_beginning_199 {X : MX} {a0 : Array Value} (F : mF X a0) {d : Nat} {x1 x2 x3 x4 x5 : Int32} {o6 : Option Value} {m : MS} {σ : jS} {Φ : Option Value → MS → Prop} (hV : MV X m σ) (h : w_Mo_beginning_199 X x1 x2 x3 x4 x5 m Φ) : jW X.1 X.2.1 jcl X.2.2.1 X.2.2.2.1 (d + 9) y_Mo_beginning 199 [some (.ref (mo X)), some (.int x1), some (.int x2), some (.int x3), some (.int x4), some (.int x5), o6] [] σ (mQ X Φ σ) := by
  unfold w_Mo_beginning_199 at h
  refine jW.iconst (v := 0) (dx_Mo_beginning 113 (e := (199, .iconst 0, 1)) rfl) (by decide) (pc' := 200) rfl ?_
  exact jW.zret (dx_Mo_beginning 114 (e := (200, .ireturn, 1)) rfl) rfl (by decide) ⟨FR.rfl, _, hV, h⟩
def w_Mo_beginning_175 (X : MX) (x1 x2 x3 x4 x5 s1 : Int32) (m : MS) (Φ : Option Value → MS → Prop) : Prop := (vp_in (s1) 3300 ∧ ((m.2 13 (s1 : Int32).toNatClampNeg = 4 → w_Mo_beginning_199 X (x1) (x2) (x3) (x4) (x5) m Φ) ∧ (¬ m.2 13 (s1 : Int32).toNatClampNeg = 4 → mE X 7 y_Mo_begin [.ref (mo X), .int (7), .int (x2)] m (iP fun r1 m1 => ∀ m2, m2 = mI m1 31 ((m1.1 31) + 4) → w_Mo_beginning_199 X (x1) (x2) (x3) (x4) (x5) m2 Φ))))
theorem t_Mo_beginning_175 {X : MX} {a0 : Array Value} (F : mF X a0) {d : Nat} {x1 x2 x3 x4 x5 s1 : Int32} {o6 : Option Value} {m : MS} {σ : jS} {Φ : Option Value → MS → Prop} (hV : MV X m σ) (h : w_Mo_beginning_175 X x1 x2 x3 x4 x5 s1 m Φ) : jW X.1 X.2.1 jcl X.2.2.1 X.2.2.2.1 (d + 9) y_Mo_beginning 175 [some (.ref (mo X)), some (.int x1), some (.int x2), some (.int x3), some (.int x4), some (.int x5), o6] [.int s1, .ref (ar X 13)] σ (mQ X Φ σ) := by
  unfold w_Mo_beginning_175 at h
  refine jW.mla F hV (dx_Mo_beginning 99 (e := (175, .iaload, 1)) rfl) (by decide) rfl h.1 (pc' := 176) rfl ?_
  replace h := h.2
  refine jW.iconst (v := 4) (dx_Mo_beginning 100 (e := (176, .iconst 4, 1)) rfl) (by decide) (pc' := 177) rfl ?_
  refine jW.icmp_eq (dx_Mo_beginning 101 (e := (177, .if_icmp .eq 22, 3)) rfl) 199 (by decide) (pc' := 180) rfl (fun c => ?_) (fun c => ?_)
  · replace h := h.1 c
    exact t_Mo_beginning_199 F hV h
  · replace h := h.2 c
    refine jW.aload_n (dx_Mo_beginning 102 (e := (180, .aload_n 0, 1)) rfl) rfl rfl (pc' := 181) rfl ?_
    refine jW.bipush (v := 7) (dx_Mo_beginning 103 (e := (181, .bipush 7, 2)) rfl) (by decide) (pc' := 183) rfl ?_
    refine jW.iload_n (dx_Mo_beginning 104 (e := (183, .iload_n 2, 1)) rfl) rfl rfl (pc' := 184) rfl ?_
    refine jW.callVe F (h (d + 1) _ hV) (dx_Mo_beginning 105 (e := (184, .invokevirtual 186, 3)) rfl) can_Mo_begin jw_1312 jw_1314 hV.cl rfl sel_Mo_begin rfl rfl (Nat.le_of_ble_eq_true rfl) (pc' := 187) rfl (fun r σ hr => ?_)
    clear hV
    refine mQ.up hr.1 ?_
    obtain ⟨_, hV, _, rfl, h⟩ := hr.2
    refine jW.istore (dx_Mo_beginning 106 (e := (187, .istore 6, 2)) rfl) (by decide) rfl (pc' := 189) rfl ?_
    refine jW.aload_n (dx_Mo_beginning 107 (e := (189, .aload_n 0, 1)) rfl) rfl rfl (pc' := 190) rfl ?_
    refine jW.dup (dx_Mo_beginning 108 (e := (190, .dup, 1)) rfl) rfl (pc' := 191) rfl ?_
    refine jW.mgi F hV f_Mo_beginning_191 (by decide) (pc' := 194) rfl ?_
    refine jW.iconst (v := 4) (dx_Mo_beginning 110 (e := (194, .iconst 4, 1)) rfl) (by decide) (pc' := 195) rfl ?_
    refine jW.iadd (dx_Mo_beginning 111 (e := (195, .iadd, 1)) rfl) (pc' := 196) rfl ?_
    refine jW.mpi F hV f_Mo_beginning_196 (by decide) rfl rfl rfl (pc' := 199) rfl (fun σ hV => ?_)
    replace h := h _ rfl
    exact t_Mo_beginning_199 F hV h
def w_Mo_beginning_72 (X : MX) (x1 x2 x3 x4 : Int32) (m : MS) (Φ : Option Value → MS → Prop) : Prop := ((m.1 34 = 0 → mE X 1 y_Mo_isRule [.ref (mo X), .int (x3)] m (iP fun r1 m1 => ((r1 = 0 → mE X 1 y_Mo_mark [.ref (mo X), .int (x3)] m1 (iP fun r2 m2 => ((r2 ≤ 0 → ((x3 ≤ 3 → w_Mo_beginning_199 X (x1) (x2) (x3) (x4) (r2) m2 Φ) ∧ (¬ x3 ≤ 3 → mE X 0 y_Mo_isBlank [.ref (mo X), .int (m2.1 31)] m2 (iP fun r3 m3 => ((r3 = 0 → ((m3.1 33 = 0 → w_Mo_beginning_175 X (x1) (x2) (x3) (x4) (r2) (x1) m3 Φ) ∧ (¬ m3.1 33 = 0 → (vp_in (m3.1 32) 40 ∧ w_Mo_beginning_175 X (x1) (x2) (x3) (x4) (r2) (m3.2 29 (m3.1 32 : Int32).toNatClampNeg) m3 Φ)))) ∧ (¬ r3 = 0 → w_Mo_beginning_199 X (x1) (x2) (x3) (x4) (r2) m3 Φ)))))) ∧ (¬ r2 ≤ 0 → mE X 8 y_Mo_beginItem [.ref (mo X), .int (x3), .int (r2), .int (x2)] m2 (vP fun m4 => Φ (some (.int (1))) m4))))) ∧ (¬ r1 = 0 → mE X 7 y_Mo_begin [.ref (mo X), .int (6), .int (x2)] m1 (iP fun r5 m5 => ∀ m6, m6 = mI m5 34 (1) → mE X 6 y_Mo_closeTo [.ref (mo X), .int (m6.1 32)] m6 (vP fun m7 => Φ (some (.int (0))) m7)))))) ∧ (¬ m.1 34 = 0 → Φ (some (.int (0))) m))
theorem t_Mo_beginning_72 {X : MX} {a0 : Array Value} (F : mF X a0) {d : Nat} {x1 x2 x3 x4 : Int32} {o5 o6 : Option Value} {m : MS} {σ : jS} {Φ : Option Value → MS → Prop} (hV : MV X m σ) (h : w_Mo_beginning_72 X x1 x2 x3 x4 m Φ) : jW X.1 X.2.1 jcl X.2.2.1 X.2.2.2.1 (d + 9) y_Mo_beginning 72 [some (.ref (mo X)), some (.int x1), some (.int x2), some (.int x3), some (.int x4), o5, o6] [] σ (mQ X Φ σ) := by
  unfold w_Mo_beginning_72 at h
  refine jW.aload_n (dx_Mo_beginning 43 (e := (72, .aload_n 0, 1)) rfl) rfl rfl (pc' := 73) rfl ?_
  refine jW.mgi F hV f_Mo_beginning_73 (by decide) (pc' := 76) rfl ?_
  refine jW.if_eq (dx_Mo_beginning 45 (e := (76, .ifCond .eq 5, 3)) rfl) 81 (by decide) (pc' := 79) rfl (fun c => ?_) (fun c => ?_)
  · replace h := h.1 c
    refine jW.aload_n (dx_Mo_beginning 48 (e := (81, .aload_n 0, 1)) rfl) rfl rfl (pc' := 82) rfl ?_
    refine jW.iload_n (dx_Mo_beginning 49 (e := (82, .iload_n 3, 1)) rfl) rfl rfl (pc' := 83) rfl ?_
    refine jW.callVe F (h (d + 7) _ hV) (dx_Mo_beginning 50 (e := (83, .invokevirtual 229, 3)) rfl) can_Mo_isRule jw_1352 jw_1354 hV.cl rfl sel_Mo_isRule rfl rfl (Nat.le_of_ble_eq_true rfl) (pc' := 86) rfl (fun r σ hr => ?_)
    clear hV
    refine mQ.up hr.1 ?_
    obtain ⟨_, hV, _, rfl, h⟩ := hr.2
    refine jW.if_eq (dx_Mo_beginning 51 (e := (86, .ifCond .eq 27, 3)) rfl) 113 (by decide) (pc' := 89) rfl (fun c => ?_) (fun c => ?_)
    · replace h := h.1 c
      refine jW.aload_n (dx_Mo_beginning 66 (e := (113, .aload_n 0, 1)) rfl) rfl rfl (pc' := 114) rfl ?_
      refine jW.iload_n (dx_Mo_beginning 67 (e := (114, .iload_n 3, 1)) rfl) rfl rfl (pc' := 115) rfl ?_
      refine jW.callVe F (h (d + 7) _ hV) (dx_Mo_beginning 68 (e := (115, .invokevirtual 232, 3)) rfl) can_Mo_mark jw_1356 jw_1358 hV.cl rfl sel_Mo_mark rfl rfl (Nat.le_of_ble_eq_true rfl) (pc' := 118) rfl (fun r σ hr => ?_)
      clear hV
      refine mQ.up hr.1 ?_
      obtain ⟨_, hV, _, rfl, h⟩ := hr.2
      refine jW.istore (dx_Mo_beginning 69 (e := (118, .istore 5, 2)) rfl) (by decide) rfl (pc' := 120) rfl ?_
      refine jW.iload (dx_Mo_beginning 70 (e := (120, .iload 5, 2)) rfl) rfl (pc' := 122) rfl ?_
      refine jW.if_le (dx_Mo_beginning 71 (e := (122, .ifCond .le 13, 3)) rfl) 135 (by decide) (pc' := 125) rfl (fun c => ?_) (fun c => ?_)
      · replace h := h.1 c
        refine jW.iload_n (dx_Mo_beginning 79 (e := (135, .iload_n 3, 1)) rfl) rfl rfl (pc' := 136) rfl ?_
        refine jW.iconst (v := 3) (dx_Mo_beginning 80 (e := (136, .iconst 3, 1)) rfl) (by decide) (pc' := 137) rfl ?_
        refine jW.icmp_le (dx_Mo_beginning 81 (e := (137, .if_icmp .le 62, 3)) rfl) 199 (by decide) (pc' := 140) rfl (fun c => ?_) (fun c => ?_)
        · replace h := h.1 c
          exact t_Mo_beginning_199 F hV h
        · replace h := h.2 c
          refine jW.aload_n (dx_Mo_beginning 82 (e := (140, .aload_n 0, 1)) rfl) rfl rfl (pc' := 141) rfl ?_
          refine jW.aload_n (dx_Mo_beginning 83 (e := (141, .aload_n 0, 1)) rfl) rfl rfl (pc' := 142) rfl ?_
          refine jW.mgi F hV f_Mo_beginning_142 (by decide) (pc' := 145) rfl ?_
          refine jW.callVe F (h (d + 8) _ hV) (dx_Mo_beginning 85 (e := (145, .invokevirtual 137, 3)) rfl) can_Mo_isBlank jw_1190 jw_1192 hV.cl rfl sel_Mo_isBlank rfl rfl (Nat.le_of_ble_eq_true rfl) (pc' := 148) rfl (fun r σ hr => ?_)
          clear hV
          refine mQ.up hr.1 ?_
          obtain ⟨_, hV, _, rfl, h⟩ := hr.2
          refine jW.if_ne (dx_Mo_beginning 86 (e := (148, .ifCond .ne 51, 3)) rfl) 199 (by decide) (pc' := 151) rfl (fun c => ?_) (fun c => ?_)
          · replace h := h.2 c
            exact t_Mo_beginning_199 F hV h
          · replace h := h.1 c
            refine jW.aload_n (dx_Mo_beginning 87 (e := (151, .aload_n 0, 1)) rfl) rfl rfl (pc' := 152) rfl ?_
            refine jW.mga F hV f_Mo_beginning_152 (by decide) (pc' := 155) rfl ?_
            refine jW.aload_n (dx_Mo_beginning 89 (e := (155, .aload_n 0, 1)) rfl) rfl rfl (pc' := 156) rfl ?_
            refine jW.mgi F hV f_Mo_beginning_156 (by decide) (pc' := 159) rfl ?_
            refine jW.if_eq (dx_Mo_beginning 91 (e := (159, .ifCond .eq 15, 3)) rfl) 174 (by decide) (pc' := 162) rfl (fun c => ?_) (fun c => ?_)
            · replace h := h.1 c
              refine jW.iload_n (dx_Mo_beginning 98 (e := (174, .iload_n 1, 1)) rfl) rfl rfl (pc' := 175) rfl ?_
              exact t_Mo_beginning_175 F hV h
            · replace h := h.2 c
              refine jW.aload_n (dx_Mo_beginning 92 (e := (162, .aload_n 0, 1)) rfl) rfl rfl (pc' := 163) rfl ?_
              refine jW.mga F hV f_Mo_beginning_163 (by decide) (pc' := 166) rfl ?_
              refine jW.aload_n (dx_Mo_beginning 94 (e := (166, .aload_n 0, 1)) rfl) rfl rfl (pc' := 167) rfl ?_
              refine jW.mgi F hV f_Mo_beginning_167 (by decide) (pc' := 170) rfl ?_
              refine jW.mla F hV (dx_Mo_beginning 96 (e := (170, .iaload, 1)) rfl) (by decide) rfl h.1 (pc' := 171) rfl ?_
              replace h := h.2
              refine jW.goto (dx_Mo_beginning 97 (e := (171, .goto 4, 3)) rfl) 175 (by decide) ?_
              exact t_Mo_beginning_175 F hV h
      · replace h := h.2 c
        refine jW.aload_n (dx_Mo_beginning 72 (e := (125, .aload_n 0, 1)) rfl) rfl rfl (pc' := 126) rfl ?_
        refine jW.iload_n (dx_Mo_beginning 73 (e := (126, .iload_n 3, 1)) rfl) rfl rfl (pc' := 127) rfl ?_
        refine jW.iload (dx_Mo_beginning 74 (e := (127, .iload 5, 2)) rfl) rfl (pc' := 129) rfl ?_
        refine jW.iload_n (dx_Mo_beginning 75 (e := (129, .iload_n 2, 1)) rfl) rfl rfl (pc' := 130) rfl ?_
        refine jW.callVe F (h (d + 0) _ hV) (dx_Mo_beginning 76 (e := (130, .invokevirtual 235, 3)) rfl) can_Mo_beginItem jw_1360 jw_1362 hV.cl rfl sel_Mo_beginItem rfl rfl (Nat.le_of_ble_eq_true rfl) (pc' := 133) rfl (fun r σ hr => ?_)
        clear hV
        refine mQ.up hr.1 ?_
        obtain ⟨_, hV, rfl, h⟩ := hr.2
        refine jW.iconst (v := 1) (dx_Mo_beginning 77 (e := (133, .iconst 1, 1)) rfl) (by decide) (pc' := 134) rfl ?_
        exact jW.zret (dx_Mo_beginning 78 (e := (134, .ireturn, 1)) rfl) rfl (by decide) ⟨FR.rfl, _, hV, h⟩
    · replace h := h.2 c
      refine jW.aload_n (dx_Mo_beginning 52 (e := (89, .aload_n 0, 1)) rfl) rfl rfl (pc' := 90) rfl ?_
      refine jW.bipush (v := 6) (dx_Mo_beginning 53 (e := (90, .bipush 6, 2)) rfl) (by decide) (pc' := 92) rfl ?_
      refine jW.iload_n (dx_Mo_beginning 54 (e := (92, .iload_n 2, 1)) rfl) rfl rfl (pc' := 93) rfl ?_
      refine jW.callVe F (h (d + 1) _ hV) (dx_Mo_beginning 55 (e := (93, .invokevirtual 186, 3)) rfl) can_Mo_begin jw_1312 jw_1314 hV.cl rfl sel_Mo_begin rfl rfl (Nat.le_of_ble_eq_true rfl) (pc' := 96) rfl (fun r σ hr => ?_)
      clear hV
      refine mQ.up hr.1 ?_
      obtain ⟨_, hV, _, rfl, h⟩ := hr.2
      refine jW.istore (dx_Mo_beginning 56 (e := (96, .istore 5, 2)) rfl) (by decide) rfl (pc' := 98) rfl ?_
      refine jW.aload_n (dx_Mo_beginning 57 (e := (98, .aload_n 0, 1)) rfl) rfl rfl (pc' := 99) rfl ?_
      refine jW.iconst (v := 1) (dx_Mo_beginning 58 (e := (99, .iconst 1, 1)) rfl) (by decide) (pc' := 100) rfl ?_
      refine jW.mpi F hV f_Mo_beginning_100 (by decide) rfl rfl rfl (pc' := 103) rfl (fun σ hV => ?_)
      replace h := h _ rfl
      refine jW.aload_n (dx_Mo_beginning 60 (e := (103, .aload_n 0, 1)) rfl) rfl rfl (pc' := 104) rfl ?_
      refine jW.aload_n (dx_Mo_beginning 61 (e := (104, .aload_n 0, 1)) rfl) rfl rfl (pc' := 105) rfl ?_
      refine jW.mgi F hV f_Mo_beginning_105 (by decide) (pc' := 108) rfl ?_
      refine jW.callVe F (h (d + 2) _ hV) (dx_Mo_beginning 63 (e := (108, .invokevirtual 171, 3)) rfl) can_Mo_closeTo jw_1202 jw_1204 hV.cl rfl sel_Mo_closeTo rfl rfl (Nat.le_of_ble_eq_true rfl) (pc' := 111) rfl (fun r σ hr => ?_)
      clear hV
      refine mQ.up hr.1 ?_
      obtain ⟨_, hV, rfl, h⟩ := hr.2
      refine jW.iconst (v := 0) (dx_Mo_beginning 64 (e := (111, .iconst 0, 1)) rfl) (by decide) (pc' := 112) rfl ?_
      exact jW.zret (dx_Mo_beginning 65 (e := (112, .ireturn, 1)) rfl) rfl (by decide) ⟨FR.rfl, _, hV, h⟩
  · replace h := h.2 c
    refine jW.iconst (v := 0) (dx_Mo_beginning 46 (e := (79, .iconst 0, 1)) rfl) (by decide) (pc' := 80) rfl ?_
    exact jW.zret (dx_Mo_beginning 47 (e := (80, .ireturn, 1)) rfl) rfl (by decide) ⟨FR.rfl, _, hV, h⟩
def w_Mo_beginning_0 (X : MX) (x1 x2 : Int32) (m : MS) (Φ : Option Value → MS → Prop) : Prop := mE X 0 y_Mo_indent [.ref (mo X)] m (iP fun r1 m1 => mE X 1 y_Mo_isQuote [.ref (mo X), .int (r1)] m1 (iP fun r2 m2 => ((r2 = 0 → mE X 2 y_Mo_isHash [.ref (mo X), .int (r1)] m2 (iP fun r3 m3 => ((r3 = 0 → mE X 2 y_Mo_isFence [.ref (mo X), .int (r1)] m3 (iP fun r4 m4 => ((r4 = 0 → mE X 2 y_Mo_underline [.ref (mo X), .int (r1)] m4 (iP fun r5 m5 => ((r5 ≤ 0 → w_Mo_beginning_72 X (x1) (x2) (r1) (r5) m5 Φ) ∧ (¬ r5 ≤ 0 → mE X 7 y_Mo_makeHeading [.ref (mo X), .int (r5), .int (x2)] m5 (vP fun m6 => w_Mo_beginning_72 X (x1) (x2) (r1) (r5) m6 Φ))))) ∧ (¬ r4 = 0 → mE X 8 y_Mo_beginFence [.ref (mo X), .int (r1), .int (x2)] m4 (vP fun m7 => Φ (some (.int (0))) m7))))) ∧ (¬ r3 = 0 → mE X 8 y_Mo_beginHeading [.ref (mo X), .int (r1), .int (x2)] m3 (vP fun m8 => Φ (some (.int (0))) m8))))) ∧ (¬ r2 = 0 → mE X 8 y_Mo_beginQuote [.ref (mo X), .int (r1), .int (x2)] m2 (vP fun m9 => Φ (some (.int (1))) m9)))))
theorem t_Mo_beginning_0 {X : MX} {a0 : Array Value} (F : mF X a0) {d : Nat} {x1 x2 : Int32} {o3 o4 o5 o6 : Option Value} {m : MS} {σ : jS} {Φ : Option Value → MS → Prop} (hV : MV X m σ) (h : w_Mo_beginning_0 X x1 x2 m Φ) : jW X.1 X.2.1 jcl X.2.2.1 X.2.2.2.1 (d + 9) y_Mo_beginning 0 [some (.ref (mo X)), some (.int x1), some (.int x2), o3, o4, o5, o6] [] σ (mQ X Φ σ) := by
  unfold w_Mo_beginning_0 at h
  refine jW.aload_n (dx_Mo_beginning 0 (e := (0, .aload_n 0, 1)) rfl) rfl rfl (pc' := 1) rfl ?_
  refine jW.callVe F (h (d + 8) _ hV) (dx_Mo_beginning 1 (e := (1, .invokevirtual 133, 3)) rfl) can_Mo_indent jw_1186 jw_1188 hV.cl rfl sel_Mo_indent rfl rfl (Nat.le_of_ble_eq_true rfl) (pc' := 4) rfl (fun r σ hr => ?_)
  clear hV
  refine mQ.up hr.1 ?_
  obtain ⟨_, hV, _, rfl, h⟩ := hr.2
  refine jW.istore_n (dx_Mo_beginning 2 (e := (4, .istore_n 3, 1)) rfl) rfl (by decide) rfl (pc' := 5) rfl ?_
  refine jW.aload_n (dx_Mo_beginning 3 (e := (5, .aload_n 0, 1)) rfl) rfl rfl (pc' := 6) rfl ?_
  refine jW.iload_n (dx_Mo_beginning 4 (e := (6, .iload_n 3, 1)) rfl) rfl rfl (pc' := 7) rfl ?_
  refine jW.callVe F (h (d + 7) _ hV) (dx_Mo_beginning 5 (e := (7, .invokevirtual 204, 3)) rfl) can_Mo_isQuote jw_1304 jw_1306 hV.cl rfl sel_Mo_isQuote rfl rfl (Nat.le_of_ble_eq_true rfl) (pc' := 10) rfl (fun r σ hr => ?_)
  clear hV
  refine mQ.up hr.1 ?_
  obtain ⟨_, hV, _, rfl, h⟩ := hr.2
  refine jW.if_eq (dx_Mo_beginning 6 (e := (10, .ifCond .eq 11, 3)) rfl) 21 (by decide) (pc' := 13) rfl (fun c => ?_) (fun c => ?_)
  · replace h := h.1 c
    refine jW.aload_n (dx_Mo_beginning 13 (e := (21, .aload_n 0, 1)) rfl) rfl rfl (pc' := 22) rfl ?_
    refine jW.iload_n (dx_Mo_beginning 14 (e := (22, .iload_n 3, 1)) rfl) rfl rfl (pc' := 23) rfl ?_
    refine jW.callVe F (h (d + 6) _ hV) (dx_Mo_beginning 15 (e := (23, .invokevirtual 211, 3)) rfl) can_Mo_isHash jw_1324 jw_1326 hV.cl rfl sel_Mo_isHash rfl rfl (Nat.le_of_ble_eq_true rfl) (pc' := 26) rfl (fun r σ hr => ?_)
    clear hV
    refine mQ.up hr.1 ?_
    obtain ⟨_, hV, _, rfl, h⟩ := hr.2
    refine jW.if_eq (dx_Mo_beginning 16 (e := (26, .ifCond .eq 11, 3)) rfl) 37 (by decide) (pc' := 29) rfl (fun c => ?_) (fun c => ?_)
    · replace h := h.1 c
      refine jW.aload_n (dx_Mo_beginning 23 (e := (37, .aload_n 0, 1)) rfl) rfl rfl (pc' := 38) rfl ?_
      refine jW.iload_n (dx_Mo_beginning 24 (e := (38, .iload_n 3, 1)) rfl) rfl rfl (pc' := 39) rfl ?_
      refine jW.callVe F (h (d + 6) _ hV) (dx_Mo_beginning 25 (e := (39, .invokevirtual 217, 3)) rfl) can_Mo_isFence jw_1336 jw_1338 hV.cl rfl sel_Mo_isFence rfl rfl (Nat.le_of_ble_eq_true rfl) (pc' := 42) rfl (fun r σ hr => ?_)
      clear hV
      refine mQ.up hr.1 ?_
      obtain ⟨_, hV, _, rfl, h⟩ := hr.2
      refine jW.if_eq (dx_Mo_beginning 26 (e := (42, .ifCond .eq 11, 3)) rfl) 53 (by decide) (pc' := 45) rfl (fun c => ?_) (fun c => ?_)
      · replace h := h.1 c
        refine jW.aload_n (dx_Mo_beginning 33 (e := (53, .aload_n 0, 1)) rfl) rfl rfl (pc' := 54) rfl ?_
        refine jW.iload_n (dx_Mo_beginning 34 (e := (54, .iload_n 3, 1)) rfl) rfl rfl (pc' := 55) rfl ?_
        refine jW.callVe F (h (d + 6) _ hV) (dx_Mo_beginning 35 (e := (55, .invokevirtual 223, 3)) rfl) can_Mo_underline jw_1344 jw_1346 hV.cl rfl sel_Mo_underline rfl rfl (Nat.le_of_ble_eq_true rfl) (pc' := 58) rfl (fun r σ hr => ?_)
        clear hV
        refine mQ.up hr.1 ?_
        obtain ⟨_, hV, _, rfl, h⟩ := hr.2
        refine jW.istore (dx_Mo_beginning 36 (e := (58, .istore 4, 2)) rfl) (by decide) rfl (pc' := 60) rfl ?_
        refine jW.iload (dx_Mo_beginning 37 (e := (60, .iload 4, 2)) rfl) rfl (pc' := 62) rfl ?_
        refine jW.if_le (dx_Mo_beginning 38 (e := (62, .ifCond .le 10, 3)) rfl) 72 (by decide) (pc' := 65) rfl (fun c => ?_) (fun c => ?_)
        · replace h := h.1 c
          exact t_Mo_beginning_72 F hV h
        · replace h := h.2 c
          refine jW.aload_n (dx_Mo_beginning 39 (e := (65, .aload_n 0, 1)) rfl) rfl rfl (pc' := 66) rfl ?_
          refine jW.iload (dx_Mo_beginning 40 (e := (66, .iload 4, 2)) rfl) rfl (pc' := 68) rfl ?_
          refine jW.iload_n (dx_Mo_beginning 41 (e := (68, .iload_n 2, 1)) rfl) rfl rfl (pc' := 69) rfl ?_
          refine jW.callVe F (h (d + 1) _ hV) (dx_Mo_beginning 42 (e := (69, .invokevirtual 226, 3)) rfl) can_Mo_makeHeading jw_1348 jw_1350 hV.cl rfl sel_Mo_makeHeading rfl rfl (Nat.le_of_ble_eq_true rfl) (pc' := 72) rfl (fun r σ hr => ?_)
          clear hV
          refine mQ.up hr.1 ?_
          obtain ⟨_, hV, rfl, h⟩ := hr.2
          exact t_Mo_beginning_72 F hV h
      · replace h := h.2 c
        refine jW.aload_n (dx_Mo_beginning 27 (e := (45, .aload_n 0, 1)) rfl) rfl rfl (pc' := 46) rfl ?_
        refine jW.iload_n (dx_Mo_beginning 28 (e := (46, .iload_n 3, 1)) rfl) rfl rfl (pc' := 47) rfl ?_
        refine jW.iload_n (dx_Mo_beginning 29 (e := (47, .iload_n 2, 1)) rfl) rfl rfl (pc' := 48) rfl ?_
        refine jW.callVe F (h (d + 0) _ hV) (dx_Mo_beginning 30 (e := (48, .invokevirtual 220, 3)) rfl) can_Mo_beginFence jw_1340 jw_1342 hV.cl rfl sel_Mo_beginFence rfl rfl (Nat.le_of_ble_eq_true rfl) (pc' := 51) rfl (fun r σ hr => ?_)
        clear hV
        refine mQ.up hr.1 ?_
        obtain ⟨_, hV, rfl, h⟩ := hr.2
        refine jW.iconst (v := 0) (dx_Mo_beginning 31 (e := (51, .iconst 0, 1)) rfl) (by decide) (pc' := 52) rfl ?_
        exact jW.zret (dx_Mo_beginning 32 (e := (52, .ireturn, 1)) rfl) rfl (by decide) ⟨FR.rfl, _, hV, h⟩
    · replace h := h.2 c
      refine jW.aload_n (dx_Mo_beginning 17 (e := (29, .aload_n 0, 1)) rfl) rfl rfl (pc' := 30) rfl ?_
      refine jW.iload_n (dx_Mo_beginning 18 (e := (30, .iload_n 3, 1)) rfl) rfl rfl (pc' := 31) rfl ?_
      refine jW.iload_n (dx_Mo_beginning 19 (e := (31, .iload_n 2, 1)) rfl) rfl rfl (pc' := 32) rfl ?_
      refine jW.callVe F (h (d + 0) _ hV) (dx_Mo_beginning 20 (e := (32, .invokevirtual 214, 3)) rfl) can_Mo_beginHeading jw_1328 jw_1330 hV.cl rfl sel_Mo_beginHeading rfl rfl (Nat.le_of_ble_eq_true rfl) (pc' := 35) rfl (fun r σ hr => ?_)
      clear hV
      refine mQ.up hr.1 ?_
      obtain ⟨_, hV, rfl, h⟩ := hr.2
      refine jW.iconst (v := 0) (dx_Mo_beginning 21 (e := (35, .iconst 0, 1)) rfl) (by decide) (pc' := 36) rfl ?_
      exact jW.zret (dx_Mo_beginning 22 (e := (36, .ireturn, 1)) rfl) rfl (by decide) ⟨FR.rfl, _, hV, h⟩
  · replace h := h.2 c
    refine jW.aload_n (dx_Mo_beginning 7 (e := (13, .aload_n 0, 1)) rfl) rfl rfl (pc' := 14) rfl ?_
    refine jW.iload_n (dx_Mo_beginning 8 (e := (14, .iload_n 3, 1)) rfl) rfl rfl (pc' := 15) rfl ?_
    refine jW.iload_n (dx_Mo_beginning 9 (e := (15, .iload_n 2, 1)) rfl) rfl rfl (pc' := 16) rfl ?_
    refine jW.callVe F (h (d + 0) _ hV) (dx_Mo_beginning 10 (e := (16, .invokevirtual 207, 3)) rfl) can_Mo_beginQuote jw_1308 jw_1310 hV.cl rfl sel_Mo_beginQuote rfl rfl (Nat.le_of_ble_eq_true rfl) (pc' := 19) rfl (fun r σ hr => ?_)
    clear hV
    refine mQ.up hr.1 ?_
    obtain ⟨_, hV, rfl, h⟩ := hr.2
    refine jW.iconst (v := 1) (dx_Mo_beginning 11 (e := (19, .iconst 1, 1)) rfl) (by decide) (pc' := 20) rfl ?_
    exact jW.zret (dx_Mo_beginning 12 (e := (20, .ireturn, 1)) rfl) rfl (by decide) ⟨FR.rfl, _, hV, h⟩
theorem g_Mo_beginning {X : MX} {a0 : Array Value} (F : mF X a0) {x1 x2 : Int32} {m : MS} {Φ : Option Value → MS → Prop} (he : w_Mo_beginning_0 X x1 x2 m Φ) : mE X 9 y_Mo_beginning [.ref (mo X), .int x1, .int x2] m Φ := by
  intro d σ hV
  refine jE.of (by decide) (by simp [Value.category]) (Nat.le_of_ble_eq_true rfl) rfl ?_
  exact t_Mo_beginning_0 F hV he
def w_Mo_isQuote_25 (X : MX) (x1 s0 : Int32) (m : MS) (Φ : Option Value → MS → Prop) : Prop := (mZ (s0) ∧ Φ (some (.int (s0))) m)
theorem t_Mo_isQuote_25 {X : MX} {a0 : Array Value} (F : mF X a0) {d : Nat} {x1 s0 : Int32} {m : MS} {σ : jS} {Φ : Option Value → MS → Prop} (hV : MV X m σ) (h : w_Mo_isQuote_25 X x1 s0 m Φ) : jW X.1 X.2.1 jcl X.2.2.1 X.2.2.2.1 (d + 1) y_Mo_isQuote 25 [some (.ref (mo X)), some (.int x1)] [.int s0] σ (mQ X Φ σ) := by
  unfold w_Mo_isQuote_25 at h
  exact jW.zret (dx_Mo_isQuote 14 (e := (25, .ireturn, 1)) rfl) rfl h.1.n ⟨FR.rfl, _, hV, h.2⟩
def w_Mo_isQuote_24 (X : MX) (x1 : Int32) (m : MS) (Φ : Option Value → MS → Prop) : Prop := w_Mo_isQuote_25 X (x1) (0) m Φ
theorem t_Mo_isQuote_24 {X : MX} {a0 : Array Value} (F : mF X a0) {d : Nat} {x1 : Int32} {m : MS} {σ : jS} {Φ : Option Value → MS → Prop} (hV : MV X m σ) (h : w_Mo_isQuote_24 X x1 m Φ) : jW X.1 X.2.1 jcl X.2.2.1 X.2.2.2.1 (d + 1) y_Mo_isQuote 24 [some (.ref (mo X)), some (.int x1)] [] σ (mQ X Φ σ) := by
  unfold w_Mo_isQuote_24 at h
  refine jW.iconst (v := 0) (dx_Mo_isQuote 13 (e := (24, .iconst 0, 1)) rfl) (by decide) (pc' := 25) rfl ?_
  exact t_Mo_isQuote_25 F hV h
def w_Mo_isQuote_0 (X : MX) (x1 : Int32) (m : MS) (Φ : Option Value → MS → Prop) : Prop := ((4 ≤ x1 → w_Mo_isQuote_24 X (x1) m Φ) ∧ (¬ 4 ≤ x1 → mE X 0 y_Mo_at [.ref (mo X), .int ((m.1 31) + x1)] m (iP fun r1 m1 => ((r1 = 62 → w_Mo_isQuote_25 X (x1) (1) m1 Φ) ∧ (¬ r1 = 62 → w_Mo_isQuote_24 X (x1) m1 Φ)))))
theorem t_Mo_isQuote_0 {X : MX} {a0 : Array Value} (F : mF X a0) {d : Nat} {x1 : Int32} {m : MS} {σ : jS} {Φ : Option Value → MS → Prop} (hV : MV X m σ) (h : w_Mo_isQuote_0 X x1 m Φ) : jW X.1 X.2.1 jcl X.2.2.1 X.2.2.2.1 (d + 1) y_Mo_isQuote 0 [some (.ref (mo X)), some (.int x1)] [] σ (mQ X Φ σ) := by
  unfold w_Mo_isQuote_0 at h
  refine jW.iload_n (dx_Mo_isQuote 0 (e := (0, .iload_n 1, 1)) rfl) rfl rfl (pc' := 1) rfl ?_
  refine jW.iconst (v := 4) (dx_Mo_isQuote 1 (e := (1, .iconst 4, 1)) rfl) (by decide) (pc' := 2) rfl ?_
  refine jW.icmp_ge (dx_Mo_isQuote 2 (e := (2, .if_icmp .ge 22, 3)) rfl) 24 (by decide) (pc' := 5) rfl (fun c => ?_) (fun c => ?_)
  · replace h := h.1 c
    exact t_Mo_isQuote_24 F hV h
  · replace h := h.2 c
    refine jW.aload_n (dx_Mo_isQuote 3 (e := (5, .aload_n 0, 1)) rfl) rfl rfl (pc' := 6) rfl ?_
    refine jW.aload_n (dx_Mo_isQuote 4 (e := (6, .aload_n 0, 1)) rfl) rfl rfl (pc' := 7) rfl ?_
    refine jW.mgi F hV f_Mo_isQuote_7 (by decide) (pc' := 10) rfl ?_
    refine jW.iload_n (dx_Mo_isQuote 6 (e := (10, .iload_n 1, 1)) rfl) rfl rfl (pc' := 11) rfl ?_
    refine jW.iadd (dx_Mo_isQuote 7 (e := (11, .iadd, 1)) rfl) (pc' := 12) rfl ?_
    refine jW.callVe F (h (d + 0) _ hV) (dx_Mo_isQuote 8 (e := (12, .invokevirtual 129, 3)) rfl) can_Mo_at jw_1194 jw_1196 hV.cl rfl sel_Mo_at rfl rfl (Nat.le_of_ble_eq_true rfl) (pc' := 15) rfl (fun r σ hr => ?_)
    clear hV
    refine mQ.up hr.1 ?_
    obtain ⟨_, hV, _, rfl, h⟩ := hr.2
    refine jW.bipush (v := 62) (dx_Mo_isQuote 9 (e := (15, .bipush 62, 2)) rfl) (by decide) (pc' := 17) rfl ?_
    refine jW.icmp_ne (dx_Mo_isQuote 10 (e := (17, .if_icmp .ne 7, 3)) rfl) 24 (by decide) (pc' := 20) rfl (fun c => ?_) (fun c => ?_)
    · replace h := h.2 c
      exact t_Mo_isQuote_24 F hV h
    · replace h := h.1 c
      refine jW.iconst (v := 1) (dx_Mo_isQuote 11 (e := (20, .iconst 1, 1)) rfl) (by decide) (pc' := 21) rfl ?_
      refine jW.goto (dx_Mo_isQuote 12 (e := (21, .goto 4, 3)) rfl) 25 (by decide) ?_
      exact t_Mo_isQuote_25 F hV h
theorem g_Mo_isQuote {X : MX} {a0 : Array Value} (F : mF X a0) {x1 : Int32} {m : MS} {Φ : Option Value → MS → Prop} (he : w_Mo_isQuote_0 X x1 m Φ) : mE X 1 y_Mo_isQuote [.ref (mo X), .int x1] m Φ := by
  intro d σ hV
  refine jE.of (by decide) (by simp [Value.category]) (Nat.le_of_ble_eq_true rfl) rfl ?_
  exact t_Mo_isQuote_0 F hV he
