def w_Mo_findLoose_209 (X : MX) (x1 x2 : Int32) (m : MS) (Φ : Option Value → MS → Prop) (K74 : Int32 → MS → Prop) (K125 : Int32 → Int32 → Int32 → MS → Prop) : Prop := K74 (x1 + 1) m
theorem t_Mo_findLoose_209 {X : MX} {a0 : Array Value} (F : mF X a0) {d : Nat} {x1 x2 : Int32} {o3 : Option Value} {m : MS} {σ : jS} {Φ : Option Value → MS → Prop} {K74 : Int32 → MS → Prop} {K125 : Int32 → Int32 → Int32 → MS → Prop} (hV : MV X m σ) (h : w_Mo_findLoose_209 X x1 x2 m Φ K74 K125) (hK74 : ∀ (x1 : Int32) (o2 o3 : Option Value) (m : MS) (σ : jS), MV X m σ → K74 x1 m → jW X.1 X.2.1 jcl X.2.2.1 X.2.2.2.1 (d + 0) y_Mo_findLoose 74 [some (.ref (mo X)), some (.int x1), o2, o3] [] σ (mQ X Φ σ)) (hK125 : ∀ (x1 x2 x3 : Int32) (m : MS) (σ : jS), MV X m σ → K125 x1 x2 x3 m → jW X.1 X.2.1 jcl X.2.2.1 X.2.2.2.1 (d + 0) y_Mo_findLoose 125 [some (.ref (mo X)), some (.int x1), some (.int x2), some (.int x3)] [] σ (mQ X Φ σ)) : jW X.1 X.2.1 jcl X.2.2.1 X.2.2.2.1 (d + 0) y_Mo_findLoose 209 [some (.ref (mo X)), some (.int x1), some (.int x2), o3] [] σ (mQ X Φ σ) := by
  unfold w_Mo_findLoose_209 at h
  refine jW.iinc (v := _ + (1)) (dx_Mo_findLoose 123 (e := (209, .iinc 1 1, 3)) rfl) rfl rfl (by decide) rfl (pc' := 212) rfl ?_
  refine jW.goto (dx_Mo_findLoose 124 (e := (212, .goto (-138), 3)) rfl) 74 (by decide) ?_
  exact hK74 _ _ _ _ _ hV h
def w_Mo_findLoose_207 (X : MX) (x1 x2 x3 s1 : Int32) (m : MS) (Φ : Option Value → MS → Prop) (K74 : Int32 → MS → Prop) (K125 : Int32 → Int32 → Int32 → MS → Prop) : Prop := (vp_in (s1) 3300 ∧ ∀ m1, m1 = mA m 27 (s1 : Int32).toNatClampNeg (1 &&& 1) → w_Mo_findLoose_209 X (x1) (x2) m1 Φ K74 K125)
theorem t_Mo_findLoose_207 {X : MX} {a0 : Array Value} (F : mF X a0) {d : Nat} {x1 x2 x3 s1 : Int32} {m : MS} {σ : jS} {Φ : Option Value → MS → Prop} {K74 : Int32 → MS → Prop} {K125 : Int32 → Int32 → Int32 → MS → Prop} (hV : MV X m σ) (h : w_Mo_findLoose_207 X x1 x2 x3 s1 m Φ K74 K125) (hK74 : ∀ (x1 : Int32) (o2 o3 : Option Value) (m : MS) (σ : jS), MV X m σ → K74 x1 m → jW X.1 X.2.1 jcl X.2.2.1 X.2.2.2.1 (d + 0) y_Mo_findLoose 74 [some (.ref (mo X)), some (.int x1), o2, o3] [] σ (mQ X Φ σ)) (hK125 : ∀ (x1 x2 x3 : Int32) (m : MS) (σ : jS), MV X m σ → K125 x1 x2 x3 m → jW X.1 X.2.1 jcl X.2.2.1 X.2.2.2.1 (d + 0) y_Mo_findLoose 125 [some (.ref (mo X)), some (.int x1), some (.int x2), some (.int x3)] [] σ (mQ X Φ σ)) : jW X.1 X.2.1 jcl X.2.2.1 X.2.2.2.1 (d + 0) y_Mo_findLoose 207 [some (.ref (mo X)), some (.int x1), some (.int x2), some (.int x3)] [.int s1, .ref (ar X 27)] σ (mQ X Φ σ) := by
  unfold w_Mo_findLoose_207 at h
  refine jW.iconst (v := 1) (dx_Mo_findLoose 121 (e := (207, .iconst 1, 1)) rfl) (by decide) (pc' := 208) rfl ?_
  refine jW.msz F hV (dx_Mo_findLoose 122 (e := (208, .bastore, 1)) rfl) (by decide) rfl h.1 (pc' := 209) rfl (fun σ hV => ?_)
  replace h := h.2 _ rfl
  exact t_Mo_findLoose_209 F hV h hK74 hK125
def w_Mo_findLoose_154 (X : MX) (x1 x2 x3 : Int32) (m : MS) (Φ : Option Value → MS → Prop) (K74 : Int32 → MS → Prop) (K125 : Int32 → Int32 → Int32 → MS → Prop) : Prop := ((x3 ≤ 0 → w_Mo_findLoose_209 X (x1) (x2) m Φ K74 K125) ∧ (¬ x3 ≤ 0 → ((x3 ≤ x2 → w_Mo_findLoose_209 X (x1) (x2) m Φ K74 K125) ∧ (¬ x3 ≤ x2 → (vp_in (x1) 3300 ∧ (vp_in (x3) 3300 ∧ (((m.2 17 (x3 : Int32).toNatClampNeg) + 1 < m.2 16 (x1 : Int32).toNatClampNeg → (vp_in (x2) 3300 ∧ ((m.2 13 (x2 : Int32).toNatClampNeg = 2 → w_Mo_findLoose_207 X (x1) (x2) (x3) (x2) m Φ K74 K125) ∧ (¬ m.2 13 (x2 : Int32).toNatClampNeg = 2 → (vp_in (x2) 3300 ∧ w_Mo_findLoose_207 X (x1) (x2) (x3) (m.2 14 (x2 : Int32).toNatClampNeg) m Φ K74 K125))))) ∧ (¬ (m.2 17 (x3 : Int32).toNatClampNeg) + 1 < m.2 16 (x1 : Int32).toNatClampNeg → w_Mo_findLoose_209 X (x1) (x2) m Φ K74 K125))))))))
theorem t_Mo_findLoose_154 {X : MX} {a0 : Array Value} (F : mF X a0) {d : Nat} {x1 x2 x3 : Int32} {m : MS} {σ : jS} {Φ : Option Value → MS → Prop} {K74 : Int32 → MS → Prop} {K125 : Int32 → Int32 → Int32 → MS → Prop} (hV : MV X m σ) (h : w_Mo_findLoose_154 X x1 x2 x3 m Φ K74 K125) (hK74 : ∀ (x1 : Int32) (o2 o3 : Option Value) (m : MS) (σ : jS), MV X m σ → K74 x1 m → jW X.1 X.2.1 jcl X.2.2.1 X.2.2.2.1 (d + 0) y_Mo_findLoose 74 [some (.ref (mo X)), some (.int x1), o2, o3] [] σ (mQ X Φ σ)) (hK125 : ∀ (x1 x2 x3 : Int32) (m : MS) (σ : jS), MV X m σ → K125 x1 x2 x3 m → jW X.1 X.2.1 jcl X.2.2.1 X.2.2.2.1 (d + 0) y_Mo_findLoose 125 [some (.ref (mo X)), some (.int x1), some (.int x2), some (.int x3)] [] σ (mQ X Φ σ)) : jW X.1 X.2.1 jcl X.2.2.1 X.2.2.2.1 (d + 0) y_Mo_findLoose 154 [some (.ref (mo X)), some (.int x1), some (.int x2), some (.int x3)] [] σ (mQ X Φ σ) := by
  unfold w_Mo_findLoose_154 at h
  refine jW.iload_n (dx_Mo_findLoose 90 (e := (154, .iload_n 3, 1)) rfl) rfl rfl (pc' := 155) rfl ?_
  refine jW.if_le (dx_Mo_findLoose 91 (e := (155, .ifCond .le 54, 3)) rfl) 209 (by decide) (pc' := 158) rfl (fun c => ?_) (fun c => ?_)
  · replace h := h.1 c
    exact t_Mo_findLoose_209 F hV h hK74 hK125
  · replace h := h.2 c
    refine jW.iload_n (dx_Mo_findLoose 92 (e := (158, .iload_n 3, 1)) rfl) rfl rfl (pc' := 159) rfl ?_
    refine jW.iload_n (dx_Mo_findLoose 93 (e := (159, .iload_n 2, 1)) rfl) rfl rfl (pc' := 160) rfl ?_
    refine jW.icmp_le (dx_Mo_findLoose 94 (e := (160, .if_icmp .le 49, 3)) rfl) 209 (by decide) (pc' := 163) rfl (fun c => ?_) (fun c => ?_)
    · replace h := h.1 c
      exact t_Mo_findLoose_209 F hV h hK74 hK125
    · replace h := h.2 c
      refine jW.aload_n (dx_Mo_findLoose 95 (e := (163, .aload_n 0, 1)) rfl) rfl rfl (pc' := 164) rfl ?_
      refine jW.mga F hV f_Mo_findLoose_164 (by decide) (pc' := 167) rfl ?_
      refine jW.iload_n (dx_Mo_findLoose 97 (e := (167, .iload_n 1, 1)) rfl) rfl rfl (pc' := 168) rfl ?_
      refine jW.mla F hV (dx_Mo_findLoose 98 (e := (168, .iaload, 1)) rfl) (by decide) rfl h.1 (pc' := 169) rfl ?_
      replace h := h.2
      refine jW.aload_n (dx_Mo_findLoose 99 (e := (169, .aload_n 0, 1)) rfl) rfl rfl (pc' := 170) rfl ?_
      refine jW.mga F hV f_Mo_findLoose_170 (by decide) (pc' := 173) rfl ?_
      refine jW.iload_n (dx_Mo_findLoose 101 (e := (173, .iload_n 3, 1)) rfl) rfl rfl (pc' := 174) rfl ?_
      refine jW.mla F hV (dx_Mo_findLoose 102 (e := (174, .iaload, 1)) rfl) (by decide) rfl h.1 (pc' := 175) rfl ?_
      replace h := h.2
      refine jW.iconst (v := 1) (dx_Mo_findLoose 103 (e := (175, .iconst 1, 1)) rfl) (by decide) (pc' := 176) rfl ?_
      refine jW.iadd (dx_Mo_findLoose 104 (e := (176, .iadd, 1)) rfl) (pc' := 177) rfl ?_
      refine jW.icmp_gt (dx_Mo_findLoose 105 (e := (177, .if_icmp .gt 6, 3)) rfl) 183 (by decide) (pc' := 180) rfl (fun c => ?_) (fun c => ?_)
      · replace h := h.1 c
        refine jW.aload_n (dx_Mo_findLoose 107 (e := (183, .aload_n 0, 1)) rfl) rfl rfl (pc' := 184) rfl ?_
        refine jW.mga F hV f_Mo_findLoose_184 (by decide) (pc' := 187) rfl ?_
        refine jW.aload_n (dx_Mo_findLoose 109 (e := (187, .aload_n 0, 1)) rfl) rfl rfl (pc' := 188) rfl ?_
        refine jW.mga F hV f_Mo_findLoose_188 (by decide) (pc' := 191) rfl ?_
        refine jW.iload_n (dx_Mo_findLoose 111 (e := (191, .iload_n 2, 1)) rfl) rfl rfl (pc' := 192) rfl ?_
        refine jW.mla F hV (dx_Mo_findLoose 112 (e := (192, .iaload, 1)) rfl) (by decide) rfl h.1 (pc' := 193) rfl ?_
        replace h := h.2
        refine jW.iconst (v := 2) (dx_Mo_findLoose 113 (e := (193, .iconst 2, 1)) rfl) (by decide) (pc' := 194) rfl ?_
        refine jW.icmp_ne (dx_Mo_findLoose 114 (e := (194, .if_icmp .ne 7, 3)) rfl) 201 (by decide) (pc' := 197) rfl (fun c => ?_) (fun c => ?_)
        · replace h := h.2 c
          refine jW.aload_n (dx_Mo_findLoose 117 (e := (201, .aload_n 0, 1)) rfl) rfl rfl (pc' := 202) rfl ?_
          refine jW.mga F hV f_Mo_findLoose_202 (by decide) (pc' := 205) rfl ?_
          refine jW.iload_n (dx_Mo_findLoose 119 (e := (205, .iload_n 2, 1)) rfl) rfl rfl (pc' := 206) rfl ?_
          refine jW.mla F hV (dx_Mo_findLoose 120 (e := (206, .iaload, 1)) rfl) (by decide) rfl h.1 (pc' := 207) rfl ?_
          replace h := h.2
          exact t_Mo_findLoose_207 F hV h hK74 hK125
        · replace h := h.1 c
          refine jW.iload_n (dx_Mo_findLoose 115 (e := (197, .iload_n 2, 1)) rfl) rfl rfl (pc' := 198) rfl ?_
          refine jW.goto (dx_Mo_findLoose 116 (e := (198, .goto 9, 3)) rfl) 207 (by decide) ?_
          exact t_Mo_findLoose_207 F hV h hK74 hK125
      · replace h := h.2 c
        refine jW.goto (dx_Mo_findLoose 106 (e := (180, .goto 29, 3)) rfl) 209 (by decide) ?_
        exact t_Mo_findLoose_209 F hV h hK74 hK125
def w_Mo_findLoose_148 (X : MX) (x1 x2 x3 : Int32) (m : MS) (Φ : Option Value → MS → Prop) (K74 : Int32 → MS → Prop) (K125 : Int32 → Int32 → Int32 → MS → Prop) : Prop := K125 (x1) (x2) (x3 + (-1)) m
theorem t_Mo_findLoose_148 {X : MX} {a0 : Array Value} (F : mF X a0) {d : Nat} {x1 x2 x3 : Int32} {m : MS} {σ : jS} {Φ : Option Value → MS → Prop} {K74 : Int32 → MS → Prop} {K125 : Int32 → Int32 → Int32 → MS → Prop} (hV : MV X m σ) (h : w_Mo_findLoose_148 X x1 x2 x3 m Φ K74 K125) (hK74 : ∀ (x1 : Int32) (o2 o3 : Option Value) (m : MS) (σ : jS), MV X m σ → K74 x1 m → jW X.1 X.2.1 jcl X.2.2.1 X.2.2.2.1 (d + 0) y_Mo_findLoose 74 [some (.ref (mo X)), some (.int x1), o2, o3] [] σ (mQ X Φ σ)) (hK125 : ∀ (x1 x2 x3 : Int32) (m : MS) (σ : jS), MV X m σ → K125 x1 x2 x3 m → jW X.1 X.2.1 jcl X.2.2.1 X.2.2.2.1 (d + 0) y_Mo_findLoose 125 [some (.ref (mo X)), some (.int x1), some (.int x2), some (.int x3)] [] σ (mQ X Φ σ)) : jW X.1 X.2.1 jcl X.2.2.1 X.2.2.2.1 (d + 0) y_Mo_findLoose 148 [some (.ref (mo X)), some (.int x1), some (.int x2), some (.int x3)] [] σ (mQ X Φ σ) := by
  unfold w_Mo_findLoose_148 at h
  refine jW.iinc (v := _ + (-1)) (dx_Mo_findLoose 88 (e := (148, .iinc 3 (-1), 3)) rfl) rfl rfl (by decide) rfl (pc' := 151) rfl ?_
  refine jW.goto (dx_Mo_findLoose 89 (e := (151, .goto (-26), 3)) rfl) 125 (by decide) ?_
  exact hK125 _ _ _ _ _ hV h
def w_Mo_findLoose_125 (X : MX) (x1 x2 x3 : Int32) (m : MS) (Φ : Option Value → MS → Prop) (K74 : Int32 → MS → Prop) (K125 : Int32 → Int32 → Int32 → MS → Prop) : Prop := ((x3 ≤ 0 → w_Mo_findLoose_154 X (x1) (x2) (x3) m Φ K74 K125) ∧ (¬ x3 ≤ 0 → (vp_in (x3) 3300 ∧ ((m.2 14 (x3 : Int32).toNatClampNeg = x2 → (vp_in (x3) 3300 ∧ ((m.2 26 (x3 : Int32).toNatClampNeg = 0 → w_Mo_findLoose_154 X (x1) (x2) (x3) m Φ K74 K125) ∧ (¬ m.2 26 (x3 : Int32).toNatClampNeg = 0 → w_Mo_findLoose_148 X (x1) (x2) (x3) m Φ K74 K125)))) ∧ (¬ m.2 14 (x3 : Int32).toNatClampNeg = x2 → w_Mo_findLoose_148 X (x1) (x2) (x3) m Φ K74 K125)))))
theorem t_Mo_findLoose_125 {X : MX} {a0 : Array Value} (F : mF X a0) {d : Nat} {x1 x2 x3 : Int32} {m : MS} {σ : jS} {Φ : Option Value → MS → Prop} {K74 : Int32 → MS → Prop} {K125 : Int32 → Int32 → Int32 → MS → Prop} (hV : MV X m σ) (h : w_Mo_findLoose_125 X x1 x2 x3 m Φ K74 K125) (hK74 : ∀ (x1 : Int32) (o2 o3 : Option Value) (m : MS) (σ : jS), MV X m σ → K74 x1 m → jW X.1 X.2.1 jcl X.2.2.1 X.2.2.2.1 (d + 0) y_Mo_findLoose 74 [some (.ref (mo X)), some (.int x1), o2, o3] [] σ (mQ X Φ σ)) (hK125 : ∀ (x1 x2 x3 : Int32) (m : MS) (σ : jS), MV X m σ → K125 x1 x2 x3 m → jW X.1 X.2.1 jcl X.2.2.1 X.2.2.2.1 (d + 0) y_Mo_findLoose 125 [some (.ref (mo X)), some (.int x1), some (.int x2), some (.int x3)] [] σ (mQ X Φ σ)) : jW X.1 X.2.1 jcl X.2.2.1 X.2.2.2.1 (d + 0) y_Mo_findLoose 125 [some (.ref (mo X)), some (.int x1), some (.int x2), some (.int x3)] [] σ (mQ X Φ σ) := by
  unfold w_Mo_findLoose_125 at h
  refine jW.iload_n (dx_Mo_findLoose 75 (e := (125, .iload_n 3, 1)) rfl) rfl rfl (pc' := 126) rfl ?_
  refine jW.if_le (dx_Mo_findLoose 76 (e := (126, .ifCond .le 28, 3)) rfl) 154 (by decide) (pc' := 129) rfl (fun c => ?_) (fun c => ?_)
  · replace h := h.1 c
    exact t_Mo_findLoose_154 F hV h hK74 hK125
  · replace h := h.2 c
    refine jW.aload_n (dx_Mo_findLoose 77 (e := (129, .aload_n 0, 1)) rfl) rfl rfl (pc' := 130) rfl ?_
    refine jW.mga F hV f_Mo_findLoose_130 (by decide) (pc' := 133) rfl ?_
    refine jW.iload_n (dx_Mo_findLoose 79 (e := (133, .iload_n 3, 1)) rfl) rfl rfl (pc' := 134) rfl ?_
    refine jW.mla F hV (dx_Mo_findLoose 80 (e := (134, .iaload, 1)) rfl) (by decide) rfl h.1 (pc' := 135) rfl ?_
    replace h := h.2
    refine jW.iload_n (dx_Mo_findLoose 81 (e := (135, .iload_n 2, 1)) rfl) rfl rfl (pc' := 136) rfl ?_
    refine jW.icmp_ne (dx_Mo_findLoose 82 (e := (136, .if_icmp .ne 12, 3)) rfl) 148 (by decide) (pc' := 139) rfl (fun c => ?_) (fun c => ?_)
    · replace h := h.2 c
      exact t_Mo_findLoose_148 F hV h hK74 hK125
    · replace h := h.1 c
      refine jW.aload_n (dx_Mo_findLoose 83 (e := (139, .aload_n 0, 1)) rfl) rfl rfl (pc' := 140) rfl ?_
      refine jW.mga F hV f_Mo_findLoose_140 (by decide) (pc' := 143) rfl ?_
      refine jW.iload_n (dx_Mo_findLoose 85 (e := (143, .iload_n 3, 1)) rfl) rfl rfl (pc' := 144) rfl ?_
      refine jW.mlz F hV (dx_Mo_findLoose 86 (e := (144, .baload, 1)) rfl) (by decide) rfl h.1 (pc' := 145) rfl ?_
      replace h := h.2
      refine jW.if_eq (dx_Mo_findLoose 87 (e := (145, .ifCond .eq 9, 3)) rfl) 154 (by decide) (pc' := 148) rfl (fun c => ?_) (fun c => ?_)
      · replace h := h.1 c
        exact t_Mo_findLoose_154 F hV h hK74 hK125
      · replace h := h.2 c
        exact t_Mo_findLoose_148 F hV h hK74 hK125
def w_Mo_findLoose_121 (X : MX) (x1 x2 : Int32) (m : MS) (Φ : Option Value → MS → Prop) (K74 : Int32 → MS → Prop) (K125 : Int32 → Int32 → Int32 → MS → Prop) : Prop := K125 (x1) (x2) (x1 - 1) m
theorem t_Mo_findLoose_121 {X : MX} {a0 : Array Value} (F : mF X a0) {d : Nat} {x1 x2 : Int32} {o3 : Option Value} {m : MS} {σ : jS} {Φ : Option Value → MS → Prop} {K74 : Int32 → MS → Prop} {K125 : Int32 → Int32 → Int32 → MS → Prop} (hV : MV X m σ) (h : w_Mo_findLoose_121 X x1 x2 m Φ K74 K125) (hK74 : ∀ (x1 : Int32) (o2 o3 : Option Value) (m : MS) (σ : jS), MV X m σ → K74 x1 m → jW X.1 X.2.1 jcl X.2.2.1 X.2.2.2.1 (d + 0) y_Mo_findLoose 74 [some (.ref (mo X)), some (.int x1), o2, o3] [] σ (mQ X Φ σ)) (hK125 : ∀ (x1 x2 x3 : Int32) (m : MS) (σ : jS), MV X m σ → K125 x1 x2 x3 m → jW X.1 X.2.1 jcl X.2.2.1 X.2.2.2.1 (d + 0) y_Mo_findLoose 125 [some (.ref (mo X)), some (.int x1), some (.int x2), some (.int x3)] [] σ (mQ X Φ σ)) : jW X.1 X.2.1 jcl X.2.2.1 X.2.2.2.1 (d + 0) y_Mo_findLoose 121 [some (.ref (mo X)), some (.int x1), some (.int x2), o3] [] σ (mQ X Φ σ) := by
  unfold w_Mo_findLoose_121 at h
  refine jW.iload_n (dx_Mo_findLoose 71 (e := (121, .iload_n 1, 1)) rfl) rfl rfl (pc' := 122) rfl ?_
  refine jW.iconst (v := 1) (dx_Mo_findLoose 72 (e := (122, .iconst 1, 1)) rfl) (by decide) (pc' := 123) rfl ?_
  refine jW.isub (dx_Mo_findLoose 73 (e := (123, .isub, 1)) rfl) (pc' := 124) rfl ?_
  refine jW.istore_n (dx_Mo_findLoose 74 (e := (124, .istore_n 3, 1)) rfl) rfl (by decide) rfl (pc' := 125) rfl ?_
  exact hK125 _ _ _ _ _ hV h
def w_Mo_findLoose_74 (X : MX) (x1 : Int32) (m : MS) (Φ : Option Value → MS → Prop) (K74 : Int32 → MS → Prop) (K125 : Int32 → Int32 → Int32 → MS → Prop) : Prop := ((m.1 28 ≤ x1 → Φ none m) ∧ (¬ m.1 28 ≤ x1 → (vp_in (x1) 3300 ∧ (vp_in (x1) 3300 ∧ ((m.2 26 (x1 : Int32).toNatClampNeg = 0 → (vp_in (m.2 14 (x1 : Int32).toNatClampNeg) 3300 ∧ ((m.2 13 (m.2 14 (x1 : Int32).toNatClampNeg : Int32).toNatClampNeg = 2 → w_Mo_findLoose_121 X (x1) (m.2 14 (x1 : Int32).toNatClampNeg) m Φ K74 K125) ∧ (¬ m.2 13 (m.2 14 (x1 : Int32).toNatClampNeg : Int32).toNatClampNeg = 2 → (vp_in (m.2 14 (x1 : Int32).toNatClampNeg) 3300 ∧ ((m.2 13 (m.2 14 (x1 : Int32).toNatClampNeg : Int32).toNatClampNeg = 3 → w_Mo_findLoose_121 X (x1) (m.2 14 (x1 : Int32).toNatClampNeg) m Φ K74 K125) ∧ (¬ m.2 13 (m.2 14 (x1 : Int32).toNatClampNeg : Int32).toNatClampNeg = 3 → w_Mo_findLoose_209 X (x1) (m.2 14 (x1 : Int32).toNatClampNeg) m Φ K74 K125))))))) ∧ (¬ m.2 26 (x1 : Int32).toNatClampNeg = 0 → w_Mo_findLoose_209 X (x1) (m.2 14 (x1 : Int32).toNatClampNeg) m Φ K74 K125))))))
theorem t_Mo_findLoose_74 {X : MX} {a0 : Array Value} (F : mF X a0) {d : Nat} {x1 : Int32} {o2 o3 : Option Value} {m : MS} {σ : jS} {Φ : Option Value → MS → Prop} {K74 : Int32 → MS → Prop} {K125 : Int32 → Int32 → Int32 → MS → Prop} (hV : MV X m σ) (h : w_Mo_findLoose_74 X x1 m Φ K74 K125) (hK74 : ∀ (x1 : Int32) (o2 o3 : Option Value) (m : MS) (σ : jS), MV X m σ → K74 x1 m → jW X.1 X.2.1 jcl X.2.2.1 X.2.2.2.1 (d + 0) y_Mo_findLoose 74 [some (.ref (mo X)), some (.int x1), o2, o3] [] σ (mQ X Φ σ)) (hK125 : ∀ (x1 x2 x3 : Int32) (m : MS) (σ : jS), MV X m σ → K125 x1 x2 x3 m → jW X.1 X.2.1 jcl X.2.2.1 X.2.2.2.1 (d + 0) y_Mo_findLoose 125 [some (.ref (mo X)), some (.int x1), some (.int x2), some (.int x3)] [] σ (mQ X Φ σ)) : jW X.1 X.2.1 jcl X.2.2.1 X.2.2.2.1 (d + 0) y_Mo_findLoose 74 [some (.ref (mo X)), some (.int x1), o2, o3] [] σ (mQ X Φ σ) := by
  unfold w_Mo_findLoose_74 at h
  refine jW.iload_n (dx_Mo_findLoose 44 (e := (74, .iload_n 1, 1)) rfl) rfl rfl (pc' := 75) rfl ?_
  refine jW.aload_n (dx_Mo_findLoose 45 (e := (75, .aload_n 0, 1)) rfl) rfl rfl (pc' := 76) rfl ?_
  refine jW.mgi F hV f_Mo_findLoose_76 (by decide) (pc' := 79) rfl ?_
  refine jW.icmp_ge (dx_Mo_findLoose 47 (e := (79, .if_icmp .ge 136, 3)) rfl) 215 (by decide) (pc' := 82) rfl (fun c => ?_) (fun c => ?_)
  · replace h := h.1 c
    exact jW.vret (dx_Mo_findLoose 125 (e := (215, .return_, 1)) rfl) rfl ⟨FR.rfl, _, hV, h⟩
  · replace h := h.2 c
    refine jW.aload_n (dx_Mo_findLoose 48 (e := (82, .aload_n 0, 1)) rfl) rfl rfl (pc' := 83) rfl ?_
    refine jW.mga F hV f_Mo_findLoose_83 (by decide) (pc' := 86) rfl ?_
    refine jW.iload_n (dx_Mo_findLoose 50 (e := (86, .iload_n 1, 1)) rfl) rfl rfl (pc' := 87) rfl ?_
    refine jW.mla F hV (dx_Mo_findLoose 51 (e := (87, .iaload, 1)) rfl) (by decide) rfl h.1 (pc' := 88) rfl ?_
    replace h := h.2
    refine jW.istore_n (dx_Mo_findLoose 52 (e := (88, .istore_n 2, 1)) rfl) rfl (by decide) rfl (pc' := 89) rfl ?_
    refine jW.aload_n (dx_Mo_findLoose 53 (e := (89, .aload_n 0, 1)) rfl) rfl rfl (pc' := 90) rfl ?_
    refine jW.mga F hV f_Mo_findLoose_90 (by decide) (pc' := 93) rfl ?_
    refine jW.iload_n (dx_Mo_findLoose 55 (e := (93, .iload_n 1, 1)) rfl) rfl rfl (pc' := 94) rfl ?_
    refine jW.mlz F hV (dx_Mo_findLoose 56 (e := (94, .baload, 1)) rfl) (by decide) rfl h.1 (pc' := 95) rfl ?_
    replace h := h.2
    refine jW.if_ne (dx_Mo_findLoose 57 (e := (95, .ifCond .ne 114, 3)) rfl) 209 (by decide) (pc' := 98) rfl (fun c => ?_) (fun c => ?_)
    · replace h := h.2 c
      exact t_Mo_findLoose_209 F hV h hK74 hK125
    · replace h := h.1 c
      refine jW.aload_n (dx_Mo_findLoose 58 (e := (98, .aload_n 0, 1)) rfl) rfl rfl (pc' := 99) rfl ?_
      refine jW.mga F hV f_Mo_findLoose_99 (by decide) (pc' := 102) rfl ?_
      refine jW.iload_n (dx_Mo_findLoose 60 (e := (102, .iload_n 2, 1)) rfl) rfl rfl (pc' := 103) rfl ?_
      refine jW.mla F hV (dx_Mo_findLoose 61 (e := (103, .iaload, 1)) rfl) (by decide) rfl h.1 (pc' := 104) rfl ?_
      replace h := h.2
      refine jW.iconst (v := 2) (dx_Mo_findLoose 62 (e := (104, .iconst 2, 1)) rfl) (by decide) (pc' := 105) rfl ?_
      refine jW.icmp_eq (dx_Mo_findLoose 63 (e := (105, .if_icmp .eq 16, 3)) rfl) 121 (by decide) (pc' := 108) rfl (fun c => ?_) (fun c => ?_)
      · replace h := h.1 c
        exact t_Mo_findLoose_121 F hV h hK74 hK125
      · replace h := h.2 c
        refine jW.aload_n (dx_Mo_findLoose 64 (e := (108, .aload_n 0, 1)) rfl) rfl rfl (pc' := 109) rfl ?_
        refine jW.mga F hV f_Mo_findLoose_109 (by decide) (pc' := 112) rfl ?_
        refine jW.iload_n (dx_Mo_findLoose 66 (e := (112, .iload_n 2, 1)) rfl) rfl rfl (pc' := 113) rfl ?_
        refine jW.mla F hV (dx_Mo_findLoose 67 (e := (113, .iaload, 1)) rfl) (by decide) rfl h.1 (pc' := 114) rfl ?_
        replace h := h.2
        refine jW.iconst (v := 3) (dx_Mo_findLoose 68 (e := (114, .iconst 3, 1)) rfl) (by decide) (pc' := 115) rfl ?_
        refine jW.icmp_eq (dx_Mo_findLoose 69 (e := (115, .if_icmp .eq 6, 3)) rfl) 121 (by decide) (pc' := 118) rfl (fun c => ?_) (fun c => ?_)
        · replace h := h.1 c
          exact t_Mo_findLoose_121 F hV h hK74 hK125
        · replace h := h.2 c
          refine jW.goto (dx_Mo_findLoose 70 (e := (118, .goto 91, 3)) rfl) 209 (by decide) ?_
          exact t_Mo_findLoose_209 F hV h hK74 hK125
def w_Mo_findLoose_66 (X : MX) (x1 : Int32) (m : MS) (Φ : Option Value → MS → Prop) (K7 : Int32 → MS → Prop) (K74 : Int32 → MS → Prop) (K125 : Int32 → Int32 → Int32 → MS → Prop) : Prop := K7 (x1 + (-1)) m
theorem t_Mo_findLoose_66 {X : MX} {a0 : Array Value} (F : mF X a0) {d : Nat} {x1 : Int32} {o2 o3 : Option Value} {m : MS} {σ : jS} {Φ : Option Value → MS → Prop} {K7 : Int32 → MS → Prop} {K74 : Int32 → MS → Prop} {K125 : Int32 → Int32 → Int32 → MS → Prop} (hV : MV X m σ) (h : w_Mo_findLoose_66 X x1 m Φ K7 K74 K125) (hK7 : ∀ (x1 : Int32) (o2 o3 : Option Value) (m : MS) (σ : jS), MV X m σ → K7 x1 m → jW X.1 X.2.1 jcl X.2.2.1 X.2.2.2.1 (d + 0) y_Mo_findLoose 7 [some (.ref (mo X)), some (.int x1), o2, o3] [] σ (mQ X Φ σ)) (hK74 : ∀ (x1 : Int32) (o2 o3 : Option Value) (m : MS) (σ : jS), MV X m σ → K74 x1 m → jW X.1 X.2.1 jcl X.2.2.1 X.2.2.2.1 (d + 0) y_Mo_findLoose 74 [some (.ref (mo X)), some (.int x1), o2, o3] [] σ (mQ X Φ σ)) (hK125 : ∀ (x1 x2 x3 : Int32) (m : MS) (σ : jS), MV X m σ → K125 x1 x2 x3 m → jW X.1 X.2.1 jcl X.2.2.1 X.2.2.2.1 (d + 0) y_Mo_findLoose 125 [some (.ref (mo X)), some (.int x1), some (.int x2), some (.int x3)] [] σ (mQ X Φ σ)) : jW X.1 X.2.1 jcl X.2.2.1 X.2.2.2.1 (d + 0) y_Mo_findLoose 66 [some (.ref (mo X)), some (.int x1), o2, o3] [] σ (mQ X Φ σ) := by
  unfold w_Mo_findLoose_66 at h
  refine jW.iinc (v := _ + (-1)) (dx_Mo_findLoose 40 (e := (66, .iinc 1 (-1), 3)) rfl) rfl rfl (by decide) rfl (pc' := 69) rfl ?_
  refine jW.goto (dx_Mo_findLoose 41 (e := (69, .goto (-62), 3)) rfl) 7 (by decide) ?_
  exact hK7 _ _ _ _ _ hV h
def w_Mo_findLoose_65 (X : MX) (x1 x2 s1 s2 : Int32) (m : MS) (Φ : Option Value → MS → Prop) (K7 : Int32 → MS → Prop) (K74 : Int32 → MS → Prop) (K125 : Int32 → Int32 → Int32 → MS → Prop) : Prop := (vp_in (s1) 3300 ∧ ∀ m1, m1 = mA m 17 (s1 : Int32).toNatClampNeg (s2) → w_Mo_findLoose_66 X (x1) m1 Φ K7 K74 K125)
theorem t_Mo_findLoose_65 {X : MX} {a0 : Array Value} (F : mF X a0) {d : Nat} {x1 x2 s1 s2 : Int32} {o3 : Option Value} {m : MS} {σ : jS} {Φ : Option Value → MS → Prop} {K7 : Int32 → MS → Prop} {K74 : Int32 → MS → Prop} {K125 : Int32 → Int32 → Int32 → MS → Prop} (hV : MV X m σ) (h : w_Mo_findLoose_65 X x1 x2 s1 s2 m Φ K7 K74 K125) (hK7 : ∀ (x1 : Int32) (o2 o3 : Option Value) (m : MS) (σ : jS), MV X m σ → K7 x1 m → jW X.1 X.2.1 jcl X.2.2.1 X.2.2.2.1 (d + 0) y_Mo_findLoose 7 [some (.ref (mo X)), some (.int x1), o2, o3] [] σ (mQ X Φ σ)) (hK74 : ∀ (x1 : Int32) (o2 o3 : Option Value) (m : MS) (σ : jS), MV X m σ → K74 x1 m → jW X.1 X.2.1 jcl X.2.2.1 X.2.2.2.1 (d + 0) y_Mo_findLoose 74 [some (.ref (mo X)), some (.int x1), o2, o3] [] σ (mQ X Φ σ)) (hK125 : ∀ (x1 x2 x3 : Int32) (m : MS) (σ : jS), MV X m σ → K125 x1 x2 x3 m → jW X.1 X.2.1 jcl X.2.2.1 X.2.2.2.1 (d + 0) y_Mo_findLoose 125 [some (.ref (mo X)), some (.int x1), some (.int x2), some (.int x3)] [] σ (mQ X Φ σ)) : jW X.1 X.2.1 jcl X.2.2.1 X.2.2.2.1 (d + 0) y_Mo_findLoose 65 [some (.ref (mo X)), some (.int x1), some (.int x2), o3] [.int s2, .int s1, .ref (ar X 17)] σ (mQ X Φ σ) := by
  unfold w_Mo_findLoose_65 at h
  refine jW.msa F hV (dx_Mo_findLoose 39 (e := (65, .iastore, 1)) rfl) (by decide) rfl h.1 (pc' := 66) rfl (fun σ hV => ?_)
  replace h := h.2 _ rfl
  exact t_Mo_findLoose_66 F hV h hK7 hK74 hK125
def w_Mo_findLoose_7 (X : MX) (x1 : Int32) (m : MS) (Φ : Option Value → MS → Prop) (K7 : Int32 → MS → Prop) (K74 : Int32 → MS → Prop) (K125 : Int32 → Int32 → Int32 → MS → Prop) : Prop := ((x1 ≤ 0 → K74 (1) m) ∧ (¬ x1 ≤ 0 → (vp_in (x1) 3300 ∧ ((m.2 26 (x1 : Int32).toNatClampNeg = 0 → (vp_in (x1) 3300 ∧ (vp_in (x1) 3300 ∧ (vp_in (m.2 14 (x1 : Int32).toNatClampNeg) 3300 ∧ ((m.2 17 (x1 : Int32).toNatClampNeg ≤ m.2 17 (m.2 14 (x1 : Int32).toNatClampNeg : Int32).toNatClampNeg → (vp_in (m.2 14 (x1 : Int32).toNatClampNeg) 3300 ∧ w_Mo_findLoose_65 X (x1) (m.2 14 (x1 : Int32).toNatClampNeg) (m.2 14 (x1 : Int32).toNatClampNeg) (m.2 17 (m.2 14 (x1 : Int32).toNatClampNeg : Int32).toNatClampNeg) m Φ K7 K74 K125)) ∧ (¬ m.2 17 (x1 : Int32).toNatClampNeg ≤ m.2 17 (m.2 14 (x1 : Int32).toNatClampNeg : Int32).toNatClampNeg → (vp_in (x1) 3300 ∧ w_Mo_findLoose_65 X (x1) (m.2 14 (x1 : Int32).toNatClampNeg) (m.2 14 (x1 : Int32).toNatClampNeg) (m.2 17 (x1 : Int32).toNatClampNeg) m Φ K7 K74 K125))))))) ∧ (¬ m.2 26 (x1 : Int32).toNatClampNeg = 0 → w_Mo_findLoose_66 X (x1) m Φ K7 K74 K125)))))
theorem t_Mo_findLoose_7 {X : MX} {a0 : Array Value} (F : mF X a0) {d : Nat} {x1 : Int32} {o2 o3 : Option Value} {m : MS} {σ : jS} {Φ : Option Value → MS → Prop} {K7 : Int32 → MS → Prop} {K74 : Int32 → MS → Prop} {K125 : Int32 → Int32 → Int32 → MS → Prop} (hV : MV X m σ) (h : w_Mo_findLoose_7 X x1 m Φ K7 K74 K125) (hK7 : ∀ (x1 : Int32) (o2 o3 : Option Value) (m : MS) (σ : jS), MV X m σ → K7 x1 m → jW X.1 X.2.1 jcl X.2.2.1 X.2.2.2.1 (d + 0) y_Mo_findLoose 7 [some (.ref (mo X)), some (.int x1), o2, o3] [] σ (mQ X Φ σ)) (hK74 : ∀ (x1 : Int32) (o2 o3 : Option Value) (m : MS) (σ : jS), MV X m σ → K74 x1 m → jW X.1 X.2.1 jcl X.2.2.1 X.2.2.2.1 (d + 0) y_Mo_findLoose 74 [some (.ref (mo X)), some (.int x1), o2, o3] [] σ (mQ X Φ σ)) (hK125 : ∀ (x1 x2 x3 : Int32) (m : MS) (σ : jS), MV X m σ → K125 x1 x2 x3 m → jW X.1 X.2.1 jcl X.2.2.1 X.2.2.2.1 (d + 0) y_Mo_findLoose 125 [some (.ref (mo X)), some (.int x1), some (.int x2), some (.int x3)] [] σ (mQ X Φ σ)) : jW X.1 X.2.1 jcl X.2.2.1 X.2.2.2.1 (d + 0) y_Mo_findLoose 7 [some (.ref (mo X)), some (.int x1), o2, o3] [] σ (mQ X Φ σ) := by
  unfold w_Mo_findLoose_7 at h
  refine jW.iload_n (dx_Mo_findLoose 5 (e := (7, .iload_n 1, 1)) rfl) rfl rfl (pc' := 8) rfl ?_
  refine jW.if_le (dx_Mo_findLoose 6 (e := (8, .ifCond .le 64, 3)) rfl) 72 (by decide) (pc' := 11) rfl (fun c => ?_) (fun c => ?_)
  · replace h := h.1 c
    refine jW.iconst (v := 1) (dx_Mo_findLoose 42 (e := (72, .iconst 1, 1)) rfl) (by decide) (pc' := 73) rfl ?_
    refine jW.istore_n (dx_Mo_findLoose 43 (e := (73, .istore_n 1, 1)) rfl) rfl (by decide) rfl (pc' := 74) rfl ?_
    exact hK74 _ _ _ _ _ hV h
  · replace h := h.2 c
    refine jW.aload_n (dx_Mo_findLoose 7 (e := (11, .aload_n 0, 1)) rfl) rfl rfl (pc' := 12) rfl ?_
    refine jW.mga F hV f_Mo_findLoose_12 (by decide) (pc' := 15) rfl ?_
    refine jW.iload_n (dx_Mo_findLoose 9 (e := (15, .iload_n 1, 1)) rfl) rfl rfl (pc' := 16) rfl ?_
    refine jW.mlz F hV (dx_Mo_findLoose 10 (e := (16, .baload, 1)) rfl) (by decide) rfl h.1 (pc' := 17) rfl ?_
    replace h := h.2
    refine jW.if_eq (dx_Mo_findLoose 11 (e := (17, .ifCond .eq 6, 3)) rfl) 23 (by decide) (pc' := 20) rfl (fun c => ?_) (fun c => ?_)
    · replace h := h.1 c
      refine jW.aload_n (dx_Mo_findLoose 13 (e := (23, .aload_n 0, 1)) rfl) rfl rfl (pc' := 24) rfl ?_
      refine jW.mga F hV f_Mo_findLoose_24 (by decide) (pc' := 27) rfl ?_
      refine jW.iload_n (dx_Mo_findLoose 15 (e := (27, .iload_n 1, 1)) rfl) rfl rfl (pc' := 28) rfl ?_
      refine jW.mla F hV (dx_Mo_findLoose 16 (e := (28, .iaload, 1)) rfl) (by decide) rfl h.1 (pc' := 29) rfl ?_
      replace h := h.2
      refine jW.istore_n (dx_Mo_findLoose 17 (e := (29, .istore_n 2, 1)) rfl) rfl (by decide) rfl (pc' := 30) rfl ?_
      refine jW.aload_n (dx_Mo_findLoose 18 (e := (30, .aload_n 0, 1)) rfl) rfl rfl (pc' := 31) rfl ?_
      refine jW.mga F hV f_Mo_findLoose_31 (by decide) (pc' := 34) rfl ?_
      refine jW.iload_n (dx_Mo_findLoose 20 (e := (34, .iload_n 2, 1)) rfl) rfl rfl (pc' := 35) rfl ?_
      refine jW.aload_n (dx_Mo_findLoose 21 (e := (35, .aload_n 0, 1)) rfl) rfl rfl (pc' := 36) rfl ?_
      refine jW.mga F hV f_Mo_findLoose_36 (by decide) (pc' := 39) rfl ?_
      refine jW.iload_n (dx_Mo_findLoose 23 (e := (39, .iload_n 1, 1)) rfl) rfl rfl (pc' := 40) rfl ?_
      refine jW.mla F hV (dx_Mo_findLoose 24 (e := (40, .iaload, 1)) rfl) (by decide) rfl h.1 (pc' := 41) rfl ?_
      replace h := h.2
      refine jW.aload_n (dx_Mo_findLoose 25 (e := (41, .aload_n 0, 1)) rfl) rfl rfl (pc' := 42) rfl ?_
      refine jW.mga F hV f_Mo_findLoose_42 (by decide) (pc' := 45) rfl ?_
      refine jW.iload_n (dx_Mo_findLoose 27 (e := (45, .iload_n 2, 1)) rfl) rfl rfl (pc' := 46) rfl ?_
      refine jW.mla F hV (dx_Mo_findLoose 28 (e := (46, .iaload, 1)) rfl) (by decide) rfl h.1 (pc' := 47) rfl ?_
      replace h := h.2
      refine jW.icmp_le (dx_Mo_findLoose 29 (e := (47, .if_icmp .le 12, 3)) rfl) 59 (by decide) (pc' := 50) rfl (fun c => ?_) (fun c => ?_)
      · replace h := h.1 c
        refine jW.aload_n (dx_Mo_findLoose 35 (e := (59, .aload_n 0, 1)) rfl) rfl rfl (pc' := 60) rfl ?_
        refine jW.mga F hV f_Mo_findLoose_60 (by decide) (pc' := 63) rfl ?_
        refine jW.iload_n (dx_Mo_findLoose 37 (e := (63, .iload_n 2, 1)) rfl) rfl rfl (pc' := 64) rfl ?_
        refine jW.mla F hV (dx_Mo_findLoose 38 (e := (64, .iaload, 1)) rfl) (by decide) rfl h.1 (pc' := 65) rfl ?_
        replace h := h.2
        exact t_Mo_findLoose_65 F hV h hK7 hK74 hK125
      · replace h := h.2 c
        refine jW.aload_n (dx_Mo_findLoose 30 (e := (50, .aload_n 0, 1)) rfl) rfl rfl (pc' := 51) rfl ?_
        refine jW.mga F hV f_Mo_findLoose_51 (by decide) (pc' := 54) rfl ?_
        refine jW.iload_n (dx_Mo_findLoose 32 (e := (54, .iload_n 1, 1)) rfl) rfl rfl (pc' := 55) rfl ?_
        refine jW.mla F hV (dx_Mo_findLoose 33 (e := (55, .iaload, 1)) rfl) (by decide) rfl h.1 (pc' := 56) rfl ?_
        replace h := h.2
        refine jW.goto (dx_Mo_findLoose 34 (e := (56, .goto 9, 3)) rfl) 65 (by decide) ?_
        exact t_Mo_findLoose_65 F hV h hK7 hK74 hK125
    · replace h := h.2 c
      refine jW.goto (dx_Mo_findLoose 12 (e := (20, .goto 46, 3)) rfl) 66 (by decide) ?_
      exact t_Mo_findLoose_66 F hV h hK7 hK74 hK125
def w_Mo_findLoose_0 (X : MX) (m : MS) (Φ : Option Value → MS → Prop) (K7 : Int32 → MS → Prop) (K74 : Int32 → MS → Prop) (K125 : Int32 → Int32 → Int32 → MS → Prop) : Prop := K7 ((m.1 28) - 1) m
theorem t_Mo_findLoose_0 {X : MX} {a0 : Array Value} (F : mF X a0) {d : Nat} {o1 o2 o3 : Option Value} {m : MS} {σ : jS} {Φ : Option Value → MS → Prop} {K7 : Int32 → MS → Prop} {K74 : Int32 → MS → Prop} {K125 : Int32 → Int32 → Int32 → MS → Prop} (hV : MV X m σ) (h : w_Mo_findLoose_0 X m Φ K7 K74 K125) (hK7 : ∀ (x1 : Int32) (o2 o3 : Option Value) (m : MS) (σ : jS), MV X m σ → K7 x1 m → jW X.1 X.2.1 jcl X.2.2.1 X.2.2.2.1 (d + 0) y_Mo_findLoose 7 [some (.ref (mo X)), some (.int x1), o2, o3] [] σ (mQ X Φ σ)) (hK74 : ∀ (x1 : Int32) (o2 o3 : Option Value) (m : MS) (σ : jS), MV X m σ → K74 x1 m → jW X.1 X.2.1 jcl X.2.2.1 X.2.2.2.1 (d + 0) y_Mo_findLoose 74 [some (.ref (mo X)), some (.int x1), o2, o3] [] σ (mQ X Φ σ)) (hK125 : ∀ (x1 x2 x3 : Int32) (m : MS) (σ : jS), MV X m σ → K125 x1 x2 x3 m → jW X.1 X.2.1 jcl X.2.2.1 X.2.2.2.1 (d + 0) y_Mo_findLoose 125 [some (.ref (mo X)), some (.int x1), some (.int x2), some (.int x3)] [] σ (mQ X Φ σ)) : jW X.1 X.2.1 jcl X.2.2.1 X.2.2.2.1 (d + 0) y_Mo_findLoose 0 [some (.ref (mo X)), o1, o2, o3] [] σ (mQ X Φ σ) := by
  unfold w_Mo_findLoose_0 at h
  refine jW.aload_n (dx_Mo_findLoose 0 (e := (0, .aload_n 0, 1)) rfl) rfl rfl (pc' := 1) rfl ?_
  refine jW.mgi F hV f_Mo_findLoose_1 (by decide) (pc' := 4) rfl ?_
  refine jW.iconst (v := 1) (dx_Mo_findLoose 2 (e := (4, .iconst 1, 1)) rfl) (by decide) (pc' := 5) rfl ?_
  refine jW.isub (dx_Mo_findLoose 3 (e := (5, .isub, 1)) rfl) (pc' := 6) rfl ?_
  refine jW.istore_n (dx_Mo_findLoose 4 (e := (6, .istore_n 1, 1)) rfl) rfl (by decide) rfl (pc' := 7) rfl ?_
  exact hK7 _ _ _ _ _ hV h
theorem g_Mo_findLoose {X : MX} {a0 : Array Value} (F : mF X a0) {m : MS} {Φ : Option Value → MS → Prop} {I7 : Nat → Int32 → MS → Prop} {I74 : Nat → Int32 → MS → Prop} {I125 : Nat → Int32 → Int32 → Int32 → MS → Prop} (he : w_Mo_findLoose_0 X m Φ (fun x1 m => ∃ j, I7 j x1 m) (fun x1 m => ∃ j, I74 j x1 m) (fun x1 x2 x3 m => ∃ j, I125 j x1 x2 x3 m)) (h74 : ∀ (n : Nat) (x1 : Int32) (m : MS), I74 n x1 m → w_Mo_findLoose_74 X x1 m Φ (fun x1 m => ∃ j, j < n ∧ I74 j x1 m) (fun x1 x2 x3 m => ∃ j, j < n ∧ I125 j x1 x2 x3 m)) (h125 : ∀ (n : Nat) (x1 x2 x3 : Int32) (m : MS), I125 n x1 x2 x3 m → w_Mo_findLoose_125 X x1 x2 x3 m Φ (fun x1 m => ∃ j, j < n ∧ I74 j x1 m) (fun x1 x2 x3 m => ∃ j, j < n ∧ I125 j x1 x2 x3 m)) (h7 : ∀ (n : Nat) (x1 : Int32) (m : MS), I7 n x1 m → w_Mo_findLoose_7 X x1 m Φ (fun x1 m => ∃ j, j < n ∧ I7 j x1 m) (fun x1 m => ∃ j, I74 j x1 m) (fun x1 x2 x3 m => ∃ j, I125 j x1 x2 x3 m)) : mE X 0 y_Mo_findLoose [.ref (mo X)] m Φ := by
  intro d σ hV
  have hL74 : ∀ n, (∀ (x1 : Int32) (o2 o3 : Option Value) (m : MS) (σ : jS), MV X m σ → I74 n x1 m → jW X.1 X.2.1 jcl X.2.2.1 X.2.2.2.1 (d + 0) y_Mo_findLoose 74 [some (.ref (mo X)), some (.int x1), o2, o3] [] σ (mQ X Φ σ)) ∧ (∀ (x1 x2 x3 : Int32) (m : MS) (σ : jS), MV X m σ → I125 n x1 x2 x3 m → jW X.1 X.2.1 jcl X.2.2.1 X.2.2.2.1 (d + 0) y_Mo_findLoose 125 [some (.ref (mo X)), some (.int x1), some (.int x2), some (.int x3)] [] σ (mQ X Φ σ)) := by
    intro n
    induction n using Nat.strongRecOn with
    | _ n ih =>
      exact ⟨fun x1 o2 o3 m σ hV hI => t_Mo_findLoose_74 F hV (h74 n x1 m hI) (fun x1 o2 o3 m σ hV ⟨j, hj, hI⟩ => (ih j hj).1 x1 o2 o3 m σ hV hI) (fun x1 x2 x3 m σ hV ⟨j, hj, hI⟩ => (ih j hj).2 x1 x2 x3 m σ hV hI), fun x1 x2 x3 m σ hV hI => t_Mo_findLoose_125 F hV (h125 n x1 x2 x3 m hI) (fun x1 o2 o3 m σ hV ⟨j, hj, hI⟩ => (ih j hj).1 x1 o2 o3 m σ hV hI) (fun x1 x2 x3 m σ hV ⟨j, hj, hI⟩ => (ih j hj).2 x1 x2 x3 m σ hV hI)⟩
  have hL7 : ∀ n, (∀ (x1 : Int32) (o2 o3 : Option Value) (m : MS) (σ : jS), MV X m σ → I7 n x1 m → jW X.1 X.2.1 jcl X.2.2.1 X.2.2.2.1 (d + 0) y_Mo_findLoose 7 [some (.ref (mo X)), some (.int x1), o2, o3] [] σ (mQ X Φ σ)) := by
    intro n
    induction n using Nat.strongRecOn with
    | _ n ih =>
      exact fun x1 o2 o3 m σ hV hI => t_Mo_findLoose_7 F hV (h7 n x1 m hI) (fun x1 o2 o3 m σ hV ⟨j, hj, hI⟩ => (ih j hj) x1 o2 o3 m σ hV hI) (fun x1 o2 o3 m σ hV ⟨j, hI⟩ => (hL74 j).1 x1 o2 o3 m σ hV hI) (fun x1 x2 x3 m σ hV ⟨j, hI⟩ => (hL74 j).2 x1 x2 x3 m σ hV hI)
  refine jE.of (by decide) (by simp [Value.category]) (Nat.le_of_ble_eq_true rfl) rfl ?_
  exact t_Mo_findLoose_0 F hV he (fun x1 o2 o3 m σ hV ⟨j, hI⟩ => (hL7 j) x1 o2 o3 m σ hV hI) (fun x1 o2 o3 m σ hV ⟨j, hI⟩ => (hL74 j).1 x1 o2 o3 m σ hV hI) (fun x1 x2 x3 m σ hV ⟨j, hI⟩ => (hL74 j).2 x1 x2 x3 m σ hV hI)
def w_Mo_countAgain_57 (X : MX) (x1 : Int32) (m : MS) (Φ : Option Value → MS → Prop) (K7 : Int32 → MS → Prop) : Prop := K7 (x1 + 1) m
theorem t_Mo_countAgain_57 {X : MX} {a0 : Array Value} (F : mF X a0) {d : Nat} {x1 : Int32} {m : MS} {σ : jS} {Φ : Option Value → MS → Prop} {K7 : Int32 → MS → Prop} (hV : MV X m σ) (h : w_Mo_countAgain_57 X x1 m Φ K7) (hK7 : ∀ (x1 : Int32) (m : MS) (σ : jS), MV X m σ → K7 x1 m → jW X.1 X.2.1 jcl X.2.2.1 X.2.2.2.1 (d + 0) y_Mo_countAgain 7 [some (.ref (mo X)), some (.int x1)] [] σ (mQ X Φ σ)) : jW X.1 X.2.1 jcl X.2.2.1 X.2.2.2.1 (d + 0) y_Mo_countAgain 57 [some (.ref (mo X)), some (.int x1)] [] σ (mQ X Φ σ) := by
  unfold w_Mo_countAgain_57 at h
  refine jW.iinc (v := _ + (1)) (dx_Mo_countAgain 33 (e := (57, .iinc 1 1, 3)) rfl) rfl rfl (by decide) rfl (pc' := 60) rfl ?_
  refine jW.goto (dx_Mo_countAgain 34 (e := (60, .goto (-53), 3)) rfl) 7 (by decide) ?_
  exact hK7 _ _ _ hV h
def w_Mo_countAgain_7 (X : MX) (x1 : Int32) (m : MS) (Φ : Option Value → MS → Prop) (K7 : Int32 → MS → Prop) : Prop := ((m.1 28 ≤ x1 → Φ none m) ∧ (¬ m.1 28 ≤ x1 → (vp_in (x1) 3300 ∧ ((m.2 26 (x1 : Int32).toNatClampNeg = 0 → (vp_in (m.1 39) 3300 ∧ ∀ m1, m1 = mA m 37 (m.1 39 : Int32).toNatClampNeg (x1) → (vp_in (x1) 3300 ∧ ∀ m2, m2 = mA m1 38 (x1 : Int32).toNatClampNeg (m1.1 39) → ∀ m3, m3 = mI m2 39 ((m2.1 39) + 1) → w_Mo_countAgain_57 X (x1) m3 Φ K7))) ∧ (¬ m.2 26 (x1 : Int32).toNatClampNeg = 0 → w_Mo_countAgain_57 X (x1) m Φ K7)))))
theorem t_Mo_countAgain_7 {X : MX} {a0 : Array Value} (F : mF X a0) {d : Nat} {x1 : Int32} {m : MS} {σ : jS} {Φ : Option Value → MS → Prop} {K7 : Int32 → MS → Prop} (hV : MV X m σ) (h : w_Mo_countAgain_7 X x1 m Φ K7) (hK7 : ∀ (x1 : Int32) (m : MS) (σ : jS), MV X m σ → K7 x1 m → jW X.1 X.2.1 jcl X.2.2.1 X.2.2.2.1 (d + 0) y_Mo_countAgain 7 [some (.ref (mo X)), some (.int x1)] [] σ (mQ X Φ σ)) : jW X.1 X.2.1 jcl X.2.2.1 X.2.2.2.1 (d + 0) y_Mo_countAgain 7 [some (.ref (mo X)), some (.int x1)] [] σ (mQ X Φ σ) := by
  unfold w_Mo_countAgain_7 at h
  refine jW.iload_n (dx_Mo_countAgain 5 (e := (7, .iload_n 1, 1)) rfl) rfl rfl (pc' := 8) rfl ?_
  refine jW.aload_n (dx_Mo_countAgain 6 (e := (8, .aload_n 0, 1)) rfl) rfl rfl (pc' := 9) rfl ?_
  refine jW.mgi F hV f_Mo_countAgain_9 (by decide) (pc' := 12) rfl ?_
  refine jW.icmp_ge (dx_Mo_countAgain 8 (e := (12, .if_icmp .ge 51, 3)) rfl) 63 (by decide) (pc' := 15) rfl (fun c => ?_) (fun c => ?_)
  · replace h := h.1 c
    exact jW.vret (dx_Mo_countAgain 35 (e := (63, .return_, 1)) rfl) rfl ⟨FR.rfl, _, hV, h⟩
  · replace h := h.2 c
    refine jW.aload_n (dx_Mo_countAgain 9 (e := (15, .aload_n 0, 1)) rfl) rfl rfl (pc' := 16) rfl ?_
    refine jW.mga F hV f_Mo_countAgain_16 (by decide) (pc' := 19) rfl ?_
    refine jW.iload_n (dx_Mo_countAgain 11 (e := (19, .iload_n 1, 1)) rfl) rfl rfl (pc' := 20) rfl ?_
    refine jW.mlz F hV (dx_Mo_countAgain 12 (e := (20, .baload, 1)) rfl) (by decide) rfl h.1 (pc' := 21) rfl ?_
    replace h := h.2
    refine jW.if_eq (dx_Mo_countAgain 13 (e := (21, .ifCond .eq 6, 3)) rfl) 27 (by decide) (pc' := 24) rfl (fun c => ?_) (fun c => ?_)
    · replace h := h.1 c
      refine jW.aload_n (dx_Mo_countAgain 15 (e := (27, .aload_n 0, 1)) rfl) rfl rfl (pc' := 28) rfl ?_
      refine jW.mga F hV f_Mo_countAgain_28 (by decide) (pc' := 31) rfl ?_
      refine jW.aload_n (dx_Mo_countAgain 17 (e := (31, .aload_n 0, 1)) rfl) rfl rfl (pc' := 32) rfl ?_
      refine jW.mgi F hV f_Mo_countAgain_32 (by decide) (pc' := 35) rfl ?_
      refine jW.iload_n (dx_Mo_countAgain 19 (e := (35, .iload_n 1, 1)) rfl) rfl rfl (pc' := 36) rfl ?_
      refine jW.msa F hV (dx_Mo_countAgain 20 (e := (36, .iastore, 1)) rfl) (by decide) rfl h.1 (pc' := 37) rfl (fun σ hV => ?_)
      replace h := h.2 _ rfl
      refine jW.aload_n (dx_Mo_countAgain 21 (e := (37, .aload_n 0, 1)) rfl) rfl rfl (pc' := 38) rfl ?_
      refine jW.mga F hV f_Mo_countAgain_38 (by decide) (pc' := 41) rfl ?_
      refine jW.iload_n (dx_Mo_countAgain 23 (e := (41, .iload_n 1, 1)) rfl) rfl rfl (pc' := 42) rfl ?_
      refine jW.aload_n (dx_Mo_countAgain 24 (e := (42, .aload_n 0, 1)) rfl) rfl rfl (pc' := 43) rfl ?_
      refine jW.mgi F hV f_Mo_countAgain_43 (by decide) (pc' := 46) rfl ?_
      refine jW.msa F hV (dx_Mo_countAgain 26 (e := (46, .iastore, 1)) rfl) (by decide) rfl h.1 (pc' := 47) rfl (fun σ hV => ?_)
      replace h := h.2 _ rfl
      refine jW.aload_n (dx_Mo_countAgain 27 (e := (47, .aload_n 0, 1)) rfl) rfl rfl (pc' := 48) rfl ?_
      refine jW.dup (dx_Mo_countAgain 28 (e := (48, .dup, 1)) rfl) rfl (pc' := 49) rfl ?_
      refine jW.mgi F hV f_Mo_countAgain_49 (by decide) (pc' := 52) rfl ?_
      refine jW.iconst (v := 1) (dx_Mo_countAgain 30 (e := (52, .iconst 1, 1)) rfl) (by decide) (pc' := 53) rfl ?_
      refine jW.iadd (dx_Mo_countAgain 31 (e := (53, .iadd, 1)) rfl) (pc' := 54) rfl ?_
      refine jW.mpi F hV f_Mo_countAgain_54 (by decide) rfl rfl rfl (pc' := 57) rfl (fun σ hV => ?_)
      replace h := h _ rfl
      exact t_Mo_countAgain_57 F hV h hK7
    · replace h := h.2 c
      refine jW.goto (dx_Mo_countAgain 14 (e := (24, .goto 33, 3)) rfl) 57 (by decide) ?_
      exact t_Mo_countAgain_57 F hV h hK7
def w_Mo_countAgain_0 (X : MX) (m : MS) (Φ : Option Value → MS → Prop) (K7 : Int32 → MS → Prop) : Prop := ∀ m1, m1 = mI m 39 (0) → K7 (0) m1
theorem t_Mo_countAgain_0 {X : MX} {a0 : Array Value} (F : mF X a0) {d : Nat} {o1 : Option Value} {m : MS} {σ : jS} {Φ : Option Value → MS → Prop} {K7 : Int32 → MS → Prop} (hV : MV X m σ) (h : w_Mo_countAgain_0 X m Φ K7) (hK7 : ∀ (x1 : Int32) (m : MS) (σ : jS), MV X m σ → K7 x1 m → jW X.1 X.2.1 jcl X.2.2.1 X.2.2.2.1 (d + 0) y_Mo_countAgain 7 [some (.ref (mo X)), some (.int x1)] [] σ (mQ X Φ σ)) : jW X.1 X.2.1 jcl X.2.2.1 X.2.2.2.1 (d + 0) y_Mo_countAgain 0 [some (.ref (mo X)), o1] [] σ (mQ X Φ σ) := by
  unfold w_Mo_countAgain_0 at h
  refine jW.aload_n (dx_Mo_countAgain 0 (e := (0, .aload_n 0, 1)) rfl) rfl rfl (pc' := 1) rfl ?_
  refine jW.iconst (v := 0) (dx_Mo_countAgain 1 (e := (1, .iconst 0, 1)) rfl) (by decide) (pc' := 2) rfl ?_
  refine jW.mpi F hV f_Mo_countAgain_2 (by decide) rfl rfl rfl (pc' := 5) rfl (fun σ hV => ?_)
  replace h := h _ rfl
  refine jW.iconst (v := 0) (dx_Mo_countAgain 3 (e := (5, .iconst 0, 1)) rfl) (by decide) (pc' := 6) rfl ?_
  refine jW.istore_n (dx_Mo_countAgain 4 (e := (6, .istore_n 1, 1)) rfl) rfl (by decide) rfl (pc' := 7) rfl ?_
  exact hK7 _ _ _ hV h
theorem g_Mo_countAgain {X : MX} {a0 : Array Value} (F : mF X a0) {m : MS} {Φ : Option Value → MS → Prop} {I7 : Nat → Int32 → MS → Prop} (he : w_Mo_countAgain_0 X m Φ (fun x1 m => ∃ j, I7 j x1 m)) (h7 : ∀ (n : Nat) (x1 : Int32) (m : MS), I7 n x1 m → w_Mo_countAgain_7 X x1 m Φ (fun x1 m => ∃ j, j < n ∧ I7 j x1 m)) : mE X 0 y_Mo_countAgain [.ref (mo X)] m Φ := by
  intro d σ hV
  have hL7 : ∀ n, (∀ (x1 : Int32) (m : MS) (σ : jS), MV X m σ → I7 n x1 m → jW X.1 X.2.1 jcl X.2.2.1 X.2.2.2.1 (d + 0) y_Mo_countAgain 7 [some (.ref (mo X)), some (.int x1)] [] σ (mQ X Φ σ)) := by
    intro n
    induction n using Nat.strongRecOn with
    | _ n ih =>
      exact fun x1 m σ hV hI => t_Mo_countAgain_7 F hV (h7 n x1 m hI) (fun x1 m σ hV ⟨j, hj, hI⟩ => (ih j hj) x1 m σ hV hI)
  refine jE.of (by decide) (by simp [Value.category]) (Nat.le_of_ble_eq_true rfl) rfl ?_
  exact t_Mo_countAgain_0 F hV he (fun x1 m σ hV ⟨j, hI⟩ => (hL7 j) x1 m σ hV hI)
def w_Mo_fault_0 (X : MX) (m : MS) (Φ : Option Value → MS → Prop) : Prop := ∀ m1, m1 = mI m 0 (0) → Φ (some (.int (m1.1 5))) m1
theorem t_Mo_fault_0 {X : MX} {a0 : Array Value} (F : mF X a0) {d : Nat} {m : MS} {σ : jS} {Φ : Option Value → MS → Prop} (hV : MV X m σ) (h : w_Mo_fault_0 X m Φ) : jW X.1 X.2.1 jcl X.2.2.1 X.2.2.2.1 (d + 0) y_Mo_fault 0 [some (.ref (mo X))] [] σ (mQ X Φ σ) := by
  unfold w_Mo_fault_0 at h
  refine jW.aload_n (dx_Mo_fault 0 (e := (0, .aload_n 0, 1)) rfl) rfl rfl (pc' := 1) rfl ?_
  refine jW.iconst (v := 0) (dx_Mo_fault 1 (e := (1, .iconst 0, 1)) rfl) (by decide) (pc' := 2) rfl ?_
  refine jW.mpi F hV f_Mo_fault_2 (by decide) rfl rfl rfl (pc' := 5) rfl (fun σ hV => ?_)
  replace h := h _ rfl
  refine jW.aload_n (dx_Mo_fault 3 (e := (5, .aload_n 0, 1)) rfl) rfl rfl (pc' := 6) rfl ?_
  refine jW.mgi F hV f_Mo_fault_6 (by decide) (pc' := 9) rfl ?_
  exact jW.iret (dx_Mo_fault 5 (e := (9, .ireturn, 1)) rfl) rfl ⟨FR.rfl, _, hV, h⟩
theorem g_Mo_fault {X : MX} {a0 : Array Value} (F : mF X a0) {m : MS} {Φ : Option Value → MS → Prop} (he : w_Mo_fault_0 X m Φ) : mE X 0 y_Mo_fault [.ref (mo X)] m Φ := by
  intro d σ hV
  refine jE.of (by decide) (by simp [Value.category]) (Nat.le_of_ble_eq_true rfl) rfl ?_
  exact t_Mo_fault_0 F hV he
def w_Mo_block_106 (X : MX) (x1 x2 x3 x4 s0 : Int32) (m : MS) (Φ : Option Value → MS → Prop) : Prop := Φ (some (.int (s0))) m
theorem t_Mo_block_106 {X : MX} {a0 : Array Value} (F : mF X a0) {d : Nat} {x1 x2 x3 x4 s0 : Int32} {m : MS} {σ : jS} {Φ : Option Value → MS → Prop} (hV : MV X m σ) (h : w_Mo_block_106 X x1 x2 x3 x4 s0 m Φ) : jW X.1 X.2.1 jcl X.2.2.1 X.2.2.2.1 (d + 1) y_Mo_block 106 [some (.ref (mo X)), some (.int x1), some (.int x2), some (.int x3), some (.int x4)] [.int s0] σ (mQ X Φ σ) := by
  unfold w_Mo_block_106 at h
  exact jW.iret (dx_Mo_block 34 (e := (106, .ireturn, 1)) rfl) rfl ⟨FR.rfl, _, hV, h⟩
def w_Mo_block_129 (X : MX) (x1 x2 x3 x4 s0 : Int32) (m : MS) (Φ : Option Value → MS → Prop) : Prop := Φ (some (.int (s0))) m
theorem t_Mo_block_129 {X : MX} {a0 : Array Value} (F : mF X a0) {d : Nat} {x1 x2 x3 x4 s0 : Int32} {m : MS} {σ : jS} {Φ : Option Value → MS → Prop} (hV : MV X m σ) (h : w_Mo_block_129 X x1 x2 x3 x4 s0 m Φ) : jW X.1 X.2.1 jcl X.2.2.1 X.2.2.2.1 (d + 1) y_Mo_block 129 [some (.ref (mo X)), some (.int x1), some (.int x2), some (.int x3), some (.int x4)] [.int s0] σ (mQ X Φ σ) := by
  unfold w_Mo_block_129 at h
  exact jW.iret (dx_Mo_block 47 (e := (129, .ireturn, 1)) rfl) rfl ⟨FR.rfl, _, hV, h⟩
def w_Mo_block_119 (X : MX) (x1 x2 x3 x4 : Int32) (m : MS) (Φ : Option Value → MS → Prop) : Prop := (vp_in (x3) 3300 ∧ w_Mo_block_129 X (x1) (x2) (x3) (x4) (m.2 15 (x3 : Int32).toNatClampNeg) m Φ)
theorem t_Mo_block_119 {X : MX} {a0 : Array Value} (F : mF X a0) {d : Nat} {x1 x2 x3 x4 : Int32} {m : MS} {σ : jS} {Φ : Option Value → MS → Prop} (hV : MV X m σ) (h : w_Mo_block_119 X x1 x2 x3 x4 m Φ) : jW X.1 X.2.1 jcl X.2.2.1 X.2.2.2.1 (d + 1) y_Mo_block 119 [some (.ref (mo X)), some (.int x1), some (.int x2), some (.int x3), some (.int x4)] [] σ (mQ X Φ σ) := by
  unfold w_Mo_block_119 at h
  refine jW.aload_n (dx_Mo_block 41 (e := (119, .aload_n 0, 1)) rfl) rfl rfl (pc' := 120) rfl ?_
  refine jW.mga F hV f_Mo_block_120 (by decide) (pc' := 123) rfl ?_
  refine jW.iload_n (dx_Mo_block 43 (e := (123, .iload_n 3, 1)) rfl) rfl rfl (pc' := 124) rfl ?_
  refine jW.mla F hV (dx_Mo_block 44 (e := (124, .iaload, 1)) rfl) (by decide) rfl h.1 (pc' := 125) rfl ?_
  replace h := h.2
  refine jW.goto (dx_Mo_block 45 (e := (125, .goto 4, 3)) rfl) 129 (by decide) ?_
  exact t_Mo_block_129 F hV h
def w_Mo_block_144 (X : MX) (x1 x2 x3 x4 s0 : Int32) (m : MS) (Φ : Option Value → MS → Prop) : Prop := Φ (some (.int (s0))) m
theorem t_Mo_block_144 {X : MX} {a0 : Array Value} (F : mF X a0) {d : Nat} {x1 x2 x3 x4 s0 : Int32} {m : MS} {σ : jS} {Φ : Option Value → MS → Prop} (hV : MV X m σ) (h : w_Mo_block_144 X x1 x2 x3 x4 s0 m Φ) : jW X.1 X.2.1 jcl X.2.2.1 X.2.2.2.1 (d + 1) y_Mo_block 144 [some (.ref (mo X)), some (.int x1), some (.int x2), some (.int x3), some (.int x4)] [.int s0] σ (mQ X Φ σ) := by
  unfold w_Mo_block_144 at h
  exact jW.iret (dx_Mo_block 56 (e := (144, .ireturn, 1)) rfl) rfl ⟨FR.rfl, _, hV, h⟩
def w_Mo_block_168 (X : MX) (x1 x2 x3 x4 s0 : Int32) (m : MS) (Φ : Option Value → MS → Prop) : Prop := Φ (some (.int (s0))) m
theorem t_Mo_block_168 {X : MX} {a0 : Array Value} (F : mF X a0) {d : Nat} {x1 x2 x3 x4 s0 : Int32} {m : MS} {σ : jS} {Φ : Option Value → MS → Prop} (hV : MV X m σ) (h : w_Mo_block_168 X x1 x2 x3 x4 s0 m Φ) : jW X.1 X.2.1 jcl X.2.2.1 X.2.2.2.1 (d + 1) y_Mo_block 168 [some (.ref (mo X)), some (.int x1), some (.int x2), some (.int x3), some (.int x4)] [.int s0] σ (mQ X Φ σ) := by
  unfold w_Mo_block_168 at h
  exact jW.iret (dx_Mo_block 69 (e := (168, .ireturn, 1)) rfl) rfl ⟨FR.rfl, _, hV, h⟩
def w_Mo_block_158 (X : MX) (x1 x2 x3 x4 : Int32) (m : MS) (Φ : Option Value → MS → Prop) : Prop := w_Mo_block_168 X (x1) (x2) (x3) (x4) (0) m Φ
theorem t_Mo_block_158 {X : MX} {a0 : Array Value} (F : mF X a0) {d : Nat} {x1 x2 x3 x4 : Int32} {m : MS} {σ : jS} {Φ : Option Value → MS → Prop} (hV : MV X m σ) (h : w_Mo_block_158 X x1 x2 x3 x4 m Φ) : jW X.1 X.2.1 jcl X.2.2.1 X.2.2.2.1 (d + 1) y_Mo_block 158 [some (.ref (mo X)), some (.int x1), some (.int x2), some (.int x3), some (.int x4)] [] σ (mQ X Φ σ) := by
  unfold w_Mo_block_158 at h
  refine jW.iconst (v := 0) (dx_Mo_block 63 (e := (158, .iconst 0, 1)) rfl) (by decide) (pc' := 159) rfl ?_
  refine jW.goto (dx_Mo_block 64 (e := (159, .goto 9, 3)) rfl) 168 (by decide) ?_
  exact t_Mo_block_168 F hV h
def w_Mo_block_186 (X : MX) (x1 x2 x3 x4 s0 : Int32) (m : MS) (Φ : Option Value → MS → Prop) : Prop := Φ (some (.int (s0))) m
theorem t_Mo_block_186 {X : MX} {a0 : Array Value} (F : mF X a0) {d : Nat} {x1 x2 x3 x4 s0 : Int32} {m : MS} {σ : jS} {Φ : Option Value → MS → Prop} (hV : MV X m σ) (h : w_Mo_block_186 X x1 x2 x3 x4 s0 m Φ) : jW X.1 X.2.1 jcl X.2.2.1 X.2.2.2.1 (d + 1) y_Mo_block 186 [some (.ref (mo X)), some (.int x1), some (.int x2), some (.int x3), some (.int x4)] [.int s0] σ (mQ X Φ σ) := by
  unfold w_Mo_block_186 at h
  exact jW.iret (dx_Mo_block 79 (e := (186, .ireturn, 1)) rfl) rfl ⟨FR.rfl, _, hV, h⟩
def w_Mo_block_217 (X : MX) (x1 x2 x3 x4 s0 : Int32) (m : MS) (Φ : Option Value → MS → Prop) : Prop := Φ (some (.int (s0))) m
theorem t_Mo_block_217 {X : MX} {a0 : Array Value} (F : mF X a0) {d : Nat} {x1 x2 x3 x4 s0 : Int32} {m : MS} {σ : jS} {Φ : Option Value → MS → Prop} (hV : MV X m σ) (h : w_Mo_block_217 X x1 x2 x3 x4 s0 m Φ) : jW X.1 X.2.1 jcl X.2.2.1 X.2.2.2.1 (d + 1) y_Mo_block 217 [some (.ref (mo X)), some (.int x1), some (.int x2), some (.int x3), some (.int x4)] [.int s0] σ (mQ X Φ σ) := by
  unfold w_Mo_block_217 at h
  exact jW.iret (dx_Mo_block 99 (e := (217, .ireturn, 1)) rfl) rfl ⟨FR.rfl, _, hV, h⟩
def w_Mo_block_241 (X : MX) (x1 x2 x3 x4 s0 : Int32) (m : MS) (Φ : Option Value → MS → Prop) : Prop := Φ (some (.int (s0))) m
theorem t_Mo_block_241 {X : MX} {a0 : Array Value} (F : mF X a0) {d : Nat} {x1 x2 x3 x4 s0 : Int32} {m : MS} {σ : jS} {Φ : Option Value → MS → Prop} (hV : MV X m σ) (h : w_Mo_block_241 X x1 x2 x3 x4 s0 m Φ) : jW X.1 X.2.1 jcl X.2.2.1 X.2.2.2.1 (d + 1) y_Mo_block 241 [some (.ref (mo X)), some (.int x1), some (.int x2), some (.int x3), some (.int x4)] [.int s0] σ (mQ X Φ σ) := by
  unfold w_Mo_block_241 at h
  exact jW.iret (dx_Mo_block 112 (e := (241, .ireturn, 1)) rfl) rfl ⟨FR.rfl, _, hV, h⟩
def w_Mo_block_231 (X : MX) (x1 x2 x3 x4 : Int32) (m : MS) (Φ : Option Value → MS → Prop) : Prop := (vp_in (x3) 3300 ∧ w_Mo_block_241 X (x1) (x2) (x3) (x4) (m.2 22 (x3 : Int32).toNatClampNeg) m Φ)
theorem t_Mo_block_231 {X : MX} {a0 : Array Value} (F : mF X a0) {d : Nat} {x1 x2 x3 x4 : Int32} {m : MS} {σ : jS} {Φ : Option Value → MS → Prop} (hV : MV X m σ) (h : w_Mo_block_231 X x1 x2 x3 x4 m Φ) : jW X.1 X.2.1 jcl X.2.2.1 X.2.2.2.1 (d + 1) y_Mo_block 231 [some (.ref (mo X)), some (.int x1), some (.int x2), some (.int x3), some (.int x4)] [] σ (mQ X Φ σ) := by
  unfold w_Mo_block_231 at h
  refine jW.aload_n (dx_Mo_block 106 (e := (231, .aload_n 0, 1)) rfl) rfl rfl (pc' := 232) rfl ?_
  refine jW.mga F hV f_Mo_block_232 (by decide) (pc' := 235) rfl ?_
  refine jW.iload_n (dx_Mo_block 108 (e := (235, .iload_n 3, 1)) rfl) rfl rfl (pc' := 236) rfl ?_
  refine jW.mla F hV (dx_Mo_block 109 (e := (236, .iaload, 1)) rfl) (by decide) rfl h.1 (pc' := 237) rfl ?_
  replace h := h.2
  refine jW.goto (dx_Mo_block 110 (e := (237, .goto 4, 3)) rfl) 241 (by decide) ?_
  exact t_Mo_block_241 F hV h
def w_Mo_block_0 (X : MX) (x1 x2 : Int32) (m : MS) (Φ : Option Value → MS → Prop) : Prop := ∀ m1, m1 = mI m 0 (0) → mE X 0 y_Mo_isBlock [.ref (mo X), .int (x1)] m1 (iP fun r2 m2 => ((r2 = 0 → Φ (some (.int (-1))) m2) ∧ (¬ r2 = 0 → (vp_in (x1) 3300 ∧ (vp_in (m2.2 37 (x1 : Int32).toNatClampNeg) 3300 ∧ (((x2).toInt < 0 ∨ 9 < (x2).toInt → Φ (some (.int (-1))) m2) ∧ (x2 = 0 → Φ (some (.int (m2.2 13 (m2.2 37 (x1 : Int32).toNatClampNeg : Int32).toNatClampNeg))) m2) ∧ (x2 = 1 → ((m2.2 37 (x1 : Int32).toNatClampNeg = 0 → w_Mo_block_106 X (x1) (x2) (m2.2 37 (x1 : Int32).toNatClampNeg) (m2.2 13 (m2.2 37 (x1 : Int32).toNatClampNeg : Int32).toNatClampNeg) (-1) m2 Φ) ∧ (¬ m2.2 37 (x1 : Int32).toNatClampNeg = 0 → (vp_in (m2.2 37 (x1 : Int32).toNatClampNeg) 3300 ∧ (vp_in (m2.2 14 (m2.2 37 (x1 : Int32).toNatClampNeg : Int32).toNatClampNeg) 3300 ∧ w_Mo_block_106 X (x1) (x2) (m2.2 37 (x1 : Int32).toNatClampNeg) (m2.2 13 (m2.2 37 (x1 : Int32).toNatClampNeg : Int32).toNatClampNeg) (m2.2 38 (m2.2 14 (m2.2 37 (x1 : Int32).toNatClampNeg : Int32).toNatClampNeg : Int32).toNatClampNeg) m2 Φ))))) ∧ (x2 = 2 → ((m2.2 13 (m2.2 37 (x1 : Int32).toNatClampNeg : Int32).toNatClampNeg = 5 → w_Mo_block_119 X (x1) (x2) (m2.2 37 (x1 : Int32).toNatClampNeg) (m2.2 13 (m2.2 37 (x1 : Int32).toNatClampNeg : Int32).toNatClampNeg) m2 Φ) ∧ (¬ m2.2 13 (m2.2 37 (x1 : Int32).toNatClampNeg : Int32).toNatClampNeg = 5 → ((m2.2 13 (m2.2 37 (x1 : Int32).toNatClampNeg : Int32).toNatClampNeg = 2 → w_Mo_block_119 X (x1) (x2) (m2.2 37 (x1 : Int32).toNatClampNeg) (m2.2 13 (m2.2 37 (x1 : Int32).toNatClampNeg : Int32).toNatClampNeg) m2 Φ) ∧ (¬ m2.2 13 (m2.2 37 (x1 : Int32).toNatClampNeg : Int32).toNatClampNeg = 2 → w_Mo_block_129 X (x1) (x2) (m2.2 37 (x1 : Int32).toNatClampNeg) (m2.2 13 (m2.2 37 (x1 : Int32).toNatClampNeg : Int32).toNatClampNeg) (0) m2 Φ))))) ∧ (x2 = 3 → (vp_in (m2.2 37 (x1 : Int32).toNatClampNeg) 3300 ∧ ((m2.2 27 (m2.2 37 (x1 : Int32).toNatClampNeg : Int32).toNatClampNeg = 0 → w_Mo_block_144 X (x1) (x2) (m2.2 37 (x1 : Int32).toNatClampNeg) (m2.2 13 (m2.2 37 (x1 : Int32).toNatClampNeg : Int32).toNatClampNeg) (0) m2 Φ) ∧ (¬ m2.2 27 (m2.2 37 (x1 : Int32).toNatClampNeg : Int32).toNatClampNeg = 0 → w_Mo_block_144 X (x1) (x2) (m2.2 37 (x1 : Int32).toNatClampNeg) (m2.2 13 (m2.2 37 (x1 : Int32).toNatClampNeg : Int32).toNatClampNeg) (1) m2 Φ)))) ∧ (x2 = 4 → ((m2.2 13 (m2.2 37 (x1 : Int32).toNatClampNeg : Int32).toNatClampNeg < 4 → w_Mo_block_158 X (x1) (x2) (m2.2 37 (x1 : Int32).toNatClampNeg) (m2.2 13 (m2.2 37 (x1 : Int32).toNatClampNeg : Int32).toNatClampNeg) m2 Φ) ∧ (¬ m2.2 13 (m2.2 37 (x1 : Int32).toNatClampNeg : Int32).toNatClampNeg < 4 → ((m2.2 13 (m2.2 37 (x1 : Int32).toNatClampNeg : Int32).toNatClampNeg = 6 → w_Mo_block_158 X (x1) (x2) (m2.2 37 (x1 : Int32).toNatClampNeg) (m2.2 13 (m2.2 37 (x1 : Int32).toNatClampNeg : Int32).toNatClampNeg) m2 Φ) ∧ (¬ m2.2 13 (m2.2 37 (x1 : Int32).toNatClampNeg : Int32).toNatClampNeg = 6 → (vp_in (m2.2 37 (x1 : Int32).toNatClampNeg) 3300 ∧ w_Mo_block_168 X (x1) (x2) (m2.2 37 (x1 : Int32).toNatClampNeg) (m2.2 13 (m2.2 37 (x1 : Int32).toNatClampNeg : Int32).toNatClampNeg) (m2.2 19 (m2.2 37 (x1 : Int32).toNatClampNeg : Int32).toNatClampNeg) m2 Φ)))))) ∧ (x2 = 5 → ((m2.2 13 (m2.2 37 (x1 : Int32).toNatClampNeg : Int32).toNatClampNeg = 7 → (vp_in (m2.2 37 (x1 : Int32).toNatClampNeg) 3300 ∧ w_Mo_block_186 X (x1) (x2) (m2.2 37 (x1 : Int32).toNatClampNeg) (m2.2 13 (m2.2 37 (x1 : Int32).toNatClampNeg : Int32).toNatClampNeg) (m2.2 21 (m2.2 37 (x1 : Int32).toNatClampNeg : Int32).toNatClampNeg) m2 Φ)) ∧ (¬ m2.2 13 (m2.2 37 (x1 : Int32).toNatClampNeg : Int32).toNatClampNeg = 7 → w_Mo_block_186 X (x1) (x2) (m2.2 37 (x1 : Int32).toNatClampNeg) (m2.2 13 (m2.2 37 (x1 : Int32).toNatClampNeg : Int32).toNatClampNeg) (0) m2 Φ))) ∧ (x2 = 6 → (vp_in (m2.2 37 (x1 : Int32).toNatClampNeg) 3300 ∧ Φ (some (.int (m2.2 16 (m2.2 37 (x1 : Int32).toNatClampNeg : Int32).toNatClampNeg))) m2)) ∧ (x2 = 7 → (vp_in (m2.2 37 (x1 : Int32).toNatClampNeg) 3300 ∧ Φ (some (.int (m2.2 17 (m2.2 37 (x1 : Int32).toNatClampNeg : Int32).toNatClampNeg))) m2)) ∧ (x2 = 8 → ((m2.2 13 (m2.2 37 (x1 : Int32).toNatClampNeg : Int32).toNatClampNeg = 3 → (vp_in (m2.2 37 (x1 : Int32).toNatClampNeg) 3300 ∧ w_Mo_block_217 X (x1) (x2) (m2.2 37 (x1 : Int32).toNatClampNeg) (m2.2 13 (m2.2 37 (x1 : Int32).toNatClampNeg : Int32).toNatClampNeg) (m2.2 24 (m2.2 37 (x1 : Int32).toNatClampNeg : Int32).toNatClampNeg) m2 Φ)) ∧ (¬ m2.2 13 (m2.2 37 (x1 : Int32).toNatClampNeg : Int32).toNatClampNeg = 3 → w_Mo_block_217 X (x1) (x2) (m2.2 37 (x1 : Int32).toNatClampNeg) (m2.2 13 (m2.2 37 (x1 : Int32).toNatClampNeg : Int32).toNatClampNeg) (0) m2 Φ))) ∧ (x2 = 9 → ((m2.2 13 (m2.2 37 (x1 : Int32).toNatClampNeg : Int32).toNatClampNeg = 2 → w_Mo_block_231 X (x1) (x2) (m2.2 37 (x1 : Int32).toNatClampNeg) (m2.2 13 (m2.2 37 (x1 : Int32).toNatClampNeg : Int32).toNatClampNeg) m2 Φ) ∧ (¬ m2.2 13 (m2.2 37 (x1 : Int32).toNatClampNeg : Int32).toNatClampNeg = 2 → ((m2.2 13 (m2.2 37 (x1 : Int32).toNatClampNeg : Int32).toNatClampNeg = 7 → w_Mo_block_231 X (x1) (x2) (m2.2 37 (x1 : Int32).toNatClampNeg) (m2.2 13 (m2.2 37 (x1 : Int32).toNatClampNeg : Int32).toNatClampNeg) m2 Φ) ∧ (¬ m2.2 13 (m2.2 37 (x1 : Int32).toNatClampNeg : Int32).toNatClampNeg = 7 → w_Mo_block_241 X (x1) (x2) (m2.2 37 (x1 : Int32).toNatClampNeg) (m2.2 13 (m2.2 37 (x1 : Int32).toNatClampNeg : Int32).toNatClampNeg) (0) m2 Φ)))))))))))
theorem t_Mo_block_0 {X : MX} {a0 : Array Value} (F : mF X a0) {d : Nat} {x1 x2 : Int32} {o3 o4 : Option Value} {m : MS} {σ : jS} {Φ : Option Value → MS → Prop} (hV : MV X m σ) (h : w_Mo_block_0 X x1 x2 m Φ) : jW X.1 X.2.1 jcl X.2.2.1 X.2.2.2.1 (d + 1) y_Mo_block 0 [some (.ref (mo X)), some (.int x1), some (.int x2), o3, o4] [] σ (mQ X Φ σ) := by
  unfold w_Mo_block_0 at h
  refine jW.aload_n (dx_Mo_block 0 (e := (0, .aload_n 0, 1)) rfl) rfl rfl (pc' := 1) rfl ?_
  refine jW.iconst (v := 0) (dx_Mo_block 1 (e := (1, .iconst 0, 1)) rfl) (by decide) (pc' := 2) rfl ?_
  refine jW.mpi F hV f_Mo_block_2 (by decide) rfl rfl rfl (pc' := 5) rfl (fun σ hV => ?_)
  replace h := h _ rfl
  refine jW.aload_n (dx_Mo_block 3 (e := (5, .aload_n 0, 1)) rfl) rfl rfl (pc' := 6) rfl ?_
  refine jW.iload_n (dx_Mo_block 4 (e := (6, .iload_n 1, 1)) rfl) rfl rfl (pc' := 7) rfl ?_
  refine jW.callVe F (h (d + 0) _ hV) (dx_Mo_block 5 (e := (7, .invokevirtual 350, 3)) rfl) can_Mo_isBlock jw_1384 jw_1386 hV.cl rfl sel_Mo_isBlock rfl rfl (Nat.le_of_ble_eq_true rfl) (pc' := 10) rfl (fun r σ hr => ?_)
  clear hV
  refine mQ.up hr.1 ?_
  obtain ⟨_, hV, _, rfl, h⟩ := hr.2
  refine jW.if_ne (dx_Mo_block 6 (e := (10, .ifCond .ne 5, 3)) rfl) 15 (by decide) (pc' := 13) rfl (fun c => ?_) (fun c => ?_)
  · replace h := h.2 c
    refine jW.aload_n (dx_Mo_block 9 (e := (15, .aload_n 0, 1)) rfl) rfl rfl (pc' := 16) rfl ?_
    refine jW.mga F hV f_Mo_block_16 (by decide) (pc' := 19) rfl ?_
    refine jW.iload_n (dx_Mo_block 11 (e := (19, .iload_n 1, 1)) rfl) rfl rfl (pc' := 20) rfl ?_
    refine jW.mla F hV (dx_Mo_block 12 (e := (20, .iaload, 1)) rfl) (by decide) rfl h.1 (pc' := 21) rfl ?_
    replace h := h.2
    refine jW.istore_n (dx_Mo_block 13 (e := (21, .istore_n 3, 1)) rfl) rfl (by decide) rfl (pc' := 22) rfl ?_
    refine jW.aload_n (dx_Mo_block 14 (e := (22, .aload_n 0, 1)) rfl) rfl rfl (pc' := 23) rfl ?_
    refine jW.mga F hV f_Mo_block_23 (by decide) (pc' := 26) rfl ?_
    refine jW.iload_n (dx_Mo_block 16 (e := (26, .iload_n 3, 1)) rfl) rfl rfl (pc' := 27) rfl ?_
    refine jW.mla F hV (dx_Mo_block 17 (e := (27, .iaload, 1)) rfl) (by decide) rfl h.1 (pc' := 28) rfl ?_
    replace h := h.2
    refine jW.istore (dx_Mo_block 18 (e := (28, .istore 4, 2)) rfl) (by decide) rfl (pc' := 30) rfl ?_
    refine jW.iload_n (dx_Mo_block 19 (e := (30, .iload_n 2, 1)) rfl) rfl rfl (pc' := 31) rfl ?_
    refine jW.sw (lo := 0) (hi := 9) (fun c => ?_) (fun c => ?_)
    · replace h := h.1 c
      refine jW.tableOut (dx_Mo_block 20 (e := (31, .tableswitch 211 0 9 #[53, 56, 76, 99, 114, 138, 156, 163, 170, 187], 53)) rfl) c 242 (by decide) ?_
      refine jW.iconst (v := -1) (dx_Mo_block 113 (e := (242, .iconst (-1), 1)) rfl) (by decide) (pc' := 243) rfl ?_
      exact jW.iret (dx_Mo_block 114 (e := (243, .ireturn, 1)) rfl) rfl ⟨FR.rfl, _, hV, h⟩
    · replace h := h.2
      refine jW.swc 0 c (by decide) (fun e => ?_) (fun c => ?_)
      · replace h := h.1 e
        refine jW.tableJ (dx_Mo_block 20 (e := (31, .tableswitch 211 0 9 #[53, 56, 76, 99, 114, 138, 156, 163, 170, 187], 53)) rfl) e (by decide) (by decide) rfl 84 (by decide) ?_
        refine jW.iload (dx_Mo_block 21 (e := (84, .iload 4, 2)) rfl) rfl (pc' := 86) rfl ?_
        exact jW.iret (dx_Mo_block 22 (e := (86, .ireturn, 1)) rfl) rfl ⟨FR.rfl, _, hV, h⟩
      · replace h := h.2
        refine jW.swc 1 c (by decide) (fun e => ?_) (fun c => ?_)
        · replace h := h.1 e
          refine jW.tableJ (dx_Mo_block 20 (e := (31, .tableswitch 211 0 9 #[53, 56, 76, 99, 114, 138, 156, 163, 170, 187], 53)) rfl) e (by decide) (by decide) rfl 87 (by decide) ?_
          refine jW.iload_n (dx_Mo_block 23 (e := (87, .iload_n 3, 1)) rfl) rfl rfl (pc' := 88) rfl ?_
          refine jW.if_ne (dx_Mo_block 24 (e := (88, .ifCond .ne 7, 3)) rfl) 95 (by decide) (pc' := 91) rfl (fun c => ?_) (fun c => ?_)
          · replace h := h.2 c
            refine jW.aload_n (dx_Mo_block 27 (e := (95, .aload_n 0, 1)) rfl) rfl rfl (pc' := 96) rfl ?_
            refine jW.mga F hV f_Mo_block_96 (by decide) (pc' := 99) rfl ?_
            refine jW.aload_n (dx_Mo_block 29 (e := (99, .aload_n 0, 1)) rfl) rfl rfl (pc' := 100) rfl ?_
            refine jW.mga F hV f_Mo_block_100 (by decide) (pc' := 103) rfl ?_
            refine jW.iload_n (dx_Mo_block 31 (e := (103, .iload_n 3, 1)) rfl) rfl rfl (pc' := 104) rfl ?_
            refine jW.mla F hV (dx_Mo_block 32 (e := (104, .iaload, 1)) rfl) (by decide) rfl h.1 (pc' := 105) rfl ?_
            replace h := h.2
            refine jW.mla F hV (dx_Mo_block 33 (e := (105, .iaload, 1)) rfl) (by decide) rfl h.1 (pc' := 106) rfl ?_
            replace h := h.2
            exact t_Mo_block_106 F hV h
          · replace h := h.1 c
            refine jW.iconst (v := -1) (dx_Mo_block 25 (e := (91, .iconst (-1), 1)) rfl) (by decide) (pc' := 92) rfl ?_
            refine jW.goto (dx_Mo_block 26 (e := (92, .goto 14, 3)) rfl) 106 (by decide) ?_
            exact t_Mo_block_106 F hV h
        · replace h := h.2
          refine jW.swc 2 c (by decide) (fun e => ?_) (fun c => ?_)
          · replace h := h.1 e
            refine jW.tableJ (dx_Mo_block 20 (e := (31, .tableswitch 211 0 9 #[53, 56, 76, 99, 114, 138, 156, 163, 170, 187], 53)) rfl) e (by decide) (by decide) rfl 107 (by decide) ?_
            refine jW.iload (dx_Mo_block 35 (e := (107, .iload 4, 2)) rfl) rfl (pc' := 109) rfl ?_
            refine jW.iconst (v := 5) (dx_Mo_block 36 (e := (109, .iconst 5, 1)) rfl) (by decide) (pc' := 110) rfl ?_
            refine jW.icmp_eq (dx_Mo_block 37 (e := (110, .if_icmp .eq 9, 3)) rfl) 119 (by decide) (pc' := 113) rfl (fun c => ?_) (fun c => ?_)
            · replace h := h.1 c
              exact t_Mo_block_119 F hV h
            · replace h := h.2 c
              refine jW.iload (dx_Mo_block 38 (e := (113, .iload 4, 2)) rfl) rfl (pc' := 115) rfl ?_
              refine jW.iconst (v := 2) (dx_Mo_block 39 (e := (115, .iconst 2, 1)) rfl) (by decide) (pc' := 116) rfl ?_
              refine jW.icmp_ne (dx_Mo_block 40 (e := (116, .if_icmp .ne 12, 3)) rfl) 128 (by decide) (pc' := 119) rfl (fun c => ?_) (fun c => ?_)
              · replace h := h.2 c
                refine jW.iconst (v := 0) (dx_Mo_block 46 (e := (128, .iconst 0, 1)) rfl) (by decide) (pc' := 129) rfl ?_
                exact t_Mo_block_129 F hV h
              · replace h := h.1 c
                exact t_Mo_block_119 F hV h
          · replace h := h.2
            refine jW.swc 3 c (by decide) (fun e => ?_) (fun c => ?_)
            · replace h := h.1 e
              refine jW.tableJ (dx_Mo_block 20 (e := (31, .tableswitch 211 0 9 #[53, 56, 76, 99, 114, 138, 156, 163, 170, 187], 53)) rfl) e (by decide) (by decide) rfl 130 (by decide) ?_
              refine jW.aload_n (dx_Mo_block 48 (e := (130, .aload_n 0, 1)) rfl) rfl rfl (pc' := 131) rfl ?_
              refine jW.mga F hV f_Mo_block_131 (by decide) (pc' := 134) rfl ?_
              refine jW.iload_n (dx_Mo_block 50 (e := (134, .iload_n 3, 1)) rfl) rfl rfl (pc' := 135) rfl ?_
              refine jW.mlz F hV (dx_Mo_block 51 (e := (135, .baload, 1)) rfl) (by decide) rfl h.1 (pc' := 136) rfl ?_
              replace h := h.2
              refine jW.if_eq (dx_Mo_block 52 (e := (136, .ifCond .eq 7, 3)) rfl) 143 (by decide) (pc' := 139) rfl (fun c => ?_) (fun c => ?_)
              · replace h := h.1 c
                refine jW.iconst (v := 0) (dx_Mo_block 55 (e := (143, .iconst 0, 1)) rfl) (by decide) (pc' := 144) rfl ?_
                exact t_Mo_block_144 F hV h
              · replace h := h.2 c
                refine jW.iconst (v := 1) (dx_Mo_block 53 (e := (139, .iconst 1, 1)) rfl) (by decide) (pc' := 140) rfl ?_
                refine jW.goto (dx_Mo_block 54 (e := (140, .goto 4, 3)) rfl) 144 (by decide) ?_
                exact t_Mo_block_144 F hV h
            · replace h := h.2
              refine jW.swc 4 c (by decide) (fun e => ?_) (fun c => ?_)
              · replace h := h.1 e
                refine jW.tableJ (dx_Mo_block 20 (e := (31, .tableswitch 211 0 9 #[53, 56, 76, 99, 114, 138, 156, 163, 170, 187], 53)) rfl) e (by decide) (by decide) rfl 145 (by decide) ?_
                refine jW.iload (dx_Mo_block 57 (e := (145, .iload 4, 2)) rfl) rfl (pc' := 147) rfl ?_
                refine jW.iconst (v := 4) (dx_Mo_block 58 (e := (147, .iconst 4, 1)) rfl) (by decide) (pc' := 148) rfl ?_
                refine jW.icmp_lt (dx_Mo_block 59 (e := (148, .if_icmp .lt 10, 3)) rfl) 158 (by decide) (pc' := 151) rfl (fun c => ?_) (fun c => ?_)
                · replace h := h.1 c
                  exact t_Mo_block_158 F hV h
                · replace h := h.2 c
                  refine jW.iload (dx_Mo_block 60 (e := (151, .iload 4, 2)) rfl) rfl (pc' := 153) rfl ?_
                  refine jW.bipush (v := 6) (dx_Mo_block 61 (e := (153, .bipush 6, 2)) rfl) (by decide) (pc' := 155) rfl ?_
                  refine jW.icmp_ne (dx_Mo_block 62 (e := (155, .if_icmp .ne 7, 3)) rfl) 162 (by decide) (pc' := 158) rfl (fun c => ?_) (fun c => ?_)
                  · replace h := h.2 c
                    refine jW.aload_n (dx_Mo_block 65 (e := (162, .aload_n 0, 1)) rfl) rfl rfl (pc' := 163) rfl ?_
                    refine jW.mga F hV f_Mo_block_163 (by decide) (pc' := 166) rfl ?_
                    refine jW.iload_n (dx_Mo_block 67 (e := (166, .iload_n 3, 1)) rfl) rfl rfl (pc' := 167) rfl ?_
                    refine jW.mla F hV (dx_Mo_block 68 (e := (167, .iaload, 1)) rfl) (by decide) rfl h.1 (pc' := 168) rfl ?_
                    replace h := h.2
                    exact t_Mo_block_168 F hV h
                  · replace h := h.1 c
                    exact t_Mo_block_158 F hV h
              · replace h := h.2
                refine jW.swc 5 c (by decide) (fun e => ?_) (fun c => ?_)
                · replace h := h.1 e
                  refine jW.tableJ (dx_Mo_block 20 (e := (31, .tableswitch 211 0 9 #[53, 56, 76, 99, 114, 138, 156, 163, 170, 187], 53)) rfl) e (by decide) (by decide) rfl 169 (by decide) ?_
                  refine jW.iload (dx_Mo_block 70 (e := (169, .iload 4, 2)) rfl) rfl (pc' := 171) rfl ?_
                  refine jW.bipush (v := 7) (dx_Mo_block 71 (e := (171, .bipush 7, 2)) rfl) (by decide) (pc' := 173) rfl ?_
                  refine jW.icmp_ne (dx_Mo_block 72 (e := (173, .if_icmp .ne 12, 3)) rfl) 185 (by decide) (pc' := 176) rfl (fun c => ?_) (fun c => ?_)
                  · replace h := h.2 c
                    refine jW.iconst (v := 0) (dx_Mo_block 78 (e := (185, .iconst 0, 1)) rfl) (by decide) (pc' := 186) rfl ?_
                    exact t_Mo_block_186 F hV h
                  · replace h := h.1 c
                    refine jW.aload_n (dx_Mo_block 73 (e := (176, .aload_n 0, 1)) rfl) rfl rfl (pc' := 177) rfl ?_
                    refine jW.mga F hV f_Mo_block_177 (by decide) (pc' := 180) rfl ?_
                    refine jW.iload_n (dx_Mo_block 75 (e := (180, .iload_n 3, 1)) rfl) rfl rfl (pc' := 181) rfl ?_
                    refine jW.mla F hV (dx_Mo_block 76 (e := (181, .iaload, 1)) rfl) (by decide) rfl h.1 (pc' := 182) rfl ?_
                    replace h := h.2
                    refine jW.goto (dx_Mo_block 77 (e := (182, .goto 4, 3)) rfl) 186 (by decide) ?_
                    exact t_Mo_block_186 F hV h
                · replace h := h.2
                  refine jW.swc 6 c (by decide) (fun e => ?_) (fun c => ?_)
                  · replace h := h.1 e
                    refine jW.tableJ (dx_Mo_block 20 (e := (31, .tableswitch 211 0 9 #[53, 56, 76, 99, 114, 138, 156, 163, 170, 187], 53)) rfl) e (by decide) (by decide) rfl 187 (by decide) ?_
                    refine jW.aload_n (dx_Mo_block 80 (e := (187, .aload_n 0, 1)) rfl) rfl rfl (pc' := 188) rfl ?_
                    refine jW.mga F hV f_Mo_block_188 (by decide) (pc' := 191) rfl ?_
                    refine jW.iload_n (dx_Mo_block 82 (e := (191, .iload_n 3, 1)) rfl) rfl rfl (pc' := 192) rfl ?_
                    refine jW.mla F hV (dx_Mo_block 83 (e := (192, .iaload, 1)) rfl) (by decide) rfl h.1 (pc' := 193) rfl ?_
                    replace h := h.2
                    exact jW.iret (dx_Mo_block 84 (e := (193, .ireturn, 1)) rfl) rfl ⟨FR.rfl, _, hV, h⟩
                  · replace h := h.2
                    refine jW.swc 7 c (by decide) (fun e => ?_) (fun c => ?_)
                    · replace h := h.1 e
                      refine jW.tableJ (dx_Mo_block 20 (e := (31, .tableswitch 211 0 9 #[53, 56, 76, 99, 114, 138, 156, 163, 170, 187], 53)) rfl) e (by decide) (by decide) rfl 194 (by decide) ?_
                      refine jW.aload_n (dx_Mo_block 85 (e := (194, .aload_n 0, 1)) rfl) rfl rfl (pc' := 195) rfl ?_
                      refine jW.mga F hV f_Mo_block_195 (by decide) (pc' := 198) rfl ?_
                      refine jW.iload_n (dx_Mo_block 87 (e := (198, .iload_n 3, 1)) rfl) rfl rfl (pc' := 199) rfl ?_
                      refine jW.mla F hV (dx_Mo_block 88 (e := (199, .iaload, 1)) rfl) (by decide) rfl h.1 (pc' := 200) rfl ?_
                      replace h := h.2
                      exact jW.iret (dx_Mo_block 89 (e := (200, .ireturn, 1)) rfl) rfl ⟨FR.rfl, _, hV, h⟩
                    · replace h := h.2
                      refine jW.swc 8 c (by decide) (fun e => ?_) (fun c => ?_)
                      · replace h := h.1 e
                        refine jW.tableJ (dx_Mo_block 20 (e := (31, .tableswitch 211 0 9 #[53, 56, 76, 99, 114, 138, 156, 163, 170, 187], 53)) rfl) e (by decide) (by decide) rfl 201 (by decide) ?_
                        refine jW.iload (dx_Mo_block 90 (e := (201, .iload 4, 2)) rfl) rfl (pc' := 203) rfl ?_
                        refine jW.iconst (v := 3) (dx_Mo_block 91 (e := (203, .iconst 3, 1)) rfl) (by decide) (pc' := 204) rfl ?_
                        refine jW.icmp_ne (dx_Mo_block 92 (e := (204, .if_icmp .ne 12, 3)) rfl) 216 (by decide) (pc' := 207) rfl (fun c => ?_) (fun c => ?_)
                        · replace h := h.2 c
                          refine jW.iconst (v := 0) (dx_Mo_block 98 (e := (216, .iconst 0, 1)) rfl) (by decide) (pc' := 217) rfl ?_
                          exact t_Mo_block_217 F hV h
                        · replace h := h.1 c
                          refine jW.aload_n (dx_Mo_block 93 (e := (207, .aload_n 0, 1)) rfl) rfl rfl (pc' := 208) rfl ?_
                          refine jW.mga F hV f_Mo_block_208 (by decide) (pc' := 211) rfl ?_
                          refine jW.iload_n (dx_Mo_block 95 (e := (211, .iload_n 3, 1)) rfl) rfl rfl (pc' := 212) rfl ?_
                          refine jW.mla F hV (dx_Mo_block 96 (e := (212, .iaload, 1)) rfl) (by decide) rfl h.1 (pc' := 213) rfl ?_
                          replace h := h.2
                          refine jW.goto (dx_Mo_block 97 (e := (213, .goto 4, 3)) rfl) 217 (by decide) ?_
                          exact t_Mo_block_217 F hV h
                      · replace h := h.2
                        have e := sw_last (v := 9) c (by decide) (by decide)
                        replace h := h e
                        refine jW.tableJ (z := 9) (dx_Mo_block 20 (e := (31, .tableswitch 211 0 9 #[53, 56, 76, 99, 114, 138, 156, 163, 170, 187], 53)) rfl) e (by decide) (by decide) rfl 218 (by decide) ?_
                        refine jW.iload (dx_Mo_block 100 (e := (218, .iload 4, 2)) rfl) rfl (pc' := 220) rfl ?_
                        refine jW.iconst (v := 2) (dx_Mo_block 101 (e := (220, .iconst 2, 1)) rfl) (by decide) (pc' := 221) rfl ?_
                        refine jW.icmp_eq (dx_Mo_block 102 (e := (221, .if_icmp .eq 10, 3)) rfl) 231 (by decide) (pc' := 224) rfl (fun c => ?_) (fun c => ?_)
                        · replace h := h.1 c
                          exact t_Mo_block_231 F hV h
                        · replace h := h.2 c
                          refine jW.iload (dx_Mo_block 103 (e := (224, .iload 4, 2)) rfl) rfl (pc' := 226) rfl ?_
                          refine jW.bipush (v := 7) (dx_Mo_block 104 (e := (226, .bipush 7, 2)) rfl) (by decide) (pc' := 228) rfl ?_
                          refine jW.icmp_ne (dx_Mo_block 105 (e := (228, .if_icmp .ne 12, 3)) rfl) 240 (by decide) (pc' := 231) rfl (fun c => ?_) (fun c => ?_)
                          · replace h := h.2 c
                            refine jW.iconst (v := 0) (dx_Mo_block 111 (e := (240, .iconst 0, 1)) rfl) (by decide) (pc' := 241) rfl ?_
                            exact t_Mo_block_241 F hV h
                          · replace h := h.1 c
                            exact t_Mo_block_231 F hV h
  · replace h := h.1 c
    refine jW.iconst (v := -1) (dx_Mo_block 7 (e := (13, .iconst (-1), 1)) rfl) (by decide) (pc' := 14) rfl ?_
    exact jW.iret (dx_Mo_block 8 (e := (14, .ireturn, 1)) rfl) rfl ⟨FR.rfl, _, hV, h⟩
theorem g_Mo_block {X : MX} {a0 : Array Value} (F : mF X a0) {x1 x2 : Int32} {m : MS} {Φ : Option Value → MS → Prop} (he : w_Mo_block_0 X x1 x2 m Φ) : mE X 1 y_Mo_block [.ref (mo X), .int x1, .int x2] m Φ := by
  intro d σ hV
  refine jE.of (by decide) (by simp [Value.category]) (Nat.le_of_ble_eq_true rfl) rfl ?_
  exact t_Mo_block_0 F hV he
def w_Mo_isBlock_24 (X : MX) (x1 s0 : Int32) (m : MS) (Φ : Option Value → MS → Prop) : Prop := (mZ (s0) ∧ Φ (some (.int (s0))) m)
theorem t_Mo_isBlock_24 {X : MX} {a0 : Array Value} (F : mF X a0) {d : Nat} {x1 s0 : Int32} {m : MS} {σ : jS} {Φ : Option Value → MS → Prop} (hV : MV X m σ) (h : w_Mo_isBlock_24 X x1 s0 m Φ) : jW X.1 X.2.1 jcl X.2.2.1 X.2.2.2.1 (d + 0) y_Mo_isBlock 24 [some (.ref (mo X)), some (.int x1)] [.int s0] σ (mQ X Φ σ) := by
  unfold w_Mo_isBlock_24 at h
  exact jW.zret (dx_Mo_isBlock 12 (e := (24, .ireturn, 1)) rfl) rfl h.1.n ⟨FR.rfl, _, hV, h.2⟩
def w_Mo_isBlock_23 (X : MX) (x1 : Int32) (m : MS) (Φ : Option Value → MS → Prop) : Prop := w_Mo_isBlock_24 X (x1) (0) m Φ
theorem t_Mo_isBlock_23 {X : MX} {a0 : Array Value} (F : mF X a0) {d : Nat} {x1 : Int32} {m : MS} {σ : jS} {Φ : Option Value → MS → Prop} (hV : MV X m σ) (h : w_Mo_isBlock_23 X x1 m Φ) : jW X.1 X.2.1 jcl X.2.2.1 X.2.2.2.1 (d + 0) y_Mo_isBlock 23 [some (.ref (mo X)), some (.int x1)] [] σ (mQ X Φ σ) := by
  unfold w_Mo_isBlock_23 at h
  refine jW.iconst (v := 0) (dx_Mo_isBlock 11 (e := (23, .iconst 0, 1)) rfl) (by decide) (pc' := 24) rfl ?_
  exact t_Mo_isBlock_24 F hV h
def w_Mo_isBlock_0 (X : MX) (x1 : Int32) (m : MS) (Φ : Option Value → MS → Prop) : Prop := ((m.1 4 = 0 → w_Mo_isBlock_23 X (x1) m Φ) ∧ (¬ m.1 4 = 0 → ((x1 < 0 → w_Mo_isBlock_23 X (x1) m Φ) ∧ (¬ x1 < 0 → ((m.1 39 ≤ x1 → w_Mo_isBlock_23 X (x1) m Φ) ∧ (¬ m.1 39 ≤ x1 → w_Mo_isBlock_24 X (x1) (1) m Φ))))))
theorem t_Mo_isBlock_0 {X : MX} {a0 : Array Value} (F : mF X a0) {d : Nat} {x1 : Int32} {m : MS} {σ : jS} {Φ : Option Value → MS → Prop} (hV : MV X m σ) (h : w_Mo_isBlock_0 X x1 m Φ) : jW X.1 X.2.1 jcl X.2.2.1 X.2.2.2.1 (d + 0) y_Mo_isBlock 0 [some (.ref (mo X)), some (.int x1)] [] σ (mQ X Φ σ) := by
  unfold w_Mo_isBlock_0 at h
  refine jW.aload_n (dx_Mo_isBlock 0 (e := (0, .aload_n 0, 1)) rfl) rfl rfl (pc' := 1) rfl ?_
  refine jW.mgi F hV f_Mo_isBlock_1 (by decide) (pc' := 4) rfl ?_
  refine jW.if_eq (dx_Mo_isBlock 2 (e := (4, .ifCond .eq 19, 3)) rfl) 23 (by decide) (pc' := 7) rfl (fun c => ?_) (fun c => ?_)
  · replace h := h.1 c
    exact t_Mo_isBlock_23 F hV h
  · replace h := h.2 c
    refine jW.iload_n (dx_Mo_isBlock 3 (e := (7, .iload_n 1, 1)) rfl) rfl rfl (pc' := 8) rfl ?_
    refine jW.if_lt (dx_Mo_isBlock 4 (e := (8, .ifCond .lt 15, 3)) rfl) 23 (by decide) (pc' := 11) rfl (fun c => ?_) (fun c => ?_)
    · replace h := h.1 c
      exact t_Mo_isBlock_23 F hV h
    · replace h := h.2 c
      refine jW.iload_n (dx_Mo_isBlock 5 (e := (11, .iload_n 1, 1)) rfl) rfl rfl (pc' := 12) rfl ?_
      refine jW.aload_n (dx_Mo_isBlock 6 (e := (12, .aload_n 0, 1)) rfl) rfl rfl (pc' := 13) rfl ?_
      refine jW.mgi F hV f_Mo_isBlock_13 (by decide) (pc' := 16) rfl ?_
      refine jW.icmp_ge (dx_Mo_isBlock 8 (e := (16, .if_icmp .ge 7, 3)) rfl) 23 (by decide) (pc' := 19) rfl (fun c => ?_) (fun c => ?_)
      · replace h := h.1 c
        exact t_Mo_isBlock_23 F hV h
      · replace h := h.2 c
        refine jW.iconst (v := 1) (dx_Mo_isBlock 9 (e := (19, .iconst 1, 1)) rfl) (by decide) (pc' := 20) rfl ?_
        refine jW.goto (dx_Mo_isBlock 10 (e := (20, .goto 4, 3)) rfl) 24 (by decide) ?_
        exact t_Mo_isBlock_24 F hV h
theorem g_Mo_isBlock {X : MX} {a0 : Array Value} (F : mF X a0) {x1 : Int32} {m : MS} {Φ : Option Value → MS → Prop} (he : w_Mo_isBlock_0 X x1 m Φ) : mE X 0 y_Mo_isBlock [.ref (mo X), .int x1] m Φ := by
  intro d σ hV
  refine jE.of (by decide) (by simp [Value.category]) (Nat.le_of_ble_eq_true rfl) rfl ?_
  exact t_Mo_isBlock_0 F hV he
def w_Mo_letter_27 (X : MX) (x1 x2 x3 : Int32) (m : MS) (Φ : Option Value → MS → Prop) : Prop := Φ (some (.int (-1))) m
theorem t_Mo_letter_27 {X : MX} {a0 : Array Value} (F : mF X a0) {d : Nat} {x1 x2 x3 : Int32} {o4 : Option Value} {m : MS} {σ : jS} {Φ : Option Value → MS → Prop} (hV : MV X m σ) (h : w_Mo_letter_27 X x1 x2 x3 m Φ) : jW X.1 X.2.1 jcl X.2.2.1 X.2.2.2.1 (d + 2) y_Mo_letter 27 [some (.ref (mo X)), some (.int x1), some (.int x2), some (.int x3), o4] [] σ (mQ X Φ σ) := by
  unfold w_Mo_letter_27 at h
  refine jW.iconst (v := -1) (dx_Mo_letter 15 (e := (27, .iconst (-1), 1)) rfl) (by decide) (pc' := 28) rfl ?_
  exact jW.iret (dx_Mo_letter 16 (e := (28, .ireturn, 1)) rfl) rfl ⟨FR.rfl, _, hV, h⟩
def w_Mo_letter_62 (X : MX) (x1 x2 x3 x4 s1 : Int32) (m : MS) (Φ : Option Value → MS → Prop) : Prop := (vp_in (s1 + x3) 48000 ∧ Φ (some (.int (m.2 7 (s1 + x3 : Int32).toNatClampNeg))) m)
theorem t_Mo_letter_62 {X : MX} {a0 : Array Value} (F : mF X a0) {d : Nat} {x1 x2 x3 x4 s1 : Int32} {m : MS} {σ : jS} {Φ : Option Value → MS → Prop} (hV : MV X m σ) (h : w_Mo_letter_62 X x1 x2 x3 x4 s1 m Φ) : jW X.1 X.2.1 jcl X.2.2.1 X.2.2.2.1 (d + 2) y_Mo_letter 62 [some (.ref (mo X)), some (.int x1), some (.int x2), some (.int x3), some (.int x4)] [.int s1, .ref (ar X 7)] σ (mQ X Φ σ) := by
  unfold w_Mo_letter_62 at h
  refine jW.iload_n (dx_Mo_letter 35 (e := (62, .iload_n 3, 1)) rfl) rfl rfl (pc' := 63) rfl ?_
  refine jW.iadd (dx_Mo_letter 36 (e := (63, .iadd, 1)) rfl) (pc' := 64) rfl ?_
  refine jW.mla F hV (dx_Mo_letter 37 (e := (64, .iaload, 1)) rfl) (by decide) rfl h.1 (pc' := 65) rfl ?_
  replace h := h.2
  exact jW.iret (dx_Mo_letter 38 (e := (65, .ireturn, 1)) rfl) rfl ⟨FR.rfl, _, hV, h⟩
def w_Mo_letter_21 (X : MX) (x1 x2 x3 s0 s2 s3 : Int32) (m : MS) (Φ : Option Value → MS → Prop) : Prop := mE X 1 y_Mo_block [.ref (mo X), .int (s2), .int (s3)] m (iP fun r1 m1 => ((s0 < r1 → (vp_in (x1) 3300 ∧ ((x2 = 0 → (vp_in (m1.2 37 (x1 : Int32).toNatClampNeg) 3300 ∧ w_Mo_letter_62 X (x1) (x2) (x3) (m1.2 37 (x1 : Int32).toNatClampNeg) (m1.2 18 (m1.2 37 (x1 : Int32).toNatClampNeg : Int32).toNatClampNeg) m1 Φ)) ∧ (¬ x2 = 0 → (vp_in (m1.2 37 (x1 : Int32).toNatClampNeg) 3300 ∧ w_Mo_letter_62 X (x1) (x2) (x3) (m1.2 37 (x1 : Int32).toNatClampNeg) (m1.2 20 (m1.2 37 (x1 : Int32).toNatClampNeg : Int32).toNatClampNeg) m1 Φ))))) ∧ (¬ s0 < r1 → w_Mo_letter_27 X (x1) (x2) (x3) m1 Φ)))
theorem t_Mo_letter_21 {X : MX} {a0 : Array Value} (F : mF X a0) {d : Nat} {x1 x2 x3 s0 s2 s3 : Int32} {o4 : Option Value} {m : MS} {σ : jS} {Φ : Option Value → MS → Prop} (hV : MV X m σ) (h : w_Mo_letter_21 X x1 x2 x3 s0 s2 s3 m Φ) : jW X.1 X.2.1 jcl X.2.2.1 X.2.2.2.1 (d + 2) y_Mo_letter 21 [some (.ref (mo X)), some (.int x1), some (.int x2), some (.int x3), o4] [.int s3, .int s2, .ref (mo X), .int s0] σ (mQ X Φ σ) := by
  unfold w_Mo_letter_21 at h
  refine jW.callVe F (h (d + 0) _ hV) (dx_Mo_letter 13 (e := (21, .invokevirtual 353, 3)) rfl) can_Mo_block jw_1392 jw_1381 hV.cl rfl jw_1382 rfl rfl (Nat.le_of_ble_eq_true rfl) (pc' := 24) rfl (fun r σ hr => ?_)
  clear hV
  refine mQ.up hr.1 ?_
  obtain ⟨_, hV, _, rfl, h⟩ := hr.2
  refine jW.icmp_lt (dx_Mo_letter 14 (e := (24, .if_icmp .lt 5, 3)) rfl) 29 (by decide) (pc' := 27) rfl (fun c => ?_) (fun c => ?_)
  · replace h := h.1 c
    refine jW.aload_n (dx_Mo_letter 17 (e := (29, .aload_n 0, 1)) rfl) rfl rfl (pc' := 30) rfl ?_
    refine jW.mga F hV f_Mo_letter_30 (by decide) (pc' := 33) rfl ?_
    refine jW.iload_n (dx_Mo_letter 19 (e := (33, .iload_n 1, 1)) rfl) rfl rfl (pc' := 34) rfl ?_
    refine jW.mla F hV (dx_Mo_letter 20 (e := (34, .iaload, 1)) rfl) (by decide) rfl h.1 (pc' := 35) rfl ?_
    replace h := h.2
    refine jW.istore (dx_Mo_letter 21 (e := (35, .istore 4, 2)) rfl) (by decide) rfl (pc' := 37) rfl ?_
    refine jW.aload_n (dx_Mo_letter 22 (e := (37, .aload_n 0, 1)) rfl) rfl rfl (pc' := 38) rfl ?_
    refine jW.mga F hV f_Mo_letter_38 (by decide) (pc' := 41) rfl ?_
    refine jW.iload_n (dx_Mo_letter 24 (e := (41, .iload_n 2, 1)) rfl) rfl rfl (pc' := 42) rfl ?_
    refine jW.if_eq (dx_Mo_letter 25 (e := (42, .ifCond .eq 13, 3)) rfl) 55 (by decide) (pc' := 45) rfl (fun c => ?_) (fun c => ?_)
    · replace h := h.1 c
      refine jW.aload_n (dx_Mo_letter 31 (e := (55, .aload_n 0, 1)) rfl) rfl rfl (pc' := 56) rfl ?_
      refine jW.mga F hV f_Mo_letter_56 (by decide) (pc' := 59) rfl ?_
      refine jW.iload (dx_Mo_letter 33 (e := (59, .iload 4, 2)) rfl) rfl (pc' := 61) rfl ?_
      refine jW.mla F hV (dx_Mo_letter 34 (e := (61, .iaload, 1)) rfl) (by decide) rfl h.1 (pc' := 62) rfl ?_
      replace h := h.2
      exact t_Mo_letter_62 F hV h
    · replace h := h.2 c
      refine jW.aload_n (dx_Mo_letter 26 (e := (45, .aload_n 0, 1)) rfl) rfl rfl (pc' := 46) rfl ?_
      refine jW.mga F hV f_Mo_letter_46 (by decide) (pc' := 49) rfl ?_
      refine jW.iload (dx_Mo_letter 28 (e := (49, .iload 4, 2)) rfl) rfl (pc' := 51) rfl ?_
      refine jW.mla F hV (dx_Mo_letter 29 (e := (51, .iaload, 1)) rfl) (by decide) rfl h.1 (pc' := 52) rfl ?_
      replace h := h.2
      refine jW.goto (dx_Mo_letter 30 (e := (52, .goto 10, 3)) rfl) 62 (by decide) ?_
      exact t_Mo_letter_62 F hV h
  · replace h := h.2 c
    exact t_Mo_letter_27 F hV h
def w_Mo_letter_0 (X : MX) (x1 x2 x3 : Int32) (m : MS) (Φ : Option Value → MS → Prop) : Prop := ∀ m1, m1 = mI m 0 (0) → ((x3 < 0 → w_Mo_letter_27 X (x1) (x2) (x3) m1 Φ) ∧ (¬ x3 < 0 → ((x2 = 0 → w_Mo_letter_21 X (x1) (x2) (x3) (x3) (x1) (4) m1 Φ) ∧ (¬ x2 = 0 → w_Mo_letter_21 X (x1) (x2) (x3) (x3) (x1) (5) m1 Φ))))
theorem t_Mo_letter_0 {X : MX} {a0 : Array Value} (F : mF X a0) {d : Nat} {x1 x2 x3 : Int32} {o4 : Option Value} {m : MS} {σ : jS} {Φ : Option Value → MS → Prop} (hV : MV X m σ) (h : w_Mo_letter_0 X x1 x2 x3 m Φ) : jW X.1 X.2.1 jcl X.2.2.1 X.2.2.2.1 (d + 2) y_Mo_letter 0 [some (.ref (mo X)), some (.int x1), some (.int x2), some (.int x3), o4] [] σ (mQ X Φ σ) := by
  unfold w_Mo_letter_0 at h
  refine jW.aload_n (dx_Mo_letter 0 (e := (0, .aload_n 0, 1)) rfl) rfl rfl (pc' := 1) rfl ?_
  refine jW.iconst (v := 0) (dx_Mo_letter 1 (e := (1, .iconst 0, 1)) rfl) (by decide) (pc' := 2) rfl ?_
  refine jW.mpi F hV f_Mo_letter_2 (by decide) rfl rfl rfl (pc' := 5) rfl (fun σ hV => ?_)
  replace h := h _ rfl
  refine jW.iload_n (dx_Mo_letter 3 (e := (5, .iload_n 3, 1)) rfl) rfl rfl (pc' := 6) rfl ?_
  refine jW.if_lt (dx_Mo_letter 4 (e := (6, .ifCond .lt 21, 3)) rfl) 27 (by decide) (pc' := 9) rfl (fun c => ?_) (fun c => ?_)
  · replace h := h.1 c
    exact t_Mo_letter_27 F hV h
  · replace h := h.2 c
    refine jW.iload_n (dx_Mo_letter 5 (e := (9, .iload_n 3, 1)) rfl) rfl rfl (pc' := 10) rfl ?_
    refine jW.aload_n (dx_Mo_letter 6 (e := (10, .aload_n 0, 1)) rfl) rfl rfl (pc' := 11) rfl ?_
    refine jW.iload_n (dx_Mo_letter 7 (e := (11, .iload_n 1, 1)) rfl) rfl rfl (pc' := 12) rfl ?_
    refine jW.iload_n (dx_Mo_letter 8 (e := (12, .iload_n 2, 1)) rfl) rfl rfl (pc' := 13) rfl ?_
    refine jW.if_eq (dx_Mo_letter 9 (e := (13, .ifCond .eq 7, 3)) rfl) 20 (by decide) (pc' := 16) rfl (fun c => ?_) (fun c => ?_)
    · replace h := h.1 c
      refine jW.iconst (v := 4) (dx_Mo_letter 12 (e := (20, .iconst 4, 1)) rfl) (by decide) (pc' := 21) rfl ?_
      exact t_Mo_letter_21 F hV h
    · replace h := h.2 c
      refine jW.iconst (v := 5) (dx_Mo_letter 10 (e := (16, .iconst 5, 1)) rfl) (by decide) (pc' := 17) rfl ?_
      refine jW.goto (dx_Mo_letter 11 (e := (17, .goto 4, 3)) rfl) 21 (by decide) ?_
      exact t_Mo_letter_21 F hV h
theorem g_Mo_letter {X : MX} {a0 : Array Value} (F : mF X a0) {x1 x2 x3 : Int32} {m : MS} {Φ : Option Value → MS → Prop} (he : w_Mo_letter_0 X x1 x2 x3 m Φ) : mE X 2 y_Mo_letter [.ref (mo X), .int x1, .int x2, .int x3] m Φ := by
  intro d σ hV
  refine jE.of (by decide) (by simp [Value.category]) (Nat.le_of_ble_eq_true rfl) rfl ?_
  exact t_Mo_letter_0 F hV he
def w_Mo_definitions_20 (X : MX) (s0 : Int32) (m : MS) (Φ : Option Value → MS → Prop) : Prop := Φ (some (.int (s0))) m
theorem t_Mo_definitions_20 {X : MX} {a0 : Array Value} (F : mF X a0) {d : Nat} {s0 : Int32} {m : MS} {σ : jS} {Φ : Option Value → MS → Prop} (hV : MV X m σ) (h : w_Mo_definitions_20 X s0 m Φ) : jW X.1 X.2.1 jcl X.2.2.1 X.2.2.2.1 (d + 0) y_Mo_definitions 20 [some (.ref (mo X))] [.int s0] σ (mQ X Φ σ) := by
  unfold w_Mo_definitions_20 at h
  exact jW.iret (dx_Mo_definitions 10 (e := (20, .ireturn, 1)) rfl) rfl ⟨FR.rfl, _, hV, h⟩
def w_Mo_definitions_0 (X : MX) (m : MS) (Φ : Option Value → MS → Prop) : Prop := ∀ m1, m1 = mI m 0 (0) → ((m1.1 4 = 0 → w_Mo_definitions_20 X (0) m1 Φ) ∧ (¬ m1.1 4 = 0 → w_Mo_definitions_20 X (m1.1 40) m1 Φ))
theorem t_Mo_definitions_0 {X : MX} {a0 : Array Value} (F : mF X a0) {d : Nat} {m : MS} {σ : jS} {Φ : Option Value → MS → Prop} (hV : MV X m σ) (h : w_Mo_definitions_0 X m Φ) : jW X.1 X.2.1 jcl X.2.2.1 X.2.2.2.1 (d + 0) y_Mo_definitions 0 [some (.ref (mo X))] [] σ (mQ X Φ σ) := by
  unfold w_Mo_definitions_0 at h
  refine jW.aload_n (dx_Mo_definitions 0 (e := (0, .aload_n 0, 1)) rfl) rfl rfl (pc' := 1) rfl ?_
  refine jW.iconst (v := 0) (dx_Mo_definitions 1 (e := (1, .iconst 0, 1)) rfl) (by decide) (pc' := 2) rfl ?_
  refine jW.mpi F hV f_Mo_definitions_2 (by decide) rfl rfl rfl (pc' := 5) rfl (fun σ hV => ?_)
  replace h := h _ rfl
  refine jW.aload_n (dx_Mo_definitions 3 (e := (5, .aload_n 0, 1)) rfl) rfl rfl (pc' := 6) rfl ?_
  refine jW.mgi F hV f_Mo_definitions_6 (by decide) (pc' := 9) rfl ?_
  refine jW.if_eq (dx_Mo_definitions 5 (e := (9, .ifCond .eq 10, 3)) rfl) 19 (by decide) (pc' := 12) rfl (fun c => ?_) (fun c => ?_)
  · replace h := h.1 c
    refine jW.iconst (v := 0) (dx_Mo_definitions 9 (e := (19, .iconst 0, 1)) rfl) (by decide) (pc' := 20) rfl ?_
    exact t_Mo_definitions_20 F hV h
  · replace h := h.2 c
    refine jW.aload_n (dx_Mo_definitions 6 (e := (12, .aload_n 0, 1)) rfl) rfl rfl (pc' := 13) rfl ?_
    refine jW.mgi F hV f_Mo_definitions_13 (by decide) (pc' := 16) rfl ?_
    refine jW.goto (dx_Mo_definitions 8 (e := (16, .goto 4, 3)) rfl) 20 (by decide) ?_
    exact t_Mo_definitions_20 F hV h
theorem g_Mo_definitions {X : MX} {a0 : Array Value} (F : mF X a0) {m : MS} {Φ : Option Value → MS → Prop} (he : w_Mo_definitions_0 X m Φ) : mE X 0 y_Mo_definitions [.ref (mo X)] m Φ := by
  intro d σ hV
  refine jE.of (by decide) (by simp [Value.category]) (Nat.le_of_ble_eq_true rfl) rfl ?_
  exact t_Mo_definitions_0 F hV he
def w_Mo_definition_24 (X : MX) (x1 x2 : Int32) (m : MS) (Φ : Option Value → MS → Prop) : Prop := Φ (some (.int (-1))) m
theorem t_Mo_definition_24 {X : MX} {a0 : Array Value} (F : mF X a0) {d : Nat} {x1 x2 : Int32} {m : MS} {σ : jS} {Φ : Option Value → MS → Prop} (hV : MV X m σ) (h : w_Mo_definition_24 X x1 x2 m Φ) : jW X.1 X.2.1 jcl X.2.2.1 X.2.2.2.1 (d + 0) y_Mo_definition 24 [some (.ref (mo X)), some (.int x1), some (.int x2)] [] σ (mQ X Φ σ) := by
  unfold w_Mo_definition_24 at h
  refine jW.iconst (v := -1) (dx_Mo_definition 12 (e := (24, .iconst (-1), 1)) rfl) (by decide) (pc' := 25) rfl ?_
  exact jW.iret (dx_Mo_definition 13 (e := (25, .ireturn, 1)) rfl) rfl ⟨FR.rfl, _, hV, h⟩
def w_Mo_definition_68 (X : MX) (x1 x2 s0 : Int32) (m : MS) (Φ : Option Value → MS → Prop) : Prop := Φ (some (.int (s0))) m
theorem t_Mo_definition_68 {X : MX} {a0 : Array Value} (F : mF X a0) {d : Nat} {x1 x2 s0 : Int32} {m : MS} {σ : jS} {Φ : Option Value → MS → Prop} (hV : MV X m σ) (h : w_Mo_definition_68 X x1 x2 s0 m Φ) : jW X.1 X.2.1 jcl X.2.2.1 X.2.2.2.1 (d + 0) y_Mo_definition 68 [some (.ref (mo X)), some (.int x1), some (.int x2)] [.int s0] σ (mQ X Φ σ) := by
  unfold w_Mo_definition_68 at h
  exact jW.iret (dx_Mo_definition 38 (e := (68, .ireturn, 1)) rfl) rfl ⟨FR.rfl, _, hV, h⟩
def w_Mo_definition_0 (X : MX) (x1 x2 : Int32) (m : MS) (Φ : Option Value → MS → Prop) : Prop := ∀ m1, m1 = mI m 0 (0) → ((m1.1 4 = 0 → w_Mo_definition_24 X (x1) (x2) m1 Φ) ∧ (¬ m1.1 4 = 0 → ((x1 < 0 → w_Mo_definition_24 X (x1) (x2) m1 Φ) ∧ (¬ x1 < 0 → ((x1 < m1.1 40 → ((x2 = 0 → (vp_in (x1) 700 ∧ w_Mo_definition_68 X (x1) (x2) (m1.2 42 (x1 : Int32).toNatClampNeg) m1 Φ)) ∧ (¬ x2 = 0 → ((x2 = 1 → (vp_in (x1) 700 ∧ w_Mo_definition_68 X (x1) (x2) (m1.2 44 (x1 : Int32).toNatClampNeg) m1 Φ)) ∧ (¬ x2 = 1 → ((x2 = 2 → (vp_in (x1) 700 ∧ w_Mo_definition_68 X (x1) (x2) (m1.2 46 (x1 : Int32).toNatClampNeg) m1 Φ)) ∧ (¬ x2 = 2 → w_Mo_definition_68 X (x1) (x2) (-1) m1 Φ))))))) ∧ (¬ x1 < m1.1 40 → w_Mo_definition_24 X (x1) (x2) m1 Φ))))))
theorem t_Mo_definition_0 {X : MX} {a0 : Array Value} (F : mF X a0) {d : Nat} {x1 x2 : Int32} {m : MS} {σ : jS} {Φ : Option Value → MS → Prop} (hV : MV X m σ) (h : w_Mo_definition_0 X x1 x2 m Φ) : jW X.1 X.2.1 jcl X.2.2.1 X.2.2.2.1 (d + 0) y_Mo_definition 0 [some (.ref (mo X)), some (.int x1), some (.int x2)] [] σ (mQ X Φ σ) := by
  unfold w_Mo_definition_0 at h
  refine jW.aload_n (dx_Mo_definition 0 (e := (0, .aload_n 0, 1)) rfl) rfl rfl (pc' := 1) rfl ?_
  refine jW.iconst (v := 0) (dx_Mo_definition 1 (e := (1, .iconst 0, 1)) rfl) (by decide) (pc' := 2) rfl ?_
  refine jW.mpi F hV f_Mo_definition_2 (by decide) rfl rfl rfl (pc' := 5) rfl (fun σ hV => ?_)
  replace h := h _ rfl
  refine jW.aload_n (dx_Mo_definition 3 (e := (5, .aload_n 0, 1)) rfl) rfl rfl (pc' := 6) rfl ?_
  refine jW.mgi F hV f_Mo_definition_6 (by decide) (pc' := 9) rfl ?_
  refine jW.if_eq (dx_Mo_definition 5 (e := (9, .ifCond .eq 15, 3)) rfl) 24 (by decide) (pc' := 12) rfl (fun c => ?_) (fun c => ?_)
  · replace h := h.1 c
    exact t_Mo_definition_24 F hV h
  · replace h := h.2 c
    refine jW.iload_n (dx_Mo_definition 6 (e := (12, .iload_n 1, 1)) rfl) rfl rfl (pc' := 13) rfl ?_
    refine jW.if_lt (dx_Mo_definition 7 (e := (13, .ifCond .lt 11, 3)) rfl) 24 (by decide) (pc' := 16) rfl (fun c => ?_) (fun c => ?_)
    · replace h := h.1 c
      exact t_Mo_definition_24 F hV h
    · replace h := h.2 c
      refine jW.iload_n (dx_Mo_definition 8 (e := (16, .iload_n 1, 1)) rfl) rfl rfl (pc' := 17) rfl ?_
      refine jW.aload_n (dx_Mo_definition 9 (e := (17, .aload_n 0, 1)) rfl) rfl rfl (pc' := 18) rfl ?_
      refine jW.mgi F hV f_Mo_definition_18 (by decide) (pc' := 21) rfl ?_
      refine jW.icmp_lt (dx_Mo_definition 11 (e := (21, .if_icmp .lt 5, 3)) rfl) 26 (by decide) (pc' := 24) rfl (fun c => ?_) (fun c => ?_)
      · replace h := h.1 c
        refine jW.iload_n (dx_Mo_definition 14 (e := (26, .iload_n 2, 1)) rfl) rfl rfl (pc' := 27) rfl ?_
        refine jW.if_ne (dx_Mo_definition 15 (e := (27, .ifCond .ne 12, 3)) rfl) 39 (by decide) (pc' := 30) rfl (fun c => ?_) (fun c => ?_)
        · replace h := h.2 c
          refine jW.iload_n (dx_Mo_definition 21 (e := (39, .iload_n 2, 1)) rfl) rfl rfl (pc' := 40) rfl ?_
          refine jW.iconst (v := 1) (dx_Mo_definition 22 (e := (40, .iconst 1, 1)) rfl) (by decide) (pc' := 41) rfl ?_
          refine jW.icmp_ne (dx_Mo_definition 23 (e := (41, .if_icmp .ne 12, 3)) rfl) 53 (by decide) (pc' := 44) rfl (fun c => ?_) (fun c => ?_)
          · replace h := h.2 c
            refine jW.iload_n (dx_Mo_definition 29 (e := (53, .iload_n 2, 1)) rfl) rfl rfl (pc' := 54) rfl ?_
            refine jW.iconst (v := 2) (dx_Mo_definition 30 (e := (54, .iconst 2, 1)) rfl) (by decide) (pc' := 55) rfl ?_
            refine jW.icmp_ne (dx_Mo_definition 31 (e := (55, .if_icmp .ne 12, 3)) rfl) 67 (by decide) (pc' := 58) rfl (fun c => ?_) (fun c => ?_)
            · replace h := h.2 c
              refine jW.iconst (v := -1) (dx_Mo_definition 37 (e := (67, .iconst (-1), 1)) rfl) (by decide) (pc' := 68) rfl ?_
              exact t_Mo_definition_68 F hV h
            · replace h := h.1 c
              refine jW.aload_n (dx_Mo_definition 32 (e := (58, .aload_n 0, 1)) rfl) rfl rfl (pc' := 59) rfl ?_
              refine jW.mga F hV f_Mo_definition_59 (by decide) (pc' := 62) rfl ?_
              refine jW.iload_n (dx_Mo_definition 34 (e := (62, .iload_n 1, 1)) rfl) rfl rfl (pc' := 63) rfl ?_
              refine jW.mla F hV (dx_Mo_definition 35 (e := (63, .iaload, 1)) rfl) (by decide) rfl h.1 (pc' := 64) rfl ?_
              replace h := h.2
              refine jW.goto (dx_Mo_definition 36 (e := (64, .goto 4, 3)) rfl) 68 (by decide) ?_
              exact t_Mo_definition_68 F hV h
          · replace h := h.1 c
            refine jW.aload_n (dx_Mo_definition 24 (e := (44, .aload_n 0, 1)) rfl) rfl rfl (pc' := 45) rfl ?_
            refine jW.mga F hV f_Mo_definition_45 (by decide) (pc' := 48) rfl ?_
            refine jW.iload_n (dx_Mo_definition 26 (e := (48, .iload_n 1, 1)) rfl) rfl rfl (pc' := 49) rfl ?_
            refine jW.mla F hV (dx_Mo_definition 27 (e := (49, .iaload, 1)) rfl) (by decide) rfl h.1 (pc' := 50) rfl ?_
            replace h := h.2
            refine jW.goto (dx_Mo_definition 28 (e := (50, .goto 18, 3)) rfl) 68 (by decide) ?_
            exact t_Mo_definition_68 F hV h
        · replace h := h.1 c
          refine jW.aload_n (dx_Mo_definition 16 (e := (30, .aload_n 0, 1)) rfl) rfl rfl (pc' := 31) rfl ?_
          refine jW.mga F hV f_Mo_definition_31 (by decide) (pc' := 34) rfl ?_
          refine jW.iload_n (dx_Mo_definition 18 (e := (34, .iload_n 1, 1)) rfl) rfl rfl (pc' := 35) rfl ?_
          refine jW.mla F hV (dx_Mo_definition 19 (e := (35, .iaload, 1)) rfl) (by decide) rfl h.1 (pc' := 36) rfl ?_
          replace h := h.2
          refine jW.goto (dx_Mo_definition 20 (e := (36, .goto 32, 3)) rfl) 68 (by decide) ?_
          exact t_Mo_definition_68 F hV h
      · replace h := h.2 c
        exact t_Mo_definition_24 F hV h
theorem g_Mo_definition {X : MX} {a0 : Array Value} (F : mF X a0) {x1 x2 : Int32} {m : MS} {Φ : Option Value → MS → Prop} (he : w_Mo_definition_0 X x1 x2 m Φ) : mE X 0 y_Mo_definition [.ref (mo X), .int x1, .int x2] m Φ := by
  intro d σ hV
  refine jE.of (by decide) (by simp [Value.category]) (Nat.le_of_ble_eq_true rfl) rfl ?_
  exact t_Mo_definition_0 F hV he
def w_Mo_defined_36 (X : MX) (x1 x2 x3 s0 : Int32) (m : MS) (Φ : Option Value → MS → Prop) : Prop := Φ (some (.int (s0))) m
theorem t_Mo_defined_36 {X : MX} {a0 : Array Value} (F : mF X a0) {d : Nat} {x1 x2 x3 s0 : Int32} {m : MS} {σ : jS} {Φ : Option Value → MS → Prop} (hV : MV X m σ) (h : w_Mo_defined_36 X x1 x2 x3 s0 m Φ) : jW X.1 X.2.1 jcl X.2.2.1 X.2.2.2.1 (d + 1) y_Mo_defined 36 [some (.ref (mo X)), some (.int x1), some (.int x2), some (.int x3)] [.int s0] σ (mQ X Φ σ) := by
  unfold w_Mo_defined_36 at h
  exact jW.iret (dx_Mo_defined 22 (e := (36, .ireturn, 1)) rfl) rfl ⟨FR.rfl, _, hV, h⟩
def w_Mo_defined_35 (X : MX) (x1 x2 x3 : Int32) (m : MS) (Φ : Option Value → MS → Prop) : Prop := w_Mo_defined_36 X (x1) (x2) (x3) (-1) m Φ
theorem t_Mo_defined_35 {X : MX} {a0 : Array Value} (F : mF X a0) {d : Nat} {x1 x2 x3 : Int32} {m : MS} {σ : jS} {Φ : Option Value → MS → Prop} (hV : MV X m σ) (h : w_Mo_defined_35 X x1 x2 x3 m Φ) : jW X.1 X.2.1 jcl X.2.2.1 X.2.2.2.1 (d + 1) y_Mo_defined 35 [some (.ref (mo X)), some (.int x1), some (.int x2), some (.int x3)] [] σ (mQ X Φ σ) := by
  unfold w_Mo_defined_35 at h
  refine jW.iconst (v := -1) (dx_Mo_defined 21 (e := (35, .iconst (-1), 1)) rfl) (by decide) (pc' := 36) rfl ?_
  exact t_Mo_defined_36 F hV h
def w_Mo_defined_0 (X : MX) (x1 x2 x3 : Int32) (m : MS) (Φ : Option Value → MS → Prop) : Prop := ∀ m1, m1 = mI m 0 (0) → ((x3 < 0 → w_Mo_defined_35 X (x1) (x2) (x3) m1 Φ) ∧ (¬ x3 < 0 → mE X 0 y_Mo_definition [.ref (mo X), .int (x1), .int (x2)] m1 (iP fun r2 m2 => ((r2 ≤ x3 → w_Mo_defined_35 X (x1) (x2) (x3) m2 Φ) ∧ (¬ r2 ≤ x3 → mE X 0 y_Mo_placeOf [.ref (mo X), .int (x1), .int (x2)] m2 (iP fun r3 m3 => (vp_in (r3 + x3) 48000 ∧ w_Mo_defined_36 X (x1) (x2) (x3) (m3.2 7 (r3 + x3 : Int32).toNatClampNeg) m3 Φ)))))))
theorem t_Mo_defined_0 {X : MX} {a0 : Array Value} (F : mF X a0) {d : Nat} {x1 x2 x3 : Int32} {m : MS} {σ : jS} {Φ : Option Value → MS → Prop} (hV : MV X m σ) (h : w_Mo_defined_0 X x1 x2 x3 m Φ) : jW X.1 X.2.1 jcl X.2.2.1 X.2.2.2.1 (d + 1) y_Mo_defined 0 [some (.ref (mo X)), some (.int x1), some (.int x2), some (.int x3)] [] σ (mQ X Φ σ) := by
  unfold w_Mo_defined_0 at h
  refine jW.aload_n (dx_Mo_defined 0 (e := (0, .aload_n 0, 1)) rfl) rfl rfl (pc' := 1) rfl ?_
  refine jW.iconst (v := 0) (dx_Mo_defined 1 (e := (1, .iconst 0, 1)) rfl) (by decide) (pc' := 2) rfl ?_
  refine jW.mpi F hV f_Mo_defined_2 (by decide) rfl rfl rfl (pc' := 5) rfl (fun σ hV => ?_)
  replace h := h _ rfl
  refine jW.iload_n (dx_Mo_defined 3 (e := (5, .iload_n 3, 1)) rfl) rfl rfl (pc' := 6) rfl ?_
  refine jW.if_lt (dx_Mo_defined 4 (e := (6, .ifCond .lt 29, 3)) rfl) 35 (by decide) (pc' := 9) rfl (fun c => ?_) (fun c => ?_)
  · replace h := h.1 c
    exact t_Mo_defined_35 F hV h
  · replace h := h.2 c
    refine jW.iload_n (dx_Mo_defined 5 (e := (9, .iload_n 3, 1)) rfl) rfl rfl (pc' := 10) rfl ?_
    refine jW.aload_n (dx_Mo_defined 6 (e := (10, .aload_n 0, 1)) rfl) rfl rfl (pc' := 11) rfl ?_
    refine jW.iload_n (dx_Mo_defined 7 (e := (11, .iload_n 1, 1)) rfl) rfl rfl (pc' := 12) rfl ?_
    refine jW.iload_n (dx_Mo_defined 8 (e := (12, .iload_n 2, 1)) rfl) rfl rfl (pc' := 13) rfl ?_
    refine jW.callVe F (h (d + 0) _ hV) (dx_Mo_defined 9 (e := (13, .invokevirtual 356, 3)) rfl) can_Mo_definition jw_1405 jw_1398 hV.cl rfl jw_1399 rfl rfl (Nat.le_of_ble_eq_true rfl) (pc' := 16) rfl (fun r σ hr => ?_)
    clear hV
    refine mQ.up hr.1 ?_
    obtain ⟨_, hV, _, rfl, h⟩ := hr.2
    refine jW.icmp_ge (dx_Mo_defined 10 (e := (16, .if_icmp .ge 19, 3)) rfl) 35 (by decide) (pc' := 19) rfl (fun c => ?_) (fun c => ?_)
    · replace h := h.1 c
      exact t_Mo_defined_35 F hV h
    · replace h := h.2 c
      refine jW.aload_n (dx_Mo_defined 11 (e := (19, .aload_n 0, 1)) rfl) rfl rfl (pc' := 20) rfl ?_
      refine jW.mga F hV f_Mo_defined_20 (by decide) (pc' := 23) rfl ?_
      refine jW.aload_n (dx_Mo_defined 13 (e := (23, .aload_n 0, 1)) rfl) rfl rfl (pc' := 24) rfl ?_
      refine jW.iload_n (dx_Mo_defined 14 (e := (24, .iload_n 1, 1)) rfl) rfl rfl (pc' := 25) rfl ?_
      refine jW.iload_n (dx_Mo_defined 15 (e := (25, .iload_n 2, 1)) rfl) rfl rfl (pc' := 26) rfl ?_
      refine jW.callVe F (h (d + 0) _ hV) (dx_Mo_defined 16 (e := (26, .invokevirtual 359, 3)) rfl) can_Mo_placeOf jw_1406 jw_1408 hV.cl rfl sel_Mo_placeOf rfl rfl (Nat.le_of_ble_eq_true rfl) (pc' := 29) rfl (fun r σ hr => ?_)
      clear hV
      refine mQ.up hr.1 ?_
      obtain ⟨_, hV, _, rfl, h⟩ := hr.2
      refine jW.iload_n (dx_Mo_defined 17 (e := (29, .iload_n 3, 1)) rfl) rfl rfl (pc' := 30) rfl ?_
      refine jW.iadd (dx_Mo_defined 18 (e := (30, .iadd, 1)) rfl) (pc' := 31) rfl ?_
      refine jW.mla F hV (dx_Mo_defined 19 (e := (31, .iaload, 1)) rfl) (by decide) rfl h.1 (pc' := 32) rfl ?_
      replace h := h.2
      refine jW.goto (dx_Mo_defined 20 (e := (32, .goto 4, 3)) rfl) 36 (by decide) ?_
      exact t_Mo_defined_36 F hV h
theorem g_Mo_defined {X : MX} {a0 : Array Value} (F : mF X a0) {x1 x2 x3 : Int32} {m : MS} {Φ : Option Value → MS → Prop} (he : w_Mo_defined_0 X x1 x2 x3 m Φ) : mE X 1 y_Mo_defined [.ref (mo X), .int x1, .int x2, .int x3] m Φ := by
  intro d σ hV
  refine jE.of (by decide) (by simp [Value.category]) (Nat.le_of_ble_eq_true rfl) rfl ?_
  exact t_Mo_defined_0 F hV he
def w_Mo_placeOf_33 (X : MX) (x1 x2 s0 : Int32) (m : MS) (Φ : Option Value → MS → Prop) : Prop := Φ (some (.int (s0))) m
theorem t_Mo_placeOf_33 {X : MX} {a0 : Array Value} (F : mF X a0) {d : Nat} {x1 x2 s0 : Int32} {m : MS} {σ : jS} {Φ : Option Value → MS → Prop} (hV : MV X m σ) (h : w_Mo_placeOf_33 X x1 x2 s0 m Φ) : jW X.1 X.2.1 jcl X.2.2.1 X.2.2.2.1 (d + 0) y_Mo_placeOf 33 [some (.ref (mo X)), some (.int x1), some (.int x2)] [.int s0] σ (mQ X Φ σ) := by
  unfold w_Mo_placeOf_33 at h
  exact jW.iret (dx_Mo_placeOf 19 (e := (33, .ireturn, 1)) rfl) rfl ⟨FR.rfl, _, hV, h⟩
def w_Mo_placeOf_0 (X : MX) (x1 x2 : Int32) (m : MS) (Φ : Option Value → MS → Prop) : Prop := ((x2 = 0 → (vp_in (x1) 700 ∧ w_Mo_placeOf_33 X (x1) (x2) (m.2 41 (x1 : Int32).toNatClampNeg) m Φ)) ∧ (¬ x2 = 0 → ((x2 = 1 → (vp_in (x1) 700 ∧ w_Mo_placeOf_33 X (x1) (x2) (m.2 43 (x1 : Int32).toNatClampNeg) m Φ)) ∧ (¬ x2 = 1 → (vp_in (x1) 700 ∧ w_Mo_placeOf_33 X (x1) (x2) (m.2 45 (x1 : Int32).toNatClampNeg) m Φ)))))
theorem t_Mo_placeOf_0 {X : MX} {a0 : Array Value} (F : mF X a0) {d : Nat} {x1 x2 : Int32} {m : MS} {σ : jS} {Φ : Option Value → MS → Prop} (hV : MV X m σ) (h : w_Mo_placeOf_0 X x1 x2 m Φ) : jW X.1 X.2.1 jcl X.2.2.1 X.2.2.2.1 (d + 0) y_Mo_placeOf 0 [some (.ref (mo X)), some (.int x1), some (.int x2)] [] σ (mQ X Φ σ) := by
  unfold w_Mo_placeOf_0 at h
  refine jW.iload_n (dx_Mo_placeOf 0 (e := (0, .iload_n 2, 1)) rfl) rfl rfl (pc' := 1) rfl ?_
  refine jW.if_ne (dx_Mo_placeOf 1 (e := (1, .ifCond .ne 12, 3)) rfl) 13 (by decide) (pc' := 4) rfl (fun c => ?_) (fun c => ?_)
  · replace h := h.2 c
    refine jW.iload_n (dx_Mo_placeOf 7 (e := (13, .iload_n 2, 1)) rfl) rfl rfl (pc' := 14) rfl ?_
    refine jW.iconst (v := 1) (dx_Mo_placeOf 8 (e := (14, .iconst 1, 1)) rfl) (by decide) (pc' := 15) rfl ?_
    refine jW.icmp_ne (dx_Mo_placeOf 9 (e := (15, .if_icmp .ne 12, 3)) rfl) 27 (by decide) (pc' := 18) rfl (fun c => ?_) (fun c => ?_)
    · replace h := h.2 c
      refine jW.aload_n (dx_Mo_placeOf 15 (e := (27, .aload_n 0, 1)) rfl) rfl rfl (pc' := 28) rfl ?_
      refine jW.mga F hV f_Mo_placeOf_28 (by decide) (pc' := 31) rfl ?_
      refine jW.iload_n (dx_Mo_placeOf 17 (e := (31, .iload_n 1, 1)) rfl) rfl rfl (pc' := 32) rfl ?_
      refine jW.mla F hV (dx_Mo_placeOf 18 (e := (32, .iaload, 1)) rfl) (by decide) rfl h.1 (pc' := 33) rfl ?_
      replace h := h.2
      exact t_Mo_placeOf_33 F hV h
    · replace h := h.1 c
      refine jW.aload_n (dx_Mo_placeOf 10 (e := (18, .aload_n 0, 1)) rfl) rfl rfl (pc' := 19) rfl ?_
      refine jW.mga F hV f_Mo_placeOf_19 (by decide) (pc' := 22) rfl ?_
      refine jW.iload_n (dx_Mo_placeOf 12 (e := (22, .iload_n 1, 1)) rfl) rfl rfl (pc' := 23) rfl ?_
      refine jW.mla F hV (dx_Mo_placeOf 13 (e := (23, .iaload, 1)) rfl) (by decide) rfl h.1 (pc' := 24) rfl ?_
      replace h := h.2
      refine jW.goto (dx_Mo_placeOf 14 (e := (24, .goto 9, 3)) rfl) 33 (by decide) ?_
      exact t_Mo_placeOf_33 F hV h
  · replace h := h.1 c
    refine jW.aload_n (dx_Mo_placeOf 2 (e := (4, .aload_n 0, 1)) rfl) rfl rfl (pc' := 5) rfl ?_
    refine jW.mga F hV f_Mo_placeOf_5 (by decide) (pc' := 8) rfl ?_
    refine jW.iload_n (dx_Mo_placeOf 4 (e := (8, .iload_n 1, 1)) rfl) rfl rfl (pc' := 9) rfl ?_
    refine jW.mla F hV (dx_Mo_placeOf 5 (e := (9, .iaload, 1)) rfl) (by decide) rfl h.1 (pc' := 10) rfl ?_
    replace h := h.2
    refine jW.goto (dx_Mo_placeOf 6 (e := (10, .goto 23, 3)) rfl) 33 (by decide) ?_
    exact t_Mo_placeOf_33 F hV h
theorem g_Mo_placeOf {X : MX} {a0 : Array Value} (F : mF X a0) {x1 x2 : Int32} {m : MS} {Φ : Option Value → MS → Prop} (he : w_Mo_placeOf_0 X x1 x2 m Φ) : mE X 0 y_Mo_placeOf [.ref (mo X), .int x1, .int x2] m Φ := by
  intro d σ hV
  refine jE.of (by decide) (by simp [Value.category]) (Nat.le_of_ble_eq_true rfl) rfl ?_
  exact t_Mo_placeOf_0 F hV he
def w_Mo_find_114 (X : MX) (x1 x2 x3 x4 x5 s0 : Int32) (m : MS) (Φ : Option Value → MS → Prop) (K75 : Int32 → Int32 → Int32 → Int32 → Int32 → MS → Prop) : Prop := K75 (x1) (x2) (x3) (s0) (x5 + (-1)) m
theorem t_Mo_find_114 {X : MX} {a0 : Array Value} (F : mF X a0) {d : Nat} {x1 x2 x3 x4 x5 s0 : Int32} {m : MS} {σ : jS} {Φ : Option Value → MS → Prop} {K75 : Int32 → Int32 → Int32 → Int32 → Int32 → MS → Prop} (hV : MV X m σ) (h : w_Mo_find_114 X x1 x2 x3 x4 x5 s0 m Φ K75) (hK75 : ∀ (x1 x2 x3 x4 x5 : Int32) (m : MS) (σ : jS), MV X m σ → K75 x1 x2 x3 x4 x5 m → jW X.1 X.2.1 jcl X.2.2.1 X.2.2.2.1 (d + 2) y_Mo_find 75 [some (.ref (mo X)), some (.int x1), some (.int x2), some (.int x3), some (.int x4), some (.int x5)] [] σ (mQ X Φ σ)) : jW X.1 X.2.1 jcl X.2.2.1 X.2.2.2.1 (d + 2) y_Mo_find 114 [some (.ref (mo X)), some (.int x1), some (.int x2), some (.int x3), some (.int x4), some (.int x5)] [.int s0] σ (mQ X Φ σ) := by
  unfold w_Mo_find_114 at h
  refine jW.istore (dx_Mo_find 63 (e := (114, .istore 4, 2)) rfl) (by decide) rfl (pc' := 116) rfl ?_
  refine jW.iinc (v := _ + (-1)) (dx_Mo_find 64 (e := (116, .iinc 5 (-1), 3)) rfl) rfl rfl (by decide) rfl (pc' := 119) rfl ?_
  refine jW.goto (dx_Mo_find 65 (e := (119, .goto (-44), 3)) rfl) 75 (by decide) ?_
  exact hK75 _ _ _ _ _ _ _ hV h
def w_Mo_find_112 (X : MX) (x1 x2 x3 x4 x5 : Int32) (m : MS) (Φ : Option Value → MS → Prop) (K75 : Int32 → Int32 → Int32 → Int32 → Int32 → MS → Prop) : Prop := w_Mo_find_114 X (x1) (x2) (x3) (x4) (x5) (x4) m Φ K75
theorem t_Mo_find_112 {X : MX} {a0 : Array Value} (F : mF X a0) {d : Nat} {x1 x2 x3 x4 x5 : Int32} {m : MS} {σ : jS} {Φ : Option Value → MS → Prop} {K75 : Int32 → Int32 → Int32 → Int32 → Int32 → MS → Prop} (hV : MV X m σ) (h : w_Mo_find_112 X x1 x2 x3 x4 x5 m Φ K75) (hK75 : ∀ (x1 x2 x3 x4 x5 : Int32) (m : MS) (σ : jS), MV X m σ → K75 x1 x2 x3 x4 x5 m → jW X.1 X.2.1 jcl X.2.2.1 X.2.2.2.1 (d + 2) y_Mo_find 75 [some (.ref (mo X)), some (.int x1), some (.int x2), some (.int x3), some (.int x4), some (.int x5)] [] σ (mQ X Φ σ)) : jW X.1 X.2.1 jcl X.2.2.1 X.2.2.2.1 (d + 2) y_Mo_find 112 [some (.ref (mo X)), some (.int x1), some (.int x2), some (.int x3), some (.int x4), some (.int x5)] [] σ (mQ X Φ σ) := by
  unfold w_Mo_find_112 at h
  refine jW.iload (dx_Mo_find 62 (e := (112, .iload 4, 2)) rfl) rfl (pc' := 114) rfl ?_
  exact t_Mo_find_114 F hV h hK75
def w_Mo_find_75 (X : MX) (x1 x2 x3 x4 x5 : Int32) (m : MS) (Φ : Option Value → MS → Prop) (K75 : Int32 → Int32 → Int32 → Int32 → Int32 → MS → Prop) : Prop := ((x5 < 0 → ∀ m1, m1 = mI m 10 (x1) → Φ (some (.int (x4))) m1) ∧ (¬ x5 < 0 → (vp_in (x5) 700 ∧ ((m.2 42 (x5 : Int32).toNatClampNeg = x3 → (vp_in (x5) 700 ∧ mE X 0 y_Mo_areAlike [.ref (mo X), .int (m.2 41 (x5 : Int32).toNatClampNeg), .int (x2), .int (x3)] m (iP fun r2 m2 => ((r2 = 0 → w_Mo_find_112 X (x1) (x2) (x3) (x4) (x5) m2 Φ K75) ∧ (¬ r2 = 0 → w_Mo_find_114 X (x1) (x2) (x3) (x4) (x5) (x5) m2 Φ K75))))) ∧ (¬ m.2 42 (x5 : Int32).toNatClampNeg = x3 → w_Mo_find_112 X (x1) (x2) (x3) (x4) (x5) m Φ K75)))))
theorem t_Mo_find_75 {X : MX} {a0 : Array Value} (F : mF X a0) {d : Nat} {x1 x2 x3 x4 x5 : Int32} {m : MS} {σ : jS} {Φ : Option Value → MS → Prop} {K75 : Int32 → Int32 → Int32 → Int32 → Int32 → MS → Prop} (hV : MV X m σ) (h : w_Mo_find_75 X x1 x2 x3 x4 x5 m Φ K75) (hK75 : ∀ (x1 x2 x3 x4 x5 : Int32) (m : MS) (σ : jS), MV X m σ → K75 x1 x2 x3 x4 x5 m → jW X.1 X.2.1 jcl X.2.2.1 X.2.2.2.1 (d + 2) y_Mo_find 75 [some (.ref (mo X)), some (.int x1), some (.int x2), some (.int x3), some (.int x4), some (.int x5)] [] σ (mQ X Φ σ)) : jW X.1 X.2.1 jcl X.2.2.1 X.2.2.2.1 (d + 2) y_Mo_find 75 [some (.ref (mo X)), some (.int x1), some (.int x2), some (.int x3), some (.int x4), some (.int x5)] [] σ (mQ X Φ σ) := by
  unfold w_Mo_find_75 at h
  refine jW.iload (dx_Mo_find 43 (e := (75, .iload 5, 2)) rfl) rfl (pc' := 77) rfl ?_
  refine jW.if_lt (dx_Mo_find 44 (e := (77, .ifCond .lt 45, 3)) rfl) 122 (by decide) (pc' := 80) rfl (fun c => ?_) (fun c => ?_)
  · replace h := h.1 c
    refine jW.aload_n (dx_Mo_find 66 (e := (122, .aload_n 0, 1)) rfl) rfl rfl (pc' := 123) rfl ?_
    refine jW.iload_n (dx_Mo_find 67 (e := (123, .iload_n 1, 1)) rfl) rfl rfl (pc' := 124) rfl ?_
    refine jW.mpi F hV f_Mo_find_124 (by decide) rfl rfl rfl (pc' := 127) rfl (fun σ hV => ?_)
    replace h := h _ rfl
    refine jW.iload (dx_Mo_find 69 (e := (127, .iload 4, 2)) rfl) rfl (pc' := 129) rfl ?_
    exact jW.iret (dx_Mo_find 70 (e := (129, .ireturn, 1)) rfl) rfl ⟨FR.rfl, _, hV, h⟩
  · replace h := h.2 c
    refine jW.aload_n (dx_Mo_find 45 (e := (80, .aload_n 0, 1)) rfl) rfl rfl (pc' := 81) rfl ?_
    refine jW.mga F hV f_Mo_find_81 (by decide) (pc' := 84) rfl ?_
    refine jW.iload (dx_Mo_find 47 (e := (84, .iload 5, 2)) rfl) rfl (pc' := 86) rfl ?_
    refine jW.mla F hV (dx_Mo_find 48 (e := (86, .iaload, 1)) rfl) (by decide) rfl h.1 (pc' := 87) rfl ?_
    replace h := h.2
    refine jW.iload_n (dx_Mo_find 49 (e := (87, .iload_n 3, 1)) rfl) rfl rfl (pc' := 88) rfl ?_
    refine jW.icmp_ne (dx_Mo_find 50 (e := (88, .if_icmp .ne 24, 3)) rfl) 112 (by decide) (pc' := 91) rfl (fun c => ?_) (fun c => ?_)
    · replace h := h.2 c
      exact t_Mo_find_112 F hV h hK75
    · replace h := h.1 c
      refine jW.aload_n (dx_Mo_find 51 (e := (91, .aload_n 0, 1)) rfl) rfl rfl (pc' := 92) rfl ?_
      refine jW.aload_n (dx_Mo_find 52 (e := (92, .aload_n 0, 1)) rfl) rfl rfl (pc' := 93) rfl ?_
      refine jW.mga F hV f_Mo_find_93 (by decide) (pc' := 96) rfl ?_
      refine jW.iload (dx_Mo_find 54 (e := (96, .iload 5, 2)) rfl) rfl (pc' := 98) rfl ?_
      refine jW.mla F hV (dx_Mo_find 55 (e := (98, .iaload, 1)) rfl) (by decide) rfl h.1 (pc' := 99) rfl ?_
      replace h := h.2
      refine jW.iload_n (dx_Mo_find 56 (e := (99, .iload_n 2, 1)) rfl) rfl rfl (pc' := 100) rfl ?_
      refine jW.iload_n (dx_Mo_find 57 (e := (100, .iload_n 3, 1)) rfl) rfl rfl (pc' := 101) rfl ?_
      refine jW.callVe F (h (d + 1) _ hV) (dx_Mo_find 58 (e := (101, .invokevirtual 334, 3)) rfl) can_Mo_areAlike jw_1284 jw_1286 hV.cl rfl sel_Mo_areAlike rfl rfl (Nat.le_of_ble_eq_true rfl) (pc' := 104) rfl (fun r σ hr => ?_)
      clear hV
      refine mQ.up hr.1 ?_
      obtain ⟨_, hV, _, rfl, h⟩ := hr.2
      refine jW.if_eq (dx_Mo_find 59 (e := (104, .ifCond .eq 8, 3)) rfl) 112 (by decide) (pc' := 107) rfl (fun c => ?_) (fun c => ?_)
      · replace h := h.1 c
        exact t_Mo_find_112 F hV h hK75
      · replace h := h.2 c
        refine jW.iload (dx_Mo_find 60 (e := (107, .iload 5, 2)) rfl) rfl (pc' := 109) rfl ?_
        refine jW.goto (dx_Mo_find 61 (e := (109, .goto 5, 3)) rfl) 114 (by decide) ?_
        exact t_Mo_find_114 F hV h hK75
def w_Mo_find_21 (X : MX) (x1 x2 : Int32) (m : MS) (Φ : Option Value → MS → Prop) (K21 : Int32 → Int32 → MS → Prop) (K75 : Int32 → Int32 → Int32 → Int32 → Int32 → MS → Prop) : Prop := ((m.1 3 ≤ x2 → mE X 1 y_Mo_normal [.ref (mo X), .int (x1), .int (m.1 3)] m (iP fun r1 m1 => K75 (x1) (m.1 10) (r1) (-1) ((m1.1 40) - 1) m1)) ∧ (¬ m.1 3 ≤ x2 → (vp_in (x2) 3000 ∧ mE X 0 y_Mo_keep [.ref (mo X), .int ((m.2 1 (x2 : Int32).toNatClampNeg) &&& 255)] m (vP fun m2 => K21 (x1) (x2 + 1) m2))))
theorem t_Mo_find_21 {X : MX} {a0 : Array Value} (F : mF X a0) {d : Nat} {x1 x2 : Int32} {o3 o4 o5 : Option Value} {m : MS} {σ : jS} {Φ : Option Value → MS → Prop} {K21 : Int32 → Int32 → MS → Prop} {K75 : Int32 → Int32 → Int32 → Int32 → Int32 → MS → Prop} (hV : MV X m σ) (h : w_Mo_find_21 X x1 x2 m Φ K21 K75) (hK21 : ∀ (x1 x2 : Int32) (o3 o4 o5 : Option Value) (m : MS) (σ : jS), MV X m σ → K21 x1 x2 m → jW X.1 X.2.1 jcl X.2.2.1 X.2.2.2.1 (d + 2) y_Mo_find 21 [some (.ref (mo X)), some (.int x1), some (.int x2), o3, o4, o5] [] σ (mQ X Φ σ)) (hK75 : ∀ (x1 x2 x3 x4 x5 : Int32) (m : MS) (σ : jS), MV X m σ → K75 x1 x2 x3 x4 x5 m → jW X.1 X.2.1 jcl X.2.2.1 X.2.2.2.1 (d + 2) y_Mo_find 75 [some (.ref (mo X)), some (.int x1), some (.int x2), some (.int x3), some (.int x4), some (.int x5)] [] σ (mQ X Φ σ)) : jW X.1 X.2.1 jcl X.2.2.1 X.2.2.2.1 (d + 2) y_Mo_find 21 [some (.ref (mo X)), some (.int x1), some (.int x2), o3, o4, o5] [] σ (mQ X Φ σ) := by
  unfold w_Mo_find_21 at h
  refine jW.iload_n (dx_Mo_find 13 (e := (21, .iload_n 2, 1)) rfl) rfl rfl (pc' := 22) rfl ?_
  refine jW.aload_n (dx_Mo_find 14 (e := (22, .aload_n 0, 1)) rfl) rfl rfl (pc' := 23) rfl ?_
  refine jW.mgi F hV f_Mo_find_23 (by decide) (pc' := 26) rfl ?_
  refine jW.icmp_ge (dx_Mo_find 16 (e := (26, .if_icmp .ge 23, 3)) rfl) 49 (by decide) (pc' := 29) rfl (fun c => ?_) (fun c => ?_)
  · replace h := h.1 c
    refine jW.aload_n (dx_Mo_find 27 (e := (49, .aload_n 0, 1)) rfl) rfl rfl (pc' := 50) rfl ?_
    refine jW.mgi F hV f_Mo_find_50 (by decide) (pc' := 53) rfl ?_
    refine jW.istore_n (dx_Mo_find 29 (e := (53, .istore_n 2, 1)) rfl) rfl (by decide) rfl (pc' := 54) rfl ?_
    refine jW.aload_n (dx_Mo_find 30 (e := (54, .aload_n 0, 1)) rfl) rfl rfl (pc' := 55) rfl ?_
    refine jW.iload_n (dx_Mo_find 31 (e := (55, .iload_n 1, 1)) rfl) rfl rfl (pc' := 56) rfl ?_
    refine jW.aload_n (dx_Mo_find 32 (e := (56, .aload_n 0, 1)) rfl) rfl rfl (pc' := 57) rfl ?_
    refine jW.mgi F hV f_Mo_find_57 (by decide) (pc' := 60) rfl ?_
    refine jW.callVe F (h (d + 0) _ hV) (dx_Mo_find 34 (e := (60, .invokevirtual 341, 3)) rfl) can_Mo_normal jw_1244 jw_1246 hV.cl rfl sel_Mo_normal rfl rfl (Nat.le_of_ble_eq_true rfl) (pc' := 63) rfl (fun r σ hr => ?_)
    clear hV
    refine mQ.up hr.1 ?_
    obtain ⟨_, hV, _, rfl, h⟩ := hr.2
    refine jW.istore_n (dx_Mo_find 35 (e := (63, .istore_n 3, 1)) rfl) rfl (by decide) rfl (pc' := 64) rfl ?_
    refine jW.iconst (v := -1) (dx_Mo_find 36 (e := (64, .iconst (-1), 1)) rfl) (by decide) (pc' := 65) rfl ?_
    refine jW.istore (dx_Mo_find 37 (e := (65, .istore 4, 2)) rfl) (by decide) rfl (pc' := 67) rfl ?_
    refine jW.aload_n (dx_Mo_find 38 (e := (67, .aload_n 0, 1)) rfl) rfl rfl (pc' := 68) rfl ?_
    refine jW.mgi F hV f_Mo_find_68 (by decide) (pc' := 71) rfl ?_
    refine jW.iconst (v := 1) (dx_Mo_find 40 (e := (71, .iconst 1, 1)) rfl) (by decide) (pc' := 72) rfl ?_
    refine jW.isub (dx_Mo_find 41 (e := (72, .isub, 1)) rfl) (pc' := 73) rfl ?_
    refine jW.istore (dx_Mo_find 42 (e := (73, .istore 5, 2)) rfl) (by decide) rfl (pc' := 75) rfl ?_
    exact hK75 _ _ _ _ _ _ _ hV h
  · replace h := h.2 c
    refine jW.aload_n (dx_Mo_find 17 (e := (29, .aload_n 0, 1)) rfl) rfl rfl (pc' := 30) rfl ?_
    refine jW.aload_n (dx_Mo_find 18 (e := (30, .aload_n 0, 1)) rfl) rfl rfl (pc' := 31) rfl ?_
    refine jW.mga F hV f_Mo_find_31 (by decide) (pc' := 34) rfl ?_
    refine jW.iload_n (dx_Mo_find 20 (e := (34, .iload_n 2, 1)) rfl) rfl rfl (pc' := 35) rfl ?_
    refine jW.mlb F hV (dx_Mo_find 21 (e := (35, .baload, 1)) rfl) (by decide) rfl h.1 (pc' := 36) rfl ?_
    replace h := h.2
    refine jW.sipush (v := 255) (dx_Mo_find 22 (e := (36, .sipush 255, 3)) rfl) (by decide) (pc' := 39) rfl ?_
    refine jW.iand (dx_Mo_find 23 (e := (39, .iand, 1)) rfl) (pc' := 40) rfl ?_
    refine jW.callVe F (h (d + 1) _ hV) (dx_Mo_find 24 (e := (40, .invokevirtual 189, 3)) rfl) can_Mo_keep jw_1248 jw_1250 hV.cl rfl sel_Mo_keep rfl rfl (Nat.le_of_ble_eq_true rfl) (pc' := 43) rfl (fun r σ hr => ?_)
    clear hV
    refine mQ.up hr.1 ?_
    obtain ⟨_, hV, rfl, h⟩ := hr.2
    refine jW.iinc (v := _ + (1)) (dx_Mo_find 25 (e := (43, .iinc 2 1, 3)) rfl) rfl rfl (by decide) rfl (pc' := 46) rfl ?_
    refine jW.goto (dx_Mo_find 26 (e := (46, .goto (-25), 3)) rfl) 21 (by decide) ?_
    exact hK21 _ _ _ _ _ _ _ hV h
def w_Mo_find_0 (X : MX) (m : MS) (Φ : Option Value → MS → Prop) (K21 : Int32 → Int32 → MS → Prop) (K75 : Int32 → Int32 → Int32 → Int32 → Int32 → MS → Prop) : Prop := ∀ m1, m1 = mI m 0 (0) → ((m1.1 4 = 0 → Φ (some (.int (-1))) m1) ∧ (¬ m1.1 4 = 0 → K21 (m1.1 10) (0) m1))
theorem t_Mo_find_0 {X : MX} {a0 : Array Value} (F : mF X a0) {d : Nat} {o1 o2 o3 o4 o5 : Option Value} {m : MS} {σ : jS} {Φ : Option Value → MS → Prop} {K21 : Int32 → Int32 → MS → Prop} {K75 : Int32 → Int32 → Int32 → Int32 → Int32 → MS → Prop} (hV : MV X m σ) (h : w_Mo_find_0 X m Φ K21 K75) (hK21 : ∀ (x1 x2 : Int32) (o3 o4 o5 : Option Value) (m : MS) (σ : jS), MV X m σ → K21 x1 x2 m → jW X.1 X.2.1 jcl X.2.2.1 X.2.2.2.1 (d + 2) y_Mo_find 21 [some (.ref (mo X)), some (.int x1), some (.int x2), o3, o4, o5] [] σ (mQ X Φ σ)) (hK75 : ∀ (x1 x2 x3 x4 x5 : Int32) (m : MS) (σ : jS), MV X m σ → K75 x1 x2 x3 x4 x5 m → jW X.1 X.2.1 jcl X.2.2.1 X.2.2.2.1 (d + 2) y_Mo_find 75 [some (.ref (mo X)), some (.int x1), some (.int x2), some (.int x3), some (.int x4), some (.int x5)] [] σ (mQ X Φ σ)) : jW X.1 X.2.1 jcl X.2.2.1 X.2.2.2.1 (d + 2) y_Mo_find 0 [some (.ref (mo X)), o1, o2, o3, o4, o5] [] σ (mQ X Φ σ) := by
  unfold w_Mo_find_0 at h
  refine jW.aload_n (dx_Mo_find 0 (e := (0, .aload_n 0, 1)) rfl) rfl rfl (pc' := 1) rfl ?_
  refine jW.iconst (v := 0) (dx_Mo_find 1 (e := (1, .iconst 0, 1)) rfl) (by decide) (pc' := 2) rfl ?_
  refine jW.mpi F hV f_Mo_find_2 (by decide) rfl rfl rfl (pc' := 5) rfl (fun σ hV => ?_)
  replace h := h _ rfl
  refine jW.aload_n (dx_Mo_find 3 (e := (5, .aload_n 0, 1)) rfl) rfl rfl (pc' := 6) rfl ?_
  refine jW.mgi F hV f_Mo_find_6 (by decide) (pc' := 9) rfl ?_
  refine jW.if_ne (dx_Mo_find 5 (e := (9, .ifCond .ne 5, 3)) rfl) 14 (by decide) (pc' := 12) rfl (fun c => ?_) (fun c => ?_)
  · replace h := h.2 c
    refine jW.aload_n (dx_Mo_find 8 (e := (14, .aload_n 0, 1)) rfl) rfl rfl (pc' := 15) rfl ?_
    refine jW.mgi F hV f_Mo_find_15 (by decide) (pc' := 18) rfl ?_
    refine jW.istore_n (dx_Mo_find 10 (e := (18, .istore_n 1, 1)) rfl) rfl (by decide) rfl (pc' := 19) rfl ?_
    refine jW.iconst (v := 0) (dx_Mo_find 11 (e := (19, .iconst 0, 1)) rfl) (by decide) (pc' := 20) rfl ?_
    refine jW.istore_n (dx_Mo_find 12 (e := (20, .istore_n 2, 1)) rfl) rfl (by decide) rfl (pc' := 21) rfl ?_
    exact hK21 _ _ _ _ _ _ _ hV h
  · replace h := h.1 c
    refine jW.iconst (v := -1) (dx_Mo_find 6 (e := (12, .iconst (-1), 1)) rfl) (by decide) (pc' := 13) rfl ?_
    exact jW.iret (dx_Mo_find 7 (e := (13, .ireturn, 1)) rfl) rfl ⟨FR.rfl, _, hV, h⟩
theorem g_Mo_find {X : MX} {a0 : Array Value} (F : mF X a0) {m : MS} {Φ : Option Value → MS → Prop} {I21 : Nat → Int32 → Int32 → MS → Prop} {I75 : Nat → Int32 → Int32 → Int32 → Int32 → Int32 → MS → Prop} (he : w_Mo_find_0 X m Φ (fun x1 x2 m => ∃ j, I21 j x1 x2 m) (fun x1 x2 x3 x4 x5 m => ∃ j, I75 j x1 x2 x3 x4 x5 m)) (h75 : ∀ (n : Nat) (x1 x2 x3 x4 x5 : Int32) (m : MS), I75 n x1 x2 x3 x4 x5 m → w_Mo_find_75 X x1 x2 x3 x4 x5 m Φ (fun x1 x2 x3 x4 x5 m => ∃ j, j < n ∧ I75 j x1 x2 x3 x4 x5 m)) (h21 : ∀ (n : Nat) (x1 x2 : Int32) (m : MS), I21 n x1 x2 m → w_Mo_find_21 X x1 x2 m Φ (fun x1 x2 m => ∃ j, j < n ∧ I21 j x1 x2 m) (fun x1 x2 x3 x4 x5 m => ∃ j, I75 j x1 x2 x3 x4 x5 m)) : mE X 2 y_Mo_find [.ref (mo X)] m Φ := by
  intro d σ hV
  have hL75 : ∀ n, (∀ (x1 x2 x3 x4 x5 : Int32) (m : MS) (σ : jS), MV X m σ → I75 n x1 x2 x3 x4 x5 m → jW X.1 X.2.1 jcl X.2.2.1 X.2.2.2.1 (d + 2) y_Mo_find 75 [some (.ref (mo X)), some (.int x1), some (.int x2), some (.int x3), some (.int x4), some (.int x5)] [] σ (mQ X Φ σ)) := by
    intro n
    induction n using Nat.strongRecOn with
    | _ n ih =>
      exact fun x1 x2 x3 x4 x5 m σ hV hI => t_Mo_find_75 F hV (h75 n x1 x2 x3 x4 x5 m hI) (fun x1 x2 x3 x4 x5 m σ hV ⟨j, hj, hI⟩ => (ih j hj) x1 x2 x3 x4 x5 m σ hV hI)
  have hL21 : ∀ n, (∀ (x1 x2 : Int32) (o3 o4 o5 : Option Value) (m : MS) (σ : jS), MV X m σ → I21 n x1 x2 m → jW X.1 X.2.1 jcl X.2.2.1 X.2.2.2.1 (d + 2) y_Mo_find 21 [some (.ref (mo X)), some (.int x1), some (.int x2), o3, o4, o5] [] σ (mQ X Φ σ)) := by
    intro n
    induction n using Nat.strongRecOn with
    | _ n ih =>
      exact fun x1 x2 o3 o4 o5 m σ hV hI => t_Mo_find_21 F hV (h21 n x1 x2 m hI) (fun x1 x2 o3 o4 o5 m σ hV ⟨j, hj, hI⟩ => (ih j hj) x1 x2 o3 o4 o5 m σ hV hI) (fun x1 x2 x3 x4 x5 m σ hV ⟨j, hI⟩ => (hL75 j) x1 x2 x3 x4 x5 m σ hV hI)
  refine jE.of (by decide) (by simp [Value.category]) (Nat.le_of_ble_eq_true rfl) rfl ?_
  exact t_Mo_find_0 F hV he (fun x1 x2 o3 o4 o5 m σ hV ⟨j, hI⟩ => (hL21 j) x1 x2 o3 o4 o5 m σ hV hI) (fun x1 x2 x3 x4 x5 m σ hV ⟨j, hI⟩ => (hL75 j) x1 x2 x3 x4 x5 m σ hV hI)
def w_Mo_about_63 (X : MX) (x1 s0 : Int32) (m : MS) (Φ : Option Value → MS → Prop) : Prop := Φ (some (.int (s0))) m
theorem t_Mo_about_63 {X : MX} {a0 : Array Value} (F : mF X a0) {d : Nat} {x1 s0 : Int32} {m : MS} {σ : jS} {Φ : Option Value → MS → Prop} (hV : MV X m σ) (h : w_Mo_about_63 X x1 s0 m Φ) : jW X.1 X.2.1 jcl X.2.2.1 X.2.2.2.1 (d + 0) y_Mo_about 63 [some (.ref (mo X)), some (.int x1)] [.int s0] σ (mQ X Φ σ) := by
  unfold w_Mo_about_63 at h
  exact jW.iret (dx_Mo_about 31 (e := (63, .ireturn, 1)) rfl) rfl ⟨FR.rfl, _, hV, h⟩
def w_Mo_about_0 (X : MX) (x1 : Int32) (m : MS) (Φ : Option Value → MS → Prop) : Prop := ∀ m1, m1 = mI m 0 (0) → ((x1 = 0 → w_Mo_about_63 X (x1) (m1.1 3) m1 Φ) ∧ (¬ x1 = 0 → ((x1 = 1 → ((m1.1 4 = 0 → w_Mo_about_63 X (x1) (0) m1 Φ) ∧ (¬ m1.1 4 = 0 → w_Mo_about_63 X (x1) (m1.1 39) m1 Φ))) ∧ (¬ x1 = 1 → ((x1 = 2 → ((m1.1 4 = 0 → w_Mo_about_63 X (x1) (0) m1 Φ) ∧ (¬ m1.1 4 = 0 → w_Mo_about_63 X (x1) (m1.1 6) m1 Φ))) ∧ (¬ x1 = 2 → w_Mo_about_63 X (x1) (-1) m1 Φ))))))
theorem t_Mo_about_0 {X : MX} {a0 : Array Value} (F : mF X a0) {d : Nat} {x1 : Int32} {m : MS} {σ : jS} {Φ : Option Value → MS → Prop} (hV : MV X m σ) (h : w_Mo_about_0 X x1 m Φ) : jW X.1 X.2.1 jcl X.2.2.1 X.2.2.2.1 (d + 0) y_Mo_about 0 [some (.ref (mo X)), some (.int x1)] [] σ (mQ X Φ σ) := by
  unfold w_Mo_about_0 at h
  refine jW.aload_n (dx_Mo_about 0 (e := (0, .aload_n 0, 1)) rfl) rfl rfl (pc' := 1) rfl ?_
  refine jW.iconst (v := 0) (dx_Mo_about 1 (e := (1, .iconst 0, 1)) rfl) (by decide) (pc' := 2) rfl ?_
  refine jW.mpi F hV f_Mo_about_2 (by decide) rfl rfl rfl (pc' := 5) rfl (fun σ hV => ?_)
  replace h := h _ rfl
  refine jW.iload_n (dx_Mo_about 3 (e := (5, .iload_n 1, 1)) rfl) rfl rfl (pc' := 6) rfl ?_
  refine jW.if_ne (dx_Mo_about 4 (e := (6, .ifCond .ne 10, 3)) rfl) 16 (by decide) (pc' := 9) rfl (fun c => ?_) (fun c => ?_)
  · replace h := h.2 c
    refine jW.iload_n (dx_Mo_about 8 (e := (16, .iload_n 1, 1)) rfl) rfl rfl (pc' := 17) rfl ?_
    refine jW.iconst (v := 1) (dx_Mo_about 9 (e := (17, .iconst 1, 1)) rfl) (by decide) (pc' := 18) rfl ?_
    refine jW.icmp_ne (dx_Mo_about 10 (e := (18, .if_icmp .ne 21, 3)) rfl) 39 (by decide) (pc' := 21) rfl (fun c => ?_) (fun c => ?_)
    · replace h := h.2 c
      refine jW.iload_n (dx_Mo_about 19 (e := (39, .iload_n 1, 1)) rfl) rfl rfl (pc' := 40) rfl ?_
      refine jW.iconst (v := 2) (dx_Mo_about 20 (e := (40, .iconst 2, 1)) rfl) (by decide) (pc' := 41) rfl ?_
      refine jW.icmp_ne (dx_Mo_about 21 (e := (41, .if_icmp .ne 21, 3)) rfl) 62 (by decide) (pc' := 44) rfl (fun c => ?_) (fun c => ?_)
      · replace h := h.2 c
        refine jW.iconst (v := -1) (dx_Mo_about 30 (e := (62, .iconst (-1), 1)) rfl) (by decide) (pc' := 63) rfl ?_
        exact t_Mo_about_63 F hV h
      · replace h := h.1 c
        refine jW.aload_n (dx_Mo_about 22 (e := (44, .aload_n 0, 1)) rfl) rfl rfl (pc' := 45) rfl ?_
        refine jW.mgi F hV f_Mo_about_45 (by decide) (pc' := 48) rfl ?_
        refine jW.if_eq (dx_Mo_about 24 (e := (48, .ifCond .eq 10, 3)) rfl) 58 (by decide) (pc' := 51) rfl (fun c => ?_) (fun c => ?_)
        · replace h := h.1 c
          refine jW.iconst (v := 0) (dx_Mo_about 28 (e := (58, .iconst 0, 1)) rfl) (by decide) (pc' := 59) rfl ?_
          refine jW.goto (dx_Mo_about 29 (e := (59, .goto 4, 3)) rfl) 63 (by decide) ?_
          exact t_Mo_about_63 F hV h
        · replace h := h.2 c
          refine jW.aload_n (dx_Mo_about 25 (e := (51, .aload_n 0, 1)) rfl) rfl rfl (pc' := 52) rfl ?_
          refine jW.mgi F hV f_Mo_about_52 (by decide) (pc' := 55) rfl ?_
          refine jW.goto (dx_Mo_about 27 (e := (55, .goto 8, 3)) rfl) 63 (by decide) ?_
          exact t_Mo_about_63 F hV h
    · replace h := h.1 c
      refine jW.aload_n (dx_Mo_about 11 (e := (21, .aload_n 0, 1)) rfl) rfl rfl (pc' := 22) rfl ?_
      refine jW.mgi F hV f_Mo_about_22 (by decide) (pc' := 25) rfl ?_
      refine jW.if_eq (dx_Mo_about 13 (e := (25, .ifCond .eq 10, 3)) rfl) 35 (by decide) (pc' := 28) rfl (fun c => ?_) (fun c => ?_)
      · replace h := h.1 c
        refine jW.iconst (v := 0) (dx_Mo_about 17 (e := (35, .iconst 0, 1)) rfl) (by decide) (pc' := 36) rfl ?_
        refine jW.goto (dx_Mo_about 18 (e := (36, .goto 27, 3)) rfl) 63 (by decide) ?_
        exact t_Mo_about_63 F hV h
      · replace h := h.2 c
        refine jW.aload_n (dx_Mo_about 14 (e := (28, .aload_n 0, 1)) rfl) rfl rfl (pc' := 29) rfl ?_
        refine jW.mgi F hV f_Mo_about_29 (by decide) (pc' := 32) rfl ?_
        refine jW.goto (dx_Mo_about 16 (e := (32, .goto 31, 3)) rfl) 63 (by decide) ?_
        exact t_Mo_about_63 F hV h
  · replace h := h.1 c
    refine jW.aload_n (dx_Mo_about 5 (e := (9, .aload_n 0, 1)) rfl) rfl rfl (pc' := 10) rfl ?_
    refine jW.mgi F hV f_Mo_about_10 (by decide) (pc' := 13) rfl ?_
    refine jW.goto (dx_Mo_about 7 (e := (13, .goto 50, 3)) rfl) 63 (by decide) ?_
    exact t_Mo_about_63 F hV h
theorem g_Mo_about {X : MX} {a0 : Array Value} (F : mF X a0) {x1 : Int32} {m : MS} {Φ : Option Value → MS → Prop} (he : w_Mo_about_0 X x1 m Φ) : mE X 0 y_Mo_about [.ref (mo X), .int x1] m Φ := by
  intro d σ hV
  refine jE.of (by decide) (by simp [Value.category]) (Nat.le_of_ble_eq_true rfl) rfl ?_
  exact t_Mo_about_0 F hV he
