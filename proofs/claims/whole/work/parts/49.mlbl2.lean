/-- only the target's and the title's places have changed -/
def DfR (m m' : MS) : Prop := m'.2 = m.2 ∧ ∀ k, ¬ (47 ≤ k ∧ k ≤ 50) → m'.1 k = m.1 k
theorem DfR.rfl {m : MS} : DfR m m := ⟨_root_.rfl, fun _ _ => _root_.rfl⟩
theorem DfR.i {m m' : MS} (h : DfR m m') {k : Nat} (hk : 47 ≤ k ∧ k ≤ 50) (x : Int32) : DfR m (mI m' k x) := ⟨h.1, fun j hj => (mI_ne (by omega)).trans (h.2 j hj)⟩
theorem DfR.pl {m m' : MS} {T : List Int32} {f δ : Nat} (h : DfR m m') (hP : PlI m T f δ) : PlI m' T f δ := ⟨fun k h1 h2 => by rw [h.1]; exact hP.1 k h1 h2, hP.2⟩
theorem PlI.up {m : MS} {T : List Int32} {f g δ : Nat} (hP : PlI m T f δ) (h : f ≤ g) : PlI m T g δ := ⟨fun k h1 h2 => hP.1 k (by omega) h2, hP.2⟩
theorem agF_ge {T : List Int32} {k l : Nat} (h : agF T k = some l) : k ≤ l ∧ l < T.length := by
  induction k using agF.induct T with
  | case1 k h1 h2 => rw [agF, if_pos h1, if_pos h2] at h; cases h; omega
  | case2 k h1 h2 h3 => rw [agF, if_pos h1, if_neg h2, if_pos h3] at h; cases h
  | case3 k h1 h2 h3 h4 ih => rw [agF, if_pos h1, if_neg h2, if_neg h3, if_pos h4] at h; have := ih h; omega
  | case4 k h1 h2 h3 h4 ih => rw [agF, if_pos h1, if_neg h2, if_neg h3, if_neg h4] at h; have := ih h; omega
  | case5 k h1 => rw [agF, if_neg h1] at h; cases h
theorem agF_one {T : List Int32} {k : Nat} (hk : k + 1 < 2 ^ 31) (h1 : k < T.length) (h2 : ¬ tA T k = 62) (h3 : ¬ tA T k = 10) (h4 : ¬ tA T k = 60) (h5 : tA T k = 92 → ¬ (k + 1 < T.length ∧ (tA T (k + 1) = 60 ∨ tA T (k + 1) = 62 ∨ tA T (k + 1) = 92))) : agF T k = agF T (k + 1) := by
  rw [agF, if_pos h1, if_neg h2, if_neg (fun q => q.elim h4 h3)]
  by_cases e : tA T k = 92
  · have h6 := h5 e
    by_cases e2 : tA T (k + 1) = 10
    · rw [if_neg (fun q => q.2 e2)]
    · rw [if_pos ⟨e, e2⟩]
      by_cases hl : k + 1 < T.length
      · have h7 : ¬ (tA T (k + 1) = 60 ∨ tA T (k + 1) = 62 ∨ tA T (k + 1) = 92) := fun q => h6 ⟨hl, q⟩
        rw [agF.eq_def T (k + 1), if_pos hl, if_neg (fun q => h7 (Or.inr (Or.inl q))), if_neg (fun q => q.elim (fun q => h7 (Or.inl q)) e2), if_neg (fun q => h7 (Or.inr (Or.inr q.1)))]
      · rw [agF.eq_def T (k + 2), if_neg (by omega), agF.eq_def T (k + 1), if_neg hl]
  · rw [if_neg (fun q => e q.1)]
section MOLBL2
variable {X : MX} {a0 : Array Value} {m : MS} {T : List Int32} {f δ : Nat} {N : Int32 → MS → Prop}
def TgI (m : MS) (T : List Int32) (g δ n : Nat) (x2 x3 x4 x5 : Int32) (m' : MS) : Prop := DfR m m' ∧ x2 = nI (T.length + δ) ∧ ∃ k, x3 = nI (k + δ) ∧ g ≤ k ∧ k ≤ T.length ∧ n + k = 16010 ∧ ((x4 = 1 ∧ x5 = 0 ∧ tA T g = 60 ∧ g < k ∧ m'.1 47 = nI (g + 1 + δ) ∧ agF T k = agF T (g + 1)) ∨ (x4 = 0 ∧ ¬ tA T g = 60 ∧ m'.1 47 = nI (g + δ) ∧ ∃ dp, x5 = nI dp ∧ dp ≤ k ∧ sgF T k dp = sgF T g 0))
theorem d_Mo_target (F : mF X a0) (hP : PlI m T f δ) {g : Nat} (hg : f ≤ g) (hg2 : g ≤ T.length) (h0 : tgE T g = none ∨ (∃ tf tt b, tgE T g = some (tf, tt, b) ∧ b < T.length ∧ ¬ wh (tA T b)) → ∀ m', DfR m m' → N (-1) m') (h1 : ∀ tf tt b, tgE T g = some (tf, tt, b) → g ≤ tf → tf ≤ tt → tt ≤ b → b ≤ T.length → ∀ m', DfR m m' → m'.1 47 = nI (tf + δ) → m'.1 48 = nI (tt - tf) → N (nI (b + δ)) m') : mE X 1 y_Mo_target [.ref (mo X), .int (nI (g + δ)), .int (nI (T.length + δ))] m (iP N) := by
  have hP0 := hP
  obtain ⟨hv, hb, hl⟩ := hP
  refine g_Mo_target (I43 := fun n x1 x2 x3 x4 x5 m' => TgI m T g δ n x2 x3 x4 x5 m') F ?_ ?_
  · by_cases hlt : g < T.length
    · have hvk := hv g hg hlt
      simp (discharger := omega) only [w_Mo_target_0, w_Mo_target_25, w_Mo_target_38, nI_ltI, vp_nI, nI_clamp, hvk, sh1]
      refine ⟨fun _ => ⟨by omega, fun c1 => ⟨fun z => absurd z (by decide), fun _ => ?_⟩, fun c1 => ⟨fun _ => ?_, fun z => absurd (by trivial) z⟩⟩, fun c => absurd (by omega) c⟩
      · intro m1 e1
        exact ⟨16010 - (g + 1), by rw [e1]; exact DfR.rfl.i (by decide) _, rfl, g + 1, rfl, by omega, by omega, by omega, Or.inl ⟨rfl, rfl, c1, by omega, by rw [e1, mI_at], rfl⟩⟩
      · intro m1 e1
        exact ⟨16010 - g, by rw [e1]; exact DfR.rfl.i (by decide) _, rfl, g, rfl, by omega, by omega, by omega, Or.inr ⟨rfl, c1, by rw [e1, mI_at], 0, rfl, by omega, rfl⟩⟩
    · simp (discharger := omega) only [w_Mo_target_0, nI_ltI]
      refine ⟨fun c => absurd c (by omega), fun _ => iP.i (h0 (Or.inl ?_) _ DfR.rfl) rfl⟩
      unfold tgE
      rw [tA_out (by omega) (by omega), if_neg (by decide), if_pos (Or.inl (by rw [sgF, if_neg hlt]))]
  · rintro n x1 x2 x3 x4 x5 m' ⟨hR, rfl, k, rfl, hk, hkl, hn, hx⟩
    have hP' := hR.pl hP0
    have hv' := hP'.1
    rcases hx with ⟨rfl, rfl, hg60, hgk, e47, e⟩ | ⟨rfl, hg60, e47, dp, rfl, hdp, e⟩
    · have h264 : (T.length ≤ k ∨ tA T k = 62) → w_Mo_target_264 X x1 (nI (T.length + δ)) (nI (k + δ)) 1 0 m' (iP N) := by
        intro hx
        unfold w_Mo_target_264 w_Mo_target_291
        intro m1 e1
        have hR1 : DfR m m1 := by rw [e1]; exact hR.i (by decide) _
        refine ⟨fun z => absurd z (by decide), fun _ => ?_⟩
        simp (discharger := omega) only [nI_leI, sh1]
        refine ⟨fun c => iP.i (h0 (Or.inl ?_) _ hR1) rfl, fun c => iP.i (h1 (g + 1) k (k + 1) ?_ (by omega) (by omega) (by omega) (by omega) _ hR1 ?_ ?_) rfl⟩
        · rw [agF, if_neg (by omega)] at e
          unfold tgE
          rw [if_pos hg60, ← e]
        · rw [agF, if_pos (by omega), if_pos (hx.resolve_left (by omega))] at e
          unfold tgE
          rw [if_pos hg60, ← e]
        · rw [e1, mI_ne (by decide), e47]
        · rw [e1, mI_at, e47, pk_sub (by omega)]
          congr 1
          omega
      by_cases hlt : k < T.length
      · have hvk := hv' k (by omega) hlt
        have hno : ∀ q : tgE T g = none ∨ (∃ tf tt b, tgE T g = some (tf, tt, b) ∧ b < T.length ∧ ¬ wh (tA T b)), iP N (some (.int (-1))) m' := fun q => iP.i (h0 q _ hR) rfl
        simp (discharger := omega) only [w_Mo_target_43, w_Mo_target_94, w_Mo_target_130, w_Mo_target_132, w_Mo_target_207, w_Mo_target_211, w_Mo_target_212, w_Mo_target_255, w_Mo_target_258, nI_leI, vp_nI, nI_clamp, hvk, sh1]
        have hK1 : agF T k = agF T (k + 1) → ∃ j, j < n ∧ TgI m T g δ j (nI (T.length + δ)) (nI (k + 1 + δ)) 1 0 m' := fun q => ⟨n - 1, by omega, hR, rfl, k + 1, rfl, by omega, by omega, by omega, Or.inl ⟨rfl, rfl, hg60, by omega, e47, q ▸ e⟩⟩
        refine ⟨fun c => absurd c (by omega), fun _ => ⟨by omega, fun z => absurd z (by decide), fun _ => ⟨fun c1 => h264 (Or.inr c1), fun c1 => ⟨fun z => absurd z (by decide), fun _ => ⟨fun c2 => hno (Or.inl ?_), fun c2 => ⟨fun c3 => hno (Or.inl ?_), fun c3 => ⟨fun c4 => ⟨fun c5 => ⟨fun _ => ⟨fun z => absurd z (by decide), fun _ => hK1 ?_⟩, fun z => absurd (by trivial) z⟩, fun c5 => ⟨fun z => absurd z (by decide), fun _ => ?_⟩⟩, fun c4 => ⟨fun _ => ⟨fun z => absurd z (by decide), fun _ => hK1 ?_⟩, fun z => absurd (by trivial) z⟩⟩⟩⟩⟩⟩⟩⟩
        · rw [agF, if_pos hlt, if_neg c1, if_pos (Or.inr c2)] at e
          unfold tgE
          rw [if_pos hg60, ← e]
        · rw [agF, if_pos hlt, if_neg c1, if_pos (Or.inl c3)] at e
          unfold tgE
          rw [if_pos hg60, ← e]
        · exact agF_one (by omega) hlt c1 c2 c3 (fun _ q => by omega)
        · have hv1 := hv' (k + 1) (by omega) (by omega)
          have hK2 : tA T (k + 1) ≠ 10 → ∃ j, j < n ∧ TgI m T g δ j (nI (T.length + δ)) (nI (k + 1 + 1 + δ)) 1 0 m' := fun q => ⟨n - 2, by omega, hR, rfl, k + 2, rfl, by omega, by omega, by omega, Or.inl ⟨rfl, rfl, hg60, by omega, e47, by rw [← e, agF.eq_def T k, if_pos hlt, if_neg c1, if_neg (fun q => q.elim c3 c2), if_pos ⟨c4, q⟩]⟩⟩
          rw [hv1]
          refine ⟨by omega, fun c6 => ⟨fun z => absurd z (by decide), fun _ => hK2 (by rw [c6]; decide)⟩, fun c6 => ⟨by omega, fun c7 => ⟨fun z => absurd z (by decide), fun _ => hK2 (by rw [c7]; decide)⟩, fun c7 => ⟨by omega, fun c8 => ⟨fun z => absurd z (by decide), fun _ => hK2 (by rw [c8]; decide)⟩, fun c8 => ⟨fun _ => ⟨fun z => absurd z (by decide), fun _ => hK1 ?_⟩, fun z => absurd (by trivial) z⟩⟩⟩⟩
          exact agF_one (by omega) hlt c1 c2 c3 (fun _ q => q.2.elim c6 (fun q => q.elim c7 c8))
        · exact agF_one (by omega) hlt c1 c2 c3 (fun q => absurd q c4)
      · unfold w_Mo_target_43
        simp (discharger := omega) only [nI_leI]
        exact ⟨fun _ => h264 (Or.inl (by omega)), fun c => absurd (by omega) c⟩
    · have h264 : sgF T k dp = (k, dp) → w_Mo_target_264 X x1 (nI (T.length + δ)) (nI (k + δ)) 0 (nI dp) m' (iP N) := by
        intro hx
        rw [hx] at e
        unfold w_Mo_target_264 w_Mo_target_308 w_Mo_target_309
        intro m1 e1
        have hR1 : DfR m m1 := by rw [e1]; exact hR.i (by decide) _
        have e48 : m1.1 48 = nI (k - g) := by
          rw [e1, mI_at, e47, pk_sub (by omega)]
          congr 1
          omega
        refine ⟨fun _ => ?_, fun z => absurd (by trivial) z⟩
        simp (discharger := omega) only [lit_eqJ, e48, lit_leJ]
        refine ⟨fun c1 => ⟨fun c2 => iP.i (h0 (Or.inl ?_) _ hR1) rfl, fun c2 => iP.i (h1 g k k ?_ (by omega) (by omega) (by omega) hkl _ hR1 ?_ e48) rfl⟩, fun c1 => iP.i (h0 (Or.inl ?_) _ hR1) rfl⟩
        · unfold tgE
          rw [if_neg hg60, ← e, if_pos (Or.inl (show k = g by omega))]
        · unfold tgE
          rw [if_neg hg60, ← e, if_neg (fun q => q.elim (fun q => by have : k = g := q; omega) (fun q => q c1))]
        · rw [e1, mI_ne (by decide), e47]
        · unfold tgE
          rw [if_neg hg60, ← e, if_pos (Or.inr c1)]
      by_cases hlt : k < T.length
      · have hvk := hv' k (by omega) hlt
        have hno : ¬ wh (tA T k) → (tA T k ≤ 32 ∨ tA T k = 127) → iP N (some (.int (-1))) m' := by
          intro q1 q2
          rw [sgF, if_pos hlt, if_pos q2] at e
          refine iP.i (h0 ?_ _ hR) rfl
          by_cases q3 : (sgF T g 0).1 = g ∨ (sgF T g 0).2 ≠ 0
          · refine Or.inl ?_
            unfold tgE
            rw [if_neg hg60, if_pos q3]
          · refine Or.inr ⟨g, k, k, ?_, hlt, q1⟩
            unfold tgE
            rw [if_neg hg60, if_neg q3, ← e]
        have hKd : ∀ (dp' : Nat) (s1 : Int32), nI dp + s1 = nI dp' → dp' ≤ k + 1 → sgF T k dp = sgF T (k + 1) dp' → ∃ j, j < n ∧ TgI m T g δ j (nI (T.length + δ)) (nI (k + 1 + δ)) 0 (nI dp + s1) m' := fun dp' s1 q1 q2 q3 => ⟨n - 1, by omega, hR, rfl, k + 1, rfl, by omega, by omega, by omega, Or.inr ⟨rfl, hg60, e47, dp', q1, q2, q3 ▸ e⟩⟩
        have hbase : ¬ (tA T k ≤ 32 ∨ tA T k = 127) → ¬ (tA T k = 41 ∧ dp = 0) → ¬ (tA T k = 92 ∧ pn (tA T (k + 1))) → sgF T k dp = sgF T (k + 1) (if tA T k = 40 then dp + 1 else if tA T k = 41 then dp - 1 else dp) := fun g1 g2 q => by rw [sgF, if_pos hlt, if_neg g1, if_neg g2, if_neg q]
        have h211 : ¬ (tA T k ≤ 32 ∨ tA T k = 127) → ¬ (tA T k = 41 ∧ dp = 0) → ¬ (tA T k = 92 ∧ pn (tA T (k + 1))) → w_Mo_target_211 X x1 (nI (T.length + δ)) (nI (k + δ)) 0 (nI dp) (tA T k) m' (iP N) (fun x1 x2 x3 x4 x5 m_1 => ∃ j, j < n ∧ TgI m T g δ j x2 x3 x4 x5 m_1) := by
          intro g1 g2 g3
          have hb' := hbase g1 g2 g3
          simp (discharger := omega) only [w_Mo_target_211, w_Mo_target_212, w_Mo_target_255, w_Mo_target_258, sh1]
          refine ⟨fun _ => ⟨fun _ => ⟨fun c1 => hKd (dp + 1) 1 (nI_1 dp) (by omega) (by rw [hb', if_pos c1]), fun c1 => ⟨fun c2 => hKd (dp - 1) (-1) (sb_m1 ?_) (by omega) (by rw [hb', if_neg c1, if_pos c2]), fun c2 => hKd dp 0 (nI_add dp 0) (by omega) (by rw [hb', if_neg c1, if_neg c2])⟩⟩, fun z => absurd (by trivial) z⟩, fun z => absurd (by trivial) z⟩
          have : dp ≠ 0 := fun q => g2 ⟨c2, q⟩
          omega
        have h94 : ¬ wh (tA T k) → ¬ (tA T k = 41 ∧ dp = 0) → w_Mo_target_94 X x1 (nI (T.length + δ)) (nI (k + δ)) 0 (nI dp) (tA T k) m' (iP N) (fun x1 x2 x3 x4 x5 m_1 => ∃ j, j < n ∧ TgI m T g δ j x2 x3 x4 x5 m_1) := by
          intro q1 q2
          unfold w_Mo_target_94 w_Mo_target_130
          refine ⟨fun _ => ⟨fun c1 => hno q1 (Or.inl c1), fun c1 => ⟨fun c2 => hno q1 (Or.inr c2), fun c2 => ?_⟩⟩, fun z => absurd (by trivial) z⟩
          have g1 : ¬ (tA T k ≤ 32 ∨ tA T k = 127) := fun q => q.elim c1 c2
          unfold w_Mo_target_132
          simp (discharger := omega) only [sh1, nI_leI, vp_nI, nI_clamp]
          refine ⟨fun c3 => ⟨fun c4 => h211 g1 q2 (fun q => ?_), fun c4 => ⟨fun _ => ⟨by omega, ?_⟩, fun z => absurd (by trivial) z⟩⟩, fun c3 => h211 g1 q2 (fun q => c3 q.1)⟩
          · have q' := q.2
            rw [tA_out (by omega) (by omega)] at q'
            exact absurd q' (by decide)
          · rw [hv' (k + 1) (by omega) (by omega)]
            refine d_Mo_isAscii F ⟨fun c5 => h211 g1 q2 (fun q => bI_0 c5 q.2), fun c5 => ?_⟩
            simp (discharger := omega) only [w_Mo_target_207, w_Mo_target_212, w_Mo_target_258, sh1]
            refine ⟨fun z => absurd z (by decide), fun _ => ⟨n - 2, by omega, hR, rfl, k + 1 + 1, rfl, by omega, by omega, by omega, Or.inr ⟨rfl, hg60, e47, dp, rfl, by omega, ?_⟩⟩⟩
            rw [← e, sgF.eq_def T k dp, if_pos hlt, if_neg g1, if_neg q2, if_pos ⟨c3, bI_n0 c5⟩]
        unfold w_Mo_target_43
        simp (discharger := omega) only [nI_leI, vp_nI, nI_clamp, hvk]
        refine ⟨fun c => absurd c (by omega), fun _ => ⟨by omega, fun _ => d_Mo_isWhite F ⟨fun c1 => ⟨fun c2 => ⟨fun c3 => h264 ?_, fun c3 => ?_⟩, fun c2 => ?_⟩, fun c1 => h264 ?_⟩, fun z => absurd (by trivial) z⟩⟩
        · have hd0 : dp = 0 := (lit_eqJ (a := 0) (by decide) (by omega)).mp c3
          rw [sgF, if_pos hlt]
          by_cases g1 : tA T k ≤ 32 ∨ tA T k = 127
          · rw [if_pos g1]
          · rw [if_neg g1, if_pos ⟨c2, hd0⟩]
        · exact h94 (bI_0 c1) (fun q => c3 (by rw [q.2]; rfl))
        · exact h94 (bI_0 c1) (fun q => c2 q.1)
        · have hw := bI_n0 c1
          rw [sgF, if_pos hlt, if_pos (Or.inl ?_)]
          rcases hw with q | q | q | q <;> (rw [q]; decide)
      · unfold w_Mo_target_43
        simp (discharger := omega) only [nI_leI]
        exact ⟨fun _ => h264 (by rw [sgF, if_neg hlt]), fun c => absurd (by omega) c⟩
def TlI (m : MS) (T : List Int32) (g δ n : Nat) (x1 x2 x3 x4 x5 : Int32) (m' : MS) : Prop := m' = m ∧ x1 = nI (g + δ) ∧ x2 = nI (T.length + δ) ∧ x3 = tA T g ∧ x4 = tlL (tA T g) ∧ (tA T g = 34 ∨ tA T g = 39 ∨ tA T g = 40) ∧ ∃ k, x5 = nI (k + δ) ∧ g < k ∧ k ≤ T.length ∧ n + k = 16010 ∧ tlF T (tA T g) (tlL (tA T g)) k = tlE T g
theorem d_Mo_title (F : mF X a0) (hP : PlI m T f δ) {g : Nat} (hg : f ≤ g) (hg2 : g ≤ T.length) (h0 : tlE T g = none → N (-1) m) (h1 : ∀ e, tlE T g = some e → e < T.length → g < e → N (nI (e + 1 + δ)) (mI (mI m 49 (nI (g + 1 + δ))) 50 (nI (e - g - 1)))) : mE X 0 y_Mo_title [.ref (mo X), .int (nI (g + δ)), .int (nI (T.length + δ))] m (iP N) := by
  obtain ⟨hv, hb, hl⟩ := hP
  refine g_Mo_title (I53 := fun n x1 x2 x3 x4 x5 m' => TlI m T g δ n x1 x2 x3 x4 x5 m') F ?_ ?_
  · by_cases hlt : g < T.length
    · have hvk := hv g hg hlt
      simp (discharger := omega) only [w_Mo_title_0, w_Mo_title_34, w_Mo_title_46, nI_ltI, vp_nI, nI_clamp, hvk, sh1]
      have hgo : (tA T g = 34 ∨ tA T g = 39 ∨ tA T g = 40) → ∀ x3 : Int32, x3 = tlL (tA T g) → ∃ j, TlI m T g δ j (nI (g + δ)) (nI (T.length + δ)) (tA T g) x3 (nI (g + 1 + δ)) m := fun q x3 q3 => ⟨16010 - (g + 1), rfl, rfl, rfl, rfl, q3, q, g + 1, rfl, by omega, by omega, by omega, by unfold tlE; rw [if_pos q]⟩
      refine ⟨fun _ => ⟨by omega, fun c1 => ⟨fun c4 => ?_, fun c4 => ?_⟩, fun c1 => ⟨fun c2 => ⟨fun c4 => ?_, fun c4 => ?_⟩, fun c2 => ⟨fun c3 => ⟨fun c4 => ?_, fun c4 => ?_⟩, fun c3 => iP.i (h0 ?_) rfl⟩⟩⟩, fun c => absurd (by omega) c⟩
      · exact hgo (Or.inl c1) _ (if_pos c4).symm
      · exact hgo (Or.inl c1) _ (if_neg c4).symm
      · exact hgo (Or.inr (Or.inl c2)) _ (if_pos c4).symm
      · exact hgo (Or.inr (Or.inl c2)) _ (if_neg c4).symm
      · exact hgo (Or.inr (Or.inr c3)) _ (if_pos c4).symm
      · exact hgo (Or.inr (Or.inr c3)) _ (if_neg c4).symm
      · unfold tlE
        rw [if_neg (fun q => q.elim c1 (fun q => q.elim c2 c3))]
    · simp (discharger := omega) only [w_Mo_title_0, nI_ltI]
      refine ⟨fun c => absurd c (by omega), fun _ => iP.i (h0 ?_) rfl⟩
      unfold tlE
      rw [tA_out (by omega) (by omega), if_neg (by decide)]
  · rintro n x1 x2 x3 x4 x5 m' ⟨rfl, rfl, rfl, rfl, rfl, hc, k, rfl, hk, hkl, hn, e⟩
    have hsub : nI (k + δ) - nI (g + δ) - 1 = nI (k - g - 1) := by
      rw [pk_sub (by omega), show (1 : Int32) = nI 1 from rfl, pk_sub (by omega)]
      congr 1
      omega
    have h115 : (T.length ≤ k ∨ tA T k = tlL (tA T g) ∨ tA T k = tA T g) → w_Mo_title_115 X (nI (g + δ)) (nI (T.length + δ)) (tA T g) (tlL (tA T g)) (nI (k + δ)) m' (iP N) := by
      intro hx
      simp (discharger := omega) only [w_Mo_title_115, w_Mo_title_133, nI_leI, vp_nI, nI_clamp, hsub, sh1]
      rw [tlF] at e
      refine ⟨fun c1 => iP.i (h0 ?_) rfl, fun c1 => ⟨by omega, fun c2 => ?_, fun c2 => iP.i (h0 ?_) rfl⟩⟩
      · rw [← e, if_neg (by omega)]
      · rw [hv k (by omega) (by omega)] at c2
        intro m1 e1 m2 e2
        subst e2 e1
        refine iP.i (h1 k ?_ (by omega) hk) rfl
        rw [← e, if_pos (by omega), if_pos c2]
      · rw [hv k (by omega) (by omega)] at c2
        have q := (hx.resolve_left (by omega)).resolve_left c2
        have q40 : tA T g = 40 := by
          apply Decidable.byContradiction
          intro z
          exact c2 (by rw [q]; exact (if_neg z).symm)
        rw [← e, if_pos (by omega), if_neg c2, if_pos ⟨q.trans q40, q40⟩]
    by_cases hlt : k < T.length
    · have hvk := hv k (by omega) hlt
      unfold w_Mo_title_53 w_Mo_title_108 w_Mo_title_109
      simp (discharger := omega) only [nI_leI, vp_nI, nI_clamp, hvk, sh1, sh2]
      refine ⟨fun c1 => absurd c1 (by omega), fun c1 => ⟨by omega, fun c2 => h115 (Or.inr (Or.inl c2)), fun c2 => ⟨by omega, fun c3 => h115 (Or.inr (Or.inr c3)), fun c3 => ⟨by omega, fun c4 => ⟨fun c5 => ?_, fun c5 => ?_⟩, fun c4 => ?_⟩⟩⟩⟩
      all_goals rw [tlF, if_pos hlt, if_neg c2, if_neg (fun q => c3 (q.1.trans q.2.symm))] at e
      · rw [if_pos c4, tlF, if_neg (by omega)] at e
        exact ⟨n - 1, by omega, rfl, rfl, rfl, rfl, rfl, hc, k + 1, rfl, by omega, by omega, by omega, by rw [tlF, if_neg (by omega)]; exact e⟩
      · rw [if_pos c4] at e
        exact ⟨n - 2, by omega, rfl, rfl, rfl, rfl, rfl, hc, k + 2, rfl, by omega, by omega, by omega, e⟩
      · rw [if_neg c4] at e
        exact ⟨n - 1, by omega, rfl, rfl, rfl, rfl, rfl, hc, k + 1, rfl, by omega, by omega, by omega, e⟩
    · unfold w_Mo_title_53
      simp (discharger := omega) only [nI_leI]
      exact ⟨fun _ => h115 (Or.inl (by omega)), fun c => absurd (by omega) c⟩
theorem nI_lt0 {k : Nat} (hk : k < 2 ^ 31) : ¬ nI k < 0 := nI_pos hk
theorem d_Mo_definitionEnd (F : mF X a0) (hP : PlI m T f δ) (hf : f ≤ T.length) (h0 : dfE T f = none → ∀ m', DfR m m' → N (-1) m') (h1 : ∀ k tf tt sf st l, dfE T f = some (k, tf, tt, sf, st, l) → (k < T.length ∧ f < k ∧ k < tf ∧ tf ≤ tt ∧ tt ≤ T.length ∧ sf ≤ st ∧ st ≤ T.length ∧ l ≤ T.length ∧ k < l ∧ tt ≤ l ∧ st ≤ l) → ∀ m', DfR m m' → m'.1 47 = nI (tf + δ) → m'.1 48 = nI (tt - tf) → m'.1 50 = nI (st - sf) → (sf = st ∨ (tt < sf ∧ m'.1 49 = nI (sf + δ))) → N (nI (l + δ)) m') : mE X 2 y_Mo_definitionEnd [.ref (mo X), .int (nI (f + δ)), .int (nI (T.length + δ))] m (iP N) := by
  have hb := hP.2.1
  have hl := hP.2.2
  refine g_Mo_definitionEnd F ?_
  unfold w_Mo_definitionEnd_0 w_Mo_definitionEnd_27
  refine d_Mo_labelEnd F hP hf (fun q => ⟨fun _ => iP.i (h0 ?_ _ DfR.rfl) rfl, fun z => absurd (by decide) z⟩) (fun k q hk hfk => ⟨fun z => absurd z (nI_lt0 (by omega)), fun _ => ?_⟩)
  · unfold dfE; rw [q]
  simp (discharger := omega) only [nI_leI, vp_nI, nI_clamp, sh1]
  have hnone : ¬ tA T (k + 1) = 58 → dfE T f = none := fun z => by unfold dfE; rw [q]; exact if_neg z
  refine ⟨fun c1 => iP.i (h0 (hnone ?_) _ DfR.rfl) rfl, fun c1 => ⟨by omega, fun c2 => ?_, fun c2 => iP.i (h0 (hnone ?_) _ DfR.rfl) rfl⟩⟩
  · rw [tA_out (by omega) (by omega)]; decide
  rotate_left
  · rw [hP.1 _ (by omega) (by omega)] at c2
    exact c2
  rw [hP.1 _ (by omega) (by omega)] at c2
  have hD : dfE T f = match tgE T (gpF T (k + 1 + 1) false) with | none => none | some (tf, tt, b) => dfS T k tf tt b (gpF T b false) := by
    unfold dfE; rw [q]; exact if_pos c2
  have hge := gpF_ge T (k + 1 + 1) false
  have hle := gpF_le T (k + 1 + 1) false (by omega)
  refine d_Mo_gap (g := k + 1 + 1) F hP (by omega) (by omega) ?_
  refine d_Mo_target F hP (by omega) hle (fun z m' hR => ⟨fun y => absurd y (by decide), fun _ => iP.i (h0 ?_ _ hR) rfl⟩) (fun tf tt b ht b0 b1 b2 b3 m' hR e47 e48 => ⟨fun _ => ?_, fun z => absurd (nI_pos' (by omega)) z⟩)
  · rw [hD]
    rcases z with z | ⟨tf, tt, b, z, z1, z2⟩
    · rw [z]
    · rw [z]
      show dfS T k tf tt b (gpF T b false) = none
      have hg : gpF T b false = b := by rw [gpF, if_pos z1, if_neg (fun y => z2 (Or.inr (Or.inr (Or.inr y)))), if_neg (fun y => z2 (Or.inr (Or.inl y.1)))]
      have hln : lnF T b = none := by rw [lnF, if_pos z1, if_neg (fun y => z2 (Or.inr (Or.inr (Or.inr y)))), if_neg (fun y => z2 (Or.inr (Or.inl y)))]
      unfold dfS
      rw [hg, if_neg (by omega)]
      show dfT T k tf tt b = none
      unfold dfT
      rw [hln]
  rw [ht] at hD
  replace hD : dfE T f = dfS T k tf tt b (gpF T b false) := hD
  have hP' := hR.pl hP
  have g1 := gpF_ge T b false
  have g2 := gpF_le T b false b3
  -- behind the line's end: x4 tells it
  have hend : ∀ (x4 : Int32), ((lnF T b = none ∧ x4 = -1) ∨ ∃ l, lnF T b = some l ∧ l ≤ T.length ∧ b ≤ l ∧ x4 = nI (l + δ)) → mE X 0 y_Mo_gap [.ref (mo X), .int (nI (b + δ)), .int (nI (T.length + δ))] (mI m' 50 0) (iP fun r6 m6 => ((r6 ≤ nI (b + δ) → w_Mo_definitionEnd_87 X (nI (f + δ)) (nI (T.length + δ)) (nI (b + δ)) x4 r6 (-1) m6 (iP N)) ∧ (¬ r6 ≤ nI (b + δ) → mE X 0 y_Mo_title [.ref (mo X), .int r6, .int (nI (T.length + δ))] m6 (iP fun r7 m7 => w_Mo_definitionEnd_87 X (nI (f + δ)) (nI (T.length + δ)) (nI (b + δ)) x4 r6 r7 m7 (iP N))))) := by
    intro x4 hx4
    have hR5 : DfR m (mI m' 50 0) := hR.i (by decide) _
    have f47 : (mI m' 50 0).1 47 = nI (tf + δ) := by rw [mI_ne (by decide), e47]
    have f48 : (mI m' 50 0).1 48 = nI (tt - tf) := by rw [mI_ne (by decide), e48]
    have hP5 := hR5.pl hP
    -- without a title
    have h105 : ∀ (x5 x6 : Int32) (m2 : MS), dfS T k tf tt b (gpF T b false) = dfT T k tf tt b → DfR m m2 → m2.1 47 = nI (tf + δ) → m2.1 48 = nI (tt - tf) → w_Mo_definitionEnd_105 X (nI (f + δ)) (nI (T.length + δ)) (nI (b + δ)) x4 x5 x6 (-1) m2 (iP N) := by
      intro x5 x6 m2 hx hR2 k47 k48
      rw [hx] at hD
      unfold w_Mo_definitionEnd_105 w_Mo_definitionEnd_117 w_Mo_definitionEnd_129
      refine ⟨fun z => absurd z (by decide), fun _ => ?_⟩
      intro m3 e3
      have hR3 : DfR m m3 := by rw [e3]; exact hR2.i (by decide) _
      refine ⟨fun _ => ?_, fun z => absurd (by decide) z⟩
      rcases hx4 with ⟨y1, rfl⟩ | ⟨l, y1, y2, y3, rfl⟩
      · exact iP.i (h0 (by rw [hD]; unfold dfT; rw [y1]) _ hR3) rfl
      · exact iP.i (h1 k tf tt 0 0 l (by rw [hD]; unfold dfT; rw [y1]) (by omega) _ hR3 (by rw [e3, mI_ne (by decide), k47]) (by rw [e3, mI_ne (by decide), k48]) (by rw [e3, mI_at]; rfl) (Or.inl rfl)) rfl
    refine d_Mo_gap F hP5 (by omega) b3 ?_
    simp (discharger := omega) only [nI_leI]
    refine ⟨fun c3 => ⟨fun z => absurd z (by decide), fun _ => h105 _ _ _ ?_ hR5 f47 f48⟩, fun c3 => ?_⟩
    · unfold dfS
      rw [if_neg (by omega)]
    refine d_Mo_title F hP5 (by omega) g2 (fun z => ⟨fun y => absurd y (by decide), fun _ => h105 _ _ _ ?_ hR5 f47 f48⟩) (fun e z he1 he2 => ⟨fun _ => ?_, fun y => absurd (nI_pos' (by omega)) y⟩)
    · unfold dfS
      rw [if_pos (by omega), z]
    have hR7 : DfR m (mI (mI (mI m' 50 0) 49 (nI (gpF T b false + 1 + δ))) 50 (nI (e - gpF T b false - 1))) := (hR5.i (by decide) _).i (by decide) _
    refine d_Mo_lineEnd F (hR7.pl hP) (by omega) (by omega) (fun z2 => h105 _ _ _ ?_ hR7 ?_ ?_) (fun l z2 hl1 hl2 => ⟨fun _ => ⟨fun y => absurd y (nI_lt0 (by omega)), fun _ => iP.i (h1 k tf tt (gpF T b false + 1) e l ?_ (by omega) _ hR7 ?_ ?_ ?_ (Or.inr ⟨by omega, ?_⟩)) rfl⟩, fun y => absurd (nI_pos' (by omega)) y⟩)
    · unfold dfS
      rw [if_pos (by omega), z]
      simp only [z2]
    · rw [mI_ne (by decide), mI_ne (by decide), f47]
    · rw [mI_ne (by decide), mI_ne (by decide), f48]
    · rw [hD]
      unfold dfS
      rw [if_pos (by omega), z]
      simp only [z2]
    · rw [mI_ne (by decide), mI_ne (by decide), f47]
    · rw [mI_ne (by decide), mI_ne (by decide), f48]
    · rw [mI_at]
      congr 1
    · rw [mI_ne (by decide), mI_at]
  refine d_Mo_lineEnd F hP' (by omega) b3 (fun z => ?_) (fun l z hl1 hl2 => ?_)
  · intro m5 e5
    subst e5
    exact hend (-1) (Or.inl ⟨z, rfl⟩)
  · intro m5 e5
    subst e5
    exact hend _ (Or.inr ⟨l, z, hl1, hl2, rfl⟩)
end MOLBL2
