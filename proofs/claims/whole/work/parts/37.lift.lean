section LIFT
variable {X : CX} {a0 : Array Value} {σ : jS} {c : CS}
theorem CV.line (h : CV X c σ) : ∃ n, LineAt X.2.1.heap.size σ (adr X 5) (adr X 11) n (vr c.1 11) (vn c.1 51) (vn c.1 52) (vn c.1 53) (vi c.1 54) (vn c.1 55) (vi c.1 56) := by
  obtain ⟨nr, ed, cp, h0, h1, ⟨s0, s2, s4, ⟨w, q1, q2, q3⟩, s6⟩, ⟨r1, r10, r11, r12, r13⟩, hl, ho, hy, ⟨_, hb⟩, hr⟩ := h
  exact ⟨nr 11, ⟨w, q1, q2 0 (by decide), q2 1 (by decide), q2 2 (by decide), q2 3 (by decide), q2 4 (by decide), q2 5 (by decide), q2 6 (by decide), q3⟩, r11, hb⟩
theorem CV.tree (h : CV X c σ) : ∃ ed cp, TreeAt X.2.1.heap.size σ (adr X 2) (adr X 7) (adr X 3) (adr X 10) ed cp c.2.2 (vn c.1 23) c.2.1 (vb c.1) := by
  obtain ⟨nr, ed, cp, h0, h1, ⟨s0, ⟨w, q1, q2, q3⟩, s4, s5, s6⟩, ⟨r1, r10, r11, r12, r13⟩, hl, ho, hy, ⟨⟨b1, b2, b3⟩, _⟩, hr⟩ := h
  exact ⟨ed, cp, ⟨w, q1, q2 0 (by decide), q2 1 (by decide), q2 2 (by decide), q2 3 (by decide), q3⟩, hl, b1, b3, b2⟩
theorem CV.mb (h : CV X c σ) : MBAt X.2.1.heap.size σ (adr X 0) (adr X 1) (adr X 1015) (adr X 2) (adr X 4) (adr X 5) (adr X 6) (vi c.1 6) (vi c.1 7) := by
  obtain ⟨w, q1, q2, q3⟩ := h.s0
  exact ⟨w, q1, q2 0 (by decide), q2 1 (by decide), q2 2 (by decide), q2 3 (by decide), q2 4 (by decide), q2 5 (by decide), q2 6 (by decide), q2 7 (by decide), q3⟩
theorem CV.ji (h : CV X c σ) : jI X.2.1.heap.size σ := by
  obtain ⟨nr, ed, cp, h0, _⟩ := h
  exact h0

theorem CV.setRow1 (hV : CV X c σ) {σ' : jS} {ys : List Int32} (hI : jI X.2.1.heap.size σ') (hK : jK [1, 1010] σ σ') (hR : ∀ n, RowAt X.2.1.heap.size 1 1010 σ (adr X 1) n (vr c.1 1) → ∃ n', RowAt X.2.1.heap.size 1 1010 σ' (adr X 1) n' ys ∧ n ≤ n' ∧ σ'.2.1 + n ≤ σ.2.1 + n' ∧ σ'.2.2 + 2 * n ≤ σ.2.2 + 2 * n') : CV X (vR c.1 1 ys, c.2) σ' := by
  obtain ⟨nr, ed, cp, h0, h1, ⟨s0, s2, s4, s5, s6⟩, ⟨r1, r10, r11, r12, r13⟩, hl, ho, hy, hb, hr⟩ := hV
  obtain ⟨n', t1, t2, t3, t4⟩ := hR _ r1
  refine ⟨fun j => if j = 1 then n' else nr j, ed, cp, hI, h1.trans (hK.mono (by decide)), ⟨s0.keep hK (by decide) (fun _ _ => rfl), s2.keep hK (by decide) (fun _ _ => rfl), s4.keep hK (by decide) (fun _ _ => rfl), s5.keep hK (by decide) (fun _ _ => rfl), s6.keep hK (by decide) (fun _ _ => rfl)⟩, ⟨t1, r10.keep hK (by decide) (by decide), r11.keep hK (by decide) (by decide), r12.keep hK (by decide) (by decide), r13.keep hK (by decide) (by decide)⟩, hl.keep hK (by decide) (by decide) (by decide), ho.keep hK (by decide) rfl (fun _ _ => rfl) (Nat.le_refl _), hy.keep hK (by decide), hb, ?_⟩
  obtain ⟨z1, z2⟩ := hr
  refine ⟨?_, ?_⟩
  · simp only [Nat.reduceEqDiff, if_true, if_false]
    omega
  · simp only [Nat.reduceEqDiff, if_true, if_false]
    omega
theorem CV.setRow10 (hV : CV X c σ) {σ' : jS} {ys : List Int32} (hI : jI X.2.1.heap.size σ') (hK : jK [10, 1011] σ σ') (hR : ∀ n, RowAt X.2.1.heap.size 10 1011 σ (adr X 10) n (vr c.1 10) → ∃ n', RowAt X.2.1.heap.size 10 1011 σ' (adr X 10) n' ys ∧ n ≤ n' ∧ σ'.2.1 + n ≤ σ.2.1 + n' ∧ σ'.2.2 + 2 * n ≤ σ.2.2 + 2 * n') : CV X (vR c.1 10 ys, c.2) σ' := by
  obtain ⟨nr, ed, cp, h0, h1, ⟨s0, s2, s4, s5, s6⟩, ⟨r1, r10, r11, r12, r13⟩, hl, ho, hy, hb, hr⟩ := hV
  obtain ⟨n', t1, t2, t3, t4⟩ := hR _ r10
  refine ⟨fun j => if j = 10 then n' else nr j, ed, cp, hI, h1.trans (hK.mono (by decide)), ⟨s0.keep hK (by decide) (fun _ _ => rfl), s2.keep hK (by decide) (fun _ _ => rfl), s4.keep hK (by decide) (fun _ _ => rfl), s5.keep hK (by decide) (fun _ _ => rfl), s6.keep hK (by decide) (fun _ _ => rfl)⟩, ⟨r1.keep hK (by decide) (by decide), t1, r11.keep hK (by decide) (by decide), r12.keep hK (by decide) (by decide), r13.keep hK (by decide) (by decide)⟩, hl.keep hK (by decide) (by decide) (by decide), ho.keep hK (by decide) rfl (fun _ _ => rfl) (Nat.le_refl _), hy.keep hK (by decide), hb, ?_⟩
  obtain ⟨z1, z2⟩ := hr
  refine ⟨?_, ?_⟩
  · simp only [Nat.reduceEqDiff, if_true, if_false]
    omega
  · simp only [Nat.reduceEqDiff, if_true, if_false]
    omega
theorem CV.setRow12 (hV : CV X c σ) {σ' : jS} {ys : List Int32} (hI : jI X.2.1.heap.size σ') (hK : jK [12, 1013] σ σ') (hR : ∀ n, RowAt X.2.1.heap.size 12 1013 σ (adr X 12) n (vr c.1 12) → ∃ n', RowAt X.2.1.heap.size 12 1013 σ' (adr X 12) n' ys ∧ n ≤ n' ∧ σ'.2.1 + n ≤ σ.2.1 + n' ∧ σ'.2.2 + 2 * n ≤ σ.2.2 + 2 * n') : CV X (vR c.1 12 ys, c.2) σ' := by
  obtain ⟨nr, ed, cp, h0, h1, ⟨s0, s2, s4, s5, s6⟩, ⟨r1, r10, r11, r12, r13⟩, hl, ho, hy, hb, hr⟩ := hV
  obtain ⟨n', t1, t2, t3, t4⟩ := hR _ r12
  refine ⟨fun j => if j = 12 then n' else nr j, ed, cp, hI, h1.trans (hK.mono (by decide)), ⟨s0.keep hK (by decide) (fun _ _ => rfl), s2.keep hK (by decide) (fun _ _ => rfl), s4.keep hK (by decide) (fun _ _ => rfl), s5.keep hK (by decide) (fun _ _ => rfl), s6.keep hK (by decide) (fun _ _ => rfl)⟩, ⟨r1.keep hK (by decide) (by decide), r10.keep hK (by decide) (by decide), r11.keep hK (by decide) (by decide), t1, r13.keep hK (by decide) (by decide)⟩, hl.keep hK (by decide) (by decide) (by decide), ho.keep hK (by decide) rfl (fun _ _ => rfl) (Nat.le_refl _), hy.keep hK (by decide), hb, ?_⟩
  obtain ⟨z1, z2⟩ := hr
  refine ⟨?_, ?_⟩
  · simp only [Nat.reduceEqDiff, if_true, if_false]
    omega
  · simp only [Nat.reduceEqDiff, if_true, if_false]
    omega
theorem CV.setRow13 (hV : CV X c σ) {σ' : jS} {ys : List Int32} (hI : jI X.2.1.heap.size σ') (hK : jK [13, 1014] σ σ') (hR : ∀ n, RowAt X.2.1.heap.size 13 1014 σ (adr X 13) n (vr c.1 13) → ∃ n', RowAt X.2.1.heap.size 13 1014 σ' (adr X 13) n' ys ∧ n ≤ n' ∧ σ'.2.1 + n ≤ σ.2.1 + n' ∧ σ'.2.2 + 2 * n ≤ σ.2.2 + 2 * n') : CV X (vR c.1 13 ys, c.2) σ' := by
  obtain ⟨nr, ed, cp, h0, h1, ⟨s0, s2, s4, s5, s6⟩, ⟨r1, r10, r11, r12, r13⟩, hl, ho, hy, hb, hr⟩ := hV
  obtain ⟨n', t1, t2, t3, t4⟩ := hR _ r13
  refine ⟨fun j => if j = 13 then n' else nr j, ed, cp, hI, h1.trans (hK.mono (by decide)), ⟨s0.keep hK (by decide) (fun _ _ => rfl), s2.keep hK (by decide) (fun _ _ => rfl), s4.keep hK (by decide) (fun _ _ => rfl), s5.keep hK (by decide) (fun _ _ => rfl), s6.keep hK (by decide) (fun _ _ => rfl)⟩, ⟨r1.keep hK (by decide) (by decide), r10.keep hK (by decide) (by decide), r11.keep hK (by decide) (by decide), r12.keep hK (by decide) (by decide), t1⟩, hl.keep hK (by decide) (by decide) (by decide), ho.keep hK (by decide) rfl (fun _ _ => rfl) (Nat.le_refl _), hy.keep hK (by decide), hb, ?_⟩
  obtain ⟨z1, z2⟩ := hr
  refine ⟨?_, ?_⟩
  · simp only [Nat.reduceEqDiff, if_true, if_false]
    omega
  · simp only [Nat.reduceEqDiff, if_true, if_false]
    omega
/-- the line has moved -/
theorem CV.setLine (hV : CV X c σ) {σ' : jS} {v' : VS} (hI : jI X.2.1.heap.size σ') (hK : jK [5] σ σ') (h2 : σ'.2 = σ.2) {n : Nat} (hL : LineAt X.2.1.heap.size σ' (adr X 5) (adr X 11) n (vr c.1 11) (vn v' 51) (vn v' 52) (vn v' 53) (vi v' 54) (vn v' 55) (vi v' 56)) (e1 : v'.2.2 = c.1.2.2) (e2 : ∀ κ, κ ≠ 5 → ∀ j, j < cNf κ → cVal X v' κ j = cVal X c.1 κ j) (e3 : vn v' 23 = vn c.1 23) : CV X (v', c.2) σ' := by
  obtain ⟨nr, ed, cp, h0, h1, ⟨s0, s2, s4, s5, s6⟩, ⟨r1, r10, r11, r12, r13⟩, hl, ho, hy, hb, hr⟩ := hV
  have er : vr v' = vr c.1 := by simp [vr, e1]
  have eb : vb v' = vb c.1 := by simp [vb, e1]
  have eo : vo v' = vo c.1 := by simp [vo, e1]
  have ey : vy v' = vy c.1 := by simp [vy, e1]
  obtain ⟨⟨w, q1, q2, q3, q4, q5, q6, q7, q8, q9⟩, q10, q11⟩ := hL
  refine ⟨nr, ed, cp, hI, h1.trans (hK.mono (by decide)), ⟨s0.keep hK (by decide) (e2 0 (by decide)), s2.keep hK (by decide) (e2 2 (by decide)), s4.keep hK (by decide) (e2 4 (by decide)), ⟨w, q1, ?_, q9⟩, s6.keep hK (by decide) (e2 6 (by decide))⟩, ?_, ?_, ho.keep hK (by decide) eo (fun _ _ => rfl) (Nat.le_refl _), ?_, ?_, ?_⟩
  · intro j hj
    have hj' : j < 7 := hj
    match j, hj' with
    | 0, _ => exact q2
    | 1, _ => exact q3
    | 2, _ => exact q4
    | 3, _ => exact q5
    | 4, _ => exact q6
    | 5, _ => exact q7
    | 6, _ => exact q8
  · simp only [RW, er]
    exact ⟨r1.keep hK (by decide) (by decide), r10.keep hK (by decide) (by decide), r11.keep hK (by decide) (by decide), r12.keep hK (by decide) (by decide), r13.keep hK (by decide) (by decide)⟩
  · show ListAt _ _ _ _ _ _ _ (vb v')
    rw [eb]
    exact hl.keep hK (by decide) (by decide) (by decide)
  · show ArrI _ _ _ _ _ (vy v')
    rw [ey]
    exact hy.keep hK (by decide)
  · refine ⟨?_, ?_⟩
    · show vn v' 23 ≤ _ ∧ _
      rw [e3]
      exact hb.1
    · show (vr v' 11).length ≤ _ ∧ _
      rw [er]
      exact q11
  · unfold RM at hr ⊢
    rw [h2]
    exact hr
theorem q_Row_size (F : cF X a0) {κ : Nat} (hκ : isR κ) {N : Int32 → CS → Prop} (hN : N (nI (vr c.1 κ).length) c) : cE X 0 y_Row_size [.ref (adr X κ)] c (ciP N) := cE.get (fun d σ hV => (by obtain ⟨α, n, h1, h2, h⟩ := hV.row hκ; exact e_Row_size F hκ.jcl h1 h2 h)) hN
theorem q_Row_at (F : cF X a0) {κ : Nat} (hκ : isR κ) {i : Int32} {N : Int32 → CS → Prop} (hN : N (rowAt (vr c.1 κ) i) c) : cE X 0 y_Row_at [.ref (adr X κ), .int i] c (ciP N) := cE.get (fun d σ hV => (by obtain ⟨α, n, h1, h2, h⟩ := hV.row hκ; exact e_Row_at F hκ.jcl h1 h2 h i)) hN
theorem q_Line_place (F : cF X a0) {N : Int32 → CS → Prop} (hN : N (nI (vn c.1 52)) c) : cE X 0 y_Line_place [.ref (adr X 5)] c (ciP N) := cE.get (fun d σ hV => (by obtain ⟨n, h⟩ := hV.line; exact e_Line_place F h)) hN
theorem q_Line_indent (F : cF X a0) {N : Int32 → CS → Prop} (hN : N (nI (vn c.1 53)) c) : cE X 0 y_Line_indent [.ref (adr X 5)] c (ciP N) := cE.get (fun d σ hV => (by obtain ⟨n, h⟩ := hV.line; exact e_Line_indent F h)) hN
theorem q_Line_markSign (F : cF X a0) {N : Int32 → CS → Prop} (hN : N (vi c.1 54) c) : cE X 0 y_Line_markSign [.ref (adr X 5)] c (ciP N) := cE.get (fun d σ hV => (by obtain ⟨n, h⟩ := hV.line; exact e_Line_markSign F h)) hN
theorem q_Line_markNumber (F : cF X a0) {N : Int32 → CS → Prop} (hN : N (vi c.1 56) c) : cE X 0 y_Line_markNumber [.ref (adr X 5)] c (ciP N) := cE.get (fun d σ hV => (by obtain ⟨n, h⟩ := hV.line; exact e_Line_markNumber F h)) hN
theorem q_Line_start (F : cF X a0) {N : Int32 → CS → Prop} (hN : N (nI (vn c.1 52 + vn c.1 53)) c) : cE X 0 y_Line_start [.ref (adr X 5)] c (ciP N) := cE.get (fun d σ hV => (by obtain ⟨n, h⟩ := hV.line; exact e_Line_start F h)) hN
theorem q_Line_size (F : cF X a0) {N : Int32 → CS → Prop} (hN : N (nI (vr c.1 11).length) c) : cE X 1 y_Line_size [.ref (adr X 5)] c (ciP N) := cE.get (fun d σ hV => (by obtain ⟨n, h⟩ := hV.line; exact e_Line_size F h)) hN
theorem q_Line_at (F : cF X a0) {i : Int32} {N : Int32 → CS → Prop} (hN : N (rowAt (vr c.1 11) i) c) : cE X 1 y_Line_at [.ref (adr X 5), .int i] c (ciP N) := cE.get (fun d σ hV => (by obtain ⟨n, h⟩ := hV.line; exact e_Line_at F h i)) hN
theorem q_Line_isTooFar (F : cF X a0) {N : Int32 → CS → Prop} (hN : N (bI (4 ≤ vn c.1 53)) c) : cE X 0 y_Line_isTooFar [.ref (adr X 5)] c (ciP N) := cE.get (fun d σ hV => (by obtain ⟨n, h⟩ := hV.line; exact e_Line_isTooFar F h)) hN
theorem q_Line_isBlank (F : cF X a0) {N : Int32 → CS → Prop} (hN : N (bI ((vr c.1 11).length ≤ vn c.1 52 + vn c.1 53)) c) : cE X 1 y_Line_isBlank [.ref (adr X 5)] c (ciP N) := cE.get (fun d σ hV => (by obtain ⟨n, h⟩ := hV.line; exact e_Line_isBlank F h)) hN
theorem q_Line_hasQuoteMark (F : cF X a0) {N : Int32 → CS → Prop} (hN : N (bI (vn c.1 53 < 4 ∧ rowAt (vr c.1 11) (nI (vn c.1 52 + vn c.1 53)) = 62)) c) : cE X 1 y_Line_hasQuoteMark [.ref (adr X 5)] c (ciP N) := cE.get (fun d σ hV => (by obtain ⟨n, h⟩ := hV.line; exact e_Line_hasQuoteMark F h)) hN
theorem q_Line_headingLevel (F : cF X a0) {N : Int32 → CS → Prop} (hN : N (nI (hdLv (vr c.1 11) (vn c.1 52 + vn c.1 53))) c) : cE X 2 y_Line_headingLevel [.ref (adr X 5)] c (ciP N) := cE.get (fun d σ hV => (by obtain ⟨n, h⟩ := hV.line; exact e_Line_headingLevel F h)) hN
theorem q_Line_underlineLevel (F : cF X a0) {N : Int32 → CS → Prop} (hN : N (nI (ulLv (vr c.1 11) (vn c.1 52 + vn c.1 53))) c) : cE X 3 y_Line_underlineLevel [.ref (adr X 5)] c (ciP N) := cE.get (fun d σ hV => (by obtain ⟨n, h⟩ := hV.line; exact e_Line_underlineLevel F h)) hN
theorem q_Line_endsFence (F : cF X a0) {sn fl : Int32} {N : Int32 → CS → Prop} (hN : N (bI (vn c.1 53 < 4 ∧ rowAt (vr c.1 11) (nI (vn c.1 52 + vn c.1 53)) = sn ∧ ¬ nI (smF (vr c.1 11) (vn c.1 52 + vn c.1 53)) < fl ∧ blF (vr c.1 11) (vn c.1 52 + vn c.1 53 + smF (vr c.1 11) (vn c.1 52 + vn c.1 53)))) c) : cE X 3 y_Line_endsFence [.ref (adr X 5), .int sn, .int fl] c (ciP N) := cE.get (fun d σ hV => (by obtain ⟨n, h⟩ := hV.line; exact e_Line_endsFence F h sn fl)) hN
theorem q_Line_markEndsParagraph (F : cF X a0) {N : Int32 → CS → Prop} (hN : N (bI (¬ blF (vr c.1 11) (vn c.1 52 + vn c.1 53 + vn c.1 55) ∧ (vn c.1 55 = 1 ∨ vi c.1 56 = 1))) c) : cE X 3 y_Line_markEndsParagraph [.ref (adr X 5)] c (ciP N) := cE.get (fun d σ hV => (by obtain ⟨n, h⟩ := hV.line; exact e_Line_markEndsParagraph F h)) hN
theorem q_Line_itemWidth (F : cF X a0) {N : Int32 → CS → Prop} (hN : N (nI (itW (vr c.1 11) (vn c.1 52 + vn c.1 53) (vn c.1 53) (vn c.1 55))) c) : cE X 2 y_Line_itemWidth [.ref (adr X 5)] c (ciP N) := cE.get (fun d σ hV => (by obtain ⟨n, h⟩ := hV.line; exact e_Line_itemWidth F h)) hN
theorem q_Line_fenceLength (F : cF X a0) {N : Int32 → CS → Prop} (hN : N (nI (fnLn (vr c.1 11) (vn c.1 52 + vn c.1 53))) c) : cE X 2 y_Line_fenceLength [.ref (adr X 5)] c (ciP N) := cE.get (fun d σ hV => (by obtain ⟨n, h⟩ := hV.line; exact e_Line_fenceLength F h)) hN
theorem q_Line_isRule (F : cF X a0) {N : Int32 → CS → Prop} (hN : N (bI (rlB (vr c.1 11) (vn c.1 52 + vn c.1 53) = true)) c) : cE X 2 y_Line_isRule [.ref (adr X 5)] c (ciP N) := cE.get (fun d σ hV => (by obtain ⟨n, h⟩ := hV.line; exact e_Line_isRule F h)) hN
theorem q_Math_min (F : cF X a0) {a b : Int32} {N : Int32 → CS → Prop} (hN : N (if b < a then b else a) c) : cE X 0 y_Math_min [.int a, .int b] c (ciP N) := cE.get (fun d σ hV => (e_Math_min F a b)) hN
theorem q_Math_max (F : cF X a0) {a b : Int32} {N : Int32 → CS → Prop} (hN : N (if a < b then b else a) c) : cE X 0 y_Math_max [.int a, .int b] c (ciP N) := cE.get (fun d σ hV => (e_Math_max F a b)) hN
theorem q_MB_fault (F : cF X a0) {N : Int32 → CS → Prop} (hN : N (vi c.1 7) c) : cE X 0 y_MB_fault [.ref (adr X 0)] c (ciP N) := cE.get (fun d σ hV => (e_MB_fault F hV.mb)) hN
theorem q_Tree_size (F : cF X a0) {N : Int32 → CS → Prop} (hN : N (nI (vn c.1 23)) c) : cE X 0 y_Tree_size [.ref (adr X 2)] c (ciP N) := cE.get (fun d σ hV => (by obtain ⟨ed, cp, h⟩ := hV.tree; exact e_Tree_size F h)) hN
theorem q_Tree_holds (F : cF X a0) {k : Nat} (hk : k < c.2.2) (hx : vb c.1 k 1 = nI k) {N : Int32 → CS → Prop} (hN : N (bI (k + 1 < vn c.1 23 ∧ vb c.1 (k + 1) 2 = nI k)) c) : cE X 4 y_Tree_holdsSomething [.ref (adr X 2), .ref (c.2.1 k)] c (ciP N) := cE.get (fun d σ hV => (by obtain ⟨ed, cp, h⟩ := hV.tree; exact e_Tree_holds F h hk hx)) hN
theorem q_Block_tell (F : cF X a0) {i : Nat} {x : Int32} (hi : i < c.2.2) {N : Int32 → CS → Prop} (hN : N (tellG (vb c.1 i) x) c) : cE X 0 y_Block_tell [.ref (c.2.1 i), .int x] c (ciP N) := cE.get (fun d σ hV => (by
  obtain ⟨nr, ed, cp, _, _, _, _, ⟨_, _, q, _⟩, _⟩ := hV
  exact e_Block_tell F (q i hi) x)) hN
theorem q_Tree_at (F : cF X a0) {x : Int32} {N0 : CS → Prop} {N : Nat → CS → Prop} (h0 : x < 0 ∨ nI (vn c.1 23) ≤ x → N0 c) (h1 : ¬ (x < 0 ∨ nI (vn c.1 23) ≤ x) → N (c.2.1 x.toNatClampNeg) c) : cE X 3 y_Tree_at [.ref (adr X 2), .int x] c (cnP N0 N) := by
  intro d σ hV
  obtain ⟨ed, cp, h⟩ := hV.tree
  refine (e_Tree_at F h x).mono (fun r σ' ⟨q1, q2⟩ => ⟨c, q2 ▸ hV, ?_⟩)
  unfold trRef at q1
  split at q1
  · next e => exact Or.inl ⟨q1, h0 e⟩
  · next e => exact Or.inr ⟨_, q1, h1 e⟩
theorem q_Row_cut1 (F : cF X a0) {m : Int32} {N : CS → Prop} (hN : N (vR c.1 1 (rowCut (vr c.1 1) m), c.2)) : cE X 0 y_Row_cut [.ref (adr X 1), .int m] c (cvP N) := by
  intro d σ hV
  obtain ⟨α, n, _, _, h⟩ := hV.row (κ := 1) (by unfold isR; decide)
  obtain ⟨nr, ed, cp, hx⟩ := id hV
  have hrow := hx.2.2.2.1.1
  refine (e_Row_cut F hV.ji (by rfl) (by decide) rfl hrow m).mono (fun r σ' ⟨q1, q2, q3, q4, q5⟩ => ⟨_, hV.setRow1 q2 (q3.mono (by decide)) (fun n' hn' => ?_), q1, hN⟩)
  obtain ⟨h', v, w, p1, p2, p3, p4, p5, p6, p7, p8, p9, p10, p11⟩ := hn'
  obtain ⟨h'', v', w', o1, o2, o3, o4, o5, o6, o7, o8, o9, o10, o11⟩ := id hrow
  rw [p1] at o1
  cases o1
  rw [p2] at o2
  cases o2
  rw [p4] at o4
  cases o4
  exact ⟨_, q5, Nat.le_refl _, by rw [q4]; exact Nat.le_refl _, by rw [q4]; exact Nat.le_refl _⟩
theorem q_Row_cut10 (F : cF X a0) {m : Int32} {N : CS → Prop} (hN : N (vR c.1 10 (rowCut (vr c.1 10) m), c.2)) : cE X 0 y_Row_cut [.ref (adr X 10), .int m] c (cvP N) := by
  intro d σ hV
  obtain ⟨α, n, _, _, h⟩ := hV.row (κ := 10) (by unfold isR; decide)
  obtain ⟨nr, ed, cp, hx⟩ := id hV
  have hrow := hx.2.2.2.1.2.1
  refine (e_Row_cut F hV.ji (by rfl) (by decide) rfl hrow m).mono (fun r σ' ⟨q1, q2, q3, q4, q5⟩ => ⟨_, hV.setRow10 q2 (q3.mono (by decide)) (fun n' hn' => ?_), q1, hN⟩)
  obtain ⟨h', v, w, p1, p2, p3, p4, p5, p6, p7, p8, p9, p10, p11⟩ := hn'
  obtain ⟨h'', v', w', o1, o2, o3, o4, o5, o6, o7, o8, o9, o10, o11⟩ := id hrow
  rw [p1] at o1
  cases o1
  rw [p2] at o2
  cases o2
  rw [p4] at o4
  cases o4
  exact ⟨_, q5, Nat.le_refl _, by rw [q4]; exact Nat.le_refl _, by rw [q4]; exact Nat.le_refl _⟩
theorem q_Row_add10 (F : cF X a0) {x : Int32} (hlt : (vr c.1 10).length < 16384) {N : CS → Prop} (hN : N (vR c.1 10 (vr c.1 10 ++ [x]), c.2)) : cE X 2 y_Row_add [.ref (adr X 10), .int x] c (cvP N) := by
  intro d σ hV
  obtain ⟨nr, ed, cp, hx⟩ := id hV
  have hrow := hx.2.2.2.1.2.1
  refine (e_Row_add F hV.ji (by rfl) (by decide) rfl hrow hlt x).mono (fun r σ' ⟨q1, q2, q3, nz, q5, q6, q7, q8⟩ => ⟨_, hV.setRow10 q2 q3 (fun n' hn' => ?_), q1, hN⟩)
  obtain ⟨h', v, w, p1, p2, p3, p4, p5, p6, p7, p8, p9, p10, p11⟩ := hn'
  obtain ⟨h'', v', w', o1, o2, o3, o4, o5, o6, o7, o8, o9, o10, o11⟩ := id hrow
  rw [p1] at o1
  cases o1
  rw [p2] at o2
  cases o2
  rw [p4] at o4
  cases o4
  exact ⟨_, q5, q6, q7, Nat.le_of_eq q8⟩
theorem q_Row_cut12 (F : cF X a0) {m : Int32} {N : CS → Prop} (hN : N (vR c.1 12 (rowCut (vr c.1 12) m), c.2)) : cE X 0 y_Row_cut [.ref (adr X 12), .int m] c (cvP N) := by
  intro d σ hV
  obtain ⟨α, n, _, _, h⟩ := hV.row (κ := 12) (by unfold isR; decide)
  obtain ⟨nr, ed, cp, hx⟩ := id hV
  have hrow := hx.2.2.2.1.2.2.2.1
  refine (e_Row_cut F hV.ji (by rfl) (by decide) rfl hrow m).mono (fun r σ' ⟨q1, q2, q3, q4, q5⟩ => ⟨_, hV.setRow12 q2 (q3.mono (by decide)) (fun n' hn' => ?_), q1, hN⟩)
  obtain ⟨h', v, w, p1, p2, p3, p4, p5, p6, p7, p8, p9, p10, p11⟩ := hn'
  obtain ⟨h'', v', w', o1, o2, o3, o4, o5, o6, o7, o8, o9, o10, o11⟩ := id hrow
  rw [p1] at o1
  cases o1
  rw [p2] at o2
  cases o2
  rw [p4] at o4
  cases o4
  exact ⟨_, q5, Nat.le_refl _, by rw [q4]; exact Nat.le_refl _, by rw [q4]; exact Nat.le_refl _⟩
theorem q_Row_add12 (F : cF X a0) {x : Int32} (hlt : (vr c.1 12).length < 16384) {N : CS → Prop} (hN : N (vR c.1 12 (vr c.1 12 ++ [x]), c.2)) : cE X 2 y_Row_add [.ref (adr X 12), .int x] c (cvP N) := by
  intro d σ hV
  obtain ⟨nr, ed, cp, hx⟩ := id hV
  have hrow := hx.2.2.2.1.2.2.2.1
  refine (e_Row_add F hV.ji (by rfl) (by decide) rfl hrow hlt x).mono (fun r σ' ⟨q1, q2, q3, nz, q5, q6, q7, q8⟩ => ⟨_, hV.setRow12 q2 q3 (fun n' hn' => ?_), q1, hN⟩)
  obtain ⟨h', v, w, p1, p2, p3, p4, p5, p6, p7, p8, p9, p10, p11⟩ := hn'
  obtain ⟨h'', v', w', o1, o2, o3, o4, o5, o6, o7, o8, o9, o10, o11⟩ := id hrow
  rw [p1] at o1
  cases o1
  rw [p2] at o2
  cases o2
  rw [p4] at o4
  cases o4
  exact ⟨_, q5, q6, q7, Nat.le_of_eq q8⟩
theorem q_Row_cut13 (F : cF X a0) {m : Int32} {N : CS → Prop} (hN : N (vR c.1 13 (rowCut (vr c.1 13) m), c.2)) : cE X 0 y_Row_cut [.ref (adr X 13), .int m] c (cvP N) := by
  intro d σ hV
  obtain ⟨α, n, _, _, h⟩ := hV.row (κ := 13) (by unfold isR; decide)
  obtain ⟨nr, ed, cp, hx⟩ := id hV
  have hrow := hx.2.2.2.1.2.2.2.2
  refine (e_Row_cut F hV.ji (by rfl) (by decide) rfl hrow m).mono (fun r σ' ⟨q1, q2, q3, q4, q5⟩ => ⟨_, hV.setRow13 q2 (q3.mono (by decide)) (fun n' hn' => ?_), q1, hN⟩)
  obtain ⟨h', v, w, p1, p2, p3, p4, p5, p6, p7, p8, p9, p10, p11⟩ := hn'
  obtain ⟨h'', v', w', o1, o2, o3, o4, o5, o6, o7, o8, o9, o10, o11⟩ := id hrow
  rw [p1] at o1
  cases o1
  rw [p2] at o2
  cases o2
  rw [p4] at o4
  cases o4
  exact ⟨_, q5, Nat.le_refl _, by rw [q4]; exact Nat.le_refl _, by rw [q4]; exact Nat.le_refl _⟩
theorem q_Row_add13 (F : cF X a0) {x : Int32} (hlt : (vr c.1 13).length < 16384) {N : CS → Prop} (hN : N (vR c.1 13 (vr c.1 13 ++ [x]), c.2)) : cE X 2 y_Row_add [.ref (adr X 13), .int x] c (cvP N) := by
  intro d σ hV
  obtain ⟨nr, ed, cp, hx⟩ := id hV
  have hrow := hx.2.2.2.1.2.2.2.2
  refine (e_Row_add F hV.ji (by rfl) (by decide) rfl hrow hlt x).mono (fun r σ' ⟨q1, q2, q3, nz, q5, q6, q7, q8⟩ => ⟨_, hV.setRow13 q2 q3 (fun n' hn' => ?_), q1, hN⟩)
  obtain ⟨h', v, w, p1, p2, p3, p4, p5, p6, p7, p8, p9, p10, p11⟩ := hn'
  obtain ⟨h'', v', w', o1, o2, o3, o4, o5, o6, o7, o8, o9, o10, o11⟩ := id hrow
  rw [p1] at o1
  cases o1
  rw [p2] at o2
  cases o2
  rw [p4] at o4
  cases o4
  exact ⟨_, q5, q6, q7, Nat.le_of_eq q8⟩
theorem cVal_o5 {X : CX} {v : VS} {κ j k : Nat} {x : Nat} (h : κ ≠ 5) (hj : j < cNf κ) (hk : 50 ≤ k ∧ k < 60) : cVal X (vN v k x) κ j = cVal X v κ j := by
  have := cNf_le κ
  unfold cVal
  split
  · rfl
  · simp only [vn, vN]
    rw [if_neg (by omega)]
  · rfl
theorem cVal_i5 {X : CX} {v : VS} {κ j k : Nat} {x : Int32} (h : κ ≠ 5) (hj : j < cNf κ) (hk : 50 ≤ k ∧ k < 60) : cVal X (vI v k x) κ j = cVal X v κ j := by
  have := cNf_le κ
  unfold cVal
  split
  · rfl
  · rfl
  · simp only [vi, vI]
    rw [if_neg (by omega)]
theorem q_Line_moveOn (F : cF X a0) {p : Nat} {x : Int32} (hx : x = nI p) (hp : p ≤ 60000) {N : CS → Prop} (hN : N (vN (vN c.1 52 (min (vn c.1 52 + p) (vr c.1 11).length)) 53 (spF (vr c.1 11) (min (vn c.1 52 + p) (vr c.1 11).length)), c.2)) : cE X 2 y_Line_moveOn [.ref (adr X 5), .int x] c (cvP N) := by
  subst hx
  intro d σ hV
  obtain ⟨n, h⟩ := hV.line
  refine (e_Line_moveOn F hV.ji h hp).mono (fun r σ' ⟨q1, q2, q3, q4, q5⟩ => ⟨_, ?_, q1, hN⟩)
  exact hV.setLine q2 q3 q4 q5 rfl (fun κ hκ j hj => (cVal_o5 hκ hj (by decide)).trans (cVal_o5 hκ hj (by decide))) rfl
theorem q_Line_rewind (F : cF X a0) {N : CS → Prop} (hN : N (vN c.1 51 0, c.2)) : cE X 0 y_Line_rewind [.ref (adr X 5)] c (cvP N) := by
  intro d σ hV
  obtain ⟨n, h⟩ := hV.line
  refine (e_Line_rewind F hV.ji h).mono (fun r σ' ⟨q1, q2, q3, q4, q5⟩ => ⟨_, ?_, q1, hN⟩)
  exact hV.setLine q2 q3 q4 q5 rfl (fun κ hκ j hj => cVal_o5 hκ hj (by decide)) rfl
theorem q_Line_passQuoteMark (F : cF X a0) {N : Int32 → CS → Prop} (h0 : ¬ (vn c.1 53 < 4 ∧ rowAt (vr c.1 11) (nI (vn c.1 52 + vn c.1 53)) = 62) → N 0 c) (h1 : (vn c.1 53 < 4 ∧ rowAt (vr c.1 11) (nI (vn c.1 52 + vn c.1 53)) = 62) → N 1 (vN (vN c.1 52 (min (qmP (vr c.1 11) (vn c.1 52 + vn c.1 53)) (vr c.1 11).length)) 53 (spF (vr c.1 11) (min (qmP (vr c.1 11) (vn c.1 52 + vn c.1 53)) (vr c.1 11).length)), c.2)) : cE X 2 y_Line_passQuoteMark [.ref (adr X 5)] c (ciP N) := by
  intro d σ hV
  obtain ⟨n, h⟩ := hV.line
  refine (e_Line_passQuoteMark F hV.ji h).mono (fun r σ' hq => ?_)
  rcases hq with ⟨q0, q1, q2⟩ | ⟨q0, q1, q2, q3, q4, q5⟩
  · exact ⟨c, q2 ▸ hV, 0, q1, h0 q0⟩
  · refine ⟨_, ?_, 1, q1, h1 q0⟩
    exact hV.setLine q2 q3 q4 q5 rfl (fun κ hκ j hj => (cVal_o5 hκ hj (by decide)).trans (cVal_o5 hκ hj (by decide))) rfl
theorem q_Line_findMark (F : cF X a0) {N : Int32 → CS → Prop} (hN : N (bI (mkB (vr c.1 11) (vn c.1 52 + vn c.1 53) = true)) (vI (vN (vI c.1 54 (mkS (vr c.1 11) (vn c.1 52 + vn c.1 53))) 55 (dgC (vr c.1 11) (vn c.1 52 + vn c.1 53) + 1)) 56 (dgN (vr c.1 11) (vn c.1 52 + vn c.1 53) (dgC (vr c.1 11) (vn c.1 52 + vn c.1 53))), c.2)) : cE X 2 y_Line_findMark [.ref (adr X 5)] c (ciP N) := by
  intro d σ hV
  obtain ⟨n, h⟩ := hV.line
  refine (e_Line_findMark F hV.ji h).mono (fun r σ' ⟨q1, q2, q3, q4, q5⟩ => ⟨_, ?_, _, q1, hN⟩)
  exact hV.setLine q2 q3 q4 q5 rfl (fun κ hκ j hj => (cVal_i5 hκ hj (by decide)).trans ((cVal_o5 hκ hj (by decide)).trans (cVal_i5 hκ hj (by decide)))) rfl
theorem q_Line_takeNext (F : cF X a0) (ht0 : (vr c.1 1).length ≤ 3000) (hta : vn c.1 51 ≤ 3002) {N : Int32 → CS → Prop} (h0 : (vr c.1 1).length ≤ vn c.1 51 → N 0 c) (hN : vn c.1 51 < (vr c.1 1).length → N 1 (vN (vN (vN (vR c.1 11 (lnS (vr c.1 1) (vn c.1 51))) 51 (lnN (vr c.1 1) (lnE (vr c.1 1) (vn c.1 51)))) 52 0) 53 (spF (lnS (vr c.1 1) (vn c.1 51)) 0), c.2)) : cE X 4 y_Line_takeNext [.ref (adr X 5), .ref (adr X 1)] c (ciP N) := by
  intro d σ hV
  have hV0 := hV
  obtain ⟨nr, ed, cp, h0', h1, ⟨s0, s2, s4, ⟨w, q1, q2, q3⟩, s6⟩, ⟨r1, r10, r11, r12, r13⟩, hl, ho, hy, hb, hr⟩ := hV
  have hL : LineAt X.2.1.heap.size σ (adr X 5) (adr X 11) (nr 11) (vr c.1 11) (vn c.1 51) (vn c.1 52) (vn c.1 53) (vi c.1 54) (vn c.1 55) (vi c.1 56) := ⟨⟨w, q1, q2 0 (by decide), q2 1 (by decide), q2 2 (by decide), q2 3 (by decide), q2 4 (by decide), q2 5 (by decide), q2 6 (by decide), q3⟩, r11, hb.2⟩
  refine (e_Line_takeNext F ht0 hta h0' hL r1).mono (fun r σ' hq => ?_)
  rcases hq with ⟨p0, p1, p2⟩ | ⟨p0, p1, n', hI, hK, ⟨⟨w', t1, t2, t3, t4, t5, t6, t7, t8, t9⟩, t10, t11⟩, p6, p7, p8⟩
  · exact ⟨c, p2 ▸ hV0, 0, p1, h0 p0⟩
  · refine ⟨_, ?_, 1, p1, hN p0⟩
    refine ⟨fun j => if j = 11 then n' else nr j, ed, cp, hI, h1.trans (hK.mono (by decide)), ⟨s0.keep hK (by decide) (fun j hj => (cVal_o5 (by decide) hj (by decide)).trans ((cVal_o5 (by decide) hj (by decide)).trans ((cVal_o5 (by decide) hj (by decide)).trans rfl))), s2.keep hK (by decide) (fun j hj => (cVal_o5 (by decide) hj (by decide)).trans ((cVal_o5 (by decide) hj (by decide)).trans ((cVal_o5 (by decide) hj (by decide)).trans rfl))), s4.keep hK (by decide) (fun j hj => (cVal_o5 (by decide) hj (by decide)).trans ((cVal_o5 (by decide) hj (by decide)).trans ((cVal_o5 (by decide) hj (by decide)).trans rfl))), ⟨w', t1, ?_, t9⟩, s6.keep hK (by decide) (fun j hj => (cVal_o5 (by decide) hj (by decide)).trans ((cVal_o5 (by decide) hj (by decide)).trans ((cVal_o5 (by decide) hj (by decide)).trans rfl)))⟩, ⟨r1.keep hK (by decide) (by decide), r10.keep hK (by decide) (by decide), t10, r12.keep hK (by decide) (by decide), r13.keep hK (by decide) (by decide)⟩, hl.keep hK (by decide) (by decide) (by decide), ho.keep hK (by decide) rfl (fun _ _ => rfl) (Nat.le_refl _), hy.keep hK (by decide), ⟨hb.1, t11⟩, ?_⟩
    · intro j hj
      have hj' : j < 7 := hj
      match j, hj' with
      | 0, _ => exact t2
      | 1, _ => exact t3
      | 2, _ => exact t4
      | 3, _ => exact t5
      | 4, _ => exact t6
      | 5, _ => exact t7
      | 6, _ => exact t8
    · obtain ⟨z1, z2⟩ := hr
      refine ⟨?_, ?_⟩
      · simp only [Nat.reduceEqDiff, if_true, if_false]
        omega
      · simp only [Nat.reduceEqDiff, if_true, if_false]
        omega
theorem cVal_o2 {X : CX} {v : VS} {κ j : Nat} {x : Nat} (h : κ ≠ 2) (hj : j < cNf κ) : cVal X (vN v 23 x) κ j = cVal X v κ j := by
  have := cNf_le κ
  unfold cVal
  split
  · rfl
  · simp only [vn, vN]
    rw [if_neg (by omega)]
  · rfl
theorem q_Tree_dropLast (F : cF X a0) {N : CS → Prop} (hN : N (vN c.1 23 (vn c.1 23 - 1), c.2)) : cE X 0 y_Tree_dropLast [.ref (adr X 2)] c (cvP N) := by
  intro d σ hV
  have hV0 := hV
  obtain ⟨nr, ed, cp, h0, h1, ⟨s0, s2, s4, s5, s6⟩, ⟨r1, r10, r11, r12, r13⟩, hl, ho, hy, hb, hr⟩ := hV
  have hT : TreeAt X.2.1.heap.size σ (adr X 2) (adr X 7) (adr X 3) (adr X 10) ed cp c.2.2 (vn c.1 23) c.2.1 (vb c.1) := by
    obtain ⟨w, q1, q2, q3⟩ := s2
    exact ⟨⟨w, q1, q2 0 (by decide), q2 1 (by decide), q2 2 (by decide), q2 3 (by decide), q3⟩, hl, hb.1.1, hb.1.2.2, hb.1.2.1⟩
  refine (e_Tree_dropLast F h0 hT).mono (fun r σ' ⟨p1, hI, hK, p4, ⟨w', t1, t2, t3, t4, t5, t6⟩, t7, t8, t9⟩ => ⟨_, ?_, p1, hN⟩)
  refine ⟨nr, ed, cp, hI, h1.trans (hK.mono (by decide)), ⟨s0.keep hK (by decide) (fun j hj => cVal_o2 (by decide) hj), ⟨w', t1, ?_, t6⟩, s4.keep hK (by decide) (fun j hj => cVal_o2 (by decide) hj), s5.keep hK (by decide) (fun j hj => cVal_o2 (by decide) hj), s6.keep hK (by decide) (fun j hj => cVal_o2 (by decide) hj)⟩, ⟨r1.keep hK (by decide) (by decide), r10.keep hK (by decide) (by decide), r11.keep hK (by decide) (by decide), r12.keep hK (by decide) (by decide), r13.keep hK (by decide) (by decide)⟩, t7, ho.keep hK (by decide) rfl (fun _ _ => rfl) (Nat.le_refl _), hy.keep hK (by decide), ⟨⟨t8, hb.1.2⟩, hb.2⟩, ?_⟩
  · intro j hj
    have hj' : j < 4 := hj
    match j, hj' with
    | 0, _ => exact t2
    | 1, _ => exact t3
    | 2, _ => exact t4
    | 3, _ => exact t5
  · unfold RM at hr ⊢
    rw [p4]
    exact hr
theorem q_Tree_clear (F : cF X a0) {N : CS → Prop} (hN : N (vR (vN c.1 23 0) 10 [], c.2)) : cE X 1 y_Tree_clear [.ref (adr X 2)] c (cvP N) := by
  intro d σ hV
  have hV0 := hV
  obtain ⟨nr, ed, cp, h0, h1, ⟨s0, s2, s4, s5, s6⟩, ⟨r1, r10, r11, r12, r13⟩, hl, ho, hy, hb, hr⟩ := hV
  have hT : TreeAt X.2.1.heap.size σ (adr X 2) (adr X 7) (adr X 3) (adr X 10) ed cp c.2.2 (vn c.1 23) c.2.1 (vb c.1) := by
    obtain ⟨w, q1, q2, q3⟩ := s2
    exact ⟨⟨w, q1, q2 0 (by decide), q2 1 (by decide), q2 2 (by decide), q2 3 (by decide), q3⟩, hl, hb.1.1, hb.1.2.2, hb.1.2.1⟩
  refine (e_Tree_clear F h0 hT r10).mono (fun r σ' ⟨p1, hI, hK, p4, ⟨⟨w', t1, t2, t3, t4, t5, t6⟩, t7, t8, t9⟩, t10⟩ => ⟨_, ?_, p1, hN⟩)
  refine ⟨nr, ed, cp, hI, h1.trans (hK.mono (by decide)), ⟨s0.keep hK (by decide) (fun j hj => (show cVal X (vN c.1 23 0) _ j = _ from cVal_o2 (by decide) hj)), ⟨w', t1, ?_, t6⟩, s4.keep hK (by decide) (fun j hj => (show cVal X (vN c.1 23 0) _ j = _ from cVal_o2 (by decide) hj)), s5.keep hK (by decide) (fun j hj => (show cVal X (vN c.1 23 0) _ j = _ from cVal_o2 (by decide) hj)), s6.keep hK (by decide) (fun j hj => (show cVal X (vN c.1 23 0) _ j = _ from cVal_o2 (by decide) hj))⟩, ⟨r1.keep hK (by decide) (by decide), t10, r11.keep hK (by decide) (by decide), r12.keep hK (by decide) (by decide), r13.keep hK (by decide) (by decide)⟩, t7, ho.keep hK (by decide) rfl (fun _ _ => rfl) (Nat.le_refl _), hy.keep hK (by decide), ⟨⟨t8, hb.1.2⟩, hb.2⟩, ?_⟩
  · intro j hj
    have hj' : j < 4 := hj
    match j, hj' with
    | 0, _ => exact t2
    | 1, _ => exact t3
    | 2, _ => exact t4
    | 3, _ => exact t5
  · unfold RM at hr ⊢
    rw [p4]
    exact hr
theorem q_Tree_finish (F : cF X a0) (hct : 0 < vn c.1 23) (hH : HoldOk (vn c.1 23) (vb c.1)) {N : CS → Prop} (hN : N (vBs c.1 (fin2 (vn c.1 23 - 1) 1 (fin1 (vn c.1 23 - 1) (vb c.1))), c.2)) : cE X 5 y_Tree_finish [.ref (adr X 2)] c (cvP N) := by
  intro d σ hV
  have hV0 := hV
  obtain ⟨nr, ed, cp, h0, h1, ⟨s0, s2, s4, s5, s6⟩, ⟨r1, r10, r11, r12, r13⟩, hl, ho, hy, hb, hr⟩ := hV
  have hT : TreeAt X.2.1.heap.size σ (adr X 2) (adr X 7) (adr X 3) (adr X 10) ed cp c.2.2 (vn c.1 23) c.2.1 (vb c.1) := by
    obtain ⟨w, q1, q2, q3⟩ := s2
    exact ⟨⟨w, q1, q2 0 (by decide), q2 1 (by decide), q2 2 (by decide), q2 3 (by decide), q3⟩, hl, hb.1.1, hb.1.2.2, hb.1.2.1⟩
  refine (e_Tree_finish F h0 hT hct hH).mono (fun r σ' ⟨p1, hI, hK, p4, t0, t7, t8, t9⟩ => ⟨_, ?_, p1, hN⟩)
  refine ⟨nr, ed, cp, hI, h1.trans (hK.mono (by decide)), ⟨s0.keep hK (by decide) (fun _ _ => rfl), s2.keep hK (by decide) (fun _ _ => rfl), s4.keep hK (by decide) (fun _ _ => rfl), s5.keep hK (by decide) (fun _ _ => rfl), s6.keep hK (by decide) (fun _ _ => rfl)⟩, ⟨r1.keep hK (by decide) (by decide), r10.keep hK (by decide) (by decide), r11.keep hK (by decide) (by decide), r12.keep hK (by decide) (by decide), r13.keep hK (by decide) (by decide)⟩, t7, ho.keep hK (by decide) rfl (fun _ _ => rfl) (Nat.le_refl _), hy.keep hK (by decide), hb, ?_⟩
  unfold RM at hr ⊢
  rw [p4]
  exact hr
end LIFT
