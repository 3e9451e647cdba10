/-! a line is added to a paragraph, to code: class and model -/
abbrev paO (v : VS) (i : Nat) : List Int32 := (if vb v i 6 ≤ 0 then [] else [10]) ++ sl (lx v) (lp v + ld v) (lx v).length
abbrev cdO (v : VS) : List Int32 := sl (lx v) (lp v) (lx v).length ++ [10]
section CLADD
variable {X : CX} {a0 : Array Value} {c : CS} {N : CS → Prop}
theorem q_Rd_addToParagraph (F : cF X a0) {i f : Nat} (hi : i < c.2.2) (hf : vb c.1 i 5 = nI f) (hf2 : f ≤ (tx c.1).length) (hl : (lx c.1).length ≤ 12100) (hp : lp c.1 + ld c.1 ≤ 13000) (hT : (tx c.1).length + (lx c.1).length + 1 ≤ 16000) (hT2 : (tx c.1).length + (lx c.1).length < 16000) (hN : N (cB (cB (vR c.1 10 (tx c.1 ++ paO c.1 i), c.2) i 6 (nI ((tx c.1 ++ paO c.1 i).length - f))) i 10 (vi c.1 66))) : cE X 4 y_Rd_addToParagraph [.ref (adr X 6), .ref (c.2.1 i)] c (cvP N) := by
  have e53 : vn c.1 53 = ld c.1 := rfl
  have e52 : vn c.1 52 = lp c.1 := rfl
  have e11 : (vr c.1 11).length = (lx c.1).length := rfl
  have h19 : ∀ o0 : List Int32, o0.length ≤ 1 → o0 ++ sl (lx c.1) (lp c.1 + ld c.1) (lx c.1).length = paO c.1 i → w_Rd_addToParagraph_19 X (c.2.1 i) (vR c.1 10 (tx c.1 ++ o0), c.2) (cvP N) := by
    intro o0 ho e
    unfold w_Rd_addToParagraph_19
    refine q_Line_start F (q_Line_size F (q_Rd_copy (T := tx c.1 ++ o0) F ?_ ?_ ?_ ?_ ?_ ?_))
    · exact vr_at _ _ _
    · show (lx c.1).length ≤ _
      exact Nat.le_refl _
    · exact hl
    · exact hp
    · show (tx c.1 ++ o0).length + ((lx c.1).length - (lp c.1 + ld c.1)) ≤ 16000
      rw [List.length_append]
      omega
    · have hst : ((vR (vR c.1 10 (tx c.1 ++ o0)) 10 (tx c.1 ++ o0 ++ sl (lx c.1) (lp c.1 + ld c.1) (lx c.1).length), c.2) : CS) = (vR c.1 10 (tx c.1 ++ paO c.1 i), c.2) := by rw [vR_vR, List.append_assoc, e]
      show cE X 0 y_Row_size _ ((vR (vR c.1 10 (tx c.1 ++ o0)) 10 (tx c.1 ++ o0 ++ sl (lx c.1) (lp c.1 + ld c.1) (lx c.1).length), c.2) : CS) _
      rw [hst]
      refine q_Row_size F isR10 ⟨i, ⟨hi, rfl⟩, i, ⟨hi, rfl⟩, fun m5 e5 => ⟨i, by rw [e5]; exact ⟨hi, rfl⟩, fun m6 e6 => ⟨rfl, ?_⟩⟩⟩
      have hv : nI (vr (vR c.1 10 (tx c.1 ++ paO c.1 i)) 10).length - vb (vR c.1 10 (tx c.1 ++ paO c.1 i)) i 5 = nI ((tx c.1 ++ paO c.1 i).length - f) := by
        rw [vr_at]
        show _ - vb c.1 i 5 = _
        rw [hf, pk_sub]
        rw [List.length_append]
        omega
      rw [hv] at e5
      have : m6 = cB (cB (vR c.1 10 (tx c.1 ++ paO c.1 i), c.2) i 6 (nI ((tx c.1 ++ paO c.1 i).length - f))) i 10 (vi c.1 66) := by
        rw [e6, e5]
        rfl
      rw [this]
      exact hN
  refine g_Rd_addToParagraph F ⟨i, ⟨hi, rfl⟩, fun c1 => ?_, fun c1 => q_Row_add10 F ?_ ?_⟩
  · have := h19 [] (by decide) (by unfold paO; rw [if_pos c1])
    rw [List.append_nil, vR_self] at this
    exact this
  · show (tx c.1).length < _
    omega
  · exact h19 [10] (by decide) (by unfold paO; rw [if_neg c1])
theorem q_Rd_addToCode (F : cF X a0) {i f : Nat} (hi : i < c.2.2) (hf : vb c.1 i 5 = nI f) (hf2 : f ≤ (tx c.1).length) (hl : (lx c.1).length ≤ 12100) (hp : lp c.1 ≤ 13000) (hT : (tx c.1).length + (lx c.1).length + 1 ≤ 16000) (hN : vb c.1 i 12 ≠ 0 ∨ ¬ (lx c.1).length ≤ lp c.1 + ld c.1 → N (cB (cB (vR c.1 10 (tx c.1 ++ cdO c.1), c.2) i 6 (nI ((tx c.1 ++ cdO c.1).length - f))) i 10 (vi c.1 66))) (hN2 : ¬ (vb c.1 i 12 ≠ 0 ∨ ¬ (lx c.1).length ≤ lp c.1 + ld c.1) → N (vR c.1 10 (tx c.1 ++ cdO c.1), c.2)) : cE X 4 y_Rd_addToCode [.ref (adr X 6), .ref (c.2.1 i)] c (cvP N) := by
  have e53 : vn c.1 53 = ld c.1 := rfl
  have e52 : vn c.1 52 = lp c.1 := rfl
  have e11 : (vr c.1 11).length = (lx c.1).length := rfl
  have h47 : (vb c.1 i 12 ≠ 0 ∨ ¬ (lx c.1).length ≤ lp c.1 + ld c.1) → w_Rd_addToCode_47 X (c.2.1 i) (vR c.1 10 (tx c.1 ++ cdO c.1), c.2) (cvP N) := by
    intro hx
    unfold w_Rd_addToCode_47
    refine q_Row_size F isR10 ⟨i, ⟨hi, rfl⟩, i, ⟨hi, rfl⟩, fun m5 e5 => ⟨i, by rw [e5]; exact ⟨hi, rfl⟩, fun m6 e6 => ⟨rfl, ?_⟩⟩⟩
    have hv : nI (vr (vR c.1 10 (tx c.1 ++ cdO c.1)) 10).length - vb (vR c.1 10 (tx c.1 ++ cdO c.1)) i 5 = nI ((tx c.1 ++ cdO c.1).length - f) := by
      rw [vr_at]
      show _ - vb c.1 i 5 = _
      rw [hf, pk_sub]
      rw [List.length_append]
      omega
    rw [hv] at e5
    have : m6 = cB (cB (vR c.1 10 (tx c.1 ++ cdO c.1), c.2) i 6 (nI ((tx c.1 ++ cdO c.1).length - f))) i 10 (vi c.1 66) := by
      rw [e6, e5]
      rfl
    rw [this]
    exact hN hx
  refine g_Rd_addToCode F (q_Line_place F (q_Line_size F (q_Rd_copy (T := tx c.1) F rfl (Nat.le_refl _) hl hp ?_ (q_Row_add10 F ?_ ?_))))
  · show (tx c.1).length + ((lx c.1).length - _) ≤ _
    omega
  · show (vr (vR c.1 10 _) 10).length < _
    rw [vr_at, List.length_append, sl_len (Nat.le_refl _)]
    omega
  · have hst : ((vR (vR c.1 10 (tx c.1 ++ sl (lx c.1) (lp c.1) (lx c.1).length)) 10 (vr (vR c.1 10 (tx c.1 ++ sl (lx c.1) (lp c.1) (lx c.1).length)) 10 ++ [10]), c.2) : CS) = (vR c.1 10 (tx c.1 ++ cdO c.1), c.2) := by rw [vR_vR, vr_at, List.append_assoc]
    show ∃ i1, isB ((vR (vR c.1 10 (tx c.1 ++ sl (lx c.1) (lp c.1) (lx c.1).length)) 10 (vr (vR c.1 10 (tx c.1 ++ sl (lx c.1) (lp c.1) (lx c.1).length)) 10 ++ [10]), c.2) : CS) _ i1 ∧ _
    rw [hst]
    refine ⟨i, ⟨hi, rfl⟩, fun c1 => q_Line_isBlank F ⟨fun c2 => h47 (Or.inr (bI_0 c2)), fun c2 => ⟨rfl, hN2 (fun z => ?_)⟩⟩, fun c1 => h47 (Or.inl c1)⟩
    rcases z with z | z
    · exact z c1
    · exact z (bI_n0 c2)
end CLADD
section MOADD
variable {Y : MX} {a1 : Array Value} {m : MS}
/-- what adding a line does to the model -/
def AdR (m m' : MS) (P b n : Nat) (os : List Int32) (last : Prop) : Prop := (∀ k, k ≠ 10 → k ≠ 31 → m'.1 k = m.1 k) ∧ GrM m m' P b os ∧ m'.2 19 b = nI (P + os.length) - m.2 18 b ∧ (last → m'.2 17 b = nI n) ∧ (¬ last → m'.2 17 b = m.2 17 b)
theorem d_Mo_add (G : mF Y a1) {xs : List Int32} (hL : LnI m xs) {b n P pl : Nat} {os : List Int32} {k13 : Nat} (hb : b < 3300) (h31 : m.1 31 = nI pl) (hpl : pl ≤ xs.length) (h10 : m.1 10 = nI P) (hP : P + xs.length + 1 ≤ 47000) (h13 : m.2 13 b = nI k13) (hk13 : k13 ≤ 7) (hos : (k13 = 4 → os = (if m.2 19 b ≤ 0 then [] else [10]) ++ sl xs (pl + spF xs pl) xs.length) ∧ (k13 = 7 → os = sl xs pl xs.length ++ [10]) ∧ (k13 = 4 ∨ k13 = 7)) {M : MS → Prop} (hM : ∀ m', AdR m m' P b n os (k13 = 4 ∨ m.2 22 b ≠ 0 ∨ ¬ blF xs pl) → M m') : mE Y 1 y_Mo_add [.ref (mo Y), .int (nI b), .int (nI n)] m (vP M) := by
  have hlx := hL.2.2
  have hsp := run_in (xs := xs) (p := fun z => z == 32) hpl
  have hspe : spF xs pl = runFrom (fun z => z == 32) xs pl := rfl
  -- the end
  have h96 : ∀ (x3 x4 : Int32) (q : Int32) (bl : Prop) [Decidable bl], x3 = bI bl → ((k13 = 4 ∨ m.2 22 b ≠ 0 ∨ ¬ bl) ↔ (k13 = 4 ∨ m.2 22 b ≠ 0 ∨ ¬ blF xs pl)) → w_Mo_add_96 Y (nI b) (nI n) x3 x4 (extF (mI m 31 q) P os) (vP M) := by
    intro x3 x4 q bl _ hx hbl
    have hfin : ∀ m2, (∀ k, k ≠ 10 → k ≠ 31 → m2.1 k = m.1 k) → m2.1 10 = nI (P + os.length) → m2.2 19 b = nI (P + os.length) - m.2 18 b → ((k13 = 4 ∨ m.2 22 b ≠ 0 ∨ ¬ bl) → m2.2 17 b = nI n) → (¬ (k13 = 4 ∨ m.2 22 b ≠ 0 ∨ ¬ bl) → m2.2 17 b = m.2 17 b) → (∀ k j, ¬ (j = b ∧ (k = 17 ∨ k = 19)) → m2.2 k j = (extF (mI m 31 q) P os).2 k j) → M m2 := by
      intro m2 a1 a2 a3 a4 a5 a6
      refine hM m2 ⟨a1, ⟨a2, a1 28 (by decide) (by decide), a1 30 (by decide) (by decide), a1 40 (by decide) (by decide), fun i hi => ?_, fun k hk => ?_, fun k j z1 z2 => ?_⟩, a3, fun z => a4 (hbl.mpr z), fun z => a5 (fun y => z (hbl.mp y))⟩
      · rw [a6 7 i (fun z => by omega), extF_at hi]
        rfl
      · rw [a6 7 _ (fun z => by omega), extF_in hk]
      · rw [a6 k j z2, extF_k z1]
        rfl
    have e10 : (extF (mI m 31 q) P os).1 10 = nI (P + os.length) := extF_10
    have ei : ∀ k, k ≠ 10 → k ≠ 31 → (extF (mI m 31 q) P os).1 k = m.1 k := fun k z1 z2 => by rw [extF_i z1, mI_ne z2]
    have ea : ∀ k j, k ≠ 7 → (extF (mI m 31 q) P os).2 k j = m.2 k j := fun k j z => by rw [extF_k z]; rfl
    unfold w_Mo_add_96
    rw [vp_nI (by omega), nI_clamp (by omega), e10, ea 18 b (by decide)]
    refine ⟨hb, hb, fun m1 e1 => ⟨hb, ?_⟩⟩
    have f13 : m1.2 13 b = nI k13 := by rw [e1, mA_ne (by decide), ea 13 b (by decide), h13]
    have f22 : m1.2 22 b = m.2 22 b := by rw [e1, mA_ne (by decide), ea 22 b (by decide)]
    have h136 : (k13 = 4 ∨ m.2 22 b ≠ 0 ∨ ¬ bl) → w_Mo_add_136 Y (nI b) (nI n) x3 x4 m1 (vP M) := by
      intro hx
      unfold w_Mo_add_136 w_Mo_add_143
      rw [vp_nI (by omega), nI_clamp (by omega)]
      refine ⟨hb, fun m2 e2 => ⟨rfl, hfin m2 (fun k z1 z2 => ?_) ?_ ?_ (fun _ => ?_) (fun z => absurd hx z) (fun k j z => ?_)⟩⟩
      · rw [e2, e1]; exact ei k z1 z2
      · rw [e2, e1]; exact e10
      · rw [e2, mA_ne (by decide), e1, mA_at]
      · rw [e2, mA_at]
      · rw [e2]
        by_cases h1 : k = 17
        · have : j ≠ b := fun y => z ⟨y, Or.inl h1⟩
          rw [mA_ni this, e1, mA_ni this]
        · rw [mA_ne h1, e1]
          by_cases h2 : k = 19
          · rw [mA_ni (fun y => z ⟨y, Or.inr h2⟩)]
          · rw [mA_ne h2]
    rw [f13, f22]
    refine ⟨fun c1 => h136 (Or.inl ((lit_eqJ (by decide) (by omega)).mp c1)), fun c1 => ⟨hb, fun c2 => ⟨fun c3 => h136 (Or.inr (Or.inr ?_)), fun c3 => ?_⟩, fun c2 => h136 (Or.inr (Or.inl c2))⟩⟩
    · rw [hx] at c3
      exact bI_0 c3
    · unfold w_Mo_add_143
      have hno : ¬ (k13 = 4 ∨ m.2 22 b ≠ 0 ∨ ¬ bl) := by
        rintro (z | z | z)
        · exact c1 ((lit_eqJ (by decide) (by omega)).mpr z)
        · exact z c2
        · rw [hx] at c3
          exact z (bI_n0 c3)
      refine ⟨rfl, hfin m1 (fun k z1 z2 => ?_) ?_ ?_ (fun z => absurd z hno) (fun _ => ?_) (fun k j z => ?_)⟩
      · rw [e1]; exact ei k z1 z2
      · rw [e1]; exact e10
      · rw [e1, mA_at]
      · rw [e1, mA_ne (by decide), ea 17 b (by decide)]
      · rw [e1]
        by_cases h2 : k = 19
        · rw [mA_ni (fun y => z ⟨y, Or.inr h2⟩)]
        · rw [mA_ne h2]
  have hLx : ∀ (q : Int32) (o : List Int32), LnI (extF (mI m 31 q) P o) xs := fun q o => ⟨by rw [extF_i (by decide), mI_ne (by decide)]; exact hL.1, fun i hi => by rw [extF_k (by decide)]; exact hL.2.1 i hi, hL.2.2⟩
  refine g_Mo_add (I53 := fun j x1 x2 x3 x4 m' => x1 = nI b ∧ x2 = nI n ∧ ∃ (k a : Nat) (o0 : List Int32), (k13 = 4 ∧ a = pl + spF xs pl ∧ os = o0 ++ sl xs a xs.length ∧ o0.length ≤ 1 ∨ k13 = 7 ∧ a = pl ∧ o0 = [] ∧ x3 = bI (blF xs pl)) ∧ x3 = bI (blF xs a) ∧ a ≤ xs.length ∧ x4 = nI k ∧ a ≤ k ∧ k ≤ xs.length ∧ j + k = xs.length ∧ m' = extF (mI m 31 (nI a)) P (o0 ++ sl xs a k)) G ?_ ?_
  · have h38 : ∀ (a : Nat) (o0 : List Int32), (k13 = 4 ∧ a = pl + spF xs pl ∧ os = o0 ++ sl xs a xs.length ∧ o0.length ≤ 1 ∨ k13 = 7 ∧ a = pl ∧ o0 = []) → w_Mo_add_38 Y (nI b) (nI n) (extF (mI m 31 (nI a)) P o0) (vP M) (fun x1 x2 x3 x4 m' => ∃ j, x1 = nI b ∧ x2 = nI n ∧ ∃ (k a : Nat) (o0 : List Int32), (k13 = 4 ∧ a = pl + spF xs pl ∧ os = o0 ++ sl xs a xs.length ∧ o0.length ≤ 1 ∨ k13 = 7 ∧ a = pl ∧ o0 = [] ∧ x3 = bI (blF xs pl)) ∧ x3 = bI (blF xs a) ∧ a ≤ xs.length ∧ x4 = nI k ∧ a ≤ k ∧ k ≤ xs.length ∧ j + k = xs.length ∧ m' = extF (mI m 31 (nI a)) P (o0 ++ sl xs a k)) := by
      intro a o0 hx
      unfold w_Mo_add_38
      have e31 : (extF (mI m 31 (nI a)) P o0).1 31 = nI a := by rw [extF_i (by decide), mI_at]
      rw [e31]
      refine d_Mo_isBlank G (hLx _ _) (by omega) ⟨xs.length - a, rfl, rfl, a, a, o0, ?_, rfl, by omega, rfl, Nat.le_refl _, by omega, by omega, by rw [sl_nil (Nat.le_refl _), List.append_nil]⟩
      rcases hx with z | z
      · exact Or.inl z
      · exact Or.inr ⟨z.1, z.2.1, z.2.2, by rw [z.2.1]⟩
    unfold w_Mo_add_0
    rw [vp_nI (by omega), nI_clamp (by omega), h13]
    refine ⟨hb, fun c1 => ?_, fun c1 => ?_⟩
    · have h4 : k13 = 4 := (lit_eqJ (by decide) (by omega)).mp c1
      refine d_Mo_indent G hL h31 (by omega) (fun m2 e2 => ⟨hb, ?_⟩)
      rw [h31, nI_add] at e2
      have e19 : m2.2 19 b = m.2 19 b := by rw [e2]; rfl
      have o4 := hos.1 h4
      have hx0 : extF m2 P [] = m2 := extF_nil (by rw [e2, mI_ne (by decide)]; exact h10)
      rw [e19]
      refine ⟨fun c2 => ?_, fun c2 => ?_⟩
      · rw [if_pos c2] at o4
        rw [← hx0, e2]
        exact h38 _ [] (Or.inl ⟨h4, rfl, o4, by decide⟩)
      · rw [if_neg c2] at o4
        rw [← hx0]
        refine d_Mo_keep G (by show P + 0 < _; omega) ?_
        rw [e2]
        exact h38 _ [10] (Or.inl ⟨h4, rfl, o4, by decide⟩)
    · have h7 : k13 = 7 := by
        rcases hos.2.2 with z | z
        · exact absurd ((lit_eqJ (by decide) (by omega)).mpr z) c1
        · exact z
      have := h38 pl [] (Or.inr ⟨h7, rfl, rfl⟩)
      rw [← h31, mI_self, extF_nil h10] at this
      exact this
  · rintro j x1 x2 x3 x4 m' ⟨rfl, rfl, k, a, o0, hx, hx3, ha, rfl, hk1, hk2, hj, rfl⟩
    have e12 : (extF (mI m 31 (nI a)) P (o0 ++ sl xs a k)).1 12 = nI xs.length := (hLx _ _).1
    have e13 : (extF (mI m 31 (nI a)) P (o0 ++ sl xs a k)).2 13 b = nI k13 := by rw [extF_k (by decide)]; exact h13
    have ho0 : o0.length ≤ 1 := by
      rcases hx with z | z
      · exact z.2.2.2
      · rw [z.2.2.1]; decide
    unfold w_Mo_add_53
    rw [e12, nI_leI (by omega) (by omega), vp_nI (by omega), nI_clamp (by omega), e13, vp_nI (by omega), nI_clamp (by omega)]
    refine ⟨fun c1 => ⟨hb, fun c2 => ?_, fun c2 => ?_⟩, fun c1 => ⟨by omega, ?_⟩⟩
    · have h7 : k13 = 7 := (lit_eqJ (by decide) (by omega)).mp c2
      rcases hx with z | z
      · omega
      · refine d_Mo_keep G ?_ ?_
        · rw [List.length_append, sl_len (by omega)]; omega
        · have hoe : o0 ++ sl xs a k ++ [10] = os := by rw [hos.2.1 h7, z.2.2.1, z.2.1, show k = xs.length by omega]; rfl
          rw [hoe]
          exact h96 x3 (nI k) (nI a) (blF xs pl) z.2.2.2 Iff.rfl
    · have h4 : k13 = 4 := by
        rcases hos.2.2 with z | z
        · exact z
        · exact absurd ((lit_eqJ (by decide) (by omega)).mpr z) c2
      rcases hx with z | z
      · have hoe : o0 ++ sl xs a k = os := by rw [z.2.2.1, show k = xs.length by omega]
        rw [hoe]
        exact h96 x3 (nI k) (nI a) (blF xs a) hx3 ⟨fun _ => Or.inl h4, fun _ => Or.inl h4⟩
      · omega
    · rw [(hLx (nI a) (o0 ++ sl xs a k)).get (by omega)]
      refine d_Mo_keep G (by rw [List.length_append, sl_len (by omega)]; omega) ⟨j - 1, by omega, rfl, rfl, k + 1, a, o0, hx, hx3, ha, nI_1 k, by omega, by omega, by omega, ?_⟩
      rw [sl_app (T := xs) hk1 (by omega) (by omega), List.append_assoc]
end MOADD
