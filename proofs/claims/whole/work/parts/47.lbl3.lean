/-- what a target at g is: from, to, behind -/
def tgE (T : List Int32) (g : Nat) : Option (Nat × Nat × Nat) :=
  if tA T g = 60 then (match agF T (g + 1) with | none => none | some k => some (g + 1, k, k + 1))
  else if (sgF T g 0).1 = g ∨ (sgF T g 0).2 ≠ 0 then none else some (g, (sgF T g 0).1, (sgF T g 0).1)
/-- a definition at f: the label's end; target from, to; title from, to; the end of its last line -/
def dfT (T : List Int32) (k tf tt b : Nat) : Option (Nat × Nat × Nat × Nat × Nat × Nat) :=
  match lnF T b with
  | none => none
  | some l => some (k, tf, tt, 0, 0, l)
def dfS (T : List Int32) (k tf tt b g : Nat) : Option (Nat × Nat × Nat × Nat × Nat × Nat) :=
  match (if b < g then tlE T g else none) with
  | none => dfT T k tf tt b
  | some e => match lnF T (e + 1) with
    | none => dfT T k tf tt b
    | some l => some (k, tf, tt, g + 1, e, l)
def dfE (T : List Int32) (f : Nat) : Option (Nat × Nat × Nat × Nat × Nat × Nat) :=
  match lbE T f with
  | none => none
  | some k => if tA T (k + 1) = 58 then (match tgE T (gpF T (k + 2) false) with | none => none | some (tf, tt, b) => dfS T k tf tt b (gpF T b false)) else none
/-- only the numbers of the definition found last have changed -/
def LbR (c c' : CS) : Prop := c'.2 = c.2 ∧ c'.1.2 = c.1.2 ∧ ∀ k, ¬ (43 ≤ k ∧ k ≤ 49) → vi c'.1 k = vi c.1 k
theorem LbR.rfl {c : CS} : LbR c c := ⟨_root_.rfl, _root_.rfl, fun _ _ => _root_.rfl⟩
theorem LbR.i {c c' : CS} (h : LbR c c') {k : Nat} (hk : 43 ≤ k ∧ k ≤ 49) (x : Int32) : LbR c (cI c' k x) := ⟨h.1, h.2.1, fun j hj => by
  show (if j = k then x else c'.1.1 j) = _
  rw [if_neg (by omega)]
  exact h.2.2 j hj⟩
theorem LbR.trans {c c' c2 : CS} (h : LbR c c') (h2 : LbR c' c2) : LbR c c2 := ⟨h2.1.trans h.1, h2.2.1.trans h.2.1, fun k hk => (h2.2.2 k hk).trans (h.2.2 k hk)⟩
theorem LbR.r {c c' : CS} (h : LbR c c') (κ : Nat) : vr c'.1 κ = vr c.1 κ := by show c'.1.2.2.1 κ = c.1.2.2.1 κ; rw [h.2.1]
theorem cI_at (c : CS) (k : Nat) (x : Int32) : vi (cI c k x).1 k = x := if_pos rfl
theorem cI_ne {c : CS} {j k : Nat} {x : Int32} (h : j ≠ k) : vi (cI c k x).1 j = vi c.1 j := if_neg h
theorem gpF_ge (T : List Int32) (k : Nat) (nl : Bool) : k ≤ gpF T k nl := by
  induction k, nl using gpF.induct T with
  | case1 k nl h1 h2 ih => rw [gpF, if_pos h1, if_pos h2]; omega
  | case2 k nl h1 h2 h3 ih => rw [gpF, if_pos h1, if_neg h2, if_pos h3]; omega
  | case3 k nl h1 h2 h3 => rw [gpF, if_pos h1, if_neg h2, if_neg h3]; omega
  | case4 k nl h1 => rw [gpF, if_neg h1]; omega
theorem gpF_le (T : List Int32) (k : Nat) (nl : Bool) (h : k ≤ T.length) : gpF T k nl ≤ T.length := by
  induction k, nl using gpF.induct T with
  | case1 k nl h1 h2 ih => rw [gpF, if_pos h1, if_pos h2]; exact ih (by omega)
  | case2 k nl h1 h2 h3 ih => rw [gpF, if_pos h1, if_neg h2, if_pos h3]; exact ih (by omega)
  | case3 k nl h1 h2 h3 => rw [gpF, if_pos h1, if_neg h2, if_neg h3]; omega
  | case4 k nl h1 => rw [gpF, if_neg h1]; omega
theorem lnF_ge {T : List Int32} {k l : Nat} (h : lnF T k = some l) : k ≤ l := by
  induction k using lnF.induct T with
  | case1 k h1 h2 ih => rw [lnF, if_pos h1, if_pos h2] at h; have := ih h; omega
  | case2 k h1 h2 h3 => rw [lnF, if_pos h1, if_neg h2, if_pos h3] at h; cases h; omega
  | case3 k h1 h2 h3 => rw [lnF, if_pos h1, if_neg h2, if_neg h3] at h; cases h
  | case4 k h1 => rw [lnF, if_neg h1] at h; cases h; omega
section CLLBL3
variable {X : CX} {a0 : Array Value} {c : CS} {T : List Int32} {N : Int32 → CS → Prop}
theorem q_Lab_behindSigns (F : cF X a0) (hT : vr c.1 10 = T) (hl : T.length ≤ 16000) {f : Nat} (hf : f ≤ T.length) (h0 : ((sgF T f 0).1 = f ∨ (sgF T f 0).2 ≠ 0) → N (-1) c) (h1 : ¬ ((sgF T f 0).1 = f ∨ (sgF T f 0).2 ≠ 0) → (sgF T f 0).1 ≤ T.length → f ≤ (sgF T f 0).1 → N (nI (sgF T f 0).1) (cI (cI c 45 (nI f)) 46 (nI (sgF T f 0).1))) : cE X 1 y_Lab_behindSigns [.ref (adr X 4), .int (nI f)] c (ciP N) := by
  refine g_Lab_behindSigns (I4 := fun n x1 x2 x3 c' => c' = c ∧ x1 = nI f ∧ ∃ k dp, x2 = nI dp ∧ x3 = nI k ∧ f ≤ k ∧ k ≤ T.length ∧ dp ≤ k ∧ n + k = 16040 ∧ sgF T k dp = sgF T f 0) F ?_ ?_
  · exact ⟨16040 - f, rfl, rfl, f, 0, rfl, rfl, Nat.le_refl _, hf, by omega, by omega, rfl⟩
  · rintro n x1 x2 x3 c' ⟨rfl, rfl, k, dp, rfl, rfl, hk, hk2, hd, hn, e⟩
    have h139 : sgF T k dp = (k, dp) → w_Lab_behindSigns_139 X (nI f) (nI dp) (nI k) c' (ciP N) := by
      intro q
      rw [q] at e
      rw [← e] at h0 h1
      simp (discharger := omega) only [w_Lab_behindSigns_139, w_Lab_behindSigns_148, nI_eq, lit_eqJ]
      refine ⟨fun c1 => ciP.i (h0 (Or.inl c1)) rfl, fun c1 => ⟨fun c2 => ?_, fun c2 => ciP.i (h0 (Or.inr c2)) rfl⟩⟩
      intro m1 e1 m2 e2
      subst e2 e1
      exact ciP.i (h1 (fun z => z.elim c1 (fun y => y c2)) hk2 hk) rfl
    have h97 : k < T.length → ∀ (dp' : Nat) (s1 : Int32), nI dp + s1 = nI dp' → dp' ≤ k + 1 → (tA T k = 92 ∧ pn (tA T (k + 1)) → sgF T k dp = sgF T (k + 2) dp') → (¬ (tA T k = 92 ∧ pn (tA T (k + 1))) → sgF T k dp = sgF T (k + 1) dp') → w_Lab_behindSigns_97 X (nI f) (nI dp) (nI k) (nI dp) s1 c' (ciP N) (fun x1 x2 x3 m => ∃ j, j < n ∧ m = c' ∧ x1 = nI f ∧ ∃ k dp, x2 = nI dp ∧ x3 = nI k ∧ f ≤ k ∧ k ≤ T.length ∧ dp ≤ k ∧ j + k = 16040 ∧ sgF T k dp = sgF T f 0) := by
      intro hlt dp' s1 hs hdp g1 g2
      unfold w_Lab_behindSigns_97 w_Lab_behindSigns_133 w_Lab_behindSigns_134
      rw [hs]
      have hno : ¬ (tA T k = 92 ∧ pn (tA T (k + 1))) → ∃ j, j < n ∧ c' = c' ∧ nI f = nI f ∧ ∃ k' dp, nI dp' = nI dp ∧ nI k + 1 = nI k' ∧ f ≤ k' ∧ k' ≤ T.length ∧ dp ≤ k' ∧ j + k' = 16040 ∧ sgF T k' dp = sgF T f 0 := fun q => ⟨n - 1, by omega, rfl, rfl, k + 1, dp', rfl, nI_1 k, by omega, by omega, by omega, by omega, by rw [← g2 q]; exact e⟩
      refine q_Row_at F isR10 ⟨fun c1 => q_Row_at F isR10 (q_MB_isPunctuation F ⟨fun c2 => ?_, fun c2 => ?_⟩), fun c1 => ?_⟩
      · rw [hT, nI_1] at c2
        exact hno (fun q => bI_0 c2 q.2)
      · rw [hT, nI_1] at c2
        rw [hT] at c1
        have hp := bI_n0 c2
        have hin : k + 1 < T.length := by
          apply Nat.lt_of_not_le
          intro q
          rw [rowAt_out (by omega) q] at hp
          exact absurd hp (by decide)
        exact ⟨n - 2, by omega, rfl, rfl, k + 2, dp', rfl, nI_add k 2, by omega, by omega, by omega, by omega, by rw [← g1 ⟨c1, hp⟩]; exact e⟩
      · rw [hT] at c1
        exact hno (fun q => c1 q.1)
    unfold w_Lab_behindSigns_4
    have hgo : k < T.length → ¬ (tA T k ≤ 32 ∨ tA T k = 127) → ¬ (tA T k = 41 ∧ dp = 0) → w_Lab_behindSigns_61 X (nI f) (nI dp) (nI k) c' (ciP N) (fun x1 x2 x3 m => ∃ j, j < n ∧ m = c' ∧ x1 = nI f ∧ ∃ k dp, x2 = nI dp ∧ x3 = nI k ∧ f ≤ k ∧ k ≤ T.length ∧ dp ≤ k ∧ j + k = 16040 ∧ sgF T k dp = sgF T f 0) := by
      intro hlt g1 g2
      have hy : tA T k = 92 ∧ pn (tA T (k + 1)) → sgF T k dp = sgF T (k + 2) dp := fun q => by rw [sgF, if_pos hlt, if_neg g1, if_neg g2, if_pos q]
      have hno : ¬ (tA T k = 92 ∧ pn (tA T (k + 1))) → sgF T k dp = sgF T (k + 1) (if tA T k = 40 then dp + 1 else if tA T k = 41 then dp - 1 else dp) := fun q => by rw [sgF, if_pos hlt, if_neg g1, if_neg g2, if_neg q]
      refine q_Row_at F isR10 ⟨fun c1 => ?_, fun c1 => q_Row_at F isR10 ⟨fun c2 => ?_, fun c2 => ?_⟩⟩
      · rw [hT] at c1
        refine h97 hlt (dp + 1) 1 (nI_1 dp) (by omega) (fun q => absurd (c1.symm.trans q.1) (by decide)) (fun q => by rw [hno q, if_pos c1])
      · rw [hT] at c1 c2
        have hdp : dp ≠ 0 := fun q => g2 ⟨c2, q⟩
        refine h97 hlt (dp - 1) (-1) (sb_m1 (by omega)) (by omega) (fun q => absurd (c2.symm.trans q.1) (by decide)) (fun q => by rw [hno q, if_neg c1, if_pos c2])
      · rw [hT] at c1 c2
        refine h97 hlt dp 0 (nI_add dp 0) (by omega) hy (fun q => by rw [hno q, if_neg c1, if_neg c2])
    refine q_Row_size F isR10 ⟨fun c1 => ?_, fun c1 => q_Row_at F isR10 ⟨fun c2 => ?_, fun c2 => q_Row_at F isR10 ⟨fun c3 => ?_, fun c3 => q_Row_at F isR10 ⟨fun c4 => ⟨fun c5 => ?_, fun c5 => ?_⟩, fun c4 => ?_⟩⟩⟩⟩
    all_goals rw [hT, nI_leI (by omega) (by omega)] at c1
    · exact h139 (by rw [sgF, if_neg (by omega)])
    all_goals rw [hT] at c2
    · exact h139 (by rw [sgF, if_pos (by omega), if_pos (Or.inl c2)])
    all_goals rw [hT] at c3
    · exact h139 (by rw [sgF, if_pos (by omega), if_pos (Or.inr c3)])
    all_goals rw [hT] at c4
    · have hd0 : dp = 0 := (lit_eqJ (a := 0) (by decide) (by omega)).mp c5
      exact h139 (by rw [sgF, if_pos (by omega), if_neg (fun q => q.elim c2 c3), if_pos ⟨c4, hd0⟩])
    · exact hgo (by omega) (fun q => q.elim c2 c3) (fun q => c5 (by rw [q.2]; rfl))
    · exact hgo (by omega) (fun q => q.elim c2 c3) (fun q => c4 q.1)
theorem q_Lab_behindTitle (F : cF X a0) (hT : vr c.1 10 = T) (hl : T.length ≤ 16000) {f : Nat} (hf : f ≤ 16010) (h0 : tlE T f = none → N (-1) c) (h1 : ∀ k, tlE T f = some k → k < T.length → f < k → N (nI (k + 1)) (cI (cI c 47 (nI (f + 1))) 48 (nI k))) : cE X 1 y_Lab_behindTitle [.ref (adr X 4), .int (nI f)] c (ciP N) := by
  refine g_Lab_behindTitle (I47 := fun n x1 x2 x3 x4 c' => c' = c ∧ x1 = nI f ∧ x2 = tA T f ∧ x3 = tlL (tA T f) ∧ ∃ k, x4 = nI k ∧ f < k ∧ n + k = 16040 ∧ k ≤ 16020 ∧ tlF T (tA T f) (tlL (tA T f)) k = tlE T f) F ?_ ?_
  · unfold w_Lab_behindTitle_0 w_Lab_behindTitle_29 w_Lab_behindTitle_41
    have hgo : (tA T f = 34 ∨ tA T f = 39 ∨ tA T f = 40) → ∀ x3 : Int32, x3 = tlL (tA T f) → ∃ j, c = c ∧ nI f = nI f ∧ tA T f = tA T f ∧ x3 = tlL (tA T f) ∧ ∃ k, nI f + 1 = nI k ∧ f < k ∧ j + k = 16040 ∧ k ≤ 16020 ∧ tlF T (tA T f) (tlL (tA T f)) k = tlE T f := fun q x3 q3 => ⟨16040 - (f + 1), rfl, rfl, rfl, q3, f + 1, nI_1 f, by omega, by omega, by omega, by unfold tlE; rw [if_pos q]⟩
    refine q_Row_at F isR10 ?_
    rw [hT]
    refine ⟨fun c1 => ⟨fun c4 => ?_, fun c4 => ?_⟩, fun c1 => ⟨fun c2 => ⟨fun c4 => ?_, fun c4 => ?_⟩, fun c2 => ⟨fun c3 => ⟨fun c4 => ?_, fun c4 => ?_⟩, fun c3 => ciP.i (h0 ?_) rfl⟩⟩⟩
    · exact hgo (Or.inl c1) _ (if_pos c4).symm
    · exact hgo (Or.inl c1) _ (if_neg c4).symm
    · exact hgo (Or.inr (Or.inl c2)) _ (if_pos c4).symm
    · exact hgo (Or.inr (Or.inl c2)) _ (if_neg c4).symm
    · exact hgo (Or.inr (Or.inr c3)) _ (if_pos c4).symm
    · exact hgo (Or.inr (Or.inr c3)) _ (if_neg c4).symm
    · unfold tlE
      rw [if_neg (fun q => q.elim c1 (fun q => q.elim c2 c3))]
  · rintro n x1 x2 x3 x4 c' ⟨rfl, rfl, rfl, rfl, k, rfl, hk, hn, hk2, e⟩
    have h121 : (T.length ≤ k ∨ tA T k = tlL (tA T f)) → w_Lab_behindTitle_121 X (nI f) (tA T f) (tlL (tA T f)) (nI k) c' (ciP N) := by
      intro hx
      refine q_Row_size F isR10 ⟨fun c1 => ?_, fun c1 => ?_⟩
      · rw [hT, nI_ltI (by omega) (by omega)] at c1
        intro m2 e2 m3 e3
        subst e3 e2
        rw [tlF, if_pos c1, if_pos (hx.resolve_left (by omega))] at e
        rw [nI_1 f]
        exact ciP.i (h1 k e.symm c1 hk) (nI_1 k)
      · rw [hT, nI_ltI (by omega) (by omega)] at c1
        rw [tlF, if_neg c1] at e
        exact ciP.i (h0 e.symm) rfl
    unfold w_Lab_behindTitle_47
    have h94 : k < T.length → ¬ tA T k = tlL (tA T f) → ¬ (tA T k = 40 ∧ tA T f = 40) → w_Lab_behindTitle_94 X (nI f) (tA T f) (tlL (tA T f)) (nI k) c' (ciP N) (fun x1 x2 x3 x4 m => ∃ j, j < n ∧ m = c' ∧ x1 = nI f ∧ x2 = tA T f ∧ x3 = tlL (tA T f) ∧ ∃ k, x4 = nI k ∧ f < k ∧ j + k = 16040 ∧ k ≤ 16020 ∧ tlF T (tA T f) (tlL (tA T f)) k = tlE T f) := by
      intro hlt g1 g2
      unfold w_Lab_behindTitle_94 w_Lab_behindTitle_115
      rw [tlF, if_pos hlt, if_neg g1, if_neg g2] at e
      refine q_Row_at F isR10 ⟨fun c1 => ?_, fun c1 => ?_⟩
      · rw [hT] at c1
        rw [if_pos c1] at e
        exact ⟨n - 2, by omega, rfl, rfl, rfl, rfl, k + 2, nI_add k 2, by omega, by omega, by omega, e⟩
      · rw [hT] at c1
        rw [if_neg c1] at e
        exact ⟨n - 1, by omega, rfl, rfl, rfl, rfl, k + 1, nI_1 k, by omega, by omega, by omega, e⟩
    refine q_Row_size F isR10 ⟨fun c1 => ?_, fun c1 => q_Row_at F isR10 ⟨fun c2 => ?_, fun c2 => q_Row_at F isR10 ⟨fun c3 => ⟨fun c4 => ?_, fun c4 => ?_⟩, fun c3 => ?_⟩⟩⟩
    all_goals rw [hT, nI_leI (by omega) (by omega)] at c1
    · exact h121 (Or.inl c1)
    all_goals rw [hT] at c2
    · exact h121 (Or.inr c2)
    all_goals rw [hT] at c3
    · rw [tlF, if_pos (by omega), if_neg c2, if_pos ⟨c3, c4⟩] at e
      exact ciP.i (h0 e.symm) rfl
    · exact h94 (by omega) c2 (fun q => c4 q.2)
    · exact h94 (by omega) c2 (fun q => c3 q.1)
theorem nI_nm1 {k : Nat} (hk : k < 2 ^ 31) : ¬ nI k = -1 := fun q => by
  have := nI_pos hk
  rw [q] at this
  exact this (by decide)
theorem q_Lab_behindDefinition (F : cF X a0) (hT : vr c.1 10 = T) (hl : T.length ≤ 16000) {f : Nat} (hf : f ≤ 16000) (h0 : dfE T f = none → ∀ c', LbR c c' → N (-1) c') (h1 : ∀ k tf tt sf st l, dfE T f = some (k, tf, tt, sf, st, l) → (k < T.length ∧ f < k ∧ tf ≤ tt ∧ tt ≤ T.length ∧ sf ≤ st ∧ st ≤ T.length ∧ l ≤ T.length ∧ k < l) → ∀ c', LbR c c' → vi c'.1 43 = nI (f + 1) → vi c'.1 44 = nI k → vi c'.1 45 = nI tf → vi c'.1 46 = nI tt → ((vi c'.1 47 = nI sf ∧ vi c'.1 48 = nI st) ∨ (sf = st ∧ vi c'.1 48 = vi c'.1 47)) → N (nI (if l < T.length then l + 1 else l)) c') : cE X 2 y_Lab_behindDefinition [.ref (adr X 4), .int (nI f)] c (ciP N) := by
  refine g_Lab_behindDefinition F ?_
  unfold w_Lab_behindDefinition_0 w_Lab_behindDefinition_24
  refine q_Lab_behindLabel F hT hl hf (fun q => ⟨fun _ => ciP.i (h0 ?_ _ LbR.rfl) rfl, fun z => absurd rfl z⟩) (fun k q hk hfk => ⟨fun z => absurd z (nI_nm1 (by omega)), fun _ => q_Row_at F isR10 ⟨fun c1 => ?_, fun c1 => ciP.i (h0 ?_ _ ((LbR.rfl.i (by decide) _).i (by decide) _)) rfl⟩⟩)
  · unfold dfE; rw [q]
  rotate_left
  · have c1' : ¬ tA T (k + 1) = 58 := by rw [← hT]; exact c1
    unfold dfE; rw [q]; exact if_neg c1'
  · have c1' : tA T (k + 1) = 58 := by rw [← hT]; exact c1
    have hk1 := tA_in (by omega) c1' (by decide)
    have hD : dfE T f = match tgE T (gpF T (k + 2) false) with | none => none | some (tf, tt, b) => dfS T k tf tt b (gpF T b false) := by
      unfold dfE; rw [q]; exact if_pos c1'
    have hge := gpF_ge T (k + 2) false
    have hle := gpF_le T (k + 2) false (by omega)
    rw [nI_1]
    have hgo : ∀ (tf tt b : Nat) (c2 : CS), tgE T (gpF T (k + 2) false) = some (tf, tt, b) → tf ≤ tt → tt ≤ T.length → b ≤ T.length → k + 2 ≤ b → LbR c c2 → vi c2.1 43 = nI (f + 1) → vi c2.1 44 = nI k → vi c2.1 45 = nI tf → vi c2.1 46 = nI tt → ∀ x2 x3 : Int32, w_Lab_behindDefinition_60 X (nI f) x2 x3 (nI b) c2 (ciP N) := by
      intro tf tt b c2 ht b1 b2 b3 b4 hR e43 e44 e45 e46 x2 x3
      rw [ht] at hD
      replace hD : dfE T f = dfS T k tf tt b (gpF T b false) := hD
      have hT2 : vr c2.1 10 = T := by rw [hR.r]; exact hT
      have g1 := gpF_ge T b false
      have g2 := gpF_le T b false b3
      unfold w_Lab_behindDefinition_60 w_Lab_behindDefinition_95
      refine ⟨fun z => absurd z (nI_nm1 (by omega)), fun _ => q_Lab_behindGap F hT2 hl (by omega) ?_⟩
      have h113 : ∀ (c3 : CS) (x5 x6 : Int32), dfS T k tf tt b (gpF T b false) = dfT T k tf tt b → LbR c c3 → vi c3.1 43 = nI (f + 1) → vi c3.1 44 = nI k → vi c3.1 45 = nI tf → vi c3.1 46 = nI tt → w_Lab_behindDefinition_113 X (nI f) x2 x3 (nI b) x5 x6 (-1) c3 (ciP N) := by
        intro c3 x5 x6 hx hR3 f43 f44 f45 f46
        rw [hx] at hD
        refine ⟨fun _ => ?_, fun z => absurd rfl z⟩
        intro m1 e1
        have hR4 : LbR c m1 := by rw [e1]; exact hR3.i (by decide) _
        have k43 : vi m1.1 43 = nI (f + 1) := by rw [e1, cI_ne (by decide), f43]
        have k44 : vi m1.1 44 = nI k := by rw [e1, cI_ne (by decide), f44]
        have k45 : vi m1.1 45 = nI tf := by rw [e1, cI_ne (by decide), f45]
        have k46 : vi m1.1 46 = nI tt := by rw [e1, cI_ne (by decide), f46]
        have k48 : vi m1.1 48 = vi m1.1 47 := by rw [e1, cI_at, cI_ne (by decide)]
        refine q_Lab_behindLine F (by rw [hR4.r]; exact hT) hl b3 (fun z => ciP.i (h0 ?_ _ hR4) rfl) (fun l z hlz => ciP.i (h1 k tf tt 0 0 l ?_ ⟨by omega, by omega, b1, b2, by omega, by omega, hlz, ?_⟩ _ hR4 k43 k44 k45 k46 (Or.inr ⟨rfl, k48⟩)) rfl)
        · rw [hD]; unfold dfT; rw [z]
        · rw [hD]; unfold dfT; rw [z]
        · have := lnF_ge z
          omega
      refine ⟨fun c3 => ?_, fun c3 => ?_⟩
      · rw [nI_leI (by omega) (by omega)] at c3
        refine ⟨fun _ => h113 _ _ _ ?_ hR e43 e44 e45 e46, fun z => absurd rfl z⟩
        unfold dfS
        rw [if_neg (by omega)]
      · rw [nI_leI (by omega) (by omega)] at c3
        refine q_Lab_behindTitle F hT2 hl (by omega) (fun z => ⟨fun _ => h113 _ _ _ ?_ hR e43 e44 e45 e46, fun z => absurd rfl z⟩) (fun e z he1 he2 => ⟨fun z => absurd z (nI_nm1 (by omega)), fun _ => ?_⟩)
        · unfold dfS
          rw [if_pos (by omega), z]
        · have hR3 : LbR c (cI (cI c2 47 (nI (gpF T b false + 1))) 48 (nI e)) := (hR.i (by decide) _).i (by decide) _
          refine q_Lab_behindLine F (by rw [hR3.r]; exact hT) hl (by omega) (fun z2 => h113 _ _ _ ?_ hR3 ?_ ?_ ?_ ?_) (fun l z2 hlz => ⟨fun z => ?_, fun _ => ciP.i (h1 k tf tt (gpF T b false + 1) e l ?_ ⟨by omega, by omega, b1, b2, by omega, by omega, hlz, ?_⟩ _ hR3 ?_ ?_ ?_ ?_ (Or.inl ⟨?_, ?_⟩)) rfl⟩)
          · unfold dfS
            rw [if_pos (by omega), z]
            simp only [z2]
          · rw [cI_ne (by decide), cI_ne (by decide), e43]
          · rw [cI_ne (by decide), cI_ne (by decide), e44]
          · rw [cI_ne (by decide), cI_ne (by decide), e45]
          · rw [cI_ne (by decide), cI_ne (by decide), e46]
          · exfalso
            split at z
            · exact nI_nm1 (by omega) z
            · exact nI_nm1 (by omega) z
          · rw [hD]
            unfold dfS
            rw [if_pos (by omega), z]
            simp only [z2]
          · have := lnF_ge z2
            omega
          · rw [cI_ne (by decide), cI_ne (by decide), e43]
          · rw [cI_ne (by decide), cI_ne (by decide), e44]
          · rw [cI_ne (by decide), cI_ne (by decide), e45]
          · rw [cI_ne (by decide), cI_ne (by decide), e46]
          · rw [cI_ne (by decide), cI_at]
          · rw [cI_at]
    have hR1 : LbR c (cI (cI c 43 (nI (f + 1))) 44 (nI k)) := (LbR.rfl.i (by decide) _).i (by decide) _
    have f43 : vi (cI (cI c 43 (nI (f + 1))) 44 (nI k)).1 43 = nI (f + 1) := by rw [cI_ne (by decide), cI_at]
    have f44 : vi (cI (cI c 43 (nI (f + 1))) 44 (nI k)).1 44 = nI k := cI_at _ _ _
    have hT1 : vr (cI (cI c 43 (nI (f + 1))) 44 (nI k)).1 10 = T := hT
    refine q_Lab_behindGap (f := k + 2) F hT1 hl (by omega) ?_
    refine q_Row_at F isR10 ⟨fun c2 => ?_, fun c2 => ?_⟩
    · have c2' : tA T (gpF T (k + 2) false) = 60 := by rw [← hT] at c2 ⊢; exact c2
      refine q_Lab_behindAngles F hT1 hl (by omega) (fun z => ?_) (fun e z he1 he2 => ?_)
      · have ht : tgE T (gpF T (k + 2) false) = none := by unfold tgE; rw [if_pos c2', z]
        rw [ht] at hD
        exact ⟨fun _ => ciP.i (h0 hD _ hR1) rfl, fun z => absurd rfl z⟩
      · refine hgo (gpF T (k + 2) false + 1) e (e + 1) _ (by unfold tgE; rw [if_pos c2', z]) (by omega) (by omega) (by omega) (by omega) ((hR1.i (by decide) _).i (by decide) _) ?_ ?_ ?_ ?_ _ _
        · rw [cI_ne (by decide), cI_ne (by decide), f43]
        · rw [cI_ne (by decide), cI_ne (by decide), f44]
        · rw [cI_ne (by decide), cI_at]
        · rw [cI_at]
    · have c2' : ¬ tA T (gpF T (k + 2) false) = 60 := by rw [← hT] at c2 ⊢; exact c2
      refine q_Lab_behindSigns F hT1 hl hle (fun z => ?_) (fun z hz1 hz2 => ?_)
      · have ht : tgE T (gpF T (k + 2) false) = none := by unfold tgE; rw [if_neg c2', if_pos z]
        rw [ht] at hD
        exact ⟨fun _ => ciP.i (h0 hD _ hR1) rfl, fun z => absurd rfl z⟩
      · refine hgo (gpF T (k + 2) false) _ _ _ (by unfold tgE; rw [if_neg c2', if_neg z]) hz2 hz1 hz1 (by omega) ((hR1.i (by decide) _).i (by decide) _) ?_ ?_ ?_ ?_ _ _
        · rw [cI_ne (by decide), cI_ne (by decide), f43]
        · rw [cI_ne (by decide), cI_ne (by decide), f44]
        · rw [cI_ne (by decide), cI_at]
        · rw [cI_at]
end CLLBL3
