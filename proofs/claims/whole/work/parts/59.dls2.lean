section CLDLS2
variable {X : CX} {a0 : Array Value} {c : CS} {D : DL} {N : Int32 → CS → Prop} {M : CS → Prop}
theorem q_Lab_isSame (F : cF X a0) {P : List Int32} {a b n : Nat} (hP : vr c.1 12 = P) (ha : a + n ≤ 20000) (hb : b + n ≤ 20000) (h1 : (∀ i, i < n → tA P (a + i) = tA P (b + i)) → N 1 c) (h0 : ¬ (∀ i, i < n → tA P (a + i) = tA P (b + i)) → N 0 c) : cE X 1 y_Lab_isSame [.ref (adr X 4), .int (nI a), .int (nI b), .int (nI n)] c (ciP N) := by
  refine g_Lab_isSame (I3 := fun k x1 x2 x3 x4 c' => c' = c ∧ x1 = nI a ∧ x2 = nI b ∧ x3 = nI n ∧ ∃ i, x4 = nI i ∧ i ≤ n ∧ k + i = n ∧ ∀ j, j < i → tA P (a + j) = tA P (b + j)) F ?_ ?_
  · exact ⟨n, rfl, rfl, rfl, rfl, 0, rfl, by omega, by omega, fun j hj => absurd hj (by omega)⟩
  · rintro k x1 x2 x3 x4 c' ⟨rfl, rfl, rfl, rfl, i, rfl, hi, hk, hall⟩
    unfold w_Lab_isSame_3
    simp (discharger := omega) only [nI_leI, nI_add, lit_one]
    refine ⟨fun c1 => ciP.i (h1 (fun j hj => hall j (by omega))) rfl, fun c1 => q_Row_at F isR12 (q_Row_at F isR12 ?_)⟩
    rw [hP]
    refine ⟨fun c2 => ⟨k - 1, by omega, by trivial, by trivial, by trivial, by trivial, i + 1, rfl, by omega, by omega, fun j hj => ?_⟩, fun c2 => ciP.i (h0 (fun q => c2 (q i (by omega)))) rfl⟩
    by_cases e : j = i
    · subst e; exact c2
    · exact hall j (by omega)
theorem q_Lab_withLabelAt (F : cF X a0) {L : List Int32} (hD : DsC c D) (hP : vr c.1 12 = flatD D ++ L) (hb : (flatD D ++ L).length ≤ 20000) (h0 : (∀ k, k < D.length → (dA D k).1 ≠ L) → N (-1) c) (h1 : ∀ k, k < D.length → (dA D k).1 = L → (∀ j, j < k → (dA D j).1 ≠ L) → N (nI k) c) : cE X 2 y_Lab_withLabelAt [.ref (adr X 4), .int (nI (flatD D).length)] c (ciP N) := by
  have hb5 := hD.2
  rw [List.length_append] at hb
  refine g_Lab_withLabelAt (I12 := fun n x1 x2 x3 c' => c' = c ∧ x1 = nI (flatD D).length ∧ x2 = nI L.length ∧ ∃ k, x3 = nI k ∧ k ≤ D.length ∧ n + k = D.length ∧ ∀ j, j < k → (dA D j).1 ≠ L) F ?_ ?_
  · unfold w_Lab_withLabelAt_0
    refine q_Row_size F isR12 ⟨D.length, rfl, rfl, ?_, 0, rfl, by omega, by omega, fun j hj => absurd hj (by omega)⟩
    rw [hP, List.length_append, pk_sub (by omega)]
    congr 1
    omega
  · rintro n x1 x2 x3 c' ⟨rfl, rfl, rfl, k, rfl, hk, hn, hall⟩
    unfold w_Lab_withLabelAt_12
    refine q_Lab_size F hD ?_
    simp (discharger := omega) only [nI_leI]
    refine ⟨fun c1 => ciP.i (h0 (fun j hj => hall j (by omega))) rfl, fun c1 => ?_⟩
    have hlt : k < D.length := by omega
    obtain ⟨f1, _, _, f4⟩ := flatD_at D L k hlt (by rw [List.length_append]; omega)
    have hsz : (dA D k).1.length ≤ dSz (dA D k) := by unfold dSz; omega
    have hnext : (dA D k).1 ≠ L → w_Lab_withLabelAt_54 X (nI (flatD D).length) (nI L.length) (nI k) (nI (preD D k)) c' (ciP N) (fun x1 x2 x3 m => ∃ j, j < n ∧ m = c' ∧ x1 = nI (flatD D).length ∧ x2 = nI L.length ∧ ∃ k, x3 = nI k ∧ k ≤ D.length ∧ j + k = D.length ∧ ∀ j, j < k → (dA D j).1 ≠ L) := by
      intro hne
      refine ⟨n - 1, by omega, rfl, rfl, rfl, k + 1, nI_1 k, by omega, by omega, fun j hj => ?_⟩
      by_cases e : j = k
      · subst e; exact hne
      · exact hall j (by omega)
    refine q_Lab_partFrom (w := 0) F hD hlt (by decide) (q_Lab_partTo (w := 0) F hD hlt (by decide) ?_)
    have e1 : prtF D k 0 = preD D k := rfl
    have e2 : prt (dA D k) 0 = (dA D k).1 := rfl
    rw [e1, e2, pk_sub (by omega), show preD D k + (dA D k).1.length - preD D k = (dA D k).1.length by omega]
    simp (discharger := omega) only [nI_eq]
    refine ⟨fun c2 => q_Lab_isSame F hP (by omega) (by omega) (fun q => ⟨fun z => absurd z (by decide), fun _ => ciP.i (h1 k hlt ?_ hall) rfl⟩) (fun q => ⟨fun _ => hnext (fun z => q (fun i hi => ?_)), fun z => absurd rfl z⟩), fun c2 => hnext (fun z => c2 (by rw [z]))⟩
    · refine list_ext c2 (by omega) (fun j hj => ?_)
      rw [← f1 j hj, q j (by omega), tA_right (by omega)]
    · rw [f1 i (by omega), tA_right (by omega), z]
/-- one more definition, unless its label is there -/
def adD (D : DL) (d : List Int32 × List Int32 × List Int32) : DL := if ∃ k, k < D.length ∧ (dA D k).1 = d.1 then D else D ++ [d]
theorem endsD_app (D : DL) (d : List Int32 × List Int32 × List Int32) : ∀ n, endsD n (D ++ [d]) = endsD n D ++ [nI (n + preD D D.length + d.1.length), nI (n + preD D D.length + d.1.length + d.2.1.length), nI (n + preD D D.length + dSz d)] := by
  induction D with
  | nil => intro n; rfl
  | cons e r ih =>
    intro n
    show nI (n + e.1.length) :: nI (n + e.1.length + e.2.1.length) :: nI (n + dSz e) :: endsD (n + dSz e) (r ++ [d]) = _
    rw [ih]
    show _ = (nI (n + e.1.length) :: nI (n + e.1.length + e.2.1.length) :: nI (n + dSz e) :: endsD (n + dSz e) r) ++ _
    have : preD (e :: r) (e :: r).length = dSz e + preD r r.length := rfl
    rw [this]
    simp only [List.cons_append, List.cons.injEq, true_and]
    congr 2
    · congr 1; omega
    · congr 1
      · congr 1; omega
      · congr 2; omega
theorem flatD_app (D : DL) (d : List Int32 × List Int32 × List Int32) : flatD (D ++ [d]) = flatD D ++ (d.1 ++ d.2.1 ++ d.2.2) := by
  induction D with
  | nil => show d.1 ++ d.2.1 ++ d.2.2 ++ [] = [] ++ _; simp
  | cons e r ih =>
    show e.1 ++ e.2.1 ++ e.2.2 ++ flatD (r ++ [d]) = e.1 ++ e.2.1 ++ e.2.2 ++ flatD r ++ _
    rw [ih]
    simp
/-- rows 12 and 13 are new; told may be -/
def KpR (c c' : CS) (D : DL) : Prop := ∃ x, c' = cI (vR (vR c.1 12 (flatD D)) 13 (endsD 0 D), c.2) 49 x
theorem q_Lab_keep (F : cF X a0) (hB : BNok X) {T : List Int32} {f k tf tt sf st : Nat} (hT : vr c.1 10 = T) (hl : T.length ≤ 12010) (hD : DsC c D) (hDl : D.length ≤ 4000) (hP : vr c.1 12 = flatD D) (h43 : vi c.1 43 = nI (f + 1)) (h44 : vi c.1 44 = nI k) (h45 : vi c.1 45 = nI tf) (h46 : vi c.1 46 = nI tt) (h47 : (vi c.1 47 = nI sf ∧ vi c.1 48 = nI st) ∨ (sf = st ∧ vi c.1 48 = vi c.1 47)) (hbd : f < k ∧ k ≤ T.length ∧ tf ≤ tt ∧ tt ≤ T.length ∧ sf ≤ st ∧ st ≤ T.length) (hsz : (flatD D).length + (k - f) + (tt - tf) + (st - sf) < 16000) (h : ∀ c', KpR c c' (adD D (nrm (sl T (f + 1) k) false false, uneF T tt tf, uneF T st sf)) → M c') : cE X 6 y_Lab_keep [.ref (adr X 4)] c (cvP M) := by
  have hnl := nrm_len (sl T (f + 1) k) false false
  rw [sl_len (by omega)] at hnl
  simp at hnl
  have hul := uneF_len T tt tf
  have hus := uneF_len T st sf
  generalize hLE : nrm (sl T (f + 1) k) false false = L at *
  refine g_Lab_keep F ?_
  unfold w_Lab_keep_0
  refine q_Row_size F isR12 ?_
  rw [h43, h44, hP]
  refine q_Lab_addNormal F isR10 (by decide) hT hP (by omega) (by omega) (by omega) (by omega) ?_
  rw [hLE]
  have hDs : DsC (vR c.1 12 (flatD D ++ L), c.2) D := ⟨(vr_ne (by decide)).trans hD.1, hD.2⟩
  have hP1 : vr (vR c.1 12 (flatD D ++ L), c.2).1 12 = flatD D ++ L := vr_at _ _ _
  have hself : ∀ (v : VS) (x : Nat × Nat), True := fun _ _ => trivial
  refine q_Lab_withLabelAt F hDs hP1 (by rw [List.length_append]; omega) (fun q => ⟨fun _ => ?_, fun z => absurd rfl z⟩) (fun j hj q1 q2 => ⟨fun z => absurd z (nI_nm1 (by omega)), fun _ => ?_⟩)
  rotate_left
  · -- the label is there
    refine q_Row_cut12 F ⟨rfl, h _ ⟨vi c.1 49, ?_⟩⟩
    have hd : adD D (L, uneF T tt tf, uneF T st sf) = D := by unfold adD; exact if_pos ⟨j, hj, q1⟩
    rw [hd, hP1]
    have hcut : rowCut (flatD D ++ L) (nI (flatD D).length) = flatD D := by
      unfold rowCut
      rw [if_neg (nI_pos (by omega)), nI_clamp (by omega)]
      simp
    rw [hcut]
    show (vR (vR c.1 12 (flatD D ++ L)) 12 (flatD D), c.2) = _
    rw [vR_vR, ← hP, vR_self, ← hD.1, vR_self]
    exact (cI_self c 49).symm
  · have hd : adD D (L, uneF T tt tf, uneF T st sf) = D ++ [(L, uneF T tt tf, uneF T st sf)] := by unfold adD; exact if_neg (fun z => by obtain ⟨j, hj, e⟩ := z; exact q j hj e)
    have hpre : (flatD D).length = preD D D.length := flatD_len D
    -- the states on the way
    refine q_Row_size F isR12 ?_
    rw [hP1]
    have hE1 : vr (vR c.1 12 (flatD D ++ L), c.2).1 13 = endsD 0 D := hDs.1
    have hel := endsD_len D 0
    refine q_Row_add13 F (by rw [hE1, hel]; omega) ?_
    rw [hE1]
    generalize hE2 : endsD 0 D ++ [nI (flatD D ++ L).length] = E2
    have hE2l : E2.length = 3 * D.length + 1 := by rw [← hE2, List.length_append, hel]; rfl
    have t45 : vi (vR (vR c.1 12 (flatD D ++ L)) 13 E2, c.2).1 45 = nI tf := h45
    have t46 : vi (vR (vR c.1 12 (flatD D ++ L)) 13 E2, c.2).1 46 = nI tt := h46
    have hT2 : vr (vR (vR c.1 12 (flatD D ++ L)) 13 E2, c.2).1 10 = T := hT
    have hP2 : vr (vR (vR c.1 12 (flatD D ++ L)) 13 E2, c.2).1 12 = flatD D ++ L := by
      show vr (vR (vR c.1 12 (flatD D ++ L)) 13 E2) 12 = _
      rw [vr_ne (by decide), vr_at]
    show cE X 5 y_Lab_addUnescaped [.ref (adr X 4), .int (vi (vR (vR c.1 12 (flatD D ++ L)) 13 E2, c.2).1 45), .int (vi (vR (vR c.1 12 (flatD D ++ L)) 13 E2, c.2).1 46)] (vR (vR c.1 12 (flatD D ++ L)) 13 E2, c.2) _
    rw [t45, t46]
    refine q_Lab_addUnescaped F hB hT2 hP2 (by omega) (by omega) (by omega) (by rw [List.length_append]; omega) (fun c3 hR3 => ?_)
    refine q_Row_size F isR12 ?_
    rw [hR3.p]
    have hE3 : vr c3.1 13 = E2 := by
      rw [hR3.r (by decide)]
      show vr (vR (vR c.1 12 (flatD D ++ L)) 13 E2) 13 = _
      rw [vr_at]
    refine q_Row_add13 F (by rw [hE3, hE2l]; omega) ?_
    rw [hE3]
    generalize hE4 : E2 ++ [nI (flatD D ++ L ++ uneF T tt tf).length] = E4
    have hE4l : E4.length = 3 * D.length + 2 := by rw [← hE4, List.length_append, hE2l]; rfl
    obtain ⟨x3, hx3⟩ := hR3
    have hc4 : ((vR c3.1 13 E4, c3.2) : CS) = cI (vR (vR c.1 12 (flatD D ++ L ++ uneF T tt tf)) 13 E4, c.2) 49 x3 := by
      rw [hx3]
      show (vR (vI (vR (vR (vR c.1 12 (flatD D ++ L)) 13 E2) 12 (flatD D ++ L ++ uneF T tt tf)) 49 x3) 13 E4, c.2) = (vI (vR (vR c.1 12 (flatD D ++ L ++ uneF T tt tf)) 13 E4) 49 x3, c.2)
      congr 1
      unfold vR vI
      simp only [Prod.mk.injEq, true_and, and_true]
      funext j
      by_cases e1 : j = 13
      · simp [e1]
      · by_cases e2 : j = 12
        · simp [e2]
        · simp [e1, e2]
    rw [hc4]
    generalize hc4' : cI (vR (vR c.1 12 (flatD D ++ L ++ uneF T tt tf)) 13 E4, c.2) 49 x3 = c4
    have i4 : ∀ j, j ≠ 49 → vi c4.1 j = vi c.1 j := fun j hj => by rw [← hc4', cI_ne hj]; rfl
    have hT4 : vr c4.1 10 = T := by rw [← hc4']; exact hT
    have hP4 : vr c4.1 12 = flatD D ++ L ++ uneF T tt tf := by
      rw [← hc4']
      show vr (vR (vR c.1 12 _) 13 E4) 12 = _
      rw [vr_ne (by decide), vr_at]
    have hE4' : vr c4.1 13 = E4 := by
      rw [← hc4']
      show vr (vR (vR c.1 12 _) 13 E4) 13 = _
      rw [vr_at]
    have hfin : ∀ c5, UnR c4 (flatD D ++ L ++ uneF T tt tf) (uneF T st sf) c5 → cE X 0 y_Row_size [.ref (adr X 12)] c5 (ciP fun r10 m10 => cE X 2 y_Row_add [.ref (adr X 13), .int r10] m10 (cvP fun m11 => (cvP M) none m11)) := by
      intro c5 hR5
      refine q_Row_size F isR12 ?_
      rw [hR5.p]
      have hE5 : vr c5.1 13 = E4 := by rw [hR5.r (by decide)]; exact hE4'
      refine q_Row_add13 F (by rw [hE5, hE4l]; omega) ⟨rfl, h _ ?_⟩
      rw [hE5]
      obtain ⟨x5, hx5⟩ := hR5
      refine ⟨x5, ?_⟩
      rw [hx5, ← hc4', hd, flatD_app, endsD_app]
      have hEE : E4 ++ [nI (flatD D ++ L ++ uneF T tt tf ++ uneF T st sf).length] = endsD 0 D ++ [nI (0 + preD D D.length + L.length), nI (0 + preD D D.length + L.length + (uneF T tt tf).length), nI (0 + preD D D.length + dSz (L, uneF T tt tf, uneF T st sf))] := by
        rw [← hE4, ← hE2]
        simp only [List.append_assoc, List.length_append, List.cons_append, List.nil_append]
        congr 1
        rw [← hpre]
        simp [dSz, Nat.add_assoc]
      rw [hEE]
      show (vR (vI (vR (vI (vR (vR c.1 12 (flatD D ++ L ++ uneF T tt tf)) 13 E4) 49 x3) 12 (flatD D ++ L ++ uneF T tt tf ++ uneF T st sf)) 49 x5) 13 _, c.2) = (vI (vR (vR c.1 12 (flatD D ++ (L ++ uneF T tt tf ++ uneF T st sf))) 13 _) 49 x5, c.2)
      congr 1
      simp only [← List.append_assoc]
      unfold vR vI
      simp only [Prod.mk.injEq, true_and, and_true]
      refine ⟨?_, ?_⟩
      · funext j
        by_cases e1 : j = 49 <;> simp [e1]
      · funext j
        by_cases e1 : j = 13
        · simp [e1]
        · by_cases e2 : j = 12
          · simp [e2]
          · simp [e1, e2]
    rcases h47 with ⟨g47, g48⟩ | ⟨g0, g48⟩
    · rw [i4 47 (by decide), i4 48 (by decide), g47, g48]
      exact q_Lab_addUnescaped F hB hT4 hP4 (by omega) (by omega) (by omega) (by simp only [List.length_append]; omega) hfin
    · rw [i4 47 (by decide), i4 48 (by decide), g48]
      refine g_Lab_addUnescaped (I2 := fun n x1 x2 x3 c' => x2 = x3 ∧ c' = c4) F ⟨0, rfl, rfl⟩ ?_
      rintro n x1 x2 x3 c' ⟨rfl, rfl⟩
      unfold w_Lab_addUnescaped_2
      refine ⟨fun _ => ⟨rfl, hfin _ ⟨vi c'.1 49, ?_⟩⟩, fun z => absurd (Int32.le_refl _) z⟩
      rw [uneF_end (T := T) (t := st) (k := sf) (by omega), List.append_nil, ← hP4, vR_self]
      exact (cI_self c' 49).symm
end CLDLS2
