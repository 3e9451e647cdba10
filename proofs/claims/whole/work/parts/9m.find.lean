/-! find -/
theorem rowCut_app (a b : List Int32) (h : a.length < 2 ^ 31) : rowCut (a ++ b) (nI a.length) = a := by
  unfold rowCut
  rw [if_neg (nI_lt0 h), nI_clamp h]
  simp
/-- the first with this label -/
def FdR (D : DL) (L : List Int32) (R : Int32) : Prop := (R = -1 ∧ ∀ k, k < D.length → (dA D k).1 ≠ L) ∨ ∃ k, R = nI k ∧ k < D.length ∧ (dA D k).1 = L ∧ ∀ j, j < k → (dA D j).1 ≠ L
theorem FdR.ex (D : DL) (L : List Int32) : ∀ n, n ≤ D.length → (∀ k, k < n → (dA D k).1 ≠ L) ∨ ∃ k, k < n ∧ (dA D k).1 = L ∧ ∀ j, j < k → (dA D j).1 ≠ L := by
  intro n
  induction n with
  | zero => intro _; exact Or.inl (fun k hk => absurd hk (Nat.not_lt_zero _))
  | succ n ih =>
    intro hn
    rcases ih (by omega) with h | ⟨k, h1, h2, h3⟩
    · by_cases e : (dA D n).1 = L
      · exact Or.inr ⟨n, by omega, e, h⟩
      · left
        intro k hk
        by_cases q : k = n
        · rw [q]; exact e
        · exact h k (by omega)
    · exact Or.inr ⟨k, by omega, h2, h3⟩
theorem FdR.get (D : DL) (L : List Int32) : ∃ R, FdR D L R := by
  rcases FdR.ex D L D.length (Nat.le_refl _) with h | ⟨k, h1, h2, h3⟩
  · exact ⟨-1, Or.inl ⟨rfl, h⟩⟩
  · exact ⟨nI k, Or.inr ⟨k, rfl, h1, h2, h3⟩⟩
theorem FdR.un {D : DL} {L : List Int32} {R : Int32} (h : FdR D L R) : ((∀ k, k < D.length → (dA D k).1 ≠ L) → R = -1) ∧ (∀ k, k < D.length → (dA D k).1 = L → (∀ j, j < k → (dA D j).1 ≠ L) → R = nI k) := by
  rcases h with ⟨h1, h2⟩ | ⟨k, h1, h2, h3, h4⟩
  · exact ⟨fun _ => h1, fun k q1 q2 _ => absurd q2 (h2 k q1)⟩
  · refine ⟨fun q => absurd h3 (q k h2), fun k' q1 q2 q3 => ?_⟩
    have : k' = k := by
      rcases Nat.lt_trichotomy k k' with z | z | z
      · exact absurd h3 (q3 k z)
      · exact z.symm
      · exact absurd q2 (h4 k' z)
    rw [this]
    exact h1
section FIND
variable {X : CX} {Y : MX} {a0 a1 : Array Value} {c : CS} {m : MS}
/-- the class -/
theorem q_find (F : cF X a0) (h : REL c m) {D : DL} {P : Nat} (hD : DfD c m D P) {R : Int32} (hR : FdR D (nrm (vr c.1 1) false false) R) : cE X 5 y_MB_find [.ref (adr X 0)] c (ciP fun r c' => r = R ∧ c' = c) := by
  obtain ⟨d1, d2, d3, d4, d5, d6⟩ := hD
  have ht := h.1.2.1
  have hnl := nrm_len (vr c.1 1) false false
  rw [if_neg (by decide)] at hnl
  refine g_MB_find F ?_
  unfold w_MB_find_0
  refine q_Row_size F (Or.inl rfl) (g_Lab_withLabel F ?_)
  unfold w_Lab_withLabel_0
  refine q_Row_size F isR12 ?_
  refine q_Lab_addNormal (f := 0) (t := (vr c.1 1).length) (S := vr c.1 1) (P := flatD D) F (Or.inl rfl) (by decide) rfl d1 (Nat.zero_le _) (Nat.le_refl _) (by omega) (by omega) ?_
  rw [sl_all, d1]
  have hcut : ((vR (vR c.1 12 (flatD D ++ nrm (vr c.1 1) false false)) 12 (rowCut (vr (vR c.1 12 (flatD D ++ nrm (vr c.1 1) false false)) 12) (nI (flatD D).length)), c.2) : CS) = c := by
    rw [vr_at, vR_vR, rowCut_app _ _ (by omega), ← d1, vR_self]
  have hfin : ∀ y, y = R → cE X 0 y_Row_cut [.ref (adr X 12), .int (nI (flatD D).length)] (vR c.1 12 (flatD D ++ nrm (vr c.1 1) false false), c.2) (cvP fun m4 => (ciP fun r2 m2 => (ciP fun r c' => r = R ∧ c' = c) (some (.int r2)) m2) (some (.int y)) m4) := by
    intro y hy
    refine q_Row_cut12 F ?_
    refine ciP.i (ciP.i ⟨hy, ?_⟩ rfl) rfl
    exact hcut
  refine q_Lab_withLabelAt (D := D) (L := nrm (vr c.1 1) false false) F ⟨d2, by omega⟩ (vr_at _ _ _) (by rw [List.length_append]; omega) (fun z => hfin _ (hR.un.1 z).symm) (fun k z1 z2 z3 => hfin _ (hR.un.2 k z1 z2 z3).symm)
/-- what find leaves in the model -/
def FrFd (m m' : MS) (P : Nat) : Prop := (∀ k, k ≠ 0 → m'.1 k = m.1 k) ∧ (∀ k i, k ≠ 7 → m'.2 k i = m.2 k i) ∧ ∀ i, i < P → m'.2 7 i = m.2 7 i
theorem SLc.fd {T : List Int32} {m m' : MS} {P : Nat} {x y p q : Int32} (h : SLc T m P x y p q) (hF : FrFd m m' P) : SLc T m' P x y p q := h.keep (fun _ _ => rfl) (Nat.le_refl _) (fun i hi => hF.2.2 i hi) (Nat.le_refl _)
theorem REL.find {m' : MS} (h : REL c m) {P : Nat} (hP : m.1 4 = 1 → m.1 10 = nI P ∧ P ≤ 24020) (hF : FrFd m m' P) : REL c m' := by
  obtain ⟨⟨t1, t2, t3, t4⟩, h2, h3, h4, h5⟩ := h
  refine ⟨⟨(hF.1 3 (by decide)).trans t1, t2, fun k hk => by rw [hF.2.1 1 k (by decide)]; exact t3 k hk, fun k hk => by rw [hF.2.1 2 k (by decide)]; exact t4 k hk⟩, ⟨fun k hk => by rw [hF.2.1 52 k (by decide), hF.2.1 53 k (by decide)]; exact h2.1 k hk, h2.2⟩, h3, by rw [hF.1 5 (by decide)]; exact h4, ?_⟩
  rcases h5 with z | ⟨y1, y2, D, μ, P', ⟨q1, q2, q3, q4⟩, q5, q6, q7, q8, q9, q10, q11, q12, q13⟩
  · left
    rw [hF.1 4 (by decide)]
    exact z
  · right
    have hPe : P' = P := (nI_eq (by omega) (by have := (hP y1).2; omega)).mp (q13.symm.trans (hP y1).1)
    subst hPe
    refine ⟨by rw [hF.1 4 (by decide)]; exact y1, by rw [hF.1 6 (by decide)]; exact y2, D, μ, P', ⟨q1, q2, q3, q4⟩, fun i hi => by rw [hF.2.1 37 _ (by decide), hF.2.1 38 _ (by decide)]; exact q5 i hi, by rw [hF.1 39 (by decide)]; exact q6, fun i hi => ?_, q8.same (hF.1 40 (by decide)) (fun j k z _ _ => hF.2.1 j k (by omega)) (fun i hi => hF.2.2 i hi) (Nat.le_refl _), q9, q10, q11, q12, by rw [hF.1 10 (by decide)]; exact q13⟩
    obtain ⟨b, hI, hT⟩ := q7 i hi
    refine ⟨?_, ?_, ?_⟩
    · unfold FB at b ⊢
      rw [hF.2.1 13 _ (by decide), hF.2.1 14 _ (by decide), hF.2.1 15 _ (by decide), hF.2.1 16 _ (by decide), hF.2.1 17 _ (by decide), hF.2.1 22 _ (by decide), hF.2.1 24 _ (by decide), hF.2.1 27 _ (by decide)]
      exact b
    · unfold IX at hI ⊢
      rw [hF.2.1 20 _ (by decide), hF.2.1 21 _ (by decide)]
      exact ⟨fun z => (hI.1 z).fd hF, hI.2⟩
    · unfold TX at hT ⊢
      rw [hF.2.1 18 _ (by decide), hF.2.1 19 _ (by decide)]
      exact ⟨fun z => (hT.1 z).fd hF, hT.2⟩
theorem d_find (G : mF Y a1) (h : REL c m) {D : DL} {P : Nat} (hD : DfD c m D P) {R : Int32} (hR : FdR D (nrm (vr c.1 1) false false) R) : mE Y 2 y_Mo_find [.ref (mo Y)] m (iP fun r m' => r = R ∧ REL c m') := by
  have hrel := h
  obtain ⟨d1, d2, d3, d4, d5, d6⟩ := hD
  obtain ⟨⟨t1, t2, t3, t4⟩, _⟩ := h
  have hnl := nrm_len (vr c.1 1) false false
  rw [if_neg (by decide)] at hnl
  generalize hts : vr c.1 1 = ts at *
  generalize hL : nrm ts false false = L at *
  generalize hm0 : mI m 0 0 = n0
  have n1 : ∀ k, k ≠ 0 → n0.1 k = m.1 k := fun k hk => by rw [← hm0]; exact mI_ne hk
  have n2 : n0.2 = m.2 := by rw [← hm0]; rfl
  rcases d6 with ⟨y1, y2⟩ | ⟨y1, y2, y3⟩
  · refine g_Mo_find (I21 := fun _ _ _ _ => False) (I75 := fun _ _ _ _ _ _ _ => False) G ?_ (fun _ _ _ _ _ _ _ hf => hf.elim) (fun _ _ _ _ hf => hf.elim)
    unfold w_Mo_find_0
    intro m1 e1
    rw [e1, hm0, n1 4 (by decide), y1]
    refine ⟨fun _ => iP.i ⟨?_, ?_⟩ rfl, fun z => absurd rfl z⟩
    · exact (hR.un.1 (fun k hk => by rw [y2] at hk; exact absurd hk (Nat.not_lt_zero _))).symm
    · rw [← hm0]
      exact hrel.z 0
  · have hDn : D.length ≤ 600 := by omega
    refine g_Mo_find (I21 := fun j x1 x2 m' => ∃ k, x1 = nI P ∧ x2 = nI k ∧ j + k = ts.length ∧ m' = extF n0 P (ts.take k)) (I75 := fun j x1 x2 x3 x4 x5 m' => x1 = nI P ∧ x2 = nI (P + ts.length) ∧ x3 = nI L.length ∧ m' = extF (extF n0 P ts) (P + ts.length) L ∧ x5 = nI j - 1 ∧ j ≤ D.length ∧ ((x4 = -1 ∧ ∀ k, j ≤ k → k < D.length → (dA D k).1 ≠ L) ∨ ∃ k, j ≤ k ∧ k < D.length ∧ x4 = nI k ∧ (dA D k).1 = L ∧ ∀ i, j ≤ i → i < k → (dA D i).1 ≠ L)) G ?_ ?_ ?_
    · unfold w_Mo_find_0
      intro m1 e1
      rw [e1, hm0, n1 4 (by decide), y1, n1 10 (by decide), y3]
      refine ⟨fun z => absurd z (by decide), fun _ => ⟨ts.length, 0, rfl, rfl, by omega, ?_⟩⟩
      rw [List.take_zero, extF_nil (by rw [n1 10 (by decide)]; exact y3)]
    · -- the labels
      rintro j x1 x2 x3 x4 x5 m' ⟨rfl, rfl, rfl, hm', hx5, hj, hx4⟩
      have f42 : ∀ k, m'.2 42 k = m.2 42 k := fun k => by rw [hm', extF_k (by decide), extF_k (by decide), n2]
      have f41 : ∀ k, m'.2 41 k = m.2 41 k := fun k => by rw [hm', extF_k (by decide), extF_k (by decide), n2]
      unfold w_Mo_find_75 w_Mo_find_112 w_Mo_find_114
      cases j with
      | zero =>
        rw [hx5]
        refine ⟨fun _ m1 e1 => iP.i ⟨?_, ?_⟩ rfl, fun z => absurd (by decide) z⟩
        · rcases hx4 with ⟨q1, q2⟩ | ⟨k, q1, q2, q3, q4, q5⟩
          · rw [q1]
            exact (hR.un.1 (fun k hk => q2 k (Nat.zero_le _) hk)).symm
          · rw [q3]
            exact (hR.un.2 k q2 q4 (fun i hi => q5 i (Nat.zero_le _) hi)).symm
        · refine hrel.find (P := P) (fun _ => ⟨y3, d5⟩) ⟨fun k hk => ?_, fun k i hk => ?_, fun i hi => ?_⟩
          · rw [e1]
            by_cases e : k = 10
            · rw [e, mI_at]; exact y3.symm
            · rw [mI_ne e, hm', extF_i e, extF_i e, n1 k hk]
          · rw [e1]
            show m'.2 k i = _
            rw [hm', extF_k hk, extF_k hk, n2]
          · rw [e1]
            show m'.2 7 i = _
            rw [hm', extF_at (by omega), extF_at hi, n2]
      | succ j =>
        rw [nI_pred] at hx5
        rw [hx5, vp_nI (by omega), nI_clamp (by omega), f42, f41]
        obtain ⟨p, q, r, ⟨e1, e2, e3, e4⟩, _⟩ := y2.2 j (by omega)
        rw [e2, e1]
        have hlab : (dA D j).1.length ≤ 12010 := by
          have hf := flatD_at D [] j (by omega) (by rw [List.append_nil]; omega)
          rw [List.append_nil] at hf
          have := hf.2.2.2
          unfold dSz at this
          omega
        have hpool : PoolL m' p (dA D j).1 := fun i hi => by
          rw [hm', extF_at (by omega), extF_at (by omega), n2]
          exact e3 i hi
        have hpoolL : PoolL m' (P + ts.length) L := fun i hi => by
          rw [hm', extF_in hi]
        have hnext : ∀ y : Int32, ((y = -1 ∧ ∀ k, j ≤ k → k < D.length → (dA D k).1 ≠ L) ∨ ∃ k, j ≤ k ∧ k < D.length ∧ y = nI k ∧ (dA D k).1 = L ∧ ∀ i, j ≤ i → i < k → (dA D i).1 ≠ L) → ∃ j', j' < j + 1 ∧ (nI P = nI P ∧ nI (P + ts.length) = nI (P + ts.length) ∧ nI L.length = nI L.length ∧ m' = extF (extF n0 P ts) (P + ts.length) L ∧ nI j + (-1) = nI j' - 1 ∧ j' ≤ D.length ∧ ((y = -1 ∧ ∀ k, j' ≤ k → k < D.length → (dA D k).1 ≠ L) ∨ ∃ k, j' ≤ k ∧ k < D.length ∧ y = nI k ∧ (dA D k).1 = L ∧ ∀ i, j' ≤ i → i < k → (dA D i).1 ≠ L)) := by
          intro y hy
          exact ⟨j, by omega, rfl, rfl, rfl, hm', (Int32.sub_eq_add_neg _ _).symm, by omega, hy⟩
        have hno : (dA D j).1 ≠ L → ((x4 = -1 ∧ ∀ k, j ≤ k → k < D.length → (dA D k).1 ≠ L) ∨ ∃ k, j ≤ k ∧ k < D.length ∧ x4 = nI k ∧ (dA D k).1 = L ∧ ∀ i, j ≤ i → i < k → (dA D i).1 ≠ L) := by
          intro hne
          rcases hx4 with ⟨q1, q2⟩ | ⟨k, q1, q2, q3, q4, q5⟩
          · left
            refine ⟨q1, fun k z1 z2 => ?_⟩
            by_cases e : k = j
            · rw [e]; exact hne
            · exact q2 k (by omega) z2
          · right
            refine ⟨k, by omega, q2, q3, q4, fun i z1 z2 => ?_⟩
            by_cases e : i = j
            · rw [e]; exact hne
            · exact q5 i (by omega) z2
        refine ⟨fun z => absurd z (nI_lt0 (by omega)), fun _ => ⟨by omega, fun el => ⟨by omega, ?_⟩, fun el => hnext x4 (hno (fun e => el (by rw [e])))⟩⟩
        have el' : (dA D j).1.length = L.length := (nI_eq (by omega) (by omega)).mp el
        refine d_Mo_areAlike (A := (dA D j).1) (B := L) G hpool hpoolL el' (by omega) (by omega) (fun e => ⟨fun z => absurd z (by decide), fun _ => hnext (nI j) (Or.inr ⟨j, Nat.le_refl _, by omega, rfl, e, fun i z1 z2 => by omega⟩)⟩) (fun e => ⟨fun _ => hnext x4 (hno e), fun z => absurd rfl z⟩)
    · -- the tape
      rintro j x1 x2 m' ⟨k, rfl, rfl, hk, hm'⟩
      have f3 : m'.1 3 = nI ts.length := by rw [hm', extF_i (by decide), n1 3 (by decide)]; exact t1
      have f1 : ∀ i, m'.2 1 i = m.2 1 i := fun i => by rw [hm', extF_k (by decide), n2]
      have f10 : m'.1 10 = nI (P + (ts.take k).length) := by rw [hm', extF_10]
      have hlen : (ts.take k).length = k := by rw [List.length_take]; omega
      unfold w_Mo_find_21
      rw [f3, nI_leI (by omega) (by omega), f10, hlen, vp_nI (by omega), nI_clamp (by omega), f1]
      refine ⟨fun z => ?_, fun z => ⟨by omega, ?_⟩⟩
      · have ek : k = ts.length := by omega
        have em : m' = extF n0 P ts := by rw [hm', ek, List.take_length]
        rw [ek]
        refine d_Mo_normal (p := P) (P := P + ts.length) (L := ts) G (fun i hi => by rw [em, extF_in hi]) (by rw [f10, hlen, ek]) (Nat.le_refl _) (by omega) ?_
        rw [hL]
        refine ⟨D.length, rfl, rfl, rfl, by rw [em], ?_, Nat.le_refl _, Or.inl ⟨rfl, fun k z1 z2 => by omega⟩⟩
        show (extF m' (P + ts.length) L).1 40 - 1 = _
        rw [extF_i (by decide), em, extF_i (by decide), n1 40 (by decide), y2.1]
      · rw [hm']
        refine d_Mo_keep G (by rw [hlen]; omega) ⟨j - 1, by omega, k + 1, rfl, nI_1 k, by omega, ?_⟩
        rw [t3 k (by omega), rowAt_nI (by omega)]
        congr 1
        rw [List.take_succ]
        congr 1
        rw [List.getElem?_eq_getElem (by omega)]
        simp [show k < ts.length by omega]
theorem a_find (F : cF X a0) (G : mF Y a1) (h : REL c m) : ∃ R, cE X 5 y_MB_find [.ref (adr X 0)] c (ciP fun r c' => r = R ∧ c' = c) ∧ mE Y 2 y_Mo_find [.ref (mo Y)] m (iP fun r m' => r = R ∧ REL c m') := by
  obtain ⟨D, P, hD⟩ := h.df
  obtain ⟨R, hR⟩ := FdR.get D (nrm (vr c.1 1) false false)
  exact ⟨R, q_find F h hD hR, d_find G h hD hR⟩
end FIND
