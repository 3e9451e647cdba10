theorem lbF_ge {T : List Int32} {f k j : Nat} {sm : Bool} (h : lbF T f k sm = some j) : k ≤ j ∧ j < T.length ∧ (sm = false → k < j) := by
  induction k, sm using lbF.induct T f with
  | case1 k sm h1 h2 h3 => rw [lbF, if_pos h1, if_pos h2, if_pos h3] at h; cases h; exact ⟨Nat.le_refl _, h1, fun z => by rw [z] at h3; exact absurd h3.1 (by decide)⟩
  | case2 k sm h1 h2 h3 => rw [lbF, if_pos h1, if_pos h2, if_neg h3] at h; cases h
  | case3 k sm h1 h2 h3 => rw [lbF, if_pos h1, if_neg h2, if_pos h3] at h; cases h
  | case4 k sm h1 h2 h3 h4 ih => rw [lbF, if_pos h1, if_neg h2, if_neg h3, if_pos h4] at h; have := ih h; exact ⟨by omega, this.2.1, fun _ => by omega⟩
  | case5 k sm h1 h2 h3 h4 ih => rw [lbF, if_pos h1, if_neg h2, if_neg h3, if_neg h4] at h; have := ih h; exact ⟨by omega, this.2.1, fun _ => by omega⟩
  | case6 k sm h1 => rw [lbF, if_neg h1] at h; cases h
theorem sgF_ge (T : List Int32) (k dp : Nat) (hl : T.length ≤ 16000) (hk : k ≤ T.length) : k ≤ (sgF T k dp).1 ∧ (sgF T k dp).1 ≤ T.length := by
  induction k, dp using sgF.induct T with
  | case1 k dp h1 h2 => rw [sgF, if_pos h1, if_pos h2]; exact ⟨Nat.le_refl _, hk⟩
  | case2 k dp h1 h2 h3 => rw [sgF, if_pos h1, if_neg h2, if_pos h3]; exact ⟨Nat.le_refl _, hk⟩
  | case3 k dp h1 h2 h3 h4 ih =>
    rw [sgF, if_pos h1, if_neg h2, if_neg h3, if_pos h4]
    have hin : k + 1 < T.length := by
      apply Nat.lt_of_not_le
      intro q
      have := h4.2
      rw [tA_out (by omega) q] at this
      exact absurd this (by decide)
    have := ih (by omega)
    omega
  | case4 k dp h1 h2 h3 h4 ih => rw [sgF, if_pos h1, if_neg h2, if_neg h3, if_neg h4]; have := ih (by omega); simp only [dite_eq_ite] at this; omega
  | case5 k dp h1 => rw [sgF, if_neg h1]; exact ⟨Nat.le_refl _, hk⟩
theorem tlF_ge {T : List Int32} {c lst : Int32} {k j : Nat} (h : tlF T c lst k = some j) : k ≤ j ∧ j < T.length := by
  induction k using tlF.induct T c lst with
  | case1 k h1 h2 => rw [tlF, if_pos h1, if_pos h2] at h; cases h; omega
  | case2 k h1 h2 h3 => rw [tlF, if_pos h1, if_neg h2, if_pos h3] at h; cases h
  | case3 k h1 h2 h3 h4 ih => rw [tlF, if_pos h1, if_neg h2, if_neg h3, if_pos h4] at h; have := ih h; omega
  | case4 k h1 h2 h3 h4 ih => rw [tlF, if_pos h1, if_neg h2, if_neg h3, if_neg h4] at h; have := ih h; omega
  | case5 k h1 => rw [tlF, if_neg h1] at h; cases h
theorem lnF_le {T : List Int32} {k l : Nat} (hk : k ≤ T.length) (h : lnF T k = some l) : l ≤ T.length ∧ (l < T.length → tA T l = 10) := by
  induction k using lnF.induct T with
  | case1 k h1 h2 ih => rw [lnF, if_pos h1, if_pos h2] at h; exact ih (by omega) h
  | case2 k h1 h2 h3 => rw [lnF, if_pos h1, if_neg h2, if_pos h3] at h; cases h; exact ⟨hk, fun _ => h3⟩
  | case3 k h1 h2 h3 => rw [lnF, if_pos h1, if_neg h2, if_neg h3] at h; cases h
  | case4 k h1 => rw [lnF, if_neg h1] at h; cases h; exact ⟨hk, fun z => absurd z h1⟩
theorem tgE_bd {T : List Int32} {g tf tt b : Nat} (hl : T.length ≤ 16000) (hg : g ≤ T.length) (h : tgE T g = some (tf, tt, b)) : g ≤ tf ∧ tf ≤ tt ∧ tt ≤ b ∧ b ≤ T.length ∧ g < b ∧ (b = tt ∨ b = tt + 1) := by
  unfold tgE at h
  split at h
  · cases ha : agF T (g + 1) with
    | none => rw [ha] at h; cases h
    | some k =>
      rw [ha] at h
      cases h
      have := agF_ge ha
      omega
  · split at h
    · cases h
    · next q =>
      have := sgF_ge T g 0 hl hg
      simp only [Option.some.injEq, Prod.mk.injEq] at h
      obtain ⟨h1, h2, h3⟩ := h
      have hne : (sgF T g 0).1 ≠ g := fun z => q (Or.inl z)
      omega
theorem dfE_bd {T : List Int32} {f k tf tt sf st l : Nat} (hl : T.length ≤ 16000) (h : dfE T f = some (k, tf, tt, sf, st, l)) : (f + 2 ≤ k ∧ k + 2 ≤ tf ∧ tf ≤ tt ∧ tt ≤ l ∧ l ≤ T.length ∧ sf ≤ st ∧ st ≤ l ∧ (sf = st ∨ tt < sf) ∧ k + 3 ≤ l) ∧ (l < T.length → tA T l = 10) := by
  unfold dfE at h
  cases hb : lbE T f with
  | none => rw [hb] at h; cases h
  | some k' =>
    rw [hb] at h
    have hlb : f + 2 ≤ k' ∧ k' < T.length := by
      unfold lbE at hb
      split at hb
      · have := lbF_ge hb
        have h3 := this.2.2 rfl
        omega
      · cases hb
    simp only at h
    split at h
    · next hc =>
      have hk1 := tA_in (T := T) (by omega) hc (by decide)
      have g1 := gpF_ge T (k' + 2) false
      have g2 := gpF_le T (k' + 2) false (by omega)
      cases ht : tgE T (gpF T (k' + 2) false) with
      | none => rw [ht] at h; cases h
      | some r =>
        obtain ⟨tf', tt', b⟩ := r
        rw [ht] at h
        have hb2 := tgE_bd hl g2 ht
        have hdf : ∀ q, dfT T k' tf' tt' b = some q → q = (k, tf, tt, sf, st, l) → (f + 2 ≤ k ∧ k + 2 ≤ tf ∧ tf ≤ tt ∧ tt ≤ l ∧ l ≤ T.length ∧ sf ≤ st ∧ st ≤ l ∧ (sf = st ∨ tt < sf) ∧ k + 3 ≤ l) ∧ (l < T.length → tA T l = 10) := by
          intro q hq e
          unfold dfT at hq
          cases hln : lnF T b with
          | none => rw [hln] at hq; cases hq
          | some l' =>
            rw [hln] at hq
            simp only [Option.some.injEq] at hq
            rw [← hq] at e
            simp only [Prod.mk.injEq] at e
            obtain ⟨rfl, rfl, rfl, rfl, rfl, rfl⟩ := e
            have e1 := lnF_ge hln
            have e2 := lnF_le hb2.2.2.2.1 hln
            exact ⟨by omega, e2.2⟩
        replace h : dfS T k' tf' tt' b (gpF T b false) = some (k, tf, tt, sf, st, l) := h
        have g3 := gpF_ge T b false
        have g4 := gpF_le T b false hb2.2.2.2.1
        unfold dfS at h
        cases htl : (if b < gpF T b false then tlE T (gpF T b false) else none) with
        | none => rw [htl] at h; exact hdf _ h rfl
        | some e =>
          rw [htl] at h
          simp only at h
          have hbl : b < gpF T b false := by
            apply Nat.lt_of_not_le
            intro q
            rw [if_neg (by omega)] at htl
            cases htl
          rw [if_pos hbl] at htl
          have htg : gpF T b false + 1 ≤ e ∧ e < T.length := by
            unfold tlE at htl
            split at htl
            · exact tlF_ge htl
            · cases htl
          cases hln : lnF T (e + 1) with
          | none => rw [hln] at h; exact hdf _ h rfl
          | some l' =>
            rw [hln] at h
            simp only [Option.some.injEq, Prod.mk.injEq] at h
            obtain ⟨rfl, rfl, rfl, rfl, rfl, rfl⟩ := h
            have e1 := lnF_ge hln
            have e2 := lnF_le (by omega) hln
            exact ⟨by omega, e2.2⟩
    · cases h
def nxL (T : List Int32) (l : Nat) : Nat := if l < T.length then l + 1 else l
theorem nxL_bd {T : List Int32} {l : Nat} (h : l ≤ T.length) : l ≤ nxL T l ∧ nxL T l ≤ T.length := by unfold nxL; split <;> omega
/-- the definitions at the beginning of a paragraph's text are taken: what is left, what is kept -/
def tkD (T : List Int32) (f : Nat) (D : DL) : Nat × DL :=
  match dfE T f with
  | none => (f, D)
  | some (k, tf, tt, sf, st, l) => if h : f < nxL T l ∧ nxL T l ≤ T.length then tkD T (nxL T l) (adD D (nrm (sl T (f + 1) k) false false, uneF T tt tf, uneF T st sf)) else (f, D)
termination_by T.length - f
theorem tkD_none {T : List Int32} {f : Nat} {D : DL} (h : dfE T f = none) : tkD T f D = (f, D) := by rw [tkD, h]
theorem tkD_some {T : List Int32} {f k tf tt sf st l : Nat} {D : DL} (hl : T.length ≤ 16000) (h : dfE T f = some (k, tf, tt, sf, st, l)) : tkD T f D = tkD T (nxL T l) (adD D (nrm (sl T (f + 1) k) false false, uneF T tt tf, uneF T st sf)) := by
  have hb := (dfE_bd hl h).1
  have hn := nxL_bd (T := T) (l := l) (by omega)
  rw [tkD, h]
  exact dif_pos ⟨by omega, hn.2⟩
theorem adD_len (D : DL) (d : List Int32 × List Int32 × List Int32) : (adD D d).length ≤ D.length + 1 ∧ D.length ≤ (adD D d).length ∧ (flatD (adD D d)).length ≤ (flatD D).length + dSz d := by
  unfold adD
  split
  · exact ⟨by omega, by omega, by omega⟩
  · refine ⟨by simp, by simp, ?_⟩
    rw [flatD_app, List.length_append]
    unfold dSz
    simp only [List.length_append]
    omega
def trW (T : List Int32) (f : Nat) : Nat → Nat
  | 0 => 0
  | t + 1 => if f < t + 1 ∧ wh (tA T t) then trW T f t else t + 1
/-- rows 12 and 13 hold D, the last found definition's numbers may be new; all else stays -/
def SeR (c c' : CS) (D : DL) : Prop := c'.2 = c.2 ∧ (∀ k, ¬ (43 ≤ k ∧ k ≤ 49) → vi c'.1 k = vi c.1 k) ∧ vn c'.1 = vn c.1 ∧ (∀ κ, κ ≠ 12 → κ ≠ 13 → vr c'.1 κ = vr c.1 κ) ∧ vr c'.1 12 = flatD D ∧ vr c'.1 13 = endsD 0 D ∧ c'.1.2.2.2 = c.1.2.2.2
theorem SeR.lb {c c' c2 : CS} {D : DL} (h : SeR c c' D) (h2 : LbR c' c2) : SeR c c2 D := by
  obtain ⟨h1, h3, h4, h5, h6, h7, h8⟩ := h
  obtain ⟨g1, g2, g3⟩ := h2
  refine ⟨g1.trans h1, fun k hk => (g3 k hk).trans (h3 k hk), ?_, fun κ q1 q2 => ?_, ?_, ?_, ?_⟩
  · show c2.1.2.1 = _; rw [g2]; exact h4
  · show c2.1.2.2.1 κ = _; rw [g2]; exact h5 κ q1 q2
  · show c2.1.2.2.1 12 = _; rw [g2]; exact h6
  · show c2.1.2.2.1 13 = _; rw [g2]; exact h7
  · rw [g2]; exact h8
theorem SeR.kp {c c' c2 : CS} {D D2 : DL} (h : SeR c c' D) (h2 : KpR c' c2 D2) : SeR c c2 D2 := by
  obtain ⟨h1, h3, h4, h5, h6, h7, h8⟩ := h
  obtain ⟨x, rfl⟩ := h2
  refine ⟨h1, fun k hk => ?_, h4, fun κ q1 q2 => ?_, ?_, ?_, h8⟩
  · rw [cI_ne (by omega)]; exact h3 k hk
  · show vr (vR (vR c'.1 12 _) 13 _) κ = _
    rw [vr_ne q2, vr_ne q1]; exact h5 κ q1 q2
  · show vr (vR (vR c'.1 12 _) 13 _) 12 = _
    rw [vr_ne (by decide), vr_at]
  · show vr (vR (vR c'.1 12 _) 13 _) 13 = _
    rw [vr_at]
section CLSET
variable {X : CX} {a0 : Array Value} {c : CS} {D0 : DL} {N : Int32 → CS → Prop}
/-- the answer for the definition at f stands in x3 and in the numbers -/
def SnI (T : List Int32) (f : Nat) (x3 : Int32) (c' : CS) : Prop := (dfE T f = none ∧ x3 = -1) ∨ ∃ k tf tt sf st l, dfE T f = some (k, tf, tt, sf, st, l) ∧ x3 = nI (nxL T l) ∧ vi c'.1 43 = nI (f + 1) ∧ vi c'.1 44 = nI k ∧ vi c'.1 45 = nI tf ∧ vi c'.1 46 = nI tt ∧ ((vi c'.1 47 = nI sf ∧ vi c'.1 48 = nI st) ∨ (sf = st ∧ vi c'.1 48 = vi c'.1 47))
def S14 (c : CS) (T : List Int32) (f0 : Nat) (D0 : DL) (b n : Nat) (b1 : Nat) (x2 x3 x4 : Int32) (c' : CS) : Prop := b1 = b ∧ ∃ (f j : Nat) (D : DL), x2 = nI f ∧ x4 = nI j ∧ n + j = 5000 ∧ f0 + 5 * j ≤ f ∧ f ≤ T.length ∧ D.length ≤ D0.length + j ∧ (flatD D).length + f0 ≤ (flatD D0).length + f ∧ SeR c c' D ∧ tkD T f D = tkD T f0 D0 ∧ SnI T f x3 c'
theorem q_Lab_settle (F : cF X a0) (hB : BNok X) {T : List Int32} {i f0 : Nat} (hi : i < c.2.2) (hT : vr c.1 10 = T) (hl : T.length ≤ 12010) (hf : vb c.1 i 5 = nI f0) (hf0 : f0 ≤ T.length) (hP : vr c.1 12 = flatD D0) (hE : vr c.1 13 = endsD 0 D0) (hDl : 5 * D0.length ≤ f0) (hfl : (flatD D0).length ≤ f0) (h : ∀ c', SeR c c' (tkD T f0 D0).2 → N (bI ((tkD T f0 D0).1 < trW T (tkD T f0 D0).1 T.length)) (cB (cB c' i 5 (nI (tkD T f0 D0).1)) i 6 (nI (trW T (tkD T f0 D0).1 T.length) - nI (tkD T f0 D0).1))) : cE X 7 y_Lab_settle [.ref (adr X 4), .ref (c.2.1 i)] c (ciP N) := by
  have hbeh : ∀ (f : Nat) (D : DL) (c' : CS) (K : Int32 → CS → Prop), f ≤ T.length → SeR c c' D → (∀ x3 c2, SeR c c2 D → SnI T f x3 c2 → K x3 c2) → cE X 2 y_Lab_behindDefinition [.ref (adr X 4), .int (nI f)] c' (ciP K) := by
    intro f D c' K q1 hR hK
    refine q_Lab_behindDefinition F (by rw [hR.2.2.2.1 10 (by decide) (by decide)]; exact hT) (by omega) (by omega) (fun q c2 h2 => hK _ _ (hR.lb h2) (Or.inl ⟨q, rfl⟩)) (fun k tf tt sf st l q _ c2 h2 e43 e44 e45 e46 e47 => hK _ _ (hR.lb h2) (Or.inr ⟨k, tf, tt, sf, st, l, q, rfl, e43, e44, e45, e46, e47⟩))
  refine g_Lab_settle (I14 := fun n b1 x2 x3 x4 c' => S14 c T f0 D0 (c.2.1 i) n b1 x2 x3 x4 c') (I54 := fun n b1 x2 x3 x4 c' => b1 = c.2.1 i ∧ x2 = nI (tkD T f0 D0).1 ∧ (tkD T f0 D0).1 ≤ T.length ∧ SeR c c' (tkD T f0 D0).2 ∧ x4 = nI n ∧ n ≤ T.length ∧ (n < (tkD T f0 D0).1 → False) ∧ trW T (tkD T f0 D0).1 n = trW T (tkD T f0 D0).1 T.length) F ?_ ?_ ?_
  · refine ⟨i, ⟨hi, rfl⟩, ?_⟩
    rw [hf]
    have hR0 : SeR c c D0 := ⟨rfl, fun _ _ => rfl, rfl, fun _ _ _ => rfl, hP, hE, rfl⟩
    exact hbeh f0 D0 c _ hf0 hR0 (fun x3 c2 h2 h3 => ⟨5000, rfl, f0, 0, D0, rfl, rfl, rfl, by omega, hf0, by omega, by omega, h2, rfl, h3⟩)
  · rintro n b1 x2 x3 x4 c' ⟨rfl, rfl, hle, hR, rfl, hn, hge, e⟩
    generalize hf' : (tkD T f0 D0).1 = f' at *
    have hT' : vr c'.1 10 = T := by rw [hR.2.2.2.1 10 (by decide) (by decide)]; exact hT
    have h83 : trW T f' n = n → w_Lab_settle_83 X (c.2.1 i) (nI f') x3 (nI n) c' (ciP N) := by
      intro q
      rw [q] at e
      have hb' : ∀ c2 : CS, c2.2 = c.2 → isB c2 (c.2.1 i) i := fun c2 h2 => by unfold isB; rw [h2]; exact ⟨hi, rfl⟩
      refine ⟨i, hb' _ hR.1, fun m1 e1 => ⟨i, hb' _ (by rw [e1]; exact hR.1), fun m2 e2 => ?_⟩⟩
      have := h c' hR
      rw [← e] at this
      subst e2 e1
      simp (discharger := omega) only [nI_leI]
      refine ⟨fun c1 => ⟨mZ0, ciP.i this (bI_f (by omega)).symm⟩, fun c1 => ⟨mZ1, ciP.i this (bI_t (by omega)).symm⟩⟩
    unfold w_Lab_settle_54
    simp (discharger := omega) only [nI_leI]
    cases n with
    | zero => exact ⟨fun _ => h83 rfl, fun z => absurd (by omega) z⟩
    | succ n =>
      refine ⟨fun c1 => h83 ?_, fun c1 => ?_⟩
      · rw [trW, if_neg (fun z => by omega)]
      · rw [nI_pred]
        refine q_Row_at F isR10 ?_
        rw [hT']
        refine q_MB_isWhite F ⟨fun c2 => h83 ?_, fun c2 => ⟨n, by omega, by trivial, by trivial, hle, hR, pk_m1 n, by omega, fun z => by omega, ?_⟩⟩
        · rw [trW, if_neg (fun z => bI_0 c2 z.2)]
        · rw [← e, trW.eq_2, if_pos ⟨by omega, bI_n0 c2⟩]
  · rintro n b1 x2 x3 x4 c' ⟨rfl, f, j, D, rfl, rfl, hn, hfj, hfT, hDj, hfd, hR, e, hS⟩
    have h45 : dfE T f = none → w_Lab_settle_45 X (c.2.1 i) (nI f) x3 (nI j) c' (ciP N) (fun b1 x2 x3 x4 c' => ∃ n, b1 = c.2.1 i ∧ x2 = nI (tkD T f0 D0).1 ∧ (tkD T f0 D0).1 ≤ T.length ∧ SeR c c' (tkD T f0 D0).2 ∧ x4 = nI n ∧ n ≤ T.length ∧ (n < (tkD T f0 D0).1 → False) ∧ trW T (tkD T f0 D0).1 n = trW T (tkD T f0 D0).1 T.length) := by
      intro q
      rw [tkD_none q] at e
      rw [← e]
      have hT' : vr c'.1 10 = T := by rw [hR.2.2.2.1 10 (by decide) (by decide)]; exact hT
      refine q_Row_size F isR10 ⟨T.length, rfl, rfl, hfT, hR, by rw [hT'], Nat.le_refl _, fun z => by simp at z; omega, rfl⟩
    unfold w_Lab_settle_14
    refine ⟨fun c1 => ?_, fun c1 => ⟨fun c2 => h45 ?_, fun c2 => ?_⟩⟩
    · rw [show (3000 : Int32) = nI 3000 from rfl, nI_leI (by decide) (by omega)] at c1
      omega
    · rcases hS with hS | ⟨k, tf, tt, sf, st, l, q, hx, _⟩
      · exact hS.1
      · have hb := (dfE_bd (by omega) q).1
        have := nxL_bd (T := T) (l := l) (by omega)
        rw [hx] at c2
        exact absurd c2 (nI_nm1 (by omega))
    · rcases hS with hS | ⟨k, tf, tt, sf, st, l, q, hx, e43, e44, e45, e46, e47⟩
      · exact absurd hS.2 c2
      · have hb := (dfE_bd (by omega) q).1
        have hnx := nxL_bd (T := T) (l := l) (by omega)
        subst hx
        have hT' : vr c'.1 10 = T := by rw [hR.2.2.2.1 10 (by decide) (by decide)]; exact hT
        refine q_Lab_keep (D := D) (f := f) F hB hT' hl ⟨hR.2.2.2.2.2.1, by omega⟩ (by omega) hR.2.2.2.2.1 e43 e44 e45 e46 e47 (by omega) (by omega) (fun c2 h2 => ?_)
        have hR2 := hR.kp h2
        have hal := adD_len D (nrm (sl T (f + 1) k) false false, uneF T tt tf, uneF T st sf)
        have hnl := nrm_len (sl T (f + 1) k) false false
        rw [sl_len (by omega)] at hnl
        simp at hnl
        have hul := uneF_len T tt tf
        have hus := uneF_len T st sf
        have hdz : dSz (nrm (sl T (f + 1) k) false false, uneF T tt tf, uneF T st sf) = (nrm (sl T (f + 1) k) false false).length + (uneF T tt tf).length + (uneF T st sf).length := rfl
        refine hbeh (nxL T l) _ c2 _ hnx.2 hR2 (fun x3 c3 h3 h4 => ⟨n - 1, by omega, rfl, nxL T l, j + 1, _, rfl, nI_1 j, by omega, by omega, hnx.2, by omega, by omega, h3, ?_, h4⟩)
        rw [← e, tkD_some (by omega) q]
end CLSET
