/-- the pool holds T from f on, δ places further -/
def PlI (m : MS) (T : List Int32) (f δ : Nat) : Prop := (∀ k, f ≤ k → k < T.length → m.2 7 (k + δ) = tA T k) ∧ T.length + δ ≤ 47900 ∧ T.length ≤ 16000
section MOLBL
variable {X : MX} {a0 : Array Value} {m : MS} {T : List Int32} {f δ : Nat} {N : Int32 → MS → Prop}
theorem lit_one {a : Nat} : nI a + 1 = nI (a + 1) := nI_1 a
theorem sh1 (k δ : Nat) : nI (k + δ) + 1 = nI (k + 1 + δ) := by rw [nI_1]; congr 1; omega
theorem sh2 (k δ : Nat) : nI (k + δ) + 2 = nI (k + 2 + δ) := by rw [show (2 : Int32) = nI 2 from rfl, nI_add]; congr 1; omega
theorem d_Mo_isWhite (F : mF X a0) {x : Int32} (h : N (bI (wh x)) m) : mE X 0 y_Mo_isWhite [.int x] m (iP N) := by
  refine g_Mo_isWhite F ?_
  have h1 : wh x → w_Mo_isWhite_24 X x m (iP N) := fun q => ⟨mZ1, iP.i h (bI_t q).symm⟩
  have h0 : ¬ wh x → w_Mo_isWhite_29 X x 0 m (iP N) := fun q => ⟨mZ0, iP.i h (bI_f q).symm⟩
  unfold w_Mo_isWhite_0
  refine ⟨fun c1 => h1 (Or.inl c1), fun c1 => ⟨fun c2 => h1 (Or.inr (Or.inl c2)), fun c2 => ⟨fun c3 => h1 (Or.inr (Or.inr (Or.inl c3))), fun c3 => ⟨fun c4 => h1 (Or.inr (Or.inr (Or.inr c4))), fun c4 => h0 (fun q => ?_)⟩⟩⟩⟩
  rcases q with q | q | q | q
  · exact c1 q
  · exact c2 q
  · exact c3 q
  · exact c4 q
theorem d_Mo_isAscii (F : mF X a0) {x : Int32} (h : N (bI (pn x)) m) : mE X 0 y_Mo_isAscii [.int x] m (iP N) := by
  refine g_Mo_isAscii F ?_
  have h1 : pn x → w_Mo_isAscii_48 X x m (iP N) := fun q => ⟨mZ1, iP.i h (bI_t q).symm⟩
  have h0 : ¬ pn x → w_Mo_isAscii_52 X x m (iP N) := fun q => ⟨mZ0, iP.i h (bI_f q).symm⟩
  rw [pn_iff] at h1 h0
  have e36 : w_Mo_isAscii_36 X x m (iP N) ∨ ((33 ≤ x.toInt ∧ x.toInt ≤ 47) ∨ (58 ≤ x.toInt ∧ x.toInt ≤ 64) ∨ (91 ≤ x.toInt ∧ x.toInt ≤ 96)) := by
    by_cases q : ((33 ≤ x.toInt ∧ x.toInt ≤ 47) ∨ (58 ≤ x.toInt ∧ x.toInt ≤ 64) ∨ (91 ≤ x.toInt ∧ x.toInt ≤ 96))
    · exact Or.inr q
    · refine Or.inl ⟨fun c1 => h0 ?_, fun c1 => ⟨fun c2 => h0 ?_, fun c2 => h1 ?_⟩⟩
      · have := (lt_I (a := x.toInt) (b := 123) rfl rfl).mp c1; omega
      · have := (lt_I (a := 126) (b := x.toInt) rfl rfl).mp c2; omega
      · have e1 := mt (lt_I (a := x.toInt) (b := 123) rfl rfl).mpr c1
        have e2 := mt (lt_I (a := 126) (b := x.toInt) rfl rfl).mpr c2
        omega
  have e24 : w_Mo_isAscii_24 X x m (iP N) ∨ ((33 ≤ x.toInt ∧ x.toInt ≤ 47) ∨ (58 ≤ x.toInt ∧ x.toInt ≤ 64)) := by
    by_cases q : ((33 ≤ x.toInt ∧ x.toInt ≤ 47) ∨ (58 ≤ x.toInt ∧ x.toInt ≤ 64))
    · exact Or.inr q
    · refine Or.inl ⟨fun c1 => ?_, fun c1 => ⟨fun c2 => h1 ?_, fun c2 => ?_⟩⟩
      · have := (lt_I (a := x.toInt) (b := 91) rfl rfl).mp c1; exact e36.resolve_right (by omega)
      · have e1 := mt (lt_I (a := x.toInt) (b := 91) rfl rfl).mpr c1
        have e2 := (le_I (a := x.toInt) (b := 96) rfl rfl).mp c2
        omega
      · have e2 := mt (le_I (a := x.toInt) (b := 96) rfl rfl).mpr c2
        exact e36.resolve_right (by omega)
  have e12 : w_Mo_isAscii_12 X x m (iP N) ∨ ((33 ≤ x.toInt ∧ x.toInt ≤ 47)) := by
    by_cases q : ((33 ≤ x.toInt ∧ x.toInt ≤ 47))
    · exact Or.inr q
    · refine Or.inl ⟨fun c1 => ?_, fun c1 => ⟨fun c2 => h1 ?_, fun c2 => ?_⟩⟩
      · have := (lt_I (a := x.toInt) (b := 58) rfl rfl).mp c1; exact e24.resolve_right (by omega)
      · have e1 := mt (lt_I (a := x.toInt) (b := 58) rfl rfl).mpr c1
        have e2 := (le_I (a := x.toInt) (b := 64) rfl rfl).mp c2
        omega
      · have e2 := mt (le_I (a := x.toInt) (b := 64) rfl rfl).mpr c2
        exact e24.resolve_right (by omega)
  refine ⟨fun c1 => ?_, fun c1 => ⟨fun c2 => h1 ?_, fun c2 => ?_⟩⟩
  · have := (lt_I (a := x.toInt) (b := 33) rfl rfl).mp c1; exact e12.resolve_right (by omega)
  · have e1 := mt (lt_I (a := x.toInt) (b := 33) rfl rfl).mpr c1
    have e2 := (le_I (a := x.toInt) (b := 47) rfl rfl).mp c2
    omega
  · have e2 := mt (le_I (a := x.toInt) (b := 47) rfl rfl).mpr c2
    exact e12.resolve_right (by omega)
def LeI (m : MS) (T : List Int32) (f δ n : Nat) (x1 x2 x3 x4 : Int32) (m' : MS) : Prop := m' = m ∧ x1 = nI (f + δ) ∧ x2 = nI (T.length + δ) ∧ ∃ k sm, x3 = nI (k + δ) ∧ x4 = bI (sm = true) ∧ f < k ∧ n + k = 16010 ∧ k ≤ T.length ∧ lbF T f k sm = lbE T f
theorem d_Mo_labelEnd (F : mF X a0) (hP : PlI m T f δ) (hf : f ≤ T.length) (h0 : lbE T f = none → N (-1) m) (h1 : ∀ k, lbE T f = some k → k < T.length → f < k → N (nI (k + 1 + δ)) m) : mE X 1 y_Mo_labelEnd [.ref (mo X), .int (nI (f + δ)), .int (nI (T.length + δ))] m (iP N) := by
  obtain ⟨hv, hb, hl⟩ := hP
  refine g_Mo_labelEnd (I25 := fun n x1 x2 x3 x4 m' => LeI m T f δ n x1 x2 x3 x4 m') F ?_ ?_
  · simp (discharger := omega) only [w_Mo_labelEnd_0, w_Mo_labelEnd_16, nI_leI, vp_nI, nI_clamp, sh1]
    have hno : ¬ tA T f = 91 → lbE T f = none := fun q => by unfold lbE; rw [if_neg q]
    refine ⟨fun c1 => iP.i (h0 (hno ?_)) rfl, fun c1 => ⟨by omega, fun c2 => ?_, fun c2 => iP.i (h0 (hno ?_)) rfl⟩⟩
    · rw [tA_out (by omega) (by omega)]; decide
    · rw [hv f (Nat.le_refl _) (by omega)] at c2
      exact ⟨16010 - (f + 1), rfl, rfl, rfl, f + 1, false, rfl, rfl, by omega, by omega, by omega, by unfold lbE; rw [if_pos c2]⟩
    · rw [hv f (Nat.le_refl _) (by omega)] at c2
      exact c2
  · rintro n x1 x2 x3 x4 m' ⟨rfl, rfl, rfl, k, sm, rfl, rfl, hk, hn, hkl, e⟩
    have hsub : nI (k + δ) - nI (f + δ) - 1 = nI (k - f - 1) := by
      rw [pk_sub (by omega), show (1 : Int32) = nI 1 from rfl, pk_sub (by omega)]
      congr 1
      omega
    have h106 : (T.length ≤ k ∨ tA T k = 93 ∨ tA T k = 91) → w_Mo_labelEnd_106 X (nI (f + δ)) (nI (T.length + δ)) (nI (k + δ)) (bI (sm = true)) m' (iP N) := by
      intro hx
      simp (discharger := omega) only [w_Mo_labelEnd_106, w_Mo_labelEnd_143, w_Mo_labelEnd_144, nI_leI, vp_nI, nI_clamp, hsub, lit_ltI, sh1]
      rw [lbF] at e
      refine ⟨fun c1 => iP.i (h0 ?_) rfl, fun c1 => ⟨by omega, fun c2 => ⟨fun c3 => iP.i (h0 ?_) rfl, fun c3 => ⟨fun c4 => iP.i (h0 ?_) rfl, fun c4 => iP.i (h1 k ?_ (by omega) hk) rfl⟩⟩, fun c2 => iP.i (h0 ?_) rfl⟩⟩
      · rw [← e, if_neg (by omega)]
      all_goals rw [hv k (by omega) (by omega)] at c2
      · rw [← e, if_pos (by omega), if_pos c2, if_neg (fun q => bI_0 c3 q.1)]
      · rw [← e, if_pos (by omega), if_pos c2, if_neg (fun q => by omega)]
      · rw [← e, if_pos (by omega), if_pos c2, if_pos ⟨bI_n0 c3, by omega⟩]
      · rw [← e, if_pos (by omega), if_neg c2, if_pos ((hx.resolve_left (by omega)).resolve_left c2)]
    by_cases hlt : k < T.length
    · have hvk := hv k (by omega) hlt
      unfold w_Mo_labelEnd_25
      simp (discharger := omega) only [nI_leI, vp_nI, nI_clamp, hvk]
      refine ⟨fun c1 => by omega, fun c1 => ⟨by omega, fun c2 => h106 (Or.inr (Or.inl c2)), fun c2 => ⟨by omega, fun c3 => h106 (Or.inr (Or.inr c3)), fun c3 => ?_⟩⟩⟩
      rw [lbF, if_pos hlt, if_neg c2, if_neg c3] at e
      have h74 : ∀ sm' : Bool, (tA T k = 92 → sm' = true) → (¬ tA T k = 92 → sm' = (sm || !decide (wh (tA T k)))) → w_Mo_labelEnd_74 X (nI (f + δ)) (nI (T.length + δ)) (nI (k + δ)) (bI (sm = true)) (bI (sm' = true)) m' (iP N) (fun x1 x2 x3 x4 m => ∃ j, j < n ∧ LeI m' T f δ j x1 x2 x3 x4 m) := by
        intro sm' g1 g2
        simp (discharger := omega) only [w_Mo_labelEnd_74, w_Mo_labelEnd_100, vp_nI, nI_clamp, hvk, sh1, nI_leI]
        refine ⟨by omega, fun c4 => ⟨fun c5 => ?_, fun c5 => ?_⟩, fun c4 => ?_⟩
        · rw [if_pos c4, lbF, if_neg (by omega)] at e
          exact ⟨n - 1, by omega, rfl, rfl, rfl, k + 1, sm', rfl, rfl, by omega, by omega, by omega, by rw [lbF, if_neg (by omega)]; exact e⟩
        · rw [if_pos c4] at e
          exact ⟨n - 2, by omega, rfl, rfl, rfl, k + 1 + 1, true, rfl, rfl, by omega, by omega, by omega, e⟩
        · rw [if_neg c4] at e
          exact ⟨n - 1, by omega, rfl, rfl, rfl, k + 1, sm', rfl, rfl, by omega, by omega, by omega, by rw [g2 c4]; exact e⟩
      unfold w_Mo_labelEnd_69
      refine ⟨fun c4 => ⟨by omega, d_Mo_isWhite F ⟨fun c5 => ?_, fun c5 => ?_⟩⟩, fun c4 => ?_⟩
      · have hw := bI_0 c5
        exact h74 true (fun _ => rfl) (fun _ => by simp [hw])
      · have hw := bI_n0 c5
        have hs : sm = false := by have := bI_0 c4; simpa using this
        exact h74 false (fun q => by rw [q] at hw; exact absurd hw (by decide)) (fun _ => by simp [hw, hs])
      · have hs := bI_n0 c4
        exact h74 true (fun _ => rfl) (fun _ => by rw [hs]; rfl)
    · unfold w_Mo_labelEnd_25
      simp (discharger := omega) only [nI_leI]
      exact ⟨fun _ => h106 (Or.inl (by omega)), fun c => absurd (by omega) c⟩
theorem d_Mo_gap (F : mF X a0) (hP : PlI m T f δ) {g : Nat} (hg : f ≤ g) (hg2 : g ≤ T.length) (h : N (nI (gpF T g false + δ)) m) : mE X 0 y_Mo_gap [.ref (mo X), .int (nI (g + δ)), .int (nI (T.length + δ))] m (iP N) := by
  obtain ⟨hv, hb, hl⟩ := hP
  refine g_Mo_gap (I2 := fun n x1 x2 x3 m' => m' = m ∧ x2 = nI (T.length + δ) ∧ ∃ k, x3 = nI (k + δ) ∧ f ≤ k ∧ k ≤ T.length ∧ n + k = 16010 ∧ gpF T k false = gpF T g false) (I43 := fun n x1 x2 x3 m' => m' = m ∧ x2 = nI (T.length + δ) ∧ ∃ k, x3 = nI (k + δ) ∧ f ≤ k ∧ k ≤ T.length ∧ n + k = 16010 ∧ (gpF T k true = gpF T g false ∨ k = gpF T g false ∧ (k < T.length → ¬ tA T k = 32))) F ?_ ?_ ?_
  · exact ⟨16010 - g, rfl, rfl, g, rfl, hg, hg2, by omega, rfl⟩
  · rintro n x1 x2 x3 m' ⟨rfl, rfl, k, rfl, hk, hkl, hn, e⟩
    by_cases hlt : k < T.length
    · have hvk := hv k (by omega) hlt
      simp (discharger := omega) only [w_Mo_gap_43, w_Mo_gap_65, nI_leI, vp_nI, nI_clamp, hvk, sh1]
      refine ⟨fun c1 => by omega, fun c1 => ⟨by omega, fun c2 => ?_, fun c2 => ?_⟩⟩
      · rcases e with e | e
        · rw [gpF, if_pos hlt, if_pos c2] at e
          exact ⟨n - 1, by omega, by trivial, by trivial, k + 1, rfl, by omega, by omega, by omega, Or.inl e⟩
        · exact absurd c2 (e.2 hlt)
      · rcases e with e | e
        · rw [gpF, if_pos hlt, if_neg c2, if_neg (fun q => absurd q.2 (by decide))] at e
          exact iP.i h (by rw [e])
        · exact iP.i h (by rw [← e.1])
    · simp (discharger := omega) only [w_Mo_gap_43, w_Mo_gap_65, nI_leI]
      refine ⟨fun c1 => ?_, fun c => absurd (by omega) c⟩
      rcases e with e | e
      · rw [gpF, if_neg hlt] at e
        exact iP.i h (by rw [e])
      · exact iP.i h (by rw [← e.1])
  · rintro n x1 x2 x3 m' ⟨rfl, rfl, k, rfl, hk, hkl, hn, e⟩
    by_cases hlt : k < T.length
    · have hvk := hv k (by omega) hlt
      simp (discharger := omega) only [w_Mo_gap_2, w_Mo_gap_24, nI_leI, vp_nI, nI_clamp, hvk, sh1]
      refine ⟨fun c1 => by omega, fun c1 => ⟨by omega, fun c2 => ?_, fun c2 => ⟨fun c3 => by omega, fun c3 => ⟨by omega, fun c4 => ?_, fun c4 => ?_⟩⟩⟩⟩
      · rw [gpF, if_pos hlt, if_pos c2] at e
        exact ⟨n - 1, by omega, by trivial, by trivial, k + 1, rfl, by omega, by omega, by omega, e⟩
      · rw [gpF, if_pos hlt, if_neg c2, if_pos ⟨c4, rfl⟩] at e
        exact ⟨16010 - (k + 1), by trivial, by trivial, k + 1, rfl, by omega, by omega, by omega, Or.inl e⟩
      · rw [gpF, if_pos hlt, if_neg c2, if_neg (fun q => c4 q.1)] at e
        exact ⟨16010 - k, by trivial, by trivial, k, rfl, by omega, by omega, by omega, Or.inr ⟨e, fun _ => c2⟩⟩
    · simp (discharger := omega) only [w_Mo_gap_2, w_Mo_gap_24, nI_leI]
      rw [gpF, if_neg hlt] at e
      exact ⟨fun c1 => ⟨fun c2 => ⟨16010 - k, by trivial, by trivial, k, rfl, by omega, by omega, by omega, Or.inr ⟨e, fun z => absurd z hlt⟩⟩, fun c => absurd c1 c⟩, fun c => absurd (by omega) c⟩
theorem d_Mo_lineEnd (F : mF X a0) (hP : PlI m T f δ) {g : Nat} (hg : f ≤ g) (hg2 : g ≤ T.length) (h0 : lnF T g = none → N (-1) m) (h1 : ∀ k, lnF T g = some k → k ≤ T.length → g ≤ k → N (nI (k + δ)) m) : mE X 0 y_Mo_lineEnd [.ref (mo X), .int (nI (g + δ)), .int (nI (T.length + δ))] m (iP N) := by
  obtain ⟨hv, hb, hl⟩ := hP
  refine g_Mo_lineEnd (I2 := fun n x1 x2 x3 m' => m' = m ∧ x2 = nI (T.length + δ) ∧ ∃ k, x3 = nI (k + δ) ∧ g ≤ k ∧ k ≤ T.length ∧ n + k = 16010 ∧ lnF T k = lnF T g) F ?_ ?_
  · exact ⟨16010 - g, rfl, rfl, g, rfl, Nat.le_refl _, hg2, by omega, rfl⟩
  · rintro n x1 x2 x3 m' ⟨rfl, rfl, k, rfl, hk, hkl, hn, e⟩
    by_cases hlt : k < T.length
    · have hvk := hv k (by omega) hlt
      simp (discharger := omega) only [w_Mo_lineEnd_2, w_Mo_lineEnd_24, w_Mo_lineEnd_40, w_Mo_lineEnd_45, nI_leI, nI_eq, vp_nI, nI_clamp, hvk, sh1]
      refine ⟨fun c1 => by omega, fun c1 => ⟨by omega, fun c2 => ?_, fun c2 => ⟨fun c3 => by omega, fun c3 => ⟨by omega, fun c4 => ?_, fun c4 => ?_⟩⟩⟩⟩
      · rw [lnF, if_pos hlt, if_pos c2] at e
        exact ⟨n - 1, by omega, by trivial, by trivial, k + 1, rfl, by omega, by omega, by omega, e⟩
      · rw [lnF, if_pos hlt, if_neg c2, if_pos c4] at e
        exact iP.i (h1 k e.symm hkl hk) rfl
      · rw [lnF, if_pos hlt, if_neg c2, if_neg c4] at e
        exact iP.i (h0 e.symm) rfl
    · simp (discharger := omega) only [w_Mo_lineEnd_2, w_Mo_lineEnd_24, w_Mo_lineEnd_40, w_Mo_lineEnd_45, nI_leI, nI_eq]
      rw [lnF, if_neg hlt] at e
      exact ⟨fun c1 => ⟨fun _ => iP.i (h1 k e.symm hkl hk) rfl, fun c => absurd (by omega) c⟩, fun c => absurd (by omega) c⟩
end MOLBL
