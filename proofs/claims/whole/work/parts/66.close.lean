theorem tkD_ge {T : List Int32} {f : Nat} {D : DL} (hl : T.length ≤ 16000) (hf : f ≤ T.length) : f ≤ (tkD T f D).1 ∧ (tkD T f D).1 ≤ T.length ∧ (flatD (tkD T f D).2).length + f ≤ (flatD D).length + (tkD T f D).1 := by
  induction f, D using tkD.induct T with
  | case1 f D hq => rw [tkD_none hq]; exact ⟨Nat.le_refl _, hf, Nat.le_refl _⟩
  | case2 f D k tf tt sf st l hq hb ih =>
    rw [tkD_some hl hq]
    have hbd := (dfE_bd hl hq).1
    have := ih hb.2
    have hal := adD_len D (nrm (sl T (f + 1) k) false false, uneF T tt tf, uneF T st sf)
    have hnl := nrm_len (sl T (f + 1) k) false false
    rw [sl_len (by omega)] at hnl
    simp at hnl
    have hul := uneF_len T tt tf
    have hus := uneF_len T st sf
    have hdz : dSz (nrm (sl T (f + 1) k) false false, uneF T tt tf, uneF T st sf) = (nrm (sl T (f + 1) k) false false).length + (uneF T tt tf).length + (uneF T st sf).length := rfl
    have hnx := nxL_bd (T := T) (l := l) (by omega)
    omega
  | case3 f D k tf tt sf st l hq hb =>
    exfalso
    have hbd := dfE_bd hl hq
    have hnx := nxL_bd (T := T) (l := l) (by omega)
    exact hb ⟨by omega, hnx.2⟩
theorem nsP_le {T : List Int32} {f : Nat} : nsP T f ≤ f := by
  unfold nsP
  have := List.countP_le_length (p := nsB) (l := T.take f)
  rw [List.length_take] at this
  omega
theorem RO.lt {v : VS} {m : MS} {μ : Nat → Nat} {t o : Nat} (h : RO v m μ t o) : ∀ k' k, k < k' → k' ≤ t → vo v k < vo v k' := by
  intro k'
  induction k' with
  | zero => intro k hk; omega
  | succ n ih =>
    intro k hk hn
    have h1 := (h.2.2.2.2.2.2.1 n (by omega)).1
    by_cases e : k = n
    · subst e; exact h1
    · exact Nat.lt_trans (ih k (by omega) (by omega)) h1
/-- fewer are open; perhaps the last block is gone -/
theorem RO.pop {v v' : VS} {m m' : MS} {μ : Nat → Nat} {t o h : Nat} (q : RO v m μ t o) (hh : h ≤ t) (ho : h < o) (hvo : ∀ k, k ≤ h → vo v' k = vo v k) (hct : ct v' ≤ ct v) (hlt : ∀ k, k ≤ h → vo v k < ct v') (hb : ∀ i, i < ct v' → vb v' i 0 = vb v i 0 ∧ vb v' i 2 = vb v i 2) (h30 : m'.1 30 = nI (h + 1)) (h29 : ∀ k, m'.2 29 k = m.2 29 k) : RO v' m' μ h (h + 1) := by
  obtain ⟨o1, o2, o3, o4, o5, o6, o7, o8⟩ := q
  refine ⟨by omega, by rw [hvo 0 (by omega)]; exact o2, h30, Nat.le_refl _, fun k hk => by rw [hvo k hk]; exact hlt k hk, fun k hk => by rw [h29, hvo k (by omega)]; exact o6 k (by omega), fun k hk => ?_, fun k hk w h1 h2 => ?_⟩
  · obtain ⟨g1, g2, g3⟩ := o7 k (by omega)
    rw [hvo k (by omega), hvo (k + 1) (by omega)]
    refine ⟨g1, ?_, ?_⟩
    · rw [(hb _ (hlt (k + 1) (by omega))).2]; exact g2
    · unfold kd; rw [(hb _ (hlt k (by omega))).1]; exact g3
  · rw [hvo k hk] at h1 ⊢
    obtain ⟨u, u1, u2⟩ := o8 k (by omega) w h1 (by omega)
    exact ⟨u, u1, by rw [(hb w h2).2]; exact u2.1, by unfold kd; rw [(hb w h2).1, (hb u (by omega)).1]; exact u2.2⟩
section MOCLOSE2
variable {X : MX} {a0 : Array Value} {m : MS} {M : MS → Prop}
theorem d_Mo_goAway (F : mF X a0) {b u n : Nat} (hb : b < 3300) (hu : u < 3300) (h14 : m.2 14 b = nI u) (h25 : m.2 25 u = nI (n + 1)) (h : M (mA (mA m 26 b 1) 25 u (nI n))) : mE X 0 y_Mo_goAway [.ref (mo X), .int (nI b)] m (vP M) := by
  refine g_Mo_goAway F ?_
  simp (discharger := omega) only [w_Mo_goAway_0, vp_nI, nI_clamp]
  refine ⟨hb, fun m1 e1 => ⟨hb, ?_⟩⟩
  have e14 : m1.2 14 b = nI u := by rw [e1, mA_ne (by decide)]; exact h14
  have e25 : m1.2 25 u = nI (n + 1) := by rw [e1, mA_ne (by decide)]; exact h25
  simp (discharger := omega) only [e14, vp_nI, nI_clamp, e25]
  refine ⟨hu, hu, fun m2 e2 => vP.v h ?_⟩
  rw [e2, e1, nI_pred]
  rfl
theorem d_Mo_closeNo (F : mF X a0) {b : Nat} (hb : b < 3300) (h4 : m.2 13 b ≠ 4) (h7 : m.2 13 b = 7 → m.2 22 b ≠ 0) (h : M m) : mE X 5 y_Mo_close [.ref (mo X), .int (nI b)] m (vP M) := by
  refine g_Mo_close F ?_
  simp (discharger := omega) only [w_Mo_close_0, w_Mo_close_62, vp_nI, nI_clamp]
  exact ⟨hb, fun z => absurd z h4, fun _ => ⟨hb, fun z => ⟨hb, fun y => absurd y (h7 z), fun _ => vP.v h rfl⟩, fun _ => vP.v h rfl⟩⟩
/-- opens from o down to h + 1, containers alone -/
theorem d_Mo_closeTo (F : mF X a0) {o h : Nat} (ho : o ≤ 39) (hh : h ≤ 39) (h30 : m.1 30 = nI o) (hc : ∀ k, h < k → k < o → ∃ b, m.2 29 k = nI b ∧ b < 3300 ∧ m.2 13 b ≠ 4 ∧ m.2 13 b ≠ 7) (hM : M (mI m 30 (nI (min o (h + 1))))) : mE X 6 y_Mo_closeTo [.ref (mo X), .int (nI (h + 1))] m (vP M) := by
  have key : ∀ n x1 m', (x1 = nI (h + 1) ∧ n ≤ o ∧ min o (h + 1) ≤ n ∧ m' = mI m 30 (nI n)) → w_Mo_closeTo_0 X x1 m' (vP M) (fun x1 m' => ∃ j, j < n ∧ x1 = nI (h + 1) ∧ j ≤ o ∧ min o (h + 1) ≤ j ∧ m' = mI m 30 (nI j)) := by
    rintro n x1 m' ⟨rfl, hn, hn2, rfl⟩
    have e30 : (mI m 30 (nI n)).1 30 = nI n := mI_at _ _ _
    by_cases hnh : n ≤ h + 1
    · unfold w_Mo_closeTo_0
      rw [e30]
      exact ⟨fun _ => vP.v hM (by congr 2; omega), fun z => absurd (nI_le hnh (by omega)) z⟩
    · unfold w_Mo_closeTo_0
      rw [e30]
      refine ⟨fun z => ?_, fun _ m1 e1 => ?_⟩
      · rw [nI_leI (by omega) (by omega)] at z; omega
      · have hsub : nI n - 1 = nI (n - 1) := by rw [show (1 : Int32) = nI 1 from rfl, pk_sub (by omega)]
        rw [hsub, mI_mI] at e1
        have f30 : m1.1 30 = nI (n - 1) := by rw [e1, mI_at]
        obtain ⟨b, g1, g2, g3, g4⟩ := hc (n - 1) (by omega) (by omega)
        have g1' : m1.2 29 (n - 1) = nI b := by rw [e1]; exact g1
        simp (discharger := omega) only [f30, vp_nI, nI_clamp, g1']
        refine ⟨by omega, d_Mo_closeNo F g2 (by rw [e1]; exact g3) (fun z => absurd (by rw [e1] at z; exact z) g4) ⟨n - 1, by omega, by trivial, by omega, by omega, e1⟩⟩
  refine g_Mo_closeTo (I0 := fun n x1 m' => x1 = nI (h + 1) ∧ n ≤ o ∧ min o (h + 1) ≤ n ∧ m' = mI m 30 (nI n)) F ?_ (fun n x1 m' hx => key n x1 m' hx)
  have h1 := key o (nI (h + 1)) m ⟨rfl, Nat.le_refl _, by omega, by rw [← h30, mI_self]⟩
  unfold w_Mo_closeTo_0 at h1 ⊢
  refine ⟨h1.1, fun c m1 e1 => ?_⟩
  obtain ⟨z1, z2⟩ := h1.2 c m1 e1
  exact ⟨z1, z2.mono (fun r m' q => ⟨q.1, by obtain ⟨j, _, hj⟩ := q.2; exact ⟨j, hj⟩⟩)⟩
end MOCLOSE2
