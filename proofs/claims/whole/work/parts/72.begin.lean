/-- what closing, and beginning up to the block's own numbers, may change -/
def FrN (m m' : MS) : Prop := (∀ k, k ≠ 5 → k ≠ 10 → k ≠ 30 → k ≠ 32 → k ≠ 40 → ¬ (47 ≤ k ∧ k ≤ 51) → m'.1 k = m.1 k) ∧ ∀ k i, k ≠ 7 → ¬ (41 ≤ k ∧ k ≤ 46) → k ≠ 18 → k ≠ 19 → k ≠ 25 → k ≠ 26 → m'.2 k i = m.2 k i
theorem FrM.n {m m' : MS} (h : FrM m m') : FrN m m' := ⟨fun k _ q1 q2 _ q3 q4 => h.1 k q1 q2 q3 q4, h.2⟩
theorem FrN.i {m m' : MS} (h : FrN m m') {k : Nat} (hk : k = 5 ∨ k = 32) (x : Int32) : FrN m (mI m' k x) := ⟨fun j q1 q2 q3 q4 q5 q6 => (mI_ne (by omega)).trans (h.1 j q1 q2 q3 q4 q5 q6), h.2⟩
theorem RA.i {v : VS} {m : MS} {μ : Nat → Nat} {t o B E : Nat} {D : DL} (hR : RA v m μ t o B E D) {k : Nat} (hk : k = 5 ∨ (31 ≤ k ∧ k ≤ 36)) (x : Int32) : RA v (mI m k x) μ t o B E D := by
  obtain ⟨rG, rK, rO, rT, rX⟩ := hR
  refine ⟨rG.same rfl (mI_ne (by omega)) (fun _ _ => rfl), rK, ?_, rT.same rfl rfl rfl (mI_ne (by omega)) (mI_ne (by omega)) (fun _ => rfl) (fun _ _ _ => rfl), rX⟩
  obtain ⟨o1, o2, o3, o4⟩ := rO
  exact ⟨o1, o2, (mI_ne (by omega)).trans o3, o4⟩
section BEGIN
variable {Y : MX} {a1 : Array Value} {m : MS}
/-- kinds, as the model has them -/
theorem RA.opn {v : VS} {μ : Nat → Nat} {t B E : Nat} {D : DL} (hR : RA v m μ t (t + 1) B E D) {k : Nat} (hk : k ≤ t) : ∃ b, m.2 29 k = nI b ∧ b < 3300 ∧ m.2 13 b = nI (kd v (vo v k)) ∧ (kd v (vo v k) = 0 ↔ k = 0) ∧ b = μ (vo v k) ∧ kd v (vo v k) ≤ 7 := by
  obtain ⟨rG, rK, rO, rT, rX⟩ := hR
  have hlt := rO.2.2.2.2.1 k hk
  obtain ⟨hB, _, _⟩ := rK _ hlt
  have hμ := rG.2.2.2.2.2.1 _ hlt
  have hB2 := rG.2.1
  refine ⟨μ (vo v k), rO.2.2.2.2.2.1 k (by omega), by omega, by rw [hB.2.1, hB.1.1], ?_, rfl, hB.1.2.1⟩
  rw [hB.1.2.2]
  constructor
  · intro z
    apply Decidable.byContradiction
    intro q
    have := rO.lt k 0 (by omega) hk
    rw [rO.2.1] at this
    omega
  · intro z
    rw [z]
    exact rO.2.1
theorem d_Mo_depthAtHand (G : mF Y a1) {v : VS} {μ : Nat → Nat} {t B E : Nat} {D : DL} (hR : RA v m μ t (t + 1) B E D) (hk : kd v (vo v t) ≤ 3) (h32 : m.1 32 = nI t) {N : Int32 → MS → Prop} (h : N (nI t) m) : mE Y 0 y_Mo_depthAtHand [.ref (mo Y)] m (iP N) := by
  have ht := hR.2.2.1.1
  refine g_Mo_depthAtHand (I4 := fun n x1 x2 m' => m' = m ∧ ∃ k, x2 = nI k ∧ k ≤ t + 1 ∧ n + k = t + 1 ∧ x1 = nI (k - 1)) G ⟨t + 1, rfl, 0, rfl, by omega, by omega, rfl⟩ ?_
  rintro n x1 x2 m' ⟨rfl, k, rfl, hkt, hn, rfl⟩
  simp (discharger := omega) only [w_Mo_depthAtHand_4, w_Mo_depthAtHand_47, w_Mo_depthAtHand_48, h32, nI_ltI]
  refine ⟨fun c => iP.i h ?_, fun c => ?_⟩
  · congr 1
    omega
  · obtain ⟨b, e1, e2, e3, e4, _⟩ := hR.opn (k := k) (by omega)
    have hk3 : kd v (vo v k) ≤ 3 := by
      by_cases e : k = t
      · rw [e]; exact hk
      · exact (hR.2.2.1.2.2.2.2.2.2.1 k (by omega)).2.2
    simp (discharger := omega) only [vp_nI, nI_clamp, e1, e3, lit_ltJ, lit_ltI, nI_add, lit_add]
    refine ⟨by omega, e2, fun c1 => ?_, fun c1 => ⟨by omega, e2, fun c2 => by omega, fun c2 => ?_⟩⟩
    · have hk0 : k = 0 := e4.mp (by omega)
      subst hk0
      exact ⟨n - 1, by omega, by trivial, 1, rfl, by omega, by omega, rfl⟩
    · have hk0 : k ≠ 0 := fun z => c1 (by rw [e4.mpr z]; omega)
      refine ⟨n - 1, by omega, by trivial, k + 1, rfl, by omega, by omega, ?_⟩
      congr 1
      omega
/-- behind the closing: depth, and the block -/
theorem d_begin72 (G : mF Y a1) {v : VS} {μ : Nat → Nat} {t B E k n : Nat} {D : DL} (hR : RA v m μ t (t + 1) B E D) (hk3 : kd v (vo v t) ≤ 3) (hB : B ≤ 3249) (ht : t ≤ 19) (hk : 1 ≤ k ∧ k ≤ 7) (h32 : m.1 32 = nI t) {Ψ : Option Value → MS → Prop} (hΨ : ∀ m2 m', (m2 = m ∨ m2 = mI m 5 (nI n)) → (m2 = m ↔ ¬ ((k ≤ 3 ∧ 12 ≤ t) ∧ m.1 5 = -1) ∨ m2 = m) → m2.1 5 = (if (k ≤ 3 ∧ 12 ≤ t) ∧ m.1 5 = -1 then nI n else m.1 5) → NwM m2 m' B (t + 1) (nI k) (nI n) (μ (vo v t)) ((tx v).length + E) → Ψ (some (.int (nI B))) m') : w_Mo_begin_72 Y (nI k) (nI n) m Ψ := by
  obtain ⟨b, e1, e2, e3, e4, e5, e6⟩ := hR.opn (k := t) (Nat.le_refl _)
  have hR0 := hR
  obtain ⟨rG, rK, rO, rT, rX⟩ := hR
  have hlt := rO.2.2.2.2.1 t (Nat.le_refl _)
  have hμ := rG.2.2.2.2.2.1 _ hlt
  have hgo : ∀ m2, (m2 = m ∨ m2 = mI m 5 (nI n)) → (m2 = m ↔ ¬ ((k ≤ 3 ∧ 12 ≤ t) ∧ m.1 5 = -1) ∨ m2 = m) → m2.1 5 = (if (k ≤ 3 ∧ 12 ≤ t) ∧ m.1 5 = -1 then nI n else m.1 5) → w_Mo_begin_96 Y (nI k) (nI n) m2 Ψ := by
    intro m2 h1 h2 h3
    have hi : ∀ j, j ≠ 5 → m2.1 j = m.1 j := fun j hj => by
      rcases h1 with z | z
      · rw [z]
      · rw [z, mI_ne hj]
    have ha : m2.2 = m.2 := by
      rcases h1 with z | z
      · rw [z]
      · rw [z]; rfl
    exact d_begin96 (B := B) (o := t + 1) (h := t) (u := μ (vo v t)) (P := (tx v).length + E) G (by omega) hμ (by omega) (by omega) ((hi 28 (by decide)).trans rG.2.2.1) ((hi 30 (by decide)).trans rO.2.2.1) ((hi 32 (by decide)).trans h32) (by rw [ha, e1, e5]) ((hi 10 (by decide)).trans rT.2.1) (fun m' hm => hΨ m2 m' h1 h2 h3 hm)
  unfold w_Mo_begin_72
  simp (discharger := omega) only [lit_ltJ, lit_ltI]
  refine ⟨fun c => by omega, fun _ => ⟨fun c => hgo m (Or.inl rfl) ⟨fun z => Or.inr z, fun _ => rfl⟩ (by rw [if_neg (fun z => by omega)]), fun c => d_Mo_depthAtHand G hR0 hk3 h32 ?_⟩⟩
  simp (discharger := omega) only [lit_ltJ]
  refine ⟨fun c2 => hgo m (Or.inl rfl) ⟨fun z => Or.inr z, fun _ => rfl⟩ (by rw [if_neg (fun z => by omega)]), fun c2 => g_Mo_tooDeep G ⟨fun c3 m1 em => ⟨rfl, ?_⟩, fun c3 => ⟨rfl, ?_⟩⟩⟩
  · subst em
    refine hgo _ (Or.inr rfl) ⟨fun z => Or.inr z, fun z => ?_⟩ (by rw [if_pos ⟨by omega, c3⟩, mI_at])
    rcases z with z | z
    · exact absurd ⟨by omega, c3⟩ z
    · exact z
  · exact hgo m (Or.inl rfl) ⟨fun z => Or.inr z, fun _ => rfl⟩ (by rw [if_neg (fun z => c3 z.2)])
/-- begin: the block at hand takes it, or steps out first -/
theorem d_Mo_begin (G : mF Y a1) {v' : VS} {μ : Nat → Nat} {h h' B k n : Nat} {D' : DL} (hB : B ≤ 3249) (hk : 1 ≤ k ∧ k ≤ 7) (h32 : m.1 32 = nI h) (hh' : h' ≤ 19) (hk3 : kd v' (vo v' h') ≤ 3) (hno : ¬ (kd v' (vo v' h') = 2 ∧ k ≠ 3)) {Ψ : Option Value → MS → Prop}
    (hcl : (h' = h ∧ ∀ M : MS → Prop, (∀ m1 E', RA v' m1 μ h (h + 1) B E' D' → FrM m m1 → M m1) → mE Y 6 y_Mo_closeTo [.ref (mo Y), .int (nI (h + 1))] m (vP M)) ∨ (h' + 1 = h ∧ ∀ M : MS → Prop, (∀ m1 b, FrM m m1 → m1.2 29 h = nI b → b < 3300 → (3 < m1.2 13 b ∨ (m1.2 13 b = 2 ∧ k ≠ 3)) → (∀ M2 : MS → Prop, (∀ m2 E', RA v' m2 μ h' (h' + 1) B E' D' → FrM m1 m2 → M2 m2) → mE Y 6 y_Mo_closeTo [.ref (mo Y), .int (nI (h' + 1))] m1 (vP M2)) → M m1) → mE Y 6 y_Mo_closeTo [.ref (mo Y), .int (nI (h + 1))] m (vP M)))
    (hΨ : ∀ m2 m' E', RA v' m2 μ h' (h' + 1) B E' D' → FrN m m2 → m2.1 5 = (if (k ≤ 3 ∧ 12 ≤ h') ∧ m.1 5 = -1 then nI n else m.1 5) → NwM m2 m' B (h' + 1) (nI k) (nI n) (μ (vo v' h')) ((tx v').length + E') → Ψ (some (.int (nI B))) m') : mE Y 7 y_Mo_begin [.ref (mo Y), .int (nI k), .int (nI n)] m Ψ := by
  have hfin : ∀ m3 E', RA v' m3 μ h' (h' + 1) B E' D' → FrN m m3 → m3.1 32 = nI h' → m3.1 5 = m.1 5 → ∀ K, w_Mo_begin_10 Y (nI k) (nI n) m3 Ψ K := by
    intro m3 E' hA hF g32 g5 K
    obtain ⟨b, e1, e2, e3, e4, e5, e6⟩ := hA.opn (k := h') (Nat.le_refl _)
    have h72 : w_Mo_begin_72 Y (nI k) (nI n) m3 Ψ := by
      refine d_begin72 G hA hk3 hB hh' hk g32 (fun m2 m' q1 q2 q3 q4 => ?_)
      refine hΨ m2 m' E' ?_ ?_ (by rw [q3, g5]) q4
      · rcases q1 with z | z
        · rw [z]; exact hA
        · rw [z]; exact hA.i (Or.inl rfl) _
      · rcases q1 with z | z
        · rw [z]; exact hF
        · rw [z]; exact hF.i (Or.inl rfl) _
    unfold w_Mo_begin_10
    simp (discharger := omega) only [g32, vp_nI, nI_clamp, e1, e3, lit_ltI, lit_eqJ]
    exact ⟨by omega, e2, fun z => by omega, fun _ => ⟨by omega, e2, fun z => ⟨fun _ => h72, fun y => absurd ⟨z, y⟩ hno⟩, fun _ => h72⟩⟩
  have h5 : ∀ m1, FrM m m1 → m1.1 5 = m.1 5 ∧ m1.1 32 = m.1 32 := fun m1 q => ⟨q.1 5 (by decide) (by decide) (by decide) (by omega), q.1 32 (by decide) (by decide) (by decide) (by omega)⟩
  refine g_Mo_begin (I10 := fun j x1 x2 m' => x1 = nI k ∧ x2 = nI n ∧ ((j = 0 ∧ ∃ E', RA v' m' μ h' (h' + 1) B E' D' ∧ FrN m m' ∧ m'.1 32 = nI h' ∧ m'.1 5 = m.1 5) ∨ (j = 1 ∧ h' + 1 = h ∧ FrM m m' ∧ ∃ b, m'.2 29 h = nI b ∧ b < 3300 ∧ (3 < m'.2 13 b ∨ (m'.2 13 b = 2 ∧ k ≠ 3)) ∧ ∀ M2 : MS → Prop, (∀ m2 E', RA v' m2 μ h' (h' + 1) B E' D' → FrM m' m2 → M2 m2) → mE Y 6 y_Mo_closeTo [.ref (mo Y), .int (nI (h' + 1))] m' (vP M2)))) G ?_ ?_
  · unfold w_Mo_begin_0
    rw [h32, nI_1]
    rcases hcl with ⟨q1, q2⟩ | ⟨q1, q2⟩
    · subst q1
      exact q2 _ (fun m1 E' hA hF => ⟨0, rfl, rfl, Or.inl ⟨rfl, E', hA, hF.n, by rw [(h5 m1 hF).2]; exact h32, (h5 m1 hF).1⟩⟩)
    · exact q2 _ (fun m1 b z1 z2 z3 z4 z5 => ⟨1, rfl, rfl, Or.inr ⟨rfl, q1, z1, b, z2, z3, z4, z5⟩⟩)
  · rintro j x1 x2 m' ⟨rfl, rfl, hx⟩
    rcases hx with ⟨rfl, E', hA, hF, g32, g5⟩ | ⟨rfl, q1, hF, b, e1, e2, e3, e4⟩
    · exact hfin m' E' hA hF g32 g5 _
    · have g32 : m'.1 32 = nI h := by rw [(h5 m' hF).2]; exact h32
      have h51 : w_Mo_begin_51 Y (nI k) (nI n) m' Ψ (fun x1 x2 m_1 => ∃ j, j < 1 ∧ x1 = nI k ∧ x2 = nI n ∧ ((j = 0 ∧ ∃ E', RA v' m_1 μ h' (h' + 1) B E' D' ∧ FrN m m_1 ∧ m_1.1 32 = nI h' ∧ m_1.1 5 = m.1 5) ∨ (j = 1 ∧ h' + 1 = h ∧ FrM m m_1 ∧ ∃ b, m_1.2 29 h = nI b ∧ b < 3300 ∧ (3 < m_1.2 13 b ∨ (m_1.2 13 b = 2 ∧ k ≠ 3)) ∧ ∀ M2 : MS → Prop, (∀ m2 E', RA v' m2 μ h' (h' + 1) B E' D' → FrM m_1 m2 → M2 m2) → mE Y 6 y_Mo_closeTo [.ref (mo Y), .int (nI (h' + 1))] m_1 (vP M2)))) := by
        unfold w_Mo_begin_51
        rw [g32, ← q1]
        refine e4 _ (fun m2 E' hA hF2 m3 em => ⟨0, by omega, rfl, rfl, Or.inl ⟨rfl, E', ?_, ?_, ?_, ?_⟩⟩)
        · rw [em]; exact hA.i (Or.inr (by decide)) _
        · rw [em]
          refine FrN.i ?_ (Or.inr rfl) _
          exact ⟨fun k z1 z2 z3 z4 z5 z6 => (hF2.1 k z2 z3 z5 z6).trans (hF.1 k z2 z3 z5 z6), fun k i z1 z2 z3 z4 z5 z6 => (hF2.2 k i z1 z2 z3 z4 z5 z6).trans (hF.2 k i z1 z2 z3 z4 z5 z6)⟩
        · rw [em, mI_at, hF2.1 32 (by decide) (by decide) (by decide) (by omega), g32, ← q1, nI_pred]
        · rw [em, mI_ne (by decide), hF2.1 5 (by decide) (by decide) (by decide) (by omega), (h5 m' hF).1]
      unfold w_Mo_begin_10
      simp (discharger := omega) only [g32, vp_nI, nI_clamp, e1]
      refine ⟨by omega, e2, fun _ => h51, fun c1 => ⟨by omega, e2, fun c2 => ⟨fun c3 => ?_, fun _ => h51⟩, fun c2 => ?_⟩⟩
      · rcases e3 with z | z
        · exact absurd z c1
        · exact absurd ((nI_eq (by omega) (by decide)).mp c3) z.2
      · rcases e3 with z | z
        · exact absurd z c1
        · exact absurd z.1 c2
end BEGIN
