/-! the end of reading: the relation that the askers see -/
def FB (v : VS) (m : MS) (μ : Nat → Nat) (i : Nat) : Prop := (vb v i 0 = nI (kd v i) ∧ kd v i ≤ 7 ∧ m.2 13 (μ i) = nI (kd v i)) ∧ (i = 0 → vb v i 2 = -1 ∧ μ i = 0) ∧ (0 < i → 0 < μ i ∧ ∃ u, u < i ∧ vb v i 2 = nI u ∧ m.2 14 (μ i) = nI (μ u)) ∧ (vb v i 3 = m.2 15 (μ i) ∧ (kd v i ≠ 2 → kd v i ≠ 5 → vb v i 3 = 0)) ∧ (vb v i 4 = m.2 27 (μ i) ∧ (vb v i 4 = 0 ∨ vb v i 4 = 1)) ∧ (vb v i 9 = m.2 16 (μ i) ∧ vb v i 10 = m.2 17 (μ i)) ∧ ((kd v i = 3 → vb v i 11 = m.2 24 (μ i)) ∧ (kd v i ≠ 3 → vb v i 11 = 0)) ∧ (kd v i ≠ 0 → vb v i 12 = m.2 22 (μ i)) ∧ (kd v i ≠ 2 → kd v i ≠ 7 → vb v i 12 = 0)
def RFin (v : VS) (m : MS) (D : DL) : Prop := ∃ (μ : Nat → Nat) (P : Nat), (1 ≤ ct v ∧ ct v ≤ 3250 ∧ P ≤ 24020 ∧ (tx v).length ≤ 12010) ∧ (∀ i, i < ct v → μ i < 3250 ∧ m.2 37 i = nI (μ i) ∧ m.2 38 (μ i) = nI i) ∧ m.1 39 = nI (ct v) ∧ (∀ i, i < ct v → FB v m μ i ∧ IX v m μ P i ∧ TX v m μ P i) ∧ DsM m D P ∧ vr v 12 = flatD D ∧ vr v 13 = endsD 0 D ∧ (flatD D).length ≤ 12010 ∧ 5 * D.length ≤ 3000 ∧ m.1 10 = nI P
theorem Stc_of {v : VS} {m : MS} {μ : Nat → Nat} {B E : Nat} {D : DL} (hR : RA v m μ 0 1 B E D) : Stc (vb v) m μ (ct v) B ∧ D17 m μ (ct v) (vb v) ∧ D27 m μ (ct v) (vb v) ∧ (∀ i, i < ct v → vb v i 13 = -1) ∧ HoldOk (ct v) (vb v) := by
  obtain ⟨⟨g1, g2, g3, g4, g5, g6, g7⟩, rK, rO, rT, rX⟩ := hR
  have hkd : ∀ i, i < ct v → vb v i 0 = nI (kd v i) ∧ kd v i ≤ 7 := fun i hi => ⟨(rK i hi).1.1.1, (rK i hi).1.1.2.1⟩
  have hcB : ct v ≤ B := RG.ctB (v := v) (m := m) (μ := μ) (B := B) ⟨g1, g2, g3, g4, g5, g6, g7⟩
  have h3 : ∀ i, i < ct v → (vb v i 0 = 3 ↔ kd v i = 3) := fun i hi => by
    rw [(hkd i hi).1]
    exact lit_eqJ (by decide) (by have := (hkd i hi).2; omega)
  have h2 : ∀ i, i < ct v → (vb v i 0 = 2 ↔ kd v i = 2) := fun i hi => by
    rw [(hkd i hi).1]
    exact lit_eqJ (by decide) (by have := (hkd i hi).2; omega)
  refine ⟨⟨⟨g1, g2, g3, g4⟩, g5, g6, g7, fun i h0 hi => ?_, fun i hi => ⟨kd v i, (hkd i hi).2, (hkd i hi).1, by rw [(rK i hi).1.2.1]; exact (hkd i hi).1, (rK i hi).1.1.2.2⟩, fun i hi => ?_⟩, fun i hi => ?_, fun i hi => ?_, fun i hi => (rK i hi).1.2.2.2.2.2.2.2.2.2.2.2.1, fun i h0 hi => ?_, ?_, fun i hi => Or.inl (rK i hi).1.2.2.2.2.2.2.2.2.2.2.2.1⟩
  · obtain ⟨u, u1, u2, u3⟩ := (rK i hi).1.2.2.2.2.1 h0
    obtain ⟨w, w1, w2, w3⟩ := rO.2.2.2.2.2.2.2 0 (Nat.le_refl _) i (by rw [rO.2.1]; exact h0) hi
    have e : w = u := (nI_eq (by omega) (by omega)).mp (w2.symm.trans u2)
    refine ⟨u, u1, u2, u3, fun z => ?_⟩
    rw [h2 u (by omega), ← e]
    exact w3 ((h3 i hi).mp z)
  · obtain ⟨a, b, q1, q2, q3, q4, q5, q6⟩ := (rK i hi).1.2.2.2.2.2.2.2.1
    exact ⟨a, q1, q3, q4⟩
  · obtain ⟨a, b, q1, q2, q3, q4, q5, q6⟩ := (rK i hi).1.2.2.2.2.2.2.2.1
    exact ⟨b, q2, q5, q6⟩
  · obtain ⟨q1, q2⟩ := (rK i hi).1.2.2.2.2.2.2.1
    exact ⟨by rw [q1, q2], Or.inl q1⟩
  · obtain ⟨u, u1, u2, u3⟩ := (rK i hi).1.2.2.2.2.1 h0
    exact ⟨u, by omega, u2⟩
  · intro z
    have h := (h3 0 (by omega)).mp z
    have := (rK 0 (by omega)).1.1.2.2.mpr rfl
    omega
section FIN
variable {Y : MX} {a1 : Array Value} {m : MS} {bf : Nat → Nat → Int32} {μ : Nat → Nat} {c B : Nat}
theorem d_countAgain (G : mF Y a1) (hS : Stc bf m μ c B) {M : MS → Prop} (hM : ∀ m', (∀ k, k ≠ 39 → m'.1 k = m.1 k) → (∀ k i, k ≠ 37 → k ≠ 38 → m'.2 k i = m.2 k i) → m'.1 39 = nI c → (∀ i, i < c → m'.2 37 i = nI (μ i) ∧ m'.2 38 (μ i) = nI i) → M m') : mE Y 0 y_Mo_countAgain [.ref (mo Y)] m (vP M) := by
  have hcl := hS.cle
  obtain ⟨⟨s1, s2, s3, s4⟩, s5, s6, s7, s8, s9, s10⟩ := hS
  have hS : Stc bf m μ c B := ⟨⟨s1, s2, s3, s4⟩, s5, s6, s7, s8, s9, s10⟩
  refine g_Mo_countAgain (I7 := fun n x1 m' => ∃ j k, x1 = nI j ∧ n + j = B ∧ k ≤ c ∧ (∀ i, i < k → μ i < j) ∧ (k < c → j ≤ μ k) ∧ m'.1 39 = nI k ∧ (∀ q, q ≠ 39 → m'.1 q = m.1 q) ∧ (∀ q i, q ≠ 37 → q ≠ 38 → m'.2 q i = m.2 q i) ∧ ∀ i, i < k → m'.2 37 i = nI (μ i) ∧ m'.2 38 (μ i) = nI i) G ?_ ?_
  · intro m1 e1
    rw [e1]
    exact ⟨B, 0, 0, rfl, by omega, Nat.zero_le _, fun i hi => absurd hi (Nat.not_lt_zero _), fun _ => Nat.zero_le _, mI_at _ _ _, fun q hq => mI_ne hq, fun _ _ _ _ => rfl, fun i hi => absurd hi (Nat.not_lt_zero _)⟩
  · rintro n x1 m' ⟨j, k, rfl, hn, h1, h2, h3, h4, h5, h6, h7⟩
    unfold w_Mo_countAgain_7 w_Mo_countAgain_57
    rw [h5 28 (by decide), s3, nI_leI (by omega) (by omega), vp_nI (by omega), nI_clamp (by omega), h6 26 j (by decide) (by decide), h4, vp_nI (by omega), nI_clamp (by omega)]
    refine ⟨fun z => ⟨rfl, ?_⟩, fun z => ⟨by omega, fun c1 => ⟨by omega, fun m1 e1 => ⟨by omega, fun m2 e2 m3 e3 => ?_⟩⟩, fun c1 => ?_⟩⟩
    · have ek : k = c := by
        apply Decidable.byContradiction
        intro q
        have := h3 (by omega)
        have := s6 k (by omega)
        omega
      subst ek
      exact hM m' h5 h6 h4 h7
    · obtain ⟨i, hi, ei⟩ : ∃ i, i < c ∧ μ i = j := by
        rcases s7 j (by omega) with y | y
        · exact y.2
        · rw [y.1] at c1
          exact absurd c1 (by decide)
      have hik : i = k := by
        have q1 : ¬ i < k := fun y => by have := h2 i y; omega
        have q2 := h3 (by omega)
        apply Decidable.byContradiction
        intro q
        have := s5 k i (by omega) hi
        omega
      subst hik
      have f39 : m1.1 39 = nI i := by rw [e1]; exact h4
      have g39 : m2.1 39 = nI i := by rw [e2]; exact f39
      rw [f39] at e2
      rw [g39, nI_1] at e3
      rw [nI_1]
      refine ⟨n - 1, by omega, j + 1, i + 1, rfl, by omega, by omega, fun a ha => ?_, fun h => ?_, ?_, fun q hq => ?_, fun q a z1 z2 => ?_, fun a ha => ?_⟩
      · by_cases e : a = i
        · rw [e]; omega
        · have := h2 a (by omega); omega
      · have := s5 i (i + 1) (by omega) h
        omega
      · rw [e3, mI_at]
      · rw [e3, mI_ne hq, e2, e1]
        exact h5 q hq
      · rw [e3]
        show m2.2 q a = _
        rw [e2, mA_ne z2, e1, mA_ne z1]
        exact h6 q a z1 z2
      · rw [e3]
        show m2.2 37 a = _ ∧ m2.2 38 (μ a) = _
        rw [e2, mA_ne (by decide), e1]
        by_cases e : a = i
        · rw [e, mA_at, ei, mA_at]
          exact ⟨rfl, rfl⟩
        · have hne : μ a ≠ j := by have := h2 a (by omega); omega
          rw [mA_ni e, mA_ni hne, mA_ne (by decide)]
          exact h7 a (by omega)
    · rw [nI_1]
      refine ⟨n - 1, by omega, j + 1, k, rfl, by omega, h1, fun a ha => by have := h2 a ha; omega, fun h => ?_, h4, h5, h6, h7⟩
      have q1 := h3 h
      have q2 : μ k ≠ j := by
        rcases s7 j (by omega) with y | y
        · exact absurd y.1 c1
        · exact y.2 k h
      omega
end FIN
/-- all together -/
theorem RFin_of {v : VS} {m m1 m2 : MS} {μ : Nat → Nat} {B E : Nat} {D : DL} {R : Nat → Nat → Int32} (hR : RA v m μ 0 1 B E D) (hF : FrF m m1) (h17 : D17 m1 μ (ct v) R) (h27 : D27 m1 μ (ct v) R) (hRs : ∀ i q, q ≠ 10 → q ≠ 4 → q ≠ 13 → R i q = vb v i q) (hi : m2.1 10 = m1.1 10 ∧ m2.1 40 = m1.1 40) (ha : ∀ k i, k ≠ 37 → k ≠ 38 → m2.2 k i = m1.2 k i) (h39 : m2.1 39 = nI (ct v)) (hm : ∀ i, i < ct v → m2.2 37 i = nI (μ i) ∧ m2.2 38 (μ i) = nI i) : RFin (vBs v R) m2 D := by
  obtain ⟨⟨g1, g2, g3, g4, g5, g6, g7⟩, rK, rO, rT, rX⟩ := hR
  have hcB : ct v ≤ B := RG.ctB (v := v) (m := m) (μ := μ) (B := B) ⟨g1, g2, g3, g4, g5, g6, g7⟩
  have hm2 : ∀ k i, k ≠ 37 → k ≠ 38 → k ≠ 17 → k ≠ 27 → m2.2 k i = m.2 k i := fun k i z1 z2 z3 z4 => (ha k i z1 z2).trans (hF.2 k i z3 z4)
  have h7 : ∀ i, m2.2 7 i = m.2 7 i := fun i => hm2 7 i (by decide) (by decide) (by decide) (by decide)
  have hkd : ∀ i, kd (vBs v R) i = kd v i := fun i => by
    show (R i 0).toNatClampNeg = _
    rw [hRs i 0 (by decide) (by decide) (by decide)]
  have hvb : ∀ i q, q ≠ 10 → q ≠ 4 → q ≠ 13 → vb (vBs v R) i q = vb v i q := hRs
  have t1 := rT.1
  have t3 := rT.2.2.1
  refine ⟨μ, (tx v).length + E, ⟨g1, by show ct v ≤ _; omega, by omega, t1⟩, fun i hi => ⟨by have := g6 i hi; omega, hm i hi⟩, h39, fun i hi => ⟨?_, ?_, ?_⟩, ?_, rT.2.2.2.2.1, rT.2.2.2.2.2.1, by have := rT.2.2.2.2.2.2.1; omega, by have := rT.2.2.2.2.2.2.2.2.1; have := rT.2.2.2.2.2.2.2.2.2.1; omega, ?_⟩
  · have hi' : i < ct v := hi
    obtain ⟨⟨k1, k2, k3⟩, k4, k5, k6, k7, k8, k9, ⟨a, b, q1, q2, q3, q4, q5, q6⟩, k11, k12, k13, k14, k15, k16⟩ := (rK i hi').1
    unfold FB
    rw [hkd, hvb i 0 (by decide) (by decide) (by decide), hvb i 2 (by decide) (by decide) (by decide), hvb i 3 (by decide) (by decide) (by decide), hvb i 9 (by decide) (by decide) (by decide), hvb i 11 (by decide) (by decide) (by decide), hvb i 12 (by decide) (by decide) (by decide), hm2 13 _ (by decide) (by decide) (by decide) (by decide), hm2 14 _ (by decide) (by decide) (by decide) (by decide), hm2 15 _ (by decide) (by decide) (by decide) (by decide), hm2 16 _ (by decide) (by decide) (by decide) (by decide), hm2 22 _ (by decide) (by decide) (by decide) (by decide), hm2 24 _ (by decide) (by decide) (by decide) (by decide), ha 27 _ (by decide) (by decide), ha 17 _ (by decide) (by decide)]
    refine ⟨⟨k1, k2, by rw [k4]; exact k1⟩, fun z => ⟨(k6 z).1, by rw [z]; exact g4⟩, fun z => ⟨by have := g5 0 i z hi'; omega, k7 z⟩, ⟨k8, k15⟩, h27 i hi', ⟨by rw [q3, q4], ?_⟩, ⟨fun z => ?_, k12⟩, k13, k16⟩
    · obtain ⟨b, b1, b2, b3⟩ := h17 i hi'
      show R i 10 = _
      rw [b2, b3]
    · obtain ⟨w, w1, w2, w3⟩ := k11 z
      rw [w2, w3]
  · have := (rK i hi).2.1
    unfold IX at this ⊢
    rw [hkd, hvb i 7 (by decide) (by decide) (by decide), hvb i 8 (by decide) (by decide) (by decide), hm2 20 _ (by decide) (by decide) (by decide) (by decide), hm2 21 _ (by decide) (by decide) (by decide) (by decide)]
    exact ⟨fun z => (this.1 z).keep (fun _ _ => rfl) (Nat.le_refl _) (fun j _ => h7 j) (Nat.le_refl _), this.2⟩
  · have := rX i hi
    unfold TX at this ⊢
    rw [hkd, hvb i 5 (by decide) (by decide) (by decide), hvb i 6 (by decide) (by decide) (by decide), hm2 18 _ (by decide) (by decide) (by decide) (by decide), hm2 19 _ (by decide) (by decide) (by decide) (by decide)]
    exact ⟨fun z => (this.1 z).keep (fun _ _ => rfl) (Nat.le_refl _) (fun j _ => h7 j) (Nat.le_refl _), this.2⟩
  · exact rT.2.2.2.1.same (by rw [hi.2, hF.1]) (fun j k z _ _ => hm2 j k (by omega) (by omega) (by omega) (by omega)) (fun i _ => h7 i) (Nat.le_refl _)
  · rw [hi.1, hF.1]
    exact rT.2.1
