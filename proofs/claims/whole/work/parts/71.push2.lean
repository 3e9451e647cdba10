theorem hdN_none {v : VS} {i : Nat} : ∀ n, (∀ j, 0 < j → j < n → vb v j 2 ≠ nI i) → hdN v i n = 0 := by
  intro n
  induction n with
  | zero => intro _; rfl
  | succ n ih =>
    intro h
    show hdN v i n + _ = 0
    rw [ih (fun j q1 q2 => h j q1 (by omega)), if_neg (fun q => h n q.1 (by omega) q.2)]
abbrev muP (v : VS) (μ : Nat → Nat) (B : Nat) : Nat → Nat := fun i => if i = ct v then B else μ i
theorem SLc.nil {T : List Int32} {m : MS} {P a w : Nat} (ha : a ≤ T.length) (hw : w ≤ P) : SLc T m P (nI a) 0 (nI w) 0 := ⟨a, 0, w, rfl, rfl, rfl, rfl, by omega, by omega, fun k hk => absurd hk (by omega)⟩
theorem RA_push {v v' : VS} {m m' : MS} {μ : Nat → Nat} {t B E k n : Nat} {D : DL} (hR : RA v m μ t (t + 1) B E D) (hk3 : kd v (vo v t) ≤ 3) (h32 : k = 3 → kd v (vo v t) = 2) (ht : t ≤ 19) (hB : B ≤ 3249) (hk : 1 ≤ k ∧ k ≤ 7) (hn : n ≤ 3001) (hC : NwC v v' (nI k) (nI (vo v t)) (nI n) t) (hM : NwM m m' B (t + 1) (nI k) (nI n) (μ (vo v t)) ((tx v).length + E)) : RA v' m' (muP v μ B) (t + 1) (t + 2) (B + 1) E D ∧ kd v' (ct v) = k ∧ ((k = 4 ∨ k = 7) → RL v' m' (muP v μ B) (t + 1) (t + 2) (B + 1) E D) := by
  obtain ⟨rG, rK, rO, rT, rX⟩ := hR
  obtain ⟨c1, c2, c3, c4, c5, c6, c7, c8, c9, c10, c11⟩ := hC
  obtain ⟨m1, m2, m3, m4, m5, m6, m7, ⟨n13, n14, n15, n16, n17, n18, n19, n20, n21, n22, n23, n24, n25, n26, n27⟩, m9, m10, m11⟩ := hM
  have rG0 := rG
  obtain ⟨g1, g2, g3, g4, g5, g6, g7⟩ := rG
  obtain ⟨o1, o2, o3, o4, o5, o6, o7, o8⟩ := rO
  have hlt := o5 t (Nat.le_refl _)
  have hμt := g6 _ hlt
  have hctB : ct v ≤ B := by
    have h1 := rG0.ge (ct v - 1) (by omega)
    have h2 := g6 (ct v - 1) (by omega)
    omega
  have htx : tx v' = tx v := by show vr v' 10 = _; rw [c10]
  have hμ : ∀ i, i < ct v → muP v μ B i = μ i := fun i hi => if_neg (by omega)
  have hμn : muP v μ B (ct v) = B := if_pos rfl
  have hmo : ∀ i, i < ct v → μ i ≠ B := fun i hi => by have := g6 i hi; omega
  have hinj : ∀ i, i < ct v → μ i = μ (vo v t) → i = vo v t := by
    intro i hi e
    rcases Nat.lt_trichotomy i (vo v t) with z | z | z
    · have := g5 i _ z hlt; omega
    · exact z
    · have := g5 _ i z hi; omega
  have hkdn : kd v' (ct v) = k := by
    show (vb v' (ct v) 0).toNatClampNeg = k
    rw [c3]
    show (nI k).toNatClampNeg = k
    rw [nI_clamp (by omega)]
  have hkdo : ∀ i, i < ct v → kd v' i = kd v i := fun i hi => by unfold kd; rw [c2 i (by omega)]
  -- the new block
  have hBKn : BK v' m' (muP v μ B) (ct v) := by
    unfold BK
    rw [hkdn, hμn, n13, n14, n15, n16, n17, n22, n24, n27]
    simp only [c3]
    refine ⟨⟨rfl, hk.2, by omega⟩, rfl, rfl, fun z => by omega, fun _ => ⟨vo v t, hlt, rfl, by rw [hμ _ hlt]⟩, rfl, ⟨rfl, by trivial⟩, ⟨n, n, hn, hn, rfl, by trivial, rfl, by trivial⟩, fun z => ⟨0, by omega, rfl, rfl⟩, fun _ => rfl, fun _ => rfl, rfl, fun _ _ => rfl, fun _ _ => rfl⟩
  have hIXn : IX v' m' (muP v μ B) ((tx v').length + E) (ct v) := by
    unfold IX
    rw [hμn, n20, n21, c3, c3, htx]
    exact ⟨fun _ => SLc.nil (Nat.le_refl _) (Nat.le_refl _), fun _ => rfl⟩
  have hTXn : TX v' m' (muP v μ B) ((tx v').length + E) (ct v) := by
    unfold TX
    rw [hμn, n18, n19, c3, c3, htx]
    exact ⟨fun _ => SLc.nil (Nat.le_refl _) (Nat.le_refl _), fun _ => rfl⟩
  have hTold : ∀ i, i < ct v → TX v' m' (muP v μ B) ((tx v').length + E) i := by
    intro i hi
    have hx := rX i hi
    unfold TX at hx ⊢
    rw [hμ i hi, htx, hkdo i hi, c2 i (by omega), m6 18 _ (by decide) (by decide) (hmo i hi) (by omega), m6 19 _ (by decide) (by decide) (hmo i hi) (by omega)]
    exact ⟨fun q => (hx.1 q).keep (fun _ _ => rfl) (Nat.le_refl _) (fun j _ => m11 7 j (by omega) (by decide)) (Nat.le_refl _), hx.2⟩
  have hBup : ∀ i, i < ct v → BK v' m' (muP v μ B) i := by
    intro i hi
    obtain ⟨k1, k2, k3⟩ := rK i hi
    have hmm : ∀ j, 13 ≤ j → j ≤ 27 → j ≠ 25 → m'.2 j (μ i) = m.2 j (μ i) := fun j q1 q2 q3 => m6 j _ q1 q2 (hmo i hi) (by omega)
    unfold BK at k1 ⊢
    rw [hμ i hi, hkdo i hi, c2 i (by omega), hmm 13 (by decide) (by decide) (by decide), hmm 14 (by decide) (by decide) (by decide), hmm 15 (by decide) (by decide) (by decide), hmm 16 (by decide) (by decide) (by decide), hmm 17 (by decide) (by decide) (by decide), hmm 22 (by decide) (by decide) (by decide), hmm 24 (by decide) (by decide) (by decide), hmm 27 (by decide) (by decide) (by decide)]
    obtain ⟨a1, a2, a3, a4, a5, a6⟩ := k1
    refine ⟨a1, a2, a3, a4, fun z => ?_, a6⟩
    obtain ⟨u, u1, u2, u3⟩ := a5 z
    exact ⟨u, u1, u2, by rw [hμ u (by omega)]; exact u3⟩
  have hhold : ∀ i, i < ct v → ∀ j, 0 < j → j < ct v → vb v j 2 ≠ nI (ct v) := by
    intro _ _ j q1 q2 e
    obtain ⟨u, u1, u2, _⟩ := (rK j q2).1.2.2.2.2.1 q1
    have : u = ct v := (nI_eq (by omega) (by omega)).mp (u2.symm.trans e)
    omega
  have hRG : RG v' m' (muP v μ B) (B + 1) := by
    refine ⟨by omega, by omega, m2, by rw [hμ 0 (by omega)]; exact g4, fun i j q1 q2 => ?_, fun i hi => ?_, fun j hj => ?_⟩
    · by_cases e : j = ct v
      · rw [e, hμn, hμ i (by omega)]
        exact g6 i (by omega)
      · rw [hμ i (by omega), hμ j (by omega)]
        exact g5 i j q1 (by omega)
    · by_cases e : i = ct v
      · rw [e, hμn]; omega
      · rw [hμ i (by omega)]
        have := g6 i (by omega)
        omega
    · by_cases e : j = B
      · rw [e]
        exact Or.inl ⟨n26, ct v, by omega, hμn⟩
      · rw [m6 26 j (by decide) (by decide) e (by omega)]
        rcases g7 j (by omega) with ⟨z1, a, z2, z3⟩ | ⟨z1, z2⟩
        · exact Or.inl ⟨z1, a, by omega, by rw [hμ a z2]; exact z3⟩
        · refine Or.inr ⟨z1, fun a ha => ?_⟩
          by_cases e2 : a = ct v
          · rw [e2, hμn]; exact fun z => e z.symm
          · rw [hμ a (by omega)]; exact z2 a (by omega)
  have hRK : RK v' m' (muP v μ B) ((tx v').length + E) := by
    intro i hi
    by_cases e : i = ct v
    · rw [e]
      refine ⟨hBKn, hIXn, ?_⟩
      rw [hμn, n25, hdN_none]
      · rfl
      · intro j q1 q2 e2
        by_cases e3 : j = ct v
        · rw [e3, c3] at e2
          have : vo v t = ct v := (nI_eq (by omega) (by omega)).mp e2
          omega
        · rw [c2 j e3] at e2
          exact hhold 0 (by omega) j q1 (by omega) e2
    · have hi' : i < ct v := by omega
      obtain ⟨k1, k2, k3⟩ := rK i hi'
      refine ⟨hBup i hi', ?_, ?_⟩
      · unfold IX at k2 ⊢
        rw [hμ i hi', htx, hkdo i hi', c2 i (by omega), m6 20 _ (by decide) (by decide) (hmo i hi') (by omega), m6 21 _ (by decide) (by decide) (hmo i hi') (by omega)]
        exact ⟨fun q => (k2.1 q).keep (fun _ _ => rfl) (Nat.le_refl _) (fun j _ => m11 7 j (by omega) (by decide)) (Nat.le_refl _), k2.2⟩
      · rw [hμ i hi', c1]
        show _ = nI (hdN v' i (ct v) + _)
        rw [hdN_keep (v := v) (v' := v') (i := i) (ct v) (fun j hj => by rw [c2 j (by omega)]), c3]
        by_cases e2 : i = vo v t
        · rw [e2, m7, ← e2, k3, nI_1, if_pos ⟨by omega, by rw [e2]; rfl⟩]
        · rw [m6 25 _ (by decide) (by decide) (hmo i hi') (fun _ z => e2 (hinj i hi' z)), k3, if_neg (fun z => e2 ?_)]
          · rfl
          · have : nI (vo v t) = nI i := z.2
            exact ((nI_eq (by omega) (by omega)).mp this).symm
  have hRO : RO v' m' (muP v μ B) (t + 1) (t + 2) := by
    have hvo : ∀ j, j ≤ t → vo v' j = vo v j := fun j hj => c7 j (by omega)
    refine ⟨by omega, by rw [hvo 0 (by omega)]; exact o2, m3, Nat.le_refl _, fun j hj => ?_, fun j hj => ?_, fun j hj => ?_, fun j hj w h1 h2 => ?_⟩
    · by_cases e : j = t + 1
      · rw [e, c6, c1]; omega
      · rw [hvo j (by omega), c1]
        have := o5 j (by omega)
        omega
    · by_cases e : j = t + 1
      · rw [e, m9, c6, hμn]
      · rw [m10 j e, hvo j (by omega), hμ _ (o5 j (by omega))]
        exact o6 j (by omega)
    · by_cases e : j = t
      · rw [e, c6, hvo t (Nat.le_refl _)]
        refine ⟨hlt, by rw [c3]; rfl, by rw [hkdo _ hlt]; exact hk3⟩
      · rw [hvo j (by omega), hvo (j + 1) (by omega), c2 _ (by have := o5 (j + 1) (by omega); omega), hkdo _ (o5 j (by omega))]
        exact o7 j (by omega)
    · by_cases e : j = t + 1
      · rw [e, c6] at h1
        omega
      · rw [hvo j (by omega)] at h1 ⊢
        by_cases e2 : w = ct v
        · rw [e2, c3 2]
          refine ⟨vo v t, ⟨?_, o5 t (Nat.le_refl _)⟩, rfl, by rw [hkdn, hkdo _ (o5 t (Nat.le_refl _))]; exact h32⟩
          by_cases e3 : j = t
          · rw [e3]; exact Nat.le_refl _
          · exact Nat.le_of_lt (RO.lt ⟨o1, o2, o3, o4, o5, o6, o7, o8⟩ t j (by omega) (Nat.le_refl _))
        · obtain ⟨u, u1, u2⟩ := o8 j (by omega) w h1 (by omega)
          exact ⟨u, u1, by rw [c2 w e2]; exact u2.1, by rw [hkdo w (by omega), hkdo u (by omega)]; exact u2.2⟩
  have hRT : RT v' m' E D := rT.same (by rw [c10]) (by rw [c10]) (by rw [c10]) (m1 10 (by decide) (by decide) (by decide) (by decide)) (m1 40 (by decide) (by decide) (by decide) (by decide)) (fun i => m11 7 i (by omega) (by decide)) (fun j i q => m11 j i (by omega) (by omega))
  refine ⟨⟨hRG, hRK, hRO, hRT, fun i hi => ?_⟩, hkdn, fun hk47 => ⟨hRG, hRK, hRO, hRT, rfl, by rw [c6, hkdn]; exact hk47, ?_, fun i hi hne => ?_⟩⟩
  · by_cases e : i = ct v
    · rw [e]; exact hTXn
    · exact hTold i (by omega)
  · rw [c6]
    obtain ⟨t1, t2, t3, t4, t5, t6, t7, t8, t9, t10, t11⟩ := rT
    refine ⟨c1.symm, by rw [hμn], (tx v).length, by rw [c3]; rfl, by rw [htx]; exact Nat.le_refl _, by rw [hμn, n18], by rw [hμn, n19, htx, Nat.sub_self]; rfl, fun j q1 q2 => by rw [htx] at q2; omega, t3, t7, t8, by rw [htx]; exact t9, Or.inl ⟨by rw [htx], by rw [c3]; rfl⟩⟩
  · rw [c6] at hne
    exact hTold i (by omega)
