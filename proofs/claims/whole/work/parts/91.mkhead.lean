/-! an underline makes a heading of a paragraph -/
def FrH (m m' : MS) : Prop := (∀ k, k ≠ 10 → k ≠ 30 → k ≠ 40 → k ≠ 32 → k ≠ 34 → ¬ (47 ≤ k ∧ k ≤ 51) → m'.1 k = m.1 k) ∧ ∀ k i, k ≠ 7 → ¬ (41 ≤ k ∧ k ≤ 46) → ¬ (13 ≤ k ∧ k ≤ 27) → m'.2 k i = m.2 k i
theorem FrM.h {m m' : MS} (h : FrM m m') : FrH m m' := ⟨fun k q1 q2 q3 _ _ q6 => h.1 k q1 q2 q3 q6, fun k i q1 q2 q3 => h.2 k i q1 q2 (by omega) (by omega) (by omega) (by omega)⟩
theorem FrH.i {m m' : MS} (h : FrH m m') {k : Nat} (hk : k = 30 ∨ k = 32 ∨ k = 34) (x : Int32) : FrH m (mI m' k x) := ⟨fun j q1 q2 q3 q4 q5 q6 => (mI_ne (by omega)).trans (h.1 j q1 q2 q3 q4 q5 q6), h.2⟩
theorem FrH.l {m m' : MS} (h : FrH m m') : FrL m m' := ⟨fun k q => h.1 k (by omega) (by omega) (by omega) (by omega) (by omega) (by omega), fun k i q => h.2 k i (by omega) (by omega) (by omega)⟩
theorem RA_toHead {v v' : VS} {m m' : MS} {μ : Nat → Nat} {t o B E i n : Nat} {D : DL} {lv : Int32} (hR : RA v m μ t o B E D) (hit : i = vo v t) (h4 : kd v i = 4) (h0 : 0 < i) (hi : i < ct v) (hn : n ≤ 3001) (hv : v' = vB (vB (vB v i 0 5) i 3 lv) i 10 (nI n)) (hmi : ∀ k, k = 10 ∨ k = 28 ∨ k = 30 ∨ k = 40 → m'.1 k = m.1 k) (hma : ∀ k a, ¬ (a = μ i ∧ (k = 13 ∨ k = 15 ∨ k = 17)) → m'.2 k a = m.2 k a) (hm3 : m'.2 13 (μ i) = 5 ∧ m'.2 15 (μ i) = lv ∧ m'.2 17 (μ i) = nI n) : RA v' m' μ t o B E D := by
  obtain ⟨rG, rK, rO, rT, rX⟩ := hR
  have hvb : ∀ j q, ¬ (j = i ∧ (q = 0 ∨ q = 3 ∨ q = 10)) → vb v' j q = vb v j q := fun j q z => by
    rw [hv]
    show upd2 (upd2 (upd2 (vb v) i 0 _) i 3 _) i 10 _ j q = _
    rw [upd2_off (fun y => z ⟨y.1, Or.inr (Or.inr y.2)⟩), upd2_off (fun y => z ⟨y.1, Or.inr (Or.inl y.2)⟩), upd2_off (fun y => z ⟨y.1, Or.inl y.2⟩)]
  have w0 : vb v' i 0 = 5 := by
    rw [hv]
    show upd2 (upd2 (upd2 (vb v) i 0 _) i 3 _) i 10 _ i 0 = _
    rw [upd2_off (fun y => absurd y.2 (by decide)), upd2_off (fun y => absurd y.2 (by decide)), upd2_here]
  have w3 : vb v' i 3 = lv := by
    rw [hv]
    show upd2 (upd2 (upd2 (vb v) i 0 _) i 3 _) i 10 _ i 3 = _
    rw [upd2_off (fun y => absurd y.2 (by decide)), upd2_here]
  have w10 : vb v' i 10 = nI n := by rw [hv]; exact upd2_here
  have hvr : vr v' = vr v := by rw [hv]; rfl
  have hvo : vo v' = vo v := by rw [hv]; rfl
  have hct : ct v' = ct v := by rw [hv]; rfl
  have htx : tx v' = tx v := by unfold tx; rw [hvr]
  have hk5 : kd v' i = 5 := by unfold kd; rw [w0]; rfl
  have hvj : ∀ j, j ≠ i → vb v' j = vb v j := fun j hj => by funext q; exact hvb j q (fun z => hj z.1)
  have hkj : ∀ j, j ≠ i → kd v' j = kd v j := fun j hj => by unfold kd; rw [hvj j hj]
  have hne : ∀ j, j < ct v → j ≠ i → μ j ≠ μ i := by
    intro j hj hn e
    rcases Nat.lt_trichotomy j i with z | z | z
    · have := rG.2.2.2.2.1 j _ z hi; omega
    · exact hn z
    · have := rG.2.2.2.2.1 _ j z hj; omega
  have h2 : ∀ j, vb v' j 2 = vb v j 2 := fun j => hvb j 2 (fun z => by omega)
  refine ⟨rG.same hct (hmi 28 (by omega)) (fun j _ => hma 26 j (fun z => by omega)), ?_, ?_, rT.same (by rw [hvr]) (by rw [hvr]) (by rw [hvr]) (hmi 10 (by omega)) (hmi 40 (by omega)) (fun j => hma 7 j (fun z => by omega)) (fun k j q => hma k j (fun z => by omega)), ?_⟩
  · intro j hj
    rw [hct] at hj
    obtain ⟨k1, k2, k3⟩ := rK j hj
    rw [htx]
    refine ⟨?_, ?_, by rw [hma 25 _ (fun z => by omega), k3, hct, hdN_keep _ (fun a _ => h2 a)]⟩
    · by_cases e : j = i
      · rw [e] at k1 ⊢
        unfold BK
        rw [hk5, w0, w3, w10, hm3.1, hm3.2.1, hm3.2.2, hvb i 1 (fun z => by omega), h2, hvb i 4 (fun z => by omega), hvb i 9 (fun z => by omega), hvb i 11 (fun z => by omega), hvb i 12 (fun z => by omega), hvb i 13 (fun z => by omega), hma 14 _ (fun z => by omega), hma 16 _ (fun z => by omega), hma 22 _ (fun z => by omega), hma 24 _ (fun z => by omega), hma 27 _ (fun z => by omega)]
        obtain ⟨b1, b2, b3, b4, b5, b6, b7, ⟨a, b, q1, q2, q3, q4, q5, q6⟩, b9, b10, b11, b12⟩ := k1
        exact ⟨⟨rfl, by decide, by omega⟩, rfl, b3, b4, b5, rfl, b7, ⟨a, n, q1, hn, q3, q4, rfl, rfl⟩, fun z => absurd z (by decide), fun _ => b10 (by omega), fun _ => b11 (by omega), b12.1, fun _ z => absurd rfl z, fun _ _ => b12.2.2 (by omega) (by omega)⟩
      · exact k1.keep (hvj j e) (fun k z1 z2 _ _ _ _ _ _ _ => hma k _ (fun z => hne j hj e z.1))
    · by_cases e : j = i
      · rw [e] at k2 ⊢
        exact ⟨fun z => by omega, fun _ => by rw [hvb i 8 (fun z => by omega)]; exact k2.2 (by omega)⟩
      · exact k2.keep (hvj j e) (hma 20 _ (fun z => by omega)) (hma 21 _ (fun z => by omega)) (fun k _ => by rw [htx]) (by rw [htx]; exact Nat.le_refl _) (fun a _ => hma 7 a (fun z => by omega)) (Nat.le_refl _)
  · have rO0 := rO
    obtain ⟨o1, o2, o3, o4, o5, o6, o7, o8⟩ := rO
    refine ⟨o1, by rw [hvo]; exact o2, by rw [hmi 30 (by omega)]; exact o3, o4, fun k hk => by rw [hvo, hct]; exact o5 k hk, fun k hk => by rw [hvo, hma 29 k (fun z => by omega)]; exact o6 k hk, fun k hk => ?_, fun k hk w w1 w2 => ?_⟩
    · have : vo v k ≠ i := by
        have := rO0.lt t k hk (Nat.le_refl _)
        omega
      rw [hvo, h2, hkj _ this]
      exact o7 k hk
    · rw [hvo] at w1 ⊢
      rw [hct] at w2
      rw [h2]
      obtain ⟨u, u1, u2, u3⟩ := o8 k hk w w1 w2
      refine ⟨u, u1, u2, fun z => ?_⟩
      have hwi : w ≠ i := fun y => by rw [y, hk5] at z; omega
      rw [hkj w hwi] at z
      have hu := u3 z
      have hui : u ≠ i := fun y => by rw [y] at hu; omega
      rw [hkj u hui]
      exact hu
  · intro j hj
    rw [hct] at hj
    have hx := rX j hj
    rw [htx]
    by_cases e : j = i
    · rw [e] at hx ⊢
      refine ⟨fun _ => ?_, fun z => absurd (Or.inr (Or.inl hk5)) z⟩
      rw [hvb i 5 (fun z => by omega), hvb i 6 (fun z => by omega), hma 18 _ (fun z => by omega), hma 19 _ (fun z => by omega)]
      exact (hx.1 (Or.inl h4)).keep (fun k _ => by rw [htx]) (by rw [htx]; exact Nat.le_refl _) (fun a _ => hma 7 a (fun z => by omega)) (Nat.le_refl _)
    · exact hx.keep (hvj j e) (hma 18 _ (fun z => by omega)) (hma 19 _ (fun z => by omega)) (fun k _ => by rw [htx]) (by rw [htx]; exact Nat.le_refl _) (fun a _ => hma 7 a (fun z => by omega)) (Nat.le_refl _)
section MKHEAD
variable {Y : MX} {a0 : Array Value} {m : MS} {M : MS → Prop}
theorem d_makeHeading (F : mF Y a0) {v v' : VS} {μ : Nat → Nat} {t o B E f n h : Nat} {lv : Int32} {D : DL} (hR : RL v m μ t o B E D) (h4 : kd v (vo v t) = 4) (hht : h + 1 = t) (hf : vb v (vo v t) 5 = nI f) (hff : f ≤ (tx v).length) (hV : SV v v' (tkD (tx v) f D).2 (vo v t) (tkD (tx v) f D).1 (trW (tx v) (tkD (tx v) f D).1 (tx v).length - (tkD (tx v) f D).1)) (h32 : m.1 32 = nI t) (hn : n ≤ 3001)
    (hM0 : trW (tx v) (tkD (tx v) f D).1 (tx v).length - (tkD (tx v) f D).1 = 0 → ∀ m' E', RA v' m' μ h (h + 1) B E' (tkD (tx v) f D).2 → FrH m m' → m'.1 32 = nI h → m'.1 34 = m.1 34 → M m')
    (hM1 : trW (tx v) (tkD (tx v) f D).1 (tx v).length - (tkD (tx v) f D).1 ≠ 0 → ∀ m' E', RA (vB (vB (vB v' (vo v t) 0 5) (vo v t) 3 lv) (vo v t) 10 (nI n)) m' μ t t B E' (tkD (tx v) f D).2 → FrH m m' → m'.1 34 = 1 → M m') : mE Y 7 y_Mo_makeHeading [.ref (mo Y), .int lv, .int (nI n)] m (vP M) := by
  obtain ⟨rG, rK, rO, rT, ro, rk, rF, rX⟩ := hR
  obtain ⟨l1, l2, f2, l3, l4, l5, l6, l7, l8, l9, l10, l11, l12⟩ := rF
  have hfe : f2 = f := (nI_eq (by have := rT.1; omega) (by have := rT.1; omega)).mp (l3.symm.trans hf)
  subst hfe
  have rT0 := rT
  obtain ⟨t1, t2, t3, t4, t5, t6, t7, t8, t9, t10, t11⟩ := rT
  have rG0 := rG
  obtain ⟨g1, g2, g3, g4, g5, g6, g7⟩ := rG
  have hto := rO.1
  have hi : vo v t < ct v := rO.2.2.2.2.1 t (Nat.le_refl _)
  have hμi := g6 _ hi
  have hige := rG0.ge _ hi
  generalize hT : tx v = T at *
  generalize hie : vo v t = i at *
  have hge := tkD_ge (T := T) (f := f2) (D := D) (by omega) hff
  generalize hf' : (tkD T f2 D).1 = f' at *
  generalize hD' : (tkD T f2 D).2 = D' at *
  have hpar : (∃ p, LPar T f2 p) ∨ f2 = T.length := by
    rcases l12 with z | z | z | z
    · exact Or.inr z.1
    · exact Or.inl z.2.2
    · omega
    · omega
  have hpar' : ∃ p, (f' ≤ p ∧ LPar T f' p) ∨ f' = T.length := by
    rcases hpar with ⟨p, hp⟩ | z
    · refine ⟨p, ?_⟩
      rcases tkD_par (D := D) (by omega) hp with y | y
      · rw [hf'] at y
        exact Or.inl ⟨y, y, hp.2.1, hp.2.2.1, hp.2.2.2⟩
      · rw [hf'] at y
        exact Or.inr y
    · exact ⟨0, Or.inr (by omega)⟩
  obtain ⟨p, hp⟩ := hpar'
  have hto1 : f' ≤ trW T f' T.length ∧ trW T f' T.length ≤ T.length := by
    rcases hp with ⟨y1, y2⟩ | y
    · rw [trW_par y2 _ y2.2.1 (Nat.le_refl _)]
      have := y2.2.1
      omega
    · rw [← y, trW_end]
      omega
  generalize hto2 : trW T f' T.length = to at *
  -- the holder
  have hpos : 0 < i := by
    have := rO.lt t (t - 1) (by omega) (Nat.le_refl _)
    omega
  obtain ⟨hB, hI, h25⟩ := rK i hi
  obtain ⟨u, u1, u2, u3⟩ := hB.2.2.2.2.1 hpos
  obtain ⟨hBu, hIu, h25u⟩ := rK u (by omega)
  have hμu := g6 u (by omega)
  have hct1 : ct v = i + 1 := l1.symm
  have hhd : hdN v u (ct v) = hdN v u i + 1 := by
    rw [hct1]
    show hdN v u i + _ = _
    rw [if_pos ⟨hpos, u2⟩]
  have h29t : m.2 29 t = nI (μ i) := by rw [← hie]; exact rO.2.2.2.2.2.1 t (by omega)
  have hh : h < t := by omega
  refine g_Mo_makeHeading F ?_
  unfold w_Mo_makeHeading_0
  rw [h32, vp_nI (by omega), nI_clamp (by omega), h29t, vp_nI (by omega), nI_clamp (by omega), nI_1]
  refine ⟨by omega, d_closeNone F rO ?_⟩
  have hPl : PlI m T f2 E := ⟨fun k q1 q2 => l7 k q1 q2, by omega, by omega⟩
  have hC0 : NmC m := t11
  have hDs0 : DsM m D (T.length + E) := t4.same rfl (fun _ _ _ _ _ => rfl) (fun _ _ => rfl) (Nat.le_refl _)
  refine d_Mo_takeDefinitions (T := T) (f0 := f2) (δ := E) (P0 := T.length + E) (D0 := D) F hC0 (by omega) hPl t1 hff l5 l6 t2 (Nat.le_refl _) (by omega) hDs0 l11 t10 (fun m2 P2 q1 q2 q3 q4 q5 q6 q7 q8 q9 q10 => ?_)
  rw [hf'] at q2 q3 q6 q8 q9 q10
  rw [hD'] at q7 q10
  have hPl2 : PlI m2 T f' E := ⟨fun k z1 z2 => (q1.2.2 _ (by omega)).trans (l7 k (by omega) z2), by omega, by omega⟩
  have hsame : T.length - f' = 0 ↔ to - f' = 0 := by
    rcases hp with ⟨y1, y2⟩ | y
    · have := trW_par y2 _ y2.2.1 (Nat.le_refl _)
      have := y2.2.1
      omega
    · omega
  rw [q3, lit_leJ (by decide) (by omega)]
  -- what both ends share
  obtain ⟨s1, s2, s3, s4, s5, s6, s7, s8, s9⟩ := hV
  have htx' : tx v' = T := by rw [← hT]; exact s1
  have hEP : ∃ E', P2 = T.length + E' := ⟨P2 - T.length, by omega⟩
  obtain ⟨E', rfl⟩ := hEP
  have hvo : ∀ k, k ≤ h → vo v k < i := fun k hk => by rw [← hie]; exact rO.lt t k (by omega) (Nat.le_refl _)
  have hRT : ∀ m3 : MS, m3.1 10 = nI (T.length + E') → DsM m3 D' (T.length + E') → NmC m3 → RT v' m3 E' D' := by
    intro m3 z1 z2 z3
    have hns := nsP_le (T := T) (f := f')
    have hnm := nsP_mono (T := T) (a := f') (b := T.length) (by omega)
    unfold RT
    rw [htx']
    exact ⟨t1, z1, by omega, z2, s2, s3, by omega, by omega, by omega, t10, z3⟩
  have hb2 : ∀ j, j ≠ i → vb v' j = vb v j := s5
  have hfr2 : FrM m m2 := FrM.rfl.td q1
  have hold : ∀ j, j < ct v → j ≠ i → ∀ (m3 : MS), (∀ k a, k ≠ 7 → ¬ (41 ≤ k ∧ k ≤ 46) → k ≠ 18 → k ≠ 19 → k ≠ 25 → k ≠ 26 → m3.2 k a = m.2 k a) → (∀ a, a < T.length + E → m3.2 7 a = m.2 7 a) → (∀ a, a ≠ μ i → m3.2 18 a = m.2 18 a ∧ m3.2 19 a = m.2 19 a) → BK v' m3 μ j ∧ IX v' m3 μ (T.length + E') j ∧ TX v' m3 μ (T.length + E') j := by
    intro j hj hji m3 z1 z2 z3
    obtain ⟨kj1, kj2, kj3⟩ := rK j hj
    have hne : μ j ≠ μ i := by
      intro z
      rcases Nat.lt_or_ge j i with y | y
      · have := g5 j i y hi; omega
      · omega
    refine ⟨kj1.keep (hb2 j hji) (fun k w1 w2 w3 w4 w5 w6 w7 w8 w9 => z1 k _ (by omega) (by omega) w3 w4 w8 w9), ?_, ?_⟩
    · exact kj2.keep (hb2 j hji) (z1 20 _ (by decide) (by decide) (by decide) (by decide) (by decide) (by decide)) (z1 21 _ (by decide) (by decide) (by decide) (by decide) (by decide) (by decide)) (fun k _ => by rw [htx', hT]) (by rw [htx', hT]; exact Nat.le_refl _) (fun a ha => z2 a ha) (by omega)
    · have hx := rX j hj hji
      exact hx.keep (hb2 j hji) (z3 _ hne).1 (z3 _ hne).2 (fun k _ => by rw [htx', hT]) (by rw [htx', hT]; exact Nat.le_refl _) (fun a ha => z2 a ha) (by omega)
  refine ⟨by omega, fun c => ?_, fun c => ?_⟩
  · -- nothing is left: it goes away
    have hn0 : to - f' = 0 := by omega
    rw [hn0, if_pos rfl] at s9
    have hct' : ct v' = i := by omega
    have e14 : m2.2 14 (μ i) = nI (μ u) := by rw [q1.2.1 14 _ (by decide) (by decide) (by omega)]; exact u3
    have e25 : m2.2 25 (μ u) = nI (hdN v u i + 1) := by
      rw [q1.2.1 25 _ (by decide) (by decide) (by omega)]
      show m.2 25 (μ u) = _
      rw [h25u, hhd]
    refine d_Mo_goAway F (by omega) (by omega) e14 e25 ?_
    generalize hm4 : mA (mA m2 26 (μ i) 1) 25 (μ u) (nI (hdN v u i)) = m4
    have hfr4 : FrM m m4 := by rw [← hm4]; exact (hfr2.a (Or.inr (Or.inr (Or.inr rfl))) _).a (Or.inr (Or.inr (Or.inl rfl))) _
    have i4 : m4.1 = m2.1 := by rw [← hm4]; rfl
    have p4 : ∀ a, m4.2 7 a = m2.2 7 a := fun a => by rw [← hm4, mA_ne (by decide), mA_ne (by decide)]
    have h430 : m4.1 30 = nI (t + 1) := by rw [i4, q1.1 30 (by decide) (by decide) (by omega), rO.2.2.1, ro]
    have h432 : m4.1 32 = nI (h + 1) := by rw [i4, q1.1 32 (by decide) (by decide) (by omega), h32, hht]
    have h434 : m4.1 34 = m.1 34 := by rw [i4, q1.1 34 (by decide) (by decide) (by omega)]
    unfold w_Mo_makeHeading_73
    rw [h430, nI_pred, ← hht]
    intro m5 e5 m6 e6
    have h532 : m5.1 32 - 1 = nI h := by rw [e5, mI_ne (by decide), h432, nI_pred]
    rw [h532, e5] at e6
    rw [e6]
    have hbig : RA v' (mI m4 30 (nI (h + 1))) μ h (h + 1) B E' D' := by
      refine ⟨?_, ?_, ?_, ?_, ?_⟩
      · refine ⟨by rw [hct']; exact hpos, g2, by rw [mI_ne (by decide), hfr4.1 28 (by decide) (by decide) (by decide) (by omega)]; exact g3, g4, fun a b z1 z2 => g5 a b z1 (by omega), fun a z1 => g6 a (by omega), fun j hj => ?_⟩
        show (m4.2 26 j = 0 ∧ _) ∨ (m4.2 26 j = 1 ∧ _)
        by_cases e : j = μ i
        · refine Or.inr ⟨?_, fun a z1 z2 => ?_⟩
          · rw [← hm4, mA_ne (by decide), e, mA_at]
          · have := g5 a i (by omega) hi
            omega
        · have hj26 : m4.2 26 j = m.2 26 j := by
            rw [← hm4, mA_ne (by decide), mA_ni e, q1.2.1 26 _ (by decide) (by decide) (by omega)]
          rw [hj26]
          rcases g7 j hj with ⟨z1, a, z2, z3⟩ | ⟨z1, z2⟩
          · refine Or.inl ⟨z1, a, ?_, z3⟩
            have : a ≠ i := fun y => e (by rw [← z3, y])
            omega
          · exact Or.inr ⟨z1, fun a y => z2 a (by omega)⟩
      · intro j hj
        rw [htx']
        have hji : j ≠ i := by omega
        obtain ⟨o1, o2, _⟩ := hold j (by omega) hji (mI m4 30 (nI (h + 1))) (fun k a w1 w2 w3 w4 w5 w6 => hfr4.2 k a w1 w2 w3 w4 w5 w6) (fun a ha => (p4 a).trans (q1.2.2 a ha)) (fun a ha => ⟨by
          show m4.2 18 a = _
          rw [← hm4, mA_ne (by decide), mA_ne (by decide), q1.2.1 18 _ (by decide) (by decide) (fun z => ha z.2)], by
          show m4.2 19 a = _
          rw [← hm4, mA_ne (by decide), mA_ne (by decide), q1.2.1 19 _ (by decide) (by decide) (fun z => ha z.2)]⟩)
        refine ⟨o1, o2, ?_⟩
        show m4.2 25 (μ j) = _
        obtain ⟨_, _, h25j⟩ := rK j (by omega)
        have hkeep : hdN v' j i = hdN v j i := hdN_keep i (fun a ha => by rw [hb2 a (by omega)])
        rw [hct', hkeep]
        by_cases e : j = u
        · subst e
          rw [← hm4, mA_at]
        · have hne : μ j ≠ μ u := by
            intro z
            rcases Nat.lt_or_ge j u with y | y
            · have := g5 j u y (by omega); omega
            · have := g5 u j (by omega) (by omega); omega
          rw [← hm4, mA_ni hne, mA_ne (by decide), q1.2.1 25 _ (by decide) (by decide) (by omega)]
          show m.2 25 (μ j) = _
          rw [h25j, hct1]
          show nI (hdN v j i + _) = _
          rw [if_neg (fun z => ?_)]
          · rfl
          · have : nI u = nI j := u2.symm.trans z.2
            exact e ((nI_eq (by omega) (by omega)).mp this).symm
      · exact rO.pop (by omega) (by omega) (fun k _ => by rw [s4]) (by omega) (fun k hk => by rw [hct']; exact hvo k hk) (fun j hj => by rw [hb2 j (by omega)]; exact ⟨rfl, rfl⟩) (mI_at _ _ _) (fun k => hfr4.2 29 k (by decide) (by decide) (by decide) (by decide) (by decide) (by decide))
      · refine hRT _ (by rw [mI_ne (by decide), i4]; exact q4) (q7.same (by rw [mI_ne (by decide), i4]) (fun j k w1 w2 _ => ?_) (fun a _ => p4 a) (Nat.le_refl _)) (fun k hk => ?_)
        · show m4.2 j k = _
          rw [← hm4, mA_ne (by omega), mA_ne (by omega)]
        · show m4.2 52 k = _ ∧ m4.2 53 k = _
          rw [hfr4.2 52 k (by decide) (by decide) (by decide) (by decide) (by decide) (by decide), hfr4.2 53 k (by decide) (by decide) (by decide) (by decide) (by decide) (by decide)]
          exact t11 k hk
      · intro j hj
        rw [htx']
        exact (hold j (by omega) (by omega) (mI m4 30 (nI (h + 1))) (fun k a w1 w2 w3 w4 w5 w6 => hfr4.2 k a w1 w2 w3 w4 w5 w6) (fun a ha => (p4 a).trans (q1.2.2 a ha)) (fun a ha => ⟨by
          show m4.2 18 a = _
          rw [← hm4, mA_ne (by decide), mA_ne (by decide), q1.2.1 18 _ (by decide) (by decide) (fun z => ha z.2)], by
          show m4.2 19 a = _
          rw [← hm4, mA_ne (by decide), mA_ne (by decide), q1.2.1 19 _ (by decide) (by decide) (fun z => ha z.2)]⟩)).2.2
    refine ⟨rfl, hM0 (by omega) _ E' (hbig.i (Or.inr (by decide)) _) ?_ (mI_at _ _ _) ?_⟩
    · exact ((hfr4.h).i (Or.inl rfl) _).i (Or.inr (Or.inl rfl)) _
    · rw [mI_ne (by decide), mI_ne (by decide)]; exact h434
  · -- it stays
    have hn0 : ¬ to - f' = 0 := by omega
    rw [if_neg hn0] at s9
    generalize hm4 : mA m2 19 (μ i) (nI (to - f')) = m4 at *
    have hfr4 : FrM m m4 := by rw [← hm4]; exact hfr2.a (Or.inr (Or.inl rfl)) _
    have i4 : m4.1 = m2.1 := by rw [← hm4]; rfl
    have p4 : ∀ a, m4.2 7 a = m2.2 7 a := fun a => by rw [← hm4, mA_ne (by decide)]
    have h430 : m4.1 30 = nI (t + 1) := by rw [i4, q1.1 30 (by decide) (by decide) (by omega), rO.2.2.1, ro]
    have e19 : m4.2 19 (μ i) = nI (to - f') := by rw [← hm4, mA_at]
    have h18' : ∀ a, a ≠ μ i → m4.2 18 a = m.2 18 a ∧ m4.2 19 a = m.2 19 a := fun a ha => ⟨by
      rw [← hm4, mA_ne (by decide), q1.2.1 18 _ (by decide) (by decide) (fun z => ha z.2)], by
      rw [← hm4, mA_ni ha, q1.2.1 19 _ (by decide) (by decide) (fun z => ha z.2)]⟩
    have h25' : ∀ a, m4.2 25 a = m.2 25 a := fun a => by rw [← hm4, mA_ne (by decide), q1.2.1 25 _ (by decide) (by decide) (by omega)]
    have h26' : ∀ a, m4.2 26 a = m.2 26 a := fun a => by rw [← hm4, mA_ne (by decide), q1.2.1 26 _ (by decide) (by decide) (by omega)]
    have hvb2 : ∀ j, vb v' j 2 = vb v j 2 := fun j => by
      by_cases e : j = i
      · rw [e]; exact s6 2 (by decide) (by decide)
      · rw [hb2 j e]
    have hvb0 : ∀ j, vb v' j 0 = vb v j 0 := fun j => by
      by_cases e : j = i
      · rw [e]; exact s6 0 (by decide) (by decide)
      · rw [hb2 j e]
    have hbig : RA v' (mI m4 30 (nI t)) μ t t B E' D' := by
      refine ⟨?_, ?_, ?_, ?_, ?_⟩
      · exact rG0.same s9 (by rw [mI_ne (by decide), hfr4.1 28 (by decide) (by decide) (by decide) (by omega)]) (fun j _ => h26' j)
      · intro j hj
        rw [htx']
        have h25j : (mI m4 30 (nI t)).2 25 (μ j) = nI (hdN v' j (ct v')) := by
          show m4.2 25 (μ j) = _
          rw [h25', (rK j (by omega)).2.2, s9, hdN_keep _ (fun a _ => hvb2 a)]
        by_cases e : j = i
        · subst e
          refine ⟨?_, ?_, h25j⟩
          · have hk := hB
            unfold BK kd at hk ⊢
            simp only [s6 0 (by decide) (by decide), s6 1 (by decide) (by decide), s6 2 (by decide) (by decide), s6 3 (by decide) (by decide), s6 4 (by decide) (by decide), s6 9 (by decide) (by decide), s6 10 (by decide) (by decide), s6 11 (by decide) (by decide), s6 12 (by decide) (by decide), s6 13 (by decide) (by decide)]
            have hmm : ∀ k, 13 ≤ k → k ≤ 27 → k ≠ 18 → k ≠ 19 → k ≠ 25 → k ≠ 26 → (mI m4 30 (nI t)).2 k (μ j) = m.2 k (μ j) := fun k w1 w2 w3 w4 w5 w6 => hfr4.2 k _ (by omega) (by omega) w3 w4 w5 w6
            rw [hmm 13 (by decide) (by decide) (by decide) (by decide) (by decide) (by decide), hmm 14 (by decide) (by decide) (by decide) (by decide) (by decide) (by decide), hmm 15 (by decide) (by decide) (by decide) (by decide) (by decide) (by decide), hmm 16 (by decide) (by decide) (by decide) (by decide) (by decide) (by decide), hmm 17 (by decide) (by decide) (by decide) (by decide) (by decide) (by decide), hmm 22 (by decide) (by decide) (by decide) (by decide) (by decide) (by decide), hmm 24 (by decide) (by decide) (by decide) (by decide) (by decide) (by decide), hmm 27 (by decide) (by decide) (by decide) (by decide) (by decide) (by decide)]
            exact hk
          · refine ⟨fun z => ?_, fun _ => ?_⟩
            · unfold kd at z h4; rw [s6 0 (by decide) (by decide)] at z; omega
            · rw [s6 8 (by decide) (by decide)]
              exact hI.2 (by omega)
        · obtain ⟨o1, o2, _⟩ := hold j (by omega) e (mI m4 30 (nI t)) (fun k a w1 w2 w3 w4 w5 w6 => hfr4.2 k a w1 w2 w3 w4 w5 w6) (fun a ha => (p4 a).trans (q1.2.2 a ha)) (fun a ha => h18' a ha)
          exact ⟨o1, o2, h25j⟩
      · obtain ⟨o1, o2, o3, o4, o5, o6, o7, o8⟩ := rO
        refine ⟨o1, by rw [s4]; exact o2, mI_at _ _ _, by omega, fun k hk => by rw [s4, s9]; exact o5 k hk, fun k hk => ?_, fun k hk => ?_, fun k hk w w1 w2 => ?_⟩
        · rw [s4]
          show m4.2 29 k = _
          rw [hfr4.2 29 k (by decide) (by decide) (by decide) (by decide) (by decide) (by decide)]
          exact o6 k (by omega)
        · unfold kd
          rw [s4, hvb2, hvb0]
          exact o7 k hk
        · rw [s4] at w1 ⊢
          rw [s9] at w2
          rw [hvb2]
          unfold kd at o8 ⊢
          simp only [hvb0]
          exact o8 k hk w w1 w2
      · refine hRT _ (by rw [mI_ne (by decide), i4]; exact q4) (q7.same (by rw [mI_ne (by decide), i4]) (fun j k w1 w2 _ => ?_) (fun a _ => p4 a) (Nat.le_refl _)) (fun k hk => ?_)
        · show m4.2 j k = _
          rw [← hm4, mA_ne (by omega)]
        · show m4.2 52 k = _ ∧ m4.2 53 k = _
          rw [hfr4.2 52 k (by decide) (by decide) (by decide) (by decide) (by decide) (by decide), hfr4.2 53 k (by decide) (by decide) (by decide) (by decide) (by decide) (by decide)]
          exact t11 k hk
      · intro j hj
        rw [htx']
        by_cases e : j = i
        · subst e
          refine ⟨fun _ => ?_, fun z => absurd (Or.inl (by unfold kd at h4 ⊢; rw [s6 0 (by decide) (by decide)]; exact h4)) z⟩
          rw [htx', s7, s8]
          refine ⟨f', to - f', f' + E, rfl, rfl, ?_, e19, by omega, by omega, fun k hk => ?_⟩
          · show m4.2 18 (μ j) = _
            rw [← hm4, mA_ne (by decide)]
            exact q2
          · show m4.2 7 _ = _
            rw [p4, q1.2.2 _ (by omega), show k + (f' + E) = f' + k + E by omega]
            exact l7 (f' + k) (by omega) (by omega)
        · exact (hold j (by omega) e (mI m4 30 (nI t)) (fun k a w1 w2 w3 w4 w5 w6 => hfr4.2 k a w1 w2 w3 w4 w5 w6) (fun a ha => (p4 a).trans (q1.2.2 a ha)) (fun a ha => h18' a ha)).2.2
    refine ⟨by omega, fun m5 e5 => ⟨by omega, fun m6 e6 => ⟨by omega, fun m7 e7 => ?_⟩⟩⟩
    have hPl7 : PlI m7 T f' E := ⟨fun k z1 z2 => by rw [e7, mA_ne (by decide), e6, mA_ne (by decide), e5, mA_ne (by decide)]; exact hPl2.1 k z1 z2, hPl2.2⟩
    refine d_Mo_trimEnd (T := T) (f := f') (δ := E) (p := p) F (by omega) hPl7 t1 (by omega) (by rw [e7, mA_ne (by decide), e6, mA_ne (by decide), e5, mA_ne (by decide)]; exact q2) (by rw [e7, mA_ne (by decide), e6, mA_ne (by decide), e5, mA_ne (by decide)]; exact q3) hp ?_
    rw [hto2]
    intro m8 e8
    unfold w_Mo_makeHeading_73
    intro m9 e9 m10 e10
    have i7 : m7.1 = m4.1 := by rw [e7, e6, e5, i4]; rfl
    have i8 : ∀ k, k ≠ 34 → m8.1 k = m4.1 k := fun k hk => by rw [e8, mI_ne hk]; show m7.1 k = _; rw [i7]
    rw [i8 30 (by decide), h430, nI_pred] at e9
    have i9 : ∀ k, k ≠ 34 → k ≠ 30 → m9.1 k = m4.1 k := fun k h1 h2 => by rw [e9, mI_ne h2]; exact i8 k h1
    have i10 : ∀ k, k ≠ 34 → k ≠ 30 → k ≠ 32 → m10.1 k = m4.1 k := fun k h1 h2 h3 => by rw [e10, mI_ne h3]; exact i9 k h1 h2
    have a10 : ∀ k a, m10.2 k a = (mA m7 19 (μ i) (nI (to - f'))).2 k a := fun k a => by rw [e10, e9, e8]; rfl
    have b10 : ∀ k a, ¬ (a = μ i ∧ (k = 13 ∨ k = 15 ∨ k = 17)) → m10.2 k a = m4.2 k a := by
      intro k a hk
      rw [a10, ← hm4]
      by_cases e : k = 19
      · by_cases e2 : a = μ i
        · rw [e, e2, mA_at, mA_at]
        · rw [mA_ni e2, mA_ni e2, e7, mA_ni e2, e6, mA_ni e2, e5, mA_ni e2]
      · rw [mA_ne e, mA_ne e]
        by_cases e2 : a = μ i
        · rw [e7, mA_ne (fun y => hk ⟨e2, Or.inr (Or.inr y)⟩), e6, mA_ne (fun y => hk ⟨e2, Or.inr (Or.inl y)⟩), e5, mA_ne (fun y => hk ⟨e2, Or.inl y⟩)]
        · rw [e7, mA_ni e2, e6, mA_ni e2, e5, mA_ni e2]
    have hkd' : kd v' i = 4 := by unfold kd at h4 ⊢; rw [hvb0]; exact h4
    have hres := RA_toHead (i := i) (lv := lv) (n := n) (m' := m10) (v' := vB (vB (vB v' i 0 5) i 3 lv) i 10 (nI n)) hbig (by rw [s4, hie]) hkd' hpos (by rw [s9]; exact hi) hn rfl (fun k q => by
      rcases q with q | q | q | q
      · rw [q]; exact i10 10 (by decide) (by decide) (by decide)
      · rw [q]; exact i10 28 (by decide) (by decide) (by decide)
      · rw [q, mI_at, e10, mI_ne (by decide), e9, mI_at]
      · rw [q]; exact i10 40 (by decide) (by decide) (by decide)) b10 ⟨by rw [a10, mA_ne (by decide), e7, mA_ne (by decide), e6, mA_ne (by decide), e5, mA_at], by rw [a10, mA_ne (by decide), e7, mA_ne (by decide), e6, mA_at], by rw [a10, mA_ne (by decide), e7, mA_at]⟩
    refine ⟨rfl, hM1 hn0 m10 E' hres ⟨fun k z1 z2 z3 z4 z5 z6 => (i10 k z5 z2 z4).trans (hfr4.1 k z1 z2 z3 z6), fun k a z1 z2 z3 => ?_⟩ ?_⟩
    · rw [b10 k a (fun z => by omega)]
      exact hfr4.2 k a z1 z2 (by omega) (by omega) (by omega) (by omega)
    · rw [e10, mI_ne (by decide), e9, mI_ne (by decide), e8, mI_at]
end MKHEAD
