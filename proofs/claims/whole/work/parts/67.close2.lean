/-- what closing may change in the model -/
def FrM (m m' : MS) : Prop := (∀ k, k ≠ 10 → k ≠ 30 → k ≠ 40 → ¬ (47 ≤ k ∧ k ≤ 51) → m'.1 k = m.1 k) ∧ ∀ k i, k ≠ 7 → ¬ (41 ≤ k ∧ k ≤ 46) → k ≠ 18 → k ≠ 19 → k ≠ 25 → k ≠ 26 → m'.2 k i = m.2 k i
theorem FrM.rfl {m : MS} : FrM m m := ⟨fun _ _ _ _ _ => _root_.rfl, fun _ _ _ _ _ _ _ _ => _root_.rfl⟩
theorem FrM.i30 {m m' : MS} (h : FrM m m') (x : Int32) : FrM m (mI m' 30 x) := ⟨fun k q1 q2 q3 q4 => (mI_ne q2).trans (h.1 k q1 q2 q3 q4), h.2⟩
theorem FrM.a {m m' : MS} (h : FrM m m') {k i : Nat} (hk : k = 18 ∨ k = 19 ∨ k = 25 ∨ k = 26) (x : Int32) : FrM m (mA m' k i x) := ⟨h.1, fun j q q1 q2 q3 q4 q5 q6 => (mA_ne (by omega)).trans (h.2 j q q1 q2 q3 q4 q5 q6)⟩
theorem FrM.td {m m' m2 : MS} {b P : Nat} (h : FrM m m') (h2 : TdR m' m2 b P) : FrM m m2 := ⟨fun k q1 q2 q3 q4 => (h2.1 k q1 q3 q4).trans (h.1 k q1 q2 q3 q4), fun k i q1 q2 q3 q4 q5 q6 => (h2.2.1 k i q1 q2 (by omega)).trans (h.2 k i q1 q2 q3 q4 q5 q6)⟩
/-- the class's state with the paragraph i settled -/
def SV (v v' : VS) (D' : DL) (i f' n : Nat) : Prop := vr v' 10 = vr v 10 ∧ vr v' 12 = flatD D' ∧ vr v' 13 = endsD 0 D' ∧ vo v' = vo v ∧ (∀ j, j ≠ i → vb v' j = vb v j) ∧ (∀ k, k ≠ 5 → k ≠ 6 → vb v' i k = vb v i k) ∧ vb v' i 5 = nI f' ∧ vb v' i 6 = nI n ∧ ct v' = (if n = 0 then ct v - 1 else ct v)
theorem hdN_pos {v : VS} {i n j : Nat} (h : j < n) (h0 : 0 < j) (hj : vb v j 2 = nI i) : 0 < hdN v i n := by
  induction n with
  | zero => omega
  | succ n ih =>
    show 0 < hdN v i n + _
    by_cases e : j = n
    · subst e
      rw [if_pos ⟨h0, hj⟩]
      omega
    · have := ih (by omega)
      omega
theorem hdN_le {v : VS} {i : Nat} : ∀ n, hdN v i n ≤ n := by
  intro n
  induction n with
  | zero => exact Nat.le_refl _
  | succ n ih =>
    show hdN v i n + _ ≤ _
    split <;> omega
theorem RG.ge {v : VS} {m : MS} {μ : Nat → Nat} {B : Nat} (h : RG v m μ B) : ∀ i, i < ct v → i ≤ μ i := by
  intro i
  induction i with
  | zero => intro _; omega
  | succ n ih =>
    intro hn
    have h1 := ih (by omega)
    have h2 := h.2.2.2.2.1 n (n + 1) (by omega) hn
    omega
section CLOSEP
variable {Y : MX} {a0 : Array Value} {m : MS} {M : MS → Prop}
theorem d_Mo_closeTop (F : mF Y a0) {t h b : Nat} (ht : t ≤ 38) (hh : h < t) (h30 : m.1 30 = nI (t + 1)) (h29 : m.2 29 t = nI b) (hcl : ∀ N : MS → Prop, (∀ mm, (mm.1 30 = nI t ∧ (∀ k, h < k → k < t → ∃ b, mm.2 29 k = nI b ∧ b < 3300 ∧ mm.2 13 b ≠ 4 ∧ mm.2 13 b ≠ 7) ∧ M (mI mm 30 (nI (h + 1)))) → N mm) → mE Y 5 y_Mo_close [.ref (mo Y), .int (nI b)] (mI m 30 (nI t)) (vP N)) : mE Y 6 y_Mo_closeTo [.ref (mo Y), .int (nI (h + 1))] m (vP M) := by
  have key : ∀ n x1 m', (x1 = nI (h + 1) ∧ ∃ mm, (∀ k, h < k → k < t → ∃ b, mm.2 29 k = nI b ∧ b < 3300 ∧ mm.2 13 b ≠ 4 ∧ mm.2 13 b ≠ 7) ∧ M (mI mm 30 (nI (h + 1))) ∧ n ≤ t ∧ h + 1 ≤ n ∧ m' = mI mm 30 (nI n)) → w_Mo_closeTo_0 Y x1 m' (vP M) (fun x1 m' => ∃ j, j < n ∧ x1 = nI (h + 1) ∧ ∃ mm, (∀ k, h < k → k < t → ∃ b, mm.2 29 k = nI b ∧ b < 3300 ∧ mm.2 13 b ≠ 4 ∧ mm.2 13 b ≠ 7) ∧ M (mI mm 30 (nI (h + 1))) ∧ j ≤ t ∧ h + 1 ≤ j ∧ m' = mI mm 30 (nI j)) := by
    rintro n x1 m' ⟨rfl, mm, hc, hM, hn, hn2, rfl⟩
    have e30 : (mI mm 30 (nI n)).1 30 = nI n := mI_at _ _ _
    unfold w_Mo_closeTo_0
    rw [e30]
    by_cases hnh : n = h + 1
    · subst hnh
      exact ⟨fun _ => vP.v hM rfl, fun z => absurd (Int32.le_refl _) z⟩
    · refine ⟨fun z => ?_, fun _ m1 e1 => ?_⟩
      · rw [nI_leI (by omega) (by omega)] at z; omega
      · have hsub : nI n - 1 = nI (n - 1) := by rw [show (1 : Int32) = nI 1 from rfl, pk_sub (by omega)]
        rw [hsub, mI_mI] at e1
        have f30 : m1.1 30 = nI (n - 1) := by rw [e1, mI_at]
        obtain ⟨b, g1, g2, g3, g4⟩ := hc (n - 1) (by omega) (by omega)
        have g1' : m1.2 29 (n - 1) = nI b := by rw [e1]; exact g1
        simp (discharger := omega) only [f30, vp_nI, nI_clamp, g1']
        exact ⟨by omega, d_Mo_closeNo F g2 (by rw [e1]; exact g3) (fun z => absurd (by rw [e1] at z; exact z) g4) ⟨n - 1, by omega, by trivial, mm, hc, hM, by omega, by omega, e1⟩⟩
  refine g_Mo_closeTo (I0 := fun n x1 m' => x1 = nI (h + 1) ∧ ∃ mm, (∀ k, h < k → k < t → ∃ b, mm.2 29 k = nI b ∧ b < 3300 ∧ mm.2 13 b ≠ 4 ∧ mm.2 13 b ≠ 7) ∧ M (mI mm 30 (nI (h + 1))) ∧ n ≤ t ∧ h + 1 ≤ n ∧ m' = mI mm 30 (nI n)) F ?_ (fun n x1 m' hx => key n x1 m' hx)
  unfold w_Mo_closeTo_0
  rw [h30]
  refine ⟨fun z => ?_, fun _ m1 e1 => ?_⟩
  · rw [nI_leI (by omega) (by omega)] at z; omega
  · have hsub : nI (t + 1) - 1 = nI t := nI_pred t
    rw [hsub] at e1
    have f30 : m1.1 30 = nI t := by rw [e1, mI_at]
    have g1' : m1.2 29 t = nI b := by rw [e1]; exact h29
    simp (discharger := omega) only [f30, vp_nI, nI_clamp, g1']
    refine ⟨by omega, ?_⟩
    rw [e1]
    exact hcl _ (fun mm hmm => ⟨t, by trivial, mm, hmm.2.1, hmm.2.2, Nat.le_refl _, by omega, by rw [← hmm.1, mI_self]⟩)
theorem RO.conts {v : VS} {m : MS} {μ : Nat → Nat} {t o B P : Nat} (h : RO v m μ t o) (hG : RG v m μ B) (hK : RK v m μ P) (k : Nat) (hk : k < t) (hko : k < o) : ∃ b, m.2 29 k = nI b ∧ b < 3300 ∧ m.2 13 b ≠ 4 ∧ m.2 13 b ≠ 7 := by
  have hlt := h.2.2.2.2.1 k (by omega)
  have hkd := (h.2.2.2.2.2.2.1 k hk).2.2
  obtain ⟨hB, _, _⟩ := hK _ hlt
  have hμ := hG.2.2.2.2.2.1 _ hlt
  have hB2 := hG.2.1
  refine ⟨μ (vo v k), h.2.2.2.2.2.1 k hko, by omega, ?_, ?_⟩
  · rw [hB.2.1, show (4 : Int32) = nI 4 from rfl, Ne, nI_kd hB 4 (by decide)]; omega
  · rw [hB.2.1, show (7 : Int32) = nI 7 from rfl, Ne, nI_kd hB 7 (by decide)]; omega
/-- a paragraph at the tip is closed, with all that is open behind h -/
theorem d_closePara (F : mF Y a0) {v v' : VS} {μ : Nat → Nat} {t o B E h f : Nat} {D : DL} (hR : RL v m μ t o B E D) (h4 : kd v (vo v t) = 4) (hh : h < t) (hf : vb v (vo v t) 5 = nI f) (hff : f ≤ (tx v).length) (hV : SV v v' (tkD (tx v) f D).2 (vo v t) (tkD (tx v) f D).1 (trW (tx v) (tkD (tx v) f D).1 (tx v).length - (tkD (tx v) f D).1)) (hM : ∀ m' E', RA v' m' μ h (h + 1) B E' (tkD (tx v) f D).2 → FrM m m' → M m') : mE Y 6 y_Mo_closeTo [.ref (mo Y), .int (nI (h + 1))] m (vP M) := by
  obtain ⟨rG, rK, rO, rT, ro, rk, rF, rX⟩ := hR
  obtain ⟨l1, l2, f2, l3, l4, l5, l6, l7, l8, l9, l10, l11, l12⟩ := rF
  have hfe : f2 = f := (nI_eq (by have := rT.1; omega) (by have := rT.1; omega)).mp (l3.symm.trans hf)
  subst hfe
  have rT0 := rT
  obtain ⟨t1, t2, t3, t4, t5, t6, t7, t8, t9, t10, t11⟩ := rT
  have rG0 := rG
  obtain ⟨g1, g2, g3, g4, g5, g6, g7⟩ := rG
  have hto := rO.1
  have hi : vo v t < ct v := rO.2.2.2.2.1 t (Nat.le_refl _)
  have hμi := g6 _ hi
  have hige := rG0.ge _ hi
  generalize hT : tx v = T at *
  generalize hie : vo v t = i at *
  have hge := tkD_ge (T := T) (f := f2) (D := D) (by omega) hff
  generalize hf' : (tkD T f2 D).1 = f' at *
  generalize hD' : (tkD T f2 D).2 = D' at *
  have hpar : (∃ p, LPar T f2 p) ∨ f2 = T.length := by
    rcases l12 with z | z | z | z
    · exact Or.inr z.1
    · exact Or.inl z.2.2
    · omega
    · omega
  have hpar' : ∃ p, (f' ≤ p ∧ LPar T f' p) ∨ f' = T.length := by
    rcases hpar with ⟨p, hp⟩ | z
    · refine ⟨p, ?_⟩
      rcases tkD_par (D := D) (by omega) hp with y | y
      · rw [hf'] at y
        exact Or.inl ⟨y, y, hp.2.1, hp.2.2.1, hp.2.2.2⟩
      · rw [hf'] at y
        exact Or.inr y
    · exact ⟨0, Or.inr (by omega)⟩
  obtain ⟨p, hp⟩ := hpar'
  have hto1 : f' ≤ trW T f' T.length ∧ trW T f' T.length ≤ T.length := by
    rcases hp with ⟨y1, y2⟩ | y
    · rw [trW_par y2 _ y2.2.1 (Nat.le_refl _)]
      have := y2.2.1
      omega
    · rw [← y, trW_end]
      omega
  generalize hto2 : trW T f' T.length = to at *
  -- the holder
  have hpos : 0 < i := by
    have := rO.lt t (t - 1) (by omega) (Nat.le_refl _)
    omega
  obtain ⟨hB, hI, h25⟩ := rK i hi
  obtain ⟨u, u1, u2, u3⟩ := hB.2.2.2.2.1 hpos
  obtain ⟨hBu, hIu, h25u⟩ := rK u (by omega)
  have hμu := g6 u (by omega)
  have hct1 : ct v = i + 1 := l1.symm
  have hhd : hdN v u (ct v) = hdN v u i + 1 := by
    rw [hct1]
    show hdN v u i + _ = _
    rw [if_pos ⟨hpos, u2⟩]
  have h29t : m.2 29 t = nI (μ i) := by rw [← hie]; exact rO.2.2.2.2.2.1 t (by omega)
  refine d_Mo_closeTop F (by omega) hh (by rw [← ro]; exact rO.2.2.1) h29t (fun N hN => ?_)
  refine g_Mo_close F ?_
  have k13 : (mI m 30 (nI t)).2 13 (μ i) = 4 := by
    show m.2 13 (μ i) = 4
    rw [hB.2.1, show (4 : Int32) = nI 4 from rfl]
    exact (nI_kd hB 4 (by decide)).mpr h4
  simp (discharger := omega) only [w_Mo_close_0, w_Mo_close_62, vp_nI, nI_clamp, k13]
  refine ⟨by omega, fun _ => ?_, fun z => absurd (by trivial) z⟩
  have hPl : PlI (mI m 30 (nI t)) T f2 E := ⟨fun k q1 q2 => l7 k q1 q2, by omega, by omega⟩
  have hC0 : NmC (mI m 30 (nI t)) := t11
  have hDs0 : DsM (mI m 30 (nI t)) D (T.length + E) := t4.same (by rw [mI_ne (by decide)]) (fun _ _ _ _ _ => rfl) (fun _ _ => rfl) (Nat.le_refl _)
  refine d_Mo_takeDefinitions (T := T) (f0 := f2) (δ := E) (P0 := T.length + E) (D0 := D) F hC0 (by omega) hPl t1 hff l5 l6 (by rw [mI_ne (by decide)]; exact t2) (Nat.le_refl _) (by omega) hDs0 l11 t10 (fun m2 P2 q1 q2 q3 q4 q5 q6 q7 q8 q9 q10 => ?_)
  rw [hf'] at q2 q3 q6 q8 q9 q10
  rw [hD'] at q7 q10
  have hPl2 : PlI m2 T f' E := ⟨fun k z1 z2 => (q1.2.2 _ (by omega)).trans (l7 k (by omega) z2), by omega, by omega⟩
  refine d_Mo_trimEnd (T := T) (f := f') (δ := E) (p := p) F (by omega) hPl2 t1 (by omega) q2 q3 hp ?_
  rw [hto2]
  have e19 : (mA m2 19 (μ i) (nI (to - f'))).2 19 (μ i) = nI (to - f') := mA_at _ _ _ _
  simp (discharger := omega) only [vp_nI, e19, lit_eqJ]
  -- what both ends share
  obtain ⟨s1, s2, s3, s4, s5, s6, s7, s8, s9⟩ := hV
  have htx' : tx v' = T := by rw [← hT]; exact s1
  have hEP : ∃ E', P2 = T.length + E' := ⟨P2 - T.length, by omega⟩
  obtain ⟨E', rfl⟩ := hEP
  have hvo : ∀ k, k ≤ h → vo v k < i := fun k hk => by rw [← hie]; exact rO.lt t k (by omega) (Nat.le_refl _)
  have hRT : ∀ m3 : MS, m3.1 10 = nI (T.length + E') → DsM m3 D' (T.length + E') → NmC m3 → RT v' m3 E' D' := by
    intro m3 z1 z2 z3
    have hns := nsP_le (T := T) (f := f')
    have hnm := nsP_mono (T := T) (a := f') (b := T.length) (by omega)
    unfold RT
    rw [htx']
    exact ⟨t1, z1, by omega, z2, s2, s3, by omega, by omega, by omega, t10, z3⟩
  have hb2 : ∀ j, j ≠ i → vb v' j = vb v j := s5
  have hfr2 : FrM m m2 := (FrM.rfl.i30 _).td q1
  have hold : ∀ j, j < ct v → j ≠ i → ∀ (m3 : MS), (∀ k a, k ≠ 7 → ¬ (41 ≤ k ∧ k ≤ 46) → k ≠ 18 → k ≠ 19 → k ≠ 25 → k ≠ 26 → m3.2 k a = m.2 k a) → (∀ a, a < T.length + E → m3.2 7 a = m.2 7 a) → (∀ a, a ≠ μ i → m3.2 18 a = m.2 18 a ∧ m3.2 19 a = m.2 19 a) → BK v' m3 μ j ∧ IX v' m3 μ (T.length + E') j ∧ TX v' m3 μ (T.length + E') j := by
    intro j hj hji m3 z1 z2 z3
    obtain ⟨kj1, kj2, kj3⟩ := rK j hj
    have hne : μ j ≠ μ i := by
      intro z
      rcases Nat.lt_or_ge j i with y | y
      · have := g5 j i y hi; omega
      · omega
    refine ⟨kj1.keep (hb2 j hji) (fun k w1 w2 w3 w4 w5 w6 w7 w8 w9 => z1 k _ (by omega) (by omega) w3 w4 w8 w9), ?_, ?_⟩
    · exact kj2.keep (hb2 j hji) (z1 20 _ (by decide) (by decide) (by decide) (by decide) (by decide) (by decide)) (z1 21 _ (by decide) (by decide) (by decide) (by decide) (by decide) (by decide)) (fun k _ => by rw [htx', hT]) (by rw [htx', hT]; exact Nat.le_refl _) (fun a ha => z2 a ha) (by omega)
    · have hx := rX j hj hji
      exact hx.keep (hb2 j hji) (z3 _ hne).1 (z3 _ hne).2 (fun k _ => by rw [htx', hT]) (by rw [htx', hT]; exact Nat.le_refl _) (fun a ha => z2 a ha) (by omega)
  refine ⟨by omega, fun c => ?_, fun c => ?_⟩
  · -- nothing is left: it goes away
    have hn0 : to - f' = 0 := by omega
    rw [hn0, if_pos rfl] at s9
    have hct' : ct v' = i := by omega
    have e14 : (mA m2 19 (μ i) (nI (to - f'))).2 14 (μ i) = nI (μ u) := by rw [mA_ne (by decide), q1.2.1 14 _ (by decide) (by decide) (by omega)]; exact u3
    have e25 : (mA m2 19 (μ i) (nI (to - f'))).2 25 (μ u) = nI (hdN v u i + 1) := by
      rw [mA_ne (by decide), q1.2.1 25 _ (by decide) (by decide) (by omega)]
      show m.2 25 (μ u) = _
      rw [h25u, hhd]
    refine d_Mo_goAway F (by omega) (by omega) e14 e25 ⟨rfl, hN _ ?_⟩
    generalize hm4 : mA (mA (mA m2 19 (μ i) (nI (to - f'))) 26 (μ i) 1) 25 (μ u) (nI (hdN v u i)) = m4
    have hfr4 : FrM m m4 := by rw [← hm4]; exact ((hfr2.a (Or.inr (Or.inl rfl)) _).a (Or.inr (Or.inr (Or.inr rfl))) _).a (Or.inr (Or.inr (Or.inl rfl))) _
    have i4 : m4.1 = m2.1 := by rw [← hm4]; rfl
    have p4 : ∀ a, m4.2 7 a = m2.2 7 a := fun a => by rw [← hm4, mA_ne (by decide), mA_ne (by decide), mA_ne (by decide)]
    have h430 : m4.1 30 = nI t := by rw [i4, q1.1 30 (by decide) (by decide) (by omega), mI_at]
    refine ⟨h430, fun k hk1 hk2 => ?_, hM _ E' ⟨?_, ?_, ?_, ?_, ?_⟩ (hfr4.i30 _)⟩
    · obtain ⟨b, z1, z2, z3, z4⟩ := rO.conts rG0 rK k hk2 (by omega)
      exact ⟨b, by rw [hfr4.2 29 k (by decide) (by decide) (by decide) (by decide) (by decide) (by decide)]; exact z1, z2, by rw [hfr4.2 13 b (by decide) (by decide) (by decide) (by decide) (by decide) (by decide)]; exact z3, by rw [hfr4.2 13 b (by decide) (by decide) (by decide) (by decide) (by decide) (by decide)]; exact z4⟩
    · refine ⟨by rw [hct']; exact hpos, g2, by rw [mI_ne (by decide), hfr4.1 28 (by decide) (by decide) (by decide) (by omega)]; exact g3, g4, fun a b z1 z2 => g5 a b z1 (by omega), fun a z1 => g6 a (by omega), fun j hj => ?_⟩
      show (m4.2 26 j = 0 ∧ _) ∨ (m4.2 26 j = 1 ∧ _)
      by_cases e : j = μ i
      · refine Or.inr ⟨?_, fun a z1 z2 => ?_⟩
        · rw [← hm4, mA_ne (by decide), e, mA_at]
        · have := g5 a i (by omega) hi
          omega
      · have hj26 : m4.2 26 j = m.2 26 j := by
          rw [← hm4, mA_ne (by decide), mA_ni e, mA_ne (by decide), q1.2.1 26 _ (by decide) (by decide) (by omega)]
          rfl
        rw [hj26]
        rcases g7 j hj with ⟨z1, a, z2, z3⟩ | ⟨z1, z2⟩
        · refine Or.inl ⟨z1, a, ?_, z3⟩
          have : a ≠ i := fun y => e (by rw [← z3, y])
          omega
        · exact Or.inr ⟨z1, fun a y => z2 a (by omega)⟩
    · intro j hj
      rw [htx']
      have hji : j ≠ i := by omega
      obtain ⟨o1, o2, _⟩ := hold j (by omega) hji (mI m4 30 (nI (h + 1))) (fun k a w1 w2 w3 w4 w5 w6 => hfr4.2 k a w1 w2 w3 w4 w5 w6) (fun a ha => (p4 a).trans (q1.2.2 a ha)) (fun a ha => ⟨by
        show m4.2 18 a = _
        rw [← hm4, mA_ne (by decide), mA_ne (by decide), mA_ne (by decide), q1.2.1 18 _ (by decide) (by decide) (fun z => ha z.2)]; rfl, by
        show m4.2 19 a = _
        rw [← hm4, mA_ne (by decide), mA_ne (by decide), mA_ni ha, q1.2.1 19 _ (by decide) (by decide) (fun z => ha z.2)]; rfl⟩)
      refine ⟨o1, o2, ?_⟩
      show m4.2 25 (μ j) = _
      obtain ⟨_, _, h25j⟩ := rK j (by omega)
      have hkeep : hdN v' j i = hdN v j i := hdN_keep i (fun a ha => by rw [hb2 a (by omega)])
      rw [hct', hkeep]
      by_cases e : j = u
      · subst e
        rw [← hm4, mA_at]
      · have hne : μ j ≠ μ u := by
          intro z
          rcases Nat.lt_or_ge j u with y | y
          · have := g5 j u y (by omega); omega
          · have := g5 u j (by omega) (by omega); omega
        rw [← hm4, mA_ni hne, mA_ne (by decide), mA_ne (by decide), q1.2.1 25 _ (by decide) (by decide) (by omega)]
        show m.2 25 (μ j) = _
        rw [h25j, hct1]
        show nI (hdN v j i + _) = _
        rw [if_neg (fun z => ?_)]
        · rfl
        · have : nI u = nI j := u2.symm.trans z.2
          exact e ((nI_eq (by omega) (by omega)).mp this).symm
    · exact rO.pop (by omega) (by omega) (fun k _ => by rw [s4]) (by omega) (fun k hk => by rw [hct']; exact hvo k hk) (fun j hj => by rw [hb2 j (by omega)]; exact ⟨rfl, rfl⟩) (mI_at _ _ _) (fun k => hfr4.2 29 k (by decide) (by decide) (by decide) (by decide) (by decide) (by decide))
    · refine hRT _ (by rw [mI_ne (by decide), i4]; exact q4) (q7.same (by rw [mI_ne (by decide), i4]) (fun j k w1 w2 _ => ?_) (fun a _ => p4 a) (Nat.le_refl _)) (fun k hk => ?_)
      · show m4.2 j k = _
        rw [← hm4, mA_ne (by omega), mA_ne (by omega), mA_ne (by omega)]
      · show m4.2 52 k = _ ∧ m4.2 53 k = _
        rw [hfr4.2 52 k (by decide) (by decide) (by decide) (by decide) (by decide) (by decide), hfr4.2 53 k (by decide) (by decide) (by decide) (by decide) (by decide) (by decide)]
        exact t11 k hk
    · intro j hj
      rw [htx']
      exact (hold j (by omega) (by omega) (mI m4 30 (nI (h + 1))) (fun k a w1 w2 w3 w4 w5 w6 => hfr4.2 k a w1 w2 w3 w4 w5 w6) (fun a ha => (p4 a).trans (q1.2.2 a ha)) (fun a ha => ⟨by
        show m4.2 18 a = _
        rw [← hm4, mA_ne (by decide), mA_ne (by decide), mA_ne (by decide), q1.2.1 18 _ (by decide) (by decide) (fun z => ha z.2)]; rfl, by
        show m4.2 19 a = _
        rw [← hm4, mA_ne (by decide), mA_ne (by decide), mA_ni ha, q1.2.1 19 _ (by decide) (by decide) (fun z => ha z.2)]; rfl⟩)).2.2
  · -- it stays
    have hn0 : ¬ to - f' = 0 := by omega
    rw [if_neg hn0] at s9
    generalize hm4 : mA m2 19 (μ i) (nI (to - f')) = m4 at *
    have hfr4 : FrM m m4 := by rw [← hm4]; exact hfr2.a (Or.inr (Or.inl rfl)) _
    have i4 : m4.1 = m2.1 := by rw [← hm4]; rfl
    have p4 : ∀ a, m4.2 7 a = m2.2 7 a := fun a => by rw [← hm4, mA_ne (by decide)]
    have h430 : m4.1 30 = nI t := by rw [i4, q1.1 30 (by decide) (by decide) (by omega), mI_at]
    have h18' : ∀ a, a ≠ μ i → m4.2 18 a = m.2 18 a ∧ m4.2 19 a = m.2 19 a := fun a ha => ⟨by
      rw [← hm4, mA_ne (by decide), q1.2.1 18 _ (by decide) (by decide) (fun z => ha z.2)]; rfl, by
      rw [← hm4, mA_ni ha, q1.2.1 19 _ (by decide) (by decide) (fun z => ha z.2)]; rfl⟩
    have h25' : ∀ a, m4.2 25 a = m.2 25 a := fun a => by rw [← hm4, mA_ne (by decide), q1.2.1 25 _ (by decide) (by decide) (by omega)]; rfl
    have h26' : ∀ a, m4.2 26 a = m.2 26 a := fun a => by rw [← hm4, mA_ne (by decide), q1.2.1 26 _ (by decide) (by decide) (by omega)]; rfl
    have hvb2 : ∀ j, vb v' j 2 = vb v j 2 := fun j => by
      by_cases e : j = i
      · rw [e]; exact s6 2 (by decide) (by decide)
      · rw [hb2 j e]
    have hvb0 : ∀ j, vb v' j 0 = vb v j 0 := fun j => by
      by_cases e : j = i
      · rw [e]; exact s6 0 (by decide) (by decide)
      · rw [hb2 j e]
    refine ⟨rfl, hN _ ⟨h430, fun k hk1 hk2 => ?_, hM _ E' ⟨?_, ?_, ?_, ?_, ?_⟩ (hfr4.i30 _)⟩⟩
    · obtain ⟨b, z1, z2, z3, z4⟩ := rO.conts rG0 rK k hk2 (by omega)
      exact ⟨b, by rw [hfr4.2 29 k (by decide) (by decide) (by decide) (by decide) (by decide) (by decide)]; exact z1, z2, by rw [hfr4.2 13 b (by decide) (by decide) (by decide) (by decide) (by decide) (by decide)]; exact z3, by rw [hfr4.2 13 b (by decide) (by decide) (by decide) (by decide) (by decide) (by decide)]; exact z4⟩
    · exact rG0.same s9 (by rw [mI_ne (by decide), hfr4.1 28 (by decide) (by decide) (by decide) (by omega)]) (fun j _ => h26' j)
    · intro j hj
      rw [htx']
      have h25j : (mI m4 30 (nI (h + 1))).2 25 (μ j) = nI (hdN v' j (ct v')) := by
        show m4.2 25 (μ j) = _
        rw [h25', (rK j (by omega)).2.2, s9, hdN_keep _ (fun a _ => hvb2 a)]
      by_cases e : j = i
      · subst e
        refine ⟨?_, ?_, h25j⟩
        · have hk := hB
          unfold BK kd at hk ⊢
          simp only [s6 0 (by decide) (by decide), s6 1 (by decide) (by decide), s6 2 (by decide) (by decide), s6 3 (by decide) (by decide), s6 4 (by decide) (by decide), s6 9 (by decide) (by decide), s6 10 (by decide) (by decide), s6 11 (by decide) (by decide), s6 12 (by decide) (by decide), s6 13 (by decide) (by decide)]
          have hmm : ∀ k, 13 ≤ k → k ≤ 27 → k ≠ 18 → k ≠ 19 → k ≠ 25 → k ≠ 26 → (mI m4 30 (nI (h + 1))).2 k (μ j) = m.2 k (μ j) := fun k w1 w2 w3 w4 w5 w6 => hfr4.2 k _ (by omega) (by omega) w3 w4 w5 w6
          rw [hmm 13 (by decide) (by decide) (by decide) (by decide) (by decide) (by decide), hmm 14 (by decide) (by decide) (by decide) (by decide) (by decide) (by decide), hmm 15 (by decide) (by decide) (by decide) (by decide) (by decide) (by decide), hmm 16 (by decide) (by decide) (by decide) (by decide) (by decide) (by decide), hmm 17 (by decide) (by decide) (by decide) (by decide) (by decide) (by decide), hmm 22 (by decide) (by decide) (by decide) (by decide) (by decide) (by decide), hmm 24 (by decide) (by decide) (by decide) (by decide) (by decide) (by decide), hmm 27 (by decide) (by decide) (by decide) (by decide) (by decide) (by decide)]
          exact hk
        · refine ⟨fun z => ?_, fun _ => ?_⟩
          · unfold kd at z h4; rw [s6 0 (by decide) (by decide)] at z; omega
          · rw [s6 8 (by decide) (by decide)]
            exact hI.2 (by omega)
      · obtain ⟨o1, o2, _⟩ := hold j (by omega) e (mI m4 30 (nI (h + 1))) (fun k a w1 w2 w3 w4 w5 w6 => hfr4.2 k a w1 w2 w3 w4 w5 w6) (fun a ha => (p4 a).trans (q1.2.2 a ha)) (fun a ha => h18' a ha)
        exact ⟨o1, o2, h25j⟩
    · exact rO.pop (by omega) (by omega) (fun k _ => by rw [s4]) (by omega) (fun k hk => by rw [s9]; have := hvo k hk; omega) (fun j hj => ⟨hvb0 j, hvb2 j⟩) (mI_at _ _ _) (fun k => hfr4.2 29 k (by decide) (by decide) (by decide) (by decide) (by decide) (by decide))
    · refine hRT _ (by rw [mI_ne (by decide), i4]; exact q4) (q7.same (by rw [mI_ne (by decide), i4]) (fun j k w1 w2 _ => ?_) (fun a _ => p4 a) (Nat.le_refl _)) (fun k hk => ?_)
      · show m4.2 j k = _
        rw [← hm4, mA_ne (by omega)]
      · show m4.2 52 k = _ ∧ m4.2 53 k = _
        rw [hfr4.2 52 k (by decide) (by decide) (by decide) (by decide) (by decide) (by decide), hfr4.2 53 k (by decide) (by decide) (by decide) (by decide) (by decide) (by decide)]
        exact t11 k hk
    · intro j hj
      rw [htx']
      by_cases e : j = i
      · subst e
        refine ⟨fun _ => ?_, fun z => absurd (Or.inl (by unfold kd at h4 ⊢; rw [s6 0 (by decide) (by decide)]; exact h4)) z⟩
        rw [htx', s7, s8]
        refine ⟨f', to - f', f' + E, rfl, rfl, ?_, e19, by omega, by omega, fun k hk => ?_⟩
        · show m4.2 18 (μ j) = _
          rw [← hm4, mA_ne (by decide)]
          exact q2
        · show m4.2 7 _ = _
          rw [p4, q1.2.2 _ (by omega), show k + (f' + E) = f' + k + E by omega]
          exact l7 (f' + k) (by omega) (by omega)
      · exact (hold j (by omega) e (mI m4 30 (nI (h + 1))) (fun k a w1 w2 w3 w4 w5 w6 => hfr4.2 k a w1 w2 w3 w4 w5 w6) (fun a ha => (p4 a).trans (q1.2.2 a ha)) (fun a ha => h18' a ha)).2.2
end CLOSEP
