/-! leaves that are done at once: heading, fence; and the rule -/
theorem BK.lv {v v' : VS} {m m' : MS} {μ : Nat → Nat} {i k k' : Nat} {x : Int32} (h : BK v m μ i) (hk : (k = 3 ∧ k' = 15 ∧ kd v i = 5) ∨ (k = 12 ∧ k' = 22 ∧ kd v i = 7)) (hv : ∀ q, q ≠ k → ¬ (5 ≤ q ∧ q ≤ 8) → vb v' i q = vb v i q) (hvk : vb v' i k = x) (h3 : kd v i ≠ 3) (hm : ∀ q, q ≠ k' → 13 ≤ q → q ≤ 27 → ¬ (18 ≤ q ∧ q ≤ 21) → q ≠ 23 → q ≠ 24 → m'.2 q (μ i) = m.2 q (μ i)) (hmk : m'.2 k' (μ i) = x) : BK v' m' μ i := by
  unfold BK kd at *
  rw [hv 0 (by omega) (by omega), hv 1 (by omega) (by omega), hv 2 (by omega) (by omega), hv 4 (by omega) (by omega), hv 9 (by omega) (by omega), hv 10 (by omega) (by omega), hv 11 (by omega) (by omega), hv 13 (by omega) (by omega), hm 13 (by omega) (by decide) (by decide) (by decide) (by decide) (by decide), hm 14 (by omega) (by decide) (by decide) (by decide) (by decide) (by decide), hm 16 (by omega) (by decide) (by decide) (by decide) (by decide) (by decide), hm 17 (by omega) (by decide) (by decide) (by decide) (by decide) (by decide), hm 27 (by omega) (by decide) (by decide) (by decide) (by decide) (by decide)]
  obtain ⟨a1, a2, a3, a4, a5, a6, a7, a8, a9, a10, a11, a12⟩ := h
  rcases hk with ⟨rfl, rfl, h57⟩ | ⟨rfl, rfl, h57⟩
  · rw [hv 12 (by decide) (by decide), hm 22 (by decide) (by decide) (by decide) (by decide) (by decide) (by decide), hvk, hmk]
    exact ⟨a1, a2, a3, a4, a5, rfl, a7, a8, fun z => absurd z h3, a10, a11, a12.1, fun _ z => absurd h57 z, a12.2.2⟩
  · rw [hv 3 (by decide) (by decide), hm 15 (by decide) (by decide) (by decide) (by decide) (by decide) (by decide), hvk, hmk]
    exact ⟨a1, a2, a3, a4, a5, a6, a7, a8, fun z => absurd z h3, a10, fun _ => rfl, a12.1, a12.2.1, fun _ z => absurd h57 z⟩
theorem RA_head {v v' : VS} {m m' : MS} {μ : Nat → Nat} {t o B E i : Nat} {D : DL} {os : List Int32} {lv : Int32} (hR : RA v m μ t o B E D) (hi : i < ct v) (h5 : kd v i = 5) (hf : vb v i 5 = nI (tx v).length) (h18 : m.2 18 (μ i) = nI ((tx v).length + E)) (hl : (tx v).length + os.length ≤ 12010) (hns : nsP (tx v) (tx v).length + os.countP nsB ≤ 3000) (hv : v' = vB (vR (vB v i 3 lv) 10 (tx v ++ os)) i 6 (nI os.length)) (hm : m' = mA (extF (mA m 15 (μ i) lv) ((tx v).length + E) os) 19 (μ i) (nI os.length)) : RA v' m' μ t o B E D := by
  obtain ⟨rG, rK, rO, rT, rX⟩ := hR
  have htx : tx v' = tx v ++ os := by rw [hv]; exact vr_at (vB v i 3 lv) 10 _
  have hvb : ∀ j q, ¬ (j = i ∧ (q = 3 ∨ q = 6)) → vb v' j q = vb v j q := fun j q z => by
    rw [hv]
    show upd2 (upd2 (vb v) i 3 lv) i 6 _ j q = _
    rw [upd2_off (fun y => z ⟨y.1, Or.inr y.2⟩), upd2_off (fun y => z ⟨y.1, Or.inl y.2⟩)]
  have hv3 : vb v' i 3 = lv := by
    rw [hv]
    show upd2 (upd2 (vb v) i 3 lv) i 6 _ i 3 = _
    rw [upd2_off (fun y => absurd y.2 (by decide)), upd2_here]
  have hv6 : vb v' i 6 = nI os.length := by
    rw [hv]
    exact upd2_here
  have hma : ∀ q j, q ≠ 7 → ¬ (j = μ i ∧ (q = 15 ∨ q = 19)) → m'.2 q j = m.2 q j := fun q j z1 z2 => by
    rw [hm]
    by_cases e : q = 19
    · rw [mA_ni (fun y => z2 ⟨y, Or.inr e⟩), extF_k z1]
      exact if_neg (fun y => z2 ⟨y.2, Or.inl y.1⟩)
    · rw [mA_ne e, extF_k z1]
      exact if_neg (fun y => z2 ⟨y.2, Or.inl y.1⟩)
  have hm15 : m'.2 15 (μ i) = lv := by rw [hm, mA_ne (by decide), extF_k (by decide), mA_at]
  have hm19 : m'.2 19 (μ i) = nI os.length := by rw [hm, mA_at]
  have hkd : kd v' i = 5 := by unfold kd; rw [hvb i 0 (fun z => by omega)]; exact h5
  have hlen : (tx v').length = (tx v).length + os.length := by rw [htx, List.length_append]
  have hpo : ∀ j, j < (tx v).length + E → m'.2 7 j = m.2 7 j := fun j hj => by rw [hm, mA_ne (by decide), extF_at hj]; rfl
  have hpn : ∀ k, k < os.length → m'.2 7 (k + ((tx v).length + E)) = tA os k := fun k hk => by rw [hm, mA_ne (by decide), extF_in hk]
  have h10 : m'.1 10 = nI ((tx v).length + E + os.length) := by rw [hm]; exact extF_10 (m := mA m 15 (μ i) lv)
  have hmi : ∀ k, k ≠ 10 → m'.1 k = m.1 k := fun k hk => by rw [hm]; exact extF_i (m := mA m 15 (μ i) lv) hk
  have hIold := (rK i hi).2.1
  obtain ⟨u1, u2, u3, u4, u5⟩ := R_upd (v' := v') (m' := m') (os := os) rG rK rO rT hi (fun j h1 _ => rX j h1) ⟨by rw [hv]; rfl, by rw [hv]; rfl, htx, by rw [hv]; rfl, by rw [hv]; rfl, fun j e => by funext q; exact hvb j q (fun z => e z.1), hvb i 0 (fun z => by omega), hvb i 1 (fun z => by omega), hvb i 2 (fun z => by omega)⟩ ⟨h10, hmi 28 (by decide), hmi 30 (by decide), hmi 40 (by decide), hpo, hpn, fun q j z1 z2 => hma q j z1 (fun y => z2 ⟨y.1, by omega⟩), hma 13 _ (by decide) (fun z => by omega), hma 14 _ (by decide) (fun z => by omega), hma 25 _ (by decide) (fun z => by omega), hma 26 _ (by decide) (fun z => by omega)⟩ hl hns ((rK i hi).1.lv (Or.inl ⟨rfl, rfl, h5⟩) (fun q z1 z2 => hvb i q (fun y => by omega)) hv3 (by omega) (fun q z1 z2 z3 z4 _ _ => hma q _ (by omega) (fun y => by omega)) hm15) ⟨fun z => by omega, fun _ => by rw [hvb i 8 (fun z => by omega)]; exact hIold.2 (by omega)⟩
  refine ⟨u1, u2, u3, u4, fun j hj => ?_⟩
  by_cases e : j = i
  · subst e
    refine ⟨fun _ => ⟨(tx v).length, os.length, (tx v).length + E, by rw [hvb j 5 (fun z => by omega)]; exact hf, hv6, by rw [hma 18 _ (by decide) (fun z => by omega)]; exact h18, hm19, by omega, by omega, fun k hk => ?_⟩, fun z => absurd (Or.inr (Or.inl hkd)) z⟩
    rw [hpn k hk, htx, tA_right (by omega)]
  · exact u5 j hj e
theorem RL_fence {v v' : VS} {m m' : MS} {μ : Nat → Nat} {t o B E i : Nat} {D : DL} {os : List Int32} {sg fl fi : Int32} (hR : RA v m μ t o B E D) (hi : i < ct v) (hit : i = vo v t) (ho : o = t + 1) (hict : i + 1 = ct v) (hμ : μ i + 1 = B) (h7 : kd v i = 7) (hf5 : vb v i 6 = 0) (hf7 : vb v i 7 = nI (tx v).length) (h19 : m.2 19 (μ i) = 0) (hl : (tx v).length + os.length ≤ 12010) (hns : nsP (tx v) (tx v).length + os.countP nsB ≤ 3000)
    (hv : vo v' = vo v ∧ ct v' = ct v ∧ tx v' = tx v ++ os ∧ vr v' 12 = vr v 12 ∧ vr v' 13 = vr v 13 ∧ (∀ j q, ¬ (j = i ∧ (q = 12 ∨ q = 8 ∨ q = 5)) → vb v' j q = vb v j q) ∧ vb v' i 12 = sg ∧ vb v' i 8 = nI os.length ∧ vb v' i 5 = nI ((tx v).length + os.length))
    (hm : m'.1 10 = nI ((tx v).length + E + os.length) ∧ m'.1 28 = m.1 28 ∧ m'.1 30 = m.1 30 ∧ m'.1 40 = m.1 40 ∧ (∀ j, j < (tx v).length + E → m'.2 7 j = m.2 7 j) ∧ (∀ k, k < os.length → m'.2 7 (k + ((tx v).length + E)) = tA os k) ∧ (∀ q j, q ≠ 7 → ¬ (j = μ i ∧ (18 = q ∨ 20 ≤ q ∧ q ≤ 24)) → m'.2 q j = m.2 q j) ∧ m'.2 22 (μ i) = sg ∧ m'.2 20 (μ i) = nI ((tx v).length + E) ∧ m'.2 21 (μ i) = nI os.length ∧ m'.2 18 (μ i) = nI ((tx v).length + E + os.length)) : RL v' m' μ t o B E D := by
  obtain ⟨rG, rK, rO, rT, rX⟩ := hR
  obtain ⟨a1, a2, a3, a4, a5, a6, a7, a8, a9⟩ := hv
  obtain ⟨b1, b2, b3, b4, b5, b6, b7, b8, b9, b10, b11⟩ := hm
  have hkd : kd v' i = 7 := by unfold kd; rw [a6 i 0 (fun z => by omega)]; exact h7
  have hlen : (tx v').length = (tx v).length + os.length := by rw [a3, List.length_append]
  obtain ⟨u1, u2, u3, u4, u5⟩ := R_upd (v' := v') (m' := m') (os := os) rG rK rO rT hi (fun j h1 _ => rX j h1) ⟨a2, a1, a3, a4, a5, fun j e => by funext q; exact a6 j q (fun z => e z.1), a6 i 0 (fun z => by omega), a6 i 1 (fun z => by omega), a6 i 2 (fun z => by omega)⟩ ⟨b1, b2, b3, b4, b5, b6, fun q j z1 z2 => b7 q j z1 (fun y => z2 ⟨y.1, by omega⟩), b7 13 _ (by decide) (fun z => by omega), b7 14 _ (by decide) (fun z => by omega), b7 25 _ (by decide) (fun z => by omega), b7 26 _ (by decide) (fun z => by omega)⟩ hl hns ((rK i hi).1.lv (Or.inr ⟨rfl, rfl, h7⟩) (fun q z1 z2 => a6 i q (fun y => by omega)) a7 (by omega) (fun q z1 z2 z3 z4 z5 z6 => b7 q _ (by omega) (fun y => by omega)) b8) ⟨fun _ => ⟨(tx v).length, os.length, (tx v).length + E, by rw [a6 i 7 (fun z => by omega)]; exact hf7, a8, b9, b10, by omega, by omega, fun k hk => by rw [b6 k hk, a3, tA_right (by omega)]⟩, fun z => absurd hkd z⟩
  have rT' := u4
  obtain ⟨q1, q2, q3, q4, q5, q6, q7, q8, q9, q10, q11⟩ := u4
  refine ⟨u1, u2, u3, rT', ho, ?_, ?_, ?_⟩
  · rw [a1, ← hit]
    exact Or.inr hkd
  · rw [a1, ← hit]
    refine ⟨by rw [a2]; exact hict, hμ, (tx v').length, by rw [a9, hlen], Nat.le_refl _, by rw [b11, hlen]; congr 1; omega, by rw [b7 19 _ (by decide) (fun z => by omega), h19, Nat.sub_self]; rfl, fun k z1 z2 => by omega, q3, q7, q8, q9, Or.inl ⟨rfl, by rw [a6 i 6 (fun z => by omega)]; exact hf5⟩⟩
  · intro j hj hn
    rw [a1, ← hit] at hn
    exact u5 j hj hn
/-- the leaf is no more among the model's open ones -/
theorem RA.drop {v : VS} {m : MS} {μ : Nat → Nat} {t B E : Nat} {D : DL} (hR : RA v m μ t (t + 1) B E D) : RA v (mI m 30 (nI t)) μ t t B E D := by
  obtain ⟨rG, rK, rO, rT, rX⟩ := hR
  refine ⟨rG.same rfl (mI_ne (by decide)) (fun _ _ => rfl), rK, ?_, rT.same rfl rfl rfl (mI_ne (by decide)) (mI_ne (by decide)) (fun _ => rfl) (fun _ _ _ => rfl), rX⟩
  obtain ⟨o1, o2, o3, o4, o5, o6, o7, o8⟩ := rO
  exact ⟨o1, o2, mI_at _ _ _, by omega, o5, fun k hk => o6 k (by omega), o7, o8⟩
theorem d_closeLeaf {Y : MX} {a1 : Array Value} (G : mF Y a1) {v : VS} {m : MS} {μ : Nat → Nat} {t B E : Nat} {D : DL} (hR : RA v m μ (t + 1) (t + 2) B E D) (hk : kd v (vo v (t + 1)) ≠ 4 ∧ kd v (vo v (t + 1)) ≠ 7) {M : MS → Prop} (hM : M (mI m 30 (nI (t + 1)))) : mE Y 6 y_Mo_closeTo [.ref (mo Y), .int (nI (t + 1))] m (vP M) := by
  have ht := hR.2.2.1.1
  refine d_Mo_closeTo (o := t + 2) (h := t) G (by omega) (by omega) hR.2.2.1.2.2.1 (fun k z1 z2 => ?_) ?_
  · have e : k = t + 1 := by omega
    obtain ⟨b, e1, e2, e3, e4, e5, e6⟩ := hR.opn (k := k) (by omega)
    rw [e] at e3
    refine ⟨b, e1, e2, ?_, ?_⟩
    · rw [e3, show (4 : Int32) = nI 4 from rfl]
      exact fun y => hk.1 ((nI_eq (by rw [← e]; omega) (by decide)).mp y)
    · rw [e3, show (7 : Int32) = nI 7 from rfl]
      exact fun y => hk.2 ((nI_eq (by rw [← e]; omega) (by decide)).mp y)
  · rw [show min (t + 2) (t + 1) = t + 1 by omega]
    exact hM
