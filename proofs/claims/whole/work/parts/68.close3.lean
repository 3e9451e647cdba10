section CLOSEQ
variable {Y : MX} {a0 : Array Value} {m : MS} {M : MS → Prop}
/-- the class's state with the leaf i closed as it is -/
def CV2 (v v' : VS) : Prop := vr v' 10 = vr v 10 ∧ vr v' 12 = vr v 12 ∧ vr v' 13 = vr v 13 ∧ vo v' = vo v ∧ vb v' = vb v ∧ ct v' = ct v
theorem RA.pop {v v' : VS} {m m' : MS} {μ : Nat → Nat} {t o B E h : Nat} {D : DL} (hR : RA v m μ t o B E D) (hh : h ≤ t) (ho : h < o) (hv : CV2 v v') (h30 : m'.1 30 = nI (h + 1)) (hi : ∀ k, k ≠ 30 → m'.1 k = m.1 k) (ha : m'.2 = m.2) : RA v' m' μ h (h + 1) B E D := by
  obtain ⟨rG, rK, rO, rT, rX⟩ := hR
  obtain ⟨s1, s2, s3, s4, s5, s6⟩ := hv
  have htx : tx v' = tx v := s1
  refine ⟨rG.same s6 (hi 28 (by decide)) (fun j _ => by rw [ha]), ?_, ?_, rT.same s1 s2 s3 (hi 10 (by decide)) (hi 40 (by decide)) (fun i => by rw [ha]) (fun k i _ => by rw [ha]), ?_⟩
  · intro i hi'
    obtain ⟨k1, k2, k3⟩ := rK i (by rw [← s6]; exact hi')
    refine ⟨k1.keep (by rw [s5]) (fun k _ _ _ _ _ _ _ _ _ => by rw [ha]), ?_, ?_⟩
    · rw [htx]
      exact k2.keep (by rw [s5]) (by rw [ha]) (by rw [ha]) (fun k _ => by rw [htx]) (by rw [htx]; exact Nat.le_refl _) (fun j _ => by rw [ha]) (Nat.le_refl _)
    · rw [ha, k3, s6, hdN_keep _ (fun j _ => by rw [s5])]
  · exact rO.pop hh ho (fun k _ => by rw [s4]) (by rw [s6]; exact Nat.le_refl _) (fun k hk => by rw [s6]; exact rO.2.2.2.2.1 k (by omega)) (fun i _ => by rw [s5]; exact ⟨rfl, rfl⟩) h30 (fun k => by rw [ha])
  · intro i hi'
    rw [htx]
    exact (rX i (by rw [← s6]; exact hi')).keep (by rw [s5]) (by rw [ha]) (by rw [ha]) (fun k _ => by rw [htx]) (by rw [htx]; exact Nat.le_refl _) (fun j _ => by rw [ha]) (Nat.le_refl _)
/-- a container, a heading or a rule at the tip -/
theorem d_closeRA (F : mF Y a0) {v v' : VS} {μ : Nat → Nat} {t o B E h : Nat} {D : DL} (hR : RA v m μ t o B E D) (hk : (kd v (vo v t) ≤ 3 ∧ o = t + 1) ∨ o = t) (hh : h < t) (hv : CV2 v v') (hM : ∀ m', RA v' m' μ h (h + 1) B E D → FrM m m' → M m') : mE Y 6 y_Mo_closeTo [.ref (mo Y), .int (nI (h + 1))] m (vP M) := by
  have hR0 := hR
  obtain ⟨rG, rK, rO, rT, rX⟩ := hR
  have ht := rO.1
  refine d_Mo_closeTo (o := o) F (by omega) (by omega) rO.2.2.1 (fun k h1 h2 => ?_) ?_
  · by_cases e : k < t
    · exact rO.conts rG rK k e h2
    · have hkt : k = t := by omega
      rcases hk with ⟨hk1, hk2⟩ | hk
      · subst hkt
        have hlt := rO.2.2.2.2.1 k (Nat.le_refl _)
        obtain ⟨hB, _, _⟩ := rK _ hlt
        have hμ := rG.2.2.2.2.2.1 _ hlt
        have hB2 := rG.2.1
        refine ⟨μ (vo v k), rO.2.2.2.2.2.1 k h2, by omega, ?_, ?_⟩
        · rw [hB.2.1, show (4 : Int32) = nI 4 from rfl, Ne, nI_kd hB 4 (by decide)]; omega
        · rw [hB.2.1, show (7 : Int32) = nI 7 from rfl, Ne, nI_kd hB 7 (by decide)]; omega
      · omega
  · rw [show min o (h + 1) = h + 1 by omega]
    exact hM _ (hR0.pop (by omega) (by omega) hv (mI_at _ _ _) (fun k hk => mI_ne hk) rfl) (FrM.rfl.i30 _)
theorem d_Mo_dropBlank0 (F : mF Y a0) {b : Nat} (hb : b < 3300) (h19 : m.2 19 b = 0) (h : M m) : mE Y 0 y_Mo_dropBlankLines [.ref (mo Y), .int (nI b)] m (vP M) := by
  refine g_Mo_dropBlankLines (I2 := fun n x1 x2 m' => x1 = nI b ∧ m' = m) (I24 := fun _ _ _ _ _ => False) F ⟨0, rfl, rfl⟩ ?_ (fun _ _ _ _ _ z => z.elim)
  rintro n x1 x2 m' ⟨rfl, rfl⟩
  simp (discharger := omega) only [w_Mo_dropBlankLines_2, w_Mo_dropBlankLines_98, vp_nI, nI_clamp, h19]
  exact ⟨fun _ => vP.v h rfl, fun _ => ⟨hb, fun _ => vP.v h rfl, fun z => absurd (by decide) z⟩⟩
/-- a code at the tip -/
theorem d_closeCode (F : mF Y a0) {v v' : VS} {μ : Nat → Nat} {t o B E h : Nat} {D : DL} (hR : RL v m μ t o B E D) (h7 : kd v (vo v t) = 7) (hh : h < t) (hv : CV2 v v') (hM : ∀ m', RA v' m' μ h (h + 1) B E D → FrM m m' → M m') : mE Y 6 y_Mo_closeTo [.ref (mo Y), .int (nI (h + 1))] m (vP M) := by
  obtain ⟨rG, rK, rO, rT, ro, rk, rF, rX⟩ := hR
  obtain ⟨l1, l2, f, l3, l4, l5, l6, l7, l8, l9, l10, l11, l12⟩ := rF
  have ht := rO.1
  have hi : vo v t < ct v := rO.2.2.2.2.1 t (Nat.le_refl _)
  have hμi := rG.2.2.2.2.2.1 _ hi
  have hB2 := rG.2.1
  obtain ⟨hB, hI, h25⟩ := rK _ hi
  have hT1 := rT.1
  have hE := rT.2.2.1
  have h29t : m.2 29 t = nI (μ (vo v t)) := rO.2.2.2.2.2.1 t (by omega)
  -- whatever bMany becomes, if it is the class's length all is closed
  have hgo : ∀ (m4 : MS) (n : Nat), vb v (vo v t) 6 = nI n → f + n ≤ (tx v).length → m4.1 = (mI m 30 (nI t)).1 → (∀ k a, ¬ (k = 19 ∧ a = μ (vo v t)) → m4.2 k a = m.2 k a) → m4.2 19 (μ (vo v t)) = nI n → RA v (mI m4 30 (nI (t + 1))) μ t (t + 1) B E D := by
    intro m4 n hn hfn hi4 ha4 h19
    have hne : ∀ j, j < ct v → j ≠ vo v t → μ j ≠ μ (vo v t) := by
      intro j hj hji z
      rcases Nat.lt_or_ge j (vo v t) with y | y
      · have := rG.2.2.2.2.1 j _ y hi; omega
      · omega
    have hii : ∀ k, k ≠ 30 → (mI m4 30 (nI (t + 1))).1 k = m.1 k := fun k hk => by rw [mI_ne hk, hi4, mI_ne hk]
    refine ⟨rG.same rfl (hii 28 (by decide)) (fun j _ => ha4 26 j (by omega)), ?_, ?_, ?_, ?_⟩
    · intro j hj
      obtain ⟨k1, k2, k3⟩ := rK j hj
      refine ⟨k1.keep rfl (fun k _ _ _ z _ _ _ _ _ => ha4 k _ (fun y => z y.1)), k2.keep rfl (ha4 20 _ (by omega)) (ha4 21 _ (by omega)) (fun _ _ => rfl) (Nat.le_refl _) (fun a _ => ha4 7 a (by omega)) (Nat.le_refl _), ?_⟩
      show m4.2 25 (μ j) = _
      rw [ha4 25 _ (by omega)]
      exact k3
    · obtain ⟨o1, o2, o3, o4, o5, o6, o7, o8⟩ := rO
      exact ⟨o1, o2, mI_at _ _ _, Nat.le_refl _, o5, fun k hk => by
        show m4.2 29 k = _
        rw [ha4 29 _ (by omega)]
        exact o6 k (by omega), o7, o8⟩
    · exact rT.same rfl rfl rfl (hii 10 (by decide)) (hii 40 (by decide)) (fun a => ha4 7 a (by omega)) (fun k a hk => ha4 k a (by omega))
    · intro j hj
      by_cases e : j = vo v t
      · subst e
        refine ⟨fun _ => ?_, fun z => absurd (Or.inr (Or.inr h7)) z⟩
        refine ⟨f, n, f + E, l3, hn, ?_, h19, by omega, by omega, fun k hk => ?_⟩
        · show m4.2 18 _ = _
          rw [ha4 18 _ (by omega)]
          exact l5
        · show m4.2 7 _ = _
          rw [ha4 7 _ (by omega), show k + (f + E) = f + k + E by omega]
          exact l7 (f + k) (by omega) (by omega)
      · exact (rX j hj e).keep rfl (ha4 18 _ (by omega)) (ha4 19 _ (fun y => hne j hj e y.2)) (fun _ _ => rfl) (Nat.le_refl _) (fun a _ => ha4 7 a (by omega)) (Nat.le_refl _)
  have hfin : ∀ (m4 : MS) (n : Nat), vb v (vo v t) 6 = nI n → f + n ≤ (tx v).length → m4.1 = (mI m 30 (nI t)).1 → (∀ k a, ¬ (k = 19 ∧ a = μ (vo v t)) → m4.2 k a = m.2 k a) → m4.2 19 (μ (vo v t)) = nI n → (m4.1 30 = nI t ∧ (∀ k, h < k → k < t → ∃ b, m4.2 29 k = nI b ∧ b < 3300 ∧ m4.2 13 b ≠ 4 ∧ m4.2 13 b ≠ 7) ∧ M (mI m4 30 (nI (h + 1)))) := by
    intro m4 n hn hfn hi4 ha4 h19
    refine ⟨by rw [hi4]; exact mI_at _ _ _, fun k hk1 hk2 => ?_, hM _ ?_ ⟨fun k z1 z2 z3 z4 => by rw [mI_ne z2, hi4, mI_ne z2], fun k a z1 z2 z3 z4 z5 z6 => ha4 k a (fun y => z4 y.1)⟩⟩
    · obtain ⟨b, z1, z2, z3, z4⟩ := rO.conts rG rK k hk2 (by omega)
      exact ⟨b, by rw [ha4 29 _ (by omega)]; exact z1, z2, by rw [ha4 13 _ (by omega)]; exact z3, by rw [ha4 13 _ (by omega)]; exact z4⟩
    · have := (hgo m4 n hn hfn hi4 ha4 h19).pop (h := h) (v' := v') (m' := mI m4 30 (nI (h + 1))) (by omega) (by omega) hv (mI_at _ _ _) (fun k hk => by rw [mI_ne hk, mI_ne hk]) rfl
      exact this
  refine d_Mo_closeTop F (by omega) hh (by rw [← ro]; exact rO.2.2.1) h29t (fun N hN => ?_)
  refine g_Mo_close F ?_
  have k13 : (mI m 30 (nI t)).2 13 (μ (vo v t)) = 7 := by
    show m.2 13 _ = 7
    rw [hB.2.1, show (7 : Int32) = nI 7 from rfl]
    exact (nI_kd hB 7 (by decide)).mpr h7
  have k22 : (mI m 30 (nI t)).2 22 (μ (vo v t)) = vb v (vo v t) 12 := (hB.2.2.2.2.2.2.2.2.2.2.1 (by omega)).symm
  simp (discharger := omega) only [w_Mo_close_0, w_Mo_close_62, vp_nI, nI_clamp, k13, k22]
  refine ⟨by omega, fun z => absurd z (by decide), fun _ => ⟨by omega, fun _ => ⟨by omega, fun c => ?_, fun c => ?_⟩, fun z => absurd (by trivial) z⟩⟩
  · rcases l12 with ⟨z1, z2⟩ | z | z | ⟨z1, z2, p, q, z3, z4⟩
    · have h0 : m.2 19 (μ (vo v t)) = 0 := by rw [l6, z1, Nat.sub_self]; rfl
      refine d_Mo_dropBlank0 F (by omega) h0 ⟨rfl, hN _ (hfin _ 0 (by rw [z2]; rfl) (by omega) rfl (fun _ _ _ => rfl) h0)⟩
    · omega
    · exact absurd c z.2.1
    · obtain ⟨y1, y2, y3, y4⟩ := z3
      have hPl : PlI (mI m 30 (nI t)) (tx v) f E := ⟨fun k q1 q2 => l7 k q1 q2, by omega, by omega⟩
      refine d_Mo_dropBlankLines (T := tx v) (f := f) (δ := E) (p := p) (q := q) F (by omega) hPl hT1 l4 l5 l6 ⟨y1, y2, y3, y4⟩ ⟨rfl, hN _ (hfin _ (q + 1 - f) z4 (by omega) rfl (fun k a hka => ?_) (mA_at _ _ _ _))⟩
      by_cases e : k = 19
      · rw [mA_ni (fun y => hka ⟨e, y⟩)]; rfl
      · rw [mA_ne e]; rfl
  · rcases l12 with ⟨z1, z2⟩ | z | ⟨z1, z2, z3⟩ | z
    · exact ⟨rfl, hN _ (hfin _ 0 (by rw [z2]; rfl) (by omega) rfl (fun _ _ _ => rfl) (by show m.2 19 _ = _; rw [l6, z1, Nat.sub_self]))⟩
    · omega
    · exact ⟨rfl, hN _ (hfin _ ((tx v).length - f) z3 (by omega) rfl (fun _ _ _ => rfl) l6)⟩
    · exact absurd z.2.1 c
end CLOSEQ
