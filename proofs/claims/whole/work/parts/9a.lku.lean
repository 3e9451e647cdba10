section KB
variable {K : Nat}
/-! a turn with an underline -/
section LKU
variable {X : CX} {Y : MX} {a0 a1 : Array Value} {c1 : CS} {S m0 : MS → Prop} {μ : Nat → Nat} {t o B h n bt k : Nat} {D : DL} {x3 x4 : Int32} {T0 : List Int32} {b : Bool}
theorem RR.rl4 {v : VS} {m : MS} {μ : Nat → Nat} {t o B E : Nat} {D : DL} (h : RR v m μ t o B E D) (h4 : kd v (vo v t) = 4) : RL v m μ t o B E D := by
  rcases h.2 with z | z
  · exact z
  · rcases z.2 with y | y <;> omega
theorem lk_under (F : cF X a0) (G : mF Y a1) (hBN : BNok X) (hσ : ∃ m σ, S m ∧ MV Y m σ) (hT : Tn K Y T0 S m0 n bt x3 x4 μ t o B D h b 10 k c1) {Φ1 : CS → Prop} (hgo : ∀ c5, LkC c1 c5 → (Act K Y T0 S m0 n bt x3 x4 (k + 1) c5 ∨ (Ext K Y T0 S m0 n bt x3 x4 c5 ∧ vi c5.1 67 = 1)) → Φ1 c5) : cE X 8 y_Rd_underline [.ref (adr X 6)] c1 (cvP Φ1) := by
  obtain ⟨t1, t2, t3, t4, t5, t6, t7, t8, t9, t10⟩ := hT
  obtain ⟨m', E', hB⟩ := wit G hσ t10
  obtain ⟨u1, u2, u3, u4⟩ := bgF_10 t6
  have hC1 := t3.1
  have hh := hC1.2.1
  obtain ⟨k1, k2, k3, k4, k5, k6, k7, k8, k9⟩ := hB.kds hh
  have hht : h = t := by
    apply Decidable.byContradiction
    intro z
    have := k9 (by omega)
    omega
  subst hht
  have h4 : kd c1.1 (vo c1.1 h) = 4 := u1
  have ht0 : 0 < h := by
    apply Decidable.byContradiction
    intro z
    have := k3.mpr (by omega)
    omega
  have hL := hB.1.rl4 h4
  obtain ⟨rG, rK, rO, rT, ro, rk, rF, rX⟩ := hL
  obtain ⟨l1, l2, f, l3, l4, l5, l6, l7, l8, l9, l10, l11, l12⟩ := rF
  have hpt : kd c1.1 (vo c1.1 (h - 1)) ≤ 3 := (rO.2.2.2.2.2.2.1 (h - 1) (by omega)).2.2
  have hB13 := t3.2.1.1 t2
  have hne : ∀ j, j < h → vo c1.1 j ≠ vo c1.1 h := fun j hj => by have := rO.lt h j hj (Nat.le_refl _); omega
  have hul : ulLv (lx c1.1) (sA c1.1) ≤ 2 := by unfold ulLv; split <;> (try split) <;> omega
  refine q_Rd_underline (T := tx c1.1) (D := D) (i := vo c1.1 h) (f := f) (n := n) F hBN t8 hB.1.1 hC1.2.2.1 (by have := hC1.2.2.2.2.1; omega) ht0 rfl k5 rfl rT.1 l3 l4 rT.2.2.2.2.1 rT.2.2.2.2.2.1 l10 l9 (fun h0 c' f1 f2 f3 f4 f5 f6 => hgo c' ?_ (Or.inl ?_)) (fun h0 c' v' f1 f2 f3 f4 f5 => hgo c' ?_ (Or.inr ⟨?_, by rw [f3]; rfl⟩))
  · obtain ⟨g1, g2, g3, g4, g5, g6, g7, g8⟩ := f1
    exact ⟨ExC.of g1, by rw [g1]; omega, g5 1 (by decide) (by decide), g5 11 (by decide) (by decide), g3 51 (by decide), g2 6 (by omega) (by decide) (by decide) (by decide), g2 7 (by omega) (by decide) (by decide) (by decide), g2 66 (by omega) (by decide) (by decide) (by decide), g7, by rw [g6]⟩
  · -- all of it was definitions
    obtain ⟨g1, g2, g3, g4, g5, g6, g7, g8⟩ := f1
    have hkd : ∀ i, kd c'.1 i = kd c1.1 i := fun i => by unfold kd; rw [f6 i 0 (by decide) (by decide)]
    have hlx : lx c'.1 = lx c1.1 := g5 11 (by decide) (by decide)
    have htx : tx c'.1 = tx c1.1 := g5 10 (by decide) (by decide)
    have hlp : lp c'.1 = lp c1.1 := g3 52 (by decide)
    have hld : ld c'.1 = ld c1.1 := g3 53 (by decide)
    have hk1 : kd c'.1 (vo c'.1 (h - 1)) = kd c1.1 (vo c1.1 (h - 1)) := by rw [hkd, g6]
    refine ⟨μ, h - 1, h, B, (tkD (tx c1.1) f D).2, h - 1, true, by rw [f5]; exact t1, by rw [hk1]; omega, ⟨hC1.close (by omega) hpt g6 hkd hlx htx f4 (g2 66 (by omega) (by decide) (by decide) (by decide)), ⟨fun _ => by rw [hlx, hlp]; exact hB13, t3.2.1.2⟩, ⟨fun z => by rw [hk1] at z; omega, fun z => by rw [hk1] at z; omega⟩⟩, by rw [htx]; exact t4, ?_, fun _ => ?_, fun Φ P hcl hnext => ?_⟩
    · rcases t5 with z | z | z
      · exact Or.inr (Or.inl ⟨by omega, by rw [hk1]; omega⟩)
      · exact absurd h4 z.2
      · omega
    · rw [bgF_cg ⟨hlx, hlp, hld⟩]
      exact u4 _ _ (by rw [hk1]; omega)
    · refine t10 Φ P hcl (fun m2 E2 hR2 => d_Q G hR2 (Nat.le_refl _) hcl b t6 t7 (fun z => absurd z (by decide)) (fun z => absurd z (by decide)) (fun z => absurd z (by decide)) (fun _ => ?_) (fun z => absurd z (by decide)) (fun z => absurd z (by decide)) (fun z => absurd z (by decide)) (fun z => absurd z (by decide)))
      refine d_makeHeading (v' := c'.1) (f := f) (h := h - 1) G (hR2.1.rl4 h4) h4 (by omega) l3 l4 f2 hR2.2.2.1 (by have := hC1.2.2.2.1; omega) (fun _ m5 E5 hA hF e32 e34 => ?_) (fun z => absurd h0 z)
      have hi : ∀ j, j = 5 ∨ j = 31 ∨ j = 33 → m5.1 j = m2.1 j := fun j q => hF.1 j (by omega) (by omega) (by omega) (by omega) (by omega) (by omega)
      have hA' : RA c'.1 m5 μ (h - 1) h B E5 (tkD (tx c1.1) f D).2 := by
        rw [show h - 1 + 1 = h by omega] at hA
        exact hA
      have hq := hnext m5 E5 ⟨⟨f3, Or.inr ⟨hA', Or.inl ⟨by rw [hk1]; exact hpt, by omega⟩⟩⟩, ⟨by rw [hlx]; exact hF.l.line hR2.2.1.1, by rw [hi 31 (by omega), hlp]; exact hR2.2.1.2.1, by rw [hlx, hlp]; exact hR2.2.1.2.2.1, by rw [hlx, hlp, hld]; exact hR2.2.1.2.2.2⟩, e32, by rw [hi 5 (by omega)]; exact hR2.2.2.2.1, by rw [e34]; exact hR2.2.2.2.2.1, fun z => by rw [hk1] at z; omega, hR2.2.2.2.2.2.2.1.trans hF.l, ?_⟩
      · unfold Q163 at hq
        rw [if_pos rfl, hld] at hq
        exact hq _
      · rcases hR2.2.2.2.2.2.2.2 with ⟨z1, z2, z3⟩ | ⟨z1, z2, z3⟩
        · exact Or.inl ⟨by rw [hi 33 (by omega)]; exact z1, rfl, by omega⟩
        · right
          refine ⟨by rw [hi 33 (by omega)]; exact z1, z2, ?_⟩
          rcases z3 with y | y
          · omega
          · exact Or.inr ⟨y.1, by omega, fun w => by rw [hld] at w; omega⟩
  · obtain ⟨g1, g2, g3, g4, g5, g6, g7, g8⟩ := f1
    exact ⟨ExC.of g1, by rw [g1]; omega, g5 1 (by decide) (by decide), g5 11 (by decide) (by decide), g3 51 (by decide), g2 6 (by omega) (by decide) (by decide) (by decide), g2 7 (by omega) (by decide) (by decide) (by decide), g2 66 (by omega) (by decide) (by decide) (by decide), g7, by rw [g6]⟩
  · -- a heading
    obtain ⟨g1, g2, g3, g4, g5, g6, g7, g8⟩ := f1
    have hvb0 : vb c'.1 (vo c1.1 h) 0 = 5 := by
      rw [f3]
      show upd2 (upd2 (upd2 (vb v') _ 0 5) _ 3 _) _ 10 _ (vo c1.1 h) 0 = _
      rw [upd2_off (fun y => absurd y.2 (by decide)), upd2_off (fun y => absurd y.2 (by decide)), upd2_here]
    have hk5 : kd c'.1 (vo c'.1 h) = 5 := by
      unfold kd
      rw [g6, hvb0]
      rfl
    have hkj : ∀ j, j ≠ vo c1.1 h → kd c'.1 j = kd c1.1 j := fun j hj => by
      unfold kd
      rw [g8 j 0 (by decide) (by decide) (fun z => hj z.1)]
    refine ⟨μ, h, h, B, (tkD (tx c1.1) f D).2, 0, Or.inl ⟨by rw [f3]; rfl, by have := hC1.2.2.2.2.1; omega, fun z => by omega, fun j hj z => ?_, t3.2.1.2, fun z => by omega, ?_⟩, fun Φ P hcl hnext => ?_⟩
    · rw [g6, hkj _ (hne j hj)] at z
      have h3 := hC1.2.2.2.2.2.2.1 j hj z
      by_cases e : j + 1 = h
      · rw [e] at h3
        omega
      · rw [g6, hkj _ (hne (j + 1) (by omega))]
        exact h3
    · rw [show tx c'.1 = T0 from (g5 10 (by decide) (by decide)).trans t4]
      exact GrT.rfl
    · refine t10 Φ P hcl (fun m2 E2 hR2 => d_Q G hR2 (Nat.le_refl _) hcl b t6 t7 (fun z => absurd z (by decide)) (fun z => absurd z (by decide)) (fun z => absurd z (by decide)) (fun _ => ?_) (fun z => absurd z (by decide)) (fun z => absurd z (by decide)) (fun z => absurd z (by decide)) (fun z => absurd z (by decide)))
      refine d_makeHeading (v' := v') (f := f) (h := h - 1) G (hR2.1.rl4 h4) h4 (by omega) l3 l4 f2 hR2.2.2.1 (by have := hC1.2.2.2.1; omega) (fun z => absurd z h0) (fun _ m5 E5 hA hF e34 => ?_)
      unfold w_Mo_beginning_72
      refine ⟨fun z => absurd (e34.symm.trans z) (by decide), fun _ => iP.i (hnext m5 E5 (Or.inl ⟨by rw [f3]; rfl, ?_⟩)) rfl⟩
      refine ⟨⟨?_, Or.inr ⟨?_, Or.inr ⟨Or.inl hk5, rfl⟩⟩⟩, fun z => by omega, hR2.2.2.2.2.2.2.1.trans hF.l, ?_, e34⟩
      · rw [f3]
        exact f4
      · rw [f3]
        exact hA.vs rfl rfl rfl rfl
      · rw [hF.1 5 (by decide) (by decide) (by decide) (by decide) (by decide) (by omega)]
        exact hR2.2.2.2.1
end LKU
end KB
