section KB
variable {K : Nat}
theorem RB.mk {m m' : MS} {m0 : MS → Prop} {v : VS} {μ : Nat → Nat} {t o B E h bt : Nat} {D : DL} {x4 : Int32} (hB : RB m0 v m μ t o B E D h bt x4) (hk : MkR m m') : RB m0 v m' μ t o B E D h bt x4 := by
  obtain ⟨b1, ⟨l1, l2, l3, l4⟩, b3, b4, b5, b6, b7, b8⟩ := hB
  have hi : ∀ k, k ≠ 35 → k ≠ 36 → m'.1 k = m.1 k := hk.2
  refine ⟨b1.same VSame.rfl ⟨hi 10 (by decide) (by decide), hi 28 (by decide) (by decide), hi 30 (by decide) (by decide), hi 40 (by decide) (by decide), fun i => by rw [hk.1], fun k i _ _ _ => by rw [hk.1]⟩, ⟨hk.line l1, by rw [hi 31 (by decide) (by decide)]; exact l2, l3, l4⟩, by rw [hi 32 (by decide) (by decide)]; exact b3, by rw [hi 5 (by decide) (by decide)]; exact b4, by rw [hi 34 (by decide) (by decide)]; exact b5, ?_, b7.trans ⟨fun k q => hi k (by omega) (by omega), fun k i q => by rw [hk.1]⟩, ?_⟩
  · unfold FN at b6 ⊢
    rw [hk.1]
    exact b6
  · unfold BG at b8 ⊢
    rw [hk.1, hi 33 (by decide) (by decide)]
    exact b8
/-- a container at the tip, just begun -/
theorem RB_of {m : MS} {m0 : MS → Prop} {v : VS} {μ : Nat → Nat} {t B E bt : Nat} {D : DL} {x4 : Int32} (h64 : vi v 64 = nI t) (hA : RA v m μ t (t + 1) B E D) (hk : kd v (vo v t) ≤ 3) (hL : LR v m) (h32 : m.1 32 = nI t) (h5 : m.1 5 = -1) (h34 : m.1 34 = 0) (h33 : m.1 33 = 1) (hF : FrX m0 m) : RB m0 v m μ t (t + 1) B E D t bt x4 := ⟨⟨h64, Or.inr ⟨hA, Or.inl ⟨hk, rfl⟩⟩⟩, hL, h32, h5, h34, fun z => by omega, hF, Or.inl ⟨h33, rfl, rfl⟩⟩
theorem RA.vs {v v' : VS} {m : MS} {μ : Nat → Nat} {t o B E : Nat} {D : DL} (hR : RA v m μ t o B E D) (h1 : ct v' = ct v) (h2 : vb v' = vb v) (h3 : vo v' = vo v) (h4 : vr v' = vr v) : RA v' m μ t o B E D := by
  obtain ⟨rG, rK, rO, rT, rX⟩ := hR
  have htx : tx v' = tx v := by unfold tx; rw [h4]
  refine ⟨rG.same h1 rfl (fun _ _ => rfl), ?_, ?_, rT.same (by rw [h4]) (by rw [h4]) (by rw [h4]) rfl rfl (fun _ => rfl) (fun _ _ _ => rfl), ?_⟩
  · intro i hi
    rw [h1] at hi
    obtain ⟨k1, k2, k3⟩ := rK i hi
    refine ⟨k1.keep (by rw [h2]) (fun _ _ _ _ _ _ _ _ _ _ => rfl), ?_, ?_⟩
    · rw [htx]
      exact k2.keep (by rw [h2]) rfl rfl (fun k _ => by rw [htx]) (by rw [htx]; exact Nat.le_refl _) (fun _ _ => rfl) (Nat.le_refl _)
    · rw [k3, h1, hdN_keep _ (fun j _ => by rw [h2])]
  · obtain ⟨o1, o2, o3, o4, o5, o6, o7, o8⟩ := rO
    unfold RO kd
    rw [h1, h2, h3]
    exact ⟨o1, o2, o3, o4, o5, o6, o7, o8⟩
  · intro i hi
    rw [h1] at hi
    rw [htx]
    exact (rX i hi).keep (by rw [h2]) rfl rfl (fun k _ => by rw [htx]) (by rw [htx]; exact Nat.le_refl _) (fun _ _ => rfl) (Nat.le_refl _)
section DITEM2
variable {Y : MX} {a1 : Array Value} {m : MS} {m0 : MS → Prop} {v2 v3 v4 v5 : VS} {μ : Nat → Nat} {t o B E h h' n bt : Nat} {D D' : DL} {x4 : Int32} {M : MS → Prop}
/-- the item, pushed on t -/
theorem d_itemOn (G : mF Y a1) {v v6 : VS} {t3 B3 E3 n : Nat} {μ3 : Nat → Nat} {D3 : DL} {m1 m2 : MS} (hA : RA v6 m1 μ3 (t3 + 1) (t3 + 2) (B3 + 1) E3 D3) {i6 : Nat} (hi : i6 < ct v6) (hv : vo v6 (t3 + 1) = i6) (hkd : kd v6 i6 = 3) (h64 : vi v6 64 = nI (t3 + 1)) (hμ : μ3 i6 = B3) (hlx : lx v6 = lx v ∧ lp v6 = lp v ∧ ld v6 = ld v) (hL : LR v m) (hF : FrB m2 m1) (hF2 : FrL m m2) (hF0 : FrX m0 m) (h34 : m2.1 34 = 0) (h32 : m1.1 32 = nI (t3 + 1)) (h33 : m1.1 33 = 1) (hml : mlF v ≤ 12 ∧ ld v ≤ 12000) : (m1.1 5 = -1 → RB m0 (mvT (vB v6 i6 11 (nI (iwF v))) (ipF v)) (mI (mA m1 24 B3 (nI (iwF v))) 31 (nI (ipF v))) μ3 (t3 + 1) (t3 + 2) (B3 + 1) E3 D3 (t3 + 1) bt x4) ∧ FrX m0 (mI (mA m1 24 B3 (nI (iwF v))) 31 (nI (ipF v))) := by
  have hw := itW_le (xs := lx v) (i := sA v) (d := ld v) (l := mlF v)
  have eiw : iwF v = itW (lx v) (sA v) (ld v) (mlF v) := rfl
  have hFr : FrX m0 (mI (mA m1 24 B3 (nI (iwF v))) 31 (nI (ipF v))) := (((hF0.trans hF2).trans hF.l).a (k := 24) (i := B3) (by decide) _).i (k := 31) (by decide) _
  refine ⟨fun h5 => ?_, hFr⟩
  have hA2 : RA (vB v6 i6 11 (nI (iwF v))) (mA m1 24 B3 (nI (iwF v))) μ3 (t3 + 1) (t3 + 2) (B3 + 1) E3 D3 := by
    have := RA_set (i := i6) (x := nI (iwF v)) hA hi (Or.inr (Or.inr ⟨rfl, rfl, hkd, iwF v, by omega, rfl⟩))
    rw [hμ] at this
    exact this
  have hA3 := (hA2.vs (v' := mvT (vB v6 i6 11 (nI (iwF v))) (ipF v)) rfl rfl rfl rfl).i (k := 31) (Or.inr (by decide)) (nI (ipF v))
  have hk6 : kd (mvT (vB v6 i6 11 (nI (iwF v))) (ipF v)) (vo (mvT (vB v6 i6 11 (nI (iwF v))) (ipF v)) (t3 + 1)) = 3 := by
    show ((upd2 (vb v6) i6 11 (nI (iwF v))) (vo v6 (t3 + 1)) 0).toNatClampNeg = 3
    rw [hv, upd2_off (fun y => by omega)]
    exact hkd
  refine RB_of h64 hA3 (by rw [hk6]; decide) ⟨?_, mI_at _ _ _, ?_, rfl⟩ ?_ ?_ ?_ ?_ hFr
  · show LnI _ (lx v6)
    rw [hlx.1]
    exact ((hF2.trans hF.l).a (k := 24) (i := B3) (by decide) _ |>.i (k := 31) (by decide) _).line hL.1
  · show ipF v ≤ (lx v6).length
    rw [hlx.1]
    exact Nat.min_le_right _ _
  · rw [mI_ne (by decide)]; exact h32
  · rw [mI_ne (by decide)]; exact h5
  · rw [mI_ne (by decide)]
    show m1.1 34 = 0
    rw [hF.1 34 (by decide) (by decide) (by decide) (by decide) (by decide) (by decide) (by decide) (by omega)]
    exact h34
  · rw [mI_ne (by decide)]; exact h33
theorem d_item1 (G : mF Y a1) (hB : RB m0 v2 m μ t o B E D h bt x4) (hT : TC K Y v2 v3 μ t o B h h' n 3 D D') (hmk : mkB (lx v2) (sA v2) = true) (h35 : m.1 35 = mkS (lx v2) (sA v2)) (hin : kd v2 (vo v2 h) = 2 ∧ vb v2 (vo v2 h) 12 = mkS (lx v2) (sA v2)) (hN : NwC v3 v4 (nI 3) (nI (vo v3 h')) (nI n) h') (hM : ∀ m', (h' ≤ 11 → ∃ E', RB m0 (mvT (vB v4 (ct v3) 11 (nI (iwF v2))) (ipF v2)) m' (muP v3 μ B) (h' + 1) (h' + 2) (B + 1) E' D' (h' + 1) bt x4) → (12 ≤ h' → m'.1 5 = nI n ∧ FrX m0 m') → M m') : mE Y 8 y_Mo_beginItem [.ref (mo Y), .int (nI (ld v2)), .int (nI (mlF v2)), .int (nI n)] m (vP M) := by
  have hL := hB.2.1
  have hlx := hL.1.2.2
  have hsp := run_in (xs := lx v2) (p := fun z => z == 32) hL.2.2.1
  have hspe : ld v2 = runFrom (fun z => z == 32) (lx v2) (lp v2) := hL.2.2.2
  have hdg : dgC (lx v2) (sA v2) ≤ 9 := by unfold dgC; exact Nat.min_le_left _ _
  have hT0 := hT
  obtain ⟨t1, t2, t3, t4, t5, t6, t7, t8, t9, t10, ⟨t11, t11b, t11c, t11d⟩, t12, t13, t14, t15⟩ := hT
  have hnx := t12.next hN
  have hi := hB.1.ro.2.2.2.2.1 h t8
  have hbk := (hB.1.rk _ hi).1
  have h29 := hB.1.ro.2.2.2.2.2.1 h t9
  have hμ := hB.1.rg.2.2.2.2.2.1 _ hi
  have h13 : m.2 13 (μ (vo v2 h)) = 2 := by rw [hbk.2.1, hbk.1.1, hin.1]; rfl
  have h22 : m.2 22 (μ (vo v2 h)) = mkS (lx v2) (sA v2) := by rw [← hin.2]; exact (hbk.2.2.2.2.2.2.2.2.2.2.1 (by omega)).symm
  refine g_Mo_beginItem G ?_
  unfold w_Mo_beginItem_0
  rw [hB.2.2.1, vp_nI (by omega), nI_clamp (by omega), h29, vp_nI (by omega), nI_clamp (by omega), h13, h22, h35]
  refine ⟨by omega, by omega, fun _ => ⟨by omega, by omega, fun _ => ?_, fun y => absurd rfl y⟩, fun y => absurd rfl y⟩
  have h3L : kd v2 (vo v2 h') = 2 := by
    rcases t1 with z | z
    · rw [z.1]; exact hin.1
    · rcases z.2 with w | w
      · have := hin.1; omega
      · exact absurd rfl w.2
  refine d_item75 (B := B) G hL (by omega) hmk (fun Ψ hΨ => hT0.dbeg G hB (by decide) (fun _ => h3L) hN (fun m1 E' hA hkd _ hG => hΨ m1 hG.1 ?_))
  have hon := d_itemOn (m0 := m0) (m := m) (bt := bt) (x4 := x4) (v := v2) (n := n) G hA (i6 := ct v3) (by rw [hN.1]; omega) hN.2.2.2.2.2.1 hkd hN.2.2.2.1 (if_pos rfl) ⟨hnx.1.trans t11, hnx.2.2.1.trans t11b, hnx.2.2.2.trans t11c⟩ hL hG.1 FrL.rfl hB.2.2.2.2.2.2.1 hB.2.2.2.2.1 hG.2.2.1 hG.2.2.2.1 ⟨by show dgC _ _ + 1 ≤ 12; omega, by omega⟩
  refine hM _ (fun h11 => ⟨E', hon.1 ?_⟩) (fun h12 => ⟨?_, hon.2⟩)
  · rw [hG.2.1, if_neg (fun z => by omega)]
    exact hB.2.2.2.1
  · rw [mI_ne (by decide)]
    show m1.1 5 = nI n
    rw [hG.2.1, if_pos ⟨by omega, hB.2.2.2.1⟩]
theorem d_item2 (G : mF Y a1) (hB : RB m0 v2 m μ t o B E D h bt x4) (hT : TC K Y v2 v3 μ t o B h h' n 2 D D') (hmk : mkB (lx v2) (sA v2) = true) (h35 : m.1 35 = mkS (lx v2) (sA v2)) (h36 : m.1 36 = dgN (lx v2) (sA v2) (dgC (lx v2) (sA v2))) (hin : ¬ (kd v2 (vo v2 h) = 2 ∧ vb v2 (vo v2 h) 12 = mkS (lx v2) (sA v2))) (hN : NwC v3 v4 (nI 2) (nI (vo v3 h')) (nI n) h') (hphi : 2 ≤ phi (lx v2) (lp v2)) (hN5 : NwC (vB (vB v4 (ct v3) 12 (mkS (lx v2) (sA v2))) (ct v3) 3 (dgN (lx v2) (sA v2) (dgC (lx v2) (sA v2)))) v5 (nI 3) (nI (ct v3)) (nI n) (h' + 1)) (hM : ∀ m', (h' ≤ 10 → ∃ E', RB m0 (mvT (vB v5 (ct v4) 11 (nI (iwF v2))) (ipF v2)) m' (muP v4 (muP v3 μ B) (B + 1)) (h' + 2) (h' + 3) (B + 2) E' D' (h' + 2) bt x4) → (11 ≤ h' → m'.1 5 = nI n ∧ FrX m0 m') → M m') : mE Y 8 y_Mo_beginItem [.ref (mo Y), .int (nI (ld v2)), .int (nI (mlF v2)), .int (nI n)] m (vP M) := by
  have hL := hB.2.1
  have hlx := hL.1.2.2
  have hsp := run_in (xs := lx v2) (p := fun z => z == 32) hL.2.2.1
  have hspe : ld v2 = runFrom (fun z => z == 32) (lx v2) (lp v2) := hL.2.2.2
  have hdg : dgC (lx v2) (sA v2) ≤ 9 := by unfold dgC; exact Nat.min_le_left _ _
  have hT0 := hT
  obtain ⟨t1, t2, t3, t4, t5, t6, t7, t8, t9, t10, ⟨t11, t11b, t11c, t11d⟩, t12, t13, t14, t15⟩ := hT
  have hnx := t12.next hN
  have hht : h' ≤ t := by rcases t1 with z | z <;> omega
  have hi := hB.1.ro.2.2.2.2.1 h t8
  have hbk := (hB.1.rk _ hi).1
  have h29 := hB.1.ro.2.2.2.2.2.1 h t9
  have hμ := hB.1.rg.2.2.2.2.2.1 _ hi
  have h13 : m.2 13 (μ (vo v2 h)) = nI (kd v2 (vo v2 h)) := by rw [hbk.2.1]; exact hbk.1.1
  have h22 : kd v2 (vo v2 h) = 2 → vb v2 (vo v2 h) 12 = m.2 22 (μ (vo v2 h)) := fun z => hbk.2.2.2.2.2.2.2.2.2.2.1 (by omega)
  have hk7 := hbk.1.2.1
  generalize hw : mkS (lx v2) (sA v2) = sg at *
  generalize hw2 : dgN (lx v2) (sA v2) (dgC (lx v2) (sA v2)) = nu at *
  -- the new list
  have h49 : w_Mo_beginItem_49 Y (nI (ld v2)) (nI (mlF v2)) (nI n) sg nu m (vP M) := by
    unfold w_Mo_beginItem_49
    refine hT0.dbeg (k := 2) G hB (by decide) (fun z => absurd z (by decide)) hN (fun m1 E' hA hkd _ hG => ⟨nI B, rfl, ?_⟩)
    show vp_in (nI B) 3300 ∧ _
    rw [vp_nI (by omega), nI_clamp (by omega)]
    refine ⟨by omega, fun m2 e2 => ⟨by omega, fun m3 e3 => ?_⟩⟩
    have hmu : muP v3 μ B (ct v3) = B := if_pos rfl
    have hi4 : ct v3 < ct v4 := by rw [hN.1]; omega
    have hA2 : RA (vB v4 (ct v3) 12 sg) m2 (muP v3 μ B) (h' + 1) (h' + 2) (B + 1) E' D' := by
      have := RA_set (i := ct v3) (x := sg) hA hi4 (Or.inr (Or.inl ⟨rfl, rfl, hkd⟩))
      rw [hmu] at this
      rw [e2]
      exact this
    have hA3 : RA (vB (vB v4 (ct v3) 12 sg) (ct v3) 3 nu) m3 (muP v3 μ B) (h' + 1) (h' + 2) (B + 1) E' D' := by
      have := RA_set (i := ct v3) (x := nu) hA2 hi4 (Or.inl ⟨rfl, rfl, by unfold kd; show (upd2 (vb v4) _ 12 _ (ct v3) 0).toNatClampNeg = 2; rw [upd2_off (fun y => absurd y.2 (by decide))]; exact hkd⟩)
      rw [hmu] at this
      rw [e3]
      exact this
    have hkd3 : ∀ i, kd (vB (vB v4 (ct v3) 12 sg) (ct v3) 3 nu) i = kd v4 i := fun i => by
      unfold kd
      show (upd2 (upd2 (vb v4) _ 12 _) _ 3 _ i 0).toNatClampNeg = _
      rw [upd2_off (fun y => by omega), upd2_off (fun y => by omega)]
    have hvo3 : vo v4 (h' + 1) = ct v3 := hN.2.2.2.2.2.1
    have hk3 : kd (vB (vB v4 (ct v3) 12 sg) (ct v3) 3 nu) (vo (vB (vB v4 (ct v3) 12 sg) (ct v3) 3 nu) (h' + 1)) = 2 := by
      rw [hkd3]
      show kd v4 (vo v4 (h' + 1)) = 2
      rw [hvo3]
      exact hkd
    have i3 : ∀ j, m3.1 j = m1.1 j := fun j => by rw [e3, e2]; rfl
    have hF3 : FrL m m3 := by
      rw [e3, e2]
      exact (hG.1.l.a (k := 22) (i := B) (by decide) _).a (k := 15) (i := B) (by decide) _
    have hL3 : LR v2 m3 := ⟨hF3.line hL.1, by
      rw [i3, hG.1.1 31 (by decide) (by decide) (by decide) (by decide) (by decide) (by decide) (by decide) (by omega)]
      exact hL.2.1, hL.2.2⟩
    have hno2 : ¬ kd v3 (vo v3 h') = 2 := by
      rw [t4, t5]
      rcases t1 with z | z
      · rw [z.1]
        intro y
        exact z.2.2 ⟨y, by decide⟩
      · intro y
        have := t7 h' (by omega) y
        rw [z.1] at this
        rcases z.2 with w | w <;> omega
    have hLI4 : LI (vB (vB v4 (ct v3) 12 sg) (ct v3) 3 nu) (h' + 1) := by
      have hl3 : LI v3 h' := fun j hj => by rw [t4, t5, t5]; exact t7 j (by omega)
      have := hl3.push hN t15 (by decide) (fun y => absurd y hno2)
      intro j hj
      rw [hkd3, hkd3]
      exact this j hj
    refine d_item75 (B := B + 1) G hL3 (by omega) hmk (fun Ψ hΨ => d_beg (v := vB (vB v4 (ct v3) 12 sg) (ct v3) 3 nu) (v' := vB (vB v4 (ct v3) 12 sg) (ct v3) 3 nu) (μ := muP v3 μ B) (t := h' + 1) (o := h' + 2) (E := E') (D := D') (D' := D') (h := h' + 1) G ⟨hN.2.2.2.1, Or.inr ⟨hA3, Or.inl ⟨by rw [hk3]; decide, rfl⟩⟩⟩ (by rw [i3]; exact hG.2.2.1) (Nat.le_refl _) (by omega) (Or.inl ⟨rfl, by rw [hk3]; decide, fun z => z.2 rfl⟩) (fun m2 E2 h2 M _ z1 z2 _ => by omega) (fun _ => ⟨rfl, rfl⟩) rfl (fun _ => rfl) hLI4 (by omega) (by omega) (by have := t12.2.2.2.1; omega) (by decide) (fun _ => hk3) (by rw [show vo (vB (vB v4 (ct v3) 12 sg) (ct v3) 3 nu) (h' + 1) = ct v3 from hvo3]; exact hN5) (fun m5 E5 hA5 hkd5 _ hG5 => hΨ m5 hG5.1 ?_))
    have hon := d_itemOn (m0 := m0) (m := m) (m2 := m3) (bt := bt) (x4 := x4) (v := v2) (n := n) G hA5 (i6 := ct v4) (by rw [hN5.1]; show ct v4 < ct v4 + 1; omega) hN5.2.2.2.2.2.1 hkd5 hN5.2.2.2.1 (if_pos rfl) ?_ hL hG5.1 hF3 hB.2.2.2.2.2.2.1 ?_ hG5.2.2.1 hG5.2.2.2.1 ⟨by show dgC _ _ + 1 ≤ 12; omega, by omega⟩
    · have d1 : m3.1 5 = (if (2 ≤ 3 ∧ 12 ≤ h') ∧ m.1 5 = -1 then nI n else m.1 5) := (i3 5).trans hG.2.1
      have hn3 := t12.2.2.2.1
      refine hM _ (fun h11 => ⟨E5, hon.1 ?_⟩) (fun h12 => ⟨?_, hon.2⟩)
      · rw [hG5.2.1, d1, if_neg (fun z => by omega), if_neg (fun z => by omega)]
        exact hB.2.2.2.1
      · rw [mI_ne (by decide)]
        show m5.1 5 = nI n
        by_cases q : 12 ≤ h'
        · rw [if_pos ⟨⟨by omega, q⟩, hB.2.2.2.1⟩] at d1
          rw [hG5.2.1, d1, if_neg (fun z => nI_nm1 (by omega) z.2)]
        · rw [if_neg (fun z => q z.1.2), hB.2.2.2.1] at d1
          rw [hG5.2.1, d1, if_pos ⟨⟨by omega, by omega⟩, rfl⟩]
    · have h10 := hN5.2.2.2.2.2.2.2.2.2.1
      have h9 := hN5.2.2.2.2.2.2.2.2.1
      refine ⟨?_, ?_, ?_⟩
      · show vr v5 11 = _
        rw [h10]
        exact hnx.1.trans t11
      · show vn v5 52 = _
        rw [h9 52 (by decide)]
        exact hnx.2.2.1.trans t11b
      · show vn v5 53 = _
        rw [h9 53 (by decide)]
        exact hnx.2.2.2.trans t11c
    · rw [i3, hG.1.1 34 (by decide) (by decide) (by decide) (by decide) (by decide) (by decide) (by decide) (by omega)]
      exact hB.2.2.2.2.1
  refine g_Mo_beginItem G ?_
  unfold w_Mo_beginItem_0
  rw [hB.2.2.1, vp_nI (by omega), nI_clamp (by omega), h29, vp_nI (by omega), nI_clamp (by omega), h13, h35, h36]
  refine ⟨by omega, by omega, fun c1 => ⟨by omega, by omega, fun c2 => absurd ⟨(lit_eqJ (by decide) (by omega)).mp c1, (h22 ((lit_eqJ (by decide) (by omega)).mp c1)).trans c2⟩ hin, fun _ => h49⟩, fun _ => h49⟩
end DITEM2
end KB
