section KB
variable {K : Nat}
/-! leaves begin: the model -/
/-- the line is done -/
def RDn (m0 : MS → Prop) (v : VS) (m : MS) (μ : Nat → Nat) (t o B E : Nat) (D : DL) : Prop := RR v m μ t o B E D ∧ FN v m μ t ∧ FrX m0 m ∧ m.1 5 = -1 ∧ m.1 34 = 1
section MLEAF
variable {Y : MX} {a1 : Array Value} {m : MS} {m0 : MS → Prop} {v2 v3 v4 : VS} {μ : Nat → Nat} {t o B E h h' n bt : Nat} {D D' : DL} {x4 : Int32}
theorem d_rule (G : mF Y a1) (hB : RB m0 v2 m μ t o B E D h bt x4) (hT : TC K Y v2 v3 μ t o B h h' n 6 D D') (hN : NwC v3 v4 (nI 6) (nI (vo v3 h')) (nI n) h') {Φ : Option Value → MS → Prop} (hΦ : ∀ m' E', RDn m0 (vI v4 67 1) m' (muP v3 μ B) (h' + 1) (h' + 1) (B + 1) E' D' → Φ (some (.int 0)) m') : mE Y 7 y_Mo_begin [.ref (mo Y), .int (6), .int (nI n)] m (iP fun r5 m5 => ∀ m6, m6 = mI m5 34 (1) → mE Y 6 y_Mo_closeTo [.ref (mo Y), .int (m6.1 32)] m6 (vP fun m7 => Φ (some (.int (0))) m7)) := by
  refine hT.dbeg (k := 6) G hB (by decide) (fun z => absurd z (by decide)) hN (fun m1 E' hA hkd _ hG => ⟨nI B, rfl, fun m6 e6 => ?_⟩)
  have h32 : m6.1 32 = nI (h' + 1) := by rw [e6, mI_ne (by decide)]; exact hG.2.2.1
  rw [h32]
  have hvo := hN.2.2.2.2.2.1
  have hA6 : RA v4 m6 (muP v3 μ B) (h' + 1) (h' + 2) (B + 1) E' D' := by rw [e6]; exact hA.i (Or.inr (by decide)) _
  refine d_closeLeaf G hA6 (by rw [hvo, hkd]; decide) ?_
  refine hΦ _ E' ⟨⟨hN.2.2.2.1, Or.inr ⟨(hA6.drop).vs rfl rfl rfl rfl, Or.inr ⟨Or.inr ?_, rfl⟩⟩⟩, fun z => ?_, ?_, ?_, ?_⟩
  · show kd v4 (vo v4 (h' + 1)) = 6
    rw [hvo, hkd]
  · have : kd v4 (vo v4 (h' + 1)) = 7 := z
    rw [hvo, hkd] at this
    omega
  · rw [e6]
    exact ((hB.2.2.2.2.2.2.1.trans hG.1.l).i (k := 34) (by decide) _).i (k := 30) (by decide) _
  · rw [mI_ne (by decide), e6, mI_ne (by decide), hG.2.1, if_neg (fun z => by omega)]
    exact hB.2.2.2.1
  · rw [mI_ne (by decide), e6, mI_at]
theorem d_indented (G : mF Y a1) (hB : RB m0 v2 m μ t o B E D h bt x4) (hT : TC K Y v2 v3 μ t o B h h' n 7 D D') (hN : NwC v3 v4 (nI 7) (nI (vo v3 h')) (nI n) h') (h4 : 4 ≤ ld v2) {Φ : Option Value → MS → Prop} (hΦ : ∀ m' E', RB m0 (mvT v4 (min (lp v2 + 4) (lx v2).length)) m' (muP v3 μ B) (h' + 1) (h' + 2) (B + 1) E' D' (h' + 1) bt x4 → Φ (some (.int 0)) m') : mE Y 7 y_Mo_begin [.ref (mo Y), .int (7), .int (nI n)] m (iP fun r1 m1 => ∀ m2, m2 = mI m1 31 ((m1.1 31) + 4) → Φ (some (.int (0))) m2) := by
  have hL := hB.2.1
  have hsp := run_in (xs := lx v2) (p := fun z => z == 32) hL.2.2.1
  have hspe : ld v2 = runFrom (fun z => z == 32) (lx v2) (lp v2) := hL.2.2.2
  refine hT.dbeg (k := 7) G hB (by decide) (fun z => absurd z (by decide)) hN (fun m1 E' hA hkd hRL hG => ⟨nI B, rfl, fun m2 e2 => ?_⟩)
  obtain ⟨t1, t2, t3, t4, t5, t6, t7, t8, t9, t10, ⟨t11, t11b, t11c, t11d⟩, t12, t13, t14, t15⟩ := hT
  have hnx := t12.next hN
  have hvo := hN.2.2.2.2.2.1
  have e31 : m1.1 31 = nI (lp v2) := (hG.1.1 31 (by decide) (by decide) (by decide) (by decide) (by decide) (by decide) (by decide) (by omega)).trans hL.2.1
  have e2' : m2 = mI m1 31 (nI (min (lp v2 + 4) (lx v2).length)) := by
    rw [e2, e31, show nI (lp v2) + 4 = nI (lp v2 + 4) from nI_add _ 4, show min (lp v2 + 4) (lx v2).length = lp v2 + 4 by omega]
  have hFr : FrX m0 m2 := by rw [e2']; exact (hB.2.2.2.2.2.2.1.trans hG.1.l).i (k := 31) (by decide) _
  have hi : ∀ j, j ≠ 31 → m2.1 j = m1.1 j := fun j hj => by rw [e2']; exact mI_ne hj
  have hRR : RR v4 m1 (muP v3 μ B) (h' + 1) (h' + 2) (B + 1) E' D' := ⟨hN.2.2.2.1, Or.inl (hRL (Or.inr rfl))⟩
  refine hΦ m2 E' ⟨hRR.same ⟨rfl, rfl, rfl, rfl, rfl, rfl, rfl⟩ ⟨hi 10 (by decide), hi 28 (by decide), hi 30 (by decide), hi 40 (by decide), fun i => by rw [e2']; rfl, fun k i _ _ _ => by rw [e2']; rfl⟩, ⟨?_, ?_, ?_, rfl⟩, ?_, ?_, ?_, fun _ z => ?_, hFr, Or.inl ⟨?_, rfl, rfl⟩⟩
  · show LnI m2 (lx v4)
    rw [hnx.1, t11]
    have := hG.1.l.line hL.1
    rw [e2']
    exact ⟨(mI_ne (by decide)).trans this.1, this.2⟩
  · rw [e2', mI_at]
    rfl
  · show min _ _ ≤ (lx v4).length
    rw [hnx.1, t11]
    exact Nat.min_le_right _ _
  · rw [hi 32 (by decide)]; exact hG.2.2.1
  · rw [hi 5 (by decide), hG.2.1, if_neg (fun z => by omega)]
    exact hB.2.2.2.1
  · rw [hi 34 (by decide), hG.1.1 34 (by decide) (by decide) (by decide) (by decide) (by decide) (by decide) (by decide) (by omega)]
    exact hB.2.2.2.2.1
  · exfalso
    apply z
    show vb v4 (vo v4 (h' + 1)) 12 = 0
    rw [hvo, hN.2.2.1]
    rfl
  · rw [hi 33 (by decide)]; exact hG.2.2.2.1
theorem sl_self_trim {xs : List Int32} {f t : Nat} (h : spF xs f = 0) (hf : f ≤ t) : min t (f + spF xs f) = f := by rw [h]; omega
theorem d_heading (G : mF Y a1) (hB : RB m0 v2 m μ t o B E D h bt x4) (hT : TC K Y v2 v3 μ t o B h h' n 5 D D') (hN : NwC v3 v4 (nI 5) (nI (vo v3 h')) (nI n) h') (hTB : TB v2) (hlv : 0 < hdLv (lx v2) (sA v2)) {M : MS → Prop} (hM : ∀ m' E', RDn m0 (vI (vB (vR (vB v4 (ct v3) 3 (nI (hdLv (lx v2) (sA v2)))) 10 (tx v2 ++ hdO (lx v2) (sA v2))) (ct v3) 6 (nI (hdO (lx v2) (sA v2)).length)) 67 1) m' (muP v3 μ B) (h' + 1) (h' + 1) (B + 1) E' D' → M m') : mE Y 8 y_Mo_beginHeading [.ref (mo Y), .int (nI (ld v2)), .int (nI n)] m (vP M) := by
  have hL := hB.2.1
  have hlx := hL.1.2.2
  have hsp := run_in (xs := lx v2) (p := fun z => z == 32) hL.2.2.1
  have hspe : ld v2 = runFrom (fun z => z == 32) (lx v2) (lp v2) := hL.2.2.2
  have es : sA v2 = lp v2 + ld v2 := rfl
  have hT0 := hT
  obtain ⟨t1, t2, t3, t4, t5, t6, t7, t8, t9, t10, ⟨t11, t11b, t11c, t11d⟩, t12, t13, t14, t15⟩ := hT
  have hnx := t12.next hN
  have hvo := hN.2.2.2.2.2.1
  have hin := hdLv_in (xs := lx v2) (s := sA v2) (by omega)
  have hsp2 := run_in (xs := lx v2) (p := fun z => z == 32) hin
  have hrow : nI (runFrom (fun z => z == 35) (lx v2) (sA v2)) = nI (hdLv (lx v2) (sA v2)) := by
    have h35 : rowAt (lx v2) (nI (sA v2)) = 35 := by
      apply Decidable.byContradiction
      intro z
      unfold hdLv at hlv
      rw [if_neg z] at hlv
      omega
    have : hdLv (lx v2) (sA v2) = smF (lx v2) (sA v2) := by
      unfold hdLv at hlv ⊢
      rw [if_pos h35] at hlv ⊢
      split at hlv
      · next q => rw [if_pos q]
      · omega
    rw [this, smF_eq h35]
  have ha : hdA (lx v2) (sA v2) ≤ (lx v2).length := hsp2
  have hidle : spF (lx v2) (hdA (lx v2) (sA v2)) = 0 := run_idle (xs := lx v2) (p := fun z => z == 32) (by omega) (lx v2).length _ (by omega)
  generalize hxs : lx v2 = xs at *
  generalize hlvv : hdLv xs (sA v2) = lv at *
  generalize haa : hdA xs (sA v2) = a at *
  have haa' : sA v2 + lv + spF xs (sA v2 + lv) = a := by rw [← haa, ← hlvv]
  have h1 := bfC_ge xs a 32 xs.length ha
  have h2 := bfC_le xs a 32 xs.length
  have h3 := bfC_ge xs a 35 _ h1
  have h4 := bfC_le xs a 35 (bfC xs a 32 xs.length)
  have ek : hdK xs a = bfC xs a 35 (bfC xs a 32 xs.length) := rfl
  have hTi := hdT_in ha
  have hos : hdO xs (sA v2) = sl xs a (hdT xs a) := by
    unfold hdO
    rw [haa]
  have hcnt : (hdO xs (sA v2)).countP nsB ≤ xs.countP nsB := by rw [hos]; exact sl_count _
  have hlen : (hdO xs (sA v2)).length = hdT xs a - a := by rw [hos, sl_len hTi.2]
  -- from the text on
  have h155 : ∀ (x1 x2 x3 x7 : Int32) (e : Nat) (m2 : MS) (E' : Nat), a ≤ e → e ≤ xs.length → bfC xs a 32 e = hdT xs a → RA v4 m2 (muP v3 μ B) (h' + 1) (h' + 2) (B + 1) E' D' → BgR m m2 B ((tx v3).length + E') h' 5 n → kd v4 (ct v3) = 5 → LnI (mA m2 15 B (nI lv)) xs → w_Mo_beginHeading_155 Y x1 x2 x3 (nI B) (nI a) (nI e) x7 (mA m2 15 B (nI lv)) (vP M) := by
    intro x1 x2 x3 x7 e m2 E' e1 e2 e3 hA hG hkd hLn
    have hRT := hA.2.2.2.1
    have htx4 : tx v4 = tx v2 := hnx.2.1.trans t11d
    have hE := hRT.2.2.1
    rw [htx4] at hE
    have hTB1 := hTB.1
    rw [hxs] at hTB1
    have hTB2 := hTB.2
    rw [hxs] at hTB2
    unfold w_Mo_beginHeading_155
    refine d_Mo_keepTrimmed (P := (tx v2).length + E') (a := a) (e := hdT xs a) G hLn e1 e2 (sl_self_trim hidle e1).symm e3.symm (by show m2.1 10 = _; rw [hG.2.2.2.2.1, t11d]) (by omega) ?_
    rw [vp_nI (by omega), nI_clamp (by omega)]
    refine ⟨by omega, fun m3 em3 m4 em4 => ?_⟩
    have hmu : muP v3 μ B (ct v3) = B := if_pos rfl
    have hi4 : ct v3 < ct v4 := by rw [hN.1]; omega
    have hA3 : RA (vB (vR (vB v4 (ct v3) 3 (nI lv)) 10 (tx v4 ++ hdO xs (sA v2))) (ct v3) 6 (nI (hdO xs (sA v2)).length)) m3 (muP v3 μ B) (h' + 1) (h' + 2) (B + 1) E' D' := by
      refine RA_head (lv := nI lv) (os := hdO xs (sA v2)) hA hi4 hkd ?_ ?_ ?_ ?_ rfl ?_
      · rw [hN.2.2.1, hnx.2.1]; rfl
      · rw [hmu, hG.2.2.2.2.2.1, hnx.2.1]
      · rw [htx4]; omega
      · rw [htx4]; omega
      · rw [hmu, em3, htx4, hlen, hos]
    have h32 : m4.1 32 = nI (h' + 1) := by
      rw [em4, mI_ne (by decide), em3]
      show (extF (mA m2 15 B (nI lv)) ((tx v2).length + E') (sl xs a (hdT xs a))).1 32 = _
      rw [extF_i (by decide)]
      exact hG.2.2.1
    rw [h32]
    have hA4 : RA (vB (vR (vB v4 (ct v3) 3 (nI lv)) 10 (tx v4 ++ hdO xs (sA v2))) (ct v3) 6 (nI (hdO xs (sA v2)).length)) m4 (muP v3 μ B) (h' + 1) (h' + 2) (B + 1) E' D' := by rw [em4]; exact hA3.i (Or.inr (by decide)) _
    have hk5 : kd (vB (vR (vB v4 (ct v3) 3 (nI lv)) 10 (tx v4 ++ hdO xs (sA v2))) (ct v3) 6 (nI (hdO xs (sA v2)).length)) (vo v4 (h' + 1)) = 5 := by
      rw [hvo]
      show (upd2 (upd2 (vb v4) (ct v3) 3 _) (ct v3) 6 _ (ct v3) 0).toNatClampNeg = 5
      rw [upd2_off (fun y => absurd y.2 (by decide)), upd2_off (fun y => absurd y.2 (by decide))]
      exact hkd
    refine d_closeLeaf G hA4 (by show kd _ (vo v4 (h' + 1)) ≠ 4 ∧ kd _ (vo v4 (h' + 1)) ≠ 7; rw [hk5]; decide) ⟨rfl, ?_⟩
    rw [htx4] at hA4 hk5
    refine hM _ E' ⟨⟨hN.2.2.2.1, Or.inr ⟨(hA4.drop).vs rfl rfl rfl rfl, Or.inr ⟨Or.inl hk5, rfl⟩⟩⟩, fun z => ?_, ?_, ?_, ?_⟩
    · have z' : kd _ (vo v4 (h' + 1)) = 7 := z
      have := hk5.symm.trans z'
      omega
    · rw [em4, em3]
      refine FrX.i (k := 30) (FrX.i (k := 34) (FrX.a (k := 19) ?_ (by decide) _) (by decide) _) (by decide) _
      have hf := (hB.2.2.2.2.2.2.1.trans hG.1.l).a (k := 15) (i := B) (by decide) (nI lv)
      exact hf.trans ⟨fun k q => extF_i (by omega), fun k i q => extF_k (by omega)⟩
    · rw [mI_ne (by decide), em4, mI_ne (by decide), em3]
      show (extF (mA m2 15 B (nI lv)) ((tx v2).length + E') (sl xs a (hdT xs a))).1 5 = _
      rw [extF_i (by decide)]
      show m2.1 5 = _
      rw [hG.2.1, if_neg (fun z => by omega)]
      exact hB.2.2.2.1
    · rw [mI_ne (by decide), em4, mI_at]
  refine g_Mo_beginHeading (I39 := fun j x1 x2 x3 x4 x5 m' => x4 = nI B ∧ (∃ m2 E', m' = mA m2 15 B (nI lv) ∧ RA v4 m2 (muP v3 μ B) (h' + 1) (h' + 2) (B + 1) E' D' ∧ BgR m m2 B ((tx v3).length + E') h' 5 n ∧ kd v4 (ct v3) = 5 ∧ LnI m' xs) ∧ ∃ k, x5 = nI k ∧ sA v2 + lv ≤ k ∧ k ≤ xs.length ∧ j + k = xs.length ∧ k + spF xs k = a) (I72 := fun j x1 x2 x3 x4 x5 x6 m' => x4 = nI B ∧ x5 = nI a ∧ (∃ m2 E', m' = mA m2 15 B (nI lv) ∧ RA v4 m2 (muP v3 μ B) (h' + 1) (h' + 2) (B + 1) E' D' ∧ BgR m m2 B ((tx v3).length + E') h' 5 n ∧ kd v4 (ct v3) = 5 ∧ LnI m' xs) ∧ x6 = nI j ∧ a ≤ j ∧ j ≤ xs.length ∧ bfC xs a 32 j = bfC xs a 32 xs.length) (I103 := fun j x1 x2 x3 x4 x5 x6 x7 m' => x4 = nI B ∧ x5 = nI a ∧ (∃ m2 E', m' = mA m2 15 B (nI lv) ∧ RA v4 m2 (muP v3 μ B) (h' + 1) (h' + 2) (B + 1) E' D' ∧ BgR m m2 B ((tx v3).length + E') h' 5 n ∧ kd v4 (ct v3) = 5 ∧ LnI m' xs) ∧ x6 = nI (bfC xs a 32 xs.length) ∧ x7 = nI j ∧ a ≤ j ∧ j ≤ xs.length ∧ bfC xs a 35 j = hdK xs a) G ?_ ?_ ?_ ?_
  · unfold w_Mo_beginHeading_0
    rw [hL.2.1, nI_add]
    refine d_Mo_row G hL.1 (by omega) (by decide) ?_
    rw [show lp v2 + ld v2 = sA v2 from rfl, hxs, hrow]
    refine hT0.dbeg (k := 5) G hB (by decide) (fun z => absurd z (by decide)) hN (fun m1 E' hA hkd _ hG => ⟨nI B, rfl, ?_⟩)
    show vp_in (nI B) 3300 ∧ _
    rw [vp_nI (by omega), nI_clamp (by omega)]
    refine ⟨by omega, fun m3 e3 => ?_⟩
    have e31 : m3.1 31 = nI (lp v2) := by
      rw [e3]
      exact (hG.1.1 31 (by decide) (by decide) (by decide) (by decide) (by decide) (by decide) (by decide) (by omega)).trans hL.2.1
    have hLn1 := hG.1.l.line hL.1
    rw [e31, nI_add, nI_add]
    exact ⟨xs.length - (sA v2 + lv), rfl, ⟨m1, E', e3, hA, hG, hkd, by rw [e3, ← hxs]; exact ⟨hLn1.1, fun i hi => hLn1.2.1 i hi, hLn1.2.2⟩⟩, sA v2 + lv, rfl, Nat.le_refl _, by omega, by omega, haa'⟩
  all_goals skip
  · rintro j x1 x2 x3 x4 x5 x6 x7 m' ⟨rfl, rfl, ⟨m2, E', rfl, hA, hG, hkd, hLn⟩, rfl, rfl, hj1, hj2, hj3⟩
    have h130 : j = hdK xs a → w_Mo_beginHeading_130 Y x1 x2 x3 (nI B) (nI a) (nI (bfC xs a 32 xs.length)) (nI j) (mA m2 15 B (nI lv)) (vP M) := by
      intro ej
      have h151 : (j = a ∨ rowAt xs (nI (j - 1)) = 32) → w_Mo_beginHeading_151 Y x1 x2 x3 (nI B) (nI a) (nI (bfC xs a 32 xs.length)) (nI j) (mA m2 15 B (nI lv)) (vP M) := by
        intro hx
        refine h155 x1 x2 x3 (nI j) j m2 E' hj1 hj2 ?_ hA hG hkd hLn
        unfold hdT
        rw [← ej, if_pos hx]
      unfold w_Mo_beginHeading_130
      rw [nI_eq (by omega) (by omega)]
      refine ⟨fun z => h151 (Or.inl z), fun z => ?_⟩
      obtain ⟨j', rfl⟩ : ∃ j', j = j' + 1 := ⟨j - 1, by omega⟩
      rw [nI_pred, vp_nI (by omega), nI_clamp (by omega), hLn.get (by omega)]
      refine ⟨by omega, fun z2 => h151 (Or.inr z2), fun z2 => h155 x1 x2 x3 _ _ m2 E' h1 h2 ?_ hA hG hkd hLn⟩
      rw [bfC_idle]
      unfold hdT
      rw [← ej, if_neg]
      rintro (y | y)
      · exact z y
      · exact z2 y
    unfold w_Mo_beginHeading_103
    rw [nI_leI (by omega) (by omega)]
    cases j with
    | zero => exact ⟨fun _ => h130 (by rw [← hj3]; rfl), fun z => by omega⟩
    | succ j =>
      refine ⟨fun z => h130 (by rw [← hj3, bfC.eq_2, if_neg (fun q => by omega)]), fun z => ?_⟩
      rw [nI_pred, vp_nI (by omega), nI_clamp (by omega), hLn.get (by omega)]
      refine ⟨by omega, fun c2 => ⟨j, by omega, rfl, rfl, ⟨m2, E', rfl, hA, hG, hkd, hLn⟩, rfl, nI_dec j, by omega, by omega, ?_⟩, fun c2 => h130 ?_⟩
      · rw [← hj3, bfC.eq_2, if_pos ⟨by omega, c2⟩]
      · rw [← hj3, bfC.eq_2, if_neg (fun q => c2 q.2)]
  · rintro j x1 x2 x3 x4 x5 x6 m' ⟨rfl, rfl, hx, rfl, hj1, hj2, hj3⟩
    have hLn : LnI m' xs := by obtain ⟨_, _, _, _, _, _, z⟩ := hx; exact z
    unfold w_Mo_beginHeading_72 w_Mo_beginHeading_99
    rw [nI_leI (by omega) (by omega)]
    cases j with
    | zero =>
      refine ⟨fun _ => ⟨bfC xs a 32 xs.length, rfl, rfl, hx, ?_, ?_, h1, h2, rfl⟩, fun z => by omega⟩
      · rw [← hj3]; rfl
      · rw [← hj3]; rfl
    | succ j =>
      refine ⟨fun z => ⟨bfC xs a 32 xs.length, rfl, rfl, hx, ?_, ?_, h1, h2, rfl⟩, fun z => ?_⟩
      · rw [← hj3, bfC.eq_2, if_neg (fun q => by omega)]
      · rw [← hj3, bfC.eq_2, if_neg (fun q => by omega)]
      rw [nI_pred, vp_nI (by omega), nI_clamp (by omega), hLn.get (by omega)]
      refine ⟨by omega, fun c2 => ⟨j, by omega, rfl, rfl, hx, nI_dec j, by omega, by omega, ?_⟩, fun c2 => ⟨bfC xs a 32 xs.length, rfl, rfl, hx, ?_, ?_, h1, h2, rfl⟩⟩
      · rw [← hj3, bfC.eq_2, if_pos ⟨by omega, c2⟩]
      · rw [← hj3, bfC.eq_2, if_neg (fun q => c2 q.2)]
      · rw [← hj3, bfC.eq_2, if_neg (fun q => c2 q.2)]
  · rintro j x1 x2 x3 x4 x5 m' ⟨rfl, hx, k, rfl, hk1, hk2, hk3, hk4⟩
    have hLn : LnI m' xs := by obtain ⟨_, _, _, _, _, _, z⟩ := hx; exact z
    have h66 : k = a → w_Mo_beginHeading_66 Y x1 x2 x3 (nI B) (nI k) m' (vP M) (fun x1 x2 x3 x4 x5 x6 m' => ∃ j, x4 = nI B ∧ x5 = nI a ∧ (∃ m2 E', m' = mA m2 15 B (nI lv) ∧ RA v4 m2 (muP v3 μ B) (h' + 1) (h' + 2) (B + 1) E' D' ∧ BgR m m2 B ((tx v3).length + E') h' 5 n ∧ kd v4 (ct v3) = 5 ∧ LnI m' xs) ∧ x6 = nI j ∧ a ≤ j ∧ j ≤ xs.length ∧ bfC xs a 32 j = bfC xs a 32 xs.length) (fun x1 x2 x3 x4 x5 x6 x7 m' => ∃ j, x4 = nI B ∧ x5 = nI a ∧ (∃ m2 E', m' = mA m2 15 B (nI lv) ∧ RA v4 m2 (muP v3 μ B) (h' + 1) (h' + 2) (B + 1) E' D' ∧ BgR m m2 B ((tx v3).length + E') h' 5 n ∧ kd v4 (ct v3) = 5 ∧ LnI m' xs) ∧ x6 = nI (bfC xs a 32 xs.length) ∧ x7 = nI j ∧ a ≤ j ∧ j ≤ xs.length ∧ bfC xs a 35 j = hdK xs a) := fun e => ⟨xs.length, rfl, by rw [e], hx, hLn.1, ha, Nat.le_refl _, rfl⟩
    unfold w_Mo_beginHeading_39
    rw [hLn.1, nI_leI (by omega) (by omega), vp_nI (by omega), nI_clamp (by omega)]
    refine ⟨fun c1 => h66 ?_, fun c1 => ⟨by omega, ?_⟩⟩
    · rw [spF, runFrom_end (by omega)] at hk4
      exact hk4
    · rw [hLn.get (by omega)]
      refine ⟨fun c2 => ⟨j - 1, by omega, rfl, hx, k + 1, nI_1 k, by omega, by omega, by omega, ?_⟩, fun c2 => h66 ?_⟩
      · have e2 : spF xs k = spF xs (k + 1) + 1 := runFrom_y (xs := xs) (p := fun z => z == 32) (i := k) (by omega) (by omega) (by rw [c2]; rfl)
        clear h66 h155
        omega
      · have e2 : spF xs k = 0 := runFrom_n (xs := xs) (p := fun z => z == 32) (i := k) (by omega) (by omega) (by simpa using c2)
        clear h66 h155
        omega
end MLEAF
end KB
