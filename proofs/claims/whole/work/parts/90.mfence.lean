section KB
variable {K : Nat}
section MFENCE
variable {Y : MX} {a1 : Array Value} {m : MS} {m0 : MS → Prop} {v2 v3 v4 : VS} {μ : Nat → Nat} {t o B E h h' n bt : Nat} {D D' : DL} {x4 : Int32}
theorem d_fence (G : mF Y a1) (hB : RB m0 v2 m μ t o B E D h bt x4) (hT : TC K Y v2 v3 μ t o B h h' n 7 D D') (hN : NwC v3 v4 (nI 7) (nI (vo v3 h')) (nI n) h') (hTB : TB v2) (hfl : 0 < fnLn (lx v2) (sA v2)) {M : MS → Prop} (hM : ∀ m' E', RDn m0 (vI (vB (vB (vR (vI (vI (vB v4 (ct v3) 12 (rowAt (lx v2) (nI (sA v2)))) 68 (nI (fnLn (lx v2) (sA v2)))) 69 (nI (ld v2))) 10 (tx v2 ++ fnO (lx v2) (sA v2))) (ct v3) 8 (nI (fnO (lx v2) (sA v2)).length)) (ct v3) 5 (nI ((tx v2).length + (fnO (lx v2) (sA v2)).length))) 67 1) m' (muP v3 μ B) (h' + 1) (h' + 2) (B + 1) E' D' → M m') : mE Y 8 y_Mo_beginFence [.ref (mo Y), .int (nI (ld v2)), .int (nI n)] m (vP M) := by
  have hL := hB.2.1
  have hlx := hL.1.2.2
  have hsp := run_in (xs := lx v2) (p := fun z => z == 32) hL.2.2.1
  have hspe : ld v2 = runFrom (fun z => z == 32) (lx v2) (lp v2) := hL.2.2.2
  have es : sA v2 = lp v2 + ld v2 := rfl
  have hT0 := hT
  obtain ⟨t1, t2, t3, t4, t5, t6, t7, t8, t9, t10, ⟨t11, t11b, t11c, t11d⟩, t12, t13, t14, t15⟩ := hT
  have hnx := t12.next hN
  have hvo := hN.2.2.2.2.2.1
  have hin := fnLn_in (xs := lx v2) (s := sA v2) (by omega)
  have hsp2 := run_in (xs := lx v2) (p := fun z => z == 32) hin
  have hsg : rowAt (lx v2) (nI (sA v2)) = 96 ∨ rowAt (lx v2) (nI (sA v2)) = 126 := by
    apply Decidable.byContradiction
    intro z
    unfold fnLn at hfl
    rw [if_neg z] at hfl
    omega
  have hfe : fnLn (lx v2) (sA v2) = smF (lx v2) (sA v2) := by
    unfold fnLn at hfl ⊢
    rw [if_pos hsg] at hfl ⊢
    split at hfl
    · omega
    · next q =>
      rw [if_neg q]
      split at hfl
      · next q2 => rw [if_pos q2]
      · omega
  have hrow : nI (runFrom (fun z => z == rowAt (lx v2) (nI (sA v2))) (lx v2) (sA v2)) = nI (fnLn (lx v2) (sA v2)) := by rw [hfe, smF_eq rfl]
  have ha : fnA (lx v2) (sA v2) ≤ (lx v2).length := hsp2
  have hsg0 : rowAt (lx v2) (nI (sA v2)) ≠ 0 ∧ rowAt (lx v2) (nI (sA v2)) ≠ -1 := by rcases hsg with z | z <;> (rw [z]; decide)
  have h1 := bfC_ge (lx v2) (fnA (lx v2) (sA v2)) 32 (lx v2).length ha
  have h2 := bfC_le (lx v2) (fnA (lx v2) (sA v2)) 32 (lx v2).length
  have hlen : (fnO (lx v2) (sA v2)).length = bfC (lx v2) (fnA (lx v2) (sA v2)) 32 (lx v2).length - fnA (lx v2) (sA v2) := by unfold fnO; rw [sl_len h2]
  have hcnt : (fnO (lx v2) (sA v2)).countP nsB ≤ (lx v2).countP nsB := sl_count _
  generalize hsgg : rowAt (lx v2) (nI (sA v2)) = sg at *
  refine g_Mo_beginFence G ?_
  unfold w_Mo_beginFence_0
  rw [hL.2.1, nI_add]
  refine d_Mo_at G hL.1 (by omega) ?_
  rw [hL.2.1, nI_add]
  refine d_Mo_row G hL.1 (by omega) (by rw [show lp v2 + ld v2 = sA v2 from rfl, hsgg]; exact hsg0.2) ?_
  rw [show lp v2 + ld v2 = sA v2 from rfl, hsgg, hrow]
  refine hT0.dbeg (k := 7) G hB (by decide) (fun z => absurd z (by decide)) hN (fun m3 E' hA hkd _ hG => ⟨nI B, rfl, ?_⟩)
  show vp_in (nI B) 3300 ∧ _
  rw [vp_nI (by omega), nI_clamp (by omega)]
  refine ⟨by omega, fun m4 e4 => ⟨by omega, fun m5 e5 => ⟨by omega, fun m6 e6 => ⟨by omega, fun m7 e7 => ?_⟩⟩⟩⟩
  have hRT := hA.2.2.2.1
  have htx4 : tx v4 = tx v2 := hnx.2.1.trans t11d
  have hE := hRT.2.2.1
  rw [htx4] at hE
  have hTB1 := hTB.1
  have hTB2 := hTB.2
  have hLn1 := hG.1.l.line hL.1
  have i7 : ∀ k, m7.1 k = m3.1 k := fun k => by rw [e7, e6, e5, e4]; rfl
  have f10 : m6.1 10 = nI ((tx v2).length + E') := by rw [e6, e5, e4]; show m3.1 10 = _; rw [hG.2.2.2.2.1, t11d]
  rw [f10] at e7
  have f31 : m7.1 31 = nI (lp v2) := by
    rw [i7]
    exact (hG.1.1 31 (by decide) (by decide) (by decide) (by decide) (by decide) (by decide) (by decide) (by omega)).trans hL.2.1
  have hLn7 : LnI m7 (lx v2) := by
    refine ⟨by rw [i7]; exact hLn1.1, fun i hi => ?_, hLn1.2.2⟩
    rw [e7, mA_ne (by decide), e6, mA_ne (by decide), e5, mA_ne (by decide), e4, mA_ne (by decide)]
    exact hLn1.2.1 i hi
  rw [f31, hLn7.1, nI_add, nI_add]
  refine d_Mo_keepTrimmed (P := (tx v2).length + E') (a := fnA (lx v2) (sA v2)) (e := bfC (lx v2) (fnA (lx v2) (sA v2)) 32 (lx v2).length) G hLn7 (by omega) (Nat.le_refl _) ?_ rfl (by rw [i7, hG.2.2.2.2.1, t11d]) (by omega) ?_
  · rw [show lp v2 + ld v2 = sA v2 from rfl]
    exact (Nat.min_eq_right ha).symm
  refine ⟨by omega, fun m9 e9 => ⟨by omega, fun m10 e10 m11 e11 => ⟨rfl, ?_⟩⟩⟩
  have hosE : sl (lx v2) (fnA (lx v2) (sA v2)) (bfC (lx v2) (fnA (lx v2) (sA v2)) 32 (lx v2).length) = fnO (lx v2) (sA v2) := rfl
  rw [hosE, ← hlen] at e9
  have f9 : m9.1 10 = nI ((tx v2).length + E' + (fnO (lx v2) (sA v2)).length) := by rw [e9]; exact extF_10 (m := m7)
  rw [f9] at e10
  have hmu : muP v3 μ B (ct v3) = B := if_pos rfl
  have hi4 : ct v3 < ct v4 := by rw [hN.1]; omega
  have i11 : ∀ k, k ≠ 10 → k ≠ 34 → m11.1 k = m3.1 k := fun k q1 q2 => by
    rw [e11, mI_ne q2, e10]
    show m9.1 k = _
    rw [e9]
    show (extF m7 _ (fnO (lx v2) (sA v2))).1 k = _
    rw [extF_i q1, i7]
  have a11 : ∀ q j, q ≠ 7 → ¬ (j = B ∧ (18 = q ∨ 20 ≤ q ∧ q ≤ 24)) → m11.2 q j = m3.2 q j := by
    intro q j q1 q2
    have hne : ∀ k', (18 = k' ∨ 20 ≤ k' ∧ k' ≤ 24) → ∀ (mm : MS) (x : Int32), (mA mm k' B x).2 q j = mm.2 q j := fun k' hk mm x => if_neg (fun e => q2 ⟨e.2, by omega⟩)
    rw [e11]
    show m10.2 q j = _
    rw [e10, hne 18 (by omega), e9, hne 21 (by omega), extF_k q1, e7, hne 20 (by omega), e6, hne 24 (by omega), e5, hne 23 (by omega), e4, hne 22 (by omega)]
  have p7 : ∀ j, m7.2 7 j = m3.2 7 j := fun j => by rw [e7, mA_ne (by decide), e6, mA_ne (by decide), e5, mA_ne (by decide), e4, mA_ne (by decide)]
  have p11 : ∀ j, m11.2 7 j = (extF m7 ((tx v2).length + E') (fnO (lx v2) (sA v2))).2 7 j := fun j => by
    rw [e11]
    show m10.2 7 j = _
    rw [e10, mA_ne (by decide), e9, mA_ne (by decide)]
  have b18 : m11.2 18 B = nI ((tx v2).length + E' + (fnO (lx v2) (sA v2)).length) := by rw [e11]; show m10.2 18 B = _; rw [e10, mA_at]
  have b21 : m11.2 21 B = nI (fnO (lx v2) (sA v2)).length := by rw [e11]; show m10.2 21 B = _; rw [e10, mA_ne (by decide), e9, mA_at]
  have b20 : m11.2 20 B = nI ((tx v2).length + E') := by rw [e11]; show m10.2 20 B = _; rw [e10, mA_ne (by decide), e9, mA_ne (by decide), extF_k (by decide), e7, mA_at]
  have b24 : m11.2 24 B = nI (ld v2) := by rw [e11]; show m10.2 24 B = _; rw [e10, mA_ne (by decide), e9, mA_ne (by decide), extF_k (by decide), e7, mA_ne (by decide), e6, mA_at]
  have b23 : m11.2 23 B = nI (fnLn (lx v2) (sA v2)) := by rw [e11]; show m10.2 23 B = _; rw [e10, mA_ne (by decide), e9, mA_ne (by decide), extF_k (by decide), e7, mA_ne (by decide), e6, mA_ne (by decide), e5, mA_at]
  have b22 : m11.2 22 B = sg := by rw [e11]; show m10.2 22 B = _; rw [e10, mA_ne (by decide), e9, mA_ne (by decide), extF_k (by decide), e7, mA_ne (by decide), e6, mA_ne (by decide), e5, mA_ne (by decide), e4, mA_at]
  have b10 : m11.1 10 = nI ((tx v2).length + E' + (fnO (lx v2) (sA v2)).length) := by rw [e11, mI_ne (by decide), e10]; exact f9
  generalize hv5 : vI (vB (vB (vR (vI (vI (vB v4 (ct v3) 12 sg) 68 (nI (fnLn (lx v2) (sA v2)))) 69 (nI (ld v2))) 10 (tx v2 ++ fnO (lx v2) (sA v2))) (ct v3) 8 (nI (fnO (lx v2) (sA v2)).length)) (ct v3) 5 (nI ((tx v2).length + (fnO (lx v2) (sA v2)).length))) 67 1 = v5 at *
  have w6 : ∀ j q, ¬ (j = ct v3 ∧ (q = 12 ∨ q = 8 ∨ q = 5)) → vb v5 j q = vb v4 j q := fun j q z => by
    rw [← hv5]
    show upd2 (upd2 (upd2 (vb v4) (ct v3) 12 _) (ct v3) 8 _) (ct v3) 5 _ j q = _
    rw [upd2_off (fun y => z ⟨y.1, Or.inr (Or.inr y.2)⟩), upd2_off (fun y => z ⟨y.1, Or.inr (Or.inl y.2)⟩), upd2_off (fun y => z ⟨y.1, Or.inl y.2⟩)]
  have w12 : vb v5 (ct v3) 12 = sg := by
    rw [← hv5]
    show upd2 (upd2 (upd2 (vb v4) (ct v3) 12 _) (ct v3) 8 _) (ct v3) 5 _ (ct v3) 12 = _
    rw [upd2_off (fun y => absurd y.2 (by decide)), upd2_off (fun y => absurd y.2 (by decide)), upd2_here]
  have w8 : vb v5 (ct v3) 8 = nI (fnO (lx v2) (sA v2)).length := by
    rw [← hv5]
    show upd2 (upd2 (upd2 (vb v4) (ct v3) 12 _) (ct v3) 8 _) (ct v3) 5 _ (ct v3) 8 = _
    rw [upd2_off (fun y => absurd y.2 (by decide)), upd2_here]
  have w5 : vb v5 (ct v3) 5 = nI ((tx v2).length + (fnO (lx v2) (sA v2)).length) := by
    rw [← hv5]
    exact upd2_here
  have hRL : RL v5 m11 (muP v3 μ B) (h' + 1) (h' + 2) (B + 1) E' D' := by
    refine RL_fence (i := ct v3) (os := fnO (lx v2) (sA v2)) (sg := sg) (fl := 0) (fi := 0) hA hi4 hvo.symm rfl hN.1.symm (by rw [hmu]) hkd (by rw [hN.2.2.1]; rfl) (by rw [hN.2.2.1, hnx.2.1]; rfl) (by rw [hmu]; exact hG.2.2.2.2.2.2.1) (by rw [htx4]; omega) (by rw [htx4]; omega) ⟨by rw [← hv5]; rfl, by rw [← hv5]; rfl, by rw [htx4, ← hv5]; rfl, by rw [← hv5]; rfl, by rw [← hv5]; rfl, w6, w12, w8, by rw [htx4]; exact w5⟩ ⟨by rw [htx4]; exact b10, i11 28 (by decide) (by decide), i11 30 (by decide) (by decide), i11 40 (by decide) (by decide), fun j hj => ?_, fun k hk => ?_, by rw [hmu]; exact a11, by rw [hmu]; exact b22, by rw [hmu, htx4]; exact b20, by rw [hmu]; exact b21, by rw [hmu, htx4]; exact b18⟩
    · rw [htx4] at hj
      rw [p11, extF_at hj, p7]
    · rw [htx4, p11, extF_in hk]
  have hk5 : kd v5 (vo v5 (h' + 1)) = 7 := by
    have : vo v5 (h' + 1) = ct v3 := by rw [← hv5]; exact hvo
    rw [this]
    unfold kd
    rw [w6 _ 0 (fun z => by omega)]
    exact hkd
  have hvo5 : vo v5 (h' + 1) = ct v3 := by rw [← hv5]; exact hvo
  refine hM m11 E' ⟨⟨by rw [← hv5]; exact hN.2.2.2.1, Or.inl hRL⟩, fun _ _ => ⟨fnLn (lx v2) (sA v2), ld v2, by rw [← hv5]; rfl, by rw [← hv5]; rfl, by rw [hvo5, hmu]; exact b23, by rw [hvo5, hmu]; exact b24, hfl, by omega, by omega, by rw [hvo5, w12]; exact hsg0.2⟩, ?_, ?_, ?_⟩
  · have hf := hB.2.2.2.2.2.2.1.trans hG.1.l
    exact hf.trans ⟨fun k q => i11 k (by omega) (by omega), fun k i q => a11 k i (by omega) (fun z => by omega)⟩
  · rw [i11 5 (by decide) (by decide), hG.2.1, if_neg (fun z => by omega)]
    exact hB.2.2.2.1
  · rw [e11, mI_at]
end MFENCE
end KB
