section KB
variable {K : Nat}
/-! turns with a leaf -/
theorem sp_split {xs : List Int32} (hl : xs.length ≤ 20000) : ∀ n i, n ≤ spF xs i → spF xs i = n + spF xs (i + n) := by
  intro n
  induction n with
  | zero => intro i _; rw [Nat.zero_add]; rfl
  | succ n ih =>
    intro i h
    have hi : i < xs.length := by
      apply Decidable.byContradiction
      intro z
      rw [spF, runFrom_end (by omega)] at h
      omega
    have hx := run_all (p := fun z => z == 32) (xs := xs) hl 0 i (by have : spF xs i = runFrom (fun z => z == 32) xs i := rfl; omega)
    have e : spF xs i = spF xs (i + 1) + 1 := runFrom_y hi (by omega) hx
    have := ih (i + 1) (by omega)
    rw [show i + (n + 1) = i + 1 + n by omega]
    omega
section LKL
variable {X : CX} {Y : MX} {a0 a1 : Array Value} {c1 : CS} {S m0 : MS → Prop} {μ : Nat → Nat} {t o B h n bt k : Nat} {D : DL} {x3 x4 : Int32} {T0 : List Int32} {b : Bool}
theorem lk_rule (F : cF X a0) (G : mF Y a1) (hBN : BNok X) (hTA : TAok X) (hσ : ∃ m σ, S m ∧ MV Y m σ) (hT : Tn K Y T0 S m0 n bt x3 x4 μ t o B D h b 6 k c1) {Φ0 Φ1 : CS → Prop} (hgo : ∀ c5, LkC c1 c5 → Ext K Y T0 S m0 n bt x3 x4 c5 → (vi c5.1 67 = 1 ∨ ∃ h5, vi c5.1 65 = nI h5 ∧ h5 ≤ 13 ∧ vb c5.1 (vo c5.1 h5) 0 = nI 7 ∧ vo c5.1 h5 < c5.2.2) → Φ1 c5) : cE X 1 y_Rd_stepOutFor [.ref (adr X 6), .int (nI 6)] c1 (cvP fun m3 => cE X 8 y_Rd_close [.ref (adr X 6)] m3 (cvP fun m4 => cE X 10 y_Rd_carryOut [.ref (adr X 6), .int (nI 6)] m4 (ciP fun r5 m5 => ((r5 = 0 → Φ0 m5) ∧ (¬ r5 = 0 → Φ1 m5))))) := by
    refine lk_pre (kk := 6) F G hBN hσ hT (by decide) ⟨fun z => absurd z (by decide), fun z => absurd z.1 (by decide)⟩ (fun c3 D' h' m' E' hB hst q1 q2 q3 q4 q5 => ?_)
    obtain ⟨t1, t2, t3, t4, t5, t6, t7, t8, t9, t10⟩ := hT
    have hh := t3.1.2.1
    have hq2 := q2
    obtain ⟨w1, w2, w3, w4, w5, w6, w7, w8, w9, w10, ⟨w11, w11b, w11c, w11d⟩, w12, w13, w14, w15⟩ := q2
    have hsA : sA c3.1 = sA c1.1 := by unfold sA; rw [w11b, w11c]; rfl
    have hld3 : ld c3.1 = ld c1.1 := w11c
    have hlx3 : lx c3.1 = lx c1.1 := w11
    have hlp3 : lp c3.1 = lp c1.1 := w11b
    have htx3 : tx c3.1 = tx c1.1 := w11d
    have hPK := q3
    obtain ⟨p1, p2, p3, p4, p5, p6, p7, p8, p9, p10⟩ := q3
    have hB2 : ∀ m' E', RB m0 c1.1 m' μ t o B E' D h bt x4 → RB m0 (cI c1 65 (nI h')).1 m' μ t o B E' D h bt x4 := fun m' E' z => z.vs ⟨rfl, rfl, rfl, rfl, rfl, rfl, rfl⟩ ⟨rfl, rfl, rfl⟩ ⟨rfl, rfl⟩
    have hno2 : kd c3.1 (vo c3.1 h') ≠ 2 := by
      intro z
      rw [w5, w4] at z
      rcases w1 with y | y
      · rw [y.1] at z
        exact absurd ⟨z, by decide⟩ y.2.2
      · have := w7 h' (by omega) z
        rw [y.1] at this
        rcases y.2 with w | w <;> omega
    have hlx12 := hB.2.1.1.2.2
    have hlen : sA c1.1 < (lx c1.1).length := Nat.lt_of_not_le (bgF_nb (by rw [t6]; decide))
    have hph := phi_pos (v := c1.1) hB.2.1.2.2.2 (by omega) (by omega)
    have hB13 := t3.2.1.1 t2
    have hTB := t3.1.2.2.2.2.2.2.2.2
    refine g_Rd_carryOut F ?_
    unfold w_Rd_carryOut_0
    refine ⟨fun z => absurd z (by decide), fun z => absurd z (by decide), fun z => absurd z (by decide), fun z => absurd z (by decide), fun z => absurd z (by decide), fun z => absurd z (by decide), fun _ => ?_, fun z => absurd z (by decide), fun z => absurd z (by decide), fun z => absurd z (by decide)⟩
    refine q_rule F hTA hPK (fun c4 e1 e2 e3 => ⟨1, rfl, fun z => absurd z (by decide), fun _ => ?_⟩)
    have hnx := p1.next e3
    have hP := p1.push e3 p6 (by decide) (fun z => absurd z (by decide)) p5 (fun z => absurd z hno2)
    have hvo := e3.2.2.2.2.2.1
    obtain ⟨y1, y2, y3, y4, y5, y6, y7⟩ := KV.push e3
    refine hgo _ (q1.trans ⟨e1, e2, ⟨y1, y2, y3, y4, y5, y6, y7⟩⟩) ⟨muP c3.1 μ B, h' + 1, h' + 1, B + 1, D', 0, Or.inl ⟨rfl, by omega, fun z => ?_, ?_, by omega, fun z => ?_, ?_⟩, fun Φ P hcl hnext => ?_⟩ (Or.inl rfl)
    · have z' : kd c4.1 (vo c4.1 (h' + 1)) ≤ 3 := z
      rw [hvo, hP.2.1] at z'
      omega
    · exact hP.1.2.2.2.2.2.2.1
    · have z' : kd c4.1 (vo c4.1 (h' + 1)) = 7 := z
      rw [hvo, hP.2.1] at z'
      omega
    · show GrT (lx c4.1) T0 (tx c4.1)
      rw [hnx.2.1, htx3, t4]
      exact GrT.rfl
    · refine t10 Φ P hcl (fun m2 E2 hR2 => d_Q G hR2 hh hcl b t6 t7 (fun z => absurd z (by decide)) (fun z => absurd z (by decide)) (fun z => absurd z (by decide)) (fun z => absurd z (by decide)) (fun _ => ?_) (fun z => absurd z (by decide)) (fun z => absurd z (by decide)) (fun z => absurd z (by decide)))
      exact d_rule (v2 := (cI c1 65 (nI h')).1) G (hB2 m2 E2 hR2) hq2 e3 (fun m5 E5 hr => iP.i (hnext m5 E5 (Or.inl ⟨rfl, hr⟩)) rfl)
theorem lk_heading (F : cF X a0) (G : mF Y a1) (hBN : BNok X) (hTA : TAok X) (hσ : ∃ m σ, S m ∧ MV Y m σ) (hT : Tn K Y T0 S m0 n bt x3 x4 μ t o B D h b 5 k c1) {Φ0 Φ1 : CS → Prop} (hgo : ∀ c5, LkC c1 c5 → Ext K Y T0 S m0 n bt x3 x4 c5 → (vi c5.1 67 = 1 ∨ ∃ h5, vi c5.1 65 = nI h5 ∧ h5 ≤ 13 ∧ vb c5.1 (vo c5.1 h5) 0 = nI 7 ∧ vo c5.1 h5 < c5.2.2) → Φ1 c5) : cE X 1 y_Rd_stepOutFor [.ref (adr X 6), .int (nI 5)] c1 (cvP fun m3 => cE X 8 y_Rd_close [.ref (adr X 6)] m3 (cvP fun m4 => cE X 10 y_Rd_carryOut [.ref (adr X 6), .int (nI 5)] m4 (ciP fun r5 m5 => ((r5 = 0 → Φ0 m5) ∧ (¬ r5 = 0 → Φ1 m5))))) := by
    refine lk_pre (kk := 5) F G hBN hσ hT (by decide) ⟨fun z => absurd z (by decide), fun z => absurd z.1 (by decide)⟩ (fun c3 D' h' m' E' hB hst q1 q2 q3 q4 q5 => ?_)
    obtain ⟨t1, t2, t3, t4, t5, t6, t7, t8, t9, t10⟩ := hT
    have hh := t3.1.2.1
    have hq2 := q2
    obtain ⟨w1, w2, w3, w4, w5, w6, w7, w8, w9, w10, ⟨w11, w11b, w11c, w11d⟩, w12, w13, w14, w15⟩ := q2
    have hsA : sA c3.1 = sA c1.1 := by unfold sA; rw [w11b, w11c]; rfl
    have hld3 : ld c3.1 = ld c1.1 := w11c
    have hlx3 : lx c3.1 = lx c1.1 := w11
    have hlp3 : lp c3.1 = lp c1.1 := w11b
    have htx3 : tx c3.1 = tx c1.1 := w11d
    have hPK := q3
    obtain ⟨p1, p2, p3, p4, p5, p6, p7, p8, p9, p10⟩ := q3
    have hB2 : ∀ m' E', RB m0 c1.1 m' μ t o B E' D h bt x4 → RB m0 (cI c1 65 (nI h')).1 m' μ t o B E' D h bt x4 := fun m' E' z => z.vs ⟨rfl, rfl, rfl, rfl, rfl, rfl, rfl⟩ ⟨rfl, rfl, rfl⟩ ⟨rfl, rfl⟩
    have hno2 : kd c3.1 (vo c3.1 h') ≠ 2 := by
      intro z
      rw [w5, w4] at z
      rcases w1 with y | y
      · rw [y.1] at z
        exact absurd ⟨z, by decide⟩ y.2.2
      · have := w7 h' (by omega) z
        rw [y.1] at this
        rcases y.2 with w | w <;> omega
    have hlx12 := hB.2.1.1.2.2
    have hlen : sA c1.1 < (lx c1.1).length := Nat.lt_of_not_le (bgF_nb (by rw [t6]; decide))
    have hph := phi_pos (v := c1.1) hB.2.1.2.2.2 (by omega) (by omega)
    have hB13 := t3.2.1.1 t2
    have hTB := t3.1.2.2.2.2.2.2.2.2
    refine g_Rd_carryOut F ?_
    unfold w_Rd_carryOut_0
    refine ⟨fun z => absurd z (by decide), fun z => absurd z (by decide), fun z => absurd z (by decide), fun z => absurd z (by decide), fun z => absurd z (by decide), fun _ => ?_, fun z => absurd z (by decide), fun z => absurd z (by decide), fun z => absurd z (by decide), fun z => absurd z (by decide)⟩
    have hlv := bgF_5 t6
    refine q_heading F hTA hPK (by rw [hsA, hlx3]; omega) (fun c4 e1 e2 e3 => ⟨1, rfl, fun z => absurd z (by decide), fun _ => ?_⟩)
    have hnx := p1.next e3
    have hP := p1.push e3 p6 (by decide) (fun z => absurd z (by decide)) p5 (fun z => absurd z hno2)
    have hvo := e3.2.2.2.2.2.1
    obtain ⟨y1, y2, y3, y4, y5, y6, y7⟩ := KV.push e3
    rw [hlx3, hsA, htx3]
    have hkd5 : ∀ i, kd (vI (vB (vR (vB c4.1 (ct c3.1) 3 (nI (hdLv (lx c1.1) (sA c1.1)))) 10 (tx c1.1 ++ hdO (lx c1.1) (sA c1.1))) (ct c3.1) 6 (nI (hdO (lx c1.1) (sA c1.1)).length)) 67 1) i = kd c4.1 i := fun i => by
      unfold kd
      show (upd2 (upd2 (vb c4.1) _ 3 _) _ 6 _ i 0).toNatClampNeg = _
      rw [upd2_off (fun y => absurd y.2 (by decide)), upd2_off (fun y => absurd y.2 (by decide))]
    have hk5 : kd (vI (vB (vR (vB c4.1 (ct c3.1) 3 (nI (hdLv (lx c1.1) (sA c1.1)))) 10 (tx c1.1 ++ hdO (lx c1.1) (sA c1.1))) (ct c3.1) 6 (nI (hdO (lx c1.1) (sA c1.1)).length)) 67 1) (vo c4.1 (h' + 1)) = 5 := by rw [hkd5, hvo, hP.2.1]
    refine hgo _ (q1.trans ⟨e1, e2, ⟨y1, y2, y3, y4, y5, y6, y7⟩⟩) ⟨muP c3.1 μ B, h' + 1, h' + 1, B + 1, D', 0, Or.inl ⟨rfl, by omega, fun z => ?_, fun j hj => ?_, by omega, fun z => ?_, ?_⟩, fun Φ P hcl hnext => ?_⟩ (Or.inl rfl)
    · have z' := hk5 ▸ (show kd _ (vo c4.1 (h' + 1)) ≤ 3 from z)
      omega
    · rw [hkd5, hkd5]
      exact hP.1.2.2.2.2.2.2.1 j hj
    · have z' := hk5.symm.trans (show kd _ (vo c4.1 (h' + 1)) = 7 from z)
      omega
    · have hin := hdLv_in (xs := lx c1.1) (s := sA c1.1) (by omega)
      have hsp2 := run_in (xs := lx c1.1) (p := fun z => z == 32) hin
      have hT1 := hdT_in (xs := lx c1.1) (a := hdA (lx c1.1) (sA c1.1)) hsp2
      refine ⟨hdO (lx c1.1) (sA c1.1), by rw [← t4]; rfl, ?_, ?_⟩
      · show (hdO (lx c1.1) (sA c1.1)).length ≤ (lx c4.1).length + 1
        rw [hnx.1, hlx3, sl_len hT1.2]
        omega
      · show _ ≤ (lx c4.1).countP nsB
        rw [hnx.1, hlx3]
        exact sl_count _
    · refine t10 Φ P hcl (fun m2 E2 hR2 => d_Q G hR2 hh hcl b t6 t7 (fun z => absurd z (by decide)) (fun _ => ?_) (fun z => absurd z (by decide)) (fun z => absurd z (by decide)) (fun z => absurd z (by decide)) (fun z => absurd z (by decide)) (fun z => absurd z (by decide)) (fun z => absurd z (by decide)))
      exact d_heading (v2 := (cI c1 65 (nI h')).1) G (hB2 m2 E2 hR2) hq2 e3 hTB hlv (fun m5 E5 hr => hnext m5 E5 (Or.inl ⟨rfl, hr⟩))
theorem lk_fenced (F : cF X a0) (G : mF Y a1) (hBN : BNok X) (hTA : TAok X) (hσ : ∃ m σ, S m ∧ MV Y m σ) (hT : Tn K Y T0 S m0 n bt x3 x4 μ t o B D h b 8 k c1) {Φ0 Φ1 : CS → Prop} (hgo : ∀ c5, LkC c1 c5 → Ext K Y T0 S m0 n bt x3 x4 c5 → (vi c5.1 67 = 1 ∨ ∃ h5, vi c5.1 65 = nI h5 ∧ h5 ≤ 13 ∧ vb c5.1 (vo c5.1 h5) 0 = nI 7 ∧ vo c5.1 h5 < c5.2.2) → Φ1 c5) : cE X 1 y_Rd_stepOutFor [.ref (adr X 6), .int (nI 8)] c1 (cvP fun m3 => cE X 8 y_Rd_close [.ref (adr X 6)] m3 (cvP fun m4 => cE X 10 y_Rd_carryOut [.ref (adr X 6), .int (nI 8)] m4 (ciP fun r5 m5 => ((r5 = 0 → Φ0 m5) ∧ (¬ r5 = 0 → Φ1 m5))))) := by
    refine lk_pre (kk := 7) F G hBN hσ hT (by decide) ⟨fun z => absurd z (by decide), fun z => absurd z.1 (by decide)⟩ (fun c3 D' h' m' E' hB hst q1 q2 q3 q4 q5 => ?_)
    obtain ⟨t1, t2, t3, t4, t5, t6, t7, t8, t9, t10⟩ := hT
    have hh := t3.1.2.1
    have hq2 := q2
    obtain ⟨w1, w2, w3, w4, w5, w6, w7, w8, w9, w10, ⟨w11, w11b, w11c, w11d⟩, w12, w13, w14, w15⟩ := q2
    have hsA : sA c3.1 = sA c1.1 := by unfold sA; rw [w11b, w11c]; rfl
    have hld3 : ld c3.1 = ld c1.1 := w11c
    have hlx3 : lx c3.1 = lx c1.1 := w11
    have hlp3 : lp c3.1 = lp c1.1 := w11b
    have htx3 : tx c3.1 = tx c1.1 := w11d
    have hPK := q3
    obtain ⟨p1, p2, p3, p4, p5, p6, p7, p8, p9, p10⟩ := q3
    have hB2 : ∀ m' E', RB m0 c1.1 m' μ t o B E' D h bt x4 → RB m0 (cI c1 65 (nI h')).1 m' μ t o B E' D h bt x4 := fun m' E' z => z.vs ⟨rfl, rfl, rfl, rfl, rfl, rfl, rfl⟩ ⟨rfl, rfl, rfl⟩ ⟨rfl, rfl⟩
    have hno2 : kd c3.1 (vo c3.1 h') ≠ 2 := by
      intro z
      rw [w5, w4] at z
      rcases w1 with y | y
      · rw [y.1] at z
        exact absurd ⟨z, by decide⟩ y.2.2
      · have := w7 h' (by omega) z
        rw [y.1] at this
        rcases y.2 with w | w <;> omega
    have hlx12 := hB.2.1.1.2.2
    have hlen : sA c1.1 < (lx c1.1).length := Nat.lt_of_not_le (bgF_nb (by rw [t6]; decide))
    have hph := phi_pos (v := c1.1) hB.2.1.2.2.2 (by omega) (by omega)
    have hB13 := t3.2.1.1 t2
    have hTB := t3.1.2.2.2.2.2.2.2.2
    refine g_Rd_carryOut F ?_
    unfold w_Rd_carryOut_0
    refine ⟨fun z => absurd z (by decide), fun z => absurd z (by decide), fun z => absurd z (by decide), fun z => absurd z (by decide), fun z => absurd z (by decide), fun z => absurd z (by decide), fun z => absurd z (by decide), fun z => absurd z (by decide), fun _ => ?_, fun z => absurd z (by decide)⟩
    have hfl := bgF_8 t6
    refine q_fenced F hTA hPK (by rw [hsA, hlx3]; omega) (fun c4 e1 e2 e3 => ⟨1, rfl, fun z => absurd z (by decide), fun _ => ?_⟩)
    have hnx := p1.next e3
    have hP := p1.push e3 p6 (by decide) (fun z => absurd z (by decide)) p5 (fun z => absurd z hno2)
    have hvo := e3.2.2.2.2.2.1
    obtain ⟨y1, y2, y3, y4, y5, y6, y7⟩ := KV.push e3
    rw [hlx3, hsA, htx3, hld3]
    have hkd5 : ∀ i, kd (vI (vB (vB (vR (vI (vI (vB c4.1 (ct c3.1) 12 (rowAt (lx c1.1) (nI (sA c1.1)))) 68 (nI (fnLn (lx c1.1) (sA c1.1)))) 69 (nI (ld c1.1))) 10 (tx c1.1 ++ fnO (lx c1.1) (sA c1.1))) (ct c3.1) 8 (nI (fnO (lx c1.1) (sA c1.1)).length)) (ct c3.1) 5 (nI ((tx c1.1).length + (fnO (lx c1.1) (sA c1.1)).length))) 67 1) i = kd c4.1 i := fun i => by
      unfold kd
      show (upd2 (upd2 (upd2 (vb c4.1) _ 12 _) _ 8 _) _ 5 _ i 0).toNatClampNeg = _
      rw [upd2_off (fun y => absurd y.2 (by decide)), upd2_off (fun y => absurd y.2 (by decide)), upd2_off (fun y => absurd y.2 (by decide))]
    have hk5 : kd (vI (vB (vB (vR (vI (vI (vB c4.1 (ct c3.1) 12 (rowAt (lx c1.1) (nI (sA c1.1)))) 68 (nI (fnLn (lx c1.1) (sA c1.1)))) 69 (nI (ld c1.1))) 10 (tx c1.1 ++ fnO (lx c1.1) (sA c1.1))) (ct c3.1) 8 (nI (fnO (lx c1.1) (sA c1.1)).length)) (ct c3.1) 5 (nI ((tx c1.1).length + (fnO (lx c1.1) (sA c1.1)).length))) 67 1) (vo c4.1 (h' + 1)) = 7 := by rw [hkd5, hvo, hP.2.1]
    have hsg : rowAt (lx c1.1) (nI (sA c1.1)) ≠ 0 := by
      intro z
      unfold fnLn at hfl
      rw [z, if_neg (by decide)] at hfl
      omega
    refine hgo _ (q1.trans ⟨e1, e2, ⟨y1, y2, y3, y4, y5, y6, y7⟩⟩) ⟨muP c3.1 μ B, h' + 1, h' + 2, B + 1, D', 0, Or.inl ⟨rfl, by omega, fun z => ?_, fun j hj => ?_, by omega, fun _ z => ?_, ?_⟩, fun Φ P hcl hnext => ?_⟩ (Or.inl rfl)
    · have z' := hk5 ▸ (show kd _ (vo c4.1 (h' + 1)) ≤ 3 from z)
      omega
    · rw [hkd5, hkd5]
      exact hP.1.2.2.2.2.2.2.1 j hj
    · exfalso
      apply hsg
      have z' : upd2 (upd2 (upd2 (vb c4.1) (ct c3.1) 12 (rowAt (lx c1.1) (nI (sA c1.1)))) (ct c3.1) 8 (nI (fnO (lx c1.1) (sA c1.1)).length)) (ct c3.1) 5 (nI ((tx c1.1).length + (fnO (lx c1.1) (sA c1.1)).length)) (vo c4.1 (h' + 1)) 12 = 0 := z
      rw [hvo, upd2_off (fun y => absurd y.2 (by decide)), upd2_off (fun y => absurd y.2 (by decide)), upd2_here] at z'
      exact z'
    · have hin := fnLn_in (xs := lx c1.1) (s := sA c1.1) (by omega)
      have hsp2 := run_in (xs := lx c1.1) (p := fun z => z == 32) hin
      have h2 := bfC_le (lx c1.1) (fnA (lx c1.1) (sA c1.1)) 32 (lx c1.1).length
      refine ⟨fnO (lx c1.1) (sA c1.1), by rw [← t4]; rfl, ?_, ?_⟩
      · show (fnO (lx c1.1) (sA c1.1)).length ≤ (lx c4.1).length + 1
        rw [hnx.1, hlx3, sl_len h2]
        omega
      · show _ ≤ (lx c4.1).countP nsB
        rw [hnx.1, hlx3]
        exact sl_count _
    · refine t10 Φ P hcl (fun m2 E2 hR2 => d_Q G hR2 hh hcl b t6 t7 (fun z => absurd z (by decide)) (fun z => absurd z (by decide)) (fun _ => ?_) (fun z => absurd z (by decide)) (fun z => absurd z (by decide)) (fun z => absurd z (by decide)) (fun z => absurd z (by decide)) (fun z => absurd z (by decide)))
      exact d_fence (v2 := (cI c1 65 (nI h')).1) G (hB2 m2 E2 hR2) hq2 e3 hTB hfl (fun m5 E5 hr => hnext m5 E5 (Or.inl ⟨rfl, hr⟩))
theorem lk_indented (F : cF X a0) (G : mF Y a1) (hBN : BNok X) (hTA : TAok X) (hσ : ∃ m σ, S m ∧ MV Y m σ) (hT : Tn K Y T0 S m0 n bt x3 x4 μ t o B D h b 9 k c1) {Φ0 Φ1 : CS → Prop} (hgo : ∀ c5, LkC c1 c5 → Ext K Y T0 S m0 n bt x3 x4 c5 → (vi c5.1 67 = 1 ∨ ∃ h5, vi c5.1 65 = nI h5 ∧ h5 ≤ 13 ∧ vb c5.1 (vo c5.1 h5) 0 = nI 7 ∧ vo c5.1 h5 < c5.2.2) → Φ1 c5) : cE X 1 y_Rd_stepOutFor [.ref (adr X 6), .int (nI 9)] c1 (cvP fun m3 => cE X 8 y_Rd_close [.ref (adr X 6)] m3 (cvP fun m4 => cE X 10 y_Rd_carryOut [.ref (adr X 6), .int (nI 9)] m4 (ciP fun r5 m5 => ((r5 = 0 → Φ0 m5) ∧ (¬ r5 = 0 → Φ1 m5))))) := by
    refine lk_pre (kk := 7) F G hBN hσ hT (by decide) ⟨fun z => absurd z (by decide), fun z => absurd z.1 (by decide)⟩ (fun c3 D' h' m' E' hB hst q1 q2 q3 q4 q5 => ?_)
    obtain ⟨t1, t2, t3, t4, t5, t6, t7, t8, t9, t10⟩ := hT
    have hh := t3.1.2.1
    have hq2 := q2
    obtain ⟨w1, w2, w3, w4, w5, w6, w7, w8, w9, w10, ⟨w11, w11b, w11c, w11d⟩, w12, w13, w14, w15⟩ := q2
    have hsA : sA c3.1 = sA c1.1 := by unfold sA; rw [w11b, w11c]; rfl
    have hld3 : ld c3.1 = ld c1.1 := w11c
    have hlx3 : lx c3.1 = lx c1.1 := w11
    have hlp3 : lp c3.1 = lp c1.1 := w11b
    have htx3 : tx c3.1 = tx c1.1 := w11d
    have hPK := q3
    obtain ⟨p1, p2, p3, p4, p5, p6, p7, p8, p9, p10⟩ := q3
    have hB2 : ∀ m' E', RB m0 c1.1 m' μ t o B E' D h bt x4 → RB m0 (cI c1 65 (nI h')).1 m' μ t o B E' D h bt x4 := fun m' E' z => z.vs ⟨rfl, rfl, rfl, rfl, rfl, rfl, rfl⟩ ⟨rfl, rfl, rfl⟩ ⟨rfl, rfl⟩
    have hno2 : kd c3.1 (vo c3.1 h') ≠ 2 := by
      intro z
      rw [w5, w4] at z
      rcases w1 with y | y
      · rw [y.1] at z
        exact absurd ⟨z, by decide⟩ y.2.2
      · have := w7 h' (by omega) z
        rw [y.1] at this
        rcases y.2 with w | w <;> omega
    have hlx12 := hB.2.1.1.2.2
    have hlen : sA c1.1 < (lx c1.1).length := Nat.lt_of_not_le (bgF_nb (by rw [t6]; decide))
    have hph := phi_pos (v := c1.1) hB.2.1.2.2.2 (by omega) (by omega)
    have hB13 := t3.2.1.1 t2
    have hTB := t3.1.2.2.2.2.2.2.2.2
    refine g_Rd_carryOut F ?_
    unfold w_Rd_carryOut_0
    refine ⟨fun z => absurd z (by decide), fun z => absurd z (by decide), fun z => absurd z (by decide), fun z => absurd z (by decide), fun z => absurd z (by decide), fun z => absurd z (by decide), fun z => absurd z (by decide), fun z => absurd z (by decide), fun z => absurd z (by decide), fun _ => ?_⟩
    have h4 := bgF_9 t6
    refine q_indented F hTA hPK (fun c4 e1 e2 e3 => ⟨1, rfl, fun z => absurd z (by decide), fun _ => ?_⟩)
    have hnx := p1.next e3
    have hP := p1.push e3 p6 (by decide) (fun z => absurd z (by decide)) p5 (fun z => absurd z hno2)
    have hvo := e3.2.2.2.2.2.1
    obtain ⟨y1, y2, y3, y4, y5, y6, y7⟩ := KV.push e3
    rw [hlx3, hlp3]
    have hk5 : kd c4.1 (vo c4.1 (h' + 1)) = 7 := by rw [hvo, hP.2.1]
    have h670 : vi c4.1 67 = 0 := by
      rw [e3.2.2.2.2.2.2.2.1 67 (by decide) (by decide), q5]
      exact t1
    have esA : sA c1.1 = lp c1.1 + ld c1.1 := rfl
    have hmin : min (lp c1.1 + 4) (lx c1.1).length = lp c1.1 + 4 := by omega
    refine hgo _ (q1.trans ⟨e1, e2, ⟨y1, y2, y3, y4, y5, y6, y7⟩⟩) ⟨muP c3.1 μ B, h' + 1, h' + 2, B + 1, D', h' + 1, Or.inr ⟨?_, ⟨hP.1.sh (SH.of rfl rfl rfl (fun _ _ => rfl)), ?_, ⟨fun _ _ _ => ?_, fun z => absurd (hk5.symm.trans z) (by decide)⟩⟩, ?_⟩, fun Φ P hcl hnext => ?_⟩ (Or.inr ⟨h' + 1, e3.2.2.2.2.1, by omega, ?_, ?_⟩)
    · show vi c4.1 67 = 0
      rw [e3.2.2.2.2.2.2.2.1 67 (by decide) (by decide), q5]
      exact t1
    · exact ⟨fun z => absurd hk5 z, by omega⟩
    · show ¬ (lx c4.1).length ≤ min (lp c1.1 + 4) (lx c1.1).length + spF (lx c4.1) (min (lp c1.1 + 4) (lx c1.1).length)
      rw [hnx.1, hlx3, hmin]
      intro z
      have hsp : ld c1.1 = 4 + spF (lx c1.1) (lp c1.1 + 4) := by
        have := sp_split (xs := lx c1.1) (by omega) 4 (lp c1.1) (by rw [← hB.2.1.2.2.2]; exact h4)
        rw [hB.2.1.2.2.2]
        exact this
      omega
    · show tx c4.1 = T0
      rw [hnx.2.1, htx3]
      exact t4
    · refine t10 Φ P hcl (fun m2 E2 hR2 => d_Q G hR2 hh hcl b t6 t7 (fun z => absurd z (by decide)) (fun z => absurd z (by decide)) (fun z => absurd z (by decide)) (fun z => absurd z (by decide)) (fun z => absurd z (by decide)) (fun z => absurd z (by decide)) (fun _ m3 hmr => ?_) (fun z => absurd z (by decide)))
      exact d_indented (v2 := (cI c1 65 (nI h')).1) G ((hB2 m2 E2 hR2).mk hmr) hq2 e3 h4 (fun m5 E5 hr => iP.i (hnext m5 E5 (Or.inr ⟨h670, hr⟩)) rfl)
    · show vb c4.1 (vo c4.1 (h' + 1)) 0 = nI 7
      rw [hvo, e3.2.2.1]
      rfl
    · show vo c4.1 (h' + 1) < c4.2.2
      rw [hvo]
      have := e3.1
      omega
end LKL
end KB
