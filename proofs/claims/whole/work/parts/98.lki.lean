section KB
variable {K : Nat}
section LKI
variable {X : CX} {Y : MX} {a0 a1 : Array Value} {c1 : CS} {S m0 : MS → Prop} {μ : Nat → Nat} {t o B h n bt k : Nat} {D : DL} {x3 x4 : Int32} {T0 : List Int32} {b : Bool}
theorem lk_item (F : cF X a0) (G : mF Y a1) (hBN : BNok X) (hTA : TAok X) (hσ : ∃ m σ, S m ∧ MV Y m σ) (hT : Tn K Y T0 S m0 n bt x3 x4 μ t o B D h b 3 k c1) {Φ0 Φ1 : CS → Prop} (hgo : ∀ c5, LkC c1 c5 → Act K Y T0 S m0 n bt x3 x4 (k + 1) c5 → Φ1 c5) (hdp : ∀ c5, LkC c1 c5 → Dpt Y S m0 n bt x3 x4 → Φ0 c5) : cE X 1 y_Rd_stepOutFor [.ref (adr X 6), .int (nI 3)] c1 (cvP fun m3 => cE X 8 y_Rd_close [.ref (adr X 6)] m3 (cvP fun m4 => cE X 10 y_Rd_carryOut [.ref (adr X 6), .int (nI 3)] m4 (ciP fun r5 m5 => ((r5 = 0 → Φ0 m5) ∧ (¬ r5 = 0 → Φ1 m5))))) := by
  by_cases hin : kd c1.1 (vo c1.1 h) = 2 ∧ vb c1.1 (vo c1.1 h) 12 = vi c1.1 54
  · -- in the list
    refine lk_pre (kk := 3) F G hBN hσ hT (by decide) ⟨fun _ => ⟨rfl, hin.1, hin.2⟩, fun _ => rfl⟩ (fun c3 D' h' m' E' hB hst q1 q2 q3 q4 q5 => ?_)
    obtain ⟨t1, t2, t3, t4, t5, t6, t7, t8, t9, t10⟩ := hT
    have hmk := bgF_3 t6
    have hF := t9 rfl
    have hh := t3.1.2.1
    have hq2 := q2
    obtain ⟨w1, w2, w3, w4, w5, w6, w7, w8, w9, w10, ⟨w11, w11b, w11c, w11d⟩, w12, w13, w14, w15⟩ := q2
    have hsA : sA c3.1 = sA c1.1 := by unfold sA; rw [w11b, w11c]; rfl
    have hld3 : ld c3.1 = ld c1.1 := w11c
    have hlx3 : lx c3.1 = lx c1.1 := w11
    have hlp3 : lp c3.1 = lp c1.1 := w11b
    obtain ⟨p1, p2, p3, p4, p5, p6, p7, p8, p9, p10⟩ := q3
    have hB2 : ∀ m' E', RB m0 c1.1 m' μ t o B E' D h bt x4 → RB m0 (cI c1 65 (nI h')).1 m' μ t o B E' D h bt x4 := fun m' E' z => z.vs ⟨rfl, rfl, rfl, rfl, rfl, rfl, rfl⟩ ⟨rfl, rfl, rfl⟩ ⟨rfl, rfl⟩
    have hh' : h' = h := by
      rcases hst with y | y
      · exact y.1
      · rcases y.2 with w | w
        · omega
        · exact absurd rfl w.2
    have hk3 : kd c3.1 (vo c3.1 h') = 2 := by rw [w5, w4, hh']; exact hin.1
    have hvb0 : vb c3.1 (vo c3.1 h') 0 = nI (kd c3.1 (vo c3.1 h')) := by
      rw [hk3, w6 _ 0 (by decide) (by decide), w4, hh']
      have := (hB.kds hh).1
      rw [hin.1] at this
      exact this
    have hsig : vb c1.1 (vo c1.1 h) 12 = mkS (lx c1.1) (sA c1.1) := by rw [hin.2]; exact hF.1
    have hiw : iwF c3.1 = iwF c1.1 := by
      show itW (lx c3.1) (sA c3.1) (ld c3.1) (dgC (lx c3.1) (sA c3.1) + 1) = _
      rw [hlx3, hsA, hld3]
    have hip : ipF c3.1 = ipF c1.1 := by
      show min (lp c3.1 + iwF c3.1) (lx c3.1).length = _
      rw [hiw, hlx3, hlp3]
    have hlx12 := hB.2.1.1.2.2
    have hlen : sA c1.1 < (lx c1.1).length := Nat.lt_of_not_le (bgF_nb (by rw [t6]; decide))
    have hph := mk_phi (v := c1.1) (by omega) (by omega) hmk
    have hB13 := t3.2.1.1 t2
    have hld12 : ld c3.1 ≤ 12100 := by
      have e : sA c1.1 = lp c1.1 + ld c1.1 := rfl
      rw [hld3]; omega
    refine g_Rd_carryOut F ?_
    unfold w_Rd_carryOut_0
    refine ⟨fun z => absurd z (by decide), fun z => absurd z (by decide), fun z => absurd z (by decide), fun _ => ?_, fun z => absurd z (by decide), fun z => absurd z (by decide), fun z => absurd z (by decide), fun z => absurd z (by decide), fun z => absurd z (by decide), fun z => absurd z (by decide)⟩
    refine q_item F hTA p1 p2 p3 p4 p5 p6 p7 hvb0 (by omega) (q4 hF) hld12 (fun hd _ => ⟨mZ0, 0, rfl, fun _ => hdp c3 q1 ?_, fun z => absurd rfl z⟩) (fun _ h11 c4 e1 e2 e3 => ⟨mZ1, 1, rfl, fun z => absurd z (by decide), fun _ => hgo _ ?_ ?_⟩) (fun z => absurd hk3 z)
    · intro Φ P hcl hnext
      obtain ⟨v4, hN4⟩ := NwC_ex c3.1 (nI 3) (nI (vo c3.1 h')) (nI n) h'
      refine t10 Φ P hcl (fun m2 E2 hR2 => d_Q G hR2 hh hcl b t6 t7 (fun z => absurd z (by decide)) (fun z => absurd z (by decide)) (fun z => absurd z (by decide)) (fun z => absurd z (by decide)) (fun z => absurd z (by decide)) (fun _ m3 hmr e35 e36 => ?_) (fun z => absurd z (by decide)) (fun z => absurd z (by decide)))
      exact d_item1 (v2 := (cI c1 65 (nI h')).1) G ((hB2 m2 E2 hR2).mk hmr) hq2 hmk e35 ⟨hin.1, hsig⟩ hN4 (fun m5 _ hd5 => iP.i (hnext m5 (hd5 (hd hk3)).1 (hd5 (hd hk3)).2) rfl)
    · refine q1.trans ⟨e1, e2, ?_⟩
      obtain ⟨y1, y2, y3, y4, y5, y6, y7⟩ := KV.push e3
      exact ⟨y1, y2, y3, y4, y5, y6, y7⟩
    · have hnx := p1.next e3
      have hP := p1.push e3 p6 (by decide) (fun _ => by omega) p5 (fun _ => rfl)
      have hvo := e3.2.2.2.2.2.1
      have hkd5 : ∀ i, kd (vB c4.1 (ct c3.1) 11 (nI (iwF c3.1))) i = kd c4.1 i := fun i => by
        unfold kd
        show (upd2 (vb c4.1) _ 11 _ i 0).toNatClampNeg = _
        rw [upd2_off (fun y => absurd y.2 (by decide))]
      have hk5 : kd (vB c4.1 (ct c3.1) 11 (nI (iwF c3.1))) (vo c4.1 (h' + 1)) = 3 := by rw [hkd5, hvo, hP.2.1]
      refine ⟨muP c3.1 μ B, h' + 1, h' + 2, B + 1, D', h' + 1, false, ?_, ?_, ⟨?_, ?_, ?_⟩, ?_, ?_, fun z => absurd z (by decide), ?_⟩
      · show vi c4.1 67 = 0
        rw [e3.2.2.2.2.2.2.2.1 67 (by decide) (by decide), q5]
        exact t1
      · show kd (vB c4.1 (ct c3.1) 11 (nI (iwF c3.1))) (vo c4.1 (h' + 1)) ≠ 7
        rw [hk5]
        decide
      · exact hP.1.sh ⟨rfl, hkd5, rfl, rfl, fun _ _ => rfl⟩
      · have hp5 : (B + 1 + phi (lx c4.1) (ipF c3.1) ≤ K ∧ K ≤ 3002) := by
          rw [hnx.1, hlx3, hip]
          omega
        exact ⟨fun _ => hp5, by omega⟩
      · exact ⟨fun z => absurd (hk5.symm.trans z) (by decide), fun z => absurd (hk5.symm.trans z) (by decide)⟩
      · show tx c4.1 = T0
        rw [hnx.2.1, w11d]
        exact t4
      · right
        right
        exact ⟨rfl, Or.inr hk5, t5.next hst⟩
      · intro Φ P hcl hnext
        refine t10 Φ P hcl (fun m2 E2 hR2 => d_Q G hR2 hh hcl b t6 t7 (fun z => absurd z (by decide)) (fun z => absurd z (by decide)) (fun z => absurd z (by decide)) (fun z => absurd z (by decide)) (fun z => absurd z (by decide)) (fun _ m3 hmr e35 e36 => ?_) (fun z => absurd z (by decide)) (fun z => absurd z (by decide)))
        refine d_item1 (v2 := (cI c1 65 (nI h')).1) G ((hB2 m2 E2 hR2).mk hmr) hq2 hmk e35 ⟨hin.1, hsig⟩ e3 (fun m5 hr5 _ => ?_)
        obtain ⟨E5, hr⟩ := hr5 h11
        refine iP.i (hnext m5 E5 ?_) rfl
        rw [hiw, hip]
        exact hr
  · -- a new list
    refine lk_pre (kk := 2) F G hBN hσ hT (by decide) ⟨fun z => absurd z (by decide), fun z => absurd ⟨z.2.1, z.2.2⟩ hin⟩ (fun c3 D' h' m' E' hB hst q1 q2 q3 q4 q5 => ?_)
    obtain ⟨t1, t2, t3, t4, t5, t6, t7, t8, t9, t10⟩ := hT
    have hmk := bgF_3 t6
    have hF := t9 rfl
    have hh := t3.1.2.1
    have hq2 := q2
    obtain ⟨w1, w2, w3, w4, w5, w6, w7, w8, w9, w10, ⟨w11, w11b, w11c, w11d⟩, w12, w13, w14, w15⟩ := q2
    have hsA : sA c3.1 = sA c1.1 := by unfold sA; rw [w11b, w11c]; rfl
    have hld3 : ld c3.1 = ld c1.1 := w11c
    have hlx3 : lx c3.1 = lx c1.1 := w11
    have hlp3 : lp c3.1 = lp c1.1 := w11b
    obtain ⟨p1, p2, p3, p4, p5, p6, p7, p8, p9, p10⟩ := q3
    have hB2 : ∀ m' E', RB m0 c1.1 m' μ t o B E' D h bt x4 → RB m0 (cI c1 65 (nI h')).1 m' μ t o B E' D h bt x4 := fun m' E' z => z.vs ⟨rfl, rfl, rfl, rfl, rfl, rfl, rfl⟩ ⟨rfl, rfl, rfl⟩ ⟨rfl, rfl⟩
    have hno2 : kd c3.1 (vo c3.1 h') ≠ 2 := by
      intro z
      rw [w5, w4] at z
      rcases w1 with y | y
      · rw [y.1] at z
        exact absurd ⟨z, by decide⟩ y.2.2
      · have := w7 h' (by omega) z
        rw [y.1] at this
        rcases y.2 with w | w <;> omega
    have hht : h' ≤ t := by rcases hst with z | z <;> omega
    have hk7 : kd c3.1 (vo c3.1 h') ≤ 7 ∧ vb c3.1 (vo c3.1 h') 0 = nI (kd c3.1 (vo c3.1 h')) := by
      rw [w6 _ 0 (by decide) (by decide), w5, w4]
      have := (hB.1.rk _ (hB.1.ro.2.2.2.2.1 h' hht)).1.1
      exact ⟨this.2.1, this.1⟩
    have hsig : ¬ (kd c1.1 (vo c1.1 h) = 2 ∧ vb c1.1 (vo c1.1 h) 12 = mkS (lx c1.1) (sA c1.1)) := fun z => hin ⟨z.1, by rw [hF.1]; exact z.2⟩
    have hiw : iwF c3.1 = iwF c1.1 := by
      show itW (lx c3.1) (sA c3.1) (ld c3.1) (dgC (lx c3.1) (sA c3.1) + 1) = _
      rw [hlx3, hsA, hld3]
    have hip : ipF c3.1 = ipF c1.1 := by
      show min (lp c3.1 + iwF c3.1) (lx c3.1).length = _
      rw [hiw, hlx3, hlp3]
    have hlx12 := hB.2.1.1.2.2
    have hlen : sA c1.1 < (lx c1.1).length := Nat.lt_of_not_le (bgF_nb (by rw [t6]; decide))
    have hph := mk_phi (v := c1.1) (by omega) (by omega) hmk
    have hB13 := t3.2.1.1 t2
    have hld12 : ld c3.1 ≤ 12100 := by
      have e : sA c1.1 = lp c1.1 + ld c1.1 := rfl
      rw [hld3]; omega
    refine g_Rd_carryOut F ?_
    unfold w_Rd_carryOut_0
    refine ⟨fun z => absurd z (by decide), fun z => absurd z (by decide), fun z => absurd z (by decide), fun _ => ?_, fun z => absurd z (by decide), fun z => absurd z (by decide), fun z => absurd z (by decide), fun z => absurd z (by decide), fun z => absurd z (by decide), fun z => absurd z (by decide)⟩
    refine q_item F hTA p1 p2 p3 p4 p5 p6 p7 hk7.2 hk7.1 (q4 hF) hld12 (fun _ hd => ⟨mZ0, 0, rfl, fun _ => hdp c3 q1 ?_, fun z => absurd rfl z⟩) (fun z => absurd z hno2) (fun _ h10 c4 c5 e1 e3 f1 f2 f3 => ⟨mZ1, 1, rfl, fun z => absurd z (by decide), fun _ => hgo _ ?_ ?_⟩)
    · intro Φ P hcl hnext
      obtain ⟨v4, hN4⟩ := NwC_ex c3.1 (nI 2) (nI (vo c3.1 h')) (nI n) h'
      obtain ⟨v5, hN5⟩ := NwC_ex (vB (vB v4 (ct c3.1) 12 (mkS (lx c1.1) (sA c1.1))) (ct c3.1) 3 (dgN (lx c1.1) (sA c1.1) (dgC (lx c1.1) (sA c1.1)))) (nI 3) (nI (ct c3.1)) (nI n) (h' + 1)
      refine t10 Φ P hcl (fun m2 E2 hR2 => d_Q G hR2 hh hcl b t6 t7 (fun z => absurd z (by decide)) (fun z => absurd z (by decide)) (fun z => absurd z (by decide)) (fun z => absurd z (by decide)) (fun z => absurd z (by decide)) (fun _ m3 hmr e35 e36 => ?_) (fun z => absurd z (by decide)) (fun z => absurd z (by decide)))
      exact d_item2 (v2 := (cI c1 65 (nI h')).1) G ((hB2 m2 E2 hR2).mk hmr) hq2 hmk e35 e36 hsig hN4 (by show 2 ≤ phi (lx c1.1) (lp c1.1); omega) hN5 (fun m5 _ hd5 => iP.i (hnext m5 (hd5 hd).1 (hd5 hd).2) rfl)
    · obtain ⟨y1, y2, y3, y4, y5, y6, y7⟩ := KV.push e3
      obtain ⟨g1, g2, g3, g4, g5, g6, g7⟩ := KV.push f3
      exact q1.trans ⟨e1.trans f1, f2, ⟨g1.trans y1, g2.trans y2, g3.trans y3, g4.trans y4, g5.trans y5, g6.trans y6, g7.1.trans y7.1, g7.2.trans y7.2⟩⟩
    · have hnx := p1.next e3
      have hP := p1.push e3 p6 (by decide) (fun _ => by omega) p5 (fun z => absurd z hno2)
      have hvo := e3.2.2.2.2.2.1
      generalize hv4 : vB (vB c4.1 (ct c3.1) 12 (mkS (lx c3.1) (sA c3.1))) (ct c3.1) 3 (dgN (lx c3.1) (sA c3.1) (dgC (lx c3.1) (sA c3.1))) = v4 at *
      have hkd4 : ∀ i, kd v4 i = kd c4.1 i := fun i => by
        rw [← hv4]
        unfold kd
        show (upd2 (upd2 (vb c4.1) _ 12 _) _ 3 _ i 0).toNatClampNeg = _
        rw [upd2_off (fun y => absurd y.2 (by decide)), upd2_off (fun y => absurd y.2 (by decide))]
      have hvo4 : vo v4 = vo c4.1 := by rw [← hv4]; rfl
      have hct4 : ct v4 = ct c4.1 := by rw [← hv4]; rfl
      have hC4 : CB1 v4 (h' + 1) (h' + 1) n := hP.1.sh ⟨hvo4, hkd4, by rw [← hv4]; rfl, by rw [← hv4]; rfl, fun _ _ => by rw [← hv4]; rfl⟩
      have hlt4 : ∀ j, j ≤ h' + 1 → vo v4 j < ct v4 := by
        intro j hj
        rw [hvo4, hct4, e3.1]
        by_cases e : j = h' + 1
        · rw [e, hvo]; omega
        · rw [e3.2.2.2.2.2.2.1 j e]
          have := p6 j (by omega)
          omega
      have hP5 := hC4.push f3 hlt4 (by decide) (fun _ => by omega) (by omega) (fun _ => rfl)
      have hnx5 := hC4.next f3
      have hvo5 := f3.2.2.2.2.2.1
      rw [hct4] at hP5 hvo5
      have hlx4 : lx v4 = lx c4.1 := by rw [← hv4]; rfl
      have htx4 : tx v4 = tx c4.1 := by rw [← hv4]; rfl
      have hkd5 : ∀ i, kd (vB c5.1 (ct c4.1) 11 (nI (iwF c3.1))) i = kd c5.1 i := fun i => by
        unfold kd
        show (upd2 (vb c5.1) _ 11 _ i 0).toNatClampNeg = _
        rw [upd2_off (fun y => absurd y.2 (by decide))]
      have hk5 : kd (vB c5.1 (ct c4.1) 11 (nI (iwF c3.1))) (vo c5.1 (h' + 2)) = 3 := by rw [hkd5, hvo5, hP5.2.1]
      refine ⟨muP c4.1 (muP c3.1 μ B) (B + 1), h' + 2, h' + 3, B + 2, D', h' + 2, false, ?_, ?_, ⟨?_, ?_, ?_⟩, ?_, ?_, fun z => absurd z (by decide), ?_⟩
      · show vi c5.1 67 = 0
        rw [f3.2.2.2.2.2.2.2.1 67 (by decide) (by decide), ← hv4]
        show vi c4.1 67 = 0
        rw [e3.2.2.2.2.2.2.2.1 67 (by decide) (by decide), q5]
        exact t1
      · show kd (vB c5.1 (ct c4.1) 11 (nI (iwF c3.1))) (vo c5.1 (h' + 2)) ≠ 7
        rw [hk5]
        decide
      · exact hP5.1.sh ⟨rfl, hkd5, rfl, rfl, fun _ _ => rfl⟩
      · have hp5 : (B + 2 + phi (lx c5.1) (ipF c3.1) ≤ K ∧ K ≤ 3002) := by
          rw [hnx5.1, hlx4, hnx.1, hlx3, hip]
          omega
        exact ⟨fun _ => hp5, by omega⟩
      · exact ⟨fun z => absurd (hk5.symm.trans z) (by decide), fun z => absurd (hk5.symm.trans z) (by decide)⟩
      · show tx c5.1 = T0
        rw [hnx5.2.1, htx4, hnx.2.1, w11d]
        exact t4
      · right
        right
        refine ⟨rfl, Or.inr hk5, ?_⟩
        have := t5.next hst
        omega
      · intro Φ P hcl hnext
        refine t10 Φ P hcl (fun m2 E2 hR2 => d_Q G hR2 hh hcl b t6 t7 (fun z => absurd z (by decide)) (fun z => absurd z (by decide)) (fun z => absurd z (by decide)) (fun z => absurd z (by decide)) (fun z => absurd z (by decide)) (fun _ m3 hmr e35 e36 => ?_) (fun z => absurd z (by decide)) (fun z => absurd z (by decide)))
        have hf3 : NwC (vB (vB c4.1 (ct c3.1) 12 (mkS (lx c1.1) (sA c1.1))) (ct c3.1) 3 (dgN (lx c1.1) (sA c1.1) (dgC (lx c1.1) (sA c1.1)))) c5.1 (nI 3) (nI (ct c3.1)) (nI n) (h' + 1) := by
          rw [← hlx3, ← hsA, hv4]
          exact f3
        refine d_item2 (v2 := (cI c1 65 (nI h')).1) G ((hB2 m2 E2 hR2).mk hmr) hq2 hmk e35 e36 hsig e3 (by show 2 ≤ phi (lx c1.1) (lp c1.1); omega) hf3 (fun m5 hr5 _ => ?_)
        obtain ⟨E5, hr⟩ := hr5 h10
        refine iP.i (hnext m5 E5 ?_) rfl
        rw [hiw, hip]
        exact hr
end LKI
end KB
