section KB
variable {K : Nat}
/-! turns of the loop -/
def Tn (K : Nat) (Y : MX) (T0 : List Int32) (S m0 : MS → Prop) (n bt : Nat) (x3 x4 : Int32) (μ : Nat → Nat) (t o B : Nat) (D : DL) (h : Nat) (b : Bool) (bg k : Nat) (c1 : CS) : Prop := vi c1.1 67 = 0 ∧ kd c1.1 (vo c1.1 h) ≠ 7 ∧ CB K c1.1 t B h n ∧ tx c1.1 = T0 ∧ Cnt c1.1 t h k ∧ bgF c1.1 (kd c1.1 (vo c1.1 h)) (kd c1.1 (vo c1.1 t)) = bg ∧ (b = true → Nt bg) ∧ ct c1.1 ≤ c1.2.2 ∧ (bg = 3 → MkF c1.1) ∧ ∀ Φ P, Cl163 Y (nI n) (nI bt) x3 x4 Φ P → (∀ m' E', RB m0 c1.1 m' μ t o B E' D h bt x4 → Q163 Y c1.1 n bt b P m') → ∀ m, S m → P 1 m
theorem Cnt.next {v : VS} {t h h' k kk : Nat} (hc : Cnt v t h k) (hst : StO v h h' kk) : k + 1 ≤ h' + 1 + 2 := by
  rcases hc with z | z | z
  · omega
  · omega
  · obtain ⟨z1, z2, z3⟩ := z
    rcases hst with y | y
    · omega
    · rw [z1] at y
      rcases y.2 with w | w
      · omega
      · omega
/-- what is known of the block at hand -/
theorem RB.kds {m : MS} {m0 : MS → Prop} {v : VS} {μ : Nat → Nat} {t o B E h bt : Nat} {D : DL} {x4 : Int32} (hB : RB m0 v m μ t o B E D h bt x4) (hh : h ≤ t) : vb v (vo v h) 0 = nI (kd v (vo v h)) ∧ kd v (vo v h) ≤ 7 ∧ (kd v (vo v h) = 0 ↔ h = 0) ∧ (kd v (vo v h) ≠ 5 ∧ kd v (vo v h) ≠ 6) ∧ vo v h < ct v ∧ vb v (vo v t) 0 = nI (kd v (vo v t)) ∧ kd v (vo v t) ≤ 7 ∧ vo v t < ct v ∧ (h < t → kd v (vo v h) ≤ 3) := by
  have hRO := hB.1.ro
  have hlo := hB.2.2.2.2.2.2.2.lt
  have hi := hRO.2.2.2.2.1 h hh
  have hit := hRO.2.2.2.2.1 t (Nat.le_refl _)
  have hbk := (hB.1.rk _ hi).1
  have hbt := (hB.1.rk _ hit).1
  refine ⟨hbk.1.1, hbk.1.2.1, ?_, ?_, hi, hbt.1.1, hbt.1.2.1, hit, fun q => (hRO.2.2.2.2.2.2.1 h q).2.2⟩
  · rw [hbk.1.2.2]
    constructor
    · intro z
      apply Decidable.byContradiction
      intro q
      have := hRO.lt h 0 (by omega) hh
      rw [hRO.2.1] at this
      omega
    · intro z
      rw [z]
      exact hRO.2.1
  · by_cases q : h < t
    · have := (hRO.2.2.2.2.2.2.1 h q).2.2
      omega
    · have e : h = t := by omega
      subst e
      rcases hB.1.2 with z | z
      · have := z.2.2.2.2.2.1
        omega
      · rcases z.2 with y | y
        · omega
        · omega
section LK
variable {X : CX} {Y : MX} {a0 a1 : Array Value} {c1 : CS} {S m0 : MS → Prop} {μ : Nat → Nat} {t o B h n bt k : Nat} {D : DL} {x3 x4 : Int32} {T0 : List Int32} {b : Bool}
theorem lk_pre (F : cF X a0) (G : mF Y a1) (hBN : BNok X) (hσ : ∃ m σ, S m ∧ MV Y m σ) {bg kk : Nat} (hT : Tn K Y T0 S m0 n bt x3 x4 μ t o B D h b bg k c1) (hbg : bg ≤ 10) (hkk : kk = 3 ↔ (bg = 3 ∧ kd c1.1 (vo c1.1 h) = 2 ∧ vb c1.1 (vo c1.1 h) 12 = vi c1.1 54)) {M : CS → Prop} (hM : ∀ c3 D' h' m' E', RB m0 c1.1 m' μ t o B E' D h bt x4 → StO c1.1 h h' kk → LkC c1 c3 → TC K Y (cI c1 65 (nI h')).1 c3.1 μ t o B h h' n kk D D' → PK c3 h' n → (MkF c1.1 → MkF c3.1) → vi c3.1 67 = vi c1.1 67 → M c3) : cE X 1 y_Rd_stepOutFor [.ref (adr X 6), .int (nI bg)] c1 (cvP fun m3 => cE X 8 y_Rd_close [.ref (adr X 6)] m3 (cvP M)) := by
  obtain ⟨t1, t2, t3, t4, t5, t6, t7, t8, t9, t10⟩ := hT
  obtain ⟨m', E', hB⟩ := wit G hσ t10
  have hC1 := t3.1
  have hh := hC1.2.1
  obtain ⟨k1, k2, k3, k4, k5, k6, k7, k8, k9⟩ := hB.kds hh
  have hst := stF_ok (v := c1.1) (h := h) (t := t) (bg := bg) (k := kk) hh hC1.2.2.2.2.2.2.1 t2 k4 k2 k3 hkk
  refine q_Rd_stepOutFor F hC1.1 (by have := hC1.2.2.2.2.1; omega) (fun z => ?_) (by omega) k1 k2 hbg ?_
  · apply Decidable.byContradiction
    intro q
    have := k3.mpr (by omega)
    omega
  · exact turn_close F G hBN hB t3 t8 hst (fun c3 D' q1 q2 q3 q4 q5 => hM c3 D' _ m' E' hB hst q1 q2 q3 q4 q5)
theorem lk_quote (F : cF X a0) (G : mF Y a1) (hBN : BNok X) (hTA : TAok X) (hσ : ∃ m σ, S m ∧ MV Y m σ) (hT : Tn K Y T0 S m0 n bt x3 x4 μ t o B D h b 1 k c1) {Φ0 Φ1 : CS → Prop} (hgo : ∀ c5, LkC c1 c5 → Act K Y T0 S m0 n bt x3 x4 (k + 1) c5 → Φ1 c5) (hdp : ∀ c5, LkC c1 c5 → Dpt Y S m0 n bt x3 x4 → Φ0 c5) : cE X 1 y_Rd_stepOutFor [.ref (adr X 6), .int (nI 1)] c1 (cvP fun m3 => cE X 8 y_Rd_close [.ref (adr X 6)] m3 (cvP fun m4 => cE X 10 y_Rd_carryOut [.ref (adr X 6), .int (nI 1)] m4 (ciP fun r5 m5 => ((r5 = 0 → Φ0 m5) ∧ (¬ r5 = 0 → Φ1 m5))))) := by
  refine lk_pre (kk := 1) F G hBN hσ hT (by decide) ⟨fun z => absurd z (by decide), fun z => absurd z.1 (by decide)⟩ (fun c3 D' h' m' E' hB hst q1 q2 q3 q4 q5 => ?_)
  obtain ⟨t1, t2, t3, t4, t5, t6, t7, t8, t9, t10⟩ := hT
  have hq := bgF_1 t6
  have hh := t3.1.2.1
  have hq2 := q2
  obtain ⟨w1, w2, w3, w4, w5, w6, w7, w8, w9, w10, ⟨w11, w11b, w11c, w11d⟩, w12, w13, w14, w15⟩ := q2
  have hsA : sA c3.1 = sA c1.1 := by unfold sA; rw [w11b, w11c]; rfl
  have hld3 : ld c3.1 = ld c1.1 := w11c
  have hlx3 : lx c3.1 = lx c1.1 := w11
  obtain ⟨p1, p2, p3, p4, p5, p6, p7, p8, p9, p10⟩ := q3
  have hB2 : ∀ m' E', RB m0 c1.1 m' μ t o B E' D h bt x4 → RB m0 (cI c1 65 (nI h')).1 m' μ t o B E' D h bt x4 := fun m' E' z => z.vs ⟨rfl, rfl, rfl, rfl, rfl, rfl, rfl⟩ ⟨rfl, rfl, rfl⟩ ⟨rfl, rfl⟩
  have hx1 : (nI 1 : Int32) = 1 := rfl
  refine g_Rd_carryOut F ?_
  unfold w_Rd_carryOut_0
  refine ⟨fun z => absurd z (by decide), fun _ => ?_, fun z => absurd z (by decide), fun z => absurd z (by decide), fun z => absurd z (by decide), fun z => absurd z (by decide), fun z => absurd z (by decide), fun z => absurd z (by decide), fun z => absurd z (by decide), fun z => absurd z (by decide)⟩
  refine q_quote F hTA p1 p2 (by omega) p4 p5 (p6 h' (Nat.le_refl _)) p7 (by rw [hld3, hlx3, hsA]; exact hq) (fun hd => ⟨mZ0, 0, rfl, fun _ => hdp c3 q1 ?_, fun z => absurd rfl z⟩) (fun c4 h11 e1 e2 e3 => ⟨mZ1, 1, rfl, fun z => absurd z (by decide), fun _ => hgo _ ?_ ?_⟩)
  · -- too deep
    intro Φ P hcl hnext
    obtain ⟨v4, hN4⟩ := NwC_ex c3.1 (nI 1) (nI (vo c3.1 h')) (nI n) h'
    refine t10 Φ P hcl (fun m2 E2 hR2 => d_Q G hR2 hh hcl b t6 t7 (fun _ => ?_) (fun z => absurd z (by decide)) (fun z => absurd z (by decide)) (fun z => absurd z (by decide)) (fun z => absurd z (by decide)) (fun z => absurd z (by decide)) (fun z => absurd z (by decide)) (fun z => absurd z (by decide)))
    exact d_quote G (hB2 m2 E2 hR2) hq2 hq.2 hN4 (fun m5 _ hd5 => hnext m5 (hd5 hd).1 (hd5 hd).2)
  · refine q1.trans ⟨e1, e2, ?_⟩
    obtain ⟨y1, y2, y3, y4, y5, y6, y7⟩ := KV.push e3
    exact ⟨y1, y2, y3, y4, y5, y6, y7⟩
  · have hnx := p1.next e3
    have hno2 : kd c3.1 (vo c3.1 h') = 2 → (1 : Nat) = 3 := by
      intro z
      rw [w5, w4] at z
      rcases w1 with y | y
      · rw [y.1] at z
        exact absurd ⟨z, by decide⟩ y.2.2
      · have := w7 h' (by omega) z
        rw [y.1] at this
        rcases y.2 with w | w <;> omega
    have hP := p1.push e3 p6 (by decide) (fun _ => by omega) p5 hno2
    have hvo := e3.2.2.2.2.2.1
    have hlen : sA c1.1 < (lx c1.1).length := Nat.lt_of_not_le (bgF_nb (by rw [t6]; decide))
    have hlx12 := hB.2.1.1.2.2
    have hphi : phi (lx c1.1) (min (qmP (lx c1.1) (sA c1.1)) (lx c1.1).length) + 1 ≤ phi (lx c1.1) (lp c1.1) := by
      have a1 := phi_1 (xs := lx c1.1) (p := sA c1.1) hlen (by omega) (by show rowAt _ _ ≠ 32; rw [hq.2]; decide)
      have a2 : phi (lx c1.1) (min (qmP (lx c1.1) (sA c1.1)) (lx c1.1).length) ≤ phi (lx c1.1) (sA c1.1 + 1) := by
        apply phi_mono
        unfold qmP
        split <;> omega
      have a3 : phi (lx c1.1) (sA c1.1) ≤ phi (lx c1.1) (lp c1.1) := phi_mono (Nat.le_add_right _ _)
      omega
    have hB13 := t3.2.1.1 t2
    refine ⟨muP c3.1 μ B, h' + 1, h' + 2, B + 1, D', h' + 1, false, ?_, ?_, ⟨?_, ?_, ?_⟩, ?_, ?_, fun z => absurd z (by decide), ?_⟩
    · show vi c4.1 67 = 0
      rw [e3.2.2.2.2.2.2.2.1 67 (by decide) (by decide), q5]
      exact t1
    · show kd c4.1 (vo c4.1 (h' + 1)) ≠ 7
      rw [hvo, hP.2.1]
      decide
    · exact hP.1.sh (SH.of rfl rfl rfl (fun _ _ => rfl))
    · have hp5 : (B + 1 + phi (lx c4.1) (min (qmP (lx c3.1) (sA c3.1)) (lx c3.1).length) ≤ K ∧ K ≤ 3002) := by
        rw [hnx.1, hlx3, hsA]
        omega
      exact ⟨fun _ => hp5, by omega⟩
    · have hk1 : kd c4.1 (vo c4.1 (h' + 1)) = 1 := by rw [hvo, hP.2.1]
      exact ⟨fun z => absurd (hk1.symm.trans z) (by decide), fun z => absurd (hk1.symm.trans z) (by decide)⟩
    · show tx c4.1 = T0
      rw [hnx.2.1, w11d]
      exact t4
    · right
      right
      refine ⟨rfl, Or.inl ?_, t5.next hst⟩
      show kd c4.1 (vo c4.1 (h' + 1)) = 1
      rw [hvo, hP.2.1]
    · intro Φ P hcl hnext
      refine t10 Φ P hcl (fun m2 E2 hR2 => d_Q G hR2 hh hcl b t6 t7 (fun _ => ?_) (fun z => absurd z (by decide)) (fun z => absurd z (by decide)) (fun z => absurd z (by decide)) (fun z => absurd z (by decide)) (fun z => absurd z (by decide)) (fun z => absurd z (by decide)) (fun z => absurd z (by decide)))
      refine d_quote G (hB2 m2 E2 hR2) hq2 hq.2 e3 (fun m5 hr5 _ => ?_)
      obtain ⟨E5, hr⟩ := hr5 h11
      have := hnext m5 E5 (by rw [hlx3, hsA]; exact hr)
      exact this
end LK
end KB
