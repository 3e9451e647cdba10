section KB
variable {K : Nat}
/-! one turn of the class's loop: up to the closing -/
def KV (v v' : VS) : Prop := vr v' 1 = vr v 1 ∧ lx v' = lx v ∧ vn v' 51 = vn v 51 ∧ vi v' 6 = vi v 6 ∧ vi v' 7 = vi v 7 ∧ vi v' 66 = vi v 66 ∧ vy v' = vy v ∧ vo v' 0 = vo v 0
theorem KV.rfl {v : VS} : KV v v := ⟨_root_.rfl, _root_.rfl, _root_.rfl, _root_.rfl, _root_.rfl, _root_.rfl, _root_.rfl, _root_.rfl⟩
theorem KV.trans {v v' v2 : VS} (h : KV v v') (h2 : KV v' v2) : KV v v2 := ⟨h2.1.trans h.1, h2.2.1.trans h.2.1, h2.2.2.1.trans h.2.2.1, h2.2.2.2.1.trans h.2.2.2.1, h2.2.2.2.2.1.trans h.2.2.2.2.1, h2.2.2.2.2.2.1.trans h.2.2.2.2.2.1, h2.2.2.2.2.2.2.1.trans h.2.2.2.2.2.2.1, h2.2.2.2.2.2.2.2.trans h.2.2.2.2.2.2.2⟩
def LkC (c c' : CS) : Prop := ExC c c' ∧ ct c'.1 ≤ c'.2.2 ∧ KV c.1 c'.1
theorem LkC.trans {c c' c2 : CS} (h : LkC c c') (h2 : LkC c' c2) : LkC c c2 := ⟨h.1.trans h2.1, h2.2.1, h.2.2.trans h2.2.2⟩
theorem KV.push {v v' : VS} {k ho li : Int32} {t : Nat} (hN : NwC v v' k ho li t) : KV v v' := by
  obtain ⟨n1, n2, n3, n4, n5, n6, n7, n8, n9, n10, n11⟩ := hN
  exact ⟨by rw [n10], by unfold lx; rw [n10], n9 51 (by decide), n8 6 (by decide) (by decide), n8 7 (by decide) (by decide), n8 66 (by decide) (by decide), n11, n7 0 (by omega)⟩
theorem RB.vs {m : MS} {m0 : MS → Prop} {v v' : VS} {μ : Nat → Nat} {t o B E h bt : Nat} {D : DL} {x4 : Int32} (hB : RB m0 v m μ t o B E D h bt x4) (hV : VSame v v') (hl : lx v' = lx v ∧ lp v' = lp v ∧ ld v' = ld v) (h68 : vi v' 68 = vi v 68 ∧ vi v' 69 = vi v 69) : RB m0 v' m μ t o B E D h bt x4 := by
  obtain ⟨b1, ⟨l1, l2, l3, l4⟩, b3, b4, b5, b6, b7, b8⟩ := hB
  have hkd : ∀ i, kd v' i = kd v i := fun i => by unfold kd; rw [hV.2.1]
  refine ⟨b1.same hV MSame.rfl, ⟨by rw [hl.1]; exact l1, by rw [hl.2.1]; exact l2, by rw [hl.1, hl.2.1]; exact l3, by rw [hl.1, hl.2.1, hl.2.2]; exact l4⟩, b3, b4, b5, ?_, b7, ?_⟩
  · unfold FN at b6 ⊢
    rw [hV.2.2.1, hkd, hV.2.1, h68.1, h68.2]
    exact b6
  · unfold BG at b8 ⊢
    rw [hV.2.2.1, hkd, hl.2.2]
    exact b8
theorem RG.ctB {v : VS} {m : MS} {μ : Nat → Nat} {B : Nat} (h : RG v m μ B) : ct v ≤ B := by
  have h0 := h.1
  have h1 := h.ge (ct v - 1) (by omega)
  have h2 := h.2.2.2.2.2.1 (ct v - 1) (by omega)
  omega
theorem stF_ok {v : VS} {h t bg k : Nat} (hh : h ≤ t) (hLI : LI v t) (h7 : kd v (vo v h) ≠ 7) (h56 : kd v (vo v h) ≠ 5 ∧ kd v (vo v h) ≠ 6) (hk7 : kd v (vo v h) ≤ 7) (h0 : kd v (vo v h) = 0 ↔ h = 0) (hk : k = 3 ↔ (bg = 3 ∧ kd v (vo v h) = 2 ∧ vb v (vo v h) 12 = vi v 54)) : StO v h (stF v h (kd v (vo v h)) bg) k := by
  unfold stF
  by_cases c : kd v (vo v h) = 4 ∨ (kd v (vo v h) = 2 ∧ ¬ (bg = 3 ∧ vb v (vo v h) 12 = vi v 54))
  · rw [if_pos c]
    right
    refine ⟨?_, ?_⟩
    · have : h ≠ 0 := fun y => by
        have := h0.mpr y
        omega
      omega
    · rcases c with z | z
      · exact Or.inl z
      · exact Or.inr ⟨z.1, fun y => z.2 ⟨(hk.mp y).1, (hk.mp y).2.2⟩⟩
  · rw [if_neg c]
    left
    refine ⟨rfl, ?_, ?_⟩
    · have : kd v (vo v h) ≠ 4 := fun y => c (Or.inl y)
      omega
    · intro y
      apply c
      right
      refine ⟨y.1, fun z => y.2 (hk.mpr ⟨z.1, y.1, z.2⟩)⟩
section TURN
variable {X : CX} {Y : MX} {a0 a1 : Array Value} {c1 : CS} {m : MS} {m0 : MS → Prop} {μ : Nat → Nat} {t o B E h n bt : Nat} {D : DL} {x4 : Int32}
theorem turn_close (F : cF X a0) (G : mF Y a1) (hBN : BNok X) (hB : RB m0 c1.1 m μ t o B E D h bt x4) (hC : CB K c1.1 t B h n) (hN : ct c1.1 ≤ c1.2.2) {h' k : Nat} (hst : StO c1.1 h h' k) {N : CS → Prop} (hn : ∀ c3 D', LkC c1 c3 → TC K Y (cI c1 65 (nI h')).1 c3.1 μ t o B h h' n k D D' → PK c3 h' n → (MkF c1.1 → MkF c3.1) → vi c3.1 67 = vi c1.1 67 → N c3) : cE X 8 y_Rd_close [.ref (adr X 6)] (cI c1 65 (nI h')) (cvP N) := by
  obtain ⟨hC1, hphi, hNE⟩ := hC
  have hC10 := hC1
  obtain ⟨a1', a2, a3, a4, a5, a6, a7, a8, a9⟩ := hC1
  have hht : h' ≤ t := by rcases hst with z | z <;> omega
  have h7 : kd c1.1 (vo c1.1 h) ≠ 7 := by
    rcases hst with z | z
    · omega
    · rcases z.2 with y | y <;> omega
  have hlo := hB.2.2.2.2.2.2.2.lt
  have hRO := hB.1.ro
  have hRG := hB.1.rg
  have hcB := hRG.ctB
  have hB2 : RB m0 (cI c1 65 (nI h')).1 m μ t o B E D h bt x4 := hB.vs ⟨rfl, rfl, rfl, rfl, rfl, rfl, rfl⟩ ⟨rfl, rfl, rfl⟩ ⟨rfl, rfl⟩
  have hk3 : kd c1.1 (vo c1.1 h') ≤ 3 := by
    by_cases e : h' < t
    · exact (hRO.2.2.2.2.2.2.1 h' e).2.2
    · rcases hst with z | z
      · rw [z.1]; exact z.2.1
      · omega
  refine p_close (c := cI c1 65 (nI h')) (m := m) F G hBN (h := h') hN (by omega) hB2.1 (cI_at _ _ _) hht (fun c3 D' f1 f2 f3 f4 f5 f6 => ?_)
  obtain ⟨g1, g2, g3, g4, g5, g6, g7, g8⟩ := f1
  have hkd : ∀ i, kd c3.1 i = kd c1.1 i := fun i => by unfold kd; rw [g8 i 0 (by decide) (by decide)]; rfl
  have hvo : vo c3.1 = vo c1.1 := g6
  have hlx : lx c3.1 = lx c1.1 := g5 11 (by decide) (by decide)
  have htx : tx c3.1 = tx c1.1 := g5 10 (by decide) (by decide)
  have hlp : lp c3.1 = lp c1.1 := g3 52 (by decide)
  have hld : ld c3.1 = ld c1.1 := g3 53 (by decide)
  have h65 : vi c3.1 65 = nI h' := by rw [g2 65 (by omega) (by decide)]; exact cI_at _ _ _
  have h66 : vi c3.1 66 = vi c1.1 66 := g2 66 (by omega) (by decide)
  have hlt : ∀ j, j ≤ h' → vo c3.1 j < ct c3.1 := by
    intro j hj
    by_cases e : h' = t
    · have := (f5 e).1
      rw [this]
      exact hRO.2.2.2.2.1 j (by omega)
    · have := hRO.lt t j (by omega) (Nat.le_refl _)
      have := hRO.2.2.2.2.1 t (Nat.le_refl _)
      have f2' : ct c1.1 ≤ ct c3.1 + 1 := f2
      rw [hvo]
      omega
  have hC3 : CB1 c3.1 h' h' n := hC10.close hht hk3 hvo hkd hlx htx h65 h66
  have hvb1 : vb c3.1 (vo c3.1 h') 1 = nI (vo c3.1 h') := by
    rw [g8 _ 1 (by decide) (by decide), hvo]
    exact (hB.1.rk _ (hRO.2.2.2.2.1 h' hht)).1.2.2.1
  have hsA : sA c3.1 = sA c1.1 := by unfold sA; rw [hlp, hld]
  have hct3 : ct c3.1 ≤ ct c1.1 := g4
  have hB3002 := hphi.2
  refine hn c3 D' ⟨ExC.of g1, ?_, ?_⟩ ⟨hst, f6, fun e => ⟨by rw [(f5 e).1], (f5 e).2⟩, hvo, hkd, fun i j z1 z2 => g8 i j z1 z2, a7, a2, hlo, a5, ⟨hlx, hlp, hld, htx⟩, hC3, hphi.1 h7, f3, hlt⟩ ⟨hC3, ?_, by omega, f3, hC3.2.2.2.2.2.1 (by rw [hvo, hkd]; exact hk3), hlt, hvb1, by rw [hlx, hlp, hld]; exact hB.2.1.2.2.2, by rw [hlx]; exact hB.2.1.1.2.2, by rw [hlx, hlp]; exact hB.2.1.2.2.1⟩ (fun q => ?_) (g2 67 (by omega) (by decide))
  · rw [g1]
    exact Nat.le_trans hct3 hN
  · exact ⟨g5 1 (by decide) (by decide), hlx, g3 51 (by decide), g2 6 (by omega) (by decide), g2 7 (by omega) (by decide), h66, g7, by rw [g6]; rfl⟩
  · rw [g1]
    exact Nat.le_trans hct3 hN
  · obtain ⟨q1, q2, q3⟩ := q
    refine ⟨?_, ?_, ?_⟩
    · rw [g2 54 (by omega) (by decide), hlx, hsA]
      exact q1
    · show vn c3.1 55 = dgC (lx c3.1) (sA c3.1) + 1
      rw [g3 55 (by decide), hlx, hsA]
      exact q2
    · rw [g2 56 (by omega) (by decide), hlx, hsA]
      exact q3
end TURN
end KB
