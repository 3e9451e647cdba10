section KB
variable {K : Nat}
/-! in the midst of a line -/
/-- the fence of the code at the tip -/
def FN (v : VS) (m : MS) (μ : Nat → Nat) (t : Nat) : Prop := kd v (vo v t) = 7 → vb v (vo v t) 12 ≠ 0 → ∃ fl fi, vi v 68 = nI fl ∧ vi v 69 = nI fi ∧ m.2 23 (μ (vo v t)) = nI fl ∧ m.2 24 (μ (vo v t)) = nI fi ∧ 0 < fl ∧ fl ≤ 13000 ∧ fi ≤ 13000 ∧ vb v (vo v t) 12 ≠ -1
/-- what a line leaves as it is, in the model -/
def FrL (m m' : MS) : Prop := (∀ k, (k ≤ 4 ∨ k = 6 ∨ k = 11 ∨ k = 12 ∨ k = 39) → m'.1 k = m.1 k) ∧ ∀ k i, (k ≤ 6 ∨ k = 8 ∨ k = 9 ∨ k = 37 ∨ k = 38 ∨ 52 ≤ k) → m'.2 k i = m.2 k i
theorem FrL.rfl {m : MS} : FrL m m := ⟨fun _ _ => _root_.rfl, fun _ _ _ => _root_.rfl⟩
theorem FrL.trans {m m' m2 : MS} (h : FrL m m') (h2 : FrL m' m2) : FrL m m2 := ⟨fun k q => (h2.1 k q).trans (h.1 k q), fun k i q => (h2.2 k i q).trans (h.2 k i q)⟩
theorem FrB.l {m m' : MS} (h : FrB m m') : FrL m m' := ⟨fun k q => h.1 k (by omega) (by omega) (by omega) (by omega) (by omega) (by omega) (by omega) (by omega), fun k i q => h.2 k i (by omega) (by omega) (by omega) (by omega)⟩
theorem FrM.l {m m' : MS} (h : FrM m m') : FrL m m' := ⟨fun k q => h.1 k (by omega) (by omega) (by omega) (by omega), fun k i q => h.2 k i (by omega) (by omega) (by omega) (by omega) (by omega) (by omega)⟩
theorem FrL.i {m m' : MS} (h : FrL m m') {k : Nat} (hk : ¬ (k ≤ 4 ∨ k = 6 ∨ k = 11 ∨ k = 12 ∨ k = 39)) (x : Int32) : FrL m (mI m' k x) := ⟨fun j q => (mI_ne (by omega)).trans (h.1 j q), h.2⟩
theorem FrL.a {m m' : MS} (h : FrL m m') {k i : Nat} (hk : ¬ (k ≤ 6 ∨ k = 8 ∨ k = 9 ∨ k = 37 ∨ k = 38 ∨ 52 ≤ k)) (x : Int32) : FrL m (mA m' k i x) := ⟨h.1, fun j q z => (mA_ne (by omega)).trans (h.2 j q z)⟩
/-- ...from one that has the property m0 -/
def FrX (m0 : MS → Prop) (m : MS) : Prop := ∃ x, m0 x ∧ FrL x m
theorem FrX.trans {m0 : MS → Prop} {m m' : MS} (h : FrX m0 m) (h2 : FrL m m') : FrX m0 m' := by
  obtain ⟨x, q, z⟩ := h
  exact ⟨x, q, z.trans h2⟩
theorem FrX.i {m0 : MS → Prop} {m : MS} (h : FrX m0 m) {k : Nat} (hk : ¬ (k ≤ 4 ∨ k = 6 ∨ k = 11 ∨ k = 12 ∨ k = 39)) (x : Int32) : FrX m0 (mI m k x) := h.trans (FrL.rfl.i hk x)
theorem FrX.a {m0 : MS → Prop} {m : MS} (h : FrX m0 m) {k i : Nat} (hk : ¬ (k ≤ 6 ∨ k = 8 ∨ k = 9 ∨ k = 37 ∨ k = 38 ∨ 52 ≤ k)) (x : Int32) : FrX m0 (mA m k i x) := h.trans (FrL.rfl.a hk x)
theorem FrL.line {m m' : MS} {xs : List Int32} (h : FrL m m') (hL : LnI m xs) : LnI m' xs := ⟨(h.1 12 (by omega)).trans hL.1, fun i hi => (h.2 9 i (by omega)).trans (hL.2.1 i hi), hL.2.2⟩
/-- has a block begun in this line? and did all go on? -/
def BG (v : VS) (m : MS) (μ : Nat → Nat) (t o h bt : Nat) (x4 : Int32) : Prop := (m.1 33 = 1 ∧ h = t ∧ o = t + 1) ∨ (m.1 33 = 0 ∧ bt < 3300 ∧ ((x4 = 0 ∧ h + 1 < o ∧ (m.2 13 bt = 4 ↔ kd v (vo v t) = 4) ∧ (kd v (vo v t) = 4 → bt = μ (vo v t))) ∨ (x4 = 1 ∧ h + 1 = o ∧ (4 ≤ ld v → (m.2 13 bt = 4 ↔ kd v (vo v t) = 4)))))
/-- class and model in the midst of a line -/
def RB (m0 : MS → Prop) (v : VS) (m : MS) (μ : Nat → Nat) (t o B E : Nat) (D : DL) (h bt : Nat) (x4 : Int32) : Prop := RR v m μ t o B E D ∧ LR v m ∧ m.1 32 = nI h ∧ m.1 5 = -1 ∧ m.1 34 = 0 ∧ FN v m μ t ∧ FrX m0 m ∧ BG v m μ t o h bt x4
/-- of the class alone -/
def CB1 (v : VS) (t h n : Nat) : Prop := vi v 65 = nI h ∧ h ≤ t ∧ vi v 66 = nI n ∧ n ≤ 3000 ∧ t ≤ 13 ∧ (kd v (vo v t) ≤ 3 → t ≤ 12) ∧ LI v t ∧ LnW (lx v) ∧ TB v
def NE (v : VS) (t h : Nat) : Prop := (kd v (vo v t) = 7 → vb v (vo v t) 12 = 0 → vb v (vo v t) 6 = 0 → ¬ (lx v).length ≤ sA v) ∧ (kd v (vo v h) = 4 → ¬ (lx v).length ≤ sA v)
/-- how much may still begin -/
def PH (K : Nat) (v : VS) (B h : Nat) : Prop := (kd v (vo v h) ≠ 7 → (B + phi (lx v) (lp v) ≤ K ∧ K ≤ 3002)) ∧ (B ≤ K ∧ K ≤ 3002)
def CB (K : Nat) (v : VS) (t B h n : Nat) : Prop := CB1 v t h n ∧ PH K v B h ∧ NE v t h
/-- of one shape -/
def SH (v v' : VS) : Prop := vo v' = vo v ∧ (∀ i, kd v' i = kd v i) ∧ lx v' = lx v ∧ tx v' = tx v ∧ ∀ k, k = 65 ∨ k = 66 → vi v' k = vi v k
theorem CB1.sh {v v' : VS} {t h n : Nat} (hC : CB1 v t h n) (hS : SH v v') : CB1 v' t h n := by
  obtain ⟨c1, c2, c3, c4, c5, c6, c7, c8, c9⟩ := hC
  obtain ⟨s1, s2, s3, s4, s5⟩ := hS
  refine ⟨by rw [s5 65 (Or.inl rfl)]; exact c1, c2, by rw [s5 66 (Or.inr rfl)]; exact c3, c4, c5, by rw [s1, s2]; exact c6, fun k hk => by rw [s1, s2, s2]; exact c7 k hk, by rw [s3]; exact c8, by unfold TB; rw [s3, s4]; exact c9⟩
theorem SH.of {v v' : VS} (h1 : vo v' = vo v) (h2 : vb v' = vb v) (h3 : vr v' = vr v) (h4 : ∀ k, k = 65 ∨ k = 66 → vi v' k = vi v k) : SH v v' := ⟨h1, fun i => by unfold kd; rw [h2], by unfold lx; rw [h3], by unfold tx; rw [h3], h4⟩
/-- the hand is set, the rest closed -/
theorem CB1.close {v v' : VS} {t h h' n : Nat} (hC : CB1 v t h n) (hh : h' ≤ t) (hk : kd v (vo v h') ≤ 3) (h1 : vo v' = vo v) (h2 : ∀ i, kd v' i = kd v i) (h3 : lx v' = lx v) (h4 : tx v' = tx v) (h65 : vi v' 65 = nI h') (h66 : vi v' 66 = vi v 66) : CB1 v' h' h' n := by
  obtain ⟨c1, c2, c3, c4, c5, c6, c7, c8, c9⟩ := hC
  refine ⟨h65, Nat.le_refl _, by rw [h66]; exact c3, c4, by omega, fun _ => ?_, fun k q => by rw [h1, h2, h2]; exact c7 k (by omega), by rw [h3]; exact c8, by unfold TB; rw [h3, h4]; exact c9⟩
  by_cases e : h' = t
  · subst e
    exact c6 hk
  · omega
theorem CB1.push {v v' : VS} {t n k : Nat} {ho li : Int32} (hC : CB1 v t t n) (hN : NwC v v' (nI k) ho li t) (hlt : ∀ j, j ≤ t → vo v j < ct v) (hk : k ≤ 7) (h12 : k ≤ 3 → t ≤ 11) (h13 : t ≤ 12) (h2 : kd v (vo v t) = 2 → k = 3) : CB1 v' (t + 1) (t + 1) n ∧ kd v' (ct v) = k ∧ ∀ i, i ≠ ct v → kd v' i = kd v i := by
  obtain ⟨c1, c2, c3, c4, c5, c6, c7, c8, c9⟩ := hC
  obtain ⟨n1, n2, n3, n4, n5, n6, n7, n8, n9, n10, n11⟩ := hN
  have hkn : kd v' (ct v) = k := by
    unfold kd
    rw [n3]
    show (nI k).toNatClampNeg = k
    rw [nI_clamp (by omega)]
  have hko : ∀ i, i ≠ ct v → kd v' i = kd v i := fun i hi => by unfold kd; rw [n2 i hi]
  refine ⟨⟨n5, Nat.le_refl _, by rw [n8 66 (by decide) (by decide)]; exact c3, c4, by omega, fun z => ?_, fun j hj => ?_, by unfold lx; rw [n10]; exact c8, by unfold TB tx lx; rw [n10]; exact c9⟩, hkn, hko⟩
  · rw [n6, hkn] at z
    have := h12 z
    omega
  · by_cases e : j = t
    · subst e
      have hjt := hlt j (Nat.le_refl _)
      rw [n7 j (by omega), n6, hkn, hko _ (by omega)]
      exact h2
    · have h1 := hlt j (by omega)
      have h2 := hlt (j + 1) (by omega)
      rw [n7 j (by omega), n7 (j + 1) (by omega), hko _ (by omega), hko _ (by omega)]
      exact c7 j (by omega)
theorem CB1.next {v v' : VS} {t n k : Nat} {ho li : Int32} (hC : CB1 v t t n) (hN : NwC v v' (nI k) ho li t) : lx v' = lx v ∧ tx v' = tx v ∧ lp v' = lp v ∧ ld v' = ld v := by
  obtain ⟨n1, n2, n3, n4, n5, n6, n7, n8, n9, n10, n11⟩ := hN
  exact ⟨by unfold lx; rw [n10], by unfold tx; rw [n10], n9 52 (by decide), n9 53 (by decide)⟩
/-- a container has been pushed -/
theorem RB_push {m m1 m5 : MS} {m0 : MS → Prop} {v' v'' v5 : VS} {μ : Nat → Nat} {B E' P h' k n bt : Nat} {D' : DL} {x4 : Int32} (hF : FrX m0 m) (h34 : m.1 34 = 0) (h5 : m.1 5 = -1) (hA : RA v'' m1 (muP v' μ B) (h' + 1) (h' + 2) (B + 1) E' D') (hk : kd v'' (vo v'' (h' + 1)) ≤ 3) (h12 : h' ≤ 11) (hG : BgR m m1 B P h' k n) (h64 : vi v'' 64 = nI (h' + 1)) (hV : VSame v'' v5) (hM : MSame m1 m5) (hi : ∀ j, j ≠ 31 → m5.1 j = m1.1 j) (ha : m5.2 = m1.2) (hL : LR v5 m5) : RB m0 v5 m5 (muP v' μ B) (h' + 1) (h' + 2) (B + 1) E' D' (h' + 1) bt x4 := by
  obtain ⟨g1, g2, g3, g4, _⟩ := hG
  have hRR : RR v'' m1 (muP v' μ B) (h' + 1) (h' + 2) (B + 1) E' D' := ⟨h64, Or.inr ⟨hA, Or.inl ⟨hk, rfl⟩⟩⟩
  have hkd : kd v5 (vo v5 (h' + 1)) = kd v'' (vo v'' (h' + 1)) := by unfold kd; rw [hV.2.1, hV.2.2.1]
  refine ⟨hRR.same hV hM, hL, by rw [hi 32 (by decide)]; exact g3, ?_, ?_, fun z => ?_, ?_, Or.inl ⟨by rw [hi 33 (by decide)]; exact g4, rfl, rfl⟩⟩
  · rw [hi 5 (by decide), g2, if_neg (fun z => by omega)]
    exact h5
  · rw [hi 34 (by decide), g1.1 34 (by decide) (by decide) (by decide) (by decide) (by decide) (by decide) (by decide) (by omega)]
    exact h34
  · rw [hkd] at z
    omega
  · have := g1.l
    exact hF.trans ⟨fun j q => (hi j (by omega)).trans (this.1 j q), fun j i q => by rw [ha]; exact this.2 j i q⟩
end KB
