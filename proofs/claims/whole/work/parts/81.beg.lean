/-! the model's begin, against a class that has closed and pushed (or would push) -/
def ClS (Y : MX) (v v' : VS) (μ : Nat → Nat) (t o B h : Nat) (D D' : DL) : Prop := ∀ (m2 : MS) (E2 h2 : Nat) (M : MS → Prop), RR v m2 μ t o B E2 D → h ≤ h2 → h2 < t → (∀ m' E', RA v' m' μ h2 (h2 + 1) B E' D' → FrM m2 m' → M m') → mE Y 6 y_Mo_closeTo [.ref (mo Y), .int (nI (h2 + 1))] m2 (vP M)
/-- the child of a list that is open is an item -/
def LI (v : VS) (t : Nat) : Prop := ∀ k, k < t → kd v (vo v k) = 2 → kd v (vo v (k + 1)) = 3
/-- where a beginning of kind k goes -/
def StO (v : VS) (h h' k : Nat) : Prop := (h' = h ∧ kd v (vo v h) ≤ 3 ∧ ¬ (kd v (vo v h) = 2 ∧ k ≠ 3)) ∨ (h' + 1 = h ∧ (kd v (vo v h) = 4 ∨ (kd v (vo v h) = 2 ∧ k ≠ 3)))
/-- what begin leaves as it is -/
def FrB (m m' : MS) : Prop := (∀ k, k ≠ 5 → k ≠ 10 → k ≠ 28 → k ≠ 30 → k ≠ 32 → k ≠ 33 → k ≠ 40 → ¬ (47 ≤ k ∧ k ≤ 51) → m'.1 k = m.1 k) ∧ ∀ k i, k ≠ 7 → ¬ (41 ≤ k ∧ k ≤ 46) → ¬ (13 ≤ k ∧ k ≤ 27) → k ≠ 29 → m'.2 k i = m.2 k i
def BgR (m m' : MS) (B P h' k n : Nat) : Prop := FrB m m' ∧ m'.1 5 = (if (k ≤ 3 ∧ 12 ≤ h') ∧ m.1 5 = -1 then nI n else m.1 5) ∧ m'.1 32 = nI (h' + 1) ∧ m'.1 33 = 1 ∧ m'.1 10 = nI P ∧ m'.2 18 B = nI P ∧ m'.2 19 B = 0 ∧ m'.2 20 B = nI P ∧ m'.2 21 B = 0 ∧ m'.2 15 B = 0 ∧ m'.2 22 B = 0
theorem RR.ro {v : VS} {m : MS} {μ : Nat → Nat} {t o B E : Nat} {D : DL} (h : RR v m μ t o B E D) : RO v m μ t o := by
  rcases h.2 with z | z
  · exact z.2.2.1
  · exact z.1.2.2.1
theorem RR.rk {v : VS} {m : MS} {μ : Nat → Nat} {t o B E : Nat} {D : DL} (h : RR v m μ t o B E D) : RK v m μ ((tx v).length + E) := by
  rcases h.2 with z | z
  · exact z.2.1
  · exact z.1.2.1
theorem RR.rg {v : VS} {m : MS} {μ : Nat → Nat} {t o B E : Nat} {D : DL} (h : RR v m μ t o B E D) : RG v m μ B := by
  rcases h.2 with z | z
  · exact z.1
  · exact z.1.1
theorem RR.rt {v : VS} {m : MS} {μ : Nat → Nat} {t o B E : Nat} {D : DL} (h : RR v m μ t o B E D) : RT v m E D := by
  rcases h.2 with z | z
  · exact z.2.2.2.1
  · exact z.1.2.2.2.1
/-- a container at the tip -/
theorem RR.ra {v : VS} {m : MS} {μ : Nat → Nat} {t o B E : Nat} {D : DL} (h : RR v m μ t o B E D) (hk : kd v (vo v t) ≤ 3) : RA v m μ t (t + 1) B E D ∧ o = t + 1 := by
  rcases h.2 with z | z
  · have := z.2.2.2.2.2.1
    omega
  · rcases z.2 with y | y
    · exact ⟨y.2 ▸ z.1, y.2⟩
    · omega
section DBEG
variable {Y : MX} {a1 : Array Value} {m : MS}
theorem d_beg (G : mF Y a1) {v v' v'' : VS} {μ : Nat → Nat} {t o B E h h' k n : Nat} {D D' : DL} (hR : RR v m μ t o B E D) (h32 : m.1 32 = nI h) (hh : h ≤ t) (hho : h < o) (hst : StO v h h' k) (hcl : ClS Y v v' μ t o B h' D D') (hsm : h' = t → v' = v ∧ D' = D) (hvo : vo v' = vo v) (hkd : ∀ i, kd v' i = kd v i) (hLI : LI v t) (hB : B ≤ 3249) (ht : t ≤ 19) (hn : n ≤ 3001) (hk : 1 ≤ k ∧ k ≤ 7) (h3L : k = 3 → kd v (vo v h') = 2) (hC : NwC v' v'' (nI k) (nI (vo v' h')) (nI n) h') {Ψ : Option Value → MS → Prop}
    (hΨ : ∀ m' E', RA v'' m' (muP v' μ B) (h' + 1) (h' + 2) (B + 1) E' D' → kd v'' (ct v') = k → ((k = 4 ∨ k = 7) → RL v'' m' (muP v' μ B) (h' + 1) (h' + 2) (B + 1) E' D') → BgR m m' B ((tx v').length + E') h' k n → Ψ (some (.int (nI B))) m') : mE Y 7 y_Mo_begin [.ref (mo Y), .int (nI k), .int (nI n)] m Ψ := by
  have hRO := hR.ro
  have hRK := hR.rk
  have hRG := hR.rg
  have hht : h' ≤ t := by rcases hst with z | z <;> omega
  have hk3 : kd v' (vo v' h') ≤ 3 := by
    rw [hvo, hkd]
    by_cases e : h' < t
    · exact (hRO.2.2.2.2.2.2.1 h' e).2.2
    · rcases hst with z | z
      · rw [z.1]; exact z.2.1
      · omega
  have hno : ¬ (kd v' (vo v' h') = 2 ∧ k ≠ 3) := by
    rw [hvo, hkd]
    rcases hst with z | z
    · rw [z.1]; exact z.2.2
    · intro y
      have h3 := hLI h' (by omega) y.1
      rw [z.1] at h3
      rcases z.2 with w | w
      · omega
      · omega
  have hi := hRO.2.2.2.2.1 h hh
  have h13 : m.2 13 (μ (vo v h)) = nI (kd v (vo v h)) := by rw [(hRK _ hi).1.2.1]; exact (hRK _ hi).1.1.1
  have hμ := hRG.2.2.2.2.2.1 _ hi
  refine d_Mo_begin (v' := v') (μ := μ) (h := h) (h' := h') (D' := D') G hB hk h32 (by omega) hk3 hno ?_ ?_
  · rcases hst with ⟨e, z1, z2⟩ | ⟨e, z⟩
    · left
      refine ⟨e, fun M hM => ?_⟩
      by_cases q : h < t
      · exact hcl m E h M hR (by omega) q hM
      · have e2 : h = t := by omega
        obtain ⟨e3, e4⟩ := hsm (by omega)
        subst e3 e4
        rw [e2] at z1 hM ⊢
        exact d_closeNone G hRO (hM m E (hR.ra z1).1 FrM.rfl)
    · right
      refine ⟨e, fun M hM => ?_⟩
      by_cases q : h < t
      · have z2 : kd v (vo v h) = 2 ∧ k ≠ 3 := by
          rcases z with y | y
          · have := (hRO.2.2.2.2.2.2.1 h q).2.2
            omega
          · exact y
        refine hcl m E h M hR (by omega) q (fun m1 E' hA hF => ?_)
        obtain ⟨b, e1, e2, e3, e4, e5, e6⟩ := hA.opn (k := h) (Nat.le_refl _)
        rw [hvo, hkd, z2.1] at e3
        refine hM m1 b hF e1 e2 (Or.inr ⟨e3, z2.2⟩) (fun M2 hM2 => d_closeRA G hA (Or.inl ⟨?_, rfl⟩) (by omega) ⟨rfl, rfl, rfl, rfl, rfl, rfl⟩ (fun m2 hA2 hF2 => hM2 m2 E' hA2 hF2))
        rw [hvo, hkd, z2.1]
        decide
      · have e2 : h = t := by omega
        have hM' := hM m (μ (vo v h)) FrM.rfl (hRO.2.2.2.2.2.1 h hho) (by have := hRG.2.1; omega) ?_ (fun M2 hM2 => hcl m E h' M2 hR (Nat.le_refl _) (by omega) hM2)
        · rw [e2]
          exact d_closeNone G hRO hM'
        · rw [h13]
          rcases z with y | y
          · left
            rw [y]
            decide
          · right
            exact ⟨by rw [y.1]; rfl, y.2⟩
  · intro m2 m' E' hA hF h5 hN
    obtain ⟨p1, p2, p3⟩ := RA_push hA hk3 (fun z => by rw [hvo, hkd]; exact h3L z) (by omega) hB hk hn hC hN
    obtain ⟨m1, m2', m3, m4, m5, m6, m7, ⟨n13, n14, n15, n16, n17, n18, n19, n20, n21, n22, n23, n24, n25, n26, n27⟩, m9, m10, m11⟩ := hN
    refine hΨ m' E' p1 p2 p3 ⟨⟨fun j q1 q2 q3 q4 q5 q6 q7 q8 => (m1 j q3 q4 q5 q6).trans (hF.1 j q1 q2 q4 q5 q7 q8), fun j i q1 q2 q3 q4 => (m11 j i q3 q4).trans (hF.2 j i q1 q2 (by omega) (by omega) (by omega) (by omega))⟩, ?_, m4, m5, ?_, n18, n19, n20, n21, n15, n22⟩
    · rw [m1 5 (by decide) (by decide) (by decide) (by decide)]
      exact h5
    · rw [m1 10 (by decide) (by decide) (by decide) (by decide)]
      exact hA.2.2.2.1.2.1
end DBEG
/-- there is such a state -/
theorem NwC_ex (v : VS) (k ho li : Int32) (t : Nat) : ∃ v', NwC v v' k ho li t := by
  refine ⟨(fun j => if j = 64 ∨ j = 65 then nI (t + 1) else vi v j, fun j => if j = 23 then ct v + 1 else vn v j, vr v, fun i f => if i = ct v then begG k (nI (ct v)) ho li (nI (tx v).length) f else vb v i f, fun j => if j = t + 1 then ct v else vo v j, vy v), rfl, fun i hi => ?_, fun f => if_pos rfl, rfl, rfl, if_pos rfl, fun j hj => if_neg hj, fun j h1 h2 => if_neg (fun z => by omega), fun j hj => if_neg hj, rfl, rfl⟩
  funext f
  exact if_neg hi
