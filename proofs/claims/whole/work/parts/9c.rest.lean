section KB
variable {K : Nat}
/-! the rest of a line -/
def RE (m0 : MS → Prop) (v : VS) (m : MS) (μ : Nat → Nat) (t o B E : Nat) (D : DL) : Prop := RR v m μ t o B E D ∧ FN v m μ t ∧ FrX m0 m ∧ m.1 5 = -1
theorem q_closeNo {X : CX} {a0 : Array Value} {c : CS} (F : cF X a0) {t : Nat} (h64 : vi c.1 64 = nI t) (h65 : vi c.1 65 = nI t) (ht : t ≤ 100) {N : CS → Prop} (hN : N c) : cE X 8 y_Rd_close [.ref (adr X 6)] c (cvP N) := by
  refine g_Rd_close F ?_
  unfold w_Rd_close_0
  rw [h64, h65, nI_ltI (by omega) (by omega)]
  exact ⟨fun z => by omega, fun _ => ⟨rfl, hN⟩⟩
theorem AdR.l {m m' : MS} {P b n : Nat} {os : List Int32} {L : Prop} (h : AdR m m' P b n os L) : FrL m m' ∧ m'.1 5 = m.1 5 ∧ ∀ k j, k ≠ 7 → k ≠ 17 → k ≠ 19 → m'.2 k j = m.2 k j := by
  obtain ⟨a1, ⟨b1, b2, b3, b4, b5, b6, b7⟩, a3, a4, a5⟩ := h
  exact ⟨⟨fun k q => a1 k (by omega) (by omega), fun k i q => b7 k i (by omega) (fun z => by omega)⟩, a1 5 (by decide) (by decide), fun k j q1 q2 q3 => b7 k j q1 (fun z => by omega)⟩
theorem vI_self (v : VS) (k : Nat) : vI v k (vi v k) = v := by
  obtain ⟨a, r⟩ := v
  unfold vI
  simp only [Prod.mk.injEq, and_true]
  funext j
  by_cases e : j = k
  · rw [if_pos e, e]
  · rw [if_neg e]
section REST
variable {X : CX} {Y : MX} {a0 a1 : Array Value} {c : CS} {m : MS} {m0 : MS → Prop} {μ : Nat → Nat} {t o B E h n bt : Nat} {D : DL} {x3 x4 x5 : Int32} {T0 : List Int32}
/-- the model, up to where the line goes -/
theorem d_187 (G : mF Y a1) {v : VS} (hB : RB m0 v m μ t o B E D h bt x4) (hh : h ≤ t) {Φ : Option Value → MS → Prop} (hA : h < t ∧ ¬ (lx v).length ≤ sA v ∧ kd v (vo v t) = 4 → bt = μ (vo v t) → bt < 3300 → mE Y 1 y_Mo_add [.ref (mo Y), .int (nI bt), .int (nI n)] m (vP fun m2 => Φ none m2)) (hn : ¬ (h < t ∧ ¬ (lx v).length ≤ sA v ∧ kd v (vo v t) = 4) → w_Mo_takeLine_243 Y (nI n) (nI bt) x3 x4 x5 m Φ) : w_Mo_takeLine_187 Y (nI n) (nI bt) x3 x4 x5 m Φ := by
  obtain ⟨b1, ⟨l1, l2, l3, l4⟩, b3, b4, b5, b6, b7, b8⟩ := hB
  have hlx := l1.2.2
  have hoo : o = t + 1 ∨ (o = t ∧ kd v (vo v t) ≠ 4) := by
    rcases b1.2 with z | z
    · exact Or.inl z.2.2.2.2.1
    · rcases z.2 with y | y
      · exact Or.inl y.2
      · exact Or.inr ⟨y.2, by omega⟩
  unfold w_Mo_takeLine_187
  refine ⟨fun _ => ⟨fun _ => ?_, fun z => absurd b4 z⟩, fun z => absurd b5 z⟩
  rcases b8 with ⟨z1, z2, z3⟩ | ⟨z1, z2, z3⟩
  · exact ⟨fun y => absurd (z1.symm.trans y) (by decide), fun _ => hn (fun y => by omega)⟩
  · refine ⟨fun _ => ?_, fun y => absurd z1 y⟩
    rcases z3 with ⟨y1, y2, y3, y4⟩ | ⟨y1, y2, y3⟩
    · refine ⟨fun _ => ?_, fun w => absurd y1 w⟩
      rw [l2]
      refine d_Mo_isBlank G l1 (by omega) ⟨fun c1 => ?_, fun c1 => hn (fun y => y.2.1 ?_)⟩
      · rw [vp_nI (by omega), nI_clamp (by omega)]
        refine ⟨z2, fun w => hA ⟨by omega, ?_, y3.mp w⟩ (y4 (y3.mp w)) z2, fun w => hn (fun y => w (y3.mpr y.2.2))⟩
        have := bI_0 c1
        unfold sA
        rw [l4]
        exact this
      · have := bI_n0 c1
        unfold sA
        rw [l4]
        exact this
    · refine ⟨fun w => absurd (y1.symm.trans w) (by decide), fun _ => hn (fun y => ?_)⟩
      omega
/-- a leaf at hand: it takes the line -/
theorem d_243l (G : mF Y a1) {v : VS} (hB : RB m0 v m μ t o B E D t bt x4) (hk : kd v (vo v t) = 4 ∨ kd v (vo v t) = 7) {Φ : Option Value → MS → Prop} (hA : mE Y 1 y_Mo_add [.ref (mo Y), .int (nI (μ (vo v t))), .int (nI n)] m (vP fun m2 => Φ none m2)) : w_Mo_takeLine_243 Y (nI n) (nI bt) x3 x4 x5 m Φ := by
  obtain ⟨e32, e29, hμ, e13, hk7, h40⟩ := hB.hand (Nat.le_refl _)
  unfold w_Mo_takeLine_243 w_Mo_takeLine_287
  rw [e32, nI_1]
  refine d_closeNone G hB.1.ro ?_
  rw [e32, vp_nI (by omega), nI_clamp (by omega), e29, vp_nI (by omega), nI_clamp (by omega), e13]
  refine ⟨h40, hμ, fun _ => hA, fun z => ⟨hμ, fun _ => hA, fun y => ?_⟩⟩
  exfalso
  rcases hk with w | w
  · exact y ((lit_eqJ (by decide) (by omega)).mpr w)
  · exact z ((lit_eqJ (by decide) (by omega)).mpr w)
/-- a container at hand -/
theorem d_243k (G : mF Y a1) {v2 v3 : VS} {h' : Nat} {D' : DL} (hB : RB m0 v2 m μ t o B E D h bt x4) (hh : h ≤ t) (hk3 : kd v2 (vo v2 h) ≤ 3) (hcl : h < t → ∀ M : MS → Prop, (∀ m' E', RA v3 m' μ h (h + 1) B E' D' → FrM m m' → M m') → mE Y 6 y_Mo_closeTo [.ref (mo Y), .int (nI (h + 1))] m (vP M)) (hl3 : lx v3 = lx v2) (hkd : kd v3 (vo v3 h) = kd v2 (vo v2 h)) {Φ : Option Value → MS → Prop}
    (hb : (lx v2).length ≤ sA v2 → ∀ m1 E1, (h < t → RA v3 m1 μ h (h + 1) B E1 D') → (h = t → m1 = m) → FrM m m1 → Φ none m1)
    (hn : ¬ (lx v2).length ≤ sA v2 → ∀ m1 E1, (h < t → RA v3 m1 μ h (h + 1) B E1 D') → (h = t → m1 = m) → FrM m m1 → mE Y 7 y_Mo_begin [.ref (mo Y), .int (nI 4), .int (nI n)] m1 (iP fun r3 m3 => mE Y 1 y_Mo_add [.ref (mo Y), .int r3, .int (nI n)] m3 (vP fun m4 => Φ none m4))) : w_Mo_takeLine_243 Y (nI n) (nI bt) x3 x4 x5 m Φ := by
  obtain ⟨e32, e29, hμ, e13, hk7, h40⟩ := hB.hand hh
  obtain ⟨l1, l2, l3, l4⟩ := hB.2.1
  have hlx := l1.2.2
  unfold w_Mo_takeLine_243
  rw [e32, nI_1]
  have hgo : ∀ m1 E1, (h < t → RA v3 m1 μ h (h + 1) B E1 D') → (h = t → m1 = m) → FrM m m1 → (vp_in (m1.1 32) 40 ∧ (vp_in (m1.2 29 (m1.1 32 : Int32).toNatClampNeg) 3300 ∧ ((m1.2 13 (m1.2 29 (m1.1 32 : Int32).toNatClampNeg : Int32).toNatClampNeg = 7 → w_Mo_takeLine_287 Y (nI n) (nI bt) x3 x4 x5 (m1.2 29 (m1.1 32 : Int32).toNatClampNeg) m1 Φ) ∧ (¬ m1.2 13 (m1.2 29 (m1.1 32 : Int32).toNatClampNeg : Int32).toNatClampNeg = 7 → (vp_in (m1.2 29 (m1.1 32 : Int32).toNatClampNeg) 3300 ∧ ((m1.2 13 (m1.2 29 (m1.1 32 : Int32).toNatClampNeg : Int32).toNatClampNeg = 4 → w_Mo_takeLine_287 Y (nI n) (nI bt) x3 x4 x5 (m1.2 29 (m1.1 32 : Int32).toNatClampNeg) m1 Φ) ∧ (¬ m1.2 13 (m1.2 29 (m1.1 32 : Int32).toNatClampNeg : Int32).toNatClampNeg = 4 → mE Y 0 y_Mo_isBlank [.ref (mo Y), .int (m1.1 31)] m1 (iP fun r2 m2 => ((r2 = 0 → mE Y 7 y_Mo_begin [.ref (mo Y), .int (4), .int (nI n)] m2 (iP fun r3 m3 => mE Y 1 y_Mo_add [.ref (mo Y), .int (r3), .int (nI n)] m3 (vP fun m4 => w_Mo_takeLine_323 Y (nI n) (nI bt) x3 x4 x5 (r3) m4 Φ))) ∧ (¬ r2 = 0 → w_Mo_takeLine_323 Y (nI n) (nI bt) x3 x4 x5 (m1.2 29 (m1.1 32 : Int32).toNatClampNeg) m2 Φ)))))))))) := by
    intro m1 E1 hA hS hF
    have f32 : m1.1 32 = nI h := (hF.1 32 (by decide) (by decide) (by decide) (by omega)).trans e32
    have f31 : m1.1 31 = nI (lp v2) := (hF.1 31 (by decide) (by decide) (by decide) (by omega)).trans l2
    have f29 : m1.2 29 h = nI (μ (vo v2 h)) := (hF.2 29 h (by decide) (by decide) (by decide) (by decide) (by decide) (by decide)).trans e29
    have f13 : m1.2 13 (μ (vo v2 h)) = nI (kd v2 (vo v2 h)) := (hF.2 13 _ (by decide) (by decide) (by decide) (by decide) (by decide) (by decide)).trans e13
    rw [f32, vp_nI (by omega), nI_clamp (by omega), f29, vp_nI (by omega), nI_clamp (by omega), f13, f31]
    refine ⟨h40, hμ, fun z => ?_, fun _ => ⟨hμ, fun z => ?_, fun _ => d_Mo_isBlank G (hF.l.line l1) (by omega) ⟨fun c1 => hn ?_ m1 E1 hA hS hF, fun c1 => hb ?_ m1 E1 hA hS hF⟩⟩⟩
    · have := (lit_eqJ (by decide) (by omega)).mp z
      omega
    · have := (lit_eqJ (by decide) (by omega)).mp z
      omega
    · have := bI_0 c1
      unfold sA
      rw [l4]
      exact this
    · have := bI_n0 c1
      unfold sA
      rw [l4]
      exact this
  by_cases q : h < t
  · exact hcl q _ (fun m1 E1 hA hF => hgo m1 E1 (fun _ => hA) (fun z => by omega) hF)
  · have e : h = t := by omega
    rw [e]
    refine d_closeNone G hB.1.ro ?_
    exact hgo m 0 (fun z => by omega) (fun _ => rfl) FrM.rfl
/-- a paragraph begins, from behind the closing -/
theorem d_begP (G : mF Y a1) {v2 v3 v4 : VS} {h' : Nat} {D' : DL} (hB : RB m0 v2 m μ t o B E D h bt x4) (hT : TC K Y v2 v3 μ t o B h h' n 4 D D') (hk3 : kd v2 (vo v2 h) ≤ 3) (hN : NwC v3 v4 (nI 4) (nI (vo v3 h')) (nI n) h') {m1 : MS} {E1 : Nat} (hA : h < t → RA v3 m1 μ h (h + 1) B E1 D') (hS : h = t → m1 = m) (hF : FrM m m1) {Ψ : Option Value → MS → Prop} (hΨ : ∀ m5 E5, RL v4 m5 (muP v3 μ B) (h' + 1) (h' + 2) (B + 1) E5 D' → kd v4 (ct v3) = 4 → BgR m1 m5 B ((tx v3).length + E5) h' 4 n → Ψ (some (.int (nI B))) m5) : mE Y 7 y_Mo_begin [.ref (mo Y), .int (nI 4), .int (nI n)] m1 Ψ := by
  have hT0 := hT
  obtain ⟨t1, t2, t3, t4, t5, t6, t7, t8, t9, t10, t11, t12, t13, t14, t15⟩ := hT
  have hht : h' ≤ h := by rcases t1 with z | z <;> omega
  by_cases q : h < t
  · have hA1 := hA q
    have h32 : m1.1 32 = nI h := (hF.1 32 (by decide) (by decide) (by decide) (by omega)).trans hB.2.2.1
    have hvx : ∀ i, kd (vI v3 64 (nI h)) i = kd v3 i := fun i => rfl
    have hk3' : kd v3 (vo v3 h) ≤ 3 := by rw [t5, t4]; exact hk3
    refine d_beg (v := vI v3 64 (nI h)) (v' := v3) (v'' := v4) (μ := μ) (t := h) (o := h + 1) (E := E1) (D := D') (D' := D') (h := h) (h' := h') G ⟨rfl, Or.inr ⟨hA1.vs rfl rfl rfl rfl, Or.inl ⟨hk3', rfl⟩⟩⟩ h32 (Nat.le_refl _) (by omega) ?_ ?_ ?_ rfl (fun _ => rfl) ?_ (by omega) (by omega) (by have := t12.2.2.2.1; omega) (by decide) (fun z => absurd z (by decide)) hN (fun m5 E5 _ hkd hRL hG => hΨ m5 E5 (hRL (Or.inl rfl)) hkd hG)
    · unfold StO at t1 ⊢
      rw [← t4] at t1
      rw [← t5] at t1
      exact t1
    · intro m2 E2 h2 M hR z1 z2 hM
      exact d_closeRA (v' := v3) G (hR.ra hk3').1 (Or.inl ⟨hk3', rfl⟩) z2 ⟨rfl, rfl, rfl, rfl, rfl, rfl⟩ (fun m' hA' hF' => hM m' E2 hA' hF')
    · intro e
      refine ⟨?_, rfl⟩
      rw [← e, ← t14]
      have := vI_self v3 64
      exact this.symm
    · intro j hj
      rw [hvx, hvx]
      show kd v3 (vo v3 j) = 2 → kd v3 (vo v3 (j + 1)) = 3
      rw [t4, t5, t5]
      exact t7 j (by omega)
  · have e := hS (by omega)
    rw [e]
    refine hT0.dbeg G hB (by decide) (fun z => absurd z (by decide)) hN (fun m5 E5 _ hkd hRL hG => hΨ m5 E5 (hRL (Or.inl rfl)) hkd ?_)
    rw [e]
    exact hG
end REST
end KB
