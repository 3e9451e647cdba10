/-! the askers: class and model -/
theorem nI_cl {x : Int32} (h : ¬ x < 0) : x = nI x.toNatClampNeg ∧ x.toNatClampNeg < 2 ^ 31 := by
  have h0 : 0 ≤ x.toInt := by
    have e : (0 : Int32).toInt = 0 := rfl
    apply Decidable.byContradiction
    intro q
    apply h
    rw [Int32.lt_iff_toInt_lt, e]
    omega
  have h1 : x.toInt < 2 ^ 31 := x.toInt_lt
  have e : x.toNatClampNeg = x.toInt.toNat := rfl
  have hb : x.toNatClampNeg < 2 ^ 31 := by rw [e]; omega
  refine ⟨?_, hb⟩
  apply Int32.toInt_inj.mp
  rw [nI_toInt hb, e]
  omega
/-- tape and ready -/
def TPR (v : VS) (m : MS) : Prop := m.1 3 = nI (vr v 1).length ∧ (vr v 1).length ≤ 3000 ∧ (∀ k, k < (vr v 1).length → (m.2 1 k) &&& 255 = rowAt (vr v 1) (nI k)) ∧ ∀ k, k < 20 → (m.2 2 k) &&& 255 = vy v k
/-- between two calls of the law -/
def REL (c : CS) (m : MS) : Prop := TPR c.1 m ∧ (NmC m ∧ vo c.1 0 = 0) ∧ ct c.1 ≤ c.2.2 ∧ vi c.1 7 = m.1 5 ∧ ((m.1 4 = 0 ∧ ct c.1 = 0 ∧ vr c.1 12 = [] ∧ vr c.1 13 = [] ∧ vi c.1 6 = 0) ∨ (m.1 4 = 1 ∧ vi c.1 6 = m.1 6 ∧ ∃ D, RFin c.1 m D))
theorem REL.z {c : CS} {m : MS} (h : REL c m) (x : Int32) : REL c (mI m 0 x) := by
  obtain ⟨h1, h2, h3, h4, h5⟩ := h
  refine ⟨h1, h2, h3, h4, ?_⟩
  rcases h5 with z | z
  · exact Or.inl z
  · exact Or.inr z
section ASK
variable {X : CX} {Y : MX} {a0 a1 : Array Value} {c : CS} {m : MS}
theorem a_fault (F : cF X a0) (G : mF Y a1) (h : REL c m) : ∃ R, cE X 0 y_MB_fault [.ref (adr X 0)] c (ciP fun r c' => r = R ∧ c' = c) ∧ mE Y 0 y_Mo_fault [.ref (mo Y)] m (iP fun r m' => r = R ∧ m' = mI m 0 0) := by
  refine ⟨vi c.1 7, q_MB_fault F ⟨rfl, rfl⟩, g_Mo_fault G ?_⟩
  unfold w_Mo_fault_0
  intro m1 e1
  rw [e1]
  exact iP.i ⟨h.2.2.2.1.symm, rfl⟩ rfl
theorem a_about (F : cF X a0) (G : mF Y a1) (h : REL c m) (x : Int32) : ∃ R, cE X 1 y_MB_about [.ref (adr X 0), .int x] c (ciP fun r c' => r = R ∧ c' = c) ∧ mE Y 0 y_Mo_about [.ref (mo Y), .int x] m (iP fun r m' => r = R ∧ m' = mI m 0 0) := by
  obtain ⟨⟨t1, t2, t3, t4⟩, h2, h3, h4, h5⟩ := h
  refine ⟨if x = 0 then nI (vr c.1 1).length else if x = 1 then nI (ct c.1) else if x = 2 then vi c.1 6 else -1, g_MB_about F ⟨fun z => ?_, fun z => ?_, fun z => ?_, fun z => ?_⟩, g_Mo_about G ?_⟩
  · refine ciP.i ⟨?_, rfl⟩ rfl
    have n0 : x ≠ 0 := fun e => by rw [e] at z; exact absurd z (by decide)
    have n1 : x ≠ 1 := fun e => by rw [e] at z; exact absurd z (by decide)
    have n2 : x ≠ 2 := fun e => by rw [e] at z; exact absurd z (by decide)
    rw [if_neg n0, if_neg n1, if_neg n2]
  · refine q_Row_size F (Or.inl rfl) (ciP.i ⟨?_, rfl⟩ rfl)
    rw [if_pos z]
  · refine q_Tree_size F (ciP.i ⟨?_, rfl⟩ rfl)
    rw [z]
    rfl
  · refine ciP.i ⟨?_, rfl⟩ rfl
    rw [z]
    rfl
  · unfold w_Mo_about_0 w_Mo_about_63
    intro m1 e1
    rw [e1]
    show ((x = 0 → iP _ (some (.int (m.1 3))) _) ∧ (¬ x = 0 → ((x = 1 → ((m.1 4 = 0 → iP _ (some (.int 0)) _) ∧ (¬ m.1 4 = 0 → iP _ (some (.int (m.1 39))) _))) ∧ (¬ x = 1 → ((x = 2 → ((m.1 4 = 0 → iP _ (some (.int 0)) _) ∧ (¬ m.1 4 = 0 → iP _ (some (.int (m.1 6))) _))) ∧ (¬ x = 2 → iP _ (some (.int (-1))) _))))))
    refine ⟨fun z => iP.i ⟨?_, rfl⟩ rfl, fun z => ⟨fun z1 => ⟨fun z2 => iP.i ⟨?_, rfl⟩ rfl, fun z2 => iP.i ⟨?_, rfl⟩ rfl⟩, fun z1 => ⟨fun z3 => ⟨fun z2 => iP.i ⟨?_, rfl⟩ rfl, fun z2 => iP.i ⟨?_, rfl⟩ rfl⟩, fun z3 => iP.i ⟨?_, rfl⟩ rfl⟩⟩⟩
    · rw [if_pos z, t1]
    · rw [if_neg z, if_pos z1]
      rcases h5 with y | y
      · rw [y.2.1]; rfl
      · exact absurd (y.1.symm.trans z2) (by decide)
    · rw [if_neg z, if_pos z1]
      rcases h5 with y | y
      · exact absurd y.1 z2
      · obtain ⟨D, μ, P, _, _, q, _⟩ := y.2.2
        exact q
    · rw [if_neg z, if_neg z1, if_pos z3]
      rcases h5 with y | y
      · exact y.2.2.2.2.symm
      · exact absurd (y.1.symm.trans z2) (by decide)
    · rw [if_neg z, if_neg z1, if_pos z3]
      rcases h5 with y | y
      · exact absurd y.1 z2
      · exact y.2.1.symm
    · rw [if_neg z, if_neg z1, if_neg z3]
/-- is there a block x? -/
theorem d_isBlock (G : mF Y a1) (h : REL c m) {x : Int32} {N : Int32 → MS → Prop} (h0 : (x < 0 ∨ nI (ct c.1) ≤ x) → N 0 m) (h1 : ¬ (x < 0 ∨ nI (ct c.1) ≤ x) → m.1 4 = 1 → N 1 m) : mE Y 0 y_Mo_isBlock [.ref (mo Y), .int x] m (iP N) := by
  refine g_Mo_isBlock G ?_
  unfold w_Mo_isBlock_0 w_Mo_isBlock_23 w_Mo_isBlock_24
  rcases h.2.2.2.2 with y | y
  · have hall : x < 0 ∨ nI (ct c.1) ≤ x := by
      by_cases z : x < 0
      · exact Or.inl z
      · right
        rw [y.2.1, (nI_cl z).1, nI_leI (by decide) (nI_cl z).2]
        exact Nat.zero_le _
    rw [y.1]
    exact ⟨fun _ => ⟨mZ0, iP.i (h0 hall) rfl⟩, fun z => absurd rfl z⟩
  · obtain ⟨y1, y2, D, μ, P, q1, q2, q3, q4⟩ := y
    rw [y1, q3]
    exact ⟨fun z => absurd z (by decide), fun _ => ⟨fun z => ⟨mZ0, iP.i (h0 (Or.inl z)) rfl⟩, fun z => ⟨fun z2 => ⟨mZ0, iP.i (h0 (Or.inr z2)) rfl⟩, fun z2 => ⟨mZ1, iP.i (h1 (fun w => by
      rcases w with w | w
      · exact z w
      · exact z2 w) y1) rfl⟩⟩⟩⟩
/-- what a block tells -/
theorem d_block (G : mF Y a1) (h : REL c m) (x1 x2 : Int32) {N : Int32 → MS → Prop} (hN : N (if x1 < 0 ∨ nI (ct c.1) ≤ x1 then -1 else tellG (vb c.1 x1.toNatClampNeg) x2) (mI m 0 0)) : mE Y 1 y_Mo_block [.ref (mo Y), .int x1, .int x2] m (iP N) := by
  refine g_Mo_block G ?_
  unfold w_Mo_block_0
  intro m1 e1
  have hz := h.z 0
  rw [← e1] at hz hN
  refine d_isBlock G hz (fun z => ⟨fun _ => ?_, fun y => absurd rfl y⟩) (fun z z4 => ⟨fun y => absurd y (by decide), fun _ => ?_⟩)
  · rw [if_pos z] at hN
    exact iP.i hN rfl
  rw [if_neg z] at hN
  have hx0 : ¬ x1 < 0 := fun y => z (Or.inl y)
  obtain ⟨ex, hxl⟩ := nI_cl hx0
  generalize hi : x1.toNatClampNeg = i at *
  rw [ex]
  rw [ex] at z
  rcases hz.2.2.2.2 with y | y
  · exact absurd (z4.symm.trans y.1) (by decide)
  obtain ⟨_, _, D, μ, P, ⟨q1, q2, q3, q4⟩, q5, q6, q7, _⟩ := y
  have hic : i < ct c.1 := by
    apply Decidable.byContradiction
    intro w
    apply z
    right
    rw [nI_leI (by omega) (by omega)]
    omega
  obtain ⟨p1, p2, p3⟩ := q5 i hic
  obtain ⟨⟨⟨b1, b2, b3⟩, b4, b5, ⟨b6, b7⟩, ⟨b8, b9⟩, ⟨b10, b11⟩, ⟨b12, b13⟩, b14, b15⟩, hI, hT⟩ := q7 i hic
  have hk7 := b2
  unfold w_Mo_block_106 w_Mo_block_119 w_Mo_block_129 w_Mo_block_144 w_Mo_block_158 w_Mo_block_168 w_Mo_block_186 w_Mo_block_217 w_Mo_block_231 w_Mo_block_241
  rw [vp_nI (by omega), p2, vp_nI (by omega), nI_clamp (by omega), b3]
  have hlt : i < 3300 := by omega
  have hμl : μ i < 3300 := by omega
  have hl4 : nI (kd c.1 i) < (4 : Int32) ↔ kd c.1 i < 4 := lit_ltJ (by decide) (by omega)
  have e2 : nI (kd c.1 i) = (2 : Int32) ↔ kd c.1 i = 2 := lit_eqJ (by decide) (by omega)
  have e3 : nI (kd c.1 i) = (3 : Int32) ↔ kd c.1 i = 3 := lit_eqJ (by decide) (by omega)
  have e5 : nI (kd c.1 i) = (5 : Int32) ↔ kd c.1 i = 5 := lit_eqJ (by decide) (by omega)
  have e6 : nI (kd c.1 i) = (6 : Int32) ↔ kd c.1 i = 6 := lit_eqJ (by decide) (by omega)
  have e7 : nI (kd c.1 i) = (7 : Int32) ↔ kd c.1 i = 7 := lit_eqJ (by decide) (by omega)
  have hz0 : (nI (μ i) = (0 : Int32)) ↔ μ i = 0 := nI_eq (by omega) (by decide)
  refine ⟨hlt, hμl, fun w => iP.i hN ?_, fun w => iP.i hN ?_, fun w => ⟨fun w1 => iP.i hN ?_, fun w1 => ⟨hμl, ?_⟩⟩, fun w => ⟨fun w1 => ⟨hμl, iP.i hN ?_⟩, fun w1 => ⟨fun w2 => ⟨hμl, iP.i hN ?_⟩, fun w2 => iP.i hN ?_⟩⟩, fun w => ⟨hμl, fun w1 => iP.i hN ?_, fun w1 => iP.i hN ?_⟩, fun w => ⟨fun w1 => iP.i hN ?_, fun w1 => ⟨fun w2 => iP.i hN ?_, fun w2 => ⟨hμl, iP.i hN ?_⟩⟩⟩, fun w => ⟨fun w1 => ⟨hμl, iP.i hN ?_⟩, fun w1 => iP.i hN ?_⟩, fun w => ⟨hμl, iP.i hN ?_⟩, fun w => ⟨hμl, iP.i hN ?_⟩, fun w => ⟨fun w1 => ⟨hμl, iP.i hN ?_⟩, fun w1 => iP.i hN ?_⟩, fun w => ⟨fun w1 => ⟨hμl, iP.i hN ?_⟩, fun w1 => ⟨fun w2 => ⟨hμl, iP.i hN ?_⟩, fun w2 => iP.i hN ?_⟩⟩⟩
  · unfold tellG
    rw [if_pos w]
  · rw [w]
    exact b1.symm
  · rw [w]
    have : i = 0 := by
      apply Decidable.byContradiction
      intro q
      have := (b5 (by omega)).1
      have := hz0.mp w1
      omega
    exact (b4 this).1.symm
  · have hi0 : 0 < i := by
      apply Decidable.byContradiction
      intro q
      exact w1 (hz0.mpr (b4 (by omega)).2)
    obtain ⟨_, u, u1, u2, u3⟩ := b5 hi0
    have hu := q5 u (by omega)
    rw [u3, vp_nI (by omega), nI_clamp (by omega)]
    refine ⟨by omega, iP.i hN ?_⟩
    rw [w, hu.2.2]
    exact u2.symm
  · rw [w]; exact b6.symm
  · rw [w]; exact b6.symm
  · rw [w]; exact (b7 (fun q => w2 (e2.mpr q)) (fun q => w1 (e5.mpr q))).symm
  · rw [w]
    show (0 : Int32) = vb c.1 i 4
    rw [b8, w1]
  · rw [w]
    show (1 : Int32) = vb c.1 i 4
    rcases b9 with q | q
    · exact absurd (b8.symm.trans q) w1
    · exact q.symm
  · rw [w]
    exact (hT.2 (fun q => by have := hl4.mp w1; omega)).symm
  · rw [w]
    exact (hT.2 (fun q => by have := e6.mp w2; omega)).symm
  · rw [w]
    have h4 : ¬ kd c.1 i < 4 := fun q => w1 (hl4.mpr q)
    have h6 : ¬ kd c.1 i = 6 := fun q => w2 (e6.mpr q)
    obtain ⟨a, n, wt, y1, y2, y3, y4, _⟩ := hT.1 (by omega)
    show _ = vb c.1 i 6
    rw [y2, y4]
  · rw [w]
    obtain ⟨a, n, wt, y1, y2, y3, y4, _⟩ := hI.1 (e7.mp w1)
    show _ = vb c.1 i 8
    rw [y2, y4]
  · rw [w]
    exact (hI.2 (fun q => w1 (e7.mpr q))).symm
  · rw [w]; exact b10.symm
  · rw [w]; exact b11.symm
  · rw [w]; exact (b12 (e3.mp w1)).symm
  · rw [w]; exact (b13 (fun q => w1 (e3.mpr q))).symm
  · rw [w]; exact (b14 (by have := e2.mp w1; omega)).symm
  · rw [w]; exact (b14 (by have := e7.mp w2; omega)).symm
  · rw [w]; exact (b15 (fun q => w1 (e2.mpr q)) (fun q => w2 (e7.mpr q))).symm
theorem tree_at (F : cF X a0) (h : REL c m) {x : Int32} {N0 : CS → Prop} {N : Nat → CS → Prop} (h0 : (x < 0 ∨ nI (ct c.1) ≤ x) → N0 c) (h1 : ∀ i, x = nI i → i < ct c.1 → ¬ (x < 0 ∨ nI (ct c.1) ≤ x) → x.toNatClampNeg = i → N (c.2.1 i) c) : cE X 3 y_Tree_at [.ref (adr X 2), .int x] c (cnP N0 N) := by
  refine q_Tree_at F h0 (fun z => ?_)
  have hx0 : ¬ x < 0 := fun y => z (Or.inl y)
  obtain ⟨ex, hxl⟩ := nI_cl hx0
  refine h1 x.toNatClampNeg ex ?_ z rfl
  have hc : ct c.1 ≤ 3250 := by
    rcases h.2.2.2.2 with y | ⟨_, _, D, μ, P, ⟨q1, q2, q3, q4⟩, _⟩
    · omega
    · exact q2
  apply Decidable.byContradiction
  intro w
  apply z
  right
  have e23 : vn c.1 23 = ct c.1 := rfl
  rw [ex, nI_leI (by omega) (by omega)]
  omega
theorem a_block (F : cF X a0) (G : mF Y a1) (h : REL c m) (x1 x2 : Int32) : ∃ R, cE X 4 y_MB_block [.ref (adr X 0), .int x1, .int x2] c (ciP fun r c' => r = R ∧ c' = c) ∧ mE Y 1 y_Mo_block [.ref (mo Y), .int x1, .int x2] m (iP fun r m' => r = R ∧ m' = mI m 0 0) := by
  refine ⟨_, g_MB_block F ?_, d_block G h x1 x2 ⟨rfl, rfl⟩⟩
  unfold w_MB_block_0 w_MB_block_22
  have hN := h.2.2.1
  refine tree_at F h (fun z => ciP.i ⟨?_, rfl⟩ rfl) (fun i e hi z ei => ⟨i, ⟨by omega, rfl⟩, q_Block_tell F (by omega) (ciP.i ⟨?_, rfl⟩ rfl)⟩)
  · rw [if_pos z]
  · rw [if_neg z, ei]
end ASK
