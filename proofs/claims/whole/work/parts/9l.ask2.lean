/-! letters, definitions -/
section ASK2
variable {X : CX} {Y : MX} {a0 a1 : Array Value} {c : CS} {m : MS}
theorem a_letter (F : cF X a0) (G : mF Y a1) (h : REL c m) (x1 x2 x3 : Int32) : ∃ R, cE X 4 y_MB_letter [.ref (adr X 0), .int x1, .int x2, .int x3] c (ciP fun r c' => r = R ∧ c' = c) ∧ mE Y 2 y_Mo_letter [.ref (mo Y), .int x1, .int x2, .int x3] m (iP fun r m' => r = R ∧ m' = mI m 0 0) := by
  have hN := h.2.2.1
  -- which part
  have hS : ∀ i, i < ct c.1 → ∃ (m18 : Nat) (μi : Nat), m.1 4 = 1 ∧ m.2 37 i = nI μi ∧ μi < 3300 ∧ ∃ n, n ≤ 12010 ∧ (vb c.1 i (if x2 = 0 then 6 else 8) = nI n) ∧ (0 < n → ∃ a w, vb c.1 i (if x2 = 0 then 5 else 7) = nI a ∧ m.2 (if x2 = 0 then 18 else 20) μi = nI w ∧ a + n ≤ 12010 ∧ w + n ≤ 24020 ∧ ∀ k, k < n → m.2 7 (k + w) = tA (tx c.1) (a + k)) := by
    intro i hi
    rcases h.2.2.2.2 with y | ⟨y1, y2, D, μ, P, ⟨q1, q2, q3, q4⟩, q5, q6, q7, _⟩
    · omega
    · obtain ⟨p1, p2, p3⟩ := q5 i hi
      obtain ⟨_, hI, hT⟩ := q7 i hi
      refine ⟨0, μ i, y1, p2, by omega, ?_⟩
      by_cases e : x2 = 0
      · simp only [if_pos e]
        by_cases k : kd c.1 i = 4 ∨ kd c.1 i = 5 ∨ kd c.1 i = 7
        · obtain ⟨a, n, w, z1, z2, z3, z4, z5, z6, z7⟩ := hT.1 k
          exact ⟨n, by omega, z2, fun _ => ⟨a, w, z1, z3, by omega, by omega, z7⟩⟩
        · exact ⟨0, by omega, hT.2 k, fun z => absurd z (by decide)⟩
      · simp only [if_neg e]
        by_cases k : kd c.1 i = 7
        · obtain ⟨a, n, w, z1, z2, z3, z4, z5, z6, z7⟩ := hI.1 k
          exact ⟨n, by omega, z2, fun _ => ⟨a, w, z1, z3, by omega, by omega, z7⟩⟩
        · exact ⟨0, by omega, hI.2 k, fun z => absurd z (by decide)⟩
  -- the answer
  obtain ⟨R, hRd⟩ : ∃ R : Int32, R = if x3 < 0 then -1 else if x1 < 0 ∨ nI (ct c.1) ≤ x1 then -1 else if x3 < vb c.1 x1.toNatClampNeg (if x2 = 0 then 6 else 8) then rowAt (tx c.1) (vb c.1 x1.toNatClampNeg (if x2 = 0 then 5 else 7) + x3) else -1 := ⟨_, rfl⟩
  refine ⟨R, g_MB_letter F ?_, g_Mo_letter G ?_⟩
  · unfold w_MB_letter_0 w_MB_letter_37 w_MB_letter_40 w_MB_letter_66
    refine tree_at F h (fun z => ciP.i ⟨?_, rfl⟩ rfl) (fun i e hi z ei => ⟨fun w => ciP.i ⟨?_, rfl⟩ rfl, fun w => ⟨fun e2 => ⟨i, ⟨by omega, rfl⟩, fun q => ⟨fun _ => ⟨i, ⟨by omega, rfl⟩, q_Row_at F isR10 (ciP.i ⟨?_, rfl⟩ rfl)⟩, fun y => absurd e2 y⟩, fun q => ciP.i ⟨?_, rfl⟩ rfl⟩, fun e2 => ⟨i, ⟨by omega, rfl⟩, fun q => ⟨fun y => absurd y e2, fun _ => ⟨i, ⟨by omega, rfl⟩, q_Row_at F isR10 (ciP.i ⟨?_, rfl⟩ rfl)⟩⟩, fun q => ciP.i ⟨?_, rfl⟩ rfl⟩⟩⟩)
    · rw [hRd]
      by_cases w : x3 < 0
      · rw [if_pos w]
      · rw [if_neg w, if_pos z]
    · rw [hRd]
      rw [if_pos w]
    · rw [hRd]
      rw [if_neg w, if_neg z, ei, if_pos e2, if_pos e2, if_pos q]
    · rw [hRd]
      rw [if_neg w, if_neg z, ei, if_pos e2, if_pos e2, if_neg q]
    · rw [hRd]
      rw [if_neg w, if_neg z, ei, if_neg e2, if_neg e2, if_pos q]
    · rw [hRd]
      rw [if_neg w, if_neg z, ei, if_neg e2, if_neg e2, if_neg q]
  · unfold w_Mo_letter_0
    intro m1 e1
    have hz := h.z 0
    rw [← e1] at hz
    unfold w_Mo_letter_27
    have hgo : ¬ x3 < 0 → ∀ (s3 : Int32), s3 = (if x2 = 0 then 4 else 5) → w_Mo_letter_21 Y x1 x2 x3 x3 x1 s3 m1 (iP fun r m' => r = R ∧ m' = mI m 0 0) := by
      intro w s3 hs3
      unfold w_Mo_letter_21 w_Mo_letter_27 w_Mo_letter_62
      refine d_block G hz x1 s3 ?_
      have em : mI m1 0 0 = mI m 0 0 := by rw [e1, mI_mI]
      rw [em]
      by_cases z : x1 < 0 ∨ nI (ct c.1) ≤ x1
      · rw [if_pos z]
        refine ⟨fun q => absurd ?_ w, fun _ => iP.i ⟨?_, rfl⟩ rfl⟩
        · exact Int32.lt_trans q (by decide)
        · rw [hRd]
          rw [if_neg w, if_pos z]
      · rw [if_neg z]
        have ht : tellG (vb c.1 x1.toNatClampNeg) s3 = vb c.1 x1.toNatClampNeg (if x2 = 0 then 6 else 8) := by
          rw [hs3]
          by_cases e2 : x2 = 0
          · rw [if_pos e2, if_pos e2]; rfl
          · rw [if_neg e2, if_neg e2]; rfl
        rw [ht]
        have hx0 : ¬ x1 < 0 := fun y => z (Or.inl y)
        obtain ⟨ex, hxl⟩ := nI_cl hx0
        obtain ⟨ex3, hx3⟩ := nI_cl w
        have hic : x1.toNatClampNeg < ct c.1 := by
          apply Decidable.byContradiction
          intro q
          apply z
          right
          rcases h.2.2.2.2 with y | ⟨_, _, D, μ, P, ⟨q1, q2, q3, q4⟩, _⟩
          · rw [ex, nI_leI (by omega) (by omega)]
            omega
          · rw [ex, nI_leI (by omega) (by omega)]
            omega
        obtain ⟨_, μi, h4, h37, hμ, n, hn, h6, hsl⟩ := hS _ hic
        have hcl : ct c.1 ≤ 3250 := by
          rcases h.2.2.2.2 with y | ⟨_, _, D, μ, P, ⟨q1, q2, q3, q4⟩, _⟩
          · omega
          · exact q2
        have hR : R = (if x3 < vb c.1 x1.toNatClampNeg (if x2 = 0 then 6 else 8) then rowAt (tx c.1) (vb c.1 x1.toNatClampNeg (if x2 = 0 then 5 else 7) + x3) else -1) := by
          rw [hRd, if_neg w, if_neg z]
        generalize hi : x1.toNatClampNeg = i at *
        generalize hk : x3.toNatClampNeg = k at *
        rw [h6, ex3] at hR
        rw [ex, h6, ex3]
        rw [nI_ltI (by omega) (by omega), vp_nI (by omega)]
        show ((k < n → (i < 3300 ∧ ((x2 = 0 → (vp_in (m.2 37 i) 3300 ∧ (vp_in (m.2 18 (m.2 37 i : Int32).toNatClampNeg + nI k) 48000 ∧ iP _ (some (.int (m.2 7 (m.2 18 (m.2 37 i : Int32).toNatClampNeg + nI k : Int32).toNatClampNeg))) _))) ∧ (¬ x2 = 0 → (vp_in (m.2 37 i) 3300 ∧ (vp_in (m.2 20 (m.2 37 i : Int32).toNatClampNeg + nI k) 48000 ∧ iP _ (some (.int (m.2 7 (m.2 20 (m.2 37 i : Int32).toNatClampNeg + nI k : Int32).toNatClampNeg))) _)))))) ∧ (¬ k < n → iP _ (some (.int (-1))) _))
        rw [h37, vp_nI (by omega), nI_clamp (by omega)]
        have hlt : (nI k < nI n) ↔ k < n := nI_ltI (by omega) (by omega)
        refine ⟨fun q => ⟨by omega, fun e2 => ⟨hμ, ?_⟩, fun e2 => ⟨hμ, ?_⟩⟩, fun q => iP.i ⟨?_, rfl⟩ rfl⟩
        · obtain ⟨a, w', z1, z3, z5, z6, z7⟩ := hsl (by omega)
          rw [if_pos e2] at z1 z3
          rw [z3, nI_add, vp_nI (by omega), nI_clamp (by omega)]
          refine ⟨by omega, iP.i ⟨?_, rfl⟩ rfl⟩
          rw [hR, if_pos (hlt.mpr q), if_pos e2, z1, nI_add, show w' + k = k + w' by omega, z7 k q]
        · obtain ⟨a, w', z1, z3, z5, z6, z7⟩ := hsl (by omega)
          rw [if_neg e2] at z1 z3
          rw [z3, nI_add, vp_nI (by omega), nI_clamp (by omega)]
          refine ⟨by omega, iP.i ⟨?_, rfl⟩ rfl⟩
          rw [hR, if_pos (hlt.mpr q), if_neg e2, z1, nI_add, show w' + k = k + w' by omega, z7 k q]
        · rw [hR, if_neg (fun y => q (hlt.mp y))]
    refine ⟨fun z => ?_, fun w => ⟨fun e2 => hgo w 4 (by rw [if_pos e2]), fun e2 => hgo w 5 (by rw [if_neg e2])⟩⟩
    rw [e1]
    refine iP.i ⟨?_, rfl⟩ rfl
    rw [hRd]
    rw [if_pos z]
/-- the definitions that both have -/
def DfD (c : CS) (m : MS) (D : DL) (P : Nat) : Prop := vr c.1 12 = flatD D ∧ vr c.1 13 = endsD 0 D ∧ (flatD D).length ≤ 12010 ∧ 5 * D.length ≤ 3000 ∧ P ≤ 24020 ∧ ((m.1 4 = 0 ∧ D = []) ∨ (m.1 4 = 1 ∧ DsM m D P ∧ m.1 10 = nI P))
theorem REL.df (h : REL c m) : ∃ D P, DfD c m D P := by
  rcases h.2.2.2.2 with ⟨y1, y2, y3, y4, y5⟩ | ⟨y1, y2, D, μ, P, ⟨q1, q2, q3, q4⟩, q5, q6, q7, q8, q9, q10, q11, q12, q13⟩
  · exact ⟨[], 0, y3, y4, by decide, by decide, by decide, Or.inl ⟨y1, rfl⟩⟩
  · exact ⟨D, P, q9, q10, q11, q12, q3, Or.inr ⟨y1, q8, q13⟩⟩
theorem a_definitions (F : cF X a0) (G : mF Y a1) (h : REL c m) : ∃ R, cE X 2 y_MB_definitions [.ref (adr X 0)] c (ciP fun r c' => r = R ∧ c' = c) ∧ mE Y 0 y_Mo_definitions [.ref (mo Y)] m (iP fun r m' => r = R ∧ m' = mI m 0 0) := by
  obtain ⟨D, P, d1, d2, d3, d4, d5, d6⟩ := h.df
  refine ⟨nI D.length, g_MB_definitions F (q_Lab_size F ⟨d2, by omega⟩ (ciP.i ⟨rfl, rfl⟩ rfl)), g_Mo_definitions G ?_⟩
  unfold w_Mo_definitions_0 w_Mo_definitions_20
  intro m1 e1
  rw [e1]
  show ((m.1 4 = 0 → iP _ (some (.int 0)) _) ∧ (¬ m.1 4 = 0 → iP _ (some (.int (m.1 40))) _))
  rcases d6 with ⟨y1, y2⟩ | ⟨y1, y2, y3⟩
  · rw [y1, y2]
    exact ⟨fun _ => iP.i ⟨rfl, rfl⟩ rfl, fun z => absurd rfl z⟩
  · rw [y1, y2.1]
    exact ⟨fun z => absurd z (by decide), fun _ => iP.i ⟨rfl, rfl⟩ rfl⟩
/-- the answer of definition -/
noncomputable def dfA (D : DL) (x1 x2 : Int32) : Int32 := if x1 < 0 ∨ nI D.length ≤ x1 ∨ x2 < 0 ∨ ¬ x2 < 3 then -1 else nI (prt (dA D x1.toNatClampNeg) x2.toNatClampNeg).length
theorem i3 {x : Int32} (h0 : ¬ x < 0) (h3 : x < 3) : x.toNatClampNeg < 3 ∧ x = nI x.toNatClampNeg := by
  obtain ⟨e, hl⟩ := nI_cl h0
  refine ⟨?_, e⟩
  rw [e] at h3
  have := (lit_ltJ (a := 3) (by decide) hl).mp h3
  exact this
theorem q_partLength (F : cF X a0) {D : DL} (hD : DsC c D) {x1 x2 : Int32} {N : Int32 → CS → Prop} (hN : N (dfA D x1 x2) c) : cE X 2 y_Lab_partLength [.ref (adr X 4), .int x1, .int x2] c (ciP N) := by
  refine g_Lab_partLength F ?_
  unfold w_Lab_partLength_0 w_Lab_partLength_21
  have hl := hD.2
  refine ⟨fun z => ciP.i hN ?_, fun z => q_Lab_size F hD ⟨fun z1 => ciP.i hN ?_, fun z1 => ⟨fun z2 => ciP.i hN ?_, fun z2 => ⟨fun z3 => ?_, fun z3 => ciP.i hN ?_⟩⟩⟩⟩
  · unfold dfA; rw [if_pos (Or.inl z)]
  · unfold dfA; rw [if_pos (Or.inr (Or.inl z1))]
  · unfold dfA; rw [if_pos (Or.inr (Or.inr (Or.inl z2)))]
  · obtain ⟨w1, w2⟩ := i3 z2 z3
    obtain ⟨e, hx⟩ := nI_cl z
    have hn : ¬ (x1 < 0 ∨ nI D.length ≤ x1 ∨ x2 < 0 ∨ ¬ x2 < 3) := by
      rintro (y | y | y | y)
      · exact z y
      · exact z1 y
      · exact z2 y
      · exact y z3
    unfold dfA at hN
    rw [if_neg hn] at hN
    have hk : x1.toNatClampNeg < D.length := by
      apply Decidable.byContradiction
      intro q
      apply z1
      rw [e, nI_leI (by omega) (by omega)]
      omega
    generalize x1.toNatClampNeg = k at *
    generalize x2.toNatClampNeg = w at *
    rw [e, w2]
    refine q_Lab_partTo F hD hk w1 (q_Lab_partFrom F hD hk w1 (ciP.i hN ?_))
    rw [pk_sub (by omega)]
    congr 1
    omega
  · unfold dfA; rw [if_pos (Or.inr (Or.inr (Or.inr z3)))]
/-- part w of definition k, in the model -/
theorem EnM.prt {m : MS} {k P w : Nat} {d : List Int32 × List Int32 × List Int32} (h : EnM m k d P) (hw : w < 3) : ∃ p, m.2 (41 + 2 * w) k = nI p ∧ m.2 (42 + 2 * w) k = nI (prt d w).length ∧ PoolL m p (prt d w) ∧ p + (prt d w).length ≤ P := by
  obtain ⟨p, q, r, h1, h2, h3⟩ := h
  have hc : w = 0 ∨ w = 1 ∨ w = 2 := by omega
  rcases hc with e | e | e
  · subst e; exact ⟨p, h1⟩
  · subst e; exact ⟨q, h2⟩
  · subst e; exact ⟨r, h3⟩
theorem d_definition (G : mF Y a1) {D : DL} {P : Nat} (hD : DfD c m D P) {x1 x2 : Int32} {N : Int32 → MS → Prop} (hN : N (dfA D x1 x2) (mI m 0 0)) : mE Y 0 y_Mo_definition [.ref (mo Y), .int x1, .int x2] m (iP N) := by
  obtain ⟨d1, d2, d3, d4, d5, d6⟩ := hD
  refine g_Mo_definition G ?_
  unfold w_Mo_definition_0 w_Mo_definition_24 w_Mo_definition_68
  intro m1 e1
  rw [e1]
  show ((m.1 4 = 0 → iP _ (some (.int (-1))) _) ∧ (¬ m.1 4 = 0 → ((x1 < 0 → iP _ (some (.int (-1))) _) ∧ (¬ x1 < 0 → ((x1 < m.1 40 → ((x2 = 0 → (vp_in (x1) 700 ∧ iP _ (some (.int (m.2 42 (x1 : Int32).toNatClampNeg))) _)) ∧ (¬ x2 = 0 → ((x2 = 1 → (vp_in (x1) 700 ∧ iP _ (some (.int (m.2 44 (x1 : Int32).toNatClampNeg))) _)) ∧ (¬ x2 = 1 → ((x2 = 2 → (vp_in (x1) 700 ∧ iP _ (some (.int (m.2 46 (x1 : Int32).toNatClampNeg))) _)) ∧ (¬ x2 = 2 → iP _ (some (.int (-1))) _))))))) ∧ (¬ x1 < m.1 40 → iP _ (some (.int (-1))) _))))))
  have hno : ∀ {y : Int32}, y = -1 → (x1 < 0 ∨ nI D.length ≤ x1 ∨ x2 < 0 ∨ ¬ x2 < 3) → iP N (some (.int y)) (mI m 0 0) := by
    intro y hy z
    refine iP.i hN ?_
    unfold dfA
    rw [if_pos z, hy]
  rcases d6 with ⟨y1, y2⟩ | ⟨y1, y2, y3⟩
  · rw [y1]
    refine ⟨fun _ => hno rfl ?_, fun z => absurd rfl z⟩
    by_cases z : x1 < 0
    · exact Or.inl z
    · right
      left
      rw [y2, (nI_cl z).1]
      exact (nI_leI (by decide) (nI_cl z).2).mpr (Nat.zero_le _)
  · rw [y1, y2.1]
    refine ⟨fun z => absurd z (by decide), fun _ => ⟨fun z => hno rfl (Or.inl z), fun z => ⟨fun z1 => ?_, fun z1 => hno rfl (Or.inr (Or.inl (Int32.not_lt.mp z1)))⟩⟩⟩
    obtain ⟨e, hx⟩ := nI_cl z
    have hk : x1.toNatClampNeg < D.length := by
      rw [e] at z1
      exact (nI_ltI (by omega) (by omega)).mp z1
    have hvp : vp_in x1 700 := by
      rw [e, vp_nI (by omega)]
      omega
    have hE := y2.2 _ hk
    have hyes : ∀ w : Nat, w < 3 → x2 = nI w → ∀ y : Int32, y = m.2 (42 + 2 * w) x1.toNatClampNeg → iP N (some (.int y)) (mI m 0 0) := by
      intro w hw e2 y hy
      obtain ⟨p, p1, p2, _⟩ := hE.prt hw
      refine iP.i hN ?_
      have hn : ¬ (x1 < 0 ∨ nI D.length ≤ x1 ∨ x2 < 0 ∨ ¬ x2 < 3) := by
        rintro (q | q | q | q)
        · exact z q
        · exact absurd z1 (Int32.not_lt.mpr q)
        · rw [e2] at q; exact nI_lt0 (by omega) q
        · apply q
          rw [e2]
          exact (lit_ltJ (by decide) (by omega)).mpr hw
      unfold dfA
      rw [if_neg hn, hy, p2, e2, nI_clamp (by omega)]
    refine ⟨fun e2 => ⟨hvp, hyes 0 (by decide) e2 _ rfl⟩, fun n0 => ⟨fun e2 => ⟨hvp, hyes 1 (by decide) e2 _ rfl⟩, fun n1 => ⟨fun e2 => ⟨hvp, hyes 2 (by decide) e2 _ rfl⟩, fun n2 => hno rfl ?_⟩⟩⟩
    by_cases q : x2 < 0
    · exact Or.inr (Or.inr (Or.inl q))
    · refine Or.inr (Or.inr (Or.inr (fun q3 => ?_)))
      obtain ⟨w1, w2⟩ := i3 q q3
      have hc : x2.toNatClampNeg = 0 ∨ x2.toNatClampNeg = 1 ∨ x2.toNatClampNeg = 2 := by omega
      rcases hc with w | w | w
      · rw [w] at w2; exact n0 w2
      · rw [w] at w2; exact n1 w2
      · rw [w] at w2; exact n2 w2
theorem a_definition (F : cF X a0) (G : mF Y a1) (h : REL c m) (x1 x2 : Int32) : ∃ R, cE X 3 y_MB_definition [.ref (adr X 0), .int x1, .int x2] c (ciP fun r c' => r = R ∧ c' = c) ∧ mE Y 0 y_Mo_definition [.ref (mo Y), .int x1, .int x2] m (iP fun r m' => r = R ∧ m' = mI m 0 0) := by
  obtain ⟨D, P, hD⟩ := h.df
  refine ⟨dfA D x1 x2, g_MB_definition F (q_partLength F ⟨hD.2.1, by have := hD.2.2.2.1; omega⟩ (ciP.i ⟨rfl, rfl⟩ rfl)), d_definition G hD ⟨rfl, rfl⟩⟩
theorem prt_at {D : DL} {k w i : Nat} (hk : k < D.length) (hw : w < 3) (hb : (flatD D).length < 100000) (hi : i < (prt (dA D k) w).length) : tA (flatD D) (prtF D k w + i) = tA (prt (dA D k) w) i := by
  have h := flatD_at D [] k hk (by rw [List.append_nil]; exact hb)
  rw [List.append_nil] at h
  have hc : w = 0 ∨ w = 1 ∨ w = 2 := by omega
  rcases hc with e | e | e
  · subst e; exact h.1 i hi
  · subst e; exact h.2.1 i hi
  · subst e; exact h.2.2.1 i hi
theorem a_defined (F : cF X a0) (G : mF Y a1) (h : REL c m) (x1 x2 x3 : Int32) : ∃ R, cE X 4 y_MB_defined [.ref (adr X 0), .int x1, .int x2, .int x3] c (ciP fun r c' => r = R ∧ c' = c) ∧ mE Y 1 y_Mo_defined [.ref (mo Y), .int x1, .int x2, .int x3] m (iP fun r m' => r = R ∧ m' = mI m 0 0) := by
  obtain ⟨D, P, hD⟩ := h.df
  have hD0 := hD
  obtain ⟨d1, d2, d3, d4, d5, d6⟩ := hD
  obtain ⟨R, hRd⟩ : ∃ R : Int32, R = if x3 < 0 ∨ dfA D x1 x2 ≤ x3 then -1 else tA (prt (dA D x1.toNatClampNeg) x2.toNatClampNeg) x3.toNatClampNeg := ⟨_, rfl⟩
  -- where there is a sign
  have hyes : ¬ x3 < 0 → ¬ dfA D x1 x2 ≤ x3 → ∃ k w i, x1 = nI k ∧ x2 = nI w ∧ x3 = nI i ∧ k < D.length ∧ w < 3 ∧ i < (prt (dA D k) w).length ∧ R = tA (prt (dA D k) w) i := by
    intro z1 z2
    have hn : ¬ (x1 < 0 ∨ nI D.length ≤ x1 ∨ x2 < 0 ∨ ¬ x2 < 3) := by
      intro y
      apply z2
      unfold dfA
      rw [if_pos y, (nI_cl z1).1]
      rw [Int32.le_iff_toInt_le, nI_toInt (nI_cl z1).2]
      show (-1 : Int) ≤ _
      omega
    have h1 : ¬ x1 < 0 := fun y => hn (Or.inl y)
    have h2 : ¬ x2 < 0 := fun y => hn (Or.inr (Or.inr (Or.inl y)))
    have h3 : x2 < 3 := Decidable.byContradiction (fun y => hn (Or.inr (Or.inr (Or.inr y))))
    obtain ⟨w1, w2⟩ := i3 h2 h3
    obtain ⟨e1, hx1⟩ := nI_cl h1
    obtain ⟨e3, hx3⟩ := nI_cl z1
    have hk : x1.toNatClampNeg < D.length := by
      apply Decidable.byContradiction
      intro q
      apply hn
      right
      left
      rw [e1, nI_leI (by omega) (by omega)]
      omega
    have hdf : dfA D x1 x2 = nI (prt (dA D x1.toNatClampNeg) x2.toNatClampNeg).length := by unfold dfA; rw [if_neg hn]
    have hlen : (prt (dA D x1.toNatClampNeg) x2.toNatClampNeg).length ≤ 12010 := by
      rcases d6 with ⟨y1, y2⟩ | ⟨y1, y2, y3⟩
      · rw [y2] at hk
        exact absurd hk (Nat.not_lt_zero _)
      · obtain ⟨p, p1, p2, p3, p4⟩ := (y2.2 _ hk).prt w1
        have hf := flatD_at D [] _ hk (by rw [List.append_nil]; omega)
        rw [List.append_nil] at hf
        have := hf.2.2.2
        have hc : x2.toNatClampNeg = 0 ∨ x2.toNatClampNeg = 1 ∨ x2.toNatClampNeg = 2 := by omega
        unfold dSz at this
        rcases hc with e | e | e
        · rw [e]; show (dA D x1.toNatClampNeg).1.length ≤ _; omega
        · rw [e]; show (dA D x1.toNatClampNeg).2.1.length ≤ _; omega
        · rw [e]; show (dA D x1.toNatClampNeg).2.2.length ≤ _; omega
    refine ⟨x1.toNatClampNeg, x2.toNatClampNeg, x3.toNatClampNeg, e1, w2, e3, hk, w1, ?_, ?_⟩
    · apply Decidable.byContradiction
      intro q
      apply z2
      rw [hdf, e3, nI_leI (by omega) (by omega)]
      omega
    · rw [hRd, if_neg]
      rintro (y | y)
      · exact z1 y
      · exact z2 y
  refine ⟨R, g_MB_defined F (g_Lab_partSign F ?_), g_Mo_defined G ?_⟩
  · unfold w_Lab_partSign_0 w_Lab_partSign_32 w_Lab_partSign_33
    have hDC : DsC c D := ⟨d2, by omega⟩
    refine ⟨fun z => ciP.i (ciP.i ⟨?_, rfl⟩ rfl) rfl, fun z1 => q_partLength F hDC ⟨fun z2 => ciP.i (ciP.i ⟨?_, rfl⟩ rfl) rfl, fun z2 => ?_⟩⟩
    · rw [hRd, if_pos (Or.inl z)]
    · rw [hRd, if_pos (Or.inr z2)]
    · obtain ⟨k, w, i, e1, e2, e3, hk, hw, hi, hR⟩ := hyes z1 z2
      rw [e1, e2, e3]
      refine q_Lab_partFrom F hDC hk hw ?_
      rw [nI_add]
      refine q_Row_at F isR12 (ciP.i (ciP.i ⟨?_, rfl⟩ rfl) rfl)
      rw [d1, hR]
      exact prt_at hk hw (by omega) hi
  · unfold w_Mo_defined_0 w_Mo_defined_35 w_Mo_defined_36
    intro m1 e1
    have hD1 : DfD c m1 D P := by rw [e1]; exact hD0
    have em : mI m1 0 0 = mI m 0 0 := by rw [e1, mI_mI]
    refine ⟨fun z => ?_, fun z1 => d_definition G hD1 ?_⟩
    · rw [e1]
      refine iP.i ⟨?_, rfl⟩ rfl
      rw [hRd, if_pos (Or.inl z)]
    · rw [em]
      refine ⟨fun z2 => iP.i ⟨?_, rfl⟩ rfl, fun z2 => ?_⟩
      · rw [hRd, if_pos (Or.inr z2)]
      · obtain ⟨k, w, i, e1', e2, e3, hk, hw, hi, hR⟩ := hyes z1 z2
        rcases d6 with ⟨y1, y2⟩ | ⟨y1, y2, y3⟩
        · rw [y2] at hk
          exact absurd hk (Nat.not_lt_zero _)
        · obtain ⟨p, p1, p2, p3, p4⟩ := (y2.2 _ hk).prt hw
          have hc : w = 0 ∨ w = 1 ∨ w = 2 := by omega
          rw [e1', e2, e3]
          refine g_Mo_placeOf G ?_
          unfold w_Mo_placeOf_0 w_Mo_placeOf_33
          have hfin : ∀ y : Int32, y = nI p → iP (fun r3 m3 => vp_in (r3 + nI i) 48000 ∧ iP (fun r m' => r = R ∧ m' = mI m 0 0) (some (.int (m3.2 7 (r3 + nI i).toNatClampNeg))) m3) (some (.int y)) (mI m 0 0) := by
            intro y hy
            refine ⟨y, rfl, ?_⟩
            show vp_in (y + nI i) 48000 ∧ _
            rw [hy, nI_add, vp_nI (by omega), nI_clamp (by omega)]
            refine ⟨by omega, iP.i ⟨?_, rfl⟩ rfl⟩
            rw [hR, ← p3 i hi, show p + i = i + p by omega]
            rfl
          rw [vp_nI (by omega), nI_clamp (by omega)]
          rcases hc with e | e | e
          · subst e
            exact ⟨fun _ => ⟨by omega, hfin _ p1⟩, fun q => absurd rfl q⟩
          · subst e
            exact ⟨fun q => absurd q (by decide), fun _ => ⟨fun _ => ⟨by omega, hfin _ p1⟩, fun q => absurd rfl q⟩⟩
          · subst e
            exact ⟨fun q => absurd q (by decide), fun _ => ⟨fun q => absurd q (by decide), fun _ => ⟨by omega, hfin _ p1⟩⟩⟩
end ASK2
