section KB
variable {K : Nat}
/-! a line: goOn, lookForBeginnings, takeRest and the model's takeLine -/
section PLINE
variable {X : CX} {Y : MX} {a0 a1 : Array Value} {c : CS} {m : MS} {m0 : MS → Prop} {μ : Nat → Nat} {t o B E h n bt d : Nat} {D : DL} {x3 x4 x5 : Int32} {v : VS}
theorem q_lookStop (F : cF X a0) (hS : StpC c) {N : Int32 → CS → Prop} (hN : N 1 c) : cE X 11 y_Rd_lookForBeginnings [.ref (adr X 6)] c (ciP N) := by
  refine g_Rd_lookForBeginnings (I2 := fun _ _ c' => c' = c) F ⟨0, rfl⟩ ?_
  rintro j x1 c' rfl
  unfold w_Rd_lookForBeginnings_2 w_Rd_lookForBeginnings_74
  refine ⟨fun _ => ciP.i hN rfl, fun _ => ⟨fun z => ?_, fun _ => ciP.i hN rfl⟩⟩
  rcases hS with y | ⟨h5, y1, y2, y3, y4⟩
  · exact absurd (y.symm.trans z) (by decide)
  · exact q_Rd_kindAtHand F y1 y2 y4 y3 ⟨fun _ => ciP.i hN rfl, fun w => absurd rfl w⟩
theorem witZ {S : MS → Prop} (hσ : ∃ m σ, S m ∧ MV Y m σ) {x1 x2 y3 y4 y5 : Int32} {R : MS → Nat → Prop} (hi : ∀ d Φ, (∀ m' E', R m' E' → Z163 Y d x1 x2 y3 y4 Φ y5 m') → ∀ m, S m → Z37 Y d x1 x2 Φ x3 x4 m) : ∃ m' E' σ, R m' E' ∧ MV Y m' σ := by
  apply Classical.byContradiction
  intro hn
  obtain ⟨m, σ, hS, hV⟩ := hσ
  exact no37 ⟨σ, hV⟩ (fun d Φ => hi d Φ (fun m' E' hR o6 σ' hV' => absurd ⟨m', E', σ', hR, hV'⟩ hn) m hS)
theorem nI_m1 {n : Nat} (h : n < 2 ^ 31) : ¬ nI n = -1 := fun e => by
  have := nI_lt0 h
  rw [e] at this
  exact this (by decide)
/-- the line's end, for all models that stand where the class stands -/
def LnE (Y : MX) (m0 : MS → Prop) (S : MS → Prop) (n bt : Nat) (μ : Nat → Nat) (t o B : Nat) (D : DL) (c' : CS) : Prop := ∀ d Φ, (∀ m' E', RE m0 c'.1 m' μ t o B E' D → Φ none m') → ∀ m, S m → Z37 Y d (nI n) (nI bt) Φ 1 1 m
def LnD (Y : MX) (m0 : MS → Prop) (S : MS → Prop) (n bt : Nat) : Prop := ∀ d Φ, (∀ m', m'.1 5 = nI n → FrX m0 m' → Φ none m') → ∀ m, S m → Z37 Y d (nI n) (nI bt) Φ 1 1 m
theorem p_line (F : cF X a0) (G : mF Y a1) (hBN : BNok X) (hTA : TAok X) (hσ : ∃ m σ, S37 m0 (goC c n).1 μ t o B D m ∧ MV Y m σ) (hN : ct c.1 ≤ c.2.2) (hC : CGo K (goC c n).1 t o B 0 n) (hb : BT c.1 μ o bt) {N0 N1 : CS → Prop}
    (h1 : ∀ c5 μ5 t5 o5 B5 D5, LkC (goC c n) c5 → CDn K (tx c.1) c5.1 t5 B5 → LnE Y m0 (S37 m0 (goC c n).1 μ t o B D) n bt μ5 t5 o5 B5 D5 c5 → N1 c5)
    (h0 : ∀ c5, LkC (goC c n) c5 → LnD Y m0 (S37 m0 (goC c n).1 μ t o B D) n bt → N0 c5) : cE X 7 y_Rd_goOn [.ref (adr X 6), .int (nI n)] c (cvP fun c1 => cE X 11 y_Rd_lookForBeginnings [.ref (adr X 6)] c1 (ciP fun r c2 => (r = 0 → N0 c2) ∧ (¬ r = 0 → cE X 10 y_Rd_takeRest [.ref (adr X 6)] c2 (cvP N1)))) := by
  have hn := hC.1.2.2.2.1
  refine q_goOn F G hσ hN hC hb (fun c' h x3 hLk hCB h67 htx hGo => ?_) (fun c' h hLk h67 hCD hGo => ?_)
  · obtain ⟨mw, Ew, σw, hBw, hVw⟩ := witZ hσ hGo
    have hh := hCB.1.2.1
    obtain ⟨k1, k2, k3, k4, k5, k6, k7, k8, k9⟩ := hBw.kds hh
    have hN' := hLk.2.1
    by_cases h7 : kd c'.1 (vo c'.1 h) = 7
    · have hS : StpC c' := Or.inr ⟨h, hCB.1.1, by have := hCB.1.2.2.2.2.1; omega, by rw [k1, h7], by omega⟩
      refine q_lookStop F hS ⟨fun z => absurd z (by decide), fun _ => ?_⟩
      refine p_rest (x3 := x3) (T0 := tx c.1) F G hBN hTA hN' (Or.inr ⟨h67, hCB, htx⟩) ⟨mw, Ew, Or.inr ⟨h67, hBw⟩⟩ (fun c5 μ5 t5 o5 B5 D5 q1 q2 q3 => h1 c5 μ5 t5 o5 B5 D5 (hLk.trans q1) q2 (fun d Φ hnext m hS => hGo d Φ (fun m' E' hr => ?_) m hS))
      rw [if_pos h7]
      refine Z163.cl G d _ _ _ _ Φ 0 m' ?_
      unfold w_Mo_takeLine_163
      exact ⟨fun _ => q3 m' E' (Or.inr ⟨h67, hr⟩) 0 Φ hnext, fun z => absurd rfl z⟩
    · unfold GoA at hGo
      rw [if_neg h7] at hGo
      refine p_look (x3 := x3) F G hBN hTA ⟨mw, σw, ⟨Ew, hBw⟩, hVw⟩ hCB h67 hN' h7 (fun c2 q1 hX => ⟨fun z => absurd z (by decide), fun _ => ?_⟩) (fun c2 q1 hD => ⟨fun _ => ?_, fun z => absurd rfl z⟩)
      · obtain ⟨μ2, t2, o2, B2, D2, h2, hXC, hP⟩ := hX
        rw [htx] at hXC
        have hw2 := wit G ⟨mw, σw, (⟨Ew, hBw⟩ : S163 m0 c'.1 μ t o B D h bt (if h + 1 = o then 1 else 0) mw), hVw⟩ hP
        refine p_rest (x3 := x3) F G hBN hTA q1.2.1 hXC hw2 (fun c5 μ5 t5 o5 B5 D5 q2 q3 q4 => h1 c5 μ5 t5 o5 B5 D5 ((hLk.trans q1).trans q2) q3 (fun d Φ hnext m hS => hGo d Φ (fun m' E' hr => ?_) m hS))
        refine hP Φ _ (Z163.cl G d _ _ _ _ Φ) (fun m2 E2 hx => Z163.cl G d _ _ _ _ Φ 0 m2 ?_) m' ⟨E', hr⟩
        unfold w_Mo_takeLine_163
        exact ⟨fun _ => q4 m2 E2 hx 0 Φ hnext, fun z => absurd rfl z⟩
      · refine h0 c2 (hLk.trans q1) (fun d Φ hnext m hS => hGo d Φ (fun m' E' hr => ?_) m hS)
        refine hD Φ _ (Z163.cl G d _ _ _ _ Φ) (fun m2 h5 hF => Z163.cl G d _ _ _ _ Φ 1 m2 ?_) m' ⟨E', hr⟩
        have hne : ¬ m2.1 5 = -1 := by rw [h5]; exact nI_m1 (by omega)
        unfold w_Mo_takeLine_163
        refine ⟨fun z => absurd z (by decide), fun _ => ⟨fun z => absurd z hne, fun _ => ?_⟩⟩
        unfold w_Mo_takeLine_187 w_Mo_takeLine_202
        exact ⟨fun _ => ⟨fun z => absurd z hne, fun _ => hnext m2 h5 hF⟩, fun _ => hnext m2 h5 hF⟩
  · refine q_lookStop F (Or.inl h67) ⟨fun z => absurd z (by decide), fun _ => ?_⟩
    refine g_Rd_takeRest F ?_
    unfold w_Rd_takeRest_0
    rw [h67]
    exact ⟨fun z => absurd z (by decide), fun _ => ⟨rfl, h1 c' μ h (h + 1) B D hLk hCD hGo⟩⟩
/-- the model's takeLine, up to its loop -/
theorem mE_takeLine (G : mF Y a1) {Φ : Option Value → MS → Prop} (h30 : m.1 30 = nI (o + 1)) (ho : o < 40) (hbt : m.2 29 o = nI bt) (h : ∀ d, Z37 Y d (nI n) (nI bt) Φ 1 1 (mI (mI (mI (mI m 31 0) 34 0) 33 0) 32 0)) : mE Y 10 y_Mo_takeLine [.ref (mo Y), .int (nI n)] m Φ := by
  intro d σ hV
  refine jE.of (by decide) (by simp [Value.category]) (Nat.le_of_ble_eq_true rfl) rfl ?_
  refine t_Mo_takeLine_0 (K37 := K37 Y d (nI n) (nI bt) Φ) (K163 := fun _ _ _ _ _ _ => False) G hV ?_ (fun y1 y2 y3 y4 q5 q6 m' σ' hV' hK => ?_) (fun y1 y2 y3 y4 y5 q6 m' σ' hV' hK => hK.elim)
  · unfold w_Mo_takeLine_0
    intro m1 e1 m2 e2 m3 e3
    have f30 : m3.1 30 = nI (o + 1) := by rw [e3, e2, e1]; exact h30
    have f29 : m3.2 29 o = nI bt := by rw [e3, e2, e1]; exact hbt
    rw [f30, nI_pred, vp_nI (by omega), nI_clamp (by omega), f29]
    refine ⟨ho, fun m4 e4 => ⟨rfl, rfl, ?_⟩⟩
    rw [e4, e3, e2, e1]
    exact h d
  · obtain ⟨rfl, rfl, hP⟩ := hK
    exact hP q5 q6 σ' hV'
end PLINE
end KB
