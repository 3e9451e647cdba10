section KB
variable {K : Nat}
/-! lookForBeginnings and the model's loop -/
section PLOOK
variable {X : CX} {Y : MX} {a0 a1 : Array Value} {c : CS} {S m0 : MS → Prop} {μ : Nat → Nat} {t o B h n bt : Nat} {D : DL} {x3 x4 : Int32} {T0 : List Int32}
def StpC (c5 : CS) : Prop := vi c5.1 67 = 1 ∨ ∃ h5, vi c5.1 65 = nI h5 ∧ h5 ≤ 13 ∧ vb c5.1 (vo c5.1 h5) 0 = nI 7 ∧ vo c5.1 h5 < c5.2.2
theorem LkC.rfl (h : ct c.1 ≤ c.2.2) : LkC c c := ⟨ExC.rfl, h, KV.rfl⟩
/-- one turn -/
theorem lk_turn (F : cF X a0) (G : mF Y a1) (hBN : BNok X) (hTA : TAok X) (hσ : ∃ m σ, S m ∧ MV Y m σ) {k : Nat} (hN : ct c.1 ≤ c.2.2) (hA : Act K Y T0 S m0 n bt x3 x4 k c) {N : Int32 → CS → Prop} {KK : Int32 → CS → Prop} (hK : ∀ c', LkC c c' → (Act K Y T0 S m0 n bt x3 x4 (k + 1) c' ∨ (Ext K Y T0 S m0 n bt x3 x4 c' ∧ StpC c')) → KK (nI (k + 1)) c') (hE : ∀ c', LkC c c' → Ext K Y T0 S m0 n bt x3 x4 c' → N 1 c') (hD : ∀ c', LkC c c' → Dpt Y S m0 n bt x3 x4 → N 0 c') : w_Rd_lookForBeginnings_2 X (nI k) c (ciP N) KK := by
  obtain ⟨μ, t, o, B, D, h, b, a1', a2, a3, a4, a5, a6, a7⟩ := hA
  obtain ⟨mw, Ew, hB⟩ := wit G hσ a7
  have hh := a3.1.2.1
  have ht13 := a3.1.2.2.2.2.1
  obtain ⟨k1, k2, k3, k4, k5, k6, k7, k8, k9⟩ := hB.kds hh
  have hk64 : k ≤ 20 := by
    rcases a5 with z | z | z
    · omega
    · omega
    · have := a3.1.2.2.2.2.2.1
      omega
  have hlx12 := hB.2.1.1.2.2
  have hsp := run_in (xs := lx c.1) (p := fun z => z == 32) hB.2.1.2.2.1
  have hspe : ld c.1 = runFrom (fun z => z == 32) (lx c.1) (lp c.1) := hB.2.1.2.2.2
  have es : sA c.1 = lp c.1 + ld c.1 := rfl
  unfold w_Rd_lookForBeginnings_2
  refine ⟨fun z => ?_, fun _ => ⟨fun _ => ?_, fun z => absurd a1' z⟩⟩
  · rw [lit_leI (by decide) (by omega)] at z
    omega
  refine q_Rd_kindAtHand F a3.1.1 (by omega) (by omega) k1 ⟨fun z => ?_, fun _ => ?_⟩
  · exact absurd ((lit_eqJ (by decide) (by omega)).mp z) a2
  refine q_Rd_beginningAtPlace F a3.1.1 (by omega) hB.1.1 (by omega) (by omega) (by omega) k1 k2 k6 k7 (by omega) (by omega) (fun c1 e1 e2 e3 => ?_)
  obtain ⟨s1, s2, s3, s4, s5, s6, s7, s8⟩ := mk_same e2
  have hkd1 : ∀ i, kd c1.1 i = kd c.1 i := fun i => by unfold kd; rw [s4]
  have hLk : LkC c c1 := ⟨ExC.of e1, by rw [e1]; show vn c1.1 23 ≤ _; rw [s7 23 (by decide)]; exact hN, by rw [s6], s2.1, s7 51 (by decide), s3 6 (by decide) (by decide), s3 7 (by decide) (by decide), s3 66 (by decide) (by decide), s8, by rw [s5]⟩
  have hbg1 : bgF c1.1 (kd c1.1 (vo c1.1 h)) (kd c1.1 (vo c1.1 t)) = bgF c.1 (kd c.1 (vo c.1 h)) (kd c.1 (vo c.1 t)) := by rw [bgF_cg s2, hkd1, hkd1, s5]
  have hRB1 : ∀ m' E', RB m0 c.1 m' μ t o B E' D h bt x4 → RB m0 c1.1 m' μ t o B E' D h bt x4 := fun m' E' z => z.vs s1 s2 ⟨s3 68 (by decide) (by decide), s3 69 (by decide) (by decide)⟩
  generalize hbgv : bgF c.1 (kd c.1 (vo c.1 h)) (kd c.1 (vo c.1 t)) = bg at *
  have hMk : bg = 3 → MkF c1.1 := by
    intro z
    rw [e3 z]
    exact ⟨rfl, rfl, rfl⟩
  have hCnt : Cnt c1.1 t h k := by
    unfold Cnt at a5 ⊢
    rw [s5, hkd1, hkd1]
    exact a5
  have hTn : Tn K Y T0 S m0 n bt x3 x4 μ t o B D h b bg k c1 := by
    refine ⟨by rw [s3 67 (by decide) (by decide)]; exact a1', by rw [s5, hkd1]; exact a2, a3.mk e2, by unfold tx; rw [s6]; exact a4, hCnt, hbg1, a6, hLk.2.1, hMk, fun Φ P hcl hnext => a7 Φ P hcl (fun m' E' hr => ?_)⟩
    have := hnext m' E' (hRB1 m' E' hr)
    unfold Q163 at this ⊢
    rw [s2.2.2] at this
    exact this
  have hval := bgF_val c.1 (kd c.1 (vo c.1 h)) (kd c.1 (vo c.1 t))
  rw [hbgv] at hval
  have hKt : ∀ c', LkC c1 c' → (Act K Y T0 S m0 n bt x3 x4 (k + 1) c' ∨ (Ext K Y T0 S m0 n bt x3 x4 c' ∧ StpC c')) → w_Rd_lookForBeginnings_68 X (nI k) (bgI bg) c' (ciP N) KK := by
    intro c' h1 h2
    unfold w_Rd_lookForBeginnings_68
    rw [nI_1]
    exact hK c' (hLk.trans h1) h2
  rcases hval with z | z | z | z | z | z | z | z
  · -- nothing begins
    subst z
    refine ⟨fun _ => ciP.i (hE c1 hLk ⟨μ, t, o, B, D, h, Or.inr ⟨hTn.1, hTn.2.2.1, hTn.2.2.2.1⟩, fun Φ P hcl hnext => ?_⟩) rfl, fun y => absurd rfl y⟩
    refine a7 Φ P hcl (fun m2 E2 hR2 => d_Q G hR2 hh hcl b hbgv a6 (fun z => absurd z (by decide)) (fun z => absurd z (by decide)) (fun z => absurd z (by decide)) (fun z => absurd z (by decide)) (fun z => absurd z (by decide)) (fun z => absurd z (by decide)) (fun z => absurd z (by decide)) (fun _ m3 hmr => ?_))
    exact hnext m3 E2 (Or.inr ⟨hTn.1, (hRB1 m2 E2 hR2).mk hmr⟩)
  · subst z
    exact ⟨fun y => absurd y (by decide), fun _ => ⟨fun y => absurd y (by decide), fun _ => lk_quote F G hBN hTA hσ hTn (fun c5 h1 h2 => hKt c5 h1 (Or.inl h2)) (fun c5 h1 h2 => ciP.i (hD c5 (hLk.trans h1) h2) rfl)⟩⟩
  · subst z
    exact ⟨fun y => absurd y (by decide), fun _ => ⟨fun y => absurd y (by decide), fun _ => lk_item F G hBN hTA hσ hTn (fun c5 h1 h2 => hKt c5 h1 (Or.inl h2)) (fun c5 h1 h2 => ciP.i (hD c5 (hLk.trans h1) h2) rfl)⟩⟩
  · subst z
    exact ⟨fun y => absurd y (by decide), fun _ => ⟨fun y => absurd y (by decide), fun _ => lk_heading F G hBN hTA hσ hTn (fun c5 h1 h2 h3 => hKt c5 h1 (Or.inr ⟨h2, h3⟩))⟩⟩
  · subst z
    exact ⟨fun y => absurd y (by decide), fun _ => ⟨fun y => absurd y (by decide), fun _ => lk_rule F G hBN hTA hσ hTn (fun c5 h1 h2 h3 => hKt c5 h1 (Or.inr ⟨h2, h3⟩))⟩⟩
  · subst z
    exact ⟨fun y => absurd y (by decide), fun _ => ⟨fun y => absurd y (by decide), fun _ => lk_fenced F G hBN hTA hσ hTn (fun c5 h1 h2 h3 => hKt c5 h1 (Or.inr ⟨h2, h3⟩))⟩⟩
  · subst z
    exact ⟨fun y => absurd y (by decide), fun _ => ⟨fun y => absurd y (by decide), fun _ => lk_indented F G hBN hTA hσ hTn (fun c5 h1 h2 h3 => hKt c5 h1 (Or.inr ⟨h2, h3⟩))⟩⟩
  · subst z
    refine ⟨fun y => absurd y (by decide), fun _ => ⟨fun _ => lk_under F G hBN hσ hTn (fun c5 h1 h2 => hKt c5 h1 ?_), fun y => absurd rfl y⟩⟩
    rcases h2 with y | y
    · exact Or.inl y
    · exact Or.inr ⟨y.1, Or.inl y.2⟩
theorem Act.le {k : Nat} (hA : Act K Y T0 S m0 n bt x3 x4 k c) : k ≤ 20 := by
  obtain ⟨μ, t, o, B, D, h, b, a1', a2, a3, a4, a5, a6, a7⟩ := hA
  have ht13 := a3.1.2.2.2.2.1
  rcases a5 with z | z | z <;> omega
/-- the model, before the loop -/
def S163 (m0 : MS → Prop) (v : VS) (μ : Nat → Nat) (t o B : Nat) (D : DL) (h bt : Nat) (x4 : Int32) (m : MS) : Prop := ∃ E, RB m0 v m μ t o B E D h bt x4
theorem p_look (F : cF X a0) (G : mF Y a1) (hBN : BNok X) (hTA : TAok X) (hσ : ∃ m σ, S163 m0 c.1 μ t o B D h bt x4 m ∧ MV Y m σ) (hC : CB K c.1 t B h n) (h67 : vi c.1 67 = 0) (hN : ct c.1 ≤ c.2.2) (h7 : kd c.1 (vo c.1 h) ≠ 7) {N : Int32 → CS → Prop} (hE : ∀ c', LkC c c' → Ext K Y (tx c.1) (S163 m0 c.1 μ t o B D h bt x4) m0 n bt x3 x4 c' → N 1 c') (hD : ∀ c', LkC c c' → Dpt Y (S163 m0 c.1 μ t o B D h bt x4) m0 n bt x3 x4 → N 0 c') : cE X 11 y_Rd_lookForBeginnings [.ref (adr X 6)] c (ciP N) := by
  refine g_Rd_lookForBeginnings (I2 := fun j x1 c' => ∃ k, x1 = nI k ∧ j + k = 64 ∧ LkC c c' ∧ (Act K Y (tx c.1) (S163 m0 c.1 μ t o B D h bt x4) m0 n bt x3 x4 k c' ∨ (Ext K Y (tx c.1) (S163 m0 c.1 μ t o B D h bt x4) m0 n bt x3 x4 c' ∧ StpC c'))) F ?_ ?_
  · refine ⟨64, 0, rfl, rfl, LkC.rfl hN, Or.inl ⟨μ, t, o, B, D, h, false, h67, h7, hC, rfl, Or.inl rfl, fun z => absurd z (by decide), fun Φ P hcl hnext m hS => ?_⟩⟩
    obtain ⟨E, hB⟩ := hS
    have := hnext m E hB
    unfold Q163 at this
    rw [if_neg (by decide)] at this
    exact this
  · rintro j x1 c' ⟨k, rfl, hj, hLk, hA | ⟨hX, hS⟩⟩
    · have hk := hA.le
      refine lk_turn F G hBN hTA hσ hLk.2.1 hA (fun c5 h1 h2 => ⟨j - 1, by omega, k + 1, rfl, by omega, hLk.trans h1, h2⟩) (fun c5 h1 h2 => hE c5 (hLk.trans h1) h2) (fun c5 h1 h2 => hD c5 (hLk.trans h1) h2)
    · unfold w_Rd_lookForBeginnings_2 w_Rd_lookForBeginnings_74
      refine ⟨fun _ => ciP.i (hE c' hLk hX) rfl, fun _ => ⟨fun z => ?_, fun _ => ciP.i (hE c' hLk hX) rfl⟩⟩
      rcases hS with y | ⟨h5, y1, y2, y3, y4⟩
      · exact absurd (y.symm.trans z) (by decide)
      · exact q_Rd_kindAtHand F y1 y2 y4 y3 ⟨fun _ => ciP.i (hE c' hLk hX) rfl, fun w => absurd rfl w⟩
end PLOOK
end KB
