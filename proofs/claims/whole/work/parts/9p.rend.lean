/-! read: where it ends -/
def FnR (v : VS) (m' : MS) : Prop := ∃ (μ : Nat → Nat) (B : Nat) (D : DL) (v6 : VS) (m6 : MS) (E : Nat) (R : Nat → Nat → Int32), RA v6 m6 μ 0 1 B E D ∧ v = vBs v6 R ∧ FrF m6 m' ∧ D17 m' μ (ct v6) R ∧ D27 m' μ (ct v6) R ∧ ∀ i q, q ≠ 10 → q ≠ 4 → q ≠ 13 → R i q = vb v6 i q
def RdK (Y : MX) (ms : MS) (S : MS → Prop) (c7 : CS) (n : Nat) : Prop := ∀ d Φ, (∀ m', FnR c7.1 m' → m'.1 5 = -1 → FrR ms m' → m'.1 6 = nI n → Φ none m') → ∀ m, S m → Z114 Y d Φ 0 m
theorem FrR.f {ms m m' : MS} (h : FrR ms m) (h2 : FrF m m') : FrR ms m' := ⟨fun k q => by rw [h2.1]; exact h.1 k q, fun k i q => (h2.2 k i (by omega) (by omega)).trans (h.2 k i q)⟩
section REND
variable {X : CX} {Y : MX} {a0 a1 : Array Value} {c : CS} {ms : MS} {S : MS → Prop} {n : Nat}
theorem p_end (F : cF X a0) (G : mF Y a1) (hBN : BNok X) (hσ : ∃ m σ, S m ∧ MV Y m σ) (hTp : TpI ms (vr c.1 1)) (hI : RdI Y ms S c n) (hta : (vr c.1 1).length ≤ vn c.1 51) {N : CS → Prop} (h : ∀ c7, c7.2 = c.2 → ct c7.1 ≤ c7.2.2 → KVs c.1 c7.1 → RdK Y ms S c7 n → N c7) : cE X 9 y_Rd_finish [.ref (adr X 6)] c (cvP fun c1 => cE X 5 y_Tree_finish [.ref (adr X 2)] c1 (cvP N)) := by
  obtain ⟨hN, μ, t, o, B, D, ⟨k1, k2, k3, k4, k5, k6, k7, k8, k9, k10⟩, hP⟩ := hI
  obtain ⟨mw, Ew, σw, hw, hVw⟩ := wit114 hσ hP
  have hvs : ∀ m' E', ROu ms c.1 m' μ t o B E' D n → ROu ms (cI c 65 0).1 m' μ t o B E' D n := fun m' E' z => z.vs ⟨rfl, rfl, rfl, rfl, rfl, rfl, rfl⟩ ⟨rfl, rfl⟩
  refine g_Rd_finish F ?_
  unfold w_Rd_finish_0
  intro m1 e1
  rw [e1]
  refine p_close (c := cI c 65 0) (m := mw) (h := 0) F G hBN hN (by omega) (hvs mw Ew hw).1 (cI_at _ _ _) (Nat.zero_le _) (fun c' D' f1 f2 f3 f4 f5 f6 => ⟨rfl, ?_⟩)
  -- closed, for all
  have hcl : ∀ m' E', ROu ms c.1 m' μ t o B E' D n → ∀ M : MS → Prop, (∀ m2 E2, RA c'.1 m2 μ 0 1 B E2 D' → FrM m' m2 → M m2) → mE Y 6 y_Mo_closeTo [.ref (mo Y), .int 1] m' (vP M) := by
    intro m' E' hr M hM
    have hr := hvs m' E' hr
    by_cases e : 0 < t
    · exact f6 m' E' 0 M hr.1 (Nat.le_refl _) e hM
    · have et : t = 0 := by omega
      subst et
      obtain ⟨g1, g2⟩ := f5 rfl
      subst g1 g2
      have hk0 : kd (cI c 65 0).1 (vo (cI c 65 0).1 0) ≤ 3 := by
        have hro := hr.1.ro
        rw [hro.2.1]
        have := (hr.1.rk 0 (by have := hr.1.rg.1; omega)).1.1.2.2.mpr rfl
        omega
      obtain ⟨ha, ho⟩ := hr.1.ra hk0
      exact d_closeNone (t := 0) (o := o) G hr.1.ro (hM m' E' ha FrM.rfl)
  -- a witness
  obtain ⟨m6, E6, hA6⟩ : ∃ m6 E6, RA c'.1 m6 μ 0 1 B E6 D' := by
    apply Classical.byContradiction
    intro hn
    have := hcl mw Ew hw (fun _ => False) (fun m2 E2 hA _ => hn ⟨m2, E2, hA⟩)
    obtain ⟨r, σ', _, _, m'', _, hf⟩ := this 0 σw hVw
    exact hf.2
  obtain ⟨s1, s2, s3, s4, s5⟩ := Stc_of hA6
  obtain ⟨g1, g2, g3, g4, g5, g6, g7, g8⟩ := f1
  have hct' : ct c'.1 ≤ ct c.1 := g4
  refine q_Tree_finish F (by have := s1.1.1; exact this) s5 (h _ (by exact g1) ?_ ⟨g5 1 (by decide) (by decide), g2 6 (by omega) (by decide), g2 7 (by omega) (by decide), g7, by show vo c'.1 0 = _; rw [g6]; rfl⟩ ?_)
  · show ct c'.1 ≤ c'.2.2
    rw [g1]
    exact Nat.le_trans hct' hN
  · intro d Φ hnext m hS
    refine hP d Φ (fun m' E' hr => Z114.cl G ?_) m hS
    have hT := hr.2.2.2.1.tp hTp
    unfold w_Mo_readBlocks_114 w_Mo_readBlocks_157
    rw [hT.1, Nat.min_eq_right hta, nI_leI (by omega) (by omega)]
    refine ⟨fun _ => ⟨fun _ => ?_, fun z => absurd hr.2.2.1 z⟩, fun z => absurd (Nat.le_refl _) z⟩
    refine hcl m' E' hr _ (fun m2 E2 hA hF => ?_)
    obtain ⟨s1, s2, s3, s4, s5⟩ := Stc_of hA
    refine d_findLoose G s1 s2 s3 s4 (fun m3 hF3 h17 h27 hst => hnext m3 ⟨μ, B, D', c'.1, m2, E2, _, hA, rfl, hF3, h17, h27, hst⟩ ?_ ((hr.2.2.2.1.l hF.l).f hF3) ?_)
    · rw [hF3.1, hF.1 5 (by decide) (by decide) (by decide) (by omega)]
      exact hr.2.2.1
    · rw [hF3.1, hF.1 6 (by decide) (by decide) (by decide) (by omega)]
      exact hr.2.2.2.2
end REND
section RDPAIR
variable {X : CX} {Y : MX} {a0 a1 : Array Value} {c c7 : CS} {m : MS} {n k : Nat}
theorem TPR.rd {v v' : VS} {m' : MS} (h : TPR v m) (h1 : vr v' 1 = vr v 1) (hy : vy v' = vy v) (hi : m'.1 3 = m.1 3) (ha : ∀ q i, (q = 1 ∨ q = 2) → m'.2 q i = m.2 q i) : TPR v' m' := by
  obtain ⟨t1, t2, t3, t4⟩ := h
  unfold TPR
  rw [h1, hy]
  exact ⟨hi.trans t1, t2, fun k hk => by rw [ha 1 k (Or.inl rfl)]; exact t3 k hk, fun k hk => by rw [ha 2 k (Or.inr rfl)]; exact t4 k hk⟩
/-- what reading leaves of the state before it -/
theorem FrR.rd {m' : MS} (h : FrR (rdS (rd3 m k)) m') : m'.1 3 = m.1 3 ∧ m'.1 4 = 0 ∧ (∀ q i, (q = 1 ∨ q = 2) → m'.2 q i = m.2 q i) ∧ ∀ q i, 52 ≤ q → m'.2 q i = m.2 q i := by
  refine ⟨h.1 3 (by omega), h.1 4 (by omega), fun q i hq => ?_, fun q i hq => ?_⟩
  · rw [h.2 q i (by omega)]
    have : ∀ q, q = 1 ∨ q = 2 → ∀ i, (rdS (rd3 m k)).2 q i = m.2 q i := by
      intro q hq i
      have h8 : ¬ (q = 8 ∧ i < k) := fun z => by omega
      unfold rdS rd3
      show (mA _ 29 0 0).2 q i = _
      rw [mA_ne (by omega)]
      show (mA _ 27 0 _).2 q i = _
      rw [mA_ne (by omega), mA_ne (by omega), mA_ne (by omega), mA_ne (by omega), mA_ne (by omega), mA_ne (by omega), mA_ne (by omega), mA_ne (by omega), mA_ne (by omega), mA_ne (by omega)]
      exact if_neg h8
    exact this q hq i
  · rw [h.2 q i (by omega)]
    have h8 : ¬ (q = 8 ∧ i < k) := fun z => by omega
    unfold rdS rd3
    show (mA _ 29 0 0).2 q i = _
    rw [mA_ne (by omega)]
    show (mA _ 27 0 _).2 q i = _
    rw [mA_ne (by omega), mA_ne (by omega), mA_ne (by omega), mA_ne (by omega), mA_ne (by omega), mA_ne (by omega), mA_ne (by omega), mA_ne (by omega), mA_ne (by omega), mA_ne (by omega)]
    exact if_neg h8
theorem a_readOK (G : mF Y a1) (h : REL c m) (hk : k = (vr c.1 1).length) (hK : RdK Y (rdS (rd3 m k)) (fun m' => m' = rdS (rd3 m k)) c7 n) (hc : ct c7.1 ≤ c7.2.2) (h0 : vo c7.1 0 = 0) (h1 : vr c7.1 1 = vr c.1 1) (hy : vy c7.1 = vy c.1) (h6 : vi c7.1 6 = nI n) (h7 : vi c7.1 7 = -1) : mE Y 12 y_Mo_read [.ref (mo Y)] m (iP fun r m' => r = nI (ct c7.1) ∧ m'.1 0 = 0 ∧ REL c7 m') := by
  have hrel := h
  obtain ⟨ht, ⟨hnm, hvo⟩, _⟩ := h
  refine d_read (k := k) G (by rw [hk]; exact ht.1) (by rw [hk]; exact ht.2.1) (fun d => hK d _ (fun m4 hFn f5 hFr f6 => ⟨rfl, fun _ => ?_, fun q => absurd f5 q⟩) _ rfl)
  obtain ⟨μ, B, D, v6, m6, E, R, hA, ev, hF, h17, h27, hst⟩ := hFn
  obtain ⟨r3, r4, r12, r52⟩ := hFr.rd
  obtain ⟨⟨⟨a1', a2, a3, a4⟩, b1, b2, b3, b4, b5, b6⟩, _, _, _, _⟩ := Stc_of hA
  have hS : Stc (vb v6) (mI (mI m4 0 0) 4 1) μ (ct v6) B := by
    refine ⟨⟨a1', a2, by show m4.1 28 = _; rw [hF.1]; exact a3, a4⟩, b1, b2, fun j hj => by show (m4.2 26 j = 0 ∧ _) ∨ (m4.2 26 j = 1 ∧ _); rw [hF.2 26 j (by decide) (by decide)]; exact b3 j hj, fun i z1 z2 => ?_, fun i hi => ?_, fun i hi => ?_⟩
    · show ∃ u, u < i ∧ _ ∧ m4.2 14 (μ i) = _ ∧ _
      rw [hF.2 14 _ (by decide) (by decide)]
      exact b4 i z1 z2
    · show ∃ k, k ≤ 7 ∧ _ ∧ m4.2 13 (μ i) = _ ∧ _
      rw [hF.2 13 _ (by decide) (by decide)]
      exact b5 i hi
    · show ∃ a, a ≤ 3001 ∧ _ ∧ m4.2 16 (μ i) = _
      rw [hF.2 16 _ (by decide) (by decide)]
      exact b6 i hi
  refine d_countAgain G hS (fun m5 g1 g2 g3 g4 => iP.i ⟨?_, ?_, ?_⟩ rfl)
  · rw [g3, ev]
    rfl
  · rw [g1 0 (by decide)]
    rfl
  · have gi : ∀ q, q ≠ 0 → q ≠ 4 → q ≠ 39 → m5.1 q = m4.1 q := fun q z1 z2 z3 => by rw [g1 q z3, mI_ne z2, mI_ne z1]
    refine ⟨ht.rd h1 hy ((gi 3 (by decide) (by decide) (by decide)).trans r3) (fun q i hq => by rw [g2 q i (by omega) (by omega)]; exact r12 q i hq), ⟨fun q hq => ?_, h0⟩, hc, ?_, Or.inr ⟨?_, ?_, D, ?_⟩⟩
    · rw [g2 52 q (by decide) (by decide), g2 53 q (by decide) (by decide)]
      show m4.2 52 q = _ ∧ m4.2 53 q = _
      rw [r52 52 q (by decide), r52 53 q (by decide)]
      exact hnm q hq
    · rw [h7, gi 5 (by decide) (by decide) (by decide)]
      exact f5.symm
    · rw [g1 4 (by decide)]
      rfl
    · rw [h6, gi 6 (by decide) (by decide) (by decide)]
      exact f6.symm
    · rw [ev]
      exact RFin_of (m := m6) (m1 := m4) hA hF h17 h27 hst ⟨gi 10 (by decide) (by decide) (by decide), gi 40 (by decide) (by decide) (by decide)⟩ (fun q i z1 z2 => g2 q i z1 z2) g3 g4
theorem a_readD (G : mF Y a1) (h : REL c m) (hk : k = (vr c.1 1).length) (hn : n ≤ 3000) (hD : RdD Y (rdS (rd3 m k)) (fun m' => m' = rdS (rd3 m k)) n) (hct : ct c7.1 = 0) (h0 : vo c7.1 0 = 0) (h1 : vr c7.1 1 = vr c.1 1) (hy : vy c7.1 = vy c.1) (h12 : vr c7.1 12 = [] ∧ vr c7.1 13 = []) (h6 : vi c7.1 6 = 0) (h7 : vi c7.1 7 = nI n) : mE Y 12 y_Mo_read [.ref (mo Y)] m (iP fun r m' => r = 0 ∧ m'.1 0 = 1 ∧ REL c7 m') := by
  obtain ⟨ht, ⟨hnm, hvo⟩, _⟩ := h
  refine d_read (k := k) G (by rw [hk]; exact ht.1) (by rw [hk]; exact ht.2.1) (fun d => hD d _ (fun m4 f5 hFr f6 => ⟨rfl, fun q => ?_, fun _ => ?_⟩) _ rfl)
  · rw [f5] at q
    exact absurd q (nI_m1 (by omega))
  · obtain ⟨r3, r4, r12, r52⟩ := hFr.rd
    refine iP.i ⟨rfl, rfl, ?_⟩ rfl
    refine ⟨ht.rd h1 hy r3 (fun q i hq => r12 q i hq), ⟨fun q hq => ?_, h0⟩, by rw [hct]; exact Nat.zero_le _, ?_, Or.inl ⟨r4, hct, h12.1, h12.2, h6⟩⟩
    · show m4.2 52 q = _ ∧ m4.2 53 q = _
      rw [r52 52 q (by decide), r52 53 q (by decide)]
      exact hnm q hq
    · rw [h7]
      exact f5.symm
end RDPAIR
