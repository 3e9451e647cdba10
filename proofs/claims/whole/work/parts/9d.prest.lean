section KB
variable {K : Nat}
/-! the rest of a line: both sides -/
def paV (v : VS) (i f n : Nat) : VS := vB (vB (vR v 10 (tx v ++ paO v i)) i 6 (nI ((tx v ++ paO v i).length - f))) i 10 (nI n)
theorem paO_len (v : VS) (i : Nat) : (paO v i).length ≤ (lx v).length + 1 ∧ (paO v i).countP nsB ≤ (lx v).countP nsB := by
  unfold paO
  rw [List.length_append, sl_len (Nat.le_refl _), List.countP_append]
  have h := sl_count (T := lx v) (a := lp v + ld v) (b := (lx v).length) nsB
  split
  · exact ⟨by show 0 + _ ≤ _; omega, by show 0 + _ ≤ _; omega⟩
  · have e : ([10] : List Int32).countP nsB = 0 := by decide
    rw [e]
    exact ⟨by show 1 + _ ≤ _; omega, by omega⟩
theorem cdO_len (v : VS) : (cdO v).length ≤ (lx v).length + 1 ∧ (cdO v).countP nsB ≤ (lx v).countP nsB := by
  unfold cdO
  rw [List.length_append, sl_len (Nat.le_refl _), List.countP_append]
  have h := sl_count (T := lx v) (a := lp v) (b := (lx v).length) nsB
  have e : ([10] : List Int32).countP nsB = 0 := by decide
  rw [e]
  exact ⟨by show _ + 1 ≤ _; omega, by omega⟩
theorem RR.leaf {v : VS} {m : MS} {μ : Nat → Nat} {t o B E : Nat} {D : DL} (h : RR v m μ t o B E D) (hk : kd v (vo v t) = 4 ∨ kd v (vo v t) = 7) : RL v m μ t o B E D := by
  rcases h.2 with z | z
  · exact z
  · rcases z.2 with y | y <;> omega
theorem RL.from {v : VS} {m : MS} {μ : Nat → Nat} {t o B E : Nat} {D : DL} (h : RL v m μ t o B E D) : ∃ f, vb v (vo v t) 5 = nI f ∧ f ≤ (tx v).length := by
  obtain ⟨l1, l2, f', l3, l4, _⟩ := h.2.2.2.2.2.2.1
  exact ⟨f', l3, l4⟩
section PREST
variable {X : CX} {Y : MX} {a0 a1 : Array Value} {c : CS} {m : MS} {m0 : MS → Prop} {μ : Nat → Nat} {t o B E h n bt : Nat} {D : DL} {x3 x4 x5 : Int32} {T0 : List Int32}
theorem d_addP (G : mF Y a1) {v : VS} {f : Nat} (h64 : vi v 64 = nI t) (hR : RL v m μ t o B E D) (h4 : kd v (vo v t) = 4) (hf : vb v (vo v t) 5 = nI f) (hf2 : f ≤ (tx v).length) (hL : LR v m) (hW : LnW (lx v)) (hT : TB v) (hn : n ≤ 3001) (hb : ¬ (lx v).length ≤ sA v) (h5 : m.1 5 = -1) (hF : FrX m0 m) {M : MS → Prop} (hM : ∀ m2, RE m0 (paV v (vo v t) f n) m2 μ t o B E D → M m2) : mE Y 1 y_Mo_add [.ref (mo Y), .int (nI (μ (vo v t))), .int (nI n)] m (vP M) := by
  have hi := hR.2.2.1.2.2.2.2.1 t (Nat.le_refl _)
  have hμ := hR.1.2.2.2.2.2.1 _ hi
  have hB := hR.1.2.1
  have hbk := (hR.2.1 _ hi).1
  have hrt := hR.2.2.2.1
  have hlx := hL.1.2.2
  have e13 : m.2 13 (μ (vo v t)) = nI 4 := by rw [hbk.2.1, hbk.1.1, h4]
  obtain ⟨l1, l2, f', l3, l4, l5, l6, l7, l8, l9, l10, l11, l12⟩ := hR.2.2.2.2.2.2.1
  have hff : f' = f := (nI_eq (by have := hrt.1; omega) (by have := hrt.1; omega)).mp (l3.symm.trans hf)
  subst hff
  have h19 : m.2 19 (μ (vo v t)) = vb v (vo v t) 6 := by
    rw [l6]
    rcases l12 with y | y | y | y
    · rw [y.2, y.1, Nat.sub_self]
      rfl
    · exact y.2.1.symm
    · omega
    · omega
  refine d_Mo_add (xs := lx v) (os := paO v (vo v t)) (P := (tx v).length + E) (pl := lp v) (k13 := 4) G hL.1 (by omega) hL.2.1 hL.2.2.1 hrt.2.1 (by have := hrt.1; have := hrt.2.2.1; omega) e13 (by decide) ⟨fun _ => ?_, fun z => absurd z (by decide), Or.inl rfl⟩ (fun m2 hm => ?_)
  · rw [h19, ← hL.2.2.2]
  · obtain ⟨q1, q2, q3⟩ := hm.l
    obtain ⟨r1, r2⟩ := RL_para hR h4 hf l4 hL hW hT hn hb rfl (Or.inl rfl) hm
    refine hM m2 ⟨⟨h64, Or.inl r1⟩, fun z => ?_, hF.trans q1, q2.trans h5⟩
    have : kd (paV v (vo v t) f' n) (vo v t) = 4 := by
      show (upd2 (upd2 (vb v) _ 6 _) _ 10 _ (vo v t) 0).toNatClampNeg = 4
      rw [upd2_off (fun y => absurd y.2 (by decide)), upd2_off (fun y => absurd y.2 (by decide))]
      exact h4
    exact absurd (this.symm.trans z) (by decide)
/-- a code's line -/
def CdV (v v' : VS) (i f n : Nat) : Prop := (vb v i 12 ≠ 0 ∨ ¬ (lx v).length ≤ lp v + ld v → v' = vB (vB (vR v 10 (tx v ++ cdO v)) i 6 (nI ((tx v ++ cdO v).length - f))) i 10 (nI n)) ∧ (¬ (vb v i 12 ≠ 0 ∨ ¬ (lx v).length ≤ lp v + ld v) → v' = vR v 10 (tx v ++ cdO v))
theorem CdV.sh {v v' : VS} {i f n : Nat} (h : CdV v v' i f n) : vi v' = vi v ∧ vn v' = vn v ∧ vo v' = vo v ∧ vy v' = vy v ∧ tx v' = tx v ++ cdO v ∧ (∀ κ, κ ≠ 10 → vr v' κ = vr v κ) ∧ ∀ j k, k ≠ 6 → k ≠ 10 → vb v' j k = vb v j k := by
  by_cases q : vb v i 12 ≠ 0 ∨ ¬ (lx v).length ≤ lp v + ld v
  · rw [h.1 q]
    refine ⟨rfl, rfl, rfl, rfl, vr_at v 10 _, fun κ hκ => if_neg hκ, fun j k z1 z2 => ?_⟩
    show upd2 (upd2 (vb v) _ 6 _) _ 10 _ j k = _
    rw [upd2_off (fun y => z2 y.2), upd2_off (fun y => z1 y.2)]
  · rw [h.2 q]
    exact ⟨rfl, rfl, rfl, rfl, vr_at v 10 _, fun κ hκ => if_neg hκ, fun j k z1 z2 => rfl⟩
theorem d_addK (G : mF Y a1) {v v' : VS} {f : Nat} (h64 : vi v 64 = nI t) (hR : RL v m μ t o B E D) (h7 : kd v (vo v t) = 7) (hf : vb v (vo v t) 5 = nI f) (hf2 : f ≤ (tx v).length) (hL : LR v m) (hW : LnW (lx v)) (hT : TB v) (hn : n ≤ 3001) (hne : NE v t t) (h5 : m.1 5 = -1) (hF : FrX m0 m) (hFN : FN v m μ t) (hv : CdV v v' (vo v t) f n) {M : MS → Prop} (hM : ∀ m2, RE m0 v' m2 μ t o B E D → M m2) : mE Y 1 y_Mo_add [.ref (mo Y), .int (nI (μ (vo v t))), .int (nI n)] m (vP M) := by
  have hi := hR.2.2.1.2.2.2.2.1 t (Nat.le_refl _)
  have hμ := hR.1.2.2.2.2.2.1 _ hi
  have hB := hR.1.2.1
  have hbk := (hR.2.1 _ hi).1
  have hrt := hR.2.2.2.1
  have hlx := hL.1.2.2
  have e13 : m.2 13 (μ (vo v t)) = nI 7 := by rw [hbk.2.1, hbk.1.1, h7]
  have e22 : m.2 22 (μ (vo v t)) = vb v (vo v t) 12 := (hbk.2.2.2.2.2.2.2.2.2.2.1 (by omega)).symm
  obtain ⟨f', l3, l4⟩ := hR.from
  have hff : f' = f := (nI_eq (by have := hrt.1; omega) (by have := hrt.1; omega)).mp (l3.symm.trans hf)
  subst hff
  obtain ⟨s1, s2, s3, s4, s5, s6, s7⟩ := hv.sh
  refine d_Mo_add (xs := lx v) (os := cdO v) (P := (tx v).length + E) (pl := lp v) (k13 := 7) G hL.1 (by omega) hL.2.1 hL.2.2.1 hrt.2.1 (by have := hrt.1; have := hrt.2.2.1; omega) e13 (by decide) ⟨fun z => absurd z (by decide), fun _ => rfl, Or.inr rfl⟩ (fun m2 hm => ?_)
  obtain ⟨q1, q2, q3⟩ := hm.l
  have hP : ((7 : Nat) = 4 ∨ m.2 22 (μ (vo v t)) ≠ 0 ∨ ¬ blF (lx v) (lp v)) ↔ (vb v (vo v t) 12 ≠ 0 ∨ ¬ (lx v).length ≤ lp v + ld v) := by
    rw [e22]
    have : blF (lx v) (lp v) ↔ (lx v).length ≤ lp v + ld v := by
      rw [hL.2.2.2]
    rw [this]
    constructor
    · rintro (z | z)
      · exact absurd z (by decide)
      · exact z
    · exact fun z => Or.inr z
  obtain ⟨r1, r2, r3⟩ := RL_code hR h7 hf l4 hL hW hT hn (hne.1 h7) hv.1 hv.2 hP hm
  refine hM m2 ⟨⟨by rw [s1]; exact h64, Or.inl r1⟩, fun z1 z2 => ?_, hF.trans q1, q2.trans h5⟩
  rw [s3] at z1 z2 ⊢
  rw [s7 _ 12 (by decide) (by decide)] at z2 ⊢
  obtain ⟨fl, fi, w1, w2, w3, w4, w5⟩ := hFN h7 z2
  exact ⟨fl, fi, by rw [s1]; exact w1, by rw [s1]; exact w2, by rw [q3 23 _ (by decide) (by decide) (by decide)]; exact w3, by rw [q3 24 _ (by decide) (by decide) (by decide)]; exact w4, w5⟩
theorem paV_vb {v : VS} {i f n : Nat} : ∀ j k, k ≠ 6 → k ≠ 10 → vb (paV v i f n) j k = vb v j k := by
  intro j k z1 z2
  show upd2 (upd2 (vb v) _ 6 _) _ 10 _ j k = _
  rw [upd2_off (fun y => z2 y.2), upd2_off (fun y => z1 y.2)]
theorem paV_kd {v : VS} {i f n : Nat} (j : Nat) : kd (paV v i f n) j = kd v j := by
  unfold kd
  rw [paV_vb j 0 (by decide) (by decide)]
theorem paV_tx {v : VS} {i f n : Nat} : tx (paV v i f n) = tx v ++ paO v i := vr_at v 10 _
theorem paV_vr {v : VS} {i f n κ : Nat} (h : κ ≠ 10) : vr (paV v i f n) κ = vr v κ := if_neg h
theorem CDn_pa {v : VS} {i f : Nat} (ht : t ≤ 13) (hLI : LI v t) (h4 : kd v (vo v t) = 4) (hB : (B ≤ K ∧ K ≤ 3002)) (hT : tx v = T0) : CDn K T0 (paV v i f n) t B := by
  refine ⟨ht, fun z => ?_, fun k hk z => ?_, hB, fun z => ?_, ?_⟩
  · rw [paV_kd] at z
    have : kd v (vo v t) ≤ 3 := z
    omega
  · rw [paV_kd] at z ⊢
    exact hLI k hk z
  · rw [paV_kd] at z
    have : kd v (vo v t) = 7 := z
    omega
  · refine ⟨paO v i, by rw [paV_tx, hT], ?_⟩
    have : lx (paV v i f n) = lx v := paV_vr (by decide)
    rw [this]
    exact paO_len v i
theorem LkC_pa {i f : Nat} (hN : ct c.1 ≤ c.2.2) : LkC c (paV c.1 i f n, c.2) := ⟨ExC.of rfl, hN, paV_vr (by decide), paV_vr (by decide), rfl, rfl, rfl, rfl, rfl, rfl⟩
/-- the class: a paragraph takes the line -/
theorem q_pa (F : cF X a0) {i f : Nat} (hi : i < c.2.2) (hf : vb c.1 i 5 = nI f) (hf2 : f ≤ (tx c.1).length) (hlx : (lx c.1).length ≤ 12000) (hlp : lp c.1 ≤ (lx c.1).length) (hld : ld c.1 = spF (lx c.1) (lp c.1)) (hT : TB c.1) (h66 : vi c.1 66 = nI n) {N : CS → Prop} (hn : N (paV c.1 i f n, c.2)) : cE X 4 y_Rd_addToParagraph [.ref (adr X 6), .ref (c.2.1 i)] c (cvP N) := by
  have hsp := run_in (xs := lx c.1) (p := fun z => z == 32) hlp
  have hspe : ld c.1 = runFrom (fun z => z == 32) (lx c.1) (lp c.1) := hld
  have hT1 := hT.1
  refine q_Rd_addToParagraph F hi hf hf2 (by omega) (by omega) (by omega) (by omega) ?_
  rw [h66]
  exact hn
theorem q_goesWithout (F : cF X a0) (h64 : vi c.1 64 = nI t) (h65 : vi c.1 65 = nI h) (ht : t ≤ 13) (hh : h ≤ t) (ho : vo c.1 t < c.2.2) (hk : vb c.1 (vo c.1 t) 0 = nI (kd c.1 (vo c.1 t))) (hk7 : kd c.1 (vo c.1 t) ≤ 7) {N : Int32 → CS → Prop} (hy : h < t ∧ ¬ (lx c.1).length ≤ sA c.1 ∧ kd c.1 (vo c.1 t) = 4 → N 1 c) (hn : ¬ (h < t ∧ ¬ (lx c.1).length ≤ sA c.1 ∧ kd c.1 (vo c.1 t) = 4) → N 0 c) : cE X 2 y_Rd_goesOnWithoutMarks [.ref (adr X 6)] c (ciP N) := by
  refine g_Rd_goesOnWithoutMarks F ?_
  unfold w_Rd_goesOnWithoutMarks_0 w_Rd_goesOnWithoutMarks_40 w_Rd_goesOnWithoutMarks_41
  rw [h64, h65, nI_leI (by omega) (by omega)]
  refine ⟨fun z => ⟨mZ0, ciP.i (hn (fun y => by omega)) rfl⟩, fun z => q_Line_isBlank F ⟨fun c1 => ?_, fun c1 => ⟨mZ0, ciP.i (hn (fun y => y.2.1 (bI_n0 c1))) rfl⟩⟩⟩
  rw [h64]
  refine q_Rd_openAt F ht ⟨vo c.1 t, ⟨ho, rfl⟩, fun c2 => ⟨mZ1, ciP.i (hy ⟨by omega, bI_0 c1, ?_⟩) rfl⟩, fun c2 => ⟨mZ0, ciP.i (hn (fun y => c2 ?_)) rfl⟩⟩
  · rw [hk] at c2
    exact (lit_eqJ (by decide) (by omega)).mp c2
  · rw [hk]
    exact (lit_eqJ (by decide) (by omega)).mpr y.2.2
theorem p_rest (F : cF X a0) (G : mF Y a1) (hBN : BNok X) (hTA : TAok X) (hN : ct c.1 ≤ c.2.2) (hX : XC K T0 c.1 t B h n) (hw : ∃ m' E', XR m0 c.1 m' μ t o B E' D h bt x4) {N : CS → Prop} (hgo : ∀ c5 μ5 t5 o5 B5 D5, LkC c c5 → CDn K T0 c5.1 t5 B5 → (∀ m' E', XR m0 c.1 m' μ t o B E' D h bt x4 → ∀ x5 Φ, (∀ m5 E5, RE m0 c5.1 m5 μ5 t5 o5 B5 E5 D5 → Φ none m5) → w_Mo_takeLine_187 Y (nI n) (nI bt) x3 x4 x5 m' Φ) → N c5) : cE X 10 y_Rd_takeRest [.ref (adr X 6)] c (cvP N) := by
  refine g_Rd_takeRest F ?_
  unfold w_Rd_takeRest_0
  rcases hX with ⟨h67, hD⟩ | ⟨h67, hC, hT0⟩
  · rw [h67]
    refine ⟨fun z => absurd z (by decide), fun _ => ⟨rfl, hgo c μ t o B D (LkC.rfl hN) hD (fun m' E' hr x5 Φ hΦ => ?_)⟩⟩
    rcases hr with ⟨_, r⟩ | ⟨z, _⟩
    · unfold w_Mo_takeLine_187 w_Mo_takeLine_202
      obtain ⟨r1, r2, r3, r4, r5⟩ := r
      rw [r5]
      exact ⟨fun z => absurd z (by decide), fun _ => hΦ m' E' ⟨r1, r2, r3, r4⟩⟩
    · exact absurd (h67.symm.trans z) (by decide)
  · have hrb : ∀ m' E', XR m0 c.1 m' μ t o B E' D h bt x4 → RB m0 c.1 m' μ t o B E' D h bt x4 := by
      rintro m' E' (⟨z, _⟩ | ⟨_, z⟩)
      · exact absurd (h67.symm.trans z) (by decide)
      · exact z
    obtain ⟨mw, Ew, hw⟩ := hw
    have hB := hrb mw Ew hw
    have hC1 := hC.1
    obtain ⟨a1', a2, a3, a4, a5, a6, a7, a8, a9⟩ := hC1
    obtain ⟨k1, k2, k3, k4, k5, k6, k7, k8, k9⟩ := hB.kds a2
    have h64 := hB.1.1
    have hlx12 := hB.2.1.1.2.2
    have hlp := hB.2.1.2.2.1
    have hld := hB.2.1.2.2.2
    refine ⟨fun _ => q_goesWithout F h64 a1' a5 a2 (by omega) k6 k7 (fun q => ⟨fun z => absurd z (by decide), fun _ => ?_⟩) (fun q => ⟨fun _ => ?_, fun z => absurd rfl z⟩), fun z => absurd h67 z⟩
    · -- without its marks
      rw [h64]
      obtain ⟨f, hf, hf2⟩ := (hB.1.leaf (Or.inl q.2.2)).from
      refine q_Rd_openAt F a5 (q_pa F (by omega) hf hf2 hlx12 hlp hld a9 a3 ⟨rfl, hgo _ μ t o B D (LkC_pa hN) (CDn_pa a5 a7 q.2.2 hC.2.1.2 hT0) (fun m' E' hr x5 Φ hΦ => ?_)⟩)
      have hr := hrb m' E' hr
      refine d_187 G hr a2 (fun _ eb _ => ?_) (fun z => absurd q z)
      rw [eb]
      exact d_addP G h64 (hr.1.leaf (Or.inl q.2.2)) q.2.2 hf hf2 hr.2.1 a8 a9 (by omega) q.2.1 hr.2.2.2.1 hr.2.2.2.2.2.2.1 (fun m2 h2 => hΦ m2 E' h2)
    · by_cases hleaf : kd c.1 (vo c.1 h) = 4 ∨ kd c.1 (vo c.1 h) = 7
      · -- a leaf at hand
        have eht : h = t := by
          apply Decidable.byContradiction
          intro z
          have := k9 (by omega)
          omega
        subst eht
        have hne4 := hC.2.2.2
        obtain ⟨f, hf, hf2⟩ := (hB.1.leaf hleaf).from
        have h56 : w_Rd_takeRest_56 X c (cvP N) := by
          unfold w_Rd_takeRest_56
          refine q_closeNo F h64 a1' (by omega) ?_
          refine g_Rd_addRest F ?_
          unfold w_Rd_addRest_0 w_Rd_addRest_61
          rw [a1']
          refine q_Rd_openAt F (by omega) ⟨vo c.1 h, ⟨by omega, rfl⟩, ?_⟩
          rw [k1]
          refine ⟨fun z => ?_, fun z => ⟨vo c.1 h, ⟨by omega, rfl⟩, ?_⟩⟩
          · have hk : kd c.1 (vo c.1 h) = 7 := (lit_eqJ (by decide) (by omega)).mp z
            have hcd : ∀ c5 : CS, c5.2 = c.2 → CdV c.1 c5.1 (vo c.1 h) f n → N c5 := by
              intro c5 e1 e2
              obtain ⟨s1, s2, s3, s4, s5, s6, s7⟩ := e2.sh
              have hkd5 : ∀ i, kd c5.1 i = kd c.1 i := fun i => by unfold kd; rw [s7 i 0 (by decide) (by decide)]
              refine hgo c5 μ h o B D ⟨ExC.of e1, by rw [e1]; show vn c5.1 23 ≤ _; rw [s2]; exact hN, s6 1 (by decide), s6 11 (by decide), by rw [s2], by rw [s1], by rw [s1], by rw [s1], s4, by rw [s3]⟩ ⟨a5, fun y => ?_, fun k hk2 => ?_, hC.2.1.2, fun _ y => ?_, ?_⟩ (fun m' E' hr x5 Φ hΦ => ?_)
              · rw [s3, hkd5] at y
                omega
              · rw [s3, hkd5, hkd5]
                exact a7 k hk2
              · rw [s3] at y ⊢
                have hr := hB
                have hP : (vb c.1 (vo c.1 h) 12 ≠ 0 ∨ ¬ (lx c.1).length ≤ lp c.1 + ld c.1) ↔ (vb c.1 (vo c.1 h) 12 ≠ 0 ∨ ¬ (lx c.1).length ≤ lp c.1 + ld c.1) := Iff.rfl
                rw [s7 _ 12 (by decide) (by decide)] at y
                by_cases hbl : (lx c.1).length ≤ lp c.1 + ld c.1
                · have e6 : vb c5.1 (vo c.1 h) 6 = vb c.1 (vo c.1 h) 6 := by
                    rw [e2.2 (fun w => by
                      rcases w with w | w
                      · exact w y
                      · exact w hbl)]
                    rfl
                  rw [e6]
                  intro w
                  exact hC.2.2.1 hk y w hbl
                · rw [e2.1 (Or.inr hbl)]
                  show upd2 (upd2 (vb c.1) _ 6 _) _ 10 _ (vo c.1 h) 6 ≠ 0
                  rw [upd2_off (fun w => absurd w.2 (by decide)), upd2_here]
                  have hT1 := a9.1
                  refine nI_n0 ?_ ?_
                  · have := (cdO_len c.1).1
                    rw [List.length_append]
                    omega
                  · rw [List.length_append]
                    have : (cdO c.1).length = (lx c.1).length - lp c.1 + 1 := by rw [List.length_append, sl_len (Nat.le_refl _)]; rfl
                    omega
              · refine ⟨cdO c.1, by rw [s5, hT0], ?_⟩
                have : lx c5.1 = lx c.1 := s6 11 (by decide)
                rw [this]
                exact cdO_len c.1
              · have hr := hrb m' E' hr
                refine d_187 G hr a2 (fun y => by omega) (fun _ => d_243l G hr hleaf ?_)
                exact d_addK G h64 (hr.1.leaf hleaf) hk hf hf2 hr.2.1 a8 a9 (by omega) hC.2.2 hr.2.2.2.1 hr.2.2.2.2.2.2.1 hr.2.2.2.2.2.1 e2 (fun m2 h2 => hΦ m2 E' h2)
            have hT1 := a9.1
            refine q_Rd_addToCode F (by omega) hf hf2 (by omega) (by omega) (by omega) (fun y => ⟨rfl, rfl, hcd _ rfl ⟨fun _ => ?_, fun w => absurd y w⟩⟩) (fun y => ⟨rfl, rfl, hcd _ rfl ⟨fun w => absurd w y, fun _ => rfl⟩⟩)
            rw [a3]
            rfl
          · rw [k1]
            have hk : kd c.1 (vo c.1 h) = 4 := by
              rcases hleaf with y | y
              · exact y
              · exact absurd ((lit_eqJ (by decide) (by omega)).mpr y) z
            refine ⟨fun _ => ?_, fun y => absurd ((lit_eqJ (by decide) (by omega)).mpr hk) y⟩
            refine q_pa F (by omega) hf hf2 hlx12 hlp hld a9 a3 ⟨rfl, rfl, hgo _ μ h o B D (LkC_pa hN) (CDn_pa a5 a7 hk hC.2.1.2 hT0) (fun m' E' hr x5 Φ hΦ => ?_)⟩
            have hr := hrb m' E' hr
            refine d_187 G hr a2 (fun y => by omega) (fun _ => d_243l G hr hleaf ?_)
            exact d_addP G h64 (hr.1.leaf hleaf) hk hf hf2 hr.2.1 a8 a9 (by omega) (hne4 hk) hr.2.2.2.1 hr.2.2.2.2.2.2.1 (fun m2 h2 => hΦ m2 E' h2)
        refine q_Line_isBlank F ⟨fun _ => ?_, fun _ => h56⟩
        refine q_Rd_kindAtHand F a1' (by omega) (by omega) k1 ⟨fun z => ?_, fun _ => h56⟩
        have := (lit_eqJ (by decide) (by omega)).mp z
        omega
      · -- a container at hand
        have hk3 : kd c.1 (vo c.1 h) ≤ 3 := by omega
        have hgo2 : ∀ h' k, StO c.1 h h' k → ((lx c.1).length ≤ sA c.1 → h' = h) → (¬ (lx c.1).length ≤ sA c.1 → k = 4) → w_Rd_takeRest_56 X (cI c 65 (nI h')) (cvP N) := by
          intro h' k hst hbl hnb
          unfold w_Rd_takeRest_56
          refine turn_close F G hBN hB hC hN hst (fun c3 D' q1 q2 q3 _ q5 => ?_)
          have hq2 := q2
          obtain ⟨w1, w2, w3, w4, w5, w6, w7, w8, w9, w10, ⟨w11, w11b, w11c, w11d⟩, w12, w13, w14, w15⟩ := q2
          obtain ⟨p1, p2, p3, p4, p5, p6, p7, p8, p9, p10⟩ := q3
          have hlx3 : lx c3.1 = lx c.1 := w11
          have hlp3 : lp c3.1 = lp c.1 := w11b
          have hld3 : ld c3.1 = ld c.1 := w11c
          have htx3 : tx c3.1 = tx c.1 := w11d
          have hsA : sA c3.1 = sA c.1 := by unfold sA; rw [hlp3, hld3]
          have hkd3 : ∀ i, kd c3.1 i = kd c.1 i := w5
          have hvo3 : vo c3.1 = vo c.1 := w4
          have hht : h' ≤ h := by rcases hst with z | z <;> omega
          have hk3' : kd c3.1 (vo c3.1 h') ≤ 3 := by
            rw [hkd3, hvo3]
            by_cases e : h' < t
            · exact (hB.1.ro.2.2.2.2.2.2.1 h' e).2.2
            · have : h' = h := by omega
              rw [this]
              exact hk3
          have hvb0 : vb c3.1 (vo c3.1 h') 0 = nI (kd c3.1 (vo c3.1 h')) := by
            rw [w6 _ 0 (by decide) (by decide), hkd3, hvo3]
            exact (hB.1.rk _ (hB.1.ro.2.2.2.2.1 h' (by omega))).1.1.1
          have hB2 : ∀ m' E', RB m0 c.1 m' μ t o B E' D h bt x4 → RB m0 (cI c 65 (nI h')).1 m' μ t o B E' D h bt x4 := fun m' E' z => z.vs ⟨rfl, rfl, rfl, rfl, rfl, rfl, rfl⟩ ⟨rfl, rfl, rfl⟩ ⟨rfl, rfl⟩
          refine g_Rd_addRest F ?_
          unfold w_Rd_addRest_0 w_Rd_addRest_61
          rw [p1.1]
          refine q_Rd_openAt F (by omega) ⟨vo c3.1 h', ⟨by have := p6 h' (Nat.le_refl _); omega, rfl⟩, ?_⟩
          rw [hvb0]
          refine ⟨fun z => ?_, fun _ => ⟨vo c3.1 h', ⟨by have := p6 h' (Nat.le_refl _); omega, rfl⟩, ?_⟩⟩
          · have := (lit_eqJ (by decide) (by omega)).mp z
            omega
          rw [hvb0]
          refine ⟨fun z => ?_, fun _ => q_Line_isBlank F ⟨fun b1 => ?_, fun b1 => ⟨rfl, rfl, ?_⟩⟩⟩
          · have := (lit_eqJ (by decide) (by omega)).mp z
            omega
          · -- a paragraph begins
            have hb1 : ¬ (lx c.1).length ≤ sA c.1 := by
              have := bI_0 b1
              intro z
              apply this
              show (lx c3.1).length ≤ sA c3.1
              rw [hlx3, hsA]
              exact z
            have hk4 := hnb hb1
            subst hk4
            refine q_Rd_push (k := 4) F hTA p2 (by omega) p4 p5 p1.2.2.1 rfl (by have := p6 h' (Nat.le_refl _); omega) (fun c4 e1 e2 e3 => ?_)
            rw [p7] at e3
            have hnx := p1.next e3
            have hno2 : kd c3.1 (vo c3.1 h') = 2 → (4 : Nat) = 3 := by
              intro z
              rw [hkd3, hvo3] at z
              rcases hst with y | y
              · rw [y.1] at z
                exact absurd ⟨z, by decide⟩ y.2.2
              · have := a7 h' (by omega) z
                rw [y.1] at this
                rcases y.2 with w | w <;> omega
            have hP := p1.push e3 p6 (by decide) (fun z => absurd z (by decide)) p5 hno2
            have hvo := e3.2.2.2.2.2.1
            have h4 : kd c4.1 (vo c4.1 (h' + 1)) = 4 := by rw [hvo, hP.2.1]
            have hf4 : vb c4.1 (ct c3.1) 5 = nI (tx c3.1).length := by rw [e3.2.2.1]; rfl
            have hlx4 : lx c4.1 = lx c.1 := hnx.1.trans hlx3
            have hlp4 : lp c4.1 = lp c.1 := hnx.2.2.1.trans hlp3
            have hld4 : ld c4.1 = ld c.1 := hnx.2.2.2.trans hld3
            have htx4 : tx c4.1 = tx c.1 := hnx.2.1.trans htx3
            have hTB4 : TB c4.1 := hP.1.2.2.2.2.2.2.2.2
            have hph := phi_pos hld (by omega) hb1
            have hB1 := hC.2.1.1 (by omega)
            have hvo4 : vo c4.1 (h' + 1) = ct c3.1 := hvo
            rw [← hvo4]
            rw [← hvo4] at hf4
            refine q_pa F (by rw [hvo4]; have := e3.1; omega) hf4 (by rw [hnx.2.1]; exact Nat.le_refl _) (by rw [hlx4]; exact hlx12) (by rw [hlx4, hlp4]; exact hlp) (by rw [hlx4, hlp4, hld4]; exact hld) hTB4 hP.1.2.2.1 ⟨rfl, rfl, hgo _ (muP c3.1 μ B) (h' + 1) (h' + 2) (B + 1) D' ((q1.trans ⟨e1, e2, KV.push e3⟩).trans (LkC_pa e2)) (CDn_pa (by omega) hP.1.2.2.2.2.2.2.1 h4 (by omega) (htx4.trans hT0)) (fun m' E' hr x5 Φ hΦ => ?_)⟩
            have hr := hrb m' E' hr
            have hr2 := hB2 m' E' hr
            refine d_187 G hr a2 (fun y => absurd y q) (fun _ => ?_)
            refine d_243k (v3 := c3.1) (h' := h') (D' := D') G hr2 a2 hk3 (fun z M hM => w2 m' E' h M hr2.1 hht z hM) hlx3 (by rw [hkd3, hvo3]; rfl) (fun y => absurd y hb1) (fun _ m1 E1 hA hS hF => ?_)
            refine d_begP G hr2 hq2 hk3 e3 hA hS hF (fun m5 E5 hRL _ hG => ⟨nI B, rfl, ?_⟩)
            have eμ : muP c3.1 μ B (vo c4.1 (h' + 1)) = B := by rw [hvo4]; exact if_pos rfl
            have hFL : FrL m' m5 := hF.l.trans hG.1.l
            have h5 : m5.1 5 = -1 := by
              rw [hG.2.1, if_neg (fun y => by omega), hF.1 5 (by decide) (by decide) (by decide) (by omega)]
              exact hr.2.2.2.1
            have h31 : m5.1 31 = nI (lp c.1) := by
              rw [hG.1.1 31 (by decide) (by decide) (by decide) (by decide) (by decide) (by decide) (by decide) (by omega), hF.1 31 (by decide) (by decide) (by decide) (by omega)]
              exact hr.2.1.2.1
            have hLR : LR c4.1 m5 := ⟨by rw [hlx4]; exact hFL.line hr.2.1.1, by rw [hlp4]; exact h31, by rw [hlx4, hlp4]; exact hlp, by rw [hlx4, hlp4, hld4]; exact hld⟩
            have := d_addP (m0 := m0) (n := n) (f := (tx c3.1).length) G e3.2.2.2.1 hRL h4 hf4 (by rw [hnx.2.1]; exact Nat.le_refl _) hLR (by rw [hlx4]; exact a8) hTB4 (by omega) (by unfold sA; rw [hlx4, hlp4, hld4]; exact hb1) h5 (hr.2.2.2.2.2.2.1.trans hFL) (fun m2 h2 => hΦ m2 E5 h2)
            rw [eμ] at this
            exact this
          · -- blank
            have hb1 : (lx c.1).length ≤ sA c.1 := by
              have := bI_n0 b1
              rw [← hlx3, ← hsA]
              exact this
            have hh' := hbl hb1
            subst hh'
            refine hgo c3 μ h' (h' + 1) B D' q1 ⟨by omega, fun _ => p5, p1.2.2.2.2.2.2.1, hC.2.1.2, fun z => by omega, by rw [htx3, hT0]; exact GrT.rfl⟩ (fun m' E' hr x5 Φ hΦ => ?_)
            have hr := hrb m' E' hr
            have hr2 := hB2 m' E' hr
            refine d_187 G hr a2 (fun y => absurd y q) (fun _ => ?_)
            refine d_243k (v3 := c3.1) (h' := h') (D' := D') G hr2 a2 hk3 (fun z M hM => w2 m' E' h' M hr2.1 hht z hM) hlx3 (by rw [hkd3, hvo3]; rfl) (fun _ m1 E1 hA hS hF => ?_) (fun y => absurd hb1 y)
            have h5 : m1.1 5 = -1 := by
              rw [hF.1 5 (by decide) (by decide) (by decide) (by omega)]
              exact hr.2.2.2.1
            by_cases e : h' < t
            · exact hΦ m1 E1 ⟨⟨p4, Or.inr ⟨hA e, Or.inl ⟨hk3', rfl⟩⟩⟩, fun z => by omega, hr.2.2.2.2.2.2.1.trans hF.l, h5⟩
            · have et : h' = t := by omega
              have em := hS et
              obtain ⟨e3, e4⟩ := w3 et
              subst et
              rw [em]
              refine hΦ m' E' ⟨?_, fun z => by omega, hr.2.2.2.2.2.2.1, hr.2.2.2.1⟩
              rw [e3, e4]
              have hra := hr.1.ra hk3
              have := hr.1
              rw [hra.2] at this
              exact ⟨this.1, Or.inr ⟨(RA.vs hra.1 rfl rfl rfl rfl), Or.inl ⟨hk3, rfl⟩⟩⟩
        have hself : cI c 65 (nI h) = c := by
          have := vI_self c.1 65
          rw [a1'] at this
          show (vI c.1 65 (nI h), c.2) = c
          rw [this]
        refine q_Line_isBlank F ⟨fun b1 => ?_, fun b1 => ?_⟩
        · have hb1 : ¬ (lx c.1).length ≤ sA c.1 := bI_0 b1
          refine q_Rd_kindAtHand F a1' (by omega) (by omega) k1 ⟨fun z => ?_, fun z => ?_⟩
          · have h2 := (lit_eqJ (by decide) (by omega)).mp z
            intro m4 e4
            have h0 : h ≠ 0 := fun y => by
              have := k3.mpr y
              omega
            obtain ⟨h', rfl⟩ : ∃ h', h = h' + 1 := ⟨h - 1, by omega⟩
            rw [e4, a1', nI_pred]
            exact hgo2 h' 4 (Or.inr ⟨rfl, Or.inr ⟨h2, by decide⟩⟩) (fun y => absurd y hb1) (fun _ => rfl)
          · have h2 : kd c.1 (vo c.1 h) ≠ 2 := fun y => z ((lit_eqJ (by decide) (by omega)).mpr y)
            rw [← hself]
            exact hgo2 h 4 (Or.inl ⟨rfl, hk3, fun y => h2 y.1⟩) (fun y => absurd y hb1) (fun _ => rfl)
        · have hb1 : (lx c.1).length ≤ sA c.1 := bI_n0 b1
          rw [← hself]
          exact hgo2 h 3 (Or.inl ⟨rfl, hk3, fun y => y.2 rfl⟩) (fun _ => rfl) (fun y => absurd hb1 y)
end PREST
end KB
