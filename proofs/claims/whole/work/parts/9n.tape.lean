/-! feed, end, wipe -/
theorem g255 : ∀ j, j < 32 → (255#32).getLsbD j = decide (j < 8) := by decide
theorem low8 (x : Int32) : x.toInt8.toInt32 &&& 255 = x &&& 255 := by
  apply Int32.toBitVec_inj.mp
  rw [Int32.toBitVec_and, Int32.toBitVec_and, Int8.toBitVec_toInt32, Int32.toBitVec_toInt8]
  apply BitVec.eq_of_getLsbD_eq
  intro j hj
  rw [BitVec.getLsbD_and, BitVec.getLsbD_and]
  have e : (255 : Int32).toBitVec = 255#32 := rfl
  rw [e, g255 j hj]
  by_cases h : j < 8
  · rw [BitVec.getLsbD_signExtend, if_pos h, BitVec.getLsbD_signExtend, if_pos hj]
    simp [h, hj]
  · simp [h]
theorem byM (b : Int32) (i : Nat) (hi : i < 4) : ((b >>> ((24 - (8 * nI i)) &&& 31)).toInt8.toInt32).toInt8.toInt32 &&& 255 = byteOf b i := by
  rw [low8, low8]
  unfold byteOf
  have hs : ∀ s : Nat, s ≤ 24 → (b >>> nI s) &&& 255 = (b.toUInt32 >>> (nI s).toUInt32).toInt32 &&& 255 := by
    intro s hs
    have es : (nI s).toBitVec = BitVec.ofNat 32 s := rfl
    apply Int32.toBitVec_inj.mp
    rw [Int32.toBitVec_and, Int32.toBitVec_and]
    apply BitVec.eq_of_getLsbD_eq
    intro j hj
    rw [BitVec.getLsbD_and, BitVec.getLsbD_and]
    have e : (255 : Int32).toBitVec = 255#32 := rfl
    rw [e, g255 j hj]
    by_cases h : j < 8
    · simp only [h, decide_true, Bool.and_true]
      have e1 : (b >>> nI s).toBitVec = b.toBitVec.sshiftRight s := by
        rw [Int32.toBitVec_shiftRight, es]
        have : ((BitVec.ofNat 32 s).smod 32) = BitVec.ofNat 32 s := by
          have hc : ∀ s, s ≤ 24 → (BitVec.ofNat 32 s).smod 32 = BitVec.ofNat 32 s := by decide
          exact hc s hs
        rw [this]
        show b.toBitVec.sshiftRight (BitVec.ofNat 32 s).toNat = _
        rw [BitVec.toNat_ofNat, Nat.mod_eq_of_lt (by omega)]
      have e2 : (b.toUInt32 >>> (nI s).toUInt32).toInt32.toBitVec = b.toBitVec >>> s := by
        show (b.toUInt32 >>> (nI s).toUInt32).toBitVec = _
        rw [UInt32.toBitVec_shiftRight]
        show b.toBitVec >>> ((BitVec.ofNat 32 s) % 32) = _
        have hc : ∀ s, s ≤ 24 → ((BitVec.ofNat 32 s) % 32).toNat = s := by decide
        show b.toBitVec >>> ((BitVec.ofNat 32 s) % 32).toNat = _
        rw [hc s hs]
      rw [e1, e2, BitVec.getLsbD_sshiftRight, BitVec.getLsbD_ushiftRight]
      have : s + j < 32 := by omega
      simp [this]
      omega
    · simp [h]
  have hc : i = 0 ∨ i = 1 ∨ i = 2 ∨ i = 3 := by omega
  rcases hc with e | e | e | e <;> subst e
  · exact hs 24 (by decide)
  · exact hs 16 (by decide)
  · exact hs 8 (by decide)
  · exact hs 0 (by decide)
section TAPE
variable {X : CX} {Y : MX} {a0 a1 : Array Value} {c : CS} {m : MS}
theorem q_MB_feed (F : cF X a0) (b0 b1 b2 b3 b4 : Int32) {N : CS → Prop} (hN : N (vY c.1 (put4 (put4 (put4 (put4 (put4 (vy c.1) 0 b0) 4 b1) 8 b2) 12 b3) 16 b4), c.2)) : cE X 1 y_MB_feed [.ref (adr X 0), .int b0, .int b1, .int b2, .int b3, .int b4] c (cvP N) := by
  intro d σ hV
  have hmb := hV.mb
  obtain ⟨nr, ed, cp, h0, h1, ⟨s0, s2, s4, s5, s6⟩, ⟨r1, r10, r11, r12, r13⟩, hl, ho, hy, hb, hr⟩ := hV
  refine (e_MB_feed F b0 b1 b2 b3 b4 h0 hmb hy).mono (fun r σ' ⟨p1, hI, hK, p4, p5⟩ => ⟨_, ?_, p1, hN⟩)
  refine ⟨nr, ed, cp, hI, h1.trans (hK.mono (by decide)), ⟨s0.keep hK (by decide) (fun _ _ => rfl), s2.keep hK (by decide) (fun _ _ => rfl), s4.keep hK (by decide) (fun _ _ => rfl), s5.keep hK (by decide) (fun _ _ => rfl), s6.keep hK (by decide) (fun _ _ => rfl)⟩, ⟨r1.keep hK (by decide) (by decide), r10.keep hK (by decide) (by decide), r11.keep hK (by decide) (by decide), r12.keep hK (by decide) (by decide), r13.keep hK (by decide) (by decide)⟩, hl.keep hK (by decide) (by decide) (by decide), ho.keep hK (by decide) rfl (fun _ _ => rfl) (Nat.le_refl _), p5, hb, ?_⟩
  unfold RM at hr ⊢
  rw [p4]
  exact hr
theorem q_MB_wipe (F : cF X a0) {N : CS → Prop} (hN : N (vR c.1 1 [], c.2)) : cE X 1 y_MB_wipe [.ref (adr X 0)] c (cvP N) := by
  intro d σ hV
  have hmb := hV.mb
  have hV0 := hV
  obtain ⟨nr, ed, cp, hx⟩ := id hV
  have hrow := hx.2.2.2.1.1
  refine (e_MB_wipe F hV.ji hmb hrow).mono (fun r σ' ⟨p1, hI, hK, p4, p5⟩ => ⟨_, hV.setRow1 hI (hK.mono (by decide)) (fun n' hn' => ?_), p1, hN⟩)
  obtain ⟨h', v, w, u1, u2, u3, u4, u5, u6, u7, u8, u9, u10, u11⟩ := hn'
  obtain ⟨h'', v', w', o1, o2, o3, o4, o5, o6, o7, o8, o9, o10, o11⟩ := id hrow
  rw [u1] at o1
  cases o1
  rw [u2] at o2
  cases o2
  rw [u4] at o4
  cases o4
  exact ⟨_, p5, Nat.le_refl _, by rw [p4]; exact Nat.le_refl _, by rw [p4]; exact Nat.le_refl _⟩
theorem q_MB_end (F : cF X a0) (x : Int32) (hl : (vr c.1 1).length ≤ 3000) {N : Int32 → CS → Prop} (h0 : (x < 0 ∨ 20 < x ∨ 3000 < (vr c.1 1).length + x.toNatClampNeg) → N (-1) c) (h1 : ∀ k, x = nI k → k ≤ 20 → (vr c.1 1).length + k ≤ 3000 → N (nI ((vr c.1 1).length + k)) (vY (vR c.1 1 (vr c.1 1 ++ seg (vy c.1) 0 k)) (fun _ => 0), c.2)) : cE X 3 y_MB_end [.ref (adr X 0), .int x] c (ciP N) := by
  intro d σ hV
  have hmb := hV.mb
  have hV0 := hV
  obtain ⟨nr, ed, cp, j0, j1, ⟨s0, s2, s4, s5, s6⟩, ⟨r1, r10, r11, r12, r13⟩, hli, ho, hy, hb, hr⟩ := hV
  refine (e_MB_end F x j0 hmb hy r1 hl).mono (fun r σ' hq => ?_)
  rcases hq with ⟨z, p1, p2⟩ | ⟨k, z1, z2, z3, p1, hI, hK, p5, n', p6, p7, p8, p9⟩
  · exact ⟨c, by rw [p2]; exact hV0, -1, p1, h0 z⟩
  · refine ⟨_, ?_, _, p1, h1 k z1 z2 z3⟩
    refine ⟨fun j => if j = 1 then n' else nr j, ed, cp, hI, j1.trans (hK.mono (by decide)), ⟨s0.keep hK (by decide) (fun _ _ => rfl), s2.keep hK (by decide) (fun _ _ => rfl), s4.keep hK (by decide) (fun _ _ => rfl), s5.keep hK (by decide) (fun _ _ => rfl), s6.keep hK (by decide) (fun _ _ => rfl)⟩, ⟨p6, r10.keep hK (by decide) (by decide), r11.keep hK (by decide) (by decide), r12.keep hK (by decide) (by decide), r13.keep hK (by decide) (by decide)⟩, hli.keep hK (by decide) (by decide) (by decide), ho.keep hK (by decide) rfl (fun _ _ => rfl) (Nat.le_refl _), p5, hb, ?_⟩
    obtain ⟨y1, y2⟩ := hr
    refine ⟨?_, ?_⟩
    · simp only [Nat.reduceEqDiff, if_true, if_false]
      omega
    · simp only [Nat.reduceEqDiff, if_true, if_false]
      omega
/-- only tape and ready have changed -/
theorem REL.tp {c1 : CS} {m' : MS} (h : REL c m) (hT : TPR c1.1 m') (hv : c1.2 = c.2 ∧ vi c1.1 = vi c.1 ∧ vn c1.1 = vn c.1 ∧ vb c1.1 = vb c.1 ∧ vr c1.1 10 = vr c.1 10 ∧ vr c1.1 12 = vr c.1 12 ∧ vr c1.1 13 = vr c.1 13 ∧ vo c1.1 = vo c.1) (hi : ∀ k, k ≠ 0 → k ≠ 3 → m'.1 k = m.1 k) (ha : ∀ k i, k ≠ 1 → k ≠ 2 → m'.2 k i = m.2 k i) : REL c1 m' := by
  obtain ⟨_, h2, h3, h4, h5⟩ := h
  obtain ⟨v1, v2, v3, v4, v5, v6, v7, v8⟩ := hv
  have ect : ct c1.1 = ct c.1 := by show vn c1.1 23 = _; rw [v3]
  refine ⟨hT, ⟨fun k hk => by rw [ha 52 k (by decide) (by decide), ha 53 k (by decide) (by decide)]; exact h2.1 k hk, by rw [v8]; exact h2.2⟩, by rw [ect, v1]; exact h3, by rw [v2, hi 5 (by decide) (by decide)]; exact h4, ?_⟩
  rcases h5 with z | ⟨y1, y2, D, μ, P, ⟨q1, q2, q3, q4⟩, q5, q6, q7, q8, q9, q10, q11, q12, q13⟩
  · left
    rw [hi 4 (by decide) (by decide), ect, v6, v7, v2]
    exact z
  · right
    have h7 : ∀ i, m'.2 7 i = m.2 7 i := fun i => ha 7 i (by decide) (by decide)
    have hkd : ∀ i, kd c1.1 i = kd c.1 i := fun i => by unfold kd; rw [v4]
    refine ⟨by rw [hi 4 (by decide) (by decide)]; exact y1, by rw [v2, hi 6 (by decide) (by decide)]; exact y2, D, μ, P, ⟨by rw [ect]; exact q1, by rw [ect]; exact q2, q3, by unfold tx; rw [v5]; exact q4⟩, fun i hh => ?_, by rw [hi 39 (by decide) (by decide), ect]; exact q6, fun i hh => ?_, q8.same (hi 40 (by decide) (by decide)) (fun j k z _ _ => ha j k (by omega) (by omega)) (fun i _ => h7 i) (Nat.le_refl _), by rw [v6]; exact q9, by rw [v7]; exact q10, q11, q12, by rw [hi 10 (by decide) (by decide)]; exact q13⟩
    · rw [ha 37 _ (by decide) (by decide), ha 38 _ (by decide) (by decide)]
      exact q5 i (by rw [← ect]; exact hh)
    · obtain ⟨b, hI, hTx⟩ := q7 i (by rw [← ect]; exact hh)
      refine ⟨?_, ?_, ?_⟩
      · unfold FB at b ⊢
        rw [hkd, v4, ha 13 _ (by decide) (by decide), ha 14 _ (by decide) (by decide), ha 15 _ (by decide) (by decide), ha 16 _ (by decide) (by decide), ha 17 _ (by decide) (by decide), ha 22 _ (by decide) (by decide), ha 24 _ (by decide) (by decide), ha 27 _ (by decide) (by decide)]
        exact b
      · unfold IX at hI ⊢
        rw [hkd, v4, ha 20 _ (by decide) (by decide), ha 21 _ (by decide) (by decide)]
        refine ⟨fun z => ?_, hI.2⟩
        unfold tx
        rw [v5]
        exact (hI.1 z).keep (fun _ _ => rfl) (Nat.le_refl _) (fun j _ => h7 j) (Nat.le_refl _)
      · unfold TX at hTx ⊢
        rw [hkd, v4, ha 18 _ (by decide) (by decide), ha 19 _ (by decide) (by decide)]
        refine ⟨fun z => ?_, hTx.2⟩
        unfold tx
        rw [v5]
        exact (hTx.1 z).keep (fun _ _ => rfl) (Nat.le_refl _) (fun j _ => h7 j) (Nat.le_refl _)
theorem a_wipe (F : cF X a0) (G : mF Y a1) (h : REL c m) : ∃ c1, cE X 1 y_MB_wipe [.ref (adr X 0)] c (cvP fun c' => c' = c1) ∧ mE Y 0 y_Mo_wipe [.ref (mo Y)] m (vP fun m' => REL c1 m') := by
  refine ⟨_, q_MB_wipe F rfl, g_Mo_wipe G ?_⟩
  unfold w_Mo_wipe_0
  intro m1 e1 m2 e2
  refine ⟨rfl, ?_⟩
  rw [e2, e1]
  exact h.tp ⟨rfl, Nat.zero_le _, fun k hk => absurd hk (Nat.not_lt_zero _), h.1.2.2.2⟩ ⟨rfl, rfl, rfl, rfl, rfl, rfl, rfl, rfl⟩ (fun k z1 z2 => (mI_ne z2).trans (mI_ne z1)) (fun _ _ _ _ => rfl)
theorem put4_in {f : Nat → Int32} {q k : Nat} {b : Int32} (h1 : q ≤ k) (h2 : k < q + 4) : put4 f q b k = byteOf b (k - q) := if_pos ⟨h1, h2⟩
theorem put4_out {f : Nat → Int32} {q k : Nat} {b : Int32} (h : ¬ (q ≤ k ∧ k < q + 4)) : put4 f q b k = f k := if_neg h
theorem a_feed (F : cF X a0) (G : mF Y a1) (h : REL c m) (b0 b1 b2 b3 b4 : Int32) : ∃ c1, cE X 1 y_MB_feed [.ref (adr X 0), .int b0, .int b1, .int b2, .int b3, .int b4] c (cvP fun c' => c' = c1) ∧ mE Y 0 y_Mo_feed [.ref (mo Y), .int b0, .int b1, .int b2, .int b3, .int b4] m (vP fun m' => REL c1 m') := by
  refine ⟨_, q_MB_feed F b0 b1 b2 b3 b4 rfl, ?_⟩
  generalize hf5 : put4 (put4 (put4 (put4 (put4 (vy c.1) 0 b0) 4 b1) 8 b2) 12 b3) 16 b4 = f5
  refine g_Mo_feed (I8 := fun j x1 x2 x3 x4 x5 x6 m' => x1 = b0 ∧ x2 = b1 ∧ x3 = b2 ∧ x4 = b3 ∧ x5 = b4 ∧ ∃ i, x6 = nI i ∧ j + i = 4 ∧ (∀ k, k ≠ 0 → m'.1 k = m.1 k) ∧ (∀ k q, k ≠ 2 → m'.2 k q = m.2 k q) ∧ ∀ k, k < 20 → k % 4 < i → (m'.2 2 k) &&& 255 = f5 k) G ?_ ?_
  · intro m1 e1
    rw [e1]
    exact ⟨4, rfl, rfl, rfl, rfl, rfl, 0, rfl, rfl, fun k hk => mI_ne hk, fun _ _ _ => rfl, fun k _ hk => absurd hk (Nat.not_lt_zero _)⟩
  · rintro j x1 x2 x3 x4 x5 x6 m' ⟨rfl, rfl, rfl, rfl, rfl, i, rfl, hj, g1, g2, g3⟩
    have e4 : (4 : Int32) + nI i = nI (4 + i) := nI_add 4 i
    have e8 : (8 : Int32) + nI i = nI (8 + i) := nI_add 8 i
    have e12 : (12 : Int32) + nI i = nI (12 + i) := nI_add 12 i
    have e16 : (16 : Int32) + nI i = nI (16 + i) := nI_add 16 i
    unfold w_Mo_feed_8
    rw [lit_leI (by decide) (by omega), e4, e8, e12, e16, vp_nI (by omega), vp_nI (by omega), vp_nI (by omega), vp_nI (by omega), vp_nI (by omega), nI_clamp (by omega), nI_clamp (by omega), nI_clamp (by omega), nI_clamp (by omega), nI_clamp (by omega)]
    refine ⟨fun z => ⟨rfl, ?_⟩, fun z => ⟨by omega, fun m1 h1 => ⟨by omega, fun m2 h2 => ⟨by omega, fun m3 h3 => ⟨by omega, fun m4 h4 => ⟨by omega, fun m5 h5 => ?_⟩⟩⟩⟩⟩⟩
    · refine h.tp ⟨(g1 3 (by decide)).trans h.1.1, h.1.2.1, fun k hk => by rw [g2 1 k (by decide)]; exact h.1.2.2.1 k hk, fun k hk => g3 k hk (by omega)⟩ ⟨rfl, rfl, rfl, rfl, rfl, rfl, rfl, rfl⟩ (fun k z1 _ => g1 k z1) (fun k i z1 z2 => g2 k i z2)
    · rw [nI_1]
      refine ⟨j - 1, by omega, rfl, rfl, rfl, rfl, rfl, i + 1, rfl, by omega, fun k hk => ?_, fun k q hk => ?_, fun k h20 hk => ?_⟩
      · rw [h5, h4, h3, h2, h1]; exact g1 k hk
      · rw [h5, mA_ne hk, h4, mA_ne hk, h3, mA_ne hk, h2, mA_ne hk, h1, mA_ne hk]
        exact g2 k q hk
      · rw [h5]
        by_cases q16 : k = 16 + i
        · rw [q16, mA_at, byM _ _ (by omega), ← hf5, put4_in (by omega) (by omega)]
          congr 1
          omega
        rw [mA_ni q16, h4]
        by_cases q12 : k = 12 + i
        · rw [q12, mA_at, byM _ _ (by omega), ← hf5, put4_out (by omega), put4_in (by omega) (by omega)]
          congr 1
          omega
        rw [mA_ni q12, h3]
        by_cases q8 : k = 8 + i
        · rw [q8, mA_at, byM _ _ (by omega), ← hf5, put4_out (by omega), put4_out (by omega), put4_in (by omega) (by omega)]
          congr 1
          omega
        rw [mA_ni q8, h2]
        by_cases q4 : k = 4 + i
        · rw [q4, mA_at, byM _ _ (by omega), ← hf5, put4_out (by omega), put4_out (by omega), put4_out (by omega), put4_in (by omega) (by omega)]
          congr 1
          omega
        rw [mA_ni q4, h1]
        by_cases q0 : k = i
        · rw [q0, mA_at, byM _ _ (by omega), ← hf5, put4_out (by omega), put4_out (by omega), put4_out (by omega), put4_out (by omega), put4_in (by omega) (by omega)]
          congr 1
        rw [mA_ni q0]
        exact g3 k h20 (by omega)
theorem seg_snoc (f : Nat → Int32) : ∀ k i, seg f i (k + 1) = seg f i k ++ [f (i + k)] := by
  intro k
  induction k with
  | zero => intro i; rfl
  | succ k ih =>
    intro i
    show f i :: seg f (i + 1) (k + 1) = (f i :: seg f (i + 1) k) ++ [f (i + (k + 1))]
    rw [ih, show i + 1 + k = i + (k + 1) by omega]
    rfl
theorem a_end (F : cF X a0) (G : mF Y a1) (h : REL c m) (x : Int32) : ∃ R c1, cE X 3 y_MB_end [.ref (adr X 0), .int x] c (ciP fun r c' => r = R ∧ c' = c1) ∧ mE Y 0 y_Mo_end [.ref (mo Y), .int x] m (iP fun r m' => r = R ∧ REL c1 m') := by
  have hrel := h
  obtain ⟨⟨t1, t2, t3, t4⟩, _⟩ := h
  by_cases hz : x < 0 ∨ 20 < x ∨ 3000 < (vr c.1 1).length + x.toNatClampNeg
  · refine ⟨-1, c, q_MB_end F x t2 (fun _ => ⟨rfl, rfl⟩) (fun k e h1 h2 => absurd hz ?_), g_Mo_end (I31 := fun _ _ _ _ => False) (I71 := fun _ _ _ _ => False) G ?_ (fun _ _ _ _ hf => hf.elim) (fun _ _ _ _ hf => hf.elim)⟩
    · rw [e, nI_clamp (by omega), lit_ltI (by decide) (by omega)]
      rintro (q | q | q)
      · exact nI_lt0 (by omega) q
      · omega
      · omega
    · unfold w_Mo_end_0 w_Mo_end_27
      intro m1 e1
      rw [e1]
      have hfin : iP (fun r m' => r = -1 ∧ REL c m') (some (.int (-1))) (mI m 0 0) := iP.i ⟨rfl, hrel.z 0⟩ rfl
      refine ⟨fun _ => hfin, fun z0 => ⟨fun _ => hfin, fun z1 => ⟨fun z2 => ?_, fun _ => hfin⟩⟩⟩
      exfalso
      obtain ⟨e, hx⟩ := nI_cl z0
      have e3 : (mI m 0 0).1 3 = nI (vr c.1 1).length := t1
      rw [e3, e] at z2
      rw [e] at z1
      have hk : x.toNatClampNeg ≤ 20 := by
        apply Decidable.byContradiction
        intro q
        exact z1 ((lit_ltI (by decide) hx).mpr (by omega))
      rw [nI_add, lit_leJ (by decide) (by omega)] at z2
      rcases hz with q | q | q
      · exact z0 q
      · rw [e] at q; exact z1 q
      · omega
  · have z0 : ¬ x < 0 := fun q => hz (Or.inl q)
    have z1 : ¬ 20 < x := fun q => hz (Or.inr (Or.inl q))
    have z2 : ¬ 3000 < (vr c.1 1).length + x.toNatClampNeg := fun q => hz (Or.inr (Or.inr q))
    obtain ⟨e, hx⟩ := nI_cl z0
    generalize hk : x.toNatClampNeg = k at *
    have hk20 : k ≤ 20 := by
      apply Decidable.byContradiction
      intro q
      rw [e] at z1
      exact z1 ((lit_ltI (by decide) hx).mpr (by omega))
    refine ⟨nI ((vr c.1 1).length + k), (vY (vR c.1 1 (vr c.1 1 ++ seg (vy c.1) 0 k)) (fun _ => 0), c.2), q_MB_end F x t2 (fun q => absurd q (by rw [hk]; exact hz)) (fun k' e' h1 h2 => ?_), ?_⟩
    · have : k' = k := (nI_eq (by omega) (by omega)).mp (e'.symm.trans e)
      rw [this]
      exact ⟨rfl, rfl⟩
    rw [e]
    generalize hts : vr c.1 1 = ts at *
    refine g_Mo_end (I31 := fun j x1 x2 m' => x1 = nI k ∧ ∃ i, x2 = nI i ∧ j + i = k ∧ (∀ q, q ≠ 0 → m'.1 q = m.1 q) ∧ (∀ q p, q ≠ 1 → m'.2 q p = m.2 q p) ∧ ∀ p, p < ts.length + i → (m'.2 1 p) &&& 255 = rowAt (ts ++ seg (vy c.1) 0 i) (nI p)) (I71 := fun j x1 x2 m' => x1 = nI k ∧ ∃ i, x2 = nI i ∧ j + i = 20 ∧ (∀ q, q ≠ 0 → q ≠ 3 → m'.1 q = m.1 q) ∧ m'.1 3 = nI (ts.length + k) ∧ (∀ q p, q ≠ 1 → q ≠ 2 → m'.2 q p = m.2 q p) ∧ (∀ p, p < ts.length + k → (m'.2 1 p) &&& 255 = rowAt (ts ++ seg (vy c.1) 0 k) (nI p)) ∧ ∀ p, p < i → m'.2 2 p = 0) G ?_ ?_ ?_
    · unfold w_Mo_end_0 w_Mo_end_27
      intro m1 e1
      rw [e1]
      have e3 : (mI m 0 0).1 3 = nI ts.length := t1
      rw [e3, nI_add, lit_leJ (by decide) (by omega)]
      refine ⟨fun q => absurd q (nI_lt0 (by omega)), fun _ => ⟨fun q => ?_, fun _ => ⟨fun _ => ⟨k, rfl, 0, rfl, by omega, fun q hq => mI_ne hq, fun _ _ _ => rfl, fun p hp => ?_⟩, fun q => by omega⟩⟩⟩
      · exfalso
        have := (lit_ltI (by decide) (by omega)).mp q
        omega
      · show (m.2 1 p) &&& 255 = rowAt (ts ++ []) (nI p)
        rw [List.append_nil]
        exact t3 p (by omega)
    · rintro j x1 x2 m' ⟨rfl, i, rfl, hj, g1, g2, g3, g4, g5⟩
      unfold w_Mo_end_71
      rw [lit_leI (by decide) (by omega), vp_nI (by omega), nI_clamp (by omega)]
      refine ⟨fun q => iP.i ⟨g2, ?_⟩ rfl, fun q => ⟨by omega, fun m1 e1 => ?_⟩⟩
      · refine hrel.tp ⟨?_, ?_, fun p hp => ?_, fun p hp => ?_⟩ ⟨rfl, rfl, rfl, rfl, rfl, rfl, rfl, rfl⟩ g1 g3
        · show m'.1 3 = nI (ts ++ seg (vy c.1) 0 k).length
          rw [g2, List.length_append, seg_length]
        · show (ts ++ seg (vy c.1) 0 k).length ≤ 3000
          rw [List.length_append, seg_length]
          omega
        · have hp' : p < (ts ++ seg (vy c.1) 0 k).length := hp
          rw [List.length_append, seg_length] at hp'
          exact g4 p hp'
        · rw [g5 p (by omega)]
          show (0 : Int32) &&& 255 = 0
          decide
      · rw [nI_1]
        refine ⟨j - 1, by omega, rfl, i + 1, rfl, by omega, fun q z1 z2 => by rw [e1]; exact g1 q z1 z2, by rw [e1]; exact g2, fun q p z1 z2 => by rw [e1, mA_ne z2]; exact g3 q p z1 z2, fun p hp => by rw [e1, mA_ne (by decide)]; exact g4 p hp, fun p hp => ?_⟩
        rw [e1]
        by_cases q : p = i
        · rw [q, mA_at]
          decide
        · rw [mA_ni q]
          exact g5 p (by omega)
    · rintro j x1 x2 m' ⟨rfl, i, rfl, hj, g1, g2, g3⟩
      have e3 : m'.1 3 = nI ts.length := (g1 3 (by decide)).trans t1
      unfold w_Mo_end_31
      rw [nI_leI (by omega) (by omega), e3, nI_add, nI_add, vp_nI (by omega), nI_clamp (by omega), vp_nI (by omega), nI_clamp (by omega)]
      refine ⟨fun q m1 e1 => ?_, fun q => ⟨by omega, by omega, fun m1 e1 => ?_⟩⟩
      · have ei : i = k := by omega
        rw [e1]
        exact ⟨20, rfl, 0, rfl, rfl, fun q z1 z2 => (mI_ne z2).trans (g1 q z1), mI_at _ _ _, fun q p z1 _ => g2 q p z1, fun p hp => by rw [← ei]; exact g3 p (by omega), fun p hp => absurd hp (Nat.not_lt_zero _)⟩
      · rw [nI_1]
        refine ⟨j - 1, by omega, rfl, i + 1, rfl, by omega, fun q hq => by rw [e1]; exact g1 q hq, fun q p hq => by rw [e1, mA_ne hq]; exact g2 q p hq, fun p hp => ?_⟩
        rw [e1, seg_snoc, ← List.append_assoc, Nat.zero_add]
        have hlen : (ts ++ seg (vy c.1) 0 i).length = ts.length + i := by rw [List.length_append, seg_length]
        by_cases q : p = ts.length + i
        · rw [q, mA_at, low8, g2 2 _ (by decide), t4 i (by omega)]
          have := tA_app2 (o := ts ++ seg (vy c.1) 0 i) (c := vy c.1 i) (by rw [hlen]; omega)
          rw [hlen] at this
          exact this.symm
        · rw [mA_ni q, g3 p (by omega)]
          exact (tA_left (a := ts ++ seg (vy c.1) 0 i) (b := [vy c.1 i]) (k := p) (by omega) (by rw [hlen]; omega)).symm
end TAPE
