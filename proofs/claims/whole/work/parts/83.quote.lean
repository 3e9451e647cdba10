section KB
variable {K : Nat}
/-! a quote begins -/
def WI (x : Int32) : Prop := ∃ w, w ≤ 13000 ∧ x = nI w
theorem RA_set {v : VS} {m : MS} {μ : Nat → Nat} {t o B E i k k' : Nat} {D : DL} {x : Int32} (hR : RA v m μ t o B E D) (hi : i < ct v) (hk : (k = 3 ∧ k' = 15 ∧ kd v i = 2) ∨ (k = 12 ∧ k' = 22 ∧ kd v i = 2) ∨ (k = 11 ∧ k' = 24 ∧ kd v i = 3 ∧ WI x)) : RA (vB v i k x) (mA m k' (μ i) x) μ t o B E D := by
  obtain ⟨rG, rK, rO, rT, rX⟩ := hR
  have hb : ∀ j q, ¬ (j = i ∧ q = k) → vb (vB v i k x) j q = vb v j q := fun j q z => upd2_off z
  have hbk : vb (vB v i k x) i k = x := upd2_here
  have hm : ∀ q j, ¬ (j = μ i ∧ q = k') → (mA m k' (μ i) x).2 q j = m.2 q j := fun q j z => if_neg (fun e => z ⟨e.2, e.1⟩)
  have hmk : (mA m k' (μ i) x).2 k' (μ i) = x := mA_at _ _ _ _
  have hkd : kd (vB v i k x) i = kd v i := by unfold kd; rw [hb i 0 (fun z => by omega)]
  have hns := rT.2.2.2.2.2.2.2.2.2.1
  have hX : TX (vB v i k x) (mA m k' (μ i) x) μ ((tx v).length + E) i := by
    have := rX i hi
    unfold TX at this ⊢
    rw [hkd, hb i 5 (fun z => by omega), hb i 6 (fun z => by omega), hm 18 _ (fun z => by omega), hm 19 _ (fun z => by omega)]
    exact ⟨fun q => (this.1 q).keep (fun _ _ => rfl) (Nat.le_refl _) (fun j _ => hm 7 j (fun z => by omega)) (Nat.le_refl _), this.2⟩
  have hI : IX (vB v i k x) (mA m k' (μ i) x) μ ((tx v).length + E) i := by
    have := (rK i hi).2.1
    unfold IX at this ⊢
    rw [hkd, hb i 7 (fun z => by omega), hb i 8 (fun z => by omega), hm 20 _ (fun z => by omega), hm 21 _ (fun z => by omega)]
    exact ⟨fun q => (this.1 q).keep (fun _ _ => rfl) (Nat.le_refl _) (fun j _ => hm 7 j (fun z => by omega)) (Nat.le_refl _), this.2⟩
  have hB : BK (vB v i k x) (mA m k' (μ i) x) μ i := by
    have hk0 := (rK i hi).1
    unfold BK
    rw [hkd, hb i 0 (fun z => by omega), hb i 1 (fun z => by omega), hb i 2 (fun z => by omega), hb i 4 (fun z => by omega), hb i 9 (fun z => by omega), hb i 10 (fun z => by omega), hb i 13 (fun z => by omega), hm 13 _ (fun z => by omega), hm 14 _ (fun z => by omega), hm 16 _ (fun z => by omega), hm 17 _ (fun z => by omega), hm 27 _ (fun z => by omega)]
    obtain ⟨a1, a2, a3, a4, a5, a6, a7, a8, a9, a10, a11, a12⟩ := hk0
    rcases hk with ⟨rfl, rfl, h2⟩ | ⟨rfl, rfl, h2⟩ | ⟨rfl, rfl, h3, w, hw, rfl⟩
    · rw [hb i 11 (fun z => absurd z.2 (by decide)), hb i 12 (fun z => absurd z.2 (by decide)), hm 22 _ (fun z => absurd z.2 (by decide)), hm 24 _ (fun z => absurd z.2 (by decide)), hbk, hmk]
      exact ⟨a1, a2, a3, a4, a5, rfl, a7, a8, a9, a10, a11, a12.1, fun z => absurd h2 z, a12.2.2⟩
    · rw [hb i 11 (fun z => absurd z.2 (by decide)), hb i 3 (fun z => absurd z.2 (by decide)), hm 15 _ (fun z => absurd z.2 (by decide)), hm 24 _ (fun z => absurd z.2 (by decide)), hbk, hmk]
      exact ⟨a1, a2, a3, a4, a5, a6, a7, a8, a9, a10, fun _ => rfl, a12.1, a12.2.1, fun z => absurd h2 z⟩
    · rw [hb i 12 (fun z => absurd z.2 (by decide)), hb i 3 (fun z => absurd z.2 (by decide)), hm 15 _ (fun z => absurd z.2 (by decide)), hm 22 _ (fun z => absurd z.2 (by decide)), hbk, hmk]
      exact ⟨a1, a2, a3, a4, a5, a6, a7, a8, fun _ => ⟨w, hw, rfl, rfl⟩, fun z => absurd h3 z, a11, a12⟩
  have h10 : (mA m k' (μ i) x).1 10 = nI ((tx v).length + E + ([] : List Int32).length) := rT.2.1
  obtain ⟨u1, u2, u3, u4, u5⟩ := R_upd (v' := vB v i k x) (m' := mA m k' (μ i) x) (os := []) rG rK rO rT hi (fun j h1 _ => rX j h1) (UpV.nil rfl rfl rfl (fun j q z => hb j q (fun y => z ⟨y.1, by omega⟩))) ⟨h10, rfl, rfl, rfl, fun j _ => hm 7 j (fun z => by omega), fun q hq => absurd hq (Nat.not_lt_zero _), fun q j _ z => hm q j (fun y => z ⟨y.1, by omega⟩), hm 13 _ (fun z => by omega), hm 14 _ (fun z => by omega), hm 25 _ (fun z => by omega), hm 26 _ (fun z => by omega)⟩ (by have := rT.1; show _ + 0 ≤ _; omega) (by show _ + 0 ≤ _; omega) hB hI
  refine ⟨u1, u2, u3, u4, fun j hj => ?_⟩
  by_cases e : j = i
  · rw [e]; exact hX
  · exact u5 j hj e
/-- the class has closed what does not take the beginning -/
def TC (K : Nat) (Y : MX) (v2 v3 : VS) (μ : Nat → Nat) (t o B h h' n k : Nat) (D D' : DL) : Prop := StO v2 h h' k ∧ ClS Y v2 v3 μ t o B h' D D' ∧ (h' = t → v3 = v2 ∧ D' = D) ∧ vo v3 = vo v2 ∧ (∀ i, kd v3 i = kd v2 i) ∧ (∀ i j, j ≠ 5 → j ≠ 6 → vb v3 i j = vb v2 i j) ∧ LI v2 t ∧ h ≤ t ∧ h < o ∧ t ≤ 13 ∧ (lx v3 = lx v2 ∧ lp v3 = lp v2 ∧ ld v3 = ld v2 ∧ tx v3 = tx v2) ∧ CB1 v3 h' h' n ∧ (B + phi (lx v2) (lp v2) ≤ K ∧ K ≤ 3002) ∧ vi v3 64 = nI h' ∧ (∀ j, j ≤ h' → vo v3 j < ct v3)
theorem TC.dbeg {Y : MX} {a1 : Array Value} (G : mF Y a1) {m : MS} {m0 : MS → Prop} {v2 v3 v4 : VS} {μ : Nat → Nat} {t o B E h h' n k bt : Nat} {D D' : DL} {x4 : Int32} (hB : RB m0 v2 m μ t o B E D h bt x4) (hT : TC K Y v2 v3 μ t o B h h' n k D D') (hk : 1 ≤ k ∧ k ≤ 7) (h3L : k = 3 → kd v2 (vo v2 h') = 2) (hN : NwC v3 v4 (nI k) (nI (vo v3 h')) (nI n) h') {Ψ : Option Value → MS → Prop} (hΨ : ∀ m' E', RA v4 m' (muP v3 μ B) (h' + 1) (h' + 2) (B + 1) E' D' → kd v4 (ct v3) = k → ((k = 4 ∨ k = 7) → RL v4 m' (muP v3 μ B) (h' + 1) (h' + 2) (B + 1) E' D') → BgR m m' B ((tx v3).length + E') h' k n → Ψ (some (.int (nI B))) m') : mE Y 7 y_Mo_begin [.ref (mo Y), .int (nI k), .int (nI n)] m Ψ := by
  obtain ⟨t1, t2, t3, t4, t5, t6, t7, t8, t9, t10, t11, t12, t13, t14, t15⟩ := hT
  exact d_beg G hB.1 hB.2.2.1 t8 t9 t1 t2 t3 t4 t5 t7 (by omega) (by omega) (by have := t12.2.2.2.1; omega) hk h3L hN hΨ
theorem rowAt_in {xs : List Int32} {k : Nat} {c : Int32} (hk : k < 2 ^ 31) (h : rowAt xs (nI k) = c) (hc : c ≠ -1) : k < xs.length := tA_in (T := xs) hk h hc
theorem d_quote {Y : MX} {a1 : Array Value} (G : mF Y a1) {m : MS} {m0 : MS → Prop} {v2 v3 v4 : VS} {μ : Nat → Nat} {t o B E h h' n bt : Nat} {D D' : DL} {x4 : Int32} (hB : RB m0 v2 m μ t o B E D h bt x4) (hT : TC K Y v2 v3 μ t o B h h' n 1 D D') (hq : rowAt (lx v2) (nI (sA v2)) = 62) (hN : NwC v3 v4 (nI 1) (nI (vo v3 h')) (nI n) h') {M : MS → Prop} (hM : ∀ m', (h' ≤ 11 → ∃ E', RB m0 (mvT v4 (min (qmP (lx v2) (sA v2)) (lx v2).length)) m' (muP v3 μ B) (h' + 1) (h' + 2) (B + 1) E' D' (h' + 1) bt x4) → (12 ≤ h' → m'.1 5 = nI n ∧ FrX m0 m') → M m') : mE Y 8 y_Mo_beginQuote [.ref (mo Y), .int (nI (ld v2)), .int (nI n)] m (vP M) := by
  have hL := hB.2.1
  obtain ⟨hLn, h31, hlp, hld⟩ := hL
  have hlx := hLn.2.2
  have hsp := run_in (xs := lx v2) (p := fun z => z == 32) hlp
  have hspe : ld v2 = runFrom (fun z => z == 32) (lx v2) (lp v2) := hld
  have hT0 := hT
  obtain ⟨t1, t2, t3, t4, t5, t6, t7, t8, t9, t10, ⟨t11, t11b, t11c, t11d⟩, t12, t13, t14, t15⟩ := hT
  have hnx := t12.next hN
  have es : sA v2 = lp v2 + ld v2 := rfl
  have hin : sA v2 < (lx v2).length := rowAt_in (by omega) hq (by decide)
  refine g_Mo_beginQuote G ?_
  unfold w_Mo_beginQuote_0
  refine hT0.dbeg (k := 1) G hB (by decide) (fun z => absurd z (by decide)) hN (fun m1 E' hA hkd _ hG => ⟨nI B, rfl, ?_⟩)
  intro m2 e2
  have e31 : m1.1 31 = nI (lp v2) := by
    rw [hG.1.1 31 (by decide) (by decide) (by decide) (by decide) (by decide) (by decide) (by decide) (by omega)]
    exact h31
  have f31 : m2.1 31 = nI (sA v2 + 1) := by
    rw [e2, mI_at, e31, nI_1, nI_add]
    rfl
  rw [f31]
  have hL1 : LnI m1 (lx v2) := hG.1.l.line hLn
  have hL2 : LnI m2 (lx v2) := by rw [e2]; exact ⟨(mI_ne (by decide)).trans hL1.1, hL1.2⟩
  have hfin : ∀ (p : Int32) (q : Nat), p = nI q → q = qmP (lx v2) (sA v2) → q ≤ (lx v2).length → M (mI m2 31 p) := by
    intro p q hp hqe hle
    have em : mI m2 31 p = mI m1 31 (nI (min (qmP (lx v2) (sA v2)) (lx v2).length)) := by
      rw [e2, mI_mI, hp, hqe, Nat.min_eq_left (by omega)]
    rw [em]
    refine hM _ (fun h11 => ⟨E', ?_⟩) (fun h12 => ⟨?_, ?_⟩)
    · refine RB_push (v'' := v4) (k := 1) hB.2.2.2.2.2.2.1 hB.2.2.2.2.1 hB.2.2.2.1 hA ?_ h11 hG hN.2.2.2.1 ⟨rfl, rfl, rfl, rfl, rfl, rfl, rfl⟩ ⟨mI_ne (by decide), mI_ne (by decide), mI_ne (by decide), mI_ne (by decide), fun _ => rfl, fun _ _ _ _ _ => rfl⟩ (fun j hj => mI_ne hj) rfl ?_
      · rw [hN.2.2.2.2.2.1, hkd]
        decide
      · refine ⟨?_, mI_at _ _ _, ?_, rfl⟩
        · show LnI _ (lx v4)
          rw [hnx.1, t11]
          exact ⟨(mI_ne (by decide)).trans hL1.1, hL1.2⟩
        · show min _ _ ≤ (lx v4).length
          rw [hnx.1, t11]
          exact Nat.min_le_right _ _
    · rw [mI_ne (by decide), hG.2.1, if_pos ⟨by omega, hB.2.2.2.1⟩]
    · exact (hB.2.2.2.2.2.2.1.trans hG.1.l).i (by decide) _
  refine d_Mo_at G hL2 (by omega) ⟨fun c2 => ?_, fun c2 => ?_⟩
  · have hin2 := rowAt_in (by omega) c2 (by decide)
    intro m3 e3
    rw [e3]
    exact ⟨rfl, hfin _ (sA v2 + 1 + 1) (nI_1 _) (by unfold qmP; rw [if_pos c2]) (by omega)⟩
  · intro m3 e3
    rw [e3]
    exact ⟨rfl, hfin _ (sA v2 + 1) (nI_add _ 0) (by unfold qmP; rw [if_neg c2]) (by omega)⟩
theorem q_quote {X : CX} {a0 : Array Value} (F : cF X a0) (hA : TAok X) {c3 : CS} {h' n : Nat} (hC : CB1 c3.1 h' h' n) (hN : ct c3.1 ≤ c3.2.2) (hc : ct c3.1 ≤ 3300) (h64 : vi c3.1 64 = nI h') (h12 : h' ≤ 12) (ho : vo c3.1 h' < ct c3.1) (h1 : vb c3.1 (vo c3.1 h') 1 = nI (vo c3.1 h')) (hq : ld c3.1 < 4 ∧ rowAt (lx c3.1) (nI (sA c3.1)) = 62) {N : Int32 → CS → Prop} (hd : 12 ≤ h' → N 0 c3) (hn : ∀ c4, h' ≤ 11 → ExC c3 c4 → ct c4.1 ≤ c4.2.2 → NwC c3.1 c4.1 (nI 1) (nI (vo c3.1 h')) (nI n) h' → N 1 (mvT c4.1 (min (qmP (lx c3.1) (sA c3.1)) (lx c3.1).length), c4.2)) : cE X 9 y_Rd_beginQuote [.ref (adr X 6)] c3 (ciP N) := by
  refine g_Rd_beginQuote F ?_
  unfold w_Rd_beginQuote_0
  rw [h64, nI_1, lit_leJ (by decide) (by omega)]
  refine ⟨fun z => q_Rd_push F hA hN hc h64 h12 hC.2.2.1 rfl (by omega) (fun c4 e1 e2 e3 => ?_), fun z => ciP.i (hd (by omega)) rfl⟩
  rw [h1] at e3
  have hnx := hC.next e3
  have s4 : sA c4.1 = sA c3.1 := by unfold sA; rw [hnx.2.2.1, hnx.2.2.2]
  refine q_Line_passQuoteMark F (fun y => absurd ?_ y) (fun y => ⟨mZ1, ciP.i ?_ rfl⟩)
  · show ld c4.1 < 4 ∧ rowAt (lx c4.1) (nI (sA c4.1)) = 62
    rw [hnx.2.2.2, hnx.1, s4]
    exact hq
  · have := hn c4 (by omega) e1 e2 e3
    rw [← s4, ← hnx.1] at this
    exact this
end KB
