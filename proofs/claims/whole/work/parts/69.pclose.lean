/-- what closing may change in the class -/
def FrC (c c' : CS) : Prop := c'.2 = c.2 ∧ (∀ k, ¬ (43 ≤ k ∧ k ≤ 49) → k ≠ 64 → vi c'.1 k = vi c.1 k) ∧ (∀ k, k ≠ 23 → vn c'.1 k = vn c.1 k) ∧ ct c'.1 ≤ ct c.1 ∧ (∀ κ, κ ≠ 12 → κ ≠ 13 → vr c'.1 κ = vr c.1 κ) ∧ vo c'.1 = vo c.1 ∧ vy c'.1 = vy c.1 ∧ ∀ j k, k ≠ 5 → k ≠ 6 → vb c'.1 j k = vb c.1 j k
theorem FrC.rfl {c : CS} : FrC c c := ⟨_root_.rfl, fun _ _ _ => _root_.rfl, fun _ _ => _root_.rfl, Nat.le_refl _, fun _ _ _ => _root_.rfl, _root_.rfl, _root_.rfl, fun _ _ _ _ => _root_.rfl⟩
theorem cbP.b {N : Nat → CS → Prop} {x y : Nat} {c : CS} (h : N x c) (e : y = x) : cbP N (some (.ref y)) c := ⟨y, rfl, e ▸ h⟩
theorem trW_le (T : List Int32) (f : Nat) : ∀ n, trW T f n ≤ n := by
  intro n
  induction n with
  | zero => exact Nat.le_refl _
  | succ n ih =>
    unfold trW
    split <;> omega
theorem trW_ge (T : List Int32) (f : Nat) : ∀ n, f ≤ n → f ≤ trW T f n := by
  intro n
  induction n with
  | zero => intro h; exact h
  | succ n ih =>
    intro h
    unfold trW
    split
    · next q => exact ih (by omega)
    · exact h
section PCLOSE
variable {X : CX} {Y : MX} {a0 a1 : Array Value} {c : CS} {m : MS}
theorem q_Rd_openAt (F : cF X a0) {k : Nat} (hk : k ≤ 13) {N : Nat → CS → Prop} (h : N (c.2.1 (vo c.1 k)) c) : cE X 0 y_Rd_openAt [.ref (adr X 6), .int (nI k)] c (cbP N) := by
  refine g_Rd_openAt F ?_
  simp (discharger := omega) only [w_Rd_openAt_0, w_Rd_openAt_22, w_Rd_openAt_29, lit_leI, vp_nI, nI_clamp]
  exact ⟨fun z => absurd z (nI_lt0 (by omega)), fun _ => ⟨fun z => by omega, fun _ => ⟨by omega, cbP.b h rfl⟩⟩⟩
theorem upd2_here {bf : Nat → Nat → Int32} {i k : Nat} {x : Int32} : upd2 bf i k x i k = x := if_pos ⟨rfl, rfl⟩
theorem upd2_off {bf : Nat → Nat → Int32} {i k : Nat} {x : Int32} {a b : Nat} (h : ¬ (a = i ∧ b = k)) : upd2 bf i k x a b = bf a b := if_neg h
theorem p_close (F : cF X a0) (G : mF Y a1) (hB : BNok X) {μ : Nat → Nat} {t o B E h : Nat} {D : DL} (hN : ct c.1 ≤ c.2.2) (ht13 : t ≤ 13) (hR : RR c.1 m μ t o B E D) (hh : vi c.1 65 = nI h) (hle : h ≤ t) {N : CS → Prop} (hc : ∀ c' D', FrC c c' → ct c.1 ≤ ct c'.1 + 1 → vi c'.1 64 = nI h → (h < t → kd c'.1 (vo c'.1 h) ≤ 3) → (h = t → c' = c ∧ D' = D) → (∀ (m2 : MS) (E2 h2 : Nat) (M : MS → Prop), RR c.1 m2 μ t o B E2 D → h ≤ h2 → h2 < t → (∀ m' E', RA c'.1 m' μ h2 (h2 + 1) B E' D' → FrM m2 m' → M m') → mE Y 6 y_Mo_closeTo [.ref (mo Y), .int (nI (h2 + 1))] m2 (vP M)) → N c') : cE X 8 y_Rd_close [.ref (adr X 6)] c (cvP N) := by
  have hRO : RO c.1 m μ t o := by
    rcases hR.2 with z | z
    · exact z.2.2.1
    · exact z.1.2.2.1
  have hRK : RK c.1 m μ ((tx c.1).length + E) := by
    rcases hR.2 with z | z
    · exact z.2.1
    · exact z.1.2.1
  have ht := hRO.1
  have hlt := hRO.2.2.2.2.1
  refine g_Rd_close F ?_
  unfold w_Rd_close_0 w_Rd_close_47
  rw [hh, hR.1]
  simp (discharger := omega) only [nI_ltI]
  refine ⟨fun c1 => q_Rd_openAt F ht13 ⟨vo c.1 t, ⟨Nat.lt_of_lt_of_le (hlt t (Nat.le_refl _)) hN, rfl⟩, ?_⟩, fun c1 => ?_⟩
  rotate_left
  · have hht : h = t := by omega
    exact ⟨rfl, hc c D FrC.rfl (by omega) (by rw [hht]; exact hR.1) (fun z => by omega) (fun _ => ⟨rfl, rfl⟩) (fun m2 E2 h2 M _ z1 z2 _ => by omega)⟩
  · have hi := hlt t (Nat.le_refl _)
    obtain ⟨hBk, _, _⟩ := hRK _ hi
    have hk4 : vb c.1 (vo c.1 t) 0 = 4 ↔ kd c.1 (vo c.1 t) = 4 := nI_kd hBk 4 (by decide)
    have hkh : kd c.1 (vo c.1 h) ≤ 3 := (hRO.2.2.2.2.2.2.1 h c1).2.2
    -- closed as it is
    have hplain : (∀ (m2 : MS) (E2 h2 : Nat) (v' : VS) (M : MS → Prop), RR c.1 m2 μ t o B E2 D → h2 < t → CV2 c.1 v' → (∀ m', RA v' m' μ h2 (h2 + 1) B E2 D → FrM m2 m' → M m') → mE Y 6 y_Mo_closeTo [.ref (mo Y), .int (nI (h2 + 1))] m2 (vP M)) → ∀ m1, m1 = cI c 64 (vi c.1 65) → (cvP N) none m1 := by
      intro hm m1 e1
      rw [hh] at e1
      subst e1
      exact ⟨rfl, hc _ D ⟨rfl, fun k _ z => cI_ne z, fun _ _ => rfl, Nat.le_refl _, fun _ _ _ => rfl, rfl, rfl, fun _ _ _ _ => rfl⟩ (Nat.le_succ _) (cI_at _ _ _) (fun _ => hkh) (fun z => by omega) (fun m2 E2 h2 M hR2 z1 z2 hM => hm m2 E2 h2 (cI c 64 (nI h)).1 M hR2 z2 ⟨rfl, rfl, rfl, rfl, rfl, rfl⟩ (fun m' hA hF => hM m' E2 hA hF))⟩
    refine ⟨fun c2 => ?_, fun c2 => hplain (fun m2 E2 h2 v' M hR2 hlt2 hv hM => ?_)⟩
    · have h4 := hk4.mp c2
      rcases hR.2 with hL | ⟨hA, hk⟩
      · have hL0 := hL
        obtain ⟨rG, rK, rO, rT, ro, rk, rF, rX⟩ := hL
        obtain ⟨l1, l2, f, l3, l4, l5, l6, l7, l8, l9, l10, l11, l12⟩ := rF
        have hT1 := rT.1
        refine q_Lab_settle (T := tx c.1) (f0 := f) (D0 := D) F hB (Nat.lt_of_lt_of_le hi hN) rfl hT1 l3 l4 rT.2.2.2.2.1 rT.2.2.2.2.2.1 l10 l9 (fun c3 hS => ?_)
        obtain ⟨s1, s2, s3, s4, s5, s6, s7⟩ := hS
        have hge := tkD_ge (T := tx c.1) (f := f) (D := D) (by omega) l4
        generalize hf' : (tkD (tx c.1) f D).1 = f' at *
        generalize hD' : (tkD (tx c.1) f D).2 = D' at *
        generalize htr : trW (tx c.1) f' (tx c.1).length = to at *
        have hto : f' ≤ to ∧ to ≤ (tx c.1).length := by
          rw [← htr]
          exact ⟨trW_ge _ _ _ hge.2.1, trW_le _ _ _⟩
        have hvb3 : vb c3.1 = vb c.1 := by show c3.1.2.2.2.1 = _; rw [s7]
        have hvo3 : vo c3.1 = vo c.1 := by show c3.1.2.2.2.2.1 = _; rw [s7]
        have hvy3 : vy c3.1 = vy c.1 := by show c3.1.2.2.2.2.2 = _; rw [s7]
        have hsub : nI to - nI f' = nI (to - f') := pk_sub hto.1
        -- the state behind settle, with ct n0 and tip h
        have hfin : ∀ (c4 : CS), c4.2 = c3.2 → (∀ k, k ≠ 64 → vi c4.1 k = vi c3.1 k) → vi c4.1 64 = nI h → (∀ k, k ≠ 23 → vn c4.1 k = vn c3.1 k) → ct c4.1 = (if to - f' = 0 then ct c.1 - 1 else ct c.1) → c4.1.2.2 = (cB (cB c3 (vo c.1 t) 5 (nI f')) (vo c.1 t) 6 (nI (to - f'))).1.2.2 → N c4 := by
          intro c4 e1 e2 e3 e4 e5 e6
          have hvr4 : vr c4.1 = vr c3.1 := by show c4.1.2.2.1 = _; rw [e6]; rfl
          have hvo4 : vo c4.1 = vo c.1 := by show c4.1.2.2.2.2.1 = _; rw [e6]; exact hvo3
          have hvy4 : vy c4.1 = vy c.1 := by show c4.1.2.2.2.2.2 = _; rw [e6]; exact hvy3
          have hvb4 : vb c4.1 = upd2 (upd2 (vb c.1) (vo c.1 t) 5 (nI f')) (vo c.1 t) 6 (nI (to - f')) := by show c4.1.2.2.2.1 = _; rw [e6, ← hvb3]; rfl
          have hvbk : ∀ j k, k ≠ 5 → k ≠ 6 → vb c4.1 j k = vb c.1 j k := fun j k z1 z2 => by rw [hvb4, upd2_off (fun y => z2 y.2), upd2_off (fun y => z1 y.2)]
          have hkd4 : ∀ j, kd c4.1 j = kd c.1 j := fun j => by unfold kd; rw [hvbk j 0 (by decide) (by decide)]
          refine hc c4 D' ⟨e1.trans s1, fun k z1 z2 => (e2 k z2).trans (s2 k z1), fun k z => (e4 k z).trans (by rw [s3]), by rw [e5]; split <;> omega, fun κ z1 z2 => by rw [hvr4]; exact s4 κ z1 z2, hvo4, hvy4, hvbk⟩ (by rw [e5]; split <;> omega) e3 (fun _ => by rw [hkd4, hvo4]; exact hkh) (fun z => by omega) (fun m2 E2 h2 M hR2 z1 z2 hM => ?_)
          have hL2 : RL c.1 m2 μ t o B E2 D := by
            rcases hR2.2 with z | z
            · exact z
            · omega
          refine d_closePara (v' := c4.1) (f := f) G hL2 h4 z2 l3 l4 ?_ (fun m' E' hA hF => hM m' E' (by rw [hD'] at hA; exact hA) hF)
          rw [hf', hD', htr]
          refine ⟨by rw [hvr4]; exact s4 10 (by decide) (by decide), by rw [hvr4]; exact s5, by rw [hvr4]; exact s6, hvo4, fun j hj => ?_, fun k z1 z2 => hvbk _ k z1 z2, ?_, ?_, e5⟩
          · funext k
            rw [hvb4, upd2_off (fun y => hj y.1), upd2_off (fun y => hj y.1)]
          · rw [hvb4, upd2_off (fun y => by omega), upd2_here]
          · rw [hvb4, upd2_here]
        rw [hsub]
        refine ⟨fun c3' => q_Tree_dropLast F ?_, fun c3' => ?_⟩
        · have hnlt := bI_0 c3'
          intro m1 e1
          refine ⟨rfl, hfin m1 ?_ (fun k hk => ?_) ?_ (fun k hk => ?_) ?_ ?_⟩
          · rw [e1]; rfl
          · rw [e1, cI_ne hk]; rfl
          · rw [e1, cI_at]
            show vi c3.1 65 = _
            rw [s2 65 (by omega)]
            exact hh
          · rw [e1]
            show (if k = 23 then _ else vn c3.1 k) = _
            rw [if_neg hk]
          · rw [if_pos (by omega), e1]
            show (if (23 : Nat) = 23 then vn c3.1 23 - 1 else vn c3.1 23) = _
            rw [if_pos rfl, s3]
          · rw [e1]; rfl
        · have hlt' := bI_n0 c3'
          intro m1 e1
          refine ⟨rfl, hfin m1 ?_ (fun k hk => ?_) ?_ (fun k hk => ?_) ?_ ?_⟩
          · rw [e1]; rfl
          · rw [e1, cI_ne hk]; rfl
          · rw [e1, cI_at]
            show vi c3.1 65 = _
            rw [s2 65 (by omega)]
            exact hh
          · rw [e1]; rfl
          · rw [if_neg (by omega), e1]
            show vn c3.1 23 = _
            rw [s3]
          · rw [e1]; rfl
      · omega
    · have h4' : ¬ kd c.1 (vo c.1 t) = 4 := fun z => c2 (hk4.mpr z)
      rcases hR2.2 with hL | ⟨hA, hk⟩
      · have h7 : kd c.1 (vo c.1 t) = 7 := hL.2.2.2.2.2.1.resolve_left h4'
        exact d_closeCode G hL h7 hlt2 hv hM
      · refine d_closeRA G hA ?_ hlt2 hv hM
        rcases hk with hk | hk
        · exact Or.inl hk
        · exact Or.inr hk.2
theorem d_closeNone (G : mF Y a1) {v : VS} {μ : Nat → Nat} {t o : Nat} (hRO : RO v m μ t o) {M : MS → Prop} (hM : M m) : mE Y 6 y_Mo_closeTo [.ref (mo Y), .int (nI (t + 1))] m (vP M) := by
  have h1 := hRO.2.2.2.1
  have h2 := hRO.1
  refine d_Mo_closeTo (o := o) G (by omega) (by omega) hRO.2.2.1 (fun k z1 z2 => by omega) ?_
  have : mI m 30 (nI (min o (t + 1))) = m := by
    rw [show min o (t + 1) = o by omega, ← hRO.2.2.1, mI_self]
  rw [this]
  exact hM
end PCLOSE
