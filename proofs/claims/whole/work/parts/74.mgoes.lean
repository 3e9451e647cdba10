section MOGOES
variable {Y : MX} {a1 : Array Value} {m : MS} {N : Int32 → MS → Prop}
theorem d_Mo_goesOn (G : mF Y a1) {v : VS} {μ : Nat → Nat} {i w fl fi : Nat} {n : Int32} (hμ : μ i < 3300) (hK : BK v m μ i) (hL : LR v m) (hh : kd v i = 3 → (m.2 25 (μ i) = 0 ↔ ¬ (i + 1 < ct v ∧ vb v (i + 1) 2 = nI i))) (hw : kd v i = 3 → vb v i 11 = nI w ∧ w ≤ 13000) (hfl : kd v i = 7 → vb v i 12 ≠ 0 → (m.2 23 (μ i) = nI fl ∧ m.2 24 (μ i) = nI fi ∧ 0 < fl ∧ fl ≤ 13000 ∧ fi ≤ 13000) ∧ vb v i 12 ≠ -1) (h34 : m.1 34 = 0)
    (h0 : (gOut v i w fl fi).1 = 0 → N 0 m) (h1 : (gOut v i w fl fi).1 = 1 → N 1 (mI m 31 (nI (gOut v i w fl fi).2))) (h2 : (gOut v i w fl fi).1 = 2 → ∀ x, N 1 (mI (mI m 34 1) 31 x)) : mE Y 2 y_Mo_goesOn [.ref (mo Y), .int (nI (μ i)), .int n] m (iP N) := by
  have hk := hK.1
  have hk7 := hk.2.1
  obtain ⟨hLn, h31, hlp, hld⟩ := hL
  have hlx := hLn.2.2
  have hsp := run_in (xs := lx v) (p := fun z => z == 32) hlp
  have hspe : spF (lx v) (lp v) = runFrom (fun z => z == 32) (lx v) (lp v) := rfl
  have e53 : vn v 53 = ld v := rfl
  have e52 : vn v 52 = lp v := rfl
  have e11 : (vr v 11).length = (lx v).length := rfl
  have h13 : m.2 13 (μ i) = nI (kd v i) := by rw [hK.2.1]; exact hk.1
  have hself : mI m 31 (nI (lp v)) = m := by rw [← h31, mI_self]
  refine g_Mo_goesOn G ?_
  unfold w_Mo_goesOn_0
  refine d_Mo_indent G hLn h31 (by omega) ?_
  rw [← hld, h31]
  refine d_Mo_isBlank G hLn (by omega) ?_
  have hbl : blF (lx v) (lp v) ↔ (lx v).length ≤ lp v + ld v := by unfold blF; rw [hld]
  have hat : ∀ k (N2 : Int32 → MS → Prop), k < 100000 → N2 (rowAt (lx v) (nI k)) m → mE Y 0 y_Mo_at [.ref (mo Y), .int (nI k)] m (iP N2) := fun k N2 hk h => d_Mo_at G hLn (by omega) h
  simp (discharger := omega) only [vp_nI, nI_clamp, h13]
  refine ⟨hμ, fun z => ?_, fun z => ?_, fun z => ?_, fun z => ?_, fun z => ?_, fun z => ?_, fun z => ?_, fun z => ?_⟩
  · rw [nI_toInt (by omega)] at z
    have hk0 : kd v i = 0 := by omega
    exact iP.i (h0 (by unfold gOut; simp [hk0])) rfl
  · have hz : kd v i = 1 := (nI_eq (by omega) (by decide)).mp z
    have hG : gOut v i w fl fi = (if ld v < 4 ∧ rowAt (lx v) (nI (lp v + ld v)) = 62 then (1, min (qmP (lx v) (lp v + ld v)) (lx v).length) else (0, 0)) := by unfold gOut; rw [if_pos hz]
    rw [h31, nI_add]
    simp (discharger := omega) only [lit_ltI]
    refine ⟨fun c => iP.i (h0 (by rw [hG, if_neg (fun y => by omega)])) rfl, fun c => hat _ _ (by omega) ⟨fun c1 => ?_, fun c1 => iP.i (h0 (by rw [hG, if_neg (fun y => c1 y.2)])) rfl⟩⟩
    intro m4 e4
    have hin : lp v + ld v < (lx v).length := tA_in (T := lx v) (by omega) c1 (by decide)
    have f31 : m4.1 31 = nI (lp v + ld v + 1) := by
      rw [e4, mI_at, h31, nI_1, nI_add]
      rfl
    rw [f31]
    have hL4 : LnI m4 (lx v) := by rw [e4]; exact ⟨(mI_ne (by decide)).trans hLn.1, hLn.2⟩
    refine d_Mo_at G hL4 (by omega) ?_
    rw [if_pos ⟨by omega, c1⟩] at hG
    have hq : ∀ (x p : Int32) , p = nI (qmP (lx v) (lp v + ld v)) → qmP (lx v) (lp v + ld v) ≤ (lx v).length → ∀ m1, m1 = mI m4 31 p → iP N (some (.int 1)) m1 := by
      intro x p hp hle m1 em
      rw [hG] at h1
      have := h1 rfl
      rw [show min (qmP (lx v) (lp v + ld v)) (lx v).length = qmP (lx v) (lp v + ld v) by omega] at this
      refine iP.i ?_ rfl
      rw [em, e4, mI_mI, hp]
      exact this
    refine ⟨fun c2 => ?_, fun c2 => ?_⟩
    · have hin2 := tA_in (T := lx v) (by omega) c2 (by decide)
      have hqe : qmP (lx v) (lp v + ld v) = lp v + ld v + 1 + 1 := by unfold qmP; rw [if_pos c2]
      exact hq 0 _ (by rw [hqe, nI_1]) (by omega)
    · have hqe : qmP (lx v) (lp v + ld v) = lp v + ld v + 1 := by unfold qmP; rw [if_neg c2]
      exact hq 0 _ (by rw [hqe]; exact nI_add _ 0) (by omega)
  · have hz : kd v i = 2 := (nI_eq (by omega) (by decide)).mp z
    have : gOut v i w fl fi = (1, lp v) := by unfold gOut; rw [if_neg (by omega), if_pos hz]
    rw [this] at h1
    have := h1 rfl
    rw [hself] at this
    exact iP.i this rfl
  · have hz : kd v i = 3 := (nI_eq (by omega) (by decide)).mp z
    obtain ⟨hw1, hw2⟩ := hw hz
    have hG : gOut v i w fl fi = (if (lx v).length ≤ lp v + ld v then (if i + 1 < ct v ∧ vb v (i + 1) 2 = nI i then (1, min (lp v + ld v) (lx v).length) else (0, 0)) else if ld v < w then (0, 0) else (1, min (lp v + w) (lx v).length)) := by unfold gOut; rw [if_neg (by omega), if_neg (by omega), if_pos hz]
    have h24 : m.2 24 (μ i) = nI w := by
      obtain ⟨w2, q1, q2, q3⟩ := hK.2.2.2.2.2.2.2.2.1 hz
      have : w2 = w := (nI_eq (by omega) (by omega)).mp (q2.symm.trans hw1)
      rw [← this]
      exact q3
    refine ⟨fun c => ?_, fun c => ?_⟩
    · have hnb := mt hbl.mpr (bI_0 c)
      rw [if_neg hnb] at hG
      simp (discharger := omega) only [h24, nI_leI]
      refine ⟨hμ, fun c1 => ?_, fun c1 => iP.i (h0 (by rw [hG, if_pos (by omega)])) rfl⟩
      rw [if_neg (by omega)] at hG
      rw [hG] at h1
      unfold w_Mo_goesOn_158 w_Mo_goesOn_182
      simp (discharger := omega) only [vp_nI, nI_clamp, h24, h31, nI_add]
      refine ⟨fun _ => ⟨hμ, fun m1 em => iP.i ?_ rfl⟩, fun y => absurd c y⟩
      have := h1 rfl
      rw [show min (lp v + w) (lx v).length = lp v + w by omega] at this
      rw [em]
      exact this
    · have hb := hbl.mp (bI_n0 c)
      rw [if_pos hb] at hG
      refine ⟨hμ, fun c1 => iP.i (h0 (by rw [hG, if_neg ((hh hz).mp c1)])) rfl, fun c1 => ?_⟩
      have hhold : i + 1 < ct v ∧ vb v (i + 1) 2 = nI i := Decidable.byContradiction (fun y => c1 ((hh hz).mpr y))
      rw [if_pos hhold] at hG
      rw [hG] at h1
      unfold w_Mo_goesOn_158 w_Mo_goesOn_182
      refine ⟨fun y => absurd y c, fun _ m1 em => iP.i ?_ rfl⟩
      have := h1 rfl
      rw [show min (lp v + ld v) (lx v).length = (lx v).length by omega] at this
      rw [em, hLn.1]
      exact this
  · have hz : kd v i = 4 := (nI_eq (by omega) (by decide)).mp z
    have hG : gOut v i w fl fi = (if (lx v).length ≤ lp v + ld v then (0, 0) else (1, lp v)) := by unfold gOut; rw [if_neg (by omega), if_neg (by omega), if_neg (by omega), if_pos hz]
    refine ⟨fun c => ⟨mZ1, ?_⟩, fun c => ⟨mZ0, iP.i (h0 (by rw [hG, if_pos (hbl.mp (bI_n0 c))])) rfl⟩⟩
    rw [if_neg (mt hbl.mpr (bI_0 c))] at hG
    rw [hG] at h1
    have := h1 rfl
    rw [hself] at this
    exact iP.i this rfl
  · have hz : kd v i = 5 := (nI_eq (by omega) (by decide)).mp z
    exact iP.i (h0 (by unfold gOut; simp [hz])) rfl
  · have hz : kd v i = 6 := (nI_eq (by omega) (by decide)).mp z
    exact iP.i (h0 (by unfold gOut; simp [hz])) rfl
  · have hz : kd v i = 7 := (nI_eq (by omega) (by decide)).mp z
    have hG : gOut v i w fl fi = (if vb v i 12 = 0 then (if ld v < 4 ∧ ¬ (lx v).length ≤ lp v + ld v then (0, 0) else (1, min (lp v + min 4 (ld v)) (lx v).length)) else if fnE v i fl then (2, 0) else (1, min (lp v + min fi (ld v)) (lx v).length)) := by unfold gOut; rw [if_neg (by omega), if_neg (by omega), if_neg (by omega), if_neg (by omega), if_pos hz]
    have h22 : m.2 22 (μ i) = vb v i 12 := (hK.2.2.2.2.2.2.2.2.2.2.1 (by omega)).symm
    simp (discharger := omega) only [h22, lit_leI]
    refine ⟨hμ, fun c1 => ?_, fun c1 => ?_⟩
    · rw [if_pos c1] at hG
      have h219 : ∀ x4 : Int32, ¬ (ld v < 4 ∧ ¬ (lx v).length ≤ lp v + ld v) → w_Mo_goesOn_219 Y (nI (μ i)) n (nI (ld v)) x4 m (iP N) := by
        intro x4 y
        rw [if_neg y] at hG
        rw [hG] at h1
        have hh1 := h1 rfl
        unfold w_Mo_goesOn_219 w_Mo_goesOn_234
        simp (discharger := omega) only [lit_leI, h31, lit_add, nI_add]
        refine ⟨fun q m1 em => iP.i ?_ rfl, fun q m1 em => iP.i ?_ rfl⟩
        · rw [show min (lp v + min 4 (ld v)) (lx v).length = lp v + 4 by omega] at hh1
          rw [em]
          exact hh1
        · rw [show min (lp v + min 4 (ld v)) (lx v).length = lp v + ld v by omega] at hh1
          rw [em]
          exact hh1
      refine ⟨fun c2 => h219 _ (fun y => by omega), fun c2 => ⟨fun c3 => iP.i (h0 ?_) rfl, fun c3 => h219 _ (fun y => y.2 (hbl.mp (bI_n0 c3)))⟩⟩
      rw [hG, if_pos ⟨by omega, mt hbl.mpr (bI_0 c3)⟩]
    · rw [if_neg c1] at hG
      obtain ⟨⟨g1, g2, g3, g4, g5⟩, g6⟩ := hfl hz c1
      -- the place behind the indentation of the fence
      have h300 : ∀ (x4 x5 s1 : Int32), (s1 = 0 ∧ ¬ fnE v i fl) ∨ (s1 = 1 ∧ fnE v i fl) → w_Mo_goesOn_300 Y (nI (μ i)) n (nI (ld v)) x4 x5 s1 m (iP N) := by
        intro x4 x5 s1 hs
        unfold w_Mo_goesOn_300 w_Mo_goesOn_328
        rcases hs with ⟨rfl, y⟩ | ⟨rfl, y⟩
        · rw [if_neg y] at hG
          rw [hG] at h1
          have hh1 := h1 rfl
          refine ⟨mZ0, fun m1 em => ?_⟩
          have em' : m1 = m := by rw [em, ← h34, mI_self]
          rw [em']
          simp (discharger := omega) only [vp_nI, nI_clamp, g2, nI_leI, h31, nI_add]
          refine ⟨hμ, fun q => ⟨hμ, fun m2 em2 => iP.i ?_ rfl⟩, fun q m2 em2 => iP.i ?_ rfl⟩
          · rw [show min (lp v + min fi (ld v)) (lx v).length = lp v + fi by omega] at hh1
            rw [em2]
            exact hh1
          · rw [show min (lp v + min fi (ld v)) (lx v).length = lp v + ld v by omega] at hh1
            rw [em2]
            exact hh1
        · rw [if_pos y] at hG
          rw [hG] at h2
          have hh2 := h2 rfl
          refine ⟨mZ1, fun m1 em => ?_⟩
          have k24 : m1.2 24 (μ i) = nI fi := by rw [em]; exact g2
          simp (discharger := omega) only [vp_nI, nI_clamp, k24, nI_leI]
          refine ⟨hμ, fun q => ⟨hμ, fun m2 em2 => iP.i ?_ rfl⟩, fun q m2 em2 => iP.i ?_ rfl⟩
          · rw [em2, em]; exact hh2 _
          · rw [em2, em]; exact hh2 _
      have h265 : ∀ (x4 : Int32) (s : Nat), s ≤ 12100 → ((4 ≤ ld v ∧ s = 0) ∨ (ld v < 4 ∧ s = runFrom (fun z => z == vb v i 12) (lx v) (lp v + ld v))) → w_Mo_goesOn_265 Y (nI (μ i)) n (nI (ld v)) x4 (nI s) m (iP N) := by
        intro x4 s hs hx
        unfold w_Mo_goesOn_265 w_Mo_goesOn_299
        simp (discharger := omega) only [vp_nI, nI_clamp, g1, nI_ltI, h31, nI_add]
        have hno : s < fl → ¬ fnE v i fl := by
          intro q y
          rcases hx with y2 | y2
          · have := y.1; omega
          · have h3 := y.2.2.1
            rw [smF_eq y.2.1, nI_ltI (by omega) (by omega)] at h3
            omega
        refine ⟨hμ, fun c2 => h300 _ _ 0 (Or.inl ⟨rfl, hno c2⟩), fun c2 => d_Mo_isBlank G hLn (by omega) ⟨fun c3 => h300 _ _ 0 (Or.inl ⟨rfl, fun y => ?_⟩), fun c3 => h300 _ _ 1 (Or.inr ⟨rfl, ?_⟩)⟩⟩
        · rcases hx with y2 | y2
          · have := y.1; omega
          · have h4 := y.2.2.2
            rw [smF_eq y.2.1, ← y2.2] at h4
            exact bI_0 c3 h4
        · rcases hx with y2 | y2
          · omega
          · have hrow : rowAt (lx v) (nI (lp v + ld v)) = vb v i 12 := by
              apply Decidable.byContradiction
              intro q
              rw [run0 (by omega) q] at y2
              omega
            refine ⟨y2.1, hrow, ?_, ?_⟩
            · rw [smF_eq hrow, ← y2.2, nI_ltI (by omega) (by omega)]
              exact c2
            · rw [smF_eq hrow, ← y2.2]
              exact bI_n0 c3
      refine ⟨fun c2 => h265 _ 0 (by omega) (Or.inl ⟨c2, rfl⟩), fun c2 => ⟨hμ, ?_⟩⟩
      rw [h31, nI_add]
      have hrl := run_le (xs := lx v) (p := fun z => z == vb v i 12) (i := lp v + ld v) hlx
      exact d_Mo_row G hLn (by omega) g6 (h265 _ _ (by omega) (Or.inr ⟨by omega, rfl⟩))
end MOGOES
