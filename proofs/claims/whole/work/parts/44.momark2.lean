section MOMARK2
variable {X : MX} {a0 : Array Value} {m : MS} {xs : List Int32} {N : Int32 → MS → Prop}
theorem d_Mo_mark (F : mF X a0) (hL : LnI m xs) {pl i hd b : Nat} (hp : m.1 31 = nI pl) (hH : AtH m hd b) (hpl : pl + i ≤ xs.length) (h0 : ∀ m', MkR m m' → ¬ (i < 4 ∧ mkOk xs (pl + i) (m.2 13 b = 4)) → N 0 m') (h1 : ∀ m', MkR m m' → i < 4 ∧ mkOk xs (pl + i) (m.2 13 b = 4) → m'.1 35 = mkS xs (pl + i) → m'.1 36 = dgN xs (pl + i) (dgC xs (pl + i)) → N (nI (dgC xs (pl + i) + 1)) m') : mE X 1 y_Mo_mark [.ref (mo X), .int (nI i)] m (iP N) := by
  have h3 := hL.2.2
  have hq1 : ∀ m', MkR m m' → ¬ (i < 4 ∧ mkOk xs (pl + i) (m.2 13 b = 4)) → iP N (some (.int 0)) m' := fun m' q1 q2 => iP.i (h0 m' q1 q2) rfl
  have hD : ∀ k, k < 2 ^ 31 → isDg (rowAt xs (nI k)) = true → runFrom isDg xs k = runFrom isDg xs (k + 1) + 1 := by
    intro k hk hd
    refine runFrom_y ?_ hk hd
    apply Nat.lt_of_not_le
    intro q
    rw [rowAt_out hk q] at hd
    exact absurd hd (by decide)
  have hD0 : ∀ k, k < 2 ^ 31 → ¬ isDg (rowAt xs (nI k)) = true → runFrom isDg xs k = 0 := by
    intro k hk hd
    by_cases hin : k < xs.length
    · exact runFrom_n hin hk (by simpa using hd)
    · exact runFrom_end (by omega)
  refine g_Mo_mark (I43 := fun n x1 x2 x3 x4 m' => i < 4 ∧ MkI xs (pl + i) m m' n x2 x3 x4) F ?_ ?_
  · simp (discharger := omega) only [w_Mo_mark_0, hp, nI_add, lit_leJ]
    refine d_Mo_at F hL (by omega) ⟨fun c => ?_, fun c => hq1 _ MkR.rfl (fun q => by omega)⟩
    intro m2 e2 m3 e3
    have hR : MkR m m3 := by rw [e3, e2]; exact (MkR.rfl.i35 _).i36 _
    have e35 : m3.1 35 = rowAt xs (nI (pl + i)) := by rw [e3, mI_ne (by decide), e2, mI_at]
    have e36 : m3.1 36 = 0 := by rw [e3, mI_at]
    refine d_Mo_isDigit F ⟨fun z => ?_, fun z => ?_⟩
    · have z' := bI_0 z
      have hd0 : dgC xs (pl + i) = 0 := by
        unfold dgC
        rw [hD0 _ (by omega) (by simpa using z')]
        rfl
      have hS : mkS xs (pl + i) = rowAt xs (nI (pl + i)) := by unfold mkS; rw [hd0]; rfl
      have hcall : (mkS xs (pl + i) = 42 ∨ mkS xs (pl + i) = 43 ∨ mkS xs (pl + i) = 45) → w_Mo_mark_172 X (nI i) (nI (pl + i)) (rowAt xs (nI (pl + i))) 1 m3 (iP N) := by
        intro hc
        have := d_mark198 (x1 := nI i) F hR hL hH hpl (Ψ := iP N) (fun m' q1 q2 => hq1 m' q1 (fun z => q2 z.2)) (fun m' q1 q2 q3 q4 => iP.i (h1 m' q1 ⟨by omega, q2⟩ q3 q4) rfl) (by rw [if_pos hd0]; exact hc) (e35.trans hS.symm) (by rw [e36, hd0]; rfl) (by rw [hd0]; simp; simpa using z')
        rw [hd0] at this
        exact this
      refine ⟨fun c1 => hcall (Or.inl (hS.trans c1)), fun c1 => ⟨fun c2 => hcall (Or.inr (Or.inl (hS.trans c2))), fun c2 => ⟨fun c3 => hcall (Or.inr (Or.inr (hS.trans c3))), fun c3 => hq1 _ hR (fun q => ?_)⟩⟩⟩
      have := (mkB_iff.mp q.2.1).1
      rw [if_pos hd0, hS] at this
      rcases this with q | q | q
      · exact c1 q
      · exact c2 q
      · exact c3 q
    · refine ⟨10, by omega, hR, rfl, rfl, e35, by simpa using bI_n0 z, 0, rfl, rfl, by simp, e36⟩
  · rintro n x1 x2 x3 x4 m' ⟨hi4, hR, rfl, rfl, e35, hdg, j, rfl, hn, hj, e36⟩
    have hL' := hR.line hL
    have h107 : (¬ isDg (rowAt xs (nI (pl + i + j))) = true ∨ 10 ≤ j) → w_Mo_mark_107 X x1 (nI (pl + i)) (rowAt xs (nI (pl + i))) (nI j) m' (iP N) := by
      intro hx
      have hr1 := hD (pl + i) (by omega) hdg
      simp (discharger := omega) only [w_Mo_mark_107, w_Mo_mark_144, w_Mo_mark_146, nI_add, lit_ltI, lit_add]
      refine d_Mo_at F hL' (by omega) ?_
      intro m2 e2
      have hR2 : MkR m m2 := by rw [e2]; exact hR.i35 _
      have f35 : m2.1 35 = rowAt xs (nI (pl + i + j)) := by rw [e2, mI_at]
      have f36 : m2.1 36 = dgN xs (pl + i) (min 9 j) := by rw [e2, mI_ne (by decide), e36]
      refine ⟨fun c => hq1 _ hR2 (fun q => ?_), fun c => ?_⟩
      · have hj10 : j = 10 := by omega
        have hd9 : dgC xs (pl + i) = 9 := by unfold dgC; omega
        have := (mkB_iff.mp q.2.1).1
        rw [if_neg (by omega)] at this
        have h9 : isDg (rowAt xs (nI (pl + i + 9))) = true := by
          apply Decidable.byContradiction
          intro z
          have hz := hD0 (pl + i + 9) (by omega) z
          have : runFrom isDg xs (pl + i) ≤ 9 := by
            have key : ∀ t, t ≤ 9 → runFrom isDg xs (pl + i + (9 - t)) ≤ t := by
              intro t
              induction t with
              | zero => intro _; rw [show pl + i + (9 - 0) = pl + i + 9 by omega, hz]; exact Nat.le_refl _
              | succ t ih =>
                intro ht
                have := ih (by omega)
                by_cases e : isDg (rowAt xs (nI (pl + i + (9 - (t + 1))))) = true
                · rw [hD _ (by omega) e, show pl + i + (9 - (t + 1)) + 1 = pl + i + (9 - t) by omega]
                  omega
                · rw [hD0 _ (by omega) e]
                  omega
            have := key 9 (Nat.le_refl _)
            simpa using this
          omega
        unfold mkS at this
        rw [hd9] at this
        rcases this with e | e <;> (rw [e] at h9; exact absurd h9 (by decide))
      · have hnd : ¬ isDg (rowAt xs (nI (pl + i + j))) = true := by
          rcases hx with hx | hx
          · exact hx
          · omega
        have hr0 := hD0 _ (by omega) hnd
        have hdj : dgC xs (pl + i) = j := by unfold dgC; omega
        have hS : mkS xs (pl + i) = rowAt xs (nI (pl + i + j)) := by unfold mkS; rw [hdj]
        have hcall : (mkS xs (pl + i) = 46 ∨ mkS xs (pl + i) = 41) → w_Mo_mark_172 X x1 (nI (pl + i)) (rowAt xs (nI (pl + i))) (nI (j + 1)) m2 (iP N) := by
          intro hc
          have := d_mark198 (x1 := x1) F hR2 hL hH hpl (Ψ := iP N) (fun m' q1 q2 => hq1 m' q1 (fun z => q2 z.2)) (fun m' q1 q2 q3 q4 => iP.i (h1 m' q1 ⟨by omega, q2⟩ q3 q4) rfl) (by rw [if_neg (by omega)]; exact hc) (f35.trans hS.symm) (by rw [f36, hdj, Nat.min_eq_right (by omega)]) (by rw [hdj]; exact ⟨fun _ => by omega, fun _ => hdg⟩)
          rw [hdj] at this
          exact this
        refine ⟨fun c1 => hcall (Or.inl (hS.trans (f35.symm.trans c1))), fun c1 => ⟨fun c2 => hcall (Or.inr (hS.trans (f35.symm.trans c2))), fun c2 => hq1 _ hR2 (fun q => ?_)⟩⟩
        have := (mkB_iff.mp q.2.1).1
        rw [if_neg (by omega), hS] at this
        rcases this with q | q
        · exact c1 (f35.trans q)
        · exact c2 (f35.trans q)
    simp (discharger := omega) only [w_Mo_mark_43, w_Mo_mark_98, nI_add, lit_leI, lit_add]
    refine d_Mo_at F hL' (by omega) (d_Mo_isDigit F ⟨fun z => h107 (Or.inl (by simpa using bI_0 z)), fun z => ⟨fun c => h107 (Or.inr c), fun c => ⟨fun c2 => ?_, fun c2 => d_Mo_at F hL' (by omega) ?_⟩⟩⟩)
    · intro m1 e1
      have hr := hD (pl + i + j) (by omega) (by simpa using bI_n0 z)
      refine ⟨n - 1, by omega, hi4, by rw [e1]; exact hR.i36 _, rfl, rfl, by rw [e1, mI_ne (by decide)]; exact e35, hdg, j + 1, rfl, by omega, by rw [← Nat.add_assoc]; omega, ?_⟩
      rw [e1, mI_at, e36, show min 9 (j + 1) = min 9 j by omega]
    · intro m1 e1
      have hr := hD (pl + i + j) (by omega) (by simpa using bI_n0 z)
      refine ⟨n - 1, by omega, hi4, by rw [e1]; exact hR.i36 _, rfl, rfl, by rw [e1, mI_ne (by decide)]; exact e35, hdg, j + 1, rfl, by omega, by rw [← Nat.add_assoc]; omega, ?_⟩
      rw [e1, mI_at, e36, show min 9 (j + 1) = (min 9 j) + 1 by omega, show min 9 j = j by omega]
      rfl
end MOMARK2
