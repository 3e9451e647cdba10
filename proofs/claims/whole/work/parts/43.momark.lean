section MOMARK
variable {X : MX} {a0 : Array Value} {m : MS} {xs : List Int32} {N : Int32 → MS → Prop}
theorem rlB_iff {i : Nat} : rlB xs i = true ↔ (rowAt xs (nI i) = 42 ∨ rowAt xs (nI i) = 45 ∨ rowAt xs (nI i) = 95) ∧ (xs.drop i).all (fun z => z == rowAt xs (nI i) || z == 32) = true ∧ 3 ≤ (xs.drop i).countP (fun z => z == rowAt xs (nI i)) := by
  unfold rlB
  simp [and_assoc, or_assoc]
def RlI (xs : List Int32) (pl i : Nat) (m m' : MS) (n : Nat) (x2 x3 x4 x5 : Int32) : Prop := m' = m ∧ i < 4 ∧ (rowAt xs (nI (pl + i)) = 42 ∨ rowAt xs (nI (pl + i)) = 45 ∨ rowAt xs (nI (pl + i)) = 95) ∧ x2 = rowAt xs (nI (pl + i)) ∧ ∃ j q, x5 = nI j ∧ x3 = nI q ∧ q ≤ j ∧ n + j = xs.length + 1 ∧ ((x4 = 1 ∧ ((xs.drop (pl + i)).all (fun z => z == rowAt xs (nI (pl + i)) || z == 32) = (xs.drop j).all (fun z => z == rowAt xs (nI (pl + i)) || z == 32)) ∧ q + (xs.drop j).countP (fun z => z == rowAt xs (nI (pl + i))) = (xs.drop (pl + i)).countP (fun z => z == rowAt xs (nI (pl + i)))) ∨ (x4 = 0 ∧ (xs.drop (pl + i)).all (fun z => z == rowAt xs (nI (pl + i)) || z == 32) = false))
theorem d_Mo_isRule (F : mF X a0) (hL : LnI m xs) {pl i : Nat} (hp : m.1 31 = nI pl) (hpl : pl + i ≤ xs.length) (h : N (bI (i < 4 ∧ rlB xs (pl + i) = true)) m) : mE X 1 y_Mo_isRule [.ref (mo X), .int (nI i)] m (iP N) := by
  have h3 := hL.2.2
  have h1 := hL.1
  have h2 := hL.2.1
  have hN : ∀ b : Int32, (b = bI (i < 4 ∧ rlB xs (pl + i) = true)) → iP N (some (.int b)) m := fun b e => iP.i h e
  refine g_Mo_isRule (I49 := fun n x1 x2 x3 x4 x5 m' => RlI xs pl i m m' n x2 x3 x4 x5) F ?_ ?_
  · simp (discharger := omega) only [w_Mo_isRule_0, w_Mo_isRule_34, w_Mo_isRule_36, hp, nI_add, lit_ltI]
    refine d_Mo_at F hL (by omega) ?_
    have hgo : i < 4 → (rowAt xs (nI (pl + i)) = 42 ∨ rowAt xs (nI (pl + i)) = 45 ∨ rowAt xs (nI (pl + i)) = 95) → ∃ n, RlI xs pl i m m n (rowAt xs (nI (pl + i))) 0 1 (nI (pl + i)) := fun hi hc => ⟨xs.length + 1 - (pl + i), rfl, hi, hc, rfl, pl + i, 0, rfl, rfl, by omega, by omega, Or.inl ⟨rfl, rfl, by omega⟩⟩
    refine ⟨fun c => hN _ (bI_f (fun q => by omega)).symm, fun c => ⟨fun c1 => ?_, fun c1 => ⟨fun c2 => ?_, fun c2 => ⟨fun c3 => ?_, fun c3 => hN _ (bI_f (fun q => ?_)).symm⟩⟩⟩⟩
    · rw [hp, nI_add]; exact hgo (by omega) (Or.inl c1)
    · rw [hp, nI_add]; exact hgo (by omega) (Or.inr (Or.inl c2))
    · rw [hp, nI_add]; exact hgo (by omega) (Or.inr (Or.inr c3))
    · rcases (rlB_iff.mp q.2).1 with q | q | q
      · exact c1 q
      · exact c2 q
      · exact c3 q
  · rintro n x1 x2 x3 x4 x5 m' ⟨rfl, hi, hc, rfl, j, q, rfl, rfl, hq, hn, hx⟩
    have hcl : (xs.drop j).countP (fun z => z == rowAt xs (nI (pl + i))) ≤ xs.length - j := by
      have := List.countP_le_length (p := fun z => z == rowAt xs (nI (pl + i))) (l := xs.drop j)
      rw [List.length_drop] at this
      exact this
    simp (discharger := omega) only [w_Mo_isRule_49, w_Mo_isRule_86, w_Mo_isRule_91, w_Mo_isRule_110, w_Mo_isRule_118, w_Mo_isRule_132, w_Mo_isRule_133, h1, nI_leI, vp_nI, nI_clamp, lit_add, lit_leJ]
    rcases hx with ⟨rfl, e1, e2⟩ | ⟨rfl, e⟩
    · refine ⟨fun c => ⟨fun z => absurd z (by decide), fun _ => ⟨fun c2 => ⟨mZ0, hN _ (bI_f (fun z => ?_)).symm⟩, fun c2 => ⟨mZ1, hN _ (bI_t ⟨hi, rlB_iff.mpr ⟨hc, by rw [e1, List.drop_eq_nil_of_le c]; rfl, by rw [← e2]; omega⟩⟩).symm⟩⟩⟩, fun c => ⟨fun z => absurd z (by decide), fun _ => ⟨by omega, fun c2 => ⟨by omega, fun c3 => ?_, fun c3 => absurd c2 c3⟩, fun c2 => ⟨by omega, fun c3 => ⟨by omega, fun c4 => absurd c4 c2, fun c4 => ?_⟩, fun c3 => ⟨by omega, fun c4 => absurd c4 c2, fun c4 => ?_⟩⟩⟩⟩⟩
      · have := (rlB_iff.mp z.2).2.2
        rw [← e2, List.drop_eq_nil_of_le c] at this
        simp at this
        omega
      · rw [h2 _ (by omega)] at c3
        refine ⟨n - 1, by omega, rfl, hi, hc, rfl, j + 1, q + 1, rfl, rfl, by omega, by omega, Or.inl ⟨rfl, ?_, ?_⟩⟩
        · rw [e1, drop_at (j := j) (by omega) (by omega), List.all_cons, c3]
          simp
        · rw [← e2, drop_at (j := j) (by omega) (by omega), List.countP_cons, c3]
          simp
          omega
      · rw [h2 _ (by omega)] at c3 c4
        refine ⟨n - 1, by omega, rfl, hi, hc, rfl, j + 1, q, rfl, rfl, by omega, by omega, Or.inl ⟨rfl, ?_, ?_⟩⟩
        · rw [e1, drop_at (j := j) (by omega) (by omega), List.all_cons, c3]
          simp
        · rw [← e2, drop_at (j := j) (by omega) (by omega), List.countP_cons]
          simp [c4]
      · rw [h2 _ (by omega)] at c3 c4
        refine ⟨n - 1, by omega, rfl, hi, hc, rfl, j + 1, q, rfl, rfl, by omega, by omega, Or.inr ⟨rfl, ?_⟩⟩
        rw [e1, drop_at (j := j) (by omega) (by omega), List.all_cons]
        simp [c3, c4]
    · have hno : ¬ (i < 4 ∧ rlB xs (pl + i) = true) := fun z => by
        have := (rlB_iff.mp z.2).2.1
        rw [e] at this
        exact absurd this (by decide)
      exact ⟨fun c => ⟨fun _ => ⟨mZ0, hN _ (bI_f hno).symm⟩, fun z => absurd rfl z⟩, fun c => ⟨fun _ => ⟨fun _ => ⟨mZ0, hN _ (bI_f hno).symm⟩, fun z => absurd rfl z⟩, fun z => absurd rfl z⟩⟩
/-- the block at hand -/
def AtH (m : MS) (hd b : Nat) : Prop := m.1 32 = nI hd ∧ hd < 40 ∧ m.2 29 hd = nI b ∧ b < 3300
theorem d_Mo_underline (F : mF X a0) (hL : LnI m xs) {pl i hd b : Nat} (hp : m.1 31 = nI pl) (hH : AtH m hd b) (hpl : pl + i ≤ xs.length) (h : N (if i < 4 ∧ m.2 13 b = 4 then nI (ulLv xs (pl + i)) else 0) m) : mE X 2 y_Mo_underline [.ref (mo X), .int (nI i)] m (iP N) := by
  have h3 := hL.2.2
  have h1 := hL.1
  obtain ⟨q1, q2, q3, q4⟩ := hH
  refine g_Mo_underline F ?_
  simp (discharger := omega) only [w_Mo_underline_0, w_Mo_underline_23, w_Mo_underline_48, w_Mo_underline_73, w_Mo_underline_86, hp, q1, q3, nI_add, lit_ltI, vp_nI, nI_clamp]
  refine ⟨fun c => iP.i h (by rw [if_neg (by omega)]), fun c => ⟨by omega, by omega, fun c1 => d_Mo_at F hL (by omega) ?_, fun c1 => iP.i h (by rw [if_neg (fun z => c1 z.2)])⟩⟩
  rw [if_pos ⟨by omega, c1⟩] at h
  have hstep : (rowAt xs (nI (pl + i)) = 61 ∨ rowAt xs (nI (pl + i)) = 45) → mE X 1 y_Mo_row [.ref (mo X), .int (nI (pl + i)), .int (rowAt xs (nI (pl + i)))] m (iP fun r1 m1 => mE X 0 y_Mo_isBlank [.ref (mo X), .int (nI (pl + i) + r1)] m1 (iP fun r2 m2 => ((r2 = 0 → (iP N) (some (.int 0)) m2) ∧ (¬ r2 = 0 → ((rowAt xs (nI (pl + i)) = 61 → (iP N) (some (.int 1)) m2) ∧ (¬ rowAt xs (nI (pl + i)) = 61 → (iP N) (some (.int 2)) m2)))))) := by
    intro hc
    have hr := run_le (p := fun z => z == rowAt xs (nI (pl + i))) (i := pl + i) h3
    refine d_Mo_row F hL (by omega) (by rcases hc with hc | hc <;> (rw [hc]; decide)) ?_
    rw [nI_add]
    refine d_Mo_isBlank F hL (by omega) ?_
    have hu : ulLv xs (pl + i) = if blF xs (pl + i + smF xs (pl + i)) then (if rowAt xs (nI (pl + i)) = 61 then 1 else 2) else 0 := by
      unfold ulLv
      simp only [hc, true_and]
    rw [hu] at h
    refine ⟨fun z => iP.i h ?_, fun z => ⟨fun c2 => iP.i h ?_, fun c2 => iP.i h ?_⟩⟩
    · rw [if_neg (bI_0 z)]; rfl
    · rw [if_pos (bI_n0 z), if_pos c2]; rfl
    · rw [if_pos (bI_n0 z), if_neg c2]; rfl
  simp only [hp, nI_add]
  refine ⟨fun c2 => ?_, fun c2 => ⟨fun c3 => ?_, fun c3 => iP.i h ?_⟩⟩
  · exact hstep (Or.inl c2)
  · exact hstep (Or.inr c3)
  · unfold ulLv
    rw [if_neg (fun z => by rcases z.1 with z | z; exact c2 z; exact c3 z)]
    rfl
/-- only the mark's numbers may have changed -/
def MkR (m m' : MS) : Prop := m'.2 = m.2 ∧ ∀ k, k ≠ 35 → k ≠ 36 → m'.1 k = m.1 k
theorem MkR.rfl {m : MS} : MkR m m := ⟨_root_.rfl, fun _ _ _ => _root_.rfl⟩
theorem MkR.i35 {m m' : MS} (h : MkR m m') (x : Int32) : MkR m (mI m' 35 x) := ⟨h.1, fun k h1 h2 => (mI_ne h1).trans (h.2 k h1 h2)⟩
theorem MkR.i36 {m m' : MS} (h : MkR m m') (x : Int32) : MkR m (mI m' 36 x) := ⟨h.1, fun k h1 h2 => (mI_ne h2).trans (h.2 k h1 h2)⟩
theorem MkR.line {m m' : MS} {xs : List Int32} (h : MkR m m') (hL : LnI m xs) : LnI m' xs := ⟨(h.2 12 (by decide) (by decide)).trans hL.1, fun i hi => by rw [h.1]; exact hL.2.1 i hi, hL.2.2⟩
theorem MkR.ath {m m' : MS} {hd b : Nat} (h : MkR m m') (hH : AtH m hd b) : AtH m' hd b := ⟨(h.2 32 (by decide) (by decide)).trans hH.1, hH.2.1, by rw [h.1]; exact hH.2.2.1, hH.2.2.2⟩
/-- an item's mark stands there and may begin an item -/
def mkOk (xs : List Int32) (s : Nat) (par : Prop) : Prop := mkB xs s = true ∧ (par → ¬ blF xs (s + (dgC xs s + 1)) ∧ (dgC xs s = 0 ∨ dgN xs s (dgC xs s) = 1))
def MkI (xs : List Int32) (s : Nat) (m m' : MS) (n : Nat) (x2 x3 x4 : Int32) : Prop := MkR m m' ∧ x2 = nI s ∧ x3 = rowAt xs (nI s) ∧ m'.1 35 = rowAt xs (nI s) ∧ isDg (rowAt xs (nI s)) = true ∧ ∃ j, x4 = nI j ∧ n + j = 10 ∧ j + runFrom isDg xs (s + j) = runFrom isDg xs s ∧ m'.1 36 = dgN xs s (min 9 j)
theorem mkB_iff {i : Nat} : mkB xs i = true ↔ (if dgC xs i = 0 then (mkS xs i = 42 ∨ mkS xs i = 43 ∨ mkS xs i = 45) else (mkS xs i = 46 ∨ mkS xs i = 41)) ∧ seF xs (i + (dgC xs i + 1)) := by
  unfold mkB
  rw [Bool.and_eq_true, decide_eq_true_eq]
  split <;> rw [decide_eq_true_eq]
theorem d_mark198 (F : mF X a0) {m' : MS} (hR : MkR m m') (hL : LnI m xs) {s hd b : Nat} (hH : AtH m hd b) (hs : s ≤ xs.length) {x1 : Int32} {Ψ : Option Value → MS → Prop} (h0 : ∀ m', MkR m m' → ¬ mkOk xs s (m.2 13 b = 4) → Ψ (some (.int 0)) m') (h1 : ∀ m', MkR m m' → mkOk xs s (m.2 13 b = 4) → m'.1 35 = mkS xs s → m'.1 36 = dgN xs s (dgC xs s) → Ψ (some (.int (nI (dgC xs s + 1)))) m') (hB : (if dgC xs s = 0 then (mkS xs s = 42 ∨ mkS xs s = 43 ∨ mkS xs s = 45) else (mkS xs s = 46 ∨ mkS xs s = 41))) (e35 : m'.1 35 = mkS xs s) (e36 : m'.1 36 = dgN xs s (dgC xs s)) (hdig : isDg (rowAt xs (nI s)) = true ↔ ¬ dgC xs s = 0) : w_Mo_mark_172 X x1 (nI s) (rowAt xs (nI s)) (nI (dgC xs s + 1)) m' Ψ := by
  have h3 := hL.2.2
  have hL' := hR.line hL
  have hd9 : dgC xs s ≤ 9 := Nat.min_le_left _ _
  obtain ⟨q1, q2, q3, q4⟩ := hR.ath hH
  have hk : m'.2 13 = m.2 13 := by rw [hR.1]
  simp (discharger := omega) only [w_Mo_mark_172, w_Mo_mark_198, w_Mo_mark_242, w_Mo_mark_244, hL'.1, q1, q3, nI_add, nI_leI, vp_nI, nI_clamp, hk]
  have hgo : ∀ m2 : MS, seF xs (s + (dgC xs s + 1)) → (m2 = m') → (hd < 40 ∧ b < 3300 ∧ ((m.2 13 b = 4 → mE X 0 y_Mo_isBlank [.ref (mo X), .int (nI (s + (dgC xs s + 1)))] m2 (iP fun r1 m1 => ((r1 = 0 → mE X 0 y_Mo_isDigit [.int (rowAt xs (nI s))] m1 (iP fun r2 m2 => ((r2 = 0 → Ψ (some (.int (nI (dgC xs s + 1)))) m2) ∧ (¬ r2 = 0 → ((m2.1 36 = 1 → Ψ (some (.int (nI (dgC xs s + 1)))) m2) ∧ (¬ m2.1 36 = 1 → Ψ (some (.int 0)) m2)))))) ∧ (¬ r1 = 0 → Ψ (some (.int 0)) m1)))) ∧ (¬ m.2 13 b = 4 → Ψ (some (.int (nI (dgC xs s + 1)))) m2))) := by
    intro m2 hse hm
    subst hm
    have hmk : mkB xs s = true := mkB_iff.mpr ⟨hB, hse⟩
    refine ⟨q2, q4, fun c => d_Mo_isBlank F hL' (by omega) ⟨fun z => d_Mo_isDigit F ⟨fun z2 => ?_, fun z2 => ⟨fun c2 => ?_, fun c2 => ?_⟩⟩, fun z => ?_⟩, fun c => ?_⟩
    · refine h1 _ hR ⟨hmk, fun _ => ⟨bI_0 z, Or.inl ?_⟩⟩ e35 e36
      have z3 := bI_0 z2
      apply Decidable.byContradiction
      intro q
      have := hdig.mpr q
      simp at this
      exact z3 this
    · exact h1 _ hR ⟨hmk, fun _ => ⟨bI_0 z, Or.inr (e36 ▸ c2)⟩⟩ e35 e36
    · refine h0 _ hR (fun q => ?_)
      rcases (q.2 c).2 with q | q
      · have z3 := bI_n0 z2
        exact hdig.mp (by simpa using z3) q
      · exact c2 (e36.trans q)
    · exact h0 _ hR (fun q => (q.2 c).1 (bI_n0 z))
    · exact h1 _ hR ⟨hmk, fun q => absurd q c⟩ e35 e36
  refine ⟨fun c => hgo _ (Or.inl c) rfl, fun c => d_Mo_at F hL' (by omega) ⟨fun c2 => ?_, fun c2 => ?_⟩⟩
  · simp (discharger := omega) only [q1, q3, vp_nI, nI_clamp, hk]
    exact hgo _ (Or.inr c2) rfl
  · refine h0 _ hR (fun q => ?_)
    rcases (mkB_iff.mp q.1).2 with q | q
    · exact c q
    · exact c2 q
end MOMARK
