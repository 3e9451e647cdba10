/-! the model's line: what its scanning methods answer, in the words of the class's line -/
theorem lit_leI {a b : Nat} (ha : (OfNat.ofNat a : Nat) < 2 ^ 31) (hb : b < 2 ^ 31) : ((no_index (OfNat.ofNat a)) : Int32) ≤ nI b ↔ (OfNat.ofNat a : Nat) ≤ b := nI_leI ha hb
theorem lit_leJ {a b : Nat} (ha : (OfNat.ofNat a : Nat) < 2 ^ 31) (hb : b < 2 ^ 31) : nI b ≤ ((no_index (OfNat.ofNat a)) : Int32) ↔ b ≤ (OfNat.ofNat a : Nat) := nI_leI hb ha
theorem lit_ltI {a b : Nat} (ha : (OfNat.ofNat a : Nat) < 2 ^ 31) (hb : b < 2 ^ 31) : ((no_index (OfNat.ofNat a)) : Int32) < nI b ↔ (OfNat.ofNat a : Nat) < b := nI_ltI ha hb
theorem lit_ltJ {a b : Nat} (ha : (OfNat.ofNat a : Nat) < 2 ^ 31) (hb : b < 2 ^ 31) : nI b < ((no_index (OfNat.ofNat a)) : Int32) ↔ b < (OfNat.ofNat a : Nat) := nI_ltI hb ha
theorem lit_eqJ {a b : Nat} (ha : (OfNat.ofNat a : Nat) < 2 ^ 31) (hb : b < 2 ^ 31) : nI b = ((no_index (OfNat.ofNat a)) : Int32) ↔ b = (OfNat.ofNat a : Nat) := nI_eq hb ha
theorem lit_add {a b : Nat} : nI b + ((no_index (OfNat.ofNat a)) : Int32) = nI (b + (OfNat.ofNat a : Nat)) := nI_add b a
theorem vp_nI {n N : Nat} (hn : n < 2 ^ 31) : vp_in (nI n) N ↔ n < N := by
  unfold vp_in
  rw [nI_clamp hn]
  constructor
  · intro h
    exact Nat.not_le.mp (fun q => h (Or.inr q))
  · intro h q
    rcases q with q | q
    · exact nI_pos hn q
    · omega
/-- the line xs -/
def LnI (m : MS) (xs : List Int32) : Prop := m.1 12 = nI xs.length ∧ (∀ i, i < xs.length → m.2 9 i = rowAt xs (nI i)) ∧ xs.length ≤ 12000
theorem mZ0 : mZ 0 := Or.inl rfl
theorem mZ1 : mZ 1 := Or.inr rfl
theorem mZbI {p : Prop} [Decidable p] : mZ (bI p) := by
  by_cases h : p
  · rw [bI_t h]; exact mZ1
  · rw [bI_f h]; exact mZ0
theorem iP.i {N : Int32 → MS → Prop} {x y : Int32} {m : MS} (h : N x m) (e : y = x) : iP N (some (.int y)) m := ⟨y, rfl, e ▸ h⟩
section MOLINE
variable {X : MX} {a0 : Array Value} {m : MS} {xs : List Int32} {N : Int32 → MS → Prop}
theorem d_Mo_at (F : mF X a0) (hL : LnI m xs) {k : Nat} (hk : k < 2 ^ 31) (h : N (rowAt xs (nI k)) m) : mE X 0 y_Mo_at [.ref (mo X), .int (nI k)] m (iP N) := by
  obtain ⟨h1, h2, h3⟩ := hL
  refine g_Mo_at F ?_
  simp (discharger := omega) only [w_Mo_at_0, w_Mo_at_18, h1, nI_leI, vp_nI, nI_clamp]
  refine ⟨fun c => ?_, fun c => ⟨by omega, ?_⟩⟩
  · refine iP.i h ?_
    rw [rowAt_nI hk, List.getD_eq_getElem?_getD, List.getElem?_eq_none c]
    rfl
  · exact iP.i h (h2 k (by omega))
theorem runFrom_y {p : Int32 → Bool} {i : Nat} (h : i < xs.length) (h2 : i < 2 ^ 31) (hp : p (rowAt xs (nI i)) = true) : runFrom p xs i = runFrom p xs (i + 1) + 1 := runFrom_yes (rowAt_some h h2) hp
theorem runFrom_n {p : Int32 → Bool} {i : Nat} (h : i < xs.length) (h2 : i < 2 ^ 31) (hp : p (rowAt xs (nI i)) = false) : runFrom p xs i = 0 := runFrom_no (rowAt_some h h2) hp
theorem d_Mo_indent (F : mF X a0) (hL : LnI m xs) {pl : Nat} (hp : m.1 31 = nI pl) (hpl : pl ≤ 100000) (h : N (nI (spF xs pl)) m) : mE X 0 y_Mo_indent [.ref (mo X)] m (iP N) := by
  obtain ⟨h1, h2, h3⟩ := hL
  refine g_Mo_indent (I2 := fun n x m' => m' = m ∧ ∃ j, x = nI j ∧ j + spF xs (pl + j) = spF xs pl ∧ j ≤ 12000 ∧ n + j = 12000) F ?_ ?_
  · exact ⟨12000, rfl, 0, rfl, by simp, by omega, by omega⟩
  · rintro n x m' ⟨rfl, j, rfl, e, hj, hn⟩
    simp (discharger := omega) only [w_Mo_indent_2, w_Mo_indent_37, h1, hp, nI_add, nI_leI, vp_nI, nI_clamp, lit_add]
    refine ⟨fun c => ?_, fun c => ⟨by omega, fun c2 => ?_, fun c2 => ?_⟩⟩
    · refine iP.i h ?_
      rw [← e]
      show _ = nI (j + runFrom _ _ _)
      rw [runFrom_end c]
      rfl
    · rw [h2 _ (by omega)] at c2
      have hr : spF xs (pl + j) = spF xs (pl + (j + 1)) + 1 := runFrom_y (by omega) (by omega) (by simp [c2])
      exact ⟨n - 1, by omega, by trivial, j + 1, rfl, by omega, by omega, by omega⟩
    · rw [h2 _ (by omega)] at c2
      have hr : spF xs (pl + j) = 0 := runFrom_n (by omega) (by omega) (by simp [c2])
      exact iP.i h (by rw [← e, hr]; rfl)
theorem d_Mo_isBlank (F : mF X a0) (hL : LnI m xs) {k : Nat} (hk : k ≤ 100000) (h : N (bI (blF xs k)) m) : mE X 0 y_Mo_isBlank [.ref (mo X), .int (nI k)] m (iP N) := by
  obtain ⟨h1, h2, h3⟩ := hL
  refine g_Mo_isBlank (I4 := fun n x1 x2 x3 m' => m' = m ∧ ∃ j, x3 = nI j ∧ n + j = 200000 ∧ ((x2 = 1 ∧ (blF xs k ↔ blF xs j)) ∨ (x2 = 0 ∧ ¬ blF xs k))) F ?_ ?_
  · exact ⟨200000 - k, rfl, k, rfl, by omega, Or.inl ⟨rfl, Iff.rfl⟩⟩
  · rintro n x1 x2 x3 m' ⟨rfl, j, rfl, hn, hx⟩
    simp (discharger := omega) only [w_Mo_isBlank_4, w_Mo_isBlank_39, w_Mo_isBlank_32, h1, nI_leI, vp_nI, nI_clamp, lit_add]
    rcases hx with ⟨rfl, e⟩ | ⟨rfl, e⟩
    · refine ⟨fun c => ⟨mZ1, iP.i h (bI_t (e.mpr ?_)).symm⟩, fun c => ⟨fun q => absurd q (by decide), fun _ => ⟨by omega, fun c2 => ?_, fun c2 => ?_⟩⟩⟩
      · unfold blF; omega
      · rw [h2 _ (by omega)] at c2
        have hr : spF xs j = spF xs (j + 1) + 1 := runFrom_y (by omega) (by omega) (by simp [c2])
        refine ⟨n - 1, by omega, by trivial, j + 1, rfl, by omega, Or.inl ⟨by trivial, e.trans ?_⟩⟩
        unfold blF
        omega
      · rw [h2 _ (by omega)] at c2
        have hr : spF xs j = 0 := runFrom_n (by omega) (by omega) (by simp [c2])
        refine ⟨n - 1, by omega, by trivial, j + 1, rfl, by omega, Or.inr ⟨by trivial, fun q => ?_⟩⟩
        have q' := e.mp q
        unfold blF at q'
        omega
    · exact ⟨fun c => ⟨mZ0, iP.i h (bI_f e).symm⟩, fun c => ⟨fun _ => ⟨mZ0, iP.i h (bI_f e).symm⟩, fun q => absurd rfl q⟩⟩
theorem rowAt_out {k : Nat} (hk : k < 2 ^ 31) (h : xs.length ≤ k) : rowAt xs (nI k) = -1 := by
  rw [rowAt_nI hk, List.getD_eq_getElem?_getD, List.getElem?_eq_none h]
  rfl
theorem d_Mo_row (F : mF X a0) (hL : LnI m xs) {k : Nat} {c : Int32} (hk : k ≤ 100000) (hc : c ≠ -1) (h : N (nI (runFrom (fun z => z == c) xs k)) m) : mE X 1 y_Mo_row [.ref (mo X), .int (nI k), .int c] m (iP N) := by
  refine g_Mo_row (I2 := fun n x1 x2 x3 m' => m' = m ∧ x1 = nI k ∧ x2 = c ∧ ∃ j, x3 = nI j ∧ n + j = 12001 ∧ (j = 0 ∨ k + j ≤ xs.length) ∧ j + runFrom (fun z => z == c) xs (k + j) = runFrom (fun z => z == c) xs k) F ?_ ?_
  · exact ⟨12001, rfl, rfl, rfl, 0, rfl, by omega, Or.inl rfl, by simp⟩
  · rintro n x1 x2 x3 m' ⟨rfl, rfl, rfl, j, rfl, hn, hj, e⟩
    have h3 := hL.2.2
    simp (discharger := omega) only [w_Mo_row_2, nI_add, lit_add]
    refine d_Mo_at F hL (by omega) ?_
    refine ⟨fun c2 => ?_, fun c2 => ?_⟩
    · have hin : k + j < xs.length := by
        apply Nat.lt_of_not_le
        intro q
        rw [rowAt_out (by omega) q] at c2
        exact hc c2.symm
      have hr : runFrom (fun z => z == x2) xs (k + j) = runFrom (fun z => z == x2) xs (k + j + 1) + 1 := runFrom_y hin (by omega) (by simp [c2])
      exact ⟨n - 1, by omega, by trivial, by trivial, by trivial, j + 1, rfl, by omega, by omega, by rw [← Nat.add_assoc]; omega⟩
    · refine iP.i h ?_
      rw [← e]
      by_cases hin : k + j < xs.length
      · rw [runFrom_n (p := fun z => z == x2) hin (by omega) (by simp [c2])]
        rfl
      · rw [runFrom_end (by omega)]
        rfl
theorem d_Mo_isDigit (F : mF X a0) {c : Int32} (h : N (bI (48 ≤ c ∧ c ≤ 57)) m) : mE X 0 y_Mo_isDigit [.int c] m (iP N) := by
  refine g_Mo_isDigit F ?_
  simp only [w_Mo_isDigit_0, w_Mo_isDigit_16, w_Mo_isDigit_17]
  refine ⟨fun c1 => ⟨mZ0, iP.i h (bI_f (fun q => ?_)).symm⟩, fun c1 => ⟨fun c2 => ⟨mZ0, iP.i h (bI_f (fun q => ?_)).symm⟩, fun c2 => ⟨mZ1, iP.i h (bI_t ⟨?_, ?_⟩).symm⟩⟩⟩
  · exact absurd c1 (Int32.not_lt.mpr q.1)
  · exact absurd c2 (Int32.not_lt.mpr q.2)
  · exact Int32.not_lt.mp c1
  · exact Int32.not_lt.mp c2
theorem d_Mo_isQuote (F : mF X a0) (hL : LnI m xs) {pl i : Nat} (hp : m.1 31 = nI pl) (hpl : pl ≤ 20000) (hi : i ≤ 20000) (h : N (bI (i < 4 ∧ rowAt xs (nI (pl + i)) = 62)) m) : mE X 1 y_Mo_isQuote [.ref (mo X), .int (nI i)] m (iP N) := by
  refine g_Mo_isQuote F ?_
  simp (discharger := omega) only [w_Mo_isQuote_0, w_Mo_isQuote_24, w_Mo_isQuote_25, hp, nI_add, lit_leI]
  refine ⟨fun c => ⟨mZ0, iP.i h (bI_f (fun q => by omega)).symm⟩, fun c => d_Mo_at F hL (by omega) ⟨fun c2 => ⟨mZ1, iP.i h (bI_t ⟨by omega, c2⟩).symm⟩, fun c2 => ⟨mZ0, iP.i h (bI_f (fun q => c2 q.2)).symm⟩⟩⟩
theorem smF_eq {i : Nat} {c : Int32} (h : rowAt xs (nI i) = c) : smF xs i = runFrom (fun z => z == c) xs i := by
  subst h
  rfl
theorem run0 {i : Nat} {c : Int32} (hi : i < 2 ^ 31) (h : rowAt xs (nI i) ≠ c) : runFrom (fun z => z == c) xs i = 0 := by
  by_cases hin : i < xs.length
  · exact runFrom_n hin hi (by simpa using h)
  · exact runFrom_end (by omega)
theorem run1 {i : Nat} {c : Int32} (hi : i < 2 ^ 31) (hc : c ≠ -1) (h : rowAt xs (nI i) = c) : 0 < runFrom (fun z => z == c) xs i := by
  have hin : i < xs.length := by
    apply Nat.lt_of_not_le
    intro q
    rw [rowAt_out hi q] at h
    exact hc h.symm
  rw [runFrom_y (p := fun z => z == c) hin hi (by simpa using h)]
  omega
theorem run_le {p : Int32 → Bool} {i : Nat} (h : xs.length ≤ 12000) : runFrom p xs i ≤ 12000 := by
  have := runFrom_le p xs i
  omega
theorem run_in {p : Int32 → Bool} {i : Nat} (h : i ≤ xs.length) : i + runFrom p xs i ≤ xs.length := by
  have := runFrom_le p xs i
  omega
theorem d_Mo_isHash (F : mF X a0) (hL : LnI m xs) {pl i : Nat} (hp : m.1 31 = nI pl) (hpl : pl + i ≤ xs.length) (h : N (bI (i < 4 ∧ 0 < hdLv xs (pl + i))) m) : mE X 2 y_Mo_isHash [.ref (mo X), .int (nI i)] m (iP N) := by
  have h3 := hL.2.2
  have h1 := hL.1
  refine g_Mo_isHash F ?_
  simp (discharger := omega) only [w_Mo_isHash_0, w_Mo_isHash_21, w_Mo_isHash_64, w_Mo_isHash_68, w_Mo_isHash_69, hp, nI_add, lit_leI]
  refine ⟨fun c => ?_, fun c => d_Mo_row F hL (by omega) (by decide) ?_⟩
  · refine ⟨fun _ => ⟨mZ0, iP.i h (bI_f (fun q => by omega)).symm⟩, fun q => absurd (by decide) q⟩
  · have hr := run_le (p := fun z => z == 35) (i := pl + i) h3
    have hr2 := run_in (p := fun z => z == 35) hpl
    simp (discharger := omega) only [hp, h1, nI_add, lit_leJ, lit_leI, nI_eq]
    have hE : i < 4 ∧ 0 < hdLv xs (pl + i) ↔ 0 < runFrom (fun z => z == 35) xs (pl + i) ∧ runFrom (fun z => z == 35) xs (pl + i) ≤ 6 ∧ seF xs (pl + i + runFrom (fun z => z == 35) xs (pl + i)) := by
      unfold hdLv
      by_cases e : rowAt xs (nI (pl + i)) = 35
      · rw [if_pos e, smF_eq e]
        split
        · next q => exact ⟨fun q' => ⟨q'.2, q⟩, fun q' => ⟨by omega, q'.1⟩⟩
        · next q => exact ⟨fun q' => by omega, fun q' => absurd q'.2 q⟩
      · rw [if_neg e, run0 (by omega) e]
        omega
    have hN : ∀ b : Int32, (b = bI (i < 4 ∧ 0 < hdLv xs (pl + i))) → iP N (some (.int b)) m := fun b e => iP.i h e
    refine ⟨fun c1 => ⟨mZ0, hN _ (bI_f (fun q => by have := hE.mp q; omega)).symm⟩, fun c1 => ⟨fun c2 => ⟨mZ0, hN _ (bI_f (fun q => by have := hE.mp q; omega)).symm⟩, fun c2 => ⟨fun c3 => ⟨mZ1, hN _ (bI_t (hE.mpr ⟨by omega, by omega, Or.inl (by omega)⟩)).symm⟩, fun c3 => d_Mo_at F hL (by omega) ⟨fun c4 => ⟨mZ1, hN _ (bI_t (hE.mpr ⟨by omega, by omega, Or.inr c4⟩)).symm⟩, fun c4 => ⟨mZ0, hN _ (bI_f (fun q => ?_)).symm⟩⟩⟩⟩⟩
    rcases (hE.mp q).2.2 with q | q
    · omega
    · exact c4 q
theorem d_Mo_isFence (F : mF X a0) (hL : LnI m xs) {pl i : Nat} (hp : m.1 31 = nI pl) (hpl : pl + i ≤ xs.length) (h : N (bI (i < 4 ∧ 0 < fnLn xs (pl + i))) m) : mE X 2 y_Mo_isFence [.ref (mo X), .int (nI i)] m (iP N) := by
  have h3 := hL.2.2
  have h1 := hL.1
  have h2 := hL.2.1
  have hr := run_le (p := fun z => z == 126) (i := pl + i) h3
  have hq := run_le (p := fun z => z == 96) (i := pl + i) h3
  have hq2 := run_in (p := fun z => z == 96) hpl
  refine g_Mo_isFence (I52 := fun n x1 x2 x3 x4 x5 m' => m' = m ∧ i < 4 ∧ runFrom (fun z => z == 126) xs (pl + i) ≤ 2 ∧ ∃ j, x5 = nI j ∧ n + j = xs.length + 1 ∧ ((x4 = 1 ∧ (0 < fnLn xs (pl + i) ↔ (xs.drop j).any (fun z => z == 96) = false)) ∨ (x4 = 0 ∧ ¬ 0 < fnLn xs (pl + i)))) F ?_ ?_
  · simp (discharger := omega) only [w_Mo_isFence_0, w_Mo_isFence_45, hp, nI_add, lit_leJ]
    refine ⟨fun c => d_Mo_row F hL (by omega) (by decide) ?_, fun c => iP.i h (bI_f (fun q => by omega)).symm⟩
    simp (discharger := omega) only [lit_leJ]
    refine ⟨fun c1 => d_Mo_row F hL (by omega) (by decide) ?_, fun c1 => iP.i h (bI_t ⟨by omega, ?_⟩).symm⟩
    · simp (discharger := omega) only [lit_leJ, nI_add]
      refine ⟨fun c2 => ⟨xs.length + 1 - (pl + i + runFrom (fun z => z == 96) xs (pl + i)), by trivial, by omega, c1, _, rfl, by omega, Or.inr ⟨by trivial, ?_⟩⟩, fun c2 => ⟨xs.length + 1 - (pl + i + runFrom (fun z => z == 96) xs (pl + i)), by trivial, by omega, c1, _, rfl, by omega, Or.inl ⟨by trivial, ?_⟩⟩⟩
      · unfold fnLn
        split
        · next e =>
          rcases e with e | e
          · rw [smF_eq e]
            split
            · omega
            · rw [if_neg (by omega)]
              omega
          · rw [smF_eq e, if_neg (by rw [e]; simp), if_neg (by omega)]
            omega
        · omega
      · have e : rowAt xs (nI (pl + i)) = 96 := by
          apply Decidable.byContradiction
          intro e
          rw [run0 (by omega) e] at c2
          omega
        unfold fnLn
        rw [if_pos (Or.inl e), smF_eq e]
        cases hA : (xs.drop (pl + i + runFrom (fun z => z == 96) xs (pl + i))).any (fun z => z == 96)
        · rw [if_neg (by simp), if_pos (by omega)]
          simp
          omega
        · rw [if_pos ⟨e, rfl⟩]
          simp
    · have e : rowAt xs (nI (pl + i)) = 126 := by
        apply Decidable.byContradiction
        intro e
        rw [run0 (by omega) e] at c1
        omega
      unfold fnLn
      rw [if_pos (Or.inr e), if_neg (by rw [e]; simp), smF_eq e, if_pos (by omega)]
      omega
  · rintro n x1 x2 x3 x4 x5 m' ⟨rfl, hi, ht, j, rfl, hn, hx⟩
    simp (discharger := omega) only [w_Mo_isFence_52, w_Mo_isFence_91, w_Mo_isFence_83, h1, nI_leI, vp_nI, nI_clamp, lit_add]
    rcases hx with ⟨rfl, e⟩ | ⟨rfl, e⟩
    · refine ⟨fun c => ⟨mZ1, iP.i h (bI_t ⟨hi, e.mpr (by rw [List.drop_eq_nil_of_le c]; rfl)⟩).symm⟩, fun c => ⟨fun q => absurd q (by decide), fun _ => ⟨by omega, fun c2 => ?_, fun c2 => ?_⟩⟩⟩
      · rw [h2 _ (by omega)] at c2
        refine ⟨n - 1, by omega, by trivial, hi, ht, j + 1, rfl, by omega, Or.inr ⟨by trivial, fun q => ?_⟩⟩
        have q' := e.mp q
        rw [drop_at (by omega) (by omega), List.any_cons, c2] at q'
        simp at q'
      · rw [h2 _ (by omega)] at c2
        refine ⟨n - 1, by omega, by trivial, hi, ht, j + 1, rfl, by omega, Or.inl ⟨by trivial, e.trans ?_⟩⟩
        rw [drop_at (by omega) (by omega), List.any_cons]
        simp [c2]
    · exact ⟨fun c => ⟨mZ0, iP.i h (bI_f (fun q => e q.2)).symm⟩, fun c => ⟨fun _ => ⟨mZ0, iP.i h (bI_f (fun q => e q.2)).symm⟩, fun q => absurd rfl q⟩⟩
end MOLINE
