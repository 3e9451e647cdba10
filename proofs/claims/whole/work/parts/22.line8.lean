abbrev isDg : Int32 → Bool := fun c => decide (48 ≤ c ∧ c ≤ 57)
/-- the digits of a mark at i: how many (at most nine), what number they tell -/
def dgC (xs : List Int32) (i : Nat) : Nat := min 9 (runFrom isDg xs i)
def dgN (xs : List Int32) (i : Nat) : Nat → Int32
  | 0 => 0
  | k + 1 => 10 * dgN xs i k + rowAt xs (nI (i + k)) - 48
/-- the sign of a mark at i -/
def mkS (xs : List Int32) (i : Nat) : Int32 := rowAt xs (nI (i + dgC xs i))
/-- an item's mark stands at i -/
def mkB (xs : List Int32) (i : Nat) : Bool := (if dgC xs i = 0 then decide (mkS xs i = 42 ∨ mkS xs i = 43 ∨ mkS xs i = 45) else decide (mkS xs i = 46 ∨ mkS xs i = 41)) && decide (seF xs (i + (dgC xs i + 1)))
section LINE8
variable {l : Launch} {s0 : State} {D : va_G} {cA : Nat → ClassId} {a0 : Array Value} {d : Nat} {σ : jS} {a sg n ta pl id ml : Nat} {xs : List Int32} {ms mn : Int32}
theorem e_mark7 (F : jOK s0 jcl D cA lw_tbl a0 jty) {Φ : Option Value → jS → Prop} : ∀ (k i : Nat) (σ : jS), i + k = 9 → i + runFrom isDg xs (pl + id + i) = runFrom isDg xs (pl + id) → jI s0.heap.size σ → LineAt s0.heap.size σ a sg n xs ta pl id ms ml (dgN xs (pl + id) i) → (∀ σ' : jS, jI s0.heap.size σ' → jK [5] σ σ' → σ'.2 = σ.2 → LineAt s0.heap.size σ' a sg n xs ta pl id ms ml (dgN xs (pl + id) (dgC xs (pl + id))) → jW l s0 jcl D cA (d + 2) y_Line_findMark 66 [some (.ref a), some (.int (nI (dgC xs (pl + id)))), none] [] σ' Φ) → jW l s0 jcl D cA (d + 2) y_Line_findMark 7 [some (.ref a), some (.int (nI i)), none] [] σ Φ := by
  intro k
  induction k with
  | zero =>
    intro i σ hk he hI h hK
    have hL0 := h
    obtain ⟨⟨v, h1, h2, h3, h4, h5, h6, h7, h8, h9⟩, hS, b1, b2, b3, b4, b5⟩ := h
    obtain ⟨vt, ht⟩ := hS.cell
    have hi : i = 9 := by omega
    subst hi
    have hD : dgC xs (pl + id) = 9 := by unfold dgC; omega
    rw [hD] at hK
    refine jW.iload_n (dx_Line_findMark 5 (e := (7, .iload_n 1, 1)) rfl) rfl rfl (pc' := 8) rfl ?_
    refine jW.bipush (v := 9) (dx_Line_findMark 6 (e := (8, .bipush 9, 2)) rfl) (by decide) (pc' := 10) rfl ?_
    refine jW.icmp_ge (dx_Line_findMark 7 (e := (10, .if_icmp .ge 56, 3)) rfl) 66 (by decide) (pc' := 13) rfl (fun c_10 => ?_) (fun c_10 => ?_)
    · exact hK _ hI jK.rfl rfl hL0
    · exact absurd ((nI_leI (a := 9) (by omega) (by omega)).mpr (by omega)) c_10
  | succ k ih =>
    intro i σ hk he hI h hK
    have hL0 := h
    obtain ⟨⟨v, h1, h2, h3, h4, h5, h6, h7, h8, h9⟩, hS, b1, b2, b3, b4, b5⟩ := h
    obtain ⟨vt, ht⟩ := hS.cell
    refine jW.iload_n (dx_Line_findMark 5 (e := (7, .iload_n 1, 1)) rfl) rfl rfl (pc' := 8) rfl ?_
    refine jW.bipush (v := 9) (dx_Line_findMark 6 (e := (8, .bipush 9, 2)) rfl) (by decide) (pc' := 10) rfl ?_
    refine jW.icmp_ge (dx_Line_findMark 7 (e := (10, .if_icmp .ge 56, 3)) rfl) 66 (by decide) (pc' := 13) rfl (fun c_10 => ?_) (fun c_10 => ?_)
    · have hD : dgC xs (pl + id) = i := by
        unfold dgC
        first
          | (have q9 := (nI_leI (a := 9) (by omega) (by omega)).mp c_10
             omega)
          | (have q8 : runFrom isDg xs (pl + id + i) = 0 := by
               by_cases hlt : pl + id + i < xs.length
               · exact runFrom_no (rowAt_some hlt (by omega)) (by simpa [isDg] using bI_0 c_29)
               · exact runFrom_end (by omega)
             omega)
      rw [hD] at hK
      exact hK _ hI jK.rfl rfl hL0
    · refine jW.aload_n (dx_Line_findMark 8 (e := (13, .aload_n 0, 1)) rfl) rfl rfl (pc' := 14) rfl ?_
      refine jW.getf F f_Line_findMark_14 (by assumption) (by assumption) (pc' := 17) rfl ?_
      refine jW.aload_n (dx_Line_findMark 10 (e := (17, .aload_n 0, 1)) rfl) rfl rfl (pc' := 18) rfl ?_
      refine jW.callV F (e_Line_start F hL0) (dx_Line_findMark 11 (e := (18, .invokevirtual 49, 3)) rfl) can_Line_start jw_590 jw_591 (by assumption) rfl jw_592 rfl rfl (Nat.le_of_ble_eq_true rfl) (pc' := 21) rfl (fun r σ1 hr => ?_)
      obtain ⟨rfl, rfl⟩ := hr
      refine jW.iload_n (dx_Line_findMark 12 (e := (21, .iload_n 1, 1)) rfl) rfl rfl (pc' := 22) rfl ?_
      refine jW.iadd (dx_Line_findMark 13 (e := (22, .iadd, 1)) rfl) (pc' := 23) rfl ?_
      rw [nI_add]
      refine jW.callV F (e_Row_at F rfl (by decide) rfl hS _) (dx_Line_findMark 14 (e := (23, .invokevirtual 30, 3)) rfl) can_Row_at jw_555 jw_439 (by assumption) rfl jw_440 rfl rfl (Nat.le_of_ble_eq_true rfl) (pc' := 26) rfl (fun r σ1 hr => ?_)
      obtain ⟨rfl, rfl⟩ := hr
      refine jW.callS F (e_Line_isDigit F _) (dx_Line_findMark 15 (e := (26, .invokestatic 78, 3)) rfl) can_Line_isDigit jw_678 jw_679 rfl rfl (Nat.le_of_ble_eq_true rfl) (pc' := 29) rfl (fun r σ1 hr => ?_)
      obtain ⟨rfl, rfl⟩ := hr
      refine jW.if_eq (dx_Line_findMark 16 (e := (29, .ifCond .eq 37, 3)) rfl) 66 (by decide) (pc' := 32) rfl (fun c_29 => ?_) (fun c_29 => ?_)
      · have hD : dgC xs (pl + id) = i := by
          unfold dgC
          first
            | (have q9 := (nI_leI (a := 9) (by omega) (by omega)).mp c_10
               omega)
            | (have q8 : runFrom isDg xs (pl + id + i) = 0 := by
                 by_cases hlt : pl + id + i < xs.length
                 · exact runFrom_no (rowAt_some hlt (by omega)) (by simpa [isDg] using bI_0 c_29)
                 · exact runFrom_end (by omega)
               omega)
        rw [hD] at hK
        exact hK _ hI jK.rfl rfl hL0
      · refine jW.aload_n (dx_Line_findMark 17 (e := (32, .aload_n 0, 1)) rfl) rfl rfl (pc' := 33) rfl ?_
        refine jW.bipush (v := 10) (dx_Line_findMark 18 (e := (33, .bipush 10, 2)) rfl) (by decide) (pc' := 35) rfl ?_
        refine jW.aload_n (dx_Line_findMark 19 (e := (35, .aload_n 0, 1)) rfl) rfl rfl (pc' := 36) rfl ?_
        refine jW.getf F f_Line_findMark_36 (by assumption) (by assumption) (pc' := 39) rfl ?_
        refine jW.imul (dx_Line_findMark 21 (e := (39, .imul, 1)) rfl) (pc' := 40) rfl ?_
        refine jW.aload_n (dx_Line_findMark 22 (e := (40, .aload_n 0, 1)) rfl) rfl rfl (pc' := 41) rfl ?_
        refine jW.getf F f_Line_findMark_41 (by assumption) (by assumption) (pc' := 44) rfl ?_
        refine jW.aload_n (dx_Line_findMark 24 (e := (44, .aload_n 0, 1)) rfl) rfl rfl (pc' := 45) rfl ?_
        refine jW.callV F (e_Line_start F hL0) (dx_Line_findMark 25 (e := (45, .invokevirtual 49, 3)) rfl) can_Line_start jw_590 jw_591 (by assumption) rfl jw_592 rfl rfl (Nat.le_of_ble_eq_true rfl) (pc' := 48) rfl (fun r σ1 hr => ?_)
        obtain ⟨rfl, rfl⟩ := hr
        refine jW.iload_n (dx_Line_findMark 26 (e := (48, .iload_n 1, 1)) rfl) rfl rfl (pc' := 49) rfl ?_
        refine jW.iadd (dx_Line_findMark 27 (e := (49, .iadd, 1)) rfl) (pc' := 50) rfl ?_
        rw [nI_add]
        refine jW.callV F (e_Row_at F rfl (by decide) rfl hS _) (dx_Line_findMark 28 (e := (50, .invokevirtual 30, 3)) rfl) can_Row_at jw_555 jw_439 (by assumption) rfl jw_440 rfl rfl (Nat.le_of_ble_eq_true rfl) (pc' := 53) rfl (fun r σ1 hr => ?_)
        obtain ⟨rfl, rfl⟩ := hr
        refine jW.iadd (dx_Line_findMark 29 (e := (53, .iadd, 1)) rfl) (pc' := 54) rfl ?_
        refine jW.bipush (v := 48) (dx_Line_findMark 30 (e := (54, .bipush 48, 2)) rfl) (by decide) (pc' := 56) rfl ?_
        refine jW.isub (dx_Line_findMark 31 (e := (56, .isub, 1)) rfl) (pc' := 57) rfl ?_
        have hdg := bI_n0 c_29
        have hlt : pl + id + i < xs.length := by
          refine Nat.not_le.mp (fun q => ?_)
          rw [rowAt_nI (by omega), List.getD_eq_getElem?_getD, List.getElem?_eq_none q] at hdg
          exact absurd hdg (by decide)
        have hy : runFrom isDg xs (pl + id + i) = runFrom isDg xs (pl + id + (i + 1)) + 1 := runFrom_yes (rowAt_some hlt (by omega)) (by simpa [isDg] using hdg)
        refine jW.putf F f_Line_findMark_57 rfl jF_Line jTab_Line rfl h1 h9 rfl rfl rfl (pc' := 60) rfl ?_
        refine jW.iinc (v := nI (i + 1)) (dx_Line_findMark 33 (e := (60, .iinc 1 1, 3)) rfl) rfl (nI_1 i) (by decide) rfl (pc' := 63) rfl ?_
        refine jW.goto (dx_Line_findMark 34 (e := (63, .goto (-56), 3)) rfl) 7 (by decide) ?_
        exact ih (i + 1) _ (by omega) (by omega) (hI.put h1) (hL0.put6 h1 (z := dgN xs (pl + id) (i + 1))) (fun σ' z1 z2 z3 z4 => hK σ' z1 ((jK.put h1 (by simp)).trans z2) z3 z4)
end LINE8
