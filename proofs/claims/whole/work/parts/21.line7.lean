theorem rowCut0 (xs : List Int32) : rowCut xs 0 = [] := by
  unfold rowCut
  rw [if_neg (by decide), sb_cl0]
  rfl
theorem tw_stop {ts : List Int32} {j : Nat} (h : runFrom inLn ts j = 0) : (ts.drop j).takeWhile inLn = [] := List.eq_nil_of_length_eq_zero h
section LINE7
variable {l : Launch} {s0 : State} {D : va_G} {cA : Nat → ClassId} {a0 : Array Value} {d : Nat} {σ : jS} {a sg n ta pl id ml : Nat} {xs ts : List Int32} {tp nt : Nat} {ms mn : Int32}
theorem e_take26 (F : jOK s0 jcl D cA lw_tbl a0 jty) {Φ : Option Value → jS → Prop} (ht0 : ts.length ≤ 3000) : ∀ (k j : Nat) (σ : jS) (n : Nat) (xs : List Int32), ts.length ≤ j + k → j ≤ 6000 → xs.length ≤ 4 * j → (ts.length ≤ j → xs.length ≤ 12000) → jI s0.heap.size σ → LineAt s0.heap.size σ a sg n xs ta pl id ms ml mn → RowAt s0.heap.size 1 1010 σ tp nt ts → (∀ (σ' : jS) (n' : Nat), jI s0.heap.size σ' → jK [11, 1012] σ σ' → LineAt s0.heap.size σ' a sg n' (((ts.drop j).takeWhile inLn).foldl addS xs) ta pl id ms ml mn → n ≤ n' → σ'.2.1 + n ≤ σ.2.1 + n' → σ'.2.2 + 2 * n = σ.2.2 + 2 * n' → jW l s0 jcl D cA (d + 4) y_Line_takeNext 69 [some (.ref a), some (.ref tp), some (.int (nI (lnE ts j)))] [] σ' Φ) → jW l s0 jcl D cA (d + 4) y_Line_takeNext 26 [some (.ref a), some (.ref tp), some (.int (nI j))] [] σ Φ := by
  intro k
  induction k with
  | zero =>
    intro j σ n xs hk hj hx hx2 hI h hT hK
    have hL0 := h
    obtain ⟨⟨v, h1, h2, h3, h4, h5, h6, h7, h8, h9⟩, hS, b1, b2, b3, b4, b5⟩ := h
    obtain ⟨vt, ht⟩ := hS.cell
    obtain ⟨vp, hq⟩ := hT.cell
    have e0 : runFrom inLn ts j = 0 := runFrom_end (by omega)
    refine jW.iload_n (dx_Line_takeNext 14 (e := (26, .iload_n 2, 1)) rfl) rfl rfl (pc' := 27) rfl ?_
    refine jW.aload_n (dx_Line_takeNext 15 (e := (27, .aload_n 1, 1)) rfl) rfl rfl (pc' := 28) rfl ?_
    refine jW.callV F (e_Row_size F rfl (by decide) rfl hT) (dx_Line_takeNext 16 (e := (28, .invokevirtual 22, 3)) rfl) can_Row_size jw_553 jw_372 (by assumption) rfl jw_373 rfl rfl (Nat.le_of_ble_eq_true rfl) (pc' := 31) rfl (fun r σ1 hr => ?_)
    obtain ⟨rfl, rfl⟩ := hr
    refine jW.icmp_ge (dx_Line_takeNext 17 (e := (31, .if_icmp .ge 38, 3)) rfl) 69 (by decide) (pc' := 34) rfl (fun c_31 => ?_) (fun c_31 => ?_)
    · have := hK _ n hI jK.rfl (by rw [tw_stop e0]; exact hL0) (Nat.le_refl _) (Nat.le_refl _) rfl
      unfold lnE at this
      rw [e0, Nat.add_zero] at this
      exact this
    · exact absurd ((nI_leI (by omega) (by omega)).mpr (by omega)) c_31
  | succ k ih =>
    intro j σ n xs hk hj hx hx2 hI h hT hK
    have hL0 := h
    obtain ⟨⟨v, h1, h2, h3, h4, h5, h6, h7, h8, h9⟩, hS, b1, b2, b3, b4, b5⟩ := h
    obtain ⟨vt, ht⟩ := hS.cell
    obtain ⟨vp, hq⟩ := hT.cell
    refine jW.iload_n (dx_Line_takeNext 14 (e := (26, .iload_n 2, 1)) rfl) rfl rfl (pc' := 27) rfl ?_
    refine jW.aload_n (dx_Line_takeNext 15 (e := (27, .aload_n 1, 1)) rfl) rfl rfl (pc' := 28) rfl ?_
    refine jW.callV F (e_Row_size F rfl (by decide) rfl hT) (dx_Line_takeNext 16 (e := (28, .invokevirtual 22, 3)) rfl) can_Row_size jw_553 jw_372 (by assumption) rfl jw_373 rfl rfl (Nat.le_of_ble_eq_true rfl) (pc' := 31) rfl (fun r σ1 hr => ?_)
    obtain ⟨rfl, rfl⟩ := hr
    refine jW.icmp_ge (dx_Line_takeNext 17 (e := (31, .if_icmp .ge 38, 3)) rfl) 69 (by decide) (pc' := 34) rfl (fun c_31 => ?_) (fun c_31 => ?_)
    · have e1 : (ts.drop j).takeWhile inLn = [] := by
        first
          | exact tw_stop (runFrom_end ((nI_leI (by omega) (by omega)).mp c_31))
          | exact tw_stop (runFrom_no (rowAt_some (Nat.not_le.mp (fun q => c_31 ((nI_leI (by omega) (by omega)).mpr q))) (by omega)) (by rw [c_41]; decide))
          | exact tw_stop (runFrom_no (rowAt_some (Nat.not_le.mp (fun q => c_31 ((nI_leI (by omega) (by omega)).mpr q))) (by omega)) (by rw [c_51]; decide))
      have e0 : runFrom inLn ts j = 0 := by unfold runFrom; rw [e1]; rfl
      have := hK _ n hI jK.rfl (by rw [e1]; exact hL0) (Nat.le_refl _) (Nat.le_refl _) rfl
      unfold lnE at this
      rw [e0, Nat.add_zero] at this
      exact this
    · refine jW.aload_n (dx_Line_takeNext 18 (e := (34, .aload_n 1, 1)) rfl) rfl rfl (pc' := 35) rfl ?_
      refine jW.iload_n (dx_Line_takeNext 19 (e := (35, .iload_n 2, 1)) rfl) rfl rfl (pc' := 36) rfl ?_
      refine jW.callV F (e_Row_at F rfl (by decide) rfl hT _) (dx_Line_takeNext 20 (e := (36, .invokevirtual 30, 3)) rfl) can_Row_at jw_555 jw_439 (by assumption) rfl jw_440 rfl rfl (Nat.le_of_ble_eq_true rfl) (pc' := 39) rfl (fun r σ1 hr => ?_)
      obtain ⟨rfl, rfl⟩ := hr
      refine jW.bipush (v := 10) (dx_Line_takeNext 21 (e := (39, .bipush 10, 2)) rfl) (by decide) (pc' := 41) rfl ?_
      refine jW.icmp_eq (dx_Line_takeNext 22 (e := (41, .if_icmp .eq 28, 3)) rfl) 69 (by decide) (pc' := 44) rfl (fun c_41 => ?_) (fun c_41 => ?_)
      · have e1 : (ts.drop j).takeWhile inLn = [] := by
          first
            | exact tw_stop (runFrom_end ((nI_leI (by omega) (by omega)).mp c_31))
            | exact tw_stop (runFrom_no (rowAt_some (Nat.not_le.mp (fun q => c_31 ((nI_leI (by omega) (by omega)).mpr q))) (by omega)) (by rw [c_41]; decide))
            | exact tw_stop (runFrom_no (rowAt_some (Nat.not_le.mp (fun q => c_31 ((nI_leI (by omega) (by omega)).mpr q))) (by omega)) (by rw [c_51]; decide))
        have e0 : runFrom inLn ts j = 0 := by unfold runFrom; rw [e1]; rfl
        have := hK _ n hI jK.rfl (by rw [e1]; exact hL0) (Nat.le_refl _) (Nat.le_refl _) rfl
        unfold lnE at this
        rw [e0, Nat.add_zero] at this
        exact this
      · refine jW.aload_n (dx_Line_takeNext 23 (e := (44, .aload_n 1, 1)) rfl) rfl rfl (pc' := 45) rfl ?_
        refine jW.iload_n (dx_Line_takeNext 24 (e := (45, .iload_n 2, 1)) rfl) rfl rfl (pc' := 46) rfl ?_
        refine jW.callV F (e_Row_at F rfl (by decide) rfl hT _) (dx_Line_takeNext 25 (e := (46, .invokevirtual 30, 3)) rfl) can_Row_at jw_555 jw_439 (by assumption) rfl jw_440 rfl rfl (Nat.le_of_ble_eq_true rfl) (pc' := 49) rfl (fun r σ1 hr => ?_)
        obtain ⟨rfl, rfl⟩ := hr
        refine jW.bipush (v := 13) (dx_Line_takeNext 26 (e := (49, .bipush 13, 2)) rfl) (by decide) (pc' := 51) rfl ?_
        refine jW.icmp_eq (dx_Line_takeNext 27 (e := (51, .if_icmp .eq 18, 3)) rfl) 69 (by decide) (pc' := 54) rfl (fun c_51 => ?_) (fun c_51 => ?_)
        · have e1 : (ts.drop j).takeWhile inLn = [] := by
            first
              | exact tw_stop (runFrom_end ((nI_leI (by omega) (by omega)).mp c_31))
              | exact tw_stop (runFrom_no (rowAt_some (Nat.not_le.mp (fun q => c_31 ((nI_leI (by omega) (by omega)).mpr q))) (by omega)) (by rw [c_41]; decide))
              | exact tw_stop (runFrom_no (rowAt_some (Nat.not_le.mp (fun q => c_31 ((nI_leI (by omega) (by omega)).mpr q))) (by omega)) (by rw [c_51]; decide))
          have e0 : runFrom inLn ts j = 0 := by unfold runFrom; rw [e1]; rfl
          have := hK _ n hI jK.rfl (by rw [e1]; exact hL0) (Nat.le_refl _) (Nat.le_refl _) rfl
          unfold lnE at this
          rw [e0, Nat.add_zero] at this
          exact this
        · refine jW.aload_n (dx_Line_takeNext 28 (e := (54, .aload_n 0, 1)) rfl) rfl rfl (pc' := 55) rfl ?_
          refine jW.aload_n (dx_Line_takeNext 29 (e := (55, .aload_n 1, 1)) rfl) rfl rfl (pc' := 56) rfl ?_
          refine jW.iload_n (dx_Line_takeNext 30 (e := (56, .iload_n 2, 1)) rfl) rfl rfl (pc' := 57) rfl ?_
          have hlt : j < ts.length := Nat.not_le.mp (fun q => c_31 ((nI_leI (by omega) (by omega)).mpr q))
          refine jW.callV F (e_Row_at F rfl (by decide) rfl hT _) (dx_Line_takeNext 31 (e := (57, .invokevirtual 30, 3)) rfl) can_Row_at jw_555 jw_439 (by assumption) rfl jw_440 rfl rfl (Nat.le_of_ble_eq_true rfl) (pc' := 60) rfl (fun r σ1 hr => ?_)
          obtain ⟨rfl, rfl⟩ := hr
          refine jW.callV F (e_Line_addSign F hI hL0 (by omega) _) (dx_Line_takeNext 32 (e := (60, .invokevirtual 34, 3)) rfl) can_Line_addSign jw_556 jw_558 (by assumption) rfl sel_Line_addSign rfl rfl (Nat.le_of_ble_eq_true rfl) (pc' := 63) rfl (fun r σ1 hr => ?_)
          obtain ⟨rfl, n1, z1, z2, z3, z4, z5, z6⟩ := hr
          refine jW.iinc (v := nI (j + 1)) (dx_Line_takeNext 33 (e := (63, .iinc 2 1, 3)) rfl) rfl (nI_1 j) (by decide) rfl (pc' := 66) rfl ?_
          refine jW.goto (dx_Line_takeNext 34 (e := (66, .goto (-40), 3)) rfl) 26 (by decide) ?_
          have hy : inLn (rowAt ts (nI j)) = true := by simp [inLn, c_41, c_51]
          have e2 : (ts.drop j).takeWhile inLn = rowAt ts (nI j) :: (ts.drop (j + 1)).takeWhile inLn := by rw [drop_at hlt (by omega), List.takeWhile_cons, if_pos hy]
          have e3 : lnE ts j = lnE ts (j + 1) := by unfold lnE; rw [runFrom_yes (rowAt_some hlt (by omega)) hy]; omega
          have hal := addS_len xs (rowAt ts (nI j))
          rw [e2, e3] at hK
          exact ih (j + 1) _ n1 (addS xs (rowAt ts (nI j))) (by omega) (by omega) (by omega) (fun _ => by omega) z1 z3 (hT.keep z2 (by decide) (by decide)) (fun σ' n' y1 y2 y3 y4 y5 y6 => hK σ' n' y1 (z2.trans y2) y3 (by omega) (by omega) (by omega))
end LINE7
