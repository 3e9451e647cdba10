theorem rowCut0 (xs : List Int32) : rowCut xs 0 = [] := by
  unfold rowCut
  rw [if_neg (by decide), sb_cl0]
  rfl
theorem tw_stop {ts : List Int32} {j : Nat} (h : runFrom inLn ts j = 0) : (ts.drop j).takeWhile inLn = [] := List.eq_nil_of_length_eq_zero h
section LINE7
variable {l : Launch} {s0 : State} {D : va_G} {cA : Nat → ClassId} {a0 : Array Value} {d : Nat} {σ : jS} {a sg n ta pl id ml : Nat} {xs ts : List Int32} {tp nt : Nat} {ms mn : Int32}
theorem e_take26 (F : jOK s0 jcl D cA lw_tbl a0 jty) {Φ : Option Value → jS → Prop} (ht0 : ts.length ≤ 3000) : ∀ (k j : Nat) (σ : jS) (n : Nat) (xs : List Int32), ts.length ≤ j + k → j ≤ 6000 → xs.length ≤ 4 * j → (ts.length ≤ j → xs.length ≤ 12000) → jI s0.heap.size σ → LineAt s0.heap.size σ a sg n xs ta pl id ms ml mn → RowAt s0.heap.size 1 1010 σ tp nt ts → (∀ (σ' : jS) (n' : Nat), jI s0.heap.size σ' → jK [11, 1012] σ σ' → LineAt s0.heap.size σ' a sg n' (((ts.drop j).takeWhile inLn).foldl addS xs) ta pl id ms ml mn → n ≤ n' → σ'.2.1 + n ≤ σ.2.1 + n' → σ'.2.2 + 2 * n = σ.2.2 + 2 * n' → jW l s0 jcl D cA (d + 4) y_Line_takeNext 69 [some (.ref a), some (.ref tp), some (.int (nI (lnE ts j)))] [] σ' Φ) → jW l s0 jcl D cA (d + 4) y_Line_takeNext 26 [some (.ref a), some (.ref tp), some (.int (nI j))] [] σ Φ := by
  intro k
  induction k with
  | zero =>
    intro j σ n xs hk hj hx hx2 hI h hT hK
    have hL0 := h
    obtain ⟨⟨v, h1, h2, h3, h4, h5, h6, h7, h8, h9⟩, hS, b1, b2, b3, b4, b5⟩ := h
    obtain ⟨vt, ht⟩ := hS.cell
    obtain ⟨vp, hq⟩ := hT.cell
    have e0 : runFrom inLn ts j = 0 := runFrom_end (by omega)
    refine jW.iload_n (dx_Line_takeNext 14 (e := (26, .iload_n 2, 1)) rfl) rfl rfl (pc' := 27) rfl ?_
    refine jW.aload_n (dx_Line_takeNext 15 (e := (27, .aload_n 1, 1)) rfl) rfl rfl (pc' := 28) rfl ?_
    refine jW.callV F (e_Row_size F rfl (by decide) rfl hT) (dx_Line_takeNext 16 (e := (28, .invokevirtual 22, 3)) rfl) can_Row_size jw_553 jw_372 (by assumption) rfl jw_373 rfl rfl (Nat.le_of_ble_eq_true rfl) (pc' := 31) rfl (fun r σ1 hr => ?_)
    obtain ⟨rfl, rfl⟩ := hr
    refine jW.icmp_ge (dx_Line_takeNext 17 (e := (31, .if_icmp .ge 38, 3)) rfl) 69 (by decide) (pc' := 34) rfl (fun c_31 => ?_) (fun c_31 => ?_)
    · have := hK _ n hI jK.rfl (by rw [tw_stop e0]; exact hL0) (Nat.le_refl _) (Nat.le_refl _) rfl
      unfold lnE at this
      rw [e0, Nat.add_zero] at this
      exact this
    · exact absurd ((nI_leI (by omega) (by omega)).mpr (by omega)) c_31
  | succ k ih =>
    intro j σ n xs hk hj hx hx2 hI h hT hK
    have hL0 := h
    obtain ⟨⟨v, h1, h2, h3, h4, h5, h6, h7, h8, h9⟩, hS, b1, b2, b3, b4, b5⟩ := h
    obtain ⟨vt, ht⟩ := hS.cell
    obtain ⟨vp, hq⟩ := hT.cell
    refine jW.iload_n (dx_Line_takeNext 14 (e := (26, .iload_n 2, 1)) rfl) rfl rfl (pc' := 27) rfl ?_
    refine jW.aload_n (dx_Line_takeNext 15 (e := (27, .aload_n 1, 1)) rfl) rfl rfl (pc' := 28) rfl ?_
    refine jW.callV F (e_Row_size F rfl (by decide) rfl hT) (dx_Line_takeNext 16 (e := (28, .invokevirtual 22, 3)) rfl) can_Row_size jw_553 jw_372 (by assumption) rfl jw_373 rfl rfl (Nat.le_of_ble_eq_true rfl) (pc' := 31) rfl (fun r σ1 hr => ?_)
    obtain ⟨rfl, rfl⟩ := hr
    refine jW.icmp_ge (dx_Line_takeNext 17 (e := (31, .if_icmp .ge 38, 3)) rfl) 69 (by decide) (pc' := 34) rfl (fun c_31 => ?_) (fun c_31 => ?_)
    · have e1 : (ts.drop j).takeWhile inLn = [] := by
        first
          | exact tw_stop (runFrom_end ((nI_leI (by omega) (by omega)).mp c_31))
          | exact tw_stop (runFrom_no (rowAt_some (Nat.not_le.mp (fun q => c_31 ((nI_leI (by omega) (by omega)).mpr q))) (by omega)) (by rw [c_41]; decide))
          | exact tw_stop (runFrom_no (rowAt_some (Nat.not_le.mp (fun q => c_31 ((nI_leI (by omega) (by omega)).mpr q))) (by omega)) (by rw [c_51]; decide))
      have e0 : runFrom inLn ts j = 0 := by unfold runFrom; rw [e1]; rfl
      have := hK _ n hI jK.rfl (by rw [e1]; exact hL0) (Nat.le_refl _) (Nat.le_refl _) rfl
      unfold lnE at this
      rw [e0, Nat.add_zero] at this
      exact this
    · refine jW.aload_n (dx_Line_takeNext 18 (e := (34, .aload_n 1, 1)) rfl) rfl rfl (pc' := 35) rfl ?_
      refine jW.iload_n (dx_Line_takeNext 19 (e := (35, .iload_n 2, 1)) rfl) rfl rfl (pc' := 36) rfl ?_
      refine jW.callV F (e_Row_at F rfl (by decide) rfl hT _) (dx_Line_takeNext 20 (e := (36, .invokevirtual 30, 3)) rfl) can_Row_at jw_555 jw_439 (by assumption) rfl jw_440 rfl rfl (Nat.le_of_ble_eq_true rfl) (pc' := 39) rfl (fun r σ1 hr => ?_)
      obtain ⟨rfl, rfl⟩ := hr
      refine jW.bipush (v := 10) (dx_Line_takeNext 21 (e := (39, .bipush 10, 2)) rfl) (by decide) (pc' := 41) rfl ?_
      refine jW.icmp_eq (dx_Line_takeNext 22 (e := (41, .if_icmp .eq 28, 3)) rfl) 69 (by decide) (pc' := 44) rfl (fun c_41 => ?_) (fun c_41 => ?_)
      · have e1 : (ts.drop j).takeWhile inLn = [] := by
          first
            | exact tw_stop (runFrom_end ((nI_leI (by omega) (by omega)).mp c_31))
            | exact tw_stop (runFrom_no (rowAt_some (Nat.not_le.mp (fun q => c_31 ((nI_leI (by omega) (by omega)).mpr q))) (by omega)) (by rw [c_41]; decide))
            | exact tw_stop (runFrom_no (rowAt_some (Nat.not_le.mp (fun q => c_31 ((nI_leI (by omega) (by omega)).mpr q))) (by omega)) (by rw [c_51]; decide))
        have e0 : runFrom inLn ts j = 0 := by unfold runFrom; rw [e1]; rfl
        have := hK _ n hI jK.rfl (by rw [e1]; exact hL0) (Nat.le_refl _) (Nat.le_refl _) rfl
        unfold lnE at this
        rw [e0, Nat.add_zero] at this
        exact this
      · refine jW.aload_n (dx_Line_takeNext 23 (e := (44, .aload_n 1, 1)) rfl) rfl rfl (pc' := 45) rfl ?_
        refine jW.iload_n (dx_Line_takeNext 24 (e := (45, .iload_n 2, 1)) rfl) rfl rfl (pc' := 46) rfl ?_
        refine jW.callV F (e_Row_at F rfl (by decide) rfl hT _) (dx_Line_takeNext 25 (e := (46, .invokevirtual 30, 3)) rfl) can_Row_at jw_555 jw_439 (by assumption) rfl jw_440 rfl rfl (Nat.le_of_ble_eq_true rfl) (pc' := 49) rfl (fun r σ1 hr => ?_)
        obtain ⟨rfl, rfl⟩ := hr
        refine jW.bipush (v := 13) (dx_Line_takeNext 26 (e := (49, .bipush 13, 2)) rfl) (by decide) (pc' := 51) rfl ?_
        refine jW.icmp_eq (dx_Line_takeNext 27 (e := (51, .if_icmp .eq 18, 3)) rfl) 69 (by decide) (pc' := 54) rfl (fun c_51 => ?_) (fun c_51 => ?_)
        · have e1 : (ts.drop j).takeWhile inLn = [] := by
            first
              | exact tw_stop (runFrom_end ((nI_leI (by omega) (by omega)).mp c_31))
              | exact tw_stop (runFrom_no (rowAt_some (Nat.not_le.mp (fun q => c_31 ((nI_leI (by omega) (by omega)).mpr q))) (by omega)) (by rw [c_41]; decide))
              | exact tw_stop (runFrom_no (rowAt_some (Nat.not_le.mp (fun q => c_31 ((nI_leI (by omega) (by omega)).mpr q))) (by omega)) (by rw [c_51]; decide))
          have e0 : runFrom inLn ts j = 0 := by unfold runFrom; rw [e1]; rfl
          have := hK _ n hI jK.rfl (by rw [e1]; exact hL0) (Nat.le_refl _) (Nat.le_refl _) rfl
          unfold lnE at this
          rw [e0, Nat.add_zero] at this
          exact this
        · refine jW.aload_n (dx_Line_takeNext 28 (e := (54, .aload_n 0, 1)) rfl) rfl rfl (pc' := 55) rfl ?_
          refine jW.aload_n (dx_Line_takeNext 29 (e := (55, .aload_n 1, 1)) rfl) rfl rfl (pc' := 56) rfl ?_
          refine jW.iload_n (dx_Line_takeNext 30 (e := (56, .iload_n 2, 1)) rfl) rfl rfl (pc' := 57) rfl ?_
          have hlt : j < ts.length := Nat.not_le.mp (fun q => c_31 ((nI_leI (by omega) (by omega)).mpr q))
          refine jW.callV F (e_Row_at F rfl (by decide) rfl hT _) (dx_Line_takeNext 31 (e := (57, .invokevirtual 30, 3)) rfl) can_Row_at jw_555 jw_439 (by assumption) rfl jw_440 rfl rfl (Nat.le_of_ble_eq_true rfl) (pc' := 60) rfl (fun r σ1 hr => ?_)
          obtain ⟨rfl, rfl⟩ := hr
          refine jW.callV F (e_Line_addSign F hI hL0 (by omega) _) (dx_Line_takeNext 32 (e := (60, .invokevirtual 34, 3)) rfl) can_Line_addSign jw_556 jw_558 (by assumption) rfl sel_Line_addSign rfl rfl (Nat.le_of_ble_eq_true rfl) (pc' := 63) rfl (fun r σ1 hr => ?_)
          obtain ⟨rfl, n1, z1, z2, z3, z4, z5, z6⟩ := hr
          refine jW.iinc (v := nI (j + 1)) (dx_Line_takeNext 33 (e := (63, .iinc 2 1, 3)) rfl) rfl (nI_1 j) (by decide) rfl (pc' := 66) rfl ?_
          refine jW.goto (dx_Line_takeNext 34 (e := (66, .goto (-40), 3)) rfl) 26 (by decide) ?_
          have hy : inLn (rowAt ts (nI j)) = true := by simp [inLn, c_41, c_51]
          have e2 : (ts.drop j).takeWhile inLn = rowAt ts (nI j) :: (ts.drop (j + 1)).takeWhile inLn := by rw [drop_at hlt (by omega), List.takeWhile_cons, if_pos hy]
          have e3 : lnE ts j = lnE ts (j + 1) := by unfold lnE; rw [runFrom_yes (rowAt_some hlt (by omega)) hy]; omega
          have hal := addS_len xs (rowAt ts (nI j))
          rw [e2, e3] at hK
          exact ih (j + 1) _ n1 (addS xs (rowAt ts (nI j))) (by omega) (by omega) (by omega) (fun _ => by omega) z1 z3 (hT.keep z2 (by decide) (by decide)) (fun σ' n' y1 y2 y3 y4 y5 y6 => hK σ' n' y1 (z2.trans y2) y3 (by omega) (by omega) (by omega))
theorem e_take69 (F : jOK s0 jcl D cA lw_tbl a0 jty) {Φ : Option Value → jS → Prop} {e : Nat} (he : e ≤ 6000) (ht0 : ts.length ≤ 3000) (hI : jI s0.heap.size σ) (h : LineAt s0.heap.size σ a sg n xs ta pl id ms ml mn) (hT : RowAt s0.heap.size 1 1010 σ tp nt ts) (hΦ : ∀ σ' : jS, jI s0.heap.size σ' → jK [5] σ σ' → σ'.2 = σ.2 → LineAt s0.heap.size σ' a sg n xs (lnN ts e) 0 (spF xs 0) ms ml mn → Φ (some (.int 1)) σ') : jW l s0 jcl D cA (d + 2) y_Line_takeNext 69 [some (.ref a), some (.ref tp), some (.int (nI e))] [] σ Φ := by
  have hL0 := h
  obtain ⟨⟨v, h1, h2, h3, h4, h5, h6, h7, h8, h9⟩, hS, b1, b2, b3, b4, b5⟩ := h
  obtain ⟨vt, ht⟩ := hS.cell
  obtain ⟨vp, hq⟩ := hT.cell
  refine jW.aload_n (dx_Line_takeNext 35 (e := (69, .aload_n 0, 1)) rfl) rfl rfl (pc' := 70) rfl ?_
  refine jW.aload_n (dx_Line_takeNext 36 (e := (70, .aload_n 1, 1)) rfl) rfl rfl (pc' := 71) rfl ?_
  refine jW.iload_n (dx_Line_takeNext 37 (e := (71, .iload_n 2, 1)) rfl) rfl rfl (pc' := 72) rfl ?_
  refine jW.callV F (e_Row_at F rfl (by decide) rfl hT _) (dx_Line_takeNext 38 (e := (72, .invokevirtual 30, 3)) rfl) can_Row_at jw_555 jw_439 (by assumption) rfl jw_440 rfl rfl (Nat.le_of_ble_eq_true rfl) (pc' := 75) rfl (fun r σ1 hr => ?_)
  obtain ⟨rfl, rfl⟩ := hr
  refine jW.bipush (v := 13) (dx_Line_takeNext 39 (e := (75, .bipush 13, 2)) rfl) (by decide) (pc' := 77) rfl ?_
  refine jW.icmp_ne (dx_Line_takeNext 40 (e := (77, .if_icmp .ne 21, 3)) rfl) 98 (by decide) (pc' := 80) rfl (fun c_77 => ?_) (fun c_77 => ?_)
  · refine jW.iload_n (dx_Line_takeNext 52 (e := (98, .iload_n 2, 1)) rfl) rfl rfl (pc' := 99) rfl ?_
    refine jW.iconst (v := 1) (dx_Line_takeNext 53 (e := (99, .iconst 1, 1)) rfl) (by decide) (pc' := 100) rfl ?_
    refine jW.iadd (dx_Line_takeNext 54 (e := (100, .iadd, 1)) rfl) (pc' := 101) rfl ?_
    rw [nI_1]
    refine jW.putf F f_Line_takeNext_101 rfl jF_Line jTab_Line rfl h1 h9 rfl rfl rfl (pc' := 104) rfl ?_
    have hn : lnN ts e = e + 2 ∨ lnN ts e = e + 1 := by unfold lnN; split; exact Or.inl rfl; exact Or.inr rfl
    first
      | rw [show e + 2 = lnN ts e from (if_pos ⟨by exact c_77, by exact c_89⟩).symm]
      | rw [show e + 1 = lnN ts e from (if_neg (fun q => by exact c_77 q.1)).symm]
      | rw [show e + 1 = lnN ts e from (if_neg (fun q => by exact c_89 q.2)).symm]
    have hI1 := hI.put (c := (5, 7, updV v 1 (.int (nI (lnN ts e))))) h1
    have hL1 := hL0.put1 h1 (z := lnN ts e) (by omega)
    have hK1 : jK [5] _ (jput _ a (5, 7, updV v 1 (.int (nI (lnN ts e))))) := jK.put h1 (by simp)
    have hat := hL1
    obtain ⟨⟨v2, hat, _⟩, _⟩ := hat
    refine jW.aload_n (dx_Line_takeNext 56 (e := (104, .aload_n 0, 1)) rfl) rfl rfl (pc' := 105) rfl ?_
    refine jW.iconst (v := 0) (dx_Line_takeNext 57 (e := (105, .iconst 0, 1)) rfl) (by decide) (pc' := 106) rfl ?_
    refine jW.callV F (e_Line_moveTo (p := 0) F hI1 hL1 (by omega)) (dx_Line_takeNext 58 (e := (106, .invokevirtual 37, 3)) rfl) can_Line_moveTo jw_561 jw_562 (by assumption) rfl jw_563 rfl rfl (Nat.le_of_ble_eq_true rfl) (pc' := 109) rfl (fun r σ1 hr => ?_)
    obtain ⟨rfl, z1, z2, z3, z4⟩ := hr
    rw [Nat.zero_min] at z4
    refine jW.iconst (v := 1) (dx_Line_takeNext 59 (e := (109, .iconst 1, 1)) rfl) (by decide) (pc' := 110) rfl ?_
    refine jW.zret (dx_Line_takeNext 60 (e := (110, .ireturn, 1)) rfl) rfl (by decide) ?_
    exact hΦ _ z1 (hK1.trans z2) z3 z4
  · refine jW.aload_n (dx_Line_takeNext 41 (e := (80, .aload_n 1, 1)) rfl) rfl rfl (pc' := 81) rfl ?_
    refine jW.iload_n (dx_Line_takeNext 42 (e := (81, .iload_n 2, 1)) rfl) rfl rfl (pc' := 82) rfl ?_
    refine jW.iconst (v := 1) (dx_Line_takeNext 43 (e := (82, .iconst 1, 1)) rfl) (by decide) (pc' := 83) rfl ?_
    refine jW.iadd (dx_Line_takeNext 44 (e := (83, .iadd, 1)) rfl) (pc' := 84) rfl ?_
    rw [nI_1]
    refine jW.callV F (e_Row_at F rfl (by decide) rfl hT _) (dx_Line_takeNext 45 (e := (84, .invokevirtual 30, 3)) rfl) can_Row_at jw_555 jw_439 (by assumption) rfl jw_440 rfl rfl (Nat.le_of_ble_eq_true rfl) (pc' := 87) rfl (fun r σ1 hr => ?_)
    obtain ⟨rfl, rfl⟩ := hr
    refine jW.bipush (v := 10) (dx_Line_takeNext 46 (e := (87, .bipush 10, 2)) rfl) (by decide) (pc' := 89) rfl ?_
    refine jW.icmp_ne (dx_Line_takeNext 47 (e := (89, .if_icmp .ne 9, 3)) rfl) 98 (by decide) (pc' := 92) rfl (fun c_89 => ?_) (fun c_89 => ?_)
    · refine jW.iload_n (dx_Line_takeNext 52 (e := (98, .iload_n 2, 1)) rfl) rfl rfl (pc' := 99) rfl ?_
      refine jW.iconst (v := 1) (dx_Line_takeNext 53 (e := (99, .iconst 1, 1)) rfl) (by decide) (pc' := 100) rfl ?_
      refine jW.iadd (dx_Line_takeNext 54 (e := (100, .iadd, 1)) rfl) (pc' := 101) rfl ?_
      rw [nI_1]
      refine jW.putf F f_Line_takeNext_101 rfl jF_Line jTab_Line rfl h1 h9 rfl rfl rfl (pc' := 104) rfl ?_
      have hn : lnN ts e = e + 2 ∨ lnN ts e = e + 1 := by unfold lnN; split; exact Or.inl rfl; exact Or.inr rfl
      first
        | rw [show e + 2 = lnN ts e from (if_pos ⟨by exact c_77, by exact c_89⟩).symm]
        | rw [show e + 1 = lnN ts e from (if_neg (fun q => by exact c_77 q.1)).symm]
        | rw [show e + 1 = lnN ts e from (if_neg (fun q => by exact c_89 q.2)).symm]
      have hI1 := hI.put (c := (5, 7, updV v 1 (.int (nI (lnN ts e))))) h1
      have hL1 := hL0.put1 h1 (z := lnN ts e) (by omega)
      have hK1 : jK [5] _ (jput _ a (5, 7, updV v 1 (.int (nI (lnN ts e))))) := jK.put h1 (by simp)
      have hat := hL1
      obtain ⟨⟨v2, hat, _⟩, _⟩ := hat
      refine jW.aload_n (dx_Line_takeNext 56 (e := (104, .aload_n 0, 1)) rfl) rfl rfl (pc' := 105) rfl ?_
      refine jW.iconst (v := 0) (dx_Line_takeNext 57 (e := (105, .iconst 0, 1)) rfl) (by decide) (pc' := 106) rfl ?_
      refine jW.callV F (e_Line_moveTo (p := 0) F hI1 hL1 (by omega)) (dx_Line_takeNext 58 (e := (106, .invokevirtual 37, 3)) rfl) can_Line_moveTo jw_561 jw_562 (by assumption) rfl jw_563 rfl rfl (Nat.le_of_ble_eq_true rfl) (pc' := 109) rfl (fun r σ1 hr => ?_)
      obtain ⟨rfl, z1, z2, z3, z4⟩ := hr
      rw [Nat.zero_min] at z4
      refine jW.iconst (v := 1) (dx_Line_takeNext 59 (e := (109, .iconst 1, 1)) rfl) (by decide) (pc' := 110) rfl ?_
      refine jW.zret (dx_Line_takeNext 60 (e := (110, .ireturn, 1)) rfl) rfl (by decide) ?_
      exact hΦ _ z1 (hK1.trans z2) z3 z4
    · refine jW.iload_n (dx_Line_takeNext 48 (e := (92, .iload_n 2, 1)) rfl) rfl rfl (pc' := 93) rfl ?_
      refine jW.iconst (v := 2) (dx_Line_takeNext 49 (e := (93, .iconst 2, 1)) rfl) (by decide) (pc' := 94) rfl ?_
      refine jW.iadd (dx_Line_takeNext 50 (e := (94, .iadd, 1)) rfl) (pc' := 95) rfl ?_
      rw [show nI e + 2 = nI (e + 2) from nI_add e 2]
      refine jW.goto (dx_Line_takeNext 51 (e := (95, .goto 6, 3)) rfl) 101 (by decide) ?_
      refine jW.putf F f_Line_takeNext_101 rfl jF_Line jTab_Line rfl h1 h9 rfl rfl rfl (pc' := 104) rfl ?_
      have hn : lnN ts e = e + 2 ∨ lnN ts e = e + 1 := by unfold lnN; split; exact Or.inl rfl; exact Or.inr rfl
      first
        | rw [show e + 2 = lnN ts e from (if_pos ⟨by exact c_77, by exact c_89⟩).symm]
        | rw [show e + 1 = lnN ts e from (if_neg (fun q => by exact c_77 q.1)).symm]
        | rw [show e + 1 = lnN ts e from (if_neg (fun q => by exact c_89 q.2)).symm]
      have hI1 := hI.put (c := (5, 7, updV v 1 (.int (nI (lnN ts e))))) h1
      have hL1 := hL0.put1 h1 (z := lnN ts e) (by omega)
      have hK1 : jK [5] _ (jput _ a (5, 7, updV v 1 (.int (nI (lnN ts e))))) := jK.put h1 (by simp)
      have hat := hL1
      obtain ⟨⟨v2, hat, _⟩, _⟩ := hat
      refine jW.aload_n (dx_Line_takeNext 56 (e := (104, .aload_n 0, 1)) rfl) rfl rfl (pc' := 105) rfl ?_
      refine jW.iconst (v := 0) (dx_Line_takeNext 57 (e := (105, .iconst 0, 1)) rfl) (by decide) (pc' := 106) rfl ?_
      refine jW.callV F (e_Line_moveTo (p := 0) F hI1 hL1 (by omega)) (dx_Line_takeNext 58 (e := (106, .invokevirtual 37, 3)) rfl) can_Line_moveTo jw_561 jw_562 (by assumption) rfl jw_563 rfl rfl (Nat.le_of_ble_eq_true rfl) (pc' := 109) rfl (fun r σ1 hr => ?_)
      obtain ⟨rfl, z1, z2, z3, z4⟩ := hr
      rw [Nat.zero_min] at z4
      refine jW.iconst (v := 1) (dx_Line_takeNext 59 (e := (109, .iconst 1, 1)) rfl) (by decide) (pc' := 110) rfl ?_
      refine jW.zret (dx_Line_takeNext 60 (e := (110, .ireturn, 1)) rfl) rfl (by decide) ?_
      exact hΦ _ z1 (hK1.trans z2) z3 z4
theorem e_Line_takeNext (F : jOK s0 jcl D cA lw_tbl a0 jty) (ht0 : ts.length ≤ 3000) (hta : ta ≤ 3002) (hI : jI s0.heap.size σ) (h : LineAt s0.heap.size σ a sg n xs ta pl id ms ml mn) (hT : RowAt s0.heap.size 1 1010 σ tp nt ts) : jE l s0 jcl D cA (d + 4) y_Line_takeNext [.ref a, .ref tp] σ (fun r σ' => (ts.length ≤ ta ∧ r = some (.int 0) ∧ σ' = σ) ∨ (ta < ts.length ∧ r = some (.int 1) ∧ ∃ n' : Nat, jI s0.heap.size σ' ∧ jK [5, 11, 1012] σ σ' ∧ LineAt s0.heap.size σ' a sg n' (lnS ts ta) (lnN ts (lnE ts ta)) 0 (spF (lnS ts ta) 0) ms ml mn ∧ n ≤ n' ∧ σ'.2.1 + n ≤ σ.2.1 + n' ∧ σ'.2.2 + 2 * n = σ.2.2 + 2 * n')) := by
  have hL0 := h
  obtain ⟨⟨v, h1, h2, h3, h4, h5, h6, h7, h8, h9⟩, hS, b1, b2, b3, b4, b5⟩ := h
  obtain ⟨vt, ht⟩ := hS.cell
  obtain ⟨vp, hq⟩ := hT.cell
  refine jE.of (by decide) (by simp [Value.category]) (Nat.le_of_ble_eq_true rfl) rfl ?_
  refine jW.aload_n (dx_Line_takeNext 0 (e := (0, .aload_n 0, 1)) rfl) rfl rfl (pc' := 1) rfl ?_
  refine jW.getf F f_Line_takeNext_1 (by assumption) (by assumption) (pc' := 4) rfl ?_
  refine jW.aload_n (dx_Line_takeNext 2 (e := (4, .aload_n 1, 1)) rfl) rfl rfl (pc' := 5) rfl ?_
  refine jW.callV F (e_Row_size F rfl (by decide) rfl hT) (dx_Line_takeNext 3 (e := (5, .invokevirtual 22, 3)) rfl) can_Row_size jw_553 jw_372 (by assumption) rfl jw_373 rfl rfl (Nat.le_of_ble_eq_true rfl) (pc' := 8) rfl (fun r σ1 hr => ?_)
  obtain ⟨rfl, rfl⟩ := hr
  refine jW.icmp_lt (dx_Line_takeNext 4 (e := (8, .if_icmp .lt 5, 3)) rfl) 13 (by decide) (pc' := 11) rfl (fun c_8 => ?_) (fun c_8 => ?_)
  · refine jW.aload_n (dx_Line_takeNext 7 (e := (13, .aload_n 0, 1)) rfl) rfl rfl (pc' := 14) rfl ?_
    refine jW.getf F f_Line_takeNext_14 (by assumption) (by assumption) (pc' := 17) rfl ?_
    refine jW.iconst (v := 0) (dx_Line_takeNext 9 (e := (17, .iconst 0, 1)) rfl) (by decide) (pc' := 18) rfl ?_
    refine jW.callV F (e_Row_cut F hI rfl (by decide) rfl hS 0) (dx_Line_takeNext 10 (e := (18, .invokevirtual 26, 3)) rfl) can_Row_cut jw_554 jw_397 (by assumption) rfl jw_398 rfl rfl (Nat.le_of_ble_eq_true rfl) (pc' := 21) rfl (fun r σ1 hr => ?_)
    obtain ⟨rfl, z1, z2, z3, z4⟩ := hr
    rw [rowCut0] at z4
    have k1 := z2 _ _ _ _ h1 (by decide)
    refine jW.aload_n (dx_Line_takeNext 11 (e := (21, .aload_n 0, 1)) rfl) rfl rfl (pc' := 22) rfl ?_
    refine jW.getf F f_Line_takeNext_22 (by assumption) (by assumption) (pc' := 25) rfl ?_
    refine jW.istore_n (dx_Line_takeNext 13 (e := (25, .istore_n 2, 1)) rfl) rfl (by decide) rfl (pc' := 26) rfl ?_
    have hlt := (nI_ltI (by omega) (by omega)).mp c_8
    have hL1 := hL0.row (n' := n) (ys := []) (z2.mono (by simp)) z4 (Nat.zero_le _)
    have hT1 := hT.keep z2 (by decide) (by decide)
    have hle : lnE ts ta ≤ 3000 := by
      have := runFrom_le inLn ts ta
      unfold lnE
      omega
    refine e_take26 F ht0 ts.length ta σ1 n [] (by omega) (by omega) (Nat.zero_le _) (fun _ => Nat.zero_le _) z1 hL1 hT1 (fun σ' n' y1 y2 y3 y4 y5 y6 => ?_)
    refine e_take69 F (by omega) ht0 y1 y3 (hT1.keep y2 (by decide) (by decide)) (fun σ2 u1 u2 u3 u4 => Or.inr ⟨hlt, rfl, n', u1, (z2.mono (by simp)).trans ((y2.mono (by simp)).trans (u2.mono (by simp))), u4, y4, ?_, ?_⟩)
    · rw [u3]; rw [z3] at y5; exact y5
    · rw [u3]; rw [z3] at y6; exact y6
  · refine jW.iconst (v := 0) (dx_Line_takeNext 5 (e := (11, .iconst 0, 1)) rfl) (by decide) (pc' := 12) rfl ?_
    refine jW.zret (dx_Line_takeNext 6 (e := (12, .ireturn, 1)) rfl) rfl (by decide) ?_
    exact Or.inl ⟨Nat.not_lt.mp (fun q => c_8 ((nI_ltI (by omega) (by omega)).mpr q)), rfl, rfl⟩
end LINE7
