/-- spaces from i on; signs from i on that are the one at i -/
abbrev spF (xs : List Int32) (i : Nat) : Nat := runFrom (fun c => c == 32) xs i
abbrev smF (xs : List Int32) (i : Nat) : Nat := runFrom (fun c => c == rowAt xs (nI i)) xs i
/-- nothing but spaces from i on -/
abbrev blF (xs : List Int32) (i : Nat) : Prop := xs.length ≤ i + spF xs i
abbrev seF (xs : List Int32) (i : Nat) : Prop := xs.length ≤ i ∨ rowAt xs (nI i) = 32
theorem spF_le {xs : List Int32} {i : Nat} (h : xs.length ≤ 16000) : spF xs i ≤ 16000 := by
  have := runFrom_le (fun c => c == 32) xs i
  show runFrom (fun c => c == 32) xs i ≤ 16000
  omega
theorem smF_le {xs : List Int32} {i : Nat} (h : xs.length ≤ 16000) : smF xs i ≤ 16000 := by
  have := runFrom_le (fun c => c == rowAt xs (nI i)) xs i
  show runFrom (fun c => c == rowAt xs (nI i)) xs i ≤ 16000
  omega
section LINE2
variable {l : Launch} {s0 : State} {D : va_G} {cA : Nat → ClassId} {a0 : Array Value} {d : Nat} {σ : jS} {a sg n ta pl id ml : Nat} {xs : List Int32} {ms mn : Int32}
theorem e_Line_spacesAt (F : jOK s0 jcl D cA lw_tbl a0 jty) (h : LineAt s0.heap.size σ a sg n xs ta pl id ms ml mn) {i : Nat} (hi : i ≤ 100000) : jE l s0 jcl D cA (d + 1) y_Line_spacesAt [.ref a, .int (nI i)] σ (fun r σ' => r = some (.int (nI (spF xs i))) ∧ σ' = σ) := by
  have hL0 := h
  obtain ⟨⟨v, h1, h2, h3, h4, h5, h6, h7, h8, h9⟩, hS, b1, b2, b3, b4, b5⟩ := h
  obtain ⟨vt, ht⟩ := hS.cell
  refine jE.of (by decide) (by simp [Value.category]) (Nat.le_of_ble_eq_true rfl) rfl ?_
  refine jW.iload_n (dx_Line_spacesAt 0 (e := (0, .iload_n 1, 1)) rfl) rfl rfl (pc' := 1) rfl ?_
  refine jW.istore_n (dx_Line_spacesAt 1 (e := (1, .istore_n 2, 1)) rfl) rfl (by decide) rfl (pc' := 2) rfl ?_
  exact e_spacesAt2 F hL0 hi ⟨rfl, rfl⟩ xs.length i (by omega) (Nat.le_refl _) hi rfl
theorem e_sameFrom2 (F : jOK s0 jcl D cA lw_tbl a0 jty) (h : LineAt s0.heap.size σ a sg n xs ta pl id ms ml mn) {i : Nat} (hi : i ≤ 100000) {Φ : Option Value → jS → Prop} (hΦ : Φ (some (.int (nI (runFrom (fun c => c == rowAt xs (nI i)) xs i)))) σ) : ∀ (k j : Nat), xs.length ≤ j + k → i ≤ j → j ≤ 100000 → i + runFrom (fun c => c == rowAt xs (nI i)) xs i = j + runFrom (fun c => c == rowAt xs (nI i)) xs j → jW l s0 jcl D cA (d + 1) y_Line_sameFrom 2 [some (.ref a), some (.int (nI i)), some (.int (nI j))] [] σ Φ := by
  have hL0 := h
  obtain ⟨⟨v, h1, h2, h3, h4, h5, h6, h7, h8, h9⟩, hS, b1, b2, b3, b4, b5⟩ := h
  obtain ⟨vt, ht⟩ := hS.cell
  intro k
  induction k with
  | zero =>
    intro j hk hij hj he
    refine jW.iload_n (dx_Line_sameFrom 2 (e := (2, .iload_n 2, 1)) rfl) rfl rfl (pc' := 3) rfl ?_
    refine jW.aload_n (dx_Line_sameFrom 3 (e := (3, .aload_n 0, 1)) rfl) rfl rfl (pc' := 4) rfl ?_
    refine jW.getf F f_Line_sameFrom_4 (by assumption) (by assumption) (pc' := 7) rfl ?_
    refine jW.callV F (e_Row_size F rfl (by decide) rfl hS) (dx_Line_sameFrom 5 (e := (7, .invokevirtual 22, 3)) rfl) can_Row_size jw_553 jw_372 (by assumption) rfl jw_373 rfl rfl (Nat.le_of_ble_eq_true rfl) (pc' := 10) rfl (fun r σ1 hr => ?_)
    obtain ⟨rfl, rfl⟩ := hr
    refine jW.icmp_ge (dx_Line_sameFrom 6 (e := (10, .if_icmp .ge 28, 3)) rfl) 38 (by decide) (pc' := 13) rfl (fun c_10 => ?_) (fun c_10 => ?_)
    · rw [runFrom_end (by omega : xs.length ≤ j)] at he
      refine jW.iload_n (dx_Line_sameFrom 18 (e := (38, .iload_n 2, 1)) rfl) rfl rfl (pc' := 39) rfl ?_
      refine jW.iload_n (dx_Line_sameFrom 19 (e := (39, .iload_n 1, 1)) rfl) rfl rfl (pc' := 40) rfl ?_
      refine jW.isub (dx_Line_sameFrom 20 (e := (40, .isub, 1)) rfl) (pc' := 41) rfl ?_
      rw [pk_sub hij, show j - i = runFrom (fun c => c == rowAt xs (nI i)) xs i by omega]
      refine jW.iret (dx_Line_sameFrom 21 (e := (41, .ireturn, 1)) rfl) rfl ?_
      exact hΦ
    · exact absurd ((nI_leI (by omega) (by omega)).mpr (by omega)) c_10
  | succ k ih =>
    intro j hk hij hj he
    refine jW.iload_n (dx_Line_sameFrom 2 (e := (2, .iload_n 2, 1)) rfl) rfl rfl (pc' := 3) rfl ?_
    refine jW.aload_n (dx_Line_sameFrom 3 (e := (3, .aload_n 0, 1)) rfl) rfl rfl (pc' := 4) rfl ?_
    refine jW.getf F f_Line_sameFrom_4 (by assumption) (by assumption) (pc' := 7) rfl ?_
    refine jW.callV F (e_Row_size F rfl (by decide) rfl hS) (dx_Line_sameFrom 5 (e := (7, .invokevirtual 22, 3)) rfl) can_Row_size jw_553 jw_372 (by assumption) rfl jw_373 rfl rfl (Nat.le_of_ble_eq_true rfl) (pc' := 10) rfl (fun r σ1 hr => ?_)
    obtain ⟨rfl, rfl⟩ := hr
    refine jW.icmp_ge (dx_Line_sameFrom 6 (e := (10, .if_icmp .ge 28, 3)) rfl) 38 (by decide) (pc' := 13) rfl (fun c_10 => ?_) (fun c_10 => ?_)
    · have hz : runFrom (fun c => c == rowAt xs (nI i)) xs j = 0 := by
        first
          | exact runFrom_end ((nI_leI (by omega) (by omega)).mp c_10)
          | (have hlt : j < xs.length := Nat.not_le.mp (fun q => c_10 ((nI_leI (by omega) (by omega)).mpr q))
             exact runFrom_no (rowAt_some hlt (by omega)) (by simpa using c_29))
      rw [hz] at he
      refine jW.iload_n (dx_Line_sameFrom 18 (e := (38, .iload_n 2, 1)) rfl) rfl rfl (pc' := 39) rfl ?_
      refine jW.iload_n (dx_Line_sameFrom 19 (e := (39, .iload_n 1, 1)) rfl) rfl rfl (pc' := 40) rfl ?_
      refine jW.isub (dx_Line_sameFrom 20 (e := (40, .isub, 1)) rfl) (pc' := 41) rfl ?_
      rw [pk_sub hij, show j - i = runFrom (fun c => c == rowAt xs (nI i)) xs i by omega]
      refine jW.iret (dx_Line_sameFrom 21 (e := (41, .ireturn, 1)) rfl) rfl ?_
      exact hΦ
    · refine jW.aload_n (dx_Line_sameFrom 7 (e := (13, .aload_n 0, 1)) rfl) rfl rfl (pc' := 14) rfl ?_
      refine jW.getf F f_Line_sameFrom_14 (by assumption) (by assumption) (pc' := 17) rfl ?_
      refine jW.iload_n (dx_Line_sameFrom 9 (e := (17, .iload_n 2, 1)) rfl) rfl rfl (pc' := 18) rfl ?_
      refine jW.callV F (e_Row_at F rfl (by decide) rfl hS _) (dx_Line_sameFrom 10 (e := (18, .invokevirtual 30, 3)) rfl) can_Row_at jw_555 jw_439 (by assumption) rfl jw_440 rfl rfl (Nat.le_of_ble_eq_true rfl) (pc' := 21) rfl (fun r σ1 hr => ?_)
      obtain ⟨rfl, rfl⟩ := hr
      refine jW.aload_n (dx_Line_sameFrom 11 (e := (21, .aload_n 0, 1)) rfl) rfl rfl (pc' := 22) rfl ?_
      refine jW.getf F f_Line_sameFrom_22 (by assumption) (by assumption) (pc' := 25) rfl ?_
      refine jW.iload_n (dx_Line_sameFrom 13 (e := (25, .iload_n 1, 1)) rfl) rfl rfl (pc' := 26) rfl ?_
      refine jW.callV F (e_Row_at F rfl (by decide) rfl hS _) (dx_Line_sameFrom 14 (e := (26, .invokevirtual 30, 3)) rfl) can_Row_at jw_555 jw_439 (by assumption) rfl jw_440 rfl rfl (Nat.le_of_ble_eq_true rfl) (pc' := 29) rfl (fun r σ1 hr => ?_)
      obtain ⟨rfl, rfl⟩ := hr
      refine jW.icmp_ne (dx_Line_sameFrom 15 (e := (29, .if_icmp .ne 9, 3)) rfl) 38 (by decide) (pc' := 32) rfl (fun c_29 => ?_) (fun c_29 => ?_)
      · have hz : runFrom (fun c => c == rowAt xs (nI i)) xs j = 0 := by
          first
            | exact runFrom_end ((nI_leI (by omega) (by omega)).mp c_10)
            | (have hlt : j < xs.length := Nat.not_le.mp (fun q => c_10 ((nI_leI (by omega) (by omega)).mpr q))
               exact runFrom_no (rowAt_some hlt (by omega)) (by simpa using c_29))
        rw [hz] at he
        refine jW.iload_n (dx_Line_sameFrom 18 (e := (38, .iload_n 2, 1)) rfl) rfl rfl (pc' := 39) rfl ?_
        refine jW.iload_n (dx_Line_sameFrom 19 (e := (39, .iload_n 1, 1)) rfl) rfl rfl (pc' := 40) rfl ?_
        refine jW.isub (dx_Line_sameFrom 20 (e := (40, .isub, 1)) rfl) (pc' := 41) rfl ?_
        rw [pk_sub hij, show j - i = runFrom (fun c => c == rowAt xs (nI i)) xs i by omega]
        refine jW.iret (dx_Line_sameFrom 21 (e := (41, .ireturn, 1)) rfl) rfl ?_
        exact hΦ
      · refine jW.iinc (v := nI (j + 1)) (dx_Line_sameFrom 16 (e := (32, .iinc 2 1, 3)) rfl) rfl (nI_1 j) (by decide) rfl (pc' := 35) rfl ?_
        refine jW.goto (dx_Line_sameFrom 17 (e := (35, .goto (-33), 3)) rfl) 2 (by decide) ?_
        have hlt : j < xs.length := Nat.not_le.mp (fun q => c_10 ((nI_leI (by omega) (by omega)).mpr q))
        refine ih (j + 1) (by omega) (by omega) (by omega) ?_
        rw [he, runFrom_yes (rowAt_some hlt (by omega)) (by simpa using c_29)]
        omega
theorem e_Line_sameFrom (F : jOK s0 jcl D cA lw_tbl a0 jty) (h : LineAt s0.heap.size σ a sg n xs ta pl id ms ml mn) {i : Nat} (hi : i ≤ 100000) : jE l s0 jcl D cA (d + 1) y_Line_sameFrom [.ref a, .int (nI i)] σ (fun r σ' => r = some (.int (nI (smF xs i))) ∧ σ' = σ) := by
  have hL0 := h
  obtain ⟨⟨v, h1, h2, h3, h4, h5, h6, h7, h8, h9⟩, hS, b1, b2, b3, b4, b5⟩ := h
  obtain ⟨vt, ht⟩ := hS.cell
  refine jE.of (by decide) (by simp [Value.category]) (Nat.le_of_ble_eq_true rfl) rfl ?_
  refine jW.iload_n (dx_Line_sameFrom 0 (e := (0, .iload_n 1, 1)) rfl) rfl rfl (pc' := 1) rfl ?_
  refine jW.istore_n (dx_Line_sameFrom 1 (e := (1, .istore_n 2, 1)) rfl) rfl (by decide) rfl (pc' := 2) rfl ?_
  exact e_sameFrom2 F hL0 hi ⟨rfl, rfl⟩ xs.length i (by omega) (Nat.le_refl _) hi rfl
theorem e_Line_isBlankFrom (F : jOK s0 jcl D cA lw_tbl a0 jty) (h : LineAt s0.heap.size σ a sg n xs ta pl id ms ml mn) {i : Nat} (hi : i ≤ 100000) : jE l s0 jcl D cA (d + 2) y_Line_isBlankFrom [.ref a, .int (nI i)] σ (fun r σ' => r = some (.int (bI (blF xs i))) ∧ σ' = σ) := by
  have hL0 := h
  obtain ⟨⟨v, h1, h2, h3, h4, h5, h6, h7, h8, h9⟩, hS, b1, b2, b3, b4, b5⟩ := h
  obtain ⟨vt, ht⟩ := hS.cell
  have bsp := fun i => spF_le (i := i) b1
  have bsm := fun i => smF_le (i := i) b1
  refine jE.of (by decide) (by simp [Value.category]) (Nat.le_of_ble_eq_true rfl) rfl ?_
  refine jW.iload_n (dx_Line_isBlankFrom 0 (e := (0, .iload_n 1, 1)) rfl) rfl rfl (pc' := 1) rfl ?_
  refine jW.aload_n (dx_Line_isBlankFrom 1 (e := (1, .aload_n 0, 1)) rfl) rfl rfl (pc' := 2) rfl ?_
  refine jW.iload_n (dx_Line_isBlankFrom 2 (e := (2, .iload_n 1, 1)) rfl) rfl rfl (pc' := 3) rfl ?_
  refine jW.callV F (e_Line_spacesAt F hL0 (by omega)) (dx_Line_isBlankFrom 3 (e := (3, .invokevirtual 87, 3)) rfl) can_Line_spacesAt jw_631 jw_633 (by assumption) rfl sel_Line_spacesAt rfl rfl (Nat.le_of_ble_eq_true rfl) (pc' := 6) rfl (fun r σ1 hr => ?_)
  obtain ⟨rfl, rfl⟩ := hr
  refine jW.iadd (dx_Line_isBlankFrom 4 (e := (6, .iadd, 1)) rfl) (pc' := 7) rfl ?_
  rw [nI_add]
  have b9 := bsp i
  refine jW.aload_n (dx_Line_isBlankFrom 5 (e := (7, .aload_n 0, 1)) rfl) rfl rfl (pc' := 8) rfl ?_
  refine jW.getf F f_Line_isBlankFrom_8 (by assumption) (by assumption) (pc' := 11) rfl ?_
  refine jW.callV F (e_Row_size F rfl (by decide) rfl hS) (dx_Line_isBlankFrom 7 (e := (11, .invokevirtual 22, 3)) rfl) can_Row_size jw_553 jw_372 (by assumption) rfl jw_373 rfl rfl (Nat.le_of_ble_eq_true rfl) (pc' := 14) rfl (fun r σ1 hr => ?_)
  obtain ⟨rfl, rfl⟩ := hr
  refine jW.icmp_lt (dx_Line_isBlankFrom 8 (e := (14, .if_icmp .lt 7, 3)) rfl) 21 (by decide) (pc' := 17) rfl (fun c_14 => ?_) (fun c_14 => ?_)
  · refine jW.iconst (v := 0) (dx_Line_isBlankFrom 11 (e := (21, .iconst 0, 1)) rfl) (by decide) (pc' := 22) rfl ?_
    refine jW.zret (dx_Line_isBlankFrom 12 (e := (22, .ireturn, 1)) rfl) rfl (by decide) ?_
    first
      | (have q9 := (nI_ltI (by omega) (by omega)).mp c_14
         refine ⟨?_, rfl⟩
         rw [bI_f (by omega)])
      | (have q9 : ¬ i + spF xs i < xs.length := fun q => c_14 ((nI_ltI (by omega) (by omega)).mpr q)
         refine ⟨?_, rfl⟩
         rw [bI_t (by omega)])
  · refine jW.iconst (v := 1) (dx_Line_isBlankFrom 9 (e := (17, .iconst 1, 1)) rfl) (by decide) (pc' := 18) rfl ?_
    refine jW.goto (dx_Line_isBlankFrom 10 (e := (18, .goto 4, 3)) rfl) 22 (by decide) ?_
    refine jW.zret (dx_Line_isBlankFrom 12 (e := (22, .ireturn, 1)) rfl) rfl (by decide) ?_
    first
      | (have q9 := (nI_ltI (by omega) (by omega)).mp c_14
         refine ⟨?_, rfl⟩
         rw [bI_f (by omega)])
      | (have q9 : ¬ i + spF xs i < xs.length := fun q => c_14 ((nI_ltI (by omega) (by omega)).mpr q)
         refine ⟨?_, rfl⟩
         rw [bI_t (by omega)])
theorem e_Line_isDigit (F : jOK s0 jcl D cA lw_tbl a0 jty) (c : Int32) : jE l s0 jcl D cA d y_Line_isDigit [.int c] σ (fun r σ' => r = some (.int (bI (48 ≤ c ∧ c ≤ 57))) ∧ σ' = σ) := by
  refine jE.of (by decide) (by simp [Value.category]) (Nat.le_of_ble_eq_true rfl) rfl ?_
  refine jW.iload_n (dx_Line_isDigit 0 (e := (0, .iload_n 0, 1)) rfl) rfl rfl (pc' := 1) rfl ?_
  refine jW.bipush (v := 48) (dx_Line_isDigit 1 (e := (1, .bipush 48, 2)) rfl) (by decide) (pc' := 3) rfl ?_
  refine jW.icmp_lt (dx_Line_isDigit 2 (e := (3, .if_icmp .lt 13, 3)) rfl) 16 (by decide) (pc' := 6) rfl (fun c_3 => ?_) (fun c_3 => ?_)
  · refine jW.iconst (v := 0) (dx_Line_isDigit 8 (e := (16, .iconst 0, 1)) rfl) (by decide) (pc' := 17) rfl ?_
    refine jW.zret (dx_Line_isDigit 9 (e := (17, .ireturn, 1)) rfl) rfl (by decide) ?_
    first
      | (refine ⟨?_, rfl⟩
         rw [bI_f (fun q => absurd q.1 (Int32.not_le.mpr c_3))])
      | (refine ⟨?_, rfl⟩
         rw [bI_f (fun q => absurd q.2 (Int32.not_le.mpr c_9))])
      | (refine ⟨?_, rfl⟩
         rw [bI_t ⟨Int32.not_lt.mp c_3, Int32.not_lt.mp c_9⟩])
  · refine jW.iload_n (dx_Line_isDigit 3 (e := (6, .iload_n 0, 1)) rfl) rfl rfl (pc' := 7) rfl ?_
    refine jW.bipush (v := 57) (dx_Line_isDigit 4 (e := (7, .bipush 57, 2)) rfl) (by decide) (pc' := 9) rfl ?_
    refine jW.icmp_gt (dx_Line_isDigit 5 (e := (9, .if_icmp .gt 7, 3)) rfl) 16 (by decide) (pc' := 12) rfl (fun c_9 => ?_) (fun c_9 => ?_)
    · refine jW.iconst (v := 0) (dx_Line_isDigit 8 (e := (16, .iconst 0, 1)) rfl) (by decide) (pc' := 17) rfl ?_
      refine jW.zret (dx_Line_isDigit 9 (e := (17, .ireturn, 1)) rfl) rfl (by decide) ?_
      first
        | (refine ⟨?_, rfl⟩
           rw [bI_f (fun q => absurd q.1 (Int32.not_le.mpr c_3))])
        | (refine ⟨?_, rfl⟩
           rw [bI_f (fun q => absurd q.2 (Int32.not_le.mpr c_9))])
        | (refine ⟨?_, rfl⟩
           rw [bI_t ⟨Int32.not_lt.mp c_3, Int32.not_lt.mp c_9⟩])
    · refine jW.iconst (v := 1) (dx_Line_isDigit 6 (e := (12, .iconst 1, 1)) rfl) (by decide) (pc' := 13) rfl ?_
      refine jW.goto (dx_Line_isDigit 7 (e := (13, .goto 4, 3)) rfl) 17 (by decide) ?_
      refine jW.zret (dx_Line_isDigit 9 (e := (17, .ireturn, 1)) rfl) rfl (by decide) ?_
      first
        | (refine ⟨?_, rfl⟩
           rw [bI_f (fun q => absurd q.1 (Int32.not_le.mpr c_3))])
        | (refine ⟨?_, rfl⟩
           rw [bI_f (fun q => absurd q.2 (Int32.not_le.mpr c_9))])
        | (refine ⟨?_, rfl⟩
           rw [bI_t ⟨Int32.not_lt.mp c_3, Int32.not_lt.mp c_9⟩])
/-- the level that # marks at i tell; 0 without -/
def hdLv (xs : List Int32) (i : Nat) : Nat := if rowAt xs (nI i) = 35 then (if smF xs i ≤ 6 ∧ seF xs (i + smF xs i) then smF xs i else 0) else 0
theorem e_Line_headingLevel (F : jOK s0 jcl D cA lw_tbl a0 jty) (h : LineAt s0.heap.size σ a sg n xs ta pl id ms ml mn) : jE l s0 jcl D cA (d + 2) y_Line_headingLevel [.ref a] σ (fun r σ' => r = some (.int (nI (hdLv xs (pl + id)))) ∧ σ' = σ) := by
  have hL0 := h
  obtain ⟨⟨v, h1, h2, h3, h4, h5, h6, h7, h8, h9⟩, hS, b1, b2, b3, b4, b5⟩ := h
  obtain ⟨vt, ht⟩ := hS.cell
  have bsp := fun i => spF_le (i := i) b1
  have bsm := fun i => smF_le (i := i) b1
  have b9 := bsm (pl + id)
  refine jE.of (by decide) (by simp [Value.category]) (Nat.le_of_ble_eq_true rfl) rfl ?_
  refine jW.aload_n (dx_Line_headingLevel 0 (e := (0, .aload_n 0, 1)) rfl) rfl rfl (pc' := 1) rfl ?_
  refine jW.getf F f_Line_headingLevel_1 (by assumption) (by assumption) (pc' := 4) rfl ?_
  refine jW.aload_n (dx_Line_headingLevel 2 (e := (4, .aload_n 0, 1)) rfl) rfl rfl (pc' := 5) rfl ?_
  refine jW.callV F (e_Line_start F hL0) (dx_Line_headingLevel 3 (e := (5, .invokevirtual 49, 3)) rfl) can_Line_start jw_590 jw_591 (by assumption) rfl jw_592 rfl rfl (Nat.le_of_ble_eq_true rfl) (pc' := 8) rfl (fun r σ1 hr => ?_)
  obtain ⟨rfl, rfl⟩ := hr
  refine jW.callV F (e_Row_at F rfl (by decide) rfl hS _) (dx_Line_headingLevel 4 (e := (8, .invokevirtual 30, 3)) rfl) can_Row_at jw_555 jw_439 (by assumption) rfl jw_440 rfl rfl (Nat.le_of_ble_eq_true rfl) (pc' := 11) rfl (fun r σ1 hr => ?_)
  obtain ⟨rfl, rfl⟩ := hr
  refine jW.bipush (v := 35) (dx_Line_headingLevel 5 (e := (11, .bipush 35, 2)) rfl) (by decide) (pc' := 13) rfl ?_
  refine jW.icmp_ne (dx_Line_headingLevel 6 (e := (13, .if_icmp .ne 14, 3)) rfl) 27 (by decide) (pc' := 16) rfl (fun c_13 => ?_) (fun c_13 => ?_)
  · refine jW.iconst (v := 0) (dx_Line_headingLevel 12 (e := (27, .iconst 0, 1)) rfl) (by decide) (pc' := 28) rfl ?_
    refine jW.istore_n (dx_Line_headingLevel 13 (e := (28, .istore_n 1, 1)) rfl) rfl (by decide) rfl (pc' := 29) rfl ?_
    refine jW.iload_n (dx_Line_headingLevel 14 (e := (29, .iload_n 1, 1)) rfl) rfl rfl (pc' := 30) rfl ?_
    refine jW.bipush (v := 6) (dx_Line_headingLevel 15 (e := (30, .bipush 6, 2)) rfl) (by decide) (pc' := 32) rfl ?_
    refine jW.icmp_gt (dx_Line_headingLevel 16 (e := (32, .if_icmp .gt 20, 3)) rfl) 52 (by decide) (pc' := 35) rfl (fun c_32 => ?_) (fun c_32 => ?_)
    · refine jW.iconst (v := 0) (dx_Line_headingLevel 26 (e := (52, .iconst 0, 1)) rfl) (by decide) (pc' := 53) rfl ?_
      refine jW.iret (dx_Line_headingLevel 27 (e := (53, .ireturn, 1)) rfl) rfl ?_
      first
        | (have q9 : ¬ smF xs (pl + id) ≤ 6 := fun q => absurd ((nI_ltI (a := 6) (by omega) (by omega)).mp c_32) (by omega)
           refine ⟨?_, rfl⟩
           unfold hdLv
           rw [if_pos c_13, if_neg (fun q => q9 q.1)]
           rfl)
        | (have q9 : smF xs (pl + id) ≤ 6 := Nat.not_lt.mp (fun q => c_32 ((nI_ltI (a := 6) (by omega) (by omega)).mpr q))
           have q8 : ¬ seF xs (pl + id + smF xs (pl + id)) := fun q => by rw [bI_t q] at c_45; exact absurd c_45 (by decide)
           refine ⟨?_, rfl⟩
           unfold hdLv
           rw [if_pos c_13, if_neg (fun q => q8 q.2)]
           rfl)
        | (have q9 : smF xs (pl + id) ≤ 6 := Nat.not_lt.mp (fun q => c_32 ((nI_ltI (a := 6) (by omega) (by omega)).mpr q))
           have q8 : seF xs (pl + id + smF xs (pl + id)) := Decidable.byContradiction (fun q => c_45 (bI_f q))
           refine ⟨?_, rfl⟩
           unfold hdLv
           rw [if_pos c_13, if_pos ⟨q9, q8⟩])
        | (refine ⟨?_, rfl⟩
           unfold hdLv
           rw [if_neg c_13]
           rfl)
    · refine jW.aload_n (dx_Line_headingLevel 17 (e := (35, .aload_n 0, 1)) rfl) rfl rfl (pc' := 36) rfl ?_
      refine jW.aload_n (dx_Line_headingLevel 18 (e := (36, .aload_n 0, 1)) rfl) rfl rfl (pc' := 37) rfl ?_
      refine jW.callV F (e_Line_start F hL0) (dx_Line_headingLevel 19 (e := (37, .invokevirtual 49, 3)) rfl) can_Line_start jw_590 jw_591 (by assumption) rfl jw_592 rfl rfl (Nat.le_of_ble_eq_true rfl) (pc' := 40) rfl (fun r σ1 hr => ?_)
      obtain ⟨rfl, rfl⟩ := hr
      refine jW.iload_n (dx_Line_headingLevel 20 (e := (40, .iload_n 1, 1)) rfl) rfl rfl (pc' := 41) rfl ?_
      refine jW.iadd (dx_Line_headingLevel 21 (e := (41, .iadd, 1)) rfl) (pc' := 42) rfl ?_
      first | rw [nI_add] | (rw [show nI (pl + id) + (0 : Int32) = nI (pl + id + 0) from nI_add (pl + id) 0])
      refine jW.callV F (e_Line_isSpaceOrEnd F hL0 (by omega)) (dx_Line_headingLevel 22 (e := (42, .invokevirtual 68, 3)) rfl) can_Line_isSpaceOrEnd jw_658 jw_660 (by assumption) rfl sel_Line_isSpaceOrEnd rfl rfl (Nat.le_of_ble_eq_true rfl) (pc' := 45) rfl (fun r σ1 hr => ?_)
      obtain ⟨rfl, rfl⟩ := hr
      refine jW.if_eq (dx_Line_headingLevel 23 (e := (45, .ifCond .eq 7, 3)) rfl) 52 (by decide) (pc' := 48) rfl (fun c_45 => ?_) (fun c_45 => ?_)
      · refine jW.iconst (v := 0) (dx_Line_headingLevel 26 (e := (52, .iconst 0, 1)) rfl) (by decide) (pc' := 53) rfl ?_
        refine jW.iret (dx_Line_headingLevel 27 (e := (53, .ireturn, 1)) rfl) rfl ?_
        first
          | (have q9 : ¬ smF xs (pl + id) ≤ 6 := fun q => absurd ((nI_ltI (a := 6) (by omega) (by omega)).mp c_32) (by omega)
             refine ⟨?_, rfl⟩
             unfold hdLv
             rw [if_pos c_13, if_neg (fun q => q9 q.1)]
             rfl)
          | (have q9 : smF xs (pl + id) ≤ 6 := Nat.not_lt.mp (fun q => c_32 ((nI_ltI (a := 6) (by omega) (by omega)).mpr q))
             have q8 : ¬ seF xs (pl + id + smF xs (pl + id)) := fun q => by rw [bI_t q] at c_45; exact absurd c_45 (by decide)
             refine ⟨?_, rfl⟩
             unfold hdLv
             rw [if_pos c_13, if_neg (fun q => q8 q.2)]
             rfl)
          | (have q9 : smF xs (pl + id) ≤ 6 := Nat.not_lt.mp (fun q => c_32 ((nI_ltI (a := 6) (by omega) (by omega)).mpr q))
             have q8 : seF xs (pl + id + smF xs (pl + id)) := Decidable.byContradiction (fun q => c_45 (bI_f q))
             refine ⟨?_, rfl⟩
             unfold hdLv
             rw [if_pos c_13, if_pos ⟨q9, q8⟩])
          | (refine ⟨?_, rfl⟩
             unfold hdLv
             rw [if_neg c_13]
             rfl)
      · refine jW.iload_n (dx_Line_headingLevel 24 (e := (48, .iload_n 1, 1)) rfl) rfl rfl (pc' := 49) rfl ?_
        refine jW.goto (dx_Line_headingLevel 25 (e := (49, .goto 4, 3)) rfl) 53 (by decide) ?_
        refine jW.iret (dx_Line_headingLevel 27 (e := (53, .ireturn, 1)) rfl) rfl ?_
        first
          | (have q9 : ¬ smF xs (pl + id) ≤ 6 := fun q => absurd ((nI_ltI (a := 6) (by omega) (by omega)).mp c_32) (by omega)
             refine ⟨?_, rfl⟩
             unfold hdLv
             rw [if_pos c_13, if_neg (fun q => q9 q.1)]
             rfl)
          | (have q9 : smF xs (pl + id) ≤ 6 := Nat.not_lt.mp (fun q => c_32 ((nI_ltI (a := 6) (by omega) (by omega)).mpr q))
             have q8 : ¬ seF xs (pl + id + smF xs (pl + id)) := fun q => by rw [bI_t q] at c_45; exact absurd c_45 (by decide)
             refine ⟨?_, rfl⟩
             unfold hdLv
             rw [if_pos c_13, if_neg (fun q => q8 q.2)]
             rfl)
          | (have q9 : smF xs (pl + id) ≤ 6 := Nat.not_lt.mp (fun q => c_32 ((nI_ltI (a := 6) (by omega) (by omega)).mpr q))
             have q8 : seF xs (pl + id + smF xs (pl + id)) := Decidable.byContradiction (fun q => c_45 (bI_f q))
             refine ⟨?_, rfl⟩
             unfold hdLv
             rw [if_pos c_13, if_pos ⟨q9, q8⟩])
          | (refine ⟨?_, rfl⟩
             unfold hdLv
             rw [if_neg c_13]
             rfl)
  · refine jW.aload_n (dx_Line_headingLevel 7 (e := (16, .aload_n 0, 1)) rfl) rfl rfl (pc' := 17) rfl ?_
    refine jW.aload_n (dx_Line_headingLevel 8 (e := (17, .aload_n 0, 1)) rfl) rfl rfl (pc' := 18) rfl ?_
    refine jW.callV F (e_Line_start F hL0) (dx_Line_headingLevel 9 (e := (18, .invokevirtual 49, 3)) rfl) can_Line_start jw_590 jw_591 (by assumption) rfl jw_592 rfl rfl (Nat.le_of_ble_eq_true rfl) (pc' := 21) rfl (fun r σ1 hr => ?_)
    obtain ⟨rfl, rfl⟩ := hr
    refine jW.callV F (e_Line_sameFrom F hL0 (by omega)) (dx_Line_headingLevel 10 (e := (21, .invokevirtual 65, 3)) rfl) can_Line_sameFrom jw_623 jw_625 (by assumption) rfl sel_Line_sameFrom rfl rfl (Nat.le_of_ble_eq_true rfl) (pc' := 24) rfl (fun r σ1 hr => ?_)
    obtain ⟨rfl, rfl⟩ := hr
    refine jW.goto (dx_Line_headingLevel 11 (e := (24, .goto 4, 3)) rfl) 28 (by decide) ?_
    refine jW.istore_n (dx_Line_headingLevel 13 (e := (28, .istore_n 1, 1)) rfl) rfl (by decide) rfl (pc' := 29) rfl ?_
    refine jW.iload_n (dx_Line_headingLevel 14 (e := (29, .iload_n 1, 1)) rfl) rfl rfl (pc' := 30) rfl ?_
    refine jW.bipush (v := 6) (dx_Line_headingLevel 15 (e := (30, .bipush 6, 2)) rfl) (by decide) (pc' := 32) rfl ?_
    refine jW.icmp_gt (dx_Line_headingLevel 16 (e := (32, .if_icmp .gt 20, 3)) rfl) 52 (by decide) (pc' := 35) rfl (fun c_32 => ?_) (fun c_32 => ?_)
    · refine jW.iconst (v := 0) (dx_Line_headingLevel 26 (e := (52, .iconst 0, 1)) rfl) (by decide) (pc' := 53) rfl ?_
      refine jW.iret (dx_Line_headingLevel 27 (e := (53, .ireturn, 1)) rfl) rfl ?_
      first
        | (have q9 : ¬ smF xs (pl + id) ≤ 6 := fun q => absurd ((nI_ltI (a := 6) (by omega) (by omega)).mp c_32) (by omega)
           refine ⟨?_, rfl⟩
           unfold hdLv
           rw [if_pos c_13, if_neg (fun q => q9 q.1)]
           rfl)
        | (have q9 : smF xs (pl + id) ≤ 6 := Nat.not_lt.mp (fun q => c_32 ((nI_ltI (a := 6) (by omega) (by omega)).mpr q))
           have q8 : ¬ seF xs (pl + id + smF xs (pl + id)) := fun q => by rw [bI_t q] at c_45; exact absurd c_45 (by decide)
           refine ⟨?_, rfl⟩
           unfold hdLv
           rw [if_pos c_13, if_neg (fun q => q8 q.2)]
           rfl)
        | (have q9 : smF xs (pl + id) ≤ 6 := Nat.not_lt.mp (fun q => c_32 ((nI_ltI (a := 6) (by omega) (by omega)).mpr q))
           have q8 : seF xs (pl + id + smF xs (pl + id)) := Decidable.byContradiction (fun q => c_45 (bI_f q))
           refine ⟨?_, rfl⟩
           unfold hdLv
           rw [if_pos c_13, if_pos ⟨q9, q8⟩])
        | (refine ⟨?_, rfl⟩
           unfold hdLv
           rw [if_neg c_13]
           rfl)
    · refine jW.aload_n (dx_Line_headingLevel 17 (e := (35, .aload_n 0, 1)) rfl) rfl rfl (pc' := 36) rfl ?_
      refine jW.aload_n (dx_Line_headingLevel 18 (e := (36, .aload_n 0, 1)) rfl) rfl rfl (pc' := 37) rfl ?_
      refine jW.callV F (e_Line_start F hL0) (dx_Line_headingLevel 19 (e := (37, .invokevirtual 49, 3)) rfl) can_Line_start jw_590 jw_591 (by assumption) rfl jw_592 rfl rfl (Nat.le_of_ble_eq_true rfl) (pc' := 40) rfl (fun r σ1 hr => ?_)
      obtain ⟨rfl, rfl⟩ := hr
      refine jW.iload_n (dx_Line_headingLevel 20 (e := (40, .iload_n 1, 1)) rfl) rfl rfl (pc' := 41) rfl ?_
      refine jW.iadd (dx_Line_headingLevel 21 (e := (41, .iadd, 1)) rfl) (pc' := 42) rfl ?_
      first | rw [nI_add] | (rw [show nI (pl + id) + (0 : Int32) = nI (pl + id + 0) from nI_add (pl + id) 0])
      refine jW.callV F (e_Line_isSpaceOrEnd F hL0 (by omega)) (dx_Line_headingLevel 22 (e := (42, .invokevirtual 68, 3)) rfl) can_Line_isSpaceOrEnd jw_658 jw_660 (by assumption) rfl sel_Line_isSpaceOrEnd rfl rfl (Nat.le_of_ble_eq_true rfl) (pc' := 45) rfl (fun r σ1 hr => ?_)
      obtain ⟨rfl, rfl⟩ := hr
      refine jW.if_eq (dx_Line_headingLevel 23 (e := (45, .ifCond .eq 7, 3)) rfl) 52 (by decide) (pc' := 48) rfl (fun c_45 => ?_) (fun c_45 => ?_)
      · refine jW.iconst (v := 0) (dx_Line_headingLevel 26 (e := (52, .iconst 0, 1)) rfl) (by decide) (pc' := 53) rfl ?_
        refine jW.iret (dx_Line_headingLevel 27 (e := (53, .ireturn, 1)) rfl) rfl ?_
        first
          | (have q9 : ¬ smF xs (pl + id) ≤ 6 := fun q => absurd ((nI_ltI (a := 6) (by omega) (by omega)).mp c_32) (by omega)
             refine ⟨?_, rfl⟩
             unfold hdLv
             rw [if_pos c_13, if_neg (fun q => q9 q.1)]
             rfl)
          | (have q9 : smF xs (pl + id) ≤ 6 := Nat.not_lt.mp (fun q => c_32 ((nI_ltI (a := 6) (by omega) (by omega)).mpr q))
             have q8 : ¬ seF xs (pl + id + smF xs (pl + id)) := fun q => by rw [bI_t q] at c_45; exact absurd c_45 (by decide)
             refine ⟨?_, rfl⟩
             unfold hdLv
             rw [if_pos c_13, if_neg (fun q => q8 q.2)]
             rfl)
          | (have q9 : smF xs (pl + id) ≤ 6 := Nat.not_lt.mp (fun q => c_32 ((nI_ltI (a := 6) (by omega) (by omega)).mpr q))
             have q8 : seF xs (pl + id + smF xs (pl + id)) := Decidable.byContradiction (fun q => c_45 (bI_f q))
             refine ⟨?_, rfl⟩
             unfold hdLv
             rw [if_pos c_13, if_pos ⟨q9, q8⟩])
          | (refine ⟨?_, rfl⟩
             unfold hdLv
             rw [if_neg c_13]
             rfl)
      · refine jW.iload_n (dx_Line_headingLevel 24 (e := (48, .iload_n 1, 1)) rfl) rfl rfl (pc' := 49) rfl ?_
        refine jW.goto (dx_Line_headingLevel 25 (e := (49, .goto 4, 3)) rfl) 53 (by decide) ?_
        refine jW.iret (dx_Line_headingLevel 27 (e := (53, .ireturn, 1)) rfl) rfl ?_
        first
          | (have q9 : ¬ smF xs (pl + id) ≤ 6 := fun q => absurd ((nI_ltI (a := 6) (by omega) (by omega)).mp c_32) (by omega)
             refine ⟨?_, rfl⟩
             unfold hdLv
             rw [if_pos c_13, if_neg (fun q => q9 q.1)]
             rfl)
          | (have q9 : smF xs (pl + id) ≤ 6 := Nat.not_lt.mp (fun q => c_32 ((nI_ltI (a := 6) (by omega) (by omega)).mpr q))
             have q8 : ¬ seF xs (pl + id + smF xs (pl + id)) := fun q => by rw [bI_t q] at c_45; exact absurd c_45 (by decide)
             refine ⟨?_, rfl⟩
             unfold hdLv
             rw [if_pos c_13, if_neg (fun q => q8 q.2)]
             rfl)
          | (have q9 : smF xs (pl + id) ≤ 6 := Nat.not_lt.mp (fun q => c_32 ((nI_ltI (a := 6) (by omega) (by omega)).mpr q))
             have q8 : seF xs (pl + id + smF xs (pl + id)) := Decidable.byContradiction (fun q => c_45 (bI_f q))
             refine ⟨?_, rfl⟩
             unfold hdLv
             rw [if_pos c_13, if_pos ⟨q9, q8⟩])
          | (refine ⟨?_, rfl⟩
             unfold hdLv
             rw [if_neg c_13]
             rfl)
end LINE2
