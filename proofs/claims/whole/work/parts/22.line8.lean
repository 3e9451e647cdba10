abbrev isDg : Int32 → Bool := fun c => decide (48 ≤ c ∧ c ≤ 57)
/-- the digits of a mark at i: how many (at most nine), what number they tell -/
def dgC (xs : List Int32) (i : Nat) : Nat := min 9 (runFrom isDg xs i)
def dgN (xs : List Int32) (i : Nat) : Nat → Int32
  | 0 => 0
  | k + 1 => 10 * dgN xs i k + rowAt xs (nI (i + k)) - 48
/-- the sign of a mark at i -/
def mkS (xs : List Int32) (i : Nat) : Int32 := rowAt xs (nI (i + dgC xs i))
/-- an item's mark stands at i -/
def mkB (xs : List Int32) (i : Nat) : Bool := (if dgC xs i = 0 then decide (mkS xs i = 42 ∨ mkS xs i = 43 ∨ mkS xs i = 45) else decide (mkS xs i = 46 ∨ mkS xs i = 41)) && decide (seF xs (i + (dgC xs i + 1)))
theorem mkB_no {xs : List Int32} {i : Nat} (h : ¬ seF xs (i + (dgC xs i + 1))) : bI (mkB xs i = true) = 0 := bI_f (fun q => by
  unfold mkB at q
  rw [Bool.and_eq_true, decide_eq_true_eq] at q
  exact h q.2)
theorem mkB_f0 {xs : List Int32} {i : Nat} (h : dgC xs i = 0) (h1 : ¬ mkS xs i = 42) (h2 : ¬ mkS xs i = 43) (h3 : ¬ mkS xs i = 45) : bI (mkB xs i = true) = 0 := bI_f (fun q => by
  unfold mkB at q
  rw [if_pos h, Bool.and_eq_true, decide_eq_true_eq] at q
  rcases q.1 with q | q | q
  · exact h1 q
  · exact h2 q
  · exact h3 q)
theorem mkB_f1 {xs : List Int32} {i : Nat} (h : ¬ dgC xs i = 0) (h1 : ¬ mkS xs i = 46) (h2 : ¬ mkS xs i = 41) : bI (mkB xs i = true) = 0 := bI_f (fun q => by
  unfold mkB at q
  rw [if_neg h, Bool.and_eq_true, decide_eq_true_eq] at q
  rcases q.1 with q | q
  · exact h1 q
  · exact h2 q)
theorem mkB_t0 {xs : List Int32} {i : Nat} (h : dgC xs i = 0) (h1 : mkS xs i = 42 ∨ mkS xs i = 43 ∨ mkS xs i = 45) (h2 : seF xs (i + (dgC xs i + 1))) : bI (mkB xs i = true) = 1 := bI_t (by
  unfold mkB
  rw [if_pos h, Bool.and_eq_true, decide_eq_true_eq, decide_eq_true_eq]
  exact ⟨h1, h2⟩)
theorem mkB_t1 {xs : List Int32} {i : Nat} (h : ¬ dgC xs i = 0) (h1 : mkS xs i = 46 ∨ mkS xs i = 41) (h2 : seF xs (i + (dgC xs i + 1))) : bI (mkB xs i = true) = 1 := bI_t (by
  unfold mkB
  rw [if_neg h, Bool.and_eq_true, decide_eq_true_eq, decide_eq_true_eq]
  exact ⟨h1, h2⟩)
section LINE8
variable {l : Launch} {s0 : State} {D : va_G} {cA : Nat → ClassId} {a0 : Array Value} {d : Nat} {σ : jS} {a sg n ta pl id ml : Nat} {xs : List Int32} {ms mn : Int32}
theorem e_mark7 (F : jOK s0 jcl D cA lw_tbl a0 jty) {Φ : Option Value → jS → Prop} : ∀ (k i : Nat) (σ : jS), i + k = 9 → i + runFrom isDg xs (pl + id + i) = runFrom isDg xs (pl + id) → jI s0.heap.size σ → LineAt s0.heap.size σ a sg n xs ta pl id ms ml (dgN xs (pl + id) i) → (∀ σ' : jS, jI s0.heap.size σ' → jK [5] σ σ' → σ'.2 = σ.2 → LineAt s0.heap.size σ' a sg n xs ta pl id ms ml (dgN xs (pl + id) (dgC xs (pl + id))) → jW l s0 jcl D cA (d + 2) y_Line_findMark 66 [some (.ref a), some (.int (nI (dgC xs (pl + id)))), none] [] σ' Φ) → jW l s0 jcl D cA (d + 2) y_Line_findMark 7 [some (.ref a), some (.int (nI i)), none] [] σ Φ := by
  intro k
  induction k with
  | zero =>
    intro i σ hk he hI h hK
    have hL0 := h
    obtain ⟨⟨v, h1, h2, h3, h4, h5, h6, h7, h8, h9⟩, hS, b1, b2, b3, b4, b5⟩ := h
    obtain ⟨vt, ht⟩ := hS.cell
    have hi : i = 9 := by omega
    subst hi
    have hD : dgC xs (pl + id) = 9 := by unfold dgC; omega
    rw [hD] at hK
    refine jW.iload_n (dx_Line_findMark 5 (e := (7, .iload_n 1, 1)) rfl) rfl rfl (pc' := 8) rfl ?_
    refine jW.bipush (v := 9) (dx_Line_findMark 6 (e := (8, .bipush 9, 2)) rfl) (by decide) (pc' := 10) rfl ?_
    refine jW.icmp_ge (dx_Line_findMark 7 (e := (10, .if_icmp .ge 56, 3)) rfl) 66 (by decide) (pc' := 13) rfl (fun c_10 => ?_) (fun c_10 => ?_)
    · exact hK _ hI jK.rfl rfl hL0
    · exact absurd ((nI_leI (a := 9) (by omega) (by omega)).mpr (by omega)) c_10
  | succ k ih =>
    intro i σ hk he hI h hK
    have hL0 := h
    obtain ⟨⟨v, h1, h2, h3, h4, h5, h6, h7, h8, h9⟩, hS, b1, b2, b3, b4, b5⟩ := h
    obtain ⟨vt, ht⟩ := hS.cell
    refine jW.iload_n (dx_Line_findMark 5 (e := (7, .iload_n 1, 1)) rfl) rfl rfl (pc' := 8) rfl ?_
    refine jW.bipush (v := 9) (dx_Line_findMark 6 (e := (8, .bipush 9, 2)) rfl) (by decide) (pc' := 10) rfl ?_
    refine jW.icmp_ge (dx_Line_findMark 7 (e := (10, .if_icmp .ge 56, 3)) rfl) 66 (by decide) (pc' := 13) rfl (fun c_10 => ?_) (fun c_10 => ?_)
    · have hD : dgC xs (pl + id) = i := by
        unfold dgC
        first
          | (have q9 := (nI_leI (a := 9) (by omega) (by omega)).mp c_10
             omega)
          | (have q8 : runFrom isDg xs (pl + id + i) = 0 := by
               by_cases hlt : pl + id + i < xs.length
               · exact runFrom_no (rowAt_some hlt (by omega)) (by simpa [isDg] using bI_0 c_29)
               · exact runFrom_end (by omega)
             omega)
      rw [hD] at hK
      exact hK _ hI jK.rfl rfl hL0
    · refine jW.aload_n (dx_Line_findMark 8 (e := (13, .aload_n 0, 1)) rfl) rfl rfl (pc' := 14) rfl ?_
      refine jW.getf F f_Line_findMark_14 (by assumption) (by assumption) (pc' := 17) rfl ?_
      refine jW.aload_n (dx_Line_findMark 10 (e := (17, .aload_n 0, 1)) rfl) rfl rfl (pc' := 18) rfl ?_
      refine jW.callV F (e_Line_start F hL0) (dx_Line_findMark 11 (e := (18, .invokevirtual 49, 3)) rfl) can_Line_start jw_590 jw_591 (by assumption) rfl jw_592 rfl rfl (Nat.le_of_ble_eq_true rfl) (pc' := 21) rfl (fun r σ1 hr => ?_)
      obtain ⟨rfl, rfl⟩ := hr
      refine jW.iload_n (dx_Line_findMark 12 (e := (21, .iload_n 1, 1)) rfl) rfl rfl (pc' := 22) rfl ?_
      refine jW.iadd (dx_Line_findMark 13 (e := (22, .iadd, 1)) rfl) (pc' := 23) rfl ?_
      rw [nI_add]
      refine jW.callV F (e_Row_at F rfl (by decide) rfl hS _) (dx_Line_findMark 14 (e := (23, .invokevirtual 30, 3)) rfl) can_Row_at jw_555 jw_439 (by assumption) rfl jw_440 rfl rfl (Nat.le_of_ble_eq_true rfl) (pc' := 26) rfl (fun r σ1 hr => ?_)
      obtain ⟨rfl, rfl⟩ := hr
      refine jW.callS F (e_Line_isDigit F _) (dx_Line_findMark 15 (e := (26, .invokestatic 78, 3)) rfl) can_Line_isDigit jw_678 jw_679 rfl rfl (Nat.le_of_ble_eq_true rfl) (pc' := 29) rfl (fun r σ1 hr => ?_)
      obtain ⟨rfl, rfl⟩ := hr
      refine jW.if_eq (dx_Line_findMark 16 (e := (29, .ifCond .eq 37, 3)) rfl) 66 (by decide) (pc' := 32) rfl (fun c_29 => ?_) (fun c_29 => ?_)
      · have hD : dgC xs (pl + id) = i := by
          unfold dgC
          first
            | (have q9 := (nI_leI (a := 9) (by omega) (by omega)).mp c_10
               omega)
            | (have q8 : runFrom isDg xs (pl + id + i) = 0 := by
                 by_cases hlt : pl + id + i < xs.length
                 · exact runFrom_no (rowAt_some hlt (by omega)) (by simpa [isDg] using bI_0 c_29)
                 · exact runFrom_end (by omega)
               omega)
        rw [hD] at hK
        exact hK _ hI jK.rfl rfl hL0
      · refine jW.aload_n (dx_Line_findMark 17 (e := (32, .aload_n 0, 1)) rfl) rfl rfl (pc' := 33) rfl ?_
        refine jW.bipush (v := 10) (dx_Line_findMark 18 (e := (33, .bipush 10, 2)) rfl) (by decide) (pc' := 35) rfl ?_
        refine jW.aload_n (dx_Line_findMark 19 (e := (35, .aload_n 0, 1)) rfl) rfl rfl (pc' := 36) rfl ?_
        refine jW.getf F f_Line_findMark_36 (by assumption) (by assumption) (pc' := 39) rfl ?_
        refine jW.imul (dx_Line_findMark 21 (e := (39, .imul, 1)) rfl) (pc' := 40) rfl ?_
        refine jW.aload_n (dx_Line_findMark 22 (e := (40, .aload_n 0, 1)) rfl) rfl rfl (pc' := 41) rfl ?_
        refine jW.getf F f_Line_findMark_41 (by assumption) (by assumption) (pc' := 44) rfl ?_
        refine jW.aload_n (dx_Line_findMark 24 (e := (44, .aload_n 0, 1)) rfl) rfl rfl (pc' := 45) rfl ?_
        refine jW.callV F (e_Line_start F hL0) (dx_Line_findMark 25 (e := (45, .invokevirtual 49, 3)) rfl) can_Line_start jw_590 jw_591 (by assumption) rfl jw_592 rfl rfl (Nat.le_of_ble_eq_true rfl) (pc' := 48) rfl (fun r σ1 hr => ?_)
        obtain ⟨rfl, rfl⟩ := hr
        refine jW.iload_n (dx_Line_findMark 26 (e := (48, .iload_n 1, 1)) rfl) rfl rfl (pc' := 49) rfl ?_
        refine jW.iadd (dx_Line_findMark 27 (e := (49, .iadd, 1)) rfl) (pc' := 50) rfl ?_
        rw [nI_add]
        refine jW.callV F (e_Row_at F rfl (by decide) rfl hS _) (dx_Line_findMark 28 (e := (50, .invokevirtual 30, 3)) rfl) can_Row_at jw_555 jw_439 (by assumption) rfl jw_440 rfl rfl (Nat.le_of_ble_eq_true rfl) (pc' := 53) rfl (fun r σ1 hr => ?_)
        obtain ⟨rfl, rfl⟩ := hr
        refine jW.iadd (dx_Line_findMark 29 (e := (53, .iadd, 1)) rfl) (pc' := 54) rfl ?_
        refine jW.bipush (v := 48) (dx_Line_findMark 30 (e := (54, .bipush 48, 2)) rfl) (by decide) (pc' := 56) rfl ?_
        refine jW.isub (dx_Line_findMark 31 (e := (56, .isub, 1)) rfl) (pc' := 57) rfl ?_
        have hdg := bI_n0 c_29
        have hlt : pl + id + i < xs.length := by
          refine Nat.not_le.mp (fun q => ?_)
          rw [rowAt_nI (by omega), List.getD_eq_getElem?_getD, List.getElem?_eq_none q] at hdg
          exact absurd hdg (by decide)
        have hy : runFrom isDg xs (pl + id + i) = runFrom isDg xs (pl + id + (i + 1)) + 1 := runFrom_yes (rowAt_some hlt (by omega)) (by simpa [isDg] using hdg)
        refine jW.putf F f_Line_findMark_57 rfl jF_Line jTab_Line rfl h1 h9 rfl rfl rfl (pc' := 60) rfl ?_
        refine jW.iinc (v := nI (i + 1)) (dx_Line_findMark 33 (e := (60, .iinc 1 1, 3)) rfl) rfl (nI_1 i) (by decide) rfl (pc' := 63) rfl ?_
        refine jW.goto (dx_Line_findMark 34 (e := (63, .goto (-56), 3)) rfl) 7 (by decide) ?_
        exact ih (i + 1) _ (by omega) (by omega) (hI.put h1) (hL0.put6 h1 (z := dgN xs (pl + id) (i + 1))) (fun σ' z1 z2 z3 z4 => hK σ' z1 ((jK.put h1 (by simp)).trans z2) z3 z4)
theorem e_mark66 (F : jOK s0 jcl D cA lw_tbl a0 jty) {Φ : Option Value → jS → Prop} {mn0 : Int32} (hI : jI s0.heap.size σ) (h : LineAt s0.heap.size σ a sg n xs ta pl id ms ml mn) (hΦ : ∀ σ' : jS, jI s0.heap.size σ' → jK [5] σ σ' → σ'.2 = σ.2 → LineAt s0.heap.size σ' a sg n xs ta pl id (mkS xs (pl + id)) (dgC xs (pl + id) + 1) mn → Φ (some (.int (bI (mkB xs (pl + id) = true)))) σ') : jW l s0 jcl D cA (d + 2) y_Line_findMark 66 [some (.ref a), some (.int (nI (dgC xs (pl + id)))), none] [] σ Φ := by
  have hL0 := h
  obtain ⟨⟨v, h1, h2, h3, h4, h5, h6, h7, h8, h9⟩, hS, b1, b2, b3, b4, b5⟩ := h
  obtain ⟨vt, ht⟩ := hS.cell
  have hD : dgC xs (pl + id) ≤ 9 := Nat.min_le_left _ _
  refine jW.aload_n (dx_Line_findMark 35 (e := (66, .aload_n 0, 1)) rfl) rfl rfl (pc' := 67) rfl ?_
  refine jW.aload_n (dx_Line_findMark 36 (e := (67, .aload_n 0, 1)) rfl) rfl rfl (pc' := 68) rfl ?_
  refine jW.getf F f_Line_findMark_68 (by assumption) (by assumption) (pc' := 71) rfl ?_
  refine jW.aload_n (dx_Line_findMark 38 (e := (71, .aload_n 0, 1)) rfl) rfl rfl (pc' := 72) rfl ?_
  refine jW.callV F (e_Line_start F hL0) (dx_Line_findMark 39 (e := (72, .invokevirtual 49, 3)) rfl) can_Line_start jw_590 jw_591 (by assumption) rfl jw_592 rfl rfl (Nat.le_of_ble_eq_true rfl) (pc' := 75) rfl (fun r σ1 hr => ?_)
  obtain ⟨rfl, rfl⟩ := hr
  refine jW.iload_n (dx_Line_findMark 40 (e := (75, .iload_n 1, 1)) rfl) rfl rfl (pc' := 76) rfl ?_
  refine jW.iadd (dx_Line_findMark 41 (e := (76, .iadd, 1)) rfl) (pc' := 77) rfl ?_
  rw [nI_add]
  refine jW.callV F (e_Row_at F rfl (by decide) rfl hS _) (dx_Line_findMark 42 (e := (77, .invokevirtual 30, 3)) rfl) can_Row_at jw_555 jw_439 (by assumption) rfl jw_440 rfl rfl (Nat.le_of_ble_eq_true rfl) (pc' := 80) rfl (fun r σ1 hr => ?_)
  obtain ⟨rfl, rfl⟩ := hr
  refine jW.putf F f_Line_findMark_80 rfl jF_Line jTab_Line rfl h1 h9 rfl rfl rfl (pc' := 83) rfl ?_
  have hI1 := hI.put (c := (5, 7, updV v 4 (.int (mkS xs (pl + id))))) h1
  have hL1 := hL0.put4 h1 (z := mkS xs (pl + id))
  have hK1 : jK [5] _ (jput _ a (5, 7, updV v 4 (.int (mkS xs (pl + id))))) := jK.put h1 (by simp)
  refine jW.aload_n (dx_Line_findMark 44 (e := (83, .aload_n 0, 1)) rfl) rfl rfl (pc' := 84) rfl ?_
  refine jW.iload_n (dx_Line_findMark 45 (e := (84, .iload_n 1, 1)) rfl) rfl rfl (pc' := 85) rfl ?_
  refine jW.iconst (v := 1) (dx_Line_findMark 46 (e := (85, .iconst 1, 1)) rfl) (by decide) (pc' := 86) rfl ?_
  refine jW.iadd (dx_Line_findMark 47 (e := (86, .iadd, 1)) rfl) (pc' := 87) rfl ?_
  rw [nI_1]
  have hat := hL1
  obtain ⟨⟨v2, hat, _⟩, _⟩ := hat
  refine jW.putf F f_Line_findMark_87 rfl jF_Line jTab_Line rfl hat h9 rfl rfl rfl (pc' := 90) rfl ?_
  have hI2 := hI1.put (c := (5, 7, updV v2 5 (.int (nI (dgC xs (pl + id) + 1))))) hat
  have hL2 := hL1.put5 hat (z := dgC xs (pl + id) + 1) (by omega)
  have hK2 : jK [5] _ (jput _ a (5, 7, updV v2 5 (.int (nI (dgC xs (pl + id) + 1))))) := jK.put hat (by simp)
  have hK3 := hK1.trans hK2
  clear hL0 hI hS ht h1 h2 h3 h4 h5 h6 h7 h8
  have hL0 := hL2
  have hI := hI2
  obtain ⟨⟨v3, h1, h2, h3, h4, h5, h6, h7, h8, h9⟩, hS, b1, b2, b3, b4, b5⟩ := hL2
  obtain ⟨vt3, ht⟩ := hS.cell
  have hz0 : ∀ {P : Prop}, (nI (dgC xs (pl + id)) = 0 → P) → dgC xs (pl + id) = 0 → P := fun f q => f (by rw [q]; rfl)
  refine jW.iload_n (dx_Line_findMark 49 (e := (90, .iload_n 1, 1)) rfl) rfl rfl (pc' := 91) rfl ?_
  refine jW.if_ne (dx_Line_findMark 50 (e := (91, .ifCond .ne 38, 3)) rfl) 129 (by decide) (pc' := 94) rfl (fun c_91 => ?_) (fun c_91 => ?_)
  · refine jW.aload_n (dx_Line_findMark 67 (e := (129, .aload_n 0, 1)) rfl) rfl rfl (pc' := 130) rfl ?_
    refine jW.getf F f_Line_findMark_130 (by assumption) (by assumption) (pc' := 133) rfl ?_
    refine jW.bipush (v := 46) (dx_Line_findMark 69 (e := (133, .bipush 46, 2)) rfl) (by decide) (pc' := 135) rfl ?_
    refine jW.icmp_eq (dx_Line_findMark 70 (e := (135, .if_icmp .eq 12, 3)) rfl) 147 (by decide) (pc' := 138) rfl (fun c_135 => ?_) (fun c_135 => ?_)
    · refine jW.iconst (v := 1) (dx_Line_findMark 75 (e := (147, .iconst 1, 1)) rfl) (by decide) (pc' := 148) rfl ?_
      refine jW.goto (dx_Line_findMark 76 (e := (148, .goto 4, 3)) rfl) 152 (by decide) ?_
      refine jW.istore_n (dx_Line_findMark 78 (e := (152, .istore_n 2, 1)) rfl) rfl (by decide) rfl (pc' := 153) rfl ?_
      refine jW.iload_n (dx_Line_findMark 79 (e := (153, .iload_n 2, 1)) rfl) rfl rfl (pc' := 154) rfl ?_
      refine jW.if_eq (dx_Line_findMark 80 (e := (154, .ifCond .eq 23, 3)) rfl) 177 (by decide) (pc' := 157) rfl (fun c_154 => ?_) (fun c_154 => ?_)
      · refine jW.iconst (v := 0) (dx_Line_findMark 91 (e := (177, .iconst 0, 1)) rfl) (by decide) (pc' := 178) rfl ?_
        refine jW.zret (dx_Line_findMark 92 (e := (178, .ireturn, 1)) rfl) rfl (by decide) ?_
        refine Eq.mp (congrArg (fun z => Φ (some (Value.int z)) _) ?_) (hΦ _ hI hK3 rfl hL0)
        first
          | exact absurd c_154 (by decide)
          | exact absurd rfl c_154
          | exact mkB_no (fun q => bI_0 c_170 q)
          | exact mkB_f0 ((nI_eq (b := 0) (by omega) (by omega)).mp c_91) c_100 c_109 c_118
          | exact mkB_f1 (fun q => c_91 (by rw [q]; rfl)) c_135 c_144
          | exact mkB_t0 ((nI_eq (b := 0) (by omega) (by omega)).mp c_91) (Or.inl c_100) (bI_n0 c_170)
          | exact mkB_t0 ((nI_eq (b := 0) (by omega) (by omega)).mp c_91) (Or.inr (Or.inl c_109)) (bI_n0 c_170)
          | exact mkB_t0 ((nI_eq (b := 0) (by omega) (by omega)).mp c_91) (Or.inr (Or.inr c_118)) (bI_n0 c_170)
          | exact mkB_t1 (fun q => c_91 (by rw [q]; rfl)) (Or.inl c_135) (bI_n0 c_170)
          | exact mkB_t1 (fun q => c_91 (by rw [q]; rfl)) (Or.inr c_144) (bI_n0 c_170)
      · refine jW.aload_n (dx_Line_findMark 81 (e := (157, .aload_n 0, 1)) rfl) rfl rfl (pc' := 158) rfl ?_
        refine jW.aload_n (dx_Line_findMark 82 (e := (158, .aload_n 0, 1)) rfl) rfl rfl (pc' := 159) rfl ?_
        refine jW.callV F (e_Line_start F hL0) (dx_Line_findMark 83 (e := (159, .invokevirtual 49, 3)) rfl) can_Line_start jw_590 jw_591 (by assumption) rfl jw_592 rfl rfl (Nat.le_of_ble_eq_true rfl) (pc' := 162) rfl (fun r σ1 hr => ?_)
        obtain ⟨rfl, rfl⟩ := hr
        refine jW.aload_n (dx_Line_findMark 84 (e := (162, .aload_n 0, 1)) rfl) rfl rfl (pc' := 163) rfl ?_
        refine jW.getf F f_Line_findMark_163 (by assumption) (by assumption) (pc' := 166) rfl ?_
        refine jW.iadd (dx_Line_findMark 86 (e := (166, .iadd, 1)) rfl) (pc' := 167) rfl ?_
        rw [nI_add]
        refine jW.callV F (e_Line_isSpaceOrEnd F hL0 (by omega)) (dx_Line_findMark 87 (e := (167, .invokevirtual 68, 3)) rfl) can_Line_isSpaceOrEnd jw_658 jw_660 (by assumption) rfl sel_Line_isSpaceOrEnd rfl rfl (Nat.le_of_ble_eq_true rfl) (pc' := 170) rfl (fun r σ1 hr => ?_)
        obtain ⟨rfl, rfl⟩ := hr
        refine jW.if_eq (dx_Line_findMark 88 (e := (170, .ifCond .eq 7, 3)) rfl) 177 (by decide) (pc' := 173) rfl (fun c_170 => ?_) (fun c_170 => ?_)
        · refine jW.iconst (v := 0) (dx_Line_findMark 91 (e := (177, .iconst 0, 1)) rfl) (by decide) (pc' := 178) rfl ?_
          refine jW.zret (dx_Line_findMark 92 (e := (178, .ireturn, 1)) rfl) rfl (by decide) ?_
          refine Eq.mp (congrArg (fun z => Φ (some (Value.int z)) _) ?_) (hΦ _ hI hK3 rfl hL0)
          first
            | exact absurd c_154 (by decide)
            | exact absurd rfl c_154
            | exact mkB_no (fun q => bI_0 c_170 q)
            | exact mkB_f0 ((nI_eq (b := 0) (by omega) (by omega)).mp c_91) c_100 c_109 c_118
            | exact mkB_f1 (fun q => c_91 (by rw [q]; rfl)) c_135 c_144
            | exact mkB_t0 ((nI_eq (b := 0) (by omega) (by omega)).mp c_91) (Or.inl c_100) (bI_n0 c_170)
            | exact mkB_t0 ((nI_eq (b := 0) (by omega) (by omega)).mp c_91) (Or.inr (Or.inl c_109)) (bI_n0 c_170)
            | exact mkB_t0 ((nI_eq (b := 0) (by omega) (by omega)).mp c_91) (Or.inr (Or.inr c_118)) (bI_n0 c_170)
            | exact mkB_t1 (fun q => c_91 (by rw [q]; rfl)) (Or.inl c_135) (bI_n0 c_170)
            | exact mkB_t1 (fun q => c_91 (by rw [q]; rfl)) (Or.inr c_144) (bI_n0 c_170)
        · refine jW.iconst (v := 1) (dx_Line_findMark 89 (e := (173, .iconst 1, 1)) rfl) (by decide) (pc' := 174) rfl ?_
          refine jW.goto (dx_Line_findMark 90 (e := (174, .goto 4, 3)) rfl) 178 (by decide) ?_
          refine jW.zret (dx_Line_findMark 92 (e := (178, .ireturn, 1)) rfl) rfl (by decide) ?_
          refine Eq.mp (congrArg (fun z => Φ (some (Value.int z)) _) ?_) (hΦ _ hI hK3 rfl hL0)
          first
            | exact absurd c_154 (by decide)
            | exact absurd rfl c_154
            | exact mkB_no (fun q => bI_0 c_170 q)
            | exact mkB_f0 ((nI_eq (b := 0) (by omega) (by omega)).mp c_91) c_100 c_109 c_118
            | exact mkB_f1 (fun q => c_91 (by rw [q]; rfl)) c_135 c_144
            | exact mkB_t0 ((nI_eq (b := 0) (by omega) (by omega)).mp c_91) (Or.inl c_100) (bI_n0 c_170)
            | exact mkB_t0 ((nI_eq (b := 0) (by omega) (by omega)).mp c_91) (Or.inr (Or.inl c_109)) (bI_n0 c_170)
            | exact mkB_t0 ((nI_eq (b := 0) (by omega) (by omega)).mp c_91) (Or.inr (Or.inr c_118)) (bI_n0 c_170)
            | exact mkB_t1 (fun q => c_91 (by rw [q]; rfl)) (Or.inl c_135) (bI_n0 c_170)
            | exact mkB_t1 (fun q => c_91 (by rw [q]; rfl)) (Or.inr c_144) (bI_n0 c_170)
    · refine jW.aload_n (dx_Line_findMark 71 (e := (138, .aload_n 0, 1)) rfl) rfl rfl (pc' := 139) rfl ?_
      refine jW.getf F f_Line_findMark_139 (by assumption) (by assumption) (pc' := 142) rfl ?_
      refine jW.bipush (v := 41) (dx_Line_findMark 73 (e := (142, .bipush 41, 2)) rfl) (by decide) (pc' := 144) rfl ?_
      refine jW.icmp_ne (dx_Line_findMark 74 (e := (144, .if_icmp .ne 7, 3)) rfl) 151 (by decide) (pc' := 147) rfl (fun c_144 => ?_) (fun c_144 => ?_)
      · refine jW.iconst (v := 0) (dx_Line_findMark 77 (e := (151, .iconst 0, 1)) rfl) (by decide) (pc' := 152) rfl ?_
        refine jW.istore_n (dx_Line_findMark 78 (e := (152, .istore_n 2, 1)) rfl) rfl (by decide) rfl (pc' := 153) rfl ?_
        refine jW.iload_n (dx_Line_findMark 79 (e := (153, .iload_n 2, 1)) rfl) rfl rfl (pc' := 154) rfl ?_
        refine jW.if_eq (dx_Line_findMark 80 (e := (154, .ifCond .eq 23, 3)) rfl) 177 (by decide) (pc' := 157) rfl (fun c_154 => ?_) (fun c_154 => ?_)
        · refine jW.iconst (v := 0) (dx_Line_findMark 91 (e := (177, .iconst 0, 1)) rfl) (by decide) (pc' := 178) rfl ?_
          refine jW.zret (dx_Line_findMark 92 (e := (178, .ireturn, 1)) rfl) rfl (by decide) ?_
          refine Eq.mp (congrArg (fun z => Φ (some (Value.int z)) _) ?_) (hΦ _ hI hK3 rfl hL0)
          first
            | exact absurd c_154 (by decide)
            | exact absurd rfl c_154
            | exact mkB_no (fun q => bI_0 c_170 q)
            | exact mkB_f0 ((nI_eq (b := 0) (by omega) (by omega)).mp c_91) c_100 c_109 c_118
            | exact mkB_f1 (fun q => c_91 (by rw [q]; rfl)) c_135 c_144
            | exact mkB_t0 ((nI_eq (b := 0) (by omega) (by omega)).mp c_91) (Or.inl c_100) (bI_n0 c_170)
            | exact mkB_t0 ((nI_eq (b := 0) (by omega) (by omega)).mp c_91) (Or.inr (Or.inl c_109)) (bI_n0 c_170)
            | exact mkB_t0 ((nI_eq (b := 0) (by omega) (by omega)).mp c_91) (Or.inr (Or.inr c_118)) (bI_n0 c_170)
            | exact mkB_t1 (fun q => c_91 (by rw [q]; rfl)) (Or.inl c_135) (bI_n0 c_170)
            | exact mkB_t1 (fun q => c_91 (by rw [q]; rfl)) (Or.inr c_144) (bI_n0 c_170)
        · refine jW.aload_n (dx_Line_findMark 81 (e := (157, .aload_n 0, 1)) rfl) rfl rfl (pc' := 158) rfl ?_
          refine jW.aload_n (dx_Line_findMark 82 (e := (158, .aload_n 0, 1)) rfl) rfl rfl (pc' := 159) rfl ?_
          refine jW.callV F (e_Line_start F hL0) (dx_Line_findMark 83 (e := (159, .invokevirtual 49, 3)) rfl) can_Line_start jw_590 jw_591 (by assumption) rfl jw_592 rfl rfl (Nat.le_of_ble_eq_true rfl) (pc' := 162) rfl (fun r σ1 hr => ?_)
          obtain ⟨rfl, rfl⟩ := hr
          refine jW.aload_n (dx_Line_findMark 84 (e := (162, .aload_n 0, 1)) rfl) rfl rfl (pc' := 163) rfl ?_
          refine jW.getf F f_Line_findMark_163 (by assumption) (by assumption) (pc' := 166) rfl ?_
          refine jW.iadd (dx_Line_findMark 86 (e := (166, .iadd, 1)) rfl) (pc' := 167) rfl ?_
          rw [nI_add]
          refine jW.callV F (e_Line_isSpaceOrEnd F hL0 (by omega)) (dx_Line_findMark 87 (e := (167, .invokevirtual 68, 3)) rfl) can_Line_isSpaceOrEnd jw_658 jw_660 (by assumption) rfl sel_Line_isSpaceOrEnd rfl rfl (Nat.le_of_ble_eq_true rfl) (pc' := 170) rfl (fun r σ1 hr => ?_)
          obtain ⟨rfl, rfl⟩ := hr
          refine jW.if_eq (dx_Line_findMark 88 (e := (170, .ifCond .eq 7, 3)) rfl) 177 (by decide) (pc' := 173) rfl (fun c_170 => ?_) (fun c_170 => ?_)
          · refine jW.iconst (v := 0) (dx_Line_findMark 91 (e := (177, .iconst 0, 1)) rfl) (by decide) (pc' := 178) rfl ?_
            refine jW.zret (dx_Line_findMark 92 (e := (178, .ireturn, 1)) rfl) rfl (by decide) ?_
            refine Eq.mp (congrArg (fun z => Φ (some (Value.int z)) _) ?_) (hΦ _ hI hK3 rfl hL0)
            first
              | exact absurd c_154 (by decide)
              | exact absurd rfl c_154
              | exact mkB_no (fun q => bI_0 c_170 q)
              | exact mkB_f0 ((nI_eq (b := 0) (by omega) (by omega)).mp c_91) c_100 c_109 c_118
              | exact mkB_f1 (fun q => c_91 (by rw [q]; rfl)) c_135 c_144
              | exact mkB_t0 ((nI_eq (b := 0) (by omega) (by omega)).mp c_91) (Or.inl c_100) (bI_n0 c_170)
              | exact mkB_t0 ((nI_eq (b := 0) (by omega) (by omega)).mp c_91) (Or.inr (Or.inl c_109)) (bI_n0 c_170)
              | exact mkB_t0 ((nI_eq (b := 0) (by omega) (by omega)).mp c_91) (Or.inr (Or.inr c_118)) (bI_n0 c_170)
              | exact mkB_t1 (fun q => c_91 (by rw [q]; rfl)) (Or.inl c_135) (bI_n0 c_170)
              | exact mkB_t1 (fun q => c_91 (by rw [q]; rfl)) (Or.inr c_144) (bI_n0 c_170)
          · refine jW.iconst (v := 1) (dx_Line_findMark 89 (e := (173, .iconst 1, 1)) rfl) (by decide) (pc' := 174) rfl ?_
            refine jW.goto (dx_Line_findMark 90 (e := (174, .goto 4, 3)) rfl) 178 (by decide) ?_
            refine jW.zret (dx_Line_findMark 92 (e := (178, .ireturn, 1)) rfl) rfl (by decide) ?_
            refine Eq.mp (congrArg (fun z => Φ (some (Value.int z)) _) ?_) (hΦ _ hI hK3 rfl hL0)
            first
              | exact absurd c_154 (by decide)
              | exact absurd rfl c_154
              | exact mkB_no (fun q => bI_0 c_170 q)
              | exact mkB_f0 ((nI_eq (b := 0) (by omega) (by omega)).mp c_91) c_100 c_109 c_118
              | exact mkB_f1 (fun q => c_91 (by rw [q]; rfl)) c_135 c_144
              | exact mkB_t0 ((nI_eq (b := 0) (by omega) (by omega)).mp c_91) (Or.inl c_100) (bI_n0 c_170)
              | exact mkB_t0 ((nI_eq (b := 0) (by omega) (by omega)).mp c_91) (Or.inr (Or.inl c_109)) (bI_n0 c_170)
              | exact mkB_t0 ((nI_eq (b := 0) (by omega) (by omega)).mp c_91) (Or.inr (Or.inr c_118)) (bI_n0 c_170)
              | exact mkB_t1 (fun q => c_91 (by rw [q]; rfl)) (Or.inl c_135) (bI_n0 c_170)
              | exact mkB_t1 (fun q => c_91 (by rw [q]; rfl)) (Or.inr c_144) (bI_n0 c_170)
      · refine jW.iconst (v := 1) (dx_Line_findMark 75 (e := (147, .iconst 1, 1)) rfl) (by decide) (pc' := 148) rfl ?_
        refine jW.goto (dx_Line_findMark 76 (e := (148, .goto 4, 3)) rfl) 152 (by decide) ?_
        refine jW.istore_n (dx_Line_findMark 78 (e := (152, .istore_n 2, 1)) rfl) rfl (by decide) rfl (pc' := 153) rfl ?_
        refine jW.iload_n (dx_Line_findMark 79 (e := (153, .iload_n 2, 1)) rfl) rfl rfl (pc' := 154) rfl ?_
        refine jW.if_eq (dx_Line_findMark 80 (e := (154, .ifCond .eq 23, 3)) rfl) 177 (by decide) (pc' := 157) rfl (fun c_154 => ?_) (fun c_154 => ?_)
        · refine jW.iconst (v := 0) (dx_Line_findMark 91 (e := (177, .iconst 0, 1)) rfl) (by decide) (pc' := 178) rfl ?_
          refine jW.zret (dx_Line_findMark 92 (e := (178, .ireturn, 1)) rfl) rfl (by decide) ?_
          refine Eq.mp (congrArg (fun z => Φ (some (Value.int z)) _) ?_) (hΦ _ hI hK3 rfl hL0)
          first
            | exact absurd c_154 (by decide)
            | exact absurd rfl c_154
            | exact mkB_no (fun q => bI_0 c_170 q)
            | exact mkB_f0 ((nI_eq (b := 0) (by omega) (by omega)).mp c_91) c_100 c_109 c_118
            | exact mkB_f1 (fun q => c_91 (by rw [q]; rfl)) c_135 c_144
            | exact mkB_t0 ((nI_eq (b := 0) (by omega) (by omega)).mp c_91) (Or.inl c_100) (bI_n0 c_170)
            | exact mkB_t0 ((nI_eq (b := 0) (by omega) (by omega)).mp c_91) (Or.inr (Or.inl c_109)) (bI_n0 c_170)
            | exact mkB_t0 ((nI_eq (b := 0) (by omega) (by omega)).mp c_91) (Or.inr (Or.inr c_118)) (bI_n0 c_170)
            | exact mkB_t1 (fun q => c_91 (by rw [q]; rfl)) (Or.inl c_135) (bI_n0 c_170)
            | exact mkB_t1 (fun q => c_91 (by rw [q]; rfl)) (Or.inr c_144) (bI_n0 c_170)
        · refine jW.aload_n (dx_Line_findMark 81 (e := (157, .aload_n 0, 1)) rfl) rfl rfl (pc' := 158) rfl ?_
          refine jW.aload_n (dx_Line_findMark 82 (e := (158, .aload_n 0, 1)) rfl) rfl rfl (pc' := 159) rfl ?_
          refine jW.callV F (e_Line_start F hL0) (dx_Line_findMark 83 (e := (159, .invokevirtual 49, 3)) rfl) can_Line_start jw_590 jw_591 (by assumption) rfl jw_592 rfl rfl (Nat.le_of_ble_eq_true rfl) (pc' := 162) rfl (fun r σ1 hr => ?_)
          obtain ⟨rfl, rfl⟩ := hr
          refine jW.aload_n (dx_Line_findMark 84 (e := (162, .aload_n 0, 1)) rfl) rfl rfl (pc' := 163) rfl ?_
          refine jW.getf F f_Line_findMark_163 (by assumption) (by assumption) (pc' := 166) rfl ?_
          refine jW.iadd (dx_Line_findMark 86 (e := (166, .iadd, 1)) rfl) (pc' := 167) rfl ?_
          rw [nI_add]
          refine jW.callV F (e_Line_isSpaceOrEnd F hL0 (by omega)) (dx_Line_findMark 87 (e := (167, .invokevirtual 68, 3)) rfl) can_Line_isSpaceOrEnd jw_658 jw_660 (by assumption) rfl sel_Line_isSpaceOrEnd rfl rfl (Nat.le_of_ble_eq_true rfl) (pc' := 170) rfl (fun r σ1 hr => ?_)
          obtain ⟨rfl, rfl⟩ := hr
          refine jW.if_eq (dx_Line_findMark 88 (e := (170, .ifCond .eq 7, 3)) rfl) 177 (by decide) (pc' := 173) rfl (fun c_170 => ?_) (fun c_170 => ?_)
          · refine jW.iconst (v := 0) (dx_Line_findMark 91 (e := (177, .iconst 0, 1)) rfl) (by decide) (pc' := 178) rfl ?_
            refine jW.zret (dx_Line_findMark 92 (e := (178, .ireturn, 1)) rfl) rfl (by decide) ?_
            refine Eq.mp (congrArg (fun z => Φ (some (Value.int z)) _) ?_) (hΦ _ hI hK3 rfl hL0)
            first
              | exact absurd c_154 (by decide)
              | exact absurd rfl c_154
              | exact mkB_no (fun q => bI_0 c_170 q)
              | exact mkB_f0 ((nI_eq (b := 0) (by omega) (by omega)).mp c_91) c_100 c_109 c_118
              | exact mkB_f1 (fun q => c_91 (by rw [q]; rfl)) c_135 c_144
              | exact mkB_t0 ((nI_eq (b := 0) (by omega) (by omega)).mp c_91) (Or.inl c_100) (bI_n0 c_170)
              | exact mkB_t0 ((nI_eq (b := 0) (by omega) (by omega)).mp c_91) (Or.inr (Or.inl c_109)) (bI_n0 c_170)
              | exact mkB_t0 ((nI_eq (b := 0) (by omega) (by omega)).mp c_91) (Or.inr (Or.inr c_118)) (bI_n0 c_170)
              | exact mkB_t1 (fun q => c_91 (by rw [q]; rfl)) (Or.inl c_135) (bI_n0 c_170)
              | exact mkB_t1 (fun q => c_91 (by rw [q]; rfl)) (Or.inr c_144) (bI_n0 c_170)
          · refine jW.iconst (v := 1) (dx_Line_findMark 89 (e := (173, .iconst 1, 1)) rfl) (by decide) (pc' := 174) rfl ?_
            refine jW.goto (dx_Line_findMark 90 (e := (174, .goto 4, 3)) rfl) 178 (by decide) ?_
            refine jW.zret (dx_Line_findMark 92 (e := (178, .ireturn, 1)) rfl) rfl (by decide) ?_
            refine Eq.mp (congrArg (fun z => Φ (some (Value.int z)) _) ?_) (hΦ _ hI hK3 rfl hL0)
            first
              | exact absurd c_154 (by decide)
              | exact absurd rfl c_154
              | exact mkB_no (fun q => bI_0 c_170 q)
              | exact mkB_f0 ((nI_eq (b := 0) (by omega) (by omega)).mp c_91) c_100 c_109 c_118
              | exact mkB_f1 (fun q => c_91 (by rw [q]; rfl)) c_135 c_144
              | exact mkB_t0 ((nI_eq (b := 0) (by omega) (by omega)).mp c_91) (Or.inl c_100) (bI_n0 c_170)
              | exact mkB_t0 ((nI_eq (b := 0) (by omega) (by omega)).mp c_91) (Or.inr (Or.inl c_109)) (bI_n0 c_170)
              | exact mkB_t0 ((nI_eq (b := 0) (by omega) (by omega)).mp c_91) (Or.inr (Or.inr c_118)) (bI_n0 c_170)
              | exact mkB_t1 (fun q => c_91 (by rw [q]; rfl)) (Or.inl c_135) (bI_n0 c_170)
              | exact mkB_t1 (fun q => c_91 (by rw [q]; rfl)) (Or.inr c_144) (bI_n0 c_170)
  · refine jW.aload_n (dx_Line_findMark 51 (e := (94, .aload_n 0, 1)) rfl) rfl rfl (pc' := 95) rfl ?_
    refine jW.getf F f_Line_findMark_95 (by assumption) (by assumption) (pc' := 98) rfl ?_
    refine jW.bipush (v := 42) (dx_Line_findMark 53 (e := (98, .bipush 42, 2)) rfl) (by decide) (pc' := 100) rfl ?_
    refine jW.icmp_eq (dx_Line_findMark 54 (e := (100, .if_icmp .eq 21, 3)) rfl) 121 (by decide) (pc' := 103) rfl (fun c_100 => ?_) (fun c_100 => ?_)
    · refine jW.iconst (v := 1) (dx_Line_findMark 63 (e := (121, .iconst 1, 1)) rfl) (by decide) (pc' := 122) rfl ?_
      refine jW.goto (dx_Line_findMark 64 (e := (122, .goto 30, 3)) rfl) 152 (by decide) ?_
      refine jW.istore_n (dx_Line_findMark 78 (e := (152, .istore_n 2, 1)) rfl) rfl (by decide) rfl (pc' := 153) rfl ?_
      refine jW.iload_n (dx_Line_findMark 79 (e := (153, .iload_n 2, 1)) rfl) rfl rfl (pc' := 154) rfl ?_
      refine jW.if_eq (dx_Line_findMark 80 (e := (154, .ifCond .eq 23, 3)) rfl) 177 (by decide) (pc' := 157) rfl (fun c_154 => ?_) (fun c_154 => ?_)
      · refine jW.iconst (v := 0) (dx_Line_findMark 91 (e := (177, .iconst 0, 1)) rfl) (by decide) (pc' := 178) rfl ?_
        refine jW.zret (dx_Line_findMark 92 (e := (178, .ireturn, 1)) rfl) rfl (by decide) ?_
        refine Eq.mp (congrArg (fun z => Φ (some (Value.int z)) _) ?_) (hΦ _ hI hK3 rfl hL0)
        first
          | exact absurd c_154 (by decide)
          | exact absurd rfl c_154
          | exact mkB_no (fun q => bI_0 c_170 q)
          | exact mkB_f0 ((nI_eq (b := 0) (by omega) (by omega)).mp c_91) c_100 c_109 c_118
          | exact mkB_f1 (fun q => c_91 (by rw [q]; rfl)) c_135 c_144
          | exact mkB_t0 ((nI_eq (b := 0) (by omega) (by omega)).mp c_91) (Or.inl c_100) (bI_n0 c_170)
          | exact mkB_t0 ((nI_eq (b := 0) (by omega) (by omega)).mp c_91) (Or.inr (Or.inl c_109)) (bI_n0 c_170)
          | exact mkB_t0 ((nI_eq (b := 0) (by omega) (by omega)).mp c_91) (Or.inr (Or.inr c_118)) (bI_n0 c_170)
          | exact mkB_t1 (fun q => c_91 (by rw [q]; rfl)) (Or.inl c_135) (bI_n0 c_170)
          | exact mkB_t1 (fun q => c_91 (by rw [q]; rfl)) (Or.inr c_144) (bI_n0 c_170)
      · refine jW.aload_n (dx_Line_findMark 81 (e := (157, .aload_n 0, 1)) rfl) rfl rfl (pc' := 158) rfl ?_
        refine jW.aload_n (dx_Line_findMark 82 (e := (158, .aload_n 0, 1)) rfl) rfl rfl (pc' := 159) rfl ?_
        refine jW.callV F (e_Line_start F hL0) (dx_Line_findMark 83 (e := (159, .invokevirtual 49, 3)) rfl) can_Line_start jw_590 jw_591 (by assumption) rfl jw_592 rfl rfl (Nat.le_of_ble_eq_true rfl) (pc' := 162) rfl (fun r σ1 hr => ?_)
        obtain ⟨rfl, rfl⟩ := hr
        refine jW.aload_n (dx_Line_findMark 84 (e := (162, .aload_n 0, 1)) rfl) rfl rfl (pc' := 163) rfl ?_
        refine jW.getf F f_Line_findMark_163 (by assumption) (by assumption) (pc' := 166) rfl ?_
        refine jW.iadd (dx_Line_findMark 86 (e := (166, .iadd, 1)) rfl) (pc' := 167) rfl ?_
        rw [nI_add]
        refine jW.callV F (e_Line_isSpaceOrEnd F hL0 (by omega)) (dx_Line_findMark 87 (e := (167, .invokevirtual 68, 3)) rfl) can_Line_isSpaceOrEnd jw_658 jw_660 (by assumption) rfl sel_Line_isSpaceOrEnd rfl rfl (Nat.le_of_ble_eq_true rfl) (pc' := 170) rfl (fun r σ1 hr => ?_)
        obtain ⟨rfl, rfl⟩ := hr
        refine jW.if_eq (dx_Line_findMark 88 (e := (170, .ifCond .eq 7, 3)) rfl) 177 (by decide) (pc' := 173) rfl (fun c_170 => ?_) (fun c_170 => ?_)
        · refine jW.iconst (v := 0) (dx_Line_findMark 91 (e := (177, .iconst 0, 1)) rfl) (by decide) (pc' := 178) rfl ?_
          refine jW.zret (dx_Line_findMark 92 (e := (178, .ireturn, 1)) rfl) rfl (by decide) ?_
          refine Eq.mp (congrArg (fun z => Φ (some (Value.int z)) _) ?_) (hΦ _ hI hK3 rfl hL0)
          first
            | exact absurd c_154 (by decide)
            | exact absurd rfl c_154
            | exact mkB_no (fun q => bI_0 c_170 q)
            | exact mkB_f0 ((nI_eq (b := 0) (by omega) (by omega)).mp c_91) c_100 c_109 c_118
            | exact mkB_f1 (fun q => c_91 (by rw [q]; rfl)) c_135 c_144
            | exact mkB_t0 ((nI_eq (b := 0) (by omega) (by omega)).mp c_91) (Or.inl c_100) (bI_n0 c_170)
            | exact mkB_t0 ((nI_eq (b := 0) (by omega) (by omega)).mp c_91) (Or.inr (Or.inl c_109)) (bI_n0 c_170)
            | exact mkB_t0 ((nI_eq (b := 0) (by omega) (by omega)).mp c_91) (Or.inr (Or.inr c_118)) (bI_n0 c_170)
            | exact mkB_t1 (fun q => c_91 (by rw [q]; rfl)) (Or.inl c_135) (bI_n0 c_170)
            | exact mkB_t1 (fun q => c_91 (by rw [q]; rfl)) (Or.inr c_144) (bI_n0 c_170)
        · refine jW.iconst (v := 1) (dx_Line_findMark 89 (e := (173, .iconst 1, 1)) rfl) (by decide) (pc' := 174) rfl ?_
          refine jW.goto (dx_Line_findMark 90 (e := (174, .goto 4, 3)) rfl) 178 (by decide) ?_
          refine jW.zret (dx_Line_findMark 92 (e := (178, .ireturn, 1)) rfl) rfl (by decide) ?_
          refine Eq.mp (congrArg (fun z => Φ (some (Value.int z)) _) ?_) (hΦ _ hI hK3 rfl hL0)
          first
            | exact absurd c_154 (by decide)
            | exact absurd rfl c_154
            | exact mkB_no (fun q => bI_0 c_170 q)
            | exact mkB_f0 ((nI_eq (b := 0) (by omega) (by omega)).mp c_91) c_100 c_109 c_118
            | exact mkB_f1 (fun q => c_91 (by rw [q]; rfl)) c_135 c_144
            | exact mkB_t0 ((nI_eq (b := 0) (by omega) (by omega)).mp c_91) (Or.inl c_100) (bI_n0 c_170)
            | exact mkB_t0 ((nI_eq (b := 0) (by omega) (by omega)).mp c_91) (Or.inr (Or.inl c_109)) (bI_n0 c_170)
            | exact mkB_t0 ((nI_eq (b := 0) (by omega) (by omega)).mp c_91) (Or.inr (Or.inr c_118)) (bI_n0 c_170)
            | exact mkB_t1 (fun q => c_91 (by rw [q]; rfl)) (Or.inl c_135) (bI_n0 c_170)
            | exact mkB_t1 (fun q => c_91 (by rw [q]; rfl)) (Or.inr c_144) (bI_n0 c_170)
    · refine jW.aload_n (dx_Line_findMark 55 (e := (103, .aload_n 0, 1)) rfl) rfl rfl (pc' := 104) rfl ?_
      refine jW.getf F f_Line_findMark_104 (by assumption) (by assumption) (pc' := 107) rfl ?_
      refine jW.bipush (v := 43) (dx_Line_findMark 57 (e := (107, .bipush 43, 2)) rfl) (by decide) (pc' := 109) rfl ?_
      refine jW.icmp_eq (dx_Line_findMark 58 (e := (109, .if_icmp .eq 12, 3)) rfl) 121 (by decide) (pc' := 112) rfl (fun c_109 => ?_) (fun c_109 => ?_)
      · refine jW.iconst (v := 1) (dx_Line_findMark 63 (e := (121, .iconst 1, 1)) rfl) (by decide) (pc' := 122) rfl ?_
        refine jW.goto (dx_Line_findMark 64 (e := (122, .goto 30, 3)) rfl) 152 (by decide) ?_
        refine jW.istore_n (dx_Line_findMark 78 (e := (152, .istore_n 2, 1)) rfl) rfl (by decide) rfl (pc' := 153) rfl ?_
        refine jW.iload_n (dx_Line_findMark 79 (e := (153, .iload_n 2, 1)) rfl) rfl rfl (pc' := 154) rfl ?_
        refine jW.if_eq (dx_Line_findMark 80 (e := (154, .ifCond .eq 23, 3)) rfl) 177 (by decide) (pc' := 157) rfl (fun c_154 => ?_) (fun c_154 => ?_)
        · refine jW.iconst (v := 0) (dx_Line_findMark 91 (e := (177, .iconst 0, 1)) rfl) (by decide) (pc' := 178) rfl ?_
          refine jW.zret (dx_Line_findMark 92 (e := (178, .ireturn, 1)) rfl) rfl (by decide) ?_
          refine Eq.mp (congrArg (fun z => Φ (some (Value.int z)) _) ?_) (hΦ _ hI hK3 rfl hL0)
          first
            | exact absurd c_154 (by decide)
            | exact absurd rfl c_154
            | exact mkB_no (fun q => bI_0 c_170 q)
            | exact mkB_f0 ((nI_eq (b := 0) (by omega) (by omega)).mp c_91) c_100 c_109 c_118
            | exact mkB_f1 (fun q => c_91 (by rw [q]; rfl)) c_135 c_144
            | exact mkB_t0 ((nI_eq (b := 0) (by omega) (by omega)).mp c_91) (Or.inl c_100) (bI_n0 c_170)
            | exact mkB_t0 ((nI_eq (b := 0) (by omega) (by omega)).mp c_91) (Or.inr (Or.inl c_109)) (bI_n0 c_170)
            | exact mkB_t0 ((nI_eq (b := 0) (by omega) (by omega)).mp c_91) (Or.inr (Or.inr c_118)) (bI_n0 c_170)
            | exact mkB_t1 (fun q => c_91 (by rw [q]; rfl)) (Or.inl c_135) (bI_n0 c_170)
            | exact mkB_t1 (fun q => c_91 (by rw [q]; rfl)) (Or.inr c_144) (bI_n0 c_170)
        · refine jW.aload_n (dx_Line_findMark 81 (e := (157, .aload_n 0, 1)) rfl) rfl rfl (pc' := 158) rfl ?_
          refine jW.aload_n (dx_Line_findMark 82 (e := (158, .aload_n 0, 1)) rfl) rfl rfl (pc' := 159) rfl ?_
          refine jW.callV F (e_Line_start F hL0) (dx_Line_findMark 83 (e := (159, .invokevirtual 49, 3)) rfl) can_Line_start jw_590 jw_591 (by assumption) rfl jw_592 rfl rfl (Nat.le_of_ble_eq_true rfl) (pc' := 162) rfl (fun r σ1 hr => ?_)
          obtain ⟨rfl, rfl⟩ := hr
          refine jW.aload_n (dx_Line_findMark 84 (e := (162, .aload_n 0, 1)) rfl) rfl rfl (pc' := 163) rfl ?_
          refine jW.getf F f_Line_findMark_163 (by assumption) (by assumption) (pc' := 166) rfl ?_
          refine jW.iadd (dx_Line_findMark 86 (e := (166, .iadd, 1)) rfl) (pc' := 167) rfl ?_
          rw [nI_add]
          refine jW.callV F (e_Line_isSpaceOrEnd F hL0 (by omega)) (dx_Line_findMark 87 (e := (167, .invokevirtual 68, 3)) rfl) can_Line_isSpaceOrEnd jw_658 jw_660 (by assumption) rfl sel_Line_isSpaceOrEnd rfl rfl (Nat.le_of_ble_eq_true rfl) (pc' := 170) rfl (fun r σ1 hr => ?_)
          obtain ⟨rfl, rfl⟩ := hr
          refine jW.if_eq (dx_Line_findMark 88 (e := (170, .ifCond .eq 7, 3)) rfl) 177 (by decide) (pc' := 173) rfl (fun c_170 => ?_) (fun c_170 => ?_)
          · refine jW.iconst (v := 0) (dx_Line_findMark 91 (e := (177, .iconst 0, 1)) rfl) (by decide) (pc' := 178) rfl ?_
            refine jW.zret (dx_Line_findMark 92 (e := (178, .ireturn, 1)) rfl) rfl (by decide) ?_
            refine Eq.mp (congrArg (fun z => Φ (some (Value.int z)) _) ?_) (hΦ _ hI hK3 rfl hL0)
            first
              | exact absurd c_154 (by decide)
              | exact absurd rfl c_154
              | exact mkB_no (fun q => bI_0 c_170 q)
              | exact mkB_f0 ((nI_eq (b := 0) (by omega) (by omega)).mp c_91) c_100 c_109 c_118
              | exact mkB_f1 (fun q => c_91 (by rw [q]; rfl)) c_135 c_144
              | exact mkB_t0 ((nI_eq (b := 0) (by omega) (by omega)).mp c_91) (Or.inl c_100) (bI_n0 c_170)
              | exact mkB_t0 ((nI_eq (b := 0) (by omega) (by omega)).mp c_91) (Or.inr (Or.inl c_109)) (bI_n0 c_170)
              | exact mkB_t0 ((nI_eq (b := 0) (by omega) (by omega)).mp c_91) (Or.inr (Or.inr c_118)) (bI_n0 c_170)
              | exact mkB_t1 (fun q => c_91 (by rw [q]; rfl)) (Or.inl c_135) (bI_n0 c_170)
              | exact mkB_t1 (fun q => c_91 (by rw [q]; rfl)) (Or.inr c_144) (bI_n0 c_170)
          · refine jW.iconst (v := 1) (dx_Line_findMark 89 (e := (173, .iconst 1, 1)) rfl) (by decide) (pc' := 174) rfl ?_
            refine jW.goto (dx_Line_findMark 90 (e := (174, .goto 4, 3)) rfl) 178 (by decide) ?_
            refine jW.zret (dx_Line_findMark 92 (e := (178, .ireturn, 1)) rfl) rfl (by decide) ?_
            refine Eq.mp (congrArg (fun z => Φ (some (Value.int z)) _) ?_) (hΦ _ hI hK3 rfl hL0)
            first
              | exact absurd c_154 (by decide)
              | exact absurd rfl c_154
              | exact mkB_no (fun q => bI_0 c_170 q)
              | exact mkB_f0 ((nI_eq (b := 0) (by omega) (by omega)).mp c_91) c_100 c_109 c_118
              | exact mkB_f1 (fun q => c_91 (by rw [q]; rfl)) c_135 c_144
              | exact mkB_t0 ((nI_eq (b := 0) (by omega) (by omega)).mp c_91) (Or.inl c_100) (bI_n0 c_170)
              | exact mkB_t0 ((nI_eq (b := 0) (by omega) (by omega)).mp c_91) (Or.inr (Or.inl c_109)) (bI_n0 c_170)
              | exact mkB_t0 ((nI_eq (b := 0) (by omega) (by omega)).mp c_91) (Or.inr (Or.inr c_118)) (bI_n0 c_170)
              | exact mkB_t1 (fun q => c_91 (by rw [q]; rfl)) (Or.inl c_135) (bI_n0 c_170)
              | exact mkB_t1 (fun q => c_91 (by rw [q]; rfl)) (Or.inr c_144) (bI_n0 c_170)
      · refine jW.aload_n (dx_Line_findMark 59 (e := (112, .aload_n 0, 1)) rfl) rfl rfl (pc' := 113) rfl ?_
        refine jW.getf F f_Line_findMark_113 (by assumption) (by assumption) (pc' := 116) rfl ?_
        refine jW.bipush (v := 45) (dx_Line_findMark 61 (e := (116, .bipush 45, 2)) rfl) (by decide) (pc' := 118) rfl ?_
        refine jW.icmp_ne (dx_Line_findMark 62 (e := (118, .if_icmp .ne 7, 3)) rfl) 125 (by decide) (pc' := 121) rfl (fun c_118 => ?_) (fun c_118 => ?_)
        · refine jW.iconst (v := 0) (dx_Line_findMark 65 (e := (125, .iconst 0, 1)) rfl) (by decide) (pc' := 126) rfl ?_
          refine jW.goto (dx_Line_findMark 66 (e := (126, .goto 26, 3)) rfl) 152 (by decide) ?_
          refine jW.istore_n (dx_Line_findMark 78 (e := (152, .istore_n 2, 1)) rfl) rfl (by decide) rfl (pc' := 153) rfl ?_
          refine jW.iload_n (dx_Line_findMark 79 (e := (153, .iload_n 2, 1)) rfl) rfl rfl (pc' := 154) rfl ?_
          refine jW.if_eq (dx_Line_findMark 80 (e := (154, .ifCond .eq 23, 3)) rfl) 177 (by decide) (pc' := 157) rfl (fun c_154 => ?_) (fun c_154 => ?_)
          · refine jW.iconst (v := 0) (dx_Line_findMark 91 (e := (177, .iconst 0, 1)) rfl) (by decide) (pc' := 178) rfl ?_
            refine jW.zret (dx_Line_findMark 92 (e := (178, .ireturn, 1)) rfl) rfl (by decide) ?_
            refine Eq.mp (congrArg (fun z => Φ (some (Value.int z)) _) ?_) (hΦ _ hI hK3 rfl hL0)
            first
              | exact absurd c_154 (by decide)
              | exact absurd rfl c_154
              | exact mkB_no (fun q => bI_0 c_170 q)
              | exact mkB_f0 ((nI_eq (b := 0) (by omega) (by omega)).mp c_91) c_100 c_109 c_118
              | exact mkB_f1 (fun q => c_91 (by rw [q]; rfl)) c_135 c_144
              | exact mkB_t0 ((nI_eq (b := 0) (by omega) (by omega)).mp c_91) (Or.inl c_100) (bI_n0 c_170)
              | exact mkB_t0 ((nI_eq (b := 0) (by omega) (by omega)).mp c_91) (Or.inr (Or.inl c_109)) (bI_n0 c_170)
              | exact mkB_t0 ((nI_eq (b := 0) (by omega) (by omega)).mp c_91) (Or.inr (Or.inr c_118)) (bI_n0 c_170)
              | exact mkB_t1 (fun q => c_91 (by rw [q]; rfl)) (Or.inl c_135) (bI_n0 c_170)
              | exact mkB_t1 (fun q => c_91 (by rw [q]; rfl)) (Or.inr c_144) (bI_n0 c_170)
          · refine jW.aload_n (dx_Line_findMark 81 (e := (157, .aload_n 0, 1)) rfl) rfl rfl (pc' := 158) rfl ?_
            refine jW.aload_n (dx_Line_findMark 82 (e := (158, .aload_n 0, 1)) rfl) rfl rfl (pc' := 159) rfl ?_
            refine jW.callV F (e_Line_start F hL0) (dx_Line_findMark 83 (e := (159, .invokevirtual 49, 3)) rfl) can_Line_start jw_590 jw_591 (by assumption) rfl jw_592 rfl rfl (Nat.le_of_ble_eq_true rfl) (pc' := 162) rfl (fun r σ1 hr => ?_)
            obtain ⟨rfl, rfl⟩ := hr
            refine jW.aload_n (dx_Line_findMark 84 (e := (162, .aload_n 0, 1)) rfl) rfl rfl (pc' := 163) rfl ?_
            refine jW.getf F f_Line_findMark_163 (by assumption) (by assumption) (pc' := 166) rfl ?_
            refine jW.iadd (dx_Line_findMark 86 (e := (166, .iadd, 1)) rfl) (pc' := 167) rfl ?_
            rw [nI_add]
            refine jW.callV F (e_Line_isSpaceOrEnd F hL0 (by omega)) (dx_Line_findMark 87 (e := (167, .invokevirtual 68, 3)) rfl) can_Line_isSpaceOrEnd jw_658 jw_660 (by assumption) rfl sel_Line_isSpaceOrEnd rfl rfl (Nat.le_of_ble_eq_true rfl) (pc' := 170) rfl (fun r σ1 hr => ?_)
            obtain ⟨rfl, rfl⟩ := hr
            refine jW.if_eq (dx_Line_findMark 88 (e := (170, .ifCond .eq 7, 3)) rfl) 177 (by decide) (pc' := 173) rfl (fun c_170 => ?_) (fun c_170 => ?_)
            · refine jW.iconst (v := 0) (dx_Line_findMark 91 (e := (177, .iconst 0, 1)) rfl) (by decide) (pc' := 178) rfl ?_
              refine jW.zret (dx_Line_findMark 92 (e := (178, .ireturn, 1)) rfl) rfl (by decide) ?_
              refine Eq.mp (congrArg (fun z => Φ (some (Value.int z)) _) ?_) (hΦ _ hI hK3 rfl hL0)
              first
                | exact absurd c_154 (by decide)
                | exact absurd rfl c_154
                | exact mkB_no (fun q => bI_0 c_170 q)
                | exact mkB_f0 ((nI_eq (b := 0) (by omega) (by omega)).mp c_91) c_100 c_109 c_118
                | exact mkB_f1 (fun q => c_91 (by rw [q]; rfl)) c_135 c_144
                | exact mkB_t0 ((nI_eq (b := 0) (by omega) (by omega)).mp c_91) (Or.inl c_100) (bI_n0 c_170)
                | exact mkB_t0 ((nI_eq (b := 0) (by omega) (by omega)).mp c_91) (Or.inr (Or.inl c_109)) (bI_n0 c_170)
                | exact mkB_t0 ((nI_eq (b := 0) (by omega) (by omega)).mp c_91) (Or.inr (Or.inr c_118)) (bI_n0 c_170)
                | exact mkB_t1 (fun q => c_91 (by rw [q]; rfl)) (Or.inl c_135) (bI_n0 c_170)
                | exact mkB_t1 (fun q => c_91 (by rw [q]; rfl)) (Or.inr c_144) (bI_n0 c_170)
            · refine jW.iconst (v := 1) (dx_Line_findMark 89 (e := (173, .iconst 1, 1)) rfl) (by decide) (pc' := 174) rfl ?_
              refine jW.goto (dx_Line_findMark 90 (e := (174, .goto 4, 3)) rfl) 178 (by decide) ?_
              refine jW.zret (dx_Line_findMark 92 (e := (178, .ireturn, 1)) rfl) rfl (by decide) ?_
              refine Eq.mp (congrArg (fun z => Φ (some (Value.int z)) _) ?_) (hΦ _ hI hK3 rfl hL0)
              first
                | exact absurd c_154 (by decide)
                | exact absurd rfl c_154
                | exact mkB_no (fun q => bI_0 c_170 q)
                | exact mkB_f0 ((nI_eq (b := 0) (by omega) (by omega)).mp c_91) c_100 c_109 c_118
                | exact mkB_f1 (fun q => c_91 (by rw [q]; rfl)) c_135 c_144
                | exact mkB_t0 ((nI_eq (b := 0) (by omega) (by omega)).mp c_91) (Or.inl c_100) (bI_n0 c_170)
                | exact mkB_t0 ((nI_eq (b := 0) (by omega) (by omega)).mp c_91) (Or.inr (Or.inl c_109)) (bI_n0 c_170)
                | exact mkB_t0 ((nI_eq (b := 0) (by omega) (by omega)).mp c_91) (Or.inr (Or.inr c_118)) (bI_n0 c_170)
                | exact mkB_t1 (fun q => c_91 (by rw [q]; rfl)) (Or.inl c_135) (bI_n0 c_170)
                | exact mkB_t1 (fun q => c_91 (by rw [q]; rfl)) (Or.inr c_144) (bI_n0 c_170)
        · refine jW.iconst (v := 1) (dx_Line_findMark 63 (e := (121, .iconst 1, 1)) rfl) (by decide) (pc' := 122) rfl ?_
          refine jW.goto (dx_Line_findMark 64 (e := (122, .goto 30, 3)) rfl) 152 (by decide) ?_
          refine jW.istore_n (dx_Line_findMark 78 (e := (152, .istore_n 2, 1)) rfl) rfl (by decide) rfl (pc' := 153) rfl ?_
          refine jW.iload_n (dx_Line_findMark 79 (e := (153, .iload_n 2, 1)) rfl) rfl rfl (pc' := 154) rfl ?_
          refine jW.if_eq (dx_Line_findMark 80 (e := (154, .ifCond .eq 23, 3)) rfl) 177 (by decide) (pc' := 157) rfl (fun c_154 => ?_) (fun c_154 => ?_)
          · refine jW.iconst (v := 0) (dx_Line_findMark 91 (e := (177, .iconst 0, 1)) rfl) (by decide) (pc' := 178) rfl ?_
            refine jW.zret (dx_Line_findMark 92 (e := (178, .ireturn, 1)) rfl) rfl (by decide) ?_
            refine Eq.mp (congrArg (fun z => Φ (some (Value.int z)) _) ?_) (hΦ _ hI hK3 rfl hL0)
            first
              | exact absurd c_154 (by decide)
              | exact absurd rfl c_154
              | exact mkB_no (fun q => bI_0 c_170 q)
              | exact mkB_f0 ((nI_eq (b := 0) (by omega) (by omega)).mp c_91) c_100 c_109 c_118
              | exact mkB_f1 (fun q => c_91 (by rw [q]; rfl)) c_135 c_144
              | exact mkB_t0 ((nI_eq (b := 0) (by omega) (by omega)).mp c_91) (Or.inl c_100) (bI_n0 c_170)
              | exact mkB_t0 ((nI_eq (b := 0) (by omega) (by omega)).mp c_91) (Or.inr (Or.inl c_109)) (bI_n0 c_170)
              | exact mkB_t0 ((nI_eq (b := 0) (by omega) (by omega)).mp c_91) (Or.inr (Or.inr c_118)) (bI_n0 c_170)
              | exact mkB_t1 (fun q => c_91 (by rw [q]; rfl)) (Or.inl c_135) (bI_n0 c_170)
              | exact mkB_t1 (fun q => c_91 (by rw [q]; rfl)) (Or.inr c_144) (bI_n0 c_170)
          · refine jW.aload_n (dx_Line_findMark 81 (e := (157, .aload_n 0, 1)) rfl) rfl rfl (pc' := 158) rfl ?_
            refine jW.aload_n (dx_Line_findMark 82 (e := (158, .aload_n 0, 1)) rfl) rfl rfl (pc' := 159) rfl ?_
            refine jW.callV F (e_Line_start F hL0) (dx_Line_findMark 83 (e := (159, .invokevirtual 49, 3)) rfl) can_Line_start jw_590 jw_591 (by assumption) rfl jw_592 rfl rfl (Nat.le_of_ble_eq_true rfl) (pc' := 162) rfl (fun r σ1 hr => ?_)
            obtain ⟨rfl, rfl⟩ := hr
            refine jW.aload_n (dx_Line_findMark 84 (e := (162, .aload_n 0, 1)) rfl) rfl rfl (pc' := 163) rfl ?_
            refine jW.getf F f_Line_findMark_163 (by assumption) (by assumption) (pc' := 166) rfl ?_
            refine jW.iadd (dx_Line_findMark 86 (e := (166, .iadd, 1)) rfl) (pc' := 167) rfl ?_
            rw [nI_add]
            refine jW.callV F (e_Line_isSpaceOrEnd F hL0 (by omega)) (dx_Line_findMark 87 (e := (167, .invokevirtual 68, 3)) rfl) can_Line_isSpaceOrEnd jw_658 jw_660 (by assumption) rfl sel_Line_isSpaceOrEnd rfl rfl (Nat.le_of_ble_eq_true rfl) (pc' := 170) rfl (fun r σ1 hr => ?_)
            obtain ⟨rfl, rfl⟩ := hr
            refine jW.if_eq (dx_Line_findMark 88 (e := (170, .ifCond .eq 7, 3)) rfl) 177 (by decide) (pc' := 173) rfl (fun c_170 => ?_) (fun c_170 => ?_)
            · refine jW.iconst (v := 0) (dx_Line_findMark 91 (e := (177, .iconst 0, 1)) rfl) (by decide) (pc' := 178) rfl ?_
              refine jW.zret (dx_Line_findMark 92 (e := (178, .ireturn, 1)) rfl) rfl (by decide) ?_
              refine Eq.mp (congrArg (fun z => Φ (some (Value.int z)) _) ?_) (hΦ _ hI hK3 rfl hL0)
              first
                | exact absurd c_154 (by decide)
                | exact absurd rfl c_154
                | exact mkB_no (fun q => bI_0 c_170 q)
                | exact mkB_f0 ((nI_eq (b := 0) (by omega) (by omega)).mp c_91) c_100 c_109 c_118
                | exact mkB_f1 (fun q => c_91 (by rw [q]; rfl)) c_135 c_144
                | exact mkB_t0 ((nI_eq (b := 0) (by omega) (by omega)).mp c_91) (Or.inl c_100) (bI_n0 c_170)
                | exact mkB_t0 ((nI_eq (b := 0) (by omega) (by omega)).mp c_91) (Or.inr (Or.inl c_109)) (bI_n0 c_170)
                | exact mkB_t0 ((nI_eq (b := 0) (by omega) (by omega)).mp c_91) (Or.inr (Or.inr c_118)) (bI_n0 c_170)
                | exact mkB_t1 (fun q => c_91 (by rw [q]; rfl)) (Or.inl c_135) (bI_n0 c_170)
                | exact mkB_t1 (fun q => c_91 (by rw [q]; rfl)) (Or.inr c_144) (bI_n0 c_170)
            · refine jW.iconst (v := 1) (dx_Line_findMark 89 (e := (173, .iconst 1, 1)) rfl) (by decide) (pc' := 174) rfl ?_
              refine jW.goto (dx_Line_findMark 90 (e := (174, .goto 4, 3)) rfl) 178 (by decide) ?_
              refine jW.zret (dx_Line_findMark 92 (e := (178, .ireturn, 1)) rfl) rfl (by decide) ?_
              refine Eq.mp (congrArg (fun z => Φ (some (Value.int z)) _) ?_) (hΦ _ hI hK3 rfl hL0)
              first
                | exact absurd c_154 (by decide)
                | exact absurd rfl c_154
                | exact mkB_no (fun q => bI_0 c_170 q)
                | exact mkB_f0 ((nI_eq (b := 0) (by omega) (by omega)).mp c_91) c_100 c_109 c_118
                | exact mkB_f1 (fun q => c_91 (by rw [q]; rfl)) c_135 c_144
                | exact mkB_t0 ((nI_eq (b := 0) (by omega) (by omega)).mp c_91) (Or.inl c_100) (bI_n0 c_170)
                | exact mkB_t0 ((nI_eq (b := 0) (by omega) (by omega)).mp c_91) (Or.inr (Or.inl c_109)) (bI_n0 c_170)
                | exact mkB_t0 ((nI_eq (b := 0) (by omega) (by omega)).mp c_91) (Or.inr (Or.inr c_118)) (bI_n0 c_170)
                | exact mkB_t1 (fun q => c_91 (by rw [q]; rfl)) (Or.inl c_135) (bI_n0 c_170)
                | exact mkB_t1 (fun q => c_91 (by rw [q]; rfl)) (Or.inr c_144) (bI_n0 c_170)
theorem e_Line_findMark (F : jOK s0 jcl D cA lw_tbl a0 jty) (hI : jI s0.heap.size σ) (h : LineAt s0.heap.size σ a sg n xs ta pl id ms ml mn) : jE l s0 jcl D cA (d + 2) y_Line_findMark [.ref a] σ (fun r σ' => r = some (.int (bI (mkB xs (pl + id) = true))) ∧ jI s0.heap.size σ' ∧ jK [5] σ σ' ∧ σ'.2 = σ.2 ∧ LineAt s0.heap.size σ' a sg n xs ta pl id (mkS xs (pl + id)) (dgC xs (pl + id) + 1) (dgN xs (pl + id) (dgC xs (pl + id)))) := by
  have hL0 := h
  obtain ⟨⟨v, h1, h2, h3, h4, h5, h6, h7, h8, h9⟩, hS, b1, b2, b3, b4, b5⟩ := h
  obtain ⟨vt, ht⟩ := hS.cell
  refine jE.of (by decide) (by simp [Value.category]) (Nat.le_of_ble_eq_true rfl) rfl ?_
  refine jW.iconst (v := 0) (dx_Line_findMark 0 (e := (0, .iconst 0, 1)) rfl) (by decide) (pc' := 1) rfl ?_
  refine jW.istore_n (dx_Line_findMark 1 (e := (1, .istore_n 1, 1)) rfl) rfl (by decide) rfl (pc' := 2) rfl ?_
  refine jW.aload_n (dx_Line_findMark 2 (e := (2, .aload_n 0, 1)) rfl) rfl rfl (pc' := 3) rfl ?_
  refine jW.iconst (v := 0) (dx_Line_findMark 3 (e := (3, .iconst 0, 1)) rfl) (by decide) (pc' := 4) rfl ?_
  refine jW.putf F f_Line_findMark_4 rfl jF_Line jTab_Line rfl h1 h9 rfl rfl rfl (pc' := 7) rfl ?_
  have hL1 := hL0.put6 h1 (z := 0)
  have hI1 := hI.put (c := (5, 7, updV v 6 (.int 0))) h1
  have hK1 : jK [5] σ (jput σ a (5, 7, updV v 6 (.int 0))) := jK.put h1 (by simp)
  exact e_mark7 F 9 0 _ (by omega) (by rw [Nat.zero_add, Nat.add_zero]) hI1 hL1 (fun σ' z1 z2 z3 z4 => e_mark66 (mn0 := 0) F z1 z4 (fun σ2 y1 y2 y3 y4 => ⟨rfl, y1, hK1.trans (z2.trans y2), by rw [y3, z3]; rfl, y4⟩))
end LINE8
