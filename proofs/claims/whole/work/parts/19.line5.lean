theorem LineAt.put1 {B a sg n ta pl id ml : Nat} {xs : List Int32} {ms mn : Int32} {σ : jS} {v : Nat → Value} (h : LineAt B σ a sg n xs ta pl id ms ml mn) (h1 : σ.1 a = some (5, 7, v)) {z : Nat} (hz : z ≤ 16000) : LineAt B (jput σ a (5, 7, updV v 1 (.int (nI z)))) a sg n xs z pl id ms ml mn := by
  obtain ⟨⟨w, p1, q2, q3, q4, q5, q6, q7, q8, q9⟩, hS, b1, b2, b3, b4, b5⟩ := h
  rw [h1] at p1
  cases p1
  refine ⟨⟨_, jput_at _ _ _, ?_, ?_, ?_, ?_, ?_, ?_, ?_, q9⟩, hS.keep (jK.put (ks := [5]) h1 (by simp)) (by decide) (by decide), b1, hz, b3, b4, b5⟩
  · rw [updV_ne (by decide)]; exact q2
  · rw [updV_at]
  · rw [updV_ne (by decide)]; exact q4
  · rw [updV_ne (by decide)]; exact q5
  · rw [updV_ne (by decide)]; exact q6
  · rw [updV_ne (by decide)]; exact q7
  · rw [updV_ne (by decide)]; exact q8
theorem LineAt.put2 {B a sg n ta pl id ml : Nat} {xs : List Int32} {ms mn : Int32} {σ : jS} {v : Nat → Value} (h : LineAt B σ a sg n xs ta pl id ms ml mn) (h1 : σ.1 a = some (5, 7, v)) {z : Nat} (hz : z ≤ 16000) : LineAt B (jput σ a (5, 7, updV v 2 (.int (nI z)))) a sg n xs ta z id ms ml mn := by
  obtain ⟨⟨w, p1, q2, q3, q4, q5, q6, q7, q8, q9⟩, hS, b1, b2, b3, b4, b5⟩ := h
  rw [h1] at p1
  cases p1
  refine ⟨⟨_, jput_at _ _ _, ?_, ?_, ?_, ?_, ?_, ?_, ?_, q9⟩, hS.keep (jK.put (ks := [5]) h1 (by simp)) (by decide) (by decide), b1, b2, hz, b4, b5⟩
  · rw [updV_ne (by decide)]; exact q2
  · rw [updV_ne (by decide)]; exact q3
  · rw [updV_at]
  · rw [updV_ne (by decide)]; exact q5
  · rw [updV_ne (by decide)]; exact q6
  · rw [updV_ne (by decide)]; exact q7
  · rw [updV_ne (by decide)]; exact q8
theorem LineAt.put3 {B a sg n ta pl id ml : Nat} {xs : List Int32} {ms mn : Int32} {σ : jS} {v : Nat → Value} (h : LineAt B σ a sg n xs ta pl id ms ml mn) (h1 : σ.1 a = some (5, 7, v)) {z : Nat} (hz : z ≤ 16000) : LineAt B (jput σ a (5, 7, updV v 3 (.int (nI z)))) a sg n xs ta pl z ms ml mn := by
  obtain ⟨⟨w, p1, q2, q3, q4, q5, q6, q7, q8, q9⟩, hS, b1, b2, b3, b4, b5⟩ := h
  rw [h1] at p1
  cases p1
  refine ⟨⟨_, jput_at _ _ _, ?_, ?_, ?_, ?_, ?_, ?_, ?_, q9⟩, hS.keep (jK.put (ks := [5]) h1 (by simp)) (by decide) (by decide), b1, b2, b3, hz, b5⟩
  · rw [updV_ne (by decide)]; exact q2
  · rw [updV_ne (by decide)]; exact q3
  · rw [updV_ne (by decide)]; exact q4
  · rw [updV_at]
  · rw [updV_ne (by decide)]; exact q6
  · rw [updV_ne (by decide)]; exact q7
  · rw [updV_ne (by decide)]; exact q8
theorem LineAt.put4 {B a sg n ta pl id ml : Nat} {xs : List Int32} {ms mn : Int32} {σ : jS} {v : Nat → Value} (h : LineAt B σ a sg n xs ta pl id ms ml mn) (h1 : σ.1 a = some (5, 7, v)) {z : Int32} : LineAt B (jput σ a (5, 7, updV v 4 (.int (z)))) a sg n xs ta pl id z ml mn := by
  obtain ⟨⟨w, p1, q2, q3, q4, q5, q6, q7, q8, q9⟩, hS, b1, b2, b3, b4, b5⟩ := h
  rw [h1] at p1
  cases p1
  refine ⟨⟨_, jput_at _ _ _, ?_, ?_, ?_, ?_, ?_, ?_, ?_, q9⟩, hS.keep (jK.put (ks := [5]) h1 (by simp)) (by decide) (by decide), b1, b2, b3, b4, b5⟩
  · rw [updV_ne (by decide)]; exact q2
  · rw [updV_ne (by decide)]; exact q3
  · rw [updV_ne (by decide)]; exact q4
  · rw [updV_ne (by decide)]; exact q5
  · rw [updV_at]
  · rw [updV_ne (by decide)]; exact q7
  · rw [updV_ne (by decide)]; exact q8
theorem LineAt.put5 {B a sg n ta pl id ml : Nat} {xs : List Int32} {ms mn : Int32} {σ : jS} {v : Nat → Value} (h : LineAt B σ a sg n xs ta pl id ms ml mn) (h1 : σ.1 a = some (5, 7, v)) {z : Nat} (hz : z ≤ 16000) : LineAt B (jput σ a (5, 7, updV v 5 (.int (nI z)))) a sg n xs ta pl id ms z mn := by
  obtain ⟨⟨w, p1, q2, q3, q4, q5, q6, q7, q8, q9⟩, hS, b1, b2, b3, b4, b5⟩ := h
  rw [h1] at p1
  cases p1
  refine ⟨⟨_, jput_at _ _ _, ?_, ?_, ?_, ?_, ?_, ?_, ?_, q9⟩, hS.keep (jK.put (ks := [5]) h1 (by simp)) (by decide) (by decide), b1, b2, b3, b4, hz⟩
  · rw [updV_ne (by decide)]; exact q2
  · rw [updV_ne (by decide)]; exact q3
  · rw [updV_ne (by decide)]; exact q4
  · rw [updV_ne (by decide)]; exact q5
  · rw [updV_ne (by decide)]; exact q6
  · rw [updV_at]
  · rw [updV_ne (by decide)]; exact q8
theorem LineAt.put6 {B a sg n ta pl id ml : Nat} {xs : List Int32} {ms mn : Int32} {σ : jS} {v : Nat → Value} (h : LineAt B σ a sg n xs ta pl id ms ml mn) (h1 : σ.1 a = some (5, 7, v)) {z : Int32} : LineAt B (jput σ a (5, 7, updV v 6 (.int (z)))) a sg n xs ta pl id ms ml z := by
  obtain ⟨⟨w, p1, q2, q3, q4, q5, q6, q7, q8, q9⟩, hS, b1, b2, b3, b4, b5⟩ := h
  rw [h1] at p1
  cases p1
  refine ⟨⟨_, jput_at _ _ _, ?_, ?_, ?_, ?_, ?_, ?_, ?_, q9⟩, hS.keep (jK.put (ks := [5]) h1 (by simp)) (by decide) (by decide), b1, b2, b3, b4, b5⟩
  · rw [updV_ne (by decide)]; exact q2
  · rw [updV_ne (by decide)]; exact q3
  · rw [updV_ne (by decide)]; exact q4
  · rw [updV_ne (by decide)]; exact q5
  · rw [updV_ne (by decide)]; exact q6
  · rw [updV_ne (by decide)]; exact q7
  · rw [updV_at]
section LINE5
variable {l : Launch} {s0 : State} {D : va_G} {cA : Nat → ClassId} {a0 : Array Value} {d : Nat} {σ : jS} {a sg n ta pl id ml : Nat} {xs : List Int32} {ms mn : Int32}
theorem e_move20 (F : jOK s0 jcl D cA lw_tbl a0 jty) {Φ : Option Value → jS → Prop} (x : Int32) : ∀ (k id : Nat) (σ : jS), xs.length ≤ pl + id + k → id + spF xs (pl + id) = spF xs pl → jI s0.heap.size σ → LineAt s0.heap.size σ a sg n xs ta pl id ms ml mn → (∀ σ' : jS, jI s0.heap.size σ' → jK [5] σ σ' → σ'.2 = σ.2 → LineAt s0.heap.size σ' a sg n xs ta pl (spF xs pl) ms ml mn → Φ none σ') → jW l s0 jcl D cA (d + 1) y_Line_moveTo 20 [some (.ref a), some (.int x)] [] σ Φ := by
  intro k
  induction k with
  | zero =>
    intro id σ hk he hI h hΦ
    have hL0 := h
    obtain ⟨⟨v, h1, h2, h3, h4, h5, h6, h7, h8, h9⟩, hS, b1, b2, b3, b4, b5⟩ := h
    obtain ⟨vt, ht⟩ := hS.cell
    rw [show spF xs (pl + id) = 0 from runFrom_end (by omega), Nat.add_zero] at he
    subst he
    refine jW.aload_n (dx_Line_moveTo 10 (e := (20, .aload_n 0, 1)) rfl) rfl rfl (pc' := 21) rfl ?_
    refine jW.getf F f_Line_moveTo_21 (by assumption) (by assumption) (pc' := 24) rfl ?_
    refine jW.aload_n (dx_Line_moveTo 12 (e := (24, .aload_n 0, 1)) rfl) rfl rfl (pc' := 25) rfl ?_
    refine jW.getf F f_Line_moveTo_25 (by assumption) (by assumption) (pc' := 28) rfl ?_
    refine jW.iadd (dx_Line_moveTo 14 (e := (28, .iadd, 1)) rfl) (pc' := 29) rfl ?_
    rw [nI_add]
    refine jW.aload_n (dx_Line_moveTo 15 (e := (29, .aload_n 0, 1)) rfl) rfl rfl (pc' := 30) rfl ?_
    refine jW.getf F f_Line_moveTo_30 (by assumption) (by assumption) (pc' := 33) rfl ?_
    refine jW.callV F (e_Row_size F rfl (by decide) rfl hS) (dx_Line_moveTo 17 (e := (33, .invokevirtual 22, 3)) rfl) can_Row_size jw_553 jw_372 (by assumption) rfl jw_373 rfl rfl (Nat.le_of_ble_eq_true rfl) (pc' := 36) rfl (fun r σ1 hr => ?_)
    obtain ⟨rfl, rfl⟩ := hr
    refine jW.icmp_ge (dx_Line_moveTo 18 (e := (36, .if_icmp .ge 37, 3)) rfl) 73 (by decide) (pc' := 39) rfl (fun c_36 => ?_) (fun c_36 => ?_)
    · refine jW.vret (dx_Line_moveTo 36 (e := (73, .return_, 1)) rfl) rfl ?_
      exact hΦ _ hI jK.rfl rfl hL0
    · exact absurd ((nI_leI (by omega) (by omega)).mpr (by omega)) c_36
  | succ k ih =>
    intro id σ hk he hI h hΦ
    have hL0 := h
    obtain ⟨⟨v, h1, h2, h3, h4, h5, h6, h7, h8, h9⟩, hS, b1, b2, b3, b4, b5⟩ := h
    obtain ⟨vt, ht⟩ := hS.cell
    refine jW.aload_n (dx_Line_moveTo 10 (e := (20, .aload_n 0, 1)) rfl) rfl rfl (pc' := 21) rfl ?_
    refine jW.getf F f_Line_moveTo_21 (by assumption) (by assumption) (pc' := 24) rfl ?_
    refine jW.aload_n (dx_Line_moveTo 12 (e := (24, .aload_n 0, 1)) rfl) rfl rfl (pc' := 25) rfl ?_
    refine jW.getf F f_Line_moveTo_25 (by assumption) (by assumption) (pc' := 28) rfl ?_
    refine jW.iadd (dx_Line_moveTo 14 (e := (28, .iadd, 1)) rfl) (pc' := 29) rfl ?_
    rw [nI_add]
    refine jW.aload_n (dx_Line_moveTo 15 (e := (29, .aload_n 0, 1)) rfl) rfl rfl (pc' := 30) rfl ?_
    refine jW.getf F f_Line_moveTo_30 (by assumption) (by assumption) (pc' := 33) rfl ?_
    refine jW.callV F (e_Row_size F rfl (by decide) rfl hS) (dx_Line_moveTo 17 (e := (33, .invokevirtual 22, 3)) rfl) can_Row_size jw_553 jw_372 (by assumption) rfl jw_373 rfl rfl (Nat.le_of_ble_eq_true rfl) (pc' := 36) rfl (fun r σ1 hr => ?_)
    obtain ⟨rfl, rfl⟩ := hr
    refine jW.icmp_ge (dx_Line_moveTo 18 (e := (36, .if_icmp .ge 37, 3)) rfl) 73 (by decide) (pc' := 39) rfl (fun c_36 => ?_) (fun c_36 => ?_)
    · have hz : spF xs (pl + id) = 0 := by
        first
          | exact runFrom_end ((nI_leI (by omega) (by omega)).mp c_36)
          | (have hlt : pl + id < xs.length := Nat.not_le.mp (fun q => c_36 ((nI_leI (by omega) (by omega)).mpr q))
             exact runFrom_no (rowAt_some hlt (by omega)) (by simpa using c_57))
      rw [hz, Nat.add_zero] at he
      subst he
      refine jW.vret (dx_Line_moveTo 36 (e := (73, .return_, 1)) rfl) rfl ?_
      exact hΦ _ hI jK.rfl rfl hL0
    · refine jW.aload_n (dx_Line_moveTo 19 (e := (39, .aload_n 0, 1)) rfl) rfl rfl (pc' := 40) rfl ?_
      refine jW.getf F f_Line_moveTo_40 (by assumption) (by assumption) (pc' := 43) rfl ?_
      refine jW.aload_n (dx_Line_moveTo 21 (e := (43, .aload_n 0, 1)) rfl) rfl rfl (pc' := 44) rfl ?_
      refine jW.getf F f_Line_moveTo_44 (by assumption) (by assumption) (pc' := 47) rfl ?_
      refine jW.aload_n (dx_Line_moveTo 23 (e := (47, .aload_n 0, 1)) rfl) rfl rfl (pc' := 48) rfl ?_
      refine jW.getf F f_Line_moveTo_48 (by assumption) (by assumption) (pc' := 51) rfl ?_
      refine jW.iadd (dx_Line_moveTo 25 (e := (51, .iadd, 1)) rfl) (pc' := 52) rfl ?_
      rw [nI_add]
      refine jW.callV F (e_Row_at F rfl (by decide) rfl hS _) (dx_Line_moveTo 26 (e := (52, .invokevirtual 30, 3)) rfl) can_Row_at jw_555 jw_439 (by assumption) rfl jw_440 rfl rfl (Nat.le_of_ble_eq_true rfl) (pc' := 55) rfl (fun r σ1 hr => ?_)
      obtain ⟨rfl, rfl⟩ := hr
      refine jW.bipush (v := 32) (dx_Line_moveTo 27 (e := (55, .bipush 32, 2)) rfl) (by decide) (pc' := 57) rfl ?_
      refine jW.icmp_ne (dx_Line_moveTo 28 (e := (57, .if_icmp .ne 16, 3)) rfl) 73 (by decide) (pc' := 60) rfl (fun c_57 => ?_) (fun c_57 => ?_)
      · have hz : spF xs (pl + id) = 0 := by
          first
            | exact runFrom_end ((nI_leI (by omega) (by omega)).mp c_36)
            | (have hlt : pl + id < xs.length := Nat.not_le.mp (fun q => c_36 ((nI_leI (by omega) (by omega)).mpr q))
               exact runFrom_no (rowAt_some hlt (by omega)) (by simpa using c_57))
        rw [hz, Nat.add_zero] at he
        subst he
        refine jW.vret (dx_Line_moveTo 36 (e := (73, .return_, 1)) rfl) rfl ?_
        exact hΦ _ hI jK.rfl rfl hL0
      · refine jW.aload_n (dx_Line_moveTo 29 (e := (60, .aload_n 0, 1)) rfl) rfl rfl (pc' := 61) rfl ?_
        refine jW.dup (dx_Line_moveTo 30 (e := (61, .dup, 1)) rfl) rfl (pc' := 62) rfl ?_
        refine jW.getf F f_Line_moveTo_62 (by assumption) (by assumption) (pc' := 65) rfl ?_
        refine jW.iconst (v := 1) (dx_Line_moveTo 32 (e := (65, .iconst 1, 1)) rfl) (by decide) (pc' := 66) rfl ?_
        refine jW.iadd (dx_Line_moveTo 33 (e := (66, .iadd, 1)) rfl) (pc' := 67) rfl ?_
        rw [nI_1]
        have hlt : pl + id < xs.length := Nat.not_le.mp (fun q => c_36 ((nI_leI (by omega) (by omega)).mpr q))
        have hy : spF xs (pl + id) = spF xs (pl + (id + 1)) + 1 := runFrom_yes (rowAt_some hlt (by omega)) (by simpa using c_57)
        refine jW.putf F f_Line_moveTo_67 rfl jF_Line jTab_Line rfl h1 h9 rfl rfl rfl (pc' := 70) rfl ?_
        refine jW.goto (dx_Line_moveTo 35 (e := (70, .goto (-50), 3)) rfl) 20 (by decide) ?_
        refine ih (id + 1) _ (by omega) (by omega) (hI.put h1) (hL0.put3 h1 (by omega)) (fun σ' z1 z2 z3 z4 => hΦ σ' z1 ((jK.put h1 (by simp)).trans z2) z3 z4)
theorem e_Line_moveTo (F : jOK s0 jcl D cA lw_tbl a0 jty) (hI : jI s0.heap.size σ) (h : LineAt s0.heap.size σ a sg n xs ta pl id ms ml mn) {p : Nat} (hp : p ≤ 100000) : jE l s0 jcl D cA (d + 1) y_Line_moveTo [.ref a, .int (nI p)] σ (fun r σ' => r = none ∧ jI s0.heap.size σ' ∧ jK [5] σ σ' ∧ σ'.2 = σ.2 ∧ LineAt s0.heap.size σ' a sg n xs ta (min p xs.length) (spF xs (min p xs.length)) ms ml mn) := by
  have hL0 := h
  obtain ⟨⟨v, h1, h2, h3, h4, h5, h6, h7, h8, h9⟩, hS, b1, b2, b3, b4, b5⟩ := h
  obtain ⟨vt, ht⟩ := hS.cell
  refine jE.of (by decide) (by simp [Value.category]) (Nat.le_of_ble_eq_true rfl) rfl ?_
  refine jW.aload_n (dx_Line_moveTo 0 (e := (0, .aload_n 0, 1)) rfl) rfl rfl (pc' := 1) rfl ?_
  refine jW.iload_n (dx_Line_moveTo 1 (e := (1, .iload_n 1, 1)) rfl) rfl rfl (pc' := 2) rfl ?_
  refine jW.aload_n (dx_Line_moveTo 2 (e := (2, .aload_n 0, 1)) rfl) rfl rfl (pc' := 3) rfl ?_
  refine jW.getf F f_Line_moveTo_3 (by assumption) (by assumption) (pc' := 6) rfl ?_
  refine jW.callV F (e_Row_size F rfl (by decide) rfl hS) (dx_Line_moveTo 4 (e := (6, .invokevirtual 22, 3)) rfl) can_Row_size jw_553 jw_372 (by assumption) rfl jw_373 rfl rfl (Nat.le_of_ble_eq_true rfl) (pc' := 9) rfl (fun r σ1 hr => ?_)
  obtain ⟨rfl, rfl⟩ := hr
  refine jW.callS F (e_Math_min F _ _) (dx_Line_moveTo 5 (e := (9, .invokestatic 52, 3)) rfl) can_Math_min jw_565 jw_201 rfl rfl (Nat.le_of_ble_eq_true rfl) (pc' := 12) rfl (fun r σ1 hr => ?_)
  obtain ⟨rfl, rfl⟩ := hr
  have hm : (if nI xs.length < nI p then nI xs.length else nI p) = nI (min p xs.length) := by
    by_cases e : xs.length < p
    · rw [if_pos ((nI_ltI (by omega) (by omega)).mpr e), Nat.min_eq_right (by omega)]
    · rw [if_neg (fun q => e ((nI_ltI (by omega) (by omega)).mp q)), Nat.min_eq_left (by omega)]
  rw [hm]
  refine jW.putf F f_Line_moveTo_12 rfl jF_Line jTab_Line rfl h1 h9 rfl rfl rfl (pc' := 15) rfl ?_
  have hI1 := hI.put (c := (5, 7, updV v 2 (.int (nI (min p xs.length))))) h1
  have hL1 := hL0.put2 h1 (z := min p xs.length) (by omega)
  have hK1 : jK [5] _ (jput _ a (5, 7, updV v 2 (.int (nI (min p xs.length))))) := jK.put h1 (by simp)
  refine jW.aload_n (dx_Line_moveTo 7 (e := (15, .aload_n 0, 1)) rfl) rfl rfl (pc' := 16) rfl ?_
  refine jW.iconst (v := 0) (dx_Line_moveTo 8 (e := (16, .iconst 0, 1)) rfl) (by decide) (pc' := 17) rfl ?_
  refine jW.putf F f_Line_moveTo_17 rfl jF_Line jTab_Line rfl (jput_at _ _ _) h9 rfl rfl rfl (pc' := 20) rfl ?_
  exact e_move20 F (nI p) xs.length 0 _ (by omega) (by rw [Nat.add_zero, Nat.zero_add]) (hI1.put (jput_at _ _ _)) (hL1.put3 (jput_at _ _ _) (z := 0) (by omega)) (fun σ' z1 z2 z3 z4 => ⟨rfl, z1, hK1.trans ((jK.put (jput_at _ _ _) (by simp)).trans z2), z3, z4⟩)
theorem e_Line_moveOn (F : jOK s0 jcl D cA lw_tbl a0 jty) (hI : jI s0.heap.size σ) (h : LineAt s0.heap.size σ a sg n xs ta pl id ms ml mn) {p : Nat} (hp : p ≤ 60000) : jE l s0 jcl D cA (d + 2) y_Line_moveOn [.ref a, .int (nI p)] σ (fun r σ' => r = none ∧ jI s0.heap.size σ' ∧ jK [5] σ σ' ∧ σ'.2 = σ.2 ∧ LineAt s0.heap.size σ' a sg n xs ta (min (pl + p) xs.length) (spF xs (min (pl + p) xs.length)) ms ml mn) := by
  have hL0 := h
  obtain ⟨⟨v, h1, h2, h3, h4, h5, h6, h7, h8, h9⟩, hS, b1, b2, b3, b4, b5⟩ := h
  obtain ⟨vt, ht⟩ := hS.cell
  refine jE.of (by decide) (by simp [Value.category]) (Nat.le_of_ble_eq_true rfl) rfl ?_
  refine jW.aload_n (dx_Line_moveOn 0 (e := (0, .aload_n 0, 1)) rfl) rfl rfl (pc' := 1) rfl ?_
  refine jW.aload_n (dx_Line_moveOn 1 (e := (1, .aload_n 0, 1)) rfl) rfl rfl (pc' := 2) rfl ?_
  refine jW.getf F f_Line_moveOn_2 (by assumption) (by assumption) (pc' := 5) rfl ?_
  refine jW.iload_n (dx_Line_moveOn 3 (e := (5, .iload_n 1, 1)) rfl) rfl rfl (pc' := 6) rfl ?_
  refine jW.iadd (dx_Line_moveOn 4 (e := (6, .iadd, 1)) rfl) (pc' := 7) rfl ?_
  rw [nI_add]
  refine jW.callV F (e_Line_moveTo F hI hL0 (by omega)) (dx_Line_moveOn 5 (e := (7, .invokevirtual 37, 3)) rfl) can_Line_moveTo jw_561 jw_562 (by assumption) rfl jw_563 rfl rfl (Nat.le_of_ble_eq_true rfl) (pc' := 10) rfl (fun r σ1 hr => ?_)
  obtain ⟨rfl, z1, z2, z3, z4⟩ := hr
  refine jW.vret (dx_Line_moveOn 6 (e := (10, .return_, 1)) rfl) rfl ?_
  exact ⟨rfl, z1, z2, z3, z4⟩
/-- the place behind a quote's mark at i -/
def qmP (xs : List Int32) (i : Nat) : Nat := if rowAt xs (nI (i + 1)) = 32 then i + 1 + 1 else i + 1
theorem e_Line_passQuoteMark (F : jOK s0 jcl D cA lw_tbl a0 jty) (hI : jI s0.heap.size σ) (h : LineAt s0.heap.size σ a sg n xs ta pl id ms ml mn) : jE l s0 jcl D cA (d + 2) y_Line_passQuoteMark [.ref a] σ (fun r σ' => (¬ (id < 4 ∧ rowAt xs (nI (pl + id)) = 62) ∧ r = some (.int 0) ∧ σ' = σ) ∨ ((id < 4 ∧ rowAt xs (nI (pl + id)) = 62) ∧ r = some (.int 1) ∧ jI s0.heap.size σ' ∧ jK [5] σ σ' ∧ σ'.2 = σ.2 ∧ LineAt s0.heap.size σ' a sg n xs ta (min (qmP xs (pl + id)) xs.length) (spF xs (min (qmP xs (pl + id)) xs.length)) ms ml mn)) := by
  have hL0 := h
  obtain ⟨⟨v, h1, h2, h3, h4, h5, h6, h7, h8, h9⟩, hS, b1, b2, b3, b4, b5⟩ := h
  obtain ⟨vt, ht⟩ := hS.cell
  refine jE.of (by decide) (by simp [Value.category]) (Nat.le_of_ble_eq_true rfl) rfl ?_
  refine jW.aload_n (dx_Line_passQuoteMark 0 (e := (0, .aload_n 0, 1)) rfl) rfl rfl (pc' := 1) rfl ?_
  refine jW.callV F (e_Line_hasQuoteMark F hL0) (dx_Line_passQuoteMark 1 (e := (1, .invokevirtual 62, 3)) rfl) can_Line_hasQuoteMark jw_582 jw_583 (by assumption) rfl jw_584 rfl rfl (Nat.le_of_ble_eq_true rfl) (pc' := 4) rfl (fun r σ1 hr => ?_)
  obtain ⟨rfl, rfl⟩ := hr
  refine jW.if_ne (dx_Line_passQuoteMark 2 (e := (4, .ifCond .ne 5, 3)) rfl) 9 (by decide) (pc' := 7) rfl (fun c_4 => ?_) (fun c_4 => ?_)
  · refine jW.aload_n (dx_Line_passQuoteMark 5 (e := (9, .aload_n 0, 1)) rfl) rfl rfl (pc' := 10) rfl ?_
    refine jW.callV F (e_Line_start F hL0) (dx_Line_passQuoteMark 6 (e := (10, .invokevirtual 49, 3)) rfl) can_Line_start jw_590 jw_591 (by assumption) rfl jw_592 rfl rfl (Nat.le_of_ble_eq_true rfl) (pc' := 13) rfl (fun r σ1 hr => ?_)
    obtain ⟨rfl, rfl⟩ := hr
    refine jW.iconst (v := 1) (dx_Line_passQuoteMark 7 (e := (13, .iconst 1, 1)) rfl) (by decide) (pc' := 14) rfl ?_
    refine jW.iadd (dx_Line_passQuoteMark 8 (e := (14, .iadd, 1)) rfl) (pc' := 15) rfl ?_
    rw [nI_1]
    refine jW.istore_n (dx_Line_passQuoteMark 9 (e := (15, .istore_n 1, 1)) rfl) rfl (by decide) rfl (pc' := 16) rfl ?_
    refine jW.aload_n (dx_Line_passQuoteMark 10 (e := (16, .aload_n 0, 1)) rfl) rfl rfl (pc' := 17) rfl ?_
    refine jW.aload_n (dx_Line_passQuoteMark 11 (e := (17, .aload_n 0, 1)) rfl) rfl rfl (pc' := 18) rfl ?_
    refine jW.getf F f_Line_passQuoteMark_18 (by assumption) (by assumption) (pc' := 21) rfl ?_
    refine jW.iload_n (dx_Line_passQuoteMark 13 (e := (21, .iload_n 1, 1)) rfl) rfl rfl (pc' := 22) rfl ?_
    refine jW.callV F (e_Row_at F rfl (by decide) rfl hS _) (dx_Line_passQuoteMark 14 (e := (22, .invokevirtual 30, 3)) rfl) can_Row_at jw_555 jw_439 (by assumption) rfl jw_440 rfl rfl (Nat.le_of_ble_eq_true rfl) (pc' := 25) rfl (fun r σ1 hr => ?_)
    obtain ⟨rfl, rfl⟩ := hr
    refine jW.bipush (v := 32) (dx_Line_passQuoteMark 15 (e := (25, .bipush 32, 2)) rfl) (by decide) (pc' := 27) rfl ?_
    refine jW.icmp_ne (dx_Line_passQuoteMark 16 (e := (27, .if_icmp .ne 9, 3)) rfl) 36 (by decide) (pc' := 30) rfl (fun c_27 => ?_) (fun c_27 => ?_)
    · refine jW.iload_n (dx_Line_passQuoteMark 21 (e := (36, .iload_n 1, 1)) rfl) rfl rfl (pc' := 37) rfl ?_
      refine jW.callV F (e_Line_moveTo F hI hL0 (by omega)) (dx_Line_passQuoteMark 22 (e := (37, .invokevirtual 37, 3)) rfl) can_Line_moveTo jw_561 jw_562 (by assumption) rfl jw_563 rfl rfl (Nat.le_of_ble_eq_true rfl) (pc' := 40) rfl (fun r σ1 hr => ?_)
      obtain ⟨rfl, z1, z2, z3, z4⟩ := hr
      refine jW.iconst (v := 1) (dx_Line_passQuoteMark 23 (e := (40, .iconst 1, 1)) rfl) (by decide) (pc' := 41) rfl ?_
      refine jW.zret (dx_Line_passQuoteMark 24 (e := (41, .ireturn, 1)) rfl) rfl (by decide) ?_
      first
        | (rw [show pl + id + 1 + 1 = qmP xs (pl + id) from (if_pos c_27).symm] at z4
           exact Or.inr ⟨bI_n0 c_4, rfl, z1, z2, z3, z4⟩)
        | (rw [show pl + id + 1 = qmP xs (pl + id) from (if_neg c_27).symm] at z4
           exact Or.inr ⟨bI_n0 c_4, rfl, z1, z2, z3, z4⟩)
    · refine jW.iload_n (dx_Line_passQuoteMark 17 (e := (30, .iload_n 1, 1)) rfl) rfl rfl (pc' := 31) rfl ?_
      refine jW.iconst (v := 1) (dx_Line_passQuoteMark 18 (e := (31, .iconst 1, 1)) rfl) (by decide) (pc' := 32) rfl ?_
      refine jW.iadd (dx_Line_passQuoteMark 19 (e := (32, .iadd, 1)) rfl) (pc' := 33) rfl ?_
      rw [nI_1]
      refine jW.goto (dx_Line_passQuoteMark 20 (e := (33, .goto 4, 3)) rfl) 37 (by decide) ?_
      refine jW.callV F (e_Line_moveTo F hI hL0 (by omega)) (dx_Line_passQuoteMark 22 (e := (37, .invokevirtual 37, 3)) rfl) can_Line_moveTo jw_561 jw_562 (by assumption) rfl jw_563 rfl rfl (Nat.le_of_ble_eq_true rfl) (pc' := 40) rfl (fun r σ1 hr => ?_)
      obtain ⟨rfl, z1, z2, z3, z4⟩ := hr
      refine jW.iconst (v := 1) (dx_Line_passQuoteMark 23 (e := (40, .iconst 1, 1)) rfl) (by decide) (pc' := 41) rfl ?_
      refine jW.zret (dx_Line_passQuoteMark 24 (e := (41, .ireturn, 1)) rfl) rfl (by decide) ?_
      first
        | (rw [show pl + id + 1 + 1 = qmP xs (pl + id) from (if_pos c_27).symm] at z4
           exact Or.inr ⟨bI_n0 c_4, rfl, z1, z2, z3, z4⟩)
        | (rw [show pl + id + 1 = qmP xs (pl + id) from (if_neg c_27).symm] at z4
           exact Or.inr ⟨bI_n0 c_4, rfl, z1, z2, z3, z4⟩)
  · refine jW.iconst (v := 0) (dx_Line_passQuoteMark 3 (e := (7, .iconst 0, 1)) rfl) (by decide) (pc' := 8) rfl ?_
    refine jW.zret (dx_Line_passQuoteMark 4 (e := (8, .ireturn, 1)) rfl) rfl (by decide) ?_
    exact Or.inl ⟨bI_0 c_4, rfl, rfl⟩
end LINE5
