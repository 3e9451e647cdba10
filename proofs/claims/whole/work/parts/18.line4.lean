section LINE4
variable {l : Launch} {s0 : State} {D : va_G} {cA : Nat → ClassId} {a0 : Array Value} {d : Nat} {σ : jS} {a sg n ta pl id ml : Nat} {xs : List Int32} {ms mn : Int32}
theorem e_fence42 (F : jOK s0 jcl D cA lw_tbl a0 jty) (h : LineAt s0.heap.size σ a sg n xs ta pl id ms ml mn) {c : Int32} {m : Nat} (hm : m ≤ 16000) {Φ : Option Value → jS → Prop} : ∀ (k j : Nat), xs.length ≤ j + k → j ≤ 100000 → Φ (some (.int (nI (if c = 96 ∧ (xs.drop j).any (fun z => z == 96) = true then 0 else if 3 ≤ m then m else 0)))) σ → jW l s0 jcl D cA (d + 1) y_Line_fenceLength 42 [some (.ref a), some (.int c), some (.int (nI m)), some (.int (nI j))] [] σ Φ := by
  have hL0 := h
  obtain ⟨⟨v, h1, h2, h3, h4, h5, h6, h7, h8, h9⟩, hS, b1, b2, b3, b4, b5⟩ := h
  obtain ⟨vt, ht⟩ := hS.cell
  intro k
  induction k with
  | zero =>
    intro j hk hj hΦ
    rw [List.drop_eq_nil_of_le (by omega : xs.length ≤ j), if_neg (fun q => by cases q.2)] at hΦ
    refine jW.iload_n (dx_Line_fenceLength 24 (e := (42, .iload_n 3, 1)) rfl) rfl rfl (pc' := 43) rfl ?_
    refine jW.aload_n (dx_Line_fenceLength 25 (e := (43, .aload_n 0, 1)) rfl) rfl rfl (pc' := 44) rfl ?_
    refine jW.getf F f_Line_fenceLength_44 (by assumption) (by assumption) (pc' := 47) rfl ?_
    refine jW.callV F (e_Row_size F rfl (by decide) rfl hS) (dx_Line_fenceLength 27 (e := (47, .invokevirtual 22, 3)) rfl) can_Row_size jw_553 jw_372 (by assumption) rfl jw_373 rfl rfl (Nat.le_of_ble_eq_true rfl) (pc' := 50) rfl (fun r σ1 hr => ?_)
    obtain ⟨rfl, rfl⟩ := hr
    refine jW.icmp_ge (dx_Line_fenceLength 28 (e := (50, .if_icmp .ge 30, 3)) rfl) 80 (by decide) (pc' := 53) rfl (fun c_50 => ?_) (fun c_50 => ?_)
    · refine jW.iload_n (dx_Line_fenceLength 42 (e := (80, .iload_n 2, 1)) rfl) rfl rfl (pc' := 81) rfl ?_
      refine jW.iconst (v := 3) (dx_Line_fenceLength 43 (e := (81, .iconst 3, 1)) rfl) (by decide) (pc' := 82) rfl ?_
      refine jW.icmp_lt (dx_Line_fenceLength 44 (e := (82, .if_icmp .lt 7, 3)) rfl) 89 (by decide) (pc' := 85) rfl (fun c_82 => ?_) (fun c_82 => ?_)
      · refine jW.iconst (v := 0) (dx_Line_fenceLength 47 (e := (89, .iconst 0, 1)) rfl) (by decide) (pc' := 90) rfl ?_
        refine jW.iret (dx_Line_fenceLength 48 (e := (90, .ireturn, 1)) rfl) rfl ?_
        first
          | (have q9 : ¬ 3 ≤ m := fun q => absurd ((nI_ltI (b := 3) (by omega) (by omega)).mp c_82) (by omega)
             rw [if_neg q9] at hΦ
             exact hΦ)
          | (have q9 : 3 ≤ m := Nat.not_lt.mp (fun q => c_82 ((nI_ltI (b := 3) (by omega) (by omega)).mpr q))
             rw [if_pos q9] at hΦ
             exact hΦ)
      · refine jW.iload_n (dx_Line_fenceLength 45 (e := (85, .iload_n 2, 1)) rfl) rfl rfl (pc' := 86) rfl ?_
        refine jW.goto (dx_Line_fenceLength 46 (e := (86, .goto 4, 3)) rfl) 90 (by decide) ?_
        refine jW.iret (dx_Line_fenceLength 48 (e := (90, .ireturn, 1)) rfl) rfl ?_
        first
          | (have q9 : ¬ 3 ≤ m := fun q => absurd ((nI_ltI (b := 3) (by omega) (by omega)).mp c_82) (by omega)
             rw [if_neg q9] at hΦ
             exact hΦ)
          | (have q9 : 3 ≤ m := Nat.not_lt.mp (fun q => c_82 ((nI_ltI (b := 3) (by omega) (by omega)).mpr q))
             rw [if_pos q9] at hΦ
             exact hΦ)
    · exact absurd ((nI_leI (by omega) (by omega)).mpr (by omega)) c_50
  | succ k ih =>
    intro j hk hj hΦ
    refine jW.iload_n (dx_Line_fenceLength 24 (e := (42, .iload_n 3, 1)) rfl) rfl rfl (pc' := 43) rfl ?_
    refine jW.aload_n (dx_Line_fenceLength 25 (e := (43, .aload_n 0, 1)) rfl) rfl rfl (pc' := 44) rfl ?_
    refine jW.getf F f_Line_fenceLength_44 (by assumption) (by assumption) (pc' := 47) rfl ?_
    refine jW.callV F (e_Row_size F rfl (by decide) rfl hS) (dx_Line_fenceLength 27 (e := (47, .invokevirtual 22, 3)) rfl) can_Row_size jw_553 jw_372 (by assumption) rfl jw_373 rfl rfl (Nat.le_of_ble_eq_true rfl) (pc' := 50) rfl (fun r σ1 hr => ?_)
    obtain ⟨rfl, rfl⟩ := hr
    refine jW.icmp_ge (dx_Line_fenceLength 28 (e := (50, .if_icmp .ge 30, 3)) rfl) 80 (by decide) (pc' := 53) rfl (fun c_50 => ?_) (fun c_50 => ?_)
    · rw [List.drop_eq_nil_of_le ((nI_leI (by omega) (by omega)).mp c_50), if_neg (fun q => by cases q.2)] at hΦ
      refine jW.iload_n (dx_Line_fenceLength 42 (e := (80, .iload_n 2, 1)) rfl) rfl rfl (pc' := 81) rfl ?_
      refine jW.iconst (v := 3) (dx_Line_fenceLength 43 (e := (81, .iconst 3, 1)) rfl) (by decide) (pc' := 82) rfl ?_
      refine jW.icmp_lt (dx_Line_fenceLength 44 (e := (82, .if_icmp .lt 7, 3)) rfl) 89 (by decide) (pc' := 85) rfl (fun c_82 => ?_) (fun c_82 => ?_)
      · refine jW.iconst (v := 0) (dx_Line_fenceLength 47 (e := (89, .iconst 0, 1)) rfl) (by decide) (pc' := 90) rfl ?_
        refine jW.iret (dx_Line_fenceLength 48 (e := (90, .ireturn, 1)) rfl) rfl ?_
        first
          | (have q9 : ¬ 3 ≤ m := fun q => absurd ((nI_ltI (b := 3) (by omega) (by omega)).mp c_82) (by omega)
             rw [if_neg q9] at hΦ
             exact hΦ)
          | (have q9 : 3 ≤ m := Nat.not_lt.mp (fun q => c_82 ((nI_ltI (b := 3) (by omega) (by omega)).mpr q))
             rw [if_pos q9] at hΦ
             exact hΦ)
      · refine jW.iload_n (dx_Line_fenceLength 45 (e := (85, .iload_n 2, 1)) rfl) rfl rfl (pc' := 86) rfl ?_
        refine jW.goto (dx_Line_fenceLength 46 (e := (86, .goto 4, 3)) rfl) 90 (by decide) ?_
        refine jW.iret (dx_Line_fenceLength 48 (e := (90, .ireturn, 1)) rfl) rfl ?_
        first
          | (have q9 : ¬ 3 ≤ m := fun q => absurd ((nI_ltI (b := 3) (by omega) (by omega)).mp c_82) (by omega)
             rw [if_neg q9] at hΦ
             exact hΦ)
          | (have q9 : 3 ≤ m := Nat.not_lt.mp (fun q => c_82 ((nI_ltI (b := 3) (by omega) (by omega)).mpr q))
             rw [if_pos q9] at hΦ
             exact hΦ)
    · refine jW.iload_n (dx_Line_fenceLength 29 (e := (53, .iload_n 1, 1)) rfl) rfl rfl (pc' := 54) rfl ?_
      refine jW.bipush (v := 96) (dx_Line_fenceLength 30 (e := (54, .bipush 96, 2)) rfl) (by decide) (pc' := 56) rfl ?_
      refine jW.icmp_ne (dx_Line_fenceLength 31 (e := (56, .if_icmp .ne 18, 3)) rfl) 74 (by decide) (pc' := 59) rfl (fun c_56 => ?_) (fun c_56 => ?_)
      · refine jW.iinc (v := nI (j + 1)) (dx_Line_fenceLength 40 (e := (74, .iinc 3 1, 3)) rfl) rfl (nI_1 j) (by decide) rfl (pc' := 77) rfl ?_
        refine jW.goto (dx_Line_fenceLength 41 (e := (77, .goto (-35), 3)) rfl) 42 (by decide) ?_
        have hlt : j < xs.length := Nat.not_le.mp (fun q => c_50 ((nI_leI (by omega) (by omega)).mpr q))
        refine ih (j + 1) (by omega) (by omega) ?_
        rw [drop_at hlt (by omega), List.any_cons] at hΦ
        first
          | (rw [if_neg (fun q => c_56 q.1)] at hΦ ⊢
             exact hΦ)
          | (rw [show (rowAt xs (nI j) == 96) = false by simpa using c_69, Bool.false_or] at hΦ
             exact hΦ)
      · refine jW.aload_n (dx_Line_fenceLength 32 (e := (59, .aload_n 0, 1)) rfl) rfl rfl (pc' := 60) rfl ?_
        refine jW.getf F f_Line_fenceLength_60 (by assumption) (by assumption) (pc' := 63) rfl ?_
        refine jW.iload_n (dx_Line_fenceLength 34 (e := (63, .iload_n 3, 1)) rfl) rfl rfl (pc' := 64) rfl ?_
        refine jW.callV F (e_Row_at F rfl (by decide) rfl hS _) (dx_Line_fenceLength 35 (e := (64, .invokevirtual 30, 3)) rfl) can_Row_at jw_555 jw_439 (by assumption) rfl jw_440 rfl rfl (Nat.le_of_ble_eq_true rfl) (pc' := 67) rfl (fun r σ1 hr => ?_)
        obtain ⟨rfl, rfl⟩ := hr
        refine jW.bipush (v := 96) (dx_Line_fenceLength 36 (e := (67, .bipush 96, 2)) rfl) (by decide) (pc' := 69) rfl ?_
        refine jW.icmp_ne (dx_Line_fenceLength 37 (e := (69, .if_icmp .ne 5, 3)) rfl) 74 (by decide) (pc' := 72) rfl (fun c_69 => ?_) (fun c_69 => ?_)
        · refine jW.iinc (v := nI (j + 1)) (dx_Line_fenceLength 40 (e := (74, .iinc 3 1, 3)) rfl) rfl (nI_1 j) (by decide) rfl (pc' := 77) rfl ?_
          refine jW.goto (dx_Line_fenceLength 41 (e := (77, .goto (-35), 3)) rfl) 42 (by decide) ?_
          have hlt : j < xs.length := Nat.not_le.mp (fun q => c_50 ((nI_leI (by omega) (by omega)).mpr q))
          refine ih (j + 1) (by omega) (by omega) ?_
          rw [drop_at hlt (by omega), List.any_cons] at hΦ
          first
            | (rw [if_neg (fun q => c_56 q.1)] at hΦ ⊢
               exact hΦ)
            | (rw [show (rowAt xs (nI j) == 96) = false by simpa using c_69, Bool.false_or] at hΦ
               exact hΦ)
        · have hlt : j < xs.length := Nat.not_le.mp (fun q => c_50 ((nI_leI (by omega) (by omega)).mpr q))
          rw [drop_at hlt (by omega), if_pos ⟨c_56, by rw [List.any_cons, c_69]; rfl⟩] at hΦ
          refine jW.iconst (v := 0) (dx_Line_fenceLength 38 (e := (72, .iconst 0, 1)) rfl) (by decide) (pc' := 73) rfl ?_
          refine jW.iret (dx_Line_fenceLength 39 (e := (73, .ireturn, 1)) rfl) rfl ?_
          exact hΦ
theorem e_Line_fenceLength (F : jOK s0 jcl D cA lw_tbl a0 jty) (h : LineAt s0.heap.size σ a sg n xs ta pl id ms ml mn) : jE l s0 jcl D cA (d + 2) y_Line_fenceLength [.ref a] σ (fun r σ' => r = some (.int (nI (fnLn xs (pl + id)))) ∧ σ' = σ) := by
  have hL0 := h
  obtain ⟨⟨v, h1, h2, h3, h4, h5, h6, h7, h8, h9⟩, hS, b1, b2, b3, b4, b5⟩ := h
  obtain ⟨vt, ht⟩ := hS.cell
  have bsp := fun i => spF_le (i := i) b1
  have bsm := fun i => smF_le (i := i) b1
  have b9 := bsm (pl + id)
  refine jE.of (by decide) (by simp [Value.category]) (Nat.le_of_ble_eq_true rfl) rfl ?_
  refine jW.aload_n (dx_Line_fenceLength 0 (e := (0, .aload_n 0, 1)) rfl) rfl rfl (pc' := 1) rfl ?_
  refine jW.getf F f_Line_fenceLength_1 (by assumption) (by assumption) (pc' := 4) rfl ?_
  refine jW.aload_n (dx_Line_fenceLength 2 (e := (4, .aload_n 0, 1)) rfl) rfl rfl (pc' := 5) rfl ?_
  refine jW.callV F (e_Line_start F hL0) (dx_Line_fenceLength 3 (e := (5, .invokevirtual 49, 3)) rfl) can_Line_start jw_590 jw_591 (by assumption) rfl jw_592 rfl rfl (Nat.le_of_ble_eq_true rfl) (pc' := 8) rfl (fun r σ1 hr => ?_)
  obtain ⟨rfl, rfl⟩ := hr
  refine jW.callV F (e_Row_at F rfl (by decide) rfl hS _) (dx_Line_fenceLength 4 (e := (8, .invokevirtual 30, 3)) rfl) can_Row_at jw_555 jw_439 (by assumption) rfl jw_440 rfl rfl (Nat.le_of_ble_eq_true rfl) (pc' := 11) rfl (fun r σ1 hr => ?_)
  obtain ⟨rfl, rfl⟩ := hr
  refine jW.istore_n (dx_Line_fenceLength 5 (e := (11, .istore_n 1, 1)) rfl) rfl (by decide) rfl (pc' := 12) rfl ?_
  refine jW.iload_n (dx_Line_fenceLength 6 (e := (12, .iload_n 1, 1)) rfl) rfl rfl (pc' := 13) rfl ?_
  refine jW.bipush (v := 96) (dx_Line_fenceLength 7 (e := (13, .bipush 96, 2)) rfl) (by decide) (pc' := 15) rfl ?_
  refine jW.icmp_eq (dx_Line_fenceLength 8 (e := (15, .if_icmp .eq 11, 3)) rfl) 26 (by decide) (pc' := 18) rfl (fun c_15 => ?_) (fun c_15 => ?_)
  · refine jW.aload_n (dx_Line_fenceLength 14 (e := (26, .aload_n 0, 1)) rfl) rfl rfl (pc' := 27) rfl ?_
    refine jW.aload_n (dx_Line_fenceLength 15 (e := (27, .aload_n 0, 1)) rfl) rfl rfl (pc' := 28) rfl ?_
    refine jW.callV F (e_Line_start F hL0) (dx_Line_fenceLength 16 (e := (28, .invokevirtual 49, 3)) rfl) can_Line_start jw_590 jw_591 (by assumption) rfl jw_592 rfl rfl (Nat.le_of_ble_eq_true rfl) (pc' := 31) rfl (fun r σ1 hr => ?_)
    obtain ⟨rfl, rfl⟩ := hr
    refine jW.callV F (e_Line_sameFrom F hL0 (by omega)) (dx_Line_fenceLength 17 (e := (31, .invokevirtual 65, 3)) rfl) can_Line_sameFrom jw_623 jw_625 (by assumption) rfl sel_Line_sameFrom rfl rfl (Nat.le_of_ble_eq_true rfl) (pc' := 34) rfl (fun r σ1 hr => ?_)
    obtain ⟨rfl, rfl⟩ := hr
    refine jW.istore_n (dx_Line_fenceLength 18 (e := (34, .istore_n 2, 1)) rfl) rfl (by decide) rfl (pc' := 35) rfl ?_
    refine jW.aload_n (dx_Line_fenceLength 19 (e := (35, .aload_n 0, 1)) rfl) rfl rfl (pc' := 36) rfl ?_
    refine jW.callV F (e_Line_start F hL0) (dx_Line_fenceLength 20 (e := (36, .invokevirtual 49, 3)) rfl) can_Line_start jw_590 jw_591 (by assumption) rfl jw_592 rfl rfl (Nat.le_of_ble_eq_true rfl) (pc' := 39) rfl (fun r σ1 hr => ?_)
    obtain ⟨rfl, rfl⟩ := hr
    refine jW.iload_n (dx_Line_fenceLength 21 (e := (39, .iload_n 2, 1)) rfl) rfl rfl (pc' := 40) rfl ?_
    refine jW.iadd (dx_Line_fenceLength 22 (e := (40, .iadd, 1)) rfl) (pc' := 41) rfl ?_
    rw [nI_add]
    refine jW.istore_n (dx_Line_fenceLength 23 (e := (41, .istore_n 3, 1)) rfl) rfl (by decide) rfl (pc' := 42) rfl ?_
    first
      | exact e_fence42 F hL0 b9 xs.length _ (by omega) (by omega) ⟨by unfold fnLn; rw [if_pos (Or.inl c_15)], rfl⟩
      | exact e_fence42 F hL0 b9 xs.length _ (by omega) (by omega) ⟨by unfold fnLn; rw [if_pos (Or.inr c_21)], rfl⟩
  · refine jW.iload_n (dx_Line_fenceLength 9 (e := (18, .iload_n 1, 1)) rfl) rfl rfl (pc' := 19) rfl ?_
    refine jW.bipush (v := 126) (dx_Line_fenceLength 10 (e := (19, .bipush 126, 2)) rfl) (by decide) (pc' := 21) rfl ?_
    refine jW.icmp_eq (dx_Line_fenceLength 11 (e := (21, .if_icmp .eq 5, 3)) rfl) 26 (by decide) (pc' := 24) rfl (fun c_21 => ?_) (fun c_21 => ?_)
    · refine jW.aload_n (dx_Line_fenceLength 14 (e := (26, .aload_n 0, 1)) rfl) rfl rfl (pc' := 27) rfl ?_
      refine jW.aload_n (dx_Line_fenceLength 15 (e := (27, .aload_n 0, 1)) rfl) rfl rfl (pc' := 28) rfl ?_
      refine jW.callV F (e_Line_start F hL0) (dx_Line_fenceLength 16 (e := (28, .invokevirtual 49, 3)) rfl) can_Line_start jw_590 jw_591 (by assumption) rfl jw_592 rfl rfl (Nat.le_of_ble_eq_true rfl) (pc' := 31) rfl (fun r σ1 hr => ?_)
      obtain ⟨rfl, rfl⟩ := hr
      refine jW.callV F (e_Line_sameFrom F hL0 (by omega)) (dx_Line_fenceLength 17 (e := (31, .invokevirtual 65, 3)) rfl) can_Line_sameFrom jw_623 jw_625 (by assumption) rfl sel_Line_sameFrom rfl rfl (Nat.le_of_ble_eq_true rfl) (pc' := 34) rfl (fun r σ1 hr => ?_)
      obtain ⟨rfl, rfl⟩ := hr
      refine jW.istore_n (dx_Line_fenceLength 18 (e := (34, .istore_n 2, 1)) rfl) rfl (by decide) rfl (pc' := 35) rfl ?_
      refine jW.aload_n (dx_Line_fenceLength 19 (e := (35, .aload_n 0, 1)) rfl) rfl rfl (pc' := 36) rfl ?_
      refine jW.callV F (e_Line_start F hL0) (dx_Line_fenceLength 20 (e := (36, .invokevirtual 49, 3)) rfl) can_Line_start jw_590 jw_591 (by assumption) rfl jw_592 rfl rfl (Nat.le_of_ble_eq_true rfl) (pc' := 39) rfl (fun r σ1 hr => ?_)
      obtain ⟨rfl, rfl⟩ := hr
      refine jW.iload_n (dx_Line_fenceLength 21 (e := (39, .iload_n 2, 1)) rfl) rfl rfl (pc' := 40) rfl ?_
      refine jW.iadd (dx_Line_fenceLength 22 (e := (40, .iadd, 1)) rfl) (pc' := 41) rfl ?_
      rw [nI_add]
      refine jW.istore_n (dx_Line_fenceLength 23 (e := (41, .istore_n 3, 1)) rfl) rfl (by decide) rfl (pc' := 42) rfl ?_
      first
        | exact e_fence42 F hL0 b9 xs.length _ (by omega) (by omega) ⟨by unfold fnLn; rw [if_pos (Or.inl c_15)], rfl⟩
        | exact e_fence42 F hL0 b9 xs.length _ (by omega) (by omega) ⟨by unfold fnLn; rw [if_pos (Or.inr c_21)], rfl⟩
    · refine jW.iconst (v := 0) (dx_Line_fenceLength 12 (e := (24, .iconst 0, 1)) rfl) (by decide) (pc' := 25) rfl ?_
      refine jW.iret (dx_Line_fenceLength 13 (e := (25, .ireturn, 1)) rfl) rfl ?_
      exact ⟨by unfold fnLn; rw [if_neg (fun q => q.elim c_15 c_21)]; rfl, rfl⟩
theorem e_rule39 (F : jOK s0 jcl D cA lw_tbl a0 jty) (h : LineAt s0.heap.size σ a sg n xs ta pl id ms ml mn) {c : Int32} (hc : ¬ c = 32) {Φ : Option Value → jS → Prop} : ∀ (k j m : Nat), xs.length ≤ j + k → j ≤ 100000 → m ≤ j → Φ (some (.int (bI ((xs.drop j).all (fun z => z == c || z == 32) = true ∧ 3 ≤ m + (xs.drop j).countP (fun z => z == c))))) σ → jW l s0 jcl D cA (d + 1) y_Line_isRule 39 [some (.ref a), some (.int c), some (.int (nI m)), some (.int (nI j))] [] σ Φ := by
  have hL0 := h
  obtain ⟨⟨v, h1, h2, h3, h4, h5, h6, h7, h8, h9⟩, hS, b1, b2, b3, b4, b5⟩ := h
  obtain ⟨vt, ht⟩ := hS.cell
  intro k
  induction k with
  | zero =>
    intro j m hk hj hm hΦ
    rw [List.drop_eq_nil_of_le (by omega : xs.length ≤ j), List.countP_nil, Nat.add_zero] at hΦ
    refine jW.iload_n (dx_Line_isRule 22 (e := (39, .iload_n 3, 1)) rfl) rfl rfl (pc' := 40) rfl ?_
    refine jW.aload_n (dx_Line_isRule 23 (e := (40, .aload_n 0, 1)) rfl) rfl rfl (pc' := 41) rfl ?_
    refine jW.getf F f_Line_isRule_41 (by assumption) (by assumption) (pc' := 44) rfl ?_
    refine jW.callV F (e_Row_size F rfl (by decide) rfl hS) (dx_Line_isRule 25 (e := (44, .invokevirtual 22, 3)) rfl) can_Row_size jw_553 jw_372 (by assumption) rfl jw_373 rfl rfl (Nat.le_of_ble_eq_true rfl) (pc' := 47) rfl (fun r σ1 hr => ?_)
    obtain ⟨rfl, rfl⟩ := hr
    refine jW.icmp_ge (dx_Line_isRule 26 (e := (47, .if_icmp .ge 42, 3)) rfl) 89 (by decide) (pc' := 50) rfl (fun c_47 => ?_) (fun c_47 => ?_)
    · refine jW.iload_n (dx_Line_isRule 45 (e := (89, .iload_n 2, 1)) rfl) rfl rfl (pc' := 90) rfl ?_
      refine jW.iconst (v := 3) (dx_Line_isRule 46 (e := (90, .iconst 3, 1)) rfl) (by decide) (pc' := 91) rfl ?_
      refine jW.icmp_lt (dx_Line_isRule 47 (e := (91, .if_icmp .lt 7, 3)) rfl) 98 (by decide) (pc' := 94) rfl (fun c_91 => ?_) (fun c_91 => ?_)
      · refine jW.iconst (v := 0) (dx_Line_isRule 50 (e := (98, .iconst 0, 1)) rfl) (by decide) (pc' := 99) rfl ?_
        refine jW.zret (dx_Line_isRule 51 (e := (99, .ireturn, 1)) rfl) rfl (by decide) ?_
        first
          | (have q9 : ¬ 3 ≤ m := fun q => absurd ((nI_ltI (b := 3) (by omega) (by omega)).mp c_91) (by omega)
             rw [bI_f (fun q => q9 q.2)] at hΦ
             exact hΦ)
          | (have q9 : 3 ≤ m := Nat.not_lt.mp (fun q => c_91 ((nI_ltI (b := 3) (by omega) (by omega)).mpr q))
             rw [bI_t ⟨rfl, q9⟩] at hΦ
             exact hΦ)
      · refine jW.iconst (v := 1) (dx_Line_isRule 48 (e := (94, .iconst 1, 1)) rfl) (by decide) (pc' := 95) rfl ?_
        refine jW.goto (dx_Line_isRule 49 (e := (95, .goto 4, 3)) rfl) 99 (by decide) ?_
        refine jW.zret (dx_Line_isRule 51 (e := (99, .ireturn, 1)) rfl) rfl (by decide) ?_
        first
          | (have q9 : ¬ 3 ≤ m := fun q => absurd ((nI_ltI (b := 3) (by omega) (by omega)).mp c_91) (by omega)
             rw [bI_f (fun q => q9 q.2)] at hΦ
             exact hΦ)
          | (have q9 : 3 ≤ m := Nat.not_lt.mp (fun q => c_91 ((nI_ltI (b := 3) (by omega) (by omega)).mpr q))
             rw [bI_t ⟨rfl, q9⟩] at hΦ
             exact hΦ)
    · exact absurd ((nI_leI (by omega) (by omega)).mpr (by omega)) c_47
  | succ k ih =>
    intro j m hk hj hm hΦ
    refine jW.iload_n (dx_Line_isRule 22 (e := (39, .iload_n 3, 1)) rfl) rfl rfl (pc' := 40) rfl ?_
    refine jW.aload_n (dx_Line_isRule 23 (e := (40, .aload_n 0, 1)) rfl) rfl rfl (pc' := 41) rfl ?_
    refine jW.getf F f_Line_isRule_41 (by assumption) (by assumption) (pc' := 44) rfl ?_
    refine jW.callV F (e_Row_size F rfl (by decide) rfl hS) (dx_Line_isRule 25 (e := (44, .invokevirtual 22, 3)) rfl) can_Row_size jw_553 jw_372 (by assumption) rfl jw_373 rfl rfl (Nat.le_of_ble_eq_true rfl) (pc' := 47) rfl (fun r σ1 hr => ?_)
    obtain ⟨rfl, rfl⟩ := hr
    refine jW.icmp_ge (dx_Line_isRule 26 (e := (47, .if_icmp .ge 42, 3)) rfl) 89 (by decide) (pc' := 50) rfl (fun c_47 => ?_) (fun c_47 => ?_)
    · rw [List.drop_eq_nil_of_le ((nI_leI (by omega) (by omega)).mp c_47), List.countP_nil, Nat.add_zero] at hΦ
      refine jW.iload_n (dx_Line_isRule 45 (e := (89, .iload_n 2, 1)) rfl) rfl rfl (pc' := 90) rfl ?_
      refine jW.iconst (v := 3) (dx_Line_isRule 46 (e := (90, .iconst 3, 1)) rfl) (by decide) (pc' := 91) rfl ?_
      refine jW.icmp_lt (dx_Line_isRule 47 (e := (91, .if_icmp .lt 7, 3)) rfl) 98 (by decide) (pc' := 94) rfl (fun c_91 => ?_) (fun c_91 => ?_)
      · refine jW.iconst (v := 0) (dx_Line_isRule 50 (e := (98, .iconst 0, 1)) rfl) (by decide) (pc' := 99) rfl ?_
        refine jW.zret (dx_Line_isRule 51 (e := (99, .ireturn, 1)) rfl) rfl (by decide) ?_
        first
          | (have q9 : ¬ 3 ≤ m := fun q => absurd ((nI_ltI (b := 3) (by omega) (by omega)).mp c_91) (by omega)
             rw [bI_f (fun q => q9 q.2)] at hΦ
             exact hΦ)
          | (have q9 : 3 ≤ m := Nat.not_lt.mp (fun q => c_91 ((nI_ltI (b := 3) (by omega) (by omega)).mpr q))
             rw [bI_t ⟨rfl, q9⟩] at hΦ
             exact hΦ)
      · refine jW.iconst (v := 1) (dx_Line_isRule 48 (e := (94, .iconst 1, 1)) rfl) (by decide) (pc' := 95) rfl ?_
        refine jW.goto (dx_Line_isRule 49 (e := (95, .goto 4, 3)) rfl) 99 (by decide) ?_
        refine jW.zret (dx_Line_isRule 51 (e := (99, .ireturn, 1)) rfl) rfl (by decide) ?_
        first
          | (have q9 : ¬ 3 ≤ m := fun q => absurd ((nI_ltI (b := 3) (by omega) (by omega)).mp c_91) (by omega)
             rw [bI_f (fun q => q9 q.2)] at hΦ
             exact hΦ)
          | (have q9 : 3 ≤ m := Nat.not_lt.mp (fun q => c_91 ((nI_ltI (b := 3) (by omega) (by omega)).mpr q))
             rw [bI_t ⟨rfl, q9⟩] at hΦ
             exact hΦ)
    · refine jW.aload_n (dx_Line_isRule 27 (e := (50, .aload_n 0, 1)) rfl) rfl rfl (pc' := 51) rfl ?_
      refine jW.getf F f_Line_isRule_51 (by assumption) (by assumption) (pc' := 54) rfl ?_
      refine jW.iload_n (dx_Line_isRule 29 (e := (54, .iload_n 3, 1)) rfl) rfl rfl (pc' := 55) rfl ?_
      refine jW.callV F (e_Row_at F rfl (by decide) rfl hS _) (dx_Line_isRule 30 (e := (55, .invokevirtual 30, 3)) rfl) can_Row_at jw_555 jw_439 (by assumption) rfl jw_440 rfl rfl (Nat.le_of_ble_eq_true rfl) (pc' := 58) rfl (fun r σ1 hr => ?_)
      obtain ⟨rfl, rfl⟩ := hr
      refine jW.iload_n (dx_Line_isRule 31 (e := (58, .iload_n 1, 1)) rfl) rfl rfl (pc' := 59) rfl ?_
      refine jW.icmp_ne (dx_Line_isRule 32 (e := (59, .if_icmp .ne 9, 3)) rfl) 68 (by decide) (pc' := 62) rfl (fun c_59 => ?_) (fun c_59 => ?_)
      · refine jW.aload_n (dx_Line_isRule 35 (e := (68, .aload_n 0, 1)) rfl) rfl rfl (pc' := 69) rfl ?_
        refine jW.getf F f_Line_isRule_69 (by assumption) (by assumption) (pc' := 72) rfl ?_
        refine jW.iload_n (dx_Line_isRule 37 (e := (72, .iload_n 3, 1)) rfl) rfl rfl (pc' := 73) rfl ?_
        refine jW.callV F (e_Row_at F rfl (by decide) rfl hS _) (dx_Line_isRule 38 (e := (73, .invokevirtual 30, 3)) rfl) can_Row_at jw_555 jw_439 (by assumption) rfl jw_440 rfl rfl (Nat.le_of_ble_eq_true rfl) (pc' := 76) rfl (fun r σ1 hr => ?_)
        obtain ⟨rfl, rfl⟩ := hr
        refine jW.bipush (v := 32) (dx_Line_isRule 39 (e := (76, .bipush 32, 2)) rfl) (by decide) (pc' := 78) rfl ?_
        refine jW.icmp_eq (dx_Line_isRule 40 (e := (78, .if_icmp .eq 5, 3)) rfl) 83 (by decide) (pc' := 81) rfl (fun c_78 => ?_) (fun c_78 => ?_)
        · refine jW.iinc (v := nI (j + 1)) (dx_Line_isRule 43 (e := (83, .iinc 3 1, 3)) rfl) rfl (nI_1 j) (by decide) rfl (pc' := 86) rfl ?_
          refine jW.goto (dx_Line_isRule 44 (e := (86, .goto (-47), 3)) rfl) 39 (by decide) ?_
          have hlt : j < xs.length := Nat.not_le.mp (fun q => c_47 ((nI_leI (by omega) (by omega)).mpr q))
          rw [drop_at hlt (by omega), List.all_cons, List.countP_cons] at hΦ
          first
            | (refine ih (j + 1) (m + 1) (by omega) (by omega) (by omega) ?_
               rw [c_59] at hΦ
               simp only [beq_self_eq_true, Bool.true_or, Bool.true_and, if_true] at hΦ
               rw [show m + 1 + List.countP (fun z => z == c) (List.drop (j + 1) xs) = m + (List.countP (fun z => z == c) (List.drop (j + 1) xs) + 1) by omega]
               exact hΦ)
            | (refine ih (j + 1) m (by omega) (by omega) (by omega) ?_
               rw [c_78] at hΦ
               rw [show ((32 : Int32) == c) = false by simpa using fun q => hc q.symm] at hΦ
               simpa using hΦ)
        · have hlt : j < xs.length := Nat.not_le.mp (fun q => c_47 ((nI_leI (by omega) (by omega)).mpr q))
          rw [drop_at hlt (by omega), bI_f (fun q => by
            have q1 := q.1
            rw [List.all_cons, Bool.and_eq_true, Bool.or_eq_true] at q1
            rcases q1.1 with q2 | q2
            · exact c_59 (by simpa using q2)
            · exact c_78 (by simpa using q2))] at hΦ
          refine jW.iconst (v := 0) (dx_Line_isRule 41 (e := (81, .iconst 0, 1)) rfl) (by decide) (pc' := 82) rfl ?_
          refine jW.zret (dx_Line_isRule 42 (e := (82, .ireturn, 1)) rfl) rfl (by decide) ?_
          exact hΦ
      · refine jW.iinc (v := nI (m + 1)) (dx_Line_isRule 33 (e := (62, .iinc 2 1, 3)) rfl) rfl (nI_1 m) (by decide) rfl (pc' := 65) rfl ?_
        refine jW.goto (dx_Line_isRule 34 (e := (65, .goto 18, 3)) rfl) 83 (by decide) ?_
        refine jW.iinc (v := nI (j + 1)) (dx_Line_isRule 43 (e := (83, .iinc 3 1, 3)) rfl) rfl (nI_1 j) (by decide) rfl (pc' := 86) rfl ?_
        refine jW.goto (dx_Line_isRule 44 (e := (86, .goto (-47), 3)) rfl) 39 (by decide) ?_
        have hlt : j < xs.length := Nat.not_le.mp (fun q => c_47 ((nI_leI (by omega) (by omega)).mpr q))
        rw [drop_at hlt (by omega), List.all_cons, List.countP_cons] at hΦ
        first
          | (refine ih (j + 1) (m + 1) (by omega) (by omega) (by omega) ?_
             rw [c_59] at hΦ
             simp only [beq_self_eq_true, Bool.true_or, Bool.true_and, if_true] at hΦ
             rw [show m + 1 + List.countP (fun z => z == c) (List.drop (j + 1) xs) = m + (List.countP (fun z => z == c) (List.drop (j + 1) xs) + 1) by omega]
             exact hΦ)
          | (refine ih (j + 1) m (by omega) (by omega) (by omega) ?_
             rw [c_78] at hΦ
             rw [show ((32 : Int32) == c) = false by simpa using fun q => hc q.symm] at hΦ
             simpa using hΦ)
/-- a rule at i, as a truth value -/
def rlB (xs : List Int32) (i : Nat) : Bool := (rowAt xs (nI i) == 42 || rowAt xs (nI i) == 45 || rowAt xs (nI i) == 95) && (xs.drop i).all (fun z => z == rowAt xs (nI i) || z == 32) && decide (3 ≤ (xs.drop i).countP (fun z => z == rowAt xs (nI i)))
theorem rlB_eq {xs : List Int32} {i : Nat} (h : rowAt xs (nI i) = 42 ∨ rowAt xs (nI i) = 45 ∨ rowAt xs (nI i) = 95) : bI ((xs.drop i).all (fun z => z == rowAt xs (nI i) || z == 32) = true ∧ 3 ≤ 0 + (xs.drop i).countP (fun z => z == rowAt xs (nI i))) = bI (rlB xs i = true) := by
  have e : ((xs.drop i).all (fun z => z == rowAt xs (nI i) || z == 32) = true ∧ 3 ≤ 0 + (xs.drop i).countP (fun z => z == rowAt xs (nI i))) ↔ rlB xs i = true := by
    unfold rlB
    rw [Bool.and_eq_true, Bool.and_eq_true, decide_eq_true_eq, Nat.zero_add]
    constructor
    · intro q
      exact ⟨⟨by rcases h with h | h | h <;> rw [h] <;> decide, q.1⟩, q.2⟩
    · intro q
      exact ⟨q.1.2, q.2⟩
  by_cases q : rlB xs i = true
  · rw [bI_t q, bI_t (e.mpr q)]
  · rw [bI_f q, bI_f (fun z => q (e.mp z))]
theorem e_Line_isRule (F : jOK s0 jcl D cA lw_tbl a0 jty) (h : LineAt s0.heap.size σ a sg n xs ta pl id ms ml mn) : jE l s0 jcl D cA (d + 2) y_Line_isRule [.ref a] σ (fun r σ' => r = some (.int (bI (rlB xs (pl + id) = true))) ∧ σ' = σ) := by
  have hL0 := h
  obtain ⟨⟨v, h1, h2, h3, h4, h5, h6, h7, h8, h9⟩, hS, b1, b2, b3, b4, b5⟩ := h
  obtain ⟨vt, ht⟩ := hS.cell
  have bsp := fun i => spF_le (i := i) b1
  have bsm := fun i => smF_le (i := i) b1
  have b9 := bsm (pl + id)
  refine jE.of (by decide) (by simp [Value.category]) (Nat.le_of_ble_eq_true rfl) rfl ?_
  refine jW.aload_n (dx_Line_isRule 0 (e := (0, .aload_n 0, 1)) rfl) rfl rfl (pc' := 1) rfl ?_
  refine jW.getf F f_Line_isRule_1 (by assumption) (by assumption) (pc' := 4) rfl ?_
  refine jW.aload_n (dx_Line_isRule 2 (e := (4, .aload_n 0, 1)) rfl) rfl rfl (pc' := 5) rfl ?_
  refine jW.callV F (e_Line_start F hL0) (dx_Line_isRule 3 (e := (5, .invokevirtual 49, 3)) rfl) can_Line_start jw_590 jw_591 (by assumption) rfl jw_592 rfl rfl (Nat.le_of_ble_eq_true rfl) (pc' := 8) rfl (fun r σ1 hr => ?_)
  obtain ⟨rfl, rfl⟩ := hr
  refine jW.callV F (e_Row_at F rfl (by decide) rfl hS _) (dx_Line_isRule 4 (e := (8, .invokevirtual 30, 3)) rfl) can_Row_at jw_555 jw_439 (by assumption) rfl jw_440 rfl rfl (Nat.le_of_ble_eq_true rfl) (pc' := 11) rfl (fun r σ1 hr => ?_)
  obtain ⟨rfl, rfl⟩ := hr
  refine jW.istore_n (dx_Line_isRule 5 (e := (11, .istore_n 1, 1)) rfl) rfl (by decide) rfl (pc' := 12) rfl ?_
  refine jW.iload_n (dx_Line_isRule 6 (e := (12, .iload_n 1, 1)) rfl) rfl rfl (pc' := 13) rfl ?_
  refine jW.bipush (v := 42) (dx_Line_isRule 7 (e := (13, .bipush 42, 2)) rfl) (by decide) (pc' := 15) rfl ?_
  refine jW.icmp_eq (dx_Line_isRule 8 (e := (15, .if_icmp .eq 17, 3)) rfl) 32 (by decide) (pc' := 18) rfl (fun c_15 => ?_) (fun c_15 => ?_)
  · refine jW.iconst (v := 0) (dx_Line_isRule 17 (e := (32, .iconst 0, 1)) rfl) (by decide) (pc' := 33) rfl ?_
    refine jW.istore_n (dx_Line_isRule 18 (e := (33, .istore_n 2, 1)) rfl) rfl (by decide) rfl (pc' := 34) rfl ?_
    refine jW.aload_n (dx_Line_isRule 19 (e := (34, .aload_n 0, 1)) rfl) rfl rfl (pc' := 35) rfl ?_
    refine jW.callV F (e_Line_start F hL0) (dx_Line_isRule 20 (e := (35, .invokevirtual 49, 3)) rfl) can_Line_start jw_590 jw_591 (by assumption) rfl jw_592 rfl rfl (Nat.le_of_ble_eq_true rfl) (pc' := 38) rfl (fun r σ1 hr => ?_)
    obtain ⟨rfl, rfl⟩ := hr
    refine jW.istore_n (dx_Line_isRule 21 (e := (38, .istore_n 3, 1)) rfl) rfl (by decide) rfl (pc' := 39) rfl ?_
    first
      | exact e_rule39 F hL0 (by rw [c_15]; decide) xs.length _ 0 (by omega) (by omega) (Nat.zero_le _) ⟨by rw [rlB_eq (Or.inl c_15)], rfl⟩
      | exact e_rule39 F hL0 (by rw [c_21]; decide) xs.length _ 0 (by omega) (by omega) (Nat.zero_le _) ⟨by rw [rlB_eq (Or.inr (Or.inl c_21))], rfl⟩
      | exact e_rule39 F hL0 (by rw [c_27]; decide) xs.length _ 0 (by omega) (by omega) (Nat.zero_le _) ⟨by rw [rlB_eq (Or.inr (Or.inr c_27))], rfl⟩
  · refine jW.iload_n (dx_Line_isRule 9 (e := (18, .iload_n 1, 1)) rfl) rfl rfl (pc' := 19) rfl ?_
    refine jW.bipush (v := 45) (dx_Line_isRule 10 (e := (19, .bipush 45, 2)) rfl) (by decide) (pc' := 21) rfl ?_
    refine jW.icmp_eq (dx_Line_isRule 11 (e := (21, .if_icmp .eq 11, 3)) rfl) 32 (by decide) (pc' := 24) rfl (fun c_21 => ?_) (fun c_21 => ?_)
    · refine jW.iconst (v := 0) (dx_Line_isRule 17 (e := (32, .iconst 0, 1)) rfl) (by decide) (pc' := 33) rfl ?_
      refine jW.istore_n (dx_Line_isRule 18 (e := (33, .istore_n 2, 1)) rfl) rfl (by decide) rfl (pc' := 34) rfl ?_
      refine jW.aload_n (dx_Line_isRule 19 (e := (34, .aload_n 0, 1)) rfl) rfl rfl (pc' := 35) rfl ?_
      refine jW.callV F (e_Line_start F hL0) (dx_Line_isRule 20 (e := (35, .invokevirtual 49, 3)) rfl) can_Line_start jw_590 jw_591 (by assumption) rfl jw_592 rfl rfl (Nat.le_of_ble_eq_true rfl) (pc' := 38) rfl (fun r σ1 hr => ?_)
      obtain ⟨rfl, rfl⟩ := hr
      refine jW.istore_n (dx_Line_isRule 21 (e := (38, .istore_n 3, 1)) rfl) rfl (by decide) rfl (pc' := 39) rfl ?_
      first
        | exact e_rule39 F hL0 (by rw [c_15]; decide) xs.length _ 0 (by omega) (by omega) (Nat.zero_le _) ⟨by rw [rlB_eq (Or.inl c_15)], rfl⟩
        | exact e_rule39 F hL0 (by rw [c_21]; decide) xs.length _ 0 (by omega) (by omega) (Nat.zero_le _) ⟨by rw [rlB_eq (Or.inr (Or.inl c_21))], rfl⟩
        | exact e_rule39 F hL0 (by rw [c_27]; decide) xs.length _ 0 (by omega) (by omega) (Nat.zero_le _) ⟨by rw [rlB_eq (Or.inr (Or.inr c_27))], rfl⟩
    · refine jW.iload_n (dx_Line_isRule 12 (e := (24, .iload_n 1, 1)) rfl) rfl rfl (pc' := 25) rfl ?_
      refine jW.bipush (v := 95) (dx_Line_isRule 13 (e := (25, .bipush 95, 2)) rfl) (by decide) (pc' := 27) rfl ?_
      refine jW.icmp_eq (dx_Line_isRule 14 (e := (27, .if_icmp .eq 5, 3)) rfl) 32 (by decide) (pc' := 30) rfl (fun c_27 => ?_) (fun c_27 => ?_)
      · refine jW.iconst (v := 0) (dx_Line_isRule 17 (e := (32, .iconst 0, 1)) rfl) (by decide) (pc' := 33) rfl ?_
        refine jW.istore_n (dx_Line_isRule 18 (e := (33, .istore_n 2, 1)) rfl) rfl (by decide) rfl (pc' := 34) rfl ?_
        refine jW.aload_n (dx_Line_isRule 19 (e := (34, .aload_n 0, 1)) rfl) rfl rfl (pc' := 35) rfl ?_
        refine jW.callV F (e_Line_start F hL0) (dx_Line_isRule 20 (e := (35, .invokevirtual 49, 3)) rfl) can_Line_start jw_590 jw_591 (by assumption) rfl jw_592 rfl rfl (Nat.le_of_ble_eq_true rfl) (pc' := 38) rfl (fun r σ1 hr => ?_)
        obtain ⟨rfl, rfl⟩ := hr
        refine jW.istore_n (dx_Line_isRule 21 (e := (38, .istore_n 3, 1)) rfl) rfl (by decide) rfl (pc' := 39) rfl ?_
        first
          | exact e_rule39 F hL0 (by rw [c_15]; decide) xs.length _ 0 (by omega) (by omega) (Nat.zero_le _) ⟨by rw [rlB_eq (Or.inl c_15)], rfl⟩
          | exact e_rule39 F hL0 (by rw [c_21]; decide) xs.length _ 0 (by omega) (by omega) (Nat.zero_le _) ⟨by rw [rlB_eq (Or.inr (Or.inl c_21))], rfl⟩
          | exact e_rule39 F hL0 (by rw [c_27]; decide) xs.length _ 0 (by omega) (by omega) (Nat.zero_le _) ⟨by rw [rlB_eq (Or.inr (Or.inr c_27))], rfl⟩
      · refine jW.iconst (v := 0) (dx_Line_isRule 15 (e := (30, .iconst 0, 1)) rfl) (by decide) (pc' := 31) rfl ?_
        refine jW.zret (dx_Line_isRule 16 (e := (31, .ireturn, 1)) rfl) rfl (by decide) ?_
        exact ⟨bI_fe (fun q => by
          unfold rlB at q
          rw [Bool.and_eq_true, Bool.and_eq_true, Bool.or_eq_true, Bool.or_eq_true] at q
          rcases q.1.1 with (q | q) | q
          · exact c_15 (by simpa using q)
          · exact c_21 (by simpa using q)
          · exact c_27 (by simpa using q)), rfl⟩
theorem e_Line_rewind (F : jOK s0 jcl D cA lw_tbl a0 jty) (hI : jI s0.heap.size σ) (h : LineAt s0.heap.size σ a sg n xs ta pl id ms ml mn) : jE l s0 jcl D cA d y_Line_rewind [.ref a] σ (fun r σ' => r = none ∧ jI s0.heap.size σ' ∧ jK [5] σ σ' ∧ σ'.2 = σ.2 ∧ LineAt s0.heap.size σ' a sg n xs 0 pl id ms ml mn) := by
  have hL0 := h
  obtain ⟨⟨v, h1, h2, h3, h4, h5, h6, h7, h8, h9⟩, hS, b1, b2, b3, b4, b5⟩ := h
  obtain ⟨vt, ht⟩ := hS.cell
  refine jE.of (by decide) (by simp [Value.category]) (Nat.le_of_ble_eq_true rfl) rfl ?_
  refine jW.aload_n (dx_Line_rewind 0 (e := (0, .aload_n 0, 1)) rfl) rfl rfl (pc' := 1) rfl ?_
  refine jW.iconst (v := 0) (dx_Line_rewind 1 (e := (1, .iconst 0, 1)) rfl) (by decide) (pc' := 2) rfl ?_
  refine jW.putf F f_Line_rewind_2 rfl jF_Line jTab_Line rfl (by assumption) (by assumption) rfl rfl rfl (pc' := 5) rfl ?_
  refine jW.vret (dx_Line_rewind 3 (e := (5, .return_, 1)) rfl) rfl ?_
  refine ⟨rfl, hI.put h1, jK.put h1 (by simp), rfl, ⟨_, jput_at _ _ _, ?_, updV_at _ _ _, ?_, ?_, ?_, ?_, ?_, h9⟩, hS.keep (jK.put (ks := [5]) h1 (by simp)) (by decide) (by decide), b1, Nat.zero_le _, b3, b4, b5⟩
  · rw [updV_ne (by decide)]; exact h2
  · rw [updV_ne (by decide)]; exact h4
  · rw [updV_ne (by decide)]; exact h5
  · rw [updV_ne (by decide)]; exact h6
  · rw [updV_ne (by decide)]; exact h7
  · rw [updV_ne (by decide)]; exact h8
end LINE4
