/-- the level of a row of = or - at i; 0 without -/
def ulLv (xs : List Int32) (i : Nat) : Nat := if (rowAt xs (nI i) = 61 ∨ rowAt xs (nI i) = 45) ∧ blF xs (i + smF xs i) then (if rowAt xs (nI i) = 61 then 1 else 2) else 0
/-- a fence's length at i; 0 without one -/
def fnLn (xs : List Int32) (i : Nat) : Nat := if rowAt xs (nI i) = 96 ∨ rowAt xs (nI i) = 126 then (if rowAt xs (nI i) = 96 ∧ (xs.drop (i + smF xs i)).any (fun z => z == 96) = true then 0 else if 3 ≤ smF xs i then smF xs i else 0) else 0
/-- a rule at i -/
def isRl (xs : List Int32) (i : Nat) : Prop := (rowAt xs (nI i) = 42 ∨ rowAt xs (nI i) = 45 ∨ rowAt xs (nI i) = 95) ∧ (xs.drop i).all (fun z => z == rowAt xs (nI i) || z == 32) = true ∧ 3 ≤ (xs.drop i).countP (fun z => z == rowAt xs (nI i))
theorem drop_at {xs : List Int32} {j : Nat} (h : j < xs.length) (h2 : j < 2 ^ 31) : xs.drop j = rowAt xs (nI j) :: xs.drop (j + 1) := by
  have := rowAt_some h h2
  obtain ⟨h1, h2⟩ := List.getElem?_eq_some_iff.mp this
  rw [List.drop_eq_getElem_cons h1, h2]
theorem bI_fe {p : Prop} [Decidable p] (h : ¬ p) : some (Value.int 0) = some (Value.int (bI p)) := by rw [bI_f h]
theorem bI_te {p : Prop} [Decidable p] (h : p) : some (Value.int 1) = some (Value.int (bI p)) := by rw [bI_t h]
theorem bI_0 {p : Prop} [Decidable p] (h : bI p = 0) : ¬ p := fun q => by rw [bI_t q] at h; exact absurd h (by decide)
theorem bI_n0 {p : Prop} [Decidable p] (h : ¬ bI p = 0) : p := Decidable.byContradiction (fun q => h (bI_f q))
section LINE3
variable {l : Launch} {s0 : State} {D : va_G} {cA : Nat → ClassId} {a0 : Array Value} {d : Nat} {σ : jS} {a sg n ta pl id ml : Nat} {xs : List Int32} {ms mn : Int32}
theorem e_Line_underlineLevel (F : jOK s0 jcl D cA lw_tbl a0 jty) (h : LineAt s0.heap.size σ a sg n xs ta pl id ms ml mn) : jE l s0 jcl D cA (d + 3) y_Line_underlineLevel [.ref a] σ (fun r σ' => r = some (.int (nI (ulLv xs (pl + id)))) ∧ σ' = σ) := by
  have hL0 := h
  obtain ⟨⟨v, h1, h2, h3, h4, h5, h6, h7, h8, h9⟩, hS, b1, b2, b3, b4, b5⟩ := h
  obtain ⟨vt, ht⟩ := hS.cell
  have bsp := fun i => spF_le (i := i) b1
  have bsm := fun i => smF_le (i := i) b1
  have b9 := bsm (pl + id)
  refine jE.of (by decide) (by simp [Value.category]) (Nat.le_of_ble_eq_true rfl) rfl ?_
  refine jW.aload_n (dx_Line_underlineLevel 0 (e := (0, .aload_n 0, 1)) rfl) rfl rfl (pc' := 1) rfl ?_
  refine jW.getf F f_Line_underlineLevel_1 (by assumption) (by assumption) (pc' := 4) rfl ?_
  refine jW.aload_n (dx_Line_underlineLevel 2 (e := (4, .aload_n 0, 1)) rfl) rfl rfl (pc' := 5) rfl ?_
  refine jW.callV F (e_Line_start F hL0) (dx_Line_underlineLevel 3 (e := (5, .invokevirtual 49, 3)) rfl) can_Line_start jw_590 jw_591 (by assumption) rfl jw_592 rfl rfl (Nat.le_of_ble_eq_true rfl) (pc' := 8) rfl (fun r σ1 hr => ?_)
  obtain ⟨rfl, rfl⟩ := hr
  refine jW.callV F (e_Row_at F rfl (by decide) rfl hS _) (dx_Line_underlineLevel 4 (e := (8, .invokevirtual 30, 3)) rfl) can_Row_at jw_555 jw_439 (by assumption) rfl jw_440 rfl rfl (Nat.le_of_ble_eq_true rfl) (pc' := 11) rfl (fun r σ1 hr => ?_)
  obtain ⟨rfl, rfl⟩ := hr
  refine jW.istore_n (dx_Line_underlineLevel 5 (e := (11, .istore_n 1, 1)) rfl) rfl (by decide) rfl (pc' := 12) rfl ?_
  refine jW.iload_n (dx_Line_underlineLevel 6 (e := (12, .iload_n 1, 1)) rfl) rfl rfl (pc' := 13) rfl ?_
  refine jW.bipush (v := 61) (dx_Line_underlineLevel 7 (e := (13, .bipush 61, 2)) rfl) (by decide) (pc' := 15) rfl ?_
  refine jW.icmp_eq (dx_Line_underlineLevel 8 (e := (15, .if_icmp .eq 9, 3)) rfl) 24 (by decide) (pc' := 18) rfl (fun c_15 => ?_) (fun c_15 => ?_)
  · refine jW.aload_n (dx_Line_underlineLevel 12 (e := (24, .aload_n 0, 1)) rfl) rfl rfl (pc' := 25) rfl ?_
    refine jW.aload_n (dx_Line_underlineLevel 13 (e := (25, .aload_n 0, 1)) rfl) rfl rfl (pc' := 26) rfl ?_
    refine jW.callV F (e_Line_start F hL0) (dx_Line_underlineLevel 14 (e := (26, .invokevirtual 49, 3)) rfl) can_Line_start jw_590 jw_591 (by assumption) rfl jw_592 rfl rfl (Nat.le_of_ble_eq_true rfl) (pc' := 29) rfl (fun r σ1 hr => ?_)
    obtain ⟨rfl, rfl⟩ := hr
    refine jW.aload_n (dx_Line_underlineLevel 15 (e := (29, .aload_n 0, 1)) rfl) rfl rfl (pc' := 30) rfl ?_
    refine jW.aload_n (dx_Line_underlineLevel 16 (e := (30, .aload_n 0, 1)) rfl) rfl rfl (pc' := 31) rfl ?_
    refine jW.callV F (e_Line_start F hL0) (dx_Line_underlineLevel 17 (e := (31, .invokevirtual 49, 3)) rfl) can_Line_start jw_590 jw_591 (by assumption) rfl jw_592 rfl rfl (Nat.le_of_ble_eq_true rfl) (pc' := 34) rfl (fun r σ1 hr => ?_)
    obtain ⟨rfl, rfl⟩ := hr
    refine jW.callV F (e_Line_sameFrom F hL0 (by omega)) (dx_Line_underlineLevel 18 (e := (34, .invokevirtual 65, 3)) rfl) can_Line_sameFrom jw_623 jw_625 (by assumption) rfl sel_Line_sameFrom rfl rfl (Nat.le_of_ble_eq_true rfl) (pc' := 37) rfl (fun r σ1 hr => ?_)
    obtain ⟨rfl, rfl⟩ := hr
    refine jW.iadd (dx_Line_underlineLevel 19 (e := (37, .iadd, 1)) rfl) (pc' := 38) rfl ?_
    rw [nI_add]
    refine jW.callV F (e_Line_isBlankFrom F hL0 (by omega)) (dx_Line_underlineLevel 20 (e := (38, .invokevirtual 72, 3)) rfl) can_Line_isBlankFrom jw_627 jw_629 (by assumption) rfl sel_Line_isBlankFrom rfl rfl (Nat.le_of_ble_eq_true rfl) (pc' := 41) rfl (fun r σ1 hr => ?_)
    obtain ⟨rfl, rfl⟩ := hr
    refine jW.if_ne (dx_Line_underlineLevel 21 (e := (41, .ifCond .ne 5, 3)) rfl) 46 (by decide) (pc' := 44) rfl (fun c_41 => ?_) (fun c_41 => ?_)
    · refine jW.iload_n (dx_Line_underlineLevel 24 (e := (46, .iload_n 1, 1)) rfl) rfl rfl (pc' := 47) rfl ?_
      refine jW.bipush (v := 61) (dx_Line_underlineLevel 25 (e := (47, .bipush 61, 2)) rfl) (by decide) (pc' := 49) rfl ?_
      refine jW.icmp_ne (dx_Line_underlineLevel 26 (e := (49, .if_icmp .ne 7, 3)) rfl) 56 (by decide) (pc' := 52) rfl (fun c_49 => ?_) (fun c_49 => ?_)
      · refine jW.iconst (v := 2) (dx_Line_underlineLevel 29 (e := (56, .iconst 2, 1)) rfl) (by decide) (pc' := 57) rfl ?_
        refine jW.iret (dx_Line_underlineLevel 30 (e := (57, .ireturn, 1)) rfl) rfl ?_
        first
          | (refine ⟨?_, rfl⟩
             unfold ulLv
             first
               | (rw [if_pos ⟨Or.inl c_15, bI_n0 c_41⟩, if_pos c_15]; done)
               | (rw [if_pos ⟨Or.inr c_21, bI_n0 c_41⟩, if_neg c_15]; done)
               | (rw [if_neg (fun q => bI_0 c_41 q.2)]; rfl)
               | (rw [if_neg (fun q => by rcases q.1 with q | q; exact c_15 q; exact c_21 q)]; rfl)
               | (rw [if_pos ⟨Or.inl c_15, bI_n0 c_41⟩, if_pos c_15]; rfl)
               | (rw [if_pos ⟨Or.inr c_21, bI_n0 c_41⟩, if_neg c_15]; rfl))
          | exact absurd c_15 c_49
          | exact absurd c_49 c_15
      · refine jW.iconst (v := 1) (dx_Line_underlineLevel 27 (e := (52, .iconst 1, 1)) rfl) (by decide) (pc' := 53) rfl ?_
        refine jW.goto (dx_Line_underlineLevel 28 (e := (53, .goto 4, 3)) rfl) 57 (by decide) ?_
        refine jW.iret (dx_Line_underlineLevel 30 (e := (57, .ireturn, 1)) rfl) rfl ?_
        first
          | (refine ⟨?_, rfl⟩
             unfold ulLv
             first
               | (rw [if_pos ⟨Or.inl c_15, bI_n0 c_41⟩, if_pos c_15]; done)
               | (rw [if_pos ⟨Or.inr c_21, bI_n0 c_41⟩, if_neg c_15]; done)
               | (rw [if_neg (fun q => bI_0 c_41 q.2)]; rfl)
               | (rw [if_neg (fun q => by rcases q.1 with q | q; exact c_15 q; exact c_21 q)]; rfl)
               | (rw [if_pos ⟨Or.inl c_15, bI_n0 c_41⟩, if_pos c_15]; rfl)
               | (rw [if_pos ⟨Or.inr c_21, bI_n0 c_41⟩, if_neg c_15]; rfl))
          | exact absurd c_15 c_49
          | exact absurd c_49 c_15
    · refine jW.iconst (v := 0) (dx_Line_underlineLevel 22 (e := (44, .iconst 0, 1)) rfl) (by decide) (pc' := 45) rfl ?_
      refine jW.iret (dx_Line_underlineLevel 23 (e := (45, .ireturn, 1)) rfl) rfl ?_
      first
        | (refine ⟨?_, rfl⟩
           unfold ulLv
           first
             | (rw [if_pos ⟨Or.inl c_15, bI_n0 c_41⟩, if_pos c_15]; done)
             | (rw [if_pos ⟨Or.inr c_21, bI_n0 c_41⟩, if_neg c_15]; done)
             | (rw [if_neg (fun q => bI_0 c_41 q.2)]; rfl)
             | (rw [if_neg (fun q => by rcases q.1 with q | q; exact c_15 q; exact c_21 q)]; rfl)
             | (rw [if_pos ⟨Or.inl c_15, bI_n0 c_41⟩, if_pos c_15]; rfl)
             | (rw [if_pos ⟨Or.inr c_21, bI_n0 c_41⟩, if_neg c_15]; rfl))
        | exact absurd c_15 c_49
        | exact absurd c_49 c_15
  · refine jW.iload_n (dx_Line_underlineLevel 9 (e := (18, .iload_n 1, 1)) rfl) rfl rfl (pc' := 19) rfl ?_
    refine jW.bipush (v := 45) (dx_Line_underlineLevel 10 (e := (19, .bipush 45, 2)) rfl) (by decide) (pc' := 21) rfl ?_
    refine jW.icmp_ne (dx_Line_underlineLevel 11 (e := (21, .if_icmp .ne 23, 3)) rfl) 44 (by decide) (pc' := 24) rfl (fun c_21 => ?_) (fun c_21 => ?_)
    · refine jW.iconst (v := 0) (dx_Line_underlineLevel 22 (e := (44, .iconst 0, 1)) rfl) (by decide) (pc' := 45) rfl ?_
      refine jW.iret (dx_Line_underlineLevel 23 (e := (45, .ireturn, 1)) rfl) rfl ?_
      first
        | (refine ⟨?_, rfl⟩
           unfold ulLv
           first
             | (rw [if_pos ⟨Or.inl c_15, bI_n0 c_41⟩, if_pos c_15]; done)
             | (rw [if_pos ⟨Or.inr c_21, bI_n0 c_41⟩, if_neg c_15]; done)
             | (rw [if_neg (fun q => bI_0 c_41 q.2)]; rfl)
             | (rw [if_neg (fun q => by rcases q.1 with q | q; exact c_15 q; exact c_21 q)]; rfl)
             | (rw [if_pos ⟨Or.inl c_15, bI_n0 c_41⟩, if_pos c_15]; rfl)
             | (rw [if_pos ⟨Or.inr c_21, bI_n0 c_41⟩, if_neg c_15]; rfl))
        | exact absurd c_15 c_49
        | exact absurd c_49 c_15
    · refine jW.aload_n (dx_Line_underlineLevel 12 (e := (24, .aload_n 0, 1)) rfl) rfl rfl (pc' := 25) rfl ?_
      refine jW.aload_n (dx_Line_underlineLevel 13 (e := (25, .aload_n 0, 1)) rfl) rfl rfl (pc' := 26) rfl ?_
      refine jW.callV F (e_Line_start F hL0) (dx_Line_underlineLevel 14 (e := (26, .invokevirtual 49, 3)) rfl) can_Line_start jw_590 jw_591 (by assumption) rfl jw_592 rfl rfl (Nat.le_of_ble_eq_true rfl) (pc' := 29) rfl (fun r σ1 hr => ?_)
      obtain ⟨rfl, rfl⟩ := hr
      refine jW.aload_n (dx_Line_underlineLevel 15 (e := (29, .aload_n 0, 1)) rfl) rfl rfl (pc' := 30) rfl ?_
      refine jW.aload_n (dx_Line_underlineLevel 16 (e := (30, .aload_n 0, 1)) rfl) rfl rfl (pc' := 31) rfl ?_
      refine jW.callV F (e_Line_start F hL0) (dx_Line_underlineLevel 17 (e := (31, .invokevirtual 49, 3)) rfl) can_Line_start jw_590 jw_591 (by assumption) rfl jw_592 rfl rfl (Nat.le_of_ble_eq_true rfl) (pc' := 34) rfl (fun r σ1 hr => ?_)
      obtain ⟨rfl, rfl⟩ := hr
      refine jW.callV F (e_Line_sameFrom F hL0 (by omega)) (dx_Line_underlineLevel 18 (e := (34, .invokevirtual 65, 3)) rfl) can_Line_sameFrom jw_623 jw_625 (by assumption) rfl sel_Line_sameFrom rfl rfl (Nat.le_of_ble_eq_true rfl) (pc' := 37) rfl (fun r σ1 hr => ?_)
      obtain ⟨rfl, rfl⟩ := hr
      refine jW.iadd (dx_Line_underlineLevel 19 (e := (37, .iadd, 1)) rfl) (pc' := 38) rfl ?_
      rw [nI_add]
      refine jW.callV F (e_Line_isBlankFrom F hL0 (by omega)) (dx_Line_underlineLevel 20 (e := (38, .invokevirtual 72, 3)) rfl) can_Line_isBlankFrom jw_627 jw_629 (by assumption) rfl sel_Line_isBlankFrom rfl rfl (Nat.le_of_ble_eq_true rfl) (pc' := 41) rfl (fun r σ1 hr => ?_)
      obtain ⟨rfl, rfl⟩ := hr
      refine jW.if_ne (dx_Line_underlineLevel 21 (e := (41, .ifCond .ne 5, 3)) rfl) 46 (by decide) (pc' := 44) rfl (fun c_41 => ?_) (fun c_41 => ?_)
      · refine jW.iload_n (dx_Line_underlineLevel 24 (e := (46, .iload_n 1, 1)) rfl) rfl rfl (pc' := 47) rfl ?_
        refine jW.bipush (v := 61) (dx_Line_underlineLevel 25 (e := (47, .bipush 61, 2)) rfl) (by decide) (pc' := 49) rfl ?_
        refine jW.icmp_ne (dx_Line_underlineLevel 26 (e := (49, .if_icmp .ne 7, 3)) rfl) 56 (by decide) (pc' := 52) rfl (fun c_49 => ?_) (fun c_49 => ?_)
        · refine jW.iconst (v := 2) (dx_Line_underlineLevel 29 (e := (56, .iconst 2, 1)) rfl) (by decide) (pc' := 57) rfl ?_
          refine jW.iret (dx_Line_underlineLevel 30 (e := (57, .ireturn, 1)) rfl) rfl ?_
          first
            | (refine ⟨?_, rfl⟩
               unfold ulLv
               first
                 | (rw [if_pos ⟨Or.inl c_15, bI_n0 c_41⟩, if_pos c_15]; done)
                 | (rw [if_pos ⟨Or.inr c_21, bI_n0 c_41⟩, if_neg c_15]; done)
                 | (rw [if_neg (fun q => bI_0 c_41 q.2)]; rfl)
                 | (rw [if_neg (fun q => by rcases q.1 with q | q; exact c_15 q; exact c_21 q)]; rfl)
                 | (rw [if_pos ⟨Or.inl c_15, bI_n0 c_41⟩, if_pos c_15]; rfl)
                 | (rw [if_pos ⟨Or.inr c_21, bI_n0 c_41⟩, if_neg c_15]; rfl))
            | exact absurd c_15 c_49
            | exact absurd c_49 c_15
        · refine jW.iconst (v := 1) (dx_Line_underlineLevel 27 (e := (52, .iconst 1, 1)) rfl) (by decide) (pc' := 53) rfl ?_
          refine jW.goto (dx_Line_underlineLevel 28 (e := (53, .goto 4, 3)) rfl) 57 (by decide) ?_
          refine jW.iret (dx_Line_underlineLevel 30 (e := (57, .ireturn, 1)) rfl) rfl ?_
          first
            | (refine ⟨?_, rfl⟩
               unfold ulLv
               first
                 | (rw [if_pos ⟨Or.inl c_15, bI_n0 c_41⟩, if_pos c_15]; done)
                 | (rw [if_pos ⟨Or.inr c_21, bI_n0 c_41⟩, if_neg c_15]; done)
                 | (rw [if_neg (fun q => bI_0 c_41 q.2)]; rfl)
                 | (rw [if_neg (fun q => by rcases q.1 with q | q; exact c_15 q; exact c_21 q)]; rfl)
                 | (rw [if_pos ⟨Or.inl c_15, bI_n0 c_41⟩, if_pos c_15]; rfl)
                 | (rw [if_pos ⟨Or.inr c_21, bI_n0 c_41⟩, if_neg c_15]; rfl))
            | exact absurd c_15 c_49
            | exact absurd c_49 c_15
      · refine jW.iconst (v := 0) (dx_Line_underlineLevel 22 (e := (44, .iconst 0, 1)) rfl) (by decide) (pc' := 45) rfl ?_
        refine jW.iret (dx_Line_underlineLevel 23 (e := (45, .ireturn, 1)) rfl) rfl ?_
        first
          | (refine ⟨?_, rfl⟩
             unfold ulLv
             first
               | (rw [if_pos ⟨Or.inl c_15, bI_n0 c_41⟩, if_pos c_15]; done)
               | (rw [if_pos ⟨Or.inr c_21, bI_n0 c_41⟩, if_neg c_15]; done)
               | (rw [if_neg (fun q => bI_0 c_41 q.2)]; rfl)
               | (rw [if_neg (fun q => by rcases q.1 with q | q; exact c_15 q; exact c_21 q)]; rfl)
               | (rw [if_pos ⟨Or.inl c_15, bI_n0 c_41⟩, if_pos c_15]; rfl)
               | (rw [if_pos ⟨Or.inr c_21, bI_n0 c_41⟩, if_neg c_15]; rfl))
          | exact absurd c_15 c_49
          | exact absurd c_49 c_15
theorem e_Line_endsFence (F : jOK s0 jcl D cA lw_tbl a0 jty) (h : LineAt s0.heap.size σ a sg n xs ta pl id ms ml mn) (sn fl : Int32) : jE l s0 jcl D cA (d + 3) y_Line_endsFence [.ref a, .int sn, .int fl] σ (fun r σ' => r = some (.int (bI (id < 4 ∧ rowAt xs (nI (pl + id)) = sn ∧ ¬ nI (smF xs (pl + id)) < fl ∧ blF xs (pl + id + smF xs (pl + id))))) ∧ σ' = σ) := by
  have hL0 := h
  obtain ⟨⟨v, h1, h2, h3, h4, h5, h6, h7, h8, h9⟩, hS, b1, b2, b3, b4, b5⟩ := h
  obtain ⟨vt, ht⟩ := hS.cell
  have bsp := fun i => spF_le (i := i) b1
  have bsm := fun i => smF_le (i := i) b1
  have b9 := bsm (pl + id)
  refine jE.of (by decide) (by simp [Value.category]) (Nat.le_of_ble_eq_true rfl) rfl ?_
  refine jW.aload_n (dx_Line_endsFence 0 (e := (0, .aload_n 0, 1)) rfl) rfl rfl (pc' := 1) rfl ?_
  refine jW.callV F (e_Line_isTooFar F hL0) (dx_Line_endsFence 1 (e := (1, .invokevirtual 58, 3)) rfl) can_Line_isTooFar jw_586 jw_587 (by assumption) rfl jw_588 rfl rfl (Nat.le_of_ble_eq_true rfl) (pc' := 4) rfl (fun r σ1 hr => ?_)
  obtain ⟨rfl, rfl⟩ := hr
  refine jW.if_ne (dx_Line_endsFence 2 (e := (4, .ifCond .ne 18, 3)) rfl) 22 (by decide) (pc' := 7) rfl (fun c_4 => ?_) (fun c_4 => ?_)
  · refine jW.iconst (v := 0) (dx_Line_endsFence 10 (e := (22, .iconst 0, 1)) rfl) (by decide) (pc' := 23) rfl ?_
    refine jW.zret (dx_Line_endsFence 11 (e := (23, .ireturn, 1)) rfl) rfl (by decide) ?_
    first
      | exact ⟨bI_fe (fun q => absurd (bI_n0 c_4) (by omega)), rfl⟩
      | exact ⟨bI_fe (fun q => c_19 q.2.1), rfl⟩
      | exact ⟨bI_fe (fun q => q.2.2.1 c_35), rfl⟩
      | exact ⟨bI_fe (fun q => bI_0 c_48 q.2.2.2), rfl⟩
      | exact ⟨bI_te ⟨Nat.not_le.mp (bI_0 c_4), c_19, c_35, bI_n0 c_48⟩, rfl⟩
  · refine jW.aload_n (dx_Line_endsFence 3 (e := (7, .aload_n 0, 1)) rfl) rfl rfl (pc' := 8) rfl ?_
    refine jW.getf F f_Line_endsFence_8 (by assumption) (by assumption) (pc' := 11) rfl ?_
    refine jW.aload_n (dx_Line_endsFence 5 (e := (11, .aload_n 0, 1)) rfl) rfl rfl (pc' := 12) rfl ?_
    refine jW.callV F (e_Line_start F hL0) (dx_Line_endsFence 6 (e := (12, .invokevirtual 49, 3)) rfl) can_Line_start jw_590 jw_591 (by assumption) rfl jw_592 rfl rfl (Nat.le_of_ble_eq_true rfl) (pc' := 15) rfl (fun r σ1 hr => ?_)
    obtain ⟨rfl, rfl⟩ := hr
    refine jW.callV F (e_Row_at F rfl (by decide) rfl hS _) (dx_Line_endsFence 7 (e := (15, .invokevirtual 30, 3)) rfl) can_Row_at jw_555 jw_439 (by assumption) rfl jw_440 rfl rfl (Nat.le_of_ble_eq_true rfl) (pc' := 18) rfl (fun r σ1 hr => ?_)
    obtain ⟨rfl, rfl⟩ := hr
    refine jW.iload_n (dx_Line_endsFence 8 (e := (18, .iload_n 1, 1)) rfl) rfl rfl (pc' := 19) rfl ?_
    refine jW.icmp_eq (dx_Line_endsFence 9 (e := (19, .if_icmp .eq 5, 3)) rfl) 24 (by decide) (pc' := 22) rfl (fun c_19 => ?_) (fun c_19 => ?_)
    · refine jW.aload_n (dx_Line_endsFence 12 (e := (24, .aload_n 0, 1)) rfl) rfl rfl (pc' := 25) rfl ?_
      refine jW.aload_n (dx_Line_endsFence 13 (e := (25, .aload_n 0, 1)) rfl) rfl rfl (pc' := 26) rfl ?_
      refine jW.callV F (e_Line_start F hL0) (dx_Line_endsFence 14 (e := (26, .invokevirtual 49, 3)) rfl) can_Line_start jw_590 jw_591 (by assumption) rfl jw_592 rfl rfl (Nat.le_of_ble_eq_true rfl) (pc' := 29) rfl (fun r σ1 hr => ?_)
      obtain ⟨rfl, rfl⟩ := hr
      refine jW.callV F (e_Line_sameFrom F hL0 (by omega)) (dx_Line_endsFence 15 (e := (29, .invokevirtual 65, 3)) rfl) can_Line_sameFrom jw_623 jw_625 (by assumption) rfl sel_Line_sameFrom rfl rfl (Nat.le_of_ble_eq_true rfl) (pc' := 32) rfl (fun r σ1 hr => ?_)
      obtain ⟨rfl, rfl⟩ := hr
      refine jW.istore_n (dx_Line_endsFence 16 (e := (32, .istore_n 3, 1)) rfl) rfl (by decide) rfl (pc' := 33) rfl ?_
      refine jW.iload_n (dx_Line_endsFence 17 (e := (33, .iload_n 3, 1)) rfl) rfl rfl (pc' := 34) rfl ?_
      refine jW.iload_n (dx_Line_endsFence 18 (e := (34, .iload_n 2, 1)) rfl) rfl rfl (pc' := 35) rfl ?_
      refine jW.icmp_lt (dx_Line_endsFence 19 (e := (35, .if_icmp .lt 20, 3)) rfl) 55 (by decide) (pc' := 38) rfl (fun c_35 => ?_) (fun c_35 => ?_)
      · refine jW.iconst (v := 0) (dx_Line_endsFence 29 (e := (55, .iconst 0, 1)) rfl) (by decide) (pc' := 56) rfl ?_
        refine jW.zret (dx_Line_endsFence 30 (e := (56, .ireturn, 1)) rfl) rfl (by decide) ?_
        first
          | exact ⟨bI_fe (fun q => absurd (bI_n0 c_4) (by omega)), rfl⟩
          | exact ⟨bI_fe (fun q => c_19 q.2.1), rfl⟩
          | exact ⟨bI_fe (fun q => q.2.2.1 c_35), rfl⟩
          | exact ⟨bI_fe (fun q => bI_0 c_48 q.2.2.2), rfl⟩
          | exact ⟨bI_te ⟨Nat.not_le.mp (bI_0 c_4), c_19, c_35, bI_n0 c_48⟩, rfl⟩
      · refine jW.aload_n (dx_Line_endsFence 20 (e := (38, .aload_n 0, 1)) rfl) rfl rfl (pc' := 39) rfl ?_
        refine jW.aload_n (dx_Line_endsFence 21 (e := (39, .aload_n 0, 1)) rfl) rfl rfl (pc' := 40) rfl ?_
        refine jW.callV F (e_Line_start F hL0) (dx_Line_endsFence 22 (e := (40, .invokevirtual 49, 3)) rfl) can_Line_start jw_590 jw_591 (by assumption) rfl jw_592 rfl rfl (Nat.le_of_ble_eq_true rfl) (pc' := 43) rfl (fun r σ1 hr => ?_)
        obtain ⟨rfl, rfl⟩ := hr
        refine jW.iload_n (dx_Line_endsFence 23 (e := (43, .iload_n 3, 1)) rfl) rfl rfl (pc' := 44) rfl ?_
        refine jW.iadd (dx_Line_endsFence 24 (e := (44, .iadd, 1)) rfl) (pc' := 45) rfl ?_
        rw [nI_add]
        refine jW.callV F (e_Line_isBlankFrom F hL0 (by omega)) (dx_Line_endsFence 25 (e := (45, .invokevirtual 72, 3)) rfl) can_Line_isBlankFrom jw_627 jw_629 (by assumption) rfl sel_Line_isBlankFrom rfl rfl (Nat.le_of_ble_eq_true rfl) (pc' := 48) rfl (fun r σ1 hr => ?_)
        obtain ⟨rfl, rfl⟩ := hr
        refine jW.if_eq (dx_Line_endsFence 26 (e := (48, .ifCond .eq 7, 3)) rfl) 55 (by decide) (pc' := 51) rfl (fun c_48 => ?_) (fun c_48 => ?_)
        · refine jW.iconst (v := 0) (dx_Line_endsFence 29 (e := (55, .iconst 0, 1)) rfl) (by decide) (pc' := 56) rfl ?_
          refine jW.zret (dx_Line_endsFence 30 (e := (56, .ireturn, 1)) rfl) rfl (by decide) ?_
          first
            | exact ⟨bI_fe (fun q => absurd (bI_n0 c_4) (by omega)), rfl⟩
            | exact ⟨bI_fe (fun q => c_19 q.2.1), rfl⟩
            | exact ⟨bI_fe (fun q => q.2.2.1 c_35), rfl⟩
            | exact ⟨bI_fe (fun q => bI_0 c_48 q.2.2.2), rfl⟩
            | exact ⟨bI_te ⟨Nat.not_le.mp (bI_0 c_4), c_19, c_35, bI_n0 c_48⟩, rfl⟩
        · refine jW.iconst (v := 1) (dx_Line_endsFence 27 (e := (51, .iconst 1, 1)) rfl) (by decide) (pc' := 52) rfl ?_
          refine jW.goto (dx_Line_endsFence 28 (e := (52, .goto 4, 3)) rfl) 56 (by decide) ?_
          refine jW.zret (dx_Line_endsFence 30 (e := (56, .ireturn, 1)) rfl) rfl (by decide) ?_
          first
            | exact ⟨bI_fe (fun q => absurd (bI_n0 c_4) (by omega)), rfl⟩
            | exact ⟨bI_fe (fun q => c_19 q.2.1), rfl⟩
            | exact ⟨bI_fe (fun q => q.2.2.1 c_35), rfl⟩
            | exact ⟨bI_fe (fun q => bI_0 c_48 q.2.2.2), rfl⟩
            | exact ⟨bI_te ⟨Nat.not_le.mp (bI_0 c_4), c_19, c_35, bI_n0 c_48⟩, rfl⟩
    · refine jW.iconst (v := 0) (dx_Line_endsFence 10 (e := (22, .iconst 0, 1)) rfl) (by decide) (pc' := 23) rfl ?_
      refine jW.zret (dx_Line_endsFence 11 (e := (23, .ireturn, 1)) rfl) rfl (by decide) ?_
      first
        | exact ⟨bI_fe (fun q => absurd (bI_n0 c_4) (by omega)), rfl⟩
        | exact ⟨bI_fe (fun q => c_19 q.2.1), rfl⟩
        | exact ⟨bI_fe (fun q => q.2.2.1 c_35), rfl⟩
        | exact ⟨bI_fe (fun q => bI_0 c_48 q.2.2.2), rfl⟩
        | exact ⟨bI_te ⟨Nat.not_le.mp (bI_0 c_4), c_19, c_35, bI_n0 c_48⟩, rfl⟩
theorem e_Line_markEndsParagraph (F : jOK s0 jcl D cA lw_tbl a0 jty) (h : LineAt s0.heap.size σ a sg n xs ta pl id ms ml mn) : jE l s0 jcl D cA (d + 3) y_Line_markEndsParagraph [.ref a] σ (fun r σ' => r = some (.int (bI (¬ blF xs (pl + id + ml) ∧ (ml = 1 ∨ mn = 1)))) ∧ σ' = σ) := by
  have hL0 := h
  obtain ⟨⟨v, h1, h2, h3, h4, h5, h6, h7, h8, h9⟩, hS, b1, b2, b3, b4, b5⟩ := h
  obtain ⟨vt, ht⟩ := hS.cell
  have bsp := fun i => spF_le (i := i) b1
  have bsm := fun i => smF_le (i := i) b1
  refine jE.of (by decide) (by simp [Value.category]) (Nat.le_of_ble_eq_true rfl) rfl ?_
  refine jW.aload_n (dx_Line_markEndsParagraph 0 (e := (0, .aload_n 0, 1)) rfl) rfl rfl (pc' := 1) rfl ?_
  refine jW.aload_n (dx_Line_markEndsParagraph 1 (e := (1, .aload_n 0, 1)) rfl) rfl rfl (pc' := 2) rfl ?_
  refine jW.callV F (e_Line_start F hL0) (dx_Line_markEndsParagraph 2 (e := (2, .invokevirtual 49, 3)) rfl) can_Line_start jw_590 jw_591 (by assumption) rfl jw_592 rfl rfl (Nat.le_of_ble_eq_true rfl) (pc' := 5) rfl (fun r σ1 hr => ?_)
  obtain ⟨rfl, rfl⟩ := hr
  refine jW.aload_n (dx_Line_markEndsParagraph 3 (e := (5, .aload_n 0, 1)) rfl) rfl rfl (pc' := 6) rfl ?_
  refine jW.getf F f_Line_markEndsParagraph_6 (by assumption) (by assumption) (pc' := 9) rfl ?_
  refine jW.iadd (dx_Line_markEndsParagraph 5 (e := (9, .iadd, 1)) rfl) (pc' := 10) rfl ?_
  rw [nI_add]
  refine jW.callV F (e_Line_isBlankFrom F hL0 (by omega)) (dx_Line_markEndsParagraph 6 (e := (10, .invokevirtual 72, 3)) rfl) can_Line_isBlankFrom jw_627 jw_629 (by assumption) rfl sel_Line_isBlankFrom rfl rfl (Nat.le_of_ble_eq_true rfl) (pc' := 13) rfl (fun r σ1 hr => ?_)
  obtain ⟨rfl, rfl⟩ := hr
  refine jW.if_ne (dx_Line_markEndsParagraph 7 (e := (13, .ifCond .ne 23, 3)) rfl) 36 (by decide) (pc' := 16) rfl (fun c_13 => ?_) (fun c_13 => ?_)
  · refine jW.iconst (v := 0) (dx_Line_markEndsParagraph 18 (e := (36, .iconst 0, 1)) rfl) (by decide) (pc' := 37) rfl ?_
    refine jW.zret (dx_Line_markEndsParagraph 19 (e := (37, .ireturn, 1)) rfl) rfl (by decide) ?_
    first
      | exact ⟨bI_fe (fun q => q.1 (bI_n0 c_13)), rfl⟩
      | exact ⟨bI_te ⟨bI_0 c_13, Or.inl ((nI_eq (b := 1) (by omega) (by omega)).mp c_21)⟩, rfl⟩
      | exact ⟨bI_te ⟨bI_0 c_13, Or.inr c_29⟩, rfl⟩
      | exact ⟨bI_fe (fun q => q.2.elim (fun q => c_21 (by rw [q]; rfl)) c_29), rfl⟩
  · refine jW.aload_n (dx_Line_markEndsParagraph 8 (e := (16, .aload_n 0, 1)) rfl) rfl rfl (pc' := 17) rfl ?_
    refine jW.getf F f_Line_markEndsParagraph_17 (by assumption) (by assumption) (pc' := 20) rfl ?_
    refine jW.iconst (v := 1) (dx_Line_markEndsParagraph 10 (e := (20, .iconst 1, 1)) rfl) (by decide) (pc' := 21) rfl ?_
    refine jW.icmp_eq (dx_Line_markEndsParagraph 11 (e := (21, .if_icmp .eq 11, 3)) rfl) 32 (by decide) (pc' := 24) rfl (fun c_21 => ?_) (fun c_21 => ?_)
    · refine jW.iconst (v := 1) (dx_Line_markEndsParagraph 16 (e := (32, .iconst 1, 1)) rfl) (by decide) (pc' := 33) rfl ?_
      refine jW.goto (dx_Line_markEndsParagraph 17 (e := (33, .goto 4, 3)) rfl) 37 (by decide) ?_
      refine jW.zret (dx_Line_markEndsParagraph 19 (e := (37, .ireturn, 1)) rfl) rfl (by decide) ?_
      first
        | exact ⟨bI_fe (fun q => q.1 (bI_n0 c_13)), rfl⟩
        | exact ⟨bI_te ⟨bI_0 c_13, Or.inl ((nI_eq (b := 1) (by omega) (by omega)).mp c_21)⟩, rfl⟩
        | exact ⟨bI_te ⟨bI_0 c_13, Or.inr c_29⟩, rfl⟩
        | exact ⟨bI_fe (fun q => q.2.elim (fun q => c_21 (by rw [q]; rfl)) c_29), rfl⟩
    · refine jW.aload_n (dx_Line_markEndsParagraph 12 (e := (24, .aload_n 0, 1)) rfl) rfl rfl (pc' := 25) rfl ?_
      refine jW.getf F f_Line_markEndsParagraph_25 (by assumption) (by assumption) (pc' := 28) rfl ?_
      refine jW.iconst (v := 1) (dx_Line_markEndsParagraph 14 (e := (28, .iconst 1, 1)) rfl) (by decide) (pc' := 29) rfl ?_
      refine jW.icmp_ne (dx_Line_markEndsParagraph 15 (e := (29, .if_icmp .ne 7, 3)) rfl) 36 (by decide) (pc' := 32) rfl (fun c_29 => ?_) (fun c_29 => ?_)
      · refine jW.iconst (v := 0) (dx_Line_markEndsParagraph 18 (e := (36, .iconst 0, 1)) rfl) (by decide) (pc' := 37) rfl ?_
        refine jW.zret (dx_Line_markEndsParagraph 19 (e := (37, .ireturn, 1)) rfl) rfl (by decide) ?_
        first
          | exact ⟨bI_fe (fun q => q.1 (bI_n0 c_13)), rfl⟩
          | exact ⟨bI_te ⟨bI_0 c_13, Or.inl ((nI_eq (b := 1) (by omega) (by omega)).mp c_21)⟩, rfl⟩
          | exact ⟨bI_te ⟨bI_0 c_13, Or.inr c_29⟩, rfl⟩
          | exact ⟨bI_fe (fun q => q.2.elim (fun q => c_21 (by rw [q]; rfl)) c_29), rfl⟩
      · refine jW.iconst (v := 1) (dx_Line_markEndsParagraph 16 (e := (32, .iconst 1, 1)) rfl) (by decide) (pc' := 33) rfl ?_
        refine jW.goto (dx_Line_markEndsParagraph 17 (e := (33, .goto 4, 3)) rfl) 37 (by decide) ?_
        refine jW.zret (dx_Line_markEndsParagraph 19 (e := (37, .ireturn, 1)) rfl) rfl (by decide) ?_
        first
          | exact ⟨bI_fe (fun q => q.1 (bI_n0 c_13)), rfl⟩
          | exact ⟨bI_te ⟨bI_0 c_13, Or.inl ((nI_eq (b := 1) (by omega) (by omega)).mp c_21)⟩, rfl⟩
          | exact ⟨bI_te ⟨bI_0 c_13, Or.inr c_29⟩, rfl⟩
          | exact ⟨bI_fe (fun q => q.2.elim (fun q => c_21 (by rw [q]; rfl)) c_29), rfl⟩
/-- an item's width: its indent, its mark's length, the spaces behind it if they are few and something follows -/
def itW (xs : List Int32) (i id ml : Nat) : Nat := id + ml + (if spF xs (i + ml) ≤ 4 ∧ i + ml + spF xs (i + ml) < xs.length then spF xs (i + ml) else 1)
theorem e_Line_itemWidth (F : jOK s0 jcl D cA lw_tbl a0 jty) (h : LineAt s0.heap.size σ a sg n xs ta pl id ms ml mn) : jE l s0 jcl D cA (d + 2) y_Line_itemWidth [.ref a] σ (fun r σ' => r = some (.int (nI (itW xs (pl + id) id ml))) ∧ σ' = σ) := by
  have hL0 := h
  obtain ⟨⟨v, h1, h2, h3, h4, h5, h6, h7, h8, h9⟩, hS, b1, b2, b3, b4, b5⟩ := h
  obtain ⟨vt, ht⟩ := hS.cell
  have bsp := fun i => spF_le (i := i) b1
  have bsm := fun i => smF_le (i := i) b1
  have b9 := bsp (pl + id + ml)
  refine jE.of (by decide) (by simp [Value.category]) (Nat.le_of_ble_eq_true rfl) rfl ?_
  refine jW.aload_n (dx_Line_itemWidth 0 (e := (0, .aload_n 0, 1)) rfl) rfl rfl (pc' := 1) rfl ?_
  refine jW.callV F (e_Line_start F hL0) (dx_Line_itemWidth 1 (e := (1, .invokevirtual 49, 3)) rfl) can_Line_start jw_590 jw_591 (by assumption) rfl jw_592 rfl rfl (Nat.le_of_ble_eq_true rfl) (pc' := 4) rfl (fun r σ1 hr => ?_)
  obtain ⟨rfl, rfl⟩ := hr
  refine jW.aload_n (dx_Line_itemWidth 2 (e := (4, .aload_n 0, 1)) rfl) rfl rfl (pc' := 5) rfl ?_
  refine jW.getf F f_Line_itemWidth_5 (by assumption) (by assumption) (pc' := 8) rfl ?_
  refine jW.iadd (dx_Line_itemWidth 4 (e := (8, .iadd, 1)) rfl) (pc' := 9) rfl ?_
  rw [nI_add]
  refine jW.istore_n (dx_Line_itemWidth 5 (e := (9, .istore_n 1, 1)) rfl) rfl (by decide) rfl (pc' := 10) rfl ?_
  refine jW.aload_n (dx_Line_itemWidth 6 (e := (10, .aload_n 0, 1)) rfl) rfl rfl (pc' := 11) rfl ?_
  refine jW.iload_n (dx_Line_itemWidth 7 (e := (11, .iload_n 1, 1)) rfl) rfl rfl (pc' := 12) rfl ?_
  refine jW.callV F (e_Line_spacesAt F hL0 (by omega)) (dx_Line_itemWidth 8 (e := (12, .invokevirtual 87, 3)) rfl) can_Line_spacesAt jw_631 jw_633 (by assumption) rfl sel_Line_spacesAt rfl rfl (Nat.le_of_ble_eq_true rfl) (pc' := 15) rfl (fun r σ1 hr => ?_)
  obtain ⟨rfl, rfl⟩ := hr
  refine jW.istore_n (dx_Line_itemWidth 9 (e := (15, .istore_n 2, 1)) rfl) rfl (by decide) rfl (pc' := 16) rfl ?_
  refine jW.iload_n (dx_Line_itemWidth 10 (e := (16, .iload_n 2, 1)) rfl) rfl rfl (pc' := 17) rfl ?_
  refine jW.iconst (v := 4) (dx_Line_itemWidth 11 (e := (17, .iconst 4, 1)) rfl) (by decide) (pc' := 18) rfl ?_
  refine jW.icmp_gt (dx_Line_itemWidth 12 (e := (18, .if_icmp .gt 20, 3)) rfl) 38 (by decide) (pc' := 21) rfl (fun c_18 => ?_) (fun c_18 => ?_)
  · refine jW.iconst (v := 0) (dx_Line_itemWidth 22 (e := (38, .iconst 0, 1)) rfl) (by decide) (pc' := 39) rfl ?_
    refine jW.istore_n (dx_Line_itemWidth 23 (e := (39, .istore_n 3, 1)) rfl) rfl (by decide) rfl (pc' := 40) rfl ?_
    refine jW.aload_n (dx_Line_itemWidth 24 (e := (40, .aload_n 0, 1)) rfl) rfl rfl (pc' := 41) rfl ?_
    refine jW.getf F f_Line_itemWidth_41 (by assumption) (by assumption) (pc' := 44) rfl ?_
    refine jW.aload_n (dx_Line_itemWidth 26 (e := (44, .aload_n 0, 1)) rfl) rfl rfl (pc' := 45) rfl ?_
    refine jW.getf F f_Line_itemWidth_45 (by assumption) (by assumption) (pc' := 48) rfl ?_
    refine jW.iadd (dx_Line_itemWidth 28 (e := (48, .iadd, 1)) rfl) (pc' := 49) rfl ?_
    rw [nI_add]
    refine jW.iload_n (dx_Line_itemWidth 29 (e := (49, .iload_n 3, 1)) rfl) rfl rfl (pc' := 50) rfl ?_
    refine jW.if_eq (dx_Line_itemWidth 30 (e := (50, .ifCond .eq 7, 3)) rfl) 57 (by decide) (pc' := 53) rfl (fun c_50 => ?_) (fun c_50 => ?_)
    · refine jW.iconst (v := 1) (dx_Line_itemWidth 33 (e := (57, .iconst 1, 1)) rfl) (by decide) (pc' := 58) rfl ?_
      refine jW.iadd (dx_Line_itemWidth 34 (e := (58, .iadd, 1)) rfl) (pc' := 59) rfl ?_
      refine jW.iret (dx_Line_itemWidth 35 (e := (59, .ireturn, 1)) rfl) rfl ?_
      first
        | exact absurd c_50 (by decide)
        | exact absurd rfl c_50
        | (have q9 : ¬ spF xs (pl + id + ml) ≤ 4 := fun q => absurd ((nI_ltI (a := 4) (by omega) (by omega)).mp c_18) (by omega)
           refine ⟨?_, rfl⟩
           unfold itW
           rw [if_neg (fun q => q9 q.1)]
           exact congrArg (fun z => some (Value.int z)) (nI_1 (id + ml)))
        | (have q8 := (nI_leI (by omega) (by omega)).mp c_31
           refine ⟨?_, rfl⟩
           unfold itW
           rw [if_neg (fun q => by omega)]
           exact congrArg (fun z => some (Value.int z)) (nI_1 (id + ml)))
        | (have q9 : spF xs (pl + id + ml) ≤ 4 := Nat.not_lt.mp (fun q => c_18 ((nI_ltI (a := 4) (by omega) (by omega)).mpr q))
           have q8 : pl + id + ml + spF xs (pl + id + ml) < xs.length := Nat.not_le.mp (fun q => c_31 ((nI_leI (by omega) (by omega)).mpr q))
           refine ⟨?_, rfl⟩
           unfold itW
           rw [if_pos ⟨q9, q8⟩]
           simp only [nI_add])
    · refine jW.iload_n (dx_Line_itemWidth 31 (e := (53, .iload_n 2, 1)) rfl) rfl rfl (pc' := 54) rfl ?_
      refine jW.goto (dx_Line_itemWidth 32 (e := (54, .goto 4, 3)) rfl) 58 (by decide) ?_
      refine jW.iadd (dx_Line_itemWidth 34 (e := (58, .iadd, 1)) rfl) (pc' := 59) rfl ?_
      refine jW.iret (dx_Line_itemWidth 35 (e := (59, .ireturn, 1)) rfl) rfl ?_
      first
        | exact absurd c_50 (by decide)
        | exact absurd rfl c_50
        | (have q9 : ¬ spF xs (pl + id + ml) ≤ 4 := fun q => absurd ((nI_ltI (a := 4) (by omega) (by omega)).mp c_18) (by omega)
           refine ⟨?_, rfl⟩
           unfold itW
           rw [if_neg (fun q => q9 q.1)]
           exact congrArg (fun z => some (Value.int z)) (nI_1 (id + ml)))
        | (have q8 := (nI_leI (by omega) (by omega)).mp c_31
           refine ⟨?_, rfl⟩
           unfold itW
           rw [if_neg (fun q => by omega)]
           exact congrArg (fun z => some (Value.int z)) (nI_1 (id + ml)))
        | (have q9 : spF xs (pl + id + ml) ≤ 4 := Nat.not_lt.mp (fun q => c_18 ((nI_ltI (a := 4) (by omega) (by omega)).mpr q))
           have q8 : pl + id + ml + spF xs (pl + id + ml) < xs.length := Nat.not_le.mp (fun q => c_31 ((nI_leI (by omega) (by omega)).mpr q))
           refine ⟨?_, rfl⟩
           unfold itW
           rw [if_pos ⟨q9, q8⟩]
           simp only [nI_add])
  · refine jW.iload_n (dx_Line_itemWidth 13 (e := (21, .iload_n 1, 1)) rfl) rfl rfl (pc' := 22) rfl ?_
    refine jW.iload_n (dx_Line_itemWidth 14 (e := (22, .iload_n 2, 1)) rfl) rfl rfl (pc' := 23) rfl ?_
    refine jW.iadd (dx_Line_itemWidth 15 (e := (23, .iadd, 1)) rfl) (pc' := 24) rfl ?_
    rw [nI_add]
    refine jW.aload_n (dx_Line_itemWidth 16 (e := (24, .aload_n 0, 1)) rfl) rfl rfl (pc' := 25) rfl ?_
    refine jW.getf F f_Line_itemWidth_25 (by assumption) (by assumption) (pc' := 28) rfl ?_
    refine jW.callV F (e_Row_size F rfl (by decide) rfl hS) (dx_Line_itemWidth 18 (e := (28, .invokevirtual 22, 3)) rfl) can_Row_size jw_553 jw_372 (by assumption) rfl jw_373 rfl rfl (Nat.le_of_ble_eq_true rfl) (pc' := 31) rfl (fun r σ1 hr => ?_)
    obtain ⟨rfl, rfl⟩ := hr
    refine jW.icmp_ge (dx_Line_itemWidth 19 (e := (31, .if_icmp .ge 7, 3)) rfl) 38 (by decide) (pc' := 34) rfl (fun c_31 => ?_) (fun c_31 => ?_)
    · refine jW.iconst (v := 0) (dx_Line_itemWidth 22 (e := (38, .iconst 0, 1)) rfl) (by decide) (pc' := 39) rfl ?_
      refine jW.istore_n (dx_Line_itemWidth 23 (e := (39, .istore_n 3, 1)) rfl) rfl (by decide) rfl (pc' := 40) rfl ?_
      refine jW.aload_n (dx_Line_itemWidth 24 (e := (40, .aload_n 0, 1)) rfl) rfl rfl (pc' := 41) rfl ?_
      refine jW.getf F f_Line_itemWidth_41 (by assumption) (by assumption) (pc' := 44) rfl ?_
      refine jW.aload_n (dx_Line_itemWidth 26 (e := (44, .aload_n 0, 1)) rfl) rfl rfl (pc' := 45) rfl ?_
      refine jW.getf F f_Line_itemWidth_45 (by assumption) (by assumption) (pc' := 48) rfl ?_
      refine jW.iadd (dx_Line_itemWidth 28 (e := (48, .iadd, 1)) rfl) (pc' := 49) rfl ?_
      rw [nI_add]
      refine jW.iload_n (dx_Line_itemWidth 29 (e := (49, .iload_n 3, 1)) rfl) rfl rfl (pc' := 50) rfl ?_
      refine jW.if_eq (dx_Line_itemWidth 30 (e := (50, .ifCond .eq 7, 3)) rfl) 57 (by decide) (pc' := 53) rfl (fun c_50 => ?_) (fun c_50 => ?_)
      · refine jW.iconst (v := 1) (dx_Line_itemWidth 33 (e := (57, .iconst 1, 1)) rfl) (by decide) (pc' := 58) rfl ?_
        refine jW.iadd (dx_Line_itemWidth 34 (e := (58, .iadd, 1)) rfl) (pc' := 59) rfl ?_
        refine jW.iret (dx_Line_itemWidth 35 (e := (59, .ireturn, 1)) rfl) rfl ?_
        first
          | exact absurd c_50 (by decide)
          | exact absurd rfl c_50
          | (have q9 : ¬ spF xs (pl + id + ml) ≤ 4 := fun q => absurd ((nI_ltI (a := 4) (by omega) (by omega)).mp c_18) (by omega)
             refine ⟨?_, rfl⟩
             unfold itW
             rw [if_neg (fun q => q9 q.1)]
             exact congrArg (fun z => some (Value.int z)) (nI_1 (id + ml)))
          | (have q8 := (nI_leI (by omega) (by omega)).mp c_31
             refine ⟨?_, rfl⟩
             unfold itW
             rw [if_neg (fun q => by omega)]
             exact congrArg (fun z => some (Value.int z)) (nI_1 (id + ml)))
          | (have q9 : spF xs (pl + id + ml) ≤ 4 := Nat.not_lt.mp (fun q => c_18 ((nI_ltI (a := 4) (by omega) (by omega)).mpr q))
             have q8 : pl + id + ml + spF xs (pl + id + ml) < xs.length := Nat.not_le.mp (fun q => c_31 ((nI_leI (by omega) (by omega)).mpr q))
             refine ⟨?_, rfl⟩
             unfold itW
             rw [if_pos ⟨q9, q8⟩]
             simp only [nI_add])
      · refine jW.iload_n (dx_Line_itemWidth 31 (e := (53, .iload_n 2, 1)) rfl) rfl rfl (pc' := 54) rfl ?_
        refine jW.goto (dx_Line_itemWidth 32 (e := (54, .goto 4, 3)) rfl) 58 (by decide) ?_
        refine jW.iadd (dx_Line_itemWidth 34 (e := (58, .iadd, 1)) rfl) (pc' := 59) rfl ?_
        refine jW.iret (dx_Line_itemWidth 35 (e := (59, .ireturn, 1)) rfl) rfl ?_
        first
          | exact absurd c_50 (by decide)
          | exact absurd rfl c_50
          | (have q9 : ¬ spF xs (pl + id + ml) ≤ 4 := fun q => absurd ((nI_ltI (a := 4) (by omega) (by omega)).mp c_18) (by omega)
             refine ⟨?_, rfl⟩
             unfold itW
             rw [if_neg (fun q => q9 q.1)]
             exact congrArg (fun z => some (Value.int z)) (nI_1 (id + ml)))
          | (have q8 := (nI_leI (by omega) (by omega)).mp c_31
             refine ⟨?_, rfl⟩
             unfold itW
             rw [if_neg (fun q => by omega)]
             exact congrArg (fun z => some (Value.int z)) (nI_1 (id + ml)))
          | (have q9 : spF xs (pl + id + ml) ≤ 4 := Nat.not_lt.mp (fun q => c_18 ((nI_ltI (a := 4) (by omega) (by omega)).mpr q))
             have q8 : pl + id + ml + spF xs (pl + id + ml) < xs.length := Nat.not_le.mp (fun q => c_31 ((nI_leI (by omega) (by omega)).mpr q))
             refine ⟨?_, rfl⟩
             unfold itW
             rw [if_pos ⟨q9, q8⟩]
             simp only [nI_add])
    · refine jW.iconst (v := 1) (dx_Line_itemWidth 20 (e := (34, .iconst 1, 1)) rfl) (by decide) (pc' := 35) rfl ?_
      refine jW.goto (dx_Line_itemWidth 21 (e := (35, .goto 4, 3)) rfl) 39 (by decide) ?_
      refine jW.istore_n (dx_Line_itemWidth 23 (e := (39, .istore_n 3, 1)) rfl) rfl (by decide) rfl (pc' := 40) rfl ?_
      refine jW.aload_n (dx_Line_itemWidth 24 (e := (40, .aload_n 0, 1)) rfl) rfl rfl (pc' := 41) rfl ?_
      refine jW.getf F f_Line_itemWidth_41 (by assumption) (by assumption) (pc' := 44) rfl ?_
      refine jW.aload_n (dx_Line_itemWidth 26 (e := (44, .aload_n 0, 1)) rfl) rfl rfl (pc' := 45) rfl ?_
      refine jW.getf F f_Line_itemWidth_45 (by assumption) (by assumption) (pc' := 48) rfl ?_
      refine jW.iadd (dx_Line_itemWidth 28 (e := (48, .iadd, 1)) rfl) (pc' := 49) rfl ?_
      rw [nI_add]
      refine jW.iload_n (dx_Line_itemWidth 29 (e := (49, .iload_n 3, 1)) rfl) rfl rfl (pc' := 50) rfl ?_
      refine jW.if_eq (dx_Line_itemWidth 30 (e := (50, .ifCond .eq 7, 3)) rfl) 57 (by decide) (pc' := 53) rfl (fun c_50 => ?_) (fun c_50 => ?_)
      · refine jW.iconst (v := 1) (dx_Line_itemWidth 33 (e := (57, .iconst 1, 1)) rfl) (by decide) (pc' := 58) rfl ?_
        refine jW.iadd (dx_Line_itemWidth 34 (e := (58, .iadd, 1)) rfl) (pc' := 59) rfl ?_
        refine jW.iret (dx_Line_itemWidth 35 (e := (59, .ireturn, 1)) rfl) rfl ?_
        first
          | exact absurd c_50 (by decide)
          | exact absurd rfl c_50
          | (have q9 : ¬ spF xs (pl + id + ml) ≤ 4 := fun q => absurd ((nI_ltI (a := 4) (by omega) (by omega)).mp c_18) (by omega)
             refine ⟨?_, rfl⟩
             unfold itW
             rw [if_neg (fun q => q9 q.1)]
             exact congrArg (fun z => some (Value.int z)) (nI_1 (id + ml)))
          | (have q8 := (nI_leI (by omega) (by omega)).mp c_31
             refine ⟨?_, rfl⟩
             unfold itW
             rw [if_neg (fun q => by omega)]
             exact congrArg (fun z => some (Value.int z)) (nI_1 (id + ml)))
          | (have q9 : spF xs (pl + id + ml) ≤ 4 := Nat.not_lt.mp (fun q => c_18 ((nI_ltI (a := 4) (by omega) (by omega)).mpr q))
             have q8 : pl + id + ml + spF xs (pl + id + ml) < xs.length := Nat.not_le.mp (fun q => c_31 ((nI_leI (by omega) (by omega)).mpr q))
             refine ⟨?_, rfl⟩
             unfold itW
             rw [if_pos ⟨q9, q8⟩]
             simp only [nI_add])
      · refine jW.iload_n (dx_Line_itemWidth 31 (e := (53, .iload_n 2, 1)) rfl) rfl rfl (pc' := 54) rfl ?_
        refine jW.goto (dx_Line_itemWidth 32 (e := (54, .goto 4, 3)) rfl) 58 (by decide) ?_
        refine jW.iadd (dx_Line_itemWidth 34 (e := (58, .iadd, 1)) rfl) (pc' := 59) rfl ?_
        refine jW.iret (dx_Line_itemWidth 35 (e := (59, .ireturn, 1)) rfl) rfl ?_
        first
          | exact absurd c_50 (by decide)
          | exact absurd rfl c_50
          | (have q9 : ¬ spF xs (pl + id + ml) ≤ 4 := fun q => absurd ((nI_ltI (a := 4) (by omega) (by omega)).mp c_18) (by omega)
             refine ⟨?_, rfl⟩
             unfold itW
             rw [if_neg (fun q => q9 q.1)]
             exact congrArg (fun z => some (Value.int z)) (nI_1 (id + ml)))
          | (have q8 := (nI_leI (by omega) (by omega)).mp c_31
             refine ⟨?_, rfl⟩
             unfold itW
             rw [if_neg (fun q => by omega)]
             exact congrArg (fun z => some (Value.int z)) (nI_1 (id + ml)))
          | (have q9 : spF xs (pl + id + ml) ≤ 4 := Nat.not_lt.mp (fun q => c_18 ((nI_ltI (a := 4) (by omega) (by omega)).mpr q))
             have q8 : pl + id + ml + spF xs (pl + id + ml) < xs.length := Nat.not_le.mp (fun q => c_31 ((nI_leI (by omega) (by omega)).mpr q))
             refine ⟨?_, rfl⟩
             unfold itW
             rw [if_pos ⟨q9, q8⟩]
             simp only [nI_add])
end LINE3
