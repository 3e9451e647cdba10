/-- a sign comes to a line: a tab as one to four spaces -/
def addS (xs : List Int32) (c : Int32) : List Int32 := if c = 9 then xs ++ List.replicate (4 - xs.length % 4) 32 else xs ++ [c]
theorem addS_len (xs : List Int32) (c : Int32) : (addS xs c).length ≤ xs.length + 4 := by
  unfold addS
  split
  · rw [List.length_append, List.length_replicate]; omega
  · rw [List.length_append]; show xs.length + 1 ≤ _; omega
theorem LineAt.row {B a sg n n' ta pl id ml : Nat} {xs ys : List Int32} {ms mn : Int32} {σ σ' : jS} (h : LineAt B σ a sg n xs ta pl id ms ml mn) (hk : jK [11, 1012] σ σ') (hr : RowAt B 11 1012 σ' sg n' ys) (hl : ys.length ≤ 16000) : LineAt B σ' a sg n' ys ta pl id ms ml mn := by
  obtain ⟨⟨v, q1, q2⟩, q3, q4, q5⟩ := h
  exact ⟨⟨v, hk _ _ _ _ q1 (by decide), q2⟩, hr, hl, q5⟩
section LINE6
variable {l : Launch} {s0 : State} {D : va_G} {cA : Nat → ClassId} {a0 : Array Value} {d : Nat} {σ : jS} {a sg n ta pl id ml : Nat} {xs : List Int32} {ms mn : Int32}
theorem e_addSign29 (F : jOK s0 jcl D cA lw_tbl a0 jty) {Φ : Option Value → jS → Prop} (c : Int32) {M : Nat} (hM : M ≤ 4) : ∀ (k i : Nat) (σ : jS) (n : Nat) (xs : List Int32), i + k = M → xs.length + k ≤ 16000 → jI s0.heap.size σ → LineAt s0.heap.size σ a sg n xs ta pl id ms ml mn → (∀ (σ' : jS) (n' : Nat), jI s0.heap.size σ' → jK [11, 1012] σ σ' → LineAt s0.heap.size σ' a sg n' (xs ++ List.replicate k 32) ta pl id ms ml mn → n ≤ n' → σ'.2.1 + n ≤ σ.2.1 + n' → σ'.2.2 + 2 * n = σ.2.2 + 2 * n' → Φ none σ') → jW l s0 jcl D cA (d + 3) y_Line_addSign 29 [some (.ref a), some (.int c), some (.int (nI M)), some (.int (nI i))] [] σ Φ := by
  intro k
  induction k with
  | zero =>
    intro i σ n xs hk hl hI h hΦ
    have hL0 := h
    obtain ⟨⟨v, h1, h2, h3, h4, h5, h6, h7, h8, h9⟩, hS, b1, b2, b3, b4, b5⟩ := h
    obtain ⟨vt, ht⟩ := hS.cell
    refine jW.iload_n (dx_Line_addSign 18 (e := (29, .iload_n 3, 1)) rfl) rfl rfl (pc' := 30) rfl ?_
    refine jW.iload_n (dx_Line_addSign 19 (e := (30, .iload_n 2, 1)) rfl) rfl rfl (pc' := 31) rfl ?_
    refine jW.icmp_ge (dx_Line_addSign 20 (e := (31, .if_icmp .ge 18, 3)) rfl) 49 (by decide) (pc' := 34) rfl (fun c_31 => ?_) (fun c_31 => ?_)
    · refine jW.vret (dx_Line_addSign 27 (e := (49, .return_, 1)) rfl) rfl ?_
      exact hΦ _ n hI jK.rfl (by rw [List.replicate_zero, List.append_nil]; exact hL0) (Nat.le_refl _) (Nat.le_refl _) rfl
    · exact absurd ((nI_leI (by omega) (by omega)).mpr (by omega)) c_31
  | succ k ih =>
    intro i σ n xs hk hl hI h hΦ
    have hL0 := h
    obtain ⟨⟨v, h1, h2, h3, h4, h5, h6, h7, h8, h9⟩, hS, b1, b2, b3, b4, b5⟩ := h
    obtain ⟨vt, ht⟩ := hS.cell
    refine jW.iload_n (dx_Line_addSign 18 (e := (29, .iload_n 3, 1)) rfl) rfl rfl (pc' := 30) rfl ?_
    refine jW.iload_n (dx_Line_addSign 19 (e := (30, .iload_n 2, 1)) rfl) rfl rfl (pc' := 31) rfl ?_
    refine jW.icmp_ge (dx_Line_addSign 20 (e := (31, .if_icmp .ge 18, 3)) rfl) 49 (by decide) (pc' := 34) rfl (fun c_31 => ?_) (fun c_31 => ?_)
    · exact absurd ((nI_leI (by omega) (by omega)).mp c_31) (by omega)
    · refine jW.aload_n (dx_Line_addSign 21 (e := (34, .aload_n 0, 1)) rfl) rfl rfl (pc' := 35) rfl ?_
      refine jW.getf F f_Line_addSign_35 (by assumption) (by assumption) (pc' := 38) rfl ?_
      refine jW.bipush (v := 32) (dx_Line_addSign 23 (e := (38, .bipush 32, 2)) rfl) (by decide) (pc' := 40) rfl ?_
      refine jW.callV F (e_Row_add F hI rfl (by decide) rfl hS (by omega) _) (dx_Line_addSign 24 (e := (40, .invokevirtual 40, 3)) rfl) can_Row_add jw_560 jw_376 (by assumption) rfl jw_377 rfl rfl (Nat.le_of_ble_eq_true rfl) (pc' := 43) rfl (fun r σ1 hr => ?_)
      obtain ⟨rfl, z1, z2, n1, z3, z4, z5, z6⟩ := hr
      refine jW.iinc (v := nI (i + 1)) (dx_Line_addSign 25 (e := (43, .iinc 3 1, 3)) rfl) rfl (nI_1 i) (by decide) rfl (pc' := 46) rfl ?_
      refine jW.goto (dx_Line_addSign 26 (e := (46, .goto (-17), 3)) rfl) 29 (by decide) ?_
      refine ih (i + 1) σ1 n1 (xs ++ [32]) (by omega) (by rw [List.length_append]; show xs.length + 1 + k ≤ _; omega) z1 (hL0.row z2 z3 (by rw [List.length_append]; show xs.length + 1 ≤ _; omega)) (fun σ' n' y1 y2 y3 y4 y5 y6 => hΦ σ' n' y1 (z2.trans y2) ?_ (by omega) (by omega) (by omega))
      rw [List.append_assoc] at y3
      exact y3
theorem e_Line_addSign (F : jOK s0 jcl D cA lw_tbl a0 jty) (hI : jI s0.heap.size σ) (h : LineAt s0.heap.size σ a sg n xs ta pl id ms ml mn) (hl : xs.length ≤ 15990) (c : Int32) : jE l s0 jcl D cA (d + 3) y_Line_addSign [.ref a, .int c] σ (fun r σ' => r = none ∧ ∃ n' : Nat, jI s0.heap.size σ' ∧ jK [11, 1012] σ σ' ∧ LineAt s0.heap.size σ' a sg n' (addS xs c) ta pl id ms ml mn ∧ n ≤ n' ∧ σ'.2.1 + n ≤ σ.2.1 + n' ∧ σ'.2.2 + 2 * n = σ.2.2 + 2 * n') := by
  have hL0 := h
  obtain ⟨⟨v, h1, h2, h3, h4, h5, h6, h7, h8, h9⟩, hS, b1, b2, b3, b4, b5⟩ := h
  obtain ⟨vt, ht⟩ := hS.cell
  refine jE.of (by decide) (by simp [Value.category]) (Nat.le_of_ble_eq_true rfl) rfl ?_
  refine jW.iload_n (dx_Line_addSign 0 (e := (0, .iload_n 1, 1)) rfl) rfl rfl (pc' := 1) rfl ?_
  refine jW.bipush (v := 9) (dx_Line_addSign 1 (e := (1, .bipush 9, 2)) rfl) (by decide) (pc' := 3) rfl ?_
  refine jW.icmp_eq (dx_Line_addSign 2 (e := (3, .if_icmp .eq 12, 3)) rfl) 15 (by decide) (pc' := 6) rfl (fun c_3 => ?_) (fun c_3 => ?_)
  · refine jW.iconst (v := 4) (dx_Line_addSign 8 (e := (15, .iconst 4, 1)) rfl) (by decide) (pc' := 16) rfl ?_
    refine jW.aload_n (dx_Line_addSign 9 (e := (16, .aload_n 0, 1)) rfl) rfl rfl (pc' := 17) rfl ?_
    refine jW.getf F f_Line_addSign_17 (by assumption) (by assumption) (pc' := 20) rfl ?_
    refine jW.callV F (e_Row_size F rfl (by decide) rfl hS) (dx_Line_addSign 11 (e := (20, .invokevirtual 22, 3)) rfl) can_Row_size jw_553 jw_372 (by assumption) rfl jw_373 rfl rfl (Nat.le_of_ble_eq_true rfl) (pc' := 23) rfl (fun r σ1 hr => ?_)
    obtain ⟨rfl, rfl⟩ := hr
    refine jW.iconst (v := 4) (dx_Line_addSign 12 (e := (23, .iconst 4, 1)) rfl) (by decide) (pc' := 24) rfl ?_
    refine jW.irem (dx_Line_addSign 13 (e := (24, .irem, 1)) rfl) (by decide) (pc' := 25) rfl ?_
    rw [show nI xs.length - nI xs.length / 4 * 4 = nI (xs.length % 4) from pk_rem (d := 4) (by omega) (by omega) (by omega)]
    refine jW.isub (dx_Line_addSign 14 (e := (25, .isub, 1)) rfl) (pc' := 26) rfl ?_
    rw [show (4 : Int32) - nI (xs.length % 4) = nI (4 - xs.length % 4) from pk_sub (a := 4) (by omega)]
    refine jW.istore_n (dx_Line_addSign 15 (e := (26, .istore_n 2, 1)) rfl) rfl (by decide) rfl (pc' := 27) rfl ?_
    refine jW.iconst (v := 0) (dx_Line_addSign 16 (e := (27, .iconst 0, 1)) rfl) (by decide) (pc' := 28) rfl ?_
    refine jW.istore_n (dx_Line_addSign 17 (e := (28, .istore_n 3, 1)) rfl) rfl (by decide) rfl (pc' := 29) rfl ?_
    refine e_addSign29 F c (by omega) (4 - xs.length % 4) 0 _ n xs (by omega) (by omega) hI hL0 (fun σ' n' y1 y2 y3 y4 y5 y6 => ⟨rfl, n', y1, y2, ?_, y4, y5, y6⟩)
    unfold addS
    rw [if_pos c_3]
    exact y3
  · refine jW.aload_n (dx_Line_addSign 3 (e := (6, .aload_n 0, 1)) rfl) rfl rfl (pc' := 7) rfl ?_
    refine jW.getf F f_Line_addSign_7 (by assumption) (by assumption) (pc' := 10) rfl ?_
    refine jW.iload_n (dx_Line_addSign 5 (e := (10, .iload_n 1, 1)) rfl) rfl rfl (pc' := 11) rfl ?_
    refine jW.callV F (e_Row_add F hI rfl (by decide) rfl hS (by omega) _) (dx_Line_addSign 6 (e := (11, .invokevirtual 40, 3)) rfl) can_Row_add jw_560 jw_376 (by assumption) rfl jw_377 rfl rfl (Nat.le_of_ble_eq_true rfl) (pc' := 14) rfl (fun r σ1 hr => ?_)
    obtain ⟨rfl, z1, z2, n1, z3, z4, z5, z6⟩ := hr
    refine jW.vret (dx_Line_addSign 7 (e := (14, .return_, 1)) rfl) rfl ?_
    refine ⟨rfl, n1, z1, z2, hL0.row z2 ?_ (Nat.le_trans (addS_len _ _) (by omega)), z4, z5, z6⟩
    unfold addS
    rw [if_neg c_3]
    exact z3
/-- a sign that ends no line -/
abbrev inLn : Int32 → Bool := fun c => !(c == 10) && !(c == 13)
/-- where the line that begins at i ends; where the next one begins -/
def lnE (ts : List Int32) (i : Nat) : Nat := i + runFrom inLn ts i
def lnN (ts : List Int32) (e : Nat) : Nat := if rowAt ts (nI e) = 13 ∧ rowAt ts (nI (e + 1)) = 10 then e + 2 else e + 1
/-- the signs of a line -/
def lnS (ts : List Int32) (i : Nat) : List Int32 := ((ts.drop i).takeWhile inLn).foldl addS []
end LINE6
