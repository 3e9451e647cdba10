/-- a truth as a number -/
def bI (p : Prop) [Decidable p] : Int32 := if p then 1 else 0
theorem bI_t {p : Prop} [Decidable p] (h : p) : bI p = 1 := if_pos h
theorem bI_f {p : Prop} [Decidable p] (h : ¬ p) : bI p = 0 := if_neg h
/-- how many from i on are of a kind -/
def runFrom (p : Int32 → Bool) (xs : List Int32) (i : Nat) : Nat := ((xs.drop i).takeWhile p).length
theorem runFrom_end {p : Int32 → Bool} {xs : List Int32} {i : Nat} (h : xs.length ≤ i) : runFrom p xs i = 0 := by
  unfold runFrom
  rw [List.drop_eq_nil_of_le h]
  rfl
theorem runFrom_yes {p : Int32 → Bool} {xs : List Int32} {i : Nat} {c : Int32} (h : xs[i]? = some c) (hp : p c = true) : runFrom p xs i = runFrom p xs (i + 1) + 1 := by
  unfold runFrom
  obtain ⟨h1, h2⟩ := List.getElem?_eq_some_iff.mp h
  rw [List.drop_eq_getElem_cons h1, h2, List.takeWhile_cons, if_pos hp, List.length_cons]
theorem runFrom_no {p : Int32 → Bool} {xs : List Int32} {i : Nat} {c : Int32} (h : xs[i]? = some c) (hp : p c = false) : runFrom p xs i = 0 := by
  unfold runFrom
  obtain ⟨h1, h2⟩ := List.getElem?_eq_some_iff.mp h
  rw [List.drop_eq_getElem_cons h1, h2, List.takeWhile_cons, if_neg (by rw [hp]; decide)]
  rfl
theorem runFrom_le (p : Int32 → Bool) (xs : List Int32) (i : Nat) : i + runFrom p xs i ≤ max i xs.length := by
  unfold runFrom
  have h1 : ((xs.drop i).takeWhile p).length ≤ (xs.drop i).length := (List.takeWhile_sublist p).length_le
  rw [List.length_drop] at h1
  omega
theorem rowAt_some {xs : List Int32} {i : Nat} (h : i < xs.length) (h2 : i < 2 ^ 31) : xs[i]? = some (rowAt xs (nI i)) := by
  rw [rowAt_nI h2, List.getD_eq_getElem?_getD, List.getElem?_eq_getElem h]
  rfl
/-- the Line at a: its signs, tapeAt, place, indent, the mark -/
def LineAt (B : Nat) (σ : jS) (a sg n : Nat) (xs : List Int32) (ta pl id : Nat) (ms : Int32) (ml : Nat) (mn : Int32) : Prop := (∃ v : Nat → Value, σ.1 a = some (5, 7, v) ∧ v 0 = .ref sg ∧ v 1 = .int (nI ta) ∧ v 2 = .int (nI pl) ∧ v 3 = .int (nI id) ∧ v 4 = .int ms ∧ v 5 = .int (nI ml) ∧ v 6 = .int mn ∧ B ≤ a) ∧ RowAt B 11 1012 σ sg n xs ∧ xs.length ≤ 16000 ∧ ta ≤ 16000 ∧ pl ≤ 16000 ∧ id ≤ 16000 ∧ ml ≤ 16000
theorem LineAt.keep {B a sg n ta pl id ml : Nat} {xs : List Int32} {ms mn : Int32} {σ σ' : jS} {ks : List Nat} (h : LineAt B σ a sg n xs ta pl id ms ml mn) (hk : jK ks σ σ') (h1 : 5 ∉ ks) (h2 : 11 ∉ ks) (h3 : 1012 ∉ ks) : LineAt B σ' a sg n xs ta pl id ms ml mn := by
  obtain ⟨⟨v, q1, q2⟩, q3, q4⟩ := h
  exact ⟨⟨v, hk _ _ _ _ q1 h1, q2⟩, q3.keep hk h2 h3, q4⟩
section LINE
variable {l : Launch} {s0 : State} {D : va_G} {cA : Nat → ClassId} {a0 : Array Value} {d : Nat} {σ : jS} {a sg n ta pl id ml : Nat} {xs : List Int32} {ms mn : Int32}
theorem e_Line_place (F : jOK s0 jcl D cA lw_tbl a0 jty) (h : LineAt s0.heap.size σ a sg n xs ta pl id ms ml mn) : jE l s0 jcl D cA d y_Line_place [.ref a] σ (fun r σ' => r = some (.int (nI pl)) ∧ σ' = σ) := by
  have hL0 := h
  obtain ⟨⟨v, h1, h2, h3, h4, h5, h6, h7, h8, h9⟩, hS, b1, b2, b3, b4, b5⟩ := h
  obtain ⟨vt, ht⟩ := hS.cell
  refine jE.of (by decide) (by simp [Value.category]) (Nat.le_of_ble_eq_true rfl) rfl ?_
  refine jW.aload_n (dx_Line_place 0 (e := (0, .aload_n 0, 1)) rfl) rfl rfl (pc' := 1) rfl ?_
  refine jW.getf F f_Line_place_1 (by assumption) (by assumption) (pc' := 4) rfl ?_
  refine jW.iret (dx_Line_place 2 (e := (4, .ireturn, 1)) rfl) rfl ?_
  exact ⟨rfl, rfl⟩
theorem e_Line_indent (F : jOK s0 jcl D cA lw_tbl a0 jty) (h : LineAt s0.heap.size σ a sg n xs ta pl id ms ml mn) : jE l s0 jcl D cA d y_Line_indent [.ref a] σ (fun r σ' => r = some (.int (nI id)) ∧ σ' = σ) := by
  have hL0 := h
  obtain ⟨⟨v, h1, h2, h3, h4, h5, h6, h7, h8, h9⟩, hS, b1, b2, b3, b4, b5⟩ := h
  obtain ⟨vt, ht⟩ := hS.cell
  refine jE.of (by decide) (by simp [Value.category]) (Nat.le_of_ble_eq_true rfl) rfl ?_
  refine jW.aload_n (dx_Line_indent 0 (e := (0, .aload_n 0, 1)) rfl) rfl rfl (pc' := 1) rfl ?_
  refine jW.getf F f_Line_indent_1 (by assumption) (by assumption) (pc' := 4) rfl ?_
  refine jW.iret (dx_Line_indent 2 (e := (4, .ireturn, 1)) rfl) rfl ?_
  exact ⟨rfl, rfl⟩
theorem e_Line_markSign (F : jOK s0 jcl D cA lw_tbl a0 jty) (h : LineAt s0.heap.size σ a sg n xs ta pl id ms ml mn) : jE l s0 jcl D cA d y_Line_markSign [.ref a] σ (fun r σ' => r = some (.int (ms)) ∧ σ' = σ) := by
  have hL0 := h
  obtain ⟨⟨v, h1, h2, h3, h4, h5, h6, h7, h8, h9⟩, hS, b1, b2, b3, b4, b5⟩ := h
  obtain ⟨vt, ht⟩ := hS.cell
  refine jE.of (by decide) (by simp [Value.category]) (Nat.le_of_ble_eq_true rfl) rfl ?_
  refine jW.aload_n (dx_Line_markSign 0 (e := (0, .aload_n 0, 1)) rfl) rfl rfl (pc' := 1) rfl ?_
  refine jW.getf F f_Line_markSign_1 (by assumption) (by assumption) (pc' := 4) rfl ?_
  refine jW.iret (dx_Line_markSign 2 (e := (4, .ireturn, 1)) rfl) rfl ?_
  exact ⟨rfl, rfl⟩
theorem e_Line_markNumber (F : jOK s0 jcl D cA lw_tbl a0 jty) (h : LineAt s0.heap.size σ a sg n xs ta pl id ms ml mn) : jE l s0 jcl D cA d y_Line_markNumber [.ref a] σ (fun r σ' => r = some (.int (mn)) ∧ σ' = σ) := by
  have hL0 := h
  obtain ⟨⟨v, h1, h2, h3, h4, h5, h6, h7, h8, h9⟩, hS, b1, b2, b3, b4, b5⟩ := h
  obtain ⟨vt, ht⟩ := hS.cell
  refine jE.of (by decide) (by simp [Value.category]) (Nat.le_of_ble_eq_true rfl) rfl ?_
  refine jW.aload_n (dx_Line_markNumber 0 (e := (0, .aload_n 0, 1)) rfl) rfl rfl (pc' := 1) rfl ?_
  refine jW.getf F f_Line_markNumber_1 (by assumption) (by assumption) (pc' := 4) rfl ?_
  refine jW.iret (dx_Line_markNumber 2 (e := (4, .ireturn, 1)) rfl) rfl ?_
  exact ⟨rfl, rfl⟩
theorem e_Line_start (F : jOK s0 jcl D cA lw_tbl a0 jty) (h : LineAt s0.heap.size σ a sg n xs ta pl id ms ml mn) : jE l s0 jcl D cA d y_Line_start [.ref a] σ (fun r σ' => r = some (.int (nI (pl + id))) ∧ σ' = σ) := by
  have hL0 := h
  obtain ⟨⟨v, h1, h2, h3, h4, h5, h6, h7, h8, h9⟩, hS, b1, b2, b3, b4, b5⟩ := h
  obtain ⟨vt, ht⟩ := hS.cell
  refine jE.of (by decide) (by simp [Value.category]) (Nat.le_of_ble_eq_true rfl) rfl ?_
  refine jW.aload_n (dx_Line_start 0 (e := (0, .aload_n 0, 1)) rfl) rfl rfl (pc' := 1) rfl ?_
  refine jW.getf F f_Line_start_1 (by assumption) (by assumption) (pc' := 4) rfl ?_
  refine jW.aload_n (dx_Line_start 2 (e := (4, .aload_n 0, 1)) rfl) rfl rfl (pc' := 5) rfl ?_
  refine jW.getf F f_Line_start_5 (by assumption) (by assumption) (pc' := 8) rfl ?_
  refine jW.iadd (dx_Line_start 4 (e := (8, .iadd, 1)) rfl) (pc' := 9) rfl ?_
  refine jW.iret (dx_Line_start 5 (e := (9, .ireturn, 1)) rfl) rfl ?_
  exact ⟨by rw [nI_add], rfl⟩
theorem e_Line_size (F : jOK s0 jcl D cA lw_tbl a0 jty) (h : LineAt s0.heap.size σ a sg n xs ta pl id ms ml mn) : jE l s0 jcl D cA (d + 1) y_Line_size [.ref a] σ (fun r σ' => r = some (.int (nI xs.length)) ∧ σ' = σ) := by
  have hL0 := h
  obtain ⟨⟨v, h1, h2, h3, h4, h5, h6, h7, h8, h9⟩, hS, b1, b2, b3, b4, b5⟩ := h
  obtain ⟨vt, ht⟩ := hS.cell
  refine jE.of (by decide) (by simp [Value.category]) (Nat.le_of_ble_eq_true rfl) rfl ?_
  refine jW.aload_n (dx_Line_size 0 (e := (0, .aload_n 0, 1)) rfl) rfl rfl (pc' := 1) rfl ?_
  refine jW.getf F f_Line_size_1 (by assumption) (by assumption) (pc' := 4) rfl ?_
  refine jW.callV F (e_Row_size F rfl (by decide) rfl hS) (dx_Line_size 2 (e := (4, .invokevirtual 22, 3)) rfl) can_Row_size jw_553 jw_372 (by assumption) rfl jw_373 rfl rfl (Nat.le_of_ble_eq_true rfl) (pc' := 7) rfl (fun r σ1 hr => ?_)
  obtain ⟨rfl, rfl⟩ := hr
  refine jW.iret (dx_Line_size 3 (e := (7, .ireturn, 1)) rfl) rfl ?_
  exact ⟨rfl, rfl⟩
theorem e_Line_at (F : jOK s0 jcl D cA lw_tbl a0 jty) (h : LineAt s0.heap.size σ a sg n xs ta pl id ms ml mn) (i : Int32) : jE l s0 jcl D cA (d + 1) y_Line_at [.ref a, .int i] σ (fun r σ' => r = some (.int (rowAt xs i)) ∧ σ' = σ) := by
  have hL0 := h
  obtain ⟨⟨v, h1, h2, h3, h4, h5, h6, h7, h8, h9⟩, hS, b1, b2, b3, b4, b5⟩ := h
  obtain ⟨vt, ht⟩ := hS.cell
  refine jE.of (by decide) (by simp [Value.category]) (Nat.le_of_ble_eq_true rfl) rfl ?_
  refine jW.aload_n (dx_Line_at 0 (e := (0, .aload_n 0, 1)) rfl) rfl rfl (pc' := 1) rfl ?_
  refine jW.getf F f_Line_at_1 (by assumption) (by assumption) (pc' := 4) rfl ?_
  refine jW.iload_n (dx_Line_at 2 (e := (4, .iload_n 1, 1)) rfl) rfl rfl (pc' := 5) rfl ?_
  refine jW.callV F (e_Row_at F rfl (by decide) rfl hS _) (dx_Line_at 3 (e := (5, .invokevirtual 30, 3)) rfl) can_Row_at jw_555 jw_439 (by assumption) rfl jw_440 rfl rfl (Nat.le_of_ble_eq_true rfl) (pc' := 8) rfl (fun r σ1 hr => ?_)
  obtain ⟨rfl, rfl⟩ := hr
  refine jW.iret (dx_Line_at 4 (e := (8, .ireturn, 1)) rfl) rfl ?_
  exact ⟨rfl, rfl⟩
theorem e_Line_isTooFar (F : jOK s0 jcl D cA lw_tbl a0 jty) (h : LineAt s0.heap.size σ a sg n xs ta pl id ms ml mn) : jE l s0 jcl D cA d y_Line_isTooFar [.ref a] σ (fun r σ' => r = some (.int (bI (4 ≤ id))) ∧ σ' = σ) := by
  have hL0 := h
  obtain ⟨⟨v, h1, h2, h3, h4, h5, h6, h7, h8, h9⟩, hS, b1, b2, b3, b4, b5⟩ := h
  obtain ⟨vt, ht⟩ := hS.cell
  refine jE.of (by decide) (by simp [Value.category]) (Nat.le_of_ble_eq_true rfl) rfl ?_
  refine jW.aload_n (dx_Line_isTooFar 0 (e := (0, .aload_n 0, 1)) rfl) rfl rfl (pc' := 1) rfl ?_
  refine jW.getf F f_Line_isTooFar_1 (by assumption) (by assumption) (pc' := 4) rfl ?_
  refine jW.iconst (v := 4) (dx_Line_isTooFar 2 (e := (4, .iconst 4, 1)) rfl) (by decide) (pc' := 5) rfl ?_
  refine jW.icmp_lt (dx_Line_isTooFar 3 (e := (5, .if_icmp .lt 7, 3)) rfl) 12 (by decide) (pc' := 8) rfl (fun c_5 => ?_) (fun c_5 => ?_)
  · refine jW.iconst (v := 0) (dx_Line_isTooFar 6 (e := (12, .iconst 0, 1)) rfl) (by decide) (pc' := 13) rfl ?_
    refine jW.zret (dx_Line_isTooFar 7 (e := (13, .ireturn, 1)) rfl) rfl (by decide) ?_
    first
      | exact ⟨by rw [bI_f (by rw [nI_ltI (b := 4) (by omega) (by omega)] at c_5; omega)], rfl⟩
      | exact ⟨by rw [bI_t (by have q9 : ¬ id < 4 := fun q => c_5 ((nI_ltI (b := 4) (by omega) (by omega)).mpr q); omega)], rfl⟩
      | exact ⟨by rw [bI_f (by have q9 : id < 4 := (nI_ltI (b := 4) (by omega) (by omega)).mp c_5; omega)], rfl⟩
  · refine jW.iconst (v := 1) (dx_Line_isTooFar 4 (e := (8, .iconst 1, 1)) rfl) (by decide) (pc' := 9) rfl ?_
    refine jW.goto (dx_Line_isTooFar 5 (e := (9, .goto 4, 3)) rfl) 13 (by decide) ?_
    refine jW.zret (dx_Line_isTooFar 7 (e := (13, .ireturn, 1)) rfl) rfl (by decide) ?_
    first
      | exact ⟨by rw [bI_f (by rw [nI_ltI (b := 4) (by omega) (by omega)] at c_5; omega)], rfl⟩
      | exact ⟨by rw [bI_t (by have q9 : ¬ id < 4 := fun q => c_5 ((nI_ltI (b := 4) (by omega) (by omega)).mpr q); omega)], rfl⟩
      | exact ⟨by rw [bI_f (by have q9 : id < 4 := (nI_ltI (b := 4) (by omega) (by omega)).mp c_5; omega)], rfl⟩
theorem e_Line_isBlank (F : jOK s0 jcl D cA lw_tbl a0 jty) (h : LineAt s0.heap.size σ a sg n xs ta pl id ms ml mn) : jE l s0 jcl D cA (d + 1) y_Line_isBlank [.ref a] σ (fun r σ' => r = some (.int (bI (xs.length ≤ pl + id))) ∧ σ' = σ) := by
  have hL0 := h
  obtain ⟨⟨v, h1, h2, h3, h4, h5, h6, h7, h8, h9⟩, hS, b1, b2, b3, b4, b5⟩ := h
  obtain ⟨vt, ht⟩ := hS.cell
  refine jE.of (by decide) (by simp [Value.category]) (Nat.le_of_ble_eq_true rfl) rfl ?_
  refine jW.aload_n (dx_Line_isBlank 0 (e := (0, .aload_n 0, 1)) rfl) rfl rfl (pc' := 1) rfl ?_
  refine jW.callV F (e_Line_start F hL0) (dx_Line_isBlank 1 (e := (1, .invokevirtual 49, 3)) rfl) can_Line_start jw_590 jw_591 (by assumption) rfl jw_592 rfl rfl (Nat.le_of_ble_eq_true rfl) (pc' := 4) rfl (fun r σ1 hr => ?_)
  obtain ⟨rfl, rfl⟩ := hr
  refine jW.aload_n (dx_Line_isBlank 2 (e := (4, .aload_n 0, 1)) rfl) rfl rfl (pc' := 5) rfl ?_
  refine jW.getf F f_Line_isBlank_5 (by assumption) (by assumption) (pc' := 8) rfl ?_
  refine jW.callV F (e_Row_size F rfl (by decide) rfl hS) (dx_Line_isBlank 4 (e := (8, .invokevirtual 22, 3)) rfl) can_Row_size jw_553 jw_372 (by assumption) rfl jw_373 rfl rfl (Nat.le_of_ble_eq_true rfl) (pc' := 11) rfl (fun r σ1 hr => ?_)
  obtain ⟨rfl, rfl⟩ := hr
  refine jW.icmp_lt (dx_Line_isBlank 5 (e := (11, .if_icmp .lt 7, 3)) rfl) 18 (by decide) (pc' := 14) rfl (fun c_11 => ?_) (fun c_11 => ?_)
  · refine jW.iconst (v := 0) (dx_Line_isBlank 8 (e := (18, .iconst 0, 1)) rfl) (by decide) (pc' := 19) rfl ?_
    refine jW.zret (dx_Line_isBlank 9 (e := (19, .ireturn, 1)) rfl) rfl (by decide) ?_
    first
      | exact ⟨by rw [bI_f (by have q9 := (nI_ltI (by omega) (by omega)).mp c_11; omega)], rfl⟩
      | exact ⟨by rw [bI_t (by have q9 : ¬ pl + id < xs.length := fun q => c_11 ((nI_ltI (by omega) (by omega)).mpr q); omega)], rfl⟩
  · refine jW.iconst (v := 1) (dx_Line_isBlank 6 (e := (14, .iconst 1, 1)) rfl) (by decide) (pc' := 15) rfl ?_
    refine jW.goto (dx_Line_isBlank 7 (e := (15, .goto 4, 3)) rfl) 19 (by decide) ?_
    refine jW.zret (dx_Line_isBlank 9 (e := (19, .ireturn, 1)) rfl) rfl (by decide) ?_
    first
      | exact ⟨by rw [bI_f (by have q9 := (nI_ltI (by omega) (by omega)).mp c_11; omega)], rfl⟩
      | exact ⟨by rw [bI_t (by have q9 : ¬ pl + id < xs.length := fun q => c_11 ((nI_ltI (by omega) (by omega)).mpr q); omega)], rfl⟩
theorem e_Line_isSpaceOrEnd (F : jOK s0 jcl D cA lw_tbl a0 jty) (h : LineAt s0.heap.size σ a sg n xs ta pl id ms ml mn) {i : Nat} (hi : i ≤ 100000) : jE l s0 jcl D cA (d + 1) y_Line_isSpaceOrEnd [.ref a, .int (nI i)] σ (fun r σ' => r = some (.int (bI (xs.length ≤ i ∨ rowAt xs (nI i) = 32))) ∧ σ' = σ) := by
  have hL0 := h
  obtain ⟨⟨v, h1, h2, h3, h4, h5, h6, h7, h8, h9⟩, hS, b1, b2, b3, b4, b5⟩ := h
  obtain ⟨vt, ht⟩ := hS.cell
  refine jE.of (by decide) (by simp [Value.category]) (Nat.le_of_ble_eq_true rfl) rfl ?_
  refine jW.iload_n (dx_Line_isSpaceOrEnd 0 (e := (0, .iload_n 1, 1)) rfl) rfl rfl (pc' := 1) rfl ?_
  refine jW.aload_n (dx_Line_isSpaceOrEnd 1 (e := (1, .aload_n 0, 1)) rfl) rfl rfl (pc' := 2) rfl ?_
  refine jW.getf F f_Line_isSpaceOrEnd_2 (by assumption) (by assumption) (pc' := 5) rfl ?_
  refine jW.callV F (e_Row_size F rfl (by decide) rfl hS) (dx_Line_isSpaceOrEnd 3 (e := (5, .invokevirtual 22, 3)) rfl) can_Row_size jw_553 jw_372 (by assumption) rfl jw_373 rfl rfl (Nat.le_of_ble_eq_true rfl) (pc' := 8) rfl (fun r σ1 hr => ?_)
  obtain ⟨rfl, rfl⟩ := hr
  refine jW.icmp_ge (dx_Line_isSpaceOrEnd 4 (e := (8, .if_icmp .ge 16, 3)) rfl) 24 (by decide) (pc' := 11) rfl (fun c_8 => ?_) (fun c_8 => ?_)
  · refine jW.iconst (v := 1) (dx_Line_isSpaceOrEnd 11 (e := (24, .iconst 1, 1)) rfl) (by decide) (pc' := 25) rfl ?_
    refine jW.goto (dx_Line_isSpaceOrEnd 12 (e := (25, .goto 4, 3)) rfl) 29 (by decide) ?_
    refine jW.zret (dx_Line_isSpaceOrEnd 14 (e := (29, .ireturn, 1)) rfl) rfl (by decide) ?_
    first
      | exact ⟨by rw [bI_t (Or.inl ((nI_leI (by omega) (by omega)).mp c_8))], rfl⟩
      | exact ⟨by rw [bI_t (Or.inr c_21)], rfl⟩
      | exact ⟨by rw [bI_f (fun q => by
          rcases q with q | q
          · exact c_8 ((nI_leI (by omega) (by omega)).mpr q)
          · exact c_21 q)], rfl⟩
  · refine jW.aload_n (dx_Line_isSpaceOrEnd 5 (e := (11, .aload_n 0, 1)) rfl) rfl rfl (pc' := 12) rfl ?_
    refine jW.getf F f_Line_isSpaceOrEnd_12 (by assumption) (by assumption) (pc' := 15) rfl ?_
    refine jW.iload_n (dx_Line_isSpaceOrEnd 7 (e := (15, .iload_n 1, 1)) rfl) rfl rfl (pc' := 16) rfl ?_
    refine jW.callV F (e_Row_at F rfl (by decide) rfl hS _) (dx_Line_isSpaceOrEnd 8 (e := (16, .invokevirtual 30, 3)) rfl) can_Row_at jw_555 jw_439 (by assumption) rfl jw_440 rfl rfl (Nat.le_of_ble_eq_true rfl) (pc' := 19) rfl (fun r σ1 hr => ?_)
    obtain ⟨rfl, rfl⟩ := hr
    refine jW.bipush (v := 32) (dx_Line_isSpaceOrEnd 9 (e := (19, .bipush 32, 2)) rfl) (by decide) (pc' := 21) rfl ?_
    refine jW.icmp_ne (dx_Line_isSpaceOrEnd 10 (e := (21, .if_icmp .ne 7, 3)) rfl) 28 (by decide) (pc' := 24) rfl (fun c_21 => ?_) (fun c_21 => ?_)
    · refine jW.iconst (v := 0) (dx_Line_isSpaceOrEnd 13 (e := (28, .iconst 0, 1)) rfl) (by decide) (pc' := 29) rfl ?_
      refine jW.zret (dx_Line_isSpaceOrEnd 14 (e := (29, .ireturn, 1)) rfl) rfl (by decide) ?_
      first
        | exact ⟨by rw [bI_t (Or.inl ((nI_leI (by omega) (by omega)).mp c_8))], rfl⟩
        | exact ⟨by rw [bI_t (Or.inr c_21)], rfl⟩
        | exact ⟨by rw [bI_f (fun q => by
            rcases q with q | q
            · exact c_8 ((nI_leI (by omega) (by omega)).mpr q)
            · exact c_21 q)], rfl⟩
    · refine jW.iconst (v := 1) (dx_Line_isSpaceOrEnd 11 (e := (24, .iconst 1, 1)) rfl) (by decide) (pc' := 25) rfl ?_
      refine jW.goto (dx_Line_isSpaceOrEnd 12 (e := (25, .goto 4, 3)) rfl) 29 (by decide) ?_
      refine jW.zret (dx_Line_isSpaceOrEnd 14 (e := (29, .ireturn, 1)) rfl) rfl (by decide) ?_
      first
        | exact ⟨by rw [bI_t (Or.inl ((nI_leI (by omega) (by omega)).mp c_8))], rfl⟩
        | exact ⟨by rw [bI_t (Or.inr c_21)], rfl⟩
        | exact ⟨by rw [bI_f (fun q => by
            rcases q with q | q
            · exact c_8 ((nI_leI (by omega) (by omega)).mpr q)
            · exact c_21 q)], rfl⟩
theorem e_Line_hasQuoteMark (F : jOK s0 jcl D cA lw_tbl a0 jty) (h : LineAt s0.heap.size σ a sg n xs ta pl id ms ml mn) : jE l s0 jcl D cA (d + 1) y_Line_hasQuoteMark [.ref a] σ (fun r σ' => r = some (.int (bI (id < 4 ∧ rowAt xs (nI (pl + id)) = 62))) ∧ σ' = σ) := by
  have hL0 := h
  obtain ⟨⟨v, h1, h2, h3, h4, h5, h6, h7, h8, h9⟩, hS, b1, b2, b3, b4, b5⟩ := h
  obtain ⟨vt, ht⟩ := hS.cell
  refine jE.of (by decide) (by simp [Value.category]) (Nat.le_of_ble_eq_true rfl) rfl ?_
  refine jW.aload_n (dx_Line_hasQuoteMark 0 (e := (0, .aload_n 0, 1)) rfl) rfl rfl (pc' := 1) rfl ?_
  refine jW.callV F (e_Line_isTooFar F hL0) (dx_Line_hasQuoteMark 1 (e := (1, .invokevirtual 58, 3)) rfl) can_Line_isTooFar jw_586 jw_587 (by assumption) rfl jw_588 rfl rfl (Nat.le_of_ble_eq_true rfl) (pc' := 4) rfl (fun r σ1 hr => ?_)
  obtain ⟨rfl, rfl⟩ := hr
  refine jW.if_ne (dx_Line_hasQuoteMark 2 (e := (4, .ifCond .ne 23, 3)) rfl) 27 (by decide) (pc' := 7) rfl (fun c_4 => ?_) (fun c_4 => ?_)
  · refine jW.iconst (v := 0) (dx_Line_hasQuoteMark 12 (e := (27, .iconst 0, 1)) rfl) (by decide) (pc' := 28) rfl ?_
    refine jW.zret (dx_Line_hasQuoteMark 13 (e := (28, .ireturn, 1)) rfl) rfl (by decide) ?_
    first
      | (refine ⟨?_, rfl⟩
         rw [bI_f (fun q => c_20 q.2)])
      | (have q9 : ¬ 4 ≤ id := fun q => by rw [bI_t q] at c_4; exact absurd c_4 (by decide)
         refine ⟨?_, rfl⟩
         rw [bI_t ⟨by omega, c_20⟩])
      | (refine ⟨?_, rfl⟩
         rw [bI_f (fun q => by rw [bI_f (by omega)] at c_4; exact c_4 rfl)])
  · refine jW.aload_n (dx_Line_hasQuoteMark 3 (e := (7, .aload_n 0, 1)) rfl) rfl rfl (pc' := 8) rfl ?_
    refine jW.getf F f_Line_hasQuoteMark_8 (by assumption) (by assumption) (pc' := 11) rfl ?_
    refine jW.aload_n (dx_Line_hasQuoteMark 5 (e := (11, .aload_n 0, 1)) rfl) rfl rfl (pc' := 12) rfl ?_
    refine jW.callV F (e_Line_start F hL0) (dx_Line_hasQuoteMark 6 (e := (12, .invokevirtual 49, 3)) rfl) can_Line_start jw_590 jw_591 (by assumption) rfl jw_592 rfl rfl (Nat.le_of_ble_eq_true rfl) (pc' := 15) rfl (fun r σ1 hr => ?_)
    obtain ⟨rfl, rfl⟩ := hr
    refine jW.callV F (e_Row_at F rfl (by decide) rfl hS _) (dx_Line_hasQuoteMark 7 (e := (15, .invokevirtual 30, 3)) rfl) can_Row_at jw_555 jw_439 (by assumption) rfl jw_440 rfl rfl (Nat.le_of_ble_eq_true rfl) (pc' := 18) rfl (fun r σ1 hr => ?_)
    obtain ⟨rfl, rfl⟩ := hr
    refine jW.bipush (v := 62) (dx_Line_hasQuoteMark 8 (e := (18, .bipush 62, 2)) rfl) (by decide) (pc' := 20) rfl ?_
    refine jW.icmp_ne (dx_Line_hasQuoteMark 9 (e := (20, .if_icmp .ne 7, 3)) rfl) 27 (by decide) (pc' := 23) rfl (fun c_20 => ?_) (fun c_20 => ?_)
    · refine jW.iconst (v := 0) (dx_Line_hasQuoteMark 12 (e := (27, .iconst 0, 1)) rfl) (by decide) (pc' := 28) rfl ?_
      refine jW.zret (dx_Line_hasQuoteMark 13 (e := (28, .ireturn, 1)) rfl) rfl (by decide) ?_
      first
        | (refine ⟨?_, rfl⟩
           rw [bI_f (fun q => c_20 q.2)])
        | (have q9 : ¬ 4 ≤ id := fun q => by rw [bI_t q] at c_4; exact absurd c_4 (by decide)
           refine ⟨?_, rfl⟩
           rw [bI_t ⟨by omega, c_20⟩])
        | (refine ⟨?_, rfl⟩
           rw [bI_f (fun q => by rw [bI_f (by omega)] at c_4; exact c_4 rfl)])
    · refine jW.iconst (v := 1) (dx_Line_hasQuoteMark 10 (e := (23, .iconst 1, 1)) rfl) (by decide) (pc' := 24) rfl ?_
      refine jW.goto (dx_Line_hasQuoteMark 11 (e := (24, .goto 4, 3)) rfl) 28 (by decide) ?_
      refine jW.zret (dx_Line_hasQuoteMark 13 (e := (28, .ireturn, 1)) rfl) rfl (by decide) ?_
      first
        | (refine ⟨?_, rfl⟩
           rw [bI_f (fun q => c_20 q.2)])
        | (have q9 : ¬ 4 ≤ id := fun q => by rw [bI_t q] at c_4; exact absurd c_4 (by decide)
           refine ⟨?_, rfl⟩
           rw [bI_t ⟨by omega, c_20⟩])
        | (refine ⟨?_, rfl⟩
           rw [bI_f (fun q => by rw [bI_f (by omega)] at c_4; exact c_4 rfl)])
theorem e_spacesAt2 (F : jOK s0 jcl D cA lw_tbl a0 jty) (h : LineAt s0.heap.size σ a sg n xs ta pl id ms ml mn) {i : Nat} (hi : i ≤ 100000) {Φ : Option Value → jS → Prop} (hΦ : Φ (some (.int (nI (runFrom (fun c => c == 32) xs i)))) σ) : ∀ (k j : Nat), xs.length ≤ j + k → i ≤ j → j ≤ 100000 → i + runFrom (fun c => c == 32) xs i = j + runFrom (fun c => c == 32) xs j → jW l s0 jcl D cA (d + 1) y_Line_spacesAt 2 [some (.ref a), some (.int (nI i)), some (.int (nI j))] [] σ Φ := by
  have hL0 := h
  obtain ⟨⟨v, h1, h2, h3, h4, h5, h6, h7, h8, h9⟩, hS, b1, b2, b3, b4, b5⟩ := h
  obtain ⟨vt, ht⟩ := hS.cell
  intro k
  induction k with
  | zero =>
    intro j hk hij hj he
    refine jW.iload_n (dx_Line_spacesAt 2 (e := (2, .iload_n 2, 1)) rfl) rfl rfl (pc' := 3) rfl ?_
    refine jW.aload_n (dx_Line_spacesAt 3 (e := (3, .aload_n 0, 1)) rfl) rfl rfl (pc' := 4) rfl ?_
    refine jW.getf F f_Line_spacesAt_4 (by assumption) (by assumption) (pc' := 7) rfl ?_
    refine jW.callV F (e_Row_size F rfl (by decide) rfl hS) (dx_Line_spacesAt 5 (e := (7, .invokevirtual 22, 3)) rfl) can_Row_size jw_553 jw_372 (by assumption) rfl jw_373 rfl rfl (Nat.le_of_ble_eq_true rfl) (pc' := 10) rfl (fun r σ1 hr => ?_)
    obtain ⟨rfl, rfl⟩ := hr
    refine jW.icmp_ge (dx_Line_spacesAt 6 (e := (10, .if_icmp .ge 22, 3)) rfl) 32 (by decide) (pc' := 13) rfl (fun c_10 => ?_) (fun c_10 => ?_)
    · rw [runFrom_end (by omega : xs.length ≤ j)] at he
      refine jW.iload_n (dx_Line_spacesAt 15 (e := (32, .iload_n 2, 1)) rfl) rfl rfl (pc' := 33) rfl ?_
      refine jW.iload_n (dx_Line_spacesAt 16 (e := (33, .iload_n 1, 1)) rfl) rfl rfl (pc' := 34) rfl ?_
      refine jW.isub (dx_Line_spacesAt 17 (e := (34, .isub, 1)) rfl) (pc' := 35) rfl ?_
      rw [pk_sub hij, show j - i = runFrom (fun c => c == 32) xs i by omega]
      refine jW.iret (dx_Line_spacesAt 18 (e := (35, .ireturn, 1)) rfl) rfl ?_
      exact hΦ
    · exact absurd ((nI_leI (by omega) (by omega)).mpr (by omega)) c_10
  | succ k ih =>
    intro j hk hij hj he
    refine jW.iload_n (dx_Line_spacesAt 2 (e := (2, .iload_n 2, 1)) rfl) rfl rfl (pc' := 3) rfl ?_
    refine jW.aload_n (dx_Line_spacesAt 3 (e := (3, .aload_n 0, 1)) rfl) rfl rfl (pc' := 4) rfl ?_
    refine jW.getf F f_Line_spacesAt_4 (by assumption) (by assumption) (pc' := 7) rfl ?_
    refine jW.callV F (e_Row_size F rfl (by decide) rfl hS) (dx_Line_spacesAt 5 (e := (7, .invokevirtual 22, 3)) rfl) can_Row_size jw_553 jw_372 (by assumption) rfl jw_373 rfl rfl (Nat.le_of_ble_eq_true rfl) (pc' := 10) rfl (fun r σ1 hr => ?_)
    obtain ⟨rfl, rfl⟩ := hr
    refine jW.icmp_ge (dx_Line_spacesAt 6 (e := (10, .if_icmp .ge 22, 3)) rfl) 32 (by decide) (pc' := 13) rfl (fun c_10 => ?_) (fun c_10 => ?_)
    · have hz : runFrom (fun c => c == 32) xs j = 0 := by
        first
          | exact runFrom_end ((nI_leI (by omega) (by omega)).mp c_10)
          | (have hlt : j < xs.length := Nat.not_le.mp (fun q => c_10 ((nI_leI (by omega) (by omega)).mpr q))
             exact runFrom_no (rowAt_some hlt (by omega)) (by simpa using c_23))
      rw [hz] at he
      refine jW.iload_n (dx_Line_spacesAt 15 (e := (32, .iload_n 2, 1)) rfl) rfl rfl (pc' := 33) rfl ?_
      refine jW.iload_n (dx_Line_spacesAt 16 (e := (33, .iload_n 1, 1)) rfl) rfl rfl (pc' := 34) rfl ?_
      refine jW.isub (dx_Line_spacesAt 17 (e := (34, .isub, 1)) rfl) (pc' := 35) rfl ?_
      rw [pk_sub hij, show j - i = runFrom (fun c => c == 32) xs i by omega]
      refine jW.iret (dx_Line_spacesAt 18 (e := (35, .ireturn, 1)) rfl) rfl ?_
      exact hΦ
    · refine jW.aload_n (dx_Line_spacesAt 7 (e := (13, .aload_n 0, 1)) rfl) rfl rfl (pc' := 14) rfl ?_
      refine jW.getf F f_Line_spacesAt_14 (by assumption) (by assumption) (pc' := 17) rfl ?_
      refine jW.iload_n (dx_Line_spacesAt 9 (e := (17, .iload_n 2, 1)) rfl) rfl rfl (pc' := 18) rfl ?_
      refine jW.callV F (e_Row_at F rfl (by decide) rfl hS _) (dx_Line_spacesAt 10 (e := (18, .invokevirtual 30, 3)) rfl) can_Row_at jw_555 jw_439 (by assumption) rfl jw_440 rfl rfl (Nat.le_of_ble_eq_true rfl) (pc' := 21) rfl (fun r σ1 hr => ?_)
      obtain ⟨rfl, rfl⟩ := hr
      refine jW.bipush (v := 32) (dx_Line_spacesAt 11 (e := (21, .bipush 32, 2)) rfl) (by decide) (pc' := 23) rfl ?_
      refine jW.icmp_ne (dx_Line_spacesAt 12 (e := (23, .if_icmp .ne 9, 3)) rfl) 32 (by decide) (pc' := 26) rfl (fun c_23 => ?_) (fun c_23 => ?_)
      · have hz : runFrom (fun c => c == 32) xs j = 0 := by
          first
            | exact runFrom_end ((nI_leI (by omega) (by omega)).mp c_10)
            | (have hlt : j < xs.length := Nat.not_le.mp (fun q => c_10 ((nI_leI (by omega) (by omega)).mpr q))
               exact runFrom_no (rowAt_some hlt (by omega)) (by simpa using c_23))
        rw [hz] at he
        refine jW.iload_n (dx_Line_spacesAt 15 (e := (32, .iload_n 2, 1)) rfl) rfl rfl (pc' := 33) rfl ?_
        refine jW.iload_n (dx_Line_spacesAt 16 (e := (33, .iload_n 1, 1)) rfl) rfl rfl (pc' := 34) rfl ?_
        refine jW.isub (dx_Line_spacesAt 17 (e := (34, .isub, 1)) rfl) (pc' := 35) rfl ?_
        rw [pk_sub hij, show j - i = runFrom (fun c => c == 32) xs i by omega]
        refine jW.iret (dx_Line_spacesAt 18 (e := (35, .ireturn, 1)) rfl) rfl ?_
        exact hΦ
      · refine jW.iinc (v := nI (j + 1)) (dx_Line_spacesAt 13 (e := (26, .iinc 2 1, 3)) rfl) rfl (nI_1 j) (by decide) rfl (pc' := 29) rfl ?_
        refine jW.goto (dx_Line_spacesAt 14 (e := (29, .goto (-27), 3)) rfl) 2 (by decide) ?_
        have hlt : j < xs.length := Nat.not_le.mp (fun q => c_10 ((nI_leI (by omega) (by omega)).mpr q))
        refine ih (j + 1) (by omega) (by omega) (by omega) ?_
        rw [he, runFrom_yes (rowAt_some hlt (by omega)) (by simpa using c_23)]
        omega
end LINE
