/-! signs that are neither space nor line feed, up to a place -/
abbrev nsB : Int32 → Bool := fun c => !(c == 32) && !(c == 10)
def nsP (T : List Int32) (f : Nat) : Nat := (T.take f).countP nsB
theorem nsP_mono {T : List Int32} {a b : Nat} (h : a ≤ b) : nsP T a ≤ nsP T b := by
  unfold nsP
  have : T.take a = (T.take b).take a := by rw [List.take_take]; congr 1; omega
  rw [this]
  exact (List.take_sublist a (T.take b)).countP_le
theorem nsP_step {T : List Int32} {a : Nat} (h : a < T.length) (h31 : a < 2 ^ 31) (hn : nsB (tA T a) = true) : nsP T (a + 1) = nsP T a + 1 := by
  unfold nsP
  rw [List.take_succ, rowAt_some h h31]
  simp only [Option.toList_some, List.countP_append]
  rw [List.countP_cons, List.countP_nil]
  have : nsB (rowAt T (nI a)) = true := hn
  rw [this]
  rfl
theorem nsP_lt {T : List Int32} {a b : Nat} (h : a < b) (hb : b ≤ T.length) (h31 : a < 2 ^ 31) (hn : nsB (tA T a) = true) : nsP T a + 1 ≤ nsP T b := by
  have := nsP_step (T := T) (a := a) (by omega) h31 hn
  have := nsP_mono (T := T) (a := a + 1) (b := b) (by omega)
  omega
theorem ns_wh {c : Int32} (h : ¬ wh c) : nsB c = true := by
  have h1 : ¬ c = 32 := fun z => h (Or.inr (Or.inr (Or.inr z)))
  have h2 : ¬ c = 10 := fun z => h (Or.inr (Or.inl z))
  simp [h1, h2]
theorem lbF_ns {T : List Int32} {f k j : Nat} {sm : Bool} (h : lbF T f k sm = some j) : sm = true ∨ ∃ p, k ≤ p ∧ p < j ∧ nsB (tA T p) = true := by
  induction k, sm using lbF.induct T f with
  | case1 k sm h1 h2 h3 => exact Or.inl h3.1
  | case2 k sm h1 h2 h3 => rw [lbF, if_pos h1, if_pos h2, if_neg h3] at h; cases h
  | case3 k sm h1 h2 h3 => rw [lbF, if_pos h1, if_neg h2, if_pos h3] at h; cases h
  | case4 k sm h1 h2 h3 h4 ih =>
    rw [lbF, if_pos h1, if_neg h2, if_neg h3, if_pos h4] at h
    have := (lbF_ge h).1
    exact Or.inr ⟨k, Nat.le_refl _, by omega, by rw [h4]; decide⟩
  | case5 k sm h1 h2 h3 h4 ih =>
    rw [lbF, if_pos h1, if_neg h2, if_neg h3, if_neg h4] at h
    have hge := (lbF_ge h).1
    rcases ih h with q | ⟨p, q1, q2, q3⟩
    · cases sm with
      | true => exact Or.inl rfl
      | false =>
        simp at q
        exact Or.inr ⟨k, Nat.le_refl _, by omega, ns_wh (by simpa using q)⟩
    · exact Or.inr ⟨p, by omega, q2, q3⟩
  | case6 k sm h1 => rw [lbF, if_neg h1] at h; cases h
theorem lbF_93 {T : List Int32} {f k j : Nat} {sm : Bool} (h : lbF T f k sm = some j) : tA T j = 93 := by
  induction k, sm using lbF.induct T f with
  | case1 k sm h1 h2 h3 => rw [lbF, if_pos h1, if_pos h2, if_pos h3] at h; cases h; exact h2
  | case2 k sm h1 h2 h3 => rw [lbF, if_pos h1, if_pos h2, if_neg h3] at h; cases h
  | case3 k sm h1 h2 h3 => rw [lbF, if_pos h1, if_neg h2, if_pos h3] at h; cases h
  | case4 k sm h1 h2 h3 h4 ih => rw [lbF, if_pos h1, if_neg h2, if_neg h3, if_pos h4] at h; exact ih h
  | case5 k sm h1 h2 h3 h4 ih => rw [lbF, if_pos h1, if_neg h2, if_neg h3, if_neg h4] at h; exact ih h
  | case6 k sm h1 => rw [lbF, if_neg h1] at h; cases h
theorem tgE_ns {T : List Int32} {g tf tt b : Nat} (hl : T.length ≤ 16000) (hg : g ≤ T.length) (h : tgE T g = some (tf, tt, b)) : nsB (tA T g) = true := by
  unfold tgE at h
  split at h
  · next q => rw [q]; decide
  · split at h
    · cases h
    · next q =>
      rw [sgF] at q
      by_cases h1 : g < T.length
      · rw [if_pos h1] at q
        by_cases h2 : tA T g ≤ 32 ∨ tA T g = 127
        · rw [if_pos h2] at q
          exact absurd (Or.inl rfl) q
        · refine ns_wh (fun z => h2 (Or.inl ?_))
          rcases z with z | z | z | z <;> (rw [z]; decide)
      · rw [if_neg h1] at q
        exact absurd (Or.inl rfl) q
theorem dfE_ns {T : List Int32} {f k tf tt sf st l : Nat} (hl : T.length ≤ 16000) (h : dfE T f = some (k, tf, tt, sf, st, l)) : nsP T f + 5 ≤ nsP T (nxL T l) := by
  have hbd := (dfE_bd hl h).1
  have hnx := nxL_bd (T := T) (l := l) (by omega)
  unfold dfE at h
  cases hb : lbE T f with
  | none => rw [hb] at h; cases h
  | some k' =>
    rw [hb] at h
    simp only at h
    split at h
    · next hc =>
      have hk1 := tA_in (T := T) (k := k' + 1) (by unfold lbE at hb; split at hb; have := (lbF_ge hb).2.1; omega; cases hb) hc (by decide)
      cases ht : tgE T (gpF T (k' + 2) false) with
      | none => rw [ht] at h; cases h
      | some r =>
        obtain ⟨tf', tt', b⟩ := r
        rw [ht] at h
        have g1 := gpF_ge T (k' + 2) false
        have g2 := gpF_le T (k' + 2) false (by omega)
        have hb2 := tgE_bd hl g2 ht
        have hns := tgE_ns hl g2 ht
        have hkk : k' = k ∧ b ≤ l := by
          have hdf : ∀ q, dfT T k' tf' tt' b = some q → q = (k, tf, tt, sf, st, l) → k' = k ∧ b ≤ l := by
            intro q hq e
            unfold dfT at hq
            cases hln : lnF T b with
            | none => rw [hln] at hq; cases hq
            | some l' =>
              rw [hln] at hq
              simp only [Option.some.injEq] at hq
              rw [← hq] at e
              simp only [Prod.mk.injEq] at e
              have := lnF_ge hln
              omega
          replace h : dfS T k' tf' tt' b (gpF T b false) = some (k, tf, tt, sf, st, l) := h
          have g3 := gpF_ge T b false
          unfold dfS at h
          cases htl : (if b < gpF T b false then tlE T (gpF T b false) else none) with
          | none => rw [htl] at h; exact hdf _ h rfl
          | some e =>
            rw [htl] at h
            simp only at h
            have htg : gpF T b false + 1 ≤ e := by
              split at htl
              · unfold tlE at htl
                split at htl
                · exact (tlF_ge htl).1
                · cases htl
              · cases htl
            cases hln : lnF T (e + 1) with
            | none => rw [hln] at h; exact hdf _ h rfl
            | some l' =>
              rw [hln] at h
              simp only [Option.some.injEq, Prod.mk.injEq] at h
              have := lnF_ge hln
              omega
        obtain ⟨rfl, hbl⟩ := hkk
        unfold lbE at hb
        split at hb
        · next h91 =>
          have e1 := lbF_ge hb
          rcases lbF_ns hb with q | ⟨p, q1, q2, q3⟩
          · cases q
          · have h93 : tA T k' = 93 := lbF_93 hb
            have s1 := nsP_lt (T := T) (a := f) (b := p) (by omega) (by omega) (by omega) (by rw [h91]; decide)
            have s2 := nsP_lt (T := T) (a := p) (b := k') (by omega) (by omega) (by omega) q3
            have s3 := nsP_lt (T := T) (a := k') (b := k' + 1) (by omega) (by omega) (by omega) (by rw [h93]; decide)
            have s4 := nsP_lt (T := T) (a := k' + 1) (b := gpF T (k' + 2) false) (by omega) (by omega) (by omega) (by rw [hc]; decide)
            have s5 := nsP_lt (T := T) (a := gpF T (k' + 2) false) (b := nxL T l) (by omega) (by omega) (by omega) hns
            omega
        · cases hb
    · cases h
