/-! the class's underline -/
/-- what underline leaves as it is -/
def FrU (c c' : CS) (i : Nat) : Prop := c'.2 = c.2 ∧ (∀ k, ¬ (43 ≤ k ∧ k ≤ 49) → k ≠ 64 → k ≠ 65 → k ≠ 67 → vi c'.1 k = vi c.1 k) ∧ (∀ k, k ≠ 23 → vn c'.1 k = vn c.1 k) ∧ ct c'.1 ≤ ct c.1 ∧ (∀ κ, κ ≠ 12 → κ ≠ 13 → vr c'.1 κ = vr c.1 κ) ∧ vo c'.1 = vo c.1 ∧ vy c'.1 = vy c.1 ∧ ∀ j k, k ≠ 5 → k ≠ 6 → ¬ (j = i ∧ (k = 0 ∨ k = 3 ∨ k = 10)) → vb c'.1 j k = vb c.1 j k
theorem q_Rd_underline {X : CX} {a0 : Array Value} {c : CS} (F : cF X a0) (hB : BNok X) {T : List Int32} {D : DL} {i f t n : Nat} (hN : ct c.1 ≤ c.2.2) (h64 : vi c.1 64 = nI t) (h66 : vi c.1 66 = nI n) (ht : t ≤ 13) (ht0 : 0 < t) (hi : vo c.1 t = i) (hict : i < ct c.1) (hT : tx c.1 = T) (hl : T.length ≤ 12010) (hf : vb c.1 i 5 = nI f) (hff : f ≤ T.length) (hP : vr c.1 12 = flatD D) (hE : vr c.1 13 = endsD 0 D) (hDl : 5 * D.length ≤ f) (hfl : (flatD D).length ≤ f) {N : CS → Prop}
    (h0 : trW T (tkD T f D).1 T.length - (tkD T f D).1 = 0 → ∀ c', FrU c c' i → SV c.1 c'.1 (tkD T f D).2 i (tkD T f D).1 (trW T (tkD T f D).1 T.length - (tkD T f D).1) → vi c'.1 64 = nI (t - 1) → vi c'.1 65 = nI (t - 1) → vi c'.1 67 = vi c.1 67 → (∀ j k, k ≠ 5 → k ≠ 6 → vb c'.1 j k = vb c.1 j k) → N c')
    (h1 : trW T (tkD T f D).1 T.length - (tkD T f D).1 ≠ 0 → ∀ c' v', FrU c c' i → SV c.1 v' (tkD T f D).2 i (tkD T f D).1 (trW T (tkD T f D).1 T.length - (tkD T f D).1) → c'.1 = vI (vB (vB (vB v' i 0 5) i 3 (nI (ulLv (lx c.1) (sA c.1)))) i 10 (nI n)) 67 1 → vi v' 64 = nI t → ct v' = ct c.1 → N c') : cE X 8 y_Rd_underline [.ref (adr X 6)] c (cvP N) := by
  have hiN : i < c.2.2 := by omega
  refine g_Rd_underline F ?_
  unfold w_Rd_underline_0
  rw [h64]
  refine q_Rd_openAt F ht ?_
  rw [hi]
  have hge := tkD_ge (T := T) (f := f) (D := D) (by omega) hff
  refine q_Lab_settle (T := T) (f0 := f) (D0 := D) F hB hiN hT hl hf hff hP hE hDl hfl (fun c3 hS => ?_)
  obtain ⟨s1, s2, s3, s4, s5, s6, s7⟩ := hS
  generalize hf' : (tkD T f D).1 = f' at *
  generalize hD' : (tkD T f D).2 = D' at *
  generalize htr : trW T f' T.length = to at *
  have hto : f' ≤ to ∧ to ≤ T.length := by
    rw [← htr]
    exact ⟨trW_ge _ _ _ hge.2.1, trW_le _ _ _⟩
  rw [pk_sub hto.1]
  have hvb3 : vb c3.1 = vb c.1 := by show c3.1.2.2.2.1 = _; rw [s7]
  have hvo3 : vo c3.1 = vo c.1 := by show c3.1.2.2.2.2.1 = _; rw [s7]
  have hvy3 : vy c3.1 = vy c.1 := by show c3.1.2.2.2.2.2 = _; rw [s7]
  generalize hc4 : cB (cB c3 i 5 (nI f')) i 6 (nI (to - f')) = c4
  have e2 : c4.2 = c.2 := by rw [← hc4]; exact s1
  have evi : vi c4.1 = vi c3.1 := by rw [← hc4]; rfl
  have evn : vn c4.1 = vn c.1 := by rw [← hc4]; exact s3
  have evr : vr c4.1 = vr c3.1 := by rw [← hc4]; rfl
  have evo : vo c4.1 = vo c.1 := by rw [← hc4]; exact hvo3
  have evy : vy c4.1 = vy c.1 := by rw [← hc4]; exact hvy3
  have evb : vb c4.1 = upd2 (upd2 (vb c.1) i 5 (nI f')) i 6 (nI (to - f')) := by rw [← hc4, ← hvb3]; rfl
  have evbk : ∀ j k, k ≠ 5 → k ≠ 6 → vb c4.1 j k = vb c.1 j k := fun j k z1 z2 => by rw [evb, upd2_off (fun y => z2 y.2), upd2_off (fun y => z1 y.2)]
  have evbj : ∀ j, j ≠ i → vb c4.1 j = vb c.1 j := fun j hj => by funext k; rw [evb, upd2_off (fun y => hj y.1), upd2_off (fun y => hj y.1)]
  have ev5 : vb c4.1 i 5 = nI f' := by rw [evb, upd2_off (fun y => absurd y.2 (by decide)), upd2_here]
  have ev6 : vb c4.1 i 6 = nI (to - f') := by rw [evb, upd2_here]
  have hrow : ∀ κ, κ ≠ 12 → κ ≠ 13 → vr c4.1 κ = vr c.1 κ := fun κ z1 z2 => by rw [evr]; exact s4 κ z1 z2
  have i64 : vi c4.1 64 = nI t := by rw [evi, s2 64 (by omega)]; exact h64
  have i66 : vi c4.1 66 = nI n := by rw [evi, s2 66 (by omega)]; exact h66
  refine ⟨fun c1 => q_Tree_dropLast F ?_, fun c1 => ?_⟩
  · have hnl := bI_0 c1
    intro m9 e9 m10 e10
    obtain ⟨t', rfl⟩ : ∃ t', t = t' + 1 := ⟨t - 1, by omega⟩
    have j64 : vi m9.1 64 = nI t' := by
      rw [e9, cI_at]
      show vi c4.1 64 - 1 = _
      rw [i64, nI_pred]
    rw [j64] at e10
    have hvv : m10.1 = vI (vI (vN c4.1 23 (vn c4.1 23 - 1)) 64 (nI t')) 65 (nI t') := by
      rw [e10, e9]
      show vI (vI _ 64 (vi c4.1 64 - 1)) 65 _ = _
      rw [i64, nI_pred]
    have hct : ct m10.1 = ct c.1 - 1 := by
      rw [hvv]
      show vn c4.1 23 - 1 = _
      rw [evn]
    refine ⟨rfl, h0 (by omega) m10 ⟨?_, fun k z1 z2 z3 z4 => ?_, fun k z => ?_, by omega, fun κ z1 z2 => ?_, ?_, ?_, fun j k z1 z2 _ => ?_⟩ ⟨?_, ?_, ?_, ?_, ?_, ?_, ?_, ?_, ?_⟩ ?_ ?_ ?_ (fun j k z1 z2 => ?_)⟩
    · rw [e10, e9]; exact e2
    · rw [hvv]
      show (if k = 65 then _ else if k = 64 then _ else vi c4.1 k) = _
      rw [if_neg z3, if_neg z2, evi, s2 k z1]
    · rw [hvv]
      show (if k = 23 then _ else vn c4.1 k) = _
      rw [if_neg z, evn]
    · rw [hvv]; exact hrow κ z1 z2
    · rw [hvv]; exact evo
    · rw [hvv]; exact evy
    · rw [hvv]; exact evbk j k z1 z2
    · rw [hvv]; exact hrow 10 (by decide) (by decide)
    · rw [hvv]; show vr c4.1 12 = _; rw [evr]; exact s5
    · rw [hvv]; show vr c4.1 13 = _; rw [evr]; exact s6
    · rw [hvv]; exact evo
    · intro j hj; rw [hvv]; exact evbj j hj
    · intro k z1 z2; rw [hvv]; exact evbk i k z1 z2
    · rw [hvv]; exact ev5
    · rw [hvv]; exact ev6
    · rw [if_pos (by omega)]; exact hct
    · rw [hvv]; rfl
    · rw [hvv]; rfl
    · rw [hvv]
      show vi c4.1 67 = _
      rw [evi, s2 67 (by omega)]
    · rw [hvv]; exact evbk j k z1 z2
  · have hlt := bI_n0 c1
    refine ⟨i, ⟨by rw [e2]; exact hiN, by rw [e2]⟩, fun m3 e3 => q_Line_underlineLevel F ⟨i, by rw [e3]; exact ⟨by rw [show (cB c4 i 0 5).2 = c4.2 from rfl, e2]; exact hiN, by rw [show (cB c4 i 0 5).2 = c4.2 from rfl, e2]⟩, fun m5 e5 => ⟨i, by rw [e5, e3]; exact ⟨by rw [show (cB (cB c4 i 0 5) i 3 _).2 = c4.2 from rfl, e2]; exact hiN, by rw [show (cB (cB c4 i 0 5) i 3 _).2 = c4.2 from rfl, e2]⟩, fun m6 e6 m7 e7 => ⟨rfl, ?_⟩⟩⟩⟩
    have l11 : vr m3.1 11 = lx c.1 := by rw [e3]; exact hrow 11 (by decide) (by decide)
    have l52 : vn m3.1 52 + vn m3.1 53 = sA c.1 := by
      rw [e3]
      show vn c4.1 52 + vn c4.1 53 = _
      rw [evn]
    rw [l11, l52] at e5
    have l66 : vi m5.1 66 = nI n := by rw [e5, e3]; exact i66
    rw [l66] at e6
    have hvv : m7.1 = vI (vB (vB (vB c4.1 i 0 5) i 3 (nI (ulLv (lx c.1) (sA c.1)))) i 10 (nI n)) 67 1 := by rw [e7, e6, e5, e3]; rfl
    have hvb7 : vb m7.1 = upd2 (upd2 (upd2 (vb c4.1) i 0 5) i 3 (nI (ulLv (lx c.1) (sA c.1)))) i 10 (nI n) := by rw [hvv]; rfl
    refine h1 (by omega) m7 c4.1 ⟨?_, fun k z1 z2 z3 z4 => ?_, fun k z => ?_, ?_, fun κ z1 z2 => ?_, ?_, ?_, fun j k z1 z2 z3 => ?_⟩ ⟨hrow 10 (by decide) (by decide), by rw [evr]; exact s5, by rw [evr]; exact s6, evo, evbj, fun k z1 z2 => evbk i k z1 z2, ev5, ev6, ?_⟩ hvv i64 ?_
    · rw [e7, e6, e5, e3]; exact e2
    · rw [hvv]
      show (if k = 67 then _ else vi c4.1 k) = _
      rw [if_neg z4, evi, s2 k z1]
    · rw [hvv]
      show vn c4.1 k = _
      rw [evn]
    · rw [hvv]
      show vn c4.1 23 ≤ _
      rw [evn]
      exact Nat.le_refl _
    · rw [hvv]; exact hrow κ z1 z2
    · rw [hvv]; exact evo
    · rw [hvv]; exact evy
    · rw [hvb7, upd2_off (fun y => z3 ⟨y.1, Or.inr (Or.inr y.2)⟩), upd2_off (fun y => z3 ⟨y.1, Or.inr (Or.inl y.2)⟩), upd2_off (fun y => z3 ⟨y.1, Or.inl y.2⟩)]
      exact evbk j k z1 z2
    · rw [if_neg (by omega)]
      show vn c4.1 23 = _
      rw [evn]
    · show vn c4.1 23 = _
      rw [evn]
