/-! what begins at the place: class -/
abbrev sA (v : VS) : Nat := lp v + ld v
def bgF (v : VS) (kh kt : Nat) : Nat :=
  if (lx v).length ≤ sA v then 0
  else if 4 ≤ ld v then (if kt = 4 then 0 else 9)
  else if rowAt (lx v) (nI (sA v)) = 62 then 1
  else if 0 < hdLv (lx v) (sA v) then 5
  else if 0 < fnLn (lx v) (sA v) then 8
  else if kh = 4 ∧ 0 < ulLv (lx v) (sA v) then 10
  else if rlB (lx v) (sA v) = true then 6
  else if mkB (lx v) (sA v) = true ∧ (kh = 4 → ¬ blF (lx v) (sA v + (dgC (lx v) (sA v) + 1)) ∧ (dgC (lx v) (sA v) = 0 ∨ dgN (lx v) (sA v) (dgC (lx v) (sA v)) = 1)) then 3 else 0
/-- behind findMark -/
def mkT (v : VS) : VS := vI (vN (vI v 54 (mkS (lx v) (sA v))) 55 (dgC (lx v) (sA v) + 1)) 56 (dgN (lx v) (sA v) (dgC (lx v) (sA v)))
abbrev bgI (k : Nat) : Int32 := if k = 0 then -1 else nI k
section LOOK
variable {X : CX} {a0 : Array Value} {c : CS} {N : Int32 → CS → Prop}
theorem q_Rd_kindAtHand (F : cF X a0) {h kh : Nat} (h65 : vi c.1 65 = nI h) (hh : h ≤ 13) (ho : vo c.1 h < c.2.2) (hk : vb c.1 (vo c.1 h) 0 = nI kh) (hN : N (nI kh) c) : cE X 1 y_Rd_kindAtHand [.ref (adr X 6)] c (ciP N) := by
  refine g_Rd_kindAtHand F ?_
  unfold w_Rd_kindAtHand_0
  rw [h65]
  exact q_Rd_openAt F hh ⟨vo c.1 h, ⟨ho, rfl⟩, ciP.i hN hk⟩
theorem q_Rd_beginningAtPlace (F : cF X a0) {h t kh kt : Nat} (h65 : vi c.1 65 = nI h) (hh : h ≤ 13) (h64 : vi c.1 64 = nI t) (ht : t ≤ 13) (ho : vo c.1 h < c.2.2) (ho2 : vo c.1 t < c.2.2) (hk : vb c.1 (vo c.1 h) 0 = nI kh) (hkh : kh ≤ 7) (hk2 : vb c.1 (vo c.1 t) 0 = nI kt) (hkt : kt ≤ 7) (hlx : (lx c.1).length ≤ 12100) (hs : sA c.1 ≤ (lx c.1).length)
    (hN : ∀ c', c'.2 = c.2 → (c'.1 = c.1 ∨ c'.1 = mkT c.1) → (bgF c.1 kh kt = 3 → c'.1 = mkT c.1) → N (bgI (bgF c.1 kh kt)) c') : cE X 4 y_Rd_beginningAtPlace [.ref (adr X 6)] c (ciP N) := by
  have e53 : vn c.1 53 = ld c.1 := rfl
  have e52 : vn c.1 52 = lp c.1 := rfl
  have e11 : (vr c.1 11).length = (lx c.1).length := rfl
  have hsm : smF (lx c.1) (sA c.1) ≤ 12100 := by
    have := run_in (xs := lx c.1) (p := fun z => z == rowAt (lx c.1) (nI (sA c.1))) hs
    unfold smF
    omega
  have hhd : hdLv (lx c.1) (sA c.1) ≤ 12100 := by unfold hdLv; split <;> (try split) <;> omega
  have hfn : fnLn (lx c.1) (sA c.1) ≤ 12100 := by unfold fnLn; split <;> (try split) <;> (try split) <;> omega
  have hul : ulLv (lx c.1) (sA c.1) ≤ 2 := by unfold ulLv; split <;> (try split) <;> omega
  have hout : ∀ k, bgF c.1 kh kt = k → k ≠ 3 → N (bgI k) c := fun k e z => by
    have := hN c rfl (Or.inl rfl) (fun y => by omega)
    rw [e] at this
    exact this
  refine g_Rd_beginningAtPlace F ?_
  unfold w_Rd_beginningAtPlace_0
  refine q_Line_isBlank F ⟨fun c1 => q_Line_isTooFar F ⟨fun c2 => ?_, fun c2 => ?_⟩, fun c1 => ciP.i (hout 0 (by unfold bgF; rw [if_pos (bI_n0 c1)]) (by decide)) rfl⟩
  · have n1 : ¬ (lx c.1).length ≤ sA c.1 := bI_0 c1
    have n2 : ¬ 4 ≤ ld c.1 := bI_0 c2
    refine q_Line_hasQuoteMark F ⟨fun c3 => ?_, fun c3 => ciP.i (hout 1 (by unfold bgF; rw [if_neg n1, if_neg n2, if_pos (bI_n0 c3).2]) (by decide)) rfl⟩
    have n3 : ¬ rowAt (lx c.1) (nI (sA c.1)) = 62 := fun y => bI_0 c3 ⟨by omega, y⟩
    refine q_Line_headingLevel F ?_
    rw [show ((0 : Int32)) = nI 0 from rfl]
    refine ⟨fun c4 => ?_, fun c4 => ?_⟩
    rotate_left
    · rw [nI_leI (by show hdLv (lx c.1) (sA c.1) < _; omega) (by decide)] at c4
      exact ciP.i (hout 5 (by unfold bgF; rw [if_neg n1, if_neg n2, if_neg n3, if_pos (show 0 < hdLv (lx c.1) (sA c.1) from Nat.lt_of_not_le c4)]) (by decide)) rfl
    rw [nI_leI (by show hdLv (lx c.1) (sA c.1) < _; omega) (by decide)] at c4
    have n4 : ¬ 0 < hdLv (lx c.1) (sA c.1) := Nat.not_lt.mpr c4
    refine q_Line_fenceLength F ⟨fun c5 => ?_, fun c5 => ?_⟩
    rotate_left
    · rw [nI_leI (by show fnLn (lx c.1) (sA c.1) < _; omega) (by decide)] at c5
      exact ciP.i (hout 8 (by unfold bgF; rw [if_neg n1, if_neg n2, if_neg n3, if_neg n4, if_pos (show 0 < fnLn (lx c.1) (sA c.1) from Nat.lt_of_not_le c5)]) (by decide)) rfl
    rw [nI_leI (by show fnLn (lx c.1) (sA c.1) < _; omega) (by decide)] at c5
    have n5 : ¬ 0 < fnLn (lx c.1) (sA c.1) := Nat.not_lt.mpr c5
    -- what is left
    have h112 : ∀ s0 : Int32, s0 = bI (kh = 4) → ¬ (kh = 4 ∧ 0 < ulLv (lx c.1) (sA c.1)) → w_Rd_beginningAtPlace_112 X s0 c (ciP N) := by
      intro s0 hs0 n6
      unfold w_Rd_beginningAtPlace_112
      refine q_Line_isRule F ⟨fun c7 => q_Line_findMark F ?_, fun c7 => ciP.i (hout 6 (by unfold bgF; rw [if_neg n1, if_neg n2, if_neg n3, if_neg n4, if_neg n5, if_neg n6, if_pos (bI_n0 c7)]) (by decide)) rfl⟩
      have n7 : ¬ rlB (lx c.1) (sA c.1) = true := bI_0 c7
      have hb : bgF c.1 kh kt = if mkB (lx c.1) (sA c.1) = true ∧ (kh = 4 → ¬ blF (lx c.1) (sA c.1 + (dgC (lx c.1) (sA c.1) + 1)) ∧ (dgC (lx c.1) (sA c.1) = 0 ∨ dgN (lx c.1) (sA c.1) (dgC (lx c.1) (sA c.1)) = 1)) then 3 else 0 := by unfold bgF; rw [if_neg n1, if_neg n2, if_neg n3, if_neg n4, if_neg n5, if_neg n6, if_neg n7]
      have h0 : bgF c.1 kh kt = 0 → ciP N (some (.int (-1))) (mkT c.1, c.2) := fun e => by
        have := hN (mkT c.1, c.2) rfl (Or.inr rfl) (fun _ => rfl)
        rw [e] at this
        exact ciP.i this rfl
      have h3 : bgF c.1 kh kt = 3 → ciP N (some (.int 3)) (mkT c.1, c.2) := fun e => by
        have := hN (mkT c.1, c.2) rfl (Or.inr rfl) (fun _ => rfl)
        rw [e] at this
        exact ciP.i this rfl
      refine ⟨fun c8 => h0 (by rw [hb, if_neg (fun y => bI_0 c8 y.1)]), fun c8 => ⟨fun c9 => h3 ?_, fun c9 => ?_⟩⟩
      · rw [hs0] at c9
        rw [hb, if_pos ⟨bI_n0 c8, fun y => absurd y (bI_0 c9)⟩]
      · rw [hs0] at c9
        have h4 := bI_n0 c9
        refine q_Line_markEndsParagraph F ?_
        have hx : (¬ blF (vr (mkT c.1) 11) (vn (mkT c.1) 52 + vn (mkT c.1) 53 + vn (mkT c.1) 55) ∧ (vn (mkT c.1) 55 = 1 ∨ vi (mkT c.1) 56 = 1)) ↔ (¬ blF (lx c.1) (sA c.1 + (dgC (lx c.1) (sA c.1) + 1)) ∧ (dgC (lx c.1) (sA c.1) = 0 ∨ dgN (lx c.1) (sA c.1) (dgC (lx c.1) (sA c.1)) = 1)) := by
          refine and_congr Iff.rfl (or_congr ?_ Iff.rfl)
          show dgC (lx c.1) (sA c.1) + 1 = 1 ↔ _
          omega
        refine ⟨fun c10 => h0 ?_, fun c10 => h3 ?_⟩
        · rw [hb, if_neg (fun y => bI_0 c10 (hx.mpr (y.2 h4)))]
        · rw [hb, if_pos ⟨bI_n0 c8, fun _ => hx.mp (bI_n0 c10)⟩]
    refine q_Rd_kindAtHand F h65 hh ho hk ?_
    unfold w_Rd_beginningAtPlace_94
    refine ⟨fun c6 => ⟨fun y => absurd y (by decide), fun _ => q_Line_underlineLevel F ⟨fun c7 => ?_, fun c7 => ?_⟩⟩, fun c6 => ⟨fun _ => ?_, fun y => absurd rfl y⟩⟩
    · have h4 : kh = 4 := (lit_eqJ (by decide) (by omega)).mp c6
      rw [show ((0 : Int32)) = nI 0 from rfl, nI_leI (by show ulLv (lx c.1) (sA c.1) < _; omega) (by decide)] at c7
      exact h112 1 (by rw [bI_t h4]) (fun y => Nat.not_lt.mpr c7 y.2)
    · have h4 : kh = 4 := (lit_eqJ (by decide) (by omega)).mp c6
      rw [show ((0 : Int32)) = nI 0 from rfl, nI_leI (by show ulLv (lx c.1) (sA c.1) < _; omega) (by decide)] at c7
      exact ciP.i (hout 10 (by unfold bgF; rw [if_neg n1, if_neg n2, if_neg n3, if_neg n4, if_neg n5, if_pos ⟨h4, Nat.lt_of_not_le c7⟩]) (by decide)) rfl
    · have h4 : ¬ kh = 4 := fun y => c6 ((lit_eqJ (by decide) (by omega)).mpr y)
      exact h112 0 (by rw [bI_f h4]) (fun y => h4 y.1)
  · have n1 : ¬ (lx c.1).length ≤ sA c.1 := bI_0 c1
    have n2 : 4 ≤ ld c.1 := bI_n0 c2
    rw [h64]
    refine q_Rd_openAt F ht ⟨vo c.1 t, ⟨ho2, rfl⟩, ?_⟩
    rw [hk2]
    refine ⟨fun c3 => ?_, fun c3 => ?_⟩
    · exact ciP.i (hout 0 (by unfold bgF; rw [if_neg n1, if_pos n2, if_pos ((lit_eqJ (by decide) (by omega)).mp c3)]) (by decide)) rfl
    · exact ciP.i (hout 9 (by unfold bgF; rw [if_neg n1, if_pos n2, if_neg (fun y => c3 ((lit_eqJ (by decide) (by omega)).mpr y))]) (by decide)) rfl
/-- where the beginning steps out to -/
def stF (v : VS) (h kh bg : Nat) : Nat := if kh = 4 ∨ (kh = 2 ∧ ¬ (bg = 3 ∧ vb v (vo v h) 12 = vi v 54)) then h - 1 else h
theorem q_Rd_stepOutFor (F : cF X a0) {h kh bg : Nat} {M : CS → Prop} (h65 : vi c.1 65 = nI h) (hh : h ≤ 13) (h0 : kh = 4 ∨ kh = 2 → 0 < h) (ho : vo c.1 h < c.2.2) (hk : vb c.1 (vo c.1 h) 0 = nI kh) (hkh : kh ≤ 7) (hbg : bg ≤ 10) (hM : M (cI c 65 (nI (stF c.1 h kh bg)))) : cE X 1 y_Rd_stepOutFor [.ref (adr X 6), .int (nI bg)] c (cvP M) := by
  have hb : isB c (c.2.1 (vo c.1 h)) (vo c.1 h) := ⟨ho, rfl⟩
  refine g_Rd_stepOutFor F ?_
  unfold w_Rd_stepOutFor_0
  rw [h65]
  have h54 : stF c.1 h kh bg = h - 1 → 0 < h → ∀ (x1 : Int32) (b2 : Nat) (x3 : Int32), w_Rd_stepOutFor_54 X x1 b2 x3 c (cvP M) := by
    intro e e0 x1 b2 x3 m1 em
    refine ⟨rfl, ?_⟩
    rw [h65] at em
    obtain ⟨h', rfl⟩ : ∃ h', h = h' + 1 := ⟨h - 1, by omega⟩
    rw [nI_pred] at em
    rw [e, Nat.add_sub_cancel] at hM
    rw [em]
    exact hM
  have h64 : stF c.1 h kh bg = h → ∀ (x1 : Int32) (b2 : Nat) (x3 : Int32), w_Rd_stepOutFor_64 X x1 b2 x3 c (cvP M) := by
    intro e x1 b2 x3
    rw [e, ← h65, cI_self] at hM
    exact ⟨rfl, hM⟩
  have h33 : ∀ (x1 s0 : Int32), ((s0 = 0 ∧ ¬ (bg = 3 ∧ vb c.1 (vo c.1 h) 12 = vi c.1 54)) ∨ (s0 = 1 ∧ (bg = 3 ∧ vb c.1 (vo c.1 h) 12 = vi c.1 54))) → w_Rd_stepOutFor_33 X x1 (c.2.1 (vo c.1 h)) s0 c (cvP M) := by
    intro x1 s0 hs
    unfold w_Rd_stepOutFor_33
    refine ⟨vo c.1 h, hb, ?_⟩
    rw [hk]
    refine ⟨fun c1 => ?_, fun c1 => ⟨vo c.1 h, hb, ?_⟩⟩
    · have h4 : kh = 4 := (lit_eqJ (by decide) (by omega)).mp c1
      exact h54 (by unfold stF; rw [if_pos (Or.inl h4)]) (h0 (Or.inl h4)) _ _ _
    · have n4 : ¬ kh = 4 := fun y => c1 ((lit_eqJ (by decide) (by omega)).mpr y)
      rw [hk]
      refine ⟨fun c2 => ?_, fun c2 => ?_⟩
      · have h2 : kh = 2 := (lit_eqJ (by decide) (by omega)).mp c2
        refine ⟨fun c3 => ?_, fun c3 => ?_⟩
        · rcases hs with y | y
          · exact h54 (by unfold stF; rw [if_pos (Or.inr ⟨h2, y.2⟩)]) (h0 (Or.inr h2)) _ _ _
          · rw [y.1] at c3; exact absurd c3 (by decide)
        · rcases hs with y | y
          · exact absurd y.1 c3
          · exact h64 (by
              unfold stF
              rw [if_neg]
              rintro (z | z)
              · exact n4 z
              · exact z.2 y.2) _ _ _
      · have n2 : ¬ kh = 2 := fun y => c2 ((lit_eqJ (by decide) (by omega)).mpr y)
        exact h64 (by
          unfold stF
          rw [if_neg]
          rintro (z | z)
          · exact n4 z
          · exact n2 z.1) _ _ _
  refine q_Rd_openAt F hh ⟨fun c1 => ⟨vo c.1 h, hb, q_Line_markSign F ⟨fun c2 => ?_, fun c2 => ?_⟩⟩, fun c1 => ?_⟩
  · exact h33 _ 1 (Or.inr ⟨rfl, (lit_eqJ (by decide) (by omega)).mp c1, c2⟩)
  · exact h33 _ 0 (Or.inl ⟨rfl, fun y => c2 y.2⟩)
  · exact h33 _ 0 (Or.inl ⟨rfl, fun y => c1 ((lit_eqJ (by decide) (by omega)).mpr y.1)⟩)
end LOOK
