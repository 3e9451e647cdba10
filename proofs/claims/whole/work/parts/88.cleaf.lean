/-! leaves begin: the class -/
def PK (c : CS) (t n : Nat) : Prop := CB1 c.1 t t n ∧ ct c.1 ≤ c.2.2 ∧ ct c.1 ≤ 3299 ∧ vi c.1 64 = nI t ∧ t ≤ 12 ∧ (∀ j, j ≤ t → vo c.1 j < ct c.1) ∧ vb c.1 (vo c.1 t) 1 = nI (vo c.1 t) ∧ ld c.1 = spF (lx c.1) (lp c.1) ∧ (lx c.1).length ≤ 12000 ∧ lp c.1 ≤ (lx c.1).length
abbrev hdA (xs : List Int32) (s : Nat) : Nat := s + hdLv xs s + spF xs (s + hdLv xs s)
abbrev hdK (xs : List Int32) (a : Nat) : Nat := bfC xs a 35 (bfC xs a 32 xs.length)
abbrev hdT (xs : List Int32) (a : Nat) : Nat := if hdK xs a = a ∨ rowAt xs (nI (hdK xs a - 1)) = 32 then bfC xs a 32 (hdK xs a) else bfC xs a 32 xs.length
abbrev hdO (xs : List Int32) (s : Nat) : List Int32 := sl xs (hdA xs s) (hdT xs (hdA xs s))
abbrev fnA (xs : List Int32) (s : Nat) : Nat := s + fnLn xs s + spF xs (s + fnLn xs s)
abbrev fnO (xs : List Int32) (s : Nat) : List Int32 := sl xs (fnA xs s) (bfC xs (fnA xs s) 32 xs.length)
theorem hdLv_in {xs : List Int32} {s : Nat} (h : s ≤ xs.length) : s + hdLv xs s ≤ xs.length := by
  have := run_in (xs := xs) (p := fun z => z == rowAt xs (nI s)) h
  unfold hdLv
  split
  · split
    · unfold smF; exact this
    · omega
  · omega
theorem fnLn_in {xs : List Int32} {s : Nat} (h : s ≤ xs.length) : s + fnLn xs s ≤ xs.length := by
  have := run_in (xs := xs) (p := fun z => z == rowAt xs (nI s)) h
  have e : smF xs s = runFrom (fun z => z == rowAt xs (nI s)) xs s := rfl
  unfold fnLn
  split
  · split
    · omega
    · split <;> omega
  · omega
theorem hdT_in {xs : List Int32} {a : Nat} (h : a ≤ xs.length) : a ≤ hdT xs a ∧ hdT xs a ≤ xs.length := by
  have h1 := bfC_ge xs a 32 xs.length h
  have h2 := bfC_le xs a 32 xs.length
  have h3 := bfC_ge xs a 35 _ h1
  have h4 := bfC_le xs a 35 (bfC xs a 32 xs.length)
  have h5 := bfC_ge xs a 32 _ h3
  have h6 := bfC_le xs a 32 (hdK xs a)
  have ek : hdK xs a = bfC xs a 35 (bfC xs a 32 xs.length) := rfl
  unfold hdT
  split <;> constructor <;> omega
section CLEAF
variable {X : CX} {a0 : Array Value}
theorem q_rule (F : cF X a0) (hA : TAok X) {c : CS} {t n : Nat} (hP : PK c t n) {x1 : Int32} {Φ : Option Value → CS → Prop} (hn : ∀ c4, ExC c c4 → ct c4.1 ≤ c4.2.2 → NwC c.1 c4.1 (nI 6) (nI (vo c.1 t)) (nI n) t → Φ (some (.int 1)) (cI c4 67 1)) : w_Rd_carryOut_80 X x1 c Φ := by
  obtain ⟨p1, p2, p3, p4, p5, p6, p7, p8, p9, p10⟩ := hP
  unfold w_Rd_carryOut_80
  refine q_Rd_push (k := 6) F hA p2 (by omega) p4 p5 p1.2.2.1 rfl (by have := p6 t (Nat.le_refl _); omega) (fun c4 e1 e2 e3 => ?_)
  rw [p7] at e3
  intro m2 e4
  rw [e4]
  exact hn c4 e1 e2 e3
theorem q_indented (F : cF X a0) (hA : TAok X) {c : CS} {t n : Nat} (hP : PK c t n) {N : CS → Prop} (hn : ∀ c4, ExC c c4 → ct c4.1 ≤ c4.2.2 → NwC c.1 c4.1 (nI 7) (nI (vo c.1 t)) (nI n) t → N (mvT c4.1 (min (lp c.1 + 4) (lx c.1).length), c4.2)) : cE X 9 y_Rd_beginIndented [.ref (adr X 6)] c (cvP N) := by
  obtain ⟨p1, p2, p3, p4, p5, p6, p7, p8, p9, p10⟩ := hP
  refine g_Rd_beginIndented F ?_
  unfold w_Rd_beginIndented_0
  refine q_Rd_push (k := 7) F hA p2 (by omega) p4 p5 p1.2.2.1 rfl (by have := p6 t (Nat.le_refl _); omega) (fun c4 e1 e2 e3 => ?_)
  rw [p7] at e3
  have hnx := p1.next e3
  refine q_Line_moveOn (p := 4) F rfl (by decide) ⟨rfl, ?_⟩
  have := hn c4 e1 e2 e3
  rw [← hnx.1, ← hnx.2.2.1] at this
  exact this
theorem q_heading (F : cF X a0) (hA : TAok X) {c : CS} {t n : Nat} (hP : PK c t n) {N : CS → Prop} (hs : sA c.1 ≤ (lx c.1).length) (hn : ∀ c4, ExC c c4 → ct c4.1 ≤ c4.2.2 → NwC c.1 c4.1 (nI 5) (nI (vo c.1 t)) (nI n) t → N (vI (vB (vR (vB c4.1 (ct c.1) 3 (nI (hdLv (lx c.1) (sA c.1)))) 10 (tx c.1 ++ hdO (lx c.1) (sA c.1))) (ct c.1) 6 (nI (hdO (lx c.1) (sA c.1)).length)) 67 1, c4.2)) : cE X 9 y_Rd_beginHeading [.ref (adr X 6)] c (cvP N) := by
  obtain ⟨p1, p2, p3, p4, p5, p6, p7, p8, p9, p10⟩ := hP
  have hT := p1.2.2.2.2.2.2.2.2.1
  have hlv := hdLv_in hs
  have hsp := run_in (xs := lx c.1) (p := fun z => z == 32) hlv
  have ha : hdA (lx c.1) (sA c.1) ≤ (lx c.1).length := hsp
  generalize hxs : lx c.1 = xs at *
  generalize hss : sA c.1 = s at *
  generalize haa : hdA xs s = a at *
  have hTi := hdT_in ha
  have h1 := bfC_ge xs a 32 xs.length ha
  have h2 := bfC_le xs a 32 xs.length
  -- the state behind the push
  refine g_Rd_beginHeading (I50 := fun j b1 x2 x3 x4 c' => x2 = nI a ∧ x3 = nI (bfC xs a 32 xs.length) ∧ x4 = nI j ∧ a ≤ j ∧ j ≤ xs.length ∧ bfC xs a 35 j = hdK xs a ∧ ∃ c4, (∀ os, N (vI (vB (vR (vB c4.1 (ct c.1) 3 (nI (hdLv xs s))) 10 (tx c.1 ++ hdO xs s)) (ct c.1) 6 (nI (hdO xs s).length)) 67 1, c4.2) ∧ os = ()) ∧ c' = cB c4 (ct c.1) 3 (nI (hdLv xs s)) ∧ ct c.1 < c4.2.2 ∧ b1 = c4.2.1 (ct c.1) ∧ lx c4.1 = xs ∧ tx c4.1 = tx c.1 ∧ vb c4.1 (ct c.1) 5 = nI (tx c.1).length) F ?_ ?_
  · unfold w_Rd_beginHeading_0
    refine q_Rd_push (k := 5) F hA p2 (by omega) p4 p5 p1.2.2.1 rfl (by have := p6 t (Nat.le_refl _); omega) (fun c4 e1 e2 e3 => ?_)
    rw [p7] at e3
    have hnx := p1.next e3
    have hx4 : vr c4.1 11 = xs := hnx.1.trans hxs
    have hs4 : vn c4.1 52 + vn c4.1 53 = s := by
      rw [← hss]
      show lp c4.1 + ld c4.1 = _
      rw [hnx.2.2.1, hnx.2.2.2]
    have hb : isB c4 (c4.2.1 (ct c.1)) (ct c.1) := ⟨by have := e3.1; omega, rfl⟩
    refine q_Line_headingLevel F ?_
    rw [hx4, hs4]
    refine ⟨ct c.1, hb, fun m3 e5 => q_Line_start F ⟨ct c.1, by rw [e5]; exact hb, ?_⟩⟩
    have hs5 : vn m3.1 52 + vn m3.1 53 = s := by rw [e5]; exact hs4
    have hx5 : lx m3.1 = xs := by rw [e5]; exact hx4
    have h35 : vb m3.1 (ct c.1) 3 = nI (hdLv xs s) := by rw [e5]; exact upd2_here
    rw [hs5, h35, nI_add]
    refine q_Rd_afterSpaces F (by rw [hx5]; omega) (by rw [hx5]; exact hlv) ?_
    rw [hx5, show s + hdLv xs s + spF xs (s + hdLv xs s) = a from haa]
    refine q_Line_size F ?_
    rw [show vr m3.1 11 = xs from hx5]
    refine q_Rd_beforeSpaces F (by omega) (by omega) ?_
    rw [hx5]
    refine ⟨bfC xs a 32 xs.length, rfl, rfl, rfl, h1, h2, rfl, c4, fun _ => ⟨?_, rfl⟩, e5, by have := e3.1; omega, rfl, hx4, hnx.2.1, by rw [e3.2.2.1]; rfl⟩
    exact hn c4 e1 e2 e3
  · rintro j b1 x2 x3 x4 c' ⟨rfl, rfl, rfl, hj1, hj2, hj3, c4, hN, rfl, hlt, rfl, hx4, ht4, hv5⟩
    have hN := (hN ()).1
    have hb : isB (cB c4 (ct c.1) 3 (nI (hdLv xs s))) (c4.2.1 (ct c.1)) (ct c.1) := ⟨hlt, rfl⟩
    have hxx : vr (cB c4 (ct c.1) 3 (nI (hdLv xs s))).1 11 = xs := hx4
    have h108 : ∀ (e : Nat) (x4 : Int32), e = hdT xs a → w_Rd_beginHeading_108 X (c4.2.1 (ct c.1)) (nI a) (nI e) x4 (cB c4 (ct c.1) 3 (nI (hdLv xs s))) (cvP N) := by
      intro e x4 he
      have hT1 := hT
      unfold w_Rd_beginHeading_108
      refine q_Rd_copy (c := cB c4 (ct c.1) 3 (nI (hdLv xs s))) (T := tx c.1) (a := a) (b := e) F ht4 (by rw [show lx (cB c4 (ct c.1) 3 (nI (hdLv xs s))).1 = xs from hx4]; omega) (by rw [show lx (cB c4 (ct c.1) 3 (nI (hdLv xs s))).1 = xs from hx4]; omega) (by omega) (by omega) ?_
      rw [show lx (cB c4 (ct c.1) 3 (nI (hdLv xs s))).1 = xs from hx4, show sl xs a e = hdO xs s by rw [he, ← haa]]
      refine q_Row_size F isR10 ⟨ct c.1, ⟨hlt, rfl⟩, ct c.1, ⟨hlt, rfl⟩, fun m3 e3 m4 e4 => ⟨rfl, ?_⟩⟩
      have hv : nI (vr (vR (cB c4 (ct c.1) 3 (nI (hdLv xs s))).1 10 (tx c.1 ++ hdO xs s)) 10).length - vb (vR (cB c4 (ct c.1) 3 (nI (hdLv xs s))).1 10 (tx c.1 ++ hdO xs s)) (ct c.1) 5 = nI (hdO xs s).length := by
        rw [vr_at]
        show _ - upd2 (vb c4.1) (ct c.1) 3 _ (ct c.1) 5 = _
        rw [upd2_off (fun y => absurd y.2 (by decide)), hv5, List.length_append, pk_sub (Nat.le_add_right _ _), Nat.add_sub_cancel_left]
      rw [hv] at e3
      rw [e4, e3]
      exact hN
    have h100 : j = hdK xs a → (j = a ∨ rowAt xs (nI (j - 1)) = 32) → w_Rd_beginHeading_100 X (c4.2.1 (ct c.1)) (nI a) (nI (bfC xs a 32 xs.length)) (nI j) (cB c4 (ct c.1) 3 (nI (hdLv xs s))) (cvP N) := by
      intro ej hx
      unfold w_Rd_beginHeading_100
      refine q_Rd_beforeSpaces F (by omega) (by omega) ?_
      rw [show lx (cB c4 (ct c.1) 3 (nI (hdLv xs s))).1 = xs from hx4]
      refine h108 _ _ ?_
      unfold hdT
      rw [← ej, if_pos hx]
    have h78 : j = hdK xs a → w_Rd_beginHeading_78 X (c4.2.1 (ct c.1)) (nI a) (nI (bfC xs a 32 xs.length)) (nI j) (cB c4 (ct c.1) 3 (nI (hdLv xs s))) (cvP N) := by
      intro ej
      unfold w_Rd_beginHeading_78
      rw [nI_eq (by omega) (by omega)]
      refine ⟨fun z => h100 ej (Or.inl z), fun z => ?_⟩
      obtain ⟨j', rfl⟩ : ∃ j', j = j' + 1 := ⟨j - 1, by omega⟩
      rw [nI_pred]
      refine q_Line_at F ?_
      rw [hxx]
      refine ⟨fun z2 => h100 ej (Or.inr z2), fun z2 => h108 _ _ ?_⟩
      unfold hdT
      rw [← ej, if_neg]
      rintro (y | y)
      · exact z y
      · exact z2 y
    unfold w_Rd_beginHeading_50
    rw [nI_leI (by omega) (by omega)]
    cases j with
    | zero => exact ⟨fun _ => h78 (by rw [← hj3]; rfl), fun z => by omega⟩
    | succ j =>
      refine ⟨fun z => h78 (by rw [← hj3, bfC, if_neg (fun q => by omega)]), fun z => ?_⟩
      rw [nI_pred]
      refine q_Line_at F ?_
      rw [hxx]
      refine ⟨fun c2 => ⟨j, by omega, rfl, rfl, nI_dec j, by omega, by omega, ?_, c4, fun _ => ⟨hN, rfl⟩, rfl, hlt, rfl, hx4, ht4, hv5⟩, fun c2 => h78 ?_⟩
      · rw [← hj3, bfC.eq_2, if_pos ⟨by omega, c2⟩]
      · rw [← hj3, bfC, if_neg (fun q => c2 q.2)]
theorem q_fenced (F : cF X a0) (hA : TAok X) {c : CS} {t n : Nat} (hP : PK c t n) {N : CS → Prop} (hs : sA c.1 ≤ (lx c.1).length) (hn : ∀ c4, ExC c c4 → ct c4.1 ≤ c4.2.2 → NwC c.1 c4.1 (nI 7) (nI (vo c.1 t)) (nI n) t → N (vI (vB (vB (vR (vI (vI (vB c4.1 (ct c.1) 12 (rowAt (lx c.1) (nI (sA c.1)))) 68 (nI (fnLn (lx c.1) (sA c.1)))) 69 (nI (ld c.1))) 10 (tx c.1 ++ fnO (lx c.1) (sA c.1))) (ct c.1) 8 (nI (fnO (lx c.1) (sA c.1)).length)) (ct c.1) 5 (nI ((tx c.1).length + (fnO (lx c.1) (sA c.1)).length))) 67 1, c4.2)) : cE X 9 y_Rd_beginFenced [.ref (adr X 6)] c (cvP N) := by
  obtain ⟨p1, p2, p3, p4, p5, p6, p7, p8, p9, p10⟩ := hP
  have hT := p1.2.2.2.2.2.2.2.2.1
  have hlv := fnLn_in hs
  have hsp := run_in (xs := lx c.1) (p := fun z => z == 32) hlv
  have ha : fnA (lx c.1) (sA c.1) ≤ (lx c.1).length := hsp
  have ha2 : sA c.1 + fnLn (lx c.1) (sA c.1) + spF (lx c.1) (sA c.1 + fnLn (lx c.1) (sA c.1)) ≤ (lx c.1).length := hsp
  have h1 := bfC_ge (lx c.1) (fnA (lx c.1) (sA c.1)) 32 (lx c.1).length ha
  have h2 := bfC_le (lx c.1) (fnA (lx c.1) (sA c.1)) 32 (lx c.1).length
  refine g_Rd_beginFenced F ?_
  unfold w_Rd_beginFenced_0
  refine q_Rd_push (k := 7) F hA p2 (by omega) p4 p5 p1.2.2.1 rfl (by have := p6 t (Nat.le_refl _); omega) (fun c4 e1 e2 e3 => ?_)
  rw [p7] at e3
  have hnx := p1.next e3
  have hx4 : vr c4.1 11 = lx c.1 := hnx.1
  have hs4 : vn c4.1 52 + vn c4.1 53 = sA c.1 := by
    show lp c4.1 + ld c4.1 = _
    rw [hnx.2.2.1, hnx.2.2.2]
  have hlt : ct c.1 < c4.2.2 := by have := e3.1; omega
  have hb : isB c4 (c4.2.1 (ct c.1)) (ct c.1) := ⟨hlt, rfl⟩
  have h7 : vb c4.1 (ct c.1) 7 = nI (tx c.1).length := by rw [e3.2.2.1]; rfl
  refine q_Line_start F (q_Line_at F ?_)
  rw [hs4, hx4]
  refine ⟨ct c.1, hb, fun m4 e4 => q_Line_fenceLength F (fun m6 e6 => q_Line_indent F (fun m8 e8 => q_Line_start F ?_))⟩
  have hm8 : m8 = (vI (vI (vB c4.1 (ct c.1) 12 (rowAt (lx c.1) (nI (sA c.1)))) 68 (nI (fnLn (lx c.1) (sA c.1)))) 69 (nI (ld c.1)), c4.2) := by
    have f1 : vr m4.1 11 = lx c.1 := by rw [e4]; exact hx4
    have f2 : vn m4.1 52 + vn m4.1 53 = sA c.1 := by rw [e4]; exact hs4
    have f3 : vn m6.1 53 = ld c.1 := by rw [e6, e4]; exact hnx.2.2.2
    rw [f1, f2] at e6
    rw [f3] at e8
    rw [e8, e6, e4]
    rfl
  have g68 : vi m8.1 68 = nI (fnLn (lx c.1) (sA c.1)) := by rw [hm8]; rfl
  have g52 : vn m8.1 52 + vn m8.1 53 = sA c.1 := by rw [hm8]; exact hs4
  have g11 : lx m8.1 = lx c.1 := by rw [hm8]; exact hx4
  rw [g68, g52, nI_add]
  refine q_Rd_afterSpaces F (by rw [g11]; omega) (by rw [g11]; exact hlv) (q_Line_size F ?_)
  rw [show vr m8.1 11 = lx c.1 from g11]
  refine q_Rd_beforeSpaces F (by rw [g11]; clear hs4 g52; omega) (by omega) ?_
  rw [g11]
  refine q_Rd_copy (T := tx c.1) F (by rw [hm8]; exact hnx.2.1) (by rw [g11]; exact h2) (by rw [g11]; omega) (by omega) (show (tx c.1).length + (bfC (lx c.1) (fnA (lx c.1) (sA c.1)) 32 (lx c.1).length - fnA (lx c.1) (sA c.1)) ≤ 16000 by omega) ?_
  rw [g11]
  refine q_Row_size F isR10 ⟨ct c.1, by rw [hm8]; exact hb, ct c.1, by rw [hm8]; exact hb, fun m15 e15 => q_Row_size F isR10 ⟨ct c.1, by rw [e15, hm8]; exact hb, fun m17 e17 m18 e18 => ⟨rfl, ?_⟩⟩⟩
  have hv : nI (vr (vR m8.1 10 (tx c.1 ++ fnO (lx c.1) (sA c.1))) 10).length - vb (vR m8.1 10 (tx c.1 ++ fnO (lx c.1) (sA c.1))) (ct c.1) 7 = nI (fnO (lx c.1) (sA c.1)).length := by
    rw [vr_at, hm8]
    show _ - upd2 (vb c4.1) (ct c.1) 12 _ (ct c.1) 7 = _
    rw [upd2_off (fun y => absurd y.2 (by decide)), h7, List.length_append, pk_sub (Nat.le_add_right _ _), Nat.add_sub_cancel_left]
  have hv' : m15 = cB (vR m8.1 10 (tx c.1 ++ fnO (lx c.1) (sA c.1)), m8.2) (ct c.1) 8 (nI (fnO (lx c.1) (sA c.1)).length) := by
    rw [← hv]
    exact e15
  have hr : nI (vr m15.1 10).length = nI ((tx c.1).length + (fnO (lx c.1) (sA c.1)).length) := by
    rw [hv']
    show nI (vr (vR m8.1 10 (tx c.1 ++ fnO (lx c.1) (sA c.1))) 10).length = _
    rw [vr_at, List.length_append]
  rw [hr] at e17
  rw [e18, e17, hv', hm8]
  exact hn c4 e1 e2 e3
end CLEAF
