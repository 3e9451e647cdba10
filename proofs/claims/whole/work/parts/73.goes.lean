/-! does the block i go on? (0, _): no; (1, p): yes, the place is p then; (2, _): a fence ends here -/
abbrev lx (v : VS) : List Int32 := vr v 11
abbrev lp (v : VS) : Nat := vn v 52
abbrev ld (v : VS) : Nat := vn v 53
abbrev fnE (v : VS) (i fl : Nat) : Prop := ld v < 4 ∧ rowAt (lx v) (nI (lp v + ld v)) = vb v i 12 ∧ ¬ nI (smF (lx v) (lp v + ld v)) < nI fl ∧ blF (lx v) (lp v + ld v + smF (lx v) (lp v + ld v))
def gOut (v : VS) (i w fl fi : Nat) : Nat × Nat :=
  if kd v i = 1 then (if ld v < 4 ∧ rowAt (lx v) (nI (lp v + ld v)) = 62 then (1, min (qmP (lx v) (lp v + ld v)) (lx v).length) else (0, 0))
  else if kd v i = 2 then (1, lp v)
  else if kd v i = 3 then (if (lx v).length ≤ lp v + ld v then (if i + 1 < ct v ∧ vb v (i + 1) 2 = nI i then (1, min (lp v + ld v) (lx v).length) else (0, 0)) else if ld v < w then (0, 0) else (1, min (lp v + w) (lx v).length))
  else if kd v i = 4 then (if (lx v).length ≤ lp v + ld v then (0, 0) else (1, lp v))
  else if kd v i = 7 then (if vb v i 12 = 0 then (if ld v < 4 ∧ ¬ (lx v).length ≤ lp v + ld v then (0, 0) else (1, min (lp v + min 4 (ld v)) (lx v).length)) else if fnE v i fl then (2, 0) else (1, min (lp v + min fi (ld v)) (lx v).length))
  else (0, 0)
/-- the line has moved to p -/
def mvT (v : VS) (p : Nat) : VS := vN (vN v 52 p) 53 (spF (lx v) p)
/-- the model's line is the class's -/
def LR (v : VS) (m : MS) : Prop := LnI m (lx v) ∧ m.1 31 = nI (lp v) ∧ lp v ≤ (lx v).length ∧ ld v = spF (lx v) (lp v)
theorem mvT_self {v : VS} (h : ld v = spF (lx v) (lp v)) : mvT v (lp v) = v := by
  unfold mvT
  rw [← h]
  obtain ⟨a, b, r⟩ := v
  unfold vN
  simp only [Prod.mk.injEq, true_and, and_true]
  funext j
  by_cases e : j = 53
  · simp [e]
  · by_cases e2 : j = 52
    · simp [e2]
    · simp [e, e2]
theorem LR.mv {v : VS} {m : MS} {p : Nat} (h : LR v m) (hp : p ≤ (lx v).length) : LR (mvT v p) (mI m 31 (nI p)) := by
  obtain ⟨⟨h1, h2, h3⟩, h4, h5, h6⟩ := h
  exact ⟨⟨(mI_ne (by decide)).trans h1, h2, h3⟩, mI_at _ _ _, hp, rfl⟩
section CLGOES
variable {X : CX} {a0 : Array Value} {c : CS} {N : Int32 → CS → Prop}
theorem q_Rd_goesOn (F : cF X a0) {i w fl fi : Nat} {m : MS} {μ : Nat → Nat} (hi : i < c.2.2) (hK : BK c.1 m μ i) (hL : ld c.1 = spF (lx c.1) (lp c.1)) (hlx : (lx c.1).length ≤ 12100) (hlp : lp c.1 ≤ (lx c.1).length) (hw : kd c.1 i = 3 → vb c.1 i 11 = nI w ∧ w ≤ 13000) (hfl : kd c.1 i = 7 → vb c.1 i 12 ≠ 0 → vi c.1 68 = nI fl ∧ vi c.1 69 = nI fi ∧ fl ≤ 13000 ∧ fi ≤ 13000)
    (h0 : (gOut c.1 i w fl fi).1 = 0 → N 0 c) (h1 : (gOut c.1 i w fl fi).1 = 1 → N 1 (mvT c.1 (gOut c.1 i w fl fi).2, c.2)) (h2 : (gOut c.1 i w fl fi).1 = 2 → N 0 (cI (cI (cB c i 10 (vi c.1 66)) 64 (vi c.1 64 - 1)) 67 1)) : cE X 6 y_Rd_goesOn [.ref (adr X 6), .ref (c.2.1 i)] c (ciP N) := by
  have hb : isB c (c.2.1 i) i := ⟨hi, rfl⟩
  have e53 : vn c.1 53 = ld c.1 := rfl
  have e52 : vn c.1 52 = lp c.1 := rfl
  have e11 : (vr c.1 11).length = (lx c.1).length := rfl
  have hk := hK.1
  have hk7 := hk.2.1
  have hld : ld c.1 ≤ 12100 := by
    rw [hL]
    have := run_in (xs := lx c.1) (p := fun z => z == 32) hlp
    show runFrom _ _ _ ≤ _
    omega
  have hself : ((mvT c.1 (lp c.1), c.2) : CS) = c := by rw [mvT_self hL]
  have hmove : ∀ (s1 : Int32) (p : Nat) (Ψ : CS → Prop), s1 = nI p → p ≤ 30000 → Ψ (mvT c.1 (min (lp c.1 + p) (lx c.1).length), c.2) → cE X 2 y_Line_moveOn [.ref (adr X 5), .int s1] c (cvP Ψ) := fun s1 p Ψ e1 e2 e3 => q_Line_moveOn F e1 (by omega) e3
  refine g_Rd_goesOn F ⟨i, hb, fun z => ?_, fun z => ?_, fun z => ?_, fun z => ?_, fun z => ?_, fun z => ?_, fun z => ?_, fun z => ?_⟩
  · rw [hk.1, nI_toInt (by omega)] at z
    have hk0 : kd c.1 i = 0 := by omega
    exact ciP.i (h0 (by unfold gOut; simp [hk0])) rfl
  · have hz := (nI_kd hK 1 (by decide)).mp z
    refine q_Line_passQuoteMark F (fun y => ⟨mZ0, ciP.i (h0 ?_) rfl⟩) (fun y => ⟨mZ1, ciP.i ?_ rfl⟩)
    · unfold gOut; rw [if_pos hz, if_neg y]
    · have : gOut c.1 i w fl fi = (1, min (qmP (lx c.1) (lp c.1 + ld c.1)) (lx c.1).length) := by unfold gOut; rw [if_pos hz, if_pos y]
      rw [this] at h1
      exact h1 rfl
  · have hz := (nI_kd hK 2 (by decide)).mp z
    have : gOut c.1 i w fl fi = (1, lp c.1) := by unfold gOut; rw [if_neg (by omega), if_pos hz]
    rw [this] at h1
    have := h1 rfl
    rw [hself] at this
    exact ciP.i this rfl
  · have hz := (nI_kd hK 3 (by decide)).mp z
    obtain ⟨hw1, hw2⟩ := hw hz
    have hG : gOut c.1 i w fl fi = (if (lx c.1).length ≤ lp c.1 + ld c.1 then (if i + 1 < ct c.1 ∧ vb c.1 (i + 1) 2 = nI i then (1, min (lp c.1 + ld c.1) (lx c.1).length) else (0, 0)) else if ld c.1 < w then (0, 0) else (1, min (lp c.1 + w) (lx c.1).length)) := by unfold gOut; rw [if_neg (by omega), if_neg (by omega), if_pos hz]
    refine g_Rd_itemGoesOn F (q_Line_isBlank F ⟨fun c1 => q_Line_indent F ⟨i, hb, ?_⟩, fun c1 => q_Tree_holds F hi hK.2.2.1 ?_⟩)
    · have hnb := bI_0 c1
      rw [hw1]
      simp (discharger := omega) only [nI_leI]
      rw [if_neg hnb] at hG
      refine ⟨fun c2 => ⟨fun _ => ⟨i, hb, ?_⟩, fun y => absurd c1 y⟩, fun c2 => ⟨_, rfl, mZ0, ciP.i (h0 ?_) rfl⟩⟩
      · rw [hw1]
        refine hmove _ w _ rfl (by omega) ⟨_, rfl, mZ1, ciP.i ?_ rfl⟩
        rw [if_neg (by omega)] at hG
        rw [hG] at h1
        exact h1 rfl
      · rw [hG, if_pos (by omega)]
    · have hbl := bI_n0 c1
      rw [if_pos hbl] at hG
      refine ⟨fun c2 => ⟨_, rfl, mZ0, ciP.i (h0 ?_) rfl⟩, fun c2 => ⟨fun y => absurd y c1, fun _ => q_Line_indent F (hmove _ (ld c.1) _ rfl (by omega) ⟨_, rfl, mZ1, ciP.i ?_ rfl⟩)⟩⟩
      · rw [hG, if_neg (bI_0 c2)]
      · rw [if_pos (bI_n0 c2)] at hG
        rw [hG] at h1
        exact h1 rfl
  · have hz := (nI_kd hK 4 (by decide)).mp z
    have hG : gOut c.1 i w fl fi = (if (lx c.1).length ≤ lp c.1 + ld c.1 then (0, 0) else (1, lp c.1)) := by unfold gOut; rw [if_neg (by omega), if_neg (by omega), if_neg (by omega), if_pos hz]
    refine q_Line_isBlank F ⟨fun c1 => ⟨mZ1, ?_⟩, fun c1 => ⟨mZ0, ciP.i (h0 ?_) rfl⟩⟩
    · rw [if_neg (bI_0 c1)] at hG
      rw [hG] at h1
      have := h1 rfl
      rw [hself] at this
      exact ciP.i this rfl
    · rw [hG, if_pos (bI_n0 c1)]
  · have hz := (nI_kd hK 5 (by decide)).mp z
    exact ciP.i (h0 (by unfold gOut; simp [hz])) rfl
  · have hz := (nI_kd hK 6 (by decide)).mp z
    exact ciP.i (h0 (by unfold gOut; simp [hz])) rfl
  · have hz := (nI_kd hK 7 (by decide)).mp z
    have hG : gOut c.1 i w fl fi = (if vb c.1 i 12 = 0 then (if ld c.1 < 4 ∧ ¬ (lx c.1).length ≤ lp c.1 + ld c.1 then (0, 0) else (1, min (lp c.1 + min 4 (ld c.1)) (lx c.1).length)) else if fnE c.1 i fl then (2, 0) else (1, min (lp c.1 + min fi (ld c.1)) (lx c.1).length)) := by unfold gOut; rw [if_neg (by omega), if_neg (by omega), if_neg (by omega), if_neg (by omega), if_pos hz]
    refine ⟨i, hb, fun c1 => ?_, fun c1 => ?_⟩
    · rw [if_pos c1] at hG
      have h23 : ¬ (ld c.1 < 4 ∧ ¬ (lx c.1).length ≤ lp c.1 + ld c.1) → w_Rd_indentedGoesOn_23 X c (ciP fun r4 m4 => w_Rd_goesOn_99 X (c.2.1 i) r4 m4 (ciP N)) := by
        intro y
        rw [if_neg y] at hG
        rw [hG] at h1
        refine q_Line_indent F (q_Math_min F (hmove _ (min 4 (ld c.1)) _ ?_ (by omega) ⟨_, rfl, mZ1, ciP.i (h1 rfl) rfl⟩))
        rw [show (4 : Int32) = nI 4 from rfl]
        by_cases e : ld c.1 < 4
        · rw [if_pos (nI_lt e (by decide)), Nat.min_eq_right (by omega)]
        · rw [if_neg (nI_nlt (by omega) (by omega)), Nat.min_eq_left (by omega)]
      refine g_Rd_indentedGoesOn F (q_Line_indent F ?_)
      simp (discharger := omega) only [lit_leI]
      refine ⟨fun c2 => h23 (fun y => by omega), fun c2 => q_Line_isBlank F ⟨fun c3 => ⟨_, rfl, mZ0, ciP.i (h0 ?_) rfl⟩, fun c3 => h23 (fun y => y.2 (bI_n0 c3))⟩⟩
      rw [hG, if_pos ⟨by omega, bI_0 c3⟩]
    · rw [if_neg c1] at hG
      obtain ⟨g1, g2, g3, g4⟩ := hfl hz c1
      refine g_Rd_fencedGoesOn F ⟨i, hb, ?_⟩
      rw [g1]
      refine q_Line_endsFence F ⟨fun c2 => ?_, fun c2 => ⟨i, hb, fun m2 e2 m3 e3 m4 e4 => ⟨_, rfl, mZ0, ciP.i ?_ rfl⟩⟩⟩
      · rw [if_neg (show ¬ fnE c.1 i fl from bI_0 c2)] at hG
        rw [hG] at h1
        refine q_Line_indent F ?_
        rw [g2]
        refine q_Math_min F (hmove _ (min fi (ld c.1)) _ ?_ (by omega) ⟨_, rfl, mZ1, ciP.i (h1 rfl) rfl⟩)
        by_cases e : ld c.1 < fi
        · rw [if_pos (nI_lt e (by omega)), Nat.min_eq_right (by omega)]
        · rw [if_neg (nI_nlt (by omega) (by omega)), Nat.min_eq_left (by omega)]
      · rw [if_pos (show fnE c.1 i fl from bI_n0 c2)] at hG
        rw [hG] at h2
        subst e4 e3 e2
        exact h2 rfl
end CLGOES
