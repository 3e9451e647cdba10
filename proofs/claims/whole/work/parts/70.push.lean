/-! a block begins: both sides -/
/-- more blocks may lie in the list; those that lay there lie where they lay -/
def ExC (c c' : CS) : Prop := c.2.2 ≤ c'.2.2 ∧ ∀ i, i < c.2.2 → c'.2.1 i = c.2.1 i
theorem ExC.rfl {c : CS} : ExC c c := ⟨Nat.le_refl _, fun _ _ => _root_.rfl⟩
theorem ExC.trans {c c' c2 : CS} (h : ExC c c') (h2 : ExC c' c2) : ExC c c2 := ⟨Nat.le_trans h.1 h2.1, fun i hi => (h2.2 i (Nat.lt_of_lt_of_le hi h.1)).trans (h.2 i hi)⟩
theorem ExC.of {c c' : CS} (h : c'.2 = c.2) : ExC c c' := by unfold ExC; rw [h]; exact ⟨Nat.le_refl _, fun _ _ => _root_.rfl⟩
/-- Tree.add, told as its answer -/
def TAok (X : CX) : Prop := ∀ (c : CS) (k ho li : Int32) (N : Nat → CS → Prop), ct c.1 ≤ c.2.2 → ct c.1 ≤ 3300 → (∀ c', ExC c c' → ct c.1 < c'.2.2 → c'.1 = vN (vBs c.1 (fun i f => if i = ct c.1 then begG k (nI (ct c.1)) ho li (nI (tx c.1).length) f else vb c.1 i f)) 23 (ct c.1 + 1) → N (c'.2.1 (ct c.1)) c') → cE X 7 y_Tree_add [.ref (adr X 2), .int k, .int ho, .int li] c (cbP N)
/-- the class's state with a new block at the tip -/
def NwC (v v' : VS) (k ho li : Int32) (t : Nat) : Prop := ct v' = ct v + 1 ∧ (∀ i, i ≠ ct v → vb v' i = vb v i) ∧ (∀ f, vb v' (ct v) f = begG k (nI (ct v)) ho li (nI (tx v).length) f) ∧ vi v' 64 = nI (t + 1) ∧ vi v' 65 = nI (t + 1) ∧ vo v' (t + 1) = ct v ∧ (∀ j, j ≠ t + 1 → vo v' j = vo v j) ∧ (∀ j, j ≠ 64 → j ≠ 65 → vi v' j = vi v j) ∧ (∀ j, j ≠ 23 → vn v' j = vn v j) ∧ vr v' = vr v ∧ vy v' = vy v
theorem q_Rd_push {X : CX} {a0 : Array Value} (F : cF X a0) (hA : TAok X) {c : CS} {k li : Int32} {t i : Nat} (hN : ct c.1 ≤ c.2.2) (hc : ct c.1 ≤ 3300) (h64 : vi c.1 64 = nI t) (ht : t ≤ 12) (h66 : vi c.1 66 = li) (hi : vo c.1 t = i) (hiN : i < c.2.2) {N : Nat → CS → Prop} (h : ∀ c', ExC c c' → ct c'.1 ≤ c'.2.2 → NwC c.1 c'.1 k (vb c.1 i 1) li t → N (c'.2.1 (ct c.1)) c') : cE X 8 y_Rd_push [.ref (adr X 6), .int k] c (cbP N) := by
  refine g_Rd_push F ?_
  unfold w_Rd_push_0 w_Rd_push_56
  rw [h64]
  refine q_Rd_openAt F (by omega) ⟨i, ⟨hiN, by rw [hi]⟩, ?_⟩
  rw [h66]
  refine hA _ _ _ _ _ hN hc (fun c' e1 e2 e3 => ?_)
  intro m3 em3
  have f64 : vi c'.1 64 = nI t := by rw [e3]; exact h64
  have g64 : vi m3.1 64 = nI (t + 1) := by rw [em3, cI_at, f64, nI_1]
  rw [g64]
  simp (discharger := omega) only [lit_leI, vp_nI, nI_clamp]
  refine ⟨fun z => by omega, fun _ => ⟨by omega, ct c.1, ⟨by rw [em3]; exact e2, by rw [em3]; rfl⟩, fun m4 em4 m5 em5 => ?_⟩⟩
  have hsec : m5.2 = c'.2 := by rw [em5, em4, em3]; rfl
  refine cbP.b (h m5 ?_ ?_ ?_) (by rw [hsec])
  · unfold ExC
    rw [hsec]
    exact e1
  · rw [hsec, em5, em4, em3]
    show vn c'.1 23 ≤ _
    rw [e3]
    exact e2
  · have hv : m5.1 = vI (vO (vI c'.1 64 (nI (t + 1))) (t + 1) (ct c.1)) 65 (nI (t + 1)) := by
      rw [em5, em4]
      have : vi (cO m3 (t + 1) (ct c.1)).1 64 = nI (t + 1) := g64
      show vI (vO m3.1 (t + 1) (ct c.1)) 65 (vi (cO m3 (t + 1) (ct c.1)).1 64) = _
      rw [this, em3]
      show vI (vO (vI c'.1 64 (vi c'.1 64 + 1)) (t + 1) (ct c.1)) 65 (nI (t + 1)) = _
      rw [f64, nI_1]
    rw [e3] at hv
    have hvb : vb m5.1 = fun i f => if i = ct c.1 then begG k (nI (ct c.1)) (vb c.1 (vo c.1 t) 1) li (nI (tx c.1).length) f else vb c.1 i f := by rw [hv, hi]; rfl
    refine ⟨by rw [hv]; rfl, fun j hj => ?_, fun f => ?_, by rw [hv]; rfl, by rw [hv]; rfl, ?_, fun j hj => ?_, fun j h1 h2 => ?_, fun j h1 => ?_, by rw [hv]; rfl, by rw [hv]; rfl⟩
    · rw [hvb]
      funext f
      exact if_neg hj
    · rw [hvb, ← hi]
      exact if_pos rfl
    · rw [hv]
      show (if t + 1 = t + 1 then ct c.1 else _) = _
      exact if_pos rfl
    · rw [hv]
      show (if j = t + 1 then ct c.1 else vo c.1 j) = _
      exact if_neg hj
    · rw [hv]
      show (if j = 65 then _ else if j = 64 then _ else vi c.1 j) = _
      rw [if_neg h2, if_neg h1]
    · rw [hv]
      show (if j = 23 then _ else vn c.1 j) = _
      exact if_neg h1
/-- the model's state with a new block -/
def NwM (m m' : MS) (B o : Nat) (k n : Int32) (u P : Nat) : Prop := (∀ j, j ≠ 28 → j ≠ 30 → j ≠ 32 → j ≠ 33 → m'.1 j = m.1 j) ∧ m'.1 28 = nI (B + 1) ∧ m'.1 30 = nI (o + 1) ∧ m'.1 32 = nI o ∧ m'.1 33 = 1 ∧ (∀ j i, 13 ≤ j → j ≤ 27 → i ≠ B → (j = 25 → i ≠ u) → m'.2 j i = m.2 j i) ∧ m'.2 25 u = m.2 25 u + 1 ∧ (m'.2 13 B = k ∧ m'.2 14 B = nI u ∧ m'.2 15 B = 0 ∧ m'.2 16 B = n ∧ m'.2 17 B = n ∧ m'.2 18 B = nI P ∧ m'.2 19 B = 0 ∧ m'.2 20 B = nI P ∧ m'.2 21 B = 0 ∧ m'.2 22 B = 0 ∧ m'.2 23 B = 0 ∧ m'.2 24 B = 0 ∧ m'.2 25 B = 0 ∧ m'.2 26 B = 0 ∧ m'.2 27 B = 0) ∧ m'.2 29 o = nI B ∧ (∀ i, i ≠ o → m'.2 29 i = m.2 29 i) ∧ ∀ j i, ¬ (13 ≤ j ∧ j ≤ 27) → j ≠ 29 → m'.2 j i = m.2 j i
section MOBEGIN
variable {Y : MX} {a1 : Array Value} {m : MS}
theorem d_begin96 (G : mF Y a1) {B o h u P : Nat} {k n : Int32} {Ψ : Option Value → MS → Prop} (hB : B < 3300) (hu : u < B) (ho : o ≤ 38) (hh : h ≤ 39) (h28 : m.1 28 = nI B) (h30 : m.1 30 = nI o) (h32 : m.1 32 = nI h) (h29 : m.2 29 h = nI u) (h10 : m.1 10 = nI P) (hΨ : ∀ m', NwM m m' B o k n u P → Ψ (some (.int (nI B))) m') : w_Mo_begin_96 Y k n m Ψ := by
  unfold w_Mo_begin_96
  rw [h28]
  simp (discharger := omega) only [vp_nI, nI_clamp]
  refine ⟨hB, fun m1 e1 => ?_⟩
  have a32 : m1.1 32 = nI h := by rw [e1]; exact h32
  have a29 : m1.2 29 h = nI u := by rw [e1, mA_ne (by decide)]; exact h29
  rw [a32]
  simp (discharger := omega) only [vp_nI, nI_clamp, a29]
  refine ⟨by omega, hB, fun m2 e2 => ⟨hB, fun m3 e3 => ⟨hB, fun m4 e4 => ⟨hB, fun m5 e5 => ⟨hB, fun m6 e6 => ⟨hB, fun m7 e7 => ⟨hB, fun m8 e8 => ⟨hB, fun m9 e9 => ⟨hB, fun m10 e10 => ⟨hB, fun m11 e11 => ⟨hB, fun m12 e12 => ⟨hB, fun m13 e13 => ⟨hB, fun m14 e14 => ⟨hB, fun m15 e15 => ⟨hB, ?_⟩⟩⟩⟩⟩⟩⟩⟩⟩⟩⟩⟩⟩⟩⟩
  have b10 : m5.1 10 = nI P := by rw [e5, e4, e3, e2, e1]; exact h10
  have c10 : m7.1 10 = nI P := by rw [e7, e6]; exact b10
  rw [b10] at e6
  rw [c10] at e8
  have v14 : m15.2 14 B = nI u := by
    rw [e15, mA_ne (by decide), e14, mA_ne (by decide), e13, mA_ne (by decide), e12, mA_ne (by decide), e11, mA_ne (by decide), e10, mA_ne (by decide), e9, mA_ne (by decide), e8, mA_ne (by decide), e7, mA_ne (by decide), e6, mA_ne (by decide), e5, mA_ne (by decide), e4, mA_ne (by decide), e3, mA_ne (by decide), e2, mA_at]
  have i15 : m15.1 = m.1 := by rw [e15, e14, e13, e12, e11, e10, e9, e8, e7, e6, e5, e4, e3, e2, e1]; rfl
  rw [v14]
  simp (discharger := omega) only [vp_nI, nI_clamp]
  refine ⟨by omega, by omega, fun m16 e16 m17 e17 => ?_⟩
  have d30 : m17.1 30 = nI o := by rw [e17, mI_ne (by decide), e16]; show m15.1 30 = _; rw [i15]; exact h30
  rw [d30]
  simp (discharger := omega) only [vp_nI, nI_clamp]
  refine ⟨by omega, fun m18 e18 m19 e19 m20 e20 m21 e21 => hΨ m21 ?_⟩
  have i17 : ∀ j, j ≠ 28 → m17.1 j = m.1 j := fun j hj => by rw [e17, mI_ne hj, e16]; show m15.1 j = _; rw [i15]
  have d28 : m17.1 28 = nI (B + 1) := by
    rw [e17, mI_at, e16]
    show m15.1 28 + 1 = _
    rw [i15, h28, nI_1]
  have i18 : m18.1 = m17.1 := by rw [e18]; rfl
  have d19 : m19.1 30 = nI (o + 1) := by rw [e19, mI_at, i18, d30, nI_1]
  have d20 : m20.1 32 = nI o := by rw [e20, mI_at, d19, nI_pred]
  have ar : ∀ j i, m21.2 j i = m18.2 j i := fun j i => by rw [e21, e20, e19]; rfl
  have low : ∀ j i, 13 ≤ j → j ≤ 27 → i ≠ B → m15.2 j i = m.2 j i := by
    intro j i q1 q2 hi
    rw [e15, mA_ni hi, e14, mA_ni hi, e13, mA_ni hi, e12, mA_ni hi, e11, mA_ni hi, e10, mA_ni hi, e9, mA_ni hi, e8, mA_ni hi, e7, mA_ni hi, e6, mA_ni hi, e5, mA_ni hi, e4, mA_ni hi, e3, mA_ni hi, e2, mA_ni hi, e1, mA_ni hi]
  have oth : ∀ j i, ¬ (13 ≤ j ∧ j ≤ 27) → m15.2 j i = m.2 j i := by
    intro j i q
    rw [e15, mA_ne (by omega), e14, mA_ne (by omega), e13, mA_ne (by omega), e12, mA_ne (by omega), e11, mA_ne (by omega), e10, mA_ne (by omega), e9, mA_ne (by omega), e8, mA_ne (by omega), e7, mA_ne (by omega), e6, mA_ne (by omega), e5, mA_ne (by omega), e4, mA_ne (by omega), e3, mA_ne (by omega), e2, mA_ne (by omega), e1, mA_ne (by omega)]
  have up : ∀ j i, j ≠ 29 → (j = 25 → i ≠ u) → m18.2 j i = m15.2 j i := by
    intro j i q1 q2
    rw [e18, mA_ne q1, e17]
    show m16.2 j i = _
    rw [e16]
    by_cases e : j = 25
    · rw [mA_ni (q2 e)]
    · rw [mA_ne e]
  have huB : u ≠ B := by omega
  refine ⟨fun j q1 q2 q3 q4 => ?_, ?_, ?_, ?_, ?_, fun j i q1 q2 q3 q4 => ?_, ?_, ⟨?_, ?_, ?_, ?_, ?_, ?_, ?_, ?_, ?_, ?_, ?_, ?_, ?_, ?_, ?_⟩, ?_, fun i hi => ?_, fun j i q1 q2 => ?_⟩
  · rw [e21, mI_ne q4, e20, mI_ne q3, e19, mI_ne q2, i18, i17 j q1]
  · rw [e21, mI_ne (by decide), e20, mI_ne (by decide), e19, mI_ne (by decide), i18, d28]
  · rw [e21, mI_ne (by decide), e20, mI_ne (by decide), d19]
  · rw [e21, mI_ne (by decide), d20]
  · rw [e21, mI_at]
  · rw [ar, up j i (by omega) q4, low j i q1 q2 q3]
  · rw [ar, e18, mA_ne (by decide), e17]
    show m16.2 25 u = _
    rw [e16, mA_at, low 25 u (by decide) (by decide) huB]
  · rw [ar, up 13 B (by decide) (by omega), e15, mA_ne (by decide), e14, mA_ne (by decide), e13, mA_ne (by decide), e12, mA_ne (by decide), e11, mA_ne (by decide), e10, mA_ne (by decide), e9, mA_ne (by decide), e8, mA_ne (by decide), e7, mA_ne (by decide), e6, mA_ne (by decide), e5, mA_ne (by decide), e4, mA_ne (by decide), e3, mA_ne (by decide), e2, mA_ne (by decide), e1, mA_at]
  · rw [ar, up 14 B (by decide) (by omega), v14]
  · rw [ar, up 15 B (by decide) (by omega), e15, mA_ne (by decide), e14, mA_ne (by decide), e13, mA_ne (by decide), e12, mA_ne (by decide), e11, mA_ne (by decide), e10, mA_ne (by decide), e9, mA_ne (by decide), e8, mA_ne (by decide), e7, mA_ne (by decide), e6, mA_ne (by decide), e5, mA_ne (by decide), e4, mA_ne (by decide), e3, mA_at]
  · rw [ar, up 16 B (by decide) (by omega), e15, mA_ne (by decide), e14, mA_ne (by decide), e13, mA_ne (by decide), e12, mA_ne (by decide), e11, mA_ne (by decide), e10, mA_ne (by decide), e9, mA_ne (by decide), e8, mA_ne (by decide), e7, mA_ne (by decide), e6, mA_ne (by decide), e5, mA_ne (by decide), e4, mA_at]
  · rw [ar, up 17 B (by decide) (by omega), e15, mA_ne (by decide), e14, mA_ne (by decide), e13, mA_ne (by decide), e12, mA_ne (by decide), e11, mA_ne (by decide), e10, mA_ne (by decide), e9, mA_ne (by decide), e8, mA_ne (by decide), e7, mA_ne (by decide), e6, mA_ne (by decide), e5, mA_at]
  · rw [ar, up 18 B (by decide) (by omega), e15, mA_ne (by decide), e14, mA_ne (by decide), e13, mA_ne (by decide), e12, mA_ne (by decide), e11, mA_ne (by decide), e10, mA_ne (by decide), e9, mA_ne (by decide), e8, mA_ne (by decide), e7, mA_ne (by decide), e6, mA_at]
  · rw [ar, up 19 B (by decide) (by omega), e15, mA_ne (by decide), e14, mA_ne (by decide), e13, mA_ne (by decide), e12, mA_ne (by decide), e11, mA_ne (by decide), e10, mA_ne (by decide), e9, mA_ne (by decide), e8, mA_ne (by decide), e7, mA_at]
  · rw [ar, up 20 B (by decide) (by omega), e15, mA_ne (by decide), e14, mA_ne (by decide), e13, mA_ne (by decide), e12, mA_ne (by decide), e11, mA_ne (by decide), e10, mA_ne (by decide), e9, mA_ne (by decide), e8, mA_at]
  · rw [ar, up 21 B (by decide) (by omega), e15, mA_ne (by decide), e14, mA_ne (by decide), e13, mA_ne (by decide), e12, mA_ne (by decide), e11, mA_ne (by decide), e10, mA_ne (by decide), e9, mA_at]
  · rw [ar, up 22 B (by decide) (by omega), e15, mA_ne (by decide), e14, mA_ne (by decide), e13, mA_ne (by decide), e12, mA_ne (by decide), e11, mA_ne (by decide), e10, mA_at]
  · rw [ar, up 23 B (by decide) (by omega), e15, mA_ne (by decide), e14, mA_ne (by decide), e13, mA_ne (by decide), e12, mA_ne (by decide), e11, mA_at]
  · rw [ar, up 24 B (by decide) (by omega), e15, mA_ne (by decide), e14, mA_ne (by decide), e13, mA_ne (by decide), e12, mA_at]
  · rw [ar, up 25 B (by decide) (fun _ => fun z => huB z.symm), e15, mA_ne (by decide), e14, mA_ne (by decide), e13, mA_at]
  · rw [ar, up 26 B (by decide) (by omega), e15, mA_ne (by decide), e14, mA_at]
    rfl
  · rw [ar, up 27 B (by decide) (by omega), e15, mA_at]
    rfl
  · rw [ar, e18, mA_at]
  · rw [ar, e18, mA_ni hi, e17]
    show m16.2 29 i = _
    rw [e16, mA_ne (by decide), oth 29 i (by omega)]
  · rw [ar, up j i q2 (by omega), oth j i q1]
end MOBEGIN
