/-! an item begins: the model -/
theorem LI.push {v v' : VS} {t k : Nat} {ho li : Int32} (hC : LI v t) (hN : NwC v v' (nI k) ho li t) (hlt : ∀ j, j ≤ t → vo v j < ct v) (hk : k ≤ 7) (h2 : kd v (vo v t) = 2 → k = 3) : LI v' (t + 1) := by
  obtain ⟨n1, n2, n3, n4, n5, n6, n7, n8, n9, n10, n11⟩ := hN
  have hkn : kd v' (ct v) = k := by
    unfold kd
    rw [n3]
    show (nI k).toNatClampNeg = k
    rw [nI_clamp (by omega)]
  have hko : ∀ i, i ≠ ct v → kd v' i = kd v i := fun i hi => by unfold kd; rw [n2 i hi]
  intro j hj
  by_cases e : j = t
  · subst e
    have hjt := hlt j (Nat.le_refl _)
    rw [n7 j (by omega), n6, hkn, hko _ (by omega)]
    exact h2
  · have h1 := hlt j (by omega)
    have h2 := hlt (j + 1) (by omega)
    rw [n7 j (by omega), n7 (j + 1) (by omega), hko _ (by omega), hko _ (by omega)]
    exact hC j (by omega)
section DITEM
variable {Y : MX} {a1 : Array Value} {m : MS}
/-- from the item's begin on -/
theorem d_item75 (G : mF Y a1) {v : VS} {B n : Nat} (hL : LR v m) (hB : B < 3300) (hmk : mkB (lx v) (sA v) = true) {x4 x5 : Int32} {M : MS → Prop} (hbeg : ∀ Ψ : Option Value → MS → Prop, (∀ m', FrB m m' → M (mI (mA m' 24 B (nI (iwF v))) 31 (nI (ipF v))) → Ψ (some (.int (nI B))) m') → mE Y 7 y_Mo_begin [.ref (mo Y), .int (nI 3), .int (nI n)] m Ψ) : w_Mo_beginItem_75 Y (nI (ld v)) (nI (mlF v)) (nI n) x4 x5 m (vP M) := by
  obtain ⟨hLn, h31, hlp, hld⟩ := hL
  have hlx := hLn.2.2
  have hsp := run_in (xs := lx v) (p := fun z => z == 32) hlp
  have hspe : ld v = runFrom (fun z => z == 32) (lx v) (lp v) := hld
  have es : sA v = lp v + ld v := rfl
  have hdg : dgC (lx v) (sA v) ≤ 9 := by unfold dgC; exact Nat.min_le_left _ _
  have eml : mlF v = dgC (lx v) (sA v) + 1 := rfl
  obtain ⟨hS, hse⟩ := mkB_iff.mp hmk
  have hin : sA v + dgC (lx v) (sA v) < (lx v).length := by
    have hx : mkS (lx v) (sA v) ≠ -1 := by
      split at hS
      · rcases hS with z | z | z <;> (rw [z]; decide)
      · rcases hS with z | z <;> (rw [z]; decide)
    exact rowAt_in (by omega) rfl hx
  have hsp2 := run_in (xs := lx v) (p := fun z => z == 32) (i := sA v + mlF v) (by omega)
  have hspe2 : spF (lx v) (sA v + mlF v) = runFrom (fun z => z == 32) (lx v) (sA v + mlF v) := rfl
  unfold w_Mo_beginItem_75
  refine hbeg _ (fun m1 hF hM => ⟨nI B, rfl, fun m2 e2 => ?_⟩)
  have e31 : m1.1 31 = nI (lp v) := (hF.1 31 (by decide) (by decide) (by decide) (by decide) (by decide) (by decide) (by decide) (by omega)).trans h31
  have f2 : m2 = mI m1 31 (nI (sA v + mlF v)) := by
    rw [e2, e31, nI_add, nI_add, es, Nat.add_assoc]
  have hL2 : LnI m2 (lx v) := by
    have := hF.l.line hLn
    rw [f2]
    exact ⟨(mI_ne (by decide)).trans this.1, this.2⟩
  have f31 : m2.1 31 = nI (sA v + mlF v) := by rw [f2, mI_at]
  have f12 : m2.1 12 = nI (lx v).length := hL2.1
  -- the end
  have h150 : ∀ (x8 sp : Int32) (q : Nat), q ≤ 5 → iwF v = ld v + mlF v + q → ((x8 = 0 ∧ q = 1) ∨ (x8 = 1 ∧ sp = nI q)) → w_Mo_beginItem_150 Y (nI (ld v)) (nI (mlF v)) (nI n) x4 x5 (nI B) sp x8 (nI B) (nI (ld v) + nI (mlF v)) (nI q) m2 (vP M) := by
    intro x8 sp q hq hw hx
    unfold w_Mo_beginItem_150 w_Mo_beginItem_168 w_Mo_beginItem_195
    rw [vp_nI (by omega), nI_clamp (by omega), nI_add, nI_add]
    refine ⟨hB, fun m3 e3 => ?_⟩
    have g31 : m3.1 31 = nI (sA v + mlF v) := by rw [e3]; exact f31
    have g12 : m3.1 12 = nI (lx v).length := by rw [e3]; exact f12
    have hfin : ∀ (y : Int32), y = nI q → ∀ m4, m4 = mI m3 31 (m3.1 31 + y) → (m4.1 31 ≤ m4.1 12 → ∀ m5, m5 = mI m4 31 (m4.1 31) → vP M none m5) ∧ (¬ m4.1 31 ≤ m4.1 12 → ∀ m5, m5 = mI m4 31 (m4.1 12) → vP M none m5) := by
      intro y hy m4 e4
      rw [g31, hy, nI_add] at e4
      have k31 : m4.1 31 = nI (sA v + mlF v + q) := by rw [e4, mI_at]
      have k12 : m4.1 12 = nI (lx v).length := by rw [e4, mI_ne (by decide)]; exact g12
      have hgo : ∀ z : Nat, z = ipF v → vP M none (mI m4 31 (nI z)) := by
        intro z hz
        refine ⟨rfl, ?_⟩
        have : mI m4 31 (nI z) = mI (mA m1 24 B (nI (iwF v))) 31 (nI (ipF v)) := by
          rw [e4, mI_mI, e3, f2, hz, hw]
          rw [show mA (mI m1 31 (nI (sA v + mlF v))) 24 B (nI (ld v + mlF v + q)) = mI (mA m1 24 B (nI (ld v + mlF v + q))) 31 (nI (sA v + mlF v)) from rfl, mI_mI]
        rw [this]
        exact hM
      have hip : ipF v = min (sA v + mlF v + q) (lx v).length := by
        unfold ipF
        rw [hw, es]
        congr 1
        omega
      rw [k31, k12, nI_leI (by omega) (by omega)]
      refine ⟨fun c1 m5 e5 => ?_, fun c1 m5 e5 => ?_⟩
      · rw [e5]; exact hgo _ (by omega)
      · rw [e5]; exact hgo _ (by omega)
    refine ⟨fun c1 => ?_, fun c1 => ?_⟩
    · rcases hx with y | y
      · exact hfin 1 (by rw [y.2]; rfl)
      · rw [y.1] at c1; exact absurd c1 (by decide)
    · rcases hx with y | y
      · exact absurd y.1 c1
      · exact hfin sp y.2
  have eiw : iwF v = itW (lx v) (sA v) (ld v) (mlF v) := rfl
  have h127 : ∀ sp : Int32, ¬ (spF (lx v) (sA v + mlF v) ≤ 4 ∧ sA v + mlF v + spF (lx v) (sA v + mlF v) < (lx v).length) → w_Mo_beginItem_127 Y (nI (ld v)) (nI (mlF v)) (nI n) x4 x5 (nI B) sp m2 (vP M) := by
    intro sp hx
    unfold w_Mo_beginItem_127 w_Mo_beginItem_128
    refine ⟨fun _ => h150 0 sp 1 (by omega) ?_ (Or.inl ⟨rfl, rfl⟩), fun y => absurd rfl y⟩
    rw [eiw]
    unfold itW
    rw [if_neg hx]
  refine d_Mo_indent G hL2 f31 (by omega) ?_
  refine ⟨fun c1 => h127 _ (fun y => ?_), fun c1 => ⟨fun c2 => h127 _ (fun y => ?_), fun c2 => ?_⟩⟩
  · rw [show (0 : Int32) = nI 0 from rfl, nI_leI (by omega) (by decide)] at c1
    rcases hse with z | z
    · omega
    · have hz : rowAt (lx v) (nI (sA v + mlF v)) = 32 := z
      have := run1 (xs := lx v) (i := sA v + mlF v) (c := 32) (by omega) (by decide) hz
      omega
  · rw [lit_leI (by decide) (by omega)] at c2
    omega
  · rw [lit_leI (by decide) (by omega)] at c2
    rw [f31]
    refine d_Mo_isBlank G hL2 (by omega) ⟨fun c3 => ?_, fun c3 => h127 _ (fun y => ?_)⟩
    · have hnb := bI_0 c3
      unfold w_Mo_beginItem_128
      refine ⟨fun y => absurd y (by decide), fun _ => h150 1 _ (spF (lx v) (sA v + mlF v)) (by omega) ?_ (Or.inr ⟨rfl, rfl⟩)⟩
      rw [eiw]
      unfold itW
      rw [if_pos ⟨by omega, Nat.lt_of_not_le hnb⟩]
    · exact absurd (bI_n0 c3) (Nat.not_le.mpr y.2)
end DITEM
