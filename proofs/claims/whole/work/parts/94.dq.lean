section DQ2
variable {Y : MX} {a1 : Array Value} {m : MS} {m0 : MS → Prop} {v : VS} {μ : Nat → Nat} {t o B E h n bt : Nat} {D : DL} {x3 x4 : Int32}
theorem d_Q (G : mF Y a1) (hB : RB m0 v m μ t o B E D h bt x4) (hh : h ≤ t) {Φ : Option Value → MS → Prop} {P : Int32 → MS → Prop} (hcl : Cl163 Y (nI n) (nI bt) x3 x4 Φ P) (b : Bool) {bg : Nat} (hbg : bgF v (kd v (vo v h)) (kd v (vo v t)) = bg) (hb : b = true → bg ≠ 1 ∧ bg ≠ 5 ∧ bg ≠ 8 ∧ bg ≠ 10)
    (h1 : bg = 1 → mE Y 8 y_Mo_beginQuote [.ref (mo Y), .int (nI (ld v)), .int (nI n)] m (vP fun m' => P 1 m'))
    (h5 : bg = 5 → mE Y 8 y_Mo_beginHeading [.ref (mo Y), .int (nI (ld v)), .int (nI n)] m (vP fun m' => P 0 m'))
    (h8 : bg = 8 → mE Y 8 y_Mo_beginFence [.ref (mo Y), .int (nI (ld v)), .int (nI n)] m (vP fun m' => P 0 m'))
    (h10 : bg = 10 → mE Y 7 y_Mo_makeHeading [.ref (mo Y), .int (nI (ulLv (lx v) (sA v))), .int (nI n)] m (vP fun m' => w_Mo_beginning_72 Y (nI bt) (nI n) (nI (ld v)) (nI (ulLv (lx v) (sA v))) m' (iP P)))
    (h6 : bg = 6 → mE Y 7 y_Mo_begin [.ref (mo Y), .int (6), .int (nI n)] m (iP fun r5 m5 => ∀ m6, m6 = mI m5 34 (1) → mE Y 6 y_Mo_closeTo [.ref (mo Y), .int (m6.1 32)] m6 (vP fun m7 => (iP P) (some (.int (0))) m7)))
    (h3 : bg = 3 → ∀ m', MkR m m' → m'.1 35 = mkS (lx v) (sA v) → m'.1 36 = dgN (lx v) (sA v) (dgC (lx v) (sA v)) → mE Y 8 y_Mo_beginItem [.ref (mo Y), .int (nI (ld v)), .int (nI (mlF v)), .int (nI n)] m' (vP fun m4 => (iP P) (some (.int (1))) m4))
    (h9 : bg = 9 → ∀ m', MkR m m' → mE Y 7 y_Mo_begin [.ref (mo Y), .int (7), .int (nI n)] m' (iP fun r1 m1 => ∀ m2, m2 = mI m1 31 ((m1.1 31) + 4) → (iP P) (some (.int (0))) m2))
    (h0 : bg = 0 → ∀ m', MkR m m' → P 0 m') : Q163 Y v n bt b P m := by
  have h72 : (bg ≠ 1 ∧ bg ≠ 5 ∧ bg ≠ 8 ∧ bg ≠ 10) → ∀ x, w_Mo_beginning_72 Y (nI bt) (nI n) (nI (ld v)) x m (iP P) := by
    intro hn x
    exact d_72 G hB hh (by rw [hbg]; exact hn) (by rw [hbg]; exact h6) (by rw [hbg]; exact h3) (by rw [hbg]; exact h9) (by rw [hbg]; exact fun z m' hm => iP.i (h0 z m' hm) rfl)
  unfold Q163
  by_cases eb : b = true
  · rw [if_pos eb]
    exact h72 (hb eb)
  · rw [if_neg eb]
    obtain ⟨e32, e29, hμ, e13, hk7, h40⟩ := hB.hand hh
    have hL := hB.2.1
    obtain ⟨hLn, h31, hlp, hld⟩ := hL
    have hlx := hLn.2.2
    have hsp := run_in (xs := lx v) (p := fun z => z == 32) hlp
    have hspe : ld v = runFrom (fun z => z == 32) (lx v) (lp v) := hld
    have es : sA v = lp v + ld v := rfl
    have hAt : AtH m h (μ (vo v h)) := ⟨e32, h40, e29, hμ⟩
    have hout : (lx v).length ≤ sA v → rowAt (lx v) (nI (sA v)) = -1 := fun q => rowAt_out (by omega) q
    have h4 : (m.2 13 (μ (vo v h)) = 4) ↔ kd v (vo v h) = 4 := by rw [e13]; exact lit_eqJ (by decide) (by omega)
    have hsm : smF (lx v) (sA v) ≤ 12100 := by
      have := run_in (xs := lx v) (p := fun z => z == rowAt (lx v) (nI (sA v))) (i := sA v) (by omega)
      unfold smF
      omega
    have hul : ulLv (lx v) (sA v) ≤ 2 := by unfold ulLv; split <;> (try split) <;> omega
    refine hcl 1 m ?_
    unfold w_Mo_takeLine_163
    refine ⟨fun z => absurd z (by decide), fun _ => ⟨fun _ => ?_, fun z => absurd hB.2.2.2.1 z⟩⟩
    have hgoal : ∀ Ψ : Option Value → MS → Prop, (∀ r m', P r m' → Ψ (some (.int r)) m') → mE Y 9 y_Mo_beginning [.ref (mo Y), .int (nI bt), .int (nI n)] m (iP P) → mE Y 9 y_Mo_beginning [.ref (mo Y), .int (nI bt), .int (nI n)] m Ψ := by
      intro Ψ hΨ he d σ hV
      obtain ⟨r, σ', hC, hFr, m', hV', x, rfl, hP⟩ := he d σ hV
      exact ⟨_, σ', hC, hFr, m', hV', hΨ x m' hP⟩
    refine hgoal _ (fun r m' hP => ⟨r, rfl, rfl, rfl, rfl, rfl, hP⟩) ?_
    refine g_Mo_beginning G ?_
    unfold w_Mo_beginning_0
    refine d_Mo_indent G hLn h31 (by omega) ?_
    rw [← hld]
    refine d_Mo_isQuote G hLn h31 (by omega) (by omega) ⟨fun c1 => ?_, fun c1 => ?_⟩
    rotate_left
    · have q := bI_n0 c1
      have nb : ¬ (lx v).length ≤ sA v := fun y => by rw [show lp v + ld v = sA v from rfl, hout y] at q; exact absurd q.2 (by decide)
      have : bg = 1 := by rw [← hbg]; unfold bgF; rw [if_neg nb, if_neg (by omega), if_pos q.2]
      refine (h1 this).mono (fun r m' hp => ?_)
      exact ⟨hp.1, iP.i hp.2 rfl⟩
    have n1 := bI_0 c1
    refine d_Mo_isHash G hLn h31 (by omega) ⟨fun c2 => ?_, fun c2 => ?_⟩
    rotate_left
    · have q := bI_n0 c2
      have nb : ¬ (lx v).length ≤ sA v := fun y => by
        have h0 : hdLv (lx v) (sA v) = 0 := by unfold hdLv; rw [hout y, if_neg (by decide)]
        have := q.2
        rw [show lp v + ld v = sA v from rfl, h0] at this
        omega
      have : bg = 5 := by rw [← hbg]; unfold bgF; rw [if_neg nb, if_neg (by omega), if_neg (fun y => n1 ⟨q.1, y⟩), if_pos q.2]
      refine (h5 this).mono (fun r m' hp => ?_)
      exact ⟨hp.1, iP.i hp.2 rfl⟩
    have n2 := bI_0 c2
    refine d_Mo_isFence G hLn h31 (by omega) ⟨fun c3 => ?_, fun c3 => ?_⟩
    rotate_left
    · have q := bI_n0 c3
      have nb : ¬ (lx v).length ≤ sA v := fun y => by
        have h0 : fnLn (lx v) (sA v) = 0 := by unfold fnLn; rw [hout y, if_neg (by decide)]
        have := q.2
        rw [show lp v + ld v = sA v from rfl, h0] at this
        omega
      have : bg = 8 := by rw [← hbg]; unfold bgF; rw [if_neg nb, if_neg (by omega), if_neg (fun y => n1 ⟨q.1, y⟩), if_neg (fun y => n2 ⟨q.1, y⟩), if_pos q.2]
      refine (h8 this).mono (fun r m' hp => ?_)
      exact ⟨hp.1, iP.i hp.2 rfl⟩
    have n3 := bI_0 c3
    -- what is not so
    have nq : ld v < 4 → ¬ (lx v).length ≤ sA v → bg ≠ 1 ∧ bg ≠ 5 ∧ bg ≠ 8 := by
      intro hl nb
      rw [← hbg]
      unfold bgF
      rw [if_neg nb, if_neg (by omega), if_neg (fun y => n1 ⟨hl, y⟩), if_neg (fun y => n2 ⟨hl, y⟩), if_neg (fun y => n3 ⟨hl, y⟩)]
      split
      · exact ⟨by decide, by decide, by decide⟩
      · split
        · exact ⟨by decide, by decide, by decide⟩
        · split <;> exact ⟨by decide, by decide, by decide⟩
    refine d_Mo_underline G hLn h31 hAt (by omega) ?_
    by_cases c4 : ld v < 4 ∧ kd v (vo v h) = 4 ∧ 0 < ulLv (lx v) (sA v)
    · obtain ⟨c5, c6, c7⟩ := c4
      rw [if_pos ⟨c5, h4.mpr c6⟩, show (0 : Int32) = nI 0 from rfl, nI_leI (by show ulLv (lx v) (sA v) < _; omega) (by decide)]
      have nb : ¬ (lx v).length ≤ sA v := fun y => by
        have h0 : ulLv (lx v) (sA v) = 0 := by unfold ulLv; rw [hout y, if_neg (fun z => by rcases z.1 with w | w <;> exact absurd w (by decide))]
        omega
      have h10' : bg = 10 := by rw [← hbg]; unfold bgF; rw [if_neg nb, if_neg (by omega), if_neg (fun y => n1 ⟨c5, y⟩), if_neg (fun y => n2 ⟨c5, y⟩), if_neg (fun y => n3 ⟨c5, y⟩), if_pos ⟨c6, c7⟩]
      exact ⟨fun z => by have : ulLv (lx v) (sA v) ≤ 0 := z; omega, fun _ => h10 h10'⟩
    · have hz : (if ld v < 4 ∧ m.2 13 (μ (vo v h)) = 4 then nI (ulLv (lx v) (lp v + ld v)) else 0) = 0 := by
        by_cases q : ld v < 4 ∧ m.2 13 (μ (vo v h)) = 4
        · rw [if_pos q]
          have : ulLv (lx v) (sA v) = 0 := by
            apply Decidable.byContradiction
            intro y
            exact c4 ⟨q.1, h4.mp q.2, by omega⟩
          rw [show lp v + ld v = sA v from rfl, this]
          rfl
        · rw [if_neg q]
      rw [hz]
      refine ⟨fun _ => h72 ?_ 0, fun z => absurd (by decide) z⟩
      by_cases nb : (lx v).length ≤ sA v
      · have : bg = 0 := by rw [← hbg]; unfold bgF; rw [if_pos nb]
        omega
      · by_cases hl : ld v < 4
        · obtain ⟨w1, w2, w3⟩ := nq hl nb
          refine ⟨w1, w2, w3, fun y => ?_⟩
          have : kd v (vo v h) = 4 ∧ 0 < ulLv (lx v) (sA v) := by
            apply Decidable.byContradiction
            intro q
            rw [← hbg] at y
            unfold bgF at y
            rw [if_neg nb, if_neg (by omega), if_neg (fun y => n1 ⟨hl, y⟩), if_neg (fun y => n2 ⟨hl, y⟩), if_neg (fun y => n3 ⟨hl, y⟩), if_neg q] at y
            split at y
            · omega
            · split at y <;> omega
          exact c4 ⟨hl, this.1, this.2⟩
        · have : bg = 0 ∨ bg = 9 := by
            rw [← hbg]
            unfold bgF
            rw [if_neg nb, if_pos (by omega)]
            split
            · exact Or.inl rfl
            · exact Or.inr rfl
          omega
end DQ2
