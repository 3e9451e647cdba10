/-! the model's loop over beginnings, as a least fixed point -/
def K163 (x1 x2 x3 x4 : Int32) (P : Int32 → MS → Prop) : Int32 → Int32 → Int32 → Int32 → Int32 → MS → Prop := fun y1 y2 y3 y4 y5 m' => y1 = x1 ∧ y2 = x2 ∧ y3 = x3 ∧ y4 = x4 ∧ P y5 m'
def Cl163 (Y : MX) (x1 x2 x3 x4 : Int32) (Φ : Option Value → MS → Prop) (P : Int32 → MS → Prop) : Prop := ∀ x5 m, w_Mo_takeLine_163 Y x1 x2 x3 x4 x5 m Φ (K163 x1 x2 x3 x4 P) → P x5 m
def Z163 (Y : MX) (d : Nat) (x1 x2 x3 x4 : Int32) (Φ : Option Value → MS → Prop) (x5 : Int32) (m : MS) : Prop := ∀ (o6 : Option Value) (σ : jS), MV Y m σ → jW Y.1 Y.2.1 jcl Y.2.2.1 Y.2.2.2.1 (d + 10) y_Mo_takeLine 163 [some (.ref (mo Y)), some (.int x1), some (.int x2), some (.int x3), some (.int x4), some (.int x5), o6] [] σ (mQ Y Φ σ)
theorem Z163.cl {Y : MX} {a1 : Array Value} (G : mF Y a1) (d : Nat) (x1 x2 x3 x4 : Int32) (Φ : Option Value → MS → Prop) : Cl163 Y x1 x2 x3 x4 Φ (Z163 Y d x1 x2 x3 x4 Φ) := by
  intro x5 m h o6 σ hV
  refine t_Mo_takeLine_163 G hV h (fun y1 y2 y3 y4 y5 o m' σ' hV' hK => ?_)
  obtain ⟨rfl, rfl, rfl, rfl, hP⟩ := hK
  exact hP o σ' hV'
theorem no163 {Y : MX} {a1 : Array Value} (G : mF Y a1) {x1 x2 x3 x4 x5 : Int32} {m : MS} (hσ : ∃ σ, MV Y m σ) (h : ∀ Φ P, Cl163 Y x1 x2 x3 x4 Φ P → P x5 m) : False := by
  obtain ⟨σ, hV⟩ := hσ
  obtain ⟨r, σ', _, _, m', _, hf⟩ := h (fun _ _ => False) _ (Z163.cl G 0 x1 x2 x3 x4 _) none σ hV
  exact hf
/-- where the model stands: at the loop's head, or behind an underline that took all -/
def Q163 (Y : MX) (v : VS) (n bt : Nat) (b : Bool) (P : Int32 → MS → Prop) (m : MS) : Prop := if b = true then ∀ x, w_Mo_beginning_72 Y (nI bt) (nI n) (nI (ld v)) x m (iP P) else P 1 m
section DQ
variable {Y : MX} {a1 : Array Value} {m : MS} {m0 : MS → Prop} {v : VS} {μ : Nat → Nat} {t o B E h n bt : Nat} {D : DL} {x3 x4 : Int32}
theorem BG.lt {v : VS} {m : MS} {μ : Nat → Nat} {t o h bt : Nat} {x4 : Int32} (hG : BG v m μ t o h bt x4) : h < o := by
  rcases hG with z | ⟨_, _, z | z⟩ <;> omega
/-- what the hand points to, in the model -/
theorem RB.hand (hB : RB m0 v m μ t o B E D h bt x4) (hh : h ≤ t) : m.1 32 = nI h ∧ m.2 29 h = nI (μ (vo v h)) ∧ μ (vo v h) < 3300 ∧ m.2 13 (μ (vo v h)) = nI (kd v (vo v h)) ∧ kd v (vo v h) ≤ 7 ∧ h < 40 := by
  have hlt := hB.2.2.2.2.2.2.2.lt
  have hRO := hB.1.ro
  have hi := hRO.2.2.2.2.1 h hh
  have hbk := (hB.1.rk _ hi).1
  have hμ := hB.1.rg.2.2.2.2.2.1 _ hi
  have := hB.1.rg.2.1
  have := hRO.1
  exact ⟨hB.2.2.1, hRO.2.2.2.2.2.1 h hlt, by omega, by rw [hbk.2.1]; exact hbk.1.1, hbk.1.2.1, by omega⟩
theorem d_72 (G : mF Y a1) (hB : RB m0 v m μ t o B E D h bt x4) (hh : h ≤ t) (hnot : bgF v (kd v (vo v h)) (kd v (vo v t)) ≠ 1 ∧ bgF v (kd v (vo v h)) (kd v (vo v t)) ≠ 5 ∧ bgF v (kd v (vo v h)) (kd v (vo v t)) ≠ 8 ∧ bgF v (kd v (vo v h)) (kd v (vo v t)) ≠ 10) {x : Int32} {Ψ : Option Value → MS → Prop}
    (h6 : bgF v (kd v (vo v h)) (kd v (vo v t)) = 6 → mE Y 7 y_Mo_begin [.ref (mo Y), .int (6), .int (nI n)] m (iP fun r5 m5 => ∀ m6, m6 = mI m5 34 (1) → mE Y 6 y_Mo_closeTo [.ref (mo Y), .int (m6.1 32)] m6 (vP fun m7 => Ψ (some (.int (0))) m7)))
    (h3 : bgF v (kd v (vo v h)) (kd v (vo v t)) = 3 → ∀ m', MkR m m' → m'.1 35 = mkS (lx v) (sA v) → m'.1 36 = dgN (lx v) (sA v) (dgC (lx v) (sA v)) → mE Y 8 y_Mo_beginItem [.ref (mo Y), .int (nI (ld v)), .int (nI (mlF v)), .int (nI n)] m' (vP fun m4 => Ψ (some (.int (1))) m4))
    (h9 : bgF v (kd v (vo v h)) (kd v (vo v t)) = 9 → ∀ m', MkR m m' → mE Y 7 y_Mo_begin [.ref (mo Y), .int (7), .int (nI n)] m' (iP fun r1 m1 => ∀ m2, m2 = mI m1 31 ((m1.1 31) + 4) → Ψ (some (.int (0))) m2))
    (h0 : bgF v (kd v (vo v h)) (kd v (vo v t)) = 0 → ∀ m', MkR m m' → Ψ (some (.int (0))) m') : w_Mo_beginning_72 Y (nI bt) (nI n) (nI (ld v)) x m Ψ := by
  obtain ⟨e32, e29, hμ, e13, hk7, h40⟩ := hB.hand hh
  have hL := hB.2.1
  obtain ⟨hLn, h31, hlp, hld⟩ := hL
  have hlx := hLn.2.2
  have hsp := run_in (xs := lx v) (p := fun z => z == 32) hlp
  have hspe : ld v = runFrom (fun z => z == 32) (lx v) (lp v) := hld
  have es : sA v = lp v + ld v := rfl
  have hAt : AtH m h (μ (vo v h)) := ⟨e32, h40, e29, hμ⟩
  have hout : (lx v).length ≤ sA v → rowAt (lx v) (nI (sA v)) = -1 := fun q => rowAt_out (by omega) q
  generalize hbg : bgF v (kd v (vo v h)) (kd v (vo v t)) = bg at *
  have h4 : (m.2 13 (μ (vo v h)) = 4) ↔ kd v (vo v h) = 4 := by rw [e13]; exact lit_eqJ (by decide) (by omega)
  unfold w_Mo_beginning_72
  refine ⟨fun _ => ?_, fun z => absurd hB.2.2.2.2.1 z⟩
  refine d_Mo_isRule G hLn h31 (by omega) ⟨fun c1 => ?_, fun c1 => h6 ?_⟩
  · -- no rule
    have n6 := bI_0 c1
    refine d_Mo_mark G hLn h31 hAt (by omega) (fun m' hm hno => ⟨fun _ => ?_, fun z => absurd (by decide) z⟩) (fun m' hm hok e35 e36 => ⟨fun z => ?_, fun _ => h3 ?_ m' hm e35 e36⟩)
    · have hB' := hB.mk hm
      unfold w_Mo_beginning_199 w_Mo_beginning_175
      rw [lit_leJ (by decide) (by omega)]
      have hok' : ¬ (ld v < 4 ∧ (mkB (lx v) (sA v) = true ∧ (kd v (vo v h) = 4 → ¬ blF (lx v) (sA v + (dgC (lx v) (sA v) + 1)) ∧ (dgC (lx v) (sA v) = 0 ∨ dgN (lx v) (sA v) (dgC (lx v) (sA v)) = 1)))) := fun q => hno ⟨q.1, ⟨q.2.1, fun y => q.2.2 (h4.mp y)⟩⟩
      refine ⟨fun c2 => h0 ?_ m' hm, fun c2 => ?_⟩
      · rw [← hbg]
        unfold bgF
        by_cases b1 : (lx v).length ≤ sA v
        · rw [if_pos b1]
        · rw [if_neg b1, if_neg (by omega)]
          by_cases b2 : rowAt (lx v) (nI (sA v)) = 62
          · exfalso; apply hnot.1; rw [← hbg]; unfold bgF; rw [if_neg b1, if_neg (by omega), if_pos b2]
          · rw [if_neg b2]
            by_cases b3 : 0 < hdLv (lx v) (sA v)
            · exfalso; apply hnot.2.1; rw [← hbg]; unfold bgF; rw [if_neg b1, if_neg (by omega), if_neg b2, if_pos b3]
            · rw [if_neg b3]
              by_cases b4 : 0 < fnLn (lx v) (sA v)
              · exfalso; apply hnot.2.2.1; rw [← hbg]; unfold bgF; rw [if_neg b1, if_neg (by omega), if_neg b2, if_neg b3, if_pos b4]
              · rw [if_neg b4]
                by_cases b5 : kd v (vo v h) = 4 ∧ 0 < ulLv (lx v) (sA v)
                · exfalso; apply hnot.2.2.2; rw [← hbg]; unfold bgF; rw [if_neg b1, if_neg (by omega), if_neg b2, if_neg b3, if_neg b4, if_pos b5]
                · rw [if_neg b5, if_neg (fun y => n6 ⟨by omega, y⟩), if_neg (fun y => hok' ⟨by omega, y⟩)]
      · have m31 : m'.1 31 = nI (lp v) := by rw [hm.2 31 (by decide) (by decide)]; exact h31
        rw [m31]
        refine d_Mo_isBlank G (hm.line hLn) (by omega) ⟨fun c3 => ?_, fun c3 => h0 ?_ m' hm⟩
        · have nb : ¬ (lx v).length ≤ sA v := by
            have := bI_0 c3
            rw [es, hld]
            exact this
          have hgo : ∀ b, b < 3300 → (m'.2 13 b = 4 ↔ kd v (vo v t) = 4) → (vp_in (nI b) 3300 ∧ ((m'.2 13 (nI b).toNatClampNeg = 4 → Ψ (some (.int 0)) m') ∧ (¬ m'.2 13 (nI b).toNatClampNeg = 4 → mE Y 7 y_Mo_begin [.ref (mo Y), .int (7), .int (nI n)] m' (iP fun r1 m1 => ∀ m2, m2 = mI m1 31 ((m1.1 31) + 4) → Ψ (some (.int (0))) m2)))) := by
            intro b hb hk
            rw [vp_nI (by omega), nI_clamp (by omega)]
            refine ⟨hb, fun z => h0 ?_ m' hm, fun z => h9 ?_ m' hm⟩
            · rw [← hbg]; unfold bgF; rw [if_neg nb, if_pos (by omega), if_pos (hk.mp z)]
            · rw [← hbg]; unfold bgF; rw [if_neg nb, if_pos (by omega), if_neg (fun y => z (hk.mpr y))]
          obtain ⟨f32, f29, fμ, f13, _, _⟩ := hB'.hand hh
          rcases hB'.2.2.2.2.2.2.2 with ⟨g1, g2, g3⟩ | ⟨g1, g2, g3⟩
          · refine ⟨fun y => absurd (g1.symm.trans y) (by decide), fun _ => ?_⟩
            rw [f32, vp_nI (by omega), nI_clamp (by omega), f29]
            refine ⟨h40, hgo _ fμ ?_⟩
            rw [f13, g2]
            exact lit_eqJ (by decide) (by rw [← g2]; omega)
          · rw [g1]
            refine ⟨fun _ => hgo bt g2 ?_, fun y => absurd rfl y⟩
            rcases g3 with y | y
            · exact y.2.2.1
            · exact y.2.2 (by omega)
        · have nb : (lx v).length ≤ sA v := by
            have := bI_n0 c3
            rw [es, hld]
            exact this
          rw [← hbg]; unfold bgF; rw [if_pos nb]
    · have : nI (dgC (lx v) (lp v + ld v) + 1) ≤ 0 := z
      rw [show (0 : Int32) = nI 0 from rfl, nI_leI (by have : dgC (lx v) (lp v + ld v) ≤ 9 := by unfold dgC; exact Nat.min_le_left _ _
                                                       omega) (by decide)] at this
      omega
    · have hok2 : mkB (lx v) (sA v) = true := hok.2.1
      have b1 : ¬ (lx v).length ≤ sA v := by
        intro q
        obtain ⟨hS, _⟩ := mkB_iff.mp hok2
        have hd0 : dgC (lx v) (sA v) = 0 := by
          unfold dgC
          rw [runFrom_end q]
          rfl
        rw [if_pos hd0] at hS
        have : mkS (lx v) (sA v) = -1 := by
          unfold mkS
          rw [hd0]
          exact hout q
        rw [this] at hS
        rcases hS with y | y | y <;> exact absurd y (by decide)
      rw [← hbg]
      unfold bgF
      rw [if_neg b1, if_neg (by omega)]
      by_cases b2 : rowAt (lx v) (nI (sA v)) = 62
      · exfalso; apply hnot.1; rw [← hbg]; unfold bgF; rw [if_neg b1, if_neg (by omega), if_pos b2]
      · rw [if_neg b2]
        by_cases b3 : 0 < hdLv (lx v) (sA v)
        · exfalso; apply hnot.2.1; rw [← hbg]; unfold bgF; rw [if_neg b1, if_neg (by omega), if_neg b2, if_pos b3]
        · rw [if_neg b3]
          by_cases b4 : 0 < fnLn (lx v) (sA v)
          · exfalso; apply hnot.2.2.1; rw [← hbg]; unfold bgF; rw [if_neg b1, if_neg (by omega), if_neg b2, if_neg b3, if_pos b4]
          · rw [if_neg b4]
            by_cases b5 : kd v (vo v h) = 4 ∧ 0 < ulLv (lx v) (sA v)
            · exfalso; apply hnot.2.2.2; rw [← hbg]; unfold bgF; rw [if_neg b1, if_neg (by omega), if_neg b2, if_neg b3, if_neg b4, if_pos b5]
            · rw [if_neg b5, if_neg (fun y => n6 ⟨by omega, y⟩), if_pos ⟨hok2, fun y => hok.2.2 (h4.mpr y)⟩]
  · have n6 := bI_n0 c1
    have b1 : ¬ (lx v).length ≤ sA v := by
      intro q
      have h42 := (rlB_iff.mp n6.2).1
      rw [show lp v + ld v = sA v from rfl, hout q] at h42
      rcases h42 with y | y | y <;> exact absurd y (by decide)
    rw [← hbg]
    unfold bgF
    rw [if_neg b1, if_neg (by omega)]
    by_cases b2 : rowAt (lx v) (nI (sA v)) = 62
    · exfalso; apply hnot.1; rw [← hbg]; unfold bgF; rw [if_neg b1, if_neg (by omega), if_pos b2]
    · rw [if_neg b2]
      by_cases b3 : 0 < hdLv (lx v) (sA v)
      · exfalso; apply hnot.2.1; rw [← hbg]; unfold bgF; rw [if_neg b1, if_neg (by omega), if_neg b2, if_pos b3]
      · rw [if_neg b3]
        by_cases b4 : 0 < fnLn (lx v) (sA v)
        · exfalso; apply hnot.2.2.1; rw [← hbg]; unfold bgF; rw [if_neg b1, if_neg (by omega), if_neg b2, if_neg b3, if_pos b4]
        · rw [if_neg b4]
          by_cases b5 : kd v (vo v h) = 4 ∧ 0 < ulLv (lx v) (sA v)
          · exfalso; apply hnot.2.2.2; rw [← hbg]; unfold bgF; rw [if_neg b1, if_neg (by omega), if_neg b2, if_neg b3, if_neg b4, if_pos b5]
          · rw [if_neg b5, if_pos n6.2]
end DQ
