section KB
variable {K : Nat}
/-! the blocks that go on: goOn and the model's first loop -/
def Z37 (Y : MX) (d : Nat) (x1 x2 : Int32) (Φ : Option Value → MS → Prop) (x3 x4 : Int32) (m : MS) : Prop := ∀ (o5 o6 : Option Value) (σ : jS), MV Y m σ → jW Y.1 Y.2.1 jcl Y.2.2.1 Y.2.2.2.1 (d + 10) y_Mo_takeLine 37 [some (.ref (mo Y)), some (.int x1), some (.int x2), some (.int x3), some (.int x4), o5, o6] [] σ (mQ Y Φ σ)
def K37 (Y : MX) (d : Nat) (x1 x2 : Int32) (Φ : Option Value → MS → Prop) : Int32 → Int32 → Int32 → Int32 → MS → Prop := fun y1 y2 y3 y4 m' => y1 = x1 ∧ y2 = x2 ∧ Z37 Y d x1 x2 Φ y3 y4 m'
def J163 (Y : MX) (d : Nat) (x1 x2 : Int32) (Φ : Option Value → MS → Prop) : Int32 → Int32 → Int32 → Int32 → Int32 → MS → Prop := fun y1 y2 y3 y4 y5 m' => y1 = x1 ∧ y2 = x2 ∧ Z163 Y d x1 x2 y3 y4 Φ y5 m'
theorem Z37.cl {Y : MX} {a1 : Array Value} (G : mF Y a1) {d : Nat} {x1 x2 x3 x4 : Int32} {Φ : Option Value → MS → Prop} {m : MS} (h : w_Mo_takeLine_37 Y x1 x2 x3 x4 m Φ (K37 Y d x1 x2 Φ) (J163 Y d x1 x2 Φ)) : Z37 Y d x1 x2 Φ x3 x4 m := by
  intro o5 o6 σ hV
  refine t_Mo_takeLine_37 G hV h (fun y1 y2 y3 y4 q5 q6 m' σ' hV' hK => ?_) (fun y1 y2 y3 y4 y5 q6 m' σ' hV' hK => ?_)
  · obtain ⟨rfl, rfl, hP⟩ := hK
    exact hP q5 q6 σ' hV'
  · obtain ⟨rfl, rfl, hP⟩ := hK
    exact hP q6 σ' hV'
theorem no37 {Y : MX} {x1 x2 x3 x4 : Int32} {m : MS} (hσ : ∃ σ, MV Y m σ) (h : ∀ d Φ, Z37 Y d x1 x2 Φ x3 x4 m) : False := by
  obtain ⟨σ, hV⟩ := hσ
  obtain ⟨r, σ', _, _, m', _, hf⟩ := h 0 (fun _ _ => False) none none σ hV
  exact hf
/-- in the loop: h blocks go on -/
def RGo (m0 : MS → Prop) (v : VS) (m : MS) (μ : Nat → Nat) (t o B E : Nat) (D : DL) (h : Nat) : Prop := RR v m μ t o B E D ∧ LR v m ∧ m.1 32 = nI h ∧ m.1 5 = -1 ∧ m.1 34 = 0 ∧ m.1 33 = 0 ∧ FN v m μ t ∧ FrX m0 m
def CGo (K : Nat) (v : VS) (t o B h n : Nat) : Prop := CB1 v t h n ∧ (B + phi (lx v) (lp v) ≤ K ∧ K ≤ 3002) ∧ ((kd v (vo v t) = 7 → vb v (vo v t) 12 = 0 → vb v (vo v t) 6 ≠ 0) ∧ (kd v (vo v h) = 4 → ¬ (lx v).length ≤ sA v)) ∧ vi v 67 = 0 ∧ h + 1 ≤ o
theorem CGo.cb {v : VS} {t o B h n : Nat} (hC : CGo K v t o B h n) : CB K v t B h n := ⟨hC.1, ⟨fun _ => hC.2.1, by have := hC.2.1; omega⟩, ⟨fun z1 z2 z3 => absurd z3 (hC.2.2.1.1 z1 z2), hC.2.2.1.2⟩⟩
theorem hdN_ex {v : VS} {i : Nat} : ∀ n, hdN v i n ≠ 0 → ∃ j, j < n ∧ 0 < j ∧ vb v j 2 = nI i := by
  intro n
  induction n with
  | zero => intro h; exact absurd rfl h
  | succ n ih =>
    intro h
    by_cases c : 0 < n ∧ vb v n 2 = nI i
    · exact ⟨n, by omega, c.1, c.2⟩
    · have h' : hdN v i n + (if 0 < n ∧ vb v n 2 = nI i then 1 else 0) ≠ 0 := h
      rw [if_neg c] at h'
      obtain ⟨j, j1, j2, j3⟩ := ih h'
      exact ⟨j, by omega, j2, j3⟩
/-- an open block holds something where the next one is in it -/
theorem held_iff {v : VS} {m : MS} {μ : Nat → Nat} {t o B E k : Nat} {D : DL} (hR : RR v m μ t o B E D) (hk : k ≤ t) : m.2 25 (μ (vo v k)) = 0 ↔ ¬ (vo v k + 1 < ct v ∧ vb v (vo v k + 1) 2 = nI (vo v k)) := by
  have hRO := hR.ro
  have hRK := hR.rk
  have hi := hRO.2.2.2.2.1 k hk
  have hc := hR.rg.ctB
  have hB := hR.rg.2.1
  have h25 := (hRK _ hi).2.2
  have hle := hdN_le (v := v) (i := vo v k) (ct v)
  have h0 : m.2 25 (μ (vo v k)) = 0 ↔ hdN v (vo v k) (ct v) = 0 := by
    rw [h25]
    exact nI_eq (by omega) (by decide)
  rw [h0]
  constructor
  · intro z ⟨q1, q2⟩
    have := hdN_pos (v := v) (i := vo v k) q1 (by omega) q2
    omega
  · intro z
    apply Decidable.byContradiction
    intro q
    obtain ⟨j, j1, j2, j3⟩ := hdN_ex _ q
    obtain ⟨u, u1, u2, _⟩ := (hRK j j1).1.2.2.2.2.1 j2
    have eu : u = vo v k := (nI_eq (by omega) (by omega)).mp (u2.symm.trans j3)
    obtain ⟨w, w1, w2⟩ := hRO.2.2.2.2.2.2.2 k hk (vo v k + 1) (by omega) (by omega)
    have ew : w = vo v k := by omega
    exact z ⟨by omega, by rw [w2.1, ew]⟩
section GOON
variable {X : CX} {Y : MX} {a0 a1 : Array Value} {c : CS} {m : MS} {m0 : MS → Prop} {μ : Nat → Nat} {t o B E h n bt d : Nat} {D : DL} {x3 x4 x5 : Int32} {v : VS}
/-- the numbers that goesOn looks at -/
abbrev goW (v : VS) (i : Nat) : Nat := (vb v i 11).toNatClampNeg
abbrev goL (v : VS) : Nat := (vi v 68).toNatClampNeg
abbrev goF (v : VS) : Nat := (vi v 69).toNatClampNeg
abbrev goT (v : VS) (i : Nat) : Nat × Nat := gOut v i (goW v i) (goL v) (goF v)
def GOk (v : VS) (i : Nat) (g : Nat × Nat) : Prop := (g.1 = 0 ∨ g.1 = 1 ∨ g.1 = 2) ∧ (g.1 = 1 → lp v ≤ g.2 ∧ g.2 ≤ (lx v).length) ∧ ((kd v i = 5 ∨ kd v i = 6) → g.1 = 0) ∧ (g.1 = 2 → kd v i = 7 ∧ vb v i 12 ≠ 0) ∧ (g.1 = 1 → kd v i = 4 → g.2 = lp v ∧ ¬ (lx v).length ≤ sA v)
theorem GOk.no {i : Nat} : GOk v i (0, 0) := ⟨Or.inl rfl, fun z => absurd z (by decide), fun _ => rfl, fun z => absurd z (by decide), fun z => absurd z (by decide)⟩
theorem GOk.yes {i p : Nat} (h1 : lp v ≤ p) (h2 : p ≤ (lx v).length) (h3 : kd v i ≠ 5 ∧ kd v i ≠ 6) (h4 : kd v i = 4 → p = lp v ∧ ¬ (lx v).length ≤ sA v) : GOk v i (1, p) := ⟨Or.inr (Or.inl rfl), fun _ => ⟨h1, h2⟩, fun z => by omega, fun z => absurd z (show ¬ (1 : Nat) = 2 by decide), fun _ => h4⟩
theorem gOut_ok {i w fl fi : Nat} (hl : lp v ≤ (lx v).length) : GOk v i (gOut v i w fl fi) := by
  have hq : lp v + ld v ≤ qmP (lx v) (lp v + ld v) := by unfold qmP; split <;> omega
  unfold gOut
  by_cases k1 : kd v i = 1
  · rw [if_pos k1]
    by_cases c : ld v < 4 ∧ rowAt (lx v) (nI (lp v + ld v)) = 62
    · rw [if_pos c]
      exact GOk.yes (by omega) (Nat.min_le_right _ _) (by omega) (fun z => by omega)
    · rw [if_neg c]
      exact GOk.no
  rw [if_neg k1]
  by_cases k2 : kd v i = 2
  · rw [if_pos k2]
    exact GOk.yes (Nat.le_refl _) hl (by omega) (fun z => by omega)
  rw [if_neg k2]
  by_cases k3 : kd v i = 3
  · rw [if_pos k3]
    by_cases c : (lx v).length ≤ lp v + ld v
    · rw [if_pos c]
      by_cases c2 : i + 1 < ct v ∧ vb v (i + 1) 2 = nI i
      · rw [if_pos c2]
        exact GOk.yes (by omega) (Nat.min_le_right _ _) (by omega) (fun z => by omega)
      · rw [if_neg c2]
        exact GOk.no
    · rw [if_neg c]
      by_cases c2 : ld v < w
      · rw [if_pos c2]
        exact GOk.no
      · rw [if_neg c2]
        exact GOk.yes (by omega) (Nat.min_le_right _ _) (by omega) (fun z => by omega)
  rw [if_neg k3]
  by_cases k4 : kd v i = 4
  · rw [if_pos k4]
    by_cases c : (lx v).length ≤ lp v + ld v
    · rw [if_pos c]
      exact GOk.no
    · rw [if_neg c]
      exact GOk.yes (Nat.le_refl _) hl (by omega) (fun z => ⟨rfl, c⟩)
  rw [if_neg k4]
  by_cases k7 : kd v i = 7
  · rw [if_pos k7]
    by_cases c : vb v i 12 = 0
    · rw [if_pos c]
      by_cases c2 : ld v < 4 ∧ ¬ (lx v).length ≤ lp v + ld v
      · rw [if_pos c2]
        exact GOk.no
      · rw [if_neg c2]
        exact GOk.yes (by omega) (Nat.min_le_right _ _) (by omega) (fun z => by omega)
    · rw [if_neg c]
      by_cases c2 : fnE v i fl
      · rw [if_pos c2]
        exact ⟨Or.inr (Or.inr rfl), fun z => absurd z (by decide), fun z => by omega, fun _ => ⟨k7, c⟩, fun z => absurd z (by decide)⟩
      · rw [if_neg c2]
        exact GOk.yes (by omega) (Nat.min_le_right _ _) (by omega) (fun z => by omega)
  rw [if_neg k7]
  exact GOk.no
/-- the model's step at the block h + 1 -/
theorem d_go (G : mF Y a1) (hR : RGo m0 v m μ t o B E D h) (ho : h + 1 < o) (ht : h + 1 ≤ t) {N : Int32 → MS → Prop} {i : Nat} (hi : i = vo v (h + 1)) (h0 : (goT v i).1 = 0 → N 0 m) (h1 : (goT v i).1 = 1 → N 1 (mI m 31 (nI (goT v i).2))) (h2 : (goT v i).1 = 2 → ∀ x, N 1 (mI (mI m 34 1) 31 x)) : vp_in (nI (h + 1)) 40 ∧ mE Y 2 y_Mo_goesOn [.ref (mo Y), .int (m.2 29 (nI (h + 1)).toNatClampNeg), .int (nI n)] m (iP N) := by
  obtain ⟨r1, r2, r3, r4, r5, r6, r7, r8⟩ := hR
  have hRO := r1.ro
  have hlt := hRO.2.2.2.2.1 (h + 1) ht
  have hbk := (r1.rk _ hlt).1
  have hμ := r1.rg.2.2.2.2.2.1 _ hlt
  have hB := r1.rg.2.1
  have h20 := hRO.1
  rw [vp_nI (by omega), nI_clamp (by omega), hRO.2.2.2.2.2.1 (h + 1) ho, ← hi]
  rw [← hi] at hlt hbk hμ
  refine ⟨by omega, d_Mo_goesOn (w := goW v i) (fl := goL v) (fi := goF v) G (by omega) hbk r2 (fun _ => ?_) (fun z => ?_) (fun z1 z2 => ?_) r5 h0 h1 h2⟩
  · rw [hi]
    exact held_iff r1 ht
  · obtain ⟨w, w1, w2, w3⟩ := hbk.2.2.2.2.2.2.2.2.1 z
    have : goW v i = w := by show (vb v i 11).toNatClampNeg = w; rw [w2, nI_clamp (by omega)]
    rw [this]
    exact ⟨w2, w1⟩
  · have et : h + 1 = t := by
      apply Decidable.byContradiction
      intro q
      have := (hRO.2.2.2.2.2.2.1 (h + 1) (by omega)).2.2
      rw [← hi] at this
      omega
    rw [et] at hi
    rw [hi] at z1 z2 ⊢
    obtain ⟨fl, fi, w1, w2, w3, w4, w5, w6, w7, w8⟩ := r7 z1 z2
    have e1 : goL v = fl := by show (vi v 68).toNatClampNeg = fl; rw [w1, nI_clamp (by omega)]
    have e2 : goF v = fi := by show (vi v 69).toNatClampNeg = fi; rw [w2, nI_clamp (by omega)]
    rw [e1, e2]
    exact ⟨⟨w3, w4, w5, w6, w7⟩, w8⟩
/-- the class's step -/
theorem q_go (F : cF X a0) (hR : RGo m0 c.1 m μ t o B E D h) (hN : ct c.1 ≤ c.2.2) (ht : h + 1 ≤ t) {N : Int32 → CS → Prop} {i : Nat} (hi : i = vo c.1 (h + 1)) (h0 : (goT c.1 i).1 = 0 → N 0 c) (h1 : (goT c.1 i).1 = 1 → N 1 (mvT c.1 (goT c.1 i).2, c.2)) (h2 : (goT c.1 i).1 = 2 → N 0 (cI (cI (cB c i 10 (vi c.1 66)) 64 (vi c.1 64 - 1)) 67 1)) : cE X 6 y_Rd_goesOn [.ref (adr X 6), .ref (c.2.1 i)] c (ciP N) := by
  obtain ⟨r1, r2, r3, r4, r5, r6, r7, r8⟩ := hR
  have hRO := r1.ro
  have hlt := hRO.2.2.2.2.1 (h + 1) ht
  have hbk := (r1.rk _ hlt).1
  rw [← hi] at hlt hbk
  have hlx := r2.1.2.2
  refine q_Rd_goesOn (w := goW c.1 i) (fl := goL c.1) (fi := goF c.1) (m := m) (μ := μ) F (by omega) hbk r2.2.2.2 (by omega) r2.2.2.1 (fun z => ?_) (fun z1 z2 => ?_) h0 h1 h2
  · obtain ⟨w, w1, w2, w3⟩ := hbk.2.2.2.2.2.2.2.2.1 z
    have : goW c.1 i = w := by show (vb c.1 i 11).toNatClampNeg = w; rw [w2, nI_clamp (by omega)]
    rw [this]
    exact ⟨w2, w1⟩
  · have et : h + 1 = t := by
      apply Decidable.byContradiction
      intro q
      have := (hRO.2.2.2.2.2.2.1 (h + 1) (by omega)).2.2
      rw [← hi] at this
      omega
    rw [et] at hi
    rw [hi] at z1 z2
    obtain ⟨fl, fi, w1, w2, w3, w4, w5, w6, w7, w8⟩ := r7 z1 z2
    have e1 : goL c.1 = fl := by show (vi c.1 68).toNatClampNeg = fl; rw [w1, nI_clamp (by omega)]
    have e2 : goF c.1 = fi := by show (vi c.1 69).toNatClampNeg = fi; rw [w2, nI_clamp (by omega)]
    rw [e1, e2]
    exact ⟨w1, w2, w6, w7⟩
/-- the last block that was open, in the model -/
def BT (v : VS) (μ : Nat → Nat) (o bt : Nat) : Prop := bt = μ (vo v (o - 1))
theorem RGo.rb (hR : RGo m0 v m μ t o B E D h) (ht : h ≤ t) (ho : h + 1 ≤ o) (hb : BT v μ o bt) : RB m0 v m μ t o B E D h bt (if h + 1 = o then 1 else 0) := by
  obtain ⟨r1, r2, r3, r4, r5, r6, r7, r8⟩ := hR
  have hRO := r1.ro
  have hoo : o = t + 1 ∨ (o = t ∧ (kd v (vo v t) = 5 ∨ kd v (vo v t) = 6)) := by
    rcases r1.2 with z | z
    · exact Or.inl z.2.2.2.2.1
    · rcases z.2 with y | y
      · exact Or.inl y.2
      · exact Or.inr ⟨y.2, y.1⟩
  have hlt := hRO.2.2.2.2.1 (o - 1) (by omega)
  have hbk := (r1.rk _ hlt).1
  have hμ := r1.rg.2.2.2.2.2.1 _ hlt
  have hB := r1.rg.2.1
  have e13 : m.2 13 bt = nI (kd v (vo v (o - 1))) := by rw [hb, hbk.2.1]; exact hbk.1.1
  have h4 : m.2 13 bt = 4 ↔ kd v (vo v t) = 4 := by
    rw [e13]
    rcases hoo with z | z
    · rw [z]
      exact lit_eqJ (by decide) (by have := hbk.1.2.1; rw [z] at this; show kd v (vo v t) < _; have e : t + 1 - 1 = t := rfl; rw [e] at this; omega)
    · have := (hRO.2.2.2.2.2.2.1 (o - 1) (by omega)).2.2
      constructor
      · intro y
        have := (lit_eqJ (by decide) (by omega)).mp y
        omega
      · intro y
        omega
  have hbt : bt < 3300 := by rw [hb]; omega
  refine ⟨r1, r2, r3, r4, r5, r7, r8, Or.inr ⟨r6, hbt, ?_⟩⟩
  by_cases e : h + 1 = o
  · rw [if_pos e]
    exact Or.inr ⟨rfl, e, fun _ => h4⟩
  · rw [if_neg e]
    refine Or.inl ⟨rfl, by omega, h4, fun y => ?_⟩
    rcases hoo with z | z
    · rw [hb, z]
      rfl
    · omega
/-- the model behind the loop -/
theorem d_86 (hR : RGo m0 v m μ t o B E D h) (ht : h ≤ t) (ho : h + 1 ≤ o) (hb : BT v μ o bt) {Φ : Option Value → MS → Prop} (hZ : Z163 Y d (nI n) (nI bt) x3 (if h + 1 = o then 1 else 0) Φ (if kd v (vo v h) = 7 then 0 else 1) m) : w_Mo_takeLine_86 Y (nI n) (nI bt) x3 x4 m Φ (J163 Y d (nI n) (nI bt) Φ) := by
  have hB := hR.rb ht ho hb
  obtain ⟨e32, e29, hμ, e13, hk7, h40⟩ := hB.hand ht
  have h30 := hR.1.ro.2.2.1
  have h20 := hR.1.ro.1
  have ho2 := hR.1.ro.2.2.2.1
  have h135 : ∀ s : Int32, s = (if h + 1 = o then 1 else 0) → w_Mo_takeLine_135 Y (nI n) (nI bt) x3 x4 s m Φ (J163 Y d (nI n) (nI bt) Φ) := by
    intro s hs
    unfold w_Mo_takeLine_135 w_Mo_takeLine_161
    rw [e32, vp_nI (by omega), nI_clamp (by omega), e29, vp_nI (by omega), nI_clamp (by omega), e13, hs]
    refine ⟨h40, hμ, fun z => ⟨rfl, rfl, ?_⟩, fun z => ⟨rfl, rfl, ?_⟩⟩
    · rw [if_pos ((lit_eqJ (by decide) (by omega)).mp z)] at hZ
      exact hZ
    · rw [if_neg (fun y => z ((lit_eqJ (by decide) (by omega)).mpr y))] at hZ
      exact hZ
  unfold w_Mo_takeLine_86
  obtain ⟨o', rfl⟩ : ∃ o', o = o' + 1 := ⟨o - 1, by omega⟩
  rw [e32, h30, nI_pred, nI_eq (by omega) (by omega)]
  refine ⟨fun _ => ⟨fun z => h135 1 (by rw [if_pos (by omega)]), fun z => h135 0 (by rw [if_neg (by omega)])⟩, fun z => absurd hR.2.2.2.2.1 z⟩
/-- a fence ends: class and model -/
abbrev fnV (v : VS) (i n h : Nat) : VS := vI (vI (vB v i 10 (nI n)) 64 (nI h)) 67 1
theorem d_fenceEnd (G : mF Y a1) (hR : RGo m0 v m μ t o B E D h) (et : h + 1 = t) (h7 : kd v (vo v t) = 7) (hn : n ≤ 3001) {x : Int32} {Φ : Option Value → MS → Prop} (hΦ : ∀ m', RE m0 (fnV v (vo v t) n h) m' μ h (h + 1) B E D → Φ none m') : Z37 Y d (nI n) (nI bt) Φ 1 (nI (h + 1 + 1)) (mI (mI (mI m 34 1) 31 x) 32 (nI (h + 1))) := by
  obtain ⟨r1, r2, r3, r4, r5, r6, r7, r8⟩ := hR
  have hL := r1.leaf (Or.inr h7)
  have hRO := r1.ro
  have h20 := hRO.1
  have eo : o = t + 1 := hL.2.2.2.2.1
  have hlt := hRO.2.2.2.2.1 t (Nat.le_refl _)
  have hμ := r1.rg.2.2.2.2.2.1 _ hlt
  have hB := r1.rg.2.1
  have hms : MSame m (mI (mI (mI m 34 1) 31 x) 32 (nI (h + 1))) := ⟨rfl, rfl, rfl, rfl, fun _ => rfl, fun _ _ _ _ _ => rfl⟩
  have hL2 := (r1.same (VSame.rfl (v := v)) hms).leaf (Or.inr h7)
  generalize hm2 : mI (mI (mI m 34 1) 31 x) 32 (nI (h + 1)) = m2 at *
  have e32 : m2.1 32 = nI (h + 1) := by rw [← hm2, mI_at]
  have e34 : m2.1 34 = 1 := by rw [← hm2]; rfl
  have e30 : m2.1 30 = nI o := by rw [← hm2]; exact hRO.2.2.1
  have e29 : m2.2 29 (h + 1) = nI (μ (vo v t)) := by rw [← hm2, et]; exact hRO.2.2.2.2.2.1 t (by omega)
  have e5 : m2.1 5 = -1 := by rw [← hm2]; exact r4
  have hF2 : FrX m0 m2 := by rw [← hm2]; exact ((r8.i (k := 34) (by decide) _).i (k := 31) (by decide) _).i (k := 32) (by decide) _
  refine Z37.cl G ?_
  unfold w_Mo_takeLine_37 w_Mo_takeLine_86
  rw [e30, e32, e34, nI_leI (by omega) (by omega), vp_nI (by omega), nI_clamp (by omega), e29, vp_nI (by omega), nI_clamp (by omega)]
  refine ⟨fun _ => ⟨fun z => absurd z (by decide), fun _ => ⟨by omega, by omega, fun m1 e1 => ?_⟩⟩, fun z => by omega⟩
  have f32 : m1.1 32 = nI (h + 1) := by rw [e1]; exact e32
  rw [f32]
  obtain ⟨l1, l2, f, l3, l4, l5, l6, l7, l8, l9, l10, l11, l12⟩ := hL2.2.2.2.2.2.2.1
  have hm : ∀ k j, ¬ (j = μ (vo v t) ∧ k = 17) → m1.2 k j = m2.2 k j := fun k j z => by rw [e1]; exact if_neg (fun y => z ⟨y.2, y.1⟩)
  have hvb : ∀ j k, ¬ (j = vo v t ∧ k = 10) → vb (vB v (vo v t) 10 (nI n)) j k = vb v j k := fun j k z => upd2_off z
  have hrt := hL2.2.2.2.1
  have hL3 : RL (vB v (vo v t) 10 (nI n)) m1 μ t o B E D := by
    refine RL_text (f := f) (os := []) hL2 l3 l4 ⟨rfl, rfl, (List.append_nil _).symm, rfl, rfl, fun j k z => hvb j k (fun y => z ⟨y.1, Or.inr y.2⟩)⟩ ⟨by rw [e1]; exact hrt.2.1, by rw [e1]; rfl, by rw [e1]; rfl, by rw [e1]; rfl, fun i _ => hm 7 i (fun y => absurd y.2 (by decide)), fun k hk => absurd hk (Nat.not_lt_zero _), fun k j _ z => hm k j (fun y => z ⟨y.1, Or.inl y.2⟩)⟩ (by have := hrt.1; show _ + 0 ≤ _; omega) (by have := hrt.2.2.2.2.2.2.2.2.2.1; show _ + 0 ≤ _; omega) ⟨n, hn, upd2_here, by rw [e1]; exact mA_at _ _ _ _⟩ ?_ ?_
    · rw [hm 19 _ (fun y => absurd y.2 (by decide))]
      exact l6
    · unfold LE kd
      rw [hvb _ 6 (fun y => absurd y.2 (by decide)), hvb _ 0 (fun y => absurd y.2 (by decide)), hvb _ 12 (fun y => absurd y.2 (by decide))]
      exact l12
  refine d_closeCode (v' := fnV v (vo v t) n h) (h := h) G hL3 ?_ (by omega) ⟨rfl, rfl, rfl, rfl, rfl, rfl⟩ (fun m5 hA hF => hΦ m5 ?_)
  · show kd (vB v (vo v t) 10 (nI n)) (vo v t) = 7
    unfold kd
    rw [hvb _ 0 (fun y => absurd y.2 (by decide))]
    exact h7
  · have hkh : kd (fnV v (vo v t) n h) (vo (fnV v (vo v t) n h) h) ≤ 3 := by
      have := (hRO.2.2.2.2.2.2.1 h (by omega)).2.2
      show (vb (vB v (vo v t) 10 (nI n)) (vo v h) 0).toNatClampNeg ≤ 3
      rw [hvb _ 0 (fun y => absurd y.2 (by decide))]
      exact this
    refine ⟨⟨rfl, Or.inr ⟨hA, Or.inl ⟨hkh, rfl⟩⟩⟩, fun z => by omega, (hF2.trans ?_).trans hF.l, ?_⟩
    · rw [e1]
      exact FrL.rfl.a (by decide) _
    · rw [hF.1 5 (by decide) (by decide) (by decide) (by omega), e1]
      exact e5
/-- the model's set before the line's loop -/
def S37 (m0 : MS → Prop) (v : VS) (μ : Nat → Nat) (t o B : Nat) (D : DL) (m : MS) : Prop := ∃ E, RGo m0 v m μ t o B E D 0
theorem wit37 {S : MS → Prop} (hσ : ∃ m σ, S m ∧ MV Y m σ) {x1 x2 y3 y4 : Int32} {R : MS → Nat → Prop} (hi : ∀ d Φ, (∀ m' E', R m' E' → Z37 Y d x1 x2 Φ y3 y4 m') → ∀ m, S m → Z37 Y d x1 x2 Φ x3 x4 m) : ∃ m' E', R m' E' := by
  apply Classical.byContradiction
  intro hn
  obtain ⟨m, σ, hS, hV⟩ := hσ
  exact no37 ⟨σ, hV⟩ (fun d Φ => hi d Φ (fun m' E' hR => absurd ⟨m', E', hR⟩ hn) m hS)
abbrev goC (c : CS) (n : Nat) : CS := cI (cI (cI c 66 (nI n)) 67 0) 65 0
def GoA (Y : MX) (m0 : MS → Prop) (S : MS → Prop) (μ : Nat → Nat) (t o B : Nat) (D : DL) (n bt : Nat) (h : Nat) (x3 : Int32) (c' : CS) : Prop := ∀ d Φ, (∀ m' E', RB m0 c'.1 m' μ t o B E' D h bt (if h + 1 = o then 1 else 0) → Z163 Y d (nI n) (nI bt) x3 (if h + 1 = o then 1 else 0) Φ (if kd c'.1 (vo c'.1 h) = 7 then 0 else 1) m') → ∀ m, S m → Z37 Y d (nI n) (nI bt) Φ 1 1 m
def GoE (Y : MX) (m0 : MS → Prop) (S : MS → Prop) (μ : Nat → Nat) (t o B : Nat) (D : DL) (n bt : Nat) (c' : CS) : Prop := ∀ d Φ, (∀ m' E', RE m0 c'.1 m' μ t o B E' D → Φ none m') → ∀ m, S m → Z37 Y d (nI n) (nI bt) Φ 1 1 m
def GoV (v v' : VS) : Prop := vo v' = vo v ∧ vb v' = vb v ∧ vr v' = vr v ∧ ct v' = ct v
theorem q_goOn (F : cF X a0) (G : mF Y a1) (hσ : ∃ m σ, S37 m0 (goC c n).1 μ t o B D m ∧ MV Y m σ) (hN : ct c.1 ≤ c.2.2) (hC : CGo K (goC c n).1 t o B 0 n) (hb : BT c.1 μ o bt) {N : CS → Prop}
    (hA : ∀ c' h x3, LkC (goC c n) c' → CB K c'.1 t B h n → vi c'.1 67 = 0 → tx c'.1 = tx c.1 → GoA Y m0 (S37 m0 (goC c n).1 μ t o B D) μ t o B D n bt h x3 c' → N c')
    (hF : ∀ c' h, LkC (goC c n) c' → vi c'.1 67 = 1 → CDn K (tx c.1) c'.1 h B → GoE Y m0 (S37 m0 (goC c n).1 μ t o B D) μ h (h + 1) B D n bt c' → N c') : cE X 7 y_Rd_goOn [.ref (adr X 6), .int (nI n)] c (cvP N) := by
  have hn := hC.1.2.2.2.1
  have ht13 := hC.1.2.2.2.2.1
  refine g_Rd_goOn (I17 := fun j x1 x2 c' => x1 = nI n ∧ ∃ h, x2 = nI (h + 1) ∧ j + h = t ∧ CGo K c'.1 t o B h n ∧ c'.2 = c.2 ∧ GoV c.1 c'.1 ∧ vn c'.1 51 = vn c.1 51 ∧ (vi c'.1 6 = vi c.1 6 ∧ vi c'.1 7 = vi c.1 7 ∧ vy c'.1 = vy c.1) ∧ ∀ d Φ, (∀ m' E', RGo m0 c'.1 m' μ t o B E' D h → Z37 Y d (nI n) (nI bt) Φ 1 (nI (h + 1)) m') → ∀ m, S37 m0 (goC c n).1 μ t o B D m → Z37 Y d (nI n) (nI bt) Φ 1 1 m) F ?_ ?_
  · unfold w_Rd_goOn_0
    intro m1 e1 m2 e2 m3 e3
    have : m3 = goC c n := by rw [e3, e2, e1]
    rw [this]
    exact ⟨t, rfl, 0, rfl, rfl, hC, rfl, ⟨rfl, rfl, rfl, rfl⟩, rfl, ⟨rfl, rfl, rfl⟩, fun d Φ hn m ⟨E, hS⟩ => hn m E hS⟩
  · rintro j x1 x2 c' ⟨rfl, h, rfl, hj, hG, e2, ⟨g1, g2, g3, g4⟩, g5, ⟨g6, g7, g8⟩, hI⟩
    obtain ⟨mw, Ew, hw⟩ := wit37 hσ hI
    have hRO := hw.1.ro
    have hN' : ct c'.1 ≤ c'.2.2 := by rw [e2, g4]; exact hN
    have h64 := hw.1.1
    have ho1 := hG.2.2.2.2
    have hle := hG.1.2.1
    have h66 := hG.1.2.2.1
    have hoo : o = t + 1 ∨ (o = t ∧ (kd c'.1 (vo c'.1 t) = 5 ∨ kd c'.1 (vo c'.1 t) = 6)) := by
      rcases hw.1.2 with z | z
      · exact Or.inl z.2.2.2.2.1
      · rcases z.2 with y | y
        · exact Or.inl y.2
        · exact Or.inr ⟨y.2, y.1⟩
    have hb' : BT c'.1 μ o bt := by unfold BT at hb ⊢; rw [g1]; exact hb
    have hLk : LkC (goC c n) c' := ⟨ExC.of e2, hN', by rw [g3]; rfl, by unfold lx; rw [g3]; rfl, g5, g6, g7, h66, g8, by rw [g1]; rfl⟩
    -- the loop ends here
    have hend : ∀ x3, (∀ d Φ m' E', RGo m0 c'.1 m' μ t o B E' D h → (∀ x4, w_Mo_takeLine_86 Y (nI n) (nI bt) x3 x4 m' Φ (J163 Y d (nI n) (nI bt) Φ)) → Z37 Y d (nI n) (nI bt) Φ 1 (nI (h + 1)) m') → N c' := by
      intro x3 hq
      refine hA c' h x3 hLk hG.cb hG.2.2.2.1 (by unfold tx; rw [g3]) (fun d Φ hnext m hS => hI d Φ (fun m' E' hr => hq d Φ m' E' hr (fun x4 => ?_)) m hS)
      exact d_86 hr hle ho1 hb' (hnext m' E' (hr.rb hle ho1 hb'))
    have hbd : o ≤ h + 1 → N c' := by
      intro q
      refine hend 1 (fun d Φ m' E' hr h86 => Z37.cl G ?_)
      unfold w_Mo_takeLine_37
      rw [hr.1.ro.2.2.1, nI_leI (by omega) (by omega)]
      exact ⟨fun _ => h86 _, fun z => absurd q z⟩
    have h37 : h + 1 < o → ∀ (m' : MS) (E' d : Nat) (Φ : Option Value → MS → Prop), RGo m0 c'.1 m' μ t o B E' D h → (vp_in (nI (h + 1)) 40 ∧ mE Y 2 y_Mo_goesOn [.ref (mo Y), .int (m'.2 29 (nI (h + 1)).toNatClampNeg), .int (nI n)] m' (iP fun r1 m1 => ((r1 = 0 → w_Mo_takeLine_80 Y (nI n) (nI bt) (r1) (nI (h + 1)) m1 Φ (K37 Y d (nI n) (nI bt) Φ) (J163 Y d (nI n) (nI bt) Φ)) ∧ (¬ r1 = 0 → ∀ m2, m2 = mI m1 32 (nI (h + 1)) → w_Mo_takeLine_80 Y (nI n) (nI bt) (r1) (nI (h + 1)) m2 Φ (K37 Y d (nI n) (nI bt) Φ) (J163 Y d (nI n) (nI bt) Φ))))) → Z37 Y d (nI n) (nI bt) Φ 1 (nI (h + 1)) m' := by
      intro q m' E' d Φ hr hx
      refine Z37.cl G ?_
      unfold w_Mo_takeLine_37
      rw [hr.1.ro.2.2.1, nI_leI (by omega) (by omega)]
      exact ⟨fun z => by omega, fun _ => ⟨fun z => absurd z (by decide), fun _ => ⟨fun _ => hx, fun z => absurd hr.2.2.2.2.1 z⟩⟩⟩
    unfold w_Rd_goOn_17 w_Rd_goOn_48
    rw [h64, nI_ltI (by omega) (by omega)]
    refine ⟨fun z => ⟨rfl, hbd (by omega)⟩, fun z => q_Rd_openAt F (by omega) ?_⟩
    have hgk := gOut_ok (v := c'.1) (i := vo c'.1 (h + 1)) (w := goW c'.1 (vo c'.1 (h + 1))) (fl := goL c'.1) (fi := goF c'.1) hw.2.1.2.2.1
    refine q_go F hw hN' (by omega) rfl (fun q0 => ⟨fun _ => ⟨rfl, ?_⟩, fun y => absurd rfl y⟩) (fun q1 => ⟨fun y => absurd y (by decide), fun _ m3 e3 => ?_⟩) (fun q2 => ⟨fun _ => ⟨rfl, ?_⟩, fun y => absurd rfl y⟩)
    · -- it does not go on
      by_cases q : o ≤ h + 1
      · exact hbd q
      · refine hend 0 (fun d Φ m' E' hr h86 => h37 (by omega) m' E' d Φ hr (d_go G hr (by omega) (by omega) rfl (fun _ => ⟨fun _ => ?_, fun y => absurd rfl y⟩) (fun y => by omega) (fun y => by omega)))
        unfold w_Mo_takeLine_80
        refine ⟨rfl, rfl, Z37.cl G ?_⟩
        unfold w_Mo_takeLine_37
        exact ⟨fun _ => h86 _, fun _ => ⟨fun _ => h86 _, fun y => absurd rfl y⟩⟩
    · -- it goes on
      have hlt : h + 1 < o := by
        apply Decidable.byContradiction
        intro q
        rcases hoo with y | y
        · omega
        · have e : h + 1 = t := by omega
          have h0 := hgk.2.2.1 (by rw [e]; exact y.2)
          exact absurd (h0.symm.trans q1) (by decide)
      have hp := hgk.2.1 q1
      generalize hpe : (goT c'.1 (vo c'.1 (h + 1))).2 = p at *
      rw [nI_1]
      obtain ⟨c1, c2, c3, c4, c5, c6, c7, c8, c9⟩ := hG.1
      have hld := hw.2.1.2.2.2
      refine ⟨j - 1, by omega, rfl, h + 1, rfl, by omega, ?_, ?_, ?_, ?_, ?_, ?_⟩
      · rw [e3]
        refine ⟨⟨cI_at _ _ _, by omega, c3, c4, c5, c6, c7, c8, c9⟩, ?_, ⟨hG.2.2.1.1, fun y => ?_⟩, hG.2.2.2.1, by omega⟩
        · have := phi_mono (xs := lx c'.1) hp.1
          have := hG.2.1
          show (B + phi (lx c'.1) p ≤ K ∧ K ≤ 3002)
          omega
        · have h5 := hgk.2.2.2.2 q1 y
          have ep : p = lp c'.1 := by rw [← hpe]; exact h5.1
          show ¬ (lx c'.1).length ≤ p + spF (lx c'.1) p
          rw [ep, ← hld]
          exact h5.2
      · rw [e3]; exact e2
      · rw [e3]; exact ⟨g1, g2, g3, g4⟩
      · rw [e3]; exact g5
      · rw [e3]; exact ⟨g6, g7, g8⟩
      · intro d Φ hnext m hS
        refine hI d Φ (fun m' E' hr => h37 hlt m' E' d Φ hr (d_go G hr hlt (by omega) rfl (fun y => by omega) (fun _ => ⟨fun y => absurd y (by decide), fun _ m2 e4 => ?_⟩) (fun y => by omega))) m hS
        unfold w_Mo_takeLine_80
        refine ⟨rfl, rfl, ?_⟩
        rw [nI_1]
        refine hnext m2 E' ?_
        rw [e4, e3]
        obtain ⟨r1, r2, r3, r4, r5, r6, r7, r8⟩ := hr
        have hm2 := r2.mv hp.2
        rw [hpe]
        refine ⟨r1.same ⟨rfl, rfl, rfl, rfl, rfl, rfl, rfl⟩ ⟨rfl, rfl, rfl, rfl, fun _ => rfl, fun _ _ _ _ _ => rfl⟩, ?_, mI_at _ _ _, r4, r5, r6, r7, (r8.i (k := 31) (by decide) _).i (k := 32) (by decide) _⟩
        exact ⟨⟨hm2.1.1, hm2.1.2.1, hm2.1.2.2⟩, hm2.2.1, hm2.2.2.1, hm2.2.2.2⟩
    · -- a fence ends
      have h7 := hgk.2.2.2.1 q2
      have et : h + 1 = t := by
        apply Decidable.byContradiction
        intro q
        have := (hRO.2.2.2.2.2.2.1 (h + 1) (by omega)).2.2
        omega
      rw [et] at h7
      have hlt : h + 1 < o := by
        rcases hoo with y | y <;> omega
      have hst : cI (cI (cB c' (vo c'.1 (h + 1)) 10 (vi c'.1 66)) 64 (vi c'.1 64 - 1)) 67 1 = (fnV c'.1 (vo c'.1 t) n h, c'.2) := by
        rw [h66, h64, et]
        have : (nI t : Int32) - 1 = nI h := by rw [← et, nI_pred]
        rw [this]
        rfl
      have hkh := (hRO.2.2.2.2.2.2.1 h (by omega)).2.2
      have hkd : ∀ i, kd (fnV c'.1 (vo c'.1 t) n h) i = kd c'.1 i := fun i => by
        show (upd2 (vb c'.1) _ 10 _ i 0).toNatClampNeg = _
        rw [upd2_off (fun y => absurd y.2 (by decide))]
      rw [hst]
      obtain ⟨c1, c2, c3, c4, c5, c6, c7, c8, c9⟩ := hG.1
      have hph := hG.2.1
      refine hF _ h ⟨ExC.of e2, hN', by show vr c'.1 1 = _; rw [g3]; rfl, by show vr c'.1 11 = _; rw [g3]; rfl, g5, g6, g7, h66, g8, by show vo c'.1 0 = _; rw [g1]; rfl⟩ rfl ⟨by omega, fun _ => by omega, fun k hk y => ?_, by omega, fun y => ?_, ?_⟩ (fun d Φ hnext m hS => hI d Φ (fun m' E' hr => h37 hlt m' E' d Φ hr (d_go G hr hlt (by omega) rfl (fun y => by omega) (fun y => by omega) (fun _ x => ⟨fun y => absurd y (by decide), fun _ m2 e4 => ?_⟩))) m hS)
      · rw [hkd] at y ⊢
        exact c7 k (by omega) y
      · rw [hkd] at y
        have y' : kd c'.1 (vo c'.1 h) = 7 := y
        omega
      · have : tx (fnV c'.1 (vo c'.1 t) n h) = tx c.1 := by show vr c'.1 10 = vr c.1 10; rw [g3]
        show GrT _ (tx c.1) (tx (fnV c'.1 (vo c'.1 t) n h))
        rw [this]
        exact GrT.rfl
      · unfold w_Mo_takeLine_80
        refine ⟨rfl, rfl, ?_⟩
        rw [e4, nI_1]
        exact d_fenceEnd G hr et h7.1 (by omega) (fun m5 h5 => hnext m5 E' h5)
end GOON
end KB
