/-! reading: one line after the other -/
def Z114 (Y : MX) (d : Nat) (Φ : Option Value → MS → Prop) (x1 : Int32) (m : MS) : Prop := ∀ (σ : jS), MV Y m σ → jW Y.1 Y.2.1 jcl Y.2.2.1 Y.2.2.2.1 (d + 11) y_Mo_readBlocks 114 [some (.ref (mo Y)), some (.int x1)] [] σ (mQ Y Φ σ)
theorem Z114.cl {Y : MX} {a1 : Array Value} (G : mF Y a1) {d : Nat} {x1 : Int32} {Φ : Option Value → MS → Prop} {m : MS} (h : w_Mo_readBlocks_114 Y x1 m Φ (Z114 Y d Φ)) : Z114 Y d Φ x1 m := by
  intro σ hV
  exact t_Mo_readBlocks_114 G hV h (fun y1 m' σ' hV' hK => hK σ' hV')
theorem no114 {Y : MX} {x1 : Int32} {m : MS} (hσ : ∃ σ, MV Y m σ) (h : ∀ d Φ, Z114 Y d Φ x1 m) : False := by
  obtain ⟨σ, hV⟩ := hσ
  obtain ⟨r, σ', _, _, m', _, hf⟩ := h 0 (fun _ _ => False) σ hV
  exact hf
theorem wit114 {Y : MX} {S : MS → Prop} (hσ : ∃ m σ, S m ∧ MV Y m σ) {x1 y1 : Int32} {R : MS → Nat → Prop} (hi : ∀ d Φ, (∀ m' E', R m' E' → Z114 Y d Φ y1 m') → ∀ m, S m → Z114 Y d Φ x1 m) : ∃ m' E' σ, R m' E' ∧ MV Y m' σ := by
  apply Classical.byContradiction
  intro hn
  obtain ⟨m, σ, hS, hV⟩ := hσ
  exact no114 ⟨σ, hV⟩ (fun d Φ => hi d Φ (fun m' E' hR σ' hV' => absurd ⟨m', E', σ', hR, hV'⟩ hn) m hS)
/-- what reading leaves as it is, in the model -/
def FrR (ms m : MS) : Prop := (∀ k, (k ≤ 4 ∨ k = 11 ∨ k = 39) → m.1 k = ms.1 k) ∧ ∀ k i, (k ≤ 6 ∨ k = 8 ∨ k = 37 ∨ k = 38 ∨ 52 ≤ k) → m.2 k i = ms.2 k i
theorem FrR.l {ms m m' : MS} (h : FrR ms m) (h2 : FrL m m') : FrR ms m' := ⟨fun k q => (h2.1 k (by omega)).trans (h.1 k q), fun k i q => (h2.2 k i (by omega)).trans (h.2 k i q)⟩
theorem FrR.ln {ms m m' : MS} (h : FrR ms m) (h2 : FrLn m m') : FrR ms m' := ⟨fun k q => (h2.1 k (by omega)).trans (h.1 k q), fun k i q => (h2.2 k i (by omega)).trans (h.2 k i q)⟩
theorem FrR.tp {ms m : MS} {ts : List Int32} (h : FrR ms m) (hT : TpI ms ts) : TpI m ts := ⟨(h.1 11 (by omega)).trans hT.1, fun k hk => (h.2 8 k (by omega)).trans (hT.2.1 k hk), hT.2.2⟩
/-- between two lines -/
def ROu (ms : MS) (v : VS) (m : MS) (μ : Nat → Nat) (t o B E : Nat) (D : DL) (n : Nat) : Prop := RR v m μ t o B E D ∧ FN v m μ t ∧ m.1 5 = -1 ∧ FrR ms m ∧ m.1 6 = nI n
def COu (v : VS) (t B n : Nat) : Prop := t ≤ 13 ∧ (kd v (vo v t) ≤ 3 → t ≤ 12) ∧ LI v t ∧ (kd v (vo v t) = 7 → vb v (vo v t) 12 = 0 → vb v (vo v t) 6 ≠ 0) ∧ n ≤ vn v 51 ∧ vn v 51 ≤ (vr v 1).length + 1 ∧ (vr v 1).length ≤ 3000 ∧ B ≤ vn v 51 + 1 ∧ (tx v).length ≤ 4 * vn v 51 ∧ nsP (tx v) (tx v).length ≤ vn v 51
/-- the loop of read, after n lines: c of class, for all models that began with S -/
def RdI (Y : MX) (ms : MS) (S : MS → Prop) (c : CS) (n : Nat) : Prop := ct c.1 ≤ c.2.2 ∧ ∃ (μ : Nat → Nat) (t o B : Nat) (D : DL), COu c.1 t B n ∧ ∀ d Φ, (∀ m' E', ROu ms c.1 m' μ t o B E' D n → Z114 Y d Φ (nI (min (vn c.1 51) (vr c.1 1).length)) m') → ∀ m, S m → Z114 Y d Φ 0 m
def RdD (Y : MX) (ms : MS) (S : MS → Prop) (n : Nat) : Prop := ∀ d Φ, (∀ m', m'.1 5 = nI n → FrR ms m' → m'.1 6 = nI (n + 1) → Φ none m') → ∀ m, S m → Z114 Y d Φ 0 m
theorem ROu.vs {ms m : MS} {v v' : VS} {μ : Nat → Nat} {t o B E n : Nat} {D : DL} (h : ROu ms v m μ t o B E D n) (hV : VSame v v') (h68 : vi v' 68 = vi v 68 ∧ vi v' 69 = vi v 69) : ROu ms v' m μ t o B E D n := by
  obtain ⟨r1, r2, r3, r4, r5⟩ := h
  refine ⟨r1.same hV MSame.rfl, ?_, r3, r4, r5⟩
  unfold FN kd at r2 ⊢
  rw [hV.2.2.1, hV.2.1, h68.1, h68.2]
  exact r2
theorem RdI.lines {Y : MX} {ms : MS} {S : MS → Prop} {c : CS} {n : Nat} (h : RdI Y ms S c n) (x : Int32) : RdI Y ms S (cI c 6 x) n := by
  obtain ⟨h1, μ, t, o, B, D, h2, h3⟩ := h
  exact ⟨h1, μ, t, o, B, D, h2, fun d Φ hn m hS => h3 d Φ (fun m' E' hr => hn m' E' (hr.vs ⟨rfl, rfl, rfl, rfl, rfl, rfl, rfl⟩ ⟨rfl, rfl⟩)) m hS⟩
section STEP
variable {X : CX} {Y : MX} {a0 a1 : Array Value} {c : CS} {ms : MS} {S : MS → Prop} {n : Nat}
/-- the class behind takeNext -/
abbrev nxV (v : VS) : VS := vN (vN (vN (vR v 11 (lnS (vr v 1) (vn v 51))) 51 (lnN (vr v 1) (lnE (vr v 1) (vn v 51)))) 52 0) 53 (spF (lnS (vr v 1) (vn v 51)) 0)
/-- class: kept by a step -/
def KVs (v v' : VS) : Prop := vr v' 1 = vr v 1 ∧ vi v' 6 = vi v 6 ∧ vi v' 7 = vi v 7 ∧ vy v' = vy v ∧ vo v' 0 = vo v 0
theorem p_step (F : cF X a0) (G : mF Y a1) (hBN : BNok X) (hTA : TAok X) (hσ : ∃ m σ, S m ∧ MV Y m σ) (hTp : TpI ms (vr c.1 1)) (hI : RdI Y ms S c n) {N0 N1 N2 : CS → Prop}
    (h0 : (vr c.1 1).length ≤ vn c.1 51 → N0 c)
    (h1 : ∀ c5, ExC c c5 → KVs c.1 c5.1 → RdI Y ms S c5 (n + 1) → N1 c5)
    (h2 : ∀ c5, ExC c c5 → ct c5.1 ≤ c5.2.2 → KVs c.1 c5.1 → vn c.1 51 < (vr c.1 1).length → RdD Y ms S n → N2 c5) :
    cE X 4 y_Line_takeNext [.ref (adr X 5), .ref (adr X 1)] c (ciP fun r c1 => (r = 0 → N0 c1) ∧ (¬ r = 0 → cE X 7 y_Rd_goOn [.ref (adr X 6), .int (nI n)] c1 (cvP fun c2 => cE X 11 y_Rd_lookForBeginnings [.ref (adr X 6)] c2 (ciP fun r c3 => (r = 0 → N2 c3) ∧ (¬ r = 0 → cE X 10 y_Rd_takeRest [.ref (adr X 6)] c3 (cvP N1)))))) := by
  obtain ⟨hN, μ, t, o, B, D, ⟨k1, k2, k3, k4, k5, k6, k7, k8, k9, k10⟩, hP⟩ := hI
  obtain ⟨mw, Ew, σw, hw, hVw⟩ := wit114 hσ hP
  refine q_Line_takeNext F k7 (by omega) (fun z => ⟨fun _ => h0 z, fun y => absurd rfl y⟩) (fun hlt => ⟨fun y => absurd y (by decide), fun _ => ?_⟩)
  have hin := lnN_in hlt k7
  have hall := lnS_all (vr c.1 1) (vn c.1 51)
  generalize hts : vr c.1 1 = ts at *
  generalize hta : vn c.1 51 = ta at *
  have hlen : (lnS ts ta).length ≤ 12000 := by omega
  have hW := lnS_W ts ta hlen
  have hRO := hw.1.ro
  have hoo : o = t + 1 ∨ (o = t ∧ (kd c.1 (vo c.1 t) = 5 ∨ kd c.1 (vo c.1 t) = 6)) := by
    rcases hw.1.2 with z | z
    · exact Or.inl z.2.2.2.2.1
    · rcases z.2 with y | y
      · exact Or.inl y.2
      · exact Or.inr ⟨y.2, y.1⟩
  have hk0 : kd c.1 (vo c.1 0) = 0 := by
    rw [hRO.2.1]
    exact (hw.1.rk 0 (by have := hw.1.rg.1; omega)).1.1.2.2.mpr rfl
  have ho1 : 1 ≤ o := by
    rcases hoo with z | z
    · omega
    · apply Decidable.byContradiction
      intro q
      have e : t = 0 := by omega
      rw [e, hk0] at z
      omega
  have h20 := hRO.1
  -- the class's line
  generalize hv1 : vN (vN (vN (vR c.1 11 (lnS ts ta)) 51 (lnN ts (lnE ts ta))) 52 0) 53 (spF (lnS ts ta) 0) = v1
  have f64 : vi v1 = vi c.1 := by rw [← hv1]; rfl
  have fvb : vb v1 = vb c.1 := by rw [← hv1]; rfl
  have fvo : vo v1 = vo c.1 := by rw [← hv1]; rfl
  have fvy : vy v1 = vy c.1 := by rw [← hv1]; rfl
  have fct : ct v1 = ct c.1 := by rw [← hv1]; rfl
  have flx : lx v1 = lnS ts ta := by rw [← hv1]; rfl
  have flp : lp v1 = 0 := by rw [← hv1]; rfl
  have fld : ld v1 = spF (lnS ts ta) 0 := by rw [← hv1]; rfl
  have f51 : vn v1 51 = lnN ts (lnE ts ta) := by rw [← hv1]; rfl
  have fvr : ∀ κ, κ ≠ 11 → vr v1 κ = vr c.1 κ := fun κ hκ => by rw [← hv1]; exact if_neg hκ
  have hVs : VSame c.1 (goC (v1, c.2) n).1 := ⟨fct, fvb, fvo, fvr 10 (by decide), fvr 12 (by decide), fvr 13 (by decide), by show vi v1 64 = _; rw [f64]⟩
  have hkd : ∀ i, kd v1 i = kd c.1 i := fun i => by unfold kd; rw [fvb]
  have htx : tx v1 = tx c.1 := fvr 10 (by decide)
  -- the model's line
  have hm0 : ∀ m' E' m1, ROu ms c.1 m' μ t o B E' D n → FrLn m' m1 → LnI m1 (lnS ts ta) → S37 (fun x => FrR ms x ∧ x.1 6 = nI n) (goC (v1, c.2) n).1 μ t o B D (mI (mI (mI (mI m1 31 0) 34 0) 33 0) 32 0) := by
    intro m' E' m1 hr hf hL
    obtain ⟨r1, r2, r3, r4, r5⟩ := hr.vs hVs ⟨by show vi v1 68 = _; rw [f64], by show vi v1 69 = _; rw [f64]⟩
    have hms : MSame m' (mI (mI (mI (mI m1 31 0) 34 0) 33 0) 32 0) := ⟨hf.1 10 (by decide), hf.1 28 (by decide), hf.1 30 (by decide), hf.1 40 (by decide), fun i => hf.2 7 i (by decide), fun k i q1 _ _ => hf.2 k i (by omega)⟩
    refine ⟨E', r1.same VSame.rfl hms, ⟨?_, ?_, ?_, ?_⟩, mI_at _ _ _, (hf.1 5 (by decide)).trans r3, rfl, rfl, ?_, ?_⟩
    · show LnI _ (lx v1)
      rw [flx]
      exact ⟨hL.1, hL.2.1, hL.2.2⟩
    · show (0 : Int32) = nI (lp v1)
      rw [flp]
      rfl
    · show lp v1 ≤ (lx v1).length
      omega
    · show ld v1 = spF (lx v1) (lp v1)
      rw [fld, flx, flp]
    · intro z1 z2
      obtain ⟨fl, fi, w1, w2, w3, w4, w5⟩ := r2 z1 z2
      exact ⟨fl, fi, w1, w2, (hf.2 23 _ (by decide)).trans w3, (hf.2 24 _ (by decide)).trans w4, w5⟩
    · refine ⟨m1, ⟨r4.ln hf, (hf.1 6 (by decide)).trans r5⟩, ?_⟩
      exact (((FrL.rfl.i (k := 31) (by decide) _).i (k := 34) (by decide) _).i (k := 33) (by decide) _).i (k := 32) (by decide) _
  have hTpm : ∀ m' E', ROu ms c.1 m' μ t o B E' D n → TpI m' ts := fun m' E' hr => hr.2.2.2.1.tp hTp
  -- a model's line: up to the loop of takeLine
  have hstep : ∀ d Φ m' E', ROu ms c.1 m' μ t o B E' D n → (∀ m2, S37 (fun x => FrR ms x ∧ x.1 6 = nI n) (goC (v1, c.2) n).1 μ t o B D m2 → ∀ d', Z37 Y d' (nI n) (nI (μ (vo c.1 (o - 1)))) (vP fun m3 => ∀ m4, m4 = mI m3 6 ((m3.1 6) + 1) → Z114 Y d Φ (nI (min (lnN ts (lnE ts ta)) ts.length)) m4) 1 1 m2) → Z114 Y d Φ (nI (min ta ts.length)) m' := by
    intro d Φ m' E' hr hz
    refine Z114.cl G ?_
    unfold w_Mo_readBlocks_114
    have hT := hTpm m' E' hr
    rw [hT.1, Nat.min_eq_left (by omega), nI_leI (by omega) (by omega)]
    refine ⟨fun z => by omega, fun _ => ⟨fun _ => ?_, fun z => absurd hr.2.2.1 z⟩⟩
    refine d_Mo_lineFrom G hT (by omega) (fun m1 hf hL => ?_)
    have e6 : m1.1 6 = nI n := (hf.1 6 (by decide)).trans hr.2.2.2.2
    rw [e6]
    have h30 : m1.1 30 = nI (o - 1 + 1) := by
      rw [hf.1 30 (by decide), hr.1.ro.2.2.1]
      congr 1
      omega
    refine mE_takeLine (o := o - 1) (bt := μ (vo c.1 (o - 1))) G h30 (by omega) ?_ (fun d' => hz _ (hm0 m' E' m1 hr hf hL) d')
    rw [hf.2 29 _ (by decide)]
    exact hr.1.ro.2.2.2.2.2.1 (o - 1) (by omega)
  -- a witness
  have hσ2 : ∃ m σ, S37 (fun x => FrR ms x ∧ x.1 6 = nI n) (goC (v1, c.2) n).1 μ t o B D m ∧ MV Y m σ := by
    apply Classical.byContradiction
    intro hn
    obtain ⟨m, σ, hS, hV⟩ := hσ
    refine no114 ⟨σ, hV⟩ (fun d Φ => hP d Φ (fun m' E' hr => hstep d Φ m' E' hr (fun m2 h2 d' o5 o6 σ' hV' => absurd ⟨m2, σ', h2, hV'⟩ hn)) m hS)
  have hCG : CGo (lnN ts (lnE ts ta) + 1) (goC (v1, c.2) n).1 t o B 0 n := by
    refine ⟨⟨rfl, Nat.zero_le _, rfl, by omega, k1, ?_, ?_, ?_, ?_⟩, ?_, ⟨?_, ?_⟩, rfl, by omega⟩
    · show kd v1 (vo v1 t) ≤ 3 → _
      rw [hkd, fvo]
      exact k2
    · intro k hk
      show kd v1 (vo v1 k) = 2 → kd v1 (vo v1 (k + 1)) = 3
      rw [hkd, hkd, fvo]
      exact k3 k hk
    · show LnW (lx v1)
      rw [flx]
      exact hW
    · show (tx v1).length + (lx v1).length + 1 ≤ 12010 ∧ nsP (tx v1) (tx v1).length + (lx v1).countP nsB ≤ 3000
      rw [htx, flx]
      omega
    · show B + phi (lx v1) (lp v1) ≤ _ ∧ _
      rw [flx, flp]
      have : phi (lnS ts ta) 0 = wt (lnS ts ta) := by unfold phi; rw [List.drop_zero]
      rw [this]
      omega
    · show kd v1 (vo v1 t) = 7 → vb v1 (vo v1 t) 12 = 0 → vb v1 (vo v1 t) 6 ≠ 0
      rw [hkd, fvo, fvb]
      exact k4
    · show kd v1 (vo v1 0) = 4 → _
      rw [hkd, fvo, hk0]
      intro z
      exact absurd z (by decide)
  have hbt : BT v1 μ o (μ (vo c.1 (o - 1))) := by unfold BT; rw [fvo]
  refine p_line (c := (v1, c.2)) (bt := μ (vo c.1 (o - 1))) F G hBN hTA hσ2 (by show ct v1 ≤ _; rw [fct]; exact hN) hCG hbt (fun c5 μ5 t5 o5 B5 D5 q1 q2 q3 => ?_) (fun c5 q1 q2 => ?_)
  · obtain ⟨⟨x1, x2⟩, x3, y1, y2, y3, y4, y5, y6, y7⟩ := q1
    obtain ⟨z1, z2, z3, z4, z5, os, z6, z7, z8⟩ := q2
    have g1 : vr c5.1 1 = ts := by rw [y1]; show vr v1 1 = ts; rw [fvr 1 (by decide)]; exact hts
    have g51 : vn c5.1 51 = lnN ts (lnE ts ta) := by rw [y3]; exact f51
    have glx : lx c5.1 = lnS ts ta := by rw [y2]; exact flx
    have gtx : tx c5.1 = tx c.1 ++ os := by rw [z6]; show tx v1 ++ os = _; rw [htx]
    rw [glx] at z7 z8
    refine h1 c5 ⟨x1, x2⟩ ⟨g1.trans hts.symm, by rw [y4]; show vi v1 6 = _; rw [f64], by rw [y5]; show vi v1 7 = _; rw [f64], by rw [y7.1]; exact fvy, by rw [y7.2]; show vo v1 0 = _; rw [fvo]⟩ ⟨x3, μ5, t5, o5, B5, D5, ⟨z1, z2, z3, z5, ?_, ?_, ?_, ?_, ?_, ?_⟩, fun d Φ hnext m hS => hP d Φ (fun m' E' hr => hstep d Φ m' E' hr (fun m2 h2 d' => q3 d' _ (fun m5 E5 hRE => ⟨rfl, fun m6 e6 => ?_⟩) m2 h2)) m hS⟩
    · rw [g51]; omega
    · rw [g51, g1]; omega
    · rw [g1]; omega
    · rw [g51]; omega
    · rw [g51, gtx, List.length_append]; omega
    · rw [g51, gtx, nsP_all]; omega
    · rw [g51, g1] at hnext
      refine hnext m6 E5 ?_
      obtain ⟨p1, p2, ⟨x, ⟨p3, p4⟩, p5⟩, p6⟩ := hRE
      have e6' : m5.1 6 = nI n := (p5.1 6 (by omega)).trans p4
      rw [e6', nI_1] at e6
      rw [e6]
      refine ⟨p1.same VSame.rfl ⟨rfl, rfl, rfl, rfl, fun _ => rfl, fun _ _ _ _ _ => rfl⟩, p2, p6, ?_, mI_at _ _ _⟩
      have := p3.l p5
      exact ⟨fun k q => (mI_ne (by omega)).trans (this.1 k q), this.2⟩
  · obtain ⟨⟨x1, x2⟩, x3, y1, y2, y3, y4, y5, y6, y7⟩ := q1
    refine h2 c5 ⟨x1, x2⟩ x3 ⟨by rw [y1]; exact fvr 1 (by decide), by rw [y4]; show vi v1 6 = _; rw [f64], by rw [y5]; show vi v1 7 = _; rw [f64], by rw [y7.1]; exact fvy, by rw [y7.2]; show vo v1 0 = _; rw [fvo]⟩ hlt (fun d Φ hnext m hS => hP d Φ (fun m' E' hr => hstep d Φ m' E' hr (fun m2 h2 d' => q2 d' _ (fun m5 h5 hX => ⟨rfl, fun m6 e6 => ?_⟩) m2 h2)) m hS)
    obtain ⟨x, ⟨p3, p4⟩, p5⟩ := hX
    have e6' : m5.1 6 = nI n := (p5.1 6 (by omega)).trans p4
    rw [e6', nI_1] at e6
    have f5 : m6.1 5 = nI n := by rw [e6]; exact h5
    have hne : ¬ m6.1 5 = -1 := by rw [f5]; exact nI_m1 (by omega)
    have hfin : Φ none m6 := by
      refine hnext m6 f5 ?_ (by rw [e6]; exact mI_at _ _ _)
      have := p3.l p5
      rw [e6]
      exact ⟨fun k q => (mI_ne (by omega)).trans (this.1 k q), this.2⟩
    refine Z114.cl G ?_
    unfold w_Mo_readBlocks_114 w_Mo_readBlocks_157
    exact ⟨fun _ => ⟨fun z => absurd z hne, fun _ => hfin⟩, fun _ => ⟨fun z => absurd z hne, fun _ => ⟨fun z => absurd z hne, fun _ => hfin⟩⟩⟩
end STEP
