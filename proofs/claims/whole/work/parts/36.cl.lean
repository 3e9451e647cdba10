/-! THE CLASS'S STATE: numbers by 10 * kind + field, natural numbers by the same, rows by kind, blocks by their place in the list, the open ones, ready; then where the list's blocks lie, and how many there are -/
abbrev VS : Type := (Nat → Int32) × (Nat → Nat) × (Nat → List Int32) × (Nat → Nat → Int32) × (Nat → Nat) × (Nat → Int32)
abbrev CS : Type := VS × (Nat → Nat) × Nat
abbrev vi (v : VS) : Nat → Int32 := v.1
abbrev vn (v : VS) : Nat → Nat := v.2.1
abbrev vr (v : VS) : Nat → List Int32 := v.2.2.1
abbrev vb (v : VS) : Nat → Nat → Int32 := v.2.2.2.1
abbrev vo (v : VS) : Nat → Nat := v.2.2.2.2.1
abbrev vy (v : VS) : Nat → Int32 := v.2.2.2.2.2
def vI (v : VS) (k : Nat) (x : Int32) : VS := (fun j => if j = k then x else v.1 j, v.2)
def vN (v : VS) (k : Nat) (x : Nat) : VS := (v.1, fun j => if j = k then x else v.2.1 j, v.2.2)
def vR (v : VS) (k : Nat) (x : List Int32) : VS := (v.1, v.2.1, fun j => if j = k then x else v.2.2.1 j, v.2.2.2)
def vB (v : VS) (i k : Nat) (x : Int32) : VS := (v.1, v.2.1, v.2.2.1, upd2 v.2.2.2.1 i k x, v.2.2.2.2)
def vBs (v : VS) (f : Nat → Nat → Int32) : VS := (v.1, v.2.1, v.2.2.1, f, v.2.2.2.2)
def vO (v : VS) (k i : Nat) : VS := (v.1, v.2.1, v.2.2.1, v.2.2.2.1, fun j => if j = k then i else v.2.2.2.2.1 j, v.2.2.2.2.2)
def vY (v : VS) (f : Nat → Int32) : VS := (v.1, v.2.1, v.2.2.1, v.2.2.2.1, v.2.2.2.2.1, f)
def cI (c : CS) (k : Nat) (x : Int32) : CS := (vI c.1 k x, c.2)
def cB (c : CS) (i k : Nat) (x : Int32) : CS := (vB c.1 i k x, c.2)
def cO (c : CS) (k i : Nat) : CS := (vO c.1 k i, c.2)
/-- launch, start, classes, array classes; addresses by kind; the cells at the start; what cells and slots are counted from -/
abbrev CX : Type := Launch × State × va_G × (Nat → ClassId) × (Nat → Nat) × jS × Nat × Nat
abbrev adr (X : CX) : Nat → Nat := X.2.2.2.2.1
abbrev cF (X : CX) (a0 : Array Value) : Prop := jOK X.2.1 jcl X.2.2.1 X.2.2.2.1 lw_tbl a0 jty
def cKs : List Nat := [0, 1, 2, 3, 4, 5, 6, 7, 10, 11, 12, 13, 1004, 1005, 1010, 1011, 1012, 1013, 1014, 1015]
/-- (0, t): the address of t; (1, 0): a natural number; (2, 0): a number -/
def cTab : Nat → Nat → Nat × Nat
  | 0, 0 => (0, 1)
  | 0, 1 => (0, 1015)
  | 0, 2 => (0, 2)
  | 0, 3 => (0, 4)
  | 0, 4 => (0, 5)
  | 0, 5 => (0, 6)
  | 2, 0 => (0, 7)
  | 2, 1 => (0, 3)
  | 2, 2 => (0, 10)
  | 2, 3 => (1, 0)
  | 4, 0 => (0, 10)
  | 4, 1 => (0, 12)
  | 4, 2 => (0, 13)
  | 5, 0 => (0, 11)
  | 5, 1 => (1, 0)
  | 5, 2 => (1, 0)
  | 5, 3 => (1, 0)
  | 5, 5 => (1, 0)
  | 6, 0 => (0, 2)
  | 6, 1 => (0, 4)
  | 6, 2 => (0, 5)
  | 6, 3 => (0, 1005)
  | _, _ => (2, 0)
def cVal (X : CX) (v : VS) (κ j : Nat) : Value := match cTab κ j with
  | (0, t) => .ref (adr X t)
  | (1, _) => .int (nI (vn v (10 * κ + j)))
  | _ => .int (vi v (10 * κ + j))
def cNf : Nat → Nat
  | 0 => 8
  | 2 => 4
  | 4 => 10
  | 5 => 7
  | 6 => 10
  | _ => 0
def SG (X : CX) (v : VS) (κ : Nat) (σ : jS) : Prop := ∃ w : Nat → Value, σ.1 (adr X κ) = some (κ, cNf κ, w) ∧ (∀ j, j < cNf κ → w j = cVal X v κ j) ∧ X.2.1.heap.size ≤ adr X κ
def OP (X : CX) (c : CS) (σ : jS) : Prop := ∃ w : Nat → Value, σ.1 (adr X 1005) = some (1005, 14, w) ∧ (∀ j, j < 14 → w j = .ref (c.2.1 (vo c.1 j)) ∧ vo c.1 j < c.2.2) ∧ X.2.1.heap.size ≤ adr X 1005
abbrev RW (X : CX) (v : VS) (κ α n : Nat) (σ : jS) : Prop := RowAt X.2.1.heap.size κ α σ (adr X κ) n (vr v κ)
/-- what is told of the counts: rows at most this long, the first block's place -/
def BN (X : CX) (c : CS) : Prop := (vn c.1 23 ≤ c.2.2 ∧ 1 ≤ c.2.2 ∧ c.2.1 0 = adr X 3) ∧ (vr c.1 11).length ≤ 16000 ∧ vn c.1 51 ≤ 16000 ∧ vn c.1 52 ≤ 16000 ∧ vn c.1 53 ≤ 16000 ∧ vn c.1 55 ≤ 16000
def RM (X : CX) (c : CS) (nr : Nat → Nat) (cp : Nat) (σ : jS) : Prop := σ.2.1 ≤ X.2.2.2.2.2.2.1 + (nr 1 + nr 10 + nr 11 + nr 12 + nr 13) + c.2.2 + cp ∧ σ.2.2 ≤ X.2.2.2.2.2.2.2 + 2 * (nr 1 + nr 10 + nr 11 + nr 12 + nr 13) + 14 * c.2.2 + 4 * cp
def CVx (X : CX) (c : CS) (nr : Nat → Nat) (ed cp : Nat) (σ : jS) : Prop :=
  jI X.2.1.heap.size σ ∧ jK cKs X.2.2.2.2.2.1 σ ∧ (SG X c.1 0 σ ∧ SG X c.1 2 σ ∧ SG X c.1 4 σ ∧ SG X c.1 5 σ ∧ SG X c.1 6 σ) ∧ (RW X c.1 1 1010 (nr 1) σ ∧ RW X c.1 10 1011 (nr 10) σ ∧ RW X c.1 11 1012 (nr 11) σ ∧ RW X c.1 12 1013 (nr 12) σ ∧ RW X c.1 13 1014 (nr 13) σ) ∧ ListAt X.2.1.heap.size σ (adr X 7) ed cp c.2.2 c.2.1 (vb c.1) ∧ OP X c σ ∧ ArrI X.2.1.heap.size 1015 σ (adr X 1015) 20 (vy c.1) ∧ BN X c ∧ RM X c nr cp σ
def CV (X : CX) (c : CS) (σ : jS) : Prop := ∃ (nr : Nat → Nat) (ed cp : Nat), CVx X c nr ed cp σ
def cP (X : CX) (Φ : Option Value → CS → Prop) : Option Value → jS → Prop := fun r σ => ∃ c, CV X c σ ∧ Φ r c
/-- THE CONTRACT over the class's state -/
def cE (X : CX) (k : Nat) (z : jM) (av : List Value) (c : CS) (Φ : Option Value → CS → Prop) : Prop := ∀ (d : Nat) (σ : jS), CV X c σ → jE X.1 X.2.1 jcl X.2.2.1 X.2.2.2.1 (d + k) z av σ (cP X Φ)
def ciP (N : Int32 → CS → Prop) : Option Value → CS → Prop := fun r c => ∃ x, r = some (.int x) ∧ N x c
def cvP (N : CS → Prop) : Option Value → CS → Prop := fun r c => r = none ∧ N c
def cbP (N : Nat → CS → Prop) : Option Value → CS → Prop := fun r c => ∃ b, r = some (.ref b) ∧ N b c
def cnP (N0 : CS → Prop) (N : Nat → CS → Prop) : Option Value → CS → Prop := fun r c => (r = some .null ∧ N0 c) ∨ ∃ b, r = some (.ref b) ∧ N b c
def isB (c : CS) (b i : Nat) : Prop := i < c.2.2 ∧ c.2.1 i = b
def isR (κ : Nat) : Prop := κ = 1 ∨ κ = 10 ∨ κ = 11 ∨ κ = 12 ∨ κ = 13
theorem cE.mono {X : CX} {k : Nat} {z : jM} {av : List Value} {c : CS} {Φ Ψ : Option Value → CS → Prop} (h : cE X k z av c Φ) (hq : ∀ r c, Φ r c → Ψ r c) : cE X k z av c Ψ := fun d σ hV => (h d σ hV).mono (fun r σ' ⟨m', q1, q2⟩ => ⟨m', q1, hq r m' q2⟩)
theorem cE.i {X : CX} {k : Nat} {z : jM} {av : List Value} {c c1 : CS} {x : Int32} {N : Int32 → CS → Prop} (h : cE X k z av c (fun r m' => r = some (.int x) ∧ m' = c1)) (hN : N x c1) : cE X k z av c (ciP N) := h.mono (fun r m' q => ⟨x, q.1, q.2 ▸ hN⟩)
theorem cE.v {X : CX} {k : Nat} {z : jM} {av : List Value} {c c1 : CS} {N : CS → Prop} (h : cE X k z av c (fun r m' => r = none ∧ m' = c1)) (hN : N c1) : cE X k z av c (cvP N) := h.mono (fun r m' q => ⟨q.1, q.2 ▸ hN⟩)
/-- a method that only reads -/
theorem cE.get {X : CX} {k : Nat} {z : jM} {av : List Value} {c : CS} {x : Int32} {N : Int32 → CS → Prop} (h : ∀ (d : Nat) (σ : jS), CV X c σ → jE X.1 X.2.1 jcl X.2.2.1 X.2.2.2.1 (d + k) z av σ (fun r σ' => r = some (.int x) ∧ σ' = σ)) (hN : N x c) : cE X k z av c (ciP N) := fun d σ hV => (h d σ hV).mono (fun r σ' ⟨q1, q2⟩ => ⟨c, q2 ▸ hV, x, q1, hN⟩)
theorem SG.keep {X : CX} {v v' : VS} {κ : Nat} {σ σ' : jS} {ks : List Nat} (h : SG X v κ σ) (hk : jK ks σ σ') (h1 : κ ∉ ks) (he : ∀ j, j < cNf κ → cVal X v' κ j = cVal X v κ j) : SG X v' κ σ' := by
  obtain ⟨w, q1, q2, q3⟩ := h
  exact ⟨w, hk _ _ _ _ q1 h1, fun j hj => (q2 j hj).trans (he j hj).symm, q3⟩
theorem SG.put {X : CX} {v v' : VS} {κ a t n : Nat} {u u' : Nat → Value} {σ : jS} (h : SG X v κ σ) (ha : σ.1 a = some (t, n, u)) (ht : κ ≠ t) (he : ∀ j, j < cNf κ → cVal X v' κ j = cVal X v κ j) : SG X v' κ (jput σ a (t, n, u')) := by
  obtain ⟨w, q1, q2, q3⟩ := h
  exact ⟨w, (jput_ne (jne q1 ha ht)).trans q1, fun j hj => (q2 j hj).trans (he j hj).symm, q3⟩
theorem OP.keep {X : CX} {c c' : CS} {σ σ' : jS} {ks : List Nat} (h : OP X c σ) (hk : jK ks σ σ') (h1 : 1005 ∉ ks) (ho : vo c'.1 = vo c.1) (hb : ∀ i, i < c.2.2 → c'.2.1 i = c.2.1 i) (hN : c.2.2 ≤ c'.2.2) : OP X c' σ' := by
  obtain ⟨w, q1, q2, q3⟩ := h
  refine ⟨w, hk _ _ _ _ q1 h1, fun j hj => ?_, q3⟩
  obtain ⟨p1, p2⟩ := q2 j hj
  rw [ho]
  exact ⟨p1.trans (by rw [hb _ p2]), Nat.lt_of_lt_of_le p2 hN⟩
theorem jKput {σ : jS} {a t n : Nat} {u u' : Nat → Value} (ha : σ.1 a = some (t, n, u)) : jK [t] σ (jput σ a (t, n, u')) := jK.put ha List.mem_cons_self

theorem CV.cl0 {X : CX} {c : CS} {σ : jS} (h : CV X c σ) : ∃ v : Nat → Value, σ.1 (adr X 0) = some (0, 8, v) := by
  obtain ⟨nr, ed, cp, h⟩ := h
  obtain ⟨w, q1, _⟩ := h.2.2.1.1
  exact ⟨w, q1⟩
theorem CV.cl2 {X : CX} {c : CS} {σ : jS} (h : CV X c σ) : ∃ v : Nat → Value, σ.1 (adr X 2) = some (2, 4, v) := by
  obtain ⟨nr, ed, cp, h⟩ := h
  obtain ⟨w, q1, _⟩ := h.2.2.1.2.1
  exact ⟨w, q1⟩
theorem CV.cl4 {X : CX} {c : CS} {σ : jS} (h : CV X c σ) : ∃ v : Nat → Value, σ.1 (adr X 4) = some (4, 10, v) := by
  obtain ⟨nr, ed, cp, h⟩ := h
  obtain ⟨w, q1, _⟩ := h.2.2.1.2.2.1
  exact ⟨w, q1⟩
theorem CV.cl5 {X : CX} {c : CS} {σ : jS} (h : CV X c σ) : ∃ v : Nat → Value, σ.1 (adr X 5) = some (5, 7, v) := by
  obtain ⟨nr, ed, cp, h⟩ := h
  obtain ⟨w, q1, _⟩ := h.2.2.1.2.2.2.1
  exact ⟨w, q1⟩
theorem CV.cl6 {X : CX} {c : CS} {σ : jS} (h : CV X c σ) : ∃ v : Nat → Value, σ.1 (adr X 6) = some (6, 10, v) := by
  obtain ⟨nr, ed, cp, h⟩ := h
  obtain ⟨w, q1, _⟩ := h.2.2.1.2.2.2.2
  exact ⟨w, q1⟩
theorem CV.row {X : CX} {c : CS} {σ : jS} (h : CV X c σ) {κ : Nat} (hκ : isR κ) : ∃ α n : Nat, 1000 ≤ α ∧ jty α = .int ∧ RowAt X.2.1.heap.size κ α σ (adr X κ) n (vr c.1 κ) := by
  obtain ⟨nr, ed, cp, h⟩ := h
  obtain ⟨r1, r10, r11, r12, r13⟩ := h.2.2.2.1
  rcases hκ with h | h | h | h | h
  · subst h; exact ⟨1010, _, by decide, rfl, r1⟩
  · subst h; exact ⟨1011, _, by decide, rfl, r10⟩
  · subst h; exact ⟨1012, _, by decide, rfl, r11⟩
  · subst h; exact ⟨1013, _, by decide, rfl, r12⟩
  · subst h; exact ⟨1014, _, by decide, rfl, r13⟩
theorem isR.jcl {κ : Nat} (h : isR κ) : jcl[κ]? = some jQ_Row := by
  rcases h with h | h | h | h | h
  · subst h; rfl
  · subst h; rfl
  · subst h; rfl
  · subst h; rfl
  · subst h; rfl
theorem CV.clr {X : CX} {c : CS} {σ : jS} (h : CV X c σ) {κ : Nat} (hκ : isR κ) : ∃ v : Nat → Value, σ.1 (adr X κ) = some (κ, 2, v) := by
  obtain ⟨α, n, _, _, hr⟩ := h.row hκ
  exact hr.cell
theorem CV.clb {X : CX} {c : CS} {σ : jS} (h : CV X c σ) {b i : Nat} (hi : isB c b i) : ∃ v : Nat → Value, σ.1 b = some (3, 14, v) := by
  obtain ⟨nr, ed, cp, h⟩ := h
  obtain ⟨_, _, _, _, ⟨_, _, q, _⟩, _⟩ := h
  obtain ⟨v, q1, _⟩ := q i hi.1
  exact ⟨v, hi.2 ▸ q1⟩
section CLROW
variable {X : CX} {a0 : Array Value} {d : Nat} {y : jM} {pc : Nat} {L : jL} {st : List Value} {σ : jS} {Φ : Option Value → jS → Prop} {c : CS}
/-- a field of one of the five single objects -/
theorem jW.cg (F : cF X a0) {κ k : Nat} (hS : SG X c.1 κ σ) (h : jFld jcl lw_tbl y pc κ k .getfield) (hk : k < cNf κ) {w : Value} (hw : cVal X c.1 κ k = w) {pc' : Nat} (hp : pc + 3 = pc') (kk : jW X.1 X.2.1 jcl X.2.2.1 X.2.2.2.1 d y pc' L (w :: st) σ Φ) : jW X.1 X.2.1 jcl X.2.2.1 X.2.2.2.1 d y pc L (.ref (adr X κ) :: st) σ Φ := by
  obtain ⟨v, h1, h2, _⟩ := hS
  exact jW.getf F h h1 ((h2 k hk).trans hw) hp kk
theorem CV.s0 (h : CV X c σ) : SG X c.1 0 σ := by obtain ⟨nr, ed, cp, h⟩ := h; exact h.2.2.1.1
theorem CV.s2 (h : CV X c σ) : SG X c.1 2 σ := by obtain ⟨nr, ed, cp, h⟩ := h; exact h.2.2.1.2.1
theorem CV.s4 (h : CV X c σ) : SG X c.1 4 σ := by obtain ⟨nr, ed, cp, h⟩ := h; exact h.2.2.1.2.2.1
theorem CV.s5 (h : CV X c σ) : SG X c.1 5 σ := by obtain ⟨nr, ed, cp, h⟩ := h; exact h.2.2.1.2.2.2.1
theorem CV.s6 (h : CV X c σ) : SG X c.1 6 σ := by obtain ⟨nr, ed, cp, h⟩ := h; exact h.2.2.1.2.2.2.2
/-- a number of another object stays -/
theorem cVal_ne {X : CX} {v : VS} {κ κ' j j' : Nat} {x : Int32} (h : κ ≠ κ') (hj : j < 10) (hj' : j' < 10) : cVal X (vI v (10 * κ' + j') x) κ j = cVal X v κ j := by
  unfold cVal
  split
  · rfl
  · rfl
  · simp only [vi, vI]
    rw [if_neg (by omega)]
theorem cVal_ni {X : CX} {v : VS} {κ j j' : Nat} {x : Int32} (h : j ≠ j') : cVal X (vI v (10 * κ + j') x) κ j = cVal X v κ j := by
  unfold cVal
  split
  · rfl
  · rfl
  · simp only [vi, vI]
    rw [if_neg (by omega)]
theorem cNf_le (κ : Nat) : cNf κ ≤ 10 := by
  unfold cNf
  split <;> omega
theorem CV.putI (hV : CV X c σ) {κ k : Nat} {x : Int32} (hκ : κ = 0 ∨ κ = 4 ∨ κ = 6) (hk : k < cNf κ) (ht : cTab κ k = (2, 0)) {w : Nat → Value} (hw : σ.1 (adr X κ) = some (κ, cNf κ, w)) : CV X (cI c (10 * κ + k) x) (jput σ (adr X κ) (κ, cNf κ, updV w k (.int x))) := by
  obtain ⟨nr, ed, cp, h0, h1, ⟨s0, s2, s4, s5, s6⟩, ⟨r1, r10, r11, r12, r13⟩, hl, ho, hy, hb, hr⟩ := hV
  have hK : jK [κ] σ (jput σ (adr X κ) (κ, cNf κ, updV w k (.int x))) := jKput hw
  have hme : ∀ (hS : SG X c.1 κ σ), SG X (cI c (10 * κ + k) x).1 κ (jput σ (adr X κ) (κ, cNf κ, updV w k (.int x))) := by
    intro hS
    obtain ⟨w', q1, q2, q3⟩ := hS
    rw [hw] at q1
    cases q1
    refine ⟨_, jput_at _ _ _, fun j hj => ?_, q3⟩
    by_cases e : j = k
    · subst e
      rw [updV_at]
      unfold cVal
      rw [ht]
      simp [cI, vI, vi]
    · rw [updV_ne e, q2 j hj]
      exact (cVal_ni e).symm
  have hot : ∀ κ', κ' ≠ κ → SG X c.1 κ' σ → SG X (cI c (10 * κ + k) x).1 κ' (jput σ (adr X κ) (κ, cNf κ, updV w k (.int x))) := fun κ' e hS => hS.keep hK (by simp [e]) (fun j hj => cVal_ne e (Nat.lt_of_lt_of_le hj (cNf_le _)) (Nat.lt_of_lt_of_le hk (cNf_le _)))
  have hall : ∀ κ', SG X c.1 κ' σ → SG X (cI c (10 * κ + k) x).1 κ' (jput σ (adr X κ) (κ, cNf κ, updV w k (.int x))) := by
    intro κ' hS
    by_cases e : κ' = κ
    · subst e; exact hme hS
    · exact hot κ' e hS
  have hne : ∀ t, t ∈ [1, 2, 3, 5, 7, 10, 11, 12, 13, 1004, 1005, 1010, 1011, 1012, 1013, 1014, 1015] → t ∉ [κ] := by
    intro t ht' hm
    rw [List.mem_singleton] at hm
    subst hm
    rcases hκ with h | h | h <;> (subst h; revert ht'; decide)
  have hin : κ ∈ cKs := by rcases hκ with h | h | h <;> (subst h; decide)
  refine ⟨nr, ed, cp, h0.put hw, h1.trans (hK.mono (fun t ht' => by rw [List.mem_singleton.mp ht']; exact hin)), ⟨hall 0 s0, hall 2 s2, hall 4 s4, hall 5 s5, hall 6 s6⟩, ⟨r1.keep hK (hne _ (by decide)) (hne _ (by decide)), r10.keep hK (hne _ (by decide)) (hne _ (by decide)), r11.keep hK (hne _ (by decide)) (hne _ (by decide)), r12.keep hK (hne _ (by decide)) (hne _ (by decide)), r13.keep hK (hne _ (by decide)) (hne _ (by decide))⟩, hl.keep hK (hne _ (by decide)) (hne _ (by decide)) (hne _ (by decide)), ho.keep hK (hne _ (by decide)) rfl (fun _ _ => rfl) (Nat.le_refl _), hy.keep hK (hne _ (by decide)), hb, hr⟩
theorem jW.cp0 (F : cF X a0) (hV : CV X c σ) {k : Nat} {x : Int32} (h : jFld jcl lw_tbl y pc 0 k .putfield) (hk : k < 8 ∧ cTab 0 k = (2, 0)) (hfin : (jQ_MB.2.1 k).2.2.2 = false) (hn : narrow (jF_MB k) (.int x) = .int x) (hf : fits (jF_MB k) (.int x) = true) {pc' : Nat} (hp : pc + 3 = pc') (kk : ∀ σ1, CV X (cI c (10 * 0 + k) x) σ1 → jW X.1 X.2.1 jcl X.2.2.1 X.2.2.2.1 d y pc' L st σ1 Φ) : jW X.1 X.2.1 jcl X.2.2.1 X.2.2.2.1 d y pc L (.int x :: .ref (adr X 0) :: st) σ Φ := by
  obtain ⟨w, h1, _, h3⟩ := hV.s0
  exact jW.putf F h rfl jF_MB jTab_MB hfin h1 h3 hn hf rfl hp (kk _ (hV.putI (Or.inl rfl) hk.1 hk.2 h1))
theorem jW.cp4 (F : cF X a0) (hV : CV X c σ) {k : Nat} {x : Int32} (h : jFld jcl lw_tbl y pc 4 k .putfield) (hk : k < 10 ∧ cTab 4 k = (2, 0)) (hfin : (jQ_Lab.2.1 k).2.2.2 = false) (hn : narrow (jF_Lab k) (.int x) = .int x) (hf : fits (jF_Lab k) (.int x) = true) {pc' : Nat} (hp : pc + 3 = pc') (kk : ∀ σ1, CV X (cI c (10 * 4 + k) x) σ1 → jW X.1 X.2.1 jcl X.2.2.1 X.2.2.2.1 d y pc' L st σ1 Φ) : jW X.1 X.2.1 jcl X.2.2.1 X.2.2.2.1 d y pc L (.int x :: .ref (adr X 4) :: st) σ Φ := by
  obtain ⟨w, h1, _, h3⟩ := hV.s4
  exact jW.putf F h rfl jF_Lab jTab_Lab hfin h1 h3 hn hf rfl hp (kk _ (hV.putI (Or.inr (Or.inl rfl)) hk.1 hk.2 h1))
theorem jW.cp6 (F : cF X a0) (hV : CV X c σ) {k : Nat} {x : Int32} (h : jFld jcl lw_tbl y pc 6 k .putfield) (hk : k < 10 ∧ cTab 6 k = (2, 0)) (hfin : (jQ_Rd.2.1 k).2.2.2 = false) (hn : narrow (jF_Rd k) (.int x) = .int x) (hf : fits (jF_Rd k) (.int x) = true) {pc' : Nat} (hp : pc + 3 = pc') (kk : ∀ σ1, CV X (cI c (10 * 6 + k) x) σ1 → jW X.1 X.2.1 jcl X.2.2.1 X.2.2.2.1 d y pc' L st σ1 Φ) : jW X.1 X.2.1 jcl X.2.2.1 X.2.2.2.1 d y pc L (.int x :: .ref (adr X 6) :: st) σ Φ := by
  obtain ⟨w, h1, _, h3⟩ := hV.s6
  exact jW.putf F h rfl jF_Rd jTab_Rd hfin h1 h3 hn hf rfl hp (kk _ (hV.putI (Or.inr (Or.inr rfl)) hk.1 hk.2 h1))
/-- a block's number -/
theorem jW.cgb (F : cF X a0) (hV : CV X c σ) {b i k : Nat} (hi : isB c b i) (h : jFld jcl lw_tbl y pc 3 k .getfield) (hk : k < 14) {pc' : Nat} (hp : pc + 3 = pc') (kk : jW X.1 X.2.1 jcl X.2.2.1 X.2.2.2.1 d y pc' L (.int (vb c.1 i k) :: st) σ Φ) : jW X.1 X.2.1 jcl X.2.2.1 X.2.2.2.1 d y pc L (.ref b :: st) σ Φ := by
  obtain ⟨nr, ed, cp, _, _, _, _, ⟨_, _, q, _⟩, _⟩ := hV
  obtain ⟨v, h1, h2, _⟩ := q i hi.1
  rw [hi.2] at h1
  exact jW.getf F h h1 (h2 k hk) hp kk
theorem CV.putB (hV : CV X c σ) {b i k : Nat} {x : Int32} (hi : isB c b i) (hk : k < 14) {w : Nat → Value} (hw : σ.1 b = some (3, 14, w)) : CV X (cB c i k x) (jput σ b (3, 14, updV w k (.int x))) := by
  obtain ⟨nr, ed, cp, h0, h1, ⟨s0, s2, s4, s5, s6⟩, ⟨r1, r10, r11, r12, r13⟩, hl, ho, hy, hb, hr⟩ := hV
  have hK : jK [3] σ (jput σ b (3, 14, updV w k (.int x))) := jKput hw
  refine ⟨nr, ed, cp, h0.put hw, h1.trans (hK.mono (by decide)), ⟨s0.keep hK (by decide) (fun _ _ => rfl), s2.keep hK (by decide) (fun _ _ => rfl), s4.keep hK (by decide) (fun _ _ => rfl), s5.keep hK (by decide) (fun _ _ => rfl), s6.keep hK (by decide) (fun _ _ => rfl)⟩, ⟨r1.keep hK (by decide) (by decide), r10.keep hK (by decide) (by decide), r11.keep hK (by decide) (by decide), r12.keep hK (by decide) (by decide), r13.keep hK (by decide) (by decide)⟩, ?_, ho.keep hK (by decide) rfl (fun _ _ => rfl) (Nat.le_refl _), hy.keep hK (by decide), hb, hr⟩
  obtain ⟨⟨v, mc, l1, l2⟩, ⟨u, l3, l4⟩, l5, l6, l7⟩ := hl
  refine ⟨⟨v, mc, hK _ _ _ _ l1 (by decide), l2⟩, ⟨u, hK _ _ _ _ l3 (by decide), l4⟩, fun j hj => ?_, l6, l7⟩
  obtain ⟨v1, p1, p2, p3⟩ := l5 j hj
  by_cases e : j = i
  · subst e
    rw [hi.2, hw] at p1
    cases p1
    refine ⟨_, by rw [show (cB c j k x).2.1 j = b from hi.2]; exact jput_at _ _ _, fun q hq => ?_, p3⟩
    by_cases e : q = k
    · subst e
      rw [updV_at]
      simp [cB, vB, vb, upd2]
    · rw [updV_ne e, p2 q hq]
      simp [cB, vB, vb, upd2, e]
  · have hne : c.2.1 j ≠ b := fun q => e (l6 j i hj hi.1 (q.trans hi.2.symm))
    refine ⟨v1, (jput_ne hne).trans p1, fun q hq => ?_, p3⟩
    rw [p2 q hq]
    simp [cB, vB, vb, upd2, e]
theorem jW.cpb (F : cF X a0) (hV : CV X c σ) {b i k : Nat} {x : Int32} (hi : isB c b i) (h : jFld jcl lw_tbl y pc 3 k .putfield) (hk : k < 14) (hfin : (jQ_Block.2.1 k).2.2.2 = false) (hn : narrow (jF_Block k) (.int x) = .int x) (hf : fits (jF_Block k) (.int x) = true) {pc' : Nat} (hp : pc + 3 = pc') (kk : ∀ σ1, CV X (cB c i k x) σ1 → jW X.1 X.2.1 jcl X.2.2.1 X.2.2.2.1 d y pc' L st σ1 Φ) : jW X.1 X.2.1 jcl X.2.2.1 X.2.2.2.1 d y pc L (.int x :: .ref b :: st) σ Φ := by
  have hV0 := hV
  obtain ⟨nr, ed, cp, _, _, _, _, ⟨_, _, q, _⟩, _⟩ := hV
  obtain ⟨v, h1, h2, h3⟩ := q i hi.1
  rw [hi.2] at h1 h3
  exact jW.putf F h rfl jF_Block jTab_Block hfin h1 h3 hn hf rfl hp (kk _ (hV0.putB hi hk h1))
/-- the open blocks' array -/
theorem jW.col (F : cF X a0) (hV : CV X c σ) (hd : decode y.2.1 pc = .ok (.arraylength, 1)) {pc' : Nat} (hp : pc + 1 = pc') (kk : jW X.1 X.2.1 jcl X.2.2.1 X.2.2.2.1 d y pc' L (.int 14 :: st) σ Φ) : jW X.1 X.2.1 jcl X.2.2.1 X.2.2.2.1 d y pc L (.ref (adr X 1005) :: st) σ Φ := by
  obtain ⟨nr, ed, cp, _, _, _, _, _, ⟨w, q1, q2, q3⟩, _⟩ := hV
  exact jW.alen F hd (by decide) q1 (by decide) hp kk
theorem jW.cog (F : cF X a0) (hV : CV X c σ) {i : Int32} (hd : decode y.2.1 pc = .ok (.aaload, 1)) (hi : vp_in i 14) {pc' : Nat} (hp : pc + 1 = pc') (kk : jW X.1 X.2.1 jcl X.2.2.1 X.2.2.2.1 d y pc' L (.ref (c.2.1 (vo c.1 i.toNatClampNeg)) :: st) σ Φ) : jW X.1 X.2.1 jcl X.2.2.1 X.2.2.2.1 d y pc L (.int i :: .ref (adr X 1005) :: st) σ Φ := by
  obtain ⟨nr, ed, cp, _, _, _, _, _, ⟨w, q1, q2, q3⟩, _⟩ := hV
  exact jW.aald F hd (by decide) rfl q1 hi (q2 _ (vp_in_lt hi)).1 hp kk
theorem CV.putO (hV : CV X c σ) {b i k : Nat} (hi : isB c b i) (hk : k < 14) {w : Nat → Value} (hw : σ.1 (adr X 1005) = some (1005, 14, w)) : CV X (cO c k i) (jput σ (adr X 1005) (1005, 14, updV w k (.ref b))) := by
  obtain ⟨nr, ed, cp, h0, h1, ⟨s0, s2, s4, s5, s6⟩, ⟨r1, r10, r11, r12, r13⟩, hl, ho, hy, hb, hr⟩ := hV
  have hK : jK [1005] σ (jput σ (adr X 1005) (1005, 14, updV w k (.ref b))) := jKput hw
  refine ⟨nr, ed, cp, h0.put hw, h1.trans (hK.mono (by decide)), ⟨s0.keep hK (by decide) (fun _ _ => rfl), s2.keep hK (by decide) (fun _ _ => rfl), s4.keep hK (by decide) (fun _ _ => rfl), s5.keep hK (by decide) (fun _ _ => rfl), s6.keep hK (by decide) (fun _ _ => rfl)⟩, ⟨r1.keep hK (by decide) (by decide), r10.keep hK (by decide) (by decide), r11.keep hK (by decide) (by decide), r12.keep hK (by decide) (by decide), r13.keep hK (by decide) (by decide)⟩, hl.keep hK (by decide) (by decide) (by decide), ?_, hy.keep hK (by decide), hb, hr⟩
  obtain ⟨w', q1, q2, q3⟩ := ho
  rw [hw] at q1
  cases q1
  refine ⟨_, jput_at _ _ _, fun j hj => ?_, q3⟩
  by_cases e : j = k
  · subst e
    rw [updV_at]
    simp only [cO, vO, vo, if_true]
    exact ⟨by rw [hi.2], hi.1⟩
  · rw [updV_ne e]
    simp only [cO, vO, vo, if_neg e]
    exact q2 j hj
theorem jW.cos (F : cF X a0) (hV : CV X c σ) {b j : Nat} {i : Int32} (hb : isB c b j) (hd : decode y.2.1 pc = .ok (.aastore, 1)) (hi : vp_in i 14) {pc' : Nat} (hp : pc + 1 = pc') (kk : ∀ σ1, CV X (cO c i.toNatClampNeg j) σ1 → jW X.1 X.2.1 jcl X.2.2.1 X.2.2.2.1 d y pc' L st σ1 Φ) : jW X.1 X.2.1 jcl X.2.2.1 X.2.2.2.1 d y pc L (.ref b :: .int i :: .ref (adr X 1005) :: st) σ Φ := by
  obtain ⟨u, hu⟩ := hV.clb hb
  have hV0 := hV
  obtain ⟨nr, ed, cp, _, _, _, _, _, ⟨w, q1, q2, q3⟩, _⟩ := hV
  exact jW.aast F hd (by decide) (C := "MarkBlocks$Block") rfl q1 q3 hu (q := jQ_Block) rfl (Or.inl rfl) hi rfl hp (kk _ (hV0.putO hb (vp_in_lt hi) q1))
end CLROW
