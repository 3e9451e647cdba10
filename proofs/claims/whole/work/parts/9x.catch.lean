/-! A METHOD THAT THROWS, AND ONE THAT CATCHES -/
theorem jArgs_ls {av : List Value} {n : Nat} (hc : ∀ w ∈ av, w.category = 1) (hn : av.length ≤ n) : ∃ ls, jLs (jArgs av n) n ls ∧ ∀ m, entryFrame m av.toArray n = F0 m 0 ls [] := by
  have hl := lv_entry av (n := n) (by rw [lg_sl_1 av hc]; exact hn)
  refine ⟨_, ⟨hl.1, hl.2.1, fun i v hi => ?_⟩, fun m => lg_entry_eq m av n⟩
  have hav : av[i]? = some v := by
    unfold jArgs at hi
    by_cases h : i < av.length
    · rw [List.getElem?_append_left (by simpa using h), List.getElem?_map] at hi
      cases ha : av[i]? with
      | none => rw [ha] at hi; simp at hi
      | some w => rw [ha] at hi; simp at hi; rw [hi]
    · rw [List.getElem?_append_right (by simpa using h)] at hi
      have := List.mem_of_getElem? hi
      simp at this
  refine ⟨hc v (List.mem_of_getElem? hav), ?_⟩
  have := jArgs_in av 0 i v hc hav
  rw [Nat.zero_add] at this
  exact hl.2.2 (i, v) this
section JT
variable (l : Launch) (s0 : State) (cl : List vw_C) (D : va_G) (cA : Nat → ClassId)
def jCT (d : Nat) (y : jM) (av : List Value) (σ σ' : jS) : Prop :=
  (σ.2.1 ≤ σ'.2.1 ∧ σ.2.2 ≤ σ'.2.2) ∧ MetFree l y.1 (headSpec [.code y.1 y.2.1 y.2.2.1 y.2.2.2] (jRm d (σ'.2.1 + 1 - σ.2.1) (σ'.2.2 + 6 - σ.2.2))) (jPc s0 cl D cA av σ) (fun _ _ _ _ _ => True) (fun _ st o t => ∃ x, o = .threw x ∧ jQt s0 cl D cA σ' x t ∧ ∃ L, Free.FrameEndT st o t L (σ'.2.1 + 1 - σ.2.1) (σ'.2.2 + 6 - σ.2.2) ∧ ∀ q ∈ L, s0.heap.size ≤ q.base)
/-- a call of y throws; Φ holds of the cells, but for the exception's -/
def jT (d : Nat) (y : jM) (av : List Value) (σ : jS) (Φ : Option Value → jS → Prop) : Prop := ∃ σ' : jS, jCT l s0 cl D cA d y av σ σ' ∧ Φ none σ'
def jCw (d : Nat) (y : jM) (hh : List (Nat × Nat × Nat × Nat)) (av : List Value) (σ : jS) (r : Option Value) (σ' : jS) : Prop :=
  (σ.2.1 ≤ σ'.2.1 ∧ σ.2.2 ≤ σ'.2.2) ∧ Met l y.1 [.codeWith y.1 y.2.1 y.2.2.1 y.2.2.2 hh] (jRm d (σ'.2.1 - σ.2.1) (σ'.2.2 - σ.2.2)) (jPc s0 cl D cA av σ) (jQc s0 cl D cA r σ') (σ'.2.1 - σ.2.1) (σ'.2.2 - σ.2.2) (fun q => s0.heap.size ≤ q)
def jEw (d : Nat) (y : jM) (hh : List (Nat × Nat × Nat × Nat)) (av : List Value) (σ : jS) (Φ : Option Value → jS → Prop) : Prop := ∃ (r : Option Value) (σ' : jS), jCw l s0 cl D cA d y hh av σ r σ' ∧ Φ r σ'
def hTab (c : Code) (hh : List (Nat × Nat × Nat × Nat)) : Prop := c.exceptionTable.toList.map (fun h => (h.startPc, h.endPc, h.handlerPc, h.catchType)) = hh
def jGU (hh : List (Nat × Nat × Nat × Nat)) (d : Nat) (y : jM) (pc : Nat) (L : jL) (st : List Value) (σ : jS) (r : Option Value) (σ' : jS) : Prop :=
  (σ.2.1 ≤ σ'.2.1 ∧ σ.2.2 ≤ σ'.2.2) ∧ ∀ (p : Program) (e : Env) (R : Room) (s : State) (m : MethodId) (args : Array Value) (below : List Frame) (meth : Method) (c : Code) (H : Heap) (locs : List Loc) (ls : Array Slot) (n0 z0 : Nat),
    hTab c hh → jX s0 d y p R s m meth c → jHp s0 cl D cA σ H locs → jLs L y.2.2.1 ls → n0 ≤ σ.2.1 → z0 ≤ σ.2.2 → σ'.2.1 - n0 ≤ R.cells → σ'.2.2 - z0 ≤ R.slots →
    W p l e R s m args below meth c H locs (σ.2.1 - n0) (σ.2.2 - z0) (MQ below (jQc s0 cl D cA r σ') args s (σ'.2.1 - n0) (σ'.2.2 - z0) (fun q => s0.heap.size ≤ q)) (F0 m pc ls st)
def jU (hh : List (Nat × Nat × Nat × Nat)) (d : Nat) (y : jM) (pc : Nat) (L : jL) (st : List Value) (σ : jS) (Φ : Option Value → jS → Prop) : Prop := ∃ (r : Option Value) (σ' : jS), jGU l s0 cl D cA hh d y pc L st σ r σ' ∧ Φ r σ'
end JT
section JTR
variable {l : Launch} {s0 : State} {cl : List vw_C} {D : va_G} {cA : Nat → ClassId} {tb : List Cond} {a0 : Array Value} {ty : Nat → FieldType} {d : Nat} {y : jM} {pc : Nat} {L : jL} {st : List Value} {σ : jS} {Φ : Option Value → jS → Prop}
variable {hh : List (Nat × Nat × Nat × Nat)}
theorem jV.of {Ψ : Option (Option Value) → jS → Prop} {av : List Value} (hy : plainName y.1.cls = true) (hc : ∀ w ∈ av, w.category = 1) (hn : av.length ≤ y.2.2.1) {L0 : jL} (hL0 : jArgs av y.2.2.1 = L0) (k : jV l s0 cl D cA d y 0 L0 [] σ Ψ) : jE l s0 cl D cA d y av σ (fun r σ' => Ψ (some r) σ') ∨ jT l s0 cl D cA d y av σ (fun _ σ' => Ψ none σ') := by
  obtain ⟨r, σ', ⟨k1, k2⟩, k3⟩ := k
  subst hL0
  cases r with
  | some r =>
    refine Or.inl ⟨r, σ', ⟨k1, Met.ofW (cc := y.2.1) (maxL := y.2.2.1) (ret := y.2.2.2) hy rfl ?_⟩, k3⟩
    intro p e s m args below meth c s₁ B hml hv
    obtain ⟨rfl, hR, hO, hW⟩ := hv
    obtain ⟨ls, hL, hent⟩ := jArgs_ls hc hn
    have hno := B.noHandlers (atoms_spec (ws := [Cond.code y.1 y.2.1 y.2.2.1 y.2.2.2]) B.pre _ List.mem_cons_self)
    have := k2 p e (jRm d (σ'.2.1 - σ.2.1) (σ'.2.2 - σ.2.2)) s m av.toArray below meth c s.heap [] ls σ.2.1 σ.2.2 hno ⟨⟨B.exec, B.bytes⟩, hml, B.returns, findClass_of_methodNamed B.named, B.notSynchronized, (name_of_methodNamed B.named B.method).1, hW, Nat.le_refl _, Nat.le_refl _⟩ ⟨hR, hO, fun _ h => by cases h⟩ hL (Nat.le_refl _) (Nat.le_refl _) (Nat.le_refl _) (Nat.le_refl _)
    rw [Nat.sub_self, Nat.sub_self] at this
    rw [hent]
    exact this
  | none =>
    refine Or.inr ⟨σ', ⟨k1, MetFree.of_bodyS (code := y.2.1) (maxLocals := y.2.2.1) (ret := y.2.2.2) hy ?_ ?_⟩, k3⟩
    · intro args s m h hn
      obtain ⟨meth, c, h1, h2, h3, h4, h5, h6, -, -⟩ := Cond.code_spec hn (atoms_spec (ws := [Cond.code y.1 y.2.1 y.2.2.1 y.2.2.2]) h _ List.mem_cons_self)
      exact ⟨meth, c, h1, h2, h3, h4, h5, h6⟩
    · intro p e s m args below meth c s₁ B hml hv _
      obtain ⟨rfl, hR, hO, hW⟩ := hv
      obtain ⟨ls, hL, hent⟩ := jArgs_ls hc hn
      have hh0 : s₁.heap = s.heap := by rw [B.state]; rfl
      have hno := B.noHandlers (atoms_spec (ws := [Cond.code y.1 y.2.1 y.2.2.1 y.2.2.2]) B.pre _ List.mem_cons_self)
      have := k2 p e (jRm d (σ'.2.1 + 1 - σ.2.1) (σ'.2.2 + 6 - σ.2.2)) s m av.toArray below meth c s.heap [] ls σ.2.1 σ.2.2 hno ⟨⟨B.exec, B.bytes⟩, hml, B.returns, findClass_of_methodNamed B.named, B.notSynchronized, (name_of_methodNamed B.named B.method).1, hW, Nat.le_refl _, Nat.le_refl _⟩ ⟨hR, hO, fun _ h => by cases h⟩ hL (Nat.le_refl _) (Nat.le_refl _) (Nat.le_refl _) (Nat.le_refl _)
      rw [Nat.sub_self, Nat.sub_self] at this
      rw [hent]
      obtain ⟨t, a1, x, b1, b2, b3, b4⟩ := this s₁ hh0 (Stand.of_body B)
      exact ⟨t, .threw x, a1, b1, b2, x, rfl, b3, b4⟩
theorem jEw.of {av : List Value} (hy : plainName y.1.cls = true) (hc : ∀ w ∈ av, w.category = 1) (hn : av.length ≤ y.2.2.1) {L0 : jL} (hL0 : jArgs av y.2.2.1 = L0) (k : jU l s0 cl D cA hh d y 0 L0 [] σ Φ) : jEw l s0 cl D cA d y hh av σ Φ := by
  obtain ⟨r, σ', ⟨k1, k2⟩, k3⟩ := k
  subst hL0
  have hcw : ∀ {args : Array Value} {s : State}, (headSpec [Cond.codeWith y.1 y.2.1 y.2.2.1 y.2.2.2 hh] (jRm d (σ'.2.1 - σ.2.1) (σ'.2.2 - σ.2.2))).pre.before args s = true → (Cond.codeWith y.1 y.2.1 y.2.2.1 y.2.2.2 hh).before args s = true := fun h => atoms_spec (ws := [Cond.codeWith y.1 y.2.1 y.2.2.1 y.2.2.2 hh]) h _ List.mem_cons_self
  refine ⟨r, σ', ⟨k1, MetFree.of_bodyS (code := y.2.1) (maxLocals := y.2.2.1) (ret := y.2.2.2) hy ?_ ?_⟩, k3⟩
  · intro args s m h hn
    obtain ⟨m', meth, c, h0, h1, h2, h3, h4, -, h5, h6, -⟩ := Cond.codeWith_spec (hcw h)
    cases hn.symm.trans h0
    exact ⟨meth, c, h1, h2, h3, h4, h5, h6⟩
  · intro p e s m args below meth c s₁ B hml hv _
    obtain ⟨rfl, hR, hO, hW⟩ := hv
    obtain ⟨ls, hL, hent⟩ := jArgs_ls hc hn
    have hh0 : s₁.heap = s.heap := by rw [B.state]; rfl
    have hno : hTab c hh := by
      obtain ⟨m', meth', c', h0, h1, h2, h3, h4, h7, -⟩ := Cond.codeWith_spec (hcw B.pre)
      cases B.named.symm.trans h0
      cases B.method.symm.trans h1
      cases (Stand.of_body B).code.symm.trans h2
      exact h7
    have := k2 p e (jRm d (σ'.2.1 - σ.2.1) (σ'.2.2 - σ.2.2)) s m av.toArray below meth c s.heap [] ls σ.2.1 σ.2.2 hno ⟨⟨B.exec, B.bytes⟩, hml, B.returns, findClass_of_methodNamed B.named, B.notSynchronized, (name_of_methodNamed B.named B.method).1, hW, Nat.le_refl _, Nat.le_refl _⟩ ⟨hR, hO, fun _ h => by cases h⟩ hL (Nat.le_refl _) (Nat.le_refl _) (Nat.le_refl _) (Nat.le_refl _)
    rw [Nat.sub_self, Nat.sub_self] at this
    rw [hent]
    obtain ⟨t, a1, o, b1, b2, b3, b4⟩ := this s₁ hh0 (Stand.of_body B)
    exact ⟨t, o, a1, b1, b2, b3, b4⟩
theorem jW.toU (k : jW l s0 cl D cA d y pc L st σ Φ) : jU l s0 cl D cA hh d y pc L st σ Φ := by
  obtain ⟨r, σ', ⟨k1, k2⟩, k3⟩ := k
  exact ⟨r, σ', ⟨k1, fun p e R s m args below meth c H locs ls n0 z0 _ => k2 p e R s m args below meth c H locs ls n0 z0⟩, k3⟩
theorem jU.rd {pc' : Nat} {L' : jL} {st' : List Value} (k : jU l s0 cl D cA hh d y pc' L' st' σ Φ)
    (h : ∀ (p : Program) (e : Env) (R : Room) (s : State) (m : MethodId) (args : Array Value) (below : List Frame) (meth : Method) (c : Code) (H : Heap) (locs : List Loc) (ls : Array Slot) (cells slots : Nat) (Q : State → Prop), jX s0 d y p R s m meth c → jHp s0 cl D cA σ H locs → jLs L y.2.2.1 ls → (∀ ls', jLs L' y.2.2.1 ls' → W p l e R s m args below meth c H locs cells slots Q (F0 m pc' ls' st')) → W p l e R s m args below meth c H locs cells slots Q (F0 m pc ls st)) : jU l s0 cl D cA hh d y pc L st σ Φ := by
  obtain ⟨r, σ', ⟨h1, h2⟩, h3⟩ := k
  exact ⟨r, σ', ⟨h1, fun p e R s m args below meth c H locs ls n0 z0 hx0 hX hH hL q1 q2 q3 q4 => h p e R s m args below meth c H locs ls _ _ _ hX hH hL (fun ls' hL' => h2 p e R s m args below meth c H locs ls' n0 z0 hx0 hX hH hL' q1 q2 q3 q4)⟩, h3⟩
theorem jU.pure {pc' : Nat} {st' : List Value} (k : jU l s0 cl D cA hh d y pc' L st' σ Φ)
    (h : ∀ (p : Program) (e : Env) (R : Room) (s : State) (m : MethodId) (args : Array Value) (below : List Frame) (meth : Method) (c : Code) (H : Heap) (locs : List Loc) (ls : Array Slot) (cells slots : Nat) (Q : State → Prop), p.tables.exec = Jvm.exec → c.code = y.2.1 → jLs L y.2.2.1 ls → W p l e R s m args below meth c H locs cells slots Q (F0 m pc' ls st') → W p l e R s m args below meth c H locs cells slots Q (F0 m pc ls st)) : jU l s0 cl D cA hh d y pc L st σ Φ :=
  k.rd fun p e R s m args below meth c H locs ls cells slots Q hX _ hL w => h p e R s m args below meth c H locs ls cells slots Q hX.1.1 hX.1.2 hL (w ls hL)
theorem jU.lcl {pc' : Nat} {L' : jL} {st' : List Value} (k : jU l s0 cl D cA hh d y pc' L' st' σ Φ)
    (h : ∀ (p : Program) (e : Env) (R : Room) (s : State) (m : MethodId) (args : Array Value) (below : List Frame) (meth : Method) (c : Code) (H : Heap) (locs : List Loc) (ls : Array Slot) (cells slots : Nat) (Q : State → Prop), p.tables.exec = Jvm.exec → c.code = y.2.1 → jLs L y.2.2.1 ls → (∀ ls', jLs L' y.2.2.1 ls' → W p l e R s m args below meth c H locs cells slots Q (F0 m pc' ls' st')) → W p l e R s m args below meth c H locs cells slots Q (F0 m pc ls st)) : jU l s0 cl D cA hh d y pc L st σ Φ :=
  k.rd fun p e R s m args below meth c H locs ls cells slots Q hX _ hL w => h p e R s m args below meth c H locs ls cells slots Q hX.1.1 hX.1.2 hL w
theorem jU.aload_n {k0 : Fin 4} {i : Nat} {x : Nat} (hd : decode y.2.1 pc = .ok (.aload_n k0, 1)) (hi : (k0 : Nat) = i) (hl : L[i]? = some (some (.ref x))) {pc' : Nat} (hp : pc + 1 = pc') (k : jU l s0 cl D cA hh d y pc' L (.ref x :: st) σ Φ) : jU l s0 cl D cA hh d y pc L (st) σ Φ := by
  subst hp
  exact k.pure fun p e R s m args below meth c H locs ls cells slots Q hx hb hL w => lv_aload_n hx hb hd hi (hL.2.2 _ _ hl).2 w
theorem jU.iconst {n : Int} {v : Int32} (hd : decode y.2.1 pc = .ok (.iconst n, 1)) (hv : Int32.ofInt n = v) {pc' : Nat} (hp : pc + 1 = pc') (k : jU l s0 cl D cA hh d y pc' L (.int v :: st) σ Φ) : jU l s0 cl D cA hh d y pc L (st) σ Φ := by
  subst hp
  exact k.pure fun p e R s m args below meth c H locs ls cells slots Q hx hb hL w => lv_iconst hx hb hd hv w
end JTR
