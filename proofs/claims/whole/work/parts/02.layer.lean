/-! THE PROOF'S OWN WORDS FOR A RUN: cells by address, locals by number, a stack; jC: a method's contract with its one end; jG: the same from a point inside. No class's name stands here. -/
abbrev jCell : Type := Nat × Nat × (Nat → Value)
/-- cells by address; the next free address; slots made so far -/
abbrev jS : Type := (Nat → Option jCell) × Nat × Nat
abbrev jL : Type := List (Option Value)
/-- a method: name, code, locals, what it returns -/
abbrev jM : Type := MethodName × ByteArray × Nat × Option FieldType
def jput (σ : jS) (a : Nat) (c : jCell) : jS := (fun q => if q = a then some c else σ.1 q, σ.2.1, σ.2.2)
def jnew (σ : jS) (c : jCell) (k : Nat) : jS := (fun q => if q = σ.2.1 then some c else σ.1 q, σ.2.1 + 1, σ.2.2 + k)
/-- a cell of kind t: below 1000 an object of that class, from there on an array of that kind -/
def jAt (cl : List vw_C) (D : va_G) (cA : Nat → ClassId) (a t n : Nat) (v : Nat → Value) (H : Heap) : Prop :=
  (t < 1000 ∧ ∃ r : vw_C, cl[t]? = some r ∧ r.2.2 = n ∧ t_OB a (D.1 t) n (D.2 t) H v) ∨ (1000 ≤ t ∧ H[a]? = some (arrV (cA t) n v))
def jRep (cl : List vw_C) (D : va_G) (cA : Nat → ClassId) (σ : jS) (H : Heap) : Prop :=
  H.size = σ.2.1 ∧ ∀ (a t n : Nat) (v : Nat → Value), σ.1 a = some (t, n, v) → jAt cl D cA a t n v H
theorem jAt.kept {cl : List vw_C} {D : va_G} {cA : Nat → ClassId} {a t n : Nat} {v : Nat → Value} {H H1 : Heap} (h : jAt cl D cA a t n v H) (hq : H1[a]? = H[a]?) : jAt cl D cA a t n v H1 := by
  rcases h with ⟨h1, r, h2, h3, h4⟩ | ⟨h1, h2⟩
  · exact Or.inl ⟨h1, r, h2, h3, h4.kept hq⟩
  · exact Or.inr ⟨h1, by rw [hq]; exact h2⟩
theorem jAt.lt {cl : List vw_C} {D : va_G} {cA : Nat → ClassId} {a t n : Nat} {v : Nat → Value} {H : Heap} (h : jAt cl D cA a t n v H) : a < H.size := by
  rcases h with ⟨_, r, _, _, cell, h4, _⟩ | ⟨_, h2⟩
  · exact (Array.getElem?_eq_some_iff.mp h4).1
  · exact (Array.getElem?_eq_some_iff.mp h2).1
/-- a store at a: the one cell is new, the rest stays -/
theorem jRep.put {cl : List vw_C} {D : va_G} {cA : Nat → ClassId} {σ : jS} {H H1 : Heap} {a : Nat} {c : jCell} (h : jRep cl D cA σ H) (hc : jAt cl D cA a c.1 c.2.1 c.2.2 H1) (hz : H1.size = H.size) (ho : ∀ q : Nat, q ≠ a → H1[q]? = H[q]?) : jRep cl D cA (jput σ a c) H1 := by
  refine ⟨hz.trans h.1, fun b t n v hb => ?_⟩
  simp only [jput] at hb
  by_cases e : b = a
  · subst e
    rw [if_pos rfl] at hb
    cases hb
    exact hc
  · rw [if_neg e] at hb
    exact (h.2 b t n v hb).kept (ho b e)
/-- a new cell -/
theorem jRep.new {cl : List vw_C} {D : va_G} {cA : Nat → ClassId} {σ : jS} {H H1 : Heap} {c : jCell} {k : Nat} (h : jRep cl D cA σ H) (hc : jAt cl D cA σ.2.1 c.1 c.2.1 c.2.2 H1) (hz : H1.size = σ.2.1 + 1) (ho : ∀ q : Nat, q < σ.2.1 → H1[q]? = H[q]?) : jRep cl D cA (jnew σ c k) H1 := by
  refine ⟨hz, fun b t n v hb => ?_⟩
  simp only [jnew] at hb
  by_cases e : b = σ.2.1
  · subst e
    rw [if_pos rfl] at hb
    cases hb
    exact hc
  · rw [if_neg e] at hb
    have h1 := h.2 b t n v hb
    exact h1.kept (ho b (by rw [← h.1]; exact h1.lt))
/-- the locals -/
def jLs (L : jL) (n : Nat) (ls : Array Slot) : Prop := ls.size = n ∧ lv_wf ls ∧ ∀ (i : Nat) (v : Value), L[i]? = some (some v) → v.category = 1 ∧ ls[i]? = some (.val v)
theorem jLs.store {L : jL} {n i : Nat} {ls : Array Slot} {v : Value} (h : jLs L n ls) (hi : i < n) (hc : v.category = 1) : ∃ ls', storeLocals ls i v = some ls' ∧ jLs (L.set i (some v)) n ls' := by
  obtain ⟨ls', e1, e2⟩ := lv_store1 (l := []) ⟨h.1, h.2.1, fun _ h => by cases h⟩ hi hc
  refine ⟨ls', e1, e2.1, e2.2.1, fun j w hj => ?_⟩
  by_cases e : j = i
  · subst e
    have hw : w = v := by
      rw [List.getElem?_set] at hj
      rw [if_pos rfl] at hj
      split at hj
      · exact (Option.some.inj (Option.some.inj hj)).symm
      · cases hj
    subst hw
    exact ⟨hc, e2.2.2 (j, w) List.mem_cons_self⟩
  · rw [List.getElem?_set_ne (fun q => e q.symm)] at hj
    obtain ⟨c1, c2⟩ := h.2.2 j w hj
    refine ⟨c1, ?_⟩
    obtain ⟨ls2, f1, f2⟩ := lv_store1 (l := [(j, w)]) ⟨h.1, h.2.1, fun q hq => by rw [List.mem_singleton.mp hq]; exact c2⟩ hi hc
    cases e1.symm.trans f1
    refine f2.2.2 (j, w) (List.mem_cons_of_mem _ (List.mem_filter.mpr ⟨List.mem_singleton.mpr rfl, ?_⟩))
    simp [e, c1]
section JG
variable (l : Launch) (s0 : State) (cl : List vw_C) (D : va_G) (cA : Nat → ClassId)
/-- what was there before the law stays -/
def jOld (H : Heap) : Prop := ∀ q : Nat, q < s0.heap.size → H[q]? = s0.heap[q]?
def jPc (av : List Value) (σ : jS) : Array Value → State → Prop := va_Pc av (fun U => jRep cl D cA σ U.heap ∧ jOld s0 U.heap ∧ s0.WarmedH U.vm)
def jQc (r : Option Value) (σ' : jS) : Array Value → State → Outcome → State → Prop := fun _ _ o t => o = .returned r ∧ jRep cl D cA σ' t.heap ∧ jOld s0 t.heap
abbrev jRm (d k n : Nat) : Room := { frames := d, cells := k, slots := n, locals := d * 38 }
/-- THE CONTRACT: from the cells σ method y, called with av, returns r, and the cells are σ' -/
def jC (d : Nat) (y : jM) (av : List Value) (σ : jS) (r : Option Value) (σ' : jS) : Prop :=
  (σ.2.1 ≤ σ'.2.1 ∧ σ.2.2 ≤ σ'.2.2) ∧ Met l y.1 [.code y.1 y.2.1 y.2.2.1 y.2.2.2] (jRm d (σ'.2.1 - σ.2.1) (σ'.2.2 - σ.2.2)) (jPc s0 cl D cA av σ) (jQc s0 cl D cA r σ') (σ'.2.1 - σ.2.1) (σ'.2.2 - σ.2.2) (fun q => s0.heap.size ≤ q)
/-- where the walk of a method y stands -/
def jX (d : Nat) (y : jM) (p : Program) (R : Room) (s : State) (m : MethodId) (meth : Method) (c : Code) : Prop :=
  (p.tables.exec = Jvm.exec ∧ c.code = y.2.1) ∧ c.maxLocals = y.2.2.1 ∧ meth.sig.returnType = y.2.2.2 ∧ s.vm.findClass y.1.cls = some m.cls ∧ meth.locks = false ∧ meth.name = y.1.name ∧ s0.WarmedH s.vm ∧ d ≤ R.frames ∧ d * 38 ≤ R.locals
def jHp (σ : jS) (H : Heap) (locs : List Loc) : Prop := jRep cl D cA σ H ∧ jOld s0 H ∧ ∀ q ∈ locs, s0.heap.size ≤ q.base
/-- FROM A POINT: at pc with locals L, stack st, cells σ, the method returns r with the cells σ' -/
def jG (d : Nat) (y : jM) (pc : Nat) (L : jL) (st : List Value) (σ : jS) (r : Option Value) (σ' : jS) : Prop :=
  (σ.2.1 ≤ σ'.2.1 ∧ σ.2.2 ≤ σ'.2.2) ∧ ∀ (p : Program) (e : Env) (R : Room) (s : State) (m : MethodId) (args : Array Value) (below : List Frame) (meth : Method) (c : Code) (H : Heap) (locs : List Loc) (ls : Array Slot) (n0 z0 : Nat),
    jX s0 d y p R s m meth c → jHp s0 cl D cA σ H locs → jLs L y.2.2.1 ls → n0 ≤ σ.2.1 → z0 ≤ σ.2.2 → σ'.2.1 - n0 ≤ R.cells → σ'.2.2 - z0 ≤ R.slots →
    W p l e R s m args below meth c H locs (σ.2.1 - n0) (σ.2.2 - z0) (MQ below (jQc s0 cl D cA r σ') args s (σ'.2.1 - n0) (σ'.2.2 - z0) (fun q => s0.heap.size ≤ q)) (F0 m pc ls st)
end JG
section JW
variable (l : Launch) (s0 : State) (cl : List vw_C) (D : va_G) (cA : Nat → ClassId)
/-- from a point the method ends, and its end is one that Φ allows -/
def jW (d : Nat) (y : jM) (pc : Nat) (L : jL) (st : List Value) (σ : jS) (Φ : Option Value → jS → Prop) : Prop := ∃ (r : Option Value) (σ' : jS), jG l s0 cl D cA d y pc L st σ r σ' ∧ Φ r σ'
/-- a call of y ends, and its end is one that Φ allows -/
def jE (d : Nat) (y : jM) (av : List Value) (σ : jS) (Φ : Option Value → jS → Prop) : Prop := ∃ (r : Option Value) (σ' : jS), jC l s0 cl D cA d y av σ r σ' ∧ Φ r σ'
end JW
section JR0
variable {l : Launch} {s0 : State} {cl : List vw_C} {D : va_G} {cA : Nat → ClassId} {d : Nat} {y : jM} {pc : Nat} {L : jL} {st : List Value} {σ : jS} {Φ : Option Value → jS → Prop}
/-- an instruction that leaves the cells as they are -/
theorem jW.rd {pc' : Nat} {L' : jL} {st' : List Value} (k : jW l s0 cl D cA d y pc' L' st' σ Φ)
    (h : ∀ (p : Program) (e : Env) (R : Room) (s : State) (m : MethodId) (args : Array Value) (below : List Frame) (meth : Method) (c : Code) (H : Heap) (locs : List Loc) (ls : Array Slot) (cells slots : Nat) (Q : State → Prop), jX s0 d y p R s m meth c → jHp s0 cl D cA σ H locs → jLs L y.2.2.1 ls → (∀ ls', jLs L' y.2.2.1 ls' → W p l e R s m args below meth c H locs cells slots Q (F0 m pc' ls' st')) → W p l e R s m args below meth c H locs cells slots Q (F0 m pc ls st)) : jW l s0 cl D cA d y pc L st σ Φ := by
  obtain ⟨r, σ', ⟨h1, h2⟩, h3⟩ := k
  exact ⟨r, σ', ⟨h1, fun p e R s m args below meth c H locs ls n0 z0 hX hH hL q1 q2 q3 q4 => h p e R s m args below meth c H locs ls _ _ _ hX hH hL (fun ls' hL' => h2 p e R s m args below meth c H locs ls' n0 z0 hX hH hL' q1 q2 q3 q4)⟩, h3⟩
theorem jW.pure {pc' : Nat} {st' : List Value} (k : jW l s0 cl D cA d y pc' L st' σ Φ)
    (h : ∀ (p : Program) (e : Env) (R : Room) (s : State) (m : MethodId) (args : Array Value) (below : List Frame) (meth : Method) (c : Code) (H : Heap) (locs : List Loc) (ls : Array Slot) (cells slots : Nat) (Q : State → Prop), p.tables.exec = Jvm.exec → c.code = y.2.1 → jLs L y.2.2.1 ls → W p l e R s m args below meth c H locs cells slots Q (F0 m pc' ls st') → W p l e R s m args below meth c H locs cells slots Q (F0 m pc ls st)) : jW l s0 cl D cA d y pc L st σ Φ :=
  k.rd fun p e R s m args below meth c H locs ls cells slots Q hX _ hL w => h p e R s m args below meth c H locs ls cells slots Q hX.1.1 hX.1.2 hL (w ls hL)
theorem jW.lcl {pc' : Nat} {L' : jL} {st' : List Value} (k : jW l s0 cl D cA d y pc' L' st' σ Φ)
    (h : ∀ (p : Program) (e : Env) (R : Room) (s : State) (m : MethodId) (args : Array Value) (below : List Frame) (meth : Method) (c : Code) (H : Heap) (locs : List Loc) (ls : Array Slot) (cells slots : Nat) (Q : State → Prop), p.tables.exec = Jvm.exec → c.code = y.2.1 → jLs L y.2.2.1 ls → (∀ ls', jLs L' y.2.2.1 ls' → W p l e R s m args below meth c H locs cells slots Q (F0 m pc' ls' st')) → W p l e R s m args below meth c H locs cells slots Q (F0 m pc ls st)) : jW l s0 cl D cA d y pc L st σ Φ :=
  k.rd fun p e R s m args below meth c H locs ls cells slots Q hX _ hL w => h p e R s m args below meth c H locs ls cells slots Q hX.1.1 hX.1.2 hL w
theorem jW.mono {Φ' : Option Value → jS → Prop} (k : jW l s0 cl D cA d y pc L st σ Φ) (h : ∀ r σ', Φ r σ' → Φ' r σ') : jW l s0 cl D cA d y pc L st σ Φ' := by
  obtain ⟨r, σ', h1, h2⟩ := k
  exact ⟨r, σ', h1, h r σ' h2⟩
theorem jE.mono {av : List Value} {Φ' : Option Value → jS → Prop} (k : jE l s0 cl D cA d y av σ Φ) (h : ∀ r σ', Φ r σ' → Φ' r σ') : jE l s0 cl D cA d y av σ Φ' := by
  obtain ⟨r, σ', h1, h2⟩ := k
  exact ⟨r, σ', h1, h r σ' h2⟩
/-- the ends -/
theorem jW.iret {v : Int32} (hd : decode y.2.1 pc = .ok (.ireturn, 1)) (hr : y.2.2.2 = some .int) (h : Φ (some (.int v)) σ) : jW l s0 cl D cA d y pc L [.int v] σ Φ :=
  ⟨some (.int v), σ, ⟨⟨Nat.le_refl _, Nat.le_refl _⟩, fun p e R s m args below meth c H locs ls n0 z0 hX hH hL q1 q2 q3 q4 => W.iret hX.1.1 hX.1.2 (hX.2.2.1.trans hr) (fun t ht hW => ⟨rfl, by rw [ht]; exact hH.1, by rw [ht]; exact hH.2.1⟩) hH.2.2 hd hX.2.2.2.2.1⟩, h⟩
theorem jW.zret {v : Int32} {ty : FieldType} (hd : decode y.2.1 pc = .ok (.ireturn, 1)) (hr : y.2.2.2 = some ty) (hn : narrow ty (.int v) = .int v) (h : Φ (some (.int v)) σ) : jW l s0 cl D cA d y pc L [.int v] σ Φ :=
  ⟨some (.int v), σ, ⟨⟨Nat.le_refl _, Nat.le_refl _⟩, fun p e R s m args below meth c H locs ls n0 z0 hX hH hL q1 q2 q3 q4 => W.zret hX.1.1 hX.1.2 (hX.2.2.1.trans hr) hn (fun t ht hW => ⟨rfl, by rw [ht]; exact hH.1, by rw [ht]; exact hH.2.1⟩) hH.2.2 hd hX.2.2.2.2.1⟩, h⟩
theorem jW.vret (hd : decode y.2.1 pc = .ok (.return_, 1)) (hr : y.2.2.2 = none) (h : Φ none σ) : jW l s0 cl D cA d y pc L [] σ Φ :=
  ⟨none, σ, ⟨⟨Nat.le_refl _, Nat.le_refl _⟩, fun p e R s m args below meth c H locs ls n0 z0 hX hH hL q1 q2 q3 q4 => W.vret hX.1.1 hX.1.2 (hX.2.2.1.trans hr) (fun t ht hW => ⟨rfl, by rw [ht]; exact hH.1, by rw [ht]; exact hH.2.1⟩) hH.2.2 hd hX.2.2.2.2.1⟩, h⟩
theorem jW.aret {v : Value} {rt : FieldType} (hd : decode y.2.1 pc = .ok (.areturn, 1)) (hr : y.2.2.2 = some rt) (hrt : (∃ n, rt = .object n) ∨ ∃ t, rt = .array t) (hv : v = .null ∨ ∃ a, v = .ref a) (h : Φ (some v) σ) : jW l s0 cl D cA d y pc L [v] σ Φ :=
  ⟨some v, σ, ⟨⟨Nat.le_refl _, Nat.le_refl _⟩, fun p e R s m args below meth c H locs ls n0 z0 hX hH hL q1 q2 q3 q4 => W.aret hX.1.1 hX.1.2 (hX.2.2.1.trans hr) hrt hv (fun t ht hW => ⟨rfl, by rw [ht]; exact hH.1, by rw [ht]; exact hH.2.1⟩) hH.2.2 hd hX.2.2.2.2.1⟩, h⟩
/-- the locals at the entry -/
def jArgs (av : List Value) (n : Nat) : jL := av.map some ++ List.replicate (n - av.length) none
theorem jArgs_in (av : List Value) : ∀ (k i : Nat) (v : Value), (∀ w ∈ av, w.category = 1) → av[i]? = some v → (k + i, v) ∈ lv_args k av := by
  induction av with
  | nil => intro k i v _ h; simp at h
  | cons w ws ih =>
    intro k i v hc h
    have hw : w.category = 1 := hc w List.mem_cons_self
    cases i with
    | zero =>
      simp at h
      subst h
      simp [lv_args]
    | succ i =>
      simp at h
      have := ih (k + 1) i v (fun x hx => hc x (List.mem_cons_of_mem _ hx)) h
      rw [lv_args, if_neg (by omega)]
      refine List.mem_cons_of_mem _ ?_
      rw [show k + (i + 1) = k + 1 + i by omega]
      exact this
theorem lg_sl_1 (av : List Value) (hc : ∀ w ∈ av, w.category = 1) : (lg_sl av).length = av.length := by
  induction av with
  | nil => rfl
  | cons w ws ih =>
    have hw : w.category = 1 := hc w List.mem_cons_self
    have := ih (fun x hx => hc x (List.mem_cons_of_mem _ hx))
    simp [lg_sl, hw] at this ⊢
    try omega
theorem jE.of {av : List Value} (hy : plainName y.1.cls = true) (hc : ∀ w ∈ av, w.category = 1) (hn : av.length ≤ y.2.2.1) {L0 : jL} (hL0 : jArgs av y.2.2.1 = L0) (k : jW l s0 cl D cA d y 0 L0 [] σ Φ) : jE l s0 cl D cA d y av σ Φ := by
  obtain ⟨r, σ', ⟨k1, k2⟩, k3⟩ := k
  subst hL0
  refine ⟨r, σ', ⟨k1, Met.ofW (cc := y.2.1) (maxL := y.2.2.1) (ret := y.2.2.2) hy rfl ?_⟩, k3⟩
  intro p e s m args below meth c s₁ B hml hv
  obtain ⟨rfl, hR, hO, hW⟩ := hv
  have hl := lv_entry av (n := y.2.2.1) (by rw [lg_sl_1 av hc]; exact hn)
  rw [lg_entry_eq]
  generalize (lg_sl av ++ List.replicate (y.2.2.1 - (lg_sl av).length) Slot.unset).toArray = ls at hl ⊢
  have hL : jLs (jArgs av y.2.2.1) y.2.2.1 ls := by
    refine ⟨hl.1, hl.2.1, fun i v hi => ?_⟩
    have hav : av[i]? = some v := by
      unfold jArgs at hi
      by_cases h : i < av.length
      · rw [List.getElem?_append_left (by simpa using h), List.getElem?_map] at hi
        cases ha : av[i]? with
        | none => rw [ha] at hi; simp at hi
        | some w => rw [ha] at hi; simp at hi; rw [hi]
      · rw [List.getElem?_append_right (by simpa using h)] at hi
        have := List.mem_of_getElem? hi
        simp at this
    refine ⟨hc v (List.mem_of_getElem? hav), ?_⟩
    have := jArgs_in av 0 i v hc hav
    rw [Nat.zero_add] at this
    exact hl.2.2 (i, v) this
  have hs : s.heap.size = σ.2.1 := hR.1
  have := k2 p e (jRm d (σ'.2.1 - σ.2.1) (σ'.2.2 - σ.2.2)) s m av.toArray below meth c s.heap [] ls σ.2.1 σ.2.2 ⟨⟨B.exec, B.bytes⟩, hml, B.returns, findClass_of_methodNamed B.named, B.notSynchronized, (name_of_methodNamed B.named B.method).1, hW, Nat.le_refl _, Nat.le_refl _⟩ ⟨hR, hO, fun _ h => by cases h⟩ hL (Nat.le_refl _) (Nat.le_refl _) (Nat.le_refl _) (Nat.le_refl _)
  rw [Nat.sub_self, Nat.sub_self] at this
  exact this
end JR0
