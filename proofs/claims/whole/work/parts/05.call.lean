section JCALL
variable {l : Launch} {s0 : State} {cl : List vw_C} {D : va_G} {cA : Nat → ClassId} {tb : List Cond} {a0 : Array Value} {ty : Nat → FieldType} {d : Nat} {y : jM} {pc : Nat} {L : jL} {st : List Value} {σ : jS} {Φ : Option Value → jS → Prop}
/-- a method that may be called: its code among the words, its number of parameters, its locals -/
def jCan (tb : List Cond) (z : jM) (n : Nat) : Prop := Cond.code z.1 z.2.1 z.2.2.1 z.2.2.2 ∈ tb ∧ Cond.initialized z.1.cls ∈ tb ∧ (z.1.cls ≠ "java/lang/invoke/MethodHandle" ∧ z.1.cls ≠ "java/lang/invoke/VarHandle") ∧ (parseMethodDescriptor z.1.desc).map (fun q => q.parameters.length) = some n ∧ z.2.2.1 ≤ 19
/-- what every call has in common: the callee's contract, and the rest of the walk -/
theorem jW.call {z : jM} {As rest st' : List Value} {Ψ : Option Value → jS → Prop} (hE : jE l s0 cl D cA d z As σ Ψ) {pc' : Nat} (hp : pc + 3 = pc') (kk : ∀ r σ1, Ψ r σ1 → jW l s0 cl D cA (d + 1) y pc' L (r.toList ++ rest) σ1 Φ)
    (h : ∀ (mc ms : Nat) (Qc : Array Value → State → Outcome → State → Prop) (p : Program) (e : Env) (R : Room) (s : State) (m : MethodId) (args : Array Value) (below : List Frame) (meth : Method) (c : Code) (H : Heap) (locs : List Loc) (ls : Array Slot) (cells slots : Nat), Met l z.1 [.code z.1 z.2.1 z.2.2.1 z.2.2.2] (jRm d mc ms) (jPc s0 cl D cA As σ) Qc mc ms (fun q => s0.heap.size ≤ q) → FrameBlind (jPc s0 cl D cA As σ) → (∀ U : State, U.heap = H → s.WarmedH U.vm → jPc s0 cl D cA As σ As.toArray U) → jX s0 (d + 1) y p R s m meth c → jHp s0 cl D cA σ H locs → jLs L y.2.2.1 ls → cells + mc ≤ R.cells ∧ slots + ms ≤ R.slots → va_Run p l e R s m args below meth c H locs cells slots mc ms (F0 m pc ls st') rest (Qc As.toArray) (fun q => s0.heap.size ≤ q)) : jW l s0 cl D cA (d + 1) y pc L st' σ Φ := by
  subst hp
  obtain ⟨r1, σ1, ⟨⟨m1, m2⟩, hM⟩, hΨ⟩ := hE
  obtain ⟨r, σ', ⟨⟨k1, k2⟩, k3⟩, k4⟩ := kk r1 σ1 hΨ
  refine ⟨r, σ', ⟨⟨by omega, by omega⟩, fun p e R s m args below meth c H locs ls n0 z0 hX hH hL q1 q2 q3 q4 => ?_⟩, k4⟩
  intro T hT X
  have hW := hX.2.2.2.2.2.2.1
  obtain ⟨v, st₀, t, T', Lq, h0, X', hLq, e1, e2, ⟨hv, hRep, hOld⟩, stp⟩ := h _ _ _ p e R s m args below meth c H locs ls (σ.2.1 - n0) (σ.2.2 - z0) hM (fun a U g mk q => q) (fun U hU hWU => ⟨rfl, by rw [hU]; exact hH.1, by rw [hU]; exact hH.2.1, hW.trans hWU⟩) hX hH hL ⟨by omega, by omega⟩ T hT X
  cases hv
  have w := k3 p e R s m args below meth c T'.heap (locs ++ Lq) ls n0 z0 hX ⟨by rw [e1]; exact hRep, by rw [e1]; exact hOld, fun x hx => by
    rcases List.mem_append.mp hx with h | h
    · exact hH.2.2 x h
    · exact hLq x h⟩ hL (by omega) (by omega) q3 q4
  rw [show σ.2.1 - n0 + (σ1.2.1 - σ.2.1) = σ1.2.1 - n0 by omega, show σ.2.2 - z0 + (σ1.2.2 - σ.2.2) = σ1.2.2 - z0 by omega] at X'
  obtain ⟨t2, a1, b1⟩ := w T' rfl X'
  exact ⟨t2, stp t2 a1, b1⟩
theorem jOK.callB (F : jOK s0 cl D cA tb a0 ty) {s : State} (hW : s0.WarmedH s.vm) {R : Room} (hf : d + 1 ≤ R.frames) (hlo : (d + 1) * 38 ≤ R.locals) {z : jM} {n mc ms index : Nat} {own : String} (hc : jCan tb z n) (hl : Cond.methodLink own index z.1 ∈ tb) (args : Array Value) : CallB R s args own index z.1 z.2.1 z.2.2.1 z.2.2.2 [.code z.1 z.2.1 z.2.2.1 z.2.2.2] (jRm d mc ms) mc ms n := by
  obtain ⟨h1, h2, h3, h4, h5⟩ := hc
  refine ⟨rfl, rfl, hf, ?_, ?_, List.mem_singleton.mpr rfl, F.word hW h1 (Or.inl (by first | rfl | simp [Cond.onTables, Cond.keeps, Cond.steady])) args, F.word hW h2 (Or.inl (by first | rfl | simp [Cond.onTables, Cond.keeps, Cond.steady])) args, h3, fun sig h => ?_, F.word hW hl (Or.inl (by first | rfl | simp [Cond.onTables, Cond.keeps, Cond.steady])) args⟩
  · show 8 + (z.2.2.1 + 11) + d * 38 ≤ R.locals
    omega
  · intro w hw a' U hU
    rw [List.mem_singleton.mp hw]
    exact F.word (hW.trans hU) h1 (Or.inl (by first | rfl | simp [Cond.onTables, Cond.keeps, Cond.steady])) a'
  · rw [h] at h4
    exact (Option.some.inj h4).symm
theorem jW.callS (F : jOK s0 cl D cA tb a0 ty) {z : jM} {index n : Nat} {As : List Value} {Ψ : Option Value → jS → Prop} (hE : jE l s0 cl D cA d z As σ Ψ) (hd : decode y.2.1 pc = .ok (.invokestatic index, 3)) (hc : jCan tb z n) (hl : Cond.methodLink y.1.cls index z.1 ∈ tb) (hs : Cond.static z.1 ∈ tb) (hn : As.length = n) {st' : List Value} (hst : st' = As.reverse ++ st) (hcat : (st.map fun v => v.category).sum ≤ 8) {pc' : Nat} (hp : pc + 3 = pc') (kk : ∀ r σ1, Ψ r σ1 → jW l s0 cl D cA (d + 1) y pc' L (r.toList ++ st) σ1 Φ) : jW l s0 cl D cA (d + 1) y pc L st' σ Φ := by
  refine jW.call hE hp kk fun mc ms Qc p e R s m args below meth c H locs ls cells slots hM hB hP hX hH hL hf => ?_
  obtain ⟨⟨hx, hb⟩, hml, hr, hown, hlk, hnm, hW, hfr, hlo⟩ := hX
  exact va_runS (Ts := []) ⟨hx, hb, hml, hown, fun _ h => by cases h⟩ hM ⟨F.callB hW hfr hlo hc hl args, F.word hW hs (Or.inl (by first | rfl | simp [Cond.onTables, Cond.keeps, Cond.steady])) args⟩ ⟨hB, hP⟩ rfl hn hL.1 hst (lv_room hcat) hd hf
theorem jW.callI (F : jOK s0 cl D cA tb a0 ty) {z : jM} {index n b : Nat} {As : List Value} {Ψ : Option Value → jS → Prop} (hE : jE l s0 cl D cA d z (.ref b :: As) σ Ψ) (hd : decode y.2.1 pc = .ok (.invokespecial index, 3)) (hc : jCan tb z n) (hret : z.2.2.2 = none) (hl : Cond.methodLink y.1.cls index z.1 ∈ tb) (hs : Cond.instanceMethod z.1 ∈ tb) (hnm : z.1.name = "<init>") (hn : As.length = n) {st' : List Value} (hst : st' = As.reverse ++ .ref b :: st) (hcat : (st.map fun v => v.category).sum ≤ 8) {pc' : Nat} (hp : pc + 3 = pc') (kk : ∀ r σ1, Ψ r σ1 → jW l s0 cl D cA (d + 1) y pc' L (r.toList ++ st) σ1 Φ) : jW l s0 cl D cA (d + 1) y pc L st' σ Φ := by
  refine jW.call hE hp kk fun mc ms Qc p e R s m args below meth c H locs ls cells slots hM hB hP hX hH hL hf => ?_
  obtain ⟨⟨hx, hb⟩, hml, hr, hown, hlk, hnm2, hW, hfr, hlo⟩ := hX
  have cb := F.callB hW hfr hlo (mc := mc) (ms := ms) hc hl args
  rw [hret] at cb hM
  exact va_runI (Ts := []) ⟨hx, hb, hml, hown, fun _ h => by cases h⟩ hM ⟨cb, hnm, F.word hW hs (Or.inl (by first | rfl | simp [Cond.onTables, Cond.keeps, Cond.steady])) args⟩ ⟨hB, hP⟩ rfl hn hL.1 hst (lv_room hcat) hd hf
theorem jW.callV (F : jOK s0 cl D cA tb a0 ty) {z : jM} {index n b ci N : Nat} {v : Nat → Value} {q : vw_C} {As : List Value} {Ψ : Option Value → jS → Prop} (hE : jE l s0 cl D cA d z (.ref b :: As) σ Ψ) (hd : decode y.2.1 pc = .ok (.invokevirtual index, 3)) (hc : jCan tb z n) (hl : Cond.methodLink y.1.cls index z.1 ∈ tb) (hs : Cond.instanceMethod z.1 ∈ tb) (hb0 : σ.1 b = some (ci, N, v)) (hq : cl[ci]? = some q) (hsel : Cond.selects q.1 z.1 z.1 ∈ tb) (hn : As.length = n) {st' : List Value} (hst : st' = As.reverse ++ .ref b :: st) (hcat : (st.map fun v => v.category).sum ≤ 8) {pc' : Nat} (hp : pc + 3 = pc') (kk : ∀ r σ1, Ψ r σ1 → jW l s0 cl D cA (d + 1) y pc' L (r.toList ++ st) σ1 Φ) : jW l s0 cl D cA (d + 1) y pc L st' σ Φ := by
  refine jW.call hE hp kk fun mc ms Qc p e R s m args below meth c H locs ls cells slots hM hB hP hX hH hL hf => ?_
  obtain ⟨⟨hx, hb⟩, hml, hr, hown, hlk, hnm2, hW, hfr, hlo⟩ := hX
  have hci := (F.2.1 ci q hq).1
  obtain ⟨hN, cell, q1, q2, q3, q4⟩ := hH.1.obj hb0 hci hq
  exact va_runV (Ts := []) (C := q.1) ⟨hx, hb, hml, hown, fun _ h => by cases h⟩ hM ⟨F.callB hW hfr hlo hc hl args, F.word hW hs (Or.inl (by first | rfl | simp [Cond.onTables, Cond.keeps, Cond.steady])) args, F.word hW hsel (Or.inl (by first | rfl | simp [Cond.onTables, Cond.keeps, Cond.steady])) args⟩ ⟨hB, ⟨cell, q1, by rw [q3]; rfl, by rw [q2]; exact (F.kn hW hq).2.1⟩, hP⟩ rfl hn hL.1 hst (lv_room hcat) hd hf
/-- Object's constructor -/
theorem jW.objI (F : jOK s0 cl D cA tb a0 ty) {index a : Nat} (hd : decode y.2.1 pc = .ok (.invokespecial index, 3)) (hl : Cond.methodLink y.1.cls index Lib.objectInit ∈ tb) (hs : Cond.instanceMethod Lib.objectInit ∈ tb) (hc : Cond.code Lib.objectInit ⟨#[0xb1]⟩ 1 none ∈ tb) (hcat : (st.map fun v => v.category).sum ≤ 8) {pc' : Nat} (hp : pc + 3 = pc') (kk : jW l s0 cl D cA (d + 1) y pc' L st σ Φ) : jW l s0 cl D cA (d + 1) y pc L (.ref a :: st) σ Φ := by
  subst hp
  refine kk.rd fun p e R s m args below meth c H locs ls cells slots Q hX hH hL w => ?_
  obtain ⟨⟨hx, hb⟩, hml, hr, hown, hlk, hnm2, hW, hfr, hlo⟩ := hX
  refine W.objInit hx hb hown (F.word hW hl (Or.inl (by first | rfl | simp [Cond.onTables, Cond.keeps, Cond.steady])) args) (F.word hW hs (Or.inl (by first | rfl | simp [Cond.onTables, Cond.keeps, Cond.steady])) args) (F.word hW hc (Or.inl (by first | rfl | simp [Cond.onTables, Cond.keeps, Cond.steady])) args) rfl (by rw [hml]; exact hL.1) rfl hd (by omega) ?_ (w ls hL)
  show 2 * 0 + _ + 12 ≤ _
  omega
end JCALL
