section CVT
variable {p : Program} {l : Launch} {e : Env} {R : Room} {s : State} {m : MethodId} {args : Array Value} {below : List Frame} {meth : Method} {c : Code} {T : State} {locs : List Loc} {cells slots : Nat}
/-- a call that throws -/
theorem callVT (X : Stand p l e R s m args below meth c T locs cells slots) (hexec : p.tables.exec = Jvm.exec) {own C : String} {index : Nat} {y : MethodName} {bytes : ByteArray} {maxL : Nat} {ret : Option FieldType}
    (hown : s.vm.findClass own = some m.cls) (hlink : (Cond.methodLink own index y).before args s = true) (hinst : (Cond.instanceMethod y).before args s = true) (hsel : (Cond.selects C y y).before args s = true)
    (hcode : (Cond.code y bytes maxL ret).before args s = true) (hy : y.cls ≠ "java/lang/invoke/MethodHandle" ∧ y.cls ≠ "java/lang/invoke/VarHandle")
    {W : Nat} {Pre : Free.Pt → Array Value → Prop} {Post : Free.Pt → Array Value → Addr → Free.Pt → Prop} (hK : Free.BackT l R p e below s args y 3 W Pre Post)
    {b : Addr} {cellB : Cell} (hcell : T.heap[b]? = some cellB) (hobj : cellB.vm.isStatics = false) (hcls : s.vm.findClass C = some cellB.cls)
    {g : JFrame} (hg : g.method = m) (hsize : g.locals.size = c.maxLocals) {argsL rest : List Value} (hlen : ∀ sig, parseMethodDescriptor y.desc = some sig → argsL.length = sig.parameters.length)
    (hstack : g.stack = argsL.reverse ++ .ref b :: rest) (hW : 2 * g.monitorRoom + (rest.map fun v => v.category).sum ≤ W) (hdg : decode c.code g.pc = .ok (.invokevirtual index, 3))
    (hpre : ∀ vm₁, s.WarmedH vm₁ → Pre ⟨T.setVm vm₁, locs, cells, slots⟩ (Value.ref b :: argsL).toArray) :
    ∃ (v : Addr) (vm₁ : Vm) (B : Free.Pt), s.WarmedH vm₁ ∧ Stand p l e R s m args below meth c B.U B.locs B.cells B.slots ∧ Post ⟨T.setVm vm₁, locs, cells, slots⟩ (Value.ref b :: argsL).toArray v B ∧
      Steps p.tables e below (T.setTop g) ((B.U.setTop { g with stack := rest }).pushFrame (.throwing v)) := by
  obtain ⟨mk, methM, hnamed, hmethM, hstM, habM⟩ := Cond.instanceMethod_spec hinst
  obtain ⟨methM', cM, hmethM', -, -, -, -, -, -, hsigM⟩ := Cond.code_spec hnamed hcode
  cases hmethM.symm.trans hmethM'
  obtain ⟨c2, r2, m2, q1, q2, q3, q4, kP, hkP, hkPi⟩ := Cond.selects_spec hsel
  cases hcls.symm.trans q1
  cases (State.methodFound?_of_named hnamed hy).symm.trans q2
  cases hnamed.symm.trans q3
  have hselP : selectMethod e.platform s.vm cellB.cls mk = .method mk := by rw [Launch.admits_selectMethod X.admits]; exact q4
  obtain ⟨vm₁, X₁, hstep₁⟩ := X.invokevirtual hexec hown hlink hnamed hmethM hstM hkP hkPi hy (a := b) (cell := cellB) hcell
    (fun z h => by rw [h] at hobj; cases hobj) hselP hmethM habM hkP hkPi (g := g) hg (argsL := argsL) (rest := rest) (hlen _ hsigM) hstack hdg
  obtain ⟨v, B, X', hpost, hsteps⟩ := hK m meth c ⟨T.setVm vm₁, locs, cells, slots⟩ { g with stack := rest } (.invokevirtual index) mk (.ref b :: argsL).toArray X₁ hg hsize hdg hW (X₁.named hnamed) (hpre vm₁ X₁.warmed)
  exact ⟨v, vm₁, B, X₁.warmed, X', hpost, hstep₁ _ fun acts => by rw [doInvoke_state]; exact hsteps⟩
end CVT
section JUC
variable {l : Launch} {s0 : State} {cl : List vw_C} {D : va_G} {cA : Nat → ClassId} {tb : List Cond} {a0 : Array Value} {ty : Nat → FieldType} {d : Nat} {y : jM} {pc : Nat} {L : jL} {st : List Value} {σ : jS} {Φ : Option Value → jS → Prop} {hh : List (Nat × Nat × Nat × Nat)}
theorem jCT.back {p : Program} {e : Env} {R : Room} {s : State} {args : Array Value} {below : List Frame} (F : jOK s0 cl D cA tb a0 ty) {z : jM} {n : Nat} {As : List Value} {σ1 : jS} (hM : jCT l s0 cl D cA d z As σ σ1) (hc : jCan tb z n) (hW : s0.WarmedH s.vm) (hf : d + 1 ≤ R.frames) (hlo : (d + 1) * 38 ≤ R.locals) :
    Free.BackT l R p e below s args z.1 3 8 (fun A a => A.cells + (σ1.2.1 + 1 - σ.2.1) ≤ R.cells ∧ A.slots + (σ1.2.2 + 6 - σ.2.2) ≤ R.slots ∧ jPc s0 cl D cA As σ a A.U) (fun A _ x B => ∃ (t : State) (L : List Loc), B.U.heap = t.heap ∧ jQt s0 cl D cA σ1 x t ∧ B.locs = A.locs ++ L ∧ (∀ q ∈ L, s0.heap.size ≤ q.base) ∧ B.cells = A.cells + (σ1.2.1 + 1 - σ.2.1) ∧ B.slots = A.slots + (σ1.2.2 + 6 - σ.2.2)) := by
  obtain ⟨h1, h2, h3, h4, h5⟩ := hc
  have hw : ∀ {U : State} (a : Array Value), s.WarmedH U.vm → (Cond.code z.1 z.2.1 z.2.2.1 z.2.2.2).before a U = true := fun {U} a hU => F.word (hW.trans hU) h1 (Or.inl (by first | rfl | simp [Cond.onTables, Cond.keeps, Cond.steady])) a
  refine Free.BackT.of_free (bytes := z.2.1) (maxL := z.2.2.1) (ret := z.2.2.2) (E := fun _ _ _ _ L k n => k = σ1.2.1 + 1 - σ.2.1 ∧ n = σ1.2.2 + 6 - σ.2.2 ∧ ∀ q ∈ L, s0.heap.size ≤ q.base) hM.2 hf ?_ ?_ ?_ (fun _ _ _ _ _ _ _ _ _ => trivial) ?_ ?_
  · show 8 + (z.2.2.1 + 11) + d * 38 ≤ R.locals
    omega
  · intro m meth c A a X hp
    exact ⟨atoms_intro fun w hw' => by rw [List.mem_singleton.mp hw']; exact hw a X.warmed, hw a X.warmed, F.word (hW.trans X.warmed) h2 (Or.inl (by first | rfl | simp [Cond.onTables, Cond.keeps, Cond.steady])) a, hp.1, hp.2.1⟩
  · intro m meth c A a g mk X hp
    exact hp.2.2
  · rintro a st o t ⟨x, rfl, hq, L, hF, hL⟩
    exact ⟨L, _, _, hF, rfl, rfl, hL⟩
  · rintro m meth c A a g mk v t L k n X hp ⟨x, hx, hq, -⟩ hF ⟨rfl, rfl, hL⟩
    cases hx
    exact ⟨t, L, rfl, hq, rfl, hL, rfl, rfl⟩
/-- a call that throws, caught here -/
theorem jU.callT (F : jOK s0 cl D cA tb a0 ty) {z : jM} {index n b ci N : Nat} {v : Nat → Value} {q : vw_C} {As : List Value} {Ψ : Option Value → jS → Prop} (hE : jT l s0 cl D cA d z (.ref b :: As) σ Ψ) (hd : decode y.2.1 pc = .ok (.invokevirtual index, 3)) (hc : jCan tb z n) (hl : Cond.methodLink y.1.cls index z.1 ∈ tb) (hs : Cond.instanceMethod z.1 ∈ tb) (hb0 : σ.1 b = some (ci, N, v)) (hq : cl[ci]? = some q) (hsel : Cond.selects q.1 z.1 z.1 ∈ tb) (hn : As.length = n) {st' : List Value} (hst : st' = As.reverse ++ .ref b :: st) (hcat : (st.map fun v => v.category).sum ≤ 8) {a1 a2 a3 a4 : Nat} (hhh : hh = [(a1, a2, a3, a4)]) (h12 : a1 ≤ pc ∧ pc < a2) (h4 : a4 ≠ 0) (hcl : Cond.classLink y.1.cls a4 "java/lang/IllegalArgumentException" ∈ tb) (hca : Cond.castable "java/lang/IllegalArgumentException" "java/lang/IllegalArgumentException" ∈ tb) (kk : ∀ σ1, Ψ none σ1 → jU l s0 cl D cA hh (d + 1) y a3 L [.ref σ1.2.1] (σ1.1, σ1.2.1 + 1, σ1.2.2 + 6) Φ) : jU l s0 cl D cA hh (d + 1) y pc L st' σ Φ := by
  obtain ⟨σ1, hM, hΨ⟩ := hE
  have m1 := hM.1.1
  have m2 := hM.1.2
  obtain ⟨r, σ', ⟨⟨k1, k2⟩, k3⟩, k4⟩ := kk σ1 hΨ
  dsimp only at k1 k2 k3
  refine ⟨r, σ', ⟨⟨by omega, by omega⟩, fun p e R s m args below meth c H locs ls n0 z0 hx0 hX hH hL q1 q2 q3 q4 => ?_⟩, k4⟩
  intro T hT X
  have hX0 := hX
  obtain ⟨⟨hx, hb⟩, hml, hr, hown, hlk, hnm2, hW, hfr, hlo⟩ := hX
  have hci := (F.2.1 ci q hq).1
  obtain ⟨hN, cell, p1, p2, p3, p4⟩ := hH.1.obj hb0 hci hq
  have hK := jCT.back (p := p) (e := e) (R := R) (s := s) (args := args) (below := below) F hM hc hW hfr hlo
  obtain ⟨h1, h2, h3, h4', h5⟩ := hc
  obtain ⟨xv, vm₁, ⟨U', l2, c2, s2⟩, hW1, X', ⟨t, Lq, e1, hQ, e3, hLq, e4, e5⟩, stp⟩ := callVT X hx (C := q.1) hown (F.word hW hl (Or.inl (by first | rfl | simp [Cond.onTables, Cond.keeps, Cond.steady])) args) (F.word hW hs (Or.inl (by first | rfl | simp [Cond.onTables, Cond.keeps, Cond.steady])) args) (F.word hW hsel (Or.inl (by first | rfl | simp [Cond.onTables, Cond.keeps, Cond.steady])) args) (F.word hW h1 (Or.inl (by first | rfl | simp [Cond.onTables, Cond.keeps, Cond.steady])) args) h3 hK (b := b) (cellB := cell) (by rw [hT]; exact p1) (by rw [p3]; rfl) (by rw [p2]; exact (F.kn hW hq).2.1) (g := F0 m pc ls st') rfl (by rw [hml]; exact hL.1) (argsL := As) (rest := st) (fun sig h => by rw [h] at h4'; exact hn.trans (Option.some.inj h4').symm) hst (lv_room hcat) (by rw [hb]; exact hd) (fun vm₁ hW₁ => ⟨by show σ.2.1 - n0 + _ ≤ _; omega, by show σ.2.2 - z0 + _ ≤ _; omega, rfl, by show jRep cl D cA σ T.heap; rw [hT]; exact hH.1, by show jOld s0 T.heap; rw [hT]; exact hH.2.1, hW.trans hW₁⟩)
  dsimp only [Free.Pt.U, Free.Pt.locs, Free.Pt.cells, Free.Pt.slots] at X' e1 e3 e4 e5 stp
  subst e3; subst e4; subst e5
  obtain ⟨⟨hRep, hOld⟩, hxv, ce, g1, g2, g3⟩ := hQ
  have hx1 : ∃ x : ClassFile.ExceptionTableEntry, c.exceptionTable.toList = [x] ∧ x.startPc = a1 ∧ x.endPc = a2 ∧ x.handlerPc = a3 ∧ x.catchType = a4 := by
    unfold hTab at hx0
    rw [hhh] at hx0
    match hlist : c.exceptionTable.toList, hx0 with
    | [x], h =>
      simp only [List.map_cons, List.map_nil, List.cons.injEq, Prod.mk.injEq, and_true] at h
      exact ⟨x, rfl, h⟩
  obtain ⟨x, x1, x2, x3, x4, x5⟩ := hx1
  have hcast : (Cond.castable "java/lang/IllegalArgumentException" "java/lang/IllegalArgumentException").before args s = true := by
    have h3 := Cond.before_shiftedFace (State.Shifted.of_warmed hW) _ rfl (F.1 _ hca)
    rw [Cond.onTables_vm (A' := args) (U' := s) s.vm _ rfl, State.setVm_self] at h3
    exact h3
  obtain ⟨c3, c4, hc3, hc4, hasg⟩ := Cond.castable_spec hcast
  cases hc3.symm.trans hc4
  have hce : s.vm.findClass "java/lang/IllegalArgumentException" = some ce.cls := by rw [hW.alike.findClass]; exact g3
  cases hce.symm.trans hc3
  obtain ⟨hend, hk0⟩ := X'.catches_of_link hown (x := x) (by rw [x5]; exact h4) (by rw [x5]; exact F.word hW hcl (Or.inl (by first | rfl | simp [Cond.onTables, Cond.keeps, Cond.steady])) args) hce hasg
  obtain ⟨vm2, X2, st2⟩ := X'.thenCaughtThrough xv (g := { F0 m pc ls st' with stack := st }) rfl stp (cell := ce) (by rw [e1]; exact g1) g2 hk0 [] x [] x1 (fun y hy => by cases hy) (by
    show covers x pc = true
    unfold covers
    rw [x2, x3]
    simp [h12.1, h12.2]) hend
  have w := k3 p e R s m args below meth c t.heap (locs ++ Lq) ls n0 z0 hx0 hX0 ⟨hRep, hOld, fun x hx => by
    rcases List.mem_append.mp hx with h | h
    · exact hH.2.2 x h
    · exact hLq x h⟩ hL (by omega) (by omega) q3 q4
  rw [show σ.2.1 - n0 + (σ1.2.1 + 1 - σ.2.1) = σ1.2.1 + 1 - n0 by omega, show σ.2.2 - z0 + (σ1.2.2 + 6 - σ.2.2) = σ1.2.2 + 6 - z0 by omega] at X2
  obtain ⟨t2, a1', b1⟩ := w (U'.setVm vm2) e1 X2
  refine ⟨t2, st2.trans ?_, b1⟩
  rw [x4, hxv]
  exact a1'
end JUC
