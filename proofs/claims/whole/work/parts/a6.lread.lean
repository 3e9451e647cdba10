section CSW
variable {p : Program} {l : Launch} {e : Env} {R : Room} {s : State} {m : MethodId} {args : Array Value} {below : List Frame} {meth : Method} {c : Code} {T : State} {locs : List Loc} {cells slots : Nat}
theorem callSW (X : Stand p l e R s m args below meth c T locs cells slots) (hexec : p.tables.exec = Jvm.exec) {own : String} {index : Nat} {y : MethodName} {bytes : ByteArray} {maxL : Nat} {ret : Option FieldType} {hh : List (Nat × Nat × Nat × Nat)}
    (hown : s.vm.findClass own = some m.cls) (hlink : (Cond.methodLink own index y).before args s = true) (hstat : (Cond.static y).before args s = true) (hinit : (Cond.initialized y.cls).before args s = true)
    (hcode : (Cond.codeWith y bytes maxL ret hh).before args s = true) (hy : y.cls ≠ "java/lang/invoke/MethodHandle" ∧ y.cls ≠ "java/lang/invoke/VarHandle")
    {W : Nat} {Pre : Free.Pt → Array Value → Prop} {Post : Free.Pt → Array Value → Option Value → Free.Pt → Prop} (hK : Free.Back l R p e below s args y 3 W Pre Post)
    {g : JFrame} (hg : g.method = m) (hsize : g.locals.size = c.maxLocals) {argsL rest : List Value} (hlen : ∀ sig, parseMethodDescriptor y.desc = some sig → argsL.length = sig.parameters.length)
    (hstack : g.stack = argsL.reverse ++ rest) (hW : 2 * g.monitorRoom + (rest.map fun v => v.category).sum ≤ W) (hdg : decode c.code g.pc = .ok (.invokestatic index, 3))
    (hpre : ∀ vm₁, s.WarmedH vm₁ → Pre ⟨T.setVm vm₁, locs, cells, slots⟩ argsL.toArray) :
    ∃ (v : Option Value) (vm₁ : Vm) (B : Free.Pt), s.WarmedH vm₁ ∧ Stand p l e R s m args below meth c B.U B.locs B.cells B.slots ∧ Post ⟨T.setVm vm₁, locs, cells, slots⟩ argsL.toArray v B ∧
      ∀ target, Steps p.tables e below (B.U.setTop { g with pc := g.pc + 3, stack := v.toList ++ rest }) target → Steps p.tables e below (T.setTop g) target := by
  obtain ⟨mk, methM, cM, hnamed, hmethM, -, -, -, -, -, -, hsigM⟩ := Cond.codeWith_spec hcode
  have hstatic : methM.isStatic = true := Cond.static_spec hnamed hmethM hstat
  obtain ⟨kP, hkP, -⟩ := className_of_methodNamed hnamed
  have hinitP : kP.init = .initialized := Cond.initialized_spec (findClass_of_methodNamed hnamed) hkP hinit
  obtain ⟨vm₁, X₁, hstep₁⟩ := X.invokestatic hexec hown hlink hnamed hmethM hstatic hkP hinitP hy (g := g) hg (argsL := argsL) (rest := rest) (hlen _ hsigM) hstack hdg
  obtain ⟨v, B, X', hpost, hsteps⟩ := hK m meth c ⟨T.setVm vm₁, locs, cells, slots⟩ { g with stack := rest } (.invokestatic index) mk argsL.toArray X₁ hg hsize hdg hW (X₁.named hnamed) (hpre vm₁ X₁.warmed)
  exact ⟨v, vm₁, B, X₁.warmed, X', hpost, fun target h => hstep₁ _ fun acts => by rw [doInvoke_state]; exact hsteps.trans h⟩
end CSW
section JCW
variable {l : Launch} {s0 : State} {cl : List vw_C} {D : va_G} {cA : Nat → ClassId} {tb : List Cond} {a0 : Array Value} {ty : Nat → FieldType} {d : Nat} {y : jM} {pc : Nat} {L : jL} {st : List Value} {σ : jS} {Φ : Option Value → jS → Prop} {hh : List (Nat × Nat × Nat × Nat)}
/-- a call of a method that has handlers -/
theorem jW.callSw (F : jOK s0 cl D cA tb a0 ty) {z : jM} {index n : Nat} {As : List Value} {Ψ : Option Value → jS → Prop} (hE : jEw l s0 cl D cA d z hh As σ Ψ) (hd : decode y.2.1 pc = .ok (.invokestatic index, 3)) (h1 : Cond.codeWith z.1 z.2.1 z.2.2.1 z.2.2.2 hh ∈ tb) (h2 : Cond.initialized z.1.cls ∈ tb) (h3 : z.1.cls ≠ "java/lang/invoke/MethodHandle" ∧ z.1.cls ≠ "java/lang/invoke/VarHandle") (h4 : (parseMethodDescriptor z.1.desc).map (fun q => q.parameters.length) = some n) (h5 : z.2.2.1 ≤ 19) (hl : Cond.methodLink y.1.cls index z.1 ∈ tb) (hs : Cond.static z.1 ∈ tb) (hn : As.length = n) {st' : List Value} (hst : st' = As.reverse ++ st) (hcat : (st.map fun v => v.category).sum ≤ 8) {pc' : Nat} (hp : pc + 3 = pc') (kk : ∀ r σ1, Ψ r σ1 → jW l s0 cl D cA (d + 1) y pc' L (r.toList ++ st) σ1 Φ) : jW l s0 cl D cA (d + 1) y pc L st' σ Φ := by
  subst hp
  obtain ⟨r1, σ1, ⟨⟨m1, m2⟩, hM⟩, hΨ⟩ := hE
  obtain ⟨r, σ', ⟨⟨k1, k2⟩, k3⟩, k4⟩ := kk r1 σ1 hΨ
  refine ⟨r, σ', ⟨⟨by omega, by omega⟩, fun p e R s m args below meth c H locs ls n0 z0 hX hH hL q1 q2 q3 q4 => ?_⟩, k4⟩
  intro T hT X
  have hX0 := hX
  obtain ⟨⟨hx, hb⟩, hml, hr, hown, hlk, hnm2, hW, hfr, hlo⟩ := hX
  have hw : ∀ {U : State} (a : Array Value), s.WarmedH U.vm → (Cond.codeWith z.1 z.2.1 z.2.2.1 z.2.2.2 hh).before a U = true := fun {U} a hU => F.word (hW.trans hU) h1 (Or.inl (by first | rfl | simp [Cond.onTables, Cond.keeps, Cond.steady])) a
  have hK : Free.Back l R p e below s args z.1 3 8 (PreOf R (σ1.2.1 - σ.2.1) (σ1.2.2 - σ.2.2) (jPc s0 cl D cA As σ)) (PostOf (jQc s0 cl D cA r1 σ1) (σ1.2.1 - σ.2.1) (σ1.2.2 - σ.2.2) (fun q => s0.heap.size ≤ q)) :=
    va_backW (hh := hh) (bytes := z.2.1) (maxL := z.2.2.1) (ret := z.2.2.2) hM (fun a U g mk q => q) rfl rfl hfr (by show 8 + (z.2.2.1 + 11) + d * 38 ≤ R.locals; omega) (fun w hw' a' U hU => by rw [List.mem_singleton.mp hw']; exact hw a' hU) (List.mem_singleton.mpr rfl) (fun a' U hU => F.word (hW.trans hU) h2 (Or.inl (by first | rfl | simp [Cond.onTables, Cond.keeps, Cond.steady])) a')
  obtain ⟨v, vm₁, ⟨U', l2, c2, s2⟩, hW₁, X', ⟨g', mk, t, Lq, e1, e2, hq, f1, hLq, f2, f3⟩, stp⟩ := callSW X hx hown (F.word hW hl (Or.inl (by first | rfl | simp [Cond.onTables, Cond.keeps, Cond.steady])) args) (F.word hW hs (Or.inl (by first | rfl | simp [Cond.onTables, Cond.keeps, Cond.steady])) args) (F.word hW h2 (Or.inl (by first | rfl | simp [Cond.onTables, Cond.keeps, Cond.steady])) args) (F.word hW h1 (Or.inl (by first | rfl | simp [Cond.onTables, Cond.keeps, Cond.steady])) args) h3 hK (g := F0 m pc ls st') rfl (by rw [hml]; exact hL.1) (argsL := As) (rest := st) (fun sig h => by rw [h] at h4; exact hn.trans (Option.some.inj h4).symm) hst (lv_room hcat) (by rw [hb]; exact hd) (fun vm₁ hW₁ => ⟨by show σ.2.1 - n0 + _ ≤ _; omega, by show σ.2.2 - z0 + _ ≤ _; omega, rfl, by show jRep cl D cA σ T.heap; rw [hT]; exact hH.1, by show jOld s0 T.heap; rw [hT]; exact hH.2.1, hW.trans hW₁⟩)
  dsimp only [Free.Pt.U, Free.Pt.locs, Free.Pt.cells, Free.Pt.slots] at X' e1 e2 f1 f2 f3 stp
  subst f1; subst f2; subst f3
  obtain ⟨hv, hRep, hOld⟩ := hq
  cases hv
  have w := k3 p e R s m args below meth c U'.heap (locs ++ Lq) ls n0 z0 hX0 ⟨by rw [e1]; exact hRep, by rw [e1]; exact hOld, fun x hx => by
    rcases List.mem_append.mp hx with h | h
    · exact hH.2.2 x h
    · exact hLq x h⟩ hL (by omega) (by omega) q3 q4
  rw [show σ.2.1 - n0 + (σ1.2.1 - σ.2.1) = σ1.2.1 - n0 by omega, show σ.2.2 - z0 + (σ1.2.2 - σ.2.2) = σ1.2.2 - z0 by omega] at X'
  obtain ⟨t2, a1, b1⟩ := w U' rfl X'
  exact ⟨t2, stp t2 a1, b1⟩
end JCW
section LREAD
variable {l : Launch} {s0 : State} {D : va_G} {cA : Nat → ClassId} {a0 : Array Value} {ad : Nat → Nat} {o ou n z : Nat} {ar : Nat → Nat} {c : CS} {m : MS} {σ : jS}
abbrev hRd : List (Nat × Nat × Nat × Nat) := [(0, 8, 11, 13)]
def LRd (l : Launch) (s0 : State) (D : va_G) (cA : Nat → ClassId) (ad : Nat → Nat) (o : Nat) (ar : Nat → Nat) (ou n z : Nat) (m : MS) (r : Option Value) (σ' : jS) : Prop := ∃ (c' : CS) (n' z' : Nat), LW l s0 D cA ad o ar ou n' z' c' m σ' ∧ n' ≤ n + 1 ∧ z' ≤ z + 6 ∧ ((r = some (.int 0) ∧ ∃ (x : Int32) (w : Nat → Value), σ'.1 ou = some (1003, 1, w) ∧ w 0 = .long x.toInt64 ∧ mE (yB l s0 D cA o ar) 12 y_Mo_read [.ref o] m (iP fun r' m' => r' = x ∧ m'.1 0 = 0 ∧ REL c' m')) ∨ (r = some (.int 1) ∧ mE (yB l s0 D cA o ar) 12 y_Mo_read [.ref o] m (iP fun r' m' => r' = 0 ∧ m'.1 0 = 1 ∧ REL c' m')))
theorem e_Law_read (F : jOK s0 jcl D cA lw_tbl a0 jty) (HT : THs (xB l s0 D cA ad σ n z) a0) (hBN : BNok (xB l s0 D cA ad σ n z)) (hTA : TAok (xB l s0 D cA ad σ n z)) (hrel : REL c m) (h : LW l s0 D cA ad o ar ou n z c m σ) : jEw l s0 jcl D cA 15 y_Law_read hRd [.ref (ad 0), .ref ou] σ (LRd l s0 D cA ad o ar ou n z m) := by
  have hp := p_read (X := xB l s0 D cA ad σ n z) (Y := yB l s0 D cA o ar) (a1 := a0) F F HT hBN hTA ⟨σ, h.2.1⟩ hrel 2 σ h.1
  obtain ⟨v0, hv0⟩ := h.1.cl0
  refine jEw.of (by decide) (by simp [Value.category]) (Nat.le_of_ble_eq_true rfl) rfl ?_
  rcases hp with hp | hp
  · refine jW.toU ?_
    refine jW.aload_n (dx_Law_read 0 (e := (0, .aload_n 1, 1)) rfl) rfl rfl (pc' := 1) rfl ?_
    refine jW.iconst (v := 0) (dx_Law_read 1 (e := (1, .iconst 0, 1)) rfl) (by decide) (pc' := 2) rfl ?_
    refine jW.aload_n (dx_Law_read 2 (e := (2, .aload_n 0, 1)) rfl) rfl rfl (pc' := 3) rfl ?_
    refine jW.callV F hp (dx_Law_read 3 (e := (3, .invokevirtual 7, 3)) rfl) can_MB_read jw_515 jw_516 hv0 rfl jw_517 rfl rfl (Nat.le_of_ble_eq_true rfl) (pc' := 6) rfl (fun r σ1 hr => ?_)
    obtain ⟨c', hV1, hq⟩ := hr
    cases r with
    | none => exact hq.elim
    | some v =>
      rcases hq with ⟨x, hx, hm⟩ | ⟨hx, _⟩
      · cases hx
        have h1 := h.ofC hV1
        obtain ⟨w, hw⟩ := h1.2.2.1
        refine jW.i2l (dx_Law_read 4 (e := (6, .i2l, 1)) rfl) (v := x.toInt64) rfl (pc' := 7) rfl ?_
        refine jW.last (t := 1003) F (dx_Law_read 5 (e := (7, .lastore, 1)) rfl) (by decide) rfl hw h1.2.2.2 ((vp_nI (n := 0) (N := 1) (by decide)).mpr (by decide)) rfl rfl (pc' := 8) rfl ?_
        refine jW.goto (dx_Law_read 6 (e := (8, .goto 6, 3)) rfl) 14 (by decide) ?_
        refine jW.iconst (v := 0) (dx_Law_read 10 (e := (14, .iconst 0, 1)) rfl) (by decide) (pc' := 15) rfl ?_
        refine jW.iret (dx_Law_read 11 (e := (15, .ireturn, 1)) rfl) rfl ?_
        have hK : jK [1003] σ1 (jput σ1 ou (1003, 1, updV w (0 : Int32).toNatClampNeg (.long x.toInt64))) := jK.put hw (by decide)
        have hI := h1.1.base.2.put (c := (1003, 1, updV w (0 : Int32).toNatClampNeg (.long x.toInt64))) hw
        exact ⟨c', n, z, ⟨h1.1.re hK (by decide) hI (Nat.le_refl _) (Nat.le_refl _), h1.2.1.re hK (by decide) hI, ⟨_, jput_at _ _ _⟩, h1.2.2.2⟩, Nat.le_add_right _ _, Nat.le_add_right _ _, Or.inl ⟨rfl, x, _, jput_at _ _ _, rfl, hm⟩⟩
      · cases hx
  · refine jU.aload_n (dx_Law_read 0 (e := (0, .aload_n 1, 1)) rfl) rfl rfl (pc' := 1) rfl ?_
    refine jU.iconst (v := 0) (dx_Law_read 1 (e := (1, .iconst 0, 1)) rfl) (by decide) (pc' := 2) rfl ?_
    refine jU.aload_n (dx_Law_read 2 (e := (2, .aload_n 0, 1)) rfl) rfl rfl (pc' := 3) rfl ?_
    refine jU.callT F hp (dx_Law_read 3 (e := (3, .invokevirtual 7, 3)) rfl) can_MB_read jw_515 jw_516 hv0 rfl jw_517 rfl rfl (Nat.le_of_ble_eq_true rfl) rfl (by decide) (by decide) jw_514 jw_874 (fun σ1 hq => ?_)
    obtain ⟨c', hV1, hq⟩ := hq
    rcases hq with ⟨x, hx, hm⟩ | ⟨_, hm⟩
    · cases hx
    · have h1 := h.ofC hV1
      have hI1 := h1.1.base.2
      have hI : jI s0.heap.size ((σ1.1, σ1.2.1 + 1, σ1.2.2 + 6) : jS) := ⟨Nat.le_succ_of_le hI1.1, fun a q hq => Nat.lt_succ_of_lt (hI1.2 a q hq)⟩
      have hK : jK [] σ1 ((σ1.1, σ1.2.1 + 1, σ1.2.2 + 6) : jS) := fun a t k v q _ => q
      refine jW.toU ?_
      refine jW.astore_n (dx_Law_read 7 (e := (11, .astore_n 2, 1)) rfl) rfl (by decide) rfl (pc' := 12) rfl ?_
      refine jW.iconst (v := 1) (dx_Law_read 8 (e := (12, .iconst 1, 1)) rfl) (by decide) (pc' := 13) rfl ?_
      refine jW.iret (dx_Law_read 9 (e := (13, .ireturn, 1)) rfl) rfl ?_
      exact ⟨c', n + 1, z + 6, ⟨h1.1.re hK (fun _ h => by cases h) hI (by show σ1.2.1 + 1 + n ≤ σ1.2.1 + (n + 1); omega) (by show σ1.2.2 + 6 + z ≤ σ1.2.2 + (z + 6); omega), h1.2.1.re hK (fun _ h => by cases h) hI, h1.2.2.1, h1.2.2.2⟩, Nat.le_refl _, Nat.le_refl _, Or.inr ⟨rfl, hm⟩⟩
end LREAD
