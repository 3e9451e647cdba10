section FIN
theorem same_up {s t : State} {Lq : List Loc} {k n k' n' : Nat} (h : s.sameButNew t Lq k n) (hq : ∀ q ∈ Lq, s.heap.size ≤ q.base) (hk : k ≤ k') (hn : n ≤ n') : s.sameButNew t [] k' n' := by
  obtain ⟨h1, h2, h3, h4, h5, h6⟩ := h
  refine ⟨h1, h2, by omega, h4, by omega, fun a c hc => ?_⟩
  obtain ⟨c', p1, p2, p3, p4⟩ := h6 a c hc
  refine ⟨c', p1, p2, p3, fun i _ => p4 i (fun hm => ?_)⟩
  have := hq _ hm
  have hlt : a < s.heap.size := (Array.getElem?_eq_some_iff.mp hc).1
  exact absurd hlt (Nat.not_lt.mpr this)
variable {s : State} {a : Array Value}
theorem st_named (hts : ∀ w ∈ lw_tbl, w.before a s = true) (h : nrw.before a s = true) : ∃ q, va_Z "MarkBlocks$Labels" "NAMED" "[I" (.ref q) (Ao s) s s.heap ∧ va_T .int q 6 (fun j => .int (nmN j)) (Ao s) s s.heap := by
  have hs := flat_of_before _ h
  have k1 : (Cond.arrayOf (.static "MarkBlocks$Labels" "NAMED" "[I") .int).before a s = true := hs _ (by decide +kernel)
  have k2 : (Cond.eq (.length (.static "MarkBlocks$Labels" "NAMED" "[I")) (.int (Int32.ofNat 6))).before a s = true := hs _ (by decide +kernel)
  obtain ⟨t, h1, h2⟩ := va_Tof (f := fun j => .int (nmN j)) (A := Ao s) (by decide) k1 (va_eqt k2) (fun j hj => va_eqt (hs _ (nam_in ⟨j, hj⟩))) Ao_old
  exact ⟨t, va_Zof (hts _ jw_759) (hts _ jw_12) h1 Ao_old, h2⟩
theorem st_emp (hts : ∀ w ∈ lw_tbl, w.before a s = true) (h : nrw.before a s = true) : ∃ em, EMP s em := by
  have hs := flat_of_before _ h
  have k1 : (Cond.arrayOf (.static "java/util/ArrayList" "DEFAULTCAPACITY_EMPTY_ELEMENTDATA" "[Ljava/lang/Object;") (.object "java/lang/Object")).before a s = true := hs _ (by decide +kernel)
  have k2 : (Cond.eq (.length (.static "java/util/ArrayList" "DEFAULTCAPACITY_EMPTY_ELEMENTDATA" "[Ljava/lang/Object;")) (.int (Int32.ofNat 0))).before a s = true := hs _ (by decide +kernel)
  obtain ⟨t, h1, h2⟩ := va_Tof (f := fun _ => .null) (A := Ao s) (by decide) k1 (va_eqt k2) (fun j hj => absurd hj (Nat.not_lt_zero _)) Ao_old
  exact ⟨t, va_Zof (hts _ jw_66) (hts _ jw_6) h1 Ao_old, h2⟩
theorem st_deep (hts : ∀ w ∈ lw_tbl, w.before a s = true) (h : nrw.before a s = true) : ∃ q, vk_R "MarkBlocks" 102 "too deep" q s := by
  have hs := flat_of_before _ h
  have k1 : (Cond.exactly (.string "MarkBlocks" 102) "java/lang/String").before a s = true := hs _ (by decide +kernel)
  obtain ⟨q, c, cA, kA, q1, -⟩ := Cond.exactly_spec (args := a) (first := s) (o := none) (s := s) (idx := []) (t := .string "MarkBlocks" 102) (cls := "java/lang/String") k1
  exact ⟨q, vk_R.of (hts _ jw_911) (by rw [Term.string_eval_of_vm (args := a) (U := s) rfl]; exact q1)⟩
theorem st_own (h : nrw.before a s = true) : ∀ w ∈ ownX, w.before a s = true := by
  have hs := flat_of_before _ h
  have hin : ∀ w ∈ ownX, w ∈ flatC nrw := by decide +kernel
  exact fun w hw => hs w (hin w hw)
theorem st_mir (h : nrw.before a s = true) : ∃ mi, va_Mi "[Ljava/lang/Object;" mi s := va_Mi.of (flat_of_before _ h _ (by decide +kernel))
end FIN
def R_law : String := "MarkBlocksLaw"
def lw_P (b : Addr) (xs : List Int32) (args : Array Value) (s : State) : Prop := args = #[.ref b] ∧ s.IntsAt b xs ∧ xs.length ≤ 3072 ∧ (Jvm.Cond.and given_1 narrow_1).before args s = true
def lw_Q (_ : Array Value) (s : State) (o : Outcome) (t : State) : Prop := o = .returned (some (.int 1)) ∧ Framed s o t [] 601024 7293034
def lw_Z (below : List Frame) (a : Array Value) (s : State) : State → Prop := fun t => ∃ o, t.status = .running ∧ Ended t below o ∧ lw_Q a s o t
/-- what holds at the law's entry: the machine, the code, the tables' words (any of lw_tbl by 'hts w (by decide +kernel)'), the script of L ints xs at the cell b, what the Statement gives of the start (any of its parts by flat_of_before) -/
def lw_At (p : Program) (s : State) (m : MethodId) (meth : Method) (c : Code) (b L : Nat) (xs : Nat → Int32) : Prop :=
  p.tables.exec = Jvm.exec ∧ c.code = code ∧ meth.sig.returnType = ret ∧ c.maxLocals = 7 ∧ s.vm.findClass R_law = some m.cls ∧ (∀ w ∈ lw_tbl, w.before #[Value.ref b] s = true) ∧ va_X b L xs s s.heap ∧ b < s.heap.size ∧ meth.locks = false ∧ (Jvm.Cond.and given_1 narrow_1).before #[Value.ref b] s = true
/-- from the entry, for every script of at most 3072 ints, the law comes to its end with true -/
theorem whole_start {p : Program} {e : Env} {s : State} {m : MethodId} {below : List Frame} {meth : Method} {c : Code} (l : Launch) (htr : l.stackTraces = false) {b L : Nat} {xs : Nat → Int32} (hL : L ≤ 3072) (C0 : lw_At p s m meth c b L xs) (hnm : meth.name = "law") : W p l e room_1 s m #[Value.ref b] below meth c s.heap [] 0 0 (lw_Z below #[Value.ref b] s) (entryFrame m ([Value.ref b] : List Value).toArray 7) := by
  obtain ⟨hx, hb, hr, hml, hown, hts, hX, hbl, hlk, hgv⟩ := C0
  obtain ⟨D, cA, F⟩ := jOK_start hts
  obtain ⟨q, v, hq, hst⟩ := st_lab hts hgv
  obtain ⟨na, hn1, hn2⟩ := st_named hts hgv
  obtain ⟨em, hE⟩ := st_emp hts hgv
  obtain ⟨mi, hmi⟩ := st_mir hgv
  have hT : va_T .int b L (fun j => .int (xs j)) (fun q => s.heap.size ≤ q) s s.heap := by
    obtain ⟨scr, h1, h2, h3, h4, h5⟩ := hX
    exact ⟨scr, h1, h2, h3, by omega, by rw [h4], h5, Nat.not_le.mpr hbl⟩
  have HX : ∀ ad σ n z, THs (xB l s D cA ad σ n z) #[Value.ref b] ∧ BNok (xB l s D cA ad σ n z) ∧ TAok (xB l s D cA ad σ n z) := fun ad σ n z => ⟨⟨htr, st_own hgv, st_deep hts hgv⟩, BN_ok F ⟨q, v, na, hq, hst, st_str hts hgv, hn1, hn2⟩, TA_ok F hmi⟩
  obtain ⟨r, σ', ⟨k1, k2⟩, rfl, hc, hz⟩ := lw_begin (l := l) F hE HX hT hL
  obtain ⟨ls, hLs, hent⟩ := jArgs_ls (av := [Value.ref b]) (n := 7) (by simp [Value.category]) (Nat.le_of_ble_eq_true rfl)
  have w := k2 p e room_1 s m #[Value.ref b] below meth c s.heap [] ls s.heap.size 0 ⟨⟨hx, hb⟩, hml, hr, hown, hlk, hnm, State.WarmedH.refl s, by decide, by decide⟩ ⟨⟨rfl, fun a t n v h => by cases h⟩, fun q _ => rfl, fun _ h => by cases h⟩ hLs (Nat.le_refl _) (Nat.le_refl _) (by show σ'.2.1 - s.heap.size ≤ 601024; omega) (by show σ'.2.2 - 0 ≤ 7293034; omega)
  rw [hent]
  intro T hT' X
  have e1 : s.heap.size - s.heap.size = 0 := Nat.sub_self _
  dsimp only at w
  rw [e1] at w
  obtain ⟨t, a1, o, b1, b2, b3, Lq, b4, b5⟩ := w T hT' X
  refine ⟨t, a1, o, b1, b2, b3.1, b4.1, b4.2.1, same_up b4.2.2 b5 (by show σ'.2.1 - s.heap.size ≤ 601024; omega) (by show σ'.2.2 - 0 ≤ 7293034; omega)⟩
set_option maxHeartbeats 4000000 in
theorem lw_walk (l : Launch) (htr : l.stackTraces = false) (b : Addr) (xs : List Int32) : MetFree l x (headSpec (Jvm.Cond.code x code maxLocals ret :: tables_1) room_1) (lw_P b xs) (fun _ _ _ _ _ => True) lw_Q := by
  refine MetFree.of_bodyS (code := code) (maxLocals := maxLocals) (ret := ret) (by decide) ?_ ?_
  · intro args s m h hn
    obtain ⟨meth, c, h1, h2, h3, h4, h5, h6, -, -⟩ := Cond.code_spec hn (atoms_spec (ws := Jvm.Cond.code x code maxLocals ret :: tables_1) h _ List.mem_cons_self)
    exact ⟨meth, c, h1, h2, h3, h4, h5, h6⟩
  · intro p e s m args below meth c s₁ B hml0 hP _
    obtain ⟨rfl, hx, hbd, hgv⟩ := hP
    obtain ⟨scr, harrAt, hlist, hof, hsmall⟩ := hx
    obtain ⟨hcb, hkn, -, -⟩ := State.arrayAt?_spec harrAt
    have hown : s.vm.findClass R_law = some m.cls := findClass_of_methodNamed B.named
    have hts0 : ∀ c ∈ (Jvm.Cond.code x code maxLocals ret :: tables_1), c.before #[Value.ref b] s = true := atoms_spec (ws := Jvm.Cond.code x code maxLocals ret :: tables_1) B.pre
    have hts : ∀ w ∈ lw_tbl, w.before #[Value.ref b] s = true := k2_hts_sels lw_privs (fun w hw => hts0 w (List.mem_cons_of_mem _ hw)) lw_privs_ok
    have hml : c.maxLocals = 7 := B.maxLocals_eq (hts0 _ List.mem_cons_self)
    have X₀ : Stand p l e room_1 s m #[Value.ref b] below meth c s₁ [] 0 0 := Stand.of_body B
    have hh0 : s₁.heap = s.heap := by rw [B.state]; rfl
    have hsz : scr.slots.size = xs.length := by rw [← Array.length_toList, hlist, List.length_map]
    have hval : ∀ j : Nat, j < xs.length → scr.slots[j]? = some (.int (xs.getD j 0)) := fun j hj => by
      rw [← Array.getElem?_toList, hlist]
      simp [hj]
    have hbl : b < s.heap.size := (Array.getElem?_eq_some_iff.mp hcb).1
    have hX : va_X b xs.length (fun j => xs.getD j 0) s s.heap := ⟨scr, hcb, hof, hkn, hsz, hval⟩
    have K : W p l e room_1 s m #[Value.ref b] below meth c s₁.heap [] 0 0 (lw_Z below #[Value.ref b] s) (entryFrame m ([Value.ref b] : List Value).toArray 7) := by
      rw [hh0]
      exact whole_start l htr hbd ⟨B.exec, B.bytes, B.returns, hml, hown, hts, hX, hbl, B.notSynchronized, hgv⟩ (name_of_methodNamed B.named B.method).1
    obtain ⟨t, a1, o, b1, b2, b3⟩ := K s₁ rfl X₀
    exact ⟨t, o, a1, b1, b2, b3⟩
theorem lw_pre_spec {args : Array Value} {s : State} (h : (Jvm.Cond.and given_1 narrow_1).before args s = true) (hr : rest_1_c.before args s = true) : ∃ (b : Addr) (xs : List Int32), lw_P b xs args s := by
  have hs := flat_of_before _ h
  have hq := flat_of_before _ hr
  have hc : (Cond.count 1).before args s = true := hs _ (by decide +kernel)
  have harr : (Cond.arrayOf (.arg 0) .int).before args s = true := hs _ (by decide +kernel)
  have hle : (Cond.le (.length (.arg 0)) (.int 3072)).before args s = true := hs _ (by decide +kernel)
  have hlen : (Cond.isInt (.length (.arg 0))).before args s = true := hq _ (by decide +kernel)
  have hall : (Cond.all (.arg 0) (.isInt (.elem (.arg 0) (.index 0)))).before args s = true := hq _ (by decide +kernel)
  obtain ⟨b, xs, hb, hx⟩ := State.ints_of_pre rfl harr hlen hall
  have hsm : xs.length < 2 ^ 31 := hx.choose_spec.2.2.2
  have hev : (Term.length (.arg 0)).eval args s none [] s = some (.int xs.length.toInt32) := hx.length_eval hb
  have hv := Cond.le_ints hev (show (Term.int 3072).eval args s none [] s = some (.int 3072) from rfl)
  have hd : xs.length.toInt32 ≤ 3072 := by
    simpa [Cond.before, Cond.holds, hv] using hle
  have hN : xs.length ≤ 3072 := (Int32.ofNat_le_ofNat hsm (by decide)).mp (show Int32.ofNat xs.length ≤ Int32.ofNat 3072 from hd)
  exact ⟨b, xs, Cond.one_arg hc (show args[0]? = some (.ref b) from hb), hx, hN, h⟩
theorem lw_comes (l : Launch) (htr : l.stackTraces = false) : Comes l x (Jvm.Cond.code x code maxLocals ret :: tables_1) room_1 (fun tb e args s => Calls_1 tb e args s ∧ rest_1 tb e args s ∧ Pre_1 tb e args s)
    (fun _ _ args s o t => lw_Q args s o t) := by
  intro p e ha hc hk s m args below hf hfit hheap happ hpre
  obtain ⟨b, xs, hP⟩ := lw_pre_spec hpre.2.2 hpre.2.1
  obtain ⟨k, o, h1, h2, h3, hQ⟩ := lw_walk l htr b xs p e ha hc hk s m args below hf ((Spec.applies_iff_loose hf).mp happ).1 hP trivial
  exact ⟨k, o, h1, h2, h3, hQ⟩
theorem lw_frame {s t : State} {o : Outcome} {args : Array Value} (h : Framed s o t [] 601024 7293034) :
    Framed s o t (fieldLocs frame_1_writes args s ++ arrayLocs frame_1_arrays args s ++ staticLocs frame_1_statics s) 601024 7293034 := h
theorem lw_limb (L : Cond) (hL : ∀ (args : Array Value) (s t : State), L.after args s (.returned (some (.int 1))) t = true) :
    ArmFor flags0 classFile x code maxLocals ret World_1 tables_1 room_1 Calls_1 rest_1 Pre_1
      (fun tb e a s o t => postC L tb e a s o t ∧ Framed s o t (fieldLocs frame_1_writes a s ++ arrayLocs frame_1_arrays a s ++ staticLocs frame_1_statics s) 601024 7293034) := by
  intro l hfl _ _ p e ha hc hk s m args below hf hfit hheap happ hpre
  have htr : l.stackTraces = false := by unfold Launch.stackTraces; rw [hfl]; decide +kernel
  obtain ⟨k, o, h1, h2, h3, rfl, hF⟩ := lw_comes l htr p e ha hc hk s m args below hf hfit hheap happ hpre
  exact ⟨k, _, h1, h2, h3, hL args s _, lw_frame hF⟩
theorem i_vc : Claimed_1_1 ∧ Claimed_1_2 := ⟨lw_limb limb_1_1 (fun args s t => by simp [limb_1_1, Cond.after, Cond.holds, Cond.value]), lw_limb limb_1_2 (fun args s t => Cond.after_iff.mpr (by
  first | (rw [show limb_1_2 = Cond.eq .result (.int 1) from rfl, Cond.eq_ints (x := 1) (y := 1) rfl rfl]; simp; done) | (simp [limb_1_2, Cond.value, Term.eval]; done)))⟩
