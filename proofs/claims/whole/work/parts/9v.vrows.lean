/-! THE SECOND JUDGEMENT: from a point the method ends in a throw; the cells of σ' and the exception's own -/
section JV
variable (l : Launch) (s0 : State) (cl : List vw_C) (D : va_G) (cA : Nat → ClassId)
def jQt (σ' : jS) (x : Addr) (t : State) : Prop := (jRep cl D cA (σ'.1, σ'.2.1 + 1, σ'.2.2 + 6) t.heap ∧ jOld s0 t.heap) ∧ x = σ'.2.1 ∧ ∃ ce : Cell, t.heap[x]? = some ce ∧ ce.vm.isStatics = false ∧ s0.vm.findClass "java/lang/IllegalArgumentException" = some ce.cls
def MQt (below : List Frame) (Qt : Addr → State → Prop) (s : State) (mc ms : Nat) (free : Addr → Prop) : State → Prop := fun t =>
  ∃ x, t.status = .running ∧ Ended t below (.threw x) ∧ Qt x t ∧ ∃ L, Free.FrameEndT s (.threw x) t L mc ms ∧ ∀ q ∈ L, free q.base
def xc : Option (Option Value) → Nat
  | some _ => 0
  | none => 1
def xs : Option (Option Value) → Nat
  | some _ => 0
  | none => 6
def jEnd (r : Option (Option Value)) (σ' : jS) (below : List Frame) (args : Array Value) (s : State) (mc ms : Nat) : State → Prop := match r with
  | some v => MQ below (jQc s0 cl D cA v σ') args s mc ms (fun q => s0.heap.size ≤ q)
  | none => MQt below (jQt s0 cl D cA σ') s mc ms (fun q => s0.heap.size ≤ q)
/-- the method returns (some) or throws (none) -/
def jGV (d : Nat) (y : jM) (pc : Nat) (L : jL) (st : List Value) (σ : jS) (r : Option (Option Value)) (σ' : jS) : Prop :=
  (σ.2.1 ≤ σ'.2.1 ∧ σ.2.2 ≤ σ'.2.2) ∧ ∀ (p : Program) (e : Env) (R : Room) (s : State) (m : MethodId) (args : Array Value) (below : List Frame) (meth : Method) (c : Code) (H : Heap) (locs : List Loc) (ls : Array Slot) (n0 z0 : Nat),
    c.exceptionTable.isEmpty = true → jX s0 d y p R s m meth c → jHp s0 cl D cA σ H locs → jLs L y.2.2.1 ls → n0 ≤ σ.2.1 → z0 ≤ σ.2.2 → σ'.2.1 + xc r - n0 ≤ R.cells → σ'.2.2 + xs r - z0 ≤ R.slots →
    W p l e R s m args below meth c H locs (σ.2.1 - n0) (σ.2.2 - z0) (jEnd s0 cl D cA r σ' below args s (σ'.2.1 + xc r - n0) (σ'.2.2 + xs r - z0)) (F0 m pc ls st)
def jV (d : Nat) (y : jM) (pc : Nat) (L : jL) (st : List Value) (σ : jS) (Φ : Option (Option Value) → jS → Prop) : Prop := ∃ (r : Option (Option Value)) (σ' : jS), jGV l s0 cl D cA d y pc L st σ r σ' ∧ Φ r σ'
end JV
section JVR
variable {l : Launch} {s0 : State} {cl : List vw_C} {D : va_G} {cA : Nat → ClassId} {tb : List Cond} {a0 : Array Value} {ty : Nat → FieldType} {d : Nat} {y : jM} {pc : Nat} {L : jL} {st : List Value} {σ : jS} {Φ : Option (Option Value) → jS → Prop}
theorem jV.rd {pc' : Nat} {L' : jL} {st' : List Value} (k : jV l s0 cl D cA d y pc' L' st' σ Φ)
    (h : ∀ (p : Program) (e : Env) (R : Room) (s : State) (m : MethodId) (args : Array Value) (below : List Frame) (meth : Method) (c : Code) (H : Heap) (locs : List Loc) (ls : Array Slot) (cells slots : Nat) (Q : State → Prop), jX s0 d y p R s m meth c → jHp s0 cl D cA σ H locs → jLs L y.2.2.1 ls → (∀ ls', jLs L' y.2.2.1 ls' → W p l e R s m args below meth c H locs cells slots Q (F0 m pc' ls' st')) → W p l e R s m args below meth c H locs cells slots Q (F0 m pc ls st)) : jV l s0 cl D cA d y pc L st σ Φ := by
  obtain ⟨r, σ', ⟨h1, h2⟩, h3⟩ := k
  exact ⟨r, σ', ⟨h1, fun p e R s m args below meth c H locs ls n0 z0 hx0 hX hH hL q1 q2 q3 q4 => h p e R s m args below meth c H locs ls _ _ _ hX hH hL (fun ls' hL' => h2 p e R s m args below meth c H locs ls' n0 z0 hx0 hX hH hL' q1 q2 q3 q4)⟩, h3⟩
theorem jV.wr {σ1 : jS} {pc' : Nat} {st' : List Value} (k : jV l s0 cl D cA d y pc' L st' σ1 Φ) (hz : σ1.2 = σ.2)
    (h : ∀ (p : Program) (e : Env) (R : Room) (s : State) (m : MethodId) (args : Array Value) (below : List Frame) (meth : Method) (c : Code) (H : Heap) (locs : List Loc) (ls : Array Slot) (cells slots : Nat) (Q : State → Prop), jX s0 d y p R s m meth c → jHp s0 cl D cA σ H locs → jLs L y.2.2.1 ls → (∀ H1 locs1, jHp s0 cl D cA σ1 H1 locs1 → W p l e R s m args below meth c H1 locs1 cells slots Q (F0 m pc' ls st')) → W p l e R s m args below meth c H locs cells slots Q (F0 m pc ls st)) : jV l s0 cl D cA d y pc L st σ Φ := by
  obtain ⟨r, σ', ⟨h1, h2⟩, h3⟩ := k
  rw [hz] at h1
  refine ⟨r, σ', ⟨h1, fun p e R s m args below meth c H locs ls n0 z0 hx0 hX hH hL q1 q2 q3 q4 => h p e R s m args below meth c H locs ls _ _ _ hX hH hL (fun H1 locs1 hH1 => ?_)⟩, h3⟩
  have := h2 p e R s m args below meth c H1 locs1 ls n0 z0 hx0 hX hH1 hL (by rw [hz]; exact q1) (by rw [hz]; exact q2) q3 q4
  rw [hz] at this
  exact this
theorem jV.al {c0 : jCell} {n pc' : Nat} {st' : List Value} (k : jV l s0 cl D cA d y pc' L st' (jnew σ c0 n) Φ)
    (h : ∀ (p : Program) (e : Env) (R : Room) (s : State) (m : MethodId) (args : Array Value) (below : List Frame) (meth : Method) (c : Code) (H : Heap) (locs : List Loc) (ls : Array Slot) (cells slots : Nat) (Q : State → Prop), cells + 1 ≤ R.cells → slots + n ≤ R.slots → jX s0 d y p R s m meth c → jHp s0 cl D cA σ H locs → jLs L y.2.2.1 ls → (∀ H1 locs1, jHp s0 cl D cA (jnew σ c0 n) H1 locs1 → W p l e R s m args below meth c H1 locs1 (cells + 1) (slots + n) Q (F0 m pc' ls st')) → W p l e R s m args below meth c H locs cells slots Q (F0 m pc ls st)) : jV l s0 cl D cA d y pc L st σ Φ := by
  obtain ⟨r, σ', ⟨h1, h2⟩, h3⟩ := k
  have e1 : (jnew σ c0 n).2.1 = σ.2.1 + 1 := rfl
  have e2 : (jnew σ c0 n).2.2 = σ.2.2 + n := rfl
  rw [e1, e2] at h1
  refine ⟨r, σ', ⟨⟨by omega, by omega⟩, fun p e R s m args below meth c H locs ls n0 z0 hx0 hX hH hL q1 q2 q3 q4 => h p e R s m args below meth c H locs ls _ _ _ (by omega) (by omega) hX hH hL (fun H1 locs1 hH1 => ?_)⟩, h3⟩
  have := h2 p e R s m args below meth c H1 locs1 ls n0 z0 hx0 hX hH1 hL (by rw [e1]; omega) (by rw [e2]; omega) q3 q4
  rw [e1, e2, show σ.2.1 + 1 - n0 = σ.2.1 - n0 + 1 by omega, show σ.2.2 + n - z0 = σ.2.2 - z0 + n by omega] at this
  exact this
theorem jV.call {z : jM} {As rest st' : List Value} {Ψ : Option Value → jS → Prop} (hE : jE l s0 cl D cA d z As σ Ψ) {pc' : Nat} (hp : pc + 3 = pc') (kk : ∀ r σ1, Ψ r σ1 → jV l s0 cl D cA (d + 1) y pc' L (r.toList ++ rest) σ1 Φ)
    (h : ∀ (mc ms : Nat) (Qc : Array Value → State → Outcome → State → Prop) (p : Program) (e : Env) (R : Room) (s : State) (m : MethodId) (args : Array Value) (below : List Frame) (meth : Method) (c : Code) (H : Heap) (locs : List Loc) (ls : Array Slot) (cells slots : Nat), Met l z.1 [.code z.1 z.2.1 z.2.2.1 z.2.2.2] (jRm d mc ms) (jPc s0 cl D cA As σ) Qc mc ms (fun q => s0.heap.size ≤ q) → FrameBlind (jPc s0 cl D cA As σ) → (∀ U : State, U.heap = H → s.WarmedH U.vm → jPc s0 cl D cA As σ As.toArray U) → jX s0 (d + 1) y p R s m meth c → jHp s0 cl D cA σ H locs → jLs L y.2.2.1 ls → cells + mc ≤ R.cells ∧ slots + ms ≤ R.slots → va_Run p l e R s m args below meth c H locs cells slots mc ms (F0 m pc ls st') rest (Qc As.toArray) (fun q => s0.heap.size ≤ q)) : jV l s0 cl D cA (d + 1) y pc L st' σ Φ := by
  subst hp
  obtain ⟨r1, σ1, ⟨⟨m1, m2⟩, hM⟩, hΨ⟩ := hE
  obtain ⟨r, σ', ⟨⟨k1, k2⟩, k3⟩, k4⟩ := kk r1 σ1 hΨ
  refine ⟨r, σ', ⟨⟨by omega, by omega⟩, fun p e R s m args below meth c H locs ls n0 z0 hx0 hX hH hL q1 q2 q3 q4 => ?_⟩, k4⟩
  intro T hT X
  have hW := hX.2.2.2.2.2.2.1
  obtain ⟨v, st₀, t, T', Lq, h0, X', hLq, e1, e2, ⟨hv, hRep, hOld⟩, stp⟩ := h _ _ _ p e R s m args below meth c H locs ls (σ.2.1 - n0) (σ.2.2 - z0) hM (fun a U g mk q => q) (fun U hU hWU => ⟨rfl, by rw [hU]; exact hH.1, by rw [hU]; exact hH.2.1, hW.trans hWU⟩) hX hH hL ⟨by omega, by omega⟩ T hT X
  cases hv
  have w := k3 p e R s m args below meth c T'.heap (locs ++ Lq) ls n0 z0 hx0 hX ⟨by rw [e1]; exact hRep, by rw [e1]; exact hOld, fun x hx => by
    rcases List.mem_append.mp hx with h | h
    · exact hH.2.2 x h
    · exact hLq x h⟩ hL (by omega) (by omega) q3 q4
  rw [show σ.2.1 - n0 + (σ1.2.1 - σ.2.1) = σ1.2.1 - n0 by omega, show σ.2.2 - z0 + (σ1.2.2 - σ.2.2) = σ1.2.2 - z0 by omega] at X'
  obtain ⟨t2, a1, b1⟩ := w T' rfl X'
  exact ⟨t2, stp t2 a1, b1⟩
theorem jV.pure {pc' : Nat} {st' : List Value} (k : jV l s0 cl D cA d y pc' L st' σ Φ)
    (h : ∀ (p : Program) (e : Env) (R : Room) (s : State) (m : MethodId) (args : Array Value) (below : List Frame) (meth : Method) (c : Code) (H : Heap) (locs : List Loc) (ls : Array Slot) (cells slots : Nat) (Q : State → Prop), p.tables.exec = Jvm.exec → c.code = y.2.1 → jLs L y.2.2.1 ls → W p l e R s m args below meth c H locs cells slots Q (F0 m pc' ls st') → W p l e R s m args below meth c H locs cells slots Q (F0 m pc ls st)) : jV l s0 cl D cA d y pc L st σ Φ :=
  k.rd fun p e R s m args below meth c H locs ls cells slots Q hX _ hL w => h p e R s m args below meth c H locs ls cells slots Q hX.1.1 hX.1.2 hL (w ls hL)
theorem jV.lcl {pc' : Nat} {L' : jL} {st' : List Value} (k : jV l s0 cl D cA d y pc' L' st' σ Φ)
    (h : ∀ (p : Program) (e : Env) (R : Room) (s : State) (m : MethodId) (args : Array Value) (below : List Frame) (meth : Method) (c : Code) (H : Heap) (locs : List Loc) (ls : Array Slot) (cells slots : Nat) (Q : State → Prop), p.tables.exec = Jvm.exec → c.code = y.2.1 → jLs L y.2.2.1 ls → (∀ ls', jLs L' y.2.2.1 ls' → W p l e R s m args below meth c H locs cells slots Q (F0 m pc' ls' st')) → W p l e R s m args below meth c H locs cells slots Q (F0 m pc ls st)) : jV l s0 cl D cA d y pc L st σ Φ :=
  k.rd fun p e R s m args below meth c H locs ls cells slots Q hX _ hL w => h p e R s m args below meth c H locs ls cells slots Q hX.1.1 hX.1.2 hL w
theorem jV.iconst {n : Int} {v : Int32} (hd : decode y.2.1 pc = .ok (.iconst n, 1)) (hv : Int32.ofInt n = v) {pc' : Nat} (hp : pc + 1 = pc') (k : jV l s0 cl D cA d y pc' L (.int v :: st) σ Φ) : jV l s0 cl D cA d y pc L (st) σ Φ := by
  subst hp
  exact k.pure fun p e R s m args below meth c H locs ls cells slots Q hx hb hL w => lv_iconst hx hb hd hv w
theorem jV.sipush {n : Int} {v : Int32} (hd : decode y.2.1 pc = .ok (.sipush n, 3)) (hv : (Int16.ofInt n).toInt32 = v) {pc' : Nat} (hp : pc + 3 = pc') (k : jV l s0 cl D cA d y pc' L (.int v :: st) σ Φ) : jV l s0 cl D cA d y pc L (st) σ Φ := by
  subst hp
  exact k.pure fun p e R s m args below meth c H locs ls cells slots Q hx hb hL w => lv_sipush hx hb hd hv w
theorem jV.iload_n {k0 : Fin 4} {i : Nat} {x : Int32} (hd : decode y.2.1 pc = .ok (.iload_n k0, 1)) (hi : (k0 : Nat) = i) (hl : L[i]? = some (some (.int x))) {pc' : Nat} (hp : pc + 1 = pc') (k : jV l s0 cl D cA d y pc' L (.int x :: st) σ Φ) : jV l s0 cl D cA d y pc L (st) σ Φ := by
  subst hp
  exact k.pure fun p e R s m args below meth c H locs ls cells slots Q hx hb hL w => lv_iload_n hx hb hd hi (hL.2.2 _ _ hl).2 w
theorem jV.aload_n {k0 : Fin 4} {i : Nat} {x : Nat} (hd : decode y.2.1 pc = .ok (.aload_n k0, 1)) (hi : (k0 : Nat) = i) (hl : L[i]? = some (some (.ref x))) {pc' : Nat} (hp : pc + 1 = pc') (k : jV l s0 cl D cA d y pc' L (.ref x :: st) σ Φ) : jV l s0 cl D cA d y pc L (st) σ Φ := by
  subst hp
  exact k.pure fun p e R s m args below meth c H locs ls cells slots Q hx hb hL w => lv_aload_n hx hb hd hi (hL.2.2 _ _ hl).2 w
theorem jV.istore_n {k0 : Fin 4} {i : Nat} {x : Int32} (hd : decode y.2.1 pc = .ok (.istore_n k0, 1)) (hi : (k0 : Nat) = i) (hn : i < y.2.2.1) {L' : jL} (hL' : L.set i (some (.int x)) = L') {pc' : Nat} (hp : pc + 1 = pc') (k : jV l s0 cl D cA d y pc' L' st σ Φ) : jV l s0 cl D cA d y pc L (.int x :: st) σ Φ := by
  subst hp; subst hL'; subst hi
  refine k.lcl fun p e R s m args below meth c H locs ls cells slots Q hx hb hL w => ?_
  obtain ⟨ls', e', h'⟩ := hL.store hn (v := .int x) rfl
  intro T hT X
  obtain ⟨t, a, b⟩ := w ls' h' T hT X
  refine ⟨t, ?_, b⟩
  jvm_step X.here [X.here.top, ↓top_set X.here.top, hx, hb, hd, e', Value.isRef]
  exact a
theorem jV.iadd {x z : Int32} (hd : decode y.2.1 pc = .ok (.iadd, 1)) {pc' : Nat} (hp : pc + 1 = pc') (k : jV l s0 cl D cA d y pc' L (.int (x + z) :: st) σ Φ) : jV l s0 cl D cA d y pc L (.int z :: .int x :: st) σ Φ := by
  subst hp
  exact k.pure fun p e R s m args below meth c H locs ls cells slots Q hx hb hL w => lv_iadd hx hb hd w
theorem jV.goto  {off : Int} (hd : decode y.2.1 pc = .ok (.goto off, 3)) (tgt : Nat) (ht : (pc : Int) + off = (tgt : Int)) (k : jV l s0 cl D cA d y tgt L st σ Φ) : jV l s0 cl D cA d y pc L (st) σ Φ :=
  k.pure fun p e R s m args below meth c H locs ls cells slots Q hx hb hL w => lv_goto hx hb hd ht w
theorem jV.icmp_ge {x z : Int32} {off : Int} (hd : decode y.2.1 pc = .ok (.if_icmp .ge off, 3)) (tgt : Nat) (ht : (pc : Int) + off = (tgt : Int)) {pc' : Nat} (hp : pc + 3 = pc') (kt : z ≤ x → jV l s0 cl D cA d y tgt L st σ Φ) (kf : ¬ z ≤ x → jV l s0 cl D cA d y pc' L st σ Φ) : jV l s0 cl D cA d y pc L (.int z :: .int x :: st) σ Φ := by
  subst hp
  by_cases hc : z ≤ x
  · exact (kt hc).pure fun p e R s m args below meth c H locs ls cells slots Q hx hb hL w => lv_icmp_ge hx hb hd ht (fun _ => w) (fun q => absurd hc q)
  · exact (kf hc).pure fun p e R s m args below meth c H locs ls cells slots Q hx hb hL w => lv_icmp_ge hx hb hd ht (fun q => absurd q hc) (fun _ => w)
theorem jV.if_eq {x : Int32} {off : Int} (hd : decode y.2.1 pc = .ok (.ifCond .eq off, 3)) (tgt : Nat) (ht : (pc : Int) + off = (tgt : Int)) {pc' : Nat} (hp : pc + 3 = pc') (kt : x = 0 → jV l s0 cl D cA d y tgt L st σ Φ) (kf : ¬ x = 0 → jV l s0 cl D cA d y pc' L st σ Φ) : jV l s0 cl D cA d y pc L (.int x :: st) σ Φ := by
  subst hp
  by_cases hc : x = 0
  · exact (kt hc).pure fun p e R s m args below meth c H locs ls cells slots Q hx hb hL w => lv_if_eq hx hb hd ht (fun _ => w) (fun q => absurd hc q)
  · exact (kf hc).pure fun p e R s m args below meth c H locs ls cells slots Q hx hb hL w => lv_if_eq hx hb hd ht (fun q => absurd q hc) (fun _ => w)
theorem jV.if_ne {x : Int32} {off : Int} (hd : decode y.2.1 pc = .ok (.ifCond .ne off, 3)) (tgt : Nat) (ht : (pc : Int) + off = (tgt : Int)) {pc' : Nat} (hp : pc + 3 = pc') (kt : ¬ x = 0 → jV l s0 cl D cA d y tgt L st σ Φ) (kf : x = 0 → jV l s0 cl D cA d y pc' L st σ Φ) : jV l s0 cl D cA d y pc L (.int x :: st) σ Φ := by
  subst hp
  by_cases hc : x = 0
  · exact (kf hc).pure fun p e R s m args below meth c H locs ls cells slots Q hx hb hL w => lv_if_ne hx hb hd ht (fun q => absurd hc q) (fun _ => w)
  · exact (kt hc).pure fun p e R s m args below meth c H locs ls cells slots Q hx hb hL w => lv_if_ne hx hb hd ht (fun _ => w) (fun q => absurd q hc)
theorem jV.iinc {i : Nat} {n : Int} {x v : Int32} (hd : decode y.2.1 pc = .ok (.iinc i n, 3)) (hl : L[i]? = some (some (.int x))) (hv : x + Int32.ofInt n = v) (hn : i < y.2.2.1) {L' : jL} (hL' : L.set i (some (.int v)) = L') {pc' : Nat} (hp : pc + 3 = pc') (k : jV l s0 cl D cA d y pc' L' st σ Φ) : jV l s0 cl D cA d y pc L st σ Φ := by
  subst hp; subst hL'; subst hv
  refine k.lcl fun p e R s m args below meth c H locs ls cells slots Q hx hb hL w => ?_
  have hg := (hL.2.2 _ _ hl).2
  obtain ⟨ls', e', h'⟩ := hL.store hn (v := .int (x + Int32.ofInt n)) rfl
  intro T hT X
  obtain ⟨t, a, b⟩ := w ls' h' T hT X
  refine ⟨t, ?_, b⟩
  jvm_step X.here [X.here.top, ↓top_set X.here.top, hx, hb, hd, hg, e']
  exact a
theorem jV.getf (F : jOK s0 cl D cA tb a0 ty) {ci k a n : Nat} {v : Nat → Value} (h : jFld cl tb y pc ci k .getfield) (ha : σ.1 a = some (ci, n, v)) {w : Value} (hw : v k = w) {pc' : Nat} (hp : pc + 3 = pc') (kk : jV l s0 cl D cA d y pc' L (w :: st) σ Φ) : jV l s0 cl D cA d y pc L (.ref a :: st) σ Φ := by
  subst hp; subst hw
  obtain ⟨index, ref, q, hd, hq, hk, hl, hs⟩ := h
  refine kk.rd fun p e R s m args below meth c H locs ls cells slots Q hX hH hL w => ?_
  obtain ⟨⟨hx, hb⟩, hml, hr, hown, hlk, hnm, hW, hfr, hlo⟩ := hX
  have ht := (F.2.1 ci q hq).1
  obtain ⟨hn, cell, q1, q2, q3, q4⟩ := hH.1.obj ha ht hq
  obtain ⟨hS, hfc, kC, hkC, hkind⟩ := F.kn hW hq
  obtain ⟨cf, kf, fi, f, hi, hsl⟩ := hS k hk
  have hst := (u_facts hfc hkC (u_lays (F.lays hW hq args) (fun _ h => h) hk) hi).1
  have hv : cell.slots[f.slot]? = some (v k) := by rw [hsl]; exact q4 k (by omega)
  have hkn : cell.vm ≠ .unknown := by rw [q3]; exact fun h => by cases h
  rcases hl with hl | ⟨host, hl⟩
  · exact W.getf hx hb hown (F.word hW hl (Or.inl (by first | rfl | simp [Cond.onTables, Cond.keeps, Cond.steady])) args) (F.same hW hs _ hi) hst q1 hkn hv rfl rfl hd (w ls hL)
  · exact va_Wgetf hx hb hown (va_Nw.use rfl (va_Nw.warmF hW (va_Nw.of rfl (F.1 _ hl)))) (F.same hW hs _ hi) hst q1 hkn hv rfl rfl hd (w ls hL)
theorem jV.putf (F : jOK s0 cl D cA tb a0 ty) {ci k a n : Nat} {v : Nat → Value} (h : jFld cl tb y pc ci k .putfield) {q : vw_C} (hq : cl[ci]? = some q) (tyf : Nat → FieldType) (ht : jTab q tyf) (hfin : (q.2.1 k).2.2.2 = false) (ha : σ.1 a = some (ci, n, v)) (hB : s0.heap.size ≤ a) {w : Value} (hn : narrow (tyf k) w = w) (hf : fits (tyf k) w = true) {σ1 : jS} (hσ : jput σ a (ci, n, updV v k w) = σ1) {pc' : Nat} (hp : pc + 3 = pc') (kk : jV l s0 cl D cA d y pc' L st σ1 Φ) : jV l s0 cl D cA d y pc L (w :: .ref a :: st) σ Φ := by
  subst hp; subst hσ
  obtain ⟨index, ref, q', hd, hq', hk, hl, hs⟩ := h
  cases hq.symm.trans hq'
  refine jV.wr kk rfl fun p e R s m args below meth c H locs ls cells slots Q hX hH hL w1 => ?_
  obtain ⟨⟨hx, hb⟩, hml, hr, hown, hlk, hnm, hW, hfr, hlo⟩ := hX
  have hci := (F.2.1 ci q hq).1
  obtain ⟨hN, cell, q1, q2, q3, q4⟩ := hH.1.obj ha hci hq
  obtain ⟨hS, hfc, kC, hkC, hkind⟩ := F.kn hW hq
  obtain ⟨cf, kf, fi, f, hi, hsl⟩ := hS k hk
  have hlay := F.lays hW hq args _ (u_in_lay hk)
  unfold u_lay at hlay
  rw [if_neg (by rw [hfin]; decide)] at hlay
  have hst := (u_facts hfc hkC (u_lays (F.lays hW hq args) (fun _ h => h) hk) hi).1
  have h6 := u_store hfc hkC hkind hlay hi (ht.1 k hk) hn hf
  have hap := F.apart hW hq tyf ht.1 ht.2
  have hlt : f.slot < cell.slots.size := by rw [hsl]; exact k2_hasslot (q4 k (by omega))
  have hend : ∀ H' : Heap, H'[a]? = some (cell.setSlot f.slot w) → H'.size = H.size → (∀ q, q ≠ a → H'[q]? = H[q]?) → W p l e R s m args below meth c H' (locs ++ [⟨a, f.slot⟩]) cells slots Q (F0 m (pc + 3) ls st) := by
    intro H' e1 e2 e3
    rw [hsl] at e1
    refine w1 H' _ ⟨hH.1.put (Or.inl ⟨hci, q, hq, hN, ⟨_, e1, q2, q3, ?_⟩⟩) e2 e3, hH.2.1.put e3 hB, ?_⟩
    · exact t_set q4 (fun x z hx hz hne => hap x z (by omega) (by omega) hne) (by omega) w
    · intro x hx
      rcases List.mem_append.mp hx with h | h
      · exact hH.2.2 x h
      · rw [List.mem_singleton.mp h]; exact hB
  rcases hl with hl | ⟨host, hl⟩
  · exact W.putK hx hb (f := f) ⟨hown, F.word hW hl (Or.inl (by first | rfl | simp [Cond.onTables, Cond.keeps, Cond.steady])) args, ⟨_, _, _, F.same hW hs _ hi⟩, hst⟩ (by rw [q2]; exact h6) q1 q3 hlt rfl rfl hd hend
  · exact va_WputK hx hb (f := f) hown (va_Nw.use rfl (va_Nw.warmF hW (va_Nw.of rfl (F.1 _ hl)))) (F.same hW hs _ hi) hst (by rw [q2]; exact h6) q1 q3 hlt rfl rfl hd hend
theorem jV.callV (F : jOK s0 cl D cA tb a0 ty) {z : jM} {index n b ci N : Nat} {v : Nat → Value} {q : vw_C} {As : List Value} {Ψ : Option Value → jS → Prop} (hE : jE l s0 cl D cA d z (.ref b :: As) σ Ψ) (hd : decode y.2.1 pc = .ok (.invokevirtual index, 3)) (hc : jCan tb z n) (hl : Cond.methodLink y.1.cls index z.1 ∈ tb) (hs : Cond.instanceMethod z.1 ∈ tb) (hb0 : σ.1 b = some (ci, N, v)) (hq : cl[ci]? = some q) (hsel : Cond.selects q.1 z.1 z.1 ∈ tb) (hn : As.length = n) {st' : List Value} (hst : st' = As.reverse ++ .ref b :: st) (hcat : (st.map fun v => v.category).sum ≤ 8) {pc' : Nat} (hp : pc + 3 = pc') (kk : ∀ r σ1, Ψ r σ1 → jV l s0 cl D cA (d + 1) y pc' L (r.toList ++ st) σ1 Φ) : jV l s0 cl D cA (d + 1) y pc L st' σ Φ := by
  refine jV.call hE hp kk fun mc ms Qc p e R s m args below meth c H locs ls cells slots hM hB hP hX hH hL hf => ?_
  obtain ⟨⟨hx, hb⟩, hml, hr, hown, hlk, hnm2, hW, hfr, hlo⟩ := hX
  have hci := (F.2.1 ci q hq).1
  obtain ⟨hN, cell, q1, q2, q3, q4⟩ := hH.1.obj hb0 hci hq
  exact va_runV (Ts := []) (C := q.1) ⟨hx, hb, hml, hown, fun _ h => by cases h⟩ hM ⟨F.callB hW hfr hlo hc hl args, F.word hW hs (Or.inl (by first | rfl | simp [Cond.onTables, Cond.keeps, Cond.steady])) args, F.word hW hsel (Or.inl (by first | rfl | simp [Cond.onTables, Cond.keeps, Cond.steady])) args⟩ ⟨hB, ⟨cell, q1, by rw [q3]; rfl, by rw [q2]; exact (F.kn hW hq).2.1⟩, hP⟩ rfl hn hL.1 hst (lv_room hcat) hd hf
theorem jV.callVe {l : Launch} {s0 : State} {cl : List vw_C} {D : va_G} {cA : Nat → ClassId} {d : Nat} {y : jM} {pc : Nat} {L : jL} {st : List Value} {σ : jS} {Φ : Option (Option Value) → jS → Prop} {tb : List Cond} {a0 : Array Value} {ty : Nat → FieldType} (F : jOK s0 cl D cA tb a0 ty) {z : jM} {index n b ci N : Nat} {q : vw_C} {As : List Value} {Ψ : Option Value → jS → Prop} (hE : jE l s0 cl D cA d z (.ref b :: As) σ Ψ) (hd : decode y.2.1 pc = .ok (.invokevirtual index, 3)) (hc : jCan tb z n) (hl : Cond.methodLink y.1.cls index z.1 ∈ tb) (hs : Cond.instanceMethod z.1 ∈ tb) (hb0 : ∃ v, σ.1 b = some (ci, N, v)) (hq : cl[ci]? = some q) (hsel : Cond.selects q.1 z.1 z.1 ∈ tb) (hn : As.length = n) {st' : List Value} (hst : st' = As.reverse ++ .ref b :: st) (hcat : (st.map fun v => v.category).sum ≤ 8) {pc' : Nat} (hp : pc + 3 = pc') (kk : ∀ r σ1, Ψ r σ1 → jV l s0 cl D cA (d + 1) y pc' L (r.toList ++ st) σ1 Φ) : jV l s0 cl D cA (d + 1) y pc L st' σ Φ := by
  obtain ⟨v, hv⟩ := hb0
  exact jV.callV F hE hd hc hl hs hv hq hsel hn hst hcat hp kk
theorem jV.iret {v : Int32} (hd : decode y.2.1 pc = .ok (.ireturn, 1)) (hr : y.2.2.2 = some .int) (h : Φ (some (some (.int v))) σ) : jV l s0 cl D cA d y pc L [.int v] σ Φ :=
  ⟨some (some (.int v)), σ, ⟨⟨Nat.le_refl _, Nat.le_refl _⟩, fun p e R s m args below meth c H locs ls n0 z0 hx0 hX hH hL q1 q2 q3 q4 => W.iret hX.1.1 hX.1.2 (hX.2.2.1.trans hr) (fun t ht hW => ⟨rfl, by rw [ht]; exact hH.1, by rw [ht]; exact hH.2.1⟩) hH.2.2 hd hX.2.2.2.2.1⟩, h⟩
end JVR
section JVC
variable {X : CX} {a0 : Array Value} {d : Nat} {y : jM} {pc : Nat} {L : jL} {st : List Value} {σ : jS} {Φ : Option (Option Value) → jS → Prop} {c : CS}
theorem jV.cg (F : cF X a0) {κ k : Nat} (hS : SG X c.1 κ σ) (h : jFld jcl lw_tbl y pc κ k .getfield) (hk : k < cNf κ) {w : Value} (hw : cVal X c.1 κ k = w) {pc' : Nat} (hp : pc + 3 = pc') (kk : jV X.1 X.2.1 jcl X.2.2.1 X.2.2.2.1 d y pc' L (w :: st) σ Φ) : jV X.1 X.2.1 jcl X.2.2.1 X.2.2.2.1 d y pc L (.ref (adr X κ) :: st) σ Φ := by
  obtain ⟨v, h1, h2, _⟩ := hS
  exact jV.getf F h h1 ((h2 k hk).trans hw) hp kk
theorem jV.cp0 (F : cF X a0) (hV : CV X c σ) {k : Nat} {x : Int32} (h : jFld jcl lw_tbl y pc 0 k .putfield) (hk : k < 8 ∧ cTab 0 k = (2, 0)) (hfin : (jQ_MB.2.1 k).2.2.2 = false) (hn : narrow (jF_MB k) (.int x) = .int x) (hf : fits (jF_MB k) (.int x) = true) {pc' : Nat} (hp : pc + 3 = pc') (kk : ∀ σ1, CV X (cI c (10 * 0 + k) x) σ1 → jV X.1 X.2.1 jcl X.2.2.1 X.2.2.2.1 d y pc' L st σ1 Φ) : jV X.1 X.2.1 jcl X.2.2.1 X.2.2.2.1 d y pc L (.int x :: .ref (adr X 0) :: st) σ Φ := by
  obtain ⟨w, h1, _, h3⟩ := hV.s0
  exact jV.putf F h rfl jF_MB jTab_MB hfin h1 h3 hn hf rfl hp (kk _ (hV.putI (Or.inl rfl) hk.1 hk.2 h1))
end JVC
