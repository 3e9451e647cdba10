section JOK
variable (s0 : State) (cl : List vw_C) (D : va_G) (cA : Nat → ClassId) (tb : List Cond) (a0 : Array Value) (ty : Nat → FieldType)
def jGood (w : Cond) : Prop := (w.onTables && w.keeps) = true ∨ ∃ t, w = .arrayClass t
/-- what the law's start gives: the tables' words; every class's number and slots; every array class -/
def jOK : Prop := (∀ w ∈ tb, w.before a0 s0 = true) ∧ (∀ (c : Nat) (q : vw_C), cl[c]? = some q → c < 1000 ∧ u_Kn s0 q.1 q.2.1 q.2.2 (D.1 c) (D.2 c) ∧ (∀ w ∈ u_ws q.1 q.2.1 q.2.2, w ∈ tb)) ∧ ∀ t, 1000 ≤ t → ArrOfT s0 (cA t) (ty t) ∧ va_RA s0 (cA t) (ty t)
/-- the field that a getfield or putfield names: number k of class ci -/
def jFld (y : jM) (pc ci k : Nat) (ins : Nat → Instr) : Prop := ∃ (index : Nat) (ref : String) (q : vw_C), decode y.2.1 pc = .ok (ins index, 3) ∧ cl[ci]? = some q ∧ k < q.2.2 ∧ (Cond.fieldLink y.1.cls index ref (q.2.1 k).2.1 (q.2.1 k).2.2.1 ∈ tb ∨ ∃ host, Cond.fieldLinkNest y.1.cls index ref (q.2.1 k).2.1 (q.2.1 k).2.2.1 host ∈ tb) ∧ (ref = (q.2.1 k).1 ∨ Cond.sameField ref (q.2.1 k).1 (q.2.1 k).2.1 (q.2.1 k).2.2.1 ∈ tb)
end JOK
section JH
variable {l : Launch} {s0 : State} {cl : List vw_C} {D : va_G} {cA : Nat → ClassId} {tb : List Cond} {a0 : Array Value} {ty : Nat → FieldType} {d : Nat} {y : jM} {pc : Nat} {L : jL} {st : List Value} {σ : jS} {Φ : Option Value → jS → Prop}
theorem jOK.word (F : jOK s0 cl D cA tb a0 ty) {U : State} (hW : s0.WarmedH U.vm) {w : Cond} (hw : w ∈ tb) (hg : jGood w) (a' : Array Value) : w.before a' U = true := word_at hW hg (F.1 w hw)
theorem jGood_lay (C : String) (T : u_T) (k : Nat) : jGood (u_lay C T k) := by
  unfold u_lay
  split
  · exact Or.inl (by first | rfl | simp [Cond.onTables, Cond.keeps, Cond.steady])
  · exact Or.inl (by first | rfl | simp [Cond.onTables, Cond.keeps, Cond.steady])
theorem jOK.lays (F : jOK s0 cl D cA tb a0 ty) {U : State} (hW : s0.WarmedH U.vm) {c : Nat} {q : vw_C} (hc : cl[c]? = some q) (a' : Array Value) : ∀ w ∈ u_ws q.1 q.2.1 q.2.2, w.before a' U = true := by
  intro w hw
  have h := (F.2.1 c q hc).2.2 w hw
  obtain ⟨k, -, rfl⟩ := List.mem_map.mp hw
  exact F.word hW h (jGood_lay _ _ _) a'
theorem jOK.kn (F : jOK s0 cl D cA tb a0 ty) {U : State} (hW : s0.WarmedH U.vm) {c : Nat} {q : vw_C} (hc : cl[c]? = some q) : u_Kn U q.1 q.2.1 q.2.2 (D.1 c) (D.2 c) := u_Kn_moved hW.alike (F.2.1 c q hc).2.1
theorem jOK.same (F : jOK s0 cl D cA tb a0 ty) {U : State} (hW : s0.WarmedH U.vm) {ref O n de : String} (h : ref = O ∨ Cond.sameField ref O n de ∈ tb) (x : ClassId × Class × Nat × Field) (hx : U.fieldFound? O n de = some x) : U.fieldFound? ref n de = some x := by
  rcases h with h | h
  · rw [h]; exact hx
  · exact u_same (args := #[]) (F.word hW h (Or.inl (by first | rfl | simp [Cond.onTables, Cond.keeps, Cond.steady])) #[]) x hx
/-- the cell of an object -/
theorem jRep.obj {H : Heap} {a t n : Nat} {v : Nat → Value} (h : jRep cl D cA σ H) (ha : σ.1 a = some (t, n, v)) (ht : t < 1000) {q : vw_C} (hq : cl[t]? = some q) : q.2.2 = n ∧ t_OB a (D.1 t) n (D.2 t) H v := by
  rcases h.2 a t n v ha with ⟨_, r, h2, h3, h4⟩ | ⟨h1, _⟩
  · cases hq.symm.trans h2
    exact ⟨h3, h4⟩
  · omega
theorem jRep.arr {H : Heap} {a t n : Nat} {v : Nat → Value} (h : jRep cl D cA σ H) (ha : σ.1 a = some (t, n, v)) (ht : 1000 ≤ t) : H[a]? = some (arrV (cA t) n v) := by
  rcases h.2 a t n v ha with ⟨h1, _⟩ | ⟨_, h2⟩
  · omega
  · exact h2
theorem jW.getf (F : jOK s0 cl D cA tb a0 ty) {ci k a n : Nat} {v : Nat → Value} (h : jFld cl tb y pc ci k .getfield) (ha : σ.1 a = some (ci, n, v)) {w : Value} (hw : v k = w) {pc' : Nat} (hp : pc + 3 = pc') (kk : jW l s0 cl D cA d y pc' L (w :: st) σ Φ) : jW l s0 cl D cA d y pc L (.ref a :: st) σ Φ := by
  subst hp; subst hw
  obtain ⟨index, ref, q, hd, hq, hk, hl, hs⟩ := h
  refine kk.rd fun p e R s m args below meth c H locs ls cells slots Q hX hH hL w => ?_
  obtain ⟨⟨hx, hb⟩, hml, hr, hown, hlk, hnm, hW, hfr, hlo⟩ := hX
  have ht := (F.2.1 ci q hq).1
  obtain ⟨hn, cell, q1, q2, q3, q4⟩ := hH.1.obj ha ht hq
  obtain ⟨hS, hfc, kC, hkC, hkind⟩ := F.kn hW hq
  obtain ⟨cf, kf, fi, f, hi, hsl⟩ := hS k hk
  have hst := (u_facts hfc hkC (u_lays (F.lays hW hq args) (fun _ h => h) hk) hi).1
  have hv : cell.slots[f.slot]? = some (v k) := by rw [hsl]; exact q4 k (by omega)
  have hkn : cell.vm ≠ .unknown := by rw [q3]; exact fun h => by cases h
  rcases hl with hl | ⟨host, hl⟩
  · exact W.getf hx hb hown (F.word hW hl (Or.inl (by first | rfl | simp [Cond.onTables, Cond.keeps, Cond.steady])) args) (F.same hW hs _ hi) hst q1 hkn hv rfl rfl hd (w ls hL)
  · exact va_Wgetf hx hb hown (va_Nw.use rfl (va_Nw.warmF hW (va_Nw.of rfl (F.1 _ hl)))) (F.same hW hs _ hi) hst q1 hkn hv rfl rfl hd (w ls hL)
/-- an instruction that stores -/
theorem jW.wr {σ1 : jS} {pc' : Nat} {st' : List Value} (k : jW l s0 cl D cA d y pc' L st' σ1 Φ) (hz : σ1.2 = σ.2)
    (h : ∀ (p : Program) (e : Env) (R : Room) (s : State) (m : MethodId) (args : Array Value) (below : List Frame) (meth : Method) (c : Code) (H : Heap) (locs : List Loc) (ls : Array Slot) (cells slots : Nat) (Q : State → Prop), jX s0 d y p R s m meth c → jHp s0 cl D cA σ H locs → jLs L y.2.2.1 ls → (∀ H1 locs1, jHp s0 cl D cA σ1 H1 locs1 → W p l e R s m args below meth c H1 locs1 cells slots Q (F0 m pc' ls st')) → W p l e R s m args below meth c H locs cells slots Q (F0 m pc ls st)) : jW l s0 cl D cA d y pc L st σ Φ := by
  obtain ⟨r, σ', ⟨h1, h2⟩, h3⟩ := k
  rw [hz] at h1
  refine ⟨r, σ', ⟨h1, fun p e R s m args below meth c H locs ls n0 z0 hX hH hL q1 q2 q3 q4 => h p e R s m args below meth c H locs ls _ _ _ hX hH hL (fun H1 locs1 hH1 => ?_)⟩, h3⟩
  have := h2 p e R s m args below meth c H1 locs1 ls n0 z0 hX hH1 hL (by rw [hz]; exact q1) (by rw [hz]; exact q2) q3 q4
  rw [hz] at this
  exact this
/-- an instruction that makes a cell of n slots -/
theorem jW.al {c0 : jCell} {n pc' : Nat} {st' : List Value} (k : jW l s0 cl D cA d y pc' L st' (jnew σ c0 n) Φ)
    (h : ∀ (p : Program) (e : Env) (R : Room) (s : State) (m : MethodId) (args : Array Value) (below : List Frame) (meth : Method) (c : Code) (H : Heap) (locs : List Loc) (ls : Array Slot) (cells slots : Nat) (Q : State → Prop), cells + 1 ≤ R.cells → slots + n ≤ R.slots → jX s0 d y p R s m meth c → jHp s0 cl D cA σ H locs → jLs L y.2.2.1 ls → (∀ H1 locs1, jHp s0 cl D cA (jnew σ c0 n) H1 locs1 → W p l e R s m args below meth c H1 locs1 (cells + 1) (slots + n) Q (F0 m pc' ls st')) → W p l e R s m args below meth c H locs cells slots Q (F0 m pc ls st)) : jW l s0 cl D cA d y pc L st σ Φ := by
  obtain ⟨r, σ', ⟨h1, h2⟩, h3⟩ := k
  have e1 : (jnew σ c0 n).2.1 = σ.2.1 + 1 := rfl
  have e2 : (jnew σ c0 n).2.2 = σ.2.2 + n := rfl
  rw [e1, e2] at h1
  refine ⟨r, σ', ⟨⟨by omega, by omega⟩, fun p e R s m args below meth c H locs ls n0 z0 hX hH hL q1 q2 q3 q4 => h p e R s m args below meth c H locs ls _ _ _ (by omega) (by omega) hX hH hL (fun H1 locs1 hH1 => ?_)⟩, h3⟩
  have := h2 p e R s m args below meth c H1 locs1 ls n0 z0 hX hH1 hL (by rw [e1]; omega) (by rw [e2]; omega) q3 q4
  rw [e1, e2, show σ.2.1 + 1 - n0 = σ.2.1 - n0 + 1 by omega, show σ.2.2 + n - z0 = σ.2.2 - z0 + n by omega] at this
  exact this
/-- a store behind the law's start keeps what was there before -/
theorem jOld.put {H H1 : Heap} {a : Nat} (h : jOld s0 H) (ho : ∀ q : Nat, q ≠ a → H1[q]? = H[q]?) (ha : s0.heap.size ≤ a) : jOld s0 H1 := fun q hq => (ho q (by omega)).trans (h q hq)
theorem jOK.apart (F : jOK s0 cl D cA tb a0 ty) {U : State} (hW : s0.WarmedH U.vm) {ci : Nat} {q : vw_C} (hq : cl[ci]? = some q) (tyf : Nat → FieldType) (hty : ∀ k, k < q.2.2 → parseFieldDescriptor (q.2.1 k).2.2.1 = some (tyf k)) (hnm : ∀ a, a < q.2.2 → ∀ b, b < q.2.2 → a ≠ b → (q.2.1 a).2.1 ≠ (q.2.1 b).2.1) : ∀ a b, a < q.2.2 → b < q.2.2 → a ≠ b → (D.2 ci) a ≠ (D.2 ci) b := by
  intro a b ha hb hne
  obtain ⟨hS, -⟩ := F.kn hW hq
  obtain ⟨_, _, _, fa, hia, ea⟩ := hS a ha
  obtain ⟨_, _, _, fb, hib, eb⟩ := hS b hb
  rw [← ea, ← eb]
  refine u_apart (u_lays (F.lays hW hq #[]) (fun _ h => h) ha) (u_lays (F.lays hW hq #[]) (fun _ h => h) hb) hia hib ?_
  rw [(State.fieldFound?_type hia (hty a ha)).1, (State.fieldFound?_type hib (hty b hb)).1]
  exact hnm a ha b hb hne
/-- a class's table in order: types, names apart -/
def jTab (q : vw_C) (tyf : Nat → FieldType) : Prop := (∀ k, k < q.2.2 → parseFieldDescriptor (q.2.1 k).2.2.1 = some (tyf k)) ∧ ∀ a, a < q.2.2 → ∀ b, b < q.2.2 → a ≠ b → (q.2.1 a).2.1 ≠ (q.2.1 b).2.1
theorem jW.putf (F : jOK s0 cl D cA tb a0 ty) {ci k a n : Nat} {v : Nat → Value} (h : jFld cl tb y pc ci k .putfield) {q : vw_C} (hq : cl[ci]? = some q) (tyf : Nat → FieldType) (ht : jTab q tyf) (hfin : (q.2.1 k).2.2.2 = false) (ha : σ.1 a = some (ci, n, v)) (hB : s0.heap.size ≤ a) {w : Value} (hn : narrow (tyf k) w = w) (hf : fits (tyf k) w = true) {σ1 : jS} (hσ : jput σ a (ci, n, updV v k w) = σ1) {pc' : Nat} (hp : pc + 3 = pc') (kk : jW l s0 cl D cA d y pc' L st σ1 Φ) : jW l s0 cl D cA d y pc L (w :: .ref a :: st) σ Φ := by
  subst hp; subst hσ
  obtain ⟨index, ref, q', hd, hq', hk, hl, hs⟩ := h
  cases hq.symm.trans hq'
  refine jW.wr kk rfl fun p e R s m args below meth c H locs ls cells slots Q hX hH hL w1 => ?_
  obtain ⟨⟨hx, hb⟩, hml, hr, hown, hlk, hnm, hW, hfr, hlo⟩ := hX
  have hci := (F.2.1 ci q hq).1
  obtain ⟨hN, cell, q1, q2, q3, q4⟩ := hH.1.obj ha hci hq
  obtain ⟨hS, hfc, kC, hkC, hkind⟩ := F.kn hW hq
  obtain ⟨cf, kf, fi, f, hi, hsl⟩ := hS k hk
  have hlay := F.lays hW hq args _ (u_in_lay hk)
  unfold u_lay at hlay
  rw [if_neg (by rw [hfin]; decide)] at hlay
  have hst := (u_facts hfc hkC (u_lays (F.lays hW hq args) (fun _ h => h) hk) hi).1
  have h6 := u_store hfc hkC hkind hlay hi (ht.1 k hk) hn hf
  have hap := F.apart hW hq tyf ht.1 ht.2
  have hlt : f.slot < cell.slots.size := by rw [hsl]; exact k2_hasslot (q4 k (by omega))
  have hend : ∀ H' : Heap, H'[a]? = some (cell.setSlot f.slot w) → H'.size = H.size → (∀ q, q ≠ a → H'[q]? = H[q]?) → W p l e R s m args below meth c H' (locs ++ [⟨a, f.slot⟩]) cells slots Q (F0 m (pc + 3) ls st) := by
    intro H' e1 e2 e3
    rw [hsl] at e1
    refine w1 H' _ ⟨hH.1.put (Or.inl ⟨hci, q, hq, hN, ⟨_, e1, q2, q3, ?_⟩⟩) e2 e3, hH.2.1.put e3 hB, ?_⟩
    · exact t_set q4 (fun x z hx hz hne => hap x z (by omega) (by omega) hne) (by omega) w
    · intro x hx
      rcases List.mem_append.mp hx with h | h
      · exact hH.2.2 x h
      · rw [List.mem_singleton.mp h]; exact hB
  rcases hl with hl | ⟨host, hl⟩
  · exact W.putK hx hb (f := f) ⟨hown, F.word hW hl (Or.inl (by first | rfl | simp [Cond.onTables, Cond.keeps, Cond.steady])) args, ⟨_, _, _, F.same hW hs _ hi⟩, hst⟩ (by rw [q2]; exact h6) q1 q3 hlt rfl rfl hd hend
  · exact va_WputK hx hb (f := f) hown (va_Nw.use rfl (va_Nw.warmF hW (va_Nw.of rfl (F.1 _ hl)))) (F.same hW hs _ hi) hst (by rw [q2]; exact h6) q1 q3 hlt rfl rfl hd hend
theorem jW.putfF (F : jOK s0 cl D cA tb a0 ty) {ci k a n index : Nat} {v : Nat → Value} {q : vw_C} (hq : cl[ci]? = some q) (hd : decode y.2.1 pc = .ok (.putfield index, 3)) (hk : k < q.2.2) (hl : Cond.fieldLink y.1.cls index (q.2.1 k).1 (q.2.1 k).2.1 (q.2.1 k).2.2.1 ∈ tb) (tyf : Nat → FieldType) (ht : jTab q tyf) (hfin : (q.2.1 k).2.2.2 = true) (hin : y.1.name = "<init>") (hdecl : (q.2.1 k).1 = y.1.cls) (ha : σ.1 a = some (ci, n, v)) (hB : s0.heap.size ≤ a) {w : Value} (hn : narrow (tyf k) w = w) (hf : fits (tyf k) w = true) {σ1 : jS} (hσ : jput σ a (ci, n, updV v k w) = σ1) {pc' : Nat} (hp : pc + 3 = pc') (kk : jW l s0 cl D cA d y pc' L st σ1 Φ) : jW l s0 cl D cA d y pc L (w :: .ref a :: st) σ Φ := by
  subst hp; subst hσ
  refine jW.wr kk rfl fun p e R s m args below meth c H locs ls cells slots Q hX hH hL w1 => ?_
  obtain ⟨⟨hx, hb⟩, hml, hr, hown, hlk, hnm, hW, hfr, hlo⟩ := hX
  have hci := (F.2.1 ci q hq).1
  obtain ⟨hN, cell, q1, q2, q3, q4⟩ := hH.1.obj ha hci hq
  obtain ⟨hS, hfc, kC, hkC, hkind⟩ := F.kn hW hq
  obtain ⟨cf, kf, fi, f, hi, hsl⟩ := hS k hk
  have hlay := F.lays hW hq args _ (u_in_lay hk)
  unfold u_lay at hlay
  rw [if_pos hfin] at hlay
  have hst := (u_facts hfc hkC (u_lays (F.lays hW hq args) (fun _ h => h) hk) hi).1
  have hcf : m.cls = cf := by
    obtain ⟨_, _, c', _, _, _, -, -, hf', -, -, -, hown2, -⟩ := Cond.laysFinal_spec hlay
    have e1 : c' = cf := by have := hi.symm.trans hf'; simp at this; exact this.1.symm
    rw [hdecl] at hown2
    rw [← e1]; exact Option.some.inj (hown.symm.trans hown2)
  have h6 := u_fits hfc hkC hkind (Or.inr hlay) hi (ht.1 k hk) hn hf
  have hap := F.apart hW hq tyf ht.1 ht.2
  have hlt : f.slot < cell.slots.size := by rw [hsl]; exact k2_hasslot (q4 k (by omega))
  refine W.putFinK hx hb hown (F.word hW hl (Or.inl (by first | rfl | simp [Cond.onTables, Cond.keeps, Cond.steady])) args) hi hst hcf (hnm.trans hin) (by rw [q2]; exact h6) q1 q3 hlt rfl rfl hd fun H' e1 e2 e3 => ?_
  rw [hsl] at e1
  refine w1 H' _ ⟨hH.1.put (Or.inl ⟨hci, q, hq, hN, ⟨_, e1, q2, q3, ?_⟩⟩) e2 e3, hH.2.1.put e3 hB, ?_⟩
  · exact t_set q4 (fun x z hx hz hne => hap x z (by omega) (by omega) hne) (by omega) w
  · intro x hx
    rcases List.mem_append.mp hx with h | h
    · exact hH.2.2 x h
    · rw [List.mem_singleton.mp h]; exact hB
/-- new -/
theorem jW.new (F : jOK s0 cl D cA tb a0 ty) {ci index : Nat} {q : vw_C} (hq : cl[ci]? = some q) (hd : decode y.2.1 pc = .ok (.new index, 3)) (h1 : Cond.classLink y.1.cls index q.1 ∈ tb) (h2 : Cond.instantiable q.1 q.2.2 ∈ tb) (h3 : Cond.initialized q.1 ∈ tb) (tyf : Nat → FieldType) (ht : jTab q tyf) {v : Nat → Value} (hv : ∀ k, k < q.2.2 → defaultValue (tyf k) = v k) {a : Nat} (ha : σ.2.1 = a) {σ1 : jS} (hσ : jnew σ (ci, q.2.2, v) q.2.2 = σ1) {pc' : Nat} (hp : pc + 3 = pc') (hB : s0.heap.size ≤ σ.2.1) (kk : jW l s0 cl D cA d y pc' L (.ref a :: st) σ1 Φ) : jW l s0 cl D cA d y pc L st σ Φ := by
  subst hp; subst hσ; subst ha
  refine jW.al kk fun p e R s m args below meth c H locs ls cells slots Q r1 r2 hX hH hL w1 => ?_
  obtain ⟨⟨hx, hb⟩, hml, hr, hown, hlk, hnm, hW, hfr, hlo⟩ := hX
  have hci := (F.2.1 ci q hq).1
  have hKn := F.kn hW hq
  have hg : ∀ w, (w = Cond.classLink y.1.cls index q.1 ∨ w = Cond.instantiable q.1 q.2.2 ∨ w = Cond.initialized q.1) → jGood w := by
    rintro w (rfl | rfl | rfl) <;> exact Or.inl (by first | rfl | simp [Cond.onTables, Cond.keeps, Cond.steady])
  refine W.newcK hx hb hown (F.word hW h1 (hg _ (Or.inl rfl)) args) (F.word hW h2 (hg _ (Or.inr (Or.inl rfl))) args) (F.word hW h3 (hg _ (Or.inr (Or.inr rfl))) args) rfl hd r1 r2 hKn.2.1 hH.1.1 fun H1 kC hkC e1 z1 o1 => ?_
  refine w1 H1 locs ⟨hH.1.new (Or.inl ⟨hci, q, hq, rfl, (u_born tyf (F.lays hW hq args) (fun _ h => h) hKn hkC e1 ht.1).to hv⟩) z1 o1, fun x hx => (o1 x (by omega)).trans (hH.2.1 x hx), hH.2.2⟩
/-- an array's elements -/
theorem jW.iald (F : jOK s0 cl D cA tb a0 ty) {t a n : Nat} {v : Nat → Value} (hd : decode y.2.1 pc = .ok (.iaload, 1)) (h1000 : 1000 ≤ t) (hty : ty t = .int) (ha : σ.1 a = some (t, n, v)) {i : Int32} (hi : vp_in i n) {w : Value} (hw : v i.toNatClampNeg = w) {pc' : Nat} (hp : pc + 1 = pc') (kk : jW l s0 cl D cA d y pc' L (w :: st) σ Φ) : jW l s0 cl D cA d y pc L (.int i :: .ref a :: st) σ Φ := by
  subst hp; subst hw
  refine kk.rd fun p e R s m args below meth c H locs ls cells slots Q hX hH hL w => ?_
  have hlt : i.toNatClampNeg < n := Nat.not_le.mp fun q => hi (Or.inr q)
  have hA := arrOfT_moved hX.2.2.2.2.2.2.1.alike (F.2.2 t h1000).1
  rw [hty] at hA
  exact W.iald hX.1.1 hX.1.2 (hH.1.arr ha h1000) (hA n v) (fun q => by cases q) (by rw [arrV_size]; exact hi) (by rw [arrV_read _ _ hlt]) rfl rfl hd (w ls hL)
theorem jW.alen (F : jOK s0 cl D cA tb a0 ty) {t a n : Nat} {v : Nat → Value} (hd : decode y.2.1 pc = .ok (.arraylength, 1)) (h1000 : 1000 ≤ t) (ha : σ.1 a = some (t, n, v)) {i : Int32} (hi : n.toInt32 = i) {pc' : Nat} (hp : pc + 1 = pc') (kk : jW l s0 cl D cA d y pc' L (.int i :: st) σ Φ) : jW l s0 cl D cA d y pc L (.ref a :: st) σ Φ := by
  subst hp; subst hi
  refine kk.rd fun p e R s m args below meth c H locs ls cells slots Q hX hH hL w => ?_
  have hA := arrOfT_moved hX.2.2.2.2.2.2.1.alike (F.2.2 t h1000).1
  exact W.alen hX.1.1 hX.1.2 (hH.1.arr ha h1000) (hA n v) (by rw [arrV_size]) rfl rfl hd (w ls hL)
theorem jW.iast (F : jOK s0 cl D cA tb a0 ty) {t a n : Nat} {v : Nat → Value} (hd : decode y.2.1 pc = .ok (.iastore, 1)) (h1000 : 1000 ≤ t) (hty : ty t = .int) (ha : σ.1 a = some (t, n, v)) (hB : s0.heap.size ≤ a) {i x : Int32} (hi : vp_in i n) {σ1 : jS} (hσ : jput σ a (t, n, updV v i.toNatClampNeg (.int x)) = σ1) {pc' : Nat} (hp : pc + 1 = pc') (kk : jW l s0 cl D cA d y pc' L st σ1 Φ) : jW l s0 cl D cA d y pc L (.int x :: .int i :: .ref a :: st) σ Φ := by
  subst hp; subst hσ
  refine jW.wr kk rfl fun p e R s m args below meth c H locs ls cells slots Q hX hH hL w1 => ?_
  have hA := arrOfT_moved hX.2.2.2.2.2.2.1.alike (F.2.2 t h1000).1
  rw [hty] at hA
  refine W.iast hX.1.1 hX.1.2 (hH.1.arr ha h1000) (hA n v) (fun q => by cases q) (by rw [arrV_size]; exact hi) rfl rfl hd fun H1 e1 z oq => ?_
  refine w1 H1 _ ⟨hH.1.put (Or.inr ⟨h1000, by rw [e1, arrV_store]⟩) z oq, hH.2.1.put oq hB, ?_⟩
  intro x hx
  rcases List.mem_append.mp hx with h | h
  · exact hH.2.2 x h
  · rw [List.mem_singleton.mp h]; exact hB
/-- a new array of numbers -/
theorem jW.newa (F : jOK s0 cl D cA tb a0 ty) {t : Nat} {atype : ArrayType} (hd : decode y.2.1 pc = .ok (.newarray atype, 2)) (h1000 : 1000 ≤ t) (hty : newarray.typeOf atype = ty t) (hnm : ∀ U : State, va_RA U (cA t) (ty t) → U.vm.findClass ("[" ++ (newarray.typeOf atype).toString) = some (cA t)) (h1 : Cond.arrayClass (newarray.typeOf atype) ∈ tb) {i : Int32} {N : Nat} (hi : ¬ i < 0) (hN : i.toNatClampNeg = N) (hb8 : N * componentBytes (newarray.typeOf atype) ≤ 536870912) {a : Nat} (ha : σ.2.1 = a) {v : Nat → Value} (hv : (fun _ => defaultValue (newarray.typeOf atype)) = v) {σ1 : jS} (hσ : jnew σ (t, N, v) N = σ1) {pc' : Nat} (hp : pc + 2 = pc') (hB : s0.heap.size ≤ σ.2.1) (kk : jW l s0 cl D cA d y pc' L (.ref a :: st) σ1 Φ) : jW l s0 cl D cA d y pc L (.int i :: st) σ Φ := by
  subst hp; subst hσ; subst ha; subst hv
  refine jW.al kk fun p e R s m args below meth c H locs ls cells slots Q r1 r2 hX hH hL w1 => ?_
  have hW := hX.2.2.2.2.2.2.1
  have hRA := hnm s ((F.2.2 t h1000).2.moved hW.alike)
  refine va_newaK hX.1.1 hX.1.2 (F.word hW h1 (Or.inr ⟨_, rfl⟩) args) rfl hd rfl hi hN hb8 r1 r2 hH.1.1 fun H1 cA1 e1 z1 o1 hAr hNm => ?_
  cases hRA.symm.trans hNm
  exact w1 H1 locs ⟨hH.1.new (Or.inr ⟨h1000, e1⟩) z1 o1, fun x hx => (o1 x (by omega)).trans (hH.2.1 x hx), hH.2.2⟩
end JH
