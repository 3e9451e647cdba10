/-! THE MODEL'S STATE: its int fields by number, its arrays by field and index -/
abbrev MS : Type := (Nat → Int32) × (Nat → Nat → Int32)
def mI (m : MS) (k : Nat) (x : Int32) : MS := (fun j => if j = k then x else m.1 j, m.2)
def mA (m : MS) (k i : Nat) (x : Int32) : MS := (m.1, fun j q => if j = k ∧ q = i then x else m.2 j q)
theorem mI_at (m : MS) (k : Nat) (x : Int32) : (mI m k x).1 k = x := if_pos rfl
theorem mI_ne {m : MS} {j k : Nat} {x : Int32} (h : j ≠ k) : (mI m k x).1 j = m.1 j := if_neg h
theorem mA_at (m : MS) (k i : Nat) (x : Int32) : (mA m k i x).2 k i = x := if_pos ⟨rfl, rfl⟩
theorem mA_ne {m : MS} {j k i q : Nat} {x : Int32} (h : j ≠ k) : (mA m k i x).2 j q = m.2 j q := if_neg (fun e => h e.1)
theorem mA_ni {m : MS} {j k i q : Nat} {x : Int32} (h : q ≠ i) : (mA m k i x).2 j q = m.2 j q := if_neg (fun e => h e.2)
/-- how long the array of field k is; 0: no array -/
def mLen : Nat → Nat := fun k => match k with
  | 1 => 3000
  | 2 => 20
  | 7 => 48000
  | 8 => 3000
  | 9 => 12100
  | 13 => 3300
  | 14 => 3300
  | 15 => 3300
  | 16 => 3300
  | 17 => 3300
  | 18 => 3300
  | 19 => 3300
  | 20 => 3300
  | 21 => 3300
  | 22 => 3300
  | 23 => 3300
  | 24 => 3300
  | 25 => 3300
  | 26 => 3300
  | 27 => 3300
  | 29 => 40
  | 37 => 3300
  | 38 => 3300
  | 41 => 700
  | 42 => 700
  | 43 => 700
  | 44 => 700
  | 45 => 700
  | 46 => 700
  | 52 => 6
  | 53 => 6
  | _ => 0
/-- launch, start, classes, array classes; the object's address, its arrays' addresses; the cells at the start of a call -/
abbrev MX : Type := Launch × State × va_G × (Nat → ClassId) × (Nat × (Nat → Nat)) × jS
abbrev mo (X : MX) : Nat := X.2.2.2.2.1.1
abbrev ar (X : MX) : Nat → Nat := X.2.2.2.2.1.2
abbrev mF (X : MX) (a0 : Array Value) : Prop := jOK X.2.1 jcl X.2.2.1 X.2.2.2.1 lw_tbl a0 jty
def mKs : List Nat := [8, 1101, 1102, 1107, 1108, 1109, 1113, 1114, 1115, 1116, 1117, 1118, 1119, 1120, 1121, 1122, 1123, 1124, 1125, 1126, 1127, 1129, 1137, 1138, 1141, 1142, 1143, 1144, 1145, 1146, 1152, 1153]
/-- the cells hold the model m -/
def MV (X : MX) (m : MS) (σ : jS) : Prop := jI X.2.1.heap.size σ ∧ True ∧ True ∧ (∃ v : Nat → Value, σ.1 (mo X) = some (8, 54, v) ∧ (∀ k, k < 54 → v k = if mLen k = 0 then .int (m.1 k) else .ref (ar X k)) ∧ X.2.1.heap.size ≤ mo X) ∧ ∀ k, k < 54 → mLen k ≠ 0 → ∃ w : Nat → Value, σ.1 (ar X k) = some (1100 + k, mLen k, w) ∧ (∀ i, i < mLen k → w i = .int (m.2 k i)) ∧ X.2.1.heap.size ≤ ar X k
/-- nothing else than the model's cells has changed, and none is new -/
def FR (σ σ' : jS) : Prop := jK mKs σ σ' ∧ σ'.2 = σ.2
theorem FR.rfl {σ : jS} : FR σ σ := ⟨jK.rfl, by trivial⟩
theorem FR.trans {σ σ1 σ2 : jS} (h1 : FR σ σ1) (h2 : FR σ1 σ2) : FR σ σ2 := ⟨h1.1.trans h2.1, h2.2.trans h1.2⟩
def mQ (X : MX) (Φ : Option Value → MS → Prop) (σ : jS) : Option Value → jS → Prop := fun r σ' => FR σ σ' ∧ ∃ m, MV X m σ' ∧ Φ r m
theorem mQ.up {X : MX} {Φ : Option Value → MS → Prop} {d : Nat} {y : jM} {pc : Nat} {L : jL} {st : List Value} {σ σ1 : jS} (h : FR σ σ1) (k : jW X.1 X.2.1 jcl X.2.2.1 X.2.2.2.1 d y pc L st σ1 (mQ X Φ σ1)) : jW X.1 X.2.1 jcl X.2.2.1 X.2.2.2.1 d y pc L st σ1 (mQ X Φ σ) := k.mono (fun _ _ q => ⟨h.trans q.1, q.2⟩)
/-- THE CONTRACT over the model's state -/
def mE (X : MX) (k : Nat) (z : jM) (av : List Value) (m : MS) (Φ : Option Value → MS → Prop) : Prop := ∀ (d : Nat) (σ : jS), MV X m σ → jE X.1 X.2.1 jcl X.2.2.1 X.2.2.2.1 (d + k) z av σ (mQ X Φ σ)
def iP (N : Int32 → MS → Prop) : Option Value → MS → Prop := fun r m => ∃ x, r = some (.int x) ∧ N x m
def vP (N : MS → Prop) : Option Value → MS → Prop := fun r m => r = none ∧ N m
def mZ (x : Int32) : Prop := x = 0 ∨ x = 1
theorem mZ.n {x : Int32} (h : mZ x) : narrow .boolean (.int x) = .int x := by
  rcases h with h | h
  · subst h; rfl
  · subst h; rfl
theorem mZ.f {x : Int32} (h : mZ x) : fits .boolean (.int x) = true := by
  rcases h with h | h
  · subst h; rfl
  · subst h; rfl
theorem mE.mono {X : MX} {k : Nat} {z : jM} {av : List Value} {m : MS} {Φ Ψ : Option Value → MS → Prop} (h : mE X k z av m Φ) (hq : ∀ r m, Φ r m → Ψ r m) : mE X k z av m Ψ := fun d σ hV => (h d σ hV).mono (fun r σ' ⟨q0, m', q1, q2⟩ => ⟨q0, m', q1, hq r m' q2⟩)
theorem mE.i {X : MX} {k : Nat} {z : jM} {av : List Value} {m m1 : MS} {x : Int32} {N : Int32 → MS → Prop} (h : mE X k z av m (fun r m' => r = some (.int x) ∧ m' = m1)) (hN : N x m1) : mE X k z av m (iP N) := h.mono (fun r m' q => ⟨x, q.1, q.2 ▸ hN⟩)
theorem mE.v {X : MX} {k : Nat} {z : jM} {av : List Value} {m m1 : MS} {N : MS → Prop} (h : mE X k z av m (fun r m' => r = none ∧ m' = m1)) (hN : N m1) : mE X k z av m (vP N) := h.mono (fun r m' q => ⟨q.1, q.2 ▸ hN⟩)
theorem MV.cl {X : MX} {m : MS} {σ : jS} (h : MV X m σ) : ∃ v : Nat → Value, σ.1 (mo X) = some (8, 54, v) := by
  obtain ⟨_, _, _, ⟨v, h1, _⟩, _⟩ := h
  exact ⟨v, h1⟩
theorem mK8 {t : Nat} (h : t = 8) : t ∈ mKs := by subst h; decide
theorem mKa {k : Nat} (hk : k < 54) (h : mLen k ≠ 0) : 1100 + k ∈ mKs := by
  revert k
  decide +kernel
section MOROW
variable {X : MX} {a0 : Array Value} {d : Nat} {y : jM} {pc : Nat} {L : jL} {st : List Value} {σ : jS} {Φ : Option Value → jS → Prop} {m : MS}
theorem jW.mgi (F : mF X a0) (hV : MV X m σ) {k : Nat} (h : jFld jcl lw_tbl y pc 8 k .getfield) (hk : k < 54 ∧ mLen k = 0) {pc' : Nat} (hp : pc + 3 = pc') (kk : jW X.1 X.2.1 jcl X.2.2.1 X.2.2.2.1 d y pc' L (.int (m.1 k) :: st) σ Φ) : jW X.1 X.2.1 jcl X.2.2.1 X.2.2.2.1 d y pc L (.ref (mo X) :: st) σ Φ := by
  obtain ⟨_, _, _, ⟨v, h1, h2, _⟩, _⟩ := hV
  exact jW.getf F h h1 ((h2 k hk.1).trans (if_pos hk.2)) hp kk
theorem jW.mga (F : mF X a0) (hV : MV X m σ) {k : Nat} (h : jFld jcl lw_tbl y pc 8 k .getfield) (hk : k < 54 ∧ mLen k ≠ 0) {pc' : Nat} (hp : pc + 3 = pc') (kk : jW X.1 X.2.1 jcl X.2.2.1 X.2.2.2.1 d y pc' L (.ref (ar X k) :: st) σ Φ) : jW X.1 X.2.1 jcl X.2.2.1 X.2.2.2.1 d y pc L (.ref (mo X) :: st) σ Φ := by
  obtain ⟨_, _, _, ⟨v, h1, h2, _⟩, _⟩ := hV
  exact jW.getf F h h1 ((h2 k hk.1).trans (if_neg hk.2)) hp kk
theorem MV.putI (hV : MV X m σ) {k : Nat} {x : Int32} (hk : k < 54 ∧ mLen k = 0) {v : Nat → Value} (hv : σ.1 (mo X) = some (8, 54, v)) : MV X (mI m k x) (jput σ (mo X) (8, 54, updV v k (.int x))) := by
  obtain ⟨h0, h00, h000, ⟨v', h1, h2, h3⟩, h4⟩ := hV
  rw [hv] at h1
  cases h1
  refine ⟨h0.put hv, trivial, trivial, ⟨_, jput_at _ _ _, fun j hj => ?_, h3⟩, fun j hj hl => ?_⟩
  · by_cases e : j = k
    · subst e
      rw [updV_at, if_pos hk.2, mI_at]
    · rw [updV_ne e, h2 j hj, mI_ne e]
  · obtain ⟨w, q1, q2, q3⟩ := h4 j hj hl
    exact ⟨w, (jput_ne (jne q1 hv (by omega))).trans q1, q2, q3⟩
theorem jW.mpi {Ψ : Option Value → MS → Prop} (F : mF X a0) (hV : MV X m σ) {k : Nat} {x : Int32} (h : jFld jcl lw_tbl y pc 8 k .putfield) (hk : k < 54 ∧ mLen k = 0) (hfin : (jQ_Mo.2.1 k).2.2.2 = false) (hn : narrow (jF_Mo k) (.int x) = .int x) (hf : fits (jF_Mo k) (.int x) = true) {pc' : Nat} (hp : pc + 3 = pc') (kk : ∀ σ1, MV X (mI m k x) σ1 → jW X.1 X.2.1 jcl X.2.2.1 X.2.2.2.1 d y pc' L st σ1 (mQ X Ψ σ1)) : jW X.1 X.2.1 jcl X.2.2.1 X.2.2.2.1 d y pc L (.int x :: .ref (mo X) :: st) σ (mQ X Ψ σ) := by
  have hV0 := hV
  obtain ⟨_, _, _, ⟨v, h1, h2, h3⟩, _⟩ := hV
  exact jW.putf F h rfl jF_Mo jTab_Mo hfin h1 h3 hn hf rfl hp (mQ.up ⟨jK.put h1 (mK8 rfl), rfl⟩ (kk _ (hV0.putI hk h1)))
theorem MV.putA (hV : MV X m σ) {k i : Nat} {x : Int32} (hk : k < 54 ∧ mLen k ≠ 0) (hi : i < mLen k) {w : Nat → Value} (hw : σ.1 (ar X k) = some (1100 + k, mLen k, w)) : MV X (mA m k i x) (jput σ (ar X k) (1100 + k, mLen k, updV w i (.int x))) := by
  obtain ⟨h0, h00, h000, ⟨v, h1, h2, h3⟩, h4⟩ := hV
  obtain ⟨w0, p1, p2, p3⟩ := h4 k hk.1 hk.2
  rw [hw] at p1
  cases p1
  refine ⟨h0.put hw, trivial, trivial, ⟨v, (jput_ne (jne h1 hw (by omega))).trans h1, h2, h3⟩, fun j hj hl => ?_⟩
  by_cases e : j = k
  · subst e
    refine ⟨_, jput_at _ _ _, fun q hq => ?_, p3⟩
    by_cases e : q = i
    · subst e
      rw [updV_at, mA_at]
    · rw [updV_ne e, p2 q hq, mA_ni e]
  · obtain ⟨w1, q1, q2, q3⟩ := h4 j hj hl
    exact ⟨w1, (jput_ne (jne q1 hw (by omega))).trans q1, fun q hq => (q2 q hq).trans (by rw [mA_ne e]), q3⟩
theorem vp_in_lt {i : Int32} {n : Nat} (h : vp_in i n) : i.toNatClampNeg < n := Nat.not_le.mp (fun q => h (Or.inr q))
theorem jW.mla (F : mF X a0) (hV : MV X m σ) {k : Nat} {i : Int32} (hd : decode y.2.1 pc = .ok (.iaload, 1)) (hk : k < 54 ∧ mLen k ≠ 0) (hty : jty (1100 + k) = .int) (hi : vp_in i (mLen k)) {pc' : Nat} (hp : pc + 1 = pc') (kk : jW X.1 X.2.1 jcl X.2.2.1 X.2.2.2.1 d y pc' L (.int (m.2 k i.toNatClampNeg) :: st) σ Φ) : jW X.1 X.2.1 jcl X.2.2.1 X.2.2.2.1 d y pc L (.int i :: .ref (ar X k) :: st) σ Φ := by
  obtain ⟨_, _, _, _, h4⟩ := hV
  obtain ⟨w, q1, q2, q3⟩ := h4 k hk.1 hk.2
  exact jW.iald F hd (by omega) hty q1 hi (q2 _ (vp_in_lt hi)) hp kk
theorem jW.mlb (F : mF X a0) (hV : MV X m σ) {k : Nat} {i : Int32} (hd : decode y.2.1 pc = .ok (.baload, 1)) (hk : k < 54 ∧ mLen k ≠ 0) (hty : jty (1100 + k) = .byte) (hi : vp_in i (mLen k)) {pc' : Nat} (hp : pc + 1 = pc') (kk : jW X.1 X.2.1 jcl X.2.2.1 X.2.2.2.1 d y pc' L (.int (m.2 k i.toNatClampNeg) :: st) σ Φ) : jW X.1 X.2.1 jcl X.2.2.1 X.2.2.2.1 d y pc L (.int i :: .ref (ar X k) :: st) σ Φ := by
  obtain ⟨_, _, _, _, h4⟩ := hV
  obtain ⟨w, q1, q2, q3⟩ := h4 k hk.1 hk.2
  exact jW.bald F hd (by omega) hty q1 hi (q2 _ (vp_in_lt hi)) hp kk
theorem jW.mlz (F : mF X a0) (hV : MV X m σ) {k : Nat} {i : Int32} (hd : decode y.2.1 pc = .ok (.baload, 1)) (hk : k < 54 ∧ mLen k ≠ 0) (hty : jty (1100 + k) = .boolean) (hi : vp_in i (mLen k)) {pc' : Nat} (hp : pc + 1 = pc') (kk : jW X.1 X.2.1 jcl X.2.2.1 X.2.2.2.1 d y pc' L (.int (m.2 k i.toNatClampNeg) :: st) σ Φ) : jW X.1 X.2.1 jcl X.2.2.1 X.2.2.2.1 d y pc L (.int i :: .ref (ar X k) :: st) σ Φ := by
  obtain ⟨_, _, _, _, h4⟩ := hV
  obtain ⟨w, q1, q2, q3⟩ := h4 k hk.1 hk.2
  exact jW.zald F hd (by omega) hty q1 hi (q2 _ (vp_in_lt hi)) hp kk
theorem jW.msa {Ψ : Option Value → MS → Prop} (F : mF X a0) (hV : MV X m σ) {k : Nat} {i x : Int32} (hd : decode y.2.1 pc = .ok (.iastore, 1)) (hk : k < 54 ∧ mLen k ≠ 0) (hty : jty (1100 + k) = .int) (hi : vp_in i (mLen k)) {pc' : Nat} (hp : pc + 1 = pc') (kk : ∀ σ1, MV X (mA m k i.toNatClampNeg x) σ1 → jW X.1 X.2.1 jcl X.2.2.1 X.2.2.2.1 d y pc' L st σ1 (mQ X Ψ σ1)) : jW X.1 X.2.1 jcl X.2.2.1 X.2.2.2.1 d y pc L (.int x :: .int i :: .ref (ar X k) :: st) σ (mQ X Ψ σ) := by
  have hV0 := hV
  obtain ⟨_, _, _, _, h4⟩ := hV
  obtain ⟨w, q1, q2, q3⟩ := h4 k hk.1 hk.2
  exact jW.iast F hd (by omega) hty q1 q3 hi rfl hp (mQ.up ⟨jK.put q1 (mKa hk.1 hk.2), rfl⟩ (kk _ (hV0.putA hk (vp_in_lt hi) q1)))
theorem jW.msb {Ψ : Option Value → MS → Prop} (F : mF X a0) (hV : MV X m σ) {k : Nat} {i x : Int32} (hd : decode y.2.1 pc = .ok (.bastore, 1)) (hk : k < 54 ∧ mLen k ≠ 0) (hty : jty (1100 + k) = .byte) (hi : vp_in i (mLen k)) {pc' : Nat} (hp : pc + 1 = pc') (kk : ∀ σ1, MV X (mA m k i.toNatClampNeg x.toInt8.toInt32) σ1 → jW X.1 X.2.1 jcl X.2.2.1 X.2.2.2.1 d y pc' L st σ1 (mQ X Ψ σ1)) : jW X.1 X.2.1 jcl X.2.2.1 X.2.2.2.1 d y pc L (.int x :: .int i :: .ref (ar X k) :: st) σ (mQ X Ψ σ) := by
  have hV0 := hV
  obtain ⟨_, _, _, _, h4⟩ := hV
  obtain ⟨w, q1, q2, q3⟩ := h4 k hk.1 hk.2
  exact jW.bast F hd (by omega) hty q1 q3 hi rfl rfl hp (mQ.up ⟨jK.put q1 (mKa hk.1 hk.2), rfl⟩ (kk _ (hV0.putA hk (vp_in_lt hi) q1)))
theorem jW.msz {Ψ : Option Value → MS → Prop} (F : mF X a0) (hV : MV X m σ) {k : Nat} {i x : Int32} (hd : decode y.2.1 pc = .ok (.bastore, 1)) (hk : k < 54 ∧ mLen k ≠ 0) (hty : jty (1100 + k) = .boolean) (hi : vp_in i (mLen k)) {pc' : Nat} (hp : pc + 1 = pc') (kk : ∀ σ1, MV X (mA m k i.toNatClampNeg (x &&& 1)) σ1 → jW X.1 X.2.1 jcl X.2.2.1 X.2.2.2.1 d y pc' L st σ1 (mQ X Ψ σ1)) : jW X.1 X.2.1 jcl X.2.2.1 X.2.2.2.1 d y pc L (.int x :: .int i :: .ref (ar X k) :: st) σ (mQ X Ψ σ) := by
  have hV0 := hV
  obtain ⟨_, _, _, _, h4⟩ := hV
  obtain ⟨w, q1, q2, q3⟩ := h4 k hk.1 hk.2
  exact jW.zast F hd (by omega) hty q1 q3 hi rfl rfl hp (mQ.up ⟨jK.put q1 (mKa hk.1 hk.2), rfl⟩ (kk _ (hV0.putA hk (vp_in_lt hi) q1)))
end MOROW
theorem jW.callVe {l : Launch} {s0 : State} {cl : List vw_C} {D : va_G} {cA : Nat → ClassId} {d : Nat} {y : jM} {pc : Nat} {L : jL} {st : List Value} {σ : jS} {Φ : Option Value → jS → Prop} {tb : List Cond} {a0 : Array Value} {ty : Nat → FieldType} (F : jOK s0 cl D cA tb a0 ty) {z : jM} {index n b ci N : Nat} {q : vw_C} {As : List Value} {Ψ : Option Value → jS → Prop} (hE : jE l s0 cl D cA d z (.ref b :: As) σ Ψ) (hd : decode y.2.1 pc = .ok (.invokevirtual index, 3)) (hc : jCan tb z n) (hl : Cond.methodLink y.1.cls index z.1 ∈ tb) (hs : Cond.instanceMethod z.1 ∈ tb) (hb0 : ∃ v, σ.1 b = some (ci, N, v)) (hq : cl[ci]? = some q) (hsel : Cond.selects q.1 z.1 z.1 ∈ tb) (hn : As.length = n) {st' : List Value} (hst : st' = As.reverse ++ .ref b :: st) (hcat : (st.map fun v => v.category).sum ≤ 8) {pc' : Nat} (hp : pc + 3 = pc') (kk : ∀ r σ1, Ψ r σ1 → jW l s0 cl D cA (d + 1) y pc' L (r.toList ++ st) σ1 Φ) : jW l s0 cl D cA (d + 1) y pc L st' σ Φ := by
  obtain ⟨v, hv⟩ := hb0
  exact jW.callV F hE hd hc hl hs hv hq hsel hn hst hcat hp kk
theorem i32_of {x z : Int32} (h : x.toInt = z.toInt) : x = z := Int32.toInt_inj.mp h
section MOSW
variable {l : Launch} {s0 : State} {cl : List vw_C} {D : va_G} {cA : Nat → ClassId} {d : Nat} {y : jM} {pc : Nat} {L : jL} {st : List Value} {σ : jS} {Φ : Option Value → jS → Prop} {x : Int32} {lo hi : Int}
theorem jW.sw (kt : x.toInt < lo ∨ hi < x.toInt → jW l s0 cl D cA d y pc L (.int x :: st) σ Φ) (kf : ¬ (x.toInt < lo ∨ hi < x.toInt) → jW l s0 cl D cA d y pc L (.int x :: st) σ Φ) : jW l s0 cl D cA d y pc L (.int x :: st) σ Φ := by
  by_cases h : x.toInt < lo ∨ hi < x.toInt
  · exact kt h
  · exact kf h
theorem jW.swc (v : Int32) (c : ¬ (x.toInt < lo ∨ hi < x.toInt)) (hv : v.toInt = lo) (kt : x = v → jW l s0 cl D cA d y pc L (.int x :: st) σ Φ) (kf : ¬ (x.toInt < lo + 1 ∨ hi < x.toInt) → jW l s0 cl D cA d y pc L (.int x :: st) σ Φ) : jW l s0 cl D cA d y pc L (.int x :: st) σ Φ := by
  by_cases h : x = v
  · exact kt h
  · refine kf (fun q => ?_)
    have h2 : x.toInt ≠ v.toInt := fun e => h (i32_of e)
    omega
theorem sw_last {v : Int32} (c : ¬ (x.toInt < lo ∨ hi < x.toInt)) (h1 : v.toInt = lo) (h2 : v.toInt = hi) : x = v := i32_of (by omega)
theorem jW.tableJ {dflt : Int} {offs : Array Int} {len : Nat} {z : Int32} {off : Int} (hd : decode y.2.1 pc = .ok (.tableswitch dflt lo hi offs, len)) (e : x = z) (h1 : ¬ z.toInt < lo) (h2 : ¬ hi < z.toInt) (ho : offs[(z.toInt - lo).toNat]? = some off) (tgt : Nat) (ht : (pc : Int) + off = (tgt : Int)) (k : jW l s0 cl D cA d y tgt L st σ Φ) : jW l s0 cl D cA d y pc L (.int x :: st) σ Φ := by
  subst e
  exact jW.tableIn hd h1 h2 ho tgt ht k
end MOSW
