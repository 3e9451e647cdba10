section JM2
variable {l : Launch} {s0 : State} {cl : List vw_C} {D : va_G} {cA : Nat → ClassId} {tb : List Cond} {a0 : Array Value} {ty : Nat → FieldType} {d : Nat} {y : jM} {pc : Nat} {L : jL} {st : List Value} {σ : jS} {Φ : Option Value → jS → Prop}

theorem jW.bald (F : jOK s0 cl D cA tb a0 ty) {t a n : Nat} {v : Nat → Value} (hd : decode y.2.1 pc = .ok (.baload, 1)) (h1000 : 1000 ≤ t) (hty : ty t = .byte) (ha : σ.1 a = some (t, n, v)) {i : Int32} (hi : vp_in i n) {w : Value} (hw : v i.toNatClampNeg = w) {pc' : Nat} (hp : pc + 1 = pc') (kk : jW l s0 cl D cA d y pc' L (w :: st) σ Φ) : jW l s0 cl D cA d y pc L (.int i :: .ref a :: st) σ Φ := by
  subst hp; subst hw
  refine kk.rd fun p e R s m args below meth c H locs ls cells slots Q hX hH hL w => ?_
  have hlt : i.toNatClampNeg < n := Nat.not_le.mp fun q => hi (Or.inr q)
  have hA := arrOfT_moved hX.2.2.2.2.2.2.1.alike (F.2.2 t h1000).1
  rw [hty] at hA
  exact W.bald hX.1.1 hX.1.2 (hH.1.arr ha h1000) (hA n v) (fun q => by cases q) (by rw [arrV_size]; exact hi) (by rw [arrV_read _ _ hlt]) rfl rfl hd (w ls hL)

theorem jW.zald (F : jOK s0 cl D cA tb a0 ty) {t a n : Nat} {v : Nat → Value} (hd : decode y.2.1 pc = .ok (.baload, 1)) (h1000 : 1000 ≤ t) (hty : ty t = .boolean) (ha : σ.1 a = some (t, n, v)) {i : Int32} (hi : vp_in i n) {w : Value} (hw : v i.toNatClampNeg = w) {pc' : Nat} (hp : pc + 1 = pc') (kk : jW l s0 cl D cA d y pc' L (w :: st) σ Φ) : jW l s0 cl D cA d y pc L (.int i :: .ref a :: st) σ Φ := by
  subst hp; subst hw
  refine kk.rd fun p e R s m args below meth c H locs ls cells slots Q hX hH hL w => ?_
  have hlt : i.toNatClampNeg < n := Nat.not_le.mp fun q => hi (Or.inr q)
  have hA := arrOfT_moved hX.2.2.2.2.2.2.1.alike (F.2.2 t h1000).1
  rw [hty] at hA
  exact W.zald hX.1.1 hX.1.2 (hH.1.arr ha h1000) (hA n v) (fun q => by cases q) (by rw [arrV_size]; exact hi) (by rw [arrV_read _ _ hlt]) rfl rfl hd (w ls hL)

theorem jW.lald (F : jOK s0 cl D cA tb a0 ty) {t a n : Nat} {v : Nat → Value} (hd : decode y.2.1 pc = .ok (.laload, 1)) (h1000 : 1000 ≤ t) (hty : ty t = .long) (ha : σ.1 a = some (t, n, v)) {i : Int32} (hi : vp_in i n) {w : Value} (hw : v i.toNatClampNeg = w) {pc' : Nat} (hp : pc + 1 = pc') (kk : jW l s0 cl D cA d y pc' L (w :: st) σ Φ) : jW l s0 cl D cA d y pc L (.int i :: .ref a :: st) σ Φ := by
  subst hp; subst hw
  refine kk.rd fun p e R s m args below meth c H locs ls cells slots Q hX hH hL w => ?_
  have hlt : i.toNatClampNeg < n := Nat.not_le.mp fun q => hi (Or.inr q)
  have hA := arrOfT_moved hX.2.2.2.2.2.2.1.alike (F.2.2 t h1000).1
  rw [hty] at hA
  exact W.lald hX.1.1 hX.1.2 (hH.1.arr ha h1000) (hA n v) (fun q => by cases q) (by rw [arrV_size]; exact hi) (by rw [arrV_read _ _ hlt]) rfl rfl hd (w ls hL)

theorem jW.aald (F : jOK s0 cl D cA tb a0 ty) {t a n : Nat} {v : Nat → Value} (hd : decode y.2.1 pc = .ok (.aaload, 1)) (h1000 : 1000 ≤ t) (hty : (ty t).isReference = true) (ha : σ.1 a = some (t, n, v)) {i : Int32} (hi : vp_in i n) {w : Value} (hw : v i.toNatClampNeg = w) {pc' : Nat} (hp : pc + 1 = pc') (kk : jW l s0 cl D cA d y pc' L (w :: st) σ Φ) : jW l s0 cl D cA d y pc L (.int i :: .ref a :: st) σ Φ := by
  subst hp; subst hw
  refine kk.rd fun p e R s m args below meth c H locs ls cells slots Q hX hH hL w => ?_
  have hlt : i.toNatClampNeg < n := Nat.not_le.mp fun q => hi (Or.inr q)
  have hA := arrOfT_moved hX.2.2.2.2.2.2.1.alike (F.2.2 t h1000).1
  exact W.aald hX.1.1 hX.1.2 (hH.1.arr ha h1000) (hA n v) hty (fun q => by cases q) (by rw [arrV_size]; exact hi) (by rw [arrV_read _ _ hlt]) rfl rfl hd (w ls hL)

theorem jW.bast (F : jOK s0 cl D cA tb a0 ty) {t a n : Nat} {v : Nat → Value} (hd : decode y.2.1 pc = .ok (.bastore, 1)) (h1000 : 1000 ≤ t) (hty : ty t = .byte) (ha : σ.1 a = some (t, n, v)) (hB : s0.heap.size ≤ a) {i : Int32} {x : Int32} (hi : vp_in i n) {w : Value} (hw : narrow .byte (.int x) = w) {σ1 : jS} (hσ : jput σ a (t, n, updV v i.toNatClampNeg w) = σ1) {pc' : Nat} (hp : pc + 1 = pc') (kk : jW l s0 cl D cA d y pc' L st σ1 Φ) : jW l s0 cl D cA d y pc L (.int x :: .int i :: .ref a :: st) σ Φ := by
  subst hp; subst hσ; subst hw
  refine jW.wr kk rfl fun p e R s m args below meth c H locs ls cells slots Q hX hH hL w1 => ?_
  have hA := arrOfT_moved hX.2.2.2.2.2.2.1.alike (F.2.2 t h1000).1
  rw [hty] at hA
  refine W.bast hX.1.1 hX.1.2 (hH.1.arr ha h1000) (hA n v) (fun q => by cases q) (by rw [arrV_size]; exact hi) rfl rfl hd fun H1 e1 z oq => ?_
  refine w1 H1 _ ⟨hH.1.put (Or.inr ⟨h1000, by rw [e1, arrV_store]⟩) z oq, hH.2.1.put oq hB, ?_⟩
  intro x hx
  rcases List.mem_append.mp hx with h | h
  · exact hH.2.2 x h
  · rw [List.mem_singleton.mp h]; exact hB

theorem jW.zast (F : jOK s0 cl D cA tb a0 ty) {t a n : Nat} {v : Nat → Value} (hd : decode y.2.1 pc = .ok (.bastore, 1)) (h1000 : 1000 ≤ t) (hty : ty t = .boolean) (ha : σ.1 a = some (t, n, v)) (hB : s0.heap.size ≤ a) {i : Int32} {x : Int32} (hi : vp_in i n) {w : Value} (hw : narrow .boolean (.int x) = w) {σ1 : jS} (hσ : jput σ a (t, n, updV v i.toNatClampNeg w) = σ1) {pc' : Nat} (hp : pc + 1 = pc') (kk : jW l s0 cl D cA d y pc' L st σ1 Φ) : jW l s0 cl D cA d y pc L (.int x :: .int i :: .ref a :: st) σ Φ := by
  subst hp; subst hσ; subst hw
  refine jW.wr kk rfl fun p e R s m args below meth c H locs ls cells slots Q hX hH hL w1 => ?_
  have hA := arrOfT_moved hX.2.2.2.2.2.2.1.alike (F.2.2 t h1000).1
  rw [hty] at hA
  refine W.zast hX.1.1 hX.1.2 (hH.1.arr ha h1000) (hA n v) (fun q => by cases q) (by rw [arrV_size]; exact hi) rfl rfl hd fun H1 e1 z oq => ?_
  refine w1 H1 _ ⟨hH.1.put (Or.inr ⟨h1000, by rw [e1, arrV_store]⟩) z oq, hH.2.1.put oq hB, ?_⟩
  intro x hx
  rcases List.mem_append.mp hx with h | h
  · exact hH.2.2 x h
  · rw [List.mem_singleton.mp h]; exact hB

theorem jW.last (F : jOK s0 cl D cA tb a0 ty) {t a n : Nat} {v : Nat → Value} (hd : decode y.2.1 pc = .ok (.lastore, 1)) (h1000 : 1000 ≤ t) (hty : ty t = .long) (ha : σ.1 a = some (t, n, v)) (hB : s0.heap.size ≤ a) {i : Int32} {x : Int64} (hi : vp_in i n) {w : Value} (hw : .long x = w) {σ1 : jS} (hσ : jput σ a (t, n, updV v i.toNatClampNeg w) = σ1) {pc' : Nat} (hp : pc + 1 = pc') (kk : jW l s0 cl D cA d y pc' L st σ1 Φ) : jW l s0 cl D cA d y pc L (.long x :: .int i :: .ref a :: st) σ Φ := by
  subst hp; subst hσ; subst hw
  refine jW.wr kk rfl fun p e R s m args below meth c H locs ls cells slots Q hX hH hL w1 => ?_
  have hA := arrOfT_moved hX.2.2.2.2.2.2.1.alike (F.2.2 t h1000).1
  rw [hty] at hA
  refine W.last hX.1.1 hX.1.2 (hH.1.arr ha h1000) (hA n v) (fun q => by cases q) (by rw [arrV_size]; exact hi) rfl rfl hd fun H1 e1 z oq => ?_
  refine w1 H1 _ ⟨hH.1.put (Or.inr ⟨h1000, by rw [e1, arrV_store]⟩) z oq, hH.2.1.put oq hB, ?_⟩
  intro x hx
  rcases List.mem_append.mp hx with h | h
  · exact hH.2.2 x h
  · rw [List.mem_singleton.mp h]; exact hB

/-- a reference into an array: of an object whose class may be held there -/
theorem jW.aast (F : jOK s0 cl D cA tb a0 ty) {t a n ci b N : Nat} {v u : Nat → Value} {q : vw_C} {C : String} (hd : decode y.2.1 pc = .ok (.aastore, 1)) (h1000 : 1000 ≤ t) (hty : ty t = .object C) (ha : σ.1 a = some (t, n, v)) (hB : s0.heap.size ≤ a) (hb0 : σ.1 b = some (ci, N, u)) (hq : cl[ci]? = some q) (hC : q.1 = C ∨ Cond.castable q.1 C ∈ tb) {i : Int32} (hi : vp_in i n) {σ1 : jS} (hσ : jput σ a (t, n, updV v i.toNatClampNeg (.ref b)) = σ1) {pc' : Nat} (hp : pc + 1 = pc') (kk : jW l s0 cl D cA d y pc' L st σ1 Φ) : jW l s0 cl D cA d y pc L (.ref b :: .int i :: .ref a :: st) σ Φ := by
  subst hp; subst hσ
  refine jW.wr kk rfl fun p e R s m args below meth c H locs ls cells slots Q hX hH hL w1 => ?_
  have hW := hX.2.2.2.2.2.2.1
  have hlt : i.toNatClampNeg < n := Nat.not_le.mp fun q => hi (Or.inr q)
  have h0 : ¬ i < 0 := fun q => hi (Or.inl q)
  have hci := (F.2.1 ci q hq).1
  obtain ⟨hN, cell, g1, g2, g3, -⟩ := hH.1.obj hb0 hci hq
  have hcls := (F.kn hW hq).2
  have hRA := (F.2.2 t h1000).2.moved hW.alike
  rw [hty] at hRA
  obtain ⟨kA, comp, k1, k2, k3, -⟩ := hRA
  obtain ⟨kC, hkC, -⟩ := hcls.2
  obtain ⟨kcomp, hkcomp, -⟩ := Vm.findClass_spec k3
  have hasg : s.vm.assignable (D.1 ci) comp = true := by
    rcases hC with hC | hC
    · rw [hC] at hcls
      have e : comp = D.1 ci := Option.some.inj (k3.symm.trans hcls.1)
      rw [e]; exact va_assign hcls
    · exact vb_asgC (va_Nw.warmC hW (va_Nw.of rfl (F.1 _ hC))) comp (D.1 ci) k3 hcls.1
  refine W.aast hX.1.1 hX.1.2 (hH.1.arr ha h1000) (fun q h => by cases h) (fun h => by cases h) k1 k2 rfl hkcomp ⟨h0, by rw [arrV_size]; exact hlt⟩ g1 (fun q h => by rw [g3] at h; cases h) (by rw [g2]; exact hkC) (by rw [g2]; exact hasg) rfl rfl hd fun H1 e1 z oq => ?_
  refine w1 H1 _ ⟨hH.1.put (Or.inr ⟨h1000, by rw [e1, arrV_store]⟩) z oq, hH.2.1.put oq hB, ?_⟩
  intro x hx
  rcases List.mem_append.mp hx with h | h
  · exact hH.2.2 x h
  · rw [List.mem_singleton.mp h]; exact hB
/-- a new array of references -/
theorem jW.anew (F : jOK s0 cl D cA tb a0 ty) {t index : Nat} {C : String} (hd : decode y.2.1 pc = .ok (.anewarray index, 3)) (h1000 : 1000 ≤ t) (hty : ty t = .object C) (h1 : Cond.classLink y.1.cls index C ∈ tb) (h2 : Cond.arrayOver (.object C) ∈ tb) (hg : jGood (Cond.arrayOver (.object C))) {i : Int32} {N : Nat} (hi : ¬ i < 0) (hN : i.toNatClampNeg = N) (hb8 : N * 4 ≤ 536870912) {a : Nat} (ha : σ.2.1 = a) {σ1 : jS} (hσ : jnew σ (t, N, fun _ => .null) N = σ1) {pc' : Nat} (hp : pc + 3 = pc') (hB : s0.heap.size ≤ σ.2.1) (kk : jW l s0 cl D cA d y pc' L (.ref a :: st) σ1 Φ) : jW l s0 cl D cA d y pc L (.int i :: st) σ Φ := by
  subst hp; subst hσ; subst ha; subst hN
  refine jW.al kk fun p e R s m args below meth c H locs ls cells slots Q r1 r2 hX hH hL w1 => ?_
  have hW := hX.2.2.2.2.2.2.1
  have hRA := (F.2.2 t h1000).2.moved hW.alike
  rw [hty] at hRA
  obtain ⟨kA', comp', k1, k2, k3, k4⟩ := hRA
  refine W.anew hX.1.1 hX.1.2 hX.2.2.2.1 (F.word hW h1 (Or.inl (by first | rfl | simp [Cond.onTables, Cond.keeps, Cond.steady])) args) (F.word hW h2 hg args) rfl hd rfl hi hb8 r1 r2 fun cA1 kA comp e1 e2 e3 e4 => ?_
  cases k4.symm.trans e1
  have hs := hH.1.1
  rw [hs]
  refine w1 _ locs ⟨hH.1.new (Or.inr ⟨h1000, ?_⟩) (by simp [hs]) (fun q hq => by rw [Array.getElem?_push, if_neg (by omega)]), fun x hx => ?_, hH.2.2⟩
  · rw [← arrV_new, ← hs]; simp
  · rw [Array.getElem?_push, if_neg (by omega)]; exact hH.2.1 x hx
/-- a static field that stays -/
theorem jW.gets (F : jOK s0 cl D cA tb a0 ty) {index : Nat} {C n de : String} {v : Value} (hd : decode y.2.1 pc = .ok (.getstatic index, 3)) (hl : Cond.fieldLink y.1.cls index C n de ∈ tb) (hZ : va_Z C n de v (fun q => s0.heap.size ≤ q) s0 s0.heap) {pc' : Nat} (hp : pc + 3 = pc') (kk : jW l s0 cl D cA d y pc' L (v :: st) σ Φ) : jW l s0 cl D cA d y pc L st σ Φ := by
  subst hp
  refine kk.rd fun p e R s m args below meth c H locs ls cells slots Q hX hH hL w => ?_
  have hW := hX.2.2.2.2.2.2.1
  obtain ⟨cf, kf, fi, f, a, cell, h1, h2, h3, h4, h5, h6, h7, h8⟩ := (hZ.moved hW.alike)
  exact W.gets hX.1.1 hX.1.2 hX.2.2.2.1 (F.word hW hl (Or.inl (by first | rfl | simp [Cond.onTables, Cond.keeps, Cond.steady])) args) h1 h2 h3 h4 (by rw [hH.2.1 a (Nat.not_le.mp h8)]; exact h5) (fun e => by rw [e] at h6; cases h6) h7 rfl hd (w ls hL)
theorem jW.ldc (F : jOK s0 cl D cA tb a0 ty) {index : Nat} {v : Int32} (hd : decode y.2.1 pc = .ok (.ldc index, 2)) (hl : Cond.constant y.1.cls index v ∈ tb) (hg : jGood (Cond.constant y.1.cls index v)) {pc' : Nat} (hp : pc + 2 = pc') (kk : jW l s0 cl D cA d y pc' L (.int v :: st) σ Φ) : jW l s0 cl D cA d y pc L st σ Φ := by
  subst hp
  refine kk.rd fun p e R s m args below meth c H locs ls cells slots Q hX hH hL w => ?_
  exact lv_ldc hX.1.1 hX.1.2 hX.2.2.2.1 (F.word hX.2.2.2.2.2.2.1 hl hg args) hd (w ls hL)
theorem jW.ldcw (F : jOK s0 cl D cA tb a0 ty) {index : Nat} {v : Int32} (hd : decode y.2.1 pc = .ok (.ldc_w index, 3)) (hl : Cond.constant y.1.cls index v ∈ tb) (hg : jGood (Cond.constant y.1.cls index v)) {pc' : Nat} (hp : pc + 3 = pc') (kk : jW l s0 cl D cA d y pc' L (.int v :: st) σ Φ) : jW l s0 cl D cA d y pc L st σ Φ := by
  subst hp
  refine kk.rd fun p e R s m args below meth c H locs ls cells slots Q hX hH hL w => ?_
  exact lv_ldcw hX.1.1 hX.1.2 hX.2.2.2.1 (F.word hX.2.2.2.2.2.2.1 hl hg args) hd (w ls hL)
theorem jW.tableIn {dflt lo hi : Int} {offs : Array Int} {len : Nat} {x : Int32} {off : Int} (hd : decode y.2.1 pc = .ok (.tableswitch dflt lo hi offs, len)) (h1 : ¬ x.toInt < lo) (h2 : ¬ hi < x.toInt) (ho : offs[(x.toInt - lo).toNat]? = some off) (tgt : Nat) (ht : (pc : Int) + off = (tgt : Int)) (k : jW l s0 cl D cA d y tgt L st σ Φ) : jW l s0 cl D cA d y pc L (.int x :: st) σ Φ :=
  k.pure fun p e R s m args below meth c H locs ls cells slots Q hx hb hL w => lv_tableIn hx hb hd h1 h2 ho ht w
theorem jW.tableOut {dflt lo hi : Int} {offs : Array Int} {len : Nat} {x : Int32} (hd : decode y.2.1 pc = .ok (.tableswitch dflt lo hi offs, len)) (h : x.toInt < lo ∨ hi < x.toInt) (tgt : Nat) (ht : (pc : Int) + dflt = (tgt : Int)) (k : jW l s0 cl D cA d y tgt L st σ Φ) : jW l s0 cl D cA d y pc L (.int x :: st) σ Φ :=
  k.pure fun p e R s m args below meth c H locs ls cells slots Q hx hb hL w => lv_tableOut hx hb hd h ht w
theorem jW.lookup {dflt : Int} {ps : Array (Int × Int)} {len : Nat} {x : Int32} {off : Int} (hd : decode y.2.1 pc = .ok (.lookupswitch dflt ps, len)) (hp : (ps.toList.zip (ps.toList.drop 1)).all (fun (a, next) => a.1 < next.1) = true) (ho : Op.lookupswitch.offset ps.toList dflt x.toInt = off) (tgt : Nat) (ht : (pc : Int) + off = (tgt : Int)) (k : jW l s0 cl D cA d y tgt L st σ Φ) : jW l s0 cl D cA d y pc L (.int x :: st) σ Φ :=
  k.pure fun p e R s m args below meth c H locs ls cells slots Q hx hb hL w => lv_lookup hx hb hd hp ho ht w
theorem jW.acmp_ne {rx ry : Option Nat} {off : Int} (hd : decode y.2.1 pc = .ok (.if_acmp .ne off, 3)) (tgt : Nat) (ht : (pc : Int) + off = (tgt : Int)) {pc' : Nat} (hp : pc + 3 = pc') {vx vy : Value} (ex : vx = va_rf rx) (ey : vy = va_rf ry) (kt : ¬ rx = ry → jW l s0 cl D cA d y tgt L st σ Φ) (kf : rx = ry → jW l s0 cl D cA d y pc' L st σ Φ) : jW l s0 cl D cA d y pc L (vy :: vx :: st) σ Φ := by
  subst hp; subst ex; subst ey
  by_cases hc : rx = ry
  · exact (kf hc).pure fun p e R s m args below meth c H locs ls cells slots Q hx hb hL w => lv_acmp_ne hx hb hd ht (fun q => absurd hc q) (fun _ => w)
  · exact (kt hc).pure fun p e R s m args below meth c H locs ls cells slots Q hx hb hL w => lv_acmp_ne hx hb hd ht (fun _ => w) (fun q => absurd q hc)
theorem jW.acmp_eq {rx ry : Option Nat} {off : Int} (hd : decode y.2.1 pc = .ok (.if_acmp .eq off, 3)) (tgt : Nat) (ht : (pc : Int) + off = (tgt : Int)) {pc' : Nat} (hp : pc + 3 = pc') {vx vy : Value} (ex : vx = va_rf rx) (ey : vy = va_rf ry) (kt : rx = ry → jW l s0 cl D cA d y tgt L st σ Φ) (kf : ¬ rx = ry → jW l s0 cl D cA d y pc' L st σ Φ) : jW l s0 cl D cA d y pc L (vy :: vx :: st) σ Φ := by
  subst hp; subst ex; subst ey
  by_cases hc : rx = ry
  · exact (kt hc).pure fun p e R s m args below meth c H locs ls cells slots Q hx hb hL w => lv_acmp_eq hx hb hd ht (fun _ => w) (fun q => absurd hc q)
  · exact (kf hc).pure fun p e R s m args below meth c H locs ls cells slots Q hx hb hL w => lv_acmp_eq hx hb hd ht (fun q => absurd q hc) (fun _ => w)
/-- a cast that holds -/
theorem jW.cast (F : jOK s0 cl D cA tb a0 ty) {index a ci N : Nat} {u : Nat → Value} {q : vw_C} (hd : decode y.2.1 pc = .ok (.checkcast index, 3)) (hb0 : σ.1 a = some (ci, N, u)) (hq : cl[ci]? = some q) {nm : String} (h1 : Cond.classLink y.1.cls index nm ∈ tb) (h2 : Cond.castable q.1 nm ∈ tb) {pc' : Nat} (hp : pc + 3 = pc') (kk : jW l s0 cl D cA d y pc' L (.ref a :: st) σ Φ) : jW l s0 cl D cA d y pc L (.ref a :: st) σ Φ := by
  subst hp
  refine kk.rd fun p e R s m args below meth c H locs ls cells slots Q hX hH hL w => ?_
  have hW := hX.2.2.2.2.2.2.1
  obtain ⟨hN, cell, g1, g2, g3, -⟩ := hH.1.obj hb0 (F.2.1 ci q hq).1 hq
  exact va_castY hX.1.1 hX.1.2 hX.2.2.2.1 (F.word hW h1 (Or.inl (by first | rfl | simp [Cond.onTables, Cond.keeps, Cond.steady])) args) (va_Nw.warmC hW (va_Nw.of rfl (F.1 _ h2))) ⟨cell, g1, by rw [g3]; rfl, by rw [g2]; exact (F.kn hW hq).2.1⟩ hd (w ls hL)
theorem jOK.callN (F : jOK s0 cl D cA tb a0 ty) {s : State} (hW : s0.WarmedH s.vm) {R : Room} (hf : d + 1 ≤ R.frames) (hlo : (d + 1) * 38 ≤ R.locals) {z : jM} {n mc ms index : Nat} {own host : String} (hc : jCan tb z n) (hl : Cond.methodLinkNest own index z.1 host ∈ tb) (args : Array Value) : va_CN R s args own index z.1 host z.2.1 z.2.2.1 z.2.2.2 [.code z.1 z.2.1 z.2.2.1 z.2.2.2] (jRm d mc ms) mc ms n := by
  obtain ⟨h1, h2, h3, h4, h5⟩ := hc
  refine ⟨⟨rfl, rfl, hf, ?_, ?_, List.mem_singleton.mpr rfl⟩, F.word hW h1 (Or.inl (by first | rfl | simp [Cond.onTables, Cond.keeps, Cond.steady])) args, F.word hW h2 (Or.inl (by first | rfl | simp [Cond.onTables, Cond.keeps, Cond.steady])) args, h3, fun sig h => ?_, va_Nw.use rfl (va_Nw.warmM hW (va_Nw.of rfl (F.1 _ hl)))⟩
  · show 8 + (z.2.2.1 + 11) + d * 38 ≤ R.locals
    omega
  · intro w hw a' U hU
    rw [List.mem_singleton.mp hw]
    exact F.word (hW.trans hU) h1 (Or.inl (by first | rfl | simp [Cond.onTables, Cond.keeps, Cond.steady])) a'
  · rw [h] at h4
    exact (Option.some.inj h4).symm
theorem jW.callSN (F : jOK s0 cl D cA tb a0 ty) {z : jM} {index n : Nat} {host : String} {As : List Value} {Ψ : Option Value → jS → Prop} (hE : jE l s0 cl D cA d z As σ Ψ) (hd : decode y.2.1 pc = .ok (.invokestatic index, 3)) (hc : jCan tb z n) (hl : Cond.methodLinkNest y.1.cls index z.1 host ∈ tb) (hs : Cond.static z.1 ∈ tb) (hn : As.length = n) {st' : List Value} (hst : st' = As.reverse ++ st) (hcat : (st.map fun v => v.category).sum ≤ 8) {pc' : Nat} (hp : pc + 3 = pc') (kk : ∀ r σ1, Ψ r σ1 → jW l s0 cl D cA (d + 1) y pc' L (r.toList ++ st) σ1 Φ) : jW l s0 cl D cA (d + 1) y pc L st' σ Φ := by
  refine jW.call hE hp kk fun mc ms Qc p e R s m args below meth c H locs ls cells slots hM hB hP hX hH hL hf => ?_
  obtain ⟨⟨hx, hb⟩, hml, hr, hown, hlk, hnm, hW, hfr, hlo⟩ := hX
  exact va_runSN (Ts := []) ⟨hx, hb, hml, hown, fun _ h => by cases h⟩ hM ⟨F.callN hW hfr hlo hc hl args, F.word hW hs (Or.inl (by first | rfl | simp [Cond.onTables, Cond.keeps, Cond.steady])) args, trivial⟩ ⟨hB, hP⟩ rfl hn hL.1 hst (lv_room hcat) hd hf
theorem jW.callIN (F : jOK s0 cl D cA tb a0 ty) {z : jM} {index n b : Nat} {host : String} {As : List Value} {Ψ : Option Value → jS → Prop} (hE : jE l s0 cl D cA d z (.ref b :: As) σ Ψ) (hd : decode y.2.1 pc = .ok (.invokespecial index, 3)) (hc : jCan tb z n) (hret : z.2.2.2 = none) (hl : Cond.methodLinkNest y.1.cls index z.1 host ∈ tb) (hs : Cond.instanceMethod z.1 ∈ tb) (hnm : z.1.name = "<init>") (hn : As.length = n) {st' : List Value} (hst : st' = As.reverse ++ .ref b :: st) (hcat : (st.map fun v => v.category).sum ≤ 8) {pc' : Nat} (hp : pc + 3 = pc') (kk : ∀ r σ1, Ψ r σ1 → jW l s0 cl D cA (d + 1) y pc' L (r.toList ++ st) σ1 Φ) : jW l s0 cl D cA (d + 1) y pc L st' σ Φ := by
  refine jW.call hE hp kk fun mc ms Qc p e R s m args below meth c H locs ls cells slots hM hB hP hX hH hL hf => ?_
  obtain ⟨⟨hx, hb⟩, hml, hr, hown, hlk, hnm2, hW, hfr, hlo⟩ := hX
  have cb := F.callN hW hfr hlo (mc := mc) (ms := ms) hc hl args
  rw [hret] at cb hM
  exact va_runIN (Ts := []) ⟨hx, hb, hml, hown, fun _ h => by cases h⟩ hM ⟨cb, hnm, F.word hW hs (Or.inl (by first | rfl | simp [Cond.onTables, Cond.keeps, Cond.steady])) args⟩ ⟨hB, hP⟩ rfl hn hL.1 hst (lv_room hcat) hd hf
end JM2
