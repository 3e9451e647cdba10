/-! rows that the list's growth wants -/
section RQ
variable {l : Launch} {s0 : State} {cl : List vw_C} {D : va_G} {cA : Nat → ClassId} {d : Nat} {y : jM} {pc : Nat} {L : jL} {st : List Value} {σ : jS} {Φ : Option Value → jS → Prop} {tb : List Cond} {a0 : Array Value} {ty : Nat → FieldType}
/-- System.arraycopy of references to objects of one kind -/
theorem jW.copyq (F : jOK s0 cl D cA tb a0 ty) {index t a b n1 n2 ci : Nat} {f g : Nat → Value} {q : vw_C} {C : String} (hd : decode y.2.1 pc = .ok (.invokestatic index, 3)) (hl : Cond.methodLink y.1.cls index arraycopyName ∈ tb) (hnat : Cond.native arraycopyName ∈ tb) (hst : Cond.static arraycopyName ∈ tb) (hini : Cond.initialized "java/lang/System" ∈ tb) (h1 : 1000 ≤ t) (hty : ty t = .object C) (ha : σ.1 a = some (t, n1, f)) (hb2 : σ.1 b = some (t, n2, g)) (hB : s0.heap.size ≤ b) (hq : cl[ci]? = some q) (hC : Cond.castable q.1 C ∈ tb) {n : Nat} (hn : n < 2 ^ 31) (h6 : n ≤ n1) (h7 : n ≤ n2) (hel : ∀ i, i < n → f i = .null ∨ ∃ (z N : Nat) (u : Nat → Value), f i = .ref z ∧ σ.1 z = some (ci, N, u)) (hcat : (st.map fun v => v.category).sum ≤ 8) {σ1 : jS} (hσ : jput σ b (t, n2, va_cpy f g 0 0 n) = σ1) {pc' : Nat} (hp : pc + 3 = pc') (kk : jW l s0 cl D cA (d + 1) y pc' L st σ1 Φ) : jW l s0 cl D cA (d + 1) y pc L (.int (nI n) :: .int 0 :: .ref b :: .int 0 :: .ref a :: st) σ Φ := by
  subst hp; subst hσ
  refine jW.wr kk rfl fun p e R s m args below meth c H locs ls cells slots Q hX hH hL w1 => ?_
  obtain ⟨⟨hx, hbb⟩, hml, hr, hown, hlk, hnm, hW, hfr, hlo⟩ := hX
  intro T hT X
  have hc0 : H[a]? = some (arrV (cA t) n1 f) := hH.1.arr ha h1
  have hc1 : H[b]? = some (arrV (cA t) n2 g) := hH.1.arr hb2 h1
  have hA1 := arrOfT_moved hW.alike (F.2.2 t h1).1
  obtain ⟨-, k0, hk0, cm0, hkk0⟩ := hA1 n1 f
  rw [hty] at hkk0
  have hg : ∀ w : Cond, (w = Cond.methodLink y.1.cls index arraycopyName ∨ w = Cond.native arraycopyName ∨ w = Cond.static arraycopyName ∨ w = Cond.initialized "java/lang/System") → jGood w := by
    rintro w (rfl | rfl | rfl | rfl) <;> exact Or.inl (by first | rfl | simp [Cond.onTables, Cond.keeps, Cond.steady])
  have hk0' : s.vm.classes[(arrV (cA t) n2 g).cls]? = some k0 := hk0
  have hnc : (nI n).toNatClampNeg = n := nI_clamp hn
  have hni : (nI n).toInt = (n : Int) := nI_toInt hn
  have hz : (0 : Int32).toInt = 0 := rfl
  have hzc : (0 : Int32).toNatClampNeg = 0 := rfl
  have hRA := (F.2.2 t h1).2.moved hW.alike
  rw [hty] at hRA
  have hcls := (F.kn hW hq).2
  obtain ⟨vm', X', step⟩ := X.arraycopy hx hown (F.word hW hl (hg _ (Or.inl rfl)) args) (F.word hW hnat (hg _ (Or.inr (Or.inl rfl))) args) (F.word hW hst (hg _ (Or.inr (Or.inr (Or.inl rfl)))) args) (F.word hW hini (hg _ (Or.inr (Or.inr (Or.inr rfl)))) args) (src := a) (dst := b) (cs := arrV (cA t) n1 f) (cd := arrV (cA t) n2 g) (srcPos := 0) (destPos := 0) (n := nI n) (by rw [hT]; exact hc0) (by rw [hT]; exact hc1)
    (fun _ h => by cases h) (fun _ h => by cases h) (fun h => by cases h) (fun h => by cases h) hk0 hk0' hkk0 hkk0 (by simp [refKind]) (by decide) (by decide) (nI_lt0 hn)
    (by rw [hz, hni, arrV_size]; omega)
    (by rw [hz, hni, arrV_size]; omega)
    (fun vm₁ hal i hi => by
      rw [hnc] at hi
      have e : (arrV (cA t) n1 f).slots.getD ((0 : Int32).toNatClampNeg + i) .null = f i := by
        rw [hzc, Nat.zero_add, Array.getD_eq_getD_getElem?, arrV_read _ _ (by omega)]
        rfl
      rw [e]
      rcases hel i hi with z | ⟨z, N, u, z1, z2⟩
      · rw [z]
        exact ⟨rfl, trivial⟩
      · rw [z1]
        obtain ⟨hN, cell, g1, g2, g3, -⟩ := hH.1.obj z2 (F.2.1 ci q hq).1 hq
        obtain ⟨kA, comp, r1, r2, r3, -⟩ := hRA
        cases hk0.symm.trans r1
        cases hkk0.symm.trans r2
        obtain ⟨kC, hkC, -⟩ := hcls.2
        obtain ⟨kE, hkE, -⟩ := Vm.findClass_spec r3
        obtain ⟨kC', hkC', -⟩ := hal.2.2 _ _ hkC
        obtain ⟨kE', hkE', -⟩ := hal.2.2 _ _ hkE
        refine ⟨rfl, cell, (show T.heap[z]? = some cell by rw [hT]; exact g1), (fun q h => by rw [g3] at h; cases h), ⟨kC', by rw [g2]; exact hkC'⟩, ⟨kE', hkE'⟩, ?_⟩
        show vm₁.assignable _ _ = true
        rw [hal.assignable, g2]
        exact vb_asgC (va_Nw.warmC hW (va_Nw.of rfl (F.1 _ hC))) _ (D.1 ci) r3 hcls.1)
    (g := F0 m pc ls (.int (nI n) :: .int 0 :: .ref b :: .int 0 :: .ref a :: st)) rfl (by rw [hml]; exact hL.1) (rest := st) rfl (by rw [hbb]; exact hd) (by omega) (by
      show 2 * 0 + _ + _ ≤ _
      have : nativeFrameWords "java/lang/System" "arraycopy" 5 + 11 ≤ 30 := by decide +kernel
      omega)
  have e1 : copied (arrV (cA t) n1 f) (arrV (cA t) n2 g) 0 0 (nI n) = arrV (cA t) n2 (va_cpy f g 0 0 n) := by
    have h6' : (0 : Int32).toNatClampNeg + (nI n).toNatClampNeg ≤ n1 := by rw [hzc, hnc]; omega
    have e2 : va_cpy f g 0 0 n = va_cpy f g (0 : Int32).toNatClampNeg (0 : Int32).toNatClampNeg (nI n).toNatClampNeg := by rw [hzc, hnc]
    rw [e2]
    exact va_copied (fun z => z) (cA t) (cA t) f g h6'
  rw [e1] at X' step
  have hlt : b < H.size := (Array.getElem?_eq_some_iff.mp hc1).1
  have hheap : ((T.setVm vm').setCell b (arrV (cA t) n2 (va_cpy f g 0 0 n))).heap = H.setIfInBounds b (arrV (cA t) n2 (va_cpy f g 0 0 n)) := by rw [← hT]; rfl
  have oq : ∀ q : Nat, q ≠ b → (H.setIfInBounds b (arrV (cA t) n2 (va_cpy f g 0 0 n)))[q]? = H[q]? := fun q hq => by simp [Array.getElem?_setIfInBounds, Ne.symm hq]
  obtain ⟨t', q1, q2⟩ := w1 _ _ ⟨hH.1.put (Or.inr ⟨h1, by simp [Array.getElem?_setIfInBounds, hlt]⟩) (by simp) oq, hH.2.1.put oq hB, fun x hx => by
      rcases List.mem_append.mp hx with h | h
      · exact hH.2.2 x h
      · obtain ⟨z, -, hz⟩ := List.mem_map.mp h
        rw [← hz]; exact hB⟩ _ hheap X'
  exact ⟨t', step t' q1, q2⟩
/-- getClass() of an array -/
theorem jW.getC (F : jOK s0 cl D cA tb a0 ty) {index t a n mi : Nat} {f : Nat → Value} {C : String} (hd : decode y.2.1 pc = .ok (.invokevirtual index, 3)) (hl : Cond.methodLink y.1.cls index ⟨"java/lang/Object", "getClass", "()Ljava/lang/Class;"⟩ ∈ tb) (hde : Cond.declares ⟨"java/lang/Object", "getClass", "()Ljava/lang/Class;"⟩ ∈ tb) (hse : Cond.selects ("[" ++ (FieldType.object C).toString) ⟨"java/lang/Object", "getClass", "()Ljava/lang/Class;"⟩ ⟨"java/lang/Object", "getClass", "()Ljava/lang/Class;"⟩ ∈ tb) (hin : Cond.instanceMethod ⟨"java/lang/Object", "getClass", "()Ljava/lang/Class;"⟩ ∈ tb) (hna : Cond.native ⟨"java/lang/Object", "getClass", "()Ljava/lang/Class;"⟩ ∈ tb) (hM : va_Mi ("[" ++ (FieldType.object C).toString) mi s0) (h1 : 1000 ≤ t) (hty : ty t = .object C) (ha : σ.1 a = some (t, n, f)) (hcat : (st.map fun v => v.category).sum ≤ 8) {pc' : Nat} (hp : pc + 3 = pc') (kk : jW l s0 cl D cA (d + 1) y pc' L (.ref mi :: st) σ Φ) : jW l s0 cl D cA (d + 1) y pc L (.ref a :: st) σ Φ := by
  subst hp
  refine kk.rd fun p e R s m args below meth c H locs ls cells slots Q hX hH hL w => ?_
  obtain ⟨⟨hx, hbb⟩, hml, hr, hown, hlk, hnm, hW, hfr, hlo⟩ := hX
  have hg : ∀ w : Cond, (w = Cond.methodLink y.1.cls index ⟨"java/lang/Object", "getClass", "()Ljava/lang/Class;"⟩ ∨ w = Cond.instanceMethod ⟨"java/lang/Object", "getClass", "()Ljava/lang/Class;"⟩ ∨ w = Cond.native ⟨"java/lang/Object", "getClass", "()Ljava/lang/Class;"⟩) → jGood w := by
    rintro w (rfl | rfl | rfl) <;> exact Or.inl (by first | rfl | simp [Cond.onTables, Cond.keeps, Cond.steady])
  have hRA := (F.2.2 t h1).2.moved hW.alike
  rw [hty] at hRA
  refine va_getC hx hbb (by rw [hml]; exact hL.1.symm) hown (F.word hW hl (hg _ (Or.inl rfl)) args) ((va_Dc.moved hW.alike (va_Dc.of (F.1 _ hde))).use) (F.word hW hse (Or.inl (by first | rfl | simp [Cond.onTables, Cond.keeps, Cond.steady])) args) (F.word hW hin (hg _ (Or.inr (Or.inl rfl))) args) (F.word hW hna (hg _ (Or.inr (Or.inr rfl))) args) (hM.moved hW.alike) ⟨_, hH.1.arr ha h1, rfl, va_nmO hRA rfl⟩ (by omega) (by omega) hd (w ls hL)
/-- the class object of a class constant -/
theorem jW.ldcM (F : jOK s0 cl D cA tb a0 ty) {index mi : Nat} {C : String} (hd : decode y.2.1 pc = .ok (.ldc index, 2)) (hl : Cond.classLink y.1.cls index C ∈ tb) (hM : va_Mi C mi s0) {pc' : Nat} (hp : pc + 2 = pc') (kk : jW l s0 cl D cA d y pc' L (.ref mi :: st) σ Φ) : jW l s0 cl D cA d y pc L st σ Φ := by
  subst hp
  refine kk.rd fun p e R s m args below meth c H locs ls cells slots Q hX hH hL w => ?_
  have hW := hX.2.2.2.2.2.2.1
  exact va_ldcM hX.1.1 hX.1.2 hX.2.2.2.1 (F.word hW hl (Or.inl (by first | rfl | simp [Cond.onTables, Cond.keeps, Cond.steady])) args) (hM.moved hW.alike) hd (w ls hL)
end RQ
