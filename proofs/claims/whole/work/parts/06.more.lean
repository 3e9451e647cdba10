section JM
variable {l : Launch} {s0 : State} {cl : List vw_C} {D : va_G} {cA : Nat → ClassId} {tb : List Cond} {a0 : Array Value} {ty : Nat → FieldType} {d : Nat} {y : jM} {pc : Nat} {L : jL} {st : List Value} {σ : jS} {Φ : Option Value → jS → Prop}
/-- System.arraycopy between arrays of numbers -/
theorem jW.copyp (F : jOK s0 cl D cA tb a0 ty) {index t1 t2 a b n1 n2 : Nat} {f g : Nat → Value} (hd : decode y.2.1 pc = .ok (.invokestatic index, 3)) (hl : Cond.methodLink y.1.cls index arraycopyName ∈ tb) (hnat : Cond.native arraycopyName ∈ tb) (hst : Cond.static arraycopyName ∈ tb) (hini : Cond.initialized "java/lang/System" ∈ tb) (h1 : 1000 ≤ t1) (h2 : 1000 ≤ t2) (hty : ty t1 = ty t2) (hprim : refKind (ty t1) = false) (ha : σ.1 a = some (t1, n1, f)) (hb2 : σ.1 b = some (t2, n2, g)) (hB : s0.heap.size ≤ b) {sp dp n : Int32} (h3 : ¬ sp < 0) (h4 : ¬ dp < 0) (h5 : ¬ n < 0) (h6 : sp.toNatClampNeg + n.toNatClampNeg ≤ n1) (h7 : dp.toNatClampNeg + n.toNatClampNeg ≤ n2) (hfit : ∀ i, i < n.toNatClampNeg → ∃ z : Int32, f (sp.toNatClampNeg + i) = .int z ∧ fits (ty t1) (.int z) = true) (hcat : (st.map fun v => v.category).sum ≤ 8) {σ1 : jS} (hσ : jput σ b (t2, n2, va_cpy f g sp.toNatClampNeg dp.toNatClampNeg n.toNatClampNeg) = σ1) {pc' : Nat} (hp : pc + 3 = pc') (kk : jW l s0 cl D cA (d + 1) y pc' L st σ1 Φ) : jW l s0 cl D cA (d + 1) y pc L (.int n :: .int dp :: .ref b :: .int sp :: .ref a :: st) σ Φ := by
  subst hp; subst hσ
  refine jW.wr kk rfl fun p e R s m args below meth c H locs ls cells slots Q hX hH hL w1 => ?_
  obtain ⟨⟨hx, hbb⟩, hml, hr, hown, hlk, hnm, hW, hfr, hlo⟩ := hX
  have nn : ∀ z : Int32, ¬ z < 0 → z.toInt = (z.toNatClampNeg : Int) := by
    intro z hz
    have hz0 : (0 : Int) ≤ z.toInt := by
      have := Int32.not_lt.mp hz
      simpa using Int32.le_iff_toInt_le.mp this
    show z.toInt = ((z.toInt.toNat : Nat) : Int)
    omega
  intro T hT X
  have hc0 : H[a]? = some (arrV (cA t1) n1 f) := hH.1.arr ha h1
  have hc1 : H[b]? = some (arrV (cA t2) n2 g) := hH.1.arr hb2 h2
  have hA1 := arrOfT_moved hW.alike (F.2.2 t1 h1).1
  have hA2 := arrOfT_moved hW.alike (F.2.2 t2 h2).1
  rw [← hty] at hA2
  obtain ⟨-, k0, hk0, cm0, hkk0⟩ := hA1 n1 f
  obtain ⟨-, k1, hk1, cm1, hkk1⟩ := hA2 n2 g
  have hg : ∀ w : Cond, (w = Cond.methodLink y.1.cls index arraycopyName ∨ w = Cond.native arraycopyName ∨ w = Cond.static arraycopyName ∨ w = Cond.initialized "java/lang/System") → jGood w := by
    rintro w (rfl | rfl | rfl | rfl) <;> exact Or.inl (by first | rfl | simp [Cond.onTables, Cond.keeps, Cond.steady])
  obtain ⟨vm', X', step⟩ := X.arraycopy hx hown (F.word hW hl (hg _ (Or.inl rfl)) args) (F.word hW hnat (hg _ (Or.inr (Or.inl rfl))) args) (F.word hW hst (hg _ (Or.inr (Or.inr (Or.inl rfl)))) args) (F.word hW hini (hg _ (Or.inr (Or.inr (Or.inr rfl)))) args) (src := a) (dst := b) (cs := arrV (cA t1) n1 f) (cd := arrV (cA t2) n2 g) (srcPos := sp) (destPos := dp) (n := n) (by rw [hT]; exact hc0) (by rw [hT]; exact hc1)
    (fun _ h => by cases h) (fun _ h => by cases h) (fun h => by cases h) (fun h => by cases h) hk0 hk1 hkk0 hkk1 (by simp [hprim]) h3 h4 h5
    (by rw [nn sp h3, nn n h5, arrV_size]; omega)
    (by rw [nn dp h4, nn n h5, arrV_size]; omega)
    (fun vm₁ _ i hi => by
      obtain ⟨z, hz, hz2⟩ := hfit i hi
      have e : (arrV (cA t1) n1 f).slots.getD (sp.toNatClampNeg + i) .null = .int z := by
        rw [Array.getD_eq_getD_getElem?, arrV_read _ _ (by omega)]
        exact hz
      refine ⟨?_, ?_⟩
      · rw [e]; exact hz2
      · rw [e]; exact trivial)
    (g := F0 m pc ls (.int n :: .int dp :: .ref b :: .int sp :: .ref a :: st)) rfl (by rw [hml]; exact hL.1) (rest := st) rfl (by rw [hbb]; exact hd) (by omega) (by
      show 2 * 0 + _ + _ ≤ _
      have : nativeFrameWords "java/lang/System" "arraycopy" 5 + 11 ≤ 30 := by decide +kernel
      omega)
  have e1 : copied (arrV (cA t1) n1 f) (arrV (cA t2) n2 g) sp dp n = arrV (cA t2) n2 (va_cpy f g sp.toNatClampNeg dp.toNatClampNeg n.toNatClampNeg) := va_copied (fun z => z) (cA t1) (cA t2) f g h6
  rw [e1] at X' step
  have hlt : b < H.size := (Array.getElem?_eq_some_iff.mp hc1).1
  have hheap : ((T.setVm vm').setCell b (arrV (cA t2) n2 (va_cpy f g sp.toNatClampNeg dp.toNatClampNeg n.toNatClampNeg))).heap = H.setIfInBounds b (arrV (cA t2) n2 (va_cpy f g sp.toNatClampNeg dp.toNatClampNeg n.toNatClampNeg)) := by rw [← hT]; rfl
  have oq : ∀ q : Nat, q ≠ b → (H.setIfInBounds b (arrV (cA t2) n2 (va_cpy f g sp.toNatClampNeg dp.toNatClampNeg n.toNatClampNeg)))[q]? = H[q]? := fun q hq => by simp [Array.getElem?_setIfInBounds, Ne.symm hq]
  obtain ⟨t, q1, q2⟩ := w1 _ _ ⟨hH.1.put (Or.inr ⟨h2, by simp [Array.getElem?_setIfInBounds, hlt]⟩) (by simp) oq, hH.2.1.put oq hB, fun x hx => by
      rcases List.mem_append.mp hx with h | h
      · exact hH.2.2 x h
      · obtain ⟨z, -, hz⟩ := List.mem_map.mp h
        rw [← hz]; exact hB⟩ _ hheap X'
  exact ⟨t, step t q1, q2⟩
/-- a method of the library's own classes -/
theorem jE.ofF {av : List Value} (hy : plainFor y.1 = true) (hc : ∀ w ∈ av, w.category = 1) (hn : av.length ≤ y.2.2.1) {L0 : jL} (hL0 : jArgs av y.2.2.1 = L0) (k : jW l s0 cl D cA d y 0 L0 [] σ Φ) : jE l s0 cl D cA d y av σ Φ := by
  obtain ⟨r, σ', ⟨k1, k2⟩, k3⟩ := k
  subst hL0
  refine ⟨r, σ', ⟨k1, va_MetF (cc := y.2.1) (maxL := y.2.2.1) (ret := y.2.2.2) hy rfl ?_⟩, k3⟩
  intro p e s m args below meth c s₁ B hml hv
  obtain ⟨rfl, hR, hO, hW⟩ := hv
  have hl := lv_entry av (n := y.2.2.1) (by rw [lg_sl_1 av hc]; exact hn)
  rw [lg_entry_eq]
  generalize (lg_sl av ++ List.replicate (y.2.2.1 - (lg_sl av).length) Slot.unset).toArray = ls at hl ⊢
  have hL : jLs (jArgs av y.2.2.1) y.2.2.1 ls := by
    refine ⟨hl.1, hl.2.1, fun i v hi => ?_⟩
    have hav : av[i]? = some v := by
      unfold jArgs at hi
      by_cases h : i < av.length
      · rw [List.getElem?_append_left (by simpa using h), List.getElem?_map] at hi
        cases ha : av[i]? with
        | none => rw [ha] at hi; simp at hi
        | some w => rw [ha] at hi; simp at hi; rw [hi]
      · rw [List.getElem?_append_right (by simpa using h)] at hi
        have := List.mem_of_getElem? hi
        simp at this
    refine ⟨hc v (List.mem_of_getElem? hav), ?_⟩
    have := jArgs_in av 0 i v hc hav
    rw [Nat.zero_add] at this
    exact hl.2.2 (i, v) this
  have hs : s.heap.size = σ.2.1 := hR.1
  have := k2 p e (jRm d (σ'.2.1 - σ.2.1) (σ'.2.2 - σ.2.2)) s m av.toArray below meth c s.heap [] ls σ.2.1 σ.2.2 ⟨⟨B.exec, B.bytes⟩, hml, B.returns, findClass_of_methodNamed B.named, B.notSynchronized, (name_of_methodNamed B.named B.method).1, hW, Nat.le_refl _, Nat.le_refl _⟩ ⟨hR, hO, fun _ h => by cases h⟩ hL (Nat.le_refl _) (Nat.le_refl _) (Nat.le_refl _) (Nat.le_refl _)
  rw [Nat.sub_self, Nat.sub_self] at this
  exact this
end JM
