abbrev c_AL_init : ByteArray := prog_24_method_2_code
abbrev y_AL_init : jM := (⟨"java/util/ArrayList", "<init>", "()V"⟩, c_AL_init, 1, none)
def k_AL_init : List (Nat × Instr × Nat) := [(0, .aload_n 0, 1), (1, .invokespecial 1, 3), (4, .aload_n 0, 1), (5, .getstatic 39, 3), (8, .putfield 9, 3), (11, .return_, 1)]
theorem dk_AL_init : ∀ e ∈ k_AL_init, decode c_AL_init e.1 = .ok e.2 := by decide +kernel
abbrev c_ABL_init : ByteArray := prog_23_method_1_code
abbrev y_ABL_init : jM := (⟨"java/util/AbstractList", "<init>", "()V"⟩, c_ABL_init, 1, none)
def k_ABL_init : List (Nat × Instr × Nat) := [(0, .aload_n 0, 1), (1, .invokespecial 1, 3), (4, .aload_n 0, 1), (5, .iconst 0, 1), (6, .putfield 7, 3), (9, .return_, 1)]
theorem dk_ABL_init : ∀ e ∈ k_ABL_init, decode c_ABL_init e.1 = .ok e.2 := by decide +kernel
abbrev c_ABC_init : ByteArray := prog_22_method_1_code
abbrev y_ABC_init : jM := (⟨"java/util/AbstractCollection", "<init>", "()V"⟩, c_ABC_init, 1, none)
def k_ABC_init : List (Nat × Instr × Nat) := [(0, .aload_n 0, 1), (1, .invokespecial 1, 3), (4, .return_, 1)]
theorem dk_ABC_init : ∀ e ∈ k_ABC_init, decode c_ABC_init e.1 = .ok e.2 := by decide +kernel
theorem dx_AL_init (i : Nat) {e : Nat × Instr × Nat} (h : k_AL_init[i]? = some e) : decode y_AL_init.2.1 e.1 = .ok e.2 := dk_AL_init e (List.mem_of_getElem? h)
theorem f_AL_init_8 : jFld jcl lw_tbl y_AL_init 8 7 0 .putfield := ⟨9, "java/util/ArrayList", jQ_AL, dx_AL_init 4 (e := (8, .putfield 9, 3)) rfl, rfl, by decide, Or.inl jw_67, Or.inl rfl⟩
theorem can_AL_init : jCan lw_tbl y_AL_init 0 := ⟨jw_57, jw_6, by decide +kernel, by decide +kernel, by decide⟩
theorem dx_ABL_init (i : Nat) {e : Nat × Instr × Nat} (h : k_ABL_init[i]? = some e) : decode y_ABL_init.2.1 e.1 = .ok e.2 := dk_ABL_init e (List.mem_of_getElem? h)
theorem f_ABL_init_6 : jFld jcl lw_tbl y_ABL_init 6 7 2 .putfield := ⟨7, "java/util/AbstractList", jQ_AL, dx_ABL_init 4 (e := (6, .putfield 7, 3)) rfl, rfl, by decide, Or.inl jw_69, Or.inl rfl⟩
theorem can_ABL_init : jCan lw_tbl y_ABL_init 0 := ⟨jw_60, jw_5, by decide +kernel, by decide +kernel, by decide⟩
theorem dx_ABC_init (i : Nat) {e : Nat × Instr × Nat} (h : k_ABC_init[i]? = some e) : decode y_ABC_init.2.1 e.1 = .ok e.2 := dk_ABC_init e (List.mem_of_getElem? h)
theorem can_ABC_init : jCan lw_tbl y_ABC_init 0 := ⟨jw_63, jw_4, by decide +kernel, by decide +kernel, by decide⟩
section ABSR
variable {l : Launch} {s0 : State} {cl : List vw_C} {D : va_G} {cA : Nat → ClassId} {d : Nat} {y : jM} {pc : Nat} {L : jL} {st : List Value} {σ : jS} {Φ : Option Value → jS → Prop} {tb : List Cond} {a0 : Array Value} {ty : Nat → FieldType}
/-- rows whose next state is known by what holds of it alone -/
theorem jW.newA (F : jOK s0 cl D cA tb a0 ty) {ci index : Nat} {q : vw_C} (hq : cl[ci]? = some q) (hd : decode y.2.1 pc = .ok (.new index, 3)) (h1 : Cond.classLink y.1.cls index q.1 ∈ tb) (h2 : Cond.instantiable q.1 q.2.2 ∈ tb) (h3 : Cond.initialized q.1 ∈ tb) (tyf : Nat → FieldType) (ht : jTab q tyf) {n : Nat} (hn : q.2.2 = n) {pc' : Nat} (hp : pc + 3 = pc') (hI : jI s0.heap.size σ) (kk : ∀ (a : Nat) (σ1 : jS), σ1.1 a = some (ci, q.2.2, fun k => defaultValue (tyf k)) → s0.heap.size ≤ a → jI s0.heap.size σ1 → jK [] σ σ1 → (σ1.2.1 = σ.2.1 + 1 ∧ σ1.2.2 = σ.2.2 + n) → jW l s0 cl D cA d y pc' L (.ref a :: st) σ1 Φ) : jW l s0 cl D cA d y pc L st σ Φ :=
  jW.new F hq hd h1 h2 h3 tyf ht (fun k hk => rfl) rfl rfl hp hI.1 (kk _ _ (jnew_at _ _ _) hI.1 hI.new (jK.new hI) ⟨rfl, by rw [← hn]; rfl⟩)
theorem jW.putA (F : jOK s0 cl D cA tb a0 ty) {ci k a n : Nat} {v : Nat → Value} (h : jFld cl tb y pc ci k .putfield) {q : vw_C} (hq : cl[ci]? = some q) (tyf : Nat → FieldType) (ht : jTab q tyf) (hfin : (q.2.1 k).2.2.2 = false) (ha : σ.1 a = some (ci, n, v)) (hB : s0.heap.size ≤ a) {w : Value} (hn : narrow (tyf k) w = w) (hf : fits (tyf k) w = true) {pc' : Nat} (hp : pc + 3 = pc') (hI : jI s0.heap.size σ) (kk : ∀ σ1 : jS, σ1.1 a = some (ci, n, updV v k w) → jI s0.heap.size σ1 → jK [ci] σ σ1 → (σ1.2.1 = σ.2.1 ∧ σ1.2.2 = σ.2.2) → jW l s0 cl D cA d y pc' L st σ1 Φ) : jW l s0 cl D cA d y pc L (w :: .ref a :: st) σ Φ :=
  jW.putf F h hq tyf ht hfin ha hB hn hf rfl hp (kk _ (jput_at _ _ _) (hI.put ha) (jK.put ha List.mem_cons_self) ⟨rfl, rfl⟩)
theorem jW.putFA (F : jOK s0 cl D cA tb a0 ty) {ci k a n index : Nat} {v : Nat → Value} {q : vw_C} (hq : cl[ci]? = some q) (hd : decode y.2.1 pc = .ok (.putfield index, 3)) (hk : k < q.2.2) (hl : Cond.fieldLink y.1.cls index (q.2.1 k).1 (q.2.1 k).2.1 (q.2.1 k).2.2.1 ∈ tb) (tyf : Nat → FieldType) (ht : jTab q tyf) (hfin : (q.2.1 k).2.2.2 = true) (hin : y.1.name = "<init>") (hdecl : (q.2.1 k).1 = y.1.cls) (ha : σ.1 a = some (ci, n, v)) (hB : s0.heap.size ≤ a) {w : Value} (hn : narrow (tyf k) w = w) (hf : fits (tyf k) w = true) {pc' : Nat} (hp : pc + 3 = pc') (hI : jI s0.heap.size σ) (kk : ∀ σ1 : jS, σ1.1 a = some (ci, n, updV v k w) → jI s0.heap.size σ1 → jK [ci] σ σ1 → (σ1.2.1 = σ.2.1 ∧ σ1.2.2 = σ.2.2) → jW l s0 cl D cA d y pc' L st σ1 Φ) : jW l s0 cl D cA d y pc L (w :: .ref a :: st) σ Φ :=
  jW.putfF F hq hd hk hl tyf ht hfin hin hdecl ha hB hn hf rfl hp (kk _ (jput_at _ _ _) (hI.put ha) (jK.put ha List.mem_cons_self) ⟨rfl, rfl⟩)
theorem jW.newaA (F : jOK s0 cl D cA tb a0 ty) {t : Nat} (hd : decode y.2.1 pc = .ok (.newarray .int, 2)) (h1000 : 1000 ≤ t) (hty : ty t = .int) (h1 : Cond.arrayClass .int ∈ tb) {i : Int32} {N : Nat} (hi : ¬ i < 0) (hN : i.toNatClampNeg = N) (hb8 : N * 4 ≤ 536870912) {pc' : Nat} (hp : pc + 2 = pc') (hI : jI s0.heap.size σ) (kk : ∀ (a : Nat) (σ1 : jS), σ1.1 a = some (t, N, fun _ => .int 0) → s0.heap.size ≤ a → jI s0.heap.size σ1 → jK [] σ σ1 → (σ1.2.1 = σ.2.1 + 1 ∧ σ1.2.2 = σ.2.2 + N) → jW l s0 cl D cA d y pc' L (.ref a :: st) σ1 Φ) : jW l s0 cl D cA d y pc L (.int i :: st) σ Φ := by
  have hRA : ∀ U : State, va_RA U (cA t) (ty t) → U.vm.findClass ("[" ++ (newarray.typeOf .int).toString) = some (cA t) := by
    intro U h
    rw [hty] at h
    exact h
  exact jW.newa (t := t) (atype := .int) F hd h1000 hty.symm hRA h1 hi hN hb8 rfl rfl rfl hp hI.1 (kk _ _ (jnew_at _ _ _) hI.1 hI.new (jK.new hI) ⟨rfl, rfl⟩)
end ABSR
section CON
variable {l : Launch} {s0 : State} {D : va_G} {cA : Nat → ClassId} {a0 : Array Value} {d : Nat} {σ : jS}
/-- ArrayList's empty array, there since before -/
def EMP (s0 : State) (em : Nat) : Prop := va_Z "java/util/ArrayList" "DEFAULTCAPACITY_EMPTY_ELEMENTDATA" "[Ljava/lang/Object;" (.ref em) (fun q => s0.heap.size ≤ q) s0 s0.heap ∧ va_T (.object "java/lang/Object") em 0 (fun _ => .null) (fun q => s0.heap.size ≤ q) s0 s0.heap
theorem e_Row_init1 (F : jOK s0 jcl D cA lw_tbl a0 jty) {r : Nat} {v : Nat → Value} (hI : jI s0.heap.size σ) (hr : σ.1 r = some (1, 2, v)) (Bhr : s0.heap.size ≤ r) : jE l s0 jcl D cA (d + 1) y_Row_init [.ref r] σ (fun r0 σ' => r0 = none ∧ jI s0.heap.size σ' ∧ jK [1] σ σ' ∧ (σ'.2.1 ≤ σ.2.1 + 1 ∧ σ'.2.2 ≤ σ.2.2 + 32) ∧ RowAt s0.heap.size 1 1010 σ' r 32 []) := by
  refine jE.of (by decide) (by simp [Value.category]) (Nat.le_of_ble_eq_true rfl) rfl ?_
  have hKK : jK [1] σ σ := jK.rfl
  have hZ : σ.2.1 ≤ σ.2.1 + 0 ∧ σ.2.2 ≤ σ.2.2 + 0 := ⟨Nat.le_refl _, Nat.le_refl _⟩
  refine jW.aload_n (dx_Row_init 0 (e := (0, .aload_n 0, 1)) rfl) rfl rfl (pc' := 1) rfl ?_
  refine jW.objI F (dx_Row_init 1 (e := (1, .invokespecial 3, 3)) rfl) jw_38 jw_31 jw_32 (Nat.le_of_ble_eq_true rfl) (pc' := 4) rfl ?_
  refine jW.aload_n (dx_Row_init 2 (e := (4, .aload_n 0, 1)) rfl) rfl rfl (pc' := 5) rfl ?_
  refine jW.bipush (v := 32) (dx_Row_init 3 (e := (5, .bipush 32, 2)) rfl) (by decide) (pc' := 7) rfl ?_
  refine jW.newaA (t := 1010) (N := 32) F (dx_Row_init 4 (e := (7, .newarray .int, 2)) rfl) (by decide) rfl jw_46 (by decide) (by decide) (by decide) (pc' := 9) rfl hI (fun h σ1 ha Bha hI1 hK hz => ?_)
  replace hr := hK _ _ _ _ hr (by decide)
  replace hKK := hKK.trans (fun a t n v z _ => hK a t n v z (by simp))
  clear hK
  replace hI := hI1
  clear hI1
  replace hZ : σ1.2.1 ≤ σ.2.1 + 1 ∧ σ1.2.2 ≤ σ.2.2 + 32 := ⟨by omega, by omega⟩
  clear hz
  refine jW.putA (ci := 1) (k := 0) F (f_Row_init_9 rfl) rfl jF_Row jTab_Row rfl hr Bhr rfl rfl (pc' := 12) rfl hI (fun σ1 hx1 hI1 hK hz => ?_)
  replace ha := hK _ _ _ _ ha (by decide)
  replace hKK := hKK.trans (hK.mono (by decide))
  clear hK
  replace hr := hx1
  clear hx1
  replace hI := hI1
  clear hI1
  replace hZ : σ1.2.1 ≤ σ.2.1 + 1 ∧ σ1.2.2 ≤ σ.2.2 + 32 := ⟨by omega, by omega⟩
  clear hz
  refine jW.aload_n (dx_Row_init 6 (e := (12, .aload_n 0, 1)) rfl) rfl rfl (pc' := 13) rfl ?_
  refine jW.iconst (v := 0) (dx_Row_init 7 (e := (13, .iconst 0, 1)) rfl) (by decide) (pc' := 14) rfl ?_
  refine jW.putA (ci := 1) (k := 1) F (f_Row_init_14 rfl) rfl jF_Row jTab_Row rfl hr Bhr rfl rfl (pc' := 17) rfl hI (fun σ1 hx1 hI1 hK hz => ?_)
  replace ha := hK _ _ _ _ ha (by decide)
  replace hKK := hKK.trans (hK.mono (by decide))
  clear hK
  replace hr := hx1
  clear hx1
  replace hI := hI1
  clear hI1
  replace hZ : σ1.2.1 ≤ σ.2.1 + 1 ∧ σ1.2.2 ≤ σ.2.2 + 32 := ⟨by omega, by omega⟩
  clear hz
  refine jW.vret (dx_Row_init 9 (e := (17, .return_, 1)) rfl) rfl ?_
  exact ⟨rfl, hI, hKK, hZ, h, _, _, hr, rfl, rfl, ha, fun i hi => ⟨0, rfl⟩, fun i x hx => by simp at hx, Nat.zero_le _, Nat.le_refl _, by decide, Bhr, Bha⟩
theorem e_Row_init10 (F : jOK s0 jcl D cA lw_tbl a0 jty) {r : Nat} {v : Nat → Value} (hI : jI s0.heap.size σ) (hr : σ.1 r = some (10, 2, v)) (Bhr : s0.heap.size ≤ r) : jE l s0 jcl D cA (d + 1) y_Row_init [.ref r] σ (fun r0 σ' => r0 = none ∧ jI s0.heap.size σ' ∧ jK [10] σ σ' ∧ (σ'.2.1 ≤ σ.2.1 + 1 ∧ σ'.2.2 ≤ σ.2.2 + 32) ∧ RowAt s0.heap.size 10 1011 σ' r 32 []) := by
  refine jE.of (by decide) (by simp [Value.category]) (Nat.le_of_ble_eq_true rfl) rfl ?_
  have hKK : jK [10] σ σ := jK.rfl
  have hZ : σ.2.1 ≤ σ.2.1 + 0 ∧ σ.2.2 ≤ σ.2.2 + 0 := ⟨Nat.le_refl _, Nat.le_refl _⟩
  refine jW.aload_n (dx_Row_init 0 (e := (0, .aload_n 0, 1)) rfl) rfl rfl (pc' := 1) rfl ?_
  refine jW.objI F (dx_Row_init 1 (e := (1, .invokespecial 3, 3)) rfl) jw_38 jw_31 jw_32 (Nat.le_of_ble_eq_true rfl) (pc' := 4) rfl ?_
  refine jW.aload_n (dx_Row_init 2 (e := (4, .aload_n 0, 1)) rfl) rfl rfl (pc' := 5) rfl ?_
  refine jW.bipush (v := 32) (dx_Row_init 3 (e := (5, .bipush 32, 2)) rfl) (by decide) (pc' := 7) rfl ?_
  refine jW.newaA (t := 1011) (N := 32) F (dx_Row_init 4 (e := (7, .newarray .int, 2)) rfl) (by decide) rfl jw_46 (by decide) (by decide) (by decide) (pc' := 9) rfl hI (fun h σ1 ha Bha hI1 hK hz => ?_)
  replace hr := hK _ _ _ _ hr (by decide)
  replace hKK := hKK.trans (fun a t n v z _ => hK a t n v z (by simp))
  clear hK
  replace hI := hI1
  clear hI1
  replace hZ : σ1.2.1 ≤ σ.2.1 + 1 ∧ σ1.2.2 ≤ σ.2.2 + 32 := ⟨by omega, by omega⟩
  clear hz
  refine jW.putA (ci := 10) (k := 0) F (f_Row_init_9 rfl) rfl jF_Row jTab_Row rfl hr Bhr rfl rfl (pc' := 12) rfl hI (fun σ1 hx1 hI1 hK hz => ?_)
  replace ha := hK _ _ _ _ ha (by decide)
  replace hKK := hKK.trans (hK.mono (by decide))
  clear hK
  replace hr := hx1
  clear hx1
  replace hI := hI1
  clear hI1
  replace hZ : σ1.2.1 ≤ σ.2.1 + 1 ∧ σ1.2.2 ≤ σ.2.2 + 32 := ⟨by omega, by omega⟩
  clear hz
  refine jW.aload_n (dx_Row_init 6 (e := (12, .aload_n 0, 1)) rfl) rfl rfl (pc' := 13) rfl ?_
  refine jW.iconst (v := 0) (dx_Row_init 7 (e := (13, .iconst 0, 1)) rfl) (by decide) (pc' := 14) rfl ?_
  refine jW.putA (ci := 10) (k := 1) F (f_Row_init_14 rfl) rfl jF_Row jTab_Row rfl hr Bhr rfl rfl (pc' := 17) rfl hI (fun σ1 hx1 hI1 hK hz => ?_)
  replace ha := hK _ _ _ _ ha (by decide)
  replace hKK := hKK.trans (hK.mono (by decide))
  clear hK
  replace hr := hx1
  clear hx1
  replace hI := hI1
  clear hI1
  replace hZ : σ1.2.1 ≤ σ.2.1 + 1 ∧ σ1.2.2 ≤ σ.2.2 + 32 := ⟨by omega, by omega⟩
  clear hz
  refine jW.vret (dx_Row_init 9 (e := (17, .return_, 1)) rfl) rfl ?_
  exact ⟨rfl, hI, hKK, hZ, h, _, _, hr, rfl, rfl, ha, fun i hi => ⟨0, rfl⟩, fun i x hx => by simp at hx, Nat.zero_le _, Nat.le_refl _, by decide, Bhr, Bha⟩
theorem e_Row_init11 (F : jOK s0 jcl D cA lw_tbl a0 jty) {r : Nat} {v : Nat → Value} (hI : jI s0.heap.size σ) (hr : σ.1 r = some (11, 2, v)) (Bhr : s0.heap.size ≤ r) : jE l s0 jcl D cA (d + 1) y_Row_init [.ref r] σ (fun r0 σ' => r0 = none ∧ jI s0.heap.size σ' ∧ jK [11] σ σ' ∧ (σ'.2.1 ≤ σ.2.1 + 1 ∧ σ'.2.2 ≤ σ.2.2 + 32) ∧ RowAt s0.heap.size 11 1012 σ' r 32 []) := by
  refine jE.of (by decide) (by simp [Value.category]) (Nat.le_of_ble_eq_true rfl) rfl ?_
  have hKK : jK [11] σ σ := jK.rfl
  have hZ : σ.2.1 ≤ σ.2.1 + 0 ∧ σ.2.2 ≤ σ.2.2 + 0 := ⟨Nat.le_refl _, Nat.le_refl _⟩
  refine jW.aload_n (dx_Row_init 0 (e := (0, .aload_n 0, 1)) rfl) rfl rfl (pc' := 1) rfl ?_
  refine jW.objI F (dx_Row_init 1 (e := (1, .invokespecial 3, 3)) rfl) jw_38 jw_31 jw_32 (Nat.le_of_ble_eq_true rfl) (pc' := 4) rfl ?_
  refine jW.aload_n (dx_Row_init 2 (e := (4, .aload_n 0, 1)) rfl) rfl rfl (pc' := 5) rfl ?_
  refine jW.bipush (v := 32) (dx_Row_init 3 (e := (5, .bipush 32, 2)) rfl) (by decide) (pc' := 7) rfl ?_
  refine jW.newaA (t := 1012) (N := 32) F (dx_Row_init 4 (e := (7, .newarray .int, 2)) rfl) (by decide) rfl jw_46 (by decide) (by decide) (by decide) (pc' := 9) rfl hI (fun h σ1 ha Bha hI1 hK hz => ?_)
  replace hr := hK _ _ _ _ hr (by decide)
  replace hKK := hKK.trans (fun a t n v z _ => hK a t n v z (by simp))
  clear hK
  replace hI := hI1
  clear hI1
  replace hZ : σ1.2.1 ≤ σ.2.1 + 1 ∧ σ1.2.2 ≤ σ.2.2 + 32 := ⟨by omega, by omega⟩
  clear hz
  refine jW.putA (ci := 11) (k := 0) F (f_Row_init_9 rfl) rfl jF_Row jTab_Row rfl hr Bhr rfl rfl (pc' := 12) rfl hI (fun σ1 hx1 hI1 hK hz => ?_)
  replace ha := hK _ _ _ _ ha (by decide)
  replace hKK := hKK.trans (hK.mono (by decide))
  clear hK
  replace hr := hx1
  clear hx1
  replace hI := hI1
  clear hI1
  replace hZ : σ1.2.1 ≤ σ.2.1 + 1 ∧ σ1.2.2 ≤ σ.2.2 + 32 := ⟨by omega, by omega⟩
  clear hz
  refine jW.aload_n (dx_Row_init 6 (e := (12, .aload_n 0, 1)) rfl) rfl rfl (pc' := 13) rfl ?_
  refine jW.iconst (v := 0) (dx_Row_init 7 (e := (13, .iconst 0, 1)) rfl) (by decide) (pc' := 14) rfl ?_
  refine jW.putA (ci := 11) (k := 1) F (f_Row_init_14 rfl) rfl jF_Row jTab_Row rfl hr Bhr rfl rfl (pc' := 17) rfl hI (fun σ1 hx1 hI1 hK hz => ?_)
  replace ha := hK _ _ _ _ ha (by decide)
  replace hKK := hKK.trans (hK.mono (by decide))
  clear hK
  replace hr := hx1
  clear hx1
  replace hI := hI1
  clear hI1
  replace hZ : σ1.2.1 ≤ σ.2.1 + 1 ∧ σ1.2.2 ≤ σ.2.2 + 32 := ⟨by omega, by omega⟩
  clear hz
  refine jW.vret (dx_Row_init 9 (e := (17, .return_, 1)) rfl) rfl ?_
  exact ⟨rfl, hI, hKK, hZ, h, _, _, hr, rfl, rfl, ha, fun i hi => ⟨0, rfl⟩, fun i x hx => by simp at hx, Nat.zero_le _, Nat.le_refl _, by decide, Bhr, Bha⟩
theorem e_Row_init12 (F : jOK s0 jcl D cA lw_tbl a0 jty) {r : Nat} {v : Nat → Value} (hI : jI s0.heap.size σ) (hr : σ.1 r = some (12, 2, v)) (Bhr : s0.heap.size ≤ r) : jE l s0 jcl D cA (d + 1) y_Row_init [.ref r] σ (fun r0 σ' => r0 = none ∧ jI s0.heap.size σ' ∧ jK [12] σ σ' ∧ (σ'.2.1 ≤ σ.2.1 + 1 ∧ σ'.2.2 ≤ σ.2.2 + 32) ∧ RowAt s0.heap.size 12 1013 σ' r 32 []) := by
  refine jE.of (by decide) (by simp [Value.category]) (Nat.le_of_ble_eq_true rfl) rfl ?_
  have hKK : jK [12] σ σ := jK.rfl
  have hZ : σ.2.1 ≤ σ.2.1 + 0 ∧ σ.2.2 ≤ σ.2.2 + 0 := ⟨Nat.le_refl _, Nat.le_refl _⟩
  refine jW.aload_n (dx_Row_init 0 (e := (0, .aload_n 0, 1)) rfl) rfl rfl (pc' := 1) rfl ?_
  refine jW.objI F (dx_Row_init 1 (e := (1, .invokespecial 3, 3)) rfl) jw_38 jw_31 jw_32 (Nat.le_of_ble_eq_true rfl) (pc' := 4) rfl ?_
  refine jW.aload_n (dx_Row_init 2 (e := (4, .aload_n 0, 1)) rfl) rfl rfl (pc' := 5) rfl ?_
  refine jW.bipush (v := 32) (dx_Row_init 3 (e := (5, .bipush 32, 2)) rfl) (by decide) (pc' := 7) rfl ?_
  refine jW.newaA (t := 1013) (N := 32) F (dx_Row_init 4 (e := (7, .newarray .int, 2)) rfl) (by decide) rfl jw_46 (by decide) (by decide) (by decide) (pc' := 9) rfl hI (fun h σ1 ha Bha hI1 hK hz => ?_)
  replace hr := hK _ _ _ _ hr (by decide)
  replace hKK := hKK.trans (fun a t n v z _ => hK a t n v z (by simp))
  clear hK
  replace hI := hI1
  clear hI1
  replace hZ : σ1.2.1 ≤ σ.2.1 + 1 ∧ σ1.2.2 ≤ σ.2.2 + 32 := ⟨by omega, by omega⟩
  clear hz
  refine jW.putA (ci := 12) (k := 0) F (f_Row_init_9 rfl) rfl jF_Row jTab_Row rfl hr Bhr rfl rfl (pc' := 12) rfl hI (fun σ1 hx1 hI1 hK hz => ?_)
  replace ha := hK _ _ _ _ ha (by decide)
  replace hKK := hKK.trans (hK.mono (by decide))
  clear hK
  replace hr := hx1
  clear hx1
  replace hI := hI1
  clear hI1
  replace hZ : σ1.2.1 ≤ σ.2.1 + 1 ∧ σ1.2.2 ≤ σ.2.2 + 32 := ⟨by omega, by omega⟩
  clear hz
  refine jW.aload_n (dx_Row_init 6 (e := (12, .aload_n 0, 1)) rfl) rfl rfl (pc' := 13) rfl ?_
  refine jW.iconst (v := 0) (dx_Row_init 7 (e := (13, .iconst 0, 1)) rfl) (by decide) (pc' := 14) rfl ?_
  refine jW.putA (ci := 12) (k := 1) F (f_Row_init_14 rfl) rfl jF_Row jTab_Row rfl hr Bhr rfl rfl (pc' := 17) rfl hI (fun σ1 hx1 hI1 hK hz => ?_)
  replace ha := hK _ _ _ _ ha (by decide)
  replace hKK := hKK.trans (hK.mono (by decide))
  clear hK
  replace hr := hx1
  clear hx1
  replace hI := hI1
  clear hI1
  replace hZ : σ1.2.1 ≤ σ.2.1 + 1 ∧ σ1.2.2 ≤ σ.2.2 + 32 := ⟨by omega, by omega⟩
  clear hz
  refine jW.vret (dx_Row_init 9 (e := (17, .return_, 1)) rfl) rfl ?_
  exact ⟨rfl, hI, hKK, hZ, h, _, _, hr, rfl, rfl, ha, fun i hi => ⟨0, rfl⟩, fun i x hx => by simp at hx, Nat.zero_le _, Nat.le_refl _, by decide, Bhr, Bha⟩
theorem e_Row_init13 (F : jOK s0 jcl D cA lw_tbl a0 jty) {r : Nat} {v : Nat → Value} (hI : jI s0.heap.size σ) (hr : σ.1 r = some (13, 2, v)) (Bhr : s0.heap.size ≤ r) : jE l s0 jcl D cA (d + 1) y_Row_init [.ref r] σ (fun r0 σ' => r0 = none ∧ jI s0.heap.size σ' ∧ jK [13] σ σ' ∧ (σ'.2.1 ≤ σ.2.1 + 1 ∧ σ'.2.2 ≤ σ.2.2 + 32) ∧ RowAt s0.heap.size 13 1014 σ' r 32 []) := by
  refine jE.of (by decide) (by simp [Value.category]) (Nat.le_of_ble_eq_true rfl) rfl ?_
  have hKK : jK [13] σ σ := jK.rfl
  have hZ : σ.2.1 ≤ σ.2.1 + 0 ∧ σ.2.2 ≤ σ.2.2 + 0 := ⟨Nat.le_refl _, Nat.le_refl _⟩
  refine jW.aload_n (dx_Row_init 0 (e := (0, .aload_n 0, 1)) rfl) rfl rfl (pc' := 1) rfl ?_
  refine jW.objI F (dx_Row_init 1 (e := (1, .invokespecial 3, 3)) rfl) jw_38 jw_31 jw_32 (Nat.le_of_ble_eq_true rfl) (pc' := 4) rfl ?_
  refine jW.aload_n (dx_Row_init 2 (e := (4, .aload_n 0, 1)) rfl) rfl rfl (pc' := 5) rfl ?_
  refine jW.bipush (v := 32) (dx_Row_init 3 (e := (5, .bipush 32, 2)) rfl) (by decide) (pc' := 7) rfl ?_
  refine jW.newaA (t := 1014) (N := 32) F (dx_Row_init 4 (e := (7, .newarray .int, 2)) rfl) (by decide) rfl jw_46 (by decide) (by decide) (by decide) (pc' := 9) rfl hI (fun h σ1 ha Bha hI1 hK hz => ?_)
  replace hr := hK _ _ _ _ hr (by decide)
  replace hKK := hKK.trans (fun a t n v z _ => hK a t n v z (by simp))
  clear hK
  replace hI := hI1
  clear hI1
  replace hZ : σ1.2.1 ≤ σ.2.1 + 1 ∧ σ1.2.2 ≤ σ.2.2 + 32 := ⟨by omega, by omega⟩
  clear hz
  refine jW.putA (ci := 13) (k := 0) F (f_Row_init_9 rfl) rfl jF_Row jTab_Row rfl hr Bhr rfl rfl (pc' := 12) rfl hI (fun σ1 hx1 hI1 hK hz => ?_)
  replace ha := hK _ _ _ _ ha (by decide)
  replace hKK := hKK.trans (hK.mono (by decide))
  clear hK
  replace hr := hx1
  clear hx1
  replace hI := hI1
  clear hI1
  replace hZ : σ1.2.1 ≤ σ.2.1 + 1 ∧ σ1.2.2 ≤ σ.2.2 + 32 := ⟨by omega, by omega⟩
  clear hz
  refine jW.aload_n (dx_Row_init 6 (e := (12, .aload_n 0, 1)) rfl) rfl rfl (pc' := 13) rfl ?_
  refine jW.iconst (v := 0) (dx_Row_init 7 (e := (13, .iconst 0, 1)) rfl) (by decide) (pc' := 14) rfl ?_
  refine jW.putA (ci := 13) (k := 1) F (f_Row_init_14 rfl) rfl jF_Row jTab_Row rfl hr Bhr rfl rfl (pc' := 17) rfl hI (fun σ1 hx1 hI1 hK hz => ?_)
  replace ha := hK _ _ _ _ ha (by decide)
  replace hKK := hKK.trans (hK.mono (by decide))
  clear hK
  replace hr := hx1
  clear hx1
  replace hI := hI1
  clear hI1
  replace hZ : σ1.2.1 ≤ σ.2.1 + 1 ∧ σ1.2.2 ≤ σ.2.2 + 32 := ⟨by omega, by omega⟩
  clear hz
  refine jW.vret (dx_Row_init 9 (e := (17, .return_, 1)) rfl) rfl ?_
  exact ⟨rfl, hI, hKK, hZ, h, _, _, hr, rfl, rfl, ha, fun i hi => ⟨0, rfl⟩, fun i x hx => by simp at hx, Nat.zero_le _, Nat.le_refl _, by decide, Bhr, Bha⟩
theorem e_ABC_init (F : jOK s0 jcl D cA lw_tbl a0 jty) {r : Nat} : jE l s0 jcl D cA (d + 1) y_ABC_init [.ref r] σ (fun r0 σ' => r0 = none ∧ σ' = σ) := by
  refine jE.ofF (by decide +kernel) (by simp [Value.category]) (Nat.le_of_ble_eq_true rfl) rfl ?_
  refine jW.aload_n (dx_ABC_init 0 (e := (0, .aload_n 0, 1)) rfl) rfl rfl (pc' := 1) rfl ?_
  refine jW.objI F (dx_ABC_init 1 (e := (1, .invokespecial 1, 3)) rfl) jw_64 jw_31 jw_32 (Nat.le_of_ble_eq_true rfl) (pc' := 4) rfl ?_
  refine jW.vret (dx_ABC_init 2 (e := (4, .return_, 1)) rfl) rfl ?_
  exact ⟨rfl, rfl⟩
theorem e_ABL_init (F : jOK s0 jcl D cA lw_tbl a0 jty) {al : Nat} {v : Nat → Value} (hI : jI s0.heap.size σ) (hal : σ.1 al = some (7, 3, v)) (Bhal : s0.heap.size ≤ al) : jE l s0 jcl D cA (d + 2) y_ABL_init [.ref al] σ (fun r0 σ' => r0 = none ∧ jI s0.heap.size σ' ∧ jK [7] σ σ' ∧ (σ'.2.1 = σ.2.1 ∧ σ'.2.2 = σ.2.2) ∧ σ'.1 al = some (7, 3, updV v 2 (.int 0))) := by
  refine jE.ofF (by decide +kernel) (by simp [Value.category]) (Nat.le_of_ble_eq_true rfl) rfl ?_
  refine jW.aload_n (dx_ABL_init 0 (e := (0, .aload_n 0, 1)) rfl) rfl rfl (pc' := 1) rfl ?_
  refine jW.callI F (e_ABC_init F) (dx_ABL_init 1 (e := (1, .invokespecial 1, 3)) rfl) can_ABC_init rfl jw_61 jw_62 rfl rfl rfl (Nat.le_of_ble_eq_true rfl) (pc' := 4) rfl (fun r σ1 hr => ?_)
  obtain ⟨rfl, hσ⟩ := hr
  rw [hσ]
  refine jW.aload_n (dx_ABL_init 2 (e := (4, .aload_n 0, 1)) rfl) rfl rfl (pc' := 5) rfl ?_
  refine jW.iconst (v := 0) (dx_ABL_init 3 (e := (5, .iconst 0, 1)) rfl) (by decide) (pc' := 6) rfl ?_
  refine jW.putA (ci := 7) (k := 2) F f_ABL_init_6 rfl jF_AL jTab_AL rfl hal Bhal rfl rfl (pc' := 9) rfl hI (fun σ1 hx1 hI1 hK hz => ?_)
  refine jW.vret (dx_ABL_init 5 (e := (9, .return_, 1)) rfl) rfl ?_
  exact ⟨rfl, hI1, hK, hz, hx1⟩
theorem e_AL_init (F : jOK s0 jcl D cA lw_tbl a0 jty) {al em : Nat} {v : Nat → Value} (hE : EMP s0 em) (hI : jI s0.heap.size σ) (hal : σ.1 al = some (7, 3, v)) (Bhal : s0.heap.size ≤ al) : jE l s0 jcl D cA (d + 3) y_AL_init [.ref al] σ (fun r0 σ' => r0 = none ∧ jI s0.heap.size σ' ∧ jK [7] σ σ' ∧ (σ'.2.1 = σ.2.1 ∧ σ'.2.2 = σ.2.2) ∧ σ'.1 al = some (7, 3, updV (updV v 2 (.int 0)) 0 (.ref em))) := by
  refine jE.ofF (by decide +kernel) (by simp [Value.category]) (Nat.le_of_ble_eq_true rfl) rfl ?_
  refine jW.aload_n (dx_AL_init 0 (e := (0, .aload_n 0, 1)) rfl) rfl rfl (pc' := 1) rfl ?_
  refine jW.callI F (e_ABL_init F hI hal Bhal) (dx_AL_init 1 (e := (1, .invokespecial 1, 3)) rfl) can_ABL_init rfl jw_58 jw_59 rfl rfl rfl (Nat.le_of_ble_eq_true rfl) (pc' := 4) rfl (fun r σ1 hr => ?_)
  obtain ⟨rfl, hI1, hK1, hz1, hal1⟩ := hr
  refine jW.aload_n (dx_AL_init 2 (e := (4, .aload_n 0, 1)) rfl) rfl rfl (pc' := 5) rfl ?_
  refine jW.gets F (dx_AL_init 3 (e := (5, .getstatic 39, 3)) rfl) jw_65 hE.1 (pc' := 8) rfl ?_
  refine jW.putA (ci := 7) (k := 0) F f_AL_init_8 rfl jF_AL jTab_AL rfl hal1 Bhal rfl rfl (pc' := 11) rfl hI1 (fun σ2 hx1 hI2 hK2 hz2 => ?_)
  refine jW.vret (dx_AL_init 5 (e := (11, .return_, 1)) rfl) rfl ?_
  exact ⟨rfl, hI2, hK1.trans hK2, ⟨hz2.1.trans hz1.1, hz2.2.trans hz1.2⟩, hx1⟩
theorem e_AL_grow2E (F : jOK s0 jcl D cA lw_tbl a0 jty) {al em : Nat} {v : Nat → Value} (hE : EMP s0 em) (hI : jI s0.heap.size σ) (hal : σ.1 al = some (7, 3, v)) (Bhal : s0.heap.size ≤ al) (h0 : v 0 = .ref em) (h1 : v 1 = .int 0) : jE l s0 jcl D cA (d + 1) y_AL_grow2 [.ref al, .int (nI 1)] σ (fun r σ' => r = some (.ref σ.2.1) ∧ jI s0.heap.size σ' ∧ jK [7] σ σ' ∧ (σ'.2.1 = σ.2.1 + 1 ∧ σ'.2.2 = σ.2.2 + 10) ∧ s0.heap.size ≤ σ.2.1 ∧ σ'.1 al = some (7, 3, updV v 0 (.ref σ.2.1)) ∧ σ'.1 σ.2.1 = some (1004, 10, fun _ => .null)) := by
  refine jE.ofF (by decide +kernel) (by simp [Value.category]) (Nat.le_of_ble_eq_true rfl) rfl ?_
  refine jW.aload_n (dx_AL_grow2 0 (e := (0, .aload_n 0, 1)) rfl) rfl rfl (pc' := 1) rfl ?_
  refine jW.getf F f_AL_grow2_1 (by assumption) (by assumption) (pc' := 4) rfl ?_
  refine jW.alenO (i := 0) F (dx_AL_grow2 2 (e := (4, .arraylength, 1)) rfl) hE.2 rfl (pc' := 5) rfl ?_
  refine jW.istore_n (dx_AL_grow2 3 (e := (5, .istore_n 2, 1)) rfl) rfl (by decide) rfl (pc' := 6) rfl ?_
  refine jW.iload_n (dx_AL_grow2 4 (e := (6, .iload_n 2, 1)) rfl) rfl rfl (pc' := 7) rfl ?_
  refine jW.if_gt (dx_AL_grow2 5 (e := (7, .ifCond .gt 13, 3)) rfl) 20 (by decide) (pc' := 10) rfl (fun c_7 => ?_) (fun c_7 => ?_)
  · exact absurd c_7 (by decide)
  · refine jW.aload_n (dx_AL_grow2 6 (e := (10, .aload_n 0, 1)) rfl) rfl rfl (pc' := 11) rfl ?_
    refine jW.getf F f_AL_grow2_11 (by assumption) (by assumption) (pc' := 14) rfl ?_
    refine jW.gets F (dx_AL_grow2 8 (e := (14, .getstatic 39, 3)) rfl) jw_65 hE.1 (pc' := 17) rfl ?_
    refine jW.acmp_eq (rx := some em) (ry := some em) (dx_AL_grow2 9 (e := (17, .if_acmp .eq 28, 3)) rfl) 45 (by decide) (pc' := 20) rfl rfl rfl (fun _ => ?_) (fun z => absurd rfl z)
    refine jW.aload_n (dx_AL_grow2 27 (e := (45, .aload_n 0, 1)) rfl) rfl rfl (pc' := 46) rfl ?_
    refine jW.bipush (v := 10) (dx_AL_grow2 28 (e := (46, .bipush 10, 2)) rfl) (by decide) (pc' := 48) rfl ?_
    refine jW.iload_n (dx_AL_grow2 29 (e := (48, .iload_n 1, 1)) rfl) rfl rfl (pc' := 49) rfl ?_
    refine jW.callS F (e_Math_max F 10 (nI 1)) (dx_AL_grow2 30 (e := (49, .invokestatic 79, 3)) rfl) can_Math_max jw_206 jw_171 rfl rfl (Nat.le_of_ble_eq_true rfl) (pc' := 52) rfl (fun r σ1 hr => ?_)
    obtain ⟨rfl, hσ⟩ := hr
    rw [hσ, show (if (10 : Int32) < nI 1 then nI 1 else 10) = nI 10 from by decide]
    refine jW.anewO (t := 1004) (C := "java/lang/Object") F (dx_AL_grow2 31 (e := (52, .anewarray 7, 3)) rfl) (by decide) rfl jw_207 jw_198 (nI_pos (by omega)) (nI_clamp (n := 10) (by omega)) (by omega) rfl rfl (pc' := 55) rfl hI.1 ?_
    have hal1 : (jnew σ (1004, 10, fun _ => Value.null) 10).1 al = some (7, 3, v) := by rw [jnew_ne (hI.ne hal)]; exact hal
    have hed1 : (jnew σ (1004, 10, fun _ => Value.null) 10).1 σ.2.1 = some (1004, 10, fun _ => Value.null) := jnew_at _ _ _
    refine jW.dup_x1 (dx_AL_grow2 32 (e := (55, .dup_x1, 1)) rfl) rfl rfl (pc' := 56) rfl ?_
    refine jW.putA (ci := 7) (k := 0) F f_AL_grow2_56 rfl jF_AL jTab_AL rfl hal1 Bhal rfl rfl (pc' := 59) rfl hI.new (fun σ2 hx1 hI2 hK2 hz2 => ?_)
    refine jW.aret (dx_AL_grow2 34 (e := (59, .areturn, 1)) rfl) rfl (by first | exact Or.inl ⟨_, rfl⟩ | exact Or.inr ⟨_, rfl⟩) (by first | exact Or.inl rfl | exact Or.inr ⟨_, rfl⟩) ?_
    exact ⟨rfl, hI2, fun a t n v z hz => hK2 _ _ _ _ (by rw [jnew_ne (hI.ne z)]; exact z) hz, hz2, hI.1, hx1, hK2 _ _ _ _ hed1 (by decide)⟩
theorem e_AL_growE (F : jOK s0 jcl D cA lw_tbl a0 jty) {al em : Nat} {v : Nat → Value} (hE : EMP s0 em) (hI : jI s0.heap.size σ) (hal : σ.1 al = some (7, 3, v)) (Bhal : s0.heap.size ≤ al) (h0 : v 0 = .ref em) (h1 : v 1 = .int 0) : jE l s0 jcl D cA (d + 2) y_AL_grow [.ref al] σ (fun r σ' => r = some (.ref σ.2.1) ∧ jI s0.heap.size σ' ∧ jK [7] σ σ' ∧ (σ'.2.1 = σ.2.1 + 1 ∧ σ'.2.2 = σ.2.2 + 10) ∧ s0.heap.size ≤ σ.2.1 ∧ σ'.1 al = some (7, 3, updV v 0 (.ref σ.2.1)) ∧ σ'.1 σ.2.1 = some (1004, 10, fun _ => .null)) := by
  refine jE.ofF (by decide +kernel) (by simp [Value.category]) (Nat.le_of_ble_eq_true rfl) rfl ?_
  refine jW.aload_n (dx_AL_grow 0 (e := (0, .aload_n 0, 1)) rfl) rfl rfl (pc' := 1) rfl ?_
  refine jW.aload_n (dx_AL_grow 1 (e := (1, .aload_n 0, 1)) rfl) rfl rfl (pc' := 2) rfl ?_
  refine jW.getf F f_AL_grow_2 (by assumption) (by assumption) (pc' := 5) rfl ?_
  refine jW.iconst (v := 1) (dx_AL_grow 3 (e := (5, .iconst 1, 1)) rfl) (by decide) (pc' := 6) rfl ?_
  refine jW.iadd (dx_AL_grow 4 (e := (6, .iadd, 1)) rfl) (pc' := 7) rfl ?_
  rw [show (0 : Int32) + 1 = nI 1 from rfl]
  refine jW.callV F (e_AL_grow2E F hE hI hal Bhal h0 h1) (dx_AL_grow 5 (e := (7, .invokevirtual 69, 3)) rfl) can_AL_grow2 jw_163 jw_165 (by assumption) rfl sel_AL_grow2 rfl rfl (Nat.le_of_ble_eq_true rfl) (pc' := 10) rfl (fun r σ1 hr => ?_)
  obtain ⟨rfl, z1⟩ := hr
  refine jW.aret (dx_AL_grow 6 (e := (10, .areturn, 1)) rfl) rfl (by first | exact Or.inl ⟨_, rfl⟩ | exact Or.inr ⟨_, rfl⟩) (by first | exact Or.inl rfl | exact Or.inr ⟨_, rfl⟩) ?_
  exact ⟨rfl, z1⟩
theorem e_AL_add2E (F : jOK s0 jcl D cA lw_tbl a0 jty) {al em b nb : Nat} {v ub : Nat → Value} (hE : EMP s0 em) (hI : jI s0.heap.size σ) (hal : σ.1 al = some (7, 3, v)) (Bhal : s0.heap.size ≤ al) (h0 : v 0 = .ref em) (h1 : v 1 = .int 0) (hb : σ.1 b = some (3, nb, ub)) : jE l s0 jcl D cA (d + 3) y_AL_add2 [.ref al, .ref b, .ref em, .int 0] σ (fun r σ' => r = none ∧ jI s0.heap.size σ' ∧ jK [7, 1004] σ σ' ∧ (σ'.2.1 = σ.2.1 + 1 ∧ σ'.2.2 = σ.2.2 + 10) ∧ ∃ (ed : Nat) (v' w' : Nat → Value), σ'.1 al = some (7, 3, v') ∧ v' 0 = .ref ed ∧ v' 1 = .int (nI 1) ∧ v' 2 = v 2 ∧ σ'.1 ed = some (1004, 10, w') ∧ w' 0 = .ref b ∧ s0.heap.size ≤ ed) := by
  refine jE.ofF (by decide +kernel) (by simp [Value.category]) (Nat.le_of_ble_eq_true rfl) rfl ?_
  refine jW.iload_n (dx_AL_add2 0 (e := (0, .iload_n 3, 1)) rfl) rfl rfl (pc' := 1) rfl ?_
  refine jW.aload_n (dx_AL_add2 1 (e := (1, .aload_n 2, 1)) rfl) rfl rfl (pc' := 2) rfl ?_
  refine jW.alenO (i := 0) F (dx_AL_add2 2 (e := (2, .arraylength, 1)) rfl) hE.2 rfl (pc' := 3) rfl ?_
  refine jW.icmp_ne (dx_AL_add2 3 (e := (3, .if_icmp .ne 8, 3)) rfl) 11 (by decide) (pc' := 6) rfl (fun c_3 => absurd rfl c_3) (fun c_3 => ?_)
  refine jW.aload_n (dx_AL_add2 4 (e := (6, .aload_n 0, 1)) rfl) rfl rfl (pc' := 7) rfl ?_
  refine jW.callV F (e_AL_growE F hE hI hal Bhal h0 h1) (dx_AL_add2 5 (e := (7, .invokevirtual 129, 3)) rfl) can_AL_grow jw_159 jw_161 (by assumption) rfl sel_AL_grow rfl rfl (Nat.le_of_ble_eq_true rfl) (pc' := 10) rfl (fun r σ1 hr => ?_)
  obtain ⟨rfl, g1, g2, gz, g3, g4, g5⟩ := hr
  have hb1 : σ1.1 b = some (3, nb, ub) := g2 _ _ _ _ hb (by decide)
  refine jW.astore_n (dx_AL_add2 6 (e := (10, .astore_n 2, 1)) rfl) rfl (by decide) rfl (pc' := 11) rfl ?_
  refine jW.aload_n (dx_AL_add2 7 (e := (11, .aload_n 2, 1)) rfl) rfl rfl (pc' := 12) rfl ?_
  refine jW.iload_n (dx_AL_add2 8 (e := (12, .iload_n 3, 1)) rfl) rfl rfl (pc' := 13) rfl ?_
  refine jW.aload_n (dx_AL_add2 9 (e := (13, .aload_n 1, 1)) rfl) rfl rfl (pc' := 14) rfl ?_
  refine jW.aast (t := 1004) (ci := 3) (q := jQ_Block) (C := "java/lang/Object") F (dx_AL_add2 10 (e := (14, .aastore, 1)) rfl) (by decide) rfl g5 g3 hb1 rfl (Or.inr jw_1427) ((vp_nI (n := 0) (N := 10) (by decide)).mpr (by decide)) rfl (pc' := 15) rfl ?_
  have hal1 : (jput σ1 σ.2.1 (1004, 10, updV (fun _ => Value.null) (0 : Int32).toNatClampNeg (.ref b))).1 al = some (7, 3, updV v 0 (.ref σ.2.1)) := by rw [jput_ne (jne g4 g5 (by decide))]; exact g4
  refine jW.aload_n (dx_AL_add2 11 (e := (15, .aload_n 0, 1)) rfl) rfl rfl (pc' := 16) rfl ?_
  refine jW.iload_n (dx_AL_add2 12 (e := (16, .iload_n 3, 1)) rfl) rfl rfl (pc' := 17) rfl ?_
  refine jW.iconst (v := 1) (dx_AL_add2 13 (e := (17, .iconst 1, 1)) rfl) (by decide) (pc' := 18) rfl ?_
  refine jW.iadd (dx_AL_add2 14 (e := (18, .iadd, 1)) rfl) (pc' := 19) rfl ?_
  refine jW.putA (ci := 7) (k := 1) F f_AL_add2_19 rfl jF_AL jTab_AL rfl hal1 Bhal rfl rfl (pc' := 22) rfl (g1.put g5) (fun σ2 hx1 hI2 hK2 hz2 => ?_)
  refine jW.vret (dx_AL_add2 16 (e := (22, .return_, 1)) rfl) rfl ?_
  exact ⟨rfl, hI2, ((g2.mono (by decide)).trans (jK.put g5 (by decide))).trans (hK2.mono (by decide)), ⟨hz2.1.trans gz.1, hz2.2.trans gz.2⟩, σ.2.1, _, _, hx1, rfl, rfl, rfl, hK2 _ _ _ _ (jput_at _ _ _) (by decide), rfl, g3⟩
theorem e_AL_addE (F : jOK s0 jcl D cA lw_tbl a0 jty) {al em b nb : Nat} {v ub : Nat → Value} (hE : EMP s0 em) (hI : jI s0.heap.size σ) (hal : σ.1 al = some (7, 3, v)) (Bhal : s0.heap.size ≤ al) (h0 : v 0 = .ref em) (h1 : v 1 = .int 0) (h2 : v 2 = .int 0) (hb : σ.1 b = some (3, nb, ub)) : jE l s0 jcl D cA (d + 4) y_AL_add [.ref al, .ref b] σ (fun r σ' => r = some (.int 1) ∧ jI s0.heap.size σ' ∧ jK [7, 1004] σ σ' ∧ (σ'.2.1 = σ.2.1 + 1 ∧ σ'.2.2 = σ.2.2 + 10) ∧ ∃ (ed : Nat) (v' w' : Nat → Value), σ'.1 al = some (7, 3, v') ∧ v' 0 = .ref ed ∧ v' 1 = .int (nI 1) ∧ v' 2 = .int 1 ∧ σ'.1 ed = some (1004, 10, w') ∧ w' 0 = .ref b ∧ s0.heap.size ≤ ed) := by
  refine jE.ofF (by decide +kernel) (by simp [Value.category]) (Nat.le_of_ble_eq_true rfl) rfl ?_
  refine jW.aload_n (dx_AL_add 0 (e := (0, .aload_n 0, 1)) rfl) rfl rfl (pc' := 1) rfl ?_
  refine jW.dup (dx_AL_add 1 (e := (1, .dup, 1)) rfl) rfl (pc' := 2) rfl ?_
  refine jW.getf F f_AL_add_2 (by assumption) (by assumption) (pc' := 5) rfl ?_
  refine jW.iconst (v := 1) (dx_AL_add 3 (e := (5, .iconst 1, 1)) rfl) (by decide) (pc' := 6) rfl ?_
  refine jW.iadd (dx_AL_add 4 (e := (6, .iadd, 1)) rfl) (pc' := 7) rfl ?_
  refine jW.putA (ci := 7) (k := 2) F f_AL_add_7 rfl jF_AL jTab_AL rfl hal Bhal rfl rfl (pc' := 10) rfl hI (fun σ1 hal1 hI1 hK1 hz1 => ?_)
  have h01 : updV v 2 (.int (0 + 1)) 0 = .ref em := h0
  have h11 : updV v 2 (.int (0 + 1)) 1 = .int 0 := h1
  have hb1 : σ1.1 b = some (3, nb, ub) := hK1 _ _ _ _ hb (by decide)
  refine jW.aload_n (dx_AL_add 6 (e := (10, .aload_n 0, 1)) rfl) rfl rfl (pc' := 11) rfl ?_
  refine jW.aload_n (dx_AL_add 7 (e := (11, .aload_n 1, 1)) rfl) rfl rfl (pc' := 12) rfl ?_
  refine jW.aload_n (dx_AL_add 8 (e := (12, .aload_n 0, 1)) rfl) rfl rfl (pc' := 13) rfl ?_
  refine jW.getf F f_AL_add_13 (by assumption) (by assumption) (pc' := 16) rfl ?_
  refine jW.aload_n (dx_AL_add 10 (e := (16, .aload_n 0, 1)) rfl) rfl rfl (pc' := 17) rfl ?_
  refine jW.getf F f_AL_add_17 (by assumption) (by assumption) (pc' := 20) rfl ?_
  refine jW.callV F (e_AL_add2E F hE hI1 hal1 Bhal h01 h11 hb1) (dx_AL_add 12 (e := (20, .invokevirtual 131, 3)) rfl) can_AL_add2 jw_155 jw_157 (by assumption) rfl sel_AL_add2 rfl rfl (Nat.le_of_ble_eq_true rfl) (pc' := 23) rfl (fun r σ1 hr => ?_)
  obtain ⟨rfl, g1, g2, gz, ed, v', w', q1, q2, q3, q4, q5⟩ := hr
  refine jW.iconst (v := 1) (dx_AL_add 13 (e := (23, .iconst 1, 1)) rfl) (by decide) (pc' := 24) rfl ?_
  refine jW.zret (dx_AL_add 14 (e := (24, .ireturn, 1)) rfl) rfl (by decide) ?_
  exact ⟨rfl, g1, (hK1.mono (by decide)).trans g2, ⟨by rw [gz.1, hz1.1], by rw [gz.2, hz1.2]⟩, ed, v', w', q1, q2, q3, q4, q5⟩
end CON
