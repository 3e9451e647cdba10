section CON4
variable {l : Launch} {s0 : State} {cl : List vw_C} {D : va_G} {cA : Nat → ClassId} {d : Nat} {y : jM} {pc : Nat} {L : jL} {st : List Value} {σ : jS} {Φ : Option Value → jS → Prop} {tb : List Cond} {a0 : Array Value} {ty : Nat → FieldType}
theorem jW.newaT (F : jOK s0 cl D cA tb a0 ty) {t : Nat} {atype : ArrayType} (hd : decode y.2.1 pc = .ok (.newarray atype, 2)) (h1000 : 1000 ≤ t) (hty : newarray.typeOf atype = ty t) (hRA : ∀ U : State, va_RA U (cA t) (newarray.typeOf atype) → U.vm.findClass ("[" ++ (newarray.typeOf atype).toString) = some (cA t)) (h1 : Cond.arrayClass (newarray.typeOf atype) ∈ tb) {i : Int32} {N : Nat} (hi : ¬ i < 0) (hN : i.toNatClampNeg = N) (hb8 : N * componentBytes (newarray.typeOf atype) ≤ 536870912) (hv : defaultValue (newarray.typeOf atype) = .int 0) {pc' : Nat} (hp : pc + 2 = pc') (hI : jI s0.heap.size σ) (kk : ∀ (a : Nat) (σ1 : jS), σ1.1 a = some (t, N, fun _ => .int 0) → s0.heap.size ≤ a → jI s0.heap.size σ1 → jK [] σ σ1 → (σ1.2.1 = σ.2.1 + 1 ∧ σ1.2.2 = σ.2.2 + N) → jW l s0 cl D cA d y pc' L (.ref a :: st) σ1 Φ) : jW l s0 cl D cA d y pc L (.int i :: st) σ Φ :=
  jW.newa (t := t) (atype := atype) F hd h1000 hty (fun U h => hRA U (hty ▸ h)) h1 hi hN hb8 rfl (by funext _; exact hv) rfl hp hI.1 (kk _ _ (jnew_at _ _ _) hI.1 hI.new (jK.new hI) ⟨rfl, rfl⟩)
theorem jW.iastA (F : jOK s0 cl D cA tb a0 ty) {t a n : Nat} {v : Nat → Value} (hd : decode y.2.1 pc = .ok (.iastore, 1)) (h1000 : 1000 ≤ t) (hty : ty t = .int) (ha : σ.1 a = some (t, n, v)) (hB : s0.heap.size ≤ a) {i x : Int32} {k : Nat} (hi : vp_in i n) (hk : i.toNatClampNeg = k) {pc' : Nat} (hp : pc + 1 = pc') (hI : jI s0.heap.size σ) (kk : ∀ σ1 : jS, σ1.1 a = some (t, n, updV v k (.int x)) → jI s0.heap.size σ1 → jK [t] σ σ1 → (σ1.2.1 = σ.2.1 ∧ σ1.2.2 = σ.2.2) → jW l s0 cl D cA d y pc' L st σ1 Φ) : jW l s0 cl D cA d y pc L (.int x :: .int i :: .ref a :: st) σ Φ := by
  subst hk
  exact jW.iast F hd h1000 hty ha hB hi rfl hp (kk _ (jput_at _ _ _) (hI.put ha) (jK.put ha List.mem_cons_self) ⟨rfl, rfl⟩)
end CON4
def arF (a1 a2 a7 a8 a9 a13 a14 a15 a16 a17 a18 a19 a20 a21 a22 a23 a24 a25 a26 a27 a29 a37 a38 a41 a42 a43 a44 a45 a46 a52 a53 : Nat) : Nat → Nat
  | 1 => a1
  | 2 => a2
  | 7 => a7
  | 8 => a8
  | 9 => a9
  | 13 => a13
  | 14 => a14
  | 15 => a15
  | 16 => a16
  | 17 => a17
  | 18 => a18
  | 19 => a19
  | 20 => a20
  | 21 => a21
  | 22 => a22
  | 23 => a23
  | 24 => a24
  | 25 => a25
  | 26 => a26
  | 27 => a27
  | 29 => a29
  | 37 => a37
  | 38 => a38
  | 41 => a41
  | 42 => a42
  | 43 => a43
  | 44 => a44
  | 45 => a45
  | 46 => a46
  | 52 => a52
  | 53 => a53
  | _ => 0
/-- a new model -/
def m00 : MS := (fun k => if k = 5 then -1 else 0, fun k i => if k = 52 then nI (nmW i) else if k = 53 then nI (nmT i) else 0)
theorem e_Mo_init {l : Launch} {s0 : State} {D : va_G} {cA : Nat → ClassId} {a0 : Array Value} {d : Nat} {σ : jS} (F : jOK s0 jcl D cA lw_tbl a0 jty) {o : Nat} {v : Nat → Value} (hI : jI s0.heap.size σ) (ho : σ.1 o = some (8, 54, v)) (hv : ∀ k, k < 54 → mLen k = 0 → v k = .int 0) (Bho : s0.heap.size ≤ o) : jE l s0 jcl D cA (d + 1) y_Mo_init [.ref o] σ (fun r0 σ' => r0 = none ∧ jI s0.heap.size σ' ∧ jK mKs σ σ' ∧ (σ'.2.1 ≤ σ.2.1 + 31 ∧ σ'.2.2 ≤ σ.2.2 + 126472) ∧ ∃ ar : Nat → Nat, MV (l, s0, D, cA, (o, ar), σ') m00 σ') := by
  refine jE.of (by decide) (by simp [Value.category]) (Nat.le_of_ble_eq_true rfl) rfl ?_
  have hKK : jK mKs σ σ := jK.rfl
  have hZ : σ.2.1 ≤ σ.2.1 + 0 ∧ σ.2.2 ≤ σ.2.2 + 0 := ⟨Nat.le_refl _, Nat.le_refl _⟩
  refine jW.aload_n (dx_Mo_init 0 (e := (0, .aload_n 0, 1)) rfl) rfl rfl (pc' := 1) rfl ?_
  refine jW.objI F (dx_Mo_init 1 (e := (1, .invokespecial 1, 3)) rfl) jw_980 jw_31 jw_32 (Nat.le_of_ble_eq_true rfl) (pc' := 4) rfl ?_
  refine jW.aload_n (dx_Mo_init 2 (e := (4, .aload_n 0, 1)) rfl) rfl rfl (pc' := 5) rfl ?_
  refine jW.sipush (v := 3000) (dx_Mo_init 3 (e := (5, .sipush 3000, 3)) rfl) (by decide) (pc' := 8) rfl ?_
  refine jW.newaT (t := 1101) (N := 3000) F (dx_Mo_init 4 (e := (8, .newarray .byte, 2)) rfl) (by decide) rfl (fun U h => h) jw_937 (by decide) (by decide) (by decide) rfl (pc' := 10) rfl hI (fun a1 σ1 h1 Bh1 hI1 hK hz => ?_)
  replace ho := hK _ _ _ _ ho (by decide)
  replace hKK := hKK.trans (fun a t n v z _ => hK a t n v z (by simp))
  clear hK
  replace hI := hI1
  clear hI1
  replace hZ : σ1.2.1 ≤ σ.2.1 + 1 ∧ σ1.2.2 ≤ σ.2.2 + 3000 := ⟨by omega, by omega⟩
  clear hz
  refine jW.putFA (ci := 8) (k := 1) F rfl (dx_Mo_init 5 (e := (10, .putfield 7, 3)) rfl) (by decide) jw_987 jF_Mo jTab_Mo rfl rfl rfl ho Bho rfl rfl (pc' := 13) rfl hI (fun σ1 hx1 hI1 hK hz => ?_)
  replace h1 := hK _ _ _ _ h1 (by decide)
  replace hKK := hKK.trans (hK.mono (by decide))
  clear hK
  replace ho := hx1
  clear hx1
  replace hI := hI1
  clear hI1
  replace hZ : σ1.2.1 ≤ σ.2.1 + 1 ∧ σ1.2.2 ≤ σ.2.2 + 3000 := ⟨by omega, by omega⟩
  clear hz
  refine jW.aload_n (dx_Mo_init 6 (e := (13, .aload_n 0, 1)) rfl) rfl rfl (pc' := 14) rfl ?_
  refine jW.bipush (v := 20) (dx_Mo_init 7 (e := (14, .bipush 20, 2)) rfl) (by decide) (pc' := 16) rfl ?_
  refine jW.newaT (t := 1102) (N := 20) F (dx_Mo_init 8 (e := (16, .newarray .byte, 2)) rfl) (by decide) rfl (fun U h => h) jw_937 (by decide) (by decide) (by decide) rfl (pc' := 18) rfl hI (fun a2 σ1 h2 Bh2 hI1 hK hz => ?_)
  replace ho := hK _ _ _ _ ho (by decide)
  replace h1 := hK _ _ _ _ h1 (by decide)
  replace hKK := hKK.trans (fun a t n v z _ => hK a t n v z (by simp))
  clear hK
  replace hI := hI1
  clear hI1
  replace hZ : σ1.2.1 ≤ σ.2.1 + 2 ∧ σ1.2.2 ≤ σ.2.2 + 3020 := ⟨by omega, by omega⟩
  clear hz
  refine jW.putFA (ci := 8) (k := 2) F rfl (dx_Mo_init 9 (e := (18, .putfield 13, 3)) rfl) (by decide) jw_988 jF_Mo jTab_Mo rfl rfl rfl ho Bho rfl rfl (pc' := 21) rfl hI (fun σ1 hx1 hI1 hK hz => ?_)
  replace h1 := hK _ _ _ _ h1 (by decide)
  replace h2 := hK _ _ _ _ h2 (by decide)
  replace hKK := hKK.trans (hK.mono (by decide))
  clear hK
  replace ho := hx1
  clear hx1
  replace hI := hI1
  clear hI1
  replace hZ : σ1.2.1 ≤ σ.2.1 + 2 ∧ σ1.2.2 ≤ σ.2.2 + 3020 := ⟨by omega, by omega⟩
  clear hz
  refine jW.aload_n (dx_Mo_init 10 (e := (21, .aload_n 0, 1)) rfl) rfl rfl (pc' := 22) rfl ?_
  refine jW.iconst (v := -1) (dx_Mo_init 11 (e := (22, .iconst (-1), 1)) rfl) (by decide) (pc' := 23) rfl ?_
  refine jW.putA (ci := 8) (k := 5) F f_Mo_init_23 rfl jF_Mo jTab_Mo rfl ho Bho rfl rfl (pc' := 26) rfl hI (fun σ1 hx1 hI1 hK hz => ?_)
  replace h1 := hK _ _ _ _ h1 (by decide)
  replace h2 := hK _ _ _ _ h2 (by decide)
  replace hKK := hKK.trans (hK.mono (by decide))
  clear hK
  replace ho := hx1
  clear hx1
  replace hI := hI1
  clear hI1
  replace hZ : σ1.2.1 ≤ σ.2.1 + 2 ∧ σ1.2.2 ≤ σ.2.2 + 3020 := ⟨by omega, by omega⟩
  clear hz
  refine jW.aload_n (dx_Mo_init 13 (e := (26, .aload_n 0, 1)) rfl) rfl rfl (pc' := 27) rfl ?_
  refine jW.ldc (v := 48000) F (dx_Mo_init 14 (e := (27, .ldc 20, 2)) rfl) jw_981 (Or.inl rfl) (pc' := 29) rfl ?_
  refine jW.newaT (t := 1107) (N := 48000) F (dx_Mo_init 15 (e := (29, .newarray .int, 2)) rfl) (by decide) rfl (fun U h => h) jw_46 (by decide) (by decide) (by decide) rfl (pc' := 31) rfl hI (fun a7 σ1 h7 Bh7 hI1 hK hz => ?_)
  replace ho := hK _ _ _ _ ho (by decide)
  replace h1 := hK _ _ _ _ h1 (by decide)
  replace h2 := hK _ _ _ _ h2 (by decide)
  replace hKK := hKK.trans (fun a t n v z _ => hK a t n v z (by simp))
  clear hK
  replace hI := hI1
  clear hI1
  replace hZ : σ1.2.1 ≤ σ.2.1 + 3 ∧ σ1.2.2 ≤ σ.2.2 + 51020 := ⟨by omega, by omega⟩
  clear hz
  refine jW.putFA (ci := 8) (k := 7) F rfl (dx_Mo_init 16 (e := (31, .putfield 21, 3)) rfl) (by decide) jw_993 jF_Mo jTab_Mo rfl rfl rfl ho Bho rfl rfl (pc' := 34) rfl hI (fun σ1 hx1 hI1 hK hz => ?_)
  replace h1 := hK _ _ _ _ h1 (by decide)
  replace h2 := hK _ _ _ _ h2 (by decide)
  replace h7 := hK _ _ _ _ h7 (by decide)
  replace hKK := hKK.trans (hK.mono (by decide))
  clear hK
  replace ho := hx1
  clear hx1
  replace hI := hI1
  clear hI1
  replace hZ : σ1.2.1 ≤ σ.2.1 + 3 ∧ σ1.2.2 ≤ σ.2.2 + 51020 := ⟨by omega, by omega⟩
  clear hz
  refine jW.aload_n (dx_Mo_init 17 (e := (34, .aload_n 0, 1)) rfl) rfl rfl (pc' := 35) rfl ?_
  refine jW.sipush (v := 3000) (dx_Mo_init 18 (e := (35, .sipush 3000, 3)) rfl) (by decide) (pc' := 38) rfl ?_
  refine jW.newaT (t := 1108) (N := 3000) F (dx_Mo_init 19 (e := (38, .newarray .int, 2)) rfl) (by decide) rfl (fun U h => h) jw_46 (by decide) (by decide) (by decide) rfl (pc' := 40) rfl hI (fun a8 σ1 h8 Bh8 hI1 hK hz => ?_)
  replace ho := hK _ _ _ _ ho (by decide)
  replace h1 := hK _ _ _ _ h1 (by decide)
  replace h2 := hK _ _ _ _ h2 (by decide)
  replace h7 := hK _ _ _ _ h7 (by decide)
  replace hKK := hKK.trans (fun a t n v z _ => hK a t n v z (by simp))
  clear hK
  replace hI := hI1
  clear hI1
  replace hZ : σ1.2.1 ≤ σ.2.1 + 4 ∧ σ1.2.2 ≤ σ.2.2 + 54020 := ⟨by omega, by omega⟩
  clear hz
  refine jW.putFA (ci := 8) (k := 8) F rfl (dx_Mo_init 20 (e := (40, .putfield 25, 3)) rfl) (by decide) jw_994 jF_Mo jTab_Mo rfl rfl rfl ho Bho rfl rfl (pc' := 43) rfl hI (fun σ1 hx1 hI1 hK hz => ?_)
  replace h1 := hK _ _ _ _ h1 (by decide)
  replace h2 := hK _ _ _ _ h2 (by decide)
  replace h7 := hK _ _ _ _ h7 (by decide)
  replace h8 := hK _ _ _ _ h8 (by decide)
  replace hKK := hKK.trans (hK.mono (by decide))
  clear hK
  replace ho := hx1
  clear hx1
  replace hI := hI1
  clear hI1
  replace hZ : σ1.2.1 ≤ σ.2.1 + 4 ∧ σ1.2.2 ≤ σ.2.2 + 54020 := ⟨by omega, by omega⟩
  clear hz
  refine jW.aload_n (dx_Mo_init 21 (e := (43, .aload_n 0, 1)) rfl) rfl rfl (pc' := 44) rfl ?_
  refine jW.sipush (v := 12100) (dx_Mo_init 22 (e := (44, .sipush 12100, 3)) rfl) (by decide) (pc' := 47) rfl ?_
  refine jW.newaT (t := 1109) (N := 12100) F (dx_Mo_init 23 (e := (47, .newarray .int, 2)) rfl) (by decide) rfl (fun U h => h) jw_46 (by decide) (by decide) (by decide) rfl (pc' := 49) rfl hI (fun a9 σ1 h9 Bh9 hI1 hK hz => ?_)
  replace ho := hK _ _ _ _ ho (by decide)
  replace h1 := hK _ _ _ _ h1 (by decide)
  replace h2 := hK _ _ _ _ h2 (by decide)
  replace h7 := hK _ _ _ _ h7 (by decide)
  replace h8 := hK _ _ _ _ h8 (by decide)
  replace hKK := hKK.trans (fun a t n v z _ => hK a t n v z (by simp))
  clear hK
  replace hI := hI1
  clear hI1
  replace hZ : σ1.2.1 ≤ σ.2.1 + 5 ∧ σ1.2.2 ≤ σ.2.2 + 66120 := ⟨by omega, by omega⟩
  clear hz
  refine jW.putFA (ci := 8) (k := 9) F rfl (dx_Mo_init 24 (e := (49, .putfield 28, 3)) rfl) (by decide) jw_995 jF_Mo jTab_Mo rfl rfl rfl ho Bho rfl rfl (pc' := 52) rfl hI (fun σ1 hx1 hI1 hK hz => ?_)
  replace h1 := hK _ _ _ _ h1 (by decide)
  replace h2 := hK _ _ _ _ h2 (by decide)
  replace h7 := hK _ _ _ _ h7 (by decide)
  replace h8 := hK _ _ _ _ h8 (by decide)
  replace h9 := hK _ _ _ _ h9 (by decide)
  replace hKK := hKK.trans (hK.mono (by decide))
  clear hK
  replace ho := hx1
  clear hx1
  replace hI := hI1
  clear hI1
  replace hZ : σ1.2.1 ≤ σ.2.1 + 5 ∧ σ1.2.2 ≤ σ.2.2 + 66120 := ⟨by omega, by omega⟩
  clear hz
  refine jW.aload_n (dx_Mo_init 25 (e := (52, .aload_n 0, 1)) rfl) rfl rfl (pc' := 53) rfl ?_
  refine jW.sipush (v := 3300) (dx_Mo_init 26 (e := (53, .sipush 3300, 3)) rfl) (by decide) (pc' := 56) rfl ?_
  refine jW.newaT (t := 1113) (N := 3300) F (dx_Mo_init 27 (e := (56, .newarray .int, 2)) rfl) (by decide) rfl (fun U h => h) jw_46 (by decide) (by decide) (by decide) rfl (pc' := 58) rfl hI (fun a13 σ1 h13 Bh13 hI1 hK hz => ?_)
  replace ho := hK _ _ _ _ ho (by decide)
  replace h1 := hK _ _ _ _ h1 (by decide)
  replace h2 := hK _ _ _ _ h2 (by decide)
  replace h7 := hK _ _ _ _ h7 (by decide)
  replace h8 := hK _ _ _ _ h8 (by decide)
  replace h9 := hK _ _ _ _ h9 (by decide)
  replace hKK := hKK.trans (fun a t n v z _ => hK a t n v z (by simp))
  clear hK
  replace hI := hI1
  clear hI1
  replace hZ : σ1.2.1 ≤ σ.2.1 + 6 ∧ σ1.2.2 ≤ σ.2.2 + 69420 := ⟨by omega, by omega⟩
  clear hz
  refine jW.putFA (ci := 8) (k := 13) F rfl (dx_Mo_init 28 (e := (58, .putfield 31, 3)) rfl) (by decide) jw_999 jF_Mo jTab_Mo rfl rfl rfl ho Bho rfl rfl (pc' := 61) rfl hI (fun σ1 hx1 hI1 hK hz => ?_)
  replace h1 := hK _ _ _ _ h1 (by decide)
  replace h2 := hK _ _ _ _ h2 (by decide)
  replace h7 := hK _ _ _ _ h7 (by decide)
  replace h8 := hK _ _ _ _ h8 (by decide)
  replace h9 := hK _ _ _ _ h9 (by decide)
  replace h13 := hK _ _ _ _ h13 (by decide)
  replace hKK := hKK.trans (hK.mono (by decide))
  clear hK
  replace ho := hx1
  clear hx1
  replace hI := hI1
  clear hI1
  replace hZ : σ1.2.1 ≤ σ.2.1 + 6 ∧ σ1.2.2 ≤ σ.2.2 + 69420 := ⟨by omega, by omega⟩
  clear hz
  refine jW.aload_n (dx_Mo_init 29 (e := (61, .aload_n 0, 1)) rfl) rfl rfl (pc' := 62) rfl ?_
  refine jW.sipush (v := 3300) (dx_Mo_init 30 (e := (62, .sipush 3300, 3)) rfl) (by decide) (pc' := 65) rfl ?_
  refine jW.newaT (t := 1114) (N := 3300) F (dx_Mo_init 31 (e := (65, .newarray .int, 2)) rfl) (by decide) rfl (fun U h => h) jw_46 (by decide) (by decide) (by decide) rfl (pc' := 67) rfl hI (fun a14 σ1 h14 Bh14 hI1 hK hz => ?_)
  replace ho := hK _ _ _ _ ho (by decide)
  replace h1 := hK _ _ _ _ h1 (by decide)
  replace h2 := hK _ _ _ _ h2 (by decide)
  replace h7 := hK _ _ _ _ h7 (by decide)
  replace h8 := hK _ _ _ _ h8 (by decide)
  replace h9 := hK _ _ _ _ h9 (by decide)
  replace h13 := hK _ _ _ _ h13 (by decide)
  replace hKK := hKK.trans (fun a t n v z _ => hK a t n v z (by simp))
  clear hK
  replace hI := hI1
  clear hI1
  replace hZ : σ1.2.1 ≤ σ.2.1 + 7 ∧ σ1.2.2 ≤ σ.2.2 + 72720 := ⟨by omega, by omega⟩
  clear hz
  refine jW.putFA (ci := 8) (k := 14) F rfl (dx_Mo_init 32 (e := (67, .putfield 34, 3)) rfl) (by decide) jw_1000 jF_Mo jTab_Mo rfl rfl rfl ho Bho rfl rfl (pc' := 70) rfl hI (fun σ1 hx1 hI1 hK hz => ?_)
  replace h1 := hK _ _ _ _ h1 (by decide)
  replace h2 := hK _ _ _ _ h2 (by decide)
  replace h7 := hK _ _ _ _ h7 (by decide)
  replace h8 := hK _ _ _ _ h8 (by decide)
  replace h9 := hK _ _ _ _ h9 (by decide)
  replace h13 := hK _ _ _ _ h13 (by decide)
  replace h14 := hK _ _ _ _ h14 (by decide)
  replace hKK := hKK.trans (hK.mono (by decide))
  clear hK
  replace ho := hx1
  clear hx1
  replace hI := hI1
  clear hI1
  replace hZ : σ1.2.1 ≤ σ.2.1 + 7 ∧ σ1.2.2 ≤ σ.2.2 + 72720 := ⟨by omega, by omega⟩
  clear hz
  refine jW.aload_n (dx_Mo_init 33 (e := (70, .aload_n 0, 1)) rfl) rfl rfl (pc' := 71) rfl ?_
  refine jW.sipush (v := 3300) (dx_Mo_init 34 (e := (71, .sipush 3300, 3)) rfl) (by decide) (pc' := 74) rfl ?_
  refine jW.newaT (t := 1115) (N := 3300) F (dx_Mo_init 35 (e := (74, .newarray .int, 2)) rfl) (by decide) rfl (fun U h => h) jw_46 (by decide) (by decide) (by decide) rfl (pc' := 76) rfl hI (fun a15 σ1 h15 Bh15 hI1 hK hz => ?_)
  replace ho := hK _ _ _ _ ho (by decide)
  replace h1 := hK _ _ _ _ h1 (by decide)
  replace h2 := hK _ _ _ _ h2 (by decide)
  replace h7 := hK _ _ _ _ h7 (by decide)
  replace h8 := hK _ _ _ _ h8 (by decide)
  replace h9 := hK _ _ _ _ h9 (by decide)
  replace h13 := hK _ _ _ _ h13 (by decide)
  replace h14 := hK _ _ _ _ h14 (by decide)
  replace hKK := hKK.trans (fun a t n v z _ => hK a t n v z (by simp))
  clear hK
  replace hI := hI1
  clear hI1
  replace hZ : σ1.2.1 ≤ σ.2.1 + 8 ∧ σ1.2.2 ≤ σ.2.2 + 76020 := ⟨by omega, by omega⟩
  clear hz
  refine jW.putFA (ci := 8) (k := 15) F rfl (dx_Mo_init 36 (e := (76, .putfield 37, 3)) rfl) (by decide) jw_1001 jF_Mo jTab_Mo rfl rfl rfl ho Bho rfl rfl (pc' := 79) rfl hI (fun σ1 hx1 hI1 hK hz => ?_)
  replace h1 := hK _ _ _ _ h1 (by decide)
  replace h2 := hK _ _ _ _ h2 (by decide)
  replace h7 := hK _ _ _ _ h7 (by decide)
  replace h8 := hK _ _ _ _ h8 (by decide)
  replace h9 := hK _ _ _ _ h9 (by decide)
  replace h13 := hK _ _ _ _ h13 (by decide)
  replace h14 := hK _ _ _ _ h14 (by decide)
  replace h15 := hK _ _ _ _ h15 (by decide)
  replace hKK := hKK.trans (hK.mono (by decide))
  clear hK
  replace ho := hx1
  clear hx1
  replace hI := hI1
  clear hI1
  replace hZ : σ1.2.1 ≤ σ.2.1 + 8 ∧ σ1.2.2 ≤ σ.2.2 + 76020 := ⟨by omega, by omega⟩
  clear hz
  refine jW.aload_n (dx_Mo_init 37 (e := (79, .aload_n 0, 1)) rfl) rfl rfl (pc' := 80) rfl ?_
  refine jW.sipush (v := 3300) (dx_Mo_init 38 (e := (80, .sipush 3300, 3)) rfl) (by decide) (pc' := 83) rfl ?_
  refine jW.newaT (t := 1116) (N := 3300) F (dx_Mo_init 39 (e := (83, .newarray .int, 2)) rfl) (by decide) rfl (fun U h => h) jw_46 (by decide) (by decide) (by decide) rfl (pc' := 85) rfl hI (fun a16 σ1 h16 Bh16 hI1 hK hz => ?_)
  replace ho := hK _ _ _ _ ho (by decide)
  replace h1 := hK _ _ _ _ h1 (by decide)
  replace h2 := hK _ _ _ _ h2 (by decide)
  replace h7 := hK _ _ _ _ h7 (by decide)
  replace h8 := hK _ _ _ _ h8 (by decide)
  replace h9 := hK _ _ _ _ h9 (by decide)
  replace h13 := hK _ _ _ _ h13 (by decide)
  replace h14 := hK _ _ _ _ h14 (by decide)
  replace h15 := hK _ _ _ _ h15 (by decide)
  replace hKK := hKK.trans (fun a t n v z _ => hK a t n v z (by simp))
  clear hK
  replace hI := hI1
  clear hI1
  replace hZ : σ1.2.1 ≤ σ.2.1 + 9 ∧ σ1.2.2 ≤ σ.2.2 + 79320 := ⟨by omega, by omega⟩
  clear hz
  refine jW.putFA (ci := 8) (k := 16) F rfl (dx_Mo_init 40 (e := (85, .putfield 40, 3)) rfl) (by decide) jw_1002 jF_Mo jTab_Mo rfl rfl rfl ho Bho rfl rfl (pc' := 88) rfl hI (fun σ1 hx1 hI1 hK hz => ?_)
  replace h1 := hK _ _ _ _ h1 (by decide)
  replace h2 := hK _ _ _ _ h2 (by decide)
  replace h7 := hK _ _ _ _ h7 (by decide)
  replace h8 := hK _ _ _ _ h8 (by decide)
  replace h9 := hK _ _ _ _ h9 (by decide)
  replace h13 := hK _ _ _ _ h13 (by decide)
  replace h14 := hK _ _ _ _ h14 (by decide)
  replace h15 := hK _ _ _ _ h15 (by decide)
  replace h16 := hK _ _ _ _ h16 (by decide)
  replace hKK := hKK.trans (hK.mono (by decide))
  clear hK
  replace ho := hx1
  clear hx1
  replace hI := hI1
  clear hI1
  replace hZ : σ1.2.1 ≤ σ.2.1 + 9 ∧ σ1.2.2 ≤ σ.2.2 + 79320 := ⟨by omega, by omega⟩
  clear hz
  refine jW.aload_n (dx_Mo_init 41 (e := (88, .aload_n 0, 1)) rfl) rfl rfl (pc' := 89) rfl ?_
  refine jW.sipush (v := 3300) (dx_Mo_init 42 (e := (89, .sipush 3300, 3)) rfl) (by decide) (pc' := 92) rfl ?_
  refine jW.newaT (t := 1117) (N := 3300) F (dx_Mo_init 43 (e := (92, .newarray .int, 2)) rfl) (by decide) rfl (fun U h => h) jw_46 (by decide) (by decide) (by decide) rfl (pc' := 94) rfl hI (fun a17 σ1 h17 Bh17 hI1 hK hz => ?_)
  replace ho := hK _ _ _ _ ho (by decide)
  replace h1 := hK _ _ _ _ h1 (by decide)
  replace h2 := hK _ _ _ _ h2 (by decide)
  replace h7 := hK _ _ _ _ h7 (by decide)
  replace h8 := hK _ _ _ _ h8 (by decide)
  replace h9 := hK _ _ _ _ h9 (by decide)
  replace h13 := hK _ _ _ _ h13 (by decide)
  replace h14 := hK _ _ _ _ h14 (by decide)
  replace h15 := hK _ _ _ _ h15 (by decide)
  replace h16 := hK _ _ _ _ h16 (by decide)
  replace hKK := hKK.trans (fun a t n v z _ => hK a t n v z (by simp))
  clear hK
  replace hI := hI1
  clear hI1
  replace hZ : σ1.2.1 ≤ σ.2.1 + 10 ∧ σ1.2.2 ≤ σ.2.2 + 82620 := ⟨by omega, by omega⟩
  clear hz
  refine jW.putFA (ci := 8) (k := 17) F rfl (dx_Mo_init 44 (e := (94, .putfield 43, 3)) rfl) (by decide) jw_1003 jF_Mo jTab_Mo rfl rfl rfl ho Bho rfl rfl (pc' := 97) rfl hI (fun σ1 hx1 hI1 hK hz => ?_)
  replace h1 := hK _ _ _ _ h1 (by decide)
  replace h2 := hK _ _ _ _ h2 (by decide)
  replace h7 := hK _ _ _ _ h7 (by decide)
  replace h8 := hK _ _ _ _ h8 (by decide)
  replace h9 := hK _ _ _ _ h9 (by decide)
  replace h13 := hK _ _ _ _ h13 (by decide)
  replace h14 := hK _ _ _ _ h14 (by decide)
  replace h15 := hK _ _ _ _ h15 (by decide)
  replace h16 := hK _ _ _ _ h16 (by decide)
  replace h17 := hK _ _ _ _ h17 (by decide)
  replace hKK := hKK.trans (hK.mono (by decide))
  clear hK
  replace ho := hx1
  clear hx1
  replace hI := hI1
  clear hI1
  replace hZ : σ1.2.1 ≤ σ.2.1 + 10 ∧ σ1.2.2 ≤ σ.2.2 + 82620 := ⟨by omega, by omega⟩
  clear hz
  refine jW.aload_n (dx_Mo_init 45 (e := (97, .aload_n 0, 1)) rfl) rfl rfl (pc' := 98) rfl ?_
  refine jW.sipush (v := 3300) (dx_Mo_init 46 (e := (98, .sipush 3300, 3)) rfl) (by decide) (pc' := 101) rfl ?_
  refine jW.newaT (t := 1118) (N := 3300) F (dx_Mo_init 47 (e := (101, .newarray .int, 2)) rfl) (by decide) rfl (fun U h => h) jw_46 (by decide) (by decide) (by decide) rfl (pc' := 103) rfl hI (fun a18 σ1 h18 Bh18 hI1 hK hz => ?_)
  replace ho := hK _ _ _ _ ho (by decide)
  replace h1 := hK _ _ _ _ h1 (by decide)
  replace h2 := hK _ _ _ _ h2 (by decide)
  replace h7 := hK _ _ _ _ h7 (by decide)
  replace h8 := hK _ _ _ _ h8 (by decide)
  replace h9 := hK _ _ _ _ h9 (by decide)
  replace h13 := hK _ _ _ _ h13 (by decide)
  replace h14 := hK _ _ _ _ h14 (by decide)
  replace h15 := hK _ _ _ _ h15 (by decide)
  replace h16 := hK _ _ _ _ h16 (by decide)
  replace h17 := hK _ _ _ _ h17 (by decide)
  replace hKK := hKK.trans (fun a t n v z _ => hK a t n v z (by simp))
  clear hK
  replace hI := hI1
  clear hI1
  replace hZ : σ1.2.1 ≤ σ.2.1 + 11 ∧ σ1.2.2 ≤ σ.2.2 + 85920 := ⟨by omega, by omega⟩
  clear hz
  refine jW.putFA (ci := 8) (k := 18) F rfl (dx_Mo_init 48 (e := (103, .putfield 46, 3)) rfl) (by decide) jw_1004 jF_Mo jTab_Mo rfl rfl rfl ho Bho rfl rfl (pc' := 106) rfl hI (fun σ1 hx1 hI1 hK hz => ?_)
  replace h1 := hK _ _ _ _ h1 (by decide)
  replace h2 := hK _ _ _ _ h2 (by decide)
  replace h7 := hK _ _ _ _ h7 (by decide)
  replace h8 := hK _ _ _ _ h8 (by decide)
  replace h9 := hK _ _ _ _ h9 (by decide)
  replace h13 := hK _ _ _ _ h13 (by decide)
  replace h14 := hK _ _ _ _ h14 (by decide)
  replace h15 := hK _ _ _ _ h15 (by decide)
  replace h16 := hK _ _ _ _ h16 (by decide)
  replace h17 := hK _ _ _ _ h17 (by decide)
  replace h18 := hK _ _ _ _ h18 (by decide)
  replace hKK := hKK.trans (hK.mono (by decide))
  clear hK
  replace ho := hx1
  clear hx1
  replace hI := hI1
  clear hI1
  replace hZ : σ1.2.1 ≤ σ.2.1 + 11 ∧ σ1.2.2 ≤ σ.2.2 + 85920 := ⟨by omega, by omega⟩
  clear hz
  refine jW.aload_n (dx_Mo_init 49 (e := (106, .aload_n 0, 1)) rfl) rfl rfl (pc' := 107) rfl ?_
  refine jW.sipush (v := 3300) (dx_Mo_init 50 (e := (107, .sipush 3300, 3)) rfl) (by decide) (pc' := 110) rfl ?_
  refine jW.newaT (t := 1119) (N := 3300) F (dx_Mo_init 51 (e := (110, .newarray .int, 2)) rfl) (by decide) rfl (fun U h => h) jw_46 (by decide) (by decide) (by decide) rfl (pc' := 112) rfl hI (fun a19 σ1 h19 Bh19 hI1 hK hz => ?_)
  replace ho := hK _ _ _ _ ho (by decide)
  replace h1 := hK _ _ _ _ h1 (by decide)
  replace h2 := hK _ _ _ _ h2 (by decide)
  replace h7 := hK _ _ _ _ h7 (by decide)
  replace h8 := hK _ _ _ _ h8 (by decide)
  replace h9 := hK _ _ _ _ h9 (by decide)
  replace h13 := hK _ _ _ _ h13 (by decide)
  replace h14 := hK _ _ _ _ h14 (by decide)
  replace h15 := hK _ _ _ _ h15 (by decide)
  replace h16 := hK _ _ _ _ h16 (by decide)
  replace h17 := hK _ _ _ _ h17 (by decide)
  replace h18 := hK _ _ _ _ h18 (by decide)
  replace hKK := hKK.trans (fun a t n v z _ => hK a t n v z (by simp))
  clear hK
  replace hI := hI1
  clear hI1
  replace hZ : σ1.2.1 ≤ σ.2.1 + 12 ∧ σ1.2.2 ≤ σ.2.2 + 89220 := ⟨by omega, by omega⟩
  clear hz
  refine jW.putFA (ci := 8) (k := 19) F rfl (dx_Mo_init 52 (e := (112, .putfield 49, 3)) rfl) (by decide) jw_1005 jF_Mo jTab_Mo rfl rfl rfl ho Bho rfl rfl (pc' := 115) rfl hI (fun σ1 hx1 hI1 hK hz => ?_)
  replace h1 := hK _ _ _ _ h1 (by decide)
  replace h2 := hK _ _ _ _ h2 (by decide)
  replace h7 := hK _ _ _ _ h7 (by decide)
  replace h8 := hK _ _ _ _ h8 (by decide)
  replace h9 := hK _ _ _ _ h9 (by decide)
  replace h13 := hK _ _ _ _ h13 (by decide)
  replace h14 := hK _ _ _ _ h14 (by decide)
  replace h15 := hK _ _ _ _ h15 (by decide)
  replace h16 := hK _ _ _ _ h16 (by decide)
  replace h17 := hK _ _ _ _ h17 (by decide)
  replace h18 := hK _ _ _ _ h18 (by decide)
  replace h19 := hK _ _ _ _ h19 (by decide)
  replace hKK := hKK.trans (hK.mono (by decide))
  clear hK
  replace ho := hx1
  clear hx1
  replace hI := hI1
  clear hI1
  replace hZ : σ1.2.1 ≤ σ.2.1 + 12 ∧ σ1.2.2 ≤ σ.2.2 + 89220 := ⟨by omega, by omega⟩
  clear hz
  refine jW.aload_n (dx_Mo_init 53 (e := (115, .aload_n 0, 1)) rfl) rfl rfl (pc' := 116) rfl ?_
  refine jW.sipush (v := 3300) (dx_Mo_init 54 (e := (116, .sipush 3300, 3)) rfl) (by decide) (pc' := 119) rfl ?_
  refine jW.newaT (t := 1120) (N := 3300) F (dx_Mo_init 55 (e := (119, .newarray .int, 2)) rfl) (by decide) rfl (fun U h => h) jw_46 (by decide) (by decide) (by decide) rfl (pc' := 121) rfl hI (fun a20 σ1 h20 Bh20 hI1 hK hz => ?_)
  replace ho := hK _ _ _ _ ho (by decide)
  replace h1 := hK _ _ _ _ h1 (by decide)
  replace h2 := hK _ _ _ _ h2 (by decide)
  replace h7 := hK _ _ _ _ h7 (by decide)
  replace h8 := hK _ _ _ _ h8 (by decide)
  replace h9 := hK _ _ _ _ h9 (by decide)
  replace h13 := hK _ _ _ _ h13 (by decide)
  replace h14 := hK _ _ _ _ h14 (by decide)
  replace h15 := hK _ _ _ _ h15 (by decide)
  replace h16 := hK _ _ _ _ h16 (by decide)
  replace h17 := hK _ _ _ _ h17 (by decide)
  replace h18 := hK _ _ _ _ h18 (by decide)
  replace h19 := hK _ _ _ _ h19 (by decide)
  replace hKK := hKK.trans (fun a t n v z _ => hK a t n v z (by simp))
  clear hK
  replace hI := hI1
  clear hI1
  replace hZ : σ1.2.1 ≤ σ.2.1 + 13 ∧ σ1.2.2 ≤ σ.2.2 + 92520 := ⟨by omega, by omega⟩
  clear hz
  refine jW.putFA (ci := 8) (k := 20) F rfl (dx_Mo_init 56 (e := (121, .putfield 52, 3)) rfl) (by decide) jw_1006 jF_Mo jTab_Mo rfl rfl rfl ho Bho rfl rfl (pc' := 124) rfl hI (fun σ1 hx1 hI1 hK hz => ?_)
  replace h1 := hK _ _ _ _ h1 (by decide)
  replace h2 := hK _ _ _ _ h2 (by decide)
  replace h7 := hK _ _ _ _ h7 (by decide)
  replace h8 := hK _ _ _ _ h8 (by decide)
  replace h9 := hK _ _ _ _ h9 (by decide)
  replace h13 := hK _ _ _ _ h13 (by decide)
  replace h14 := hK _ _ _ _ h14 (by decide)
  replace h15 := hK _ _ _ _ h15 (by decide)
  replace h16 := hK _ _ _ _ h16 (by decide)
  replace h17 := hK _ _ _ _ h17 (by decide)
  replace h18 := hK _ _ _ _ h18 (by decide)
  replace h19 := hK _ _ _ _ h19 (by decide)
  replace h20 := hK _ _ _ _ h20 (by decide)
  replace hKK := hKK.trans (hK.mono (by decide))
  clear hK
  replace ho := hx1
  clear hx1
  replace hI := hI1
  clear hI1
  replace hZ : σ1.2.1 ≤ σ.2.1 + 13 ∧ σ1.2.2 ≤ σ.2.2 + 92520 := ⟨by omega, by omega⟩
  clear hz
  refine jW.aload_n (dx_Mo_init 57 (e := (124, .aload_n 0, 1)) rfl) rfl rfl (pc' := 125) rfl ?_
  refine jW.sipush (v := 3300) (dx_Mo_init 58 (e := (125, .sipush 3300, 3)) rfl) (by decide) (pc' := 128) rfl ?_
  refine jW.newaT (t := 1121) (N := 3300) F (dx_Mo_init 59 (e := (128, .newarray .int, 2)) rfl) (by decide) rfl (fun U h => h) jw_46 (by decide) (by decide) (by decide) rfl (pc' := 130) rfl hI (fun a21 σ1 h21 Bh21 hI1 hK hz => ?_)
  replace ho := hK _ _ _ _ ho (by decide)
  replace h1 := hK _ _ _ _ h1 (by decide)
  replace h2 := hK _ _ _ _ h2 (by decide)
  replace h7 := hK _ _ _ _ h7 (by decide)
  replace h8 := hK _ _ _ _ h8 (by decide)
  replace h9 := hK _ _ _ _ h9 (by decide)
  replace h13 := hK _ _ _ _ h13 (by decide)
  replace h14 := hK _ _ _ _ h14 (by decide)
  replace h15 := hK _ _ _ _ h15 (by decide)
  replace h16 := hK _ _ _ _ h16 (by decide)
  replace h17 := hK _ _ _ _ h17 (by decide)
  replace h18 := hK _ _ _ _ h18 (by decide)
  replace h19 := hK _ _ _ _ h19 (by decide)
  replace h20 := hK _ _ _ _ h20 (by decide)
  replace hKK := hKK.trans (fun a t n v z _ => hK a t n v z (by simp))
  clear hK
  replace hI := hI1
  clear hI1
  replace hZ : σ1.2.1 ≤ σ.2.1 + 14 ∧ σ1.2.2 ≤ σ.2.2 + 95820 := ⟨by omega, by omega⟩
  clear hz
  refine jW.putFA (ci := 8) (k := 21) F rfl (dx_Mo_init 60 (e := (130, .putfield 55, 3)) rfl) (by decide) jw_1007 jF_Mo jTab_Mo rfl rfl rfl ho Bho rfl rfl (pc' := 133) rfl hI (fun σ1 hx1 hI1 hK hz => ?_)
  replace h1 := hK _ _ _ _ h1 (by decide)
  replace h2 := hK _ _ _ _ h2 (by decide)
  replace h7 := hK _ _ _ _ h7 (by decide)
  replace h8 := hK _ _ _ _ h8 (by decide)
  replace h9 := hK _ _ _ _ h9 (by decide)
  replace h13 := hK _ _ _ _ h13 (by decide)
  replace h14 := hK _ _ _ _ h14 (by decide)
  replace h15 := hK _ _ _ _ h15 (by decide)
  replace h16 := hK _ _ _ _ h16 (by decide)
  replace h17 := hK _ _ _ _ h17 (by decide)
  replace h18 := hK _ _ _ _ h18 (by decide)
  replace h19 := hK _ _ _ _ h19 (by decide)
  replace h20 := hK _ _ _ _ h20 (by decide)
  replace h21 := hK _ _ _ _ h21 (by decide)
  replace hKK := hKK.trans (hK.mono (by decide))
  clear hK
  replace ho := hx1
  clear hx1
  replace hI := hI1
  clear hI1
  replace hZ : σ1.2.1 ≤ σ.2.1 + 14 ∧ σ1.2.2 ≤ σ.2.2 + 95820 := ⟨by omega, by omega⟩
  clear hz
  refine jW.aload_n (dx_Mo_init 61 (e := (133, .aload_n 0, 1)) rfl) rfl rfl (pc' := 134) rfl ?_
  refine jW.sipush (v := 3300) (dx_Mo_init 62 (e := (134, .sipush 3300, 3)) rfl) (by decide) (pc' := 137) rfl ?_
  refine jW.newaT (t := 1122) (N := 3300) F (dx_Mo_init 63 (e := (137, .newarray .int, 2)) rfl) (by decide) rfl (fun U h => h) jw_46 (by decide) (by decide) (by decide) rfl (pc' := 139) rfl hI (fun a22 σ1 h22 Bh22 hI1 hK hz => ?_)
  replace ho := hK _ _ _ _ ho (by decide)
  replace h1 := hK _ _ _ _ h1 (by decide)
  replace h2 := hK _ _ _ _ h2 (by decide)
  replace h7 := hK _ _ _ _ h7 (by decide)
  replace h8 := hK _ _ _ _ h8 (by decide)
  replace h9 := hK _ _ _ _ h9 (by decide)
  replace h13 := hK _ _ _ _ h13 (by decide)
  replace h14 := hK _ _ _ _ h14 (by decide)
  replace h15 := hK _ _ _ _ h15 (by decide)
  replace h16 := hK _ _ _ _ h16 (by decide)
  replace h17 := hK _ _ _ _ h17 (by decide)
  replace h18 := hK _ _ _ _ h18 (by decide)
  replace h19 := hK _ _ _ _ h19 (by decide)
  replace h20 := hK _ _ _ _ h20 (by decide)
  replace h21 := hK _ _ _ _ h21 (by decide)
  replace hKK := hKK.trans (fun a t n v z _ => hK a t n v z (by simp))
  clear hK
  replace hI := hI1
  clear hI1
  replace hZ : σ1.2.1 ≤ σ.2.1 + 15 ∧ σ1.2.2 ≤ σ.2.2 + 99120 := ⟨by omega, by omega⟩
  clear hz
  refine jW.putFA (ci := 8) (k := 22) F rfl (dx_Mo_init 64 (e := (139, .putfield 58, 3)) rfl) (by decide) jw_1008 jF_Mo jTab_Mo rfl rfl rfl ho Bho rfl rfl (pc' := 142) rfl hI (fun σ1 hx1 hI1 hK hz => ?_)
  replace h1 := hK _ _ _ _ h1 (by decide)
  replace h2 := hK _ _ _ _ h2 (by decide)
  replace h7 := hK _ _ _ _ h7 (by decide)
  replace h8 := hK _ _ _ _ h8 (by decide)
  replace h9 := hK _ _ _ _ h9 (by decide)
  replace h13 := hK _ _ _ _ h13 (by decide)
  replace h14 := hK _ _ _ _ h14 (by decide)
  replace h15 := hK _ _ _ _ h15 (by decide)
  replace h16 := hK _ _ _ _ h16 (by decide)
  replace h17 := hK _ _ _ _ h17 (by decide)
  replace h18 := hK _ _ _ _ h18 (by decide)
  replace h19 := hK _ _ _ _ h19 (by decide)
  replace h20 := hK _ _ _ _ h20 (by decide)
  replace h21 := hK _ _ _ _ h21 (by decide)
  replace h22 := hK _ _ _ _ h22 (by decide)
  replace hKK := hKK.trans (hK.mono (by decide))
  clear hK
  replace ho := hx1
  clear hx1
  replace hI := hI1
  clear hI1
  replace hZ : σ1.2.1 ≤ σ.2.1 + 15 ∧ σ1.2.2 ≤ σ.2.2 + 99120 := ⟨by omega, by omega⟩
  clear hz
  refine jW.aload_n (dx_Mo_init 65 (e := (142, .aload_n 0, 1)) rfl) rfl rfl (pc' := 143) rfl ?_
  refine jW.sipush (v := 3300) (dx_Mo_init 66 (e := (143, .sipush 3300, 3)) rfl) (by decide) (pc' := 146) rfl ?_
  refine jW.newaT (t := 1123) (N := 3300) F (dx_Mo_init 67 (e := (146, .newarray .int, 2)) rfl) (by decide) rfl (fun U h => h) jw_46 (by decide) (by decide) (by decide) rfl (pc' := 148) rfl hI (fun a23 σ1 h23 Bh23 hI1 hK hz => ?_)
  replace ho := hK _ _ _ _ ho (by decide)
  replace h1 := hK _ _ _ _ h1 (by decide)
  replace h2 := hK _ _ _ _ h2 (by decide)
  replace h7 := hK _ _ _ _ h7 (by decide)
  replace h8 := hK _ _ _ _ h8 (by decide)
  replace h9 := hK _ _ _ _ h9 (by decide)
  replace h13 := hK _ _ _ _ h13 (by decide)
  replace h14 := hK _ _ _ _ h14 (by decide)
  replace h15 := hK _ _ _ _ h15 (by decide)
  replace h16 := hK _ _ _ _ h16 (by decide)
  replace h17 := hK _ _ _ _ h17 (by decide)
  replace h18 := hK _ _ _ _ h18 (by decide)
  replace h19 := hK _ _ _ _ h19 (by decide)
  replace h20 := hK _ _ _ _ h20 (by decide)
  replace h21 := hK _ _ _ _ h21 (by decide)
  replace h22 := hK _ _ _ _ h22 (by decide)
  replace hKK := hKK.trans (fun a t n v z _ => hK a t n v z (by simp))
  clear hK
  replace hI := hI1
  clear hI1
  replace hZ : σ1.2.1 ≤ σ.2.1 + 16 ∧ σ1.2.2 ≤ σ.2.2 + 102420 := ⟨by omega, by omega⟩
  clear hz
  refine jW.putFA (ci := 8) (k := 23) F rfl (dx_Mo_init 68 (e := (148, .putfield 61, 3)) rfl) (by decide) jw_1009 jF_Mo jTab_Mo rfl rfl rfl ho Bho rfl rfl (pc' := 151) rfl hI (fun σ1 hx1 hI1 hK hz => ?_)
  replace h1 := hK _ _ _ _ h1 (by decide)
  replace h2 := hK _ _ _ _ h2 (by decide)
  replace h7 := hK _ _ _ _ h7 (by decide)
  replace h8 := hK _ _ _ _ h8 (by decide)
  replace h9 := hK _ _ _ _ h9 (by decide)
  replace h13 := hK _ _ _ _ h13 (by decide)
  replace h14 := hK _ _ _ _ h14 (by decide)
  replace h15 := hK _ _ _ _ h15 (by decide)
  replace h16 := hK _ _ _ _ h16 (by decide)
  replace h17 := hK _ _ _ _ h17 (by decide)
  replace h18 := hK _ _ _ _ h18 (by decide)
  replace h19 := hK _ _ _ _ h19 (by decide)
  replace h20 := hK _ _ _ _ h20 (by decide)
  replace h21 := hK _ _ _ _ h21 (by decide)
  replace h22 := hK _ _ _ _ h22 (by decide)
  replace h23 := hK _ _ _ _ h23 (by decide)
  replace hKK := hKK.trans (hK.mono (by decide))
  clear hK
  replace ho := hx1
  clear hx1
  replace hI := hI1
  clear hI1
  replace hZ : σ1.2.1 ≤ σ.2.1 + 16 ∧ σ1.2.2 ≤ σ.2.2 + 102420 := ⟨by omega, by omega⟩
  clear hz
  refine jW.aload_n (dx_Mo_init 69 (e := (151, .aload_n 0, 1)) rfl) rfl rfl (pc' := 152) rfl ?_
  refine jW.sipush (v := 3300) (dx_Mo_init 70 (e := (152, .sipush 3300, 3)) rfl) (by decide) (pc' := 155) rfl ?_
  refine jW.newaT (t := 1124) (N := 3300) F (dx_Mo_init 71 (e := (155, .newarray .int, 2)) rfl) (by decide) rfl (fun U h => h) jw_46 (by decide) (by decide) (by decide) rfl (pc' := 157) rfl hI (fun a24 σ1 h24 Bh24 hI1 hK hz => ?_)
  replace ho := hK _ _ _ _ ho (by decide)
  replace h1 := hK _ _ _ _ h1 (by decide)
  replace h2 := hK _ _ _ _ h2 (by decide)
  replace h7 := hK _ _ _ _ h7 (by decide)
  replace h8 := hK _ _ _ _ h8 (by decide)
  replace h9 := hK _ _ _ _ h9 (by decide)
  replace h13 := hK _ _ _ _ h13 (by decide)
  replace h14 := hK _ _ _ _ h14 (by decide)
  replace h15 := hK _ _ _ _ h15 (by decide)
  replace h16 := hK _ _ _ _ h16 (by decide)
  replace h17 := hK _ _ _ _ h17 (by decide)
  replace h18 := hK _ _ _ _ h18 (by decide)
  replace h19 := hK _ _ _ _ h19 (by decide)
  replace h20 := hK _ _ _ _ h20 (by decide)
  replace h21 := hK _ _ _ _ h21 (by decide)
  replace h22 := hK _ _ _ _ h22 (by decide)
  replace h23 := hK _ _ _ _ h23 (by decide)
  replace hKK := hKK.trans (fun a t n v z _ => hK a t n v z (by simp))
  clear hK
  replace hI := hI1
  clear hI1
  replace hZ : σ1.2.1 ≤ σ.2.1 + 17 ∧ σ1.2.2 ≤ σ.2.2 + 105720 := ⟨by omega, by omega⟩
  clear hz
  refine jW.putFA (ci := 8) (k := 24) F rfl (dx_Mo_init 72 (e := (157, .putfield 64, 3)) rfl) (by decide) jw_1010 jF_Mo jTab_Mo rfl rfl rfl ho Bho rfl rfl (pc' := 160) rfl hI (fun σ1 hx1 hI1 hK hz => ?_)
  replace h1 := hK _ _ _ _ h1 (by decide)
  replace h2 := hK _ _ _ _ h2 (by decide)
  replace h7 := hK _ _ _ _ h7 (by decide)
  replace h8 := hK _ _ _ _ h8 (by decide)
  replace h9 := hK _ _ _ _ h9 (by decide)
  replace h13 := hK _ _ _ _ h13 (by decide)
  replace h14 := hK _ _ _ _ h14 (by decide)
  replace h15 := hK _ _ _ _ h15 (by decide)
  replace h16 := hK _ _ _ _ h16 (by decide)
  replace h17 := hK _ _ _ _ h17 (by decide)
  replace h18 := hK _ _ _ _ h18 (by decide)
  replace h19 := hK _ _ _ _ h19 (by decide)
  replace h20 := hK _ _ _ _ h20 (by decide)
  replace h21 := hK _ _ _ _ h21 (by decide)
  replace h22 := hK _ _ _ _ h22 (by decide)
  replace h23 := hK _ _ _ _ h23 (by decide)
  replace h24 := hK _ _ _ _ h24 (by decide)
  replace hKK := hKK.trans (hK.mono (by decide))
  clear hK
  replace ho := hx1
  clear hx1
  replace hI := hI1
  clear hI1
  replace hZ : σ1.2.1 ≤ σ.2.1 + 17 ∧ σ1.2.2 ≤ σ.2.2 + 105720 := ⟨by omega, by omega⟩
  clear hz
  refine jW.aload_n (dx_Mo_init 73 (e := (160, .aload_n 0, 1)) rfl) rfl rfl (pc' := 161) rfl ?_
  refine jW.sipush (v := 3300) (dx_Mo_init 74 (e := (161, .sipush 3300, 3)) rfl) (by decide) (pc' := 164) rfl ?_
  refine jW.newaT (t := 1125) (N := 3300) F (dx_Mo_init 75 (e := (164, .newarray .int, 2)) rfl) (by decide) rfl (fun U h => h) jw_46 (by decide) (by decide) (by decide) rfl (pc' := 166) rfl hI (fun a25 σ1 h25 Bh25 hI1 hK hz => ?_)
  replace ho := hK _ _ _ _ ho (by decide)
  replace h1 := hK _ _ _ _ h1 (by decide)
  replace h2 := hK _ _ _ _ h2 (by decide)
  replace h7 := hK _ _ _ _ h7 (by decide)
  replace h8 := hK _ _ _ _ h8 (by decide)
  replace h9 := hK _ _ _ _ h9 (by decide)
  replace h13 := hK _ _ _ _ h13 (by decide)
  replace h14 := hK _ _ _ _ h14 (by decide)
  replace h15 := hK _ _ _ _ h15 (by decide)
  replace h16 := hK _ _ _ _ h16 (by decide)
  replace h17 := hK _ _ _ _ h17 (by decide)
  replace h18 := hK _ _ _ _ h18 (by decide)
  replace h19 := hK _ _ _ _ h19 (by decide)
  replace h20 := hK _ _ _ _ h20 (by decide)
  replace h21 := hK _ _ _ _ h21 (by decide)
  replace h22 := hK _ _ _ _ h22 (by decide)
  replace h23 := hK _ _ _ _ h23 (by decide)
  replace h24 := hK _ _ _ _ h24 (by decide)
  replace hKK := hKK.trans (fun a t n v z _ => hK a t n v z (by simp))
  clear hK
  replace hI := hI1
  clear hI1
  replace hZ : σ1.2.1 ≤ σ.2.1 + 18 ∧ σ1.2.2 ≤ σ.2.2 + 109020 := ⟨by omega, by omega⟩
  clear hz
  refine jW.putFA (ci := 8) (k := 25) F rfl (dx_Mo_init 76 (e := (166, .putfield 67, 3)) rfl) (by decide) jw_1011 jF_Mo jTab_Mo rfl rfl rfl ho Bho rfl rfl (pc' := 169) rfl hI (fun σ1 hx1 hI1 hK hz => ?_)
  replace h1 := hK _ _ _ _ h1 (by decide)
  replace h2 := hK _ _ _ _ h2 (by decide)
  replace h7 := hK _ _ _ _ h7 (by decide)
  replace h8 := hK _ _ _ _ h8 (by decide)
  replace h9 := hK _ _ _ _ h9 (by decide)
  replace h13 := hK _ _ _ _ h13 (by decide)
  replace h14 := hK _ _ _ _ h14 (by decide)
  replace h15 := hK _ _ _ _ h15 (by decide)
  replace h16 := hK _ _ _ _ h16 (by decide)
  replace h17 := hK _ _ _ _ h17 (by decide)
  replace h18 := hK _ _ _ _ h18 (by decide)
  replace h19 := hK _ _ _ _ h19 (by decide)
  replace h20 := hK _ _ _ _ h20 (by decide)
  replace h21 := hK _ _ _ _ h21 (by decide)
  replace h22 := hK _ _ _ _ h22 (by decide)
  replace h23 := hK _ _ _ _ h23 (by decide)
  replace h24 := hK _ _ _ _ h24 (by decide)
  replace h25 := hK _ _ _ _ h25 (by decide)
  replace hKK := hKK.trans (hK.mono (by decide))
  clear hK
  replace ho := hx1
  clear hx1
  replace hI := hI1
  clear hI1
  replace hZ : σ1.2.1 ≤ σ.2.1 + 18 ∧ σ1.2.2 ≤ σ.2.2 + 109020 := ⟨by omega, by omega⟩
  clear hz
  refine jW.aload_n (dx_Mo_init 77 (e := (169, .aload_n 0, 1)) rfl) rfl rfl (pc' := 170) rfl ?_
  refine jW.sipush (v := 3300) (dx_Mo_init 78 (e := (170, .sipush 3300, 3)) rfl) (by decide) (pc' := 173) rfl ?_
  refine jW.newaT (t := 1126) (N := 3300) F (dx_Mo_init 79 (e := (173, .newarray .boolean, 2)) rfl) (by decide) rfl (fun U h => h) jw_1149 (by decide) (by decide) (by decide) rfl (pc' := 175) rfl hI (fun a26 σ1 h26 Bh26 hI1 hK hz => ?_)
  replace ho := hK _ _ _ _ ho (by decide)
  replace h1 := hK _ _ _ _ h1 (by decide)
  replace h2 := hK _ _ _ _ h2 (by decide)
  replace h7 := hK _ _ _ _ h7 (by decide)
  replace h8 := hK _ _ _ _ h8 (by decide)
  replace h9 := hK _ _ _ _ h9 (by decide)
  replace h13 := hK _ _ _ _ h13 (by decide)
  replace h14 := hK _ _ _ _ h14 (by decide)
  replace h15 := hK _ _ _ _ h15 (by decide)
  replace h16 := hK _ _ _ _ h16 (by decide)
  replace h17 := hK _ _ _ _ h17 (by decide)
  replace h18 := hK _ _ _ _ h18 (by decide)
  replace h19 := hK _ _ _ _ h19 (by decide)
  replace h20 := hK _ _ _ _ h20 (by decide)
  replace h21 := hK _ _ _ _ h21 (by decide)
  replace h22 := hK _ _ _ _ h22 (by decide)
  replace h23 := hK _ _ _ _ h23 (by decide)
  replace h24 := hK _ _ _ _ h24 (by decide)
  replace h25 := hK _ _ _ _ h25 (by decide)
  replace hKK := hKK.trans (fun a t n v z _ => hK a t n v z (by simp))
  clear hK
  replace hI := hI1
  clear hI1
  replace hZ : σ1.2.1 ≤ σ.2.1 + 19 ∧ σ1.2.2 ≤ σ.2.2 + 112320 := ⟨by omega, by omega⟩
  clear hz
  refine jW.putFA (ci := 8) (k := 26) F rfl (dx_Mo_init 80 (e := (175, .putfield 70, 3)) rfl) (by decide) jw_1012 jF_Mo jTab_Mo rfl rfl rfl ho Bho rfl rfl (pc' := 178) rfl hI (fun σ1 hx1 hI1 hK hz => ?_)
  replace h1 := hK _ _ _ _ h1 (by decide)
  replace h2 := hK _ _ _ _ h2 (by decide)
  replace h7 := hK _ _ _ _ h7 (by decide)
  replace h8 := hK _ _ _ _ h8 (by decide)
  replace h9 := hK _ _ _ _ h9 (by decide)
  replace h13 := hK _ _ _ _ h13 (by decide)
  replace h14 := hK _ _ _ _ h14 (by decide)
  replace h15 := hK _ _ _ _ h15 (by decide)
  replace h16 := hK _ _ _ _ h16 (by decide)
  replace h17 := hK _ _ _ _ h17 (by decide)
  replace h18 := hK _ _ _ _ h18 (by decide)
  replace h19 := hK _ _ _ _ h19 (by decide)
  replace h20 := hK _ _ _ _ h20 (by decide)
  replace h21 := hK _ _ _ _ h21 (by decide)
  replace h22 := hK _ _ _ _ h22 (by decide)
  replace h23 := hK _ _ _ _ h23 (by decide)
  replace h24 := hK _ _ _ _ h24 (by decide)
  replace h25 := hK _ _ _ _ h25 (by decide)
  replace h26 := hK _ _ _ _ h26 (by decide)
  replace hKK := hKK.trans (hK.mono (by decide))
  clear hK
  replace ho := hx1
  clear hx1
  replace hI := hI1
  clear hI1
  replace hZ : σ1.2.1 ≤ σ.2.1 + 19 ∧ σ1.2.2 ≤ σ.2.2 + 112320 := ⟨by omega, by omega⟩
  clear hz
  refine jW.aload_n (dx_Mo_init 81 (e := (178, .aload_n 0, 1)) rfl) rfl rfl (pc' := 179) rfl ?_
  refine jW.sipush (v := 3300) (dx_Mo_init 82 (e := (179, .sipush 3300, 3)) rfl) (by decide) (pc' := 182) rfl ?_
  refine jW.newaT (t := 1127) (N := 3300) F (dx_Mo_init 83 (e := (182, .newarray .boolean, 2)) rfl) (by decide) rfl (fun U h => h) jw_1149 (by decide) (by decide) (by decide) rfl (pc' := 184) rfl hI (fun a27 σ1 h27 Bh27 hI1 hK hz => ?_)
  replace ho := hK _ _ _ _ ho (by decide)
  replace h1 := hK _ _ _ _ h1 (by decide)
  replace h2 := hK _ _ _ _ h2 (by decide)
  replace h7 := hK _ _ _ _ h7 (by decide)
  replace h8 := hK _ _ _ _ h8 (by decide)
  replace h9 := hK _ _ _ _ h9 (by decide)
  replace h13 := hK _ _ _ _ h13 (by decide)
  replace h14 := hK _ _ _ _ h14 (by decide)
  replace h15 := hK _ _ _ _ h15 (by decide)
  replace h16 := hK _ _ _ _ h16 (by decide)
  replace h17 := hK _ _ _ _ h17 (by decide)
  replace h18 := hK _ _ _ _ h18 (by decide)
  replace h19 := hK _ _ _ _ h19 (by decide)
  replace h20 := hK _ _ _ _ h20 (by decide)
  replace h21 := hK _ _ _ _ h21 (by decide)
  replace h22 := hK _ _ _ _ h22 (by decide)
  replace h23 := hK _ _ _ _ h23 (by decide)
  replace h24 := hK _ _ _ _ h24 (by decide)
  replace h25 := hK _ _ _ _ h25 (by decide)
  replace h26 := hK _ _ _ _ h26 (by decide)
  replace hKK := hKK.trans (fun a t n v z _ => hK a t n v z (by simp))
  clear hK
  replace hI := hI1
  clear hI1
  replace hZ : σ1.2.1 ≤ σ.2.1 + 20 ∧ σ1.2.2 ≤ σ.2.2 + 115620 := ⟨by omega, by omega⟩
  clear hz
  refine jW.putFA (ci := 8) (k := 27) F rfl (dx_Mo_init 84 (e := (184, .putfield 74, 3)) rfl) (by decide) jw_1013 jF_Mo jTab_Mo rfl rfl rfl ho Bho rfl rfl (pc' := 187) rfl hI (fun σ1 hx1 hI1 hK hz => ?_)
  replace h1 := hK _ _ _ _ h1 (by decide)
  replace h2 := hK _ _ _ _ h2 (by decide)
  replace h7 := hK _ _ _ _ h7 (by decide)
  replace h8 := hK _ _ _ _ h8 (by decide)
  replace h9 := hK _ _ _ _ h9 (by decide)
  replace h13 := hK _ _ _ _ h13 (by decide)
  replace h14 := hK _ _ _ _ h14 (by decide)
  replace h15 := hK _ _ _ _ h15 (by decide)
  replace h16 := hK _ _ _ _ h16 (by decide)
  replace h17 := hK _ _ _ _ h17 (by decide)
  replace h18 := hK _ _ _ _ h18 (by decide)
  replace h19 := hK _ _ _ _ h19 (by decide)
  replace h20 := hK _ _ _ _ h20 (by decide)
  replace h21 := hK _ _ _ _ h21 (by decide)
  replace h22 := hK _ _ _ _ h22 (by decide)
  replace h23 := hK _ _ _ _ h23 (by decide)
  replace h24 := hK _ _ _ _ h24 (by decide)
  replace h25 := hK _ _ _ _ h25 (by decide)
  replace h26 := hK _ _ _ _ h26 (by decide)
  replace h27 := hK _ _ _ _ h27 (by decide)
  replace hKK := hKK.trans (hK.mono (by decide))
  clear hK
  replace ho := hx1
  clear hx1
  replace hI := hI1
  clear hI1
  replace hZ : σ1.2.1 ≤ σ.2.1 + 20 ∧ σ1.2.2 ≤ σ.2.2 + 115620 := ⟨by omega, by omega⟩
  clear hz
  refine jW.aload_n (dx_Mo_init 85 (e := (187, .aload_n 0, 1)) rfl) rfl rfl (pc' := 188) rfl ?_
  refine jW.bipush (v := 40) (dx_Mo_init 86 (e := (188, .bipush 40, 2)) rfl) (by decide) (pc' := 190) rfl ?_
  refine jW.newaT (t := 1129) (N := 40) F (dx_Mo_init 87 (e := (190, .newarray .int, 2)) rfl) (by decide) rfl (fun U h => h) jw_46 (by decide) (by decide) (by decide) rfl (pc' := 192) rfl hI (fun a29 σ1 h29 Bh29 hI1 hK hz => ?_)
  replace ho := hK _ _ _ _ ho (by decide)
  replace h1 := hK _ _ _ _ h1 (by decide)
  replace h2 := hK _ _ _ _ h2 (by decide)
  replace h7 := hK _ _ _ _ h7 (by decide)
  replace h8 := hK _ _ _ _ h8 (by decide)
  replace h9 := hK _ _ _ _ h9 (by decide)
  replace h13 := hK _ _ _ _ h13 (by decide)
  replace h14 := hK _ _ _ _ h14 (by decide)
  replace h15 := hK _ _ _ _ h15 (by decide)
  replace h16 := hK _ _ _ _ h16 (by decide)
  replace h17 := hK _ _ _ _ h17 (by decide)
  replace h18 := hK _ _ _ _ h18 (by decide)
  replace h19 := hK _ _ _ _ h19 (by decide)
  replace h20 := hK _ _ _ _ h20 (by decide)
  replace h21 := hK _ _ _ _ h21 (by decide)
  replace h22 := hK _ _ _ _ h22 (by decide)
  replace h23 := hK _ _ _ _ h23 (by decide)
  replace h24 := hK _ _ _ _ h24 (by decide)
  replace h25 := hK _ _ _ _ h25 (by decide)
  replace h26 := hK _ _ _ _ h26 (by decide)
  replace h27 := hK _ _ _ _ h27 (by decide)
  replace hKK := hKK.trans (fun a t n v z _ => hK a t n v z (by simp))
  clear hK
  replace hI := hI1
  clear hI1
  replace hZ : σ1.2.1 ≤ σ.2.1 + 21 ∧ σ1.2.2 ≤ σ.2.2 + 115660 := ⟨by omega, by omega⟩
  clear hz
  refine jW.putFA (ci := 8) (k := 29) F rfl (dx_Mo_init 88 (e := (192, .putfield 77, 3)) rfl) (by decide) jw_1015 jF_Mo jTab_Mo rfl rfl rfl ho Bho rfl rfl (pc' := 195) rfl hI (fun σ1 hx1 hI1 hK hz => ?_)
  replace h1 := hK _ _ _ _ h1 (by decide)
  replace h2 := hK _ _ _ _ h2 (by decide)
  replace h7 := hK _ _ _ _ h7 (by decide)
  replace h8 := hK _ _ _ _ h8 (by decide)
  replace h9 := hK _ _ _ _ h9 (by decide)
  replace h13 := hK _ _ _ _ h13 (by decide)
  replace h14 := hK _ _ _ _ h14 (by decide)
  replace h15 := hK _ _ _ _ h15 (by decide)
  replace h16 := hK _ _ _ _ h16 (by decide)
  replace h17 := hK _ _ _ _ h17 (by decide)
  replace h18 := hK _ _ _ _ h18 (by decide)
  replace h19 := hK _ _ _ _ h19 (by decide)
  replace h20 := hK _ _ _ _ h20 (by decide)
  replace h21 := hK _ _ _ _ h21 (by decide)
  replace h22 := hK _ _ _ _ h22 (by decide)
  replace h23 := hK _ _ _ _ h23 (by decide)
  replace h24 := hK _ _ _ _ h24 (by decide)
  replace h25 := hK _ _ _ _ h25 (by decide)
  replace h26 := hK _ _ _ _ h26 (by decide)
  replace h27 := hK _ _ _ _ h27 (by decide)
  replace h29 := hK _ _ _ _ h29 (by decide)
  replace hKK := hKK.trans (hK.mono (by decide))
  clear hK
  replace ho := hx1
  clear hx1
  replace hI := hI1
  clear hI1
  replace hZ : σ1.2.1 ≤ σ.2.1 + 21 ∧ σ1.2.2 ≤ σ.2.2 + 115660 := ⟨by omega, by omega⟩
  clear hz
  refine jW.aload_n (dx_Mo_init 89 (e := (195, .aload_n 0, 1)) rfl) rfl rfl (pc' := 196) rfl ?_
  refine jW.sipush (v := 3300) (dx_Mo_init 90 (e := (196, .sipush 3300, 3)) rfl) (by decide) (pc' := 199) rfl ?_
  refine jW.newaT (t := 1137) (N := 3300) F (dx_Mo_init 91 (e := (199, .newarray .int, 2)) rfl) (by decide) rfl (fun U h => h) jw_46 (by decide) (by decide) (by decide) rfl (pc' := 201) rfl hI (fun a37 σ1 h37 Bh37 hI1 hK hz => ?_)
  replace ho := hK _ _ _ _ ho (by decide)
  replace h1 := hK _ _ _ _ h1 (by decide)
  replace h2 := hK _ _ _ _ h2 (by decide)
  replace h7 := hK _ _ _ _ h7 (by decide)
  replace h8 := hK _ _ _ _ h8 (by decide)
  replace h9 := hK _ _ _ _ h9 (by decide)
  replace h13 := hK _ _ _ _ h13 (by decide)
  replace h14 := hK _ _ _ _ h14 (by decide)
  replace h15 := hK _ _ _ _ h15 (by decide)
  replace h16 := hK _ _ _ _ h16 (by decide)
  replace h17 := hK _ _ _ _ h17 (by decide)
  replace h18 := hK _ _ _ _ h18 (by decide)
  replace h19 := hK _ _ _ _ h19 (by decide)
  replace h20 := hK _ _ _ _ h20 (by decide)
  replace h21 := hK _ _ _ _ h21 (by decide)
  replace h22 := hK _ _ _ _ h22 (by decide)
  replace h23 := hK _ _ _ _ h23 (by decide)
  replace h24 := hK _ _ _ _ h24 (by decide)
  replace h25 := hK _ _ _ _ h25 (by decide)
  replace h26 := hK _ _ _ _ h26 (by decide)
  replace h27 := hK _ _ _ _ h27 (by decide)
  replace h29 := hK _ _ _ _ h29 (by decide)
  replace hKK := hKK.trans (fun a t n v z _ => hK a t n v z (by simp))
  clear hK
  replace hI := hI1
  clear hI1
  replace hZ : σ1.2.1 ≤ σ.2.1 + 22 ∧ σ1.2.2 ≤ σ.2.2 + 118960 := ⟨by omega, by omega⟩
  clear hz
  refine jW.putFA (ci := 8) (k := 37) F rfl (dx_Mo_init 92 (e := (201, .putfield 80, 3)) rfl) (by decide) jw_1023 jF_Mo jTab_Mo rfl rfl rfl ho Bho rfl rfl (pc' := 204) rfl hI (fun σ1 hx1 hI1 hK hz => ?_)
  replace h1 := hK _ _ _ _ h1 (by decide)
  replace h2 := hK _ _ _ _ h2 (by decide)
  replace h7 := hK _ _ _ _ h7 (by decide)
  replace h8 := hK _ _ _ _ h8 (by decide)
  replace h9 := hK _ _ _ _ h9 (by decide)
  replace h13 := hK _ _ _ _ h13 (by decide)
  replace h14 := hK _ _ _ _ h14 (by decide)
  replace h15 := hK _ _ _ _ h15 (by decide)
  replace h16 := hK _ _ _ _ h16 (by decide)
  replace h17 := hK _ _ _ _ h17 (by decide)
  replace h18 := hK _ _ _ _ h18 (by decide)
  replace h19 := hK _ _ _ _ h19 (by decide)
  replace h20 := hK _ _ _ _ h20 (by decide)
  replace h21 := hK _ _ _ _ h21 (by decide)
  replace h22 := hK _ _ _ _ h22 (by decide)
  replace h23 := hK _ _ _ _ h23 (by decide)
  replace h24 := hK _ _ _ _ h24 (by decide)
  replace h25 := hK _ _ _ _ h25 (by decide)
  replace h26 := hK _ _ _ _ h26 (by decide)
  replace h27 := hK _ _ _ _ h27 (by decide)
  replace h29 := hK _ _ _ _ h29 (by decide)
  replace h37 := hK _ _ _ _ h37 (by decide)
  replace hKK := hKK.trans (hK.mono (by decide))
  clear hK
  replace ho := hx1
  clear hx1
  replace hI := hI1
  clear hI1
  replace hZ : σ1.2.1 ≤ σ.2.1 + 22 ∧ σ1.2.2 ≤ σ.2.2 + 118960 := ⟨by omega, by omega⟩
  clear hz
  refine jW.aload_n (dx_Mo_init 93 (e := (204, .aload_n 0, 1)) rfl) rfl rfl (pc' := 205) rfl ?_
  refine jW.sipush (v := 3300) (dx_Mo_init 94 (e := (205, .sipush 3300, 3)) rfl) (by decide) (pc' := 208) rfl ?_
  refine jW.newaT (t := 1138) (N := 3300) F (dx_Mo_init 95 (e := (208, .newarray .int, 2)) rfl) (by decide) rfl (fun U h => h) jw_46 (by decide) (by decide) (by decide) rfl (pc' := 210) rfl hI (fun a38 σ1 h38 Bh38 hI1 hK hz => ?_)
  replace ho := hK _ _ _ _ ho (by decide)
  replace h1 := hK _ _ _ _ h1 (by decide)
  replace h2 := hK _ _ _ _ h2 (by decide)
  replace h7 := hK _ _ _ _ h7 (by decide)
  replace h8 := hK _ _ _ _ h8 (by decide)
  replace h9 := hK _ _ _ _ h9 (by decide)
  replace h13 := hK _ _ _ _ h13 (by decide)
  replace h14 := hK _ _ _ _ h14 (by decide)
  replace h15 := hK _ _ _ _ h15 (by decide)
  replace h16 := hK _ _ _ _ h16 (by decide)
  replace h17 := hK _ _ _ _ h17 (by decide)
  replace h18 := hK _ _ _ _ h18 (by decide)
  replace h19 := hK _ _ _ _ h19 (by decide)
  replace h20 := hK _ _ _ _ h20 (by decide)
  replace h21 := hK _ _ _ _ h21 (by decide)
  replace h22 := hK _ _ _ _ h22 (by decide)
  replace h23 := hK _ _ _ _ h23 (by decide)
  replace h24 := hK _ _ _ _ h24 (by decide)
  replace h25 := hK _ _ _ _ h25 (by decide)
  replace h26 := hK _ _ _ _ h26 (by decide)
  replace h27 := hK _ _ _ _ h27 (by decide)
  replace h29 := hK _ _ _ _ h29 (by decide)
  replace h37 := hK _ _ _ _ h37 (by decide)
  replace hKK := hKK.trans (fun a t n v z _ => hK a t n v z (by simp))
  clear hK
  replace hI := hI1
  clear hI1
  replace hZ : σ1.2.1 ≤ σ.2.1 + 23 ∧ σ1.2.2 ≤ σ.2.2 + 122260 := ⟨by omega, by omega⟩
  clear hz
  refine jW.putFA (ci := 8) (k := 38) F rfl (dx_Mo_init 96 (e := (210, .putfield 83, 3)) rfl) (by decide) jw_1024 jF_Mo jTab_Mo rfl rfl rfl ho Bho rfl rfl (pc' := 213) rfl hI (fun σ1 hx1 hI1 hK hz => ?_)
  replace h1 := hK _ _ _ _ h1 (by decide)
  replace h2 := hK _ _ _ _ h2 (by decide)
  replace h7 := hK _ _ _ _ h7 (by decide)
  replace h8 := hK _ _ _ _ h8 (by decide)
  replace h9 := hK _ _ _ _ h9 (by decide)
  replace h13 := hK _ _ _ _ h13 (by decide)
  replace h14 := hK _ _ _ _ h14 (by decide)
  replace h15 := hK _ _ _ _ h15 (by decide)
  replace h16 := hK _ _ _ _ h16 (by decide)
  replace h17 := hK _ _ _ _ h17 (by decide)
  replace h18 := hK _ _ _ _ h18 (by decide)
  replace h19 := hK _ _ _ _ h19 (by decide)
  replace h20 := hK _ _ _ _ h20 (by decide)
  replace h21 := hK _ _ _ _ h21 (by decide)
  replace h22 := hK _ _ _ _ h22 (by decide)
  replace h23 := hK _ _ _ _ h23 (by decide)
  replace h24 := hK _ _ _ _ h24 (by decide)
  replace h25 := hK _ _ _ _ h25 (by decide)
  replace h26 := hK _ _ _ _ h26 (by decide)
  replace h27 := hK _ _ _ _ h27 (by decide)
  replace h29 := hK _ _ _ _ h29 (by decide)
  replace h37 := hK _ _ _ _ h37 (by decide)
  replace h38 := hK _ _ _ _ h38 (by decide)
  replace hKK := hKK.trans (hK.mono (by decide))
  clear hK
  replace ho := hx1
  clear hx1
  replace hI := hI1
  clear hI1
  replace hZ : σ1.2.1 ≤ σ.2.1 + 23 ∧ σ1.2.2 ≤ σ.2.2 + 122260 := ⟨by omega, by omega⟩
  clear hz
  refine jW.aload_n (dx_Mo_init 97 (e := (213, .aload_n 0, 1)) rfl) rfl rfl (pc' := 214) rfl ?_
  refine jW.sipush (v := 700) (dx_Mo_init 98 (e := (214, .sipush 700, 3)) rfl) (by decide) (pc' := 217) rfl ?_
  refine jW.newaT (t := 1141) (N := 700) F (dx_Mo_init 99 (e := (217, .newarray .int, 2)) rfl) (by decide) rfl (fun U h => h) jw_46 (by decide) (by decide) (by decide) rfl (pc' := 219) rfl hI (fun a41 σ1 h41 Bh41 hI1 hK hz => ?_)
  replace ho := hK _ _ _ _ ho (by decide)
  replace h1 := hK _ _ _ _ h1 (by decide)
  replace h2 := hK _ _ _ _ h2 (by decide)
  replace h7 := hK _ _ _ _ h7 (by decide)
  replace h8 := hK _ _ _ _ h8 (by decide)
  replace h9 := hK _ _ _ _ h9 (by decide)
  replace h13 := hK _ _ _ _ h13 (by decide)
  replace h14 := hK _ _ _ _ h14 (by decide)
  replace h15 := hK _ _ _ _ h15 (by decide)
  replace h16 := hK _ _ _ _ h16 (by decide)
  replace h17 := hK _ _ _ _ h17 (by decide)
  replace h18 := hK _ _ _ _ h18 (by decide)
  replace h19 := hK _ _ _ _ h19 (by decide)
  replace h20 := hK _ _ _ _ h20 (by decide)
  replace h21 := hK _ _ _ _ h21 (by decide)
  replace h22 := hK _ _ _ _ h22 (by decide)
  replace h23 := hK _ _ _ _ h23 (by decide)
  replace h24 := hK _ _ _ _ h24 (by decide)
  replace h25 := hK _ _ _ _ h25 (by decide)
  replace h26 := hK _ _ _ _ h26 (by decide)
  replace h27 := hK _ _ _ _ h27 (by decide)
  replace h29 := hK _ _ _ _ h29 (by decide)
  replace h37 := hK _ _ _ _ h37 (by decide)
  replace h38 := hK _ _ _ _ h38 (by decide)
  replace hKK := hKK.trans (fun a t n v z _ => hK a t n v z (by simp))
  clear hK
  replace hI := hI1
  clear hI1
  replace hZ : σ1.2.1 ≤ σ.2.1 + 24 ∧ σ1.2.2 ≤ σ.2.2 + 122960 := ⟨by omega, by omega⟩
  clear hz
  refine jW.putFA (ci := 8) (k := 41) F rfl (dx_Mo_init 100 (e := (219, .putfield 86, 3)) rfl) (by decide) jw_1027 jF_Mo jTab_Mo rfl rfl rfl ho Bho rfl rfl (pc' := 222) rfl hI (fun σ1 hx1 hI1 hK hz => ?_)
  replace h1 := hK _ _ _ _ h1 (by decide)
  replace h2 := hK _ _ _ _ h2 (by decide)
  replace h7 := hK _ _ _ _ h7 (by decide)
  replace h8 := hK _ _ _ _ h8 (by decide)
  replace h9 := hK _ _ _ _ h9 (by decide)
  replace h13 := hK _ _ _ _ h13 (by decide)
  replace h14 := hK _ _ _ _ h14 (by decide)
  replace h15 := hK _ _ _ _ h15 (by decide)
  replace h16 := hK _ _ _ _ h16 (by decide)
  replace h17 := hK _ _ _ _ h17 (by decide)
  replace h18 := hK _ _ _ _ h18 (by decide)
  replace h19 := hK _ _ _ _ h19 (by decide)
  replace h20 := hK _ _ _ _ h20 (by decide)
  replace h21 := hK _ _ _ _ h21 (by decide)
  replace h22 := hK _ _ _ _ h22 (by decide)
  replace h23 := hK _ _ _ _ h23 (by decide)
  replace h24 := hK _ _ _ _ h24 (by decide)
  replace h25 := hK _ _ _ _ h25 (by decide)
  replace h26 := hK _ _ _ _ h26 (by decide)
  replace h27 := hK _ _ _ _ h27 (by decide)
  replace h29 := hK _ _ _ _ h29 (by decide)
  replace h37 := hK _ _ _ _ h37 (by decide)
  replace h38 := hK _ _ _ _ h38 (by decide)
  replace h41 := hK _ _ _ _ h41 (by decide)
  replace hKK := hKK.trans (hK.mono (by decide))
  clear hK
  replace ho := hx1
  clear hx1
  replace hI := hI1
  clear hI1
  replace hZ : σ1.2.1 ≤ σ.2.1 + 24 ∧ σ1.2.2 ≤ σ.2.2 + 122960 := ⟨by omega, by omega⟩
  clear hz
  refine jW.aload_n (dx_Mo_init 101 (e := (222, .aload_n 0, 1)) rfl) rfl rfl (pc' := 223) rfl ?_
  refine jW.sipush (v := 700) (dx_Mo_init 102 (e := (223, .sipush 700, 3)) rfl) (by decide) (pc' := 226) rfl ?_
  refine jW.newaT (t := 1142) (N := 700) F (dx_Mo_init 103 (e := (226, .newarray .int, 2)) rfl) (by decide) rfl (fun U h => h) jw_46 (by decide) (by decide) (by decide) rfl (pc' := 228) rfl hI (fun a42 σ1 h42 Bh42 hI1 hK hz => ?_)
  replace ho := hK _ _ _ _ ho (by decide)
  replace h1 := hK _ _ _ _ h1 (by decide)
  replace h2 := hK _ _ _ _ h2 (by decide)
  replace h7 := hK _ _ _ _ h7 (by decide)
  replace h8 := hK _ _ _ _ h8 (by decide)
  replace h9 := hK _ _ _ _ h9 (by decide)
  replace h13 := hK _ _ _ _ h13 (by decide)
  replace h14 := hK _ _ _ _ h14 (by decide)
  replace h15 := hK _ _ _ _ h15 (by decide)
  replace h16 := hK _ _ _ _ h16 (by decide)
  replace h17 := hK _ _ _ _ h17 (by decide)
  replace h18 := hK _ _ _ _ h18 (by decide)
  replace h19 := hK _ _ _ _ h19 (by decide)
  replace h20 := hK _ _ _ _ h20 (by decide)
  replace h21 := hK _ _ _ _ h21 (by decide)
  replace h22 := hK _ _ _ _ h22 (by decide)
  replace h23 := hK _ _ _ _ h23 (by decide)
  replace h24 := hK _ _ _ _ h24 (by decide)
  replace h25 := hK _ _ _ _ h25 (by decide)
  replace h26 := hK _ _ _ _ h26 (by decide)
  replace h27 := hK _ _ _ _ h27 (by decide)
  replace h29 := hK _ _ _ _ h29 (by decide)
  replace h37 := hK _ _ _ _ h37 (by decide)
  replace h38 := hK _ _ _ _ h38 (by decide)
  replace h41 := hK _ _ _ _ h41 (by decide)
  replace hKK := hKK.trans (fun a t n v z _ => hK a t n v z (by simp))
  clear hK
  replace hI := hI1
  clear hI1
  replace hZ : σ1.2.1 ≤ σ.2.1 + 25 ∧ σ1.2.2 ≤ σ.2.2 + 123660 := ⟨by omega, by omega⟩
  clear hz
  refine jW.putFA (ci := 8) (k := 42) F rfl (dx_Mo_init 104 (e := (228, .putfield 89, 3)) rfl) (by decide) jw_1028 jF_Mo jTab_Mo rfl rfl rfl ho Bho rfl rfl (pc' := 231) rfl hI (fun σ1 hx1 hI1 hK hz => ?_)
  replace h1 := hK _ _ _ _ h1 (by decide)
  replace h2 := hK _ _ _ _ h2 (by decide)
  replace h7 := hK _ _ _ _ h7 (by decide)
  replace h8 := hK _ _ _ _ h8 (by decide)
  replace h9 := hK _ _ _ _ h9 (by decide)
  replace h13 := hK _ _ _ _ h13 (by decide)
  replace h14 := hK _ _ _ _ h14 (by decide)
  replace h15 := hK _ _ _ _ h15 (by decide)
  replace h16 := hK _ _ _ _ h16 (by decide)
  replace h17 := hK _ _ _ _ h17 (by decide)
  replace h18 := hK _ _ _ _ h18 (by decide)
  replace h19 := hK _ _ _ _ h19 (by decide)
  replace h20 := hK _ _ _ _ h20 (by decide)
  replace h21 := hK _ _ _ _ h21 (by decide)
  replace h22 := hK _ _ _ _ h22 (by decide)
  replace h23 := hK _ _ _ _ h23 (by decide)
  replace h24 := hK _ _ _ _ h24 (by decide)
  replace h25 := hK _ _ _ _ h25 (by decide)
  replace h26 := hK _ _ _ _ h26 (by decide)
  replace h27 := hK _ _ _ _ h27 (by decide)
  replace h29 := hK _ _ _ _ h29 (by decide)
  replace h37 := hK _ _ _ _ h37 (by decide)
  replace h38 := hK _ _ _ _ h38 (by decide)
  replace h41 := hK _ _ _ _ h41 (by decide)
  replace h42 := hK _ _ _ _ h42 (by decide)
  replace hKK := hKK.trans (hK.mono (by decide))
  clear hK
  replace ho := hx1
  clear hx1
  replace hI := hI1
  clear hI1
  replace hZ : σ1.2.1 ≤ σ.2.1 + 25 ∧ σ1.2.2 ≤ σ.2.2 + 123660 := ⟨by omega, by omega⟩
  clear hz
  refine jW.aload_n (dx_Mo_init 105 (e := (231, .aload_n 0, 1)) rfl) rfl rfl (pc' := 232) rfl ?_
  refine jW.sipush (v := 700) (dx_Mo_init 106 (e := (232, .sipush 700, 3)) rfl) (by decide) (pc' := 235) rfl ?_
  refine jW.newaT (t := 1143) (N := 700) F (dx_Mo_init 107 (e := (235, .newarray .int, 2)) rfl) (by decide) rfl (fun U h => h) jw_46 (by decide) (by decide) (by decide) rfl (pc' := 237) rfl hI (fun a43 σ1 h43 Bh43 hI1 hK hz => ?_)
  replace ho := hK _ _ _ _ ho (by decide)
  replace h1 := hK _ _ _ _ h1 (by decide)
  replace h2 := hK _ _ _ _ h2 (by decide)
  replace h7 := hK _ _ _ _ h7 (by decide)
  replace h8 := hK _ _ _ _ h8 (by decide)
  replace h9 := hK _ _ _ _ h9 (by decide)
  replace h13 := hK _ _ _ _ h13 (by decide)
  replace h14 := hK _ _ _ _ h14 (by decide)
  replace h15 := hK _ _ _ _ h15 (by decide)
  replace h16 := hK _ _ _ _ h16 (by decide)
  replace h17 := hK _ _ _ _ h17 (by decide)
  replace h18 := hK _ _ _ _ h18 (by decide)
  replace h19 := hK _ _ _ _ h19 (by decide)
  replace h20 := hK _ _ _ _ h20 (by decide)
  replace h21 := hK _ _ _ _ h21 (by decide)
  replace h22 := hK _ _ _ _ h22 (by decide)
  replace h23 := hK _ _ _ _ h23 (by decide)
  replace h24 := hK _ _ _ _ h24 (by decide)
  replace h25 := hK _ _ _ _ h25 (by decide)
  replace h26 := hK _ _ _ _ h26 (by decide)
  replace h27 := hK _ _ _ _ h27 (by decide)
  replace h29 := hK _ _ _ _ h29 (by decide)
  replace h37 := hK _ _ _ _ h37 (by decide)
  replace h38 := hK _ _ _ _ h38 (by decide)
  replace h41 := hK _ _ _ _ h41 (by decide)
  replace h42 := hK _ _ _ _ h42 (by decide)
  replace hKK := hKK.trans (fun a t n v z _ => hK a t n v z (by simp))
  clear hK
  replace hI := hI1
  clear hI1
  replace hZ : σ1.2.1 ≤ σ.2.1 + 26 ∧ σ1.2.2 ≤ σ.2.2 + 124360 := ⟨by omega, by omega⟩
  clear hz
  refine jW.putFA (ci := 8) (k := 43) F rfl (dx_Mo_init 108 (e := (237, .putfield 92, 3)) rfl) (by decide) jw_1029 jF_Mo jTab_Mo rfl rfl rfl ho Bho rfl rfl (pc' := 240) rfl hI (fun σ1 hx1 hI1 hK hz => ?_)
  replace h1 := hK _ _ _ _ h1 (by decide)
  replace h2 := hK _ _ _ _ h2 (by decide)
  replace h7 := hK _ _ _ _ h7 (by decide)
  replace h8 := hK _ _ _ _ h8 (by decide)
  replace h9 := hK _ _ _ _ h9 (by decide)
  replace h13 := hK _ _ _ _ h13 (by decide)
  replace h14 := hK _ _ _ _ h14 (by decide)
  replace h15 := hK _ _ _ _ h15 (by decide)
  replace h16 := hK _ _ _ _ h16 (by decide)
  replace h17 := hK _ _ _ _ h17 (by decide)
  replace h18 := hK _ _ _ _ h18 (by decide)
  replace h19 := hK _ _ _ _ h19 (by decide)
  replace h20 := hK _ _ _ _ h20 (by decide)
  replace h21 := hK _ _ _ _ h21 (by decide)
  replace h22 := hK _ _ _ _ h22 (by decide)
  replace h23 := hK _ _ _ _ h23 (by decide)
  replace h24 := hK _ _ _ _ h24 (by decide)
  replace h25 := hK _ _ _ _ h25 (by decide)
  replace h26 := hK _ _ _ _ h26 (by decide)
  replace h27 := hK _ _ _ _ h27 (by decide)
  replace h29 := hK _ _ _ _ h29 (by decide)
  replace h37 := hK _ _ _ _ h37 (by decide)
  replace h38 := hK _ _ _ _ h38 (by decide)
  replace h41 := hK _ _ _ _ h41 (by decide)
  replace h42 := hK _ _ _ _ h42 (by decide)
  replace h43 := hK _ _ _ _ h43 (by decide)
  replace hKK := hKK.trans (hK.mono (by decide))
  clear hK
  replace ho := hx1
  clear hx1
  replace hI := hI1
  clear hI1
  replace hZ : σ1.2.1 ≤ σ.2.1 + 26 ∧ σ1.2.2 ≤ σ.2.2 + 124360 := ⟨by omega, by omega⟩
  clear hz
  refine jW.aload_n (dx_Mo_init 109 (e := (240, .aload_n 0, 1)) rfl) rfl rfl (pc' := 241) rfl ?_
  refine jW.sipush (v := 700) (dx_Mo_init 110 (e := (241, .sipush 700, 3)) rfl) (by decide) (pc' := 244) rfl ?_
  refine jW.newaT (t := 1144) (N := 700) F (dx_Mo_init 111 (e := (244, .newarray .int, 2)) rfl) (by decide) rfl (fun U h => h) jw_46 (by decide) (by decide) (by decide) rfl (pc' := 246) rfl hI (fun a44 σ1 h44 Bh44 hI1 hK hz => ?_)
  replace ho := hK _ _ _ _ ho (by decide)
  replace h1 := hK _ _ _ _ h1 (by decide)
  replace h2 := hK _ _ _ _ h2 (by decide)
  replace h7 := hK _ _ _ _ h7 (by decide)
  replace h8 := hK _ _ _ _ h8 (by decide)
  replace h9 := hK _ _ _ _ h9 (by decide)
  replace h13 := hK _ _ _ _ h13 (by decide)
  replace h14 := hK _ _ _ _ h14 (by decide)
  replace h15 := hK _ _ _ _ h15 (by decide)
  replace h16 := hK _ _ _ _ h16 (by decide)
  replace h17 := hK _ _ _ _ h17 (by decide)
  replace h18 := hK _ _ _ _ h18 (by decide)
  replace h19 := hK _ _ _ _ h19 (by decide)
  replace h20 := hK _ _ _ _ h20 (by decide)
  replace h21 := hK _ _ _ _ h21 (by decide)
  replace h22 := hK _ _ _ _ h22 (by decide)
  replace h23 := hK _ _ _ _ h23 (by decide)
  replace h24 := hK _ _ _ _ h24 (by decide)
  replace h25 := hK _ _ _ _ h25 (by decide)
  replace h26 := hK _ _ _ _ h26 (by decide)
  replace h27 := hK _ _ _ _ h27 (by decide)
  replace h29 := hK _ _ _ _ h29 (by decide)
  replace h37 := hK _ _ _ _ h37 (by decide)
  replace h38 := hK _ _ _ _ h38 (by decide)
  replace h41 := hK _ _ _ _ h41 (by decide)
  replace h42 := hK _ _ _ _ h42 (by decide)
  replace h43 := hK _ _ _ _ h43 (by decide)
  replace hKK := hKK.trans (fun a t n v z _ => hK a t n v z (by simp))
  clear hK
  replace hI := hI1
  clear hI1
  replace hZ : σ1.2.1 ≤ σ.2.1 + 27 ∧ σ1.2.2 ≤ σ.2.2 + 125060 := ⟨by omega, by omega⟩
  clear hz
  refine jW.putFA (ci := 8) (k := 44) F rfl (dx_Mo_init 112 (e := (246, .putfield 95, 3)) rfl) (by decide) jw_1030 jF_Mo jTab_Mo rfl rfl rfl ho Bho rfl rfl (pc' := 249) rfl hI (fun σ1 hx1 hI1 hK hz => ?_)
  replace h1 := hK _ _ _ _ h1 (by decide)
  replace h2 := hK _ _ _ _ h2 (by decide)
  replace h7 := hK _ _ _ _ h7 (by decide)
  replace h8 := hK _ _ _ _ h8 (by decide)
  replace h9 := hK _ _ _ _ h9 (by decide)
  replace h13 := hK _ _ _ _ h13 (by decide)
  replace h14 := hK _ _ _ _ h14 (by decide)
  replace h15 := hK _ _ _ _ h15 (by decide)
  replace h16 := hK _ _ _ _ h16 (by decide)
  replace h17 := hK _ _ _ _ h17 (by decide)
  replace h18 := hK _ _ _ _ h18 (by decide)
  replace h19 := hK _ _ _ _ h19 (by decide)
  replace h20 := hK _ _ _ _ h20 (by decide)
  replace h21 := hK _ _ _ _ h21 (by decide)
  replace h22 := hK _ _ _ _ h22 (by decide)
  replace h23 := hK _ _ _ _ h23 (by decide)
  replace h24 := hK _ _ _ _ h24 (by decide)
  replace h25 := hK _ _ _ _ h25 (by decide)
  replace h26 := hK _ _ _ _ h26 (by decide)
  replace h27 := hK _ _ _ _ h27 (by decide)
  replace h29 := hK _ _ _ _ h29 (by decide)
  replace h37 := hK _ _ _ _ h37 (by decide)
  replace h38 := hK _ _ _ _ h38 (by decide)
  replace h41 := hK _ _ _ _ h41 (by decide)
  replace h42 := hK _ _ _ _ h42 (by decide)
  replace h43 := hK _ _ _ _ h43 (by decide)
  replace h44 := hK _ _ _ _ h44 (by decide)
  replace hKK := hKK.trans (hK.mono (by decide))
  clear hK
  replace ho := hx1
  clear hx1
  replace hI := hI1
  clear hI1
  replace hZ : σ1.2.1 ≤ σ.2.1 + 27 ∧ σ1.2.2 ≤ σ.2.2 + 125060 := ⟨by omega, by omega⟩
  clear hz
  refine jW.aload_n (dx_Mo_init 113 (e := (249, .aload_n 0, 1)) rfl) rfl rfl (pc' := 250) rfl ?_
  refine jW.sipush (v := 700) (dx_Mo_init 114 (e := (250, .sipush 700, 3)) rfl) (by decide) (pc' := 253) rfl ?_
  refine jW.newaT (t := 1145) (N := 700) F (dx_Mo_init 115 (e := (253, .newarray .int, 2)) rfl) (by decide) rfl (fun U h => h) jw_46 (by decide) (by decide) (by decide) rfl (pc' := 255) rfl hI (fun a45 σ1 h45 Bh45 hI1 hK hz => ?_)
  replace ho := hK _ _ _ _ ho (by decide)
  replace h1 := hK _ _ _ _ h1 (by decide)
  replace h2 := hK _ _ _ _ h2 (by decide)
  replace h7 := hK _ _ _ _ h7 (by decide)
  replace h8 := hK _ _ _ _ h8 (by decide)
  replace h9 := hK _ _ _ _ h9 (by decide)
  replace h13 := hK _ _ _ _ h13 (by decide)
  replace h14 := hK _ _ _ _ h14 (by decide)
  replace h15 := hK _ _ _ _ h15 (by decide)
  replace h16 := hK _ _ _ _ h16 (by decide)
  replace h17 := hK _ _ _ _ h17 (by decide)
  replace h18 := hK _ _ _ _ h18 (by decide)
  replace h19 := hK _ _ _ _ h19 (by decide)
  replace h20 := hK _ _ _ _ h20 (by decide)
  replace h21 := hK _ _ _ _ h21 (by decide)
  replace h22 := hK _ _ _ _ h22 (by decide)
  replace h23 := hK _ _ _ _ h23 (by decide)
  replace h24 := hK _ _ _ _ h24 (by decide)
  replace h25 := hK _ _ _ _ h25 (by decide)
  replace h26 := hK _ _ _ _ h26 (by decide)
  replace h27 := hK _ _ _ _ h27 (by decide)
  replace h29 := hK _ _ _ _ h29 (by decide)
  replace h37 := hK _ _ _ _ h37 (by decide)
  replace h38 := hK _ _ _ _ h38 (by decide)
  replace h41 := hK _ _ _ _ h41 (by decide)
  replace h42 := hK _ _ _ _ h42 (by decide)
  replace h43 := hK _ _ _ _ h43 (by decide)
  replace h44 := hK _ _ _ _ h44 (by decide)
  replace hKK := hKK.trans (fun a t n v z _ => hK a t n v z (by simp))
  clear hK
  replace hI := hI1
  clear hI1
  replace hZ : σ1.2.1 ≤ σ.2.1 + 28 ∧ σ1.2.2 ≤ σ.2.2 + 125760 := ⟨by omega, by omega⟩
  clear hz
  refine jW.putFA (ci := 8) (k := 45) F rfl (dx_Mo_init 116 (e := (255, .putfield 98, 3)) rfl) (by decide) jw_1031 jF_Mo jTab_Mo rfl rfl rfl ho Bho rfl rfl (pc' := 258) rfl hI (fun σ1 hx1 hI1 hK hz => ?_)
  replace h1 := hK _ _ _ _ h1 (by decide)
  replace h2 := hK _ _ _ _ h2 (by decide)
  replace h7 := hK _ _ _ _ h7 (by decide)
  replace h8 := hK _ _ _ _ h8 (by decide)
  replace h9 := hK _ _ _ _ h9 (by decide)
  replace h13 := hK _ _ _ _ h13 (by decide)
  replace h14 := hK _ _ _ _ h14 (by decide)
  replace h15 := hK _ _ _ _ h15 (by decide)
  replace h16 := hK _ _ _ _ h16 (by decide)
  replace h17 := hK _ _ _ _ h17 (by decide)
  replace h18 := hK _ _ _ _ h18 (by decide)
  replace h19 := hK _ _ _ _ h19 (by decide)
  replace h20 := hK _ _ _ _ h20 (by decide)
  replace h21 := hK _ _ _ _ h21 (by decide)
  replace h22 := hK _ _ _ _ h22 (by decide)
  replace h23 := hK _ _ _ _ h23 (by decide)
  replace h24 := hK _ _ _ _ h24 (by decide)
  replace h25 := hK _ _ _ _ h25 (by decide)
  replace h26 := hK _ _ _ _ h26 (by decide)
  replace h27 := hK _ _ _ _ h27 (by decide)
  replace h29 := hK _ _ _ _ h29 (by decide)
  replace h37 := hK _ _ _ _ h37 (by decide)
  replace h38 := hK _ _ _ _ h38 (by decide)
  replace h41 := hK _ _ _ _ h41 (by decide)
  replace h42 := hK _ _ _ _ h42 (by decide)
  replace h43 := hK _ _ _ _ h43 (by decide)
  replace h44 := hK _ _ _ _ h44 (by decide)
  replace h45 := hK _ _ _ _ h45 (by decide)
  replace hKK := hKK.trans (hK.mono (by decide))
  clear hK
  replace ho := hx1
  clear hx1
  replace hI := hI1
  clear hI1
  replace hZ : σ1.2.1 ≤ σ.2.1 + 28 ∧ σ1.2.2 ≤ σ.2.2 + 125760 := ⟨by omega, by omega⟩
  clear hz
  refine jW.aload_n (dx_Mo_init 117 (e := (258, .aload_n 0, 1)) rfl) rfl rfl (pc' := 259) rfl ?_
  refine jW.sipush (v := 700) (dx_Mo_init 118 (e := (259, .sipush 700, 3)) rfl) (by decide) (pc' := 262) rfl ?_
  refine jW.newaT (t := 1146) (N := 700) F (dx_Mo_init 119 (e := (262, .newarray .int, 2)) rfl) (by decide) rfl (fun U h => h) jw_46 (by decide) (by decide) (by decide) rfl (pc' := 264) rfl hI (fun a46 σ1 h46 Bh46 hI1 hK hz => ?_)
  replace ho := hK _ _ _ _ ho (by decide)
  replace h1 := hK _ _ _ _ h1 (by decide)
  replace h2 := hK _ _ _ _ h2 (by decide)
  replace h7 := hK _ _ _ _ h7 (by decide)
  replace h8 := hK _ _ _ _ h8 (by decide)
  replace h9 := hK _ _ _ _ h9 (by decide)
  replace h13 := hK _ _ _ _ h13 (by decide)
  replace h14 := hK _ _ _ _ h14 (by decide)
  replace h15 := hK _ _ _ _ h15 (by decide)
  replace h16 := hK _ _ _ _ h16 (by decide)
  replace h17 := hK _ _ _ _ h17 (by decide)
  replace h18 := hK _ _ _ _ h18 (by decide)
  replace h19 := hK _ _ _ _ h19 (by decide)
  replace h20 := hK _ _ _ _ h20 (by decide)
  replace h21 := hK _ _ _ _ h21 (by decide)
  replace h22 := hK _ _ _ _ h22 (by decide)
  replace h23 := hK _ _ _ _ h23 (by decide)
  replace h24 := hK _ _ _ _ h24 (by decide)
  replace h25 := hK _ _ _ _ h25 (by decide)
  replace h26 := hK _ _ _ _ h26 (by decide)
  replace h27 := hK _ _ _ _ h27 (by decide)
  replace h29 := hK _ _ _ _ h29 (by decide)
  replace h37 := hK _ _ _ _ h37 (by decide)
  replace h38 := hK _ _ _ _ h38 (by decide)
  replace h41 := hK _ _ _ _ h41 (by decide)
  replace h42 := hK _ _ _ _ h42 (by decide)
  replace h43 := hK _ _ _ _ h43 (by decide)
  replace h44 := hK _ _ _ _ h44 (by decide)
  replace h45 := hK _ _ _ _ h45 (by decide)
  replace hKK := hKK.trans (fun a t n v z _ => hK a t n v z (by simp))
  clear hK
  replace hI := hI1
  clear hI1
  replace hZ : σ1.2.1 ≤ σ.2.1 + 29 ∧ σ1.2.2 ≤ σ.2.2 + 126460 := ⟨by omega, by omega⟩
  clear hz
  refine jW.putFA (ci := 8) (k := 46) F rfl (dx_Mo_init 120 (e := (264, .putfield 101, 3)) rfl) (by decide) jw_1032 jF_Mo jTab_Mo rfl rfl rfl ho Bho rfl rfl (pc' := 267) rfl hI (fun σ1 hx1 hI1 hK hz => ?_)
  replace h1 := hK _ _ _ _ h1 (by decide)
  replace h2 := hK _ _ _ _ h2 (by decide)
  replace h7 := hK _ _ _ _ h7 (by decide)
  replace h8 := hK _ _ _ _ h8 (by decide)
  replace h9 := hK _ _ _ _ h9 (by decide)
  replace h13 := hK _ _ _ _ h13 (by decide)
  replace h14 := hK _ _ _ _ h14 (by decide)
  replace h15 := hK _ _ _ _ h15 (by decide)
  replace h16 := hK _ _ _ _ h16 (by decide)
  replace h17 := hK _ _ _ _ h17 (by decide)
  replace h18 := hK _ _ _ _ h18 (by decide)
  replace h19 := hK _ _ _ _ h19 (by decide)
  replace h20 := hK _ _ _ _ h20 (by decide)
  replace h21 := hK _ _ _ _ h21 (by decide)
  replace h22 := hK _ _ _ _ h22 (by decide)
  replace h23 := hK _ _ _ _ h23 (by decide)
  replace h24 := hK _ _ _ _ h24 (by decide)
  replace h25 := hK _ _ _ _ h25 (by decide)
  replace h26 := hK _ _ _ _ h26 (by decide)
  replace h27 := hK _ _ _ _ h27 (by decide)
  replace h29 := hK _ _ _ _ h29 (by decide)
  replace h37 := hK _ _ _ _ h37 (by decide)
  replace h38 := hK _ _ _ _ h38 (by decide)
  replace h41 := hK _ _ _ _ h41 (by decide)
  replace h42 := hK _ _ _ _ h42 (by decide)
  replace h43 := hK _ _ _ _ h43 (by decide)
  replace h44 := hK _ _ _ _ h44 (by decide)
  replace h45 := hK _ _ _ _ h45 (by decide)
  replace h46 := hK _ _ _ _ h46 (by decide)
  replace hKK := hKK.trans (hK.mono (by decide))
  clear hK
  replace ho := hx1
  clear hx1
  replace hI := hI1
  clear hI1
  replace hZ : σ1.2.1 ≤ σ.2.1 + 29 ∧ σ1.2.2 ≤ σ.2.2 + 126460 := ⟨by omega, by omega⟩
  clear hz
  refine jW.aload_n (dx_Mo_init 121 (e := (267, .aload_n 0, 1)) rfl) rfl rfl (pc' := 268) rfl ?_
  refine jW.bipush (v := 6) (dx_Mo_init 122 (e := (268, .bipush 6, 2)) rfl) (by decide) (pc' := 270) rfl ?_
  refine jW.newaT (t := 1152) (N := 6) F (dx_Mo_init 123 (e := (270, .newarray .int, 2)) rfl) (by decide) rfl (fun U h => h) jw_46 (by decide) (by decide) (by decide) rfl (pc' := 272) rfl hI (fun a52 σ1 h52 Bh52 hI1 hK hz => ?_)
  replace ho := hK _ _ _ _ ho (by decide)
  replace h1 := hK _ _ _ _ h1 (by decide)
  replace h2 := hK _ _ _ _ h2 (by decide)
  replace h7 := hK _ _ _ _ h7 (by decide)
  replace h8 := hK _ _ _ _ h8 (by decide)
  replace h9 := hK _ _ _ _ h9 (by decide)
  replace h13 := hK _ _ _ _ h13 (by decide)
  replace h14 := hK _ _ _ _ h14 (by decide)
  replace h15 := hK _ _ _ _ h15 (by decide)
  replace h16 := hK _ _ _ _ h16 (by decide)
  replace h17 := hK _ _ _ _ h17 (by decide)
  replace h18 := hK _ _ _ _ h18 (by decide)
  replace h19 := hK _ _ _ _ h19 (by decide)
  replace h20 := hK _ _ _ _ h20 (by decide)
  replace h21 := hK _ _ _ _ h21 (by decide)
  replace h22 := hK _ _ _ _ h22 (by decide)
  replace h23 := hK _ _ _ _ h23 (by decide)
  replace h24 := hK _ _ _ _ h24 (by decide)
  replace h25 := hK _ _ _ _ h25 (by decide)
  replace h26 := hK _ _ _ _ h26 (by decide)
  replace h27 := hK _ _ _ _ h27 (by decide)
  replace h29 := hK _ _ _ _ h29 (by decide)
  replace h37 := hK _ _ _ _ h37 (by decide)
  replace h38 := hK _ _ _ _ h38 (by decide)
  replace h41 := hK _ _ _ _ h41 (by decide)
  replace h42 := hK _ _ _ _ h42 (by decide)
  replace h43 := hK _ _ _ _ h43 (by decide)
  replace h44 := hK _ _ _ _ h44 (by decide)
  replace h45 := hK _ _ _ _ h45 (by decide)
  replace h46 := hK _ _ _ _ h46 (by decide)
  replace hKK := hKK.trans (fun a t n v z _ => hK a t n v z (by simp))
  clear hK
  replace hI := hI1
  clear hI1
  replace hZ : σ1.2.1 ≤ σ.2.1 + 30 ∧ σ1.2.2 ≤ σ.2.2 + 126466 := ⟨by omega, by omega⟩
  clear hz
  refine jW.dup (dx_Mo_init 124 (e := (272, .dup, 1)) rfl) rfl (pc' := 273) rfl ?_
  refine jW.iconst (v := 0) (dx_Mo_init 125 (e := (273, .iconst 0, 1)) rfl) (by decide) (pc' := 274) rfl ?_
  refine jW.ldc (v := 6385008) F (dx_Mo_init 126 (e := (274, .ldc 104, 2)) rfl) jw_982 (Or.inl rfl) (pc' := 276) rfl ?_
  refine jW.iastA (t := 1152) (n := 6) (k := 0) F (dx_Mo_init 127 (e := (276, .iastore, 1)) rfl) (by decide) rfl h52 Bh52 ((vp_nI (n := 0) (N := 6) (by decide)).mpr (by decide)) (by decide) (pc' := 277) rfl hI (fun σ1 hx1 hI1 hK hz => ?_)
  replace ho := hK _ _ _ _ ho (by decide)
  replace h1 := hK _ _ _ _ h1 (by decide)
  replace h2 := hK _ _ _ _ h2 (by decide)
  replace h7 := hK _ _ _ _ h7 (by decide)
  replace h8 := hK _ _ _ _ h8 (by decide)
  replace h9 := hK _ _ _ _ h9 (by decide)
  replace h13 := hK _ _ _ _ h13 (by decide)
  replace h14 := hK _ _ _ _ h14 (by decide)
  replace h15 := hK _ _ _ _ h15 (by decide)
  replace h16 := hK _ _ _ _ h16 (by decide)
  replace h17 := hK _ _ _ _ h17 (by decide)
  replace h18 := hK _ _ _ _ h18 (by decide)
  replace h19 := hK _ _ _ _ h19 (by decide)
  replace h20 := hK _ _ _ _ h20 (by decide)
  replace h21 := hK _ _ _ _ h21 (by decide)
  replace h22 := hK _ _ _ _ h22 (by decide)
  replace h23 := hK _ _ _ _ h23 (by decide)
  replace h24 := hK _ _ _ _ h24 (by decide)
  replace h25 := hK _ _ _ _ h25 (by decide)
  replace h26 := hK _ _ _ _ h26 (by decide)
  replace h27 := hK _ _ _ _ h27 (by decide)
  replace h29 := hK _ _ _ _ h29 (by decide)
  replace h37 := hK _ _ _ _ h37 (by decide)
  replace h38 := hK _ _ _ _ h38 (by decide)
  replace h41 := hK _ _ _ _ h41 (by decide)
  replace h42 := hK _ _ _ _ h42 (by decide)
  replace h43 := hK _ _ _ _ h43 (by decide)
  replace h44 := hK _ _ _ _ h44 (by decide)
  replace h45 := hK _ _ _ _ h45 (by decide)
  replace h46 := hK _ _ _ _ h46 (by decide)
  replace hKK := hKK.trans (hK.mono (by decide))
  clear hK
  replace h52 := hx1
  clear hx1
  replace hI := hI1
  clear hI1
  replace hZ : σ1.2.1 ≤ σ.2.1 + 30 ∧ σ1.2.2 ≤ σ.2.2 + 126466 := ⟨by omega, by omega⟩
  clear hz
  refine jW.dup (dx_Mo_init 128 (e := (277, .dup, 1)) rfl) rfl (pc' := 278) rfl ?_
  refine jW.iconst (v := 1) (dx_Mo_init 129 (e := (278, .iconst 1, 1)) rfl) (by decide) (pc' := 279) rfl ?_
  refine jW.sipush (v := 27764) (dx_Mo_init 130 (e := (279, .sipush 27764, 3)) rfl) (by decide) (pc' := 282) rfl ?_
  refine jW.iastA (t := 1152) (n := 6) (k := 1) F (dx_Mo_init 131 (e := (282, .iastore, 1)) rfl) (by decide) rfl h52 Bh52 ((vp_nI (n := 1) (N := 6) (by decide)).mpr (by decide)) (by decide) (pc' := 283) rfl hI (fun σ1 hx1 hI1 hK hz => ?_)
  replace ho := hK _ _ _ _ ho (by decide)
  replace h1 := hK _ _ _ _ h1 (by decide)
  replace h2 := hK _ _ _ _ h2 (by decide)
  replace h7 := hK _ _ _ _ h7 (by decide)
  replace h8 := hK _ _ _ _ h8 (by decide)
  replace h9 := hK _ _ _ _ h9 (by decide)
  replace h13 := hK _ _ _ _ h13 (by decide)
  replace h14 := hK _ _ _ _ h14 (by decide)
  replace h15 := hK _ _ _ _ h15 (by decide)
  replace h16 := hK _ _ _ _ h16 (by decide)
  replace h17 := hK _ _ _ _ h17 (by decide)
  replace h18 := hK _ _ _ _ h18 (by decide)
  replace h19 := hK _ _ _ _ h19 (by decide)
  replace h20 := hK _ _ _ _ h20 (by decide)
  replace h21 := hK _ _ _ _ h21 (by decide)
  replace h22 := hK _ _ _ _ h22 (by decide)
  replace h23 := hK _ _ _ _ h23 (by decide)
  replace h24 := hK _ _ _ _ h24 (by decide)
  replace h25 := hK _ _ _ _ h25 (by decide)
  replace h26 := hK _ _ _ _ h26 (by decide)
  replace h27 := hK _ _ _ _ h27 (by decide)
  replace h29 := hK _ _ _ _ h29 (by decide)
  replace h37 := hK _ _ _ _ h37 (by decide)
  replace h38 := hK _ _ _ _ h38 (by decide)
  replace h41 := hK _ _ _ _ h41 (by decide)
  replace h42 := hK _ _ _ _ h42 (by decide)
  replace h43 := hK _ _ _ _ h43 (by decide)
  replace h44 := hK _ _ _ _ h44 (by decide)
  replace h45 := hK _ _ _ _ h45 (by decide)
  replace h46 := hK _ _ _ _ h46 (by decide)
  replace hKK := hKK.trans (hK.mono (by decide))
  clear hK
  replace h52 := hx1
  clear hx1
  replace hI := hI1
  clear hI1
  replace hZ : σ1.2.1 ≤ σ.2.1 + 30 ∧ σ1.2.2 ≤ σ.2.2 + 126466 := ⟨by omega, by omega⟩
  clear hz
  refine jW.dup (dx_Mo_init 132 (e := (283, .dup, 1)) rfl) rfl (pc' := 284) rfl ?_
  refine jW.iconst (v := 2) (dx_Mo_init 133 (e := (284, .iconst 2, 1)) rfl) (by decide) (pc' := 285) rfl ?_
  refine jW.sipush (v := 26484) (dx_Mo_init 134 (e := (285, .sipush 26484, 3)) rfl) (by decide) (pc' := 288) rfl ?_
  refine jW.iastA (t := 1152) (n := 6) (k := 2) F (dx_Mo_init 135 (e := (288, .iastore, 1)) rfl) (by decide) rfl h52 Bh52 ((vp_nI (n := 2) (N := 6) (by decide)).mpr (by decide)) (by decide) (pc' := 289) rfl hI (fun σ1 hx1 hI1 hK hz => ?_)
  replace ho := hK _ _ _ _ ho (by decide)
  replace h1 := hK _ _ _ _ h1 (by decide)
  replace h2 := hK _ _ _ _ h2 (by decide)
  replace h7 := hK _ _ _ _ h7 (by decide)
  replace h8 := hK _ _ _ _ h8 (by decide)
  replace h9 := hK _ _ _ _ h9 (by decide)
  replace h13 := hK _ _ _ _ h13 (by decide)
  replace h14 := hK _ _ _ _ h14 (by decide)
  replace h15 := hK _ _ _ _ h15 (by decide)
  replace h16 := hK _ _ _ _ h16 (by decide)
  replace h17 := hK _ _ _ _ h17 (by decide)
  replace h18 := hK _ _ _ _ h18 (by decide)
  replace h19 := hK _ _ _ _ h19 (by decide)
  replace h20 := hK _ _ _ _ h20 (by decide)
  replace h21 := hK _ _ _ _ h21 (by decide)
  replace h22 := hK _ _ _ _ h22 (by decide)
  replace h23 := hK _ _ _ _ h23 (by decide)
  replace h24 := hK _ _ _ _ h24 (by decide)
  replace h25 := hK _ _ _ _ h25 (by decide)
  replace h26 := hK _ _ _ _ h26 (by decide)
  replace h27 := hK _ _ _ _ h27 (by decide)
  replace h29 := hK _ _ _ _ h29 (by decide)
  replace h37 := hK _ _ _ _ h37 (by decide)
  replace h38 := hK _ _ _ _ h38 (by decide)
  replace h41 := hK _ _ _ _ h41 (by decide)
  replace h42 := hK _ _ _ _ h42 (by decide)
  replace h43 := hK _ _ _ _ h43 (by decide)
  replace h44 := hK _ _ _ _ h44 (by decide)
  replace h45 := hK _ _ _ _ h45 (by decide)
  replace h46 := hK _ _ _ _ h46 (by decide)
  replace hKK := hKK.trans (hK.mono (by decide))
  clear hK
  replace h52 := hx1
  clear hx1
  replace hI := hI1
  clear hI1
  replace hZ : σ1.2.1 ≤ σ.2.1 + 30 ∧ σ1.2.2 ≤ σ.2.2 + 126466 := ⟨by omega, by omega⟩
  clear hz
  refine jW.dup (dx_Mo_init 136 (e := (289, .dup, 1)) rfl) rfl (pc' := 290) rfl ?_
  refine jW.iconst (v := 3) (dx_Mo_init 137 (e := (290, .iconst 3, 1)) rfl) (by decide) (pc' := 291) rfl ?_
  refine jW.ldc (v := 1903521652) F (dx_Mo_init 138 (e := (291, .ldc 105, 2)) rfl) jw_983 (Or.inl rfl) (pc' := 293) rfl ?_
  refine jW.iastA (t := 1152) (n := 6) (k := 3) F (dx_Mo_init 139 (e := (293, .iastore, 1)) rfl) (by decide) rfl h52 Bh52 ((vp_nI (n := 3) (N := 6) (by decide)).mpr (by decide)) (by decide) (pc' := 294) rfl hI (fun σ1 hx1 hI1 hK hz => ?_)
  replace ho := hK _ _ _ _ ho (by decide)
  replace h1 := hK _ _ _ _ h1 (by decide)
  replace h2 := hK _ _ _ _ h2 (by decide)
  replace h7 := hK _ _ _ _ h7 (by decide)
  replace h8 := hK _ _ _ _ h8 (by decide)
  replace h9 := hK _ _ _ _ h9 (by decide)
  replace h13 := hK _ _ _ _ h13 (by decide)
  replace h14 := hK _ _ _ _ h14 (by decide)
  replace h15 := hK _ _ _ _ h15 (by decide)
  replace h16 := hK _ _ _ _ h16 (by decide)
  replace h17 := hK _ _ _ _ h17 (by decide)
  replace h18 := hK _ _ _ _ h18 (by decide)
  replace h19 := hK _ _ _ _ h19 (by decide)
  replace h20 := hK _ _ _ _ h20 (by decide)
  replace h21 := hK _ _ _ _ h21 (by decide)
  replace h22 := hK _ _ _ _ h22 (by decide)
  replace h23 := hK _ _ _ _ h23 (by decide)
  replace h24 := hK _ _ _ _ h24 (by decide)
  replace h25 := hK _ _ _ _ h25 (by decide)
  replace h26 := hK _ _ _ _ h26 (by decide)
  replace h27 := hK _ _ _ _ h27 (by decide)
  replace h29 := hK _ _ _ _ h29 (by decide)
  replace h37 := hK _ _ _ _ h37 (by decide)
  replace h38 := hK _ _ _ _ h38 (by decide)
  replace h41 := hK _ _ _ _ h41 (by decide)
  replace h42 := hK _ _ _ _ h42 (by decide)
  replace h43 := hK _ _ _ _ h43 (by decide)
  replace h44 := hK _ _ _ _ h44 (by decide)
  replace h45 := hK _ _ _ _ h45 (by decide)
  replace h46 := hK _ _ _ _ h46 (by decide)
  replace hKK := hKK.trans (hK.mono (by decide))
  clear hK
  replace h52 := hx1
  clear hx1
  replace hI := hI1
  clear hI1
  replace hZ : σ1.2.1 ≤ σ.2.1 + 30 ∧ σ1.2.2 ≤ σ.2.2 + 126466 := ⟨by omega, by omega⟩
  clear hz
  refine jW.dup (dx_Mo_init 140 (e := (294, .dup, 1)) rfl) rfl (pc' := 295) rfl ?_
  refine jW.iconst (v := 4) (dx_Mo_init 141 (e := (295, .iconst 4, 1)) rfl) (by decide) (pc' := 296) rfl ?_
  refine jW.ldc (v := 1634758515) F (dx_Mo_init 142 (e := (296, .ldc 106, 2)) rfl) jw_984 (Or.inl rfl) (pc' := 298) rfl ?_
  refine jW.iastA (t := 1152) (n := 6) (k := 4) F (dx_Mo_init 143 (e := (298, .iastore, 1)) rfl) (by decide) rfl h52 Bh52 ((vp_nI (n := 4) (N := 6) (by decide)).mpr (by decide)) (by decide) (pc' := 299) rfl hI (fun σ1 hx1 hI1 hK hz => ?_)
  replace ho := hK _ _ _ _ ho (by decide)
  replace h1 := hK _ _ _ _ h1 (by decide)
  replace h2 := hK _ _ _ _ h2 (by decide)
  replace h7 := hK _ _ _ _ h7 (by decide)
  replace h8 := hK _ _ _ _ h8 (by decide)
  replace h9 := hK _ _ _ _ h9 (by decide)
  replace h13 := hK _ _ _ _ h13 (by decide)
  replace h14 := hK _ _ _ _ h14 (by decide)
  replace h15 := hK _ _ _ _ h15 (by decide)
  replace h16 := hK _ _ _ _ h16 (by decide)
  replace h17 := hK _ _ _ _ h17 (by decide)
  replace h18 := hK _ _ _ _ h18 (by decide)
  replace h19 := hK _ _ _ _ h19 (by decide)
  replace h20 := hK _ _ _ _ h20 (by decide)
  replace h21 := hK _ _ _ _ h21 (by decide)
  replace h22 := hK _ _ _ _ h22 (by decide)
  replace h23 := hK _ _ _ _ h23 (by decide)
  replace h24 := hK _ _ _ _ h24 (by decide)
  replace h25 := hK _ _ _ _ h25 (by decide)
  replace h26 := hK _ _ _ _ h26 (by decide)
  replace h27 := hK _ _ _ _ h27 (by decide)
  replace h29 := hK _ _ _ _ h29 (by decide)
  replace h37 := hK _ _ _ _ h37 (by decide)
  replace h38 := hK _ _ _ _ h38 (by decide)
  replace h41 := hK _ _ _ _ h41 (by decide)
  replace h42 := hK _ _ _ _ h42 (by decide)
  replace h43 := hK _ _ _ _ h43 (by decide)
  replace h44 := hK _ _ _ _ h44 (by decide)
  replace h45 := hK _ _ _ _ h45 (by decide)
  replace h46 := hK _ _ _ _ h46 (by decide)
  replace hKK := hKK.trans (hK.mono (by decide))
  clear hK
  replace h52 := hx1
  clear hx1
  replace hI := hI1
  clear hI1
  replace hZ : σ1.2.1 ≤ σ.2.1 + 30 ∧ σ1.2.2 ≤ σ.2.2 + 126466 := ⟨by omega, by omega⟩
  clear hz
  refine jW.dup (dx_Mo_init 144 (e := (299, .dup, 1)) rfl) rfl (pc' := 300) rfl ?_
  refine jW.iconst (v := 5) (dx_Mo_init 145 (e := (300, .iconst 5, 1)) rfl) (by decide) (pc' := 301) rfl ?_
  refine jW.ldc (v := 1851945840) F (dx_Mo_init 146 (e := (301, .ldc 107, 2)) rfl) jw_985 (Or.inl rfl) (pc' := 303) rfl ?_
  refine jW.iastA (t := 1152) (n := 6) (k := 5) F (dx_Mo_init 147 (e := (303, .iastore, 1)) rfl) (by decide) rfl h52 Bh52 ((vp_nI (n := 5) (N := 6) (by decide)).mpr (by decide)) (by decide) (pc' := 304) rfl hI (fun σ1 hx1 hI1 hK hz => ?_)
  replace ho := hK _ _ _ _ ho (by decide)
  replace h1 := hK _ _ _ _ h1 (by decide)
  replace h2 := hK _ _ _ _ h2 (by decide)
  replace h7 := hK _ _ _ _ h7 (by decide)
  replace h8 := hK _ _ _ _ h8 (by decide)
  replace h9 := hK _ _ _ _ h9 (by decide)
  replace h13 := hK _ _ _ _ h13 (by decide)
  replace h14 := hK _ _ _ _ h14 (by decide)
  replace h15 := hK _ _ _ _ h15 (by decide)
  replace h16 := hK _ _ _ _ h16 (by decide)
  replace h17 := hK _ _ _ _ h17 (by decide)
  replace h18 := hK _ _ _ _ h18 (by decide)
  replace h19 := hK _ _ _ _ h19 (by decide)
  replace h20 := hK _ _ _ _ h20 (by decide)
  replace h21 := hK _ _ _ _ h21 (by decide)
  replace h22 := hK _ _ _ _ h22 (by decide)
  replace h23 := hK _ _ _ _ h23 (by decide)
  replace h24 := hK _ _ _ _ h24 (by decide)
  replace h25 := hK _ _ _ _ h25 (by decide)
  replace h26 := hK _ _ _ _ h26 (by decide)
  replace h27 := hK _ _ _ _ h27 (by decide)
  replace h29 := hK _ _ _ _ h29 (by decide)
  replace h37 := hK _ _ _ _ h37 (by decide)
  replace h38 := hK _ _ _ _ h38 (by decide)
  replace h41 := hK _ _ _ _ h41 (by decide)
  replace h42 := hK _ _ _ _ h42 (by decide)
  replace h43 := hK _ _ _ _ h43 (by decide)
  replace h44 := hK _ _ _ _ h44 (by decide)
  replace h45 := hK _ _ _ _ h45 (by decide)
  replace h46 := hK _ _ _ _ h46 (by decide)
  replace hKK := hKK.trans (hK.mono (by decide))
  clear hK
  replace h52 := hx1
  clear hx1
  replace hI := hI1
  clear hI1
  replace hZ : σ1.2.1 ≤ σ.2.1 + 30 ∧ σ1.2.2 ≤ σ.2.2 + 126466 := ⟨by omega, by omega⟩
  clear hz
  refine jW.putFA (ci := 8) (k := 52) F rfl (dx_Mo_init 148 (e := (304, .putfield 108, 3)) rfl) (by decide) jw_1038 jF_Mo jTab_Mo rfl rfl rfl ho Bho rfl rfl (pc' := 307) rfl hI (fun σ1 hx1 hI1 hK hz => ?_)
  replace h1 := hK _ _ _ _ h1 (by decide)
  replace h2 := hK _ _ _ _ h2 (by decide)
  replace h7 := hK _ _ _ _ h7 (by decide)
  replace h8 := hK _ _ _ _ h8 (by decide)
  replace h9 := hK _ _ _ _ h9 (by decide)
  replace h13 := hK _ _ _ _ h13 (by decide)
  replace h14 := hK _ _ _ _ h14 (by decide)
  replace h15 := hK _ _ _ _ h15 (by decide)
  replace h16 := hK _ _ _ _ h16 (by decide)
  replace h17 := hK _ _ _ _ h17 (by decide)
  replace h18 := hK _ _ _ _ h18 (by decide)
  replace h19 := hK _ _ _ _ h19 (by decide)
  replace h20 := hK _ _ _ _ h20 (by decide)
  replace h21 := hK _ _ _ _ h21 (by decide)
  replace h22 := hK _ _ _ _ h22 (by decide)
  replace h23 := hK _ _ _ _ h23 (by decide)
  replace h24 := hK _ _ _ _ h24 (by decide)
  replace h25 := hK _ _ _ _ h25 (by decide)
  replace h26 := hK _ _ _ _ h26 (by decide)
  replace h27 := hK _ _ _ _ h27 (by decide)
  replace h29 := hK _ _ _ _ h29 (by decide)
  replace h37 := hK _ _ _ _ h37 (by decide)
  replace h38 := hK _ _ _ _ h38 (by decide)
  replace h41 := hK _ _ _ _ h41 (by decide)
  replace h42 := hK _ _ _ _ h42 (by decide)
  replace h43 := hK _ _ _ _ h43 (by decide)
  replace h44 := hK _ _ _ _ h44 (by decide)
  replace h45 := hK _ _ _ _ h45 (by decide)
  replace h46 := hK _ _ _ _ h46 (by decide)
  replace h52 := hK _ _ _ _ h52 (by decide)
  replace hKK := hKK.trans (hK.mono (by decide))
  clear hK
  replace ho := hx1
  clear hx1
  replace hI := hI1
  clear hI1
  replace hZ : σ1.2.1 ≤ σ.2.1 + 30 ∧ σ1.2.2 ≤ σ.2.2 + 126466 := ⟨by omega, by omega⟩
  clear hz
  refine jW.aload_n (dx_Mo_init 149 (e := (307, .aload_n 0, 1)) rfl) rfl rfl (pc' := 308) rfl ?_
  refine jW.bipush (v := 6) (dx_Mo_init 150 (e := (308, .bipush 6, 2)) rfl) (by decide) (pc' := 310) rfl ?_
  refine jW.newaT (t := 1153) (N := 6) F (dx_Mo_init 151 (e := (310, .newarray .int, 2)) rfl) (by decide) rfl (fun U h => h) jw_46 (by decide) (by decide) (by decide) rfl (pc' := 312) rfl hI (fun a53 σ1 h53 Bh53 hI1 hK hz => ?_)
  replace ho := hK _ _ _ _ ho (by decide)
  replace h1 := hK _ _ _ _ h1 (by decide)
  replace h2 := hK _ _ _ _ h2 (by decide)
  replace h7 := hK _ _ _ _ h7 (by decide)
  replace h8 := hK _ _ _ _ h8 (by decide)
  replace h9 := hK _ _ _ _ h9 (by decide)
  replace h13 := hK _ _ _ _ h13 (by decide)
  replace h14 := hK _ _ _ _ h14 (by decide)
  replace h15 := hK _ _ _ _ h15 (by decide)
  replace h16 := hK _ _ _ _ h16 (by decide)
  replace h17 := hK _ _ _ _ h17 (by decide)
  replace h18 := hK _ _ _ _ h18 (by decide)
  replace h19 := hK _ _ _ _ h19 (by decide)
  replace h20 := hK _ _ _ _ h20 (by decide)
  replace h21 := hK _ _ _ _ h21 (by decide)
  replace h22 := hK _ _ _ _ h22 (by decide)
  replace h23 := hK _ _ _ _ h23 (by decide)
  replace h24 := hK _ _ _ _ h24 (by decide)
  replace h25 := hK _ _ _ _ h25 (by decide)
  replace h26 := hK _ _ _ _ h26 (by decide)
  replace h27 := hK _ _ _ _ h27 (by decide)
  replace h29 := hK _ _ _ _ h29 (by decide)
  replace h37 := hK _ _ _ _ h37 (by decide)
  replace h38 := hK _ _ _ _ h38 (by decide)
  replace h41 := hK _ _ _ _ h41 (by decide)
  replace h42 := hK _ _ _ _ h42 (by decide)
  replace h43 := hK _ _ _ _ h43 (by decide)
  replace h44 := hK _ _ _ _ h44 (by decide)
  replace h45 := hK _ _ _ _ h45 (by decide)
  replace h46 := hK _ _ _ _ h46 (by decide)
  replace h52 := hK _ _ _ _ h52 (by decide)
  replace hKK := hKK.trans (fun a t n v z _ => hK a t n v z (by simp))
  clear hK
  replace hI := hI1
  clear hI1
  replace hZ : σ1.2.1 ≤ σ.2.1 + 31 ∧ σ1.2.2 ≤ σ.2.2 + 126472 := ⟨by omega, by omega⟩
  clear hz
  refine jW.dup (dx_Mo_init 152 (e := (312, .dup, 1)) rfl) rfl (pc' := 313) rfl ?_
  refine jW.iconst (v := 0) (dx_Mo_init 153 (e := (313, .iconst 0, 1)) rfl) (by decide) (pc' := 314) rfl ?_
  refine jW.bipush (v := 38) (dx_Mo_init 154 (e := (314, .bipush 38, 2)) rfl) (by decide) (pc' := 316) rfl ?_
  refine jW.iastA (t := 1153) (n := 6) (k := 0) F (dx_Mo_init 155 (e := (316, .iastore, 1)) rfl) (by decide) rfl h53 Bh53 ((vp_nI (n := 0) (N := 6) (by decide)).mpr (by decide)) (by decide) (pc' := 317) rfl hI (fun σ1 hx1 hI1 hK hz => ?_)
  replace ho := hK _ _ _ _ ho (by decide)
  replace h1 := hK _ _ _ _ h1 (by decide)
  replace h2 := hK _ _ _ _ h2 (by decide)
  replace h7 := hK _ _ _ _ h7 (by decide)
  replace h8 := hK _ _ _ _ h8 (by decide)
  replace h9 := hK _ _ _ _ h9 (by decide)
  replace h13 := hK _ _ _ _ h13 (by decide)
  replace h14 := hK _ _ _ _ h14 (by decide)
  replace h15 := hK _ _ _ _ h15 (by decide)
  replace h16 := hK _ _ _ _ h16 (by decide)
  replace h17 := hK _ _ _ _ h17 (by decide)
  replace h18 := hK _ _ _ _ h18 (by decide)
  replace h19 := hK _ _ _ _ h19 (by decide)
  replace h20 := hK _ _ _ _ h20 (by decide)
  replace h21 := hK _ _ _ _ h21 (by decide)
  replace h22 := hK _ _ _ _ h22 (by decide)
  replace h23 := hK _ _ _ _ h23 (by decide)
  replace h24 := hK _ _ _ _ h24 (by decide)
  replace h25 := hK _ _ _ _ h25 (by decide)
  replace h26 := hK _ _ _ _ h26 (by decide)
  replace h27 := hK _ _ _ _ h27 (by decide)
  replace h29 := hK _ _ _ _ h29 (by decide)
  replace h37 := hK _ _ _ _ h37 (by decide)
  replace h38 := hK _ _ _ _ h38 (by decide)
  replace h41 := hK _ _ _ _ h41 (by decide)
  replace h42 := hK _ _ _ _ h42 (by decide)
  replace h43 := hK _ _ _ _ h43 (by decide)
  replace h44 := hK _ _ _ _ h44 (by decide)
  replace h45 := hK _ _ _ _ h45 (by decide)
  replace h46 := hK _ _ _ _ h46 (by decide)
  replace h52 := hK _ _ _ _ h52 (by decide)
  replace hKK := hKK.trans (hK.mono (by decide))
  clear hK
  replace h53 := hx1
  clear hx1
  replace hI := hI1
  clear hI1
  replace hZ : σ1.2.1 ≤ σ.2.1 + 31 ∧ σ1.2.2 ≤ σ.2.2 + 126472 := ⟨by omega, by omega⟩
  clear hz
  refine jW.dup (dx_Mo_init 156 (e := (317, .dup, 1)) rfl) rfl (pc' := 318) rfl ?_
  refine jW.iconst (v := 1) (dx_Mo_init 157 (e := (318, .iconst 1, 1)) rfl) (by decide) (pc' := 319) rfl ?_
  refine jW.bipush (v := 60) (dx_Mo_init 158 (e := (319, .bipush 60, 2)) rfl) (by decide) (pc' := 321) rfl ?_
  refine jW.iastA (t := 1153) (n := 6) (k := 1) F (dx_Mo_init 159 (e := (321, .iastore, 1)) rfl) (by decide) rfl h53 Bh53 ((vp_nI (n := 1) (N := 6) (by decide)).mpr (by decide)) (by decide) (pc' := 322) rfl hI (fun σ1 hx1 hI1 hK hz => ?_)
  replace ho := hK _ _ _ _ ho (by decide)
  replace h1 := hK _ _ _ _ h1 (by decide)
  replace h2 := hK _ _ _ _ h2 (by decide)
  replace h7 := hK _ _ _ _ h7 (by decide)
  replace h8 := hK _ _ _ _ h8 (by decide)
  replace h9 := hK _ _ _ _ h9 (by decide)
  replace h13 := hK _ _ _ _ h13 (by decide)
  replace h14 := hK _ _ _ _ h14 (by decide)
  replace h15 := hK _ _ _ _ h15 (by decide)
  replace h16 := hK _ _ _ _ h16 (by decide)
  replace h17 := hK _ _ _ _ h17 (by decide)
  replace h18 := hK _ _ _ _ h18 (by decide)
  replace h19 := hK _ _ _ _ h19 (by decide)
  replace h20 := hK _ _ _ _ h20 (by decide)
  replace h21 := hK _ _ _ _ h21 (by decide)
  replace h22 := hK _ _ _ _ h22 (by decide)
  replace h23 := hK _ _ _ _ h23 (by decide)
  replace h24 := hK _ _ _ _ h24 (by decide)
  replace h25 := hK _ _ _ _ h25 (by decide)
  replace h26 := hK _ _ _ _ h26 (by decide)
  replace h27 := hK _ _ _ _ h27 (by decide)
  replace h29 := hK _ _ _ _ h29 (by decide)
  replace h37 := hK _ _ _ _ h37 (by decide)
  replace h38 := hK _ _ _ _ h38 (by decide)
  replace h41 := hK _ _ _ _ h41 (by decide)
  replace h42 := hK _ _ _ _ h42 (by decide)
  replace h43 := hK _ _ _ _ h43 (by decide)
  replace h44 := hK _ _ _ _ h44 (by decide)
  replace h45 := hK _ _ _ _ h45 (by decide)
  replace h46 := hK _ _ _ _ h46 (by decide)
  replace h52 := hK _ _ _ _ h52 (by decide)
  replace hKK := hKK.trans (hK.mono (by decide))
  clear hK
  replace h53 := hx1
  clear hx1
  replace hI := hI1
  clear hI1
  replace hZ : σ1.2.1 ≤ σ.2.1 + 31 ∧ σ1.2.2 ≤ σ.2.2 + 126472 := ⟨by omega, by omega⟩
  clear hz
  refine jW.dup (dx_Mo_init 160 (e := (322, .dup, 1)) rfl) rfl (pc' := 323) rfl ?_
  refine jW.iconst (v := 2) (dx_Mo_init 161 (e := (323, .iconst 2, 1)) rfl) (by decide) (pc' := 324) rfl ?_
  refine jW.bipush (v := 62) (dx_Mo_init 162 (e := (324, .bipush 62, 2)) rfl) (by decide) (pc' := 326) rfl ?_
  refine jW.iastA (t := 1153) (n := 6) (k := 2) F (dx_Mo_init 163 (e := (326, .iastore, 1)) rfl) (by decide) rfl h53 Bh53 ((vp_nI (n := 2) (N := 6) (by decide)).mpr (by decide)) (by decide) (pc' := 327) rfl hI (fun σ1 hx1 hI1 hK hz => ?_)
  replace ho := hK _ _ _ _ ho (by decide)
  replace h1 := hK _ _ _ _ h1 (by decide)
  replace h2 := hK _ _ _ _ h2 (by decide)
  replace h7 := hK _ _ _ _ h7 (by decide)
  replace h8 := hK _ _ _ _ h8 (by decide)
  replace h9 := hK _ _ _ _ h9 (by decide)
  replace h13 := hK _ _ _ _ h13 (by decide)
  replace h14 := hK _ _ _ _ h14 (by decide)
  replace h15 := hK _ _ _ _ h15 (by decide)
  replace h16 := hK _ _ _ _ h16 (by decide)
  replace h17 := hK _ _ _ _ h17 (by decide)
  replace h18 := hK _ _ _ _ h18 (by decide)
  replace h19 := hK _ _ _ _ h19 (by decide)
  replace h20 := hK _ _ _ _ h20 (by decide)
  replace h21 := hK _ _ _ _ h21 (by decide)
  replace h22 := hK _ _ _ _ h22 (by decide)
  replace h23 := hK _ _ _ _ h23 (by decide)
  replace h24 := hK _ _ _ _ h24 (by decide)
  replace h25 := hK _ _ _ _ h25 (by decide)
  replace h26 := hK _ _ _ _ h26 (by decide)
  replace h27 := hK _ _ _ _ h27 (by decide)
  replace h29 := hK _ _ _ _ h29 (by decide)
  replace h37 := hK _ _ _ _ h37 (by decide)
  replace h38 := hK _ _ _ _ h38 (by decide)
  replace h41 := hK _ _ _ _ h41 (by decide)
  replace h42 := hK _ _ _ _ h42 (by decide)
  replace h43 := hK _ _ _ _ h43 (by decide)
  replace h44 := hK _ _ _ _ h44 (by decide)
  replace h45 := hK _ _ _ _ h45 (by decide)
  replace h46 := hK _ _ _ _ h46 (by decide)
  replace h52 := hK _ _ _ _ h52 (by decide)
  replace hKK := hKK.trans (hK.mono (by decide))
  clear hK
  replace h53 := hx1
  clear hx1
  replace hI := hI1
  clear hI1
  replace hZ : σ1.2.1 ≤ σ.2.1 + 31 ∧ σ1.2.2 ≤ σ.2.2 + 126472 := ⟨by omega, by omega⟩
  clear hz
  refine jW.dup (dx_Mo_init 164 (e := (327, .dup, 1)) rfl) rfl (pc' := 328) rfl ?_
  refine jW.iconst (v := 3) (dx_Mo_init 165 (e := (328, .iconst 3, 1)) rfl) (by decide) (pc' := 329) rfl ?_
  refine jW.bipush (v := 34) (dx_Mo_init 166 (e := (329, .bipush 34, 2)) rfl) (by decide) (pc' := 331) rfl ?_
  refine jW.iastA (t := 1153) (n := 6) (k := 3) F (dx_Mo_init 167 (e := (331, .iastore, 1)) rfl) (by decide) rfl h53 Bh53 ((vp_nI (n := 3) (N := 6) (by decide)).mpr (by decide)) (by decide) (pc' := 332) rfl hI (fun σ1 hx1 hI1 hK hz => ?_)
  replace ho := hK _ _ _ _ ho (by decide)
  replace h1 := hK _ _ _ _ h1 (by decide)
  replace h2 := hK _ _ _ _ h2 (by decide)
  replace h7 := hK _ _ _ _ h7 (by decide)
  replace h8 := hK _ _ _ _ h8 (by decide)
  replace h9 := hK _ _ _ _ h9 (by decide)
  replace h13 := hK _ _ _ _ h13 (by decide)
  replace h14 := hK _ _ _ _ h14 (by decide)
  replace h15 := hK _ _ _ _ h15 (by decide)
  replace h16 := hK _ _ _ _ h16 (by decide)
  replace h17 := hK _ _ _ _ h17 (by decide)
  replace h18 := hK _ _ _ _ h18 (by decide)
  replace h19 := hK _ _ _ _ h19 (by decide)
  replace h20 := hK _ _ _ _ h20 (by decide)
  replace h21 := hK _ _ _ _ h21 (by decide)
  replace h22 := hK _ _ _ _ h22 (by decide)
  replace h23 := hK _ _ _ _ h23 (by decide)
  replace h24 := hK _ _ _ _ h24 (by decide)
  replace h25 := hK _ _ _ _ h25 (by decide)
  replace h26 := hK _ _ _ _ h26 (by decide)
  replace h27 := hK _ _ _ _ h27 (by decide)
  replace h29 := hK _ _ _ _ h29 (by decide)
  replace h37 := hK _ _ _ _ h37 (by decide)
  replace h38 := hK _ _ _ _ h38 (by decide)
  replace h41 := hK _ _ _ _ h41 (by decide)
  replace h42 := hK _ _ _ _ h42 (by decide)
  replace h43 := hK _ _ _ _ h43 (by decide)
  replace h44 := hK _ _ _ _ h44 (by decide)
  replace h45 := hK _ _ _ _ h45 (by decide)
  replace h46 := hK _ _ _ _ h46 (by decide)
  replace h52 := hK _ _ _ _ h52 (by decide)
  replace hKK := hKK.trans (hK.mono (by decide))
  clear hK
  replace h53 := hx1
  clear hx1
  replace hI := hI1
  clear hI1
  replace hZ : σ1.2.1 ≤ σ.2.1 + 31 ∧ σ1.2.2 ≤ σ.2.2 + 126472 := ⟨by omega, by omega⟩
  clear hz
  refine jW.dup (dx_Mo_init 168 (e := (332, .dup, 1)) rfl) rfl (pc' := 333) rfl ?_
  refine jW.iconst (v := 4) (dx_Mo_init 169 (e := (333, .iconst 4, 1)) rfl) (by decide) (pc' := 334) rfl ?_
  refine jW.bipush (v := 39) (dx_Mo_init 170 (e := (334, .bipush 39, 2)) rfl) (by decide) (pc' := 336) rfl ?_
  refine jW.iastA (t := 1153) (n := 6) (k := 4) F (dx_Mo_init 171 (e := (336, .iastore, 1)) rfl) (by decide) rfl h53 Bh53 ((vp_nI (n := 4) (N := 6) (by decide)).mpr (by decide)) (by decide) (pc' := 337) rfl hI (fun σ1 hx1 hI1 hK hz => ?_)
  replace ho := hK _ _ _ _ ho (by decide)
  replace h1 := hK _ _ _ _ h1 (by decide)
  replace h2 := hK _ _ _ _ h2 (by decide)
  replace h7 := hK _ _ _ _ h7 (by decide)
  replace h8 := hK _ _ _ _ h8 (by decide)
  replace h9 := hK _ _ _ _ h9 (by decide)
  replace h13 := hK _ _ _ _ h13 (by decide)
  replace h14 := hK _ _ _ _ h14 (by decide)
  replace h15 := hK _ _ _ _ h15 (by decide)
  replace h16 := hK _ _ _ _ h16 (by decide)
  replace h17 := hK _ _ _ _ h17 (by decide)
  replace h18 := hK _ _ _ _ h18 (by decide)
  replace h19 := hK _ _ _ _ h19 (by decide)
  replace h20 := hK _ _ _ _ h20 (by decide)
  replace h21 := hK _ _ _ _ h21 (by decide)
  replace h22 := hK _ _ _ _ h22 (by decide)
  replace h23 := hK _ _ _ _ h23 (by decide)
  replace h24 := hK _ _ _ _ h24 (by decide)
  replace h25 := hK _ _ _ _ h25 (by decide)
  replace h26 := hK _ _ _ _ h26 (by decide)
  replace h27 := hK _ _ _ _ h27 (by decide)
  replace h29 := hK _ _ _ _ h29 (by decide)
  replace h37 := hK _ _ _ _ h37 (by decide)
  replace h38 := hK _ _ _ _ h38 (by decide)
  replace h41 := hK _ _ _ _ h41 (by decide)
  replace h42 := hK _ _ _ _ h42 (by decide)
  replace h43 := hK _ _ _ _ h43 (by decide)
  replace h44 := hK _ _ _ _ h44 (by decide)
  replace h45 := hK _ _ _ _ h45 (by decide)
  replace h46 := hK _ _ _ _ h46 (by decide)
  replace h52 := hK _ _ _ _ h52 (by decide)
  replace hKK := hKK.trans (hK.mono (by decide))
  clear hK
  replace h53 := hx1
  clear hx1
  replace hI := hI1
  clear hI1
  replace hZ : σ1.2.1 ≤ σ.2.1 + 31 ∧ σ1.2.2 ≤ σ.2.2 + 126472 := ⟨by omega, by omega⟩
  clear hz
  refine jW.dup (dx_Mo_init 172 (e := (337, .dup, 1)) rfl) rfl (pc' := 338) rfl ?_
  refine jW.iconst (v := 5) (dx_Mo_init 173 (e := (338, .iconst 5, 1)) rfl) (by decide) (pc' := 339) rfl ?_
  refine jW.sipush (v := 160) (dx_Mo_init 174 (e := (339, .sipush 160, 3)) rfl) (by decide) (pc' := 342) rfl ?_
  refine jW.iastA (t := 1153) (n := 6) (k := 5) F (dx_Mo_init 175 (e := (342, .iastore, 1)) rfl) (by decide) rfl h53 Bh53 ((vp_nI (n := 5) (N := 6) (by decide)).mpr (by decide)) (by decide) (pc' := 343) rfl hI (fun σ1 hx1 hI1 hK hz => ?_)
  replace ho := hK _ _ _ _ ho (by decide)
  replace h1 := hK _ _ _ _ h1 (by decide)
  replace h2 := hK _ _ _ _ h2 (by decide)
  replace h7 := hK _ _ _ _ h7 (by decide)
  replace h8 := hK _ _ _ _ h8 (by decide)
  replace h9 := hK _ _ _ _ h9 (by decide)
  replace h13 := hK _ _ _ _ h13 (by decide)
  replace h14 := hK _ _ _ _ h14 (by decide)
  replace h15 := hK _ _ _ _ h15 (by decide)
  replace h16 := hK _ _ _ _ h16 (by decide)
  replace h17 := hK _ _ _ _ h17 (by decide)
  replace h18 := hK _ _ _ _ h18 (by decide)
  replace h19 := hK _ _ _ _ h19 (by decide)
  replace h20 := hK _ _ _ _ h20 (by decide)
  replace h21 := hK _ _ _ _ h21 (by decide)
  replace h22 := hK _ _ _ _ h22 (by decide)
  replace h23 := hK _ _ _ _ h23 (by decide)
  replace h24 := hK _ _ _ _ h24 (by decide)
  replace h25 := hK _ _ _ _ h25 (by decide)
  replace h26 := hK _ _ _ _ h26 (by decide)
  replace h27 := hK _ _ _ _ h27 (by decide)
  replace h29 := hK _ _ _ _ h29 (by decide)
  replace h37 := hK _ _ _ _ h37 (by decide)
  replace h38 := hK _ _ _ _ h38 (by decide)
  replace h41 := hK _ _ _ _ h41 (by decide)
  replace h42 := hK _ _ _ _ h42 (by decide)
  replace h43 := hK _ _ _ _ h43 (by decide)
  replace h44 := hK _ _ _ _ h44 (by decide)
  replace h45 := hK _ _ _ _ h45 (by decide)
  replace h46 := hK _ _ _ _ h46 (by decide)
  replace h52 := hK _ _ _ _ h52 (by decide)
  replace hKK := hKK.trans (hK.mono (by decide))
  clear hK
  replace h53 := hx1
  clear hx1
  replace hI := hI1
  clear hI1
  replace hZ : σ1.2.1 ≤ σ.2.1 + 31 ∧ σ1.2.2 ≤ σ.2.2 + 126472 := ⟨by omega, by omega⟩
  clear hz
  refine jW.putFA (ci := 8) (k := 53) F rfl (dx_Mo_init 176 (e := (343, .putfield 111, 3)) rfl) (by decide) jw_1039 jF_Mo jTab_Mo rfl rfl rfl ho Bho rfl rfl (pc' := 346) rfl hI (fun σ1 hx1 hI1 hK hz => ?_)
  replace h1 := hK _ _ _ _ h1 (by decide)
  replace h2 := hK _ _ _ _ h2 (by decide)
  replace h7 := hK _ _ _ _ h7 (by decide)
  replace h8 := hK _ _ _ _ h8 (by decide)
  replace h9 := hK _ _ _ _ h9 (by decide)
  replace h13 := hK _ _ _ _ h13 (by decide)
  replace h14 := hK _ _ _ _ h14 (by decide)
  replace h15 := hK _ _ _ _ h15 (by decide)
  replace h16 := hK _ _ _ _ h16 (by decide)
  replace h17 := hK _ _ _ _ h17 (by decide)
  replace h18 := hK _ _ _ _ h18 (by decide)
  replace h19 := hK _ _ _ _ h19 (by decide)
  replace h20 := hK _ _ _ _ h20 (by decide)
  replace h21 := hK _ _ _ _ h21 (by decide)
  replace h22 := hK _ _ _ _ h22 (by decide)
  replace h23 := hK _ _ _ _ h23 (by decide)
  replace h24 := hK _ _ _ _ h24 (by decide)
  replace h25 := hK _ _ _ _ h25 (by decide)
  replace h26 := hK _ _ _ _ h26 (by decide)
  replace h27 := hK _ _ _ _ h27 (by decide)
  replace h29 := hK _ _ _ _ h29 (by decide)
  replace h37 := hK _ _ _ _ h37 (by decide)
  replace h38 := hK _ _ _ _ h38 (by decide)
  replace h41 := hK _ _ _ _ h41 (by decide)
  replace h42 := hK _ _ _ _ h42 (by decide)
  replace h43 := hK _ _ _ _ h43 (by decide)
  replace h44 := hK _ _ _ _ h44 (by decide)
  replace h45 := hK _ _ _ _ h45 (by decide)
  replace h46 := hK _ _ _ _ h46 (by decide)
  replace h52 := hK _ _ _ _ h52 (by decide)
  replace h53 := hK _ _ _ _ h53 (by decide)
  replace hKK := hKK.trans (hK.mono (by decide))
  clear hK
  replace ho := hx1
  clear hx1
  replace hI := hI1
  clear hI1
  replace hZ : σ1.2.1 ≤ σ.2.1 + 31 ∧ σ1.2.2 ≤ σ.2.2 + 126472 := ⟨by omega, by omega⟩
  clear hz
  refine jW.vret (dx_Mo_init 177 (e := (346, .return_, 1)) rfl) rfl ?_
  refine ⟨rfl, hI, hKK, hZ, arF a1 a2 a7 a8 a9 a13 a14 a15 a16 a17 a18 a19 a20 a21 a22 a23 a24 a25 a26 a27 a29 a37 a38 a41 a42 a43 a44 a45 a46 a52 a53, hI, trivial, trivial, ⟨_, ho, ?_, Bho⟩, ?_⟩
  · intro k hk
    match k, hk with
    | 0, _ => exact hv 0 (by decide) rfl
    | 1, _ => exact rfl
    | 2, _ => exact rfl
    | 3, _ => exact hv 3 (by decide) rfl
    | 4, _ => exact hv 4 (by decide) rfl
    | 5, _ => exact rfl
    | 6, _ => exact hv 6 (by decide) rfl
    | 7, _ => exact rfl
    | 8, _ => exact rfl
    | 9, _ => exact rfl
    | 10, _ => exact hv 10 (by decide) rfl
    | 11, _ => exact hv 11 (by decide) rfl
    | 12, _ => exact hv 12 (by decide) rfl
    | 13, _ => exact rfl
    | 14, _ => exact rfl
    | 15, _ => exact rfl
    | 16, _ => exact rfl
    | 17, _ => exact rfl
    | 18, _ => exact rfl
    | 19, _ => exact rfl
    | 20, _ => exact rfl
    | 21, _ => exact rfl
    | 22, _ => exact rfl
    | 23, _ => exact rfl
    | 24, _ => exact rfl
    | 25, _ => exact rfl
    | 26, _ => exact rfl
    | 27, _ => exact rfl
    | 28, _ => exact hv 28 (by decide) rfl
    | 29, _ => exact rfl
    | 30, _ => exact hv 30 (by decide) rfl
    | 31, _ => exact hv 31 (by decide) rfl
    | 32, _ => exact hv 32 (by decide) rfl
    | 33, _ => exact hv 33 (by decide) rfl
    | 34, _ => exact hv 34 (by decide) rfl
    | 35, _ => exact hv 35 (by decide) rfl
    | 36, _ => exact hv 36 (by decide) rfl
    | 37, _ => exact rfl
    | 38, _ => exact rfl
    | 39, _ => exact hv 39 (by decide) rfl
    | 40, _ => exact hv 40 (by decide) rfl
    | 41, _ => exact rfl
    | 42, _ => exact rfl
    | 43, _ => exact rfl
    | 44, _ => exact rfl
    | 45, _ => exact rfl
    | 46, _ => exact rfl
    | 47, _ => exact hv 47 (by decide) rfl
    | 48, _ => exact hv 48 (by decide) rfl
    | 49, _ => exact hv 49 (by decide) rfl
    | 50, _ => exact hv 50 (by decide) rfl
    | 51, _ => exact hv 51 (by decide) rfl
    | 52, _ => exact rfl
    | 53, _ => exact rfl
    | n + 54, h => exact absurd h (by omega)
  · intro k hk hm
    match k, hk, hm with
    | 0, _, hm => exact absurd rfl hm
    | 1, _, hm => exact ⟨_, h1, fun i hi => rfl, Bh1⟩
    | 2, _, hm => exact ⟨_, h2, fun i hi => rfl, Bh2⟩
    | 3, _, hm => exact absurd rfl hm
    | 4, _, hm => exact absurd rfl hm
    | 5, _, hm => exact absurd rfl hm
    | 6, _, hm => exact absurd rfl hm
    | 7, _, hm => exact ⟨_, h7, fun i hi => rfl, Bh7⟩
    | 8, _, hm => exact ⟨_, h8, fun i hi => rfl, Bh8⟩
    | 9, _, hm => exact ⟨_, h9, fun i hi => rfl, Bh9⟩
    | 10, _, hm => exact absurd rfl hm
    | 11, _, hm => exact absurd rfl hm
    | 12, _, hm => exact absurd rfl hm
    | 13, _, hm => exact ⟨_, h13, fun i hi => rfl, Bh13⟩
    | 14, _, hm => exact ⟨_, h14, fun i hi => rfl, Bh14⟩
    | 15, _, hm => exact ⟨_, h15, fun i hi => rfl, Bh15⟩
    | 16, _, hm => exact ⟨_, h16, fun i hi => rfl, Bh16⟩
    | 17, _, hm => exact ⟨_, h17, fun i hi => rfl, Bh17⟩
    | 18, _, hm => exact ⟨_, h18, fun i hi => rfl, Bh18⟩
    | 19, _, hm => exact ⟨_, h19, fun i hi => rfl, Bh19⟩
    | 20, _, hm => exact ⟨_, h20, fun i hi => rfl, Bh20⟩
    | 21, _, hm => exact ⟨_, h21, fun i hi => rfl, Bh21⟩
    | 22, _, hm => exact ⟨_, h22, fun i hi => rfl, Bh22⟩
    | 23, _, hm => exact ⟨_, h23, fun i hi => rfl, Bh23⟩
    | 24, _, hm => exact ⟨_, h24, fun i hi => rfl, Bh24⟩
    | 25, _, hm => exact ⟨_, h25, fun i hi => rfl, Bh25⟩
    | 26, _, hm => exact ⟨_, h26, fun i hi => rfl, Bh26⟩
    | 27, _, hm => exact ⟨_, h27, fun i hi => rfl, Bh27⟩
    | 28, _, hm => exact absurd rfl hm
    | 29, _, hm => exact ⟨_, h29, fun i hi => rfl, Bh29⟩
    | 30, _, hm => exact absurd rfl hm
    | 31, _, hm => exact absurd rfl hm
    | 32, _, hm => exact absurd rfl hm
    | 33, _, hm => exact absurd rfl hm
    | 34, _, hm => exact absurd rfl hm
    | 35, _, hm => exact absurd rfl hm
    | 36, _, hm => exact absurd rfl hm
    | 37, _, hm => exact ⟨_, h37, fun i hi => rfl, Bh37⟩
    | 38, _, hm => exact ⟨_, h38, fun i hi => rfl, Bh38⟩
    | 39, _, hm => exact absurd rfl hm
    | 40, _, hm => exact absurd rfl hm
    | 41, _, hm => exact ⟨_, h41, fun i hi => rfl, Bh41⟩
    | 42, _, hm => exact ⟨_, h42, fun i hi => rfl, Bh42⟩
    | 43, _, hm => exact ⟨_, h43, fun i hi => rfl, Bh43⟩
    | 44, _, hm => exact ⟨_, h44, fun i hi => rfl, Bh44⟩
    | 45, _, hm => exact ⟨_, h45, fun i hi => rfl, Bh45⟩
    | 46, _, hm => exact ⟨_, h46, fun i hi => rfl, Bh46⟩
    | 47, _, hm => exact absurd rfl hm
    | 48, _, hm => exact absurd rfl hm
    | 49, _, hm => exact absurd rfl hm
    | 50, _, hm => exact absurd rfl hm
    | 51, _, hm => exact absurd rfl hm
    | 52, _, hm => exact ⟨_, h52, fun i hi => by
      have hc : i = 0 ∨ i = 1 ∨ i = 2 ∨ i = 3 ∨ i = 4 ∨ i = 5 := by
        have : i < 6 := hi
        omega
      rcases hc with e | e | e | e | e | e <;> subst e <;> rfl, Bh52⟩
    | 53, _, hm => exact ⟨_, h53, fun i hi => by
      have hc : i = 0 ∨ i = 1 ∨ i = 2 ∨ i = 3 ∨ i = 4 ∨ i = 5 := by
        have : i < 6 := hi
        omega
      rcases hc with e | e | e | e | e | e <;> subst e <;> rfl, Bh53⟩
    | n + 54, h, _ => exact absurd h (by omega)
