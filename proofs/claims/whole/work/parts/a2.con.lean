section CON2
variable {l : Launch} {s0 : State} {D : va_G} {cA : Nat → ClassId} {a0 : Array Value} {d : Nat} {σ : jS}
theorem e_Line_init (F : jOK s0 jcl D cA lw_tbl a0 jty) {o : Nat} {v : Nat → Value} (hI : jI s0.heap.size σ) (ho : σ.1 o = some (5, 7, v)) (Bho : s0.heap.size ≤ o) : jE l s0 jcl D cA (d + 2) y_Line_init [.ref o] σ (fun r0 σ' => r0 = none ∧ jI s0.heap.size σ' ∧ jK [5, 11] σ σ' ∧ (σ'.2.1 ≤ σ.2.1 + 2 ∧ σ'.2.2 ≤ σ.2.2 + 34) ∧ ∃ r, σ'.1 o = some (5, 7, updV v 0 (.ref r)) ∧ RowAt s0.heap.size 11 1012 σ' r 32 []) := by
  refine jE.of (by decide) (by simp [Value.category]) (Nat.le_of_ble_eq_true rfl) rfl ?_
  have hKK : jK [5, 11] σ σ := jK.rfl
  have hZ : σ.2.1 ≤ σ.2.1 + 0 ∧ σ.2.2 ≤ σ.2.2 + 0 := ⟨Nat.le_refl _, Nat.le_refl _⟩
  refine jW.aload_n (dx_Line_init 0 (e := (0, .aload_n 0, 1)) rfl) rfl rfl (pc' := 1) rfl ?_
  refine jW.objI F (dx_Line_init 1 (e := (1, .invokespecial 3, 3)) rfl) jw_270 jw_31 jw_32 (Nat.le_of_ble_eq_true rfl) (pc' := 4) rfl ?_
  refine jW.aload_n (dx_Line_init 2 (e := (4, .aload_n 0, 1)) rfl) rfl rfl (pc' := 5) rfl ?_
  refine jW.newA (ci := 11) (q := jQ_Row) F rfl (dx_Line_init 3 (e := (5, .new 9, 3)) rfl) jw_271 jw_34 jw_2 jF_Row jTab_Row (n := 2) rfl (pc' := 8) rfl hI (fun r σ1 hr Bhr hI1 hK hz => ?_)
  replace ho := hK _ _ _ _ ho (by decide)
  replace hKK := hKK.trans (fun a t n v z _ => hK a t n v z (by simp))
  clear hK
  replace hI := hI1
  clear hI1
  replace hZ : σ1.2.1 ≤ σ.2.1 + 1 ∧ σ1.2.2 ≤ σ.2.2 + 2 := ⟨by omega, by omega⟩
  clear hz
  refine jW.dup (dx_Line_init 4 (e := (8, .dup, 1)) rfl) rfl (pc' := 9) rfl ?_
  refine jW.callI F (e_Row_init11 F hI hr Bhr) (dx_Line_init 5 (e := (9, .invokespecial 11, 3)) rfl) can_Row_init rfl jw_272 jw_36 rfl rfl rfl (Nat.le_of_ble_eq_true rfl) (pc' := 12) rfl (fun _ σ1 hy => ?_)
  obtain ⟨rfl, hI1, hK, hz, hrow⟩ := hy
  replace ho := hK _ _ _ _ ho (by decide)
  replace hKK := hKK.trans (hK.mono (by decide))
  clear hK
  replace hI := hI1
  clear hI1
  replace hZ : σ1.2.1 ≤ σ.2.1 + 2 ∧ σ1.2.2 ≤ σ.2.2 + 34 := ⟨by omega, by omega⟩
  clear hz
  refine jW.putFA (ci := 5) (k := 0) F rfl (dx_Line_init 6 (e := (12, .putfield 12, 3)) rfl) (by decide) jw_273 jF_Line jTab_Line rfl rfl rfl ho Bho rfl rfl (pc' := 15) rfl hI (fun σ1 hx1 hI1 hK hz => ?_)
  replace hrow := hrow.keep hK (by decide) (by decide)
  replace hKK := hKK.trans (hK.mono (by decide))
  clear hK
  replace ho := hx1
  clear hx1
  replace hI := hI1
  clear hI1
  replace hZ : σ1.2.1 ≤ σ.2.1 + 2 ∧ σ1.2.2 ≤ σ.2.2 + 34 := ⟨by omega, by omega⟩
  clear hz
  refine jW.vret (dx_Line_init 7 (e := (15, .return_, 1)) rfl) rfl ?_
  exact ⟨rfl, hI, hKK, hZ, r, ho, hrow⟩
theorem e_Lab_init (F : jOK s0 jcl D cA lw_tbl a0 jty) {o tx : Nat} {v : Nat → Value} (hI : jI s0.heap.size σ) (ho : σ.1 o = some (4, 10, v)) (Bho : s0.heap.size ≤ o) : jE l s0 jcl D cA (d + 2) y_Lab_init [.ref o, .ref tx] σ (fun r0 σ' => r0 = none ∧ jI s0.heap.size σ' ∧ jK [4, 12, 13] σ σ' ∧ (σ'.2.1 ≤ σ.2.1 + 4 ∧ σ'.2.2 ≤ σ.2.2 + 68) ∧ ∃ p e, σ'.1 o = some (4, 10, updV (updV (updV v 0 (.ref tx)) 1 (.ref p)) 2 (.ref e)) ∧ RowAt s0.heap.size 12 1013 σ' p 32 [] ∧ RowAt s0.heap.size 13 1014 σ' e 32 []) := by
  refine jE.of (by decide) (by simp [Value.category]) (Nat.le_of_ble_eq_true rfl) rfl ?_
  have hKK : jK [4, 12, 13] σ σ := jK.rfl
  have hZ : σ.2.1 ≤ σ.2.1 + 0 ∧ σ.2.2 ≤ σ.2.2 + 0 := ⟨Nat.le_refl _, Nat.le_refl _⟩
  refine jW.aload_n (dx_Lab_init 0 (e := (0, .aload_n 0, 1)) rfl) rfl rfl (pc' := 1) rfl ?_
  refine jW.objI F (dx_Lab_init 1 (e := (1, .invokespecial 3, 3)) rfl) jw_231 jw_31 jw_32 (Nat.le_of_ble_eq_true rfl) (pc' := 4) rfl ?_
  refine jW.aload_n (dx_Lab_init 2 (e := (4, .aload_n 0, 1)) rfl) rfl rfl (pc' := 5) rfl ?_
  refine jW.aload_n (dx_Lab_init 3 (e := (5, .aload_n 1, 1)) rfl) rfl rfl (pc' := 6) rfl ?_
  refine jW.putFA (ci := 4) (k := 0) F rfl (dx_Lab_init 4 (e := (6, .putfield 9, 3)) rfl) (by decide) jw_234 jF_Lab jTab_Lab rfl rfl rfl ho Bho rfl rfl (pc' := 9) rfl hI (fun σ1 hx1 hI1 hK hz => ?_)
  replace hKK := hKK.trans (hK.mono (by decide))
  clear hK
  replace ho := hx1
  clear hx1
  replace hI := hI1
  clear hI1
  replace hZ : σ1.2.1 ≤ σ.2.1 + 0 ∧ σ1.2.2 ≤ σ.2.2 + 0 := ⟨by omega, by omega⟩
  clear hz
  refine jW.aload_n (dx_Lab_init 5 (e := (9, .aload_n 0, 1)) rfl) rfl rfl (pc' := 10) rfl ?_
  refine jW.newA (ci := 12) (q := jQ_Row) F rfl (dx_Lab_init 6 (e := (10, .new 15, 3)) rfl) jw_232 jw_34 jw_2 jF_Row jTab_Row (n := 2) rfl (pc' := 13) rfl hI (fun p σ1 hp Bhp hI1 hK hz => ?_)
  replace ho := hK _ _ _ _ ho (by decide)
  replace hKK := hKK.trans (fun a t n v z _ => hK a t n v z (by simp))
  clear hK
  replace hI := hI1
  clear hI1
  replace hZ : σ1.2.1 ≤ σ.2.1 + 1 ∧ σ1.2.2 ≤ σ.2.2 + 2 := ⟨by omega, by omega⟩
  clear hz
  refine jW.dup (dx_Lab_init 7 (e := (13, .dup, 1)) rfl) rfl (pc' := 14) rfl ?_
  refine jW.callI F (e_Row_init12 F hI hp Bhp) (dx_Lab_init 8 (e := (14, .invokespecial 17, 3)) rfl) can_Row_init rfl jw_233 jw_36 rfl rfl rfl (Nat.le_of_ble_eq_true rfl) (pc' := 17) rfl (fun _ σ1 hy => ?_)
  obtain ⟨rfl, hI1, hK, hz, hrp⟩ := hy
  replace ho := hK _ _ _ _ ho (by decide)
  replace hKK := hKK.trans (hK.mono (by decide))
  clear hK
  replace hI := hI1
  clear hI1
  replace hZ : σ1.2.1 ≤ σ.2.1 + 2 ∧ σ1.2.2 ≤ σ.2.2 + 34 := ⟨by omega, by omega⟩
  clear hz
  refine jW.putFA (ci := 4) (k := 1) F rfl (dx_Lab_init 9 (e := (17, .putfield 18, 3)) rfl) (by decide) jw_235 jF_Lab jTab_Lab rfl rfl rfl ho Bho rfl rfl (pc' := 20) rfl hI (fun σ1 hx1 hI1 hK hz => ?_)
  replace hrp := hrp.keep hK (by decide) (by decide)
  replace hKK := hKK.trans (hK.mono (by decide))
  clear hK
  replace ho := hx1
  clear hx1
  replace hI := hI1
  clear hI1
  replace hZ : σ1.2.1 ≤ σ.2.1 + 2 ∧ σ1.2.2 ≤ σ.2.2 + 34 := ⟨by omega, by omega⟩
  clear hz
  refine jW.aload_n (dx_Lab_init 10 (e := (20, .aload_n 0, 1)) rfl) rfl rfl (pc' := 21) rfl ?_
  refine jW.newA (ci := 13) (q := jQ_Row) F rfl (dx_Lab_init 11 (e := (21, .new 15, 3)) rfl) jw_232 jw_34 jw_2 jF_Row jTab_Row (n := 2) rfl (pc' := 24) rfl hI (fun e σ1 he Bhe hI1 hK hz => ?_)
  replace ho := hK _ _ _ _ ho (by decide)
  replace hrp := hrp.keep hK (by decide) (by decide)
  replace hKK := hKK.trans (fun a t n v z _ => hK a t n v z (by simp))
  clear hK
  replace hI := hI1
  clear hI1
  replace hZ : σ1.2.1 ≤ σ.2.1 + 3 ∧ σ1.2.2 ≤ σ.2.2 + 36 := ⟨by omega, by omega⟩
  clear hz
  refine jW.dup (dx_Lab_init 12 (e := (24, .dup, 1)) rfl) rfl (pc' := 25) rfl ?_
  refine jW.callI F (e_Row_init13 F hI he Bhe) (dx_Lab_init 13 (e := (25, .invokespecial 17, 3)) rfl) can_Row_init rfl jw_233 jw_36 rfl rfl rfl (Nat.le_of_ble_eq_true rfl) (pc' := 28) rfl (fun _ σ1 hy => ?_)
  obtain ⟨rfl, hI1, hK, hz, hre⟩ := hy
  replace ho := hK _ _ _ _ ho (by decide)
  replace hrp := hrp.keep hK (by decide) (by decide)
  replace hKK := hKK.trans (hK.mono (by decide))
  clear hK
  replace hI := hI1
  clear hI1
  replace hZ : σ1.2.1 ≤ σ.2.1 + 4 ∧ σ1.2.2 ≤ σ.2.2 + 68 := ⟨by omega, by omega⟩
  clear hz
  refine jW.putFA (ci := 4) (k := 2) F rfl (dx_Lab_init 14 (e := (28, .putfield 21, 3)) rfl) (by decide) jw_236 jF_Lab jTab_Lab rfl rfl rfl ho Bho rfl rfl (pc' := 31) rfl hI (fun σ1 hx1 hI1 hK hz => ?_)
  replace hrp := hrp.keep hK (by decide) (by decide)
  replace hre := hre.keep hK (by decide) (by decide)
  replace hKK := hKK.trans (hK.mono (by decide))
  clear hK
  replace ho := hx1
  clear hx1
  replace hI := hI1
  clear hI1
  replace hZ : σ1.2.1 ≤ σ.2.1 + 4 ∧ σ1.2.2 ≤ σ.2.2 + 68 := ⟨by omega, by omega⟩
  clear hz
  refine jW.vret (dx_Lab_init 15 (e := (31, .return_, 1)) rfl) rfl ?_
  exact ⟨rfl, hI, hKK, hZ, p, e, ho, hrp, hre⟩
theorem e_Tree_init (F : jOK s0 jcl D cA lw_tbl a0 jty) {o em : Nat} {v : Nat → Value} (hE : EMP s0 em) (hI : jI s0.heap.size σ) (ho : σ.1 o = some (2, 4, v)) (Bho : s0.heap.size ≤ o) : jE l s0 jcl D cA (d + 5) y_Tree_init [.ref o] σ (fun r0 σ' => r0 = none ∧ jI s0.heap.size σ' ∧ jK [2, 7, 10, 1004] σ σ' ∧ (σ'.2.1 ≤ σ.2.1 + 5 ∧ σ'.2.2 ≤ σ.2.2 + 61) ∧ ∃ al b tx ed, σ'.1 o = some (2, 4, updV (updV (updV (updV v 0 (.ref al)) 1 (.ref b)) 2 (.ref tx)) 3 (.int 0)) ∧ ListAt s0.heap.size σ' al ed 10 1 (fun _ => b) (fun _ _ => 0) ∧ RowAt s0.heap.size 10 1011 σ' tx 32 []) := by
  refine jE.of (by decide) (by simp [Value.category]) (Nat.le_of_ble_eq_true rfl) rfl ?_
  have hKK : jK [2, 7, 10, 1004] σ σ := jK.rfl
  have hZ : σ.2.1 ≤ σ.2.1 + 0 ∧ σ.2.2 ≤ σ.2.2 + 0 := ⟨Nat.le_refl _, Nat.le_refl _⟩
  refine jW.aload_n (dx_Tree_init 0 (e := (0, .aload_n 0, 1)) rfl) rfl rfl (pc' := 1) rfl ?_
  refine jW.objI F (dx_Tree_init 1 (e := (1, .invokespecial 3, 3)) rfl) jw_52 jw_31 jw_32 (Nat.le_of_ble_eq_true rfl) (pc' := 4) rfl ?_
  refine jW.aload_n (dx_Tree_init 2 (e := (4, .aload_n 0, 1)) rfl) rfl rfl (pc' := 5) rfl ?_
  refine jW.newA (ci := 7) (q := jQ_AL) F rfl (dx_Tree_init 3 (e := (5, .new 9, 3)) rfl) jw_53 jw_54 jw_6 jF_AL jTab_AL (n := 3) rfl (pc' := 8) rfl hI (fun al σ1 hal Bhal hI1 hK hz => ?_)
  replace ho := hK _ _ _ _ ho (by decide)
  replace hKK := hKK.trans (fun a t n v z _ => hK a t n v z (by simp))
  clear hK
  replace hI := hI1
  clear hI1
  replace hZ : σ1.2.1 ≤ σ.2.1 + 1 ∧ σ1.2.2 ≤ σ.2.2 + 3 := ⟨by omega, by omega⟩
  clear hz
  refine jW.dup (dx_Tree_init 4 (e := (8, .dup, 1)) rfl) rfl (pc' := 9) rfl ?_
  refine jW.callI F (e_AL_init F hE hI hal Bhal) (dx_Tree_init 5 (e := (9, .invokespecial 11, 3)) rfl) can_AL_init rfl jw_55 jw_56 rfl rfl rfl (Nat.le_of_ble_eq_true rfl) (pc' := 12) rfl (fun _ σ1 hy => ?_)
  obtain ⟨rfl, hI1, hK, hz, hal2⟩ := hy
  replace ho := hK _ _ _ _ ho (by decide)
  replace hKK := hKK.trans (hK.mono (by decide))
  clear hK
  replace hI := hI1
  clear hI1
  replace hZ : σ1.2.1 ≤ σ.2.1 + 1 ∧ σ1.2.2 ≤ σ.2.2 + 3 := ⟨by omega, by omega⟩
  clear hz
  have Bhal2 := Bhal
  refine jW.putFA (ci := 2) (k := 0) F rfl (dx_Tree_init 6 (e := (12, .putfield 12, 3)) rfl) (by decide) jw_210 jF_Tree jTab_Tree rfl rfl rfl ho Bho rfl rfl (pc' := 15) rfl hI (fun σ1 hx1 hI1 hK hz => ?_)
  replace hal2 := hK _ _ _ _ hal2 (by decide)
  replace hKK := hKK.trans (hK.mono (by decide))
  clear hK
  replace ho := hx1
  clear hx1
  replace hI := hI1
  clear hI1
  replace hZ : σ1.2.1 ≤ σ.2.1 + 1 ∧ σ1.2.2 ≤ σ.2.2 + 3 := ⟨by omega, by omega⟩
  clear hz
  refine jW.aload_n (dx_Tree_init 7 (e := (15, .aload_n 0, 1)) rfl) rfl rfl (pc' := 16) rfl ?_
  refine jW.newA (ci := 3) (q := jQ_Block) F rfl (dx_Tree_init 8 (e := (16, .new 18, 3)) rfl) jw_79 jw_80 jw_7 jF_Block jTab_Block (n := 14) rfl (pc' := 19) rfl hI (fun b σ1 hb Bhb hI1 hK hz => ?_)
  replace ho := hK _ _ _ _ ho (by decide)
  replace hal2 := hK _ _ _ _ hal2 (by decide)
  replace hKK := hKK.trans (fun a t n v z _ => hK a t n v z (by simp))
  clear hK
  replace hI := hI1
  clear hI1
  replace hZ : σ1.2.1 ≤ σ.2.1 + 2 ∧ σ1.2.2 ≤ σ.2.2 + 17 := ⟨by omega, by omega⟩
  clear hz
  refine jW.dup (dx_Tree_init 9 (e := (19, .dup, 1)) rfl) rfl (pc' := 20) rfl ?_
  refine jW.callIN F (e_Block_init F) (dx_Tree_init 10 (e := (20, .invokespecial 20, 3)) rfl) can_Block_init rfl jw_81 jw_82 rfl rfl rfl (Nat.le_of_ble_eq_true rfl) (pc' := 23) rfl (fun _ σ9 hy => ?_)
  obtain ⟨rfl, hσ⟩ := hy
  rw [hσ]
  clear hσ σ9
  refine jW.putFA (ci := 2) (k := 1) F rfl (dx_Tree_init 11 (e := (23, .putfield 21, 3)) rfl) (by decide) jw_211 jF_Tree jTab_Tree rfl rfl rfl ho Bho rfl rfl (pc' := 26) rfl hI (fun σ1 hx1 hI1 hK hz => ?_)
  replace hal2 := hK _ _ _ _ hal2 (by decide)
  replace hb := hK _ _ _ _ hb (by decide)
  replace hKK := hKK.trans (hK.mono (by decide))
  clear hK
  replace ho := hx1
  clear hx1
  replace hI := hI1
  clear hI1
  replace hZ : σ1.2.1 ≤ σ.2.1 + 2 ∧ σ1.2.2 ≤ σ.2.2 + 17 := ⟨by omega, by omega⟩
  clear hz
  refine jW.aload_n (dx_Tree_init 12 (e := (26, .aload_n 0, 1)) rfl) rfl rfl (pc' := 27) rfl ?_
  refine jW.getf F f_Tree_init_27 (by assumption) (w := .ref al) rfl (pc' := 30) rfl ?_
  refine jW.aload_n (dx_Tree_init 14 (e := (30, .aload_n 0, 1)) rfl) rfl rfl (pc' := 31) rfl ?_
  refine jW.getf F f_Tree_init_31 (by assumption) (w := .ref b) rfl (pc' := 34) rfl ?_
  refine jW.callV F (e_AL_addE F hE hI hal2 Bhal rfl rfl rfl hb) (dx_Tree_init 16 (e := (34, .invokevirtual 25, 3)) rfl) can_AL_add jw_151 jw_152 (by assumption) rfl jw_153 rfl rfl (Nat.le_of_ble_eq_true rfl) (pc' := 37) rfl (fun _ σ1 hy => ?_)
  obtain ⟨rfl, hI1, hK, hz, ed, v1, w1, hal3, q2, q3, q4, hed, q6, Bed⟩ := hy
  replace ho := hK _ _ _ _ ho (by decide)
  replace hb := hK _ _ _ _ hb (by decide)
  replace hKK := hKK.trans (hK.mono (by decide))
  clear hK
  replace hI := hI1
  clear hI1
  replace hZ : σ1.2.1 ≤ σ.2.1 + 3 ∧ σ1.2.2 ≤ σ.2.2 + 27 := ⟨by omega, by omega⟩
  clear hz
  refine jW.pop (dx_Tree_init 17 (e := (37, .pop, 1)) rfl) rfl (pc' := 38) rfl ?_
  refine jW.aload_n (dx_Tree_init 18 (e := (38, .aload_n 0, 1)) rfl) rfl rfl (pc' := 39) rfl ?_
  refine jW.newA (ci := 10) (q := jQ_Row) F rfl (dx_Tree_init 19 (e := (39, .new 29, 3)) rfl) jw_208 jw_34 jw_2 jF_Row jTab_Row (n := 2) rfl (pc' := 42) rfl hI (fun tx σ1 hr Bhr hI1 hK hz => ?_)
  replace ho := hK _ _ _ _ ho (by decide)
  replace hb := hK _ _ _ _ hb (by decide)
  replace hal3 := hK _ _ _ _ hal3 (by decide)
  replace hed := hK _ _ _ _ hed (by decide)
  replace hKK := hKK.trans (fun a t n v z _ => hK a t n v z (by simp))
  clear hK
  replace hI := hI1
  clear hI1
  replace hZ : σ1.2.1 ≤ σ.2.1 + 4 ∧ σ1.2.2 ≤ σ.2.2 + 29 := ⟨by omega, by omega⟩
  clear hz
  refine jW.dup (dx_Tree_init 20 (e := (42, .dup, 1)) rfl) rfl (pc' := 43) rfl ?_
  refine jW.callI F (e_Row_init10 F hI hr Bhr) (dx_Tree_init 21 (e := (43, .invokespecial 31, 3)) rfl) can_Row_init rfl jw_209 jw_36 rfl rfl rfl (Nat.le_of_ble_eq_true rfl) (pc' := 46) rfl (fun _ σ1 hy => ?_)
  obtain ⟨rfl, hI1, hK, hz, hrow⟩ := hy
  replace ho := hK _ _ _ _ ho (by decide)
  replace hb := hK _ _ _ _ hb (by decide)
  replace hal3 := hK _ _ _ _ hal3 (by decide)
  replace hed := hK _ _ _ _ hed (by decide)
  replace hKK := hKK.trans (hK.mono (by decide))
  clear hK
  replace hI := hI1
  clear hI1
  replace hZ : σ1.2.1 ≤ σ.2.1 + 5 ∧ σ1.2.2 ≤ σ.2.2 + 61 := ⟨by omega, by omega⟩
  clear hz
  refine jW.putFA (ci := 2) (k := 2) F rfl (dx_Tree_init 22 (e := (46, .putfield 32, 3)) rfl) (by decide) jw_214 jF_Tree jTab_Tree rfl rfl rfl ho Bho rfl rfl (pc' := 49) rfl hI (fun σ1 hx1 hI1 hK hz => ?_)
  replace hb := hK _ _ _ _ hb (by decide)
  replace hal3 := hK _ _ _ _ hal3 (by decide)
  replace hed := hK _ _ _ _ hed (by decide)
  replace hrow := hrow.keep hK (by decide) (by decide)
  replace hKK := hKK.trans (hK.mono (by decide))
  clear hK
  replace ho := hx1
  clear hx1
  replace hI := hI1
  clear hI1
  replace hZ : σ1.2.1 ≤ σ.2.1 + 5 ∧ σ1.2.2 ≤ σ.2.2 + 61 := ⟨by omega, by omega⟩
  clear hz
  refine jW.aload_n (dx_Tree_init 23 (e := (49, .aload_n 0, 1)) rfl) rfl rfl (pc' := 50) rfl ?_
  refine jW.iconst (v := 0) (dx_Tree_init 24 (e := (50, .iconst 0, 1)) rfl) (by decide) (pc' := 51) rfl ?_
  refine jW.putA (ci := 2) (k := 3) F f_Tree_init_51 rfl jF_Tree jTab_Tree rfl ho Bho rfl rfl (pc' := 54) rfl hI (fun σ1 hx1 hI1 hK hz => ?_)
  replace hb := hK _ _ _ _ hb (by decide)
  replace hal3 := hK _ _ _ _ hal3 (by decide)
  replace hed := hK _ _ _ _ hed (by decide)
  replace hrow := hrow.keep hK (by decide) (by decide)
  replace hKK := hKK.trans (hK.mono (by decide))
  clear hK
  replace ho := hx1
  clear hx1
  replace hI := hI1
  clear hI1
  replace hZ : σ1.2.1 ≤ σ.2.1 + 5 ∧ σ1.2.2 ≤ σ.2.2 + 61 := ⟨by omega, by omega⟩
  clear hz
  refine jW.vret (dx_Tree_init 26 (e := (54, .return_, 1)) rfl) rfl ?_
  refine ⟨rfl, hI, hKK, hZ, al, b, tx, ed, ho, ⟨⟨v1, 1, hal3, q2, q3, q4, Bhal⟩, ⟨w1, hed, fun i hi => ?_, Bed⟩, fun i hi => ⟨_, hb, fun k hk => ?_, Bhb⟩, fun i j hi hj _ => by omega, by decide, by decide⟩, hrow⟩
  · have : i = 0 := by omega
    subst this
    exact q6
  · have hc : k = 0 ∨ k = 1 ∨ k = 2 ∨ k = 3 ∨ k = 4 ∨ k = 5 ∨ k = 6 ∨ k = 7 ∨ k = 8 ∨ k = 9 ∨ k = 10 ∨ k = 11 ∨ k = 12 ∨ k = 13 := by omega
    rcases hc with e | e | e | e | e | e | e | e | e | e | e | e | e | e <;> subst e <;> rfl
theorem rd_loop (F : jOK s0 jcl D cA lw_tbl a0 jty) {Φ : Option Value → jS → Prop} {o tr lb ln op b : Nat} {v u ub : Nat → Value} : ∀ (k i : Nat) (σ : jS) (w : Nat → Value), k + i = 14 → jI s0.heap.size σ → σ.1 o = some (6, 10, v) → v 3 = .ref op → σ.1 op = some (1005, 14, w) → (∀ j, j < i → w j = .ref b) → σ.1 tr = some (2, 4, u) → u 1 = .ref b → σ.1 b = some (3, 14, ub) → s0.heap.size ≤ op → (∀ σ' w', jI s0.heap.size σ' → jK [1005] σ σ' → (σ'.2.1 = σ.2.1 ∧ σ'.2.2 = σ.2.2) → σ'.1 op = some (1005, 14, w') → (∀ j, j < 14 → w' j = .ref b) → Φ none σ') → jW l s0 jcl D cA d y_Rd_init 31 [some (.ref o), some (.ref tr), some (.ref lb), some (.ref ln), some (.int (nI i))] [] σ Φ := by
  intro k
  induction k with
  | zero =>
    intro i σ w hk hI h1 h2 h3 h4 h5 h6 h7 h8 hΦ
    have e : i = 14 := by omega
    subst e
    refine jW.iload (dx_Rd_init 17 (e := (31, .iload 4, 2)) rfl) rfl (pc' := 33) rfl ?_
    refine jW.aload_n (dx_Rd_init 18 (e := (33, .aload_n 0, 1)) rfl) rfl rfl (pc' := 34) rfl ?_
    refine jW.getf F f_Rd_init_34 (by assumption) (by assumption) (pc' := 37) rfl ?_
    refine jW.alen (t := 1005) (i := nI 14) F (dx_Rd_init 20 (e := (37, .arraylength, 1)) rfl) (by decide) h3 rfl (pc' := 38) rfl ?_
    refine jW.icmp_ge (dx_Rd_init 21 (e := (38, .if_icmp .ge 20, 3)) rfl) 58 (by decide) (pc' := 41) rfl (fun c_38 => ?_) (fun c_38 => ?_)
    · refine jW.vret (dx_Rd_init 30 (e := (58, .return_, 1)) rfl) rfl ?_
      exact hΦ _ _ hI jK.rfl ⟨rfl, rfl⟩ h3 h4
    · exact absurd (by decide) c_38
  | succ k ih =>
    intro i σ w hk hI h1 h2 h3 h4 h5 h6 h7 h8 hΦ
    have hlt : ¬ nI 14 ≤ nI i := fun z => by rw [nI_leI (by decide) (by omega)] at z; omega
    refine jW.iload (dx_Rd_init 17 (e := (31, .iload 4, 2)) rfl) rfl (pc' := 33) rfl ?_
    refine jW.aload_n (dx_Rd_init 18 (e := (33, .aload_n 0, 1)) rfl) rfl rfl (pc' := 34) rfl ?_
    refine jW.getf F f_Rd_init_34 (by assumption) (by assumption) (pc' := 37) rfl ?_
    refine jW.alen (t := 1005) (i := nI 14) F (dx_Rd_init 20 (e := (37, .arraylength, 1)) rfl) (by decide) h3 rfl (pc' := 38) rfl ?_
    refine jW.icmp_ge (dx_Rd_init 21 (e := (38, .if_icmp .ge 20, 3)) rfl) 58 (by decide) (pc' := 41) rfl (fun c_38 => ?_) (fun c_38 => ?_)
    · exact absurd c_38 hlt
    · refine jW.aload_n (dx_Rd_init 22 (e := (41, .aload_n 0, 1)) rfl) rfl rfl (pc' := 42) rfl ?_
      refine jW.getf F f_Rd_init_42 (by assumption) (by assumption) (pc' := 45) rfl ?_
      refine jW.iload (dx_Rd_init 24 (e := (45, .iload 4, 2)) rfl) rfl (pc' := 47) rfl ?_
      refine jW.aload_n (dx_Rd_init 25 (e := (47, .aload_n 1, 1)) rfl) rfl rfl (pc' := 48) rfl ?_
      refine jW.getf F f_Rd_init_48 (by assumption) (by assumption) (pc' := 51) rfl ?_
      refine jW.aast (t := 1005) (ci := 3) (q := jQ_Block) (C := "MarkBlocks$Block") F (dx_Rd_init 27 (e := (51, .aastore, 1)) rfl) (by decide) rfl h3 h8 h7 rfl (Or.inl rfl) ((vp_nI (by omega)).mpr (by omega)) rfl (pc' := 52) rfl ?_
      rw [nI_clamp (by omega)]
      have n1 : (jput σ op (1005, 14, updV w i (.ref b))).1 o = some (6, 10, v) := by rw [jput_ne (jne h1 h3 (by decide))]; exact h1
      have n5 : (jput σ op (1005, 14, updV w i (.ref b))).1 tr = some (2, 4, u) := by rw [jput_ne (jne h5 h3 (by decide))]; exact h5
      have n7 : (jput σ op (1005, 14, updV w i (.ref b))).1 b = some (3, 14, ub) := by rw [jput_ne (jne h7 h3 (by decide))]; exact h7
      refine jW.iinc (v := nI (i + 1)) (dx_Rd_init 28 (e := (52, .iinc 4 1, 3)) rfl) rfl (nI_1 i) (by decide) rfl (pc' := 55) rfl ?_
      refine jW.goto (dx_Rd_init 29 (e := (55, .goto (-24), 3)) rfl) 31 (by decide) ?_
      refine ih (i + 1) _ _ (by omega) (hI.put h3) n1 h2 (jput_at _ _ _) (fun j hj => ?_) n5 h6 n7 h8 (fun σ' w' g1 g2 gz g3 g4 => hΦ σ' w' g1 ((jK.put h3 (by decide)).trans g2) gz g3 g4)
      show (if j = i then _ else w j) = _
      by_cases e : j = i
      · rw [if_pos e]
      · rw [if_neg e]; exact h4 j (by omega)
theorem jW.anewA {l : Launch} {s0 : State} {cl : List vw_C} {D : va_G} {cA : Nat → ClassId} {d : Nat} {y : jM} {pc : Nat} {L : jL} {st : List Value} {σ : jS} {Φ : Option Value → jS → Prop} {tb : List Cond} {a0 : Array Value} {ty : Nat → FieldType} (F : jOK s0 cl D cA tb a0 ty) {t index : Nat} {C : String} (hd : decode y.2.1 pc = .ok (.anewarray index, 3)) (h1000 : 1000 ≤ t) (hty : ty t = .object C) (h1 : Cond.classLink y.1.cls index C ∈ tb) (h2 : Cond.arrayOver (.object C) ∈ tb) {i : Int32} {N : Nat} (hi : ¬ i < 0) (hN : i.toNatClampNeg = N) (hb8 : N * 4 ≤ 536870912) {pc' : Nat} (hp : pc + 3 = pc') (hI : jI s0.heap.size σ) (kk : ∀ (a : Nat) (σ1 : jS), σ1.1 a = some (t, N, fun _ => .null) → s0.heap.size ≤ a → jI s0.heap.size σ1 → jK [] σ σ1 → (σ1.2.1 = σ.2.1 + 1 ∧ σ1.2.2 = σ.2.2 + N) → jW l s0 cl D cA d y pc' L (.ref a :: st) σ1 Φ) : jW l s0 cl D cA d y pc L (.int i :: st) σ Φ :=
  jW.anewO F hd h1000 hty h1 h2 hi hN hb8 rfl rfl hp hI.1 (kk _ _ (jnew_at _ _ _) hI.1 hI.new (jK.new hI) ⟨rfl, rfl⟩)
theorem e_Rd_init (F : jOK s0 jcl D cA lw_tbl a0 jty) {o tr lb ln b : Nat} {v u ub : Nat → Value} (hI : jI s0.heap.size σ) (ho : σ.1 o = some (6, 10, v)) (Bho : s0.heap.size ≤ o) (h5 : σ.1 tr = some (2, 4, u)) (h6 : u 1 = .ref b) (h7 : σ.1 b = some (3, 14, ub)) : jE l s0 jcl D cA (d + 1) y_Rd_init [.ref o, .ref tr, .ref lb, .ref ln] σ (fun r0 σ' => r0 = none ∧ jI s0.heap.size σ' ∧ jK [6, 1005] σ σ' ∧ (σ'.2.1 ≤ σ.2.1 + 1 ∧ σ'.2.2 ≤ σ.2.2 + 14) ∧ ∃ op w, σ'.1 o = some (6, 10, updV (updV (updV (updV v 0 (.ref tr)) 1 (.ref lb)) 2 (.ref ln)) 3 (.ref op)) ∧ σ'.1 op = some (1005, 14, w) ∧ (∀ j, j < 14 → w j = .ref b) ∧ s0.heap.size ≤ op) := by
  refine jE.of (by decide) (by simp [Value.category]) (Nat.le_of_ble_eq_true rfl) rfl ?_
  have hKK : jK [6, 1005] σ σ := jK.rfl
  have hZ : σ.2.1 ≤ σ.2.1 + 0 ∧ σ.2.2 ≤ σ.2.2 + 0 := ⟨Nat.le_refl _, Nat.le_refl _⟩
  refine jW.aload_n (dx_Rd_init 0 (e := (0, .aload_n 0, 1)) rfl) rfl rfl (pc' := 1) rfl ?_
  refine jW.objI F (dx_Rd_init 1 (e := (1, .invokespecial 3, 3)) rfl) jw_300 jw_31 jw_32 (Nat.le_of_ble_eq_true rfl) (pc' := 4) rfl ?_
  refine jW.aload_n (dx_Rd_init 2 (e := (4, .aload_n 0, 1)) rfl) rfl rfl (pc' := 5) rfl ?_
  refine jW.aload_n (dx_Rd_init 3 (e := (5, .aload_n 1, 1)) rfl) rfl rfl (pc' := 6) rfl ?_
  refine jW.putFA (ci := 6) (k := 0) F rfl (dx_Rd_init 4 (e := (6, .putfield 9, 3)) rfl) (by decide) jw_303 jF_Rd jTab_Rd rfl rfl rfl ho Bho rfl rfl (pc' := 9) rfl hI (fun σ1 hx1 hI1 hK hz => ?_)
  replace h5 := hK _ _ _ _ h5 (by decide)
  replace h7 := hK _ _ _ _ h7 (by decide)
  replace hKK := hKK.trans (hK.mono (by decide))
  clear hK
  replace ho := hx1
  clear hx1
  replace hI := hI1
  clear hI1
  replace hZ : σ1.2.1 ≤ σ.2.1 + 0 ∧ σ1.2.2 ≤ σ.2.2 + 0 := ⟨by omega, by omega⟩
  clear hz
  refine jW.aload_n (dx_Rd_init 5 (e := (9, .aload_n 0, 1)) rfl) rfl rfl (pc' := 10) rfl ?_
  refine jW.aload_n (dx_Rd_init 6 (e := (10, .aload_n 2, 1)) rfl) rfl rfl (pc' := 11) rfl ?_
  refine jW.putFA (ci := 6) (k := 1) F rfl (dx_Rd_init 7 (e := (11, .putfield 15, 3)) rfl) (by decide) jw_304 jF_Rd jTab_Rd rfl rfl rfl ho Bho rfl rfl (pc' := 14) rfl hI (fun σ1 hx1 hI1 hK hz => ?_)
  replace h5 := hK _ _ _ _ h5 (by decide)
  replace h7 := hK _ _ _ _ h7 (by decide)
  replace hKK := hKK.trans (hK.mono (by decide))
  clear hK
  replace ho := hx1
  clear hx1
  replace hI := hI1
  clear hI1
  replace hZ : σ1.2.1 ≤ σ.2.1 + 0 ∧ σ1.2.2 ≤ σ.2.2 + 0 := ⟨by omega, by omega⟩
  clear hz
  refine jW.aload_n (dx_Rd_init 8 (e := (14, .aload_n 0, 1)) rfl) rfl rfl (pc' := 15) rfl ?_
  refine jW.aload_n (dx_Rd_init 9 (e := (15, .aload_n 3, 1)) rfl) rfl rfl (pc' := 16) rfl ?_
  refine jW.putFA (ci := 6) (k := 2) F rfl (dx_Rd_init 10 (e := (16, .putfield 19, 3)) rfl) (by decide) jw_305 jF_Rd jTab_Rd rfl rfl rfl ho Bho rfl rfl (pc' := 19) rfl hI (fun σ1 hx1 hI1 hK hz => ?_)
  replace h5 := hK _ _ _ _ h5 (by decide)
  replace h7 := hK _ _ _ _ h7 (by decide)
  replace hKK := hKK.trans (hK.mono (by decide))
  clear hK
  replace ho := hx1
  clear hx1
  replace hI := hI1
  clear hI1
  replace hZ : σ1.2.1 ≤ σ.2.1 + 0 ∧ σ1.2.2 ≤ σ.2.2 + 0 := ⟨by omega, by omega⟩
  clear hz
  refine jW.aload_n (dx_Rd_init 11 (e := (19, .aload_n 0, 1)) rfl) rfl rfl (pc' := 20) rfl ?_
  refine jW.bipush (v := 14) (dx_Rd_init 12 (e := (20, .bipush 14, 2)) rfl) (by decide) (pc' := 22) rfl ?_
  refine jW.anewA (t := 1005) (C := "MarkBlocks$Block") (N := 14) F (dx_Rd_init 13 (e := (22, .anewarray 23, 3)) rfl) (by decide) rfl jw_301 jw_302 (by decide) (by decide) (by decide) (pc' := 25) rfl hI (fun op σ1 hop Bhop hI1 hK hz => ?_)
  replace ho := hK _ _ _ _ ho (by decide)
  replace h5 := hK _ _ _ _ h5 (by decide)
  replace h7 := hK _ _ _ _ h7 (by decide)
  replace hKK := hKK.trans (fun a t n v z _ => hK a t n v z (by simp))
  clear hK
  replace hI := hI1
  clear hI1
  replace hZ : σ1.2.1 ≤ σ.2.1 + 1 ∧ σ1.2.2 ≤ σ.2.2 + 14 := ⟨by omega, by omega⟩
  clear hz
  refine jW.putFA (ci := 6) (k := 3) F rfl (dx_Rd_init 14 (e := (25, .putfield 25, 3)) rfl) (by decide) jw_306 jF_Rd jTab_Rd rfl rfl rfl ho Bho rfl rfl (pc' := 28) rfl hI (fun σ1 hx1 hI1 hK hz => ?_)
  replace h5 := hK _ _ _ _ h5 (by decide)
  replace h7 := hK _ _ _ _ h7 (by decide)
  replace hop := hK _ _ _ _ hop (by decide)
  replace hKK := hKK.trans (hK.mono (by decide))
  clear hK
  replace ho := hx1
  clear hx1
  replace hI := hI1
  clear hI1
  replace hZ : σ1.2.1 ≤ σ.2.1 + 1 ∧ σ1.2.2 ≤ σ.2.2 + 14 := ⟨by omega, by omega⟩
  clear hz
  refine jW.iconst (v := 0) (dx_Rd_init 15 (e := (28, .iconst 0, 1)) rfl) (by decide) (pc' := 29) rfl ?_
  refine jW.istore (dx_Rd_init 16 (e := (29, .istore 4, 2)) rfl) (by decide) rfl (pc' := 31) rfl ?_
  exact rd_loop F 14 0 _ _ rfl hI ho rfl hop (fun j hj => absurd hj (Nat.not_lt_zero _)) h5 h6 h7 Bhop (fun σ' w' g1 g2 gz g3 g4 => ⟨rfl, g1, hKK.trans (g2.mono (by decide)), ⟨by omega, by omega⟩, op, w', g2 _ _ _ _ ho (by decide), g3, g4, Bhop⟩)
end CON2
