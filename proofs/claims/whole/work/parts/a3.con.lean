section CON3
variable {l : Launch} {s0 : State} {D : va_G} {cA : Nat → ClassId} {a0 : Array Value} {d : Nat} {σ : jS}
/-- the state of a new object -/
def c00 (b : Nat) : CS := ((fun k => if k = 7 then -1 else 0, fun _ => 0, fun _ => [], fun _ _ => 0, fun _ => 0, fun _ => 0), (fun _ => b, 1))
def adF (mb tp rd tr lb ln re al b tx sg p e op : Nat) : Nat → Nat
  | 0 => mb
  | 1 => tp
  | 2 => tr
  | 3 => b
  | 4 => lb
  | 5 => ln
  | 6 => re
  | 7 => al
  | 10 => tx
  | 11 => sg
  | 12 => p
  | 13 => e
  | 1005 => op
  | 1015 => rd
  | _ => 0
theorem e_MB_init (F : jOK s0 jcl D cA lw_tbl a0 jty) {o em : Nat} {v : Nat → Value} (hE : EMP s0 em) (hI : jI s0.heap.size σ) (ho : σ.1 o = some (0, 8, v)) (Bho : s0.heap.size ≤ o) : jE l s0 jcl D cA (d + 6) y_MB_init [.ref o] σ (fun r0 σ' => r0 = none ∧ jI s0.heap.size σ' ∧ jK [0, 1, 2, 4, 5, 6, 7, 10, 11, 12, 13, 1004, 1005] σ σ' ∧ (σ'.2.1 ≤ σ.2.1 + 19 ∧ σ'.2.2 ≤ σ.2.2 + 262) ∧ ∃ ad : Nat → Nat, ad 0 = o ∧ CV (l, s0, D, cA, ad, σ', σ'.2.1, σ'.2.2) (c00 (ad 3)) σ') := by
  refine jE.of (by decide) (by simp [Value.category]) (Nat.le_of_ble_eq_true rfl) rfl ?_
  have hKK : jK [0, 1, 2, 4, 5, 6, 7, 10, 11, 12, 13, 1004, 1005] σ σ := jK.rfl
  have hZ : σ.2.1 ≤ σ.2.1 + 0 ∧ σ.2.2 ≤ σ.2.2 + 0 := ⟨Nat.le_refl _, Nat.le_refl _⟩
  refine jW.aload_n (dx_MB_init 0 (e := (0, .aload_n 0, 1)) rfl) rfl rfl (pc' := 1) rfl ?_
  refine jW.objI F (dx_MB_init 1 (e := (1, .invokespecial 1, 3)) rfl) jw_30 jw_31 jw_32 (Nat.le_of_ble_eq_true rfl) (pc' := 4) rfl ?_
  refine jW.aload_n (dx_MB_init 2 (e := (4, .aload_n 0, 1)) rfl) rfl rfl (pc' := 5) rfl ?_
  refine jW.newA (ci := 1) (q := jQ_Row) F rfl (dx_MB_init 3 (e := (5, .new 7, 3)) rfl) jw_33 jw_34 jw_2 jF_Row jTab_Row (n := 2) rfl (pc' := 8) rfl hI (fun tp σ1 hr Bhr hI1 hK hz => ?_)
  replace ho := hK _ _ _ _ ho (by decide)
  replace hKK := hKK.trans (fun a t n v z _ => hK a t n v z (by simp))
  clear hK
  replace hI := hI1
  clear hI1
  replace hZ : σ1.2.1 ≤ σ.2.1 + 1 ∧ σ1.2.2 ≤ σ.2.2 + 2 := ⟨by omega, by omega⟩
  clear hz
  refine jW.dup (dx_MB_init 4 (e := (8, .dup, 1)) rfl) rfl (pc' := 9) rfl ?_
  refine jW.callI F (e_Row_init1 F hI hr Bhr) (dx_MB_init 5 (e := (9, .invokespecial 9, 3)) rfl) can_Row_init rfl jw_35 jw_36 rfl rfl rfl (Nat.le_of_ble_eq_true rfl) (pc' := 12) rfl (fun _ σ1 hy => ?_)
  obtain ⟨rfl, hI1, hK, hz, hrow1⟩ := hy
  replace ho := hK _ _ _ _ ho (by decide)
  replace hKK := hKK.trans (hK.mono (by decide))
  clear hK
  replace hI := hI1
  clear hI1
  replace hZ : σ1.2.1 ≤ σ.2.1 + 2 ∧ σ1.2.2 ≤ σ.2.2 + 34 := ⟨by omega, by omega⟩
  clear hz
  refine jW.putFA (ci := 0) (k := 0) F rfl (dx_MB_init 6 (e := (12, .putfield 10, 3)) rfl) (by decide) jw_334 jF_MB jTab_MB rfl rfl rfl ho Bho rfl rfl (pc' := 15) rfl hI (fun σ1 hx1 hI1 hK hz => ?_)
  replace hrow1 := hrow1.keep hK (by decide) (by decide)
  replace hKK := hKK.trans (hK.mono (by decide))
  clear hK
  replace ho := hx1
  clear hx1
  replace hI := hI1
  clear hI1
  replace hZ : σ1.2.1 ≤ σ.2.1 + 2 ∧ σ1.2.2 ≤ σ.2.2 + 34 := ⟨by omega, by omega⟩
  clear hz
  refine jW.aload_n (dx_MB_init 7 (e := (15, .aload_n 0, 1)) rfl) rfl rfl (pc' := 16) rfl ?_
  refine jW.bipush (v := 20) (dx_MB_init 8 (e := (16, .bipush 20, 2)) rfl) (by decide) (pc' := 18) rfl ?_
  refine jW.newaA (t := 1015) (N := 20) F (dx_MB_init 9 (e := (18, .newarray .int, 2)) rfl) (by decide) rfl jw_46 (by decide) (by decide) (by decide) (pc' := 20) rfl hI (fun rd σ1 hrd Bhrd hI1 hK hz => ?_)
  replace ho := hK _ _ _ _ ho (by decide)
  replace hrow1 := hrow1.keep hK (by decide) (by decide)
  replace hKK := hKK.trans (fun a t n v z _ => hK a t n v z (by simp))
  clear hK
  replace hI := hI1
  clear hI1
  replace hZ : σ1.2.1 ≤ σ.2.1 + 3 ∧ σ1.2.2 ≤ σ.2.2 + 54 := ⟨by omega, by omega⟩
  clear hz
  refine jW.putFA (ci := 0) (k := 1) F rfl (dx_MB_init 10 (e := (20, .putfield 16, 3)) rfl) (by decide) jw_335 jF_MB jTab_MB rfl rfl rfl ho Bho rfl rfl (pc' := 23) rfl hI (fun σ1 hx1 hI1 hK hz => ?_)
  replace hrow1 := hrow1.keep hK (by decide) (by decide)
  replace hrd := hK _ _ _ _ hrd (by decide)
  replace hKK := hKK.trans (hK.mono (by decide))
  clear hK
  replace ho := hx1
  clear hx1
  replace hI := hI1
  clear hI1
  replace hZ : σ1.2.1 ≤ σ.2.1 + 3 ∧ σ1.2.2 ≤ σ.2.2 + 54 := ⟨by omega, by omega⟩
  clear hz
  refine jW.aload_n (dx_MB_init 11 (e := (23, .aload_n 0, 1)) rfl) rfl rfl (pc' := 24) rfl ?_
  refine jW.newA (ci := 2) (q := jQ_Tree) F rfl (dx_MB_init 12 (e := (24, .new 20, 3)) rfl) jw_47 jw_48 jw_3 jF_Tree jTab_Tree (n := 4) rfl (pc' := 27) rfl hI (fun tr σ1 ht Bht hI1 hK hz => ?_)
  replace ho := hK _ _ _ _ ho (by decide)
  replace hrow1 := hrow1.keep hK (by decide) (by decide)
  replace hrd := hK _ _ _ _ hrd (by decide)
  replace hKK := hKK.trans (fun a t n v z _ => hK a t n v z (by simp))
  clear hK
  replace hI := hI1
  clear hI1
  replace hZ : σ1.2.1 ≤ σ.2.1 + 4 ∧ σ1.2.2 ≤ σ.2.2 + 58 := ⟨by omega, by omega⟩
  clear hz
  refine jW.dup (dx_MB_init 13 (e := (27, .dup, 1)) rfl) rfl (pc' := 28) rfl ?_
  refine jW.callI F (e_Tree_init F hE hI ht Bht) (dx_MB_init 14 (e := (28, .invokespecial 22, 3)) rfl) can_Tree_init rfl jw_49 jw_50 rfl rfl rfl (Nat.le_of_ble_eq_true rfl) (pc' := 31) rfl (fun _ σ1 hy => ?_)
  obtain ⟨rfl, hI1, hK, hz, al, b, tx, ed, ht2, hl, hrow10⟩ := hy
  have Bht2 := Bht
  replace ho := hK _ _ _ _ ho (by decide)
  replace hrow1 := hrow1.keep hK (by decide) (by decide)
  replace hrd := hK _ _ _ _ hrd (by decide)
  replace hKK := hKK.trans (hK.mono (by decide))
  clear hK
  replace hI := hI1
  clear hI1
  replace hZ : σ1.2.1 ≤ σ.2.1 + 9 ∧ σ1.2.2 ≤ σ.2.2 + 119 := ⟨by omega, by omega⟩
  clear hz
  refine jW.putFA (ci := 0) (k := 2) F rfl (dx_MB_init 15 (e := (31, .putfield 23, 3)) rfl) (by decide) jw_336 jF_MB jTab_MB rfl rfl rfl ho Bho rfl rfl (pc' := 34) rfl hI (fun σ1 hx1 hI1 hK hz => ?_)
  replace hrow1 := hrow1.keep hK (by decide) (by decide)
  replace hrd := hK _ _ _ _ hrd (by decide)
  replace ht2 := hK _ _ _ _ ht2 (by decide)
  replace hl := hl.keep hK (by decide) (by decide) (by decide)
  replace hrow10 := hrow10.keep hK (by decide) (by decide)
  replace hKK := hKK.trans (hK.mono (by decide))
  clear hK
  replace ho := hx1
  clear hx1
  replace hI := hI1
  clear hI1
  replace hZ : σ1.2.1 ≤ σ.2.1 + 9 ∧ σ1.2.2 ≤ σ.2.2 + 119 := ⟨by omega, by omega⟩
  clear hz
  refine jW.aload_n (dx_MB_init 16 (e := (34, .aload_n 0, 1)) rfl) rfl rfl (pc' := 35) rfl ?_
  refine jW.newA (ci := 4) (q := jQ_Lab) F rfl (dx_MB_init 17 (e := (35, .new 27, 3)) rfl) jw_226 jw_227 jw_12 jF_Lab jTab_Lab (n := 10) rfl (pc' := 38) rfl hI (fun lb σ1 hlb Bhlb hI1 hK hz => ?_)
  replace ho := hK _ _ _ _ ho (by decide)
  replace hrow1 := hrow1.keep hK (by decide) (by decide)
  replace hrd := hK _ _ _ _ hrd (by decide)
  replace ht2 := hK _ _ _ _ ht2 (by decide)
  replace hl := hl.keep hK (by decide) (by decide) (by decide)
  replace hrow10 := hrow10.keep hK (by decide) (by decide)
  replace hKK := hKK.trans (fun a t n v z _ => hK a t n v z (by simp))
  clear hK
  replace hI := hI1
  clear hI1
  replace hZ : σ1.2.1 ≤ σ.2.1 + 10 ∧ σ1.2.2 ≤ σ.2.2 + 129 := ⟨by omega, by omega⟩
  clear hz
  refine jW.dup (dx_MB_init 18 (e := (38, .dup, 1)) rfl) rfl (pc' := 39) rfl ?_
  refine jW.aload_n (dx_MB_init 19 (e := (39, .aload_n 0, 1)) rfl) rfl rfl (pc' := 40) rfl ?_
  refine jW.getf F f_MB_init_40 (by assumption) (w := .ref tr) rfl (pc' := 43) rfl ?_
  refine jW.getf F f_MB_init_43 (by assumption) (w := .ref tx) rfl (pc' := 46) rfl ?_
  refine jW.callI F (e_Lab_init F (tx := tx) hI hlb Bhlb) (dx_MB_init 22 (e := (46, .invokespecial 32, 3)) rfl) can_Lab_init rfl jw_228 jw_229 rfl rfl rfl (Nat.le_of_ble_eq_true rfl) (pc' := 49) rfl (fun _ σ1 hy => ?_)
  obtain ⟨rfl, hI1, hK, hz, p, e, hlb2, hrow12, hrow13⟩ := hy
  have Bhlb2 := Bhlb
  replace ho := hK _ _ _ _ ho (by decide)
  replace hrow1 := hrow1.keep hK (by decide) (by decide)
  replace hrd := hK _ _ _ _ hrd (by decide)
  replace ht2 := hK _ _ _ _ ht2 (by decide)
  replace hl := hl.keep hK (by decide) (by decide) (by decide)
  replace hrow10 := hrow10.keep hK (by decide) (by decide)
  replace hKK := hKK.trans (hK.mono (by decide))
  clear hK
  replace hI := hI1
  clear hI1
  replace hZ : σ1.2.1 ≤ σ.2.1 + 14 ∧ σ1.2.2 ≤ σ.2.2 + 197 := ⟨by omega, by omega⟩
  clear hz
  refine jW.putFA (ci := 0) (k := 3) F rfl (dx_MB_init 23 (e := (49, .putfield 35, 3)) rfl) (by decide) jw_337 jF_MB jTab_MB rfl rfl rfl ho Bho rfl rfl (pc' := 52) rfl hI (fun σ1 hx1 hI1 hK hz => ?_)
  replace hrow1 := hrow1.keep hK (by decide) (by decide)
  replace hrd := hK _ _ _ _ hrd (by decide)
  replace ht2 := hK _ _ _ _ ht2 (by decide)
  replace hl := hl.keep hK (by decide) (by decide) (by decide)
  replace hrow10 := hrow10.keep hK (by decide) (by decide)
  replace hlb2 := hK _ _ _ _ hlb2 (by decide)
  replace hrow12 := hrow12.keep hK (by decide) (by decide)
  replace hrow13 := hrow13.keep hK (by decide) (by decide)
  replace hKK := hKK.trans (hK.mono (by decide))
  clear hK
  replace ho := hx1
  clear hx1
  replace hI := hI1
  clear hI1
  replace hZ : σ1.2.1 ≤ σ.2.1 + 14 ∧ σ1.2.2 ≤ σ.2.2 + 197 := ⟨by omega, by omega⟩
  clear hz
  refine jW.aload_n (dx_MB_init 24 (e := (52, .aload_n 0, 1)) rfl) rfl rfl (pc' := 53) rfl ?_
  refine jW.newA (ci := 5) (q := jQ_Line) F rfl (dx_MB_init 25 (e := (53, .new 39, 3)) rfl) jw_265 jw_266 jw_13 jF_Line jTab_Line (n := 7) rfl (pc' := 56) rfl hI (fun ln σ1 hln Bhln hI1 hK hz => ?_)
  replace ho := hK _ _ _ _ ho (by decide)
  replace hrow1 := hrow1.keep hK (by decide) (by decide)
  replace hrd := hK _ _ _ _ hrd (by decide)
  replace ht2 := hK _ _ _ _ ht2 (by decide)
  replace hl := hl.keep hK (by decide) (by decide) (by decide)
  replace hrow10 := hrow10.keep hK (by decide) (by decide)
  replace hlb2 := hK _ _ _ _ hlb2 (by decide)
  replace hrow12 := hrow12.keep hK (by decide) (by decide)
  replace hrow13 := hrow13.keep hK (by decide) (by decide)
  replace hKK := hKK.trans (fun a t n v z _ => hK a t n v z (by simp))
  clear hK
  replace hI := hI1
  clear hI1
  replace hZ : σ1.2.1 ≤ σ.2.1 + 15 ∧ σ1.2.2 ≤ σ.2.2 + 204 := ⟨by omega, by omega⟩
  clear hz
  refine jW.dup (dx_MB_init 26 (e := (56, .dup, 1)) rfl) rfl (pc' := 57) rfl ?_
  refine jW.callI F (e_Line_init F hI hln Bhln) (dx_MB_init 27 (e := (57, .invokespecial 41, 3)) rfl) can_Line_init rfl jw_267 jw_268 rfl rfl rfl (Nat.le_of_ble_eq_true rfl) (pc' := 60) rfl (fun _ σ1 hy => ?_)
  obtain ⟨rfl, hI1, hK, hz, sg, hln2, hrow11⟩ := hy
  have Bhln2 := Bhln
  replace ho := hK _ _ _ _ ho (by decide)
  replace hrow1 := hrow1.keep hK (by decide) (by decide)
  replace hrd := hK _ _ _ _ hrd (by decide)
  replace ht2 := hK _ _ _ _ ht2 (by decide)
  replace hl := hl.keep hK (by decide) (by decide) (by decide)
  replace hrow10 := hrow10.keep hK (by decide) (by decide)
  replace hlb2 := hK _ _ _ _ hlb2 (by decide)
  replace hrow12 := hrow12.keep hK (by decide) (by decide)
  replace hrow13 := hrow13.keep hK (by decide) (by decide)
  replace hKK := hKK.trans (hK.mono (by decide))
  clear hK
  replace hI := hI1
  clear hI1
  replace hZ : σ1.2.1 ≤ σ.2.1 + 17 ∧ σ1.2.2 ≤ σ.2.2 + 238 := ⟨by omega, by omega⟩
  clear hz
  refine jW.putFA (ci := 0) (k := 4) F rfl (dx_MB_init 28 (e := (60, .putfield 42, 3)) rfl) (by decide) jw_338 jF_MB jTab_MB rfl rfl rfl ho Bho rfl rfl (pc' := 63) rfl hI (fun σ1 hx1 hI1 hK hz => ?_)
  replace hrow1 := hrow1.keep hK (by decide) (by decide)
  replace hrd := hK _ _ _ _ hrd (by decide)
  replace ht2 := hK _ _ _ _ ht2 (by decide)
  replace hl := hl.keep hK (by decide) (by decide) (by decide)
  replace hrow10 := hrow10.keep hK (by decide) (by decide)
  replace hlb2 := hK _ _ _ _ hlb2 (by decide)
  replace hrow12 := hrow12.keep hK (by decide) (by decide)
  replace hrow13 := hrow13.keep hK (by decide) (by decide)
  replace hln2 := hK _ _ _ _ hln2 (by decide)
  replace hrow11 := hrow11.keep hK (by decide) (by decide)
  replace hKK := hKK.trans (hK.mono (by decide))
  clear hK
  replace ho := hx1
  clear hx1
  replace hI := hI1
  clear hI1
  replace hZ : σ1.2.1 ≤ σ.2.1 + 17 ∧ σ1.2.2 ≤ σ.2.2 + 238 := ⟨by omega, by omega⟩
  clear hz
  refine jW.aload_n (dx_MB_init 29 (e := (63, .aload_n 0, 1)) rfl) rfl rfl (pc' := 64) rfl ?_
  refine jW.newA (ci := 6) (q := jQ_Rd) F rfl (dx_MB_init 30 (e := (64, .new 46, 3)) rfl) jw_295 jw_296 jw_14 jF_Rd jTab_Rd (n := 10) rfl (pc' := 67) rfl hI (fun re σ1 hre Bhre hI1 hK hz => ?_)
  replace ho := hK _ _ _ _ ho (by decide)
  replace hrow1 := hrow1.keep hK (by decide) (by decide)
  replace hrd := hK _ _ _ _ hrd (by decide)
  replace ht2 := hK _ _ _ _ ht2 (by decide)
  replace hl := hl.keep hK (by decide) (by decide) (by decide)
  replace hrow10 := hrow10.keep hK (by decide) (by decide)
  replace hlb2 := hK _ _ _ _ hlb2 (by decide)
  replace hrow12 := hrow12.keep hK (by decide) (by decide)
  replace hrow13 := hrow13.keep hK (by decide) (by decide)
  replace hln2 := hK _ _ _ _ hln2 (by decide)
  replace hrow11 := hrow11.keep hK (by decide) (by decide)
  replace hKK := hKK.trans (fun a t n v z _ => hK a t n v z (by simp))
  clear hK
  replace hI := hI1
  clear hI1
  replace hZ : σ1.2.1 ≤ σ.2.1 + 18 ∧ σ1.2.2 ≤ σ.2.2 + 248 := ⟨by omega, by omega⟩
  clear hz
  refine jW.dup (dx_MB_init 31 (e := (67, .dup, 1)) rfl) rfl (pc' := 68) rfl ?_
  refine jW.aload_n (dx_MB_init 32 (e := (68, .aload_n 0, 1)) rfl) rfl rfl (pc' := 69) rfl ?_
  refine jW.getf F f_MB_init_69 (by assumption) (w := .ref tr) rfl (pc' := 72) rfl ?_
  refine jW.aload_n (dx_MB_init 34 (e := (72, .aload_n 0, 1)) rfl) rfl rfl (pc' := 73) rfl ?_
  refine jW.getf F f_MB_init_73 (by assumption) (w := .ref lb) rfl (pc' := 76) rfl ?_
  refine jW.aload_n (dx_MB_init 36 (e := (76, .aload_n 0, 1)) rfl) rfl rfl (pc' := 77) rfl ?_
  refine jW.getf F f_MB_init_77 (by assumption) (w := .ref ln) rfl (pc' := 80) rfl ?_
  obtain ⟨ub, hb7, _⟩ := hl.2.2.1 0 (by decide)
  refine jW.callI F (e_Rd_init F (lb := lb) (ln := ln) hI hre Bhre ht2 rfl hb7) (dx_MB_init 38 (e := (80, .invokespecial 48, 3)) rfl) can_Rd_init rfl jw_297 jw_298 rfl rfl rfl (Nat.le_of_ble_eq_true rfl) (pc' := 83) rfl (fun _ σ1 hy => ?_)
  clear hb7
  obtain ⟨rfl, hI1, hK, hz, op, wo, hre2, hop, hop2, Bhop⟩ := hy
  have Bhre2 := Bhre
  replace ho := hK _ _ _ _ ho (by decide)
  replace hrow1 := hrow1.keep hK (by decide) (by decide)
  replace hrd := hK _ _ _ _ hrd (by decide)
  replace ht2 := hK _ _ _ _ ht2 (by decide)
  replace hl := hl.keep hK (by decide) (by decide) (by decide)
  replace hrow10 := hrow10.keep hK (by decide) (by decide)
  replace hlb2 := hK _ _ _ _ hlb2 (by decide)
  replace hrow12 := hrow12.keep hK (by decide) (by decide)
  replace hrow13 := hrow13.keep hK (by decide) (by decide)
  replace hln2 := hK _ _ _ _ hln2 (by decide)
  replace hrow11 := hrow11.keep hK (by decide) (by decide)
  replace hKK := hKK.trans (hK.mono (by decide))
  clear hK
  replace hI := hI1
  clear hI1
  replace hZ : σ1.2.1 ≤ σ.2.1 + 19 ∧ σ1.2.2 ≤ σ.2.2 + 262 := ⟨by omega, by omega⟩
  clear hz
  refine jW.putFA (ci := 0) (k := 5) F rfl (dx_MB_init 39 (e := (83, .putfield 51, 3)) rfl) (by decide) jw_339 jF_MB jTab_MB rfl rfl rfl ho Bho rfl rfl (pc' := 86) rfl hI (fun σ1 hx1 hI1 hK hz => ?_)
  replace hrow1 := hrow1.keep hK (by decide) (by decide)
  replace hrd := hK _ _ _ _ hrd (by decide)
  replace ht2 := hK _ _ _ _ ht2 (by decide)
  replace hl := hl.keep hK (by decide) (by decide) (by decide)
  replace hrow10 := hrow10.keep hK (by decide) (by decide)
  replace hlb2 := hK _ _ _ _ hlb2 (by decide)
  replace hrow12 := hrow12.keep hK (by decide) (by decide)
  replace hrow13 := hrow13.keep hK (by decide) (by decide)
  replace hln2 := hK _ _ _ _ hln2 (by decide)
  replace hrow11 := hrow11.keep hK (by decide) (by decide)
  replace hre2 := hK _ _ _ _ hre2 (by decide)
  replace hop := hK _ _ _ _ hop (by decide)
  replace hKK := hKK.trans (hK.mono (by decide))
  clear hK
  replace ho := hx1
  clear hx1
  replace hI := hI1
  clear hI1
  replace hZ : σ1.2.1 ≤ σ.2.1 + 19 ∧ σ1.2.2 ≤ σ.2.2 + 262 := ⟨by omega, by omega⟩
  clear hz
  refine jW.aload_n (dx_MB_init 40 (e := (86, .aload_n 0, 1)) rfl) rfl rfl (pc' := 87) rfl ?_
  refine jW.iconst (v := 0) (dx_MB_init 41 (e := (87, .iconst 0, 1)) rfl) (by decide) (pc' := 88) rfl ?_
  refine jW.putA (ci := 0) (k := 6) F f_MB_init_88 rfl jF_MB jTab_MB rfl ho Bho rfl rfl (pc' := 91) rfl hI (fun σ1 hx1 hI1 hK hz => ?_)
  replace hrow1 := hrow1.keep hK (by decide) (by decide)
  replace hrd := hK _ _ _ _ hrd (by decide)
  replace ht2 := hK _ _ _ _ ht2 (by decide)
  replace hl := hl.keep hK (by decide) (by decide) (by decide)
  replace hrow10 := hrow10.keep hK (by decide) (by decide)
  replace hlb2 := hK _ _ _ _ hlb2 (by decide)
  replace hrow12 := hrow12.keep hK (by decide) (by decide)
  replace hrow13 := hrow13.keep hK (by decide) (by decide)
  replace hln2 := hK _ _ _ _ hln2 (by decide)
  replace hrow11 := hrow11.keep hK (by decide) (by decide)
  replace hre2 := hK _ _ _ _ hre2 (by decide)
  replace hop := hK _ _ _ _ hop (by decide)
  replace hKK := hKK.trans (hK.mono (by decide))
  clear hK
  replace ho := hx1
  clear hx1
  replace hI := hI1
  clear hI1
  replace hZ : σ1.2.1 ≤ σ.2.1 + 19 ∧ σ1.2.2 ≤ σ.2.2 + 262 := ⟨by omega, by omega⟩
  clear hz
  refine jW.aload_n (dx_MB_init 43 (e := (91, .aload_n 0, 1)) rfl) rfl rfl (pc' := 92) rfl ?_
  refine jW.iconst (v := -1) (dx_MB_init 44 (e := (92, .iconst (-1), 1)) rfl) (by decide) (pc' := 93) rfl ?_
  refine jW.putA (ci := 0) (k := 7) F f_MB_init_93 rfl jF_MB jTab_MB rfl ho Bho rfl rfl (pc' := 96) rfl hI (fun σ1 hx1 hI1 hK hz => ?_)
  replace hrow1 := hrow1.keep hK (by decide) (by decide)
  replace hrd := hK _ _ _ _ hrd (by decide)
  replace ht2 := hK _ _ _ _ ht2 (by decide)
  replace hl := hl.keep hK (by decide) (by decide) (by decide)
  replace hrow10 := hrow10.keep hK (by decide) (by decide)
  replace hlb2 := hK _ _ _ _ hlb2 (by decide)
  replace hrow12 := hrow12.keep hK (by decide) (by decide)
  replace hrow13 := hrow13.keep hK (by decide) (by decide)
  replace hln2 := hK _ _ _ _ hln2 (by decide)
  replace hrow11 := hrow11.keep hK (by decide) (by decide)
  replace hre2 := hK _ _ _ _ hre2 (by decide)
  replace hop := hK _ _ _ _ hop (by decide)
  replace hKK := hKK.trans (hK.mono (by decide))
  clear hK
  replace ho := hx1
  clear hx1
  replace hI := hI1
  clear hI1
  replace hZ : σ1.2.1 ≤ σ.2.1 + 19 ∧ σ1.2.2 ≤ σ.2.2 + 262 := ⟨by omega, by omega⟩
  clear hz
  refine jW.vret (dx_MB_init 46 (e := (96, .return_, 1)) rfl) rfl ?_
  refine ⟨rfl, hI, hKK, hZ, adF o tp rd tr lb ln re al b tx sg p e op, rfl, fun _ => 32, ed, 10, hI, jK.rfl, ⟨?_, ?_, ?_, ?_, ?_⟩, ⟨hrow1, hrow10, hrow11, hrow12, hrow13⟩, hl, ⟨wo, hop, fun j hj => ⟨hop2 j hj, Nat.zero_lt_one⟩, Bhop⟩, ⟨_, hrd, fun i hi => rfl, Bhrd⟩, ⟨⟨Nat.zero_le _, Nat.le_refl _, rfl⟩, Nat.zero_le _, Nat.zero_le _, Nat.zero_le _, Nat.zero_le _, Nat.zero_le _⟩, ?_⟩
  · exact ⟨_, ho, fun j hj => by
    have hc : j = 0 ∨ j = 1 ∨ j = 2 ∨ j = 3 ∨ j = 4 ∨ j = 5 ∨ j = 6 ∨ j = 7 := by
      have : j < 8 := hj
      omega
    rcases hc with e0 | e0 | e0 | e0 | e0 | e0 | e0 | e0 <;> subst e0 <;> rfl, Bho⟩
  · exact ⟨_, ht2, fun j hj => by
    have hc : j = 0 ∨ j = 1 ∨ j = 2 ∨ j = 3 := by
      have : j < 4 := hj
      omega
    rcases hc with e0 | e0 | e0 | e0 <;> subst e0 <;> rfl, Bht⟩
  · exact ⟨_, hlb2, fun j hj => by
    have hc : j = 0 ∨ j = 1 ∨ j = 2 ∨ j = 3 ∨ j = 4 ∨ j = 5 ∨ j = 6 ∨ j = 7 ∨ j = 8 ∨ j = 9 := by
      have : j < 10 := hj
      omega
    rcases hc with e0 | e0 | e0 | e0 | e0 | e0 | e0 | e0 | e0 | e0 <;> subst e0 <;> rfl, Bhlb⟩
  · exact ⟨_, hln2, fun j hj => by
    have hc : j = 0 ∨ j = 1 ∨ j = 2 ∨ j = 3 ∨ j = 4 ∨ j = 5 ∨ j = 6 := by
      have : j < 7 := hj
      omega
    rcases hc with e0 | e0 | e0 | e0 | e0 | e0 | e0 <;> subst e0 <;> rfl, Bhln⟩
  · exact ⟨_, hre2, fun j hj => by
    have hc : j = 0 ∨ j = 1 ∨ j = 2 ∨ j = 3 ∨ j = 4 ∨ j = 5 ∨ j = 6 ∨ j = 7 ∨ j = 8 ∨ j = 9 := by
      have : j < 10 := hj
      omega
    rcases hc with e0 | e0 | e0 | e0 | e0 | e0 | e0 | e0 | e0 | e0 <;> subst e0 <;> rfl, Bhre⟩
  · refine ⟨?_, ?_⟩
    · show σ1.2.1 ≤ σ1.2.1 + _ + _ + _
      omega
    · show σ1.2.2 ≤ σ1.2.2 + _ + _ + _
      omega
end CON3
