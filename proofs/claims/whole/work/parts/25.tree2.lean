/-- number k of block i is z now -/
def upd2 (bf : Nat → Nat → Int32) (i k : Nat) (z : Int32) : Nat → Nat → Int32 := fun a b => if a = i ∧ b = k then z else bf a b
theorem ListAt.putB {B al ed cp N i k : Nat} {σ : jS} {bs : Nat → Nat} {bf : Nat → Nat → Int32} {v : Nat → Value} {z : Int32} (h : ListAt B σ al ed cp N bs bf) (hi : i < N) (hv : σ.1 (bs i) = some (3, 14, v)) : ListAt B (jput σ (bs i) (3, 14, updV v k (.int z))) al ed cp N bs (upd2 bf i k z) := by
  obtain ⟨⟨va, mc, q1, q2⟩, ⟨w, q3, q4⟩, q5, q6, q7⟩ := h
  have hk : jK [3] σ (jput σ (bs i) (3, 14, updV v k (.int z))) := jK.put hv (by simp)
  refine ⟨⟨va, mc, hk _ _ _ _ q1 (by decide), q2⟩, ⟨w, hk _ _ _ _ q3 (by decide), q4⟩, fun j hj => ?_, q6, q7⟩
  by_cases e : j = i
  · subst e
    obtain ⟨v', p1, p2, p3⟩ := q5 j hj
    rw [hv] at p1
    cases p1
    refine ⟨_, jput_at _ _ _, fun t ht => ?_, p3⟩
    unfold upd2
    by_cases e2 : t = k
    · subst e2; rw [updV_at, if_pos ⟨rfl, rfl⟩]
    · rw [updV_ne e2, if_neg (fun q => e2 q.2)]; exact p2 t ht
  · obtain ⟨v', p1, p2, p3⟩ := q5 j hj
    refine ⟨v', by rw [jput_ne (fun q => e (q6 j i hj hi q))]; exact p1, fun t ht => ?_, p3⟩
    unfold upd2
    rw [if_neg (fun q => e q.1)]; exact p2 t ht
theorem TreeAt.putB {B tr al dc tx ed cp N ct i k : Nat} {σ : jS} {bs : Nat → Nat} {bf : Nat → Nat → Int32} {v : Nat → Value} {z : Int32} (h : TreeAt B σ tr al dc tx ed cp N ct bs bf) (hi : i < N) (hv : σ.1 (bs i) = some (3, 14, v)) : TreeAt B (jput σ (bs i) (3, 14, updV v k (.int z))) tr al dc tx ed cp N ct bs (upd2 bf i k z) := by
  obtain ⟨⟨vt, q1, q2⟩, q3, q4⟩ := h
  have hk : jK [3] σ (jput σ (bs i) (3, 14, updV v k (.int z))) := jK.put hv (by simp)
  exact ⟨⟨vt, hk _ _ _ _ q1 (by decide), q2⟩, q3.putB hi hv, q4⟩
theorem TreeAt.putC {B tr al dc tx ed cp N ct c : Nat} {σ : jS} {bs : Nat → Nat} {bf : Nat → Nat → Int32} {v : Nat → Value} (h : TreeAt B σ tr al dc tx ed cp N ct bs bf) (hv : σ.1 tr = some (2, 4, v)) (hc : c ≤ N) : TreeAt B (jput σ tr (2, 4, updV v 3 (.int (nI c)))) tr al dc tx ed cp N c bs bf := by
  obtain ⟨⟨vt, q1, q2, q3, q4, q5, q6⟩, q7, q8⟩ := h
  rw [hv] at q1
  cases q1
  have hk : jK [2] σ (jput σ tr (2, 4, updV v 3 (.int (nI c)))) := jK.put hv (by simp)
  refine ⟨⟨_, jput_at _ _ _, ?_, ?_, ?_, updV_at _ _ _, q6⟩, q7.keep hk (by decide) (by decide) (by decide), hc, q8.2⟩
  · rw [updV_ne (by decide)]; exact q2
  · rw [updV_ne (by decide)]; exact q3
  · rw [updV_ne (by decide)]; exact q4
section TREE2
variable {l : Launch} {s0 : State} {D : va_G} {cA : Nat → ClassId} {a0 : Array Value} {d : Nat} {σ : jS} {tr al dc tx ed cp N ct : Nat} {bs : Nat → Nat} {bf : Nat → Nat → Int32}
theorem trRef_nI {i : Nat} (h : i < ct) (h2 : ct < 2 ^ 31) : trRef ct bs (nI i) = .ref (bs i) := by
  unfold trRef
  rw [if_neg (fun q => q.elim (nI_pos (by omega)) (fun q => absurd ((nI_leI h2 (by omega)).mp q) (by omega))), nI_clamp (by omega)]
theorem trRef_out {x : Int32} (h : x < 0 ∨ nI ct ≤ x) : trRef ct bs x = .null := if_pos h
theorem e_Tree_dropLast (F : jOK s0 jcl D cA lw_tbl a0 jty) (hI : jI s0.heap.size σ) (h : TreeAt s0.heap.size σ tr al dc tx ed cp N ct bs bf) : jE l s0 jcl D cA d y_Tree_dropLast [.ref tr] σ (fun r σ' => r = none ∧ jI s0.heap.size σ' ∧ jK [2] σ σ' ∧ σ'.2 = σ.2 ∧ TreeAt s0.heap.size σ' tr al dc tx ed cp N (ct - 1) bs bf) := by
  have hT0 := h
  obtain ⟨⟨v, h1, h2, h3, h4, h5, h6⟩, hL, b1, b2, b3⟩ := h
  have hL0 := hL
  obtain ⟨⟨va, mc, k1, k2, k3, k4, k5⟩, ⟨w, k6, k7, k8⟩, k9, k10, k11, k12⟩ := hL
  refine jE.of (by decide) (by simp [Value.category]) (Nat.le_of_ble_eq_true rfl) rfl ?_
  refine jW.aload_n (dx_Tree_dropLast 0 (e := (0, .aload_n 0, 1)) rfl) rfl rfl (pc' := 1) rfl ?_
  refine jW.getf F f_Tree_dropLast_1 (by assumption) (by assumption) (pc' := 4) rfl ?_
  refine jW.if_le (dx_Tree_dropLast 2 (e := (4, .ifCond .le 13, 3)) rfl) 17 (by decide) (pc' := 7) rfl (fun c_4 => ?_) (fun c_4 => ?_)
  · have hz : ct = 0 := by
      have q9 := (nI_leI (a := ct) (b := 0) (by omega) (by omega)).mp c_4
      omega
    refine jW.vret (dx_Tree_dropLast 9 (e := (17, .return_, 1)) rfl) rfl ?_
    exact ⟨rfl, hI, jK.rfl, rfl, by rw [show ct - 1 = ct by omega]; exact hT0⟩
  · refine jW.aload_n (dx_Tree_dropLast 3 (e := (7, .aload_n 0, 1)) rfl) rfl rfl (pc' := 8) rfl ?_
    refine jW.dup (dx_Tree_dropLast 4 (e := (8, .dup, 1)) rfl) rfl (pc' := 9) rfl ?_
    refine jW.getf F f_Tree_dropLast_9 (by assumption) (by assumption) (pc' := 12) rfl ?_
    refine jW.iconst (v := 1) (dx_Tree_dropLast 6 (e := (12, .iconst 1, 1)) rfl) (by decide) (pc' := 13) rfl ?_
    have hpos : 0 < ct := Nat.pos_of_ne_zero (fun q => c_4 (by rw [q]; decide))
    refine jW.isub (dx_Tree_dropLast 7 (e := (13, .isub, 1)) rfl) (pc' := 14) rfl ?_
    rw [show nI ct - 1 = nI (ct - 1) from pk_sub (a := ct) (b := 1) (by omega)]
    refine jW.putf F f_Tree_dropLast_14 rfl jF_Tree jTab_Tree rfl h1 h6 rfl rfl rfl (pc' := 17) rfl ?_
    refine jW.vret (dx_Tree_dropLast 9 (e := (17, .return_, 1)) rfl) rfl ?_
    exact ⟨rfl, hI.put h1, jK.put h1 (by simp), rfl, hT0.putC h1 (by omega)⟩
theorem e_Tree_clear (F : jOK s0 jcl D cA lw_tbl a0 jty) {n : Nat} {xs : List Int32} (hI : jI s0.heap.size σ) (h : TreeAt s0.heap.size σ tr al dc tx ed cp N ct bs bf) (hX : RowAt s0.heap.size 10 1011 σ tx n xs) : jE l s0 jcl D cA (d + 1) y_Tree_clear [.ref tr] σ (fun r σ' => r = none ∧ jI s0.heap.size σ' ∧ jK [2, 10] σ σ' ∧ σ'.2 = σ.2 ∧ TreeAt s0.heap.size σ' tr al dc tx ed cp N 0 bs bf ∧ RowAt s0.heap.size 10 1011 σ' tx n []) := by
  have hT0 := h
  obtain ⟨⟨v, h1, h2, h3, h4, h5, h6⟩, hL, b1, b2, b3⟩ := h
  have hL0 := hL
  obtain ⟨⟨va, mc, k1, k2, k3, k4, k5⟩, ⟨w, k6, k7, k8⟩, k9, k10, k11, k12⟩ := hL
  obtain ⟨vx, hx⟩ := hX.cell
  refine jE.of (by decide) (by simp [Value.category]) (Nat.le_of_ble_eq_true rfl) rfl ?_
  refine jW.aload_n (dx_Tree_clear 0 (e := (0, .aload_n 0, 1)) rfl) rfl rfl (pc' := 1) rfl ?_
  refine jW.iconst (v := 0) (dx_Tree_clear 1 (e := (1, .iconst 0, 1)) rfl) (by decide) (pc' := 2) rfl ?_
  refine jW.putf F f_Tree_clear_2 rfl jF_Tree jTab_Tree rfl h1 h6 rfl rfl rfl (pc' := 5) rfl ?_
  have hT1 := hT0.putC h1 (c := 0) (Nat.zero_le _)
  have hI1 := hI.put (c := (2, 4, updV v 3 (.int 0))) h1
  have hK1 : jK [2] σ (jput σ tr (2, 4, updV v 3 (.int 0))) := jK.put h1 (by simp)
  have hX1 := hX.keep hK1 (by decide) (by decide)
  obtain ⟨vx1, hx1⟩ := hX1.cell
  obtain ⟨⟨v', g1, g2, g3, g4, g5, g6⟩, _⟩ := id hT1
  refine jW.aload_n (dx_Tree_clear 3 (e := (5, .aload_n 0, 1)) rfl) rfl rfl (pc' := 6) rfl ?_
  refine jW.getf F f_Tree_clear_6 (by assumption) (by assumption) (pc' := 9) rfl ?_
  refine jW.iconst (v := 0) (dx_Tree_clear 5 (e := (9, .iconst 0, 1)) rfl) (by decide) (pc' := 10) rfl ?_
  refine jW.callV F (e_Row_cut F hI1 rfl (by decide) rfl hX1 0) (dx_Tree_clear 6 (e := (10, .invokevirtual 48, 3)) rfl) can_Row_cut jw_527 jw_397 (by assumption) rfl jw_398 rfl rfl (Nat.le_of_ble_eq_true rfl) (pc' := 13) rfl (fun r σ1 hr => ?_)
  obtain ⟨rfl, z1, z2, z3, z4⟩ := hr
  rw [rowCut0] at z4
  refine jW.vret (dx_Tree_clear 7 (e := (13, .return_, 1)) rfl) rfl ?_
  exact ⟨rfl, z1, (hK1.mono (by simp)).trans (z2.mono (by simp)), z3, hT1.keep z2 (by decide) (by decide) (by decide) (by decide), z4⟩
theorem e_Tree_holds (F : jOK s0 jcl D cA lw_tbl a0 jty) (h : TreeAt s0.heap.size σ tr al dc tx ed cp N ct bs bf) {k : Nat} (hk : k < N) (hx : bf k 1 = nI k) : jE l s0 jcl D cA (d + 4) y_Tree_holdsSomething [.ref tr, .ref (bs k)] σ (fun r σ' => r = some (.int (bI (k + 1 < ct ∧ bf (k + 1) 2 = nI k))) ∧ σ' = σ) := by
  have hT0 := h
  obtain ⟨⟨v, h1, h2, h3, h4, h5, h6⟩, hL, b1, b2, b3⟩ := h
  have hL0 := hL
  obtain ⟨⟨va, mc, k1, k2, k3, k4, k5⟩, ⟨w, k6, k7, k8⟩, k9, k10, k11, k12⟩ := hL
  obtain ⟨vb, p1, p2, p3⟩ := k9 k hk
  have p4 := p2 1 (by decide)
  rw [hx] at p4
  refine jE.of (by decide) (by simp [Value.category]) (Nat.le_of_ble_eq_true rfl) rfl ?_
  refine jW.aload_n (dx_Tree_holdsSomething 0 (e := (0, .aload_n 0, 1)) rfl) rfl rfl (pc' := 1) rfl ?_
  refine jW.aload_n (dx_Tree_holdsSomething 1 (e := (1, .aload_n 1, 1)) rfl) rfl rfl (pc' := 2) rfl ?_
  refine jW.getf F f_Tree_holdsSomething_2 (by assumption) (by assumption) (pc' := 5) rfl ?_
  refine jW.iconst (v := 1) (dx_Tree_holdsSomething 3 (e := (5, .iconst 1, 1)) rfl) (by decide) (pc' := 6) rfl ?_
  refine jW.iadd (dx_Tree_holdsSomething 4 (e := (6, .iadd, 1)) rfl) (pc' := 7) rfl ?_
  rw [nI_1]
  refine jW.callV F (e_Tree_at F hT0 _) (dx_Tree_holdsSomething 5 (e := (7, .invokevirtual 60, 3)) rfl) can_Tree_at jw_606 jw_409 (by assumption) rfl jw_410 rfl rfl (Nat.le_of_ble_eq_true rfl) (pc' := 10) rfl (fun r σ1 hr => ?_)
  obtain ⟨rfl, rfl⟩ := hr
  by_cases hlt : k + 1 < ct
  · rw [trRef_nI hlt (by omega)]
    obtain ⟨vc, u1, u2, u3⟩ := k9 (k + 1) (by omega)
    have u4 := u2 2 (by decide)
    refine jW.astore_n (dx_Tree_holdsSomething 6 (e := (10, .astore_n 2, 1)) rfl) rfl (by decide) rfl (pc' := 11) rfl ?_
    refine jW.aload_n (dx_Tree_holdsSomething 7 (e := (11, .aload_n 2, 1)) rfl) rfl rfl (pc' := 12) rfl ?_
    refine jW.ifnull (dx_Tree_holdsSomething 8 (e := (12, .ifnull 18, 3)) rfl) (pc' := 15) rfl ?_
    refine jW.aload_n (dx_Tree_holdsSomething 9 (e := (15, .aload_n 2, 1)) rfl) rfl rfl (pc' := 16) rfl ?_
    refine jW.getf F f_Tree_holdsSomething_16 (by assumption) (by assumption) (pc' := 19) rfl ?_
    refine jW.aload_n (dx_Tree_holdsSomething 11 (e := (19, .aload_n 1, 1)) rfl) rfl rfl (pc' := 20) rfl ?_
    refine jW.getf F f_Tree_holdsSomething_20 (by assumption) (by assumption) (pc' := 23) rfl ?_
    refine jW.icmp_ne (dx_Tree_holdsSomething 13 (e := (23, .if_icmp .ne 7, 3)) rfl) 30 (by decide) (pc' := 26) rfl (fun c_23 => ?_) (fun c_23 => ?_)
    · refine jW.iconst (v := 0) (dx_Tree_holdsSomething 16 (e := (30, .iconst 0, 1)) rfl) (by decide) (pc' := 31) rfl ?_
      refine jW.zret (dx_Tree_holdsSomething 17 (e := (31, .ireturn, 1)) rfl) rfl (by decide) ?_
      first
        | exact ⟨bI_te ⟨hlt, c_23⟩, rfl⟩
        | exact ⟨bI_fe (fun q => c_23 q.2), rfl⟩
    · refine jW.iconst (v := 1) (dx_Tree_holdsSomething 14 (e := (26, .iconst 1, 1)) rfl) (by decide) (pc' := 27) rfl ?_
      refine jW.goto (dx_Tree_holdsSomething 15 (e := (27, .goto 4, 3)) rfl) 31 (by decide) ?_
      refine jW.zret (dx_Tree_holdsSomething 17 (e := (31, .ireturn, 1)) rfl) rfl (by decide) ?_
      first
        | exact ⟨bI_te ⟨hlt, c_23⟩, rfl⟩
        | exact ⟨bI_fe (fun q => c_23 q.2), rfl⟩
  · rw [trRef_out (Or.inr ((nI_leI (by omega) (by omega)).mpr (by omega)))]
    refine jW.astore_nN (dx_Tree_holdsSomething 6 (e := (10, .astore_n 2, 1)) rfl) rfl (by decide) rfl (pc' := 11) rfl ?_
    refine jW.aload_nN (dx_Tree_holdsSomething 7 (e := (11, .aload_n 2, 1)) rfl) rfl rfl (pc' := 12) rfl ?_
    refine jW.ifnullN (dx_Tree_holdsSomething 8 (e := (12, .ifnull 18, 3)) rfl) 30 (by decide) ?_
    refine jW.iconst (v := 0) (dx_Tree_holdsSomething 16 (e := (30, .iconst 0, 1)) rfl) (by decide) (pc' := 31) rfl ?_
    refine jW.zret (dx_Tree_holdsSomething 17 (e := (31, .ireturn, 1)) rfl) rfl (by decide) ?_
    exact ⟨bI_fe (fun q => hlt q.1), rfl⟩
end TREE2
