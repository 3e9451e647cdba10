section TADD
variable {l : Launch} {s0 : State} {D : va_G} {cA : Nat → ClassId} {a0 : Array Value} {d : Nat} {σ : jS} {tr al dc tx ed cp N ct : Nat} {bs : Nat → Nat} {bf : Nat → Nat → Int32}
theorem e_AL_add (F : jOK s0 jcl D cA lw_tbl a0 jty) {mi b nb : Nat} {v w ub : Nat → Value} {mc : Int32} (hM : va_Mi "[Ljava/lang/Object;" mi s0) (hI : jI s0.heap.size σ) (hal : σ.1 al = some (7, 3, v)) (h0 : v 0 = .ref ed) (h1 : v 1 = .int (nI N)) (h2 : v 2 = .int mc) (hB1 : s0.heap.size ≤ al) (hed : σ.1 ed = some (1004, cp, w)) (hB2 : s0.heap.size ≤ ed) (hel : ∀ i, i < N → ∃ (z n : Nat) (u : Nat → Value), w i = .ref z ∧ σ.1 z = some (3, n, u)) (hb : σ.1 b = some (3, nb, ub)) (hN : N ≤ cp) (hc : 0 < cp) (hc2 : cp ≤ 20000) (hN2 : N ≤ 3400) : jE l s0 jcl D cA (d + 6) y_AL_add [.ref al, .ref b] σ (fun r σ' => r = some (.int 1) ∧ jI s0.heap.size σ' ∧ jK [7, 1004] σ σ' ∧ ∃ (ed' cp' : Nat) (v' w' : Nat → Value) (mc' : Int32), σ'.1 al = some (7, 3, v') ∧ v' 0 = .ref ed' ∧ v' 1 = .int (nI (N + 1)) ∧ v' 2 = .int mc' ∧ σ'.1 ed' = some (1004, cp', w') ∧ (∀ i, i < N → w' i = w i) ∧ w' N = .ref b ∧ N + 1 ≤ cp' ∧ cp' ≤ 20000 ∧ cp ≤ cp' ∧ σ'.2.1 + cp ≤ σ.2.1 + cp' ∧ σ'.2.2 + 4 * cp ≤ σ.2.2 + 4 * cp' ∧ s0.heap.size ≤ ed') := by
  refine jE.ofF (by decide +kernel) (by simp [Value.category]) (Nat.le_of_ble_eq_true rfl) rfl ?_
  refine jW.aload_n (dx_AL_add 0 (e := (0, .aload_n 0, 1)) rfl) rfl rfl (pc' := 1) rfl ?_
  refine jW.dup (dx_AL_add 1 (e := (1, .dup, 1)) rfl) rfl (pc' := 2) rfl ?_
  refine jW.getf F f_AL_add_2 (by assumption) (by assumption) (pc' := 5) rfl ?_
  refine jW.iconst (v := 1) (dx_AL_add 3 (e := (5, .iconst 1, 1)) rfl) (by decide) (pc' := 6) rfl ?_
  refine jW.iadd (dx_AL_add 4 (e := (6, .iadd, 1)) rfl) (pc' := 7) rfl ?_
  refine jW.putf F f_AL_add_7 rfl jF_AL jTab_AL rfl (by assumption) (by assumption) rfl rfl rfl (pc' := 10) rfl ?_
  have hal1 : (jput σ al (7, 3, updV v 2 (.int (mc + 1)))).1 al = some (7, 3, updV v 2 (.int (mc + 1))) := jput_at _ _ _
  have hed1 : (jput σ al (7, 3, updV v 2 (.int (mc + 1)))).1 ed = some (1004, cp, w) := by rw [jput_ne (jne hed hal (by decide))]; exact hed
  have hb1 : (jput σ al (7, 3, updV v 2 (.int (mc + 1)))).1 b = some (3, nb, ub) := by rw [jput_ne (jne hb hal (by decide))]; exact hb
  have h01 : updV v 2 (.int (mc + 1)) 0 = .ref ed := h0
  have h11 : updV v 2 (.int (mc + 1)) 1 = .int (nI N) := h1
  have h21 : updV v 2 (.int (mc + 1)) 2 = .int (mc + 1) := rfl
  have hI1 := hI.put (c := (7, 3, updV v 2 (.int (mc + 1)))) hal
  refine jW.aload_n (dx_AL_add 6 (e := (10, .aload_n 0, 1)) rfl) rfl rfl (pc' := 11) rfl ?_
  refine jW.aload_n (dx_AL_add 7 (e := (11, .aload_n 1, 1)) rfl) rfl rfl (pc' := 12) rfl ?_
  refine jW.aload_n (dx_AL_add 8 (e := (12, .aload_n 0, 1)) rfl) rfl rfl (pc' := 13) rfl ?_
  refine jW.getf F f_AL_add_13 (by assumption) (by assumption) (pc' := 16) rfl ?_
  refine jW.aload_n (dx_AL_add 10 (e := (16, .aload_n 0, 1)) rfl) rfl rfl (pc' := 17) rfl ?_
  refine jW.getf F f_AL_add_17 (by assumption) (by assumption) (pc' := 20) rfl ?_
  refine jW.callV F (e_AL_add2 F hM hI1 hal1 h01 h11 h21 hB1 hed1 hB2 (fun i hi => by obtain ⟨z, n, u, z1, z2⟩ := hel i hi; exact ⟨z, n, u, z1, by rw [jput_ne (jne z2 hal (by decide))]; exact z2⟩) hb1 hN hc hc2 hN2) (dx_AL_add 12 (e := (20, .invokevirtual 131, 3)) rfl) can_AL_add2 jw_155 jw_157 (by assumption) rfl sel_AL_add2 rfl rfl (Nat.le_of_ble_eq_true rfl) (pc' := 23) rfl (fun r σ1 hr => ?_)
  obtain ⟨rfl, g1, g2, ed', cp', v', w', q1, q2, q3, q4, q5⟩ := hr
  refine jW.iconst (v := 1) (dx_AL_add 13 (e := (23, .iconst 1, 1)) rfl) (by decide) (pc' := 24) rfl ?_
  refine jW.zret (dx_AL_add 14 (e := (24, .ireturn, 1)) rfl) rfl (by decide) ?_
  exact ⟨rfl, g1, (jK.put hal (by simp)).trans g2, ed', cp', v', w', _, q1, q2, q3, q4.trans h21, q5⟩
theorem e_Block_init (F : jOK s0 jcl D cA lw_tbl a0 jty) {b : Nat} : jE l s0 jcl D cA (d + 1) y_Block_init [.ref b] σ (fun r σ' => r = none ∧ σ' = σ) := by
  refine jE.of (by decide) (by simp [Value.category]) (Nat.le_of_ble_eq_true rfl) rfl ?_
  refine jW.aload_n (dx_Block_init 0 (e := (0, .aload_n 0, 1)) rfl) rfl rfl (pc' := 1) rfl ?_
  refine jW.objI F (dx_Block_init 1 (e := (1, .invokespecial 3, 3)) rfl) jw_84 jw_31 jw_32 (Nat.le_of_ble_eq_true rfl) (pc' := 4) rfl ?_
  refine jW.vret (dx_Block_init 2 (e := (4, .return_, 1)) rfl) rfl ?_
  exact ⟨rfl, rfl⟩
/-- Tree.add from where the block is there -/
theorem e_add29 (F : jOK s0 jcl D cA lw_tbl a0 jty) {k ho li : Int32} {n10 : Nat} {xs : List Int32} {o4 : Option Value} {Φ : Option Value → jS → Prop} (hI : jI s0.heap.size σ) (h : TreeAt s0.heap.size σ tr al dc tx ed cp N ct bs bf) (hct : ct < N) (hR : RowAt s0.heap.size 10 1011 σ tx n10 xs) (hΦ : ∀ r σ', r = some (.ref (bs ct)) ∧ jI s0.heap.size σ' ∧ jK [2, 3] σ σ' ∧ σ'.2 = σ.2 ∧ TreeAt s0.heap.size σ' tr al dc tx ed cp N (ct + 1) bs (fun i f => if i = ct then begG k (nI ct) ho li (nI xs.length) f else bf i f) → Φ r σ') : jW l s0 jcl D cA (d + 3) y_Tree_add 29 [some (.ref tr), some (.int k), some (.int ho), some (.int li), o4] [] σ Φ := by
  have hT0 := h
  obtain ⟨⟨v, h1, h2, h3, h4, h5, h6⟩, hL, b1, b2, b3⟩ := h
  have hL0 := hL
  obtain ⟨⟨va, mc, k1, k2, k3, k4, k5⟩, ⟨w, k6, k7, k8⟩, k9, k10, k11, k12⟩ := hL
  obtain ⟨vb0, p1, p2, p3⟩ := k9 ct hct
  obtain ⟨vx, hx⟩ := hR.cell
  refine jW.aload_n (dx_Tree_add 13 (e := (29, .aload_n 0, 1)) rfl) rfl rfl (pc' := 30) rfl ?_
  refine jW.getf F f_Tree_add_30 (by assumption) (by assumption) (pc' := 33) rfl ?_
  refine jW.aload_n (dx_Tree_add 15 (e := (33, .aload_n 0, 1)) rfl) rfl rfl (pc' := 34) rfl ?_
  refine jW.getf F f_Tree_add_34 (by assumption) (by assumption) (pc' := 37) rfl ?_
  refine jW.callV F (e_AL_get F hL0 (i := ct) hct) (dx_Tree_add 17 (e := (37, .invokevirtual 44, 3)) rfl) can_AL_get jw_416 jw_417 (by assumption) rfl jw_418 rfl rfl (Nat.le_of_ble_eq_true rfl) (pc' := 40) rfl (fun r σ1 hr => ?_)
  obtain ⟨rfl, hσ⟩ := hr
  rw [hσ]
  refine jW.cast F (dx_Tree_add 18 (e := (40, .checkcast 18, 3)) rfl) p1 rfl jw_79 jw_1420 (pc' := 43) rfl ?_
  refine jW.astore (dx_Tree_add 19 (e := (43, .astore 4, 2)) rfl) (by decide) rfl (pc' := 45) rfl ?_
  refine jW.aload (dx_Tree_add 20 (e := (45, .aload 4, 2)) rfl) rfl (pc' := 47) rfl ?_
  refine jW.iload_n (dx_Tree_add 21 (e := (47, .iload_n 1, 1)) rfl) rfl rfl (pc' := 48) rfl ?_
  refine jW.aload_n (dx_Tree_add 22 (e := (48, .aload_n 0, 1)) rfl) rfl rfl (pc' := 49) rfl ?_
  refine jW.getf F f_Tree_add_49 (by assumption) (by assumption) (pc' := 52) rfl ?_
  refine jW.iload_n (dx_Tree_add 24 (e := (52, .iload_n 2, 1)) rfl) rfl rfl (pc' := 53) rfl ?_
  refine jW.iload_n (dx_Tree_add 25 (e := (53, .iload_n 3, 1)) rfl) rfl rfl (pc' := 54) rfl ?_
  refine jW.aload_n (dx_Tree_add 26 (e := (54, .aload_n 0, 1)) rfl) rfl rfl (pc' := 55) rfl ?_
  refine jW.getf F f_Tree_add_55 (by assumption) (by assumption) (pc' := 58) rfl ?_
  refine jW.callV F (e_Row_size F (τ := 10) rfl (by decide) rfl hR) (dx_Tree_add 28 (e := (58, .invokevirtual 52, 3)) rfl) can_Row_size jw_544 jw_372 (by assumption) rfl jw_373 rfl rfl (Nat.le_of_ble_eq_true rfl) (pc' := 61) rfl (fun r σ1 hr => ?_)
  obtain ⟨rfl, hσ⟩ := hr
  rw [hσ]
  refine jW.callV F (e_Block_begin F ⟨vb0, p1, p2, p3⟩ k (nI ct) ho li (nI xs.length)) (dx_Tree_add 29 (e := (61, .invokevirtual 53, 3)) rfl) can_Block_begin jw_545 jw_546 (by assumption) rfl jw_547 rfl rfl (Nat.le_of_ble_eq_true rfl) (pc' := 64) rfl (fun r σ1 hr => ?_)
  obtain ⟨rfl, w1, rfl, hw1⟩ := hr
  have h1' : (jput σ (bs ct) (3, 14, w1)).1 tr = some (2, 4, v) := by rw [jput_ne (jne h1 p1 (by decide))]; exact h1
  refine jW.aload_n (dx_Tree_add 30 (e := (64, .aload_n 0, 1)) rfl) rfl rfl (pc' := 65) rfl ?_
  refine jW.dup (dx_Tree_add 31 (e := (65, .dup, 1)) rfl) rfl (pc' := 66) rfl ?_
  refine jW.getf F f_Tree_add_66 (by assumption) (by assumption) (pc' := 69) rfl ?_
  refine jW.iconst (v := 1) (dx_Tree_add 33 (e := (69, .iconst 1, 1)) rfl) (by decide) (pc' := 70) rfl ?_
  refine jW.iadd (dx_Tree_add 34 (e := (70, .iadd, 1)) rfl) (pc' := 71) rfl ?_
  rw [nI_1]
  refine jW.putf F f_Tree_add_71 rfl jF_Tree jTab_Tree rfl h1' (by assumption) rfl rfl rfl (pc' := 74) rfl ?_
  refine jW.aload (dx_Tree_add 36 (e := (74, .aload 4, 2)) rfl) rfl (pc' := 76) rfl ?_
  refine jW.aret (dx_Tree_add 37 (e := (76, .areturn, 1)) rfl) rfl (by first | exact Or.inl ⟨_, rfl⟩ | exact Or.inr ⟨_, rfl⟩) (by first | exact Or.inl rfl | exact Or.inr ⟨_, rfl⟩) ?_
  refine hΦ _ _ ⟨rfl, (hI.put p1).put h1', (jK.put p1 (by simp)).trans (jK.put h1' (by simp)), rfl, ⟨_, jput_at _ _ _, h2, h3, h4, rfl, h6⟩, ⟨⟨va, mc, ?_, k2, k3, k4, k5⟩, ⟨w, ?_, k7, k8⟩, fun i hi => ?_, k10, k11, k12⟩, by omega, b2, b3⟩
  · rw [jput_ne (jne k1 h1 (by decide)), jput_ne (jne k1 p1 (by decide))]; exact k1
  · rw [jput_ne (jne k6 h1 (by decide)), jput_ne (jne k6 p1 (by decide))]; exact k6
  · obtain ⟨vi, i1, i2, i3⟩ := k9 i hi
    by_cases e : i = ct
    · subst e
      refine ⟨w1, by rw [jput_ne (jne p1 h1 (by decide))]; exact jput_at _ _ _, fun q hq => ?_, p3⟩
      show _ = Value.int (if i = i then _ else _)
      rw [if_pos rfl]
      exact hw1 q hq
    · have hne : bs i ≠ bs ct := fun z => e (k10 i ct hi hct z)
      refine ⟨vi, by rw [jput_ne (jne i1 h1 (by decide)), jput_ne hne]; exact i1, fun q hq => ?_, i3⟩
      show _ = Value.int (if i = ct then _ else bf i q)
      rw [if_neg e]
      exact i2 q hq
theorem e_Tree_add (F : jOK s0 jcl D cA lw_tbl a0 jty) {mi : Nat} (hM : va_Mi "[Ljava/lang/Object;" mi s0) {k ho li : Int32} {n10 : Nat} {xs : List Int32} (hI : jI s0.heap.size σ) (h : TreeAt s0.heap.size σ tr al dc tx ed cp N ct bs bf) (hct : ct ≤ 3300) (hR : RowAt s0.heap.size 10 1011 σ tx n10 xs) : jE l s0 jcl D cA (d + 7) y_Tree_add [.ref tr, .int k, .int ho, .int li] σ (fun r σ' => ∃ (ed' cp' N' : Nat) (bs' : Nat → Nat), r = some (.ref (bs' ct)) ∧ jI s0.heap.size σ' ∧ jK [2, 3, 7, 1004] σ σ' ∧ TreeAt s0.heap.size σ' tr al dc tx ed' cp' N' (ct + 1) bs' (fun i f => if i = ct then begG k (nI ct) ho li (nI xs.length) f else bf i f) ∧ N ≤ N' ∧ ct < N' ∧ (∀ i, i < N → bs' i = bs i) ∧ σ'.2.1 + N + cp ≤ σ.2.1 + N' + cp' ∧ σ'.2.2 + 14 * N + 4 * cp ≤ σ.2.2 + 14 * N' + 4 * cp') := by
  have hT0 := h
  obtain ⟨⟨v, h1, h2, h3, h4, h5, h6⟩, hL, b1, b2, b3⟩ := h
  have hL0 := hL
  obtain ⟨⟨va, mc, k1, k2, k3, k4, k5⟩, ⟨w, k6, k7, k8⟩, k9, k10, k11, k12⟩ := hL
  refine jE.of (by decide) (by simp [Value.category]) (Nat.le_of_ble_eq_true rfl) rfl ?_
  refine jW.aload_n (dx_Tree_add 0 (e := (0, .aload_n 0, 1)) rfl) rfl rfl (pc' := 1) rfl ?_
  refine jW.getf F f_Tree_add_1 (by assumption) (by assumption) (pc' := 4) rfl ?_
  refine jW.aload_n (dx_Tree_add 2 (e := (4, .aload_n 0, 1)) rfl) rfl rfl (pc' := 5) rfl ?_
  refine jW.getf F f_Tree_add_5 (by assumption) (by assumption) (pc' := 8) rfl ?_
  refine jW.callV F (e_AL_size F hL0) (dx_Tree_add 4 (e := (8, .invokevirtual 40, 3)) rfl) can_AL_size jw_412 jw_413 (by assumption) rfl jw_414 rfl rfl (Nat.le_of_ble_eq_true rfl) (pc' := 11) rfl (fun r σ1 hr => ?_)
  obtain ⟨rfl, hσ⟩ := hr
  rw [hσ]
  refine jW.icmp_lt (dx_Tree_add 5 (e := (11, .if_icmp .lt 18, 3)) rfl) 29 (by decide) (pc' := 14) rfl (fun c_11 => ?_) (fun c_11 => ?_)
  · first
      | exact e_add29 (d := d + 4) F hI hT0 ((nI_ltI (by omega) (by omega)).mp c_11) hR (fun r σ' ⟨z1, z2, z3, z4, z5⟩ => ⟨ed, cp, N, bs, z1, z2, z3.mono (by simp), z5, Nat.le_refl _, (nI_ltI (by omega) (by omega)).mp c_11, fun _ _ => rfl, by rw [z4]; exact Nat.le_refl _, by rw [z4]; exact Nat.le_refl _⟩)
      | (have hNb : ∀ i, i < N → bs i ≠ σ.2.1 := fun i hi => by obtain ⟨u, i1, _, _⟩ := k9 i hi; exact hI.ne i1
         have hT1 : TreeAt s0.heap.size σ1 tr al dc tx ed' cp' (N + 1) ct (fun i => if i = N then σ.2.1 else bs i) (fun i f => if i = N then 0 else bf i f) := by
           refine ⟨⟨v, g2 _ _ _ _ (hN1 h1) (by simp), h2, h3, h4, h5, h6⟩, ⟨⟨v', mc', q1, q2, q3, q4, k5⟩, ⟨w', q5, fun i hi => ?_, q13⟩, fun i hi => ?_, fun i j hi hj e => ?_, q8, q9⟩, by omega, ?_, by omega⟩
           · by_cases e : i = N
             · dsimp only; rw [if_pos e, e]; exact q7
             · dsimp only; rw [if_neg e, q6 i (by omega)]; exact k7 i (by omega)
           · by_cases e : i = N
             · refine ⟨_, by dsimp only; rw [if_pos e]; exact g2 _ _ _ _ hbn (by simp), fun q hq => ?_, by dsimp only; rw [if_pos e]; exact hI.1⟩
               show Value.int 0 = Value.int (if i = N then 0 else bf i q)
               rw [if_pos e]
             · obtain ⟨u, i1, i2, i3⟩ := k9 i (by omega)
               refine ⟨u, by dsimp only; rw [if_neg e]; exact g2 _ _ _ _ (hN1 i1) (by simp), fun q hq => ?_, by dsimp only; rw [if_neg e]; exact i3⟩
               show _ = Value.int (if i = N then 0 else bf i q)
               rw [if_neg e]; exact i2 q hq
           · dsimp only at e
             by_cases e1 : i = N
             · by_cases e2 : j = N
               · omega
               · rw [if_pos e1, if_neg e2] at e; exact absurd e.symm (hNb j (by omega))
             · by_cases e2 : j = N
               · rw [if_neg e1, if_pos e2] at e; exact absurd e (hNb i (by omega))
               · rw [if_neg e1, if_neg e2] at e; exact k10 i j (by omega) (by omega) e
           · show (if 0 = N then _ else bs 0) = dc
             rw [if_neg (by omega)]; exact b2
         have hR1 : RowAt s0.heap.size 10 1011 σ1 tx n10 xs := (hR.keep (ks := []) (fun a t n v z _ => hN1 z) (by simp) (by simp)).keep g2 (by simp) (by simp)
         refine e_add29 (d := d + 4) F g1 hT1 (by omega) hR1 (fun r σ' ⟨z1, z2, z3, z4, z5⟩ => ⟨ed', cp', N + 1, fun i => if i = N then σ.2.1 else bs i, z1, z2, ?_, ?_, by omega, by omega, fun i hi => if_neg (by omega), ?_, ?_⟩)
         · refine fun a t n v z hz => z3 _ _ _ _ (g2 _ _ _ _ (hN1 z) (fun y => hz (by simp at y ⊢; omega))) (fun y => hz (by simp at y ⊢; omega))
         · have e : (fun i f => if i = ct then begG k (nI ct) ho li (nI xs.length) f else (fun i f => if i = N then 0 else bf i f) i f) = (fun i f => if i = ct then begG k (nI ct) ho li (nI xs.length) f else bf i f) := by
             funext i f
             by_cases e : i = ct
             · rw [if_pos e, if_pos e]
             · rw [if_neg e, if_neg e]
               show (if i = N then 0 else bf i f) = bf i f
               rw [if_neg (by omega)]
           rw [e] at z5
           exact z5
         · rw [z4]
           have y1 : σ1.2.1 + cp ≤ (σ.2.1 + 1) + cp' := q11
           omega
         · rw [z4]
           have y2 : σ1.2.2 + 4 * cp ≤ (σ.2.2 + 14) + 4 * cp' := q12
           omega)
  · refine jW.aload_n (dx_Tree_add 6 (e := (14, .aload_n 0, 1)) rfl) rfl rfl (pc' := 15) rfl ?_
    refine jW.getf F f_Tree_add_15 (by assumption) (by assumption) (pc' := 18) rfl ?_
    refine jW.new (ci := 3) (q := jQ_Block) (v := fun _ => .int 0) F rfl (dx_Tree_add 8 (e := (18, .new 18, 3)) rfl) jw_79 jw_80 jw_7 jF_Block jTab_Block (fun k hk => ?_) rfl rfl (pc' := 21) rfl hI.1 ?_
    · have hc : k = 0 ∨ k = 1 ∨ k = 2 ∨ k = 3 ∨ k = 4 ∨ k = 5 ∨ k = 6 ∨ k = 7 ∨ k = 8 ∨ k = 9 ∨ k = 10 ∨ k = 11 ∨ k = 12 ∨ k = 13 := by
        have : k < 14 := hk
        omega
      rcases hc with e | e | e | e | e | e | e | e | e | e | e | e | e | e <;> subst e <;> rfl
    have hct2 : ct = N := by
      have : ¬ ct < N := fun z => c_11 ((nI_ltI (by omega) (by omega)).mpr z)
      omega
    have hN1 : ∀ {a : Nat} {q : jCell}, σ.1 a = some q → (jnew σ (3, 14, fun _ => Value.int 0) 14).1 a = some q := fun z => by rw [jnew_ne (hI.ne z)]; exact z
    have hbn : (jnew σ (3, 14, fun _ => Value.int 0) 14).1 σ.2.1 = some (3, 14, fun _ => Value.int 0) := jnew_at _ _ _
    have hkn := hN1 k1
    refine jW.dup (dx_Tree_add 9 (e := (21, .dup, 1)) rfl) rfl (pc' := 22) rfl ?_
    refine jW.callIN F (e_Block_init F) (dx_Tree_add 10 (e := (22, .invokespecial 20, 3)) rfl) can_Block_init rfl jw_81 jw_82 rfl rfl rfl (Nat.le_of_ble_eq_true rfl) (pc' := 25) rfl (fun r σ1 hr => ?_)
    obtain ⟨rfl, hσ⟩ := hr
    rw [hσ]
    refine jW.callV F (e_AL_add F hM hI.new (hN1 k1) k2 k3 k4 k5 (hN1 k6) k8 (fun i hi => by obtain ⟨u, i1, _, _⟩ := k9 i hi; exact ⟨bs i, 14, u, k7 i hi, hN1 i1⟩) hbn k11 (by omega) k12 (by omega)) (dx_Tree_add 11 (e := (25, .invokevirtual 25, 3)) rfl) can_AL_add jw_151 jw_152 (by assumption) rfl jw_153 rfl rfl (Nat.le_of_ble_eq_true rfl) (pc' := 28) rfl (fun r σ1 hr => ?_)
    obtain ⟨rfl, g1, g2, ed', cp', v', w', mc', q1, q2, q3, q4, q5, q6, q7, q8, q9, q10, q11, q12, q13⟩ := hr
    refine jW.pop (dx_Tree_add 12 (e := (28, .pop, 1)) rfl) rfl (pc' := 29) rfl ?_
    first
      | exact e_add29 (d := d + 4) F hI hT0 ((nI_ltI (by omega) (by omega)).mp c_11) hR (fun r σ' ⟨z1, z2, z3, z4, z5⟩ => ⟨ed, cp, N, bs, z1, z2, z3.mono (by simp), z5, Nat.le_refl _, (nI_ltI (by omega) (by omega)).mp c_11, fun _ _ => rfl, by rw [z4]; exact Nat.le_refl _, by rw [z4]; exact Nat.le_refl _⟩)
      | (have hNb : ∀ i, i < N → bs i ≠ σ.2.1 := fun i hi => by obtain ⟨u, i1, _, _⟩ := k9 i hi; exact hI.ne i1
         have hT1 : TreeAt s0.heap.size σ1 tr al dc tx ed' cp' (N + 1) ct (fun i => if i = N then σ.2.1 else bs i) (fun i f => if i = N then 0 else bf i f) := by
           refine ⟨⟨v, g2 _ _ _ _ (hN1 h1) (by simp), h2, h3, h4, h5, h6⟩, ⟨⟨v', mc', q1, q2, q3, q4, k5⟩, ⟨w', q5, fun i hi => ?_, q13⟩, fun i hi => ?_, fun i j hi hj e => ?_, q8, q9⟩, by omega, ?_, by omega⟩
           · by_cases e : i = N
             · dsimp only; rw [if_pos e, e]; exact q7
             · dsimp only; rw [if_neg e, q6 i (by omega)]; exact k7 i (by omega)
           · by_cases e : i = N
             · refine ⟨_, by dsimp only; rw [if_pos e]; exact g2 _ _ _ _ hbn (by simp), fun q hq => ?_, by dsimp only; rw [if_pos e]; exact hI.1⟩
               show Value.int 0 = Value.int (if i = N then 0 else bf i q)
               rw [if_pos e]
             · obtain ⟨u, i1, i2, i3⟩ := k9 i (by omega)
               refine ⟨u, by dsimp only; rw [if_neg e]; exact g2 _ _ _ _ (hN1 i1) (by simp), fun q hq => ?_, by dsimp only; rw [if_neg e]; exact i3⟩
               show _ = Value.int (if i = N then 0 else bf i q)
               rw [if_neg e]; exact i2 q hq
           · dsimp only at e
             by_cases e1 : i = N
             · by_cases e2 : j = N
               · omega
               · rw [if_pos e1, if_neg e2] at e; exact absurd e.symm (hNb j (by omega))
             · by_cases e2 : j = N
               · rw [if_neg e1, if_pos e2] at e; exact absurd e (hNb i (by omega))
               · rw [if_neg e1, if_neg e2] at e; exact k10 i j (by omega) (by omega) e
           · show (if 0 = N then _ else bs 0) = dc
             rw [if_neg (by omega)]; exact b2
         have hR1 : RowAt s0.heap.size 10 1011 σ1 tx n10 xs := (hR.keep (ks := []) (fun a t n v z _ => hN1 z) (by simp) (by simp)).keep g2 (by simp) (by simp)
         refine e_add29 (d := d + 4) F g1 hT1 (by omega) hR1 (fun r σ' ⟨z1, z2, z3, z4, z5⟩ => ⟨ed', cp', N + 1, fun i => if i = N then σ.2.1 else bs i, z1, z2, ?_, ?_, by omega, by omega, fun i hi => if_neg (by omega), ?_, ?_⟩)
         · refine fun a t n v z hz => z3 _ _ _ _ (g2 _ _ _ _ (hN1 z) (fun y => hz (by simp at y ⊢; omega))) (fun y => hz (by simp at y ⊢; omega))
         · have e : (fun i f => if i = ct then begG k (nI ct) ho li (nI xs.length) f else (fun i f => if i = N then 0 else bf i f) i f) = (fun i f => if i = ct then begG k (nI ct) ho li (nI xs.length) f else bf i f) := by
             funext i f
             by_cases e : i = ct
             · rw [if_pos e, if_pos e]
             · rw [if_neg e, if_neg e]
               show (if i = N then 0 else bf i f) = bf i f
               rw [if_neg (by omega)]
           rw [e] at z5
           exact z5
         · rw [z4]
           have y1 : σ1.2.1 + cp ≤ (σ.2.1 + 1) + cp' := q11
           omega
         · rw [z4]
           have y2 : σ1.2.2 + 4 * cp ≤ (σ.2.2 + 14) + 4 * cp' := q12
           omega)
end TADD
theorem TA_ok {X : CX} {a0 : Array Value} (F : cF X a0) {mi : Nat} (hM : va_Mi "[Ljava/lang/Object;" mi X.2.1) : TAok X := by
  intro c k ho li N hN hc h d σ hV
  obtain ⟨nr, ed, cp, j0, j1, ⟨s0, s2, s4, s5, s6⟩, ⟨r1, r10, r11, r12, r13⟩, hl, hop, hy, hb, hr⟩ := hV
  have hT : TreeAt X.2.1.heap.size σ (adr X 2) (adr X 7) (adr X 3) (adr X 10) ed cp c.2.2 (vn c.1 23) c.2.1 (vb c.1) := by
    obtain ⟨w, q1, q2, q3⟩ := s2
    exact ⟨⟨w, q1, q2 0 (by decide), q2 1 (by decide), q2 2 (by decide), q2 3 (by decide), q3⟩, hl, hb.1.1, hb.1.2.2, hb.1.2.1⟩
  refine (e_Tree_add F hM j0 hT hc r10).mono (fun r σ' ⟨ed', cp', N', bs', p1, hI, hK, ⟨t0, t7, t8, t9, t10⟩, p5, p6, p7, p8, p9⟩ => ?_)
  have hbk : c.2.2 ≤ N' := p5
  refine ⟨(vN (vBs c.1 (fun i f => if i = ct c.1 then begG k (nI (ct c.1)) ho li (nI (tx c.1).length) f else vb c.1 i f)) 23 (ct c.1 + 1), bs', N'), ?_, _, p1, h (vN (vBs c.1 (fun i f => if i = ct c.1 then begG k (nI (ct c.1)) ho li (nI (tx c.1).length) f else vb c.1 i f)) 23 (ct c.1 + 1), bs', N') ⟨p5, p7⟩ p6 rfl⟩
  have hK' : jK cKs σ σ' := hK.mono (by decide)
  refine ⟨nr, ed', cp', hI, j1.trans hK', ⟨s0.keep hK (by decide) (fun j hj => (cVal_o2 (v := vBs c.1 _) (by decide) hj).trans rfl), ?_, s4.keep hK (by decide) (fun j hj => (cVal_o2 (v := vBs c.1 _) (by decide) hj).trans rfl), s5.keep hK (by decide) (fun j hj => (cVal_o2 (v := vBs c.1 _) (by decide) hj).trans rfl), s6.keep hK (by decide) (fun j hj => (cVal_o2 (v := vBs c.1 _) (by decide) hj).trans rfl)⟩, ⟨r1.keep hK (by decide) (by decide), r10.keep hK (by decide) (by decide), r11.keep hK (by decide) (by decide), r12.keep hK (by decide) (by decide), r13.keep hK (by decide) (by decide)⟩, t7, hop.keep hK (by decide) rfl (fun i hi => p7 i hi) p5, hy.keep hK (by decide), ⟨⟨t8, t10, t9⟩, hb.2⟩, ?_⟩
  · obtain ⟨w, q1, q2, q3, q4, q5, q6⟩ := t0
    refine ⟨w, q1, fun j hj => ?_, q6⟩
    have hc : j = 0 ∨ j = 1 ∨ j = 2 ∨ j = 3 := by
      have : j < 4 := hj
      omega
    rcases hc with e | e | e | e <;> subst e
    · exact q2
    · exact q3
    · exact q4
    · exact q5
  · unfold RM at hr ⊢
    obtain ⟨z1, z2⟩ := hr
    refine ⟨?_, ?_⟩
    · show σ'.2.1 ≤ _ + _ + N' + cp'
      omega
    · show σ'.2.2 ≤ _ + _ + 14 * N' + 4 * cp'
      omega
