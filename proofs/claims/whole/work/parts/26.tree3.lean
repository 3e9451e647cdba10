theorem upd2_at (bf : Nat → Nat → Int32) (i k : Nat) (z : Int32) : upd2 bf i k z i k = z := if_pos ⟨rfl, rfl⟩
theorem upd2_k {bf : Nat → Nat → Int32} {i k a b : Nat} {z : Int32} (h : b ≠ k) : upd2 bf i k z a b = bf a b := if_neg (fun q => h q.2)
theorem upd2_i {bf : Nat → Nat → Int32} {i k a b : Nat} {z : Int32} (h : a ≠ i) : upd2 bf i k z a b = bf a b := if_neg (fun q => h q.1)
/-- whether block k stands loose behind the latest one in hd: then its list is loose -/
def gapF (bf : Nat → Nat → Int32) (k hd : Nat) : Nat → Nat → Int32 :=
  if ¬ bf hd 13 < 0 ∧ bf (if bf hd 0 = 3 then (bf hd 2).toNatClampNeg else hd) 0 = 2 ∧ 1 < bf k 9 - bf (bf hd 13).toNatClampNeg 10 then upd2 bf (if bf hd 0 = 3 then (bf hd 2).toNatClampNeg else hd) 4 1 else bf
section TREE3
variable {l : Launch} {s0 : State} {D : va_G} {cA : Nat → ClassId} {a0 : Array Value} {d : Nat} {σ : jS} {tr al dc tx ed cp N ct : Nat} {bs : Nat → Nat} {bf : Nat → Nat → Int32}
theorem e_Tree_lookForGap (F : jOK s0 jcl D cA lw_tbl a0 jty) (hI : jI s0.heap.size σ) (h : TreeAt s0.heap.size σ tr al dc tx ed cp N ct bs bf) {k hd : Nat} (hk : k < ct) (hh : hd < ct) (hla : bf hd 13 = -1 ∨ ∃ p, p < ct ∧ bf hd 13 = nI p) (hli : bf hd 0 = 3 → ∃ u, u < ct ∧ bf hd 2 = nI u) : jE l s0 jcl D cA (d + 4) y_Tree_lookForGap [.ref tr, .ref (bs k), .ref (bs hd)] σ (fun r σ' => r = none ∧ jI s0.heap.size σ' ∧ jK [3] σ σ' ∧ σ'.2 = σ.2 ∧ TreeAt s0.heap.size σ' tr al dc tx ed cp N ct bs (gapF bf k hd)) := by
  have hT0 := h
  obtain ⟨⟨v, h1, h2, h3, h4, h5, h6⟩, hL, b1, b2, b3⟩ := h
  have hL0 := hL
  obtain ⟨⟨va, mc, k1, k2, k3, k4, k5⟩, ⟨w, k6, k7, k8⟩, k9, k10, k11, k12⟩ := hL
  obtain ⟨vb, p1, p2, p3⟩ := k9 k (by omega)
  obtain ⟨vh, q1, q2, q3⟩ := k9 hd (by omega)
  have fb9 := p2 9 (by decide)
  have fh13 := q2 13 (by decide)
  have fh0 := q2 0 (by decide)
  have fh2 := q2 2 (by decide)
  refine jE.of (by decide) (by simp [Value.category]) (Nat.le_of_ble_eq_true rfl) rfl ?_
  rcases hla with hla | ⟨p, hp, hla⟩
  · refine jW.aload_n (dx_Tree_lookForGap 0 (e := (0, .aload_n 0, 1)) rfl) rfl rfl (pc' := 1) rfl ?_
    refine jW.aload_n (dx_Tree_lookForGap 1 (e := (1, .aload_n 2, 1)) rfl) rfl rfl (pc' := 2) rfl ?_
    refine jW.getf F f_Tree_lookForGap_2 (by assumption) (by assumption) (pc' := 5) rfl ?_
    refine jW.callV F (e_Tree_at F hT0 _) (dx_Tree_lookForGap 3 (e := (5, .invokevirtual 60, 3)) rfl) can_Tree_at jw_606 jw_409 (by assumption) rfl jw_410 rfl rfl (Nat.le_of_ble_eq_true rfl) (pc' := 8) rfl (fun r σ1 hr => ?_)
    obtain ⟨rfl, rfl⟩ := hr
    rw [hla, trRef_out (Or.inl (by decide))]
    refine jW.astore_nN (dx_Tree_lookForGap 4 (e := (8, .astore_n 3, 1)) rfl) rfl (by decide) rfl (pc' := 9) rfl ?_
    refine jW.aload_n (dx_Tree_lookForGap 5 (e := (9, .aload_n 2, 1)) rfl) rfl rfl (pc' := 10) rfl ?_
    refine jW.getf F f_Tree_lookForGap_10 (by assumption) (by assumption) (pc' := 13) rfl ?_
    refine jW.iconst (v := 3) (dx_Tree_lookForGap 7 (e := (13, .iconst 3, 1)) rfl) (by decide) (pc' := 14) rfl ?_
    by_cases e3 : bf hd 0 = 3
    · obtain ⟨u, hu, hue⟩ := hli e3
      obtain ⟨vu, y1, y2, y3⟩ := k9 u (by omega)
      have yu0 := y2 0 (by decide)
      have LI : (if bf hd 0 = 3 then (bf hd 2).toNatClampNeg else hd) = u := by rw [if_pos e3, hue, nI_clamp (by omega)]
      refine jW.icmp_ne (dx_Tree_lookForGap 8 (e := (14, .if_icmp .ne 14, 3)) rfl) 28 (by decide) (pc' := 17) rfl (fun c_14 => absurd e3 c_14) (fun c_14 => ?_)
      refine jW.aload_n (dx_Tree_lookForGap 9 (e := (17, .aload_n 0, 1)) rfl) rfl rfl (pc' := 18) rfl ?_
      refine jW.aload_n (dx_Tree_lookForGap 10 (e := (18, .aload_n 2, 1)) rfl) rfl rfl (pc' := 19) rfl ?_
      refine jW.getf F f_Tree_lookForGap_19 (by assumption) (by assumption) (pc' := 22) rfl ?_
      refine jW.callV F (e_Tree_at F hT0 _) (dx_Tree_lookForGap 12 (e := (22, .invokevirtual 60, 3)) rfl) can_Tree_at jw_606 jw_409 (by assumption) rfl jw_410 rfl rfl (Nat.le_of_ble_eq_true rfl) (pc' := 25) rfl (fun r σ1 hr => ?_)
      obtain ⟨rfl, rfl⟩ := hr
      rw [hue, trRef_nI hu (by omega)]
      refine jW.goto (dx_Tree_lookForGap 13 (e := (25, .goto 4, 3)) rfl) 29 (by decide) ?_
      refine jW.astore (dx_Tree_lookForGap 15 (e := (29, .astore 4, 2)) rfl) (by decide) rfl (pc' := 31) rfl ?_
      refine jW.aload_nN (dx_Tree_lookForGap 16 (e := (31, .aload_n 3, 1)) rfl) rfl rfl (pc' := 32) rfl ?_
      refine jW.ifnullN (dx_Tree_lookForGap 17 (e := (32, .ifnull 36, 3)) rfl) 68 (by decide) ?_
      refine jW.vret (dx_Tree_lookForGap 34 (e := (68, .return_, 1)) rfl) rfl ?_
      exact ⟨rfl, hI, jK.rfl, rfl, by rw [show gapF bf k hd = bf from if_neg (fun q => q.1 (by rw [hla]; decide))]; exact hT0⟩
    · have LI : (if bf hd 0 = 3 then (bf hd 2).toNatClampNeg else hd) = hd := if_neg e3
      refine jW.icmp_ne (dx_Tree_lookForGap 8 (e := (14, .if_icmp .ne 14, 3)) rfl) 28 (by decide) (pc' := 17) rfl (fun c_14 => ?_) (fun c_14 => absurd c_14 e3)
      refine jW.aload_n (dx_Tree_lookForGap 14 (e := (28, .aload_n 2, 1)) rfl) rfl rfl (pc' := 29) rfl ?_
      refine jW.astore (dx_Tree_lookForGap 15 (e := (29, .astore 4, 2)) rfl) (by decide) rfl (pc' := 31) rfl ?_
      refine jW.aload_nN (dx_Tree_lookForGap 16 (e := (31, .aload_n 3, 1)) rfl) rfl rfl (pc' := 32) rfl ?_
      refine jW.ifnullN (dx_Tree_lookForGap 17 (e := (32, .ifnull 36, 3)) rfl) 68 (by decide) ?_
      refine jW.vret (dx_Tree_lookForGap 34 (e := (68, .return_, 1)) rfl) rfl ?_
      exact ⟨rfl, hI, jK.rfl, rfl, by rw [show gapF bf k hd = bf from if_neg (fun q => q.1 (by rw [hla]; decide))]; exact hT0⟩
  · obtain ⟨vp, g1, g2, g3⟩ := k9 p (by omega)
    have gp10 := g2 10 (by decide)
    refine jW.aload_n (dx_Tree_lookForGap 0 (e := (0, .aload_n 0, 1)) rfl) rfl rfl (pc' := 1) rfl ?_
    refine jW.aload_n (dx_Tree_lookForGap 1 (e := (1, .aload_n 2, 1)) rfl) rfl rfl (pc' := 2) rfl ?_
    refine jW.getf F f_Tree_lookForGap_2 (by assumption) (by assumption) (pc' := 5) rfl ?_
    refine jW.callV F (e_Tree_at F hT0 _) (dx_Tree_lookForGap 3 (e := (5, .invokevirtual 60, 3)) rfl) can_Tree_at jw_606 jw_409 (by assumption) rfl jw_410 rfl rfl (Nat.le_of_ble_eq_true rfl) (pc' := 8) rfl (fun r σ1 hr => ?_)
    obtain ⟨rfl, rfl⟩ := hr
    rw [hla, trRef_nI hp (by omega)]
    refine jW.astore_n (dx_Tree_lookForGap 4 (e := (8, .astore_n 3, 1)) rfl) rfl (by decide) rfl (pc' := 9) rfl ?_
    refine jW.aload_n (dx_Tree_lookForGap 5 (e := (9, .aload_n 2, 1)) rfl) rfl rfl (pc' := 10) rfl ?_
    refine jW.getf F f_Tree_lookForGap_10 (by assumption) (by assumption) (pc' := 13) rfl ?_
    refine jW.iconst (v := 3) (dx_Tree_lookForGap 7 (e := (13, .iconst 3, 1)) rfl) (by decide) (pc' := 14) rfl ?_
    by_cases e3 : bf hd 0 = 3
    · obtain ⟨u, hu, hue⟩ := hli e3
      obtain ⟨vu, y1, y2, y3⟩ := k9 u (by omega)
      have yu0 := y2 0 (by decide)
      have LI : (if bf hd 0 = 3 then (bf hd 2).toNatClampNeg else hd) = u := by rw [if_pos e3, hue, nI_clamp (by omega)]
      refine jW.icmp_ne (dx_Tree_lookForGap 8 (e := (14, .if_icmp .ne 14, 3)) rfl) 28 (by decide) (pc' := 17) rfl (fun c_14 => absurd e3 c_14) (fun c_14 => ?_)
      refine jW.aload_n (dx_Tree_lookForGap 9 (e := (17, .aload_n 0, 1)) rfl) rfl rfl (pc' := 18) rfl ?_
      refine jW.aload_n (dx_Tree_lookForGap 10 (e := (18, .aload_n 2, 1)) rfl) rfl rfl (pc' := 19) rfl ?_
      refine jW.getf F f_Tree_lookForGap_19 (by assumption) (by assumption) (pc' := 22) rfl ?_
      refine jW.callV F (e_Tree_at F hT0 _) (dx_Tree_lookForGap 12 (e := (22, .invokevirtual 60, 3)) rfl) can_Tree_at jw_606 jw_409 (by assumption) rfl jw_410 rfl rfl (Nat.le_of_ble_eq_true rfl) (pc' := 25) rfl (fun r σ1 hr => ?_)
      obtain ⟨rfl, rfl⟩ := hr
      rw [hue, trRef_nI hu (by omega)]
      refine jW.goto (dx_Tree_lookForGap 13 (e := (25, .goto 4, 3)) rfl) 29 (by decide) ?_
      refine jW.astore (dx_Tree_lookForGap 15 (e := (29, .astore 4, 2)) rfl) (by decide) rfl (pc' := 31) rfl ?_
      refine jW.aload_n (dx_Tree_lookForGap 16 (e := (31, .aload_n 3, 1)) rfl) rfl rfl (pc' := 32) rfl ?_
      refine jW.ifnull (dx_Tree_lookForGap 17 (e := (32, .ifnull 36, 3)) rfl) (pc' := 35) rfl ?_
      refine jW.aload (dx_Tree_lookForGap 18 (e := (35, .aload 4, 2)) rfl) rfl (pc' := 37) rfl ?_
      refine jW.ifnull (dx_Tree_lookForGap 19 (e := (37, .ifnull 31, 3)) rfl) (pc' := 40) rfl ?_
      refine jW.aload (dx_Tree_lookForGap 20 (e := (40, .aload 4, 2)) rfl) rfl (pc' := 42) rfl ?_
      refine jW.getf F f_Tree_lookForGap_42 (by assumption) (by assumption) (pc' := 45) rfl ?_
      refine jW.iconst (v := 2) (dx_Tree_lookForGap 22 (e := (45, .iconst 2, 1)) rfl) (by decide) (pc' := 46) rfl ?_
      refine jW.icmp_ne (dx_Tree_lookForGap 23 (e := (46, .if_icmp .ne 22, 3)) rfl) 68 (by decide) (pc' := 49) rfl (fun c_46 => ?_) (fun c_46 => ?_)
      · refine jW.vret (dx_Tree_lookForGap 34 (e := (68, .return_, 1)) rfl) rfl ?_
        first
          | exact ⟨rfl, hI, jK.rfl, rfl, by rw [show gapF bf k hd = bf from if_neg (fun q => c_46 (by have q2 := q.2.1; rw [LI] at q2; exact q2))]; exact hT0⟩
          | exact ⟨rfl, hI, jK.rfl, rfl, by rw [show gapF bf k hd = bf from if_neg (fun q => absurd q.2.2 (Int32.not_lt.mpr (by rw [hla, nI_clamp (by omega)]; exact c_59)))]; exact hT0⟩
      · refine jW.aload_n (dx_Tree_lookForGap 24 (e := (49, .aload_n 1, 1)) rfl) rfl rfl (pc' := 50) rfl ?_
        refine jW.getf F f_Tree_lookForGap_50 (by assumption) (by assumption) (pc' := 53) rfl ?_
        refine jW.aload_n (dx_Tree_lookForGap 26 (e := (53, .aload_n 3, 1)) rfl) rfl rfl (pc' := 54) rfl ?_
        refine jW.getf F f_Tree_lookForGap_54 (by assumption) (by assumption) (pc' := 57) rfl ?_
        refine jW.isub (dx_Tree_lookForGap 28 (e := (57, .isub, 1)) rfl) (pc' := 58) rfl ?_
        refine jW.iconst (v := 1) (dx_Tree_lookForGap 29 (e := (58, .iconst 1, 1)) rfl) (by decide) (pc' := 59) rfl ?_
        refine jW.icmp_le (dx_Tree_lookForGap 30 (e := (59, .if_icmp .le 9, 3)) rfl) 68 (by decide) (pc' := 62) rfl (fun c_59 => ?_) (fun c_59 => ?_)
        · refine jW.vret (dx_Tree_lookForGap 34 (e := (68, .return_, 1)) rfl) rfl ?_
          first
            | exact ⟨rfl, hI, jK.rfl, rfl, by rw [show gapF bf k hd = bf from if_neg (fun q => c_46 (by have q2 := q.2.1; rw [LI] at q2; exact q2))]; exact hT0⟩
            | exact ⟨rfl, hI, jK.rfl, rfl, by rw [show gapF bf k hd = bf from if_neg (fun q => absurd q.2.2 (Int32.not_lt.mpr (by rw [hla, nI_clamp (by omega)]; exact c_59)))]; exact hT0⟩
        · refine jW.aload (dx_Tree_lookForGap 31 (e := (62, .aload 4, 2)) rfl) rfl (pc' := 64) rfl ?_
          refine jW.iconst (v := 1) (dx_Tree_lookForGap 32 (e := (64, .iconst 1, 1)) rfl) (by decide) (pc' := 65) rfl ?_
          refine jW.putf F f_Tree_lookForGap_65 rfl jF_Block jTab_Block rfl y1 y3 rfl rfl rfl (pc' := 68) rfl ?_
          refine jW.vret (dx_Tree_lookForGap 34 (e := (68, .return_, 1)) rfl) rfl ?_
          exact ⟨rfl, hI.put y1, jK.put y1 (by simp), rfl, by rw [show gapF bf k hd = upd2 bf u 4 1 from by
            unfold gapF
            rw [LI, if_pos ⟨by rw [hla]; exact nI_pos (by omega), c_46, by rw [hla, nI_clamp (by omega)]; exact Int32.not_le.mp c_59⟩]]; exact hT0.putB (by omega) y1⟩
    · have LI : (if bf hd 0 = 3 then (bf hd 2).toNatClampNeg else hd) = hd := if_neg e3
      refine jW.icmp_ne (dx_Tree_lookForGap 8 (e := (14, .if_icmp .ne 14, 3)) rfl) 28 (by decide) (pc' := 17) rfl (fun c_14 => ?_) (fun c_14 => absurd c_14 e3)
      refine jW.aload_n (dx_Tree_lookForGap 14 (e := (28, .aload_n 2, 1)) rfl) rfl rfl (pc' := 29) rfl ?_
      refine jW.astore (dx_Tree_lookForGap 15 (e := (29, .astore 4, 2)) rfl) (by decide) rfl (pc' := 31) rfl ?_
      refine jW.aload_n (dx_Tree_lookForGap 16 (e := (31, .aload_n 3, 1)) rfl) rfl rfl (pc' := 32) rfl ?_
      refine jW.ifnull (dx_Tree_lookForGap 17 (e := (32, .ifnull 36, 3)) rfl) (pc' := 35) rfl ?_
      refine jW.aload (dx_Tree_lookForGap 18 (e := (35, .aload 4, 2)) rfl) rfl (pc' := 37) rfl ?_
      refine jW.ifnull (dx_Tree_lookForGap 19 (e := (37, .ifnull 31, 3)) rfl) (pc' := 40) rfl ?_
      refine jW.aload (dx_Tree_lookForGap 20 (e := (40, .aload 4, 2)) rfl) rfl (pc' := 42) rfl ?_
      refine jW.getf F f_Tree_lookForGap_42 (by assumption) (by assumption) (pc' := 45) rfl ?_
      refine jW.iconst (v := 2) (dx_Tree_lookForGap 22 (e := (45, .iconst 2, 1)) rfl) (by decide) (pc' := 46) rfl ?_
      refine jW.icmp_ne (dx_Tree_lookForGap 23 (e := (46, .if_icmp .ne 22, 3)) rfl) 68 (by decide) (pc' := 49) rfl (fun c_46 => ?_) (fun c_46 => ?_)
      · refine jW.vret (dx_Tree_lookForGap 34 (e := (68, .return_, 1)) rfl) rfl ?_
        first
          | exact ⟨rfl, hI, jK.rfl, rfl, by rw [show gapF bf k hd = bf from if_neg (fun q => c_46 (by have q2 := q.2.1; rw [LI] at q2; exact q2))]; exact hT0⟩
          | exact ⟨rfl, hI, jK.rfl, rfl, by rw [show gapF bf k hd = bf from if_neg (fun q => absurd q.2.2 (Int32.not_lt.mpr (by rw [hla, nI_clamp (by omega)]; exact c_59)))]; exact hT0⟩
      · refine jW.aload_n (dx_Tree_lookForGap 24 (e := (49, .aload_n 1, 1)) rfl) rfl rfl (pc' := 50) rfl ?_
        refine jW.getf F f_Tree_lookForGap_50 (by assumption) (by assumption) (pc' := 53) rfl ?_
        refine jW.aload_n (dx_Tree_lookForGap 26 (e := (53, .aload_n 3, 1)) rfl) rfl rfl (pc' := 54) rfl ?_
        refine jW.getf F f_Tree_lookForGap_54 (by assumption) (by assumption) (pc' := 57) rfl ?_
        refine jW.isub (dx_Tree_lookForGap 28 (e := (57, .isub, 1)) rfl) (pc' := 58) rfl ?_
        refine jW.iconst (v := 1) (dx_Tree_lookForGap 29 (e := (58, .iconst 1, 1)) rfl) (by decide) (pc' := 59) rfl ?_
        refine jW.icmp_le (dx_Tree_lookForGap 30 (e := (59, .if_icmp .le 9, 3)) rfl) 68 (by decide) (pc' := 62) rfl (fun c_59 => ?_) (fun c_59 => ?_)
        · refine jW.vret (dx_Tree_lookForGap 34 (e := (68, .return_, 1)) rfl) rfl ?_
          first
            | exact ⟨rfl, hI, jK.rfl, rfl, by rw [show gapF bf k hd = bf from if_neg (fun q => c_46 (by have q2 := q.2.1; rw [LI] at q2; exact q2))]; exact hT0⟩
            | exact ⟨rfl, hI, jK.rfl, rfl, by rw [show gapF bf k hd = bf from if_neg (fun q => absurd q.2.2 (Int32.not_lt.mpr (by rw [hla, nI_clamp (by omega)]; exact c_59)))]; exact hT0⟩
        · refine jW.aload (dx_Tree_lookForGap 31 (e := (62, .aload 4, 2)) rfl) rfl (pc' := 64) rfl ?_
          refine jW.iconst (v := 1) (dx_Tree_lookForGap 32 (e := (64, .iconst 1, 1)) rfl) (by decide) (pc' := 65) rfl ?_
          refine jW.putf F f_Tree_lookForGap_65 rfl jF_Block jTab_Block rfl q1 q3 rfl rfl rfl (pc' := 68) rfl ?_
          refine jW.vret (dx_Tree_lookForGap 34 (e := (68, .return_, 1)) rfl) rfl ?_
          exact ⟨rfl, hI.put q1, jK.put q1 (by simp), rfl, by rw [show gapF bf k hd = upd2 bf hd 4 1 from by
            unfold gapF
            rw [LI, if_pos ⟨by rw [hla]; exact nI_pos (by omega), c_46, by rw [hla, nI_clamp (by omega)]; exact Int32.not_le.mp c_59⟩]]; exact hT0.putB (by omega) q1⟩
end TREE3
