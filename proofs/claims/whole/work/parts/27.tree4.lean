/-- LAST of what holds, from block k down -/
def fin1 : Nat → (Nat → Nat → Int32) → Nat → Nat → Int32
  | 0, bf => bf
  | k + 1, bf => fin1 k (upd2 bf (bf (k + 1) 2).toNatClampNeg 10 (if bf (bf (k + 1) 2).toNatClampNeg 10 < bf (k + 1) 10 then bf (k + 1) 10 else bf (bf (k + 1) 2).toNatClampNeg 10))
/-- which lists are loose: m blocks from k on -/
def fin2 : Nat → Nat → (Nat → Nat → Int32) → Nat → Nat → Int32
  | 0, _, bf => bf
  | m + 1, k, bf => fin2 m (k + 1) (upd2 (gapF bf k (bf k 2).toNatClampNeg) (bf k 2).toNatClampNeg 13 (nI k))
theorem gapF_k {bf : Nat → Nat → Int32} {k hd a b : Nat} (h : b ≠ 4) : gapF bf k hd a b = bf a b := by
  unfold gapF
  generalize (if bf hd 0 = 3 then (bf hd 2).toNatClampNeg else hd) = li
  split
  · exact upd2_k h
  · rfl
/-- every block but the first is held by one; the first is no item; the latest ones are blocks -/
def HoldOk (ct : Nat) (bf : Nat → Nat → Int32) : Prop := (∀ i, 0 < i → i < ct → ∃ u, u < ct ∧ bf i 2 = nI u) ∧ ¬ bf 0 0 = 3 ∧ ∀ i, i < ct → bf i 13 = -1 ∨ ∃ p, p < ct ∧ bf i 13 = nI p
theorem HoldOk.upd {ct i k : Nat} {bf : Nat → Nat → Int32} {z : Int32} (h : HoldOk ct bf) (h2 : 2 ≠ k) (h0 : 0 ≠ k) (h13 : 13 ≠ k ∨ ∃ p, p < ct ∧ z = nI p) : HoldOk ct (upd2 bf i k z) := by
  refine ⟨fun a ha hc => ?_, by rw [upd2_k h0]; exact h.2.1, fun a ha => ?_⟩
  · rw [upd2_k h2]; exact h.1 a ha hc
  · by_cases e : a = i ∧ 13 = k
    · rcases h13 with q | ⟨p, q1, q2⟩
      · exact absurd e.2 q
      · refine Or.inr ⟨p, q1, ?_⟩
        show (if a = i ∧ 13 = k then z else bf a 13) = _
        rw [if_pos e]; exact q2
    · show (if a = i ∧ 13 = k then z else bf a 13) = _ ∨ _
      have e9 : upd2 bf i k z a 13 = bf a 13 := if_neg e
      rw [e9, if_neg e]; exact h.2.2 a ha
theorem HoldOk.gap {ct k hd : Nat} {bf : Nat → Nat → Int32} (h : HoldOk ct bf) : HoldOk ct (gapF bf k hd) := by
  refine ⟨fun a ha hc => ?_, by rw [gapF_k (by decide)]; exact h.2.1, fun a ha => ?_⟩
  · rw [gapF_k (by decide)]; exact h.1 a ha hc
  · rw [gapF_k (by decide)]; exact h.2.2 a ha
section TREE4
variable {l : Launch} {s0 : State} {D : va_G} {cA : Nat → ClassId} {a0 : Array Value} {d : Nat} {σ : jS} {tr al dc tx ed cp N ct : Nat} {bs : Nat → Nat}
theorem e_fin7 (F : jOK s0 jcl D cA lw_tbl a0 jty) {Φ : Option Value → jS → Prop} : ∀ (k : Nat) (σ : jS) (bf : Nat → Nat → Int32) (o2 o3 : Option Value), k < ct → jI s0.heap.size σ → TreeAt s0.heap.size σ tr al dc tx ed cp N ct bs bf → HoldOk ct bf → (∀ (σ' : jS) (o2 o3 : Option Value), jI s0.heap.size σ' → jK [3] σ σ' → σ'.2 = σ.2 → TreeAt s0.heap.size σ' tr al dc tx ed cp N ct bs (fin1 k bf) → HoldOk ct (fin1 k bf) → jW l s0 jcl D cA (d + 5) y_Tree_finish 59 [some (.ref tr), some (.int (nI 0)), o2, o3] [] σ' Φ) → jW l s0 jcl D cA (d + 5) y_Tree_finish 7 [some (.ref tr), some (.int (nI k)), o2, o3] [] σ Φ := by
  intro k
  induction k with
  | zero =>
    intro σ bf o2 o3 hk hI h hH hK
    refine jW.iload_n (dx_Tree_finish 5 (e := (7, .iload_n 1, 1)) rfl) rfl rfl (pc' := 8) rfl ?_
    refine jW.if_le (dx_Tree_finish 6 (e := (8, .ifCond .le 51, 3)) rfl) 59 (by decide) (pc' := 11) rfl (fun c_8 => ?_) (fun c_8 => ?_)
    · exact hK σ o2 o3 hI jK.rfl rfl h hH
    · exact absurd (show (nI 0 : Int32) ≤ 0 by decide) c_8
  | succ k ih =>
    intro σ bf o2 o3 hk hI h hH hK
    have hT0 := h
    obtain ⟨⟨v, h1, h2, h3, h4, h5, h6⟩, hL, b1, b2, b3⟩ := h
    have hL0 := hL
    obtain ⟨⟨va, mc, k1, k2, k3, k4, k5⟩, ⟨w, k6, k7, k8⟩, k9, k10, k11, k12⟩ := hL
    obtain ⟨u, hu, hue⟩ := hH.1 (k + 1) (by omega) (by omega)
    obtain ⟨vb, p1, p2, p3⟩ := k9 (k + 1) (by omega)
    obtain ⟨vh, q1, q2, q3⟩ := k9 u (by omega)
    have fb2 := p2 2 (by decide)
    rw [hue] at fb2
    have fb10 := p2 10 (by decide)
    have fh10 := q2 10 (by decide)
    refine jW.iload_n (dx_Tree_finish 5 (e := (7, .iload_n 1, 1)) rfl) rfl rfl (pc' := 8) rfl ?_
    refine jW.if_le (dx_Tree_finish 6 (e := (8, .ifCond .le 51, 3)) rfl) 59 (by decide) (pc' := 11) rfl (fun c_8 => ?_) (fun c_8 => ?_)
    · exact absurd ((nI_leI (a := k + 1) (b := 0) (by omega) (by omega)).mp c_8) (by omega)
    · refine jW.aload_n (dx_Tree_finish 7 (e := (11, .aload_n 0, 1)) rfl) rfl rfl (pc' := 12) rfl ?_
      refine jW.iload_n (dx_Tree_finish 8 (e := (12, .iload_n 1, 1)) rfl) rfl rfl (pc' := 13) rfl ?_
      refine jW.callV F (e_Tree_at F hT0 _) (dx_Tree_finish 9 (e := (13, .invokevirtual 60, 3)) rfl) can_Tree_at jw_606 jw_409 (by assumption) rfl jw_410 rfl rfl (Nat.le_of_ble_eq_true rfl) (pc' := 16) rfl (fun r σ1 hr => ?_)
      obtain ⟨rfl, rfl⟩ := hr
      rw [trRef_nI hk (by omega)]
      refine jW.astore_n (dx_Tree_finish 10 (e := (16, .astore_n 2, 1)) rfl) rfl (by decide) rfl (pc' := 17) rfl ?_
      refine jW.aload_n (dx_Tree_finish 11 (e := (17, .aload_n 2, 1)) rfl) rfl rfl (pc' := 18) rfl ?_
      refine jW.ifnonnull (dx_Tree_finish 12 (e := (18, .ifnonnull 7, 3)) rfl) 25 (by decide) ?_
      refine jW.aload_n (dx_Tree_finish 15 (e := (25, .aload_n 0, 1)) rfl) rfl rfl (pc' := 26) rfl ?_
      refine jW.aload_n (dx_Tree_finish 16 (e := (26, .aload_n 2, 1)) rfl) rfl rfl (pc' := 27) rfl ?_
      refine jW.getf F f_Tree_finish_27 (by assumption) (by assumption) (pc' := 30) rfl ?_
      refine jW.callV F (e_Tree_at F hT0 _) (dx_Tree_finish 18 (e := (30, .invokevirtual 60, 3)) rfl) can_Tree_at jw_606 jw_409 (by assumption) rfl jw_410 rfl rfl (Nat.le_of_ble_eq_true rfl) (pc' := 33) rfl (fun r σ1 hr => ?_)
      obtain ⟨rfl, rfl⟩ := hr
      rw [trRef_nI hu (by omega)]
      refine jW.astore_n (dx_Tree_finish 19 (e := (33, .astore_n 3, 1)) rfl) rfl (by decide) rfl (pc' := 34) rfl ?_
      refine jW.aload_n (dx_Tree_finish 20 (e := (34, .aload_n 3, 1)) rfl) rfl rfl (pc' := 35) rfl ?_
      refine jW.ifnull (dx_Tree_finish 21 (e := (35, .ifnull 18, 3)) rfl) (pc' := 38) rfl ?_
      refine jW.aload_n (dx_Tree_finish 22 (e := (38, .aload_n 3, 1)) rfl) rfl rfl (pc' := 39) rfl ?_
      refine jW.aload_n (dx_Tree_finish 23 (e := (39, .aload_n 3, 1)) rfl) rfl rfl (pc' := 40) rfl ?_
      refine jW.getf F f_Tree_finish_40 (by assumption) (by assumption) (pc' := 43) rfl ?_
      refine jW.aload_n (dx_Tree_finish 25 (e := (43, .aload_n 2, 1)) rfl) rfl rfl (pc' := 44) rfl ?_
      refine jW.getf F f_Tree_finish_44 (by assumption) (by assumption) (pc' := 47) rfl ?_
      refine jW.callS F (e_Math_max F _ _) (dx_Tree_finish 27 (e := (47, .invokestatic 70, 3)) rfl) can_Math_max jw_970 jw_171 rfl rfl (Nat.le_of_ble_eq_true rfl) (pc' := 50) rfl (fun r σ1 hr => ?_)
      obtain ⟨rfl, rfl⟩ := hr
      refine jW.putf F f_Tree_finish_50 rfl jF_Block jTab_Block rfl q1 q3 rfl rfl rfl (pc' := 53) rfl ?_
      refine jW.iinc (v := nI k) (dx_Tree_finish 29 (e := (53, .iinc 1 (-1), 3)) rfl) rfl (pk_m1 k) (by decide) rfl (pc' := 56) rfl ?_
      refine jW.goto (dx_Tree_finish 30 (e := (56, .goto (-49), 3)) rfl) 7 (by decide) ?_
      have e1 : fin1 (k + 1) bf = fin1 k (upd2 bf u 10 (if bf u 10 < bf (k + 1) 10 then bf (k + 1) 10 else bf u 10)) := by
        rw [fin1, hue, nI_clamp (by omega)]
      rw [e1] at hK
      exact ih _ _ _ _ (by omega) (hI.put q1) (hT0.putB (by omega) q1) (hH.upd (by decide) (by decide) (Or.inl (by decide))) (fun σ' o2 o3 z1 z2 z3 z4 z5 => hK σ' o2 o3 z1 ((jK.put q1 (by simp)).trans z2) z3 z4 z5)
theorem e_fin61 (F : jOK s0 jcl D cA lw_tbl a0 jty) {Φ : Option Value → jS → Prop} : ∀ (m k : Nat) (σ : jS) (bf : Nat → Nat → Int32) (o2 o3 : Option Value), k + m = ct → 0 < k → jI s0.heap.size σ → TreeAt s0.heap.size σ tr al dc tx ed cp N ct bs bf → HoldOk ct bf → (∀ σ' : jS, jI s0.heap.size σ' → jK [3] σ σ' → σ'.2 = σ.2 → TreeAt s0.heap.size σ' tr al dc tx ed cp N ct bs (fin2 m k bf) → Φ none σ') → jW l s0 jcl D cA (d + 5) y_Tree_finish 61 [some (.ref tr), some (.int (nI k)), o2, o3] [] σ Φ := by
  intro m
  induction m with
  | zero =>
    intro k σ bf o2 o3 hk h0 hI h hH hΦ
    have hT0 := h
    obtain ⟨⟨v, h1, h2, h3, h4, h5, h6⟩, hL, b1, b2, b3⟩ := h
    have hL0 := hL
    obtain ⟨⟨va, mc, k1, k2, k3, k4, k5⟩, ⟨w, k6, k7, k8⟩, k9, k10, k11, k12⟩ := hL
    refine jW.iload_n (dx_Tree_finish 33 (e := (61, .iload_n 1, 1)) rfl) rfl rfl (pc' := 62) rfl ?_
    refine jW.aload_n (dx_Tree_finish 34 (e := (62, .aload_n 0, 1)) rfl) rfl rfl (pc' := 63) rfl ?_
    refine jW.getf F f_Tree_finish_63 (by assumption) (by assumption) (pc' := 66) rfl ?_
    refine jW.icmp_ge (dx_Tree_finish 36 (e := (66, .if_icmp .ge 47, 3)) rfl) 113 (by decide) (pc' := 69) rfl (fun c_66 => ?_) (fun c_66 => ?_)
    · refine jW.vret (dx_Tree_finish 61 (e := (113, .return_, 1)) rfl) rfl ?_
      exact hΦ σ hI jK.rfl rfl hT0
    · exact absurd ((nI_leI (by omega) (by omega)).mpr (by omega)) c_66
  | succ m ih =>
    intro k σ bf o2 o3 hk h0 hI h hH hΦ
    have hT0 := h
    obtain ⟨⟨v, h1, h2, h3, h4, h5, h6⟩, hL, b1, b2, b3⟩ := h
    have hL0 := hL
    obtain ⟨⟨va, mc, k1, k2, k3, k4, k5⟩, ⟨w, k6, k7, k8⟩, k9, k10, k11, k12⟩ := hL
    obtain ⟨u, hu, hue⟩ := hH.1 k (by omega) (by omega)
    obtain ⟨vb, p1, p2, p3⟩ := k9 k (by omega)
    obtain ⟨vh, q1, q2, q3⟩ := k9 u (by omega)
    have fb2 := p2 2 (by decide)
    rw [hue] at fb2
    have hli : bf u 0 = 3 → ∃ w, w < ct ∧ bf u 2 = nI w := fun q => by
      by_cases e : 0 < u
      · exact hH.1 u e hu
      · exact absurd (by rw [show u = 0 by omega] at q; exact q) hH.2.1
    refine jW.iload_n (dx_Tree_finish 33 (e := (61, .iload_n 1, 1)) rfl) rfl rfl (pc' := 62) rfl ?_
    refine jW.aload_n (dx_Tree_finish 34 (e := (62, .aload_n 0, 1)) rfl) rfl rfl (pc' := 63) rfl ?_
    refine jW.getf F f_Tree_finish_63 (by assumption) (by assumption) (pc' := 66) rfl ?_
    refine jW.icmp_ge (dx_Tree_finish 36 (e := (66, .if_icmp .ge 47, 3)) rfl) 113 (by decide) (pc' := 69) rfl (fun c_66 => ?_) (fun c_66 => ?_)
    · exact absurd ((nI_leI (by omega) (by omega)).mp c_66) (by omega)
    · refine jW.aload_n (dx_Tree_finish 37 (e := (69, .aload_n 0, 1)) rfl) rfl rfl (pc' := 70) rfl ?_
      refine jW.iload_n (dx_Tree_finish 38 (e := (70, .iload_n 1, 1)) rfl) rfl rfl (pc' := 71) rfl ?_
      refine jW.callV F (e_Tree_at F hT0 _) (dx_Tree_finish 39 (e := (71, .invokevirtual 60, 3)) rfl) can_Tree_at jw_606 jw_409 (by assumption) rfl jw_410 rfl rfl (Nat.le_of_ble_eq_true rfl) (pc' := 74) rfl (fun r σ1 hr => ?_)
      obtain ⟨rfl, rfl⟩ := hr
      rw [trRef_nI (by omega) (by omega)]
      refine jW.astore_n (dx_Tree_finish 40 (e := (74, .astore_n 2, 1)) rfl) rfl (by decide) rfl (pc' := 75) rfl ?_
      refine jW.aload_n (dx_Tree_finish 41 (e := (75, .aload_n 2, 1)) rfl) rfl rfl (pc' := 76) rfl ?_
      refine jW.ifnonnull (dx_Tree_finish 42 (e := (76, .ifnonnull 7, 3)) rfl) 83 (by decide) ?_
      refine jW.aload_n (dx_Tree_finish 45 (e := (83, .aload_n 0, 1)) rfl) rfl rfl (pc' := 84) rfl ?_
      refine jW.aload_n (dx_Tree_finish 46 (e := (84, .aload_n 2, 1)) rfl) rfl rfl (pc' := 85) rfl ?_
      refine jW.getf F f_Tree_finish_85 (by assumption) (by assumption) (pc' := 88) rfl ?_
      refine jW.callV F (e_Tree_at F hT0 _) (dx_Tree_finish 48 (e := (88, .invokevirtual 60, 3)) rfl) can_Tree_at jw_606 jw_409 (by assumption) rfl jw_410 rfl rfl (Nat.le_of_ble_eq_true rfl) (pc' := 91) rfl (fun r σ1 hr => ?_)
      obtain ⟨rfl, rfl⟩ := hr
      rw [trRef_nI hu (by omega)]
      refine jW.astore_n (dx_Tree_finish 49 (e := (91, .astore_n 3, 1)) rfl) rfl (by decide) rfl (pc' := 92) rfl ?_
      refine jW.aload_n (dx_Tree_finish 50 (e := (92, .aload_n 3, 1)) rfl) rfl rfl (pc' := 93) rfl ?_
      refine jW.ifnull (dx_Tree_finish 51 (e := (93, .ifnull 14, 3)) rfl) (pc' := 96) rfl ?_
      refine jW.aload_n (dx_Tree_finish 52 (e := (96, .aload_n 0, 1)) rfl) rfl rfl (pc' := 97) rfl ?_
      refine jW.aload_n (dx_Tree_finish 53 (e := (97, .aload_n 2, 1)) rfl) rfl rfl (pc' := 98) rfl ?_
      refine jW.aload_n (dx_Tree_finish 54 (e := (98, .aload_n 3, 1)) rfl) rfl rfl (pc' := 99) rfl ?_
      refine jW.callV F (e_Tree_lookForGap F hI hT0 (k := k) (hd := u) (by omega) hu (hH.2.2 u hu) hli) (dx_Tree_finish 55 (e := (99, .invokevirtual 76, 3)) rfl) can_Tree_lookForGap jw_971 jw_973 (by assumption) rfl sel_Tree_lookForGap rfl rfl (Nat.le_of_ble_eq_true rfl) (pc' := 102) rfl (fun r σ1 hr => ?_)
      obtain ⟨rfl, z1, z2, z3, z4⟩ := hr
      obtain ⟨vg, g1, g2, g3⟩ := z4.2.1.2.2.1 u (by omega)
      refine jW.aload_n (dx_Tree_finish 56 (e := (102, .aload_n 3, 1)) rfl) rfl rfl (pc' := 103) rfl ?_
      refine jW.iload_n (dx_Tree_finish 57 (e := (103, .iload_n 1, 1)) rfl) rfl rfl (pc' := 104) rfl ?_
      refine jW.putf F f_Tree_finish_104 rfl jF_Block jTab_Block rfl g1 g3 rfl rfl rfl (pc' := 107) rfl ?_
      refine jW.iinc (v := nI (k + 1)) (dx_Tree_finish 59 (e := (107, .iinc 1 1, 3)) rfl) rfl (nI_1 k) (by decide) rfl (pc' := 110) rfl ?_
      refine jW.goto (dx_Tree_finish 60 (e := (110, .goto (-49), 3)) rfl) 61 (by decide) ?_
      have e1 : fin2 (m + 1) k bf = fin2 m (k + 1) (upd2 (gapF bf k u) u 13 (nI k)) := by
        rw [fin2, hue, nI_clamp (by omega)]
      rw [e1] at hΦ
      exact ih (k + 1) _ _ _ _ (by omega) (by omega) (z1.put g1) (z4.putB (by omega) g1) (hH.gap.upd (by decide) (by decide) (Or.inr ⟨k, by omega, rfl⟩)) (fun σ' y1 y2 y3 y4 => hΦ σ' y1 (z2.trans ((jK.put g1 (by simp)).trans y2)) (by rw [y3]; exact z3) y4)
theorem e_Tree_finish (F : jOK s0 jcl D cA lw_tbl a0 jty) {bf : Nat → Nat → Int32} (hI : jI s0.heap.size σ) (h : TreeAt s0.heap.size σ tr al dc tx ed cp N ct bs bf) (h0 : 0 < ct) (hH : HoldOk ct bf) : jE l s0 jcl D cA (d + 5) y_Tree_finish [.ref tr] σ (fun r σ' => r = none ∧ jI s0.heap.size σ' ∧ jK [3] σ σ' ∧ σ'.2 = σ.2 ∧ TreeAt s0.heap.size σ' tr al dc tx ed cp N ct bs (fin2 (ct - 1) 1 (fin1 (ct - 1) bf))) := by
  have hT0 := h
  obtain ⟨⟨v, h1, h2, h3, h4, h5, h6⟩, hL, b1, b2, b3⟩ := h
  have hL0 := hL
  obtain ⟨⟨va, mc, k1, k2, k3, k4, k5⟩, ⟨w, k6, k7, k8⟩, k9, k10, k11, k12⟩ := hL
  refine jE.of (by decide) (by simp [Value.category]) (Nat.le_of_ble_eq_true rfl) rfl ?_
  refine jW.aload_n (dx_Tree_finish 0 (e := (0, .aload_n 0, 1)) rfl) rfl rfl (pc' := 1) rfl ?_
  refine jW.getf F f_Tree_finish_1 (by assumption) (by assumption) (pc' := 4) rfl ?_
  refine jW.iconst (v := 1) (dx_Tree_finish 2 (e := (4, .iconst 1, 1)) rfl) (by decide) (pc' := 5) rfl ?_
  refine jW.isub (dx_Tree_finish 3 (e := (5, .isub, 1)) rfl) (pc' := 6) rfl ?_
  rw [show nI ct - 1 = nI (ct - 1) from pk_sub (a := ct) (b := 1) (by omega)]
  refine jW.istore_n (dx_Tree_finish 4 (e := (6, .istore_n 1, 1)) rfl) rfl (by decide) rfl (pc' := 7) rfl ?_
  refine e_fin7 F (ct - 1) σ bf none none (by omega) hI hT0 hH (fun σ1 o2 o3 z1 z2 z3 z4 z5 => ?_)
  refine jW.iconst (v := 1) (dx_Tree_finish 31 (e := (59, .iconst 1, 1)) rfl) (by decide) (pc' := 60) rfl ?_
  refine jW.istore_n (dx_Tree_finish 32 (e := (60, .istore_n 1, 1)) rfl) rfl (by decide) rfl (pc' := 61) rfl ?_
  exact e_fin61 F (ct - 1) 1 σ1 _ o2 o3 (by omega) (by omega) z1 z4 z5 (fun σ' y1 y2 y3 y4 => ⟨rfl, y1, z2.trans y2, by rw [y3, z3], y4⟩)
end TREE4
