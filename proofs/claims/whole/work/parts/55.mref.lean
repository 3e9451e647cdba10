theorem mI_self (m : MS) (k : Nat) : mI m k (m.1 k) = m := by
  unfold mI
  obtain ⟨a, b⟩ := m
  simp only [Prod.mk.injEq, and_true]
  funext j
  by_cases e : j = k <;> simp [e]
theorem mI_mI (m : MS) (k : Nat) (x y : Int32) : mI (mI m k x) k y = mI m k y := by
  unfold mI
  simp only [Prod.mk.injEq, and_true]
  funext j
  by_cases e : j = k <;> simp [e]
theorem nameR_35 {T : List Int32} {i t : Nat} (h : tA T (i + 1) = 35) : nameR T i t = none := by
  rw [nameR_eq (L := 0) (fun j hj => absurd hj (by omega)) (fun q => by rw [show i + 1 + 0 = i + 1 from rfl, h] at q; exact absurd q.2 (by decide))]
  refine if_neg (fun q => ?_)
  have := q.2.1
  rw [show i + 1 + 0 = i + 1 from rfl, h] at this
  exact absurd this (by decide)
theorem dig_f {c : Int32} : (48 ≤ c ∧ c ≤ 57) ↔ digN false c ≠ none := by
  unfold digN
  constructor
  · intro q; rw [if_pos q]; simp
  · intro q
    apply Decidable.byContradiction
    intro z
    rw [if_neg z] at q
    simp at q
theorem dig_ft {c : Int32} {d : Nat} (h : digN false c = some d) : digI true c = nI d := by
  have q := dig_f.mpr (by rw [h]; simp)
  unfold digN at h
  rw [if_pos q] at h
  cases h
  unfold digI digN
  rw [if_pos q]
theorem dig_t {c : Int32} {d : Nat} (h : digN true c = some d) : digI true c = nI d := by unfold digI; rw [h]
theorem dig_t0 {c : Int32} (h : digN true c = none) : digI true c = -1 := by unfold digI; rw [h]
section MOREF
variable {X : MX} {a0 : Array Value} {m : MS} {T : List Int32} {f δ : Nat} {N : Int32 → MS → Prop}
def RfI (m : MS) (T : List Int32) (i t δ n : Nat) (x1 x2 x3 x4 x5 : Int32) (m' : MS) : Prop := x1 = nI (i + δ) ∧ x2 = nI (t + δ) ∧ tA T (i + 1) = 35 ∧ i + 1 < t ∧ ∃ (hx : Bool) (j v : Nat), x4 = bI (hx = true) ∧ (i + 2 < t → hx = hxB T i) ∧ x5 = nI (hxS hx i + δ) ∧ x3 = nI (hxS hx i + j + δ) ∧ m' = mI m 51 (nI v) ∧ n + j = 8 ∧ (j = 0 ∨ hxS hx i + j ≤ t) ∧ ((j ≤ hxM hx ∧ v < 16 ^ j ∧ dgR T t hx (hxM hx) (hxS hx i) 0 = dgR T t hx (hxM hx - j) (hxS hx i + j) v) ∨ (hxM hx < j ∧ ∃ v', dgR T t hx (hxM hx) (hxS hx i) 0 = (hxS hx i + hxM hx, v') ∧ digN hx (tA T (hxS hx i + hxM hx)) ≠ none))
theorem d_Mo_reference (F : mF X a0) (hC : NmC m) (hP : PlI m T f δ) {i t : Nat} (hf : f ≤ i) (hi : i < t) (ht : t ≤ T.length) (h0 : refR T i t = none → ∀ x, N 0 (mI m 51 x)) (h1 : ∀ e v, refR T i t = some (e, v) → i < e → e ≤ t → N (nI (e - i)) (mI m 51 (nI v))) : mE X 2 y_Mo_reference [.ref (mo X), .int (nI (i + δ)), .int (nI (t + δ))] m (iP N) := by
  have hP0 := hP
  obtain ⟨hv, hb, hl⟩ := hP
  have hz : refR T i t = none → ∀ m', (∃ x, m' = mI m 51 x) → iP N (some (.int 0)) m' := by
    intro q m' hm
    obtain ⟨x, rfl⟩ := hm
    exact iP.i (h0 q x) rfl
  have hnum0 : tA T (i + 1) = 35 → numR T i t = none → refR T i t = none := fun q1 q2 => by unfold refR; rw [q2]; exact nameR_35 q1
  refine g_Mo_reference (I78 := fun n x1 x2 x3 x4 x5 m' => RfI m T i t δ n x1 x2 x3 x4 x5 m') (I270 := fun n x1 x2 x3 m' => m' = m ∧ x1 = nI (i + δ) ∧ x2 = nI (t + δ) ∧ (i + 1 < t → ¬ tA T (i + 1) = 35) ∧ ∃ L, x3 = nI (i + 1 + L + δ) ∧ i + 1 + L ≤ t ∧ n + L = t ∧ ∀ j, j < L → alN (tA T (i + 1 + j))) F ?_ ?_ ?_
  · simp (discharger := omega) only [w_Mo_reference_0, w_Mo_reference_50, w_Mo_reference_54, w_Mo_reference_55, sh1, nI_leI, vp_nI, nI_clamp]
    have hgo : ∀ hx : Bool, tA T (i + 1) = 35 → i + 1 < t → (i + 2 < t → hx = hxB T i) → ∀ s x3 : Int32, s = bI (hx = true) → ((s = 0 → w_Mo_reference_68 X (nI (i + δ)) (nI (t + δ)) x3 s (nI (i + 1 + 1 + δ)) 0 m (iP N) (fun x1 x2 x3 x4 x5 m_1 => ∃ j, RfI m T i t δ j x1 x2 x3 x4 x5 m_1)) ∧ (¬ s = 0 → w_Mo_reference_68 X (nI (i + δ)) (nI (t + δ)) x3 s (nI (i + 1 + 1 + δ)) 1 m (iP N) (fun x1 x2 x3 x4 x5 m_1 => ∃ j, RfI m T i t δ j x1 x2 x3 x4 x5 m_1))) := by
      intro hx q1 q2 q3 s x3 hs
      subst hs
      have e0 : nI (i + 1 + 1 + δ) + 0 = nI (i + 2 + δ) := nI_add (i + 1 + 1 + δ) 0
      have e1 : nI (i + 1 + 1 + δ) + 1 = nI (i + 3 + δ) := sh1 (i + 1 + 1) δ
      refine ⟨fun c => ?_, fun c => ?_⟩
      · intro m1 em
        have hx0 : hxS hx i = i + 2 := by unfold hxS; rw [if_neg (bI_0 c)]
        exact ⟨8, rfl, rfl, q1, q2, hx, 0, 0, rfl, q3, by rw [hx0]; exact e0, by rw [hx0]; exact e0, em, rfl, Or.inl rfl, Or.inl ⟨by omega, by decide, rfl⟩⟩
      · intro m1 em
        have hx0 : hxS hx i = i + 3 := by unfold hxS; rw [if_pos (bI_n0 c)]
        exact ⟨8, rfl, rfl, q1, q2, hx, 0, 0, rfl, q3, by rw [hx0]; exact e1, by rw [hx0]; exact e1, em, rfl, Or.inl rfl, Or.inl ⟨by omega, by decide, rfl⟩⟩
    refine ⟨fun c1 => ⟨t, by trivial, by trivial, by trivial, fun z => absurd z (by omega), 0, rfl, by omega, by omega, fun j hj => absurd hj (by omega)⟩, fun c1 => ⟨by omega, fun c2 => ⟨fun c3 => ?_, fun c3 => ⟨by omega, fun c4 => ?_, fun c4 => ⟨by omega, fun c5 => ?_, fun c5 => ?_⟩⟩⟩, fun c2 => ⟨t, by trivial, by trivial, by trivial, fun _ => ?_, 0, rfl, by omega, by omega, fun j hj => absurd hj (by omega)⟩⟩⟩
    · rw [hv _ (by omega) (by omega)] at c2
      exact ⟨fun _ => (hgo false c2 (by omega) (fun z => absurd z (by omega)) 0 _ rfl).1 rfl, fun z => absurd trivial z⟩
    · rw [hv _ (by omega) (by omega)] at c2 c4
      exact hgo true c2 (by omega) (fun z => by unfold hxB; exact (decide_eq_true (Or.inl c4)).symm) 1 _ rfl
    · rw [hv _ (by omega) (by omega)] at c2 c4 c5
      exact hgo true c2 (by omega) (fun z => by unfold hxB; exact (decide_eq_true (Or.inr c5)).symm) 1 _ rfl
    · rw [hv _ (by omega) (by omega)] at c2 c4 c5
      exact ⟨fun _ => (hgo false c2 (by omega) (fun z => by unfold hxB; exact (decide_eq_false (fun q => q.elim c4 c5)).symm) 0 _ rfl).1 rfl, fun z => absurd trivial z⟩
    · rw [hv _ (by omega) (by omega)] at c2
      exact c2
  · rintro n x1 x2 x3 x4 x5 m' ⟨rfl, rfl, h35, hi1, hx, j, v, rfl, hhx, rfl, rfl, rfl, hn, hjt, hd⟩
    have hM : 6 ≤ hxM hx ∧ hxM hx ≤ 7 := by unfold hxM; split <;> omega
    have hS : i + 2 ≤ hxS hx i ∧ hxS hx i ≤ i + 3 := by unfold hxS; split <;> omega
    have hsub : nI (hxS hx i + j + δ) - nI (hxS hx i + δ) = nI j := by
      rw [pk_sub (by omega)]
      congr 1
      omega
    have hmv : ∀ y, ∃ x, mI m 51 y = mI m 51 x := fun y => ⟨y, rfl⟩
    -- what the number is
    have hnum : ∀ e v', dgR T t hx (hxM hx) (hxS hx i) 0 = (e, v') → ¬ (¬ e = hxS hx i ∧ e < t ∧ tA T e = 59) → refR T i t = none := by
      intro e v' q1 q2
      refine hnum0 h35 ?_
      by_cases h2 : i + 2 < t
      · have := hhx h2
        subst this
        unfold numR
        rw [q1]
        exact if_neg (fun z => q2 z.2)
      · unfold numR
        refine if_neg (fun z => z.2.1 ?_)
        have h3 : i + 2 ≤ hxS (hxB T i) i := by unfold hxS; split <;> omega
        have hM2 : ∃ y, hxM (hxB T i) = y + 1 := by unfold hxM; split <;> exact ⟨_, rfl⟩
        obtain ⟨y, hy⟩ := hM2
        rw [hy, dgR, if_neg (by omega)]
    have h177 : (j ≤ hxM hx → dgR T t hx (hxM hx - j) (hxS hx i + j) v = (hxS hx i + j, v)) → w_Mo_reference_177 X (nI (i + δ)) (nI (t + δ)) (nI (hxS hx i + j + δ)) (bI (hx = true)) (nI (hxS hx i + δ)) (mI m 51 (nI v)) (iP N) := by
      intro hE
      have h199 : ¬ j = 0 → ∀ s1 : Int32, s1 = nI (hxM hx) → w_Mo_reference_199 X (nI (i + δ)) (nI (t + δ)) (nI (hxS hx i + j + δ)) (bI (hx = true)) (nI (hxS hx i + δ)) (nI j) s1 (mI m 51 (nI v)) (iP N) := by
        intro hj0 s1 hs1
        subst hs1
        unfold w_Mo_reference_199 w_Mo_reference_218 w_Mo_reference_257 w_Mo_reference_264
        simp (discharger := omega) only [nI_ltI, nI_leI, vp_nI, nI_clamp, sh1]
        refine ⟨fun c1 => hz ?_ _ (hmv _), fun c1 => ⟨fun c2 => hz ?_ _ (hmv _), fun c2 => ⟨by omega, fun c3 => ?_, fun c3 => hz ?_ _ (hmv _)⟩⟩⟩
        · rcases hd with hd | ⟨_, v', q1, q2⟩
          · omega
          · refine hnum _ _ q1 (fun z => ?_)
            rw [z.2.2] at q2
            exact q2 digN_no59
        · rcases hd with hd | hd
          · exact hnum _ _ (hd.2.2.trans (hE hd.1)) (fun z => by omega)
          · omega
        · have c3' : tA T (hxS hx i + j) = 59 := by rw [← hv _ (by omega) (by omega)]; exact c3
          rcases hd with hd | hd
          · have hv7 : v < 16 ^ 7 := Nat.lt_of_lt_of_le hd.2.1 (Nat.pow_le_pow_right (by decide) (by omega))
            have hh := hhx (by omega)
            have e51 : (mI m 51 (nI v)).1 51 = nI v := mI_at _ _ _
            have hsome : numR T i t = some (hxS hx i + j + 1, chN v) := by
              have hdd := hd.2.2.trans (hE hd.1)
              subst hh
              unfold numR
              rw [hdd]
              exact if_pos ⟨h35, by omega, by omega, c3'⟩
            have href : refR T i t = some (hxS hx i + j + 1, chN v) := by unfold refR; rw [hsome]
            have hlast := h1 _ _ href (by omega) (by omega)
            have hsub2 : nI (hxS hx i + j + 1 + δ) - nI (i + δ) = nI (hxS hx i + j + 1 - i) := by
              rw [pk_sub (by omega)]
              congr 1
              omega
            have hch0 : ¬ (0 < v ∧ v ≤ 1114111 ∧ (v < 55296 ∨ 57343 < v)) → ∀ m1, m1 = mI (mI m 51 (nI v)) 51 65533 → iP N (some (.int (nI (hxS hx i + j + 1 + δ) - nI (i + δ)))) m1 := by
              intro z m1 e1
              subst e1
              rw [mI_mI, hsub2]
              have : chN v = 65533 := by unfold chN; rw [if_neg z]
              rw [this] at hlast
              exact iP.i hlast rfl
            have hch1 : (0 < v ∧ v ≤ 1114111 ∧ (v < 55296 ∨ 57343 < v)) → iP N (some (.int (nI (hxS hx i + j + 1 + δ) - nI (i + δ)))) (mI m 51 (nI v)) := by
              intro z
              rw [hsub2]
              have : chN v = v := by unfold chN; rw [if_pos z]
              rw [this] at hlast
              exact iP.i hlast rfl
            rw [e51]
            simp (discharger := omega) only [lit_eqJ, lit_ltI, lit_ltJ]
            exact ⟨fun g1 => hch0 (by omega), fun g1 => ⟨fun g2 => hch0 (by omega), fun g2 => ⟨fun g3 => hch1 (by omega), fun g3 => ⟨fun g4 => hch1 (by omega), fun g4 => hch0 (by omega)⟩⟩⟩⟩
          · omega
        · have c3' : ¬ tA T (hxS hx i + j) = 59 := by rw [← hv _ (by omega) (by omega)]; exact c3
          rcases hd with hd | hd
          · exact hnum _ _ (hd.2.2.trans (hE hd.1)) (fun z => c3' z.2.2)
          · omega
      unfold w_Mo_reference_177
      rw [hsub]
      simp (discharger := omega) only [nI_eq]
      refine ⟨fun c1 => hz ?_ _ (hmv _), fun c1 => ⟨fun c2 => h199 (by omega) _ ?_, fun c2 => h199 (by omega) _ ?_⟩⟩
      · have hj0 : j = 0 := by omega
        rcases hd with hd | hd
        · refine hnum _ _ (hd.2.2.trans (hE hd.1)) (fun z => by omega)
        · omega
      · unfold hxM; rw [if_neg (bI_0 c2)]; rfl
      · unfold hxM; rw [if_pos (bI_n0 c2)]; rfl
    have hstop : (t ≤ hxS hx i + j ∨ digN hx (tA T (hxS hx i + j)) = none) → j ≤ hxM hx → dgR T t hx (hxM hx - j) (hxS hx i + j) v = (hxS hx i + j, v) := by
      intro q1 q2
      cases hy : hxM hx - j with
      | zero => rfl
      | succ y =>
        rw [dgR]
        rcases q1 with q1 | q1
        · rw [if_neg (by omega)]
        · split
          · rw [q1]
          · rfl
    by_cases hlt : hxS hx i + j < t
    · have hvk : (mI m 51 (nI v)).2 7 (hxS hx i + j + δ) = tA T (hxS hx i + j) := hv _ (by omega) (by omega)
      have h124 : ∀ d, digN hx (tA T (hxS hx i + j)) = some d → j < 8 → w_Mo_reference_124 X (nI (i + δ)) (nI (t + δ)) (nI (hxS hx i + j + δ)) (bI (hx = true)) (nI (hxS hx i + δ)) (mI m 51 (nI v)) (iP N) (fun x1 x2 x3 x4 x5 m_1 => ∃ j, j < n ∧ RfI m T i t δ j x1 x2 x3 x4 x5 m_1) := by
        intro d hdg hj8
        have hd16 := digN_lt hdg
        have hdI : digI true (tA T (hxS hx i + j)) = nI d := by
          cases hx with
          | true => exact dig_t hdg
          | false => exact dig_ft hdg
        have hnext : ∀ v', (j < hxM hx → v' = (if hx = true then 16 else 10) * v + d) → ∃ j', j' < n ∧ RfI m T i t δ j' (nI (i + δ)) (nI (t + δ)) (nI (hxS hx i + j + 1 + δ)) (bI (hx = true)) (nI (hxS hx i + δ)) (mI m 51 (nI v')) := by
          intro v' hv'
          refine ⟨n - 1, by omega, rfl, rfl, h35, hi1, hx, j + 1, v', rfl, hhx, rfl, rfl, rfl, by omega, Or.inr (by omega), ?_⟩
          rcases hd with ⟨d1, d2, d3⟩ | ⟨d1, v2, d2, d3⟩
          · by_cases hjM : j < hxM hx
            · refine Or.inl ⟨by omega, ?_, ?_⟩
              · rw [hv' hjM]
                have : 16 ^ (j + 1) = 16 * 16 ^ j := by rw [Nat.pow_succ, Nat.mul_comm]
                rw [this]
                generalize 16 ^ j = y at d2
                split <;> omega
              · rw [d3]
                have : hxM hx - j = (hxM hx - (j + 1)) + 1 := by omega
                rw [this, dgR, if_pos hlt, hdg, hv' hjM]
                rfl
            · have hjM' : j = hxM hx := by omega
              refine Or.inr ⟨by omega, v, ?_, ?_⟩
              · rw [d3, show hxM hx - j = 0 by omega, ← hjM']
                rfl
              · rw [← hjM', hdg]
                simp
          · exact Or.inr ⟨by omega, v2, d2, d3⟩
        have hsx : nI (hxS hx i + j + δ) + 1 = nI (hxS hx i + j + 1 + δ) := sh1 _ _
        unfold w_Mo_reference_124 w_Mo_reference_146 w_Mo_reference_168
        rw [hsub]
        simp (discharger := omega) only [lit_leI, vp_nI, nI_clamp, hvk, hsx]
        have e51 : (mI m 51 (nI v)).1 51 = nI v := mI_at _ _ _
        have hcalc : ∀ b : Nat, (b = if hx = true then 16 else 10) → ∀ m1, m1 = mI (mI m 51 (nI v)) 51 (nI b * (mI m 51 (nI v)).1 51 + digI true (tA T (hxS hx i + j))) → ∃ j', j' < n ∧ RfI m T i t δ j' (nI (i + δ)) (nI (t + δ)) (nI (hxS hx i + j + 1 + δ)) (bI (hx = true)) (nI (hxS hx i + δ)) m1 := by
          intro b hb' m1 em
          rw [em, e51, hdI, pk_mul, nI_add, mI_mI]
          exact hnext _ (fun _ => by rw [hb'])
        refine ⟨fun c1 => ?_, fun c1 => ⟨fun c2 => ⟨by omega, d_Mo_hex F (hcalc 10 ?_)⟩, fun c2 => ⟨by omega, d_Mo_hex F (hcalc 16 ?_)⟩⟩⟩
        · intro m1 em
          rw [em, e51, mI_mI]
          exact hnext v (fun z => by omega)
        · rw [if_neg (bI_0 c2)]
        · rw [if_pos (bI_n0 c2)]
      unfold w_Mo_reference_78
      rw [hsub]
      simp (discharger := omega) only [nI_leI, lit_leI, vp_nI, nI_clamp, hvk]
      refine ⟨fun c => absurd c (by omega), fun _ => ⟨fun c1 => h177 (fun z => by omega), fun c1 => ⟨fun c2 => ⟨by omega, d_Mo_isDigit F ⟨fun c3 => ?_, fun c3 => ?_⟩⟩, fun c2 => ⟨by omega, d_Mo_hex F ⟨fun c3 => ?_, fun c3 => ?_⟩⟩⟩⟩⟩
      · have hxf : hx = false := by have := bI_0 c2; simpa using this
        refine h177 (hstop (Or.inr ?_))
        have := bI_0 c3
        rw [dig_f] at this
        subst hxf
        simpa using this
      · have hxf : hx = false := by have := bI_0 c2; simpa using this
        have := bI_n0 c3
        rw [dig_f] at this
        cases hdg : digN false (tA T (hxS hx i + j)) with
        | none => exact absurd hdg this
        | some d => exact h124 d (by rw [hxf] at hdg ⊢; exact hdg) (by omega)
      · have hxt : hx = true := bI_n0 c2
        refine h177 (hstop (Or.inr ?_))
        cases hdg : digN true (tA T (hxS hx i + j)) with
        | none => rw [hxt] at hdg ⊢; exact hdg
        | some d =>
          rw [dig_t hdg] at c3
          have := digN_lt hdg
          exact absurd c3 (nI_lt0 (by omega))
      · have hxt : hx = true := bI_n0 c2
        cases hdg : digN true (tA T (hxS hx i + j)) with
        | none =>
          rw [dig_t0 hdg] at c3
          exact absurd (by decide) c3
        | some d => exact h124 d (by rw [hxt] at hdg ⊢; exact hdg) (by omega)
    · unfold w_Mo_reference_78
      simp (discharger := omega) only [nI_leI]
      exact ⟨fun _ => h177 (hstop (Or.inl (by omega))), fun c => absurd (by omega) c⟩
  · rintro n x1 x2 x3 m' ⟨rfl, rfl, rfl, hn35, L, rfl, hLt, hn, hrun⟩
    have hself : ∃ x, m' = mI m' 51 x := ⟨_, (mI_self m' 51).symm⟩
    have hno : numR T i t = none := by
      unfold numR
      refine if_neg (fun z => ?_)
      by_cases h2 : i + 1 < t
      · exact hn35 h2 z.1
      · have h3 : i + 2 ≤ hxS (hxB T i) i := by unfold hxS; split <;> omega
        have := dgR_ge T t (hxB T i) (hxM (hxB T i)) (hxS (hxB T i) i) 0
        omega
    have href : refR T i t = nameR T i t := by unfold refR; rw [hno]
    have h305 : ¬ (i + 1 + L < t ∧ alN (tA T (i + 1 + L))) → w_Mo_reference_305 X (nI (i + δ)) (nI (t + δ)) (nI (i + 1 + L + δ)) m' (iP N) := by
      intro hend
      have hE := nameR_eq hrun hend
      unfold w_Mo_reference_305 w_Mo_reference_321 w_Mo_reference_355
      simp (discharger := omega) only [nI_leI, vp_nI, nI_clamp, sh1]
      refine ⟨fun c1 => hz ?_ _ hself, fun c1 => ⟨by omega, fun c2 => ?_, fun c2 => hz ?_ _ hself⟩⟩
      · rw [href, hE, if_neg (fun z => by omega)]
      · rw [hv _ (by omega) (by omega)] at c2
        have hsub : nI (i + 1 + L + δ) - nI (i + δ) - 1 = nI L := by
          rw [pk_sub (by omega), show (1 : Int32) = nI 1 from rfl, pk_sub (by omega)]
          congr 1
          omega
        rw [hsub]
        refine d_Mo_named F hC hP0 hf (by omega) hrun ?_
        intro m2 e2
        have hV : nmV (pkW T i (min L 4)) L ≤ 160 := by unfold nmV; (repeat' split) <;> omega
        have e51 : m2.1 51 = nI (nmV (pkW T i (min L 4)) L) := by rw [e2, mI_at]
        rw [e51]
        simp (discharger := omega) only [lit_leJ]
        refine ⟨fun c3 => hz ?_ _ ⟨_, e2⟩, fun c3 => ?_⟩
        · rw [href, hE, if_neg (fun z => by omega)]
        · have hsub2 : nI (i + 1 + L + 1 + δ) - nI (i + δ) = nI (i + 1 + L + 1 - i) := by
            rw [pk_sub (by omega)]
            congr 1
            omega
          rw [hsub2, e2]
          exact iP.i (h1 _ _ (by rw [href, hE, if_pos ⟨by omega, c2, by omega⟩]) (by omega) (by omega)) rfl
      · rw [hv _ (by omega) (by omega)] at c2
        rw [href, hE, if_neg (fun z => c2 z.2.1)]
    by_cases hlt : i + 1 + L < t
    · have hvk := hv (i + 1 + L) (by omega) (by omega)
      unfold w_Mo_reference_270 w_Mo_reference_299
      simp (discharger := omega) only [nI_leI, vp_nI, nI_clamp, hvk, sh1]
      have hgo : alN (tA T (i + 1 + L)) → ∃ j, j < n ∧ m' = m' ∧ nI (i + δ) = nI (i + δ) ∧ nI (t + δ) = nI (t + δ) ∧ (i + 1 < t → ¬ tA T (i + 1) = 35) ∧ ∃ L', nI (i + 1 + L + 1 + δ) = nI (i + 1 + L' + δ) ∧ i + 1 + L' ≤ t ∧ j + L' = t ∧ ∀ j, j < L' → alN (tA T (i + 1 + j)) := by
        intro ha
        refine ⟨n - 1, by omega, rfl, rfl, rfl, hn35, L + 1, rfl, by omega, by omega, fun j hj => ?_⟩
        by_cases e : j = L
        · subst e; exact ha
        · exact hrun j (by omega)
      refine ⟨fun c => absurd c (by omega), fun _ => ⟨by omega, d_Mo_isLetter F ⟨fun c1 => ⟨by omega, ?_⟩, fun c1 => ?_⟩⟩⟩
      · rw [hvk]
        refine d_Mo_isDigit F ⟨fun c2 => h305 (fun z => z.2.elim (bI_0 c1) (bI_0 c2)), fun c2 => ?_⟩
        have := hgo (Or.inr (bI_n0 c2))
        simpa using this
      · have := hgo (Or.inl (bI_n0 c1))
        simpa using this
    · unfold w_Mo_reference_270
      simp (discharger := omega) only [nI_leI]
      exact ⟨fun _ => h305 (fun z => hlt z.1), fun c => absurd (by omega) c⟩
end MOREF
