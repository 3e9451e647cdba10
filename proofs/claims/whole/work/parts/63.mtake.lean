/-- what taking definitions from block b may change -/
def TdR (m m' : MS) (b P : Nat) : Prop := (∀ k, k ≠ 10 → k ≠ 40 → ¬ (47 ≤ k ∧ k ≤ 51) → m'.1 k = m.1 k) ∧ (∀ k i, k ≠ 7 → ¬ (41 ≤ k ∧ k ≤ 46) → ¬ ((k = 18 ∨ k = 19) ∧ i = b) → m'.2 k i = m.2 k i) ∧ ∀ i, i < P → m'.2 7 i = m.2 7 i
theorem TdR.rfl {m : MS} {b P : Nat} : TdR m m b P := ⟨fun _ _ _ _ => _root_.rfl, fun _ _ _ _ _ => _root_.rfl, fun _ _ => _root_.rfl⟩
theorem TdR.s {m m' m2 : MS} {b P P1 e : Nat} (h : TdR m m' b P) (h2 : TdS m' m2 e P1) (hP : P ≤ P1) : TdR m m2 b P := ⟨fun k q1 q2 q3 => (h2.1 k q1 q2 q3).trans (h.1 k q1 q2 q3), fun k i q1 q2 q3 => (h2.2.1 k i q1 (fun z => q2 ⟨z.1, z.2.1⟩)).trans (h.2.1 k i q1 q2 q3), fun i hi => (h2.2.2 i (by omega)).trans (h.2.2 i hi)⟩
theorem TdR.a {m m' : MS} {b P k : Nat} (h : TdR m m' b P) (hk : k = 18 ∨ k = 19) (x : Int32) : TdR m (mA m' k b x) b P := ⟨h.1, fun j i q1 q2 q3 => by
  by_cases e : j = k
  · rw [mA_ni (fun z => q3 ⟨by omega, z⟩)]; exact h.2.1 j i q1 q2 q3
  · rw [mA_ne e]; exact h.2.1 j i q1 q2 q3, fun i hi => by rw [mA_ne (by omega)]; exact h.2.2 i hi⟩
theorem TdR.nm {m m' : MS} {b P : Nat} (h : TdR m m' b P) (hC : NmC m) : NmC m' := fun k hk => by
  rw [h.2.1 52 k (by decide) (by omega) (by omega), h.2.1 53 k (by decide) (by omega) (by omega)]
  exact hC k hk
theorem dfE_end {T : List Int32} (hl : T.length ≤ 16000) : dfE T T.length = none := by
  unfold dfE lbE
  rw [tA_out (by omega) (Nat.le_refl _), if_neg (by decide)]
theorem DsM.same {m m' : MS} {D : DL} {P P' : Nat} (h : DsM m D P) (h40 : m'.1 40 = m.1 40) (hk : ∀ j k, 41 ≤ j → j ≤ 46 → k < D.length → m'.2 j k = m.2 j k) (hp : ∀ i, i < P → m'.2 7 i = m.2 7 i) (hP : P ≤ P') : DsM m' D P' := by
  refine ⟨h40.trans h.1, fun k hk' => ?_⟩
  obtain ⟨p, q, r, ⟨a1, a2, a3, a4⟩, ⟨b1, b2, b3, b4⟩, ⟨c1, c2, c3, c4⟩⟩ := h.2 k hk'
  exact ⟨p, q, r, ⟨(hk 41 k (by decide) (by decide) hk').trans a1, (hk 42 k (by decide) (by decide) hk').trans a2, a3.keep a4 hp, by omega⟩, ⟨(hk 43 k (by decide) (by decide) hk').trans b1, (hk 44 k (by decide) (by decide) hk').trans b2, b3.keep b4 hp, by omega⟩, ⟨(hk 45 k (by decide) (by decide) hk').trans c1, (hk 46 k (by decide) (by decide) hk').trans c2, c3.keep c4 hp, by omega⟩⟩
def TkI (m : MS) (T : List Int32) (f0 δ P0 b : Nat) (D0 : DL) (n : Nat) (x1 x2 : Int32) (m' : MS) : Prop := x1 = nI b ∧ TdR m m' b P0 ∧ ∃ (f P : Nat) (D : DL), f0 ≤ f ∧ f ≤ T.length ∧ 2 * (T.length - f) + (if x2 = 0 then 0 else 1) = n ∧ m'.2 18 b = nI (f + δ) ∧ m'.2 19 b = nI (T.length - f) ∧ m'.1 10 = nI P ∧ P0 ≤ P ∧ P + f0 ≤ P0 + f ∧ DsM m' D P ∧ 5 * D.length ≤ nsP T f ∧ tkD T f D = tkD T f0 D0 ∧ (x2 = 1 ∨ (x2 = 0 ∧ dfE T f = none))
section MOTAKE
variable {X : MX} {a0 : Array Value} {m : MS} {N : Int32 → MS → Prop} {M : MS → Prop}
theorem dA_app1 {D : DL} {d : List Int32 × List Int32 × List Int32} {k : Nat} (h : k < D.length) : dA (D ++ [d]) k = dA D k := by
  unfold dA
  rw [List.getD_eq_getElem?_getD, List.getD_eq_getElem?_getD, List.getElem?_append_left h]
theorem dA_app2 {D : DL} {d : List Int32 × List Int32 × List Int32} : dA (D ++ [d]) D.length = d := by
  unfold dA
  rw [List.getD_eq_getElem?_getD, List.getElem?_append_right (Nat.le_refl _), Nat.sub_self]
  rfl
theorem d_Mo_takeDefinitions (F : mF X a0) (hC : NmC m) {T : List Int32} {f0 δ P0 b : Nat} {D0 : DL} (hb : b < 3300) (hP : PlI m T f0 δ) (hl : T.length ≤ 12010) (hf0 : f0 ≤ T.length) (h18 : m.2 18 b = nI (f0 + δ)) (h19 : m.2 19 b = nI (T.length - f0)) (h10 : m.1 10 = nI P0) (hPl : T.length + δ ≤ P0) (hPb : P0 + (T.length - f0) ≤ 40000) (hD : DsM m D0 P0) (hns : 5 * D0.length ≤ nsP T f0) (hn3 : nsP T T.length ≤ 3000) (h : ∀ m' P, TdR m m' b P0 → m'.2 18 b = nI ((tkD T f0 D0).1 + δ) → m'.2 19 b = nI (T.length - (tkD T f0 D0).1) → m'.1 10 = nI P → P0 ≤ P → P + f0 ≤ P0 + (tkD T f0 D0).1 → DsM m' (tkD T f0 D0).2 P → f0 ≤ (tkD T f0 D0).1 → (tkD T f0 D0).1 ≤ T.length → 5 * (tkD T f0 D0).2.length ≤ nsP T (tkD T f0 D0).1 → M m') : mE X 4 y_Mo_takeDefinitions [.ref (mo X), .int (nI b)] m (vP M) := by
  refine g_Mo_takeDefinitions (I2 := fun n x1 x2 m' => TkI m T f0 δ P0 b D0 n x1 x2 m') F ?_ ?_
  · exact ⟨_, rfl, TdR.rfl, f0, P0, D0, Nat.le_refl _, hf0, rfl, h18, h19, h10, Nat.le_refl _, by omega, hD, hns, rfl, Or.inl rfl⟩
  · rintro n x1 x2 m' ⟨rfl, hR, f, P, D, hff, hfT, hn, e18, e19, e10, hPP, hPf, hDs, hns', e, hx⟩
    have hexit : dfE T f = none → vP M none m' := by
      intro q
      rw [tkD_none q] at e
      rw [← e] at h
      exact vP.v (h m' P hR e18 e19 e10 hPP hPf hDs hff hfT hns') rfl
    have hD6 : D.length ≤ 600 := by
      have := nsP_mono (T := T) hfT
      omega
    have hP0 : PlI m' T f0 δ := ⟨fun k q1 q2 => (hR.2.2 _ (by omega)).trans (hP.1 k q1 q2), hP.2⟩
    have hP' : PlI m' T f δ := hP0.up hff
    have hC' := hR.nm hC
    rcases hx with rfl | ⟨rfl, hxn⟩
    · simp (discharger := omega) only [w_Mo_takeDefinitions_2, w_Mo_takeDefinitions_237, vp_nI, nI_clamp, e18, e19, lit_leJ, nI_add]
      refine ⟨fun z => absurd z (by decide), fun _ => ⟨hb, fun c1 => hexit ?_, fun c1 => ⟨hb, hb, ?_⟩⟩⟩
      · have : f = T.length := by omega
        rw [this]
        exact dfE_end (by omega)
      rw [show f + δ + (T.length - f) = T.length + δ by omega]
      refine d_Mo_definitionEnd F hP' hfT (fun q m1 hR1 => ⟨fun _ => ⟨fun _ => ⟨2 * (T.length - f), ?_, rfl, hR.s (TdS.rfl.df hR1 : TdS m' m1 0 P0) (Nat.le_refl _), f, P, D, hff, hfT, by simp, ?_, ?_, ?_, hPP, hPf, ?_, hns', e, Or.inr ⟨rfl, q⟩⟩, fun z => absurd rfl z⟩, fun z => absurd (by decide) z⟩) (fun k tf tt sf st l q hbd m1 hR1 e47 e48 e50 e49 => ⟨fun z => absurd z (nI_lt0 (by omega)), fun _ => ⟨fun z => absurd z (by decide), fun _ => ?_⟩⟩)
      · simp at hn
        omega
      · rw [hR1.1]; exact e18
      · rw [hR1.1]; exact e19
      · rw [hR1.2 10 (by omega)]; exact e10
      · exact hDs.same (hR1.2 40 (by omega)) (fun j k _ _ _ => by rw [hR1.1]) (fun i _ => by rw [hR1.1]) (Nat.le_refl _)
      · -- one definition
        have hdb := (dfE_bd (by omega) q).1
        have hnx := nxL_bd (T := T) (l := l) (by omega)
        have hlab : lbE T f = some k := by
          unfold dfE at q
          cases hb' : lbE T f with
          | none => rw [hb'] at q; cases q
          | some k' =>
            rw [hb'] at q
            simp only at q
            split at q
            · cases ht : tgE T (gpF T (k' + 2) false) with
              | none => rw [ht] at q; cases q
              | some r =>
                obtain ⟨tf', tt', b'⟩ := r
                rw [ht] at q
                replace q : dfS T k' tf' tt' b' (gpF T b' false) = some (k, tf, tt, sf, st, l) := q
                have hdf : ∀ z, dfT T k' tf' tt' b' = some z → z.1 = k' := by
                  intro z hz
                  unfold dfT at hz
                  cases hln : lnF T b' with
                  | none => rw [hln] at hz; cases hz
                  | some l' => rw [hln] at hz; cases hz; rfl
                unfold dfS at q
                cases htl : (if b' < gpF T b' false then tlE T (gpF T b' false) else none) with
                | none => rw [htl] at q; have := hdf _ q; exact congrArg some this.symm
                | some e' =>
                  rw [htl] at q
                  simp only at q
                  cases hln : lnF T (e' + 1) with
                  | none => rw [hln] at q; have := hdf _ q; exact congrArg some this.symm
                  | some l' => rw [hln] at q; simp only [Option.some.injEq, Prod.mk.injEq] at q; rw [q.1]
            · cases q
        have hP1 := hR1.pl hP'
        have hnl := nrm_len (sl T (f + 1) k) false false
        rw [sl_len (by omega)] at hnl
        simp at hnl
        have hul := uneF_len T tt tf
        have hus := uneF_len T st sf
        generalize hLE : nrm (sl T (f + 1) k) false false = L at *
        generalize hUE : uneF T tt tf = U at *
        generalize hVE : uneF T st sf = V at *
        have g10 : m1.1 10 = nI P := by rw [hR1.2 10 (by omega)]; exact e10
        have g40 : m1.1 40 = nI D.length := by rw [hR1.2 40 (by omega)]; exact hDs.1
        have S1 : TdS m' m1 D.length P := TdS.rfl.df hR1
        refine d_Mo_labelEnd F hP1 hfT (fun z => by rw [hlab] at z; cases z) (fun k2 z hk2 hk3 => ?_)
        rw [hlab] at z
        cases z
        have hmany : nI (k + 1 + δ) - 1 - nI (f + δ) - 1 = nI (sl T (f + 1) k).length := by
          rw [sl_len (by omega), show (1 : Int32) = nI 1 from rfl, pk_sub (by omega), pk_sub (by omega), pk_sub (by omega)]
          congr 1
          omega
        simp (discharger := omega) only [g40, vp_nI, nI_clamp]
        rw [sh1, hmany, g10]
        refine ⟨by omega, fun m2 em2 => ?_⟩
        have S2 : TdS m' m2 D.length P := by rw [em2]; exact S1.a (by decide) _
        have hPo2 : PoolL m2 (f + 1 + δ) (sl T (f + 1) k) := pool_sl (S2.pl hP' (by omega)) (by omega) (by omega)
        have g10_2 : m2.1 10 = nI P := by rw [em2]; exact g10
        refine d_Mo_normal F hPo2 g10_2 (by rw [sl_len (by omega)]; omega) (by rw [sl_len (by omega)]; omega) ?_
        rw [hLE]
        refine ⟨by omega, fun m4 em4 => ⟨by omega, fun m5 em5 => ?_⟩⟩
        have S4 : TdS m' m4 D.length P := by rw [em4]; exact (S2.x (Nat.le_refl _)).a (by decide) _
        have g10_4 : m4.1 10 = nI (P + L.length) := by rw [em4]; exact extF_10 (m := m2)
        have S5 : TdS m' m5 D.length P := by rw [em5]; exact S4.a (by decide) _
        have g10_5 : m5.1 10 = nI (P + L.length) := by rw [em5]; exact g10_4
        have i5 : ∀ j, 47 ≤ j → j ≤ 50 → m5.1 j = m1.1 j := fun j q1 q2 => by
          rw [em5, em4]
          show (extF m2 P L).1 j = _
          rw [extF_i (by omega), em2]
          rfl
        have e47' : m5.1 47 = nI (tf + δ) := by rw [i5 47 (by decide) (by decide)]; exact e47
        have e48' : m5.1 48 = nI (tt - tf) := by rw [i5 48 (by decide) (by decide)]; exact e48
        rw [e47', e48']
        refine d_Mo_unescape F (S5.nm hC') (S5.pl hP' (by omega)) (by omega) (by omega) (by omega) g10_5 (by omega) (by omega) (fun x => ?_)
        rw [hUE]
        refine ⟨by omega, fun m7 em7 => ⟨by omega, fun m8 em8 => ?_⟩⟩
        have S7 : TdS m' m7 D.length P := by rw [em7]; exact ((S5.i (by omega) x).x (by omega)).a (by decide) _
        have g10_7 : m7.1 10 = nI (P + L.length + U.length) := by rw [em7]; exact extF_10 (m := mI m5 51 x)
        have S8 : TdS m' m8 D.length P := by rw [em8]; exact S7.a (by decide) _
        have g10_8 : m8.1 10 = nI (P + L.length + U.length) := by rw [em8]; exact g10_7
        have i8 : ∀ j, 47 ≤ j → j ≤ 50 → m8.1 j = m1.1 j := fun j q1 q2 => by
          rw [em8, em7]
          show (extF (mI m5 51 x) (P + L.length) U).1 j = _
          rw [extF_i (by omega), mI_ne (by omega), i5 j q1 q2]
        have i8' : m8.1 40 = nI D.length := by
          rw [em8, em7]
          show (extF (mI m5 51 x) (P + L.length) U).1 40 = _
          rw [extF_i (by decide), mI_ne (by decide), em5, em4]
          show (extF m2 P L).1 40 = _
          rw [extF_i (by decide), em2]
          exact g40
        -- what the tables hold by now
        have a41 : m8.2 41 D.length = nI P := by
          rw [em8, mA_ne (by decide), em7, mA_ne (by decide), extF_k (by decide)]
          show m5.2 41 D.length = _
          rw [em5, mA_ne (by decide), em4, mA_ne (by decide), extF_k (by decide), em2, mA_at]
        have a42 : m8.2 42 D.length = nI L.length := by
          rw [em8, mA_ne (by decide), em7, mA_ne (by decide), extF_k (by decide)]
          show m5.2 42 D.length = _
          rw [em5, mA_ne (by decide), em4, mA_at]
        have a43 : m8.2 43 D.length = nI (P + L.length) := by
          rw [em8, mA_ne (by decide), em7, mA_ne (by decide), extF_k (by decide)]
          show m5.2 43 D.length = _
          rw [em5, mA_at]
          exact g10_4
        have a44 : m8.2 44 D.length = nI U.length := by rw [em8, mA_ne (by decide), em7, mA_at]
        have a45 : m8.2 45 D.length = nI (P + L.length + U.length) := by rw [em8, mA_at]; exact g10_7
        have pL : PoolL m8 P L := by
          intro i hi
          rw [em8, mA_ne (by decide), em7, mA_ne (by decide), extF_at (by omega)]
          show m5.2 7 (i + P) = _
          rw [em5, mA_ne (by decide), em4, mA_ne (by decide), extF_in hi]
        have pU : PoolL m8 (P + L.length) U := by
          intro i hi
          rw [em8, mA_ne (by decide), em7, mA_ne (by decide), extF_in hi]
        -- the end of the turn
        have h177 : ∀ (m9 : MS) (s2 x5 x6 : Int32), TdS m' m9 D.length P → m9.1 10 = nI (P + L.length + U.length + V.length) → m9.1 40 = nI D.length → (∀ j, 41 ≤ j → j ≤ 45 → m9.2 j D.length = m8.2 j D.length) → (∀ i, i < P + L.length + U.length → m9.2 7 i = m8.2 7 i) → PoolL m9 (P + L.length + U.length) V → s2 = nI V.length → w_Mo_takeDefinitions_177 X (nI b) 1 x5 (nI (T.length + δ)) (nI (l + δ)) x6 (nI D.length) (nI D.length) s2 m9 (vP M) (fun x1 x2 m_1 => ∃ j, j < n ∧ TkI m T f0 δ P0 b D0 j x1 x2 m_1) := by
          intro m9 s2 x5 x6 S9 k10 k40 kt kp pV hs2
          unfold w_Mo_takeDefinitions_177
          simp (discharger := omega) only [vp_nI, nI_clamp]
          refine ⟨by omega, fun m10 em10 => ?_⟩
          have S10 : TdS m' m10 D.length P := by rw [em10]; exact S9.a (by decide) _
          have t10 : ∀ j, 41 ≤ j → j ≤ 45 → m10.2 j D.length = m8.2 j D.length := fun j q1 q2 => by rw [em10, mA_ne (by omega)]; exact kt j q1 q2
          have p10 : ∀ i, i < P + L.length + U.length → m10.2 7 i = m8.2 7 i := fun i hi => by rw [em10, mA_ne (by decide)]; exact kp i hi
          have pV10 : PoolL m10 (P + L.length + U.length) V := fun i hi => by rw [em10, mA_ne (by decide)]; exact pV i hi
          have hEn : EnM m10 D.length (L, U, V) (P + L.length + U.length + V.length) := ⟨P, P + L.length, P + L.length + U.length, ⟨(t10 41 (by decide) (by decide)).trans a41, (t10 42 (by decide) (by decide)).trans a42, pL.keep (by omega) p10, by show P + L.length ≤ _; omega⟩, ⟨(t10 43 (by decide) (by decide)).trans a43, (t10 44 (by decide) (by decide)).trans a44, pU.keep (by omega) p10, by show P + L.length + U.length ≤ _; omega⟩, ⟨(t10 45 (by decide) (by decide)).trans a45, by rw [em10, mA_at]; exact hs2, pV10, Nat.le_refl _⟩⟩
          have hold : ∀ k, k < D.length → EnM m10 k (dA D k) (P + L.length + U.length + V.length) := fun k hk => (hDs.2 k hk).keep S10 (by omega) (by omega)
          have hlb : ∀ k d, EnM m10 k d (P + L.length + U.length + V.length) → LbM m10 k d.1 := by
            rintro k d ⟨p, _, _, ⟨z1, z2, z3, z4⟩, _⟩
            exact ⟨p, z1, z2, z3, by omega⟩
          have f10 : m10.1 10 = nI (P + L.length + U.length + V.length) := by rw [em10]; exact k10
          have f40 : m10.1 40 = nI D.length := by rw [em10]; exact k40
          -- writing the block's new beginning
          have h198 : ∀ (m11 : MS) (D' : DL), TdS m' m11 D.length P → m11.1 10 = nI (P + L.length + U.length + V.length) → DsM m11 D' (P + L.length + U.length + V.length) → D' = adD D (L, U, V) → w_Mo_takeDefinitions_198 X (nI b) 1 x5 (nI (T.length + δ)) (nI (l + δ)) x6 (nI D.length) m11 (vP M) (fun x1 x2 m_1 => ∃ j, j < n ∧ TkI m T f0 δ P0 b D0 j x1 x2 m_1) := by
            intro m11 D' S11 y10 yD yE
            have hsum : ∀ s1 : Int32, nI (l + δ) + s1 = nI (nxL T l + δ) → w_Mo_takeDefinitions_212 X (nI b) 1 x5 (nI (T.length + δ)) (nI (l + δ)) x6 (nI D.length) (nI (l + δ)) s1 m11 (vP M) (fun x1 x2 m_1 => ∃ j, j < n ∧ TkI m T f0 δ P0 b D0 j x1 x2 m_1) := by
              intro s1 hs1
              unfold w_Mo_takeDefinitions_212
              rw [hs1]
              simp (discharger := omega) only [vp_nI, nI_clamp]
              refine ⟨hb, fun m12 e12 => ⟨hb, fun m13 e13 => ?_⟩⟩
              have hm13 : ∀ j i, j ≠ 18 → j ≠ 19 → m13.2 j i = m11.2 j i := fun j i q1 q2 => by rw [e13, mA_ne q2, e12, mA_ne q1]
              have hi13 : m13.1 = m11.1 := by rw [e13, e12]; rfl
              have hal := adD_len D (L, U, V)
              have hsub : nI (T.length + δ) - nI (nxL T l + δ) = nI (T.length - nxL T l) := by
                rw [pk_sub (by omega)]
                congr 1
                omega
              refine ⟨2 * (T.length - nxL T l) + 1, ?_, rfl, ?_, nxL T l, P + L.length + U.length + V.length, D', by omega, hnx.2, by simp, ?_, ?_, ?_, by omega, ?_, ?_, ?_, ?_, Or.inl rfl⟩
              · simp at hn
                omega
              · rw [e13, e12]
                exact ((hR.s S11 (by omega)).a (Or.inl rfl) _).a (Or.inr rfl) _
              · rw [e13, mA_ne (by decide), e12, mA_at]
              · rw [e13, mA_at, hsub]
              · rw [hi13]; exact y10
              · have : L.length + U.length + V.length ≤ nxL T l - f := by omega
                omega
              · exact yD.same (by rw [hi13]) (fun j k q1 q2 _ => hm13 j k (by omega) (by omega)) (fun i _ => hm13 7 i (by decide) (by decide)) (Nat.le_refl _)
              · have := dfE_ns (by omega) q
                rw [yE]
                omega
              · rw [← e, tkD_some (by omega) q, hLE, hUE, hVE, yE]
            unfold w_Mo_takeDefinitions_198
            simp (discharger := omega) only [nI_leI]
            refine ⟨fun c => hsum 0 ?_, fun c => hsum 1 ?_⟩
            · rw [show (0 : Int32) = nI 0 from rfl, nI_add]
              unfold nxL
              rw [if_neg (by omega)]
              rfl
            · rw [sh1]
              unfold nxL
              rw [if_pos (by omega)]
          refine d_Mo_earlier F (by omega) (fun k hk => hlb k _ (hold k hk)) (hlb _ _ hEn) (fun z => ⟨fun _ => ?_, fun y => absurd rfl y⟩) (fun k hk z => ⟨fun y => absurd y (nI_nm1 (by omega)), fun _ => ?_⟩)
          · intro m11 e11
            have hadd : adD D (L, U, V) = D ++ [(L, U, V)] := by
              unfold adD
              refine if_neg (fun z2 => ?_)
              obtain ⟨j, hj, hz⟩ := z2
              exact z j hj hz
            refine h198 m11 (D ++ [(L, U, V)]) (by rw [e11]; exact S10.i (Or.inl rfl) _) (by rw [e11, mI_ne (by decide)]; exact f10) ⟨?_, fun k hk => ?_⟩ hadd.symm
            · rw [e11, mI_at, f40, nI_1]
              congr 1
              simp
            · have hm : ∀ d, EnM m10 k d (P + L.length + U.length + V.length) → EnM m11 k d (P + L.length + U.length + V.length) := by
                intro d hd
                rw [e11]
                exact hd
              by_cases hkD : k < D.length
              · rw [dA_app1 hkD]
                exact hm _ (hold k hkD)
              · have : k = D.length := by simp at hk; omega
                subst this
                rw [dA_app2]
                exact hm _ hEn
          · have hadd : adD D (L, U, V) = D := by unfold adD; exact if_pos ⟨k, hk, z⟩
            exact h198 m10 D S10 f10 ⟨f40, hold⟩ hadd.symm
        rw [i8 50 (by decide) (by decide), e50]
        simp (discharger := omega) only [lit_eqJ]
        refine ⟨fun c => ?_, fun c => ?_⟩
        · have hV : V = [] := by
            apply List.eq_nil_of_length_eq_zero
            omega
          subst hV
          exact h177 m8 0 _ _ S8 g10_8 i8' (fun _ _ _ => rfl) (fun _ _ => rfl) (fun i hi => absurd hi (by simp)) rfl
        · rw [i8 49 (by decide) (by decide)]
          rcases e49 with e49 | e49
          · omega
          rw [e49.2]
          refine d_Mo_unescape F (S8.nm hC') (S8.pl hP' (by omega)) (by omega) (by omega) (by omega) g10_8 (by omega) (by omega) (fun y => ?_)
          rw [hVE]
          refine h177 _ _ _ _ ((S8.i (by omega) y).x (by omega)) ?_ ?_ (fun j q1 q2 => extF_k (by omega)) (fun i hi => extF_at hi) (fun i hi => extF_in hi) rfl
          · exact extF_10
          · rw [extF_i (by decide), mI_ne (by decide)]
            exact i8'
    · unfold w_Mo_takeDefinitions_2 w_Mo_takeDefinitions_237
      exact ⟨fun _ => hexit hxn, fun z => absurd rfl z⟩
end MOTAKE
