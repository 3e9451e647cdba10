/-! which lists are loose: class and model -/
/-- what stays as it is: counts, places, kinds, holders, first lines -/
def Stc (bf : Nat → Nat → Int32) (m : MS) (μ : Nat → Nat) (c B : Nat) : Prop := (1 ≤ c ∧ B ≤ 3250 ∧ m.1 28 = nI B ∧ μ 0 = 0) ∧ (∀ i j, i < j → j < c → μ i < μ j) ∧ (∀ i, i < c → μ i < B) ∧ (∀ j, j < B → (m.2 26 j = 0 ∧ ∃ i, i < c ∧ μ i = j) ∨ (m.2 26 j = 1 ∧ ∀ i, i < c → μ i ≠ j)) ∧ (∀ i, 0 < i → i < c → ∃ u, u < i ∧ bf i 2 = nI u ∧ m.2 14 (μ i) = nI (μ u) ∧ (bf i 0 = 3 → bf u 0 = 2)) ∧ (∀ i, i < c → ∃ k, k ≤ 7 ∧ bf i 0 = nI k ∧ m.2 13 (μ i) = nI k ∧ (k = 0 ↔ i = 0)) ∧ (∀ i, i < c → ∃ a, a ≤ 3001 ∧ bf i 9 = nI a ∧ m.2 16 (μ i) = nI a)
def D17 (m : MS) (μ : Nat → Nat) (c : Nat) (bf : Nat → Nat → Int32) : Prop := ∀ i, i < c → ∃ b, b ≤ 3001 ∧ bf i 10 = nI b ∧ m.2 17 (μ i) = nI b
def D27 (m : MS) (μ : Nat → Nat) (c : Nat) (bf : Nat → Nat → Int32) : Prop := ∀ i, i < c → bf i 4 = m.2 27 (μ i) ∧ (bf i 4 = 0 ∨ bf i 4 = 1)
def FrF (m m' : MS) : Prop := m'.1 = m.1 ∧ ∀ k i, k ≠ 17 → k ≠ 27 → m'.2 k i = m.2 k i
/-- the last child so far -/
def Lat (bf : Nat → Nat → Int32) (c k : Nat) (bf' : Nat → Nat → Int32) : Prop := ∀ i, i < c → (bf' i 13 = -1 ∧ ∀ w, 0 < w → w < k → bf w 2 ≠ nI i) ∨ ∃ w, 0 < w ∧ w < k ∧ bf' i 13 = nI w ∧ bf w 2 = nI i ∧ ∀ w', w < w' → w' < k → bf w' 2 ≠ nI i
def F74 (m : MS) (bf : Nat → Nat → Int32) (μ : Nat → Nat) (c B : Nat) (R : Nat → Nat → Int32) (j k : Nat) (bf' : Nat → Nat → Int32) (m' : MS) : Prop := 1 ≤ j ∧ j ≤ B ∧ 1 ≤ k ∧ k ≤ c ∧ (∀ i, i < k → μ i < j) ∧ (k < c → j ≤ μ k) ∧ R = fin2 (c - k) k bf' ∧ (∀ i q, q ≠ 10 → q ≠ 4 → q ≠ 13 → bf' i q = bf i q) ∧ D17 m' μ c bf' ∧ D27 m' μ c bf' ∧ Lat bf c k bf' ∧ FrF m m'
theorem sub_gt {a b : Nat} (ha : a ≤ 3001) (hb : b ≤ 3001) : (1 : Int32) < nI a - nI b ↔ b + 1 < a := by
  rw [Int32.lt_iff_toInt_lt, Int32.toInt_sub, nI_toInt (by omega), nI_toInt (by omega)]
  rw [Int.bmod_eq_of_le (by omega) (by omega)]
  show (1 : Int) < _ ↔ _
  omega
section LOOSE
variable {Y : MX} {a1 : Array Value} {m : MS} {bf : Nat → Nat → Int32} {μ : Nat → Nat} {c B : Nat}
theorem Stc.inj (h : Stc bf m μ c B) {i j : Nat} (hi : i < c) (hj : j < c) (e : μ i = μ j) : i = j := by
  rcases Nat.lt_trichotomy i j with z | z | z
  · have := h.2.1 i j z hj; omega
  · exact z
  · have := h.2.1 j i z hi; omega
theorem Stc.pos (h : Stc bf m μ c B) {i : Nat} (hi : i < c) (h0 : 0 < i) : 0 < μ i := by
  have := h.2.1 0 i h0 hi
  omega
theorem Stc.cle (h : Stc bf m μ c B) : c ≤ B := by
  have hh : ∀ i, i < c → i ≤ μ i := by
    intro i
    induction i with
    | zero => intro _; exact Nat.zero_le _
    | succ i ih =>
      intro h0
      have h1 := ih (by omega)
      have h2 := h.2.1 i (i + 1) (by omega) h0
      omega
  have h0 := h.1.1
  have h1 := hh (c - 1) (by omega)
  have h2 := h.2.2.1 (c - 1) (by omega)
  omega
/-- the block k is done -/
theorem F74.next (hS : Stc bf m μ c B) {R bf' : Nat → Nat → Int32} {j k u : Nat} {m' m2 : MS} (hF : F74 m bf μ c B R j k bf' m') (hk : k < c) (hj : μ k = j) (hu : bf k 2 = nI u) (huk : u < k) (h17 : ∀ i, m2.2 17 i = m'.2 17 i) (h27 : D27 m2 μ c (gapF bf' k u)) (hFr : FrF m' m2) : F74 m bf μ c B R (j + 1) (k + 1) (upd2 (gapF bf' k u) u 13 (nI k)) m2 := by
  obtain ⟨f1, f2, f3, f4, f5, f6, f7, f8, f9, f10, f11, f12⟩ := hF
  have hc := hS.1.2.1
  have hcB := hS.2.2.1 k hk
  have hcl := hS.cle
  have hg : ∀ a q, q ≠ 4 → q ≠ 13 → upd2 (gapF bf' k u) u 13 (nI k) a q = bf' a q := fun a q z1 z2 => by rw [upd2_k z2, gapF_k z1]
  refine ⟨by omega, by omega, by omega, by omega, fun i hi => ?_, fun h => ?_, ?_, fun i q z1 z2 z3 => by rw [hg i q z2 z3]; exact f8 i q z1 z2 z3, fun i hi => ?_, fun i hi => ?_, fun i hi => ?_, ⟨hFr.1.trans f12.1, fun q i z1 z2 => (hFr.2 q i z1 z2).trans (f12.2 q i z1 z2)⟩⟩
  · by_cases e : i = k
    · rw [e]; omega
    · have := f5 i (by omega); omega
  · have := hS.2.1 k (k + 1) (by omega) h
    omega
  · rw [f7, show c - k = (c - (k + 1)) + 1 by omega]
    show fin2 (c - (k + 1)) (k + 1) (upd2 (gapF bf' k (bf' k 2).toNatClampNeg) (bf' k 2).toNatClampNeg 13 (nI k)) = _
    rw [f8 k 2 (by decide) (by decide) (by decide), hu, nI_clamp (by omega)]
  · obtain ⟨b, b1, b2, b3⟩ := f9 i hi
    exact ⟨b, b1, by rw [hg i 10 (by decide) (by decide)]; exact b2, by rw [h17]; exact b3⟩
  · rw [upd2_k (by decide)]
    exact h27 i hi
  · by_cases e : i = u
    · right
      refine ⟨k, by omega, by omega, by rw [e]; exact upd2_at _ _ _ _, by rw [e]; exact hu, fun w' z1 z2 => by omega⟩
    · have hne : bf k 2 ≠ nI i := by
        rw [hu]
        intro z
        exact e ((nI_eq (by omega) (by omega)).mp z).symm
      rw [upd2_i e, gapF_k (by decide)]
      rcases f11 i hi with ⟨z1, z2⟩ | ⟨w, z1, z2, z3, z4, z5⟩
      · left
        refine ⟨z1, fun w y1 y2 => ?_⟩
        by_cases q : w = k
        · rw [q]; exact hne
        · exact z2 w y1 (by omega)
      · right
        refine ⟨w, z1, by omega, z3, z4, fun w' y1 y2 => ?_⟩
        by_cases q : w' = k
        · rw [q]; exact hne
        · exact z5 w' y1 (by omega)
theorem FrF.rfl {m : MS} : FrF m m := ⟨_root_.rfl, fun _ _ _ _ => _root_.rfl⟩
theorem Stc.fr (h : Stc bf m μ c B) {m' : MS} (hF : FrF m m') : m'.1 28 = nI B ∧ (∀ j, m'.2 26 j = m.2 26 j) ∧ (∀ j, m'.2 14 j = m.2 14 j) ∧ (∀ j, m'.2 13 j = m.2 13 j) ∧ (∀ j, m'.2 16 j = m.2 16 j) := ⟨by rw [hF.1]; exact h.1.2.2.1, fun j => hF.2 26 j (by decide) (by decide), fun j => hF.2 14 j (by decide) (by decide), fun j => hF.2 13 j (by decide) (by decide), fun j => hF.2 16 j (by decide) (by decide)⟩
/-- nothing to set -/
theorem D27.no {bf' : Nat → Nat → Int32} {k u : Nat} {m' : MS} (h : D27 m' μ c bf') (hn : ¬ (¬ bf' u 13 < 0 ∧ bf' (if bf' u 0 = 3 then (bf' u 2).toNatClampNeg else u) 0 = 2 ∧ 1 < bf' k 9 - bf' (bf' u 13).toNatClampNeg 10)) : D27 m' μ c (gapF bf' k u) := by
  unfold gapF
  rw [if_neg hn]
  exact h
theorem d_findLoose (G : mF Y a1) (hS : Stc bf m μ c B) (h17 : D17 m μ c bf) (h27 : D27 m μ c bf) (h13 : ∀ i, i < c → bf i 13 = -1) {M : MS → Prop} (hM : ∀ m', FrF m m' → D17 m' μ c (fin2 (c - 1) 1 (fin1 (c - 1) bf)) → D27 m' μ c (fin2 (c - 1) 1 (fin1 (c - 1) bf)) → (∀ i q, q ≠ 10 → q ≠ 4 → q ≠ 13 → fin2 (c - 1) 1 (fin1 (c - 1) bf) i q = bf i q) → M m') : mE Y 0 y_Mo_findLoose [.ref (mo Y)] m (vP M) := by
  obtain ⟨⟨s1, s2, s3, s4⟩, s5, s6, s7, s8, s9, s10⟩ := hS
  have hS : Stc bf m μ c B := ⟨⟨s1, s2, s3, s4⟩, s5, s6, s7, s8, s9, s10⟩
  generalize hRR : fin2 (c - 1) 1 (fin1 (c - 1) bf) = R at *
  have hc : c ≤ 3250 := by have := hS.cle; omega
  refine g_Mo_findLoose (I7 := fun j x1 m' => ∃ k bf', x1 = nI j ∧ j < B ∧ k < c ∧ μ k ≤ j ∧ (∀ i, k < i → i < c → j < μ i) ∧ fin1 (c - 1) bf = fin1 k bf' ∧ (∀ i q, q ≠ 10 → bf' i q = bf i q) ∧ D17 m' μ c bf' ∧ m'.1 = m.1 ∧ (∀ k i, k ≠ 17 → m'.2 k i = m.2 k i)) (I74 := fun n x1 m' => ∃ j k bf', x1 = nI j ∧ n = (B - j) * 5000 + 4999 ∧ F74 m bf μ c B R j k bf' m') (I125 := fun n x1 x2 x3 m' => ∃ j k bf' u x, x1 = nI j ∧ n = (B - j) * 5000 + x ∧ F74 m bf μ c B R j k bf' m' ∧ k < c ∧ μ k = j ∧ bf k 2 = nI u ∧ u < k ∧ x2 = nI (μ u) ∧ x3 = nI x ∧ x < j ∧ (bf u 0 = 2 ∨ bf u 0 = 3) ∧ (∀ w, 0 < w → w < k → x < μ w → bf w 2 ≠ nI u)) G ?_ ?_ ?_ ?_
  · -- where it begins
    unfold w_Mo_findLoose_0
    obtain ⟨B', hB'⟩ : ∃ B', B = B' + 1 := ⟨B - 1, by have := s6 0 (by omega); omega⟩
    rw [s3, hB', nI_pred]
    exact ⟨B', c - 1, bf, rfl, by omega, by omega, by have := s6 (c - 1) (by omega); omega, fun i z1 z2 => by omega, rfl, fun _ _ _ => rfl, h17, rfl, fun _ _ _ => rfl⟩
  · -- the second loop
    rintro n x1 m' ⟨j, k, bf', rfl, hn, hF⟩
    have hF0 := hF
    obtain ⟨f1, f2, f3, f4, f5, f6, f7, f8, f9, f10, f11, f12⟩ := hF
    obtain ⟨g28, g26, g14, g13, g16⟩ := hS.fr f12
    unfold w_Mo_findLoose_74 w_Mo_findLoose_121 w_Mo_findLoose_209
    rw [g28, nI_leI (by omega) (by omega), vp_nI (by omega), nI_clamp (by omega), g26, g14]
    refine ⟨fun z => ?_, fun z => ⟨by omega, by omega, fun c1 => ?_, fun c1 => ?_⟩⟩
    · have ek : k = c := by
        apply Decidable.byContradiction
        intro q
        have h1 := f6 (by omega)
        have h2 := s6 k (by omega)
        omega
      have eR : R = bf' := by rw [f7, ek, Nat.sub_self]; rfl
      rw [eR] at hM
      exact ⟨rfl, hM m' f12 f9 f10 f8⟩
    · -- not gone: it is block k
      obtain ⟨i, hi, ei⟩ : ∃ i, i < c ∧ μ i = j := by
        rcases s7 j (by omega) with y | y
        · exact y.2
        · rw [y.1] at c1
          exact absurd c1 (by decide)
      have hik : i = k := by
        have h1 : ¬ i < k := fun y => by have := f5 i y; omega
        have h2 := f6 (by omega)
        apply Decidable.byContradiction
        intro q
        have := s5 k i (by omega) hi
        omega
      subst hik
      obtain ⟨u, u1, u2, u3, u4⟩ := s8 i (by omega) hi
      obtain ⟨ku, ku1, ku2, ku3, ku4⟩ := s9 u (by omega)
      have hμu := s6 u (by omega)
      rw [← ei, u3, vp_nI (by omega), nI_clamp (by omega), g13, ku3]
      have hgo : (bf u 0 = 2 ∨ bf u 0 = 3) → ∃ j' < n, ∃ j0 k0 bf0 u0 x0, nI (μ i) = nI j0 ∧ j' = (B - j0) * 5000 + x0 ∧ F74 m bf μ c B R j0 k0 bf0 m' ∧ k0 < c ∧ μ k0 = j0 ∧ bf k0 2 = nI u0 ∧ u0 < k0 ∧ nI (μ u) = nI (μ u0) ∧ nI (μ i) - 1 = nI x0 ∧ x0 < j0 ∧ (bf u0 0 = 2 ∨ bf u0 0 = 3) ∧ (∀ w, 0 < w → w < k0 → x0 < μ w → bf w 2 ≠ nI u0) := by
        intro hk
        refine ⟨(B - j) * 5000 + (j - 1), by omega, j, i, bf', u, j - 1, by rw [ei], rfl, hF0, hi, ei, u2, u1, rfl, ?_, by omega, hk, fun w y1 y2 y3 => ?_⟩
        · rw [ei]
          obtain ⟨j', rfl⟩ : ∃ j', j = j' + 1 := ⟨j - 1, by omega⟩
          rw [nI_pred]
          rfl
        · have := f5 w y2
          omega
      refine ⟨by omega, fun c2 => hgo (Or.inl (by rw [ku2]; exact c2)), fun c2 => ⟨by omega, fun c3 => hgo (Or.inr (by rw [ku2]; exact c3)), fun c3 => ?_⟩⟩
      rw [ei, nI_1]
      refine ⟨(B - (j + 1)) * 5000 + 4999, by omega, j + 1, i + 1, upd2 (gapF bf' i u) u 13 (nI i), rfl, rfl, hF0.next hS hi ei u2 u1 (fun _ => rfl) (f10.no (fun y => ?_)) FrF.rfl⟩
      have e0 : bf' u 0 = nI ku := by rw [f8 u 0 (by decide) (by decide) (by decide)]; exact ku2
      have h3 : ¬ bf' u 0 = 3 := by rw [e0]; exact c3
      rw [if_neg h3, e0] at y
      exact c2 y.2.1
    · rw [nI_1]
      refine ⟨(B - (j + 1)) * 5000 + 4999, by omega, j + 1, k, bf', rfl, rfl, by omega, by omega, f3, f4, fun i hi => by have := f5 i hi; omega, fun h => ?_, f7, f8, f9, f10, f11, f12⟩
      have h1 := f6 h
      have h2 : μ k ≠ j := by
        rcases s7 j (by omega) with y | y
        · exact absurd y.1 c1
        · exact y.2 k h
      omega
  · -- looking back
    rintro n x1 x2 x3 m' ⟨j, k, bf', u, x, rfl, hn, hF, hk, hj, hu, huk, rfl, rfl, hx, hku, hno⟩
    have hF0 := hF
    obtain ⟨f1, f2, f3, f4, f5, f6, f7, f8, f9, f10, f11, f12⟩ := hF
    obtain ⟨g28, g26, g14, g13, g16⟩ := hS.fr f12
    have hμu := s6 u (by omega)
    have hμk := s6 k hk
    have hend : ∀ m2, (∀ i, m2.2 17 i = m'.2 17 i) → D27 m2 μ c (gapF bf' k u) → FrF m' m2 → ∃ j' < n, ∃ j0 k0 bf0, nI j + 1 = nI j0 ∧ j' = (B - j0) * 5000 + 4999 ∧ F74 m bf μ c B R j0 k0 bf0 m2 := by
      intro m2 h1 h2 h3
      rw [nI_1]
      exact ⟨(B - (j + 1)) * 5000 + 4999, by omega, j + 1, k + 1, _, rfl, rfl, hF0.next hS hk hj hu huk h1 h2 h3⟩
    unfold w_Mo_findLoose_125 w_Mo_findLoose_148
    have h154 : (x = 0 ∨ ∃ w, 0 < w ∧ w < k ∧ μ w = x ∧ bf w 2 = nI u) → w_Mo_findLoose_154 Y (nI j) (nI (μ u)) (nI x) m' (vP M) (fun x1 m' => ∃ j' < n, ∃ j k bf', x1 = nI j ∧ j' = (B - j) * 5000 + 4999 ∧ F74 m bf μ c B R j k bf' m') (fun x1 x2 x3 m' => ∃ j' < n, ∃ j k bf' u x, x1 = nI j ∧ j' = (B - j) * 5000 + x ∧ F74 m bf μ c B R j k bf' m' ∧ k < c ∧ μ k = j ∧ bf k 2 = nI u ∧ u < k ∧ x2 = nI (μ u) ∧ x3 = nI x ∧ x < j ∧ (bf u 0 = 2 ∨ bf u 0 = 3) ∧ (∀ w, 0 < w → w < k → x < μ w → bf w 2 ≠ nI u)) := by
      intro hcase
      unfold w_Mo_findLoose_154 w_Mo_findLoose_207 w_Mo_findLoose_209
      rw [lit_leJ (by decide) (by omega)]
      refine ⟨fun z => hend m' (fun _ => rfl) (f10.no (fun y => ?_)) FrF.rfl, fun z => ?_⟩
      · -- there is none ahead
        rcases f11 u (by omega) with ⟨w1, _⟩ | ⟨w, w1, w2, w3, w4, _⟩
        · rw [w1] at y
          exact y.1 (by decide)
        · exact hno w w1 w2 (by have := hS.pos (i := w) (by omega) w1; omega) w4
      · obtain ⟨w, w1, w2, w3, w4⟩ := hcase.resolve_left (by omega)
        have huw : u < w := by
          obtain ⟨u', q1, q2, _⟩ := s8 w w1 (by omega)
          have : u' = u := (nI_eq (by omega) (by omega)).mp (q2.symm.trans w4)
          omega
        have hμw := s5 u w huw (by omega)
        obtain ⟨b, b1, b2, b3⟩ := f9 w (by omega)
        obtain ⟨a, a1, a2, a3⟩ := s10 k hk
        have hlat : bf' u 13 = nI w := by
          rcases f11 u (by omega) with ⟨_, y2⟩ | ⟨w', y1, y2, y3, y4, y5⟩
          · exact absurd w4 (y2 w w1 w2)
          · have e : w' = w := by
              rcases Nat.lt_trichotomy w w' with q | q | q
              · have := s5 w w' q (by omega)
                exact absurd y4 (hno w' y1 y2 (by omega))
              · exact q.symm
              · exact absurd w4 (y5 w q w2)
            rw [y3, e]
        rw [nI_leI (by omega) (by omega), vp_nI (by omega), vp_nI (by omega), nI_clamp (by omega), nI_clamp (by omega), ← w3, b3, ← hj, g16, a3, nI_1 b, nI_ltI (by omega) (by omega), vp_nI (by omega), nI_clamp (by omega), g13, g14]
        have hgap : ∀ li, (if bf' u 0 = 3 then (bf' u 2).toNatClampNeg else u) = li → bf' li 0 = 2 → li < c → (b + 1 < a → gapF bf' k u = upd2 bf' li 4 1) ∧ (¬ b + 1 < a → gapF bf' k u = bf') := by
          intro li hli h2 _
          have e9 : bf' k 9 = nI a := by rw [f8 k 9 (by decide) (by decide) (by decide)]; exact a2
          unfold gapF
          rw [hli, hlat, nI_clamp (by omega), b2, e9]
          exact ⟨fun y => by rw [if_pos ⟨nI_lt0 (by omega), h2, (sub_gt a1 b1).mpr y⟩], fun y => by rw [if_neg (fun q => y ((sub_gt a1 b1).mp q.2.2))]⟩
        have e0 : bf' u 0 = bf u 0 := f8 u 0 (by decide) (by decide) (by decide)
        have hset : ∀ li, li < c → b + 1 < a → gapF bf' k u = upd2 bf' li 4 1 → ∀ m1, m1 = mA m' 27 (μ li) (1 &&& 1) → ∃ j' < n, ∃ j0 k0 bf0, nI j + 1 = nI j0 ∧ j' = (B - j0) * 5000 + 4999 ∧ F74 m bf μ c B R j0 k0 bf0 m1 := by
          intro li hli hlt hg m1 e1
          refine hend m1 (fun i => by rw [e1, mA_ne (by decide)]) (fun i hi => ?_) ⟨by rw [e1]; rfl, fun q i z1 z2 => by rw [e1, mA_ne z2]⟩
          rw [hg]
          by_cases e : i = li
          · rw [e, upd2_at, e1, mA_at]
            exact ⟨by decide, Or.inr rfl⟩
          · rw [upd2_i e, e1, mA_ni (fun y => e (hS.inj hi hli y))]
            exact f10 i hi
        refine ⟨fun y => by omega, fun _ => ⟨by omega, by omega, fun hlt => ⟨by omega, fun k2 => ⟨by omega, ?_⟩, fun k2 => ⟨by omega, ?_⟩⟩, fun hlt => ?_⟩⟩
        · obtain ⟨ku, ku1, ku2, ku3, ku4⟩ := s9 u (by omega)
          have h2 : bf u 0 = 2 := by rw [ku2, ← ku3]; exact k2
          have h3 : ¬ bf' u 0 = 3 := by rw [e0, h2]; decide
          have := hgap u (if_neg h3) (by rw [e0]; exact h2) (by omega)
          rw [hj]
          exact hset u (by omega) hlt (this.1 hlt)
        · obtain ⟨ku, ku1, ku2, ku3, ku4⟩ := s9 u (by omega)
          have h3 : bf u 0 = 3 := by
            rcases hku with y | y
            · rw [ku2] at y
              rw [ku3] at k2
              exact absurd y k2
            · exact y
          have hu0 : 0 < u := by
            apply Decidable.byContradiction
            intro q
            have : ku = 0 := ku4.mpr (by omega)
            rw [ku2, this] at h3
            exact absurd h3 (by decide)
          obtain ⟨u', q1, q2, q3, q4⟩ := s8 u hu0 (by omega)
          have hμ' := s6 u' (by omega)
          rw [q3, vp_nI (by omega), nI_clamp (by omega), hj]
          have e2 : (if bf' u 0 = 3 then (bf' u 2).toNatClampNeg else u) = u' := by
            rw [if_pos (by rw [e0]; exact h3), f8 u 2 (by decide) (by decide) (by decide), q2, nI_clamp (by omega)]
          have := hgap u' e2 (by rw [f8 u' 0 (by decide) (by decide) (by decide)]; exact q4 h3) (by omega)
          exact ⟨by omega, hset u' (by omega) hlt (this.1 hlt)⟩
        · rw [hj]
          refine hend m' (fun _ => rfl) ?_ FrF.rfl
          obtain ⟨ku, ku1, ku2, ku3, ku4⟩ := s9 u (by omega)
          rcases hku with y | y
          · have h3 : ¬ bf' u 0 = 3 := by rw [e0, y]; decide
            rw [(hgap u (if_neg h3) (by rw [e0]; exact y) (by omega)).2 hlt]
            exact f10
          · have hu0 : 0 < u := by
              apply Decidable.byContradiction
              intro q
              have : ku = 0 := ku4.mpr (by omega)
              rw [ku2, this] at y
              exact absurd y (by decide)
            obtain ⟨u', q1, q2, q3, q4⟩ := s8 u hu0 (by omega)
            have e2 : (if bf' u 0 = 3 then (bf' u 2).toNatClampNeg else u) = u' := by
              rw [if_pos (by rw [e0]; exact y), f8 u 2 (by decide) (by decide) (by decide), q2, nI_clamp (by omega)]
            rw [(hgap u' e2 (by rw [f8 u' 0 (by decide) (by decide) (by decide)]; exact q4 y) (by omega)).2 hlt]
            exact f10
    have h148 : 0 < x → (∀ w, 0 < w → w < k → x = μ w → bf w 2 ≠ nI u) → ∃ j' < n, ∃ j0 k0 bf0 u0 x0, nI j = nI j0 ∧ j' = (B - j0) * 5000 + x0 ∧ F74 m bf μ c B R j0 k0 bf0 m' ∧ k0 < c ∧ μ k0 = j0 ∧ bf k0 2 = nI u0 ∧ u0 < k0 ∧ nI (μ u) = nI (μ u0) ∧ nI x + (-1) = nI x0 ∧ x0 < j0 ∧ (bf u0 0 = 2 ∨ bf u0 0 = 3) ∧ (∀ w, 0 < w → w < k0 → x0 < μ w → bf w 2 ≠ nI u0) := by
      intro h0 hnx
      obtain ⟨x', rfl⟩ : ∃ x', x = x' + 1 := ⟨x - 1, by omega⟩
      refine ⟨(B - j) * 5000 + x', by omega, j, k, bf', u, x', rfl, rfl, hF0, hk, hj, hu, huk, rfl, nI_dec x', by omega, hku, fun w y1 y2 y3 => ?_⟩
      by_cases e : x' + 1 = μ w
      · exact hnx w y1 y2 e
      · exact hno w y1 y2 (by omega)
    rw [lit_leJ (by decide) (by omega), vp_nI (by omega), nI_clamp (by omega), g14, g26]
    refine ⟨fun z => h154 (Or.inl (by omega)), fun z => ⟨by omega, fun c1 => ⟨by omega, fun c2 => h154 (Or.inr ?_), fun c2 => h148 (by omega) (fun w y1 y2 y3 => ?_)⟩, fun c1 => h148 (by omega) (fun w y1 y2 y3 y4 => ?_)⟩⟩
    · obtain ⟨w, w1, w2⟩ : ∃ i, i < c ∧ μ i = x := by
        rcases s7 x (by omega) with y | y
        · exact y.2
        · rw [y.1] at c2
          exact absurd c2 (by decide)
      have hw0 : 0 < w := by
        apply Decidable.byContradiction
        intro q
        have : w = 0 := by omega
        rw [this, s4] at w2
        omega
      have hwk : w < k := by
        apply Decidable.byContradiction
        intro q
        by_cases e : w = k
        · rw [e] at w2; omega
        · have := s5 k w (by omega) w1; omega
      obtain ⟨u', q1, q2, q3, _⟩ := s8 w hw0 w1
      rw [← w2, q3] at c1
      have hu' := s6 u' (by omega)
      have : μ u' = μ u := (nI_eq (by omega) (by omega)).mp c1
      have e := hS.inj (by omega) (by omega) this
      exact ⟨w, hw0, hwk, w2, by rw [q2, e]⟩
    · have : m.2 26 x = 0 := by
        rcases s7 x (by omega) with y | y
        · exact y.1
        · exact absurd y3.symm (y.2 w (by omega))
      exact absurd this c2
    · obtain ⟨u', q1, q2, q3, _⟩ := s8 w y1 (by omega)
      have e : u' = u := (nI_eq (by omega) (by omega)).mp (q2.symm.trans y4)
      rw [y3, q3, e] at c1
      exact c1 rfl
  · -- the first loop
    rintro j x1 m' ⟨k, bf', rfl, hj, hk, h1, h2, h3, h4, h5, h6, h7⟩
    have g26 : ∀ i, m'.2 26 i = m.2 26 i := fun i => h7 26 i (by decide)
    have g14 : ∀ i, m'.2 14 i = m.2 14 i := fun i => h7 14 i (by decide)
    unfold w_Mo_findLoose_7 w_Mo_findLoose_65 w_Mo_findLoose_66
    rw [lit_leJ (by decide) (by omega), vp_nI (by omega), nI_clamp (by omega), g26, g14]
    have h66 : ∀ (m2 : MS) (k' : Nat) (bf2 : Nat → Nat → Int32), 0 < j → k' < c → μ k' ≤ j - 1 → (∀ i, k' < i → i < c → j - 1 < μ i) → fin1 (c - 1) bf = fin1 k' bf2 → (∀ i q, q ≠ 10 → bf2 i q = bf i q) → D17 m2 μ c bf2 → m2.1 = m.1 → (∀ k i, k ≠ 17 → m2.2 k i = m.2 k i) → ∃ j' < j, ∃ k bf', nI j + (-1) = nI j' ∧ j' < B ∧ k < c ∧ μ k ≤ j' ∧ (∀ i, k < i → i < c → j' < μ i) ∧ fin1 (c - 1) bf = fin1 k bf' ∧ (∀ i q, q ≠ 10 → bf' i q = bf i q) ∧ D17 m2 μ c bf' ∧ m2.1 = m.1 ∧ (∀ k i, k ≠ 17 → m2.2 k i = m.2 k i) := by
      intro m2 k' bf2 q0 q1 q2 q3 q4 q5 q6 q7 q8
      obtain ⟨j', rfl⟩ : ∃ j', j = j' + 1 := ⟨j - 1, by omega⟩
      exact ⟨j', by omega, k', bf2, nI_dec j', by omega, q1, q2, q3, q4, q5, q6, q7, q8⟩
    refine ⟨fun z => ?_, fun z => ⟨by omega, fun c1 => ?_, fun c1 => ?_⟩⟩
    · have ek : k = 0 := by
        apply Decidable.byContradiction
        intro q
        have := hS.pos (i := k) hk (by omega)
        omega
      have e1 : fin1 (c - 1) bf = bf' := by rw [h3, ek]; rfl
      refine ⟨_, 1, 1, bf', rfl, rfl, by omega, by have := s6 0 (by omega); omega, by omega, by omega, fun i hi => ?_, fun h => ?_, ?_, fun i q z1 _ _ => h4 i q z1, h5, fun i hi => ?_, fun i hi => Or.inl ⟨?_, fun w y1 y2 => by omega⟩, ⟨h6, fun q i z1 _ => h7 q i z1⟩⟩
      · have : i = 0 := by omega
        rw [this, s4]
        decide
      · exact hS.pos h (by omega)
      · rw [← hRR, e1]
      · rw [h4 i 4 (by decide), h7 27 _ (by decide)]
        exact h27 i hi
      · rw [h4 i 13 (by decide)]
        exact h13 i hi
    · obtain ⟨i, hi, ei⟩ : ∃ i, i < c ∧ μ i = j := by
        rcases s7 j (by omega) with y | y
        · exact y.2
        · rw [y.1] at c1
          exact absurd c1 (by decide)
      have hik : i = k := by
        rcases Nat.lt_trichotomy i k with q | q | q
        · have := s5 i k q hk; omega
        · exact q
        · have := h2 i q hi; omega
      subst hik
      have hi0 : 0 < i := by
        apply Decidable.byContradiction
        intro q
        have : i = 0 := by omega
        rw [this, s4] at ei
        omega
      obtain ⟨u, u1, u2, u3, _⟩ := s8 i hi0 hi
      have hμu := s6 u (by omega)
      rw [← ei, u3, vp_nI (by omega), nI_clamp (by omega)]
      obtain ⟨b, b1, b2, b3⟩ := h5 i hi
      obtain ⟨b', b1', b2', b3'⟩ := h5 u (by omega)
      rw [b3, b3', nI_leI (by omega) (by omega)]
      have hfin : ∀ (z : Nat) m1, z = (if b' < b then b else b') → m1 = mA m' 17 (μ u) (nI z) → ∃ j' < j, ∃ k bf', nI j + (-1) = nI j' ∧ j' < B ∧ k < c ∧ μ k ≤ j' ∧ (∀ i, k < i → i < c → j' < μ i) ∧ fin1 (c - 1) bf = fin1 k bf' ∧ (∀ i q, q ≠ 10 → bf' i q = bf i q) ∧ D17 m1 μ c bf' ∧ m1.1 = m.1 ∧ (∀ k i, k ≠ 17 → m1.2 k i = m.2 k i) := by
        intro z m1 hz e1
        obtain ⟨i', rfl⟩ : ∃ i', i = i' + 1 := ⟨i - 1, by omega⟩
        have hlt := s5 i' (i' + 1) (by omega) hi
        refine h66 m1 i' (upd2 bf' u 10 (nI z)) (by omega) (by omega) (by omega) (fun a y1 y2 => ?_) ?_ (fun a q hq => by rw [upd2_k hq]; exact h4 a q hq) (fun a ha => ?_) (by rw [e1]; exact h6) (fun q a hq => by rw [e1, mA_ne hq]; exact h7 q a hq)
        · by_cases e : a = i' + 1
          · rw [e]; omega
          · have := h2 a (by omega) y2; omega
        · rw [h3]
          show fin1 i' (upd2 bf' (bf' (i' + 1) 2).toNatClampNeg 10 (if bf' (bf' (i' + 1) 2).toNatClampNeg 10 < bf' (i' + 1) 10 then bf' (i' + 1) 10 else bf' (bf' (i' + 1) 2).toNatClampNeg 10)) = _
          rw [h4 (i' + 1) 2 (by decide), u2, nI_clamp (by omega), b2, b2']
          congr 2
          rw [hz]
          by_cases e : b' < b
          · rw [if_pos e, if_pos ((nI_ltI (by omega) (by omega)).mpr e)]
          · rw [if_neg e, if_neg (fun y => e ((nI_ltI (by omega) (by omega)).mp y))]
        · by_cases e : a = u
          · refine ⟨z, by rw [hz]; split <;> omega, by rw [e]; exact upd2_at _ _ _ _, by rw [e, e1, mA_at]⟩
          · rw [upd2_i e, e1, mA_ni (fun y => e (hS.inj ha (by omega) y))]
            exact h5 a ha
      rw [ei]
      refine ⟨by omega, by omega, by omega, fun c2 => ⟨by omega, by omega, fun m1 e1 => hfin b' m1 (by rw [if_neg (by omega)]) e1⟩, fun c2 => ⟨by omega, by omega, fun m1 e1 => hfin b m1 (by rw [if_pos (by omega)]) e1⟩⟩
    · have hne : ∀ i, i < c → μ i ≠ j := by
        rcases s7 j (by omega) with y | y
        · exact absurd y.1 c1
        · exact y.2
      refine h66 m' k bf' (by omega) hk ?_ (fun i y1 y2 => by have := h2 i y1 y2; omega) h3 h4 h5 h6 h7
      have := hne k hk
      omega
end LOOSE
