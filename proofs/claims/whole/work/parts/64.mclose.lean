/-! the ends of a paragraph and of a code -/
/-- the last sign of T that is not white is at p, behind it are spaces -/
def LPar (T : List Int32) (f p : Nat) : Prop := f ≤ p ∧ p < T.length ∧ ¬ wh (tA T p) ∧ ∀ q, p < q → q < T.length → tA T q = 32
theorem trW_par {T : List Int32} {f p : Nat} (h : LPar T f p) : ∀ n, p < n → n ≤ T.length → trW T f n = p + 1 := by
  intro n
  induction n with
  | zero => intro h1; omega
  | succ n ih =>
    intro h1 h2
    by_cases e : n = p
    · subst e
      rw [trW, if_neg (fun z => h.2.2.1 z.2)]
    · rw [trW, if_pos ⟨by have := h.1; omega, Or.inr (Or.inr (Or.inr (h.2.2.2 n (by omega) (by omega))))⟩]
      exact ih (by omega) (by omega)
theorem trW_end {T : List Int32} {n : Nat} : trW T n n = n := by
  cases n with
  | zero => rfl
  | succ n => rw [trW, if_neg (fun z => by omega)]
/-- after the definitions: the rest holds the last sign, or there is none -/
theorem tkD_par {T : List Int32} {f0 p : Nat} {D : DL} (hl : T.length ≤ 16000) (h : LPar T f0 p) : (tkD T f0 D).1 ≤ p ∨ (tkD T f0 D).1 = T.length := by
  induction f0, D using tkD.induct T with
  | case1 f D hq => rw [tkD_none hq]; exact Or.inl h.1
  | case2 f D k tf tt sf st l hq hb ih =>
    rw [tkD_some hl hq]
    have hbd := dfE_bd hl hq
    by_cases hlt : l < T.length
    · have hlp : l < p := by
        apply Nat.lt_of_not_le
        intro q
        have h10 := hbd.2 hlt
        by_cases e : l = p
        · subst e; exact h.2.2.1 (Or.inr (Or.inl h10))
        · have := h.2.2.2 l (by omega) hlt
          rw [h10] at this
          exact absurd this (by decide)
      have hnx : nxL T l = l + 1 := by unfold nxL; rw [if_pos hlt]
      refine ih ⟨?_, h.2.1, h.2.2.1, h.2.2.2⟩
      rw [hnx]
      omega
    · have hle : l = T.length := by omega
      have hnx : nxL T l = T.length := by unfold nxL; rw [if_neg hlt, hle]
      rw [hnx, tkD_none (dfE_end hl)]
      exact Or.inr rfl
  | case3 f D k tf tt sf st l hq hb =>
    exfalso
    have hbd := dfE_bd hl hq
    have hnx := nxL_bd (T := T) (l := l) (by omega)
    exact hb ⟨by omega, hnx.2⟩
section MOCLOSE
variable {X : MX} {a0 : Array Value} {m : MS} {M : MS → Prop}
theorem mA_mA (m : MS) (k i : Nat) (x y : Int32) : mA (mA m k i x) k i y = mA m k i y := by
  unfold mA
  simp only [Prod.mk.injEq, true_and]
  funext j q
  by_cases e : j = k ∧ q = i <;> simp [e]
theorem mA_self (m : MS) (k i : Nat) : mA m k i (m.2 k i) = m := by
  obtain ⟨a, b⟩ := m
  unfold mA
  simp only [Prod.mk.injEq, true_and]
  funext j q
  by_cases e : j = k ∧ q = i
  · simp [e]
  · simp [e]
theorem d_Mo_trimEnd (F : mF X a0) {T : List Int32} {f δ b p : Nat} (hb : b < 3300) (hP : PlI m T f δ) (hl : T.length ≤ 12010) (hf : f ≤ T.length) (h18 : m.2 18 b = nI (f + δ)) (h19 : m.2 19 b = nI (T.length - f)) (hp : (f ≤ p ∧ LPar T f p) ∨ f = T.length) (h : M (mA m 19 b (nI (trW T f T.length - f)))) : mE X 0 y_Mo_trimEnd [.ref (mo X), .int (nI b)] m (vP M) := by
  obtain ⟨hv, hb0, hl0⟩ := hP
  have hres : (f ≤ p ∧ LPar T f p ∧ trW T f T.length = p + 1) ∨ (f = T.length ∧ trW T f T.length = f) := by
    rcases hp with ⟨q1, q2⟩ | q
    · exact Or.inl ⟨q1, q2, trW_par q2 _ q2.2.1 (Nat.le_refl _)⟩
    · refine Or.inr ⟨q, ?_⟩
      rw [q]
      exact trW_end
  have hI : ∀ n x1 m', (x1 = nI b ∧ m' = mA m 19 b (nI n) ∧ f + n ≤ T.length ∧ trW T f T.length - f ≤ n) → w_Mo_trimEnd_0 X x1 m' (vP M) (fun x1 m' => ∃ j, j < n ∧ x1 = nI b ∧ m' = mA m 19 b (nI j) ∧ f + j ≤ T.length ∧ trW T f T.length - f ≤ j) := by
    rintro n x1 m' ⟨rfl, rfl, hn1, hn2⟩
    have e18 : (mA m 19 b (nI n)).2 18 b = nI (f + δ) := by rw [mA_ne (by decide)]; exact h18
    have e19 : (mA m 19 b (nI n)).2 19 b = nI n := mA_at _ _ _ _
    have hdone : trW T f T.length - f = n → vP M none (mA m 19 b (nI n)) := fun q => vP.v h (by rw [q])
    simp (discharger := omega) only [w_Mo_trimEnd_0, w_Mo_trimEnd_47, vp_nI, nI_clamp, e18, e19, lit_leJ, nI_add]
    refine ⟨hb, fun c => hdone (by omega), fun c => ⟨hb, hb, ?_⟩⟩
    have hsub : nI (f + δ + n) - 1 = nI (f + n - 1 + δ) := by
      rw [show (1 : Int32) = nI 1 from rfl, pk_sub (by omega)]
      congr 1
      omega
    rw [hsub]
    have hvv : (mA m 19 b (nI n)).2 7 (f + n - 1 + δ) = tA T (f + n - 1) := by rw [mA_ne (by decide)]; exact hv _ (by omega) (by omega)
    simp (discharger := omega) only [vp_nI, nI_clamp, hvv]
    refine ⟨by omega, fun c2 => ⟨hb, hb, fun m1 e1 => ?_⟩, fun c2 => hdone ?_⟩
    · have hsub2 : nI n - 1 = nI (n - 1) := by
        rw [show (1 : Int32) = nI 1 from rfl, pk_sub (by omega)]
      refine ⟨n - 1, by omega, by trivial, by rw [e1, hsub2, mA_mA], by omega, ?_⟩
      rcases hres with ⟨q1, q2, q3⟩ | ⟨q1, q2⟩
      · rw [q3]
        have : f + n - 1 ≠ p := fun z => by
          rw [z] at c2
          exact q2.2.2.1 (Or.inr (Or.inr (Or.inr c2)))
        omega
      · omega
    · rcases hres with ⟨q1, q2, q3⟩ | ⟨q1, q2⟩
      · rw [q3]
        have : ¬ p < f + n - 1 := fun z => c2 (q2.2.2.2 _ z (by omega))
        omega
      · omega
  have hstart : m = mA m 19 b (nI (T.length - f)) := by rw [← h19, mA_self]
  have hle : trW T f T.length - f ≤ T.length - f := by
    rcases hres with ⟨q1, q2, q3⟩ | ⟨q1, q2⟩
    · rw [q3]; have := q2.2.1; omega
    · omega
  refine g_Mo_trimEnd (I0 := fun n x1 m' => x1 = nI b ∧ m' = mA m 19 b (nI n) ∧ f + n ≤ T.length ∧ trW T f T.length - f ≤ n) F ?_ (fun n x1 m' hx => hI n x1 m' hx)
  have h1 := hI (T.length - f) (nI b) m ⟨rfl, hstart, by omega, hle⟩
  unfold w_Mo_trimEnd_0 at h1 ⊢
  refine ⟨h1.1, h1.2.1, fun c => ?_⟩
  obtain ⟨z1, z2, z3, z4, z5⟩ := h1.2.2 c
  refine ⟨z1, z2, z3, fun c2 => ?_, z5⟩
  obtain ⟨y1, y2, y3⟩ := z4 c2
  refine ⟨y1, y2, fun m1 e1 => ?_⟩
  obtain ⟨j, _, hj⟩ := y3 m1 e1
  exact ⟨j, hj⟩
/-- the last line of a code that is not blank ends at q; blank lines behind it -/
def LCod (T : List Int32) (f p q : Nat) : Prop := f ≤ p ∧ p < q ∧ q < T.length ∧ tA T p ≠ 32 ∧ tA T p ≠ 10 ∧ (∀ x, p < x → x < q → tA T x = 32) ∧ tA T q = 10 ∧ (∀ x, q < x → x < T.length → tA T x = 32 ∨ tA T x = 10) ∧ tA T (T.length - 1) = 10
theorem d_Mo_dropBlankLines (F : mF X a0) {T : List Int32} {f δ b p q : Nat} (hb : b < 3300) (hP : PlI m T f δ) (hl : T.length ≤ 12010) (hf : f ≤ T.length) (h18 : m.2 18 b = nI (f + δ)) (h19 : m.2 19 b = nI (T.length - f)) (hp : LCod T f p q) (h : M (mA m 19 b (nI (q + 1 - f)))) : mE X 0 y_Mo_dropBlankLines [.ref (mo X), .int (nI b)] m (vP M) := by
  obtain ⟨hv, hb0, hl0⟩ := hP
  obtain ⟨p1, p2, p3, p4, p5, p6, p7, p8, p9⟩ := hp
  refine g_Mo_dropBlankLines (I2 := fun n x1 x2 m' => x1 = nI b ∧ ∃ w, m' = mA m 19 b (nI w) ∧ f + w ≤ T.length ∧ q + 1 ≤ f + w ∧ tA T (f + w - 1) = 10 ∧ ((x2 = 1 ∧ n = 4 * w + 2) ∨ (x2 = 0 ∧ f + w = q + 1))) (I24 := fun n x1 x2 x3 m' => x1 = nI b ∧ ∃ w k, x3 = nI k ∧ m' = mA m 19 b (nI w) ∧ k < w ∧ f + w ≤ T.length ∧ q + 1 ≤ f + w ∧ n = 2 * w + 2 * k + 1 ∧ (∀ x, f + k ≤ x → x < f + w - 1 → tA T x = 32) ∧ (q + 1 = f + w → p < f + k) ∧ (q + 1 < f + w → q < f + k)) F ?_ ?_ ?_
  · refine ⟨4 * (T.length - f) + 2, rfl, T.length - f, by rw [← h19, mA_self], by omega, by omega, ?_, Or.inl ⟨rfl, rfl⟩⟩
    rw [show f + (T.length - f) - 1 = T.length - 1 by omega]
    exact p9
  · rintro n x1 x2 m' ⟨rfl, w, rfl, hw1, hw2, hw3, hx⟩
    have e19 : (mA m 19 b (nI w)).2 19 b = nI w := mA_at _ _ _ _
    rcases hx with ⟨rfl, hn⟩ | ⟨rfl, hn⟩
    · simp (discharger := omega) only [w_Mo_dropBlankLines_2, w_Mo_dropBlankLines_98, vp_nI, nI_clamp, e19, lit_leJ]
      have hsub2 : nI w - 1 = nI (w - 1) := by rw [show (1 : Int32) = nI 1 from rfl, pk_sub (by omega)]
      exact ⟨fun z => absurd z (by decide), fun _ => ⟨hb, fun c => by omega, fun c => ⟨hb, 2 * w + 2 * (w - 1) + 1, by omega, by trivial, w, w - 1, by rw [hsub2], rfl, by omega, hw1, hw2, by omega, fun x q1 q2 => by omega, fun _ => by omega, fun _ => by omega⟩⟩⟩
    · unfold w_Mo_dropBlankLines_2 w_Mo_dropBlankLines_98
      exact ⟨fun _ => vP.v h (by congr 2; omega), fun z => absurd rfl z⟩
  · rintro n x1 x2 x3 m' ⟨rfl, w, k, rfl, rfl, hk, hw1, hw2, hn, hsp, hg1, hg2⟩
    have e18 : (mA m 19 b (nI w)).2 18 b = nI (f + δ) := by rw [mA_ne (by decide)]; exact h18
    have hpos : 0 < k := by
      by_cases z : q + 1 = f + w
      · have := hg1 z; omega
      · have := hg2 (by omega); omega
    have hsub : nI (f + δ + k) - 1 = nI (f + k - 1 + δ) := by
      rw [show (1 : Int32) = nI 1 from rfl, pk_sub (by omega)]
      congr 1
      omega
    have hvv : (mA m 19 b (nI w)).2 7 (f + k - 1 + δ) = tA T (f + k - 1) := by rw [mA_ne (by decide)]; exact hv _ (by omega) (by omega)
    have hne : tA T (f + k - 1) ≠ 32 → w_Mo_dropBlankLines_54 X (nI b) x2 (nI k) (mA m 19 b (nI w)) (vP M) (fun x1 x2 m_1 => ∃ j, j < n ∧ x1 = nI b ∧ ∃ w, m_1 = mA m 19 b (nI w) ∧ f + w ≤ T.length ∧ q + 1 ≤ f + w ∧ tA T (f + w - 1) = 10 ∧ ((x2 = 1 ∧ j = 4 * w + 2) ∨ (x2 = 0 ∧ f + w = q + 1))) (fun x1 x2 x3 m_1 => ∃ j, j < n ∧ x1 = nI b ∧ ∃ w k, x3 = nI k ∧ m_1 = mA m 19 b (nI w) ∧ k < w ∧ f + w ≤ T.length ∧ q + 1 ≤ f + w ∧ j = 2 * w + 2 * k + 1 ∧ (∀ x, f + k ≤ x → x < f + w - 1 → tA T x = 32) ∧ (q + 1 = f + w → p < f + k) ∧ (q + 1 < f + w → q < f + k)) := by
      intro hn32
      unfold w_Mo_dropBlankLines_54 w_Mo_dropBlankLines_78 w_Mo_dropBlankLines_83 w_Mo_dropBlankLines_95
      simp (discharger := omega) only [lit_eqJ, vp_nI, nI_clamp, e18, nI_add]
      rw [hsub]
      simp (discharger := omega) only [vp_nI, nI_clamp, hvv]
      refine ⟨fun z => by omega, fun _ => ⟨hb, by omega, fun c => ⟨fun z => absurd z (by decide), fun _ => ⟨hb, fun m1 e1 => ?_⟩⟩, fun c => ⟨fun _ => ?_, fun z => absurd (by trivial) z⟩⟩⟩
      · have hq : q + 1 < f + w := by
          apply Nat.lt_of_not_le
          intro z
          have hpk := hg1 (by omega)
          by_cases e : f + k - 1 = p
          · rw [e] at c; exact p5 c
          · have := p6 (f + k - 1) (by omega) (by omega)
            exact hn32 this
        have hqk := hg2 hq
        exact ⟨4 * k + 2, by omega, by trivial, k, by rw [e1, mA_mA], by omega, by omega, c, Or.inl ⟨by trivial, by trivial⟩⟩
      · have hq : q + 1 = f + w := by
          apply Nat.le_antisymm hw2
          apply Nat.le_of_not_lt
          intro z
          have hqk := hg2 z
          by_cases e : f + k - 1 = q
          · rw [e] at c; exact c p7
          · rcases p8 (f + k - 1) (by omega) (by omega) with y | y
            · exact hn32 y
            · exact c y
        have h10 : tA T (f + w - 1) = 10 := by rw [show f + w - 1 = q by omega]; exact p7
        exact ⟨0, by omega, by trivial, w, rfl, hw1, hw2, h10, Or.inr ⟨by trivial, hq.symm⟩⟩
    unfold w_Mo_dropBlankLines_24
    simp (discharger := omega) only [lit_leJ, vp_nI, nI_clamp, e18, nI_add]
    rw [hsub]
    simp (discharger := omega) only [vp_nI, nI_clamp, hvv]
    refine ⟨fun z => by omega, fun _ => ⟨hb, by omega, fun c => ?_, fun c => hne c⟩⟩
    refine ⟨n - 2, by omega, by trivial, w, k - 1, ?_, rfl, by omega, hw1, hw2, by omega, fun x q1 q2 => ?_, fun z => ?_, fun z => ?_⟩
    · rw [sb_m1 hpos]
    · by_cases e : x = f + k - 1
      · rw [e]; exact c
      · exact hsp x (by omega) q2
    · have := hg1 z
      have : f + k - 1 ≠ p := fun y => by rw [y] at c; exact p4 c
      omega
    · have := hg2 z
      have : f + k - 1 ≠ q := fun y => by rw [y] at c; rw [p7] at c; exact absurd c (by decide)
      omega
end MOCLOSE
