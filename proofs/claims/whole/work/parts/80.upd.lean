/-! one block's fields and the text change: the relation's other parts are kept -/
def UpV (v v' : VS) (i : Nat) (os : List Int32) : Prop := ct v' = ct v ∧ vo v' = vo v ∧ tx v' = tx v ++ os ∧ vr v' 12 = vr v 12 ∧ vr v' 13 = vr v 13 ∧ (∀ j, j ≠ i → vb v' j = vb v j) ∧ vb v' i 0 = vb v i 0 ∧ vb v' i 1 = vb v i 1 ∧ vb v' i 2 = vb v i 2
def UpM (m m' : MS) (P b : Nat) (os : List Int32) : Prop := m'.1 10 = nI (P + os.length) ∧ m'.1 28 = m.1 28 ∧ m'.1 30 = m.1 30 ∧ m'.1 40 = m.1 40 ∧ (∀ i, i < P → m'.2 7 i = m.2 7 i) ∧ (∀ k, k < os.length → m'.2 7 (k + P) = tA os k) ∧ (∀ k j, k ≠ 7 → ¬ (j = b ∧ 13 ≤ k ∧ k ≤ 27) → m'.2 k j = m.2 k j) ∧ m'.2 13 b = m.2 13 b ∧ m'.2 14 b = m.2 14 b ∧ m'.2 25 b = m.2 25 b ∧ m'.2 26 b = m.2 26 b
theorem R_upd {v v' : VS} {m m' : MS} {μ : Nat → Nat} {t o B E i : Nat} {D : DL} {os : List Int32} (rG : RG v m μ B) (rK : RK v m μ ((tx v).length + E)) (rO : RO v m μ t o) (rT : RT v m E D) (hi : i < ct v) (hX : ∀ j, j < ct v → j ≠ i → TX v m μ ((tx v).length + E) j) (hV : UpV v v' i os) (hM : UpM m m' ((tx v).length + E) (μ i) os) (hl : (tx v).length + os.length ≤ 12010) (hns : nsP (tx v) (tx v).length + os.countP nsB ≤ 3000) (hB : BK v' m' μ i) (hI : IX v' m' μ ((tx v').length + E) i) : RG v' m' μ B ∧ RK v' m' μ ((tx v').length + E) ∧ RO v' m' μ t o ∧ RT v' m' E D ∧ ∀ j, j < ct v' → j ≠ i → TX v' m' μ ((tx v').length + E) j := by
  obtain ⟨v1, v2, v3, v4, v5, v6, v7, v8, v9⟩ := hV
  obtain ⟨m1, m2, m3, m4, m5, m6, m7, m8, m9, m10, m11⟩ := hM
  have hlen : (tx v').length = (tx v).length + os.length := by rw [v3, List.length_append]
  have hT : ∀ k, k < (tx v).length → tA (tx v') k = tA (tx v) k := fun k hk => by rw [v3]; exact tA_left (by omega) hk
  have hkd : ∀ j, kd v' j = kd v j := fun j => by
    unfold kd
    by_cases e : j = i
    · rw [e, v7]
    · rw [v6 j e]
  have hb2 : ∀ j, vb v' j 2 = vb v j 2 := fun j => by
    by_cases e : j = i
    · rw [e, v9]
    · rw [v6 j e]
  have hne : ∀ j, j < ct v → j ≠ i → μ j ≠ μ i := by
    intro j hj hn e
    rcases Nat.lt_trichotomy j i with z | z | z
    · have := rG.2.2.2.2.1 j _ z hi; omega
    · exact hn z
    · have := rG.2.2.2.2.1 _ j z hj; omega
  have hhd : ∀ j, hdN v' j (ct v') = hdN v j (ct v) := fun j => by rw [v1]; exact hdN_keep _ (fun q _ => hb2 q)
  have hP : (tx v).length + E ≤ (tx v').length + E := by omega
  have hma : ∀ k j, k ≠ 7 → ¬ (13 ≤ k ∧ k ≤ 27) → m'.2 k j = m.2 k j := fun k j z1 z2 => m7 k j z1 (fun z => z2 z.2)
  refine ⟨rG.same v1 m2 (fun j _ => ?_), ?_, ?_, ?_, ?_⟩
  · by_cases e : j = μ i
    · rw [e, m11]
    · exact m7 26 j (by decide) (fun z => e z.1)
  · intro j hj
    rw [v1] at hj
    obtain ⟨k1, k2, k3⟩ := rK j hj
    by_cases e : j = i
    · rw [e] at k3 ⊢
      exact ⟨hB, hI, by rw [m10, k3, hhd]⟩
    · have hn := hne j hj e
      refine ⟨k1.keep (v6 j e) (fun k z1 z2 _ _ _ _ _ _ _ => m7 k _ (by omega) (fun z => hn z.1)), k2.keep (v6 j e) (m7 20 _ (by decide) (fun z => hn z.1)) (m7 21 _ (by decide) (fun z => hn z.1)) hT (by omega) m5 hP, by rw [m7 25 _ (by decide) (fun z => hn z.1), k3, hhd]⟩
  · obtain ⟨o1, o2, o3, o4, o5, o6, o7, o8⟩ := rO
    refine ⟨o1, by rw [v2]; exact o2, by rw [m3]; exact o3, o4, fun k hk => by rw [v1, v2]; exact o5 k hk, fun k hk => by rw [v2, hma 29 _ (by decide) (by decide)]; exact o6 k hk, fun k hk => ?_, fun k hk w h1 h2 => ?_⟩
    · rw [v2, hb2, hkd]
      exact o7 k hk
    · rw [v2] at h1 ⊢
      rw [v1] at h2
      rw [hb2]
      simp only [hkd]
      exact o8 k hk w h1 h2
  · obtain ⟨q1, q2, q3, q4, q5, q6, q7, q8, q9, q10, q11⟩ := rT
    refine ⟨by omega, by rw [m1, hlen]; congr 1; omega, by omega, q4.same m4 (fun j k z _ _ => hma j k (by omega) (by omega)) m5 (by omega), by rw [v4]; exact q5, by rw [v5]; exact q6, by omega, by omega, ?_, ?_, fun k hk => by rw [hma 52 k (by decide) (by decide), hma 53 k (by decide) (by decide)]; exact q11 k hk⟩
    · rw [v3, nsP_all]; omega
    · rw [v3, nsP_all]; omega
  · intro j hj hn
    rw [v1] at hj
    exact (hX j hj hn).keep (v6 j hn) (m7 18 _ (by decide) (fun z => hne j hj hn z.1)) (m7 19 _ (by decide) (fun z => hne j hj hn z.1)) hT (by omega) m5 hP
theorem UpV.nil {v v' : VS} {i : Nat} (h1 : ct v' = ct v) (h2 : vo v' = vo v) (h3 : vr v' = vr v) (h4 : ∀ j k, ¬ (j = i ∧ 3 ≤ k) → vb v' j k = vb v j k) : UpV v v' i [] := ⟨h1, h2, by unfold tx; rw [h3, List.append_nil], by rw [h3], by rw [h3], fun j e => by funext k; exact h4 j k (fun z => e z.1), h4 i 0 (fun z => by omega), h4 i 1 (fun z => by omega), h4 i 2 (fun z => by omega)⟩
/-! how much a line can still begin -/
def wt : List Int32 → Nat
  | [] => 0
  | [x] => if x = 32 then 0 else 2
  | x :: y :: r => (if x = 32 then 0 else if y = 32 then 2 else 1) + wt (y :: r)
def phi (xs : List Int32) (p : Nat) : Nat := wt (xs.drop p)
theorem wt_cons (x : Int32) (l : List Int32) : wt l ≤ wt (x :: l) := by
  cases l with
  | nil => exact Nat.zero_le _
  | cons y r => exact Nat.le_add_left _ _
theorem phi_mono {xs : List Int32} {p q : Nat} (h : p ≤ q) : phi xs q ≤ phi xs p := by
  obtain ⟨k, rfl⟩ := Nat.le.dest h
  clear h
  induction k with
  | zero => exact Nat.le_refl _
  | succ k ih =>
    refine Nat.le_trans ?_ ih
    unfold phi
    by_cases e : p + k < xs.length
    · rw [List.drop_eq_getElem_cons e]
      exact wt_cons _ _
    · rw [List.drop_eq_nil_of_le (show xs.length ≤ p + (k + 1) by omega)]
      exact Nat.zero_le _
theorem phi_1 {xs : List Int32} {p : Nat} (h : p < xs.length) (h31 : p < 2 ^ 31) (hn : tA xs p ≠ 32) : phi xs (p + 1) + 1 ≤ phi xs p := by
  have hx : tA xs p = xs[p] := by
    show rowAt _ _ = _
    rw [rowAt_nI h31]
    simp [h]
  rw [hx] at hn
  unfold phi
  rw [List.drop_eq_getElem_cons h]
  cases hd : xs.drop (p + 1) with
  | nil => show 0 + 1 ≤ if xs[p] = 32 then 0 else 2; rw [if_neg hn]; decide
  | cons y r =>
    show wt (y :: r) + 1 ≤ (if xs[p] = 32 then 0 else if y = 32 then 2 else 1) + wt (y :: r)
    rw [if_neg hn]
    split <;> omega
theorem phi_2 {xs : List Int32} {p : Nat} (h : p < xs.length) (h31 : p + 1 < 2 ^ 31) (hn : tA xs p ≠ 32) (hs : xs.length ≤ p + 1 ∨ tA xs (p + 1) = 32) : phi xs (p + 1) + 2 ≤ phi xs p := by
  have hx : tA xs p = xs[p] := by
    show rowAt _ _ = _
    rw [rowAt_nI (by omega)]
    simp [h]
  rw [hx] at hn
  unfold phi
  rw [List.drop_eq_getElem_cons h]
  by_cases e : p + 1 < xs.length
  · have hy : tA xs (p + 1) = xs[p + 1] := by
      show rowAt _ _ = _
      rw [rowAt_nI h31]
      simp [e]
    rw [hy] at hs
    rw [List.drop_eq_getElem_cons e]
    show _ + 2 ≤ (if xs[p] = 32 then 0 else if xs[p + 1] = 32 then 2 else 1) + _
    rw [if_neg hn, if_pos (by rcases hs with z | z; omega; exact z)]
    omega
  · rw [List.drop_eq_nil_of_le (show xs.length ≤ p + 1 by omega)]
    show 0 + 2 ≤ if xs[p] = 32 then 0 else 2
    rw [if_neg hn]
    decide
/-- a place that is not blank weighs something -/
theorem phi_pos {v : VS} (hL : ld v = spF (lx v) (lp v)) (hl : (lx v).length ≤ 12100) (hb : ¬ (lx v).length ≤ sA v) : 1 ≤ phi (lx v) (sA v) ∧ phi (lx v) (sA v) ≤ phi (lx v) (lp v) := by
  have := phi_1 (xs := lx v) (p := sA v) (by omega) (by omega) (start_ns hL hl hb)
  exact ⟨by omega, phi_mono (Nat.le_add_right _ _)⟩
