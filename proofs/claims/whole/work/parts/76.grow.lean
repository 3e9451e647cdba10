/-! the leaf at the tip gets more text: the relation is kept -/
theorem nsP_app {T os : List Int32} {f : Nat} (h : f ≤ T.length) : nsP (T ++ os) f = nsP T f := by
  unfold nsP
  rw [List.take_append_of_le_length h]
theorem nsP_all (T os : List Int32) : nsP (T ++ os) (T ++ os).length = nsP T T.length + os.countP nsB := by
  unfold nsP
  rw [List.take_length, List.take_length, List.countP_append]
theorem tA_r {a b : List Int32} {k : Nat} (hk : k < 2 ^ 31) (h : a.length ≤ k) : tA (a ++ b) k = tA b (k - a.length) := by
  have := tA_right (a := a) (b := b) (k := k - a.length) (by omega)
  rw [← this]
  congr 2
  omega
/-- the state of the leaf's text, as LF has it -/
def LE (v : VS) (f i : Nat) : Prop := (f = (tx v).length ∧ vb v i 6 = 0) ∨ (kd v i = 4 ∧ vb v i 6 = nI ((tx v).length - f) ∧ ∃ p, LPar (tx v) f p) ∨ (kd v i = 7 ∧ vb v i 12 ≠ 0 ∧ vb v i 6 = nI ((tx v).length - f)) ∨ (kd v i = 7 ∧ vb v i 12 = 0 ∧ ∃ p q, LCod (tx v) f p q ∧ vb v i 6 = nI (q + 1 - f))
/-- text, pool: grown by os -/
def GrV (v v' : VS) (i : Nat) (os : List Int32) : Prop := ct v' = ct v ∧ vo v' = vo v ∧ tx v' = tx v ++ os ∧ vr v' 12 = vr v 12 ∧ vr v' 13 = vr v 13 ∧ ∀ j k, ¬ (j = i ∧ (k = 6 ∨ k = 10)) → vb v' j k = vb v j k
def GrM (m m' : MS) (P b : Nat) (os : List Int32) : Prop := m'.1 10 = nI (P + os.length) ∧ m'.1 28 = m.1 28 ∧ m'.1 30 = m.1 30 ∧ m'.1 40 = m.1 40 ∧ (∀ i, i < P → m'.2 7 i = m.2 7 i) ∧ (∀ k, k < os.length → m'.2 7 (k + P) = tA os k) ∧ ∀ k j, k ≠ 7 → ¬ (j = b ∧ (k = 17 ∨ k = 19)) → m'.2 k j = m.2 k j
theorem RL_text {v v' : VS} {m m' : MS} {μ : Nat → Nat} {t o B E f : Nat} {D : DL} {os : List Int32} (hR : RL v m μ t o B E D) (hf : vb v (vo v t) 5 = nI f) (hf2 : f ≤ (tx v).length) (hV : GrV v v' (vo v t) os) (hM : GrM m m' ((tx v).length + E) (μ (vo v t)) os) (hl : (tx v).length + os.length ≤ 12010) (hns : nsP (tx v) (tx v).length + os.countP nsB ≤ 3000) (hlast : ∃ b, b ≤ 3001 ∧ vb v' (vo v t) 10 = nI b ∧ m'.2 17 (μ (vo v t)) = nI b) (h19 : m'.2 19 (μ (vo v t)) = nI ((tx v).length + os.length - f)) (hend : LE v' f (vo v t)) : RL v' m' μ t o B E D := by
  obtain ⟨rG, rK, rO, rT, ro, rk, rF, rX⟩ := hR
  obtain ⟨v1, v2, v3, v4, v5, v6⟩ := hV
  obtain ⟨m1, m2, m3, m4, m5, m6, m7⟩ := hM
  have hlen : (tx v').length = (tx v).length + os.length := by rw [v3, List.length_append]
  have hT : ∀ k, k < (tx v).length → tA (tx v') k = tA (tx v) k := fun k hk => by rw [v3]; exact tA_left (by omega) hk
  have hkd : ∀ j, kd v' j = kd v j := fun j => by unfold kd; rw [v6 j 0 (fun z => by omega)]
  have hi := rO.2.2.2.2.1 t (Nat.le_refl _)
  have hμi := rG.2.2.2.2.2.1 _ hi
  have hne : ∀ j, j < ct v → j ≠ vo v t → μ j ≠ μ (vo v t) := by
    intro j hj hn e
    rcases Nat.lt_trichotomy j (vo v t) with z | z | z
    · have := rG.2.2.2.2.1 j _ z hi; omega
    · exact hn z
    · have := rG.2.2.2.2.1 _ j z hj; omega
  have hBK : ∀ j, j < ct v → BK v' m' μ j := by
    intro j hj
    obtain ⟨k1, k2, k3⟩ := rK j hj
    by_cases e : j = vo v t
    · unfold BK at k1 ⊢
      obtain ⟨a1, a2, a3, a4, a5, a6, a7, a8, a9⟩ := k1
      obtain ⟨b, b1, b2, b3⟩ := hlast
      rw [hkd, v6 j 0 (fun z => by omega), v6 j 1 (fun z => by omega), v6 j 2 (fun z => by omega), v6 j 3 (fun z => by omega), v6 j 4 (fun z => by omega), v6 j 9 (fun z => by omega), v6 j 11 (fun z => by omega), v6 j 12 (fun z => by omega), v6 j 13 (fun z => by omega), m7 13 _ (by decide) (fun z => by omega), m7 14 _ (by decide) (fun z => by omega), m7 15 _ (by decide) (fun z => by omega), m7 16 _ (by decide) (fun z => by omega), m7 22 _ (by decide) (fun z => by omega), m7 24 _ (by decide) (fun z => by omega), m7 27 _ (by decide) (fun z => by omega)]
      refine ⟨a1, a2, a3, a4, a5, a6, a7, ?_, a9⟩
      obtain ⟨a, b', q1, q2, q3, q4, q5, q6⟩ := a8
      exact ⟨a, b, q1, b1, q3, q4, by rw [e]; exact b2, by rw [e]; exact b3⟩
    · refine k1.keep ?_ (fun k z1 z2 z3 z4 z5 z6 z7 z8 z9 => m7 k _ (by omega) (fun z => hne j hj e z.1))
      funext k
      exact v6 j k (fun z => e z.1)
  have hhd : ∀ i, hdN v' i (ct v') = hdN v i (ct v) := fun i => by rw [v1]; exact hdN_keep _ (fun j _ => v6 j 2 (fun z => by omega))
  have hP : (tx v).length + E ≤ (tx v').length + E := by omega
  refine ⟨rG.same v1 m2 (fun j _ => m7 26 j (by decide) (fun z => by omega)), ?_, ?_, ?_, ro, by rw [v2, hkd]; exact rk, ?_, ?_⟩
  · intro j hj
    rw [v1] at hj
    obtain ⟨k1, k2, k3⟩ := rK j hj
    refine ⟨hBK j hj, ?_, by rw [m7 25 _ (by decide) (fun z => by omega), k3, hhd]⟩
    unfold IX at k2 ⊢
    rw [hkd, v6 j 7 (fun z => by omega), v6 j 8 (fun z => by omega), m7 20 _ (by decide) (fun z => by omega), m7 21 _ (by decide) (fun z => by omega)]
    exact ⟨fun q => (k2.1 q).keep hT (by omega) m5 hP, k2.2⟩
  · obtain ⟨o1, o2, o3, o4, o5, o6, o7, o8⟩ := rO
    refine ⟨o1, by rw [v2]; exact o2, by rw [m3]; exact o3, o4, fun k hk => by rw [v1, v2]; exact o5 k hk, fun k hk => by rw [v2, m7 29 _ (by decide) (fun z => by omega)]; exact o6 k hk, fun k hk => ?_, fun k hk w h1 h2 => ?_⟩
    · rw [v2, v6 _ 2 (fun z => by omega), hkd]
      exact o7 k hk
    · rw [v2] at h1 ⊢
      rw [v1] at h2
      rw [v6 _ 2 (fun z => by omega)]
      simp only [hkd]
      exact o8 k hk w h1 h2
  · obtain ⟨q1, q2, q3, q4, q5, q6, q7, q8, q9, q10, q11⟩ := rT
    refine ⟨by omega, by rw [m1, hlen]; congr 1; omega, by omega, q4.same m4 (fun j k z _ _ => m7 j k (by omega) (fun z => by omega)) m5 (by omega), by rw [v4]; exact q5, by rw [v5]; exact q6, by omega, by omega, ?_, ?_, fun k hk => by rw [m7 52 k (by decide) (fun z => by omega), m7 53 k (by decide) (fun z => by omega)]; exact q11 k hk⟩
    · rw [v3, nsP_all]; omega
    · rw [v3, nsP_all]; omega
  · obtain ⟨l1, l2, f', l3, l4, l5, l6, l7, l8, l9, l10, l11, l12⟩ := rF
    have hff : f' = f := (nI_eq (by have := rT.1; omega) (by have := rT.1; omega)).mp (l3.symm.trans hf)
    subst hff
    rw [v2]
    refine ⟨by rw [v1]; exact l1, l2, f', by rw [v6 _ 5 (fun z => by omega)]; exact hf, by omega, by rw [m7 18 _ (by decide) (fun z => by omega)]; exact l5, by rw [h19, hlen], fun k h1 h2 => ?_, l8, l9, l10, by rw [v3, nsP_app hf2]; exact l11, hend⟩
    by_cases e : k < (tx v).length
    · rw [m5 _ (by omega), l7 k h1 e, hT k e]
    · have := m6 (k - (tx v).length) (by omega)
      rw [show k - (tx v).length + ((tx v).length + E) = k + E by omega] at this
      rw [this, v3, tA_r (by omega) (by omega)]
  · intro j hj hn
    rw [v1] at hj
    rw [v2] at hn
    have hx := rX j hj hn
    unfold TX at hx ⊢
    rw [hkd, v6 j 5 (fun z => by omega), v6 j 6 (fun z => hn z.1), m7 18 _ (by decide) (fun z => by omega), m7 19 _ (by decide) (fun z => hne j hj hn z.1)]
    exact ⟨fun q => (hx.1 q).keep hT (by omega) m5 hP, hx.2⟩
