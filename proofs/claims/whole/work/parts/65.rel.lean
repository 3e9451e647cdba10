/-! THE RELATION of the class's state and the model's: block i of the class is block μ i of the model -/
abbrev kd (v : VS) (i : Nat) : Nat := (vb v i 0).toNatClampNeg
abbrev ct (v : VS) : Nat := vn v 23
abbrev tx (v : VS) : List Int32 := vr v 10
/-- block i: kind, index, holder, number, looseness, lines, width, sign -/
def BK (v : VS) (m : MS) (μ : Nat → Nat) (i : Nat) : Prop := (vb v i 0 = nI (kd v i) ∧ kd v i ≤ 7 ∧ (kd v i = 0 ↔ i = 0)) ∧ m.2 13 (μ i) = vb v i 0 ∧ vb v i 1 = nI i ∧ (i = 0 → vb v i 2 = -1 ∧ m.2 14 (μ i) = -1) ∧ (0 < i → ∃ u, u < i ∧ vb v i 2 = nI u ∧ m.2 14 (μ i) = nI (μ u)) ∧ vb v i 3 = m.2 15 (μ i) ∧ (vb v i 4 = 0 ∧ m.2 27 (μ i) = 0) ∧ (∃ a b, a ≤ 3001 ∧ b ≤ 3001 ∧ vb v i 9 = nI a ∧ m.2 16 (μ i) = nI a ∧ vb v i 10 = nI b ∧ m.2 17 (μ i) = nI b) ∧ (kd v i = 3 → ∃ w, w ≤ 13000 ∧ vb v i 11 = nI w ∧ m.2 24 (μ i) = nI w) ∧ (kd v i ≠ 3 → vb v i 11 = 0) ∧ (kd v i ≠ 0 → vb v i 12 = m.2 22 (μ i)) ∧ vb v i 13 = -1 ∧ (kd v i ≠ 2 → kd v i ≠ 5 → vb v i 3 = 0) ∧ (kd v i ≠ 2 → kd v i ≠ 7 → vb v i 12 = 0)
/-- a slice of the text and a slice of the pool -/
def SLc (T : List Int32) (m : MS) (P : Nat) (x y p q : Int32) : Prop := ∃ a n w : Nat, x = nI a ∧ y = nI n ∧ p = nI w ∧ q = nI n ∧ a + n ≤ T.length ∧ w + n ≤ P ∧ ∀ k, k < n → m.2 7 (k + w) = tA T (a + k)
def TX (v : VS) (m : MS) (μ : Nat → Nat) (P i : Nat) : Prop := ((kd v i = 4 ∨ kd v i = 5 ∨ kd v i = 7) → SLc (tx v) m P (vb v i 5) (vb v i 6) (m.2 18 (μ i)) (m.2 19 (μ i))) ∧ (¬ (kd v i = 4 ∨ kd v i = 5 ∨ kd v i = 7) → vb v i 6 = 0)
def IX (v : VS) (m : MS) (μ : Nat → Nat) (P i : Nat) : Prop := (kd v i = 7 → SLc (tx v) m P (vb v i 7) (vb v i 8) (m.2 20 (μ i)) (m.2 21 (μ i))) ∧ (kd v i ≠ 7 → vb v i 8 = 0)
/-- how many blocks of the first n are in block i -/
def hdN (v : VS) (i : Nat) : Nat → Nat
  | 0 => 0
  | n + 1 => hdN v i n + (if 0 < n ∧ vb v n 2 = nI i then 1 else 0)
/-- the leaf that is open -/
def LF (v : VS) (m : MS) (μ : Nat → Nat) (B E : Nat) (D : DL) (i : Nat) : Prop := i + 1 = ct v ∧ μ i + 1 = B ∧ ∃ f, vb v i 5 = nI f ∧ f ≤ (tx v).length ∧ m.2 18 (μ i) = nI (f + E) ∧ m.2 19 (μ i) = nI ((tx v).length - f) ∧ (∀ k, f ≤ k → k < (tx v).length → m.2 7 (k + E) = tA (tx v) k) ∧ E ≤ f ∧ (flatD D).length ≤ f ∧ 5 * D.length ≤ f ∧ 5 * D.length ≤ nsP (tx v) f ∧ ((f = (tx v).length ∧ vb v i 6 = 0) ∨ (kd v i = 4 ∧ vb v i 6 = nI ((tx v).length - f) ∧ ∃ p, LPar (tx v) f p) ∨ (kd v i = 7 ∧ vb v i 12 ≠ 0 ∧ vb v i 6 = nI ((tx v).length - f)) ∨ (kd v i = 7 ∧ vb v i 12 = 0 ∧ ∃ p q, LCod (tx v) f p q ∧ vb v i 6 = nI (q + 1 - f)))
/-- counts, places, what is gone -/
def RG (v : VS) (m : MS) (μ : Nat → Nat) (B : Nat) : Prop := 1 ≤ ct v ∧ B ≤ 3250 ∧ m.1 28 = nI B ∧ μ 0 = 0 ∧ (∀ i j, i < j → j < ct v → μ i < μ j) ∧ (∀ i, i < ct v → μ i < B) ∧ ∀ j, j < B → (m.2 26 j = 0 ∧ ∃ i, i < ct v ∧ μ i = j) ∨ (m.2 26 j = 1 ∧ ∀ i, i < ct v → μ i ≠ j)
/-- the blocks -/
def RK (v : VS) (m : MS) (μ : Nat → Nat) (P : Nat) : Prop := ∀ i, i < ct v → BK v m μ i ∧ IX v m μ P i ∧ m.2 25 (μ i) = nI (hdN v i (ct v))
/-- the open ones, up to t -/
def RO (v : VS) (m : MS) (μ : Nat → Nat) (t o : Nat) : Prop := t ≤ 20 ∧ vo v 0 = 0 ∧ m.1 30 = nI o ∧ o ≤ t + 1 ∧ (∀ k, k ≤ t → vo v k < ct v) ∧ (∀ k, k < o → m.2 29 k = nI (μ (vo v k))) ∧ (∀ k, k < t → vo v k < vo v (k + 1) ∧ vb v (vo v (k + 1)) 2 = nI (vo v k) ∧ kd v (vo v k) ≤ 3) ∧ ∀ k, k ≤ t → ∀ w, vo v k < w → w < ct v → ∃ u, (vo v k ≤ u ∧ u < w) ∧ vb v w 2 = nI u ∧ (kd v w = 3 → kd v u = 2)
/-- text, pool, definitions -/
def RT (v : VS) (m : MS) (E : Nat) (D : DL) : Prop := (tx v).length ≤ 12010 ∧ m.1 10 = nI ((tx v).length + E) ∧ E ≤ (tx v).length ∧ DsM m D ((tx v).length + E) ∧ vr v 12 = flatD D ∧ vr v 13 = endsD 0 D ∧ (flatD D).length ≤ (tx v).length ∧ 5 * D.length ≤ (tx v).length ∧ 5 * D.length ≤ nsP (tx v) (tx v).length ∧ nsP (tx v) (tx v).length ≤ 3000 ∧ NmC m
/-- all closed -/
def RA (v : VS) (m : MS) (μ : Nat → Nat) (t o B E : Nat) (D : DL) : Prop := RG v m μ B ∧ RK v m μ ((tx v).length + E) ∧ RO v m μ t o ∧ RT v m E D ∧ ∀ i, i < ct v → TX v m μ ((tx v).length + E) i
/-- the leaf at the tip may be open -/
def RL (v : VS) (m : MS) (μ : Nat → Nat) (t o B E : Nat) (D : DL) : Prop := RG v m μ B ∧ RK v m μ ((tx v).length + E) ∧ RO v m μ t o ∧ RT v m E D ∧ o = t + 1 ∧ (kd v (vo v t) = 4 ∨ kd v (vo v t) = 7) ∧ LF v m μ B E D (vo v t) ∧ ∀ i, i < ct v → i ≠ vo v t → TX v m μ ((tx v).length + E) i
/-- between the steps of a line: a container at the tip; or a leaf that is done; or an open leaf -/
def RR (v : VS) (m : MS) (μ : Nat → Nat) (t o B E : Nat) (D : DL) : Prop := vi v 64 = nI t ∧ (RL v m μ t o B E D ∨ (RA v m μ t o B E D ∧ ((kd v (vo v t) ≤ 3 ∧ o = t + 1) ∨ ((kd v (vo v t) = 5 ∨ kd v (vo v t) = 6) ∧ o = t))))
theorem nI_kd {v : VS} {m : MS} {μ : Nat → Nat} {i : Nat} (h : BK v m μ i) (k : Nat) (hk : k < 2 ^ 31) : vb v i 0 = nI k ↔ kd v i = k := by
  rw [h.1.1, nI_eq (by have := h.1.2.1; omega) hk]
/-- the slice stays where text and pool have grown -/
theorem SLc.keep {T T' : List Int32} {m m' : MS} {P P' : Nat} {x y p q : Int32} (h : SLc T m P x y p q) (hT : ∀ k, k < T.length → tA T' k = tA T k) (hl : T.length ≤ T'.length) (hm : ∀ i, i < P → m'.2 7 i = m.2 7 i) (hP : P ≤ P') : SLc T' m' P' x y p q := by
  obtain ⟨a, n, w, h1, h2, h3, h4, h5, h6, h7⟩ := h
  refine ⟨a, n, w, h1, h2, h3, h4, by omega, by omega, fun k hk => ?_⟩
  rw [hm _ (by omega), h7 k hk, hT _ (by omega)]
theorem BK.keep {v v' : VS} {m m' : MS} {μ : Nat → Nat} {i : Nat} (h : BK v m μ i) (hv : vb v' i = vb v i) (hm : ∀ k, 13 ≤ k → k ≤ 27 → k ≠ 18 → k ≠ 19 → k ≠ 20 → k ≠ 21 → k ≠ 23 → k ≠ 25 → k ≠ 26 → m'.2 k (μ i) = m.2 k (μ i)) : BK v' m' μ i := by
  unfold BK kd at *
  rw [hv, hm 13 (by decide) (by decide) (by decide) (by decide) (by decide) (by decide) (by decide) (by decide) (by decide), hm 14 (by decide) (by decide) (by decide) (by decide) (by decide) (by decide) (by decide) (by decide) (by decide), hm 15 (by decide) (by decide) (by decide) (by decide) (by decide) (by decide) (by decide) (by decide) (by decide), hm 16 (by decide) (by decide) (by decide) (by decide) (by decide) (by decide) (by decide) (by decide) (by decide), hm 17 (by decide) (by decide) (by decide) (by decide) (by decide) (by decide) (by decide) (by decide) (by decide), hm 22 (by decide) (by decide) (by decide) (by decide) (by decide) (by decide) (by decide) (by decide) (by decide), hm 24 (by decide) (by decide) (by decide) (by decide) (by decide) (by decide) (by decide) (by decide) (by decide), hm 27 (by decide) (by decide) (by decide) (by decide) (by decide) (by decide) (by decide) (by decide) (by decide)]
  exact h
theorem IX.keep {v v' : VS} {m m' : MS} {μ : Nat → Nat} {P P' i : Nat} (h : IX v m μ P i) (hv : vb v' i = vb v i) (h20 : m'.2 20 (μ i) = m.2 20 (μ i)) (h21 : m'.2 21 (μ i) = m.2 21 (μ i)) (hT : ∀ k, k < (tx v).length → tA (tx v') k = tA (tx v) k) (hl : (tx v).length ≤ (tx v').length) (hm : ∀ j, j < P → m'.2 7 j = m.2 7 j) (hP : P ≤ P') : IX v' m' μ P' i := by
  unfold IX kd at *
  rw [hv, h20, h21]
  exact ⟨fun q => (h.1 q).keep hT hl hm hP, h.2⟩
theorem TX.keep {v v' : VS} {m m' : MS} {μ : Nat → Nat} {P P' i : Nat} (h : TX v m μ P i) (hv : vb v' i = vb v i) (h18 : m'.2 18 (μ i) = m.2 18 (μ i)) (h19 : m'.2 19 (μ i) = m.2 19 (μ i)) (hT : ∀ k, k < (tx v).length → tA (tx v') k = tA (tx v) k) (hl : (tx v).length ≤ (tx v').length) (hm : ∀ j, j < P → m'.2 7 j = m.2 7 j) (hP : P ≤ P') : TX v' m' μ P' i := by
  unfold TX kd at *
  rw [hv, h18, h19]
  exact ⟨fun q => (h.1 q).keep hT hl hm hP, h.2⟩
theorem hdN_keep {v v' : VS} {i : Nat} : ∀ n, (∀ j, j < n → vb v' j 2 = vb v j 2) → hdN v' i n = hdN v i n := by
  intro n
  induction n with
  | zero => intro _; rfl
  | succ n ih =>
    intro h
    show hdN v' i n + _ = hdN v i n + _
    rw [ih (fun j hj => h j (by omega)), h n (by omega)]
/-- what may change without touching the relation -/
def VSame (v v' : VS) : Prop := ct v' = ct v ∧ vb v' = vb v ∧ vo v' = vo v ∧ vr v' 10 = vr v 10 ∧ vr v' 12 = vr v 12 ∧ vr v' 13 = vr v 13 ∧ vi v' 64 = vi v 64
def MSame (m m' : MS) : Prop := m'.1 10 = m.1 10 ∧ m'.1 28 = m.1 28 ∧ m'.1 30 = m.1 30 ∧ m'.1 40 = m.1 40 ∧ (∀ i, m'.2 7 i = m.2 7 i) ∧ (∀ k i, 13 ≤ k → k ≠ 37 → k ≠ 38 → m'.2 k i = m.2 k i)
theorem MSame.rfl {m : MS} : MSame m m := ⟨_root_.rfl, _root_.rfl, _root_.rfl, _root_.rfl, fun _ => _root_.rfl, fun _ _ _ _ _ => _root_.rfl⟩
theorem VSame.rfl {v : VS} : VSame v v := ⟨_root_.rfl, _root_.rfl, _root_.rfl, _root_.rfl, _root_.rfl, _root_.rfl, _root_.rfl⟩
theorem RG.same {v v' : VS} {m m' : MS} {μ : Nat → Nat} {B : Nat} (h : RG v m μ B) (hv : ct v' = ct v) (h28 : m'.1 28 = m.1 28) (h26 : ∀ j, j < B → m'.2 26 j = m.2 26 j) : RG v' m' μ B := by
  obtain ⟨q1, q2, q3, q4, q5, q6, q7⟩ := h
  unfold RG
  rw [hv, h28]
  exact ⟨q1, q2, q3, q4, q5, q6, fun j hj => by rw [h26 j hj]; exact q7 j hj⟩
theorem RT.same {v v' : VS} {m m' : MS} {E : Nat} {D : DL} (h : RT v m E D) (h10 : vr v' 10 = vr v 10) (h12 : vr v' 12 = vr v 12) (h13 : vr v' 13 = vr v 13) (g10 : m'.1 10 = m.1 10) (g40 : m'.1 40 = m.1 40) (g7 : ∀ i, m'.2 7 i = m.2 7 i) (ga : ∀ k i, 41 ≤ k → m'.2 k i = m.2 k i) : RT v' m' E D := by
  obtain ⟨q1, q2, q3, q4, q5, q6, q7, q8, q9, q10, q11⟩ := h
  unfold RT tx
  rw [h10, h12, h13, g10]
  exact ⟨q1, q2, q3, q4.same g40 (fun j k z _ _ => ga j k z) (fun i _ => g7 i) (Nat.le_refl _), q5, q6, q7, q8, q9, q10, fun k hk => by rw [ga 52 k (by decide), ga 53 k (by decide)]; exact q11 k hk⟩
theorem RR.same {v v' : VS} {m m' : MS} {μ : Nat → Nat} {t o B E : Nat} {D : DL} (h : RR v m μ t o B E D) (hv : VSame v v') (hm : MSame m m') : RR v' m' μ t o B E D := by
  obtain ⟨a1, a2, a3, a4, a5, a6, a7⟩ := hv
  obtain ⟨b1, b2, b3, b4, b5, b6⟩ := hm
  have htx : tx v' = tx v := a4
  have hK : RK v m μ ((tx v).length + E) → RK v' m' μ ((tx v').length + E) := by
    intro hK i hi
    rw [a1] at hi
    obtain ⟨k1, k2, k3⟩ := hK i hi
    refine ⟨k1.keep (by rw [a2]) (fun k z1 z2 _ _ _ _ _ _ _ => b6 k _ z1 (by omega) (by omega)), ?_, ?_⟩
    · rw [htx]
      exact k2.keep (by rw [a2]) (b6 20 _ (by decide) (by decide) (by decide)) (b6 21 _ (by decide) (by decide) (by decide)) (fun k _ => by rw [htx]) (by rw [htx]; exact Nat.le_refl _) (fun j _ => b5 j) (Nat.le_refl _)
    · rw [b6 25 _ (by decide) (by decide) (by decide), k3, a1, hdN_keep _ (fun j _ => by rw [a2])]
  have hO : RO v m μ t o → RO v' m' μ t o := by
    rintro ⟨o1, o2, o3, o4, o5, o6, o7, o8⟩
    unfold RO kd
    rw [a1, a2, a3, b3]
    exact ⟨o1, o2, o3, o4, o5, fun k hk => by rw [b6 29 _ (by decide) (by decide) (by decide)]; exact o6 k hk, o7, o8⟩
  have hG : RG v m μ B → RG v' m' μ B := fun q => q.same a1 b2 (fun j _ => b6 26 j (by decide) (by decide) (by decide))
  have hT : RT v m E D → RT v' m' E D := fun q => q.same a4 a5 a6 b1 b4 b5 (fun k i z => b6 k i (by omega) (by omega) (by omega))
  have hX : ∀ i, TX v m μ ((tx v).length + E) i → TX v' m' μ ((tx v').length + E) i := by
    intro i q
    rw [htx]
    exact q.keep (by rw [a2]) (b6 18 _ (by decide) (by decide) (by decide)) (b6 19 _ (by decide) (by decide) (by decide)) (fun k _ => by rw [htx]) (by rw [htx]; exact Nat.le_refl _) (fun j _ => b5 j) (Nat.le_refl _)
  have hkd : ∀ i, kd v' i = kd v i := fun i => by unfold kd; rw [a2]
  refine ⟨a7.trans h.1, ?_⟩
  rcases h.2 with ⟨r1, r2, r3, r4, r5, r6, r7, r8⟩ | ⟨⟨r1, r2, r3, r4, r5⟩, r6⟩
  · refine Or.inl ⟨hG r1, hK r2, hO r3, hT r4, r5, by rw [hkd, a3]; exact r6, ?_, fun i q1 q2 => hX i (r8 i (by rw [← a1]; exact q1) (by rw [← a3]; exact q2))⟩
    obtain ⟨l1, l2, f, l3, l4, l5, l6, l7, l8⟩ := r7
    rw [a3]
    refine ⟨by rw [a1]; exact l1, l2, f, by rw [a2]; exact l3, by rw [htx]; exact l4, by rw [b6 18 _ (by decide) (by decide) (by decide)]; exact l5, by rw [b6 19 _ (by decide) (by decide) (by decide), htx]; exact l6, fun k q1 q2 => by rw [b5, htx]; rw [htx] at q2; exact l7 k q1 q2, ?_⟩
    rw [htx, a2, hkd]
    exact l8
  · exact Or.inr ⟨⟨hG r1, hK r2, hO r3, hT r4, fun i q => hX i (r5 i (by rw [← a1]; exact q))⟩, by rw [hkd, a3]; exact r6⟩
