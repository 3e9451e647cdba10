section KB
variable {K : Nat}
/-! the loop over beginnings: both sides -/
def GrT (xs T T' : List Int32) : Prop := ∃ os, T' = T ++ os ∧ os.length ≤ xs.length + 1 ∧ os.countP nsB ≤ xs.countP nsB
theorem GrT.rfl {xs T : List Int32} : GrT xs T T := ⟨[], by rw [List.append_nil], Nat.zero_le _, Nat.zero_le _⟩
/-- the class at the end of a line -/
def CDn (K : Nat) (T0 : List Int32) (v : VS) (t B : Nat) : Prop := t ≤ 13 ∧ (kd v (vo v t) ≤ 3 → t ≤ 12) ∧ LI v t ∧ (B ≤ K ∧ K ≤ 3002) ∧ (kd v (vo v t) = 7 → vb v (vo v t) 12 = 0 → vb v (vo v t) 6 ≠ 0) ∧ GrT (lx v) T0 (tx v)
/-- behind the loop: class, both -/
def XC (K : Nat) (T0 : List Int32) (v : VS) (t B h n : Nat) : Prop := (vi v 67 = 1 ∧ CDn K T0 v t B) ∨ (vi v 67 = 0 ∧ CB K v t B h n ∧ tx v = T0)
def XR (m0 : MS → Prop) (v : VS) (m : MS) (μ : Nat → Nat) (t o B E : Nat) (D : DL) (h bt : Nat) (x4 : Int32) : Prop := (vi v 67 = 1 ∧ RDn m0 v m μ t o B E D) ∨ (vi v 67 = 0 ∧ RB m0 v m μ t o B E D h bt x4)
/-- how many turns there were -/
def Cnt (v : VS) (t h k : Nat) : Prop := k = 0 ∨ (k ≤ 1 ∧ kd v (vo v h) ≠ 4) ∨ (h = t ∧ (kd v (vo v t) = 1 ∨ kd v (vo v t) = 3) ∧ k ≤ t + 2)
def Nt (bg : Nat) : Prop := bg ≠ 1 ∧ bg ≠ 5 ∧ bg ≠ 8 ∧ bg ≠ 10
/-- the loop goes on -/
def Act (K : Nat) (Y : MX) (T0 : List Int32) (S : MS → Prop) (m0 : MS → Prop) (n bt : Nat) (x3 x4 : Int32) (k : Nat) (c' : CS) : Prop := ∃ (μ : Nat → Nat) (t o B : Nat) (D : DL) (h : Nat) (b : Bool), vi c'.1 67 = 0 ∧ kd c'.1 (vo c'.1 h) ≠ 7 ∧ CB K c'.1 t B h n ∧ tx c'.1 = T0 ∧ Cnt c'.1 t h k ∧ (b = true → Nt (bgF c'.1 (kd c'.1 (vo c'.1 h)) (kd c'.1 (vo c'.1 t)))) ∧ ∀ Φ P, Cl163 Y (nI n) (nI bt) x3 x4 Φ P → (∀ m' E', RB m0 c'.1 m' μ t o B E' D h bt x4 → Q163 Y c'.1 n bt b P m') → ∀ m, S m → P 1 m
/-- the loop ends -/
def Ext (K : Nat) (Y : MX) (T0 : List Int32) (S : MS → Prop) (m0 : MS → Prop) (n bt : Nat) (x3 x4 : Int32) (c' : CS) : Prop := ∃ (μ : Nat → Nat) (t o B : Nat) (D : DL) (h : Nat), XC K T0 c'.1 t B h n ∧ ∀ Φ P, Cl163 Y (nI n) (nI bt) x3 x4 Φ P → (∀ m' E', XR m0 c'.1 m' μ t o B E' D h bt x4 → P 0 m') → ∀ m, S m → P 1 m
def Dpt (Y : MX) (S : MS → Prop) (m0 : MS → Prop) (n bt : Nat) (x3 x4 : Int32) : Prop := ∀ Φ P, Cl163 Y (nI n) (nI bt) x3 x4 Φ P → (∀ m', m'.1 5 = nI n → FrX m0 m' → P 1 m') → ∀ m, S m → P 1 m
theorem wit {Y : MX} {a1 : Array Value} (G : mF Y a1) {x1 x2 x3 x4 : Int32} {S : MS → Prop} (hσ : ∃ m σ, S m ∧ MV Y m σ) {R : MS → Nat → Prop} {Q : (Int32 → MS → Prop) → MS → Prop} (h : ∀ Φ P, Cl163 Y x1 x2 x3 x4 Φ P → (∀ m' E', R m' E' → Q P m') → ∀ m, S m → P 1 m) : ∃ m' E', R m' E' := by
  apply Classical.byContradiction
  intro hn
  obtain ⟨m, σ, hS, hV⟩ := hσ
  exact no163 G ⟨σ, hV⟩ (fun Φ P hcl => h Φ P hcl (fun m' E' hR => absurd ⟨m', E', hR⟩ hn) m hS)
theorem bgF_val (v : VS) (kh kt : Nat) : bgF v kh kt = 0 ∨ bgF v kh kt = 1 ∨ bgF v kh kt = 3 ∨ bgF v kh kt = 5 ∨ bgF v kh kt = 6 ∨ bgF v kh kt = 8 ∨ bgF v kh kt = 9 ∨ bgF v kh kt = 10 := by
  unfold bgF
  repeat' split
  all_goals omega
/-- behind findMark or not: the same but for the mark -/
theorem mk_same {v v1 : VS} (h : v1 = v ∨ v1 = mkT v) : VSame v v1 ∧ (lx v1 = lx v ∧ lp v1 = lp v ∧ ld v1 = ld v) ∧ (∀ k, k ≠ 54 → k ≠ 56 → vi v1 k = vi v k) ∧ vb v1 = vb v ∧ vo v1 = vo v ∧ vr v1 = vr v ∧ (∀ k, k ≠ 55 → vn v1 k = vn v k) ∧ vy v1 = vy v := by
  rcases h with e | e
  · rw [e]
    exact ⟨VSame.rfl, ⟨rfl, rfl, rfl⟩, fun _ _ _ => rfl, rfl, rfl, rfl, fun _ _ => rfl, rfl⟩
  · rw [e]
    refine ⟨⟨rfl, rfl, rfl, rfl, rfl, rfl, rfl⟩, ⟨rfl, rfl, rfl⟩, fun k h1 h2 => ?_, rfl, rfl, rfl, fun k h1 => ?_, rfl⟩
    · show (if k = 56 then _ else if k = 54 then _ else vi v k) = _
      rw [if_neg h2, if_neg h1]
    · show (if k = 55 then _ else vn v k) = _
      rw [if_neg h1]
theorem CB.mk {v v1 : VS} {t B h n : Nat} (hC : CB K v t B h n) (hs : v1 = v ∨ v1 = mkT v) : CB K v1 t B h n := by
  obtain ⟨s1, s2, s3, s4, s5, s6, s7, s8⟩ := mk_same hs
  obtain ⟨c1, c2, c3⟩ := hC
  refine ⟨c1.sh (SH.of s5 s4 s6 (fun k hk => s3 k (by omega) (by omega))), by unfold PH kd at c2 ⊢; rw [s2.1, s2.2.1, s4, s5]; exact c2, ?_⟩
  unfold NE at c3 ⊢
  unfold kd sA at c3 ⊢
  rw [s4, s5, s2.1, s2.2.1, s2.2.2]
  exact c3
theorem bgF_1 {v : VS} {kh kt : Nat} (h : bgF v kh kt = 1) : ld v < 4 ∧ rowAt (lx v) (nI (sA v)) = 62 := by
  unfold bgF at h
  split at h
  · omega
  · split at h
    · split at h <;> omega
    · split at h
      · next q1 q2 q3 => exact ⟨by omega, q3⟩
      · repeat' split at h
        all_goals omega
theorem bgF_nb {v : VS} {kh kt : Nat} (h : bgF v kh kt ≠ 0) : ¬ (lx v).length ≤ sA v := by
  intro z
  apply h
  unfold bgF
  rw [if_pos z]
theorem bgF_9 {v : VS} {kh kt : Nat} (h : bgF v kh kt = 9) : 4 ≤ ld v := by
  apply Decidable.byContradiction
  intro z
  unfold bgF at h
  split at h
  · omega
  · repeat' split at h
    all_goals omega
theorem bgF_5 {v : VS} {kh kt : Nat} (h : bgF v kh kt = 5) : 0 < hdLv (lx v) (sA v) := by
  unfold bgF at h
  split at h
  · omega
  · split at h
    · split at h <;> omega
    · split at h
      · omega
      · split at h
        · next q => exact q
        · repeat' split at h
          all_goals omega
theorem bgF_8 {v : VS} {kh kt : Nat} (h : bgF v kh kt = 8) : 0 < fnLn (lx v) (sA v) := by
  unfold bgF at h
  split at h
  · omega
  · split at h
    · split at h <;> omega
    · split at h
      · omega
      · split at h
        · omega
        · split at h
          · next q => exact q
          · repeat' split at h
            all_goals omega
theorem bgF_10 {v : VS} {kh kt : Nat} (h : bgF v kh kt = 10) : kh = 4 ∧ 0 < ulLv (lx v) (sA v) ∧ ld v < 4 ∧ ∀ kh' kt', kh' ≠ 4 → Nt (bgF v kh' kt') := by
  unfold bgF at h
  split at h
  · omega
  · next q1 =>
    split at h
    · split at h <;> omega
    · next q2 =>
      split at h
      · omega
      · next q3 =>
        split at h
        · omega
        · next q4 =>
          split at h
          · omega
          · next q5 =>
            split at h
            · next q6 =>
              refine ⟨q6.1, q6.2, by omega, fun kh' kt' hk => ?_⟩
              unfold Nt bgF
              rw [if_neg q1, if_neg q2, if_neg q3, if_neg q4, if_neg q5, if_neg (fun y => hk y.1)]
              repeat' split
              all_goals exact ⟨by decide, by decide, by decide, by decide⟩
            · repeat' split at h
              all_goals omega
theorem bgF_3 {v : VS} {kh kt : Nat} (h : bgF v kh kt = 3) : mkB (lx v) (sA v) = true := by
  unfold bgF at h
  split at h
  · omega
  · split at h
    · split at h <;> omega
    · split at h
      · omega
      · split at h
        · omega
        · split at h
          · omega
          · split at h
            · omega
            · split at h
              · omega
              · split at h
                · next q => exact q.1
                · omega
theorem bgF_cg {v v' : VS} {kh kt : Nat} (h : lx v' = lx v ∧ lp v' = lp v ∧ ld v' = ld v) : bgF v' kh kt = bgF v kh kt := by
  unfold bgF sA
  rw [h.1, h.2.1, h.2.2]
/-- the mark weighs two -/
theorem mk_phi {v : VS} (hl : (lx v).length ≤ 12100) (hs : sA v ≤ (lx v).length) (h : mkB (lx v) (sA v) = true) : phi (lx v) (ipF v) + 2 ≤ phi (lx v) (lp v) := by
  obtain ⟨hS, hse⟩ := mkB_iff.mp h
  have hdg : dgC (lx v) (sA v) ≤ 9 := by unfold dgC; exact Nat.min_le_left _ _
  have hx : mkS (lx v) (sA v) ≠ -1 ∧ mkS (lx v) (sA v) ≠ 32 := by
    split at hS
    · rcases hS with z | z | z <;> (rw [z]; decide)
    · rcases hS with z | z <;> (rw [z]; decide)
  have hin : sA v + dgC (lx v) (sA v) < (lx v).length := rowAt_in (by omega) rfl hx.1
  have h2 := phi_2 (xs := lx v) (p := sA v + dgC (lx v) (sA v)) hin (by omega) hx.2 (by
    rcases hse with z | z
    · exact Or.inl (by omega)
    · exact Or.inr z)
  have hw := itW_le (xs := lx v) (i := sA v) (d := ld v) (l := mlF v)
  have h3 : phi (lx v) (ipF v) ≤ phi (lx v) (sA v + dgC (lx v) (sA v) + 1) := by
    apply phi_mono
    have e1 : ipF v = min (lp v + itW (lx v) (sA v) (ld v) (mlF v)) (lx v).length := rfl
    have e2 : sA v = lp v + ld v := rfl
    have e3 : mlF v = dgC (lx v) (sA v) + 1 := rfl
    omega
  have h4 : phi (lx v) (sA v + dgC (lx v) (sA v)) ≤ phi (lx v) (lp v) := by
    apply phi_mono
    have e2 : sA v = lp v + ld v := rfl
    omega
  omega
end KB
