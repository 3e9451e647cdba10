/-- the pool with o put behind its P numbers -/
def extF (m : MS) (P : Nat) (o : List Int32) : MS := (fun k => if k = 10 then nI (P + o.length) else m.1 k, fun k i => if k = 7 ∧ P ≤ i ∧ i < P + o.length then tA o (i - P) else m.2 k i)
theorem extF_nil {m : MS} {P : Nat} (h : m.1 10 = nI P) : extF m P [] = m := by
  unfold extF
  obtain ⟨a, b⟩ := m
  simp only [Prod.mk.injEq]
  refine ⟨funext fun k => ?_, funext fun k => funext fun i => ?_⟩
  · by_cases e : k = 10
    · subst e; rw [if_pos rfl]; exact h.symm
    · rw [if_neg e]
  · rw [if_neg (fun q => by simp at q; omega)]
theorem tA_app1 {o : List Int32} {c : Int32} {j : Nat} (h : j < o.length) (h31 : j < 2 ^ 31) : tA (o ++ [c]) j = tA o j := by
  rw [tA, tA, rowAt_nI h31, rowAt_nI h31, List.getD_eq_getElem?_getD, List.getD_eq_getElem?_getD, List.getElem?_append_left h]
theorem tA_app2 {o : List Int32} {c : Int32} (h31 : o.length < 2 ^ 31) : tA (o ++ [c]) o.length = c := by
  rw [tA, rowAt_nI h31, List.getD_eq_getElem?_getD, List.getElem?_append_right (Nat.le_refl _), Nat.sub_self]
  rfl
theorem extF_add {m : MS} {P : Nat} {o : List Int32} {c : Int32} (h31 : P + o.length < 100000) : mI (mA (extF m P o) 7 (P + o.length) c) 10 (nI (P + o.length + 1)) = extF m P (o ++ [c]) := by
  unfold extF mI mA
  simp only [Prod.mk.injEq]
  refine ⟨funext fun k => ?_, funext fun k => funext fun i => ?_⟩
  · by_cases e : k = 10
    · subst e; simp; congr 1
    · simp [e]
  · by_cases e : k = 7
    · subst e
      by_cases e2 : i = P + o.length
      · subst e2
        rw [if_pos ⟨rfl, rfl⟩, if_pos ⟨rfl, by omega, by simp⟩, show P + o.length - P = o.length by omega, tA_app2 (by omega)]
      · rw [if_neg (fun q => e2 q.2)]
        by_cases e3 : P ≤ i ∧ i < P + o.length
        · rw [if_pos ⟨rfl, e3⟩, if_pos ⟨rfl, e3.1, by simp; omega⟩, tA_app1 (by omega) (by omega)]
        · rw [if_neg (fun q => e3 q.2), if_neg (fun q => by simp at q; omega)]
    · rw [if_neg (fun q => e q.1), if_neg (fun q => e q.1), if_neg (fun q => e q.1)]
theorem extF_at {m : MS} {P : Nat} {o : List Int32} {i : Nat} (h : i < P) : (extF m P o).2 7 i = m.2 7 i := if_neg (fun q => by omega)
theorem extF_k {m : MS} {P : Nat} {o : List Int32} {k i : Nat} (h : k ≠ 7) : (extF m P o).2 k i = m.2 k i := if_neg (fun q => h q.1)
theorem extF_in {m : MS} {P : Nat} {o : List Int32} {i : Nat} (h : i < o.length) : (extF m P o).2 7 (i + P) = tA o i := by
  show (if 7 = 7 ∧ P ≤ i + P ∧ i + P < P + o.length then tA o (i + P - P) else m.2 7 (i + P)) = _
  rw [if_pos ⟨rfl, by omega, by omega⟩]
  congr 1
  omega
theorem extF_i {m : MS} {P : Nat} {o : List Int32} {k : Nat} (h : k ≠ 10) : (extF m P o).1 k = m.1 k := if_neg h
theorem extF_10 {m : MS} {P : Nat} {o : List Int32} : (extF m P o).1 10 = nI (P + o.length) := by
  show (if (10 : Nat) = 10 then nI (P + o.length) else m.1 10) = _
  rw [if_pos rfl]
theorem vP.v {N : MS → Prop} {m m' : MS} (h : N m) (e : m' = m) : vP N none m' := ⟨rfl, e ▸ h⟩
section MONRM
variable {X : MX} {a0 : Array Value} {m : MS} {N : Int32 → MS → Prop}
theorem d_Mo_keep (F : mF X a0) {P : Nat} {o : List Int32} {x : Int32} {M : MS → Prop} (hb : P + o.length < 48000) (h : M (extF m P (o ++ [x]))) : mE X 0 y_Mo_keep [.ref (mo X), .int x] (extF m P o) (vP M) := by
  refine g_Mo_keep F ?_
  simp (discharger := omega) only [w_Mo_keep_0, extF_10, vp_nI, nI_clamp]
  refine ⟨hb, ?_⟩
  intro m1 e1 m2 e2
  subst e2
  refine vP.v h ?_
  have e3 : m1.1 10 = nI (P + o.length) := by rw [e1]; exact extF_10 (m := m)
  rw [e3, nI_1, e1]
  exact extF_add (by omega)
theorem d_Mo_small (F : mF X a0) {x : Int32} (h : N (smallF x) m) : mE X 0 y_Mo_small [.int x] m (iP N) := by
  refine g_Mo_small F ?_
  unfold w_Mo_small_0 w_Mo_small_19 w_Mo_small_20
  refine ⟨fun g1 => iP.i h ?_, fun g1 => ⟨fun g2 => iP.i h ?_, fun g2 => iP.i h ?_⟩⟩
  · exact (if_neg (fun q => absurd g1 (Int32.not_lt.mpr q.1))).symm
  · exact (if_neg (fun q => absurd g2 (Int32.not_lt.mpr q.2))).symm
  · exact (if_pos ⟨Int32.not_lt.mp g1, Int32.not_lt.mp g2⟩).symm
/-- the pool holds L at p -/
def PoolL (m : MS) (p : Nat) (L : List Int32) : Prop := ∀ i, i < L.length → m.2 7 (i + p) = tA L i
def NmI (m : MS) (L : List Int32) (p P : Nat) (x3 x4 : Int32) (m' : MS) (i : Nat) (b : Bool) : Prop := x3 = nI P ∧ x4 = nI (L.length + p) ∧ i ≤ L.length ∧ ∃ o, m' = extF m P o ∧ o ++ nrm (sl L i L.length) (!o.isEmpty) b = nrm L false false ∧ o.length + (if b = true then 1 else 0) ≤ i
theorem sl_all (L : List Int32) : sl L 0 L.length = L := by unfold sl; simp
theorem d_Mo_normal (F : mF X a0) {p P : Nat} {L : List Int32} (hL : PoolL m p L) (h10 : m.1 10 = nI P) (hp : p + L.length ≤ P) (hb : P + L.length ≤ 47990) (h : N (nI (nrm L false false).length) (extF m P (nrm L false false))) : mE X 1 y_Mo_normal [.ref (mo X), .int (nI p), .int (nI L.length)] m (iP N) := by
  refine g_Mo_normal (I13 := fun n x1 x2 x3 x4 x5 m' => ∃ i, x5 = nI (i + p) ∧ n + 3 * i = 3 * L.length + 2 ∧ NmI m L p P x3 x4 m' i false) (I33 := fun n x1 x2 x3 x4 x5 m' => ∃ i b, x5 = nI (i + p) ∧ n + 3 * i = 3 * L.length + (if b = true then 3 else 1) ∧ (b = false → i < L.length ∧ wh (tA L i)) ∧ NmI m L p P x3 x4 m' i b) F ?_ ?_ ?_
  · refine ⟨3 * L.length + 2, 0, by simp, rfl, h10, ?_, by omega, [], (extF_nil h10).symm, ?_, by simp⟩
    · rw [nI_add]; congr 1; omega
    · rw [sl_all]; rfl
  · rintro n x1 x2 x3 x4 x5 m' ⟨i, rfl, hn, rfl, rfl, hi, o, rfl, e, ho⟩
    simp at ho
    by_cases hlt : i < L.length
    · have hv : (extF m P o).2 7 (i + p) = tA L i := (extF_at (by omega)).trans (hL i hlt)
      rw [sl_cons hlt (Nat.le_refl _) (by omega), nrm] at e
      simp (discharger := omega) only [w_Mo_normal_13, nI_leI, vp_nI, nI_clamp, hv, sh1]
      refine ⟨fun c1 => absurd c1 (by omega), fun _ => ⟨by omega, d_Mo_isWhite F ⟨fun c2 => ⟨by omega, ?_⟩, fun c2 => ?_⟩⟩⟩
      · have hw := bI_0 c2
        rw [hv]
        refine d_Mo_small F (d_Mo_keep F (by omega) ⟨n - 3, by omega, i + 1, rfl, by omega, rfl, rfl, by omega, o ++ [smallF (tA L i)], rfl, ?_, ?_⟩)
        · rw [if_neg hw, if_neg (by simp), List.nil_append] at e
          rw [List.append_assoc, ← e]
          have : (!(o ++ [smallF (tA L i)]).isEmpty) = true := by simp
          rw [this]
          rfl
        · simp; omega
      · have hw := bI_n0 c2
        exact ⟨n - 1, by omega, i, false, rfl, by simp; omega, fun _ => ⟨hlt, hw⟩, rfl, rfl, hi, o, rfl, by rw [sl_cons hlt (Nat.le_refl _) (by omega), nrm]; exact e, by simpa using ho⟩
    · have hil : i = L.length := by omega
      simp (discharger := omega) only [w_Mo_normal_13, nI_leI]
      refine ⟨fun _ => iP.i (x := nI (nrm L false false).length) ?_ ?_, fun c => absurd (by omega) c⟩
      · rw [sl_nil (by omega), nrm, List.append_nil] at e
        rw [e]
        exact h
      · rw [sl_nil (by omega), nrm, List.append_nil] at e
        rw [extF_10, pk_sub (by omega), e]
        congr 1
        omega
  · rintro n x1 x2 x3 x4 x5 m' ⟨i, b, rfl, hn, hb0, rfl, rfl, hi, o, rfl, e, ho⟩
    have h59 : b = true → (i < L.length → ¬ wh (tA L i)) → w_Mo_normal_59 X x1 x2 (nI P) (nI (L.length + p)) (nI (i + p)) (extF m P o) (iP N) (fun x1 x2 x3 x4 x5 m_1 => ∃ j, j < n ∧ ∃ i, x5 = nI (i + p) ∧ j + 3 * i = 3 * L.length + 2 ∧ NmI m L p P x3 x4 m_1 i false) (fun x1 x2 x3 x4 x5 m_1 => ∃ j, j < n ∧ ∃ i b, x5 = nI (i + p) ∧ j + 3 * i = 3 * L.length + (if b = true then 3 else 1) ∧ (b = false → i < L.length ∧ wh (tA L i)) ∧ NmI m L p P x3 x4 m_1 i b) := by
      intro hbt hx
      subst hbt
      simp at ho hn
      have hgo : ∀ o2 : List Int32, o2.length ≤ i → o2 ++ nrm (sl L i L.length) (!o2.isEmpty) false = nrm L false false → ∃ j, j < n ∧ ∃ i', nI (i + p) = nI (i' + p) ∧ j + 3 * i' = 3 * L.length + 2 ∧ NmI m L p P (nI P) (nI (L.length + p)) (extF m P o2) i' false := fun o2 q1 q2 => ⟨n - 1, by omega, i, rfl, by omega, rfl, rfl, hi, o2, rfl, q2, by simpa using q1⟩
      unfold w_Mo_normal_59
      simp (discharger := omega) only [extF_10, nI_leI]
      refine ⟨fun c1 => hgo o (by omega) ?_, fun c1 => ⟨fun c2 => hgo o (by omega) ?_, fun c2 => d_Mo_keep F (by omega) (hgo (o ++ [32]) (by simp; omega) ?_)⟩⟩
      · have ho0 : o = [] := List.eq_nil_of_length_eq_zero (by omega)
        subst ho0
        rw [← e]
        by_cases hlt : i < L.length
        · rw [sl_cons hlt (Nat.le_refl _) (by omega), nrm, nrm, if_neg (hx hlt), if_neg (hx hlt)]
          simp
        · rw [sl_nil (by omega)]
          rfl
      · rw [← e, sl_nil (by omega)]
        rfl
      · rw [← e, sl_cons (by omega) (Nat.le_refl _) (by omega), nrm, nrm, if_neg (hx (by omega)), if_neg (hx (by omega))]
        have : (!o.isEmpty) = true := by
          cases o with
          | nil => simp at c1
          | cons => rfl
        rw [this]
        simp
    by_cases hlt : i < L.length
    · have hv : (extF m P o).2 7 (i + p) = tA L i := (extF_at (by omega)).trans (hL i hlt)
      simp (discharger := omega) only [w_Mo_normal_33, nI_leI, vp_nI, nI_clamp, hv, sh1]
      refine ⟨fun c => absurd c (by omega), fun _ => ⟨by omega, d_Mo_isWhite F ⟨fun c2 => ?_, fun c2 => ?_⟩⟩⟩
      · have hw := bI_0 c2
        have hbt : b = true := by
          cases b with
          | true => rfl
          | false => exact absurd (hb0 rfl).2 hw
        exact h59 hbt (fun _ => hw)
      · have hw := bI_n0 c2
        rw [sl_cons hlt (Nat.le_refl _) (by omega), nrm, if_pos hw] at e
        refine ⟨n - (if b = true then 3 else 1), ?_, i + 1, true, rfl, ?_, fun z => absurd z (by decide), rfl, rfl, by omega, o, rfl, e, ?_⟩
        · split <;> split at hn <;> simp_all <;> omega
        · split at hn <;> simp_all <;> omega
        · split at ho <;> simp <;> omega
    · have hbt : b = true := by
        cases b with
        | true => rfl
        | false => exact absurd (hb0 rfl).1 hlt
      simp (discharger := omega) only [w_Mo_normal_33, nI_leI]
      exact ⟨fun _ => h59 hbt (fun z => absurd z hlt), fun c => absurd (by omega) c⟩
end MONRM
