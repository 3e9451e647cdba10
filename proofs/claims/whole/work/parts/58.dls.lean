/-! the definitions kept: label, target, title -/
abbrev DL : Type := List (List Int32 × List Int32 × List Int32)
abbrev dA (D : DL) (k : Nat) : List Int32 × List Int32 × List Int32 := D.getD k ([], [], [])
def dSz (d : List Int32 × List Int32 × List Int32) : Nat := d.1.length + d.2.1.length + d.2.2.length
def flatD : DL → List Int32
  | [] => []
  | d :: r => d.1 ++ d.2.1 ++ d.2.2 ++ flatD r
def endsD : Nat → DL → List Int32
  | _, [] => []
  | n, d :: r => nI (n + d.1.length) :: nI (n + d.1.length + d.2.1.length) :: nI (n + dSz d) :: endsD (n + dSz d) r
/-- how much stands ahead of definition k -/
def preD : DL → Nat → Nat
  | _, 0 => 0
  | [], _ + 1 => 0
  | d :: r, k + 1 => dSz d + preD r k
theorem flatD_cons (d : List Int32 × List Int32 × List Int32) (r : DL) : flatD (d :: r) = d.1 ++ d.2.1 ++ d.2.2 ++ flatD r := rfl
theorem tA_cons0 {x : Int32} {l : List Int32} : tA (x :: l) 0 = x := by rw [tA, rowAt_nI (by decide)]; rfl
theorem tA_consS {x : Int32} {l : List Int32} {k : Nat} (h : k + 1 < 2 ^ 31) : tA (x :: l) (k + 1) = tA l k := by
  rw [tA, tA, rowAt_nI h, rowAt_nI (by omega)]
  rfl
theorem tA_left {a b : List Int32} {k : Nat} (hk : k < 2 ^ 31) (h : k < a.length) : tA (a ++ b) k = tA a k := by
  rw [tA, tA, rowAt_nI hk, rowAt_nI hk, List.getD_eq_getElem?_getD, List.getD_eq_getElem?_getD, List.getElem?_append_left h]
theorem tA_right {a b : List Int32} {k : Nat} (hk : a.length + k < 2 ^ 31) : tA (a ++ b) (a.length + k) = tA b k := by
  rw [tA, tA, rowAt_nI hk, rowAt_nI (by omega), List.getD_eq_getElem?_getD, List.getD_eq_getElem?_getD, List.getElem?_append_right (by omega)]
  congr 2
  omega
theorem endsD_len (D : DL) : ∀ n, (endsD n D).length = 3 * D.length := by
  induction D with
  | nil => intro n; rfl
  | cons d r ih =>
    intro n
    unfold endsD
    simp only [List.length_cons, ih]
    omega
theorem endsD_at (D : DL) : ∀ (n k : Nat), k < D.length → D.length < 100000 → tA (endsD n D) (3 * k) = nI (n + preD D k + (dA D k).1.length) ∧ tA (endsD n D) (3 * k + 1) = nI (n + preD D k + (dA D k).1.length + (dA D k).2.1.length) ∧ tA (endsD n D) (3 * k + 2) = nI (n + preD D k + dSz (dA D k)) ∧ preD D (k + 1) = preD D k + dSz (dA D k) := by
  induction D with
  | nil => intro n k h; exact absurd h (by simp)
  | cons d r ih =>
    intro n k h hb
    cases k with
    | zero =>
      unfold endsD
      refine ⟨?_, ?_, ?_, ?_⟩
      · rw [show 3 * 0 = 0 from rfl, tA_cons0]; rfl
      · rw [show 3 * 0 + 1 = 0 + 1 from rfl, tA_consS (by decide), tA_cons0]; rfl
      · rw [show 3 * 0 + 2 = 0 + 1 + 1 from rfl, tA_consS (by decide), tA_consS (by decide), tA_cons0]; rfl
      · cases r <;> simp [preD, dA]
    | succ k =>
      have hk : k < r.length := by simpa using h
      simp only [List.length_cons] at hb
      obtain ⟨i1, i2, i3, i4⟩ := ih (n + dSz d) k hk (by omega)
      unfold endsD
      have hd : dA (d :: r) (k + 1) = dA r k := rfl
      have hp : preD (d :: r) (k + 1) = dSz d + preD r k := rfl
      refine ⟨?_, ?_, ?_, ?_⟩
      · rw [show 3 * (k + 1) = 3 * k + 1 + 1 + 1 by omega, tA_consS (by omega), tA_consS (by omega), tA_consS (by omega), i1, hd, hp]
        congr 1
        omega
      · rw [show 3 * (k + 1) + 1 = 3 * k + 1 + 1 + 1 + 1 by omega, tA_consS (by omega), tA_consS (by omega), tA_consS (by omega), i2, hd, hp]
        congr 1
        omega
      · rw [show 3 * (k + 1) + 2 = 3 * k + 2 + 1 + 1 + 1 by omega, tA_consS (by omega), tA_consS (by omega), tA_consS (by omega), i3, hd, hp]
        congr 1
        omega
      · rw [hd, hp, show preD (d :: r) (k + 1 + 1) = dSz d + preD r (k + 1) from rfl, i4]
        omega
theorem flatD_len (D : DL) : (flatD D).length = preD D D.length := by
  induction D with
  | nil => rfl
  | cons d r ih =>
    unfold flatD
    simp only [List.length_append, List.length_cons, ih]
    show _ = dSz d + preD r r.length
    unfold dSz
    omega
theorem flatD_at (D : DL) (Y : List Int32) : ∀ k, k < D.length → (flatD D ++ Y).length < 100000 → (∀ j, j < (dA D k).1.length → tA (flatD D ++ Y) (preD D k + j) = tA (dA D k).1 j) ∧ (∀ j, j < (dA D k).2.1.length → tA (flatD D ++ Y) (preD D k + (dA D k).1.length + j) = tA (dA D k).2.1 j) ∧ (∀ j, j < (dA D k).2.2.length → tA (flatD D ++ Y) (preD D k + (dA D k).1.length + (dA D k).2.1.length + j) = tA (dA D k).2.2 j) ∧ preD D k + dSz (dA D k) ≤ (flatD D).length := by
  induction D with
  | nil => intro k h; exact absurd h (by simp)
  | cons d r ih =>
    intro k h hb
    have hlen : (flatD (d :: r) ++ Y).length = dSz d + (flatD r ++ Y).length := by
      rw [flatD_cons]
      unfold dSz
      simp only [List.length_append]
      omega
    have hfl : (flatD (d :: r)).length = dSz d + (flatD r).length := by
      show (d.1 ++ d.2.1 ++ d.2.2 ++ flatD r).length = _
      unfold dSz
      simp only [List.length_append]
    have hsp : flatD (d :: r) ++ Y = (d.1 ++ d.2.1 ++ d.2.2) ++ (flatD r ++ Y) := by rw [flatD_cons]; simp
    have hdl : (d.1 ++ d.2.1 ++ d.2.2).length = dSz d := by unfold dSz; simp; omega
    cases k with
    | zero =>
      have hd : dA (d :: r) 0 = d := rfl
      have hp : preD (d :: r) 0 = 0 := by cases r <;> rfl
      rw [hd, hp]
      have hz : dSz d = d.1.length + d.2.1.length + d.2.2.length := rfl
      refine ⟨fun j hj => ?_, fun j hj => ?_, fun j hj => ?_, ?_⟩
      · rw [hsp, List.append_assoc, List.append_assoc, tA_left (by omega) (by omega)]
        congr 2
        omega
      · rw [hsp, Nat.zero_add, List.append_assoc, List.append_assoc, tA_right (by omega), tA_left (by omega) hj]
      · rw [hsp, Nat.zero_add, show d.1.length + d.2.1.length = (d.1 ++ d.2.1).length by simp, List.append_assoc, tA_right (by simp; omega), tA_left (by omega) hj]
      · rw [hfl]; omega
    | succ k =>
      have hk : k < r.length := by simpa using h
      obtain ⟨i1, i2, i3, i4⟩ := ih k hk (by omega)
      have hd : dA (d :: r) (k + 1) = dA r k := rfl
      have hp : preD (d :: r) (k + 1) = dSz d + preD r k := rfl
      have hmv : ∀ x, dSz d + x < 100000 → tA (flatD (d :: r) ++ Y) (dSz d + x) = tA (flatD r ++ Y) x := by
        intro x hx
        rw [hsp, ← hdl, tA_right (by rw [hdl]; omega)]
      have hz : dSz (dA r k) = (dA r k).1.length + (dA r k).2.1.length + (dA r k).2.2.length := rfl
      have hy : (flatD r ++ Y).length = (flatD r).length + Y.length := by simp
      rw [hd, hp]
      refine ⟨fun j hj => ?_, fun j hj => ?_, fun j hj => ?_, ?_⟩
      · rw [← i1 j hj, ← hmv _ (by omega)]
        congr 1
        omega
      · rw [← i2 j hj, ← hmv _ (by omega)]
        congr 1
        omega
      · rw [← i3 j hj, ← hmv _ (by omega)]
        congr 1
        omega
      · rw [hfl]; omega
theorem list_ext {a b : List Int32} (h : a.length = b.length) (hb : a.length < 2 ^ 31) (he : ∀ j, j < a.length → tA a j = tA b j) : a = b := by
  apply List.ext_getElem h
  intro j h1 h2
  have e1 := rowAt_some (xs := a) h1 (by omega)
  have e2 := rowAt_some (xs := b) h2 (by omega)
  rw [List.getElem?_eq_getElem h1] at e1
  rw [List.getElem?_eq_getElem h2] at e2
  rw [Option.some.inj e1, Option.some.inj e2]
  exact he j h1
/-- the class keeps D -/
def DsC (c : CS) (D : DL) : Prop := vr c.1 13 = endsD 0 D ∧ D.length ≤ 5000
section CLDLS
variable {X : CX} {a0 : Array Value} {c : CS} {D : DL} {N : Int32 → CS → Prop}
theorem q_Lab_size (F : cF X a0) (hD : DsC c D) (h : N (nI D.length) c) : cE X 1 y_Lab_size [.ref (adr X 4)] c (ciP N) := by
  refine g_Lab_size F ?_
  unfold w_Lab_size_0
  refine q_Row_size F isR13 ?_
  have h2 := hD.2
  rw [hD.1, endsD_len]
  refine ciP.i h ?_
  rw [show (3 : Int32) = nI 3 from rfl, pk_div (by omega) (by decide) (by decide)]
  congr 1
  omega
/-- a part's place: w = 0 label, 1 target, 2 title -/
def prt (d : List Int32 × List Int32 × List Int32) (w : Nat) : List Int32 := if w = 0 then d.1 else if w = 1 then d.2.1 else d.2.2
def prtF (D : DL) (k w : Nat) : Nat := if w = 0 then preD D k else if w = 1 then preD D k + (dA D k).1.length else preD D k + (dA D k).1.length + (dA D k).2.1.length
theorem q_Lab_partTo (F : cF X a0) (hD : DsC c D) {k w : Nat} (hk : k < D.length) (hw : w < 3) (h : N (nI (prtF D k w + (prt (dA D k) w).length)) c) : cE X 1 y_Lab_partTo [.ref (adr X 4), .int (nI k), .int (nI w)] c (ciP N) := by
  refine g_Lab_partTo F ?_
  unfold w_Lab_partTo_0
  have h2 := hD.2
  rw [show (3 : Int32) = nI 3 from rfl, pk_mul, nI_add]
  refine q_Row_at F isR13 (ciP.i h ?_)
  rw [hD.1]
  obtain ⟨e1, e2, e3, _⟩ := endsD_at D 0 k hk (by omega)
  have hw3 : w = 0 ∨ w = 1 ∨ w = 2 := by omega
  rcases hw3 with e | e | e <;> subst e
  · rw [show 3 * k + 0 = 3 * k from rfl, show rowAt (endsD 0 D) (nI (3 * k)) = _ from e1]
    simp [prtF, prt]
  · rw [show rowAt (endsD 0 D) (nI (3 * k + 1)) = _ from e2]
    simp [prtF, prt]
  · rw [show rowAt (endsD 0 D) (nI (3 * k + 2)) = _ from e3]
    simp [prtF, prt, dSz]
    congr 1
    omega
theorem q_Lab_partFrom (F : cF X a0) (hD : DsC c D) {k w : Nat} (hk : k < D.length) (hw : w < 3) (h : N (nI (prtF D k w)) c) : cE X 1 y_Lab_partFrom [.ref (adr X 4), .int (nI k), .int (nI w)] c (ciP N) := by
  refine g_Lab_partFrom F ?_
  unfold w_Lab_partFrom_0
  have h2 := hD.2
  rw [show (3 : Int32) = nI 3 from rfl, pk_mul, nI_add]
  simp (discharger := omega) only [lit_eqJ]
  refine ⟨fun c1 => ?_, fun c1 => ?_⟩
  · have hk0 : k = 0 := by omega
    have hw0 : w = 0 := by omega
    subst hk0 hw0
    refine ciP.i h ?_
    have : preD D 0 = 0 := by cases D <;> rfl
    simp [prtF, this]
    rfl
  · rw [show (1 : Int32) = nI 1 from rfl, pk_sub (by omega)]
    refine q_Row_at F isR13 (ciP.i h ?_)
    rw [hD.1]
    obtain ⟨e1, e2, e3, _⟩ := endsD_at D 0 k hk (by omega)
    have hw3 : w = 0 ∨ w = 1 ∨ w = 2 := by omega
    rcases hw3 with e | e | e <;> subst e
    · cases k with
      | zero => exact absurd rfl c1
      | succ k =>
        obtain ⟨_, _, g3, g4⟩ := endsD_at D 0 k (by omega) (by omega)
        rw [show 3 * (k + 1) + 0 - 1 = 3 * k + 2 by omega, show rowAt (endsD 0 D) (nI (3 * k + 2)) = _ from g3]
        simp [prtF, g4]
    · rw [show 3 * k + 1 - 1 = 3 * k by omega, show rowAt (endsD 0 D) (nI (3 * k)) = _ from e1]
      simp [prtF]
    · rw [show 3 * k + 2 - 1 = 3 * k + 1 by omega, show rowAt (endsD 0 D) (nI (3 * k + 1)) = _ from e2]
      simp [prtF]
end CLDLS
