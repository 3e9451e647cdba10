def nmW : Nat → Nat
  | 0 => 6385008
  | 1 => 27764
  | 2 => 26484
  | 3 => 1903521652
  | 4 => 1634758515
  | _ => 1851945840
def nmT : Nat → Nat
  | 0 => 38
  | 1 => 60
  | 2 => 62
  | 3 => 34
  | 4 => 39
  | _ => 160
/-- the model's names -/
def NmC (m : MS) : Prop := ∀ k, k < 6 → m.2 52 k = nI (nmW k) ∧ m.2 53 k = nI (nmT k)
def nmU (W k : Nat) : Nat := if W = 6385008 ∧ 0 < k then 38 else if W = 27764 ∧ 1 < k then 60 else if W = 26484 ∧ 2 < k then 62 else if W = 1903521652 ∧ 3 < k then 34 else if W = 1634758515 ∧ 4 < k then 39 else if W = 1851945840 ∧ 5 < k then 160 else 0
theorem nmU_step (W k : Nat) (hk : k < 6) : nmU W (k + 1) = if nmW k = W then nmT k else nmU W k := by
  have : k = 0 ∨ k = 1 ∨ k = 2 ∨ k = 3 ∨ k = 4 ∨ k = 5 := by omega
  rcases this with e | e | e | e | e | e <;> subst e <;> unfold nmU nmW nmT <;> simp <;> (repeat' split) <;> omega
theorem nmU_6 (W L : Nat) (h : L < 5) : nmU W 6 = nmV W L := by
  unfold nmU nmV
  rw [if_pos h]
  simp
theorem pkW_lt {T : List Int32} {i n : Nat} (hr : ∀ j, j < n → alN (tA T (i + 1 + j))) (hn : n ≤ 4) : pkW T i n < 2063597568 ∧ (n ≤ 3 → pkW T i n < 16777216) := by
  have h4 : n = 0 ∨ n = 1 ∨ n = 2 ∨ n = 3 ∨ n = 4 := by omega
  rcases h4 with e | e | e | e | e <;> subst e
  · unfold pkW
    omega
  · have q0 := (chA_eq (hr 0 (by decide))).2
    unfold pkW pkW
    omega
  · have q0 := (chA_eq (hr 0 (by decide))).2
    have q1 := (chA_eq (hr 1 (by decide))).2
    unfold pkW pkW pkW
    omega
  · have q0 := (chA_eq (hr 0 (by decide))).2
    have q1 := (chA_eq (hr 1 (by decide))).2
    have q2 := (chA_eq (hr 2 (by decide))).2
    unfold pkW pkW pkW pkW
    omega
  · have q0 := (chA_eq (hr 0 (by decide))).2
    have q1 := (chA_eq (hr 1 (by decide))).2
    have q2 := (chA_eq (hr 2 (by decide))).2
    have q3 := (chA_eq (hr 3 (by decide))).2
    unfold pkW pkW pkW pkW pkW
    omega
theorem nmW_lt (k : Nat) : nmW k < 2 ^ 31 := by
  unfold nmW
  split <;> decide
section MONAME
variable {X : MX} {a0 : Array Value} {m : MS} {T : List Int32} {f δ : Nat} {N : Int32 → MS → Prop}
theorem d_Mo_hex (F : mF X a0) {x : Int32} (h : N (digI true x) m) : mE X 1 y_Mo_hex [.int x] m (iP N) := by
  refine g_Mo_hex F (d_Mo_isDigit F ⟨fun c1 => ?_, fun c1 => ?_⟩)
  · have q1 : x < 48 ∨ 57 < x := by
      have := bI_0 c1
      by_cases q : x < 48
      · exact Or.inl q
      · refine Or.inr (Int32.not_le.mp (fun z => this ⟨Int32.not_lt.mp q, z⟩))
    have h33 : (x < 97 ∨ 102 < x) → w_Mo_hex_33 X x m (iP N) := fun q2 => ⟨fun c2 => iP.i h (digI_0 q1 (fun _ => q2) (fun _ => Or.inl c2)), fun c2 => ⟨fun c3 => iP.i h (digI_0 q1 (fun _ => q2) (fun _ => Or.inr c3)), fun c3 => iP.i h (digI_3 q1 q2 c2 c3)⟩⟩
    exact ⟨fun c2 => h33 (Or.inl c2), fun c2 => ⟨fun c3 => h33 (Or.inr c3), fun c3 => iP.i h (digI_2 q1 c2 c3)⟩⟩
  · have q := bI_n0 c1
    exact iP.i h (digI_1 (Int32.not_lt.mpr q.1) (Int32.not_lt.mpr q.2))
theorem d_Mo_isLetter (F : mF X a0) {x : Int32} (h : N (bI (65 ≤ x ∧ x ≤ 90 ∨ 97 ≤ x ∧ x ≤ 122)) m) : mE X 0 y_Mo_isLetter [.int x] m (iP N) := by
  refine g_Mo_isLetter F ?_
  have h1 : (65 ≤ x ∧ x ≤ 90 ∨ 97 ≤ x ∧ x ≤ 122) → w_Mo_isLetter_24 X x m (iP N) := fun q => ⟨mZ1, iP.i h (bI_t q).symm⟩
  have h0 : ¬ (65 ≤ x ∧ x ≤ 90 ∨ 97 ≤ x ∧ x ≤ 122) → w_Mo_isLetter_28 X x m (iP N) := fun q => ⟨mZ0, iP.i h (bI_f q).symm⟩
  have h12 : ¬ (65 ≤ x ∧ x ≤ 90) → w_Mo_isLetter_12 X x m (iP N) := fun q => ⟨fun c1 => h0 (fun z => z.elim q (fun z => absurd c1 (Int32.not_lt.mpr z.1))), fun c1 => ⟨fun c2 => h0 (fun z => z.elim q (fun z => absurd c2 (Int32.not_lt.mpr z.2))), fun c2 => h1 (Or.inr ⟨Int32.not_lt.mp c1, Int32.not_lt.mp c2⟩)⟩⟩
  exact ⟨fun c1 => h12 (fun z => absurd c1 (Int32.not_lt.mpr z.1)), fun c1 => ⟨fun c2 => h1 (Or.inl ⟨Int32.not_lt.mp c1, c2⟩), fun c2 => h12 (fun z => c2 z.2)⟩⟩
theorem d_Mo_named (F : mF X a0) (hC : NmC m) (hP : PlI m T f δ) {i L : Nat} (hf : f ≤ i) (hL : i + 1 + L ≤ T.length) (hr : ∀ j, j < L → alN (tA T (i + 1 + j))) (h : N (nI (nmV (pkW T i (min L 4)) L)) m) : mE X 0 y_Mo_named [.ref (mo X), .int (nI (i + 1 + δ)), .int (nI L)] m (iP N) := by
  obtain ⟨hv, hb, hl⟩ := hP
  refine g_Mo_named (I5 := fun n x1 x2 x3 x4 m' => m' = m ∧ x1 = nI (i + 1 + δ) ∧ x2 = nI L ∧ ∃ j, x3 = nI (pkW T i j) ∧ x4 = nI j ∧ j ≤ L ∧ n + j = 4) (I44 := fun n x1 x2 x3 x4 x5 m' => m' = m ∧ x2 = nI L ∧ x3 = nI (pkW T i (min L 4)) ∧ ∃ k, x5 = nI k ∧ x4 = nI (nmU (pkW T i (min L 4)) k) ∧ n + k = 6 ∧ (5 ≤ L → k = 0)) F ?_ ?_ ?_
  · exact ⟨4, rfl, rfl, rfl, 0, rfl, rfl, by omega, by omega⟩
  · rintro n x1 x2 x3 x4 x5 m' ⟨rfl, rfl, rfl, k, rfl, rfl, hn, h5⟩
    have hW := (pkW_lt (T := T) (i := i) (n := min L 4) (fun j hj => hr j (by omega)) (by omega)).1
    by_cases hk : k < 6
    · obtain ⟨e1, e2⟩ := hC k hk
      have hw := nmW_lt k
      simp (discharger := omega) only [w_Mo_named_44, w_Mo_named_87, w_Mo_named_79, lit_leI, vp_nI, nI_clamp, e1, e2, nI_eq, lit_add]
      refine ⟨fun c => absurd c (by omega), fun _ => ⟨fun c1 => iP.i h ?_, fun c1 => ⟨hk, fun c2 => ⟨hk, n - 1, by omega, by trivial, by trivial, by trivial, k + 1, rfl, ?_, by omega, fun z => by omega⟩, fun c2 => ⟨n - 1, by omega, by trivial, by trivial, by trivial, k + 1, rfl, ?_, by omega, fun z => by omega⟩⟩⟩⟩
      · have hk0 : nmU (pkW T i (min L 4)) k = nmV (pkW T i (min L 4)) L := by
          have : nmV (pkW T i (min L 4)) L = 0 := by unfold nmV; rw [if_neg (by omega)]
          rw [this, h5 c1]
          simp [nmU]
        rw [hk0]
      · rw [nmU_step _ _ hk, if_pos c2]
      · rw [nmU_step _ _ hk, if_neg c2]
    · simp (discharger := omega) only [w_Mo_named_44, w_Mo_named_87, lit_leI]
      have hk6 : k = 6 := by omega
      subst hk6
      refine ⟨fun _ => iP.i h ?_, fun c => absurd (by omega) c⟩
      have h5' : L < 5 := by
        apply Nat.lt_of_not_le
        intro z
        exact absurd (h5 z) (by decide)
      rw [nmU_6 _ _ h5']
  · rintro n x1 x2 x3 x4 m' ⟨rfl, rfl, rfl, j, rfl, rfl, hj, hn⟩
    have h38 : j = min L 4 → w_Mo_named_38 X (nI (i + 1 + δ)) (nI L) (nI (pkW T i j)) (nI j) m' (iP N) (fun x1 x2 x3 x4 x5 m => ∃ j, m = m' ∧ x2 = nI L ∧ x3 = nI (pkW T i (min L 4)) ∧ ∃ k, x5 = nI k ∧ x4 = nI (nmU (pkW T i (min L 4)) k) ∧ j + k = 6 ∧ (5 ≤ L → k = 0)) := by
      intro q
      subst q
      refine ⟨6, rfl, rfl, rfl, 0, rfl, ?_, rfl, fun _ => rfl⟩
      unfold nmU
      simp
      rfl
    unfold w_Mo_named_5
    simp (discharger := omega) only [nI_leI, lit_leI, nI_add, vp_nI, nI_clamp, lit_add]
    refine ⟨fun c1 => h38 (by omega), fun c1 => ⟨fun c2 => h38 (by omega), fun c2 => ⟨by omega, n - 1, by omega, by trivial, by trivial, by trivial, j + 1, ?_, rfl, by omega, by omega⟩⟩⟩
    have q := chA_eq (hr j (by omega))
    have hlt := (pkW_lt (T := T) (i := i) (n := j) (fun j' hj' => hr j' (by omega)) (by omega)).2 (by omega)
    rw [show i + 1 + δ + j = i + 1 + j + δ by omega, hv _ (by omega) (by omega), q.1, shl8 (by omega), or_add (by omega) (by omega)]
    rfl
end MONAME
