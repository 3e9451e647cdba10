/-! a line is taken from the tape -/
def LnP (m : MS) (ys : List Int32) : Prop := m.1 12 = nI ys.length ∧ ∀ i, i < ys.length → m.2 9 i = rowAt ys (nI i)
def FrLn (m m' : MS) : Prop := (∀ k, k ≠ 12 → m'.1 k = m.1 k) ∧ ∀ k i, k ≠ 9 → m'.2 k i = m.2 k i
/-- the tape ts -/
def TpI (m : MS) (ts : List Int32) : Prop := m.1 11 = nI ts.length ∧ (∀ k, k < ts.length → m.2 8 k = rowAt ts (nI k)) ∧ ts.length ≤ 3000
theorem TpI.fr {m m' : MS} {ts : List Int32} (h : TpI m ts) (hF : FrLn m m') : TpI m' ts := ⟨(hF.1 11 (by decide)).trans h.1, fun k hk => (hF.2 8 k (by decide)).trans (h.2.1 k hk), h.2.2⟩
theorem LnP.snoc {m : MS} {ys : List Int32} (h : LnP m ys) (hl : ys.length < 2 ^ 20) (c : Int32) : LnP (mI (mA m 9 ys.length c) 12 (nI (ys.length + 1))) (ys ++ [c]) := by
  refine ⟨?_, fun i hi => ?_⟩
  · rw [mI_at, List.length_append]
    rfl
  · rw [List.length_append] at hi
    have hi' : i < ys.length + 1 := hi
    show (mA m 9 ys.length c).2 9 i = _
    by_cases e : i = ys.length
    · rw [e, mA_at, rowAt_nI (by omega)]
      simp
    · rw [mA_ni e, h.2 i (by omega)]
      rw [rowAt_nI (by omega), rowAt_nI (by omega)]
      simp only [List.getD_eq_getElem?_getD]
      rw [List.getElem?_append_left (by omega)]
theorem FrLn.snoc {m m' : MS} (h : FrLn m m') (i : Nat) (c x : Int32) : FrLn m (mI (mA m' 9 i c) 12 x) := ⟨fun k hk => (mI_ne hk).trans (h.1 k hk), fun k j hk => (mA_ne hk).trans (h.2 k j hk)⟩
theorem tw_step {ts : List Int32} {k : Nat} (hk : k < ts.length) (h31 : k < 2 ^ 31) (hp : inLn (rowAt ts (nI k)) = true) : (ts.drop k).takeWhile inLn = rowAt ts (nI k) :: (ts.drop (k + 1)).takeWhile inLn := by
  have e : rowAt ts (nI k) = ts[k] := by rw [rowAt_nI h31]; simp [hk]
  rw [e] at hp ⊢
  rw [List.drop_eq_getElem_cons hk, List.takeWhile_cons, if_pos hp]
theorem addS_tab1 {zs : List Int32} (h : (zs.length + 1) % 4 ≠ 0) : addS (zs ++ [32]) 9 = addS zs 9 := by
  unfold addS
  rw [if_pos rfl, if_pos rfl, List.length_append]
  show zs ++ [32] ++ List.replicate (4 - (zs.length + 1) % 4) 32 = _
  rw [show 4 - zs.length % 4 = (4 - (zs.length + 1) % 4) + 1 by omega, List.replicate_succ, List.append_assoc]
  rfl
theorem addS_tab2 {zs : List Int32} (h : (zs.length + 1) % 4 = 0) : zs ++ [32] = addS zs 9 := by
  unfold addS
  rw [if_pos rfl, show 4 - zs.length % 4 = 0 + 1 by omega, List.replicate_succ]
  rfl
section MFROM
variable {Y : MX} {a1 : Array Value} {m : MS}
theorem d_Mo_lineFrom (G : mF Y a1) {ts : List Int32} {i : Nat} (hT : TpI m ts) (hi : i ≤ ts.length) {N : Int32 → MS → Prop} (hN : ∀ m', FrLn m m' → LnI m' (lnS ts i) → N (nI (min (lnN ts (lnE ts i)) ts.length)) m') : mE Y 0 y_Mo_lineFrom [.ref (mo Y), .int (nI i)] m (iP N) := by
  have ht := hT.2.2
  -- the end of a line
  have hend : ∀ (k : Nat) (ys : List Int32) (m' : MS), i ≤ k → k ≤ ts.length → LnP m' ys → ys.length ≤ 4 * k → FrLn m m' → ((ts.drop k).takeWhile inLn).foldl addS ys = lnS ts i → k + runFrom inLn ts k = lnE ts i → runFrom inLn ts k = 0 → w_Mo_lineFrom_112 Y (nI i) (nI k) m' (iP N) := by
    intro k ys m' h1 h2 h3 h4 h5 h6 h7 h8
    have hT' := hT.fr h5
    rw [tw_stop h8] at h6
    have h6' : ys = lnS ts i := h6
    have hL : LnI m' (lnS ts i) := by rw [← h6']; exact ⟨h3.1, h3.2, by omega⟩
    have hE : lnE ts i = k := by omega
    have hfin := hN m' h5 hL
    rw [hE] at hfin
    unfold w_Mo_lineFrom_112 w_Mo_lineFrom_162 w_Mo_lineFrom_165
    rw [hT'.1, nI_eq (by omega) (by omega), vp_nI (by omega), nI_clamp (by omega), nI_1, nI_leI (by omega) (by omega), vp_nI (by omega), nI_clamp (by omega)]
    refine ⟨fun e => iP.i hfin ?_, fun e => ⟨by omega, fun c1 => ⟨fun c2 => iP.i hfin ?_, fun c2 => ⟨by omega, fun c3 => iP.i hfin ?_, fun c3 => iP.i hfin ?_⟩⟩, fun c1 => iP.i hfin ?_⟩⟩
    · rw [Nat.min_eq_right (by unfold lnN; split <;> omega), e]
    · rw [hT'.2.1 k (by omega)] at c1
      have : rowAt ts (nI (k + 1)) = -1 := rowAt_out (by omega) c2
      unfold lnN
      rw [if_neg (fun y => by rw [this] at y; exact absurd y.2 (by decide)), Nat.min_eq_left (by omega)]
    · rw [hT'.2.1 k (by omega)] at c1
      rw [hT'.2.1 (k + 1) (by omega)] at c3
      unfold lnN
      rw [if_pos ⟨c1, c3⟩, Nat.min_eq_left (by omega), lit_add]
    · rw [hT'.2.1 (k + 1) (by omega)] at c3
      unfold lnN
      rw [if_neg (fun y => c3 y.2), Nat.min_eq_left (by omega)]
    · rw [hT'.2.1 k (by omega)] at c1
      unfold lnN
      rw [if_neg (fun y => c1 y.1), Nat.min_eq_left (by omega)]
  refine g_Mo_lineFrom (I7 := fun j x1 x2 m' => x1 = nI i ∧ ∃ k ys, x2 = nI k ∧ i ≤ k ∧ k ≤ ts.length ∧ j = 10 * (ts.length - k) + 9 ∧ LnP m' ys ∧ ys.length ≤ 4 * k ∧ FrLn m m' ∧ ((ts.drop k).takeWhile inLn).foldl addS ys = lnS ts i ∧ k + runFrom inLn ts k = lnE ts i) (I48 := fun j x1 x2 m' => x1 = nI i ∧ ∃ k zs, x2 = nI k ∧ i ≤ k ∧ k < ts.length ∧ j = 10 * (ts.length - k) + (4 - zs.length % 4) ∧ LnP m' zs ∧ zs.length + (4 - zs.length % 4) ≤ 4 * (k + 1) ∧ FrLn m m' ∧ ((ts.drop (k + 1)).takeWhile inLn).foldl addS (addS zs 9) = lnS ts i ∧ (k + 1) + runFrom inLn ts (k + 1) = lnE ts i) G ?_ ?_ ?_
  · intro m1 e1
    rw [e1]
    exact ⟨_, rfl, i, [], rfl, Nat.le_refl _, hi, rfl, ⟨mI_at _ _ _, fun k hk => absurd hk (Nat.not_lt_zero _)⟩, Nat.zero_le _, ⟨fun k hk => mI_ne hk, fun _ _ _ => rfl⟩, rfl, rfl⟩
  · rintro j x1 x2 m' ⟨rfl, k, ys, rfl, h1, h2, hj, h3, h4, h5, h6, h7⟩
    have hT' := hT.fr h5
    unfold w_Mo_lineFrom_7
    rw [hT'.1, nI_leI (by omega) (by omega), vp_nI (by omega), nI_clamp (by omega), h3.1, vp_nI (by omega), nI_clamp (by omega)]
    refine ⟨fun c => hend k ys m' h1 h2 h3 h4 h5 h6 h7 (runFrom_end c), fun c => ⟨by omega, fun c1 => ?_, fun c1 => ⟨by omega, fun c2 => ?_, fun c2 => ⟨by omega, fun c3 => ?_, fun c3 => ⟨by omega, by omega, fun m1 e1 m2 e2 => ?_⟩⟩⟩⟩⟩
    · rw [hT'.2.1 k (by omega)] at c1
      exact hend k ys m' h1 h2 h3 h4 h5 h6 h7 (runFrom_n (by omega) (by omega) (by rw [c1]; decide))
    · rw [hT'.2.1 k (by omega)] at c2
      exact hend k ys m' h1 h2 h3 h4 h5 h6 h7 (runFrom_n (by omega) (by omega) (by rw [c2]; decide))
    · rw [hT'.2.1 k (by omega)] at c3
      have hp : inLn (rowAt ts (nI k)) = true := by rw [c3]; decide
      rw [tw_step (by omega) (by omega) hp, c3] at h6
      rw [runFrom_y (by omega) (by omega) hp] at h7
      exact ⟨_, by omega, rfl, k, ys, rfl, h1, by omega, rfl, h3, by omega, h5, h6, by omega⟩
    · rw [hT'.2.1 k (by omega)] at c1 c2 c3 e1
      have hp : inLn (rowAt ts (nI k)) = true := by
        show (!(rowAt ts (nI k) == 10) && !(rowAt ts (nI k) == 13)) = true
        simp [c1, c2]
      rw [tw_step (by omega) (by omega) hp] at h6
      rw [runFrom_y (by omega) (by omega) hp] at h7
      have e12 : m1.1 12 = nI ys.length := by rw [e1]; exact h3.1
      rw [e12, nI_1, e1] at e2
      unfold w_Mo_lineFrom_106
      rw [nI_1]
      refine ⟨10 * (ts.length - (k + 1)) + 9, by omega, rfl, k + 1, ys ++ [rowAt ts (nI k)], rfl, by omega, by omega, rfl, ?_, by rw [List.length_append]; show _ + 1 ≤ _; omega, ?_, ?_, by omega⟩
      · rw [e2]; exact h3.snoc (by omega) _
      · rw [e2]; exact h5.snoc _ _ _
      · rw [← h6, List.foldl_cons]
        congr 1
        unfold addS
        rw [if_neg c3]
  · rintro j x1 x2 m' ⟨rfl, k, zs, rfl, h1, h2, hj, h3, h4, h5, h6, h7⟩
    unfold w_Mo_lineFrom_48
    rw [h3.1, vp_nI (by omega), nI_clamp (by omega)]
    refine ⟨by omega, fun m1 e1 m2 e2 => ?_⟩
    have e12 : m1.1 12 = nI zs.length := by rw [e1]; exact h3.1
    rw [e12, nI_1, e1] at e2
    have f12 : m2.1 12 = nI (zs.length + 1) := by rw [e2, mI_at]
    rw [f12, show nI (zs.length + 1) - nI (zs.length + 1) / 4 * 4 = nI ((zs.length + 1) % 4) from pk_rem (d := 4) (by omega) (by omega) (by omega)]
    have h0 : nI ((zs.length + 1) % 4) = 0 ↔ (zs.length + 1) % 4 = 0 := nI_eq (by omega) (by decide)
    rw [h0]
    have hs := h3.snoc (by omega) 32
    rw [← e2] at hs
    have hf := h5.snoc zs.length 32 (nI (zs.length + 1))
    rw [← e2] at hf
    refine ⟨fun c => ?_, fun c => ?_⟩
    · unfold w_Mo_lineFrom_106
      rw [nI_1]
      refine ⟨10 * (ts.length - (k + 1)) + 9, by omega, rfl, k + 1, zs ++ [32], rfl, by omega, by omega, rfl, hs, by rw [List.length_append]; show _ + 1 ≤ _; omega, hf, ?_, h7⟩
      rw [addS_tab2 c]
      exact h6
    · refine ⟨10 * (ts.length - k) + (4 - (zs ++ [32]).length % 4), ?_, rfl, k, zs ++ [32], rfl, h1, h2, rfl, hs, ?_, hf, ?_, h7⟩
      · rw [List.length_append]
        show _ + (4 - (zs.length + 1) % 4) < _
        omega
      · rw [List.length_append]
        show zs.length + 1 + (4 - (zs.length + 1) % 4) ≤ _
        omega
      · rw [addS_tab1 c]
        exact h6
end MFROM
/-! how much a line has -/
def lastNS : List Int32 → Bool
  | [] => false
  | [x] => !(x == 32)
  | _ :: y :: r => lastNS (y :: r)
theorem lastNS_snoc (c : Int32) : ∀ ys : List Int32, lastNS (ys ++ [c]) = !(c == 32) := by
  intro ys
  induction ys with
  | nil => rfl
  | cons x r ih =>
    cases r with
    | nil => rfl
    | cons y r => exact ih
theorem wt_sp : ∀ ys : List Int32, wt (ys ++ [32]) = wt ys := by
  intro ys
  induction ys with
  | nil => rfl
  | cons x r ih =>
    cases r with
    | nil =>
      show (if x = 32 then 0 else if (32 : Int32) = 32 then 2 else 1) + 0 = if x = 32 then 0 else 2
      rw [if_pos (show (32 : Int32) = 32 from rfl), Nat.add_zero]
    | cons y r =>
      show (if x = 32 then 0 else if y = 32 then 2 else 1) + wt (y :: r ++ [32]) = (if x = 32 then 0 else if y = 32 then 2 else 1) + wt (y :: r)
      rw [ih]
theorem wt_ns {c : Int32} (hc : c ≠ 32) : ∀ ys : List Int32, wt (ys ++ [c]) = wt ys + (if lastNS ys = true then 1 else 2) := by
  intro ys
  induction ys with
  | nil =>
    show (if c = 32 then 0 else 2) = 0 + _
    rw [if_neg hc]
    rfl
  | cons x r ih =>
    cases r with
    | nil =>
      show (if x = 32 then 0 else if c = 32 then 2 else 1) + (if c = 32 then 0 else 2) = (if x = 32 then 0 else 2) + (if (!(x == 32)) = true then 1 else 2)
      rw [if_neg hc, if_neg hc]
      by_cases e : x = 32
      · simp [e]
      · simp [e]
    | cons y r =>
      show (if x = 32 then 0 else if y = 32 then 2 else 1) + wt (y :: r ++ [c]) = (if x = 32 then 0 else if y = 32 then 2 else 1) + wt (y :: r) + (if lastNS (y :: r) = true then 1 else 2)
      rw [ih]
      omega
theorem wt_rep (ys : List Int32) : ∀ k, wt (ys ++ List.replicate k 32) = wt ys := by
  intro k
  induction k with
  | zero => simp
  | succ k ih => rw [List.replicate_succ', ← List.append_assoc, wt_sp, ih]
theorem lastNS_rep (ys : List Int32) (k : Nat) : lastNS (ys ++ List.replicate (k + 1) 32) = false := by
  rw [List.replicate_succ', ← List.append_assoc, lastNS_snoc]
  rfl
/-- a tape's signs and a line's -/
theorem addS_all : ∀ (zs ys : List Int32) (n : Nat), wt ys ≤ n + (if lastNS ys = true then 1 else 0) → wt (zs.foldl addS ys) ≤ n + zs.length + 1 ∧ (zs.foldl addS ys).length ≤ ys.length + 4 * zs.length ∧ (zs.foldl addS ys).countP nsB ≤ ys.countP nsB + zs.length := by
  intro zs
  induction zs with
  | nil =>
    intro ys n h
    refine ⟨?_, Nat.le_refl _, Nat.le_refl _⟩
    show wt ys ≤ n + 0 + 1
    split at h <;> omega
  | cons c zs ih =>
    intro ys n h
    rw [List.foldl_cons]
    have h1 : wt (addS ys c) ≤ (n + 1) + (if lastNS (addS ys c) = true then 1 else 0) := by
      unfold addS
      by_cases e : c = 9
      · rw [if_pos e, wt_rep]
        split at h <;> omega
      · rw [if_neg e]
        by_cases e2 : c = 32
        · rw [e2, wt_sp]
          split at h <;> omega
        · rw [wt_ns e2, lastNS_snoc]
          have : (!(c == 32)) = true := by simp [e2]
          rw [if_pos this]
          split at h
          · next q => rw [if_pos q]; omega
          · next q => rw [if_neg q]; omega
    have h2 := addS_len ys c
    have h3 : (addS ys c).countP nsB ≤ ys.countP nsB + 1 := by
      unfold addS
      by_cases e : c = 9
      · rw [if_pos e, List.countP_append, List.countP_replicate]
        have : nsB 32 = false := by decide
        rw [this]
        show _ + (if false = true then _ else 0) ≤ _
        rw [if_neg (by decide)]
        omega
      · rw [if_neg e, List.countP_append]
        have : [c].countP nsB ≤ [c].length := List.countP_le_length
        have e1 : [c].length = 1 := rfl
        omega
    obtain ⟨q1, q2, q3⟩ := ih (addS ys c) (n + 1) h1
    rw [List.length_cons]
    exact ⟨by omega, by omega, by omega⟩
theorem lnS_all (ts : List Int32) (i : Nat) : wt (lnS ts i) ≤ (lnE ts i - i) + 1 ∧ (lnS ts i).length ≤ 4 * (lnE ts i - i) ∧ (lnS ts i).countP nsB ≤ lnE ts i - i := by
  have h := addS_all ((ts.drop i).takeWhile inLn) [] 0 (Nat.zero_le _)
  have e : lnE ts i - i = ((ts.drop i).takeWhile inLn).length := by
    unfold lnE runFrom
    omega
  rw [e]
  obtain ⟨q1, q2, q3⟩ := h
  refine ⟨?_, ?_, ?_⟩
  · have : wt (lnS ts i) ≤ 0 + ((ts.drop i).takeWhile inLn).length + 1 := q1
    omega
  · have : (lnS ts i).length ≤ 0 + 4 * ((ts.drop i).takeWhile inLn).length := q2
    omega
  · have : (lnS ts i).countP nsB ≤ 0 + ((ts.drop i).takeWhile inLn).length := q3
    omega
theorem lnN_in {ts : List Int32} {i : Nat} (hi : i < ts.length) (ht : ts.length ≤ 3000) : i ≤ lnE ts i ∧ lnE ts i ≤ ts.length ∧ lnE ts i < lnN ts (lnE ts i) ∧ lnN ts (lnE ts i) ≤ ts.length + 1 := by
  have h1 : i + runFrom inLn ts i ≤ ts.length := run_in (by omega)
  have h2 : lnE ts i = i + runFrom inLn ts i := rfl
  refine ⟨by omega, by omega, ?_, ?_⟩
  · unfold lnN
    split <;> omega
  · unfold lnN
    split
    · next q =>
      have := rowAt_in (xs := ts) (k := lnE ts i + 1) (by omega) q.2 (by decide)
      omega
    · omega
theorem addS_mem : ∀ (zs ys : List Int32), (∀ x, x ∈ ys → wh x ∨ x = 10 → x = 32) → (∀ x, x ∈ zs → x ≠ 10 ∧ x ≠ 13) → ∀ x, x ∈ zs.foldl addS ys → wh x ∨ x = 10 → x = 32 := by
  intro zs
  induction zs with
  | nil => intro ys h _; exact h
  | cons c zs ih =>
    intro ys h1 h2
    rw [List.foldl_cons]
    refine ih (addS ys c) (fun x hx hw => ?_) (fun x hx => h2 x (List.mem_cons_of_mem _ hx))
    unfold addS at hx
    by_cases e : c = 9
    · rw [if_pos e, List.mem_append] at hx
      rcases hx with z | z
      · exact h1 x z hw
      · exact (List.mem_replicate.mp z).2
    · rw [if_neg e, List.mem_append] at hx
      rcases hx with z | z
      · exact h1 x z hw
      · have ex : x = c := List.mem_singleton.mp z
        have := h2 c List.mem_cons_self
        subst ex
        rcases hw with (w | w | w | w) | w
        · exact absurd w e
        · exact absurd w this.1
        · exact absurd w this.2
        · exact w
        · exact absurd w this.1
theorem lnS_W (ts : List Int32) (i : Nat) (hl : (lnS ts i).length ≤ 12000) : LnW (lnS ts i) := by
  intro k hk hw
  have hm : tA (lnS ts i) k ∈ lnS ts i := by
    show rowAt _ _ ∈ _
    rw [rowAt_nI (by omega)]
    simp only [List.getD_eq_getElem?_getD, List.getElem?_eq_getElem hk, Option.getD_some]
    exact List.getElem_mem hk
  refine addS_mem ((ts.drop i).takeWhile inLn) [] (fun x hx => absurd hx (List.not_mem_nil)) (fun x hx => ?_) _ hm hw
  have hp : inLn x = true := by
    have := List.all_takeWhile (p := inLn) (l := ts.drop i)
    exact List.all_eq_true.mp this x hx
  have hp' : (!(x == 10) && !(x == 13)) = true := hp
  simp only [Bool.and_eq_true, Bool.not_eq_true', beq_eq_false_iff_ne] at hp'
  exact hp'
