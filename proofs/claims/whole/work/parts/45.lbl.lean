/-! scanning a paragraph's text T: labels, gaps, targets, titles, ends of lines; places are counted in T -/
abbrev wh (c : Int32) : Prop := c = 9 ∨ c = 10 ∨ c = 13 ∨ c = 32
abbrev pn (c : Int32) : Prop := (33 ≤ c ∧ c ≤ 47) ∨ (58 ≤ c ∧ c ≤ 64) ∨ (91 ≤ c ∧ c ≤ 96) ∨ (123 ≤ c ∧ c ≤ 126)
abbrev tA (T : List Int32) (k : Nat) : Int32 := rowAt T (nI k)
def lbF (T : List Int32) (f k : Nat) (sm : Bool) : Option Nat :=
  if k < T.length then
    if tA T k = 93 then (if sm = true ∧ k - f - 1 ≤ 100 then some k else none)
    else if tA T k = 91 then none
    else if tA T k = 92 then lbF T f (k + 2) true
    else lbF T f (k + 1) (sm || !decide (wh (tA T k)))
  else none
termination_by T.length - k
def lbE (T : List Int32) (f : Nat) : Option Nat := if tA T f = 91 then lbF T f (f + 1) false else none
def gpF (T : List Int32) (k : Nat) (nl : Bool) : Nat :=
  if k < T.length then
    if tA T k = 32 then gpF T (k + 1) nl
    else if tA T k = 10 ∧ nl = false then gpF T (k + 1) true
    else k
  else k
termination_by T.length - k
/-- where the line ends: its line feed, or the end of all -/
def lnF (T : List Int32) (k : Nat) : Option Nat :=
  if k < T.length then
    if tA T k = 32 then lnF T (k + 1)
    else if tA T k = 10 then some k
    else none
  else some k
termination_by T.length - k
def agF (T : List Int32) (k : Nat) : Option Nat :=
  if k < T.length then
    if tA T k = 62 then some k
    else if tA T k = 60 ∨ tA T k = 10 then none
    else if tA T k = 92 ∧ tA T (k + 1) ≠ 10 then agF T (k + 2)
    else agF T (k + 1)
  else none
termination_by T.length - k
def sgF (T : List Int32) (k dp : Nat) : Nat × Nat :=
  if k < T.length then
    if tA T k ≤ 32 ∨ tA T k = 127 then (k, dp)
    else if tA T k = 41 ∧ dp = 0 then (k, dp)
    else if tA T k = 92 ∧ pn (tA T (k + 1)) then sgF T (k + 2) dp
    else sgF T (k + 1) (if tA T k = 40 then dp + 1 else if tA T k = 41 then dp - 1 else dp)
  else (k, dp)
termination_by T.length - k
def tlF (T : List Int32) (c lst : Int32) (k : Nat) : Option Nat :=
  if k < T.length then
    if tA T k = lst then some k
    else if tA T k = 40 ∧ c = 40 then none
    else if tA T k = 92 then tlF T c lst (k + 2)
    else tlF T c lst (k + 1)
  else none
termination_by T.length - k
abbrev tlL (c : Int32) : Int32 := if c = 40 then 41 else c
def tlE (T : List Int32) (k : Nat) : Option Nat := if tA T k = 34 ∨ tA T k = 39 ∨ tA T k = 40 then tlF T (tA T k) (tlL (tA T k)) (k + 1) else none
theorem tA_out {T : List Int32} {k : Nat} (hk : k < 2 ^ 31) (h : T.length ≤ k) : tA T k = -1 := rowAt_out hk h
theorem tA_in {T : List Int32} {k : Nat} {c : Int32} (hk : k < 2 ^ 31) (h : tA T k = c) (hc : c ≠ -1) : k < T.length := by
  apply Nat.lt_of_not_le
  intro q
  rw [tA_out hk q] at h
  exact hc h.symm
theorem ciP.i {N : Int32 → CS → Prop} {x y : Int32} {c : CS} (h : N x c) (e : y = x) : ciP N (some (.int y)) c := ⟨y, rfl, e ▸ h⟩
theorem isR10 : isR 10 := Or.inr (Or.inl rfl)
theorem isR12 : isR 12 := Or.inr (Or.inr (Or.inr (Or.inl rfl)))
theorem isR13 : isR 13 := Or.inr (Or.inr (Or.inr (Or.inr rfl)))
section CLLBL
variable {X : CX} {a0 : Array Value} {c : CS} {T : List Int32} {N : Int32 → CS → Prop}
theorem q_MB_isWhite (F : cF X a0) {x : Int32} (h : N (bI (wh x)) c) : cE X 0 y_MB_isWhite [.int x] c (ciP N) := by
  refine g_MB_isWhite F ?_
  have h1 : wh x → w_MB_isWhite_24 X x c (ciP N) := fun q => ⟨mZ1, ciP.i h (bI_t q).symm⟩
  have h0 : ¬ wh x → w_MB_isWhite_29 X x 0 c (ciP N) := fun q => ⟨mZ0, ciP.i h (bI_f q).symm⟩
  unfold w_MB_isWhite_0
  refine ⟨fun c1 => h1 (Or.inl c1), fun c1 => ⟨fun c2 => h1 (Or.inr (Or.inl c2)), fun c2 => ⟨fun c3 => h1 (Or.inr (Or.inr (Or.inl c3))), fun c3 => ⟨fun c4 => h1 (Or.inr (Or.inr (Or.inr c4))), fun c4 => h0 (fun q => ?_)⟩⟩⟩⟩
  rcases q with q | q | q | q
  · exact c1 q
  · exact c2 q
  · exact c3 q
  · exact c4 q
theorem pn_iff {x : Int32} : pn x ↔ (33 ≤ x.toInt ∧ x.toInt ≤ 47) ∨ (58 ≤ x.toInt ∧ x.toInt ≤ 64) ∨ (91 ≤ x.toInt ∧ x.toInt ≤ 96) ∨ (123 ≤ x.toInt ∧ x.toInt ≤ 126) := by
  simp only [pn, Int32.le_iff_toInt_le]
  exact Iff.rfl
theorem lt_I {x y : Int32} {a b : Int} (hx : x.toInt = a) (hy : y.toInt = b) : x < y ↔ a < b := by rw [Int32.lt_iff_toInt_lt, hx, hy]
theorem le_I {x y : Int32} {a b : Int} (hx : x.toInt = a) (hy : y.toInt = b) : x ≤ y ↔ a ≤ b := by rw [Int32.le_iff_toInt_le, hx, hy]
theorem q_MB_isPunctuation (F : cF X a0) {x : Int32} (h : N (bI (pn x)) c) : cE X 0 y_MB_isPunctuation [.int x] c (ciP N) := by
  refine g_MB_isPunctuation F ?_
  have h1 : pn x → w_MB_isPunctuation_48 X x c (ciP N) := fun q => ⟨mZ1, ciP.i h (bI_t q).symm⟩
  have h0 : ¬ pn x → w_MB_isPunctuation_52 X x c (ciP N) := fun q => ⟨mZ0, ciP.i h (bI_f q).symm⟩
  rw [pn_iff] at h1 h0
  have e36 : w_MB_isPunctuation_36 X x c (ciP N) ∨ ((33 ≤ x.toInt ∧ x.toInt ≤ 47) ∨ (58 ≤ x.toInt ∧ x.toInt ≤ 64) ∨ (91 ≤ x.toInt ∧ x.toInt ≤ 96)) := by
    by_cases q : ((33 ≤ x.toInt ∧ x.toInt ≤ 47) ∨ (58 ≤ x.toInt ∧ x.toInt ≤ 64) ∨ (91 ≤ x.toInt ∧ x.toInt ≤ 96))
    · exact Or.inr q
    · refine Or.inl ⟨fun c1 => h0 ?_, fun c1 => ⟨fun c2 => h0 ?_, fun c2 => h1 ?_⟩⟩
      · have := (lt_I (a := x.toInt) (b := 123) rfl rfl).mp c1; omega
      · have := (lt_I (a := 126) (b := x.toInt) rfl rfl).mp c2; omega
      · have e1 := mt (lt_I (a := x.toInt) (b := 123) rfl rfl).mpr c1
        have e2 := mt (lt_I (a := 126) (b := x.toInt) rfl rfl).mpr c2
        omega
  have e24 : w_MB_isPunctuation_24 X x c (ciP N) ∨ ((33 ≤ x.toInt ∧ x.toInt ≤ 47) ∨ (58 ≤ x.toInt ∧ x.toInt ≤ 64)) := by
    by_cases q : ((33 ≤ x.toInt ∧ x.toInt ≤ 47) ∨ (58 ≤ x.toInt ∧ x.toInt ≤ 64))
    · exact Or.inr q
    · refine Or.inl ⟨fun c1 => ?_, fun c1 => ⟨fun c2 => h1 ?_, fun c2 => ?_⟩⟩
      · have := (lt_I (a := x.toInt) (b := 91) rfl rfl).mp c1; exact e36.resolve_right (by omega)
      · have e1 := mt (lt_I (a := x.toInt) (b := 91) rfl rfl).mpr c1
        have e2 := (le_I (a := x.toInt) (b := 96) rfl rfl).mp c2
        omega
      · have e2 := mt (le_I (a := x.toInt) (b := 96) rfl rfl).mpr c2
        exact e36.resolve_right (by omega)
  have e12 : w_MB_isPunctuation_12 X x c (ciP N) ∨ ((33 ≤ x.toInt ∧ x.toInt ≤ 47)) := by
    by_cases q : ((33 ≤ x.toInt ∧ x.toInt ≤ 47))
    · exact Or.inr q
    · refine Or.inl ⟨fun c1 => ?_, fun c1 => ⟨fun c2 => h1 ?_, fun c2 => ?_⟩⟩
      · have := (lt_I (a := x.toInt) (b := 58) rfl rfl).mp c1; exact e24.resolve_right (by omega)
      · have e1 := mt (lt_I (a := x.toInt) (b := 58) rfl rfl).mpr c1
        have e2 := (le_I (a := x.toInt) (b := 64) rfl rfl).mp c2
        omega
      · have e2 := mt (le_I (a := x.toInt) (b := 64) rfl rfl).mpr c2
        exact e24.resolve_right (by omega)
  refine ⟨fun c1 => ?_, fun c1 => ⟨fun c2 => h1 ?_, fun c2 => ?_⟩⟩
  · have := (lt_I (a := x.toInt) (b := 33) rfl rfl).mp c1; exact e12.resolve_right (by omega)
  · have e1 := mt (lt_I (a := x.toInt) (b := 33) rfl rfl).mpr c1
    have e2 := (le_I (a := x.toInt) (b := 47) rfl rfl).mp c2
    omega
  · have e2 := mt (le_I (a := x.toInt) (b := 47) rfl rfl).mpr c2
    exact e12.resolve_right (by omega)
theorem q_Lab_behindLabel (F : cF X a0) (hT : vr c.1 10 = T) (hl : T.length ≤ 16000) {f : Nat} (hf : f ≤ 16000) (h0 : lbE T f = none → N (-1) c) (h1 : ∀ k, lbE T f = some k → k < T.length → f < k → N (nI (k + 1)) (cI (cI c 43 (nI (f + 1))) 44 (nI k))) : cE X 1 y_Lab_behindLabel [.ref (adr X 4), .int (nI f)] c (ciP N) := by
  refine g_Lab_behindLabel (I21 := fun n x1 x2 x3 c' => c' = c ∧ x1 = nI f ∧ ∃ k sm, x2 = bI (sm = false) ∧ x3 = nI k ∧ f < k ∧ n + k = 16010 ∧ k ≤ T.length + 2 ∧ lbF T f k sm = lbE T f) F ?_ ?_
  · refine q_Row_at F isR10 ⟨fun c1 => ⟨16010 - (f + 1), rfl, rfl, f + 1, false, rfl, nI_1 f, by omega, by omega, ?_, ?_⟩, fun c1 => ⟨_, rfl, h0 ?_⟩⟩
    · rw [hT] at c1
      have := tA_in (T := T) (by omega) c1 (by decide)
      omega
    · unfold lbE
      rw [hT] at c1
      rw [if_pos c1]
    · unfold lbE
      rw [hT] at c1
      rw [if_neg c1]
  · rintro n x1 x2 x3 c' ⟨rfl, rfl, k, sm, rfl, rfl, hk, hn, hkl, e⟩
    have hsub : nI k - nI f - 1 = nI (k - f - 1) := by
      rw [pk_sub (by omega), show (1 : Int32) = nI 1 from rfl, pk_sub (by omega)]
    have h108 : (T.length ≤ k ∨ tA T k = 93) → w_Lab_behindLabel_108 X (nI f) (bI (sm = false)) (nI k) c' (ciP N) := by
      intro hx
      unfold w_Lab_behindLabel_108 w_Lab_behindLabel_133
      refine q_Row_size F isR10 ?_
      simp (discharger := omega) only [hT, nI_leI, hsub, lit_leJ]
      rw [lbF] at e
      refine ⟨fun c1 => ciP.i (h0 ?_) rfl, fun c1 => ⟨fun c2 => ⟨fun c3 => ?_, fun c3 => ciP.i (h0 ?_) rfl⟩, fun c2 => ciP.i (h0 ?_) rfl⟩⟩
      · rw [← e, if_neg (by omega)]
      · intro m2 e2 m3 e3
        subst e3 e2
        have hs : ¬ sm = false := bI_0 c2
        rw [if_pos (by omega), if_pos (hx.resolve_left c1), if_pos ⟨by simpa using hs, c3⟩] at e
        rw [nI_1 f]
        exact ciP.i (h1 k e.symm (by omega) hk) (nI_1 k)
      · rw [← e, if_pos (by omega), if_pos (hx.resolve_left c1), if_neg (fun q => c3 q.2)]
      · have hs := bI_n0 c2
        rw [← e, if_pos (by omega), if_pos (hx.resolve_left c1), if_neg (fun q => by rw [hs] at q; exact absurd q.1 (by decide))]
    unfold w_Lab_behindLabel_21
    refine q_Row_size F isR10 ⟨fun c1 => ?_, fun c1 => q_Row_at F isR10 ⟨fun c2 => ?_, fun c2 => q_Row_at F isR10 ⟨fun c3 => ?_, fun c3 => ?_⟩⟩⟩
    · rw [hT, nI_leI (by omega) (by omega)] at c1
      exact h108 (Or.inl c1)
    · rw [hT] at c2
      exact h108 (Or.inr c2)
    · rw [hT, nI_leI (by omega) (by omega)] at c1
      rw [hT] at c2 c3
      rw [lbF, if_pos (by omega), if_neg c2, if_pos c3] at e
      exact ciP.i (h0 e.symm) rfl
    · rw [hT, nI_leI (by omega) (by omega)] at c1
      rw [hT] at c2 c3
      rw [lbF, if_pos (by omega), if_neg c2, if_neg c3] at e
      have h83 : ∀ sm' : Bool, (tA T k = 92 → sm' = true) → (¬ tA T k = 92 → sm' = (sm || !decide (wh (tA T k)))) → w_Lab_behindLabel_83 X (nI f) (bI (sm = false)) (nI k) (bI (sm' = false)) c' (ciP N) (fun x1 x2 x3 m => ∃ j, j < n ∧ m = c' ∧ x1 = nI f ∧ ∃ k sm, x2 = bI (sm = false) ∧ x3 = nI k ∧ f < k ∧ j + k = 16010 ∧ k ≤ T.length + 2 ∧ lbF T f k sm = lbE T f) := by
        intro sm' g1 g2
        unfold w_Lab_behindLabel_83 w_Lab_behindLabel_103
        refine q_Row_at F isR10 ⟨fun c4 => ?_, fun c4 => ?_⟩
        · rw [hT] at c4
          rw [if_pos c4] at e
          exact ⟨n - 2, by omega, rfl, rfl, k + 2, sm', rfl, nI_add k 2, by omega, by omega, by omega, by rw [g1 c4]; exact e⟩
        · rw [hT] at c4
          rw [if_neg c4] at e
          exact ⟨n - 1, by omega, rfl, rfl, k + 1, sm', rfl, nI_1 k, by omega, by omega, by omega, by rw [g2 c4]; exact e⟩
      unfold w_Lab_behindLabel_82
      refine ⟨fun c4 => ?_, fun c4 => q_Row_at F isR10 (q_MB_isWhite F ⟨fun c5 => ?_, fun c5 => ?_⟩)⟩
      · have hs : sm = true := by have := bI_0 c4; simpa using this
        have := h83 true (fun _ => rfl) (fun _ => by rw [hs]; rfl)
        exact this
      · rw [hT] at c5
        have hw := bI_0 c5
        have := h83 true (fun _ => rfl) (fun _ => by simp [hw])
        exact this
      · rw [hT] at c5
        have hw := bI_n0 c5
        have hs := bI_n0 c4
        have := h83 false (fun q => by rw [show rowAt T (nI k) = 92 from q] at hw; exact absurd hw (by decide)) (fun _ => by simp [hw, hs])
        exact this
end CLLBL
