/-! targets and titles without their escapes -/
def uneF (T : List Int32) (t k : Nat) : List Int32 :=
  if k < t then
    match (if tA T k = 38 then refR T k t else none) with
    | some r => nI r.2 :: uneF T t (max r.1 (k + 1))
    | none => if tA T k = 92 ∧ k + 1 < t ∧ pn (tA T (k + 1)) then tA T (k + 1) :: uneF T t (k + 2) else tA T k :: uneF T t (k + 1)
  else []
termination_by t - k
decreasing_by all_goals omega
theorem uneF_end {T : List Int32} {t k : Nat} (h : t ≤ k) : uneF T t k = [] := by rw [uneF, if_neg (by omega)]
theorem uneF_ref {T : List Int32} {t k e v : Nat} (h : k < t) (h38 : tA T k = 38) (hr : refR T k t = some (e, v)) (he : k < e) : uneF T t k = nI v :: uneF T t e := by
  rw [uneF, if_pos h, if_pos h38, hr]
  show nI v :: uneF T t (max e (k + 1)) = _
  rw [show max e (k + 1) = e by omega]
theorem uneF_esc {T : List Int32} {t k : Nat} (h : k < t) (hr : tA T k = 38 → refR T k t = none) (h2 : tA T k = 92 ∧ k + 1 < t ∧ pn (tA T (k + 1))) : uneF T t k = tA T (k + 1) :: uneF T t (k + 2) := by
  rw [uneF, if_pos h, if_neg (by rw [h2.1]; decide)]
  exact if_pos h2
theorem uneF_one {T : List Int32} {t k : Nat} (h : k < t) (hr : tA T k = 38 → refR T k t = none) (h2 : ¬ (tA T k = 92 ∧ k + 1 < t ∧ pn (tA T (k + 1)))) : uneF T t k = tA T k :: uneF T t (k + 1) := by
  rw [uneF, if_pos h]
  have : (if tA T k = 38 then refR T k t else none) = none := by
    split
    · next q => exact hr q
    · rfl
  rw [this]
  exact if_neg h2
/-- behindName, told as its answer -/
def BNok (X : CX) : Prop := ∀ (c : CS) (T : List Int32) (i t : Nat) (N : Int32 → CS → Prop), vr c.1 10 = T → T.length ≤ 16000 → i < t → t ≤ T.length → (nameR T i t = none → N (-1) c) → (∀ e v, nameR T i t = some (e, v) → N (nI e) (cI c 49 (nI v))) → cE X 4 y_Lab_behindName [.ref (adr X 4), .int (nI i), .int (nI t)] c (ciP N)
theorem numR_lt {T : List Int32} {i t e v : Nat} (h : numR T i t = some (e, v)) : i < e ∧ e ≤ t ∧ tA T (i + 1) = 35 := by
  unfold numR at h
  split at h
  · next q =>
    have h3 : i + 2 ≤ hxS (hxB T i) i := by unfold hxS; split <;> omega
    have := dgR_ge T t (hxB T i) (hxM (hxB T i)) (hxS (hxB T i) i) 0
    simp only [Option.some.injEq, Prod.mk.injEq] at h
    obtain ⟨h1, h2⟩ := h
    refine ⟨by omega, by omega, q.1⟩
  · cases h
theorem nameR_lt {T : List Int32} {i t e v : Nat} (h : nameR T i t = some (e, v)) : i < e ∧ e ≤ t := by
  have key : ∀ w : List Nat, nmE T i t w → i + 1 + w.length < t := fun w q => q.1
  unfold nameR at h
  split at h
  · next q => have := key _ q; cases h; simp at this; omega
  · split at h
    · next q => have := key _ q; cases h; simp at this; omega
    · split at h
      · next q => have := key _ q; cases h; simp at this; omega
      · split at h
        · next q => have := key _ q; cases h; simp at this; omega
        · split at h
          · next q => have := key _ q; cases h; simp at this; omega
          · split at h
            · next q => have := key _ q; cases h; simp at this; omega
            · cases h
theorem refR_lt {T : List Int32} {i t e v : Nat} (h : refR T i t = some (e, v)) : i < e ∧ e ≤ t := by
  unfold refR at h
  cases hn : numR T i t with
  | some r => rw [hn] at h; cases h; have := numR_lt hn; omega
  | none => rw [hn] at h; exact nameR_lt h
theorem uneF_len (T : List Int32) (t k : Nat) : (uneF T t k).length ≤ t - k := by
  induction k using uneF.induct T t with
  | case1 k h1 r h2 ih =>
    rw [uneF, if_pos h1, show (if tA T k = 38 then refR T k t else none) = _ from h2]
    simp only [List.length_cons]
    omega
  | case2 k h1 h2 h3 ih =>
    rw [uneF, if_pos h1, show (if tA T k = 38 then refR T k t else none) = _ from h2]
    simp only [if_pos h3, List.length_cons]
    omega
  | case3 k h1 h2 h3 ih =>
    rw [uneF, if_pos h1, show (if tA T k = 38 then refR T k t else none) = _ from h2]
    simp only [if_neg h3, List.length_cons]
    omega
  | case4 k h1 => rw [uneF, if_neg h1]; simp
section CLUNE
variable {X : CX} {a0 : Array Value} {c : CS} {T : List Int32} {N : CS → Prop}
/-- parts have grown by o; told may be new -/
def UnR (c : CS) (P o : List Int32) (c' : CS) : Prop := ∃ x, c' = cI (vR c.1 12 (P ++ o), c.2) 49 x
theorem cI_cI (c : CS) (k : Nat) (x y : Int32) : cI (cI c k x) k y = cI c k y := by
  unfold cI vI
  simp only [Prod.mk.injEq, and_true]
  funext j
  by_cases e : j = k <;> simp [e]
theorem cI_self (c : CS) (k : Nat) : cI c k (vi c.1 k) = c := by
  obtain ⟨⟨a, b⟩, d⟩ := c
  unfold cI vI
  simp only [Prod.mk.injEq, and_true]
  funext j
  by_cases e : j = k <;> simp [e, vi]
theorem UnR.r {c c' : CS} {P o : List Int32} (h : UnR c P o c') {κ : Nat} (hκ : κ ≠ 12) : vr c'.1 κ = vr c.1 κ := by
  obtain ⟨x, rfl⟩ := h
  exact vr_ne hκ
theorem UnR.p {c c' : CS} {P o : List Int32} (h : UnR c P o c') : vr c'.1 12 = P ++ o := by
  obtain ⟨x, rfl⟩ := h
  exact vr_at _ _ _
theorem UnR.add {c c' : CS} {P o : List Int32} (h : UnR c P o c') (y : Int32) : UnR c P (o ++ [y]) (vR c'.1 12 (P ++ o ++ [y]), c'.2) := by
  obtain ⟨x, rfl⟩ := h
  refine ⟨x, ?_⟩
  show (vR (vI (vR c.1 12 (P ++ o)) 49 x) 12 (P ++ o ++ [y]), c.2) = (vI (vR c.1 12 (P ++ (o ++ [y]))) 49 x, c.2)
  rw [← List.append_assoc]
  have : vR (vI (vR c.1 12 (P ++ o)) 49 x) 12 (P ++ o ++ [y]) = vI (vR (vR c.1 12 (P ++ o)) 12 (P ++ o ++ [y])) 49 x := rfl
  rw [this, vR_vR]
theorem UnR.t {c c' : CS} {P o : List Int32} (h : UnR c P o c') (y : Int32) : UnR c P o (cI c' 49 y) := by
  obtain ⟨x, rfl⟩ := h
  exact ⟨y, cI_cI _ _ _ _⟩
def UnI (c : CS) (T P : List Int32) (f t n : Nat) (x2 x3 : Int32) (c' : CS) : Prop := x2 = nI t ∧ ∃ (k : Nat) (o : List Int32), x3 = nI k ∧ f ≤ k ∧ k ≤ t ∧ n + k = t ∧ UnR c P o c' ∧ o ++ uneF T t k = uneF T t f ∧ o.length ≤ k - f
theorem q_Lab_addUnescaped (F : cF X a0) (hB : BNok X) {P : List Int32} {f t : Nat} (hT : vr c.1 10 = T) (hP : vr c.1 12 = P) (hl : T.length ≤ 16000) (hft : f ≤ t) (ht : t ≤ T.length) (hb : P.length + (t - f) < 16384) (h : ∀ c', UnR c P (uneF T t f) c' → N c') : cE X 5 y_Lab_addUnescaped [.ref (adr X 4), .int (nI f), .int (nI t)] c (cvP N) := by
  refine g_Lab_addUnescaped (I2 := fun n x1 x2 x3 c' => UnI c T P f t n x2 x3 c') F ?_ ?_
  · refine ⟨t - f, rfl, f, [], rfl, Nat.le_refl _, hft, by omega, ⟨vi c.1 49, ?_⟩, rfl, by simp⟩
    rw [List.append_nil, ← hP, vR_self]
    exact (cI_self c 49).symm
  · rintro n x1 x2 x3 c' ⟨rfl, k, o, rfl, hk, hkt, hn, hR, e, hol⟩
    have hT' : vr c'.1 10 = T := by rw [hR.r (by decide)]; exact hT
    unfold w_Lab_addUnescaped_2
    simp (discharger := omega) only [nI_leI]
    refine ⟨fun c1 => ?_, fun c1 => q_Row_at F isR10 ?_⟩
    · rw [uneF_end c1, List.append_nil] at e
      exact ⟨rfl, h _ (e ▸ hR)⟩
    · rw [hT']
      have hlt : k < t := by omega
      have hnext : ∀ (c2 : CS) (y : Int32) (k2 : Nat) (y3 : Int32), UnR c P o c2 → y3 = nI k2 → k < k2 → k2 ≤ t → uneF T t k = y :: uneF T t k2 → cE X 2 y_Row_add [.ref (adr X 12), .int y] c2 (cvP fun m1 => ∃ j, j < n ∧ UnI c T P f t j (nI t) y3 m1) := by
        intro c2 y k2 y3 hR2 hy3 hk2 hk2t hE
        refine q_Row_add12 F (by rw [hR2.p, List.length_append]; omega) ⟨t - k2, by omega, rfl, k2, o ++ [y], hy3, by omega, hk2t, by omega, ?_, ?_, ?_⟩
        · rw [hR2.p]
          exact hR2.add y
        · rw [← e, hE, List.append_assoc]
          rfl
        · rw [List.length_append]
          simp
          omega
      have h43 : ∀ (c2 : CS) (s0 : Int32), UnR c P o c2 → s0 ≤ nI k → (tA T k = 38 → refR T k t = none) → w_Lab_addUnescaped_43 X x1 (nI t) (nI k) (tA T k) s0 c2 (cvP N) (fun x1 x2 x3 m => ∃ j, j < n ∧ UnI c T P f t j x2 x3 m) := by
        intro c2 s0 hR2 hs hr
        have hT2 : vr c2.1 10 = T := by rw [hR2.r (by decide)]; exact hT
        unfold w_Lab_addUnescaped_43 w_Lab_addUnescaped_121 w_Lab_addUnescaped_133
        have h121 : ∀ y3 : Int32, y3 = nI (k + 1) → ¬ (tA T k = 92 ∧ k + 1 < t ∧ pn (tA T (k + 1))) → cE X 2 y_Row_add [.ref (adr X 12), .int (tA T k)] c2 (cvP fun m1 => ∃ j, j < n ∧ UnI c T P f t j (nI t) y3 m1) := fun y3 hy q => hnext c2 _ (k + 1) _ hR2 hy (by omega) (by omega) (uneF_one hlt hr q)
        refine ⟨fun _ => ⟨fun g1 => ⟨fun g2 => h121 _ (nI_1 k) (fun q => ?_), fun g2 => q_Row_at F isR10 ?_⟩, fun g1 => h121 _ (nI_1 k) (fun q => g1 q.1)⟩, fun z => absurd hs z⟩
        · rw [nI_1, nI_leI (by omega) (by omega)] at g2
          omega
        · rw [nI_1, nI_leI (by omega) (by omega)] at g2
          rw [hT2, nI_1]
          refine q_MB_isPunctuation F ⟨fun g3 => h121 _ rfl (fun q => bI_0 g3 q.2.2), fun g3 => q_Row_at F isR10 ?_⟩
          rw [hT2]
          exact hnext c2 _ (k + 2) _ hR2 (nI_add k 2) (by omega) (by omega) (uneF_esc hlt hr ⟨g1, by omega, bI_n0 g3⟩)
      have h43r : ∀ (c2 : CS) (e v : Nat), UnR c P o c2 → vi c2.1 49 = nI v → tA T k = 38 → refR T k t = some (e, v) → w_Lab_addUnescaped_43 X x1 (nI t) (nI k) (tA T k) (nI e) c2 (cvP N) (fun x1 x2 x3 m => ∃ j, j < n ∧ UnI c T P f t j x2 x3 m) := by
        intro c2 e v hR2 h49 h38 hr
        have hlt2 := refR_lt hr
        unfold w_Lab_addUnescaped_43 w_Lab_addUnescaped_133
        refine ⟨fun z => absurd z ?_, fun _ => ?_⟩
        · rw [nI_leI (by omega) (by omega)]
          omega
        · rw [h49]
          exact hnext c2 _ e _ hR2 rfl hlt2.1 hlt2.2 (uneF_ref hlt h38 hr hlt2.1)
      have hm1 : ∀ x : Int32, (-1 : Int32) ≤ nI k := fun _ => by
        rw [Int32.le_iff_toInt_le, nI_toInt (by omega)]
        have : (-1 : Int32).toInt = -1 := rfl
        omega
      have hmax : ∀ q : Nat, q < 2 ^ 31 → ¬ nI q < -1 ∧ (-1 : Int32) < nI q := by
        intro q hq
        rw [Int32.lt_iff_toInt_lt, Int32.lt_iff_toInt_lt, nI_toInt hq]
        have : (-1 : Int32).toInt = -1 := rfl
        omega
      refine ⟨fun c2 => ?_, fun c2 => h43 c' (-1) hR (hm1 0) (fun z => absurd z c2)⟩
      refine q_Lab_behindNumber F hT' hl hlt ht (fun q => ?_) (fun en vn q q1 q2 => ?_)
      · refine hB _ T k t _ hT' hl hlt ht (fun z => q_Math_max F ?_) (fun em vm z => q_Math_max F ?_)
        · rw [if_neg (by decide)]
          exact h43 c' (-1) hR (hm1 0) (fun _ => by unfold refR; rw [q]; exact z)
        · have hz := nameR_lt z
          rw [if_pos (hmax em (by omega)).2]
          exact h43r _ em vm (hR.t _) (cI_at _ _ _) c2 (by unfold refR; rw [q]; exact z)
      · have h35 := (numR_lt q).2.2
        refine hB _ T k t _ hT' hl hlt ht (fun z => q_Math_max F ?_) (fun em vm z => ?_)
        · rw [if_neg (hmax en (by omega)).1]
          exact h43r _ en vn (hR.t _) (cI_at _ _ _) c2 (by unfold refR; rw [q])
        · rw [nameR_35 h35] at z
          cases z
end CLUNE
