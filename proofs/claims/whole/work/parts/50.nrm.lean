/-! labels made normal -/
abbrev smallF (c : Int32) : Int32 := if 65 ≤ c ∧ c ≤ 90 then c + 32 else c
def nrm : List Int32 → Bool → Bool → List Int32
  | [], _, _ => []
  | c :: r, s, b => if wh c then nrm r s true else (if (b && s) = true then [32] else []) ++ smallF c :: nrm r true false
/-- from a to b -/
def sl (T : List Int32) (a b : Nat) : List Int32 := (T.take b).drop a
theorem sl_nil {T : List Int32} {a b : Nat} (h : b ≤ a) : sl T a b = [] := by
  unfold sl
  exact List.drop_eq_nil_of_le (by rw [List.length_take]; omega)
theorem sl_cons {T : List Int32} {a b : Nat} (h : a < b) (hb : b ≤ T.length) (h31 : a < 2 ^ 31) : sl T a b = tA T a :: sl T (a + 1) b := by
  unfold sl
  rw [List.drop_eq_getElem_cons (by rw [List.length_take]; omega)]
  congr 1
  rw [List.getElem_take]
  have := rowAt_some (xs := T) (i := a) (by omega) h31
  rw [List.getElem?_eq_getElem (by omega)] at this
  exact Option.some.inj this
theorem sl_len {T : List Int32} {a b : Nat} (hb : b ≤ T.length) : (sl T a b).length = b - a := by
  unfold sl
  rw [List.length_drop, List.length_take]
  omega
theorem nrm_len (l : List Int32) : ∀ s b : Bool, (nrm l s b).length ≤ l.length + (if b = true then 1 else 0) := by
  induction l with
  | nil => intro s b; simp [nrm]
  | cons c r ih =>
    intro s b
    unfold nrm
    split
    · have := ih s true
      simp at this ⊢
      omega
    · have := ih true false
      simp at this ⊢
      cases b <;> cases s <;> simp <;> omega
theorem cvP.v {N : CS → Prop} {c c' : CS} (h : N c) (e : c' = c) : cvP N none c' := ⟨rfl, e ▸ h⟩
theorem vR_vR (v : VS) (k : Nat) (a b : List Int32) : vR (vR v k a) k b = vR v k b := by
  unfold vR
  simp only [Prod.mk.injEq, true_and, and_true]
  funext j
  by_cases e : j = k <;> simp [e]
theorem vR_self (v : VS) (k : Nat) : vR v k (vr v k) = v := by
  unfold vR
  obtain ⟨a, b, r, d⟩ := v
  simp only [Prod.mk.injEq, true_and, and_true]
  funext j
  by_cases e : j = k <;> simp [e, vr]
theorem vr_at (v : VS) (k : Nat) (a : List Int32) : vr (vR v k a) k = a := if_pos rfl
theorem vr_ne {v : VS} {j k : Nat} {a : List Int32} (h : j ≠ k) : vr (vR v k a) j = vr v j := if_neg h
theorem small_sub (c : Int32) : c - 65 + 97 = c + 32 := by
  rw [Int32.sub_eq_add_neg, Int32.add_assoc]
  rfl
section CLNRM
variable {X : CX} {a0 : Array Value} {c : CS} {N : CS → Prop}
def AnI (c : CS) (S P : List Int32) (κ f t n : Nat) (q1 : Nat) (x3 x4 x5 x6 : Int32) (c' : CS) : Prop := q1 = κ ∧ x3 = nI t ∧ x4 = nI P.length ∧ ∃ (i : Nat) (b : Bool) (o : List Int32), x6 = nI i ∧ f ≤ i ∧ i ≤ t ∧ n + i = t ∧ x5 = bI (b = true) ∧ c' = (vR c.1 12 (P ++ o), c.2) ∧ o ++ nrm (sl S i t) (!o.isEmpty) b = nrm (sl S f t) false false ∧ o.length + (if b = true then 1 else 0) ≤ i - f
theorem q_Lab_addNormal (F : cF X a0) {κ f t : Nat} {S P : List Int32} (hκ : isR κ) (hκ2 : κ ≠ 12) (hS : vr c.1 κ = S) (hP : vr c.1 12 = P) (hft : f ≤ t) (ht : t ≤ S.length) (hl : S.length ≤ 16000) (hb : P.length + (t - f) < 16384) (h : N (vR c.1 12 (P ++ nrm (sl S f t) false false), c.2)) : cE X 3 y_Lab_addNormal [.ref (adr X 4), .ref (adr X κ), .int (nI f), .int (nI t)] c (cvP N) := by
  refine g_Lab_addNormal (I15 := fun n q1 x2 x3 x4 x5 x6 c' => AnI c S P κ f t n q1 x3 x4 x5 x6 c') F ?_ ?_
  · refine q_Row_size F isR12 ⟨t - f, rfl, rfl, by rw [hP], f, false, [], rfl, Nat.le_refl _, hft, by omega, rfl, ?_, rfl, by simp⟩
    rw [List.append_nil, ← hP, vR_self]
  · rintro n q1 x2 x3 x4 x5 x6 c' ⟨rfl, rfl, rfl, i, b, o, rfl, hi, hit, hn, rfl, rfl, e, hol⟩
    have hS' : vr (vR c.1 12 (P ++ o), c.2).1 q1 = S := by rw [← hS]; exact vr_ne hκ2
    have hP' : vr (vR c.1 12 (P ++ o), c.2).1 12 = P ++ o := vr_at _ _ _
    unfold w_Lab_addNormal_15
    simp (discharger := omega) only [nI_leI]
    refine ⟨fun c1 => ?_, fun c1 => ⟨hκ, q_Row_at F hκ ?_⟩⟩
    · rw [sl_nil c1, nrm, List.append_nil] at e
      exact cvP.v h (by rw [e])
    · rw [hS']
      rw [sl_cons (by omega) ht (by omega)] at e
      have h103 : ∀ (o2 : List Int32) (y7 s1 : Int32), o2.length ≤ i - f → ¬ wh (tA S i) → s1 = smallF (tA S i) → o2 ++ smallF (tA S i) :: nrm (sl S (i + 1) t) true false = nrm (sl S f t) false false → w_Lab_addNormal_103 X q1 x2 (nI t) (nI P.length) 0 (nI i) y7 s1 (vR c.1 12 (P ++ o2), c.2) (cvP N) (fun q1_1 x2 x3 x4 x5 x6 m => ∃ j, j < n ∧ AnI c S P q1 f t j q1_1 x3 x4 x5 x6 m) := by
        intro o2 y7 s1 hlen hw hs1 hE
        unfold w_Lab_addNormal_103 w_Lab_addNormal_106
        refine q_Row_add12 F ?_ ⟨n - 1, by omega, rfl, rfl, rfl, i + 1, false, o2 ++ [smallF (tA S i)], nI_1 i, by omega, by omega, by omega, rfl, ?_, ?_, ?_⟩
        · show (vr (vR c.1 12 (P ++ o2)) 12).length < 16384
          rw [vr_at, List.length_append]
          omega
        · show (vR (vR c.1 12 (P ++ o2)) 12 (vr (vR c.1 12 (P ++ o2)) 12 ++ [s1]), c.2) = _
          rw [vr_at, vR_vR, List.append_assoc, hs1]
        · rw [List.append_assoc]
          simp only [List.singleton_append]
          have : (!(o2 ++ [smallF (tA S i)]).isEmpty) = true := by simp
          rw [this]
          exact hE
        · rw [List.length_append]
          simp
          omega
      have h69 : ∀ (o2 : List Int32) (y5 : Int32), o2.length ≤ i - f → ¬ wh (tA S i) → o2 ++ smallF (tA S i) :: nrm (sl S (i + 1) t) true false = nrm (sl S f t) false false → w_Lab_addNormal_69 X q1 x2 (nI t) (nI P.length) y5 (nI i) (tA S i) (vR c.1 12 (P ++ o2), c.2) (cvP N) (fun q1_1 x2 x3 x4 x5 x6 m => ∃ j, j < n ∧ AnI c S P q1 f t j q1_1 x3 x4 x5 x6 m) := by
        intro o2 y5 hlen hw hE
        unfold w_Lab_addNormal_69 w_Lab_addNormal_101
        refine ⟨fun g1 => h103 o2 _ _ hlen hw ?_ hE, fun g1 => ⟨fun g2 => h103 o2 _ _ hlen hw ?_ hE, fun g2 => h103 o2 _ _ hlen hw ?_ hE⟩⟩
        · exact (if_neg (fun q => absurd g1 (Int32.not_lt.mpr q.1))).symm
        · exact (if_neg (fun q => absurd g2 (Int32.not_lt.mpr q.2))).symm
        · rw [small_sub]
          exact (if_pos ⟨Int32.not_lt.mp g1, Int32.not_lt.mp g2⟩).symm
      refine q_MB_isWhite F ⟨fun c2 => ?_, fun c2 => ?_⟩
      · have hw := bI_0 c2
        rw [nrm, if_neg hw] at e
        refine ⟨fun c3 => ?_, fun c3 => q_Row_size F isR12 ?_⟩
        · have hb0 := bI_0 c3
          rw [if_neg (by simp [hb0]), List.nil_append] at e
          exact h69 o _ (by omega) hw e
        · have hb1 := bI_n0 c3
          rw [hP', List.length_append]
          simp (discharger := omega) only [nI_leI]
          refine ⟨fun c4 => ?_, fun c4 => ?_⟩
          · have ho : o = [] := List.eq_nil_of_length_eq_zero (by omega)
            rw [if_neg (by simp [ho]), List.nil_append] at e
            exact h69 o _ (by omega) hw e
          · have ho : (b && !o.isEmpty) = true := by
              rw [hb1]
              cases o with
              | nil => simp at c4
              | cons => rfl
            rw [if_pos ho] at e
            refine q_Row_add12 F ?_ ?_
            · rw [hP', List.length_append]
              omega
            · have := h69 (o ++ [32]) (bI (b = true)) (by rw [List.length_append]; simp; rw [if_pos hb1] at hol; omega) hw (by rw [← e]; simp)
              rw [← List.append_assoc] at this
              have e2 : ((vR (vR c.1 12 (P ++ o), c.2).1 12 (vr (vR c.1 12 (P ++ o), c.2).1 12 ++ [32]), (vR c.1 12 (P ++ o), c.2).2) : CS) = (vR c.1 12 (P ++ o ++ [32]), c.2) := by rw [hP', vR_vR]
              rw [e2]
              exact this
      · have hw := bI_n0 c2
        rw [nrm, if_pos hw] at e
        unfold w_Lab_addNormal_106
        refine ⟨n - 1, by omega, rfl, rfl, rfl, i + 1, true, o, nI_1 i, by omega, by omega, by omega, rfl, rfl, e, ?_⟩
        simp
        split at hol <;> omega
end CLNRM
