/-! references by number -/
def digN (hx : Bool) (c : Int32) : Option Nat :=
  if 48 ≤ c ∧ c ≤ 57 then some (c.toNatClampNeg - 48)
  else if hx = true ∧ 97 ≤ c ∧ c ≤ 102 then some (c.toNatClampNeg - 87)
  else if hx = true ∧ 65 ≤ c ∧ c ≤ 70 then some (c.toNatClampNeg - 55) else none
def digI (hx : Bool) (c : Int32) : Int32 := match digN hx c with | none => -1 | some d => nI d
def dgR (T : List Int32) (t : Nat) (hx : Bool) : Nat → Nat → Nat → Nat × Nat
  | 0, k, v => (k, v)
  | n + 1, k, v => if k < t then (match digN hx (tA T k) with | none => (k, v) | some d => dgR T t hx n (k + 1) ((if hx = true then 16 else 10) * v + d)) else (k, v)
def hxB (T : List Int32) (i : Nat) : Bool := decide (tA T (i + 2) = 120 ∨ tA T (i + 2) = 88)
abbrev hxM (hx : Bool) : Nat := if hx = true then 6 else 7
abbrev hxS (hx : Bool) (i : Nat) : Nat := if hx = true then i + 3 else i + 2
def chN (v : Nat) : Nat := if 0 < v ∧ v ≤ 1114111 ∧ (v < 55296 ∨ 57343 < v) then v else 65533
def numR (T : List Int32) (i t : Nat) : Option (Nat × Nat) :=
  if tA T (i + 1) = 35 ∧ ¬ (dgR T t (hxB T i) (hxM (hxB T i)) (hxS (hxB T i) i) 0).1 = hxS (hxB T i) i ∧ (dgR T t (hxB T i) (hxM (hxB T i)) (hxS (hxB T i) i) 0).1 < t ∧ tA T (dgR T t (hxB T i) (hxM (hxB T i)) (hxS (hxB T i) i) 0).1 = 59
  then some ((dgR T t (hxB T i) (hxM (hxB T i)) (hxS (hxB T i) i) 0).1 + 1, chN (dgR T t (hxB T i) (hxM (hxB T i)) (hxS (hxB T i) i) 0).2) else none
theorem ge_nI {c : Int32} {a : Nat} (ha : a < 2 ^ 31) (h : nI a ≤ c) : ∃ n, a ≤ n ∧ n < 2 ^ 31 ∧ c = nI n := by
  obtain ⟨n, h1, h2⟩ := nI_of (x := c) (fun q => by
    have h3 := (Int32.lt_iff_toInt_lt).mp q
    have h4 := (Int32.le_iff_toInt_le).mp h
    rw [nI_toInt ha] at h4
    have : (0 : Int32).toInt = 0 := rfl
    omega)
  subst h2
  exact ⟨n, (nI_leI ha h1).mp h, h1, rfl⟩
theorem sub_nI {c : Int32} {a : Nat} (ha : a < 2 ^ 31) (h : nI a ≤ c) : c - nI a = nI (c.toNatClampNeg - a) := by
  obtain ⟨n, h1, h2, rfl⟩ := ge_nI ha h
  rw [nI_clamp h2, pk_sub h1]
theorem le_nI_clamp {c : Int32} {b : Nat} (hb : b < 2 ^ 31) (h : c ≤ nI b) (h0 : nI 0 ≤ c) : c.toNatClampNeg ≤ b := by
  obtain ⟨n, h1, h2, rfl⟩ := ge_nI (by decide) h0
  rw [nI_clamp h2]
  exact (nI_leI h2 hb).mp h
theorem digN_lt {hx : Bool} {c : Int32} {d : Nat} (h : digN hx c = some d) : d < 16 := by
  have key : ∀ (a b : Nat), a < 2 ^ 31 → b < 2 ^ 31 → nI a ≤ c → c ≤ nI b → c.toNatClampNeg ≤ b := by
    intro a b ha hb q1 q2
    obtain ⟨n, h1, h2, rfl⟩ := ge_nI ha q1
    rw [nI_clamp h2]
    exact (nI_leI h2 hb).mp q2
  unfold digN at h
  split at h
  · next q => cases h; have := key 48 57 (by decide) (by decide) q.1 q.2; omega
  · split at h
    · next q => cases h; have := key 97 102 (by decide) (by decide) q.2.1 q.2.2; omega
    · split at h
      · next q => cases h; have := key 65 70 (by decide) (by decide) q.2.1 q.2.2; omega
      · cases h
theorem digN_no59 {hx : Bool} : digN hx 59 = none := by cases hx <;> decide
theorem dgR_ge (T : List Int32) (t : Nat) (hx : Bool) : ∀ n k v, k ≤ (dgR T t hx n k v).1 := by
  intro n
  induction n with
  | zero => intro k v; exact Nat.le_refl _
  | succ n ih =>
    intro k v
    unfold dgR
    split
    · split
      · exact Nat.le_refl _
      · have := ih (k + 1) ((if hx = true then 16 else 10) * v + ‹Nat›)
        omega
    · exact Nat.le_refl _
theorem d87 (c : Int32) : c - 97 + 10 = c - 87 := by rw [Int32.sub_eq_add_neg, Int32.add_assoc, Int32.sub_eq_add_neg]; rfl
theorem d55 (c : Int32) : c - 65 + 10 = c - 55 := by rw [Int32.sub_eq_add_neg, Int32.add_assoc, Int32.sub_eq_add_neg]; rfl
theorem digI_1 {hx : Bool} {c : Int32} (h1 : ¬ c < 48) (h2 : ¬ 57 < c) : c - 48 = digI hx c := by
  unfold digI digN
  rw [if_pos ⟨Int32.not_lt.mp h1, Int32.not_lt.mp h2⟩]
  exact sub_nI (a := 48) (by decide) (Int32.not_lt.mp h1)
theorem digI_2 {c : Int32} (h0 : c < 48 ∨ 57 < c) (h1 : ¬ c < 97) (h2 : ¬ 102 < c) : c - 87 = digI true c := by
  unfold digI digN
  rw [if_neg (fun q => h0.elim (fun z => absurd z (Int32.not_lt.mpr q.1)) (fun z => absurd z (Int32.not_lt.mpr q.2))), if_pos ⟨rfl, Int32.not_lt.mp h1, Int32.not_lt.mp h2⟩]
  refine sub_nI (a := 87) (by decide) (Int32.le_trans ?_ (Int32.not_lt.mp h1))
  decide
theorem digI_3 {c : Int32} (h0 : c < 48 ∨ 57 < c) (h00 : c < 97 ∨ 102 < c) (h1 : ¬ c < 65) (h2 : ¬ 70 < c) : c - 55 = digI true c := by
  unfold digI digN
  rw [if_neg (fun q => h0.elim (fun z => absurd z (Int32.not_lt.mpr q.1)) (fun z => absurd z (Int32.not_lt.mpr q.2))), if_neg (fun q => h00.elim (fun z => absurd z (Int32.not_lt.mpr q.2.1)) (fun z => absurd z (Int32.not_lt.mpr q.2.2))), if_pos ⟨rfl, Int32.not_lt.mp h1, Int32.not_lt.mp h2⟩]
  refine sub_nI (a := 55) (by decide) (Int32.le_trans ?_ (Int32.not_lt.mp h1))
  decide
theorem digI_0 {hx : Bool} {c : Int32} (h0 : c < 48 ∨ 57 < c) (h00 : hx = true → c < 97 ∨ 102 < c) (h000 : hx = true → c < 65 ∨ 70 < c) : -1 = digI hx c := by
  unfold digI digN
  rw [if_neg (fun q => h0.elim (fun z => absurd z (Int32.not_lt.mpr q.1)) (fun z => absurd z (Int32.not_lt.mpr q.2))), if_neg (fun q => (h00 q.1).elim (fun z => absurd z (Int32.not_lt.mpr q.2.1)) (fun z => absurd z (Int32.not_lt.mpr q.2.2))), if_neg (fun q => (h000 q.1).elim (fun z => absurd z (Int32.not_lt.mpr q.2.1)) (fun z => absurd z (Int32.not_lt.mpr q.2.2)))]
section CLNUM
variable {X : CX} {a0 : Array Value} {c : CS} {T : List Int32} {N : Int32 → CS → Prop}
theorem q_Lab_digit (F : cF X a0) {hx : Bool} {x b : Int32} (hb : b = if hx = true then 16 else 10) (h : N (digI hx x) c) : cE X 0 y_Lab_digit [.int x, .int b] c (ciP N) := by
  refine g_Lab_digit F ?_
  have hb16 : b = 16 ↔ hx = true := by
    subst hb
    cases hx <;> decide
  have h43 : (x < 48 ∨ 57 < x) → (hx = true → x < 97 ∨ 102 < x) → w_Lab_digit_43 X x b c (ciP N) := by
    intro q1 q2
    unfold w_Lab_digit_43 w_Lab_digit_71 w_Lab_digit_72
    refine ⟨fun c1 => ⟨fun c2 => ciP.i h (digI_0 q1 q2 (fun _ => Or.inl c2)), fun c2 => ⟨fun c3 => ciP.i h (digI_0 q1 q2 (fun _ => Or.inr c3)), fun c3 => ciP.i h ?_⟩⟩, fun c1 => ciP.i h (digI_0 q1 q2 (fun z => absurd (hb16.mpr z) c1))⟩
    have := hb16.mp c1
    subst this
    rw [d55]
    exact digI_3 q1 (q2 rfl) c2 c3
  have h17 : (x < 48 ∨ 57 < x) → w_Lab_digit_17 X x b c (ciP N) := by
    intro q1
    unfold w_Lab_digit_17
    refine ⟨fun c1 => ⟨fun c2 => h43 q1 (fun _ => Or.inl c2), fun c2 => ⟨fun c3 => h43 q1 (fun _ => Or.inr c3), fun c3 => ciP.i h ?_⟩⟩, fun c1 => h43 q1 (fun z => absurd (hb16.mpr z) c1)⟩
    have := hb16.mp c1
    subst this
    rw [d87]
    exact digI_2 q1 c2 c3
  exact ⟨fun c1 => h17 (Or.inl c1), fun c1 => ⟨fun c2 => h17 (Or.inr c2), fun c2 => ciP.i h (digI_1 c1 c2)⟩⟩
def BnI (c : CS) (T : List Int32) (i t n : Nat) (x1 x2 x3 x4 x5 x6 x7 x8 : Int32) (c' : CS) : Prop := c' = c ∧ x1 = nI i ∧ x2 = nI t ∧ x4 = (if hxB T i = true then 16 else 10) ∧ x5 = nI (hxM (hxB T i)) ∧ x6 = nI (hxS (hxB T i) i) ∧ ∃ j v, x7 = nI v ∧ x8 = nI (hxS (hxB T i) i + j) ∧ n + j = hxM (hxB T i) ∧ v < 16 ^ j ∧ dgR T t (hxB T i) (hxM (hxB T i)) (hxS (hxB T i) i) 0 = dgR T t (hxB T i) n (hxS (hxB T i) i + j) v
theorem q_Lab_behindNumber (F : cF X a0) (hT : vr c.1 10 = T) (hl : T.length ≤ 16000) {i t : Nat} (hi : i < t) (ht : t ≤ T.length) (h0 : numR T i t = none → N (-1) c) (h1 : ∀ e v, numR T i t = some (e, v) → i < e → e ≤ t → N (nI e) (cI c 49 (nI v))) : cE X 1 y_Lab_behindNumber [.ref (adr X 4), .int (nI i), .int (nI t)] c (ciP N) := by
  refine g_Lab_behindNumber (I84 := fun n x1 x2 x3 x4 x5 x6 x7 x8 c' => BnI c T i t n x1 x2 x3 x4 x5 x6 x7 x8 c') F ?_ ?_
  · have h35 : ∀ s0 : Int32, s0 = bI (hxB T i = true) → w_Lab_behindNumber_35 X (nI i) (nI t) s0 c (ciP N) (fun x1 x2 x3 x4 x5 x6 x7 x8 m => ∃ j, BnI c T i t j x1 x2 x3 x4 x5 x6 x7 x8 m) := by
      intro s0 hs
      subst hs
      unfold w_Lab_behindNumber_35 w_Lab_behindNumber_47 w_Lab_behindNumber_60 w_Lab_behindNumber_75
      have hgo : ∀ (x3 x4 x5 s : Int32), x4 = (if hxB T i = true then 16 else 10) → x5 = nI (hxM (hxB T i)) → s = nI (hxS (hxB T i) i) → ∃ j, BnI c T i t j (nI i) (nI t) x3 x4 x5 s 0 s c := fun x3 x4 x5 s q1 q2 q3 => ⟨hxM (hxB T i), rfl, rfl, rfl, q1, q2, q3, 0, 0, rfl, q3, by omega, by decide, rfl⟩
      have e2 : nI i + 2 = nI (i + 2) := nI_add i 2
      have e3 : nI i + 3 = nI (i + 3) := nI_add i 3
      refine ⟨fun c1 => ⟨fun c2 => ⟨fun c3 => hgo _ _ _ _ ?_ ?_ ?_, fun z => absurd c1 z⟩, fun z => absurd c1 z⟩, fun c1 => ⟨fun z => absurd z c1, fun c2 => ⟨fun z => absurd z c1, fun c3 => hgo _ _ _ _ ?_ ?_ ?_⟩⟩⟩
      · rw [if_neg (bI_0 c1)]
      · unfold hxM; rw [if_neg (bI_0 c1)]; rfl
      · unfold hxS; rw [if_neg (bI_0 c1)]; exact e2
      · rw [if_pos (bI_n0 c1)]
      · unfold hxM; rw [if_pos (bI_n0 c1)]; rfl
      · unfold hxS; rw [if_pos (bI_n0 c1)]; exact e3
    unfold w_Lab_behindNumber_0 w_Lab_behindNumber_30
    have e2 : nI i + 2 = nI (i + 2) := nI_add i 2
    rw [e2]
    refine q_Row_at F isR10 ⟨fun c1 => h35 1 ?_, fun c1 => q_Row_at F isR10 ⟨fun c2 => h35 1 ?_, fun c2 => h35 0 ?_⟩⟩
    · rw [hT] at c1
      exact (bI_t (by unfold hxB; exact decide_eq_true (Or.inl c1))).symm
    · rw [hT] at c2
      exact (bI_t (by unfold hxB; exact decide_eq_true (Or.inr c2))).symm
    · rw [hT] at c1 c2
      refine (bI_f (fun q => ?_)).symm
      unfold hxB at q
      exact (of_decide_eq_true q).elim c1 c2
  · rintro n x1 x2 x3 x4 x5 x6 x7 x8 c' ⟨rfl, rfl, rfl, rfl, rfl, rfl, j, v, rfl, rfl, hn, hv, e⟩
    have hM : hxM (hxB T i) ≤ 7 := by unfold hxM; split <;> omega
    have hS : i < hxS (hxB T i) i ∧ hxS (hxB T i) i ≤ i + 3 := by unfold hxS; split <;> omega
    have hv7 : v < 16 ^ 7 := Nat.lt_of_lt_of_le hv (Nat.pow_le_pow_right (by decide) (by omega))
    have h146 : dgR T t (hxB T i) n (hxS (hxB T i) i + j) v = (hxS (hxB T i) i + j, v) → w_Lab_behindNumber_146 X (nI i) (nI t) x3 (if hxB T i = true then 16 else 10) (nI (hxM (hxB T i))) (nI (hxS (hxB T i) i)) (nI v) (nI (hxS (hxB T i) i + j)) c' (ciP N) := by
      intro q
      rw [q] at e
      have hnone : ¬ (tA T (i + 1) = 35 ∧ ¬ (hxS (hxB T i) i + j) = hxS (hxB T i) i ∧ (hxS (hxB T i) i + j) < t ∧ tA T (hxS (hxB T i) i + j) = 59) → ciP N (some (.int (-1))) c' := by
        intro z
        refine ciP.i (h0 ?_) rfl
        unfold numR
        rw [e]
        exact if_neg z
      unfold w_Lab_behindNumber_146 w_Lab_behindNumber_188 w_Lab_behindNumber_216 w_Lab_behindNumber_220 w_Lab_behindNumber_221 w_Lab_behindNumber_236
      rw [nI_1]
      refine q_Row_at F isR10 ?_
      rw [hT]
      simp (discharger := omega) only [nI_eq, nI_leI]
      refine ⟨fun c1 => ⟨fun c2 => hnone (fun z => z.2.1 c2), fun c2 => ⟨fun c3 => hnone (fun z => by omega), fun c3 => q_Row_at F isR10 ?_⟩⟩, fun c1 => hnone (fun z => c1 z.1)⟩
      rw [hT]
      have hlt : (1114111 : Int32) = nI 1114111 := rfl
      have h5 : (55296 : Int32) = nI 55296 := rfl
      have h6 : (57343 : Int32) = nI 57343 := rfl
      have h00 : (0 : Int32) = nI 0 := rfl
      refine ⟨fun c4 => ?_, fun c4 => hnone (fun z => c4 z.2.2.2)⟩
      have hsome : ∀ x : Int32, x = nI (chN v) → ∀ m1, m1 = cI c' 49 x → ciP N (some (.int (nI (hxS (hxB T i) i + j) + 1))) m1 := by
        intro x hx m1 e1
        subst e1 hx
        refine ciP.i (h1 (hxS (hxB T i) i + j + 1) (chN v) ?_ (by omega) (by omega)) (nI_1 _)
        unfold numR
        rw [e]
        exact if_pos ⟨c1, c2, by omega, c4⟩
      have hch0 : ¬ (0 < v ∧ v ≤ 1114111 ∧ (v < 55296 ∨ 57343 < v)) → (65533 : Int32) = nI (chN v) := fun z => by unfold chN; rw [if_neg z]; rfl
      have hch1 : (0 < v ∧ v ≤ 1114111 ∧ (v < 55296 ∨ 57343 < v)) → nI v = nI (chN v) := fun z => by unfold chN; rw [if_pos z]
      rw [hlt, h5, h6]
      refine ⟨fun c5 => ⟨fun _ => hsome _ (hch0 ?_), fun z => absurd (by trivial) z⟩, fun c5 => ⟨fun c6 => ⟨fun _ => hsome _ (hch0 ?_), fun z => absurd (by trivial) z⟩, fun c6 => ⟨fun c7 => ⟨fun z => absurd z (by decide), fun _ => hsome _ (hch1 ?_)⟩, fun c7 => ⟨fun c8 => ⟨fun _ => hsome _ (hch0 ?_), fun z => absurd (by trivial) z⟩, fun c8 => ⟨fun z => absurd z (by decide), fun _ => hsome _ (hch1 ?_)⟩⟩⟩⟩⟩
      · rw [h00, nI_leI (by omega) (by decide)] at c5; omega
      all_goals rw [h00, nI_leI (by omega) (by decide)] at c5
      · rw [nI_ltI (by decide) (by omega)] at c6; omega
      all_goals rw [nI_ltI (by decide) (by omega)] at c6
      · rw [nI_ltI (by omega) (by decide)] at c7; omega
      all_goals rw [nI_ltI (by omega) (by decide)] at c7
      · rw [nI_leI (by omega) (by decide)] at c8; omega
      · rw [nI_leI (by omega) (by decide)] at c8; omega
    have hsub : nI (hxS (hxB T i) i + j) - nI (hxS (hxB T i) i) = nI j := by
      rw [pk_sub (by omega)]
      congr 1
      omega
    unfold w_Lab_behindNumber_84
    rw [hsub]
    simp (discharger := omega) only [nI_leI]
    refine ⟨fun c1 => h146 ?_, fun c1 => ⟨fun c2 => h146 ?_, fun c2 => q_Row_at F isR10 ?_⟩⟩
    · cases n with
      | zero => rfl
      | succ n => rw [dgR, if_neg (by omega)]
    · have : n = 0 := by omega
      subst this
      rfl
    · rw [hT]
      refine q_Lab_digit F rfl ?_
      cases n with
      | zero => omega
      | succ n =>
        rw [dgR, if_pos (by omega)] at e
        cases hd : digN (hxB T i) (tA T (hxS (hxB T i) i + j)) with
        | none =>
          refine ⟨fun _ => h146 ?_, fun z => absurd ?_ z⟩
          · rw [dgR, if_pos (by omega), hd]
          · unfold digI; rw [hd]
        | some d =>
          have hdI : digI (hxB T i) (tA T (hxS (hxB T i) i + j)) = nI d := by unfold digI; rw [hd]
          have hd16 := digN_lt hd
          rw [hd] at e
          refine ⟨fun z => ?_, fun _ => q_Row_at F isR10 ?_⟩
          · rw [hdI] at z
            exact absurd z (nI_nm1 (by omega))
          · rw [hT]
            refine q_Lab_digit F rfl ?_
            rw [hdI]
            refine ⟨n, by omega, rfl, rfl, rfl, rfl, rfl, rfl, j + 1, (if hxB T i = true then 16 else 10) * v + d, ?_, ?_, by omega, ?_, e⟩
            · rw [← nI_add, ← pk_mul]
              congr 2
              cases hxB T i <;> rfl
            · rw [nI_1]
              rfl
            · have : 16 ^ (j + 1) = 16 * 16 ^ j := by rw [Nat.pow_succ, Nat.mul_comm]
              rw [this]
              generalize 16 ^ j = y at hv
              split <;> omega
end CLNUM
