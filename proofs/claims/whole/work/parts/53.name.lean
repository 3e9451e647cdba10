/-! references by name -/
abbrev nmE (T : List Int32) (i t : Nat) (w : List Nat) : Prop := i + 1 + w.length < t ∧ (∀ j, j < w.length → tA T (i + 1 + j) = nI (w.getD j 0)) ∧ tA T (i + 1 + w.length) = 59
def nameR (T : List Int32) (i t : Nat) : Option (Nat × Nat) :=
  if nmE T i t [97, 109, 112] then some (i + 5, 38)
  else if nmE T i t [108, 116] then some (i + 4, 60)
  else if nmE T i t [103, 116] then some (i + 4, 62)
  else if nmE T i t [113, 117, 111, 116] then some (i + 6, 34)
  else if nmE T i t [97, 112, 111, 115] then some (i + 6, 39)
  else if nmE T i t [110, 98, 115, 112] then some (i + 6, 160)
  else none
def refR (T : List Int32) (i t : Nat) : Option (Nat × Nat) := match numR T i t with | some r => some r | none => nameR T i t
theorem or_add {a b : Nat} (hb : b < 256) (ha : a * 256 + b < 2 ^ 32) : nI (a * 256) ||| nI b = nI (a * 256 + b) := by
  apply Int32.toBitVec_inj.mp
  apply BitVec.eq_of_toNat_eq
  show ((nI (a * 256)).toBitVec ||| (nI b).toBitVec).toNat = _
  have h1 : a * 256 < 2 ^ 32 := Nat.lt_of_le_of_lt (Nat.le_add_right _ _) ha
  have h2 : b < 2 ^ 32 := Nat.lt_trans hb (by decide)
  rw [BitVec.toNat_or, pk_tn h1, pk_tn h2, pk_tn ha]
  have := Nat.shiftLeft_add_eq_or_of_lt (i := 8) (b := b) hb a
  rw [Nat.shiftLeft_eq] at this
  exact this.symm
theorem shl8 {a : Nat} (h : a * 256 < 2 ^ 32) : nI a <<< ((8 : Int32) &&& 31) = nI (a * 256) := pk_shlN _ 8 (by decide) h
/-- a letter or a digit -/
abbrev alN (c : Int32) : Prop := (65 ≤ c ∧ c ≤ 90 ∨ 97 ≤ c ∧ c ≤ 122) ∨ (48 ≤ c ∧ c ≤ 57)
theorem alN_ch {c : Int32} (h : alN c) : ∃ n, c = nI n ∧ 48 ≤ n ∧ n ≤ 122 := by
  have key : ∀ (a b : Nat), a < 2 ^ 31 → b < 2 ^ 31 → nI a ≤ c → c ≤ nI b → ∃ n, c = nI n ∧ a ≤ n ∧ n ≤ b := by
    intro a b ha hb q1 q2
    obtain ⟨n, h1, h2, rfl⟩ := ge_nI ha q1
    exact ⟨n, rfl, h1, (nI_leI h2 hb).mp q2⟩
  rcases h with (h | h) | h
  · obtain ⟨n, h1, h2, h3⟩ := key 65 90 (by decide) (by decide) h.1 h.2; exact ⟨n, h1, by omega, by omega⟩
  · obtain ⟨n, h1, h2, h3⟩ := key 97 122 (by decide) (by decide) h.1 h.2; exact ⟨n, h1, by omega, by omega⟩
  · obtain ⟨n, h1, h2, h3⟩ := key 48 57 (by decide) (by decide) h.1 h.2; exact ⟨n, h1, by omega, by omega⟩
abbrev chA (T : List Int32) (k : Nat) : Nat := (tA T k).toNatClampNeg
theorem chA_eq {T : List Int32} {k : Nat} (h : alN (tA T k)) : tA T k = nI (chA T k) ∧ 48 ≤ chA T k ∧ chA T k ≤ 122 := by
  obtain ⟨n, h1, h2, h3⟩ := alN_ch h
  have : chA T k = n := by show (tA T k).toNatClampNeg = n; rw [h1, nI_clamp (by omega)]
  rw [this]
  exact ⟨h1, h2, h3⟩
def pkW (T : List Int32) (i : Nat) : Nat → Nat
  | 0 => 0
  | j + 1 => pkW T i j * 256 + chA T (i + 1 + j)
def nmV (W L : Nat) : Nat := if L < 5 then (if W = 6385008 then 38 else if W = 27764 then 60 else if W = 26484 then 62 else if W = 1903521652 then 34 else if W = 1634758515 then 39 else if W = 1851945840 then 160 else 0) else 0
theorem alN_59 {c : Int32} (h : alN c) : c ≠ 59 := by
  obtain ⟨n, rfl, h2, h3⟩ := alN_ch h
  intro q
  have : n = 59 := (nI_eq (by omega) (by decide)).mp q
  subst this
  exact absurd h (by decide)
/-- a name's length is the run's -/
theorem nmE_len {T : List Int32} {i t L : Nat} {w : List Nat} (hrun : ∀ j, j < L → alN (tA T (i + 1 + j))) (hend : ¬ (i + 1 + L < t ∧ alN (tA T (i + 1 + L)))) (hw : ∀ j, j < w.length → alN (nI (w.getD j 0))) (h : nmE T i t w) : L = w.length := by
  obtain ⟨h1, h2, h3⟩ := h
  apply Nat.le_antisymm
  · apply Nat.le_of_not_lt
    intro q
    exact alN_59 (hrun _ q) h3
  · apply Nat.le_of_not_lt
    intro q
    exact hend ⟨by omega, by rw [h2 L q]; exact hw L q⟩
theorem nmE_mk {T : List Int32} {i t : Nat} {w : List Nat} (hk : i + 1 + w.length < t) (h59 : tA T (i + 1 + w.length) = 59) : nmE T i t w ↔ ∀ j, j < w.length → tA T (i + 1 + j) = nI (w.getD j 0) := ⟨fun h => h.2.1, fun h => ⟨hk, h, h59⟩⟩
theorem ch_eq {T : List Int32} {k n : Nat} (h : alN (tA T k)) (hn : n < 2 ^ 31) : tA T k = nI n ↔ chA T k = n := by
  obtain ⟨h1, h2, h3⟩ := chA_eq h
  rw [h1, nI_eq (by omega) hn]
theorem all2 {p : Nat → Prop} : (∀ j, j < 2 → p j) ↔ p 0 ∧ p 1 := ⟨fun h => ⟨h 0 (by decide), h 1 (by decide)⟩, fun h j hj => by match j, hj with | 0, _ => exact h.1 | 1, _ => exact h.2⟩
theorem all3 {p : Nat → Prop} : (∀ j, j < 3 → p j) ↔ p 0 ∧ p 1 ∧ p 2 := ⟨fun h => ⟨h 0 (by decide), h 1 (by decide), h 2 (by decide)⟩, fun h j hj => by match j, hj with | 0, _ => exact h.1 | 1, _ => exact h.2.1 | 2, _ => exact h.2.2⟩
theorem all4 {p : Nat → Prop} : (∀ j, j < 4 → p j) ↔ p 0 ∧ p 1 ∧ p 2 ∧ p 3 := ⟨fun h => ⟨h 0 (by decide), h 1 (by decide), h 2 (by decide), h 3 (by decide)⟩, fun h j hj => by match j, hj with | 0, _ => exact h.1 | 1, _ => exact h.2.1 | 2, _ => exact h.2.2.1 | 3, _ => exact h.2.2.2⟩
theorem nmE_3 {T : List Int32} {i t : Nat} (hr : ∀ j, j < 3 → alN (tA T (i + 1 + j))) (hk : i + 4 < t) (h59 : tA T (i + 4) = 59) (a b c : Nat) (ha : a < 256) (hb : b < 256) (hc : c < 256) : nmE T i t [a, b, c] ↔ pkW T i 3 = (a * 256 + b) * 256 + c := by
  rw [nmE_mk (by simpa using hk) (by simpa using h59), show [a, b, c].length = 3 from rfl, all3]
  have h0 := hr 0 (by decide)
  have h1 := hr 1 (by decide)
  have h2 := hr 2 (by decide)
  simp only [List.getD_cons_zero, List.getD_cons_succ]
  rw [ch_eq h0 (by omega), ch_eq h1 (by omega), ch_eq h2 (by omega)]
  have q0 := chA_eq h0
  have q1 := chA_eq h1
  have q2 := chA_eq h2
  unfold pkW pkW pkW pkW
  omega
theorem nmE_2 {T : List Int32} {i t : Nat} (hr : ∀ j, j < 2 → alN (tA T (i + 1 + j))) (hk : i + 3 < t) (h59 : tA T (i + 3) = 59) (a b : Nat) (ha : a < 256) (hb : b < 256) : nmE T i t [a, b] ↔ pkW T i 2 = a * 256 + b := by
  rw [nmE_mk (by simpa using hk) (by simpa using h59), show [a, b].length = 2 from rfl, all2]
  have h0 := hr 0 (by decide)
  have h1 := hr 1 (by decide)
  simp only [List.getD_cons_zero, List.getD_cons_succ]
  rw [ch_eq h0 (by omega), ch_eq h1 (by omega)]
  have q0 := chA_eq h0
  have q1 := chA_eq h1
  unfold pkW pkW pkW
  omega
theorem nmE_4 {T : List Int32} {i t : Nat} (hr : ∀ j, j < 4 → alN (tA T (i + 1 + j))) (hk : i + 5 < t) (h59 : tA T (i + 5) = 59) (a b c d : Nat) (ha : a < 256) (hb : b < 256) (hc : c < 256) (hd : d < 256) : nmE T i t [a, b, c, d] ↔ pkW T i 4 = ((a * 256 + b) * 256 + c) * 256 + d := by
  rw [nmE_mk (by simpa using hk) (by simpa using h59), show [a, b, c, d].length = 4 from rfl, all4]
  have h0 := hr 0 (by decide)
  have h1 := hr 1 (by decide)
  have h2 := hr 2 (by decide)
  have h3 := hr 3 (by decide)
  simp only [List.getD_cons_zero, List.getD_cons_succ]
  rw [ch_eq h0 (by omega), ch_eq h1 (by omega), ch_eq h2 (by omega), ch_eq h3 (by omega)]
  have q0 := chA_eq h0
  have q1 := chA_eq h1
  have q2 := chA_eq h2
  have q3 := chA_eq h3
  unfold pkW pkW pkW pkW pkW
  omega
/-- what the model tells of a name is what the class finds -/
theorem nameR_eq {T : List Int32} {i t L : Nat} (hrun : ∀ j, j < L → alN (tA T (i + 1 + j))) (hend : ¬ (i + 1 + L < t ∧ alN (tA T (i + 1 + L)))) : nameR T i t = if i + 1 + L < t ∧ tA T (i + 1 + L) = 59 ∧ 0 < nmV (pkW T i (min L 4)) L then some (i + 1 + L + 1, nmV (pkW T i (min L 4)) L) else none := by
  have hlen : ∀ w : List Nat, (∀ j, j < w.length → alN (nI (w.getD j 0))) → L ≠ w.length → ¬ nmE T i t w := fun w hw hL h => hL (nmE_len hrun hend hw h)
  have w1 : ∀ j, j < [97, 109, 112].length → alN (nI (([97, 109, 112] : List Nat).getD j 0)) := by decide
  have w2 : ∀ j, j < [108, 116].length → alN (nI (([108, 116] : List Nat).getD j 0)) := by decide
  have w3 : ∀ j, j < [103, 116].length → alN (nI (([103, 116] : List Nat).getD j 0)) := by decide
  have w4 : ∀ j, j < [113, 117, 111, 116].length → alN (nI (([113, 117, 111, 116] : List Nat).getD j 0)) := by decide
  have w5 : ∀ j, j < [97, 112, 111, 115].length → alN (nI (([97, 112, 111, 115] : List Nat).getD j 0)) := by decide
  have w6 : ∀ j, j < [110, 98, 115, 112].length → alN (nI (([110, 98, 115, 112] : List Nat).getD j 0)) := by decide
  by_cases hk : i + 1 + L < t ∧ tA T (i + 1 + L) = 59
  · obtain ⟨hk1, hk2⟩ := hk
    unfold nameR
    by_cases e2 : L = 2
    · subst e2
      have hr : ∀ j, j < 2 → alN (tA T (i + 1 + j)) := hrun
      have q0 := (chA_eq (hr 0 (by decide))).2
      have q1 := (chA_eq (hr 1 (by decide))).2
      have hW : pkW T i 2 = chA T (i + 1 + 0) * 256 + chA T (i + 1 + 1) := by unfold pkW pkW pkW; omega
      rw [if_neg (hlen _ w1 (by decide)), if_neg (hlen _ w4 (by decide)), if_neg (hlen _ w5 (by decide)), if_neg (hlen _ w6 (by decide))]
      simp only [nmE_2 hr hk1 hk2 108 116 (by decide) (by decide), nmE_2 hr hk1 hk2 103 116 (by decide) (by decide)]
      rw [show min 2 4 = 2 from rfl]
      by_cases z1 : pkW T i 2 = 27764
      · rw [if_pos z1]; simp [z1, hk1, hk2, nmV]
      · by_cases z2 : pkW T i 2 = 26484
        · rw [if_neg z1, if_pos z2]; simp [z2, hk1, hk2, nmV]
        · rw [if_neg z1, if_neg z2]
          have hv0 : nmV (pkW T i 2) 2 = 0 := by
            unfold nmV
            rw [if_pos (by decide), if_neg (by omega), if_neg (by omega), if_neg (by omega), if_neg (by omega), if_neg (by omega), if_neg (by omega)]
          rw [hv0, if_neg (by simp)]
    · by_cases e3 : L = 3
      · subst e3
        have hr : ∀ j, j < 3 → alN (tA T (i + 1 + j)) := hrun
        have q0 := (chA_eq (hr 0 (by decide))).2
        have q1 := (chA_eq (hr 1 (by decide))).2
        have q2 := (chA_eq (hr 2 (by decide))).2
        have hW : pkW T i 3 = (chA T (i + 1 + 0) * 256 + chA T (i + 1 + 1)) * 256 + chA T (i + 1 + 2) := by unfold pkW pkW pkW pkW; omega
        rw [if_neg (hlen _ w2 (by decide)), if_neg (hlen _ w3 (by decide)), if_neg (hlen _ w4 (by decide)), if_neg (hlen _ w5 (by decide)), if_neg (hlen _ w6 (by decide))]
        simp only [nmE_3 hr hk1 hk2 97 109 112 (by decide) (by decide) (by decide)]
        rw [show min 3 4 = 3 from rfl]
        by_cases z1 : pkW T i 3 = 6385008
        · rw [if_pos z1]; simp [z1, hk1, hk2, nmV]
        · rw [if_neg z1]
          have hv0 : nmV (pkW T i 3) 3 = 0 := by
            unfold nmV
            rw [if_pos (by decide), if_neg (by omega), if_neg (by omega), if_neg (by omega), if_neg (by omega), if_neg (by omega), if_neg (by omega)]
          rw [hv0, if_neg (by simp)]
      · by_cases e4 : L = 4
        · subst e4
          have hr : ∀ j, j < 4 → alN (tA T (i + 1 + j)) := hrun
          have q0 := (chA_eq (hr 0 (by decide))).2
          have q1 := (chA_eq (hr 1 (by decide))).2
          have q2 := (chA_eq (hr 2 (by decide))).2
          have q3 := (chA_eq (hr 3 (by decide))).2
          have hW : pkW T i 4 = ((chA T (i + 1 + 0) * 256 + chA T (i + 1 + 1)) * 256 + chA T (i + 1 + 2)) * 256 + chA T (i + 1 + 3) := by unfold pkW pkW pkW pkW pkW; omega
          rw [if_neg (hlen _ w1 (by decide)), if_neg (hlen _ w2 (by decide)), if_neg (hlen _ w3 (by decide))]
          simp only [nmE_4 hr hk1 hk2 113 117 111 116 (by decide) (by decide) (by decide) (by decide), nmE_4 hr hk1 hk2 97 112 111 115 (by decide) (by decide) (by decide) (by decide), nmE_4 hr hk1 hk2 110 98 115 112 (by decide) (by decide) (by decide) (by decide)]
          rw [show min 4 4 = 4 from rfl]
          by_cases z1 : pkW T i 4 = 1903521652
          · rw [if_pos z1]; simp [z1, hk1, hk2, nmV]
          · by_cases z2 : pkW T i 4 = 1634758515
            · rw [if_neg z1, if_pos z2]; simp [z2, hk1, hk2, nmV]
            · by_cases z3 : pkW T i 4 = 1851945840
              · rw [if_neg z1, if_neg z2, if_pos z3]; simp [z3, hk1, hk2, nmV]
              · rw [if_neg z1, if_neg z2, if_neg z3]
                have hv0 : nmV (pkW T i 4) 4 = 0 := by
                  unfold nmV
                  rw [if_pos (by decide), if_neg (by omega), if_neg (by omega), if_neg (by omega), if_neg (by omega), if_neg (by omega), if_neg (by omega)]
                rw [hv0, if_neg (by simp)]
        · rw [if_neg (hlen _ w1 e3), if_neg (hlen _ w2 e2), if_neg (hlen _ w3 e2), if_neg (hlen _ w4 e4), if_neg (hlen _ w5 e4), if_neg (hlen _ w6 e4)]
          have : nmV (pkW T i (min L 4)) L = 0 := by
            unfold nmV
            by_cases h5 : L < 5
            · rw [if_pos h5]
              have hL : L = 0 ∨ L = 1 := by omega
              rcases hL with hL | hL
              · subst hL; rfl
              · subst hL
                have q0 := (chA_eq (hrun 0 (by decide))).2
                have hW : pkW T i (min 1 4) = chA T (i + 1 + 0) := by show pkW T i 1 = _; unfold pkW pkW; omega
                rw [hW, if_neg (by omega), if_neg (by omega), if_neg (by omega), if_neg (by omega), if_neg (by omega), if_neg (by omega)]
            · rw [if_neg h5]
          rw [this, if_neg (by simp)]
  · rw [if_neg (fun q => hk ⟨q.1, q.2.1⟩)]
    have hno : ∀ w : List Nat, (∀ j, j < w.length → alN (nI (w.getD j 0))) → ¬ nmE T i t w := by
      intro w hw h
      have hL := nmE_len hrun hend hw h
      exact hk ⟨by rw [hL]; exact h.1, by rw [hL]; exact h.2.2⟩
    unfold nameR
    rw [if_neg (hno _ w1), if_neg (hno _ w2), if_neg (hno _ w3), if_neg (hno _ w4), if_neg (hno _ w5), if_neg (hno _ w6)]
