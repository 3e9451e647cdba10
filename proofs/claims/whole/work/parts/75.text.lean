/-! text is added: the class's helpers -/
def bfC (xs : List Int32) (f : Nat) (x : Int32) : Nat → Nat
  | 0 => 0
  | n + 1 => if f ≤ n ∧ rowAt xs (nI n) = x then bfC xs f x n else n + 1
theorem bfC_le (xs : List Int32) (f : Nat) (x : Int32) : ∀ n, bfC xs f x n ≤ n := by
  intro n
  induction n with
  | zero => exact Nat.le_refl _
  | succ n ih =>
    unfold bfC
    split <;> omega
theorem bfC_ge (xs : List Int32) (f : Nat) (x : Int32) : ∀ n, f ≤ n → f ≤ bfC xs f x n := by
  intro n
  induction n with
  | zero => intro h; exact h
  | succ n ih =>
    intro h
    unfold bfC
    split
    · next q => exact ih q.1
    · exact h
/-- at its end it stands still -/
theorem bfC_stop (xs : List Int32) (f : Nat) (x : Int32) : ∀ n, f < bfC xs f x n → ¬ rowAt xs (nI (bfC xs f x n - 1)) = x := by
  intro n
  induction n with
  | zero => intro h; exact absurd h (by show ¬ f < 0; omega)
  | succ n ih =>
    unfold bfC
    split
    · exact ih
    · next q =>
      intro h e
      exact q ⟨by omega, by simpa using e⟩
theorem bfC_idle (xs : List Int32) (f : Nat) (x : Int32) : ∀ n, bfC xs f x (bfC xs f x n) = bfC xs f x n := by
  intro n
  induction n with
  | zero => rfl
  | succ n ih =>
    by_cases q : f ≤ n ∧ rowAt xs (nI n) = x
    · have : bfC xs f x (n + 1) = bfC xs f x n := by rw [bfC, if_pos q]
      rw [this]; exact ih
    · have : bfC xs f x (n + 1) = n + 1 := by rw [bfC, if_neg q]
      rw [this, this]
theorem nI_dec (n : Nat) : nI (n + 1) + (-1) = nI n := by rw [← Int32.sub_eq_add_neg, nI_pred]
section TEXT
variable {X : CX} {a0 : Array Value} {c : CS} {N : Int32 → CS → Prop}
theorem q_Rd_afterSpaces (F : cF X a0) (hl : (lx c.1).length ≤ 12100) {f : Nat} (hf : f ≤ (lx c.1).length) (h : N (nI (f + spF (lx c.1) f)) c) : cE X 2 y_Rd_afterSpaces [.ref (adr X 6), .int (nI f)] c (ciP N) := by
  refine g_Rd_afterSpaces (I2 := fun n x1 x2 c' => c' = c ∧ ∃ k, x2 = nI k ∧ k ≤ (lx c.1).length ∧ n + k = 12120 ∧ k + spF (lx c.1) k = f + spF (lx c.1) f) F ⟨12120 - f, rfl, f, rfl, hf, by omega, rfl⟩ ?_
  rintro n x1 x2 c' ⟨rfl, k, rfl, hk, hn, e⟩
  have e11 : (vr c'.1 11).length = (lx c'.1).length := rfl
  unfold w_Rd_afterSpaces_2 w_Rd_afterSpaces_32
  refine q_Line_size F ⟨fun c1 => ciP.i h ?_, fun c1 => q_Line_at F ⟨fun c2 => ?_, fun c2 => ciP.i h ?_⟩⟩
  · rw [nI_leI (by omega) (by omega)] at c1
    rw [← e, spF, runFrom_end c1]
    rfl
  · rw [nI_leI (by omega) (by omega)] at c1
    refine ⟨n - 1, by omega, by trivial, k + 1, nI_1 k, by omega, by omega, ?_⟩
    have := runFrom_y (xs := lx c'.1) (p := fun z => z == 32) (i := k) (by omega) (by omega) (by rw [c2]; rfl)
    have e2 : spF (lx c'.1) k = spF (lx c'.1) (k + 1) + 1 := this
    omega
  · rw [nI_leI (by omega) (by omega)] at c1
    have := runFrom_n (xs := lx c'.1) (p := fun z => z == 32) (i := k) (by omega) (by omega) (by simpa using c2)
    rw [← e, spF, this]
    rfl
theorem q_Rd_beforeSpaces (F : cF X a0) {f t : Nat} (hf : f ≤ 13000) (ht : t ≤ 13000) (h : N (nI (bfC (lx c.1) f 32 t)) c) : cE X 2 y_Rd_beforeSpaces [.ref (adr X 6), .int (nI f), .int (nI t)] c (ciP N) := by
  refine g_Rd_beforeSpaces (I2 := fun n x1 x2 x3 c' => c' = c ∧ x1 = nI f ∧ x3 = nI n ∧ n ≤ t ∧ bfC (lx c.1) f 32 n = bfC (lx c.1) f 32 t) F ⟨t, rfl, rfl, rfl, Nat.le_refl _, rfl⟩ ?_
  rintro n x1 x2 x3 c' ⟨rfl, rfl, rfl, hn, e⟩
  unfold w_Rd_beforeSpaces_2 w_Rd_beforeSpaces_28
  rw [nI_leI (by omega) (by omega)]
  cases n with
  | zero => exact ⟨fun _ => ciP.i h (by rw [← e]; rfl), fun z => by omega⟩
  | succ n =>
    refine ⟨fun z => ciP.i h (by rw [← e, bfC, if_neg (fun q => by omega)]), fun z => ?_⟩
    rw [nI_pred]
    refine q_Line_at F ⟨fun c2 => ⟨n, by omega, by trivial, by trivial, ?_, by omega, ?_⟩, fun c2 => ciP.i h ?_⟩
    · exact nI_dec n
    · rw [← e, bfC, if_pos ⟨by omega, c2⟩]
    · rw [← e, bfC, if_neg (fun q => c2 q.2)]
theorem sl_app {T : List Int32} {a b : Nat} (h : a ≤ b) (hb : b < T.length) (h31 : b < 2 ^ 31) : sl T a (b + 1) = sl T a b ++ [tA T b] := by
  unfold sl
  have h1 : T.take (b + 1) = T.take b ++ [tA T b] := by
    rw [List.take_succ_eq_append_getElem hb]
    congr 2
    show T[b] = rowAt T (nI b)
    rw [rowAt_nI h31]
    simp [hb]
  rw [h1, List.drop_append_of_le_length (by simp; omega)]
theorem q_Rd_copy (F : cF X a0) {T : List Int32} {a b : Nat} (hT : tx c.1 = T) (hb : b ≤ (lx c.1).length) (hl : (lx c.1).length ≤ 12100) (ha : a ≤ 13000) (hr : T.length + (b - a) ≤ 16000) {M : CS → Prop} (h : M (vR c.1 10 (T ++ sl (lx c.1) a b), c.2)) : cE X 3 y_Rd_copy [.ref (adr X 6), .int (nI a), .int (nI b)] c (cvP M) := by
  refine g_Rd_copy (I2 := fun n x1 x2 x3 c' => x2 = nI b ∧ ∃ k, x3 = nI k ∧ a ≤ k ∧ (k ≤ b ∨ k = a) ∧ n + k = b + a ∧ c' = (vR c.1 10 (T ++ sl (lx c.1) a k), c.2)) F ⟨b, rfl, a, rfl, Nat.le_refl _, Or.inr rfl, rfl, ?_⟩ ?_
  · rw [sl_nil (Nat.le_refl _), List.append_nil, ← hT, vR_self]
  · rintro n x1 x2 x3 c' ⟨rfl, k, rfl, hk, hk2, hn, rfl⟩
    unfold w_Rd_copy_2
    rw [nI_leI (by omega) (by omega)]
    refine ⟨fun c1 => ⟨rfl, ?_⟩, fun c1 => q_Line_at F (q_Row_add10 F ?_ ⟨n - 1, by omega, rfl, k + 1, nI_1 k, by omega, by omega, by omega, ?_⟩)⟩
    · by_cases e : k = b
      · rw [e]; exact h
      · rw [sl_nil (by omega)]
        rw [sl_nil (by omega)] at h
        exact h
    · show (vr (vR c.1 10 _) 10).length < _
      rw [vr_at, List.length_append, sl_len (by omega)]
      omega
    · show (vR (vR c.1 10 _) 10 (vr (vR c.1 10 _) 10 ++ [rowAt (vr (vR c.1 10 _) 11) (nI k)]), c.2) = _
      rw [vR_vR, vr_at, vr_ne (by decide), sl_app (T := lx c.1) hk (by omega) (by omega), List.append_assoc]
end TEXT
section MTEXT
variable {Y : MX} {a1 : Array Value} {m : MS} {N : Int32 → MS → Prop}
theorem LnI.get {xs : List Int32} (h : LnI m xs) {i : Nat} (hi : i < xs.length) : m.2 9 i = rowAt xs (nI i) := h.2.1 i hi
theorem spF_min {xs : List Int32} {f e : Nat} (h : f ≤ e) : min e (f + spF xs f) = e ∨ f + spF xs f ≤ e := by omega
/-- keepTrimmed -/
theorem d_Mo_keepTrimmed (G : mF Y a1) {xs : List Int32} (hL : LnI m xs) {f t P a e : Nat} (hf : f ≤ t) (ht : t ≤ xs.length) (ha : a = min t (f + spF xs f)) (he : e = bfC xs a 32 t) (h10 : m.1 10 = nI P) (hP : P + (t - f) ≤ 47000) (h : N (nI (e - a)) (extF m P (sl xs a e))) : mE Y 1 y_Mo_keepTrimmed [.ref (mo Y), .int (nI f), .int (nI t)] m (iP N) := by
  have hlx := hL.2.2
  have hfa : f ≤ a ∧ a ≤ t := by omega
  have hea : a ≤ e ∧ e ≤ t := by rw [he]; exact ⟨bfC_ge _ _ _ _ hfa.2, bfC_le _ _ _ _⟩
  refine g_Mo_keepTrimmed (I5 := fun n x1 x2 x3 x4 m' => m' = m ∧ x4 = nI t ∧ ∃ k, x3 = nI k ∧ f ≤ k ∧ k ≤ t ∧ n + k = t ∧ min t (k + spF xs k) = a) (I28 := fun n x1 x2 x3 x4 m' => m' = m ∧ x3 = nI a ∧ x4 = nI n ∧ a ≤ n ∧ n ≤ t ∧ bfC xs a 32 n = e) (I57 := fun n x1 x2 x3 x4 x5 m' => x3 = nI a ∧ x4 = nI e ∧ ∃ k, x5 = nI k ∧ a ≤ k ∧ k ≤ e ∧ n + k = e ∧ m' = extF m P (sl xs a k)) G ?_ ?_ ?_ ?_
  · exact ⟨t - f, rfl, rfl, f, rfl, Nat.le_refl _, hf, by omega, ha.symm⟩
  · rintro n x1 x2 x3 x4 x5 m' ⟨rfl, rfl, k, rfl, hk1, hk2, hn, rfl⟩
    unfold w_Mo_keepTrimmed_57
    rw [nI_leI (by omega) (by omega), vp_nI (by omega), nI_clamp (by omega)]
    refine ⟨fun c1 => iP.i ?_ (pk_sub hea.1), fun c1 => ⟨by omega, ?_⟩⟩
    · rw [show k = e by omega]; exact h
    · rw [extF_k (by decide), hL.get (by omega)]
      refine d_Mo_keep G (by rw [sl_len (by omega)]; omega) ⟨n - 1, by omega, rfl, rfl, k + 1, nI_1 k, by omega, by omega, by omega, ?_⟩
      rw [sl_app (T := xs) hk1 (by omega) (by omega)]
  · rintro n x1 x2 x3 x4 m' ⟨rfl, rfl, rfl, hn1, hn2, en⟩
    have hgo : n = e → w_Mo_keepTrimmed_54 Y x1 x2 (nI a) (nI n) m' (iP N) (fun x1 x2 x3 x4 x5 m_1 => ∃ j, x3 = nI a ∧ x4 = nI e ∧ ∃ k, x5 = nI k ∧ a ≤ k ∧ k ≤ e ∧ j + k = e ∧ m_1 = extF m' P (sl xs a k)) := fun q => ⟨e - a, rfl, by rw [q], a, rfl, Nat.le_refl _, hea.1, by omega, by rw [sl_nil (Nat.le_refl _), extF_nil h10]⟩
    unfold w_Mo_keepTrimmed_28
    rw [nI_leI (by omega) (by omega)]
    cases n with
    | zero => exact ⟨fun _ => hgo (by rw [← en]; rfl), fun z => by omega⟩
    | succ n =>
      refine ⟨fun z => hgo (by rw [← en, bfC, if_neg (fun q => by omega)]), fun z => ?_⟩
      simp (discharger := omega) only [nI_pred, vp_nI, nI_clamp]
      rw [hL.get (by omega)]
      refine ⟨by omega, fun c2 => ⟨n, by omega, by trivial, by trivial, nI_dec n, by omega, by omega, ?_⟩, fun c2 => hgo ?_⟩
      · rw [← en, bfC, if_pos ⟨by omega, c2⟩]
      · rw [← en, bfC, if_neg (fun q => c2 q.2)]
  · rintro n x1 x2 x3 x4 m' ⟨rfl, rfl, k, rfl, hk1, hk2, hn, ek⟩
    have hgo : k = a → ∃ j, m' = m' ∧ nI k = nI a ∧ nI t = nI j ∧ a ≤ j ∧ j ≤ t ∧ bfC xs a 32 j = e := fun q => ⟨t, rfl, by rw [q], rfl, by omega, Nat.le_refl _, he.symm⟩
    unfold w_Mo_keepTrimmed_5
    rw [nI_leI (by omega) (by omega), vp_nI (by omega), nI_clamp (by omega)]
    refine ⟨fun c1 => hgo (by omega), fun c1 => ⟨by omega, ?_⟩⟩
    rw [hL.get (by omega)]
    refine ⟨fun c2 => ⟨n - 1, by omega, by trivial, by trivial, k + 1, nI_1 k, by omega, by omega, by omega, ?_⟩, fun c2 => hgo ?_⟩
    · have := runFrom_y (xs := xs) (p := fun z => z == 32) (i := k) (by omega) (by omega) (by rw [c2]; rfl)
      have e2 : spF xs k = spF xs (k + 1) + 1 := this
      clear hgo
      omega
    · have := runFrom_n (xs := xs) (p := fun z => z == 32) (i := k) (by omega) (by omega) (by simpa using c2)
      rw [spF, this] at ek
      clear hgo
      omega
end MTEXT
