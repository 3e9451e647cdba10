/-- entry k of the model's tables tells d; its parts lie below P -/
def EnM (m : MS) (k : Nat) (d : List Int32 × List Int32 × List Int32) (P : Nat) : Prop := ∃ p q r : Nat, (m.2 41 k = nI p ∧ m.2 42 k = nI d.1.length ∧ PoolL m p d.1 ∧ p + d.1.length ≤ P) ∧ (m.2 43 k = nI q ∧ m.2 44 k = nI d.2.1.length ∧ PoolL m q d.2.1 ∧ q + d.2.1.length ≤ P) ∧ (m.2 45 k = nI r ∧ m.2 46 k = nI d.2.2.length ∧ PoolL m r d.2.2 ∧ r + d.2.2.length ≤ P)
def DsM (m : MS) (D : DL) (P : Nat) : Prop := m.1 40 = nI D.length ∧ ∀ k, k < D.length → EnM m k (dA D k) P
/-- on the way of one definition: numbers 10, 40, 47 to 51, entry e of the tables, the pool from P on -/
def TdS (m m' : MS) (e P : Nat) : Prop := (∀ k, k ≠ 10 → k ≠ 40 → ¬ (47 ≤ k ∧ k ≤ 51) → m'.1 k = m.1 k) ∧ (∀ k i, k ≠ 7 → ¬ (41 ≤ k ∧ k ≤ 46 ∧ i = e) → m'.2 k i = m.2 k i) ∧ ∀ i, i < P → m'.2 7 i = m.2 7 i
theorem TdS.rfl {m : MS} {e P : Nat} : TdS m m e P := ⟨fun _ _ _ _ => _root_.rfl, fun _ _ _ _ => _root_.rfl, fun _ _ => _root_.rfl⟩
theorem TdS.df {m m' m2 : MS} {e P : Nat} (h : TdS m m' e P) (h2 : DfR m' m2) : TdS m m2 e P := ⟨fun k q1 q2 q3 => (h2.2 k (by omega)).trans (h.1 k q1 q2 q3), fun k i q1 q2 => by rw [h2.1]; exact h.2.1 k i q1 q2, fun i hi => by rw [h2.1]; exact h.2.2 i hi⟩
theorem TdS.a {m m' : MS} {e P k : Nat} (h : TdS m m' e P) (hk : 41 ≤ k ∧ k ≤ 46) (x : Int32) : TdS m (mA m' k e x) e P := ⟨h.1, fun j i q1 q2 => by
  by_cases e1 : j = k
  · rw [mA_ni (fun z => q2 ⟨by omega, by omega, z⟩)]; exact h.2.1 j i q1 q2
  · rw [mA_ne e1]; exact h.2.1 j i q1 q2, fun i hi => by rw [mA_ne (by omega)]; exact h.2.2 i hi⟩
theorem TdS.x {m m' : MS} {e P P1 : Nat} {o : List Int32} (h : TdS m m' e P) (hP : P ≤ P1) : TdS m (extF m' P1 o) e P := ⟨fun k q1 q2 q3 => (extF_i q1).trans (h.1 k q1 q2 q3), fun k i q1 q2 => (extF_k q1).trans (h.2.1 k i q1 q2), fun i hi => (extF_at (by omega)).trans (h.2.2 i hi)⟩
theorem TdS.i {m m' : MS} {e P k : Nat} (h : TdS m m' e P) (hk : k = 40 ∨ (47 ≤ k ∧ k ≤ 51)) (x : Int32) : TdS m (mI m' k x) e P := ⟨fun j q1 q2 q3 => (mI_ne (by omega)).trans (h.1 j q1 q2 q3), h.2.1, h.2.2⟩
theorem TdS.pl {m m' : MS} {e P : Nat} {T : List Int32} {f δ : Nat} (h : TdS m m' e P) (hP : PlI m T f δ) (hb : T.length + δ ≤ P) : PlI m' T f δ := ⟨fun k h1 h2 => (h.2.2 _ (by omega)).trans (hP.1 k h1 h2), hP.2⟩
theorem TdS.nm {m m' : MS} {e P : Nat} (h : TdS m m' e P) (hC : NmC m) : NmC m' := fun k hk => by
  rw [h.2.1 52 k (by decide) (by omega), h.2.1 53 k (by decide) (by omega)]
  exact hC k hk
theorem PoolL.keep {m m' : MS} {p P : Nat} {L : List Int32} (h : PoolL m p L) (hp : p + L.length ≤ P) (hq : ∀ i, i < P → m'.2 7 i = m.2 7 i) : PoolL m' p L := fun i hi => (hq _ (by omega)).trans (h i hi)
theorem EnM.keep {m m' : MS} {k e P P' : Nat} {d : List Int32 × List Int32 × List Int32} (h : EnM m k d P) (hs : TdS m m' e P) (hk : k ≠ e) (hP : P ≤ P') : EnM m' k d P' := by
  obtain ⟨p, q, r, ⟨a1, a2, a3, a4⟩, ⟨b1, b2, b3, b4⟩, ⟨c1, c2, c3, c4⟩⟩ := h
  have key : ∀ j, 41 ≤ j → j ≤ 46 → m'.2 j k = m.2 j k := fun j _ _ => hs.2.1 j k (by omega) (fun z => hk z.2.2)
  exact ⟨p, q, r, ⟨(key 41 (by decide) (by decide)).trans a1, (key 42 (by decide) (by decide)).trans a2, a3.keep a4 hs.2.2, by omega⟩, ⟨(key 43 (by decide) (by decide)).trans b1, (key 44 (by decide) (by decide)).trans b2, b3.keep b4 hs.2.2, by omega⟩, ⟨(key 45 (by decide) (by decide)).trans c1, (key 46 (by decide) (by decide)).trans c2, c3.keep c4 hs.2.2, by omega⟩⟩
theorem pool_sl {m : MS} {T : List Int32} {f δ a b : Nat} (hP : PlI m T f δ) (ha : f ≤ a) (hb : b ≤ T.length) : PoolL m (a + δ) (sl T a b) := by
  intro i hi
  rw [sl_len hb] at hi
  have hl := hP.2.2
  rw [show i + (a + δ) = a + i + δ by omega, hP.1 (a + i) (by omega) (by omega)]
  have : tA (sl T a b) i = tA T (a + i) := by
    unfold sl
    rw [tA, tA, rowAt_nI (by omega), rowAt_nI (by omega), List.getD_eq_getElem?_getD, List.getD_eq_getElem?_getD, List.getElem?_drop, List.getElem?_take_of_lt (by omega)]
  exact this.symm
section MODEF
variable {X : MX} {a0 : Array Value} {m : MS} {N : Int32 → MS → Prop} {M : MS → Prop}
theorem d_Mo_areAlike (F : mF X a0) {a b : Nat} {A B : List Int32} (hA : PoolL m a A) (hB : PoolL m b B) (he : A.length = B.length) (ha : a + A.length ≤ 47990) (hb : b + B.length ≤ 47990) (h1 : A = B → N 1 m) (h0 : A ≠ B → N 0 m) : mE X 0 y_Mo_areAlike [.ref (mo X), .int (nI a), .int (nI b), .int (nI B.length)] m (iP N) := by
  refine g_Mo_areAlike (I6 := fun n x1 x2 x3 x4 x5 m' => m' = m ∧ x1 = nI a ∧ x2 = nI b ∧ x3 = nI B.length ∧ ∃ i, x5 = nI i ∧ i ≤ B.length ∧ n + i = B.length ∧ ((x4 = 1 ∧ ∀ j, j < i → tA A j = tA B j) ∨ (x4 = 0 ∧ A ≠ B))) F ?_ ?_
  · exact ⟨B.length, rfl, rfl, rfl, rfl, 0, rfl, by omega, by omega, Or.inl ⟨rfl, fun j hj => absurd hj (by omega)⟩⟩
  · rintro n x1 x2 x3 x4 x5 m' ⟨rfl, rfl, rfl, rfl, i, rfl, hi, hn, hx⟩
    by_cases hlt : i < B.length
    · have e1 : m'.2 7 (a + i) = tA A i := by rw [Nat.add_comm]; exact hA i (by omega)
      have e2 : m'.2 7 (b + i) = tA B i := by rw [Nat.add_comm]; exact hB i hlt
      simp (discharger := omega) only [w_Mo_areAlike_6, w_Mo_areAlike_51, w_Mo_areAlike_43, nI_leI, nI_add, vp_nI, nI_clamp, e1, e2, lit_one]
      rcases hx with ⟨rfl, q⟩ | ⟨rfl, q⟩
      · refine ⟨fun c => absurd c (by omega), fun _ => ⟨fun z => absurd z (by decide), fun _ => ⟨by omega, by omega, fun c1 => ⟨n - 1, by omega, by trivial, by trivial, by trivial, by trivial, i + 1, rfl, by omega, by omega, Or.inl ⟨by trivial, fun j hj => ?_⟩⟩, fun c1 => ⟨n - 1, by omega, by trivial, by trivial, by trivial, by trivial, i + 1, rfl, by omega, by omega, Or.inr ⟨by trivial, fun z => c1 (by rw [z])⟩⟩⟩⟩⟩
        by_cases e : j = i
        · subst e; exact c1
        · exact q j (by omega)
      · exact ⟨fun c => absurd c (by omega), fun _ => ⟨fun _ => ⟨mZ0, iP.i (h0 q) rfl⟩, fun z => absurd (by trivial) z⟩⟩
    · simp (discharger := omega) only [w_Mo_areAlike_6, w_Mo_areAlike_51, nI_leI]
      refine ⟨fun _ => ?_, fun c => absurd (by omega) c⟩
      rcases hx with ⟨rfl, q⟩ | ⟨rfl, q⟩
      · exact ⟨mZ1, iP.i (h1 (list_ext he (by omega) (fun j hj => q j (by omega)))) rfl⟩
      · exact ⟨mZ0, iP.i (h0 q) rfl⟩
/-- labels alone -/
def LbM (m : MS) (k : Nat) (L : List Int32) : Prop := ∃ p : Nat, m.2 41 k = nI p ∧ m.2 42 k = nI L.length ∧ PoolL m p L ∧ p + L.length ≤ 47990
def ErI (m : MS) (D : DL) (L : List Int32) (n : Nat) (x1 x2 x3 : Int32) (m' : MS) : Prop := m' = m ∧ x1 = nI D.length ∧ n ≤ D.length ∧ x3 = nI n - 1 ∧ ((x2 = -1 ∧ ∀ j, n ≤ j → j < D.length → (dA D j).1 ≠ L) ∨ ∃ e, x2 = nI e ∧ n ≤ e ∧ e < D.length ∧ (dA D e).1 = L ∧ ∀ j, n ≤ j → j < e → (dA D j).1 ≠ L)
theorem d_Mo_earlier (F : mF X a0) {D : DL} {L : List Int32} (hD : D.length < 700) (hE : ∀ k, k < D.length → LbM m k (dA D k).1) (hL : LbM m D.length L) (h0 : (∀ k, k < D.length → (dA D k).1 ≠ L) → N (-1) m) (h1 : ∀ k, k < D.length → (dA D k).1 = L → N (nI k) m) : mE X 1 y_Mo_earlier [.ref (mo X), .int (nI D.length)] m (iP N) := by
  refine g_Mo_earlier (I6 := fun n x1 x2 x3 m' => ErI m D L n x1 x2 x3 m') F ?_ ?_
  · exact ⟨D.length, rfl, rfl, Nat.le_refl _, rfl, Or.inl ⟨rfl, fun j q1 q2 => by omega⟩⟩
  · rintro n x1 x2 x3 m' ⟨rfl, rfl, hn, rfl, hx⟩
    unfold w_Mo_earlier_6 w_Mo_earlier_54 w_Mo_earlier_55
    cases n with
    | zero =>
      refine ⟨fun _ => ?_, fun z => absurd (by decide) z⟩
      rcases hx with ⟨rfl, q⟩ | ⟨e, rfl, q1, q2, q3, q4⟩
      · exact iP.i (h0 (fun k hk => q k (by omega) hk)) rfl
      · exact iP.i (h1 e q2 q3) rfl
    | succ n =>
      obtain ⟨p, e1, e2, e3, e4⟩ := hE n (by omega)
      obtain ⟨p', f1, f2, f3, f4⟩ := hL
      rw [nI_pred]
      simp (discharger := omega) only [vp_nI, nI_clamp, e1, e2, f1, f2, nI_eq]
      have hkeep : (dA D n).1 ≠ L → ∃ j, j < n + 1 ∧ ErI m' D L j (nI D.length) x2 (nI n + -1) m' := by
        intro hne
        refine ⟨n, by omega, rfl, rfl, by omega, ?_, ?_⟩
        · rw [Int32.sub_eq_add_neg]
        · rcases hx with ⟨rfl, q⟩ | ⟨e, rfl, q1, q2, q3, q4⟩
          · refine Or.inl ⟨rfl, fun j g1 g2 => ?_⟩
            by_cases z : j = n
            · subst z; exact hne
            · exact q j (by omega) g2
          · refine Or.inr ⟨e, rfl, by omega, q2, q3, fun j g1 g2 => ?_⟩
            by_cases z : j = n
            · subst z; exact hne
            · exact q4 j (by omega) g2
      refine ⟨fun z => absurd z (nI_lt0 (by omega)), fun _ => ⟨by omega, by omega, fun c1 => ⟨by omega, by omega, by omega, d_Mo_areAlike F e3 f3 c1 e4 f4 (fun z => ⟨fun y => absurd y (by decide), fun _ => ⟨n, by omega, rfl, rfl, by omega, ?_, Or.inr ⟨n, rfl, Nat.le_refl _, by omega, z, fun j g1 g2 => by omega⟩⟩⟩) (fun z => ⟨fun _ => hkeep z, fun y => absurd rfl y⟩)⟩, fun c1 => hkeep (fun z => c1 (by rw [z]))⟩⟩
      rw [Int32.sub_eq_add_neg]
end MODEF
