theorem extF_mI {m : MS} {P : Nat} {o : List Int32} {k : Nat} (hk : k ≠ 10) (x : Int32) : extF (mI m k x) P o = mI (extF m P o) k x := by
  unfold extF mI
  simp only [Prod.mk.injEq]
  refine ⟨funext fun j => ?_, by trivial⟩
  by_cases e : j = 10
  · subst e
    simp [show ¬ (10 = k) from fun q => hk q.symm]
  · simp [e]
section MOUNE
variable {X : MX} {a0 : Array Value} {m : MS} {T : List Int32} {f δ : Nat} {N : Int32 → MS → Prop}
def MuI (m : MS) (T : List Int32) (g t δ P n : Nat) (x3 x4 x5 : Int32) (m' : MS) : Prop := x3 = nI P ∧ x4 = nI (t + δ) ∧ ∃ (k : Nat) (o : List Int32) (x : Int32), x5 = nI (k + δ) ∧ g ≤ k ∧ k ≤ t ∧ n + k = t ∧ m' = extF (mI m 51 x) P o ∧ o ++ uneF T t k = uneF T t g ∧ o.length ≤ k - g
theorem d_Mo_unescape (F : mF X a0) (hC : NmC m) (hP : PlI m T f δ) {g t P : Nat} (hf : f ≤ g) (hg : g ≤ t) (ht : t ≤ T.length) (h10 : m.1 10 = nI P) (hPl : T.length + δ ≤ P) (hb : P + (t - g) ≤ 47990) (h : ∀ x, N (nI (uneF T t g).length) (extF (mI m 51 x) P (uneF T t g))) : mE X 3 y_Mo_unescape [.ref (mo X), .int (nI (g + δ)), .int (nI (t - g))] m (iP N) := by
  have hP0 := hP
  obtain ⟨hv, hb0, hl⟩ := hP
  refine g_Mo_unescape (I13 := fun n x1 x2 x3 x4 x5 m' => MuI m T g t δ P n x3 x4 x5 m') F ?_ ?_
  · refine ⟨t - g, h10, ?_, g, [], m.1 51, rfl, Nat.le_refl _, hg, by omega, ?_, rfl, by simp⟩
    · rw [nI_add]
      congr 1
      omega
    · rw [mI_self, extF_nil h10]
  · rintro n x1 x2 x3 x4 x5 m' ⟨rfl, rfl, k, o, x, rfl, hk, hkt, hn, rfl, e, ho⟩
    have hne : (extF (mI m 51 x) P o).1 10 = nI (P + o.length) := extF_10
    by_cases hlt : k < t
    · have hrd : ∀ j, f ≤ j → j < T.length → ∀ y, (extF (mI m 51 y) P o).2 7 (j + δ) = tA T j := fun j q1 q2 y => (extF_at (by omega)).trans (hv j q1 q2)
      have hP' : ∀ y, PlI (extF (mI m 51 y) P o) T f δ := fun y => ⟨fun j q1 q2 => hrd j q1 q2 y, hb0, hl⟩
      have hC' : ∀ y, NmC (extF (mI m 51 y) P o) := fun y j hj => by
        rw [extF_k (by decide), extF_k (by decide)]
        exact hC j hj
      have hvk := hrd k (by omega) (by omega) x
      have hnext : ∀ (y z : Int32) (k2 : Nat) (y5 : Int32), y5 = nI (k2 + δ) → k < k2 → k2 ≤ t → uneF T t k = z :: uneF T t k2 → mE X 0 y_Mo_keep [.ref (mo X), .int z] (extF (mI m 51 y) P o) (vP fun m1 => ∃ j, j < n ∧ MuI m T g t δ P j (nI P) (nI (t + δ)) y5 m1) := by
        intro y z k2 y5 hy5 hk2 hk2t hE
        refine d_Mo_keep F (by omega) ⟨t - k2, by omega, rfl, rfl, k2, o ++ [z], y, hy5, by omega, hk2t, by omega, rfl, ?_, ?_⟩
        · rw [← e, hE, List.append_assoc]
          rfl
        · rw [List.length_append]
          simp
          omega
      have h48 : ∀ y, (tA T k = 38 → refR T k t = none) → w_Mo_unescape_48 X x1 x2 (nI P) (nI (t + δ)) (nI (k + δ)) (tA T k) 0 (extF (mI m 51 y) P o) (iP N) (fun x1 x2 x3 x4 x5 m_1 => ∃ j, j < n ∧ MuI m T g t δ P j x3 x4 x5 m_1) := by
        intro y hr
        have h123 : ¬ (tA T k = 92 ∧ k + 1 < t ∧ pn (tA T (k + 1))) → mE X 0 y_Mo_keep [.ref (mo X), .int (tA T k)] (extF (mI m 51 y) P o) (vP fun m1 => ∃ j, j < n ∧ MuI m T g t δ P j (nI P) (nI (t + δ)) (nI (k + 1 + δ)) m1) := fun q => hnext y _ (k + 1) _ rfl (by omega) (by omega) (uneF_one hlt hr q)
        unfold w_Mo_unescape_48 w_Mo_unescape_123 w_Mo_unescape_132
        simp (discharger := omega) only [sh1, sh2, nI_leI, vp_nI, nI_clamp]
        refine ⟨fun _ => ⟨fun c1 => ⟨fun c2 => h123 (fun q => by omega), fun c2 => ⟨by omega, ?_⟩⟩, fun c1 => h123 (fun q => c1 q.1)⟩, fun z => absurd (by decide) z⟩
        rw [hrd (k + 1) (by omega) (by omega) y]
        refine d_Mo_isAscii F ⟨fun c3 => h123 (fun q => bI_0 c3 q.2.2), fun c3 => ⟨by omega, ?_⟩⟩
        rw [hrd (k + 1) (by omega) (by omega) y]
        exact hnext y _ (k + 2) _ rfl (by omega) (by omega) (uneF_esc hlt hr ⟨c1, by omega, bI_n0 c3⟩)
      unfold w_Mo_unescape_13
      simp (discharger := omega) only [nI_leI, vp_nI, nI_clamp, hvk]
      refine ⟨fun c => absurd c (by omega), fun _ => ⟨by omega, fun c1 => d_Mo_reference F (hC' x) (hP' x) (by omega) hlt ht (fun q y => ?_) (fun e2 v2 q q1 q2 => ?_), fun c1 => h48 x (fun z => absurd z c1)⟩⟩
      · rw [← extF_mI (by decide), mI_mI]
        exact h48 y (fun _ => q)
      · rw [← extF_mI (by decide), mI_mI]
        unfold w_Mo_unescape_48 w_Mo_unescape_132
        have e51 : (extF (mI m 51 (nI v2)) P o).1 51 = nI v2 := (extF_i (by decide)).trans (mI_at _ _ _)
        rw [e51]
        refine ⟨fun z => absurd z ?_, fun _ => ?_⟩
        · rw [show (0 : Int32) = nI 0 from rfl, nI_leI (by omega) (by decide)]
          omega
        · refine hnext _ _ e2 _ ?_ q1 q2 (uneF_ref hlt c1 q q1)
          rw [nI_add]
          congr 1
          omega
    · unfold w_Mo_unescape_13
      simp (discharger := omega) only [nI_leI]
      refine ⟨fun _ => ?_, fun c => absurd (by omega) c⟩
      rw [uneF_end (by omega), List.append_nil] at e
      rw [hne, pk_sub (by omega), e]
      refine iP.i (h x) ?_
      congr 1
      omega
end MOUNE
