section CLLBL2
variable {X : CX} {a0 : Array Value} {c : CS} {T : List Int32} {N : Int32 → CS → Prop}
theorem q_Lab_behindGap (F : cF X a0) (hT : vr c.1 10 = T) (hl : T.length ≤ 16000) {f : Nat} (hf : f ≤ 16010) (h : N (nI (gpF T f false)) c) : cE X 1 y_Lab_behindGap [.ref (adr X 4), .int (nI f)] c (ciP N) := by
  refine g_Lab_behindGap (I4 := fun n x1 x2 x3 c' => c' = c ∧ ∃ k nl, x2 = bI (nl = true) ∧ x3 = nI k ∧ n + k = 16020 ∧ gpF T k nl = gpF T f false) F ?_ ?_
  · exact ⟨16020 - f, rfl, f, false, rfl, rfl, by omega, rfl⟩
  · rintro n x1 x2 x3 c' ⟨rfl, k, nl, rfl, rfl, hn, e⟩
    have h74 : gpF T k nl = k → w_Lab_behindGap_74 X x1 (bI (nl = true)) (nI k) c' (ciP N) := fun q => ciP.i h (by rw [← e, q])
    have h67 : ∀ nl' : Bool, k < T.length → gpF T k nl = gpF T (k + 1) nl' → w_Lab_behindGap_67 X x1 (bI (nl = true)) (nI k) (bI (nl' = true)) c' (ciP N) (fun x1 x2 x3 m => ∃ j, j < n ∧ m = c' ∧ ∃ k nl, x2 = bI (nl = true) ∧ x3 = nI k ∧ j + k = 16020 ∧ gpF T k nl = gpF T f false) := fun nl' hk q => ⟨n - 1, by omega, rfl, k + 1, nl', rfl, nI_1 k, by omega, by rw [← q]; exact e⟩
    have h45 : k < T.length → (tA T k = 32 ∨ tA T k = 10 ∧ nl = false) → w_Lab_behindGap_45 X x1 (bI (nl = true)) (nI k) c' (ciP N) (fun x1 x2 x3 m => ∃ j, j < n ∧ m = c' ∧ ∃ k nl, x2 = bI (nl = true) ∧ x3 = nI k ∧ j + k = 16020 ∧ gpF T k nl = gpF T f false) := by
      intro hk hx
      unfold w_Lab_behindGap_45 w_Lab_behindGap_62
      refine ⟨fun c1 => q_Row_at F isR10 ⟨fun c2 => ?_, fun c2 => ?_⟩, fun c1 => ?_⟩
      · rw [hT] at c2
        have c2' : tA T k = 10 := c2
        have := h67 true hk (by rw [gpF, if_pos hk, if_neg (by rw [c2']; decide), if_pos ⟨c2', by have := bI_0 c1; simpa using this⟩])
        exact this
      · rw [hT] at c2
        have hnl : nl = false := by have := bI_0 c1; simpa using this
        have := h67 false hk (by rw [gpF, if_pos hk, if_pos (hx.resolve_right (fun q => c2 q.1)), hnl])
        exact this
      · have hnl : nl = true := bI_n0 c1
        have h32 : tA T k = 32 := hx.resolve_right (fun q => by rw [hnl] at q; exact absurd q.2 (by decide))
        have := h67 true hk (by rw [gpF, if_pos hk, if_pos h32, hnl])
        exact this
    unfold w_Lab_behindGap_4
    refine q_Row_size F isR10 ⟨fun c1 => ?_, fun c1 => q_Row_at F isR10 ⟨fun c2 => ?_, fun c2 => q_Row_at F isR10 ⟨fun c3 => ⟨fun c4 => ?_, fun c4 => ?_⟩, fun c3 => ?_⟩⟩⟩
    · rw [hT, nI_leI (by omega) (by omega)] at c1
      exact h74 (by rw [gpF, if_neg (by omega)])
    all_goals rw [hT, nI_leI (by omega) (by omega)] at c1
    all_goals rw [hT] at c2
    · exact h45 (by omega) (Or.inl c2)
    · rw [hT] at c3
      exact h45 (by omega) (Or.inr ⟨c3, by have := bI_0 c4; simpa using this⟩)
    · have hnl : nl = true := bI_n0 c4
      exact h74 (by rw [gpF, if_pos (by omega), if_neg c2, if_neg (fun q => by rw [hnl] at q; exact absurd q.2 (by decide))])
    · rw [hT] at c3
      exact h74 (by rw [gpF, if_pos (by omega), if_neg c2, if_neg (fun q => c3 q.1)])
theorem q_Lab_behindLine (F : cF X a0) (hT : vr c.1 10 = T) (hl : T.length ≤ 16000) {f : Nat} (hf : f ≤ T.length) (h0 : lnF T f = none → N (-1) c) (h1 : ∀ k, lnF T f = some k → k ≤ T.length → N (nI (if k < T.length then k + 1 else k)) c) : cE X 1 y_Lab_behindLine [.ref (adr X 4), .int (nI f)] c (ciP N) := by
  refine g_Lab_behindLine (I2 := fun n x1 x2 c' => c' = c ∧ ∃ k, x2 = nI k ∧ k ≤ T.length ∧ n + k = 16020 ∧ lnF T k = lnF T f) F ?_ ?_
  · exact ⟨16020 - f, rfl, f, rfl, hf, by omega, rfl⟩
  · rintro n x1 x2 c' ⟨rfl, k, rfl, hk, hn, e⟩
    have h32 : (k < T.length → ¬ tA T k = 32) → w_Lab_behindLine_32 X x1 (nI k) c' (ciP N) := by
      intro hx
      unfold w_Lab_behindLine_32 w_Lab_behindLine_65
      refine q_Row_size F isR10 ⟨fun c1 => q_Row_at F isR10 ⟨fun c2 => ?_, fun c2 => ?_⟩, fun c1 => ?_⟩
      · rw [hT, nI_ltI (by omega) (by omega)] at c1
        rw [hT] at c2
        rw [lnF, if_pos c1, if_neg (hx c1), if_pos c2] at e
        exact ciP.i (h1 k e.symm hk) (by rw [if_pos c1]; exact nI_1 k)
      · rw [hT, nI_ltI (by omega) (by omega)] at c1
        rw [hT] at c2
        rw [lnF, if_pos c1, if_neg (hx c1), if_neg c2] at e
        exact ciP.i (h0 e.symm) rfl
      · rw [hT, nI_ltI (by omega) (by omega)] at c1
        rw [lnF, if_neg c1] at e
        exact ciP.i (h1 k e.symm hk) (by rw [if_neg c1])
    unfold w_Lab_behindLine_2
    refine q_Row_size F isR10 ⟨fun c1 => ?_, fun c1 => q_Row_at F isR10 ⟨fun c2 => ?_, fun c2 => ?_⟩⟩
    · rw [hT, nI_leI (by omega) (by omega)] at c1
      exact h32 (fun q => by omega)
    · rw [hT, nI_leI (by omega) (by omega)] at c1
      rw [hT] at c2
      rw [lnF, if_pos (by omega), if_pos c2] at e
      exact ⟨n - 1, by omega, rfl, k + 1, nI_1 k, by omega, by omega, e⟩
    · rw [hT] at c2
      exact h32 (fun _ => c2)
theorem q_Lab_behindAngles (F : cF X a0) (hT : vr c.1 10 = T) (hl : T.length ≤ 16000) {f : Nat} (hf : f ≤ 16010) (h0 : agF T (f + 1) = none → N (-1) c) (h1 : ∀ k, agF T (f + 1) = some k → k < T.length → f < k → N (nI (k + 1)) (cI (cI c 45 (nI (f + 1))) 46 (nI k))) : cE X 1 y_Lab_behindAngles [.ref (adr X 4), .int (nI f)] c (ciP N) := by
  refine g_Lab_behindAngles (I4 := fun n x1 x2 c' => c' = c ∧ x1 = nI f ∧ ∃ k, x2 = nI k ∧ f < k ∧ n + k = 16040 ∧ k ≤ 16020 ∧ agF T k = agF T (f + 1)) F ?_ ?_
  · exact ⟨16040 - (f + 1), rfl, rfl, f + 1, nI_1 f, by omega, by omega, by omega, rfl⟩
  · rintro n x1 x2 c' ⟨rfl, rfl, k, rfl, hk, hn, hk2, e⟩
    have h95 : (T.length ≤ k ∨ tA T k = 62) → w_Lab_behindAngles_95 X (nI f) (nI k) c' (ciP N) := by
      intro hx
      refine q_Row_size F isR10 ⟨fun c1 => ?_, fun c1 => ?_⟩
      · rw [hT, nI_ltI (by omega) (by omega)] at c1
        intro m2 e2 m3 e3
        subst e3 e2
        rw [agF, if_pos c1, if_pos (hx.resolve_left (by omega))] at e
        rw [nI_1 f]
        exact ciP.i (h1 k e.symm c1 hk) (nI_1 k)
      · rw [hT, nI_ltI (by omega) (by omega)] at c1
        rw [agF, if_neg c1] at e
        exact ciP.i (h0 e.symm) rfl
    unfold w_Lab_behindAngles_4 w_Lab_behindAngles_54 w_Lab_behindAngles_89 w_Lab_behindAngles_90
    refine q_Row_size F isR10 ⟨fun c1 => ?_, fun c1 => q_Row_at F isR10 ⟨fun c2 => ?_, fun c2 => q_Row_at F isR10 ⟨fun c3 => ?_, fun c3 => q_Row_at F isR10 ⟨fun c4 => ?_, fun c4 => q_Row_at F isR10 ⟨fun c5 => q_Row_at F isR10 ⟨fun c6 => ?_, fun c6 => ?_⟩, fun c5 => ?_⟩⟩⟩⟩⟩
    all_goals rw [hT, nI_leI (by omega) (by omega)] at c1
    · exact h95 (Or.inl c1)
    all_goals rw [hT] at c2
    · exact h95 (Or.inr c2)
    all_goals rw [hT] at c3
    · rw [agF, if_pos (by omega), if_neg c2, if_pos (Or.inl c3)] at e
      exact ciP.i (h0 e.symm) rfl
    all_goals rw [hT] at c4
    · rw [agF, if_pos (by omega), if_neg c2, if_pos (Or.inr c4)] at e
      exact ciP.i (h0 e.symm) rfl
    all_goals rw [hT] at c5
    all_goals rw [agF, if_pos (by omega), if_neg c2, if_neg (fun q => q.elim c3 c4)] at e
    · rw [hT, nI_1] at c6
      rw [if_neg (fun q => q.2 c6)] at e
      exact ⟨n - 1, by omega, rfl, rfl, k + 1, nI_1 k, by omega, by omega, by omega, e⟩
    · rw [hT, nI_1] at c6
      rw [if_pos ⟨c5, c6⟩] at e
      exact ⟨n - 2, by omega, rfl, rfl, k + 2, nI_add k 2, by omega, by omega, by omega, e⟩
    · rw [if_neg (fun q => c5 q.1)] at e
      exact ⟨n - 1, by omega, rfl, rfl, k + 1, nI_1 k, by omega, by omega, by omega, e⟩
end CLLBL2
