/-- k values of f from i on -/
def seg (f : Nat → Int32) : Nat → Nat → List Int32
  | _, 0 => []
  | i, k + 1 => f i :: seg f (i + 1) k
theorem seg_length (f : Nat → Int32) : ∀ (k i : Nat), (seg f i k).length = k
  | 0, _ => rfl
  | k + 1, i => by rw [seg, List.length_cons, seg_length f k (i + 1)]
section MB2
variable {l : Launch} {s0 : State} {D : va_G} {cA : Nat → ClassId} {a0 : Array Value} {d : Nat}
theorem e_end32 (F : jOK s0 jcl D cA lw_tbl a0 jty) {m tp rd tr lb ln re N : Nat} {li fa : Int32} {f : Nat → Int32} (hN : N ≤ 20) {Φ : Option Value → jS → Prop} : ∀ (k i : Nat) (σ : jS) (n : Nat) (xs : List Int32), i + k = N → xs.length + k ≤ 3000 → jI s0.heap.size σ → MBAt s0.heap.size σ m tp rd tr lb ln re li fa → ArrI s0.heap.size 1015 σ rd 20 f → RowAt s0.heap.size 1 1010 σ tp n xs → (∀ (σ' : jS) (n' : Nat), jI s0.heap.size σ' → jK [1, 1010] σ σ' → RowAt s0.heap.size 1 1010 σ' tp n' (xs ++ seg f i k) → n ≤ n' → σ'.2.1 + n ≤ σ.2.1 + n' → σ'.2.2 + 2 * n = σ.2.2 + 2 * n' → jW l s0 jcl D cA (d + 3) y_MB_end 56 [some (.ref m), some (.int (nI N)), some (.int (nI N))] [] σ' Φ) → jW l s0 jcl D cA (d + 3) y_MB_end 32 [some (.ref m), some (.int (nI N)), some (.int (nI i))] [] σ Φ := by
  intro k
  induction k with
  | zero =>
    intro i σ n xs hk hl hI hM hA hT hK
    have hi : i = N := by omega
    subst hi
    refine jW.iload_n (dx_MB_end 18 (e := (32, .iload_n 2, 1)) rfl) rfl rfl (pc' := 33) rfl ?_
    refine jW.iload_n (dx_MB_end 19 (e := (33, .iload_n 1, 1)) rfl) rfl rfl (pc' := 34) rfl ?_
    refine jW.icmp_ge (dx_MB_end 20 (e := (34, .if_icmp .ge 22, 3)) rfl) 56 (by decide) (pc' := 37) rfl (fun c_34 => ?_) (fun c_34 => ?_)
    · exact hK σ n hI jK.rfl (by rw [seg, List.append_nil]; exact hT) (Nat.le_refl _) (Nat.le_refl _) rfl
    · exact absurd ((nI_leI (by omega) (by omega)).mpr (Nat.le_refl _)) c_34
  | succ k ih =>
    intro i σ n xs hk hl hI hM hA hT hK
    have hM0 := hM
    have hA0 := hA
    obtain ⟨w, h1, h2, h3⟩ := hA
    obtain ⟨v, m1, m2, m3, m4, m5, m6, m7, m8, m9, m10⟩ := hM
    obtain ⟨vt, ht⟩ := hT.cell
    refine jW.iload_n (dx_MB_end 18 (e := (32, .iload_n 2, 1)) rfl) rfl rfl (pc' := 33) rfl ?_
    refine jW.iload_n (dx_MB_end 19 (e := (33, .iload_n 1, 1)) rfl) rfl rfl (pc' := 34) rfl ?_
    refine jW.icmp_ge (dx_MB_end 20 (e := (34, .if_icmp .ge 22, 3)) rfl) 56 (by decide) (pc' := 37) rfl (fun c_34 => ?_) (fun c_34 => ?_)
    · exact absurd ((nI_leI (by omega) (by omega)).mp c_34) (by omega)
    · refine jW.aload_n (dx_MB_end 21 (e := (37, .aload_n 0, 1)) rfl) rfl rfl (pc' := 38) rfl ?_
      refine jW.getf F f_MB_end_38 (by assumption) (by assumption) (pc' := 41) rfl ?_
      refine jW.aload_n (dx_MB_end 23 (e := (41, .aload_n 0, 1)) rfl) rfl rfl (pc' := 42) rfl ?_
      refine jW.getf F f_MB_end_42 (by assumption) (by assumption) (pc' := 45) rfl ?_
      refine jW.iload_n (dx_MB_end 25 (e := (45, .iload_n 2, 1)) rfl) rfl rfl (pc' := 46) rfl ?_
      refine jW.iald (t := 1015) (w := .int (f i)) F (dx_MB_end 26 (e := (46, .iaload, 1)) rfl) (by decide) rfl h1 (vp_in_nI (by omega) (by omega)) (by rw [nI_clamp (by omega)]; exact h2 i (by omega)) (pc' := 47) rfl ?_
      refine jW.callV F (e_Row_add F hI rfl (by decide) rfl hT (by omega) (f i)) (dx_MB_end 27 (e := (47, .invokevirtual 70, 3)) rfl) can_Row_add jw_375 jw_376 (by assumption) rfl jw_377 rfl rfl (Nat.le_of_ble_eq_true rfl) (pc' := 50) rfl (fun r σ1 hr => ?_)
      obtain ⟨rfl, z1, z2, n1, z3, z4, z5, z6⟩ := hr
      refine jW.iinc (v := nI (i + 1)) (dx_MB_end 28 (e := (50, .iinc 2 1, 3)) rfl) rfl (nI_1 i) (by decide) rfl (pc' := 53) rfl ?_
      refine jW.goto (dx_MB_end 29 (e := (53, .goto (-21), 3)) rfl) 32 (by decide) ?_
      refine ih (i + 1) σ1 n1 (xs ++ [f i]) (by omega) (by rw [List.length_append]; show xs.length + 1 + k ≤ _; omega) z1 (hM0.keep z2 (by decide)) (hA0.keep z2 (by decide)) z3 (fun σ' n' y1 y2 y3 y4 y5 y6 => hK σ' n' y1 (z2.trans y2) ?_ (by omega) (by omega) (by omega))
      rw [seg]
      rw [List.append_assoc] at y3
      exact y3
/-- what end() answers and leaves of the tape -/
theorem e_MB_end (F : jOK s0 jcl D cA lw_tbl a0 jty) {σ : jS} {m tp rd tr lb ln re n : Nat} {li fa : Int32} {f : Nat → Int32} {xs : List Int32} (x : Int32) (hI : jI s0.heap.size σ) (hM : MBAt s0.heap.size σ m tp rd tr lb ln re li fa) (hA : ArrI s0.heap.size 1015 σ rd 20 f) (hT : RowAt s0.heap.size 1 1010 σ tp n xs) (hl : xs.length ≤ 3000) : jE l s0 jcl D cA (d + 3) y_MB_end [.ref m, .int x] σ (fun r σ' => ((x < 0 ∨ 20 < x ∨ 3000 < xs.length + x.toNatClampNeg) ∧ r = some (.int (-1)) ∧ σ' = σ) ∨ (∃ N : Nat, x = nI N ∧ N ≤ 20 ∧ xs.length + N ≤ 3000 ∧ r = some (.int (nI (xs.length + N))) ∧ jI s0.heap.size σ' ∧ jK [1, 1010, 1015] σ σ' ∧ ArrI s0.heap.size 1015 σ' rd 20 (fun _ => 0) ∧ ∃ n' : Nat, RowAt s0.heap.size 1 1010 σ' tp n' (xs ++ seg f 0 N) ∧ n ≤ n' ∧ σ'.2.1 + n ≤ σ.2.1 + n' ∧ σ'.2.2 + 2 * n = σ.2.2 + 2 * n')) := by
  have hM0 := hM
  have hA0 := hA
  obtain ⟨w, h1, h2, h3⟩ := hA
  obtain ⟨v, m1, m2, m3, m4, m5, m6, m7, m8, m9, m10⟩ := hM
  obtain ⟨vt, ht⟩ := hT.cell
  refine jE.of (by decide) (by simp [Value.category]) (Nat.le_of_ble_eq_true rfl) rfl ?_
  refine jW.iload_n (dx_MB_end 0 (e := (0, .iload_n 1, 1)) rfl) rfl rfl (pc' := 1) rfl ?_
  refine jW.if_lt (dx_MB_end 1 (e := (1, .ifCond .lt 27, 3)) rfl) 28 (by decide) (pc' := 4) rfl (fun c_1 => ?_) (fun c_1 => ?_)
  · refine jW.iconst (v := -1) (dx_MB_end 14 (e := (28, .iconst (-1), 1)) rfl) (by decide) (pc' := 29) rfl ?_
    refine jW.iret (dx_MB_end 15 (e := (29, .ireturn, 1)) rfl) rfl ?_
    first
      | exact Or.inl ⟨Or.inl c_1, rfl, rfl⟩
      | exact Or.inl ⟨Or.inr (Or.inl c_10), rfl, rfl⟩
      | exact Or.inl ⟨Or.inr (Or.inr (by
          have h9 : ¬ xs.length + N ≤ 3000 := fun q => c_25 ((nI_leI (a := xs.length + N) (b := 3000) (by omega) (by omega)).mpr q)
          rw [nI_clamp (by omega)]
          omega)), rfl, rfl⟩
  · refine jW.iload_n (dx_MB_end 2 (e := (4, .iload_n 1, 1)) rfl) rfl rfl (pc' := 5) rfl ?_
    refine jW.aload_n (dx_MB_end 3 (e := (5, .aload_n 0, 1)) rfl) rfl rfl (pc' := 6) rfl ?_
    refine jW.getf F f_MB_end_6 (by assumption) (by assumption) (pc' := 9) rfl ?_
    refine jW.alen (t := 1015) (i := 20) F (dx_MB_end 5 (e := (9, .arraylength, 1)) rfl) (by decide) h1 rfl (pc' := 10) rfl ?_
    refine jW.icmp_gt (dx_MB_end 6 (e := (10, .if_icmp .gt 18, 3)) rfl) 28 (by decide) (pc' := 13) rfl (fun c_10 => ?_) (fun c_10 => ?_)
    · refine jW.iconst (v := -1) (dx_MB_end 14 (e := (28, .iconst (-1), 1)) rfl) (by decide) (pc' := 29) rfl ?_
      refine jW.iret (dx_MB_end 15 (e := (29, .ireturn, 1)) rfl) rfl ?_
      first
        | exact Or.inl ⟨Or.inl c_1, rfl, rfl⟩
        | exact Or.inl ⟨Or.inr (Or.inl c_10), rfl, rfl⟩
        | exact Or.inl ⟨Or.inr (Or.inr (by
            have h9 : ¬ xs.length + N ≤ 3000 := fun q => c_25 ((nI_leI (a := xs.length + N) (b := 3000) (by omega) (by omega)).mpr q)
            rw [nI_clamp (by omega)]
            omega)), rfl, rfl⟩
    · refine jW.aload_n (dx_MB_end 7 (e := (13, .aload_n 0, 1)) rfl) rfl rfl (pc' := 14) rfl ?_
      refine jW.getf F f_MB_end_14 (by assumption) (by assumption) (pc' := 17) rfl ?_
      refine jW.callV F (e_Row_size F rfl (by decide) rfl hT) (dx_MB_end 9 (e := (17, .invokevirtual 66, 3)) rfl) can_Row_size jw_371 jw_372 (by assumption) rfl jw_373 rfl rfl (Nat.le_of_ble_eq_true rfl) (pc' := 20) rfl (fun r σ1 hr => ?_)
      obtain ⟨rfl, rfl⟩ := hr
      refine jW.iload_n (dx_MB_end 10 (e := (20, .iload_n 1, 1)) rfl) rfl rfl (pc' := 21) rfl ?_
      obtain ⟨N, hN, rfl⟩ := nI_of c_1
      have hN20 : N ≤ 20 := Nat.not_lt.mp (fun q => c_10 ((nI_ltI (a := 20) (by omega) hN).mpr q))
      refine jW.iadd (dx_MB_end 11 (e := (21, .iadd, 1)) rfl) (pc' := 22) rfl ?_
      rw [nI_add]
      refine jW.sipush (v := 3000) (dx_MB_end 12 (e := (22, .sipush 3000, 3)) rfl) (by decide) (pc' := 25) rfl ?_
      refine jW.icmp_le (dx_MB_end 13 (e := (25, .if_icmp .le 5, 3)) rfl) 30 (by decide) (pc' := 28) rfl (fun c_25 => ?_) (fun c_25 => ?_)
      · refine jW.iconst (v := 0) (dx_MB_end 16 (e := (30, .iconst 0, 1)) rfl) (by decide) (pc' := 31) rfl ?_
        refine jW.istore_n (dx_MB_end 17 (e := (31, .istore_n 2, 1)) rfl) rfl (by decide) rfl (pc' := 32) rfl ?_
        have c_25 := (nI_leI (a := xs.length + N) (b := 3000) (by omega) (by omega)).mp c_25
        refine e_end32 F hN20 N 0 _ n xs (by omega) (by omega) hI hM0 hA0 hT (fun σ2 n2 y1 y2 y3 y4 y5 y6 => ?_)
        have hA2 := hA0.keep y2 (by decide)
        have hA3 := hA2
        obtain ⟨w2, p1, p2, p3⟩ := hA3
        have hM2 := hM0.keep y2 (by decide)
        obtain ⟨v', m1', m2', m3', _⟩ := hM2
        refine jW.aload_n (dx_MB_end 30 (e := (56, .aload_n 0, 1)) rfl) rfl rfl (pc' := 57) rfl ?_
        refine jW.getf F f_MB_end_57 (by assumption) (by assumption) (pc' := 60) rfl ?_
        refine jW.iconst (v := 0) (dx_MB_end 32 (e := (60, .iconst 0, 1)) rfl) (by decide) (pc' := 61) rfl ?_
        refine jW.callS F (e_Arrs_fill F (by decide) rfl (by omega) 0 y1 hA2) (dx_MB_end 33 (e := (61, .invokestatic 74, 3)) rfl) can_Arrs_fill jw_389 jw_390 rfl rfl (Nat.le_of_ble_eq_true rfl) (pc' := 64) rfl (fun r σ1 hr => ?_)
        obtain ⟨rfl, u1, u2, u3, u4⟩ := hr
        have hT3 := y3.keep u2 (by decide) (by decide)
        have hM3 := (hM0.keep y2 (by decide)).keep u2 (by decide)
        obtain ⟨v3, q1, q2, q3, _⟩ := hM3
        obtain ⟨vt3, ht3⟩ := hT3.cell
        refine jW.aload_n (dx_MB_end 34 (e := (64, .aload_n 0, 1)) rfl) rfl rfl (pc' := 65) rfl ?_
        refine jW.getf F f_MB_end_65 (by assumption) (by assumption) (pc' := 68) rfl ?_
        refine jW.callV F (e_Row_size F rfl (by decide) rfl hT3) (dx_MB_end 36 (e := (68, .invokevirtual 66, 3)) rfl) can_Row_size jw_371 jw_372 (by assumption) rfl jw_373 rfl rfl (Nat.le_of_ble_eq_true rfl) (pc' := 71) rfl (fun r σ1 hr => ?_)
        obtain ⟨rfl, rfl⟩ := hr
        refine jW.iret (dx_MB_end 37 (e := (71, .ireturn, 1)) rfl) rfl ?_
        exact Or.inr ⟨N, rfl, hN20, c_25, by rw [List.length_append, seg_length], u1, (y2.mono (by simp)).trans (u2.mono (by simp)), u4, n2, hT3, y4, by rw [u3]; exact y5, by rw [u3]; exact y6⟩
      · refine jW.iconst (v := -1) (dx_MB_end 14 (e := (28, .iconst (-1), 1)) rfl) (by decide) (pc' := 29) rfl ?_
        refine jW.iret (dx_MB_end 15 (e := (29, .ireturn, 1)) rfl) rfl ?_
        first
          | exact Or.inl ⟨Or.inl c_1, rfl, rfl⟩
          | exact Or.inl ⟨Or.inr (Or.inl c_10), rfl, rfl⟩
          | exact Or.inl ⟨Or.inr (Or.inr (by
              have h9 : ¬ xs.length + N ≤ 3000 := fun q => c_25 ((nI_leI (a := xs.length + N) (b := 3000) (by omega) (by omega)).mpr q)
              rw [nI_clamp (by omega)]
              omega)), rfl, rfl⟩
end MB2
