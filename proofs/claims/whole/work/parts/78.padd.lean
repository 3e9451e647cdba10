/-! a line in the leaf at the tip: the relation -/
/-- a line has no white but the space -/
def LnW (xs : List Int32) : Prop := ∀ k, k < xs.length → wh (tA xs k) ∨ tA xs k = 10 → tA xs k = 32
/-- there is room for the line's text -/
def TB (v : VS) : Prop := (tx v).length + (lx v).length + 1 ≤ 12010 ∧ nsP (tx v) (tx v).length + (lx v).countP nsB ≤ 3000
theorem tA_sl {T : List Int32} {a b k : Nat} (hb : b ≤ T.length) (hk : a + k < b) (h31 : b < 2 ^ 31) : tA (sl T a b) k = tA T (a + k) := by
  show rowAt _ _ = rowAt _ _
  rw [rowAt_nI (by omega), rowAt_nI (by omega)]
  unfold sl
  rw [List.getD_eq_getElem?_getD, List.getD_eq_getElem?_getD, List.getElem?_drop, List.getElem?_take]
  rw [if_pos hk]
theorem sl_count {T : List Int32} {a b : Nat} (p : Int32 → Bool) : (sl T a b).countP p ≤ T.countP p := by
  unfold sl
  exact List.Sublist.countP_le ((List.drop_sublist _ _).trans (List.take_sublist _ _))
theorem bfC_all (xs : List Int32) (f : Nat) (x : Int32) : ∀ n q, bfC xs f x n ≤ q → q < n → tA xs q = x := by
  intro n
  induction n with
  | zero => intro q _ h; omega
  | succ n ih =>
    intro q h1 h2
    by_cases c : f ≤ n ∧ rowAt xs (nI n) = x
    · rw [bfC, if_pos c] at h1
      by_cases e : q = n
      · rw [e]; exact c.2
      · exact ih q h1 (by omega)
    · rw [bfC, if_neg c] at h1
      omega
/-- the last sign of a line that is no space -/
theorem last_ns {xs : List Int32} {s : Nat} (hs : s < xs.length) (hl : xs.length ≤ 12100) (hn : tA xs s ≠ 32) : ∃ p, s ≤ p ∧ p < xs.length ∧ tA xs p ≠ 32 ∧ ∀ q, p < q → q < xs.length → tA xs q = 32 := by
  have h1 := bfC_le xs s 32 xs.length
  have h2 := bfC_ge xs s 32 xs.length (by omega)
  have h4 := bfC_all xs s 32 xs.length
  have h5 : s < bfC xs s 32 xs.length := by
    apply Decidable.byContradiction
    intro z
    exact hn (h4 s (by omega) hs)
  exact ⟨bfC xs s 32 xs.length - 1, by omega, by omega, bfC_stop xs s 32 _ h5, fun q q1 q2 => h4 q (by omega) q2⟩
theorem run_all {p : Int32 → Bool} {xs : List Int32} (hl : xs.length ≤ 20000) : ∀ n i, n < runFrom p xs i → p (tA xs (i + n)) = true := by
  intro n
  induction n with
  | zero =>
    intro i h
    have hi : i < xs.length := by
      apply Decidable.byContradiction
      intro z
      rw [runFrom_end (by omega)] at h
      omega
    apply Decidable.byContradiction
    intro z
    rw [runFrom_n hi (by omega) (by simpa using z)] at h
    omega
  | succ n ih =>
    intro i h
    have hi : i < xs.length := by
      apply Decidable.byContradiction
      intro z
      rw [runFrom_end (by omega)] at h
      omega
    by_cases q : p (rowAt xs (nI i)) = true
    · rw [runFrom_y hi (by omega) q] at h
      have := ih (i + 1) (by omega)
      rw [show i + 1 + n = i + (n + 1) by omega] at this
      exact this
    · rw [runFrom_n hi (by omega) (by simpa using q)] at h
      omega
theorem run_idle {p : Int32 → Bool} {xs : List Int32} (hl : xs.length ≤ 20000) : ∀ n i, xs.length ≤ i + n → runFrom p xs (i + runFrom p xs i) = 0 := by
  intro n
  induction n with
  | zero =>
    intro i h
    exact runFrom_end (by omega)
  | succ n ih =>
    intro i h
    by_cases e : xs.length ≤ i
    · exact runFrom_end (by omega)
    · by_cases q : p (rowAt xs (nI i)) = true
      · rw [runFrom_y (by omega) (by omega) q, show i + (runFrom p xs (i + 1) + 1) = i + 1 + runFrom p xs (i + 1) by omega]
        exact ih (i + 1) (by omega)
      · have h0 : runFrom p xs i = 0 := runFrom_n (by omega) (by omega) (by simpa using q)
        rw [h0, Nat.add_zero, h0]
theorem start_ns {v : VS} (hL : ld v = spF (lx v) (lp v)) (hl : (lx v).length ≤ 12100) (hb : ¬ (lx v).length ≤ lp v + ld v) : tA (lx v) (lp v + ld v) ≠ 32 := by
  intro e
  have h1 := runFrom_y (xs := lx v) (p := fun z => z == 32) (i := lp v + ld v) (by omega) (by omega) (by rw [show rowAt (lx v) (nI (lp v + ld v)) = 32 from e]; rfl)
  have h2 := run_idle (xs := lx v) (p := fun z => z == 32) (by omega) (lx v).length (lp v) (by omega)
  have h3 : runFrom (fun z => z == 32) (lx v) (lp v) = ld v := hL.symm
  rw [h3, h1] at h2
  omega
/-- a paragraph's line -/
theorem RL_para {v v' : VS} {m m' : MS} {μ : Nat → Nat} {t o B E n f : Nat} {D : DL} {P : Prop} (hR : RL v m μ t o B E D) (h4 : kd v (vo v t) = 4) (hf : vb v (vo v t) 5 = nI f) (hf2 : f ≤ (tx v).length) (hL : LR v m) (hW : LnW (lx v)) (hT : TB v) (hn : n ≤ 3001) (hb : ¬ (lx v).length ≤ lp v + ld v) (hv : v' = vB (vB (vR v 10 (tx v ++ paO v (vo v t))) (vo v t) 6 (nI ((tx v ++ paO v (vo v t)).length - f))) (vo v t) 10 (nI n)) (hP : P) (hm : AdR m m' ((tx v).length + E) (μ (vo v t)) n (paO v (vo v t)) P) : RL v' m' μ t o B E D ∧ tx v' = tx v ++ paO v (vo v t) := by
  have hlx := hL.1.2.2
  have rF := hR.2.2.2.2.2.2.1
  have rT := hR.2.2.2.1.1
  obtain ⟨l1, l2, f', l3, l4, l5, l6, l7, l8, l9, l10, l11, l12⟩ := rF
  have hff : f' = f := (nI_eq (by omega) (by omega)).mp (l3.symm.trans hf)
  subst hff
  have hs := start_ns hL.2.2.2 (by omega) hb
  obtain ⟨p, p1, p2, p3, p4⟩ := last_ns (xs := lx v) (s := lp v + ld v) (by omega) (by omega) hs
  have htx : tx v' = tx v ++ paO v (vo v t) := by rw [hv]; exact vr_at v 10 _
  generalize ho : (if vb v (vo v t) 6 ≤ 0 then [] else [10] : List Int32) = o0 at *
  have ho0 : o0.length ≤ 1 ∧ o0.countP nsB = 0 := by
    rw [← ho]
    split
    · exact ⟨by decide, rfl⟩
    · exact ⟨by decide, by decide⟩
  have hpa : paO v (vo v t) = o0 ++ sl (lx v) (lp v + ld v) (lx v).length := by unfold paO; rw [ho]
  have hlen : (paO v (vo v t)).length = o0.length + ((lx v).length - (lp v + ld v)) := by rw [hpa, List.length_append, sl_len (Nat.le_refl _)]
  have hcnt : (paO v (vo v t)).countP nsB ≤ (lx v).countP nsB := by
    rw [hpa, List.countP_append, ho0.2, Nat.zero_add]
    exact sl_count _
  have hlt : (tx v').length = (tx v).length + (paO v (vo v t)).length := by rw [htx, List.length_append]
  have hvb : ∀ j k, ¬ (j = vo v t ∧ (k = 6 ∨ k = 10)) → vb v' j k = vb v j k := fun j k z => by
    rw [hv]
    show upd2 (upd2 (vb v) _ 6 _) _ 10 _ j k = _
    rw [upd2_off (fun y => z ⟨y.1, Or.inr y.2⟩), upd2_off (fun y => z ⟨y.1, Or.inl y.2⟩)]
  have h10 : vb v' (vo v t) 10 = nI n := by rw [hv]; exact upd2_here
  have h6 : vb v' (vo v t) 6 = nI ((tx v').length - f') := by
    rw [htx, hv]
    show upd2 (upd2 (vb v) _ 6 _) _ 10 _ _ 6 = _
    rw [upd2_off (fun y => by omega), upd2_here]
  have htA : ∀ j, lp v + ld v + j < (lx v).length → tA (tx v') ((tx v).length + o0.length + j) = tA (lx v) (lp v + ld v + j) := by
    intro j hj
    rw [htx, hpa, ← List.append_assoc]
    have := tA_right (a := tx v ++ o0) (b := sl (lx v) (lp v + ld v) (lx v).length) (k := j) (by rw [List.length_append]; omega)
    rw [List.length_append] at this
    rw [this, tA_sl (Nat.le_refl _) hj (by omega)]
  obtain ⟨a1, a2, a3, a4, a5⟩ := hm
  refine ⟨RL_text (f := f') (os := paO v (vo v t)) hR l3 l4 ⟨by rw [hv]; rfl, by rw [hv]; rfl, htx, by rw [hv]; rfl, by rw [hv]; rfl, hvb⟩ a2 (by have := hT.1; omega) (by have := hT.2; omega) ⟨n, hn, h10, a4 hP⟩ ?_ (Or.inr (Or.inl ⟨?_, h6, (tx v).length + o0.length + (p - (lp v + ld v)), ?_⟩)), htx⟩
  · rw [a3, l5, pk_sub (by omega)]
    congr 1
    omega
  · unfold kd
    rw [hvb _ 0 (fun z => by omega)]
    exact h4
  · have hp := htA (p - (lp v + ld v)) (by omega)
    rw [show lp v + ld v + (p - (lp v + ld v)) = p by omega] at hp
    refine ⟨by omega, by omega, ?_, fun q q1 q2 => ?_⟩
    · rw [hp]
      intro z
      exact p3 (hW p p2 (Or.inl z))
    · have hq := htA (q - ((tx v).length + o0.length)) (by omega)
      rw [show (tx v).length + o0.length + (q - ((tx v).length + o0.length)) = q by omega] at hq
      rw [hq]
      exact p4 _ (by omega) (by omega)
theorem nI_n0 {n : Nat} (h : n < 2 ^ 31) (h0 : 0 < n) : ¬ nI n = 0 := fun e => by
  have : n = 0 := (nI_eq h (by decide)).mp e
  omega
/-- a line of code -/
theorem RL_code {v v' : VS} {m m' : MS} {μ : Nat → Nat} {t o B E n f : Nat} {D : DL} {P : Prop} (hR : RL v m μ t o B E D) (h7 : kd v (vo v t) = 7) (hf : vb v (vo v t) 5 = nI f) (hf2 : f ≤ (tx v).length) (hL : LR v m) (hW : LnW (lx v)) (hT : TB v) (hn : n ≤ 3001) (hne : vb v (vo v t) 12 = 0 → vb v (vo v t) 6 = 0 → ¬ (lx v).length ≤ lp v + ld v) (hv1 : vb v (vo v t) 12 ≠ 0 ∨ ¬ (lx v).length ≤ lp v + ld v → v' = vB (vB (vR v 10 (tx v ++ cdO v)) (vo v t) 6 (nI ((tx v ++ cdO v).length - f))) (vo v t) 10 (nI n)) (hv2 : ¬ (vb v (vo v t) 12 ≠ 0 ∨ ¬ (lx v).length ≤ lp v + ld v) → v' = vR v 10 (tx v ++ cdO v)) (hP : P ↔ (vb v (vo v t) 12 ≠ 0 ∨ ¬ (lx v).length ≤ lp v + ld v)) (hm : AdR m m' ((tx v).length + E) (μ (vo v t)) n (cdO v) P) : RL v' m' μ t o B E D ∧ tx v' = tx v ++ cdO v ∧ (vb v' (vo v t) 12 = 0 → vb v' (vo v t) 6 ≠ 0) := by
  have hlx := hL.1.2.2
  have hlp := hL.2.2.1
  have hsp := run_in (xs := lx v) (p := fun z => z == 32) hlp
  have hspe : ld v = runFrom (fun z => z == 32) (lx v) (lp v) := hL.2.2.2
  have rF := hR.2.2.2.2.2.2.1
  have rT := hR.2.2.2.1.1
  obtain ⟨l1, l2, f', l3, l4, l5, l6, l7, l8, l9, l10, l11, l12⟩ := rF
  have hff : f' = f := (nI_eq (by omega) (by omega)).mp (l3.symm.trans hf)
  subst hff
  have hlen : (cdO v).length = (lx v).length - lp v + 1 := by rw [List.length_append, sl_len (Nat.le_refl _)]; rfl
  have hcnt : (cdO v).countP nsB ≤ (lx v).countP nsB := by
    rw [List.countP_append]
    show _ + 0 ≤ _
    rw [Nat.add_zero]
    exact sl_count _
  have htx : tx v' = tx v ++ cdO v := by
    by_cases q : vb v (vo v t) 12 ≠ 0 ∨ ¬ (lx v).length ≤ lp v + ld v
    · rw [hv1 q]; exact vr_at v 10 _
    · rw [hv2 q]; exact vr_at v 10 _
  have hlt : (tx v').length = (tx v).length + (cdO v).length := by rw [htx, List.length_append]
  have hG : GrV v v' (vo v t) (cdO v) := by
    by_cases q : vb v (vo v t) 12 ≠ 0 ∨ ¬ (lx v).length ≤ lp v + ld v
    · rw [hv1 q]
      refine ⟨rfl, rfl, vr_at v 10 _, rfl, rfl, fun j k z => ?_⟩
      show upd2 (upd2 (vb v) _ 6 _) _ 10 _ j k = _
      rw [upd2_off (fun y => z ⟨y.1, Or.inr y.2⟩), upd2_off (fun y => z ⟨y.1, Or.inl y.2⟩)]
    · rw [hv2 q]
      exact ⟨rfl, rfl, vr_at v 10 _, rfl, rfl, fun j k z => rfl⟩
  have hvb := hG.2.2.2.2.2
  have htA : ∀ j, lp v + j < (lx v).length → tA (tx v') ((tx v).length + j) = tA (lx v) (lp v + j) := by
    intro j hj
    rw [htx, tA_right (by omega), tA_left (by omega) (by rw [sl_len (Nat.le_refl _)]; omega), tA_sl (Nat.le_refl _) hj (by omega)]
  have htE : tA (tx v') ((tx v).length + ((lx v).length - lp v)) = 10 := by
    rw [htx, tA_right (by omega)]
    have := tA_app2 (o := sl (lx v) (lp v) (lx v).length) (c := 10) (by rw [sl_len (Nat.le_refl _)]; omega)
    rw [sl_len (Nat.le_refl _)] at this
    exact this
  have hTo : ∀ k, k < (tx v).length → tA (tx v') k = tA (tx v) k := fun k hk => by rw [htx]; exact tA_left (by omega) hk
  have hblank : (lx v).length ≤ lp v + ld v → ∀ x, (tx v).length ≤ x → x < (tx v').length → tA (tx v') x = 32 ∨ tA (tx v') x = 10 := by
    intro hb x x1 x2
    by_cases e : x = (tx v).length + ((lx v).length - lp v)
    · rw [e]; exact Or.inr htE
    · left
      have := htA (x - (tx v).length) (by omega)
      rw [show (tx v).length + (x - (tx v).length) = x by omega] at this
      rw [this]
      have := run_all (p := fun z => z == 32) (xs := lx v) (by omega) (x - (tx v).length) (lp v) (by omega)
      simpa using this
  have hlast : tA (tx v') ((tx v').length - 1) = 10 := by
    rw [show (tx v').length - 1 = (tx v).length + ((lx v).length - lp v) by omega]
    exact htE
  have hkd : kd v' (vo v t) = 7 := by
    unfold kd
    rw [hvb _ 0 (fun z => by omega)]
    exact h7
  have h12 : vb v' (vo v t) 12 = vb v (vo v t) 12 := hvb _ 12 (fun z => by omega)
  obtain ⟨a1, a2, a3, a4, a5⟩ := hm
  have hend : LE v' f' (vo v t) ∧ (vb v' (vo v t) 12 = 0 → vb v' (vo v t) 6 ≠ 0) := by
    by_cases q : vb v (vo v t) 12 ≠ 0 ∨ ¬ (lx v).length ≤ lp v + ld v
    · have h6 : vb v' (vo v t) 6 = nI ((tx v').length - f') := by
        rw [htx, hv1 q]
        show upd2 (upd2 (vb v) _ 6 _) _ 10 _ _ 6 = _
        rw [upd2_off (fun y => by omega), upd2_here]
      refine ⟨?_, fun _ => by rw [h6]; exact nI_n0 (by omega) (by omega)⟩
      by_cases z : vb v (vo v t) 12 = 0
      · have hb : ¬ (lx v).length ≤ lp v + ld v := by
          rcases q with y | y
          · exact absurd z y
          · exact y
        have hs := start_ns hL.2.2.2 (by omega) hb
        obtain ⟨p, p1, p2, p3, p4⟩ := last_ns (xs := lx v) (s := lp v + ld v) (by omega) (by omega) hs
        refine Or.inr (Or.inr (Or.inr ⟨hkd, by rw [h12]; exact z, (tx v).length + (p - lp v), (tx v).length + ((lx v).length - lp v), ?_, ?_⟩))
        · have hp := htA (p - lp v) (by omega)
          rw [show lp v + (p - lp v) = p by omega] at hp
          refine ⟨by omega, by omega, by omega, by rw [hp]; exact p3, ?_, fun x x1 x2 => ?_, htE, fun x x1 x2 => by omega, hlast⟩
          · rw [hp]
            intro y
            exact p3 (hW p p2 (Or.inr y))
          · have hx := htA (x - (tx v).length) (by omega)
            rw [show (tx v).length + (x - (tx v).length) = x by omega] at hx
            rw [hx]
            exact p4 _ (by omega) (by omega)
        · rw [h6]
          congr 1
          omega
      · exact Or.inr (Or.inr (Or.inl ⟨hkd, by rw [h12]; exact z, h6⟩))
    · have hz : vb v (vo v t) 12 = 0 := Decidable.byContradiction (fun y => q (Or.inl y))
      have hb : (lx v).length ≤ lp v + ld v := Decidable.byContradiction (fun y => q (Or.inr y))
      have h6 : vb v' (vo v t) 6 = vb v (vo v t) 6 := by rw [hv2 q]; rfl
      rcases l12 with y | y | y | y
      · exact absurd hb (hne hz y.2)
      · omega
      · exact absurd hz y.2.1
      · obtain ⟨_, _, p, q', hc, hq⟩ := y
        obtain ⟨d1, d2, d3, d4, d5, d6, d7, d8, d9⟩ := hc
        refine ⟨Or.inr (Or.inr (Or.inr ⟨hkd, by rw [h12]; exact hz, p, q', ⟨d1, d2, by omega, by rw [hTo p (by omega)]; exact d4, by rw [hTo p (by omega)]; exact d5, fun x x1 x2 => by rw [hTo x (by omega)]; exact d6 x x1 x2, by rw [hTo q' d3]; exact d7, fun x x1 x2 => ?_, hlast⟩, by rw [h6]; exact hq⟩)), fun _ => by rw [h6, hq]; exact nI_n0 (by omega) (by omega)⟩
        by_cases e : x < (tx v).length
        · rw [hTo x e]; exact d8 x x1 e
        · exact hblank hb x (by omega) x2
  refine ⟨RL_text (f := f') (os := cdO v) hR l3 l4 hG a2 (by have := hT.1; omega) (by have := hT.2; omega) ?_ ?_ hend.1, htx, hend.2⟩
  · by_cases q : vb v (vo v t) 12 ≠ 0 ∨ ¬ (lx v).length ≤ lp v + ld v
    · refine ⟨n, hn, ?_, a4 (hP.mpr q)⟩
      rw [hv1 q]
      exact upd2_here
    · have hi := hR.2.2.1.2.2.2.2.1 t (Nat.le_refl _)
      obtain ⟨a, b, q1, q2, q3, q4, q5, q6⟩ := (hR.2.1 _ hi).1.2.2.2.2.2.2.2.1
      refine ⟨b, q2, ?_, ?_⟩
      · rw [hv2 q]
        exact q5
      · rw [a5 (fun y => q (hP.mp y))]
        exact q6
  · rw [a3, l5, pk_sub (by omega)]
    congr 1
    omega
