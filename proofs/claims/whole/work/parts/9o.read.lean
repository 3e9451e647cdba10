/-! read: where it begins -/
/-- the tape copied, up to k -/
def cp8 (m : MS) (k : Nat) : MS := (m.1, fun q i => if q = 8 ∧ i < k then (m.2 1 i) &&& 255 else m.2 q i)
theorem cp8_0 (m : MS) : cp8 m 0 = m := by
  obtain ⟨a, b⟩ := m
  unfold cp8
  simp only [Prod.mk.injEq, true_and]
  funext q i
  rw [if_neg (fun z => absurd z.2 (Nat.not_lt_zero _))]
theorem cp8_s (m : MS) (k : Nat) : mA (cp8 m k) 8 k (((cp8 m k).2 1 k) &&& 255) = cp8 m (k + 1) := by
  have h1 : (cp8 m k).2 1 k = m.2 1 k := by
    show (if 1 = 8 ∧ k < k then (m.2 1 k) &&& 255 else m.2 1 k) = _
    rw [if_neg (fun z => absurd z.1 (by decide))]
  rw [h1]
  show (((m.1, fun j q => if j = 8 ∧ q = k then (m.2 1 k) &&& 255 else (cp8 m k).2 j q)) : MS) = _
  unfold cp8
  simp only [Prod.mk.injEq, true_and]
  funext q i
  by_cases e : q = 8 ∧ i = k
  · rw [if_pos e, if_pos ⟨e.1, by omega⟩, e.2]
  · rw [if_neg e]
    by_cases e2 : q = 8 ∧ i < k
    · rw [if_pos e2, if_pos ⟨e2.1, by omega⟩]
    · rw [if_neg e2, if_neg (fun z => by omega)]
/-- before the blocks are read; where the first line begins -/
def rd3 (m : MS) (k : Nat) : MS := mI (mI (mI (cp8 (mI (mI m 0 0) 11 (m.1 3)) k) 10 0) 5 (-1)) 4 0
def rdS (m : MS) : MS := mI (mI (mA (mI (mA (mA (mA (mA (mA (mA (mA (mA (mA (mA (mI (mI (mI (mI m 28 0) 30 0) 32 (-1)) 40 0) 13 0 0) 14 0 (-1)) 15 0 0) 16 0 0) 17 0 0) 25 0 0) 19 0 0) 21 0 0) 26 0 (0 &&& 1)) 27 0 (0 &&& 1)) 28 1) 29 0 0) 30 1) 6 0
/-- what follows readBlocks -/
def rdP (Y : MX) (Φ : Option Value → MS → Prop) : Option Value → MS → Prop := vP fun m4 => ((m4.1 5 = -1 → mE Y 0 y_Mo_countAgain [.ref (mo Y)] (mI (mI m4 0 0) 4 1) (vP fun m3 => Φ (some (.int (m3.1 39))) m3)) ∧ (¬ m4.1 5 = -1 → Φ (some (.int 0)) (mI (mI m4 0 1) 40 0)))
section READ
variable {X : CX} {Y : MX} {a0 a1 : Array Value} {c : CS} {m : MS}
theorem mE_readBlocks (G : mF Y a1) {Φ : Option Value → MS → Prop} (h : ∀ d, Z114 Y d Φ 0 (rdS m)) : mE Y 11 y_Mo_readBlocks [.ref (mo Y)] m Φ := by
  intro d σ hV
  refine jE.of (by decide) (by simp [Value.category]) (Nat.le_of_ble_eq_true rfl) rfl ?_
  refine t_Mo_readBlocks_0 (K114 := fun y m' => y = 0 ∧ m' = rdS m) G hV ?_ (fun y1 m' σ' hV' hK => ?_)
  · unfold w_Mo_readBlocks_0
    have h0 : vp_in (0 : Int32) 3300 := by
      show vp_in (nI 0) 3300
      rw [vp_nI (by decide)]
      decide
    have h1 : vp_in (0 : Int32) 40 := by
      show vp_in (nI 0) 40
      rw [vp_nI (by decide)]
      decide
    intro m1 e1 m2 e2 m3 e3 m4 e4
    refine ⟨h0, fun m5 e5 => ⟨h0, fun m6 e6 => ⟨h0, fun m7 e7 => ⟨h0, fun m8 e8 => ⟨h0, fun m9 e9 => ⟨h0, fun m10 e10 => ⟨h0, fun m11 e11 => ⟨h0, fun m12 e12 => ⟨h0, fun m13 e13 => ⟨h0, fun m14 e14 m15 e15 => ⟨h1, fun m16 e16 m17 e17 m18 e18 => ⟨rfl, ?_⟩⟩⟩⟩⟩⟩⟩⟩⟩⟩⟩⟩
    rw [e18, e17, e16, e15, e14, e13, e12, e11, e10, e9, e8, e7, e6, e5, e4, e3, e2, e1]
    rfl
  · obtain ⟨rfl, rfl⟩ := hK
    exact h d σ' hV'
theorem d_read (G : mF Y a1) {k : Nat} (h3 : m.1 3 = nI k) (hk : k ≤ 3000) {Φ : Option Value → MS → Prop} (h : ∀ d, Z114 Y d (rdP Y Φ) 0 (rdS (rd3 m k))) : mE Y 12 y_Mo_read [.ref (mo Y)] m Φ := by
  refine g_Mo_read (I15 := fun j x1 m' => ∃ i, x1 = nI i ∧ j + i = k ∧ m' = cp8 (mI (mI m 0 0) 11 (m.1 3)) i) G ?_ ?_
  · intro m1 e1 m2 e2
    have f3 : m1.1 3 = m.1 3 := by rw [e1]; rfl
    rw [e2, f3, e1]
    exact ⟨k, 0, rfl, rfl, (cp8_0 _).symm⟩
  · rintro j x1 m' ⟨i, rfl, hj, hm'⟩
    have f3 : m'.1 3 = nI k := by rw [hm']; exact h3
    unfold w_Mo_read_15 w_Mo_read_78
    rw [f3, nI_leI (by omega) (by omega), vp_nI (by omega), nI_clamp (by omega)]
    refine ⟨fun z m1 e1 m2 e2 m3 e3 => ?_, fun z => ⟨by omega, by omega, fun m5 e5 => ?_⟩⟩
    · have ei : i = k := by omega
      have e : m3 = rd3 m k := by rw [e3, e2, e1, hm', ei]; rfl
      rw [e]
      refine (mE_readBlocks G h).mono (fun r m4 hq => ⟨hq.1, fun q => ?_, fun q => ?_⟩)
      · intro n1 f1
        have g0 : n1.1 0 = 0 := by rw [f1]; exact mI_at _ _ _
        rw [g0]
        refine ⟨fun _ n2 f2 => ?_, fun w => absurd (by decide) w⟩
        rw [f2, f1]
        exact hq.2.1 q
      · intro n1 f1
        have g0 : n1.1 0 = 1 := by rw [f1]; exact mI_at _ _ _
        rw [g0]
        refine ⟨fun w => absurd w (by decide), fun _ n2 f2 => ?_⟩
        rw [f2, f1]
        exact hq.2.2 q
    · rw [nI_1]
      refine ⟨j - 1, by omega, i + 1, rfl, by omega, ?_⟩
      rw [e5, hm', cp8_s]
/-- there is a state of the machine in which the model stands so -/
theorem wit_read (G : mF Y a1) {k : Nat} (h3 : m.1 3 = nI k) (hk : k ≤ 3000) (hσ : ∃ σ, MV Y m σ) : ∃ σ, MV Y (rdS (rd3 m k)) σ := by
  apply Classical.byContradiction
  intro hn
  obtain ⟨σ, hV⟩ := hσ
  have := d_read (Φ := fun _ _ => False) G h3 hk (fun d σ' hV' => absurd ⟨σ', hV'⟩ hn)
  obtain ⟨r, σ', _, _, m', _, hf⟩ := this 0 σ hV
  exact hf
/-- the class, before its first line -/
def stV (v : VS) : VS := vI (vI (vN (vBs (vN (vI (vI (vR (vR (vR (vN v 23 0) 10 []) 12 []) 13 []) 6 0) 7 (-1)) 51 0) (fun i f => if i = 0 then begG 0 (nI 0) (-1) 0 (nI 0) f else vb v i f)) 23 1) 64 0) 65 0
theorem q_forget (F : cF X a0) {N : CS → Prop} (h : N (vN (vI (vI (vR (vR (vR (vN c.1 23 0) 10 []) 12 []) 13 []) 6 0) 7 (-1)) 51 0, c.2)) : cE X 2 y_MB_forget [.ref (adr X 0)] c (cvP N) := by
  refine g_MB_forget F ?_
  unfold w_MB_forget_0
  refine q_Tree_clear F (g_Lab_clear F ?_)
  unfold w_Lab_clear_0
  refine q_Row_cut12 F (q_Row_cut13 F ?_)
  rw [rowCut0, rowCut0]
  refine ⟨rfl, fun m3 e3 m4 e4 => ?_⟩
  rw [e4, e3]
  exact q_Line_rewind F ⟨rfl, h⟩
theorem q_start (F : cF X a0) (hA : TAok X) (h23 : vn c.1 23 = 0) (h10 : vr c.1 10 = []) {N : CS → Prop} (h : ∀ c', ExC c c' → 1 ≤ c'.2.2 → c'.1 = vI (vI (vN (vBs c.1 (fun i f => if i = 0 then begG 0 (nI 0) (-1) 0 (nI 0) f else vb c.1 i f)) 23 1) 64 0) 65 0 → N c') : cE X 8 y_Rd_start [.ref (adr X 6)] c (cvP N) := by
  refine g_Rd_start F ?_
  unfold w_Rd_start_0
  refine hA c 0 (-1) 0 _ (by show vn c.1 23 ≤ _; omega) (by show vn c.1 23 ≤ _; omega) (fun c' e1 e2 e3 m2 f2 m3 f3 => ⟨rfl, ?_⟩)
  have hct : ct c.1 = 0 := h23
  have htx : tx c.1 = [] := h10
  rw [hct] at e2 e3
  rw [htx] at e3
  rw [f3, f2]
  refine h _ e1 (by exact e2) ?_
  show vI (vI c'.1 64 0) 65 0 = _
  rw [e3]
  rfl
/-- the first relation -/
theorem R_first (hm : NmC m) {v : VS} (h0 : vo v 0 = 0) (k : Nat) : ROu (rdS (rd3 m k)) (stV v) (rdS (rd3 m k)) (fun _ => 0) 0 1 1 0 [] 0 := by
  have hkd : kd (stV v) 0 = 0 := rfl
  have hct : ct (stV v) = 1 := rfl
  have htx : tx (stV v) = [] := rfl
  refine ⟨⟨rfl, Or.inr ⟨⟨⟨Nat.le_refl 1, by decide, rfl, rfl, fun i j z1 z2 => ?_, fun i hi => Nat.zero_lt_one, fun j hj => ?_⟩, fun i hi => ?_, ⟨by decide, h0, rfl, by decide, fun k hk => ?_, fun k hk => ?_, fun k hk => absurd hk (Nat.not_lt_zero _), fun k hk w w1 w2 => ?_⟩, ⟨Nat.zero_le _, rfl, Nat.le_refl 0, ⟨rfl, fun k hk => absurd hk (Nat.not_lt_zero _)⟩, rfl, rfl, Nat.zero_le _, Nat.zero_le _, Nat.zero_le _, Nat.zero_le _, hm⟩, fun i hi => ?_⟩, Or.inl ⟨?_, rfl⟩⟩⟩, fun z => ?_, rfl, ⟨fun _ _ => rfl, fun _ _ _ => rfl⟩, rfl⟩
  · rw [hct] at z2; omega
  · left
    have : j = 0 := by omega
    rw [this]
    refine ⟨?_, 0, Nat.zero_lt_one, rfl⟩
    show ((0 : Int32) &&& 1) = 0
    decide
  · rw [hct] at hi
    have e : i = 0 := by omega
    subst e
    refine ⟨⟨⟨rfl, by rw [hkd]; decide, by rw [hkd]⟩, rfl, rfl, fun _ => ⟨rfl, rfl⟩, fun z => absurd z (by decide), rfl, ⟨rfl, by show ((0 : Int32) &&& 1) = 0; decide⟩, ⟨0, 0, by decide, by decide, rfl, rfl, rfl, rfl⟩, fun z => absurd (hkd.symm.trans z) (by decide), fun _ => rfl, fun z => absurd hkd z, rfl, fun _ _ => rfl, fun _ _ => rfl⟩, ⟨fun z => absurd (hkd.symm.trans z) (by decide), fun _ => rfl⟩, ?_⟩
    rfl
  · have : k = 0 := by omega
    rw [this]
    show vo v 0 < 1
    rw [h0]
    decide
  · have : k = 0 := by omega
    rw [this]
    rfl
  · rw [hct] at w2
    have : vo (stV v) k < w := w1
    omega
  · rw [hct] at hi
    have e : i = 0 := by omega
    subst e
    exact ⟨fun z => by rw [hkd] at z; omega, fun _ => rfl⟩
  · show kd (stV v) (vo v 0) ≤ 3
    rw [h0, hkd]
    decide
  · have hz : kd (stV v) (vo v 0) = 7 := z
    rw [h0, hkd] at hz
    omega
end READ
