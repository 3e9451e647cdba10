/-! MarkBlocks.read against the model's read -/
section PREAD
variable {X : CX} {Y : MX} {a0 a1 : Array Value} {c : CS} {m : MS} {k n : Nat}
theorem TpI_read (h : TPR c.1 m) (hk : k = (vr c.1 1).length) : TpI (rdS (rd3 m k)) (vr c.1 1) := by
  obtain ⟨h1, h2, h3, _⟩ := h
  refine ⟨h1, fun j hj => ?_, h2⟩
  rw [← h3 j hj]
  have key : ∀ q, q = 8 → (rdS (rd3 m k)).2 q j = if q = 8 ∧ j < k then m.2 1 j &&& 255 else m.2 q j := by
    intro q hq
    unfold rdS rd3
    show (mA _ 29 0 0).2 q j = _
    rw [mA_ne (by omega)]
    show (mA _ 27 0 _).2 q j = _
    rw [mA_ne (by omega), mA_ne (by omega), mA_ne (by omega), mA_ne (by omega), mA_ne (by omega), mA_ne (by omega), mA_ne (by omega), mA_ne (by omega), mA_ne (by omega), mA_ne (by omega)]
    rfl
  rw [key 8 rfl]
  exact if_pos ⟨rfl, by rw [hk]; exact hj⟩
theorem RdI_first (hm : NmC m) {c' : CS} (h0 : vo c.1 0 = 0) (hl : (vr c.1 1).length ≤ 3000) (e : c'.1 = stV c.1) (hc : 1 ≤ c'.2.2) : RdI Y (rdS (rd3 m k)) (fun m' => m' = rdS (rd3 m k)) c' 0 := by
  have hkd : kd (stV c.1) (vo (stV c.1) 0) = 0 := by
    have : vo (stV c.1) 0 = 0 := h0
    rw [this]; rfl
  refine ⟨by rw [e]; exact hc, fun _ => 0, 0, 1, 1, [], ?_, fun d Φ hΦ m1 hm1 => ?_⟩
  · rw [e]
    refine ⟨by decide, fun _ => by decide, fun k hk => absurd hk (Nat.not_lt_zero _), fun z => absurd (hkd.symm.trans z) (by decide), Nat.zero_le _, Nat.zero_le _, hl, Nat.le_refl 1, Nat.zero_le _, Nat.zero_le _⟩
  · rw [hm1]
    have := hΦ (rdS (rd3 m k)) 0 (by rw [e]; exact R_first hm h0 k)
    rw [e] at this
    have e0 : vn (stV c.1) 51 = 0 := rfl
    rw [e0, Nat.zero_min] at this
    exact this
def BRd (Y : MX) (ms : MS) (c : CS) (j : Nat) (x1 : Int32) (c' : CS) : Prop := ∃ n, x1 = nI n ∧ j + n = 3001 ∧ RdI Y ms (fun m' => m' = ms) c' n ∧ vr c'.1 1 = vr c.1 1 ∧ vi c'.1 6 = nI n ∧ vi c'.1 7 = -1 ∧ vy c'.1 = vy c.1 ∧ vo c'.1 0 = 0
theorem RdI.le {ms : MS} {S : MS → Prop} (h : RdI Y ms S c n) : n ≤ vn c.1 51 ∧ vn c.1 51 ≤ (vr c.1 1).length + 1 ∧ (vr c.1 1).length ≤ 3000 := by
  obtain ⟨_, _, _, _, _, _, ⟨_, _, _, _, k5, k6, k7, _⟩, _⟩ := h
  exact ⟨k5, k6, k7⟩
def RdQ (Y : MX) (m : MS) (r : Option Value) (c7 : CS) : Prop := (∃ x, r = some (.int x) ∧ mE Y 12 y_Mo_read [.ref (mo Y)] m (iP fun r' m' => r' = x ∧ m'.1 0 = 0 ∧ REL c7 m')) ∨ (r = none ∧ mE Y 12 y_Mo_read [.ref (mo Y)] m (iP fun r' m' => r' = 0 ∧ m'.1 0 = 1 ∧ REL c7 m'))
theorem p_read (F : cF X a0) (G : mF Y a1) (HT : THs X a0) (hBN : BNok X) (hTA : TAok X) (hσ : ∃ σ, MV Y m σ) (h : REL c m) : cR X 12 y_MB_read [.ref (adr X 0)] c (RdQ Y m) := by
  have hrel := h
  obtain ⟨ht, ⟨hnm, hvo⟩, _⟩ := h
  have hl : (vr c.1 1).length ≤ 3000 := ht.2.1
  obtain ⟨σw, hw⟩ := wit_read G (k := (vr c.1 1).length) ht.1 hl hσ
  have hw' : ∃ m' σ, m' = rdS (rd3 m (vr c.1 1).length) ∧ MV Y m' σ := ⟨_, σw, rfl, hw⟩
  have hTp := TpI_read ht (k := (vr c.1 1).length) rfl
  refine g_MB_read (I13 := fun j x1 c' => BRd Y (rdS (rd3 m (vr c.1 1).length)) c j x1 c') F HT ?_ ?_
  · unfold w_MB_read_0
    refine q_forget F ?_
    refine q_start F hTA rfl rfl (fun c' e1 e2 e3 => ?_)
    have hs : c'.1 = stV c.1 := e3
    exact ⟨3001, 0, rfl, rfl, RdI_first hnm hvo hl hs e2, by rw [hs]; rfl, by rw [hs]; rfl, by rw [hs]; rfl, by rw [hs]; rfl, by rw [hs]; exact hvo⟩
  · rintro j x1 c' ⟨n, rfl, hj, hI, g1, g6, g7, gy, g0⟩
    have hTp' : TpI (rdS (rd3 m (vr c.1 1).length)) (vr c'.1 1) := by rw [g1]; exact hTp
    obtain ⟨l1, l2, l3⟩ := hI.le
    have h3000 : (3000 : Int32) ≤ nI n ↔ 3000 ≤ n := nI_leI (a := 3000) (by decide) (by omega)
    have hend : (vr c'.1 1).length ≤ vn c'.1 51 → w_MB_read_91 X (nI n) c' (RdQ Y m) := by
      intro hta
      unfold w_MB_read_91
      refine p_end F G hBN hw' hTp' hI hta (fun c7 f1 f2 f3 f4 => q_Tree_size F (Or.inl ⟨_, rfl, ?_⟩))
      obtain ⟨q1, q6, q7, qy, q0⟩ := f3
      exact a_readOK G hrel rfl f4 f2 (q0.trans g0) (q1.trans g1) (qy.trans gy) (q6.trans g6) (q7.trans g7)
    unfold w_MB_read_13
    refine ⟨fun z => hend ?_, fun z => ?_⟩
    · have := h3000.mp z
      omega
    · have hn : n < 3000 := Nat.not_le.mp (fun q => z (h3000.mpr q))
      refine p_step F G hBN hTA hw' hTp' hI (N0 := fun c1 => w_MB_read_91 X (nI n) c1 (RdQ Y m)) hend (fun c5 f1 f2 f3 => ?_) (fun c5 f1 f2 f3 f4 f5 => ?_)
      · rintro m5 rfl
        obtain ⟨q1, q6, q7, qy, q0⟩ := f2
        rw [nI_1]
        exact ⟨3001 - (n + 1), by omega, n + 1, rfl, by omega, f3.lines _, q1.trans g1, rfl, q7.trans g7, qy.trans gy, q0.trans g0⟩
      · refine q_forget F ?_
        rintro m7 rfl
        obtain ⟨q1, q6, q7, qy, q0⟩ := f3
        exact Or.inr ⟨rfl, a_readD G hrel rfl (by omega) f5 rfl (q0.trans g0) (q1.trans g1) (qy.trans gy) ⟨rfl, rfl⟩ rfl rfl⟩
end PREAD
