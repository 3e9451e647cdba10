/-! an item begins -/
abbrev mlF (v : VS) : Nat := dgC (lx v) (sA v) + 1
abbrev iwF (v : VS) : Nat := itW (lx v) (sA v) (ld v) (mlF v)
abbrev ipF (v : VS) : Nat := min (lp v + iwF v) (lx v).length
/-- the mark that findMark found -/
def MkF (v : VS) : Prop := vi v 54 = mkS (lx v) (sA v) ∧ vn v 55 = mlF v ∧ vi v 56 = dgN (lx v) (sA v) (dgC (lx v) (sA v))
theorem itW_le {xs : List Int32} {i d l : Nat} : d + l ≤ itW xs i d l ∧ itW xs i d l ≤ d + l + 4 ∧ d + l + 1 ≤ itW xs i d l + 1 := by
  unfold itW
  split <;> omega
section QITEM
variable {X : CX} {a0 : Array Value}
theorem q_item67 (F : cF X a0) (hA : TAok X) {c : CS} {t n : Nat} (hC : CB1 c.1 t t n) (hN : ct c.1 ≤ c.2.2) (hc : ct c.1 ≤ 3300) (h64 : vi c.1 64 = nI t) (h12 : t ≤ 12) (ho : vo c.1 t < ct c.1) (h1 : vb c.1 (vo c.1 t) 1 = nI (vo c.1 t)) (h55 : vn c.1 55 = mlF c.1) (hld : ld c.1 ≤ 12100) {N : Int32 → CS → Prop} (hn : ∀ c4, ExC c c4 → ct c4.1 ≤ c4.2.2 → NwC c.1 c4.1 (nI 3) (nI (vo c.1 t)) (nI n) t → N 1 (mvT (vB c4.1 (ct c.1) 11 (nI (iwF c.1))) (ipF c.1), c4.2)) {x1 : Int32} : w_Rd_beginItem_67 X x1 c (ciP N) := by
  unfold w_Rd_beginItem_67
  refine q_Rd_push (k := 3) F hA hN hc h64 h12 hC.2.2.1 rfl (by omega) (fun c4 e1 e2 e3 => ?_)
  rw [h1] at e3
  have hnx := hC.next e3
  have s4 : sA c4.1 = sA c.1 := by unfold sA; rw [hnx.2.2.1, hnx.2.2.2]
  have h55' : vn c4.1 55 = mlF c.1 := by rw [e3.2.2.2.2.2.2.2.2.1 55 (by decide)]; exact h55
  have hw := itW_le (xs := lx c.1) (i := sA c.1) (d := ld c.1) (l := mlF c.1)
  have hdg : dgC (lx c.1) (sA c.1) ≤ 9 := by unfold dgC; exact Nat.min_le_left _ _
  have eiw : iwF c.1 = itW (lx c.1) (sA c.1) (ld c.1) (mlF c.1) := rfl
  have eml : mlF c.1 = dgC (lx c.1) (sA c.1) + 1 := rfl
  have hb : isB c4 (c4.2.1 (ct c.1)) (ct c.1) := ⟨by have := e3.1; omega, rfl⟩
  have hwe : itW (vr c4.1 11) (vn c4.1 52 + vn c4.1 53) (vn c4.1 53) (vn c4.1 55) = iwF c.1 := by
    show itW (lx c4.1) (sA c4.1) (ld c4.1) (vn c4.1 55) = _
    rw [hnx.1, s4, hnx.2.2.2, h55']
  refine q_Line_itemWidth F ⟨ct c.1, hb, fun m3 e5 => ⟨ct c.1, by rw [e5]; exact hb, ?_⟩⟩
  rw [hwe] at e5
  have hv : vb m3.1 (ct c.1) 11 = nI (iwF c.1) := by rw [e5]; exact upd2_here
  rw [hv]
  refine q_Line_moveOn (p := iwF c.1) F rfl (by omega) (ciP.i ?_ rfl)
  have := hn c4 e1 e2 e3
  have l52 : vn m3.1 52 = lp c.1 := by rw [e5]; exact hnx.2.2.1
  have l11 : vr m3.1 11 = lx c.1 := by rw [e5]; exact hnx.1
  have hst : ((vN (vN m3.1 52 (min (vn m3.1 52 + iwF c.1) (vr m3.1 11).length)) 53 (spF (vr m3.1 11) (min (vn m3.1 52 + iwF c.1) (vr m3.1 11).length)), m3.2) : CS) = (mvT (vB c4.1 (ct c.1) 11 (nI (iwF c.1))) (ipF c.1), c4.2) := by
    rw [l52, l11]
    have : lx (vB c4.1 (ct c.1) 11 (nI (iwF c.1))) = lx c.1 := hnx.1
    unfold mvT
    rw [this, e5]
    rfl
  rw [hst]
  exact this
theorem q_item (F : cF X a0) (hA : TAok X) {c3 : CS} {h' n : Nat} (hC : CB1 c3.1 h' h' n) (hN : ct c3.1 ≤ c3.2.2) (hc : ct c3.1 ≤ 3299) (h64 : vi c3.1 64 = nI h') (h12 : h' ≤ 12) (hlt : ∀ j, j ≤ h' → vo c3.1 j < ct c3.1) (h1 : vb c3.1 (vo c3.1 h') 1 = nI (vo c3.1 h')) (hk : vb c3.1 (vo c3.1 h') 0 = nI (kd c3.1 (vo c3.1 h'))) (hk7 : kd c3.1 (vo c3.1 h') ≤ 7) (hmk : MkF c3.1) (hld : ld c3.1 ≤ 12100) {N : Int32 → CS → Prop} (hd : (kd c3.1 (vo c3.1 h') = 2 → 12 ≤ h') → 11 ≤ h' → N 0 c3)
    (hn1 : kd c3.1 (vo c3.1 h') = 2 → h' ≤ 11 → ∀ c4, ExC c3 c4 → ct c4.1 ≤ c4.2.2 → NwC c3.1 c4.1 (nI 3) (nI (vo c3.1 h')) (nI n) h' → N 1 (mvT (vB c4.1 (ct c3.1) 11 (nI (iwF c3.1))) (ipF c3.1), c4.2))
    (hn2 : kd c3.1 (vo c3.1 h') ≠ 2 → h' ≤ 10 → ∀ c4 c5 : CS, ExC c3 c4 → NwC c3.1 c4.1 (nI 2) (nI (vo c3.1 h')) (nI n) h' → ExC c4 c5 → ct c5.1 ≤ c5.2.2 → NwC (vB (vB c4.1 (ct c3.1) 12 (mkS (lx c3.1) (sA c3.1))) (ct c3.1) 3 (dgN (lx c3.1) (sA c3.1) (dgC (lx c3.1) (sA c3.1)))) c5.1 (nI 3) (nI (ct c3.1)) (nI n) (h' + 1) → N 1 (mvT (vB c5.1 (ct c4.1) 11 (nI (iwF c3.1))) (ipF c3.1), c5.2)) : cE X 9 y_Rd_beginItem [.ref (adr X 6)] c3 (ciP N) := by
  refine g_Rd_beginItem F ?_
  unfold w_Rd_beginItem_0
  refine q_Rd_kindAtHand F hC.1 (by omega) (by have := hlt h' (Nat.le_refl _); omega) hk ?_
  unfold w_Rd_beginItem_13 w_Rd_beginItem_27
  rw [h64]
  refine ⟨fun c1 => ⟨fun y => absurd y (by decide), fun _ => ?_⟩, fun c1 => ⟨fun _ => ?_, fun y => absurd rfl y⟩⟩
  · have h2 : kd c3.1 (vo c3.1 h') = 2 := (lit_eqJ (by decide) (by omega)).mp c1
    rw [nI_1, lit_leJ (by decide) (by omega)]
    exact ⟨fun z => ⟨fun y => absurd y (by decide), fun _ => q_item67 F hA hC hN (by omega) h64 h12 (hlt h' (Nat.le_refl _)) h1 hmk.2.1 hld (hn1 h2 (by omega))⟩, fun z => ciP.i (hd (fun _ => by omega) (by omega)) rfl⟩
  · have h2 : ¬ kd c3.1 (vo c3.1 h') = 2 := fun y => c1 ((lit_eqJ (by decide) (by omega)).mpr y)
    rw [show nI h' + 2 = nI (h' + 2) from nI_add h' 2, lit_leJ (by decide) (by omega)]
    refine ⟨fun z => ⟨fun _ => ?_, fun y => absurd rfl y⟩, fun z => ciP.i (hd (fun y => absurd y h2) (by omega)) rfl⟩
    refine q_Rd_push (k := 2) F hA hN (by omega) h64 h12 hC.2.2.1 rfl (by have := hlt h' (Nat.le_refl _); omega) (fun c4 e1 e2 e3 => ?_)
    rw [h1] at e3
    have hb : isB c4 (c4.2.1 (ct c3.1)) (ct c3.1) := ⟨by have := e3.1; omega, rfl⟩
    refine q_Line_markSign F ⟨ct c3.1, hb, fun m3 em3 => q_Line_markNumber F ⟨ct c3.1, by rw [em3]; exact hb, fun m5 em5 => ?_⟩⟩
    have hP := hC.push e3 hlt (by decide) (fun _ => by omega) h12 (fun y => absurd y h2)
    have hnx := hC.next e3
    have i54 : vi c4.1 54 = mkS (lx c3.1) (sA c3.1) := by rw [e3.2.2.2.2.2.2.2.1 54 (by decide) (by decide)]; exact hmk.1
    have i56 : vi c4.1 56 = dgN (lx c3.1) (sA c3.1) (dgC (lx c3.1) (sA c3.1)) := by rw [e3.2.2.2.2.2.2.2.1 56 (by decide) (by decide)]; exact hmk.2.2
    have s4 : sA c4.1 = sA c3.1 := by unfold sA; rw [hnx.2.2.1, hnx.2.2.2]
    have hm5 : m5 = (vB (vB c4.1 (ct c3.1) 12 (mkS (lx c3.1) (sA c3.1))) (ct c3.1) 3 (dgN (lx c3.1) (sA c3.1) (dgC (lx c3.1) (sA c3.1))), c4.2) := by
      rw [em5, em3, ← i54, ← i56]
      rfl
    have hvb : ∀ i k, k ≠ 12 → k ≠ 3 → vb m5.1 i k = vb c4.1 i k := fun i k z1 z2 => by
      rw [hm5]
      show upd2 (upd2 (vb c4.1) _ 12 _) _ 3 _ i k = _
      rw [upd2_off (fun y => z2 y.2), upd2_off (fun y => z1 y.2)]
    have hv5 : vo m5.1 (h' + 1) = ct c3.1 := by rw [hm5]; exact e3.2.2.2.2.2.1
    have hC5 : CB1 m5.1 (h' + 1) (h' + 1) n := hP.1.sh ⟨by rw [hm5]; rfl, fun i => by unfold kd; rw [hvb i 0 (by decide) (by decide)], by rw [hm5]; rfl, by rw [hm5]; rfl, fun k _ => by rw [hm5]; rfl⟩
    have hml : mlF m5.1 = mlF c3.1 := by
      rw [hm5]
      show dgC (lx c4.1) (sA c4.1) + 1 = _
      rw [hnx.1, s4]
    have hiw : iwF m5.1 = iwF c3.1 := by
      rw [hm5]
      show itW (lx c4.1) (sA c4.1) (ld c4.1) (dgC (lx c4.1) (sA c4.1) + 1) = _
      rw [hnx.1, s4, hnx.2.2.2]
    have hip : ipF m5.1 = ipF c3.1 := by
      unfold ipF
      rw [hiw, hm5]
      show min (lp c4.1 + _) (lx c4.1).length = _
      rw [hnx.1, hnx.2.2.1]
    refine q_item67 F hA hC5 (by rw [hm5]; exact e2) (by rw [hm5]; show ct c4.1 ≤ _; rw [e3.1]; omega) (by rw [hm5]; exact e3.2.2.2.1) (by omega) ?_ ?_ ?_ ?_ (fun c5 f1 f2 f3 => ?_)
    · rw [hv5, hm5]
      show _ < ct c4.1
      rw [e3.1]
      omega
    · rw [hv5, hvb _ 1 (by decide) (by decide), e3.2.2.1]
      rfl
    · rw [hml, hm5]
      show vn c4.1 55 = _
      rw [e3.2.2.2.2.2.2.2.2.1 55 (by decide)]
      exact hmk.2.1
    · rw [hm5]
      show ld c4.1 ≤ _
      rw [hnx.2.2.2]
      exact hld
    · have f1' : ExC c4 c5 := by
        have : m5.2 = c4.2 := by rw [hm5]
        unfold ExC at f1 ⊢
        rw [this] at f1
        exact f1
      rw [hv5] at f3
      have hc4 : ct m5.1 = ct c4.1 := by rw [hm5]; rfl
      rw [hiw, hip, hc4]
      rw [hm5] at f3
      exact hn2 h2 (by omega) c4 c5 e1 e3 f1' f2 f3
end QITEM
