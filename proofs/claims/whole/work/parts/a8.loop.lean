section LAWL
variable {l : Launch} {s0 : State} {D : va_G} {cA : Nat → ClassId} {a0 : Array Value} {ad : Nat → Nat} {o ou : Nat} {ar : Nat → Nat} {Φ : Option Value → jS → Prop} {b L : Nat} {xs : Nat → Int32}
theorem lw_exit {L i : Nat} (hL : L ≤ 3072) (hi : i ≤ 4000) : (nI L - 6 < nI i) ↔ L < i + 6 := by
  by_cases h : 6 ≤ L
  · rw [show nI L - (6 : Int32) = nI (L - 6) from pk_sub h, nI_ltI (by omega) (by omega)]
    omega
  · have hc : L = 0 ∨ L = 1 ∨ L = 2 ∨ L = 3 ∨ L = 4 ∨ L = 5 := by omega
    have hneg : nI L - 6 < 0 := by rcases hc with e | e | e | e | e | e <;> subst e <;> decide
    have h0 : ¬ nI i < 0 := nI_pos (by omega)
    exact ⟨fun _ => by omega, fun _ => Int32.lt_of_lt_of_le hneg (Int32.not_lt.mp h0)⟩
theorem lw_loop (F : jOK s0 jcl D cA lw_tbl a0 jty) (HX : ∀ σ n z, THs (xB l s0 D cA ad σ n z) a0 ∧ BNok (xB l s0 D cA ad σ n z) ∧ TAok (xB l s0 D cA ad σ n z)) (hT : va_T .int b L (fun j => .int (xs j)) (fun q => s0.heap.size ≤ q) s0 s0.heap) (hL : L ≤ 3072) {NB ZB : Nat} (hend : ∀ σ n z c m, LW l s0 D cA ad o ar ou n z c m σ → n ≤ NB + 3100 → z ≤ ZB + 18600 → Φ (some (.int 1)) σ) : ∀ (k i n z : Nat) (c : CS) (m : MS) (σ : jS) (o5 o6 : Option Value), L < i + k → i ≤ L + 6 → LW l s0 D cA ad o ar ou n z c m σ → REL c m → n ≤ NB + i → z ≤ ZB + 6 * i → jW l s0 jcl D cA 16 y_law 23 [some (.ref b), some (.ref (ad 0)), some (.ref o), some (.ref ou), some (.int (nI i)), o5, o6] [] σ Φ := by
  intro k
  induction k with
  | zero =>
    intro i n z c m σ o5 o6 hk hi h hrel hn hz
    refine jW.iload (dx_law 13 (e := (23, .iload 4, 2)) rfl) rfl (pc' := 25) rfl ?_
    refine jW.aload_n (dx_law 14 (e := (25, .aload_n 0, 1)) rfl) rfl rfl (pc' := 26) rfl ?_
    refine jW.alenO (i := nI L) F (dx_law 15 (e := (26, .arraylength, 1)) rfl) hT rfl (pc' := 27) rfl ?_
    refine jW.bipush (v := 6) (dx_law 16 (e := (27, .bipush 6, 2)) rfl) (by decide) (pc' := 29) rfl ?_
    refine jW.isub (dx_law 17 (e := (29, .isub, 1)) rfl) (pc' := 30) rfl ?_
    refine jW.icmp_gt (dx_law 18 (e := (30, .if_icmp .gt 483, 3)) rfl) 513 (by decide) (pc' := 33) rfl (fun c => ?_) (fun c => absurd ((lw_exit hL (by omega)).mpr (by omega)) c)
    refine jW.iconst (v := 1) (dx_law 303 (e := (513, .iconst 1, 1)) rfl) (by decide) (pc' := 514) rfl ?_
    refine jW.zret (dx_law 304 (e := (514, .ireturn, 1)) rfl) rfl (by decide) ?_
    exact hend _ _ _ _ _ h (by omega) (by omega)
  | succ k ih =>
    intro i n z c m σ o5 o6 hk hi0 h hrel hn hz
    refine jW.iload (dx_law 13 (e := (23, .iload 4, 2)) rfl) rfl (pc' := 25) rfl ?_
    refine jW.aload_n (dx_law 14 (e := (25, .aload_n 0, 1)) rfl) rfl rfl (pc' := 26) rfl ?_
    refine jW.alenO (i := nI L) F (dx_law 15 (e := (26, .arraylength, 1)) rfl) hT rfl (pc' := 27) rfl ?_
    refine jW.bipush (v := 6) (dx_law 16 (e := (27, .bipush 6, 2)) rfl) (by decide) (pc' := 29) rfl ?_
    refine jW.isub (dx_law 17 (e := (29, .isub, 1)) rfl) (pc' := 30) rfl ?_
    refine jW.icmp_gt (dx_law 18 (e := (30, .if_icmp .gt 483, 3)) rfl) 513 (by decide) (pc' := 33) rfl (fun c => ?_) (fun c => ?_)
    · refine jW.iconst (v := 1) (dx_law 303 (e := (513, .iconst 1, 1)) rfl) (by decide) (pc' := 514) rfl ?_
      refine jW.zret (dx_law 304 (e := (514, .ireturn, 1)) rfl) rfl (by decide) ?_
      exact hend _ _ _ _ _ h (by omega) (by omega)
    · have hi : i + 6 ≤ L := Nat.not_lt.mp (fun q => c ((lw_exit hL (by omega)).mpr q))
      have hN : Nxt l s0 D cA ad o ar ou n z b i Φ := by
        intro c' m' σ' n' z' p5 p6 h' hrel' hn' hz'
        refine jW.iinc (v := nI (i + 6)) (dx_law 301 (e := (507, .iinc 4 6, 3)) rfl) rfl (nI_add i 6) (by decide) rfl (pc' := 510) rfl ?_
        refine jW.goto (dx_law 302 (e := (510, .goto (-487), 3)) rfl) 23 (by decide) ?_
        exact ih (i + 6) n' z' c' m' σ' p5 p6 (by omega) (by omega) h' hrel' (by omega) (by omega)
      clear c
      refine jW.aload_n (dx_law 19 (e := (33, .aload_n 0, 1)) rfl) rfl rfl (pc' := 34) rfl ?_
      refine jW.iload (dx_law 20 (e := (34, .iload 4, 2)) rfl) rfl (pc' := 36) rfl ?_
      refine jW.lwx (k := i) F (dx_law 21 (e := (36, .iaload, 1)) rfl) hT (by omega) hL rfl (pc' := 37) rfl ?_
      refine jW.bipush (v := 15) (dx_law 22 (e := (37, .bipush 15, 2)) rfl) (by decide) (pc' := 39) rfl ?_
      refine jW.iand (dx_law 23 (e := (39, .iand, 1)) rfl) (pc' := 40) rfl ?_
      refine jW.sw (lo := 0) (hi := 11) (fun c => ?_) (fun c => ?_)
      · refine jW.tableOut (dx_law 24 (e := (40, .tableswitch 467 0 11 #[64, 135, 160, 171, 215, 228, 265, 330, 343, 380, 429, 442], 64)) rfl) c 507 (by decide) ?_
        exact hN _ _ _ _ _ _ _ h hrel (Nat.le_add_right _ _) (Nat.le_add_right _ _)
      · skip
        refine jW.swc 0 c (by decide) (fun e => ?_) (fun c => ?_)
        · refine jW.tableJ (dx_law 24 (e := (40, .tableswitch 467 0 11 #[64, 135, 160, 171, 215, 228, 265, 330, 343, 380, 429, 442], 64)) rfl) e (by decide) (by decide) rfl 104 (by decide) ?_
          exact lw_c0 F hT hi hL hrel h hN
        · skip
          refine jW.swc 1 c (by decide) (fun e => ?_) (fun c => ?_)
          · refine jW.tableJ (dx_law 24 (e := (40, .tableswitch 467 0 11 #[64, 135, 160, 171, 215, 228, 265, 330, 343, 380, 429, 442], 64)) rfl) e (by decide) (by decide) rfl 175 (by decide) ?_
            exact lw_c1 F hT hi hL hrel h hN
          · skip
            refine jW.swc 2 c (by decide) (fun e => ?_) (fun c => ?_)
            · refine jW.tableJ (dx_law 24 (e := (40, .tableswitch 467 0 11 #[64, 135, 160, 171, 215, 228, 265, 330, 343, 380, 429, 442], 64)) rfl) e (by decide) (by decide) rfl 200 (by decide) ?_
              exact lw_c2 F hT hi hL hrel h hN
            · skip
              refine jW.swc 3 c (by decide) (fun e => ?_) (fun c => ?_)
              · refine jW.tableJ (dx_law 24 (e := (40, .tableswitch 467 0 11 #[64, 135, 160, 171, 215, 228, 265, 330, 343, 380, 429, 442], 64)) rfl) e (by decide) (by decide) rfl 211 (by decide) ?_
                exact lw_c3 F hT hi hL hrel h hN (HX _ _ _).1 (HX _ _ _).2.1 (HX _ _ _).2.2
              · skip
                refine jW.swc 4 c (by decide) (fun e => ?_) (fun c => ?_)
                · refine jW.tableJ (dx_law 24 (e := (40, .tableswitch 467 0 11 #[64, 135, 160, 171, 215, 228, 265, 330, 343, 380, 429, 442], 64)) rfl) e (by decide) (by decide) rfl 255 (by decide) ?_
                  exact lw_c4 F hT hi hL hrel h hN
                · skip
                  refine jW.swc 5 c (by decide) (fun e => ?_) (fun c => ?_)
                  · refine jW.tableJ (dx_law 24 (e := (40, .tableswitch 467 0 11 #[64, 135, 160, 171, 215, 228, 265, 330, 343, 380, 429, 442], 64)) rfl) e (by decide) (by decide) rfl 268 (by decide) ?_
                    exact lw_c5 F hT hi hL hrel h hN
                  · skip
                    refine jW.swc 6 c (by decide) (fun e => ?_) (fun c => ?_)
                    · refine jW.tableJ (dx_law 24 (e := (40, .tableswitch 467 0 11 #[64, 135, 160, 171, 215, 228, 265, 330, 343, 380, 429, 442], 64)) rfl) e (by decide) (by decide) rfl 305 (by decide) ?_
                      exact lw_c6 F hT hi hL hrel h hN
                    · skip
                      refine jW.swc 7 c (by decide) (fun e => ?_) (fun c => ?_)
                      · refine jW.tableJ (dx_law 24 (e := (40, .tableswitch 467 0 11 #[64, 135, 160, 171, 215, 228, 265, 330, 343, 380, 429, 442], 64)) rfl) e (by decide) (by decide) rfl 370 (by decide) ?_
                        exact lw_c7 F hT hi hL hrel h hN
                      · skip
                        refine jW.swc 8 c (by decide) (fun e => ?_) (fun c => ?_)
                        · refine jW.tableJ (dx_law 24 (e := (40, .tableswitch 467 0 11 #[64, 135, 160, 171, 215, 228, 265, 330, 343, 380, 429, 442], 64)) rfl) e (by decide) (by decide) rfl 383 (by decide) ?_
                          exact lw_c8 F hT hi hL hrel h hN
                        · skip
                          refine jW.swc 9 c (by decide) (fun e => ?_) (fun c => ?_)
                          · refine jW.tableJ (dx_law 24 (e := (40, .tableswitch 467 0 11 #[64, 135, 160, 171, 215, 228, 265, 330, 343, 380, 429, 442], 64)) rfl) e (by decide) (by decide) rfl 420 (by decide) ?_
                            exact lw_c9 F hT hi hL hrel h hN
                          · skip
                            refine jW.swc 10 c (by decide) (fun e => ?_) (fun c => ?_)
                            · refine jW.tableJ (dx_law 24 (e := (40, .tableswitch 467 0 11 #[64, 135, 160, 171, 215, 228, 265, 330, 343, 380, 429, 442], 64)) rfl) e (by decide) (by decide) rfl 469 (by decide) ?_
                              exact lw_c10 F hT hi hL hrel h hN
                            · skip
                              have e : xs i &&& 15 = 11 := i32_of (by have e1 : ((11 : Int32)).toInt = 11 := rfl; omega)
                              refine jW.tableJ (dx_law 24 (e := (40, .tableswitch 467 0 11 #[64, 135, 160, 171, 215, 228, 265, 330, 343, 380, 429, 442], 64)) rfl) e (by decide) (by decide) rfl 482 (by decide) ?_
                              exact lw_c11 F hT hi hL hrel h hN
theorem REL_00 (b : Nat) : REL (c00 b) m00 := by
  refine ⟨⟨rfl, Nat.zero_le _, fun k hk => absurd hk (Nat.not_lt_zero _), fun k _ => ?_⟩, ⟨fun k _ => ⟨rfl, rfl⟩, rfl⟩, Nat.zero_le _, rfl, Or.inl ⟨rfl, rfl, rfl, rfl, rfl⟩⟩
  show (0 : Int32) &&& 255 = 0
  decide
theorem mo_def : ∀ k : Fin 54, mLen k.val = 0 → defaultValue (jF_Mo k.val) = .int 0 := by decide +kernel
theorem lw_begin (F : jOK s0 jcl D cA lw_tbl a0 jty) {em : Nat} (hE : EMP s0 em) (HX : ∀ ad σ n z, THs (xB l s0 D cA ad σ n z) a0 ∧ BNok (xB l s0 D cA ad σ n z) ∧ TAok (xB l s0 D cA ad σ n z)) (hT : va_T .int b L (fun j => .int (xs j)) (fun q => s0.heap.size ≤ q) s0 s0.heap) (hL : L ≤ 3072) : jW l s0 jcl D cA 16 y_law 0 [some (.ref b), none, none, none, none, none, none] [] ((fun _ => none, s0.heap.size, 0) : jS) (fun r σ' => r = some (.int 1) ∧ σ'.2.1 ≤ s0.heap.size + 601024 ∧ σ'.2.2 ≤ 7293034) := by
  have hI : jI s0.heap.size ((fun _ => none, s0.heap.size, 0) : jS) := ⟨Nat.le_refl _, fun _ _ h => by cases h⟩
  refine jW.newA (ci := 0) (q := jQ_MB) F rfl (dx_law 0 (e := (0, .new 8, 3)) rfl) jw_25 jw_26 jw_1 jF_MB jTab_MB (n := 8) rfl (pc' := 3) rfl hI (fun mb σ1 h1 B1 hI1 hK1 hz1 => ?_)
  refine jW.dup (dx_law 1 (e := (3, .dup, 1)) rfl) rfl (pc' := 4) rfl ?_
  refine jW.callI F (e_MB_init (d := 9) F hE hI1 h1 B1) (dx_law 2 (e := (4, .invokespecial 15, 3)) rfl) can_MB_init rfl jw_27 jw_28 rfl rfl rfl (Nat.le_of_ble_eq_true rfl) (pc' := 7) rfl (fun r σ2 hr => ?_)
  obtain ⟨rfl, hI2, hK2, hz2, ad, rfl, hV2⟩ := hr
  refine jW.astore_n (dx_law 3 (e := (7, .astore_n 1, 1)) rfl) rfl (by decide) rfl (pc' := 8) rfl ?_
  refine jW.newA (ci := 8) (q := jQ_Mo) F rfl (dx_law 4 (e := (8, .new 16, 3)) rfl) jw_975 jw_976 jw_15 jF_Mo jTab_Mo (n := 54) rfl (pc' := 11) rfl hI2 (fun o σ3 h3 B3 hI3 hK3 hz3 => ?_)
  refine jW.dup (dx_law 5 (e := (11, .dup, 1)) rfl) rfl (pc' := 12) rfl ?_
  refine jW.callI F (e_Mo_init (d := 14) F hI3 h3 (fun k hk hm => mo_def ⟨k, hk⟩ hm) B3) (dx_law 6 (e := (12, .invokespecial 18, 3)) rfl) can_Mo_init rfl jw_977 jw_978 rfl rfl rfl (Nat.le_of_ble_eq_true rfl) (pc' := 15) rfl (fun r σ4 hr => ?_)
  obtain ⟨rfl, hI4, hK4, hz4, ar, hV4⟩ := hr
  refine jW.astore_n (dx_law 7 (e := (15, .astore_n 2, 1)) rfl) rfl (by decide) rfl (pc' := 16) rfl ?_
  refine jW.iconst (v := 1) (dx_law 8 (e := (16, .iconst 1, 1)) rfl) (by decide) (pc' := 17) rfl ?_
  refine jW.newa (t := 1003) (atype := .long) F (dx_law 9 (e := (17, .newarray .long, 2)) rfl) (by decide) rfl (fun U h => h) jw_1418 (N := 1) (by decide) (by decide) (by decide) (a := σ4.2.1) rfl rfl rfl (pc' := 19) rfl hI4.1 ?_
  refine jW.astore_n (dx_law 10 (e := (19, .astore_n 3, 1)) rfl) rfl (by decide) rfl (pc' := 20) rfl ?_
  refine jW.iconst (v := 0) (dx_law 11 (e := (20, .iconst 0, 1)) rfl) (by decide) (pc' := 21) rfl ?_
  refine jW.istore (dx_law 12 (e := (21, .istore 4, 2)) rfl) (by decide) rfl (pc' := 23) rfl ?_
  have hK5 : jK [] σ4 (jnew σ4 (1003, 1, fun _ => defaultValue (newarray.typeOf .long)) 1) := jK.new hI4
  have hI5 : jI s0.heap.size (jnew σ4 (1003, 1, fun _ => defaultValue (newarray.typeOf .long)) 1) := hI4.new
  have hK25 : jK mKs σ2 (jnew σ4 (1003, 1, fun _ => defaultValue (newarray.typeOf .long)) 1) := ((hK3.mono (by simp)).trans hK4).trans (hK5.mono (by simp))
  have hV5 := hV2.re (n2 := (jnew σ4 (1003, 1, fun _ => defaultValue (newarray.typeOf .long)) 1).2.1) (z2 := (jnew σ4 (1003, 1, fun _ => defaultValue (newarray.typeOf .long)) 1).2.2) hK25 (by decide) hI5 (by omega) (by omega)
  have hM5 : MV (yB l s0 D cA o ar) m00 (jnew σ4 (1003, 1, fun _ => defaultValue (newarray.typeOf .long)) 1) := MV.re (l := l) (D := D) (cA := cA) (σ := σ4) hV4 hK5 (fun _ h => by cases h) hI5
  have e1 : (jnew σ4 (1003, 1, fun _ => defaultValue (newarray.typeOf .long)) 1).2.1 = σ4.2.1 + 1 := rfl
  have e2 : (jnew σ4 (1003, 1, fun _ => defaultValue (newarray.typeOf .long)) 1).2.2 = σ4.2.2 + 1 := rfl
  have f1 : σ1.2.1 = s0.heap.size + 1 := hz1.1
  have f2 : σ1.2.2 = 0 + 8 := hz1.2
  refine lw_loop (NB := s0.heap.size + 200) (ZB := 300000) F (HX ad) hT hL (fun σ n z c m h hn hz => ?_) (L + 1) 0 _ _ _ _ _ none none (by omega) (by omega) ⟨hV5, hM5, ⟨_, jnew_at _ _ _⟩, hI4.1⟩ (REL_00 _) (by omega) (by omega)
  have hb := h.1.bound
  exact ⟨rfl, by omega, by omega⟩
end LAWL
