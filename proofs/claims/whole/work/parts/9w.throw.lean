theorem same_cells {s t : State} {k n : Nat} (h : s.sameButNew t [] k n) : ∀ q, q < s.heap.size → t.heap[q]? = s.heap[q]? := by
  intro q hq
  have hc : s.heap[q]? = some s.heap[q] := Array.getElem?_eq_some_iff.mpr ⟨hq, rfl⟩
  obtain ⟨c', h1, h2, h3, h4⟩ := h.2.2.2.2.2 q _ hc
  rw [h1, hc]
  congr 1
  have hs : c'.slots = s.heap[q].slots := Array.ext_getElem? (fun i => h4 i (fun z => by cases z))
  rw [h2, hs]
section THR
variable {l : Launch} {s0 : State} {D : va_G} {cA : Nat → ClassId} {a0 : Array Value} {d : Nat} {L : jL} {σ : jS} {Φ : Option (Option Value) → jS → Prop}
/-- new IllegalArgumentException("too deep") is made and thrown -/
theorem jV.throw (F : jOK s0 jcl D cA lw_tbl a0 jty) (htr : l.stackTraces = false) (hO : ∀ w ∈ ownX, w.before a0 s0 = true) {q : Nat} (hS : vk_R "MarkBlocks" 102 "too deep" q s0) (hd : 6 ≤ d) (hB : s0.heap.size ≤ σ.2.1) (h : Φ none σ) : jV l s0 jcl D cA d y_MB_read 61 L [] σ Φ := by
  refine ⟨none, σ, ⟨⟨Nat.le_refl _, Nat.le_refl _⟩, fun p e R s m args below meth c H locs ls n0 z0 hx0 hX hH hL q1 q2 q3 q4 => ?_⟩, h⟩
  change σ.2.1 + 1 - n0 ≤ R.cells at q3
  change σ.2.2 + 6 - z0 ≤ R.slots at q4
  change W p l e R s m args below meth c H locs (σ.2.1 - n0) (σ.2.2 - z0) (MQt below (jQt s0 jcl D cA σ) s (σ.2.1 + 1 - n0) (σ.2.2 + 6 - z0) (fun q => s0.heap.size ≤ q)) (F0 m 61 ls [])
  obtain ⟨⟨hx, hb⟩, hml, hr, hown, hlk, hnm, hW, hfr, hlo⟩ := hX
  intro T hT X
  have XB := stRebase X (by omega) (by omega)
  have hu : (({ s with heap := T.heap, slotsUsed := T.slotsUsed } : State).setVm T.vm).vm = T.vm ∧ (({ s with heap := T.heap, slotsUsed := T.slotsUsed } : State).setVm T.vm).heap = T.heap := ⟨rfl, rfl⟩
  have hback : ∀ U : State, (({ s with heap := T.heap, slotsUsed := T.slotsUsed } : State).setVm T.vm).sameButNew ({ U with vm := T.vm } : State) [] 1 6 → s.sameButNew ({ U with vm := s.vm } : State) locs (σ.2.1 - n0 + 1) (σ.2.2 - z0 + 6) := by
    intro U hU
    obtain ⟨u1, u2, u3, u4, u5, u6⟩ := hU
    have h2 : (T.setVm s.vm).sameButNew ({ U with vm := s.vm } : State) [] 1 6 := by
      refine ⟨?_, u2, u3, u4, u5, u6⟩
      have e1 := congrArg (fun q : State => q.setVm s.vm) u1
      refine Eq.trans e1 ?_
      have e2 := X.same.1
      rw [e2]
      have e3 : ∀ (A : State) (f1 f2 : List Frame) (h1 h2 : Heap) (n1 n2 : Nat), ({ ({ A.setFrames f1 with heap := h1, slotsUsed := n1 } : State).setFrames f2 with heap := h2, slotsUsed := n2 } : State) = { A.setFrames f2 with heap := h2, slotsUsed := n2 } := by
        intro A f1 f2 h1 h2 n1 n2
        have := State.setFrames_setFrames A f1 f2
        calc ({ ({ A.setFrames f1 with heap := h1, slotsUsed := n1 } : State).setFrames f2 with heap := h2, slotsUsed := n2 } : State) = { (A.setFrames f1).setFrames f2 with heap := h2, slotsUsed := n2 } := rfl
          _ = _ := by rw [this]
      rw [e3]
      rfl
    have h3 := X.same.trans h2
    rw [List.append_nil] at h3
    exact h3
  generalize (({ s with heap := T.heap, slotsUsed := T.slotsUsed } : State).setVm T.vm) = sB at XB hu hback
  obtain ⟨hv, hh⟩ := hu
  have hWT : s.WarmedH sB.vm := by rw [hv]; exact X.warmed
  have hWB : s0.WarmedH sB.vm := hW.trans hWT
  have hhB : sB.heap = H := hh.trans hT
  have hownB : sB.vm.findClass "MarkBlocks" = some m.cls := by rw [hWT.alike.findClass]; exact hown
  have hold : ∀ q, q < s0.heap.size → sB.heap[q]? = s0.heap[q]? := by rw [hhB]; exact hH.2.1
  have hHs : H.size = σ.2.1 := hH.1.1
  have hg : ∀ w, (w = Cond.classLink "MarkBlocks" 100 "java/lang/IllegalArgumentException" ∨ w = Cond.instantiable "java/lang/IllegalArgumentException" 6 ∨ w = Cond.initialized "java/lang/IllegalArgumentException") → jGood w := by
    rintro w (rfl | rfl | rfl) <;> exact Or.inl (by first | rfl | simp [Cond.onTables, Cond.keeps, Cond.steady])
  have htr2 : e.platform.stackTraces = false := by rw [X.admits.platform]; exact htr
  refine (?_ : W p l e { R with cells := R.cells - (σ.2.1 - n0), slots := R.slots - (σ.2.2 - z0) } sB m args below meth c H [] 0 0 _ (F0 m 61 ls [])) T hT XB
  refine W.newc hx hb hownB (F.word hWB jw_872 (hg _ (Or.inl rfl)) args) (F.word hWB jw_873 (hg _ (Or.inr (Or.inl rfl))) args) (F.word hWB jw_24 (hg _ (Or.inr (Or.inr rfl))) args) rfl (dx_MB_read 29 (e := (61, .new 100, 3)) rfl) (by show 0 + 1 ≤ R.cells - (σ.2.1 - n0); omega) (by show 0 + 6 ≤ R.slots - (σ.2.2 - z0); omega) (fun cC kC f1 f2 f3 f4 => ?_)
  refine lv_dup hx hb (dx_MB_read 30 (e := (64, .dup, 1)) rfl) rfl ?_
  refine va_ldcS hx hb hownB (hS.warm hWB) (dx_MB_read 31 (e := (65, .ldc 102, 2)) rfl) ?_
  intro T2 hT2 X2
  have hcell : T2.heap[H.size]? = some { cls := cC, slots := kC.instanceTypes.map defaultValue, vm := .none } := by rw [hT2]; simp
  obtain ⟨U, u1, u2, u3, u4, u5, ce, u6, u7⟩ := X2.ctorThrowS hx htr2 hownB (by decide +kernel) (by decide +kernel) (own_at hWB hold F.1 hO) (fun x hx => by cases hx) f1 f2 (a := H.size) hcell (by rw [hhB]; exact Nat.le_refl _) (msg := .ref q) rfl (g := F0 m 67 ls [.ref q, .ref H.size, .ref H.size]) rfl (by rw [hml]; exact hL.1) rfl rfl (rest := []) rfl (by rw [hb]; exact dx_MB_read 32 (e := (67, .invokespecial 104, 3)) rfl) (by rw [hb]; exact dx_MB_read 33 (e := (70, .athrow, 1)) rfl) (covers_of_empty hx0 _) (by show 2 + 3 < R.frames; omega) (by show 2 * 0 + 1 + (13 * (2 + 1) + 42) ≤ R.locals; omega) hlk
  rw [hv] at u5
  have hk := same_cells u5
  have hk' : ∀ x, x < σ.2.1 → U.heap[x]? = H[x]? := fun x hx => by
    have := hk x (by rw [hhB, hHs]; exact hx)
    rw [hhB] at this
    exact this
  have hlt : H.size < U.heap.size := (Array.getElem?_eq_some_iff.mp u6).1
  have hle : U.heap.size ≤ H.size + 1 := by
    have := u5.2.2.1
    rw [hhB] at this
    exact this
  refine ⟨U, u1, H.size, u2, u3, ⟨⟨⟨?_, fun a t n v ha => ?_⟩, fun x hx => ?_⟩, hHs, ce, u6, by rw [u7.vm]; rfl, ?_⟩, locs, ⟨⟨_, rfl⟩, hWT.trans u4, ?_⟩, hH.2.2⟩
  · show U.heap.size = σ.2.1 + 1
    omega
  · have h1 := hH.1.2 a t n v ha
    exact h1.kept (hk' a (by rw [← hHs]; exact h1.lt))
  · rw [hk' x (by omega)]; exact hH.2.1 x hx
  · rw [← hWB.alike.findClass]; exact u7.cls
  · have := hback U u5
    rw [show σ.2.1 + 1 - n0 = σ.2.1 - n0 + 1 by omega, show σ.2.2 + 6 - z0 = σ.2.2 - z0 + 6 by omega]
    exact this
end THR
