/-! THROWS: the walk's base may be moved up to where it stands; then what the kit's constructor-and-throw leaves is known cell by cell -/
section REB
variable {p : Program} {l : Launch} {e : Env} {R : Room} {s : State} {m : MethodId} {args : Array Value} {below : List Frame} {meth : Method} {c : Code} {T : State} {locs : List Loc} {cells slots : Nat}
theorem stRebase (X : Stand p l e R s m args below meth c T locs cells slots) (h1 : cells ≤ R.cells) (h2 : slots ≤ R.slots) : Stand p l e { R with cells := R.cells - cells, slots := R.slots - slots } (({ s with heap := T.heap, slotsUsed := T.slotsUsed } : State).setVm T.vm) m args below meth c T [] 0 0 := by
  have hf : (({ s with heap := T.heap, slotsUsed := T.slotsUsed } : State).setVm T.vm).frames = .invoking m args :: below := X.frames
  refine ⟨X.admits, X.cas, X.clock, hf, ?_, ?_, X.method', X.code, X.here, X.tail, State.WarmedH.refl _, X.limits, X.bytes, ?_⟩
  · have hr := X.room
    have hb := X.book
    have hz := X.heapSize
    have hu := X.used
    simp only [State.hasRoom, Bool.and_eq_true, decide_eq_true_eq, State.localsInUse_invoking X.frames X.method X.code] at hr
    simp only [State.hasRoom, Bool.and_eq_true, decide_eq_true_eq, State.localsInUse_invoking hf X.method' X.code]
    obtain ⟨⟨⟨⟨r1, r2⟩, r3⟩, r4⟩, r5⟩ := hr
    refine ⟨⟨⟨⟨r1, r2⟩, ?_⟩, ?_⟩, hb⟩
    · show T.heap.size + (R.cells - cells) ≤ _
      omega
    · show T.slotsUsed + (R.slots - slots) ≤ _
      omega
  · have hh := X.hears
    unfold State.hears at hh ⊢
    split
    · dsimp only at hh
      have := State.code?_setVm (s := s) X.warmed.alike
      show ((State.code? (s.setVm T.vm) _).bind _).isSome = true
      rw [this]; exact hh
    · rfl
    · rfl
    · rename_i g1 g2 g3
      split at hh
      · exact absurd rfl (g1 _ _)
      · exact absurd rfl (g2 _ _)
      · exact absurd rfl (g3 _ _)
      · show ((T.vm.method? m).any _) = true
        rw [X.method']
        rw [X.method] at hh
        exact hh
  · have h := X.same.1
    have hT : T = ({ s.setFrames T.frames with heap := T.heap, slotsUsed := T.slotsUsed } : State).setVm T.vm := by
      have := congrArg (fun q : State => q.setVm T.vm) h
      exact this
    refine ⟨hT, Nat.le_refl _, Nat.le_add_right _ _, ?_, ?_, fun a c h => ⟨c, h, rfl, rfl, fun _ _ => rfl⟩⟩
    · show T.slotsUsed = T.slotsUsed + ((T.heap.toList.drop T.heap.size).map _).sum
      rw [List.drop_of_length_le (by simp)]
      rfl
    · show ((T.heap.toList.drop T.heap.size).map _).sum ≤ 0
      rw [List.drop_of_length_le (by simp)]
      exact Nat.le_refl _
end REB

def ownL : List Cond := Bundle.ownAtoms "MarkBlocks" 104 "java/lang/IllegalArgumentException" ["java/lang/RuntimeException", "java/lang/Exception"]
def ownX : List Cond := [.isRef (.static "java/lang/Throwable" "UNASSIGNED_STACK" "[Ljava/lang/StackTraceElement;"), .isRef (.static "java/lang/Throwable" "SUPPRESSED_SENTINEL" "Ljava/util/List;")]
def ownD : List Cond := [.declares ⟨"java/lang/RuntimeException", "<init>", "(Ljava/lang/String;)V"⟩, .declares ⟨"java/lang/Exception", "<init>", "(Ljava/lang/String;)V"⟩, .declares ⟨"java/lang/Throwable", "<init>", "(Ljava/lang/String;)V"⟩]
theorem own_in : ∀ a ∈ ownL, a ∈ lw_tbl ∨ a ∈ ownX := by decide +kernel
theorem own_k : ∀ a ∈ ownL, (a.onTables && a.keepsFace) = true ∨ a ∈ ownX ∨ a = .laysStatic "java/lang/Throwable" "UNASSIGNED_STACK" "[Ljava/lang/StackTraceElement;" ∨ a = .laysStatic "java/lang/Throwable" "SUPPRESSED_SENTINEL" "Ljava/util/List;" := by decide +kernel
theorem ff_vm {U V : State} (hv : V.vm = U.vm) (o n d : String) : V.fieldFound? o n d = U.fieldFound? o n d := by
  unfold State.fieldFound?
  rw [hv]
theorem fn_vm {U V : State} (hv : V.vm = U.vm) (o n d : String) (b : Bool) : V.fieldNamed? o n d b = U.fieldNamed? o n d b := by
  unfold State.fieldNamed?
  rw [ff_vm hv]
theorem lay_old {U V : State} {A B : Array Value} (hv : V.vm = U.vm) (hh : ∀ q, q < U.heap.size → V.heap[q]? = U.heap[q]?) {o n d : String} (h : (Cond.laysStatic o n d).before A U = true) : (Cond.laysStatic o n d).before B V = true := by
  obtain ⟨c, k, i, f, a, cell, h1, h2, h3, h4, h5, h6, h7, h8, h9⟩ := Cond.laysStatic_spec h
  have h5' : V.heap[a]? = some cell := by rw [hh a (Array.getElem?_eq_some_iff.mp h5).1]; exact h5
  simp [Cond.before, Cond.holds, Cond.value, hv, ff_vm hv, h1, h2, h3, h4, h5', h6, h7, h8, h9]
theorem ref_old {U V : State} {A B : Array Value} (hv : V.vm = U.vm) (hh : ∀ q, q < U.heap.size → V.heap[q]? = U.heap[q]?) {o n d : String} (h : (Cond.isRef (.static o n d)).before A U = true) : (Cond.isRef (.static o n d)).before B V = true := by
  have key : ∀ w, (Term.static o n d).eval A U none [] U = some w → (Term.static o n d).eval B V none [] V = some w := by
    intro w hw
    simp only [Term.eval] at hw ⊢
    rw [fn_vm hv]
    cases e1 : U.fieldNamed? o n d true with
    | none => rw [e1] at hw; cases hw
    | some x =>
      obtain ⟨x1, k, sl⟩ := x
      rw [e1] at hw
      simp only [Option.bind_eq_bind, Option.bind_some] at hw ⊢
      cases e2 : k.statics with
      | none => rw [e2] at hw; cases hw
      | some a =>
        rw [e2] at hw
        simp only [Option.bind_some] at hw ⊢
        cases e3 : U.heap[a]? with
        | none => rw [e3] at hw; cases hw
        | some cell =>
          rw [hh a (Array.getElem?_eq_some_iff.mp e3).1, e3]
          rw [e3] at hw
          exact hw
  simp only [Cond.before, Cond.holds, Cond.value] at h ⊢
  cases e : (Term.static o n d).eval A U none [] U with
  | none => rw [e] at h; cases h
  | some w => rw [key w e]; rw [e] at h; exact h
/-- the atoms of the exception's making, wherever the walk stands -/
theorem own_at {s0 U : State} {a0 args : Array Value} (hW : s0.WarmedH U.vm) (hold : ∀ q, q < s0.heap.size → U.heap[q]? = s0.heap[q]?) (h1 : ∀ w ∈ lw_tbl, w.before a0 s0 = true) (h2 : ∀ w ∈ ownX, w.before a0 s0 = true) : ∀ a ∈ ownL, a.before args U = true := by
  intro a ha
  have hb : a.before a0 s0 = true := (own_in a ha).elim (h1 a) (h2 a)
  have mv : ∀ c : Cond, c.keepsFace = true → c.before a0 s0 = true → c.before a0 (s0.setVm U.vm) = true := fun c => Cond.before_shiftedFace (State.Shifted.of_warmed hW) c
  rcases own_k a ha with h | h | h | h
  · rw [Bool.and_eq_true] at h
    have h3 := mv a h.2 hb
    rw [Cond.onTables_vm (A' := args) (U' := U) U.vm a h.1, State.setVm_self] at h3
    exact h3
  · simp only [ownX, List.mem_cons, List.not_mem_nil, or_false] at h
    rcases h with h | h
    · subst h; exact ref_old (U := s0.setVm U.vm) (V := U) rfl hold (mv _ rfl hb)
    · subst h; exact ref_old (U := s0.setVm U.vm) (V := U) rfl hold (mv _ rfl hb)
  · subst h; exact lay_old (U := s0.setVm U.vm) (V := U) rfl hold (mv _ rfl hb)
  · subst h; exact lay_old (U := s0.setVm U.vm) (V := U) rfl hold (mv _ rfl hb)
