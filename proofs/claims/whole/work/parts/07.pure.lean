/-! cells: reading behind a store and behind a new one; what stays -/
theorem jput_at (σ : jS) (a : Nat) (c : jCell) : (jput σ a c).1 a = some c := if_pos rfl
theorem jput_ne {σ : jS} {a b : Nat} {c : jCell} (h : b ≠ a) : (jput σ a c).1 b = σ.1 b := if_neg h
theorem jnew_at (σ : jS) (c : jCell) (k : Nat) : (jnew σ c k).1 σ.2.1 = some c := if_pos rfl
theorem jnew_ne {σ : jS} {b k : Nat} {c : jCell} (h : b ≠ σ.2.1) : (jnew σ c k).1 b = σ.1 b := if_neg h
/-- every cell lies ahead of the next free address, and that behind the law's start -/
def jI (B : Nat) (σ : jS) : Prop := B ≤ σ.2.1 ∧ ∀ (a : Nat) (c : jCell), σ.1 a = some c → a < σ.2.1
/-- cells of other kinds than ks stay as they are -/
def jK (ks : List Nat) (σ σ' : jS) : Prop := ∀ (a t n : Nat) (v : Nat → Value), σ.1 a = some (t, n, v) → t ∉ ks → σ'.1 a = some (t, n, v)
theorem jI.put {B : Nat} {σ : jS} {a : Nat} {c0 c : jCell} (h : jI B σ) (ha : σ.1 a = some c0) : jI B (jput σ a c) := by
  refine ⟨h.1, fun b c' hb => ?_⟩
  by_cases e : b = a
  · rw [e]; exact h.2 a c0 ha
  · rw [jput_ne e] at hb; exact h.2 b c' hb
theorem jI.new {B : Nat} {σ : jS} {c : jCell} {k : Nat} (h : jI B σ) : jI B (jnew σ c k) := by
  refine ⟨Nat.le_succ_of_le h.1, fun b c' hb => ?_⟩
  by_cases e : b = σ.2.1
  · rw [e]; exact Nat.lt_succ_self _
  · rw [jnew_ne e] at hb; exact Nat.lt_succ_of_lt (h.2 b c' hb)
theorem jI.ne {B : Nat} {σ : jS} {a : Nat} {c : jCell} (h : jI B σ) (ha : σ.1 a = some c) : a ≠ σ.2.1 := Nat.ne_of_lt (h.2 a c ha)
theorem jK.rfl {ks : List Nat} {σ : jS} : jK ks σ σ := fun _ _ _ _ h _ => h
theorem jK.trans {ks : List Nat} {σ σ1 σ2 : jS} (h1 : jK ks σ σ1) (h2 : jK ks σ1 σ2) : jK ks σ σ2 := fun a t n v h ht => h2 a t n v (h1 a t n v h ht) ht
theorem jK.mono {ks ks' : List Nat} {σ σ1 : jS} (h1 : jK ks σ σ1) (h : ∀ t ∈ ks, t ∈ ks') : jK ks' σ σ1 := fun a t n v q ht => h1 a t n v q (fun z => ht (h t z))
theorem jK.put {ks : List Nat} {σ : jS} {a t n : Nat} {v : Nat → Value} {c : jCell} (ha : σ.1 a = some (t, n, v)) (ht : t ∈ ks) : jK ks σ (jput σ a c) := by
  intro b t' n' v' hb ht'
  by_cases e : b = a
  · subst e
    rw [ha] at hb
    cases hb
    exact absurd ht ht'
  · rw [jput_ne e]; exact hb
theorem jK.new {B : Nat} {ks : List Nat} {σ : jS} {c : jCell} {k : Nat} (h : jI B σ) : jK ks σ (jnew σ c k) := by
  intro b t' n' v' hb ht'
  rw [jnew_ne (h.ne hb)]; exact hb
theorem jne {σ : jS} {a b t t' n n' : Nat} {v v' : Nat → Value} (ha : σ.1 a = some (t, n, v)) (hb : σ.1 b = some (t', n', v')) (h : t ≠ t') : a ≠ b := by
  intro e
  subst e
  rw [ha] at hb
  cases hb
  exact h rfl
theorem updV_at (f : Nat → Value) (k : Nat) (x : Value) : updV f k x k = x := if_pos rfl
theorem updV_ne {f : Nat → Value} {k j : Nat} {x : Value} (h : j ≠ k) : updV f k x j = f j := if_neg h
