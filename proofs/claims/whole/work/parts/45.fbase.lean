/-! Frames: what a function leaves as it was (arrays by their cells, fields by cell and place). -/
def fr (A : List Nat) (F L : List (Nat × Nat)) (S S' : St) : Prop := (∀ k i, k ∉ A → (k, i) ∉ F → S'.1 k i = S.1 k i) ∧ ∀ k i, (k, i) ∉ L → S'.2 k i = S.2 k i
theorem fr_refl {A : List Nat} {F L : List (Nat × Nat)} {S : St} : fr A F L S S := ⟨fun _ _ _ _ => rfl, fun _ _ _ => rfl⟩
theorem fr_trans {A : List Nat} {F L : List (Nat × Nat)} {S S1 S2 : St} (h1 : fr A F L S S1) (h2 : fr A F L S1 S2) : fr A F L S S2 := ⟨fun k i a b => (h2.1 k i a b).trans (h1.1 k i a b), fun k i a => (h2.2 k i a).trans (h1.2 k i a)⟩
theorem fr_mono {A A' : List Nat} {F F' L L' : List (Nat × Nat)} {S S' : St} (ha : A.all (fun x => A'.contains x) = true) (hf : F.all (fun x => F'.contains x) = true) (hl : L.all (fun x => L'.contains x) = true) (h : fr A F L S S') : fr A' F' L' S S' := by
  have key : ∀ {α : Type} (d : DecidableEq α) (l l' : List α), l.all (fun x => @List.contains α (instBEqOfDecidableEq) l' x) = true → ∀ x, x ∉ l' → x ∉ l := by
    intro α d l l' h x hx hm
    have := List.all_eq_true.mp h x hm
    exact hx (by simpa using this)
  refine ⟨fun k i a b => h.1 k i (key _ _ _ ha k a) (fun hm => b ?_), fun k i a => h.2 k i (fun hm => a ?_)⟩
  · simpa using List.all_eq_true.mp hf _ hm
  · simpa using List.all_eq_true.mp hl _ hm
theorem fr_eq {A : List Nat} {F L : List (Nat × Nat)} {S S1 S2 : St} (e : S2 = S1) (h : fr A F L S S1) : fr A F L S S2 := e ▸ h
theorem fr_pa {A : List Nat} {F L : List (Nat × Nat)} {S : St} {k i : Nat} {v : Int32} (h : k ∈ A) : fr A F L S (p1 S k i v) := ⟨fun a b ha _ => by
  have : a ≠ k := fun e => ha (e ▸ h)
  unfold p1
  simp only [if_neg this], fun _ _ _ => rfl⟩
theorem fr_pf {A : List Nat} {F L : List (Nat × Nat)} {S : St} {k i : Nat} {v : Int32} (h : (k, i) ∈ F) : fr A F L S (p1 S k i v) := ⟨fun a b _ hb => by
  unfold p1 upd
  by_cases e : a = k
  · have : b ≠ i := fun e2 => hb (by rw [e, e2]; exact h)
    subst e
    simp [this]
  · simp only [if_neg e], fun _ _ _ => rfl⟩
theorem fr_p2 {A : List Nat} {F L : List (Nat × Nat)} {S : St} {k i : Nat} {v : Int64} (h : (k, i) ∈ L) : fr A F L S (p2 S k i v) := ⟨fun _ _ _ _ => rfl, fun a b hb => by
  unfold p2 vp_updL
  by_cases e : a = k
  · have : b ≠ i := fun e2 => hb (by rw [e, e2]; exact h)
    subst e
    simp [this]
  · simp only [if_neg e]⟩
theorem fr_pc {A : List Nat} {F L : List (Nat × Nat)} {S : St} {k1 k sp dp n : Nat} (h : k ∈ A) : fr A F L S (pcp S k1 k sp dp n) := ⟨fun a b ha _ => by
  have : a ≠ k := fun e => ha (e ▸ h)
  unfold pcp
  simp only [if_neg this], fun _ _ _ => rfl⟩
theorem fr_in {A B : List Nat} {k : Nat} (h : B.all (fun x => A.contains x) = true) (hk : k ∈ B) : k ∈ A := by simpa using List.all_eq_true.mp h k hk
theorem mem_r {j : Nat} (h : j < 6) : 3 + j ∈ [3, 4, 5, 6, 7, 8] := by
  simp only [List.mem_cons, List.not_mem_nil, or_false]
  omega
theorem mem_t {j : Nat} (h : j < 4) : 12 + j ∈ [12, 13, 14, 15] := by
  simp only [List.mem_cons, List.not_mem_nil, or_false]
  omega
theorem it_or {c : Prop} {d : Decidable c} {α : Type} {a b x : α} (h : @ite α c d a b = x) : (c ∧ a = x) ∨ (¬ c ∧ b = x) := by
  by_cases q : c
  · exact Or.inl ⟨q, it_p q h⟩
  · exact Or.inr ⟨q, it_n q h⟩
