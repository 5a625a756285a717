/-! PURE: the first rows. Numbers as Int32, states, loops. -/
def iI (z : Int) : Int32 := Int32.ofInt z
theorem iI_nat (n : Nat) : nI n = iI n := by
  unfold nI iI
  rw [← Int32.toBitVec_inj]
  simp [Int32.ofNat, Int32.ofInt]
theorem iI_toInt {z : Int} (h1 : -2147483648 ≤ z) (h2 : z < 2147483648) : (iI z).toInt = z := fb_ofI h1 h2
theorem iI_of (x : Int32) : iI x.toInt = x := fb_asI x
theorem iI_add (a b : Int) : iI a + iI b = iI (a + b) := (Int32.ofInt_add a b).symm
theorem iI_mul (a b : Int) : iI a * iI b = iI (a * b) := (Int32.ofInt_mul a b).symm
theorem iI_sub (a b : Int) : iI a - iI b = iI (a - b) := (Int32.ofInt_sub a b).symm
theorem iI_neg (a : Int) : -(iI a) = iI (-a) := (Int32.ofInt_neg a).symm
theorem iI_le {a b : Int} (h1 : -2147483648 ≤ a) (h2 : a < 2147483648) (h3 : -2147483648 ≤ b) (h4 : b < 2147483648) : iI a ≤ iI b ↔ a ≤ b := by
  rw [fa_le, iI_toInt h1 h2, iI_toInt h3 h4]
theorem iI_lt {a b : Int} (h1 : -2147483648 ≤ a) (h2 : a < 2147483648) (h3 : -2147483648 ≤ b) (h4 : b < 2147483648) : iI a < iI b ↔ a < b := by
  rw [fa_lt, iI_toInt h1 h2, iI_toInt h3 h4]
theorem iI_eq {a b : Int} (h1 : -2147483648 ≤ a) (h2 : a < 2147483648) (h3 : -2147483648 ≤ b) (h4 : b < 2147483648) : iI a = iI b ↔ a = b := by
  rw [fa_eq, iI_toInt h1 h2, iI_toInt h3 h4]
theorem gd_t {α : Type} {b : Bool} {k : Option α} (h : b = true) : gd b k = k := if_pos h
theorem gd_true {α : Type} {k : Option α} : gd true k = k := rfl
theorem nx_eq {α β : Type} (x : α) (k : α → β) : nx x k = k x := rfl
theorem bs {α β : Type} (x : α) (f : α → Option β) : Option.bind (some x) f = f x := rfl
theorem isb0 : isb 0 = true := rfl
theorem isb1 : isb 1 = true := rfl
theorem inb_nI {n m : Nat} (h : n < m) (hm : m < 2 ^ 31) : inb (nI n) m = true := by
  unfold inb
  rw [nI_clamp (by omega)]
  simp [nI_pos (show n < 2 ^ 31 by omega), h]
theorem p1_at (S : St) (k i : Nat) (v : Int32) (a b : Nat) : (p1 S k i v).1 a b = if a = k ∧ b = i then v else S.1 a b := by
  unfold p1 upd
  by_cases h : a = k
  · subst h
    by_cases h2 : b = i <;> simp [h2]
  · simp [h]
theorem p1_2 (S : St) (k i : Nat) (v : Int32) : (p1 S k i v).2 = S.2 := rfl
theorem p2_1 (S : St) (k i : Nat) (v : Int64) : (p2 S k i v).1 = S.1 := rfl
theorem p2_at (S : St) (k i : Nat) (v : Int64) (a b : Nat) : (p2 S k i v).2 a b = if a = k ∧ b = i then v else S.2 a b := by
  unfold p2 vp_updL
  by_cases h : a = k
  · subst h
    by_cases h2 : b = i <;> simp [h2]
  · simp [h]
theorem p1_ne {S : St} {k i : Nat} {v : Int32} {a b : Nat} (h : a ≠ k) : (p1 S k i v).1 a b = S.1 a b := by
  rw [p1_at, if_neg (fun q => h q.1)]
theorem p1_ni {S : St} {k i : Nat} {v : Int32} {a b : Nat} (h : b ≠ i) : (p1 S k i v).1 a b = S.1 a b := by
  rw [p1_at, if_neg (fun q => h q.2)]
theorem p1_eq {S : St} {k i : Nat} {v : Int32} : (p1 S k i v).1 k i = v := by
  rw [p1_at, if_pos ⟨rfl, rfl⟩]
theorem p2_ne {S : St} {k i : Nat} {v : Int64} {a b : Nat} (h : b ≠ i) : (p2 S k i v).2 a b = S.2 a b := by
  rw [p2_at, if_neg (fun q => h q.2)]
theorem p2_eq {S : St} {k i : Nat} {v : Int64} : (p2 S k i v).2 k i = v := by
  rw [p2_at, if_pos ⟨rfl, rfl⟩]
/-- a loop that counts up: it ends, and what it ends with is so -/
theorem loop_up {σ τ : Type} (F : Nat → σ → Int32 → Option τ) (e : Nat) (Inv : Nat → σ → Prop) (Post : τ → Prop)
    (hx : ∀ n s, Inv e s → ∃ t, F (n + 1) s (nI e) = some t ∧ Post t)
    (hs : ∀ n i s, i < e → Inv i s → (∃ t, F (n + 1) s (nI i) = some t ∧ Post t) ∨ ∃ s', Inv (i + 1) s' ∧ F (n + 1) s (nI i) = F n s' (nI (i + 1))) :
    ∀ n i s, i ≤ e → e < i + n → Inv i s → ∃ t, F n s (nI i) = some t ∧ Post t
  | 0, i, s, h1, h2, _ => by omega
  | n + 1, i, s, h1, h2, hI => by
    by_cases he : i = e
    · subst he
      exact hx n s hI
    · rcases hs n i s (by omega) hI with h | ⟨s', hI', e1⟩
      · exact h
      · rw [e1]
        exact loop_up F e Inv Post hx hs n (i + 1) s' (by omega) (by omega) hI'
/-- a loop with a measure -/
theorem loop_me {σ τ : Type} (F : Nat → σ → Option τ) (Inv : σ → Prop) (μ : σ → Nat) (Post : τ → Prop)
    (hs : ∀ n s, Inv s → (∃ t, F (n + 1) s = some t ∧ Post t) ∨ ∃ s', Inv s' ∧ μ s' < μ s ∧ F (n + 1) s = F n s') :
    ∀ n s, μ s < n → Inv s → ∃ t, F n s = some t ∧ Post t
  | 0, s, h, _ => by omega
  | n + 1, s, h, hI => by
    rcases hs n s hI with h1 | ⟨s', hI', h2, e1⟩
    · exact h1
    · rw [e1]
      exact loop_me F Inv μ Post hs n s' (by omega) hI'
