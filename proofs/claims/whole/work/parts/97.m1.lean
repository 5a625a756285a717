/-! matches: the numbers -/
def sumN (f : Nat → Nat) : Nat → Nat
  | 0 => 0
  | n + 1 => sumN f n + f n
theorem sumN_cong {f g : Nat → Nat} : ∀ n, (∀ i, i < n → f i = g i) → sumN f n = sumN g n
  | 0, _ => rfl
  | n + 1, h => by rw [sumN, sumN, sumN_cong n (fun i hi => h i (by omega)), h n (by omega)]
theorem sumN_0 : ∀ n, sumN (fun _ => 0) n = 0
  | 0 => rfl
  | n + 1 => by rw [sumN, sumN_0 n]
theorem sumN_le {f g : Nat → Nat} : ∀ n, (∀ i, i < n → f i ≤ g i) → sumN f n ≤ sumN g n ∧ (sumN f n = sumN g n ↔ ∀ i, i < n → f i = g i)
  | 0, _ => ⟨Nat.le_refl 0, ⟨fun _ i hi => by omega, fun _ => rfl⟩⟩
  | n + 1, h => by
    have ih := sumN_le n (fun i hi => h i (by omega))
    have hn := h n (by omega)
    rw [sumN, sumN]
    refine ⟨by omega, ⟨fun e i hi => ?_, fun e => ?_⟩⟩
    · by_cases q : i = n
      · subst q; omega
      · exact ih.2.mp (by omega) i (by omega)
    · rw [ih.2.mpr (fun i hi => e i (by omega)), e n (by omega)]
theorem sumN_one {f : Nat → Nat} : ∀ n i, i < n → f i ≤ sumN f n
  | 0, i, h => by omega
  | n + 1, i, h => by
    rw [sumN]
    by_cases q : i = n
    · subst q; omega
    · have := sumN_one (f := f) n i (by omega)
      omega
theorem sumN_mul {f : Nat → Nat} (d : Nat) : ∀ n, sumN (fun i => d * f i) n = d * sumN f n
  | 0 => rfl
  | n + 1 => by rw [sumN, sumN, sumN_mul d n, Nat.mul_add]
theorem sumN_ext {f : Nat → Nat} {n m : Nat} (h : n ≤ m) (hz : ∀ i, n ≤ i → i < m → f i = 0) : sumN f m = sumN f n := by
  obtain ⟨d, rfl⟩ : ∃ d, m = n + d := ⟨m - n, by omega⟩
  clear h
  induction d with
  | zero => rfl
  | succ d ih =>
    rw [show n + (d + 1) = n + d + 1 by omega, sumN, hz (n + d) (by omega) (by omega), ih (fun i h1 h2 => hz i h1 (by omega))]
    rfl
theorem sumN_upd {g W : Nat → Nat} {u d : Nat} : ∀ n, sumN (fun t => (if t = u then g t + d else g t) * W t) n = sumN (fun t => g t * W t) n + (if u < n then d * W u else 0)
  | 0 => by rw [if_neg (by omega)]; rfl
  | n + 1 => by
    rw [sumN, sumN, sumN_upd n]
    by_cases q : n = u
    · subst q
      rw [if_pos rfl, if_neg (by omega), if_pos (by omega), Nat.add_mul]
      omega
    · rw [if_neg q]
      by_cases w : u < n
      · rw [if_pos w, if_pos (by omega)]; omega
      · rw [if_neg w, if_neg (by omega)]; omega
def bc (s : Nat) : Nat := fb_ct (fun i => s.testBit i) 12
theorem bc_or {s i : Nat} (hi : i < 12) (hs : s.testBit i = false) : bc (s ||| 2 ^ i) = bc s + 1 := by
  have e : fb_ct (fun k => (s ||| 2 ^ i).testBit k) 12 = fb_ct (fun k => if k = i then true else s.testBit k) 12 := fb_ct_cong (fun k _ => by
    show (s ||| 2 ^ i).testBit k = if k = i then true else s.testBit k
    rw [Nat.testBit_or, Nat.testBit_two_pow]
    by_cases q : k = i
    · rw [if_pos q, decide_eq_true q.symm, Bool.or_true]
    · rw [if_neg q, decide_eq_false (fun z => q z.symm), Bool.or_false])
  have u := fb_ct_upd (fun k => s.testBit k) true hi
  try dsimp only at u
  rw [hs, if_neg (by decide), if_pos rfl] at u
  unfold bc
  rw [e]
  exact u
theorem bc_le (s : Nat) : bc s ≤ 12 := fb_ct_le _ _
theorem or_gt {s i : Nat} (hs : s.testBit i = false) : s < s ||| 2 ^ i := by
  rcases Nat.lt_or_ge s (s ||| 2 ^ i) with q | q
  · exact q
  · have e : s ||| 2 ^ i = s := Nat.le_antisymm q Nat.left_le_or
    have : (s ||| 2 ^ i).testBit i = true := by rw [Nat.testBit_or, Nat.testBit_two_pow, decide_eq_true rfl, Bool.or_true]
    rw [e, hs] at this
    exact absurd this (by decide)
def fct : Nat → Nat
  | 0 => 1
  | n + 1 => (n + 1) * fct n
theorem fct_pos : ∀ n, 0 < fct n
  | 0 => by decide
  | n + 1 => Nat.mul_pos (by omega) (fct_pos n)
theorem fct_mono : ∀ d n, fct n ≤ fct (n + d)
  | 0, n => Nat.le_refl _
  | d + 1, n => by
    have := fct_mono d n
    show fct n ≤ (n + d + 1) * fct (n + d)
    have a : 1 * fct (n + d) ≤ (n + d + 1) * fct (n + d) := Nat.mul_le_mul_right _ (by omega)
    omega
def Vw (s : Nat) : Nat := fct (12 - bc s)
theorem Vw_pos (s : Nat) : 0 < Vw s := fct_pos _
theorem Vw_le (s : Nat) : Vw s ≤ 479001600 := by
  have b := bc_le s
  have := fct_mono (bc s) (12 - bc s)
  rw [show 12 - bc s + bc s = 12 by omega] at this
  exact this
section PH
variable {h : Nat} {o o' : Nat → Nat → Bool}
/-- one place filled -/
def exN (h : Nat) (q : Nat → Bool) (W : Nat → Nat) (s : Nat) : Nat := sumN (fun i => if (!s.testBit i && q i) = true then W (s ||| 2 ^ i) else 0) h
def EE (h : Nat) (o : Nat → Nat → Bool) (W : Nat → Nat) : Nat → Nat → Nat → Nat
  | 0, _, s => W s
  | r + 1, j, s => exN h (o j) (fun u => EE h o W r (j + 1) u) s
def rea (h : Nat) (o : Nat → Nat → Bool) : Nat → Nat → Nat → Nat → Prop
  | 0, _, s, t => t = s
  | r + 1, j, s, t => ∃ i, i < h ∧ s.testBit i = false ∧ o j i = true ∧ rea h o r (j + 1) (s ||| 2 ^ i) t
theorem exN_cong {q : Nat → Bool} {W W' : Nat → Nat} (s : Nat) (hW : ∀ u, W u = W' u) : exN h q W s = exN h q W' s := by
  have : W = W' := funext hW
  rw [this]
theorem EE_add (W : Nat → Nat) (r' : Nat) : ∀ r j s, EE h o W (r + r') j s = EE h o (fun u => EE h o W r' (j + r) u) r j s
  | 0, j, s => by rw [Nat.zero_add]; rfl
  | r + 1, j, s => by
    rw [show r + 1 + r' = (r + r') + 1 by omega, EE, EE]
    refine exN_cong s (fun u => ?_)
    rw [EE_add W r' r (j + 1) u, show j + 1 + r = j + (r + 1) by omega]
theorem exN_o {q q' : Nat → Bool} {W : Nat → Nat} (s : Nat) (hq : ∀ i, i < h → q i = q' i) : exN h q W s = exN h q' W s := sumN_cong h (fun i hi => by
  show (if (!s.testBit i && q i) = true then W (s ||| 2 ^ i) else 0) = if (!s.testBit i && q' i) = true then W (s ||| 2 ^ i) else 0
  rw [hq i hi])
theorem EE_o {W : Nat → Nat} : ∀ r j s, (∀ k, j ≤ k → k < j + r → ∀ i, i < h → o k i = o' k i) → EE h o W r j s = EE h o' W r j s
  | 0, j, s, _ => rfl
  | r + 1, j, s, hq => by
    rw [EE, EE, exN_o s (fun i hi => hq j (by omega) (by omega) i hi)]
    exact exN_cong s (fun u => EE_o r (j + 1) u (fun k h1 h2 => hq k (by omega) (by omega)))
theorem exN_V (hh : h ≤ 12) {q : Nat → Bool} {W : Nat → Nat} (hW : ∀ u, W u ≤ Vw u) (s : Nat) : exN h q W s ≤ Vw s := by
  have b := bc_le s
  have e1 : exN h q W s ≤ sumN (fun i => fct (12 - bc s - 1) * (if s.testBit i = false then 1 else 0)) h := (sumN_le h (fun i hi => by
    show (if (!s.testBit i && q i) = true then W (s ||| 2 ^ i) else 0) ≤ fct (12 - bc s - 1) * (if s.testBit i = false then 1 else 0)
    cases hb : s.testBit i
    · rw [if_pos rfl, Nat.mul_one]
      split
      · have := hW (s ||| 2 ^ i)
        unfold Vw at this
        rw [bc_or (by omega) hb, show 12 - (bc s + 1) = 12 - bc s - 1 by omega] at this
        exact this
      · exact Nat.zero_le _
    · rw [if_neg (show ¬ ((!true && q i) = true) by cases q i <;> decide)]
      exact Nat.zero_le _)).1
  rw [sumN_mul] at e1
  have cnt : ∀ n, sumN (fun i => if s.testBit i = false then 1 else 0) n = fb_ct (fun i => !s.testBit i) n := by
    intro n
    induction n with
    | zero => rfl
    | succ n ih =>
      rw [sumN, ih, fb_ct_succ]
      cases s.testBit n <;> rfl
  rw [cnt] at e1
  have n1 := fb_ct_not (fun i => s.testBit i) 12
  have n2 := fb_ct_mono (fun i => !s.testBit i) hh
  have n3 : fb_ct (fun i => !s.testBit i) 12 = 12 - bc s := by
    unfold bc at *
    omega
  have m1 : fct (12 - bc s - 1) * fb_ct (fun i => !s.testBit i) h ≤ fct (12 - bc s - 1) * (12 - bc s) := Nat.mul_le_mul_left _ (by omega)
  unfold Vw
  rcases Nat.eq_zero_or_pos (12 - bc s) with z | z
  · rw [z] at m1 ⊢
    have := fct_pos 0
    rw [z] at e1
    omega
  · obtain ⟨k, hk⟩ : ∃ k, 12 - bc s = k + 1 := ⟨12 - bc s - 1, by omega⟩
    rw [hk] at m1 e1 ⊢
    rw [show k + 1 - 1 = k by omega] at m1 e1
    rw [fct, Nat.mul_comm]
    omega
theorem EE_V (hh : h ≤ 12) {W : Nat → Nat} (hW : ∀ u, W u ≤ Vw u) : ∀ r j s, EE h o W r j s ≤ Vw s
  | 0, j, s => hW s
  | r + 1, j, s => exN_V hh (fun u => EE_V hh hW r (j + 1) u) s
theorem exN_eq {q : Nat → Bool} {F G : Nat → Nat} (s : Nat) (hFG : ∀ i, i < h → s.testBit i = false → q i = true → F (s ||| 2 ^ i) ≤ G (s ||| 2 ^ i)) : exN h q F s ≤ exN h q G s ∧ (exN h q F s = exN h q G s ↔ ∀ i, i < h → s.testBit i = false → q i = true → F (s ||| 2 ^ i) = G (s ||| 2 ^ i)) := by
  have key := sumN_le (f := fun i => if (!s.testBit i && q i) = true then F (s ||| 2 ^ i) else 0) (g := fun i => if (!s.testBit i && q i) = true then G (s ||| 2 ^ i) else 0) h (fun i hi => by
    try dsimp only
    split
    · rename_i z
      rw [Bool.and_eq_true, Bool.not_eq_true'] at z
      exact hFG i hi z.1 z.2
    · exact Nat.le_refl 0)
  refine ⟨key.1, key.2.trans ⟨fun e i hi h1 h2 => ?_, fun e i hi => ?_⟩⟩
  · have := e i hi
    try dsimp only at this
    rw [h1, h2] at this
    exact this
  · try dsimp only
    split
    · rename_i z
      rw [Bool.and_eq_true, Bool.not_eq_true'] at z
      exact e i hi z.1 z.2
    · rfl
theorem EE_eq {F G : Nat → Nat} (hFG : ∀ t, F t ≤ G t) : ∀ r j s, EE h o F r j s ≤ EE h o G r j s ∧ (EE h o F r j s = EE h o G r j s ↔ ∀ t, rea h o r j s t → F t = G t)
  | 0, j, s => ⟨hFG s, ⟨fun e t ht => by rw [show t = s from ht]; exact e, fun e => e s rfl⟩⟩
  | r + 1, j, s => by
    have ih := fun u => EE_eq hFG r (j + 1) u
    have key := exN_eq (h := h) (q := o j) (F := fun u => EE h o F r (j + 1) u) (G := fun u => EE h o G r (j + 1) u) s (fun i _ _ _ => (ih _).1)
    refine ⟨key.1, key.2.trans ⟨fun e t ht => ?_, fun e i hi h1 h2 => ?_⟩⟩
    · obtain ⟨i, hi, h1, h2, h3⟩ := ht
      exact (ih _).2.mp (e i hi h1 h2) t h3
    · exact (ih _).2.mpr (fun t ht => e t ⟨i, hi, h1, h2, ht⟩)
theorem EE_0 : ∀ r j s, EE h o (fun _ => 0) r j s = 0
  | 0, _, _ => rfl
  | r + 1, j, s => by
    rw [EE, exN_cong s (fun u => EE_0 r (j + 1) u)]
    unfold exN
    refine Eq.trans (sumN_cong (g := fun _ => 0) h (fun i hi => ?_)) (sumN_0 h)
    split <;> rfl
theorem rea_bc (hh : h ≤ 12) : ∀ r j s t, rea h o r j s t → bc t = bc s + r
  | 0, j, s, t, e => by rw [show t = s from e]; rfl
  | r + 1, j, s, t, ⟨i, hi, h1, h2, h3⟩ => by
    have := rea_bc hh r (j + 1) _ t h3
    rw [bc_or (by omega) h1] at this
    omega
theorem rea_lt : ∀ r j s t, s < 2 ^ h → rea h o r j s t → t < 2 ^ h
  | 0, j, s, t, hs, e => by rw [show t = s from e]; exact hs
  | r + 1, j, s, t, hs, ⟨i, hi, h1, h2, h3⟩ => rea_lt r (j + 1) _ t (Nat.or_lt_two_pow hs (Nat.pow_lt_pow_right (by omega) hi)) h3
theorem rea_last : ∀ r j s t, rea h o (r + 1) j s t ↔ ∃ u i, rea h o r j s u ∧ i < h ∧ u.testBit i = false ∧ o (j + r) i = true ∧ t = u ||| 2 ^ i
  | 0, j, s, t => ⟨fun ⟨i, hi, h1, h2, h3⟩ => ⟨s, i, rfl, hi, h1, h2, h3⟩, fun ⟨u, i, h0, hi, h1, h2, h3⟩ => by
      have h0' : u = s := h0
      subst h0'
      exact ⟨i, hi, h1, h2, h3⟩⟩
  | r + 1, j, s, t => by
    constructor
    · rintro ⟨i, hi, h1, h2, h3⟩
      obtain ⟨u, i', a0, a1, a2, a3, a4⟩ := (rea_last r (j + 1) _ t).mp h3
      exact ⟨u, i', ⟨i, hi, h1, h2, a0⟩, a1, a2, by rw [show j + (r + 1) = j + 1 + r by omega]; exact a3, a4⟩
    · rintro ⟨u, i', ⟨i, hi, h1, h2, a0⟩, a1, a2, a3, a4⟩
      exact ⟨i, hi, h1, h2, (rea_last r (j + 1) _ t).mpr ⟨u, i', a0, a1, a2, by rw [show j + 1 + r = j + (r + 1) by omega]; exact a3, a4⟩⟩
end PH
