/-! Rows and texts: the calls that touch nothing else. -/
theorem inb_iff {x : Int32} {n : Nat} : inb x n = true ↔ 0 ≤ x.toInt ∧ x.toInt < n := by
  rw [← vp_in_iff]
  constructor
  · exact inb_in
  · intro h
    unfold inb
    simp only [Bool.and_eq_true, Bool.not_eq_true', decide_eq_false_iff_not, decide_eq_true_eq]
    exact ⟨fun q => h (Or.inl q), Nat.not_le.mp (fun q => h (Or.inr q))⟩
theorem inb_ex {x : Int32} {n : Nat} (h : inb x n = true) (hn : n < 2 ^ 31) : ∃ j : Nat, j < n ∧ x = nI j := vp_in_of (inb_in h) hn
theorem inb_f {x : Int32} {n : Nat} (h : ¬ inb x n = true) : x.toInt < 0 ∨ (n : Int) ≤ x.toInt := by
  rw [inb_iff] at h
  omega
theorem Yin (S : St) (x a b : Int32) : fYs_in S x a b = some (if a ≤ x ∧ x ≤ b then 1 else 0) := by
  unfold fYs_in
  by_cases h1 : x < a
  · rw [if_pos h1, if_neg (fun q => (fa_of_lt h1).2.1 q.1)]
    rfl
  · by_cases h2 : b < x
    · rw [if_neg h1, if_pos h2, if_neg (fun q => (fa_of_lt h2).2.1 q.2)]
      rfl
    · rw [if_neg h1, if_neg h2, if_pos ⟨fa_of_nlt h1, fa_of_nlt h2⟩]
      rfl
/-- a number between 0 and below n, as both sides ask for it -/
theorem if_inb {x : Int32} {n : Nat} {p : Prop} {d : Decidable p} (h : p ↔ inb x n = true) : (@ite Int32 p d 1 0) = if inb x n = true then 1 else 0 := by
  by_cases q : p
  · rw [if_pos q, if_pos (h.mp q)]
  · rw [if_neg q, if_neg (fun z => q (h.mpr z))]
theorem inb_lo {x : Int32} {n : Nat} (h : x < 0) : ¬ inb x n = true := fun q => inb_nn q h
theorem inb_hi {x : Int32} {n : Nat} (hn : n < 2 ^ 31) (h : nI n ≤ x) : ¬ inb x n = true := fun q => by
  have h1 := (inb_iff.mp q).2
  have h2 := (fa_le _ _).mp h
  rw [nI_toInt hn] at h2
  omega
theorem inb_mid {x : Int32} {n : Nat} (hn : n < 2 ^ 31) (h1 : ¬ x < 0) (h2 : ¬ nI n ≤ x) : inb x n = true := by
  rw [inb_iff]
  rw [fa_lt] at h1
  rw [fa_le, nI_toInt hn] at h2
  have h0 : (0 : Int32).toInt = 0 := by decide
  omega
theorem XisRow (S : St) (x : Int32) : fXs_isRow S x = some (if inb x 6 = true then 1 else 0) := by
  unfold fXs_isRow
  by_cases h1 : x < 0
  · rw [if_pos h1, if_neg (inb_lo h1)]
    rfl
  · by_cases h2 : 6 ≤ x
    · rw [if_neg h1, if_pos h2, if_neg (inb_hi (by decide) h2)]
      rfl
    · rw [if_neg h1, if_neg h2, if_pos (inb_mid (by decide) h1 h2)]
      rfl
theorem XisText (S : St) (x : Int32) : fXs_isText S x = some (if inb x 4 = true then 1 else 0) := by
  unfold fXs_isText
  by_cases h1 : x < 0
  · rw [if_pos h1, if_neg (inb_lo h1)]
    rfl
  · by_cases h2 : 4 ≤ x
    · rw [if_neg h1, if_pos h2, if_neg (inb_hi (by decide) h2)]
      rfl
    · rw [if_neg h1, if_neg h2, if_pos (inb_mid (by decide) h1 h2)]
      rfl
theorem YisRow (S : St) (x : Int32) : fYs_isRow S x = some (if inb x 6 = true then 1 else 0) := by
  unfold fYs_isRow
  rw [Yin, bs, if_inb (x := x) (n := 6) (by
    rw [inb_iff, fa_le, fa_le]
    have h0 : (0 : Int32).toInt = 0 := by decide
    have h5 : (5 : Int32).toInt = 5 := by decide
    rw [h0, h5]
    omega)]
  by_cases h : inb x 6 = true
  · rw [if_pos h]; rfl
  · rw [if_neg h]; rfl
theorem YisText (S : St) (x : Int32) : fYs_isText S x = some (if inb x 4 = true then 1 else 0) := by
  unfold fYs_isText
  rw [Yin, bs, if_inb (x := x) (n := 4) (by
    rw [inb_iff, fa_le, fa_le]
    have h0 : (0 : Int32).toInt = 0 := by decide
    have h5 : (3 : Int32).toInt = 3 := by decide
    rw [h0, h5]
    omega)]
  by_cases h : inb x 4 = true
  · rw [if_pos h]; rfl
  · rw [if_neg h]; rfl
theorem ne10 : ¬ (1 : Int32) = 0 := by decide
theorem ix40 (j i : Nat) : (40 : Int32) * nI j + nI i = nI (40 * j + i) := by
  rw [show (40 : Int32) = nI 40 from rfl, pk_mul, nI_add]
theorem ix60 (j i : Nat) : (60 : Int32) * nI j + nI i = nI (60 * j + i) := by
  rw [show (60 : Int32) = nI 60 from rfl, pk_mul, nI_add]
theorem cl {n : Nat} (h : n < 2 ^ 31) : Int32.toNatClampNeg (nI n) = n := nI_clamp h
/-- Rows.make on the rows -/
theorem X1_make {N : Nat} (hN : 41 < N) (S : St) {j n : Nat} (hj : j < 6) (hn : n ≤ 40) : ∃ S', fX1_make N S (nI j) (nI n) = some S' ∧ S'.1 9 j = nI n ∧ (∀ m, m < n → S'.1 (3 + j) m = S.1 1 2) ∧ (∀ k m, k ≠ 3 + j → ¬ (k = 9 ∧ m = j) → S'.1 k m = S.1 k m) ∧ S'.2 = S.2 := by
  have ej : Int32.toNatClampNeg (nI j) = j := cl (by omega)
  obtain ⟨t, e1, h1⟩ := loop_up (fun q s x => fX1_make_L9 N (nI j) (nI n) q s x) n
    (fun i s => (∀ m, m < i → s.1 (3 + j) m = S.1 1 2) ∧ (∀ k m, k ≠ 3 + j → s.1 k m = (p1 S 9 j (nI n)).1 k m) ∧ s.2 = S.2)
    (fun s => (∀ m, m < n → s.1 (3 + j) m = S.1 1 2) ∧ (∀ k m, k ≠ 3 + j → s.1 k m = (p1 S 9 j (nI n)).1 k m) ∧ s.2 = S.2)
    (fun q s hI => ⟨s, by
      show fX1_make_L9 N (nI j) (nI n) (q + 1) s (nI n) = _
      rw [fX1_make_L9, if_pos (fa_of_nlt (by rw [nI_ltI (by omega) (by omega)]; omega))], hI⟩)
    (fun q i s hi hI => Or.inr ⟨p1 s (3 + j) i (s.1 1 2), by
      obtain ⟨g1, g2, g3⟩ := hI
      refine ⟨fun m hm => ?_, fun k m hk => ?_, g3⟩
      · by_cases e : m = i
        · subst e
          rw [p1_eq, g2 1 2 (by omega), p1_ne (by decide)]
        · rw [p1_ni e]
          exact g1 m (by omega)
      · rw [p1_ne hk]
        exact g2 k m hk, by
      show fX1_make_L9 N (nI j) (nI n) (q + 1) s (nI i) = fX1_make_L9 N (nI j) (nI n) q _ (nI (i + 1))
      rw [fX1_make_L9, if_neg (by rw [nI_leI (by omega) (by omega)]; omega), inb_nI hj (by decide), inb_nI (show i < 40 by omega) (by decide), gd_true, gd_true, nx_eq, ej, cl (by omega), nI_1]⟩)
    N 0 (p1 S 9 j (nI n)) (by omega) (by omega) ⟨fun m hm => by omega, fun k m hk => rfl, rfl⟩
  refine ⟨t, ?_, ?_, h1.1, fun k m hk hm => ?_, h1.2.2⟩
  · unfold fX1_make
    rw [inb_nI hj (by decide), gd_true, nx_eq, ej]
    have e2 : fX1_make_L9 N (nI j) (nI n) N (p1 S 9 j (nI n)) 0 = some t := e1
    rw [e2]
    rfl
  · rw [h1.2.1 9 j (by omega), p1_eq]
  · rw [h1.2.1 k m hk, p1_at, if_neg hm]
/-- Rows.make on the texts -/
theorem X10_make {N : Nat} (hN : 61 < N) (S : St) {j n : Nat} (hj : j < 4) (hn : n ≤ 60) : ∃ S', fX10_make N S (nI j) (nI n) = some S' ∧ S'.1 16 j = nI n ∧ (∀ m, m < n → S'.1 (12 + j) m = S.1 10 2) ∧ (∀ m, n ≤ m → S'.1 (12 + j) m = S.1 (12 + j) m) ∧ (∀ k m, k ≠ 12 + j → ¬ (k = 16 ∧ m = j) → S'.1 k m = S.1 k m) ∧ S'.2 = S.2 := by
  have ej : Int32.toNatClampNeg (nI j) = j := cl (by omega)
  obtain ⟨t, e1, h1⟩ := loop_up (fun q s x => fX10_make_L9 N (nI j) (nI n) q s x) n
    (fun i s => (∀ m, m < i → s.1 (12 + j) m = S.1 10 2) ∧ (∀ k m, (k ≠ 12 + j ∨ i ≤ m) → s.1 k m = (p1 S 16 j (nI n)).1 k m) ∧ s.2 = S.2)
    (fun s => (∀ m, m < n → s.1 (12 + j) m = S.1 10 2) ∧ (∀ k m, (k ≠ 12 + j ∨ n ≤ m) → s.1 k m = (p1 S 16 j (nI n)).1 k m) ∧ s.2 = S.2)
    (fun q s hI => ⟨s, by
      show fX10_make_L9 N (nI j) (nI n) (q + 1) s (nI n) = _
      rw [fX10_make_L9, if_pos (fa_of_nlt (by rw [nI_ltI (by omega) (by omega)]; omega))], hI⟩)
    (fun q i s hi hI => Or.inr ⟨p1 s (12 + j) i (s.1 10 2), by
      obtain ⟨g1, g2, g3⟩ := hI
      refine ⟨fun m hm => ?_, fun k m hk => ?_, g3⟩
      · by_cases e : m = i
        · subst e
          rw [p1_eq, g2 10 2 (by omega), p1_ne (by decide)]
        · rw [p1_ni e]
          exact g1 m (by omega)
      · rw [p1_at, if_neg (by omega)]
        exact g2 k m (by omega), by
      show fX10_make_L9 N (nI j) (nI n) (q + 1) s (nI i) = fX10_make_L9 N (nI j) (nI n) q _ (nI (i + 1))
      rw [fX10_make_L9, if_neg (by rw [nI_leI (by omega) (by omega)]; omega), inb_nI hj (by decide), inb_nI (show i < 60 by omega) (by decide), gd_true, gd_true, nx_eq, ej, cl (by omega), nI_1]⟩)
    N 0 (p1 S 16 j (nI n)) (by omega) (by omega) ⟨fun m hm => by omega, fun k m hk => rfl, rfl⟩
  refine ⟨t, ?_, ?_, h1.1, fun m hm => ?_, fun k m hk hm => ?_, h1.2.2⟩
  · unfold fX10_make
    rw [inb_nI hj (by decide), gd_true, nx_eq, ej]
    have e2 : fX10_make_L9 N (nI j) (nI n) N (p1 S 16 j (nI n)) 0 = some t := e1
    rw [e2]
    rfl
  · rw [h1.2.1 16 j (by omega), p1_eq]
  · rw [h1.2.1 (12 + j) m (Or.inr hm), p1_ne (by omega)]
  · rw [h1.2.1 k m (Or.inl hk), p1_at, if_neg hm]
theorem Y_row_L {N : Nat} (hN : 41 < N) (S : St) {j : Nat} (x : Int32) (hj : j < 6) : ∃ S', fY0_row_L34 N (nI j) x N S 0 = some S' ∧ (∀ m, m < 40 → S'.1 3 (40 * j + m) = 0) ∧ (∀ k m, ¬ (k = 3 ∧ 40 * j ≤ m ∧ m < 40 * j + 40) → S'.1 k m = S.1 k m) ∧ S'.2 = S.2 := by
  obtain ⟨t, e1, h1⟩ := loop_up (fun q s y => fY0_row_L34 N (nI j) x q s y) 40
    (fun i s => (∀ m, m < i → s.1 3 (40 * j + m) = 0) ∧ (∀ k m, ¬ (k = 3 ∧ 40 * j ≤ m ∧ m < 40 * j + 40) → s.1 k m = S.1 k m) ∧ s.2 = S.2)
    (fun s => (∀ m, m < 40 → s.1 3 (40 * j + m) = 0) ∧ (∀ k m, ¬ (k = 3 ∧ 40 * j ≤ m ∧ m < 40 * j + 40) → s.1 k m = S.1 k m) ∧ s.2 = S.2)
    (fun q s hI => ⟨s, by
      show fY0_row_L34 N (nI j) x (q + 1) s (nI 40) = _
      rw [fY0_row_L34, if_pos (by decide)], hI⟩)
    (fun q i s hi hI => Or.inr ⟨p1 s 3 (40 * j + i) 0, by
      obtain ⟨g1, g2, g3⟩ := hI
      refine ⟨fun m hm => ?_, fun k m hk => ?_, g3⟩
      · by_cases e : m = i
        · subst e
          rw [p1_eq]
        · rw [p1_ni (by omega)]
          exact g1 m (by omega)
      · rw [p1_at, if_neg (by omega)]
        exact g2 k m hk, by
      show fY0_row_L34 N (nI j) x (q + 1) s (nI i) = fY0_row_L34 N (nI j) x q _ (nI (i + 1))
      rw [fY0_row_L34, if_neg (by rw [show (40 : Int32) = nI 40 from rfl, nI_leI (by omega) (by omega)]; omega), ix40, inb_nI (show 40 * j + i < 240 by omega) (by decide), gd_true, nx_eq, cl (by omega), nI_1]⟩)
    N 0 S (by omega) (by omega) ⟨fun m hm => by omega, fun k m hk => rfl, rfl⟩
  exact ⟨t, e1, h1⟩
theorem Y_text_L {N : Nat} (hN : 61 < N) (S : St) {j : Nat} (x : Int32) (hj : j < 4) : ∃ S', fY0_text_L34 N (nI j) x N S 0 = some S' ∧ (∀ m, m < 60 → S'.1 6 (60 * j + m) = 32) ∧ (∀ k m, ¬ (k = 6 ∧ 60 * j ≤ m ∧ m < 60 * j + 60) → S'.1 k m = S.1 k m) ∧ S'.2 = S.2 := by
  obtain ⟨t, e1, h1⟩ := loop_up (fun q s y => fY0_text_L34 N (nI j) x q s y) 60
    (fun i s => (∀ m, m < i → s.1 6 (60 * j + m) = 32) ∧ (∀ k m, ¬ (k = 6 ∧ 60 * j ≤ m ∧ m < 60 * j + 60) → s.1 k m = S.1 k m) ∧ s.2 = S.2)
    (fun s => (∀ m, m < 60 → s.1 6 (60 * j + m) = 32) ∧ (∀ k m, ¬ (k = 6 ∧ 60 * j ≤ m ∧ m < 60 * j + 60) → s.1 k m = S.1 k m) ∧ s.2 = S.2)
    (fun q s hI => ⟨s, by
      show fY0_text_L34 N (nI j) x (q + 1) s (nI 60) = _
      rw [fY0_text_L34, if_pos (by decide)], hI⟩)
    (fun q i s hi hI => Or.inr ⟨p1 s 6 (60 * j + i) 32, by
      obtain ⟨g1, g2, g3⟩ := hI
      refine ⟨fun m hm => ?_, fun k m hk => ?_, g3⟩
      · by_cases e : m = i
        · subst e
          rw [p1_eq]
        · rw [p1_ni (by omega)]
          exact g1 m (by omega)
      · rw [p1_at, if_neg (by omega)]
        exact g2 k m hk, by
      show fY0_text_L34 N (nI j) x (q + 1) s (nI i) = fY0_text_L34 N (nI j) x q _ (nI (i + 1))
      rw [fY0_text_L34, if_neg (by rw [show (60 : Int32) = nI 60 from rfl, nI_leI (by omega) (by omega)]; omega), ix60, inb_nI (show 60 * j + i < 240 by omega) (by decide), gd_true, nx_eq, cl (by omega), nI_1]⟩)
    N 0 S (by omega) (by omega) ⟨fun m hm => by omega, fun k m hk => rfl, rfl⟩
  exact ⟨t, e1, h1⟩
