/-! row, lay, at, tear, copy, mean, text, put -/
theorem some_inj2 {α β : Type} {a c : α} {b d : β} (h : some (a, b) = some (c, d)) : a = c ∧ b = d := by cases h; exact ⟨rfl, rfl⟩
section O1
variable {S S' Y Y' : St}
/-- what a ROW's change does to the relation -/
theorem RR_row (h : RR S Y) {j : Nat} (hj : j < 6) (hr : rowR (S'.1 9 j) (S'.1 (3 + j)) (Y'.1 2 j) (fun i => Y'.1 3 (40 * j + i)) 40)
    (hS : ∀ k m, k ≠ 3 + j → ¬ (k = 9 ∧ m = j) → S'.1 k m = S.1 k m) (hY : ∀ k m, ¬ (k = 3 ∧ 40 * j ≤ m ∧ m < 40 * j + 40) → ¬ (k = 2 ∧ m = j) → k ≠ 4 → Y'.1 k m = Y.1 k m) (hS2 : S'.2 = S.2) (hY2 : Y'.2 = Y.2) : RR S' Y' := by
  have cS : ∀ k, k ≠ 3 + j → k ≠ 9 → S'.1 k = S.1 k := fun k h1 h2 => funext fun m => hS k m h1 (by omega)
  have cY : ∀ k, k ≠ 3 → k ≠ 2 → k ≠ 4 → Y'.1 k = Y.1 k := fun k h1 h2 h3 => funext fun m => hY k m (by omega) (by omega) h3
  obtain ⟨h1, h2, ⟨m1, m2, m3, m4, m5, m6, m7⟩, B, ok, bx, bY⟩ := h
  refine ⟨fun r hr2 => ?_, TextsR_c h2 (cS _ (by omega) (by omega)) (fun t ht => cS _ (by omega) (by omega)) (cY _ (by omega) (by omega) (by omega)) (cY _ (by omega) (by omega) (by omega)), ⟨?_, fun f hf => ?_, ?_, ?_, ?_, ?_, ?_⟩, B, ok, ?_, ?_⟩
  · by_cases e : r = j
    · subst e
      exact hr
    · have e1 : S'.1 (3 + r) = S.1 (3 + r) := cS _ (by omega) (by omega)
      have e2 : (fun i => Y'.1 3 (40 * r + i)) = fun i => Y'.1 3 (40 * r + i) := rfl
      rw [hS 9 r (by omega) (by omega), e1, hY 2 r (by omega) (by omega) (by omega)]
      rcases h1 r hr2 with q | ⟨n, q1, q2, q3, q4⟩
      · exact Or.inl q
      · refine Or.inr ⟨n, q1, q2, q3, fun i hi => ?_⟩
        rw [q4 i hi]
        exact (hY 3 _ (by omega) (by omega) (by omega)).symm
  · rw [hS 0 11 (by omega) (by omega), hY 0 0 (by omega) (by omega) (by omega)]; exact m1
  · rw [hS 53 f (by omega) (by omega), hY 1 f (by omega) (by omega) (by omega)]; exact m2 f hf
  · rw [hS 0 12 (by omega) (by omega), hY 0 2 (by omega) (by omega) (by omega)]; exact m3
  · rw [hS2, hY2]; exact m4
  · rw [hS2, hY2]; exact m5
  · rw [hS 1 2 (by omega) (by omega)]; exact m6
  · rw [hS 10 2 (by omega) (by omega)]; exact m7
  · exact BX_c bx (cS _ (by omega) (by omega)) (cS _ (by omega) (by omega)) (cS _ (by omega) (by omega)) (hS _ _ (by omega) (by omega)) (hS _ _ (by omega) (by omega)) (cS _ (by omega) (by omega)) (cS _ (by omega) (by omega)) (hS _ _ (by omega) (by omega)) (cS _ (by omega) (by omega)) (cS _ (by omega) (by omega)) (cS _ (by omega) (by omega))
  · exact BY_c bY (cY _ (by omega) (by omega) (by omega)) (cY _ (by omega) (by omega) (by omega)) (cY _ (by omega) (by omega) (by omega)) (hY _ _ (by omega) (by omega) (by omega)) (cY _ (by omega) (by omega) (by omega)) (hY _ _ (by omega) (by omega) (by omega)) (cY _ (by omega) (by omega) (by omega)) (cY _ (by omega) (by omega) (by omega)) (cY _ (by omega) (by omega) (by omega))
theorem RR_text (h : RR S Y) {j : Nat} (hj : j < 4) (hr : rowR (S'.1 16 j) (S'.1 (12 + j)) (Y'.1 5 j) (fun i => Y'.1 6 (60 * j + i)) 60) (hb : ∀ i, i < 60 → -128 ≤ (S'.1 (12 + j) i).toInt ∧ (S'.1 (12 + j) i).toInt < 128)
    (hS : ∀ k m, k ≠ 12 + j → ¬ (k = 16 ∧ m = j) → S'.1 k m = S.1 k m) (hY : ∀ k m, ¬ (k = 6 ∧ 60 * j ≤ m ∧ m < 60 * j + 60) → ¬ (k = 5 ∧ m = j) → Y'.1 k m = Y.1 k m) (hS2 : S'.2 = S.2) (hY2 : Y'.2 = Y.2) : RR S' Y' := by
  have cS : ∀ k, k ≠ 12 + j → k ≠ 16 → S'.1 k = S.1 k := fun k h1 h2 => funext fun m => hS k m h1 (by omega)
  have cY : ∀ k, k ≠ 6 → k ≠ 5 → Y'.1 k = Y.1 k := fun k h1 h2 => funext fun m => hY k m (by omega) (by omega)
  obtain ⟨h1, h2, ⟨m1, m2, m3, m4, m5, m6, m7⟩, B, ok, bx, bY⟩ := h
  refine ⟨RowsR_c h1 (cS _ (by omega) (by omega)) (fun t ht => cS _ (by omega) (by omega)) (cY _ (by omega) (by omega)) (cY _ (by omega) (by omega)), ⟨fun r hr2 => ?_, fun t ht i hi => ?_⟩, ⟨?_, fun f hf => ?_, ?_, ?_, ?_, ?_, ?_⟩, B, ok, ?_, ?_⟩
  · by_cases e : r = j
    · subst e
      exact hr
    · have e1 : S'.1 (12 + r) = S.1 (12 + r) := cS _ (by omega) (by omega)
      rw [hS 16 r (by omega) (by omega), e1, hY 5 r (by omega) (by omega)]
      rcases h2.1 r hr2 with q | ⟨n, q1, q2, q3, q4⟩
      · exact Or.inl q
      · refine Or.inr ⟨n, q1, q2, q3, fun i hi => ?_⟩
        rw [q4 i hi]
        exact (hY 6 _ (by omega) (by omega)).symm
  · by_cases e : t = j
    · subst e
      exact hb i hi
    · rw [cS (12 + t) (by omega) (by omega)]
      exact h2.2 t ht i hi
  · rw [hS 0 11 (by omega) (by omega), hY 0 0 (by omega) (by omega)]; exact m1
  · rw [hS 53 f (by omega) (by omega), hY 1 f (by omega) (by omega)]; exact m2 f hf
  · rw [hS 0 12 (by omega) (by omega), hY 0 2 (by omega) (by omega)]; exact m3
  · rw [hS2, hY2]; exact m4
  · rw [hS2, hY2]; exact m5
  · rw [hS 1 2 (by omega) (by omega)]; exact m6
  · rw [hS 10 2 (by omega) (by omega)]; exact m7
  · exact BX_c bx (cS _ (by omega) (by omega)) (cS _ (by omega) (by omega)) (cS _ (by omega) (by omega)) (hS _ _ (by omega) (by omega)) (hS _ _ (by omega) (by omega)) (cS _ (by omega) (by omega)) (cS _ (by omega) (by omega)) (hS _ _ (by omega) (by omega)) (cS _ (by omega) (by omega)) (cS _ (by omega) (by omega)) (cS _ (by omega) (by omega))
  · exact BY_c bY (cY _ (by omega) (by omega)) (cY _ (by omega) (by omega)) (cY _ (by omega) (by omega)) (hY _ _ (by omega) (by omega)) (cY _ (by omega) (by omega)) (hY _ _ (by omega) (by omega)) (cY _ (by omega) (by omega)) (cY _ (by omega) (by omega)) (cY _ (by omega) (by omega))
theorem RR_size (h : RR S Y) {j : Nat} (hj : j < 6) : (S.1 9 j = -1 ∧ Y.1 2 j = -9) ∨ ∃ n, n ≤ 40 ∧ S.1 9 j = nI n ∧ Y.1 2 j = nI n ∧ ∀ i, i < n → S.1 (3 + j) i = Y.1 3 (40 * j + i) := h.1 j hj
theorem nI_m1 {n : Nat} (h : n < 2 ^ 31) : ¬ nI n = -1 := fun q => by
  have := congrArg Int32.toInt q
  rw [nI_toInt h] at this
  have h1 : (-1 : Int32).toInt = -1 := by decide
  omega
theorem op1_row {N : Nat} (hN : 61 < N) : op_row N RR := by
  intro S Y a1 a2 hR
  simp only [fX0_row, fY0_row, XisRow, YisRow, bs]
  by_cases h : inb a1 6 = true
  · obtain ⟨j, hj, rfl⟩ := inb_ex h (by decide)
    rw [if_pos h, if_neg ne10, if_neg ne10]
    by_cases h40 : a2 ≤ 40
    · rw [if_pos h40, if_pos h40]
      by_cases h0 : 0 ≤ a2
      · rw [if_pos h0, if_pos h0]
        obtain ⟨n, hn, rfl⟩ := nI_of2 (M := 40) (n := 40) (by decide) (fun q => (fa_of_lt q).2.1 h0) h40
        obtain ⟨S', e1, x1, x2, x3, x4⟩ := X1_make (N := N) (by omega) S hj hn
        obtain ⟨Y', e2, y1, y2, y3⟩ := Y_row_L (N := N) (by omega) (p1 Y 2 j (nI n)) (nI n) hj
        refine ⟨nI n, S', Y', by rw [e1, bs], by rw [h, gd_true, nx_eq, cl (by omega), e2, bs], RR_row hR hj (Or.inr ⟨n, hn, x1, ?_, fun i hi => ?_⟩) x3 (fun k m h1 h2 h3 => ?_) x4 y3⟩
        · rw [y2 2 j (by omega), p1_eq]
        · show S'.1 (3 + j) i = Y'.1 3 (40 * j + i)
          rw [x2 i hi, y1 i (by omega), hR.2.2.1.2.2.2.2.2.1]
        · rw [y2 k m h1, p1_at, if_neg h2]
      · rw [if_neg h0, if_neg h0]
        obtain ⟨S', Y', e1, e2, hR'⟩ := found_R hR (f := 5) (by decide) (x := 5) rfl
        exact ⟨-3, S', Y', by rw [e1, bs], by rw [e2, bs], hR'⟩
    · rw [if_neg h40, if_neg h40]
      exact ⟨-1, S, Y, rfl, rfl, hR⟩
  · rw [if_neg h, if_pos rfl, if_pos rfl]
    exact ⟨-1, S, Y, rfl, rfl, hR⟩
theorem refRow (h : RR S Y) (x : Int32) : (∃ v S' Y', fX0_refuseRow S x = some (v, S') ∧ fY0_askedRow Y x = some (v, Y') ∧ v < 0 ∧ RR S' Y') ∨ ∃ j n, j < 6 ∧ x = nI j ∧ n ≤ 40 ∧ S.1 9 j = nI n ∧ Y.1 2 j = nI n ∧ (∀ i, i < n → S.1 (3 + j) i = Y.1 3 (40 * j + i)) ∧ fX0_refuseRow S x = some (0, S) ∧ fY0_askedRow Y x = some (0, Y) := by
  simp only [fX0_refuseRow, fY0_askedRow, XisRow, YisRow, bs]
  by_cases hb : inb x 6 = true
  · obtain ⟨j, hj, rfl⟩ := inb_ex hb (by decide)
    have ej : Int32.toNatClampNeg (nI j) = j := cl (by omega)
    simp only [if_pos hb, if_neg ne10, fX1_isThere, hb, gd_true, ej]
    rcases RR_size h hj with ⟨h1, h2⟩ | ⟨n, hn, h1, h2, h3⟩
    · left
      obtain ⟨S', Y', e1, e2, hR'⟩ := found_R h (f := 1) (by decide) (x := 1) rfl
      refine ⟨-3, S', Y', ?_, ?_, by decide, hR'⟩
      · rw [h1, if_pos rfl, bs, isb0, gd_true, bs, if_pos rfl, e1]; rfl
      · rw [h2, if_neg (by decide), e2]; rfl
    · right
      refine ⟨j, n, hj, rfl, hn, h1, h2, h3, ?_, ?_⟩
      · rw [h1, if_neg (nI_m1 (by omega)), bs, isb1, gd_true, bs, if_neg ne10]; rfl
      · rw [h2, if_pos (nI_pos' (by omega))]; rfl
  · left
    refine ⟨-1, S, Y, ?_, ?_, by decide, h⟩
    · rw [if_neg hb, if_pos rfl]
    · rw [if_neg hb, if_pos rfl]; rfl
theorem neg0 {v : Int32} (h : v < 0) : ¬ v = 0 := (fa_of_lt h).2.2.2.1
theorem negle {v : Int32} (h : v < 0) : ¬ 0 ≤ v := (fa_of_lt h).2.1
theorem op1_tear {N : Nat} : op_tear N RR := by
  intro S Y a1 hR
  simp only [fX0_tear, fY0_tear]
  rcases refRow hR a1 with ⟨v, S', Y', e1, e2, hv, hR'⟩ | ⟨j, n, hj, rfl, hn, h1, h2, h3, e1, e2⟩
  · rw [e1, e2, bs, bs, if_neg (neg0 hv), if_neg (negle hv)]
    exact ⟨v, S', Y', rfl, rfl, hR'⟩
  · rw [e1, e2, bs, bs, if_pos rfl, if_pos (show (0 : Int32) ≤ 0 by decide)]
    have ib : inb (nI j) 6 = true := inb_nI hj (by decide)
    refine ⟨1, p1 S 9 j (-1), p1 Y 2 j (-9), ?_, ?_, RR_row hR hj (Or.inl ⟨p1_eq, p1_eq⟩) (fun k m h4 h5 => by rw [p1_at, if_neg h5]) (fun k m h4 h5 h6 => by rw [p1_at, if_neg h5]) rfl rfl⟩
    · simp only [fX1_remove, ib, gd_true, nx_eq, cl (show j < 2 ^ 31 by omega), bs]
    · simp only [ib, gd_true, nx_eq, cl (show j < 2 ^ 31 by omega)]
theorem in_m1 {x : Int32} {n : Nat} (hn : n < 2 ^ 30) {d : Decidable (0 ≤ x ∧ x ≤ nI n - 1)} : (@ite Int32 (0 ≤ x ∧ x ≤ nI n - 1) d 1 0) = if inb x n = true then 1 else 0 := by
  apply if_inb
  rw [inb_iff, fa_le, fa_le, show (nI n - 1).toInt = (n : Int) - 1 from pk_sub_toInt (a := n) (b := 1) hn (by decide)]
  have h0 : (0 : Int32).toInt = 0 := by decide
  rw [h0]
  omega
theorem le_in {x : Int32} {n : Nat} (hn : n < 2 ^ 31) (h0 : ¬ x < 0) : nI n ≤ x ↔ ¬ inb x n = true := ⟨fun h => inb_hi hn h, fun h => by
  by_cases q : nI n ≤ x
  · exact q
  · exact absurd (inb_mid hn h0 q) h⟩
theorem refPlace (h : RR S Y) (x1 x2 : Int32) : (∃ v S' Y', fX0_refusePlace S x1 x2 = some (v, S') ∧ fY0_at Y x1 x2 = some (v, Y') ∧ v < 0 ∧ RR S' Y') ∨ ∃ j n i, j < 6 ∧ i < n ∧ n ≤ 40 ∧ x1 = nI j ∧ x2 = nI i ∧ S.1 9 j = nI n ∧ Y.1 2 j = nI n ∧ (∀ i, i < n → S.1 (3 + j) i = Y.1 3 (40 * j + i)) ∧ fX0_refusePlace S x1 x2 = some (0, S) ∧ fY0_at Y x1 x2 = some (1, p1 Y 0 2 (Y.1 3 (40 * j + i))) := by
  simp only [fX0_refusePlace, fY0_at]
  rcases refRow h x1 with ⟨v, S', Y', e1, e2, hv, hR'⟩ | ⟨j, n, hj, rfl, hn, h1, h2, h3, e1, e2⟩
  · left
    refine ⟨v, S', Y', ?_, ?_, hv, hR'⟩
    · rw [e1, bs, if_neg (neg0 hv)]
    · rw [e2, bs, if_neg (negle hv)]
  · have ib : inb (nI j) 6 = true := inb_nI hj (by decide)
    have ej : Int32.toNatClampNeg (nI j) = j := cl (by omega)
    simp only [e1, e2, bs, if_pos (show (0 : Int32) ≤ 0 by decide), ib, gd_true, ej, h2, Yin, in_m1 (show n < 2 ^ 30 by omega), fX1_sizeOf, h1, ↓reduceIte]
    by_cases hi : inb x2 n = true
    · obtain ⟨i, hi', rfl⟩ := inb_ex hi (by omega)
      right
      refine ⟨j, n, i, hj, hi', hn, rfl, rfl, h1, h2, h3, ?_, ?_⟩
      · rw [if_neg (inb_nn hi), if_neg (by rw [nI_leI (by omega) (by omega)]; omega)]
        rfl
      · rw [if_pos hi, if_neg ne10]
        simp only [fY0_rowAt, ix40, inb_nI (show 40 * j + i < 240 by omega) (by decide), gd_true, cl (show 40 * j + i < 2 ^ 31 by omega), bs, fY0_ask, nx_eq]
    · left
      obtain ⟨S', Y', f1, f2, hR'⟩ := found_R h (f := 2) (by decide) (x := 2) rfl
      refine ⟨-3, S', Y', ?_, ?_, by decide, hR'⟩
      · by_cases h0 : x2 < 0
        · rw [if_pos h0, f1]; rfl
        · rw [if_neg h0, if_pos ((le_in (by omega) h0).mpr hi), f1]; rfl
      · rw [if_neg hi, if_pos rfl, f2]; rfl
theorem X1_get_e (S : St) {j i : Nat} (hj : j < 6) (hi : i < 40) : fX1_get S (nI j) (nI i) = some (S.1 (3 + j) i) := by
  simp only [fX1_get, inb_nI hj (by decide), inb_nI hi (by decide), gd_true, cl (show j < 2 ^ 31 by omega), cl (show i < 2 ^ 31 by omega)]
theorem op1_at {N : Nat} : op_at N RR := by
  intro S Y a1 a2 hR
  simp only [fX0_at]
  rcases refPlace hR a1 a2 with ⟨v, S', Y', e1, e2, hv, hR'⟩ | ⟨j, n, i, hj, hi, hn, rfl, rfl, h1, h2, h3, e1, e2⟩
  · rw [e1, e2, bs, if_neg (neg0 hv)]
    exact ⟨v, S', Y', rfl, rfl, hR'⟩
  · rw [e1, e2, bs, if_pos rfl, X1_get_e S hj (by omega), bs, nx_eq, h3 i hi]
    exact ⟨1, _, _, rfl, rfl, RR_ask hR _⟩
theorem op1_lay {N : Nat} : op_lay N RR := by
  intro S Y a1 a2 a3 hR
  simp only [fX0_lay, fY0_lay]
  rcases refPlace hR a1 a2 with ⟨v, S', Y', e1, e2, hv, hR'⟩ | ⟨j, n, i, hj, hi, hn, rfl, rfl, h1, h2, h3, e1, e2⟩
  · rw [e1, e2, bs, bs, if_neg (neg0 hv), if_neg (negle hv)]
    exact ⟨v, S', Y', rfl, rfl, hR'⟩
  · have R2 := RR_ask hR (Y.1 3 (40 * j + i))
    rw [e1, e2, bs, bs, if_pos rfl, if_pos (show (0 : Int32) ≤ 1 by decide), X1_get_e S hj (by omega), bs, nx_eq, h3 i hi]
    simp only [fX1_set, inb_nI hj (by decide), inb_nI (show i < 40 by omega) (by decide), gd_true, nx_eq, cl (show j < 2 ^ 31 by omega), cl (show i < 2 ^ 31 by omega), bs, ix40, inb_nI (show 40 * j + i < 240 by omega) (by decide), cl (show 40 * j + i < 2 ^ 31 by omega)]
    refine ⟨1, _, _, rfl, rfl, RR_row R2 hj (Or.inr ⟨n, hn, ?_, ?_, fun m hm => ?_⟩) (fun k m h4 h5 => p1_ne h4) (fun k m h4 h5 h6 => by rw [p1_at, if_neg (by omega)]) rfl rfl⟩
    · rw [p1_ne (by omega), p1_ne (by omega), h1]
    · rw [p1_ne (by omega), p1_ne (by omega), h2]
    · show (p1 _ (3 + j) i a3).1 (3 + j) m = (p1 _ 3 (40 * j + i) a3).1 3 (40 * j + m)
      by_cases e : m = i
      · subst e
        rw [p1_eq, p1_eq]
      · rw [p1_ni e, p1_ne (show 3 + j ≠ 0 by omega), p1_ni (show 40 * j + m ≠ 40 * j + i by omega), p1_ne (show (3 : Nat) ≠ 0 by decide)]
        exact h3 m hm
/-- a sum of ints as longs, in order -/
def sumL (f : Nat → Int32) : Nat → Int64
  | 0 => 0
  | n + 1 => sumL f n + (f n).toInt64
theorem sumL_c {f g : Nat → Int32} : ∀ {n : Nat}, (∀ i, i < n → f i = g i) → sumL f n = sumL g n
  | 0, _ => rfl
  | n + 1, h => by rw [sumL, sumL, sumL_c (fun i hi => h i (by omega)), h n (by omega)]
theorem X1_addUp_e {N : Nat} (hN : 41 < N) (S : St) {j n : Nat} (hj : j < 6) (hn : n ≤ 40) (h1 : S.1 9 j = nI n) : fX1_addUp N S (nI j) = some (sumL (S.1 (3 + j)) n) := by
  have ib : inb (nI j) 6 = true := inb_nI hj (by decide)
  obtain ⟨t, e1, h2⟩ := loop_up (fun q (s : Int64) x => fX1_addUp_L5 N S (nI j) q s x) n (fun i s => s = sumL (S.1 (3 + j)) i) (fun t => t = sumL (S.1 (3 + j)) n)
    (fun q s hI => ⟨s, by
      show fX1_addUp_L5 N S (nI j) (q + 1) s (nI n) = _
      rw [fX1_addUp_L5, ib, gd_true, cl (show j < 2 ^ 31 by omega), h1, if_pos (fa_of_nlt (by rw [nI_ltI (by omega) (by omega)]; omega))], hI⟩)
    (fun q i s hi hI => Or.inr ⟨s + (S.1 (3 + j) i).toInt64, by rw [hI, sumL], by
      show fX1_addUp_L5 N S (nI j) (q + 1) s (nI i) = fX1_addUp_L5 N S (nI j) q _ (nI (i + 1))
      rw [fX1_addUp_L5, ib, gd_true, cl (show j < 2 ^ 31 by omega), h1, if_neg (by rw [nI_leI (by omega) (by omega)]; omega), gd_true, inb_nI (show i < 40 by omega) (by decide), gd_true, nx_eq, cl (show i < 2 ^ 31 by omega), nI_1]⟩)
    N 0 0 (by omega) (by omega) rfl
  unfold fX1_addUp
  have e2 : fX1_addUp_L5 N S (nI j) N 0 0 = some t := e1
  rw [e2, bs, h2]
theorem Y_mean_L {N : Nat} (hN : 41 < N) (S : St) {j n : Nat} (hj : j < 6) (hn : n ≤ 40) (h1 : S.1 2 j = nI n) : fY0_mean_L17 N S (nI j) N 0 0 = some (sumL (fun i => S.1 3 (40 * j + i)) n) := by
  have ib : inb (nI j) 6 = true := inb_nI hj (by decide)
  obtain ⟨t, e1, h2⟩ := loop_up (fun q (s : Int64) x => fY0_mean_L17 N S (nI j) q s x) n (fun i s => s = sumL (fun i => S.1 3 (40 * j + i)) i) (fun t => t = sumL (fun i => S.1 3 (40 * j + i)) n)
    (fun q s hI => ⟨s, by
      show fY0_mean_L17 N S (nI j) (q + 1) s (nI n) = _
      rw [fY0_mean_L17, ib, gd_true, cl (show j < 2 ^ 31 by omega), h1, if_pos (fa_of_nlt (by rw [nI_ltI (by omega) (by omega)]; omega))], hI⟩)
    (fun q i s hi hI => Or.inr ⟨s + (S.1 3 (40 * j + i)).toInt64, by rw [hI, sumL], by
      show fY0_mean_L17 N S (nI j) (q + 1) s (nI i) = fY0_mean_L17 N S (nI j) q _ (nI (i + 1))
      rw [fY0_mean_L17, ib, gd_true, cl (show j < 2 ^ 31 by omega), h1, if_neg (by rw [nI_leI (by omega) (by omega)]; omega)]
      simp only [fY0_rowAt, ix40, inb_nI (show 40 * j + i < 240 by omega) (by decide), gd_true, cl (show 40 * j + i < 2 ^ 31 by omega), bs, nx_eq, nI_1]⟩)
    N 0 0 (by omega) (by omega) rfl
  have e2 : fY0_mean_L17 N S (nI j) N 0 0 = some t := e1
  rw [e2, h2]
theorem op1_mean {N : Nat} (hN : 61 < N) : op_mean N RR := by
  intro S Y a1 hR
  simp only [fX0_mean, fY0_mean]
  rcases refRow hR a1 with ⟨v, S', Y', e1, e2, hv, hR'⟩ | ⟨j, n, hj, rfl, hn, h1, h2, h3, e1, e2⟩
  · rw [e1, e2, bs, bs, if_neg (neg0 hv), if_neg (negle hv)]
    exact ⟨v, S', Y', rfl, rfl, hR'⟩
  · have ib : inb (nI j) 6 = true := inb_nI hj (by decide)
    have es : sumL (S.1 (3 + j)) n = sumL (fun i => Y.1 3 (40 * j + i)) n := sumL_c h3
    simp only [e1, e2, bs, if_pos (show (0 : Int32) ≤ 0 by decide), ↓reduceIte, ib, gd_true, cl (show j < 2 ^ 31 by omega), fX1_sizeOf, h1, h2, X1_addUp_e (show 41 < N by omega) S hj hn h1, Y_mean_L (show 41 < N by omega) Y hj hn h2, es]
    by_cases h0 : n = 0
    · subst h0
      obtain ⟨S', Y', f1, f2, hR'⟩ := found_R hR (f := 4) (by decide) (x := 4) rfl
      refine ⟨-3, S', Y', ?_, ?_, hR'⟩
      · rw [if_neg (by decide), f1]; rfl
      · rw [if_pos (by decide), f2]; rfl
    · have hz : ¬ (nI n).toInt64 = 0 := by
        rw [show (0 : Int64) = (nI 0).toInt64 from rfl, fa_wide_eq, nI_eq (by omega) (by omega)]
        exact h0
      have hz2 : (!decide ((nI n).toInt64 = 0)) = true := by simp [hz]
      refine ⟨1, p1 S 0 12 (Int64.toInt32 (sumL (fun i => Y.1 3 (40 * j + i)) n / (nI n).toInt64)), p1 Y 0 2 (Int64.toInt32 (sumL (fun i => Y.1 3 (40 * j + i)) n / (nI n).toInt64)), ?_, ?_, RR_ask hR _⟩
      · rw [if_pos (by rw [show (0 : Int32) = nI 0 from rfl, nI_ltI (by omega) (by omega)]; omega), hz2, gd_true, nx_eq]
      · rw [if_neg (nI_ne0 (by omega) (by omega)), hz2, gd_true]
        simp only [fY0_ask, nx_eq, bs]
theorem op1_text {N : Nat} (hN : 61 < N) : op_text N RR := by
  intro S Y a1 a2 hR
  simp only [fX0_text, fY0_text, XisText, YisText, bs]
  by_cases h : inb a1 4 = true
  · obtain ⟨j, hj, rfl⟩ := inb_ex h (by decide)
    rw [if_pos h, if_neg ne10, if_neg ne10]
    by_cases h40 : a2 ≤ 60
    · rw [if_pos h40, if_pos h40]
      by_cases h0 : 0 ≤ a2
      · rw [if_pos h0, if_pos h0]
        obtain ⟨n, hn, rfl⟩ := nI_of2 (M := 60) (n := 60) (by decide) (fun q => (fa_of_lt q).2.1 h0) h40
        obtain ⟨S', e1, x1, x2, x2', x3, x4⟩ := X10_make (N := N) (by omega) S hj hn
        obtain ⟨Y', e2, y1, y2, y3⟩ := Y_text_L (N := N) (by omega) (p1 Y 5 j (nI n)) (nI n) hj
        refine ⟨nI n, S', Y', by rw [e1, bs], by rw [h, gd_true, nx_eq, cl (by omega), e2, bs], RR_text hR hj (Or.inr ⟨n, hn, x1, ?_, fun i hi => ?_⟩) (fun i hi => ?_) x3 (fun k m h1 h2 => ?_) x4 y3⟩
        · rw [y2 5 j (by omega), p1_eq]
        · show S'.1 (12 + j) i = Y'.1 6 (60 * j + i)
          rw [x2 i hi, y1 i (by omega), hR.2.2.1.2.2.2.2.2.2]
        · by_cases q : i < n
          · rw [x2 i q, hR.2.2.1.2.2.2.2.2.2]; decide
          · rw [x2' i (by omega)]; exact hR.2.1.2 j hj i hi
        · rw [y2 k m h1, p1_at, if_neg h2]
      · rw [if_neg h0, if_neg h0]
        obtain ⟨S', Y', e1, e2, hR'⟩ := found_R hR (f := 5) (by decide) (x := 5) rfl
        exact ⟨-3, S', Y', by rw [e1, bs], by rw [e2, bs], hR'⟩
    · rw [if_neg h40, if_neg h40]
      exact ⟨-1, S, Y, rfl, rfl, hR⟩
  · rw [if_neg h, if_pos rfl, if_pos rfl]
    exact ⟨-1, S, Y, rfl, rfl, hR⟩
theorem refText (h : RR S Y) (x : Int32) : (∃ v S' Y', fX0_refuseText S x = some (v, S') ∧ fY0_askedText Y x = some (v, Y') ∧ v < 0 ∧ RR S' Y') ∨ ∃ j n, j < 4 ∧ x = nI j ∧ n ≤ 60 ∧ S.1 16 j = nI n ∧ Y.1 5 j = nI n ∧ (∀ i, i < n → S.1 (12 + j) i = Y.1 6 (60 * j + i)) ∧ fX0_refuseText S x = some (0, S) ∧ fY0_askedText Y x = some (0, Y) := by
  simp only [fX0_refuseText, fY0_askedText, XisText, YisText, bs]
  by_cases hb : inb x 4 = true
  · obtain ⟨j, hj, rfl⟩ := inb_ex hb (by decide)
    have ej : Int32.toNatClampNeg (nI j) = j := cl (by omega)
    simp only [if_pos hb, if_neg ne10, fX10_isThere, hb, gd_true, ej]
    rcases h.2.1.1 j hj with ⟨h1, h2⟩ | ⟨n, hn, h1, h2, h3⟩
    · left
      obtain ⟨S', Y', e1, e2, hR'⟩ := found_R h (f := 1) (by decide) (x := 1) rfl
      refine ⟨-3, S', Y', ?_, ?_, by decide, hR'⟩
      · rw [h1, if_pos rfl, bs, isb0, gd_true, bs, if_pos rfl, e1]; rfl
      · rw [h2, if_neg (by decide), e2]; rfl
    · right
      refine ⟨j, n, hj, rfl, hn, h1, h2, h3, ?_, ?_⟩
      · rw [h1, if_neg (nI_m1 (by omega)), bs, isb1, gd_true, bs, if_neg ne10]; rfl
      · rw [h2, if_pos (nI_pos' (by omega))]; rfl
  · left
    refine ⟨-1, S, Y, ?_, ?_, by decide, h⟩
    · rw [if_neg hb, if_pos rfl]
    · rw [if_neg hb, if_pos rfl]; rfl
theorem op1_put {N : Nat} : op_put N RR := by
  intro S Y a1 a2 a3 hR
  simp only [fX0_put, fY0_put]
  rcases refText hR a1 with ⟨v, S', Y', e1, e2, hv, hR'⟩ | ⟨j, n, hj, rfl, hn, h1, h2, h3, e1, e2⟩
  · rw [e1, e2, bs, bs, if_neg (neg0 hv), if_neg (negle hv)]
    exact ⟨v, S', Y', rfl, rfl, hR'⟩
  · have ib : inb (nI j) 4 = true := inb_nI hj (by decide)
    have ej : Int32.toNatClampNeg (nI j) = j := cl (by omega)
    simp only [e1, e2, bs, if_pos (show (0 : Int32) ≤ 0 by decide), ib, gd_true, ej, h2, Yin, in_m1 (show n < 2 ^ 30 by omega), fX10_sizeOf, h1, ↓reduceIte]
    by_cases hi : inb a2 n = true
    · obtain ⟨i, hi', rfl⟩ := inb_ex hi (by omega)
      simp only [fX10_get, fX10_set, ↓reduceIte, if_neg (inb_nn hi), if_pos ((nI_ltI (show i < 2 ^ 31 by omega) (show n < 2 ^ 31 by omega)).mpr hi'), if_pos hi, if_neg ne10, ib, gd_true, inb_nI (show i < 60 by omega) (by decide), ej, cl (show i < 2 ^ 31 by omega), bs, nx_eq, ix60, inb_nI (show 60 * j + i < 240 by omega) (by decide), cl (show 60 * j + i < 2 ^ 31 by omega)]
      refine ⟨_, p1 S (12 + j) i ((Int32.toInt8 a3).toInt32), p1 Y 6 (60 * j + i) ((Int32.toInt8 a3).toInt32), rfl, by rw [h3 i hi'], RR_text hR hj (Or.inr ⟨n, hn, ?_, ?_, fun m hm => ?_⟩) (fun m hm => ?_) (fun k m h4 h5 => p1_ne h4) (fun k m h4 h5 => by rw [p1_at, if_neg (by omega)]) rfl rfl⟩
      · rw [p1_ne (by omega), h1]
      · rw [p1_ne (by omega), h2]
      · show (p1 _ (12 + j) i _).1 (12 + j) m = (p1 _ 6 (60 * j + i) _).1 6 (60 * j + m)
        by_cases e : m = i
        · subst e
          rw [p1_eq, p1_eq]
        · rw [p1_ni e, p1_ni (by omega)]
          exact h3 m hm
      · by_cases e : m = i
        · subst e
          rw [p1_eq]
          exact fb_byte_rng a3
        · rw [p1_ni e]
          exact hR.2.1.2 j hj m hm
    · obtain ⟨S', Y', f1, f2, hR'⟩ := found_R hR (f := 2) (by decide) (x := 2) rfl
      refine ⟨-3, S', Y', ?_, ?_, hR'⟩
      · by_cases h0 : a2 < 0
        · rw [if_pos h0, f1]; rfl
        · rw [if_neg h0, if_neg (fun q => (fa_of_lt q).2.1 ((le_in (by omega) h0).mpr hi)), f1]; rfl
      · rw [if_neg hi, if_pos rfl, f2]; rfl
end O1
