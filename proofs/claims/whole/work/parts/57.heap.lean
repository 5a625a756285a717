/-! heap -/
section O5
variable {S S' Y Y' : St} {B : Bk}
theorem num_iff {x : Int32} : inb x 100 = true ↔ ¬ x < 0 ∧ x ≤ 99 := by
  constructor
  · intro h
    refine ⟨inb_nn h, ?_⟩
    rw [fa_le]
    have := (inb_iff.mp h).2
    have e : (99 : Int32).toInt = 99 := by decide
    omega
  · intro h
    rw [inb_iff]
    have h1 := (fa_le _ _).mp h.2
    have h2 := h.1
    rw [fa_lt] at h2
    have e : (99 : Int32).toInt = 99 := by decide
    have e0 : (0 : Int32).toInt = 0 := by decide
    omega
theorem X1_within {N : Nat} (hN : 61 < N) (S : St) {r n : Nat} (hr : r < 6) (hn : n ≤ 40) (h1 : S.1 9 r = nI n) : ∃ v, fX1_allWithin N S (nI r) 0 99 = some v ∧ ((v = 1 ∧ ∀ i, i < n → inb (S.1 (3 + r) i) 100 = true) ∨ (v = 0 ∧ ∃ i, i < n ∧ ¬ inb (S.1 (3 + r) i) 100 = true)) := by
  have ib : inb (nI r) 6 = true := inb_nI hr (by decide)
  have er : Int32.toNatClampNeg (nI r) = r := cl (by omega)
  obtain ⟨t, e1, h2⟩ := loop_up (fun q (_ : Unit) x => fX1_allWithin_L3 N S (nI r) 0 99 q x) n
    (fun i _ => ∀ m, m < i → inb (S.1 (3 + r) m) 100 = true)
    (fun t => (t = .inr () ∧ ∀ i, i < n → inb (S.1 (3 + r) i) 100 = true) ∨ (t = .inl 0 ∧ ∃ i, i < n ∧ ¬ inb (S.1 (3 + r) i) 100 = true))
    (fun q s hI => ⟨.inr (), by
      show fX1_allWithin_L3 N S (nI r) 0 99 (q + 1) (nI n) = _
      rw [fX1_allWithin_L3, ib, gd_true, er, h1, if_pos (fa_of_nlt (by rw [nI_ltI (by omega) (by omega)]; omega))], Or.inl ⟨rfl, hI⟩⟩)
    (fun q i s hi hI => by
      have e : fX1_allWithin_L3 N S (nI r) 0 99 (q + 1) (nI i) = if (S.1 (3 + r) i) < 0 then some (.inl 0) else if (S.1 (3 + r) i) ≤ 99 then fX1_allWithin_L3 N S (nI r) 0 99 q (nI (i + 1)) else some (.inl 0) := by
        rw [fX1_allWithin_L3, ib, gd_true, er, h1, if_neg (by rw [nI_leI (by omega) (by omega)]; omega), inb_nI (show i < 40 by omega) (by decide), cl (show i < 2 ^ 31 by omega), nI_1]
        rfl
      show (∃ t, fX1_allWithin_L3 N S (nI r) 0 99 (q + 1) (nI i) = some t ∧ _) ∨ _
      rw [e]
      by_cases b1 : (S.1 (3 + r) i) < 0
      · rw [if_pos b1]
        exact Or.inl ⟨_, rfl, Or.inr ⟨rfl, i, hi, fun q => (num_iff.mp q).1 b1⟩⟩
      · rw [if_neg b1]
        by_cases b2 : (S.1 (3 + r) i) ≤ 99
        · rw [if_pos b2]
          refine Or.inr ⟨(), fun m hm => ?_, rfl⟩
          by_cases e3 : m = i
          · subst e3; exact num_iff.mpr ⟨b1, b2⟩
          · exact hI m (by omega)
        · rw [if_neg b2]
          exact Or.inl ⟨_, rfl, Or.inr ⟨rfl, i, hi, fun q => b2 (num_iff.mp q).2⟩⟩)
    N 0 () (by omega) (by omega) (fun m hm => by omega)
  have e2 : fX1_allWithin_L3 N S (nI r) 0 99 N 0 = some t := e1
  unfold fX1_allWithin
  rw [e2, bs]
  rcases h2 with ⟨rfl, h3⟩ | ⟨rfl, h3⟩
  · exact ⟨1, rfl, Or.inl ⟨rfl, h3⟩⟩
  · exact ⟨0, rfl, Or.inr ⟨rfl, h3⟩⟩
theorem Y_good {N : Nat} (hN : 61 < N) (Y : St) {r n : Nat} (hr : r < 6) (hn : n ≤ 40) (h1 : Y.1 2 r = nI n) : ∃ v, fY0_heap_L34 N Y (nI r) N 1 0 = some v ∧ ((v = 1 ∧ ∀ i, i < n → inb (Y.1 3 (40 * r + i)) 100 = true) ∨ (v = 0 ∧ ∃ i, i < n ∧ ¬ inb (Y.1 3 (40 * r + i)) 100 = true)) := by
  have ib : inb (nI r) 6 = true := inb_nI hr (by decide)
  have er : Int32.toNatClampNeg (nI r) = r := cl (by omega)
  obtain ⟨t, e1, h2⟩ := loop_up (fun q (s : Int32) x => fY0_heap_L34 N Y (nI r) q s x) n
    (fun i s => (s = 1 ∧ ∀ m, m < i → inb (Y.1 3 (40 * r + m)) 100 = true) ∨ (s = 0 ∧ ∃ m, m < i ∧ ¬ inb (Y.1 3 (40 * r + m)) 100 = true))
    (fun t => (t = 1 ∧ ∀ i, i < n → inb (Y.1 3 (40 * r + i)) 100 = true) ∨ (t = 0 ∧ ∃ i, i < n ∧ ¬ inb (Y.1 3 (40 * r + i)) 100 = true))
    (fun q s hI => ⟨s, by
      show fY0_heap_L34 N Y (nI r) (q + 1) s (nI n) = _
      rw [fY0_heap_L34, ib, gd_true, er, h1, if_pos (fa_of_nlt (by rw [nI_ltI (by omega) (by omega)]; omega))], hI⟩)
    (fun q i s hi hI => by
      have e : fY0_heap_L34 N Y (nI r) (q + 1) s (nI i) = fY0_heap_L34 N Y (nI r) q (if s = 0 then 0 else if inb (Y.1 3 (40 * r + i)) 100 = true then 1 else 0) (nI (i + 1)) := by
        rw [fY0_heap_L34, ib, gd_true, er, h1, if_neg (by rw [nI_leI (by omega) (by omega)]; omega)]
        simp only [fY0_rowAt, ix40, inb_nI (show 40 * r + i < 240 by omega) (by decide), gd_true, cl (show 40 * r + i < 2 ^ 31 by omega), bs, YisNumber, nI_1]
        by_cases z : s = 0
        · rw [if_pos z, if_pos z]; rfl
        · rw [if_neg z, if_neg z]
          by_cases w : inb (Y.1 3 (40 * r + i)) 100 = true
          · rw [if_pos w, if_neg ne10]; rfl
          · rw [if_neg w, if_pos rfl]; rfl
      refine Or.inr ⟨_, ?_, e⟩
      rcases hI with ⟨rfl, h3⟩ | ⟨rfl, m, h3, h4⟩
      · rw [if_neg ne10]
        by_cases w : inb (Y.1 3 (40 * r + i)) 100 = true
        · rw [if_pos w]
          refine Or.inl ⟨rfl, fun m hm => ?_⟩
          by_cases e3 : m = i
          · subst e3; exact w
          · exact h3 m (by omega)
        · rw [if_neg w]
          exact Or.inr ⟨rfl, i, by omega, w⟩
      · rw [if_pos rfl]
        exact Or.inr ⟨rfl, m, by omega, h4⟩)
    N 0 1 (by omega) (by omega) (Or.inl ⟨rfl, fun m hm => by omega⟩)
  exact ⟨t, e1, h2⟩
theorem X22_take1 {N : Nat} (hN : 101 < N) (S : St) (x : Int32) : ∃ S', fX22_take_L2 N x N S 0 = some S' ∧ (∀ v, v < 100 → S'.1 24 v = 0) ∧ (∀ k q, k ≠ 24 → S'.1 k q = S.1 k q) ∧ S'.2 = S.2 := by
  obtain ⟨t, e1, h1⟩ := loop_up (fun q s y => fX22_take_L2 N x q s y) 100
    (fun i s => (∀ v, v < i → s.1 24 v = 0) ∧ (∀ k q, k ≠ 24 → s.1 k q = S.1 k q) ∧ s.2 = S.2)
    (fun s => (∀ v, v < 100 → s.1 24 v = 0) ∧ (∀ k q, k ≠ 24 → s.1 k q = S.1 k q) ∧ s.2 = S.2)
    (fun q s hI => ⟨s, by
      show fX22_take_L2 N x (q + 1) s (nI 100) = _
      rw [fX22_take_L2, if_pos (by decide)], hI⟩)
    (fun q i s hi hI => Or.inr ⟨p1 s 24 i 0, by
      obtain ⟨g1, g2, g3⟩ := hI
      refine ⟨fun v hv => ?_, fun k q hk => ?_, g3⟩
      · by_cases e : v = i
        · subst e; rw [p1_eq]
        · rw [p1_ni e]; exact g1 v (by omega)
      · rw [p1_ne hk]; exact g2 k q hk, by
      show fX22_take_L2 N x (q + 1) s (nI i) = fX22_take_L2 N x q _ (nI (i + 1))
      rw [fX22_take_L2, if_neg (by rw [show (100 : Int32) = nI 100 from rfl, nI_leI (by omega) (by omega)]; omega), inb_nI hi (by decide), gd_true, nx_eq, cl (by omega), nI_1]⟩)
    N 0 S (by omega) (by omega) ⟨fun v hv => by omega, fun k q hk => rfl, rfl⟩
  exact ⟨t, e1, h1⟩
theorem X22_take2 {N : Nat} (hN : 101 < N) (S : St) {r n : Nat} (hr : r < 6) (hn : n ≤ 12) (w : Nat → Nat) (hw : ∀ i, i < n → w i < 100 ∧ S.1 (3 + r) i = nI (w i)) (h0 : ∀ v, v < 100 → S.1 24 v = 0) (h22 : S.1 22 2 = nI n) : ∃ S', fX22_take_L37 N (nI r) N S 0 = some S' ∧ (∀ i, i < n → S'.1 23 i = nI (w i)) ∧ (∀ v, v < 100 → S'.1 24 v = nI (fb_ct (fun i => decide (w i = v)) n)) ∧ (∀ k q, k ≠ 23 → k ≠ 24 → S'.1 k q = S.1 k q) ∧ S'.2 = S.2 := by
  obtain ⟨t, e1, h1⟩ := loop_up (fun q s y => fX22_take_L37 N (nI r) q s y) n
    (fun i s => (∀ m, m < i → s.1 23 m = nI (w m)) ∧ (∀ v, v < 100 → s.1 24 v = nI (fb_ct (fun j => decide (w j = v)) i)) ∧ (∀ k q, k ≠ 23 → k ≠ 24 → s.1 k q = S.1 k q) ∧ s.2 = S.2)
    (fun s => (∀ i, i < n → s.1 23 i = nI (w i)) ∧ (∀ v, v < 100 → s.1 24 v = nI (fb_ct (fun i => decide (w i = v)) n)) ∧ (∀ k q, k ≠ 23 → k ≠ 24 → s.1 k q = S.1 k q) ∧ s.2 = S.2)
    (fun q s hI => ⟨s, by
      show fX22_take_L37 N (nI r) (q + 1) s (nI n) = _
      rw [fX22_take_L37, hI.2.2.1 22 2 (by decide) (by decide), h22, if_pos (fa_of_nlt (by rw [nI_ltI (by omega) (by omega)]; omega))], hI⟩)
    (fun q i s hi hI => Or.inr ⟨p1 (p1 s 23 i (nI (w i))) 24 (w i) (nI (fb_ct (fun j => decide (w j = w i)) i + 1)), by
      obtain ⟨g1, g2, g3, g4⟩ := hI
      refine ⟨fun m hm => ?_, fun v hv => ?_, fun k q hk1 hk2 => ?_, g4⟩
      · rw [p1_ne (by decide)]
        by_cases e : m = i
        · subst e; rw [p1_eq]
        · rw [p1_ni e]; exact g1 m (by omega)
      · rw [fb_ct_succ]
        by_cases e : v = w i
        · subst e; rw [p1_eq, if_pos (by simp)]
        · rw [p1_ni e, p1_ne (by decide), if_neg (by simp; omega)]; exact g2 v hv
      · rw [p1_ne hk2, p1_ne hk1]; exact g3 k q hk1 hk2, by
      obtain ⟨g1, g2, g3, g4⟩ := hI
      show fX22_take_L37 N (nI r) (q + 1) s (nI i) = fX22_take_L37 N (nI r) q _ (nI (i + 1))
      have eg : fX1_get s (nI r) (nI i) = some (nI (w i)) := by
        rw [X1_get_e s hr (by omega), g3 _ _ (by omega) (by omega), (hw i hi).2]
      rw [fX22_take_L37, g3 22 2 (by decide) (by decide), h22, if_neg (by rw [nI_leI (by omega) (by omega)]; omega), eg, bs, inb_nI (show i < 12 by omega) (by decide), gd_true, nx_eq, gd_true, cl (show i < 2 ^ 31 by omega), p1_eq, inb_nI (hw i hi).1 (by decide), gd_true, gd_true, nx_eq, cl (show w i < 2 ^ 31 by have := (hw i hi).1; omega), p1_ne (by decide), g2 _ (hw i hi).1, nI_1, nI_1]⟩)
    N 0 S (by omega) (by omega) ⟨fun m hm => by omega, fun v hv => h0 v hv, fun k q _ _ => rfl, rfl⟩
  exact ⟨t, e1, h1⟩
theorem Y_heap2 {N : Nat} (hN : 101 < N) (Y : St) {r n : Nat} (hr : r < 6) (hn : n ≤ 12) (h22 : Y.1 0 22 = nI n) : ∃ Y', fY0_heap_L97 N (nI r) N Y 0 = some Y' ∧ (∀ i, i < n → Y'.1 16 i = Y.1 3 (40 * r + i)) ∧ (∀ k q, k ≠ 16 → Y'.1 k q = Y.1 k q) ∧ Y'.2 = Y.2 := by
  obtain ⟨t, e1, h1⟩ := loop_up (fun q s y => fY0_heap_L97 N (nI r) q s y) n
    (fun i s => (∀ m, m < i → s.1 16 m = Y.1 3 (40 * r + m)) ∧ (∀ k q, k ≠ 16 → s.1 k q = Y.1 k q) ∧ s.2 = Y.2)
    (fun s => (∀ i, i < n → s.1 16 i = Y.1 3 (40 * r + i)) ∧ (∀ k q, k ≠ 16 → s.1 k q = Y.1 k q) ∧ s.2 = Y.2)
    (fun q s hI => ⟨s, by
      show fY0_heap_L97 N (nI r) (q + 1) s (nI n) = _
      rw [fY0_heap_L97, hI.2.1 0 22 (by decide), h22, if_pos (fa_of_nlt (by rw [nI_ltI (by omega) (by omega)]; omega))], hI⟩)
    (fun q i s hi hI => Or.inr ⟨p1 s 16 i (Y.1 3 (40 * r + i)), by
      obtain ⟨g1, g2, g3⟩ := hI
      refine ⟨fun v hv => ?_, fun k q hk => ?_, g3⟩
      · by_cases e : v = i
        · subst e; rw [p1_eq]
        · rw [p1_ni e]; exact g1 v (by omega)
      · rw [p1_ne hk]; exact g2 k q hk, by
      show fY0_heap_L97 N (nI r) (q + 1) s (nI i) = fY0_heap_L97 N (nI r) q _ (nI (i + 1))
      rw [fY0_heap_L97, hI.2.1 0 22 (by decide), h22, if_neg (by rw [nI_leI (by omega) (by omega)]; omega)]
      simp only [fY0_rowAt, ix40, inb_nI (show 40 * r + i < 240 by omega) (by decide), inb_nI (show i < 12 by omega) (by decide), gd_true, cl (show 40 * r + i < 2 ^ 31 by omega), cl (show i < 2 ^ 31 by omega), bs, nx_eq, nI_1, hI.2.1 3 _ (show (3 : Nat) ≠ 16 by decide)]⟩)
    N 0 Y (by omega) (by omega) ⟨fun v hv => by omega, fun k q hk => rfl, rfl⟩
  exact ⟨t, e1, h1⟩
theorem op5_heap {N : Nat} (hN : 101 < N) : op_heap N RR := by
  intro S Y a1 h
  rcases refRow h a1 with ⟨v, S', Y', e1, e2, hv, hR'⟩ | ⟨j, n, hj, rfl, hn, h1, h2, h3, e1, e2⟩
  · refine ⟨v, S', Y', ?_, ?_, hR'⟩
    · rw [fX0_heap, e1, bs, if_neg (neg0 hv)]
    · rw [fY0_heap, e2, bs, if_neg (negle hv)]
  have ib : inb (nI j) 6 = true := inb_nI hj (by decide)
  have ej : Int32.toNatClampNeg (nI j) = j := cl (by omega)
  have X0 : fX0_heap N S (nI j) = if nI n ≤ 12 then (Option.bind (fX1_allWithin N S (nI j) 0 99) fun t7 => if t7 = 0 then (Option.bind (fX0_found S 3) fun t14 => some (t14.1, t14.2)) else Option.bind (fX22_take N S (nI j)) fun t10 => Option.bind (fX22_howMany t10) fun t12 => some (t12, t10)) else Option.bind (fX0_found S 5) fun t16 => some (t16.1, t16.2) := by
    rw [fX0_heap, e1, bs, if_pos rfl, fX1_sizeOf, ib, gd_true, ej, h1, bs]
  have Y0 : fY0_heap N Y (nI j) = if nI n ≤ 12 then (Option.bind (fY0_heap_L34 N Y (nI j) N 1 0) fun t17 => if t17 = 0 then (Option.bind (fY0_meets Y 3) fun t31 => some (t31.1, t31.2)) else nx (p1 Y 0 22 (nI n)) fun s21 => Option.bind (fY0_heap_L97 N (nI j) N s21 0) fun t29 => some (t29.1 0 22, t29)) else Option.bind (fY0_meets Y 5) fun t33 => some (t33.1, t33.2) := by
    rw [fY0_heap, e2, bs, if_pos (show (0 : Int32) ≤ 0 by decide), ib, gd_true, ej, h2]
    rfl
  by_cases h12 : n ≤ 12
  rotate_left
  · have c12 : ¬ nI n ≤ 12 := by rw [show (12 : Int32) = nI 12 from rfl, nI_leI (by omega) (by omega)]; exact h12
    obtain ⟨S', Y', f1, f2, hR'⟩ := found_R h (f := 5) (by decide) (x := 5) rfl
    exact ⟨-3, S', Y', by rw [X0, if_neg c12, f1]; rfl, by rw [Y0, if_neg c12, f2]; rfl, hR'⟩
  have c12 : nI n ≤ 12 := by rw [show (12 : Int32) = nI 12 from rfl, nI_leI (by omega) (by omega)]; exact h12
  obtain ⟨v1, s1, q1⟩ := X1_within (N := N) (by omega) S hj hn h1
  obtain ⟨v2, s2, q2⟩ := Y_good (N := N) (by omega) Y hj hn h2
  have bad : (∃ i, i < n ∧ ¬ inb (S.1 (3 + j) i) 100 = true) → v1 = 0 ∧ v2 = 0 := by
    rintro ⟨i, hi, b⟩
    constructor
    · rcases q1 with ⟨_, q⟩ | ⟨q, _⟩
      · exact absurd (q i hi) b
      · exact q
    · rcases q2 with ⟨_, q⟩ | ⟨q, _⟩
      · exact absurd (by rw [h3 i hi]; exact q i hi) b
      · exact q
  rcases q1 with ⟨rfl, q1⟩ | ⟨rfl, q1⟩
  rotate_left
  · obtain ⟨S', Y', f1, f2, hR'⟩ := found_R h (f := 3) (by decide) (x := 3) rfl
    have e := (bad q1).2
    exact ⟨-3, S', Y', by rw [X0, if_pos c12, s1, bs, if_pos rfl, f1]; rfl, by rw [Y0, if_pos c12, s2, bs, if_pos e, f2]; rfl, hR'⟩
  have v2e : v2 = 1 := by
    rcases q2 with ⟨q, _⟩ | ⟨_, i, hi, b⟩
    · exact q
    · exact absurd (by rw [← h3 i hi]; exact q1 i hi) b
  subst v2e
  obtain ⟨S1, t1, a1, a2, a3⟩ := X22_take1 hN S (nI j)
  have hwx : ∀ i, ∃ w, i < n → w < 100 ∧ S.1 (3 + j) i = nI w := fun i => by
    by_cases hi : i < n
    · obtain ⟨w, hw, e⟩ := inb_ex (q1 i hi) (by decide)
      exact ⟨w, fun _ => ⟨hw, e⟩⟩
    · exact ⟨0, fun q => absurd q hi⟩
  obtain ⟨w, hw⟩ := Classical.axiomOfChoice hwx
  obtain ⟨S2, t2, b1, b2, b3, b4⟩ := X22_take2 hN (p1 S1 22 2 (nI n)) hj h12 w (fun i hi => ⟨(hw i hi).1, by rw [p1_ne (by omega), a2 _ _ (by omega)]; exact (hw i hi).2⟩) (fun v hv => by rw [p1_ne (by decide)]; exact a1 v hv) p1_eq
  obtain ⟨Y2, t3, c1, c2, c3⟩ := Y_heap2 hN (p1 Y 0 22 (nI n)) hj h12 p1_eq
  have ft : fX22_take N S (nI j) = some S2 := by
    unfold fX22_take
    rw [t1, bs, fX1_sizeOf, ib, gd_true, ej, bs, a2 9 j (by decide), h1, nx_eq, if_neg (fun q => (fa_of_lt q).2.1 c12), nx_eq, t2, bs]
  have f1 : fX0_heap N S (nI j) = some (nI n, S2) := by
    rw [X0, if_pos c12, s1, bs, if_neg ne10, ft, bs, fX22_howMany, bs, b3 22 2 (by decide) (by decide), p1_eq]
  have f2 : fY0_heap N Y (nI j) = some (nI n, Y2) := by
    rw [Y0, if_pos c12, s2, bs, if_neg ne10, nx_eq, t3, bs, c2 0 22 (by decide), p1_eq]
  have kS : ∀ k q, k ≠ 23 → k ≠ 24 → ¬ (k = 22 ∧ q = 2) → S2.1 k q = S.1 k q := fun k q g1 g2 g3 => by
    rw [b3 k q g1 g2, p1_at, if_neg g3, a2 k q g2]
  have kY : ∀ k q, k ≠ 16 → ¬ (k = 0 ∧ q = 22) → Y2.1 k q = Y.1 k q := fun k q g1 g2 => by
    rw [c2 k q g1, p1_at, if_neg g2]
  obtain ⟨B, ok, bx, bY⟩ := h.2.2.2
  refine ⟨_, _, _, f1, f2, RR_newB h (agr_of (frX22_take ft) (by decide) (by decide) (by decide)) ⟨fun k hk => funext fun q => kY k q ?_ ?_, fun k i hk => kY k i ?_ ?_, fun k i hk => by rw [c3]; rfl⟩ ⟨(B.1, (n, w), B.2.2), ⟨ok.1, h12, fun i hi => (hw i hi).1, ok.2.2.2⟩, ?_, ?_⟩⟩
  · rintro rfl; revert hk; decide
  · rintro ⟨rfl, -⟩; revert hk; decide
  · rintro rfl; simp at hk
  · rintro ⟨rfl, rfl⟩; revert hk; decide
  · obtain ⟨g1, g2, g3, g4, g5, g6, g7⟩ := bx
    refine ⟨fun c hc => ?_, ?_, ?_, b1, b2, ?_, fun s hs => ?_⟩
    · rw [kS 26 c (by decide) (by decide) (by omega), kS 27 c (by decide) (by decide) (by omega), kS 28 c (by decide) (by decide) (by omega)]; exact g1 c hc
    · rw [kS 25 4 (by decide) (by decide) (by omega)]; exact g2
    · rw [b3 22 2 (by decide) (by decide), p1_eq]
    · rw [kS 29 4 (by decide) (by decide) (by omega)]; exact g6
    · rw [kS 30 s (by decide) (by decide) (by omega), kS 31 s (by decide) (by decide) (by omega), kS 32 s (by decide) (by decide) (by omega)]; exact g7 s hs
  · obtain ⟨g1, g2, g3, g4, g5⟩ := bY
    refine ⟨fun c hc => ?_, ?_, fun i hi => ?_, ?_, fun s hs => ?_⟩
    · rw [kY 10 c (by decide) (by omega), kY 11 c (by decide) (by omega), kY 12 c (by decide) (by omega)]; exact g1 c hc
    · rw [c2 0 22 (by decide), p1_eq]
    · rw [c1 i hi, p1_ne (by decide), ← h3 i (show i < n from hi)]; exact (hw i hi).2
    · rw [kY 0 18 (by decide) (by omega)]; exact g4
    · rw [kY 13 s (by decide) (by omega), kY 14 s (by decide) (by omega), kY 15 s (by decide) (by omega)]; exact g5 s hs
end O5
