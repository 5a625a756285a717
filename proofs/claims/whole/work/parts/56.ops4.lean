/-! copy and heap -/
section O4
variable {S S' Y Y' : St} {B : Bk}
theorem lgc_gt (x y : Int64) : 0 < lg_cmp x y ↔ y < x := by
  unfold lg_cmp
  by_cases h : x > y
  · rw [if_pos h]; exact ⟨fun _ => h, fun _ => by decide⟩
  · rw [if_neg h]
    constructor
    · intro q
      by_cases e : x = y
      · rw [if_pos e] at q; exact absurd q (by decide)
      · rw [if_neg e] at q; exact absurd q (by decide)
    · intro q; exact absurd q h
theorem lgc_le (x y : Int64) : lg_cmp x y ≤ 0 ↔ ¬ y < x := by
  rw [← lgc_gt]
  constructor
  · intro h q; exact (fa_of_lt q).2.1 h
  · intro h; exact fa_of_nlt h
/-- a span that a row of n0 places has -/
def spn (x : Int32) (m n0 : Nat) : Prop := 0 ≤ x.toInt ∧ x.toInt + m ≤ n0
theorem X1_span (S : St) {r n0 m : Nat} (hr : r < 6) (hn : n0 ≤ 40) (h1 : S.1 9 r = nI n0) (hm : m < 2 ^ 31) (x : Int32) : ∃ v, fX1_hasSpan S (nI r) x (nI m) = some v ∧ ((v = 1 ∧ spn x m n0) ∨ (v = 0 ∧ ¬ spn x m n0)) := by
  unfold fX1_hasSpan
  have ib : inb (nI r) 6 = true := inb_nI hr (by decide)
  rw [ib, gd_true, cl (by omega), h1]
  by_cases h0 : x < 0
  · rw [if_pos h0]
    refine ⟨0, rfl, Or.inr ⟨rfl, fun q => ?_⟩⟩
    have := (fa_lt _ _).mp h0
    have e : (0 : Int32).toInt = 0 := by decide
    have := q.1
    omega
  rw [if_neg h0]
  by_cases h2 : nI n0 < x
  · rw [if_pos h2]
    refine ⟨0, rfl, Or.inr ⟨rfl, fun q => ?_⟩⟩
    have := (fa_lt _ _).mp h2
    rw [nI_toInt (by omega)] at this
    have := q.2
    omega
  rw [if_neg h2, gd_true]
  obtain ⟨i, hi, rfl⟩ := nI_of h0
  rw [nI_ltI (by omega) (by omega)] at h2
  rw [pk_sub (by omega)]
  have et : (nI i).toInt = (i : Int) := nI_toInt (by omega)
  by_cases h3 : nI (n0 - i) < nI m
  · rw [if_pos h3]
    rw [nI_ltI (by omega) (by omega)] at h3
    exact ⟨0, rfl, Or.inr ⟨rfl, fun q => by have := q.2; omega⟩⟩
  · rw [if_neg h3]
    rw [nI_ltI (by omega) (by omega)] at h3
    exact ⟨1, rfl, Or.inl ⟨rfl, by omega, by omega⟩⟩
theorem Y_span {m n0 i : Nat} (hm : m < 2 ^ 31) (hn : n0 ≤ 40) (hi : i < 2 ^ 31) : (0 < lg_cmp ((nI i).toInt64 + (nI m).toInt64) (nI n0).toInt64) ↔ ¬ spn (nI i) m n0 := by
  rw [lgc_gt, nI_l hi, nI_l hm, nI_l (show n0 < 2 ^ 31 by omega), lN_add, pk_lLT (by omega) (by omega)]
  unfold spn
  rw [nI_toInt hi]
  omega
theorem Y_copy1 {N : Nat} (hN : 61 < N) (Y : St) {r i m n0 : Nat} (hr : r < 6) (him : i + m ≤ n0) (hn : n0 ≤ 40) (x3 x4 : Int32) : ∃ Y', fY0_copy_L104 N (nI r) (nI i) x3 x4 (nI m) N Y 0 = some Y' ∧ (∀ k, k < m → Y'.1 4 k = Y.1 3 (40 * r + (i + k))) ∧ (∀ k q, k ≠ 4 → Y'.1 k q = Y.1 k q) ∧ Y'.2 = Y.2 := by
  obtain ⟨t, e1, h1⟩ := loop_up (fun q s x => fY0_copy_L104 N (nI r) (nI i) x3 x4 (nI m) q s x) m
    (fun k s => (∀ q, q < k → s.1 4 q = Y.1 3 (40 * r + (i + q))) ∧ (∀ k q, k ≠ 4 → s.1 k q = Y.1 k q) ∧ s.2 = Y.2)
    (fun s => (∀ q, q < m → s.1 4 q = Y.1 3 (40 * r + (i + q))) ∧ (∀ k q, k ≠ 4 → s.1 k q = Y.1 k q) ∧ s.2 = Y.2)
    (fun q s hI => ⟨s, by
      show fY0_copy_L104 N (nI r) (nI i) x3 x4 (nI m) (q + 1) s (nI m) = _
      rw [fY0_copy_L104, if_pos (fa_of_nlt (by rw [nI_ltI (by omega) (by omega)]; omega))], hI⟩)
    (fun q k s hk hI => Or.inr ⟨p1 s 4 k (s.1 3 (40 * r + (i + k))), by
      obtain ⟨g1, g2, g3⟩ := hI
      refine ⟨fun q hq => ?_, fun k' q hk' => ?_, g3⟩
      · by_cases e : q = k
        · subst e
          rw [p1_eq, g2 3 _ (by omega)]
        · rw [p1_ni e]; exact g1 q (by omega)
      · rw [p1_ne hk']; exact g2 k' q hk', by
      show fY0_copy_L104 N (nI r) (nI i) x3 x4 (nI m) (q + 1) s (nI k) = fY0_copy_L104 N (nI r) (nI i) x3 x4 (nI m) q _ (nI (k + 1))
      rw [fY0_copy_L104, if_neg (by rw [nI_leI (by omega) (by omega)]; omega)]
      simp only [fY0_rowAt, nI_add, ix40, inb_nI (show 40 * r + (i + k) < 240 by omega) (by decide), inb_nI (show k < 40 by omega) (by decide), gd_true, cl (show 40 * r + (i + k) < 2 ^ 31 by omega), cl (show k < 2 ^ 31 by omega), bs, nx_eq, nI_1]⟩)
    N 0 Y (by omega) (by omega) ⟨fun q hq => by omega, fun k q hk => rfl, rfl⟩
  exact ⟨t, e1, h1⟩
theorem Y_copy2 {N : Nat} (hN : 61 < N) (Y : St) {r j m n0 : Nat} (hr : r < 6) (him : j + m ≤ n0) (hn : n0 ≤ 40) : ∃ Y', fY0_copy_L136 N (nI r) (nI j) (nI m) N Y 0 = some Y' ∧ (∀ k, k < m → Y'.1 3 (40 * r + (j + k)) = Y.1 4 k) ∧ (∀ k q, ¬ (k = 3 ∧ 40 * r + j ≤ q ∧ q < 40 * r + j + m) → Y'.1 k q = Y.1 k q) ∧ Y'.2 = Y.2 := by
  have ix : ∀ k, (40 : Int32) * nI r + nI j + nI k = nI (40 * r + (j + k)) := fun k => by rw [ix40, nI_add]; congr 1; omega
  obtain ⟨t, e1, h1⟩ := loop_up (fun q s x => fY0_copy_L136 N (nI r) (nI j) (nI m) q s x) m
    (fun k s => (∀ q, q < k → s.1 3 (40 * r + (j + q)) = Y.1 4 q) ∧ (∀ k q, ¬ (k = 3 ∧ 40 * r + j ≤ q ∧ q < 40 * r + j + m) → s.1 k q = Y.1 k q) ∧ s.2 = Y.2)
    (fun s => (∀ q, q < m → s.1 3 (40 * r + (j + q)) = Y.1 4 q) ∧ (∀ k q, ¬ (k = 3 ∧ 40 * r + j ≤ q ∧ q < 40 * r + j + m) → s.1 k q = Y.1 k q) ∧ s.2 = Y.2)
    (fun q s hI => ⟨s, by
      show fY0_copy_L136 N (nI r) (nI j) (nI m) (q + 1) s (nI m) = _
      rw [fY0_copy_L136, if_pos (fa_of_nlt (by rw [nI_ltI (by omega) (by omega)]; omega))], hI⟩)
    (fun q k s hk hI => Or.inr ⟨p1 s 3 (40 * r + (j + k)) (s.1 4 k), by
      obtain ⟨g1, g2, g3⟩ := hI
      refine ⟨fun q hq => ?_, fun k' q hk' => ?_, g3⟩
      · by_cases e : q = k
        · subst e
          rw [p1_eq, g2 4 _ (by omega)]
        · rw [p1_ni (by omega)]; exact g1 q (by omega)
      · rw [p1_at, if_neg (by omega)]; exact g2 k' q hk', by
      show fY0_copy_L136 N (nI r) (nI j) (nI m) (q + 1) s (nI k) = fY0_copy_L136 N (nI r) (nI j) (nI m) q _ (nI (k + 1))
      rw [fY0_copy_L136, if_neg (by rw [nI_leI (by omega) (by omega)]; omega)]
      simp only [ix, inb_nI (show 40 * r + (j + k) < 240 by omega) (by decide), inb_nI (show k < 40 by omega) (by decide), gd_true, cl (show 40 * r + (j + k) < 2 ^ 31 by omega), cl (show k < 2 ^ 31 by omega), nx_eq, nI_1]⟩)
    N 0 Y (by omega) (by omega) ⟨fun q hq => by omega, fun k q hk => rfl, rfl⟩
  exact ⟨t, e1, h1⟩
theorem X1_thereE (S : St) {r : Nat} (hr : r < 6) : fX1_isThere S (nI r) = some (if S.1 9 r = -1 then 0 else 1) := by
  unfold fX1_isThere
  rw [inb_nI hr (by decide), gd_true, cl (by omega)]
  by_cases h : S.1 9 r = -1
  · rw [if_pos h, if_pos h]; rfl
  · rw [if_neg h, if_neg h]; rfl
theorem op4_copy {N : Nat} (hN : 61 < N) : op_copy N RR := by
  intro S Y a1 a2 a3 a4 a5 h
  have fin : ∀ (f : Nat) (x : Int32), f < 6 → x = nI f → ∃ v S' Y', (Option.bind (fX0_found S x) fun t => some (t.1, t.2)) = some (v, S') ∧ (Option.bind (fY0_meets Y x) fun t => some (t.1, t.2)) = some (v, Y') ∧ RR S' Y' := by
    intro f x hf hx
    obtain ⟨S', Y', e1, e2, hR'⟩ := found_R h hf hx
    exact ⟨-3, S', Y', by rw [e1]; rfl, by rw [e2]; rfl, hR'⟩
  unfold fX0_copy fY0_copy
  rw [XisRow, YisRow, bs, bs]
  by_cases h1 : inb a1 6 = true
  rotate_left
  · rw [if_neg h1, if_pos rfl, if_pos rfl]; exact ⟨-1, S, Y, rfl, rfl, h⟩
  rw [if_pos h1, if_neg ne10, if_neg ne10, XisRow, YisRow, bs, bs]
  by_cases h3 : inb a3 6 = true
  rotate_left
  · rw [if_neg h3, if_pos rfl, if_pos rfl]; exact ⟨-1, S, Y, rfl, rfl, h⟩
  rw [if_pos h3, if_neg ne10, if_neg ne10]
  by_cases h5 : 0 ≤ a5
  rotate_left
  · rw [if_neg h5, if_neg h5]; exact fin 5 5 (by decide) rfl
  rw [if_pos h5, if_pos h5]
  obtain ⟨r, hr, rfl⟩ := inb_ex h1 (by decide)
  obtain ⟨t, ht, rfl⟩ := inb_ex h3 (by decide)
  obtain ⟨m, hm, rfl⟩ := nI_of (fun q => (fa_of_lt q).2.1 h5)
  rw [X1_thereE S hr, bs, h1, gd_true, cl (show r < 2 ^ 31 by omega)]
  rcases RR_size h hr with ⟨x1, y1⟩ | ⟨n1, hn1, x1, y1, w1⟩
  · rw [x1, y1, if_pos rfl, if_pos rfl, if_pos (by decide)]; exact fin 1 1 (by decide) rfl
  rw [x1, y1, if_neg (nI_m1 (by omega)), if_neg ne10, if_neg (nI_pos (by omega)), X1_thereE S ht, bs, h3, gd_true, cl (show t < 2 ^ 31 by omega)]
  rcases RR_size h ht with ⟨x2, y2⟩ | ⟨n2, hn2, x2, y2, w2⟩
  · rw [x2, y2, if_pos rfl, if_pos rfl, if_neg (by decide)]; exact fin 1 1 (by decide) rfl
  rw [x2, y2, if_neg (nI_m1 (by omega)), if_neg ne10, if_pos (nI_pos' (by omega))]
  obtain ⟨v1, s1, q1⟩ := X1_span S hr hn1 x1 hm a2
  obtain ⟨v2, s2, q2⟩ := X1_span S ht hn2 x2 hm a4
  rw [s1, bs]
  by_cases b2 : a2 < 0
  · have nv : v1 = 0 := by
      rcases q1 with ⟨_, q⟩ | ⟨q, _⟩
      · have := (fa_lt _ _).mp b2
        have e : (0 : Int32).toInt = 0 := by decide
        have := q.1
        omega
      · exact q
    rw [if_pos nv, if_pos b2]; exact fin 2 2 (by decide) rfl
  rw [if_neg b2]
  obtain ⟨i, hi, rfl⟩ := nI_of b2
  by_cases b4 : a4 < 0
  · have nv : v2 = 0 := by
      rcases q2 with ⟨_, q⟩ | ⟨q, _⟩
      · have := (fa_lt _ _).mp b4
        have e : (0 : Int32).toInt = 0 := by decide
        have := q.1
        omega
      · exact q
    rw [if_pos b4]
    by_cases e : v1 = 0
    · rw [if_pos e]; exact fin 2 2 (by decide) rfl
    · rw [if_neg e, s2, bs, if_pos nv]; exact fin 2 2 (by decide) rfl
  rw [if_neg b4, gd_true]
  obtain ⟨j, hj, rfl⟩ := nI_of b4
  rcases q1 with ⟨rfl, q1⟩ | ⟨rfl, q1⟩
  rotate_left
  · rw [if_pos rfl, if_pos ((Y_span hm hn1 hi).mpr q1)]; exact fin 2 2 (by decide) rfl
  rw [if_neg ne10, s2, bs, if_neg (fun q => (Y_span hm hn1 hi).mp q q1), gd_true]
  rcases q2 with ⟨rfl, q2⟩ | ⟨rfl, q2⟩
  rotate_left
  · rw [if_pos rfl, if_neg (fun q => (fa_of_lt ((Y_span hm hn2 hj).mpr q2)).2.1 q)]; exact fin 2 2 (by decide) rfl
  rw [if_neg ne10, if_pos (fa_of_nlt (fun q => (Y_span hm hn2 hj).mp q q2))]
  unfold spn at q1 q2
  rw [nI_toInt hi] at q1
  rw [nI_toInt hj] at q2
  obtain ⟨Y1, e1, c1, c2, c3⟩ := Y_copy1 hN Y hr (i := i) (m := m) (n0 := n1) (by omega) hn1 (nI t) (nI j)
  obtain ⟨Y2, e2, d1, d2, d3⟩ := Y_copy2 hN Y1 ht (j := j) (m := m) (n0 := n2) (by omega) hn2
  rw [e1, bs, e2, bs]
  have hcp : cpb (nI i) (nI j) (nI m) 40 40 = true := by
    unfold cpb
    rw [cl hi, cl hj, cl hm]
    simp [nI_pos hi, nI_pos hj, nI_pos hm]
    omega
  have ex : fX1_move S (nI r) (nI i) (nI t) (nI j) (nI m) = some (pcp S (3 + r) (3 + t) i j m) := by
    simp only [fX1_move, inb_nI hr (by decide), inb_nI ht (by decide), hcp, gd_true, nx_eq, cl hi, cl hj, cl hm, cl (show r < 2 ^ 31 by omega), cl (show t < 2 ^ 31 by omega)]
  rw [ex, bs]
  have pk : ∀ k q, k ≠ 3 + t → (pcp S (3 + r) (3 + t) i j m).1 k q = S.1 k q := fun k q hk => by
    unfold pcp
    simp only [if_neg hk]
  refine ⟨1, _, _, rfl, rfl, RR_row h ht (Or.inr ⟨n2, hn2, ?_, ?_, fun p hp => ?_⟩) (fun k q hk _ => pk k q hk) (fun k q h1 h2 h3 => ?_) rfl (by rw [d3, c3])⟩
  · rw [pk 9 t (by omega)]; exact x2
  · rw [d2 2 t (by omega), c2 2 t (by omega)]; exact y2
  · show (pcp S (3 + r) (3 + t) i j m).1 (3 + t) p = Y2.1 3 (40 * t + p)
    have e : (pcp S (3 + r) (3 + t) i j m).1 (3 + t) = va_cpy (S.1 (3 + r)) (S.1 (3 + t)) i j m := by
      unfold pcp
      simp only [if_true]
    rw [e]
    by_cases hin : j ≤ p ∧ p < j + m
    · rw [pk_cpy_in hin.1 hin.2, w1 _ (by omega)]
      have := d1 (p - j) (by omega)
      rw [show j + (p - j) = p by omega] at this
      rw [this, c1 _ (by omega)]
    · rw [pk_cpy_out (by omega), w2 p hp, d2 3 _ (by omega), c2 3 _ (by omega)]
  · rw [d2 k q (by omega), c2 k q h3]
end O4
