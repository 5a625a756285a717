/-! the reader: items of the reference -/
def mvYd (c : Nat) (Y Y' : St) : Prop := ∀ k i, ¬ (k = 0 ∧ (i = 13 ∨ i = 14)) → ¬ ((k = 8 ∨ k = 9) ∧ i = c) → Y'.1 k i = Y.1 k i
section PE
variable {S S' Y Y' : St} {t n p c : Nat} {tx : Nat → Int32} {st : Bool}
theorem mvYd_of (h : mvY Y Y') : mvYd c Y Y' := fun k i h1 _ => h k i h1
theorem mvYd_trans {Y1 Y2 : St} (h1 : mvYd c Y Y1) (h2 : mvYd c Y1 Y2) : mvYd c Y Y2 := fun k i a b => (h2 k i a b).trans (h1 k i a b)
theorem mvY_refl : mvY Y Y := fun _ _ _ => rfl
theorem mvY_13 {v : Int32} : mvY Y (p1 Y 0 13 v) := fun k i hk => by rw [p1_at, if_neg (by omega)]
theorem mvY_14 {v : Int32} : mvY Y (p1 Y 0 14 v) := fun k i hk => by rw [p1_at, if_neg (by omega)]
theorem mvYd_8 {v : Int32} : mvYd c Y (p1 Y 8 c v) := fun k i _ hk => by rw [p1_at, if_neg (by omega)]
theorem mvYd_9 {v : Int32} : mvYd c Y (p1 Y 9 c v) := fun k i _ hk => by rw [p1_at, if_neg (by omega)]
theorem TY_d {q : Nat} (h : TY Y t n tx p) (m : mvYd c Y Y') (h5 : Y'.1 0 13 = nI q) (hq : q < 200) : TY Y' t n tx q := by
  obtain ⟨a1, a2, a5, a6, a7, a8, a9⟩ := h
  exact ⟨by rw [m 5 t (by omega) (by omega)]; exact a1, h5, a5, a6, hq, fun i hi => by rw [m 6 _ (by omega) (by omega)]; exact a8 i hi, a9⟩
theorem Y_byte (h : TY Y t n tx p) (hp : p < 150) {x : Int32} (hx : ¬ (-9 : Int32) = x) : ∃ Y', fY0_readsByte Y (nI t) x = some (bI (isC n tx p x), Y') ∧ mvY Y Y' ∧ TY Y' t n tx (if isC n tx p x = true then p + 1 else p) := by
  rw [fY0_readsByte, Y_here h, bs, sg_is hx, h.2.1]
  cases isC n tx p x
  · rw [if_neg (show ¬ (false = true) by decide), bs, if_pos rfl, bs, nx_eq, isb0, gd_true, if_neg (show ¬ (false = true) by decide)]
    have e : nI p + 0 = nI p := by rw [show nI p + 0 = nI p + nI 0 from rfl, nI_add]; rfl
    rw [e]
    exact ⟨_, rfl, mvY_13, TY_mv h (mvY_0 mvY_13) (by rw [p1_eq]) (by omega)⟩
  · rw [if_pos rfl, bs, if_neg ne10, bs, nx_eq, isb1, gd_true, if_pos rfl, nI_1]
    exact ⟨_, rfl, mvY_13, TY_mv h (mvY_0 mvY_13) (by rw [p1_eq]) (by omega)⟩
theorem Y_letr (h : TY Y t n tx p) (hp : p < 150) (hc : c < 12) : ∃ Y', fY0_readsLetter Y (nI t) (nI c) = some (bI (othR n tx p c).1, Y') ∧ mvY Y Y' ∧ TY Y' t n tx (othR n tx p c).2.1 ∧ ((othR n tx p c).1 = true → Y'.1 0 14 = nI (othR n tx p c).2.2) := by
  rw [fY0_readsLetter, Y_here h, bs, Y_let h, bs, if_bI0]
  unfold othR
  cases hl : letC n tx p
  · rw [if_neg (show ¬ (false = true) by decide), if_neg (show ¬ (false = true) by decide)]
    exact ⟨_, rfl, mvY_refl, h, fun (q : false = true) => absurd q (by decide)⟩
  · obtain ⟨q1, q2, q3⟩ := let_e hl
    have e13 : (p1 Y 0 14 (nI (ceC tx p))).1 0 13 + 1 = nI (p + 1) := by rw [p1_ni (by decide), h.2.1, nI_1]
    rw [if_pos rfl, if_pos rfl, bs, nx_eq, nx_eq, if_pos q1, q2, e13]
    have e14 : (p1 (p1 Y 0 14 (nI (ceC tx p))) 0 13 (nI (p + 1))).1 0 14 = nI (ceC tx p) := by rw [p1_ni (by decide), p1_eq]
    have m : mvY Y (p1 (p1 Y 0 14 (nI (ceC tx p))) 0 13 (nI (p + 1))) := fun k i hk => by rw [p1_at, if_neg (by omega), p1_at, if_neg (by omega)]
    have tt : TY (p1 (p1 Y 0 14 (nI (ceC tx p))) 0 13 (nI (p + 1))) t n tx (p + 1) := TY_mv h (mvY_0 m) (by rw [p1_eq]) (by omega)
    rw [e14]
    by_cases z : ceC tx p = c
    · rw [if_pos (by rw [z]), bs, isb0, gd_true, decide_eq_false (fun q => q z)]
      exact ⟨_, rfl, m, tt, fun (q : false = true) => absurd q (by decide)⟩
    · rw [if_neg (show ¬ nI (ceC tx p) = nI c from by rw [nI_eq (by omega) (by omega)]; exact z), bs, isb1, gd_true, decide_eq_true (show ceC tx p ≠ c from z)]
      exact ⟨_, rfl, m, tt, fun _ => e14⟩
theorem Y_spanR {N : Nat} (hN : 61 < N) (h : TY Y t n tx p) (hp : p < 100) (hc : c < 12) : ∃ Y', fY0_readsSpan N Y (nI t) (nI c) = some (bI (spanR n tx p).1, Y') ∧ mvYd c Y Y' ∧ TY Y' t n tx (spanR n tx p).2.1 ∧ ((spanR n tx p).1 = true → Y'.1 8 c = nI (spanR n tx p).2.2.1 ∧ Y'.1 9 c = nI (spanR n tx p).2.2.2) := by
  have ib := inb_nI hc (show 12 < 2 ^ 31 by decide)
  have ec : Int32.toNatClampNeg (nI c) = c := cl (by omega)
  obtain ⟨Y1, e1, m1, t1, w1⟩ := Y_num hN h (by omega)
  have np1 := num_p n tx p
  unfold fY0_readsSpan spanR
  rw [e1, bs]
  dsimp only
  rw [if_bI0]
  cases o1 : (numR n tx p).1
  · rw [if_neg (show ¬ (false = true) by decide), if_neg (show ¬ (false = true) by decide)]
    exact ⟨_, rfl, mvYd_of m1, t1, fun (q : false = true) => absurd q (by decide)⟩
  rw [if_pos rfl, if_pos rfl, ib, gd_true, nx_eq, ec, w1 o1]
  have t2 : TY (p1 Y1 8 c (nI (numR n tx p).2.2)) t n tx (numR n tx p).2.1 := TY_d t1 mvYd_8 (by rw [p1_ne (by decide)]; exact t1.2.1) (by omega)
  obtain ⟨Y3, e3, m3, t3⟩ := Y_byte t2 (by omega) (x := 44) (by decide)
  rw [e3, bs]
  dsimp only
  rw [if_bI0]
  cases o2 : isC n tx (numR n tx p).2.1 44
  · rw [o2, if_neg (show ¬ (false = true) by decide)] at t3
    rw [if_neg (show ¬ (false = true) by decide), if_neg (show ¬ (false = true) by decide)]
    exact ⟨_, rfl, mvYd_trans (mvYd_of m1) (mvYd_trans mvYd_8 (mvYd_of m3)), t3, fun (q : false = true) => absurd q (by decide)⟩
  rw [o2, if_pos rfl] at t3
  rw [if_pos rfl, if_pos rfl]
  obtain ⟨Y4, e4, m4, t4, w4⟩ := Y_num hN t3 (by omega)
  have np3 := num_p n tx ((numR n tx p).2.1 + 1)
  rw [e4, bs]
  dsimp only
  rw [if_bI0]
  cases o3 : (numR n tx ((numR n tx p).2.1 + 1)).1
  · rw [if_neg (show ¬ (false = true) by decide), if_neg (show ¬ (false = true) by decide)]
    exact ⟨_, rfl, mvYd_trans (mvYd_of m1) (mvYd_trans mvYd_8 (mvYd_trans (mvYd_of m3) (mvYd_of m4))), t4, fun (q : false = true) => absurd q (by decide)⟩
  rw [if_pos rfl, if_pos rfl, gd_true, nx_eq, gd_true, gd_true, w4 o3]
  have v9 : (p1 Y4 9 c (nI (numR n tx ((numR n tx p).2.1 + 1)).2.2)).1 9 c = nI (numR n tx ((numR n tx p).2.1 + 1)).2.2 := p1_eq
  have v8 : (p1 Y4 9 c (nI (numR n tx ((numR n tx p).2.1 + 1)).2.2)).1 8 c = nI (numR n tx p).2.2 := by
    rw [p1_ne (by decide), m4 8 c (by omega), m3 8 c (by omega), p1_eq]
  have m : mvYd c Y (p1 Y4 9 c (nI (numR n tx ((numR n tx p).2.1 + 1)).2.2)) := mvYd_trans (mvYd_of m1) (mvYd_trans mvYd_8 (mvYd_trans (mvYd_of m3) (mvYd_trans (mvYd_of m4) mvYd_9)))
  have tt : TY (p1 Y4 9 c (nI (numR n tx ((numR n tx p).2.1 + 1)).2.2)) t n tx (numR n tx ((numR n tx p).2.1 + 1)).2.1 := TY_d t4 mvYd_9 (by rw [p1_ne (by decide)]; exact t4.2.1) (by omega)
  rw [v9, v8]
  by_cases z : (numR n tx p).2.2 ≤ (numR n tx ((numR n tx p).2.1 + 1)).2.2
  · rw [if_neg (nI_nlt z (by omega)), bs, isb1, gd_true, decide_eq_true z]
    exact ⟨_, rfl, m, tt, fun _ => ⟨v8, v9⟩⟩
  · rw [if_pos (nI_lt (by omega) (by omega)), bs, isb0, gd_true, decide_eq_false z]
    exact ⟨_, rfl, m, tt, fun (q : false = true) => absurd q (by decide)⟩
theorem Y_sgn (h : TY Y t n tx p) : fY0_isSign Y (nI t) = some (bI (fsgC n tx p)) := by
  obtain ⟨x, ex, e1⟩ := Y_fig h
  have ex' := Y_here h
  rw [fY0_isSign, ex, bs, e1, bs, if_bI0]
  rw [ex'] at ex
  injection ex with ex
  rw [← ex, bs, bs, sg_is (by decide), sg_is (by decide)]
  unfold fsgC
  cases figC n tx p
  · rw [if_neg (show ¬ (false = true) by decide)]
    cases isC n tx p 63
    · rw [if_neg (show ¬ (false = true) by decide)]
      cases isC n tx p 120 <;> rfl
    · rfl
  · rfl
abbrev cY6 (Y : St) (c k a b : Nat) : Prop := (k ≠ 3 → Y.1 8 c = nI a ∨ (k = 1 ∧ a = 48 ∧ Y.1 8 c = -9)) ∧ (k ≠ 3 → k ≠ 4 → Y.1 9 c = nI b)
theorem Y_item {N : Nat} (hN : 61 < N) (h : TY Y t n tx p) (hp : p < 80) (hc : c < 12) : ∃ Y', fY0_readsItem N Y (nI t) (nI c) = some (if (itmR n tx p c).1 = true then nI (itmR n tx p c).2.2.1 else -9, Y') ∧ mvYd c Y Y' ∧ TY Y' t n tx (itmR n tx p c).2.1 ∧ ((itmR n tx p c).1 = true → cY6 Y' c (itmR n tx p c).2.2.1 (itmR n tx p c).2.2.2.1 (itmR n tx p c).2.2.2.2) := by
  have ib := inb_nI hc (show 12 < 2 ^ 31 by decide)
  have ec : Int32.toNatClampNeg (nI c) = c := cl (by omega)
  obtain ⟨Y1, e1, m1, t1⟩ := Y_byte h (by omega) (x := 91) (by decide)
  unfold fY0_readsItem itmR
  rw [e1, bs]
  dsimp only
  rw [if_bI0]
  cases h91 : isC n tx p 91
  rotate_left
  · rw [h91, if_pos rfl] at t1
    obtain ⟨Y2, e2, m2, t2, w2⟩ := Y_spanR hN t1 (by omega) hc
    have sp := span_p n tx (p + 1)
    rw [if_pos rfl, if_pos rfl, e2, bs]
    dsimp only
    rw [if_bI0]
    cases o1 : (spanR n tx (p + 1)).1
    · rw [if_neg (show ¬ (false = true) by decide), if_neg (show ¬ (false = true) by decide), bs]
      exact ⟨_, rfl, mvYd_trans (mvYd_of m1) m2, t2, fun (q : false = true) => absurd q (by decide)⟩
    · obtain ⟨Y3, e3, m3, t3⟩ := Y_byte t2 (by omega) (x := 93) (by decide)
      rw [if_pos rfl, if_pos rfl, e3, bs]
      dsimp only
      rw [if_bI0]
      cases o2 : isC n tx (spanR n tx (p + 1)).2.1 93
      · rw [o2, if_neg (show ¬ (false = true) by decide)] at t3
        rw [if_neg (show ¬ (false = true) by decide), if_neg (show ¬ (false = true) by decide), bs]
        exact ⟨_, rfl, mvYd_trans (mvYd_of m1) (mvYd_trans m2 (mvYd_of m3)), t3, fun (q : false = true) => absurd q (by decide)⟩
      · rw [o2, if_pos rfl] at t3
        rw [if_pos rfl, if_pos rfl, bs]
        exact ⟨_, rfl, mvYd_trans (mvYd_of m1) (mvYd_trans m2 (mvYd_of m3)), t3, fun _ => ⟨fun _ => Or.inl (by rw [m3 8 c (by omega)]; exact (w2 o1).1), fun _ _ => by rw [m3 9 c (by omega)]; exact (w2 o1).2⟩⟩
  rw [h91, if_neg (show ¬ (false = true) by decide)] at t1
  obtain ⟨Y2, e2, m2, t2⟩ := Y_byte t1 (by omega) (x := 126) (by decide)
  rw [if_neg (show ¬ (false = true) by decide), if_neg (show ¬ (false = true) by decide), e2, bs]
  dsimp only
  rw [if_bI0]
  cases h126 : isC n tx p 126
  rotate_left
  · rw [h126, if_pos rfl] at t2
    obtain ⟨Y3, e3, m3, t3, w3⟩ := Y_spanR hN t2 (by omega) hc
    rw [if_pos rfl, if_pos rfl, e3, bs]
    dsimp only
    rw [if_bI0]
    cases o1 : (spanR n tx (p + 1)).1
    · rw [if_neg (show ¬ (false = true) by decide), bs]
      exact ⟨_, rfl, mvYd_trans (mvYd_of m1) (mvYd_trans (mvYd_of m2) m3), t3, fun (q : false = true) => absurd q (by decide)⟩
    · rw [if_pos rfl, bs]
      exact ⟨_, rfl, mvYd_trans (mvYd_of m1) (mvYd_trans (mvYd_of m2) m3), t3, fun _ => ⟨fun _ => Or.inl (w3 o1).1, fun _ _ => (w3 o1).2⟩⟩
  rw [h126, if_neg (show ¬ (false = true) by decide)] at t2
  obtain ⟨Y3, e3, m3, t3⟩ := Y_byte t2 (by omega) (x := 35) (by decide)
  rw [if_neg (show ¬ (false = true) by decide), if_neg (show ¬ (false = true) by decide), e3, bs]
  dsimp only
  rw [if_bI0]
  have m123 : mvYd c Y Y3 := mvYd_trans (mvYd_of m1) (mvYd_trans (mvYd_of m2) (mvYd_of m3))
  cases h35 : isC n tx p 35
  rotate_left
  · rw [h35, if_pos rfl] at t3
    rw [if_pos rfl, if_pos rfl]
    exact ⟨_, rfl, m123, t3, fun _ => ⟨fun q => absurd rfl q, fun q => absurd rfl q⟩⟩
  rw [h35, if_neg (show ¬ (false = true) by decide)] at t3
  obtain ⟨Y4, e4, m4, t4⟩ := Y_byte t3 (by omega) (x := 61) (by decide)
  rw [if_neg (show ¬ (false = true) by decide), if_neg (show ¬ (false = true) by decide), e4, bs]
  dsimp only
  rw [if_bI0]
  have m14 : mvYd c Y Y4 := mvYd_trans m123 (mvYd_of m4)
  cases h61 : isC n tx p 61
  rotate_left
  · rw [h61, if_pos rfl] at t4
    rw [if_pos rfl, if_pos rfl, Y_sgn t4, bs, if_bI0]
    cases f1 : fsgC n tx (p + 1)
    · rw [if_neg (show ¬ (false = true) by decide), if_neg (show ¬ (false = true) by decide)]
      exact ⟨_, rfl, m14, t4, fun (q : false = true) => absurd q (by decide)⟩
    obtain ⟨q1, q2, q3⟩ := fsg_e f1
    have t5 : TY (p1 Y4 8 c (-9)) t n tx (p + 1) := TY_d t4 mvYd_8 (by rw [p1_ne (by decide)]; exact t4.2.1) (by omega)
    have e13 : (p1 (p1 Y4 8 c (-9)) 9 c (tx (p + 1))).1 0 13 + 1 = nI (p + 2) := by
      rw [p1_ne (by decide), p1_ne (by decide), t4.2.1, nI_1]
    have m6 : mvYd c Y4 (p1 (p1 (p1 Y4 8 c (-9)) 9 c (tx (p + 1))) 0 13 (nI (p + 2))) := mvYd_trans mvYd_8 (mvYd_trans mvYd_9 (mvYd_of mvY_13))
    have t6 : TY (p1 (p1 (p1 Y4 8 c (-9)) 9 c (tx (p + 1))) 0 13 (nI (p + 2))) t n tx (p + 2) := TY_d t4 m6 (by rw [p1_eq]) (by omega)
    rw [if_pos rfl, if_pos rfl, ib, gd_true, nx_eq, ec, Y_here t5, bs, gd_true, nx_eq, nx_eq, if_pos q1, e13, Y_sgn t6, bs, if_bI0]
    have v8 : (p1 (p1 (p1 Y4 8 c (-9)) 9 c (tx (p + 1))) 0 13 (nI (p + 2))).1 8 c = -9 := by rw [p1_ne (by decide), p1_ne (by decide), p1_eq]
    have v9 : (p1 (p1 (p1 Y4 8 c (-9)) 9 c (tx (p + 1))) 0 13 (nI (p + 2))).1 9 c = tx (p + 1) := by rw [p1_ne (by decide), p1_eq]
    generalize p1 (p1 (p1 Y4 8 c (-9)) 9 c (tx (p + 1))) 0 13 (nI (p + 2)) = Z at m6 t6 v8 v9 ⊢
    cases f2 : fsgC n tx (p + 2)
    · rw [if_neg (show ¬ (false = true) by decide), if_neg (show ¬ (false = true) by decide), bs]
      exact ⟨_, rfl, mvYd_trans m14 m6, t6, fun _ => ⟨fun _ => Or.inr ⟨rfl, rfl, v8⟩, fun _ _ => by rw [v9, q2]⟩⟩
    · obtain ⟨r1, r2, r3⟩ := fsg_e f2
      have t7 : TY (p1 Z 8 c (tx (p + 1))) t n tx (p + 2) := TY_d t6 mvYd_8 (by rw [p1_ne (by decide)]; exact t6.2.1) (by omega)
      have e13' : (p1 (p1 Z 8 c (tx (p + 1))) 9 c (tx (p + 2))).1 0 13 + 1 = nI (p + 3) := by
        rw [p1_ne (by decide), p1_ne (by decide), t6.2.1, nI_1]
      rw [if_pos rfl, if_pos rfl, gd_true, gd_true, v9, nx_eq, Y_here t7, bs, gd_true, nx_eq, nx_eq, if_pos r1, e13', bs]
      have m8 : mvYd c Z (p1 (p1 (p1 Z 8 c (tx (p + 1))) 9 c (tx (p + 2))) 0 13 (nI (p + 3))) := mvYd_trans mvYd_8 (mvYd_trans mvYd_9 (mvYd_of mvY_13))
      exact ⟨_, rfl, mvYd_trans m14 (mvYd_trans m6 m8), TY_d t6 m8 (by rw [p1_eq]) (show p + 3 < 200 by omega), fun _ => ⟨fun _ => Or.inl (by rw [p1_ne (by decide), p1_ne (by decide), p1_eq, q2]), fun _ _ => by rw [p1_ne (by decide), p1_eq, r2]⟩⟩
  rw [h61, if_neg (show ¬ (false = true) by decide)] at t4
  obtain ⟨Y5, e5, m5, t5⟩ := Y_byte t4 (by omega) (x := 62) (by decide)
  rw [if_neg (show ¬ (false = true) by decide), if_neg (show ¬ (false = true) by decide), e5, bs]
  dsimp only
  rw [if_bI0]
  have m15 : mvYd c Y Y5 := mvYd_trans m14 (mvYd_of m5)
  cases h62 : isC n tx p 62
  rotate_left
  · rw [h62, if_pos rfl] at t5
    obtain ⟨Y6, e6, m6, t6, w6⟩ := Y_letr t5 (by omega) hc
    have op := oth_p n tx (p + 1) c
    rw [if_pos rfl, if_pos rfl, e6, bs]
    dsimp only
    rw [if_bI0]
    cases o1 : (othR n tx (p + 1) c).1
    · rw [if_neg (show ¬ (false = true) by decide)]
      exact ⟨_, rfl, mvYd_trans m15 (mvYd_of m6), t6, fun (q : false = true) => absurd q (by decide)⟩
    · rw [if_pos rfl, ib, gd_true, nx_eq, ec, w6 o1]
      exact ⟨_, rfl, mvYd_trans m15 (mvYd_trans (mvYd_of m6) mvYd_8), TY_d t6 mvYd_8 (by rw [p1_ne (by decide)]; exact t6.2.1) (show (othR n tx (p + 1) c).2.1 < 200 by omega), fun _ => ⟨fun _ => Or.inl p1_eq, fun _ q => absurd rfl q⟩⟩
  rw [h62, if_neg (show ¬ (false = true) by decide)] at t5
  obtain ⟨Y6, e6, m6, t6⟩ := Y_byte t5 (by omega) (x := 42) (by decide)
  rw [if_neg (show ¬ (false = true) by decide), if_neg (show ¬ (false = true) by decide), e6, bs]
  dsimp only
  rw [if_bI0]
  have m16 : mvYd c Y Y6 := mvYd_trans m15 (mvYd_of m6)
  cases h42 : isC n tx p 42
  · rw [h42, if_neg (show ¬ (false = true) by decide)] at t6
    rw [if_neg (show ¬ (false = true) by decide), if_neg (show ¬ (false = true) by decide)]
    exact ⟨_, rfl, m16, t6, fun (q : false = true) => absurd q (by decide)⟩
  rw [h42, if_pos rfl] at t6
  obtain ⟨Y7, e7, m7, t7, w7⟩ := Y_letr t6 (by omega) hc
  have op := oth_p n tx (p + 1) c
  rw [if_pos rfl, if_pos rfl, e7, bs]
  dsimp only
  rw [if_bI0]
  cases o1 : (othR n tx (p + 1) c).1
  · rw [if_neg (show ¬ (false = true) by decide), if_neg (show ¬ (false = true) by decide)]
    exact ⟨_, rfl, mvYd_trans m16 (mvYd_of m7), t7, fun (q : false = true) => absurd q (by decide)⟩
  rw [(op.2.2 o1).1] at t7
  have t8 : TY (p1 Y7 8 c (nI (othR n tx (p + 1) c).2.2)) t n tx (p + 2) := TY_d t7 mvYd_8 (by rw [p1_ne (by decide)]; exact t7.2.1) (by omega)
  obtain ⟨Y9, e9, m9, t9, w9⟩ := Y_letr t8 (by omega) hc
  have op2 := oth_p n tx (p + 2) c
  rw [if_pos rfl, if_pos rfl, ib, gd_true, nx_eq, ec, w7 o1, e9, bs]
  dsimp only
  rw [if_bI0]
  cases o2 : (othR n tx (p + 2) c).1
  · rw [if_neg (show ¬ (false = true) by decide)]
    exact ⟨_, rfl, mvYd_trans m16 (mvYd_trans (mvYd_of m7) (mvYd_trans mvYd_8 (mvYd_of m9))), t9, fun (q : false = true) => absurd q (by decide)⟩
  · rw [if_pos rfl, gd_true, nx_eq, w9 o2]
    exact ⟨_, rfl, mvYd_trans m16 (mvYd_trans (mvYd_of m7) (mvYd_trans mvYd_8 (mvYd_trans (mvYd_of m9) mvYd_9))), TY_d t9 mvYd_9 (by rw [p1_ne (by decide)]; exact t9.2.1) (show (othR n tx (p + 2) c).2.1 < 200 by omega), fun _ => ⟨fun _ => Or.inl (by rw [p1_ne (by decide), m9 8 c (by omega), p1_eq]), fun _ _ => p1_eq⟩⟩
end PE
