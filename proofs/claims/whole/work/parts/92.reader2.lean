/-! the reader: spans, letters, items -/
def itmR (n : Nat) (tx : Nat → Int32) (p c : Nat) : Bool × Nat × Nat × Nat × Nat :=
  if isC n tx p 91 = true then (if (spanR n tx (p + 1)).1 = true then (if isC n tx (spanR n tx (p + 1)).2.1 93 = true then (true, (spanR n tx (p + 1)).2.1 + 1, 0, (spanR n tx (p + 1)).2.2.1, (spanR n tx (p + 1)).2.2.2) else (false, (spanR n tx (p + 1)).2.1, 0, 0, 0)) else (false, (spanR n tx (p + 1)).2.1, 0, 0, 0))
  else if isC n tx p 126 = true then ((spanR n tx (p + 1)).1, (spanR n tx (p + 1)).2.1, 5, (spanR n tx (p + 1)).2.2.1, (spanR n tx (p + 1)).2.2.2)
  else if isC n tx p 35 = true then (true, p + 1, 3, 0, 0)
  else if isC n tx p 61 = true then (if fsgC n tx (p + 1) = true then (if fsgC n tx (p + 2) = true then (true, p + 3, 1, chC tx (p + 1), chC tx (p + 2)) else (true, p + 2, 1, 48, chC tx (p + 1))) else (false, p + 1, 0, 0, 0))
  else if isC n tx p 62 = true then ((othR n tx (p + 1) c).1, (othR n tx (p + 1) c).2.1, 4, (othR n tx (p + 1) c).2.2, 0)
  else if isC n tx p 42 = true then (if (othR n tx (p + 1) c).1 = true then ((othR n tx (p + 2) c).1, (othR n tx (p + 2) c).2.1, 2, (othR n tx (p + 1) c).2.2, (othR n tx (p + 2) c).2.2) else (false, (othR n tx (p + 1) c).2.1, 0, 0, 0))
  else (false, p, 0, 0, 0)
def mvd (c : Nat) (S S' : St) : Prop := (∀ k q, k ≠ 17 → ¬ (18 ≤ k ∧ k ≤ 20 ∧ q = c) → S'.1 k q = S.1 k q) ∧ S'.1 17 3 = S.1 17 3 ∧ S'.1 17 4 = S.1 17 4
section PC
variable {S S' Y Y' : St} {t n p c : Nat} {tx : Nat → Int32} {st : Bool}
theorem mvd_of (h : mv S S') : mvd c S S' := ⟨fun k q h1 _ => h.1 k q h1, h.2⟩
theorem mvd_trans {S1 S2 : St} (h1 : mvd c S S1) (h2 : mvd c S1 S2) : mvd c S S2 := ⟨fun k q a b => (h2.1 k q a b).trans (h1.1 k q a b), h2.2.1.trans h1.2.1, h2.2.2.trans h1.2.2⟩
theorem TX_mvd {q : Nat} {st' : Bool} (h : TX S t n tx p st) (m : mvd c S S') (h5 : S'.1 17 5 = nI q) (h6 : S'.1 17 6 = bI st') (hq : q < 200) : TX S' t n tx q st' := by
  obtain ⟨a1, a2, a3, a4, a5, a6, a7, a8, a9⟩ := h
  exact ⟨by rw [m.2.1]; exact a1, by rw [m.2.2]; exact a2, h5, h6, a5, a6, hq, fun i hi => by rw [m.1 _ _ (by omega) (by omega)]; exact a8 i hi, a9⟩
theorem TX_6 (h : TX S t n tx p st) : TX (p1 S 17 6 1) t n tx p true := TX_mv h mv_6 (by rw [p1_ni (by decide)]; exact h.2.2.1) (by rw [p1_eq]; rfl) h.2.2.2.2.2.2.1
theorem TX_5 (h : TX S t n tx p st) {q : Nat} (hq : q < 200) : TX (p1 S 17 5 (nI q)) t n tx q st := TX_mv h mv_5 (by rw [p1_eq]) (by rw [p1_ni (by decide)]; exact h.2.2.2.1) hq
/-- what is stuck stays where it is -/
theorem X_numS (h : TX S t n tx p true) : fX17_readNumber S = some (0, p1 S 17 6 1) := by
  rw [fX17_readNumber, h.2.2.2.1, if_neg (by decide), nx_eq]
theorem X_expS (h : TX S t n tx p true) (x : Int32) : fX17_expect S x = some (p1 S 17 6 1) := by
  rw [fX17_expect, h.2.2.2.1, if_neg (by decide), nx_eq]
theorem X_exp (h : TX S t n tx p false) {x : Int32} (hx : ¬ (1000 : Int32) = x) (hp : p < 150) : ∃ S', fX17_expect S x = some S' ∧ mv S S' ∧ TX S' t n tx (if isC n tx p x = true then p + 1 else p) (!isC n tx p x) := by
  rw [fX17_expect, h.2.2.2.1, if_pos bI_f, X_sgn h, bs, sg_is hx, nx_eq, nx_eq, h.2.2.1, nI_1]
  cases isC n tx p x
  · rw [if_neg (show ¬ (false = true) by decide), if_neg (show ¬ (false = true) by decide)]
    exact ⟨_, rfl, mv_6, TX_6 h⟩
  · rw [if_pos rfl, if_pos rfl]
    exact ⟨_, rfl, mv_5, TX_5 h (by omega)⟩
theorem num_p (n : Nat) (tx : Nat → Int32) (p : Nat) : p ≤ (numR n tx p).2.1 ∧ (numR n tx p).2.1 ≤ p + 2 ∧ (numR n tx p).2.2 < 100 := by
  unfold numR
  cases f1 : figC n tx p
  · rw [if_neg (by decide)]
    exact ⟨Nat.le_refl p, show p ≤ p + 2 by omega, show 0 < 100 by omega⟩
  · have q3 := (fig_e f1).2.2.1
    rw [if_pos rfl]
    cases f2 : figC n tx (p + 1)
    · rw [if_neg (by decide)]
      exact ⟨show p ≤ p + 1 by omega, show p + 1 ≤ p + 2 by omega, show dgC tx p < 100 by omega⟩
    · have r3 := (fig_e f2).2.2.1
      rw [if_pos rfl]
      exact ⟨show p ≤ p + 2 by omega, show p + 2 ≤ p + 2 by omega, show 10 * dgC tx p + dgC tx (p + 1) < 100 by omega⟩
theorem X_note (h : TX S t n tx p st) (hc : c < 12) (x y z : Int32) : ∃ S', fX17_note S (nI c) x y z = some S' ∧ mvd c S S' ∧ TX S' t n tx p st ∧ S'.1 18 c = x ∧ S'.1 19 c = y ∧ S'.1 20 c = z := by
  have ib := inb_nI hc (show 12 < 2 ^ 31 by decide)
  rw [fX17_note, ib, gd_true, nx_eq, gd_true, nx_eq, gd_true, nx_eq, cl (show c < 2 ^ 31 by omega)]
  have m : mvd c S (p1 (p1 (p1 S 18 c x) 19 c y) 20 c z) := ⟨fun k q h1 h2 => by
    rw [p1_at, if_neg (by omega), p1_at, if_neg (by omega), p1_at, if_neg (by omega)], by
    rw [p1_ne (by decide), p1_ne (by decide), p1_ne (by decide)], by
    rw [p1_ne (by decide), p1_ne (by decide), p1_ne (by decide)]⟩
  refine ⟨_, rfl, m, TX_mvd h m ?_ ?_ h.2.2.2.2.2.2.1, ?_, ?_, ?_⟩
  · rw [p1_ne (by decide), p1_ne (by decide), p1_ne (by decide)]; exact h.2.2.1
  · rw [p1_ne (by decide), p1_ne (by decide), p1_ne (by decide)]; exact h.2.2.2.1
  · rw [p1_ne (by decide), p1_ne (by decide), p1_eq]
  · rw [p1_ne (by decide), p1_eq]
  · rw [p1_eq]
theorem X_span (h : TX S t n tx p false) (hp : p < 100) (hc : c < 12) (x2 : Int32) : ∃ S', fX17_readSpan S (nI c) x2 = some S' ∧ mvd c S S' ∧ TX S' t n tx (spanR n tx p).2.1 (!(spanR n tx p).1) ∧ ((spanR n tx p).1 = true → S'.1 18 c = x2 ∧ S'.1 19 c = nI (spanR n tx p).2.2.1 ∧ S'.1 20 c = nI (spanR n tx p).2.2.2) := by
  obtain ⟨S1, v1, e1, m1, t1, w1⟩ := X_num h (by omega)
  have np1 := num_p n tx p
  have key : ∀ (S3 : St) (v2 : Int32) (S5 : St) (q : Nat), mvd c S S5 → TX S5 t n tx q true → ∃ S', (Option.bind (if v1 ≤ v2 then some S5 else nx (p1 S5 17 6 1) fun s11 => some s11) fun t8 => Option.bind (fX17_note t8 (nI c) x2 v1 v2) fun t13 => some t13) = some S' ∧ mvd c S S' ∧ TX S' t n tx q true := fun S3 v2 S5 q m5 t5 => by
    by_cases z : v1 ≤ v2
    · obtain ⟨S6, e6, m6, t6, _⟩ := X_note t5 hc x2 v1 v2
      rw [if_pos z, bs, e6, bs]
      exact ⟨S6, rfl, mvd_trans m5 m6, t6⟩
    · obtain ⟨S6, e6, m6, t6, _⟩ := X_note (TX_6 t5) hc x2 v1 v2
      rw [if_neg z, nx_eq, bs, e6, bs]
      exact ⟨S6, rfl, mvd_trans m5 (mvd_trans (mvd_of mv_6) m6), t6⟩
  unfold fX17_readSpan spanR
  rw [e1, bs]
  dsimp only
  cases o1 : (numR n tx p).1
  · rw [o1] at t1
    have t2 := TX_6 t1
    have t3 := TX_6 t2
    rw [X_expS t1, bs, X_numS t2, bs, if_neg (show ¬ (false = true) by decide)]
    obtain ⟨S', e, m, tt⟩ := key S1 0 _ _ (mvd_trans (mvd_of m1) (mvd_trans (mvd_of mv_6) (mvd_of mv_6))) t3
    exact ⟨S', e, m, tt, fun (q : false = true) => absurd q (by decide)⟩
  rw [o1] at t1
  rw [if_pos rfl]
  obtain ⟨S2, e2, m2, t2⟩ := X_exp t1 (x := 44) (by decide) (by omega)
  rw [e2, bs]
  cases o2 : isC n tx (numR n tx p).2.1 44
  · rw [o2, if_neg (show ¬ (false = true) by decide)] at t2
    rw [X_numS t2, bs, if_neg (show ¬ (false = true) by decide)]
    obtain ⟨S', e, m, tt⟩ := key S1 0 _ _ (mvd_trans (mvd_of m1) (mvd_trans (mvd_of m2) (mvd_of mv_6))) (TX_6 t2)
    exact ⟨S', e, m, tt, fun (q : false = true) => absurd q (by decide)⟩
  rw [o2, if_pos rfl] at t2
  rw [if_pos rfl]
  obtain ⟨S3, v3, e3, m3, t3, w3⟩ := X_num t2 (by omega)
  have np3 := num_p n tx ((numR n tx p).2.1 + 1)
  rw [e3, bs]
  dsimp only
  cases o3 : (numR n tx ((numR n tx p).2.1 + 1)).1
  · rw [o3] at t3
    rw [if_neg (show ¬ (false = true) by decide)]
    obtain ⟨S', e, m, tt⟩ := key S1 v3 S3 _ (mvd_trans (mvd_of m1) (mvd_trans (mvd_of m2) (mvd_of m3))) t3
    exact ⟨S', e, m, tt, fun (q : false = true) => absurd q (by decide)⟩
  rw [o3] at t3
  rw [if_pos rfl, w1 o1, w3 o3]
  by_cases z : (numR n tx p).2.2 ≤ (numR n tx ((numR n tx p).2.1 + 1)).2.2
  · obtain ⟨S6, e6, m6, t6, r1, r2, r3⟩ := X_note t3 hc x2 (nI (numR n tx p).2.2) (nI (numR n tx ((numR n tx p).2.1 + 1)).2.2)
    rw [if_pos (nI_le z (by omega)), bs, e6, bs, decide_eq_true z]
    exact ⟨S6, rfl, mvd_trans (mvd_of (mv_trans m1 (mv_trans m2 m3))) m6, t6, fun _ => ⟨r1, r2, r3⟩⟩
  · obtain ⟨S6, e6, m6, t6, _⟩ := X_note (TX_6 t3) hc x2 (nI (numR n tx p).2.2) (nI (numR n tx ((numR n tx p).2.1 + 1)).2.2)
    rw [if_neg (nI_ge (by omega) (by omega)), nx_eq, bs, e6, bs, decide_eq_false z]
    exact ⟨S6, rfl, mvd_trans (mvd_of (mv_trans m1 (mv_trans m2 m3))) (mvd_trans (mvd_of mv_6) m6), t6, fun (q : false = true) => absurd q (by decide)⟩
theorem X_letS (h : TX S t n tx p true) : fX17_readLetter S = some (0, p1 S 17 6 1) := by
  rw [fX17_readLetter, X_sgn h, bs, h.2.2.2.1, if_neg (by decide), nx_eq]
theorem X_let (h : TX S t n tx p false) (hp : p < 150) : ∃ S' v, fX17_readLetter S = some (v, S') ∧ mv S S' ∧ TX S' t n tx (if letC n tx p = true then p + 1 else p) (!letC n tx p) ∧ (letC n tx p = true → v = nI (ceC tx p) ∧ ceC tx p < 12) := by
  obtain ⟨x, ex, e1, e2⟩ := X_isLet h
  rw [fX17_readLetter, ex, bs, h.2.2.2.1, if_pos bI_f, e1, bs, if_bI0, nx_eq, nx_eq, h.2.2.1, nI_1]
  cases hl : letC n tx p
  · rw [if_neg (show ¬ (false = true) by decide), if_neg (show ¬ (false = true) by decide)]
    exact ⟨_, _, rfl, mv_6, TX_6 h, fun (q : false = true) => absurd q (by decide)⟩
  · rw [if_pos rfl, if_pos rfl]
    exact ⟨_, _, rfl, mv_5, TX_5 h (by omega), fun _ => e2 hl⟩
theorem X_othS (h : TX S t n tx p true) (x : Int32) : ∃ S', fX17_readOther S x = some (0, S') ∧ mv S S' ∧ TX S' t n tx p true := by
  rw [fX17_readOther, X_letS h, bs]
  dsimp only
  by_cases z : (0 : Int32) = x
  · rw [if_pos z, nx_eq, bs]
    exact ⟨_, rfl, mv_trans mv_6 mv_6, TX_6 (TX_6 h)⟩
  · rw [if_neg z, bs]
    exact ⟨_, rfl, mv_6, TX_6 h⟩
theorem X_oth (h : TX S t n tx p false) (hp : p < 150) (hc : c < 12) : ∃ S' v, fX17_readOther S (nI c) = some (v, S') ∧ mv S S' ∧ TX S' t n tx (othR n tx p c).2.1 (!(othR n tx p c).1) ∧ ((othR n tx p c).1 = true → v = nI (othR n tx p c).2.2 ∧ (othR n tx p c).2.2 < 12 ∧ (othR n tx p c).2.2 ≠ c) := by
  obtain ⟨S1, v, e1, m1, t1, w1⟩ := X_let h hp
  rw [fX17_readOther, e1, bs]
  unfold othR
  dsimp only
  cases hl : letC n tx p
  · rw [hl, if_neg (show ¬ (false = true) by decide)] at t1
    rw [if_neg (show ¬ (false = true) by decide)]
    by_cases z : v = nI c
    · rw [if_pos z, nx_eq, bs]
      exact ⟨_, _, rfl, mv_trans m1 mv_6, TX_6 t1, fun (q : false = true) => absurd q (by decide)⟩
    · rw [if_neg z, bs]
      exact ⟨_, _, rfl, m1, t1, fun (q : false = true) => absurd q (by decide)⟩
  · rw [hl, if_pos rfl] at t1
    obtain ⟨w1, w2⟩ := w1 hl
    rw [if_pos rfl, w1]
    by_cases z : ceC tx p = c
    · rw [z, if_pos rfl, nx_eq, bs, decide_eq_false (show ¬ (c ≠ c) from fun q => q rfl)]
      exact ⟨_, _, rfl, mv_trans m1 mv_6, TX_6 t1, fun (q : false = true) => absurd q (by decide)⟩
    · rw [if_neg (show ¬ nI (ceC tx p) = nI c from by rw [nI_eq (by omega) (by omega)]; exact z), bs, decide_eq_true (show ceC tx p ≠ c from z)]
      exact ⟨_, _, rfl, m1, t1, fun _ => ⟨rfl, w2, z⟩⟩
theorem X_fsg (h : TX S t n tx p st) : fX17_isFigureSign S = some (bI (fsgC n tx p)) := by
  rw [fX17_isFigureSign, X_fig h, bs, if_bI0, X_sgn h, bs, bs, sg_is (by decide), sg_is (by decide)]
  unfold fsgC
  cases figC n tx p
  · rw [if_neg (show ¬ (false = true) by decide)]
    cases isC n tx p 63
    · rw [if_neg (show ¬ (false = true) by decide)]
      cases isC n tx p 120 <;> rfl
    · rfl
  · rfl
theorem fsg_e (h : fsgC n tx p = true) : p < n ∧ tx p = nI (chC tx p) ∧ sgn (chC tx p) := by
  unfold fsgC at h
  rw [Bool.or_eq_true, Bool.or_eq_true] at h
  unfold chC sgn
  rcases h with h | h | h
  · obtain ⟨q1, q2, q3, q4⟩ := fig_e h
    have e : (tx p).toInt = (dgC tx p + 48 : Nat) := by rw [q4, nI_toInt (by omega)]
    refine ⟨q1, ?_, Or.inl (by omega)⟩
    rw [e, Int.toNat_natCast]; exact q4
  · have := is_lt h
    unfold isC at h
    rw [Bool.and_eq_true] at h
    have h2 := of_decide_eq_true h.2
    rw [h2]
    exact ⟨this, rfl, Or.inr (Or.inl rfl)⟩
  · have := is_lt h
    unfold isC at h
    rw [Bool.and_eq_true] at h
    have h2 := of_decide_eq_true h.2
    rw [h2]
    exact ⟨this, rfl, Or.inr (Or.inr rfl)⟩
end PC
