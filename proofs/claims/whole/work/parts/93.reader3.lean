/-! the reader: items of the class -/
section PD
variable {S S' Y Y' : St} {t n p c : Nat} {tx : Nat → Int32} {st : Bool}
theorem is_ne {x y : Int32} (h : isC n tx p x = true) (hxy : ¬ x = y) : isC n tx p y = false := by
  unfold isC at h ⊢
  rw [Bool.and_eq_true] at h
  have h2 := of_decide_eq_true h.2
  rw [h2, decide_eq_false hxy, Bool.and_false]
theorem X_figure (h : TX S t n tx p false) (hp : p < 100) (hc : c < 12) : ∃ S', fX17_readFigure S (nI c) = some S' ∧ mvd c S S' ∧ (fsgC n tx p = false → TX S' t n tx p true) ∧ (fsgC n tx p = true → fsgC n tx (p + 1) = false → TX S' t n tx (p + 1) false ∧ S'.1 18 c = 1 ∧ S'.1 19 c = nI 48 ∧ S'.1 20 c = nI (chC tx p)) ∧ (fsgC n tx p = true → fsgC n tx (p + 1) = true → TX S' t n tx (p + 2) false ∧ S'.1 18 c = 1 ∧ S'.1 19 c = nI (chC tx p) ∧ S'.1 20 c = nI (chC tx (p + 1))) := by
  rw [fX17_readFigure, X_fsg h, bs, if_bI0]
  cases f1 : fsgC n tx p
  · rw [if_neg (show ¬ (false = true) by decide), nx_eq]
    exact ⟨_, rfl, mvd_of mv_6, fun _ => TX_6 h, fun q => absurd q (by decide), fun q => absurd q (by decide)⟩
  obtain ⟨q1, q2, q3⟩ := fsg_e f1
  have h' : TX (p1 S 17 5 (nI (p + 1))) t n tx (p + 1) false := TX_5 h (by omega)
  rw [if_pos rfl, X_sgn h, bs, if_pos q1, nx_eq, h.2.2.1, nI_1, X_fsg h', bs, if_bI0]
  cases f2 : fsgC n tx (p + 1)
  · obtain ⟨S6, e6, m6, t6, r1, r2, r3⟩ := X_note h' hc 1 48 (tx p)
    rw [if_neg (show ¬ (false = true) by decide), bs, e6, bs]
    exact ⟨S6, rfl, mvd_trans (mvd_of mv_5) m6, fun q => absurd q (by decide), fun _ _ => ⟨t6, r1, r2, by rw [r3, q2]⟩, fun _ q => absurd q (by decide)⟩
  · obtain ⟨w1, w2, w3⟩ := fsg_e f2
    have h'' : TX (p1 (p1 S 17 5 (nI (p + 1))) 17 5 (nI (p + 1 + 1))) t n tx (p + 1 + 1) false := TX_5 h' (by omega)
    obtain ⟨S6, e6, m6, t6, r1, r2, r3⟩ := X_note h'' hc 1 (tx p) (tx (p + 1))
    rw [if_pos rfl, X_sgn h', bs, if_pos w1, nx_eq, p1_eq, nI_1, bs, e6, bs]
    exact ⟨S6, rfl, mvd_trans (mvd_of mv_5) (mvd_trans (mvd_of mv_5) m6), fun q => absurd q (by decide), fun _ q => absurd q (by decide), fun _ _ => ⟨t6, r1, by rw [r2, q2], by rw [r3, w2]⟩⟩
theorem oth_p (n : Nat) (tx : Nat → Int32) (p c : Nat) : p ≤ (othR n tx p c).2.1 ∧ (othR n tx p c).2.1 ≤ p + 1 ∧ ((othR n tx p c).1 = true → (othR n tx p c).2.1 = p + 1 ∧ (othR n tx p c).2.2 < 12 ∧ (othR n tx p c).2.2 ≠ c) := by
  unfold othR
  cases hl : letC n tx p
  · rw [if_neg (by decide)]
    exact ⟨Nat.le_refl p, show p ≤ p + 1 by omega, fun (q : false = true) => absurd q (by decide)⟩
  · rw [if_pos rfl]
    exact ⟨show p ≤ p + 1 by omega, Nat.le_refl (p + 1), fun q => ⟨rfl, (let_e hl).2.2, of_decide_eq_true q⟩⟩
theorem span_p (n : Nat) (tx : Nat → Int32) (p : Nat) : p ≤ (spanR n tx p).2.1 ∧ (spanR n tx p).2.1 ≤ p + 5 ∧ ((spanR n tx p).1 = true → (spanR n tx p).2.2.1 ≤ (spanR n tx p).2.2.2 ∧ (spanR n tx p).2.2.2 < 100) := by
  have a := num_p n tx p
  have b := num_p n tx ((numR n tx p).2.1 + 1)
  unfold spanR
  cases o1 : (numR n tx p).1
  · rw [if_neg (by decide)]
    exact ⟨a.1, show (numR n tx p).2.1 ≤ p + 5 by omega, fun (q : false = true) => absurd q (by decide)⟩
  rw [if_pos rfl]
  cases o2 : isC n tx (numR n tx p).2.1 44
  · rw [if_neg (by decide)]
    exact ⟨a.1, show (numR n tx p).2.1 ≤ p + 5 by omega, fun (q : false = true) => absurd q (by decide)⟩
  rw [if_pos rfl]
  cases o3 : (numR n tx ((numR n tx p).2.1 + 1)).1
  · rw [if_neg (by decide)]
    exact ⟨show p ≤ (numR n tx ((numR n tx p).2.1 + 1)).2.1 by omega, show (numR n tx ((numR n tx p).2.1 + 1)).2.1 ≤ p + 5 by omega, fun (q : false = true) => absurd q (by decide)⟩
  rw [if_pos rfl]
  exact ⟨show p ≤ (numR n tx ((numR n tx p).2.1 + 1)).2.1 by omega, show (numR n tx ((numR n tx p).2.1 + 1)).2.1 ≤ p + 5 by omega, fun q => ⟨of_decide_eq_true q, b.2.2⟩⟩
theorem itm_p (n : Nat) (tx : Nat → Int32) (p c : Nat) : p ≤ (itmR n tx p c).2.1 ∧ (itmR n tx p c).2.1 ≤ p + 10 ∧ ((itmR n tx p c).1 = true → (itmR n tx p c).2.2.1 < 6 ∧ cellOK c (itmR n tx p c).2.2.1 (itmR n tx p c).2.2.2.1 (itmR n tx p c).2.2.2.2) := by
  have sp := span_p n tx (p + 1)
  have o1 := oth_p n tx (p + 1) c
  have o2 := oth_p n tx (p + 2) c
  have no : ∀ q, p ≤ q → q ≤ p + 10 → p ≤ ((false, q, 0, 0, 0) : Bool × Nat × Nat × Nat × Nat).2.1 ∧ ((false, q, 0, 0, 0) : Bool × Nat × Nat × Nat × Nat).2.1 ≤ p + 10 ∧ (((false, q, 0, 0, 0) : Bool × Nat × Nat × Nat × Nat).1 = true → ((false, q, 0, 0, 0) : Bool × Nat × Nat × Nat × Nat).2.2.1 < 6 ∧ cellOK c ((false, q, 0, 0, 0) : Bool × Nat × Nat × Nat × Nat).2.2.1 ((false, q, 0, 0, 0) : Bool × Nat × Nat × Nat × Nat).2.2.2.1 ((false, q, 0, 0, 0) : Bool × Nat × Nat × Nat × Nat).2.2.2.2) := fun q h1 h2 => ⟨h1, h2, fun (w : false = true) => absurd w (by decide)⟩
  unfold itmR
  split
  · split
    · rename_i q
      have s3 := sp.2.2 q
      split
      · refine ⟨show p ≤ (spanR n tx (p + 1)).2.1 + 1 by omega, show (spanR n tx (p + 1)).2.1 + 1 ≤ p + 10 by omega, fun _ => ⟨show 0 < 6 by omega, ?_⟩⟩
        exact Or.inr (Or.inl ⟨Or.inl rfl, s3.1, s3.2⟩)
      · exact no _ (by omega) (by omega)
    · exact no _ (by omega) (by omega)
  split
  · refine ⟨show p ≤ (spanR n tx (p + 1)).2.1 by omega, show (spanR n tx (p + 1)).2.1 ≤ p + 10 by omega, fun q => ⟨show 5 < 6 by omega, ?_⟩⟩
    have s3 := sp.2.2 q
    exact Or.inr (Or.inl ⟨Or.inr rfl, s3.1, s3.2⟩)
  split
  · exact ⟨show p ≤ p + 1 by omega, show p + 1 ≤ p + 10 by omega, fun _ => ⟨show 3 < 6 by omega, Or.inr (Or.inr (Or.inr (Or.inr (Or.inl rfl))))⟩⟩
  split
  · split
    · rename_i f1
      split
      · rename_i f2
        exact ⟨show p ≤ p + 3 by omega, show p + 3 ≤ p + 10 by omega, fun _ => ⟨show 1 < 6 by omega, Or.inr (Or.inr (Or.inl ⟨rfl, (fsg_e f1).2.2, (fsg_e f2).2.2⟩))⟩⟩
      · exact ⟨show p ≤ p + 2 by omega, show p + 2 ≤ p + 10 by omega, fun _ => ⟨show 1 < 6 by omega, Or.inr (Or.inr (Or.inl ⟨rfl, Or.inl ⟨show 48 ≤ 48 by decide, show 48 ≤ 57 by decide⟩, (fsg_e f1).2.2⟩))⟩⟩
    · exact no _ (by omega) (by omega)
  split
  · refine ⟨show p ≤ (othR n tx (p + 1) c).2.1 by omega, show (othR n tx (p + 1) c).2.1 ≤ p + 10 by omega, fun q => ⟨show 4 < 6 by omega, ?_⟩⟩
    have w := o1.2.2 q
    exact Or.inr (Or.inr (Or.inr (Or.inr (Or.inr ⟨rfl, w.2.1, w.2.2⟩))))
  split
  · split
    · rename_i q1
      refine ⟨show p ≤ (othR n tx (p + 2) c).2.1 by omega, show (othR n tx (p + 2) c).2.1 ≤ p + 10 by omega, fun q => ⟨show 2 < 6 by omega, ?_⟩⟩
      have w1 := o1.2.2 q1
      have w2 := o2.2.2 q
      exact Or.inr (Or.inr (Or.inr (Or.inl ⟨rfl, w1.2.1, w2.2.1, w1.2.2, w2.2.2⟩)))
    · exact no _ (by omega) (by omega)
  · exact no _ (by omega) (by omega)
abbrev cX6 (S : St) (c k a b : Nat) : Prop := S.1 18 c = nI k ∧ (k ≠ 3 → S.1 19 c = nI a) ∧ (k ≠ 3 → k ≠ 4 → S.1 20 c = nI b)
theorem X_item (h : TX S t n tx p false) (hp : p < 80) (hl : letC n tx p = true) : ∃ S', fX17_readItem S = some S' ∧ mvd (ceC tx p) S S' ∧ TX S' t n tx (itmR n tx (p + 1) (ceC tx p)).2.1 (!(itmR n tx (p + 1) (ceC tx p)).1) ∧ ((itmR n tx (p + 1) (ceC tx p)).1 = true → cX6 S' (ceC tx p) (itmR n tx (p + 1) (ceC tx p)).2.2.1 (itmR n tx (p + 1) (ceC tx p)).2.2.2.1 (itmR n tx (p + 1) (ceC tx p)).2.2.2.2) := by
  obtain ⟨S1, v, e1, m1, t1, w1⟩ := X_let h (by omega)
  obtain ⟨w1, hc⟩ := w1 hl
  rw [hl, if_pos rfl] at t1
  generalize ceC tx p = c at w1 hc ⊢
  subst w1
  have t1' : TX S1 t n tx (p + 1) false := t1
  have t2 : TX (p1 S1 17 5 (nI (p + 2))) t n tx (p + 2) false := TX_5 t1' (by omega)
  have m2 : mv S (p1 S1 17 5 (nI (p + 2))) := mv_trans m1 mv_5
  rw [fX17_readItem, e1, bs]
  dsimp only
  rw [t1'.2.2.2.1, if_pos bI_f, X_sgn t1', bs, nx_eq, t1'.2.2.1, nI_1, sg_is (by decide), sg_is (by decide), sg_is (by decide), sg_is (by decide), sg_is (by decide), sg_is (by decide)]
  generalize p1 S1 17 5 (nI (p + 2)) = T at t2 m2 ⊢
  have itm : ∀ x : Int32, isC n tx (p + 1) x = true → ∀ y, ¬ x = y → isC n tx (p + 1) y = false := fun x hx y hy => is_ne hx hy
  cases h35 : isC n tx (p + 1) 35
  rotate_left
  · obtain ⟨S6, e6, m6, t6, r1, r2, r3⟩ := X_note t2 hc 3 0 0
    have er : itmR n tx (p + 1) c = (true, p + 2, 3, 0, 0) := by
      unfold itmR
      rw [itm 35 h35 91 (by decide), itm 35 h35 126 (by decide), h35]; rfl
    rw [if_pos rfl, e6, bs, bs, er]
    exact ⟨S6, rfl, mvd_trans (mvd_of m2) m6, t6, fun _ => ⟨r1, fun q => absurd rfl q, fun q => absurd rfl q⟩⟩
  rw [if_neg (show ¬ (false = true) by decide)]
  cases h42 : isC n tx (p + 1) 42
  rotate_left
  · obtain ⟨S3, v3, e3, m3, t3, w3⟩ := X_oth t2 (by omega) hc
    have er : itmR n tx (p + 1) c = (if (othR n tx (p + 2) c).1 = true then ((othR n tx (p + 3) c).1, (othR n tx (p + 3) c).2.1, 2, (othR n tx (p + 2) c).2.2, (othR n tx (p + 3) c).2.2) else (false, (othR n tx (p + 2) c).2.1, 0, 0, 0)) := by
      unfold itmR
      rw [itm 42 h42 91 (by decide), itm 42 h42 126 (by decide), h35, itm 42 h42 61 (by decide), itm 42 h42 62 (by decide), h42]; rfl
    rw [if_pos rfl, e3, bs, er]
    dsimp only
    have op := oth_p n tx (p + 2) c
    cases o1 : (othR n tx (p + 2) c).1
    · rw [o1] at t3
      obtain ⟨S4, e4, m4, t4⟩ := X_othS t3 (nI c)
      obtain ⟨S6, e6, m6, t6, r1, r2, r3⟩ := X_note t4 hc 2 v3 0
      rw [e4, bs]
      dsimp only
      rw [e6, bs, bs, if_neg (show ¬ (false = true) by decide)]
      exact ⟨S6, rfl, mvd_trans (mvd_of (mv_trans m2 (mv_trans m3 m4))) m6, t6, fun (q : false = true) => absurd q (by decide)⟩
    · obtain ⟨w3a, w3b, w3c⟩ := w3 o1
      rw [o1, (op.2.2 o1).1] at t3
      obtain ⟨S4, v4, e4, m4, t4, w4⟩ := X_oth t3 (by omega) hc
      obtain ⟨S6, e6, m6, t6, r1, r2, r3⟩ := X_note t4 hc 2 v3 v4
      rw [e4, bs]
      dsimp only
      rw [e6, bs, bs, if_pos rfl]
      exact ⟨S6, rfl, mvd_trans (mvd_of (mv_trans m2 (mv_trans m3 m4))) m6, t6, fun q => ⟨r1, fun _ => by rw [r2, w3a], fun _ _ => by rw [r3, (w4 q).1]⟩⟩
  rw [if_neg (show ¬ (false = true) by decide)]
  cases h61 : isC n tx (p + 1) 61
  rotate_left
  · obtain ⟨S3, e3, m3, z1, z2, z3⟩ := X_figure t2 (by omega) hc
    have er : itmR n tx (p + 1) c = (if fsgC n tx (p + 2) = true then (if fsgC n tx (p + 3) = true then (true, p + 4, 1, chC tx (p + 2), chC tx (p + 3)) else (true, p + 3, 1, 48, chC tx (p + 2))) else (false, p + 2, 0, 0, 0)) := by
      unfold itmR
      rw [itm 61 h61 91 (by decide), itm 61 h61 126 (by decide), h35, h61]; rfl
    rw [if_pos rfl, e3, bs, bs, er]
    cases f1 : fsgC n tx (p + 2)
    · rw [if_neg (show ¬ (false = true) by decide)]
      exact ⟨S3, rfl, mvd_trans (mvd_of m2) m3, z1 f1, fun (q : false = true) => absurd q (by decide)⟩
    · rw [if_pos rfl]
      cases f2 : fsgC n tx (p + 3)
      · obtain ⟨y1, y2, y3, y4⟩ := z2 f1 f2
        rw [if_neg (show ¬ (false = true) by decide)]
        exact ⟨S3, rfl, mvd_trans (mvd_of m2) m3, y1, fun _ => ⟨y2, fun _ => y3, fun _ _ => y4⟩⟩
      · obtain ⟨y1, y2, y3, y4⟩ := z3 f1 f2
        rw [if_pos rfl]
        exact ⟨S3, rfl, mvd_trans (mvd_of m2) m3, y1, fun _ => ⟨y2, fun _ => y3, fun _ _ => y4⟩⟩
  rw [if_neg (show ¬ (false = true) by decide)]
  cases h62 : isC n tx (p + 1) 62
  rotate_left
  · obtain ⟨S3, v3, e3, m3, t3, w3⟩ := X_oth t2 (by omega) hc
    have er : itmR n tx (p + 1) c = ((othR n tx (p + 2) c).1, (othR n tx (p + 2) c).2.1, 4, (othR n tx (p + 2) c).2.2, 0) := by
      unfold itmR
      rw [itm 62 h62 91 (by decide), itm 62 h62 126 (by decide), h35, h61, h62]; rfl
    obtain ⟨S6, e6, m6, t6, r1, r2, r3⟩ := X_note t3 hc 4 v3 0
    rw [if_pos rfl, e3, bs, er]
    dsimp only
    rw [e6, bs, bs]
    exact ⟨S6, rfl, mvd_trans (mvd_of (mv_trans m2 m3)) m6, t6, fun q => ⟨r1, fun _ => by rw [r2, (w3 q).1], fun _ q2 => absurd rfl q2⟩⟩
  rw [if_neg (show ¬ (false = true) by decide)]
  cases h91 : isC n tx (p + 1) 91
  rotate_left
  · obtain ⟨S3, e3, m3, t3, w3⟩ := X_span t2 (by omega) hc 0
    have er : itmR n tx (p + 1) c = (if (spanR n tx (p + 2)).1 = true then (if isC n tx (spanR n tx (p + 2)).2.1 93 = true then (true, (spanR n tx (p + 2)).2.1 + 1, 0, (spanR n tx (p + 2)).2.2.1, (spanR n tx (p + 2)).2.2.2) else (false, (spanR n tx (p + 2)).2.1, 0, 0, 0)) else (false, (spanR n tx (p + 2)).2.1, 0, 0, 0)) := by
      unfold itmR
      rw [h91]; rfl
    have sp := span_p n tx (p + 2)
    rw [if_pos rfl, e3, bs, er]
    cases o1 : (spanR n tx (p + 2)).1
    · rw [o1] at t3
      rw [X_expS t3, bs, bs, if_neg (show ¬ (false = true) by decide)]
      exact ⟨_, rfl, mvd_trans (mvd_of m2) (mvd_trans m3 (mvd_of mv_6)), TX_6 t3, fun (q : false = true) => absurd q (by decide)⟩
    · rw [o1] at t3
      obtain ⟨w3a, w3b, w3c⟩ := w3 o1
      obtain ⟨S4, e4, m4, t4⟩ := X_exp t3 (x := 93) (by decide) (by omega)
      rw [e4, bs, bs, if_pos rfl]
      cases o2 : isC n tx (spanR n tx (p + 2)).2.1 93
      · rw [o2, if_neg (show ¬ (false = true) by decide)] at t4
        rw [if_neg (show ¬ (false = true) by decide)]
        exact ⟨S4, rfl, mvd_trans (mvd_of m2) (mvd_trans m3 (mvd_of m4)), t4, fun (q : false = true) => absurd q (by decide)⟩
      · rw [o2, if_pos rfl] at t4
        rw [if_pos rfl]
        exact ⟨S4, rfl, mvd_trans (mvd_of m2) (mvd_trans m3 (mvd_of m4)), t4, fun _ => ⟨by rw [m4.1 _ _ (by decide)]; exact w3a, fun _ => by rw [m4.1 _ _ (by decide)]; exact w3b, fun _ _ => by rw [m4.1 _ _ (by decide)]; exact w3c⟩⟩
  rw [if_neg (show ¬ (false = true) by decide)]
  cases h126 : isC n tx (p + 1) 126
  rotate_left
  · obtain ⟨S3, e3, m3, t3, w3⟩ := X_span t2 (by omega) hc 5
    have er : itmR n tx (p + 1) c = ((spanR n tx (p + 2)).1, (spanR n tx (p + 2)).2.1, 5, (spanR n tx (p + 2)).2.2.1, (spanR n tx (p + 2)).2.2.2) := by
      unfold itmR
      rw [h91, h126]; rfl
    rw [if_pos rfl, e3, bs, bs, er]
    exact ⟨S3, rfl, mvd_trans (mvd_of m2) m3, t3, fun q => ⟨(w3 q).1, fun _ => (w3 q).2.1, fun _ _ => (w3 q).2.2⟩⟩
  have er : itmR n tx (p + 1) c = (false, p + 1, 0, 0, 0) := by
    unfold itmR
    rw [h91, h126, h35, h61, h62, h42]; rfl
  have t3 : TX (p1 T 17 5 (nI (p + 1))) t n tx (p + 1) false := TX_5 t2 (by omega)
  rw [if_neg (show ¬ (false = true) by decide), nx_eq, nx_eq, bs, t2.2.2.1, nI_pred, er]
  exact ⟨_, rfl, mvd_of (mv_trans m2 (mv_trans mv_5 mv_6)), TX_6 t3, fun (q : false = true) => absurd q (by decide)⟩
end PD
