/-! the reader: what is at a place -/
def isC (n : Nat) (tx : Nat → Int32) (p : Nat) (x : Int32) : Bool := decide (p < n) && decide (tx p = x)
def figC (n : Nat) (tx : Nat → Int32) (p : Nat) : Bool := decide (p < n) && decide (48 ≤ (tx p).toInt ∧ (tx p).toInt ≤ 57)
def letC (n : Nat) (tx : Nat → Int32) (p : Nat) : Bool := decide (p < n) && decide (97 ≤ (tx p).toInt ∧ (tx p).toInt ≤ 108)
def fsgC (n : Nat) (tx : Nat → Int32) (p : Nat) : Bool := figC n tx p || (isC n tx p 63 || isC n tx p 120)
def dgC (tx : Nat → Int32) (p : Nat) : Nat := ((tx p).toInt - 48).toNat
def ceC (tx : Nat → Int32) (p : Nat) : Nat := ((tx p).toInt - 97).toNat
def chC (tx : Nat → Int32) (p : Nat) : Nat := (tx p).toInt.toNat
/-- ok, the place behind, the number -/
def numR (n : Nat) (tx : Nat → Int32) (p : Nat) : Bool × Nat × Nat := if figC n tx p = true then (if figC n tx (p + 1) = true then (true, p + 2, 10 * dgC tx p + dgC tx (p + 1)) else (true, p + 1, dgC tx p)) else (false, p, 0)
def othR (n : Nat) (tx : Nat → Int32) (p own : Nat) : Bool × Nat × Nat := if letC n tx p = true then (decide (ceC tx p ≠ own), p + 1, ceC tx p) else (false, p, 0)
def spanR (n : Nat) (tx : Nat → Int32) (p : Nat) : Bool × Nat × Nat × Nat :=
  if (numR n tx p).1 = true then
    if isC n tx (numR n tx p).2.1 44 = true then
      (if (numR n tx ((numR n tx p).2.1 + 1)).1 = true then (decide ((numR n tx p).2.2 ≤ (numR n tx ((numR n tx p).2.1 + 1)).2.2), (numR n tx ((numR n tx p).2.1 + 1)).2.1, (numR n tx p).2.2, (numR n tx ((numR n tx p).2.1 + 1)).2.2) else (false, (numR n tx ((numR n tx p).2.1 + 1)).2.1, 0, 0))
    else (false, (numR n tx p).2.1, 0, 0)
  else (false, (numR n tx p).2.1, 0, 0)
def TX (S : St) (t n : Nat) (tx : Nat → Int32) (p : Nat) (st : Bool) : Prop := S.1 17 3 = nI (12 + t) ∧ S.1 17 4 = nI n ∧ S.1 17 5 = nI p ∧ S.1 17 6 = bI st ∧ t < 4 ∧ n ≤ 60 ∧ p < 200 ∧ (∀ i, i < 60 → S.1 (12 + t) i = tx i) ∧ ∀ i, i < 60 → -128 ≤ (tx i).toInt ∧ (tx i).toInt < 128
def TY (Y : St) (t n : Nat) (tx : Nat → Int32) (p : Nat) : Prop := Y.1 5 t = nI n ∧ Y.1 0 13 = nI p ∧ t < 4 ∧ n ≤ 60 ∧ p < 200 ∧ (∀ i, i < n → Y.1 6 (60 * t + i) = tx i) ∧ ∀ i, i < 60 → -128 ≤ (tx i).toInt ∧ (tx i).toInt < 128
def mv (S S' : St) : Prop := (∀ k q, k ≠ 17 → S'.1 k q = S.1 k q) ∧ S'.1 17 3 = S.1 17 3 ∧ S'.1 17 4 = S.1 17 4
theorem mv_refl {S : St} : mv S S := ⟨fun _ _ _ => rfl, rfl, rfl⟩
theorem mv_trans {S S1 S2 : St} (h1 : mv S S1) (h2 : mv S1 S2) : mv S S2 := ⟨fun k q h => (h2.1 k q h).trans (h1.1 k q h), h2.2.1.trans h1.2.1, h2.2.2.trans h1.2.2⟩
section PB
variable {S S' Y Y' : St} {t n p : Nat} {tx : Nat → Int32} {st : Bool}
theorem TX_mv {q : Nat} {st' : Bool} (h : TX S t n tx p st) (m : mv S S') (h5 : S'.1 17 5 = nI q) (h6 : S'.1 17 6 = bI st') (hq : q < 200) : TX S' t n tx q st' := by
  obtain ⟨a1, a2, a3, a4, a5, a6, a7, a8, a9⟩ := h
  exact ⟨by rw [m.2.1]; exact a1, by rw [m.2.2]; exact a2, h5, h6, a5, a6, hq, fun i hi => by rw [m.1 _ _ (by omega)]; exact a8 i hi, a9⟩
theorem mv_5 {v : Int32} : mv S (p1 S 17 5 v) := ⟨fun k q h => p1_ne h, p1_ni (by decide), p1_ni (by decide)⟩
theorem mv_6 {v : Int32} : mv S (p1 S 17 6 v) := ⟨fun k q h => p1_ne h, p1_ni (by decide), p1_ni (by decide)⟩
theorem X_sgn (h : TX S t n tx p st) : fX17_sign S = some (if p < n then tx p else 1000) := by
  obtain ⟨a1, a2, a3, a4, a5, a6, a7, a8, a9⟩ := h
  have ec : Int32.toNatClampNeg (nI (12 + t)) = 12 + t := cl (by omega)
  have ia : ∀ t, t < 4 → isIA (12 + t) = true ∧ lenX (12 + t) = 60 := by decide
  rw [fX17_sign, a1, a2, a3, ec]
  by_cases z : p < n
  · rw [if_neg (nI_ge z (by omega)), if_pos z, (ia t a5).1, gd_true, (ia t a5).2, if_neg (show ¬ Int32.ofNat 60 ≤ nI p from nI_ge (b := 60) (by omega) (by decide)), gd_true, inb_nI (show p < 60 by omega) (by decide), gd_true, cl (show p < 2 ^ 31 by omega), bs, a8 p (by omega)]
  · rw [if_pos (nI_le (by omega) (by omega)), if_neg z, bs]
theorem Y_here (h : TY Y t n tx p) : fY0_here Y (nI t) = some (if p < n then tx p else -9) := by
  obtain ⟨a1, a2, a5, a6, a7, a8, a9⟩ := h
  rw [fY0_here, inb_nI a5 (by decide), gd_true, cl (show t < 2 ^ 31 by omega), a1, a2]
  by_cases z : p < n
  · rw [if_neg (nI_ge z (by omega)), if_pos z, ix60, inb_nI (show 60 * t + p < 240 by omega) (by decide), gd_true, cl (show 60 * t + p < 2 ^ 31 by omega), bs, a8 p z]
  · rw [if_pos (nI_le (by omega) (by omega)), if_neg z, bs]
theorem sg_is {α : Type} {x d : Int32} (hd : ¬ d = x) {A C : α} : (if (if p < n then tx p else d) = x then A else C) = if isC n tx p x = true then A else C := by
  unfold isC
  by_cases z : p < n
  · rw [if_pos z, decide_eq_true z, Bool.true_and]
    by_cases q : tx p = x
    · rw [if_pos q, decide_eq_true q, if_pos rfl]
    · rw [if_neg q, decide_eq_false q, if_neg (by decide)]
  · rw [if_neg z, if_neg hd, decide_eq_false z, Bool.false_and, if_neg (by decide)]
theorem X_fig (h : TX S t n tx p st) : fX17_isFigure S = some (bI (figC n tx p)) := by
  have a9 := h.2.2.2.2.2.2.2.2
  have a6 := h.2.2.2.2.2.1
  have e48 : (48 : Int32).toInt = 48 := by decide
  have e57 : (57 : Int32).toInt = 57 := by decide
  rw [fX17_isFigure, X_sgn h, bs]
  unfold figC
  by_cases z : p < n
  · rw [if_pos z, decide_eq_true z, Bool.true_and]
    by_cases q : tx p < 48
    · have := (fa_lt _ _).mp q
      rw [if_pos q, decide_eq_false (by omega)]; rfl
    · have q' : ¬ (tx p).toInt < 48 := fun w => q ((fa_lt _ _).mpr (by omega))
      rw [if_neg q, bs]
      by_cases w : 57 < tx p
      · have := (fa_lt _ _).mp w
        rw [if_pos w, decide_eq_false (by omega)]; rfl
      · have w' : ¬ 57 < (tx p).toInt := fun u => w ((fa_lt _ _).mpr (by omega))
        rw [if_neg w, decide_eq_true (by omega)]; rfl
  · rw [if_neg z, decide_eq_false z, if_neg (by decide), bs, if_pos (by decide)]; rfl
theorem Y_fig (h : TY Y t n tx p) : ∃ x, fY0_here Y (nI t) = some x ∧ fYs_in Y x 48 57 = some (bI (figC n tx p)) := by
  have a9 := h.2.2.2.2.2.2
  have e48 : (48 : Int32).toInt = 48 := by decide
  have e57 : (57 : Int32).toInt = 57 := by decide
  refine ⟨_, Y_here h, ?_⟩
  rw [Yin]
  unfold figC
  by_cases z : p < n
  · rw [if_pos z, decide_eq_true z, Bool.true_and]
    by_cases q : 48 ≤ (tx p).toInt ∧ (tx p).toInt ≤ 57
    · rw [decide_eq_true q, if_pos ⟨(fa_le _ _).mpr (by omega), (fa_le _ _).mpr (by omega)⟩]; rfl
    · rw [decide_eq_false q, if_neg (fun w => q ⟨by have := (fa_le _ _).mp w.1; omega, by have := (fa_le _ _).mp w.2; omega⟩)]; rfl
  · rw [if_neg z, decide_eq_false z, if_neg (by decide)]; rfl
theorem Y_let (h : TY Y t n tx p) : fYs_in Y (if p < n then tx p else -9) 97 108 = some (bI (letC n tx p)) := by
  have e48 : (97 : Int32).toInt = 97 := by decide
  have e57 : (108 : Int32).toInt = 108 := by decide
  rw [Yin]
  unfold letC
  by_cases z : p < n
  · rw [if_pos z, decide_eq_true z, Bool.true_and]
    by_cases q : 97 ≤ (tx p).toInt ∧ (tx p).toInt ≤ 108
    · rw [decide_eq_true q, if_pos ⟨(fa_le _ _).mpr (by omega), (fa_le _ _).mpr (by omega)⟩]; rfl
    · rw [decide_eq_false q, if_neg (fun w => q ⟨by have := (fa_le _ _).mp w.1; omega, by have := (fa_le _ _).mp w.2; omega⟩)]; rfl
  · rw [if_neg z, decide_eq_false z, if_neg (by decide)]; rfl
theorem let_e (h : letC n tx p = true) : p < n ∧ tx p - 97 = nI (ceC tx p) ∧ ceC tx p < 12 := by
  unfold letC at h
  rw [Bool.and_eq_true] at h
  have h1 := of_decide_eq_true h.1
  have h2 := of_decide_eq_true h.2
  unfold ceC
  refine ⟨h1, ?_, by omega⟩
  rw [iI_nat, Int.toNat_of_nonneg (by omega), ← iI_sub, iI_of]; rfl
theorem X_isLet (h : TX S t n tx p st) : ∃ x, fX17_sign S = some x ∧ fXs_isCell S (x - 97) = some (bI (letC n tx p)) ∧ (letC n tx p = true → x - 97 = nI (ceC tx p) ∧ ceC tx p < 12) := by
  have a9 := h.2.2.2.2.2.2.2.2
  have a6 := h.2.2.2.2.2.1
  refine ⟨_, X_sgn h, ?_, fun q => ?_⟩
  · unfold fXs_isCell letC
    by_cases z : p < n
    · have b9 := a9 p (by omega)
      have ex : tx p - 97 = iI ((tx p).toInt - 97) := by rw [← iI_sub, iI_of]; rfl
      rw [if_pos z, decide_eq_true z, Bool.true_and, ex, show (12 : Int32) = iI 12 from rfl, show (0 : Int32) = iI 0 from rfl]
      by_cases q : (tx p).toInt - 97 < 0
      · rw [if_pos ((iI_lt (by omega) (by omega) (by omega) (by omega)).mpr q), decide_eq_false (by omega)]; rfl
      · rw [if_neg (fun w => q ((iI_lt (by omega) (by omega) (by omega) (by omega)).mp w))]
        by_cases w : 12 ≤ (tx p).toInt - 97
        · rw [if_pos ((iI_le (by omega) (by omega) (by omega) (by omega)).mpr w), decide_eq_false (by omega)]; rfl
        · rw [if_neg (fun u => w ((iI_le (by omega) (by omega) (by omega) (by omega)).mp u)), decide_eq_true (by omega)]; rfl
    · rw [if_neg z, decide_eq_false z]; rfl
  · have := let_e q
    rw [if_pos this.1]
    exact this.2
theorem fig_e (h : figC n tx p = true) : p < n ∧ tx p - 48 = nI (dgC tx p) ∧ dgC tx p < 10 ∧ tx p = nI (dgC tx p + 48) := by
  unfold figC at h
  rw [Bool.and_eq_true] at h
  have h1 := of_decide_eq_true h.1
  have h2 := of_decide_eq_true h.2
  unfold dgC
  refine ⟨h1, ?_, by omega, ?_⟩
  · rw [iI_nat, Int.toNat_of_nonneg (by omega), ← iI_sub, iI_of]; rfl
  · rw [iI_nat, Int.natCast_add, Int.toNat_of_nonneg (by omega), show (tx p).toInt - 48 + ((48 : Nat) : Int) = (tx p).toInt by omega, iI_of]
theorem is_lt {x : Int32} (h : isC n tx p x = true) : p < n := by
  unfold isC at h
  rw [Bool.and_eq_true] at h
  exact of_decide_eq_true h.1
/-- readNumber -/
theorem X_num (h : TX S t n tx p false) (hp : p < 150) : ∃ S' v, fX17_readNumber S = some (v, S') ∧ mv S S' ∧ TX S' t n tx (numR n tx p).2.1 (!(numR n tx p).1) ∧ ((numR n tx p).1 = true → v = nI (numR n tx p).2.2) := by
  have h6 := h.2.2.2.1
  have h5 := h.2.2.1
  unfold fX17_readNumber numR
  rw [h6, if_pos bI_f, X_fig h, bs, if_bI0]
  cases f1 : figC n tx p
  · rw [if_neg (show ¬ (false = true) by decide), if_neg (show ¬ (false = true) by decide), nx_eq]
    refine ⟨_, _, rfl, mv_6, TX_mv h mv_6 (by rw [p1_ni (by decide)]; exact h5) (by rw [p1_eq]; rfl) (show p < 200 by omega), fun (q : false = true) => absurd q (by decide)⟩
  rw [if_pos rfl, if_pos rfl, X_sgn h, bs, nx_eq, h5, nI_1]
  obtain ⟨q1, q2, q3, q4⟩ := fig_e f1
  have h' : TX (p1 S 17 5 (nI (p + 1))) t n tx (p + 1) false := TX_mv h mv_5 (by rw [p1_eq]) (by rw [p1_ni (by decide)]; exact h6) (by omega)
  rw [if_pos q1, X_fig h', bs, if_bI0]
  cases f2 : figC n tx (p + 1)
  · rw [if_neg (show ¬ (false = true) by decide), if_neg (show ¬ (false = true) by decide), bs]
    exact ⟨_, _, rfl, mv_5, h', fun _ => q2⟩
  · obtain ⟨r1, r2, r3, r4⟩ := fig_e f2
    rw [if_pos rfl, if_pos rfl, X_sgn h', bs, nx_eq, nx_eq, p1_eq, nI_1, if_pos r1, bs]
    refine ⟨_, _, rfl, mv_trans mv_5 mv_5, TX_mv h' mv_5 (by rw [p1_eq]) (by rw [p1_ni (by decide), p1_ni (by decide)]; exact h6) (show p + 2 < 200 by omega), fun _ => ?_⟩
    show (10 : Int32) * (tx p - 48) + tx (p + 1) - 48 = nI (10 * dgC tx p + dgC tx (p + 1))
    rw [q2, r4, show (10 : Int32) = nI 10 from rfl, pk_mul, nI_add, iI_nat, show (48 : Int32) = iI 48 from rfl, iI_sub, iI_nat]
    congr 1
    omega
theorem TY_mv {q : Nat} (h : TY Y t n tx p) (m : ∀ k i, k ≠ 0 → Y'.1 k i = Y.1 k i) (h5 : Y'.1 0 13 = nI q) (hq : q < 200) : TY Y' t n tx q := by
  obtain ⟨a1, a2, a5, a6, a7, a8, a9⟩ := h
  exact ⟨by rw [m 5 t (by decide)]; exact a1, h5, a5, a6, hq, fun i hi => by rw [m 6 _ (by decide)]; exact a8 i hi, a9⟩
def mvY (Y Y' : St) : Prop := (∀ k i, ¬ (k = 0 ∧ (i = 13 ∨ i = 14)) → Y'.1 k i = Y.1 k i)
theorem mvY_0 (h : mvY Y Y') : ∀ k i, k ≠ 0 → Y'.1 k i = Y.1 k i := fun k i hk => h k i (by omega)
theorem Y_num {N : Nat} (hN : 61 < N) (h : TY Y t n tx p) (hp : p < 150) : ∃ Y', fY0_readsNumber N Y (nI t) = some (bI (numR n tx p).1, Y') ∧ mvY Y Y' ∧ TY Y' t n tx (numR n tx p).2.1 ∧ ((numR n tx p).1 = true → Y'.1 0 14 = nI (numR n tx p).2.2) := by
  obtain ⟨M, rfl⟩ : ∃ M, N = M + 3 := ⟨N - 3, by omega⟩
  have h13 := h.2.1
  have m0 : ∀ {Z : St} {v : Int32}, mvY Z (p1 Z 0 14 v) := fun k i hk => by rw [p1_at, if_neg (by omega)]
  have m1 : ∀ {Z : St} {v : Int32}, mvY Z (p1 Z 0 13 v) := fun k i hk => by rw [p1_at, if_neg (by omega)]
  have mt : ∀ {A B C : St}, mvY A B → mvY B C → mvY A C := fun h1 h2 k i hk => (h2 k i hk).trans (h1 k i hk)
  have h0 : TY (p1 Y 0 14 0) t n tx p := TY_mv h (mvY_0 m0) (by rw [p1_ni (by decide)]; exact h13) (by omega)
  obtain ⟨x0, ex0, fx0⟩ := Y_fig h0
  have sub0 : ∀ a b : Nat, a < 200 → b < 200 → ((2 : Int32) ≤ nI a - nI b ↔ b + 2 ≤ a) := fun a b ha hb => by
    rw [iI_nat a, iI_nat b, iI_sub, show (2 : Int32) = iI 2 from rfl, iI_le (by omega) (by omega) (by omega) (by omega)]
    omega
  unfold fY0_readsNumber numR
  rw [nx_eq, h13, fY0_readsNumber_L10, h0.2.1, if_neg (fun q => by have := (sub0 p p (by omega) (by omega)).mp q; omega), ex0, bs, fx0, bs, if_bI0]
  cases f1 : figC n tx p
  · rw [if_neg (show ¬ (false = true) by decide), if_neg (show ¬ (false = true) by decide), bs, h0.2.1, if_pos (ge_n (by omega)), bs, isb0, gd_true]
    exact ⟨_, rfl, m0, h0, fun (q : false = true) => absurd q (by decide)⟩
  obtain ⟨q1, q2, q3, q4⟩ := fig_e f1
  rw [if_pos rfl, if_pos rfl, bs, nx_eq, nx_eq]
  have ex0' : x0 = tx p := by
    have := Y_here h0
    rw [ex0, if_pos q1] at this
    injection this
  have e14 : (10 : Int32) * (p1 Y 0 14 0).1 0 14 + x0 - 48 = nI (dgC tx p) := by
    rw [p1_eq, ex0', ← q2, show (10 : Int32) * 0 = 0 from by decide, Int32.zero_add]
  have e13 : (p1 (p1 Y 0 14 0) 0 14 (nI (dgC tx p))).1 0 13 + 1 = nI (p + 1) := by
    rw [p1_ni (by decide), p1_ni (by decide), h13, nI_1]
  rw [e14, e13]
  have h1 : TY (p1 (p1 (p1 Y 0 14 0) 0 14 (nI (dgC tx p))) 0 13 (nI (p + 1))) t n tx (p + 1) := TY_mv h (mvY_0 (mt (mt m0 m0) m1)) (by rw [p1_eq]) (by omega)
  obtain ⟨x1, ex1, fx1⟩ := Y_fig h1
  rw [fY0_readsNumber_L10, h1.2.1, if_neg (fun q => by have := (sub0 (p + 1) p (by omega) (by omega)).mp q; omega), ex1, bs, fx1, bs, if_bI0]
  cases f2 : figC n tx (p + 1)
  · rw [if_neg (show ¬ (false = true) by decide), if_neg (show ¬ (false = true) by decide), bs, h1.2.1, if_neg (nI_ge (by omega) (by omega)), bs, isb1, gd_true]
    exact ⟨_, rfl, mt (mt m0 m0) m1, h1, fun _ => by rw [p1_ni (by decide), p1_eq]⟩
  obtain ⟨r1, r2, r3, r4⟩ := fig_e f2
  rw [if_pos rfl, if_pos rfl, bs, nx_eq, nx_eq]
  have ex1' : x1 = tx (p + 1) := by
    have := Y_here h1
    rw [ex1, if_pos r1] at this
    injection this
  have e14' : (10 : Int32) * (p1 (p1 (p1 Y 0 14 0) 0 14 (nI (dgC tx p))) 0 13 (nI (p + 1))).1 0 14 + x1 - 48 = nI (10 * dgC tx p + dgC tx (p + 1)) := by
    rw [p1_ni (by decide), p1_eq, ex1', r4, show (10 : Int32) = nI 10 from rfl, pk_mul, nI_add, iI_nat, show (48 : Int32) = iI 48 from rfl, iI_sub, iI_nat]
    congr 1
    omega
  rw [e14']
  have e13' : (p1 (p1 (p1 (p1 Y 0 14 0) 0 14 (nI (dgC tx p))) 0 13 (nI (p + 1))) 0 14 (nI (10 * dgC tx p + dgC tx (p + 1)))).1 0 13 + 1 = nI (p + 2) := by
    rw [p1_ni (by decide), p1_eq, nI_1]
  rw [e13']
  have h2 : TY (p1 (p1 (p1 (p1 (p1 Y 0 14 0) 0 14 (nI (dgC tx p))) 0 13 (nI (p + 1))) 0 14 (nI (10 * dgC tx p + dgC tx (p + 1)))) 0 13 (nI (p + 2))) t n tx (p + 2) := TY_mv h1 (mvY_0 (mt m0 m1)) (by rw [p1_eq]) (by omega)
  rw [fY0_readsNumber_L10, h2.2.1, if_pos ((sub0 (p + 2) p (by omega) (by omega)).mpr (by omega)), bs, h2.2.1, if_neg (nI_ge (by omega) (by omega)), bs, isb1, gd_true]
  exact ⟨_, rfl, mt (mt (mt m0 m0) m1) (mt m0 m1), h2, fun _ => by rw [p1_ni (by decide), p1_eq]⟩
end PB
