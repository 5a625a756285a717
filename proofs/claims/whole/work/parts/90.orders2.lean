/-! orders: the reference, and both -/
def pI : Option Nat → Int32
  | none => -9
  | some d => nI d
def car (x : Int32) : Bool := decide (x = -9) || inb x 10000
section PA
variable {S S' Y Y' : St} {n r : Nat}
theorem two_i (i : Nat) : (2 : Int32) * nI i = nI (2 * i) := by rw [show (2 : Int32) = nI 2 from rfl, pk_mul]
theorem Y_runs {N : Nat} (hn : n ≤ 6) (hr : r < 6) : ∀ m q i mask p x, i + m = n → m < q → mask < 64 → (∀ d, p = some d → d < n) → x < 2 ^ 31 → ∃ t, fY0_runsOn_L16 N Y (nI r) (nI n) q (nI mask) (pI p) (nI x) 1 (nI i) = some t ∧ (if t.2 = 0 then some (0 : Int32) else if t.1 = 0 then some 1 else some 0) = some (bI (yB n (fun i => Y.1 3 (40 * r + 2 * i)) (fun i => Y.1 3 (40 * r + (2 * i + 1))) m x mask p))
  | m, 0, i, mask, p, x, h1, h2, _, _, _ => by omega
  | 0, q + 1, i, mask, p, x, h1, h2, hm, hp, hx => by
    rw [fY0_runsOn_L16, if_pos (nI_le (by omega) (by omega)), yB]
    refine ⟨_, rfl, ?_⟩
    dsimp only
    rw [if_neg ne10]
    by_cases z : x = 0
    · rw [z, if_pos (show nI 0 = 0 from rfl), decide_eq_true rfl]; rfl
    · rw [if_neg (nI_ne0 (by omega) hx), decide_eq_false z]; rfl
  | m + 1, q + 1, i, mask, p, x, h1, h2, hm, hp, hx => by
    have stop : ∀ (mk2 p2 x2 : Int32), ∃ t, fY0_runsOn_L16 N Y (nI r) (nI n) q mk2 p2 x2 0 (nI (i + 1)) = some t ∧ (if t.2 = 0 then some (0 : Int32) else if t.1 = 0 then some 1 else some 0) = some (bI false) := fun mk2 p2 x2 => by
      obtain ⟨q, rfl⟩ : ∃ k, q = k + 1 := ⟨q - 1, by omega⟩
      rw [fY0_runsOn_L16]
      by_cases z : nI n ≤ nI (i + 1)
      · rw [if_pos z]; exact ⟨_, rfl, rfl⟩
      · rw [if_neg z, if_pos rfl]; exact ⟨_, rfl, rfl⟩
    rw [fY0_runsOn_L16, if_neg (nI_ge (by omega) (by omega)), if_neg ne10, nx_eq, r10 hx, m10 hx, nI_1]
    have ein : fYs_in Y (nI (x % 10) - 1) 0 (nI n - 1) = some (bI (decide (1 ≤ x % 10 ∧ x % 10 ≤ n))) := by
      have e1 : nI (x % 10) - 1 = iI ((x % 10 : Nat) - 1 : Int) := by rw [iI_nat, show (1 : Int32) = iI 1 from rfl, iI_sub]
      have e2 : nI n - 1 = iI ((n : Int) - 1) := by rw [iI_nat, show (1 : Int32) = iI 1 from rfl, iI_sub]
      rw [Yin, e1, e2]
      congr 1
      by_cases z : 1 ≤ x % 10 ∧ x % 10 ≤ n
      · rw [decide_eq_true z, if_pos ⟨(iI_le (a := 0) (by omega) (by omega) (by omega) (by omega)).mpr (by omega), (iI_le (by omega) (by omega) (by omega) (by omega)).mpr (by omega)⟩]; rfl
      · rw [decide_eq_false z, if_neg (fun w => by
          have w1 := (iI_le (a := 0) (by omega) (by omega) (by omega) (by omega)).mp w.1
          have w2 := (iI_le (by omega) (by omega) (by omega) (by omega)).mp w.2
          omega)]; rfl
    rw [ein, bs, if_bI0, yB]
    by_cases z : 1 ≤ x % 10 ∧ x % 10 ≤ n
    rotate_left
    · rw [decide_eq_false z, if_neg (show ¬ (false = true) by decide), bs, if_pos rfl, bs, if_pos rfl, bs, Bool.false_and, Bool.false_and]
      exact stop _ _ _
    have ey : nI (x % 10) - 1 = nI (x % 10 - 1) := by
      obtain ⟨k, hk⟩ : ∃ k, x % 10 = k + 1 := ⟨x % 10 - 1, by omega⟩
      rw [hk, nI_pred]; rfl
    rw [decide_eq_true z, if_pos rfl, ey, Yhas Y (by omega) (by omega), bs, if_bI0, Bool.true_and]
    cases hb : mask.testBit (x % 10 - 1)
    rotate_left
    · rw [if_pos rfl, bs, if_pos rfl, bs, if_pos rfl, bs, Bool.not_true, Bool.false_and, Bool.false_and]
      exact stop _ _ _
    rw [if_neg (show ¬ (false = true) by decide), bs, if_neg ne10, Bool.not_false, Bool.true_and]
    have em : nI mask ||| (1 <<< (nI (x % 10 - 1) &&& 31)) = nI (mask ||| 2 ^ (x % 10 - 1)) := by rw [sh1 _ (by omega), fa_or]
    have ih := Y_runs (N := N) hn hr m q (i + 1) (mask ||| 2 ^ (x % 10 - 1)) (some (x % 10 - 1)) (x / 10) (by omega) (by omega) (Nat.or_lt_two_pow (n := 6) hm (Nat.pow_lt_pow_right (by omega) (by omega))) (fun d hd => by injection hd with hd; omega) (by omega)
    cases p with
    | none =>
      rw [if_pos (show pI none < 0 from by decide), bs, if_neg ne10, bs, em]
      show ∃ t, _ ∧ _ = some (bI (true && _))
      rw [Bool.true_and]
      exact ih
    | some d =>
      have hd := hp d rfl
      have ecp : (if Y.1 3 (40 * r + (2 * (x % 10 - 1) + 1)) = -9 then some (1 : Int32) else if Y.1 3 (40 * r + 2 * d) = -9 then some 1 else if Y.1 3 (40 * r + (2 * (x % 10 - 1) + 1)) = Y.1 3 (40 * r + 2 * d) then some 1 else some 0) = some (bI (cpt (Y.1 3 (40 * r + (2 * (x % 10 - 1) + 1))) (Y.1 3 (40 * r + 2 * d)))) := by
        unfold cpt
        by_cases z1 : Y.1 3 (40 * r + (2 * (x % 10 - 1) + 1)) = -9
        · rw [if_pos z1, decide_eq_true z1, Bool.true_or, Bool.or_true]; rfl
        · rw [if_neg z1, decide_eq_false z1, Bool.false_or]
          by_cases z2 : Y.1 3 (40 * r + 2 * d) = -9
          · rw [if_pos z2, decide_eq_true z2, Bool.or_true]; rfl
          · rw [if_neg z2, decide_eq_false z2, Bool.or_false]
            by_cases z3 : Y.1 3 (40 * r + (2 * (x % 10 - 1) + 1)) = Y.1 3 (40 * r + 2 * d)
            · rw [if_pos z3, decide_eq_true z3]; rfl
            · rw [if_neg z3, decide_eq_false z3]; rfl
      rw [if_neg (show ¬ pI (some d) < 0 from nI_pos (by omega)), two_i, nI_1, Y_rowAt hr (by omega), bs, show pI (some d) = nI d from rfl, two_i, Y_rowAt hr (by omega), bs, ecp, bs, bs, if_bI0]
      show ∃ t, _ ∧ _ = some (bI (cpt (Y.1 3 (40 * r + (2 * (x % 10 - 1) + 1))) (Y.1 3 (40 * r + 2 * d)) && _))
      cases hc : cpt (Y.1 3 (40 * r + (2 * (x % 10 - 1) + 1))) (Y.1 3 (40 * r + 2 * d))
      · rw [if_neg (show ¬ (false = true) by decide), bs, Bool.false_and]
        exact stop _ _ _
      · rw [if_pos rfl, bs, em, Bool.true_and]
        exact ih
theorem Y_runsOn {N : Nat} (hN : 61 < N) (hn : n ≤ 6) (hr : r < 6) {c : Nat} (hc : c < 2 ^ 31) : fY0_runsOn N Y (nI r) (nI c) (nI n) = some (bI (pgB n (fun i => Y.1 3 (40 * r + 2 * i)) (fun i => Y.1 3 (40 * r + (2 * i + 1))) n c)) := by
  obtain ⟨t, e, h⟩ := Y_runs (N := N) (Y := Y) hn hr n N 0 0 none c (by omega) (by omega) (by omega) (fun d q => absurd q (by simp)) hc
  have e2 : fY0_runsOn_L16 N Y (nI r) (nI n) N 0 (-9) (nI c) 1 0 = some t := e
  rw [fY0_runsOn, e2, bs, h, bs, bI_isb, gd_true, yB_0]
theorem ones_b : ∀ n, n < 7 → n * ones n + 1 ≤ 10 ^ n ∧ (1 ≤ n → ones n ≤ n * ones n + 1) ∧ n * ones n < 700000 := by decide
theorem Y_ones {N : Nat} (hN : 61 < N) (hn : n ≤ 6) {x1 : Int32} : fY0_orders_L115 N Y x1 (nI n) N 0 0 = some (nI (ones n)) := by
  obtain ⟨t, e, h⟩ := loop_up (fun q (s : Int32) x => fY0_orders_L115 N Y x1 (nI n) q s x) n (fun i s => s = nI (ones i)) (fun s => s = nI (ones n))
    (fun q s hI => ⟨s, by
      show fY0_orders_L115 N Y x1 (nI n) (q + 1) s (nI n) = _
      rw [fY0_orders_L115, if_pos (ge_n (by omega))], hI⟩)
    (fun q i s hi hI => by
      right
      show ∃ s', _ ∧ fY0_orders_L115 N Y x1 (nI n) (q + 1) s (nI i) = fY0_orders_L115 N Y x1 (nI n) q s' (nI (i + 1))
      rw [fY0_orders_L115, if_neg (nI_ge hi (by omega)), nI_1, hI, show (10 : Int32) = nI 10 from rfl, pk_mul, nI_1]
      exact ⟨_, rfl, rfl⟩)
    N 0 0 (by omega) (by omega) rfl
  have e2 : fY0_orders_L115 N Y x1 (nI n) N 0 0 = some t := e
  rw [e2, h]
theorem Y_ordL {N : Nat} (hN : 800000 < N) (hn : n ≤ 6) (n1 : 1 ≤ n) (hr : r < 6) : fY0_orders_L147 N Y (nI r) (nI n) (nI (ones n)) N 0 0 (nI (ones n)) = some (nI (fio (pgB n (fun i => Y.1 3 (40 * r + 2 * i)) (fun i => Y.1 3 (40 * r + (2 * i + 1))) n) (0, 0) 0 (10 ^ n)).1, nI (fio (pgB n (fun i => Y.1 3 (40 * r + 2 * i)) (fun i => Y.1 3 (40 * r + (2 * i + 1))) n) (0, 0) 0 (10 ^ n)).2) := by
  generalize hP : pgB n (fun i => Y.1 3 (40 * r + 2 * i)) (fun i => Y.1 3 (40 * r + (2 * i + 1))) n = P
  have ob := ones_b n (by omega)
  have ob2 := ob.2.1 n1
  have hP2 : ∀ c, c < 2 ^ 31 → fY0_runsOn N Y (nI r) (nI c) (nI n) = some (bI (P c)) := fun c hc => by rw [Y_runsOn (by omega) hn hr hc, hP]
  obtain ⟨t, e, h⟩ := loop_up (fun q (s : Int32 × Int32) x => fY0_orders_L147 N Y (nI r) (nI n) (nI (ones n)) q s.1 s.2 x) (n * ones n + 1)
    (fun c s => ones n ≤ c ∧ s = (nI (fio P (0, 0) (ones n) (c - ones n)).1, nI (fio P (0, 0) (ones n) (c - ones n)).2))
    (fun s => s = (nI (fio P (0, 0) (ones n) (n * ones n + 1 - ones n)).1, nI (fio P (0, 0) (ones n) (n * ones n + 1 - ones n)).2))
    (fun q s hI => ⟨s, by
      show fY0_orders_L147 N Y (nI r) (nI n) (nI (ones n)) (q + 1) s.1 s.2 (nI (n * ones n + 1)) = _
      rw [fY0_orders_L147, pk_mul, if_pos (nI_lt (by omega) (by omega))], hI.2⟩)
    (fun q c s hc hI => by
      right
      show ∃ s' : Int32 × Int32, _ ∧ fY0_orders_L147 N Y (nI r) (nI n) (nI (ones n)) (q + 1) s.1 s.2 (nI c) = fY0_orders_L147 N Y (nI r) (nI n) (nI (ones n)) q s'.1 s'.2 (nI (c + 1))
      obtain ⟨g1, g2⟩ := hI
      have fl := fio_le P (0, 0) (ones n) (c - ones n)
      dsimp only at fl
      have ef : fio P (0, 0) (ones n) (c + 1 - ones n) = sto P (fio P (0, 0) (ones n) (c - ones n)) c := by
        rw [show c + 1 - ones n = c - ones n + 1 by omega, fio, show ones n + (c - ones n) = c by omega]
      rw [fY0_orders_L147, pk_mul, if_neg (nI_nlt (by omega) (by omega)), hP2 c (by omega), bs, if_bI0, nI_1, ef, sto, g2]
      cases P c
      · rw [if_neg (show ¬ (false = true) by decide), if_neg (show ¬ (false = true) by decide), bs]
        exact ⟨_, ⟨by omega, rfl⟩, rfl⟩
      · rw [if_pos rfl, if_pos rfl, nI_1]
        by_cases z : (fio P (0, 0) (ones n) (c - ones n)).1 = 0
        · rw [z, if_pos (show nI 0 = 0 from rfl), bs, bs, if_pos rfl]
          exact ⟨_, ⟨by omega, rfl⟩, rfl⟩
        · rw [if_neg (nI_ne0 (by omega) (by omega)), bs, bs, if_neg z]
          exact ⟨_, ⟨by omega, rfl⟩, rfl⟩)
    N (ones n) (0, 0) (by omega) (by omega) ⟨Nat.le_refl _, by rw [Nat.sub_self]; rfl⟩
  have e2 : fY0_orders_L147 N Y (nI r) (nI n) (nI (ones n)) N 0 0 (nI (ones n)) = some t := e
  rw [e2, h]
  have eq : fio P (0, 0) 0 (10 ^ n) = fio P (0, 0) (ones n) (n * ones n + 1 - ones n) := by
    obtain ⟨w, hw⟩ : ∃ w, 10 ^ n = ones n + ((n * ones n + 1 - ones n) + w) := ⟨10 ^ n - (n * ones n + 1), by omega⟩
    rw [hw, fio_add, fio_no (ones n) (fun c c1 c2 => by
      cases q : P c
      · rfl
      · rw [← hP] at q
        have := pg_b n c q
        omega), fio_add, fio_no w (fun c c1 c2 => by
      cases q : P c
      · rfl
      · rw [← hP] at q
        have := pg_b n c q
        omega), Nat.zero_add]
  rw [eq]
theorem X_ordA {N : Nat} (hN : 61 < N) (hr : r < 6) (hn : n ≤ 6) (h9 : S.1 9 r = nI (2 * n)) : ∃ S', fX44_arrange N S (nI r) = some S' ∧ S'.1 44 3 = nI (fio (pgB n (fun i => S.1 (3 + r) (2 * i)) (fun i => S.1 (3 + r) (2 * i + 1)) n) (0, 0) 0 (10 ^ n)).1 ∧ S'.1 44 4 = nI (fio (pgB n (fun i => S.1 (3 + r) (2 * i)) (fun i => S.1 (3 + r) (2 * i + 1)) n) (0, 0) 0 (10 ^ n)).2 := by
  have ib := inb_nI hr (show 6 < 2 ^ 31 by decide)
  have er : Int32.toNatClampNeg (nI r) = r := cl (by omega)
  have ey : (if (6 : Int32) < nI (2 * n) / 2 then (6 : Int32) else nI (2 * n) / 2) = nI n := by
    have : nI (2 * n) / 2 = nI n := by
      rw [show (2 : Int32) = nI 2 from rfl, pk_div (by omega) (by omega) (by omega)]
      congr 1; omega
    rw [this, if_neg (show ¬ (6 : Int32) < nI n from nI_nlt (a := 6) hn (by decide))]
  obtain ⟨T, eT, t1, t2⟩ := loop_up (fun q st x => fX44_arrange_L18 N (nI r) q st x) n
    (fun i st => (∀ j, j < i → st.1 45 j = S.1 (3 + r) (2 * j) ∧ st.1 46 j = S.1 (3 + r) (2 * j + 1)) ∧ ∀ k q, k ≠ 45 → k ≠ 46 → st.1 k q = (p1 S 44 2 (nI n)).1 k q)
    (fun st => (∀ j, j < n → st.1 45 j = S.1 (3 + r) (2 * j) ∧ st.1 46 j = S.1 (3 + r) (2 * j + 1)) ∧ ∀ k q, k ≠ 45 → k ≠ 46 → st.1 k q = (p1 S 44 2 (nI n)).1 k q)
    (fun q st hI => ⟨st, by
      show fX44_arrange_L18 N (nI r) (q + 1) st (nI n) = _
      rw [fX44_arrange_L18, hI.2 44 2 (by decide) (by decide), p1_eq, if_pos (ge_n (by omega))], hI⟩)
    (fun q i st hi hI => by
      right
      obtain ⟨g1, g2⟩ := hI
      show ∃ s', _ ∧ fX44_arrange_L18 N (nI r) (q + 1) st (nI i) = fX44_arrange_L18 N (nI r) q s' (nI (i + 1))
      have e1 : st.1 (3 + r) (2 * i) = S.1 (3 + r) (2 * i) := by rw [g2 _ _ (by omega) (by omega), p1_ne (by omega)]
      have e2 : st.1 (3 + r) (2 * i + 1) = S.1 (3 + r) (2 * i + 1) := by rw [g2 _ _ (by omega) (by omega), p1_ne (by omega)]
      rw [fX44_arrange_L18, g2 44 2 (by decide) (by decide), p1_eq, if_neg (nI_ge hi (by omega)), two_i, X1_get_e st hr (by omega), bs, inb_nI (show i < 6 by omega) (by decide), gd_true, nx_eq, nI_1, X1_get_e _ hr (by omega), bs, gd_true, nx_eq, cl (show i < 2 ^ 31 by omega), nI_1, p1_ne (show 3 + r ≠ 45 by omega), e1, e2]
      refine ⟨p1 (p1 st 45 i (S.1 (3 + r) (2 * i))) 46 i (S.1 (3 + r) (2 * i + 1)), ⟨fun j hj => ?_, fun k q h1 h2 => by rw [p1_ne h2, p1_ne h1]; exact g2 k q h1 h2⟩, rfl⟩
      by_cases z : j = i
      · subst z
        rw [p1_ne (by decide), p1_eq, p1_eq]
        exact ⟨rfl, rfl⟩
      · rw [p1_ne (by decide), p1_ni z, p1_ni z, p1_ne (by decide)]
        exact g1 j (by omega))
    N 0 (p1 S 44 2 (nI n)) (by omega) (by omega) ⟨fun j hj => by omega, fun _ _ _ _ => rfl⟩
  have eT2 : fX44_arrange_L18 N (nI r) N (p1 S 44 2 (nI n)) 0 = some T := eT
  rw [fX44_arrange, fX1_sizeOf, ib, gd_true, er, h9, bs, nx_eq, ey, nx_eq, eT2, bs, nx_eq, nx_eq]
  obtain ⟨S', e, r1, r2, _⟩ := X_place (N := N) (n := n) (a := fun i => S.1 (3 + r) (2 * i)) (b := fun i => S.1 (3 + r) (2 * i + 1)) hN hn n 7 0 0 0 (-9) (p1 (p1 T 44 3 0) 44 4 0) (0, 0) (by omega) (by omega) rfl (by omega) (fun j _ => Nat.zero_testBit _) rfl (by rw [p1_ni (by decide), p1_ni (by decide), t2 44 2 (by decide) (by decide), p1_eq]) (fun j hj => by
    rw [p1_ne (by decide), p1_ne (by decide), p1_ne (by decide), p1_ne (by decide)]; exact t1 j hj) (by rw [p1_ni (by decide), p1_eq]; rfl) (by rw [p1_eq]; rfl) (Nat.zero_le _)
  have e2 : fX44_place N 7 (p1 (p1 T 44 3 0) 44 4 0) 0 0 (-9) 0 = some S' := e
  rw [e2, bs]
  rw [Nat.zero_mul] at r1 r2
  exact ⟨S', rfl, r1, r2⟩
theorem X_carE {α : Type} {t : Int32} {A B : α} : (if t = -9 then A else if t < 0 then B else if t ≤ 9999 then A else B) = if car t = true then A else B := by
  unfold car
  by_cases z : t = -9
  · rw [if_pos z, decide_eq_true z, Bool.true_or, if_pos rfl]
  · rw [if_neg z, decide_eq_false z, Bool.false_or]
    by_cases q : t < 0
    · rw [if_pos q, if_neg (fun w => inb_nn w q)]
    · rw [if_neg q]
      by_cases w : t ≤ 9999
      · rw [if_pos w, if_pos (inb_iff.mpr ?_)]
        have a := (fa_le _ _).mp w
        have b : ¬ t.toInt < 0 := fun u => q ((fa_lt _ _).mpr u)
        have e : (9999 : Int32).toInt = 9999 := by decide
        omega
      · rw [if_neg w, if_neg (fun u => ?_)]
        have b := (inb_iff.mp u).2
        have e : (9999 : Int32).toInt = 9999 := by decide
        exact w ((fa_le _ _).mpr (by omega))
theorem Y_carE (t : Int32) : fYs_isCarried Y t = some (bI (car t)) := by
  unfold fYs_isCarried
  rw [Yin0 Y t (n := 10000) (by decide) (by decide) (m := 9999) (by decide)]
  unfold car
  by_cases z : t = -9
  · rw [if_pos z, decide_eq_true z]; rfl
  · rw [if_neg z, decide_eq_false z, bs]
    by_cases q : inb t 10000 = true
    · rw [if_pos q, q]; rfl
    · rw [if_neg q, if_pos rfl]
      have : inb t 10000 = false := by simpa using q
      rw [this]; rfl
theorem car_R {N k : Nat} (hN : 61 < N) (hr : r < 6) (hk : k ≤ 40) (g2 : Y.1 2 r = nI k) (g3 : ∀ i, i < k → S.1 (3 + r) i = Y.1 3 (40 * r + i)) : ∃ t, fX0_orders_L47 N S (nI r) (nI k) N 0 = some t ∧ ((t = .inr () ∧ fY0_orders_L49 N Y (nI r) N 1 0 = some 1) ∨ ((∀ v, fX0_found S 3 = some v → t = .inl v) ∧ fY0_orders_L49 N Y (nI r) N 1 0 = some 0)) := by
  have ib := inb_nI hr (show 6 < 2 ^ 31 by decide)
  have er : Int32.toNatClampNeg (nI r) = r := cl (by omega)
  obtain ⟨u, eu, f, rfl, hf⟩ := loop_up (fun q (s : Int32) x => fY0_orders_L49 N Y (nI r) q s x) k (fun i s => ∃ f, s = bI f ∧ (f = true ↔ ∀ j, j < i → car (Y.1 3 (40 * r + j)) = true)) (fun s => ∃ f, s = bI f ∧ (f = true ↔ ∀ j, j < k → car (Y.1 3 (40 * r + j)) = true))
    (fun q s hI => ⟨s, by
      show fY0_orders_L49 N Y (nI r) (q + 1) s (nI k) = _
      rw [fY0_orders_L49, ib, gd_true, er, g2, if_pos (ge_n (by omega))], hI⟩)
    (fun q i s hi hI => by
      right
      obtain ⟨f, rfl, hf⟩ := hI
      show ∃ s', _ ∧ fY0_orders_L49 N Y (nI r) (q + 1) (bI f) (nI i) = fY0_orders_L49 N Y (nI r) q s' (nI (i + 1))
      rw [fY0_orders_L49, ib, gd_true, er, g2, if_neg (nI_ge hi (by omega)), Y_rowAt hr (by omega), bs, Y_carE, bs, if_bI0, if_bI0, nI_1]
      have fin : ∀ g : Bool, g = (f && car (Y.1 3 (40 * r + i))) → (g = true ↔ ∀ j, j < i + 1 → car (Y.1 3 (40 * r + j)) = true) := fun g hg => by
        rw [hg, Bool.and_eq_true, hf]
        constructor
        · rintro ⟨w1, w2⟩ j hj
          by_cases e : j = i
          · rw [e]; exact w2
          · exact w1 j (by omega)
        · intro w
          exact ⟨fun j hj => w j (by omega), w i (by omega)⟩
      cases f
      · rw [if_neg (show ¬ (false = true) by decide), bs]
        exact ⟨0, ⟨false, rfl, fin false rfl⟩, rfl⟩
      · rw [if_pos rfl]
        cases hc : car (Y.1 3 (40 * r + i))
        · rw [if_neg (show ¬ (false = true) by decide), bs]
          exact ⟨0, ⟨false, rfl, fin false (by rw [hc]; rfl)⟩, rfl⟩
        · rw [if_pos rfl, bs]
          exact ⟨1, ⟨true, rfl, fin true (by rw [hc]; rfl)⟩, rfl⟩)
    N 0 1 (by omega) (by omega) ⟨true, rfl, ⟨fun _ j hj => by omega, fun _ => rfl⟩⟩
  have eu2 : fY0_orders_L49 N Y (nI r) N 1 0 = some (bI f) := eu
  obtain ⟨t, et, ht⟩ := loop_up (fun q (_ : Unit) x => fX0_orders_L47 N S (nI r) (nI k) q x) k (fun i _ => ∀ j, j < i → car (Y.1 3 (40 * r + j)) = true) (fun t => (t = .inr () ∧ ∀ j, j < k → car (Y.1 3 (40 * r + j)) = true) ∨ ((∀ v, fX0_found S 3 = some v → t = .inl v) ∧ ∃ j, j < k ∧ car (Y.1 3 (40 * r + j)) = false))
    (fun q s hI => ⟨.inr (), by
      show fX0_orders_L47 N S (nI r) (nI k) (q + 1) (nI k) = _
      rw [fX0_orders_L47, if_pos (ge_n (by omega))], Or.inl ⟨rfl, hI⟩⟩)
    (fun q i s hi hI => by
      have e : fX0_orders_L47 N S (nI r) (nI k) (q + 1) (nI i) = if car (Y.1 3 (40 * r + i)) = true then fX0_orders_L47 N S (nI r) (nI k) q (nI (i + 1)) else Option.bind (fX0_found S 3) fun t18 => some (.inl (t18.1, t18.2)) := by
        rw [fX0_orders_L47, if_neg (nI_ge hi (by omega)), X1_get_e S hr (by omega), bs, g3 i hi, nI_1, X_carE]
      rw [e]
      cases hc : car (Y.1 3 (40 * r + i))
      · left
        rw [if_neg (show ¬ (false = true) by decide)]
        have hm : ∃ v, fX0_found S 3 = some v := by
          unfold fX0_found
          exact ⟨_, rfl⟩
        obtain ⟨v, hv⟩ := hm
        rw [hv, bs]
        exact ⟨_, rfl, Or.inr ⟨fun v' hv' => by injection hv' with hv'; rw [← hv'], i, hi, hc⟩⟩
      · right
        rw [if_pos rfl]
        refine ⟨(), fun j hj => ?_, rfl⟩
        by_cases z : j = i
        · rw [z]; exact hc
        · exact hI j (by omega))
    N 0 () (by omega) (by omega) (fun j hj => by omega)
  have et2 : fX0_orders_L47 N S (nI r) (nI k) N 0 = some t := et
  refine ⟨t, et2, ?_⟩
  rcases ht with ⟨h1, h2⟩ | ⟨h1, j, hj, h2⟩
  · left
    rw [eu2, hf.mpr h2]
    exact ⟨h1, rfl⟩
  · right
    refine ⟨h1, ?_⟩
    rw [eu2]
    cases f
    · rfl
    · rw [hf.mp rfl j hj] at h2
      exact absurd h2 (by decide)
theorem op17_orders {N : Nat} (hN : 800000 < N) : op_orders N RR := by
  intro S Y a1 h
  unfold fX0_orders fY0_orders
  rcases refRow h a1 with ⟨v, S', Y', e1, e2, hv, hR'⟩ | ⟨r, k, hr, rfl, hk, g1, g2, g3, e1, e2⟩
  · rw [e1, e2, bs, bs, if_neg (neg0 hv), if_neg (negle hv)]
    exact ⟨v, S', Y', rfl, rfl, hR'⟩
  have er : Int32.toNatClampNeg (nI r) = r := cl (by omega)
  have ib : inb (nI r) 6 = true := inb_nI hr (by decide)
  obtain ⟨S5, Y5, m1, m2, mR⟩ := found_R h (f := 5) (by decide) (x := 5) rfl
  obtain ⟨S3, Y3, w1, w2, wR⟩ := found_R h (f := 3) (by decide) (x := 3) rfl
  rw [e1, e2, bs, bs]
  dsimp only
  rw [if_pos rfl, if_pos (show (0 : Int32) ≤ 0 by decide), fX1_sizeOf, ib, gd_true, gd_true, gd_true, gd_true, bs, er, g1, g2, m1, m2]
  have rem : nI k - nI k / 2 * 2 = nI (k % 2) := pk_rem (d := 2) (by omega) (by decide) (by decide)
  rw [rem, Yin]
  have ein : (if (2 : Int32) ≤ nI k ∧ nI k ≤ 12 then (1 : Int32) else 0) = if 2 ≤ k ∧ k ≤ 12 then 1 else 0 := by
    by_cases z : 2 ≤ k ∧ k ≤ 12
    · rw [if_pos z, if_pos ⟨nI_le (a := 2) z.1 (by omega), nI_le (b := 12) z.2 (by decide)⟩]
    · rw [if_neg z, if_neg (fun q => z ⟨by
        rcases Nat.lt_or_ge k 2 with u | u
        · exact absurd q.1 (nI_ge (b := 2) u (by decide))
        · exact u, by
        rcases Nat.lt_or_ge 12 k with u | u
        · exact absurd q.2 (nI_ge (a := 12) u (by omega))
        · exact u⟩)]
  rw [ein, bs]
  have five : ∀ (A : Option (Int32 × St)) (C : Option (Int32 × St)), A = some (-3, S5) → C = some (-3, Y5) → ∃ v S' Y', A = some (v, S') ∧ C = some (v, Y') ∧ RR S' Y' := fun A C hA hC => ⟨-3, S5, Y5, hA, hC, mR⟩
  by_cases o : k % 2 = 0
  rotate_left
  · have o1 : ¬ nI (k % 2) = 0 := nI_ne0 (by omega) (by omega)
    rw [if_neg o1, if_neg o1]
    refine five _ _ ?_ rfl
    split
    · rfl
    · split <;> rfl
  rw [o, if_pos (show nI 0 = 0 from rfl), if_pos (show nI 0 = 0 from rfl)]
  by_cases z : 2 ≤ k ∧ k ≤ 12
  rotate_left
  · rw [if_neg z, bs (0 : Int32), if_pos rfl]
    refine five _ _ ?_ rfl
    by_cases u : k < 2
    · rw [if_pos (show nI k < 2 from nI_lt (b := 2) u (by decide))]
    · rw [if_neg (show ¬ nI k < 2 from nI_nlt (b := 2) (by omega) (by omega)), if_pos (show (12 : Int32) < nI k from nI_lt (a := 12) (by omega) (by omega))]
  obtain ⟨n, rfl⟩ : ∃ n, k = 2 * n := ⟨k / 2, by omega⟩
  rw [if_pos z, bs (1 : Int32), if_neg ne10, if_neg (show ¬ nI (2 * n) < 2 from nI_nlt (b := 2) z.1 (by omega)), if_neg (show ¬ (12 : Int32) < nI (2 * n) from nI_nlt (a := 12) z.2 (by decide))]
  obtain ⟨t, et, ht⟩ := car_R (N := N) (S := S) (Y := Y) (by omega) hr hk g2 g3
  rw [et, bs]
  rcases ht with ⟨rfl, c2⟩ | ⟨c1, c2⟩
  rotate_left
  · rw [c2, bs, if_pos rfl, w2, bs, c1 _ w1]
    exact ⟨_, _, _, rfl, rfl, wR⟩
  rw [c2, bs, if_neg ne10]
  have dv : nI (2 * n) / 2 = nI n := by
    rw [show (2 : Int32) = nI 2 from rfl, pk_div (by omega) (by omega) (by omega)]
    congr 1; omega
  obtain ⟨U, eU, u1, u2⟩ := X_ordA (N := N) (S := S) (n := n) (by omega) hr (by omega) g1
  show ∃ v S' Y', Option.bind (fX44_arrange N S (nI r)) _ = _ ∧ _ ∧ _
  rw [eU, bs, fX44_firstOrder, bs, nx_eq, fX44_howManyOrders, bs, p1_ne (by decide), nx_eq, dv, Y_ones (by omega) (by omega), bs, Y_ordL hN (by omega) (by omega) hr, bs, fY0_ask, nx_eq, bs, u1, u2]
  have R1 : RR U Y := RR_ag h (agr_of (frX44_arrange eU) (by decide) (by decide) (by decide)) agr_refl
  have same : ∀ c, pgB n (fun i => S.1 (3 + r) (2 * i)) (fun i => S.1 (3 + r) (2 * i + 1)) n c = pgB n (fun i => Y.1 3 (40 * r + 2 * i)) (fun i => Y.1 3 (40 * r + (2 * i + 1))) n c := fun c => by
    have key : ∀ k c, pgB n (fun i => S.1 (3 + r) (2 * i)) (fun i => S.1 (3 + r) (2 * i + 1)) k c = pgB n (fun i => Y.1 3 (40 * r + 2 * i)) (fun i => Y.1 3 (40 * r + (2 * i + 1))) k c := by
      intro k
      induction k with
      | zero => intro c; rfl
      | succ k ih =>
        intro c
        rw [pgB, pgB, ih (c / 10)]
        cases hp : pgB n (fun i => Y.1 3 (40 * r + 2 * i)) (fun i => Y.1 3 (40 * r + (2 * i + 1))) k (c / 10)
        · rfl
        cases hd : decide (1 ≤ c % 10 ∧ c % 10 ≤ n)
        · rfl
        have d1 := of_decide_eq_true hd
        by_cases k0 : k = 0
        · rw [decide_eq_true k0, Bool.true_or, Bool.true_or]
        · obtain ⟨k', rfl⟩ : ∃ k', k = k' + 1 := ⟨k - 1, by omega⟩
          rw [pgB, Bool.and_eq_true, Bool.and_eq_true] at hp
          have d2 := of_decide_eq_true hp.2.1
          rw [g3 (2 * (c / 10 % 10 - 1) + 1) (by omega), g3 (2 * (c % 10 - 1)) (by omega)]
    exact key n c
  have same2 : pgB n (fun i => S.1 (3 + r) (2 * i)) (fun i => S.1 (3 + r) (2 * i + 1)) n = pgB n (fun i => Y.1 3 (40 * r + 2 * i)) (fun i => Y.1 3 (40 * r + (2 * i + 1))) n := funext same
  rw [same2]
  exact ⟨_, _, _, rfl, rfl, RR_ask R1 _⟩
end PA
