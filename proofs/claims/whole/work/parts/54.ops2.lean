/-! the calls on sums and single cells; what is told -/
abbrev arX1 : List Nat := [3, 4, 5, 6, 7, 8, 9, 12, 13, 14, 15, 16, 53]
abbrev fiX1 : List (Nat × Nat) := [(0, 11), (0, 12), (1, 2), (10, 2)]
abbrev arY1 : List Nat := [1, 2, 3, 5, 6]
abbrev fiY1 : List (Nat × Nat) := [(0, 0), (0, 2)]
theorem in_r1 {r : Nat} (h : r < 6) : 3 + r ∈ arX1 := by
  rcases (show r = 0 ∨ r = 1 ∨ r = 2 ∨ r = 3 ∨ r = 4 ∨ r = 5 by omega) with rfl | rfl | rfl | rfl | rfl | rfl <;> decide
theorem in_t1 {t : Nat} (h : t < 4) : 12 + t ∈ arX1 := by
  rcases (show t = 0 ∨ t = 1 ∨ t = 2 ∨ t = 3 by omega) with rfl | rfl | rfl | rfl <;> decide
/-- a new book, all else as it was -/
theorem RR_newB {S S' Y Y' : St} (h : RR S Y) (a : agr arX1 fiX1 loX S S') (b : agr arY1 fiY1 loY Y Y') (hB : BookR S' Y') : RR S' Y' := by
  obtain ⟨h1, h2, ⟨m1, m2, m3, m4, m5, m6, m7⟩, -⟩ := h
  refine ⟨RowsR_c h1 (a.1 _ (by decide)) (fun r hr => a.1 _ (in_r1 hr)) (b.1 _ (by decide)) (b.1 _ (by decide)), TextsR_c h2 (a.1 _ (by decide)) (fun r hr => a.1 _ (in_t1 hr)) (b.1 _ (by decide)) (b.1 _ (by decide)), ⟨?_, fun f hf => ?_, ?_, ?_, ?_, ?_, ?_⟩, hB⟩
  · rw [a.2.1 0 11 (by decide), b.2.1 0 0 (by decide)]; exact m1
  · rw [a.1 53 (by decide), b.1 1 (by decide)]; exact m2 f hf
  · rw [a.2.1 0 12 (by decide), b.2.1 0 2 (by decide)]; exact m3
  · rw [a.2.2 0 13 (by decide), b.2.2 0 3 (by decide)]; exact m4
  · rw [a.2.2 0 14 (by decide), b.2.2 0 4 (by decide)]; exact m5
  · rw [a.2.1 1 2 (by decide)]; exact m6
  · rw [a.2.1 10 2 (by decide)]; exact m7
theorem Xgen {x : Int32} {n : Nat} (hn : n < 2 ^ 31) : (Option.bind (if x < 0 then some 0 else if nI n ≤ x then some 0 else some 1) fun t2 => gd (isb t2) (some t2)) = some (if inb x n = true then 1 else 0 : Int32) := by
  by_cases h1 : x < 0
  · rw [if_pos h1, if_neg (inb_lo h1)]; rfl
  · by_cases h2 : nI n ≤ x
    · rw [if_neg h1, if_pos h2, if_neg (inb_hi hn h2)]; rfl
    · rw [if_neg h1, if_neg h2, if_pos (inb_mid hn h1 h2)]; rfl
theorem XisCell (S : St) (x : Int32) : fXs_isCell S x = some (if inb x 12 = true then 1 else 0) := Xgen (n := 12) (by decide)
theorem XisNumber (S : St) (x : Int32) : fXs_isNumber S x = some (if inb x 100 = true then 1 else 0) := Xgen (n := 100) (by decide)
theorem XisCellBits (S : St) (x : Int32) : fXs_isCellBits S x = some (if inb x 4096 = true then 1 else 0) := Xgen (n := 4096) (by decide)
theorem Yin0 (S : St) (x : Int32) {n : Nat} (hn : 0 < n) (h30 : n < 2 ^ 30) {m : Int32} (hm : m = nI n - 1) : fYs_in S x 0 m = some (if inb x n = true then 1 else 0) := by
  rw [Yin, hm, in_m1 h30]
theorem Ygen {x : Int32} {n : Nat} : (Option.bind (some (if inb x n = true then 1 else 0 : Int32)) fun t1 => gd (isb t1) (some t1)) = some (if inb x n = true then 1 else 0) := by
  by_cases h : inb x n = true
  · rw [if_pos h]; rfl
  · rw [if_neg h]; rfl
theorem YisCell (S : St) (x : Int32) : fYs_isCell S x = some (if inb x 12 = true then 1 else 0) := by
  unfold fYs_isCell
  rw [Yin0 S x (n := 12) (by decide) (by decide) (by decide)]
  exact Ygen
theorem YisNumber (S : St) (x : Int32) : fYs_isNumber S x = some (if inb x 100 = true then 1 else 0) := by
  unfold fYs_isNumber
  rw [Yin0 S x (n := 100) (by decide) (by decide) (by decide)]
  exact Ygen
theorem Xtot (S : St) (x : Int32) : fXs_isTotal S x = some (if -999 ≤ x ∧ x ≤ 9999 then 1 else 0) := by
  unfold fXs_isTotal
  by_cases h1 : x < -999
  · rw [if_pos h1, if_neg (fun q => (fa_of_lt h1).2.1 q.1)]; rfl
  · by_cases h2 : 9999 < x
    · rw [if_neg h1, if_pos h2, if_neg (fun q => (fa_of_lt h2).2.1 q.2)]; rfl
    · rw [if_neg h1, if_neg h2, if_pos ⟨fa_of_nlt h1, fa_of_nlt h2⟩]; rfl
theorem Ytot (S : St) (x : Int32) : fYs_isTotal S x = some (if -999 ≤ x ∧ x ≤ 9999 then 1 else 0) := by
  unfold fYs_isTotal
  rw [Yin, bs]
  by_cases h : -999 ≤ x ∧ x ≤ 9999
  · rw [if_pos h]; rfl
  · rw [if_neg h]; rfl
theorem tot_ex {x : Int32} (h : -999 ≤ x ∧ x ≤ 9999) : ∃ z : Int, x = iI z ∧ -999 ≤ z ∧ z ≤ 9999 := by
  refine ⟨x.toInt, (iI_of x).symm, ?_, ?_⟩
  · have := (fa_le _ _).mp h.1
    have e : (-999 : Int32).toInt = -999 := by decide
    omega
  · have := (fa_le _ _).mp h.2
    have e : (9999 : Int32).toInt = 9999 := by decide
    omega
section O2
variable {S S' Y Y' : St} {B : Bk}
theorem op2_asked {N : Nat} : op_asked N RR := fun S Y h => ⟨S.1 0 12, rfl, by rw [h.2.2.1.2.2.1]; rfl, h⟩
theorem op2_upper {N : Nat} : op_upper N RR := fun S Y h => ⟨S.2 0 13, rfl, by rw [h.2.2.1.2.2.2.1]; rfl, h⟩
theorem op2_lower {N : Nat} : op_lower N RR := fun S Y h => ⟨S.2 0 14, rfl, by rw [h.2.2.1.2.2.2.2.1]; rfl, h⟩
theorem op2_finding {N : Nat} : op_finding N RR := fun S Y h => ⟨S.1 0 11, rfl, by rw [h.2.2.1.1]; rfl, h⟩
theorem op2_findings {N : Nat} : op_findings N RR := by
  intro S Y a1 h
  simp only [fX0_findings, fY0_findings, Yin, bs]
  by_cases h1 : a1 < 1
  · have e : (if 1 ≤ a1 ∧ a1 ≤ 5 then (1 : Int32) else 0) = 0 := if_neg (fun q => (fa_of_lt h1).2.1 q.1)
    rw [if_pos h1, e, if_pos rfl]
    exact ⟨-1, rfl, rfl, h⟩
  · by_cases h2 : a1 ≤ 5
    · have e : (if 1 ≤ a1 ∧ a1 ≤ 5 then (1 : Int32) else 0) = 1 := if_pos ⟨fa_of_nlt h1, h2⟩
      rw [if_neg h1, if_pos h2, e, if_neg ne10]
      have ib : inb a1 6 = true := by
        rw [inb_iff]
        have e1 := (fa_le _ _).mp (fa_of_nlt h1)
        have e2 := (fa_le _ _).mp h2
        have e3 : (1 : Int32).toInt = 1 := by decide
        have e4 : (5 : Int32).toInt = 5 := by decide
        omega
      rw [ib, gd_true, gd_true, bs]
      exact ⟨_, rfl, by rw [h.2.2.1.2.1 _ (inb_lt ib)], h⟩
    · have e : (if 1 ≤ a1 ∧ a1 ≤ 5 then (1 : Int32) else 0) = 0 := if_neg (fun q => h2 q.2)
      rw [if_neg h1, if_neg h2, e, if_pos rfl]
      exact ⟨-1, rfl, rfl, h⟩
theorem op2_clear {N : Nat} : op_clear N RR := by
  intro S Y h
  obtain ⟨B, ok, bx, bY⟩ := h.2.2.2
  have e1 : fX0_clear S = some (S.1 29 4, p1 S 29 4 0) := rfl
  have e2 : fY0_clear Y = some (Y.1 0 18, p1 Y 0 18 0) := rfl
  refine ⟨_, _, _, e1, by rw [bx.2.2.2.2.2.1, ← bY.2.2.2.1]; exact e2, RR_newB h (agr_of (frX0_clear e1) (by decide) (by decide) (by decide)) (agr_of (frY0_clear e2) (by decide) (by decide) (by decide)) ⟨(B.1, B.2.1, (0, B.2.2.2)), ⟨ok.1, ok.2.1, ok.2.2.1, Nat.zero_le _, fun s hs => absurd hs (Nat.not_lt_zero s)⟩, ?_, ?_⟩⟩
  · obtain ⟨b1, b2, b3, b4, b5, b6, b7⟩ := bx
    refine ⟨fun c hc => ?_, ?_, ?_, fun i hi => ?_, fun v hv => ?_, p1_eq, fun s hs => absurd hs (Nat.not_lt_zero s)⟩
    · rw [p1_ne (by decide), p1_ne (by decide), p1_ne (by decide)]; exact b1 c hc
    · rw [p1_ne (by decide)]; exact b2
    · rw [p1_ne (by decide)]; exact b3
    · rw [p1_ne (by decide)]; exact b4 i hi
    · rw [p1_ne (by decide)]; exact b5 v hv
  · obtain ⟨b1, b2, b3, b4, b5⟩ := bY
    refine ⟨fun c hc => ?_, ?_, fun i hi => ?_, p1_eq, fun s hs => absurd hs (Nat.not_lt_zero s)⟩
    · rw [p1_ne (by decide), p1_ne (by decide), p1_ne (by decide)]; exact b1 c hc
    · rw [p1_ni (by decide)]; exact b2
    · rw [p1_ne (by decide)]; exact b3 i hi
theorem nI8 {n : Nat} (hn : n < 2 ^ 31) : nI n = 8 ↔ n = 8 := by
  rw [show (8 : Int32) = nI 8 from rfl, nI_eq hn (by decide)]
theorem op2_sum {N : Nat} : op_sum N RR := by
  intro S Y a1 a2 a3 h
  have no : (∃ v S' Y', some ((-1 : Int32), S) = some (v, S') ∧ some ((-1 : Int32), Y) = some (v, Y') ∧ RR S' Y') := ⟨-1, S, Y, rfl, rfl, h⟩
  by_cases h1 : inb a1 4096 = true
  rotate_left
  · refine ⟨-1, S, Y, ?_, ?_, h⟩
    · rw [fX0_sum, XisCellBits, bs, if_neg h1, if_pos rfl]
    · rw [fY0_sum, Yin0 Y a1 (n := 4096) (by decide) (by decide) (by decide), bs, if_neg h1, if_pos rfl]
  by_cases h2 : inb a2 4096 = true
  rotate_left
  · refine ⟨-1, S, Y, ?_, ?_, h⟩
    · rw [fX0_sum, XisCellBits, bs, if_pos h1, if_neg ne10, XisCellBits, bs, if_neg h2, if_pos rfl]
    · rw [fY0_sum, Yin0 Y a1 (n := 4096) (by decide) (by decide) (by decide), bs, if_pos h1, if_neg ne10, Yin0 Y a2 (n := 4096) (by decide) (by decide) (by decide), bs, if_neg h2, if_pos rfl]
  have X0 : ∀ r, (if (a1 ||| a2) = 0 then some ((-1), S) else if (a1 &&& a2) = 0 then Option.bind (fXs_isTotal S a3) fun t9 => if t9 = 0 then some ((-1), S) else Option.bind (fX29_howMany S) fun t12 => if t12 < 8 then Option.bind (fX29_append S a1 a2 a3) fun t15 => Option.bind (fX29_howMany t15) fun t17 => some (t17, t15) else some ((-2), S) else some ((-1), S)) = r → fX0_sum S a1 a2 a3 = r := by
    intro r hr
    rw [fX0_sum, XisCellBits, bs, if_pos h1, if_neg ne10, XisCellBits, bs, if_pos h2, if_neg ne10]
    exact hr
  have Y0 : ∀ r, (if (a1 ||| a2) = 0 then some ((-1), Y) else if (a1 &&& a2) = 0 then Option.bind (fYs_isTotal Y a3) fun t9 => if t9 = 0 then some ((-1), Y) else if (Y.1 0 18) = 8 then some ((-2), Y) else gd (inb (Y.1 0 18) 8) <| nx (p1 Y 13 (Int32.toNatClampNeg (Y.1 0 18)) a1) fun s14 => gd (inb (s14.1 0 18) 8) <| nx (p1 s14 14 (Int32.toNatClampNeg (s14.1 0 18)) a2) fun s17 => gd (inb (s17.1 0 18) 8) <| nx (p1 s17 15 (Int32.toNatClampNeg (s17.1 0 18)) a3) fun s20 => nx (p1 s20 0 18 ((s20.1 0 18) + 1)) fun s22 => some (s22.1 0 18, s22) else some ((-1), Y)) = r → fY0_sum Y a1 a2 a3 = r := by
    intro r hr
    rw [fY0_sum, Yin0 Y a1 (n := 4096) (by decide) (by decide) (by decide), bs, if_pos h1, if_neg ne10, Yin0 Y a2 (n := 4096) (by decide) (by decide) (by decide), bs, if_pos h2, if_neg ne10]
    exact hr
  by_cases h3 : (a1 ||| a2) = 0
  · exact ⟨-1, S, Y, X0 _ (by rw [if_pos h3]), Y0 _ (by rw [if_pos h3]), h⟩
  by_cases h4 : (a1 &&& a2) = 0
  rotate_left
  · exact ⟨-1, S, Y, X0 _ (by rw [if_neg h3, if_neg h4]), Y0 _ (by rw [if_neg h3, if_neg h4]), h⟩
  by_cases h5 : -999 ≤ a3 ∧ a3 ≤ 9999
  rotate_left
  · exact ⟨-1, S, Y, X0 _ (by rw [if_neg h3, if_pos h4, Xtot, bs, if_neg h5, if_pos rfl]), Y0 _ (by rw [if_neg h3, if_pos h4, Ytot, bs, if_neg h5, if_pos rfl]), h⟩
  obtain ⟨B, ok, bx, bY⟩ := h.2.2.2
  have hs1 := bx.2.2.2.2.2.1
  have hs2 := bY.2.2.2.1
  have hsn := ok.2.2.2.1
  by_cases h8 : sn B = 8
  · refine ⟨-2, S, Y, X0 _ ?_, Y0 _ ?_, h⟩
    · rw [if_neg h3, if_pos h4, Xtot, bs, if_pos h5, if_neg ne10, fX29_howMany, bs, hs1, h8, if_neg (by decide)]
    · rw [if_neg h3, if_pos h4, Ytot, bs, if_pos h5, if_neg ne10, hs2, h8, if_pos (by decide)]
  obtain ⟨p, hp, rfl⟩ := inb_ex h1 (by decide)
  obtain ⟨q, hq, rfl⟩ := inb_ex h2 (by decide)
  obtain ⟨z, rfl, hz1, hz2⟩ := tot_ex h5
  have hpq : p &&& q = 0 := by
    rw [fa_and, show (0 : Int32) = nI 0 from rfl, nI_eq (Nat.lt_of_le_of_lt Nat.and_le_left (by omega)) (by decide)] at h4
    exact h4
  have ib : inb (nI (sn B)) 8 = true := inb_nI (by omega) (by decide)
  have ec : Int32.toNatClampNeg (nI (sn B)) = sn B := cl (by omega)
  have e1 : fX0_sum S (nI p) (nI q) (iI z) = some (nI (sn B + 1), p1 (p1 (p1 (p1 S 30 (sn B) (nI p)) 31 (sn B) (nI q)) 32 (sn B) (iI z)) 29 4 (nI (sn B + 1))) := by
    apply X0
    rw [if_neg h3, if_pos h4, Xtot, bs, if_pos h5, if_neg ne10, fX29_howMany, bs, hs1, if_pos (by rw [show (8 : Int32) = nI 8 from rfl, nI_ltI (by omega) (by omega)]; omega)]
    simp only [fX29_append, fX29_howMany, nx_eq, hs1, ib, gd_true, ec, bs, p1_at, nI_1]
    simp only [hs1, ib, gd_true, ec, bs, nI_1, show ¬ ((29 : Nat) = 30 ∧ (4 : Nat) = sn B) by omega, show ¬ ((29 : Nat) = 31 ∧ (4 : Nat) = sn B) by omega, show ¬ ((29 : Nat) = 32 ∧ (4 : Nat) = sn B) by omega, if_false, if_true, and_self]
    rw [p1_eq]
  have e2 : fY0_sum Y (nI p) (nI q) (iI z) = some (nI (sn B + 1), p1 (p1 (p1 (p1 Y 13 (sn B) (nI p)) 14 (sn B) (nI q)) 15 (sn B) (iI z)) 0 18 (nI (sn B + 1))) := by
    apply Y0
    rw [if_neg h3, if_pos h4, Ytot, bs, if_pos h5, if_neg ne10, hs2, if_neg (by rw [nI8 (by omega)]; exact h8)]
    simp only [nx_eq, hs2, ib, gd_true, ec, bs, p1_at, nI_1]
    simp only [hs2, ib, gd_true, ec, bs, nI_1, show ¬ ((0 : Nat) = 13 ∧ (18 : Nat) = sn B) by omega, show ¬ ((0 : Nat) = 14 ∧ (18 : Nat) = sn B) by omega, show ¬ ((0 : Nat) = 15 ∧ (18 : Nat) = sn B) by omega, if_false, if_true, and_self]
  refine ⟨_, _, _, e1, e2, RR_newB h (agr_of (frX0_sum e1) (by decide) (by decide) (by decide)) (agr_of (frY0_sum e2) (by decide) (by decide) (by decide)) ⟨(B.1, B.2.1, (sn B + 1, fun s => if s = sn B then (p, q, z) else B.2.2.2 s)), ⟨ok.1, ok.2.1, ok.2.2.1, by show sn B + 1 ≤ 8; omega, fun s hs => ?_⟩, ?_, ?_⟩⟩
  · have hs : s < sn B + 1 := hs
    by_cases e : s = sn B
    · subst e
      simp only [sp, sl, tt, if_true]
      exact ⟨hp, hq, hpq, hz1, hz2⟩
    · simp only [sp, sl, tt, if_neg e]
      exact ok.2.2.2.2 s (by omega)
  · obtain ⟨b1, b2, b3, b4, b5, b6, b7⟩ := bx
    refine ⟨fun c hc => ?_, ?_, ?_, fun i hi => ?_, fun v hv => ?_, p1_eq, fun s hs => ?_⟩
    · repeat rw [p1_ne (by decide)]
      exact b1 c hc
    · repeat rw [p1_ne (by decide)]
      exact b2
    · repeat rw [p1_ne (by decide)]
      exact b3
    · repeat rw [p1_ne (by decide)]
      exact b4 i hi
    · repeat rw [p1_ne (by decide)]
      exact b5 v hv
    · have hs : s < sn B + 1 := hs
      by_cases e : s = sn B
      · subst e
        simp only [sp, sl, tt, if_true, p1_at]
        simp
      · have := b7 s (by omega)
        simp only [sp, sl, tt, if_neg e, p1_at]
        simp [e]
        exact this
  · obtain ⟨b1, b2, b3, b4, b5⟩ := bY
    refine ⟨fun c hc => ?_, ?_, fun i hi => ?_, p1_eq, fun s hs => ?_⟩
    · repeat rw [p1_ne (by decide)]
      exact b1 c hc
    · rw [p1_ni (by decide)]
      repeat rw [p1_ne (by decide)]
      exact b2
    · repeat rw [p1_ne (by decide)]
      exact b3 i hi
    · have hs : s < sn B + 1 := hs
      by_cases e : s = sn B
      · subst e
        simp only [sp, sl, tt, if_true, p1_at]
        simp
      · have := b5 s (by omega)
        simp only [sp, sl, tt, if_neg e, p1_at]
        simp [e]
        exact this
end O2
