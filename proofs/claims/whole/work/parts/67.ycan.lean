/-! the reference's narrowing: can -/
section OD
variable {S S' Y Y' : St} {B : Bk} {out : Nat} {lo hi lo' hi' : Nat → Int}
theorem Y_can1 {N : Nat} (hN : 12 < N) (ok : okB B) (bY : BY Y B) (ey : ENY Y B lo hi) (rb : rngB B lo hi) (ho : out < 2 ^ 31) {c v : Nat} (hc : c < 12) (hv : v < 100) : ∃ r, fY0_can_L6 N Y (nI c) (nI v) (nI out) N 1 0 = some (bI r) ∧ (r = true ↔ ∀ s, s < sn B → out.testBit s = false → (pb B s c || lb B s c) = true → cs B s lo hi c v) := by
  have h8 := ok.2.2.2.1
  obtain ⟨t, e1, r, e2, h1⟩ := loop_up (fun q (x : Int32) y => fY0_can_L6 N Y (nI c) (nI v) (nI out) q x y) (sn B)
    (fun i x => ∃ r, x = bI r ∧ (r = true ↔ ∀ s, s < i → out.testBit s = false → (pb B s c || lb B s c) = true → cs B s lo hi c v))
    (fun x => ∃ r, x = bI r ∧ (r = true ↔ ∀ s, s < sn B → out.testBit s = false → (pb B s c || lb B s c) = true → cs B s lo hi c v))
    (fun q x hI => ⟨x, by
      show fY0_can_L6 N Y (nI c) (nI v) (nI out) (q + 1) x (nI (sn B)) = _
      rw [fY0_can_L6, bY.2.2.2.1, if_pos (ge_n (by omega))], hI⟩)
    (fun q i x hi' hI => by
      obtain ⟨r, rfl, h2⟩ := hI
      show (∃ t, fY0_can_L6 N Y (nI c) (nI v) (nI out) (q + 1) (bI r) (nI i) = some t ∧ _) ∨ ∃ s' : Int32, _ ∧ fY0_can_L6 N Y (nI c) (nI v) (nI out) (q + 1) (bI r) (nI i) = fY0_can_L6 N Y (nI c) (nI v) (nI out) q s' (nI (i + 1))
      cases r
      · left
        refine ⟨bI false, by rw [fY0_can_L6, bY.2.2.2.1, if_neg (nI_ge hi' (by omega)), if_pos bI_f], false, rfl, ⟨fun q => absurd q (by decide), fun q => ?_⟩⟩
        exact h2.mpr (fun s hs => q s (by omega))
      right
      have yb := Y_bits ok bY hi' hc
      obtain ⟨r1, e3, h3⟩ := Y_canSum hN ok bY ey rb hi' hc hv
      have ev : fY0_can_L6 N Y (nI c) (nI v) (nI out) (q + 1) (bI true) (nI i) = fY0_can_L6 N Y (nI c) (nI v) (nI out) q (bI (out.testBit i || !(pb B i c || lb B i c) || r1)) (nI (i + 1)) := by
        rw [fY0_can_L6, bY.2.2.2.1, if_neg (nI_ge hi' (by omega)), if_neg (by decide), Yhas Y ho (by omega), bs, nI_1]
        simp only [inb_nI (show i < 8 by omega) (show 8 < 2 ^ 31 by decide), gd_true, cl (show i < 2 ^ 31 by omega), yb.2.2, bs, e3]
        cases out.testBit i <;> cases (pb B i c || lb B i c) <;> cases r1 <;> rfl
      refine ⟨_, ⟨_, rfl, ?_⟩, ev⟩
      have h2' := h2.mp rfl
      constructor
      · intro q s hs so sb
        by_cases e : s = i
        · subst e
          rw [so, sb] at q
          exact h3.mp (by simpa using q)
        · exact h2' s (by omega) so sb
      · intro q
        cases a : out.testBit i
        · cases b : (pb B i c || lb B i c)
          · rfl
          · rw [h3.mpr (q i (by omega) a b)]; rfl
        · rfl)
    N 0 1 (by omega) (by omega) ⟨true, rfl, fun _ s hs => by omega, fun _ => rfl⟩
  subst e2
  exact ⟨r, e1, h1⟩
def facB (v : Nat) (l h l' h' : Int) : Bool := decide ((v : Int) * l' ≤ h ∧ l ≤ (v : Int) * h')
theorem Y_facE {v : Nat} {l h l' h' : Int} (hv : v < 100) (b1 : -100 ≤ l ∧ l ≤ 100) (b2 : -100 ≤ h ∧ h ≤ 100) (b3 : -100 ≤ l' ∧ l' ≤ 100) (b4 : -100 ≤ h' ∧ h' ≤ 100) : (if iI h < nI v * iI l' then some (0 : Int32) else if nI v * iI h' < iI l then some 0 else some 1) = some (bI (facB v l h l' h')) := by
  have m1 : -10000 ≤ (v : Int) * l' ∧ (v : Int) * l' ≤ 10000 := by
    have a := Int.mul_le_mul_of_nonneg_left b3.1 (show (0 : Int) ≤ v by omega)
    have b := Int.mul_le_mul_of_nonneg_left b3.2 (show (0 : Int) ≤ v by omega)
    omega
  have m2 : -10000 ≤ (v : Int) * h' ∧ (v : Int) * h' ≤ 10000 := by
    have a := Int.mul_le_mul_of_nonneg_left b4.1 (show (0 : Int) ≤ v by omega)
    have b := Int.mul_le_mul_of_nonneg_left b4.2 (show (0 : Int) ≤ v by omega)
    omega
  rw [iI_nat, iI_mul, iI_mul]
  have c1 := iI_lt (a := h) (b := (v : Int) * l') (by omega) (by omega) (by omega) (by omega)
  have c2 := iI_lt (a := (v : Int) * h') (b := l) (by omega) (by omega) (by omega) (by omega)
  unfold facB
  by_cases q1 : h < (v : Int) * l'
  · rw [if_pos (c1.mpr q1), decide_eq_false (by omega)]; rfl
  · rw [if_neg (fun w => q1 (c1.mp w))]
    by_cases q2 : (v : Int) * h' < l
    · rw [if_pos (c2.mpr q2), decide_eq_false (by omega)]; rfl
    · rw [if_neg (fun w => q2 (c2.mp w)), decide_eq_true (by omega)]; rfl
/-- what the rules of other cells let stand -/
def oth (B : Bk) (lo hi : Nat → Int) (c : Nat) (v : Nat) (t : Nat) : Prop := (kd B t = 2 → ka B t = c → (v : Int) * lo (kb B t) ≤ hi t ∧ lo t ≤ (v : Int) * hi (kb B t)) ∧ (kd B t = 2 → kb B t = c → (v : Int) * lo (ka B t) ≤ hi t ∧ lo t ≤ (v : Int) * hi (ka B t)) ∧ (kd B t = 4 → ka B t = c → (v : Int) < hi t)
theorem Y_can2 {N : Nat} (hN : 12 < N) (ok : okB B) (nm : nmd B) (bY : BY Y B) (ey : ENY Y B lo hi) (rb : rngB B lo hi) {c v : Nat} (hc : c < 12) (hv : v < 100) (r0 : Bool) : ∃ r, fY0_can_L190 N Y (nI c) (nI v) N (bI r0) 0 = some (bI r) ∧ (r = true ↔ r0 = true ∧ ∀ t, t < 12 → oth B lo hi c v t) := by
  obtain ⟨t, e1, r, e2, h1⟩ := loop_up (fun q (x : Int32) y => fY0_can_L190 N Y (nI c) (nI v) q x y) 12
    (fun i x => ∃ r, x = bI r ∧ (r = true ↔ r0 = true ∧ ∀ t, t < i → oth B lo hi c v t))
    (fun x => ∃ r, x = bI r ∧ (r = true ↔ r0 = true ∧ ∀ t, t < 12 → oth B lo hi c v t))
    (fun q x hI => ⟨x, by
      show fY0_can_L190 N Y (nI c) (nI v) (q + 1) x (nI 12) = _
      rw [fY0_can_L190, if_pos (by decide)], hI⟩)
    (fun q i x hi' hI => by
      obtain ⟨r, rfl, h2⟩ := hI
      show (∃ t, fY0_can_L190 N Y (nI c) (nI v) (q + 1) (bI r) (nI i) = some t ∧ _) ∨ ∃ s' : Int32, _ ∧ fY0_can_L190 N Y (nI c) (nI v) (q + 1) (bI r) (nI i) = fY0_can_L190 N Y (nI c) (nI v) q s' (nI (i + 1))
      cases r
      · left
        refine ⟨bI false, by rw [fY0_can_L190, if_neg (show ¬ (12 : Int32) ≤ nI i from nI_ge hi' (by decide)), if_pos bI_f], false, rfl, ⟨fun q => absurd q (by decide), fun q => ?_⟩⟩
        exact h2.mpr ⟨q.1, fun s hs => q.2 s (by omega)⟩
      right
      have h2' := h2.mp rfl
      have hk := ok_k ok hi'
      have fin : ∀ b : Bool, (b = true ↔ oth B lo hi c v i) → (b = true ↔ r0 = true ∧ ∀ t, t < i + 1 → oth B lo hi c v t) := fun b hb => ⟨fun q => ⟨h2'.1, fun t ht => by
          by_cases e : t = i
          · subst e; exact hb.mp q
          · exact h2'.2 t (by omega)⟩, fun q => hb.mpr (q.2 i (by omega))⟩
      rw [fY0_can_L190, if_neg (show ¬ (12 : Int32) ≤ nI i from nI_ge hi' (by decide)), if_neg (show ¬ bI true = 0 by decide), nI_1]
      simp only [inb_nI hi' (show 12 < 2 ^ 31 by decide), gd_true, cl (show i < 2 ^ 31 by omega)]
      by_cases k6 : kd B i = 6
      · rcases bY.1 i hi' with w | w
        · simp only [w.2, show ((-9 : Int32) = 2) = False from by decide, show ((-9 : Int32) = 4) = False from by decide, if_false, bs]
          refine ⟨_, ⟨true, rfl, fin true ⟨fun _ => ⟨fun k => by omega, fun k => by omega, fun k => by omega⟩, fun _ => rfl⟩⟩, rfl⟩
        · omega
      rw [Y_kind bY hi' (by omega)]
      by_cases k2 : kd B i = 2
      · have o := ok_2 ok hi' k2
        have n := (nm i hi').1 k2
        have ti := thr_k k2 (show 2 < 6 by decide)
        have yi := (ey i hi').1 ti
        have ya := (ey _ o.1).1 n.1
        have yb := (ey _ o.2.1).1 n.2
        have ri := rb i hi' ti
        have ra := rb _ o.1 n.1
        have rb' := rb _ o.2.1 n.2
        rw [Y_a bY hi' (by omega) (by omega) (by omega), Y_b bY hi' (by omega) (by omega) (by omega), k2]
        simp only [inb_nI o.1 (show 12 < 2 ^ 31 by decide), inb_nI o.2.1 (show 12 < 2 ^ 31 by decide), gd_true, cl (show ka B i < 2 ^ 31 by omega), cl (show kb B i < 2 ^ 31 by omega), yi.1, yi.2, ya.1, ya.2, yb.1, yb.2, Y_facE hv ⟨ri.1, ri.2.1⟩ ⟨ri.2.2.1, ri.2.2.2⟩ ⟨rb'.1, rb'.2.1⟩ ⟨rb'.2.2.1, rb'.2.2.2⟩, Y_facE hv ⟨ri.1, ri.2.1⟩ ⟨ri.2.2.1, ri.2.2.2⟩ ⟨ra.1, ra.2.1⟩ ⟨ra.2.2.1, ra.2.2.2⟩, bs, show (nI 2 = (2 : Int32)) = True from by decide, show (nI 2 = (4 : Int32)) = False from by decide, if_true, if_false, nI_eq (show ka B i < 2 ^ 31 by omega) (show c < 2 ^ 31 by omega), nI_eq (show kb B i < 2 ^ 31 by omega) (show c < 2 ^ 31 by omega)]
        refine ⟨bI ((!decide (ka B i = c) || facB v (lo i) (hi i) (lo (kb B i)) (hi (kb B i))) && (!decide (kb B i = c) || facB v (lo i) (hi i) (lo (ka B i)) (hi (ka B i)))), ⟨_, rfl, fin _ ?_⟩, ?_⟩
        · unfold oth facB
          by_cases c1 : ka B i = c <;> by_cases c2 : kb B i = c <;> simp [c1, c2, k2]
        · by_cases c1 : ka B i = c <;> by_cases c2 : kb B i = c <;> cases facB v (lo i) (hi i) (lo (kb B i)) (hi (kb B i)) <;> cases facB v (lo i) (hi i) (lo (ka B i)) (hi (ka B i)) <;> simp [c1, c2, bI]
      by_cases k4 : kd B i = 4
      · have o := ok_4 ok hi' k4
        have n := (nm i hi').2 k4
        have ti := thr_k k4 (show 4 < 6 by decide)
        have yi := (ey i hi').1 ti
        have ri := rb i hi' ti
        rw [Y_a bY hi' (by omega) (by omega) (by omega), k4]
        have le : (iI (hi i) ≤ nI v) ↔ hi i ≤ (v : Int) := by rw [iI_nat]; exact iI_le (by omega) (by omega) (by omega) (by omega)
        simp only [yi.2, bs, show (nI 4 = (2 : Int32)) = False from by decide, show (nI 4 = (4 : Int32)) = True from by decide, if_true, if_false, nI_eq (show ka B i < 2 ^ 31 by omega) (show c < 2 ^ 31 by omega), le]
        refine ⟨bI (!decide (ka B i = c) || decide ((v : Int) < hi i)), ⟨_, rfl, fin _ ?_⟩, ?_⟩
        · unfold oth
          by_cases c1 : ka B i = c <;> simp [c1, k4]
        · by_cases c1 : ka B i = c
          · by_cases c2 : hi i ≤ (v : Int)
            · simp [c1, c2, bI, show ¬ (v : Int) < hi i by omega]
            · simp [c1, c2, bI, show (v : Int) < hi i by omega]
          · simp [c1, bI]
      · have n2 : ¬ nI (kd B i) = 2 := by rw [show (2 : Int32) = nI 2 from rfl, nI_eq (by omega) (by decide)]; exact k2
        have n4 : ¬ nI (kd B i) = 4 := by rw [show (4 : Int32) = nI 4 from rfl, nI_eq (by omega) (by decide)]; exact k4
        simp only [n2, n4, if_false, bs]
        exact ⟨_, ⟨true, rfl, fin true ⟨fun _ => ⟨fun k => by omega, fun k => by omega, fun k => by omega⟩, fun _ => rfl⟩⟩, rfl⟩)
    N 0 (bI r0) (by omega) (by omega) ⟨r0, rfl, fun h => ⟨h, fun s hs => by omega⟩, fun h => h.1⟩
  subst e2
  exact ⟨r, e1, h1⟩
theorem mul_bb (x y : Int) (a1 : -100 ≤ x) (a2 : x ≤ 100) (a3 : -100 ≤ y) (a4 : y ≤ 100) : -10000 ≤ x * y ∧ x * y ≤ 10000 := by
  rcases Int.le_total 0 x with p | p <;> rcases Int.le_total 0 y with q | q
  · have := Int.mul_nonneg p q; have := mul_mono a2 a4 q (show (0 : Int) ≤ 100 by decide); omega
  · have w1 := Int.mul_nonneg p (show 0 ≤ -y by omega)
    have w2 := mul_mono a2 (show -y ≤ 100 by omega) (show 0 ≤ -y by omega) (show (0 : Int) ≤ 100 by decide)
    rw [Int.mul_neg] at w1 w2
    omega
  · have w1 := Int.mul_nonneg (show 0 ≤ -x by omega) q
    have w2 := mul_mono (show -x ≤ 100 by omega) a4 q (show (0 : Int) ≤ 100 by decide)
    rw [Int.neg_mul] at w1 w2
    omega
  · have w1 := Int.mul_nonneg (show 0 ≤ -x by omega) (show 0 ≤ -y by omega)
    have w2 := mul_mono (show -x ≤ 100 by omega) (show -y ≤ 100 by omega) (show 0 ≤ -y by omega) (show (0 : Int) ≤ 100 by decide)
    rw [Int.neg_mul_neg] at w1 w2
    omega
theorem Y_own (ok : okB B) (nm : nmd B) (bY : BY Y B) (ey : ENY Y B lo hi) (rb : rngB B lo hi) {c v : Nat} (hc : c < 12) (hv : v < 100) (k6 : kd B c < 6) (r1 : Bool) : ∃ ra r2, ((if (Y.1 10 c) = 2 then Option.bind (α := Int32) (if bI r1 = 0 then some 0 else gd (inb (Y.1 11 c) 12) <| gd (inb (Y.1 12 c) 12) <| gd (inb (Y.1 11 c) 12) <| gd (inb (Y.1 12 c) 12) <| Option.bind (fYs_in Y (nI v) ((Y.1 18 (Int32.toNatClampNeg (Y.1 11 c))) * (Y.1 18 (Int32.toNatClampNeg (Y.1 12 c)))) ((Y.1 19 (Int32.toNatClampNeg (Y.1 11 c))) * (Y.1 19 (Int32.toNatClampNeg (Y.1 12 c))))) fun t36 => if t36 = 0 then some 0 else some 1) fun t25 => some t25 else some (bI r1)) = some (bI ra)) ∧ ((if (Y.1 10 c) = 4 then Option.bind (α := Int32) (if bI ra = 0 then some 0 else gd (inb (Y.1 11 c) 12) <| if nI v ≤ (Y.1 18 (Int32.toNatClampNeg (Y.1 11 c))) then some 0 else some 1) fun t45 => some t45 else some (bI ra)) = some (bI r2)) ∧ (r2 = true ↔ r1 = true ∧ (kd B c = 2 → lo (ka B c) * lo (kb B c) ≤ v ∧ v ≤ hi (ka B c) * hi (kb B c)) ∧ (kd B c = 4 → lo (ka B c) < v)) := by
  rw [Y_kind bY hc k6]
  by_cases k2 : kd B c = 2
  · have o := ok_2 ok hc k2
    have n := (nm c hc).1 k2
    have ya := (ey _ o.1).1 n.1
    have yb := (ey _ o.2.1).1 n.2
    have ra := rb _ o.1 n.1
    have rb' := rb _ o.2.1 n.2
    have m1 := mul_bb _ _ ra.1 ra.2.1 rb'.1 rb'.2.1
    have m2 := mul_bb _ _ ra.2.2.1 ra.2.2.2 rb'.2.2.1 rb'.2.2.2
    rw [Y_a bY hc (by omega) (by omega) (by omega), Y_b bY hc (by omega) (by omega) (by omega), k2]
    simp only [inb_nI o.1 (show 12 < 2 ^ 31 by decide), inb_nI o.2.1 (show 12 < 2 ^ 31 by decide), gd_true, cl (show ka B c < 2 ^ 31 by omega), cl (show kb B c < 2 ^ 31 by omega), ya.1, ya.2, yb.1, yb.2, bs, show (nI 2 = (2 : Int32)) = True from by decide, show (nI 2 = (4 : Int32)) = False from by decide, if_true, if_false, iI_mul]
    obtain ⟨r, e3, h3⟩ := Y_in (x := v) (a := lo (ka B c) * lo (kb B c)) (b := hi (ka B c) * hi (kb B c)) Y (by omega) (by omega) (by omega) (by omega) (by omega) (by omega)
    rw [iI_nat, e3]
    refine ⟨r1 && r, r1 && r, ?_, rfl, ?_⟩
    · cases r1 <;> cases r <;> rfl
    · rw [Bool.and_eq_true, h3]
      exact ⟨fun q => ⟨q.1, fun _ => q.2, fun k => by omega⟩, fun q => ⟨q.1, q.2.1 trivial⟩⟩
  by_cases k4 : kd B c = 4
  · have o := ok_4 ok hc k4
    have n := (nm c hc).2 k4
    have ya := (ey _ o.1).1 n
    have ra := rb _ o.1 n
    rw [Y_a bY hc (by omega) (by omega) (by omega), k4]
    have le : (nI v ≤ iI (lo (ka B c))) ↔ (v : Int) ≤ lo (ka B c) := by rw [iI_nat]; exact iI_le (by omega) (by omega) (by omega) (by omega)
    simp only [inb_nI o.1 (show 12 < 2 ^ 31 by decide), gd_true, cl (show ka B c < 2 ^ 31 by omega), ya.1, bs, show (nI 4 = (2 : Int32)) = False from by decide, show (nI 4 = (4 : Int32)) = True from by decide, if_true, if_false, le]
    refine ⟨r1, r1 && decide (lo (ka B c) < v), rfl, ?_, ?_⟩
    · by_cases z : (v : Int) ≤ lo (ka B c)
      · rw [if_pos z, decide_eq_false (show ¬ lo (ka B c) < v by omega)]
        cases r1 <;> rfl
      · rw [if_neg z, decide_eq_true (show lo (ka B c) < v by omega)]
        cases r1 <;> rfl
    · rw [Bool.and_eq_true, decide_eq_true_iff]
      exact ⟨fun q => ⟨q.1, fun k => by omega, fun _ => q.2⟩, fun q => ⟨q.1, q.2.2 trivial⟩⟩
  · have n2 : ¬ nI (kd B c) = 2 := by rw [show (2 : Int32) = nI 2 from rfl, nI_eq (by omega) (by decide)]; exact k2
    have n4 : ¬ nI (kd B c) = 4 := by rw [show (4 : Int32) = nI 4 from rfl, nI_eq (by omega) (by decide)]; exact k4
    refine ⟨r1, r1, if_neg n2, if_neg n4, fun q => ⟨q, fun k => absurd k k2, fun k => absurd k k4⟩, fun q => q.1⟩
theorem Y_can {N : Nat} (hN : 12 < N) (ok : okB B) (nm : nmd B) (bY : BY Y B) (ey : ENY Y B lo hi) (rb : rngB B lo hi) (ho : out < 2 ^ 31) {c v : Nat} (hc : c < 12) (tc : thr B c = true) (hv : v < 100) : ∃ r, fY0_can N Y (nI c) (nI v) (nI out) = some (bI r) ∧ (r = true ↔ canP B out lo hi c v) := by
  obtain ⟨r1, e1, h1⟩ := Y_can1 hN ok bY ey rb ho hc hv
  have k6 : kd B c < 6 := by
    have := ok_k ok hc
    have := thr_t.mp tc
    omega
  obtain ⟨ra, r2, e2, e2', h2⟩ := Y_own ok nm bY ey rb hc hv k6 r1
  obtain ⟨r3, e3, h3⟩ := Y_can2 hN ok nm bY ey rb hc hv r2
  refine ⟨r3, ?_, ?_⟩
  · rw [fY0_can, e1, bs, inb_nI hc (by decide), cl (show c < 2 ^ 31 by omega)]
    repeat rw [gd_true]
    rw [e2, bs]
    repeat rw [gd_true]
    rw [e2', bs, e3, bs, bI_isb, gd_true]
  · rw [h3, h2, h1]
    unfold canP oth
    constructor
    · rintro ⟨⟨a, b, d⟩, e⟩
      exact ⟨a, b, d, fun t ht => (e t ht).1, fun t ht => (e t ht).2.1, fun t ht => (e t ht).2.2⟩
    · rintro ⟨a, b, d, e1, e2, e3⟩
      exact ⟨⟨a, b, d⟩, fun t ht => ⟨e1 t ht, e2 t ht, e3 t ht⟩⟩
end OD
