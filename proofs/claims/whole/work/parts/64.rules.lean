/-! the class' narrowing: rules, passes -/
def lfac (x y : Int) : Int := if 0 < y then (x + y - 1) / y else if x ≤ 0 then 0 else 100
def gfac (x y : Int) : Int := if 0 < y then x / y else 99
theorem lfac_le {x y v : Int} (hx : 0 ≤ x) (hy : 0 ≤ y) (h0 : 0 ≤ v) (h1 : v ≤ 99) : lfac x y ≤ v ↔ x ≤ v * y := by
  unfold lfac
  by_cases h : 0 < y
  · rw [if_pos h]
    have e := Int.ediv_lt_iff_lt_mul (a := x + y - 1) (b := v + 1) h
    have e2 : (v + 1) * y = v * y + y := by rw [Int.add_mul, Int.one_mul]
    rw [e2] at e
    omega
  · have : y = 0 := by omega
    subst this
    rw [if_neg h, Int.mul_zero]
    by_cases q : x ≤ 0
    · rw [if_pos q]; omega
    · rw [if_neg q]; omega
theorem gfac_le {x y v : Int} (hx : 0 ≤ x) (hy : 0 ≤ y) (h0 : 0 ≤ v) (h1 : v ≤ 99) : v ≤ gfac x y ↔ v * y ≤ x := by
  unfold gfac
  by_cases h : 0 < y
  · rw [if_pos h]
    exact Int.le_ediv_iff_mul_le h
  · have : y = 0 := by omega
    subst this
    rw [if_neg h, Int.mul_zero]
    omega
theorem iI_div {x y : Int} (h0 : 0 ≤ x) (h1 : x < 2147483648) (h2 : 0 < y) (h3 : y < 2147483648) : iI x / iI y = iI (x / y) := by
  obtain ⟨m, rfl⟩ := Int.eq_ofNat_of_zero_le h0
  obtain ⟨k, rfl⟩ := Int.eq_ofNat_of_zero_le (show 0 ≤ y by omega)
  rw [← iI_nat, ← iI_nat, pk_div (by omega) (by omega) (by omega), iI_nat]
  rfl
theorem ne_0 {y : Int} (h2 : 0 < y) (h3 : y < 2147483648) : (!decide (iI y = 0)) = true := by
  have : ¬ iI y = 0 := by
    rw [show (0 : Int32) = iI 0 from rfl, iI_eq (by omega) (by omega) (by omega) (by omega)]
    omega
  simp [this]
theorem X_lfac (S : St) {x y : Int} (h0 : 0 ≤ x) (h1 : x ≤ 100) (h2 : 0 ≤ y) (h3 : y ≤ 100) : fXs_leastFactor S (iI x) (iI y) = some (iI (lfac x y)) := by
  unfold fXs_leastFactor lfac
  have e : (0 < iI y) ↔ 0 < y := iI_lt (a := 0) (by omega) (by omega) (by omega) (by omega)
  have e2 : (iI x ≤ 0) ↔ x ≤ 0 := iI_le (b := 0) (by omega) (by omega) (by omega) (by omega)
  by_cases h : 0 < y
  · rw [if_pos (e.mpr h), if_pos h, ne_0 h (by omega), gd_true, iI_add, show iI (x + y) - 1 = iI (x + y - 1) from iI_sub _ 1, iI_div (by omega) (by omega) h (by omega)]
  · rw [if_neg (fun q => h (e.mp q)), if_neg h]
    by_cases q : x ≤ 0
    · rw [if_pos (e2.mpr q), if_pos q]; rfl
    · rw [if_neg (fun w => q (e2.mp w)), if_neg q]; rfl
theorem X_gfac (S : St) {x y : Int} (h0 : 0 ≤ x) (h1 : x ≤ 100) (h2 : 0 ≤ y) (h3 : y ≤ 100) : fXs_greatestFactor S (iI x) (iI y) = some (iI (gfac x y)) := by
  unfold fXs_greatestFactor gfac
  have e : (0 < iI y) ↔ 0 < y := iI_lt (a := 0) (by omega) (by omega) (by omega) (by omega)
  by_cases h : 0 < y
  · rw [if_pos (e.mpr h), if_pos h, ne_0 h (by omega), gd_true, iI_div (by omega) (by omega) h (by omega)]; rfl
  · rw [if_neg (fun q => h (e.mp q)), if_neg h]; rfl
section OA
variable {S S' Y Y' : St} {B : Bk} {out : Nat} {lo hi lo' hi' lo'' hi'' : Nat → Int} {mv em mv' em' mv'' em'' : Bool}
theorem lfac_b {x y : Int} (h0 : 0 ≤ x) (h1 : x ≤ 100) (h2 : 0 ≤ y) (h3 : y ≤ 100) : 0 ≤ lfac x y ∧ lfac x y ≤ 200 := by
  unfold lfac
  by_cases h : 0 < y
  · rw [if_pos h]
    refine ⟨Int.ediv_nonneg (by omega) (by omega), ?_⟩
    have := Int.ediv_le_self (y) (show 0 ≤ x + y - 1 by omega)
    omega
  · rw [if_neg h]
    by_cases q : x ≤ 0
    · rw [if_pos q]; omega
    · rw [if_neg q]; omega
theorem gfac_b {x y : Int} (h0 : 0 ≤ x) (h1 : x ≤ 100) (h2 : 0 ≤ y) (h3 : y ≤ 100) : 0 ≤ gfac x y ∧ gfac x y ≤ 200 := by
  unfold gfac
  by_cases h : 0 < y
  · rw [if_pos h]
    refine ⟨Int.ediv_nonneg (by omega) (by omega), ?_⟩
    have := Int.ediv_le_self (y) h0
    omega
  · rw [if_neg h]; omega
/-- a product's factor -/
theorem X_factor {N : Nat} (hN : 201 < N) (j : JNX S B lo hi mv em) {c a b : Nat} (hc : c < 12) (ha : a < 12) (hb : b < 12) (tc : thr B c = true) (ta : thr B a = true) (tb : thr B b = true) (snd : ∀ gl gh, clo B out gl gh → ins B gl gh lo hi → lo c ≤ gl a * hi b ∧ gh a * lo b ≤ hi c) : ∃ S' lo' hi' mv' em', fX33_narrowFactor N S (nI c) (nI a) (nI b) = some S' ∧ JNX S' B lo' hi' mv' em' ∧ Tr B out lo hi mv em lo' hi' mv' em' ∧ (mv' = false → em' = false → lo c ≤ lo a * hi b ∧ hi a * lo b ≤ hi c) := by
  unfold fX33_narrowFactor
  rw [j.2.2.2.2.1]
  cases e : em
  rotate_left
  · rw [if_neg (by decide)]
    exact ⟨S, lo, hi, mv, em, rfl, j, by rw [e]; exact Tr_refl, fun _ q => by rw [e] at q; exact absurd q (by decide)⟩
  subst e
  have xc := j.2.2.1 c hc tc
  have xa := j.2.2.1 a ha ta
  have xb := j.2.2.1 b hb tb
  have yc := j.2.2.2.2.2.1 rfl c hc tc
  have ya := j.2.2.2.2.2.1 rfl a ha ta
  have yb := j.2.2.2.2.2.1 rfl b hb tb
  have lb1 := lfac_b (x := lo c) (y := hi b) (by omega) (by omega) (by omega) (by omega)
  have gb1 := gfac_b (x := hi c) (y := lo b) (by omega) (by omega) (by omega) (by omega)
  rw [if_pos bI_f, inb_nI hc (by decide), inb_nI hb (by decide), gd_true, gd_true, cl (show c < 2 ^ 31 by omega), cl (show b < 2 ^ 31 by omega), xc.1, xc.2.1, xb.1, xb.2.1, X_lfac S (by omega) (by omega) (by omega) (by omega), bs, gd_true, gd_true, X_gfac S (by omega) (by omega) (by omega) (by omega), bs]
  obtain ⟨S', l2, h2, m2, n2, k1, k2, k3, k4, k5⟩ := X_keep (out := out) hN j ha ta (f := lfac (lo c) (hi b)) (t := gfac (hi c) (lo b)) (by omega) (by omega) (by omega) (by omega) (fun gl gh g i => by
    have s := snd gl gh g i
    have ga := g a ha ta
    have ia := i a ha ta
    exact ⟨(lfac_le (by omega) (by omega) ga.1 (by omega)).mpr s.1, (gfac_le (by omega) (by omega) (by omega) ga.2.2.1).mpr s.2⟩)
  rw [k1]
  refine ⟨S', l2, h2, m2, n2, rfl, k2, k3, fun m n => ?_⟩
  have q1 := k5 n
  have q2 := k3.2.2.2.1 m
  rw [q2.1, q2.2] at q1
  exact ⟨(lfac_le (by omega) (by omega) xa.2.2.1 (by omega)).mp q1.1, (gfac_le (by omega) (by omega) (by omega) xa.2.2.2.2.2).mp q1.2⟩
/-- what rules ask of ends that stay -/
def rul (B : Bk) (lo hi : Nat → Int) (n : Nat) : Prop := ∀ c, c < n → (kd B c = 2 → (lo (ka B c) * lo (kb B c) ≤ lo c ∧ hi c ≤ hi (ka B c) * hi (kb B c)) ∧ (lo c ≤ lo (ka B c) * hi (kb B c) ∧ hi (ka B c) * lo (kb B c) ≤ hi c) ∧ (lo c ≤ lo (kb B c) * hi (ka B c) ∧ hi (kb B c) * lo (ka B c) ≤ hi c)) ∧ (kd B c = 4 → lo (ka B c) < lo c ∧ hi (ka B c) < hi c)
theorem mul_b {x y : Int} (h0 : 0 ≤ x) (h1 : x ≤ 100) (h2 : 0 ≤ y) (h3 : y ≤ 100) : 0 ≤ x * y ∧ x * y ≤ 10000 := by
  refine ⟨Int.mul_nonneg h0 h2, ?_⟩
  have := mul_mono h1 h3 h2 (by omega)
  omega
theorem X_product {N : Nat} (hN : 201 < N) (ok : okB B) (j : JNX S B lo hi mv false) {c : Nat} (hc : c < 12) (k : kd B c = 2) : ∃ S' lo' hi' mv' em', fX33_narrowByProduct N S (nI c) (nI (ka B c)) (nI (kb B c)) = some S' ∧ JNX S' B lo' hi' mv' em' ∧ Tr B out lo hi mv false lo' hi' mv' em' ∧ (mv' = false → em' = false → (lo (ka B c) * lo (kb B c) ≤ lo c ∧ hi c ≤ hi (ka B c) * hi (kb B c)) ∧ (lo c ≤ lo (ka B c) * hi (kb B c) ∧ hi (ka B c) * lo (kb B c) ≤ hi c) ∧ (lo c ≤ lo (kb B c) * hi (ka B c) ∧ hi (kb B c) * lo (ka B c) ≤ hi c)) := by
  have o := ok_2 ok hc k
  have tc := thr_k k (show 2 < 6 by decide)
  have nm := (al_nm (j.2.2.2.2.2.1 rfl c hc tc).2.1).1 k
  have xa := j.2.2.1 _ o.1 nm.1
  have xb := j.2.2.1 _ o.2.1 nm.2
  have ya := j.2.2.2.2.2.1 rfl _ o.1 nm.1
  have yb := j.2.2.2.2.2.1 rfl _ o.2.1 nm.2
  have m1 := mul_b (x := lo (ka B c)) (y := lo (kb B c)) (by omega) (by omega) (by omega) (by omega)
  have m2 := mul_b (x := hi (ka B c)) (y := hi (kb B c)) (by omega) (by omega) (by omega) (by omega)
  obtain ⟨S1, l1, h1, mv1, em1, k1, k2, k3, k4, k5⟩ := X_keep (out := out) hN j hc tc (f := lo (ka B c) * lo (kb B c)) (t := hi (ka B c) * hi (kb B c)) (by omega) (by omega) (by omega) (by omega) (fun gl gh g i => by
    have cc := clo_can ok g i (fun d hd td => (j.2.2.1 d hd td).2.2.1) hc tc
    exact ⟨(cc.1.2.1 k).1, (cc.2.2.1 k).2⟩)
  obtain ⟨S2, l2, h2, mv2, em2, p1', p2', p3, p4⟩ := X_factor (out := out) hN k2 hc o.1 o.2.1 tc nm.1 nm.2 (fun gl gh g i => by
    have cc := clo_can ok g i (fun d hd td => (k2.2.2.1 d hd td).2.2.1) o.1 nm.1
    exact ⟨(cc.1.2.2.2.1 c hc k rfl).2, (cc.2.2.2.2.1 c hc k rfl).1⟩)
  obtain ⟨S3, l3, h3, mv3, em3, r1, r2, r3, r4⟩ := X_factor (out := out) hN p2' hc o.2.1 o.1 tc nm.2 nm.1 (fun gl gh g i => by
    have cc := clo_can ok g i (fun d hd td => (p2'.2.2.1 d hd td).2.2.1) o.2.1 nm.2
    exact ⟨(cc.1.2.2.2.2.1 c hc k rfl).2, (cc.2.2.2.2.2.1 c hc k rfl).1⟩)
  refine ⟨S3, l3, h3, mv3, em3, ?_, r2, Tr_trans k3 (Tr_trans p3 r3), fun m n => ?_⟩
  · unfold fX33_narrowByProduct
    rw [inb_nI o.1 (by decide), inb_nI o.2.1 (by decide), gd_true, gd_true, gd_true, gd_true, cl (show ka B c < 2 ^ 31 by omega), cl (show kb B c < 2 ^ 31 by omega), xa.1, xa.2.1, xb.1, xb.2.1, iI_mul, iI_mul, k1, bs, p1', bs, r1]; rfl
  · have m2' := mvf r3 m
    have n2' := emf r3 n
    have m1' := mvf p3 m2'
    have n1' := emf p3 n2'
    have e1 := k3.2.2.2.1 m1'
    have e2 := p3.2.2.2.1 m2'
    have q1 := k5 n1'
    have q2 := p4 m2' n2'
    have q3 := r4 m n
    rw [e2.1, e2.2] at q3
    rw [e1.1, e1.2] at q1 q2 q3
    exact ⟨q1, q2, q3⟩
theorem X_order {N : Nat} (hN : 201 < N) (ok : okB B) (j : JNX S B lo hi mv false) {c : Nat} (hc : c < 12) (k : kd B c = 4) : ∃ S' lo' hi' mv' em', fX33_narrowByOrder N S (nI c) (nI (ka B c)) = some S' ∧ JNX S' B lo' hi' mv' em' ∧ Tr B out lo hi mv false lo' hi' mv' em' ∧ (mv' = false → em' = false → lo (ka B c) < lo c ∧ hi (ka B c) < hi c) := by
  have o := ok_4 ok hc k
  have tc := thr_k k (show 4 < 6 by decide)
  have nm := (al_nm (j.2.2.2.2.2.1 rfl c hc tc).2.1).2 k
  have xa := j.2.2.1 _ o.1 nm
  obtain ⟨S1, l1, h1, mv1, em1, k1, k2, k3, k4, k5⟩ := X_keep (out := out) hN j hc tc (f := lo (ka B c) + 1) (t := 99) (by omega) (by omega) (by omega) (by omega) (fun gl gh g i => by
    have cc := clo_can ok g i (fun d hd td => (j.2.2.1 d hd td).2.2.1) hc tc
    have := cc.1.2.2.1 k
    have := (g c hc tc).2.2.1
    omega)
  have xc := k2.2.2.1 c hc tc
  obtain ⟨S2, l2, h2, mv2, em2, p1', p2', p3, p4, p5⟩ := X_keep (out := out) hN k2 o.1 nm (f := 0) (t := h1 c - 1) (by omega) (by omega) (by omega) (by omega) (fun gl gh g i => by
    have gg := g _ o.1 nm
    have := gg.2.2.2.2.2.2.2.2.2.2.2 c hc k rfl
    have := i c hc tc
    omega)
  refine ⟨S2, l2, h2, mv2, em2, ?_, p2', Tr_trans k3 p3, fun m n => ?_⟩
  · unfold fX33_narrowByOrder
    rw [inb_nI o.1 (by decide), inb_nI hc (by decide), gd_true, cl (show ka B c < 2 ^ 31 by omega), xa.1, show iI (lo (ka B c)) + 1 = iI (lo (ka B c) + 1) from iI_add _ 1, show (99 : Int32) = iI 99 from rfl, k1, bs, gd_true, cl (show c < 2 ^ 31 by omega), xc.2.1, show iI (h1 c) - 1 = iI (h1 c - 1) from iI_sub _ 1, show (0 : Int32) = iI 0 from rfl, p1']; rfl
  · have m1' := mvf p3 m
    have n1' := emf p3 n
    have e1 := k3.2.2.2.1 m1'
    have e2 := p3.2.2.2.1 m
    have q1 := k5 n1'
    have q2 := p5 n
    rw [e2.1, e2.2] at q2
    rw [e1.1, e1.2] at q1 q2
    omega
theorem X_rules {N : Nat} (hN : 201 < N) (ok : okB B) (j : JNX S B lo hi mv em) : ∃ S' lo' hi' mv' em', fX33_narrowByRules N S = some S' ∧ JNX S' B lo' hi' mv' em' ∧ Tr B out lo hi mv em lo' hi' mv' em' ∧ (mv' = false → em' = false → rul B lo hi 12) := by
  obtain ⟨t, e1, lo', hi', mv', em', h1, h2, h3⟩ := loop_up (fun q st x => fX33_narrowByRules_L2 N q st x) 12
    (fun i st => ∃ lo' hi' mv' em', JNX st B lo' hi' mv' em' ∧ Tr B out lo hi mv em lo' hi' mv' em' ∧ (mv' = false → em' = false → rul B lo hi i))
    (fun st => ∃ lo' hi' mv' em', JNX st B lo' hi' mv' em' ∧ Tr B out lo hi mv em lo' hi' mv' em' ∧ (mv' = false → em' = false → rul B lo hi 12))
    (fun q st hI => ⟨st, by
        show fX33_narrowByRules_L2 N (q + 1) st (nI 12) = _
        rw [fX33_narrowByRules_L2, if_pos (by decide)], hI⟩)
    (fun q i st hi12 hI => by
      obtain ⟨lo', hi', mv', em', h1, h2, h3⟩ := hI
      show (∃ t, fX33_narrowByRules_L2 N (q + 1) st (nI i) = some t ∧ _) ∨ ∃ s', _ ∧ fX33_narrowByRules_L2 N (q + 1) st (nI i) = fX33_narrowByRules_L2 N q s' (nI (i + 1))
      have ec : Int32.toNatClampNeg (nI i) = i := cl (by omega)
      cases em'
      rotate_left
      · left
        refine ⟨st, ?_, lo', hi', mv', true, h1, h2, fun _ q => absurd q (by decide)⟩
        rw [fX33_narrowByRules_L2, if_neg (show ¬ (12 : Int32) ≤ nI i from nI_ge hi12 (by decide)), h1.2.2.2.2.1, if_neg (by decide)]
      right
      have hk := ok_k ok hi12
      have nxt : ∀ {S1 : St} {l1 h1' : Nat → Int} {m1 n1 : Bool}, JNX S1 B l1 h1' m1 n1 → Tr B out lo' hi' mv' false l1 h1' m1 n1 → (m1 = false → n1 = false → (kd B i = 2 → (lo' (ka B i) * lo' (kb B i) ≤ lo' i ∧ hi' i ≤ hi' (ka B i) * hi' (kb B i)) ∧ (lo' i ≤ lo' (ka B i) * hi' (kb B i) ∧ hi' (ka B i) * lo' (kb B i) ≤ hi' i) ∧ (lo' i ≤ lo' (kb B i) * hi' (ka B i) ∧ hi' (kb B i) * lo' (ka B i) ≤ hi' i)) ∧ (kd B i = 4 → lo' (ka B i) < lo' i ∧ hi' (ka B i) < hi' i)) → ∃ lo' hi' mv' em', JNX S1 B lo' hi' mv' em' ∧ Tr B out lo hi mv em lo' hi' mv' em' ∧ (mv' = false → em' = false → rul B lo hi (i + 1)) := by
        intro S1 l1 h1' m1 n1 a1 a2 a3
        refine ⟨l1, h1', m1, n1, a1, Tr_trans h2 a2, fun m n d hd => ?_⟩
        have mm := mvf a2 m
        by_cases ed : d = i
        · subst ed
          have q1 := a3 m n
          have q2 := h2.2.2.2.1 mm
          rw [q2.1, q2.2] at q1
          exact q1
        · exact h3 mm (emf a2 n) d (by omega)
      have ev : fX33_narrowByRules_L2 N (q + 1) st (nI i) = Option.bind (if st.1 26 i = 2 then fX33_narrowByProduct N st (nI i) (st.1 27 i) (st.1 28 i) else if st.1 26 i = 4 then fX33_narrowByOrder N st (nI i) (st.1 27 i) else some st) fun t6 => fX33_narrowByRules_L2 N q t6 (nI (i + 1)) := by
        rw [fX33_narrowByRules_L2, if_neg (show ¬ (12 : Int32) ≤ nI i from nI_ge hi12 (by decide)), h1.2.2.2.2.1, if_pos bI_f, fX25_kindOf, fX25_firstOf, fX25_secondOf, inb_nI hi12 (by decide), gd_true, ec, bs, nI_1]
        congr 1
        by_cases z1 : st.1 26 i = 2
        · rw [if_pos z1, if_pos z1, gd_true, gd_true, bs, bs]
          cases fX33_narrowByProduct N st (nI i) (st.1 27 i) (st.1 28 i) <;> rfl
        · rw [if_neg z1, if_neg z1, bs]
          by_cases z2 : st.1 26 i = 4
          · rw [if_pos z2, if_pos z2, gd_true, bs]
            cases fX33_narrowByOrder N st (nI i) (st.1 27 i) <;> rfl
          · rw [if_neg z2, if_neg z2]
      rw [ev]
      by_cases k6 : kd B i = 6
      · rcases h1.1.1 i hi12 with w | w
        · rw [w.2, if_neg (by decide), if_neg (by decide), bs]
          exact ⟨st, nxt h1 Tr_refl (fun _ _ => ⟨fun k => by omega, fun k => by omega⟩), rfl⟩
        · omega
      rw [X_k h1.1 hi12 (by omega)]
      by_cases k2 : kd B i = 2
      · rw [k2, if_pos (by decide), X_a h1.1 hi12 (by omega) (by omega), X_b h1.1 hi12 (by omega) (by omega) (by omega)]
        obtain ⟨S1, l1, h1', m1, n1, p1', p2', p3, p4⟩ := X_product (out := out) hN ok h1 hi12 k2
        rw [p1']
        exact ⟨S1, nxt p2' p3 (fun m n => ⟨fun _ => p4 m n, fun k => by omega⟩), rfl⟩
      rw [if_neg (show ¬ nI (kd B i) = 2 by rw [show (2 : Int32) = nI 2 from rfl, nI_eq (by omega) (by decide)]; exact k2)]
      by_cases k4 : kd B i = 4
      · rw [k4, if_pos (by decide), X_a h1.1 hi12 (by omega) (by omega)]
        obtain ⟨S1, l1, h1', m1, n1, p1', p2', p3, p4⟩ := X_order (out := out) hN ok h1 hi12 k4
        rw [p1']
        exact ⟨S1, nxt p2' p3 (fun m n => ⟨fun k => by omega, fun _ => p4 m n⟩), rfl⟩
      rw [if_neg (show ¬ nI (kd B i) = 4 by rw [show (4 : Int32) = nI 4 from rfl, nI_eq (by omega) (by decide)]; exact k4), bs]
      exact ⟨st, nxt h1 Tr_refl (fun _ _ => ⟨fun k => by omega, fun k => by omega⟩), rfl⟩)
    N 0 S (by omega) (by omega) ⟨lo, hi, mv, em, j, Tr_refl, fun _ _ d hd => by omega⟩
  refine ⟨t, lo', hi', mv', em', ?_, h1, h2, h3⟩
  unfold fX33_narrowByRules
  have e2 : fX33_narrowByRules_L2 N N S 0 = some t := e1
  rw [e2]; rfl
theorem X_sums {N : Nat} (hN : 201 < N) (ok : okB B) (j : JNX S B lo hi mv em) (ho : out < 2 ^ 31) (x2 : Int32) : ∃ S' lo' hi' mv' em', fX33_narrow_L39 N (nI out) x2 N S 0 = some S' ∧ JNX S' B lo' hi' mv' em' ∧ Tr B out lo hi mv em lo' hi' mv' em' ∧ (mv' = false → em' = false → ∀ s, s < sn B → out.testBit s = false → csB B s lo hi 12) := by
  have h8 := ok.2.2.2.1
  obtain ⟨t, e1, lo', hi', mv', em', h1, h2, h3⟩ := loop_up (fun q st x => fX33_narrow_L39 N (nI out) x2 q st x) (sn B)
    (fun i st => ∃ lo' hi' mv' em', JNX st B lo' hi' mv' em' ∧ Tr B out lo hi mv em lo' hi' mv' em' ∧ (mv' = false → em' = false → ∀ s, s < i → out.testBit s = false → csB B s lo hi 12))
    (fun st => ∃ lo' hi' mv' em', JNX st B lo' hi' mv' em' ∧ Tr B out lo hi mv em lo' hi' mv' em' ∧ (mv' = false → em' = false → ∀ s, s < sn B → out.testBit s = false → csB B s lo hi 12))
    (fun q st hI => ⟨st, by
        obtain ⟨lo', hi', mv', em', h1, h2, h3⟩ := hI
        show fX33_narrow_L39 N (nI out) x2 (q + 1) st (nI (sn B)) = _
        rw [fX33_narrow_L39, fX29_howMany, bs, h1.1.2.2.2.2.2.1, if_pos (ge_n (by omega))], hI⟩)
    (fun q i st hi8 hI => by
      obtain ⟨lo', hi', mv', em', h1, h2, h3⟩ := hI
      right
      show ∃ s', _ ∧ fX33_narrow_L39 N (nI out) x2 (q + 1) st (nI i) = fX33_narrow_L39 N (nI out) x2 q s' (nI (i + 1))
      have ev : fX33_narrow_L39 N (nI out) x2 (q + 1) st (nI i) = Option.bind (if out.testBit i = true then some st else fX33_narrowBySum N st (nI i)) fun t14 => fX33_narrow_L39 N (nI out) x2 q t14 (nI (i + 1)) := by
        rw [fX33_narrow_L39, fX29_howMany, bs, h1.1.2.2.2.2.2.1, if_neg (nI_ge hi8 (by omega)), shb ho (show i < 32 by omega), nI_1, if_bI0]
        congr 1
        cases out.testBit i
        · cases fX33_narrowBySum N st (nI i) <;> rfl
        · rfl
      rw [ev]
      cases tb : out.testBit i
      · rw [if_neg (by decide)]
        obtain ⟨S1, l1, h1', m1, n1, p1', p2', p3, p4⟩ := X_bySum (out := out) hN ok h1 hi8 tb
        rw [p1']
        refine ⟨S1, ⟨l1, h1', m1, n1, p2', Tr_trans h2 p3, fun m n s hs so => ?_⟩, rfl⟩
        have mm := mvf p3 m
        by_cases e : s = i
        · subst e
          have q2 := h2.2.2.2.1 mm
          have q1 := p4 m n
          rw [q2.1, q2.2] at q1
          exact q1
        · exact h3 mm (emf p3 n) s (by omega) so
      · rw [if_pos rfl, bs]
        refine ⟨st, ⟨lo', hi', mv', em', h1, h2, fun m n s hs so => ?_⟩, rfl⟩
        by_cases e : s = i
        · subst e; rw [tb] at so; exact absurd so (by decide)
        · exact h3 m n s (by omega) so)
    N 0 S (by omega) (by omega) ⟨lo, hi, mv, em, j, Tr_refl, fun _ _ d hd => by omega⟩
  exact ⟨t, lo', hi', mv', em', e1, h1, h2, h3⟩
theorem rul_clo (ok : okB B) (j : JNX S B lo hi mv false) (h1 : rul B lo hi 12) (h2 : ∀ s, s < sn B → out.testBit s = false → csB B s lo hi 12) : clo B out lo hi := by
  intro c hc tc
  have x := j.2.2.1 c hc tc
  have y := j.2.2.2.2.2.1 rfl c hc tc
  refine ⟨by omega, by omega, by omega, y.2.1, y.2.2, ⟨fun s hs so tb => (h2 s hs so c hc tc tb).1, fun k => ?_, fun k => ?_, fun t ht k e => ?_, fun t ht k e => ?_, fun t ht k e => ?_⟩, ⟨fun s hs so tb => (h2 s hs so c hc tc tb).2, fun k => ?_, fun k => ?_, fun t ht k e => ?_, fun t ht k e => ?_, fun t ht k e => ?_⟩⟩
  · have := ((h1 c hc).1 k).1; omega
  · have := (h1 c hc).2 k; omega
  · subst e
    have q := ((h1 t ht).1 k).2.1
    have o := ok_2 ok ht k
    have nm := (al_nm (j.2.2.2.2.2.1 rfl t ht (thr_k k (by decide))).2.1).1 k
    have m := Int.mul_le_mul_of_nonneg_right y.1 (j.2.2.1 _ o.2.1 nm.2).2.2.1
    omega
  · subst e
    have q := ((h1 t ht).1 k).2.2
    have o := ok_2 ok ht k
    have nm := (al_nm (j.2.2.2.2.2.1 rfl t ht (thr_k k (by decide))).2.1).1 k
    have m := Int.mul_le_mul_of_nonneg_right y.1 (j.2.2.1 _ o.1 nm.1).2.2.1
    omega
  · subst e
    have := (h1 t ht).2 k; omega
  · have := ((h1 c hc).1 k).1; omega
  · have := (h1 c hc).2 k; omega
  · subst e
    have q := ((h1 t ht).1 k).2.1
    have o := ok_2 ok ht k
    have nm := (al_nm (j.2.2.2.2.2.1 rfl t ht (thr_k k (by decide))).2.1).1 k
    have z := j.2.2.2.2.2.1 rfl _ o.2.1 nm.2
    have m := Int.mul_le_mul_of_nonneg_right y.1 (show 0 ≤ hi (kb B t) by have := (j.2.2.1 _ o.2.1 nm.2).2.2.1; omega)
    omega
  · subst e
    have q := ((h1 t ht).1 k).2.2
    have o := ok_2 ok ht k
    have nm := (al_nm (j.2.2.2.2.2.1 rfl t ht (thr_k k (by decide))).2.1).1 k
    have z := j.2.2.2.2.2.1 rfl _ o.1 nm.1
    have m := Int.mul_le_mul_of_nonneg_right y.1 (show 0 ≤ hi (ka B t) by have := (j.2.2.1 _ o.1 nm.1).2.2.1; omega)
    omega
  · subst e
    have := (h1 t ht).2 k; omega
end OA
