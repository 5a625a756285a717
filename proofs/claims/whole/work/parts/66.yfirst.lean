/-! the reference's narrowing: ends, what can stand -/
def eOf (p : Nat → Bool) (l h : Int) : Prop := (∃ a b : Nat, a < 100 ∧ b < 100 ∧ l = a ∧ h = b ∧ p a = true ∧ p b = true ∧ ∀ v, v < 100 → p v = true → a ≤ v ∧ v ≤ b) ∨ ((∀ v, v < 100 → p v = false) ∧ l = 100 ∧ h = -9)
theorem eOf_b {p : Nat → Bool} {l h : Int} (e : eOf p l h) : 0 ≤ l ∧ l ≤ 100 ∧ -9 ≤ h ∧ h ≤ 99 := by
  rcases e with ⟨a, b, h1, h2, rfl, rfl, _⟩ | ⟨_, rfl, rfl⟩ <;> omega
theorem eOf_n {p : Nat → Bool} {l h : Int} (e : eOf p l h) (h0 : 0 ≤ h) : ∃ a b : Nat, a < 100 ∧ b < 100 ∧ l = a ∧ h = b ∧ p a = true ∧ p b = true ∧ ∀ v, v < 100 → p v = true → a ≤ v ∧ v ≤ b := by
  rcases e with q | ⟨_, rfl, rfl⟩
  · exact q
  · omega
theorem eOf_e {p : Nat → Bool} {l h : Int} (e : eOf p l h) (h0 : ¬ 0 ≤ h) : ∀ v, v < 100 → p v = false := by
  rcases e with ⟨a, b, h1, h2, rfl, rfl, _⟩ | ⟨q, rfl, rfl⟩
  · omega
  · exact q
def ENY (Y : St) (B : Bk) (lo hi : Nat → Int) : Prop := ∀ c, c < 12 → (thr B c = true → Y.1 18 c = iI (lo c) ∧ Y.1 19 c = iI (hi c)) ∧ (thr B c = false → Y.1 18 c = 0 ∧ Y.1 19 c = 0)
section OC
variable {S S' Y Y' : St} {B : Bk} {out : Nat} {lo hi lo' hi' : Nat → Int}
theorem Y_setEnds {N : Nat} (hN : 201 < N) (bY : BY Y B) {c : Nat} (hc : c < 12) {p : Nat → Bool} (hp : ∀ v, v < 100 → Y.1 17 (100 * c + v) = bI (p v)) : ∃ l h, fY0_setEnds N Y (nI c) = some (bI (!thr B c || decide (0 ≤ h)), p1 (p1 Y 18 c (if thr B c = true then iI l else 0)) 19 c (if thr B c = true then iI h else 0)) ∧ eOf p l h := by
  obtain ⟨t, e1, l, h, e2, h1⟩ := loop_up (fun q (s : Int32 × Int32) x => fY0_setEnds_L9 N Y (nI c) q s.1 s.2 x) 100
    (fun i s => (∃ a b : Nat, a < i ∧ b < i ∧ s = (nI a, nI b) ∧ p a = true ∧ p b = true ∧ ∀ v, v < i → p v = true → a ≤ v ∧ v ≤ b) ∨ ((∀ v, v < i → p v = false) ∧ s = (100, -9)))
    (fun t => ∃ l h, t = (iI l, iI h) ∧ eOf p l h)
    (fun q s hI => ⟨s, by
      show fY0_setEnds_L9 N Y (nI c) (q + 1) s.1 s.2 (nI 100) = _
      rw [fY0_setEnds_L9, if_pos (by decide)], by
      rcases hI with ⟨a, b, h1, h2, h3, h4⟩ | ⟨h1, h2⟩
      · exact ⟨a, b, by rw [h3, iI_nat, iI_nat], Or.inl ⟨a, b, h1, h2, rfl, rfl, h4⟩⟩
      · exact ⟨100, -9, by rw [h2]; rfl, Or.inr ⟨h1, rfl, rfl⟩⟩⟩)
    (fun q i s hi hI => by
      right
      show ∃ s' : Int32 × Int32, _ ∧ fY0_setEnds_L9 N Y (nI c) (q + 1) s.1 s.2 (nI i) = fY0_setEnds_L9 N Y (nI c) q s'.1 s'.2 (nI (i + 1))
      rw [fY0_setEnds_L9, if_neg (show ¬ (100 : Int32) ≤ nI i from nI_ge hi (by decide)), ixY, inb_nI (show 100 * c + i < 1200 by omega) (by decide), gd_true, cl (show 100 * c + i < 2 ^ 31 by omega), hp i hi, if_bI0, nI_1]
      cases pi : p i
      · rw [if_neg (by decide), bs]
        refine ⟨s, ?_, rfl⟩
        rcases hI with ⟨a, b, h1, h2, h3, h4, h5, h6⟩ | ⟨h1, h2⟩
        · refine Or.inl ⟨a, b, by omega, by omega, h3, h4, h5, fun v hv pv => ?_⟩
          by_cases e : v = i
          · subst e; rw [pi] at pv; exact absurd pv (by decide)
          · exact h6 v (by omega) pv
        · refine Or.inr ⟨fun v hv => ?_, h2⟩
          by_cases e : v = i
          · subst e; exact pi
          · exact h1 v (by omega)
      · rw [if_pos rfl]
        rcases hI with ⟨a, b, h1, h2, h3, h4, h5, h6⟩ | ⟨h1, h2⟩
        · rw [h3]
          dsimp only
          rw [if_pos (nI_le (by omega) (by omega)), bs, bs]
          refine ⟨(nI a, nI i), Or.inl ⟨a, i, by omega, by omega, rfl, h4, pi, fun v hv pv => ?_⟩, rfl⟩
          by_cases e : v = i
          · omega
          · have := h6 v (by omega) pv; omega
        · rw [h2]
          dsimp only
          rw [if_neg (show ¬ (100 : Int32) ≤ nI i from nI_ge hi (by decide)), bs, bs]
          refine ⟨(nI i, nI i), Or.inl ⟨i, i, by omega, by omega, rfl, pi, pi, fun v hv pv => ?_⟩, rfl⟩
          by_cases e : v = i
          · omega
          · rw [h1 v (by omega)] at pv; exact absurd pv (by decide))
    N 0 (100, -9) (by omega) (by omega) (Or.inr ⟨fun v hv => by omega, rfl⟩)
  refine ⟨l, h, ?_, h1⟩
  subst e2
  have e3 : fY0_setEnds_L9 N Y (nI c) N 100 (-9) 0 = some (iI l, iI h) := e1
  have b := eOf_b h1
  have b1 : BY (p1 Y 18 c (if thr B c = true then iI l else 0)) B := agY_BY (agr_of (fr_pa (A := [18]) (F := []) (L := []) (by decide)) (by decide) (by decide) (by decide)) bY
  have b2 : BY (p1 (p1 Y 18 c (if thr B c = true then iI l else 0)) 19 c (if thr B c = true then iI h else 0)) B := agY_BY (agr_of (fr_pa (A := [19]) (F := []) (L := []) (by decide)) (by decide) (by decide) (by decide)) b1
  unfold fY0_setEnds
  rw [e3, bs, Y_there bY hc, bs, if_bI0]
  have e4 : (if thr B c = true then some (iI l) else some (0 : Int32)) = some (if thr B c = true then iI l else 0) := by split <;> rfl
  have e5 : (if thr B c = true then some (iI h) else some (0 : Int32)) = some (if thr B c = true then iI h else 0) := by split <;> rfl
  simp only [e4, bs, inb_nI hc (show 12 < 2 ^ 31 by decide), gd_true, nx_eq, cl (show c < 2 ^ 31 by omega), Y_there b1 hc, if_bI0, e5, Y_there b2 hc]
  have e6 : (iI h < 0) ↔ ¬ 0 ≤ h := by
    rw [show (0 : Int32) = iI 0 from rfl, iI_lt (by omega) (by omega) (by omega) (by omega)]
    omega
  cases thr B c
  · rfl
  · by_cases z : 0 ≤ h
    · rw [if_pos rfl, if_neg (fun w => e6.mp w z), bs, decide_eq_true z]; rfl
    · rw [if_pos rfl, if_pos (e6.mpr z), bs, decide_eq_false z]; rfl
theorem iI_as (x : Int32) (a b : Int) : x + iI a - iI b = x + iI (a - b) := by
  rw [← iI_of x, iI_add, iI_sub, iI_add]
  congr 1
  omega
theorem Y_bits (ok : okB B) (bY : BY Y B) {s c : Nat} (hs : s < sn B) (hc : c < 12) : fYs_has Y (Y.1 13 s) (nI c) = some (bI (pb B s c)) ∧ fYs_has Y (Y.1 14 s) (nI c) = some (bI (lb B s c)) ∧ fYs_has Y (Y.1 13 s ||| Y.1 14 s) (nI c) = some (bI (pb B s c || lb B s c)) := by
  have hb := ok.2.2.2.2 s hs
  have e := bY.2.2.2.2 s hs
  rw [e.1, e.2.1, fa_or]
  refine ⟨Yhas Y (by omega) (by omega), Yhas Y (by omega) (by omega), ?_⟩
  rw [Yhas Y (Nat.lt_trans (Nat.or_lt_two_pow (n := 12) hb.1 hb.2.1) (by decide)) (by omega), Nat.testBit_or]
theorem Y_makes {N : Nat} (hN : 12 < N) (ok : okB B) (bY : BY Y B) (ey : ENY Y B lo hi) {s : Nat} (hs : s < sn B) (w x3 : Int32) (hx : x3 = 0 ∨ x3 = 1) : fY0_makes N Y (nI s) w x3 = some (iI (fb_si (fun d => if nI d = w then 0 else if x3 = 0 then tl B s lo hi d else tl B s hi lo d) 12)) := by
  unfold fY0_makes
  have h8 := ok.2.2.2.1
  have e := sum_0 (fun q x y => fY0_makes_L6 N Y (nI s) w x3 q x y) 12 (fun d => if nI d = w then 0 else if x3 = 0 then tl B s lo hi d else tl B s hi lo d) (fun n x => by
    show fY0_makes_L6 N Y (nI s) w x3 (n + 1) x (nI 12) = _
    rw [fY0_makes_L6, if_pos (by decide)]) (fun n x i hi' => by
    show fY0_makes_L6 N Y (nI s) w x3 (n + 1) x (nI i) = fY0_makes_L6 N Y (nI s) w x3 n _ (nI (i + 1))
    have yb := Y_bits ok bY hs hi'
    have dj := dis (c := i) ok hs
    rw [fY0_makes_L6, if_neg (show ¬ (12 : Int32) ≤ nI i from nI_ge hi' (by decide)), nI_1]
    simp only [inb_nI (show s < 8 by omega) (show 8 < 2 ^ 31 by decide), gd_true, cl (show s < 2 ^ 31 by omega), yb.1, bs, yb.2.1, inb_nI hi' (show 12 < 2 ^ 31 by decide), cl (show i < 2 ^ 31 by omega)]
    by_cases ew : nI i = w
    · rw [if_pos ew, bs]
      simp only [if_pos ew]
      rw [show iI 0 = 0 from rfl, show x + 0 = x from by simp]
    · rw [if_neg ew]
      simp only [if_neg ew]
      have key : ∀ (u d : Int32), (thr B i = true → u = iI (if x3 = 0 then lo i else hi i) ∧ d = iI (if x3 = 0 then hi i else lo i)) → (thr B i = false → u = 0 ∧ d = 0) → x + (if pb B s i = true then u else 0) - (if lb B s i = true then d else 0) = x + iI (if x3 = 0 then tl B s lo hi i else tl B s hi lo i) := by
        intro u d h1 h2
        unfold tl
        cases t : thr B i
        · obtain ⟨rfl, rfl⟩ := h2 t
          simp [iI_0]
        · obtain ⟨rfl, rfl⟩ := h1 t
          revert dj
          cases pb B s i <;> cases lb B s i <;> intro dj
          · simp [iI_0]
          · rcases hx with rfl | rfl
            · simp only [Bool.false_eq_true, if_false, if_true]
              have := iI_as x 0 (hi i)
              rw [Int.zero_sub] at this
              exact this
            · simp only [Bool.false_eq_true, if_false, if_true, ne10]
              have := iI_as x 0 (lo i)
              rw [Int.zero_sub] at this
              exact this
          · rcases hx with rfl | rfl
            · simp
            · simp only [Bool.false_eq_true, if_false, if_true, ne10]
              have := iI_as x (hi i) 0
              rw [Int.sub_zero] at this
              exact this
          · exact absurd ⟨rfl, rfl⟩ dj
      have k2 := ey i hi'
      rcases hx with rfl | rfl
      · rw [← key (Y.1 18 i) (Y.1 19 i) (fun t => ⟨by rw [if_pos rfl]; exact (k2.1 t).1, by rw [if_pos rfl]; exact (k2.1 t).2⟩) (fun t => k2.2 t)]
        cases pb B s i <;> cases lb B s i <;> rfl
      · rw [← key (Y.1 19 i) (Y.1 18 i) (fun t => ⟨by rw [if_neg ne10]; exact (k2.1 t).2, by rw [if_neg ne10]; exact (k2.1 t).1⟩) (fun t => ⟨(k2.2 t).2, (k2.2 t).1⟩)]
        cases pb B s i <;> cases lb B s i <;> rfl) hN 0
  have e2 : fY0_makes_L6 N Y (nI s) w x3 N 0 0 = some (iI (0 + _)) := e
  rw [e2, bs, Int.zero_add]
theorem Y_mkW {N : Nat} (hN : 12 < N) (ok : okB B) (bY : BY Y B) (ey : ENY Y B lo hi) {s c : Nat} (hs : s < sn B) (hc : c < 12) : fY0_makes N Y (nI s) (nI c) 0 = some (iI (mkW B s c lo hi)) ∧ fY0_makes N Y (nI s) (nI c) 1 = some (iI (mkW B s c hi lo)) := by
  constructor
  · rw [Y_makes hN ok bY ey hs _ 0 (Or.inl rfl)]
    congr 2
    refine fb_si_cong (fun d hd => ?_)
    show (if nI d = nI c then (0 : Int) else if (0 : Int32) = 0 then tl B s lo hi d else tl B s hi lo d) = if d = c then 0 else tl B s lo hi d
    rw [if_pos rfl]
    by_cases e : d = c
    · rw [if_pos e, if_pos (by rw [e])]
    · rw [if_neg e, if_neg (by rw [nI_eq (by omega) (by omega)]; exact e)]
  · rw [Y_makes hN ok bY ey hs _ 1 (Or.inr rfl)]
    congr 2
    refine fb_si_cong (fun d hd => ?_)
    show (if nI d = nI c then (0 : Int) else if (1 : Int32) = 0 then tl B s lo hi d else tl B s hi lo d) = if d = c then 0 else tl B s hi lo d
    rw [if_neg ne10]
    by_cases e : d = c
    · rw [if_pos e, if_pos (by rw [e])]
    · rw [if_neg e, if_neg (by rw [nI_eq (by omega) (by omega)]; exact e)]
theorem nI_m9 {n : Nat} (h : n < 2 ^ 31) : ¬ nI n = -9 := fun q => by
  have := nI_pos h
  rw [q] at this
  exact this (by decide)
theorem Y_mkA {N : Nat} (hN : 12 < N) (ok : okB B) (bY : BY Y B) (ey : ENY Y B lo hi) {s : Nat} (hs : s < sn B) : fY0_makes N Y (nI s) (-9) 0 = some (iI (mkA B s lo hi)) ∧ fY0_makes N Y (nI s) (-9) 1 = some (iI (mkA B s hi lo)) := by
  constructor
  · rw [Y_makes hN ok bY ey hs _ 0 (Or.inl rfl)]
    congr 2
  · rw [Y_makes hN ok bY ey hs _ 1 (Or.inr rfl)]
    congr 2
theorem mkW_b {s w : Nat} {a b : Nat → Int} (h : ∀ c, c < 12 → thr B c = true → -100 ≤ a c ∧ a c ≤ 100 ∧ -100 ≤ b c ∧ b c ≤ 100) : -1200 ≤ mkW B s w a b ∧ mkW B s w a b ≤ 1200 := by
  have := fb_si_bound (f := fun d => if d = w then 0 else tl B s a b d) (c := 100) (by decide) (n := 12) (fun k hk => by
    show -100 ≤ (if k = w then 0 else tl B s a b k) ∧ (if k = w then 0 else tl B s a b k) ≤ 100
    by_cases e : k = w
    · rw [if_pos e]; omega
    rw [if_neg e]
    unfold tl
    by_cases t : thr B k = true
    · have := h k hk t
      rw [if_pos t]
      by_cases p : pb B s k = true
      · rw [if_pos p]; omega
      · rw [if_neg p]
        by_cases l : lb B s k = true
        · rw [if_pos l]; omega
        · rw [if_neg l]; omega
    · rw [if_neg t]; omega)
  unfold mkW
  omega
def rngB (B : Bk) (lo hi : Nat → Int) : Prop := ∀ c, c < 12 → thr B c = true → -100 ≤ lo c ∧ lo c ≤ 100 ∧ -100 ≤ hi c ∧ hi c ≤ 100
theorem rngB_s (h : rngB B lo hi) : rngB B hi lo := fun c hc tc => by
  have := h c hc tc
  omega
theorem Y_in {x a b : Int} (S : St) (x0 : -2147483648 ≤ x) (x1 : x < 2147483648) (a0 : -2147483648 ≤ a) (a1 : a < 2147483648) (b0 : -2147483648 ≤ b) (b1 : b < 2147483648) : ∃ r, fYs_in S (iI x) (iI a) (iI b) = some (bI r) ∧ (r = true ↔ a ≤ x ∧ x ≤ b) := by
  rw [Yin]
  refine ⟨decide (iI a ≤ iI x ∧ iI x ≤ iI b), ?_, ?_⟩
  · by_cases q : iI a ≤ iI x ∧ iI x ≤ iI b
    · rw [if_pos q, decide_eq_true q]; rfl
    · rw [if_neg q, decide_eq_false q]; rfl
  · rw [decide_eq_true_iff, iI_le a0 a1 x0 x1, iI_le x0 x1 b0 b1]
theorem Y_canSum {N : Nat} (hN : 12 < N) (ok : okB B) (bY : BY Y B) (ey : ENY Y B lo hi) (rb : rngB B lo hi) {s c v : Nat} (hs : s < sn B) (hc : c < 12) (hv : v < 100) : ∃ r, fY0_canSum N Y (nI s) (nI c) (nI v) = some (bI r) ∧ (r = true ↔ cs B s lo hi c v) := by
  have h8 := ok.2.2.2.1
  have b3 := ok.2.2.2.2 s hs
  have b1 := mkW_b (s := s) (w := c) rb
  have b2 := mkW_b (s := s) (w := c) (rngB_s rb)
  have yb := Y_bits ok bY hs hc
  have ym := Y_mkW hN ok bY ey hs hc
  have et : (Y.1 15 s - (if pb B s c = true then nI v else -nI v)) = iI (tt B s - (if pb B s c = true then (v : Int) else -v)) := by
    rw [(bY.2.2.2.2 s hs).2.2, iI_nat, iI_neg]
    split <;> rw [iI_sub]
  have bd : -10200 ≤ tt B s - (if pb B s c = true then (v : Int) else -v) ∧ tt B s - (if pb B s c = true then (v : Int) else -v) ≤ 10200 := by
    split <;> omega
  obtain ⟨r, e1, e2⟩ := Y_in (x := tt B s - (if pb B s c = true then (v : Int) else -v)) (a := mkW B s c lo hi) (b := mkW B s c hi lo) Y (by omega) (by omega) (by omega) (by omega) (by omega) (by omega)
  refine ⟨r, ?_, e2⟩
  unfold fY0_canSum
  have e4 : (if pb B s c = true then some (nI v) else some (-nI v)) = some (if pb B s c = true then nI v else -nI v) := by split <;> rfl
  rw [inb_nI (show s < 8 by omega) (by decide), gd_true, gd_true, cl (show s < 2 ^ 31 by omega), yb.1, bs, if_bI0, e4, bs, nx_eq, ym.1, bs, ym.2, bs, et, e1, bs, bI_isb, gd_true]
end OC
