/-! there: what is counted -/
theorem count_up (F : Nat → Int32 → Int32 → Option Int32) (e : Nat) (p : Nat → Bool) (hx : ∀ n x, F (n + 1) x (nI e) = some x) (hs : ∀ n x i, i < e → F (n + 1) x (nI i) = F n (x + (if p i = true then 1 else 0)) (nI (i + 1))) : ∀ n i k, i ≤ e → e < i + n → F n (nI k) (nI i) = some (nI (k + (fb_ct p e - fb_ct p i)))
  | 0, i, k, h1, h2 => by omega
  | n + 1, i, k, h1, h2 => by
    by_cases he : i = e
    · subst he
      rw [hx, Nat.sub_self]; rfl
    · have m1 := fb_ct_mono p (show i + 1 ≤ e by omega)
      rw [hs n _ i (by omega)]
      have es := fb_ct_succ p i
      by_cases hp : p i = true
      · rw [if_pos hp] at es ⊢
        rw [nI_1, count_up F e p hx hs n (i + 1) (k + 1) (by omega) (by omega)]
        congr 2
        omega
      · rw [if_neg hp] at es ⊢
        rw [show nI k + 0 = nI (k + 0) from nI_add k 0, count_up F e p hx hs n (i + 1) (k + 0) (by omega) (by omega)]
        congr 2
        omega
theorem count_0 (F : Nat → Int32 → Int32 → Option Int32) (e : Nat) (p : Nat → Bool) (hx : ∀ n x, F (n + 1) x (nI e) = some x) (hs : ∀ n x i, i < e → F (n + 1) x (nI i) = F n (x + (if p i = true then 1 else 0)) (nI (i + 1))) {N : Nat} (hN : e < N) (k : Nat) : F N (nI k) 0 = some (nI (k + fb_ct p e)) := by
  have := count_up F e p hx hs N 0 k (by omega) (by omega)
  rw [show fb_ct p e - fb_ct p 0 = fb_ct p e from Nat.sub_zero _] at this
  exact this
theorem ge_n {n : Nat} (h : n < 2 ^ 31) : nI n ≤ nI n := (nI_leI h h).mpr (Nat.le_refl n)
def bcI (x0 : Int32) : Int32 :=
  let y1 := x0 - (((Int32.toUInt32 x0 >>> (Int32.toUInt32 1 &&& Int32.toUInt32 31)).toInt32) &&& 1431655765)
  let y3 := (y1 &&& 858993459) + (((Int32.toUInt32 y1 >>> (Int32.toUInt32 2 &&& Int32.toUInt32 31)).toInt32) &&& 858993459)
  let y5 := (y3 + ((Int32.toUInt32 y3 >>> (Int32.toUInt32 4 &&& Int32.toUInt32 31)).toInt32)) &&& 252645135
  let y7 := y5 + ((Int32.toUInt32 y5 >>> (Int32.toUInt32 8 &&& Int32.toUInt32 31)).toInt32)
  let y9 := y7 + ((Int32.toUInt32 y7 >>> (Int32.toUInt32 16 &&& Int32.toUInt32 31)).toInt32)
  y9 &&& 63
theorem bc_e (S : St) (x : Int32) : fJs_bitCount S x = some (bcI x) := rfl
theorem bc_all2 : ∀ h, h < 64 → ∀ l, l < 64 → bcI (nI (64 * h + l)) = nI (fb_ct (fun i => (64 * h + l).testBit i) 12) := by decide +kernel
theorem bc_all (m : Nat) (hm : m < 4096) : bcI (nI m) = nI (fb_ct (fun i => m.testBit i) 12) := by
  have := bc_all2 (m / 64) (by omega) (m % 64) (by omega)
  rw [show 64 * (m / 64) + m % 64 = m by omega] at this
  exact this
section O6
variable {S S' Y Y' : St} {B : Bk}
/-- how many cells are there -/
def nth (B : Bk) : Nat := fb_ct (fun c => decide (kd B c ≠ 6)) 12
theorem X25_many (bx : BX S B) : fX25_howMany S = some (nI (nth B)) := by
  obtain ⟨m, hm, h1, h2⟩ := bx.2.1
  unfold fX25_howMany
  rw [bc_e, bs, h1, bc_all m hm]
  congr 2
  exact fb_ct_cong (fun c hc => h2 c hc)
theorem Y_cells {N : Nat} (hN : 12 < N) (bY : BY Y B) : fY0_cells N Y = some (nI (nth B)) := by
  unfold fY0_cells
  have e := count_0 (fun q x y => fY0_cells_L4 N Y q x y) 12 (fun c => decide (kd B c ≠ 6)) (fun n x => by
    show fY0_cells_L4 N Y (n + 1) x (nI 12) = _
    rw [fY0_cells_L4, if_pos (by decide)]) (fun n x i hi => by
    show fY0_cells_L4 N Y (n + 1) x (nI i) = fY0_cells_L4 N Y n _ (nI (i + 1))
    rw [fY0_cells_L4, if_neg (by rw [show (12 : Int32) = nI 12 from rfl, nI_leI (by omega) (by omega)]; omega), inb_nI hi (by decide), gd_true, cl (by omega), nI_1]
    rcases cY_k (bY.1 i hi) with ⟨h1, h2⟩ | ⟨h1, h2⟩
    · rw [h2, if_pos (by decide), bs, if_neg (by simp [h1])]
    · rw [h2, if_neg (nI_pos (by omega)), bs, if_pos (by simp; omega)]) hN 0
  have e2 : fY0_cells_L4 N Y N 0 0 = some (nI (0 + nth B)) := e
  rw [e2, bs, Nat.zero_add]
theorem X1_many {N : Nat} (hN : 12 < N) (S : St) : fX1_howMany N S = some (nI (fb_ct (fun r => !decide (S.1 9 r = -1)) 6)) := by
  unfold fX1_howMany
  have e := count_0 (fun q x y => fX1_howMany_L4 N S q x y) 6 (fun r => !decide (S.1 9 r = -1)) (fun n x => by
    show fX1_howMany_L4 N S (n + 1) x (nI 6) = _
    rw [fX1_howMany_L4, if_pos (by decide)]) (fun n x i hi => by
    show fX1_howMany_L4 N S (n + 1) x (nI i) = fX1_howMany_L4 N S n _ (nI (i + 1))
    rw [fX1_howMany_L4, if_neg (by rw [show (6 : Int32) = nI 6 from rfl, nI_leI (by omega) (by omega)]; omega), X1_thereE S hi, bs, nI_1]
    by_cases q : S.1 9 i = -1
    · rw [if_pos q, if_pos rfl, bs, if_neg (by simp [q])]
    · rw [if_neg q, if_neg ne10, bs, if_pos (by simp [q])]) (show 6 < N by omega) 0
  have e2 : fX1_howMany_L4 N S N 0 0 = some (nI (0 + _)) := e
  rw [e2, bs, Nat.zero_add]
theorem X10_thereE (S : St) {r : Nat} (hr : r < 4) : fX10_isThere S (nI r) = some (if S.1 16 r = -1 then 0 else 1) := by
  unfold fX10_isThere
  rw [inb_nI hr (by decide), gd_true, cl (by omega)]
  by_cases h : S.1 16 r = -1
  · rw [if_pos h, if_pos h]; rfl
  · rw [if_neg h, if_neg h]; rfl
theorem X10_many {N : Nat} (hN : 12 < N) (S : St) : fX10_howMany N S = some (nI (fb_ct (fun r => !decide (S.1 16 r = -1)) 4)) := by
  unfold fX10_howMany
  have e := count_0 (fun q x y => fX10_howMany_L4 N S q x y) 4 (fun r => !decide (S.1 16 r = -1)) (fun n x => by
    show fX10_howMany_L4 N S (n + 1) x (nI 4) = _
    rw [fX10_howMany_L4, if_pos (by decide)]) (fun n x i hi => by
    show fX10_howMany_L4 N S (n + 1) x (nI i) = fX10_howMany_L4 N S n _ (nI (i + 1))
    rw [fX10_howMany_L4, if_neg (by rw [show (4 : Int32) = nI 4 from rfl, nI_leI (by omega) (by omega)]; omega), X10_thereE S hi, bs, nI_1]
    by_cases q : S.1 16 i = -1
    · rw [if_pos q, if_pos rfl, bs, if_neg (by simp [q])]
    · rw [if_neg q, if_neg ne10, bs, if_pos (by simp [q])]) (show 4 < N by omega) 0
  have e2 : fX10_howMany_L4 N S N 0 0 = some (nI (0 + _)) := e
  rw [e2, bs, Nat.zero_add]
theorem Y_cnt1 {N : Nat} (hN : 12 < N) (Y : St) (x : Int32) : fY0_counts_L4 N Y x N 0 0 = some (nI (fb_ct (fun r => decide (x = 3) && !decide (Y.1 2 r < 0)) 6)) := by
  have e := count_0 (fun q z y => fY0_counts_L4 N Y x q z y) 6 (fun r => decide (x = 3) && !decide (Y.1 2 r < 0)) (fun n z => by
    show fY0_counts_L4 N Y x (n + 1) z (nI 6) = _
    rw [fY0_counts_L4, if_pos (by decide)]) (fun n z i hi => by
    show fY0_counts_L4 N Y x (n + 1) z (nI i) = fY0_counts_L4 N Y x n _ (nI (i + 1))
    rw [fY0_counts_L4, if_neg (by rw [show (6 : Int32) = nI 6 from rfl, nI_leI (by omega) (by omega)]; omega), inb_nI hi (by decide), gd_true, cl (by omega), nI_1]
    by_cases h3 : x = 3
    · rw [if_pos h3]
      by_cases q : Y.1 2 i < 0
      · rw [if_pos q, bs, if_neg (by simp [q])]
      · rw [if_neg q, bs, if_pos (by simp [q, h3])]
    · rw [if_neg h3, bs, if_neg (by simp [h3])]) (show 6 < N by omega) 0
  rw [Nat.zero_add] at e
  exact e
theorem Y_cnt2 {N : Nat} (hN : 12 < N) (Y : St) (x : Int32) (k : Nat) : fY0_counts_L40 N Y x N (nI k) 0 = some (nI (k + fb_ct (fun r => decide (x = 4) && !decide (Y.1 5 r < 0)) 4)) :=
  count_0 (fun q z y => fY0_counts_L40 N Y x q z y) 4 (fun r => decide (x = 4) && !decide (Y.1 5 r < 0)) (fun n z => by
    show fY0_counts_L40 N Y x (n + 1) z (nI 4) = _
    rw [fY0_counts_L40, if_pos (by decide)]) (fun n z i hi => by
    show fY0_counts_L40 N Y x (n + 1) z (nI i) = fY0_counts_L40 N Y x n _ (nI (i + 1))
    rw [fY0_counts_L40, if_neg (by rw [show (4 : Int32) = nI 4 from rfl, nI_leI (by omega) (by omega)]; omega), inb_nI hi (by decide), gd_true, cl (by omega), nI_1]
    by_cases h3 : x = 4
    · rw [if_pos h3]
      by_cases q : Y.1 5 i < 0
      · rw [if_pos q, bs, if_neg (by simp [q])]
      · rw [if_neg q, bs, if_pos (by simp [q, h3])]
    · rw [if_neg h3, bs, if_neg (by simp [h3])]) (show 4 < N by omega) k
theorem ct_f : ∀ n, fb_ct (fun _ => false) n = 0
  | 0 => rfl
  | n + 1 => by rw [fb_ct_succ, ct_f n]; rfl
/-- counts answers what there answers, for 0 .. 4 -/
theorem cnt_R {N : Nat} (hN : 12 < N) (h : RR S Y) (bx : BX S B) (bY : BY Y B) {w : Nat} (hw : w < 5) : ∃ v, fX0_there N S (nI w) = some v ∧ fY0_counts N Y (nI w) = some v := by
  have base : ∀ r, (Option.bind (α := Int32) (if nI w = 0 then Option.bind (fY0_cells N Y) fun t25 => some t25 else if nI w = 1 then some (Y.1 0 18) else if nI w = 2 then some (Y.1 0 22) else some (nI (fb_ct (fun r => decide (nI w = 3) && !decide (Y.1 2 r < 0)) 6 + fb_ct (fun r => decide (nI w = 4) && !decide (Y.1 5 r < 0)) 4))) fun t20 => some t20) = r → fY0_counts N Y (nI w) = r := by
    intro r hr
    rw [fY0_counts, Y_cnt1 hN, bs, Y_cnt2 hN, bs]
    exact hr
  rcases (show w = 0 ∨ w = 1 ∨ w = 2 ∨ w = 3 ∨ w = 4 by omega) with rfl | rfl | rfl | rfl | rfl
  · refine ⟨nI (nth B), ?_, base _ ?_⟩
    · rw [fX0_there, if_pos (by decide), X25_many bx]; rfl
    · rw [if_pos (by decide), Y_cells hN bY]; rfl
  · refine ⟨nI (sn B), ?_, base _ ?_⟩
    · rw [fX0_there, if_neg (by decide), if_pos (by decide), fX29_howMany, bx.2.2.2.2.2.1]; rfl
    · rw [if_neg (by decide), if_pos (by decide), bY.2.2.2.1]; rfl
  · refine ⟨nI (hn B), ?_, base _ ?_⟩
    · rw [fX0_there, if_neg (by decide), if_neg (by decide), if_pos (by decide), fX22_howMany, bx.2.2.1]; rfl
    · rw [if_neg (by decide), if_neg (by decide), if_pos (by decide), bY.2.1]; rfl
  · refine ⟨nI (fb_ct (fun r => !decide (S.1 9 r = -1)) 6), ?_, base _ ?_⟩
    · rw [fX0_there, if_neg (by decide), if_neg (by decide), if_neg (by decide), if_pos (by decide), X1_many hN]; rfl
    · rw [if_neg (by decide), if_neg (by decide), if_neg (by decide), bs]
      congr 2
      have e1 : fb_ct (fun r => decide (nI 3 = 4) && !decide (Y.1 5 r < 0)) 4 = 0 := by
        rw [fb_ct_zero]; intro k _; rfl
      rw [e1, Nat.add_zero]
      refine fb_ct_cong (fun r hr => ?_)
      rcases RR_size h hr with ⟨x1, y1⟩ | ⟨n, hn, x1, y1, _⟩
      · rw [x1, y1]; decide
      · rw [x1, y1]
        simp [nI_m1 (show n < 2 ^ 31 by omega), nI_pos (show n < 2 ^ 31 by omega)]
        rfl
  · refine ⟨nI (fb_ct (fun r => !decide (S.1 16 r = -1)) 4), ?_, base _ ?_⟩
    · rw [fX0_there, if_neg (by decide), if_neg (by decide), if_neg (by decide), if_neg (by decide), if_pos (by decide), X10_many hN]; rfl
    · rw [if_neg (by decide), if_neg (by decide), if_neg (by decide), bs]
      congr 2
      have e1 : fb_ct (fun r => decide (nI 4 = 3) && !decide (Y.1 2 r < 0)) 6 = 0 := by
        rw [fb_ct_zero]; intro k _; rfl
      rw [e1, Nat.zero_add]
      refine fb_ct_cong (fun r hr => ?_)
      rcases h.2.1.1 r hr with ⟨x1, y1⟩ | ⟨n, hn, x1, y1, _⟩
      · rw [x1, y1]; decide
      · rw [x1, y1]
        simp [nI_m1 (show n < 2 ^ 31 by omega), nI_pos (show n < 2 ^ 31 by omega)]
        rfl
theorem op6_there {N : Nat} (hN : 12 < N) : op_there N RR := by
  intro S Y a1 h
  obtain ⟨B, ok, bx, bY⟩ := h.2.2.2
  by_cases h1 : inb a1 5 = true
  · obtain ⟨w, hw, rfl⟩ := inb_ex h1 (by decide)
    obtain ⟨v, e1, e2⟩ := cnt_R hN h bx bY hw
    refine ⟨v, e1, ?_, h⟩
    rw [fY0_there, Yin0 Y _ (n := 5) (by decide) (by decide) (by decide), bs, if_pos h1, if_neg ne10, e2]; rfl
  · refine ⟨-1, ?_, ?_, h⟩
    · have ne : ∀ w, w < 5 → ¬ a1 = nI w := fun w hw e => h1 (by rw [e]; exact inb_nI hw (by decide))
      rw [fX0_there, if_neg (show ¬ a1 = 0 from ne 0 (by decide)), if_neg (show ¬ a1 = 1 from ne 1 (by decide)), if_neg (show ¬ a1 = 2 from ne 2 (by decide)), if_neg (show ¬ a1 = 3 from ne 3 (by decide)), if_neg (show ¬ a1 = 4 from ne 4 (by decide))]
    · rw [fY0_there, Yin0 Y _ (n := 5) (by decide) (by decide) (by decide), bs, if_neg h1, if_pos rfl]; rfl
end O6
