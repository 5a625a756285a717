/-! book -/
theorem cmp2 : ∀ h, h < 64 → ∀ l, l < 64 → nI 4095 &&& (nI (64 * h + l) ^^^ -1) = nI (4095 ^^^ (64 * h + l)) := by decide +kernel
theorem cmpl (s : Nat) (hs : s < 4096) : nI 4095 &&& (nI s ^^^ -1) = nI (4095 ^^^ s) := by
  have := cmp2 (s / 64) (by omega) (s % 64) (by omega)
  rw [show 64 * (s / 64) + s % 64 = s by omega] at this
  exact this
theorem and_not {m s : Nat} (hm : m < 4096) (hs : s < 4096) : nI m &&& (nI s ^^^ -1) = nI (m &&& (4095 ^^^ s)) := by
  have e : nI m = nI m &&& nI 4095 := by
    rw [fa_and]
    congr 1
    rw [show (4095 : Nat) = 2 ^ 12 - 1 from rfl, Nat.and_two_pow_sub_one_eq_mod, Nat.mod_eq_of_lt hm]
  rw [e, Int32.and_assoc, cmpl s hs, ← fa_and]
theorem tb_4095 : ∀ j, j < 12 → (4095 : Nat).testBit j = true := by decide
theorem tb_not {m s j : Nat} (hj : j < 12) : (m &&& (4095 ^^^ s)).testBit j = (m.testBit j && !s.testBit j) := by
  rw [Nat.testBit_and, Nat.testBit_xor, tb_4095 j hj, Bool.true_xor]
theorem and_lt {m s : Nat} (hm : m < 4096) : m &&& s < 4096 := Nat.lt_of_le_of_lt Nat.and_le_left hm
section PG
variable {S S' Y Y' : St} {B : Bk}
theorem X_write {N : Nat} (hN : 61 < N) (bx : BX S B) (f : Nat → Nat × Nat × Nat) (hf : ∀ c, c < 12 → cellOK c (f c).1 (f c).2.1 (f c).2.2) (hX : ∀ c, c < 12 → cX (S.1 18 c) (S.1 19 c) (S.1 20 c) (f c).1 (f c).2.1 (f c).2.2) : ∃ S', fX17_writeTo N S = some S' ∧ BX S' (f, B.2) := by
  obtain ⟨m0, hm0, e0, b0⟩ := bx.2.1
  obtain ⟨T, eT, ⟨m, hm, em, bm⟩, t1, t2⟩ := loop_up (fun q st x => fX17_writeTo_L2 N q st x) 12
    (fun i st => (∃ m, m < 4096 ∧ st.1 25 4 = nI m ∧ ∀ c, c < i → m.testBit c = decide ((f c).1 ≠ 6)) ∧ (∀ c, c < i → st.1 26 c = S.1 18 c ∧ st.1 27 c = S.1 19 c ∧ st.1 28 c = S.1 20 c) ∧ ∀ k q, k ≠ 26 → k ≠ 27 → k ≠ 28 → ¬ (k = 25 ∧ q = 4) → st.1 k q = S.1 k q)
    (fun st => (∃ m, m < 4096 ∧ st.1 25 4 = nI m ∧ ∀ c, c < 12 → m.testBit c = decide ((f c).1 ≠ 6)) ∧ (∀ c, c < 12 → st.1 26 c = S.1 18 c ∧ st.1 27 c = S.1 19 c ∧ st.1 28 c = S.1 20 c) ∧ ∀ k q, k ≠ 26 → k ≠ 27 → k ≠ 28 → ¬ (k = 25 ∧ q = 4) → st.1 k q = S.1 k q)
    (fun q st hI => ⟨st, by
      show fX17_writeTo_L2 N (q + 1) st (nI 12) = _
      rw [fX17_writeTo_L2, if_pos (by decide)], hI⟩)
    (fun q i st hi hI => by
      right
      obtain ⟨⟨m, hm, em, bm⟩, g1, g2⟩ := hI
      show ∃ s', _ ∧ fX17_writeTo_L2 N (q + 1) st (nI i) = fX17_writeTo_L2 N q s' (nI (i + 1))
      have ib := inb_nI hi (show 12 < 2 ^ 31 by decide)
      have ei : Int32.toNatClampNeg (nI i) = i := cl (by omega)
      have e25 : (p1 (p1 (p1 st 26 i (S.1 18 i)) 27 i (S.1 19 i)) 28 i (S.1 20 i)).1 25 4 = nI m := by
        rw [p1_ne (by decide), p1_ne (by decide), p1_ne (by decide), em]
      have p12 := pw12 i hi
      have key : ∃ m', m' < 4096 ∧ (if S.1 18 i = -1 then some (nI m &&& ((1 <<< (nI i &&& 31)) ^^^ -1)) else some (nI m ||| (1 <<< (nI i &&& 31)))) = some (nI m') ∧ ∀ c, c < i + 1 → m'.testBit c = decide ((f c).1 ≠ 6) := by
        rw [sh1 i hi]
        rcases hX i hi with ⟨q1, q2⟩ | ⟨q1, q2, _⟩
        · rw [if_pos q2, and_not hm p12]
          refine ⟨_, and_lt hm, rfl, fun c hc => ?_⟩
          rw [tb_not (by omega), Nat.testBit_two_pow]
          by_cases e : i = c
          · subst e
            rw [decide_eq_true rfl, decide_eq_false (fun z => z q1)]
            exact Bool.and_false _
          · rw [decide_eq_false e, bm c (by omega)]
            exact Bool.and_true _
        · rw [if_neg (by rw [q2]; exact nI_m1 (by omega)), fa_or]
          refine ⟨_, Nat.or_lt_two_pow (n := 12) hm p12, rfl, fun c hc => ?_⟩
          rw [Nat.testBit_or, Nat.testBit_two_pow]
          by_cases e : i = c
          · subst e
            rw [decide_eq_true rfl, decide_eq_true (show (f i).1 ≠ 6 by omega), Bool.or_true]
          · rw [decide_eq_false e, bm c (by omega), Bool.or_false]
      obtain ⟨m', hm', em', bm'⟩ := key
      rw [fX17_writeTo_L2, if_neg (show ¬ (12 : Int32) ≤ nI i from nI_ge hi (by decide)), ib, gd_true, gd_true, gd_true, ei, g2 18 i (by decide) (by decide) (by decide) (by omega), g2 19 i (by decide) (by decide) (by decide) (by omega), g2 20 i (by decide) (by decide) (by decide) (by omega), fX25_write, ib, gd_true, nx_eq, gd_true, nx_eq, gd_true, nx_eq, ei, e25, em', bs, nx_eq, bs, nI_1]
      refine ⟨_, ⟨⟨m', hm', by rw [p1_eq], bm'⟩, fun c hc => ?_, fun k q h1 h2 h3 h4 => ?_⟩, rfl⟩
      · by_cases e : c = i
        · subst e
          rw [p1_ne (by decide), p1_ne (by decide), p1_ne (by decide), p1_eq, p1_ne (by decide), p1_ne (by decide), p1_eq, p1_ne (by decide), p1_eq]
          exact ⟨rfl, rfl, rfl⟩
        · rw [p1_ne (by decide), p1_ne (by decide), p1_ne (by decide), p1_ni e, p1_ne (by decide), p1_ne (by decide), p1_ni e, p1_ne (by decide), p1_ne (by decide), p1_ni e, p1_ne (by decide), p1_ne (by decide)]
          exact g1 c (by omega)
      · rw [p1_at, if_neg h4, p1_ne h3, p1_ne h2, p1_ne h1]; exact g2 k q h1 h2 h3 h4)
    N 0 S (by omega) (by omega) ⟨⟨m0, hm0, e0, fun c hc => by omega⟩, fun c hc => by omega, fun _ _ _ _ _ _ => rfl⟩
  have eT2 : fX17_writeTo_L2 N N S 0 = some T := eT
  refine ⟨T, by rw [fX17_writeTo, eT2, bs], fun c hc => ?_, ⟨m, hm, em, bm⟩, ?_, fun i hi => ?_, fun v hv => ?_, ?_, fun s hs => ?_⟩
  · obtain ⟨a1, a2, a3⟩ := t1 c hc
    rw [a1, a2, a3]; exact hX c hc
  · rw [t2 22 2 (by decide) (by decide) (by decide) (by omega)]; exact bx.2.2.1
  · rw [t2 23 i (by decide) (by decide) (by decide) (by omega)]; exact bx.2.2.2.1 i hi
  · rw [t2 24 v (by decide) (by decide) (by decide) (by omega)]; exact bx.2.2.2.2.1 v hv
  · rw [t2 29 4 (by decide) (by decide) (by decide) (by omega)]; exact bx.2.2.2.2.2.1
  · rw [t2 30 s (by decide) (by decide) (by decide) (by omega), t2 31 s (by decide) (by decide) (by decide) (by omega), t2 32 s (by decide) (by decide) (by decide) (by omega)]; exact bx.2.2.2.2.2.2 s hs
theorem Y_write {N : Nat} (hN : 61 < N) (bY : BY Y B) (f : Nat → Nat × Nat × Nat) (hY : ∀ c, c < 12 → cY (Y.1 7 c) (Y.1 8 c) (Y.1 9 c) (f c).1 (f c).2.1 (f c).2.2) : ∃ Y', fY0_book_L27 N N Y 0 = some Y' ∧ BY Y' (f, B.2) ∧ ∀ k q, k ≠ 10 → k ≠ 11 → k ≠ 12 → Y'.1 k q = Y.1 k q := by
  obtain ⟨T, eT, t1, t2⟩ := loop_up (fun q st x => fY0_book_L27 N q st x) 12
    (fun i st => (∀ c, c < i → st.1 10 c = Y.1 7 c ∧ st.1 11 c = Y.1 8 c ∧ st.1 12 c = Y.1 9 c) ∧ ∀ k q, k ≠ 10 → k ≠ 11 → k ≠ 12 → st.1 k q = Y.1 k q)
    (fun st => (∀ c, c < 12 → st.1 10 c = Y.1 7 c ∧ st.1 11 c = Y.1 8 c ∧ st.1 12 c = Y.1 9 c) ∧ ∀ k q, k ≠ 10 → k ≠ 11 → k ≠ 12 → st.1 k q = Y.1 k q)
    (fun q st hI => ⟨st, by
      show fY0_book_L27 N (q + 1) st (nI 12) = _
      rw [fY0_book_L27, if_pos (by decide)], hI⟩)
    (fun q i st hi hI => by
      right
      obtain ⟨g1, g2⟩ := hI
      show ∃ s', _ ∧ fY0_book_L27 N (q + 1) st (nI i) = fY0_book_L27 N q s' (nI (i + 1))
      have ib := inb_nI hi (show 12 < 2 ^ 31 by decide)
      have ei : Int32.toNatClampNeg (nI i) = i := cl (by omega)
      have e8 : (p1 st 10 i (Y.1 7 i)).1 8 i = Y.1 8 i := by rw [p1_ne (by decide)]; exact g2 8 i (by decide) (by decide) (by decide)
      have e9 : (p1 (p1 st 10 i (Y.1 7 i)) 11 i (Y.1 8 i)).1 9 i = Y.1 9 i := by rw [p1_ne (by decide), p1_ne (by decide)]; exact g2 9 i (by decide) (by decide) (by decide)
      rw [fY0_book_L27, if_neg (show ¬ (12 : Int32) ≤ nI i from nI_ge hi (by decide)), ib, gd_true, gd_true, nx_eq, gd_true, gd_true, nx_eq, gd_true, gd_true, nx_eq, ei, g2 7 i (by decide) (by decide) (by decide), e8, e9, nI_1]
      refine ⟨_, ⟨fun c hc => ?_, fun k q h1 h2 h3 => ?_⟩, rfl⟩
      · by_cases e : c = i
        · subst e
          rw [p1_ne (by decide), p1_ne (by decide), p1_eq, p1_ne (by decide), p1_eq, p1_eq]
          exact ⟨rfl, rfl, rfl⟩
        · rw [p1_ne (by decide), p1_ne (by decide), p1_ni e, p1_ne (by decide), p1_ni e, p1_ne (by decide), p1_ni e, p1_ne (by decide), p1_ne (by decide)]
          exact g1 c (by omega)
      · rw [p1_ne h3, p1_ne h2, p1_ne h1]; exact g2 k q h1 h2 h3)
    N 0 Y (by omega) (by omega) ⟨fun c hc => by omega, fun _ _ _ _ _ => rfl⟩
  refine ⟨T, eT, ⟨fun c hc => ?_, ?_, fun i hi => ?_, ?_, fun s hs => ?_⟩, t2⟩
  · obtain ⟨a1, a2, a3⟩ := t1 c hc
    rw [a1, a2, a3]; exact hY c hc
  · rw [t2 0 22 (by decide) (by decide) (by decide)]; exact bY.2.1
  · rw [t2 16 i (by decide) (by decide) (by decide)]; exact bY.2.2.1 i hi
  · rw [t2 0 18 (by decide) (by decide) (by decide)]; exact bY.2.2.2.1
  · rw [t2 13 s (by decide) (by decide) (by decide), t2 14 s (by decide) (by decide) (by decide), t2 15 s (by decide) (by decide) (by decide)]; exact bY.2.2.2.2 s hs
theorem op19_book {N : Nat} (hN : 200 < N) : op_book N RR := by
  intro S Y a1 h
  unfold fX0_book fY0_book
  rcases refText h a1 with ⟨v, S', Y', e1, e2, hv, hR'⟩ | ⟨t, n, ht, rfl, hn, g1, g2, g3, e1, e2⟩
  · rw [e1, e2, bs, bs]
    dsimp only
    rw [if_neg (neg0 hv), if_neg (negle hv)]
    exact ⟨v, S', Y', rfl, rfl, hR'⟩
  obtain ⟨v, S', Y', f1, f2, hv⟩ := fault_R hN h ht hn g1 g2 g3
  have R1 : RR S' Y' := RR_ag h (agr_of (frX17_findFault f1) (by decide) (by decide) (by decide)) (agr_of (frY0_reads f2) (by decide) (by decide) (by decide))
  rw [e1, e2, bs, bs]
  dsimp only
  rw [if_pos rfl, if_pos (show (0 : Int32) ≤ 0 by decide), f1, f2, bs, bs]
  dsimp only
  rcases hv with ⟨rfl, dr⟩ | hv
  rotate_left
  · rw [if_neg hv, if_neg hv]
    exact ⟨-4, S', Y', rfl, rfl, R1⟩
  rw [if_pos rfl, if_pos rfl]
  obtain ⟨B, ok, bx, bY⟩ := R1.2.2.2
  obtain ⟨f, hf⟩ := Classical.axiomOfChoice (r := fun (c : Nat) (x : Nat × Nat × Nat) => c < 12 → cellOK c x.1 x.2.1 x.2.2 ∧ cX (S'.1 18 c) (S'.1 19 c) (S'.1 20 c) x.1 x.2.1 x.2.2 ∧ cY (Y'.1 7 c) (Y'.1 8 c) (Y'.1 9 c) x.1 x.2.1 x.2.2) (fun c => by
    by_cases hc : c < 12
    · obtain ⟨x, hx⟩ := dr c hc
      exact ⟨x, fun _ => hx⟩
    · exact ⟨(0, 0, 0), fun q => absurd q hc⟩)
  obtain ⟨S2, w1, b1⟩ := X_write (N := N) (by omega) bx f (fun c hc => (hf c hc).1) (fun c hc => (hf c hc).2.1)
  obtain ⟨Y2, w2, b2, o2⟩ := Y_write (N := N) (by omega) bY f (fun c hc => (hf c hc).2.2)
  have agy : agr arY1 fiY1 loY Y' Y2 := by
    refine ⟨fun k hk => funext fun q => ?_, fun k i hk => ?_, fun k i hk => (frY0_book_L27 N Y' 0 w2).2 k i (by simp [mL_Y0_book])⟩
    · have : ∀ k ∈ arY1, k ≠ 10 ∧ k ≠ 11 ∧ k ≠ 12 := by decide
      have z := this k hk
      exact o2 k q z.1 z.2.1 z.2.2
    · have : ∀ p ∈ fiY1, p.1 ≠ 10 ∧ p.1 ≠ 11 ∧ p.1 ≠ 12 := by decide
      have z := this _ hk
      exact o2 k i z.1 z.2.1 z.2.2
  rw [w1, w2, bs, bs, X25_many b1, Y_cells (by omega) b2, bs, bs]
  refine ⟨_, S2, Y2, rfl, rfl, RR_newB R1 (agr_of (frX17_writeTo w1) (by decide) (by decide) (by decide)) agy ⟨(f, B.2), ⟨fun c hc => (hf c hc).1, ok.2.1, ok.2.2.1, ok.2.2.2.1, ok.2.2.2.2⟩, b1, b2⟩⟩
end PG
