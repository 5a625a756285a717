/-! fault and book -/
def DR (S Y : St) : Prop := ∀ c, c < 12 → ∃ x : Nat × Nat × Nat, cellOK c x.1 x.2.1 x.2.2 ∧ cX (S.1 18 c) (S.1 19 c) (S.1 20 c) x.1 x.2.1 x.2.2 ∧ cY (Y.1 7 c) (Y.1 8 c) (Y.1 9 c) x.1 x.2.1 x.2.2
section PF
variable {S S' Y Y' : St} {t n p c : Nat} {tx : Nat → Int32} {st : Bool}
theorem X_skipS {N : Nat} (hN : 61 < N) (h : TX S t n tx p true) : fX17_skipBlanks N S = some S := by
  obtain ⟨M, rfl⟩ : ∃ M, N = M + 1 := ⟨N - 1, by omega⟩
  rw [fX17_skipBlanks, fX17_skipBlanks_L0, h.2.2.2.1, if_neg (by decide), bs]
theorem X_skip {N : Nat} (hN : 100 < N) (h : TX S t n tx p false) : ∃ S' q, fX17_skipBlanks N S = some S' ∧ mv S S' ∧ TX S' t n tx q false ∧ p ≤ q ∧ (q ≤ n ∨ q = p) ∧ (∀ i, p ≤ i → i < q → isC n tx i 32 = true) ∧ isC n tx q 32 = false := by
  have n6 := h.2.2.2.2.2.1
  obtain ⟨S', e, q, h1, h2, h3, h4, h5, h6⟩ := loop_me (fun k (s : St × Nat) => fX17_skipBlanks_L0 N k s.1)
    (fun s => mv S s.1 ∧ TX s.1 t n tx s.2 false ∧ p ≤ s.2 ∧ (s.2 ≤ n ∨ s.2 = p) ∧ ∀ i, p ≤ i → i < s.2 → isC n tx i 32 = true)
    (fun s => n - s.2)
    (fun S' => ∃ q, mv S S' ∧ TX S' t n tx q false ∧ p ≤ q ∧ (q ≤ n ∨ q = p) ∧ (∀ i, p ≤ i → i < q → isC n tx i 32 = true) ∧ isC n tx q 32 = false)
    (fun k s hI => by
      obtain ⟨T, q⟩ := s
      obtain ⟨m1, t1, g1, g2, g3⟩ := hI
      dsimp only at m1 t1 g1 g2 g3 ⊢
      have qb := t1.2.2.2.2.2.2.1
      rw [fX17_skipBlanks_L0, t1.2.2.2.1, if_pos bI_f, t1.2.1, t1.2.2.1]
      by_cases z : q < n
      · rw [if_neg (nI_ge z (by omega)), X_sgn t1, bs, sg_is (by decide), nx_eq, nI_1]
        cases hb : isC n tx q 32
        · left
          rw [if_neg (show ¬ (false = true) by decide)]
          exact ⟨T, rfl, q, m1, t1, g1, g2, g3, hb⟩
        · right
          rw [if_pos rfl]
          refine ⟨(p1 T 17 5 (nI (q + 1)), q + 1), ⟨mv_trans m1 mv_5, TX_5 t1 (by omega), show p ≤ q + 1 by omega, Or.inl (show q + 1 ≤ n by omega), fun i h1 (h2 : i < q + 1) => ?_⟩, show n - (q + 1) < n - q by omega, rfl⟩
          by_cases e : i = q
          · rw [e]; exact hb
          · exact g3 i h1 (by omega)
      · left
        rw [if_pos (nI_le (by omega) (by omega))]
        refine ⟨T, rfl, q, m1, t1, g1, g2, g3, ?_⟩
        unfold isC
        rw [decide_eq_false z]; rfl)
    N (S, p) (by show n - p < N; omega) ⟨mv_refl, h, Nat.le_refl p, Or.inr rfl, fun i h1 h2 => absurd h2 (show ¬ i < p by omega)⟩
  have e2 : fX17_skipBlanks_L0 N N S = some S' := e
  exact ⟨S', q, by rw [fX17_skipBlanks, e2, bs], h1, h2, h3, h4, h5, h6⟩
theorem Y_skip {N : Nat} {q : Nat} : ∀ d Y p f, p + d = q → TY Y t n tx p → (∀ i, p ≤ i → i < q → isC n tx i 32 = true) → d < f → ∃ Y', fY0_reads_L27 N (nI t) f Y = fY0_reads_L27 N (nI t) (f - d) Y' ∧ mvY Y Y' ∧ TY Y' t n tx q
  | 0, Y, p, f, h1, h, _, _ => by
    have : p = q := by omega
    subst this
    exact ⟨Y, rfl, mvY_refl, h⟩
  | d + 1, Y, p, 0, _, _, _, h4 => by omega
  | d + 1, Y, p, f + 1, h1, h, hb, h4 => by
    have b := hb p (Nat.le_refl p) (by omega)
    have pl := is_lt b
    have n6 := h.2.2.2.1
    have t4 := h.2.2.1
    have t1 : TY (p1 Y 0 13 (nI (p + 1))) t n tx (p + 1) := TY_mv h (mvY_0 mvY_13) (by rw [p1_eq]) (by omega)
    obtain ⟨Y', e, m, tt⟩ := Y_skip (N := N) d _ (p + 1) f (by omega) t1 (fun i h1 h2 => hb i (by omega) h2) (by omega)
    rw [fY0_reads_L27, inb_nI t4 (by decide), gd_true, cl (show t < 2 ^ 31 by omega), h.1, h.2.1, if_neg (nI_ge pl (by omega)), Y_here h, bs, sg_is (by decide), b, if_pos rfl, nx_eq, nI_1, e]
    refine ⟨Y', ?_, fun k i hk => (m k i hk).trans (mvY_13 k i hk), tt⟩
    rw [show f + 1 - (d + 1) = f - d by omega]
theorem DR_mv (h : DR S Y) (m : ∀ k q, 18 ≤ k → k ≤ 20 → S'.1 k q = S.1 k q) (m2 : ∀ k q, 7 ≤ k → k ≤ 9 → Y'.1 k q = Y.1 k q) : DR S' Y' := fun c hc => by
  obtain ⟨x, h1, h2, h3⟩ := h c hc
  refine ⟨x, h1, ?_, ?_⟩
  · rw [m 18 c (by decide) (by decide), m 19 c (by decide) (by decide), m 20 c (by decide) (by decide)]; exact h2
  · rw [m2 7 c (by decide) (by decide), m2 8 c (by decide) (by decide), m2 9 c (by decide) (by decide)]; exact h3
theorem read_R {N : Nat} (hN : 200 < N) : ∀ m p x3 fx fy S Y, n - p ≤ m → TX S t n tx p false → TY Y t n tx p → DR S Y → x3 ≤ p → n - p < fx → n - p + 1 < fy → ∃ S', (Option.bind (fX17_skipBlanks N S) fun t19 => fX17_findFault_L55 N fx t19 (nI x3)) = some S' ∧ ((∃ q Y', S'.1 17 6 = 1 ∧ S'.1 17 5 = nI q ∧ q < 200 ∧ fY0_reads_L27 N (nI t) fy Y = some (.inl (nI q, Y'))) ∨ ∃ Y', S'.1 17 6 = 0 ∧ fY0_reads_L27 N (nI t) fy Y = some (.inr Y') ∧ DR S' Y')
  | m, p, x3, 0, fy, S, Y, _, _, _, _, _, h7, _ => by omega
  | m, p, x3, fx + 1, fy, S, Y, h1, tX, tY, dr, h5, h7, h8 => by
    obtain ⟨S1, q, e1, m1, t1, g1, g2, g3, g4⟩ := X_skip (N := N) (by omega) tX
    have n6 := tX.2.2.2.2.2.1
    have t4 := tX.2.2.2.2.1
    obtain ⟨Y1, f1, mY, s1⟩ := Y_skip (N := N) (q := q) (q - p) Y p fy (by omega) tY g3 (by omega)
    have qb := t1.2.2.2.2.2.2.1
    rw [e1, bs, f1]
    obtain ⟨fy', hfy⟩ : ∃ k, fy - (q - p) = k + 1 := ⟨fy - (q - p) - 1, by omega⟩
    rw [hfy, fX17_findFault_L55, fY0_reads_L27, inb_nI t4 (by decide), gd_true, cl (show t < 2 ^ 31 by omega), s1.1, s1.2.1, t1.2.2.2.1, if_pos bI_f, t1.2.1, t1.2.2.1]
    by_cases z : q < n
    rotate_left
    · have le : nI n ≤ nI q := nI_le (by omega) (by omega)
      rw [if_pos le, if_pos le]
      refine ⟨S1, ?_, Or.inr ⟨Y1, t1.2.2.2.1, rfl, DR_mv dr (fun k q h1 h2 => m1.1 k q (by omega)) (fun k q h1 h2 => mY k q (by omega))⟩⟩
      split <;> rfl
    have nle : ¬ nI n ≤ nI q := nI_ge z (by omega)
    rw [if_neg (show ¬ (60 : Int32) ≤ nI x3 from nI_ge (b := 60) (by omega) (by decide)), if_neg nle, if_neg nle, Y_here s1, bs, sg_is (by decide), g4, if_neg (show ¬ (false = true) by decide), bs, Y_let s1, bs, if_bI0]
    have after : ∀ {T : St} {r : Nat}, TX T t n tx r true → (Option.bind (fX17_skipBlanks N T) fun t26 => fX17_findFault_L55 N fx t26 (nI x3 + 1)) = some T := fun {T r} hT => by
      obtain ⟨k, hk⟩ : ∃ k, fx = k + 1 := ⟨fx - 1, by omega⟩
      rw [X_skipS (by omega) hT, bs, hk, fX17_findFault_L55, hT.2.2.2.1, if_neg (show ¬ bI true = 0 by decide)]
      split <;> rfl
    cases hl : letC n tx q
    · rw [if_neg (show ¬ (false = true) by decide)]
      obtain ⟨S2, v2, e2, m2, t2, _⟩ := X_let t1 (by omega)
      rw [hl, if_neg (show ¬ (false = true) by decide)] at t2
      have ei : fX17_readItem S1 = some S2 := by
        rw [fX17_readItem, e2, bs]
        dsimp only
        rw [t2.2.2.2.1, if_neg (by decide)]
      rw [ei, bs, after t2]
      exact ⟨S2, rfl, Or.inl ⟨q, Y1, t2.2.2.2.1, t2.2.2.1, qb, rfl⟩⟩
    obtain ⟨S2, e2, m2, t2, w2⟩ := X_item t1 (by omega) hl
    obtain ⟨_, lc1, lc2⟩ := let_e hl
    have s2 : TY (p1 Y1 0 13 (nI (q + 1))) t n tx (q + 1) := TY_mv s1 (mvY_0 mvY_13) (by rw [p1_eq]) (by omega)
    obtain ⟨Y3, f3, m3, s3, w3⟩ := Y_item (N := N) (by omega) s2 (by omega) lc2
    have ip := itm_p n tx (q + 1) (ceC tx q)
    rw [if_pos rfl, bs, nx_eq, if_pos z, lc1, nI_1 q, f3, bs, e2, bs]
    dsimp only
    cases ok : (itmR n tx (q + 1) (ceC tx q)).1
    · rw [ok] at t2
      rw [if_neg (show ¬ (false = true) by decide), if_neg (by decide), after t2]
      exact ⟨S2, rfl, Or.inl ⟨_, Y3, t2.2.2.2.1, t2.2.2.1, t2.2.2.2.2.2.2.1, by rw [s3.2.1]⟩⟩
    · obtain ⟨k6, cok⟩ := ip.2.2 ok
      have w2 := w2 ok
      have w3 := w3 ok
      rw [ok] at t2
      generalize (itmR n tx (q + 1) (ceC tx q)).2.2.1 = kk at *
      generalize (itmR n tx (q + 1) (ceC tx q)).2.2.2.1 = aa at *
      generalize (itmR n tx (q + 1) (ceC tx q)).2.2.2.2 = bb at *
      rw [if_pos rfl, if_pos (show (0 : Int32) ≤ nI kk from nI_le (Nat.zero_le _) (by omega)), inb_nI lc2 (by decide), gd_true, nx_eq, cl (show ceC tx q < 2 ^ 31 by omega), nI_1]
      have s4 : TY (p1 Y3 7 (ceC tx q) (nI kk)) t n tx (itmR n tx (q + 1) (ceC tx q)).2.1 := by
        obtain ⟨a1, a2, a5, a6, a7, a8, a9⟩ := s3
        exact ⟨by rw [p1_ne (by decide)]; exact a1, by rw [p1_ne (by decide)]; exact a2, a5, a6, a7, fun i hi => by rw [p1_ne (by decide)]; exact a8 i hi, a9⟩
      have dr2 : DR S2 (p1 Y3 7 (ceC tx q) (nI kk)) := fun d hd => by
        by_cases e : d = ceC tx q
        · rw [e]
          refine ⟨(kk, aa, bb), cok, Or.inr ⟨k6, w2.1, w2.2.1, w2.2.2⟩, Or.inr ⟨k6, p1_eq, fun q => ?_, fun q1 q2 => ?_⟩⟩
          · rw [p1_ne (by decide)]; exact w3.1 q
          · rw [p1_ne (by decide)]; exact w3.2 q1 q2
        · obtain ⟨x, d1, d2, d3⟩ := dr d hd
          refine ⟨x, d1, ?_, ?_⟩
          · rw [m2.1 18 d (by decide) (by omega), m2.1 19 d (by decide) (by omega), m2.1 20 d (by decide) (by omega), m1.1 18 d (by decide), m1.1 19 d (by decide), m1.1 20 d (by decide)]; exact d2
          · rw [p1_ni e, p1_ne (by decide), p1_ne (by decide), m3 7 d (by omega) (by omega), m3 8 d (by omega) (by omega), m3 9 d (by omega) (by omega), p1_ne (by decide), p1_ne (by decide), p1_ne (by decide), mY 7 d (by omega), mY 8 d (by omega), mY 9 d (by omega)]; exact d3
      cases m with
      | zero => omega
      | succ m => exact read_R hN m (itmR n tx (q + 1) (ceC tx q)).2.1 (x3 + 1) fx fy' S2 _ (by omega) t2 s4 dr2 (by omega) (by omega) (by omega)
theorem fault_R {N : Nat} (hN : 200 < N) (h : RR S Y) (ht : t < 4) (hn : n ≤ 60) (g1 : S.1 16 t = nI n) (g2 : Y.1 5 t = nI n) (g3 : ∀ i, i < n → S.1 (12 + t) i = Y.1 6 (60 * t + i)) : ∃ v S' Y', fX17_findFault N S (nI t) = some (v, S') ∧ fY0_reads N Y (nI t) = some (v, Y') ∧ ((v = -9 ∧ DR S' Y') ∨ ¬ v = -9) := by
  have ib := inb_nI ht (show 4 < 2 ^ 31 by decide)
  have et : Int32.toNatClampNeg (nI t) = t := cl (by omega)
  obtain ⟨T, eT, t1, t2⟩ := loop_up (fun q st x => fX17_findFault_L30 N q st x) 12
    (fun i st => (∀ c, c < i → st.1 18 c = -1) ∧ ∀ k q, k ≠ 18 → st.1 k q = (p1 (p1 (p1 (p1 S 17 3 (nI (12 + t))) 17 4 (nI n)) 17 5 0) 17 6 0).1 k q)
    (fun st => (∀ c, c < 12 → st.1 18 c = -1) ∧ ∀ k q, k ≠ 18 → st.1 k q = (p1 (p1 (p1 (p1 S 17 3 (nI (12 + t))) 17 4 (nI n)) 17 5 0) 17 6 0).1 k q)
    (fun q st hI => ⟨st, by
      show fX17_findFault_L30 N (q + 1) st (nI 12) = _
      rw [fX17_findFault_L30, if_pos (by decide)], hI⟩)
    (fun q i st hi hI => by
      right
      show ∃ s', _ ∧ fX17_findFault_L30 N (q + 1) st (nI i) = fX17_findFault_L30 N q s' (nI (i + 1))
      rw [fX17_findFault_L30, if_neg (show ¬ (12 : Int32) ≤ nI i from nI_ge hi (by decide)), inb_nI hi (by decide), gd_true, nx_eq, cl (show i < 2 ^ 31 by omega), nI_1]
      refine ⟨p1 st 18 i (-1), ⟨fun c hc => ?_, fun k q hk => by rw [p1_ne hk]; exact hI.2 k q hk⟩, rfl⟩
      by_cases e : c = i
      · subst e; rw [p1_eq]
      · rw [p1_ni e]; exact hI.1 c (by omega))
    N 0 (p1 (p1 (p1 (p1 S 17 3 (nI (12 + t))) 17 4 (nI n)) 17 5 0) 17 6 0) (by omega) (by omega) ⟨fun c hc => by omega, fun _ _ _ => rfl⟩
  have eT2 : fX17_findFault_L30 N N (p1 (p1 (p1 (p1 S 17 3 (nI (12 + t))) 17 4 (nI n)) 17 5 0) 17 6 0) 0 = some T := eT
  obtain ⟨U, eU, u1, u2⟩ := loop_up (fun q st x => fY0_reads_L2 N (nI t) q st x) 12
    (fun i st => (∀ c, c < i → st.1 7 c = -9) ∧ ∀ k q, k ≠ 7 → st.1 k q = Y.1 k q)
    (fun st => (∀ c, c < 12 → st.1 7 c = -9) ∧ ∀ k q, k ≠ 7 → st.1 k q = Y.1 k q)
    (fun q st hI => ⟨st, by
      show fY0_reads_L2 N (nI t) (q + 1) st (nI 12) = _
      rw [fY0_reads_L2, if_pos (by decide)], hI⟩)
    (fun q i st hi hI => by
      right
      show ∃ s', _ ∧ fY0_reads_L2 N (nI t) (q + 1) st (nI i) = fY0_reads_L2 N (nI t) q s' (nI (i + 1))
      rw [fY0_reads_L2, if_neg (show ¬ (12 : Int32) ≤ nI i from nI_ge hi (by decide)), inb_nI hi (by decide), gd_true, nx_eq, cl (show i < 2 ^ 31 by omega), nI_1]
      refine ⟨p1 st 7 i (-9), ⟨fun c hc => ?_, fun k q hk => by rw [p1_ne hk]; exact hI.2 k q hk⟩, rfl⟩
      by_cases e : c = i
      · subst e; rw [p1_eq]
      · rw [p1_ni e]; exact hI.1 c (by omega))
    N 0 Y (by omega) (by omega) ⟨fun c hc => by omega, fun _ _ _ => rfl⟩
  have eU2 : fY0_reads_L2 N (nI t) N Y 0 = some U := eU
  have b9 := fun i hi => h.2.1.2 t ht i hi
  have tX : TX T t n (fun i => S.1 (12 + t) i) 0 false := by
    refine ⟨?_, ?_, ?_, ?_, ht, hn, by omega, fun i hi => ?_, b9⟩
    · rw [t2 17 3 (by decide), p1_ni (by decide), p1_ni (by decide), p1_ni (by decide), p1_eq]
    · rw [t2 17 4 (by decide), p1_ni (by decide), p1_ni (by decide), p1_eq]
    · rw [t2 17 5 (by decide), p1_ni (by decide), p1_eq]; rfl
    · rw [t2 17 6 (by decide), p1_eq]; rfl
    · rw [t2 (12 + t) i (by omega), p1_ne (by omega), p1_ne (by omega), p1_ne (by omega), p1_ne (by omega)]
  have tY : TY (p1 U 0 13 0) t n (fun i => S.1 (12 + t) i) 0 := by
    refine ⟨?_, by rw [p1_eq]; rfl, ht, hn, by omega, fun i hi => ?_, b9⟩
    · rw [p1_ne (by decide), u2 5 t (by decide)]; exact g2
    · rw [p1_ne (by decide), u2 6 _ (by decide)]; exact (g3 i hi).symm
  have dr : DR T (p1 U 0 13 0) := fun c hc => ⟨(6, 0, 0), Or.inl rfl, Or.inl ⟨rfl, t1 c hc⟩, Or.inl ⟨rfl, by rw [p1_ne (by decide)]; exact u1 c hc⟩⟩
  obtain ⟨S', e, hh⟩ := read_R (N := N) hN n 0 0 N N T _ (by omega) tX tY dr (Nat.le_refl 0) (by omega) (by omega)
  have e2 : (Option.bind (fX17_skipBlanks N T) fun t19 => fX17_findFault_L55 N N t19 0) = some S' := e
  have eX : ∀ f : St → Option (Int32 × St), (Option.bind (fX17_skipBlanks N T) fun t19 => Option.bind (fX17_findFault_L55 N N t19 0) f) = f S' := fun f => by
    cases hs : fX17_skipBlanks N T with
    | none => rw [hs] at e2; exact absurd e2 (by simp)
    | some V =>
      rw [hs, bs] at e2
      rw [bs, e2, bs]
  rw [fX17_findFault, fX10_placesOf, ib, gd_true, bs, nx_eq, fX10_sizeOf, ib, gd_true, bs, et, p1_ne (by decide), g1, nx_eq, nx_eq, nx_eq, eT2, bs, eX, fY0_reads, eU2, bs, nx_eq]
  rcases hh with ⟨q, Y', r1, r2, r3, r4⟩ | ⟨Y', r1, r2, r3⟩
  · rw [r1, if_neg ne10, bs, r4, bs, r2]
    exact ⟨nI q, S', Y', rfl, rfl, Or.inr (nI_m9 (by omega))⟩
  · rw [r1, if_pos rfl, bs, r2, bs]
    exact ⟨-9, S', Y', rfl, rfl, Or.inl ⟨rfl, r3⟩⟩
theorem op18_fault {N : Nat} (hN : 200 < N) : op_fault N RR := by
  intro S Y a1 h
  unfold fX0_fault fY0_fault
  rcases refText h a1 with ⟨v, S', Y', e1, e2, hv, hR'⟩ | ⟨t, n, ht, rfl, hn, g1, g2, g3, e1, e2⟩
  · rw [e1, e2, bs, bs]
    dsimp only
    rw [if_neg (neg0 hv), if_neg (negle hv), bs]
    exact ⟨v, S', Y', rfl, rfl, hR'⟩
  obtain ⟨v, S', Y', f1, f2, _⟩ := fault_R hN h ht hn g1 g2 g3
  rw [e1, e2, bs, bs]
  dsimp only
  rw [if_pos rfl, if_pos (show (0 : Int32) ≤ 0 by decide), f1, f2, bs, bs, bs]
  exact ⟨v, S', Y', rfl, rfl, RR_ag h (agr_of (frX17_findFault f1) (by decide) (by decide) (by decide)) (agr_of (frY0_reads f2) (by decide) (by decide) (by decide))⟩
end PF
