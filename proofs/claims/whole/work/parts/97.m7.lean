/-! matches -/
section PN
variable {S S' Y Y' : St} {B : Bk} {L : Nat → Nat → Bool} {om : Nat → Nat} {s : Nat}
theorem X_one {N : Nat} (hN : 61 < N) (ok : okB B) (h : MX S B L om) {u : Nat} (hu : u < 4096) : ∃ b, fX47_haveOneNumber N S (nI u) = some (bI b) ∧ (b = true ↔ oneP B u) := by
  have h12 := ok.2.1
  obtain ⟨t, e, ht⟩ := loop_up (fun q (x : Int32) y => fX47_haveOneNumber_L5 N S (nI u) q x y) (hn B)
    (fun i x => (x = -9 ∧ ∀ j, j < i → u.testBit j = false) ∨ ∃ v, x = nI v ∧ v < 100 ∧ (∃ j, j < i ∧ u.testBit j = true) ∧ ∀ j, j < i → u.testBit j = true → hv B j = v)
    (fun t => (t = .inl 0 ∧ ¬ oneP B u) ∨ (t = .inr (-9) ∧ ¬ oneP B u) ∨ ∃ v, t = .inr (nI v) ∧ v < 100 ∧ oneP B u)
    (fun q x hI => by
      show ∃ t, fX47_haveOneNumber_L5 N S (nI u) (q + 1) x (nI (hn B)) = some t ∧ _
      rw [fX47_haveOneNumber_L5, fX22_howMany, bs, h.1, if_pos (ge_n (by omega))]
      refine ⟨_, rfl, Or.inr ?_⟩
      rcases hI with ⟨rfl, h2⟩ | ⟨v, rfl, h2, h3, h4⟩
      · refine Or.inl ⟨rfl, fun q => ?_⟩
        obtain ⟨i, hi, tb⟩ := q.1
        rw [h2 i hi] at tb
        exact absurd tb (by decide)
      · exact Or.inr ⟨v, rfl, h2, h3, fun i j hi hj t1 t2 => by rw [h4 i hi t1, h4 j hj t2]⟩)
    (fun q i x hi hI => by
      show (∃ t, fX47_haveOneNumber_L5 N S (nI u) (q + 1) x (nI i) = some t ∧ _) ∨ ∃ s', _ ∧ fX47_haveOneNumber_L5 N S (nI u) (q + 1) x (nI i) = fX47_haveOneNumber_L5 N S (nI u) q s' (nI (i + 1))
      have hb := ok.2.2.1 i hi
      rw [fX47_haveOneNumber_L5, fX22_howMany, bs, h.1, if_neg (nI_ge hi (by omega)), shb (by omega) (by omega), if_bI0, fX22_numberAt, inb_nI (show i < 12 by omega) (by decide), gd_true, cl (show i < 2 ^ 31 by omega), h.2.1 i hi, bs]
      try rw [bs]
      try rw [bs]
      rw [nI_1]
      cases tb : u.testBit i
      · right
        rw [if_neg (show ¬ (false = true) by decide)]
        refine ⟨x, ?_, rfl⟩
        rcases hI with ⟨h1, h2⟩ | ⟨v, h1, h2, ⟨j, j1, j2⟩, h4⟩
        · refine Or.inl ⟨h1, fun j hj => ?_⟩
          by_cases z : j = i
          · rw [z]; exact tb
          · exact h2 j (by omega)
        · refine Or.inr ⟨v, h1, h2, ⟨j, by omega, j2⟩, fun j' hj' t' => ?_⟩
          by_cases z : j' = i
          · rw [z, tb] at t'; exact absurd t' (by decide)
          · exact h4 j' (by omega) t'
      · rw [if_pos rfl]
        rcases hI with ⟨rfl, h2⟩ | ⟨v, rfl, h2, ⟨j, j1, j2⟩, h4⟩
        · right
          rw [if_pos rfl]
          refine ⟨_, Or.inr ⟨hv B i, rfl, hb, ⟨i, by omega, tb⟩, fun j' hj' t' => ?_⟩, rfl⟩
          by_cases z : j' = i
          · rw [z]
          · rw [h2 j' (by omega)] at t'; exact absurd t' (by decide)
        · rw [if_neg (nI_m9 (by omega))]
          by_cases w : v = hv B i
          · right
            rw [if_pos (by rw [w])]
            refine ⟨_, Or.inr ⟨hv B i, rfl, hb, ⟨i, by omega, tb⟩, fun j' hj' t' => ?_⟩, rfl⟩
            by_cases z : j' = i
            · rw [z]
            · rw [h4 j' (by omega) t', w]
          · left
            rw [if_neg (by rw [nI_eq (by omega) (by omega)]; exact w)]
            refine ⟨_, rfl, Or.inl ⟨rfl, fun q => w ?_⟩⟩
            rw [← h4 j j1 j2]
            exact q.2 j i (by omega) hi j2 tb)
    N 0 (-9) (Nat.zero_le _) (by omega) (Or.inl ⟨rfl, fun j hj => by omega⟩)
  have e2 : fX47_haveOneNumber_L5 N S (nI u) N (-9) 0 = some t := e
  rw [fX47_haveOneNumber, e2, bs]
  rcases ht with ⟨rfl, h1⟩ | ⟨rfl, h1⟩ | ⟨v, rfl, h0, h1⟩
  · exact ⟨false, rfl, ⟨fun q => absurd q (by decide), fun q => absurd q h1⟩⟩
  · exact ⟨false, rfl, ⟨fun q => absurd q (by decide), fun q => absurd q h1⟩⟩
  · refine ⟨true, ?_, ⟨fun _ => h1, fun _ => rfl⟩⟩
    show (Option.bind (if nI v = -9 then some 0 else some 1) fun t17 => gd (isb t17) (some t17)) = _
    rw [if_neg (nI_m9 (by omega)), bs, isb1, gd_true]; rfl
theorem X_matchL {N : Nat} (hN : 5000 < N) (ok : okB B) (h : MX S B L om) {R : Nat → Bool} (h51 : ∀ t, t < 2 ^ hn B → S.1 51 t = bI (R t) ∧ (R t = true ↔ RC B L t)) (h52 : ∀ t, t < 2 ^ hn B → S.1 52 t = nI (beh B L t)) : ∃ (S' : St) (U : Nat → Nat), fX47_match_L14 N N S 0 = some S' ∧ (∀ k, k < m3 B → S'.1 50 k = nI (U k) ∧ useP B L k (U k)) ∧ ∀ a b, a ≠ 50 → S'.1 a b = S.1 a b := by
  have ml := m3_le B
  obtain ⟨T, e, U, t1, t2⟩ := loop_up (fun q st x => fX47_match_L14 N q st x) (m3 B)
    (fun k st => ∃ U : Nat → Nat, (∀ k', k' < k → st.1 50 k' = nI (U k') ∧ useP B L k' (U k')) ∧ ∀ a b, a ≠ 50 → st.1 a b = S.1 a b)
    (fun st => ∃ U : Nat → Nat, (∀ k', k' < m3 B → st.1 50 k' = nI (U k') ∧ useP B L k' (U k')) ∧ ∀ a b, a ≠ 50 → st.1 a b = S.1 a b)
    (fun q st hI => ⟨st, by
      obtain ⟨U, _, o⟩ := hI
      show fX47_match_L14 N (q + 1) st (nI (m3 B)) = _
      rw [fX47_match_L14, o 47 8 (by decide), h.2.2.1, if_pos (ge_n (by omega))], hI⟩)
    (fun q k st hk hI => by
      right
      obtain ⟨U, g1, o⟩ := hI
      show ∃ s', _ ∧ fX47_match_L14 N (q + 1) st (nI k) = fX47_match_L14 N q s' (nI (k + 1))
      obtain ⟨u, eu, u1, u2⟩ := X_used (N := N) hN ok (MX_o h (fun a b _ => o a b (by omega))) (R := R) (fun t ht => by rw [o 51 t (by decide)]; exact h51 t ht) (fun t ht => by rw [o 52 t (by decide)]; exact h52 t ht) (show k < 12 by omega)
      rw [fX47_match_L14, o 47 8 (by decide), h.2.2.1, if_neg (nI_ge hk (by omega)), eu, bs, inb_nI (show k < 12 by omega) (by decide), gd_true, nx_eq, cl (show k < 2 ^ 31 by omega), nI_1]
      refine ⟨p1 st 50 k (nI u), ⟨fun k' => if k' = k then u else U k', fun k' hk' => ?_, fun a b ha => by rw [p1_ne ha]; exact o a b ha⟩, rfl⟩
      dsimp only
      by_cases z : k' = k
      · rw [z, if_pos rfl, p1_eq]
        exact ⟨rfl, u1, u2⟩
      · rw [if_neg z, p1_ni z]
        exact g1 k' (by omega))
    N 0 S (Nat.zero_le _) (by omega) ⟨fun _ => 0, fun k' hk' => by omega, fun _ _ _ => rfl⟩
  exact ⟨T, U, e, t1, t2⟩
theorem X_forced {N : Nat} (hN : 61 < N) (ok : okB B) (h : MX S B L om) {U : Nat → Nat} (h50 : ∀ k, k < m3 B → S.1 50 k = nI (U k) ∧ useP B L k (U k)) : ∃ f, fX47_forced N S = some (nI f) ∧ f < 4096 ∧ ∀ c, c < 12 → (f.testBit c = true ↔ ∃ k, k < m3 B ∧ ce3 B k = c ∧ oneP B (U k)) := by
  have ml := m3_le B
  obtain ⟨x, e, f, rfl, f1, f2⟩ := loop_up (fun q (x : Int32) y => fX47_forced_L4 N S q x y) (m3 B)
    (fun k x => ∃ f, x = nI f ∧ f < 4096 ∧ ∀ c, c < 12 → (f.testBit c = true ↔ ∃ k', k' < k ∧ ce3 B k' = c ∧ oneP B (U k')))
    (fun x => ∃ f, x = nI f ∧ f < 4096 ∧ ∀ c, c < 12 → (f.testBit c = true ↔ ∃ k', k' < m3 B ∧ ce3 B k' = c ∧ oneP B (U k')))
    (fun q x hI => ⟨x, by
      show fX47_forced_L4 N S (q + 1) x (nI (m3 B)) = _
      rw [fX47_forced_L4, h.2.2.1, if_pos (ge_n (by omega))], hI⟩)
    (fun q k x hk hI => by
      right
      obtain ⟨f, rfl, f1, f2⟩ := hI
      show ∃ s', _ ∧ fX47_forced_L4 N S (q + 1) (nI f) (nI k) = fX47_forced_L4 N S q s' (nI (k + 1))
      obtain ⟨p0, p1'⟩ := h50 k hk
      obtain ⟨b, eb, hb⟩ := X_one (N := N) hN ok h p1'.1
      have cb := ce_b hk
      have c48 := (h.2.2.2 k hk).1
      have p12 := pw12 _ cb.1
      rw [fX47_forced_L4, h.2.2.1, if_neg (nI_ge hk (by omega)), inb_nI (show k < 12 by omega) (by decide), gd_true, cl (show k < 2 ^ 31 by omega), p0, eb, bs, if_bI0, gd_true, c48, sh1 _ cb.1, nI_1]
      cases b
      · rw [if_neg (show ¬ (false = true) by decide), bs, Int32.or_zero]
        refine ⟨_, ⟨f, rfl, f1, fun c hc => (f2 c hc).trans ⟨?_, ?_⟩⟩, rfl⟩
        · rintro ⟨k', q1, q2⟩
          exact ⟨k', by omega, q2⟩
        · rintro ⟨k', q1, q2, q3⟩
          rcases Nat.lt_or_ge k' k with z | z
          · exact ⟨k', z, q2, q3⟩
          · have ek : k' = k := by omega
            rw [ek] at q3
            exact absurd (hb.mpr q3) (by decide)
      · rw [if_pos rfl, bs, fa_or]
        refine ⟨_, ⟨f ||| 2 ^ ce3 B k, rfl, Nat.or_lt_two_pow (n := 12) f1 p12, fun c hc => ?_⟩, rfl⟩
        rw [Nat.testBit_or, Nat.testBit_two_pow, Bool.or_eq_true, f2 c hc, decide_eq_true_eq]
        constructor
        · rintro (⟨k', q1, q2⟩ | q)
          · exact ⟨k', by omega, q2⟩
          · exact ⟨k, by omega, q, hb.mp rfl⟩
        · rintro ⟨k', q1, q2, q3⟩
          rcases Nat.lt_or_ge k' k with z | z
          · exact Or.inl ⟨k', z, q2, q3⟩
          · have ek : k' = k := by omega
            rw [ek] at q2
            exact Or.inr q2)
    N 0 0 (Nat.zero_le _) (by omega) ⟨0, rfl, by omega, fun c hc => ⟨fun q => by rw [Nat.zero_testBit] at q; exact absurd q (by decide), fun ⟨k', q1, _⟩ => by omega⟩⟩
  have e2 : fX47_forced_L4 N S N 0 0 = some (nI f) := e
  exact ⟨f, by rw [fX47_forced, e2, bs], f1, f2⟩
theorem Y_m30 {N : Nat} (hN : 5000 < N) (ok : okB B) (bY : BY Y B) (ly : LNY Y L) {c f : Nat} (hc : c < 12) (k3c : kd B c = 3) (hf : f < 4096) : ∃ Y', fY0_matches_L30 N (nI (Wt B L)) (nI c) N Y (nI f) 0 = some (Y', nI (if 0 < fb_ct (fun j => decide (Wv B L (nI c) (nI (hv B j)) = Wt B L)) (hn B) then f ||| 2 ^ c else f)) ∧ ∀ k q, k ≠ 26 → k ≠ 27 → Y'.1 k q = Y.1 k q := by
  have h12 := ok.2.1
  have wt := Wt_e (L := L) ok
  obtain ⟨t, e, h1, h2⟩ := loop_up (fun q (x : St × Int32) y => fY0_matches_L30 N (nI (Wt B L)) (nI c) q x.1 x.2 y) (hn B)
    (fun j x => x.2 = nI (if 0 < fb_ct (fun j => decide (Wv B L (nI c) (nI (hv B j)) = Wt B L)) j then f ||| 2 ^ c else f) ∧ ∀ k q, k ≠ 26 → k ≠ 27 → x.1.1 k q = Y.1 k q)
    (fun x => x.2 = nI (if 0 < fb_ct (fun j => decide (Wv B L (nI c) (nI (hv B j)) = Wt B L)) (hn B) then f ||| 2 ^ c else f) ∧ ∀ k q, k ≠ 26 → k ≠ 27 → x.1.1 k q = Y.1 k q)
    (fun q x hI => ⟨x, by
      show fY0_matches_L30 N (nI (Wt B L)) (nI c) (q + 1) x.1 x.2 (nI (hn B)) = _
      rw [fY0_matches_L30, hI.2 0 22 (by decide) (by decide), bY.2.1, if_pos (ge_n (by omega))], hI⟩)
    (fun q j x hj hI => by
      right
      obtain ⟨st, y⟩ := x
      obtain ⟨g1, o⟩ := hI
      dsimp only at g1 o
      show ∃ s' : St × Int32, _ ∧ fY0_matches_L30 N (nI (Wt B L)) (nI c) (q + 1) st y (nI j) = fY0_matches_L30 N (nI (Wt B L)) (nI c) q s'.1 s'.2 (nI (j + 1))
      have b1 : BY st B := BY_o bY (fun k q hk => o k q (by omega) (by omega))
      obtain ⟨Z, eZ, z1⟩ := Y_ways (N := N) (x1 := nI c) (x2 := nI (hv B j)) hN ok b1 (fun c hc v hv => by rw [o 17 _ (by decide) (by decide)]; exact ly c hc v hv)
      have wb := Wv_V (L := L) ok (nI c) (nI (hv B j))
      have wb0 := Wv_V (L := L) ok (-9) 0
      rw [wt] at wb0
      have ez : fY0_waysWith N st (nI c) (nI (hv B j)) = some (nI (Wv B L (nI c) (nI (hv B j))), Z) := eZ
      rw [fY0_matches_L30, o 0 22 (by decide) (by decide), bY.2.1, if_neg (nI_ge hj (by omega)), inb_nI hc (by decide), gd_true, cl (show c < 2 ^ 31 by omega), if_pos ((Y_is3 b1 hc).mpr k3c), inb_nI (show j < 12 by omega) (by decide), gd_true, cl (show j < 2 ^ 31 by omega), b1.2.2.1 j hj, ez, bs, nI_1, sh1 c hc, g1]
      dsimp only
      refine ⟨(Z, nI (if 0 < fb_ct (fun j => decide (Wv B L (nI c) (nI (hv B j)) = Wt B L)) (j + 1) then f ||| 2 ^ c else f)), ⟨rfl, fun k q h1 h2 => by rw [z1 k q h1 h2]; exact o k q h1 h2⟩, ?_⟩
      rw [fb_ct_succ]
      by_cases w : Wv B L (nI c) (nI (hv B j)) = Wt B L
      · rw [if_pos (by rw [w]), bs, fa_or, decide_eq_true w, if_pos (show 0 < _ + (if true = true then 1 else 0) from Nat.lt_of_lt_of_le (by decide) (Nat.le_add_left 1 _))]
        split
        · rw [Nat.or_assoc, Nat.or_self]
        · rfl
      · rw [if_neg (show ¬ nI (Wv B L (nI c) (nI (hv B j))) = nI (Wt B L) from by rw [nI_eq (by omega) (by omega)]; exact w), bs, Int32.or_zero, decide_eq_false w, if_neg (show ¬ (false = true) by decide)]
        rfl)
    N 0 (Y, nI f) (Nat.zero_le _) (by omega) ⟨by rw [show fb_ct (fun j => decide (Wv B L (nI c) (nI (hv B j)) = Wt B L)) 0 = 0 from rfl, if_neg (by omega)], fun _ _ _ _ => rfl⟩
  refine ⟨t.1, ?_, h2⟩
  have e2 : fY0_matches_L30 N (nI (Wt B L)) (nI c) N Y (nI f) 0 = some t := e
  rw [e2, ← h1]
theorem Y_m17 {N : Nat} (hN : 5000 < N) (ok : okB B) (bY : BY Y B) (ly : LNY Y L) : ∃ Y' f, fY0_matches_L17 N (nI (Wt B L)) N Y 0 0 = some (Y', nI f) ∧ f < 4096 ∧ (∀ c, c < 12 → (f.testBit c = true ↔ 0 < Wt B L ∧ kd B c = 3 ∧ ∃ j, j < hn B ∧ Wv B L (nI c) (nI (hv B j)) = Wt B L)) ∧ ∀ k q, k ≠ 26 → k ≠ 27 → Y'.1 k q = Y.1 k q := by
  have wt := Wt_e (L := L) ok
  have wb0 := Wv_V (L := L) ok (-9) 0
  rw [wt] at wb0
  obtain ⟨t, e, f, h0, h1, h2, h3⟩ := loop_up (fun q (x : St × Int32) y => fY0_matches_L17 N (nI (Wt B L)) q x.1 x.2 y) 12
    (fun c x => ∃ f, x.2 = nI f ∧ f < 4096 ∧ (∀ c', c' < 12 → (f.testBit c' = true ↔ c' < c ∧ 0 < Wt B L ∧ kd B c' = 3 ∧ ∃ j, j < hn B ∧ Wv B L (nI c') (nI (hv B j)) = Wt B L)) ∧ ∀ k q, k ≠ 26 → k ≠ 27 → x.1.1 k q = Y.1 k q)
    (fun x => ∃ f, x.2 = nI f ∧ f < 4096 ∧ (∀ c', c' < 12 → (f.testBit c' = true ↔ 0 < Wt B L ∧ kd B c' = 3 ∧ ∃ j, j < hn B ∧ Wv B L (nI c') (nI (hv B j)) = Wt B L)) ∧ ∀ k q, k ≠ 26 → k ≠ 27 → x.1.1 k q = Y.1 k q)
    (fun q x hI => ⟨x, by
      show fY0_matches_L17 N (nI (Wt B L)) (q + 1) x.1 x.2 (nI 12) = _
      rw [fY0_matches_L17, if_pos (by decide)], by
      obtain ⟨f, h0, h1, h2, h3⟩ := hI
      exact ⟨f, h0, h1, fun c' hc' => (h2 c' hc').trans ⟨fun q => q.2, fun q => ⟨hc', q⟩⟩, h3⟩⟩)
    (fun q c x hc hI => by
      obtain ⟨st, y⟩ := x
      obtain ⟨f, g0, g1, g2, o⟩ := hI
      dsimp only at g0 o
      show (∃ t, fY0_matches_L17 N (nI (Wt B L)) (q + 1) st y (nI c) = some t ∧ _) ∨ ∃ s' : St × Int32, _ ∧ fY0_matches_L17 N (nI (Wt B L)) (q + 1) st y (nI c) = fY0_matches_L17 N (nI (Wt B L)) q s'.1 s'.2 (nI (c + 1))
      have b1 : BY st B := BY_o bY (fun k q hk => o k q (by omega) (by omega))
      rw [fY0_matches_L17, if_neg (show ¬ (12 : Int32) ≤ nI c from nI_ge hc (by decide))]
      rcases Nat.eq_zero_or_pos (Wt B L) with w | w
      · left
        rw [w, if_pos (show nI 0 ≤ 0 by decide)]
        refine ⟨_, rfl, f, g0, g1, fun c' hc' => ?_, o⟩
        rw [g2 c' hc', w]
        exact ⟨fun q => absurd q.2.1 (by omega), fun q => absurd q.1 (by omega)⟩
      right
      rw [if_neg (show ¬ nI (Wt B L) ≤ 0 from nI_ge (a := 0) w (by omega)), nI_1, g0]
      by_cases z : kd B c = 3
      · obtain ⟨Z, eZ, z1⟩ := Y_m30 (N := N) (f := f) hN ok b1 (fun c hc v hv => by rw [o 17 _ (by decide) (by decide)]; exact ly c hc v hv) hc z g1
        have p12 := pw12 c hc
        rw [eZ, bs]
        refine ⟨(Z, _), ⟨_, rfl, ?_, fun c' hc' => ?_, fun k q h1 h2 => by rw [show ((Z, nI (if 0 < fb_ct (fun j => decide (Wv B L (nI c) (nI (hv B j)) = Wt B L)) (hn B) then f ||| 2 ^ c else f)) : St × Int32).1 = Z from rfl, z1 k q h1 h2]; exact o k q h1 h2⟩, rfl⟩
        · split
          · exact Nat.or_lt_two_pow (n := 12) g1 p12
          · exact g1
        · have pos : 0 < fb_ct (fun j => decide (Wv B L (nI c) (nI (hv B j)) = Wt B L)) (hn B) ↔ ∃ j, j < hn B ∧ Wv B L (nI c) (nI (hv B j)) = Wt B L := by
            rw [fb_ct_pos]
            constructor
            · rintro ⟨j, j1, j2⟩
              exact ⟨j, j1, of_decide_eq_true j2⟩
            · rintro ⟨j, j1, j2⟩
              exact ⟨j, j1, decide_eq_true j2⟩
          by_cases y : 0 < fb_ct (fun j => decide (Wv B L (nI c) (nI (hv B j)) = Wt B L)) (hn B)
          · rw [if_pos y, Nat.testBit_or, Nat.testBit_two_pow, Bool.or_eq_true, g2 c' hc', decide_eq_true_eq]
            constructor
            · rintro (q | q)
              · exact ⟨by omega, q.2⟩
              · subst q
                exact ⟨by omega, w, z, pos.mp y⟩
            · rintro ⟨q1, q2⟩
              rcases Nat.lt_or_ge c' c with v | v
              · exact Or.inl ⟨v, q2⟩
              · exact Or.inr (by omega)
          · rw [if_neg y, g2 c' hc']
            constructor
            · rintro ⟨q1, q2⟩
              exact ⟨by omega, q2⟩
            · rintro ⟨q1, q2, q3, q4⟩
              rcases Nat.lt_or_ge c' c with v | v
              · exact ⟨v, q2, q3, q4⟩
              · have ec : c' = c := by omega
                subst ec
                exact absurd (pos.mpr q4) y
      · have e30 : fY0_matches_L30 N (nI (Wt B L)) (nI c) N st (nI f) 0 = some (st, nI f) := by
          obtain ⟨M, rfl⟩ : ∃ M, N = M + 1 := ⟨N - 1, by omega⟩
          rw [fY0_matches_L30, inb_nI hc (by decide), gd_true, cl (show c < 2 ^ 31 by omega), if_neg (fun w => z ((Y_is3 b1 hc).mp w))]
          split <;> rfl
        rw [e30, bs]
        refine ⟨(st, nI f), ⟨f, rfl, g1, fun c' hc' => (g2 c' hc').trans ⟨?_, ?_⟩, o⟩, rfl⟩
        · rintro ⟨q1, q2⟩
          exact ⟨by omega, q2⟩
        · rintro ⟨q1, q2, q3, q4⟩
          refine ⟨?_, q2, q3, q4⟩
          rcases Nat.lt_or_ge c' c with v | v
          · exact v
          · have ec : c' = c := by omega
            subst ec
            exact absurd q3 z)
    N 0 (Y, 0) (Nat.zero_le _) (by omega) ⟨0, rfl, by omega, fun c hc => ⟨fun q => by rw [Nat.zero_testBit] at q; exact absurd q (by decide), fun q => by omega⟩, fun _ _ _ _ => rfl⟩
  refine ⟨t.1, f, ?_, h1, h2, h3⟩
  have e2 : fY0_matches_L17 N (nI (Wt B L)) N Y 0 0 = some t := e
  rw [e2, ← h0]
theorem op20_matches {N : Nat} (hN : 41000 < N) : op_matches N RR := by
  intro S Y h
  obtain ⟨B, ok, bx, bY⟩ := h.2.2.2
  obtain ⟨S1, Y1, L, lo, hi', f1, f2, n⟩ := narrowAll_R (N := N) (by omega) ok bx bY
  have n' := n
  obtain ⟨n1, n2, n3, n4, n5, n6, n7, n8, n9⟩ := n
  obtain ⟨S2, om, e2, op, o2⟩ := X_open (N := N) (L := L) (by omega) ok n1 n3 n4 (fun c hc tc v hv => (lfE_n n' hc tc hv).symm)
  have hM2 : MX S2 B L om := ⟨by rw [o2 22 2 (by omega) (by decide) (by decide)]; exact n1.2.2.1, fun i hi => by rw [o2 23 i (by omega) (by decide) (by decide)]; exact n1.2.2.2.1 i hi, op⟩
  obtain ⟨S3, R, e3, r3, o3⟩ := X_reach (N := N) (by omega) ok hM2
  have hM3 : MX S3 B L om := MX_o hM2 (fun a b _ => o3 a b (by omega))
  obtain ⟨S4, e4, r4, o4⟩ := X_behind (N := N) (by omega) ok hM3
  have hM4 : MX S4 B L om := MX_o hM3 (fun a b _ => o4 a b (by omega))
  obtain ⟨S5, U, e5, r5, o5⟩ := X_matchL (N := N) (by omega) ok hM4 (R := R) (fun t ht => by rw [o4 51 t (by decide)]; exact r3 t ht) r4
  have hM5 : MX S5 B L om := MX_o hM4 (fun a b _ => o5 a b (by omega))
  obtain ⟨f, e6, ff1, ff2⟩ := X_forced (N := N) (by omega) ok hM5 r5
  have em : fX47_match N S1 = some S5 := by rw [fX47_match, e2, bs, e3, bs, e4, bs, e5, bs]
  have w0 : S5.1 52 0 = nI (Wt B L) := by rw [o5 52 0 (by decide), r4 0 (Nat.pow_pos (by omega)), beh_0]
  obtain ⟨Z, eZ, z1⟩ := Y_ways (N := N) (x1 := -9) (x2 := 0) (by omega) ok n2 n5
  have wt := Wt_e (L := L) ok
  have eZ2 : fY0_waysWith N Y1 (-9) 0 = some (nI (Wt B L), Z) := by rw [← wt]; exact eZ
  obtain ⟨V, g, eV, g1, g2, v1⟩ := Y_m17 (N := N) (by omega) ok (BY_o n2 (fun k q hk => z1 k q (by omega) (by omega))) (fun c hc v hv => by rw [z1 17 _ (by decide) (by decide)]; exact n5 c hc v hv)
  have efg : f = g := by
    apply Nat.eq_of_testBit_eq
    intro c
    rcases Nat.lt_or_ge c 12 with hc | hc
    · have : f.testBit c = true ↔ g.testBit c = true := by
        rw [ff2 c hc, g2 c hc]
        constructor
        · rintro ⟨k, k1, k2, k4⟩
          have q := (one_iff ok k1 (r5 k k1).2).mp k4
          have cb := ce_b k1
          rw [k2] at q cb
          exact ⟨q.1, of_decide_eq_true cb.2.1, q.2⟩
        · rintro ⟨q1, q2, q3⟩
          have tk : k3 B c = true := decide_eq_true q2
          have ec : ce3 B (fb_ct (k3 B) c) = c := nC_at hc tk
          have lt : fb_ct (k3 B) c < m3 B := by
            have m := fb_ct_mono (k3 B) (show c + 1 ≤ 12 by omega)
            rw [fb_ct_succ, tk] at m
            exact m
          exact ⟨_, lt, ec, (one_iff ok lt (r5 _ lt).2).mpr ⟨q1, by rw [ec]; exact q3⟩⟩
      cases a : f.testBit c <;> cases b : g.testBit c
      · rfl
      · rw [a, b] at this; exact absurd (this.mpr rfl) (by decide)
      · rw [a, b] at this; exact absurd (this.mp rfl) (by decide)
      · rfl
    · have p : (2 : Nat) ^ 12 ≤ 2 ^ c := Nat.pow_le_pow_right (by omega) hc
      rw [Nat.testBit_lt_two_pow (show f < 2 ^ c by omega), Nat.testBit_lt_two_pow (show g < 2 ^ c by omega)]
  have R5 : RR S5 V := RR_ag (RR_ag (RR_ag h (agX_nar f1) (agY_nar f2)) (agr_of (frX47_match em) (by decide) (by decide) (by decide)) (agr_of (frY0_waysWith eZ2) (by decide) (by decide) (by decide))) agr_refl ⟨fun k hk => funext fun q => v1 k q (by intro e; subst e; exact absurd hk (by decide)) (by intro e; subst e; exact absurd hk (by decide)), fun k i hk => v1 k i (by
      intro e; subst e
      have : ∀ p ∈ fiY, p.1 ≠ 26 := by decide
      exact this _ hk rfl) (by
      intro e; subst e
      have : ∀ p ∈ fiY, p.1 ≠ 27 := by decide
      exact this _ hk rfl), fun k i hk => (frY0_matches_L17 N Z 0 0 eV).2 k i (by simp [mL_Y0_matches])⟩
  unfold fX0_matches fY0_matches
  rw [f1, bs, em, bs, e6, bs, nx_eq, fX47_ways, show inb 0 4096 = true from by decide, gd_true, bs, f2, bs, eZ2, bs]
  dsimp only
  rw [eV, bs, fY0_ask, nx_eq, bs, show Int32.toNatClampNeg 0 = 0 from rfl, p1_ne (by decide), w0, efg]
  exact ⟨_, _, _, rfl, rfl, RR_ask R5 _⟩
end PN
