/-! digest -/
def mx (Y : St) (h : Int64) : St := p2 Y 0 43 h
theorem mx_mx {Y : St} {a b : Int64} : p2 (mx Y a) 0 43 b = mx Y b := by
  unfold mx p2
  refine Prod.ext rfl (funext fun k => funext fun i => ?_)
  dsimp only
  by_cases hk : k = 0
  · rw [if_pos hk, if_pos hk, if_pos rfl]
    unfold vp_updL
    try dsimp only
    by_cases hi : i = 43
    · rw [if_pos hi, if_pos hi]
    · rw [if_neg hi, if_neg hi, if_neg hi]
  · rw [if_neg hk, if_neg hk, if_neg hk]
theorem mx_1 {Y : St} {h : Int64} : (mx Y h).1 = Y.1 := rfl
theorem mx_mix {Y : St} {h : Int64} {x : Int32} : fY0_mix (mx Y h) x = some (mx Y (31 * h + Int32.toInt64 x)) := by
  rw [fY0_mix, nx_eq, mx_mx]
  unfold mx
  rw [p2_eq]
theorem mx_ag {Y : St} {h : Int64} : agY Y (mx Y h) := ⟨fun _ _ => rfl, fun _ _ _ => rfl, fun k i hk => by
  have : ∀ p ∈ loY, p.2 ≠ 43 := by decide
  unfold mx
  rw [p2_ne (this _ hk)]⟩
theorem mix_loop (FX : Nat → Int64 → Int32 → Option Int64) (FY : Nat → St → Int32 → Option St) (Y : St) (e : Nat) (hx : ∀ n h, FX (n + 1) h (nI e) = some h ∧ FY (n + 1) (mx Y h) (nI e) = some (mx Y h)) (hs : ∀ n h i, i < e → ∃ h', FX (n + 1) h (nI i) = FX n h' (nI (i + 1)) ∧ FY (n + 1) (mx Y h) (nI i) = FY n (mx Y h') (nI (i + 1))) : ∀ n i h, i ≤ e → e < i + n → ∃ h', FX n h (nI i) = some h' ∧ FY n (mx Y h) (nI i) = some (mx Y h')
  | 0, i, h, h1, h2 => by omega
  | n + 1, i, h, h1, h2 => by
    by_cases q : i = e
    · subst q
      exact ⟨h, (hx n h).1, (hx n h).2⟩
    · obtain ⟨h', e1, e2⟩ := hs n h i (by omega)
      rw [e1, e2]
      exact mix_loop FX FY Y e hx hs n (i + 1) h' (by omega) (by omega)
section OY
variable {S S' Y Y' : St} {B : Bk} {lo hi : Nat → Int}
theorem dg_cells {N : Nat} (hN : 1300 < N) (ok : okB B) (bx : BX S B) (bY : BY Y B) (fx : FNX S B) (ex : ENX S B lo hi) (fe : ∀ c, c < 12 → thr B c = true → fen B lo hi c) (h : Int64) : ∃ h', fX0_digest_L39 N S N h 0 = some h' ∧ fY0_digest_L31 N N (mx Y h) 0 = some (mx Y h') := by
  refine mix_loop (fun n h x => fX0_digest_L39 N S n h x) (fun n st x => fY0_digest_L31 N n st x) Y 12 (fun n h => ⟨?_, ?_⟩) (fun n h c hc => ?_) N 0 h (by omega) (by omega)
  · show fX0_digest_L39 N S (n + 1) h (nI 12) = _
    rw [fX0_digest_L39, if_pos (by decide)]
  · show fY0_digest_L31 N (n + 1) (mx Y h) (nI 12) = _
    rw [fY0_digest_L31, if_pos (by decide)]
  · show ∃ h', fX0_digest_L39 N S (n + 1) h (nI c) = fX0_digest_L39 N S n h' (nI (c + 1)) ∧ fY0_digest_L31 N (n + 1) (mx Y h) (nI c) = fY0_digest_L31 N n (mx Y h') (nI (c + 1))
    have ib := inb_nI hc (show 12 < 2 ^ 31 by decide)
    have ec : Int32.toNatClampNeg (nI c) = c := cl (by omega)
    have bm : ∀ h, BY (mx Y h) B := fun _ => bY
    rw [fX0_digest_L39, fY0_digest_L31, if_neg (show ¬ (12 : Int32) ≤ nI c from nI_ge hc (by decide)), if_neg (show ¬ (12 : Int32) ≤ nI c from nI_ge hc (by decide)), fX25_kindOf, ib, gd_true, ec, bs, nx_eq, X_there bx hc, bs, Y_there (bm h) hc, bs, if_bI0, if_bI0, nI_1]
    cases tc : thr B c
    · have k6 : kd B c = 6 := by
        rcases Nat.eq_or_lt_of_le (show kd B c ≤ 6 by have := ok.1 c hc; unfold cellOK at this; omega) with q | q
        · exact q
        · rw [thr_6 q] at tc; exact absurd tc (by decide)
      have e26 : S.1 26 c = -1 := by
        rcases bx.1 c hc with ⟨_, q⟩ | ⟨q, _⟩
        · exact q
        · omega
      rw [if_neg (show ¬ (false = true) by decide), if_neg (show ¬ (false = true) by decide), mx_mix, bs, bs, bs, e26]
      exact ⟨_, rfl, rfl⟩
    · have k6 : kd B c < 6 := by
        have := thr_t.mp tc
        have := ok.1 c hc
        unfold cellOK at this
        omega
      rw [if_pos rfl, if_pos rfl, gd_true, X_tells (by omega) ok bx hc k6, bs, nx_eq, X_many0 (by omega) fx ex hc tc, bs, nx_eq, bs, fen_many (fe c hc tc), mx_1, Y_kind bY hc k6, X_k bx hc k6, mx_mix, bs, Y_tells (by omega) ok (bm _) hc k6, bs, mx_mix, bs, Y_firstMany (by omega) ok (bm _) hc k6, bs, mx_mix, bs, bs]
      exact ⟨_, rfl, rfl⟩
theorem dg_sums {N : Nat} (hN : 1300 < N) (ok : okB B) (bx : BX S B) (bY : BY Y B) (h : Int64) : ∃ h', fX29_mixInto N S h = some h' ∧ fY0_digest_L89 N N (mx Y h) 0 = some (mx Y h') := by
  have h8 := ok.2.2.2.1
  obtain ⟨h', e1, e2⟩ := mix_loop (fun n h x => fX29_mixInto_L2 N S n h x) (fun n st x => fY0_digest_L89 N n st x) Y (sn B) (fun n h => ⟨by
    show fX29_mixInto_L2 N S (n + 1) h (nI (sn B)) = _
    rw [fX29_mixInto_L2, bx.2.2.2.2.2.1, if_pos (ge_n (by omega))], by
    show fY0_digest_L89 N (n + 1) (mx Y h) (nI (sn B)) = _
    rw [fY0_digest_L89, mx_1, bY.2.2.2.1, if_pos (ge_n (by omega))]⟩) (fun n h s hs => by
    show ∃ h', fX29_mixInto_L2 N S (n + 1) h (nI s) = fX29_mixInto_L2 N S n h' (nI (s + 1)) ∧ fY0_digest_L89 N (n + 1) (mx Y h) (nI s) = fY0_digest_L89 N n (mx Y h') (nI (s + 1))
    have ib := inb_nI (show s < 8 by omega) (show 8 < 2 ^ 31 by decide)
    have ec : Int32.toNatClampNeg (nI s) = s := cl (by omega)
    have x3 := bx.2.2.2.2.2.2 s hs
    have y3 := bY.2.2.2.2 s hs
    rw [fX29_mixInto_L2, fY0_digest_L89, bx.2.2.2.2.2.1, mx_1, bY.2.2.2.1, if_neg (nI_ge hs (by omega)), if_neg (nI_ge hs (by omega)), ib, gd_true, gd_true, nx_eq, nx_eq, gd_true, gd_true, nx_eq, ec, mx_mix, bs, gd_true, mx_mix, bs, gd_true, mx_mix, bs, mx_1, mx_1, x3.1, x3.2.1, x3.2.2, y3.1, y3.2.1, y3.2.2, nI_1]
    exact ⟨_, rfl, rfl⟩) N 0 h (by omega) (by omega)
  have e1' : fX29_mixInto_L2 N S N h 0 = some h' := e1
  exact ⟨h', by rw [fX29_mixInto, e1', bs], e2⟩
theorem dg_heap {N : Nat} (hN : 1300 < N) (ok : okB B) (bx : BX S B) (bY : BY Y B) (h : Int64) : ∃ h', fX22_mixInto N S h = some h' ∧ fY0_digest_L135 N N (mx Y h) 0 = some (mx Y h') := by
  have h12 := ok.2.1
  obtain ⟨h', e1, e2⟩ := mix_loop (fun n h x => fX22_mixInto_L2 N S n h x) (fun n st x => fY0_digest_L135 N n st x) Y (hn B) (fun n h => ⟨by
    show fX22_mixInto_L2 N S (n + 1) h (nI (hn B)) = _
    rw [fX22_mixInto_L2, bx.2.2.1, if_pos (ge_n (by omega))], by
    show fY0_digest_L135 N (n + 1) (mx Y h) (nI (hn B)) = _
    rw [fY0_digest_L135, mx_1, bY.2.1, if_pos (ge_n (by omega))]⟩) (fun n h s hs => by
    show ∃ h', fX22_mixInto_L2 N S (n + 1) h (nI s) = fX22_mixInto_L2 N S n h' (nI (s + 1)) ∧ fY0_digest_L135 N (n + 1) (mx Y h) (nI s) = fY0_digest_L135 N n (mx Y h') (nI (s + 1))
    have ib := inb_nI (show s < 12 by omega) (show 12 < 2 ^ 31 by decide)
    have ec : Int32.toNatClampNeg (nI s) = s := cl (by omega)
    rw [fX22_mixInto_L2, fY0_digest_L135, bx.2.2.1, mx_1, bY.2.1, if_neg (nI_ge hs (by omega)), if_neg (nI_ge hs (by omega)), ib, gd_true, gd_true, nx_eq, ec, mx_mix, bs, bx.2.2.2.1 s hs, bY.2.2.1 s hs, nI_1]
    exact ⟨_, rfl, rfl⟩) N 0 h (by omega) (by omega)
  have e1' : fX22_mixInto_L2 N S N h 0 = some h' := e1
  exact ⟨h', by rw [fX22_mixInto, e1', bs], e2⟩
theorem dg_row {N : Nat} (hN : 1300 < N) {r n : Nat} (hr : r < 6) (hn : n ≤ 40) (g1 : S.1 9 r = nI n) (g2 : Y.1 2 r = nI n) (g3 : ∀ i, i < n → S.1 (3 + r) i = Y.1 3 (40 * r + i)) (h : Int64) : ∃ h', fX1_mixInto_L28 N S (nI r) N h 0 = some h' ∧ fY0_digest_L192 N (nI r) N (mx Y h) 0 = some (mx Y h') := by
  have ib := inb_nI hr (show 6 < 2 ^ 31 by decide)
  have er : Int32.toNatClampNeg (nI r) = r := cl (by omega)
  refine mix_loop (fun n h x => fX1_mixInto_L28 N S (nI r) n h x) (fun n st x => fY0_digest_L192 N (nI r) n st x) Y n (fun q h => ⟨?_, ?_⟩) (fun q h i hi => ?_) N 0 h (by omega) (by omega)
  · show fX1_mixInto_L28 N S (nI r) (q + 1) h (nI n) = _
    rw [fX1_mixInto_L28, ib, gd_true, er, g1, if_pos (ge_n (by omega))]
  · show fY0_digest_L192 N (nI r) (q + 1) (mx Y h) (nI n) = _
    rw [fY0_digest_L192, ib, gd_true, er, mx_1, g2, if_pos (ge_n (by omega))]
  · show ∃ h', fX1_mixInto_L28 N S (nI r) (q + 1) h (nI i) = fX1_mixInto_L28 N S (nI r) q h' (nI (i + 1)) ∧ fY0_digest_L192 N (nI r) (q + 1) (mx Y h) (nI i) = fY0_digest_L192 N (nI r) q (mx Y h') (nI (i + 1))
    rw [fX1_mixInto_L28, fY0_digest_L192, ib, gd_true, gd_true, er, mx_1, g1, g2, if_neg (nI_ge hi (by omega)), if_neg (nI_ge hi (by omega)), gd_true, inb_nI (show i < 40 by omega) (by decide), gd_true, nx_eq, cl (show i < 2 ^ 31 by omega), Y_rowAt hr (by omega), bs, mx_mix, bs, mx_1, g3 i hi, nI_1]
    exact ⟨_, rfl, rfl⟩
theorem dg_rows {N : Nat} (hN : 1300 < N) (hR : RowsR S Y) (h : Int64) : ∃ h', fX1_mixInto N S h = some h' ∧ fY0_digest_L161 N N (mx Y h) 0 = some (mx Y h') := by
  obtain ⟨h', e1, e2⟩ := mix_loop (fun n h x => fX1_mixInto_L2 N S n h x) (fun n st x => fY0_digest_L161 N n st x) Y 6 (fun n h => ⟨by
    show fX1_mixInto_L2 N S (n + 1) h (nI 6) = _
    rw [fX1_mixInto_L2, if_pos (by decide)], by
    show fY0_digest_L161 N (n + 1) (mx Y h) (nI 6) = _
    rw [fY0_digest_L161, if_pos (by decide)]⟩) (fun n h r hr => by
    show ∃ h', fX1_mixInto_L2 N S (n + 1) h (nI r) = fX1_mixInto_L2 N S n h' (nI (r + 1)) ∧ fY0_digest_L161 N (n + 1) (mx Y h) (nI r) = fY0_digest_L161 N n (mx Y h') (nI (r + 1))
    have ib := inb_nI hr (show 6 < 2 ^ 31 by decide)
    have er : Int32.toNatClampNeg (nI r) = r := cl (by omega)
    rw [fX1_mixInto_L2, fY0_digest_L161, if_neg (show ¬ (6 : Int32) ≤ nI r from nI_ge hr (by decide)), if_neg (show ¬ (6 : Int32) ≤ nI r from nI_ge hr (by decide)), ib, gd_true, gd_true, gd_true, nx_eq, er, mx_1, nI_1]
    rcases hR r hr with ⟨g1, g2⟩ | ⟨m, hm, g1, g2, g3⟩
    · obtain ⟨M, rfl⟩ : ∃ M, N = M + 1 := ⟨N - 1, by omega⟩
      have f1 : ∀ h, fX1_mixInto_L28 (M + 1) S (nI r) (M + 1) h 0 = some h := fun h => by
        rw [fX1_mixInto_L28, ib, gd_true, er, g1, if_pos (by decide)]
      have f2 : ∀ h, fY0_digest_L192 (M + 1) (nI r) (M + 1) (mx Y h) 0 = some (mx Y h) := fun h => by
        rw [fY0_digest_L192, ib, gd_true, er, mx_1, g2, if_pos (by decide)]
      rw [g1, g2, if_neg (by decide), bs, mx_mix, bs, f1, f2, bs, bs]
      exact ⟨_, rfl, rfl⟩
    · rw [g1, g2, if_pos (show (0 : Int32) ≤ nI m from nI_le (Nat.zero_le _) (by omega)), bs, mx_mix, bs]
      obtain ⟨h', q1, q2⟩ := dg_row hN hr hm g1 g2 g3 (31 * h + Int32.toInt64 (nI m))
      rw [q1, q2, bs, bs]
      exact ⟨_, rfl, rfl⟩) N 0 h (by omega) (by omega)
  have e1' : fX1_mixInto_L2 N S N h 0 = some h' := e1
  exact ⟨h', by rw [fX1_mixInto, e1', bs], e2⟩
theorem dg_text {N : Nat} (hN : 1300 < N) {r n : Nat} (hr : r < 4) (hn : n ≤ 60) (g1 : S.1 16 r = nI n) (g2 : Y.1 5 r = nI n) (g3 : ∀ i, i < n → S.1 (12 + r) i = Y.1 6 (60 * r + i)) (h : Int64) : ∃ h', fX10_mixInto_L28 N S (nI r) N h 0 = some h' ∧ fY0_digest_L256 N (nI r) N (mx Y h) 0 = some (mx Y h') := by
  have ib := inb_nI hr (show 4 < 2 ^ 31 by decide)
  have er : Int32.toNatClampNeg (nI r) = r := cl (by omega)
  refine mix_loop (fun n h x => fX10_mixInto_L28 N S (nI r) n h x) (fun n st x => fY0_digest_L256 N (nI r) n st x) Y n (fun q h => ⟨?_, ?_⟩) (fun q h i hi => ?_) N 0 h (by omega) (by omega)
  · show fX10_mixInto_L28 N S (nI r) (q + 1) h (nI n) = _
    rw [fX10_mixInto_L28, ib, gd_true, er, g1, if_pos (ge_n (by omega))]
  · show fY0_digest_L256 N (nI r) (q + 1) (mx Y h) (nI n) = _
    rw [fY0_digest_L256, ib, gd_true, er, mx_1, g2, if_pos (ge_n (by omega))]
  · show ∃ h', fX10_mixInto_L28 N S (nI r) (q + 1) h (nI i) = fX10_mixInto_L28 N S (nI r) q h' (nI (i + 1)) ∧ fY0_digest_L256 N (nI r) (q + 1) (mx Y h) (nI i) = fY0_digest_L256 N (nI r) q (mx Y h') (nI (i + 1))
    rw [fX10_mixInto_L28, fY0_digest_L256, ib, gd_true, gd_true, er, mx_1, g1, g2, if_neg (nI_ge hi (by omega)), if_neg (nI_ge hi (by omega)), gd_true, inb_nI (show i < 60 by omega) (by decide), gd_true, nx_eq, cl (show i < 2 ^ 31 by omega), ix60, inb_nI (show 60 * r + i < 240 by omega) (by decide), gd_true, cl (show 60 * r + i < 2 ^ 31 by omega), mx_mix, bs, g3 i hi, nI_1]
    exact ⟨_, rfl, rfl⟩
theorem dg_texts {N : Nat} (hN : 1300 < N) (hR : TextsR S Y) (h : Int64) : ∃ h', fX10_mixInto N S h = some h' ∧ fY0_digest_L226 N N (mx Y h) 0 = some (mx Y h') := by
  obtain ⟨h', e1, e2⟩ := mix_loop (fun n h x => fX10_mixInto_L2 N S n h x) (fun n st x => fY0_digest_L226 N n st x) Y 4 (fun n h => ⟨by
    show fX10_mixInto_L2 N S (n + 1) h (nI 4) = _
    rw [fX10_mixInto_L2, if_pos (by decide)], by
    show fY0_digest_L226 N (n + 1) (mx Y h) (nI 4) = _
    rw [fY0_digest_L226, if_pos (by decide)]⟩) (fun n h r hr => by
    show ∃ h', fX10_mixInto_L2 N S (n + 1) h (nI r) = fX10_mixInto_L2 N S n h' (nI (r + 1)) ∧ fY0_digest_L226 N (n + 1) (mx Y h) (nI r) = fY0_digest_L226 N n (mx Y h') (nI (r + 1))
    have ib := inb_nI hr (show 4 < 2 ^ 31 by decide)
    have er : Int32.toNatClampNeg (nI r) = r := cl (by omega)
    rw [fX10_mixInto_L2, fY0_digest_L226, if_neg (show ¬ (4 : Int32) ≤ nI r from nI_ge hr (by decide)), if_neg (show ¬ (4 : Int32) ≤ nI r from nI_ge hr (by decide)), ib, gd_true, gd_true, gd_true, nx_eq, er, mx_1, nI_1]
    rcases hR.1 r hr with ⟨g1, g2⟩ | ⟨m, hm, g1, g2, g3⟩
    · obtain ⟨M, rfl⟩ : ∃ M, N = M + 1 := ⟨N - 1, by omega⟩
      have f1 : ∀ h, fX10_mixInto_L28 (M + 1) S (nI r) (M + 1) h 0 = some h := fun h => by
        rw [fX10_mixInto_L28, ib, gd_true, er, g1, if_pos (by decide)]
      have f2 : ∀ h, fY0_digest_L256 (M + 1) (nI r) (M + 1) (mx Y h) 0 = some (mx Y h) := fun h => by
        rw [fY0_digest_L256, ib, gd_true, er, mx_1, g2, if_pos (by decide)]
      rw [g1, g2, if_neg (by decide), bs, mx_mix, bs, f1, f2, bs, bs]
      exact ⟨_, rfl, rfl⟩
    · rw [g1, g2, if_pos (show (0 : Int32) ≤ nI m from nI_le (Nat.zero_le _) (by omega)), bs, mx_mix, bs]
      obtain ⟨h', q1, q2⟩ := dg_text hN hr hm g1 g2 g3 (31 * h + Int32.toInt64 (nI m))
      rw [q1, q2, bs, bs]
      exact ⟨_, rfl, rfl⟩) N 0 h (by omega) (by omega)
  have e1' : fX10_mixInto_L2 N S N h 0 = some h' := e1
  exact ⟨h', by rw [fX10_mixInto, e1', bs], e2⟩
theorem op16_digest {N : Nat} (hN : 41000 < N) : op_digest N RR := by
  intro S Y h
  obtain ⟨B, ok, bx, bY⟩ := h.2.2.2
  obtain ⟨S1, lo, hi, f1, b1, f2, x1, w1⟩ := X_look (N := N) (by omega) ok bx
  have R1 : RR S1 Y := RR_ag h (agX_look f1) agr_refl
  have m0 : ∀ h0, RR S (mx Y h0) := fun _ => RR_ag h agr_refl mx_ag
  obtain ⟨h1, a1, a2⟩ := mix_loop (fun n h x => fX0_digest_L6 N S n h x) (fun n st x => fY0_digest_L9 N n st x) Y 5 (fun n h => ⟨by
    show fX0_digest_L6 N S (n + 1) h (nI 5) = _
    rw [fX0_digest_L6, if_pos (by decide)], by
    show fY0_digest_L9 N (n + 1) (mx Y h) (nI 5) = _
    rw [fY0_digest_L9, if_pos (by decide)]⟩) (fun n h0 r hr => by
    show ∃ h', fX0_digest_L6 N S (n + 1) h0 (nI r) = fX0_digest_L6 N S n h' (nI (r + 1)) ∧ fY0_digest_L9 N (n + 1) (mx Y h0) (nI r) = fY0_digest_L9 N n (mx Y h') (nI (r + 1))
    obtain ⟨v, q1, q2⟩ := cnt_R (N := N) (by omega) (m0 h0) bx (show BY (mx Y h0) B from bY) hr
    have nl : ¬ (4 : Int32) < nI r := nI_nlt (a := 4) (by omega) (by decide)
    rw [fX0_digest_L6, fY0_digest_L9, if_neg nl, if_neg nl, q1, q2, bs, bs, nx_eq, mx_mix, bs, nI_1]
    exact ⟨_, rfl, rfl⟩) N 0 17 (by omega) (by omega)
  have a1' : fX0_digest_L6 N S N 17 0 = some h1 := a1
  have a2' : fY0_digest_L9 N N (p2 Y 0 43 17) 0 = some (mx Y h1) := a2
  obtain ⟨h2, c1, c2⟩ := dg_cells (N := N) (by omega) ok b1 bY f2 x1 w1 h1
  obtain ⟨h3, d1, d2⟩ := dg_sums (N := N) (by omega) ok b1 bY h2
  obtain ⟨h4, e1, e2⟩ := dg_heap (N := N) (by omega) ok b1 bY h3
  obtain ⟨h5, g1, g2⟩ := dg_rows (N := N) (by omega) R1.1 h4
  obtain ⟨h6, i1, i2⟩ := dg_texts (N := N) (by omega) R1.2.1 h5
  unfold fX0_digest fY0_digest
  rw [a1', bs, f1, bs, c1, bs, d1, bs, e1, bs, g1, bs, i1, bs, nx_eq, a2', bs, c2, bs, d2, bs, e2, bs, g2, bs, i2, bs]
  refine ⟨h6, S1, mx Y h6, rfl, ?_, RR_ag R1 agr_refl mx_ag⟩
  unfold mx
  rw [p2_eq]
end OY
