/-! fill -/
section OU
variable {S S' Y Y' : St} {B : Bk} {out lim : Nat} {lo hi lo' hi' : Nat → Int} {L L' : Nat → Nat → Bool} {τ : Nat → Nat} {w : Option Nat} {W : Option (Nat → Nat)} {a : Acc}
theorem write_R {N : Nat} (hN : 61 < N) (h : RR S Y) (bx : BX S B) (bY : BY Y B) {j k : Nat} (hj : j < 6) (lk1 : lenX k = 12) (hk : 37 < k) (h1 : ∀ d, d < 12 → thr B d = true → S.1 k d = nI (τ d)) (h2 : ∀ d, d < 12 → thr B d = true → Y.1 22 d = nI (τ d)) : ∃ S' Y', fX37_writeFilling N S k (nI j) = some S' ∧ fY0_comeTo N Y (nI j) = some Y' ∧ RR S' Y' ∧ S'.1 37 13 = S.1 37 13 := by
  have ej : Int32.toNatClampNeg (nI j) = j := cl (by omega)
  have ib : inb (nI j) 6 = true := inb_nI hj (by decide)
  obtain ⟨S1, e1, m1, m2, m3, m4⟩ := X1_make (N := N) (by omega) S (j := j) (n := 12) hj (by omega)
  have e1' : fX1_make N S (nI j) 12 = some S1 := e1
  obtain ⟨S2, e2, s1, s2, s3⟩ := loop_up (fun q st x => fX37_writeFilling_L10 N k (nI j) q st x) 12
    (fun i st => (∀ c, c < i → st.1 (3 + j) c = if thr B c = true then nI (τ c) else -1) ∧ (∀ a b, a ≠ 3 + j → st.1 a b = S1.1 a b) ∧ st.2 = S1.2)
    (fun st => (∀ c, c < 12 → st.1 (3 + j) c = if thr B c = true then nI (τ c) else -1) ∧ (∀ a b, a ≠ 3 + j → st.1 a b = S1.1 a b) ∧ st.2 = S1.2)
    (fun q st hI => ⟨st, by
      show fX37_writeFilling_L10 N k (nI j) (q + 1) st (nI 12) = _
      rw [fX37_writeFilling_L10, if_pos (by decide)], hI⟩)
    (fun q i st hi hI => by
      right
      obtain ⟨g1, g2, g3⟩ := hI
      show ∃ s', _ ∧ fX37_writeFilling_L10 N k (nI j) (q + 1) st (nI i) = fX37_writeFilling_L10 N k (nI j) q s' (nI (i + 1))
      have o : ∀ a b, a ≠ 3 + j → ¬ (a = 9 ∧ b = j) → st.1 a b = S.1 a b := fun a b q1 q2 => by rw [g2 a b q1, m3 a b q1 q2]
      have b1 : BX st B := BX_c bx (funext fun q => o 26 q (by omega) (by omega)) (funext fun q => o 27 q (by omega) (by omega)) (funext fun q => o 28 q (by omega) (by omega)) (o _ _ (by omega) (by omega)) (o _ _ (by omega) (by omega)) (funext fun q => o 23 q (by omega) (by omega)) (funext fun q => o 24 q (by omega) (by omega)) (o _ _ (by omega) (by omega)) (funext fun q => o 30 q (by omega) (by omega)) (funext fun q => o 31 q (by omega) (by omega)) (funext fun q => o 32 q (by omega) (by omega))
      have key : (if bI (thr B i) = 0 then some (-1) else gd (inb (nI i) (lenX k)) <| some (st.1 k (Int32.toNatClampNeg (nI i)))) = some (if thr B i = true then nI (τ i) else -1) := by
        rw [if_bI0]
        cases ti : thr B i
        · rw [if_neg (by decide), if_neg (by decide)]
        · rw [if_pos rfl, if_pos rfl, lk1, inb_nI hi (by decide), gd_true, cl (show i < 2 ^ 31 by omega), o k i (by omega) (by omega), h1 i hi ti]
      rw [fX37_writeFilling_L10, if_neg (show ¬ (12 : Int32) ≤ nI i from nI_ge hi (by decide)), X_there b1 hi, bs, key, bs, fX1_set, ib, gd_true, inb_nI (show i < 40 by omega) (by decide), gd_true, nx_eq, bs, ej, cl (show i < 2 ^ 31 by omega), nI_1]
      refine ⟨p1 st (3 + j) i (if thr B i = true then nI (τ i) else -1), ⟨fun c hc => ?_, fun a b q1 => by rw [p1_ne q1]; exact g2 a b q1, g3⟩, rfl⟩
      by_cases z : c = i
      · subst z; rw [p1_eq]
      · rw [p1_ni z]; exact g1 c (by omega))
    N 0 S1 (by omega) (by omega) ⟨fun c hc => by omega, fun _ _ _ => rfl, rfl⟩
  have e2' : fX37_writeFilling_L10 N k (nI j) N S1 0 = some S2 := e2
  obtain ⟨Y1, f1, n1, n2, n3⟩ := Y_row_L (N := N) (by omega) (p1 Y 2 j 12) (j := j) 12 hj
  have f1' : fY0_row N Y (nI j) 12 = some (12, Y1) := by
    rw [fY0_row, YisRow, bs, if_pos ib, if_neg ne10, if_pos (show (12 : Int32) ≤ 40 by decide), if_pos (show (0 : Int32) ≤ 12 by decide), ib, gd_true, nx_eq, ej, f1, bs]
  obtain ⟨Y2, f2, y1, y2, y3⟩ := loop_up (fun q st x => fY0_comeTo_L10 N (nI j) q st x) 12
    (fun i st => (∀ c, c < i → st.1 3 (40 * j + c) = if thr B c = true then nI (τ c) else -1) ∧ (∀ a b, ¬ (a = 3 ∧ 40 * j ≤ b ∧ b < 40 * j + 40) → st.1 a b = Y1.1 a b) ∧ st.2 = Y1.2)
    (fun st => (∀ c, c < 12 → st.1 3 (40 * j + c) = if thr B c = true then nI (τ c) else -1) ∧ (∀ a b, ¬ (a = 3 ∧ 40 * j ≤ b ∧ b < 40 * j + 40) → st.1 a b = Y1.1 a b) ∧ st.2 = Y1.2)
    (fun q st hI => ⟨st, by
      show fY0_comeTo_L10 N (nI j) (q + 1) st (nI 12) = _
      rw [fY0_comeTo_L10, if_pos (by decide)], hI⟩)
    (fun q i st hi hI => by
      right
      obtain ⟨g1, g2, g3⟩ := hI
      show ∃ s', _ ∧ fY0_comeTo_L10 N (nI j) (q + 1) st (nI i) = fY0_comeTo_L10 N (nI j) q s' (nI (i + 1))
      have o : ∀ a b, a ≠ 3 → a ≠ 2 → st.1 a b = Y.1 a b := fun a b q1 q2 => by rw [g2 a b (by omega), n2 a b (by omega), p1_ne q2]
      have b1 : BY st B := BY_o bY (fun a b q => o a b (by omega) (by omega))
      have key : (if bI (thr B i) = 0 then some (-1) else gd (inb (nI i) 12) <| some (st.1 22 (Int32.toNatClampNeg (nI i)))) = some (if thr B i = true then nI (τ i) else -1) := by
        rw [if_bI0]
        cases ti : thr B i
        · rw [if_neg (by decide), if_neg (by decide)]
        · rw [if_pos rfl, if_pos rfl, inb_nI hi (by decide), gd_true, cl (show i < 2 ^ 31 by omega), o 22 i (by omega) (by omega), h2 i hi ti]
      rw [fY0_comeTo_L10, if_neg (show ¬ (12 : Int32) ≤ nI i from nI_ge hi (by decide)), Y_there b1 hi, bs, key, bs, ix40, inb_nI (show 40 * j + i < 240 by omega) (by decide), gd_true, nx_eq, cl (show 40 * j + i < 2 ^ 31 by omega), nI_1]
      refine ⟨p1 st 3 (40 * j + i) (if thr B i = true then nI (τ i) else -1), ⟨fun c hc => ?_, fun a b q1 => by rw [p1_at, if_neg (by omega)]; exact g2 a b q1, g3⟩, rfl⟩
      by_cases z : c = i
      · subst z; rw [p1_eq]
      · rw [p1_ni (by omega)]; exact g1 c (by omega))
    N 0 Y1 (by omega) (by omega) ⟨fun c hc => by omega, fun _ _ _ => rfl, rfl⟩
  have f2' : fY0_comeTo_L10 N (nI j) N Y1 0 = some Y2 := f2
  refine ⟨S2, Y2, by rw [fX37_writeFilling, e1', bs, e2', bs], by rw [fY0_comeTo, f1', bs, f2', bs], ?_, ?_⟩
  · refine RR_row h hj (Or.inr ⟨12, by omega, ?_, ?_, fun i hi => ?_⟩) (fun a b q1 q2 => by rw [s2 a b q1, m3 a b q1 q2]) (fun a b q1 q2 q3 => by rw [y2 a b q1, n2 a b q1, p1_at, if_neg q2]) (s3.trans m4) (y3.trans n3)
    · rw [s2 9 j (by omega), m1]
    · rw [y2 2 j (by omega), n2 2 j (by omega), p1_eq]; rfl
    · show S2.1 (3 + j) i = Y2.1 3 (40 * j + i)
      rw [s1 i hi, y1 i hi]
  · rw [s2 37 13 (by omega), m3 37 13 (by omega) (by omega)]
theorem Y_fillL {N : Nat} (hN : 1300 < N) (hN2 : 2 * lim + 14 < N) (ok : okB B) (hlim : lim < 2 ^ 30) (nm : ∀ c v : Nat, c < 12 → v < 100 → L c v = true → nmd B) {i : Nat} (hi : i < 2 ^ 31) {x2 : Int32} (yc : YC Y B L 0 lim 0) (ys : YS Y B L 0 (evs B L 0)) : ∃ t : St × Int32, fY0_fill_L29 N (nI i) x2 N Y 0 = some t ∧ agY Y t.1 ∧ BY t.1 B ∧ t.1.1 0 36 = bI (fin B L 0 lim (some i)).2.2.1 ∧ (((nI i < t.2) ∧ (fin B L 0 lim (some i)).2.2.2 = true ∧ ∃ τ fl, (fin B L 0 lim (some i)).2.1 = τ :: fl ∧ ∀ d, d < 12 → thr B d = true → t.1.1 22 d = nI (τ d)) ∨ (¬ (nI i < t.2) ∧ (fin B L 0 lim (some i)).2.2.2 = false)) := by
  have fb := fin_b B L 0 lim (some i)
  obtain ⟨t, e, h⟩ := loop_me (fun n (s : St × Nat × List Ev × List (Nat → Nat)) => fY0_fill_L29 N (nI i) x2 n s.1 (nI s.2.2.2.length))
    (fun s => agY Y s.1 ∧ YC s.1 B L 0 lim s.2.1 ∧ ((s.2.2.2.length ≤ i ∧ YS s.1 B L 0 s.2.2.1 ∧ run lim (some i) (s.2.1, s.2.2.2, false, false) s.2.2.1 = fin B L 0 lim (some i)) ∨ ∃ τ fl, s.2.2.2 = τ :: fl ∧ fl.length = i ∧ (∀ d, d < 12 → thr B d = true → s.1.1 22 d = nI (τ d)) ∧ fin B L 0 lim (some i) = (s.2.1, s.2.2.2, false, true)))
    (fun s => 2 * (lim - s.2.1) + min s.2.2.1.length 1)
    (fun t => agY Y t.1 ∧ BY t.1 B ∧ t.1.1 0 36 = bI (fin B L 0 lim (some i)).2.2.1 ∧ (((nI i < t.2) ∧ (fin B L 0 lim (some i)).2.2.2 = true ∧ ∃ τ fl, (fin B L 0 lim (some i)).2.1 = τ :: fl ∧ ∀ d, d < 12 → thr B d = true → t.1.1 22 d = nI (τ d)) ∨ (¬ (nI i < t.2) ∧ (fin B L 0 lim (some i)).2.2.2 = false)))
    (fun n s hI => by
      obtain ⟨T, st, R, fl⟩ := s
      obtain ⟨ag, yc, hI⟩ := hI
      dsimp only at ag yc hI ⊢
      rw [fY0_fill_L29]
      rcases hI with ⟨hl, ys, hr⟩ | ⟨τ, fl', h1, h2, h3, h4⟩
      rotate_left
      · left
        have e5 : fl.length = i + 1 := by rw [h1, List.length_cons, h2]
        have e6 : i + 1 ≤ lim + 1 := by
          rw [h4] at fb
          dsimp only at fb
          omega
        have lt : nI i < nI fl.length := by rw [e5]; exact nI_lt (by omega) (by omega)
        rw [if_pos lt]
        refine ⟨_, rfl, ag, yc.1, ?_, Or.inl ⟨lt, ?_, τ, fl', ?_, h3⟩⟩
        · rw [h4]; exact yc.2.2.2.2.2.2.2.1
        · rw [h4]
        · rw [h4]; exact h1
      rw [if_neg (nI_nlt hl hi)]
      obtain ⟨r, Z, eZ, z1, z0⟩ := Y_next (by omega) hN2 ok (by omega) hlim nm yc ys
      have ag2 : agY Y Z := agr_trans ag (agr_of (frY0_nextFilling eZ) (by decide) (by decide) (by decide))
      rw [eZ, bs]
      dsimp only
      rw [if_bI0, nI_1]
      cases r
      · left
        rw [if_neg (by decide)]
        obtain ⟨b1, b2, b3, e, st', b4, b5, b6⟩ := z0 rfl
        have hr2 := hr
        rw [b6] at hr2
        refine ⟨_, rfl, ag2, b1, ?_, Or.inr ⟨nI_nlt hl hi, ?_⟩⟩
        · rw [← hr2]; exact b4
        · rw [← hr2]
      · right
        rw [if_pos rfl]
        obtain ⟨τ, st', R', n1, n2, n3, n4, n5, n6⟩ := z1 rfl
        have mu : 2 * (lim - st') + min R'.length 1 < 2 * (lim - st) + min R.length 1 := by
          have := n1.2.2.2.2.2.2.2.2
          rcases n4 with q | ⟨q1, q2⟩
          · omega
          · subst q1
            cases R with
            | nil => exact absurd rfl q2
            | cons x R =>
              rw [List.length_cons, List.length_nil]
              omega
        refine ⟨(Z, st', R', τ :: fl), ⟨ag2, n1, ?_⟩, mu, rfl⟩
        dsimp only
        rw [n6] at hr
        by_cases q : fl.length = i
        · right
          refine ⟨τ, fl, rfl, q, fun d hd td => (n5 d hd td).1, ?_⟩
          rw [← hr, decide_eq_true (by rw [q]), run_end (show ((false : Bool) || true) = true from rfl)]
        · left
          refine ⟨by rw [List.length_cons]; omega, n2, ?_⟩
          rw [← hr, decide_eq_false (fun z => q (by injection z with z; exact z.symm))])
    N (Y, 0, evs B L 0, []) (by show 2 * (lim - 0) + min (evs B L 0).length 1 < N; omega) ⟨agr_refl, yc, Or.inl ⟨Nat.zero_le _, ys, rfl⟩⟩
  exact ⟨t, e, h⟩
theorem op12_fill {N : Nat} (hN : 41000 < N) : op_fill N RR := by
  intro S Y a1 a2 a3 h
  obtain ⟨B, ok, bx, bY⟩ := h.2.2.2
  unfold fX0_fill fY0_fill
  by_cases z : a1 < 0
  · rw [if_pos z, if_pos z]
    exact ⟨-1, S, Y, rfl, rfl, h⟩
  rw [if_neg z, if_neg z, XisRow, YisRow, bs, bs]
  by_cases h1 : inb a2 6 = true
  rotate_left
  · rw [if_neg h1, if_pos rfl, if_pos rfl]
    exact ⟨-1, S, Y, rfl, rfl, h⟩
  obtain ⟨j, hj, rfl⟩ := inb_ex h1 (by decide)
  rw [if_pos h1, if_neg ne10, if_neg ne10]
  rcases turns S Y a3 with ⟨q1, q2⟩ | ⟨lim, rfl, l1, l2, q1, q2⟩
  · rw [q1, q2]
    exact ⟨-1, S, Y, rfl, rfl, h⟩
  rw [q1, q2, bs, bs, if_neg ne10, if_neg ne10]
  obtain ⟨i, hi, rfl⟩ : ∃ i, i < 2 ^ 31 ∧ a1 = nI i := by
    have a : ¬ a1.toInt < 0 := fun q => z ((fa_lt _ _).mpr q)
    have b := Int32.toInt_lt a1
    refine ⟨a1.toInt.toNat, by omega, ?_⟩
    rw [iI_nat, Int.toNat_of_nonneg (by omega), iI_of]
  obtain ⟨S1, Y1, L, lo, hi', f1, f2, n⟩ := narrowAll_R (N := N) (by omega) ok bx bY
  have n' := n
  obtain ⟨n1, n2, n3, n4, n5, n6, n7, n8, n9⟩ := n
  obtain ⟨U, eU, xf⟩ := X_goTo (N := N) (S := S1) (B := B) (out := 0) (lim := lim) (w := some i) (W := none) (L := L) (lo := lo) (hi := hi') (by omega) ok (by omega) (fun i' q => by injection q with q; omega) (by omega) n1 n3 n4 (fun c hc tc v hv => (lfE_n n' hc tc hv).symm) n9 (fun q => absurd q (by simp)) (fun q => absurd q (by simp))
  have eU2 : fX37_goTo N S1 (nI i) (nI lim) 0 = some U := eU
  obtain ⟨T, eT, yc, ys⟩ := Y_begin (N := N) (out := 0) (lim := lim) (by omega) ok (by omega) f2 n2 n5
  have eT2 : fY0_begin N Y (nI lim) 0 = some T := eT
  obtain ⟨t, et, t0, t1, t2, t3⟩ := Y_fillL (N := N) (x2 := nI j) (by omega) (by omega) ok (by omega) n9 hi yc ys
  have R1 : RR U t.1 := RR_ag (RR_ag (RR_ag h (agX_nar f1) agr_refl) (agr_of (frX37_goTo eU2) (by decide) (by decide) (by decide)) (agr_of (frY0_begin eT2) (by decide) (by decide) (by decide))) agr_refl t0
  rw [f1, bs, eU2, bs, eT2, bs, et, bs, fX37_isSpent, xf.2.2.2.1, bI_isb, gd_true, bs, if_bI0, t2, if_bI0]
  cases es : (fin B L 0 lim (some i)).2.2.1
  rotate_left
  · rw [if_pos rfl, if_pos rfl]
    exact ⟨_, _, _, rfl, rfl, R1⟩
  rw [if_neg (by decide), if_neg (by decide), fX37_hasReached, xf.2.2.2.2.1, bI_isb, gd_true, bs, if_bI0]
  rcases t3 with ⟨r1, r2, τ, fl, r3, r4⟩ | ⟨r1, r2⟩
  · obtain ⟨τ', fl', u1, u2⟩ := xf.2.2.2.2.2.1 r2
    have eτ : τ' = τ := by
      rw [r3] at u1
      injection u1 with u1 _
      exact u1.symm
    subst eτ
    obtain ⟨S2, Y2, g1, g2, g3, _⟩ := write_R (N := N) (by omega) R1 xf.1 t1 hj (k := 38) rfl (by omega) u2 r4
    rw [r2, if_pos rfl, if_pos r1, fX37_writeReached, g1, g2, bs, bs, bs]
    exact ⟨_, _, _, rfl, rfl, g3⟩
  · rw [r2, if_neg (by decide), if_neg r1]
    exact ⟨_, _, _, rfl, rfl, R1⟩
end OU
