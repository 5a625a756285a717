/-! the walk: all fillings -/
def YT (Y : St) (B : Bk) (a : Acc) : Prop := BY Y B ∧ Y.1 0 27 = nI (nth B) ∧ (∀ k, k < nth B → Y.1 20 k = nI (cel B k)) ∧ Y.1 0 36 = bI a.2.2.1 ∧ (a.2.2.1 = false → Y.1 0 32 = nI a.1) ∧ Y.1 0 37 = nI a.2.1.length ∧ ∀ c, c < 12 → thr B c = true → ∀ v, v < 100 → Y.1 23 (100 * c + v) = nI (cnF a.2.1 c v)
section OR
variable {S S' Y Y' : St} {B : Bk} {out lim : Nat} {lo hi lo' hi' : Nat → Int} {L L' : Nat → Nat → Bool} {τ : Nat → Nat} {w : Option Nat} {W : Option (Nat → Nat)} {a : Acc}
theorem Y_tally {N : Nat} (hN : 61 < N) (h27 : Y.1 0 27 = nI (nth B)) (h20 : ∀ k, k < nth B → Y.1 20 k = nI (cel B k)) (ag : ∀ d, d < 12 → thr B d = true → Y.1 22 d = nI (τ d) ∧ τ d < 100) : ∃ Y', fY0_goThrough_L52 N N Y 0 = some Y' ∧ (∀ c, c < 12 → thr B c = true → ∀ v, v < 100 → Y'.1 23 (100 * c + v) = Y.1 23 (100 * c + v) + (if τ c = v then 1 else 0)) ∧ ∀ k q, k ≠ 23 → Y'.1 k q = Y.1 k q := by
  have nb := nth_le B
  obtain ⟨t, e1, h1, h2⟩ := loop_up (fun q st x => fY0_goThrough_L52 N q st x) (nth B)
    (fun i st => (∀ c, c < 12 → thr B c = true → ∀ v, v < 100 → st.1 23 (100 * c + v) = Y.1 23 (100 * c + v) + (if fb_ct (thr B) c < i ∧ τ c = v then 1 else 0)) ∧ ∀ k q, k ≠ 23 → st.1 k q = Y.1 k q)
    (fun st => (∀ c, c < 12 → thr B c = true → ∀ v, v < 100 → st.1 23 (100 * c + v) = Y.1 23 (100 * c + v) + (if fb_ct (thr B) c < nth B ∧ τ c = v then 1 else 0)) ∧ ∀ k q, k ≠ 23 → st.1 k q = Y.1 k q)
    (fun q st hI => ⟨st, by
      show fY0_goThrough_L52 N (q + 1) st (nI (nth B)) = _
      rw [fY0_goThrough_L52, hI.2 0 27 (by decide), h27, if_pos (ge_n (by omega))], hI⟩)
    (fun q i st hi hI => by
      obtain ⟨g1, g2⟩ := hI
      right
      show ∃ s', _ ∧ fY0_goThrough_L52 N (q + 1) st (nI i) = fY0_goThrough_L52 N q s' (nI (i + 1))
      have cb := cel_b hi
      have a := ag (cel B i) cb.1 cb.2.1
      rw [fY0_goThrough_L52, g2 0 27 (by decide), h27, if_neg (nI_ge hi (by omega)), inb_nI (show i < 12 by omega) (by decide), gd_true, gd_true, cl (show i < 2 ^ 31 by omega), g2 20 i (by decide), h20 i hi, inb_nI cb.1 (by decide), gd_true, cl (show cel B i < 2 ^ 31 by omega), g2 22 _ (by decide), a.1, ixY, inb_nI (show 100 * cel B i + τ (cel B i) < 1200 by omega) (by decide), gd_true, gd_true, nx_eq, cl (show 100 * cel B i + τ (cel B i) < 2 ^ 31 by omega), nI_1]
      refine ⟨p1 st 23 (100 * cel B i + τ (cel B i)) (st.1 23 (100 * cel B i + τ (cel B i)) + 1), ⟨fun c hc tc v hv => ?_, fun k q hk => by rw [p1_ne hk]; exact g2 k q hk⟩, rfl⟩
      by_cases e : 100 * c + v = 100 * cel B i + τ (cel B i)
      · have e1 : c = cel B i := by omega
        rw [e1] at e hc tc ⊢
        have e2 : v = τ (cel B i) := by omega
        rw [e2] at hv ⊢
        rw [p1_eq, g1 _ hc tc _ hv, if_neg (by omega), if_pos (by omega)]
        simp
      · rw [p1_ni e, g1 c hc tc v hv]
        have : (fb_ct (thr B) c < i + 1 ∧ τ c = v) ↔ (fb_ct (thr B) c < i ∧ τ c = v) := by
          constructor
          · rintro ⟨q1, q2⟩
            refine ⟨?_, q2⟩
            rcases Nat.lt_or_ge (fb_ct (thr B) c) i with q | q
            · exact q
            · have z : c = cel B i := by rw [← cel_at hc tc, show fb_ct (thr B) c = i by omega]
              rw [z] at q2 e
              omega
          · rintro ⟨q1, q2⟩
            exact ⟨by omega, q2⟩
        simp only [this])
    N 0 Y (by omega) (by omega) ⟨fun c hc tc v hv => by rw [if_neg (by omega)]; simp, fun _ _ _ => rfl⟩
  refine ⟨t, e1, fun c hc tc v hv => ?_, h2⟩
  rw [h1 c hc tc v hv]
  have m := fb_ct_mono (thr B) (show c + 1 ≤ 12 by omega)
  rw [fb_ct_succ, if_pos tc] at m
  have : (fb_ct (thr B) c < nth B ∧ τ c = v) ↔ τ c = v := ⟨fun q => q.2, fun q => ⟨by rw [nth_e]; omega, q⟩⟩
  simp only [this]
theorem BY_o (bY : BY Y B) (o : ∀ k q, (k = 0 ∧ (q = 18 ∨ q = 22)) ∨ (10 ≤ k ∧ k ≤ 16) → Y'.1 k q = Y.1 k q) : BY Y' B := BY_c bY (funext fun q => o 10 q (by omega)) (funext fun q => o 11 q (by omega)) (funext fun q => o 12 q (by omega)) (o _ _ (by omega)) (funext fun q => o 16 q (by omega)) (o _ _ (by omega)) (funext fun q => o 13 q (by omega)) (funext fun q => o 14 q (by omega)) (funext fun q => o 15 q (by omega))
theorem YS_o {R : List Ev} (y : YS Y B L out R) (o : ∀ k q, (k = 0 ∧ (q = 31 ∨ q = 35)) ∨ k = 21 ∨ k = 22 → Y'.1 k q = Y.1 k q) : YS Y' B L out R := by
  rcases y with ⟨k1, k2⟩ | ⟨k1, k2, k3⟩ | ⟨lv, k1, k2, k3, k4, G, cur, k5, k6, k7⟩
  · exact Or.inl ⟨by rw [o _ _ (by omega)]; exact k1, k2⟩
  · exact Or.inr (Or.inl ⟨by rw [o _ _ (by omega)]; exact k1, k2, k3⟩)
  · exact Or.inr (Or.inr ⟨lv, by rw [o _ _ (by omega)]; exact k1, k2, k3, by rw [o _ _ (by omega)]; exact k4, G, cur, k5, fun k hk => by rw [o _ _ (by omega)]; exact k6 k hk, fun k hk j hj => by rw [o _ _ (by omega)]; exact k7 k hk j hj⟩)
theorem YC_o {st : Nat} (y : YC Y B L out lim st) (o : ∀ k q, (k = 0 ∧ q ≠ 37) ∨ (10 ≤ k ∧ k ≤ 17) ∨ k = 20 → Y'.1 k q = Y.1 k q) : YC Y' B L out lim st := by
  obtain ⟨y1, y2, y3, y4, y5, y6, y7, y8, y9⟩ := y
  refine ⟨BY_o y1 (fun k q h => o k q (by omega)), fun c hc v hv => ?_, ?_, fun k hk => ?_, ?_, ?_, ?_, ?_, y9⟩
  · rw [o 17 _ (by omega)]; exact y2 c hc v hv
  · rw [o 0 27 (by omega)]; exact y3
  · rw [o 20 k (by omega)]; exact y4 k hk
  · rw [o 0 32 (by omega)]; exact y5
  · rw [o 0 33 (by omega)]; exact y6
  · rw [o 0 34 (by omega)]; exact y7
  · rw [o 0 36 (by omega)]; exact y8
theorem Y_zero {N : Nat} (hN : 1300 < N) : ∃ Y', fY0_goThrough_L13 N N Y 0 = some Y' ∧ (∀ i, i < 1200 → Y'.1 23 i = 0) ∧ ∀ k q, k ≠ 23 → Y'.1 k q = Y.1 k q := by
  obtain ⟨t, e, h1, h2⟩ := loop_up (fun q st x => fY0_goThrough_L13 N q st x) 1200
    (fun i st => (∀ j, j < i → st.1 23 j = 0) ∧ ∀ k q, k ≠ 23 → st.1 k q = Y.1 k q)
    (fun st => (∀ j, j < 1200 → st.1 23 j = 0) ∧ ∀ k q, k ≠ 23 → st.1 k q = Y.1 k q)
    (fun q st hI => ⟨st, by
      show fY0_goThrough_L13 N (q + 1) st (nI 1200) = _
      rw [fY0_goThrough_L13, if_pos (by decide)], hI⟩)
    (fun q i st hi hI => by
      right
      show ∃ s', _ ∧ fY0_goThrough_L13 N (q + 1) st (nI i) = fY0_goThrough_L13 N q s' (nI (i + 1))
      rw [fY0_goThrough_L13, if_neg (show ¬ (1200 : Int32) ≤ nI i from nI_ge hi (by decide)), inb_nI hi (by decide), gd_true, nx_eq, cl (show i < 2 ^ 31 by omega), nI_1]
      refine ⟨p1 st 23 i 0, ⟨fun j hj => ?_, fun k q hk => by rw [p1_ne hk]; exact hI.2 k q hk⟩, rfl⟩
      by_cases e : j = i
      · subst e; rw [p1_eq]
      · rw [p1_ni e]; exact hI.1 j (by omega))
    N 0 Y (by omega) (by omega) ⟨fun j hj => absurd hj (by omega), fun _ _ _ => rfl⟩
  exact ⟨t, e, h1, h2⟩
theorem Y_through {N : Nat} (hN : 1300 < N) (hN2 : 2 * lim + 14 < N) (ok : okB B) (hlim : lim < 2 ^ 30) (nm : ∀ c v : Nat, c < 12 → v < 100 → L c v = true → nmd B) (e : fY0_narrow N Y 0 = some Y') (bY : BY Y' B) (ly : LNY Y' L) : ∃ Z, fY0_goThrough N Y (nI lim) = some (bI (!(fin B L 0 lim none).2.2.1), Z) ∧ YT Z B (fin B L 0 lim none) := by
  obtain ⟨T, eT, c1, s1⟩ := Y_begin (N := N) (out := 0) (lim := lim) (by omega) ok (by omega) e bY ly
  have eT2 : fY0_begin N Y (nI lim) 0 = some T := eT
  obtain ⟨U, eU, u1, u2⟩ := Y_zero (N := N) (Y := p1 T 0 37 0) hN
  have oU : ∀ k q, k ≠ 23 → ¬ (k = 0 ∧ q = 37) → U.1 k q = T.1 k q := fun k q h1 h2 => by rw [u2 k q h1, p1_at, if_neg h2]
  obtain ⟨t, et, ht⟩ := loop_me (fun n (s : St × Nat × List Ev × List (Nat → Nat)) => fY0_goThrough_L33 N n s.1)
    (fun s => YC s.1 B L 0 lim s.2.1 ∧ YS s.1 B L 0 s.2.2.1 ∧ s.1.1 0 37 = nI s.2.2.2.length ∧ (∀ c, c < 12 → thr B c = true → ∀ v, v < 100 → s.1.1 23 (100 * c + v) = nI (cnF s.2.2.2 c v)) ∧ run lim none (s.2.1, s.2.2.2, false, false) s.2.2.1 = fin B L 0 lim none)
    (fun s => 2 * (lim - s.2.1) + min s.2.2.1.length 1)
    (fun t => YT t B (fin B L 0 lim none))
    (fun n s hI => by
      obtain ⟨T, st, R, fl⟩ := s
      obtain ⟨yc, ys, h37, h23, hr⟩ := hI
      dsimp only at yc ys h37 h23 hr ⊢
      obtain ⟨r, Z, eZ, z1, z0⟩ := Y_next (by omega) hN2 ok (by omega) hlim nm yc ys
      have fz := frY0_nextFilling eZ
      rw [fY0_goThrough_L33, eZ, bs]
      dsimp only
      rw [if_bI0]
      cases r
      · left
        rw [if_neg (by decide)]
        refine ⟨Z, rfl, ?_⟩
        obtain ⟨b1, b2, b3, e, st', b4, b5, b6⟩ := z0 rfl
        rw [← hr, b6]
        refine ⟨b1, b2, b3, b4, b5, ?_, fun c hc tc v hv => ?_⟩
        · rw [fz.1 0 37 (by decide) (by decide)]; exact h37
        · rw [fr_k fz (by decide) (by decide)]; exact h23 c hc tc v hv
      · right
        obtain ⟨τ, st', R', n1, n2, n3, n4, n5, n6⟩ := z1 rfl
        rw [if_pos rfl, nx_eq]
        obtain ⟨V, eV, v1, v2⟩ := Y_tally (N := N) (B := B) (Y := p1 Z 0 37 (Z.1 0 37 + 1)) (τ := τ) (by omega) (by rw [p1_ni (by decide)]; exact n1.2.2.1) (fun k hk => by rw [p1_ne (by decide)]; exact n1.2.2.2.1 k hk) (fun d hd td => by rw [p1_ne (by decide)]; exact n5 d hd td)
        rw [eV, bs]
        refine ⟨(V, st', R', τ :: fl), ⟨YC_o n1 (fun k q h => ?_), YS_o n2 (fun k q h => ?_), ?_, fun c hc tc v hv => ?_, ?_⟩, ?_, rfl⟩
        · rw [v2 k q (by omega), p1_at, if_neg (by omega)]
        · rw [v2 k q (by omega), p1_at, if_neg (by omega)]
        · show V.1 0 37 = nI (τ :: fl).length
          rw [v2 0 37 (by decide), p1_eq, fz.1 0 37 (by decide) (by decide), h37, nI_1]; rfl
        · show V.1 23 (100 * c + v) = nI (cnF (τ :: fl) c v)
          rw [v1 c hc tc v hv, p1_ne (by decide), fr_k fz (by decide) (by decide), h23 c hc tc v hv, cnF]
          split
          · rw [nI_1]
          · rw [show nI (cnF fl c v) + 0 = nI (cnF fl c v + 0) from nI_add _ 0]
        · show run lim none (st', τ :: fl, false, false) R' = _
          rw [← hr, n6]; rfl
        · show 2 * (lim - st') + min R'.length 1 < 2 * (lim - st) + min R.length 1
          have := n1.2.2.2.2.2.2.2.2
          rcases n4 with q | ⟨q1, q2⟩
          · omega
          · subst q1
            cases R with
            | nil => exact absurd rfl q2
            | cons x R =>
              rw [List.length_cons, List.length_nil]
              omega)
    N (U, 0, evs B L 0, []) (by show 2 * (lim - 0) + min (evs B L 0).length 1 < N; omega) ⟨YC_o c1 (fun k q h => oU k q (by omega) (by omega)), YS_o s1 (fun k q h => oU k q (by omega) (by omega)), by
      show U.1 0 37 = nI 0
      rw [u2 0 37 (by decide), p1_eq]; rfl, fun c hc tc v hv => by
      show U.1 23 (100 * c + v) = nI 0
      rw [u1 _ (by omega)]; rfl, rfl⟩
  have et2 : fY0_goThrough_L33 N N U = some t := et
  unfold fY0_goThrough
  rw [eT2, bs, nx_eq, eU, bs, et2, bs, ht.2.2.2.1, if_bI0]
  cases (fin B L 0 lim none).2.2.1
  · rw [if_neg (by decide), bs, isb1, gd_true]
    exact ⟨t, rfl, ht⟩
  · rw [if_pos rfl, bs, isb0, gd_true]
    exact ⟨t, rfl, ht⟩
theorem turns (S Y : St) (x : Int32) : (fXs_isTurns S x = some 0 ∧ fYs_areTurns Y x = some 0) ∨ ∃ lim, x = nI lim ∧ 1 ≤ lim ∧ lim ≤ 20000 ∧ fXs_isTurns S x = some 1 ∧ fYs_areTurns Y x = some 1 := by
  unfold fXs_isTurns fYs_areTurns
  rw [Yin, bs]
  have e1 : (1 : Int32).toInt = 1 := by decide
  have e2 : (20000 : Int32).toInt = 20000 := by decide
  by_cases h1 : x < 1
  · left
    rw [if_pos h1, if_neg (fun q => by
      have a := (fa_le _ _).mp q.1
      have b := (fa_lt _ _).mp h1
      omega)]
    exact ⟨rfl, rfl⟩
  by_cases h2 : 20000 < x
  · left
    rw [if_neg h1, if_pos h2, if_neg (fun q => by
      have a := (fa_le _ _).mp q.2
      have b := (fa_lt _ _).mp h2
      omega)]
    exact ⟨rfl, rfl⟩
  right
  have a : ¬ x.toInt < 1 := fun q => h1 ((fa_lt _ _).mpr (by omega))
  have b : ¬ 20000 < x.toInt := fun q => h2 ((fa_lt _ _).mpr (by omega))
  refine ⟨x.toInt.toNat, ?_, by omega, by omega, ?_, ?_⟩
  · rw [iI_nat, Int.toNat_of_nonneg (by omega), iI_of]
  · rw [if_neg h1, if_neg h2]; rfl
  · rw [if_pos ⟨(fa_le _ _).mpr (by omega), (fa_le _ _).mpr (by omega)⟩]; rfl
theorem X_all {N : Nat} (hN : 41000 < N) (ok : okB B) (l1 : 1 ≤ lim) (l2 : lim ≤ 20000) {S1 Y1 : St} (f1 : fX0_narrowAll N S = some S1) (n : nar S1 Y1 B L lo hi) (h40 : ∀ f, W = some f → ∀ k, k < 10 → S.1 40 k = nI (f k) ∧ f k < 100) : ∃ U, fX0_goThroughAll N S (nI lim) = some (if (fin B L 0 lim none).2.2.1 = true then -6 else 0, U) ∧ XF U B none W (fin B L 0 lim none) := by
  have n' := n
  obtain ⟨n1, n2, n3, n4, n5, n6, n7, n8, n9⟩ := n
  obtain ⟨T, eT, t1, t2⟩ := X_forget (N := N) (S := S1) (by omega)
  obtain ⟨U, eU, xf⟩ := X_goTo (N := N) (S := T) (B := B) (out := 0) (lim := lim) (w := none) (W := W) (L := L) (lo := lo) (hi := hi) (by omega) ok (by omega) (fun i q => absurd q (by simp)) (by omega) (BX_c n1 (funext fun q => t2 26 q (by decide)) (funext fun q => t2 27 q (by decide)) (funext fun q => t2 28 q (by decide)) (t2 _ _ (by decide)) (t2 _ _ (by decide)) (funext fun q => t2 23 q (by decide)) (funext fun q => t2 24 q (by decide)) (t2 _ _ (by decide)) (funext fun q => t2 30 q (by decide)) (funext fun q => t2 31 q (by decide)) (funext fun q => t2 32 q (by decide))) (fun c hc tc v hv => by rw [t2 34 _ (by decide)]; exact n3 c hc tc v hv) (fun c hc tc => by rw [t2 35 _ (by decide), t2 36 _ (by decide)]; exact n4 c hc tc) (fun c hc tc v hv => (lfE_n n' hc tc hv).symm) n9 (fun _ => t1) (fun _ f hf k hk => by
    rw [t2 40 k (by decide), fr_k (frX0_narrowAll f1) (by decide) (by decide)]; exact h40 f hf k hk)
  have eU2 : fX37_goTo N T (-1) (nI lim) 0 = some U := eU
  refine ⟨U, ?_, xf⟩
  unfold fX0_goThroughAll
  rcases turns S S (nI lim) with ⟨q, _⟩ | ⟨lim', q1, q2, q3, q, _⟩
  · exfalso
    unfold fXs_isTurns at q
    rw [if_neg (show ¬ nI lim < 1 from nI_nlt l1 (by omega)), if_neg (show ¬ (20000 : Int32) < nI lim from nI_nlt (a := 20000) l2 (by decide))] at q
    exact absurd q (by decide)
  rw [q, bs, if_neg ne10, f1, bs, eT, bs, eU2, bs, fX37_isSpent, xf.2.2.2.1, bI_isb, gd_true, bs, if_bI0]
  cases (fin B L 0 lim none).2.2.1 <;> rfl
theorem through_R {N : Nat} (hN : 41000 < N) (h : RR S Y) (ok : okB B) (bx : BX S B) (bY : BY Y B) (l1 : 1 ≤ lim) (l2 : lim ≤ 20000) (h40 : ∀ f, W = some f → ∀ k, k < 10 → S.1 40 k = nI (f k) ∧ f k < 100) : ∃ S' Y' L, fX0_goThroughAll N S (nI lim) = some (if (fin B L 0 lim none).2.2.1 = true then -6 else 0, S') ∧ fY0_goThrough N Y (nI lim) = some (bI (!(fin B L 0 lim none).2.2.1), Y') ∧ XF S' B none W (fin B L 0 lim none) ∧ YT Y' B (fin B L 0 lim none) ∧ RR S' Y' := by
  obtain ⟨S1, Y1, L, lo, hi, f1, f2, n⟩ := narrowAll_R (N := N) (by omega) ok bx bY
  obtain ⟨U, eX, xf⟩ := X_all (N := N) (lim := lim) hN ok l1 l2 f1 n h40
  obtain ⟨n1, n2, n3, n4, n5, n6, n7, n8, n9⟩ := n
  obtain ⟨Z, eZ, yt⟩ := Y_through (N := N) (lim := lim) (by omega) (by omega) ok (by omega) n9 f2 n2 n5
  exact ⟨U, Z, L, eX, eZ, xf, yt, RR_ag h (agr_of (frX0_goThroughAll eX) (by decide) (by decide) (by decide)) (agr_of (frY0_goThrough eZ) (by decide) (by decide) (by decide))⟩
end OR
