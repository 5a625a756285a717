/-! the walk: the reference's begin -/
def rst (B : Bk) (L : Nat → Nat → Bool) (okf : Nat → (Nat → Nat) → Bool) (G : Nat → Nat → Nat) (cur : Nat → Nat) : Nat → List Ev
  | 0 => []
  | k + 1 => trs (evn B L okf (nth B - (k + 1))) L okf (cel B k) (G k) (100 - cur k) ++ rst B L okf G cur k
theorem rst_cong {B : Bk} {L : Nat → Nat → Bool} {okf : Nat → (Nat → Nat) → Bool} {G G' : Nat → Nat → Nat} {cur cur' : Nat → Nat} : ∀ k, (∀ j, j < k → G' j = G j ∧ cur' j = cur j) → rst B L okf G' cur' k = rst B L okf G cur k
  | 0, _ => rfl
  | k + 1, h => by
    rw [rst, rst, (h k (by omega)).1, (h k (by omega)).2, rst_cong k (fun j hj => h j (by omega))]
def YC (Y : St) (B : Bk) (L : Nat → Nat → Bool) (out lim st : Nat) : Prop := BY Y B ∧ LNY Y L ∧ Y.1 0 27 = nI (nth B) ∧ (∀ k, k < nth B → Y.1 20 k = nI (cel B k)) ∧ Y.1 0 32 = nI st ∧ Y.1 0 33 = nI lim ∧ Y.1 0 34 = nI out ∧ Y.1 0 36 = 0 ∧ st ≤ lim
def YK (Y : St) (B : Bk) (L : Nat → Nat → Bool) (out lv : Nat) (R : List Ev) : Prop := Y.1 0 35 = 0 ∧ 0 < nth B ∧ lv ≤ nth B ∧ Y.1 0 31 = iI ((lv : Int) - 1) ∧ ∃ G cur, R = rst B L (okD B out) G cur lv ∧ (∀ k, k < lv → Y.1 21 k = nI (cur k) ∧ cur k ≤ 100) ∧ ∀ k, k < lv → ∀ j, j < k → Y.1 22 (cel B j) = nI (G k (cel B j)) ∧ G k (cel B j) < 100
def YS (Y : St) (B : Bk) (L : Nat → Nat → Bool) (out : Nat) (R : List Ev) : Prop := (Y.1 0 35 = 1 ∧ R = []) ∨ (Y.1 0 35 = 0 ∧ nth B = 0 ∧ ∃ τ, R = [some τ]) ∨ ∃ lv, YK Y B L out lv R
theorem cel_b {B : Bk} {k : Nat} (hk : k < nth B) : cel B k < 12 ∧ thr B (cel B k) = true ∧ fb_ct (thr B) (cel B k) = k := by
  obtain ⟨i, h1, h2, h3⟩ := fb_ct_kth (p := thr B) (n := 12) (k := k) hk
  have := cel_at h1 h2
  rw [h3] at this
  rw [this]
  exact ⟨h1, h2, h3⟩
theorem cel_inj {B : Bk} {k j : Nat} (hk : k < nth B) (hj : j < nth B) (h : j ≠ k) : cel B j ≠ cel B k := fun e => by
  have a := (cel_b hk).2.2
  have b := (cel_b hj).2.2
  rw [e] at b
  omega
theorem cel_below {B : Bk} {k d : Nat} (hk : k < nth B) (hd : d ≤ cel B k) (td : thr B d = true) : d = cel B k ∨ ∃ j, j < k ∧ d = cel B j := by
  have a := cel_b hk
  rcases Nat.lt_or_ge d (cel B k) with q | q
  · right
    refine ⟨fb_ct (thr B) d, ?_, (cel_at (by omega) td).symm⟩
    have m := fb_ct_mono (thr B) (show d + 1 ≤ cel B k by omega)
    rw [fb_ct_succ, if_pos td] at m
    omega
  · left; omega
theorem cel_all {B : Bk} {d : Nat} (hd : d < 12) (td : thr B d = true) : ∃ j, j < nth B ∧ d = cel B j := by
  refine ⟨fb_ct (thr B) d, ?_, (cel_at hd td).symm⟩
  have m := fb_ct_mono (thr B) (show d + 1 ≤ 12 by omega)
  rw [fb_ct_succ, if_pos td] at m
  rw [nth_e]
  omega
section OP
variable {S S' Y Y' : St} {B : Bk} {out lim : Nat} {lo hi lo' hi' : Nat → Int} {L L' : Nat → Nat → Bool} {τ : Nat → Nat} {w : Option Nat} {W : Option (Nat → Nat)} {a : Acc}
theorem Y_begin12 {N : Nat} (hN : 13 < N) (bY : BY Y B) (h27 : Y.1 0 27 = 0) {x1 x2 : Int32} : ∃ Y', fY0_begin_L12 N x1 x2 N Y 0 = some Y' ∧ Y'.1 0 27 = nI (nth B) ∧ (∀ k, k < nth B → Y'.1 20 k = nI (cel B k)) ∧ ∀ k q, ¬ (k = 0 ∧ q = 27) → k ≠ 20 → k ≠ 22 → Y'.1 k q = Y.1 k q := by
  obtain ⟨t, e, h⟩ := loop_up (fun q st x => fY0_begin_L12 N x1 x2 q st x) 12
    (fun i st => st.1 0 27 = nI (fb_ct (thr B) i) ∧ (∀ k, k < fb_ct (thr B) i → st.1 20 k = nI (cel B k)) ∧ ∀ k q, ¬ (k = 0 ∧ q = 27) → k ≠ 20 → k ≠ 22 → st.1 k q = Y.1 k q)
    (fun st => st.1 0 27 = nI (nth B) ∧ (∀ k, k < nth B → st.1 20 k = nI (cel B k)) ∧ ∀ k q, ¬ (k = 0 ∧ q = 27) → k ≠ 20 → k ≠ 22 → st.1 k q = Y.1 k q)
    (fun q st hI => ⟨st, by
      show fY0_begin_L12 N x1 x2 (q + 1) st (nI 12) = _
      rw [fY0_begin_L12, if_pos (by decide)], hI⟩)
    (fun q i st hi hI => by
      obtain ⟨g1, g2, g3⟩ := hI
      right
      show ∃ s', _ ∧ fY0_begin_L12 N x1 x2 (q + 1) st (nI i) = fY0_begin_L12 N x1 x2 q s' (nI (i + 1))
      have o : ∀ k q, ¬ (k = 0 ∧ q = 27) → k ≠ 20 → k ≠ 22 → (p1 st 22 i (-1)).1 k q = Y.1 k q := fun k q h1 h2 h3 => by rw [p1_ne h3]; exact g3 k q h1 h2 h3
      have b1 : BY (p1 st 22 i (-1)) B := BY_c bY (funext fun q => o 10 q (by omega) (by decide) (by decide)) (funext fun q => o 11 q (by omega) (by decide) (by decide)) (funext fun q => o 12 q (by omega) (by decide) (by decide)) (o _ _ (by omega) (by decide) (by decide)) (funext fun q => o 16 q (by omega) (by decide) (by decide)) (o _ _ (by omega) (by decide) (by decide)) (funext fun q => o 13 q (by omega) (by decide) (by decide)) (funext fun q => o 14 q (by omega) (by decide) (by decide)) (funext fun q => o 15 q (by omega) (by decide) (by decide))
      have cb := fb_ct_le (thr B) i
      rw [fY0_begin_L12, if_neg (show ¬ (12 : Int32) ≤ nI i from nI_ge hi (by decide)), inb_nI hi (by decide), gd_true, nx_eq, cl (show i < 2 ^ 31 by omega), Y_there b1 hi, bs, if_bI0, nI_1, p1_ne (by decide), g1]
      cases ti : thr B i
      · rw [if_neg (by decide), bs]
        refine ⟨_, ⟨?_, fun k hk => ?_, o⟩, rfl⟩
        · rw [p1_ne (by decide), fb_ct_succ, ti, if_neg (by decide)]; exact g1
        · rw [fb_ct_succ, ti, if_neg (by decide)] at hk
          rw [p1_ne (by decide)]; exact g2 k hk
      · rw [if_pos rfl, inb_nI (show fb_ct (thr B) i < 12 by omega) (by decide), gd_true, nx_eq, nx_eq, bs, cl (show fb_ct (thr B) i < 2 ^ 31 by omega)]
        refine ⟨_, ⟨?_, fun k hk => ?_, fun k q h1 h2 h3 => ?_⟩, rfl⟩
        · rw [p1_eq, p1_ne (by decide), p1_ne (by decide), g1, fb_ct_succ, ti, if_pos rfl, nI_1]
        · rw [fb_ct_succ, ti, if_pos rfl] at hk
          rw [p1_ne (by decide)]
          by_cases z : k = fb_ct (thr B) i
          · subst z
            rw [p1_eq, cel_at hi ti]
          · rw [p1_ni z, p1_ne (by decide)]; exact g2 k (by omega)
        · rw [p1_at, if_neg h1, p1_ne h2]; exact o k q h1 h2 h3)
    N 0 Y (by omega) (by omega) ⟨h27, fun k hk => absurd hk (Nat.not_lt_zero _), fun _ _ _ _ _ => rfl⟩
  exact ⟨t, e, h⟩
theorem Y_begin98 {N : Nat} (hN : 13 < N) (ok : okB B) (bY : BY Y B) (ho : out < 2 ^ 31) (h35 : Y.1 0 35 = 0) : ∃ Y', fY0_begin_L98 N (nI out) N Y 0 = some Y' ∧ Y'.1 0 35 = bI (!sOK B out) ∧ ∀ k q, ¬ (k = 0 ∧ q = 35) → Y'.1 k q = Y.1 k q := by
  have h8 := ok.2.2.2.1
  obtain ⟨t, e, r, h1, h2, h3⟩ := loop_up (fun q st x => fY0_begin_L98 N (nI out) q st x) (sn B)
    (fun i st => ∃ r, st.1 0 35 = bI r ∧ (r = false ↔ ∀ s, s < i → out.testBit s = false → lsN B s 12 = 0 → tt B s = 0) ∧ ∀ k q, ¬ (k = 0 ∧ q = 35) → st.1 k q = Y.1 k q)
    (fun st => ∃ r, st.1 0 35 = bI r ∧ (r = false ↔ ∀ s, s < sn B → out.testBit s = false → lsN B s 12 = 0 → tt B s = 0) ∧ ∀ k q, ¬ (k = 0 ∧ q = 35) → st.1 k q = Y.1 k q)
    (fun q st hI => ⟨st, by
      obtain ⟨r, g1, g2, g3⟩ := hI
      show fY0_begin_L98 N (nI out) (q + 1) st (nI (sn B)) = _
      rw [fY0_begin_L98, g3 0 18 (by omega), bY.2.2.2.1, if_pos (ge_n (by omega))], hI⟩)
    (fun q i st hi hI => by
      obtain ⟨r, g1, g2, o⟩ := hI
      right
      show ∃ s', _ ∧ fY0_begin_L98 N (nI out) (q + 1) st (nI i) = fY0_begin_L98 N (nI out) q s' (nI (i + 1))
      have b1 : BY st B := BY_c bY (funext fun q => o 10 q (by omega)) (funext fun q => o 11 q (by omega)) (funext fun q => o 12 q (by omega)) (o _ _ (by omega)) (funext fun q => o 16 q (by omega)) (o _ _ (by omega)) (funext fun q => o 13 q (by omega)) (funext fun q => o 14 q (by omega)) (funext fun q => o 15 q (by omega))
      have b3 := ok.2.2.2.2 i hi
      have ll := lsN_le B i 12
      have lz : (0 ≤ lasY B i 12) ↔ ¬ lsN B i 12 = 0 := by
        unfold lasY
        by_cases z : lsN B i 12 = 0
        · rw [if_pos z]
          exact ⟨fun w => absurd w (by decide), fun w => absurd z w⟩
        · rw [if_neg z]
          exact ⟨fun _ => z, fun _ => nI_le (Nat.zero_le _) (by omega)⟩
      have core : ∃ r', (if bI r = 0 then Option.bind (fYs_has st (nI out) (nI i)) fun t42 => if t42 = 0 then Option.bind (fY0_lastOf N st (nI i)) fun t45 => if 0 ≤ t45 then some 0 else gd (inb (nI i) 8) <| if (st.1 15 (Int32.toNatClampNeg (nI i))) = 0 then some 0 else some 1 else some 0 else some 1) = some (bI r') ∧ (r' = false ↔ ∀ s, s < i + 1 → out.testBit s = false → lsN B s 12 = 0 → tt B s = 0) := by
        have fin : ∀ b : Bool, (b = false ↔ (r = false ∧ (out.testBit i = false → lsN B i 12 = 0 → tt B i = 0))) → (b = false ↔ ∀ s, s < i + 1 → out.testBit s = false → lsN B s 12 = 0 → tt B s = 0) := fun b hb => by
          rw [hb, g2]
          constructor
          · rintro ⟨q1, q2⟩ s hs
            by_cases e : s = i
            · subst e; exact q2
            · exact q1 s (by omega)
          · intro q
            exact ⟨fun s hs => q s (by omega), q i (by omega)⟩
        cases r
        rotate_left
        · rw [if_neg (by decide)]
          exact ⟨true, rfl, fin true ⟨fun q => absurd q (by decide), fun q => absurd q.1 (by decide)⟩⟩
        rw [if_pos bI_f, Yhas st ho (by omega), bs, if_bI0]
        cases ob : out.testBit i
        rotate_left
        · rw [if_pos rfl]
          exact ⟨false, rfl, fin false ⟨fun _ => ⟨rfl, fun q => by rw [ob] at q; exact absurd q (by decide)⟩, fun _ => rfl⟩⟩
        rw [if_neg (by decide), Y_lastS hN ok b1 hi, bs]
        by_cases z : lsN B i 12 = 0
        · rw [if_neg (fun q => (lz.mp q) z), inb_nI (show i < 8 by omega) (by decide), gd_true, cl (show i < 2 ^ 31 by omega), (b1.2.2.2.2 i hi).2.2]
          have e0 : iI (tt B i) = 0 ↔ tt B i = 0 := iI_eq (b := 0) (by omega) (by omega) (by omega) (by omega)
          by_cases y : tt B i = 0
          · rw [if_pos (e0.mpr y)]
            exact ⟨false, rfl, fin false ⟨fun _ => ⟨rfl, fun _ _ => y⟩, fun _ => rfl⟩⟩
          · rw [if_neg (fun q => y (e0.mp q))]
            exact ⟨true, rfl, fin true ⟨fun q => absurd q (by decide), fun q => absurd (q.2 ob z) y⟩⟩
        · rw [if_pos (lz.mpr z)]
          exact ⟨false, rfl, fin false ⟨fun _ => ⟨rfl, fun _ q => absurd q z⟩, fun _ => rfl⟩⟩
      obtain ⟨r', c1, c2⟩ := core
      rw [fY0_begin_L98, o 0 18 (by omega), bY.2.2.2.1, if_neg (nI_ge hi (by omega)), g1, c1, bs, bI_isb, gd_true, nx_eq, nI_1]
      refine ⟨p1 st 0 35 (bI r'), ⟨r', by rw [p1_eq], c2, fun k q h => by rw [p1_at, if_neg h]; exact o k q h⟩, rfl⟩)
    N 0 Y (by omega) (by omega) ⟨false, h35, ⟨fun _ s hs => absurd hs (Nat.not_lt_zero _), fun _ => rfl⟩, fun _ _ _ => rfl⟩
  refine ⟨t, e, ?_, h3⟩
  rw [h1]
  congr 1
  cases z : sOK B out
  · cases r
    · have := h2.mp rfl
      unfold sOK at z
      exact absurd this (of_decide_eq_false z)
    · rfl
  · rw [h2.mpr (of_decide_eq_true z)]; rfl
theorem Y_begin {N : Nat} (hN : 13 < N) (ok : okB B) (ho : out < 2 ^ 31) (e : fY0_narrow N Y (nI out) = some Y') (bY : BY Y' B) (ly : LNY Y' L) : ∃ Z, fY0_begin N Y (nI lim) (nI out) = some Z ∧ YC Z B L out lim 0 ∧ YS Z B L out (evs B L out) := by
  have o1 : ∀ k q, ¬ (k = 0 ∧ q = 27) → (p1 Y' 0 27 0).1 k q = Y'.1 k q := fun k q h => by rw [p1_at, if_neg h]
  have b1 : BY (p1 Y' 0 27 0) B := BY_c bY (funext fun q => o1 10 q (by omega)) (funext fun q => o1 11 q (by omega)) (funext fun q => o1 12 q (by omega)) (o1 _ _ (by omega)) (funext fun q => o1 16 q (by omega)) (o1 _ _ (by omega)) (funext fun q => o1 13 q (by omega)) (funext fun q => o1 14 q (by omega)) (funext fun q => o1 15 q (by omega))
  obtain ⟨U, eU, u1, u2, u3⟩ := Y_begin12 (N := N) (x1 := nI lim) (x2 := nI out) hN b1 (by rw [p1_eq])
  unfold fY0_begin
  rw [e, bs, nx_eq, eU, bs, nx_eq, show inb 0 12 = true from by decide, gd_true, nx_eq, nx_eq, nx_eq, nx_eq, nx_eq, nx_eq, show Int32.toNatClampNeg 0 = 0 from rfl]
  have o2 : ∀ k q, ¬ (k = 0 ∧ (q = 31 ∨ q = 32 ∨ q = 33 ∨ q = 34 ∨ q = 35 ∨ q = 36)) → k ≠ 21 → (p1 (p1 (p1 (p1 (p1 (p1 (p1 U 0 31 0) 21 0 0) 0 32 0) 0 33 (nI lim)) 0 34 (nI out)) 0 36 0) 0 35 0).1 k q = U.1 k q := fun k q h h2 => by
    rw [p1_at, if_neg (by omega), p1_at, if_neg (by omega), p1_at, if_neg (by omega), p1_at, if_neg (by omega), p1_at, if_neg (by omega), p1_at, if_neg (by omega), p1_at, if_neg (by omega)]
  have v31 : (p1 (p1 (p1 (p1 (p1 (p1 (p1 U 0 31 0) 21 0 0) 0 32 0) 0 33 (nI lim)) 0 34 (nI out)) 0 36 0) 0 35 0).1 0 31 = 0 := by
    rw [p1_ni (by decide), p1_ni (by decide), p1_ni (by decide), p1_ni (by decide), p1_ni (by decide), p1_ne (by decide), p1_eq]
  have v21 : (p1 (p1 (p1 (p1 (p1 (p1 (p1 U 0 31 0) 21 0 0) 0 32 0) 0 33 (nI lim)) 0 34 (nI out)) 0 36 0) 0 35 0).1 21 0 = 0 := by
    rw [p1_ne (by decide), p1_ne (by decide), p1_ne (by decide), p1_ne (by decide), p1_ne (by decide), p1_eq]
  have v32 : (p1 (p1 (p1 (p1 (p1 (p1 (p1 U 0 31 0) 21 0 0) 0 32 0) 0 33 (nI lim)) 0 34 (nI out)) 0 36 0) 0 35 0).1 0 32 = 0 := by
    rw [p1_ni (by decide), p1_ni (by decide), p1_ni (by decide), p1_ni (by decide), p1_eq]
  have v33 : (p1 (p1 (p1 (p1 (p1 (p1 (p1 U 0 31 0) 21 0 0) 0 32 0) 0 33 (nI lim)) 0 34 (nI out)) 0 36 0) 0 35 0).1 0 33 = nI lim := by
    rw [p1_ni (by decide), p1_ni (by decide), p1_ni (by decide), p1_eq]
  have v34 : (p1 (p1 (p1 (p1 (p1 (p1 (p1 U 0 31 0) 21 0 0) 0 32 0) 0 33 (nI lim)) 0 34 (nI out)) 0 36 0) 0 35 0).1 0 34 = nI out := by
    rw [p1_ni (by decide), p1_ni (by decide), p1_eq]
  have v36 : (p1 (p1 (p1 (p1 (p1 (p1 (p1 U 0 31 0) 21 0 0) 0 32 0) 0 33 (nI lim)) 0 34 (nI out)) 0 36 0) 0 35 0).1 0 36 = 0 := by
    rw [p1_ni (by decide), p1_eq]
  have v35 : (p1 (p1 (p1 (p1 (p1 (p1 (p1 U 0 31 0) 21 0 0) 0 32 0) 0 33 (nI lim)) 0 34 (nI out)) 0 36 0) 0 35 0).1 0 35 = 0 := by
    rw [p1_eq]
  generalize p1 (p1 (p1 (p1 (p1 (p1 (p1 U 0 31 0) 21 0 0) 0 32 0) 0 33 (nI lim)) 0 34 (nI out)) 0 36 0) 0 35 0 = T at o2 v31 v21 v32 v33 v34 v35 v36 ⊢
  have o : ∀ k q, k ≠ 0 → k ≠ 20 → k ≠ 21 → k ≠ 22 → T.1 k q = Y'.1 k q := fun k q h1 h2 h3 h4 => by
    rw [o2 k q (by omega) h3, u3 k q (by omega) h2 h4, o1 k q (by omega)]
  have oo : ∀ q, q ≠ 27 → q < 31 → T.1 0 q = Y'.1 0 q := fun q h1 h2 => by
    rw [o2 0 q (by omega) (by decide), u3 0 q (by omega) (by decide) (by decide), o1 0 q (by omega)]
  have bT : BY T B := BY_c bY (funext fun q => o 10 q (by decide) (by decide) (by decide) (by decide)) (funext fun q => o 11 q (by decide) (by decide) (by decide) (by decide)) (funext fun q => o 12 q (by decide) (by decide) (by decide) (by decide)) (oo _ (by decide) (by decide)) (funext fun q => o 16 q (by decide) (by decide) (by decide) (by decide)) (oo _ (by decide) (by decide)) (funext fun q => o 13 q (by decide) (by decide) (by decide) (by decide)) (funext fun q => o 14 q (by decide) (by decide) (by decide) (by decide)) (funext fun q => o 15 q (by decide) (by decide) (by decide) (by decide))
  obtain ⟨Z, eZ, z1, z2⟩ := Y_begin98 (N := N) hN ok bT ho v35
  rw [eZ, bs]
  have bZ : BY Z B := BY_c bT (funext fun q => z2 10 q (by omega)) (funext fun q => z2 11 q (by omega)) (funext fun q => z2 12 q (by omega)) (z2 _ _ (by omega)) (funext fun q => z2 16 q (by omega)) (z2 _ _ (by omega)) (funext fun q => z2 13 q (by omega)) (funext fun q => z2 14 q (by omega)) (funext fun q => z2 15 q (by omega))
  refine ⟨Z, rfl, ⟨bZ, fun c hc v hv => ?_, ?_, fun k hk => ?_, ?_, ?_, ?_, ?_, Nat.zero_le _⟩, ?_⟩
  · rw [z2 17 _ (by omega), o 17 _ (by decide) (by decide) (by decide) (by decide)]; exact ly c hc v hv
  · rw [z2 0 27 (by omega), o2 0 27 (by omega) (by decide), u1]
  · rw [z2 20 k (by omega), o2 20 k (by omega) (by decide), u2 k hk]
  · rw [z2 0 32 (by omega), v32]; rfl
  · rw [z2 0 33 (by omega), v33]
  · rw [z2 0 34 (by omega), v34]
  · rw [z2 0 36 (by omega), v36]
  · unfold evs
    cases hs : sOK B out
    · left
      rw [hs] at z1
      exact ⟨z1, if_neg (by decide)⟩
    · rw [hs] at z1
      rw [if_pos rfl]
      by_cases n0 : nth B = 0
      · right; left
        rw [n0]
        exact ⟨z1, rfl, _, rfl⟩
      · right; right
        refine ⟨1, z1, by omega, by omega, ?_, fun _ _ => 0, fun _ => 0, ?_, fun k hk => ?_, fun k hk j hj => by omega⟩
        · rw [z2 0 31 (by omega), v31]; rfl
        · obtain ⟨m, hm⟩ : ∃ m, nth B = m + 1 := ⟨nth B - 1, by omega⟩
          rw [rst, rst, List.append_nil, hm, evn, hm, show m + 1 - (m + 1) = 0 by omega, show m + 1 - (0 + 1) = m by omega]
        · have : k = 0 := by omega
          subst this
          rw [z2 21 0 (by omega), v21]
          exact ⟨rfl, Nat.zero_le _⟩
end OP
