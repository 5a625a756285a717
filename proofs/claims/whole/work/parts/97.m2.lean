/-! matches: the reference -/
def nC (q : Nat → Bool) (k : Nat) : Nat := fa_first (fun c => q c && decide (fb_ct q c = k)) 12
theorem nC_at {q : Nat → Bool} {c : Nat} (hc : c < 12) (tc : q c = true) : nC q (fb_ct q c) = c := first_at hc (by rw [tc]; simp) (fun j hj => by
  by_cases tj : q j = true
  · have a := fb_ct_mono q (show j + 1 ≤ c by omega)
    rw [fb_ct_succ, if_pos tj] at a
    rw [tj, decide_eq_false (by omega)]; rfl
  · simp [tj])
theorem nC_b {q : Nat → Bool} {k : Nat} (hk : k < fb_ct q 12) : nC q k < 12 ∧ q (nC q k) = true ∧ fb_ct q (nC q k) = k := by
  obtain ⟨i, h1, h2, h3⟩ := fb_ct_kth (p := q) (n := 12) (k := k) hk
  have := nC_at h1 h2
  rw [h3] at this
  rw [this]
  exact ⟨h1, h2, h3⟩
def k3 (B : Bk) (c : Nat) : Bool := decide (kd B c = 3)
abbrev m3 (B : Bk) : Nat := fb_ct (k3 B) 12
abbrev ce3 (B : Bk) (k : Nat) : Nat := nC (k3 B) k
abbrev oR (B : Bk) (L : Nat → Nat → Bool) (x1 x2 : Int32) (j i : Nat) : Bool := L (ce3 B j) (hv B i) && (decide (nI (ce3 B j) ≠ x1) || decide (nI (hv B i) = x2))
section PI
variable {S S' Y Y' : St} {B : Bk} {L : Nat → Nat → Bool} {g : Nat → Nat} {x1 x2 : Int32} {c s : Nat}
theorem Y_w90 {N : Nat} (hN : 61 < N) (ok : okB B) (bY : BY Y B) (ly : LNY Y L) (hc : c < 12) (hs : s < 4096) (h26 : ∀ t, t < 4096 → Y.1 26 t = nI (g t)) (hg : ∀ t, t < 4096 → g t < 2 ^ 31) {nx : Nat → Nat} (h27 : ∀ t, t < 4096 → Y.1 27 t = nI (nx t)) : ∃ (Y' : St) (nx' : Nat → Nat), fY0_waysWith_L90 N x1 x2 (nI c) (nI s) N Y 0 = some Y' ∧ (∀ t, t < 4096 → Y'.1 27 t = nI (nx' t)) ∧ (∀ W : Nat → Nat, sumN (fun t => nx' t * W t) 4096 = sumN (fun t => nx t * W t) 4096 + g s * exN (hn B) (fun i => L c (hv B i) && (decide (nI c ≠ x1) || decide (nI (hv B i) = x2))) W s) ∧ ∀ k q, k ≠ 27 → Y'.1 k q = Y.1 k q := by
  have h12 := ok.2.1
  obtain ⟨Y', e, nx', a1, a2, a3⟩ := loop_up (fun q st x => fY0_waysWith_L90 N x1 x2 (nI c) (nI s) q st x) (hn B)
    (fun i st => ∃ nx' : Nat → Nat, (∀ t, t < 4096 → st.1 27 t = nI (nx' t)) ∧ (∀ W : Nat → Nat, sumN (fun t => nx' t * W t) 4096 = sumN (fun t => nx t * W t) 4096 + g s * exN i (fun i => L c (hv B i) && (decide (nI c ≠ x1) || decide (nI (hv B i) = x2))) W s) ∧ ∀ k q, k ≠ 27 → st.1 k q = Y.1 k q)
    (fun st => ∃ nx' : Nat → Nat, (∀ t, t < 4096 → st.1 27 t = nI (nx' t)) ∧ (∀ W : Nat → Nat, sumN (fun t => nx' t * W t) 4096 = sumN (fun t => nx t * W t) 4096 + g s * exN (hn B) (fun i => L c (hv B i) && (decide (nI c ≠ x1) || decide (nI (hv B i) = x2))) W s) ∧ ∀ k q, k ≠ 27 → st.1 k q = Y.1 k q)
    (fun q st hI => ⟨st, by
      obtain ⟨_, _, _, o⟩ := hI
      show fY0_waysWith_L90 N x1 x2 (nI c) (nI s) (q + 1) st (nI (hn B)) = _
      rw [fY0_waysWith_L90, o 0 22 (by decide), bY.2.1, if_pos (ge_n (by omega))], hI⟩)
    (fun q i st hi hI => by
      obtain ⟨nx', a1, a2, o⟩ := hI
      show (∃ t, fY0_waysWith_L90 N x1 x2 (nI c) (nI s) (q + 1) st (nI i) = some t ∧ _) ∨ ∃ s', _ ∧ fY0_waysWith_L90 N x1 x2 (nI c) (nI s) (q + 1) st (nI i) = fY0_waysWith_L90 N x1 x2 (nI c) (nI s) q s' (nI (i + 1))
      have hv100 := ok.2.2.1 i hi
      have ib4 := inb_nI hs (show 4096 < 2 ^ 31 by decide)
      have es : Int32.toNatClampNeg (nI s) = s := cl (by omega)
      rw [fY0_waysWith_L90, o 0 22 (by decide), bY.2.1, if_neg (nI_ge hi (by omega)), ib4, gd_true, es, o 26 s (by decide), h26 s hs]
      rcases Nat.eq_zero_or_pos (g s) with z | z
      · left
        rw [z, if_pos (show nI 0 ≤ 0 by decide)]
        refine ⟨st, rfl, nx', a1, fun W => ?_, o⟩
        have := a2 W
        rw [z, Nat.zero_mul] at this
        rw [Nat.zero_mul]; exact this
      right
      have gs := hg s hs
      have key : (if bI (s.testBit i) = 0 then gd (inb (nI i) 12) <| gd (inb ((100 * nI c) + (st.1 16 (Int32.toNatClampNeg (nI i)))) 1200) <| if (st.1 17 (Int32.toNatClampNeg ((100 * nI c) + (st.1 16 (Int32.toNatClampNeg (nI i)))))) = 0 then some (0 : Int32) else if nI c = x1 then gd (inb (nI i) 12) <| if (st.1 16 (Int32.toNatClampNeg (nI i))) = x2 then some 1 else some 0 else some 1 else some 0) = some (bI (!s.testBit i && (L c (hv B i) && (decide (nI c ≠ x1) || decide (nI (hv B i) = x2))))) := by
        rw [inb_nI (show i < 12 by omega) (by decide), gd_true, cl (show i < 2 ^ 31 by omega), o 16 i (by decide), bY.2.2.1 i hi, ixY, inb_nI (show 100 * c + hv B i < 1200 by omega) (by decide), gd_true, gd_true, cl (show 100 * c + hv B i < 2 ^ 31 by omega), o 17 _ (by decide), ly c hc _ hv100, if_bI0, if_bI0]
        cases s.testBit i
        · rw [if_neg (show ¬ (false = true) by decide)]
          cases L c (hv B i)
          · rw [if_neg (show ¬ (false = true) by decide)]; rfl
          · rw [if_pos rfl]
            by_cases w : nI c = x1
            · rw [if_pos w, decide_eq_false (fun u => u w)]
              by_cases v : nI (hv B i) = x2
              · rw [if_pos v, decide_eq_true v]; rfl
              · rw [if_neg v, decide_eq_false v]; rfl
            · rw [if_neg w, decide_eq_true w]; rfl
        · rw [if_pos rfl]; rfl
      have p12 := pw12 i (by omega)
      have u4 : s ||| 2 ^ i < 4096 := Nat.or_lt_two_pow (n := 12) hs p12
      rw [if_neg (show ¬ nI (g s) ≤ 0 from nI_ge (a := 0) z gs), Yhas st (by omega) (by omega), bs, key, bs, sh1 i (by omega), fa_or, inb_nI u4 (by decide), gd_true, if_bI0, gd_true, nI_1, cl (show s ||| 2 ^ i < 2 ^ 31 by omega), a1 _ u4]
      have ex1 : ∀ W : Nat → Nat, exN (i + 1) (fun i => L c (hv B i) && (decide (nI c ≠ x1) || decide (nI (hv B i) = x2))) W s = exN i (fun i => L c (hv B i) && (decide (nI c ≠ x1) || decide (nI (hv B i) = x2))) W s + (if (!s.testBit i && (L c (hv B i) && (decide (nI c ≠ x1) || decide (nI (hv B i) = x2)))) = true then W (s ||| 2 ^ i) else 0) := fun W => rfl
      cases hb : (!s.testBit i && (L c (hv B i) && (decide (nI c ≠ x1) || decide (nI (hv B i) = x2))))
      · rw [if_neg (show ¬ (false = true) by decide), bs, gd_true, nx_eq, show nI (nx' (s ||| 2 ^ i)) + 0 = nI (nx' (s ||| 2 ^ i)) from by rw [show nI (nx' (s ||| 2 ^ i)) + 0 = nI (nx' (s ||| 2 ^ i)) + nI 0 from rfl, nI_add]; rfl]
        refine ⟨_, ⟨nx', fun t ht => ?_, fun W => ?_, fun k q hk => by rw [p1_ne hk]; exact o k q hk⟩, rfl⟩
        · by_cases w : t = s ||| 2 ^ i
          · rw [w, p1_eq]
          · rw [p1_ni w]; exact a1 t ht
        · rw [ex1, hb, if_neg (show ¬ (false = true) by decide), Nat.add_zero]; exact a2 W
      · rw [if_pos rfl, bs, gd_true, nx_eq, nI_add]
        refine ⟨_, ⟨fun t => if t = s ||| 2 ^ i then nx' t + g s else nx' t, fun t ht => ?_, fun W => ?_, fun k q hk => by rw [p1_ne hk]; exact o k q hk⟩, rfl⟩
        · by_cases w : t = s ||| 2 ^ i
          · dsimp only
            rw [w, p1_eq, if_pos rfl]
          · dsimp only
            rw [p1_ni w, if_neg w]; exact a1 t ht
        · rw [sumN_upd, if_pos u4, a2 W, ex1, hb, if_pos rfl, Nat.mul_add]
          omega)
    N 0 Y (by omega) (by omega) ⟨nx, h27, fun W => by
      rw [show exN 0 (fun i => L c (hv B i) && (decide (nI c ≠ x1) || decide (nI (hv B i) = x2))) W s = 0 from rfl, Nat.mul_zero, Nat.add_zero], fun _ _ _ => rfl⟩
  exact ⟨Y', nx', e, a1, a2, a3⟩
theorem Y_fill4 (F : Nat → St → Int32 → Option St) (k : Nat) (v : Nat → Int32) (hx : ∀ n st, F (n + 1) st (nI 4096) = some st) (hs : ∀ n st i, i < 4096 → (∀ a b, a ≠ k → st.1 a b = Y.1 a b) → F (n + 1) st (nI i) = F n (p1 st k i (v i)) (nI (i + 1))) {N : Nat} (hN : 5000 < N) : ∃ Y', F N Y 0 = some Y' ∧ (∀ i, i < 4096 → Y'.1 k i = v i) ∧ ∀ a b, a ≠ k → Y'.1 a b = Y.1 a b := by
  obtain ⟨t, e, h1, h2⟩ := loop_up F 4096 (fun i st => (∀ j, j < i → st.1 k j = v j) ∧ ∀ a b, a ≠ k → st.1 a b = Y.1 a b) (fun st => (∀ j, j < 4096 → st.1 k j = v j) ∧ ∀ a b, a ≠ k → st.1 a b = Y.1 a b)
    (fun n st hI => ⟨st, hx n st, hI⟩)
    (fun n i st hi hI => by
      right
      refine ⟨p1 st k i (v i), ⟨fun j hj => ?_, fun a b ha => by rw [p1_ne ha]; exact hI.2 a b ha⟩, hs n st i hi hI.2⟩
      by_cases e : j = i
      · subst e; rw [p1_eq]
      · rw [p1_ni e]; exact hI.1 j (by omega))
    N 0 Y (by omega) (by omega) ⟨fun j hj => by omega, fun _ _ _ => rfl⟩
  exact ⟨t, e, h1, h2⟩
theorem Y_stage {N : Nat} (hN : 5000 < N) (ok : okB B) (bY : BY Y B) (ly : LNY Y L) (hc : c < 12) (h26 : ∀ t, t < 4096 → Y.1 26 t = nI (g t)) (hg : ∀ t, t < 4096 → g t < 2 ^ 31) : ∃ (Y' : St) (g' : Nat → Nat), (Option.bind (fY0_waysWith_L54 N x1 x2 (nI c) N Y 0) fun t21 => Option.bind (fY0_waysWith_L79 N x1 x2 (nI c) N t21 0) fun t50 => Option.bind (fY0_waysWith_L208 N x1 x2 (nI c) N t50 0) fun t57 => some t57) = some Y' ∧ (∀ t, t < 4096 → Y'.1 26 t = nI (g' t)) ∧ (∀ W : Nat → Nat, sumN (fun t => g' t * W t) 4096 = sumN (fun t => g t * exN (hn B) (fun i => L c (hv B i) && (decide (nI c ≠ x1) || decide (nI (hv B i) = x2))) W t) 4096) ∧ ∀ k q, k ≠ 26 → k ≠ 27 → Y'.1 k q = Y.1 k q := by
  obtain ⟨T, eT, t1, t2⟩ := Y_fill4 (Y := Y) (fun q st x => fY0_waysWith_L54 N x1 x2 (nI c) q st x) 27 (fun _ => 0) (fun n st => by
    show fY0_waysWith_L54 N x1 x2 (nI c) (n + 1) st (nI 4096) = _
    rw [fY0_waysWith_L54, if_pos (by decide)]) (fun n st i hi _ => by
    show fY0_waysWith_L54 N x1 x2 (nI c) (n + 1) st (nI i) = fY0_waysWith_L54 N x1 x2 (nI c) n _ (nI (i + 1))
    rw [fY0_waysWith_L54, if_neg (show ¬ (4096 : Int32) ≤ nI i from nI_ge hi (by decide)), inb_nI hi (by decide), gd_true, nx_eq, cl (show i < 2 ^ 31 by omega), nI_1]) hN
  obtain ⟨U, eU, nx, u1, u2, u3⟩ := loop_up (fun q st x => fY0_waysWith_L79 N x1 x2 (nI c) q st x) 4096
    (fun s st => ∃ nx : Nat → Nat, (∀ t, t < 4096 → st.1 27 t = nI (nx t)) ∧ (∀ W : Nat → Nat, sumN (fun t => nx t * W t) 4096 = sumN (fun t => g t * exN (hn B) (fun i => L c (hv B i) && (decide (nI c ≠ x1) || decide (nI (hv B i) = x2))) W t) s) ∧ ∀ k q, k ≠ 27 → st.1 k q = T.1 k q)
    (fun st => ∃ nx : Nat → Nat, (∀ t, t < 4096 → st.1 27 t = nI (nx t)) ∧ (∀ W : Nat → Nat, sumN (fun t => nx t * W t) 4096 = sumN (fun t => g t * exN (hn B) (fun i => L c (hv B i) && (decide (nI c ≠ x1) || decide (nI (hv B i) = x2))) W t) 4096) ∧ ∀ k q, k ≠ 27 → st.1 k q = T.1 k q)
    (fun q st hI => ⟨st, by
      show fY0_waysWith_L79 N x1 x2 (nI c) (q + 1) st (nI 4096) = _
      rw [fY0_waysWith_L79, if_pos (by decide)], hI⟩)
    (fun q s st hs hI => by
      right
      obtain ⟨nx, a1, a2, o⟩ := hI
      show ∃ s', _ ∧ fY0_waysWith_L79 N x1 x2 (nI c) (q + 1) st (nI s) = fY0_waysWith_L79 N x1 x2 (nI c) q s' (nI (s + 1))
      have o2 : ∀ k q, k ≠ 27 → st.1 k q = Y.1 k q := fun k q hk => by rw [o k q hk]; exact t2 k q hk
      obtain ⟨V, nx', eV, v1, v2, v3⟩ := Y_w90 (N := N) (x1 := x1) (x2 := x2) (by omega) ok (BY_o bY (fun k q hk => o2 k q (by omega))) (fun c hc v hv => by rw [o2 17 _ (by decide)]; exact ly c hc v hv) hc hs (fun t ht => by rw [o2 26 t (by decide)]; exact h26 t ht) hg a1
      rw [fY0_waysWith_L79, if_neg (show ¬ (4096 : Int32) ≤ nI s from nI_ge hs (by decide)), eV, bs, nI_1]
      exact ⟨V, ⟨nx', v1, fun W => by rw [v2 W, a2 W]; rfl, fun k q hk => by rw [v3 k q hk]; exact o k q hk⟩, rfl⟩)
    N 0 T (by omega) (by omega) ⟨fun _ => 0, fun t ht => by rw [t1 t ht]; rfl, fun W => by
      rw [sumN_cong (g := fun _ => 0) 4096 (fun i _ => Nat.zero_mul _), sumN_0]; rfl, fun _ _ _ => rfl⟩
  have eU2 : fY0_waysWith_L79 N x1 x2 (nI c) N T 0 = some U := eU
  obtain ⟨Z, eZ, z1, z2⟩ := Y_fill4 (Y := U) (fun q st x => fY0_waysWith_L208 N x1 x2 (nI c) q st x) 26 (fun i => U.1 27 i) (fun n st => by
    show fY0_waysWith_L208 N x1 x2 (nI c) (n + 1) st (nI 4096) = _
    rw [fY0_waysWith_L208, if_pos (by decide)]) (fun n st i hi o => by
    show fY0_waysWith_L208 N x1 x2 (nI c) (n + 1) st (nI i) = fY0_waysWith_L208 N x1 x2 (nI c) n _ (nI (i + 1))
    rw [fY0_waysWith_L208, if_neg (show ¬ (4096 : Int32) ≤ nI i from nI_ge hi (by decide)), inb_nI hi (by decide), gd_true, gd_true, nx_eq, cl (show i < 2 ^ 31 by omega), nI_1, o 27 i (by decide)]) hN
  have eT2 : fY0_waysWith_L54 N x1 x2 (nI c) N Y 0 = some T := eT
  have eZ2 : fY0_waysWith_L208 N x1 x2 (nI c) N U 0 = some Z := eZ
  rw [eT2, bs, eU2, bs, eZ2, bs]
  exact ⟨Z, nx, rfl, fun t ht => by rw [z1 t ht]; exact u1 t ht, u2, fun k q h1 h2 => by rw [z2 k q h1, u3 k q h2, t2 k q h2]⟩
theorem Y_ways {N : Nat} (hN : 5000 < N) (ok : okB B) (bY : BY Y B) (ly : LNY Y L) : ∃ Y', fY0_waysWith N Y x1 x2 = some (nI (EE (hn B) (oR B L x1 x2) (fun _ => 1) (m3 B) 0 0), Y') ∧ ∀ k q, k ≠ 26 → k ≠ 27 → Y'.1 k q = Y.1 k q := by
  have h12 := ok.2.1
  obtain ⟨T, eT, t1, t2⟩ := Y_fill4 (Y := Y) (fun q st x => fY0_waysWith_L2 N x1 x2 q st x) 26 (fun i => if i = 0 then 1 else 0) (fun n st => by
    show fY0_waysWith_L2 N x1 x2 (n + 1) st (nI 4096) = _
    rw [fY0_waysWith_L2, if_pos (by decide)]) (fun n st i hi _ => by
    show fY0_waysWith_L2 N x1 x2 (n + 1) st (nI i) = fY0_waysWith_L2 N x1 x2 n _ (nI (i + 1))
    rw [fY0_waysWith_L2, if_neg (show ¬ (4096 : Int32) ≤ nI i from nI_ge hi (by decide)), inb_nI hi (by decide), nI_1, cl (show i < 2 ^ 31 by omega)]
    by_cases z : i = 0
    · rw [z, if_pos (show nI 0 = 0 from rfl), bs, gd_true, nx_eq, if_pos rfl]
    · rw [if_neg (nI_ne0 (by omega) (by omega)), bs, gd_true, nx_eq, if_neg z]) hN
  have eT2 : fY0_waysWith_L2 N x1 x2 N Y 0 = some T := eT
  obtain ⟨U, eU, g, u1, u2, u3⟩ := loop_up (fun q st x => fY0_waysWith_L32 N x1 x2 q st x) 12
    (fun c st => ∃ g : Nat → Nat, (∀ t, t < 4096 → st.1 26 t = nI (g t)) ∧ (∀ W : Nat → Nat, sumN (fun t => g t * W t) 4096 = EE (hn B) (oR B L x1 x2) W (fb_ct (k3 B) c) 0 0) ∧ ∀ k q, k ≠ 26 → k ≠ 27 → st.1 k q = Y.1 k q)
    (fun st => ∃ g : Nat → Nat, (∀ t, t < 4096 → st.1 26 t = nI (g t)) ∧ (∀ W : Nat → Nat, sumN (fun t => g t * W t) 4096 = EE (hn B) (oR B L x1 x2) W (fb_ct (k3 B) 12) 0 0) ∧ ∀ k q, k ≠ 26 → k ≠ 27 → st.1 k q = Y.1 k q)
    (fun q st hI => ⟨st, by
      show fY0_waysWith_L32 N x1 x2 (q + 1) st (nI 12) = _
      rw [fY0_waysWith_L32, if_pos (by decide)], hI⟩)
    (fun q c st hc hI => by
      right
      obtain ⟨g, a1, a2, o⟩ := hI
      show ∃ s', _ ∧ fY0_waysWith_L32 N x1 x2 (q + 1) st (nI c) = fY0_waysWith_L32 N x1 x2 q s' (nI (c + 1))
      have b1 : BY st B := BY_o bY (fun k q hk => o k q (by omega) (by omega))
      rw [fY0_waysWith_L32, if_neg (show ¬ (12 : Int32) ≤ nI c from nI_ge hc (by decide)), inb_nI hc (by decide), gd_true, cl (show c < 2 ^ 31 by omega), nI_1]
      by_cases z : kd B c = 3
      rotate_left
      · rw [if_neg (fun w => z ((Y_is3 b1 hc).mp w)), bs]
        refine ⟨st, ⟨g, a1, fun W => ?_, o⟩, rfl⟩
        rw [fb_ct_succ, show k3 B c = false from decide_eq_false z, if_neg (by decide)]; exact a2 W
      have tk : k3 B c = true := decide_eq_true z
      have hg : ∀ t, t < 4096 → g t < 2 ^ 31 := fun t ht => by
        have e1 := sumN_one (f := fun t => g t * Vw t) 4096 t ht
        rw [a2 Vw] at e1
        have e2 := EE_V (o := oR B L x1 x2) h12 (W := Vw) (fun _ => Nat.le_refl _) (fb_ct (k3 B) c) 0 0
        have e3 := Vw_le 0
        have e4 : g t * 1 ≤ g t * Vw t := Nat.mul_le_mul_left _ (Vw_pos t)
        try dsimp only at e1
        omega
      obtain ⟨Z, g', eZ, z1, z2, z3⟩ := Y_stage (N := N) (x1 := x1) (x2 := x2) hN ok b1 (fun c hc v hv => by rw [o 17 _ (by decide) (by decide)]; exact ly c hc v hv) hc a1 hg
      rw [if_pos ((Y_is3 b1 hc).mpr z), eZ, bs]
      refine ⟨Z, ⟨g', z1, fun W => ?_, fun k q h1 h2 => by rw [z3 k q h1 h2]; exact o k q h1 h2⟩, rfl⟩
      rw [z2 W, a2, fb_ct_succ, tk, if_pos rfl, EE_add W 1 (fb_ct (k3 B) c) 0 0]
      have ec : ce3 B (fb_ct (k3 B) c) = c := nC_at hc tk
      have ef : (fun t => exN (hn B) (fun i => L c (hv B i) && (decide (nI c ≠ x1) || decide (nI (hv B i) = x2))) W t) = fun u => EE (hn B) (oR B L x1 x2) W 1 (0 + fb_ct (k3 B) c) u := funext fun u => by
        rw [Nat.zero_add]
        show _ = exN (hn B) (oR B L x1 x2 (fb_ct (k3 B) c)) W u
        refine exN_o u (fun i _ => ?_)
        unfold oR
        rw [ec]
      rw [← ef])
    N 0 T (by omega) (by omega) ⟨fun t => if t = 0 then 1 else 0, fun t ht => by
      rw [t1 t ht]
      dsimp only
      split <;> rfl, fun W => by
      show sumN (fun t => (if t = 0 then 1 else 0) * W t) 4096 = W 0
      have := sumN_upd (g := fun _ => 0) (W := W) (u := 0) (d := 1) 4096
      rw [if_pos (by omega), sumN_cong (g := fun _ => 0) (f := fun t => (fun _ => 0) t * W t) 4096 (fun i _ => Nat.zero_mul _), sumN_0, Nat.zero_add, Nat.one_mul] at this
      rw [Nat.zero_add] at this
      exact this, fun k q h1 h2 => t2 k q h1⟩
  have eU2 : fY0_waysWith_L32 N x1 x2 N T 0 = some U := eU
  obtain ⟨r, er, hr⟩ := loop_up (fun q (x : Int32) y => fY0_waysWith_L247 N U q x y) 4096 (fun i x => x = nI (sumN g i)) (fun x => x = nI (sumN g 4096))
    (fun q x hI => ⟨x, by
      show fY0_waysWith_L247 N U (q + 1) x (nI 4096) = _
      rw [fY0_waysWith_L247, if_pos (by decide)], hI⟩)
    (fun q i x hi hI => by
      right
      show ∃ s', _ ∧ fY0_waysWith_L247 N U (q + 1) x (nI i) = fY0_waysWith_L247 N U q s' (nI (i + 1))
      rw [fY0_waysWith_L247, if_neg (show ¬ (4096 : Int32) ≤ nI i from nI_ge hi (by decide)), inb_nI hi (by decide), gd_true, nx_eq, cl (show i < 2 ^ 31 by omega), u1 i hi, hI, nI_add, nI_1]
      exact ⟨_, rfl, rfl⟩)
    N 0 0 (by omega) (by omega) rfl
  have er2 : fY0_waysWith_L247 N U N 0 0 = some r := er
  rw [fY0_waysWith, eT2, bs, eU2, bs, er2, bs, hr]
  refine ⟨U, ?_, u3⟩
  have e5 := u2 (fun _ => 1)
  rw [sumN_cong (g := g) 4096 (fun i _ => Nat.mul_one _)] at e5
  rw [e5]
end PI
