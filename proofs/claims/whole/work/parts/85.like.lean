/-! like -/
def bwY (B : Bk) (f : Nat → Nat) : List (Nat → Nat) → Int
  | [] => -9
  | τ :: fl => bw B f (τ :: fl)
section OV
variable {S S' Y Y' : St} {B : Bk} {out lim : Nat} {lo hi lo' hi' : Nat → Int} {L L' : Nat → Nat → Bool} {τ : Nat → Nat} {w : Option Nat} {W : Option (Nat → Nat)} {a : Acc} {f : Nat → Nat}
theorem bw_0 (h : ∀ k, k < 10 → f k < 100) : ∀ fl, fl ≠ [] → 0 ≤ bw B f fl
  | [], q => absurd rfl q
  | τ :: fl, _ => by
    have := wgt_b (B := B) (τ := τ) h
    rw [bw]
    split
    · omega
    · omega
theorem bwY_e {fl : List (Nat → Nat)} (h : fl ≠ []) : bwY B f fl = bw B f fl := by
  cases fl with
  | nil => exact absurd rfl h
  | cons => rfl
theorem bwY_b (h : ∀ k, k < 10 → f k < 100) (fl : List (Nat → Nat)) : -9 ≤ bwY B f fl ∧ bwY B f fl ≤ 1200 := by
  cases fl with
  | nil => exact ⟨show (-9 : Int) ≤ -9 by omega, show (-9 : Int) ≤ 1200 by omega⟩
  | cons τ fl =>
    have := bw_b (B := B) h (τ :: fl)
    rw [bwY]; omega
theorem bwY_lt (h : ∀ k, k < 10 → f k < 100) (fl : List (Nat → Nat)) : bwY B f fl < wgt B f τ ↔ bw B f fl < wgt B f τ := by
  cases fl with
  | nil =>
    have := wgt_b (B := B) (τ := τ) h
    have e1 : bwY B f [] = -9 := rfl
    have e2 : bw B f [] = -1 := rfl
    omega
  | cons τ fl => exact Iff.rfl
theorem fo_wgt : ∀ m, fo B (fun (x : Int32) c => x + nI (f (τ c % 10))) 0 m = iI (fb_si (fun c => if thr B c = true then (f (τ c % 10) : Int) else 0) m)
  | 0 => rfl
  | m + 1 => by
    rw [fo, fo_wgt m, fb_si]
    cases thr B m
    · rw [if_neg (by decide), if_neg (by decide), Int.add_zero]
    · rw [if_pos rfl, if_pos rfl, iI_nat, iI_add]
theorem Y_weight {N : Nat} (hN : 61 < N) {x2 x5 : Int32} (h27 : Y.1 0 27 = nI (nth B)) (h20 : ∀ k, k < nth B → Y.1 20 k = nI (cel B k)) (h24 : ∀ k, k < 10 → Y.1 24 k = nI (f k)) (ag : ∀ d, d < 12 → thr B d = true → Y.1 22 d = nI (τ d) ∧ τ d < 100) : fY0_like_L127 N Y x2 x5 N 0 0 = some (iI (wgt B f τ)) := by
  have nb := nth_le B
  have e := fo_loop B (fun (x : Int32) c => x + nI (f (τ c % 10))) (0 : Int32) (fun _ => True) (fun q x y => fY0_like_L127 N Y x2 x5 q x y) (fun n x => by
      show fY0_like_L127 N Y x2 x5 (n + 1) x (nI (nth B)) = _
      rw [fY0_like_L127, h27, if_pos (ge_n (by omega))]) (fun n x k hk _ => ⟨by
      try dsimp only
      have cb := cel_b hk
      have a := ag _ cb.1 cb.2.1
      rw [fY0_like_L127, h27, if_neg (nI_ge hk (by omega)), inb_nI (show k < 12 by omega) (by decide), gd_true, cl (show k < 2 ^ 31 by omega), h20 k hk, inb_nI cb.1 (by decide), gd_true, cl (show cel B k < 2 ^ 31 by omega), a.1, r10 (by omega), inb_nI (show τ (cel B k) % 10 < 10 by omega) (by decide), gd_true, nx_eq, cl (show τ (cel B k) % 10 < 2 ^ 31 by omega), h24 _ (by omega), nI_1], trivial⟩) trivial (show 12 < N by omega)
  rw [fo_wgt] at e
  exact e
theorem Y_keep {N : Nat} (hN : 61 < N) {x2 x5 : Int32} : ∃ Z, fY0_like_L181 N x2 x5 N Y 0 = some Z ∧ (∀ c, c < 12 → Z.1 25 c = Y.1 22 c) ∧ ∀ k q, k ≠ 25 → Z.1 k q = Y.1 k q := by
  obtain ⟨t, e, h1, h2⟩ := loop_up (fun q st x => fY0_like_L181 N x2 x5 q st x) 12
    (fun i st => (∀ c, c < i → st.1 25 c = Y.1 22 c) ∧ ∀ k q, k ≠ 25 → st.1 k q = Y.1 k q)
    (fun st => (∀ c, c < 12 → st.1 25 c = Y.1 22 c) ∧ ∀ k q, k ≠ 25 → st.1 k q = Y.1 k q)
    (fun q st hI => ⟨st, by
      show fY0_like_L181 N x2 x5 (q + 1) st (nI 12) = _
      rw [fY0_like_L181, if_pos (by decide)], hI⟩)
    (fun q i st hi hI => by
      right
      show ∃ s', _ ∧ fY0_like_L181 N x2 x5 (q + 1) st (nI i) = fY0_like_L181 N x2 x5 q s' (nI (i + 1))
      rw [fY0_like_L181, if_neg (show ¬ (12 : Int32) ≤ nI i from nI_ge hi (by decide)), inb_nI hi (by decide), gd_true, gd_true, nx_eq, cl (show i < 2 ^ 31 by omega), nI_1]
      refine ⟨_, ⟨fun c hc => ?_, fun k q hk => by rw [p1_ne hk]; exact hI.2 k q hk⟩, rfl⟩
      by_cases z : c = i
      · subst z; rw [p1_eq]; exact hI.2 22 c (by decide)
      · rw [p1_ni z]; exact hI.1 c (by omega))
    N 0 Y (by omega) (by omega) ⟨fun c hc => by omega, fun _ _ _ => rfl⟩
  exact ⟨t, e, h1, h2⟩
theorem Y_back {N : Nat} (hN : 61 < N) {x2 x5 : Int32} : ∃ Z, fY0_like_L232 N x2 x5 N Y 0 = some Z ∧ (∀ c, c < 12 → Z.1 22 c = Y.1 25 c) ∧ ∀ k q, k ≠ 22 → Z.1 k q = Y.1 k q := by
  obtain ⟨t, e, h1, h2⟩ := loop_up (fun q st x => fY0_like_L232 N x2 x5 q st x) 12
    (fun i st => (∀ c, c < i → st.1 22 c = Y.1 25 c) ∧ ∀ k q, k ≠ 22 → st.1 k q = Y.1 k q)
    (fun st => (∀ c, c < 12 → st.1 22 c = Y.1 25 c) ∧ ∀ k q, k ≠ 22 → st.1 k q = Y.1 k q)
    (fun q st hI => ⟨st, by
      show fY0_like_L232 N x2 x5 (q + 1) st (nI 12) = _
      rw [fY0_like_L232, if_pos (by decide)], hI⟩)
    (fun q i st hi hI => by
      right
      show ∃ s', _ ∧ fY0_like_L232 N x2 x5 (q + 1) st (nI i) = fY0_like_L232 N x2 x5 q s' (nI (i + 1))
      rw [fY0_like_L232, if_neg (show ¬ (12 : Int32) ≤ nI i from nI_ge hi (by decide)), inb_nI hi (by decide), gd_true, gd_true, nx_eq, cl (show i < 2 ^ 31 by omega), nI_1]
      refine ⟨_, ⟨fun c hc => ?_, fun k q hk => by rw [p1_ne hk]; exact hI.2 k q hk⟩, rfl⟩
      by_cases z : c = i
      · subst z; rw [p1_eq]; exact hI.2 25 c (by decide)
      · rw [p1_ni z]; exact hI.1 c (by omega))
    N 0 Y (by omega) (by omega) ⟨fun c hc => by omega, fun _ _ _ => rfl⟩
  exact ⟨t, e, h1, h2⟩
theorem agY_25 {N : Nat} {x2 x5 : Int32} (o : ∀ k q, k ≠ 25 → Y'.1 k q = Y.1 k q) (o2 : Y'.2 = Y.2) : agY Y Y' := by
  refine ⟨fun k hk => funext fun q => o k q ?_, fun k i hk => o k i ?_, fun k i _ => by rw [o2]⟩
  · intro e; subst e; exact absurd hk (by decide)
  · intro e; subst e
    have : ∀ p ∈ fiY, p.1 ≠ 25 := by decide
    exact this _ hk rfl
theorem Y_likeL {N : Nat} (hN : 1300 < N) (hN2 : 2 * lim + 14 < N) (ok : okB B) (hlim : lim < 2 ^ 30) (nm : ∀ c v : Nat, c < 12 → v < 100 → L c v = true → nmd B) {x2 : Int32} (hf : ∀ k, k < 10 → f k < 100) (yc : YC Y B L 0 lim 0) (ys : YS Y B L 0 (evs B L 0)) (h24 : ∀ k, k < 10 → Y.1 24 k = nI (f k)) : ∃ t : St × Int32, fY0_like_L114 N x2 N Y (-9) = some t ∧ agY Y t.1 ∧ BY t.1 B ∧ t.1.1 0 36 = bI (fin B L 0 lim none).2.2.1 ∧ t.2 = iI (bwY B f (fin B L 0 lim none).2.1) ∧ ((fin B L 0 lim none).2.1 ≠ [] → ∀ c, c < 12 → thr B c = true → t.1.1 25 c = nI (lk B f (fin B L 0 lim none).2.1 c)) := by
  obtain ⟨t, e, h⟩ := loop_me (fun n (s : St × Nat × List Ev × List (Nat → Nat)) => fY0_like_L114 N x2 n s.1 (iI (bwY B f s.2.2.2)))
    (fun s => agY Y s.1 ∧ YC s.1 B L 0 lim s.2.1 ∧ YS s.1 B L 0 s.2.2.1 ∧ (∀ k, k < 10 → s.1.1 24 k = nI (f k)) ∧ (s.2.2.2 ≠ [] → ∀ c, c < 12 → thr B c = true → s.1.1 25 c = nI (lk B f s.2.2.2 c)) ∧ run lim none (s.2.1, s.2.2.2, false, false) s.2.2.1 = fin B L 0 lim none)
    (fun s => 2 * (lim - s.2.1) + min s.2.2.1.length 1)
    (fun t => agY Y t.1 ∧ BY t.1 B ∧ t.1.1 0 36 = bI (fin B L 0 lim none).2.2.1 ∧ t.2 = iI (bwY B f (fin B L 0 lim none).2.1) ∧ ((fin B L 0 lim none).2.1 ≠ [] → ∀ c, c < 12 → thr B c = true → t.1.1 25 c = nI (lk B f (fin B L 0 lim none).2.1 c)))
    (fun n s hI => by
      obtain ⟨T, st, R, fl⟩ := s
      obtain ⟨ag, yc, ys, g24, g25, hr⟩ := hI
      dsimp only at ag yc ys g24 g25 hr ⊢
      obtain ⟨r, Z, eZ, z1, z0⟩ := Y_next (by omega) hN2 ok (by omega) hlim nm yc ys
      have fz := frY0_nextFilling eZ
      have ag2 : agY Y Z := agr_trans ag (agr_of fz (by decide) (by decide) (by decide))
      have z24 : ∀ k, k < 10 → Z.1 24 k = nI (f k) := fun k hk => by rw [fr_k fz (by decide) (by decide)]; exact g24 k hk
      have z25 : fl ≠ [] → ∀ c, c < 12 → thr B c = true → Z.1 25 c = nI (lk B f fl c) := fun q c hc tc => by rw [fr_k fz (by decide) (by decide)]; exact g25 q c hc tc
      rw [fY0_like_L114, eZ, bs]
      try dsimp only
      rw [if_bI0]
      cases r
      · left
        rw [if_neg (by decide)]
        obtain ⟨b1, b2, b3, e, st', b4, b5, b6⟩ := z0 rfl
        have hr2 := hr
        rw [b6] at hr2
        refine ⟨_, rfl, ag2, b1, ?_, ?_, fun q => ?_⟩
        · rw [← hr2]; exact b4
        · rw [← hr2]
        · rw [← hr2] at q ⊢; exact z25 q
      · right
        rw [if_pos rfl]
        obtain ⟨τ, st', R', n1, n2, n3, n4, n5, n6⟩ := z1 rfl
        have mu : 2 * (lim - st') + min R'.length 1 < 2 * (lim - st) + min R.length 1 := by
          have := n1.2.2.2.2.2.2.2.2
          rcases n4 with q | ⟨q1, q2⟩
          · omega
          · subst q1
            cases R with
            | nil => exact absurd rfl q2
            | cons x R =>
              rw [List.length_cons, List.length_nil]
              omega
        have wb := wgt_b (B := B) (τ := τ) hf
        have bb := bwY_b (B := B) hf fl
        have hr2 : run lim none (st', τ :: fl, false, false) R' = fin B L 0 lim none := by rw [← hr, n6]; rfl
        rw [Y_weight (by omega) n1.2.2.1 n1.2.2.2.1 z24 n5, bs]
        by_cases q : bw B f fl < wgt B f τ
        · have q2 := (bwY_lt (τ := τ) hf fl).mpr q
          obtain ⟨V, eV, v1, v2⟩ := Y_keep (N := N) (Y := Z) (x2 := x2) (x5 := iI (wgt B f τ)) (by omega)
          have v3 : V.2 = Z.2 := funext fun k => funext fun i => (frY0_like_L181 N Z 0 eV).2 k i (by simp [mL_Y0_like])
          rw [if_neg (fun z => by have := (iI_le (by omega) (by omega) (by omega) (by omega)).mp z; omega), eV, bs, bs]
          refine ⟨(V, st', R', τ :: fl), ⟨agr_trans ag2 (agY_25 (N := N) (x2 := x2) (x5 := x2) v2 v3), YC_o n1 (fun k q h => v2 k q (by omega)), YS_o n2 (fun k q h => v2 k q (by omega)), fun k hk => ?_, fun _ c hc tc => ?_, hr2⟩, mu, ?_⟩
          · show V.1 24 k = _
            rw [v2 24 k (by decide)]; exact z24 k hk
          · show V.1 25 c = nI (lk B f (τ :: fl) c)
            rw [v1 c hc, lk, if_pos q]; exact (n5 c hc tc).1
          · show fY0_like_L114 N x2 n V (iI (wgt B f τ)) = fY0_like_L114 N x2 n V (iI (bw B f (τ :: fl)))
            rw [bw, if_pos q]
        · have q2 : ¬ bwY B f fl < wgt B f τ := fun z => q ((bwY_lt (τ := τ) hf fl).mp z)
          have ne : fl ≠ [] := fun z => by
            rw [z] at q
            have e2 : bw B f [] = -1 := rfl
            omega
          rw [if_pos ((iI_le (by omega) (by omega) (by omega) (by omega)).mpr (by omega)), bs]
          refine ⟨(Z, st', R', τ :: fl), ⟨ag2, n1, n2, z24, fun _ c hc tc => ?_, hr2⟩, mu, ?_⟩
          · show Z.1 25 c = nI (lk B f (τ :: fl) c)
            rw [lk, if_neg q]; exact z25 ne c hc tc
          · show fY0_like_L114 N x2 n Z (iI (bwY B f fl)) = fY0_like_L114 N x2 n Z (iI (bw B f (τ :: fl)))
            rw [bw, if_neg q, bwY_e ne])
    N (Y, 0, evs B L 0, []) (by show 2 * (lim - 0) + min (evs B L 0).length 1 < N; omega) ⟨agr_refl, yc, ys, h24, fun q => absurd rfl q, rfl⟩
  exact ⟨t, e, h⟩
theorem Y_like58 {N : Nat} (hN : 61 < N) {r : Nat} (hr : r < 6) {x2 x3 : Int32} : ∃ t, fY0_like_L58 N (nI r) x2 x3 N Y 0 = some t ∧ ((∃ Z, t = .inr Z ∧ (∀ k, k < 10 → Z.1 24 k = Y.1 3 (40 * r + k) ∧ inb (Y.1 3 (40 * r + k)) 100 = true) ∧ (∀ k q, k ≠ 24 → Z.1 k q = Y.1 k q) ∧ Z.2 = Y.2) ∨ ∃ Z k, k < 10 ∧ ¬ inb (Y.1 3 (40 * r + k)) 100 = true ∧ (∀ k q, k ≠ 24 → Z.1 k q = Y.1 k q) ∧ Z.2 = Y.2 ∧ ∀ v, fY0_meets Z 3 = some v → t = .inl v) := by
  obtain ⟨t, e, h⟩ := loop_up (fun q st x => fY0_like_L58 N (nI r) x2 x3 q st x) 10
    (fun i st => (∀ k, k < i → st.1 24 k = Y.1 3 (40 * r + k) ∧ inb (Y.1 3 (40 * r + k)) 100 = true) ∧ (∀ k q, k ≠ 24 → st.1 k q = Y.1 k q) ∧ st.2 = Y.2)
    (fun t => (∃ Z, t = .inr Z ∧ (∀ k, k < 10 → Z.1 24 k = Y.1 3 (40 * r + k) ∧ inb (Y.1 3 (40 * r + k)) 100 = true) ∧ (∀ k q, k ≠ 24 → Z.1 k q = Y.1 k q) ∧ Z.2 = Y.2) ∨ ∃ Z k, k < 10 ∧ ¬ inb (Y.1 3 (40 * r + k)) 100 = true ∧ (∀ k q, k ≠ 24 → Z.1 k q = Y.1 k q) ∧ Z.2 = Y.2 ∧ ∀ v, fY0_meets Z 3 = some v → t = .inl v)
    (fun q st hI => ⟨.inr st, by
      show fY0_like_L58 N (nI r) x2 x3 (q + 1) st (nI 10) = _
      rw [fY0_like_L58, if_pos (by decide)], Or.inl ⟨st, rfl, hI⟩⟩)
    (fun q i st hi hI => by
      obtain ⟨g1, g2, g3⟩ := hI
      show (∃ t, fY0_like_L58 N (nI r) x2 x3 (q + 1) st (nI i) = some t ∧ _) ∨ ∃ s', _ ∧ fY0_like_L58 N (nI r) x2 x3 (q + 1) st (nI i) = fY0_like_L58 N (nI r) x2 x3 q s' (nI (i + 1))
      rw [fY0_like_L58, if_neg (show ¬ (10 : Int32) ≤ nI i from nI_ge hi (by decide)), fY0_rowAt, ix40, inb_nI (show 40 * r + i < 240 by omega) (by decide), gd_true, cl (show 40 * r + i < 2 ^ 31 by omega), bs, inb_nI hi (by decide), gd_true, nx_eq, gd_true, cl (show i < 2 ^ 31 by omega), p1_eq, YisNumber, bs, g2 3 _ (by decide), nI_1]
      have o : ∀ k q, k ≠ 24 → (p1 st 24 i (Y.1 3 (40 * r + i))).1 k q = Y.1 k q := fun k q hk => by rw [p1_ne hk]; exact g2 k q hk
      by_cases b : inb (Y.1 3 (40 * r + i)) 100 = true
      · right
        rw [if_pos b, if_neg ne10]
        refine ⟨_, ⟨fun k hk => ?_, o, g3⟩, rfl⟩
        by_cases z : k = i
        · subst z; rw [p1_eq]; exact ⟨rfl, b⟩
        · rw [p1_ni z]; exact g1 k (by omega)
      · left
        rw [if_neg b, if_pos rfl]
        have hm : ∃ v, fY0_meets (p1 st 24 i (Y.1 3 (40 * r + i))) 3 = some v := by
          unfold fY0_meets
          exact ⟨_, rfl⟩
        obtain ⟨v, hv⟩ := hm
        rw [hv, bs]
        exact ⟨_, rfl, Or.inr ⟨_, i, hi, b, o, g3, fun v' hv' => by rw [hv] at hv'; injection hv' with hv'; rw [← hv']⟩⟩)
    N 0 Y (by omega) (by omega) ⟨fun k hk => by omega, fun _ _ _ => rfl, rfl⟩
  exact ⟨t, e, h⟩
theorem X_weighBy {N : Nat} (hN : 61 < N) {r : Nat} (hr : r < 6) : ∃ Z, fX37_weighBy N S (nI r) = some Z ∧ (∀ k, k < 10 → Z.1 40 k = S.1 (3 + r) k) ∧ ∀ k q, k ≠ 40 → Z.1 k q = S.1 k q := by
  obtain ⟨t, e, h1, h2⟩ := loop_up (fun q st x => fX37_weighBy_L2 N (nI r) q st x) 10
    (fun i st => (∀ c, c < i → st.1 40 c = S.1 (3 + r) c) ∧ ∀ k q, k ≠ 40 → st.1 k q = S.1 k q)
    (fun st => (∀ c, c < 10 → st.1 40 c = S.1 (3 + r) c) ∧ ∀ k q, k ≠ 40 → st.1 k q = S.1 k q)
    (fun q st hI => ⟨st, by
      show fX37_weighBy_L2 N (nI r) (q + 1) st (nI 10) = _
      rw [fX37_weighBy_L2, if_pos (by decide)], hI⟩)
    (fun q i st hi hI => by
      right
      show ∃ s', _ ∧ fX37_weighBy_L2 N (nI r) (q + 1) st (nI i) = fX37_weighBy_L2 N (nI r) q s' (nI (i + 1))
      rw [fX37_weighBy_L2, if_neg (show ¬ (10 : Int32) ≤ nI i from nI_ge hi (by decide)), X1_get_e st hr (by omega), bs, inb_nI hi (by decide), gd_true, nx_eq, cl (show i < 2 ^ 31 by omega), nI_1]
      refine ⟨_, ⟨fun c hc => ?_, fun k q hk => by rw [p1_ne hk]; exact hI.2 k q hk⟩, rfl⟩
      by_cases z : c = i
      · subst z; rw [p1_eq]; exact hI.2 (3 + r) c (by omega)
      · rw [p1_ni z]; exact hI.1 c (by omega))
    N 0 S (by omega) (by omega) ⟨fun c hc => by omega, fun _ _ _ => rfl⟩
  refine ⟨t, ?_, h1, h2⟩
  have e2 : fX37_weighBy_L2 N (nI r) N S 0 = some t := e
  rw [fX37_weighBy, e2, bs]
theorem agY_24 (o : ∀ k q, k ≠ 24 → Y'.1 k q = Y.1 k q) (o2 : Y'.2 = Y.2) : agY Y Y' := by
  refine ⟨fun k hk => funext fun q => o k q ?_, fun k i hk => o k i ?_, fun k i _ => by rw [o2]⟩
  · intro e; subst e; exact absurd hk (by decide)
  · intro e; subst e
    have : ∀ p ∈ fiY, p.1 ≠ 24 := by decide
    exact this _ hk rfl
theorem op13_like {N : Nat} (hN : 41000 < N) : op_like N RR := by
  intro S Y a1 a2 a3 h
  obtain ⟨B, ok, bx, bY⟩ := h.2.2.2
  unfold fX0_like fY0_like
  rw [XisRow, YisRow, YisRow, bs, bs, bs]
  by_cases h1 : inb a2 6 = true
  rotate_left
  · rw [if_neg h1, if_pos rfl]
    refine ⟨-1, S, Y, rfl, ?_, h⟩
    split
    · rfl
    · rw [if_pos rfl]
  obtain ⟨j, hj, rfl⟩ := inb_ex h1 (by decide)
  rw [if_pos h1, if_neg ne10]
  rcases turns S Y a3 with ⟨q1, q2⟩ | ⟨lim, rfl, l1, l2, q1, q2⟩
  · rw [q1, q2, bs, bs, if_pos rfl, if_neg ne10, if_pos rfl]
    refine ⟨-1, S, Y, rfl, ?_, h⟩
    split <;> rfl
  rw [q1, q2, bs, bs, if_neg ne10, if_neg ne10, if_neg ne10]
  by_cases h2 : inb a1 6 = true
  rotate_left
  · have e : fX0_refuseRow S a1 = some (-1, S) := by
      rw [fX0_refuseRow, XisRow, bs, if_neg h2, if_pos rfl]
    rw [if_neg h2, if_pos rfl, e, bs]
    exact ⟨-1, S, Y, rfl, rfl, h⟩
  rw [if_pos h2, if_neg ne10]
  rcases refRow h a1 with ⟨v, S', Y', e1, e2, hv, hR'⟩ | ⟨r, n, hr, rfl, hn, g1, g2, g3, e1, e2⟩
  · rw [e1, e2, bs, bs, if_neg (neg0 hv), if_neg (negle hv)]
    exact ⟨v, S', Y', rfl, rfl, hR'⟩
  have er : Int32.toNatClampNeg (nI r) = r := cl (by omega)
  rw [e1, e2, bs, bs]
  try dsimp only
  rw [if_pos rfl, if_pos (show (0 : Int32) ≤ 0 by decide), fX1_sizeOf, h2, gd_true, gd_true, bs, er, g1, g2]
  by_cases z : n = 10
  rotate_left
  · obtain ⟨S', Y', e1, e2, hR'⟩ := found_R h (f := 5) (by decide) (x := 5) rfl
    have z10 : ¬ nI n = 10 := (by rw [show (10 : Int32) = nI 10 from rfl, nI_eq (by omega) (by omega)]; exact z)
    rw [if_neg z10, if_neg z10, e1, e2, bs, bs]
    exact ⟨_, _, _, rfl, rfl, hR'⟩
  subst z
  rw [if_pos (show nI 10 = 10 from rfl), if_pos (show nI 10 = 10 from rfl)]
  obtain ⟨v, ev, hv⟩ := X1_within (N := N) (by omega) S hr hn g1
  obtain ⟨t, et, ht⟩ := Y_like58 (N := N) (Y := Y) (by omega) hr (x2 := nI j) (x3 := nI lim)
  rw [ev, bs, et, bs]
  rcases ht with ⟨Z, rfl, z1, z2, z3⟩ | ⟨Z, k, hk, z1, z2, z3, z4⟩
  rotate_left
  · have hZ : RR S Z := RR_ag h agr_refl (agY_24 z2 z3)
    obtain ⟨S', Y', e1, e2, hR'⟩ := found_R hZ (f := 3) (by decide) (x := 3) rfl
    rcases hv with ⟨_, u⟩ | ⟨rfl, _⟩
    · have := u k hk
      rw [g3 k hk] at this
      exact absurd this z1
    rw [if_pos rfl, e1, bs, z4 _ e2]
    exact ⟨_, _, _, rfl, rfl, hR'⟩
  rcases hv with ⟨rfl, _⟩ | ⟨_, i, hi, u⟩
  rotate_left
  · rw [g3 i hi] at u
    exact absurd (z1 i hi).2 u
  show ∃ v S' Y', _ ∧ Option.bind (fY0_begin N Z (nI lim) 0) _ = _ ∧ _
  obtain ⟨V, eV, v1, v2⟩ := X_weighBy (N := N) (S := S) (by omega) hr
  rw [if_neg ne10, eV, bs]
  have hf : ∀ k, k < 10 → Y.1 3 (40 * r + k) = nI ((Y.1 3 (40 * r + k)).toInt.toNat) ∧ (Y.1 3 (40 * r + k)).toInt.toNat < 100 := fun k hk => by
    have b := inb_iff.mp (z1 k hk).2
    refine ⟨?_, by omega⟩
    rw [iI_nat, Int.toNat_of_nonneg b.1, iI_of]
  generalize hF : (fun k => (Y.1 3 (40 * r + k)).toInt.toNat) = F
  have hF2 : ∀ k, k < 10 → Y.1 3 (40 * r + k) = nI (F k) ∧ F k < 100 := fun k hk => by rw [← hF]; exact hf k hk
  have hRZ : RR V Z := RR_ag h (agr_of (frX37_weighBy eV) (by decide) (by decide) (by decide)) (agY_24 z2 z3)
  have bV : BX V B := BX_c bx (funext fun q => v2 26 q (by decide)) (funext fun q => v2 27 q (by decide)) (funext fun q => v2 28 q (by decide)) (v2 _ _ (by decide)) (v2 _ _ (by decide)) (funext fun q => v2 23 q (by decide)) (funext fun q => v2 24 q (by decide)) (v2 _ _ (by decide)) (funext fun q => v2 30 q (by decide)) (funext fun q => v2 31 q (by decide)) (funext fun q => v2 32 q (by decide))
  have bZ : BY Z B := BY_o bY (fun k q hk => z2 k q (by omega))
  obtain ⟨S1, Y1, L, lo, hi', f1, f2, n⟩ := narrowAll_R (N := N) (by omega) ok bV bZ
  obtain ⟨U, eU, xf⟩ := X_all (N := N) (lim := lim) (W := some F) hN ok l1 l2 f1 n (fun f hf k hk => by
    injection hf with hf
    rw [v1 k hk, g3 k hk, ← hf]; exact hF2 k hk)
  obtain ⟨n1, n2, n3, n4, n5, n6, n7, n8, n9⟩ := n
  obtain ⟨T, eT, yc, ys⟩ := Y_begin (N := N) (out := 0) (lim := lim) (by omega) ok (by omega) f2 n2 n5
  have eT2 : fY0_begin N Z (nI lim) 0 = some T := eT
  obtain ⟨t, et, t0, t1, t2, t3, t4⟩ := Y_likeL (N := N) (x2 := nI j) (f := F) (by omega) (by omega) ok (by omega) n9 (fun k hk => (hF2 k hk).2) yc ys (fun k hk => by
    rw [fr_k (frY0_begin eT2) (by decide) (by decide), (z1 k hk).1]; exact (hF2 k hk).1)
  have R1 : RR U t.1 := RR_ag (RR_ag hRZ (agr_of (frX0_goThroughAll eU) (by decide) (by decide) (by decide)) (agr_of (frY0_begin eT2) (by decide) (by decide) (by decide))) agr_refl t0
  have fb := fin_b B L 0 lim none
  have bb := bw_b (B := B) (f := F) (fun k hk => (hF2 k hk).2) (fin B L 0 lim none).2.1
  rw [eU, bs, eT2, bs, et, bs]
  try dsimp only
  rw [sp6, t2, if_bI0]
  cases es : (fin B L 0 lim none).2.2.1
  rotate_left
  · exact ⟨-6, U, t.1, rfl, rfl, R1⟩
  rw [if_neg (by decide), if_neg (by decide), fX37_fillings, bs, xf.2.2.1, t3]
  have x8 := xf.2.2.2.2.2.2.2 rfl F rfl
  by_cases ne : (fin B L 0 lim none).2.1 = []
  · rw [ne, if_pos (show nI (List.length (α := Nat → Nat) []) = 0 from rfl), if_neg (show ¬ (0 : Int32) ≤ iI (bwY B F []) from (by decide : ¬ (0 : Int32) ≤ iI (-9)))]
    exact ⟨_, _, _, rfl, rfl, R1⟩
  · have lp : 0 < (fin B L 0 lim none).2.1.length := List.length_pos_iff.mpr ne
    have b0 := bw_0 (B := B) (f := F) (fun k hk => (hF2 k hk).2) _ ne
    rw [if_neg (nI_ne0 lp (by omega)), bwY_e ne, if_pos (show (0 : Int32) ≤ iI (bw B F (fin B L 0 lim none).2.1) from (iI_le (a := 0) (by omega) (by omega) (by omega) (by omega)).mpr b0)]
    obtain ⟨Q, eQ, k1, k2⟩ := Y_back (N := N) (Y := t.1) (x2 := nI j) (x5 := iI (bw B F (fin B L 0 lim none).2.1)) (by omega)
    have k3 : Q.2 = t.1.2 := funext fun k => funext fun i => (frY0_like_L232 N t.1 0 eQ).2 k i (by simp [mL_Y0_like])
    have R2 : RR U Q := RR_ag R1 agr_refl ⟨fun k hk => funext fun q => k2 k q (by intro e; subst e; exact absurd hk (by decide)), fun k i hk => k2 k i (by
      intro e; subst e
      have : ∀ p ∈ fiY, p.1 ≠ 22 := by decide
      exact this _ hk rfl), fun k i _ => by rw [k3]⟩
    obtain ⟨S2, Y2, w1, w2, w3, w4⟩ := write_R (N := N) (by omega) R2 xf.1 (BY_o t1 (fun k q hk => k2 k q (by omega))) hj (k := 39) rfl (by omega) (x8.2.2 ne) (fun d hd td => by rw [k1 d hd]; exact t4 ne d hd td)
    rw [eQ, bs, w2, bs, fX37_writeLikeliest, w1, bs, bs, fX37_greatestWeight, bs, w4, x8.2.1]
    exact ⟨_, _, _, rfl, rfl, w3⟩
end OV
