/-! the walk: the reference's nextFilling -/
def nx1 (B : Bk) (L : Nat → Nat → Bool) (out lim st0 : Nat) (R0 : List Ev) (Z : St) : Prop := ∃ τ st R, YC Z B L out lim st ∧ YS Z B L out R ∧ st0 ≤ st ∧ (st0 < st ∨ (R = [] ∧ R0 ≠ [])) ∧ (∀ c, c < 12 → thr B c = true → Z.1 22 c = nI (τ c) ∧ τ c < 100) ∧ ∀ w fl, run lim w (st0, fl, false, false) R0 = run lim w (st, τ :: fl, false, decide (w = some fl.length)) R
def nx0 (B : Bk) (lim st0 : Nat) (R0 : List Ev) (Z : St) : Prop := BY Z B ∧ Z.1 0 27 = nI (nth B) ∧ (∀ k, k < nth B → Z.1 20 k = nI (cel B k)) ∧ ∃ (e : Bool) (st : Nat), Z.1 0 36 = bI e ∧ (e = false → Z.1 0 32 = nI st) ∧ ∀ w fl, run lim w (st0, fl, false, false) R0 = (st, fl, e, false)
theorem trs_skip2 (ev : (Nat → Nat) → List Ev) (L : Nat → Nat → Bool) (okf : Nat → (Nat → Nat) → Bool) (c : Nat) (τ : Nat → Nat) (v : Nat) : ∀ n, v + n ≤ 100 → (∀ u, v ≤ u → u < v + n → L c u = false) → trs ev L okf c τ (100 - v) = trs ev L okf c τ (100 - (v + n))
  | 0, _, _ => rfl
  | n + 1, hn, h => by
    rw [trs_skip2 ev L okf c τ v n (by omega) (fun u h1 h2 => h u h1 (by omega)), trs_v ev L okf c τ (show v + n < 100 by omega), h (v + n) (by omega) (by omega), if_neg (by decide)]; rfl
section OQ
variable {S S' Y Y' : St} {B : Bk} {out lim : Nat} {lo hi lo' hi' : Nat → Int} {L L' : Nat → Nat → Bool} {τ : Nat → Nat} {w : Option Nat} {W : Option (Nat → Nat)} {a : Acc}
theorem Y_seek {N : Nat} (hN : 201 < N) (ly : LNY Y L) {c v : Nat} (hc : c < 12) (hv : v ≤ 100) : ∃ z, fY0_nextFilling_L55 N Y (nI c) N (nI v) = some (nI z) ∧ v ≤ z ∧ z ≤ 100 ∧ (∀ u, v ≤ u → u < z → L c u = false) ∧ (z < 100 → L c z = true) := by
  obtain ⟨t, e, z, rfl, h⟩ := loop_up (fun q (_ : Unit) x => fY0_nextFilling_L55 N Y (nI c) q x) 100
    (fun i _ => v ≤ i ∧ ∀ u, v ≤ u → u < i → L c u = false)
    (fun x => ∃ z, x = nI z ∧ v ≤ z ∧ z ≤ 100 ∧ (∀ u, v ≤ u → u < z → L c u = false) ∧ (z < 100 → L c z = true))
    (fun q st hI => ⟨nI 100, by
      show fY0_nextFilling_L55 N Y (nI c) (q + 1) (nI 100) = _
      rw [fY0_nextFilling_L55, if_pos (by decide)], 100, rfl, hI.1, by omega, hI.2, fun q => by omega⟩)
    (fun q i st hi hI => by
      have e : fY0_nextFilling_L55 N Y (nI c) (q + 1) (nI i) = if L c i = true then some (nI i) else fY0_nextFilling_L55 N Y (nI c) q (nI (i + 1)) := by
        rw [fY0_nextFilling_L55, if_neg (show ¬ (100 : Int32) ≤ nI i from nI_ge hi (by decide)), ixY, inb_nI (show 100 * c + i < 1200 by omega) (by decide), gd_true, cl (show 100 * c + i < 2 ^ 31 by omega), ly c hc i hi, if_bI0, nI_1]
      rw [e]
      cases li : L c i
      · right
        rw [if_neg (by decide)]
        refine ⟨(), ⟨by omega, fun u h1 h2 => ?_⟩, rfl⟩
        by_cases z : u = i
        · subst z; exact li
        · exact hI.2 u h1 (by omega)
      · left
        rw [if_pos rfl]
        exact ⟨_, rfl, i, rfl, hI.1, by omega, hI.2, fun _ => li⟩)
    N v () (by omega) (by omega) ⟨Nat.le_refl v, fun u h1 h2 => by omega⟩
  exact ⟨z, e, h⟩
theorem YC_c {st st' : Nat} (y : YC Y B L out lim st) (o : ∀ k q, ¬ (k = 0 ∧ (q = 31 ∨ q = 32 ∨ q = 35)) → k ≠ 21 → k ≠ 22 → Y'.1 k q = Y.1 k q) (h : Y'.1 0 32 = nI st') (hl : st' ≤ lim) : YC Y' B L out lim st' := by
  obtain ⟨y1, y2, y3, y4, y5, y6, y7, y8, y9⟩ := y
  refine ⟨BY_c y1 (funext fun q => o 10 q (by omega) (by decide) (by decide)) (funext fun q => o 11 q (by omega) (by decide) (by decide)) (funext fun q => o 12 q (by omega) (by decide) (by decide)) (o _ _ (by omega) (by decide) (by decide)) (funext fun q => o 16 q (by omega) (by decide) (by decide)) (o _ _ (by omega) (by decide) (by decide)) (funext fun q => o 13 q (by omega) (by decide) (by decide)) (funext fun q => o 14 q (by omega) (by decide) (by decide)) (funext fun q => o 15 q (by omega) (by decide) (by decide)), fun c hc v hv => ?_, ?_, fun k hk => ?_, h, ?_, ?_, ?_, hl⟩
  · rw [o 17 _ (by omega) (by decide) (by decide)]; exact y2 c hc v hv
  · rw [o 0 27 (by omega) (by decide) (by decide)]; exact y3
  · rw [o 20 k (by omega) (by decide) (by decide)]; exact y4 k hk
  · rw [o 0 33 (by omega) (by decide) (by decide)]; exact y6
  · rw [o 0 34 (by omega) (by decide) (by decide)]; exact y7
  · rw [o 0 36 (by omega) (by decide) (by decide)]; exact y8
theorem Y_next21 {N : Nat} (hN : 201 < N) (hN2 : 2 * lim + 14 < N) (ok : okB B) (ho : out < 2 ^ 31) (hlim : lim < 2 ^ 30) (nm : ∀ c v : Nat, c < 12 → v < 100 → L c v = true → nmd B) {st0 lv0 : Nat} {R0 : List Ev} (y : YC Y B L out lim st0) (k0 : YK Y B L out lv0 R0) : ∃ t, fY0_nextFilling_L21 N N Y = some t ∧ ((∃ Z, t = .inl (1, Z) ∧ nx1 B L out lim st0 R0 Z) ∨ ∃ Z, t = .inr Z ∧ nx0 B lim st0 R0 Z) := by
  have nb := nth_le B
  refine loop_me (fun n (s : St × Nat × Nat) => fY0_nextFilling_L21 N n s.1)
    (fun s => YC s.1 B L out lim s.2.1 ∧ st0 ≤ s.2.1 ∧ ∃ R, YK s.1 B L out s.2.2 R ∧ ∀ w fl, run lim w (st0, fl, false, false) R0 = run lim w (s.2.1, fl, false, false) R)
    (fun s => 2 * (lim - s.2.1) + s.2.2)
    (fun t => (∃ Z, t = .inl (1, Z) ∧ nx1 B L out lim st0 R0 Z) ∨ ∃ Z, t = .inr Z ∧ nx0 B lim st0 R0 Z)
    (fun n s hI => ?_) N (Y, st0, lv0) (by have := k0.2.2.1; show 2 * (lim - st0) + lv0 < N; omega) ⟨y, Nat.le_refl _, R0, k0, fun _ _ => rfl⟩
  obtain ⟨T, st, lv⟩ := s
  obtain ⟨yc, s0, R, kk, hr⟩ := hI
  dsimp only at yc s0 kk hr
  suffices H : (∃ t, fY0_nextFilling_L21 N (n + 1) T = some t ∧ ((∃ Z, t = .inl (1, Z) ∧ nx1 B L out lim st0 R0 Z) ∨ ∃ Z, t = .inr Z ∧ nx0 B lim st0 R0 Z)) ∨ ∃ T' st' lv', (YC T' B L out lim st' ∧ st0 ≤ st' ∧ ∃ R, YK T' B L out lv' R ∧ ∀ w fl, run lim w (st0, fl, false, false) R0 = run lim w (st', fl, false, false) R) ∧ 2 * (lim - st') + lv' < 2 * (lim - st) + lv ∧ fY0_nextFilling_L21 N (n + 1) T = fY0_nextFilling_L21 N n T' by
    rcases H with H | ⟨T', st', lv', h1, h2, h3⟩
    · exact Or.inl H
    · exact Or.inr ⟨(T', st', lv'), h1, h2, h3⟩
  obtain ⟨k1, k2, k3, k4, G, cur, kR, k5, k6⟩ := kk
  obtain ⟨y1, y2, y3, y4, y5, y6, y7, y8, y9⟩ := id yc
  rw [fY0_nextFilling_L21, k1, if_pos rfl, k4]
  cases lv with
  | zero =>
    left
    rw [if_pos (show iI ((0 : Nat) - 1 : Int) < 0 from by decide)]
    refine ⟨_, rfl, Or.inr ⟨T, rfl, y1, y3, y4, false, st, y8, fun _ => y5, fun w fl => ?_⟩⟩
    rw [hr w fl, kR]; rfl
  | succ k =>
    have ek : iI (((k + 1 : Nat) : Int) - 1) = nI k := by
      rw [show ((k + 1 : Nat) : Int) - 1 = (k : Int) by omega, iI_nat]
    have cb := cel_b (B := B) (k := k) (by omega)
    have c5 := k5 k (by omega)
    obtain ⟨z, ez, z1, z2, z3, z4⟩ := Y_seek (N := N) (Y := T) (c := cel B k) (v := cur k) hN y2 cb.1 c5.2
    rw [ek, if_neg (show ¬ nI k < 0 from nI_pos (by omega)), inb_nI (show k < 12 by omega) (by decide), gd_true, nx_eq, cl (show k < 2 ^ 31 by omega), y4 k (by omega), gd_true, nx_eq, c5.1, ez, bs]
    have hsk := trs_skip2 (evn B L (okD B out) (nth B - (k + 1))) L (okD B out) (cel B k) (G k) (cur k) (z - cur k) (by omega) (fun u h1 h2 => z3 u h1 (by omega))
    rw [show cur k + (z - cur k) = z by omega] at hsk
    rw [rst, hsk] at kR
    by_cases zz : z = 100
    · right
      subst zz
      rw [if_pos (show nI 100 = 100 from rfl), nx_eq]
      refine ⟨p1 T 0 31 (nI k - 1), st, k, ⟨YC_c yc (fun k q h1 _ _ => by rw [p1_at, if_neg (by omega)]) (by rw [p1_ni (by decide)]; exact y5) y9, s0, R, ⟨?_, k2, by omega, ?_, G, cur, ?_, fun j hj => ?_, fun j hj i hi => ?_⟩, hr⟩, by omega, rfl⟩
      · rw [p1_ni (by decide)]; exact k1
      · rw [p1_eq, iI_nat, show (1 : Int32) = iI 1 from rfl, iI_sub]
      · rw [kR]; rfl
      · rw [p1_ne (by decide)]; exact k5 j (by omega)
      · rw [p1_ne (by decide)]; exact k6 j (by omega) i hi
    · have zl : z < 100 := by omega
      have a1 : (p1 T 21 k (nI z + 1)).1 0 32 = nI st := by rw [p1_ne (by decide)]; exact y5
      have a2 : (p1 (p1 T 21 k (nI (z + 1))) 0 32 (nI (st + 1))).1 0 32 = nI (st + 1) := p1_eq
      have a3 : (p1 (p1 T 21 k (nI (z + 1))) 0 32 (nI (st + 1))).1 0 33 = nI lim := by rw [p1_ni (by decide), p1_ne (by decide)]; exact y6
      rw [if_neg (show ¬ nI z = 100 from by rw [show (100 : Int32) = nI 100 from rfl, nI_eq (by omega) (by omega)]; exact zz), gd_true, nx_eq, nx_eq, a1, nI_1, nI_1, a2, a3]
      have hv := trs_v (evn B L (okD B out) (nth B - (k + 1))) L (okD B out) (cel B k) (G k) zl
      rw [z4 zl, if_pos rfl] at hv
      rw [hv] at kR
      by_cases sl : st + 1 ≤ lim
      · rw [if_pos (nI_le sl (by omega)), inb_nI cb.1 (by decide), gd_true, nx_eq, cl (show cel B k < 2 ^ 31 by omega)]
        have o : ∀ q r, ¬ (q = 0 ∧ r = 32) → q ≠ 21 → q ≠ 22 → (p1 (p1 (p1 T 21 k (nI (z + 1))) 0 32 (nI (st + 1))) 22 (cel B k) (nI z)).1 q r = T.1 q r := fun q r h1 h2 h3 => by
          rw [p1_ne h3, p1_at, if_neg h1, p1_ne h2]
        have v32 : (p1 (p1 (p1 T 21 k (nI (z + 1))) 0 32 (nI (st + 1))) 22 (cel B k) (nI z)).1 0 32 = nI (st + 1) := by
          rw [p1_ne (by decide), p1_eq]
        have v21 : ∀ j, (p1 (p1 (p1 T 21 k (nI (z + 1))) 0 32 (nI (st + 1))) 22 (cel B k) (nI z)).1 21 j = if j = k then nI (z + 1) else T.1 21 j := fun j => by
          rw [p1_ne (by decide), p1_ne (by decide), p1_at]
          simp only [true_and]
        have v22 : ∀ j, (p1 (p1 (p1 T 21 k (nI (z + 1))) 0 32 (nI (st + 1))) 22 (cel B k) (nI z)).1 22 j = if j = cel B k then nI z else T.1 22 j := fun j => by
          rw [p1_at, p1_ne (by decide), p1_ne (by decide)]
          simp only [true_and]
        generalize p1 (p1 (p1 T 21 k (nI (z + 1))) 0 32 (nI (st + 1))) 22 (cel B k) (nI z) = U at o v32 v21 v22 ⊢
        have yU : YC U B L out lim (st + 1) := YC_c yc (fun q r h1 h2 h3 => o q r (by omega) h2 h3) v32 sl
        have hag : ∀ d, d ≤ cel B k → thr B d = true → U.1 22 d = nI (upN (G k) (cel B k) z d) ∧ upN (G k) (cel B k) z d < 100 := fun d hd td => by
          rw [v22 d]
          unfold upN
          by_cases q : d = cel B k
          · rw [if_pos q, if_pos q]; exact ⟨rfl, zl⟩
          · rw [if_neg q, if_neg q]
            rcases cel_below (by omega) hd td with q2 | ⟨j, hj, q2⟩
            · exact absurd q2 q
            · rw [q2]; exact k6 k (by omega) j hj
        rw [Y_well (by omega) ok (nm _ _ cb.1 zl (z4 zl)) yU.1 ho yU.2.2.2.2.2.2.1 cb.1 cb.2.1 hag, bs, if_bI0]
        have hcur : rst B L (okD B out) G (fun j => if j = k then z + 1 else cur j) (k + 1) = trs (evn B L (okD B out) (nth B - (k + 1))) L (okD B out) (cel B k) (G k) (100 - (z + 1)) ++ rst B L (okD B out) G cur k := by
          rw [rst]
          congr 1
          · rw [if_pos rfl]
          · exact rst_cong k (fun j hj => ⟨rfl, if_neg (by omega)⟩)
        have hk5 : ∀ j, j < k + 1 → U.1 21 j = nI (if j = k then z + 1 else cur j) ∧ (if j = k then z + 1 else cur j) ≤ 100 := fun j hj => by
          rw [v21 j]
          by_cases q : j = k
          · rw [if_pos q, if_pos q]; exact ⟨rfl, by omega⟩
          · rw [if_neg q, if_neg q]; exact k5 j hj
        have hk6 : ∀ j, j < k + 1 → ∀ i, i < j → U.1 22 (cel B i) = nI (G j (cel B i)) ∧ G j (cel B i) < 100 := fun j hj i hi => by
          rw [v22, if_neg (cel_inj (by omega) (by omega) (by omega))]
          exact k6 j hj i hi
        have e1 : ∀ w fl, stp lim w (st, fl, false, false) none = (st + 1, fl, false, false) := fun w fl => by
          unfold stp
          rw [if_neg (show ¬ (false || false) = true by decide)]
          dsimp only
          rw [if_pos (show st < lim by omega)]
        cases eo : okD B out (cel B k) (upN (G k) (cel B k) z)
        · right
          rw [if_neg (by decide)]
          rw [eo, if_neg (by decide)] at kR
          refine ⟨U, st + 1, k + 1, ⟨yU, by omega, rst B L (okD B out) G (fun j => if j = k then z + 1 else cur j) (k + 1), ⟨by rw [o 0 35 (by omega) (by decide) (by decide)]; exact k1, k2, k3, by rw [o 0 31 (by omega) (by decide) (by decide)]; exact k4, G, _, rfl, hk5, hk6⟩, fun w fl => ?_⟩, by omega, rfl⟩
          rw [hr w fl, kR, hcur, List.append_assoc]
          show run lim w (stp lim w (st, fl, false, false) none) _ = _
          rw [e1]; rfl
        · rw [if_pos rfl, o 0 31 (by omega) (by decide) (by decide), k4, ek, o 0 27 (by omega) (by decide) (by decide), y3]
          rw [eo, if_pos rfl] at kR
          have e27 : nI (nth B) - 1 = nI (nth B - 1) := by
            obtain ⟨m, hm⟩ : ∃ m, nth B = m + 1 := ⟨nth B - 1, by omega⟩
            rw [hm, nI_pred]; rfl
          rw [e27]
          by_cases ke : k = nth B - 1
          · left
            rw [if_pos (by rw [ke])]
            have hn0 : nth B - (k + 1) = 0 := by omega
            rw [hn0] at kR hcur
            refine ⟨_, rfl, Or.inl ⟨U, rfl, upN (G k) (cel B k) z, st + 1, rst B L (okD B out) G (fun j => if j = k then z + 1 else cur j) (k + 1), yU, Or.inr (Or.inr ⟨k + 1, by rw [o 0 35 (by omega) (by decide) (by decide)]; exact k1, k2, k3, by rw [o 0 31 (by omega) (by decide) (by decide)]; exact k4, G, _, rfl, hk5, hk6⟩), by omega, Or.inl (by omega), fun c hc tc => ?_, fun w fl => ?_⟩⟩
            · obtain ⟨j, hj, e⟩ := cel_all hc tc
              refine hag c ?_ tc
              have a1 := cel_b hj
              rw [← e] at a1
              rcases Nat.lt_or_ge (cel B k) c with q | q
              · have m := fb_ct_mono (thr B) (show cel B k + 1 ≤ c by omega)
                rw [fb_ct_succ, if_pos cb.2.1] at m
                omega
              · exact q
            · rw [hr w fl, kR, hcur, List.append_assoc]
              show run lim w (stp lim w (st, fl, false, false) none) _ = _
              rw [e1]
              show run lim w (stp lim w (st + 1, fl, false, false) (some (upN (G k) (cel B k) z))) _ = _
              congr 1
          · right
            rw [if_neg (show ¬ nI k = nI (nth B - 1) from by rw [nI_eq (by omega) (by omega)]; exact ke), nx_eq, nI_1, p1_eq, inb_nI (show k + 1 < 12 by omega) (by decide), gd_true, nx_eq, cl (show k + 1 < 2 ^ 31 by omega)]
            obtain ⟨m, hm⟩ : ∃ m, nth B - (k + 1) = m + 1 := ⟨nth B - (k + 1) - 1, by omega⟩
            refine ⟨p1 (p1 U 0 31 (nI (k + 1))) 21 (k + 1) 0, st + 1, k + 2, ⟨YC_c yU (fun q r h1 h2 h3 => by rw [p1_ne h2, p1_at, if_neg (by omega)]) (by rw [p1_ne (by decide), p1_ni (by decide)]; exact v32) sl, by omega, rst B L (okD B out) (fun j => if j = k + 1 then upN (G k) (cel B k) z else G j) (fun j => if j = k + 1 then 0 else if j = k then z + 1 else cur j) (k + 2), ⟨?_, k2, by omega, ?_, _, _, rfl, fun j hj => ?_, fun j hj i hi => ?_⟩, fun w fl => ?_⟩, by omega, rfl⟩
            · rw [p1_ne (by decide), p1_ni (by decide), o 0 35 (by omega) (by decide) (by decide)]; exact k1
            · rw [p1_ne (by decide), p1_eq, iI_nat, show ((k + 2 : Nat) : Int) - 1 = ((k + 1 : Nat) : Int) by omega]
            · by_cases q : j = k + 1
              · subst q
                rw [p1_eq, if_pos rfl]; exact ⟨rfl, by omega⟩
              · rw [p1_ni q, p1_ne (by decide), if_neg q]; exact hk5 j (by omega)
            · rw [p1_ne (by decide), p1_ne (by decide)]
              by_cases q : j = k + 1
              · subst q
                rw [if_pos rfl]
                refine hag _ ?_ (cel_b (by omega)).2.1
                have a1 := cel_b (B := B) (k := i) (by omega)
                rcases Nat.lt_or_ge (cel B k) (cel B i) with q | q
                · have m := fb_ct_mono (thr B) (show cel B k + 1 ≤ cel B i by omega)
                  rw [fb_ct_succ, if_pos cb.2.1] at m
                  omega
                · exact q
              · rw [if_neg q]
                exact hk6 j (by omega) i hi
            · have e2 : rst B L (okD B out) (fun j => if j = k + 1 then upN (G k) (cel B k) z else G j) (fun j => if j = k + 1 then 0 else if j = k then z + 1 else cur j) (k + 2) = evn B L (okD B out) (nth B - (k + 1)) (upN (G k) (cel B k) z) ++ rst B L (okD B out) G (fun j => if j = k then z + 1 else cur j) (k + 1) := by
                rw [rst]
                congr 1
                · rw [if_pos rfl, if_pos rfl, hm, evn, show nth B - (k + 1 + 1) = m by omega, show nth B - (m + 1) = k + 1 by omega]
                · exact rst_cong (k + 1) (fun j hj => ⟨if_neg (by omega), if_neg (by omega)⟩)
              rw [hr w fl, kR, e2, hcur, List.append_assoc]
              show run lim w (stp lim w (st, fl, false, false) none) _ = _
              rw [e1]; rfl
      · left
        rw [if_neg (by rw [nI_leI (by omega) (by omega)]; exact sl), nx_eq]
        refine ⟨_, rfl, Or.inr ⟨_, rfl, ?_⟩⟩
        have o : ∀ q r, ¬ (q = 0 ∧ (r = 32 ∨ r = 36)) → q ≠ 21 → (p1 (p1 (p1 T 21 k (nI (z + 1))) 0 32 (nI (st + 1))) 0 36 1).1 q r = T.1 q r := fun q r h1 h2 => by
          rw [p1_at, if_neg (by omega), p1_at, if_neg (by omega), p1_ne h2]
        refine ⟨BY_c y1 (funext fun q => o 10 q (by omega) (by decide)) (funext fun q => o 11 q (by omega) (by decide)) (funext fun q => o 12 q (by omega) (by decide)) (o _ _ (by omega) (by decide)) (funext fun q => o 16 q (by omega) (by decide)) (o _ _ (by omega) (by decide)) (funext fun q => o 13 q (by omega) (by decide)) (funext fun q => o 14 q (by omega) (by decide)) (funext fun q => o 15 q (by omega) (by decide)), by rw [o 0 27 (by omega) (by decide)]; exact y3, fun j hj => by rw [o 20 j (by omega) (by decide)]; exact y4 j hj, true, st, by rw [p1_eq]; rfl, fun q => absurd q (by decide), fun w fl => ?_⟩
        have e1 : stp lim w (st, fl, false, false) none = (st, fl, true, false) := by
          unfold stp
          rw [if_neg (show ¬ (false || false) = true by decide)]
          dsimp only
          rw [if_neg (show ¬ st < lim by omega)]
        rw [hr w fl, kR, List.append_assoc]
        show run lim w (stp lim w (st, fl, false, false) none) _ = _
        rw [e1, run_end (show ((true : Bool) || false) = true from rfl)]
theorem Y_next {N : Nat} (hN : 201 < N) (hN2 : 2 * lim + 14 < N) (ok : okB B) (ho : out < 2 ^ 31) (hlim : lim < 2 ^ 30) (nm : ∀ c v : Nat, c < 12 → v < 100 → L c v = true → nmd B) {st0 : Nat} {R0 : List Ev} (y : YC Y B L out lim st0) (k0 : YS Y B L out R0) : ∃ r Z, fY0_nextFilling N Y = some (bI r, Z) ∧ (r = true → nx1 B L out lim st0 R0 Z) ∧ (r = false → nx0 B lim st0 R0 Z) := by
  unfold fY0_nextFilling
  have y0 := y
  obtain ⟨y1, y2, y3, y4, y5, y6, y7, y8, y9⟩ := y
  have n35 : ∀ Z : St, nx0 B lim st0 R0 Z → nx0 B lim st0 R0 (p1 Z 0 35 1) := fun Z h => by
    obtain ⟨h1, h2, h3, e, st, h4, h5, h6⟩ := h
    have o : ∀ k q, ¬ (k = 0 ∧ q = 35) → (p1 Z 0 35 1).1 k q = Z.1 k q := fun k q h => by rw [p1_at, if_neg h]
    exact ⟨BY_c h1 (funext fun q => o 10 q (by omega)) (funext fun q => o 11 q (by omega)) (funext fun q => o 12 q (by omega)) (o _ _ (by omega)) (funext fun q => o 16 q (by omega)) (o _ _ (by omega)) (funext fun q => o 13 q (by omega)) (funext fun q => o 14 q (by omega)) (funext fun q => o 15 q (by omega)), by rw [o _ _ (by omega)]; exact h2, fun k hk => by rw [o _ _ (by omega)]; exact h3 k hk, e, st, by rw [o _ _ (by omega)]; exact h4, fun q => by rw [o _ _ (by omega)]; exact h5 q, h6⟩
  rcases k0 with ⟨k1, k2⟩ | ⟨k1, k2, τ, k3⟩ | ⟨lv, kk⟩
  · obtain ⟨M, rfl⟩ : ∃ M, N = M + 1 := ⟨N - 1, by omega⟩
    have e : fY0_nextFilling_L21 (M + 1) (M + 1) Y = some (.inr Y) := by
      rw [fY0_nextFilling_L21, k1, if_neg ne10]
    rw [k1, if_neg ne10, e, bs]
    refine ⟨false, _, rfl, fun q => absurd q (by decide), fun _ => n35 Y ⟨y1, y3, y4, false, st0, y8, fun _ => y5, fun w fl => ?_⟩⟩
    rw [k2]; rfl
  · rw [k1, if_pos rfl, y3, k2, if_pos (show nI 0 = 0 from rfl), nx_eq]
    refine ⟨true, _, rfl, fun _ => ⟨τ, st0, [], YC_c y0 (fun k q h1 h2 h3 => by rw [p1_at, if_neg (by omega)]) (by rw [p1_ni (by decide)]; exact y5) y9, Or.inl ⟨by rw [p1_eq], rfl⟩, Nat.le_refl _, Or.inr ⟨rfl, by rw [k3]; simp⟩, fun c hc tc => ?_, fun w fl => ?_⟩, fun q => absurd q (by decide)⟩
    · obtain ⟨j, hj, _⟩ := cel_all hc tc
      omega
    · rw [k3]
      show run lim w (stp lim w (st0, fl, false, false) (some τ)) [] = _
      congr 1
  · obtain ⟨t, e, h⟩ := Y_next21 hN hN2 ok ho hlim nm y0 kk
    have nb := nth_le B
    rw [kk.1, if_pos rfl, y3, if_neg (nI_ne0 kk.2.1 (by omega)), e, bs]
    rcases h with ⟨Z, rfl, h⟩ | ⟨Z, rfl, h⟩
    · exact ⟨true, Z, rfl, fun _ => h, fun q => absurd q (by decide)⟩
    · exact ⟨false, p1 Z 0 35 1, rfl, fun q => absurd q (by decide), fun _ => n35 Z h⟩
end OQ
