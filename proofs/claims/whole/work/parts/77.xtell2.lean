/-! the walk: the class' tell, all of it -/
section OM
variable {S S' Y Y' : St} {B : Bk} {out lim : Nat} {lo hi lo' hi' : Nat → Int} {L L' : Nat → Nat → Bool} {τ : Nat → Nat} {w : Option Nat} {W : Option (Nat → Nat)} {a : Acc}
theorem XW_upd {a' : Acc} (x : XW S B lo hi out lim w W a) (o : ∀ k q, k ≠ 38 → ¬ (k = 37 ∧ (q = 11 ∨ q = 14)) → S'.1 k q = S.1 k q) (h11 : S'.1 37 11 = nI a'.1) (h14 : S'.1 37 14 = bI a'.2.2.1) (e1 : a'.2.1 = a.2.1) (e2 : a.2.2.2 = false) (e3 : a'.2.2.2 = false) : XW S' B lo hi out lim w W a' := by
  obtain ⟨x1, x2, x3, x4, x5, x6, x7, x8, x9, x10, x11, x12, x13, x14⟩ := x
  refine ⟨BX_c x1 (funext fun q => o 26 q (by decide) (by omega)) (funext fun q => o 27 q (by decide) (by omega)) (funext fun q => o 28 q (by decide) (by omega)) (o _ _ (by decide) (by omega)) (o _ _ (by decide) (by omega)) (funext fun q => o 23 q (by decide) (by omega)) (funext fun q => o 24 q (by decide) (by omega)) (o _ _ (by decide) (by omega)) (funext fun q => o 30 q (by decide) (by omega)) (funext fun q => o 31 q (by decide) (by omega)) (funext fun q => o 32 q (by decide) (by omega)), fun c hc tc v hv => ?_, fun c hc tc => ?_, fun c hc => ?_, fun c hc => ?_, ?_, ?_, h11, ?_, h14, ?_, fun q => ?_, fun q c hc tc v hv => ?_, fun q f hf => ?_⟩
  · rw [o 34 _ (by decide) (by omega)]; exact x2 c hc tc v hv
  · rw [o 35 _ (by decide) (by omega), o 36 _ (by decide) (by omega)]; exact x3 c hc tc
  · rw [o 42 _ (by decide) (by omega)]; exact x4 c hc
  · rw [o 43 _ (by decide) (by omega)]; exact x5 c hc
  · rw [o 37 9 (by decide) (by omega)]; exact x6
  · rw [o 37 10 (by decide) (by omega)]; exact x7
  · rw [o 37 12 (by decide) (by omega), e1]; exact x9
  · rw [o 37 15 (by decide) (by omega), e3, ← e2]; exact x11
  · rw [e3] at q; exact absurd q (by decide)
  · rw [o 41 _ (by decide) (by omega), e1]; exact x13 q c hc tc v hv
  · obtain ⟨y1, y2, y3⟩ := x14 q f hf
    refine ⟨fun k hk => ?_, ?_, fun z c hc tc => ?_⟩
    · rw [o 40 k (by decide) (by omega)]; exact y1 k hk
    · rw [o 37 13 (by decide) (by omega), e1]; exact y2
    · rw [e1] at z ⊢
      rw [o 39 c (by decide) (by omega)]; exact y3 z c hc tc
theorem trs_skip (ev : (Nat → Nat) → List Ev) (L : Nat → Nat → Bool) (okf : Nat → (Nat → Nat) → Bool) (c : Nat) (τ : Nat → Nat) : ∀ n, n ≤ 100 → (∀ v, v < n → L c v = false) → trs ev L okf c τ 100 = trs ev L okf c τ (100 - n)
  | 0, _, _ => rfl
  | n + 1, hn, h => by
    rw [trs_skip ev L okf c τ n (by omega) (fun v hv => h v (by omega)), trs_v ev L okf c τ (show n < 100 by omega), h n (by omega), if_neg (by decide)]; rfl
theorem X_ended (x : XW S B lo hi out lim w W a) : fX37_isEnded S = some (bI (a.2.2.1 || a.2.2.2)) := by
  obtain ⟨x1, x2, x3, x4, x5, x6, x7, x8, x9, x10, x11, x12, x13, x14⟩ := x
  rw [fX37_isEnded, x10, x11]
  cases a.2.2.1 <;> cases a.2.2.2 <;> rfl
theorem fxt {N d : Nat} {x : Int32} : fX37_tell N (d + 1) S x = fX37_tell_B (fX37_tell N d) N S x := rfl
theorem evn_s {B : Bk} {L : Nat → Nat → Bool} {okf : Nat → (Nat → Nat) → Bool} {c : Nat} (hc : c < 12) (tc : thr B c = true) : evn B L okf (rem B c) τ = trs (evn B L okf (rem B (c + 1))) L okf c τ 100 := by
  rw [(rem_t hc tc).1, evn, (rem_t hc tc).2]
theorem X_tell {N : Nat} (hN : 201 < N) (ok : okB B) (hw : ∀ i, w = some i → i < 2 ^ 31) (hlim : lim < 2 ^ 30) (hL : ∀ c, c < 12 → thr B c = true → ∀ v, v < 100 → L c v = lfE B lo hi c v) (nm : ∀ c v : Nat, c < 12 → v < 100 → L c v = true → nmd B) : ∀ d c S a τ, c ≤ 12 → 13 ≤ d + c → XW S B lo hi out lim w W a → (a.2.2.1 || a.2.2.2) = false → a.2.1.length ≤ a.1 → a.1 ≤ lim → (∀ j, j < c → thr B j = true → S.1 38 j = nI (τ j) ∧ τ j < 100) → ∃ S', fX37_tell N d S (nI c) = some S' ∧ XW S' B lo hi out lim w W (run lim w a (evn B L (okD B out) (rem B c) τ)) ∧ ∀ j, j < c → S'.1 38 j = S.1 38 j
  | 0, c, S, a, τ, h1, h2, _, _, _, _, _ => by omega
  | d + 1, c, S, a, τ, h1, h2, x, en, l1, l2, ag => by
    rw [fxt, fX37_tell_B]
    rcases Nat.lt_or_ge c 12 with hc | hc
    · rw [if_pos (show nI c < (12 : Int32) from nI_lt hc (by decide)), X_there x.1 hc, bs, if_bI0]
      cases tc : thr B c
      · rw [if_neg (by decide), nI_1]
        obtain ⟨S', e, g1, g2⟩ := X_tell hN ok hw hlim hL nm d (c + 1) S a τ (by omega) (by omega) x en l1 l2 (fun j hj tj => by
          rcases Nat.lt_or_ge j c with q | q
          · exact ag j q tj
          · rw [show j = c by omega, tc] at tj; exact absurd tj (by decide))
        rw [e, bs, rem_f tc]
        exact ⟨S', rfl, g1, fun j hj => g2 j (by omega)⟩
      · rw [if_pos rfl, fX33_least, inb_nI hc (by decide), gd_true, bs, cl (show c < 2 ^ 31 by omega)]
        have ex := x.2.2.1
        have e0 := ex c hc tc
        have elo : S.1 35 c = nI (lo c).toNat := by rw [e0.1, iI_nat, Int.toNat_of_nonneg e0.2.2.1]
        rw [elo]
        obtain ⟨t, eT, g1, g2⟩ := loop_me (fun n (s : St × Nat) => fX37_tell_L39 (fX37_tell N d) N (nI c) n s.1 (nI s.2))
          (fun s => s.2 ≤ 100 ∧ ∃ b : Acc, XW s.1 B lo hi out lim w W b ∧ b.2.1.length ≤ b.1 ∧ b.1 ≤ lim ∧ (∀ j, j < c → s.1.1 38 j = S.1 38 j) ∧ run lim w b (trs (evn B L (okD B out) (rem B (c + 1))) L (okD B out) c τ (100 - s.2)) = run lim w a (trs (evn B L (okD B out) (rem B (c + 1))) L (okD B out) c τ 100))
          (fun s => 100 - s.2)
          (fun t => XW t B lo hi out lim w W (run lim w a (evn B L (okD B out) (rem B c) τ)) ∧ ∀ j, j < c → t.1 38 j = S.1 38 j)
          (fun n s hI => by
            obtain ⟨T, z⟩ := s
            obtain ⟨hz, b, xb, b1, b2, b3, b4⟩ := hI
            dsimp only at hz xb b3 b4 ⊢
            have e1 := xb.2.2.1 c hc tc
            have fin : (b.2.2.1 || b.2.2.2) = true ∨ (∀ v, z ≤ v → v < 100 → L c v = false) → (XW T B lo hi out lim w W (run lim w a (evn B L (okD B out) (rem B c) τ)) ∧ ∀ j, j < c → T.1 38 j = S.1 38 j) := fun q => by
              refine ⟨?_, b3⟩
              rw [evn_s hc tc, ← b4]
              rcases q with q | q
              · rw [run_end q]; exact xb
              · rw [trs_0 _ _ _ _ _ _ (fun v h1 h2 => q v (by omega) h2) (by omega)]; exact xb
            rw [fX37_tell_L39, fX33_greatest, inb_nI hc (by decide), gd_true, bs, cl (show c < 2 ^ 31 by omega), e1.2.1, show nI z = iI (z : Int) from iI_nat z]
            by_cases hh : hi c < z
            · left
              rw [if_pos ((iI_lt (by omega) (by omega) (by omega) (by omega)).mpr hh)]
              refine ⟨T, rfl, fin (Or.inr fun v h1 h2 => ?_)⟩
              rw [hL c hc tc v h2, lfE]
              simp only [Bool.and_eq_false_iff, decide_eq_false_iff_not]
              omega
            · rw [if_neg (fun q => hh ((iI_lt (by omega) (by omega) (by omega) (by omega)).mp q)), X_ended xb, bs, if_bI0, ← iI_nat]
              cases eb : (b.2.2.1 || b.2.2.2)
              · rw [if_neg (by decide), X_isLeft0 xb.2.1 xb.2.2.1 hc tc (by omega), bs, if_bI0, ← hL c hc tc z (by omega)]
                have hv := trs_v (evn B L (okD B out) (rem B (c + 1))) L (okD B out) c τ (show z < 100 by omega)
                rw [hv, run_app] at b4
                have sp : b.2.2.1 = false := by
                  cases q : b.2.2.1
                  · rfl
                  · rw [q, Bool.true_or] at eb; exact absurd eb (by decide)
                have re : b.2.2.2 = false := by
                  cases q : b.2.2.2
                  · rfl
                  · rw [q, Bool.or_true] at eb; exact absurd eb (by decide)
                cases lz : L c z
                · right
                  rw [if_neg (by decide), bs, nI_1]
                  rw [lz, if_neg (by decide)] at b4
                  exact ⟨(T, z + 1), ⟨by show z + 1 ≤ 100; omega, b, xb, b1, b2, b3, b4⟩, by show 100 - (z + 1) < 100 - z; omega, rfl⟩
                · rw [if_pos rfl]
                  rw [lz, if_pos rfl, run_cons] at b4
                  right
                  have t11 := xb.2.2.2.2.2.2.2.1
                  have t10 := xb.2.2.2.2.2.2.1
                  by_cases hl : b.1 < lim
                  · have hag : ∀ j, j < c + 1 → thr B j = true → (p1 (p1 T 37 11 (nI (b.1 + 1))) 38 c (nI z)).1 38 j = nI (upN τ c z j) ∧ upN τ c z j < 100 := fun j hj tj => by
                      unfold upN
                      by_cases q : j = c
                      · subst q
                        rw [p1_eq, if_pos rfl]
                        exact ⟨rfl, by omega⟩
                      · rw [p1_ni q, p1_ne (by decide), b3 j (by omega), if_neg q]
                        exact ag j (by omega) tj
                    have et := X_try (N := N) (τ := upN τ c z) (by omega) ok (nm c z hc (by omega) lz) xb.1 xb.2.2.2.1 xb.2.2.2.2.1 hc (show z < 100 by omega) t11 t10 hl (by omega) (fun j hj tj => by
                      unfold upN
                      by_cases q : j = c
                      · rw [if_pos q, if_pos q]; exact ⟨rfl, by omega⟩
                      · rw [if_neg q, if_neg q, b3 j (by omega)]; exact ag j (by omega) tj)
                    rw [et, bs]
                    have es : stp lim w b none = (b.1 + 1, b.2) := by
                      unfold stp
                      rw [if_neg (by rw [eb]; decide)]
                      dsimp only
                      rw [if_pos hl]
                    rw [es] at b4
                    have xn : XW (p1 (p1 T 37 11 (nI (b.1 + 1))) 38 c (nI z)) B lo hi out lim w W (b.1 + 1, b.2) := XW_upd xb (fun k q h1 h2 => by
                      rw [p1_ne h1, p1_at, if_neg (by omega)]) (by rw [p1_ne (by decide), p1_eq]) (by
                      rw [p1_ne (by decide), p1_ni (by decide)]; exact xb.2.2.2.2.2.2.2.2.2.1) rfl re re
                    have bd : ∀ j, j < c → (p1 (p1 T 37 11 (nI (b.1 + 1))) 38 c (nI z)).1 38 j = S.1 38 j := fun j hj => by
                      rw [p1_ni (show j ≠ c by omega), p1_ne (by decide)]; exact b3 j hj
                    dsimp only
                    rw [if_bI0]
                    cases eo : okD B out c (upN τ c z)
                    · rw [if_neg (by decide), bs, nI_1]
                      rw [eo, if_neg (by decide)] at b4
                      exact ⟨(_, z + 1), ⟨by show z + 1 ≤ 100; omega, (b.1 + 1, b.2), xn, by dsimp only; omega, by dsimp only; omega, bd, b4⟩, by show 100 - (z + 1) < 100 - z; omega, rfl⟩
                    · rw [if_pos rfl, nI_1]
                      rw [eo, if_pos rfl] at b4
                      obtain ⟨T', e, q1, q2⟩ := X_tell hN ok hw hlim hL nm d (c + 1) _ (b.1 + 1, b.2) (upN τ c z) (by omega) (by omega) xn eb (by dsimp only; omega) (by dsimp only; omega) hag
                      rw [e, bs, bs, nI_1]
                      have bb := bal_evn (lim := lim) (w := w) (B := B) (L := L) (okf := okD B out) (rem B (c + 1)) (upN τ c z) (b.1 + 1, b.2)
                      unfold bal at bb
                      dsimp only at bb
                      exact ⟨(T', z + 1), ⟨by show z + 1 ≤ 100; omega, _, q1, by omega, by omega, fun j hj => by rw [q2 j (by omega)]; exact bd j hj, b4⟩, by show 100 - (z + 1) < 100 - z; omega, rfl⟩
                  · have es : stp lim w b none = (b.1, b.2.1, true, b.2.2.2) := by
                      unfold stp
                      rw [if_neg (by rw [eb]; decide)]
                      dsimp only
                      rw [if_neg hl]
                    rw [es, run_end (a := (b.1, b.2.1, true, b.2.2.2)) rfl, run_end (a := (b.1, b.2.1, true, b.2.2.2)) rfl] at b4
                    have et : fX37_tryNumber N T (nI c) (nI z) = some (0, p1 T 37 14 1) := by
                      rw [fX37_tryNumber, t11, t10, if_neg (by rw [nI_ltI (by omega) (by omega)]; omega), nx_eq]
                    rw [et, bs]
                    dsimp only
                    rw [if_pos rfl, bs, nI_1]
                    refine ⟨(p1 T 37 14 1, z + 1), ⟨by show z + 1 ≤ 100; omega, (b.1, b.2.1, true, b.2.2.2), ?_, b1, b2, fun j hj => by rw [p1_ne (by decide)]; exact b3 j hj, (run_end (a := (b.1, b.2.1, true, b.2.2.2)) rfl _).trans b4⟩, by show 100 - (z + 1) < 100 - z; omega, rfl⟩
                    exact XW_upd xb (fun k q h1 h2 => by rw [p1_at, if_neg (by omega)]) (by rw [p1_ni (by decide)]; exact t11) (by rw [p1_eq]; rfl) rfl re re
              · left
                rw [if_pos rfl]
                exact ⟨T, rfl, fin (Or.inl eb)⟩)
          N (S, (lo c).toNat) (by show 100 - (lo c).toNat < N; omega) ⟨by show (lo c).toNat ≤ 100; omega, a, x, l1, l2, fun _ _ => rfl, by
            rw [trs_skip _ _ _ _ _ (lo c).toNat (by omega) (fun v hv => by
              rw [hL c hc tc v (by omega), lfE]
              simp only [Bool.and_eq_false_iff, decide_eq_false_iff_not]
              omega)]⟩
        have eT2 : fX37_tell_L39 (fX37_tell N d) N (nI c) N S (nI (lo c).toNat) = some t := eT
        rw [eT2, bs]
        exact ⟨t, rfl, g1, g2⟩
    · have : c = 12 := by omega
      subst this
      rw [if_neg (show ¬ nI 12 < (12 : Int32) from by decide)]
      obtain ⟨S', e, g1, g2⟩ := X_take (N := N) (τ := τ) (by omega) hw x en (by omega) (fun j hj tj => ag j hj tj)
      rw [e, bs, rem_12]
      exact ⟨S', rfl, g1, fun j _ => g2 j⟩
end OM
