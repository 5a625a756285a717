/-! the reference's narrowing ends; both narrowings -/
section OF
variable {S S' Y Y' : St} {B : Bk} {out : Nat} {lo hi lo' hi' : Nat → Int} {L L' : Nat → Nat → Bool}
theorem ONY_set {N : Nat} (hN : 201 < N) (bY : BY Y B) (ly : LNY Y L) {c n : Nat} (hc : c < 12) (oy : ONY Y B L lo hi n) : ∃ l h Y', fY0_setEnds N Y (nI c) = some (bI (!thr B c || decide (0 ≤ h)), Y') ∧ BY Y' B ∧ LNY Y' L ∧ eOf (L c) l h ∧ ∀ m, (∀ d, d < m → d < n ∨ d = c) → ONY Y' B L (fun d => if d = c then l else lo d) (fun d => if d = c then h else hi d) m := by
  obtain ⟨l, h, Y', e1, g1, g2, g3, g4, g5, g6⟩ := Y_ends hN bY ly hc lo hi
  refine ⟨l, h, Y', e1, g1, g2, g6, fun m hm d hd => ?_⟩
  by_cases e : d = c
  · subst e
    refine ⟨fun t => ⟨?_, ?_, ?_⟩, g5⟩
    · dsimp only; rw [if_pos rfl]; exact (g4 t).1
    · dsimp only; rw [if_pos rfl]; exact (g4 t).2
    · dsimp only; rw [if_pos rfl, if_pos rfl]; exact g6
  · have k := oy d (by have := hm d hd; omega)
    dsimp only
    rw [if_neg e, if_neg e, (g3 d e).1, (g3 d e).2]
    exact k
/-- whether any number is left in every cell that is there -/
theorem Y_any {N : Nat} (hN : 201 < N) (bY : BY Y B) (ly : LNY Y L) (oy : ONY Y B L lo hi 12) : ∃ Y' lo' hi' any, fY0_narrow_L8 N (nI out) N Y 1 0 = some (Y', bI any) ∧ BY Y' B ∧ LNY Y' L ∧ ONY Y' B L lo' hi' 12 ∧ (any = true → ∀ c, c < 12 → thr B c = true → 0 ≤ hi' c) ∧ (any = false → ∃ c, c < 12 ∧ thr B c = true ∧ ∀ v, v < 100 → L c v = false) := by
  obtain ⟨t, e1, lo', hi', any, h0, h1, h2, h3, h4, h5⟩ := loop_up (fun q (s : St × Int32) x => fY0_narrow_L8 N (nI out) q s.1 s.2 x) 12
    (fun i s => ∃ lo hi any, s.2 = bI any ∧ BY s.1 B ∧ LNY s.1 L ∧ ONY s.1 B L lo hi 12 ∧ (any = true → ∀ c, c < i → thr B c = true → 0 ≤ hi c) ∧ (any = false → ∃ c, c < 12 ∧ thr B c = true ∧ ∀ v, v < 100 → L c v = false))
    (fun s => ∃ lo hi any, s.2 = bI any ∧ BY s.1 B ∧ LNY s.1 L ∧ ONY s.1 B L lo hi 12 ∧ (any = true → ∀ c, c < 12 → thr B c = true → 0 ≤ hi c) ∧ (any = false → ∃ c, c < 12 ∧ thr B c = true ∧ ∀ v, v < 100 → L c v = false))
    (fun q s hI => ⟨s, by
      show fY0_narrow_L8 N (nI out) (q + 1) s.1 s.2 (nI 12) = _
      rw [fY0_narrow_L8, if_pos (by decide)], hI⟩)
    (fun q i s hi12 hI => by
      obtain ⟨lo, hi, any, a1, a2, a3, a4, a5, a6⟩ := hI
      right
      show ∃ s' : St × Int32, _ ∧ fY0_narrow_L8 N (nI out) (q + 1) s.1 s.2 (nI i) = fY0_narrow_L8 N (nI out) q s'.1 s'.2 (nI (i + 1))
      rw [fY0_narrow_L8, if_neg (show ¬ (12 : Int32) ≤ nI i from nI_ge hi12 (by decide)), a1, if_bI0, nI_1]
      cases any
      · rw [if_neg (by decide), bs]
        exact ⟨(s.1, 0), ⟨lo, hi, false, rfl, a2, a3, a4, fun q => absurd q (by decide), a6⟩, rfl⟩
      rw [if_pos rfl]
      obtain ⟨l, h, Y', e1, g1, g2, g3, g4⟩ := ONY_set hN a2 a3 hi12 a4
      rw [e1, bs, if_bI0]
      have g5 := g4 12 (fun d hd => Or.inl hd)
      cases ti : thr B i
      · rw [if_pos (show (!false || decide (0 ≤ h)) = true from rfl), bs]
        refine ⟨(Y', 1), ⟨_, _, true, rfl, g1, g2, g5, fun _ c hc tc => ?_, fun q => absurd q (by decide)⟩, rfl⟩
        by_cases e : c = i
        · subst e; rw [ti] at tc; exact absurd tc (by decide)
        · rw [if_neg e]; exact a5 rfl c (by omega) tc
      · by_cases z : 0 ≤ h
        · rw [decide_eq_true z, if_pos (show (!true || true) = true from rfl), bs]
          refine ⟨(Y', 1), ⟨_, _, true, rfl, g1, g2, g5, fun _ c hc tc => ?_, fun q => absurd q (by decide)⟩, rfl⟩
          by_cases e : c = i
          · rw [if_pos e]; exact z
          · rw [if_neg e]; exact a5 rfl c (by omega) tc
        · rw [decide_eq_false z, if_neg (by decide), bs]
          exact ⟨(Y', 0), ⟨_, _, false, rfl, g1, g2, g5, fun q => absurd q (by decide), fun _ => ⟨i, hi12, ti, eOf_e g3 z⟩⟩, rfl⟩)
    N 0 (Y, 1) (by omega) (by omega) ⟨lo, hi, true, rfl, bY, ly, oy, fun _ c hc => by omega, fun q => absurd q (by decide)⟩
  refine ⟨t.1, lo', hi', any, ?_, h1, h2, h3, h4, h5⟩
  have e2 : fY0_narrow_L8 N (nI out) N Y 1 0 = some t := e1
  rw [e2, ← h0]
theorem Y_wipe {N : Nat} (hN : 1300 < N) (bY : BY Y B) : ∃ Y', fY0_narrow_L152 N 0 N Y 0 = some Y' ∧ BY Y' B ∧ LNY Y' (fun _ _ => false) ∧ ∀ k q, k ≠ 17 → Y'.1 k q = Y.1 k q := by
  obtain ⟨t, e1, h1, h2, h3⟩ := loop_up (fun q st x => fY0_narrow_L152 N 0 q st x) 1200
    (fun i st => BY st B ∧ (∀ m, m < i → st.1 17 m = 0) ∧ ∀ k q, k ≠ 17 → st.1 k q = Y.1 k q)
    (fun st => BY st B ∧ (∀ m, m < 1200 → st.1 17 m = 0) ∧ ∀ k q, k ≠ 17 → st.1 k q = Y.1 k q)
    (fun q st hI => ⟨st, by
      show fY0_narrow_L152 N 0 (q + 1) st (nI 1200) = _
      rw [fY0_narrow_L152, if_pos (by decide)], hI⟩)
    (fun q i st hi hI => Or.inr ⟨p1 st 17 i 0, ⟨agY_BY ag17 hI.1, fun m hm => by
        by_cases e : m = i
        · subst e; rw [p1_eq]
        · rw [p1_ni e]; exact hI.2.1 m (by omega), fun k q hk => by rw [p1_ne hk]; exact hI.2.2 k q hk⟩, by
      show fY0_narrow_L152 N 0 (q + 1) st (nI i) = fY0_narrow_L152 N 0 q _ (nI (i + 1))
      rw [fY0_narrow_L152, if_neg (show ¬ (1200 : Int32) ≤ nI i from nI_ge hi (by decide)), if_pos rfl, inb_nI hi (by decide), gd_true, nx_eq, cl (by omega), nI_1]⟩)
    N 0 Y (by omega) (by omega) ⟨bY, fun m hm => by omega, fun _ _ _ => rfl⟩
  exact ⟨t, e1, h1, fun c hc v hv => h2 _ (by omega), h3⟩
theorem Y_none {N : Nat} (hN : 201 < N) (bY : BY Y B) (ly : LNY Y L) : ∃ Y' lo hi, fY0_narrow_L181 N N Y 0 0 = some Y' ∧ BY Y' B ∧ LNY Y' L ∧ ONY Y' B L lo hi 12 := by
  obtain ⟨t, e1, h0, h1, lo, hi, h2⟩ := loop_up (fun q (s : St) x => fY0_narrow_L181 N q s 0 x) 12
    (fun i s => BY s B ∧ LNY s L ∧ ∃ lo hi, ONY s B L lo hi i)
    (fun s => BY s B ∧ LNY s L ∧ ∃ lo hi, ONY s B L lo hi 12)
    (fun q s hI => ⟨s, by
      show fY0_narrow_L181 N (q + 1) s 0 (nI 12) = _
      rw [fY0_narrow_L181, if_pos (by decide)], hI⟩)
    (fun q i s hi12 hI => by
      obtain ⟨a1, a2, lo, hi, a3⟩ := hI
      right
      show ∃ s' : St, _ ∧ fY0_narrow_L181 N (q + 1) s 0 (nI i) = fY0_narrow_L181 N q s' 0 (nI (i + 1))
      obtain ⟨l, h, Y', e1, g1, g2, g3, g4⟩ := ONY_set hN a1 a2 hi12 a3
      rw [fY0_narrow_L181, if_neg (show ¬ (12 : Int32) ≤ nI i from nI_ge hi12 (by decide)), if_pos rfl, e1, bs, if_pos rfl, nI_1]
      refine ⟨Y', ⟨g1, g2, _, _, g4 (i + 1) (fun d hd => by omega)⟩, ?_⟩
      cases (!thr B i || decide (0 ≤ h)) <;> rfl)
    N 0 Y (by omega) (by omega) ⟨bY, ly, fun _ => 0, fun _ => 0, fun c hc => by omega⟩
  exact ⟨t, lo, hi, e1, h0, h1, h2⟩
def bestY (B : Bk) (out : Nat) (L : Nat → Nat → Bool) (lo hi : Nat → Int) : Prop := (clo B out lo hi ∧ (∀ gl gh, clo B out gl gh → ins B gl gh lo hi) ∧ ∀ c v : Nat, c < 12 → v < 100 → (L c v = true ↔ thr B c = true ∧ alw B c v = true ∧ lo c ≤ v ∧ v ≤ hi c)) ∨ ((∀ gl gh, ¬ clo B out gl gh) ∧ ∀ c v, L c v = false)
theorem Y_narrow {N : Nat} (hN : 1300 < N) (ok : okB B) (ho : out < 2 ^ 31) (bY : BY Y B) : ∃ Y' L lo hi, fY0_narrow N Y (nI out) = some Y' ∧ BY Y' B ∧ LNY Y' L ∧ ONY Y' B L lo hi 12 ∧ bestY B out L lo hi := by
  obtain ⟨Y1, l1, h1, e1, a1, a2, a3⟩ := Y_setFirst (N := N) (by omega) ok bY
  obtain ⟨Y2, l2, h2, any, e2, b1, b2, b3, b4, b5⟩ := Y_any (out := out) (N := N) (by omega) a1 a2 a3
  have j2 : JNY Y2 B out (fun c v => thr B c && alw B c v) l2 h2 any := ⟨b1, b2, b3, fun c v hc hv q => by simpa using q, fun gl gh g c v hc hv tc _ _ q => by
    show (thr B c && alw B c v) = true
    rw [tc, q]; rfl, b4, b5⟩
  obtain ⟨m, hm⟩ : ∃ m, N = m + 1 := ⟨N - 1, by omega⟩
  have hl := cntL_le (fun c v => thr B c && alw B c v)
  obtain ⟨Y3, L3, l3, h3, any3, e3, j3, c3⟩ := Y_passes hN ok ho m Y2 _ l2 h2 any (by omega) j2
  rw [← hm] at e3
  have ev : fY0_narrow N Y (nI out) = Option.bind (fY0_narrow_L152 N (bI any3) N Y3 0) fun t45 => Option.bind (fY0_narrow_L181 N N t45 (bI any3) 0) fun t56 => some t56 := by
    rw [fY0_narrow, e1, bs, e2, bs, e3, bs]
  rw [ev]
  have j3' := j3
  obtain ⟨q1, q2, q3, q4, q5, q6, q7⟩ := j3
  cases any3
  · obtain ⟨Y4, e4, r1, r2, r3⟩ := Y_wipe hN q1
    obtain ⟨Y5, l5, h5, e5, s1, s2, s3⟩ := Y_none (N := N) (by omega) r1 r2
    rw [show bI false = 0 from rfl, e4, bs, e5, bs]
    refine ⟨Y5, _, l5, h5, rfl, s1, s2, s3, Or.inr ⟨fun gl gh g => ?_, fun _ _ => rfl⟩⟩
    obtain ⟨c, hc, tc, w⟩ := q7 rfl
    have k := g c hc tc
    have e6 : (gl c).toNat = gl c := Int.toNat_of_nonneg k.1
    have := q5 gl gh g c (gl c).toNat hc (by omega) tc (by omega) (by omega) k.2.2.2.1
    rw [w _ (by omega)] at this
    exact absurd this (by decide)
  · have e4 : fY0_narrow_L152 N (bI true) N Y3 0 = some Y3 := by
      rw [hm, fY0_narrow_L152, if_neg (by decide), if_neg (by decide)]
    have e5 : fY0_narrow_L181 N N Y3 (bI true) 0 = some Y3 := by
      rw [hm, fY0_narrow_L181, if_neg (by decide), if_neg (by decide)]
    rw [e4, bs, e5, bs]
    have rb := JNY_rb j3'
    have cl3 : clo B out l3 h3 := fun c hc tc => by
      obtain ⟨a, b, w1, w2, w3, w4, w5, w6, w7⟩ := eOf_n ((q3 c hc).1 tc).2.2 (q6 rfl c hc tc)
      have w8 := w7 a w1 w5
      have x1 := c3 rfl c a hc w1 w5
      have x2 := c3 rfl c b hc w2 w6
      rw [w3, w4]
      exact ⟨by omega, by omega, by omega, (q4 c a hc w1 w5).2, (q4 c b hc w2 w6).2, x1, x2⟩
    refine ⟨Y3, L3, l3, h3, rfl, q1, q2, q3, Or.inl ⟨cl3, fun gl gh g => JNY_ins j3' g, fun c v hc hv => ⟨fun q => ?_, fun q => q5 l3 h3 cl3 c v hc hv q.1 q.2.2.1 q.2.2.2 q.2.1⟩⟩⟩
    have k := q4 c v hc hv q
    obtain ⟨a, b, w1, w2, w3, w4, w5, w6, w7⟩ := eOf_n ((q3 c hc).1 k.1).2.2 (q6 rfl c hc k.1)
    have := w7 v hv q
    exact ⟨k.1, k.2, by omega, by omega⟩
/-- what both know when narrowed: the numbers that are left -/
def nar (S Y : St) (B : Bk) (L : Nat → Nat → Bool) (lo hi : Nat → Int) : Prop := BX S B ∧ BY Y B ∧ FNX S B ∧ ENX S B lo hi ∧ LNY Y L ∧ (∀ c v : Nat, c < 12 → v < 100 → L c v = true → thr B c = true) ∧ (∀ c v : Nat, c < 12 → v < 100 → thr B c = true → (L c v = true ↔ alw B c v = true ∧ lo c ≤ v ∧ v ≤ hi c)) ∧ (∀ c, c < 12 → thr B c = true → (lo c ≤ hi c ∧ L c (lo c).toNat = true ∧ L c (hi c).toNat = true ∧ Y.1 18 c = iI (lo c) ∧ Y.1 19 c = iI (hi c)) ∨ (hi c < lo c ∧ ∀ v, v < 100 → L c v = false)) ∧ ∀ c v : Nat, c < 12 → v < 100 → L c v = true → nmd B
theorem nar_R {N : Nat} {lo' hi' : Nat → Int} (bx : BX S B) (bY : BY Y B) (fx : FNX S B) (ex : ENX S B lo hi) (b1 : best B out lo hi) (ly : LNY Y L) (oy : ONY Y B L lo' hi' 12) (b2 : bestY B out L lo' hi') : nar S Y B L lo hi := by
  rcases b1 with ⟨c1, m1⟩ | ⟨n1, z1⟩
  · rcases b2 with ⟨c2, m2, l2⟩ | ⟨n2, _⟩
    rotate_left
    · exact absurd c1 (n2 lo hi)
    have eq : ∀ c, c < 12 → thr B c = true → lo' c = lo c ∧ hi' c = hi c := fun c hc tc => by
      have a := m1 lo' hi' c2 c hc tc
      have b := m2 lo hi c1 c hc tc
      omega
    refine ⟨bx, bY, fx, ex, ly, fun c v hc hv q => ((l2 c v hc hv).mp q).1, fun c v hc hv tc => ?_, fun c hc tc => Or.inl ?_, fun _ _ _ _ _ => clo_nm c1⟩
    · have e := eq c hc tc
      rw [l2 c v hc hv, e.1, e.2]
      exact ⟨fun q => q.2, fun q => ⟨tc, q⟩⟩
    · have e := eq c hc tc
      have k := c1 c hc tc
      have o := (oy c hc).1 tc
      rw [e.1, e.2] at o
      have e1 : (lo c).toNat = lo c := Int.toNat_of_nonneg k.1
      have e2 : (hi c).toNat = hi c := Int.toNat_of_nonneg (by omega)
      refine ⟨k.2.1, (l2 c _ hc (by omega)).mpr ⟨tc, k.2.2.2.1, by omega, by omega⟩, (l2 c _ hc (by omega)).mpr ⟨tc, k.2.2.2.2.1, by omega, by omega⟩, o.1, o.2.1⟩
  · rcases b2 with ⟨c2, m2, l2⟩ | ⟨_, z2⟩
    · exact absurd c2 (n1 lo' hi')
    refine ⟨bx, bY, fx, ex, ly, fun c v hc hv q => by rw [z2] at q; exact absurd q (by decide), fun c v hc hv tc => ?_, fun c hc tc => Or.inr ?_, fun c v _ _ q => by rw [z2] at q; exact absurd q (by decide)⟩
    · have := z1 c hc tc
      rw [z2]
      exact ⟨fun q => absurd q (by decide), fun q => by omega⟩
    · have := z1 c hc tc
      exact ⟨by omega, fun v hv => z2 c v⟩
theorem narrow_R {N : Nat} (hN : 1300 < N) (ok : okB B) (ho : out < 2 ^ 31) (bx : BX S B) (fx : FNX S B) (bY : BY Y B) : ∃ S' Y' L lo hi, fX33_narrow N S (nI out) = some S' ∧ fY0_narrow N Y (nI out) = some Y' ∧ nar S' Y' B L lo hi := by
  obtain ⟨S', lo, hi, e1, a1, a2, a3, a4⟩ := X_narrow hN ok ho bx fx
  obtain ⟨Y', L, l2, h2, e2, b1, b2, b3, b4⟩ := Y_narrow hN ok ho bY
  exact ⟨S', Y', L, lo, hi, e1, e2, nar_R (N := N) a1 b1 a2 a3 a4 b2 b3 b4⟩
theorem narrowAll_R {N : Nat} (hN : 1300 < N) (ok : okB B) (bx : BX S B) (bY : BY Y B) : ∃ S' Y' L lo hi, fX0_narrowAll N S = some S' ∧ fY0_narrow N Y 0 = some Y' ∧ nar S' Y' B L lo hi := by
  obtain ⟨S', lo, hi, e1, a1, a2, a3, a4⟩ := X_narrowAll hN ok bx
  obtain ⟨Y', L, l2, h2, e2, b1, b2, b3, b4⟩ := Y_narrow (out := 0) hN ok (by decide) bY
  exact ⟨S', Y', L, lo, hi, e1, e2, nar_R (N := N) a1 b1 a2 a3 a4 b2 b3 b4⟩
end OF
