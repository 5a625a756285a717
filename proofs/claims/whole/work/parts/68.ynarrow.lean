/-! the reference's narrowing, whole -/
def LNY (Y : St) (L : Nat → Nat → Bool) : Prop := ∀ c, c < 12 → ∀ v, v < 100 → Y.1 17 (100 * c + v) = bI (L c v)
def ONY (Y : St) (B : Bk) (L : Nat → Nat → Bool) (lo hi : Nat → Int) (n : Nat) : Prop := ∀ c, c < n → (thr B c = true → Y.1 18 c = iI (lo c) ∧ Y.1 19 c = iI (hi c) ∧ eOf (L c) (lo c) (hi c)) ∧ (thr B c = false → Y.1 18 c = 0 ∧ Y.1 19 c = 0)
section OE
variable {S S' Y Y' : St} {B : Bk} {out : Nat} {lo hi lo' hi' : Nat → Int} {L L' : Nat → Nat → Bool}
theorem ag17 {i : Nat} {v : Int32} : agY Y (p1 Y 17 i v) := agr_of (fr_pa (A := [17]) (F := []) (L := []) (by decide)) (by decide) (by decide) (by decide)
theorem ag1819 {i : Nat} {v w : Int32} : agY Y (p1 (p1 Y 18 i v) 19 i w) := agr_of (fr_trans (fr_pa (A := [18, 19]) (F := []) (L := []) (by decide)) (fr_pa (by decide))) (by decide) (by decide) (by decide)
/-- setEnds, within the whole -/
theorem Y_ends {N : Nat} (hN : 201 < N) (bY : BY Y B) (ly : LNY Y L) {c : Nat} (hc : c < 12) (lo hi : Nat → Int) : ∃ l h Y', fY0_setEnds N Y (nI c) = some (bI (!thr B c || decide (0 ≤ h)), Y') ∧ BY Y' B ∧ LNY Y' L ∧ (∀ d, d ≠ c → Y'.1 18 d = Y.1 18 d ∧ Y'.1 19 d = Y.1 19 d) ∧ (thr B c = true → Y'.1 18 c = iI l ∧ Y'.1 19 c = iI h) ∧ (thr B c = false → Y'.1 18 c = 0 ∧ Y'.1 19 c = 0) ∧ eOf (L c) l h := by
  obtain ⟨l, h, e1, e2⟩ := Y_setEnds hN bY hc (p := L c) (fun v hv => ly c hc v hv)
  refine ⟨l, h, _, e1, agY_BY ag1819 bY, fun d hd v hv => ?_, fun d hd => ?_, fun t => ?_, fun t => ?_, e2⟩
  · rw [p1_ne (by decide), p1_ne (by decide)]; exact ly d hd v hv
  · rw [p1_ne (by decide), p1_ni hd, p1_ni hd, p1_ne (by decide)]; exact ⟨rfl, rfl⟩
  · rw [p1_ne (by decide), p1_eq, p1_eq, if_pos t, if_pos t]; exact ⟨rfl, rfl⟩
  · rw [p1_ne (by decide), p1_eq, p1_eq, t, if_neg (by decide), if_neg (by decide)]; exact ⟨rfl, rfl⟩
theorem Y_first1 {N : Nat} (hN : 201 < N) (ok : okB B) (bY : BY Y B) {i : Nat} (hi12 : i < 12) : ∃ Y', fY0_setFirst_L10 N (nI i) N Y 0 = some Y' ∧ BY Y' B ∧ (∀ v, v < 100 → Y'.1 17 (100 * i + v) = bI (thr B i && alw B i v)) ∧ ∀ k q, ¬ (k = 17 ∧ 100 * i ≤ q ∧ q < 100 * i + 100) → Y'.1 k q = Y.1 k q := by
  obtain ⟨t, e2, g1, g2, g3⟩ := loop_up (fun q st x => fY0_setFirst_L10 N (nI i) q st x) 100
    (fun j st => BY st B ∧ (∀ v, v < j → st.1 17 (100 * i + v) = bI (thr B i && alw B i v)) ∧ ∀ k q, ¬ (k = 17 ∧ 100 * i ≤ q ∧ q < 100 * i + 100) → st.1 k q = Y.1 k q)
    (fun st => BY st B ∧ (∀ v, v < 100 → st.1 17 (100 * i + v) = bI (thr B i && alw B i v)) ∧ ∀ k q, ¬ (k = 17 ∧ 100 * i ≤ q ∧ q < 100 * i + 100) → st.1 k q = Y.1 k q)
    (fun q st hI => ⟨st, by
      show fY0_setFirst_L10 N (nI i) (q + 1) st (nI 100) = _
      rw [fY0_setFirst_L10, if_pos (by decide)], hI⟩)
    (fun q j st hj hI => Or.inr ⟨p1 st 17 (100 * i + j) (bI (thr B i && alw B i j)), ⟨agY_BY ag17 hI.1, fun v hv => by
        by_cases e : v = j
        · subst e; rw [p1_eq]
        · rw [p1_ni (by omega)]; exact hI.2.1 v (by omega), fun k q h => by
        rw [p1_at, if_neg (by omega)]; exact hI.2.2 k q h⟩, by
      show fY0_setFirst_L10 N (nI i) (q + 1) st (nI j) = fY0_setFirst_L10 N (nI i) q _ (nI (j + 1))
      rw [fY0_setFirst_L10, if_neg (show ¬ (100 : Int32) ≤ nI j from nI_ge hj (by decide)), Y_there hI.1 hi12, bs, if_bI0, nI_1, ixY, inb_nI (show 100 * i + j < 1200 by omega) (by decide), cl (show 100 * i + j < 2 ^ 31 by omega)]
      cases ti : thr B i
      · rw [if_neg (by decide), bs]; rfl
      · have k6 : kd B i < 6 := by
          have := ok_k ok hi12
          have := thr_t.mp ti
          omega
        rw [if_pos rfl, Y_first (by omega) ok hI.1 hi12 k6 hj, bs]
        cases alw B i j <;> rfl⟩)
    N 0 Y (by omega) (by omega) ⟨bY, fun v hv => by omega, fun _ _ _ => rfl⟩
  exact ⟨t, e2, g1, g2, g3⟩
theorem Y_setFirst {N : Nat} (hN : 201 < N) (ok : okB B) (bY : BY Y B) : ∃ Y' lo hi, fY0_setFirst N Y = some Y' ∧ BY Y' B ∧ LNY Y' (fun c v => thr B c && alw B c v) ∧ ONY Y' B (fun c v => thr B c && alw B c v) lo hi 12 := by
  obtain ⟨t, e2, g1, g2, lo, hi, g3⟩ := loop_up (fun q st x => fY0_setFirst_L2 N q st x) 12
    (fun i st => BY st B ∧ (∀ c, c < i → ∀ v, v < 100 → st.1 17 (100 * c + v) = bI (thr B c && alw B c v)) ∧ ∃ lo hi, ONY st B (fun c v => thr B c && alw B c v) lo hi i)
    (fun st => BY st B ∧ LNY st (fun c v => thr B c && alw B c v) ∧ ∃ lo hi, ONY st B (fun c v => thr B c && alw B c v) lo hi 12)
    (fun q st hI => ⟨st, by
      show fY0_setFirst_L2 N (q + 1) st (nI 12) = _
      rw [fY0_setFirst_L2, if_pos (by decide)], hI⟩)
    (fun q i st hi12 hI => by
      obtain ⟨h1, h2, lo, hi, h3⟩ := hI
      right
      show ∃ s', _ ∧ fY0_setFirst_L2 N (q + 1) st (nI i) = fY0_setFirst_L2 N q s' (nI (i + 1))
      obtain ⟨Y1, k1, k2, k3, k4⟩ := Y_first1 hN ok h1 hi12
      obtain ⟨l, h, r1, r2⟩ := Y_setEnds hN k2 hi12 (p := fun v => thr B i && alw B i v) k3
      rw [fY0_setFirst_L2, if_neg (show ¬ (12 : Int32) ≤ nI i from nI_ge hi12 (by decide)), k1, bs, r1, bs, nI_1]
      refine ⟨_, ⟨agY_BY ag1819 k2, fun c hc v hv => ?_, fun d => if d = i then l else lo d, fun d => if d = i then h else hi d, fun d hd => ?_⟩, rfl⟩
      · rw [p1_ne (by decide), p1_ne (by decide)]
        by_cases e : c = i
        · subst e; exact k3 v hv
        · rw [k4 17 _ (by omega)]; exact h2 c (by omega) v hv
      · by_cases e : d = i
        · subst e
          simp only [if_true]
          rw [p1_ne (by decide), p1_eq, p1_eq]
          refine ⟨fun t => ⟨if_pos t, if_pos t, r2⟩, fun t => ⟨if_neg (by rw [t]; decide), if_neg (by rw [t]; decide)⟩⟩
        · simp only [if_neg e]
          rw [p1_ne (by decide), p1_ni e, p1_ni e, p1_ne (by decide), k4 18 d (by omega), k4 19 d (by omega)]
          exact h3 d (by omega))
    N 0 Y (by omega) (by omega) ⟨bY, fun c hc => by omega, fun _ => 0, fun _ => 0, fun c hc => by omega⟩
  refine ⟨t, lo, hi, ?_, g1, g2, g3⟩
  unfold fY0_setFirst
  have e3 : fY0_setFirst_L2 N N Y 0 = some t := e2
  rw [e3]; rfl
/-- what holds all through the reference's narrowing -/
def JNY (Y : St) (B : Bk) (out : Nat) (L : Nat → Nat → Bool) (lo hi : Nat → Int) (any : Bool) : Prop := BY Y B ∧ LNY Y L ∧ ONY Y B L lo hi 12 ∧ (∀ c v : Nat, c < 12 → v < 100 → L c v = true → thr B c = true ∧ alw B c v = true) ∧ (∀ gl gh, clo B out gl gh → ∀ c v : Nat, c < 12 → v < 100 → thr B c = true → gl c ≤ v → v ≤ gh c → alw B c v = true → L c v = true) ∧ (any = true → ∀ c, c < 12 → thr B c = true → 0 ≤ hi c) ∧ (any = false → ∃ c, c < 12 ∧ thr B c = true ∧ ∀ v, v < 100 → L c v = false)
theorem JNY_nm (j : JNY Y B out L lo hi true) : nmd B := fun t ht => by
  obtain ⟨_, _, h3, h4, _, h6, _⟩ := j
  have key : thr B t = true → ∃ v, alw B t v = true := fun tt => by
    obtain ⟨a, b, a1, a2, a3, a4, a5, _⟩ := eOf_n ((h3 t ht).1 tt).2.2 (h6 rfl t ht tt)
    exact ⟨a, (h4 t a ht a1 a5).2⟩
  refine ⟨fun k => ?_, fun k => ?_⟩
  · obtain ⟨v, hv⟩ := key (thr_k k (by decide))
    exact (al_nm hv).1 k
  · obtain ⟨v, hv⟩ := key (thr_k k (by decide))
    exact (al_nm hv).2 k
theorem JNY_ins (j : JNY Y B out L lo hi true) {gl gh : Nat → Int} (g : clo B out gl gh) : ins B gl gh lo hi := fun c hc tc => by
  obtain ⟨_, _, h3, h4, h5, h6, _⟩ := j
  have k := g c hc tc
  obtain ⟨a, b, a1, a2, a3, a4, a5, a6, a7⟩ := eOf_n ((h3 c hc).1 tc).2.2 (h6 rfl c hc tc)
  have e1 : (gl c).toNat = gl c := Int.toNat_of_nonneg k.1
  have e2 : (gh c).toNat = gh c := Int.toNat_of_nonneg (by omega)
  have q1 := a7 _ (by omega) (h5 gl gh g c (gl c).toNat hc (by omega) tc (by omega) (by omega) k.2.2.2.1)
  have q2 := a7 _ (by omega) (h5 gl gh g c (gh c).toNat hc (by omega) tc (by omega) (by omega) k.2.2.2.2.1)
  omega
theorem JNY_rb (j : JNY Y B out L lo hi true) : rngB B lo hi ∧ ENY Y B lo hi ∧ ∀ c, c < 12 → thr B c = true → 0 ≤ lo c ∧ 0 ≤ hi c := by
  obtain ⟨_, _, h3, h4, h5, h6, _⟩ := j
  refine ⟨fun c hc tc => ?_, fun c hc => ⟨fun t => ⟨((h3 c hc).1 t).1, ((h3 c hc).1 t).2.1⟩, fun t => (h3 c hc).2 t⟩, fun c hc tc => ?_⟩
  · have := eOf_b ((h3 c hc).1 tc).2.2
    omega
  · have := eOf_b ((h3 c hc).1 tc).2.2
    have := h6 rfl c hc tc
    omega
def cntL (L : Nat → Nat → Bool) : Nat := fb_ct (fun k => L (k / 100) (k % 100)) 1200
/-- a number that can't stand is taken away -/
theorem Y_rem {N : Nat} (hN : 201 < N) (ok : okB B) (j : JNY Y B out L lo hi true) {c v : Nat} (hc : c < 12) (hv : v < 100) (tc : thr B c = true) (hl : L c v = true) (hn : ¬ canP B out lo hi c v) : ∃ Y' L' lo' hi' any', fY0_setEnds N (p1 Y 17 (100 * c + v) 0) (nI c) = some (bI any', Y') ∧ JNY Y' B out L' lo' hi' any' ∧ cntL L' < cntL L := by
  have nm := JNY_nm j
  have rb := JNY_rb j
  have insj := fun {gl gh : Nat → Int} (g : clo B out gl gh) => JNY_ins j g
  obtain ⟨h1, h2, h3, h4, h5, h6, h7⟩ := j
  have ly : LNY (p1 Y 17 (100 * c + v) 0) (fun d w => if d = c ∧ w = v then false else L d w) := fun d hd w hw => by
    show (p1 Y 17 (100 * c + v) 0).1 17 (100 * d + w) = bI (if d = c ∧ w = v then false else L d w)
    by_cases e : d = c ∧ w = v
    · rw [if_pos e, e.1, e.2, p1_eq]; rfl
    · rw [if_neg e, p1_ni (by omega)]; exact h2 d hd w hw
  obtain ⟨l, h, Y', e1, g1, g2, g3, g4, g5, g6⟩ := Y_ends hN (agY_BY ag17 h1) ly hc lo hi
  rw [tc] at e1
  refine ⟨Y', _, fun d => if d = c then l else lo d, fun d => if d = c then h else hi d, decide (0 ≤ h), e1, ⟨g1, g2, fun d hd => ?_, fun d w hd hw q => ?_, fun gl gh g d w hd hw td q1 q2 q3 => ?_, fun q d hd td => ?_, fun q => ?_⟩, ?_⟩
  · by_cases e : d = c
    · subst e
      refine ⟨fun t => ⟨?_, ?_, ?_⟩, g5⟩
      · dsimp only; rw [if_pos rfl]; exact (g4 t).1
      · dsimp only; rw [if_pos rfl]; exact (g4 t).2
      · dsimp only; rw [if_pos rfl, if_pos rfl]; exact g6
    · simp only [if_neg e]
      rw [(g3 d e).1, (g3 d e).2, p1_ne (by decide), p1_ne (by decide)]
      have k := h3 d hd
      refine ⟨fun t => ⟨(k.1 t).1, (k.1 t).2.1, ?_⟩, k.2⟩
      have w : (fun w => if d = c ∧ w = v then false else L d w) = L d := by
        funext w
        rw [if_neg (by omega)]
      rw [w]
      exact (k.1 t).2.2
  · have q : (if d = c ∧ w = v then false else L d w) = true := q
    by_cases e : d = c ∧ w = v
    · rw [if_pos e] at q; exact absurd q (by decide)
    · rw [if_neg e] at q; exact h4 d w hd hw q
  · show (if d = c ∧ w = v then false else L d w) = true
    by_cases e : d = c ∧ w = v
    · exfalso
      obtain ⟨rfl, rfl⟩ := e
      have k := g d hc tc
      have nn : ∀ c, c < 12 → thr B c = true → 0 ≤ gl c ∧ 0 ≤ gh c := fun c hc tc => by have := g c hc tc; omega
      have m1 := canP_mid nm nn ok hc q1 q2 k.2.2.2.2.2.1 k.2.2.2.2.2.2
      exact hn (canP_mono nm (insj g) (fun c hc tc => ⟨(rb.2.2 c hc tc).1, (g c hc tc).2.1⟩) ok hc (by omega) m1)
    · rw [if_neg e]; exact h5 gl gh g d w hd hw td q1 q2 q3
  · show 0 ≤ if d = c then h else hi d
    by_cases e : d = c
    · rw [if_pos e]; exact of_decide_eq_true q
    · rw [if_neg e]; exact h6 rfl d hd td
  · exact ⟨c, hc, tc, eOf_e g6 (of_decide_eq_false q)⟩
  · have e := fb_ct_upd (fun k => L (k / 100) (k % 100)) false (i := 100 * c + v) (n := 1200) (by omega)
    have e2 : cntL (fun d w => if d = c ∧ w = v then false else L d w) = fb_ct (fun k => if k = 100 * c + v then false else L (k / 100) (k % 100)) 1200 := fb_ct_cong (fun k hk => by
      show (if k / 100 = c ∧ k % 100 = v then false else L (k / 100) (k % 100)) = if k = 100 * c + v then false else L (k / 100) (k % 100)
      by_cases w : k = 100 * c + v
      · rw [if_pos w, if_pos (by omega)]
      · rw [if_neg w, if_neg (by omega)])
    have e3 : (100 * c + v) / 100 = c := by omega
    have e4 : (100 * c + v) % 100 = v := by omega
    rw [e3, e4, hl] at e
    simp only [if_true, Bool.false_eq_true, if_false] at e
    rw [e2]
    show _ < fb_ct (fun k => L (k / 100) (k % 100)) 1200
    omega
/-- the state of a pass: any, falls, what was looked at -/
def PNY (Y : St) (B : Bk) (out : Nat) (m0 : Nat) (c i : Nat) (x2 x3 : Int32) : Prop := ∃ L lo hi any fl, x2 = bI any ∧ x3 = bI fl ∧ JNY Y B out L lo hi any ∧ cntL L ≤ m0 ∧ (any = true → fl = true → cntL L < m0) ∧ (any = true → fl = false → ∀ d w : Nat, (d < c ∨ d = c ∧ w < i) → d < 12 → w < 100 → L d w = true → canP B out lo hi d w) ∧ (any = false → fl = false)
theorem Y_pass1 {N : Nat} (hN : 201 < N) (ok : okB B) (ho : out < 2 ^ 31) {m0 c : Nat} (hc : c < 12) {x2 x3 : Int32} (p : PNY Y B out m0 c 0 x2 x3) : ∃ Y' x2' x3', fY0_narrow_L63 N (nI out) (nI c) N Y x2 x3 0 = some (Y', x2', x3') ∧ PNY Y' B out m0 (c + 1) 0 x2' x3' := by
  obtain ⟨t, e1, h1⟩ := loop_up (fun q (s : St × Int32 × Int32) x => fY0_narrow_L63 N (nI out) (nI c) q s.1 s.2.1 s.2.2 x) 100
    (fun i s => PNY s.1 B out m0 c i s.2.1 s.2.2)
    (fun s => PNY s.1 B out m0 (c + 1) 0 s.2.1 s.2.2)
    (fun q s hI => ⟨s, by
      show fY0_narrow_L63 N (nI out) (nI c) (q + 1) s.1 s.2.1 s.2.2 (nI 100) = _
      rw [fY0_narrow_L63, if_pos (by decide)], by
      obtain ⟨L, lo, hi, any, fl, a1, a2, a3, a4, a5, a6, a7⟩ := hI
      exact ⟨L, lo, hi, any, fl, a1, a2, a3, a4, a5, fun b1 b2 d w b3 b4 b5 => a6 b1 b2 d w (by omega) b4 b5, a7⟩⟩)
    (fun q i s hi100 hI => by
      obtain ⟨L, lo, hi, any, fl, a1, a2, a3, a4, a5, a6, a7⟩ := hI
      show (∃ t, fY0_narrow_L63 N (nI out) (nI c) (q + 1) s.1 s.2.1 s.2.2 (nI i) = some t ∧ _) ∨ ∃ s' : St × Int32 × Int32, _ ∧ fY0_narrow_L63 N (nI out) (nI c) (q + 1) s.1 s.2.1 s.2.2 (nI i) = fY0_narrow_L63 N (nI out) (nI c) q s'.1 s'.2.1 s'.2.2 (nI (i + 1))
      rw [fY0_narrow_L63, if_neg (show ¬ (100 : Int32) ≤ nI i from nI_ge hi100 (by decide)), Y_there a3.1 hc, bs, if_bI0, a1, if_bI0]
      cases tc : thr B c
      · left
        rw [if_neg (by decide)]
        refine ⟨(s.1, bI any, s.2.2), rfl, L, lo, hi, any, fl, rfl, a2, a3, a4, a5, fun b1 b2 d w b3 b4 b5 b6 => ?_, a7⟩
        by_cases e : d = c
        · subst e
          have := (a3.2.2.2.1 d w b4 b5 b6).1
          rw [tc] at this; exact absurd this (by decide)
        · exact a6 b1 b2 d w (by omega) b4 b5 b6
      rw [if_pos rfl]
      cases any
      · left
        rw [if_neg (by decide)]
        exact ⟨(s.1, bI false, s.2.2), rfl, L, lo, hi, false, fl, rfl, a2, a3, a4, a5, fun b1 => absurd b1 (by decide), a7⟩
      rw [if_pos rfl]
      right
      rw [ixY, inb_nI (show 100 * c + i < 1200 by omega) (by decide), gd_true, cl (show 100 * c + i < 2 ^ 31 by omega), a3.2.1 c hc i hi100, if_bI0, nI_1]
      cases hl : L c i
      · rw [if_neg (by decide), bs]
        refine ⟨(s.1, bI true, s.2.2), ⟨L, lo, hi, true, fl, rfl, a2, a3, a4, a5, fun b1 b2 d w b3 b4 b5 b6 => ?_, a7⟩, rfl⟩
        by_cases e : d = c ∧ w = i
        · rw [e.1, e.2, hl] at b6; exact absurd b6 (by decide)
        · exact a6 b1 b2 d w (by omega) b4 b5 b6
      rw [if_pos rfl]
      have rb := JNY_rb a3
      obtain ⟨r, e3, h3⟩ := Y_can (N := N) (by omega) ok (JNY_nm a3) a3.1 rb.2.1 rb.1 ho hc tc hi100
      rw [e3, bs, if_bI0]
      cases r
      · rw [if_neg (by decide), gd_true, nx_eq]
        obtain ⟨Y', L', lo', hi', any', k1, k2, k3⟩ := Y_rem hN ok a3 hc hi100 tc hl (fun q => absurd (h3.mpr q) (by decide))
        rw [k1, bs, bs]
        exact ⟨(Y', bI any', bI any'), ⟨L', lo', hi', any', any', rfl, rfl, k2, by omega, fun _ _ => by omega, fun b1 b2 => by rw [b1] at b2; exact absurd b2 (by decide), id⟩, rfl⟩
      · rw [if_pos rfl, bs]
        refine ⟨(s.1, bI true, s.2.2), ⟨L, lo, hi, true, fl, rfl, a2, a3, a4, a5, fun b1 b2 d w b3 b4 b5 b6 => ?_, a7⟩, rfl⟩
        by_cases e : d = c ∧ w = i
        · rw [e.1, e.2]; exact h3.mp rfl
        · exact a6 b1 b2 d w (by omega) b4 b5 b6)
    N 0 (Y, x2, x3) (by omega) (by omega) p
  exact ⟨t.1, t.2.1, t.2.2, e1, h1⟩
theorem Y_pass2 {N : Nat} (hN : 201 < N) (ok : okB B) (ho : out < 2 ^ 31) {m0 : Nat} {x2 x3 : Int32} (p : PNY Y B out m0 0 0 x2 x3) : ∃ Y' x2' x3', fY0_narrow_L49 N (nI out) N Y x2 x3 0 = some (Y', x2', x3') ∧ PNY Y' B out m0 12 0 x2' x3' := by
  obtain ⟨t, e1, h1⟩ := loop_up (fun q (s : St × Int32 × Int32) x => fY0_narrow_L49 N (nI out) q s.1 s.2.1 s.2.2 x) 12
    (fun i s => PNY s.1 B out m0 i 0 s.2.1 s.2.2)
    (fun s => PNY s.1 B out m0 12 0 s.2.1 s.2.2)
    (fun q s hI => ⟨s, by
      show fY0_narrow_L49 N (nI out) (q + 1) s.1 s.2.1 s.2.2 (nI 12) = _
      rw [fY0_narrow_L49, if_pos (by decide)], hI⟩)
    (fun q i s hi12 hI => by
      show (∃ t, fY0_narrow_L49 N (nI out) (q + 1) s.1 s.2.1 s.2.2 (nI i) = some t ∧ _) ∨ ∃ s' : St × Int32 × Int32, _ ∧ fY0_narrow_L49 N (nI out) (q + 1) s.1 s.2.1 s.2.2 (nI i) = fY0_narrow_L49 N (nI out) q s'.1 s'.2.1 s'.2.2 (nI (i + 1))
      rw [fY0_narrow_L49, if_neg (show ¬ (12 : Int32) ≤ nI i from nI_ge hi12 (by decide))]
      by_cases z : s.2.1 = 0
      · left
        rw [if_pos z]
        obtain ⟨L, lo, hi, any, fl, a1, a2, a3, a4, a5, a6, a7⟩ := hI
        have af : any = false := by rw [a1] at z; exact bI_0.mp z
        subst af
        exact ⟨(s.1, s.2.1, s.2.2), rfl, L, lo, hi, false, fl, a1, a2, a3, a4, a5, fun b1 => absurd b1 (by decide), a7⟩
      · right
        rw [if_neg z]
        obtain ⟨Y', x2', x3', e1, h1⟩ := Y_pass1 hN ok ho hi12 hI
        rw [e1, bs, nI_1]
        exact ⟨(Y', x2', x3'), h1, rfl⟩)
    N 0 (Y, x2, x3) (by omega) (by omega) p
  exact ⟨t.1, t.2.1, t.2.2, e1, h1⟩
theorem cntL_le (L : Nat → Nat → Bool) : cntL L ≤ 1200 := fb_ct_le _ _
/-- the passes to a stand -/
theorem Y_passes {N : Nat} (hN : 1300 < N) (ok : okB B) (ho : out < 2 ^ 31) : ∀ n Y L lo hi any, cntL L < n → JNY Y B out L lo hi any → ∃ Y' L' lo' hi' any', fY0_narrow_L40 N (nI out) (n + 1) Y (bI any) (bI any) = some (Y', bI any') ∧ JNY Y' B out L' lo' hi' any' ∧ (any' = true → ∀ d w, d < 12 → w < 100 → L' d w = true → canP B out lo' hi' d w) := by
  intro n
  induction n with
  | zero => intro _ _ _ _ _ h _; exact absurd h (Nat.not_lt_zero _)
  | succ n ih =>
    intro Y L lo hi any h j
    rw [fY0_narrow_L40, if_bI0]
    cases any
    · rw [if_neg (by decide)]
      exact ⟨Y, L, lo, hi, false, rfl, j, fun q => absurd q (by decide)⟩
    rw [if_pos rfl]
    obtain ⟨Y', x2', x3', e1, L1, lo1, hi1, any1, fl1, a1, a2, a3, a4, a5, a6, a7⟩ := Y_pass2 (N := N) (x2 := bI true) (x3 := 0) (by omega) ok ho (m0 := cntL L) ⟨L, lo, hi, true, false, rfl, rfl, j, Nat.le_refl _, fun _ q => absurd q (by decide), fun _ _ d w q => by omega, fun q => absurd q (by decide)⟩
    have e1' : fY0_narrow_L49 N (nI out) N Y (bI true) 0 0 = some (Y', x2', x3') := e1
    rw [e1', bs]
    dsimp only
    rw [a1, a2]
    cases any1
    · rw [a7 rfl, fY0_narrow_L40, if_pos bI_f]
      exact ⟨Y', L1, lo1, hi1, false, rfl, a3, fun q => absurd q (by decide)⟩
    cases fl1
    · rw [fY0_narrow_L40, if_pos bI_f]
      exact ⟨Y', L1, lo1, hi1, true, rfl, a3, fun _ d w hd hw q => a6 rfl rfl d w (by omega) hd hw q⟩
    · have := a5 rfl rfl
      exact ih Y' L1 lo1 hi1 true (by omega) a3
end OE
