/-! the class' narrowing, whole -/
def fen (B : Bk) (lo hi : Nat → Int) (c : Nat) : Prop := 0 ≤ lo c ∧ lo c ≤ 100 ∧ -1 ≤ hi c ∧ hi c ≤ 99 ∧ (∀ v, 0 ≤ v → v ≤ 99 → alz B c v = true → lo c ≤ v ∧ v ≤ hi c) ∧ (lo c ≤ hi c → alz B c (lo c) = true ∧ alz B c (hi c) = true)
def meas (B : Bk) (lo hi : Nat → Int) : Int := fb_si (fun c => if thr B c = true then hi c - lo c + 1 else 0) 12
theorem si_lt {f g : Nat → Int} : ∀ {n : Nat}, (∀ k, k < n → f k ≤ g k) → (∃ k, k < n ∧ f k < g k) → fb_si f n < fb_si g n
  | 0, _, h => by obtain ⟨k, hk, _⟩ := h; omega
  | n + 1, h, ⟨k, hk, hl⟩ => by
    show fb_si f n + f n < fb_si g n + g n
    have h1 := h n (by omega)
    by_cases e : k = n
    · subst e
      have := si_mono (f := f) (g := g) (n := k) (fun i hi => h i (by omega))
      omega
    · have := si_lt (f := f) (g := g) (n := n) (fun i hi => h i (by omega)) ⟨k, by omega, hl⟩
      omega
theorem si_0 : ∀ n, fb_si (fun _ => 0) n = 0
  | 0 => rfl
  | n + 1 => by rw [fb_si_succ, si_0 n]; rfl
section OB
variable {S S' Y Y' : St} {B : Bk} {out : Nat} {lo hi lo' hi' : Nat → Int} {mv em mv' em' : Bool}
theorem meas_nn (h : ∀ c, c < 12 → thr B c = true → lo c ≤ hi c) : 0 ≤ meas B lo hi := by
  have := si_mono (f := fun _ => 0) (g := fun c => if thr B c = true then hi c - lo c + 1 else 0) (n := 12) (fun k hk => by
    show 0 ≤ if thr B k = true then hi k - lo k + 1 else 0
    by_cases t : thr B k = true
    · rw [if_pos t]; have := h k hk t; omega
    · rw [if_neg t]; omega)
  rw [si_0] at this
  exact this
theorem meas_lt (h : ∀ c, lo c ≤ lo' c ∧ hi' c ≤ hi c) (h2 : ∃ c, c < 12 ∧ thr B c = true ∧ (lo c < lo' c ∨ hi' c < hi c)) : meas B lo' hi' < meas B lo hi := by
  refine si_lt (fun k hk => ?_) ?_
  · show (if thr B k = true then hi' k - lo' k + 1 else 0) ≤ if thr B k = true then hi k - lo k + 1 else 0
    have := h k
    by_cases t : thr B k = true
    · rw [if_pos t, if_pos t]; omega
    · rw [if_neg t, if_neg t]; omega
  · obtain ⟨c, hc, t, q⟩ := h2
    refine ⟨c, hc, ?_⟩
    show (if thr B c = true then hi' c - lo' c + 1 else 0) < if thr B c = true then hi c - lo c + 1 else 0
    have := h c
    rw [if_pos t, if_pos t]; omega
theorem meas_b (h : ∀ c, c < 12 → thr B c = true → 0 ≤ lo c ∧ hi c ≤ 99) : meas B lo hi ≤ 1200 := by
  have := si_mono (f := fun c => if thr B c = true then hi c - lo c + 1 else 0) (g := fun _ => 100) (n := 12) (fun k hk => by
    show (if thr B k = true then hi k - lo k + 1 else 0) ≤ 100
    by_cases t : thr B k = true
    · rw [if_pos t]; have := h k hk t; omega
    · rw [if_neg t]; omega)
  exact this
theorem X_widen {N : Nat} (hN : 201 < N) (bx : BX S B) (fx : FNX S B) : ∃ S' lo hi em, fX33_widen N S = some S' ∧ BX S' B ∧ FNX S' B ∧ ENX S' B lo hi ∧ (∀ c, c < 12 → thr B c = true → fen B lo hi c) ∧ S'.1 33 6 = bI em ∧ (em = false → ∀ c, c < 12 → thr B c = true → lo c ≤ hi c) ∧ (em = true → ∃ c, c < 12 ∧ thr B c = true ∧ hi c < lo c) := by
  obtain ⟨t, e1, h1, h2, lo, hi, em, h3, h4, h5, h6⟩ := loop_up (fun q st x => fX33_widen_L7 N q st x) 12
    (fun i st => BX st B ∧ FNX st B ∧ ∃ lo hi em, (∀ c, c < i → thr B c = true → st.1 35 c = iI (lo c) ∧ st.1 36 c = iI (hi c) ∧ fen B lo hi c) ∧ st.1 33 6 = bI em ∧ (em = false → ∀ c, c < i → thr B c = true → lo c ≤ hi c) ∧ (em = true → ∃ c, c < i ∧ thr B c = true ∧ hi c < lo c))
    (fun st => BX st B ∧ FNX st B ∧ ∃ lo hi em, (∀ c, c < 12 → thr B c = true → st.1 35 c = iI (lo c) ∧ st.1 36 c = iI (hi c) ∧ fen B lo hi c) ∧ st.1 33 6 = bI em ∧ (em = false → ∀ c, c < 12 → thr B c = true → lo c ≤ hi c) ∧ (em = true → ∃ c, c < 12 ∧ thr B c = true ∧ hi c < lo c))
    (fun q st hI => ⟨st, by
        show fX33_widen_L7 N (q + 1) st (nI 12) = _
        rw [fX33_widen_L7, if_pos (by decide)], hI⟩)
    (fun q i st hi12 hI => by
      obtain ⟨h1, h2, lo, hi, em, h3, h4, h5, h6⟩ := hI
      right
      show ∃ s', _ ∧ fX33_widen_L7 N (q + 1) st (nI i) = fX33_widen_L7 N q s' (nI (i + 1))
      rw [fX33_widen_L7, if_neg (show ¬ (12 : Int32) ≤ nI i from nI_ge hi12 (by decide)), X_there h1 hi12, bs, if_bI0, nI_1]
      cases t : thr B i
      · rw [if_neg (by decide), bs]
        refine ⟨st, ⟨h1, h2, lo, hi, em, fun c hc tc => ?_, h4, fun e c hc tc => ?_, fun e => ?_⟩, rfl⟩
        · by_cases ec : c = i
          · subst ec; rw [t] at tc; exact absurd tc (by decide)
          · exact h3 c (by omega) tc
        · by_cases ec : c = i
          · subst ec; rw [t] at tc; exact absurd tc (by decide)
          · exact h5 e c (by omega) tc
        · obtain ⟨c, hc, q⟩ := h6 e
          exact ⟨c, by omega, q⟩
      · rw [if_pos rfl, inb_nI hi12 (by decide), gd_true, nx_eq, gd_true, nx_eq, cl (show i < 2 ^ 31 by omega)]
        have f1 : ∀ v, v < 100 → (p1 (p1 st 35 i 0) 36 i 99).1 34 (100 * i + v) = bI (alw B i v) := fun v hv => by
          rw [p1_ne (by decide), p1_ne (by decide)]; exact h2 i hi12 t v hv
        obtain ⟨S', l', h', ev, e35, e36, e5, e6, eo, a1, a2, a3, a4, a5, a6⟩ := X_keep0 (B := B) (l := 0) (h := 99) (f := 0) (t := 99) hN hi12 f1 (by rw [p1_ne (by decide), p1_eq]; rfl) (by rw [p1_eq]; rfl) (by decide) (by decide) (by decide) (by decide) (by decide) (by decide) (by decide) (by decide)
        have ev' : fX33_keep N (p1 (p1 st 35 i 0) 36 i 99) (nI i) 0 99 = some S' := ev
        rw [ev', bs, bs]
        have bx1 : BX (p1 (p1 st 35 i 0) 36 i 99) B := agX_BX (agr_of (fr_trans (fr_pa (A := [35, 36]) (F := []) (L := []) (by decide)) (fr_pa (by decide))) (by decide) (by decide) (by decide)) h1
        have bx2 : BX S' B := agX_BX (agr_of (frX33_keep ev) (by decide) (by decide) (by decide)) bx1
        have eo2 : ∀ k q, k ≠ 33 → ¬ ((k = 35 ∨ k = 36) ∧ q = i) → S'.1 k q = st.1 k q := fun k q n1 n2 => by
          rw [eo k q (by omega) n2, p1_at, if_neg (by omega), p1_at, if_neg (by omega)]
        refine ⟨S', ⟨bx2, fun c hc tc v hv => ?_, fun d => if d = i then l' else lo d, fun d => if d = i then h' else hi d, em || !decide (l' ≤ h'), fun c hc tc => ?_, ?_, fun e c hc tc => ?_, fun e => ?_⟩, rfl⟩
        · rw [eo2 34 _ (by decide) (by omega)]; exact h2 c hc tc v hv
        · by_cases ec : c = i
          · subst ec
            simp only [fen, if_true]
            exact ⟨e35, e36, by omega, a2, a3, by omega, fun v v0 v1 va => a5 v v0 v1 v0 v1 va, fun q => (a6 q).2.2⟩
          · simp only [fen, if_neg ec]
            rw [eo2 35 c (by decide) (by omega), eo2 36 c (by decide) (by omega)]
            exact h3 c (by omega) tc
        · rw [e6, p1_ne (by decide), p1_ne (by decide), h4]
          by_cases q : l' ≤ h'
          · rw [if_pos q, decide_eq_true q]; cases em <;> rfl
          · rw [if_neg q, decide_eq_false q]; cases em <;> rfl
        · have q : em = false ∧ l' ≤ h' := by simpa using e
          show (if c = i then l' else lo c) ≤ if c = i then h' else hi c
          by_cases ec : c = i
          · rw [if_pos ec, if_pos ec]; exact q.2
          · rw [if_neg ec, if_neg ec]; exact h5 q.1 c (by omega) tc
        · have q : em = true ∨ h' < l' := by simpa using e
          rcases q with q | q
          · obtain ⟨c, hc, tc, w⟩ := h6 q
            refine ⟨c, by omega, tc, ?_⟩
            show (if c = i then h' else hi c) < if c = i then l' else lo c
            rw [if_neg (by omega), if_neg (by omega)]; exact w
          · refine ⟨i, by omega, t, ?_⟩
            show (if i = i then h' else hi i) < if i = i then l' else lo i
            rw [if_pos rfl, if_pos rfl]; exact q)
    N 0 (p1 S 33 6 0) (by omega) (by omega) ⟨agX_BX (agr_of (fr_pf (A := []) (F := [(33, 6)]) (L := []) (by decide)) (by decide) (by decide) (by decide)) bx, fun c hc tc v hv => by rw [p1_ne (by decide)]; exact fx c hc tc v hv, fun _ => 0, fun _ => 0, false, fun c hc => by omega, p1_eq, fun _ c hc => by omega, fun e => absurd e (by decide)⟩
  refine ⟨t, lo, hi, em, ?_, h1, h2, fun c hc tc => ?_, fun c hc tc => (h3 c hc tc).2.2, h4, h5, h6⟩
  · unfold fX33_widen
    have e2 : fX33_widen_L7 N N (p1 S 33 6 0) 0 = some t := e1
    rw [nx_eq, e2]; rfl
  · obtain ⟨q1, q2, q3, q4, q5, q6, _⟩ := h3 c hc tc
    exact ⟨q1, q2, q3, q4, q5, q6⟩
theorem X_first {N : Nat} (hN : 201 < N) (ok : okB B) (bx : BX S B) : ∃ S', fX33_lookAtFirst_L2 N N S 0 = some S' ∧ BX S' B ∧ FNX S' B := by
  obtain ⟨t, e1, h1, h2⟩ := loop_up (fun q st x => fX33_lookAtFirst_L2 N q st x) 12
    (fun i st => BX st B ∧ ∀ c, c < i → thr B c = true → ∀ v, v < 100 → st.1 34 (100 * c + v) = bI (alw B c v))
    (fun st => BX st B ∧ FNX st B)
    (fun q st hI => ⟨st, by
        show fX33_lookAtFirst_L2 N (q + 1) st (nI 12) = _
        rw [fX33_lookAtFirst_L2, if_pos (by decide)], hI⟩)
    (fun q i st hi12 hI => by
      right
      show ∃ s', _ ∧ fX33_lookAtFirst_L2 N (q + 1) st (nI i) = fX33_lookAtFirst_L2 N q s' (nI (i + 1))
      rw [fX33_lookAtFirst_L2, if_neg (show ¬ (12 : Int32) ≤ nI i from nI_ge hi12 (by decide)), nI_1]
      cases ti : thr B i
      · have e2 : fX33_lookAtFirst_L10 N (nI i) N st 0 = some st := by
          obtain ⟨m, rfl⟩ : ∃ m, N = m + 1 := ⟨N - 1, by omega⟩
          rw [fX33_lookAtFirst_L10, if_neg (by decide), X_there hI.1 hi12, bs, ti, if_pos bI_f]
        rw [e2, bs]
        refine ⟨st, ⟨hI.1, fun c hc tc => ?_⟩, rfl⟩
        by_cases ec : c = i
        · subst ec; rw [ti] at tc; exact absurd tc (by decide)
        · exact hI.2 c (by omega) tc
      · obtain ⟨t, e2, g1, g2⟩ := loop_up (fun q st x => fX33_lookAtFirst_L10 N (nI i) q st x) 100
          (fun j st => BX st B ∧ ∀ c, c < 12 → thr B c = true → ∀ v, v < 100 → (c < i ∨ c = i ∧ v < j) → st.1 34 (100 * c + v) = bI (alw B c v))
          (fun st => BX st B ∧ ∀ c, c < 12 → thr B c = true → ∀ v, v < 100 → (c < i ∨ c = i) → st.1 34 (100 * c + v) = bI (alw B c v))
          (fun q st hI => ⟨st, by
            show fX33_lookAtFirst_L10 N (nI i) (q + 1) st (nI 100) = _
            rw [fX33_lookAtFirst_L10, if_pos (by decide)], hI.1, fun c hc tc v hv h => hI.2 c hc tc v hv (by omega)⟩)
          (fun q j st hj hI => Or.inr ⟨p1 st 34 (100 * i + j) (bI (alw B i j)), ⟨agX_BX (agr_of (fr_pa (A := [34]) (F := []) (L := []) (by decide)) (by decide) (by decide) (by decide)) hI.1, fun c hc tc v hv h => by
              by_cases e : c = i ∧ v = j
              · rw [e.1, e.2, p1_eq]
              · rw [p1_ni (by omega)]; exact hI.2 c hc tc v hv (by omega)⟩, by
            show fX33_lookAtFirst_L10 N (nI i) (q + 1) st (nI j) = fX33_lookAtFirst_L10 N (nI i) q _ (nI (j + 1))
            rw [fX33_lookAtFirst_L10, if_neg (show ¬ (100 : Int32) ≤ nI j from nI_ge hj (by decide)), X_there hI.1 hi12, bs, ti, if_neg (by decide), X_allows ok hI.1 hi12 hj, bs, ixX, inb_nI (show 100 * i + j < 1200 by omega) (by decide), gd_true, bI_isb, gd_true, nx_eq, cl (show 100 * i + j < 2 ^ 31 by omega), nI_1]⟩)
          N 0 st (by omega) (by omega) ⟨hI.1, fun c hc tc v hv h => hI.2 c (by omega) tc v hv⟩
        have e3 : fX33_lookAtFirst_L10 N (nI i) N st 0 = some t := e2
        rw [e3, bs]
        exact ⟨t, ⟨g1, fun c hc tc v hv => g2 c (by omega) tc v hv (by omega)⟩, rfl⟩)
    N 0 S (by omega) (by omega) ⟨bx, fun c hc => by omega⟩
  exact ⟨t, e1, h1, h2⟩
theorem X_look {N : Nat} (hN : 201 < N) (ok : okB B) (bx : BX S B) : ∃ S' lo hi, fX33_lookAtFirst N S = some S' ∧ BX S' B ∧ FNX S' B ∧ ENX S' B lo hi ∧ ∀ c, c < 12 → thr B c = true → fen B lo hi c := by
  obtain ⟨S1, e1, b1, f1⟩ := X_first hN ok bx
  obtain ⟨S2, lo, hi, em, e2, b2, f2, x2, w2, _⟩ := X_widen hN b1 f1
  refine ⟨S2, lo, hi, ?_, b2, f2, x2, w2⟩
  unfold fX33_lookAtFirst
  rw [e1, bs, e2]; rfl
theorem X_pass {N : Nat} (hN : 1300 < N) (ok : okB B) (ho : out < 2 ^ 31) (j : JNX S B lo hi true em) (cl0 : ∀ gl gh, clo B out gl gh → ins B gl gh lo hi) : ∃ S' lo' hi' em', fX33_narrow_L11 N (nI out) N S 0 = some S' ∧ (∃ mv', JNX S' B lo' hi' mv' em') ∧ (∀ gl gh, clo B out gl gh → ins B gl gh lo' hi') ∧ (em' = true ∨ clo B out lo' hi') := by
  obtain ⟨t, e1, lo', hi', em', h1, h2, h3⟩ := loop_up (fun q st x => fX33_narrow_L11 N (nI out) q st x) 1201
    (fun p st => ∃ lo hi mv em, JNX st B lo hi mv em ∧ (∀ gl gh, clo B out gl gh → ins B gl gh lo hi) ∧ (mv = false → em = false → clo B out lo hi) ∧ (mv = true → em = false → (p : Int) + meas B lo hi ≤ 1200))
    (fun st => ∃ lo hi em, (∃ mv, JNX st B lo hi mv em) ∧ (∀ gl gh, clo B out gl gh → ins B gl gh lo hi) ∧ (em = true ∨ clo B out lo hi))
    (fun q st hI => by
      obtain ⟨lo, hi, mv, em, g1, g2, g3, g4⟩ := hI
      refine ⟨st, by
        show fX33_narrow_L11 N (nI out) (q + 1) st (nI 1201) = _
        rw [fX33_narrow_L11, if_pos (by decide)], lo, hi, em, ⟨mv, g1⟩, g2, ?_⟩
      cases em
      · right
        cases mv
        · exact g3 rfl rfl
        · have := g4 rfl rfl
          have := meas_nn (fun c hc tc => (g1.2.2.2.2.2.1 rfl c hc tc).1)
          omega
      · exact Or.inl rfl)
    (fun q p st hp hI => by
      obtain ⟨lo, hi, mv, em, g1, g2, g3, g4⟩ := hI
      show (∃ t, fX33_narrow_L11 N (nI out) (q + 1) st (nI p) = some t ∧ _) ∨ ∃ s', _ ∧ fX33_narrow_L11 N (nI out) (q + 1) st (nI p) = fX33_narrow_L11 N (nI out) q s' (nI (p + 1))
      rw [fX33_narrow_L11, if_neg (show ¬ (1201 : Int32) ≤ nI p from nI_ge hp (by decide)), g1.2.2.2.1, g1.2.2.2.2.1, if_bI0, if_bI0, nx_eq, nI_1]
      cases mv
      · left
        rw [if_neg (by decide)]
        refine ⟨st, rfl, lo, hi, em, ⟨false, g1⟩, g2, ?_⟩
        cases em
        · exact Or.inr (g3 rfl rfl)
        · exact Or.inl rfl
      · cases em
        rotate_left
        · left
          rw [if_pos rfl, if_pos rfl]
          exact ⟨st, rfl, lo, hi, true, ⟨true, g1⟩, g2, Or.inl rfl⟩
        right
        rw [if_pos rfl, if_neg (by decide)]
        have j1 : JNX (p1 st 33 5 0) B lo hi false false := by
          obtain ⟨a1, a2, a3, a4, a5, a6, a7⟩ := g1
          refine ⟨agX_BX (agr_of (fr_pf (A := []) (F := [(33, 5)]) (L := []) (by decide)) (by decide) (by decide) (by decide)) a1, fun c hc tc v hv => ?_, fun c hc tc => ?_, p1_eq, ?_, a6, a7⟩
          · rw [p1_ne (by decide)]; exact a2 c hc tc v hv
          · rw [p1_ne (by decide), p1_ne (by decide)]; exact a3 c hc tc
          · rw [p1_ni (by decide)]; exact a5
        obtain ⟨S1, l1, h1, m1, n1, k1, k2, k3, k4⟩ := X_sums (out := out) (N := N) (by omega) ok j1 ho (nI p)
        obtain ⟨S2, l2, h2, m2, n2, r1, r2, r3, r4⟩ := X_rules (out := out) (N := N) (by omega) ok k2
        have tt := Tr_trans k3 r3
        rw [k1, bs, r1, bs]
        refine ⟨S2, ⟨l2, h2, m2, n2, r2, fun gl gh g => tt.2.2.2.2.2 gl gh g (g2 gl gh g), fun m n => ?_, fun m n => ?_⟩, rfl⟩
        · subst m n
          have e1 := k3.2.2.2.1 (mvf r3 rfl)
          have e2 := r3.2.2.2.1 rfl
          have q1 := k4 (mvf r3 rfl) (emf r3 rfl)
          have q2 := r4 rfl rfl
          rw [← e2.1, ← e2.2] at q2
          rw [← e1.1, ← e1.2, ← e2.1, ← e2.2] at q1
          exact rul_clo ok r2 q2 q1
        · have w := g4 rfl rfl
          rcases tt.2.2.2.2.1 m with q | q
          · exact absurd q (by decide)
          · have := meas_lt tt.1 q
            omega)
    N 0 S (by omega) (by omega) ⟨lo, hi, true, em, j, cl0, fun q => absurd q (by decide), fun _ _ => by
      have := meas_b (B := B) (lo := lo) (hi := hi) (fun c hc tc => ⟨(j.2.2.1 c hc tc).2.2.1, (j.2.2.1 c hc tc).2.2.2.2.2⟩)
      omega⟩
  exact ⟨t, lo', hi', em', e1, h1, h2, h3⟩
theorem X_nothing {N : Nat} (hN : 201 < N) (S : St) : ∃ S', fX33_leaveNothing N S = some S' ∧ (∀ c, c < 12 → S'.1 35 c = 100 ∧ S'.1 36 c = -1) ∧ ∀ k q, k ≠ 35 → k ≠ 36 → S'.1 k q = S.1 k q := by
  obtain ⟨t, e1, h1, h2⟩ := loop_up (fun q st x => fX33_leaveNothing_L2 N q st x) 12
    (fun i st => (∀ c, c < i → st.1 35 c = 100 ∧ st.1 36 c = -1) ∧ ∀ k q, k ≠ 35 → k ≠ 36 → st.1 k q = S.1 k q)
    (fun st => (∀ c, c < 12 → st.1 35 c = 100 ∧ st.1 36 c = -1) ∧ ∀ k q, k ≠ 35 → k ≠ 36 → st.1 k q = S.1 k q)
    (fun q st hI => ⟨st, by
        show fX33_leaveNothing_L2 N (q + 1) st (nI 12) = _
        rw [fX33_leaveNothing_L2, if_pos (by decide)], hI⟩)
    (fun q i st hi12 hI => Or.inr ⟨p1 (p1 st 35 i 100) 36 i (-1), ⟨fun c hc => by
        by_cases e : c = i
        · subst e; rw [p1_ne (by decide), p1_eq, p1_eq]; exact ⟨rfl, rfl⟩
        · rw [p1_ni e, p1_ni e, p1_ni e, p1_ni e]; exact hI.1 c (by omega), fun k q a b => by
        rw [p1_ne b, p1_ne a]; exact hI.2 k q a b⟩, by
      show fX33_leaveNothing_L2 N (q + 1) st (nI i) = fX33_leaveNothing_L2 N q _ (nI (i + 1))
      rw [fX33_leaveNothing_L2, if_neg (show ¬ (12 : Int32) ≤ nI i from nI_ge hi12 (by decide)), inb_nI hi12 (by decide), gd_true, nx_eq, gd_true, nx_eq, cl (show i < 2 ^ 31 by omega), nI_1]⟩)
    N 0 S (by omega) (by omega) ⟨fun c hc => by omega, fun _ _ _ _ => rfl⟩
  refine ⟨t, ?_, h1, h2⟩
  unfold fX33_leaveNothing
  have e2 : fX33_leaveNothing_L2 N N S 0 = some t := e1
  rw [e2]; rfl
/-- the greatest closed box, or nothing -/
def best (B : Bk) (out : Nat) (lo hi : Nat → Int) : Prop := (clo B out lo hi ∧ ∀ gl gh, clo B out gl gh → ins B gl gh lo hi) ∨ ((∀ gl gh, ¬ clo B out gl gh) ∧ ∀ c, c < 12 → thr B c = true → lo c = 100 ∧ hi c = -1)
theorem X_narrow {N : Nat} (hN : 1300 < N) (ok : okB B) (ho : out < 2 ^ 31) (bx : BX S B) (fx : FNX S B) : ∃ S' lo hi, fX33_narrow N S (nI out) = some S' ∧ BX S' B ∧ FNX S' B ∧ ENX S' B lo hi ∧ best B out lo hi := by
  obtain ⟨S1, l1, h1, em1, e1, b1, f1, x1, w1, m1, n1, n2⟩ := X_widen (N := N) (by omega) bx fx
  have j1 : JNX (p1 S1 33 5 1) B l1 h1 true em1 := by
    refine ⟨agX_BX (agr_of (fr_pf (A := []) (F := [(33, 5)]) (L := []) (by decide)) (by decide) (by decide) (by decide)) b1, fun c hc tc v hv => ?_, fun c hc tc => ?_, p1_eq, ?_, fun e c hc tc => ?_, n2⟩
    · rw [p1_ne (by decide)]; exact f1 c hc tc v hv
    · rw [p1_ne (by decide), p1_ne (by decide)]; exact x1 c hc tc
    · rw [p1_ni (by decide)]; exact m1
    · have := n1 e c hc tc
      exact ⟨this, (w1 c hc tc).2.2.2.2.2 this⟩
  obtain ⟨S2, l2, h2, em2, e2, ⟨mv2, j2⟩, g2, g3⟩ := X_pass hN ok ho j1 (fun gl gh g c hc tc => by
    have k := g c hc tc
    have w := (w1 c hc tc).2.2.2.2.1
    exact ⟨(w (gl c) k.1 (by omega) k.2.2.2.1).1, (w (gh c) (by omega) k.2.2.1 k.2.2.2.2.1).2⟩)
  have ev : fX33_narrow N S (nI out) = Option.bind (if S2.1 33 6 = 0 then some S2 else fX33_leaveNothing N S2) fun t => some t := by
    unfold fX33_narrow
    rw [e1, bs, nx_eq, e2, bs]
    congr 1
    by_cases z : S2.1 33 6 = 0
    · rw [if_pos z, if_pos z]
    · rw [if_neg z, if_neg z]
      cases fX33_leaveNothing N S2 <;> rfl
  rw [ev, j2.2.2.2.2.1]
  cases em2
  · rw [if_pos bI_f, bs]
    refine ⟨S2, l2, h2, rfl, j2.1, j2.2.1, j2.2.2.1, Or.inl ⟨?_, g2⟩⟩
    rcases g3 with q | q
    · exact absurd q (by decide)
    · exact q
  · rw [if_neg (by decide)]
    obtain ⟨S3, e3, a1, a2⟩ := X_nothing (N := N) (by omega) S2
    rw [e3, bs]
    refine ⟨S3, fun _ => 100, fun _ => -1, rfl, agX_BX (agr_of (frX33_leaveNothing e3) (by decide) (by decide) (by decide)) j2.1, fun c hc tc v hv => ?_, fun c hc tc => ⟨(a1 c hc).1, (a1 c hc).2.trans (show (-1 : Int32) = iI (-1) by decide), show (0 : Int) ≤ 100 by decide, show (100 : Int) ≤ 100 by decide, show (-1 : Int) ≤ -1 by decide, show (-1 : Int) ≤ 99 by decide⟩, Or.inr ⟨fun gl gh g => ?_, fun _ _ _ => ⟨rfl, rfl⟩⟩⟩
    · rw [a2 34 _ (by decide) (by decide)]; exact j2.2.1 c hc tc v hv
    · obtain ⟨c, hc, tc, w⟩ := j2.2.2.2.2.2.2 rfl
      have := g2 gl gh g c hc tc
      have := g c hc tc
      omega
theorem X_narrowAll {N : Nat} (hN : 1300 < N) (ok : okB B) (bx : BX S B) : ∃ S' lo hi, fX0_narrowAll N S = some S' ∧ BX S' B ∧ FNX S' B ∧ ENX S' B lo hi ∧ best B 0 lo hi := by
  obtain ⟨S1, l1, h1, e1, b1, f1, _, _⟩ := X_look (N := N) (by omega) ok bx
  obtain ⟨S2, l2, h2, e2, b2, f2, x2, c2⟩ := X_narrow (out := 0) hN ok (by decide) b1 f1
  refine ⟨S2, l2, h2, ?_, b2, f2, x2, c2⟩
  unfold fX0_narrowAll
  have e2' : fX33_narrow N S1 0 = some S2 := e2
  rw [e1, bs, e2']; rfl
end OB
