/-! the class' narrowing: a pass -/
theorem sum_up (F : Nat → Int32 → Int32 → Option Int32) (e : Nat) (f : Nat → Int) (hx : ∀ n x, F (n + 1) x (nI e) = some x) (hs : ∀ n x i, i < e → F (n + 1) x (nI i) = F n (x + iI (f i)) (nI (i + 1))) : ∀ n i z, i ≤ e → e < i + n → F n (iI z) (nI i) = some (iI (z + (fb_si f e - fb_si f i)))
  | 0, i, k, h1, h2 => by omega
  | n + 1, i, z, h1, h2 => by
    by_cases he : i = e
    · subst he
      rw [hx]; congr 2; omega
    · rw [hs n _ i (by omega), iI_add, sum_up F e f hx hs n (i + 1) _ (by omega) (by omega), fb_si_succ]
      congr 2; omega
theorem sum_0 (F : Nat → Int32 → Int32 → Option Int32) (e : Nat) (f : Nat → Int) (hx : ∀ n x, F (n + 1) x (nI e) = some x) (hs : ∀ n x i, i < e → F (n + 1) x (nI i) = F n (x + iI (f i)) (nI (i + 1))) {N : Nat} (hN : e < N) (z : Int) : F N (iI z) 0 = some (iI (z + fb_si f e)) := by
  have := sum_up F e f hx hs N 0 z (by omega) (by omega)
  rw [show fb_si f e - fb_si f 0 = fb_si f e from Int.sub_zero _] at this
  exact this
def FNX (S : St) (B : Bk) : Prop := ∀ c, c < 12 → thr B c = true → ∀ v, v < 100 → S.1 34 (100 * c + v) = bI (alw B c v)
def ENX (S : St) (B : Bk) (lo hi : Nat → Int) : Prop := ∀ c, c < 12 → thr B c = true → S.1 35 c = iI (lo c) ∧ S.1 36 c = iI (hi c) ∧ 0 ≤ lo c ∧ lo c ≤ 100 ∧ -1 ≤ hi c ∧ hi c ≤ 99
def JNX (S : St) (B : Bk) (lo hi : Nat → Int) (mv em : Bool) : Prop := BX S B ∧ FNX S B ∧ ENX S B lo hi ∧ S.1 33 5 = bI mv ∧ S.1 33 6 = bI em ∧ (em = false → ∀ c, c < 12 → thr B c = true → lo c ≤ hi c ∧ alz B c (lo c) = true ∧ alz B c (hi c) = true) ∧ (em = true → ∃ c, c < 12 ∧ thr B c = true ∧ hi c < lo c)
def Tr (B : Bk) (out : Nat) (lo hi : Nat → Int) (mv em : Bool) (lo' hi' : Nat → Int) (mv' em' : Bool) : Prop := (∀ c, lo c ≤ lo' c ∧ hi' c ≤ hi c) ∧ (em = true → em' = true) ∧ (mv = true → mv' = true) ∧ (mv' = false → lo' = lo ∧ hi' = hi) ∧ (mv' = true → mv = true ∨ ∃ c, c < 12 ∧ thr B c = true ∧ (lo c < lo' c ∨ hi' c < hi c)) ∧ ∀ gl gh, clo B out gl gh → ins B gl gh lo hi → ins B gl gh lo' hi'
section O9
variable {S S' Y Y' : St} {B : Bk} {out : Nat} {lo hi lo' hi' lo'' hi'' : Nat → Int} {mv em mv' em' mv'' em'' : Bool}
theorem Tr_refl : Tr B out lo hi mv em lo hi mv em := ⟨fun c => ⟨Int.le_refl _, Int.le_refl _⟩, id, id, fun _ => ⟨rfl, rfl⟩, fun h => Or.inl h, fun _ _ _ h => h⟩
theorem Tr_trans (h1 : Tr B out lo hi mv em lo' hi' mv' em') (h2 : Tr B out lo' hi' mv' em' lo'' hi'' mv'' em'') : Tr B out lo hi mv em lo'' hi'' mv'' em'' := by
  refine ⟨fun c => ?_, fun h => h2.2.1 (h1.2.1 h), fun h => h2.2.2.1 (h1.2.2.1 h), fun h => ?_, fun h => ?_, fun gl gh g i => h2.2.2.2.2.2 gl gh g (h1.2.2.2.2.2 gl gh g i)⟩
  · have := h1.1 c
    have := h2.1 c
    omega
  · have e2 := h2.2.2.2.1 h
    have m' : mv' = false := by
      cases q : mv'
      · rfl
      · rw [h2.2.2.1 q] at h; exact absurd h (by decide)
    have e1 := h1.2.2.2.1 m'
    exact ⟨e2.1.trans e1.1, e2.2.trans e1.2⟩
  · rcases h2.2.2.2.2.1 h with q | ⟨c, hc, tc, q⟩
    · rcases h1.2.2.2.2.1 q with q | ⟨c, hc, tc, q⟩
      · exact Or.inl q
      · have := h2.1 c
        exact Or.inr ⟨c, hc, tc, by omega⟩
    · have := h1.1 c
      exact Or.inr ⟨c, hc, tc, by omega⟩
theorem mvf (h : Tr B out lo hi mv em lo' hi' mv' em') (m : mv' = false) : mv = false := by
  cases q : mv
  · rfl
  · rw [h.2.2.1 q] at m; exact absurd m (by decide)
theorem emf (h : Tr B out lo hi mv em lo' hi' mv' em') (m : em' = false) : em = false := by
  cases q : em
  · rfl
  · rw [h.2.1 q] at m; exact absurd m (by decide)
theorem X_keep {N : Nat} (hN : 201 < N) (j : JNX S B lo hi mv em) {c : Nat} (hc : c < 12) (tc : thr B c = true) {f t : Int} (f0 : -2147483648 ≤ f) (f1 : f < 2147483648) (t0 : -2147483648 ≤ t) (t1 : t < 2147483648) (snd : ∀ gl gh, clo B out gl gh → ins B gl gh lo hi → f ≤ gl c ∧ gh c ≤ t) : ∃ S' lo' hi' mv' em', fX33_keep N S (nI c) (iI f) (iI t) = some S' ∧ JNX S' B lo' hi' mv' em' ∧ Tr B out lo hi mv em lo' hi' mv' em' ∧ (∀ d, d ≠ c → lo' d = lo d ∧ hi' d = hi d) ∧ (em' = false → f ≤ lo' c ∧ hi' c ≤ t) := by
  obtain ⟨bx, fx, ex, m5, m6, jf, jt⟩ := j
  obtain ⟨el, eh, l0, l1, h0, h1⟩ := ex c hc tc
  obtain ⟨S', l', h', ev, e35, e36, e5, e6, eo, a1, a2, a3, a4, a5, a6⟩ := X_keep0 hN hc (fx c hc tc) el eh l0 l1 h0 h1 f0 f1 t0 t1
  have bx' : BX S' B := agX_BX (agr_of (frX33_keep ev) (by decide) (by decide) (by decide)) bx
  refine ⟨S', fun d => if d = c then l' else lo d, fun d => if d = c then h' else hi d, mv || !decide (l' = lo c ∧ h' = hi c), em || !decide (l' ≤ h'), ev, ⟨bx', fun d hd td v hv => ?_, fun d hd td => ?_, ?_, ?_, fun em0 d hd td => ?_, fun em1 => ?_⟩, ⟨fun d => ?_, fun q => by rw [q]; rfl, fun q => by rw [q]; rfl, fun q => ?_, fun q => ?_, fun gl gh g i d hd td => ?_⟩, fun d hd => ⟨if_neg hd, if_neg hd⟩, fun q => ?_⟩
  · rw [eo 34 _ (by omega) (by omega)]; exact fx d hd td v hv
  · show S'.1 35 d = iI (if d = c then l' else lo d) ∧ S'.1 36 d = iI (if d = c then h' else hi d) ∧ 0 ≤ (if d = c then l' else lo d) ∧ (if d = c then l' else lo d) ≤ 100 ∧ -1 ≤ (if d = c then h' else hi d) ∧ (if d = c then h' else hi d) ≤ 99
    by_cases e : d = c
    · subst e
      rw [if_pos rfl, if_pos rfl]
      exact ⟨e35, e36, by omega, a2, a3, by omega⟩
    · rw [if_neg e, if_neg e, eo 35 d (by omega) (by omega), eo 36 d (by omega) (by omega)]
      exact ex d hd td
  · rw [e5, m5]
    by_cases q : l' = lo c ∧ h' = hi c
    · rw [if_pos q, decide_eq_true q]; cases mv <;> rfl
    · rw [if_neg q, decide_eq_false q]; cases mv <;> rfl
  · rw [e6, m6]
    by_cases q : l' ≤ h'
    · rw [if_pos q, decide_eq_true q]; cases em <;> rfl
    · rw [if_neg q, decide_eq_false q]; cases em <;> rfl
  · have q : em = false ∧ l' ≤ h' := by simpa using em0
    show (if d = c then l' else lo d) ≤ (if d = c then h' else hi d) ∧ alz B d (if d = c then l' else lo d) = true ∧ alz B d (if d = c then h' else hi d) = true
    by_cases e : d = c
    · subst e
      rw [if_pos rfl, if_pos rfl]
      exact ⟨q.2, (a6 q.2).2.2⟩
    · rw [if_neg e, if_neg e]
      exact jf q.1 d hd td
  · have q : em = true ∨ h' < l' := by simpa using em1
    rcases q with q | q
    · obtain ⟨d, hd, td, hl⟩ := jt q
      refine ⟨d, hd, td, ?_⟩
      show (if d = c then h' else hi d) < (if d = c then l' else lo d)
      by_cases e : d = c
      · subst e
        rw [if_pos rfl, if_pos rfl]; omega
      · rw [if_neg e, if_neg e]; exact hl
    · refine ⟨c, hc, tc, ?_⟩
      show (if c = c then h' else hi c) < (if c = c then l' else lo c)
      rw [if_pos rfl, if_pos rfl]; exact q
  · show lo d ≤ (if d = c then l' else lo d) ∧ (if d = c then h' else hi d) ≤ hi d
    by_cases e : d = c
    · subst e
      rw [if_pos rfl, if_pos rfl]; omega
    · rw [if_neg e, if_neg e]; omega
  · have q : mv = false ∧ l' = lo c ∧ h' = hi c := by simpa using q
    refine ⟨funext fun d => ?_, funext fun d => ?_⟩
    · by_cases e : d = c
      · subst e; simp [q.2.1]
      · simp [e]
    · by_cases e : d = c
      · subst e; simp [q.2.2]
      · simp [e]
  · by_cases m : mv = true
    · exact Or.inl m
    · right
      refine ⟨c, hc, tc, ?_⟩
      have q2 : ¬ (l' = lo c ∧ h' = hi c) := by
        intro w
        rw [decide_eq_true w] at q
        cases mv
        · exact absurd q (by decide)
        · exact m rfl
      show lo c < (if c = c then l' else lo c) ∨ (if c = c then h' else hi c) < hi c
      rw [if_pos rfl, if_pos rfl]; omega
  · have w := i d hd td
    show (if d = c then l' else lo d) ≤ gl d ∧ gh d ≤ (if d = c then h' else hi d)
    by_cases e : d = c
    · subst e
      rw [if_pos rfl, if_pos rfl]
      have k := g d hd td
      have s := snd gl gh g i
      exact ⟨(a5 (gl d) w.1 (by omega) s.1 (by omega) k.2.2.2.1).1, (a5 (gh d) (by omega) w.2 (by omega) s.2 k.2.2.2.2.1).2⟩
    · rw [if_neg e, if_neg e]; exact w
  · have q : em = false ∧ l' ≤ h' := by simpa using q
    show f ≤ (if c = c then l' else lo c) ∧ (if c = c then h' else hi c) ≤ t
    rw [if_pos rfl, if_pos rfl]
    exact ⟨(a6 q.2).1, (a6 q.2).2.1⟩
theorem dis {s c : Nat} (ok : okB B) (hs : s < sn B) : ¬ (pb B s c = true ∧ lb B s c = true) := by
  intro ⟨h1, h2⟩
  have := (ok.2.2.2.2 s hs).2.2.1
  have e : (sp B s &&& sl B s).testBit c = true := by rw [Nat.testBit_and, show (sp B s).testBit c = true from h1, show (sl B s).testBit c = true from h2]; rfl
  rw [this] at e
  simp at e
def sg (B : Bk) (s c : Nat) : Int32 := if thr B c = true then (if pb B s c = true then 1 else if lb B s c = true then -1 else 0) else 0
theorem X_sign (ok : okB B) (bx : BX S B) {s c : Nat} (hs : s < sn B) (hc : c < 12) : fX29_signOf S (nI s) (nI c) = some (sg B s c) := by
  have h8 := ok.2.2.2.1
  have hb := ok.2.2.2.2 s hs
  have e1 := bx.2.2.2.2.2.2 s hs
  have dj := dis (c := c) ok hs
  unfold fX29_signOf sg
  rw [X_there bx hc, bs, inb_nI (show s < 8 by omega) (by decide), gd_true, gd_true, cl (show s < 2 ^ 31 by omega), e1.1, e1.2.1, shb (show sp B s < 2 ^ 31 by omega) (by omega), shb (show sl B s < 2 ^ 31 by omega) (by omega), if_bI0]
  cases t : thr B c
  · rfl
  · rw [if_pos rfl, if_pos rfl]
    revert dj
    unfold pb lb
    cases (sp B s).testBit c <;> cases (sl B s).testBit c <;> intro dj
    · rfl
    · rfl
    · rfl
    · exact absurd ⟨rfl, rfl⟩ dj
theorem sg_cases (s c : Nat) : (thr B c = true ∧ pb B s c = true ∧ sg B s c = 1) ∨ (thr B c = true ∧ pb B s c = false ∧ lb B s c = true ∧ sg B s c = -1) ∨ (sg B s c = 0 ∧ ∀ a b, tl B s a b c = 0) := by
  unfold sg tl
  cases thr B c
  · simp
  · cases pb B s c <;> cases lb B s c <;> simp
theorem X_least {N : Nat} (hN : 12 < N) (ok : okB B) (bx : BX S B) (ex : ENX S B lo hi) {s : Nat} (hs : s < sn B) : fX33_leastOfSum N S (nI s) = some (iI (mkA B s lo hi)) := by
  unfold fX33_leastOfSum
  have e := sum_0 (fun q x y => fX33_leastOfSum_L4 N S (nI s) q x y) 12 (tl B s lo hi) (fun n x => by
    show fX33_leastOfSum_L4 N S (nI s) (n + 1) x (nI 12) = _
    rw [fX33_leastOfSum_L4, if_pos (by decide)]) (fun n x i hi' => by
    show fX33_leastOfSum_L4 N S (nI s) (n + 1) x (nI i) = fX33_leastOfSum_L4 N S (nI s) n _ (nI (i + 1))
    rw [fX33_leastOfSum_L4, if_neg (show ¬ (12 : Int32) ≤ nI i from nI_ge hi' (by decide)), X_sign ok bx hs hi', bs, inb_nI hi' (by decide), gd_true, gd_true, cl (show i < 2 ^ 31 by omega), nI_1]
    rcases sg_cases (B := B) s i with ⟨t, p, q⟩ | ⟨t, p, l, q⟩ | ⟨q, z⟩
    · rw [q, if_neg (by decide), bs, (ex i hi' t).1]
      simp only [tl, t, p, if_true]
    · rw [q, if_pos (by decide), if_neg (by decide), bs, (ex i hi' t).2.1, iI_neg]
      simp only [tl, t, p, l, if_true, Bool.false_eq_true, if_false]
    · rw [q, if_pos (by decide), if_pos (by decide), bs, z]; rfl) hN 0
  have e2 : fX33_leastOfSum_L4 N S (nI s) N 0 0 = some (iI (0 + mkA B s lo hi)) := e
  rw [e2, bs, Int.zero_add]
theorem X_most {N : Nat} (hN : 12 < N) (ok : okB B) (bx : BX S B) (ex : ENX S B lo hi) {s : Nat} (hs : s < sn B) : fX33_greatestOfSum N S (nI s) = some (iI (mkA B s hi lo)) := by
  unfold fX33_greatestOfSum
  have e := sum_0 (fun q x y => fX33_greatestOfSum_L4 N S (nI s) q x y) 12 (tl B s hi lo) (fun n x => by
    show fX33_greatestOfSum_L4 N S (nI s) (n + 1) x (nI 12) = _
    rw [fX33_greatestOfSum_L4, if_pos (by decide)]) (fun n x i hi' => by
    show fX33_greatestOfSum_L4 N S (nI s) (n + 1) x (nI i) = fX33_greatestOfSum_L4 N S (nI s) n _ (nI (i + 1))
    rw [fX33_greatestOfSum_L4, if_neg (show ¬ (12 : Int32) ≤ nI i from nI_ge hi' (by decide)), X_sign ok bx hs hi', bs, inb_nI hi' (by decide), gd_true, gd_true, cl (show i < 2 ^ 31 by omega), nI_1]
    rcases sg_cases (B := B) s i with ⟨t, p, q⟩ | ⟨t, p, l, q⟩ | ⟨q, z⟩
    · rw [q, if_neg (by decide), bs, (ex i hi' t).2.1]
      simp only [tl, t, p, if_true]
    · rw [q, if_pos (by decide), if_neg (by decide), bs, (ex i hi' t).1, iI_neg]
      simp only [tl, t, p, l, if_true, Bool.false_eq_true, if_false]
    · rw [q, if_pos (by decide), if_pos (by decide), bs, z]; rfl) hN 0
  have e2 : fX33_greatestOfSum_L4 N S (nI s) N 0 0 = some (iI (0 + mkA B s hi lo)) := e
  rw [e2, bs, Int.zero_add]
theorem mkA_b {s : Nat} {a b : Nat → Int} (h : ∀ c, c < 12 → thr B c = true → -100 ≤ a c ∧ a c ≤ 100 ∧ -100 ≤ b c ∧ b c ≤ 100) : -1200 ≤ mkA B s a b ∧ mkA B s a b ≤ 1200 := by
  have := fb_si_bound (f := tl B s a b) (c := 100) (by decide) (n := 12) (fun k hk => by
    unfold tl
    by_cases t : thr B k = true
    · have := h k hk t
      rw [if_pos t]
      by_cases p : pb B s k = true
      · rw [if_pos p]; omega
      · rw [if_neg p]
        by_cases l : lb B s k = true
        · rw [if_pos l]; omega
        · rw [if_neg l]; omega
    · rw [if_neg t]; omega)
  unfold mkA
  omega
theorem mkW_e {s c : Nat} {a b : Nat → Int} (hc : c < 12) : mkW B s c a b = mkA B s a b - tl B s a b c := by
  unfold mkW mkA
  rw [fb_si_upd (tl B s a b) 0 hc]
  omega
theorem cs_p {s c : Nat} {v : Int} (hc : c < 12) (t : thr B c = true) (p : pb B s c = true) : cs B s lo hi c v ↔ (tt B s - mkA B s hi lo) + hi c ≤ v ∧ v ≤ (tt B s - mkA B s lo hi) + lo c := by
  unfold cs
  rw [mkW_e hc, mkW_e hc, if_pos p]
  simp only [tl, t, p, if_true]
  omega
theorem cs_l {s c : Nat} {v : Int} (hc : c < 12) (t : thr B c = true) (p : pb B s c = false) (l : lb B s c = true) : cs B s lo hi c v ↔ hi c - (tt B s - mkA B s lo hi) ≤ v ∧ v ≤ lo c - (tt B s - mkA B s hi lo) := by
  unfold cs
  rw [mkW_e hc, mkW_e hc, if_neg (by rw [p]; decide)]
  simp only [tl, t, p, l, if_true, Bool.false_eq_true, if_false]
  omega
theorem EX_b (ex : ENX S B lo hi) : ∀ c, c < 12 → thr B c = true → -100 ≤ lo c ∧ lo c ≤ 100 ∧ -100 ≤ hi c ∧ hi c ≤ 100 := fun c hc t => by
  have := ex c hc t
  omega
theorem EX_b' (ex : ENX S B lo hi) : ∀ c, c < 12 → thr B c = true → -100 ≤ hi c ∧ hi c ≤ 100 ∧ -100 ≤ lo c ∧ lo c ≤ 100 := fun c hc t => by
  have := ex c hc t
  omega
/-- out of a closed box within: what can stand there -/
theorem clo_can (ok : okB B) {gl gh : Nat → Int} (g : clo B out gl gh) (i : ins B gl gh lo hi) (h0 : ∀ c, c < 12 → thr B c = true → 0 ≤ lo c) {c : Nat} (hc : c < 12) (tc : thr B c = true) : canP B out lo hi c (gl c) ∧ canP B out lo hi c (gh c) := by
  have k := g c hc tc
  have q : ∀ d, d < 12 → thr B d = true → 0 ≤ lo d ∧ gl d ≤ gh d := fun d hd td => ⟨h0 d hd td, (g d hd td).2.1⟩
  exact ⟨canP_mono (clo_nm g) i q ok hc k.1 k.2.2.2.2.2.1, canP_mono (clo_nm g) i q ok hc (by omega) k.2.2.2.2.2.2⟩
def csB (B : Bk) (s : Nat) (lo hi : Nat → Int) (n : Nat) : Prop := ∀ d, d < n → thr B d = true → (pb B s d || lb B s d) = true → cs B s lo hi d (lo d) ∧ cs B s lo hi d (hi d)
theorem X_bySum {N : Nat} (hN : 201 < N) (ok : okB B) (j : JNX S B lo hi mv em) {s : Nat} (hs : s < sn B) (ho : out.testBit s = false) : ∃ S' lo' hi' mv' em', fX33_narrowBySum N S (nI s) = some S' ∧ JNX S' B lo' hi' mv' em' ∧ Tr B out lo hi mv em lo' hi' mv' em' ∧ (mv' = false → em' = false → csB B s lo hi 12) := by
  have ex0 := j.2.2.1
  have b1 := mkA_b (s := s) (EX_b ex0)
  have b2 := mkA_b (s := s) (EX_b' ex0)
  have b3 := ok.2.2.2.2 s hs
  have h8 := ok.2.2.2.1
  have tot : fX29_totalOf S (nI s) = some (iI (tt B s)) := by
    rw [fX29_totalOf, inb_nI (show s < 8 by omega) (by decide), gd_true, cl (by omega), (j.1.2.2.2.2.2.2 s hs).2.2]
  obtain ⟨t, e1, lo', hi', mv', em', h1, h2, h3⟩ := loop_up (fun q st x => fX33_narrowBySum_L33 N (nI s) (iI (tt B s - mkA B s lo hi)) (iI (tt B s - mkA B s hi lo)) q st x) 12
    (fun i st => ∃ lo' hi' mv' em', JNX st B lo' hi' mv' em' ∧ Tr B out lo hi mv em lo' hi' mv' em' ∧ (∀ d, i ≤ d → lo' d = lo d ∧ hi' d = hi d) ∧ (mv' = false → em' = false → csB B s lo hi i))
    (fun st => ∃ lo' hi' mv' em', JNX st B lo' hi' mv' em' ∧ Tr B out lo hi mv em lo' hi' mv' em' ∧ (mv' = false → em' = false → csB B s lo hi 12))
    (fun q st hI => by
      obtain ⟨lo', hi', mv', em', h1, h2, h3, h4⟩ := hI
      exact ⟨st, by
        show fX33_narrowBySum_L33 N (nI s) _ _ (q + 1) st (nI 12) = _
        rw [fX33_narrowBySum_L33, if_pos (by decide)], lo', hi', mv', em', h1, h2, h4⟩)
    (fun q i st hi' hI => by
      obtain ⟨lo', hi'', mv', em', h1, h2, h3, h4⟩ := hI
      show (∃ t, fX33_narrowBySum_L33 N (nI s) _ _ (q + 1) st (nI i) = some t ∧ _) ∨ ∃ s', _ ∧ fX33_narrowBySum_L33 N (nI s) _ _ (q + 1) st (nI i) = fX33_narrowBySum_L33 N (nI s) _ _ q s' (nI (i + 1))
      have ec : Int32.toNatClampNeg (nI i) = i := cl (by omega)
      cases ee : em'
      rotate_left
      · left
        refine ⟨st, ?_, lo', hi'', mv', em', h1, h2, fun _ q => by rw [ee] at q; exact absurd q (by decide)⟩
        rw [fX33_narrowBySum_L33, if_neg (show ¬ (12 : Int32) ≤ nI i from nI_ge hi' (by decide)), h1.2.2.2.2.1, ee, if_neg (by decide)]
      right
      have ev : fX33_narrowBySum_L33 N (nI s) (iI (tt B s - mkA B s lo hi)) (iI (tt B s - mkA B s hi lo)) (q + 1) st (nI i) = Option.bind (if sg B s i ≤ 0 then (if 0 ≤ sg B s i then some st else (fX33_keep N st (nI i) (st.1 36 i - iI (tt B s - mkA B s lo hi)) (st.1 35 i - iI (tt B s - mkA B s hi lo)))) else (fX33_keep N st (nI i) (iI (tt B s - mkA B s hi lo) + st.1 36 i) (iI (tt B s - mkA B s lo hi) + st.1 35 i))) fun t20 => fX33_narrowBySum_L33 N (nI s) (iI (tt B s - mkA B s lo hi)) (iI (tt B s - mkA B s hi lo)) q t20 (nI (i + 1)) := by
        rw [fX33_narrowBySum_L33, if_neg (show ¬ (12 : Int32) ≤ nI i from nI_ge hi' (by decide)), h1.2.2.2.2.1, ee, if_pos bI_f, inb_nI hi' (by decide), gd_true, nx_eq, gd_true, nx_eq, ec, X_sign ok h1.1 hs hi', bs, bs, nI_1]
        congr 1
        by_cases z1 : sg B s i ≤ 0
        · rw [if_pos z1, if_pos z1]
          by_cases z2 : 0 ≤ sg B s i
          · rw [if_pos z2, if_pos z2]
          · rw [if_neg z2, if_neg z2]
            cases fX33_keep N st (nI i) (st.1 36 i - iI (tt B s - mkA B s lo hi)) (st.1 35 i - iI (tt B s - mkA B s hi lo)) <;> rfl
        · rw [if_neg z1, if_neg z1]
          cases fX33_keep N st (nI i) (iI (tt B s - mkA B s hi lo) + st.1 36 i) (iI (tt B s - mkA B s lo hi) + st.1 35 i) <;> rfl
      rw [ev]
      have e3 := h3 i (Nat.le_refl i)
      rcases sg_cases (B := B) s i with ⟨t, p, z⟩ | ⟨t, p, l, z⟩ | ⟨z, z0⟩
      · have x := h1.2.2.1 i hi' t
        have x0 := ex0 i hi' t
        obtain ⟨S', l2, h2', m2, n2, k1, k2, k3, k4, k5⟩ := X_keep (out := out) hN h1 hi' t (f := (tt B s - mkA B s hi lo) + hi i) (t := (tt B s - mkA B s lo hi) + lo i) (by omega) (by omega) (by omega) (by omega) (fun gl gh g ii => by
          have i0 : ins B gl gh lo hi := fun d hd td => by
            have := ii d hd td
            have := h2.1 d
            omega
          have cc := clo_can ok g i0 (fun d hd td => (ex0 d hd td).2.2.1) hi' t
          have c1 := (cs_p hi' t p).mp (cc.1.1 s hs ho (by rw [p]; rfl))
          have c2 := (cs_p hi' t p).mp (cc.2.1 s hs ho (by rw [p]; rfl))
          omega)
        rw [z, if_neg (by decide), x.1, x.2.1, e3.1, e3.2, iI_add, iI_add, k1]
        refine ⟨S', ⟨l2, h2', m2, n2, k2, Tr_trans h2 k3, fun d hd => ?_, fun m n d hd td tb => ?_⟩, rfl⟩
        · rw [(k4 d (by omega)).1, (k4 d (by omega)).2]
          exact h3 d (by omega)
        · by_cases ed : d = i
          · subst ed
            have q1 := k5 n
            have q2 := k3.2.2.2.1 m
            rw [q2.1, q2.2, e3.1, e3.2] at q1
            rw [cs_p hi' t p, cs_p hi' t p]
            have := h1.2.2.2.2.2.1 (by rw [ee]) d hi' t
            omega
          · exact h4 (mvf k3 m) (emf k3 n) d (by omega) td tb
      · have x := h1.2.2.1 i hi' t
        have x0 := ex0 i hi' t
        obtain ⟨S', l2, h2', m2, n2, k1, k2, k3, k4, k5⟩ := X_keep (out := out) hN h1 hi' t (f := hi i - (tt B s - mkA B s lo hi)) (t := lo i - (tt B s - mkA B s hi lo)) (by omega) (by omega) (by omega) (by omega) (fun gl gh g ii => by
          have i0 : ins B gl gh lo hi := fun d hd td => by
            have := ii d hd td
            have := h2.1 d
            omega
          have cc := clo_can ok g i0 (fun d hd td => (ex0 d hd td).2.2.1) hi' t
          have c1 := (cs_l hi' t p l).mp (cc.1.1 s hs ho (by rw [l]; simp))
          have c2 := (cs_l hi' t p l).mp (cc.2.1 s hs ho (by rw [l]; simp))
          omega)
        rw [z, if_pos (by decide), if_neg (by decide), x.1, x.2.1, e3.1, e3.2, iI_sub, iI_sub, k1]
        refine ⟨S', ⟨l2, h2', m2, n2, k2, Tr_trans h2 k3, fun d hd => ?_, fun m n d hd td tb => ?_⟩, rfl⟩
        · rw [(k4 d (by omega)).1, (k4 d (by omega)).2]
          exact h3 d (by omega)
        · by_cases ed : d = i
          · subst ed
            have q1 := k5 n
            have q2 := k3.2.2.2.1 m
            rw [q2.1, q2.2, e3.1, e3.2] at q1
            rw [cs_l hi' t p l, cs_l hi' t p l]
            have := h1.2.2.2.2.2.1 (by rw [ee]) d hi' t
            omega
          · exact h4 (mvf k3 m) (emf k3 n) d (by omega) td tb
      · rw [z, if_pos (by decide), if_pos (by decide), bs]
        refine ⟨st, ⟨lo', hi'', mv', em', h1, h2, fun d hd => h3 d (by omega), fun m n d hd td tb => ?_⟩, rfl⟩
        by_cases ed : d = i
        · subst ed
          unfold sg at z
          rw [if_pos td] at z
          revert z tb
          cases pb B s d <;> cases lb B s d <;> simp
        · exact h4 m n d (by omega) td tb)
    N 0 S (by omega) (by omega) ⟨lo, hi, mv, em, j, Tr_refl, fun d _ => ⟨rfl, rfl⟩, fun _ _ d hd => by omega⟩
  refine ⟨t, lo', hi', mv', em', ?_, h1, h2, h3⟩
  unfold fX33_narrowBySum
  rw [tot, bs, X_least (by omega) ok j.1 ex0 hs, bs, bs, X_most (by omega) ok j.1 ex0 hs, bs, iI_sub, iI_sub]
  have e2 : fX33_narrowBySum_L33 N (nI s) (iI (tt B s - mkA B s lo hi)) (iI (tt B s - mkA B s hi lo)) N S 0 = some t := e1
  rw [e2]; rfl
end O9
