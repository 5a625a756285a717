/-! burnt -/
section OH
variable {S S' Y Y' : St} {B : Bk} {out : Nat} {lo hi lo' hi' : Nat → Int} {L L' : Nat → Nat → Bool}
/-- a sum can come out by the ends at first -/
def bnP (B : Bk) (lo hi : Nat → Int) (s : Nat) : Prop := (∀ c, c < 12 → thr B c = true → (pb B s c || lb B s c) = true → lo c ≤ hi c) ∧ mkA B s lo hi ≤ tt B s ∧ tt B s ≤ mkA B s hi lo
theorem sg_0 {s c : Nat} : sg B s c = 0 ↔ ¬ (thr B c = true ∧ (pb B s c || lb B s c) = true) := by
  unfold sg
  cases thr B c <;> cases pb B s c <;> cases lb B s c <;> simp
theorem X_canCome {N : Nat} (hN : 12 < N) (ok : okB B) (bx : BX S B) (ex : ENX S B lo hi) {s : Nat} (hs : s < sn B) : ∃ r, fX33_canComeOut N S (nI s) = some (bI r) ∧ (r = true ↔ bnP B lo hi s) := by
  have h8 := ok.2.2.2.1
  obtain ⟨t, e1, h1⟩ := loop_up (fun q (_ : Unit) x => fX33_canComeOut_L2 N S (nI s) q x) 12
    (fun i _ => ∀ c, c < i → thr B c = true → (pb B s c || lb B s c) = true → lo c ≤ hi c)
    (fun t => (t = .inl 0 ∧ ¬ ∀ c, c < 12 → thr B c = true → (pb B s c || lb B s c) = true → lo c ≤ hi c) ∨ (t = .inr () ∧ ∀ c, c < 12 → thr B c = true → (pb B s c || lb B s c) = true → lo c ≤ hi c))
    (fun q _ hI => ⟨.inr (), by
      show fX33_canComeOut_L2 N S (nI s) (q + 1) (nI 12) = _
      rw [fX33_canComeOut_L2, if_pos (by decide)], Or.inr ⟨rfl, hI⟩⟩)
    (fun q i _ hi12 hI => by
      show (∃ t, fX33_canComeOut_L2 N S (nI s) (q + 1) (nI i) = some t ∧ _) ∨ ∃ s' : Unit, _ ∧ fX33_canComeOut_L2 N S (nI s) (q + 1) (nI i) = fX33_canComeOut_L2 N S (nI s) q (nI (i + 1))
      rw [fX33_canComeOut_L2, if_neg (show ¬ (12 : Int32) ≤ nI i from nI_ge hi12 (by decide)), X_sign ok bx hs hi12, bs, nI_1]
      by_cases z : sg B s i = 0
      · right
        rw [if_pos z]
        refine ⟨(), fun c hc tc pc => ?_, rfl⟩
        by_cases e : c = i
        · subst e; exact absurd ⟨tc, pc⟩ (sg_0.mp z)
        · exact hI c (by omega) tc pc
      rw [if_neg z]
      have z2 : thr B i = true ∧ (pb B s i || lb B s i) = true := Decidable.byContradiction (fun w => z (sg_0.mpr w))
      have x := ex i hi12 z2.1
      have lt : (iI (hi i) < iI (lo i)) ↔ hi i < lo i := iI_lt (by omega) (by omega) (by omega) (by omega)
      rw [fX33_hasAny, inb_nI hi12 (by decide), gd_true, gd_true, cl (show i < 2 ^ 31 by omega), x.1, x.2.1]
      by_cases w : hi i < lo i
      · left
        rw [if_pos (lt.mpr w), bs, isb0, gd_true, bs, if_pos rfl]
        exact ⟨_, rfl, Or.inl ⟨rfl, fun q => by have := q i hi12 z2.1 z2.2; omega⟩⟩
      · right
        rw [if_neg (fun q => w (lt.mp q)), bs, isb1, gd_true, bs, if_neg ne10]
        refine ⟨(), fun c hc tc pc => ?_, rfl⟩
        by_cases e : c = i
        · subst e; omega
        · exact hI c (by omega) tc pc)
    N 0 () (by omega) (by omega) (fun c hc => by omega)
  have e2 : fX33_canComeOut_L2 N S (nI s) N 0 = some t := e1
  have b1 := mkA_b (s := s) (EX_b ex)
  have b2 := mkA_b (s := s) (EX_b' ex)
  have b3 := ok.2.2.2.2 s hs
  have tot : fX29_totalOf S (nI s) = some (iI (tt B s)) := by
    rw [fX29_totalOf, inb_nI (show s < 8 by omega) (by decide), gd_true, cl (by omega), (bx.2.2.2.2.2.2 s hs).2.2]
  unfold fX33_canComeOut
  rw [e2, bs]
  rcases h1 with ⟨rfl, h1⟩ | ⟨rfl, h1⟩
  · exact ⟨false, rfl, fun q => absurd q (by decide), fun q => absurd q.1 h1⟩
  · have l1 : (iI (tt B s) < iI (mkA B s lo hi)) ↔ tt B s < mkA B s lo hi := iI_lt (by omega) (by omega) (by omega) (by omega)
    have l2 : (iI (mkA B s hi lo) < iI (tt B s)) ↔ mkA B s hi lo < tt B s := iI_lt (by omega) (by omega) (by omega) (by omega)
    show ∃ r, (Option.bind (fX33_leastOfSum N S (nI s)) fun t11 => _) = _ ∧ _
    rw [X_least hN ok bx ex hs, bs, tot, bs, bs, X_most hN ok bx ex hs, bs]
    by_cases w1 : tt B s < mkA B s lo hi
    · rw [if_pos (l1.mpr w1)]
      exact ⟨false, rfl, fun q => absurd q (by decide), fun q => by have := q.2.1; omega⟩
    rw [if_neg (fun q => w1 (l1.mp q))]
    by_cases w2 : mkA B s hi lo < tt B s
    · rw [if_pos (l2.mpr w2)]
      exact ⟨false, rfl, fun q => absurd q (by decide), fun q => by have := q.2.2; omega⟩
    rw [if_neg (fun q => w2 (l2.mp q))]
    exact ⟨true, rfl, fun _ => ⟨h1, by omega, by omega⟩, fun _ => rfl⟩
theorem Y_b42 {N : Nat} (hN : 12 < N) (ok : okB B) (bY : BY Y B) (oy : ONY Y B L lo hi 12) {s : Nat} (hs : s < sn B) (r0 : Bool) : ∃ r, fY0_burnt_L42 N Y (nI s) N (bI r0) 0 = some (bI r) ∧ (r = true ↔ r0 = true ∧ ∀ c, c < 12 → thr B c = true → (pb B s c || lb B s c) = true → 0 ≤ hi c) := by
  have h8 := ok.2.2.2.1
  obtain ⟨t, e1, r, e2, h1⟩ := loop_up (fun q (x : Int32) y => fY0_burnt_L42 N Y (nI s) q x y) 12
    (fun i x => ∃ r, x = bI r ∧ (r = true ↔ r0 = true ∧ ∀ c, c < i → thr B c = true → (pb B s c || lb B s c) = true → 0 ≤ hi c))
    (fun x => ∃ r, x = bI r ∧ (r = true ↔ r0 = true ∧ ∀ c, c < 12 → thr B c = true → (pb B s c || lb B s c) = true → 0 ≤ hi c))
    (fun q x hI => ⟨x, by
      show fY0_burnt_L42 N Y (nI s) (q + 1) x (nI 12) = _
      rw [fY0_burnt_L42, if_pos (by decide)], hI⟩)
    (fun q i x hi12 hI => by
      obtain ⟨r, rfl, h2⟩ := hI
      right
      show ∃ s' : Int32, _ ∧ fY0_burnt_L42 N Y (nI s) (q + 1) (bI r) (nI i) = fY0_burnt_L42 N Y (nI s) q s' (nI (i + 1))
      rw [fY0_burnt_L42, if_neg (show ¬ (12 : Int32) ≤ nI i from nI_ge hi12 (by decide)), nI_1, if_bI0]
      cases r
      · rw [if_neg (by decide), bs]
        refine ⟨_, ⟨false, rfl, fun q => absurd q (by decide), fun q => h2.mpr ⟨q.1, fun c hc => q.2 c (by omega)⟩⟩, rfl⟩
      have h2' := h2.mp rfl
      rw [if_pos rfl, inb_nI (show s < 8 by omega) (by decide), gd_true, gd_true, cl (show s < 2 ^ 31 by omega), (Y_bits ok bY hs hi12).2.2, bs, if_bI0]
      have fin : ∀ b : Bool, (b = true ↔ (thr B i = true → (pb B s i || lb B s i) = true → 0 ≤ hi i)) → (b = true ↔ r0 = true ∧ ∀ c, c < i + 1 → thr B c = true → (pb B s c || lb B s c) = true → 0 ≤ hi c) := fun b hb => ⟨fun q => ⟨h2'.1, fun t ht => by
          by_cases e : t = i
          · subst e; exact hb.mp q
          · exact h2'.2 t (by omega)⟩, fun q => hb.mpr (q.2 i (by omega))⟩
      cases pl : (pb B s i || lb B s i)
      · rw [if_neg (by decide), bs]
        exact ⟨_, ⟨true, rfl, fin true ⟨fun _ _ q => by rw [pl] at q; exact absurd q (by decide), fun _ => rfl⟩⟩, rfl⟩
      rw [if_pos rfl, Y_there bY hi12, bs, if_bI0]
      cases ti : thr B i
      · rw [if_neg (by decide), bs]
        exact ⟨_, ⟨true, rfl, fin true ⟨fun _ q => by rw [ti] at q; exact absurd q (by decide), fun _ => rfl⟩⟩, rfl⟩
      have o := (oy i hi12).1 ti
      have b := eOf_b o.2.2
      have lt : (iI (hi i) < 0) ↔ hi i < 0 := iI_lt (b := 0) (by omega) (by omega) (by omega) (by omega)
      rw [if_pos rfl, inb_nI hi12 (by decide), gd_true, cl (show i < 2 ^ 31 by omega), o.2.1]
      by_cases w : hi i < 0
      · rw [if_pos (lt.mpr w), bs]
        exact ⟨_, ⟨false, rfl, fin false ⟨fun q => absurd q (by decide), fun q => by have := q ti pl; omega⟩⟩, rfl⟩
      · rw [if_neg (fun q => w (lt.mp q)), bs]
        exact ⟨_, ⟨true, rfl, fin true ⟨fun _ _ _ => by omega, fun _ => rfl⟩⟩, rfl⟩)
    N 0 (bI r0) (by omega) (by omega) ⟨r0, rfl, fun h => ⟨h, fun s hs => by omega⟩, fun h => h.1⟩
  subst e2
  exact ⟨r, e1, h1⟩
/-- the ends at first, as both have them -/
theorem fen_e {c : Nat} (tc : thr B c = true) (f : fen B lo hi c) (e : eOf (fun v => thr B c && alw B c v) (lo' c) (hi' c)) : (lo c ≤ hi c ↔ 0 ≤ hi' c) ∧ (lo c ≤ hi c → lo c = lo' c ∧ hi c = hi' c) := by
  obtain ⟨f1, f2, f3, f4, f5, f6⟩ := f
  rcases e with ⟨a, b, a1, a2, a3, a4, a5, a6, a7⟩ | ⟨n1, n2, n3⟩
  · have a5' : alw B c a = true := by
      have q : (thr B c && alw B c a) = true := a5
      rw [tc] at q; exact q
    have a6' : alw B c b = true := by
      have q : (thr B c && alw B c b) = true := a6
      rw [tc] at q; exact q
    have q1 := f5 a (by omega) (by omega) a5'
    have q2 := f5 b (by omega) (by omega) a6'
    have le : lo c ≤ hi c := by omega
    have w := f6 le
    have e1 : ((lo c).toNat : Int) = lo c := Int.toNat_of_nonneg f1
    have e2 : ((hi c).toNat : Int) = hi c := Int.toNat_of_nonneg (by omega)
    have z1 := a7 (lo c).toNat (by omega) (by show (thr B c && alw B c (lo c).toNat) = true; rw [tc]; exact w.1)
    have z2 := a7 (hi c).toNat (by omega) (by show (thr B c && alw B c (hi c).toNat) = true; rw [tc]; exact w.2)
    refine ⟨⟨fun _ => by omega, fun _ => le⟩, fun _ => ⟨by omega, by omega⟩⟩
  · have le : ¬ lo c ≤ hi c := fun le => by
      have w := f6 le
      have e1 : ((lo c).toNat : Int) = lo c := Int.toNat_of_nonneg f1
      have q : (thr B c && alw B c (lo c).toNat) = false := n1 _ (by omega)
      rw [tc, show alw B c (lo c).toNat = true from w.1] at q
      exact absurd q (by decide)
    exact ⟨⟨fun q => absurd q le, fun q => by omega⟩, fun q => absurd q le⟩
theorem tl_c {s : Nat} {a b a' b' : Nat → Int} {c : Nat} (h : thr B c = true → (pb B s c || lb B s c) = true → a c = a' c ∧ b c = b' c) : tl B s a b c = tl B s a' b' c := by
  unfold tl
  revert h
  cases thr B c <;> cases pb B s c <;> cases lb B s c <;> simp
  · intro _ h; omega
  · intro h _; exact h
theorem mkA_c {s : Nat} {a b a' b' : Nat → Int} (h : ∀ c, c < 12 → thr B c = true → (pb B s c || lb B s c) = true → a c = a' c ∧ b c = b' c) : mkA B s a b = mkA B s a' b' := fb_si_cong (fun k hk => tl_c (h k hk))
theorem op9_burnt {N : Nat} (hN : 1300 < N) : op_burnt N RR := by
  intro S Y h
  obtain ⟨B, ok, bx, bY⟩ := h.2.2.2
  have h8 := ok.2.2.2.1
  obtain ⟨S1, lo, hi, f1, b1, f2, x1, w1⟩ := X_look (N := N) (by omega) ok bx
  obtain ⟨Y1, lo', hi', g1, c1, l1, o1⟩ := Y_setFirst (N := N) (by omega) ok bY
  have R1 := RR_ag h (agX_look f1) (agr_of (frY0_setFirst g1) (by decide) (by decide) (by decide))
  obtain ⟨t, e1, h1⟩ := loop_up (fun q (_ : Unit) x => fX0_burnt_L9 N S1 q x) (sn B)
    (fun i _ => ∀ s, s < i → bnP B lo hi s)
    (fun t => (∃ s, s < sn B ∧ t = .inl (nI s, S1) ∧ ¬ bnP B lo hi s ∧ ∀ r, r < s → bnP B lo hi r) ∨ (t = .inr () ∧ ∀ s, s < sn B → bnP B lo hi s))
    (fun q _ hI => ⟨.inr (), by
      show fX0_burnt_L9 N S1 (q + 1) (nI (sn B)) = _
      rw [fX0_burnt_L9, fX29_howMany, bs, b1.2.2.2.2.2.1, if_pos (ge_n (by omega))], Or.inr ⟨rfl, hI⟩⟩)
    (fun q i _ hi8 hI => by
      show (∃ t, fX0_burnt_L9 N S1 (q + 1) (nI i) = some t ∧ _) ∨ ∃ s' : Unit, _ ∧ fX0_burnt_L9 N S1 (q + 1) (nI i) = fX0_burnt_L9 N S1 q (nI (i + 1))
      obtain ⟨r, k1, k2⟩ := X_canCome (N := N) (by omega) ok b1 x1 hi8
      rw [fX0_burnt_L9, fX29_howMany, bs, b1.2.2.2.2.2.1, if_neg (nI_ge hi8 (by omega)), k1, bs, if_bI0, nI_1]
      cases r
      · left
        exact ⟨_, rfl, Or.inl ⟨i, hi8, rfl, fun q => absurd (k2.mpr q) (by decide), hI⟩⟩
      · right
        refine ⟨(), fun s hs => ?_, rfl⟩
        by_cases e : s = i
        · subst e; exact k2.mp rfl
        · exact hI s (by omega))
    N 0 () (by omega) (by omega) (fun c hc => by omega)
  obtain ⟨u, e2, h2⟩ := loop_up (fun q (_ : Unit) x => fY0_burnt_L6 N Y1 q x) (sn B)
    (fun i _ => ∀ s, s < i → bnP B lo hi s)
    (fun t => (∃ s, s < sn B ∧ t = .inl (nI s, Y1) ∧ ¬ bnP B lo hi s ∧ ∀ r, r < s → bnP B lo hi r) ∨ (t = .inr () ∧ ∀ s, s < sn B → bnP B lo hi s))
    (fun q _ hI => ⟨.inr (), by
      show fY0_burnt_L6 N Y1 (q + 1) (nI (sn B)) = _
      rw [fY0_burnt_L6, c1.2.2.2.1, if_pos (ge_n (by omega))], Or.inr ⟨rfl, hI⟩⟩)
    (fun q i _ hi8 hI => by
      show (∃ t, fY0_burnt_L6 N Y1 (q + 1) (nI i) = some t ∧ _) ∨ ∃ s' : Unit, _ ∧ fY0_burnt_L6 N Y1 (q + 1) (nI i) = fY0_burnt_L6 N Y1 q (nI (i + 1))
      have ey : ENY Y1 B lo' hi' := fun c hc => ⟨fun t => ⟨((o1 c hc).1 t).1, ((o1 c hc).1 t).2.1⟩, (o1 c hc).2⟩
      have rb : rngB B lo' hi' := fun c hc tc => by
        have := eOf_b ((o1 c hc).1 tc).2.2
        omega
      have m1 := mkA_b (s := i) rb
      have m2 := mkA_b (s := i) (rngB_s rb)
      have b3 := ok.2.2.2.2 i hi8
      have ym := Y_mkA (N := N) (by omega) ok c1 ey hi8
      obtain ⟨r0, j1, j2⟩ := Y_in (x := tt B i) (a := mkA B i lo' hi') (b := mkA B i hi' lo') Y1 (by omega) (by omega) (by omega) (by omega) (by omega) (by omega)
      obtain ⟨r, k1, k2⟩ := Y_b42 (N := N) (by omega) ok c1 o1 hi8 r0
      have k3 : r = true ↔ bnP B lo hi i := by
        rw [k2, j2]
        have en : ∀ c, c < 12 → thr B c = true → (lo c ≤ hi c ↔ 0 ≤ hi' c) ∧ (lo c ≤ hi c → lo c = lo' c ∧ hi c = hi' c) := fun c hc tc => fen_e tc (w1 c hc tc) ((o1 c hc).1 tc).2.2
        constructor
        · rintro ⟨⟨p1', p2'⟩, p3⟩
          have le : ∀ c, c < 12 → thr B c = true → (pb B i c || lb B i c) = true → lo c ≤ hi c := fun c hc tc pc => (en c hc tc).1.mpr (p3 c hc tc pc)
          have a1 : mkA B i lo hi = mkA B i lo' hi' := mkA_c (fun c hc tc pc => (en c hc tc).2 (le c hc tc pc))
          have a2 : mkA B i hi lo = mkA B i hi' lo' := mkA_c (fun c hc tc pc => ⟨((en c hc tc).2 (le c hc tc pc)).2, ((en c hc tc).2 (le c hc tc pc)).1⟩)
          exact ⟨le, by omega, by omega⟩
        · rintro ⟨le, p1', p2'⟩
          have a1 : mkA B i lo hi = mkA B i lo' hi' := mkA_c (fun c hc tc pc => (en c hc tc).2 (le c hc tc pc))
          have a2 : mkA B i hi lo = mkA B i hi' lo' := mkA_c (fun c hc tc pc => ⟨((en c hc tc).2 (le c hc tc pc)).2, ((en c hc tc).2 (le c hc tc pc)).1⟩)
          exact ⟨⟨by omega, by omega⟩, fun c hc tc pc => (en c hc tc).1.mp (le c hc tc pc)⟩
      rw [fY0_burnt_L6, c1.2.2.2.1, if_neg (nI_ge hi8 (by omega)), inb_nI (show i < 8 by omega) (by decide), gd_true, ym.1, bs, ym.2, bs, cl (show i < 2 ^ 31 by omega), (c1.2.2.2.2 i hi8).2.2, j1, bs, k1, bs, if_bI0, nI_1]
      cases r
      · left
        exact ⟨_, rfl, Or.inl ⟨i, hi8, rfl, fun q => absurd (k3.mpr q) (by decide), hI⟩⟩
      · right
        refine ⟨(), fun s hs => ?_, rfl⟩
        by_cases e : s = i
        · subst e; exact k3.mp rfl
        · exact hI s (by omega))
    N 0 () (by omega) (by omega) (fun c hc => by omega)
  have e1' : fX0_burnt_L9 N S1 N 0 = some t := e1
  have e2' : fY0_burnt_L6 N Y1 N 0 = some u := e2
  have ex1 : fX0_burnt N S = sm t fun _ => some (-9, S1) := by
    rw [fX0_burnt, f1, bs, e1', bs]
  have ey1 : fY0_burnt N Y = sm u fun _ => some (-9, Y1) := by
    rw [fY0_burnt, g1, bs, e2', bs]
  rw [ex1, ey1]
  rcases h1 with ⟨s, hs, rfl, n1, n2⟩ | ⟨rfl, a1⟩
  · rcases h2 with ⟨s', hs', rfl, n1', n2'⟩ | ⟨rfl, a2⟩
    · have : s = s' := by
        rcases Nat.lt_trichotomy s s' with q | q | q
        · exact absurd (n2' s q) n1
        · exact q
        · exact absurd (n2 s' q) n1'
      subst this
      exact ⟨_, S1, Y1, rfl, rfl, R1⟩
    · exact absurd (a2 s hs) n1
  · rcases h2 with ⟨s', hs', rfl, n1', n2'⟩ | ⟨rfl, a2⟩
    · exact absurd (a1 s' hs') n1'
    · exact ⟨_, S1, Y1, rfl, rfl, R1⟩
end OH
