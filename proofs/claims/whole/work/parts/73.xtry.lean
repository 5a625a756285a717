/-! the walk: the class' checks, a try -/
def kR (B : Bk) (t : Nat) : Bool := decide (kd B t = 2 ∨ kd B t = 3 ∨ kd B t = 4)
def ck42 (S : St) (B : Bk) (n : Nat) : Prop := ∀ c, c < 12 → ∃ m, m < 4096 ∧ S.1 42 c = nI m ∧ ∀ t, m.testBit t = (decide (t < n) && (kR B t && decide (lastR B t = c)))
def ck43 (S : St) (B : Bk) (out n : Nat) : Prop := ∀ c, c < 12 → ∃ m, m < 256 ∧ S.1 43 c = nI m ∧ ∀ s, m.testBit s = (decide (s < n) && (!out.testBit s && decide (lsN B s 12 = c + 1)))
theorem bit_hi {m i t : Nat} (h : m / 2 ^ i = 0) (ht : i ≤ t) : m.testBit t = false := by
  have h1 : m < 2 ^ i := by
    rcases Nat.div_eq_zero_iff.mp h with q | q
    · have := Nat.two_pow_pos i; omega
    · exact q
  exact Nat.testBit_lt_two_pow (Nat.lt_of_lt_of_le h1 (Nat.pow_le_pow_right (by decide) ht))
section OJ
variable {S S' Y Y' : St} {B : Bk} {out : Nat} {lo hi lo' hi' : Nat → Int} {L L' : Nat → Nat → Bool} {τ : Nat → Nat}
theorem X_checks {N : Nat} (hN : 61 < N) (ok : okB B) (bx : BX S B) (ho : out < 2 ^ 31) : ∃ r S', fX37_setChecks N S (nI out) = some (bI r, S') ∧ (r = true ↔ ∀ s, s < sn B → out.testBit s = false → lsN B s 12 = 0 → tt B s = 0) ∧ (r = true → ck42 S' B 12 ∧ ck43 S' B out (sn B)) ∧ (∀ k q, k ≠ 42 → k ≠ 43 → S'.1 k q = S.1 k q) ∧ S'.2 = S.2 := by
  have h8 := ok.2.2.2.1
  obtain ⟨S1, e1, a1, a2, a3⟩ := loop_up (fun q st x => fX37_setChecks_L2 N (nI out) q st x) 12
    (fun i st => (∀ c, c < i → st.1 42 c = 0 ∧ st.1 43 c = 0) ∧ (∀ k q, k ≠ 42 → k ≠ 43 → st.1 k q = S.1 k q) ∧ st.2 = S.2)
    (fun st => (∀ c, c < 12 → st.1 42 c = 0 ∧ st.1 43 c = 0) ∧ (∀ k q, k ≠ 42 → k ≠ 43 → st.1 k q = S.1 k q) ∧ st.2 = S.2)
    (fun q st hI => ⟨st, by
      show fX37_setChecks_L2 N (nI out) (q + 1) st (nI 12) = _
      rw [fX37_setChecks_L2, if_pos (by decide)], hI⟩)
    (fun q i st hi hI => Or.inr ⟨p1 (p1 st 42 i 0) 43 i 0, ⟨fun c hc => by
        by_cases e : c = i
        · subst e; rw [p1_ne (by decide), p1_eq, p1_eq]; exact ⟨rfl, rfl⟩
        · rw [p1_ni e, p1_ni e, p1_ni e, p1_ni e]; exact hI.1 c (by omega), fun k q x y => by rw [p1_ne y, p1_ne x]; exact hI.2.1 k q x y, hI.2.2⟩, by
      show fX37_setChecks_L2 N (nI out) (q + 1) st (nI i) = fX37_setChecks_L2 N (nI out) q _ (nI (i + 1))
      rw [fX37_setChecks_L2, if_neg (show ¬ (12 : Int32) ≤ nI i from nI_ge hi (by decide)), inb_nI hi (by decide), gd_true, nx_eq, gd_true, nx_eq, cl (by omega), nI_1]⟩)
    N 0 S (by omega) (by omega) ⟨fun c hc => by omega, fun _ _ _ _ => rfl, rfl⟩
  have bxo : ∀ {T : St}, (∀ k q, k ≠ 42 → k ≠ 43 → T.1 k q = S.1 k q) → BX T B := fun hT => BX_c bx (funext fun q => hT 26 q (by decide) (by decide)) (funext fun q => hT 27 q (by decide) (by decide)) (funext fun q => hT 28 q (by decide) (by decide)) (hT _ _ (by decide) (by decide)) (hT _ _ (by decide) (by decide)) (funext fun q => hT 23 q (by decide) (by decide)) (funext fun q => hT 24 q (by decide) (by decide)) (hT _ _ (by decide) (by decide)) (funext fun q => hT 30 q (by decide) (by decide)) (funext fun q => hT 31 q (by decide) (by decide)) (funext fun q => hT 32 q (by decide) (by decide))
  obtain ⟨S2, e2, b1, b2, b3, b4⟩ := loop_up (fun q st x => fX37_setChecks_L30 N (nI out) q st x) 12
    (fun i st => ck42 st B i ∧ (∀ c, c < 12 → st.1 43 c = 0) ∧ (∀ k q, k ≠ 42 → k ≠ 43 → st.1 k q = S.1 k q) ∧ st.2 = S.2)
    (fun st => ck42 st B 12 ∧ (∀ c, c < 12 → st.1 43 c = 0) ∧ (∀ k q, k ≠ 42 → k ≠ 43 → st.1 k q = S.1 k q) ∧ st.2 = S.2)
    (fun q st hI => ⟨st, by
      show fX37_setChecks_L30 N (nI out) (q + 1) st (nI 12) = _
      rw [fX37_setChecks_L30, if_pos (by decide)], hI⟩)
    (fun q i st hi hI => by
      obtain ⟨g1, g2, g3, g4⟩ := hI
      right
      show ∃ s', _ ∧ fX37_setChecks_L30 N (nI out) (q + 1) st (nI i) = fX37_setChecks_L30 N (nI out) q s' (nI (i + 1))
      have bs1 := bxo g3
      rw [fX37_setChecks_L30, if_neg (show ¬ (12 : Int32) ≤ nI i from nI_ge hi (by decide)), X_others ok bs1 hi, bs, if_bI0, nI_1]
      by_cases kk : kd B i = 2 ∨ kd B i = 3 ∨ kd B i = 4
      · have lr := lastR_lt ok hi
        rw [decide_eq_true kk, if_pos rfl, X_lastR ok bs1 hi (by omega), bs, inb_nI lr (by decide), gd_true, gd_true, nx_eq, cl (show lastR B i < 2 ^ 31 by omega), bs, sh1 i hi]
        obtain ⟨m, m1, m2, m3⟩ := g1 _ lr
        refine ⟨p1 st 42 (lastR B i) (st.1 42 (lastR B i) ||| nI (2 ^ i)), ⟨fun c hc => ?_, fun c hc => by rw [p1_ne (by decide)]; exact g2 c hc, fun k q x y => by rw [p1_ne x]; exact g3 k q x y, g4⟩, rfl⟩
        by_cases e : c = lastR B i
        · subst e
          refine ⟨m ||| 2 ^ i, Nat.or_lt_two_pow (n := 12) m1 (pw12 i hi), by rw [p1_eq, m2, fa_or], fun t => ?_⟩
          rw [fb_bit_set, m3 t]
          by_cases et : t = i
          · subst et
            simp [kR, kk]
          · simp [et, show (t < i + 1) = (t < i) from propext (by omega)]
        · rw [p1_ni e]
          obtain ⟨m', m1', m2', m3'⟩ := g1 c hc
          refine ⟨m', m1', m2', fun t => ?_⟩
          rw [m3' t]
          by_cases et : t = i
          · subst et
            simp [show ¬ lastR B t = c from fun w => e w.symm]
          · simp [show (t < i + 1) = (t < i) from propext (by omega)]
      · rw [decide_eq_false kk, if_neg (by decide), bs]
        refine ⟨st, ⟨fun c hc => ?_, g2, g3, g4⟩, rfl⟩
        obtain ⟨m', m1', m2', m3'⟩ := g1 c hc
        refine ⟨m', m1', m2', fun t => ?_⟩
        rw [m3' t]
        by_cases et : t = i
        · subst et
          simp [kR, kk]
        · simp [show (t < i + 1) = (t < i) from propext (by omega)])
    N 0 S1 (by omega) (by omega) ⟨fun c hc => ⟨0, by decide, (a1 c hc).1, fun t => by simp⟩, fun c hc => (a1 c hc).2, a2, a3⟩
  obtain ⟨u, e3, h3⟩ := loop_up (fun q st x => fX37_setChecks_L74 N (nI out) q st x) (sn B)
    (fun i st => ck42 st B 12 ∧ ck43 st B out i ∧ (∀ s, s < i → out.testBit s = false → lsN B s 12 = 0 → tt B s = 0) ∧ (∀ k q, k ≠ 42 → k ≠ 43 → st.1 k q = S.1 k q) ∧ st.2 = S.2)
    (fun u => (∃ st, u = .inr st ∧ ck42 st B 12 ∧ ck43 st B out (sn B) ∧ (∀ s, s < sn B → out.testBit s = false → lsN B s 12 = 0 → tt B s = 0) ∧ (∀ k q, k ≠ 42 → k ≠ 43 → st.1 k q = S.1 k q) ∧ st.2 = S.2) ∨ (∃ st, u = .inl (0, st) ∧ (¬ ∀ s, s < sn B → out.testBit s = false → lsN B s 12 = 0 → tt B s = 0) ∧ (∀ k q, k ≠ 42 → k ≠ 43 → st.1 k q = S.1 k q) ∧ st.2 = S.2))
    (fun q st hI => ⟨.inr st, by
      show fX37_setChecks_L74 N (nI out) (q + 1) st (nI (sn B)) = _
      rw [fX37_setChecks_L74, fX29_howMany, bs, (bxo hI.2.2.2.1).2.2.2.2.2.1, if_pos (ge_n (by omega))], Or.inl ⟨st, rfl, hI⟩⟩)
    (fun q i st hi hI => by
      obtain ⟨g1, g2, g3, g4, g5⟩ := hI
      show (∃ t, fX37_setChecks_L74 N (nI out) (q + 1) st (nI i) = some t ∧ _) ∨ ∃ s', _ ∧ fX37_setChecks_L74 N (nI out) (q + 1) st (nI i) = fX37_setChecks_L74 N (nI out) q s' (nI (i + 1))
      have bs1 := bxo g4
      have ll := lsN_le B i 12
      rw [fX37_setChecks_L74, fX29_howMany, bs, bs1.2.2.2.2.2.1, if_neg (nI_ge hi (by omega)), X_lastS (by omega) ok bs1 hi, bs, shb ho (show i < 32 by omega), if_bI0, nI_1]
      cases ob : out.testBit i
      rotate_left
      · right
        rw [if_pos rfl]
        refine ⟨st, ⟨g1, fun c hc => ?_, fun s hs so => ?_, g4, g5⟩, rfl⟩
        · obtain ⟨m, m1, m2, m3⟩ := g2 c hc
          refine ⟨m, m1, m2, fun s => ?_⟩
          rw [m3 s]
          by_cases es : s = i
          · subst es; simp [ob]
          · simp [show (s < i + 1) = (s < i) from propext (by omega)]
        · by_cases es : s = i
          · subst es; rw [ob] at so; exact absurd so (by decide)
          · exact g3 s (by omega) so
      rw [if_neg (by decide)]
      by_cases l0 : lsN B i 12 = 0
      · rw [l0, if_pos (by decide), fX29_totalOf, inb_nI (show i < 8 by omega) (by decide), gd_true, cl (show i < 2 ^ 31 by omega), (bs1.2.2.2.2.2.2 i hi).2.2, bs]
        have b3' := ok.2.2.2.2 i hi
        have z : (iI (tt B i) = 0) ↔ tt B i = 0 := iI_eq (b := 0) (by omega) (by omega) (by omega) (by omega)
        by_cases tz : tt B i = 0
        · right
          rw [if_pos (z.mpr tz)]
          refine ⟨st, ⟨g1, fun c hc => ?_, fun s hs so sl => ?_, g4, g5⟩, rfl⟩
          · obtain ⟨m, m1, m2, m3⟩ := g2 c hc
            refine ⟨m, m1, m2, fun s => ?_⟩
            rw [m3 s]
            by_cases es : s = i
            · subst es; simp [l0]
            · simp [show (s < i + 1) = (s < i) from propext (by omega)]
          · by_cases es : s = i
            · subst es; exact tz
            · exact g3 s (by omega) so sl
        · left
          rw [if_neg (fun w => tz (z.mp w))]
          exact ⟨_, rfl, Or.inr ⟨st, rfl, fun w => tz (w i hi ob l0), g4, g5⟩⟩
      · right
        obtain ⟨c0, hc0⟩ : ∃ c0, lsN B i 12 = c0 + 1 := ⟨lsN B i 12 - 1, by omega⟩
        have ei : iI ((lsN B i 12 : Int) - 1) = nI c0 := by rw [iI_nat, hc0]; congr 1; omega
        rw [ei, if_neg (nI_pos (by omega)), inb_nI (show c0 < 12 by omega) (by decide), gd_true, gd_true, nx_eq, cl (show c0 < 2 ^ 31 by omega), sh1 i (by omega)]
        obtain ⟨m, m1, m2, m3⟩ := g2 c0 (by omega)
        refine ⟨p1 st 43 c0 (st.1 43 c0 ||| nI (2 ^ i)), ⟨fun c hc => ?_, fun c hc => ?_, fun s hs so sl => ?_, fun k q x y => by rw [p1_ne y]; exact g4 k q x y, g5⟩, rfl⟩
        · rw [p1_ne (by decide)]; exact g1 c hc
        · by_cases e : c = c0
          · subst e
            refine ⟨m ||| 2 ^ i, Nat.or_lt_two_pow (n := 8) m1 (Nat.pow_lt_pow_right (by decide) (show i < 8 by omega)), by rw [p1_eq, m2, fa_or], fun s => ?_⟩
            rw [fb_bit_set, m3 s]
            by_cases es : s = i
            · subst es
              simp [ob, hc0]
            · simp [es, show (s < i + 1) = (s < i) from propext (by omega)]
          · rw [p1_ni e]
            obtain ⟨m', m1', m2', m3'⟩ := g2 c hc
            refine ⟨m', m1', m2', fun s => ?_⟩
            rw [m3' s]
            by_cases es : s = i
            · subst es
              simp [hc0, show ¬ c0 = c from fun w => e w.symm]
            · simp [show (s < i + 1) = (s < i) from propext (by omega)]
        · by_cases es : s = i
          · subst es; omega
          · exact g3 s (by omega) so sl)
    N 0 S2 (by omega) (by omega) ⟨b1, fun c hc => ⟨0, by decide, b2 c hc, fun t => by simp⟩, fun s hs => by omega, b3, b4⟩
  have e1' : fX37_setChecks_L2 N (nI out) N S 0 = some S1 := e1
  have e2' : fX37_setChecks_L30 N (nI out) N S1 0 = some S2 := e2
  have e3' : fX37_setChecks_L74 N (nI out) N S2 0 = some u := e3
  have ev : fX37_setChecks N S (nI out) = sm u fun u41 => some (1, u41) := by
    rw [fX37_setChecks, e1', bs, e2', bs, e3', bs]
  rw [ev]
  rcases h3 with ⟨st, rfl, c1, c2, c3, c4, c5⟩ | ⟨st, rfl, c1, c2, c3⟩
  · exact ⟨true, st, rfl, ⟨fun _ => c3, fun _ => rfl⟩, fun _ => ⟨c1, c2⟩, c4, c5⟩
  · exact ⟨false, st, rfl, ⟨fun q => absurd q (by decide), fun q => absurd q c1⟩, fun q => absurd q (by decide), c2, c3⟩
theorem X_rulesB {N : Nat} (hN : 61 < N) {m : Nat} (hm : m < 4096) (f : Nat → Bool) (hf : ∀ t, t < 12 → m.testBit t = true → fX25_holdsAmong N S (nI t) 38 = some (bI (f t))) : ∃ r, fX37_rulesHold N S (nI m) = some (bI r) ∧ (r = true ↔ ∀ t, t < 12 → m.testBit t = true → f t = true) := by
  obtain ⟨u, e1, h1⟩ := loop_up (fun q (_ : Unit) x => fX37_rulesHold_L2 N S (nI m) q x) 12
    (fun i _ => ∀ t, t < i → m.testBit t = true → f t = true)
    (fun u => (u = .inl 0 ∧ ¬ ∀ t, t < 12 → m.testBit t = true → f t = true) ∨ (u = .inr () ∧ ∀ t, t < 12 → m.testBit t = true → f t = true))
    (fun q _ hI => ⟨.inr (), by
      show fX37_rulesHold_L2 N S (nI m) (q + 1) (nI 12) = _
      rw [fX37_rulesHold_L2, if_pos (by decide)], Or.inr ⟨rfl, hI⟩⟩)
    (fun q i _ hi hI => by
      show (∃ t, fX37_rulesHold_L2 N S (nI m) (q + 1) (nI i) = some t ∧ _) ∨ ∃ s' : Unit, _ ∧ fX37_rulesHold_L2 N S (nI m) (q + 1) (nI i) = fX37_rulesHold_L2 N S (nI m) q (nI (i + 1))
      rw [fX37_rulesHold_L2, if_neg (show ¬ (12 : Int32) ≤ nI i from nI_ge hi (by decide)), shb (show m < 2 ^ 31 by omega) (show i < 32 by omega), shB (show m < 2 ^ 31 by omega) (show i < 32 by omega), if_bI0, nI_1]
      by_cases z : m / 2 ^ i = 0
      · left
        rw [z, if_pos (by decide)]
        refine ⟨_, rfl, Or.inr ⟨rfl, fun t ht tb => ?_⟩⟩
        by_cases q : t < i
        · exact hI t q tb
        · rw [bit_hi z (by omega)] at tb; exact absurd tb (by decide)
      rw [if_neg (nI_ne0 (Nat.pos_of_ne_zero z) (Nat.lt_of_le_of_lt (Nat.div_le_self _ _) (by omega)))]
      cases tb : m.testBit i
      · right
        rw [if_neg (by decide)]
        refine ⟨(), fun t ht b => ?_, rfl⟩
        by_cases e : t = i
        · subst e; rw [tb] at b; exact absurd b (by decide)
        · exact hI t (by omega) b
      rw [if_pos rfl, hf i hi tb, bs, if_bI0]
      cases ff : f i
      · left
        exact ⟨_, rfl, Or.inl ⟨rfl, fun w => by rw [w i hi tb] at ff; exact absurd ff (by decide)⟩⟩
      · right
        refine ⟨(), fun t ht b => ?_, rfl⟩
        by_cases e : t = i
        · subst e; exact ff
        · exact hI t (by omega) b)
    N 0 () (by omega) (by omega) (fun c hc => by omega)
  have e1' : fX37_rulesHold_L2 N S (nI m) N 0 = some u := e1
  rw [fX37_rulesHold, e1', bs]
  rcases h1 with ⟨rfl, h⟩ | ⟨rfl, h⟩
  · exact ⟨false, rfl, fun q => absurd q (by decide), fun q => absurd q h⟩
  · exact ⟨true, rfl, fun _ => h, fun _ => rfl⟩
theorem X_sumsB {N : Nat} (hN : 61 < N) {m : Nat} (hm : m < 256) (f : Nat → Bool) (hf : ∀ t, t < 8 → m.testBit t = true → fX29_comesOut N S (nI t) 38 = some (bI (f t))) : ∃ r, fX37_sumsComeOut N S (nI m) = some (bI r) ∧ (r = true ↔ ∀ t, t < 8 → m.testBit t = true → f t = true) := by
  obtain ⟨u, e1, h1⟩ := loop_up (fun q (_ : Unit) x => fX37_sumsComeOut_L2 N S (nI m) q x) 8
    (fun i _ => ∀ t, t < i → m.testBit t = true → f t = true)
    (fun u => (u = .inl 0 ∧ ¬ ∀ t, t < 8 → m.testBit t = true → f t = true) ∨ (u = .inr () ∧ ∀ t, t < 8 → m.testBit t = true → f t = true))
    (fun q _ hI => ⟨.inr (), by
      show fX37_sumsComeOut_L2 N S (nI m) (q + 1) (nI 8) = _
      rw [fX37_sumsComeOut_L2, if_pos (by decide)], Or.inr ⟨rfl, hI⟩⟩)
    (fun q i _ hi hI => by
      show (∃ t, fX37_sumsComeOut_L2 N S (nI m) (q + 1) (nI i) = some t ∧ _) ∨ ∃ s' : Unit, _ ∧ fX37_sumsComeOut_L2 N S (nI m) (q + 1) (nI i) = fX37_sumsComeOut_L2 N S (nI m) q (nI (i + 1))
      rw [fX37_sumsComeOut_L2, if_neg (show ¬ (8 : Int32) ≤ nI i from nI_ge hi (by decide)), shb (show m < 2 ^ 31 by omega) (show i < 32 by omega), shB (show m < 2 ^ 31 by omega) (show i < 32 by omega), if_bI0, nI_1]
      by_cases z : m / 2 ^ i = 0
      · left
        rw [z, if_pos (by decide)]
        refine ⟨_, rfl, Or.inr ⟨rfl, fun t ht tb => ?_⟩⟩
        by_cases q : t < i
        · exact hI t q tb
        · rw [bit_hi z (by omega)] at tb; exact absurd tb (by decide)
      rw [if_neg (nI_ne0 (Nat.pos_of_ne_zero z) (Nat.lt_of_le_of_lt (Nat.div_le_self _ _) (by omega)))]
      cases tb : m.testBit i
      · right
        rw [if_neg (by decide)]
        refine ⟨(), fun t ht b => ?_, rfl⟩
        by_cases e : t = i
        · subst e; rw [tb] at b; exact absurd b (by decide)
        · exact hI t (by omega) b
      rw [if_pos rfl, hf i hi tb, bs, if_bI0]
      cases ff : f i
      · left
        exact ⟨_, rfl, Or.inl ⟨rfl, fun w => by rw [w i hi tb] at ff; exact absurd ff (by decide)⟩⟩
      · right
        refine ⟨(), fun t ht b => ?_, rfl⟩
        by_cases e : t = i
        · subst e; exact ff
        · exact hI t (by omega) b)
    N 0 () (by omega) (by omega) (fun c hc => by omega)
  have e1' : fX37_sumsComeOut_L2 N S (nI m) N 0 = some u := e1
  rw [fX37_sumsComeOut, e1', bs]
  rcases h1 with ⟨rfl, h⟩ | ⟨rfl, h⟩
  · exact ⟨false, rfl, fun q => absurd q (by decide), fun q => absurd q h⟩
  · exact ⟨true, rfl, fun _ => h, fun _ => rfl⟩
/-- a try, the turns not being spent -/
theorem X_try {N : Nat} (hN : 61 < N) (ok : okB B) (nm : nmd B) (bx : BX S B) (c1 : ck42 S B 12) (c2 : ck43 S B out (sn B)) {n lim c v : Nat} (hc : c < 12) (hv : v < 100) (hn1 : S.1 37 11 = nI n) (hn2 : S.1 37 10 = nI lim) (hl : n < lim) (hl2 : lim < 2 ^ 31) (ag : ∀ d, d ≤ c → thr B d = true → (if d = c then nI v else S.1 38 d) = nI (τ d) ∧ τ d < 100) : fX37_tryNumber N S (nI c) (nI v) = some (bI (okD B out c τ), p1 (p1 S 37 11 (nI (n + 1))) 38 c (nI v)) := by
  have h8 := ok.2.2.2.1
  have bx1 : BX (p1 (p1 S 37 11 (nI (n + 1))) 38 c (nI v)) B := agX_BX (agr_of (fr_trans (fr_pf (A := [38]) (F := [(37, 11)]) (L := []) (by decide)) (fr_pa (by decide))) (by decide) (by decide) (by decide)) bx
  have told : ∀ d, d ≤ c → thr B d = true → (p1 (p1 S 37 11 (nI (n + 1))) 38 c (nI v)).1 38 d = nI (τ d) ∧ τ d < 100 := fun d hd td => by
    have := ag d hd td
    by_cases e : d = c
    · rw [if_pos e] at this
      rw [e, p1_eq, ← e]; exact this
    · rw [if_neg e] at this
      rw [p1_ni e, p1_ne (by decide)]; exact this
  obtain ⟨m, m1, m2, m3⟩ := c1 c hc
  obtain ⟨w, w1, w2, w3⟩ := c2 c hc
  obtain ⟨r1, e1, h1⟩ := X_rulesB (S := p1 (p1 S 37 11 (nI (n + 1))) 38 c (nI v)) hN m1 (fun t => holdR B t τ) (fun t ht tb => by
    rw [m3 t] at tb
    have tb' : kR B t = true ∧ lastR B t = c := by simpa [ht] using tb
    have kk : kd B t = 2 ∨ kd B t = 3 ∨ kd B t = 4 := of_decide_eq_true tb'.1
    have lg := lastR_ge B t
    rw [tb'.2] at lg
    have k6 : kd B t < 6 := by omega
    have n' := nm t ht
    refine X_holds (by omega) ok bx1 (by decide) (by decide) ht (told t lg.1 (thr_6 k6)) (fun k2 => ?_) (fun k4 => ?_) (fun k3 d hd kd3 => ?_) k6
    · have o := ok_2 ok ht k2
      exact ⟨told _ (lg.2.1 k2).1 (n'.1 k2).1, told _ (lg.2.1 k2).2 (n'.1 k2).2⟩
    · exact told _ (lg.2.2 k4) (n'.2 k4)
    · exact told d (by omega) (thr_k kd3 (by decide)))
  obtain ⟨r2, e2, h2⟩ := X_sumsB (S := p1 (p1 S 37 11 (nI (n + 1))) 38 c (nI v)) hN w1 (fun s => decide (sumS B s τ = tt B s)) (fun s hs sb => by
    rw [w3 s] at sb
    have sb' : s < sn B ∧ out.testBit s = false ∧ lsN B s 12 = c + 1 := by simpa using sb
    refine X_comes (by omega) ok bx1 (by decide) (by decide) sb'.1 (fun d hd q => ?_)
    have := lsN_max B s 12 d hd q
    refine told d (by omega) ?_
    unfold nmS at q
    simp at q
    exact q.1)
  have ev : fX37_tryNumber N S (nI c) (nI v) = some (bI (r1 && r2), p1 (p1 S 37 11 (nI (n + 1))) 38 c (nI v)) := by
    unfold fX37_tryNumber
    rw [hn1, hn2, if_pos (nI_lt hl hl2), nx_eq, inb_nI hc (by decide), gd_true, nx_eq, gd_true, cl (show c < 2 ^ 31 by omega), nI_1, p1_ne (show (42 : Nat) ≠ 38 by decide), p1_ne (show (42 : Nat) ≠ 37 by decide), m2, e1, bs, gd_true, p1_ne (show (43 : Nat) ≠ 38 by decide), p1_ne (show (43 : Nat) ≠ 37 by decide), w2, e2, bs]
    cases r1 <;> cases r2 <;> rfl
  have er : (r1 && r2) = okD B out c τ := by
    unfold okD
    rw [Bool.eq_iff_iff, Bool.and_eq_true, h1, h2, decide_eq_true_iff]
    constructor
    · rintro ⟨q1, q2⟩
      refine ⟨fun t ht kk lr => q1 t ht (by rw [m3 t]; simp [ht, kR, kk, lr]), fun s hs so sl => ?_⟩
      exact of_decide_eq_true (q2 s (by omega) (by rw [w3 s]; simp [hs, so, sl]))
    · rintro ⟨q1, q2⟩
      refine ⟨fun t ht tb => ?_, fun s hs sb => ?_⟩
      · rw [m3 t] at tb
        have tb' : kR B t = true ∧ lastR B t = c := by simpa [ht] using tb
        exact q1 t ht (of_decide_eq_true tb'.1) tb'.2
      · rw [w3 s] at sb
        have sb' : s < sn B ∧ out.testBit s = false ∧ lsN B s 12 = c + 1 := by simpa using sb
        exact decide_eq_true (q2 s sb'.1 sb'.2.1 sb'.2.2)
  rw [ev, er]
end OJ
