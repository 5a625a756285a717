/-! orders -/
def cpt (x y : Int32) : Bool := decide (x = y) || (decide (x = -9) || decide (y = -9))
def hasD : Nat → Nat → Nat → Bool
  | 0, _, _ => false
  | k + 1, c, e => decide (c % 10 = e) || hasD k (c / 10) e
def pgB (n : Nat) (a b : Nat → Int32) : Nat → Nat → Bool
  | 0, c => decide (c = 0)
  | k + 1, c => pgB n a b k (c / 10) && (decide (1 ≤ c % 10 ∧ c % 10 ≤ n) && (!hasD k (c / 10) (c % 10) && (decide (k = 0) || cpt (b (c / 10 % 10 - 1)) (a (c % 10 - 1)))))
def cpo (a b : Nat → Int32) : Option Nat → Nat → Bool
  | none, _ => true
  | some p, d => cpt (b d) (a p)
def yB (n : Nat) (a b : Nat → Int32) : Nat → Nat → Nat → Option Nat → Bool
  | 0, x, _, _ => decide (x = 0)
  | m + 1, x, mask, p => (decide (1 ≤ x % 10 ∧ x % 10 ≤ n) && (!mask.testBit (x % 10 - 1) && cpo a b p (x % 10 - 1))) && yB n a b m (x / 10) (mask ||| 2 ^ (x % 10 - 1)) (some (x % 10 - 1))
def avd : Nat → Nat → Nat → Bool
  | 0, _, _ => true
  | m + 1, x, mask => !mask.testBit (x % 10 - 1) && avd m (x / 10) mask
section OZ
variable {n : Nat} {a b : Nat → Int32}
theorem avd_or {mask e : Nat} (he : 1 ≤ e) : ∀ m x, pgB n a b m x = true → avd m x (mask ||| 2 ^ (e - 1)) = (avd m x mask && !hasD m x e)
  | 0, x, _ => rfl
  | m + 1, x, h => by
    rw [pgB, Bool.and_eq_true, Bool.and_eq_true] at h
    have h1 := of_decide_eq_true h.2.1
    rw [avd, avd, hasD, avd_or he m (x / 10) h.1, Nat.testBit_or, Nat.testBit_two_pow]
    have e1 : decide (e - 1 = x % 10 - 1) = decide (x % 10 = e) := by
      by_cases q : x % 10 = e
      · rw [decide_eq_true q, decide_eq_true (by omega)]
      · rw [decide_eq_false q, decide_eq_false (by omega)]
    rw [e1]
    cases mask.testBit (x % 10 - 1) <;> cases decide (x % 10 = e) <;> cases avd m (x / 10) mask <;> cases hasD m (x / 10) e <;> rfl
theorem yB_e : ∀ m x mask p, yB n a b m x mask p = (pgB n a b m x && (avd m x mask && (decide (m = 0) || cpo a b p (x % 10 - 1))))
  | 0, x, mask, p => by
    rw [yB, pgB, avd]
    cases decide (x = 0) <;> rfl
  | m + 1, x, mask, p => by
    rw [yB, yB_e m, pgB, avd]
    cases hd : decide (1 ≤ x % 10 ∧ x % 10 ≤ n)
    · cases pgB n a b m (x / 10) <;> rfl
    have h1 := of_decide_eq_true hd
    cases hp : pgB n a b m (x / 10)
    · rw [Bool.false_and, Bool.and_false, Bool.false_and, Bool.false_and]
    rw [avd_or h1.1 m (x / 10) hp]
    have e0 : cpo a b (some (x % 10 - 1)) (x / 10 % 10 - 1) = cpt (b (x / 10 % 10 - 1)) (a (x % 10 - 1)) := rfl
    rw [e0, decide_eq_false (show ¬ m + 1 = 0 by omega)]
    cases mask.testBit (x % 10 - 1) <;> cases cpo a b p (x % 10 - 1) <;> cases avd m (x / 10) mask <;> cases hasD m (x / 10) (x % 10) <;> cases decide (m = 0) <;> cases cpt (b (x / 10 % 10 - 1)) (a (x % 10 - 1)) <;> rfl
theorem avd_0 : ∀ m x, avd m x 0 = true
  | 0, _ => rfl
  | m + 1, x => by rw [avd, avd_0 m, Nat.zero_testBit]; rfl
theorem yB_0 (m x : Nat) : yB n a b m x 0 none = pgB n a b m x := by
  rw [yB_e, avd_0]
  show (pgB n a b m x && (true && (decide (m = 0) || true))) = _
  rw [Bool.or_true, Bool.and_true, Bool.and_true]
theorem pg_lt : ∀ k c, pgB n a b k c = true → c < 10 ^ k
  | 0, c, h => by
    rw [pgB] at h
    have := of_decide_eq_true h
    rw [this]; decide
  | k + 1, c, h => by
    rw [pgB, Bool.and_eq_true] at h
    have := pg_lt k (c / 10) h.1
    rw [Nat.pow_succ]
    omega
def ones : Nat → Nat
  | 0 => 0
  | k + 1 => 10 * ones k + 1
theorem pg_b : ∀ k c, pgB n a b k c = true → ones k ≤ c ∧ c ≤ n * ones k
  | 0, c, h => by
    rw [pgB] at h
    have := of_decide_eq_true h
    rw [this]; exact ⟨Nat.le_refl 0, Nat.zero_le _⟩
  | k + 1, c, h => by
    rw [pgB, Bool.and_eq_true, Bool.and_eq_true] at h
    have := pg_b k (c / 10) h.1
    have h1 := of_decide_eq_true h.2.1
    rw [ones, Nat.mul_add, Nat.mul_one, Nat.mul_left_comm]
    omega
theorem pg_up {k c : Nat} : ∀ m, pgB n a b (k + m) c = true → pgB n a b k (c / 10 ^ m) = true
  | 0, h => by rw [Nat.pow_zero, Nat.div_one]; exact h
  | m + 1, h => by
    rw [show k + (m + 1) = k + m + 1 by omega, pgB, Bool.and_eq_true] at h
    have := pg_up m h.1
    rw [Nat.div_div_eq_div_mul] at this
    rw [Nat.pow_succ, Nat.mul_comm]; exact this
/-- a fold over a stretch of numbers -/
def sto (P : Nat → Bool) (s : Nat × Nat) (c : Nat) : Nat × Nat := if P c = true then (s.1 + 1, if s.1 = 0 then c else s.2) else s
def fio (P : Nat → Bool) (s : Nat × Nat) (lo : Nat) : Nat → Nat × Nat
  | 0 => s
  | m + 1 => sto P (fio P s lo m) (lo + m)
theorem fio_add (P : Nat → Bool) (s : Nat × Nat) (lo m : Nat) : ∀ k, fio P s lo (m + k) = fio P (fio P s lo m) (lo + m) k
  | 0 => rfl
  | k + 1 => by
    show sto P (fio P s lo (m + k)) (lo + (m + k)) = sto P (fio P (fio P s lo m) (lo + m) k) (lo + m + k)
    rw [fio_add P s lo m k, Nat.add_assoc]
theorem fio_no {P : Nat → Bool} {s : Nat × Nat} {lo : Nat} : ∀ m, (∀ c, lo ≤ c → c < lo + m → P c = false) → fio P s lo m = s
  | 0, _ => rfl
  | m + 1, h => by
    rw [fio, sto, h (lo + m) (by omega) (by omega), if_neg (by decide)]
    exact fio_no m (fun c h1 h2 => h c h1 (by omega))
theorem fio_le (P : Nat → Bool) (s : Nat × Nat) (lo : Nat) : ∀ m, (fio P s lo m).1 ≤ s.1 + m
  | 0 => Nat.le_refl _
  | m + 1 => by
    have := fio_le P s lo m
    rw [fio, sto]
    split
    · dsimp only; omega
    · omega
theorem pg_child {k code e : Nat} (h : pgB n a b k code = true) (he : e < 10) : pgB n a b (k + 1) (10 * code + e) = (decide (1 ≤ e ∧ e ≤ n) && (!hasD k code e && (decide (k = 0) || cpt (b (code % 10 - 1)) (a (e - 1))))) := by
  rw [pgB, show (10 * code + e) / 10 = code by omega, show (10 * code + e) % 10 = e by omega, h, Bool.true_and]
theorem int_no {k m code e c : Nat} (hn : k + (m + 1) = n) (h1 : (10 * code + e) * 10 ^ m ≤ c) (h2 : c < (10 * code + e) * 10 ^ m + 10 ^ m) (he : pgB n a b (k + 1) (10 * code + e) = false) : pgB n a b n c = false := by
  cases q : pgB n a b n c
  · rfl
  · have u := pg_up (n := n) (a := a) (b := b) (k := k + 1) (c := c) m (by rw [show k + 1 + m = n by omega]; exact q)
    have p : 0 < 10 ^ m := Nat.pow_pos (by omega)
    have e1 : c / 10 ^ m = 10 * code + e := by
      apply Nat.div_eq_of_lt_le
      · exact h1
      · rw [Nat.add_mul, Nat.one_mul]; exact h2
    rw [e1, he] at u
    exact absurd u (by decide)
theorem X_cpt (S : St) (x y : Int32) : fXs_runsOn S x y = some (bI (cpt x y)) := by
  unfold fXs_runsOn cpt
  by_cases h1 : x = y
  · rw [if_pos h1, decide_eq_true h1]; rfl
  · rw [if_neg h1, decide_eq_false h1]
    by_cases h2 : x = -9
    · rw [if_pos h2, decide_eq_true h2]; rfl
    · rw [if_neg h2, decide_eq_false h2]
      by_cases h3 : y = -9
      · rw [if_pos h3, decide_eq_true h3]; rfl
      · rw [if_neg h3, decide_eq_false h3]; rfl
theorem fxp {N d : Nat} {S : St} {x1 x2 x3 x4 : Int32} : fX44_place N (d + 1) S x1 x2 x3 x4 = fX44_place_B (fX44_place N d) N S x1 x2 x3 x4 := rfl
theorem X_place {N : Nat} (hN : 61 < N) (hn : n ≤ 6) : ∀ m d k code mask last S s, k + m = n → m < d → pgB n a b k code = true → mask < 64 → (∀ j, j < n → mask.testBit j = hasD k code (j + 1)) → last = (if k = 0 then -9 else b (code % 10 - 1)) → S.1 44 2 = nI n → (∀ j, j < n → S.1 45 j = a j ∧ S.1 46 j = b j) → S.1 44 3 = nI s.1 → S.1 44 4 = nI s.2 → s.1 ≤ code * 10 ^ m → ∃ S', fX44_place N d S (nI k) (nI mask) last (nI code) = some S' ∧ S'.1 44 3 = nI (fio (pgB n a b n) s (code * 10 ^ m) (10 ^ m)).1 ∧ S'.1 44 4 = nI (fio (pgB n a b n) s (code * 10 ^ m) (10 ^ m)).2 ∧ ∀ k i, ¬ (k = 44 ∧ (i = 3 ∨ i = 4)) → S'.1 k i = S.1 k i
  | m, 0, k, code, mask, last, S, s, h1, h2, _, _, _, _, _, _, _, _, _ => by omega
  | 0, d + 1, k, code, mask, last, S, s, h1, h2, pg, hm, mks, hl, h44, hab, c1, c2, cl1 => by
    have ek : k = n := by omega
    have lt := pg_lt k code pg
    have p6 : (10 : Nat) ^ k ≤ 10 ^ 6 := Nat.pow_le_pow_right (by omega) (by omega)
    have v6 : (10 : Nat) ^ 6 = 1000000 := by decide
    rw [ek] at pg
    have ef : fio (pgB n a b n) s (code * 10 ^ 0) (10 ^ 0) = (s.1 + 1, if s.1 = 0 then code else s.2) := by
      show sto (pgB n a b n) s (code * 1 + 0) = _
      rw [Nat.mul_one, Nat.add_zero, sto, if_pos pg]
    rw [ef, fxp, fX44_place_B, h44, ek, if_neg (nI_nlt (Nat.le_refl _) (by omega)), c1]
    rw [Nat.pow_zero, Nat.mul_one] at cl1
    by_cases z : s.1 = 0
    · rw [z, if_pos (show nI 0 = 0 from rfl), nx_eq, bs, nx_eq, p1_ni (by decide), c1, z, nI_1, if_pos rfl]
      refine ⟨_, rfl, by rw [p1_eq], by rw [p1_ni (by decide), p1_eq], fun k i h => by rw [p1_at, if_neg (by omega), p1_at, if_neg (by omega)]⟩
    · rw [if_neg (nI_ne0 (by omega) (by omega)), bs, nx_eq, c1, nI_1, if_neg z]
      refine ⟨_, rfl, by rw [p1_eq], by rw [p1_ni (by decide), c2], fun k i h => by rw [p1_at, if_neg (by omega)]⟩
  | m + 1, d + 1, k, code, mask, last, S, s, h1, h2, pg, hm, mks, hl, h44, hab, c1, c2, cl1 => by
    have lt := pg_lt k code pg
    have p : 0 < 10 ^ m := Nat.pow_pos (by omega)
    have v6 : (10 : Nat) ^ 6 = 1000000 := by decide
    have p6 : (10 : Nat) ^ k * 10 ^ (m + 1) ≤ 10 ^ 6 := by
      rw [← Nat.pow_add]; exact Nat.pow_le_pow_right (by omega) (by omega)
    have lt2 : (code + 1) * 10 ^ (m + 1) ≤ 10 ^ k * 10 ^ (m + 1) := Nat.mul_le_mul_right _ lt
    have ps : (10 : Nat) ^ (m + 1) = 10 * 10 ^ m := by rw [Nat.pow_succ, Nat.mul_comm]
    have e10 : code * 10 ^ (m + 1) = 10 * code * 10 ^ m := by rw [ps, ← Nat.mul_assoc, Nat.mul_comm code 10]
    rw [Nat.add_mul, Nat.one_mul, e10, ps] at lt2
    rw [ps] at p6
    rw [e10] at cl1
    generalize hp : (10 : Nat) ^ m = M at *
    have lim1 : 10 * code * M + 10 * M ≤ 1000000 := by omega
    have lim2 : code ≤ 10 * code * M := by
      have : 1 * code ≤ 10 * code * M := by
        rw [Nat.mul_assoc 10 code M]
        have a1 : code * 1 ≤ code * M := Nat.mul_le_mul_left _ p
        omega
      omega
    rw [fxp, fX44_place_B, h44, if_pos (nI_lt (show k < n by omega) (by omega)), e10, ps]
    obtain ⟨t, et, t1, t2, t3⟩ := loop_up (fun q st x => fX44_place_L35 (fX44_place N d) N (nI k) (nI mask) last (nI code) q st x) n
      (fun j st => st.1 44 3 = nI (fio (pgB n a b n) s (10 * code * M) ((j + 1) * M)).1 ∧ st.1 44 4 = nI (fio (pgB n a b n) s (10 * code * M) ((j + 1) * M)).2 ∧ ∀ k i, ¬ (k = 44 ∧ (i = 3 ∨ i = 4)) → st.1 k i = S.1 k i)
      (fun st => st.1 44 3 = nI (fio (pgB n a b n) s (10 * code * M) ((n + 1) * M)).1 ∧ st.1 44 4 = nI (fio (pgB n a b n) s (10 * code * M) ((n + 1) * M)).2 ∧ ∀ k i, ¬ (k = 44 ∧ (i = 3 ∨ i = 4)) → st.1 k i = S.1 k i)
      (fun q st hI => ⟨st, by
        show fX44_place_L35 (fX44_place N d) N (nI k) (nI mask) last (nI code) (q + 1) st (nI n) = _
        rw [fX44_place_L35, hI.2.2 44 2 (by omega), h44, if_pos (ge_n (by omega))], hI⟩)
      (fun q j st hj hI => by
        right
        obtain ⟨g1, g2, g3⟩ := hI
        show ∃ s', _ ∧ fX44_place_L35 (fX44_place N d) N (nI k) (nI mask) last (nI code) (q + 1) st (nI j) = fX44_place_L35 (fX44_place N d) N (nI k) (nI mask) last (nI code) q s' (nI (j + 1))
        have hab1 := hab j hj
        rw [fX44_place_L35, g3 44 2 (by omega), h44, if_neg (nI_ge hj (by omega)), shb (by omega) (by omega), if_bI0, inb_nI (show j < 6 by omega) (by decide), gd_true, gd_true, cl (show j < 2 ^ 31 by omega), g3 45 j (by omega), g3 46 j (by omega), hab1.1, hab1.2, X_cpt, bs, if_bI0, nI_1 j, mks j hj]
        have pc := pg_child (e := j + 1) pg (by omega)
        rw [decide_eq_true (show 1 ≤ j + 1 ∧ j + 1 ≤ n by omega), Bool.true_and, show j + 1 - 1 = j by omega] at pc
        have lst : (decide (k = 0) || cpt (b (code % 10 - 1)) (a j)) = cpt last (a j) := by
          rw [hl]
          by_cases z : k = 0
          · rw [if_pos z, decide_eq_true z, Bool.true_or]
            unfold cpt
            rw [decide_eq_true (show (-9 : Int32) = -9 from rfl), Bool.true_or, Bool.or_true]
          · rw [if_neg z, decide_eq_false z, Bool.false_or]
        rw [lst] at pc
        have eM : (j + 1 + 1) * M = (j + 1) * M + M := by rw [Nat.add_mul (j + 1) 1 M, Nat.one_mul]
        have eB : 10 * code * M + (j + 1) * M = (10 * code + (j + 1)) * M := (Nat.add_mul _ _ _).symm
        have jm : (j + 1) * M ≤ 6 * M := Nat.mul_le_mul_right _ (by omega)
        have no : pgB n a b (k + 1) (10 * code + (j + 1)) = false → fio (pgB n a b n) s (10 * code * M) ((j + 1 + 1) * M) = fio (pgB n a b n) s (10 * code * M) ((j + 1) * M) := fun q => by
          rw [eM, fio_add, eB]
          exact fio_no M (fun c c1 c2 => int_no (k := k) (m := m) (code := code) (e := j + 1) h1 (by rw [hp]; exact c1) (by rw [hp]; exact c2) q)
        cases hD : hasD k code (j + 1)
        · rw [if_neg (show ¬ (false = true) by decide)]
          rw [hD] at pc
          cases hc : cpt last (a j)
          · rw [hc] at pc
            rw [if_neg (show ¬ (false = true) by decide), bs]
            refine ⟨st, ⟨?_, ?_, g3⟩, rfl⟩
            · rw [no pc]; exact g1
            · rw [no pc]; exact g2
          · rw [hc] at pc
            have em : nI mask ||| (1 <<< (nI j &&& 31)) = nI (mask ||| 2 ^ j) := by rw [sh1 j (by omega), fa_or]
            have ec : (10 : Int32) * nI code + nI j + 1 = nI (10 * code + (j + 1)) := by
              rw [show (10 : Int32) = nI 10 from rfl, pk_mul, nI_add, nI_1]; rfl
            rw [if_pos rfl, em, ec, nI_1 k]
            have fl := fio_le (pgB n a b n) s (10 * code * M) ((j + 1) * M)
            obtain ⟨S', e1, r1, r2, r3⟩ := X_place hN hn m d (k + 1) (10 * code + (j + 1)) (mask ||| 2 ^ j) (b j) st (fio (pgB n a b n) s (10 * code * M) ((j + 1) * M)) (by omega) (by omega) pc (Nat.or_lt_two_pow (n := 6) hm (Nat.pow_lt_pow_right (by omega) (by omega))) (fun j' hj' => by
              rw [Nat.testBit_or, Nat.testBit_two_pow, mks j' hj', hasD, show (10 * code + (j + 1)) % 10 = j + 1 by omega, show (10 * code + (j + 1)) / 10 = code by omega, Bool.or_comm]
              congr 1
              by_cases z : j = j'
              · rw [decide_eq_true z, decide_eq_true (by omega)]
              · rw [decide_eq_false z, decide_eq_false (by omega)]) (by
              rw [if_neg (by omega), show (10 * code + (j + 1)) % 10 = j + 1 by omega, show j + 1 - 1 = j by omega]) (by rw [g3 44 2 (by omega)]; exact h44) (fun j' hj' => by rw [g3 45 j' (by omega), g3 46 j' (by omega)]; exact hab j' hj') g1 g2 (by
              rw [hp, ← eB]; omega)
            rw [e1, bs, bs]
            have er : fio (pgB n a b n) (fio (pgB n a b n) s (10 * code * M) ((j + 1) * M)) ((10 * code + (j + 1)) * 10 ^ m) (10 ^ m) = fio (pgB n a b n) s (10 * code * M) ((j + 1 + 1) * M) := by
              rw [eM, fio_add, eB, hp]
            rw [er] at r1 r2
            exact ⟨S', ⟨r1, r2, fun k i h => by rw [r3 k i h]; exact g3 k i h⟩, rfl⟩
        · rw [hD] at pc
          rw [if_pos rfl, bs]
          refine ⟨st, ⟨?_, ?_, g3⟩, rfl⟩
          · rw [no pc]; exact g1
          · rw [no pc]; exact g2)
      N 0 S (by omega) (by omega) (by
        have e0 : fio (pgB n a b n) s (10 * code * M) ((0 + 1) * M) = s := by
          rw [Nat.zero_add, Nat.one_mul]
          refine fio_no M (fun c c1 c2 => int_no (k := k) (m := m) (code := code) (e := 0) h1 (by rw [hp]; exact c1) (by rw [hp]; exact c2) ?_)
          rw [pg_child pg (by omega)]; rfl
        rw [e0]
        exact ⟨c1, c2, fun _ _ _ => rfl⟩)
    have et2 : fX44_place_L35 (fX44_place N d) N (nI k) (nI mask) last (nI code) N S 0 = some t := et
    rw [et2, bs]
    have ee : fio (pgB n a b n) s (10 * code * M) (10 * M) = fio (pgB n a b n) s (10 * code * M) ((n + 1) * M) := by
      have e1 : 10 * M = (n + 1) * M + (9 - n) * M := by rw [← Nat.add_mul, show n + 1 + (9 - n) = 10 by omega]
      rw [e1, fio_add, ← Nat.add_mul]
      refine fio_no _ (fun c c1 c2 => ?_)
      have p1 : 0 < M := p
      -- the next figure of c is above n
      have q1 : c / M < 10 * code + 10 := by
        rw [Nat.div_lt_iff_lt_mul p1, Nat.add_mul]
        have : (10 * code + (n + 1)) * M + (9 - n) * M = 10 * code * M + 10 * M := by
          rw [← Nat.add_mul, ← Nat.add_mul, show 10 * code + (n + 1) + (9 - n) = 10 * code + 10 by omega]
        omega
      have q2 : 10 * code + (n + 1) ≤ c / M := (Nat.le_div_iff_mul_le p1).mpr c1
      cases q : pgB n a b n c
      · rfl
      · have u := pg_up (n := n) (a := a) (b := b) (k := k + 1) (c := c) m (by rw [show k + 1 + m = n by omega]; exact q)
        rw [hp, show c / M = 10 * code + (c / M - 10 * code) by omega, pg_child pg (by omega), decide_eq_false (by omega), Bool.false_and] at u
        exact absurd u (by decide)
    rw [ee]
    exact ⟨t, rfl, t1, t2, t3⟩
end OZ
