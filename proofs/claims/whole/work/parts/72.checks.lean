/-! the walk: what is looked at behind a cell -/
def lastR (B : Bk) (t : Nat) : Nat := if kd B t = 2 then max t (max (ka B t) (kb B t)) else if kd B t = 4 then max t (ka B t) else t
def sameU (B : Bk) (t : Nat) (τ : Nat → Nat) : Nat := fb_ct (fun d => decide (kd B d = 3) && decide (τ d = τ t)) (t + 1)
def holdR (B : Bk) (t : Nat) (τ : Nat → Nat) : Bool := if kd B t = 2 then decide (τ t = τ (ka B t) * τ (kb B t)) else if kd B t = 3 then decide (sameU B t τ ≤ hocc B (τ t)) else if kd B t = 4 then decide (τ (ka B t) < τ t) else true
def nmS (B : Bk) (s c : Nat) : Bool := thr B c && (pb B s c || lb B s c)
def lsN (B : Bk) (s : Nat) : Nat → Nat
  | 0 => 0
  | n + 1 => if nmS B s n = true then n + 1 else lsN B s n
def sumS (B : Bk) (s : Nat) (τ : Nat → Nat) : Int := mkA B s (fun c => τ c) (fun c => τ c)
abbrev okP (B : Bk) (out c : Nat) (τ : Nat → Nat) : Prop := (∀ t, t < 12 → (kd B t = 2 ∨ kd B t = 3 ∨ kd B t = 4) → lastR B t = c → holdR B t τ = true) ∧ ∀ s, s < sn B → out.testBit s = false → lsN B s 12 = c + 1 → sumS B s τ = tt B s
def okD (B : Bk) (out c : Nat) (τ : Nat → Nat) : Bool := decide (okP B out c τ)
theorem lsN_le (B : Bk) (s : Nat) : ∀ n, lsN B s n ≤ n
  | 0 => Nat.le_refl 0
  | n + 1 => by
    unfold lsN
    have := lsN_le B s n
    split <;> omega
theorem lsN_max (B : Bk) (s : Nat) : ∀ n c, c < n → nmS B s c = true → c + 1 ≤ lsN B s n
  | 0, c, h, _ => by omega
  | n + 1, c, h, q => by
    unfold lsN
    by_cases e : c = n
    · subst e; rw [if_pos q]; omega
    · have := lsN_max B s n c (by omega) q
      have := lsN_le B s n
      split <;> omega
theorem lsN_nm (B : Bk) (s : Nat) : ∀ n c, lsN B s n = c + 1 → nmS B s c = true
  | 0, c, h => by simp [lsN] at h
  | n + 1, c, h => by
    unfold lsN at h
    by_cases q : nmS B s n = true
    · rw [if_pos q] at h
      have : n = c := by omega
      subst this; exact q
    · rw [if_neg q] at h
      exact lsN_nm B s n c h
theorem lastR_ge (B : Bk) (t : Nat) : t ≤ lastR B t ∧ (kd B t = 2 → ka B t ≤ lastR B t ∧ kb B t ≤ lastR B t) ∧ (kd B t = 4 → ka B t ≤ lastR B t) := by
  unfold lastR
  by_cases h : kd B t = 2
  · rw [if_pos h]; omega
  · rw [if_neg h]
    by_cases h4 : kd B t = 4
    · rw [if_pos h4]; omega
    · rw [if_neg h4]; omega
theorem lastR_lt {B : Bk} (ok : okB B) {t : Nat} (ht : t < 12) : lastR B t < 12 := by
  unfold lastR
  by_cases h : kd B t = 2
  · have := ok_2 ok ht h
    rw [if_pos h]; omega
  · rw [if_neg h]
    by_cases h4 : kd B t = 4
    · have := ok_4 ok ht h4
      rw [if_pos h4]; omega
    · rw [if_neg h4]; exact ht
theorem lenX38 : lenX 38 = 12 := rfl
section OI
variable {S S' Y Y' : St} {B : Bk} {out : Nat} {lo hi lo' hi' : Nat → Int} {L L' : Nat → Nat → Bool} {τ : Nat → Nat}
theorem X_sameU {N : Nat} (hN : 12 < N) (ok : okB B) (bx : BX S B) {k t : Nat} (l1 : 12 ≤ lenX k) (l2 : lenX k < 2 ^ 31) (ht : t < 12) (kt : kd B t = 3) (ag : ∀ d, d ≤ t → kd B d = 3 → S.1 k d = nI (τ d) ∧ τ d < 100) : fX25_sameUpTo N S (nI t) k = some (nI (sameU B t τ)) := by
  unfold fX25_sameUpTo
  have e := count_0 (fun q x y => fX25_sameUpTo_L5 N S (nI t) k q x y) (t + 1) (fun d => decide (kd B d = 3) && decide (τ d = τ t)) (fun n x => by
    show fX25_sameUpTo_L5 N S (nI t) k (n + 1) x (nI (t + 1)) = _
    rw [fX25_sameUpTo_L5, if_pos (nI_lt (by omega) (by omega))]) (fun n x i hi' => by
    show fX25_sameUpTo_L5 N S (nI t) k (n + 1) x (nI i) = fX25_sameUpTo_L5 N S (nI t) k n _ (nI (i + 1))
    rw [fX25_sameUpTo_L5, if_neg (nI_nlt (by omega) (by omega)), inb_nI (show i < 12 by omega) (by decide), gd_true, cl (show i < 2 ^ 31 by omega), inb_nI (show i < lenX k by omega) l2, inb_nI (show t < lenX k by omega) l2, gd_true, gd_true, cl (show t < 2 ^ 31 by omega), nI_1]
    have hk := ok_k ok (show i < 12 by omega)
    by_cases k3 : kd B i = 3
    · have a1 := ag i (by omega) k3
      have a2 := ag t (by omega) kt
      rw [X_k bx (show i < 12 by omega) (by omega), k3, if_pos (by decide), a1.1, a2.1]
      by_cases q : τ i = τ t
      · rw [if_pos (by rw [q]), bs, if_pos (by simp [q])]
      · rw [if_neg (by rw [nI_eq (by omega) (by omega)]; exact q), bs, if_neg (by simp [q]), show x + 0 = x by simp]
    · rw [if_neg (show ¬ (decide (kd B i = 3) && decide (τ i = τ t)) = true by simp [k3]), show x + 0 = x by simp]
      by_cases k6 : kd B i = 6
      · rcases bx.1 i (by omega) with w | w
        · rw [w.2, if_neg (by decide), bs]
        · omega
      · rw [X_k bx (show i < 12 by omega) (by omega), if_neg (by rw [show (3 : Int32) = nI 3 from rfl, nI_eq (by omega) (by decide)]; exact k3), bs]) (show t + 1 < N by omega) 0
  have e2 : fX25_sameUpTo_L5 N S (nI t) k N 0 0 = some (nI (0 + sameU B t τ)) := e
  rw [e2, bs, Nat.zero_add]
theorem sameU_le (t : Nat) : sameU B t τ ≤ t + 1 := fb_ct_le _ _
/-- a cell's rule among others, in any array of told numbers -/
theorem X_holds {N : Nat} (hN : 12 < N) (ok : okB B) (bx : BX S B) {k t : Nat} (l1 : 12 ≤ lenX k) (l2 : lenX k < 2 ^ 31) (ht : t < 12) (at' : S.1 k t = nI (τ t) ∧ τ t < 100) (a2 : kd B t = 2 → (S.1 k (ka B t) = nI (τ (ka B t)) ∧ τ (ka B t) < 100) ∧ (S.1 k (kb B t) = nI (τ (kb B t)) ∧ τ (kb B t) < 100)) (a4 : kd B t = 4 → S.1 k (ka B t) = nI (τ (ka B t)) ∧ τ (ka B t) < 100) (a3 : kd B t = 3 → ∀ d, d ≤ t → kd B d = 3 → S.1 k d = nI (τ d) ∧ τ d < 100) (k6 : kd B t < 6) : fX25_holdsAmong N S (nI t) k = some (bI (holdR B t τ)) := by
  have ec : Int32.toNatClampNeg (nI t) = t := cl (by omega)
  have il := inb_nI (show t < lenX k by omega) l2
  unfold fX25_holdsAmong holdR
  rw [inb_nI ht (by decide), gd_true, ec, X_k bx ht k6]
  by_cases k2 : kd B t = 2
  · have o := ok_2 ok ht k2
    have q := a2 k2
    have m : τ (ka B t) * τ (kb B t) < 2 ^ 31 := by
      have := Nat.mul_le_mul (Nat.le_of_lt q.1.2) (Nat.le_of_lt q.2.2)
      omega
    rw [X_a bx ht k6 (by omega), X_b bx ht k6 (by omega) (by omega), k2, if_pos (by decide), il, gd_true, gd_true, inb_nI (show ka B t < lenX k by omega) l2, gd_true, gd_true, inb_nI (show kb B t < lenX k by omega) l2, gd_true, cl (show ka B t < 2 ^ 31 by omega), cl (show kb B t < 2 ^ 31 by omega), at'.1, q.1.1, q.2.1, pk_mul, if_pos rfl]
    by_cases z : τ t = τ (ka B t) * τ (kb B t)
    · rw [if_pos (by rw [z]), bs, decide_eq_true z]; rfl
    · rw [if_neg (by rw [nI_eq (by omega) m]; exact z), bs, decide_eq_false z]; rfl
  rw [if_neg (show ¬ nI (kd B t) = 2 by rw [show (2 : Int32) = nI 2 from rfl, nI_eq (by omega) (by decide)]; exact k2), if_neg k2]
  by_cases k3 : kd B t = 3
  · have h9 := hocc_le B (τ t)
    have h8 := ok.2.1
    have h7 := sameU_le (B := B) (τ := τ) t
    rw [k3, if_pos (by decide), il, gd_true, at'.1, fX22_howOften, inb_nI at'.2 (by decide), gd_true, cl (by omega), bx.2.2.2.2.1 _ at'.2, bs, X_sameU hN ok bx l1 l2 ht k3 (a3 k3), bs, if_pos rfl]
    by_cases z : sameU B t τ ≤ hocc B (τ t)
    · rw [if_neg (nI_nlt z (by omega)), bs, decide_eq_true z]; rfl
    · rw [if_pos (nI_lt (by omega) (by omega)), bs, decide_eq_false z]; rfl
  rw [if_neg (show ¬ nI (kd B t) = 3 by rw [show (3 : Int32) = nI 3 from rfl, nI_eq (by omega) (by decide)]; exact k3), if_neg k3]
  by_cases k4 : kd B t = 4
  · have o := ok_4 ok ht k4
    have q := a4 k4
    rw [X_a bx ht k6 (by omega), k4, if_pos (by decide), il, gd_true, gd_true, inb_nI (show ka B t < lenX k by omega) l2, gd_true, cl (show ka B t < 2 ^ 31 by omega), at'.1, q.1, if_pos rfl]
    by_cases z : τ (ka B t) < τ t
    · rw [if_neg (nI_ge z (by omega)), bs, decide_eq_true z]; rfl
    · rw [if_pos (nI_le (by omega) (by omega)), bs, decide_eq_false z]; rfl
  · rw [if_neg (show ¬ nI (kd B t) = 4 by rw [show (4 : Int32) = nI 4 from rfl, nI_eq (by omega) (by decide)]; exact k4), if_neg k4]; rfl
theorem sumS_b {s : Nat} (h : ∀ c, c < 12 → nmS B s c = true → τ c < 100) : -1200 ≤ sumS B s τ ∧ sumS B s τ ≤ 1200 := by
  have := fb_si_bound (f := tl B s (fun c => τ c) (fun c => τ c)) (c := 100) (by decide) (n := 12) (fun k hk => by
    have hh := h k hk
    unfold tl
    unfold nmS at hh
    revert hh
    cases thr B k <;> cases pb B s k <;> cases lb B s k <;> simp <;> omega)
  unfold sumS mkA
  omega
theorem shbI {p c : Nat} (hp : p < 2 ^ 31) (hc : c < 32) : (nI p >>> (nI c &&& 31)) &&& 1 = iI (if p.testBit c = true then 1 else 0) := by
  rw [shb hp hc]
  cases p.testBit c <;> rfl
theorem X_comes {N : Nat} (hN : 12 < N) (ok : okB B) (bx : BX S B) {k s : Nat} (l1 : 12 ≤ lenX k) (l2 : lenX k < 2 ^ 31) (hs : s < sn B) (ag : ∀ c, c < 12 → nmS B s c = true → S.1 k c = nI (τ c) ∧ τ c < 100) : fX29_comesOut N S (nI s) k = some (bI (decide (sumS B s τ = tt B s))) := by
  obtain ⟨m, hm, m1, m2⟩ := bx.2.1
  have h8 := ok.2.2.2.1
  have b3 := ok.2.2.2.2 s hs
  have e1 := bx.2.2.2.2.2.2 s hs
  have sb := sumS_b (B := B) (s := s) (τ := τ) (fun c hc q => (ag c hc q).2)
  have p1' : sp B s &&& m < 2 ^ 31 := Nat.lt_of_le_of_lt Nat.and_le_left (by omega)
  have p2' : sl B s &&& m < 2 ^ 31 := Nat.lt_of_le_of_lt Nat.and_le_left (by omega)
  have dj := fun c => dis (c := c) ok hs
  have e := sum_0 (fun q x y => fX29_comesOut_L42 N S k (nI (sp B s &&& m)) (nI (sl B s &&& m)) q x y) 12 (fun c => -(tl B s (fun c => τ c) (fun c => τ c) c)) (fun n x => by
    show fX29_comesOut_L42 N S k (nI (sp B s &&& m)) (nI (sl B s &&& m)) (n + 1) x (nI 12) = _
    rw [fX29_comesOut_L42, if_pos (by decide)]) (fun n x i hi' => by
    show fX29_comesOut_L42 N S k (nI (sp B s &&& m)) (nI (sl B s &&& m)) (n + 1) x (nI i) = fX29_comesOut_L42 N S k (nI (sp B s &&& m)) (nI (sl B s &&& m)) n _ (nI (i + 1))
    rw [fX29_comesOut_L42, if_neg (show ¬ (12 : Int32) ≤ nI i from nI_ge hi' (by decide)), inb_nI (show i < lenX k by omega) l2, gd_true, nx_eq, cl (show i < 2 ^ 31 by omega), shbI p1' (by omega), shbI p2' (by omega), nI_1, iI_sub, Nat.testBit_and, Nat.testBit_and, m2 i hi']
    congr 1
    have d := dj i
    have a := ag i hi'
    unfold nmS at a
    rw [← iI_of x, ← iI_of (S.1 k i), iI_mul, iI_sub, iI_add]
    congr 1
    unfold tl
    unfold thr at a ⊢
    revert a d
    unfold pb lb
    cases decide (kd B i ≠ 6)
    · intro _ _; simp
    · cases (sp B s).testBit i <;> cases (sl B s).testBit i <;> intro d a
      · simp
      · have q := a rfl
        have t1 : (S.1 k i).toInt = (τ i : Int) := by rw [q.1, nI_toInt (by omega)]
        simp [t1]
      · have q := a rfl
        have t1 : (S.1 k i).toInt = (τ i : Int) := by rw [q.1, nI_toInt (by omega)]
        simp [t1]
        omega
      · exact absurd ⟨rfl, rfl⟩ d) hN (tt B s)
  have e2 : fX29_comesOut_L42 N S k (nI (sp B s &&& m)) (nI (sl B s &&& m)) N (iI (tt B s)) 0 = some (iI (tt B s + fb_si (fun c => -(tl B s (fun c => τ c) (fun c => τ c) c)) 12)) := e
  have e3 : fb_si (fun c => -(tl B s (fun c => τ c) (fun c => τ c) c)) 12 = -(sumS B s τ) := by
    have := fb_si_sub (fun _ => 0) (tl B s (fun c => (τ c : Int)) (fun c => (τ c : Int))) 12
    rw [si_0] at this
    rw [show sumS B s τ = fb_si (tl B s (fun c => (τ c : Int)) (fun c => (τ c : Int))) 12 from rfl]
    rw [← Int.zero_sub (fb_si _ 12), ← this]
    exact fb_si_cong (fun k _ => by show -(_ : Int) = 0 - _; omega)
  unfold fX29_comesOut
  rw [inb_nI (show s < 8 by omega) (by decide), gd_true, fX25_thereBits, m1, bs, nx_eq, gd_true, bs, nx_eq, gd_true, nx_eq, cl (show s < 2 ^ 31 by omega), e1.1, e1.2.1, e1.2.2, fa_and, fa_and, e2, bs, e3]
  have z : (iI (tt B s + -sumS B s τ) = 0) ↔ sumS B s τ = tt B s := by
    rw [show (0 : Int32) = iI 0 from rfl, iI_eq (by omega) (by omega) (by omega) (by omega)]
    omega
  by_cases q : sumS B s τ = tt B s
  · rw [if_pos (z.mpr q), decide_eq_true q]; rfl
  · rw [if_neg (fun w => q (z.mp w)), decide_eq_false q]; rfl
theorem sg_nm {s c : Nat} : sg B s c = 0 ↔ nmS B s c = false := by
  rw [sg_0]
  unfold nmS
  cases thr B c <;> cases (pb B s c || lb B s c) <;> simp
theorem X_lastS {N : Nat} (hN : 13 < N) (ok : okB B) (bx : BX S B) {s : Nat} (hs : s < sn B) : fX29_lastNamed N S (nI s) = some (iI ((lsN B s 12 : Int) - 1)) := by
  have key : ∀ n m, m < n → m ≤ 12 → (fX29_lastNamed_L3 N S (nI s) n (iI ((m : Int) - 1)) = some (if lsN B s m = 0 then .inr () else .inl (iI ((lsN B s m : Int) - 1)))) := by
    intro n
    induction n with
    | zero => intro m h; omega
    | succ n ih =>
      intro m h h12
      rw [fX29_lastNamed_L3]
      cases m with
      | zero =>
        rw [if_pos (by decide), show lsN B s 0 = 0 from rfl, if_pos rfl]
      | succ m =>
        have e : iI (((m + 1 : Nat) : Int) - 1) = nI m := by rw [iI_nat]; congr 1; omega
        rw [e, if_neg (nI_pos (by omega)), X_sign ok bx hs (by omega), bs, lsN]
        by_cases q : nmS B s m = true
        · rw [if_neg (fun w => by rw [sg_nm.mp w] at q; exact absurd q (by decide)), if_pos q, if_neg (by omega), iI_nat]
          congr 3; omega
        · rw [if_pos (sg_nm.mpr (by simpa using q)), if_neg q, show nI m + (-1) = iI ((m : Int) - 1) by (rw [iI_nat, show (-1 : Int32) = iI (-1) from by decide, iI_add]; congr 1), ih m (by omega) (by omega)]
  unfold fX29_lastNamed
  have := key N 12 (by omega) (by omega)
  rw [show iI (((12 : Nat) : Int) - 1) = 11 from rfl] at this
  rw [this, bs]
  by_cases z : lsN B s 12 = 0
  · rw [if_pos z, z]; rfl
  · rw [if_neg z]; rfl
theorem X_others (ok : okB B) (bx : BX S B) {t : Nat} (ht : t < 12) : fX25_looksAtOthers S (nI t) = some (bI (decide (kd B t = 2 ∨ kd B t = 3 ∨ kd B t = 4))) := by
  have hk := ok_k ok ht
  unfold fX25_looksAtOthers
  rw [inb_nI ht (by decide), gd_true, gd_true, gd_true, cl (by omega)]
  rcases (show kd B t = 0 ∨ kd B t = 1 ∨ kd B t = 2 ∨ kd B t = 3 ∨ kd B t = 4 ∨ kd B t = 5 ∨ kd B t = 6 by omega) with h | h | h | h | h | h | h
  iterate 6 (rw [X_k bx ht (by omega), h]; rfl)
  · rcases bx.1 t ht with w | w
    · rw [w.2, h]; rfl
    · omega
theorem X_lastR (ok : okB B) (bx : BX S B) {t : Nat} (ht : t < 12) (k6 : kd B t < 6) : fX25_lastNamed S (nI t) = some (nI (lastR B t)) := by
  unfold fX25_lastNamed lastR
  rw [inb_nI ht (by decide), gd_true, gd_true, gd_true, cl (show t < 2 ^ 31 by omega), X_k bx ht k6]
  have mx : ∀ a b : Nat, a < 12 → b < 12 → (if nI a < nI b then nI b else nI a) = nI (max a b) := fun a b ha hb => by
    by_cases q : a < b
    · rw [if_pos (nI_lt q (by omega)), Nat.max_eq_right (by omega)]
    · rw [if_neg (nI_nlt (by omega) (by omega)), Nat.max_eq_left (by omega)]
  by_cases k2 : kd B t = 2
  · have o := ok_2 ok ht k2
    rw [X_a bx ht k6 (by omega), X_b bx ht k6 (by omega) (by omega), k2, if_pos (by decide), if_pos rfl, nx_eq, nx_eq, mx _ _ o.1 o.2.1, mx _ _ ht (by omega)]
  rw [if_neg (show ¬ nI (kd B t) = 2 by rw [show (2 : Int32) = nI 2 from rfl, nI_eq (by omega) (by decide)]; exact k2), if_neg k2]
  by_cases k4 : kd B t = 4
  · have o := ok_4 ok ht k4
    rw [X_a bx ht k6 (by omega), k4, if_pos (by decide), if_pos rfl, gd_true, nx_eq, mx _ _ ht o.1]
  · rw [if_neg (show ¬ nI (kd B t) = 4 by rw [show (4 : Int32) = nI 4 from rfl, nI_eq (by omega) (by decide)]; exact k4), if_neg k4]
end OI
