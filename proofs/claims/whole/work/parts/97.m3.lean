/-! matches: the class -/
theorem shl_13 : ∀ n, n < 13 → (1 : Int32) <<< (nI n &&& 31) = nI (2 ^ n) := by decide
def OPX (S : St) (B : Bk) (L : Nat → Nat → Bool) (om : Nat → Nat) (n : Nat) : Prop := S.1 47 8 = nI n ∧ ∀ k, k < n → S.1 48 k = nI (ce3 B k) ∧ S.1 49 k = nI (om k) ∧ om k < 4096 ∧ ∀ i, i < 12 → (om k).testBit i = (decide (i < hn B) && L (ce3 B k) (hv B i))
def obN (om : Nat → Nat) (m s : Nat) : Nat := if bc s < m then om (bc s) &&& (4095 ^^^ s) else 0
section PJ
variable {S S' : St} {B : Bk} {L : Nat → Nat → Bool} {lo hi : Nat → Int} {om : Nat → Nat}
theorem X_is3 (bx : BX S B) {c : Nat} (hc : c < 12) : S.1 26 c = 3 ↔ kd B c = 3 := by
  rcases cX_k (bx.1 c hc) with ⟨h1, h2⟩ | ⟨h1, h2⟩
  · rw [h2, h1]; exact ⟨fun q => absurd q (by decide), fun q => absurd q (by decide)⟩
  · rw [h2, show (3 : Int32) = nI 3 from rfl, nI_eq (by omega) (by omega)]
theorem X_open50 {N : Nat} (hN : 61 < N) (ok : okB B) (bx : BX S B) (fx : FNX S B) (ex : ENX S B lo hi) (hL : ∀ c, c < 12 → thr B c = true → ∀ v, v < 100 → L c v = lfE B lo hi c v) {c k : Nat} (hc : c < 12) (tc : thr B c = true) (hk : k < 12) (h47 : S.1 47 8 = nI k) (h49 : S.1 49 k = 0) : ∃ S' w, fX47_findOpenPlaces_L50 N (nI c) N S 0 = some S' ∧ S'.1 49 k = nI w ∧ w < 4096 ∧ (∀ j, j < 12 → w.testBit j = (decide (j < hn B) && L c (hv B j))) ∧ ∀ a b, ¬ (a = 49 ∧ b = k) → S'.1 a b = S.1 a b := by
  have h12 := ok.2.1
  obtain ⟨S', e, w, a1, a2, a3, a4⟩ := loop_up (fun q st x => fX47_findOpenPlaces_L50 N (nI c) q st x) (hn B)
    (fun i st => ∃ w, st.1 49 k = nI w ∧ w < 4096 ∧ (∀ j, j < 12 → w.testBit j = (decide (j < i) && L c (hv B j))) ∧ ∀ a b, ¬ (a = 49 ∧ b = k) → st.1 a b = S.1 a b)
    (fun st => ∃ w, st.1 49 k = nI w ∧ w < 4096 ∧ (∀ j, j < 12 → w.testBit j = (decide (j < hn B) && L c (hv B j))) ∧ ∀ a b, ¬ (a = 49 ∧ b = k) → st.1 a b = S.1 a b)
    (fun q st hI => ⟨st, by
      obtain ⟨w, _, _, _, o⟩ := hI
      show fX47_findOpenPlaces_L50 N (nI c) (q + 1) st (nI (hn B)) = _
      rw [fX47_findOpenPlaces_L50, fX22_howMany, bs, o 22 2 (by omega), bx.2.2.1, if_pos (ge_n (by omega))], hI⟩)
    (fun q i st hil hI => by
      right
      obtain ⟨w, a1, a2, a3, o⟩ := hI
      show ∃ s', _ ∧ fX47_findOpenPlaces_L50 N (nI c) (q + 1) st (nI i) = fX47_findOpenPlaces_L50 N (nI c) q s' (nI (i + 1))
      have hv100 := ok.2.2.1 i hil
      have fx2 : FNX st B := fun c hc tc v hv => by rw [o 34 _ (by omega)]; exact fx c hc tc v hv
      have ex2 : ENX st B lo hi := fun c hc tc => by rw [o 35 _ (by omega), o 36 _ (by omega)]; exact ex c hc tc
      rw [fX47_findOpenPlaces_L50, fX22_howMany, bs, o 22 2 (by omega), bx.2.2.1, if_neg (nI_ge hil (by omega)), fX22_numberAt, inb_nI (show i < 12 by omega) (by decide), gd_true, cl (show i < 2 ^ 31 by omega), bs, o 23 i (by omega), bx.2.2.2.1 i hil, X_isLeft0 fx2 ex2 hc tc hv100, bs, ← hL c hc tc _ hv100, if_bI0, o 47 8 (by omega), h47, inb_nI hk (by decide), gd_true, gd_true, nx_eq, cl (show k < 2 ^ 31 by omega), a1, sh1 i (by omega), fa_or, nI_1]
      have p12 := pw12 i (by omega)
      cases hl : L c (hv B i)
      · rw [if_neg (show ¬ (false = true) by decide), bs]
        refine ⟨st, ⟨w, a1, a2, fun j hj => ?_, o⟩, rfl⟩
        rw [a3 j hj]
        by_cases z : j = i
        · rw [z, hl, Bool.and_false, Bool.and_false]
        · congr 1
          by_cases y : j < i
          · rw [decide_eq_true y, decide_eq_true (by omega)]
          · rw [decide_eq_false y, decide_eq_false (by omega)]
      · rw [if_pos rfl, bs]
        refine ⟨_, ⟨w ||| 2 ^ i, by rw [p1_eq], Nat.or_lt_two_pow (n := 12) a2 p12, fun j hj => ?_, fun a b hab => by rw [p1_at, if_neg hab]; exact o a b hab⟩, rfl⟩
        rw [Nat.testBit_or, Nat.testBit_two_pow, a3 j hj]
        by_cases z : i = j
        · subst z
          rw [decide_eq_true rfl, Bool.or_true, hl, decide_eq_true (by omega)]; rfl
        · rw [decide_eq_false z, Bool.or_false]
          congr 1
          by_cases y : j < i
          · rw [decide_eq_true y, decide_eq_true (by omega)]
          · rw [decide_eq_false y, decide_eq_false (by omega)])
    N 0 S (by omega) (by omega) ⟨0, h49, by omega, fun j hj => by rw [Nat.zero_testBit, decide_eq_false (by omega)]; rfl, fun _ _ _ => rfl⟩
  exact ⟨S', w, e, a1, a2, a3, a4⟩
theorem X_open {N : Nat} (hN : 61 < N) (ok : okB B) (bx : BX S B) (fx : FNX S B) (ex : ENX S B lo hi) (hL : ∀ c, c < 12 → thr B c = true → ∀ v, v < 100 → L c v = lfE B lo hi c v) : ∃ S' om, fX47_findOpenPlaces N S = some S' ∧ OPX S' B L om (m3 B) ∧ ∀ a b, ¬ (a = 47 ∧ b = 8) → a ≠ 48 → a ≠ 49 → S'.1 a b = S.1 a b := by
  obtain ⟨S', e, om, a1, a2⟩ := loop_up (fun q st x => fX47_findOpenPlaces_L7 N q st x) 12
    (fun c st => ∃ om, OPX st B L om (fb_ct (k3 B) c) ∧ ∀ a b, ¬ (a = 47 ∧ b = 8) → a ≠ 48 → a ≠ 49 → st.1 a b = S.1 a b)
    (fun st => ∃ om, OPX st B L om (fb_ct (k3 B) 12) ∧ ∀ a b, ¬ (a = 47 ∧ b = 8) → a ≠ 48 → a ≠ 49 → st.1 a b = S.1 a b)
    (fun q st hI => ⟨st, by
      show fX47_findOpenPlaces_L7 N (q + 1) st (nI 12) = _
      rw [fX47_findOpenPlaces_L7, if_pos (by decide)], hI⟩)
    (fun q c st hc hI => by
      right
      obtain ⟨om, ⟨h47, hop⟩, o⟩ := hI
      show ∃ s', _ ∧ fX47_findOpenPlaces_L7 N (q + 1) st (nI c) = fX47_findOpenPlaces_L7 N q s' (nI (c + 1))
      have b1 : BX st B := BX_c bx (funext fun q => o 26 q (by omega) (by decide) (by decide)) (funext fun q => o 27 q (by omega) (by decide) (by decide)) (funext fun q => o 28 q (by omega) (by decide) (by decide)) (o _ _ (by omega) (by decide) (by decide)) (o _ _ (by omega) (by decide) (by decide)) (funext fun q => o 23 q (by omega) (by decide) (by decide)) (funext fun q => o 24 q (by omega) (by decide) (by decide)) (o _ _ (by omega) (by decide) (by decide)) (funext fun q => o 30 q (by omega) (by decide) (by decide)) (funext fun q => o 31 q (by omega) (by decide) (by decide)) (funext fun q => o 32 q (by omega) (by decide) (by decide))
      have kb := fb_ct_le (k3 B) c
      rw [fX47_findOpenPlaces_L7, if_neg (show ¬ (12 : Int32) ≤ nI c from nI_ge hc (by decide)), fX25_kindOf, inb_nI hc (by decide), gd_true, cl (show c < 2 ^ 31 by omega), bs, nI_1]
      by_cases z : kd B c = 3
      rotate_left
      · rw [if_neg (fun w => z ((X_is3 b1 hc).mp w)), bs]
        refine ⟨st, ⟨om, ?_, o⟩, rfl⟩
        rw [fb_ct_succ, show k3 B c = false from decide_eq_false z, if_neg (by decide)]
        exact ⟨h47, hop⟩
      have tk : k3 B c = true := decide_eq_true z
      have tc : thr B c = true := by rw [thr_t]; omega
      have ec : ce3 B (fb_ct (k3 B) c) = c := nC_at hc tk
      have esucc : fb_ct (k3 B) (c + 1) = fb_ct (k3 B) c + 1 := by rw [fb_ct_succ, tk]; rfl
      rw [esucc]
      generalize fb_ct (k3 B) c = k at h47 hop kb ec ⊢
      have ibk := inb_nI (show k < 12 by omega) (show 12 < 2 ^ 31 by decide)
      have ek : Int32.toNatClampNeg (nI k) = k := cl (by omega)
      have e47 : (p1 st 48 k (nI c)).1 47 8 = nI k := by rw [p1_ne (by decide)]; exact h47
      rw [if_pos ((X_is3 b1 hc).mpr z), h47, ibk, gd_true, nx_eq, ek, e47, ibk, gd_true, nx_eq, ek]
      have o2 : ∀ a b, ¬ (a = 47 ∧ b = 8) → a ≠ 48 → a ≠ 49 → (p1 (p1 st 48 k (nI c)) 49 k 0).1 a b = S.1 a b := fun a b h1 h2 h3 => by rw [p1_ne h3, p1_ne h2]; exact o a b h1 h2 h3
      have b2 : BX (p1 (p1 st 48 k (nI c)) 49 k 0) B := BX_c bx (funext fun q => o2 26 q (by omega) (by decide) (by decide)) (funext fun q => o2 27 q (by omega) (by decide) (by decide)) (funext fun q => o2 28 q (by omega) (by decide) (by decide)) (o2 _ _ (by omega) (by decide) (by decide)) (o2 _ _ (by omega) (by decide) (by decide)) (funext fun q => o2 23 q (by omega) (by decide) (by decide)) (funext fun q => o2 24 q (by omega) (by decide) (by decide)) (o2 _ _ (by omega) (by decide) (by decide)) (funext fun q => o2 30 q (by omega) (by decide) (by decide)) (funext fun q => o2 31 q (by omega) (by decide) (by decide)) (funext fun q => o2 32 q (by omega) (by decide) (by decide))
      obtain ⟨T, w, eT, t1, t2, t3, t4⟩ := X_open50 (N := N) hN ok b2 (fun c hc tc v hv => by rw [o2 34 _ (by omega) (by decide) (by decide)]; exact fx c hc tc v hv) (fun c hc tc => by rw [o2 35 _ (by omega) (by decide) (by decide), o2 36 _ (by omega) (by decide) (by decide)]; exact ex c hc tc) hL hc tc (show k < 12 by omega) (by rw [p1_ne (by decide)]; exact e47) (by rw [p1_eq])
      have e47' : T.1 47 8 = nI k := by rw [t4 47 8 (by omega), p1_ne (by decide)]; exact e47
      rw [eT, bs, nx_eq, e47', nI_1, bs]
      refine ⟨p1 T 47 8 (nI (k + 1)), ⟨fun k' => if k' = k then w else om k', ⟨?_, fun k' hk' => ?_⟩, fun a b h1 h2 h3 => ?_⟩, rfl⟩
      · rw [p1_eq]
      · rw [p1_ne (by decide), p1_ne (by decide)]
        dsimp only
        by_cases z : k' = k
        · subst z
          rw [if_pos rfl, t4 48 k' (by omega), p1_ne (by decide), p1_eq, ec]
          exact ⟨rfl, t1, t2, t3⟩
        · rw [if_neg z, t4 48 k' (by omega), t4 49 k' (by omega), p1_ne (by decide), p1_ni z, p1_ni z, p1_ne (by decide)]
          exact hop k' (by omega)
      · rw [p1_at, if_neg h1, t4 a b (by omega)]; exact o2 a b h1 h2 h3)
    N 0 (p1 S 47 8 0) (by omega) (by omega) ⟨fun _ => 0, ⟨by rw [p1_eq]; rfl, fun k hk => absurd hk (Nat.not_lt_zero _)⟩, fun a b h1 _ _ => by rw [p1_at, if_neg h1]⟩
  have e2 : fX47_findOpenPlaces_L7 N N (p1 S 47 8 0) 0 = some S' := e
  exact ⟨S', om, by rw [fX47_findOpenPlaces, nx_eq, e2, bs], a1, a2⟩
end PJ
