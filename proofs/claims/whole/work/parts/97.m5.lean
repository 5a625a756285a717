/-! matches: the class, behind and used -/
section PL
variable {S S' : St} {B : Bk} {L : Nat → Nat → Bool} {om : Nat → Nat} {s : Nat}
theorem m3_le (B : Bk) : m3 B ≤ 12 := fb_ct_le _ _
theorem beh_V (ok : okB B) (t : Nat) : beh B L t ≤ 479001600 := by
  have h12 := ok.2.1
  unfold beh
  split
  · have e2 := EE_V (o := oL B L) h12 (W := fun _ => 1) (fun u => Vw_pos u) (m3 B - bc t) (bc t) t
    have e3 := Vw_le t
    omega
  · omega
theorem beh_s (ok : okB B) (h : MX S B L om) (hs : s < 4096) : (if bc s = m3 B then 1 else 0) + sumN (fun j => if (obN om (m3 B) s).testBit j = true then beh B L (s ||| 2 ^ j) else 0) 12 = beh B L s := by
  have h12 := ok.2.1
  have tb := (ob_b h hs).2
  by_cases z : bc s < m3 B
  · rw [if_neg (by omega), Nat.zero_add, sumN_ext h12 (fun i h1 h2 => by
      try dsimp only
      rw [tb i h2, decide_eq_false (show ¬ i < hn B by omega)]; rfl)]
    obtain ⟨r, hr⟩ : ∃ r, m3 B - bc s = r + 1 := ⟨m3 B - bc s - 1, by omega⟩
    have e1 : beh B L s = exN (hn B) (oL B L (bc s)) (fun u => EE (hn B) (oL B L) (fun _ => 1) r (bc s + 1) u) s := by
      unfold beh
      rw [if_pos (by omega), hr, EE]
    rw [e1]
    refine sumN_cong (hn B) (fun j hj => ?_)
    rw [tb j (by omega), decide_eq_true hj, Bool.true_and, Bool.and_comm]
    cases hb : (!s.testBit j && oL B L (bc s) j)
    · rfl
    · rw [if_pos rfl, if_pos rfl]
      rw [Bool.and_eq_true, Bool.not_eq_true'] at hb
      unfold beh
      rw [bc_or (by omega) hb.1, if_pos (by omega), show m3 B - (bc s + 1) = r by omega]
  · have e0 : obN om (m3 B) s = 0 := by unfold obN; rw [if_neg z]
    rw [e0, sumN_cong (g := fun _ => 0) 12 (fun i _ => by rw [Nat.zero_testBit]; rfl), sumN_0, Nat.add_zero]
    unfold beh
    by_cases y : bc s = m3 B
    · rw [if_pos y, if_pos (by omega), y, Nat.sub_self]; rfl
    · rw [if_neg y, if_neg (by omega)]
theorem X_behind {N : Nat} (hN : 5000 < N) (ok : okB B) (h : MX S B L om) : ∃ S', fX47_countBehind N S = some S' ∧ (∀ t, t < 2 ^ hn B → S'.1 52 t = nI (beh B L t)) ∧ ∀ a b, a ≠ 52 → S'.1 a b = S.1 a b := by
  have ph := p_h ok
  have pp : 0 < 2 ^ hn B := Nat.pow_pos (by omega)
  obtain ⟨T, eT, t1, t2⟩ := loop_me (fun q (x : St × Nat) => fX47_countBehind_L7 N q x.1 (iI ((x.2 : Int) - 1)))
    (fun x => x.2 ≤ 2 ^ hn B ∧ (∀ t, x.2 ≤ t → t < 2 ^ hn B → x.1.1 52 t = nI (beh B L t)) ∧ ∀ a b, a ≠ 52 → x.1.1 a b = S.1 a b)
    (fun x => x.2)
    (fun T => (∀ t, t < 2 ^ hn B → T.1 52 t = nI (beh B L t)) ∧ ∀ a b, a ≠ 52 → T.1 a b = S.1 a b)
    (fun q x hI => by
      obtain ⟨st, n⟩ := x
      obtain ⟨hn1, g1, o⟩ := hI
      dsimp only at hn1 g1 o ⊢
      suffices H : (∃ t, fX47_countBehind_L7 N (q + 1) st (iI ((n : Int) - 1)) = some t ∧ ((∀ u, u < 2 ^ hn B → t.1 52 u = nI (beh B L u)) ∧ ∀ a b, a ≠ 52 → t.1 a b = S.1 a b)) ∨ ∃ st' n', (n' ≤ 2 ^ hn B ∧ (∀ t, n' ≤ t → t < 2 ^ hn B → st'.1 52 t = nI (beh B L t)) ∧ ∀ a b, a ≠ 52 → st'.1 a b = S.1 a b) ∧ n' < n ∧ fX47_countBehind_L7 N (q + 1) st (iI ((n : Int) - 1)) = fX47_countBehind_L7 N q st' (iI ((n' : Int) - 1)) by
        rcases H with H | ⟨st', n', h1, h2, h3⟩
        · exact Or.inl H
        · exact Or.inr ⟨(st', n'), h1, h2, h3⟩
      rw [fX47_countBehind_L7]
      cases n with
      | zero =>
        left
        rw [if_pos (show iI (((0 : Nat) : Int) - 1) < 0 by decide)]
        exact ⟨st, rfl, fun t ht => g1 t (Nat.zero_le _) ht, o⟩
      | succ s =>
        right
        have es : iI (((s + 1 : Nat) : Int) - 1) = nI s := by rw [show ((s + 1 : Nat) : Int) - 1 = (s : Int) by omega, iI_nat]
        have bl := bc_le s
        have ml := m3_le B
        have eb : bcI (nI s) = nI (bc s) := bc_all s (by omega)
        have hM : MX st B L om := MX_o h (fun a b _ => o a b (by omega))
        have e7 : (if nI (bc s) = st.1 47 8 then some (1 : Int32) else some 0) = some (nI (if bc s = m3 B then 1 else 0)) := by
          rw [hM.2.2.1]
          by_cases z : bc s = m3 B
          · rw [if_pos (by rw [z]), if_pos z]; rfl
          · rw [if_neg (by rw [nI_eq (by omega) (by omega)]; exact z), if_neg z]; rfl
        rw [es, if_neg (nI_pos (by omega)), bc_e, bs, eb, e7, bs, inb_nI (show s < 4096 by omega) (by decide), gd_true, nx_eq, cl (show s < 2 ^ 31 by omega)]
        have hM2 : MX (p1 st 52 s (nI (if bc s = m3 B then 1 else 0))) B L om := MX_o hM (fun a b hab => by rw [p1_ne (by omega)])
        rw [X_ob hM2 (by omega), bs]
        have obb := ob_b hM2 (show s < 4096 by omega)
        obtain ⟨V, eV, v1, v2⟩ := bits_loop (fun q st x => fX47_countBehind_L41 N (nI s) (nI (obN om (m3 B) s)) q st x) (b := obN om (m3 B) s)
          (fun i st' => st'.1 52 s = nI ((if bc s = m3 B then 1 else 0) + sumN (fun j => if (obN om (m3 B) s).testBit j = true then beh B L (s ||| 2 ^ j) else 0) i) ∧ ∀ a b, ¬ (a = 52 ∧ b = s) → st'.1 a b = st.1 a b)
          (fun n st => by
            show fX47_countBehind_L41 N (nI s) (nI (obN om (m3 B) s)) (n + 1) st (nI 12) = _
            rw [fX47_countBehind_L41, if_pos (by decide)])
          (fun n st i hi z => by
            show fX47_countBehind_L41 N (nI s) (nI (obN om (m3 B) s)) (n + 1) st (nI i) = _
            rw [fX47_countBehind_L41, if_neg (show ¬ (12 : Int32) ≤ nI i from nI_ge hi (by decide)), shB (show obN om (m3 B) s < 2 ^ 31 by omega) (show i < 32 by omega), z, if_pos (show nI 0 = 0 from rfl)])
          (fun n st i hi z tb => by
            show fX47_countBehind_L41 N (nI s) (nI (obN om (m3 B) s)) (n + 1) st (nI i) = fX47_countBehind_L41 N (nI s) (nI (obN om (m3 B) s)) n st (nI (i + 1))
            rw [fX47_countBehind_L41, if_neg (show ¬ (12 : Int32) ≤ nI i from nI_ge hi (by decide)), shb (show obN om (m3 B) s < 2 ^ 31 by omega) (show i < 32 by omega), shB (show obN om (m3 B) s < 2 ^ 31 by omega) (show i < 32 by omega), if_neg (nI_ne0 (Nat.pos_of_ne_zero z) (Nat.lt_of_le_of_lt (Nat.div_le_self _ _) (by omega))), tb, if_pos bI_f, bs, nI_1])
          (fun n st' i hi z tbi hI => by
            obtain ⟨w1, w2⟩ := hI
            show ∃ st'', fX47_countBehind_L41 N (nI s) (nI (obN om (m3 B) s)) (n + 1) st' (nI i) = fX47_countBehind_L41 N (nI s) (nI (obN om (m3 B) s)) n st'' (nI (i + 1)) ∧ _
            have ti := ob_e hM2 (by omega) hi tbi
            have ug := or_gt ti.2.2
            have u4 : s ||| 2 ^ i < 2 ^ hn B := Nat.or_lt_two_pow (by omega) (Nat.pow_lt_pow_right (by omega) ti.1)
            have e52 : st'.1 52 (s ||| 2 ^ i) = nI (beh B L (s ||| 2 ^ i)) := by
              rw [w2 52 _ (by omega)]; exact g1 _ (by omega) u4
            rw [fX47_countBehind_L41, if_neg (show ¬ (12 : Int32) ≤ nI i from nI_ge hi (by decide)), shb (show obN om (m3 B) s < 2 ^ 31 by omega) (show i < 32 by omega), shB (show obN om (m3 B) s < 2 ^ 31 by omega) (show i < 32 by omega), if_neg (nI_ne0 (Nat.pos_of_ne_zero z) (Nat.lt_of_le_of_lt (Nat.div_le_self _ _) (by omega))), tbi, if_neg (show ¬ bI true = 0 by decide), sh1 i hi, fa_or, inb_nI (show s < 4096 by omega) (by decide), gd_true, inb_nI (show s ||| 2 ^ i < 4096 by omega) (by decide), gd_true, gd_true, nx_eq, bs, cl (show s ||| 2 ^ i < 2 ^ 31 by omega), cl (show s < 2 ^ 31 by omega), w1, e52, nI_add, nI_1]
            refine ⟨_, rfl, ?_, fun a b hab => by rw [p1_at, if_neg hab]; exact w2 a b hab⟩
            rw [p1_eq, sumN, tbi, if_pos rfl, Nat.add_assoc])
          (fun st' i hi tbi hI => by
            refine ⟨?_, hI.2⟩
            rw [sumN, tbi, if_neg (show ¬ (false = true) by decide), Nat.add_zero]; exact hI.1)
          (show 12 < N by omega) (st := p1 st 52 s (nI (if bc s = m3 B then 1 else 0))) ⟨by rw [p1_eq]; rfl, fun a b hab => by rw [p1_at, if_neg hab]⟩
        have eV2 : fX47_countBehind_L41 N (nI s) (nI (obN om (m3 B) s)) N (p1 st 52 s (nI (if bc s = m3 B then 1 else 0))) 0 = some V := eV
        rw [beh_s ok hM2 (by omega)] at v1
        rw [eV2, bs]
        refine ⟨V, s, ⟨by omega, fun t h1 h2 => ?_, fun a b ha => by rw [v2 a b (by omega)]; exact o a b ha⟩, by omega, ?_⟩
        · by_cases e : t = s
          · rw [e]; exact v1
          · rw [v2 52 t (by omega)]; exact g1 t (by omega) h2
        · rw [iI_nat s, show (-1 : Int32) = iI (-1) from rfl, iI_add]; rfl)
    N (S, 2 ^ hn B) (by show 2 ^ hn B < N; omega) ⟨Nat.le_refl _, fun t h1 h2 => by exfalso; omega, fun _ _ _ => rfl⟩
  refine ⟨T, ?_, t1, t2⟩
  have eT2 : fX47_countBehind_L7 N N S (iI (((2 ^ hn B : Nat) : Int) - 1)) = some T := eT
  rw [fX47_countBehind, X_sets h ok, bs, iI_nat (2 ^ hn B), show (1 : Int32) = iI 1 from rfl, iI_sub, eT2, bs]
theorem X_used {N : Nat} (hN : 5000 < N) (ok : okB B) (h : MX S B L om) {R : Nat → Bool} (h51 : ∀ t, t < 2 ^ hn B → S.1 51 t = bI (R t) ∧ (R t = true ↔ RC B L t)) (h52 : ∀ t, t < 2 ^ hn B → S.1 52 t = nI (beh B L t)) {k : Nat} (hk : k < 12) : ∃ u, fX47_usedPlaces N S (nI k) = some (nI u) ∧ u < 4096 ∧ ∀ i, i < 12 → (u.testBit i = true ↔ ∃ s, s < 2 ^ hn B ∧ bc s = k ∧ RC B L s ∧ (i < hn B ∧ oL B L (bc s) i = true ∧ s.testBit i = false) ∧ 0 < beh B L (s ||| 2 ^ i)) := by
  have ph := p_h ok
  obtain ⟨x, e, u, rfl, u1, u2⟩ := loop_up (fun q (x : Int32) y => fX47_usedPlaces_L4 N S (nI k) q x y) (2 ^ hn B)
    (fun s x => ∃ u, x = nI u ∧ u < 4096 ∧ ∀ i, i < 12 → (u.testBit i = true ↔ ∃ s', s' < s ∧ bc s' = k ∧ RC B L s' ∧ (i < hn B ∧ oL B L (bc s') i = true ∧ s'.testBit i = false) ∧ 0 < beh B L (s' ||| 2 ^ i)))
    (fun x => ∃ u, x = nI u ∧ u < 4096 ∧ ∀ i, i < 12 → (u.testBit i = true ↔ ∃ s', s' < 2 ^ hn B ∧ bc s' = k ∧ RC B L s' ∧ (i < hn B ∧ oL B L (bc s') i = true ∧ s'.testBit i = false) ∧ 0 < beh B L (s' ||| 2 ^ i)))
    (fun q x hI => ⟨x, by
      show fX47_usedPlaces_L4 N S (nI k) (q + 1) x (nI (2 ^ hn B)) = _
      rw [fX47_usedPlaces_L4, X_sets h ok, bs, if_pos (ge_n (by omega))], hI⟩)
    (fun q s x hs hI => by
      right
      obtain ⟨u, rfl, u1, u2⟩ := hI
      show ∃ s', _ ∧ fX47_usedPlaces_L4 N S (nI k) (q + 1) (nI u) (nI s) = fX47_usedPlaces_L4 N S (nI k) q s' (nI (s + 1))
      have bl := bc_le s
      have eb : bcI (nI s) = nI (bc s) := bc_all s (by omega)
      rw [fX47_usedPlaces_L4, X_sets h ok, bs, if_neg (nI_ge hs (by omega)), bc_e, bs, eb, nI_1]
      have grow : ∀ u' : Nat, (∀ i, i < 12 → (u'.testBit i = true ↔ u.testBit i = true ∨ (bc s = k ∧ RC B L s ∧ (i < hn B ∧ oL B L (bc s) i = true ∧ s.testBit i = false) ∧ 0 < beh B L (s ||| 2 ^ i)))) → ∀ i, i < 12 → (u'.testBit i = true ↔ ∃ s', s' < s + 1 ∧ bc s' = k ∧ RC B L s' ∧ (i < hn B ∧ oL B L (bc s') i = true ∧ s'.testBit i = false) ∧ 0 < beh B L (s' ||| 2 ^ i)) := fun u' hu i hi => by
        rw [hu i hi, u2 i hi]
        constructor
        · rintro (⟨s', c1, c2⟩ | c2)
          · exact ⟨s', by omega, c2⟩
          · exact ⟨s, by omega, c2⟩
        · rintro ⟨s', c1, c2⟩
          rcases Nat.lt_or_ge s' s with z | z
          · exact Or.inl ⟨s', z, c2⟩
          · have : s' = s := by omega
            subst this
            exact Or.inr c2
      by_cases z : bc s = k
      rotate_left
      · rw [if_neg (by rw [nI_eq (by omega) (by omega)]; exact z), bs]
        exact ⟨_, ⟨u, rfl, u1, grow u (fun i hi => ⟨fun q => Or.inl q, fun q => by
          rcases q with q | q
          · exact q
          · exact absurd q.1 z⟩)⟩, rfl⟩
      obtain ⟨r1, r2⟩ := h51 s hs
      rw [if_pos (by rw [z]), inb_nI (show s < 4096 by omega) (by decide), gd_true, cl (show s < 2 ^ 31 by omega), r1, if_bI0]
      cases hR : R s
      · rw [if_neg (show ¬ (false = true) by decide), bs]
        exact ⟨_, ⟨u, rfl, u1, grow u (fun i hi => ⟨fun q => Or.inl q, fun q => by
          rcases q with q | q
          · exact q
          · rw [r2.mpr q.2.1] at hR; exact absurd hR (by decide)⟩)⟩, rfl⟩
      have obb := ob_b h (show s < 4096 by omega)
      rw [if_pos rfl, X_ob h (by omega), bs]
      obtain ⟨y, ey, v, rfl, v1, v2⟩ := bits_loop (fun q (st : Int32) x => fX47_usedPlaces_L42 N S (nI k) (nI s) (nI (obN om (m3 B) s)) q st x) (b := obN om (m3 B) s)
        (fun i y => ∃ v, y = nI v ∧ v < 4096 ∧ ∀ j, j < 12 → (v.testBit j = true ↔ u.testBit j = true ∨ (j < i ∧ (obN om (m3 B) s).testBit j = true ∧ 0 < beh B L (s ||| 2 ^ j))))
        (fun n st => by
          show fX47_usedPlaces_L42 N S (nI k) (nI s) (nI (obN om (m3 B) s)) (n + 1) st (nI 12) = _
          rw [fX47_usedPlaces_L42, if_pos (by decide)])
        (fun n st i hi z => by
          show fX47_usedPlaces_L42 N S (nI k) (nI s) (nI (obN om (m3 B) s)) (n + 1) st (nI i) = _
          rw [fX47_usedPlaces_L42, if_neg (show ¬ (12 : Int32) ≤ nI i from nI_ge hi (by decide)), shB (show obN om (m3 B) s < 2 ^ 31 by omega) (show i < 32 by omega), z, if_pos (show nI 0 = 0 from rfl)])
        (fun n st i hi z tb => by
          show fX47_usedPlaces_L42 N S (nI k) (nI s) (nI (obN om (m3 B) s)) (n + 1) st (nI i) = fX47_usedPlaces_L42 N S (nI k) (nI s) (nI (obN om (m3 B) s)) n st (nI (i + 1))
          rw [fX47_usedPlaces_L42, if_neg (show ¬ (12 : Int32) ≤ nI i from nI_ge hi (by decide)), shb (show obN om (m3 B) s < 2 ^ 31 by omega) (show i < 32 by omega), shB (show obN om (m3 B) s < 2 ^ 31 by omega) (show i < 32 by omega), if_neg (nI_ne0 (Nat.pos_of_ne_zero z) (Nat.lt_of_le_of_lt (Nat.div_le_self _ _) (by omega))), tb, if_pos bI_f, bs, nI_1])
        (fun n st i hi z tbi hI => by
          obtain ⟨v, rfl, v1, v2⟩ := hI
          show ∃ st'', fX47_usedPlaces_L42 N S (nI k) (nI s) (nI (obN om (m3 B) s)) (n + 1) (nI v) (nI i) = fX47_usedPlaces_L42 N S (nI k) (nI s) (nI (obN om (m3 B) s)) n st'' (nI (i + 1)) ∧ _
          have ti := ob_e h (by omega) hi tbi
          have u4 : s ||| 2 ^ i < 2 ^ hn B := Nat.or_lt_two_pow (by omega) (Nat.pow_lt_pow_right (by omega) ti.1)
          have bV := beh_V (L := L) ok (s ||| 2 ^ i)
          have p12 := pw12 i hi
          rw [fX47_usedPlaces_L42, if_neg (show ¬ (12 : Int32) ≤ nI i from nI_ge hi (by decide)), shb (show obN om (m3 B) s < 2 ^ 31 by omega) (show i < 32 by omega), shB (show obN om (m3 B) s < 2 ^ 31 by omega) (show i < 32 by omega), if_neg (nI_ne0 (Nat.pos_of_ne_zero z) (Nat.lt_of_le_of_lt (Nat.div_le_self _ _) (by omega))), tbi, if_neg (show ¬ bI true = 0 by decide), sh1 i hi, fa_or, fa_or, inb_nI (show s ||| 2 ^ i < 4096 by omega) (by decide), gd_true, nx_eq, cl (show s ||| 2 ^ i < 2 ^ 31 by omega), h52 _ u4, nI_1]
          rcases Nat.eq_zero_or_pos (beh B L (s ||| 2 ^ i)) with w | w
          · rw [w, if_pos (show nI 0 ≤ 0 by decide), bs]
            refine ⟨_, rfl, v, rfl, v1, fun j hj => (v2 j hj).trans ⟨?_, ?_⟩⟩
            · rintro (q | q)
              · exact Or.inl q
              · exact Or.inr ⟨by omega, q.2⟩
            · rintro (q | q)
              · exact Or.inl q
              · refine Or.inr ⟨?_, q.2⟩
                rcases Nat.lt_or_ge j i with z | z
                · exact z
                · have : j = i := by omega
                  subst this
                  omega
          · rw [if_neg (show ¬ nI (beh B L (s ||| 2 ^ i)) ≤ 0 from nI_ge (a := 0) w (by omega)), bs]
            refine ⟨_, rfl, v ||| 2 ^ i, rfl, Nat.or_lt_two_pow (n := 12) v1 p12, fun j hj => ?_⟩
            rw [Nat.testBit_or, Nat.testBit_two_pow, Bool.or_eq_true, v2 j hj, decide_eq_true_eq]
            constructor
            · rintro ((q | q) | q)
              · exact Or.inl q
              · exact Or.inr ⟨by omega, q.2⟩
              · subst q
                exact Or.inr ⟨by omega, tbi, w⟩
            · rintro (q | q)
              · exact Or.inl (Or.inl q)
              · rcases Nat.lt_or_ge j i with z | z
                · exact Or.inl (Or.inr ⟨z, q.2⟩)
                · exact Or.inr (by omega))
        (fun st i hi tbi hI => by
          obtain ⟨v, rfl, v1, v2⟩ := hI
          refine ⟨v, rfl, v1, fun j hj => (v2 j hj).trans ⟨?_, ?_⟩⟩
          · rintro (q | q)
            · exact Or.inl q
            · exact Or.inr ⟨by omega, q.2⟩
          · rintro (q | q)
            · exact Or.inl q
            · refine Or.inr ⟨?_, q.2⟩
              rcases Nat.lt_or_ge j i with z | z
              · exact z
              · have e : j = i := by omega
                rw [e, tbi] at q
                exact absurd q.2.1 (by decide))
        (show 12 < N by omega) (st := nI u) ⟨u, rfl, u1, fun j hj => ⟨fun q => Or.inl q, fun q => by
          rcases q with q | q
          · exact q
          · omega⟩⟩
      have ey2 : fX47_usedPlaces_L42 N S (nI k) (nI s) (nI (obN om (m3 B) s)) N (nI u) 0 = some (nI v) := ey
      rw [ey2, bs, bs]
      refine ⟨_, ⟨v, rfl, v1, grow v (fun i hi => (v2 i hi).trans ⟨?_, ?_⟩)⟩, rfl⟩
      · rintro (q | q)
        · exact Or.inl q
        · exact Or.inr ⟨z, r2.mp hR, ob_e h (by omega) hi q.2.1, q.2.2⟩
      · rintro (q | q)
        · exact Or.inl q
        · refine Or.inr ⟨hi, ?_, q.2.2.2⟩
          rw [obb.2 i hi, decide_eq_true q.2.2.1.1, q.2.2.1.2.1, q.2.2.1.2.2]; rfl)
    N 0 0 (Nat.zero_le _) (by omega) ⟨0, rfl, by omega, fun i hi => ⟨fun q => by rw [Nat.zero_testBit] at q; exact absurd q (by decide), fun ⟨s', c1, _⟩ => by omega⟩⟩
  have e2 : fX47_usedPlaces_L4 N S (nI k) N 0 0 = some (nI u) := e
  exact ⟨u, by rw [fX47_usedPlaces, e2, bs], u1, u2⟩
end PL
