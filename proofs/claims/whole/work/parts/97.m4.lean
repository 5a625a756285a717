/-! matches: the class, sets -/
theorem bits_loop {σ : Type} (F : Nat → σ → Int32 → Option σ) {b : Nat} (Inv : Nat → σ → Prop) (hx : ∀ n st, F (n + 1) st (nI 12) = some st) (he : ∀ n st i, i < 12 → b / 2 ^ i = 0 → F (n + 1) st (nI i) = some st) (h0 : ∀ n st i, i < 12 → ¬ b / 2 ^ i = 0 → b.testBit i = false → F (n + 1) st (nI i) = F n st (nI (i + 1))) (h1 : ∀ n st i, i < 12 → ¬ b / 2 ^ i = 0 → b.testBit i = true → Inv i st → ∃ st', F (n + 1) st (nI i) = F n st' (nI (i + 1)) ∧ Inv (i + 1) st') (hk : ∀ st i, i < 12 → b.testBit i = false → Inv i st → Inv (i + 1) st) {N : Nat} (hN : 12 < N) {st : σ} (hI : Inv 0 st) : ∃ st', F N st 0 = some st' ∧ Inv 12 st' := by
  obtain ⟨t, e, h⟩ := loop_up F 12 Inv (fun st => Inv 12 st) (fun n s hI => ⟨s, hx n s, hI⟩) (fun n i s hi hI => by
    by_cases z : b / 2 ^ i = 0
    · left
      refine ⟨s, he n s i hi z, ?_⟩
      have key : ∀ d, i + d ≤ 12 → Inv (i + d) s := by
        intro d
        induction d with
        | zero => intro _; exact hI
        | succ d ih =>
          intro hd
          exact hk s (i + d) (by omega) (bit_hi z (by omega)) (ih (by omega))
      have := key (12 - i) (by omega)
      rw [show i + (12 - i) = 12 by omega] at this
      exact this
    · right
      cases tb : b.testBit i
      · exact ⟨s, hk s i hi tb hI, h0 n s i hi z tb⟩
      · obtain ⟨s', e, h⟩ := h1 n s i hi z tb hI
        exact ⟨s', h, e⟩) N 0 st (by omega) (by omega) hI
  exact ⟨t, e, h⟩
abbrev oL (B : Bk) (L : Nat → Nat → Bool) (k i : Nat) : Bool := decide (k < m3 B) && L (ce3 B k) (hv B i)
def MX (S : St) (B : Bk) (L : Nat → Nat → Bool) (om : Nat → Nat) : Prop := S.1 22 2 = nI (hn B) ∧ (∀ i, i < hn B → S.1 23 i = nI (hv B i)) ∧ OPX S B L om (m3 B)
def beh (B : Bk) (L : Nat → Nat → Bool) (t : Nat) : Nat := if bc t ≤ m3 B then EE (hn B) (oL B L) (fun _ => 1) (m3 B - bc t) (bc t) t else 0
def RC (B : Bk) (L : Nat → Nat → Bool) (t : Nat) : Prop := rea (hn B) (oL B L) (bc t) 0 0 t
section PK
variable {S S' : St} {B : Bk} {L : Nat → Nat → Bool} {om : Nat → Nat} {s : Nat}
theorem MX_o (h : MX S B L om) (o : ∀ a b, a = 22 ∨ a = 23 ∨ a = 47 ∨ a = 48 ∨ a = 49 → S'.1 a b = S.1 a b) : MX S' B L om := by
  obtain ⟨h1, h2, h3, h4⟩ := h
  exact ⟨by rw [o _ _ (by omega)]; exact h1, fun i hi => by rw [o _ _ (by omega)]; exact h2 i hi, by rw [o _ _ (by omega)]; exact h3, fun k hk => by rw [o 48 _ (by omega), o 49 _ (by omega)]; exact h4 k hk⟩
theorem ob_b (h : MX S B L om) (hs : s < 4096) : obN om (m3 B) s < 4096 ∧ ∀ i, i < 12 → (obN om (m3 B) s).testBit i = ((decide (i < hn B) && oL B L (bc s) i) && !s.testBit i) := by
  unfold obN
  by_cases z : bc s < m3 B
  · obtain ⟨_, _, p1', p2⟩ := h.2.2.2 (bc s) z
    rw [if_pos z]
    refine ⟨and_lt p1', fun i hi => ?_⟩
    unfold oL
    rw [tb_not hi, p2 i hi, decide_eq_true z, Bool.true_and]
  · rw [if_neg z]
    refine ⟨by omega, fun i hi => ?_⟩
    unfold oL
    rw [Nat.zero_testBit, decide_eq_false z, Bool.false_and, Bool.and_false, Bool.false_and]
theorem X_ob (h : MX S B L om) (hs : s < 4096) : fX47_openBehind S (nI s) = some (nI (obN om (m3 B) s)) := by
  have bl := bc_le s
  have ml : m3 B ≤ 12 := fb_ct_le _ _
  have eb : bcI (nI s) = nI (bc s) := bc_all s hs
  unfold obN
  rw [fX47_openBehind, bc_e, bs, eb, h.2.2.1]
  by_cases z : bc s < m3 B
  · obtain ⟨_, p0, p1', p2⟩ := h.2.2.2 (bc s) z
    rw [if_neg (nI_ge z (by omega)), inb_nI (show bc s < 12 by omega) (by decide), gd_true, cl (show bc s < 2 ^ 31 by omega), p0, and_not p1' hs, bs, if_pos z]
  · rw [if_pos (nI_le (by omega) (by omega)), bs, if_neg z]; rfl
theorem ob_e (h : MX S B L om) (hs : s < 4096) {i : Nat} (hi : i < 12) (tb : (obN om (m3 B) s).testBit i = true) : i < hn B ∧ oL B L (bc s) i = true ∧ s.testBit i = false := by
  rw [(ob_b h hs).2 i hi, Bool.and_eq_true, Bool.and_eq_true, Bool.not_eq_true'] at tb
  exact ⟨of_decide_eq_true tb.1.1, tb.1.2, tb.2⟩
theorem bc_0 : bc 0 = 0 := by
  unfold bc
  rw [fb_ct_zero]
  intro k _
  exact Nat.zero_testBit k
theorem RC_e (ok : okB B) (t : Nat) : RC B L t ↔ t = 0 ∨ ∃ u i, RC B L u ∧ i < hn B ∧ u.testBit i = false ∧ oL B L (bc u) i = true ∧ t = u ||| 2 ^ i := by
  have h12 := ok.2.1
  constructor
  · intro h
    unfold RC at h
    cases hb : bc t with
    | zero =>
      rw [hb] at h
      exact Or.inl h
    | succ r =>
      rw [hb] at h
      obtain ⟨u, i, a0, a1, a2, a3, a4⟩ := (rea_last r 0 0 t).mp h
      have bu := rea_bc h12 r 0 0 u a0
      rw [bc_0, Nat.zero_add] at bu
      refine Or.inr ⟨u, i, ?_, a1, a2, ?_, a4⟩
      · unfold RC; rw [bu]; exact a0
      · rw [bu]; rw [Nat.zero_add] at a3; exact a3
  · rintro (h | ⟨u, i, a0, a1, a2, a3, a4⟩)
    · rw [h]; unfold RC; rw [bc_0]; rfl
    · unfold RC
      rw [a4, bc_or (by omega) a2]
      exact (rea_last (bc u) 0 0 _).mpr ⟨u, i, a0, a1, a2, by rw [Nat.zero_add]; exact a3, rfl⟩
theorem X_sets (h : MX S B L om) (ok : okB B) : fX47_sets S = some (nI (2 ^ hn B)) := by
  have h12 := ok.2.1
  rw [fX47_sets, fX22_howMany, bs, h.1, shl_13 (hn B) (by omega)]
theorem p_h (ok : okB B) : 2 ^ hn B ≤ 4096 := by
  have h12 := ok.2.1
  exact Nat.pow_le_pow_right (n := 2) (by omega) h12
theorem X_reach {N : Nat} (hN : 5000 < N) (ok : okB B) (h : MX S B L om) : ∃ (S' : St) (R : Nat → Bool), fX47_findReached N S = some S' ∧ (∀ t, t < 2 ^ hn B → S'.1 51 t = bI (R t) ∧ (R t = true ↔ RC B L t)) ∧ ∀ a b, a ≠ 51 → S'.1 a b = S.1 a b := by
  have ph := p_h ok
  obtain ⟨T, eT, t1, t2⟩ := loop_up (fun q st x => fX47_findReached_L2 N q st x) (2 ^ hn B)
    (fun i st => (∀ t, t < i → st.1 51 t = bI (decide (t = 0))) ∧ ∀ a b, a ≠ 51 → st.1 a b = S.1 a b)
    (fun st => (∀ t, t < 2 ^ hn B → st.1 51 t = bI (decide (t = 0))) ∧ ∀ a b, a ≠ 51 → st.1 a b = S.1 a b)
    (fun q st hI => ⟨st, by
      show fX47_findReached_L2 N (q + 1) st (nI (2 ^ hn B)) = _
      rw [fX47_findReached_L2, X_sets (MX_o h (fun a b _ => hI.2 a b (by omega))) ok, bs, if_pos (ge_n (by omega))], hI⟩)
    (fun q i st hi hI => by
      right
      show ∃ s', _ ∧ fX47_findReached_L2 N (q + 1) st (nI i) = fX47_findReached_L2 N q s' (nI (i + 1))
      have ei : (if nI i = 0 then some (1 : Int32) else some 0) = some (bI (decide (i = 0))) := by
        by_cases z : i = 0
        · rw [z, if_pos (show nI 0 = 0 from rfl)]; rfl
        · rw [if_neg (nI_ne0 (by omega) (by omega)), decide_eq_false z]; rfl
      rw [fX47_findReached_L2, X_sets (MX_o h (fun a b _ => hI.2 a b (by omega))) ok, bs, if_neg (nI_ge hi (by omega)), ei, bs, inb_nI (show i < 4096 by omega) (by decide), gd_true, bI_isb, gd_true, nx_eq, cl (show i < 2 ^ 31 by omega), nI_1]
      refine ⟨p1 st 51 i (bI (decide (i = 0))), ⟨fun t ht => ?_, fun a b ha => by rw [p1_ne ha]; exact hI.2 a b ha⟩, rfl⟩
      by_cases e : t = i
      · subst e; rw [p1_eq]
      · rw [p1_ni e]; exact hI.1 t (by omega))
    N 0 S (Nat.zero_le _) (by omega) ⟨fun t ht => by omega, fun _ _ _ => rfl⟩
  have eT2 : fX47_findReached_L2 N N S 0 = some T := eT
  obtain ⟨U, eU, R, u1, u2, u3⟩ := loop_up (fun q st x => fX47_findReached_L33 N q st x) (2 ^ hn B)
    (fun s st => ∃ R : Nat → Bool, (∀ t, t < 2 ^ hn B → st.1 51 t = bI (R t)) ∧ (∀ t, t < 2 ^ hn B → (R t = true ↔ t = 0 ∨ ∃ u i, u < s ∧ RC B L u ∧ i < hn B ∧ u.testBit i = false ∧ oL B L (bc u) i = true ∧ t = u ||| 2 ^ i)) ∧ ∀ a b, a ≠ 51 → st.1 a b = S.1 a b)
    (fun st => ∃ R : Nat → Bool, (∀ t, t < 2 ^ hn B → st.1 51 t = bI (R t)) ∧ (∀ t, t < 2 ^ hn B → (R t = true ↔ t = 0 ∨ ∃ u i, u < 2 ^ hn B ∧ RC B L u ∧ i < hn B ∧ u.testBit i = false ∧ oL B L (bc u) i = true ∧ t = u ||| 2 ^ i)) ∧ ∀ a b, a ≠ 51 → st.1 a b = S.1 a b)
    (fun q st hI => ⟨st, by
      obtain ⟨R, _, _, o⟩ := hI
      show fX47_findReached_L33 N (q + 1) st (nI (2 ^ hn B)) = _
      rw [fX47_findReached_L33, X_sets (MX_o h (fun a b _ => o a b (by omega))) ok, bs, if_pos (ge_n (by omega))], hI⟩)
    (fun q s st hs hI => by
      right
      obtain ⟨R, a1, a2, o⟩ := hI
      show ∃ s', _ ∧ fX47_findReached_L33 N (q + 1) st (nI s) = fX47_findReached_L33 N q s' (nI (s + 1))
      have hM : MX st B L om := MX_o h (fun a b _ => o a b (by omega))
      have Rs : R s = true ↔ RC B L s := by
        rw [a2 s hs, RC_e ok]
        constructor
        · rintro (z | ⟨u, i, _, b0, b1, b2, b3, b4⟩)
          · exact Or.inl z
          · exact Or.inr ⟨u, i, b0, b1, b2, b3, b4⟩
        · rintro (z | ⟨u, i, b0, b1, b2, b3, b4⟩)
          · exact Or.inl z
          · exact Or.inr ⟨u, i, by rw [b4]; exact or_gt b2, b0, b1, b2, b3, b4⟩
      obtain ⟨b, hb, eb, tb⟩ : ∃ b, b < 4096 ∧ (if bI (R s) = 0 then some (0 : Int32) else Option.bind (fX47_openBehind st (nI s)) fun t22 => some t22) = some (nI b) ∧ ∀ i, i < 12 → (b.testBit i = true ↔ RC B L s ∧ i < hn B ∧ s.testBit i = false ∧ oL B L (bc s) i = true) := by
        rw [if_bI0]
        cases hR : R s
        · rw [if_neg (show ¬ (false = true) by decide)]
          refine ⟨0, by omega, rfl, fun i hi => ?_⟩
          rw [Nat.zero_testBit]
          exact ⟨fun q => absurd q (by decide), fun q => by rw [Rs.mpr q.1] at hR; exact absurd hR (by decide)⟩
        · rw [if_pos rfl, X_ob hM (by omega), bs]
          refine ⟨_, (ob_b hM (by omega)).1, rfl, fun i hi => ⟨fun q => ?_, fun q => ?_⟩⟩
          · have := ob_e hM (by omega) hi q
            exact ⟨Rs.mp hR, this.1, this.2.2, this.2.1⟩
          · rw [(ob_b hM (by omega)).2 i hi, decide_eq_true q.2.1, q.2.2.2, q.2.2.1]; rfl
      obtain ⟨V, eV, R', v1, v2, v3⟩ := bits_loop (fun q st x => fX47_findReached_L62 N (nI s) (nI b) q st x) (b := b)
        (fun i st' => ∃ R' : Nat → Bool, (∀ t, t < 2 ^ hn B → st'.1 51 t = bI (R' t)) ∧ (∀ t, t < 2 ^ hn B → (R' t = true ↔ R t = true ∨ ∃ j, j < i ∧ b.testBit j = true ∧ t = s ||| 2 ^ j)) ∧ ∀ a b, a ≠ 51 → st'.1 a b = S.1 a b)
        (fun n st => by
          show fX47_findReached_L62 N (nI s) (nI b) (n + 1) st (nI 12) = _
          rw [fX47_findReached_L62, if_pos (by decide)])
        (fun n st i hi z => by
          show fX47_findReached_L62 N (nI s) (nI b) (n + 1) st (nI i) = _
          rw [fX47_findReached_L62, if_neg (show ¬ (12 : Int32) ≤ nI i from nI_ge hi (by decide)), shB (show b < 2 ^ 31 by omega) (show i < 32 by omega), z, if_pos (show nI 0 = 0 from rfl)])
        (fun n st i hi z tb => by
          show fX47_findReached_L62 N (nI s) (nI b) (n + 1) st (nI i) = fX47_findReached_L62 N (nI s) (nI b) n st (nI (i + 1))
          rw [fX47_findReached_L62, if_neg (show ¬ (12 : Int32) ≤ nI i from nI_ge hi (by decide)), shb (show b < 2 ^ 31 by omega) (show i < 32 by omega), shB (show b < 2 ^ 31 by omega) (show i < 32 by omega), if_neg (nI_ne0 (Nat.pos_of_ne_zero z) (Nat.lt_of_le_of_lt (Nat.div_le_self _ _) (by omega))), tb, if_pos bI_f, bs, nI_1])
        (fun n st i hi z tbi hI => by
          obtain ⟨R', w1, w2, w3⟩ := hI
          show ∃ st', fX47_findReached_L62 N (nI s) (nI b) (n + 1) st (nI i) = fX47_findReached_L62 N (nI s) (nI b) n st' (nI (i + 1)) ∧ _
          have ti := (tb i hi).mp tbi
          have u4 : s ||| 2 ^ i < 2 ^ hn B := Nat.or_lt_two_pow hs (Nat.pow_lt_pow_right (by omega) ti.2.1)
          rw [fX47_findReached_L62, if_neg (show ¬ (12 : Int32) ≤ nI i from nI_ge hi (by decide)), shb (show b < 2 ^ 31 by omega) (show i < 32 by omega), shB (show b < 2 ^ 31 by omega) (show i < 32 by omega), if_neg (nI_ne0 (Nat.pos_of_ne_zero z) (Nat.lt_of_le_of_lt (Nat.div_le_self _ _) (by omega))), tbi, if_neg (show ¬ bI true = 0 by decide), sh1 i hi, fa_or, inb_nI (show s ||| 2 ^ i < 4096 by omega) (by decide), gd_true, nx_eq, bs, cl (show s ||| 2 ^ i < 2 ^ 31 by omega), nI_1]
          refine ⟨_, rfl, fun t => if t = s ||| 2 ^ i then true else R' t, fun t ht => ?_, fun t ht => ?_, fun a b ha => by rw [p1_ne ha]; exact w3 a b ha⟩
          · dsimp only
            by_cases e : t = s ||| 2 ^ i
            · rw [e, p1_eq, if_pos rfl]; rfl
            · rw [p1_ni e, if_neg e]; exact w1 t ht
          · dsimp only
            by_cases e : t = s ||| 2 ^ i
            · rw [if_pos e]
              exact ⟨fun _ => Or.inr ⟨i, by omega, tbi, e⟩, fun _ => rfl⟩
            · rw [if_neg e, w2 t ht]
              constructor
              · rintro (q | ⟨j, j1, j2, j3⟩)
                · exact Or.inl q
                · exact Or.inr ⟨j, by omega, j2, j3⟩
              · rintro (q | ⟨j, j1, j2, j3⟩)
                · exact Or.inl q
                · refine Or.inr ⟨j, ?_, j2, j3⟩
                  rcases Nat.lt_or_ge j i with z | z
                  · exact z
                  · rw [show j = i by omega] at j3; exact absurd j3 e)
        (fun st i hi tbi hI => by
          obtain ⟨R', w1, w2, w3⟩ := hI
          refine ⟨R', w1, fun t ht => (w2 t ht).trans ⟨?_, ?_⟩, w3⟩
          · rintro (q | ⟨j, j1, j2, j3⟩)
            · exact Or.inl q
            · exact Or.inr ⟨j, by omega, j2, j3⟩
          · rintro (q | ⟨j, j1, j2, j3⟩)
            · exact Or.inl q
            · refine Or.inr ⟨j, ?_, j2, j3⟩
              rcases Nat.lt_or_ge j i with z | z
              · exact z
              · rw [show j = i by omega, tbi] at j2; exact absurd j2 (by decide))
        (show 12 < N by omega) (st := st) ⟨R, a1, fun t ht => ⟨fun q => Or.inl q, fun q => by
          rcases q with q | ⟨j, j1, _⟩
          · exact q
          · omega⟩, o⟩
      have eV2 : fX47_findReached_L62 N (nI s) (nI b) N st 0 = some V := eV
      rw [fX47_findReached_L33, X_sets hM ok, bs, if_neg (nI_ge hs (by omega)), inb_nI (show s < 4096 by omega) (by decide), gd_true, cl (show s < 2 ^ 31 by omega), a1 s hs, eb, bs, eV2, bs, nI_1]
      refine ⟨V, ⟨R', v1, fun t ht => ?_, v3⟩, rfl⟩
      rw [v2 t ht, a2 t ht]
      constructor
      · rintro ((q | ⟨u, i, b5, b0, b1, b2, b3, b4⟩) | ⟨j, j1, j2, j3⟩)
        · exact Or.inl q
        · exact Or.inr ⟨u, i, by omega, b0, b1, b2, b3, b4⟩
        · have tj := (tb j j1).mp j2
          exact Or.inr ⟨s, j, by omega, tj.1, tj.2.1, tj.2.2.1, tj.2.2.2, j3⟩
      · rintro (q | ⟨u, i, b5, b0, b1, b2, b3, b4⟩)
        · exact Or.inl (Or.inl q)
        · rcases Nat.lt_or_ge u s with z | z
          · exact Or.inl (Or.inr ⟨u, i, z, b0, b1, b2, b3, b4⟩)
          · have eu : u = s := by omega
            subst eu
            have h12 := ok.2.1
            exact Or.inr ⟨i, by omega, (tb i (by omega)).mpr ⟨b0, b1, b2, b3⟩, b4⟩)
    N 0 T (Nat.zero_le _) (by omega) ⟨fun t => decide (t = 0), t1, fun t ht => ⟨fun q => Or.inl (of_decide_eq_true q), fun q => by
      rcases q with q | ⟨u, i, z, _⟩
      · exact decide_eq_true q
      · omega⟩, t2⟩
  have eU2 : fX47_findReached_L33 N N T 0 = some U := eU
  refine ⟨U, R, by rw [fX47_findReached, eT2, bs, eU2, bs], fun t ht => ⟨u1 t ht, ?_⟩, u3⟩
  rw [u2 t ht, RC_e ok]
  constructor
  · rintro (z | ⟨u, i, _, b0, b1, b2, b3, b4⟩)
    · exact Or.inl z
    · exact Or.inr ⟨u, i, b0, b1, b2, b3, b4⟩
  · rintro (z | ⟨u, i, b0, b1, b2, b3, b4⟩)
    · exact Or.inl z
    · refine Or.inr ⟨u, i, ?_, b0, b1, b2, b3, b4⟩
      have := or_gt (s := u) (i := i) b2
      rw [← b4] at this
      omega
end PK
