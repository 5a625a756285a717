/-! judge -/
theorem len40 {r : Nat} (h : r < 6) : lenX (3 + r) = 40 := by
  have : ∀ r, r < 6 → lenX (3 + r) = 40 := by decide
  exact this r h
section OX
variable {S S' Y Y' : St} {B : Bk} {τ : Nat → Nat}
theorem Y_rowAt {r i : Nat} (hr : r < 6) (hi : i < 40) : fY0_rowAt Y (nI r) (nI i) = some (Y.1 3 (40 * r + i)) := by
  rw [fY0_rowAt, ix40, inb_nI (show 40 * r + i < 240 by omega) (by decide), gd_true, cl (show 40 * r + i < 2 ^ 31 by omega)]
theorem Y_is3 (bY : BY Y B) {d : Nat} (hd : d < 12) : Y.1 10 d = 3 ↔ kd B d = 3 := by
  rcases cY_k (bY.1 d hd) with ⟨h1, h2⟩ | ⟨h1, h2⟩
  · rw [h2, h1]; exact ⟨fun q => absurd q (by decide), fun q => absurd q (by decide)⟩
  · rw [h2, show (3 : Int32) = nI 3 from rfl, nI_eq (by omega) (by omega)]
theorem Y_same {N : Nat} (hN : 61 < N) (bY : BY Y B) {r c : Nat} (hr : r < 6) (hc : c < 12) {x3 x4 x5 : Int32} : fY0_isRule_L114 N Y (nI r) (nI c) x3 x4 x5 N 0 0 = some (nI (fb_ct (fun d => decide (kd B d = 3) && decide (Y.1 3 (40 * r + d) = x3)) (c + 1))) := by
  have e := count_0 (fun q x y => fY0_isRule_L114 N Y (nI r) (nI c) x3 x4 x5 q x y) (c + 1) (fun d => decide (kd B d = 3) && decide (Y.1 3 (40 * r + d) = x3)) (fun n x => by
    show fY0_isRule_L114 N Y (nI r) (nI c) x3 x4 x5 (n + 1) x (nI (c + 1)) = _
    rw [fY0_isRule_L114, if_pos (nI_lt (by omega) (by omega))]) (fun n x i hi => by
    show fY0_isRule_L114 N Y (nI r) (nI c) x3 x4 x5 (n + 1) x (nI i) = fY0_isRule_L114 N Y (nI r) (nI c) x3 x4 x5 n _ (nI (i + 1))
    rw [fY0_isRule_L114, if_neg (nI_nlt (by omega) (by omega)), inb_nI (show i < 12 by omega) (by decide), gd_true, cl (show i < 2 ^ 31 by omega), Y_rowAt hr (by omega), bs, nI_1]
    by_cases q : kd B i = 3
    · rw [if_pos ((Y_is3 bY (by omega)).mpr q), decide_eq_true q]
      by_cases z : Y.1 3 (40 * r + i) = x3
      · rw [if_pos z, bs, decide_eq_true z]; rfl
      · rw [if_neg z, bs, decide_eq_false z]; rfl
    · rw [if_neg (fun z => q ((Y_is3 bY (by omega)).mp z)), bs, decide_eq_false q]; rfl) (show c + 1 < N by omega) 0
  have e2 : fY0_isRule_L114 N Y (nI r) (nI c) x3 x4 x5 N 0 0 = some (nI (0 + fb_ct (fun d => decide (kd B d = 3) && decide (Y.1 3 (40 * r + d) = x3)) (c + 1))) := e
  rw [e2, Nat.zero_add]
theorem right_R {N : Nat} (hN : 61 < N) (ok : okB B) (bx : BX S B) (bY : BY Y B) {r c : Nat} (hr : r < 6) (hc : c < 12) (eq : ∀ i, i < 12 → S.1 (3 + r) i = Y.1 3 (40 * r + i)) (ag : ∀ d, d < c → thr B d = true → S.1 (3 + r) d = nI (τ d) ∧ τ d < 100) (hτ : ∀ d, d < 12 → inb (S.1 (3 + r) d) 100 = true → S.1 (3 + r) d = nI (τ d) ∧ τ d < 100) : ∃ b, fX25_isRightIn N S (nI c) (3 + r) = some (bI b) ∧ fY0_isRule N Y (nI r) (nI c) = some (bI b) ∧ (b = true → thr B c = true → inb (S.1 (3 + r) c) 100 = true) := by
  have ec : Int32.toNatClampNeg (nI c) = c := cl (by omega)
  have l4 := len40 hr
  have ib := inb_nI hc (show 12 < 2 ^ 31 by decide)
  have ib4 : inb (nI c) 40 = true := inb_nI (by omega) (by decide)
  rw [fX25_isRightIn, fY0_isRule, X_there bx hc, bs, Y_rowAt hr (by omega), bs, Y_there bY hc, bs, if_bI0, if_bI0, ← eq c hc]
  cases tc : thr B c
  · rw [if_neg (show ¬ (false = true) by decide), if_neg (show ¬ (false = true) by decide), l4, ib4, gd_true, ec]
    by_cases z : S.1 (3 + r) c = -1
    · rw [if_pos z]
      exact ⟨true, rfl, rfl, fun _ q => absurd q (by decide)⟩
    · rw [if_neg z]
      exact ⟨false, rfl, rfl, fun _ q => absurd q (by decide)⟩
  rw [if_pos rfl, if_pos rfl, l4, ib4, gd_true, ec, XisNumber, YisNumber, bs, bs]
  by_cases hb : inb (S.1 (3 + r) c) 100 = true
  rotate_left
  · rw [if_neg hb, if_pos rfl, if_pos rfl]
    exact ⟨false, rfl, rfl, fun q => absurd q (by decide)⟩
  have k6 : kd B c < 6 := by
    have := thr_t.mp tc
    have := ok.1 c hc
    unfold cellOK at this
    omega
  obtain ⟨e0, v0⟩ := hτ c hc hb
  rw [if_pos hb, if_neg ne10, if_neg ne10, gd_true, e0, X_allows ok bx hc v0, Y_first (by omega) ok bY hc k6 v0, bs, bs, if_bI0, if_bI0]
  cases al : alw B c (τ c)
  · rw [if_neg (by decide), if_neg (by decide)]
    exact ⟨false, rfl, rfl, fun q => absurd q (by decide)⟩
  have hb' : inb (nI (τ c)) 100 = true := by rw [← e0]; exact hb
  have fi : ∀ {X Z : Option Int32}, (∃ b, X = some (bI b) ∧ Z = some (bI b)) → ∃ b, X = some (bI b) ∧ Z = some (bI b) ∧ (b = true → true = true → inb (nI (τ c)) 100 = true) := fun ⟨b, h1, h2⟩ => ⟨b, h1, h2, fun _ _ => hb'⟩
  rw [if_pos rfl, if_pos rfl, ib, X_k bx hc k6, Y_kind bY hc k6]
  refine fi ?_
  simp only [gd_true]
  have hol : (kd B c = 2 → (S.1 (3 + r) (ka B c) = nI (τ (ka B c)) ∧ τ (ka B c) < 100) ∧ (S.1 (3 + r) (kb B c) = nI (τ (kb B c)) ∧ τ (kb B c) < 100)) → (kd B c = 4 → S.1 (3 + r) (ka B c) = nI (τ (ka B c)) ∧ τ (ka B c) < 100) → fX25_holdsAmong N S (nI c) (3 + r) = some (bI (holdR B c τ)) := fun a2 a4 => X_holds (by omega) ok bx (by omega) (by omega) hc ⟨e0, v0⟩ a2 a4 (fun q d hd kd3 => by
    rcases Nat.lt_or_ge d c with z | z
    · exact ag d z (by rw [thr_t]; omega)
    · rw [show d = c by omega]; exact ⟨e0, v0⟩) k6
  by_cases k2 : kd B c = 2
  · obtain ⟨o1, o2, o3, o4⟩ := ok_2 ok hc k2
    have s2 : nI (kd B c) = 2 := by rw [k2]; rfl
    simp only [if_pos s2]
    rw [X_b bx hc k6 (by omega) (by omega), X_a bx hc k6 (by omega), Y_b bY hc k6 (by omega) (by omega), Y_a bY hc k6 (by omega) (by omega), Y_rowAt hr (by omega), bs, bs, Y_rowAt hr (by omega), bs, bs, Y_same hN bY hr hc, bs, ← eq _ o1, ← eq _ o2]
    rw [inb_nI (show kb B c < 40 by omega) (by decide), gd_true, cl (show kb B c < 2 ^ 31 by omega), XisNumber, bs, inb_nI (show ka B c < 40 by omega) (by decide), gd_true, cl (show ka B c < 2 ^ 31 by omega), XisNumber, bs, YisNumber, bs, YisNumber, bs]
    by_cases h1 : inb (S.1 (3 + r) (ka B c)) 100 = true
    rotate_left
    · rw [if_neg h1, if_pos rfl, if_pos rfl]
      refine ⟨false, ?_, rfl⟩
      split <;> rfl
    by_cases h2 : inb (S.1 (3 + r) (kb B c)) 100 = true
    rotate_left
    · rw [if_neg h2, if_pos h1]
      exact ⟨false, rfl, rfl⟩
    have t1 := hτ _ o1 h1
    have t2 := hτ _ o2 h2
    rw [if_pos h1, if_pos h2, hol (fun _ => ⟨t1, t2⟩) (fun q => by omega), bs, bI_isb, gd_true, t1.1, t2.1, pk_mul]
    refine ⟨holdR B c τ, rfl, ?_⟩
    have m1 : τ (ka B c) * τ (kb B c) ≤ 99 * 99 := Nat.mul_le_mul (by omega) (by omega)
    unfold holdR
    rw [if_pos k2]
    by_cases z : τ c = τ (ka B c) * τ (kb B c)
    · rw [if_pos (show nI (τ c) = nI (τ (ka B c) * τ (kb B c)) by rw [z]), decide_eq_true z]; rfl
    · rw [if_neg (show ¬ nI (τ c) = nI (τ (ka B c) * τ (kb B c)) by rw [nI_eq (by omega) (by omega)]; exact z), decide_eq_false z]; rfl
  have s2 : ¬ nI (kd B c) = 2 := nk (by omega) (j := 2) (by omega) k2
  simp only [if_neg s2]
  by_cases k4 : kd B c = 4
  · obtain ⟨o1, o2⟩ := ok_4 ok hc k4
    have s4 : nI (kd B c) = 4 := by rw [k4]; rfl
    have s3 : ¬ nI (kd B c) = 3 := nk (by omega) (j := 3) (by omega) (by omega)
    simp only [if_pos s4, if_neg s3]
    rw [X_a bx hc k6 (by omega), Y_a bY hc k6 (by omega) (by omega), Y_rowAt hr (by omega), bs, bs, bs, Y_same hN bY hr hc, bs, ← eq _ o1]
    rw [inb_nI (show ka B c < 40 by omega) (by decide), gd_true, cl (show ka B c < 2 ^ 31 by omega), XisNumber, bs, YisNumber, bs]
    by_cases h1 : inb (S.1 (3 + r) (ka B c)) 100 = true
    rotate_left
    · rw [if_neg h1]
      exact ⟨false, rfl, rfl⟩
    have t1 := hτ _ o1 h1
    rw [if_pos h1, hol (fun q => by omega) (fun _ => t1), bs, bI_isb, gd_true, t1.1]
    refine ⟨holdR B c τ, rfl, ?_⟩
    unfold holdR
    rw [if_neg k2, if_neg (show ¬ kd B c = 3 by omega), if_pos k4]
    by_cases z : τ (ka B c) < τ c
    · rw [if_neg (show ¬ nI (τ c) ≤ nI (τ (ka B c)) from nI_ge z (by omega)), decide_eq_true z]; rfl
    · rw [if_pos (show nI (τ c) ≤ nI (τ (ka B c)) from nI_le (by omega) (by omega)), decide_eq_false z]; rfl
  have s4 : ¬ nI (kd B c) = 4 := nk (by omega) (j := 4) (by omega) k4
  simp only [if_neg s4]
  rw [hol (fun q => by omega) (fun q => by omega), bs, bI_isb, gd_true, bs, bs, Y_same hN bY hr hc, bs]
  refine ⟨holdR B c τ, rfl, ?_⟩
  by_cases k3 : kd B c = 3
  · have s3 : nI (kd B c) = 3 := by rw [k3]; rfl
    have hb2 := hocc_le B (τ c)
    have hn12 := ok.2.1
    have es : fb_ct (fun d => decide (kd B d = 3) && decide (Y.1 3 (40 * r + d) = nI (τ c))) (c + 1) = sameU B c τ := fb_ct_cong (fun d hd => by
      by_cases q : kd B d = 3
      · rw [decide_eq_true q, Bool.true_and, Bool.true_and, ← eq d (by omega)]
        have a : S.1 (3 + r) d = nI (τ d) ∧ τ d < 100 := by
          rcases Nat.lt_or_ge d c with z | z
          · exact ag d z (by rw [thr_t]; omega)
          · rw [show d = c by omega]; exact ⟨e0, v0⟩
        rw [a.1]
        by_cases z : τ d = τ c
        · rw [decide_eq_true z, decide_eq_true (by rw [z])]
        · rw [decide_eq_false z, decide_eq_false (by rw [nI_eq (by omega) (by omega)]; exact z)]
      · rw [decide_eq_false q]; rfl)
    have sl := sameU_le (B := B) (τ := τ) c
    rw [if_pos s3, es, Y_heapc (by omega) ok bY (by omega), bs]
    unfold holdR
    rw [if_neg k2, if_pos k3]
    by_cases z : sameU B c τ ≤ hocc B (τ c)
    · rw [if_neg (show ¬ nI (hocc B (τ c)) < nI (sameU B c τ) from nI_nlt z (by omega)), decide_eq_true z]; rfl
    · rw [if_pos (show nI (hocc B (τ c)) < nI (sameU B c τ) from nI_lt (by omega) (by omega)), decide_eq_false z]; rfl
  · rw [if_neg (show ¬ nI (kd B c) = 3 from nk (by omega) (j := 3) (by omega) k3)]
    unfold holdR
    rw [if_neg k2, if_neg k3, if_neg k4]; rfl
theorem judge_c {N : Nat} (hN : 61 < N) (ok : okB B) (bx : BX S B) (bY : BY Y B) {r : Nat} (hr : r < 6) (eq : ∀ i, i < 12 → S.1 (3 + r) i = Y.1 3 (40 * r + i)) (hτ : ∀ d, d < 12 → inb (S.1 (3 + r) d) 100 = true → S.1 (3 + r) d = nI (τ d) ∧ τ d < 100) : ∀ d c n, c + d = 12 → d < n → (∀ d, d < c → thr B d = true → S.1 (3 + r) d = nI (τ d) ∧ τ d < 100) → (∃ v, fX0_judge_L43 N S (3 + r) n (nI c) = some (.inl (v, S)) ∧ fY0_judge_L31 N Y (nI r) n (nI c) = some (.inl (v, Y))) ∨ (fX0_judge_L43 N S (3 + r) n (nI c) = some (.inr ()) ∧ fY0_judge_L31 N Y (nI r) n (nI c) = some (.inr ()) ∧ ∀ d, d < 12 → thr B d = true → S.1 (3 + r) d = nI (τ d) ∧ τ d < 100)
  | d, c, 0, _, hn, _ => by omega
  | 0, c, n + 1, hc, hn, ag => by
    right
    have : c = 12 := by omega
    subst this
    rw [fX0_judge_L43, fY0_judge_L31, if_pos (show (12 : Int32) ≤ nI 12 by decide), if_pos (show (12 : Int32) ≤ nI 12 by decide)]
    exact ⟨rfl, rfl, ag⟩
  | d + 1, c, n + 1, hc, hn, ag => by
    have hc12 : c < 12 := by omega
    obtain ⟨b, e1, e2, hb⟩ := right_R hN ok bx bY hr hc12 eq ag hτ
    rw [fX0_judge_L43, fY0_judge_L31, if_neg (show ¬ (12 : Int32) ≤ nI c from nI_ge hc12 (by decide)), if_neg (show ¬ (12 : Int32) ≤ nI c from nI_ge hc12 (by decide)), e1, e2, bs, bs, if_bI0, if_bI0, nI_1]
    cases b
    · left
      rw [if_neg (by decide), if_neg (by decide)]
      exact ⟨_, rfl, rfl⟩
    · rw [if_pos rfl, if_pos rfl]
      exact judge_c hN ok bx bY hr eq hτ d (c + 1) n (by omega) (by omega) (fun d' hd' td => by
        rcases Nat.lt_or_ge d' c with z | z
        · exact ag d' z td
        · have : d' = c := by omega
          subst this
          exact hτ d' (by omega) (hb rfl td))
theorem judge_s {N : Nat} (hN : 61 < N) (ok : okB B) (bx : BX S B) (bY : BY Y B) {r : Nat} (hr : r < 6) (ag : ∀ d, d < 12 → thr B d = true → S.1 (3 + r) d = nI (τ d) ∧ τ d < 100) (ag2 : ∀ d, d < 12 → thr B d = true → Y.1 22 d = nI (τ d) ∧ τ d < 100) : ∀ d s n, s + d = sn B → d < n → (∃ v, fX0_judge_L78 N S (3 + r) n (nI s) = some (.inl (v, S)) ∧ fY0_judge_L85 N Y n (nI s) = some (.inl (v, Y))) ∨ (fX0_judge_L78 N S (3 + r) n (nI s) = some (.inr ()) ∧ fY0_judge_L85 N Y n (nI s) = some (.inr ()))
  | d, s, 0, _, hn => by omega
  | 0, s, n + 1, hs, hn => by
    right
    have h8 := ok.2.2.2.1
    rw [fX0_judge_L78, fY0_judge_L85, fX29_howMany, bs, bx.2.2.2.2.2.1, bY.2.2.2.1, if_pos (nI_le (by omega) (by omega)), if_pos (nI_le (by omega) (by omega))]
    exact ⟨rfl, rfl⟩
  | d + 1, s, n + 1, hs, hn => by
    have h8 := ok.2.2.2.1
    have hs8 : s < sn B := by omega
    have l4 := len40 hr
    have nt : ∀ c, nmS B s c = true → thr B c = true := fun c q => by
      unfold nmS at q
      simp at q
      exact q.1
    have sb := sumS_b (B := B) (s := s) (τ := τ) (fun d hd q => (ag d hd (nt d q)).2)
    have b3 := ok.2.2.2.2 s hs8
    have ez : (iI (sumS B s τ) = iI (tt B s)) ↔ sumS B s τ = tt B s := iI_eq (by omega) (by omega) (by omega) (by omega)
    rw [fX0_judge_L78, fY0_judge_L85, fX29_howMany, bs, bx.2.2.2.2.2.1, bY.2.2.2.1, if_neg (nI_ge hs8 (by omega)), if_neg (nI_ge hs8 (by omega)), X_comes (by omega) ok bx (by omega) (by omega) hs8 (fun c hc q => ag c hc (nt c q)), Y_sumS (by omega) ok bY hs8 (fun c hc q => ag2 c hc (nt c q)), bs, bs, inb_nI (show s < 8 by omega) (by decide), gd_true, cl (show s < 2 ^ 31 by omega), (bY.2.2.2.2 s hs8).2.2, if_bI0, nI_1]
    by_cases q : sumS B s τ = tt B s
    · rw [decide_eq_true q, if_pos rfl, if_pos (ez.mpr q)]
      exact judge_s hN ok bx bY hr ag ag2 d (s + 1) n (by omega) (by omega)
    · left
      rw [decide_eq_false q, if_neg (by decide), if_neg (fun w => q (ez.mp w))]
      exact ⟨_, rfl, rfl⟩
theorem Y_told {N : Nat} (hN : 61 < N) {r : Nat} (hr : r < 6) : ∃ Z, fY0_judge_L59 N (nI r) N Y 0 = some Z ∧ (∀ c, c < 12 → Z.1 22 c = Y.1 3 (40 * r + c)) ∧ ∀ k q, k ≠ 22 → Z.1 k q = Y.1 k q := by
  obtain ⟨t, e, h1, h2⟩ := loop_up (fun q st x => fY0_judge_L59 N (nI r) q st x) 12
    (fun i st => (∀ c, c < i → st.1 22 c = Y.1 3 (40 * r + c)) ∧ ∀ k q, k ≠ 22 → st.1 k q = Y.1 k q)
    (fun st => (∀ c, c < 12 → st.1 22 c = Y.1 3 (40 * r + c)) ∧ ∀ k q, k ≠ 22 → st.1 k q = Y.1 k q)
    (fun q st hI => ⟨st, by
      show fY0_judge_L59 N (nI r) (q + 1) st (nI 12) = _
      rw [fY0_judge_L59, if_pos (by decide)], hI⟩)
    (fun q i st hi hI => by
      right
      show ∃ s', _ ∧ fY0_judge_L59 N (nI r) (q + 1) st (nI i) = fY0_judge_L59 N (nI r) q s' (nI (i + 1))
      rw [fY0_judge_L59, if_neg (show ¬ (12 : Int32) ≤ nI i from nI_ge hi (by decide)), Y_rowAt hr (by omega), bs, inb_nI hi (by decide), gd_true, nx_eq, cl (show i < 2 ^ 31 by omega), nI_1]
      refine ⟨_, ⟨fun c hc => ?_, fun k q hk => by rw [p1_ne hk]; exact hI.2 k q hk⟩, rfl⟩
      by_cases z : c = i
      · subst z; rw [p1_eq]; exact hI.2 3 _ (by decide)
      · rw [p1_ni z]; exact hI.1 c (by omega))
    N 0 Y (by omega) (by omega) ⟨fun c hc => by omega, fun _ _ _ => rfl⟩
  exact ⟨t, e, h1, h2⟩
theorem op15_judge {N : Nat} (hN : 41000 < N) : op_judge N RR := by
  intro S Y a1 h
  obtain ⟨B, ok, bx, bY⟩ := h.2.2.2
  unfold fX0_judge fY0_judge
  rcases refRow h a1 with ⟨v, S', Y', e1, e2, hv, hR'⟩ | ⟨r, n, hr, rfl, hn, g1, g2, g3, e1, e2⟩
  · rw [e1, e2, bs, bs, if_neg (neg0 hv), if_neg (negle hv)]
    exact ⟨v, S', Y', rfl, rfl, hR'⟩
  have er : Int32.toNatClampNeg (nI r) = r := cl (by omega)
  have ib : inb (nI r) 6 = true := inb_nI hr (by decide)
  rw [e1, e2, bs, bs]
  dsimp only
  rw [if_pos rfl, if_pos (show (0 : Int32) ≤ 0 by decide), fX1_sizeOf, fX1_placesOf, ib, gd_true, gd_true, gd_true, bs, bs, er, g1, g2]
  by_cases z : n = 12
  rotate_left
  · obtain ⟨S', Y', e1, e2, hR'⟩ := found_R h (f := 5) (by decide) (x := 5) rfl
    have z12 : ¬ nI n = 12 := (by rw [show (12 : Int32) = nI 12 from rfl, nI_eq (by omega) (by omega)]; exact z)
    rw [if_neg z12, if_neg z12, e1, e2, bs, bs]
    exact ⟨_, _, _, rfl, rfl, hR'⟩
  subst z
  rw [if_pos (show nI 12 = 12 from rfl), if_pos (show nI 12 = 12 from rfl)]
  have hτ : ∀ d, d < 12 → inb (S.1 (3 + r) d) 100 = true → S.1 (3 + r) d = nI ((fun d => (S.1 (3 + r) d).toInt.toNat) d) ∧ (fun d => (S.1 (3 + r) d).toInt.toNat) d < 100 := fun d hd hb => by
    have b := inb_iff.mp hb
    refine ⟨?_, by dsimp only; omega⟩
    rw [iI_nat, Int.toNat_of_nonneg b.1, iI_of]
  generalize (fun d => (S.1 (3 + r) d).toInt.toNat) = τ at hτ
  have jc := judge_c (N := N) (τ := τ) (by omega) ok bx bY hr g3 hτ 12 0 N (by omega) (by omega) (fun d hd => by omega)
  have z0 : nI 0 = 0 := rfl
  rw [z0] at jc
  rcases jc with ⟨v, j1, j2⟩ | ⟨j1, j2, ag⟩
  · rw [j1, j2, bs, bs]
    exact ⟨v, S, Y, rfl, rfl, h⟩
  obtain ⟨Z, eZ, t1, t2⟩ := Y_told (N := N) (Y := Y) (by omega) hr
  have t3 : Z.2 = Y.2 := funext fun k => funext fun i => (frY0_judge_L59 N Y 0 eZ).2 k i (by simp [mL_Y0_judge])
  have R2 : RR S Z := RR_ag h agr_refl ⟨fun k hk => funext fun q => t2 k q (by intro e; subst e; exact absurd hk (by decide)), fun k i hk => t2 k i (by
      intro e; subst e
      have : ∀ p ∈ fiY, p.1 ≠ 22 := by decide
      exact this _ hk rfl), fun k i _ => by rw [t3]⟩
  have js := judge_s (N := N) (Y := Z) (τ := τ) (by omega) ok bx (BY_o bY (fun k q hk => t2 k q (by omega))) hr ag (fun d hd td => by rw [t1 d hd, ← g3 d hd]; exact ag d hd td) (sn B) 0 N (by omega) (by have := ok.2.2.2.1; omega)
  rw [z0] at js
  rw [j1, j2, bs, bs]
  show ∃ v S' Y', Option.bind (fX0_judge_L78 N S (3 + r) N 0) _ = _ ∧ Option.bind (fY0_judge_L59 N (nI r) N Y 0) _ = _ ∧ _
  rw [eZ, bs]
  rcases js with ⟨v, s1, s2⟩ | ⟨s1, s2⟩
  · rw [s1, s2, bs, bs]
    exact ⟨v, S, Z, rfl, rfl, R2⟩
  · rw [s1, s2, bs, bs]
    exact ⟨-9, S, Z, rfl, rfl, R2⟩
end OX
