/-! left, ends, may, burnt -/
def lfE (B : Bk) (lo hi : Nat → Int) (c v : Nat) : Bool := alw B c v && (decide (lo c ≤ (v : Int)) && decide ((v : Int) ≤ hi c))
section OG
variable {S S' Y Y' : St} {B : Bk} {out : Nat} {lo hi lo' hi' : Nat → Int} {L L' : Nat → Nat → Bool}
theorem X_isLeft0 (fx : FNX S B) (ex : ENX S B lo hi) {c v : Nat} (hc : c < 12) (tc : thr B c = true) (hv : v < 100) : fX33_isLeft S (nI c) (nI v) = some (bI (lfE B lo hi c v)) := by
  have e := ex c hc tc
  unfold fX33_isLeft lfE
  rw [inb_nI hc (by decide), gd_true, cl (show c < 2 ^ 31 by omega), e.1, e.2.1, gd_true, ixX, inb_nI (show 100 * c + v < 1200 by omega) (by decide), gd_true, cl (show 100 * c + v < 2 ^ 31 by omega), fx c hc tc v hv, if_bI0]
  have c1 : (nI v < iI (lo c)) ↔ (v : Int) < lo c := by rw [iI_nat]; exact iI_lt (by omega) (by omega) (by omega) (by omega)
  have c2 : (iI (hi c) < nI v) ↔ hi c < (v : Int) := by rw [iI_nat]; exact iI_lt (by omega) (by omega) (by omega) (by omega)
  by_cases q1 : (v : Int) < lo c
  · rw [if_pos (c1.mpr q1), decide_eq_false (show ¬ lo c ≤ (v : Int) by omega)]
    cases alw B c v <;> rfl
  · rw [if_neg (fun w => q1 (c1.mp w)), decide_eq_true (show lo c ≤ (v : Int) by omega)]
    by_cases q2 : hi c < (v : Int)
    · rw [if_pos (c2.mpr q2), decide_eq_false (show ¬ (v : Int) ≤ hi c by omega)]
      cases alw B c v <;> rfl
    · rw [if_neg (fun w => q2 (c2.mp w)), decide_eq_true (show (v : Int) ≤ hi c by omega)]
      cases alw B c v <;> rfl
theorem X_many0 {N : Nat} (hN : 201 < N) (fx : FNX S B) (ex : ENX S B lo hi) {c : Nat} (hc : c < 12) (tc : thr B c = true) : fX33_howMany N S (nI c) = some (nI (fb_ct (lfE B lo hi c) 100)) := by
  have e := ex c hc tc
  obtain ⟨t, e1, h1⟩ := loop_me (fun q (s : Nat × Int32) => fX33_howMany_L9 N S (nI c) q s.2 (nI s.1))
    (fun s => lo c ≤ (s.1 : Int) ∧ s.1 ≤ 100 ∧ s.2 = nI (fb_ct (lfE B lo hi c) s.1))
    (fun s => 100 - s.1 + (if (s.1 : Int) ≤ hi c then 1 else 0))
    (fun t => t = nI (fb_ct (lfE B lo hi c) 100))
    (fun q s hI => by
      obtain ⟨g1, g2, g3⟩ := hI
      show (∃ t, fX33_howMany_L9 N S (nI c) (q + 1) s.2 (nI s.1) = some t ∧ _) ∨ ∃ s' : Nat × Int32, _ ∧ _ ∧ fX33_howMany_L9 N S (nI c) (q + 1) s.2 (nI s.1) = fX33_howMany_L9 N S (nI c) q s'.2 (nI s'.1)
      have c2 : (iI (hi c) < nI s.1) ↔ hi c < (s.1 : Int) := by rw [iI_nat]; exact iI_lt (by omega) (by omega) (by omega) (by omega)
      rw [fX33_howMany_L9, inb_nI hc (by decide), gd_true, cl (show c < 2 ^ 31 by omega), e.2.1]
      by_cases q2 : hi c < (s.1 : Int)
      · left
        rw [if_pos (c2.mpr q2)]
        refine ⟨s.2, rfl, ?_⟩
        rw [g3]
        congr 1
        have sp := fb_ct_split (lfE B lo hi c) s.1 (100 - s.1)
        rw [show s.1 + (100 - s.1) = 100 by omega] at sp
        have zz : fb_ct (fun k => lfE B lo hi c (s.1 + k)) (100 - s.1) = 0 := fb_ct_zero.mpr (fun k hk => by
          unfold lfE
          rw [decide_eq_false (show ¬ ((s.1 + k : Nat) : Int) ≤ hi c by omega)]
          cases alw B c (s.1 + k) <;> cases decide (lo c ≤ ((s.1 + k : Nat) : Int)) <;> rfl)
        rw [sp, zz, Nat.add_zero]
      · right
        rw [if_neg (fun w => q2 (c2.mp w)), X_isLeft0 fx ex hc tc (show s.1 < 100 by omega), bs, if_bI0, nI_1]
        refine ⟨(s.1 + 1, nI (fb_ct (lfE B lo hi c) (s.1 + 1))), ⟨by omega, by omega, rfl⟩, ?_, ?_⟩
        · dsimp only
          rw [if_pos (show (s.1 : Int) ≤ hi c by omega)]
          split <;> omega
        · dsimp only
          rw [g3, fb_ct_succ]
          cases lfE B lo hi c s.1
          · rw [if_neg (by decide), bs, if_neg (by decide)]
            rw [show nI (fb_ct (lfE B lo hi c) s.1) + 0 = nI (fb_ct (lfE B lo hi c) s.1 + 0) from nI_add _ 0]
          · rw [if_pos rfl, bs, if_pos rfl, nI_1])
    N ((lo c).toNat, 0) (by dsimp only; split <;> omega) ⟨by dsimp only; omega, by dsimp only; omega, by
      have : fb_ct (lfE B lo hi c) (lo c).toNat = 0 := fb_ct_zero.mpr (fun k hk => by
        unfold lfE
        rw [decide_eq_false (show ¬ lo c ≤ (k : Int) by omega)]
        cases alw B c k <;> rfl)
      rw [this]; rfl⟩
  unfold fX33_howMany
  rw [inb_nI hc (by decide), gd_true, nx_eq, cl (show c < 2 ^ 31 by omega), e.1, iI_n e.2.2.1]
  have e2 : fX33_howMany_L9 N S (nI c) N 0 (nI (lo c).toNat) = some t := e1
  rw [e2, bs, h1]
theorem lfE_n (n : nar S Y B L lo hi) {c v : Nat} (hc : c < 12) (tc : thr B c = true) (hv : v < 100) : lfE B lo hi c v = L c v := by
  have k := n.2.2.2.2.2.2.1 c v hc hv tc
  unfold lfE
  rw [Bool.eq_iff_iff, k]
  simp
theorem X_isLeft (n : nar S Y B L lo hi) {c v : Nat} (hc : c < 12) (tc : thr B c = true) (hv : v < 100) : fX33_isLeft S (nI c) (nI v) = some (bI (L c v)) := by
  rw [X_isLeft0 n.2.2.1 n.2.2.2.1 hc tc hv, lfE_n n hc tc hv]
theorem X_leftMany {N : Nat} (hN : 201 < N) (n : nar S Y B L lo hi) {c : Nat} (hc : c < 12) (tc : thr B c = true) : fX33_howMany N S (nI c) = some (nI (fb_ct (L c) 100)) := by
  rw [X_many0 hN n.2.2.1 n.2.2.2.1 hc tc, show fb_ct (lfE B lo hi c) 100 = fb_ct (L c) 100 from fb_ct_cong (fun v hv => lfE_n n hc tc hv)]
theorem Y_leftMany {N : Nat} (hN : 201 < N) (ly : LNY Y L) {c : Nat} (hc : c < 12) : fY0_leftMany N Y (nI c) = some (nI (fb_ct (L c) 100)) := by
  unfold fY0_leftMany
  have e := count_0 (fun q x y => fY0_leftMany_L4 N Y (nI c) q x y) 100 (L c) (fun n x => by
    show fY0_leftMany_L4 N Y (nI c) (n + 1) x (nI 100) = _
    rw [fY0_leftMany_L4, if_pos (by decide)]) (fun n x i hi => by
    show fY0_leftMany_L4 N Y (nI c) (n + 1) x (nI i) = fY0_leftMany_L4 N Y (nI c) n _ (nI (i + 1))
    rw [fY0_leftMany_L4, if_neg (show ¬ (100 : Int32) ≤ nI i from nI_ge hi (by decide)), ixY, inb_nI (show 100 * c + i < 1200 by omega) (by decide), gd_true, cl (show 100 * c + i < 2 ^ 31 by omega), ly c hc i hi, if_bI0, nI_1]
    cases L c i <;> rfl) (show 100 < N by omega) 0
  have e2 : fY0_leftMany_L4 N Y (nI c) N 0 0 = some (nI (0 + fb_ct (L c) 100)) := e
  rw [e2, bs, Nat.zero_add]
theorem thr_6 {c : Nat} (h : kd B c < 6) : thr B c = true := by rw [thr_t]; omega
theorem agX_look {N : Nat} (e : fX33_lookAtFirst N S = some S') : agX S S' := agr_of (frX33_lookAtFirst e) (by decide) (by decide) (by decide)
theorem agX_nar {N : Nat} (e : fX0_narrowAll N S = some S') : agX S S' := agr_of (frX0_narrowAll e) (by decide) (by decide) (by decide)
theorem agY_nar {N : Nat} {x : Int32} (e : fY0_narrow N Y x = some Y') : agY Y Y' := agr_of (frY0_narrow e) (by decide) (by decide) (by decide)
theorem fen_many {c : Nat} (f : fen B lo hi c) : fb_ct (lfE B lo hi c) 100 = fmny B c := fb_ct_cong (fun v hv => by
  unfold lfE
  cases a : alw B c v
  · rfl
  · have := f.2.2.2.2.1 v (by omega) (by omega) a
    rw [decide_eq_true this.1, decide_eq_true this.2]; rfl)
theorem op8_left {N : Nat} (hN : 1300 < N) : op_left N RR := by
  intro S Y a1 a2 h
  obtain ⟨B, ok, bx, bY⟩ := h.2.2.2
  unfold fX0_left fY0_left
  rw [Yin, bs]
  by_cases z : a2 = 0
  · subst z
    rw [if_pos rfl, if_pos (show (0 : Int32) ≤ 0 ∧ (0 : Int32) ≤ 1 by decide), if_neg ne10]
    rcases refCell h ok bx bY a1 with ⟨v, S', Y', e1, e2, hv, hR'⟩ | ⟨c, hc, rfl, hk, e1, e2⟩
    · rw [e1, e2, bs, bs, if_neg (neg0 hv), if_neg (negle hv)]
      exact ⟨v, S', Y', rfl, rfl, hR'⟩
    obtain ⟨S1, lo, hi, f1, b1, f2, x1, w1⟩ := X_look (N := N) (by omega) ok bx
    have tc := thr_6 hk
    rw [e1, e2, bs, bs, if_pos rfl, if_pos (show (0 : Int32) ≤ 0 by decide), if_pos rfl, if_pos rfl, f1, bs, bs, X_many0 (by omega) f2 x1 hc tc, fen_many (w1 c hc tc), Y_firstMany (by omega) ok bY hc hk]
    exact ⟨_, S1, Y, rfl, rfl, RR_ag h (agX_look f1) agr_refl⟩
  by_cases o : a2 = 1
  · subst o
    rw [if_neg ne10, if_pos rfl, if_pos (show (0 : Int32) ≤ 1 ∧ (1 : Int32) ≤ 1 by decide), if_neg ne10]
    rcases refCell h ok bx bY a1 with ⟨v, S', Y', e1, e2, hv, hR'⟩ | ⟨c, hc, rfl, hk, e1, e2⟩
    · rw [e1, e2, bs, bs, if_neg (neg0 hv), if_neg (negle hv)]
      exact ⟨v, S', Y', rfl, rfl, hR'⟩
    obtain ⟨S1, Y1, L, lo, hi, f1, f2, n⟩ := narrowAll_R hN ok bx bY
    have tc := thr_6 hk
    rw [e1, e2, bs, bs, if_pos rfl, if_pos (show (0 : Int32) ≤ 0 by decide), if_neg ne10, if_neg ne10, f1, f2, bs, bs, bs, X_leftMany (by omega) n hc tc, Y_leftMany (by omega) n.2.2.2.2.1 hc]
    exact ⟨_, S1, Y1, rfl, rfl, RR_ag h (agX_nar f1) (agY_nar f2)⟩
  · have e : (if 0 ≤ a2 ∧ a2 ≤ 1 then (1 : Int32) else 0) = 0 := if_neg (fun q => by
      have e1 := (fa_le _ _).mp q.1
      have e2 := (fa_le _ _).mp q.2
      rw [fa_eq] at z o
      have e3 : (1 : Int32).toInt = 1 := by decide
      have e4 : (0 : Int32).toInt = 0 := by decide
      omega)
    rw [if_neg z, if_neg o, e, if_pos rfl]
    exact ⟨-1, S, Y, rfl, rfl, h⟩
theorem op8_ends {N : Nat} (hN : 1300 < N) : op_ends N RR := by
  intro S Y a1 h
  obtain ⟨B, ok, bx, bY⟩ := h.2.2.2
  unfold fX0_ends fY0_ends
  rcases refCell h ok bx bY a1 with ⟨v, S', Y', e1, e2, hv, hR'⟩ | ⟨c, hc, rfl, hk, e1, e2⟩
  · rw [e1, e2, bs, bs, if_neg (neg0 hv), if_neg (negle hv)]
    exact ⟨v, S', Y', rfl, rfl, hR'⟩
  obtain ⟨S1, Y1, L, lo, hi, f1, f2, n⟩ := narrowAll_R hN ok bx bY
  have tc := thr_6 hk
  have R1 := RR_ag h (agX_nar f1) (agY_nar f2)
  have x := n.2.2.2.1 c hc tc
  have ib := inb_nI hc (show 12 < 2 ^ 31 by decide)
  have ec : Int32.toNatClampNeg (nI c) = c := cl (by omega)
  have lt : (iI (hi c) < iI (lo c)) ↔ hi c < lo c := iI_lt (by omega) (by omega) (by omega) (by omega)
  rw [e1, e2, bs, bs, if_pos rfl, if_pos (show (0 : Int32) ≤ 0 by decide), f1, f2, bs, bs, Y_leftMany (by omega) n.2.2.2.2.1 hc, bs, fX33_hasAny, fX33_greatest, ib, gd_true, gd_true, gd_true, gd_true, gd_true, ec, x.1, x.2.1, bs]
  rcases n.2.2.2.2.2.2.2.1 c hc tc with ⟨q1, q2, q3, q4, q5⟩ | ⟨q1, q2⟩
  · have p : 0 < fb_ct (L c) 100 := fb_ct_pos.mpr ⟨_, by omega, q2⟩
    have p2 := fb_ct_le (L c) 100
    rw [if_neg (fun w => by have := lt.mp w; omega), bs, isb1, gd_true, bs, if_neg ne10, if_neg (nI_ne0 p (by omega)), nx_eq, fX33_least, ib, gd_true, ec, p1_ne (by decide), x.1, q4, q5]
    exact ⟨iI (lo c), _, _, rfl, rfl, RR_ask R1 _⟩
  · have p : fb_ct (L c) 100 = 0 := fb_ct_zero.mpr q2
    rw [if_pos (lt.mpr q1), bs, isb0, gd_true, bs, if_pos rfl, p, if_pos (show nI 0 = 0 from rfl)]
    exact ⟨-9, S1, Y1, rfl, rfl, R1⟩
theorem op8_may {N : Nat} (hN : 1300 < N) : op_may N RR := by
  intro S Y a1 a2 h
  obtain ⟨B, ok, bx, bY⟩ := h.2.2.2
  unfold fX0_may fY0_may
  rw [XisNumber, YisNumber, bs, bs]
  by_cases h1 : inb a2 100 = true
  rotate_left
  · rw [if_neg h1, if_pos rfl, if_pos rfl]
    exact ⟨-1, S, Y, rfl, rfl, h⟩
  rw [if_pos h1, if_neg ne10, if_neg ne10]
  obtain ⟨v, hv, rfl⟩ := inb_ex h1 (by decide)
  rcases refCell h ok bx bY a1 with ⟨w, S', Y', e1, e2, hw, hR'⟩ | ⟨c, hc, rfl, hk, e1, e2⟩
  · rw [e1, e2, bs, bs, if_neg (neg0 hw), if_neg (negle hw)]
    exact ⟨w, S', Y', rfl, rfl, hR'⟩
  obtain ⟨S1, Y1, L, lo, hi, f1, f2, n⟩ := narrowAll_R hN ok bx bY
  have tc := thr_6 hk
  rw [e1, e2, bs, bs, if_pos rfl, if_pos (show (0 : Int32) ≤ 0 by decide), f1, f2, bs, bs, X_isLeft n hc tc hv, bs, ixY, inb_nI (show 100 * c + v < 1200 by omega) (by decide), gd_true, cl (show 100 * c + v < 2 ^ 31 by omega), n.2.2.2.2.1 c hc v hv]
  refine ⟨bI (L c v), S1, Y1, ?_, ?_, RR_ag h (agX_nar f1) (agY_nar f2)⟩
  · cases L c v <;> rfl
  · cases L c v <;> rfl
end OG
