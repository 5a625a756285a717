/-! the walk: the reference's checks -/
def lasY (B : Bk) (s n : Nat) : Int32 := if lsN B s n = 0 then -9 else nI (lsN B s n - 1)
section OK1
variable {S S' Y Y' : St} {B : Bk} {out : Nat} {lo hi lo' hi' : Nat → Int} {L L' : Nat → Nat → Bool} {τ : Nat → Nat}
theorem Y_lastS {N : Nat} (hN : 13 < N) (ok : okB B) (bY : BY Y B) {s : Nat} (hs : s < sn B) : fY0_lastOf N Y (nI s) = some (lasY B s 12) := by
  have h8 := ok.2.2.2.1
  obtain ⟨t, e1, h1⟩ := loop_up (fun q (x : Int32) y => fY0_lastOf_L5 N Y (nI s) q x y) 12 (fun i x => x = lasY B s i) (fun x => x = lasY B s 12)
    (fun q x hI => ⟨x, by
      show fY0_lastOf_L5 N Y (nI s) (q + 1) x (nI 12) = _
      rw [fY0_lastOf_L5, if_pos (by decide)], hI⟩)
    (fun q i x hi hI => by
      right
      show ∃ s' : Int32, _ ∧ fY0_lastOf_L5 N Y (nI s) (q + 1) x (nI i) = fY0_lastOf_L5 N Y (nI s) q s' (nI (i + 1))
      rw [fY0_lastOf_L5, if_neg (show ¬ (12 : Int32) ≤ nI i from nI_ge hi (by decide)), inb_nI (show s < 8 by omega) (by decide), gd_true, gd_true, cl (show s < 2 ^ 31 by omega), (Y_bits ok bY hs hi).2.2, bs, Y_there bY hi, bs, if_bI0, if_bI0, nI_1]
      refine ⟨if nmS B s i = true then nI i else x, ?_, ?_⟩
      · unfold lasY lsN
        by_cases q : nmS B s i = true
        · rw [if_pos q, if_pos q, if_neg (by omega), Nat.add_sub_cancel]
        · rw [if_neg q, if_neg q, hI]; rfl
      · unfold nmS
        cases thr B i <;> cases (pb B s i || lb B s i) <;> rfl)
    N 0 (-9) (by omega) (by omega) rfl
  unfold fY0_lastOf
  have e2 : fY0_lastOf_L5 N Y (nI s) N (-9) 0 = some t := e1
  rw [e2, bs, h1]
theorem Y_sumS {N : Nat} (hN : 13 < N) (ok : okB B) (bY : BY Y B) {s : Nat} (hs : s < sn B) (ag : ∀ c, c < 12 → nmS B s c = true → Y.1 22 c = nI (τ c) ∧ τ c < 100) : fY0_sumOf N Y (nI s) = some (iI (sumS B s τ)) := by
  have h8 := ok.2.2.2.1
  unfold fY0_sumOf
  have e := sum_0 (fun q x y => fY0_sumOf_L4 N Y (nI s) q x y) 12 (tl B s (fun c => τ c) (fun c => τ c)) (fun n x => by
    show fY0_sumOf_L4 N Y (nI s) (n + 1) x (nI 12) = _
    rw [fY0_sumOf_L4, if_pos (by decide)]) (fun n x i hi' => by
    show fY0_sumOf_L4 N Y (nI s) (n + 1) x (nI i) = fY0_sumOf_L4 N Y (nI s) n _ (nI (i + 1))
    have yb := Y_bits ok bY hs hi'
    rw [fY0_sumOf_L4, if_neg (show ¬ (12 : Int32) ≤ nI i from nI_ge hi' (by decide)), Y_there bY hi', bs, if_bI0, inb_nI hi' (by decide), gd_true, cl (show i < 2 ^ 31 by omega), inb_nI (show s < 8 by omega) (by decide), cl (show s < 2 ^ 31 by omega), yb.1, yb.2.1, nI_1]
    have a := ag i hi'
    unfold nmS at a
    unfold tl
    revert a
    cases thr B i
    · intro _
      cases pb B s i <;> cases lb B s i <;> rfl
    · cases p : pb B s i <;> cases l : lb B s i <;> intro a
      · rfl
      · have q := a rfl
        rw [q.1]
        show fY0_sumOf_L4 N Y (nI s) n (x + -nI (τ i)) (nI (i + 1)) = fY0_sumOf_L4 N Y (nI s) n (x + iI (-(τ i : Int))) (nI (i + 1))
        rw [iI_nat (τ i), iI_neg]
      · have q := a rfl
        rw [q.1]
        show fY0_sumOf_L4 N Y (nI s) n (x + nI (τ i)) (nI (i + 1)) = fY0_sumOf_L4 N Y (nI s) n (x + iI (τ i : Int)) (nI (i + 1))
        rw [iI_nat (τ i)]
      · have q := a rfl
        rw [q.1]
        show fY0_sumOf_L4 N Y (nI s) n (x + nI (τ i)) (nI (i + 1)) = fY0_sumOf_L4 N Y (nI s) n (x + iI (τ i : Int)) (nI (i + 1))
        rw [iI_nat (τ i)]) (show 12 < N by omega) 0
  have e2 : fY0_sumOf_L4 N Y (nI s) N 0 0 = some (iI (0 + sumS B s τ)) := e
  rw [e2, bs, Int.zero_add]
theorem nk {k j : Nat} (hk : k ≤ 6) (hj : j < 100) (h : ¬ k = j) : ¬ nI k = nI j := by rw [nI_eq (by omega) (by omega)]; exact h
theorem Y_well1 {N : Nat} (hN : 13 < N) (ok : okB B) (nm : nmd B) (bY : BY Y B) {c : Nat} (hc : c < 12) (tc : thr B c = true) (ag : ∀ d, d ≤ c → thr B d = true → Y.1 22 d = nI (τ d) ∧ τ d < 100) : ∃ r, fY0_isWell_L7 N Y (nI c) N 1 0 0 = some (bI r, nI (fb_ct (fun d => decide (kd B d = 3) && decide (τ d = τ c)) (c + 1))) ∧ (r = true ↔ ∀ t, t ≤ c → (kd B t = 2 ∨ kd B t = 4) → lastR B t = c → holdR B t τ = true) := by
  obtain ⟨t, e1, r, e2, h1⟩ := loop_up (fun q (s : Int32 × Int32) x => fY0_isWell_L7 N Y (nI c) q s.1 s.2 x) (c + 1)
    (fun i s => ∃ r, s = (bI r, nI (fb_ct (fun d => decide (kd B d = 3) && decide (τ d = τ c)) i)) ∧ (r = true ↔ ∀ t, t < i → (kd B t = 2 ∨ kd B t = 4) → lastR B t = c → holdR B t τ = true))
    (fun s => ∃ r, s = (bI r, nI (fb_ct (fun d => decide (kd B d = 3) && decide (τ d = τ c)) (c + 1))) ∧ (r = true ↔ ∀ t, t < c + 1 → (kd B t = 2 ∨ kd B t = 4) → lastR B t = c → holdR B t τ = true))
    (fun q s hI => ⟨s, by
      show fY0_isWell_L7 N Y (nI c) (q + 1) s.1 s.2 (nI (c + 1)) = _
      rw [fY0_isWell_L7, if_pos (nI_lt (by omega) (by omega))], hI⟩)
    (fun q i s hi hI => by
      obtain ⟨r, rfl, h2⟩ := hI
      right
      show ∃ s' : Int32 × Int32, _ ∧ fY0_isWell_L7 N Y (nI c) (q + 1) (bI r) (nI (fb_ct (fun d => decide (kd B d = 3) && decide (τ d = τ c)) i)) (nI i) = fY0_isWell_L7 N Y (nI c) q s'.1 s'.2 (nI (i + 1))
      have i12 : i < 12 := by omega
      have ib := inb_nI i12 (show 12 < 2 ^ 31 by decide)
      have ei : Int32.toNatClampNeg (nI i) = i := cl (by omega)
      have fin : ∀ b : Bool, (b = true ↔ (kd B i = 2 ∨ kd B i = 4) → lastR B i = c → holdR B i τ = true) → ((r && b) = true ↔ ∀ t, t < i + 1 → (kd B t = 2 ∨ kd B t = 4) → lastR B t = c → holdR B t τ = true) := fun b hb => by
        rw [Bool.and_eq_true, h2, hb]
        constructor
        · rintro ⟨q1, q2⟩ t ht
          by_cases e : t = i
          · subst e; exact q2
          · exact q1 t (by omega)
        · intro q
          exact ⟨fun t ht => q t (by omega), q i (by omega)⟩
      have hk := ok_k ok i12
      rw [fY0_isWell_L7, if_neg (nI_nlt (by omega) (by omega)), ib, gd_true, nx_eq, gd_true, nx_eq, gd_true, ei, nI_1]
      by_cases k6 : kd B i = 6
      · rcases bY.1 i i12 with w | w
        · refine ⟨(bI (r && true), nI (fb_ct (fun d => decide (kd B d = 3) && decide (τ d = τ c)) (i + 1))), ⟨_, rfl, fin true ⟨fun _ k => by omega, fun _ => rfl⟩⟩, ?_⟩
          rw [w.2, if_neg (show ¬ (-9 : Int32) = 2 by decide), bs, gd_true, if_neg (show ¬ (-9 : Int32) = 4 by decide), bs, gd_true, if_neg (show ¬ (-9 : Int32) = 3 by decide), bs, Bool.and_true]
          rw [fb_ct_succ, if_neg (by simp [k6]), show nI (fb_ct (fun d => decide (kd B d = 3) && decide (τ d = τ c)) i) + 0 = nI (fb_ct (fun d => decide (kd B d = 3) && decide (τ d = τ c)) i + 0) from nI_add _ 0]
        · omega
      rw [Y_kind bY i12 (by omega)]
      by_cases k2 : kd B i = 2
      · have o := ok_2 ok i12 k2
        have n := (nm i i12).1 k2
        rw [Y_a bY i12 (by omega) (by omega) (by omega), Y_b bY i12 (by omega) (by omega) (by omega), k2]
        have ti := thr_k k2 (show 2 < 6 by decide)
        have c0 : fb_ct (fun d => decide (kd B d = 3) && decide (τ d = τ c)) (i + 1) = fb_ct (fun d => decide (kd B d = 3) && decide (τ d = τ c)) i + 0 := by
          rw [fb_ct_succ, if_neg (by simp [k2])]
        by_cases lr : lastR B i = c
        · have lg := (lastR_ge B i).2.1 k2
          rw [lr] at lg
          have ai := ag i (by omega) ti
          have aa := ag _ lg.1 n.1
          have ab := ag _ lg.2 n.2
          have m : τ (ka B i) * τ (kb B i) < 2 ^ 31 := by
            have := Nat.mul_le_mul (Nat.le_of_lt aa.2) (Nat.le_of_lt ab.2)
            omega
          have one : i = c ∨ ka B i = c ∨ kb B i = c := by
            unfold lastR at lr
            rw [if_pos k2] at lr
            omega
          refine ⟨(bI (r && holdR B i τ), nI (fb_ct (fun d => decide (kd B d = 3) && decide (τ d = τ c)) (i + 1))), ⟨_, rfl, fin _ ⟨fun q _ _ => q, fun q => q (Or.inl k2) lr⟩⟩, ?_⟩
          have hh : (if nI (τ i) = nI (τ (ka B i)) * nI (τ (kb B i)) then some (1 : Int32) else some 0) = some (bI (holdR B i τ)) := by
            unfold holdR
            rw [if_pos k2, pk_mul]
            by_cases z : τ i = τ (ka B i) * τ (kb B i)
            · rw [if_pos (by rw [z]), decide_eq_true z]; rfl
            · rw [if_neg (by rw [nI_eq (by omega) m]; exact z), decide_eq_false z]; rfl
          have inner : (Option.bind (α := Int32) (if bI r = 0 then some 0 else gd (inb (nI (ka B i)) 12) <| gd (inb (nI (kb B i)) 12) <| if Y.1 22 i = Y.1 22 (Int32.toNatClampNeg (nI (ka B i))) * Y.1 22 (Int32.toNatClampNeg (nI (kb B i))) then some 1 else some 0) fun t => some t) = some (bI (r && holdR B i τ)) := by
            rw [inb_nI o.1 (by decide), gd_true, inb_nI o.2.1 (by decide), gd_true, cl (show ka B i < 2 ^ 31 by omega), cl (show kb B i < 2 ^ 31 by omega), ai.1, aa.1, ab.1, hh]
            cases r <;> cases holdR B i τ <;> rfl
          rw [if_pos (show nI 2 = 2 from rfl), if_neg (nI_nlt lg.1 (by omega)), if_neg (nI_nlt lg.2 (by omega)), gd_true, inner]
          have e5 : (if nI i = nI c then some (bI (r && holdR B i τ)) else if nI (ka B i) = nI c then some (bI (r && holdR B i τ)) else if nI (kb B i) = nI c then some (bI (r && holdR B i τ)) else some (bI r)) = some (bI (r && holdR B i τ)) := by
            rcases one with q | q | q
            · rw [if_pos (by rw [q])]
            · by_cases q1 : nI i = nI c
              · rw [if_pos q1]
              · rw [if_neg q1, if_pos (by rw [q])]
            · by_cases q1 : nI i = nI c
              · rw [if_pos q1]
              · rw [if_neg q1]
                by_cases q2 : nI (ka B i) = nI c
                · rw [if_pos q2]
                · rw [if_neg q2, if_pos (by rw [q])]
          rw [e5, bs, gd_true, if_neg (show ¬ nI 2 = 4 by decide), bs, gd_true, if_neg (show ¬ nI 2 = 3 by decide), bs, c0]
          rw [show nI (fb_ct (fun d => decide (kd B d = 3) && decide (τ d = τ c)) i) + 0 = nI (fb_ct (fun d => decide (kd B d = 3) && decide (τ d = τ c)) i + 0) from nI_add _ 0]
        · refine ⟨(bI (r && true), nI (fb_ct (fun d => decide (kd B d = 3) && decide (τ d = τ c)) (i + 1))), ⟨_, rfl, fin true ⟨fun _ _ q => absurd q lr, fun _ => rfl⟩⟩, ?_⟩
          have e5 : ∀ z1 z2 z3 : Option Int32, (if nI c < nI (ka B i) then some (bI r) else if nI c < nI (kb B i) then some (bI r) else if nI i = nI c then z1 else if nI (ka B i) = nI c then z2 else if nI (kb B i) = nI c then z3 else some (bI r)) = some (bI r) := fun z1 z2 z3 => by
            by_cases q1 : c < ka B i
            · rw [if_pos (nI_lt q1 (by omega))]
            rw [if_neg (nI_nlt (by omega) (by omega))]
            by_cases q2 : c < kb B i
            · rw [if_pos (nI_lt q2 (by omega))]
            have nn : ¬ i = c ∧ ¬ ka B i = c ∧ ¬ kb B i = c := by
              unfold lastR at lr
              rw [if_pos k2] at lr
              omega
            rw [if_neg (nI_nlt (by omega) (by omega)), if_neg (by rw [nI_eq (by omega) (by omega)]; exact nn.1), if_neg (by rw [nI_eq (by omega) (by omega)]; exact nn.2.1), if_neg (by rw [nI_eq (by omega) (by omega)]; exact nn.2.2)]
          rw [if_pos (show nI 2 = 2 from rfl), e5, bs, gd_true, if_neg (show ¬ nI 2 = 4 by decide), bs, gd_true, if_neg (show ¬ nI 2 = 3 by decide), bs, c0, Bool.and_true]
          rw [show nI (fb_ct (fun d => decide (kd B d = 3) && decide (τ d = τ c)) i) + 0 = nI (fb_ct (fun d => decide (kd B d = 3) && decide (τ d = τ c)) i + 0) from nI_add _ 0]
      rw [if_neg (show ¬ nI (kd B i) = 2 from nk (j := 2) hk (by decide) k2), bs, gd_true]
      by_cases k4 : kd B i = 4
      · have o := ok_4 ok i12 k4
        have n := (nm i i12).2 k4
        rw [Y_a bY i12 (by omega) (by omega) (by omega), k4]
        have ti := thr_k k4 (show 4 < 6 by decide)
        have c0 : fb_ct (fun d => decide (kd B d = 3) && decide (τ d = τ c)) (i + 1) = fb_ct (fun d => decide (kd B d = 3) && decide (τ d = τ c)) i + 0 := by
          rw [fb_ct_succ, if_neg (by simp [k4])]
        by_cases lr : lastR B i = c
        · have lg := (lastR_ge B i).2.2 k4
          rw [lr] at lg
          have ai := ag i (by omega) ti
          have aa := ag _ lg n
          have one : i = c ∨ ka B i = c := by
            unfold lastR at lr
            rw [if_neg k2, if_pos k4] at lr
            omega
          refine ⟨(bI (r && holdR B i τ), nI (fb_ct (fun d => decide (kd B d = 3) && decide (τ d = τ c)) (i + 1))), ⟨_, rfl, fin _ ⟨fun q _ _ => q, fun q => q (Or.inr k4) lr⟩⟩, ?_⟩
          have hh : (if nI (τ i) ≤ nI (τ (ka B i)) then some (0 : Int32) else some 1) = some (bI (holdR B i τ)) := by
            unfold holdR
            rw [if_neg k2, if_neg (show ¬ kd B i = 3 by omega), if_pos k4]
            by_cases z : τ (ka B i) < τ i
            · rw [if_neg (nI_ge z (by omega)), decide_eq_true z]; rfl
            · rw [if_pos (nI_le (by omega) (by omega)), decide_eq_false z]; rfl
          have inner : (Option.bind (α := Int32) (if bI r = 0 then some 0 else gd (inb (nI (ka B i)) 12) <| if Y.1 22 i ≤ Y.1 22 (Int32.toNatClampNeg (nI (ka B i))) then some 0 else some 1) fun t => some t) = some (bI (r && holdR B i τ)) := by
            rw [inb_nI o.1 (by decide), gd_true, cl (show ka B i < 2 ^ 31 by omega), ai.1, aa.1, hh]
            cases r <;> cases holdR B i τ <;> rfl
          rw [if_pos (show nI 4 = 4 from rfl), if_neg (nI_nlt lg (by omega)), gd_true, inner]
          have e5 : (if nI i = nI c then some (bI (r && holdR B i τ)) else if nI (ka B i) = nI c then some (bI (r && holdR B i τ)) else some (bI r)) = some (bI (r && holdR B i τ)) := by
            rcases one with q | q
            · rw [if_pos (by rw [q])]
            · by_cases q1 : nI i = nI c
              · rw [if_pos q1]
              · rw [if_neg q1, if_pos (by rw [q])]
          rw [e5, bs, gd_true, if_neg (show ¬ nI 4 = 3 by decide), bs, c0]
          rw [show nI (fb_ct (fun d => decide (kd B d = 3) && decide (τ d = τ c)) i) + 0 = nI (fb_ct (fun d => decide (kd B d = 3) && decide (τ d = τ c)) i + 0) from nI_add _ 0]
        · refine ⟨(bI (r && true), nI (fb_ct (fun d => decide (kd B d = 3) && decide (τ d = τ c)) (i + 1))), ⟨_, rfl, fin true ⟨fun _ _ q => absurd q lr, fun _ => rfl⟩⟩, ?_⟩
          have e5 : ∀ z1 z2 : Option Int32, (if nI c < nI (ka B i) then some (bI r) else if nI i = nI c then z1 else if nI (ka B i) = nI c then z2 else some (bI r)) = some (bI r) := fun z1 z2 => by
            by_cases q1 : c < ka B i
            · rw [if_pos (nI_lt q1 (by omega))]
            have nn : ¬ i = c ∧ ¬ ka B i = c := by
              unfold lastR at lr
              rw [if_neg k2, if_pos k4] at lr
              omega
            rw [if_neg (nI_nlt (by omega) (by omega)), if_neg (by rw [nI_eq (by omega) (by omega)]; exact nn.1), if_neg (by rw [nI_eq (by omega) (by omega)]; exact nn.2)]
          rw [if_pos (show nI 4 = 4 from rfl), e5, bs, gd_true, if_neg (show ¬ nI 4 = 3 by decide), bs, c0, Bool.and_true]
          rw [show nI (fb_ct (fun d => decide (kd B d = 3) && decide (τ d = τ c)) i) + 0 = nI (fb_ct (fun d => decide (kd B d = 3) && decide (τ d = τ c)) i + 0) from nI_add _ 0]
      rw [if_neg (show ¬ nI (kd B i) = 4 from nk (j := 4) hk (by decide) k4), bs, gd_true]
      refine ⟨(bI (r && true), nI (fb_ct (fun d => decide (kd B d = 3) && decide (τ d = τ c)) (i + 1))), ⟨_, rfl, fin true ⟨fun _ k => by omega, fun _ => rfl⟩⟩, ?_⟩
      rw [Bool.and_true, fb_ct_succ]
      by_cases k3 : kd B i = 3
      · have ai := ag i (by omega) (thr_k k3 (by decide))
        have ac := ag c (by omega) tc
        rw [k3, if_pos (show nI 3 = 3 from rfl), gd_true, inb_nI hc (by decide), gd_true, cl (show c < 2 ^ 31 by omega), ai.1, ac.1]
        by_cases z : τ i = τ c
        · rw [if_pos (by rw [z]), bs, if_pos (by simp [z]), nI_1]
        · rw [if_neg (by rw [nI_eq (by omega) (by omega)]; exact z), bs, if_neg (by simp [z])]
          rw [show nI (fb_ct (fun d => decide (kd B d = 3) && decide (τ d = τ c)) i) + 0 = nI (fb_ct (fun d => decide (kd B d = 3) && decide (τ d = τ c)) i + 0) from nI_add _ 0]
      · rw [if_neg (show ¬ nI (kd B i) = 3 from nk (j := 3) hk (by decide) k3), bs, if_neg (by simp [k3])]
        rw [show nI (fb_ct (fun d => decide (kd B d = 3) && decide (τ d = τ c)) i) + 0 = nI (fb_ct (fun d => decide (kd B d = 3) && decide (τ d = τ c)) i + 0) from nI_add _ 0])
    N 0 (1, 0) (by omega) (by omega) ⟨true, rfl, fun _ t ht => by omega, fun _ => rfl⟩
  subst e2
  refine ⟨r, e1, h1.trans ⟨fun q t ht => q t (by omega), fun q t ht => q t (by omega)⟩⟩
theorem Y_well2 {N : Nat} (hN : 13 < N) (ok : okB B) (bY : BY Y B) (ho : out < 2 ^ 31) (h34 : Y.1 0 34 = nI out) {c : Nat} (hc : c < 12) (ag : ∀ d, d ≤ c → thr B d = true → Y.1 22 d = nI (τ d) ∧ τ d < 100) (r0 : Bool) : ∃ r, fY0_isWell_L241 N Y (nI c) N (bI r0) 0 = some (bI r) ∧ (r = true ↔ r0 = true ∧ ∀ s, s < sn B → out.testBit s = false → lsN B s 12 = c + 1 → sumS B s τ = tt B s) := by
  have h8 := ok.2.2.2.1
  obtain ⟨t, e1, r, e2, h1⟩ := loop_up (fun q (x : Int32) y => fY0_isWell_L241 N Y (nI c) q x y) (sn B)
    (fun i x => ∃ r, x = bI r ∧ (r = true ↔ r0 = true ∧ ∀ s, s < i → out.testBit s = false → lsN B s 12 = c + 1 → sumS B s τ = tt B s))
    (fun x => ∃ r, x = bI r ∧ (r = true ↔ r0 = true ∧ ∀ s, s < sn B → out.testBit s = false → lsN B s 12 = c + 1 → sumS B s τ = tt B s))
    (fun q x hI => ⟨x, by
      show fY0_isWell_L241 N Y (nI c) (q + 1) x (nI (sn B)) = _
      rw [fY0_isWell_L241, bY.2.2.2.1, if_pos (ge_n (by omega))], hI⟩)
    (fun q i x hi hI => by
      obtain ⟨r, rfl, h2⟩ := hI
      show (∃ t, fY0_isWell_L241 N Y (nI c) (q + 1) (bI r) (nI i) = some t ∧ _) ∨ ∃ s' : Int32, _ ∧ fY0_isWell_L241 N Y (nI c) (q + 1) (bI r) (nI i) = fY0_isWell_L241 N Y (nI c) q s' (nI (i + 1))
      cases r
      · left
        refine ⟨bI false, by rw [fY0_isWell_L241, bY.2.2.2.1, if_neg (nI_ge hi (by omega)), if_pos bI_f], false, rfl, ⟨fun q => absurd q (by decide), fun q => h2.mpr ⟨q.1, fun s hs => q.2 s (by omega)⟩⟩⟩
      right
      have h2' := h2.mp rfl
      have fin : ∀ b : Bool, (b = true ↔ (out.testBit i = false → lsN B i 12 = c + 1 → sumS B i τ = tt B i)) → (b = true ↔ r0 = true ∧ ∀ s, s < i + 1 → out.testBit s = false → lsN B s 12 = c + 1 → sumS B s τ = tt B s) := fun b hb => ⟨fun q => ⟨h2'.1, fun t ht => by
          by_cases e : t = i
          · subst e; exact hb.mp q
          · exact h2'.2 t (by omega)⟩, fun q => hb.mpr (q.2 i (by omega))⟩
      have ll := lsN_le B i 12
      have lz : (lasY B i 12 = nI c) ↔ lsN B i 12 = c + 1 := by
        unfold lasY
        by_cases z : lsN B i 12 = 0
        · rw [if_pos z]
          exact ⟨fun w => absurd w.symm (nI_m9 (by omega)), fun w => by omega⟩
        · rw [if_neg z, nI_eq (by omega) (by omega)]
          omega
      rw [fY0_isWell_L241, bY.2.2.2.1, if_neg (nI_ge hi (by omega)), if_neg (show ¬ bI true = 0 by decide), h34, Yhas Y ho (by omega), bs, if_bI0, nI_1, Y_lastS hN ok bY hi, bs]
      cases ob : out.testBit i
      rotate_left
      · rw [if_pos rfl, bs]
        exact ⟨_, ⟨true, rfl, fin true ⟨fun _ q => by rw [ob] at q; exact absurd q (by decide), fun _ => rfl⟩⟩, rfl⟩
      rw [if_neg (by decide)]
      by_cases z : lsN B i 12 = c + 1
      · have ag' : ∀ d, d < 12 → nmS B i d = true → Y.1 22 d = nI (τ d) ∧ τ d < 100 := fun d hd q => by
          have := lsN_max B i 12 d hd q
          refine ag d (by omega) ?_
          unfold nmS at q
          simp at q
          exact q.1
        have sb := sumS_b (B := B) (s := i) (τ := τ) (fun d hd q => (ag' d hd q).2)
        have b3 := ok.2.2.2.2 i hi
        have ez : (iI (sumS B i τ) = iI (tt B i)) ↔ sumS B i τ = tt B i := iI_eq (by omega) (by omega) (by omega) (by omega)
        rw [if_pos (lz.mpr z), Y_sumS hN ok bY hi ag', bs, inb_nI (show i < 8 by omega) (by decide), gd_true, cl (show i < 2 ^ 31 by omega), (bY.2.2.2.2 i hi).2.2]
        by_cases q : sumS B i τ = tt B i
        · rw [if_pos (ez.mpr q), bs]
          exact ⟨_, ⟨true, rfl, fin true ⟨fun _ _ _ => q, fun _ => rfl⟩⟩, rfl⟩
        · rw [if_neg (fun w => q (ez.mp w)), bs]
          exact ⟨_, ⟨false, rfl, fin false ⟨fun w => absurd w (by decide), fun w => absurd (w ob z) q⟩⟩, rfl⟩
      · rw [if_neg (fun w => z (lz.mp w)), bs]
        exact ⟨_, ⟨true, rfl, fin true ⟨fun _ _ w => absurd w z, fun _ => rfl⟩⟩, rfl⟩)
    N 0 (bI r0) (by omega) (by omega) ⟨r0, rfl, fun h => ⟨h, fun s hs => by omega⟩, fun h => h.1⟩
  subst e2
  exact ⟨r, e1, h1⟩
theorem Y_well {N : Nat} (hN : 13 < N) (ok : okB B) (nm : nmd B) (bY : BY Y B) (ho : out < 2 ^ 31) (h34 : Y.1 0 34 = nI out) {c : Nat} (hc : c < 12) (tc : thr B c = true) (ag : ∀ d, d ≤ c → thr B d = true → Y.1 22 d = nI (τ d) ∧ τ d < 100) : fY0_isWell N Y (nI c) = some (bI (okD B out c τ)) := by
  obtain ⟨r1, e1, h1⟩ := Y_well1 hN ok nm bY hc tc ag
  have ac := ag c (Nat.le_refl c) tc
  have k6 : kd B c < 6 := by
    have := ok_k ok hc
    have := thr_t.mp tc
    omega
  have h9 := hocc_le B (τ c)
  have h7 := ok.2.1
  have hsu := sameU_le (B := B) (τ := τ) c
  obtain ⟨r2, e2, h2⟩ := Y_well2 hN ok bY ho h34 hc ag (r1 && (!decide (kd B c = 3) || decide (sameU B c τ ≤ hocc B (τ c))))
  have e3 : (if bI r1 = 0 then some (0 : Int32) else gd (inb (nI c) 12) <| if Y.1 10 (Int32.toNatClampNeg (nI c)) = 3 then (gd (inb (nI c) 12) <| Option.bind (fY0_inHeap N Y (Y.1 22 (Int32.toNatClampNeg (nI c)))) fun t81 => if t81 < nI (sameU B c τ) then some 0 else some 1) else some 1) = some (bI (r1 && (!decide (kd B c = 3) || decide (sameU B c τ ≤ hocc B (τ c))))) := by
    rw [inb_nI hc (by decide), gd_true, gd_true, cl (show c < 2 ^ 31 by omega), ac.1, Y_kind bY hc k6, Y_heapc (by omega) ok bY (by omega), bs]
    by_cases k3 : kd B c = 3
    · rw [if_pos (show nI (kd B c) = 3 by rw [k3]; rfl), decide_eq_true k3]
      by_cases z : sameU B c τ ≤ hocc B (τ c)
      · rw [if_neg (nI_nlt z (by omega)), decide_eq_true z]; cases r1 <;> rfl
      · rw [if_pos (nI_lt (by omega) (by omega)), decide_eq_false z]; cases r1 <;> rfl
    · rw [if_neg (show ¬ nI (kd B c) = 3 from nk (j := 3) (by omega) (by decide) k3), decide_eq_false k3]; cases r1 <;> rfl
  have ev : fY0_isWell N Y (nI c) = some (bI r2) := by
    rw [fY0_isWell, e1, bs]
    show Option.bind (if bI r1 = 0 then some (0 : Int32) else gd (inb (nI c) 12) <| if Y.1 10 (Int32.toNatClampNeg (nI c)) = 3 then (gd (inb (nI c) 12) <| Option.bind (fY0_inHeap N Y (Y.1 22 (Int32.toNatClampNeg (nI c)))) fun t81 => if t81 < nI (sameU B c τ) then some 0 else some 1) else some 1) _ = _
    rw [e3, bs, e2, bs, bI_isb, gd_true]
  rw [ev]
  congr 2
  unfold okD
  rw [Bool.eq_iff_iff, h2, Bool.and_eq_true, h1, decide_eq_true_iff]
  constructor
  · rintro ⟨⟨q1, q2⟩, q3⟩
    refine ⟨fun t ht kk lr => ?_, q3⟩
    have lg := (lastR_ge B t).1
    by_cases k3 : kd B t = 3
    · have et : t = c := by
        unfold lastR at lr
        rw [if_neg (by omega), if_neg (by omega)] at lr
        exact lr
      subst et
      unfold holdR
      rw [if_neg (by omega), if_pos k3]
      simpa [k3] using q2
    · exact q1 t (by omega) (by omega) lr
  · rintro ⟨q1, q2⟩
    refine ⟨⟨fun t ht kk lr => q1 t (by omega) (by omega) lr, ?_⟩, q2⟩
    by_cases k3 : kd B c = 3
    · have := q1 c hc (Or.inr (Or.inl k3)) (by unfold lastR; rw [if_neg (by omega), if_neg (by omega)])
      unfold holdR at this
      rw [if_neg (by omega), if_pos k3] at this
      simp [k3, this]
    · simp [k3]
end OK1
