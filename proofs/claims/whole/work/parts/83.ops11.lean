/-! must, could -/
theorem trs_100 {ev : (Nat → Nat) → List Ev} {L : Nat → Nat → Bool} {okf : Nat → (Nat → Nat) → Bool} {c : Nat} {τ : Nat → Nat} (hτ : ∀ d, τ d < 100) (h : ∀ τ, (∀ d, τ d < 100) → ∀ σ, some σ ∈ ev τ → ∀ d, σ d < 100) : ∀ n σ, some σ ∈ trs ev L okf c τ n → ∀ d, σ d < 100
  | 0, σ, hm => by
    rw [trs] at hm
    exact absurd hm (by simp)
  | n + 1, σ, hm => by
    rw [trs] at hm
    rcases List.mem_append.mp hm with q | q
    · split at q
      · rcases List.mem_cons.mp q with q | q
        · exact absurd q (by simp)
        · split at q
          · refine h _ (fun d => ?_) σ q
            unfold upN
            split
            · omega
            · exact hτ d
          · exact absurd q (by simp)
      · exact absurd q (by simp)
    · exact trs_100 hτ h n σ q
theorem evn_100 {B : Bk} {L : Nat → Nat → Bool} {okf : Nat → (Nat → Nat) → Bool} : ∀ r τ, (∀ d, τ d < 100) → ∀ σ, some σ ∈ evn B L okf r τ → ∀ d, σ d < 100
  | 0, τ, hτ, σ, hm => by
    rw [evn] at hm
    have : some σ = some τ := List.mem_singleton.mp hm
    injection this with this
    rw [this]; exact hτ
  | r + 1, τ, hτ, σ, hm => by
    rw [evn] at hm
    exact trs_100 hτ (fun τ h => evn_100 r τ h) 100 σ hm
theorem run_mem {lim : Nat} {w : Option Nat} : ∀ (E : List Ev) (a : Acc) (τ : Nat → Nat), τ ∈ (run lim w a E).2.1 → τ ∈ a.2.1 ∨ some τ ∈ E
  | [], a, τ, h => Or.inl h
  | e :: E, a, τ, h => by
    rw [run_cons] at h
    rcases run_mem E _ τ h with q | q
    · unfold stp at q
      split at q
      · exact Or.inl q
      · cases e with
        | none =>
          dsimp only at q
          split at q
          · exact Or.inl q
          · exact Or.inl q
        | some σ =>
          dsimp only at q
          rcases List.mem_cons.mp q with q | q
          · right; rw [q]; exact List.mem_cons_self
          · exact Or.inl q
    · exact Or.inr (List.mem_cons_of_mem _ q)
theorem fin_100 {B : Bk} {L : Nat → Nat → Bool} {out lim : Nat} {w : Option Nat} : ∀ τ, τ ∈ (fin B L out lim w).2.1 → ∀ d, τ d < 100 := fun τ h => by
  unfold fin evs at h
  rcases run_mem _ _ τ h with q | q
  · exact absurd q (by unfold a0; simp)
  · split at q
    · exact evn_100 _ _ (fun _ => by omega) τ q
    · exact absurd q (by simp)
theorem cnF_mem : ∀ (fl : List (Nat → Nat)) (c : Nat) (τ : Nat → Nat), τ ∈ fl → 0 < cnF fl c (τ c)
  | [], c, τ, h => absurd h (by simp)
  | σ :: fl, c, τ, h => by
    rw [cnF]
    rcases List.mem_cons.mp h with q | q
    · rw [q, if_pos rfl]; omega
    · have := cnF_mem fl c τ q
      omega
theorem fin_some {B : Bk} {L : Nat → Nat → Bool} {out lim : Nat} {w : Option Nat} (h : (fin B L out lim w).2.1.length ≠ 0) (c : Nat) : ∃ v, v < 100 ∧ 0 < cnF (fin B L out lim w).2.1 c v := by
  have f := fin_100 (B := B) (L := L) (out := out) (lim := lim) (w := w)
  generalize (fin B L out lim w).2.1 = fl at h f
  cases fl with
  | nil => exact absurd rfl h
  | cons τ fl => exact ⟨τ c, f τ List.mem_cons_self c, cnF_mem _ c τ List.mem_cons_self⟩
section OT
variable {S S' Y Y' : St} {B : Bk} {out lim : Nat} {lo hi lo' hi' : Nat → Int} {L L' : Nat → Nat → Bool} {τ : Nat → Nat} {w : Option Nat} {W : Option (Nat → Nat)} {a : Acc}
theorem X_greatestF {N : Nat} (hN : 201 < N) (x : XF S B none W a) (hl : a.2.1.length < 2 ^ 30) {c : Nat} (hc : c < 12) (tc : thr B c = true) (ex : ∃ v, v < 100 ∧ 0 < cnF a.2.1 c v) : ∃ g, fX37_greatestOf N S (nI c) = some (nI g) ∧ g < 100 ∧ 0 < cnF a.2.1 c g ∧ ∀ u, g < u → u < 100 → cnF a.2.1 c u = 0 := by
  obtain ⟨t, e, g, rfl, h⟩ := loop_me (fun n (v : Nat) => fX37_greatestOf_L3 N S (nI c) n (nI v)) (fun v => v < 100 ∧ ∀ u, v < u → u < 100 → cnF a.2.1 c u = 0) (fun v => v) (fun t => ∃ g, t = nI g ∧ g < 100 ∧ 0 < cnF a.2.1 c g ∧ ∀ u, g < u → u < 100 → cnF a.2.1 c u = 0)
    (fun n v hI => by
      try dsimp only
      rw [fX37_greatestOf_L3]
      have b2 := cnF_le a.2.1 c v
      cases v with
      | zero =>
        left
        rw [if_pos (show nI 0 ≤ 0 by decide)]
        refine ⟨_, rfl, 0, rfl, by omega, ?_, hI.2⟩
        obtain ⟨v, h1, h2⟩ := ex
        rcases Nat.eq_zero_or_pos v with q | q
        · rw [q] at h2; exact h2
        · rw [hI.2 v q h1] at h2; omega
      | succ v =>
        rw [if_neg (show ¬ nI (v + 1) ≤ 0 from nI_ge (a := 0) (by omega) (by omega)), X_with x hc tc hI.1, bs]
        rcases Nat.eq_zero_or_pos (cnF a.2.1 c (v + 1)) with q | q
        · right
          rw [q, if_pos (show nI 0 = 0 from rfl)]
          refine ⟨v, ⟨by omega, fun u h1 h2 => ?_⟩, by omega, ?_⟩
          · by_cases z : u = v + 1
            · rw [z]; exact q
            · exact hI.2 u (by omega) h2
          · rw [iI_nat (v + 1), show (-1 : Int32) = iI (-1) from rfl, iI_add, iI_nat v]
            congr 1
            congr 1
            omega
        · left
          rw [if_neg (nI_ne0 q (by omega))]
          exact ⟨_, rfl, v + 1, rfl, hI.1, q, hI.2⟩)
    N 99 (by omega) ⟨by omega, fun u h1 h2 => by omega⟩
  have e2 : fX37_greatestOf_L3 N S (nI c) N 99 = some (nI g) := e
  exact ⟨g, by rw [fX37_greatestOf, e2, bs], h⟩
theorem X_leastF {N : Nat} (hN : 201 < N) (x : XF S B none W a) (hl : a.2.1.length < 2 ^ 30) {c : Nat} (hc : c < 12) (tc : thr B c = true) (ex : ∃ v, v < 100 ∧ 0 < cnF a.2.1 c v) : ∃ g, fX37_leastOf N S (nI c) = some (nI g) ∧ g < 100 ∧ 0 < cnF a.2.1 c g ∧ ∀ u, u < g → cnF a.2.1 c u = 0 := by
  obtain ⟨t, e, g, rfl, h⟩ := loop_up (fun n (_ : Unit) x => fX37_leastOf_L2 N S (nI c) n x) 99 (fun v _ => ∀ u, u < v → cnF a.2.1 c u = 0) (fun t => ∃ g, t = nI g ∧ g < 100 ∧ 0 < cnF a.2.1 c g ∧ ∀ u, u < g → cnF a.2.1 c u = 0)
    (fun n s hI => ⟨nI 99, by
      show fX37_leastOf_L2 N S (nI c) (n + 1) (nI 99) = _
      rw [fX37_leastOf_L2, if_pos (by decide)], 99, rfl, by omega, by
      obtain ⟨v, h1, h2⟩ := ex
      rcases Nat.lt_or_ge v 99 with q | q
      · rw [hI v q] at h2; omega
      · rw [show v = 99 by omega] at h2; exact h2, hI⟩)
    (fun n v s hv hI => by
      try dsimp only
      have b2 := cnF_le a.2.1 c v
      rw [fX37_leastOf_L2, if_neg (show ¬ (99 : Int32) ≤ nI v from nI_ge hv (by decide)), X_with x hc tc (by omega), bs, nI_1]
      rcases Nat.eq_zero_or_pos (cnF a.2.1 c v) with q | q
      · right
        rw [q, if_pos (show nI 0 = 0 from rfl)]
        refine ⟨(), fun u h1 => ?_, rfl⟩
        by_cases z : u = v
        · rw [z]; exact q
        · exact hI u (by omega)
      · left
        rw [if_neg (nI_ne0 q (by omega))]
        exact ⟨_, rfl, v, rfl, by omega, q, hI⟩)
    N 0 () (by omega) (by omega) (fun u hu => by omega)
  have e2 : fX37_leastOf_L2 N S (nI c) N 0 = some (nI g) := e
  exact ⟨g, by rw [fX37_leastOf, e2, bs], h⟩
theorem Y_must43 {N : Nat} (hN : 201 < N) (y : YT Y B a) (hl : a.2.1.length < 2 ^ 30) {c : Nat} (hc : c < 12) (tc : thr B c = true) : ∃ p, fY0_must_L43 N Y (nI c) N (-9) (-9) 0 = some p ∧ (((∀ u, u < 100 → cnF a.2.1 c u = 0) ∧ p = (-9, -9)) ∨ ∃ l g, p = (nI l, nI g) ∧ l ≤ g ∧ g < 100 ∧ 0 < cnF a.2.1 c l ∧ 0 < cnF a.2.1 c g ∧ (∀ u, u < l → cnF a.2.1 c u = 0) ∧ ∀ u, g < u → u < 100 → cnF a.2.1 c u = 0) := by
  obtain ⟨t, e, h⟩ := loop_up (fun n (s : Int32 × Int32) x => fY0_must_L43 N Y (nI c) n s.1 s.2 x) 100 (fun i p => ((∀ u, u < i → cnF a.2.1 c u = 0) ∧ p = (-9, -9)) ∨ ∃ l g, p = (nI l, nI g) ∧ l ≤ g ∧ g < i ∧ 0 < cnF a.2.1 c l ∧ 0 < cnF a.2.1 c g ∧ (∀ u, u < l → cnF a.2.1 c u = 0) ∧ ∀ u, g < u → u < i → cnF a.2.1 c u = 0) (fun p => ((∀ u, u < 100 → cnF a.2.1 c u = 0) ∧ p = (-9, -9)) ∨ ∃ l g, p = (nI l, nI g) ∧ l ≤ g ∧ g < 100 ∧ 0 < cnF a.2.1 c l ∧ 0 < cnF a.2.1 c g ∧ (∀ u, u < l → cnF a.2.1 c u = 0) ∧ ∀ u, g < u → u < 100 → cnF a.2.1 c u = 0)
    (fun n s hI => ⟨s, by
      show fY0_must_L43 N Y (nI c) (n + 1) s.1 s.2 (nI 100) = _
      rw [fY0_must_L43, if_pos (by decide)], hI⟩)
    (fun n i s hi hI => by
      right
      try dsimp only
      have b2 := cnF_le a.2.1 c i
      rw [fY0_must_L43, if_neg (show ¬ (100 : Int32) ≤ nI i from nI_ge hi (by decide)), ixY, inb_nI (show 100 * c + i < 1200 by omega) (by decide), gd_true, cl (show 100 * c + i < 2 ^ 31 by omega), y.2.2.2.2.2.2 c hc tc i hi, nI_1]
      rcases Nat.eq_zero_or_pos (cnF a.2.1 c i) with q | q
      · rw [q, if_pos (show nI 0 ≤ 0 by decide), bs]
        refine ⟨s, ?_, rfl⟩
        rcases hI with ⟨h1, h2⟩ | ⟨l, g, h1, h2, h3, h4, h5, h6, h7⟩
        · refine Or.inl ⟨fun u hu => ?_, h2⟩
          by_cases z : u = i
          · rw [z]; exact q
          · exact h1 u (by omega)
        · refine Or.inr ⟨l, g, h1, h2, by omega, h4, h5, h6, fun u q1 q2 => ?_⟩
          by_cases z : u = i
          · rw [z]; exact q
          · exact h7 u q1 (by omega)
      · rw [if_neg (show ¬ nI (cnF a.2.1 c i) ≤ 0 from nI_ge (a := 0) q (by omega))]
        rcases hI with ⟨h1, h2⟩ | ⟨l, g, h1, h2, h3, h4, h5, h6, h7⟩
        · rw [h2, if_neg (by decide), bs, bs]
          exact ⟨(nI i, nI i), Or.inr ⟨i, i, rfl, Nat.le_refl _, by omega, q, q, h1, fun u q1 q2 => by omega⟩, rfl⟩
        · rw [h1, if_pos (show (0 : Int32) ≤ nI l from nI_le (Nat.zero_le _) (by omega)), bs, bs]
          exact ⟨(nI l, nI i), Or.inr ⟨l, i, rfl, by omega, by omega, h4, q, h6, fun u q1 q2 => by omega⟩, rfl⟩)
    N 0 (-9, -9) (by omega) (by omega) (Or.inl ⟨fun u hu => by omega, rfl⟩)
  exact ⟨t, e, h⟩
theorem op11_must {N : Nat} (hN : 41000 < N) : op_must N RR := by
  intro S Y a1 a2 h
  obtain ⟨B, ok, bx, bY⟩ := h.2.2.2
  unfold fX0_must fY0_must
  rcases turns S Y a2 with ⟨q1, q2⟩ | ⟨lim, rfl, l1, l2, q1, q2⟩
  · rw [q1, q2]
    exact ⟨-1, S, Y, rfl, rfl, h⟩
  rw [q1, q2, bs, bs, if_neg ne10, if_neg ne10]
  rcases refCell h ok bx bY a1 with ⟨v, S', Y', e1, e2, hv, hR'⟩ | ⟨c, hc, rfl, hk, e1, e2⟩
  · rw [e1, e2, bs, bs, if_neg (neg0 hv), if_neg (negle hv)]
    exact ⟨v, S', Y', rfl, rfl, hR'⟩
  have tc := thr_6 hk
  obtain ⟨S', Y', L, f1, f2, xf, yt, hR⟩ := through_R (W := none) hN h ok bx bY l1 l2 (fun f q => absurd q (by simp))
  have fb := fin_b B L 0 lim none
  rw [e1, e2, bs, bs]
  try dsimp only
  rw [if_pos rfl, if_pos (show (0 : Int32) ≤ 0 by decide), f1, f2, bs, bs]
  try dsimp only
  rw [sp6, if_bI0]
  cases es : (fin B L 0 lim none).2.2.1
  rotate_left
  · exact ⟨-6, S', Y', rfl, rfl, hR⟩
  rw [if_neg (by decide), if_pos (show (!false) = true from rfl), fX37_fillings, bs, xf.2.2.1]
  obtain ⟨p, eY, hp⟩ := Y_must43 (N := N) (by omega) yt (by omega) hc tc
  rw [eY, bs, yt.2.2.2.2.2.1]
  by_cases z : (fin B L 0 lim none).2.1.length = 0
  · rw [z, if_pos (show nI 0 = 0 from rfl), if_pos (show nI 0 = 0 from rfl), bs]
    exact ⟨_, _, _, rfl, rfl, hR⟩
  · have ex := fin_some z c
    obtain ⟨g, eg, g1, g2, g3⟩ := X_greatestF (N := N) (by omega) xf (by omega) hc tc ex
    have xf2 : XF (p1 S' 0 12 (nI g)) B none none (fin B L 0 lim none) := by
      obtain ⟨x1, x2, x3, x4, x5, x6, x7, x8⟩ := xf
      have o : ∀ k q, k ≠ 0 → (p1 S' 0 12 (nI g)).1 k q = S'.1 k q := fun k q hk => p1_ne hk
      exact ⟨BX_c x1 (funext fun q => o 26 q (by decide)) (funext fun q => o 27 q (by decide)) (funext fun q => o 28 q (by decide)) (o _ _ (by decide)) (o _ _ (by decide)) (funext fun q => o 23 q (by decide)) (funext fun q => o 24 q (by decide)) (o _ _ (by decide)) (funext fun q => o 30 q (by decide)) (funext fun q => o 31 q (by decide)) (funext fun q => o 32 q (by decide)), by rw [o _ _ (by decide)]; exact x2, by rw [o _ _ (by decide)]; exact x3, by rw [o _ _ (by decide)]; exact x4, by rw [o _ _ (by decide)]; exact x5, fun q => by
        obtain ⟨τ, fl, r1, r2⟩ := x6 q
        exact ⟨τ, fl, r1, fun d hd td => by rw [o _ _ (by decide)]; exact r2 d hd td⟩, fun q c hc tc v hv => by rw [o _ _ (by decide)]; exact x7 q c hc tc v hv, fun q f hf => absurd hf (by simp)⟩
    obtain ⟨l, el, m1, m2, m3⟩ := X_leastF (N := N) (by omega) xf2 (by omega) hc tc ex
    rw [if_neg (nI_ne0 (by omega) (by omega)), if_neg (nI_ne0 (by omega) (by omega)), eg, bs, nx_eq, el, bs]
    obtain ⟨v, v1, v2⟩ := ex
    rcases hp with ⟨h1, _⟩ | ⟨l', g', h1, h2, h3, h4, h5, h6, h7⟩
    · rw [h1 v v1] at v2; omega
    · have el' : l' = l := by
        rcases Nat.lt_trichotomy l' l with q | q | q
        · rw [m3 l' q] at h4; omega
        · exact q
        · rw [h6 l q] at m2; omega
      have eg' : g' = g := by
        rcases Nat.lt_trichotomy g' g with q | q | q
        · rw [h7 g q g1] at g2; omega
        · exact q
        · rw [g3 g' q h3] at h5; omega
      subst el' eg'
      rw [h1, fY0_ask, nx_eq, bs, bs]
      exact ⟨_, _, _, rfl, rfl, RR_ask hR _⟩
/-- Euclid, in the reference and in the class -/
theorem gcd_s {a b : Nat} : Nat.gcd b (a % b) = Nat.gcd a b := by rw [Nat.gcd_comm, ← Nat.gcd_rec, Nat.gcd_comm]
theorem Y_gcd {N : Nat} {x : Int32} : ∀ n a b, a < 2 ^ 31 → b < 2 ^ 31 → b < n → fY0_could_L65 N Y x n (nI a) (nI b) = some (nI (Nat.gcd a b))
  | 0, a, b, _, _, h => by omega
  | n + 1, a, b, ha, hb, h => by
    rw [fY0_could_L65]
    rcases Nat.eq_zero_or_pos b with q | q
    · rw [q, if_pos (show nI 0 = 0 from rfl), Nat.gcd_zero_right]
    · have m := Nat.mod_lt a q
      rw [if_neg (nI_ne0 q hb), decide_eq_false (nI_ne0 q hb), show (!false) = true from rfl, gd_true, nx_eq, pk_rem ha q hb, Y_gcd n b (a % b) hb (by omega) (by omega), gcd_s]
theorem X_gcd {N : Nat} : ∀ m n i a b, a < 2 ^ 31 → b < 2 ^ m → m ≤ 15 → i + 2 * m < 50 → 50 < n + i → fXs_commonDivisor_L2 N S n (nI a) (nI b) (nI i) = some (nI (Nat.gcd a b))
  | 0, n, i, a, b, ha, hb, hm, hi, hn => by
    obtain ⟨n, rfl⟩ : ∃ k, n = k + 1 := ⟨n - 1, by omega⟩
    have : b = 0 := by have : (2 : Nat) ^ 0 = 1 := rfl; omega
    rw [fXs_commonDivisor_L2, if_neg (show ¬ (50 : Int32) ≤ nI i from nI_ge (b := 50) (by omega) (by decide)), this, if_pos (show nI 0 ≤ 0 by decide), Nat.gcd_zero_right]
  | m + 1, n, i, a, b, ha, hb, hm, hi, hn => by
    have p15 : (2 : Nat) ^ (m + 1) ≤ 2 ^ 15 := Nat.pow_le_pow_right (by omega) hm
    obtain ⟨n, rfl⟩ : ∃ k, n = k + 1 := ⟨n - 1, by omega⟩
    rw [fXs_commonDivisor_L2, if_neg (show ¬ (50 : Int32) ≤ nI i from nI_ge (b := 50) (by omega) (by decide))]
    rcases Nat.eq_zero_or_pos b with q | q
    · rw [q, if_pos (show nI 0 ≤ 0 by decide), Nat.gcd_zero_right]
    · have r1 := Nat.mod_lt a q
      rw [if_neg (show ¬ nI b ≤ 0 from nI_ge (a := 0) q (by omega)), decide_eq_false (nI_ne0 q (by omega)), show (!false) = true from rfl, gd_true, nx_eq, pk_rem ha q (by omega), nI_1]
      obtain ⟨n, rfl⟩ : ∃ k, n = k + 1 := ⟨n - 1, by omega⟩
      rw [fXs_commonDivisor_L2, if_neg (show ¬ (50 : Int32) ≤ nI (i + 1) from nI_ge (b := 50) (by omega) (by decide))]
      rcases Nat.eq_zero_or_pos (a % b) with z | z
      · rw [← gcd_s, z, if_pos (show nI 0 ≤ 0 by decide), Nat.gcd_zero_right]
      · have r2 := Nat.mod_lt b z
        have r3 : b % (a % b) + (a % b) ≤ b := by
          have := Nat.div_add_mod b (a % b)
          have d1 : 1 ≤ b / (a % b) := (Nat.one_le_div_iff z).mpr (by omega)
          have d2 : a % b ≤ (a % b) * (b / (a % b)) := Nat.le_mul_of_pos_right _ d1
          omega
        rw [if_neg (show ¬ nI (a % b) ≤ 0 from nI_ge (a := 0) z (by omega)), decide_eq_false (nI_ne0 z (by omega)), show (!false) = true from rfl, gd_true, nx_eq, pk_rem (by omega) z (by omega), nI_1, X_gcd m n (i + 1 + 1) (a % b) (b % (a % b)) (by omega) (by rw [Nat.pow_succ] at hb; omega) (by omega) (by omega) (by omega), gcd_s, gcd_s]
theorem op11_could {N : Nat} (hN : 41000 < N) : op_could N RR := by
  intro S Y a1 a2 a3 h
  obtain ⟨B, ok, bx, bY⟩ := h.2.2.2
  unfold fX0_could fY0_could
  rw [XisNumber, YisNumber, bs, bs]
  by_cases h1 : inb a2 100 = true
  rotate_left
  · rw [if_neg h1, if_pos rfl, if_pos rfl]
    exact ⟨-1, S, Y, rfl, rfl, h⟩
  obtain ⟨v, hv, rfl⟩ := inb_ex h1 (by decide)
  rw [if_pos h1, if_neg ne10, if_neg ne10]
  rcases turns S Y a3 with ⟨q1, q2⟩ | ⟨lim, rfl, l1, l2, q1, q2⟩
  · rw [q1, q2]
    exact ⟨-1, S, Y, rfl, rfl, h⟩
  rw [q1, q2, bs, bs, if_neg ne10, if_neg ne10]
  rcases refCell h ok bx bY a1 with ⟨v, S', Y', e1, e2, hv, hR'⟩ | ⟨c, hc, rfl, hk, e1, e2⟩
  · rw [e1, e2, bs, bs, if_neg (neg0 hv), if_neg (negle hv)]
    exact ⟨v, S', Y', rfl, rfl, hR'⟩
  have tc := thr_6 hk
  obtain ⟨S', Y', L, f1, f2, xf, yt, hR⟩ := through_R (W := none) hN h ok bx bY l1 l2 (fun f q => absurd q (by simp))
  have fb := fin_b B L 0 lim none
  rw [e1, e2, bs, bs]
  try dsimp only
  rw [if_pos rfl, if_pos (show (0 : Int32) ≤ 0 by decide), f1, f2, bs, bs]
  try dsimp only
  rw [sp6, if_bI0]
  cases es : (fin B L 0 lim none).2.2.1
  rotate_left
  · exact ⟨-6, S', Y', rfl, rfl, hR⟩
  have cb := cnF_le (fin B L 0 lim none).2.1 c v
  generalize hn : (fin B L 0 lim none).2.1.length = n at *
  generalize hm : cnF (fin B L 0 lim none).2.1 c v = m at *
  have xw := X_with xf hc tc hv
  have yw := yt.2.2.2.2.2.2 c hc tc v hv
  rw [hm] at xw yw
  have y37 := yt.2.2.2.2.2.1
  have x12 := xf.2.2.1
  rw [hn] at y37 x12
  have p20 : (20001 : Nat) < 2 ^ 15 := by decide
  have gY := Y_gcd (N := N) (Y := Y') (x := nI m) N m n (by omega) (by omega) (by omega)
  rw [if_neg (by decide), if_pos (show (!false) = true from rfl), xw, bs, fX37_fillings, bs, x12, ixY, inb_nI (show 100 * c + v < 1200 by omega) (by decide), gd_true, nx_eq, cl (show 100 * c + v < 2 ^ 31 by omega), yw, y37, gY, bs]
  unfold fX0_tellFraction
  rcases Nat.eq_zero_or_pos m with z | z
  · rw [z, if_pos (show nI 0 ≤ 0 by decide), nx_eq, nx_eq, bs, Nat.gcd_zero_left]
    rcases Nat.eq_zero_or_pos n with y | y
    · rw [y, if_pos (show nI 0 = 0 from rfl), bs, nx_eq, if_pos (show nI 0 = 0 from rfl), bs, nx_eq]
      exact ⟨_, _, _, rfl, rfl, RR_frac hR _ _⟩
    · have n0 := nI_ne0 y (show n < 2 ^ 31 by omega)
      rw [if_neg n0, decide_eq_false n0, show (!false) = true from rfl, gd_true, bs, nx_eq, if_neg n0, gd_true, bs, nx_eq]
      have d1 : nI 0 / nI n = 0 := by rw [pk_div (by omega) y (by omega), Nat.zero_div]; rfl
      have d2 : nI n / nI n = 1 := by rw [pk_div (by omega) y (by omega), Nat.div_self y]; rfl
      have e37 : (p2 Y' 0 3 (Int32.toInt64 (nI 0 / nI n))).1 0 37 = nI n := y37
      rw [e37, d1, d2]
      exact ⟨_, _, _, rfl, rfl, RR_frac hR _ _⟩
  · have gp : 0 < Nat.gcd m n := Nat.gcd_pos_of_pos_left n z
    have gl : Nat.gcd m n ≤ m := Nat.gcd_le_left n z
    have g0 := nI_ne0 gp (show Nat.gcd m n < 2 ^ 31 by omega)
    have gX : fXs_commonDivisor N S' (nI m) (nI n) = some (nI (Nat.gcd m n)) := by
      have e : fXs_commonDivisor_L2 N S' N (nI m) (nI n) 0 = some (nI (Nat.gcd m n)) := X_gcd 15 N 0 m n (by omega) (by omega) (by omega) (by omega) (by omega)
      rw [fXs_commonDivisor, e, bs, nx_eq, if_neg (show ¬ nI (Nat.gcd m n) < 1 from nI_nlt (b := 1) gp (by omega))]
    have e37 : ∀ u, (p2 Y' 0 3 u).1 0 37 = nI n := fun _ => y37
    rw [if_neg (show ¬ nI m ≤ 0 from nI_ge (a := 0) z (by omega)), if_pos (show 0 < nI n from nI_lt (a := 0) (by omega) (by omega)), gX, bs, decide_eq_false g0, show (!false) = true from rfl]
    simp only [gd_true, nx_eq, bs, if_neg g0, e37]
    exact ⟨_, _, _, rfl, rfl, RR_frac hR _ _⟩
end OT
