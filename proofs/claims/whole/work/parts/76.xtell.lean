/-! the walk: the class' tell -/
def wI : Option Nat → Int32
  | none => -1
  | some i => nI i
/-- the class' walk and what has happened -/
def XW (S : St) (B : Bk) (lo hi : Nat → Int) (out lim : Nat) (w : Option Nat) (W : Option (Nat → Nat)) (a : Acc) : Prop := BX S B ∧ FNX S B ∧ ENX S B lo hi ∧ ck42 S B 12 ∧ ck43 S B out (sn B) ∧ S.1 37 9 = wI w ∧ S.1 37 10 = nI lim ∧ S.1 37 11 = nI a.1 ∧ S.1 37 12 = nI a.2.1.length ∧ S.1 37 14 = bI a.2.2.1 ∧ S.1 37 15 = bI a.2.2.2 ∧ (a.2.2.2 = true → ∃ τ fl, a.2.1 = τ :: fl ∧ ∀ d, d < 12 → thr B d = true → S.1 38 d = nI (τ d)) ∧ (w = none → ∀ c, c < 12 → thr B c = true → ∀ v, v < 100 → S.1 41 (100 * c + v) = nI (cnF a.2.1 c v)) ∧ (w = none → ∀ f, W = some f → (∀ k, k < 10 → S.1 40 k = nI (f k) ∧ f k < 100) ∧ S.1 37 13 = iI (bw B f a.2.1) ∧ (a.2.1 ≠ [] → ∀ c, c < 12 → thr B c = true → S.1 39 c = nI (lk B f a.2.1 c)))
section OL
variable {S S' Y Y' : St} {B : Bk} {out lim : Nat} {lo hi lo' hi' : Nat → Int} {L L' : Nat → Nat → Bool} {τ : Nat → Nat} {w : Option Nat} {W : Option (Nat → Nat)} {a : Acc}
theorem X_tally {N : Nat} (hN : 61 < N) (bx : BX S B) (ag : ∀ d, d < 12 → thr B d = true → S.1 38 d = nI (τ d) ∧ τ d < 100) : ∃ S', fX37_tallyFilling N S = some S' ∧ (∀ c, c < 12 → thr B c = true → ∀ v, v < 100 → S'.1 41 (100 * c + v) = S.1 41 (100 * c + v) + (if τ c = v then 1 else 0)) ∧ ∀ k q, k ≠ 41 → S'.1 k q = S.1 k q := by
  obtain ⟨t, e1, h1, h2⟩ := loop_up (fun q st x => fX37_tallyFilling_L2 N q st x) 12
    (fun i st => (∀ c, c < 12 → thr B c = true → ∀ v, v < 100 → st.1 41 (100 * c + v) = S.1 41 (100 * c + v) + (if c < i ∧ τ c = v then 1 else 0)) ∧ ∀ k q, k ≠ 41 → st.1 k q = S.1 k q)
    (fun st => (∀ c, c < 12 → thr B c = true → ∀ v, v < 100 → st.1 41 (100 * c + v) = S.1 41 (100 * c + v) + (if c < 12 ∧ τ c = v then 1 else 0)) ∧ ∀ k q, k ≠ 41 → st.1 k q = S.1 k q)
    (fun q st hI => ⟨st, by
      show fX37_tallyFilling_L2 N (q + 1) st (nI 12) = _
      rw [fX37_tallyFilling_L2, if_pos (by decide)], hI⟩)
    (fun q i st hi hI => by
      obtain ⟨g1, g2⟩ := hI
      right
      show ∃ s', _ ∧ fX37_tallyFilling_L2 N (q + 1) st (nI i) = fX37_tallyFilling_L2 N q s' (nI (i + 1))
      have bx1 : BX st B := BX_c bx (funext fun q => g2 26 q (by decide)) (funext fun q => g2 27 q (by decide)) (funext fun q => g2 28 q (by decide)) (g2 _ _ (by decide)) (g2 _ _ (by decide)) (funext fun q => g2 23 q (by decide)) (funext fun q => g2 24 q (by decide)) (g2 _ _ (by decide)) (funext fun q => g2 30 q (by decide)) (funext fun q => g2 31 q (by decide)) (funext fun q => g2 32 q (by decide))
      rw [fX37_tallyFilling_L2, if_neg (show ¬ (12 : Int32) ≤ nI i from nI_ge hi (by decide)), X_there bx1 hi, bs, if_bI0, nI_1]
      cases ti : thr B i
      · rw [if_neg (by decide), bs]
        refine ⟨st, ⟨fun c hc tc v hv => ?_, g2⟩, rfl⟩
        rw [g1 c hc tc v hv]
        by_cases e : c = i
        · subst e; rw [ti] at tc; exact absurd tc (by decide)
        · have : (c < i + 1 ∧ τ c = v) ↔ (c < i ∧ τ c = v) := by omega
          simp only [this]
      · have a := ag i hi ti
        rw [if_pos rfl, inb_nI hi (by decide), gd_true, cl (show i < 2 ^ 31 by omega), g2 38 i (by decide), a.1, ixX, inb_nI (show 100 * i + τ i < 1200 by omega) (by decide), gd_true, gd_true, nx_eq, bs, cl (show 100 * i + τ i < 2 ^ 31 by omega)]
        refine ⟨p1 st 41 (100 * i + τ i) (st.1 41 (100 * i + τ i) + 1), ⟨fun c hc tc v hv => ?_, fun k q hk => by rw [p1_ne hk]; exact g2 k q hk⟩, rfl⟩
        by_cases e : 100 * c + v = 100 * i + τ i
        · have e1 : c = i := by omega
          subst e1
          have e2 : v = τ c := by omega
          subst e2
          rw [p1_eq, g1 c hc tc _ hv, if_neg (by omega), if_pos (by omega)]
          simp
        · rw [p1_ni e, g1 c hc tc v hv]
          have : (c < i + 1 ∧ τ c = v) ↔ (c < i ∧ τ c = v) := by
            constructor
            · rintro ⟨q1, q2⟩
              refine ⟨?_, q2⟩
              rcases Nat.lt_or_ge c i with q | q
              · exact q
              · have : c = i := by omega
                subst this; omega
            · rintro ⟨q1, q2⟩
              exact ⟨by omega, q2⟩
          simp only [this])
    N 0 S (by omega) (by omega) ⟨fun c hc tc v hv => by rw [if_neg (by omega)]; simp, fun _ _ _ => rfl⟩
  refine ⟨t, ?_, fun c hc tc v hv => ?_, h2⟩
  · unfold fX37_tallyFilling
    have e2 : fX37_tallyFilling_L2 N N S 0 = some t := e1
    rw [e2]; rfl
  · rw [h1 c hc tc v hv]
    have : (c < 12 ∧ τ c = v) ↔ τ c = v := ⟨fun q => q.2, fun q => ⟨hc, q⟩⟩
    simp only [this]
theorem X_weigh {N : Nat} (hN : 61 < N) (bx : BX S B) (ag : ∀ d, d < 12 → thr B d = true → S.1 38 d = nI (τ d) ∧ τ d < 100) : ∃ S', fX37_weighFilling N S = some S' ∧ (∀ k q, ¬ (k = 37 ∧ q = 13) → k ≠ 39 → S'.1 k q = S.1 k q) ∧ ∀ (f : Nat → Nat) (b : Int), (∀ k, k < 10 → S.1 40 k = nI (f k) ∧ f k < 100) → S.1 37 13 = iI b → -1 ≤ b → b ≤ 1200 → (b < wgt B f τ → S'.1 37 13 = iI (wgt B f τ) ∧ ∀ c, c < 12 → S'.1 39 c = S.1 38 c) ∧ (¬ b < wgt B f τ → S'.1 37 13 = iI b ∧ ∀ c, S'.1 39 c = S.1 39 c) := by
  have e := sum_0 (fun q x y => fX37_weighFilling_L4 N S q x y) 12 (fun c => if thr B c = true then (S.1 40 (τ c % 10)).toInt else 0) (fun n x => by
    show fX37_weighFilling_L4 N S (n + 1) x (nI 12) = _
    rw [fX37_weighFilling_L4, if_pos (by decide)]) (fun n x i hi => by
    show fX37_weighFilling_L4 N S (n + 1) x (nI i) = fX37_weighFilling_L4 N S n _ (nI (i + 1))
    rw [fX37_weighFilling_L4, if_neg (show ¬ (12 : Int32) ≤ nI i from nI_ge hi (by decide)), X_there bx hi, bs, if_bI0, nI_1]
    cases ti : thr B i
    · rw [if_neg (by decide), bs, if_neg (by decide)]; rfl
    · have a := ag i hi ti
      rw [if_pos rfl, inb_nI hi (by decide), gd_true, cl (show i < 2 ^ 31 by omega), a.1, r10 (by omega), inb_nI (show τ i % 10 < 10 by omega) (by decide), gd_true, cl (show τ i % 10 < 2 ^ 31 by omega), bs, if_pos rfl, iI_of]) (show 12 < N by omega) 0
  have e2 : fX37_weighFilling_L4 N S N 0 0 = some (iI (0 + fb_si (fun c => if thr B c = true then (S.1 40 (τ c % 10)).toInt else 0) 12)) := e
  rw [Int.zero_add] at e2
  unfold fX37_weighFilling
  rw [e2, bs]
  have key : ∀ f : Nat → Nat, (∀ k, k < 10 → S.1 40 k = nI (f k) ∧ f k < 100) → fb_si (fun c => if thr B c = true then (S.1 40 (τ c % 10)).toInt else 0) 12 = wgt B f τ := fun f hf => fb_si_cong (fun c hc => by
    show (if thr B c = true then (S.1 40 (τ c % 10)).toInt else 0) = if thr B c = true then (f (τ c % 10) : Int) else 0
    have := hf (τ c % 10) (by omega)
    rw [this.1, nI_toInt (by omega)])
  have le : ∀ (f : Nat → Nat) (b : Int), (∀ k, k < 10 → S.1 40 k = nI (f k) ∧ f k < 100) → S.1 37 13 = iI b → -1 ≤ b → b ≤ 1200 → ((iI (fb_si (fun c => if thr B c = true then (S.1 40 (τ c % 10)).toInt else 0) 12) ≤ S.1 37 13) ↔ ¬ b < wgt B f τ) := fun f b hf hb b1 b2 => by
    have wb := wgt_b (B := B) (τ := τ) (f := f) (fun k hk => (hf k hk).2)
    rw [key f hf, hb, iI_le (by omega) (by omega) (by omega) (by omega)]
    omega
  by_cases z : iI (fb_si (fun c => if thr B c = true then (S.1 40 (τ c % 10)).toInt else 0) 12) ≤ S.1 37 13
  · rw [if_pos z, bs]
    refine ⟨S, rfl, fun _ _ _ _ => rfl, fun f b hf hb b1 b2 => ⟨fun q => absurd q ((le f b hf hb b1 b2).mp z), fun _ => ⟨hb, fun _ => rfl⟩⟩⟩
  · rw [if_neg z, nx_eq, show cpb 0 0 12 12 12 = true from by decide, gd_true, nx_eq, bs]
    have pk : ∀ k q, k ≠ 39 → (pcp (p1 S 37 13 (iI (fb_si (fun c => if thr B c = true then (S.1 40 (τ c % 10)).toInt else 0) 12))) 38 39 (Int32.toNatClampNeg 0) (Int32.toNatClampNeg 0) (Int32.toNatClampNeg 12)).1 k q = (p1 S 37 13 (iI (fb_si (fun c => if thr B c = true then (S.1 40 (τ c % 10)).toInt else 0) 12))).1 k q := fun k q hk => by
      unfold pcp
      simp only [if_neg hk]
    refine ⟨_, rfl, fun k q h1 h2 => ?_, fun f b hf hb b1 b2 => ⟨fun q => ⟨?_, fun c hc => ?_⟩, fun q => absurd ((le f b hf hb b1 b2).mpr q) z⟩⟩
    · rw [pk k q h2, p1_at, if_neg h1]
    · rw [pk 37 13 (by decide), p1_eq, key f hf]
    · have e3 : (pcp (p1 S 37 13 (iI (fb_si (fun c => if thr B c = true then (S.1 40 (τ c % 10)).toInt else 0) 12))) 38 39 (Int32.toNatClampNeg 0) (Int32.toNatClampNeg 0) (Int32.toNatClampNeg 12)).1 39 = va_cpy ((p1 S 37 13 (iI (fb_si (fun c => if thr B c = true then (S.1 40 (τ c % 10)).toInt else 0) 12))).1 38) ((p1 S 37 13 (iI (fb_si (fun c => if thr B c = true then (S.1 40 (τ c % 10)).toInt else 0) 12))).1 39) (Int32.toNatClampNeg 0) (Int32.toNatClampNeg 0) (Int32.toNatClampNeg 12) := by
        unfold pcp
        simp only [if_true]
      rw [e3, show Int32.toNatClampNeg 0 = 0 from rfl, show Int32.toNatClampNeg 12 = 12 from rfl, pk_cpy_in (by omega) (by omega), p1_ne (by decide), show 0 + (c - 0) = c by omega]
theorem X_take {N : Nat} (hN : 61 < N) (hw : ∀ i, w = some i → i < 2 ^ 31) (x : XW S B lo hi out lim w W a) (en : (a.2.2.1 || a.2.2.2) = false) (hl : a.2.1.length < 2 ^ 30) (ag : ∀ d, d < 12 → thr B d = true → S.1 38 d = nI (τ d) ∧ τ d < 100) : ∃ S', fX37_takeFilling N S = some S' ∧ XW S' B lo hi out lim w W (stp lim w a (some τ)) ∧ ∀ d, S'.1 38 d = S.1 38 d := by
  obtain ⟨x1, x2, x3, x4, x5, x6, x7, x8, x9, x10, x11, x12, x13, x14⟩ := x
  have es : stp lim w a (some τ) = (a.1, τ :: a.2.1, a.2.2.1, decide (w = some a.2.1.length)) := by
    unfold stp
    rw [if_neg (by rw [en]; decide)]
  -- behind tally and weights
  obtain ⟨T, eT, t1, t2, t3⟩ : ∃ T, (if S.1 37 9 = -1 then Option.bind (fX37_tallyFilling N S) fun t5 => Option.bind (fX37_weighFilling N t5) fun t7 => some t7 else some S) = some T ∧ (∀ k q, ¬ (k = 37 ∧ q = 13) → k ≠ 39 → k ≠ 41 → T.1 k q = S.1 k q) ∧ (w = none → ∀ c, c < 12 → thr B c = true → ∀ v, v < 100 → T.1 41 (100 * c + v) = nI (cnF (τ :: a.2.1) c v)) ∧ (w = none → ∀ f, W = some f → T.1 37 13 = iI (bw B f (τ :: a.2.1)) ∧ ∀ c, c < 12 → thr B c = true → T.1 39 c = nI (lk B f (τ :: a.2.1) c)) := by
    cases w with
    | some i =>
      have hi := hw i rfl
      rw [x6, if_neg (show ¬ wI (some i) = -1 from nI_m1 hi)]
      exact ⟨S, rfl, fun _ _ _ _ _ => rfl, fun q => absurd q (by simp), fun q => absurd q (by simp)⟩
    | none =>
      rw [x6, if_pos (show wI none = -1 from rfl)]
      obtain ⟨T1, u1, u2, u3⟩ := X_tally hN x1 ag
      have bx1 : BX T1 B := BX_c x1 (funext fun q => u3 26 q (by decide)) (funext fun q => u3 27 q (by decide)) (funext fun q => u3 28 q (by decide)) (u3 _ _ (by decide)) (u3 _ _ (by decide)) (funext fun q => u3 23 q (by decide)) (funext fun q => u3 24 q (by decide)) (u3 _ _ (by decide)) (funext fun q => u3 30 q (by decide)) (funext fun q => u3 31 q (by decide)) (funext fun q => u3 32 q (by decide))
      obtain ⟨T2, v1, v2, v3⟩ := X_weigh (S := T1) (τ := τ) hN bx1 (fun d hd td => by rw [u3 38 d (by decide)]; exact ag d hd td)
      rw [u1, bs, v1, bs]
      refine ⟨T2, rfl, fun k q h1 h2 h3 => by rw [v2 k q h1 h2, u3 k q h3], fun _ c hc tc v hv => ?_, fun _ f hf => ?_⟩
      · rw [v2 41 _ (by omega) (by decide), u2 c hc tc v hv, x13 rfl c hc tc v hv, cnF]
        split
        · rw [nI_1]
        · rw [show nI (cnF a.2.1 c v) + 0 = nI (cnF a.2.1 c v + 0) from nI_add _ 0]
      · obtain ⟨y1, y2, y3⟩ := x14 rfl f hf
        have bb := bw_b (B := B) (f := f) (fun k hk => (y1 k hk).2) a.2.1
        have z := v3 f (bw B f a.2.1) (fun k hk => by rw [u3 40 k (by decide)]; exact y1 k hk) (by rw [u3 37 13 (by decide)]; exact y2) bb.1 bb.2
        by_cases q : bw B f a.2.1 < wgt B f τ
        · rw [bw, lk, if_pos q, if_pos q]
          refine ⟨(z.1 q).1, fun c hc tc => ?_⟩
          rw [(z.1 q).2 c hc, u3 38 c (by decide)]
          exact (ag c hc tc).1
        · rw [bw, lk, if_neg q, if_neg q]
          refine ⟨(z.2 q).1, fun c hc tc => ?_⟩
          rw [(z.2 q).2 c, u3 39 c (by decide)]
          refine y3 (fun e => ?_) c hc tc
          rw [e] at q
          have := wgt_b (B := B) (τ := τ) (f := f) (fun k hk => (y1 k hk).2)
          have e5 : bw B f [] = -1 := rfl
          omega
  have ec : (nI a.2.1.length = wI w) ↔ w = some a.2.1.length := by
    cases w with
    | none =>
      exact ⟨fun q => absurd q (nI_m1 (by omega)), fun q => absurd q (by simp)⟩
    | some i =>
      have hi := hw i rfl
      show nI a.2.1.length = nI i ↔ _
      rw [nI_eq (by omega) hi]
      constructor
      · intro q; rw [q]
      · intro q; injection q with q; exact q.symm
  refine ⟨p1 (p1 T 37 15 (bI (decide (w = some a.2.1.length)))) 37 12 (nI (a.2.1.length + 1)), ?_, ?_, fun d => ?_⟩
  · unfold fX37_takeFilling
    rw [eT, bs, t1 37 12 (by omega) (by decide) (by decide), t1 37 9 (by omega) (by decide) (by decide), x9, x6]
    by_cases q : w = some a.2.1.length
    · rw [if_pos (ec.mpr q), bs, isb1, gd_true, nx_eq, nx_eq, p1_ni (by decide), t1 37 12 (by omega) (by decide) (by decide), x9, decide_eq_true q, nI_1]; rfl
    · rw [if_neg (fun z => q (ec.mp z)), bs, isb0, gd_true, nx_eq, nx_eq, p1_ni (by decide), t1 37 12 (by omega) (by decide) (by decide), x9, decide_eq_false q, nI_1]; rfl
  · have o : ∀ k q, ¬ (k = 37 ∧ (q = 13 ∨ q = 15 ∨ q = 12)) → k ≠ 39 → k ≠ 41 → (p1 (p1 T 37 15 (bI (decide (w = some a.2.1.length)))) 37 12 (nI (a.2.1.length + 1))).1 k q = S.1 k q := fun k q h1 h2 h3 => by
      rw [p1_at, if_neg (by omega), p1_at, if_neg (by omega)]
      exact t1 k q (by omega) h2 h3
    rw [es]
    refine ⟨BX_c x1 (funext fun q => o 26 q (by omega) (by decide) (by decide)) (funext fun q => o 27 q (by omega) (by decide) (by decide)) (funext fun q => o 28 q (by omega) (by decide) (by decide)) (o _ _ (by omega) (by decide) (by decide)) (o _ _ (by omega) (by decide) (by decide)) (funext fun q => o 23 q (by omega) (by decide) (by decide)) (funext fun q => o 24 q (by omega) (by decide) (by decide)) (o _ _ (by omega) (by decide) (by decide)) (funext fun q => o 30 q (by omega) (by decide) (by decide)) (funext fun q => o 31 q (by omega) (by decide) (by decide)) (funext fun q => o 32 q (by omega) (by decide) (by decide)), fun c hc tc v hv => ?_, fun c hc tc => ?_, fun c hc => ?_, fun c hc => ?_, ?_, ?_, ?_, ?_, ?_, ?_, fun q => ?_, fun q c hc tc v hv => ?_, fun q f hf => ?_⟩
    · rw [o 34 _ (by omega) (by decide) (by decide)]; exact x2 c hc tc v hv
    · rw [o 35 _ (by omega) (by decide) (by decide), o 36 _ (by omega) (by decide) (by decide)]; exact x3 c hc tc
    · rw [o 42 _ (by omega) (by decide) (by decide)]; exact x4 c hc
    · rw [o 43 _ (by omega) (by decide) (by decide)]; exact x5 c hc
    · rw [o 37 9 (by omega) (by decide) (by decide)]; exact x6
    · rw [o 37 10 (by omega) (by decide) (by decide)]; exact x7
    · rw [o 37 11 (by omega) (by decide) (by decide)]; exact x8
    · rw [p1_eq]; rfl
    · rw [o 37 14 (by omega) (by decide) (by decide)]; exact x10
    · rw [p1_ni (by decide), p1_eq]
    · refine ⟨τ, a.2.1, rfl, fun d hd td => ?_⟩
      rw [o 38 d (by omega) (by decide) (by decide)]; exact (ag d hd td).1
    · rw [p1_ne (by decide), p1_ne (by decide)]; exact t2 q c hc tc v hv
    · obtain ⟨y1, y2, y3⟩ := x14 q f hf
      obtain ⟨z1, z2⟩ := t3 q f hf
      refine ⟨fun k hk => ?_, ?_, fun _ c hc tc => ?_⟩
      · rw [o 40 k (by omega) (by decide) (by decide)]; exact y1 k hk
      · rw [p1_ni (by decide), p1_ni (by decide)]; exact z1
      · rw [p1_ne (by decide), p1_ne (by decide)]; exact z2 c hc tc
  · rw [p1_ne (by decide), p1_ne (by decide), t1 38 d (by omega) (by decide) (by decide)]
end OL
