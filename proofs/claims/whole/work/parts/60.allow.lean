/-! what a cell allows at first; what it tells; mark -/
def bI (b : Bool) : Int32 := if b = true then 1 else 0
theorem bI_t : bI true = 1 := rfl
theorem bI_f : bI false = 0 := rfl
theorem bI_isb (b : Bool) : isb (bI b) = true := by cases b <;> rfl
theorem bI_0 {b : Bool} : bI b = 0 ↔ b = false := by cases b <;> decide
theorem bI_1 {b : Bool} : bI b = 1 ↔ b = true := by cases b <;> decide
theorem bI_n {b : Bool} : bI b = nI (if b = true then 1 else 0) := by cases b <;> rfl
theorem ob_if {α β : Type} {P : Prop} [Decidable P] (a b : Option α) (f : α → Option β) : Option.bind (if P then a else b) f = if P then Option.bind a f else Option.bind b f := by split <;> rfl
theorem ob_bI {P : Prop} [Decidable P] : (if P then some (0 : Int32) else some 1) = some (bI (!decide P)) := by by_cases h : P <;> simp [h, bI]
theorem ob_bI' {P : Prop} [Decidable P] : (if P then some (1 : Int32) else some 0) = some (bI (decide P)) := by by_cases h : P <;> simp [h, bI]
theorem if_bI0 {α : Type} {b : Bool} {x y : α} : (if bI b = 0 then x else y) = if b = true then y else x := by cases b <;> rfl
def fitc (s f : Nat) : Bool := if s = 120 then (decide (f = 3) || decide (f = 8)) else (decide (s = 63) || decide (s = f + 48))
def thr (B : Bk) (c : Nat) : Bool := decide (kd B c ≠ 6)
def alw (B : Bk) (c v : Nat) : Bool :=
  if kd B c = 0 then decide (ka B c ≤ v ∧ v ≤ kb B c)
  else if kd B c = 1 then fitc (ka B c) (v / 10) && fitc (kb B c) (v % 10)
  else if kd B c = 2 then thr B (ka B c) && thr B (kb B c)
  else if kd B c = 3 then decide (0 < hocc B v)
  else if kd B c = 4 then thr B (ka B c)
  else if kd B c = 5 then decide (v = 0) || decide (ka B c ≤ v ∧ v ≤ kb B c)
  else false
def fitsF (x0 x1 : Int32) : Option (Int32) :=
  if x0 = 120 then
    Option.bind (α := Int32) (if x1 = 3 then some 1 else if x1 = 8 then some 1 else some 0) fun t9 => gd (isb t9) <| some t9
  else
    Option.bind (α := Int32) (if x0 = 63 then some 1 else if (x0 - 48) = x1 then some 1 else some 0) fun t3 => gd (isb t3) <| some t3
theorem fitsF_all : ∀ s, s < 121 → ∀ f, f < 10 → fitsF (nI s) (nI f) = some (bI (fitc s f)) := by decide +kernel
theorem Xfits (S : St) {s f : Nat} (hs : s < 121) (hf : f < 10) : fXs_fits S (nI s) (nI f) = some (bI (fitc s f)) := fitsF_all s hs f hf
def isByF (x0 x1 : Int32) : Option (Int32) :=
  Option.bind (α := Int32) (if x0 = 63 then some 1 else if x0 = (x1 + 48) then some 1 else if x0 = 120 then (if x1 = 3 then some 1 else if x1 = 8 then some 1 else some 0) else some 0) fun t2 => gd (isb t2) <| some t2
theorem isByF_all : ∀ s, s < 121 → ∀ f, f < 10 → isByF (nI s) (nI f) = some (bI (fitc s f)) := by decide +kernel
theorem YisBy (S : St) {s f : Nat} (hs : s < 121) (hf : f < 10) : fYs_isBy S (nI s) (nI f) = some (bI (fitc s f)) := isByF_all s hs f hf
theorem sgn_lt {s : Nat} (h : sgn s) : s < 121 := by unfold sgn at h; omega
theorem m10 {v : Nat} (hv : v < 2 ^ 31) : nI v / 10 = nI (v / 10) := pk_div (d := 10) hv (by decide) (by decide)
theorem r10 {v : Nat} (hv : v < 2 ^ 31) : nI v - nI v / 10 * 10 = nI (v % 10) := pk_rem (d := 10) hv (by decide) (by decide)
theorem hocc_le (B : Bk) (v : Nat) : hocc B v ≤ hn B := fb_ct_le _ _
section O7
variable {S S' Y Y' : St} {B : Bk}
theorem thr_t {c : Nat} : thr B c = true ↔ kd B c ≠ 6 := by unfold thr; simp
theorem X_there (bx : BX S B) {c : Nat} (hc : c < 12) : fX25_isThere S (nI c) = some (bI (thr B c)) := by
  rw [X25_isThere bx hc]
  unfold thr bI
  by_cases h : kd B c = 6 <;> simp [h]
theorem Y_there (bY : BY Y B) {c : Nat} (hc : c < 12) : fY0_isThere Y (nI c) = some (bI (thr B c)) := by
  rw [Y_isThere bY hc]
  unfold thr bI
  by_cases h : kd B c = 6 <;> simp [h]
theorem ok_k {c : Nat} (ok : okB B) (hc : c < 12) : kd B c ≤ 6 := by
  rcases ok.1 c hc with h | h | h | h | h | h <;> omega
theorem ok_0 {c : Nat} (ok : okB B) (hc : c < 12) (h : kd B c = 0 ∨ kd B c = 5) : ka B c ≤ kb B c ∧ kb B c < 100 := by
  rcases ok.1 c hc with h1 | h1 | h1 | h1 | h1 | h1 <;> omega
theorem ok_1 {c : Nat} (ok : okB B) (hc : c < 12) (h : kd B c = 1) : sgn (ka B c) ∧ sgn (kb B c) := by
  rcases ok.1 c hc with h1 | h1 | h1 | h1 | h1 | h1
  · omega
  · omega
  · exact h1.2
  all_goals omega
theorem ok_2 {c : Nat} (ok : okB B) (hc : c < 12) (h : kd B c = 2) : ka B c < 12 ∧ kb B c < 12 ∧ ka B c ≠ c ∧ kb B c ≠ c := by
  rcases ok.1 c hc with h1 | h1 | h1 | h1 | h1 | h1 <;> omega
theorem ok_4 {c : Nat} (ok : okB B) (hc : c < 12) (h : kd B c = 4) : ka B c < 12 ∧ ka B c ≠ c := by
  rcases ok.1 c hc with h1 | h1 | h1 | h1 | h1 | h1 <;> omega
theorem X_a (bx : BX S B) {c : Nat} (hc : c < 12) (h : kd B c < 6) (h3 : kd B c ≠ 3) : S.1 27 c = nI (ka B c) := by
  rcases bx.1 c hc with q | q
  · omega
  · exact q.2.2.1 h3
theorem X_b (bx : BX S B) {c : Nat} (hc : c < 12) (h : kd B c < 6) (h3 : kd B c ≠ 3) (h4 : kd B c ≠ 4) : S.1 28 c = nI (kb B c) := by
  rcases bx.1 c hc with q | q
  · omega
  · exact q.2.2.2 h3 h4
theorem X_k (bx : BX S B) {c : Nat} (hc : c < 12) (h : kd B c < 6) : S.1 26 c = nI (kd B c) := by
  rcases bx.1 c hc with q | q
  · omega
  · exact q.2.1
theorem Y_a (bY : BY Y B) {c : Nat} (hc : c < 12) (h : kd B c < 6) (h3 : kd B c ≠ 3) (h1 : kd B c ≠ 1) : Y.1 11 c = nI (ka B c) := by
  rcases bY.1 c hc with q | q
  · omega
  · rcases q.2.2.1 h3 with q | q
    · exact q
    · omega
theorem Y_b (bY : BY Y B) {c : Nat} (hc : c < 12) (h : kd B c < 6) (h3 : kd B c ≠ 3) (h4 : kd B c ≠ 4) : Y.1 12 c = nI (kb B c) := by
  rcases bY.1 c hc with q | q
  · omega
  · exact q.2.2.2 h3 h4
theorem Y_heapc {N : Nat} (hN : 12 < N) (ok : okB B) (bY : BY Y B) {v : Nat} (hw : v < 2 ^ 31) : fY0_inHeap N Y (nI v) = some (nI (hocc B v)) := by
  unfold fY0_inHeap
  have h12 := ok.2.1
  have e := count_0 (fun q x y => fY0_inHeap_L4 N Y (nI v) q x y) (hn B) (fun i => decide (hv B i = v)) (fun n x => by
    show fY0_inHeap_L4 N Y (nI v) (n + 1) x (nI (hn B)) = _
    rw [fY0_inHeap_L4, bY.2.1, if_pos (ge_n (by omega))]) (fun n x i hi => by
    show fY0_inHeap_L4 N Y (nI v) (n + 1) x (nI i) = fY0_inHeap_L4 N Y (nI v) n _ (nI (i + 1))
    have h100 := ok.2.2.1 i hi
    rw [fY0_inHeap_L4, bY.2.1, if_neg (nI_ge hi (by omega)), inb_nI (show i < 12 by omega) (by decide), gd_true, cl (show i < 2 ^ 31 by omega), bY.2.2.1 i hi, nI_1]
    by_cases h : hv B i = v
    · rw [if_pos (by rw [h]), bs, if_pos (by simp [h])]
    · rw [if_neg (by rw [nI_eq (by omega) hw]; exact h), bs, if_neg (by simp [h])]) (show hn B < N by omega) 0
  have e2 : fY0_inHeap_L4 N Y (nI v) N 0 0 = some (nI (0 + hocc B v)) := e
  rw [e2, bs, Nat.zero_add]
theorem lt_ofc {c k : Nat} (ok : okB B) (hc : c < 12) (h : kd B c = k) (hk : k < 6) : kd B c < 6 := by omega
theorem rng2 {a b v : Nat} (ha : a < 100) (hb : b < 100) (hv : v < 100) : (if nI v < nI a then some (0 : Int32) else if nI b < nI v then some 0 else some 1) = some (bI (decide (a ≤ v ∧ v ≤ b))) := by
  by_cases h1 : v < a
  · rw [if_pos (nI_lt h1 (by omega)), decide_eq_false (by omega)]; rfl
  · rw [if_neg (nI_nlt (by omega) (by omega))]
    by_cases h2 : b < v
    · rw [if_pos (nI_lt h2 (by omega)), decide_eq_false (by omega)]; rfl
    · rw [if_neg (nI_nlt (by omega) (by omega)), decide_eq_true (by omega)]; rfl
theorem X_allows (ok : okB B) (bx : BX S B) {c v : Nat} (hc : c < 12) (hv : v < 100) : fX25_allows S (nI c) (nI v) = some (bI (alw B c v)) := by
  have ib := inb_nI hc (show 12 < 2 ^ 31 by decide)
  have ec : Int32.toNatClampNeg (nI c) = c := cl (by omega)
  have hk := ok_k ok hc
  unfold fX25_allows
  simp only [ib, gd_true, ec]
  rcases (show kd B c = 0 ∨ kd B c = 1 ∨ kd B c = 2 ∨ kd B c = 3 ∨ kd B c = 4 ∨ kd B c = 5 ∨ kd B c = 6 by omega) with h | h | h | h | h | h | h
  · have h0 := ok_0 ok hc (Or.inl h)
    rw [X_k bx hc (by omega), X_a bx hc (by omega) (by omega), X_b bx hc (by omega) (by omega) (by omega), h, if_pos (by decide), rng2 (by omega) h0.2 hv, bs, bI_isb, gd_true]
    simp only [alw, h, if_true]
  · have h0 := ok_1 ok hc h
    rw [X_k bx hc (by omega), X_a bx hc (by omega) (by omega), X_b bx hc (by omega) (by omega) (by omega), h, if_neg (by decide), if_pos (by decide), r10 (show v < 2 ^ 31 by omega), m10 (show v < 2 ^ 31 by omega), Xfits S (sgn_lt h0.1) (by omega), bs, Xfits S (sgn_lt h0.2) (by omega), bs]
    simp only [alw, h]
    cases fitc (ka B c) (v / 10) <;> cases fitc (kb B c) (v % 10) <;> rfl
  · have h0 := ok_2 ok hc h
    rw [X_k bx hc (by omega), X_a bx hc (by omega) (by omega), X_b bx hc (by omega) (by omega) (by omega), h, if_neg (by decide), if_neg (by decide), if_pos (by decide), X_there bx h0.1, bs, X_there bx h0.2.1, bs]
    simp only [alw, h]
    cases thr B (ka B c) <;> cases thr B (kb B c) <;> rfl
  · rw [X_k bx hc (by omega), h, if_neg (by decide), if_neg (by decide), if_neg (by decide), if_pos (by decide), fX22_howOften, inb_nI hv (by decide), gd_true, cl (by omega), bs, bx.2.2.2.2.1 v hv]
    have h9 := hocc_le B v
    have h8 := ok.2.1
    simp only [alw, h]
    by_cases h0 : hocc B v = 0
    · rw [h0]; rfl
    · rw [if_neg (nI_nle (by omega) (by omega)), bs, isb1, gd_true]
      simp only [show 0 < hocc B v by omega, decide_true]; rfl
  · have h0 := ok_4 ok hc h
    rw [X_k bx hc (by omega), X_a bx hc (by omega) (by omega), h, if_neg (by decide), if_neg (by decide), if_neg (by decide), if_neg (by decide), if_pos (by decide), X_there bx h0.1, bs, bI_isb, gd_true]
    simp only [alw, h]; rfl
  · have h0 := ok_0 ok hc (Or.inr h)
    rw [X_k bx hc (by omega), X_a bx hc (by omega) (by omega), X_b bx hc (by omega) (by omega) (by omega), h, if_neg (by decide), if_neg (by decide), if_neg (by decide), if_neg (by decide), if_neg (by decide), if_pos (by decide), rng2 (by omega) h0.2 hv]
    simp only [alw, h]
    by_cases hz : v = 0
    · rw [if_pos (show nI v = 0 by rw [hz]; rfl), bs, isb1, gd_true]
      simp only [hz, decide_true, Bool.true_or]; rfl
    · rw [if_neg (nI_ne0 (by omega) (by omega)), bs, bI_isb, gd_true]
      simp only [hz, decide_false, Bool.false_or]; rfl
  · rcases bx.1 c hc with q | q
    · rw [q.2]
      simp only [alw, h]; rfl
    · omega
theorem fitc48 : ∀ v, v < 100 → fitc 48 (v / 10) = decide (v < 10) := by decide
theorem Y_first {N : Nat} (hN : 12 < N) (ok : okB B) (bY : BY Y B) {c v : Nat} (hc : c < 12) (hk6 : kd B c < 6) (hv : v < 100) : fY0_isFirst N Y (nI c) (nI v) = some (bI (alw B c v)) := by
  have ib := inb_nI hc (show 12 < 2 ^ 31 by decide)
  have ec : Int32.toNatClampNeg (nI c) = c := cl (by omega)
  have hk := ok_k ok hc
  unfold fY0_isFirst
  simp only [ib, gd_true, ec, Yin]
  rcases (show kd B c = 0 ∨ kd B c = 1 ∨ kd B c = 2 ∨ kd B c = 3 ∨ kd B c = 4 ∨ kd B c = 5 by omega) with h | h | h | h | h | h
  · have h0 := ok_0 ok hc (Or.inl h)
    rw [Y_kind bY hc (by omega), Y_a bY hc (by omega) (by omega) (by omega), Y_b bY hc (by omega) (by omega) (by omega), h, if_pos (by decide), bs]
    simp only [alw, h, if_true, nI_leI (show ka B c < 2 ^ 31 by omega) (show v < 2 ^ 31 by omega), nI_leI (show v < 2 ^ 31 by omega) (show kb B c < 2 ^ 31 by omega)]
    by_cases q : ka B c ≤ v ∧ v ≤ kb B c <;> simp [q, bI, isb, gd]
  · have h0 := ok_1 ok hc h
    rw [Y_kind bY hc (by omega), Y_b bY hc (by omega) (by omega) (by omega), h, if_neg (by decide), if_pos (by decide), r10 (show v < 2 ^ 31 by omega), m10 (show v < 2 ^ 31 by omega), YisBy Y (sgn_lt h0.2) (by omega)]
    simp only [bs, alw, h]
    rcases bY.1 c hc with q | q
    · omega
    · rcases q.2.2.1 (by omega) with q | q
      · have hl := sgn_lt h0.1
        rw [q, if_pos (nI_pos' (by omega)), YisBy Y (sgn_lt h0.1) (by omega), bs]
        cases fitc (ka B c) (v / 10) <;> cases fitc (kb B c) (v % 10) <;> rfl
      · rw [q.2.2, if_neg (by decide), q.2.1, fitc48 v hv]
        by_cases h9 : v < 10
        · rw [if_neg (show ¬ (10 : Int32) ≤ nI v from nI_ge h9 (by decide))]
          simp only [h9, decide_true]
          cases fitc (kb B c) (v % 10) <;> rfl
        · rw [if_pos (show (10 : Int32) ≤ nI v from nI_le (a := 10) (by omega) (by omega))]
          simp only [h9, decide_false]; rfl
  · have h0 := ok_2 ok hc h
    rw [Y_kind bY hc (by omega), Y_a bY hc (by omega) (by omega) (by omega), Y_b bY hc (by omega) (by omega) (by omega), h, if_neg (by decide), if_neg (by decide), if_pos (by decide), Y_there bY h0.1, bs, Y_there bY h0.2.1, bs]
    simp only [alw, h]
    cases thr B (ka B c) <;> cases thr B (kb B c) <;> rfl
  · rw [Y_kind bY hc (by omega), h, if_neg (by decide), if_neg (by decide), if_neg (by decide), if_pos (by decide), Y_heapc hN ok bY (by omega), bs]
    have h9 := hocc_le B v
    have h8 := ok.2.1
    simp only [alw, h]
    by_cases h0 : hocc B v = 0
    · rw [h0]; rfl
    · rw [if_neg (nI_nle (by omega) (by omega)), bs, isb1, gd_true]
      simp only [show 0 < hocc B v by omega, decide_true]; rfl
  · have h0 := ok_4 ok hc h
    rw [Y_kind bY hc (by omega), Y_a bY hc (by omega) (by omega) (by omega), h, if_neg (by decide), if_neg (by decide), if_neg (by decide), if_neg (by decide), if_pos (by decide), Y_there bY h0.1, bs, bI_isb, gd_true]
    simp only [alw, h]; rfl
  · have h0 := ok_0 ok hc (Or.inr h)
    rw [Y_kind bY hc (by omega), Y_a bY hc (by omega) (by omega) (by omega), Y_b bY hc (by omega) (by omega) (by omega), h, if_neg (by decide), if_neg (by decide), if_neg (by decide), if_neg (by decide), if_neg (by decide), if_pos (by decide)]
    simp only [alw, h, nI_leI (show ka B c < 2 ^ 31 by omega) (show v < 2 ^ 31 by omega), nI_leI (show v < 2 ^ 31 by omega) (show kb B c < 2 ^ 31 by omega)]
    by_cases hz : v = 0
    · rw [if_pos (show nI v = 0 by rw [hz]; rfl), bs, isb1, gd_true]
      simp only [hz, decide_true, Bool.true_or]; rfl
    · rw [if_neg (nI_ne0 (by omega) (by omega))]
      by_cases q : ka B c ≤ v ∧ v ≤ kb B c <;> simp [q, hz, bI, isb, gd]
def fmny (B : Bk) (c : Nat) : Nat := fb_ct (fun v => alw B c v) 100
theorem Y_firstMany {N : Nat} (hN : 101 < N) (ok : okB B) (bY : BY Y B) {c : Nat} (hc : c < 12) (hk6 : kd B c < 6) : fY0_firstMany N Y (nI c) = some (nI (fmny B c)) := by
  unfold fY0_firstMany
  have e := count_0 (fun q x y => fY0_firstMany_L4 N Y (nI c) q x y) 100 (fun v => alw B c v) (fun n x => by
    show fY0_firstMany_L4 N Y (nI c) (n + 1) x (nI 100) = _
    rw [fY0_firstMany_L4, if_pos (by decide)]) (fun n x i hi => by
    show fY0_firstMany_L4 N Y (nI c) (n + 1) x (nI i) = fY0_firstMany_L4 N Y (nI c) n _ (nI (i + 1))
    rw [fY0_firstMany_L4, if_neg (show ¬ (100 : Int32) ≤ nI i from nI_ge hi (by decide)), Y_first (by omega) ok bY hc hk6 hi, bs, nI_1]
    cases alw B c i <;> rfl) (show 100 < N by omega) 0
  have e2 : fY0_firstMany_L4 N Y (nI c) N 0 0 = some (nI (0 + fmny B c)) := e
  rw [e2, bs, Nat.zero_add]
/-- what a sign's figures are many of -/
def figc (s : Nat) : Nat := if s = 63 then 10 else if s = 120 then 2 else 1
theorem Xfig (S : St) {s : Nat} (hs : s < 121) : fXs_figuresOf S (nI s) = some (nI (figc s)) := by
  unfold fXs_figuresOf figc
  rw [show (63 : Int32) = nI 63 from rfl, show (120 : Int32) = nI 120 from rfl]
  simp only [nI_eq (show s < 2 ^ 31 by omega) (show 63 < 2 ^ 31 by decide), nI_eq (show s < 2 ^ 31 by omega) (show 120 < 2 ^ 31 by decide)]
  by_cases h1 : s = 63
  · simp only [h1, if_true]; rfl
  · by_cases h2 : s = 120
    · simp only [h2]; rfl
    · simp only [h1, h2, if_false]; rfl
theorem fig_all : ∀ s, s < 121 → (47 < s ∧ s < 58 ∨ s = 63 ∨ s = 120) → fb_ct (fun f => fitc s f) 10 = figc s := by decide
theorem ct_prod (p q : Nat → Bool) : ∀ n, fb_ct (fun v => p (v / 10) && q (v % 10)) (10 * n) = fb_ct p n * fb_ct q 10
  | 0 => by simp [fb_ct]
  | n + 1 => by
    have e : 10 * (n + 1) = 10 * n + 10 := by omega
    rw [e]
    have e2 : fb_ct (fun v => p (v / 10) && q (v % 10)) (10 * n + 10) = fb_ct (fun v => p (v / 10) && q (v % 10)) (10 * n) + fb_ct (fun k => p n && q k) 10 := by
      rw [fb_ct_split]
      congr 1
      refine fb_ct_cong (fun k hk => ?_)
      rw [show (10 * n + k) / 10 = n by omega, show (10 * n + k) % 10 = k by omega]
    rw [e2, ct_prod p q n, fb_ct_succ p n]
    cases hp : p n
    · rw [show fb_ct (fun k => false && q k) 10 = 0 from ct_f 10]; rfl
    · rw [show fb_ct (fun k => true && q k) 10 = fb_ct q 10 from rfl, if_pos rfl, Nat.add_mul, Nat.one_mul]
theorem X_unlike {N : Nat} (hN : 101 < N) (ok : okB B) (bx : BX S B) : fX22_howManyUnlike N S = some (nI (fb_ct (fun v => decide (0 < hocc B v)) 100)) := by
  unfold fX22_howManyUnlike
  have e := count_0 (fun q x y => fX22_howManyUnlike_L4 N S q x y) 100 (fun v => decide (0 < hocc B v)) (fun n x => by
    show fX22_howManyUnlike_L4 N S (n + 1) x (nI 100) = _
    rw [fX22_howManyUnlike_L4, if_pos (by decide)]) (fun n x i hi => by
    show fX22_howManyUnlike_L4 N S (n + 1) x (nI i) = fX22_howManyUnlike_L4 N S n _ (nI (i + 1))
    have h9 := hocc_le B i
    have h8 := ok.2.1
    rw [fX22_howManyUnlike_L4, if_neg (show ¬ (100 : Int32) ≤ nI i from nI_ge hi (by decide)), inb_nI hi (by decide), gd_true, cl (by omega), bx.2.2.2.2.1 i hi, nI_1]
    by_cases h0 : hocc B i = 0
    · rw [h0, if_pos (by decide), bs, if_neg (by simp)]
    · rw [if_neg (nI_nle (by omega) (by omega)), bs, if_pos (by simp; omega)]) (show 100 < N by omega) 0
  have e2 : fX22_howManyUnlike_L4 N S N 0 0 = some (nI (0 + _)) := e
  rw [e2, bs, Nat.zero_add]
theorem sgn_c {s : Nat} (h : sgn s) : 47 < s ∧ s < 58 ∨ s = 63 ∨ s = 120 := by unfold sgn at h; omega
/-- what a cell tells of itself -/
def tel (B : Bk) (c : Nat) : Nat := if kd B c = 1 ∨ kd B c = 3 then fmny B c else if kd B c = 2 then 12 * ka B c + kb B c else if kd B c = 4 then ka B c else 100 * ka B c + kb B c
theorem X_tells {N : Nat} (hN : 101 < N) (ok : okB B) (bx : BX S B) {c : Nat} (hc : c < 12) (hk6 : kd B c < 6) : fX25_tells N S (nI c) = some (nI (tel B c)) := by
  have ib := inb_nI hc (show 12 < 2 ^ 31 by decide)
  have ec : Int32.toNatClampNeg (nI c) = c := cl (by omega)
  unfold fX25_tells
  simp only [ib, gd_true, ec]
  rw [X_k bx hc hk6]
  rcases (show kd B c = 0 ∨ kd B c = 1 ∨ kd B c = 2 ∨ kd B c = 3 ∨ kd B c = 4 ∨ kd B c = 5 by omega) with h | h | h | h | h | h
  · rw [X_a bx hc (by omega) (by omega), X_b bx hc (by omega) (by omega) (by omega), h, if_neg (by decide), if_neg (by decide), if_neg (by decide), if_neg (by decide)]
    simp only [tel, h]
    rw [show (100 : Int32) = nI 100 from rfl, pk_mul, nI_add]; rfl
  · have h0 := ok_1 ok hc h
    rw [X_a bx hc (by omega) (by omega), X_b bx hc (by omega) (by omega) (by omega), h, if_pos (by decide), Xfig S (sgn_lt h0.1), bs, Xfig S (sgn_lt h0.2), bs, pk_mul]
    simp only [tel, h, true_or, if_true, fmny, alw]
    have e := ct_prod (fun f => fitc (ka B c) f) (fun f => fitc (kb B c) f) 10
    rw [fig_all _ (sgn_lt h0.1) (sgn_c h0.1), fig_all _ (sgn_lt h0.2) (sgn_c h0.2)] at e
    rw [← e]; rfl
  · rw [X_a bx hc (by omega) (by omega), X_b bx hc (by omega) (by omega) (by omega), h, if_neg (by decide), if_pos (by decide)]
    simp only [tel, h]
    rw [show (12 : Int32) = nI 12 from rfl, pk_mul, nI_add]; rfl
  · rw [h, if_neg (by decide), if_neg (by decide), if_pos (by decide), X_unlike hN ok bx, bs]
    simp only [tel, h, or_true, if_true, fmny, alw]; rfl
  · rw [X_a bx hc (by omega) (by omega), h, if_neg (by decide), if_neg (by decide), if_neg (by decide), if_pos (by decide)]
    simp only [tel, h]; rfl
  · rw [X_a bx hc (by omega) (by omega), X_b bx hc (by omega) (by omega) (by omega), h, if_neg (by decide), if_neg (by decide), if_neg (by decide), if_neg (by decide)]
    simp only [tel, h]
    rw [show (100 : Int32) = nI 100 from rfl, pk_mul, nI_add]; rfl
theorem Y_tells {N : Nat} (hN : 101 < N) (ok : okB B) (bY : BY Y B) {c : Nat} (hc : c < 12) (hk6 : kd B c < 6) : fY0_tells N Y (nI c) = some (nI (tel B c)) := by
  have ib := inb_nI hc (show 12 < 2 ^ 31 by decide)
  have ec : Int32.toNatClampNeg (nI c) = c := cl (by omega)
  unfold fY0_tells
  simp only [ib, gd_true, ec]
  rw [Y_kind bY hc hk6]
  rcases (show kd B c = 0 ∨ kd B c = 1 ∨ kd B c = 2 ∨ kd B c = 3 ∨ kd B c = 4 ∨ kd B c = 5 by omega) with h | h | h | h | h | h
  · rw [Y_a bY hc (by omega) (by omega) (by omega), Y_b bY hc (by omega) (by omega) (by omega), h, if_neg (by decide), if_neg (by decide), if_neg (by decide), if_neg (by decide)]
    simp only [tel, h]
    rw [show (100 : Int32) = nI 100 from rfl, pk_mul, nI_add]; rfl
  · rw [h, if_pos (by decide), Y_firstMany hN ok bY hc hk6, bs]
    simp only [tel, h, true_or, if_true]
  · rw [Y_a bY hc (by omega) (by omega) (by omega), Y_b bY hc (by omega) (by omega) (by omega), h, if_neg (by decide), if_pos (by decide)]
    simp only [tel, h]
    rw [show (12 : Int32) = nI 12 from rfl, pk_mul, nI_add]; rfl
  · rw [h, if_neg (by decide), if_neg (by decide), if_pos (by decide), Y_firstMany hN ok bY hc hk6, bs]
    simp only [tel, h, or_true, if_true]
  · rw [Y_a bY hc (by omega) (by omega) (by omega), h, if_neg (by decide), if_neg (by decide), if_neg (by decide), if_pos (by decide)]
    simp only [tel, h]; rfl
  · rw [Y_a bY hc (by omega) (by omega) (by omega), Y_b bY hc (by omega) (by omega) (by omega), h, if_neg (by decide), if_neg (by decide), if_neg (by decide), if_neg (by decide)]
    simp only [tel, h]
    rw [show (100 : Int32) = nI 100 from rfl, pk_mul, nI_add]; rfl
theorem op7_mark {N : Nat} (hN : 101 < N) : op_mark N RR := by
  intro S Y a1 a2 h
  obtain ⟨B, ok, bx, bY⟩ := h.2.2.2
  unfold fX0_mark fY0_mark
  rw [Yin, bs]
  by_cases h1 : a2 ≤ 0
  · have e : (if 1 ≤ a2 ∧ a2 ≤ 5 then (1 : Int32) else 0) = 0 := if_neg (fun q => by
      have e1 := (fa_le _ _).mp h1
      have e2 := (fa_le _ _).mp q.1
      have e3 : (1 : Int32).toInt = 1 := by decide
      have e4 : (0 : Int32).toInt = 0 := by decide
      omega)
    rw [if_pos h1, e, if_pos rfl]
    exact ⟨-1, S, Y, rfl, rfl, h⟩
  rw [if_neg h1]
  by_cases h2 : a2 ≤ 5
  rotate_left
  · have e : (if 1 ≤ a2 ∧ a2 ≤ 5 then (1 : Int32) else 0) = 0 := if_neg (fun q => h2 q.2)
    rw [if_neg h2, e, if_pos rfl]
    exact ⟨-1, S, Y, rfl, rfl, h⟩
  have e : (if 1 ≤ a2 ∧ a2 ≤ 5 then (1 : Int32) else 0) = 1 := if_pos ⟨by
      have e1 := h1
      rw [fa_le] at e1 ⊢
      have e3 : (1 : Int32).toInt = 1 := by decide
      have e4 : (0 : Int32).toInt = 0 := by decide
      omega, h2⟩
  rw [if_pos h2, e, if_neg ne10]
  rcases refCell h ok bx bY a1 with ⟨v, S', Y', e1, e2, hv, hR'⟩ | ⟨c, hc, rfl, hk, e1, e2⟩
  · rw [e1, e2, bs, bs, if_neg (neg0 hv), if_neg (negle hv)]
    exact ⟨v, S', Y', rfl, rfl, hR'⟩
  rw [e1, e2, bs, bs, if_pos rfl, if_pos (show (0 : Int32) ≤ 0 by decide), X_kind bx hc hk, bs, inb_nI hc (by decide), gd_true, cl (by omega), Y_kind bY hc hk]
  by_cases h3 : nI (kd B c) = a2
  · rw [if_pos h3, if_pos h3, X_tells hN ok bx hc hk, Y_tells hN ok bY hc hk]
    exact ⟨_, S, Y, rfl, rfl, h⟩
  · rw [if_neg h3, if_neg h3]
    obtain ⟨S', Y', f1, f2, hR'⟩ := found_R h (f := 3) (by decide) (x := 3) rfl
    exact ⟨-3, S', Y', by rw [f1]; rfl, by rw [f2]; rfl, hR'⟩
end O7
