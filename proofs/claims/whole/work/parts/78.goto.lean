/-! the walk: the class' goTo -/
theorem fr_k {A : List Nat} {F L : List (Nat × Nat)} {S S' : St} (h : fr A F L S S') {k : Nat} (h1 : k ∉ A) (h2 : F.all (fun p => p.1 != k) = true) (i : Nat) : S'.1 k i = S.1 k i := h.1 k i h1 (fun hm => by
  have := List.all_eq_true.mp h2 _ hm
  simp at this)
abbrev sPK (B : Bk) (out : Nat) : Prop := ∀ s, s < sn B → out.testBit s = false → lsN B s 12 = 0 → tt B s = 0
def sOK (B : Bk) (out : Nat) : Bool := decide (sPK B out)
def evs (B : Bk) (L : Nat → Nat → Bool) (out : Nat) : List Ev := if sOK B out = true then evn B L (okD B out) (nth B) (fun _ => 0) else []
def a0 : Acc := (0, [], false, false)
def fin (B : Bk) (L : Nat → Nat → Bool) (out lim : Nat) (w : Option Nat) : Acc := run lim w a0 (evs B L out)
theorem fin_b (B : Bk) (L : Nat → Nat → Bool) (out lim : Nat) (w : Option Nat) : (fin B L out lim w).2.1.length ≤ (fin B L out lim w).1 + 1 ∧ (fin B L out lim w).1 ≤ lim := by
  unfold fin evs
  split
  · have := bal_evn (lim := lim) (w := w) (B := B) (L := L) (okf := okD B out) (nth B) (fun _ => 0) a0
    unfold bal at this
    have e : a0.1 = 0 := rfl
    have e2 : a0.2.1.length = 0 := rfl
    omega
  · exact ⟨show 0 ≤ 0 + 1 by omega, show 0 ≤ lim by omega⟩
def XF (S : St) (B : Bk) (w : Option Nat) (W : Option (Nat → Nat)) (a : Acc) : Prop := BX S B ∧ S.1 37 11 = nI a.1 ∧ S.1 37 12 = nI a.2.1.length ∧ S.1 37 14 = bI a.2.2.1 ∧ S.1 37 15 = bI a.2.2.2 ∧ (a.2.2.2 = true → ∃ τ fl, a.2.1 = τ :: fl ∧ ∀ d, d < 12 → thr B d = true → S.1 38 d = nI (τ d)) ∧ (w = none → ∀ c, c < 12 → thr B c = true → ∀ v, v < 100 → S.1 41 (100 * c + v) = nI (cnF a.2.1 c v)) ∧ (w = none → ∀ f, W = some f → (∀ k, k < 10 → S.1 40 k = nI (f k) ∧ f k < 100) ∧ S.1 37 13 = iI (bw B f a.2.1) ∧ (a.2.1 ≠ [] → ∀ c, c < 12 → thr B c = true → S.1 39 c = nI (lk B f a.2.1 c)))
section ON
variable {S S' Y Y' : St} {B : Bk} {out lim : Nat} {lo hi lo' hi' : Nat → Int} {L L' : Nat → Nat → Bool} {τ : Nat → Nat} {w : Option Nat} {W : Option (Nat → Nat)} {a : Acc}
theorem XW_XF (x : XW S B lo hi out lim w W a) : XF S B w W a := by
  obtain ⟨x1, x2, x3, x4, x5, x6, x7, x8, x9, x10, x11, x12, x13, x14⟩ := x
  exact ⟨x1, x8, x9, x10, x11, x12, x13, x14⟩
theorem X_goTo {N : Nat} (hN : 201 < N) (ok : okB B) (ho : out < 2 ^ 31) (hw : ∀ i, w = some i → i < 2 ^ 31) (hlim : lim < 2 ^ 30) (bx : BX S B) (fx : FNX S B) (ex : ENX S B lo hi) (hL : ∀ c, c < 12 → thr B c = true → ∀ v, v < 100 → L c v = lfE B lo hi c v) (nm : ∀ c v : Nat, c < 12 → v < 100 → L c v = true → nmd B) (h41 : w = none → ∀ i, i < 1200 → S.1 41 i = 0) (h40 : w = none → ∀ f, W = some f → ∀ k, k < 10 → S.1 40 k = nI (f k) ∧ f k < 100) : ∃ S', fX37_goTo N S (wI w) (nI lim) (nI out) = some S' ∧ XF S' B w W (fin B L out lim w) := by
  unfold fX37_goTo
  rw [nx_eq, nx_eq, nx_eq, nx_eq, nx_eq, nx_eq, nx_eq]
  have o : ∀ k q, ¬ (k = 37 ∧ 9 ≤ q ∧ q ≤ 15) → (p1 (p1 (p1 (p1 (p1 (p1 (p1 S 37 9 (wI w)) 37 10 (nI lim)) 37 11 0) 37 12 0) 37 13 (-1)) 37 14 0) 37 15 0).1 k q = S.1 k q := fun k q h => by
    rw [p1_at, if_neg (by omega), p1_at, if_neg (by omega), p1_at, if_neg (by omega), p1_at, if_neg (by omega), p1_at, if_neg (by omega), p1_at, if_neg (by omega), p1_at, if_neg (by omega)]
  have v9 : (p1 (p1 (p1 (p1 (p1 (p1 (p1 S 37 9 (wI w)) 37 10 (nI lim)) 37 11 0) 37 12 0) 37 13 (-1)) 37 14 0) 37 15 0).1 37 9 = wI w := by
    rw [p1_ni (by decide), p1_ni (by decide), p1_ni (by decide), p1_ni (by decide), p1_ni (by decide), p1_ni (by decide), p1_eq]
  have v10 : (p1 (p1 (p1 (p1 (p1 (p1 (p1 S 37 9 (wI w)) 37 10 (nI lim)) 37 11 0) 37 12 0) 37 13 (-1)) 37 14 0) 37 15 0).1 37 10 = nI lim := by
    rw [p1_ni (by decide), p1_ni (by decide), p1_ni (by decide), p1_ni (by decide), p1_ni (by decide), p1_eq]
  have v11 : (p1 (p1 (p1 (p1 (p1 (p1 (p1 S 37 9 (wI w)) 37 10 (nI lim)) 37 11 0) 37 12 0) 37 13 (-1)) 37 14 0) 37 15 0).1 37 11 = 0 := by
    rw [p1_ni (by decide), p1_ni (by decide), p1_ni (by decide), p1_ni (by decide), p1_eq]
  have v12 : (p1 (p1 (p1 (p1 (p1 (p1 (p1 S 37 9 (wI w)) 37 10 (nI lim)) 37 11 0) 37 12 0) 37 13 (-1)) 37 14 0) 37 15 0).1 37 12 = 0 := by
    rw [p1_ni (by decide), p1_ni (by decide), p1_ni (by decide), p1_eq]
  have v13 : (p1 (p1 (p1 (p1 (p1 (p1 (p1 S 37 9 (wI w)) 37 10 (nI lim)) 37 11 0) 37 12 0) 37 13 (-1)) 37 14 0) 37 15 0).1 37 13 = -1 := by
    rw [p1_ni (by decide), p1_ni (by decide), p1_eq]
  have v14 : (p1 (p1 (p1 (p1 (p1 (p1 (p1 S 37 9 (wI w)) 37 10 (nI lim)) 37 11 0) 37 12 0) 37 13 (-1)) 37 14 0) 37 15 0).1 37 14 = 0 := by
    rw [p1_ni (by decide), p1_eq]
  have v15 : (p1 (p1 (p1 (p1 (p1 (p1 (p1 S 37 9 (wI w)) 37 10 (nI lim)) 37 11 0) 37 12 0) 37 13 (-1)) 37 14 0) 37 15 0).1 37 15 = 0 := by
    rw [p1_eq]
  generalize p1 (p1 (p1 (p1 (p1 (p1 (p1 S 37 9 (wI w)) 37 10 (nI lim)) 37 11 0) 37 12 0) 37 13 (-1)) 37 14 0) 37 15 0 = T at o v9 v10 v11 v12 v13 v14 v15 ⊢
  have bT : BX T B := BX_c bx (funext fun q => o 26 q (by omega)) (funext fun q => o 27 q (by omega)) (funext fun q => o 28 q (by omega)) (o _ _ (by omega)) (o _ _ (by omega)) (funext fun q => o 23 q (by omega)) (funext fun q => o 24 q (by omega)) (o _ _ (by omega)) (funext fun q => o 30 q (by omega)) (funext fun q => o 31 q (by omega)) (funext fun q => o 32 q (by omega))
  obtain ⟨r, U, e, r1, r2, u1, _⟩ := X_checks (N := N) (out := out) (by omega) ok bT ho
  have bU : BX U B := BX_c bT (funext fun q => u1 26 q (by decide) (by decide)) (funext fun q => u1 27 q (by decide) (by decide)) (funext fun q => u1 28 q (by decide) (by decide)) (u1 _ _ (by decide) (by decide)) (u1 _ _ (by decide) (by decide)) (funext fun q => u1 23 q (by decide) (by decide)) (funext fun q => u1 24 q (by decide) (by decide)) (u1 _ _ (by decide) (by decide)) (funext fun q => u1 30 q (by decide) (by decide)) (funext fun q => u1 31 q (by decide) (by decide)) (funext fun q => u1 32 q (by decide) (by decide))
  have f11 : U.1 37 11 = nI a0.1 := by rw [u1 _ _ (by decide) (by decide), v11]; rfl
  have f12 : U.1 37 12 = nI a0.2.1.length := by rw [u1 _ _ (by decide) (by decide), v12]; rfl
  have f14 : U.1 37 14 = bI a0.2.2.1 := by rw [u1 _ _ (by decide) (by decide), v14]; rfl
  have f15 : U.1 37 15 = bI a0.2.2.2 := by rw [u1 _ _ (by decide) (by decide), v15]; rfl
  have fre : a0.2.2.2 = true → ∃ τ fl, a0.2.1 = τ :: fl ∧ ∀ d, d < 12 → thr B d = true → U.1 38 d = nI (τ d) := fun q => absurd q (by decide)
  have f41 : w = none → ∀ c, c < 12 → thr B c = true → ∀ v, v < 100 → U.1 41 (100 * c + v) = nI (cnF a0.2.1 c v) := fun q c hc tc v hv => by
    rw [u1 _ _ (by decide) (by decide), o 41 _ (by omega), h41 q _ (by omega)]; rfl
  have f40 : w = none → ∀ f, W = some f → (∀ k, k < 10 → U.1 40 k = nI (f k) ∧ f k < 100) ∧ U.1 37 13 = iI (bw B f a0.2.1) ∧ (a0.2.1 ≠ [] → ∀ c, c < 12 → thr B c = true → U.1 39 c = nI (lk B f a0.2.1 c)) := fun q f hf => by
    refine ⟨fun k hk => ?_, ?_, fun z => absurd rfl z⟩
    · rw [u1 _ _ (by decide) (by decide), o 40 _ (by omega)]; exact h40 q f hf k hk
    · rw [u1 _ _ (by decide) (by decide), v13]; rfl
  rw [e, bs]
  dsimp only
  rw [if_bI0]
  cases r
  · rw [if_neg (by decide), bs]
    refine ⟨U, rfl, ?_⟩
    have e2 : fin B L out lim w = a0 := by
      unfold fin evs
      rw [if_neg]
      · rfl
      · intro q
        have := r1.mpr (of_decide_eq_true q)
        exact absurd this (by decide)
    rw [e2]
    exact ⟨bU, f11, f12, f14, f15, fre, f41, f40⟩
  · rw [if_pos rfl]
    have hs : sOK B out = true := decide_eq_true (r1.mp rfl)
    have xw : XW U B lo hi out lim w W a0 := ⟨bU, fun c hc tc v hv => by rw [u1 34 _ (by decide) (by decide), o 34 _ (by omega)]; exact fx c hc tc v hv, fun c hc tc => by rw [u1 35 _ (by decide) (by decide), u1 36 _ (by decide) (by decide), o 35 _ (by omega), o 36 _ (by omega)]; exact ex c hc tc, (r2 rfl).1, (r2 rfl).2, by rw [u1 _ _ (by decide) (by decide), v9], by rw [u1 _ _ (by decide) (by decide), v10], f11, f12, f14, f15, fre, f41, f40⟩
    obtain ⟨V, eV, g1, _⟩ := X_tell hN ok hw hlim hL nm 13 0 U a0 (fun _ => 0) (by omega) (by omega) xw rfl (Nat.le_refl 0) (Nat.zero_le _) (fun j hj => absurd hj (by omega))
    have eV2 : fX37_tell N 13 U 0 = some V := eV
    rw [eV2, bs, bs]
    refine ⟨V, rfl, ?_⟩
    have e2 : fin B L out lim w = run lim w a0 (evn B L (okD B out) (rem B 0) (fun _ => 0)) := by
      unfold fin evs
      rw [if_pos hs]; rfl
    rw [e2]
    exact XW_XF g1
theorem X_forget {N : Nat} (hN : 1300 < N) : ∃ S', fX37_forgetTally N S = some S' ∧ (∀ i, i < 1200 → S'.1 41 i = 0) ∧ ∀ k q, k ≠ 41 → S'.1 k q = S.1 k q := by
  obtain ⟨t, e, h1, h2⟩ := loop_up (fun q st x => fX37_forgetTally_L2 N q st x) 1200
    (fun i st => (∀ j, j < i → st.1 41 j = 0) ∧ ∀ k q, k ≠ 41 → st.1 k q = S.1 k q)
    (fun st => (∀ j, j < 1200 → st.1 41 j = 0) ∧ ∀ k q, k ≠ 41 → st.1 k q = S.1 k q)
    (fun q st hI => ⟨st, by
      show fX37_forgetTally_L2 N (q + 1) st (nI 1200) = _
      rw [fX37_forgetTally_L2, if_pos (by decide)], hI⟩)
    (fun q i st hi hI => by
      right
      show ∃ s', _ ∧ fX37_forgetTally_L2 N (q + 1) st (nI i) = fX37_forgetTally_L2 N q s' (nI (i + 1))
      rw [fX37_forgetTally_L2, if_neg (show ¬ (1200 : Int32) ≤ nI i from nI_ge hi (by decide)), inb_nI hi (by decide), gd_true, nx_eq, cl (show i < 2 ^ 31 by omega), nI_1]
      refine ⟨p1 st 41 i 0, ⟨fun j hj => ?_, fun k q hk => by rw [p1_ne hk]; exact hI.2 k q hk⟩, rfl⟩
      by_cases e : j = i
      · subst e; rw [p1_eq]
      · rw [p1_ni e]; exact hI.1 j (by omega))
    N 0 S (by omega) (by omega) ⟨fun j hj => absurd hj (by omega), fun _ _ _ => rfl⟩
  refine ⟨t, ?_, h1, h2⟩
  unfold fX37_forgetTally
  have e2 : fX37_forgetTally_L2 N N S 0 = some t := e
  rw [e2]; rfl
end ON
