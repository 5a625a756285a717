/-! the walk: what happens, in order -/
abbrev Ev : Type := Option (Nat → Nat)
def upN (τ : Nat → Nat) (c v : Nat) : Nat → Nat := fun d => if d = c then v else τ d
def trs (ev : (Nat → Nat) → List Ev) (L : Nat → Nat → Bool) (okf : Nat → (Nat → Nat) → Bool) (c : Nat) (τ : Nat → Nat) : Nat → List Ev
  | 0 => []
  | n + 1 => (if L c (99 - n) = true then none :: (if okf c (upN τ c (99 - n)) = true then ev (upN τ c (99 - n)) else []) else []) ++ trs ev L okf c τ n
def cel (B : Bk) (k : Nat) : Nat := fa_first (fun c => thr B c && decide (fb_ct (thr B) c = k)) 12
def evn (B : Bk) (L : Nat → Nat → Bool) (okf : Nat → (Nat → Nat) → Bool) : Nat → (Nat → Nat) → List Ev
  | 0, τ => [some τ]
  | r + 1, τ => trs (evn B L okf r) L okf (cel B (nth B - (r + 1))) τ 100
abbrev Acc : Type := Nat × List (Nat → Nat) × Bool × Bool
def stp (lim : Nat) (w : Option Nat) (a : Acc) (e : Ev) : Acc := if (a.2.2.1 || a.2.2.2) = true then a else match e with
  | none => if a.1 < lim then (a.1 + 1, a.2) else (a.1, a.2.1, true, a.2.2.2)
  | some τ => (a.1, τ :: a.2.1, a.2.2.1, decide (w = some a.2.1.length))
abbrev run (lim : Nat) (w : Option Nat) (a : Acc) (E : List Ev) : Acc := E.foldl (stp lim w) a
theorem stp_end {lim : Nat} {w : Option Nat} {a : Acc} {e : Ev} (h : (a.2.2.1 || a.2.2.2) = true) : stp lim w a e = a := if_pos h
theorem run_end {lim : Nat} {w : Option Nat} {a : Acc} (h : (a.2.2.1 || a.2.2.2) = true) : ∀ E : List Ev, run lim w a E = a
  | [] => rfl
  | e :: E => by
    show run lim w (stp lim w a e) E = a
    rw [stp_end h]
    exact run_end h E
theorem run_app {lim : Nat} {w : Option Nat} {a : Acc} (E F : List Ev) : run lim w a (E ++ F) = run lim w (run lim w a E) F := List.foldl_append
theorem run_cons {lim : Nat} {w : Option Nat} {a : Acc} (e : Ev) (F : List Ev) : run lim w a (e :: F) = run lim w (stp lim w a e) F := rfl
def bal (lim k : Nat) (a b : Acc) : Prop := b.2.1.length + a.1 ≤ a.2.1.length + b.1 + k ∧ a.1 ≤ b.1 ∧ (a.1 ≤ lim → b.1 ≤ lim)
theorem bal_stp (lim : Nat) (w : Option Nat) (a : Acc) (e : Ev) : bal lim 1 a (stp lim w a e) := by
  unfold bal stp
  split
  · omega
  · cases e
    · dsimp only
      split
      · dsimp only; omega
      · dsimp only; omega
    · dsimp only
      rw [List.length_cons]; omega
theorem bal_none (lim : Nat) (w : Option Nat) (a : Acc) : (stp lim w a none = a ∨ (stp lim w a none).2.2.1 = true) ∨ (stp lim w a none = (a.1 + 1, a.2) ∧ a.1 < lim) := by
  unfold stp
  split
  · exact Or.inl (Or.inl rfl)
  · dsimp only
    split
    · rename_i h; exact Or.inr ⟨rfl, h⟩
    · exact Or.inl (Or.inr rfl)
theorem bal_trs {lim : Nat} {w : Option Nat} {ev : (Nat → Nat) → List Ev} {L : Nat → Nat → Bool} {okf : Nat → (Nat → Nat) → Bool} {c : Nat} {τ : Nat → Nat} (h : ∀ τ a, bal lim 1 a (run lim w a (ev τ))) : ∀ n a, bal lim 0 a (run lim w a (trs ev L okf c τ n))
  | 0, a => by unfold bal; exact ⟨by show a.2.1.length + a.1 ≤ a.2.1.length + a.1 + 0; omega, Nat.le_refl _, id⟩
  | n + 1, a => by
    rw [trs, run_app]
    have ih := bal_trs (lim := lim) (w := w) (L := L) (okf := okf) (c := c) (τ := τ) h n
    have key : bal lim 0 a (run lim w a (if L c (99 - n) = true then none :: (if okf c (upN τ c (99 - n)) = true then ev (upN τ c (99 - n)) else []) else [])) := by
      split
      · rw [run_cons]
        rcases bal_none lim w a with (q | q) | ⟨q, q2⟩
        · rw [q]
          by_cases en : (a.2.2.1 || a.2.2.2) = true
          · rw [run_end en]; unfold bal; omega
          · exfalso
            unfold stp at q
            rw [if_neg en] at q
            dsimp only at q
            by_cases z : a.1 < lim
            · rw [if_pos z] at q
              have := congrArg Prod.fst q
              dsimp only at this
              omega
            · rw [if_neg z] at q
              have := congrArg (fun x : Acc => x.2.2.1) q
              dsimp only at this
              rw [← this] at en
              exact en rfl
        · rw [run_end (by rw [q]; rfl)]
          have := bal_stp lim w a none
          unfold bal at *
          have e2 : (stp lim w a none).2.1 = a.2.1 := by
            unfold stp
            split
            · rfl
            · dsimp only; split <;> rfl
          rw [e2] at this ⊢
          omega
        · rw [q]
          split
          · have := h (upN τ c (99 - n)) (a.1 + 1, a.2)
            unfold bal at *
            dsimp only at this
            omega
          · unfold bal
            show a.2.1.length + a.1 ≤ a.2.1.length + (a.1 + 1) + 0 ∧ a.1 ≤ a.1 + 1 ∧ _
            exact ⟨by omega, by omega, fun _ => by show a.1 + 1 ≤ lim; omega⟩
      · unfold bal
        exact ⟨by show a.2.1.length + a.1 ≤ a.2.1.length + a.1 + 0; omega, Nat.le_refl _, id⟩
    have := ih (run lim w a (if L c (99 - n) = true then none :: (if okf c (upN τ c (99 - n)) = true then ev (upN τ c (99 - n)) else []) else []))
    unfold bal at *
    omega
theorem bal_evn {lim : Nat} {w : Option Nat} {B : Bk} {L : Nat → Nat → Bool} {okf : Nat → (Nat → Nat) → Bool} : ∀ r τ a, bal lim 1 a (run lim w a (evn B L okf r τ))
  | 0, τ, a => bal_stp lim w a (some τ)
  | r + 1, τ, a => by
    have := bal_trs (lim := lim) (w := w) (L := L) (okf := okf) (c := cel B (nth B - (r + 1))) (τ := τ) (fun τ a => bal_evn (B := B) (L := L) (okf := okf) r τ a) 100 a
    unfold bal at *
    rw [evn]
    omega
def rem (B : Bk) (c : Nat) : Nat := nth B - fb_ct (thr B) c
theorem nth_e (B : Bk) : nth B = fb_ct (thr B) 12 := rfl
theorem nth_le (B : Bk) : nth B ≤ 12 := fb_ct_le _ _
theorem first_at {p : Nat → Bool} {n i : Nat} (hi : i < n) (h : p i = true) (u : ∀ j, j < i → p j = false) : fa_first p n = i := by
  have h1 := fa_first_no p n
  rcases Nat.lt_trichotomy (fa_first p n) i with q | q | q
  · have := fa_first_yes p n (by omega)
    rw [u _ q] at this
    exact absurd this (by decide)
  · exact q
  · rw [h1 i q] at h; exact absurd h (by decide)
theorem cel_at {B : Bk} {c : Nat} (hc : c < 12) (tc : thr B c = true) : cel B (fb_ct (thr B) c) = c := first_at hc (by rw [tc]; simp) (fun j hj => by
  by_cases tj : thr B j = true
  · have a := fb_ct_mono (thr B) (show j + 1 ≤ c by omega)
    rw [fb_ct_succ, if_pos tj] at a
    rw [tj, decide_eq_false (by omega)]; rfl
  · simp [tj])
theorem rem_t {B : Bk} {c : Nat} (hc : c < 12) (tc : thr B c = true) : rem B c = rem B (c + 1) + 1 ∧ cel B (nth B - (rem B (c + 1) + 1)) = c := by
  unfold rem
  have a := fb_ct_mono (thr B) (show c + 1 ≤ 12 by omega)
  rw [fb_ct_succ, if_pos tc] at a ⊢
  rw [nth_e]
  refine ⟨by omega, ?_⟩
  rw [show fb_ct (thr B) 12 - (fb_ct (thr B) 12 - (fb_ct (thr B) c + 1) + 1) = fb_ct (thr B) c by omega]
  exact cel_at hc tc
theorem rem_f {B : Bk} {c : Nat} (tc : thr B c = false) : rem B c = rem B (c + 1) := by
  unfold rem
  rw [fb_ct_succ, tc, if_neg (by decide)]; rfl
theorem rem_12 (B : Bk) : rem B 12 = 0 := Nat.sub_self _
theorem trs_v (ev : (Nat → Nat) → List Ev) (L : Nat → Nat → Bool) (okf : Nat → (Nat → Nat) → Bool) (c : Nat) (τ : Nat → Nat) {v : Nat} (hv : v < 100) : trs ev L okf c τ (100 - v) = (if L c v = true then none :: (if okf c (upN τ c v) = true then ev (upN τ c v) else []) else []) ++ trs ev L okf c τ (100 - (v + 1)) := by
  obtain ⟨m, hm⟩ : ∃ m, 100 - v = m + 1 := ⟨99 - v, by omega⟩
  rw [hm, trs, show 99 - m = v by omega, show 100 - (v + 1) = m by omega]
theorem trs_0 (ev : (Nat → Nat) → List Ev) (L : Nat → Nat → Bool) (okf : Nat → (Nat → Nat) → Bool) (c : Nat) (τ : Nat → Nat) : ∀ n, (∀ v, 100 - n ≤ v → v < 100 → L c v = false) → n ≤ 100 → trs ev L okf c τ n = []
  | 0, _, _ => rfl
  | n + 1, h, hn => by
    rw [trs, h (99 - n) (by omega) (by omega), if_neg (by decide), trs_0 ev L okf c τ n (fun v h1 h2 => h v (by omega) h2) (by omega)]; rfl
/-- how many fillings have a number in a cell -/
def cnF : List (Nat → Nat) → Nat → Nat → Nat
  | [], _, _ => 0
  | τ :: fl, c, v => cnF fl c v + (if τ c = v then 1 else 0)
theorem cnF_le : ∀ fl c v, cnF fl c v ≤ fl.length
  | [], _, _ => Nat.le_refl 0
  | τ :: fl, c, v => by
    have := cnF_le fl c v
    rw [cnF, List.length_cons]
    split <;> omega
def wgt (B : Bk) (f : Nat → Nat) (τ : Nat → Nat) : Int := fb_si (fun c => if thr B c = true then (f (τ c % 10) : Int) else 0) 12
def bw (B : Bk) (f : Nat → Nat) : List (Nat → Nat) → Int
  | [] => -1
  | τ :: fl => if bw B f fl < wgt B f τ then wgt B f τ else bw B f fl
def lk (B : Bk) (f : Nat → Nat) : List (Nat → Nat) → (Nat → Nat)
  | [] => fun _ => 0
  | τ :: fl => if bw B f fl < wgt B f τ then τ else lk B f fl
theorem wgt_b {B : Bk} {f τ : Nat → Nat} (h : ∀ k, k < 10 → f k < 100) : 0 ≤ wgt B f τ ∧ wgt B f τ ≤ 1200 := by
  constructor
  · have := si_mono (f := fun _ => 0) (g := fun c => if thr B c = true then (f (τ c % 10) : Int) else 0) (n := 12) (fun k _ => by
      show (0 : Int) ≤ if thr B k = true then (f (τ k % 10) : Int) else 0
      split <;> omega)
    rw [si_0] at this
    exact this
  · exact si_mono (f := fun c => if thr B c = true then (f (τ c % 10) : Int) else 0) (g := fun _ => 100) (n := 12) (fun k _ => by
      show (if thr B k = true then (f (τ k % 10) : Int) else 0) ≤ 100
      have := h (τ k % 10) (by omega)
      split <;> omega)
theorem bw_b {B : Bk} {f : Nat → Nat} (h : ∀ k, k < 10 → f k < 100) : ∀ fl, -1 ≤ bw B f fl ∧ bw B f fl ≤ 1200
  | [] => ⟨show (-1 : Int) ≤ -1 by decide, show (-1 : Int) ≤ 1200 by decide⟩
  | τ :: fl => by
    have := bw_b (B := B) h fl
    have := wgt_b (B := B) (τ := τ) h
    rw [bw]
    split <;> omega
