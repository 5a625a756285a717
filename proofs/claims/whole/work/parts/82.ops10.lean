/-! count, must, could, sure, next -/
def mxN (f : Nat → Nat) : Nat → Nat
  | 0 => 0
  | n + 1 => max (mxN f n) (f n)
theorem mxN_le {f : Nat → Nat} {m : Nat} (h : ∀ v, f v ≤ m) : ∀ n, mxN f n ≤ m
  | 0 => Nat.zero_le _
  | n + 1 => by
    have := mxN_le h n
    have := h n
    rw [mxN]; omega
/-- a fold over the cells that are there -/
def fo {α : Type} (B : Bk) (g : α → Nat → α) (s : α) : Nat → α
  | 0 => s
  | c + 1 => if thr B c = true then g (fo B g s c) c else fo B g s c
theorem fo_gap {α : Type} {B : Bk} {g : α → Nat → α} {s : α} {a : Nat} : ∀ n, fb_ct (thr B) (a + n) = fb_ct (thr B) a → fo B g s (a + n) = fo B g s a
  | 0, _ => rfl
  | n + 1, h => by
    have m := fb_ct_mono (thr B) (show a ≤ a + n by omega)
    rw [show a + (n + 1) = a + n + 1 by omega, fb_ct_succ] at h
    rw [show a + (n + 1) = a + n + 1 by omega, fo]
    cases t : thr B (a + n)
    · rw [t, if_neg (by decide)] at h
      rw [if_neg (by decide)]
      exact fo_gap n h
    · rw [t, if_pos rfl] at h
      omega
theorem fo_step {α : Type} {B : Bk} {g : α → Nat → α} {s : α} {k : Nat} (hk : k < nth B) {m : Nat} (hm : fb_ct (thr B) m = k + 1) : fo B g s m = g (fo B g s (cel B k)) (cel B k) := by
  have cb := cel_b hk
  have lt : cel B k + 1 ≤ m := by
    rcases Nat.lt_or_ge (cel B k) m with q | q
    · exact q
    · have := fb_ct_mono (thr B) q
      omega
  have e := fo_gap (B := B) (g := g) (s := s) (a := cel B k + 1) (m - (cel B k + 1)) (by
    rw [show cel B k + 1 + (m - (cel B k + 1)) = m by omega, hm, fb_ct_succ, if_pos cb.2.1]
    omega)
  rw [show cel B k + 1 + (m - (cel B k + 1)) = m by omega] at e
  rw [e, fo, if_pos cb.2.1]
/-- a loop over the list of the cells that are there -/
theorem fo_loop {α : Type} (B : Bk) (g : α → Nat → α) (s : α) (P : α → Prop) (F : Nat → α → Int32 → Option α) (hx : ∀ n x, F (n + 1) x (nI (nth B)) = some x) (hs : ∀ n x k, k < nth B → P x → F (n + 1) x (nI k) = F n (g x (cel B k)) (nI (k + 1)) ∧ P (g x (cel B k))) (p0 : P s) {N : Nat} (hN : 12 < N) : F N s 0 = some (fo B g s 12) := by
  have nb := nth_le B
  obtain ⟨t, e, h, _⟩ := loop_up F (nth B) (fun i x => (∀ m, m ≤ 12 → fb_ct (thr B) m = i → x = fo B g s m) ∧ P x) (fun x => (∀ m, m ≤ 12 → fb_ct (thr B) m = nth B → x = fo B g s m) ∧ P x)
    (fun n x hI => ⟨x, hx n x, hI⟩)
    (fun n i x hi hI => by
      right
      obtain ⟨e1, e2⟩ := hs n x i hi hI.2
      refine ⟨g x (cel B i), ⟨fun m hm e3 => ?_, e2⟩, e1⟩
      have cb := cel_b hi
      rw [fo_step hi e3, hI.1 (cel B i) (by omega) cb.2.2])
    N 0 s (by omega) (by omega) ⟨fun m hm e3 => by
      have := fo_gap (B := B) (g := g) (s := s) (a := 0) m (by rw [Nat.zero_add, e3]; rfl)
      rw [Nat.zero_add] at this
      rw [this]; rfl, p0⟩
  have e2 : F N s 0 = some t := e
  rw [e2, h 12 (by omega) rfl]
/-- a loop over all cells -/
theorem fo_loop12 {α : Type} (B : Bk) (g : α → Nat → α) (s : α) (P : α → Prop) (F : Nat → α → Int32 → Option α) (hx : ∀ n x, F (n + 1) x (nI 12) = some x) (hs : ∀ n x k, k < 12 → P x → F (n + 1) x (nI k) = F n (if thr B k = true then g x k else x) (nI (k + 1)) ∧ (thr B k = true → P (g x k))) (p0 : P s) {N : Nat} (hN : 12 < N) : F N s 0 = some (fo B g s 12) ∧ P (fo B g s 12) := by
  obtain ⟨t, e, h, h2⟩ := loop_up F 12 (fun i x => x = fo B g s i ∧ P x) (fun x => x = fo B g s 12 ∧ P x)
    (fun n x hI => ⟨x, hx n x, hI⟩)
    (fun n i x hi hI => by
      right
      obtain ⟨e1, e2⟩ := hs n x i hi hI.2
      refine ⟨_, ⟨by rw [fo, hI.1], ?_⟩, e1⟩
      cases t : thr B i
      · rw [if_neg (by decide)]; exact hI.2
      · rw [if_pos rfl]; exact e2 t)
    N 0 s (by omega) (by omega) ⟨rfl, p0⟩
  have e2 : F N s 0 = some t := e
  rw [e2, h]
  exact ⟨rfl, h ▸ h2⟩
section OS
variable {S S' Y Y' : St} {B : Bk} {out lim : Nat} {lo hi lo' hi' : Nat → Int} {L L' : Nat → Nat → Bool} {τ : Nat → Nat} {w : Option Nat} {W : Option (Nat → Nat)} {a : Acc}
theorem X_with (x : XF S B none W a) {c v : Nat} (hc : c < 12) (tc : thr B c = true) (hv : v < 100) : fX37_fillingsWith S (nI c) (nI v) = some (nI (cnF a.2.1 c v)) := by
  rw [fX37_fillingsWith, ixX, inb_nI (show 100 * c + v < 1200 by omega) (by decide), gd_true, cl (show 100 * c + v < 2 ^ 31 by omega), x.2.2.2.2.2.2.1 rfl c hc tc v hv]
theorem X_worth {N : Nat} (hN : 201 < N) (x : XF S B none W a) (hl : a.2.1.length < 2 ^ 30) {c : Nat} (hc : c < 12) (tc : thr B c = true) : fX37_worthOf N S (nI c) = some (nI (mxN (cnF a.2.1 c) 100)) := by
  obtain ⟨t, e, h⟩ := loop_up (fun q (x : Int32) y => fX37_worthOf_L4 N S (nI c) q x y) 100 (fun i x => x = nI (mxN (cnF a.2.1 c) i)) (fun x => x = nI (mxN (cnF a.2.1 c) 100))
    (fun n x hI => ⟨x, by
      show fX37_worthOf_L4 N S (nI c) (n + 1) x (nI 100) = _
      rw [fX37_worthOf_L4, if_pos (by decide)], hI⟩)
    (fun n i y hi hI => by
      right
      show ∃ s', _ ∧ fX37_worthOf_L4 N S (nI c) (n + 1) y (nI i) = fX37_worthOf_L4 N S (nI c) n s' (nI (i + 1))
      have b1 := mxN_le (f := cnF a.2.1 c) (m := a.2.1.length) (fun v => cnF_le _ _ _) i
      have b2 := cnF_le a.2.1 c i
      refine ⟨nI (mxN (cnF a.2.1 c) (i + 1)), rfl, ?_⟩
      rw [fX37_worthOf_L4, if_neg (show ¬ (100 : Int32) ≤ nI i from nI_ge hi (by decide)), X_with x hc tc hi, bs, nx_eq, nI_1, hI, mxN]
      congr 1
      rcases Nat.lt_or_ge (mxN (cnF a.2.1 c) i) (cnF a.2.1 c i) with q | q
      · rw [if_pos (nI_lt q (by omega)), Nat.max_eq_right (by omega)]
      · rw [if_neg (nI_nlt q (by omega)), Nat.max_eq_left q])
    N 0 0 (by omega) (by omega) rfl
  have e2 : fX37_worthOf_L4 N S (nI c) N 0 0 = some t := e
  rw [fX37_worthOf, e2, bs, h]
theorem Y_worth {N : Nat} (hN : 201 < N) (y : YT Y B a) (hl : a.2.1.length < 2 ^ 30) {c : Nat} (hc : c < 12) (tc : thr B c = true) : fY0_worthOf N Y (nI c) = some (nI (mxN (cnF a.2.1 c) 100)) := by
  obtain ⟨t, e, h⟩ := loop_up (fun q (x : Int32) y => fY0_worthOf_L4 N Y (nI c) q x y) 100 (fun i x => x = nI (mxN (cnF a.2.1 c) i)) (fun x => x = nI (mxN (cnF a.2.1 c) 100))
    (fun n x hI => ⟨x, by
      show fY0_worthOf_L4 N Y (nI c) (n + 1) x (nI 100) = _
      rw [fY0_worthOf_L4, if_pos (by decide)], hI⟩)
    (fun n i z hi hI => by
      right
      show ∃ s', _ ∧ fY0_worthOf_L4 N Y (nI c) (n + 1) z (nI i) = fY0_worthOf_L4 N Y (nI c) n s' (nI (i + 1))
      have b1 := mxN_le (f := cnF a.2.1 c) (m := a.2.1.length) (fun v => cnF_le _ _ _) i
      have b2 := cnF_le a.2.1 c i
      refine ⟨nI (mxN (cnF a.2.1 c) (i + 1)), rfl, ?_⟩
      rw [fY0_worthOf_L4, if_neg (show ¬ (100 : Int32) ≤ nI i from nI_ge hi (by decide)), ixY, inb_nI (show 100 * c + i < 1200 by omega) (by decide), gd_true, gd_true, cl (show 100 * c + i < 2 ^ 31 by omega), y.2.2.2.2.2.2 c hc tc i hi, nI_1, hI, mxN]
      rcases Nat.lt_or_ge (mxN (cnF a.2.1 c) i) (cnF a.2.1 c i) with q | q
      · rw [if_neg (nI_ge q (by omega)), Nat.max_eq_right (by omega), bs]
      · rw [if_pos (nI_le q (by omega)), Nat.max_eq_left q, bs])
    N 0 0 (by omega) (by omega) rfl
  have e2 : fY0_worthOf_L4 N Y (nI c) N 0 0 = some t := e
  rw [fY0_worthOf, e2, bs, h]
theorem sp6 {α : Type} {b : Bool} {x y : α} : (if (if b = true then (-6 : Int32) else 0) = 0 then x else y) = if b = true then y else x := by cases b <;> rfl
theorem op10_count {N : Nat} (hN : 41000 < N) : op_count N RR := by
  intro S Y a1 h
  obtain ⟨B, ok, bx, bY⟩ := h.2.2.2
  rcases turns S Y a1 with ⟨q1, q2⟩ | ⟨lim, rfl, l1, l2, q1, q2⟩
  · refine ⟨-1, S, Y, ?_, ?_, h⟩
    · rw [fX0_count, fX0_goThroughAll, q1]; rfl
    · rw [fY0_count, q2]; rfl
  obtain ⟨S', Y', L, e1, e2, xf, yt, hR⟩ := through_R (W := none) hN h ok bx bY l1 l2 (fun f q => absurd q (by simp))
  unfold fX0_count fY0_count
  rw [e1, q2, e2, bs, bs, if_neg ne10, bs]
  try dsimp only
  rw [sp6, if_bI0]
  cases es : (fin B L 0 lim none).2.2.1
  · rw [if_neg (by decide), if_pos (show (!false) = true from rfl), fX37_stepsTaken, bs, nx_eq, fX37_fillings, bs, fY0_ask, nx_eq, bs, p1_ne (by decide), xf.2.1, xf.2.2.1, yt.2.2.2.2.1 es, yt.2.2.2.2.2.1, bs]
    exact ⟨_, _, _, rfl, rfl, RR_ask hR _⟩
  · exact ⟨-6, S', Y', rfl, rfl, hR⟩
theorem op10_sure {N : Nat} (hN : 41000 < N) : op_sure N RR := by
  intro S Y a1 h
  obtain ⟨B, ok, bx, bY⟩ := h.2.2.2
  rcases turns S Y a1 with ⟨q1, q2⟩ | ⟨lim, rfl, l1, l2, q1, q2⟩
  · refine ⟨-1, S, Y, ?_, ?_, h⟩
    · rw [fX0_sure, fX0_goThroughAll, q1]; rfl
    · rw [fY0_sure, q2]; rfl
  obtain ⟨S', Y', L, e1, e2, xf, yt, hR⟩ := through_R (W := none) hN h ok bx bY l1 l2 (fun f q => absurd q (by simp))
  have fb := fin_b B L 0 lim none
  have nb := nth_le B
  unfold fX0_sure fY0_sure
  rw [e1, q2, e2, bs, bs, if_neg ne10, bs]
  try dsimp only
  rw [sp6, if_bI0]
  cases es : (fin B L 0 lim none).2.2.1
  rotate_left
  · exact ⟨-6, S', Y', rfl, rfl, hR⟩
  rw [if_neg (by decide), if_pos (show (!false) = true from rfl), fX37_fillings, bs, xf.2.2.1]
  by_cases z : (fin B L 0 lim none).2.1.length = 0
  · have ey : fY0_sure_L24 N Y' N 0 0 = some 0 := by
      obtain ⟨M, rfl⟩ : ∃ M, N = M + 1 := ⟨N - 1, by omega⟩
      rw [fY0_sure_L24, yt.2.2.2.2.2.1, z, if_pos (show nI 0 ≤ 0 by decide)]
      split <;> rfl
    rw [z, if_pos (show nI 0 = 0 from rfl), ey, bs]
    exact ⟨_, _, _, rfl, rfl, hR⟩
  · rw [if_neg (nI_ne0 (by omega) (by omega))]
    have eX := (fo_loop12 B (fun (x : Int32) c => if mxN (cnF (fin B L 0 lim none).2.1 c) 100 = (fin B L 0 lim none).2.1.length then x ||| (1 <<< (nI c &&& 31)) else x) (0 : Int32) (fun _ => True) (fun q x y => fX0_sure_L29 N S' q x y) (fun n x => by
      show fX0_sure_L29 N S' (n + 1) x (nI 12) = _
      rw [fX0_sure_L29, if_pos (by decide)]) (fun n x k hk _ => ⟨by
      try dsimp only
      rw [fX0_sure_L29, if_neg (show ¬ (12 : Int32) ≤ nI k from nI_ge hk (by decide)), X_there xf.1 hk, bs, if_bI0, nI_1]
      cases tk : thr B k
      · rw [if_neg (by decide), bs, if_neg (by decide)]
      · have b1 := mxN_le (f := cnF (fin B L 0 lim none).2.1 k) (m := (fin B L 0 lim none).2.1.length) (fun v => cnF_le _ _ _) 100
        rw [if_pos rfl, X_worth (by omega) xf (by omega) hk tk, bs, fX37_fillings, bs, xf.2.2.1, nx_eq, if_pos rfl]
        by_cases q : mxN (cnF (fin B L 0 lim none).2.1 k) 100 = (fin B L 0 lim none).2.1.length
        · rw [if_pos (by rw [q]), if_pos q, bs]
        · rw [if_neg (by rw [nI_eq (by omega) (by omega)]; exact q), if_neg q, bs], fun _ => trivial⟩) trivial (show 12 < N by omega)).1
    have eY := fo_loop B (fun (x : Int32) c => if mxN (cnF (fin B L 0 lim none).2.1 c) 100 = (fin B L 0 lim none).2.1.length then x ||| (1 <<< (nI c &&& 31)) else x) (0 : Int32) (fun _ => True) (fun q x y => fY0_sure_L24 N Y' q x y) (fun n x => by
      show fY0_sure_L24 N Y' (n + 1) x (nI (nth B)) = _
      rw [fY0_sure_L24, yt.2.1, if_pos (ge_n (by omega))]) (fun n x k hk _ => ⟨by
      try dsimp only
      have cb := cel_b hk
      have b1 := mxN_le (f := cnF (fin B L 0 lim none).2.1 (cel B k)) (m := (fin B L 0 lim none).2.1.length) (fun v => cnF_le _ _ _) 100
      rw [fY0_sure_L24, yt.2.1, if_neg (nI_ge hk (by omega)), yt.2.2.2.2.2.1, if_neg (show ¬ nI (fin B L 0 lim none).2.1.length ≤ 0 from nI_ge (a := 0) (by omega) (by omega)), inb_nI (show k < 12 by omega) (by decide), gd_true, gd_true, cl (show k < 2 ^ 31 by omega), yt.2.2.1 k hk, Y_worth (by omega) yt (by omega) cb.1 cb.2.1, bs, nI_1]
      by_cases q : mxN (cnF (fin B L 0 lim none).2.1 (cel B k)) 100 = (fin B L 0 lim none).2.1.length
      · rw [if_pos (by rw [q]), if_pos q, bs]
      · rw [if_neg (by rw [nI_eq (by omega) (by omega)]; exact q), if_neg q, bs, Int32.or_zero], trivial⟩) trivial (show 12 < N by omega)
    rw [eX, eY, bs, bs]
    exact ⟨_, _, _, rfl, rfl, hR⟩
theorem op10_next {N : Nat} (hN : 41000 < N) : op_next N RR := by
  intro S Y a1 h
  obtain ⟨B, ok, bx, bY⟩ := h.2.2.2
  rcases turns S Y a1 with ⟨q1, q2⟩ | ⟨lim, rfl, l1, l2, q1, q2⟩
  · refine ⟨-1, S, Y, ?_, ?_, h⟩
    · rw [fX0_next, fX0_goThroughAll, q1]; rfl
    · rw [fY0_next, q2]; rfl
  obtain ⟨S', Y', L, e1, e2, xf, yt, hR⟩ := through_R (W := none) hN h ok bx bY l1 l2 (fun f q => absurd q (by simp))
  have fb := fin_b B L 0 lim none
  have nb := nth_le B
  unfold fX0_next fY0_next
  rw [e1, q2, e2, bs, bs, if_neg ne10, bs]
  try dsimp only
  rw [sp6, if_bI0]
  cases es : (fin B L 0 lim none).2.2.1
  rotate_left
  · exact ⟨-6, S', Y', rfl, rfl, hR⟩
  rw [if_neg (by decide), if_pos (show (!false) = true from rfl), fX37_fillings, bs, xf.2.2.1]
  by_cases z : (fin B L 0 lim none).2.1.length = 0
  · have ey : fY0_next_L28 N Y' N (-9) 0 0 = some (-9, 0) := by
      obtain ⟨M, rfl⟩ : ∃ M, N = M + 1 := ⟨N - 1, by omega⟩
      rw [fY0_next_L28, yt.2.2.2.2.2.1, z, if_pos (show nI 0 ≤ 0 by decide)]
      split <;> rfl
    rw [z, if_pos (show nI 0 = 0 from rfl), ey, bs]
    exact ⟨_, _, _, rfl, rfl, hR⟩
  · rw [if_neg (nI_ne0 (by omega) (by omega))]
    obtain ⟨eX, pX⟩ := fo_loop12 B (fun (x : Int32 × Int32) c => if x.1 = -9 then (nI c, nI (mxN (cnF (fin B L 0 lim none).2.1 c) 100)) else if x.2 ≤ nI (mxN (cnF (fin B L 0 lim none).2.1 c) 100) then x else (nI c, nI (mxN (cnF (fin B L 0 lim none).2.1 c) 100))) ((-9, 0) : Int32 × Int32) (fun x => x.1 = -9 ∨ ∃ c, c < 12 ∧ x.1 = nI c) (fun q x y => fX0_next_L34 N S' q x.1 x.2 y) (fun n x => by
      show fX0_next_L34 N S' (n + 1) x.1 x.2 (nI 12) = _
      rw [fX0_next_L34, if_pos (by decide)]) (fun n x k hk px => ⟨by
      try dsimp only
      rw [fX0_next_L34, if_neg (show ¬ (12 : Int32) ≤ nI k from nI_ge hk (by decide)), X_there xf.1 hk, bs, if_bI0, nI_1]
      cases tk : thr B k
      · rw [if_neg (by decide), bs, if_neg (by decide)]
      · rw [if_pos rfl, X_worth (by omega) xf (by omega) hk tk, bs, bs, if_pos rfl]
        by_cases q : x.1 = -9
        · rw [if_pos q, if_pos q, bs]
        · rw [if_neg q, if_neg q]
          by_cases q2 : x.2 ≤ nI (mxN (cnF (fin B L 0 lim none).2.1 k) 100)
          · rw [if_pos q2, if_pos q2, bs]
          · rw [if_neg q2, if_neg q2, bs], fun _ => by
      try dsimp only
      split
      · exact Or.inr ⟨k, hk, rfl⟩
      · split
        · exact px
        · exact Or.inr ⟨k, hk, rfl⟩⟩) (Or.inl rfl) (show 12 < N by omega)
    have eY := fo_loop B (fun (x : Int32 × Int32) c => if x.1 = -9 then (nI c, nI (mxN (cnF (fin B L 0 lim none).2.1 c) 100)) else if x.2 ≤ nI (mxN (cnF (fin B L 0 lim none).2.1 c) 100) then x else (nI c, nI (mxN (cnF (fin B L 0 lim none).2.1 c) 100))) ((-9, 0) : Int32 × Int32) (fun x => x.1 = -9 ∨ ∃ c, c < 12 ∧ x.1 = nI c) (fun q x y => fY0_next_L28 N Y' q x.1 x.2 y) (fun n x => by
      show fY0_next_L28 N Y' (n + 1) x.1 x.2 (nI (nth B)) = _
      rw [fY0_next_L28, yt.2.1, if_pos (ge_n (by omega))]) (fun n x k hk px => ⟨by
      try dsimp only
      have cb := cel_b hk
      have lt : x.1 < 0 ↔ x.1 = -9 := by
        rcases px with q | ⟨c, hc, q⟩
        · rw [q]; decide
        · rw [q]; exact ⟨fun w => absurd w (nI_pos (by omega)), fun w => absurd w (nI_m9 (by omega))⟩
      rw [fY0_next_L28, yt.2.1, if_neg (nI_ge hk (by omega)), yt.2.2.2.2.2.1, if_neg (show ¬ nI (fin B L 0 lim none).2.1.length ≤ 0 from nI_ge (a := 0) (by omega) (by omega)), inb_nI (show k < 12 by omega) (by decide), gd_true, cl (show k < 2 ^ 31 by omega), yt.2.2.1 k hk, Y_worth (by omega) yt (by omega) cb.1 cb.2.1, bs, gd_true, nI_1, nx_eq]
      by_cases q : x.1 = -9
      · rw [if_pos (lt.mpr q), if_pos q, bs]
      · rw [if_neg (fun w => q (lt.mp w)), if_neg q]
        by_cases q2 : x.2 ≤ nI (mxN (cnF (fin B L 0 lim none).2.1 (cel B k)) 100)
        · rw [if_pos q2, if_pos q2, bs]
        · rw [if_neg q2, if_neg q2, bs], by
      try dsimp only
      split
      · exact Or.inr ⟨_, (cel_b hk).1, rfl⟩
      · split
        · exact px
        · exact Or.inr ⟨_, (cel_b hk).1, rfl⟩⟩) (Or.inl rfl) (show 12 < N by omega)
    dsimp only at eX eY
    rw [eX, eY, bs, bs]
    rcases pX with q | ⟨c, hc, q⟩
    · rw [q, if_pos rfl, if_neg (by decide), bs, bs]
      exact ⟨_, _, _, rfl, rfl, hR⟩
    · rw [q, if_neg (nI_m9 (by omega)), if_pos (show (0 : Int32) ≤ nI c from nI_le (Nat.zero_le _) (by omega)), nx_eq, bs, fY0_ask, nx_eq, bs, bs]
      exact ⟨_, _, _, rfl, rfl, RR_ask hR _⟩
end OS
