/-! The relation between the class' numbers and the reference's. -/
abbrev Bk : Type := (Nat → Nat × Nat × Nat) × (Nat × (Nat → Nat)) × (Nat × (Nat → Nat × Nat × Int))
abbrev kd (B : Bk) (c : Nat) : Nat := (B.1 c).1
abbrev ka (B : Bk) (c : Nat) : Nat := (B.1 c).2.1
abbrev kb (B : Bk) (c : Nat) : Nat := (B.1 c).2.2
abbrev hn (B : Bk) : Nat := B.2.1.1
abbrev hv (B : Bk) (i : Nat) : Nat := B.2.1.2 i
abbrev sn (B : Bk) : Nat := B.2.2.1
abbrev sp (B : Bk) (s : Nat) : Nat := (B.2.2.2 s).1
abbrev sl (B : Bk) (s : Nat) : Nat := (B.2.2.2 s).2.1
abbrev tt (B : Bk) (s : Nat) : Int := (B.2.2.2 s).2.2
def sgn (x : Nat) : Prop := (48 ≤ x ∧ x ≤ 57) ∨ x = 63 ∨ x = 120
def cellOK (c k a b : Nat) : Prop := k = 6 ∨ ((k = 0 ∨ k = 5) ∧ a ≤ b ∧ b < 100) ∨ (k = 1 ∧ sgn a ∧ sgn b) ∨ (k = 2 ∧ a < 12 ∧ b < 12 ∧ a ≠ c ∧ b ≠ c) ∨ k = 3 ∨ (k = 4 ∧ a < 12 ∧ a ≠ c)
/-- how often a number lies in the heap -/
def hocc (B : Bk) (v : Nat) : Nat := fb_ct (fun i => decide (hv B i = v)) (hn B)
def okB (B : Bk) : Prop := (∀ c, c < 12 → cellOK c (kd B c) (ka B c) (kb B c)) ∧ hn B ≤ 12 ∧ (∀ i, i < hn B → hv B i < 100) ∧ sn B ≤ 8 ∧ ∀ s, s < sn B → sp B s < 4096 ∧ sl B s < 4096 ∧ sp B s &&& sl B s = 0 ∧ -999 ≤ tt B s ∧ tt B s ≤ 9999
def cX (x y z : Int32) (k a b : Nat) : Prop := (k = 6 ∧ x = -1) ∨ (k < 6 ∧ x = nI k ∧ (k ≠ 3 → y = nI a) ∧ (k ≠ 3 → k ≠ 4 → z = nI b))
def cY (x y z : Int32) (k a b : Nat) : Prop := (k = 6 ∧ x = -9) ∨ (k < 6 ∧ x = nI k ∧ (k ≠ 3 → y = nI a ∨ (k = 1 ∧ a = 48 ∧ y = -9)) ∧ (k ≠ 3 → k ≠ 4 → z = nI b))
def BX (S : St) (B : Bk) : Prop := (∀ c, c < 12 → cX (S.1 26 c) (S.1 27 c) (S.1 28 c) (kd B c) (ka B c) (kb B c)) ∧ (∃ m, m < 4096 ∧ S.1 25 4 = nI m ∧ ∀ c, c < 12 → m.testBit c = decide (kd B c ≠ 6)) ∧ S.1 22 2 = nI (hn B) ∧ (∀ i, i < hn B → S.1 23 i = nI (hv B i)) ∧ (∀ v, v < 100 → S.1 24 v = nI (hocc B v)) ∧ S.1 29 4 = nI (sn B) ∧ ∀ s, s < sn B → S.1 30 s = nI (sp B s) ∧ S.1 31 s = nI (sl B s) ∧ S.1 32 s = iI (tt B s)
def BY (Y : St) (B : Bk) : Prop := (∀ c, c < 12 → cY (Y.1 10 c) (Y.1 11 c) (Y.1 12 c) (kd B c) (ka B c) (kb B c)) ∧ Y.1 0 22 = nI (hn B) ∧ (∀ i, i < hn B → Y.1 16 i = nI (hv B i)) ∧ Y.1 0 18 = nI (sn B) ∧ ∀ s, s < sn B → Y.1 13 s = nI (sp B s) ∧ Y.1 14 s = nI (sl B s) ∧ Y.1 15 s = iI (tt B s)
def rowR (x : Int32) (f : Nat → Int32) (y : Int32) (g : Nat → Int32) (m : Nat) : Prop := (x = -1 ∧ y = -9) ∨ ∃ n, n ≤ m ∧ x = nI n ∧ y = nI n ∧ ∀ i, i < n → f i = g i
def RowsR (S Y : St) : Prop := ∀ r, r < 6 → rowR (S.1 9 r) (S.1 (3 + r)) (Y.1 2 r) (fun i => Y.1 3 (40 * r + i)) 40
def TextsR (S Y : St) : Prop := (∀ t, t < 4 → rowR (S.1 16 t) (S.1 (12 + t)) (Y.1 5 t) (fun i => Y.1 6 (60 * t + i)) 60) ∧ ∀ t, t < 4 → ∀ i, i < 60 → -128 ≤ (S.1 (12 + t) i).toInt ∧ (S.1 (12 + t) i).toInt < 128
def MiscR (S Y : St) : Prop := S.1 0 11 = Y.1 0 0 ∧ (∀ f, f < 6 → S.1 53 f = Y.1 1 f) ∧ S.1 0 12 = Y.1 0 2 ∧ S.2 0 13 = Y.2 0 3 ∧ S.2 0 14 = Y.2 0 4 ∧ S.1 1 2 = 0 ∧ S.1 10 2 = 32
def BookR (S Y : St) : Prop := ∃ B, okB B ∧ BX S B ∧ BY Y B
def RR (S Y : St) : Prop := RowsR S Y ∧ TextsR S Y ∧ MiscR S Y ∧ BookR S Y
section RC
variable {S S' Y Y' : St} {B : Bk}
theorem RowsR_c (h : RowsR S Y) (h1 : S'.1 9 = S.1 9) (h2 : ∀ r, r < 6 → S'.1 (3 + r) = S.1 (3 + r)) (h3 : Y'.1 2 = Y.1 2) (h4 : Y'.1 3 = Y.1 3) : RowsR S' Y' := by
  intro r hr
  have := h r hr
  rw [h1, h2 r hr, h3, h4]
  exact this
theorem TextsR_c (h : TextsR S Y) (h1 : S'.1 16 = S.1 16) (h2 : ∀ t, t < 4 → S'.1 (12 + t) = S.1 (12 + t)) (h3 : Y'.1 5 = Y.1 5) (h4 : Y'.1 6 = Y.1 6) : TextsR S' Y' := by
  refine ⟨fun t ht => ?_, fun t ht i hi => ?_⟩
  · have := h.1 t ht
    rw [h1, h2 t ht, h3, h4]
    exact this
  · rw [h2 t ht]
    exact h.2 t ht i hi
theorem BX_c (h : BX S B) (h1 : S'.1 26 = S.1 26) (h2 : S'.1 27 = S.1 27) (h3 : S'.1 28 = S.1 28) (h4 : S'.1 25 4 = S.1 25 4) (h5 : S'.1 22 2 = S.1 22 2) (h6 : S'.1 23 = S.1 23) (h7 : S'.1 24 = S.1 24) (h8 : S'.1 29 4 = S.1 29 4) (h9 : S'.1 30 = S.1 30) (h10 : S'.1 31 = S.1 31) (h11 : S'.1 32 = S.1 32) : BX S' B := by
  unfold BX at h ⊢
  rw [h1, h2, h3, h4, h5, h6, h7, h8, h9, h10, h11]
  exact h
theorem BY_c (h : BY Y B) (h1 : Y'.1 10 = Y.1 10) (h2 : Y'.1 11 = Y.1 11) (h3 : Y'.1 12 = Y.1 12) (h4 : Y'.1 0 22 = Y.1 0 22) (h5 : Y'.1 16 = Y.1 16) (h6 : Y'.1 0 18 = Y.1 0 18) (h7 : Y'.1 13 = Y.1 13) (h8 : Y'.1 14 = Y.1 14) (h9 : Y'.1 15 = Y.1 15) : BY Y' B := by
  unfold BY at h ⊢
  rw [h1, h2, h3, h4, h5, h6, h7, h8, h9]
  exact h
end RC
/-- what lasts, of the class' numbers and of the reference's -/
abbrev arX : List Nat := [3, 4, 5, 6, 7, 8, 9, 12, 13, 14, 15, 16, 23, 24, 26, 27, 28, 30, 31, 32, 53]
abbrev fiX : List (Nat × Nat) := [(0, 11), (0, 12), (1, 2), (10, 2), (22, 2), (25, 4), (29, 4)]
abbrev loX : List (Nat × Nat) := [(0, 13), (0, 14)]
abbrev arY : List Nat := [1, 2, 3, 5, 6, 10, 11, 12, 13, 14, 15, 16]
abbrev fiY : List (Nat × Nat) := [(0, 0), (0, 2), (0, 18), (0, 22)]
abbrev loY : List (Nat × Nat) := [(0, 3), (0, 4)]
def agr (a : List Nat) (f l : List (Nat × Nat)) (S S' : St) : Prop := (∀ k, k ∈ a → S'.1 k = S.1 k) ∧ (∀ k i, (k, i) ∈ f → S'.1 k i = S.1 k i) ∧ ∀ k i, (k, i) ∈ l → S'.2 k i = S.2 k i
abbrev agX : St → St → Prop := agr arX fiX loX
abbrev agY : St → St → Prop := agr arY fiY loY
theorem agr_refl {a : List Nat} {f l : List (Nat × Nat)} {S : St} : agr a f l S S := ⟨fun _ _ => rfl, fun _ _ _ => rfl, fun _ _ _ => rfl⟩
theorem agr_trans {a : List Nat} {f l : List (Nat × Nat)} {S S1 S2 : St} (h1 : agr a f l S S1) (h2 : agr a f l S1 S2) : agr a f l S S2 := ⟨fun k h => (h2.1 k h).trans (h1.1 k h), fun k i h => (h2.2.1 k i h).trans (h1.2.1 k i h), fun k i h => (h2.2.2 k i h).trans (h1.2.2 k i h)⟩
/-- out of a frame that names nothing that lasts -/
theorem agr_of {a : List Nat} {f l : List (Nat × Nat)} {A : List Nat} {F L : List (Nat × Nat)} {S S' : St} (h : fr A F L S S') (h1 : a.all (fun k => !A.contains k && F.all (fun q => !(q.1 == k))) = true) (h2 : f.all (fun q => !A.contains q.1 && !F.contains q) = true) (h3 : l.all (fun q => !L.contains q) = true) : agr a f l S S' := by
  refine ⟨fun k hk => ?_, fun k i hk => ?_, fun k i hk => ?_⟩
  · have := List.all_eq_true.mp h1 k hk
    simp only [Bool.and_eq_true, Bool.not_eq_true', List.contains_eq_mem, decide_eq_false_iff_not, List.all_eq_true, beq_eq_false_iff_ne] at this
    funext i
    exact h.1 k i this.1 (fun hm => this.2 (k, i) hm rfl)
  · have := List.all_eq_true.mp h2 (k, i) hk
    simp only [Bool.and_eq_true, Bool.not_eq_true', List.contains_eq_mem, decide_eq_false_iff_not] at this
    exact h.1 k i this.1 this.2
  · have := List.all_eq_true.mp h3 (k, i) hk
    simp only [Bool.not_eq_true', List.contains_eq_mem, decide_eq_false_iff_not] at this
    exact h.2 k i this
theorem agX_BX {S S' : St} {B : Bk} (a : agX S S') (h : BX S B) : BX S' B := BX_c h (a.1 _ (by decide)) (a.1 _ (by decide)) (a.1 _ (by decide)) (a.2.1 _ _ (by decide)) (a.2.1 _ _ (by decide)) (a.1 _ (by decide)) (a.1 _ (by decide)) (a.2.1 _ _ (by decide)) (a.1 _ (by decide)) (a.1 _ (by decide)) (a.1 _ (by decide))
theorem agY_BY {Y Y' : St} {B : Bk} (a : agY Y Y') (h : BY Y B) : BY Y' B := BY_c h (a.1 _ (by decide)) (a.1 _ (by decide)) (a.1 _ (by decide)) (a.2.1 _ _ (by decide)) (a.1 _ (by decide)) (a.2.1 _ _ (by decide)) (a.1 _ (by decide)) (a.1 _ (by decide)) (a.1 _ (by decide))
theorem in_r {r : Nat} (h : r < 6) : 3 + r ∈ arX := by
  rcases (show r = 0 ∨ r = 1 ∨ r = 2 ∨ r = 3 ∨ r = 4 ∨ r = 5 by omega) with rfl | rfl | rfl | rfl | rfl | rfl <;> decide
theorem in_t {t : Nat} (h : t < 4) : 12 + t ∈ arX := by
  rcases (show t = 0 ∨ t = 1 ∨ t = 2 ∨ t = 3 by omega) with rfl | rfl | rfl | rfl <;> decide
theorem RR_ag {S S' Y Y' : St} (h : RR S Y) (a : agX S S') (b : agY Y Y') : RR S' Y' := by
  obtain ⟨h1, h2, ⟨m1, m2, m3, m4, m5, m6, m7⟩, B, ok, bx, bY⟩ := h
  refine ⟨RowsR_c h1 (a.1 _ (by decide)) (fun r hr => a.1 _ (in_r hr)) (b.1 _ (by decide)) (b.1 _ (by decide)), TextsR_c h2 (a.1 _ (by decide)) (fun r hr => a.1 _ (in_t hr)) (b.1 _ (by decide)) (b.1 _ (by decide)), ⟨?_, fun f hf => ?_, ?_, ?_, ?_, ?_, ?_⟩, B, ok, agX_BX a bx, agY_BY b bY⟩
  · rw [a.2.1 0 11 (by decide), b.2.1 0 0 (by decide)]; exact m1
  · rw [a.1 53 (by decide), b.1 1 (by decide)]; exact m2 f hf
  · rw [a.2.1 0 12 (by decide), b.2.1 0 2 (by decide)]; exact m3
  · rw [a.2.2 0 13 (by decide), b.2.2 0 3 (by decide)]; exact m4
  · rw [a.2.2 0 14 (by decide), b.2.2 0 4 (by decide)]; exact m5
  · rw [a.2.1 1 2 (by decide)]; exact m6
  · rw [a.2.1 10 2 (by decide)]; exact m7
theorem p1_cell {S : St} {k i : Nat} {v : Int32} {a : Nat} (h : a ≠ k) : (p1 S k i v).1 a = S.1 a := by
  funext b
  exact p1_ne h
theorem RR_ask {S Y : St} (h : RR S Y) (v : Int32) : RR (p1 S 0 12 v) (p1 Y 0 2 v) := by
  obtain ⟨h1, h2, ⟨m1, m2, m3, m4, m5, m6, m7⟩, B, ok, bx, bY⟩ := h
  refine ⟨RowsR_c h1 (p1_cell (by decide)) (fun r hr => p1_cell (by omega)) (p1_cell (by decide)) (p1_cell (by decide)), TextsR_c h2 (p1_cell (by decide)) (fun r hr => p1_cell (by omega)) (p1_cell (by decide)) (p1_cell (by decide)), ⟨?_, fun f hf => ?_, ?_, m4, m5, ?_, ?_⟩, B, ok, ?_, ?_⟩
  · rw [p1_ni (by decide), p1_ni (by decide)]; exact m1
  · rw [p1_ne (by decide), p1_ne (by decide)]; exact m2 f hf
  · rw [p1_eq, p1_eq]
  · rw [p1_ne (by decide)]; exact m6
  · rw [p1_ne (by decide)]; exact m7
  · exact BX_c bx (p1_cell (by decide)) (p1_cell (by decide)) (p1_cell (by decide)) (p1_ne (by decide)) (p1_ne (by decide)) (p1_cell (by decide)) (p1_cell (by decide)) (p1_ne (by decide)) (p1_cell (by decide)) (p1_cell (by decide)) (p1_cell (by decide))
  · exact BY_c bY (p1_cell (by decide)) (p1_cell (by decide)) (p1_cell (by decide)) (p1_ni (by decide)) (p1_cell (by decide)) (p1_ni (by decide)) (p1_cell (by decide)) (p1_cell (by decide)) (p1_cell (by decide))
theorem RR_frac {S Y : St} (h : RR S Y) (u w : Int64) : RR (p2 (p2 S 0 13 u) 0 14 w) (p2 (p2 Y 0 3 u) 0 4 w) := by
  obtain ⟨h1, h2, ⟨m1, m2, m3, m4, m5, m6, m7⟩, B, ok, bx, bY⟩ := h
  refine ⟨h1, h2, ⟨m1, m2, m3, ?_, ?_, m6, m7⟩, B, ok, bx, bY⟩
  · rw [p2_ne (by decide), p2_eq, p2_ne (by decide), p2_eq]
  · rw [p2_eq, p2_eq]
theorem found_R {S Y : St} (h : RR S Y) {f : Nat} (hf : f < 6) {x : Int32} (hx : x = nI f) : ∃ S' Y', fX0_found S x = some (-3, S') ∧ fY0_meets Y x = some (-3, Y') ∧ RR S' Y' := by
  subst hx
  have e := inb_nI hf (by decide)
  have ec : (nI f).toNatClampNeg = f := nI_clamp (by omega)
  refine ⟨_, _, by simp only [fX0_found, nx_eq, e, gd_true, ec]; rfl, by simp only [fY0_meets, nx_eq, e, gd_true, ec]; rfl, ?_⟩
  obtain ⟨h1, h2, ⟨m1, m2, m3, m4, m5, m6, m7⟩, B, ok, bx, bY⟩ := h
  refine ⟨RowsR_c h1 (by rw [p1_cell (by decide), p1_cell (by decide)]) (fun r hr => by rw [p1_cell (by omega), p1_cell (by omega)]) (by rw [p1_cell (by decide), p1_cell (by decide)]) (by rw [p1_cell (by decide), p1_cell (by decide)]), TextsR_c h2 (by rw [p1_cell (by decide), p1_cell (by decide)]) (fun r hr => by rw [p1_cell (by omega), p1_cell (by omega)]) (by rw [p1_cell (by decide), p1_cell (by decide)]) (by rw [p1_cell (by decide), p1_cell (by decide)]), ⟨?_, fun g hg => ?_, ?_, m4, m5, ?_, ?_⟩, B, ok, ?_, ?_⟩
  · rw [p1_ne (by decide), p1_eq, p1_ne (by decide), p1_eq]
  · by_cases e1 : g = f
    · subst e1
      rw [p1_eq, p1_eq, p1_ne (by decide), p1_ne (by decide), m2 g hg]
    · rw [p1_ni e1, p1_ni e1, p1_ne (by decide), p1_ne (by decide)]
      exact m2 g hg
  · rw [p1_ne (by decide), p1_ni (by decide), p1_ne (by decide), p1_ni (by decide)]; exact m3
  · rw [p1_ne (by decide), p1_ne (by decide)]; exact m6
  · rw [p1_ne (by decide), p1_ne (by decide)]; exact m7
  · refine BX_c bx ?_ ?_ ?_ ?_ ?_ ?_ ?_ ?_ ?_ ?_ ?_ <;> first | rw [p1_cell (by decide), p1_cell (by decide)] | rw [p1_ne (by decide), p1_ne (by decide)]
  · refine BY_c bY ?_ ?_ ?_ ?_ ?_ ?_ ?_ ?_ ?_ <;> first | rw [p1_cell (by decide), p1_cell (by decide)] | rw [p1_ne (by decide), p1_ni (by decide)]
