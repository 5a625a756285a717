section GEN
variable {p : Program} {l : Launch} {e : Env} {R : Room} {s : State} {m : MethodId} {args : Array Value} {below : List Frame} {meth : Method} {c : Code} {H : Heap} {locs : List Loc} {Q : State → Prop} {G : GG}
def fXs_isRow (S : St) (x0 : Int32) : Option (Int32) :=
  Option.bind (α := Int32) (
    if x0 < 0 then
      some 0
    else
      if 6 ≤ x0 then
        some 0
      else
        some 1
  ) fun t2 =>
  gd (isb t2) <|
  some t2
set_option maxHeartbeats 4000000 in
set_option maxRecDepth 100000 in
theorem wXs_isRow {S : St} {x0 : Int32} (hC : CallFix p m c cX9_isRow 1 s args lw_g RX9) (hF : 0 ≤ R.frames) (hL : 0 ≤ R.locals)  {v : Int32} (h : fXs_isRow S x0 = some v) (kr : ∀ (H : Heap) (locs : List Loc) (ls : Array Slot) (pc : Nat), isb v = true → decode cX9_isRow pc = .ok (.ireturn, 1) → wg LX G S s H locs → W p l e R s m args below meth c H locs 0 0 Q (F0 m pc ls [.int v])) : ∀ (H : Heap) (locs : List Loc) (ls : Array Slot), wg LX G S s H locs → lv_has ls 1 [(0, .int x0)] → W p l e R s m args below meth c H locs 0 0 Q (F0 m 0 ls []) := by
  have hx := hC.1
  have hb := hC.2.1
  intro H locs ls hW hl
  unfold fXs_isRow at h
  refine lv_iload_n hx hb dX9_isRow_0 rfl (lv_at hl 0 rfl) ?_
  obtain ⟨t2, e3, h⟩ := bd h
  have K1 : ∀ (H : Heap) (locs : List Loc) (ls : Array Slot), wg LX G S s H locs → lv_has ls 1 [] → W p l e R s m args below meth c H locs 0 0 Q (F0 m 15 ls [.int t2]) := by
    intro H locs ls hW hl
    obtain ⟨g6, h⟩ := gd_some h
    cases h
    exact kr _ _ _ _ g6 dX9_isRow_15 hW
  clear h
  have h := e3
  clear e3
  refine lv_if_lt (tgt := 14) hx hb dX9_isRow_1 (by decide) (fun q4 => ?_) (fun q4 => ?_)
  · have h := it_p q4 h
    refine lv_iconst (v := 0) hx hb dX9_isRow_14 (by decide) ?_
    cases h
    exact K1 _ _ _ hW (lv_sub hl [] rfl)
  · have h := it_n q4 h
    refine lv_iload_n hx hb dX9_isRow_4 rfl (lv_at hl 0 rfl) ?_
    refine lv_bipush (v := 6) hx hb dX9_isRow_5 (by decide) ?_
    refine lv_icmp_ge (tgt := 14) hx hb dX9_isRow_7 (by decide) (fun q5 => ?_) (fun q5 => ?_)
    · have h := it_p q5 h
      refine lv_iconst (v := 0) hx hb dX9_isRow_14 (by decide) ?_
      cases h
      exact K1 _ _ _ hW (lv_sub hl [] rfl)
    · have h := it_n q5 h
      refine lv_iconst (v := 1) hx hb dX9_isRow_10 (by decide) ?_
      refine lv_goto (tgt := 15) hx hb dX9_isRow_11 (by decide) ?_
      cases h
      exact K1 _ _ _ hW (lv_sub hl [] rfl)
theorem ctXs_isRow {S : St} {x0 : Int32}  {v : Int32} (h : fXs_isRow S x0 = some v) : Met l yX9_isRow (wm yX9_isRow cX9_isRow 1 (some .boolean)) (rmx 0 0) (pcm LX G S [.int x0]) (qcI LX G S v) 0 0 G.2.2.2 :=
  x_enter (own := RX9) rfl rfl (Nat.le_of_ble_eq_true rfl) (fun p e s m below meth c ls hC hr hk hW hl => wXs_isRow hC (Nat.le_refl _) (Nat.le_refl _)  h (fun H locs ls pc hz hd hW => x_retz hC hr hk hW hz hd) _ _ _ hW hl)
def fX1_make_L9 (N : Nat) (x1 : Int32) (x2 : Int32) : Nat → St → Int32 → Option (St)
  | 0, _, _ => none
  | n + 1, S, x3 =>
    if x2 ≤ x3 then
      some S
    else
      gd (inb x1 6) <|
      gd (inb x3 40) <|
      nx (p1 S (3 + Int32.toNatClampNeg x1) (Int32.toNatClampNeg x3) (S.1 1 2)) fun s7 =>
      fX1_make_L9 N x1 x2 n s7 (x3 + 1)
set_option maxHeartbeats 4000000 in
set_option maxRecDepth 100000 in
theorem wX1_make_L9 {N : Nat} {x1 : Int32} {x2 : Int32} (hC : CallFix p m c cX6_make 4 s args lw_g RX6) (hF : 0 ≤ R.frames) (hL : 0 ≤ R.locals)  {t : St} (kx : ∀ (H : Heap) (locs : List Loc) (ls : Array Slot), wg LX G t s H locs → lv_has ls 4 [] → W p l e R s m args below meth c H locs 0 0 Q (F0 m 32 ls [])) : ∀ (n : Nat) (S : St) (x3 : Int32), fX1_make_L9 N x1 x2 n S x3 = some t → ∀ (H : Heap) (locs : List Loc) (ls : Array Slot), wg LX G S s H locs → lv_has ls 4 [(0, .ref (ad G 1)), (1, .int x1), (2, .int x2), (3, .int x3)] → W p l e R s m args below meth c H locs 0 0 Q (F0 m 9 ls []) := by
  have hx := hC.1
  have hb := hC.2.1
  intro n
  induction n with
  | zero =>
    intro _ _ h
    cases h
  | succ n ih =>
    intro S x3 h H locs ls hW hl
    rw [fX1_make_L9] at h
    refine lv_iload_n hx hb dX6_make_9 rfl (lv_at hl 3 rfl) ?_
    refine lv_iload_n hx hb dX6_make_10 rfl (lv_at hl 2 rfl) ?_
    refine lv_icmp_ge (tgt := 32) hx hb dX6_make_11 (by decide) (fun q4 => ?_) (fun q4 => ?_)
    · have h := it_p q4 h
      cases h
      exact kx _ _ _ hW (lv_sub hl [] rfl)
    · have h := it_n q4 h
      refine lv_aload_n hx hb dX6_make_14 rfl (lv_at hl 0 rfl) ?_
      refine gX1_0 hC hW dX6_make_15 ?_
      refine lv_iload_n hx hb dX6_make_18 rfl (lv_at hl 1 rfl) ?_
      obtain ⟨g5, h⟩ := gd_some h
      refine x_aald hC hW oX2 g5 dX6_make_19 ?_
      refine lv_iload_n hx hb dX6_make_20 rfl (lv_at hl 3 rfl) ?_
      refine lv_aload_n hx hb dX6_make_21 rfl (lv_at hl 0 rfl) ?_
      refine gX1_2 hC hW dX6_make_22 ?_
      obtain ⟨g6, h⟩ := gd_some h
      refine x_iast hC hW (aX_r (inb_lt g5)) g6 dX6_make_25 (fun H locs hW => ?_)
      obtain ⟨s7, e8, h⟩ := nx_some h
      rw [← e8] at hW
      refine lv_iinc (v := x3 + 1) (lv' := [(3, .int (x3 + 1)), (0, .ref (ad G 1)), (1, .int x1), (2, .int x2)]) (k := 3) hx hb dX6_make_26 hl rfl rfl (by decide) rfl (fun ls hl => ?_)
      refine lv_goto (tgt := 9) hx hb dX6_make_29 (by decide) ?_
      exact ih _ _ h _ _ _ hW (lv_sub hl [1, 2, 3, 0] rfl)
def fX1_make (N : Nat) (S : St) (x1 : Int32) (x2 : Int32) : Option (St) :=
  gd (inb x1 6) <|
  nx (p1 S 9 (Int32.toNatClampNeg x1) x2) fun s2 =>
  Option.bind (fX1_make_L9 N x1 x2 N s2 0) fun t9 =>
  some t9
set_option maxHeartbeats 4000000 in
set_option maxRecDepth 100000 in
theorem wX1_make {N : Nat} {S : St} {x1 : Int32} {x2 : Int32} (hC : CallFix p m c cX6_make 4 s args lw_g RX6) (hF : 0 ≤ R.frames) (hL : 0 ≤ R.locals)  {S' : St} (h : fX1_make N S x1 x2 = some (S')) (kr : ∀ (H : Heap) (locs : List Loc) (ls : Array Slot) (pc : Nat), decode cX6_make pc = .ok (.return_, 1) → wg LX G (S') s H locs → W p l e R s m args below meth c H locs 0 0 Q (F0 m pc ls [])) : ∀ (H : Heap) (locs : List Loc) (ls : Array Slot), wg LX G S s H locs → lv_has ls 4 [(0, .ref (ad G 1)), (1, .int x1), (2, .int x2)] → W p l e R s m args below meth c H locs 0 0 Q (F0 m 0 ls []) := by
  have hx := hC.1
  have hb := hC.2.1
  intro H locs ls hW hl
  unfold fX1_make at h
  refine lv_aload_n hx hb dX6_make_0 rfl (lv_at hl 0 rfl) ?_
  refine gX1_1 hC hW dX6_make_1 ?_
  refine lv_iload_n hx hb dX6_make_4 rfl (lv_at hl 1 rfl) ?_
  refine lv_iload_n hx hb dX6_make_5 rfl (lv_at hl 2 rfl) ?_
  obtain ⟨g1, h⟩ := gd_some h
  refine x_iast hC hW aX9 g1 dX6_make_6 (fun H locs hW => ?_)
  obtain ⟨s2, e3, h⟩ := nx_some h
  rw [← e3] at hW
  refine lv_iconst (v := 0) hx hb dX6_make_7 (by decide) ?_
  refine lv_istore_n (lv' := [(3, .int 0), (0, .ref (ad G 1)), (1, .int x1), (2, .int x2)]) hx hb dX6_make_8 rfl hl (by decide) rfl (fun ls hl => ?_)
  obtain ⟨t9, e10, h⟩ := bd h
  refine wX1_make_L9 hC hF hL  (fun H locs ls hW hl => ?_) _ _ _ e10 _ _ _ hW (lv_sub hl [1, 2, 3, 0] rfl)
  cases h
  exact kr _ _ _ _ dX6_make_32 hW
theorem ctX1_make {N : Nat} {S : St} {x1 : Int32} {x2 : Int32}  {S' : St} (h : fX1_make N S x1 x2 = some (S')) : Met l yX6_make (wm yX6_make cX6_make 4 none) (rmx 0 0) (pcm LX G S [.ref (ad G 1), .int x1, .int x2]) (qcV LX G S') 0 0 G.2.2.2 :=
  x_enter (own := RX6) rfl rfl (Nat.le_of_ble_eq_true rfl) (fun p e s m below meth c ls hC hr hk hW hl => wX1_make hC (Nat.le_refl _) (Nat.le_refl _)  h (fun H locs ls pc hd hW => x_retv hC hr hk hW hd) _ _ _ hW hl)
def fX0_found (S : St) (x1 : Int32) : Option (Int32 × St) :=
  nx (p1 S 0 11 x1) fun s1 =>
  gd (inb x1 6) <|
  gd (inb x1 6) <|
  nx (p1 s1 53 (Int32.toNatClampNeg x1) ((s1.1 53 (Int32.toNatClampNeg x1)) + 1)) fun s5 =>
  some ((-3), s5)
set_option maxHeartbeats 4000000 in
set_option maxRecDepth 100000 in
theorem wX0_found {S : St} {x1 : Int32} (hC : CallFix p m c cX9_found 2 s args lw_g RX9) (hF : 0 ≤ R.frames) (hL : 0 ≤ R.locals)  {v : Int32} {S' : St} (h : fX0_found S x1 = some (v, S')) (kr : ∀ (H : Heap) (locs : List Loc) (ls : Array Slot) (pc : Nat), decode cX9_found pc = .ok (.ireturn, 1) → wg LX G (S') s H locs → W p l e R s m args below meth c H locs 0 0 Q (F0 m pc ls [.int v])) : ∀ (H : Heap) (locs : List Loc) (ls : Array Slot), wg LX G S s H locs → lv_has ls 2 [(0, .ref (ad G 0)), (1, .int x1)] → W p l e R s m args below meth c H locs 0 0 Q (F0 m 0 ls []) := by
  have hx := hC.1
  have hb := hC.2.1
  intro H locs ls hW hl
  unfold fX0_found at h
  refine lv_aload_n hx hb dX9_found_0 rfl (lv_at hl 0 rfl) ?_
  refine lv_iload_n hx hb dX9_found_1 rfl (lv_at hl 1 rfl) ?_
  refine pX0_11 hC hW dX9_found_2 (fun H locs hW => ?_)
  obtain ⟨s1, e2, h⟩ := nx_some h
  rw [← e2] at hW
  refine lv_aload_n hx hb dX9_found_5 rfl (lv_at hl 0 rfl) ?_
  refine gX0_10 hC hW dX9_found_6 ?_
  refine lv_iload_n hx hb dX9_found_9 rfl (lv_at hl 1 rfl) ?_
  refine lv_dup2_11 hx hb dX9_found_10 rfl rfl ?_
  obtain ⟨g3, h⟩ := gd_some h
  refine x_iald hC hW aX53 g3 dX9_found_11 ?_
  refine lv_iconst (v := 1) hx hb dX9_found_12 (by decide) ?_
  refine lv_iadd hx hb dX9_found_13 ?_
  obtain ⟨g4, h⟩ := gd_some h
  refine x_iast hC hW aX53 g4 dX9_found_14 (fun H locs hW => ?_)
  obtain ⟨s5, e6, h⟩ := nx_some h
  rw [← e6] at hW
  refine lv_bipush (v := (-3)) hx hb dX9_found_15 (by decide) ?_
  cases h
  exact kr _ _ _ _ dX9_found_17 hW
theorem ctX0_found {S : St} {x1 : Int32}  {v : Int32} {S' : St} (h : fX0_found S x1 = some (v, S')) : Met l yX9_found (wm yX9_found cX9_found 2 (some .int)) (rmx 0 0) (pcm LX G S [.ref (ad G 0), .int x1]) (qcI LX G S' v) 0 0 G.2.2.2 :=
  x_enter (own := RX9) rfl rfl (Nat.le_of_ble_eq_true rfl) (fun p e s m below meth c ls hC hr hk hW hl => wX0_found hC (Nat.le_refl _) (Nat.le_refl _)  h (fun H locs ls pc hd hW => x_reti hC hr hk hW hd) _ _ _ hW hl)
def fX0_row (N : Nat) (S : St) (x1 : Int32) (x2 : Int32) : Option (Int32 × St) :=
  Option.bind (fXs_isRow S x1) fun t1 =>
  if t1 = 0 then
    some ((-1), S)
  else
    if x2 ≤ 40 then
      if 0 ≤ x2 then
        Option.bind (fX1_make N S x1 x2) fun t6 =>
        some (x2, t6)
      else
        Option.bind (fX0_found S 5) fun t8 =>
        some (t8.1, t8.2)
    else
      some ((-1), S)
set_option maxHeartbeats 4000000 in
set_option maxRecDepth 100000 in
theorem wX0_row {N : Nat} {S : St} {x1 : Int32} {x2 : Int32} (hC : CallFix p m c cX9_row 3 s args lw_g RX9) (hF : 1 ≤ R.frames) (hL : 23 ≤ R.locals)  {v : Int32} {S' : St} (h : fX0_row N S x1 x2 = some (v, S')) (kr : ∀ (H : Heap) (locs : List Loc) (ls : Array Slot) (pc : Nat), decode cX9_row pc = .ok (.ireturn, 1) → wg LX G (S') s H locs → W p l e R s m args below meth c H locs 0 0 Q (F0 m pc ls [.int v])) : ∀ (H : Heap) (locs : List Loc) (ls : Array Slot), wg LX G S s H locs → lv_has ls 3 [(0, .ref (ad G 0)), (1, .int x1), (2, .int x2)] → W p l e R s m args below meth c H locs 0 0 Q (F0 m 0 ls []) := by
  have hx := hC.1
  have hb := hC.2.1
  intro H locs ls hW hl
  unfold fX0_row at h
  refine lv_iload_n hx hb dX9_row_0 rfl (lv_at hl 1 rfl) ?_
  obtain ⟨t1, e2, h⟩ := bd h
  refine x_goi (x_rs (rest := []) hC hW (ctXs_isRow e2) (cwS_g hC.2.2.2.2 ml_X9_105 ms_X9_isRow md_X9_isRow ⟨(Nat.le_trans (Nat.le_of_ble_eq_true rfl) hF), (Nat.le_trans (Nat.le_of_ble_eq_true rfl) hL)⟩) rfl hl.1 rfl (Nat.le_of_ble_eq_true rfl) dX9_row_1) hW (fun H locs hW => ?_)
  refine lv_if_eq (tgt := 13) hx hb dX9_row_4 (by decide) (fun q3 => ?_) (fun q3 => ?_)
  · have h := it_p q3 h
    refine lv_iconst (v := (-1)) hx hb dX9_row_13 (by decide) ?_
    cases h
    exact kr _ _ _ _ dX9_row_14 hW
  · have h := it_n q3 h
    refine lv_iload_n hx hb dX9_row_7 rfl (lv_at hl 2 rfl) ?_
    refine lv_bipush (v := 40) hx hb dX9_row_8 (by decide) ?_
    refine lv_icmp_le (tgt := 15) hx hb dX9_row_10 (by decide) (fun q4 => ?_) (fun q4 => ?_)
    · have h := it_p q4 h
      refine lv_iload_n hx hb dX9_row_15 rfl (lv_at hl 2 rfl) ?_
      refine lv_if_ge (tgt := 25) hx hb dX9_row_16 (by decide) (fun q5 => ?_) (fun q5 => ?_)
      · have h := it_p q5 h
        refine lv_aload_n hx hb dX9_row_25 rfl (lv_at hl 0 rfl) ?_
        refine gX0_0 hC hW dX9_row_26 ?_
        refine lv_iload_n hx hb dX9_row_29 rfl (lv_at hl 1 rfl) ?_
        refine lv_iload_n hx hb dX9_row_30 rfl (lv_at hl 2 rfl) ?_
        obtain ⟨t6, e7, h⟩ := bd h
        refine x_gov (x_rv (rest := []) hC hW (ctX1_make e7) (cwV_g hC.2.2.2.2 ml_X9_113 mi_X6_make md_X6_make ⟨(Nat.le_trans (Nat.le_of_ble_eq_true rfl) hF), (Nat.le_trans (Nat.le_of_ble_eq_true rfl) hL)⟩) (rcX1 hW) rfl hl.1 rfl (Nat.le_of_ble_eq_true rfl) dX9_row_31) hW (fun H locs hW => ?_)
        refine lv_iload_n hx hb dX9_row_34 rfl (lv_at hl 2 rfl) ?_
        cases h
        exact kr _ _ _ _ dX9_row_35 hW
      · have h := it_n q5 h
        refine lv_aload_n hx hb dX9_row_19 rfl (lv_at hl 0 rfl) ?_
        refine lv_iconst (v := 5) hx hb dX9_row_20 (by decide) ?_
        obtain ⟨t8, e9, h⟩ := bd h
        refine x_goi (x_rv (rest := []) hC hW (ctX0_found e9) (cwV_g hC.2.2.2.2 ml_X9_109 mi_X9_found md_X9_found ⟨(Nat.le_trans (Nat.le_of_ble_eq_true rfl) hF), (Nat.le_trans (Nat.le_of_ble_eq_true rfl) hL)⟩) (rcX0 hW) rfl hl.1 rfl (Nat.le_of_ble_eq_true rfl) dX9_row_21) hW (fun H locs hW => ?_)
        cases h
        exact kr _ _ _ _ dX9_row_24 hW
    · have h := it_n q4 h
      refine lv_iconst (v := (-1)) hx hb dX9_row_13 (by decide) ?_
      cases h
      exact kr _ _ _ _ dX9_row_14 hW
theorem ctX0_row {N : Nat} {S : St} {x1 : Int32} {x2 : Int32}  {v : Int32} {S' : St} (h : fX0_row N S x1 x2 = some (v, S')) : Met l yX9_row (wm yX9_row cX9_row 3 (some .int)) (rmx 1 23) (pcm LX G S [.ref (ad G 0), .int x1, .int x2]) (qcI LX G S' v) 0 0 G.2.2.2 :=
  x_enter (own := RX9) rfl rfl (Nat.le_of_ble_eq_true rfl) (fun p e s m below meth c ls hC hr hk hW hl => wX0_row hC (Nat.le_refl _) (Nat.le_refl _)  h (fun H locs ls pc hd hW => x_reti hC hr hk hW hd) _ _ _ hW hl)
def fX1_isThere (S : St) (x1 : Int32) : Option (Int32) :=
  gd (inb x1 6) <|
  Option.bind (α := Int32) (
    if (S.1 9 (Int32.toNatClampNeg x1)) = (-1) then
      some 0
    else
      some 1
  ) fun t3 =>
  gd (isb t3) <|
  some t3
set_option maxHeartbeats 4000000 in
set_option maxRecDepth 100000 in
theorem wX1_isThere {S : St} {x1 : Int32} (hC : CallFix p m c cX6_isThere 2 s args lw_g RX6) (hF : 0 ≤ R.frames) (hL : 0 ≤ R.locals)  {v : Int32} (h : fX1_isThere S x1 = some v) (kr : ∀ (H : Heap) (locs : List Loc) (ls : Array Slot) (pc : Nat), isb v = true → decode cX6_isThere pc = .ok (.ireturn, 1) → wg LX G S s H locs → W p l e R s m args below meth c H locs 0 0 Q (F0 m pc ls [.int v])) : ∀ (H : Heap) (locs : List Loc) (ls : Array Slot), wg LX G S s H locs → lv_has ls 2 [(0, .ref (ad G 1)), (1, .int x1)] → W p l e R s m args below meth c H locs 0 0 Q (F0 m 0 ls []) := by
  have hx := hC.1
  have hb := hC.2.1
  intro H locs ls hW hl
  unfold fX1_isThere at h
  refine lv_aload_n hx hb dX6_isThere_0 rfl (lv_at hl 0 rfl) ?_
  refine gX1_1 hC hW dX6_isThere_1 ?_
  refine lv_iload_n hx hb dX6_isThere_4 rfl (lv_at hl 1 rfl) ?_
  obtain ⟨g1, h⟩ := gd_some h
  refine x_iald hC hW aX9 g1 dX6_isThere_5 ?_
  refine lv_iconst (v := (-1)) hx hb dX6_isThere_6 (by decide) ?_
  obtain ⟨t3, e4, h⟩ := bd h
  have K2 : ∀ (H : Heap) (locs : List Loc) (ls : Array Slot), wg LX G S s H locs → lv_has ls 2 [] → W p l e R s m args below meth c H locs 0 0 Q (F0 m 15 ls [.int t3]) := by
    intro H locs ls hW hl
    obtain ⟨g6, h⟩ := gd_some h
    cases h
    exact kr _ _ _ _ g6 dX6_isThere_15 hW
  clear h
  have h := e4
  clear e4
  refine lv_icmp_eq (tgt := 14) hx hb dX6_isThere_7 (by decide) (fun q5 => ?_) (fun q5 => ?_)
  · have h := it_p q5 h
    refine lv_iconst (v := 0) hx hb dX6_isThere_14 (by decide) ?_
    cases h
    exact K2 _ _ _ hW (lv_sub hl [] rfl)
  · have h := it_n q5 h
    refine lv_iconst (v := 1) hx hb dX6_isThere_10 (by decide) ?_
    refine lv_goto (tgt := 15) hx hb dX6_isThere_11 (by decide) ?_
    cases h
    exact K2 _ _ _ hW (lv_sub hl [] rfl)
theorem ctX1_isThere {S : St} {x1 : Int32}  {v : Int32} (h : fX1_isThere S x1 = some v) : Met l yX6_isThere (wm yX6_isThere cX6_isThere 2 (some .boolean)) (rmx 0 0) (pcm LX G S [.ref (ad G 1), .int x1]) (qcI LX G S v) 0 0 G.2.2.2 :=
  x_enter (own := RX6) rfl rfl (Nat.le_of_ble_eq_true rfl) (fun p e s m below meth c ls hC hr hk hW hl => wX1_isThere hC (Nat.le_refl _) (Nat.le_refl _)  h (fun H locs ls pc hz hd hW => x_retz hC hr hk hW hz hd) _ _ _ hW hl)
def fX0_refuseRow (S : St) (x1 : Int32) : Option (Int32 × St) :=
  Option.bind (fXs_isRow S x1) fun t1 =>
  if t1 = 0 then
    some ((-1), S)
  else
    Option.bind (fX1_isThere S x1) fun t4 =>
    Option.bind (α := St × Int32) (
      if t4 = 0 then
        Option.bind (fX0_found S 1) fun t10 =>
        some (t10.2, t10.1)
      else
        some (S, 0)
    ) fun t7 =>
    some (t7.2, t7.1)
set_option maxHeartbeats 4000000 in
set_option maxRecDepth 100000 in
theorem wX0_refuseRow {S : St} {x1 : Int32} (hC : CallFix p m c cX9_refuseRow 2 s args lw_g RX9) (hF : 1 ≤ R.frames) (hL : 21 ≤ R.locals)  {v : Int32} {S' : St} (h : fX0_refuseRow S x1 = some (v, S')) (kr : ∀ (H : Heap) (locs : List Loc) (ls : Array Slot) (pc : Nat), decode cX9_refuseRow pc = .ok (.ireturn, 1) → wg LX G (S') s H locs → W p l e R s m args below meth c H locs 0 0 Q (F0 m pc ls [.int v])) : ∀ (H : Heap) (locs : List Loc) (ls : Array Slot), wg LX G S s H locs → lv_has ls 2 [(0, .ref (ad G 0)), (1, .int x1)] → W p l e R s m args below meth c H locs 0 0 Q (F0 m 0 ls []) := by
  have hx := hC.1
  have hb := hC.2.1
  intro H locs ls hW hl
  unfold fX0_refuseRow at h
  refine lv_iload_n hx hb dX9_refuseRow_0 rfl (lv_at hl 1 rfl) ?_
  obtain ⟨t1, e2, h⟩ := bd h
  refine x_goi (x_rs (rest := []) hC hW (ctXs_isRow e2) (cwS_g hC.2.2.2.2 ml_X9_105 ms_X9_isRow md_X9_isRow ⟨(Nat.le_trans (Nat.le_of_ble_eq_true rfl) hF), (Nat.le_trans (Nat.le_of_ble_eq_true rfl) hL)⟩) rfl hl.1 rfl (Nat.le_of_ble_eq_true rfl) dX9_refuseRow_1) hW (fun H locs hW => ?_)
  refine lv_if_ne (tgt := 9) hx hb dX9_refuseRow_4 (by decide) (fun q3 => ?_) (fun q3 => ?_)
  · have h := it_n q3 h
    refine lv_aload_n hx hb dX9_refuseRow_9 rfl (lv_at hl 0 rfl) ?_
    refine gX0_0 hC hW dX9_refuseRow_10 ?_
    refine lv_iload_n hx hb dX9_refuseRow_13 rfl (lv_at hl 1 rfl) ?_
    obtain ⟨t4, e5, h⟩ := bd h
    refine x_goi (x_rv (rest := []) hC hW (ctX1_isThere e5) (cwV_g hC.2.2.2.2 ml_X9_134 mi_X6_isThere md_X6_isThere ⟨(Nat.le_trans (Nat.le_of_ble_eq_true rfl) hF), (Nat.le_trans (Nat.le_of_ble_eq_true rfl) hL)⟩) (rcX1 hW) rfl hl.1 rfl (Nat.le_of_ble_eq_true rfl) dX9_refuseRow_14) hW (fun H locs hW => ?_)
    obtain ⟨t7, e8, h⟩ := bd h
    have K6 : ∀ (H : Heap) (locs : List Loc) (ls : Array Slot), wg LX G t7.1 s H locs → lv_has ls 2 [] → W p l e R s m args below meth c H locs 0 0 Q (F0 m 29 ls [.int t7.2]) := by
      intro H locs ls hW hl
      cases h
      exact kr _ _ _ _ dX9_refuseRow_29 hW
    clear h
    have h := e8
    clear e8
    refine lv_if_eq (tgt := 24) hx hb dX9_refuseRow_17 (by decide) (fun q9 => ?_) (fun q9 => ?_)
    · have h := it_p q9 h
      refine lv_aload_n hx hb dX9_refuseRow_24 rfl (lv_at hl 0 rfl) ?_
      refine lv_iconst (v := 1) hx hb dX9_refuseRow_25 (by decide) ?_
      obtain ⟨t10, e11, h⟩ := bd h
      refine x_goi (x_rv (rest := []) hC hW (ctX0_found e11) (cwV_g hC.2.2.2.2 ml_X9_109 mi_X9_found md_X9_found ⟨(Nat.le_trans (Nat.le_of_ble_eq_true rfl) hF), (Nat.le_trans (Nat.le_of_ble_eq_true rfl) hL)⟩) (rcX0 hW) rfl hl.1 rfl (Nat.le_of_ble_eq_true rfl) dX9_refuseRow_26) hW (fun H locs hW => ?_)
      cases h
      exact K6 _ _ _ hW (lv_sub hl [] rfl)
    · have h := it_n q9 h
      refine lv_iconst (v := 0) hx hb dX9_refuseRow_20 (by decide) ?_
      refine lv_goto (tgt := 29) hx hb dX9_refuseRow_21 (by decide) ?_
      cases h
      exact K6 _ _ _ hW (lv_sub hl [] rfl)
  · have h := it_p q3 h
    refine lv_iconst (v := (-1)) hx hb dX9_refuseRow_7 (by decide) ?_
    cases h
    exact kr _ _ _ _ dX9_refuseRow_8 hW
theorem ctX0_refuseRow {S : St} {x1 : Int32}  {v : Int32} {S' : St} (h : fX0_refuseRow S x1 = some (v, S')) : Met l yX9_refuseRow (wm yX9_refuseRow cX9_refuseRow 2 (some .int)) (rmx 1 21) (pcm LX G S [.ref (ad G 0), .int x1]) (qcI LX G S' v) 0 0 G.2.2.2 :=
  x_enter (own := RX9) rfl rfl (Nat.le_of_ble_eq_true rfl) (fun p e s m below meth c ls hC hr hk hW hl => wX0_refuseRow hC (Nat.le_refl _) (Nat.le_refl _)  h (fun H locs ls pc hd hW => x_reti hC hr hk hW hd) _ _ _ hW hl)
def fX1_sizeOf (S : St) (x1 : Int32) : Option (Int32) :=
  gd (inb x1 6) <|
  some (S.1 9 (Int32.toNatClampNeg x1))
set_option maxHeartbeats 4000000 in
set_option maxRecDepth 100000 in
theorem wX1_sizeOf {S : St} {x1 : Int32} (hC : CallFix p m c cX6_sizeOf 2 s args lw_g RX6) (hF : 0 ≤ R.frames) (hL : 0 ≤ R.locals)  {v : Int32} (h : fX1_sizeOf S x1 = some v) (kr : ∀ (H : Heap) (locs : List Loc) (ls : Array Slot) (pc : Nat), decode cX6_sizeOf pc = .ok (.ireturn, 1) → wg LX G S s H locs → W p l e R s m args below meth c H locs 0 0 Q (F0 m pc ls [.int v])) : ∀ (H : Heap) (locs : List Loc) (ls : Array Slot), wg LX G S s H locs → lv_has ls 2 [(0, .ref (ad G 1)), (1, .int x1)] → W p l e R s m args below meth c H locs 0 0 Q (F0 m 0 ls []) := by
  have hx := hC.1
  have hb := hC.2.1
  intro H locs ls hW hl
  unfold fX1_sizeOf at h
  refine lv_aload_n hx hb dX6_sizeOf_0 rfl (lv_at hl 0 rfl) ?_
  refine gX1_1 hC hW dX6_sizeOf_1 ?_
  refine lv_iload_n hx hb dX6_sizeOf_4 rfl (lv_at hl 1 rfl) ?_
  obtain ⟨g1, h⟩ := gd_some h
  refine x_iald hC hW aX9 g1 dX6_sizeOf_5 ?_
  cases h
  exact kr _ _ _ _ dX6_sizeOf_6 hW
theorem ctX1_sizeOf {S : St} {x1 : Int32}  {v : Int32} (h : fX1_sizeOf S x1 = some v) : Met l yX6_sizeOf (wm yX6_sizeOf cX6_sizeOf 2 (some .int)) (rmx 0 0) (pcm LX G S [.ref (ad G 1), .int x1]) (qcI LX G S v) 0 0 G.2.2.2 :=
  x_enter (own := RX6) rfl rfl (Nat.le_of_ble_eq_true rfl) (fun p e s m below meth c ls hC hr hk hW hl => wX1_sizeOf hC (Nat.le_refl _) (Nat.le_refl _)  h (fun H locs ls pc hd hW => x_reti hC hr hk hW hd) _ _ _ hW hl)
def fX0_refusePlace (S : St) (x1 : Int32) (x2 : Int32) : Option (Int32 × St) :=
  Option.bind (fX0_refuseRow S x1) fun t1 =>
  if t1.1 = 0 then
    Option.bind (α := St × Int32) (
      if x2 < 0 then
        Option.bind (fX0_found t1.2 2) fun t8 =>
        some (t8.2, t8.1)
      else
        Option.bind (fX1_sizeOf t1.2 x1) fun t10 =>
        if t10 ≤ x2 then
          Option.bind (fX0_found t1.2 2) fun t13 =>
          some (t13.2, t13.1)
        else
          some (t1.2, 0)
    ) fun t5 =>
    some (t5.2, t5.1)
  else
    some (t1.1, t1.2)
set_option maxHeartbeats 4000000 in
set_option maxRecDepth 100000 in
theorem wX0_refusePlace {S : St} {x1 : Int32} {x2 : Int32} (hC : CallFix p m c cX9_refusePlace 4 s args lw_g RX9) (hF : 2 ≤ R.frames) (hL : 42 ≤ R.locals)  {v : Int32} {S' : St} (h : fX0_refusePlace S x1 x2 = some (v, S')) (kr : ∀ (H : Heap) (locs : List Loc) (ls : Array Slot) (pc : Nat), decode cX9_refusePlace pc = .ok (.ireturn, 1) → wg LX G (S') s H locs → W p l e R s m args below meth c H locs 0 0 Q (F0 m pc ls [.int v])) : ∀ (H : Heap) (locs : List Loc) (ls : Array Slot), wg LX G S s H locs → lv_has ls 4 [(0, .ref (ad G 0)), (1, .int x1), (2, .int x2)] → W p l e R s m args below meth c H locs 0 0 Q (F0 m 0 ls []) := by
  have hx := hC.1
  have hb := hC.2.1
  intro H locs ls hW hl
  unfold fX0_refusePlace at h
  refine lv_aload_n hx hb dX9_refusePlace_0 rfl (lv_at hl 0 rfl) ?_
  refine lv_iload_n hx hb dX9_refusePlace_1 rfl (lv_at hl 1 rfl) ?_
  obtain ⟨t1, e2, h⟩ := bd h
  refine x_goi (x_rv (rest := []) hC hW (ctX0_refuseRow e2) (cwV_g hC.2.2.2.2 ml_X9_127 mi_X9_refuseRow md_X9_refuseRow ⟨(Nat.le_trans (Nat.le_of_ble_eq_true rfl) hF), (Nat.le_trans (Nat.le_of_ble_eq_true rfl) hL)⟩) (rcX0 hW) rfl hl.1 rfl (Nat.le_of_ble_eq_true rfl) dX9_refusePlace_2) hW (fun H locs hW => ?_)
  refine lv_istore_n (lv' := [(3, .int t1.1), (0, .ref (ad G 0)), (1, .int x1), (2, .int x2)]) hx hb dX9_refusePlace_5 rfl hl (by decide) rfl (fun ls hl => ?_)
  refine lv_iload_n hx hb dX9_refusePlace_6 rfl (lv_at hl 0 rfl) ?_
  refine lv_if_eq (tgt := 12) hx hb dX9_refusePlace_7 (by decide) (fun q3 => ?_) (fun q3 => ?_)
  · have h := it_p q3 h
    refine lv_iload_n hx hb dX9_refusePlace_12 rfl (lv_at hl 3 rfl) ?_
    obtain ⟨t5, e6, h⟩ := bd h
    have K4 : ∀ (H : Heap) (locs : List Loc) (ls : Array Slot), wg LX G t5.1 s H locs → lv_has ls 4 [] → W p l e R s m args below meth c H locs 0 0 Q (F0 m 37 ls [.int t5.2]) := by
      intro H locs ls hW hl
      cases h
      exact kr _ _ _ _ dX9_refusePlace_37 hW
    clear h
    have h := e6
    clear e6
    refine lv_if_lt (tgt := 32) hx hb dX9_refusePlace_13 (by decide) (fun q7 => ?_) (fun q7 => ?_)
    · have h := it_p q7 h
      refine lv_aload_n hx hb dX9_refusePlace_32 rfl (lv_at hl 1 rfl) ?_
      refine lv_iconst (v := 2) hx hb dX9_refusePlace_33 (by decide) ?_
      obtain ⟨t8, e9, h⟩ := bd h
      refine x_goi (x_rv (rest := []) hC hW (ctX0_found e9) (cwV_g hC.2.2.2.2 ml_X9_109 mi_X9_found md_X9_found ⟨(Nat.le_trans (Nat.le_of_ble_eq_true rfl) hF), (Nat.le_trans (Nat.le_of_ble_eq_true rfl) hL)⟩) (rcX0 hW) rfl hl.1 rfl (Nat.le_of_ble_eq_true rfl) dX9_refusePlace_34) hW (fun H locs hW => ?_)
      cases h
      exact K4 _ _ _ hW (lv_sub hl [] rfl)
    · have h := it_n q7 h
      refine lv_iload_n hx hb dX9_refusePlace_16 rfl (lv_at hl 3 rfl) ?_
      refine lv_aload_n hx hb dX9_refusePlace_17 rfl (lv_at hl 1 rfl) ?_
      refine gX0_0 hC hW dX9_refusePlace_18 ?_
      refine lv_iload_n hx hb dX9_refusePlace_21 rfl (lv_at hl 2 rfl) ?_
      obtain ⟨t10, e11, h⟩ := bd h
      refine x_goi (x_rv (rest := [.int x2]) hC hW (ctX1_sizeOf e11) (cwV_g hC.2.2.2.2 ml_X9_145 mi_X6_sizeOf md_X6_sizeOf ⟨(Nat.le_trans (Nat.le_of_ble_eq_true rfl) hF), (Nat.le_trans (Nat.le_of_ble_eq_true rfl) hL)⟩) (rcX1 hW) rfl hl.1 rfl (Nat.le_of_ble_eq_true rfl) dX9_refusePlace_22) hW (fun H locs hW => ?_)
      refine lv_icmp_ge (tgt := 32) hx hb dX9_refusePlace_25 (by decide) (fun q12 => ?_) (fun q12 => ?_)
      · have h := it_p q12 h
        refine lv_aload_n hx hb dX9_refusePlace_32 rfl (lv_at hl 1 rfl) ?_
        refine lv_iconst (v := 2) hx hb dX9_refusePlace_33 (by decide) ?_
        obtain ⟨t13, e14, h⟩ := bd h
        refine x_goi (x_rv (rest := []) hC hW (ctX0_found e14) (cwV_g hC.2.2.2.2 ml_X9_109 mi_X9_found md_X9_found ⟨(Nat.le_trans (Nat.le_of_ble_eq_true rfl) hF), (Nat.le_trans (Nat.le_of_ble_eq_true rfl) hL)⟩) (rcX0 hW) rfl hl.1 rfl (Nat.le_of_ble_eq_true rfl) dX9_refusePlace_34) hW (fun H locs hW => ?_)
        cases h
        exact K4 _ _ _ hW (lv_sub hl [] rfl)
      · have h := it_n q12 h
        refine lv_iconst (v := 0) hx hb dX9_refusePlace_28 (by decide) ?_
        refine lv_goto (tgt := 37) hx hb dX9_refusePlace_29 (by decide) ?_
        cases h
        exact K4 _ _ _ hW (lv_sub hl [] rfl)
  · have h := it_n q3 h
    refine lv_iload_n hx hb dX9_refusePlace_10 rfl (lv_at hl 0 rfl) ?_
    cases h
    exact kr _ _ _ _ dX9_refusePlace_11 hW
theorem ctX0_refusePlace {S : St} {x1 : Int32} {x2 : Int32}  {v : Int32} {S' : St} (h : fX0_refusePlace S x1 x2 = some (v, S')) : Met l yX9_refusePlace (wm yX9_refusePlace cX9_refusePlace 4 (some .int)) (rmx 2 42) (pcm LX G S [.ref (ad G 0), .int x1, .int x2]) (qcI LX G S' v) 0 0 G.2.2.2 :=
  x_enter (own := RX9) rfl rfl (Nat.le_of_ble_eq_true rfl) (fun p e s m below meth c ls hC hr hk hW hl => wX0_refusePlace hC (Nat.le_refl _) (Nat.le_refl _)  h (fun H locs ls pc hd hW => x_reti hC hr hk hW hd) _ _ _ hW hl)
def fX1_get (S : St) (x1 : Int32) (x2 : Int32) : Option (Int32) :=
  gd (inb x1 6) <|
  gd (inb x2 40) <|
  some (S.1 (3 + Int32.toNatClampNeg x1) (Int32.toNatClampNeg x2))
set_option maxHeartbeats 4000000 in
set_option maxRecDepth 100000 in
theorem wX1_get {S : St} {x1 : Int32} {x2 : Int32} (hC : CallFix p m c cX6_get 3 s args lw_g RX6) (hF : 0 ≤ R.frames) (hL : 0 ≤ R.locals)  {v : Int32} (h : fX1_get S x1 x2 = some v) (kr : ∀ (H : Heap) (locs : List Loc) (ls : Array Slot) (pc : Nat), decode cX6_get pc = .ok (.ireturn, 1) → wg LX G S s H locs → W p l e R s m args below meth c H locs 0 0 Q (F0 m pc ls [.int v])) : ∀ (H : Heap) (locs : List Loc) (ls : Array Slot), wg LX G S s H locs → lv_has ls 3 [(0, .ref (ad G 1)), (1, .int x1), (2, .int x2)] → W p l e R s m args below meth c H locs 0 0 Q (F0 m 0 ls []) := by
  have hx := hC.1
  have hb := hC.2.1
  intro H locs ls hW hl
  unfold fX1_get at h
  refine lv_aload_n hx hb dX6_get_0 rfl (lv_at hl 0 rfl) ?_
  refine gX1_0 hC hW dX6_get_1 ?_
  refine lv_iload_n hx hb dX6_get_4 rfl (lv_at hl 1 rfl) ?_
  obtain ⟨g1, h⟩ := gd_some h
  refine x_aald hC hW oX2 g1 dX6_get_5 ?_
  refine lv_iload_n hx hb dX6_get_6 rfl (lv_at hl 2 rfl) ?_
  obtain ⟨g2, h⟩ := gd_some h
  refine x_iald hC hW (aX_r (inb_lt g1)) g2 dX6_get_7 ?_
  cases h
  exact kr _ _ _ _ dX6_get_8 hW
theorem ctX1_get {S : St} {x1 : Int32} {x2 : Int32}  {v : Int32} (h : fX1_get S x1 x2 = some v) : Met l yX6_get (wm yX6_get cX6_get 3 (some .int)) (rmx 0 0) (pcm LX G S [.ref (ad G 1), .int x1, .int x2]) (qcI LX G S v) 0 0 G.2.2.2 :=
  x_enter (own := RX6) rfl rfl (Nat.le_of_ble_eq_true rfl) (fun p e s m below meth c ls hC hr hk hW hl => wX1_get hC (Nat.le_refl _) (Nat.le_refl _)  h (fun H locs ls pc hd hW => x_reti hC hr hk hW hd) _ _ _ hW hl)
def fX1_set (S : St) (x1 : Int32) (x2 : Int32) (x3 : Int32) : Option (St) :=
  gd (inb x1 6) <|
  gd (inb x2 40) <|
  nx (p1 S (3 + Int32.toNatClampNeg x1) (Int32.toNatClampNeg x2) x3) fun s3 =>
  some s3
set_option maxHeartbeats 4000000 in
set_option maxRecDepth 100000 in
theorem wX1_set {S : St} {x1 : Int32} {x2 : Int32} {x3 : Int32} (hC : CallFix p m c cX6_set 4 s args lw_g RX6) (hF : 0 ≤ R.frames) (hL : 0 ≤ R.locals)  {S' : St} (h : fX1_set S x1 x2 x3 = some (S')) (kr : ∀ (H : Heap) (locs : List Loc) (ls : Array Slot) (pc : Nat), decode cX6_set pc = .ok (.return_, 1) → wg LX G (S') s H locs → W p l e R s m args below meth c H locs 0 0 Q (F0 m pc ls [])) : ∀ (H : Heap) (locs : List Loc) (ls : Array Slot), wg LX G S s H locs → lv_has ls 4 [(0, .ref (ad G 1)), (1, .int x1), (2, .int x2), (3, .int x3)] → W p l e R s m args below meth c H locs 0 0 Q (F0 m 0 ls []) := by
  have hx := hC.1
  have hb := hC.2.1
  intro H locs ls hW hl
  unfold fX1_set at h
  refine lv_aload_n hx hb dX6_set_0 rfl (lv_at hl 0 rfl) ?_
  refine gX1_0 hC hW dX6_set_1 ?_
  refine lv_iload_n hx hb dX6_set_4 rfl (lv_at hl 1 rfl) ?_
  obtain ⟨g1, h⟩ := gd_some h
  refine x_aald hC hW oX2 g1 dX6_set_5 ?_
  refine lv_iload_n hx hb dX6_set_6 rfl (lv_at hl 2 rfl) ?_
  refine lv_iload_n hx hb dX6_set_7 rfl (lv_at hl 3 rfl) ?_
  obtain ⟨g2, h⟩ := gd_some h
  refine x_iast hC hW (aX_r (inb_lt g1)) g2 dX6_set_8 (fun H locs hW => ?_)
  obtain ⟨s3, e4, h⟩ := nx_some h
  rw [← e4] at hW
  cases h
  exact kr _ _ _ _ dX6_set_9 hW
theorem ctX1_set {S : St} {x1 : Int32} {x2 : Int32} {x3 : Int32}  {S' : St} (h : fX1_set S x1 x2 x3 = some (S')) : Met l yX6_set (wm yX6_set cX6_set 4 none) (rmx 0 0) (pcm LX G S [.ref (ad G 1), .int x1, .int x2, .int x3]) (qcV LX G S') 0 0 G.2.2.2 :=
  x_enter (own := RX6) rfl rfl (Nat.le_of_ble_eq_true rfl) (fun p e s m below meth c ls hC hr hk hW hl => wX1_set hC (Nat.le_refl _) (Nat.le_refl _)  h (fun H locs ls pc hd hW => x_retv hC hr hk hW hd) _ _ _ hW hl)
def fX0_lay (S : St) (x1 : Int32) (x2 : Int32) (x3 : Int32) : Option (Int32 × St) :=
  Option.bind (fX0_refusePlace S x1 x2) fun t1 =>
  if t1.1 = 0 then
    Option.bind (fX1_get t1.2 x1 x2) fun t4 =>
    nx (p1 t1.2 0 12 t4) fun s6 =>
    Option.bind (fX1_set s6 x1 x2 x3) fun t8 =>
    some (1, t8)
  else
    some (t1.1, t1.2)
set_option maxHeartbeats 4000000 in
set_option maxRecDepth 100000 in
theorem wX0_lay {S : St} {x1 : Int32} {x2 : Int32} {x3 : Int32} (hC : CallFix p m c cX9_lay 5 s args lw_g RX9) (hF : 3 ≤ R.frames) (hL : 65 ≤ R.locals)  {v : Int32} {S' : St} (h : fX0_lay S x1 x2 x3 = some (v, S')) (kr : ∀ (H : Heap) (locs : List Loc) (ls : Array Slot) (pc : Nat), decode cX9_lay pc = .ok (.ireturn, 1) → wg LX G (S') s H locs → W p l e R s m args below meth c H locs 0 0 Q (F0 m pc ls [.int v])) : ∀ (H : Heap) (locs : List Loc) (ls : Array Slot), wg LX G S s H locs → lv_has ls 5 [(0, .ref (ad G 0)), (1, .int x1), (2, .int x2), (3, .int x3)] → W p l e R s m args below meth c H locs 0 0 Q (F0 m 0 ls []) := by
  have hx := hC.1
  have hb := hC.2.1
  intro H locs ls hW hl
  unfold fX0_lay at h
  refine lv_aload_n hx hb dX9_lay_0 rfl (lv_at hl 0 rfl) ?_
  refine lv_iload_n hx hb dX9_lay_1 rfl (lv_at hl 1 rfl) ?_
  refine lv_iload_n hx hb dX9_lay_2 rfl (lv_at hl 2 rfl) ?_
  obtain ⟨t1, e2, h⟩ := bd h
  refine x_goi (x_rv (rest := []) hC hW (ctX0_refusePlace e2) (cwV_g hC.2.2.2.2 ml_X9_117 mi_X9_refusePlace md_X9_refusePlace ⟨(Nat.le_trans (Nat.le_of_ble_eq_true rfl) hF), (Nat.le_trans (Nat.le_of_ble_eq_true rfl) hL)⟩) (rcX0 hW) rfl hl.1 rfl (Nat.le_of_ble_eq_true rfl) dX9_lay_3) hW (fun H locs hW => ?_)
  refine lv_istore (lv' := [(4, .int t1.1), (0, .ref (ad G 0)), (1, .int x1), (2, .int x2), (3, .int x3)]) hx hb dX9_lay_6 hl (by decide) rfl (fun ls hl => ?_)
  refine lv_iload hx hb dX9_lay_8 (lv_at hl 0 rfl) ?_
  refine lv_if_eq (tgt := 16) hx hb dX9_lay_10 (by decide) (fun q3 => ?_) (fun q3 => ?_)
  · have h := it_p q3 h
    refine lv_aload_n hx hb dX9_lay_16 rfl (lv_at hl 1 rfl) ?_
    refine lv_aload_n hx hb dX9_lay_17 rfl (lv_at hl 1 rfl) ?_
    refine gX0_0 hC hW dX9_lay_18 ?_
    refine lv_iload_n hx hb dX9_lay_21 rfl (lv_at hl 2 rfl) ?_
    refine lv_iload_n hx hb dX9_lay_22 rfl (lv_at hl 3 rfl) ?_
    obtain ⟨t4, e5, h⟩ := bd h
    refine x_goi (x_rv (rest := [.ref (ad G 0)]) hC hW (ctX1_get e5) (cwV_g hC.2.2.2.2 ml_X9_121 mi_X6_get md_X6_get ⟨(Nat.le_trans (Nat.le_of_ble_eq_true rfl) hF), (Nat.le_trans (Nat.le_of_ble_eq_true rfl) hL)⟩) (rcX1 hW) rfl hl.1 rfl (Nat.le_of_ble_eq_true rfl) dX9_lay_23) hW (fun H locs hW => ?_)
    refine pX0_12 hC hW dX9_lay_26 (fun H locs hW => ?_)
    obtain ⟨s6, e7, h⟩ := nx_some h
    rw [← e7] at hW
    refine lv_aload_n hx hb dX9_lay_29 rfl (lv_at hl 1 rfl) ?_
    refine gX0_0 hC hW dX9_lay_30 ?_
    refine lv_iload_n hx hb dX9_lay_33 rfl (lv_at hl 2 rfl) ?_
    refine lv_iload_n hx hb dX9_lay_34 rfl (lv_at hl 3 rfl) ?_
    refine lv_iload_n hx hb dX9_lay_35 rfl (lv_at hl 4 rfl) ?_
    obtain ⟨t8, e9, h⟩ := bd h
    refine x_gov (x_rv (rest := []) hC hW (ctX1_set e9) (cwV_g hC.2.2.2.2 ml_X9_124 mi_X6_set md_X6_set ⟨(Nat.le_trans (Nat.le_of_ble_eq_true rfl) hF), (Nat.le_trans (Nat.le_of_ble_eq_true rfl) hL)⟩) (rcX1 hW) rfl hl.1 rfl (Nat.le_of_ble_eq_true rfl) dX9_lay_36) hW (fun H locs hW => ?_)
    refine lv_iconst (v := 1) hx hb dX9_lay_39 (by decide) ?_
    cases h
    exact kr _ _ _ _ dX9_lay_40 hW
  · have h := it_n q3 h
    refine lv_iload hx hb dX9_lay_13 (lv_at hl 0 rfl) ?_
    cases h
    exact kr _ _ _ _ dX9_lay_15 hW
theorem ctX0_lay {S : St} {x1 : Int32} {x2 : Int32} {x3 : Int32}  {v : Int32} {S' : St} (h : fX0_lay S x1 x2 x3 = some (v, S')) : Met l yX9_lay (wm yX9_lay cX9_lay 5 (some .int)) (rmx 3 65) (pcm LX G S [.ref (ad G 0), .int x1, .int x2, .int x3]) (qcI LX G S' v) 0 0 G.2.2.2 :=
  x_enter (own := RX9) rfl rfl (Nat.le_of_ble_eq_true rfl) (fun p e s m below meth c ls hC hr hk hW hl => wX0_lay hC (Nat.le_refl _) (Nat.le_refl _)  h (fun H locs ls pc hd hW => x_reti hC hr hk hW hd) _ _ _ hW hl)
def fX0_at (S : St) (x1 : Int32) (x2 : Int32) : Option (Int32 × St) :=
  Option.bind (fX0_refusePlace S x1 x2) fun t1 =>
  if t1.1 = 0 then
    Option.bind (fX1_get t1.2 x1 x2) fun t4 =>
    nx (p1 t1.2 0 12 t4) fun s6 =>
    some (1, s6)
  else
    some (t1.1, t1.2)
set_option maxHeartbeats 4000000 in
set_option maxRecDepth 100000 in
theorem wX0_at {S : St} {x1 : Int32} {x2 : Int32} (hC : CallFix p m c cX9_at 4 s args lw_g RX9) (hF : 3 ≤ R.frames) (hL : 65 ≤ R.locals)  {v : Int32} {S' : St} (h : fX0_at S x1 x2 = some (v, S')) (kr : ∀ (H : Heap) (locs : List Loc) (ls : Array Slot) (pc : Nat), decode cX9_at pc = .ok (.ireturn, 1) → wg LX G (S') s H locs → W p l e R s m args below meth c H locs 0 0 Q (F0 m pc ls [.int v])) : ∀ (H : Heap) (locs : List Loc) (ls : Array Slot), wg LX G S s H locs → lv_has ls 4 [(0, .ref (ad G 0)), (1, .int x1), (2, .int x2)] → W p l e R s m args below meth c H locs 0 0 Q (F0 m 0 ls []) := by
  have hx := hC.1
  have hb := hC.2.1
  intro H locs ls hW hl
  unfold fX0_at at h
  refine lv_aload_n hx hb dX9_at_0 rfl (lv_at hl 0 rfl) ?_
  refine lv_iload_n hx hb dX9_at_1 rfl (lv_at hl 1 rfl) ?_
  refine lv_iload_n hx hb dX9_at_2 rfl (lv_at hl 2 rfl) ?_
  obtain ⟨t1, e2, h⟩ := bd h
  refine x_goi (x_rv (rest := []) hC hW (ctX0_refusePlace e2) (cwV_g hC.2.2.2.2 ml_X9_117 mi_X9_refusePlace md_X9_refusePlace ⟨(Nat.le_trans (Nat.le_of_ble_eq_true rfl) hF), (Nat.le_trans (Nat.le_of_ble_eq_true rfl) hL)⟩) (rcX0 hW) rfl hl.1 rfl (Nat.le_of_ble_eq_true rfl) dX9_at_3) hW (fun H locs hW => ?_)
  refine lv_istore_n (lv' := [(3, .int t1.1), (0, .ref (ad G 0)), (1, .int x1), (2, .int x2)]) hx hb dX9_at_6 rfl hl (by decide) rfl (fun ls hl => ?_)
  refine lv_iload_n hx hb dX9_at_7 rfl (lv_at hl 0 rfl) ?_
  refine lv_if_eq (tgt := 13) hx hb dX9_at_8 (by decide) (fun q3 => ?_) (fun q3 => ?_)
  · have h := it_p q3 h
    refine lv_aload_n hx hb dX9_at_13 rfl (lv_at hl 1 rfl) ?_
    refine lv_aload_n hx hb dX9_at_14 rfl (lv_at hl 1 rfl) ?_
    refine gX0_0 hC hW dX9_at_15 ?_
    refine lv_iload_n hx hb dX9_at_18 rfl (lv_at hl 2 rfl) ?_
    refine lv_iload_n hx hb dX9_at_19 rfl (lv_at hl 3 rfl) ?_
    obtain ⟨t4, e5, h⟩ := bd h
    refine x_goi (x_rv (rest := [.ref (ad G 0)]) hC hW (ctX1_get e5) (cwV_g hC.2.2.2.2 ml_X9_121 mi_X6_get md_X6_get ⟨(Nat.le_trans (Nat.le_of_ble_eq_true rfl) hF), (Nat.le_trans (Nat.le_of_ble_eq_true rfl) hL)⟩) (rcX1 hW) rfl hl.1 rfl (Nat.le_of_ble_eq_true rfl) dX9_at_20) hW (fun H locs hW => ?_)
    refine pX0_12 hC hW dX9_at_23 (fun H locs hW => ?_)
    obtain ⟨s6, e7, h⟩ := nx_some h
    rw [← e7] at hW
    refine lv_iconst (v := 1) hx hb dX9_at_26 (by decide) ?_
    cases h
    exact kr _ _ _ _ dX9_at_27 hW
  · have h := it_n q3 h
    refine lv_iload_n hx hb dX9_at_11 rfl (lv_at hl 0 rfl) ?_
    cases h
    exact kr _ _ _ _ dX9_at_12 hW
theorem ctX0_at {S : St} {x1 : Int32} {x2 : Int32}  {v : Int32} {S' : St} (h : fX0_at S x1 x2 = some (v, S')) : Met l yX9_at (wm yX9_at cX9_at 4 (some .int)) (rmx 3 65) (pcm LX G S [.ref (ad G 0), .int x1, .int x2]) (qcI LX G S' v) 0 0 G.2.2.2 :=
  x_enter (own := RX9) rfl rfl (Nat.le_of_ble_eq_true rfl) (fun p e s m below meth c ls hC hr hk hW hl => wX0_at hC (Nat.le_refl _) (Nat.le_refl _)  h (fun H locs ls pc hd hW => x_reti hC hr hk hW hd) _ _ _ hW hl)
def fX1_remove (S : St) (x1 : Int32) : Option (St) :=
  gd (inb x1 6) <|
  nx (p1 S 9 (Int32.toNatClampNeg x1) (-1)) fun s2 =>
  some s2
set_option maxHeartbeats 4000000 in
set_option maxRecDepth 100000 in
theorem wX1_remove {S : St} {x1 : Int32} (hC : CallFix p m c cX6_remove 2 s args lw_g RX6) (hF : 0 ≤ R.frames) (hL : 0 ≤ R.locals)  {S' : St} (h : fX1_remove S x1 = some (S')) (kr : ∀ (H : Heap) (locs : List Loc) (ls : Array Slot) (pc : Nat), decode cX6_remove pc = .ok (.return_, 1) → wg LX G (S') s H locs → W p l e R s m args below meth c H locs 0 0 Q (F0 m pc ls [])) : ∀ (H : Heap) (locs : List Loc) (ls : Array Slot), wg LX G S s H locs → lv_has ls 2 [(0, .ref (ad G 1)), (1, .int x1)] → W p l e R s m args below meth c H locs 0 0 Q (F0 m 0 ls []) := by
  have hx := hC.1
  have hb := hC.2.1
  intro H locs ls hW hl
  unfold fX1_remove at h
  refine lv_aload_n hx hb dX6_remove_0 rfl (lv_at hl 0 rfl) ?_
  refine gX1_1 hC hW dX6_remove_1 ?_
  refine lv_iload_n hx hb dX6_remove_4 rfl (lv_at hl 1 rfl) ?_
  refine lv_iconst (v := (-1)) hx hb dX6_remove_5 (by decide) ?_
  obtain ⟨g1, h⟩ := gd_some h
  refine x_iast hC hW aX9 g1 dX6_remove_6 (fun H locs hW => ?_)
  obtain ⟨s2, e3, h⟩ := nx_some h
  rw [← e3] at hW
  cases h
  exact kr _ _ _ _ dX6_remove_7 hW
theorem ctX1_remove {S : St} {x1 : Int32}  {S' : St} (h : fX1_remove S x1 = some (S')) : Met l yX6_remove (wm yX6_remove cX6_remove 2 none) (rmx 0 0) (pcm LX G S [.ref (ad G 1), .int x1]) (qcV LX G S') 0 0 G.2.2.2 :=
  x_enter (own := RX6) rfl rfl (Nat.le_of_ble_eq_true rfl) (fun p e s m below meth c ls hC hr hk hW hl => wX1_remove hC (Nat.le_refl _) (Nat.le_refl _)  h (fun H locs ls pc hd hW => x_retv hC hr hk hW hd) _ _ _ hW hl)
def fX0_tear (S : St) (x1 : Int32) : Option (Int32 × St) :=
  Option.bind (fX0_refuseRow S x1) fun t1 =>
  if t1.1 = 0 then
    Option.bind (fX1_remove t1.2 x1) fun t4 =>
    some (1, t4)
  else
    some (t1.1, t1.2)
set_option maxHeartbeats 4000000 in
set_option maxRecDepth 100000 in
theorem wX0_tear {S : St} {x1 : Int32} (hC : CallFix p m c cX9_tear 3 s args lw_g RX9) (hF : 2 ≤ R.frames) (hL : 42 ≤ R.locals)  {v : Int32} {S' : St} (h : fX0_tear S x1 = some (v, S')) (kr : ∀ (H : Heap) (locs : List Loc) (ls : Array Slot) (pc : Nat), decode cX9_tear pc = .ok (.ireturn, 1) → wg LX G (S') s H locs → W p l e R s m args below meth c H locs 0 0 Q (F0 m pc ls [.int v])) : ∀ (H : Heap) (locs : List Loc) (ls : Array Slot), wg LX G S s H locs → lv_has ls 3 [(0, .ref (ad G 0)), (1, .int x1)] → W p l e R s m args below meth c H locs 0 0 Q (F0 m 0 ls []) := by
  have hx := hC.1
  have hb := hC.2.1
  intro H locs ls hW hl
  unfold fX0_tear at h
  refine lv_aload_n hx hb dX9_tear_0 rfl (lv_at hl 0 rfl) ?_
  refine lv_iload_n hx hb dX9_tear_1 rfl (lv_at hl 1 rfl) ?_
  obtain ⟨t1, e2, h⟩ := bd h
  refine x_goi (x_rv (rest := []) hC hW (ctX0_refuseRow e2) (cwV_g hC.2.2.2.2 ml_X9_127 mi_X9_refuseRow md_X9_refuseRow ⟨(Nat.le_trans (Nat.le_of_ble_eq_true rfl) hF), (Nat.le_trans (Nat.le_of_ble_eq_true rfl) hL)⟩) (rcX0 hW) rfl hl.1 rfl (Nat.le_of_ble_eq_true rfl) dX9_tear_2) hW (fun H locs hW => ?_)
  refine lv_istore_n (lv' := [(2, .int t1.1), (0, .ref (ad G 0)), (1, .int x1)]) hx hb dX9_tear_5 rfl hl (by decide) rfl (fun ls hl => ?_)
  refine lv_iload_n hx hb dX9_tear_6 rfl (lv_at hl 0 rfl) ?_
  refine lv_if_eq (tgt := 12) hx hb dX9_tear_7 (by decide) (fun q3 => ?_) (fun q3 => ?_)
  · have h := it_p q3 h
    refine lv_aload_n hx hb dX9_tear_12 rfl (lv_at hl 1 rfl) ?_
    refine gX0_0 hC hW dX9_tear_13 ?_
    refine lv_iload_n hx hb dX9_tear_16 rfl (lv_at hl 2 rfl) ?_
    obtain ⟨t4, e5, h⟩ := bd h
    refine x_gov (x_rv (rest := []) hC hW (ctX1_remove e5) (cwV_g hC.2.2.2.2 ml_X9_130 mi_X6_remove md_X6_remove ⟨(Nat.le_trans (Nat.le_of_ble_eq_true rfl) hF), (Nat.le_trans (Nat.le_of_ble_eq_true rfl) hL)⟩) (rcX1 hW) rfl hl.1 rfl (Nat.le_of_ble_eq_true rfl) dX9_tear_17) hW (fun H locs hW => ?_)
    refine lv_iconst (v := 1) hx hb dX9_tear_20 (by decide) ?_
    cases h
    exact kr _ _ _ _ dX9_tear_21 hW
  · have h := it_n q3 h
    refine lv_iload_n hx hb dX9_tear_10 rfl (lv_at hl 0 rfl) ?_
    cases h
    exact kr _ _ _ _ dX9_tear_11 hW
theorem ctX0_tear {S : St} {x1 : Int32}  {v : Int32} {S' : St} (h : fX0_tear S x1 = some (v, S')) : Met l yX9_tear (wm yX9_tear cX9_tear 3 (some .int)) (rmx 2 42) (pcm LX G S [.ref (ad G 0), .int x1]) (qcI LX G S' v) 0 0 G.2.2.2 :=
  x_enter (own := RX9) rfl rfl (Nat.le_of_ble_eq_true rfl) (fun p e s m below meth c ls hC hr hk hW hl => wX0_tear hC (Nat.le_refl _) (Nat.le_refl _)  h (fun H locs ls pc hd hW => x_reti hC hr hk hW hd) _ _ _ hW hl)
def fX1_hasSpan (S : St) (x1 : Int32) (x2 : Int32) (x3 : Int32) : Option (Int32) :=
  Option.bind (α := Int32) (
    if x2 < 0 then
      some 0
    else
      gd (inb x1 6) <|
      if (S.1 9 (Int32.toNatClampNeg x1)) < x2 then
        some 0
      else
        gd (inb x1 6) <|
        if ((S.1 9 (Int32.toNatClampNeg x1)) - x2) < x3 then
          some 0
        else
          some 1
  ) fun t2 =>
  gd (isb t2) <|
  some t2
set_option maxHeartbeats 4000000 in
set_option maxRecDepth 100000 in
theorem wX1_hasSpan {S : St} {x1 : Int32} {x2 : Int32} {x3 : Int32} (hC : CallFix p m c cX6_hasSpan 4 s args lw_g RX6) (hF : 0 ≤ R.frames) (hL : 0 ≤ R.locals)  {v : Int32} (h : fX1_hasSpan S x1 x2 x3 = some v) (kr : ∀ (H : Heap) (locs : List Loc) (ls : Array Slot) (pc : Nat), isb v = true → decode cX6_hasSpan pc = .ok (.ireturn, 1) → wg LX G S s H locs → W p l e R s m args below meth c H locs 0 0 Q (F0 m pc ls [.int v])) : ∀ (H : Heap) (locs : List Loc) (ls : Array Slot), wg LX G S s H locs → lv_has ls 4 [(0, .ref (ad G 1)), (1, .int x1), (2, .int x2), (3, .int x3)] → W p l e R s m args below meth c H locs 0 0 Q (F0 m 0 ls []) := by
  have hx := hC.1
  have hb := hC.2.1
  intro H locs ls hW hl
  unfold fX1_hasSpan at h
  refine lv_iload_n hx hb dX6_hasSpan_0 rfl (lv_at hl 2 rfl) ?_
  obtain ⟨t2, e3, h⟩ := bd h
  have K1 : ∀ (H : Heap) (locs : List Loc) (ls : Array Slot), wg LX G S s H locs → lv_has ls 4 [] → W p l e R s m args below meth c H locs 0 0 Q (F0 m 31 ls [.int t2]) := by
    intro H locs ls hW hl
    obtain ⟨g9, h⟩ := gd_some h
    cases h
    exact kr _ _ _ _ g9 dX6_hasSpan_31 hW
  clear h
  have h := e3
  clear e3
  refine lv_if_lt (tgt := 30) hx hb dX6_hasSpan_1 (by decide) (fun q4 => ?_) (fun q4 => ?_)
  · have h := it_p q4 h
    refine lv_iconst (v := 0) hx hb dX6_hasSpan_30 (by decide) ?_
    cases h
    exact K1 _ _ _ hW (lv_sub hl [] rfl)
  · have h := it_n q4 h
    refine lv_iload_n hx hb dX6_hasSpan_4 rfl (lv_at hl 2 rfl) ?_
    refine lv_aload_n hx hb dX6_hasSpan_5 rfl (lv_at hl 0 rfl) ?_
    refine gX1_1 hC hW dX6_hasSpan_6 ?_
    refine lv_iload_n hx hb dX6_hasSpan_9 rfl (lv_at hl 1 rfl) ?_
    obtain ⟨g5, h⟩ := gd_some h
    refine x_iald hC hW aX9 g5 dX6_hasSpan_10 ?_
    refine lv_icmp_gt (tgt := 30) hx hb dX6_hasSpan_11 (by decide) (fun q6 => ?_) (fun q6 => ?_)
    · have h := it_p q6 h
      refine lv_iconst (v := 0) hx hb dX6_hasSpan_30 (by decide) ?_
      cases h
      exact K1 _ _ _ hW (lv_sub hl [] rfl)
    · have h := it_n q6 h
      refine lv_iload_n hx hb dX6_hasSpan_14 rfl (lv_at hl 3 rfl) ?_
      refine lv_aload_n hx hb dX6_hasSpan_15 rfl (lv_at hl 0 rfl) ?_
      refine gX1_1 hC hW dX6_hasSpan_16 ?_
      refine lv_iload_n hx hb dX6_hasSpan_19 rfl (lv_at hl 1 rfl) ?_
      obtain ⟨g7, h⟩ := gd_some h
      refine x_iald hC hW aX9 g7 dX6_hasSpan_20 ?_
      refine lv_iload_n hx hb dX6_hasSpan_21 rfl (lv_at hl 2 rfl) ?_
      refine lv_isub hx hb dX6_hasSpan_22 ?_
      refine lv_icmp_gt (tgt := 30) hx hb dX6_hasSpan_23 (by decide) (fun q8 => ?_) (fun q8 => ?_)
      · have h := it_p q8 h
        refine lv_iconst (v := 0) hx hb dX6_hasSpan_30 (by decide) ?_
        cases h
        exact K1 _ _ _ hW (lv_sub hl [] rfl)
      · have h := it_n q8 h
        refine lv_iconst (v := 1) hx hb dX6_hasSpan_26 (by decide) ?_
        refine lv_goto (tgt := 31) hx hb dX6_hasSpan_27 (by decide) ?_
        cases h
        exact K1 _ _ _ hW (lv_sub hl [] rfl)
theorem ctX1_hasSpan {S : St} {x1 : Int32} {x2 : Int32} {x3 : Int32}  {v : Int32} (h : fX1_hasSpan S x1 x2 x3 = some v) : Met l yX6_hasSpan (wm yX6_hasSpan cX6_hasSpan 4 (some .boolean)) (rmx 0 0) (pcm LX G S [.ref (ad G 1), .int x1, .int x2, .int x3]) (qcI LX G S v) 0 0 G.2.2.2 :=
  x_enter (own := RX6) rfl rfl (Nat.le_of_ble_eq_true rfl) (fun p e s m below meth c ls hC hr hk hW hl => wX1_hasSpan hC (Nat.le_refl _) (Nat.le_refl _)  h (fun H locs ls pc hz hd hW => x_retz hC hr hk hW hz hd) _ _ _ hW hl)
def fX1_move (S : St) (x1 : Int32) (x2 : Int32) (x3 : Int32) (x4 : Int32) (x5 : Int32) : Option (St) :=
  gd (inb x1 6) <|
  gd (inb x3 6) <|
  gd (cpb x2 x4 x5 40 40) <|
  nx (pcp S (3 + Int32.toNatClampNeg x1) (3 + Int32.toNatClampNeg x3) (Int32.toNatClampNeg x2) (Int32.toNatClampNeg x4) (Int32.toNatClampNeg x5)) fun s4 =>
  some s4
set_option maxHeartbeats 4000000 in
set_option maxRecDepth 100000 in
theorem wX1_move {S : St} {x1 : Int32} {x2 : Int32} {x3 : Int32} {x4 : Int32} {x5 : Int32} (hC : CallFix p m c cX6_move 6 s args lw_g RX6) (hF : 1 ≤ R.frames) (hL : 64 ≤ R.locals)  {S' : St} (h : fX1_move S x1 x2 x3 x4 x5 = some (S')) (kr : ∀ (H : Heap) (locs : List Loc) (ls : Array Slot) (pc : Nat), decode cX6_move pc = .ok (.return_, 1) → wg LX G (S') s H locs → W p l e R s m args below meth c H locs 0 0 Q (F0 m pc ls [])) : ∀ (H : Heap) (locs : List Loc) (ls : Array Slot), wg LX G S s H locs → lv_has ls 6 [(0, .ref (ad G 1)), (1, .int x1), (2, .int x2), (3, .int x3), (4, .int x4), (5, .int x5)] → W p l e R s m args below meth c H locs 0 0 Q (F0 m 0 ls []) := by
  have hx := hC.1
  have hb := hC.2.1
  intro H locs ls hW hl
  unfold fX1_move at h
  refine lv_aload_n hx hb dX6_move_0 rfl (lv_at hl 0 rfl) ?_
  refine gX1_0 hC hW dX6_move_1 ?_
  refine lv_iload_n hx hb dX6_move_4 rfl (lv_at hl 1 rfl) ?_
  obtain ⟨g1, h⟩ := gd_some h
  refine x_aald hC hW oX2 g1 dX6_move_5 ?_
  refine lv_iload_n hx hb dX6_move_6 rfl (lv_at hl 2 rfl) ?_
  refine lv_aload_n hx hb dX6_move_7 rfl (lv_at hl 0 rfl) ?_
  refine gX1_0 hC hW dX6_move_8 ?_
  refine lv_iload_n hx hb dX6_move_11 rfl (lv_at hl 3 rfl) ?_
  obtain ⟨g2, h⟩ := gd_some h
  refine x_aald hC hW oX2 g2 dX6_move_12 ?_
  refine lv_iload hx hb dX6_move_13 (lv_at hl 4 rfl) ?_
  refine lv_iload hx hb dX6_move_15 (lv_at hl 5 rfl) ?_
  obtain ⟨g3, h⟩ := gd_some h
  refine x_copy hC hW (aX_r (inb_lt g1)) (aX_r (inb_lt g2)) g3 ml_X6_24 mac (Nat.le_trans (Nat.le_of_ble_eq_true rfl) hF) (Nat.le_trans (Nat.le_of_ble_eq_true rfl) hL) hl.1 dX6_move_17 (fun H locs hW => ?_)
  obtain ⟨s4, e5, h⟩ := nx_some h
  rw [← e5] at hW
  cases h
  exact kr _ _ _ _ dX6_move_20 hW
theorem ctX1_move {S : St} {x1 : Int32} {x2 : Int32} {x3 : Int32} {x4 : Int32} {x5 : Int32}  {S' : St} (h : fX1_move S x1 x2 x3 x4 x5 = some (S')) : Met l yX6_move (wm yX6_move cX6_move 6 none) (rmx 1 64) (pcm LX G S [.ref (ad G 1), .int x1, .int x2, .int x3, .int x4, .int x5]) (qcV LX G S') 0 0 G.2.2.2 :=
  x_enter (own := RX6) rfl rfl (Nat.le_of_ble_eq_true rfl) (fun p e s m below meth c ls hC hr hk hW hl => wX1_move hC (Nat.le_refl _) (Nat.le_refl _)  h (fun H locs ls pc hd hW => x_retv hC hr hk hW hd) _ _ _ hW hl)
def fX0_copy (S : St) (x1 : Int32) (x2 : Int32) (x3 : Int32) (x4 : Int32) (x5 : Int32) : Option (Int32 × St) :=
  Option.bind (fXs_isRow S x1) fun t1 =>
  if t1 = 0 then
    some ((-1), S)
  else
    Option.bind (fXs_isRow S x3) fun t4 =>
    if t4 = 0 then
      some ((-1), S)
    else
      if 0 ≤ x5 then
        Option.bind (fX1_isThere S x1) fun t8 =>
        if t8 = 0 then
          Option.bind (fX0_found S 1) fun t11 =>
          some (t11.1, t11.2)
        else
          Option.bind (fX1_isThere S x3) fun t13 =>
          if t13 = 0 then
            Option.bind (fX0_found S 1) fun t28 =>
            some (t28.1, t28.2)
          else
            Option.bind (fX1_hasSpan S x1 x2 x5) fun t16 =>
            if t16 = 0 then
              Option.bind (fX0_found S 2) fun t19 =>
              some (t19.1, t19.2)
            else
              Option.bind (fX1_hasSpan S x3 x4 x5) fun t21 =>
              if t21 = 0 then
                Option.bind (fX0_found S 2) fun t26 =>
                some (t26.1, t26.2)
              else
                Option.bind (fX1_move S x1 x2 x3 x4 x5) fun t24 =>
                some (1, t24)
      else
        Option.bind (fX0_found S 5) fun t30 =>
        some (t30.1, t30.2)
set_option maxHeartbeats 4000000 in
set_option maxRecDepth 100000 in
theorem wX0_copy {S : St} {x1 : Int32} {x2 : Int32} {x3 : Int32} {x4 : Int32} {x5 : Int32} (hC : CallFix p m c cX9_copy 6 s args lw_g RX9) (hF : 2 ≤ R.frames) (hL : 89 ≤ R.locals)  {v : Int32} {S' : St} (h : fX0_copy S x1 x2 x3 x4 x5 = some (v, S')) (kr : ∀ (H : Heap) (locs : List Loc) (ls : Array Slot) (pc : Nat), decode cX9_copy pc = .ok (.ireturn, 1) → wg LX G (S') s H locs → W p l e R s m args below meth c H locs 0 0 Q (F0 m pc ls [.int v])) : ∀ (H : Heap) (locs : List Loc) (ls : Array Slot), wg LX G S s H locs → lv_has ls 6 [(0, .ref (ad G 0)), (1, .int x1), (2, .int x2), (3, .int x3), (4, .int x4), (5, .int x5)] → W p l e R s m args below meth c H locs 0 0 Q (F0 m 0 ls []) := by
  have hx := hC.1
  have hb := hC.2.1
  intro H locs ls hW hl
  unfold fX0_copy at h
  refine lv_iload_n hx hb dX9_copy_0 rfl (lv_at hl 1 rfl) ?_
  obtain ⟨t1, e2, h⟩ := bd h
  refine x_goi (x_rs (rest := []) hC hW (ctXs_isRow e2) (cwS_g hC.2.2.2.2 ml_X9_105 ms_X9_isRow md_X9_isRow ⟨(Nat.le_trans (Nat.le_of_ble_eq_true rfl) hF), (Nat.le_trans (Nat.le_of_ble_eq_true rfl) hL)⟩) rfl hl.1 rfl (Nat.le_of_ble_eq_true rfl) dX9_copy_1) hW (fun H locs hW => ?_)
  refine lv_if_eq (tgt := 14) hx hb dX9_copy_4 (by decide) (fun q3 => ?_) (fun q3 => ?_)
  · have h := it_p q3 h
    refine lv_iconst (v := (-1)) hx hb dX9_copy_14 (by decide) ?_
    cases h
    exact kr _ _ _ _ dX9_copy_15 hW
  · have h := it_n q3 h
    refine lv_iload_n hx hb dX9_copy_7 rfl (lv_at hl 3 rfl) ?_
    obtain ⟨t4, e5, h⟩ := bd h
    refine x_goi (x_rs (rest := []) hC hW (ctXs_isRow e5) (cwS_g hC.2.2.2.2 ml_X9_105 ms_X9_isRow md_X9_isRow ⟨(Nat.le_trans (Nat.le_of_ble_eq_true rfl) hF), (Nat.le_trans (Nat.le_of_ble_eq_true rfl) hL)⟩) rfl hl.1 rfl (Nat.le_of_ble_eq_true rfl) dX9_copy_8) hW (fun H locs hW => ?_)
    refine lv_if_ne (tgt := 16) hx hb dX9_copy_11 (by decide) (fun q6 => ?_) (fun q6 => ?_)
    · have h := it_n q6 h
      refine lv_iload hx hb dX9_copy_16 (lv_at hl 5 rfl) ?_
      refine lv_if_ge (tgt := 27) hx hb dX9_copy_18 (by decide) (fun q7 => ?_) (fun q7 => ?_)
      · have h := it_p q7 h
        refine lv_aload_n hx hb dX9_copy_27 rfl (lv_at hl 0 rfl) ?_
        refine gX0_0 hC hW dX9_copy_28 ?_
        refine lv_iload_n hx hb dX9_copy_31 rfl (lv_at hl 1 rfl) ?_
        obtain ⟨t8, e9, h⟩ := bd h
        refine x_goi (x_rv (rest := []) hC hW (ctX1_isThere e9) (cwV_g hC.2.2.2.2 ml_X9_134 mi_X6_isThere md_X6_isThere ⟨(Nat.le_trans (Nat.le_of_ble_eq_true rfl) hF), (Nat.le_trans (Nat.le_of_ble_eq_true rfl) hL)⟩) (rcX1 hW) rfl hl.1 rfl (Nat.le_of_ble_eq_true rfl) dX9_copy_32) hW (fun H locs hW => ?_)
        refine lv_if_eq (tgt := 49) hx hb dX9_copy_35 (by decide) (fun q10 => ?_) (fun q10 => ?_)
        · have h := it_p q10 h
          refine lv_aload_n hx hb dX9_copy_49 rfl (lv_at hl 0 rfl) ?_
          refine lv_iconst (v := 1) hx hb dX9_copy_50 (by decide) ?_
          obtain ⟨t11, e12, h⟩ := bd h
          refine x_goi (x_rv (rest := []) hC hW (ctX0_found e12) (cwV_g hC.2.2.2.2 ml_X9_109 mi_X9_found md_X9_found ⟨(Nat.le_trans (Nat.le_of_ble_eq_true rfl) hF), (Nat.le_trans (Nat.le_of_ble_eq_true rfl) hL)⟩) (rcX0 hW) rfl hl.1 rfl (Nat.le_of_ble_eq_true rfl) dX9_copy_51) hW (fun H locs hW => ?_)
          cases h
          exact kr _ _ _ _ dX9_copy_54 hW
        · have h := it_n q10 h
          refine lv_aload_n hx hb dX9_copy_38 rfl (lv_at hl 0 rfl) ?_
          refine gX0_0 hC hW dX9_copy_39 ?_
          refine lv_iload_n hx hb dX9_copy_42 rfl (lv_at hl 3 rfl) ?_
          obtain ⟨t13, e14, h⟩ := bd h
          refine x_goi (x_rv (rest := []) hC hW (ctX1_isThere e14) (cwV_g hC.2.2.2.2 ml_X9_134 mi_X6_isThere md_X6_isThere ⟨(Nat.le_trans (Nat.le_of_ble_eq_true rfl) hF), (Nat.le_trans (Nat.le_of_ble_eq_true rfl) hL)⟩) (rcX1 hW) rfl hl.1 rfl (Nat.le_of_ble_eq_true rfl) dX9_copy_43) hW (fun H locs hW => ?_)
          refine lv_if_ne (tgt := 55) hx hb dX9_copy_46 (by decide) (fun q15 => ?_) (fun q15 => ?_)
          · have h := it_n q15 h
            refine lv_aload_n hx hb dX9_copy_55 rfl (lv_at hl 0 rfl) ?_
            refine gX0_0 hC hW dX9_copy_56 ?_
            refine lv_iload_n hx hb dX9_copy_59 rfl (lv_at hl 1 rfl) ?_
            refine lv_iload_n hx hb dX9_copy_60 rfl (lv_at hl 2 rfl) ?_
            refine lv_iload hx hb dX9_copy_61 (lv_at hl 5 rfl) ?_
            obtain ⟨t16, e17, h⟩ := bd h
            refine x_goi (x_rv (rest := []) hC hW (ctX1_hasSpan e17) (cwV_g hC.2.2.2.2 ml_X9_137 mi_X6_hasSpan md_X6_hasSpan ⟨(Nat.le_trans (Nat.le_of_ble_eq_true rfl) hF), (Nat.le_trans (Nat.le_of_ble_eq_true rfl) hL)⟩) (rcX1 hW) rfl hl.1 rfl (Nat.le_of_ble_eq_true rfl) dX9_copy_63) hW (fun H locs hW => ?_)
            refine lv_if_eq (tgt := 84) hx hb dX9_copy_66 (by decide) (fun q18 => ?_) (fun q18 => ?_)
            · have h := it_p q18 h
              refine lv_aload_n hx hb dX9_copy_84 rfl (lv_at hl 0 rfl) ?_
              refine lv_iconst (v := 2) hx hb dX9_copy_85 (by decide) ?_
              obtain ⟨t19, e20, h⟩ := bd h
              refine x_goi (x_rv (rest := []) hC hW (ctX0_found e20) (cwV_g hC.2.2.2.2 ml_X9_109 mi_X9_found md_X9_found ⟨(Nat.le_trans (Nat.le_of_ble_eq_true rfl) hF), (Nat.le_trans (Nat.le_of_ble_eq_true rfl) hL)⟩) (rcX0 hW) rfl hl.1 rfl (Nat.le_of_ble_eq_true rfl) dX9_copy_86) hW (fun H locs hW => ?_)
              cases h
              exact kr _ _ _ _ dX9_copy_89 hW
            · have h := it_n q18 h
              refine lv_aload_n hx hb dX9_copy_69 rfl (lv_at hl 0 rfl) ?_
              refine gX0_0 hC hW dX9_copy_70 ?_
              refine lv_iload_n hx hb dX9_copy_73 rfl (lv_at hl 3 rfl) ?_
              refine lv_iload hx hb dX9_copy_74 (lv_at hl 4 rfl) ?_
              refine lv_iload hx hb dX9_copy_76 (lv_at hl 5 rfl) ?_
              obtain ⟨t21, e22, h⟩ := bd h
              refine x_goi (x_rv (rest := []) hC hW (ctX1_hasSpan e22) (cwV_g hC.2.2.2.2 ml_X9_137 mi_X6_hasSpan md_X6_hasSpan ⟨(Nat.le_trans (Nat.le_of_ble_eq_true rfl) hF), (Nat.le_trans (Nat.le_of_ble_eq_true rfl) hL)⟩) (rcX1 hW) rfl hl.1 rfl (Nat.le_of_ble_eq_true rfl) dX9_copy_78) hW (fun H locs hW => ?_)
              refine lv_if_ne (tgt := 90) hx hb dX9_copy_81 (by decide) (fun q23 => ?_) (fun q23 => ?_)
              · have h := it_n q23 h
                refine lv_aload_n hx hb dX9_copy_90 rfl (lv_at hl 0 rfl) ?_
                refine gX0_0 hC hW dX9_copy_91 ?_
                refine lv_iload_n hx hb dX9_copy_94 rfl (lv_at hl 1 rfl) ?_
                refine lv_iload_n hx hb dX9_copy_95 rfl (lv_at hl 2 rfl) ?_
                refine lv_iload_n hx hb dX9_copy_96 rfl (lv_at hl 3 rfl) ?_
                refine lv_iload hx hb dX9_copy_97 (lv_at hl 4 rfl) ?_
                refine lv_iload hx hb dX9_copy_99 (lv_at hl 5 rfl) ?_
                obtain ⟨t24, e25, h⟩ := bd h
                refine x_gov (x_rv (rest := []) hC hW (ctX1_move e25) (cwV_g hC.2.2.2.2 ml_X9_141 mi_X6_move md_X6_move ⟨(Nat.le_trans (Nat.le_of_ble_eq_true rfl) hF), (Nat.le_trans (Nat.le_of_ble_eq_true rfl) hL)⟩) (rcX1 hW) rfl hl.1 rfl (Nat.le_of_ble_eq_true rfl) dX9_copy_101) hW (fun H locs hW => ?_)
                refine lv_iconst (v := 1) hx hb dX9_copy_104 (by decide) ?_
                cases h
                exact kr _ _ _ _ dX9_copy_105 hW
              · have h := it_p q23 h
                refine lv_aload_n hx hb dX9_copy_84 rfl (lv_at hl 0 rfl) ?_
                refine lv_iconst (v := 2) hx hb dX9_copy_85 (by decide) ?_
                obtain ⟨t26, e27, h⟩ := bd h
                refine x_goi (x_rv (rest := []) hC hW (ctX0_found e27) (cwV_g hC.2.2.2.2 ml_X9_109 mi_X9_found md_X9_found ⟨(Nat.le_trans (Nat.le_of_ble_eq_true rfl) hF), (Nat.le_trans (Nat.le_of_ble_eq_true rfl) hL)⟩) (rcX0 hW) rfl hl.1 rfl (Nat.le_of_ble_eq_true rfl) dX9_copy_86) hW (fun H locs hW => ?_)
                cases h
                exact kr _ _ _ _ dX9_copy_89 hW
          · have h := it_p q15 h
            refine lv_aload_n hx hb dX9_copy_49 rfl (lv_at hl 0 rfl) ?_
            refine lv_iconst (v := 1) hx hb dX9_copy_50 (by decide) ?_
            obtain ⟨t28, e29, h⟩ := bd h
            refine x_goi (x_rv (rest := []) hC hW (ctX0_found e29) (cwV_g hC.2.2.2.2 ml_X9_109 mi_X9_found md_X9_found ⟨(Nat.le_trans (Nat.le_of_ble_eq_true rfl) hF), (Nat.le_trans (Nat.le_of_ble_eq_true rfl) hL)⟩) (rcX0 hW) rfl hl.1 rfl (Nat.le_of_ble_eq_true rfl) dX9_copy_51) hW (fun H locs hW => ?_)
            cases h
            exact kr _ _ _ _ dX9_copy_54 hW
      · have h := it_n q7 h
        refine lv_aload_n hx hb dX9_copy_21 rfl (lv_at hl 0 rfl) ?_
        refine lv_iconst (v := 5) hx hb dX9_copy_22 (by decide) ?_
        obtain ⟨t30, e31, h⟩ := bd h
        refine x_goi (x_rv (rest := []) hC hW (ctX0_found e31) (cwV_g hC.2.2.2.2 ml_X9_109 mi_X9_found md_X9_found ⟨(Nat.le_trans (Nat.le_of_ble_eq_true rfl) hF), (Nat.le_trans (Nat.le_of_ble_eq_true rfl) hL)⟩) (rcX0 hW) rfl hl.1 rfl (Nat.le_of_ble_eq_true rfl) dX9_copy_23) hW (fun H locs hW => ?_)
        cases h
        exact kr _ _ _ _ dX9_copy_26 hW
    · have h := it_p q6 h
      refine lv_iconst (v := (-1)) hx hb dX9_copy_14 (by decide) ?_
      cases h
      exact kr _ _ _ _ dX9_copy_15 hW
theorem ctX0_copy {S : St} {x1 : Int32} {x2 : Int32} {x3 : Int32} {x4 : Int32} {x5 : Int32}  {v : Int32} {S' : St} (h : fX0_copy S x1 x2 x3 x4 x5 = some (v, S')) : Met l yX9_copy (wm yX9_copy cX9_copy 6 (some .int)) (rmx 2 89) (pcm LX G S [.ref (ad G 0), .int x1, .int x2, .int x3, .int x4, .int x5]) (qcI LX G S' v) 0 0 G.2.2.2 :=
  x_enter (own := RX9) rfl rfl (Nat.le_of_ble_eq_true rfl) (fun p e s m below meth c ls hC hr hk hW hl => wX0_copy hC (Nat.le_refl _) (Nat.le_refl _)  h (fun H locs ls pc hd hW => x_reti hC hr hk hW hd) _ _ _ hW hl)
def fX1_addUp_L5 (N : Nat) (S : St) (x1 : Int32) : Nat → Int64 → Int32 → Option (Int64)
  | 0, _, _ => none
  | n + 1, l2, x4 =>
    gd (inb x1 6) <|
    if (S.1 9 (Int32.toNatClampNeg x1)) ≤ x4 then
      some l2
    else
      gd (inb x1 6) <|
      gd (inb x4 40) <|
      nx (l2 + (Int32.toInt64 (S.1 (3 + Int32.toNatClampNeg x1) (Int32.toNatClampNeg x4)))) fun y5 =>
      fX1_addUp_L5 N S x1 n y5 (x4 + 1)
set_option maxHeartbeats 4000000 in
set_option maxRecDepth 100000 in
theorem wX1_addUp_L5 {N : Nat} {S : St} {x1 : Int32} (hC : CallFix p m c cX6_addUp 5 s args lw_g RX6) (hF : 0 ≤ R.frames) (hL : 0 ≤ R.locals)  {t : Int64} (kx : ∀ (H : Heap) (locs : List Loc) (ls : Array Slot), wg LX G S s H locs → lv_has ls 5 [(2, .long t)] → W p l e R s m args below meth c H locs 0 0 Q (F0 m 35 ls [])) : ∀ (n : Nat) (l2 : Int64) (x4 : Int32), fX1_addUp_L5 N S x1 n l2 x4 = some t → ∀ (H : Heap) (locs : List Loc) (ls : Array Slot), wg LX G S s H locs → lv_has ls 5 [(0, .ref (ad G 1)), (1, .int x1), (2, .long l2), (4, .int x4)] → W p l e R s m args below meth c H locs 0 0 Q (F0 m 5 ls []) := by
  have hx := hC.1
  have hb := hC.2.1
  intro n
  induction n with
  | zero =>
    intro _ _ h
    cases h
  | succ n ih =>
    intro l2 x4 h H locs ls hW hl
    rw [fX1_addUp_L5] at h
    refine lv_iload hx hb dX6_addUp_5 (lv_at hl 3 rfl) ?_
    refine lv_aload_n hx hb dX6_addUp_7 rfl (lv_at hl 0 rfl) ?_
    refine gX1_1 hC hW dX6_addUp_8 ?_
    refine lv_iload_n hx hb dX6_addUp_11 rfl (lv_at hl 1 rfl) ?_
    obtain ⟨g1, h⟩ := gd_some h
    refine x_iald hC hW aX9 g1 dX6_addUp_12 ?_
    refine lv_icmp_ge (tgt := 35) hx hb dX6_addUp_13 (by decide) (fun q2 => ?_) (fun q2 => ?_)
    · have h := it_p q2 h
      cases h
      exact kx _ _ _ hW (lv_sub hl [2] rfl)
    · have h := it_n q2 h
      refine lv_lload_n hx hb dX6_addUp_16 rfl (lv_at hl 2 rfl) ?_
      refine lv_aload_n hx hb dX6_addUp_17 rfl (lv_at hl 0 rfl) ?_
      refine gX1_0 hC hW dX6_addUp_18 ?_
      refine lv_iload_n hx hb dX6_addUp_21 rfl (lv_at hl 1 rfl) ?_
      obtain ⟨g3, h⟩ := gd_some h
      refine x_aald hC hW oX2 g3 dX6_addUp_22 ?_
      refine lv_iload hx hb dX6_addUp_23 (lv_at hl 3 rfl) ?_
      obtain ⟨g4, h⟩ := gd_some h
      refine x_iald hC hW (aX_r (inb_lt g3)) g4 dX6_addUp_25 ?_
      refine lv_i2l (v := Int32.toInt64 (S.1 (3 + Int32.toNatClampNeg x1) (Int32.toNatClampNeg x4))) hx hb dX6_addUp_26 rfl ?_
      refine lv_ladd hx hb dX6_addUp_27 ?_
      obtain ⟨y5, e6, h⟩ := nx_some h
      refine x_topl e6 ?_
      refine lv_lstore_n (lv' := [(2, .long y5), (0, .ref (ad G 1)), (1, .int x1), (4, .int x4)]) hx hb dX6_addUp_28 rfl hl (by decide) rfl (fun ls hl => ?_)
      refine lv_iinc (v := x4 + 1) (lv' := [(4, .int (x4 + 1)), (2, .long y5), (0, .ref (ad G 1)), (1, .int x1)]) (k := 3) hx hb dX6_addUp_29 hl rfl rfl (by decide) rfl (fun ls hl => ?_)
      refine lv_goto (tgt := 5) hx hb dX6_addUp_32 (by decide) ?_
      exact ih _ _ h _ _ _ hW (lv_sub hl [2, 3, 1, 0] rfl)
def fX1_addUp (N : Nat) (S : St) (x1 : Int32) : Option (Int64) :=
  Option.bind (fX1_addUp_L5 N S x1 N 0 0) fun t7 =>
  some t7
set_option maxHeartbeats 4000000 in
set_option maxRecDepth 100000 in
theorem wX1_addUp {N : Nat} {S : St} {x1 : Int32} (hC : CallFix p m c cX6_addUp 5 s args lw_g RX6) (hF : 0 ≤ R.frames) (hL : 0 ≤ R.locals)  {v : Int64} (h : fX1_addUp N S x1 = some v) (kr : ∀ (H : Heap) (locs : List Loc) (ls : Array Slot) (pc : Nat), decode cX6_addUp pc = .ok (.lreturn, 1) → wg LX G S s H locs → W p l e R s m args below meth c H locs 0 0 Q (F0 m pc ls [.long v])) : ∀ (H : Heap) (locs : List Loc) (ls : Array Slot), wg LX G S s H locs → lv_has ls 5 [(0, .ref (ad G 1)), (1, .int x1)] → W p l e R s m args below meth c H locs 0 0 Q (F0 m 0 ls []) := by
  have hx := hC.1
  have hb := hC.2.1
  intro H locs ls hW hl
  unfold fX1_addUp at h
  refine lv_lconst (v := 0) hx hb dX6_addUp_0 rfl ?_
  refine lv_lstore_n (lv' := [(2, .long 0), (0, .ref (ad G 1)), (1, .int x1)]) hx hb dX6_addUp_1 rfl hl (by decide) rfl (fun ls hl => ?_)
  refine lv_iconst (v := 0) hx hb dX6_addUp_2 (by decide) ?_
  refine lv_istore (lv' := [(4, .int 0), (2, .long 0), (0, .ref (ad G 1)), (1, .int x1)]) hx hb dX6_addUp_3 hl (by decide) rfl (fun ls hl => ?_)
  obtain ⟨t7, e8, h⟩ := bd h
  refine wX1_addUp_L5 hC hF hL  (fun H locs ls hW hl => ?_) _ _ _ e8 _ _ _ hW (lv_sub hl [2, 3, 1, 0] rfl)
  refine lv_lload_n hx hb dX6_addUp_35 rfl (lv_at hl 0 rfl) ?_
  cases h
  exact kr _ _ _ _ dX6_addUp_36 hW
theorem ctX1_addUp {N : Nat} {S : St} {x1 : Int32}  {v : Int64} (h : fX1_addUp N S x1 = some v) : Met l yX6_addUp (wm yX6_addUp cX6_addUp 5 (some .long)) (rmx 0 0) (pcm LX G S [.ref (ad G 1), .int x1]) (qcL LX G S v) 0 0 G.2.2.2 :=
  x_enter (own := RX6) rfl rfl (Nat.le_of_ble_eq_true rfl) (fun p e s m below meth c ls hC hr hk hW hl => wX1_addUp hC (Nat.le_refl _) (Nat.le_refl _)  h (fun H locs ls pc hd hW => x_retl hC hr hk hW hd) _ _ _ hW hl)
def fX0_mean (N : Nat) (S : St) (x1 : Int32) : Option (Int32 × St) :=
  Option.bind (fX0_refuseRow S x1) fun t1 =>
  if t1.1 = 0 then
    Option.bind (fX1_sizeOf t1.2 x1) fun t4 =>
    if 0 < t4 then
      Option.bind (fX1_addUp N t1.2 x1) fun t7 =>
      gd (!decide ((Int32.toInt64 t4) = 0)) <|
      nx (p1 t1.2 0 12 (Int64.toInt32 (t7 / (Int32.toInt64 t4)))) fun s10 =>
      some (1, s10)
    else
      Option.bind (fX0_found t1.2 4) fun t12 =>
      some (t12.1, t12.2)
  else
    some (t1.1, t1.2)
set_option maxHeartbeats 4000000 in
set_option maxRecDepth 100000 in
theorem wX0_mean {N : Nat} {S : St} {x1 : Int32} (hC : CallFix p m c cX9_mean 4 s args lw_g RX9) (hF : 2 ≤ R.frames) (hL : 42 ≤ R.locals)  {v : Int32} {S' : St} (h : fX0_mean N S x1 = some (v, S')) (kr : ∀ (H : Heap) (locs : List Loc) (ls : Array Slot) (pc : Nat), decode cX9_mean pc = .ok (.ireturn, 1) → wg LX G (S') s H locs → W p l e R s m args below meth c H locs 0 0 Q (F0 m pc ls [.int v])) : ∀ (H : Heap) (locs : List Loc) (ls : Array Slot), wg LX G S s H locs → lv_has ls 4 [(0, .ref (ad G 0)), (1, .int x1)] → W p l e R s m args below meth c H locs 0 0 Q (F0 m 0 ls []) := by
  have hx := hC.1
  have hb := hC.2.1
  intro H locs ls hW hl
  unfold fX0_mean at h
  refine lv_aload_n hx hb dX9_mean_0 rfl (lv_at hl 0 rfl) ?_
  refine lv_iload_n hx hb dX9_mean_1 rfl (lv_at hl 1 rfl) ?_
  obtain ⟨t1, e2, h⟩ := bd h
  refine x_goi (x_rv (rest := []) hC hW (ctX0_refuseRow e2) (cwV_g hC.2.2.2.2 ml_X9_127 mi_X9_refuseRow md_X9_refuseRow ⟨(Nat.le_trans (Nat.le_of_ble_eq_true rfl) hF), (Nat.le_trans (Nat.le_of_ble_eq_true rfl) hL)⟩) (rcX0 hW) rfl hl.1 rfl (Nat.le_of_ble_eq_true rfl) dX9_mean_2) hW (fun H locs hW => ?_)
  refine lv_istore_n (lv' := [(2, .int t1.1), (0, .ref (ad G 0)), (1, .int x1)]) hx hb dX9_mean_5 rfl hl (by decide) rfl (fun ls hl => ?_)
  refine lv_iload_n hx hb dX9_mean_6 rfl (lv_at hl 0 rfl) ?_
  refine lv_if_eq (tgt := 12) hx hb dX9_mean_7 (by decide) (fun q3 => ?_) (fun q3 => ?_)
  · have h := it_p q3 h
    refine lv_aload_n hx hb dX9_mean_12 rfl (lv_at hl 1 rfl) ?_
    refine gX0_0 hC hW dX9_mean_13 ?_
    refine lv_iload_n hx hb dX9_mean_16 rfl (lv_at hl 2 rfl) ?_
    obtain ⟨t4, e5, h⟩ := bd h
    refine x_goi (x_rv (rest := []) hC hW (ctX1_sizeOf e5) (cwV_g hC.2.2.2.2 ml_X9_145 mi_X6_sizeOf md_X6_sizeOf ⟨(Nat.le_trans (Nat.le_of_ble_eq_true rfl) hF), (Nat.le_trans (Nat.le_of_ble_eq_true rfl) hL)⟩) (rcX1 hW) rfl hl.1 rfl (Nat.le_of_ble_eq_true rfl) dX9_mean_17) hW (fun H locs hW => ?_)
    refine lv_istore_n (lv' := [(3, .int t4), (2, .int t1.1), (0, .ref (ad G 0)), (1, .int x1)]) hx hb dX9_mean_20 rfl hl (by decide) rfl (fun ls hl => ?_)
    refine lv_iload_n hx hb dX9_mean_21 rfl (lv_at hl 0 rfl) ?_
    refine lv_if_gt (tgt := 31) hx hb dX9_mean_22 (by decide) (fun q6 => ?_) (fun q6 => ?_)
    · have h := it_p q6 h
      refine lv_aload_n hx hb dX9_mean_31 rfl (lv_at hl 2 rfl) ?_
      refine lv_aload_n hx hb dX9_mean_32 rfl (lv_at hl 2 rfl) ?_
      refine gX0_0 hC hW dX9_mean_33 ?_
      refine lv_iload_n hx hb dX9_mean_36 rfl (lv_at hl 3 rfl) ?_
      obtain ⟨t7, e8, h⟩ := bd h
      refine x_gol (x_rv (rest := [.ref (ad G 0)]) hC hW (ctX1_addUp e8) (cwV_g hC.2.2.2.2 ml_X9_148 mi_X6_addUp md_X6_addUp ⟨(Nat.le_trans (Nat.le_of_ble_eq_true rfl) hF), (Nat.le_trans (Nat.le_of_ble_eq_true rfl) hL)⟩) (rcX1 hW) rfl hl.1 rfl (Nat.le_of_ble_eq_true rfl) dX9_mean_37) hW (fun H locs hW => ?_)
      refine lv_iload_n hx hb dX9_mean_40 rfl (lv_at hl 0 rfl) ?_
      refine lv_i2l (v := Int32.toInt64 t4) hx hb dX9_mean_41 rfl ?_
      obtain ⟨g9, h⟩ := gd_some h
      refine lv_ldiv hx hb dX9_mean_42 (nd0L g9) ?_
      refine lv_l2i (v := Int64.toInt32 (t7 / (Int32.toInt64 t4))) hx hb dX9_mean_43 rfl ?_
      refine pX0_12 hC hW dX9_mean_44 (fun H locs hW => ?_)
      obtain ⟨s10, e11, h⟩ := nx_some h
      rw [← e11] at hW
      refine lv_iconst (v := 1) hx hb dX9_mean_47 (by decide) ?_
      cases h
      exact kr _ _ _ _ dX9_mean_48 hW
    · have h := it_n q6 h
      refine lv_aload_n hx hb dX9_mean_25 rfl (lv_at hl 2 rfl) ?_
      refine lv_iconst (v := 4) hx hb dX9_mean_26 (by decide) ?_
      obtain ⟨t12, e13, h⟩ := bd h
      refine x_goi (x_rv (rest := []) hC hW (ctX0_found e13) (cwV_g hC.2.2.2.2 ml_X9_109 mi_X9_found md_X9_found ⟨(Nat.le_trans (Nat.le_of_ble_eq_true rfl) hF), (Nat.le_trans (Nat.le_of_ble_eq_true rfl) hL)⟩) (rcX0 hW) rfl hl.1 rfl (Nat.le_of_ble_eq_true rfl) dX9_mean_27) hW (fun H locs hW => ?_)
      cases h
      exact kr _ _ _ _ dX9_mean_30 hW
  · have h := it_n q3 h
    refine lv_iload_n hx hb dX9_mean_10 rfl (lv_at hl 0 rfl) ?_
    cases h
    exact kr _ _ _ _ dX9_mean_11 hW
theorem ctX0_mean {N : Nat} {S : St} {x1 : Int32}  {v : Int32} {S' : St} (h : fX0_mean N S x1 = some (v, S')) : Met l yX9_mean (wm yX9_mean cX9_mean 4 (some .int)) (rmx 2 42) (pcm LX G S [.ref (ad G 0), .int x1]) (qcI LX G S' v) 0 0 G.2.2.2 :=
  x_enter (own := RX9) rfl rfl (Nat.le_of_ble_eq_true rfl) (fun p e s m below meth c ls hC hr hk hW hl => wX0_mean hC (Nat.le_refl _) (Nat.le_refl _)  h (fun H locs ls pc hd hW => x_reti hC hr hk hW hd) _ _ _ hW hl)
def fXs_isText (S : St) (x0 : Int32) : Option (Int32) :=
  Option.bind (α := Int32) (
    if x0 < 0 then
      some 0
    else
      if 4 ≤ x0 then
        some 0
      else
        some 1
  ) fun t2 =>
  gd (isb t2) <|
  some t2
set_option maxHeartbeats 4000000 in
set_option maxRecDepth 100000 in
theorem wXs_isText {S : St} {x0 : Int32} (hC : CallFix p m c cX9_isText 1 s args lw_g RX9) (hF : 0 ≤ R.frames) (hL : 0 ≤ R.locals)  {v : Int32} (h : fXs_isText S x0 = some v) (kr : ∀ (H : Heap) (locs : List Loc) (ls : Array Slot) (pc : Nat), isb v = true → decode cX9_isText pc = .ok (.ireturn, 1) → wg LX G S s H locs → W p l e R s m args below meth c H locs 0 0 Q (F0 m pc ls [.int v])) : ∀ (H : Heap) (locs : List Loc) (ls : Array Slot), wg LX G S s H locs → lv_has ls 1 [(0, .int x0)] → W p l e R s m args below meth c H locs 0 0 Q (F0 m 0 ls []) := by
  have hx := hC.1
  have hb := hC.2.1
  intro H locs ls hW hl
  unfold fXs_isText at h
  refine lv_iload_n hx hb dX9_isText_0 rfl (lv_at hl 0 rfl) ?_
  obtain ⟨t2, e3, h⟩ := bd h
  have K1 : ∀ (H : Heap) (locs : List Loc) (ls : Array Slot), wg LX G S s H locs → lv_has ls 1 [] → W p l e R s m args below meth c H locs 0 0 Q (F0 m 14 ls [.int t2]) := by
    intro H locs ls hW hl
    obtain ⟨g6, h⟩ := gd_some h
    cases h
    exact kr _ _ _ _ g6 dX9_isText_14 hW
  clear h
  have h := e3
  clear e3
  refine lv_if_lt (tgt := 13) hx hb dX9_isText_1 (by decide) (fun q4 => ?_) (fun q4 => ?_)
  · have h := it_p q4 h
    refine lv_iconst (v := 0) hx hb dX9_isText_13 (by decide) ?_
    cases h
    exact K1 _ _ _ hW (lv_sub hl [] rfl)
  · have h := it_n q4 h
    refine lv_iload_n hx hb dX9_isText_4 rfl (lv_at hl 0 rfl) ?_
    refine lv_iconst (v := 4) hx hb dX9_isText_5 (by decide) ?_
    refine lv_icmp_ge (tgt := 13) hx hb dX9_isText_6 (by decide) (fun q5 => ?_) (fun q5 => ?_)
    · have h := it_p q5 h
      refine lv_iconst (v := 0) hx hb dX9_isText_13 (by decide) ?_
      cases h
      exact K1 _ _ _ hW (lv_sub hl [] rfl)
    · have h := it_n q5 h
      refine lv_iconst (v := 1) hx hb dX9_isText_9 (by decide) ?_
      refine lv_goto (tgt := 14) hx hb dX9_isText_10 (by decide) ?_
      cases h
      exact K1 _ _ _ hW (lv_sub hl [] rfl)
theorem ctXs_isText {S : St} {x0 : Int32}  {v : Int32} (h : fXs_isText S x0 = some v) : Met l yX9_isText (wm yX9_isText cX9_isText 1 (some .boolean)) (rmx 0 0) (pcm LX G S [.int x0]) (qcI LX G S v) 0 0 G.2.2.2 :=
  x_enter (own := RX9) rfl rfl (Nat.le_of_ble_eq_true rfl) (fun p e s m below meth c ls hC hr hk hW hl => wXs_isText hC (Nat.le_refl _) (Nat.le_refl _)  h (fun H locs ls pc hz hd hW => x_retz hC hr hk hW hz hd) _ _ _ hW hl)
def fX10_make_L9 (N : Nat) (x1 : Int32) (x2 : Int32) : Nat → St → Int32 → Option (St)
  | 0, _, _ => none
  | n + 1, S, x3 =>
    if x2 ≤ x3 then
      some S
    else
      gd (inb x1 4) <|
      gd (inb x3 60) <|
      nx (p1 S (12 + Int32.toNatClampNeg x1) (Int32.toNatClampNeg x3) (S.1 10 2)) fun s7 =>
      fX10_make_L9 N x1 x2 n s7 (x3 + 1)
set_option maxHeartbeats 4000000 in
set_option maxRecDepth 100000 in
theorem wX10_make_L9 {N : Nat} {x1 : Int32} {x2 : Int32} (hC : CallFix p m c cX6_make 4 s args lw_g RX6) (hF : 0 ≤ R.frames) (hL : 0 ≤ R.locals)  {t : St} (kx : ∀ (H : Heap) (locs : List Loc) (ls : Array Slot), wg LX G t s H locs → lv_has ls 4 [] → W p l e R s m args below meth c H locs 0 0 Q (F0 m 32 ls [])) : ∀ (n : Nat) (S : St) (x3 : Int32), fX10_make_L9 N x1 x2 n S x3 = some t → ∀ (H : Heap) (locs : List Loc) (ls : Array Slot), wg LX G S s H locs → lv_has ls 4 [(0, .ref (ad G 10)), (1, .int x1), (2, .int x2), (3, .int x3)] → W p l e R s m args below meth c H locs 0 0 Q (F0 m 9 ls []) := by
  have hx := hC.1
  have hb := hC.2.1
  intro n
  induction n with
  | zero =>
    intro _ _ h
    cases h
  | succ n ih =>
    intro S x3 h H locs ls hW hl
    rw [fX10_make_L9] at h
    refine lv_iload_n hx hb dX6_make_9 rfl (lv_at hl 3 rfl) ?_
    refine lv_iload_n hx hb dX6_make_10 rfl (lv_at hl 2 rfl) ?_
    refine lv_icmp_ge (tgt := 32) hx hb dX6_make_11 (by decide) (fun q4 => ?_) (fun q4 => ?_)
    · have h := it_p q4 h
      cases h
      exact kx _ _ _ hW (lv_sub hl [] rfl)
    · have h := it_n q4 h
      refine lv_aload_n hx hb dX6_make_14 rfl (lv_at hl 0 rfl) ?_
      refine gX10_0 hC hW dX6_make_15 ?_
      refine lv_iload_n hx hb dX6_make_18 rfl (lv_at hl 1 rfl) ?_
      obtain ⟨g5, h⟩ := gd_some h
      refine x_aald hC hW oX11 g5 dX6_make_19 ?_
      refine lv_iload_n hx hb dX6_make_20 rfl (lv_at hl 3 rfl) ?_
      refine lv_aload_n hx hb dX6_make_21 rfl (lv_at hl 0 rfl) ?_
      refine gX10_2 hC hW dX6_make_22 ?_
      obtain ⟨g6, h⟩ := gd_some h
      refine x_iast hC hW (aX_t (inb_lt g5)) g6 dX6_make_25 (fun H locs hW => ?_)
      obtain ⟨s7, e8, h⟩ := nx_some h
      rw [← e8] at hW
      refine lv_iinc (v := x3 + 1) (lv' := [(3, .int (x3 + 1)), (0, .ref (ad G 10)), (1, .int x1), (2, .int x2)]) (k := 3) hx hb dX6_make_26 hl rfl rfl (by decide) rfl (fun ls hl => ?_)
      refine lv_goto (tgt := 9) hx hb dX6_make_29 (by decide) ?_
      exact ih _ _ h _ _ _ hW (lv_sub hl [1, 2, 3, 0] rfl)
def fX10_make (N : Nat) (S : St) (x1 : Int32) (x2 : Int32) : Option (St) :=
  gd (inb x1 4) <|
  nx (p1 S 16 (Int32.toNatClampNeg x1) x2) fun s2 =>
  Option.bind (fX10_make_L9 N x1 x2 N s2 0) fun t9 =>
  some t9
set_option maxHeartbeats 4000000 in
set_option maxRecDepth 100000 in
theorem wX10_make {N : Nat} {S : St} {x1 : Int32} {x2 : Int32} (hC : CallFix p m c cX6_make 4 s args lw_g RX6) (hF : 0 ≤ R.frames) (hL : 0 ≤ R.locals)  {S' : St} (h : fX10_make N S x1 x2 = some (S')) (kr : ∀ (H : Heap) (locs : List Loc) (ls : Array Slot) (pc : Nat), decode cX6_make pc = .ok (.return_, 1) → wg LX G (S') s H locs → W p l e R s m args below meth c H locs 0 0 Q (F0 m pc ls [])) : ∀ (H : Heap) (locs : List Loc) (ls : Array Slot), wg LX G S s H locs → lv_has ls 4 [(0, .ref (ad G 10)), (1, .int x1), (2, .int x2)] → W p l e R s m args below meth c H locs 0 0 Q (F0 m 0 ls []) := by
  have hx := hC.1
  have hb := hC.2.1
  intro H locs ls hW hl
  unfold fX10_make at h
  refine lv_aload_n hx hb dX6_make_0 rfl (lv_at hl 0 rfl) ?_
  refine gX10_1 hC hW dX6_make_1 ?_
  refine lv_iload_n hx hb dX6_make_4 rfl (lv_at hl 1 rfl) ?_
  refine lv_iload_n hx hb dX6_make_5 rfl (lv_at hl 2 rfl) ?_
  obtain ⟨g1, h⟩ := gd_some h
  refine x_iast hC hW aX16 g1 dX6_make_6 (fun H locs hW => ?_)
  obtain ⟨s2, e3, h⟩ := nx_some h
  rw [← e3] at hW
  refine lv_iconst (v := 0) hx hb dX6_make_7 (by decide) ?_
  refine lv_istore_n (lv' := [(3, .int 0), (0, .ref (ad G 10)), (1, .int x1), (2, .int x2)]) hx hb dX6_make_8 rfl hl (by decide) rfl (fun ls hl => ?_)
  obtain ⟨t9, e10, h⟩ := bd h
  refine wX10_make_L9 hC hF hL  (fun H locs ls hW hl => ?_) _ _ _ e10 _ _ _ hW (lv_sub hl [1, 2, 3, 0] rfl)
  cases h
  exact kr _ _ _ _ dX6_make_32 hW
theorem ctX10_make {N : Nat} {S : St} {x1 : Int32} {x2 : Int32}  {S' : St} (h : fX10_make N S x1 x2 = some (S')) : Met l yX6_make (wm yX6_make cX6_make 4 none) (rmx 0 0) (pcm LX G S [.ref (ad G 10), .int x1, .int x2]) (qcV LX G S') 0 0 G.2.2.2 :=
  x_enter (own := RX6) rfl rfl (Nat.le_of_ble_eq_true rfl) (fun p e s m below meth c ls hC hr hk hW hl => wX10_make hC (Nat.le_refl _) (Nat.le_refl _)  h (fun H locs ls pc hd hW => x_retv hC hr hk hW hd) _ _ _ hW hl)
def fX0_text (N : Nat) (S : St) (x1 : Int32) (x2 : Int32) : Option (Int32 × St) :=
  Option.bind (fXs_isText S x1) fun t1 =>
  if t1 = 0 then
    some ((-1), S)
  else
    if x2 ≤ 60 then
      if 0 ≤ x2 then
        Option.bind (fX10_make N S x1 x2) fun t6 =>
        some (x2, t6)
      else
        Option.bind (fX0_found S 5) fun t8 =>
        some (t8.1, t8.2)
    else
      some ((-1), S)
set_option maxHeartbeats 4000000 in
set_option maxRecDepth 100000 in
theorem wX0_text {N : Nat} {S : St} {x1 : Int32} {x2 : Int32} (hC : CallFix p m c cX9_text 3 s args lw_g RX9) (hF : 1 ≤ R.frames) (hL : 23 ≤ R.locals)  {v : Int32} {S' : St} (h : fX0_text N S x1 x2 = some (v, S')) (kr : ∀ (H : Heap) (locs : List Loc) (ls : Array Slot) (pc : Nat), decode cX9_text pc = .ok (.ireturn, 1) → wg LX G (S') s H locs → W p l e R s m args below meth c H locs 0 0 Q (F0 m pc ls [.int v])) : ∀ (H : Heap) (locs : List Loc) (ls : Array Slot), wg LX G S s H locs → lv_has ls 3 [(0, .ref (ad G 0)), (1, .int x1), (2, .int x2)] → W p l e R s m args below meth c H locs 0 0 Q (F0 m 0 ls []) := by
  have hx := hC.1
  have hb := hC.2.1
  intro H locs ls hW hl
  unfold fX0_text at h
  refine lv_iload_n hx hb dX9_text_0 rfl (lv_at hl 1 rfl) ?_
  obtain ⟨t1, e2, h⟩ := bd h
  refine x_goi (x_rs (rest := []) hC hW (ctXs_isText e2) (cwS_g hC.2.2.2.2 ml_X9_152 ms_X9_isText md_X9_isText ⟨(Nat.le_trans (Nat.le_of_ble_eq_true rfl) hF), (Nat.le_trans (Nat.le_of_ble_eq_true rfl) hL)⟩) rfl hl.1 rfl (Nat.le_of_ble_eq_true rfl) dX9_text_1) hW (fun H locs hW => ?_)
  refine lv_if_eq (tgt := 13) hx hb dX9_text_4 (by decide) (fun q3 => ?_) (fun q3 => ?_)
  · have h := it_p q3 h
    refine lv_iconst (v := (-1)) hx hb dX9_text_13 (by decide) ?_
    cases h
    exact kr _ _ _ _ dX9_text_14 hW
  · have h := it_n q3 h
    refine lv_iload_n hx hb dX9_text_7 rfl (lv_at hl 2 rfl) ?_
    refine lv_bipush (v := 60) hx hb dX9_text_8 (by decide) ?_
    refine lv_icmp_le (tgt := 15) hx hb dX9_text_10 (by decide) (fun q4 => ?_) (fun q4 => ?_)
    · have h := it_p q4 h
      refine lv_iload_n hx hb dX9_text_15 rfl (lv_at hl 2 rfl) ?_
      refine lv_if_ge (tgt := 25) hx hb dX9_text_16 (by decide) (fun q5 => ?_) (fun q5 => ?_)
      · have h := it_p q5 h
        refine lv_aload_n hx hb dX9_text_25 rfl (lv_at hl 0 rfl) ?_
        refine gX0_1 hC hW dX9_text_26 ?_
        refine lv_iload_n hx hb dX9_text_29 rfl (lv_at hl 1 rfl) ?_
        refine lv_iload_n hx hb dX9_text_30 rfl (lv_at hl 2 rfl) ?_
        obtain ⟨t6, e7, h⟩ := bd h
        refine x_gov (x_rv (rest := []) hC hW (ctX10_make e7) (cwV_g hC.2.2.2.2 ml_X9_113 mi_X6_make md_X6_make ⟨(Nat.le_trans (Nat.le_of_ble_eq_true rfl) hF), (Nat.le_trans (Nat.le_of_ble_eq_true rfl) hL)⟩) (rcX10 hW) rfl hl.1 rfl (Nat.le_of_ble_eq_true rfl) dX9_text_31) hW (fun H locs hW => ?_)
        refine lv_iload_n hx hb dX9_text_34 rfl (lv_at hl 2 rfl) ?_
        cases h
        exact kr _ _ _ _ dX9_text_35 hW
      · have h := it_n q5 h
        refine lv_aload_n hx hb dX9_text_19 rfl (lv_at hl 0 rfl) ?_
        refine lv_iconst (v := 5) hx hb dX9_text_20 (by decide) ?_
        obtain ⟨t8, e9, h⟩ := bd h
        refine x_goi (x_rv (rest := []) hC hW (ctX0_found e9) (cwV_g hC.2.2.2.2 ml_X9_109 mi_X9_found md_X9_found ⟨(Nat.le_trans (Nat.le_of_ble_eq_true rfl) hF), (Nat.le_trans (Nat.le_of_ble_eq_true rfl) hL)⟩) (rcX0 hW) rfl hl.1 rfl (Nat.le_of_ble_eq_true rfl) dX9_text_21) hW (fun H locs hW => ?_)
        cases h
        exact kr _ _ _ _ dX9_text_24 hW
    · have h := it_n q4 h
      refine lv_iconst (v := (-1)) hx hb dX9_text_13 (by decide) ?_
      cases h
      exact kr _ _ _ _ dX9_text_14 hW
theorem ctX0_text {N : Nat} {S : St} {x1 : Int32} {x2 : Int32}  {v : Int32} {S' : St} (h : fX0_text N S x1 x2 = some (v, S')) : Met l yX9_text (wm yX9_text cX9_text 3 (some .int)) (rmx 1 23) (pcm LX G S [.ref (ad G 0), .int x1, .int x2]) (qcI LX G S' v) 0 0 G.2.2.2 :=
  x_enter (own := RX9) rfl rfl (Nat.le_of_ble_eq_true rfl) (fun p e s m below meth c ls hC hr hk hW hl => wX0_text hC (Nat.le_refl _) (Nat.le_refl _)  h (fun H locs ls pc hd hW => x_reti hC hr hk hW hd) _ _ _ hW hl)
def fX10_isThere (S : St) (x1 : Int32) : Option (Int32) :=
  gd (inb x1 4) <|
  Option.bind (α := Int32) (
    if (S.1 16 (Int32.toNatClampNeg x1)) = (-1) then
      some 0
    else
      some 1
  ) fun t3 =>
  gd (isb t3) <|
  some t3
set_option maxHeartbeats 4000000 in
set_option maxRecDepth 100000 in
theorem wX10_isThere {S : St} {x1 : Int32} (hC : CallFix p m c cX6_isThere 2 s args lw_g RX6) (hF : 0 ≤ R.frames) (hL : 0 ≤ R.locals)  {v : Int32} (h : fX10_isThere S x1 = some v) (kr : ∀ (H : Heap) (locs : List Loc) (ls : Array Slot) (pc : Nat), isb v = true → decode cX6_isThere pc = .ok (.ireturn, 1) → wg LX G S s H locs → W p l e R s m args below meth c H locs 0 0 Q (F0 m pc ls [.int v])) : ∀ (H : Heap) (locs : List Loc) (ls : Array Slot), wg LX G S s H locs → lv_has ls 2 [(0, .ref (ad G 10)), (1, .int x1)] → W p l e R s m args below meth c H locs 0 0 Q (F0 m 0 ls []) := by
  have hx := hC.1
  have hb := hC.2.1
  intro H locs ls hW hl
  unfold fX10_isThere at h
  refine lv_aload_n hx hb dX6_isThere_0 rfl (lv_at hl 0 rfl) ?_
  refine gX10_1 hC hW dX6_isThere_1 ?_
  refine lv_iload_n hx hb dX6_isThere_4 rfl (lv_at hl 1 rfl) ?_
  obtain ⟨g1, h⟩ := gd_some h
  refine x_iald hC hW aX16 g1 dX6_isThere_5 ?_
  refine lv_iconst (v := (-1)) hx hb dX6_isThere_6 (by decide) ?_
  obtain ⟨t3, e4, h⟩ := bd h
  have K2 : ∀ (H : Heap) (locs : List Loc) (ls : Array Slot), wg LX G S s H locs → lv_has ls 2 [] → W p l e R s m args below meth c H locs 0 0 Q (F0 m 15 ls [.int t3]) := by
    intro H locs ls hW hl
    obtain ⟨g6, h⟩ := gd_some h
    cases h
    exact kr _ _ _ _ g6 dX6_isThere_15 hW
  clear h
  have h := e4
  clear e4
  refine lv_icmp_eq (tgt := 14) hx hb dX6_isThere_7 (by decide) (fun q5 => ?_) (fun q5 => ?_)
  · have h := it_p q5 h
    refine lv_iconst (v := 0) hx hb dX6_isThere_14 (by decide) ?_
    cases h
    exact K2 _ _ _ hW (lv_sub hl [] rfl)
  · have h := it_n q5 h
    refine lv_iconst (v := 1) hx hb dX6_isThere_10 (by decide) ?_
    refine lv_goto (tgt := 15) hx hb dX6_isThere_11 (by decide) ?_
    cases h
    exact K2 _ _ _ hW (lv_sub hl [] rfl)
theorem ctX10_isThere {S : St} {x1 : Int32}  {v : Int32} (h : fX10_isThere S x1 = some v) : Met l yX6_isThere (wm yX6_isThere cX6_isThere 2 (some .boolean)) (rmx 0 0) (pcm LX G S [.ref (ad G 10), .int x1]) (qcI LX G S v) 0 0 G.2.2.2 :=
  x_enter (own := RX6) rfl rfl (Nat.le_of_ble_eq_true rfl) (fun p e s m below meth c ls hC hr hk hW hl => wX10_isThere hC (Nat.le_refl _) (Nat.le_refl _)  h (fun H locs ls pc hz hd hW => x_retz hC hr hk hW hz hd) _ _ _ hW hl)
def fX0_refuseText (S : St) (x1 : Int32) : Option (Int32 × St) :=
  Option.bind (fXs_isText S x1) fun t1 =>
  if t1 = 0 then
    some ((-1), S)
  else
    Option.bind (fX10_isThere S x1) fun t4 =>
    Option.bind (α := St × Int32) (
      if t4 = 0 then
        Option.bind (fX0_found S 1) fun t10 =>
        some (t10.2, t10.1)
      else
        some (S, 0)
    ) fun t7 =>
    some (t7.2, t7.1)
set_option maxHeartbeats 4000000 in
set_option maxRecDepth 100000 in
theorem wX0_refuseText {S : St} {x1 : Int32} (hC : CallFix p m c cX9_refuseText 2 s args lw_g RX9) (hF : 1 ≤ R.frames) (hL : 21 ≤ R.locals)  {v : Int32} {S' : St} (h : fX0_refuseText S x1 = some (v, S')) (kr : ∀ (H : Heap) (locs : List Loc) (ls : Array Slot) (pc : Nat), decode cX9_refuseText pc = .ok (.ireturn, 1) → wg LX G (S') s H locs → W p l e R s m args below meth c H locs 0 0 Q (F0 m pc ls [.int v])) : ∀ (H : Heap) (locs : List Loc) (ls : Array Slot), wg LX G S s H locs → lv_has ls 2 [(0, .ref (ad G 0)), (1, .int x1)] → W p l e R s m args below meth c H locs 0 0 Q (F0 m 0 ls []) := by
  have hx := hC.1
  have hb := hC.2.1
  intro H locs ls hW hl
  unfold fX0_refuseText at h
  refine lv_iload_n hx hb dX9_refuseText_0 rfl (lv_at hl 1 rfl) ?_
  obtain ⟨t1, e2, h⟩ := bd h
  refine x_goi (x_rs (rest := []) hC hW (ctXs_isText e2) (cwS_g hC.2.2.2.2 ml_X9_152 ms_X9_isText md_X9_isText ⟨(Nat.le_trans (Nat.le_of_ble_eq_true rfl) hF), (Nat.le_trans (Nat.le_of_ble_eq_true rfl) hL)⟩) rfl hl.1 rfl (Nat.le_of_ble_eq_true rfl) dX9_refuseText_1) hW (fun H locs hW => ?_)
  refine lv_if_ne (tgt := 9) hx hb dX9_refuseText_4 (by decide) (fun q3 => ?_) (fun q3 => ?_)
  · have h := it_n q3 h
    refine lv_aload_n hx hb dX9_refuseText_9 rfl (lv_at hl 0 rfl) ?_
    refine gX0_1 hC hW dX9_refuseText_10 ?_
    refine lv_iload_n hx hb dX9_refuseText_13 rfl (lv_at hl 1 rfl) ?_
    obtain ⟨t4, e5, h⟩ := bd h
    refine x_goi (x_rv (rest := []) hC hW (ctX10_isThere e5) (cwV_g hC.2.2.2.2 ml_X9_134 mi_X6_isThere md_X6_isThere ⟨(Nat.le_trans (Nat.le_of_ble_eq_true rfl) hF), (Nat.le_trans (Nat.le_of_ble_eq_true rfl) hL)⟩) (rcX10 hW) rfl hl.1 rfl (Nat.le_of_ble_eq_true rfl) dX9_refuseText_14) hW (fun H locs hW => ?_)
    obtain ⟨t7, e8, h⟩ := bd h
    have K6 : ∀ (H : Heap) (locs : List Loc) (ls : Array Slot), wg LX G t7.1 s H locs → lv_has ls 2 [] → W p l e R s m args below meth c H locs 0 0 Q (F0 m 29 ls [.int t7.2]) := by
      intro H locs ls hW hl
      cases h
      exact kr _ _ _ _ dX9_refuseText_29 hW
    clear h
    have h := e8
    clear e8
    refine lv_if_eq (tgt := 24) hx hb dX9_refuseText_17 (by decide) (fun q9 => ?_) (fun q9 => ?_)
    · have h := it_p q9 h
      refine lv_aload_n hx hb dX9_refuseText_24 rfl (lv_at hl 0 rfl) ?_
      refine lv_iconst (v := 1) hx hb dX9_refuseText_25 (by decide) ?_
      obtain ⟨t10, e11, h⟩ := bd h
      refine x_goi (x_rv (rest := []) hC hW (ctX0_found e11) (cwV_g hC.2.2.2.2 ml_X9_109 mi_X9_found md_X9_found ⟨(Nat.le_trans (Nat.le_of_ble_eq_true rfl) hF), (Nat.le_trans (Nat.le_of_ble_eq_true rfl) hL)⟩) (rcX0 hW) rfl hl.1 rfl (Nat.le_of_ble_eq_true rfl) dX9_refuseText_26) hW (fun H locs hW => ?_)
      cases h
      exact K6 _ _ _ hW (lv_sub hl [] rfl)
    · have h := it_n q9 h
      refine lv_iconst (v := 0) hx hb dX9_refuseText_20 (by decide) ?_
      refine lv_goto (tgt := 29) hx hb dX9_refuseText_21 (by decide) ?_
      cases h
      exact K6 _ _ _ hW (lv_sub hl [] rfl)
  · have h := it_p q3 h
    refine lv_iconst (v := (-1)) hx hb dX9_refuseText_7 (by decide) ?_
    cases h
    exact kr _ _ _ _ dX9_refuseText_8 hW
theorem ctX0_refuseText {S : St} {x1 : Int32}  {v : Int32} {S' : St} (h : fX0_refuseText S x1 = some (v, S')) : Met l yX9_refuseText (wm yX9_refuseText cX9_refuseText 2 (some .int)) (rmx 1 21) (pcm LX G S [.ref (ad G 0), .int x1]) (qcI LX G S' v) 0 0 G.2.2.2 :=
  x_enter (own := RX9) rfl rfl (Nat.le_of_ble_eq_true rfl) (fun p e s m below meth c ls hC hr hk hW hl => wX0_refuseText hC (Nat.le_refl _) (Nat.le_refl _)  h (fun H locs ls pc hd hW => x_reti hC hr hk hW hd) _ _ _ hW hl)
def fX10_sizeOf (S : St) (x1 : Int32) : Option (Int32) :=
  gd (inb x1 4) <|
  some (S.1 16 (Int32.toNatClampNeg x1))
set_option maxHeartbeats 4000000 in
set_option maxRecDepth 100000 in
theorem wX10_sizeOf {S : St} {x1 : Int32} (hC : CallFix p m c cX6_sizeOf 2 s args lw_g RX6) (hF : 0 ≤ R.frames) (hL : 0 ≤ R.locals)  {v : Int32} (h : fX10_sizeOf S x1 = some v) (kr : ∀ (H : Heap) (locs : List Loc) (ls : Array Slot) (pc : Nat), decode cX6_sizeOf pc = .ok (.ireturn, 1) → wg LX G S s H locs → W p l e R s m args below meth c H locs 0 0 Q (F0 m pc ls [.int v])) : ∀ (H : Heap) (locs : List Loc) (ls : Array Slot), wg LX G S s H locs → lv_has ls 2 [(0, .ref (ad G 10)), (1, .int x1)] → W p l e R s m args below meth c H locs 0 0 Q (F0 m 0 ls []) := by
  have hx := hC.1
  have hb := hC.2.1
  intro H locs ls hW hl
  unfold fX10_sizeOf at h
  refine lv_aload_n hx hb dX6_sizeOf_0 rfl (lv_at hl 0 rfl) ?_
  refine gX10_1 hC hW dX6_sizeOf_1 ?_
  refine lv_iload_n hx hb dX6_sizeOf_4 rfl (lv_at hl 1 rfl) ?_
  obtain ⟨g1, h⟩ := gd_some h
  refine x_iald hC hW aX16 g1 dX6_sizeOf_5 ?_
  cases h
  exact kr _ _ _ _ dX6_sizeOf_6 hW
theorem ctX10_sizeOf {S : St} {x1 : Int32}  {v : Int32} (h : fX10_sizeOf S x1 = some v) : Met l yX6_sizeOf (wm yX6_sizeOf cX6_sizeOf 2 (some .int)) (rmx 0 0) (pcm LX G S [.ref (ad G 10), .int x1]) (qcI LX G S v) 0 0 G.2.2.2 :=
  x_enter (own := RX6) rfl rfl (Nat.le_of_ble_eq_true rfl) (fun p e s m below meth c ls hC hr hk hW hl => wX10_sizeOf hC (Nat.le_refl _) (Nat.le_refl _)  h (fun H locs ls pc hd hW => x_reti hC hr hk hW hd) _ _ _ hW hl)
def fX10_get (S : St) (x1 : Int32) (x2 : Int32) : Option (Int32) :=
  gd (inb x1 4) <|
  gd (inb x2 60) <|
  some (S.1 (12 + Int32.toNatClampNeg x1) (Int32.toNatClampNeg x2))
set_option maxHeartbeats 4000000 in
set_option maxRecDepth 100000 in
theorem wX10_get {S : St} {x1 : Int32} {x2 : Int32} (hC : CallFix p m c cX6_get 3 s args lw_g RX6) (hF : 0 ≤ R.frames) (hL : 0 ≤ R.locals)  {v : Int32} (h : fX10_get S x1 x2 = some v) (kr : ∀ (H : Heap) (locs : List Loc) (ls : Array Slot) (pc : Nat), decode cX6_get pc = .ok (.ireturn, 1) → wg LX G S s H locs → W p l e R s m args below meth c H locs 0 0 Q (F0 m pc ls [.int v])) : ∀ (H : Heap) (locs : List Loc) (ls : Array Slot), wg LX G S s H locs → lv_has ls 3 [(0, .ref (ad G 10)), (1, .int x1), (2, .int x2)] → W p l e R s m args below meth c H locs 0 0 Q (F0 m 0 ls []) := by
  have hx := hC.1
  have hb := hC.2.1
  intro H locs ls hW hl
  unfold fX10_get at h
  refine lv_aload_n hx hb dX6_get_0 rfl (lv_at hl 0 rfl) ?_
  refine gX10_0 hC hW dX6_get_1 ?_
  refine lv_iload_n hx hb dX6_get_4 rfl (lv_at hl 1 rfl) ?_
  obtain ⟨g1, h⟩ := gd_some h
  refine x_aald hC hW oX11 g1 dX6_get_5 ?_
  refine lv_iload_n hx hb dX6_get_6 rfl (lv_at hl 2 rfl) ?_
  obtain ⟨g2, h⟩ := gd_some h
  refine x_iald hC hW (aX_t (inb_lt g1)) g2 dX6_get_7 ?_
  cases h
  exact kr _ _ _ _ dX6_get_8 hW
theorem ctX10_get {S : St} {x1 : Int32} {x2 : Int32}  {v : Int32} (h : fX10_get S x1 x2 = some v) : Met l yX6_get (wm yX6_get cX6_get 3 (some .int)) (rmx 0 0) (pcm LX G S [.ref (ad G 10), .int x1, .int x2]) (qcI LX G S v) 0 0 G.2.2.2 :=
  x_enter (own := RX6) rfl rfl (Nat.le_of_ble_eq_true rfl) (fun p e s m below meth c ls hC hr hk hW hl => wX10_get hC (Nat.le_refl _) (Nat.le_refl _)  h (fun H locs ls pc hd hW => x_reti hC hr hk hW hd) _ _ _ hW hl)
def fX10_set (S : St) (x1 : Int32) (x2 : Int32) (x3 : Int32) : Option (St) :=
  gd (inb x1 4) <|
  gd (inb x2 60) <|
  nx (p1 S (12 + Int32.toNatClampNeg x1) (Int32.toNatClampNeg x2) x3) fun s3 =>
  some s3
set_option maxHeartbeats 4000000 in
set_option maxRecDepth 100000 in
theorem wX10_set {S : St} {x1 : Int32} {x2 : Int32} {x3 : Int32} (hC : CallFix p m c cX6_set 4 s args lw_g RX6) (hF : 0 ≤ R.frames) (hL : 0 ≤ R.locals)  {S' : St} (h : fX10_set S x1 x2 x3 = some (S')) (kr : ∀ (H : Heap) (locs : List Loc) (ls : Array Slot) (pc : Nat), decode cX6_set pc = .ok (.return_, 1) → wg LX G (S') s H locs → W p l e R s m args below meth c H locs 0 0 Q (F0 m pc ls [])) : ∀ (H : Heap) (locs : List Loc) (ls : Array Slot), wg LX G S s H locs → lv_has ls 4 [(0, .ref (ad G 10)), (1, .int x1), (2, .int x2), (3, .int x3)] → W p l e R s m args below meth c H locs 0 0 Q (F0 m 0 ls []) := by
  have hx := hC.1
  have hb := hC.2.1
  intro H locs ls hW hl
  unfold fX10_set at h
  refine lv_aload_n hx hb dX6_set_0 rfl (lv_at hl 0 rfl) ?_
  refine gX10_0 hC hW dX6_set_1 ?_
  refine lv_iload_n hx hb dX6_set_4 rfl (lv_at hl 1 rfl) ?_
  obtain ⟨g1, h⟩ := gd_some h
  refine x_aald hC hW oX11 g1 dX6_set_5 ?_
  refine lv_iload_n hx hb dX6_set_6 rfl (lv_at hl 2 rfl) ?_
  refine lv_iload_n hx hb dX6_set_7 rfl (lv_at hl 3 rfl) ?_
  obtain ⟨g2, h⟩ := gd_some h
  refine x_iast hC hW (aX_t (inb_lt g1)) g2 dX6_set_8 (fun H locs hW => ?_)
  obtain ⟨s3, e4, h⟩ := nx_some h
  rw [← e4] at hW
  cases h
  exact kr _ _ _ _ dX6_set_9 hW
theorem ctX10_set {S : St} {x1 : Int32} {x2 : Int32} {x3 : Int32}  {S' : St} (h : fX10_set S x1 x2 x3 = some (S')) : Met l yX6_set (wm yX6_set cX6_set 4 none) (rmx 0 0) (pcm LX G S [.ref (ad G 10), .int x1, .int x2, .int x3]) (qcV LX G S') 0 0 G.2.2.2 :=
  x_enter (own := RX6) rfl rfl (Nat.le_of_ble_eq_true rfl) (fun p e s m below meth c ls hC hr hk hW hl => wX10_set hC (Nat.le_refl _) (Nat.le_refl _)  h (fun H locs ls pc hd hW => x_retv hC hr hk hW hd) _ _ _ hW hl)
def fX0_put (S : St) (x1 : Int32) (x2 : Int32) (x3 : Int32) : Option (Int32 × St) :=
  Option.bind (fX0_refuseText S x1) fun t1 =>
  if t1.1 = 0 then
    if x2 < 0 then
      Option.bind (fX0_found t1.2 2) fun t5 =>
      some (t5.1, t5.2)
    else
      Option.bind (fX10_sizeOf t1.2 x1) fun t7 =>
      if x2 < t7 then
        Option.bind (fX10_get t1.2 x1 x2) fun t10 =>
        Option.bind (fX10_set t1.2 x1 x2 ((Int32.toInt8 x3).toInt32)) fun t12 =>
        some (t10 + 1000, t12)
      else
        Option.bind (fX0_found t1.2 2) fun t14 =>
        some (t14.1, t14.2)
  else
    some (t1.1, t1.2)
set_option maxHeartbeats 4000000 in
set_option maxRecDepth 100000 in
theorem wX0_put {S : St} {x1 : Int32} {x2 : Int32} {x3 : Int32} (hC : CallFix p m c cX9_put 6 s args lw_g RX9) (hF : 2 ≤ R.frames) (hL : 42 ≤ R.locals)  {v : Int32} {S' : St} (h : fX0_put S x1 x2 x3 = some (v, S')) (kr : ∀ (H : Heap) (locs : List Loc) (ls : Array Slot) (pc : Nat), decode cX9_put pc = .ok (.ireturn, 1) → wg LX G (S') s H locs → W p l e R s m args below meth c H locs 0 0 Q (F0 m pc ls [.int v])) : ∀ (H : Heap) (locs : List Loc) (ls : Array Slot), wg LX G S s H locs → lv_has ls 6 [(0, .ref (ad G 0)), (1, .int x1), (2, .int x2), (3, .int x3)] → W p l e R s m args below meth c H locs 0 0 Q (F0 m 0 ls []) := by
  have hx := hC.1
  have hb := hC.2.1
  intro H locs ls hW hl
  unfold fX0_put at h
  refine lv_aload_n hx hb dX9_put_0 rfl (lv_at hl 0 rfl) ?_
  refine lv_iload_n hx hb dX9_put_1 rfl (lv_at hl 1 rfl) ?_
  obtain ⟨t1, e2, h⟩ := bd h
  refine x_goi (x_rv (rest := []) hC hW (ctX0_refuseText e2) (cwV_g hC.2.2.2.2 ml_X9_155 mi_X9_refuseText md_X9_refuseText ⟨(Nat.le_trans (Nat.le_of_ble_eq_true rfl) hF), (Nat.le_trans (Nat.le_of_ble_eq_true rfl) hL)⟩) (rcX0 hW) rfl hl.1 rfl (Nat.le_of_ble_eq_true rfl) dX9_put_2) hW (fun H locs hW => ?_)
  refine lv_istore (lv' := [(4, .int t1.1), (0, .ref (ad G 0)), (1, .int x1), (2, .int x2), (3, .int x3)]) hx hb dX9_put_5 hl (by decide) rfl (fun ls hl => ?_)
  refine lv_iload hx hb dX9_put_7 (lv_at hl 0 rfl) ?_
  refine lv_if_eq (tgt := 15) hx hb dX9_put_9 (by decide) (fun q3 => ?_) (fun q3 => ?_)
  · have h := it_p q3 h
    refine lv_iload_n hx hb dX9_put_15 rfl (lv_at hl 3 rfl) ?_
    refine lv_if_lt (tgt := 31) hx hb dX9_put_16 (by decide) (fun q4 => ?_) (fun q4 => ?_)
    · have h := it_p q4 h
      refine lv_aload_n hx hb dX9_put_31 rfl (lv_at hl 1 rfl) ?_
      refine lv_iconst (v := 2) hx hb dX9_put_32 (by decide) ?_
      obtain ⟨t5, e6, h⟩ := bd h
      refine x_goi (x_rv (rest := []) hC hW (ctX0_found e6) (cwV_g hC.2.2.2.2 ml_X9_109 mi_X9_found md_X9_found ⟨(Nat.le_trans (Nat.le_of_ble_eq_true rfl) hF), (Nat.le_trans (Nat.le_of_ble_eq_true rfl) hL)⟩) (rcX0 hW) rfl hl.1 rfl (Nat.le_of_ble_eq_true rfl) dX9_put_33) hW (fun H locs hW => ?_)
      cases h
      exact kr _ _ _ _ dX9_put_36 hW
    · have h := it_n q4 h
      refine lv_iload_n hx hb dX9_put_19 rfl (lv_at hl 3 rfl) ?_
      refine lv_aload_n hx hb dX9_put_20 rfl (lv_at hl 1 rfl) ?_
      refine gX0_1 hC hW dX9_put_21 ?_
      refine lv_iload_n hx hb dX9_put_24 rfl (lv_at hl 2 rfl) ?_
      obtain ⟨t7, e8, h⟩ := bd h
      refine x_goi (x_rv (rest := [.int x2]) hC hW (ctX10_sizeOf e8) (cwV_g hC.2.2.2.2 ml_X9_145 mi_X6_sizeOf md_X6_sizeOf ⟨(Nat.le_trans (Nat.le_of_ble_eq_true rfl) hF), (Nat.le_trans (Nat.le_of_ble_eq_true rfl) hL)⟩) (rcX10 hW) rfl hl.1 rfl (Nat.le_of_ble_eq_true rfl) dX9_put_25) hW (fun H locs hW => ?_)
      refine lv_icmp_lt (tgt := 37) hx hb dX9_put_28 (by decide) (fun q9 => ?_) (fun q9 => ?_)
      · have h := it_p q9 h
        refine lv_aload_n hx hb dX9_put_37 rfl (lv_at hl 1 rfl) ?_
        refine gX0_1 hC hW dX9_put_38 ?_
        refine lv_iload_n hx hb dX9_put_41 rfl (lv_at hl 2 rfl) ?_
        refine lv_iload_n hx hb dX9_put_42 rfl (lv_at hl 3 rfl) ?_
        obtain ⟨t10, e11, h⟩ := bd h
        refine x_goi (x_rv (rest := []) hC hW (ctX10_get e11) (cwV_g hC.2.2.2.2 ml_X9_121 mi_X6_get md_X6_get ⟨(Nat.le_trans (Nat.le_of_ble_eq_true rfl) hF), (Nat.le_trans (Nat.le_of_ble_eq_true rfl) hL)⟩) (rcX10 hW) rfl hl.1 rfl (Nat.le_of_ble_eq_true rfl) dX9_put_43) hW (fun H locs hW => ?_)
        refine lv_istore (lv' := [(5, .int t10), (4, .int t1.1), (0, .ref (ad G 0)), (1, .int x1), (2, .int x2), (3, .int x3)]) hx hb dX9_put_46 hl (by decide) rfl (fun ls hl => ?_)
        refine lv_aload_n hx hb dX9_put_48 rfl (lv_at hl 2 rfl) ?_
        refine gX0_1 hC hW dX9_put_49 ?_
        refine lv_iload_n hx hb dX9_put_52 rfl (lv_at hl 3 rfl) ?_
        refine lv_iload_n hx hb dX9_put_53 rfl (lv_at hl 4 rfl) ?_
        refine lv_iload_n hx hb dX9_put_54 rfl (lv_at hl 5 rfl) ?_
        refine lv_i2b (v := (Int32.toInt8 x3).toInt32) hx hb dX9_put_55 rfl ?_
        obtain ⟨t12, e13, h⟩ := bd h
        refine x_gov (x_rv (rest := []) hC hW (ctX10_set e13) (cwV_g hC.2.2.2.2 ml_X9_124 mi_X6_set md_X6_set ⟨(Nat.le_trans (Nat.le_of_ble_eq_true rfl) hF), (Nat.le_trans (Nat.le_of_ble_eq_true rfl) hL)⟩) (rcX10 hW) rfl hl.1 rfl (Nat.le_of_ble_eq_true rfl) dX9_put_56) hW (fun H locs hW => ?_)
        refine lv_iload hx hb dX9_put_59 (lv_at hl 0 rfl) ?_
        refine lv_sipush (v := 1000) hx hb dX9_put_61 (by decide) ?_
        refine lv_iadd hx hb dX9_put_64 ?_
        cases h
        exact kr _ _ _ _ dX9_put_65 hW
      · have h := it_n q9 h
        refine lv_aload_n hx hb dX9_put_31 rfl (lv_at hl 1 rfl) ?_
        refine lv_iconst (v := 2) hx hb dX9_put_32 (by decide) ?_
        obtain ⟨t14, e15, h⟩ := bd h
        refine x_goi (x_rv (rest := []) hC hW (ctX0_found e15) (cwV_g hC.2.2.2.2 ml_X9_109 mi_X9_found md_X9_found ⟨(Nat.le_trans (Nat.le_of_ble_eq_true rfl) hF), (Nat.le_trans (Nat.le_of_ble_eq_true rfl) hL)⟩) (rcX0 hW) rfl hl.1 rfl (Nat.le_of_ble_eq_true rfl) dX9_put_33) hW (fun H locs hW => ?_)
        cases h
        exact kr _ _ _ _ dX9_put_36 hW
  · have h := it_n q3 h
    refine lv_iload hx hb dX9_put_12 (lv_at hl 0 rfl) ?_
    cases h
    exact kr _ _ _ _ dX9_put_14 hW
theorem ctX0_put {S : St} {x1 : Int32} {x2 : Int32} {x3 : Int32}  {v : Int32} {S' : St} (h : fX0_put S x1 x2 x3 = some (v, S')) : Met l yX9_put (wm yX9_put cX9_put 6 (some .int)) (rmx 2 42) (pcm LX G S [.ref (ad G 0), .int x1, .int x2, .int x3]) (qcI LX G S' v) 0 0 G.2.2.2 :=
  x_enter (own := RX9) rfl rfl (Nat.le_of_ble_eq_true rfl) (fun p e s m below meth c ls hC hr hk hW hl => wX0_put hC (Nat.le_refl _) (Nat.le_refl _)  h (fun H locs ls pc hd hW => x_reti hC hr hk hW hd) _ _ _ hW hl)
def fX10_placesOf (S : St) (x1 : Int32) : Option (Nat) :=
  gd (inb x1 4) <|
  some (12 + Int32.toNatClampNeg x1)
set_option maxHeartbeats 4000000 in
set_option maxRecDepth 100000 in
theorem wX10_placesOf {S : St} {x1 : Int32} (hC : CallFix p m c cX6_placesOf 2 s args lw_g RX6) (hF : 0 ≤ R.frames) (hL : 0 ≤ R.locals)  {v : Nat} (h : fX10_placesOf S x1 = some v) (kr : ∀ (H : Heap) (locs : List Loc) (ls : Array Slot) (pc : Nat), decode cX6_placesOf pc = .ok (.areturn, 1) → wg LX G S s H locs → W p l e R s m args below meth c H locs 0 0 Q (F0 m pc ls [.ref (ad G v)])) : ∀ (H : Heap) (locs : List Loc) (ls : Array Slot), wg LX G S s H locs → lv_has ls 2 [(0, .ref (ad G 10)), (1, .int x1)] → W p l e R s m args below meth c H locs 0 0 Q (F0 m 0 ls []) := by
  have hx := hC.1
  have hb := hC.2.1
  intro H locs ls hW hl
  unfold fX10_placesOf at h
  refine lv_aload_n hx hb dX6_placesOf_0 rfl (lv_at hl 0 rfl) ?_
  refine gX10_0 hC hW dX6_placesOf_1 ?_
  refine lv_iload_n hx hb dX6_placesOf_4 rfl (lv_at hl 1 rfl) ?_
  obtain ⟨g1, h⟩ := gd_some h
  refine x_aald hC hW oX11 g1 dX6_placesOf_5 ?_
  cases h
  exact kr _ _ _ _ dX6_placesOf_6 hW
theorem ctX10_placesOf {S : St} {x1 : Int32}  {v : Nat} (h : fX10_placesOf S x1 = some v) : Met l yX6_placesOf (wm yX6_placesOf cX6_placesOf 2 (some (.array .int))) (rmx 0 0) (pcm LX G S [.ref (ad G 10), .int x1]) (qcR LX G S v) 0 0 G.2.2.2 :=
  x_enter (own := RX6) rfl rfl (Nat.le_of_ble_eq_true rfl) (fun p e s m below meth c ls hC hr hk hW hl => wX10_placesOf hC (Nat.le_refl _) (Nat.le_refl _)  h (fun H locs ls pc hd hW => x_reta hC hr hk hW hd) _ _ _ hW hl)
theorem X10_placesOf_isA {S : St} {x1 : Int32} {v : Nat} (h : fX10_placesOf S x1 = some v) : isA LX v (lenX v) := by
  unfold fX10_placesOf at h
  obtain ⟨g, h⟩ := gd_some h
  cases h
  exact aX_tl (inb_lt g)
def fX17_sign (S : St)  : Option (Int32) :=
  Option.bind (α := Int32) (
    if (S.1 17 4) ≤ (S.1 17 5) then
      some 1000
    else
      gd (isIA ((S.1 17 3).toNatClampNeg)) <|
      if (Int32.ofNat (lenX ((S.1 17 3).toNatClampNeg))) ≤ (S.1 17 5) then
        some 1000
      else
        gd (isIA ((S.1 17 3).toNatClampNeg)) <|
        gd (inb (S.1 17 5) (lenX ((S.1 17 3).toNatClampNeg))) <|
        some (S.1 ((S.1 17 3).toNatClampNeg) (Int32.toNatClampNeg (S.1 17 5)))
  ) fun t2 =>
  some t2
set_option maxHeartbeats 4000000 in
set_option maxRecDepth 100000 in
theorem wX17_sign {S : St}  (hC : CallFix p m c cX5_sign 1 s args lw_g RX5) (hF : 0 ≤ R.frames) (hL : 0 ≤ R.locals)  {v : Int32} (h : fX17_sign S = some v) (kr : ∀ (H : Heap) (locs : List Loc) (ls : Array Slot) (pc : Nat), decode cX5_sign pc = .ok (.ireturn, 1) → wg LX G S s H locs → W p l e R s m args below meth c H locs 0 0 Q (F0 m pc ls [.int v])) : ∀ (H : Heap) (locs : List Loc) (ls : Array Slot), wg LX G S s H locs → lv_has ls 1 [(0, .ref (ad G 17))] → W p l e R s m args below meth c H locs 0 0 Q (F0 m 0 ls []) := by
  have hx := hC.1
  have hb := hC.2.1
  intro H locs ls hW hl
  unfold fX17_sign at h
  refine lv_aload_n hx hb dX5_sign_0 rfl (lv_at hl 0 rfl) ?_
  refine gX17_5 hC hW dX5_sign_1 ?_
  refine lv_aload_n hx hb dX5_sign_4 rfl (lv_at hl 0 rfl) ?_
  refine gX17_4 hC hW dX5_sign_5 ?_
  obtain ⟨t2, e3, h⟩ := bd h
  have K1 : ∀ (H : Heap) (locs : List Loc) (ls : Array Slot), wg LX G S s H locs → lv_has ls 1 [] → W p l e R s m args below meth c H locs 0 0 Q (F0 m 38 ls [.int t2]) := by
    intro H locs ls hW hl
    cases h
    exact kr _ _ _ _ dX5_sign_38 hW
  clear h
  have h := e3
  clear e3
  refine lv_icmp_ge (tgt := 35) hx hb dX5_sign_8 (by decide) (fun q4 => ?_) (fun q4 => ?_)
  · have h := it_p q4 h
    refine lv_sipush (v := 1000) hx hb dX5_sign_35 (by decide) ?_
    cases h
    exact K1 _ _ _ hW (lv_sub hl [] rfl)
  · have h := it_n q4 h
    refine lv_aload_n hx hb dX5_sign_11 rfl (lv_at hl 0 rfl) ?_
    refine gX17_5 hC hW dX5_sign_12 ?_
    refine lv_aload_n hx hb dX5_sign_15 rfl (lv_at hl 0 rfl) ?_
    refine gX17_3 hC hW dX5_sign_16 ?_
    obtain ⟨g5, h⟩ := gd_some h
    refine x_alen (v := (Int32.ofNat (lenX ((S.1 17 3).toNatClampNeg)))) hC hW (isIA_ok g5) rfl dX5_sign_19 ?_
    refine lv_icmp_ge (tgt := 35) hx hb dX5_sign_20 (by decide) (fun q6 => ?_) (fun q6 => ?_)
    · have h := it_p q6 h
      refine lv_sipush (v := 1000) hx hb dX5_sign_35 (by decide) ?_
      cases h
      exact K1 _ _ _ hW (lv_sub hl [] rfl)
    · have h := it_n q6 h
      refine lv_aload_n hx hb dX5_sign_23 rfl (lv_at hl 0 rfl) ?_
      refine gX17_3 hC hW dX5_sign_24 ?_
      refine lv_aload_n hx hb dX5_sign_27 rfl (lv_at hl 0 rfl) ?_
      refine gX17_5 hC hW dX5_sign_28 ?_
      obtain ⟨g7, h⟩ := gd_some h
      obtain ⟨g8, h⟩ := gd_some h
      refine x_iald hC hW (isIA_ok g7) g8 dX5_sign_31 ?_
      refine lv_goto (tgt := 38) hx hb dX5_sign_32 (by decide) ?_
      cases h
      exact K1 _ _ _ hW (lv_sub hl [] rfl)
theorem ctX17_sign {S : St}   {v : Int32} (h : fX17_sign S = some v) : Met l yX5_sign (wm yX5_sign cX5_sign 1 (some .int)) (rmx 0 0) (pcm LX G S [.ref (ad G 17)]) (qcI LX G S v) 0 0 G.2.2.2 :=
  x_enter (own := RX5) rfl rfl (Nat.le_of_ble_eq_true rfl) (fun p e s m below meth c ls hC hr hk hW hl => wX17_sign hC (Nat.le_refl _) (Nat.le_refl _)  h (fun H locs ls pc hd hW => x_reti hC hr hk hW hd) _ _ _ hW hl)
def fX17_skipBlanks_L0 (N : Nat)  : Nat → St → Option (St)
  | 0, _ => none
  | n + 1, S =>
    if (S.1 17 6) = 0 then
      if (S.1 17 4) ≤ (S.1 17 5) then
        some S
      else
        Option.bind (fX17_sign S) fun t3 =>
        if t3 = 32 then
          nx (p1 S 17 5 ((S.1 17 5) + 1)) fun s6 =>
          fX17_skipBlanks_L0 N n s6
        else
          some S
    else
      some S
set_option maxHeartbeats 4000000 in
set_option maxRecDepth 100000 in
theorem wX17_skipBlanks_L0 {N : Nat}  (hC : CallFix p m c cX5_skipBlanks 1 s args lw_g RX5) (hF : 1 ≤ R.frames) (hL : 20 ≤ R.locals)  {t : St} (kx : ∀ (H : Heap) (locs : List Loc) (ls : Array Slot), wg LX G t s H locs → lv_has ls 1 [] → W p l e R s m args below meth c H locs 0 0 Q (F0 m 40 ls [])) : ∀ (n : Nat) (S : St), fX17_skipBlanks_L0 N  n S = some t → ∀ (H : Heap) (locs : List Loc) (ls : Array Slot), wg LX G S s H locs → lv_has ls 1 [(0, .ref (ad G 17))] → W p l e R s m args below meth c H locs 0 0 Q (F0 m 0 ls []) := by
  have hx := hC.1
  have hb := hC.2.1
  intro n
  induction n with
  | zero =>
    intro _ h
    cases h
  | succ n ih =>
    intro S h H locs ls hW hl
    rw [fX17_skipBlanks_L0] at h
    refine lv_aload_n hx hb dX5_skipBlanks_0 rfl (lv_at hl 0 rfl) ?_
    refine gX17_6 hC hW dX5_skipBlanks_1 ?_
    refine lv_if_ne (tgt := 40) hx hb dX5_skipBlanks_4 (by decide) (fun q1 => ?_) (fun q1 => ?_)
    · have h := it_n q1 h
      cases h
      exact kx _ _ _ hW (lv_sub hl [] rfl)
    · have h := it_p q1 h
      refine lv_aload_n hx hb dX5_skipBlanks_7 rfl (lv_at hl 0 rfl) ?_
      refine gX17_5 hC hW dX5_skipBlanks_8 ?_
      refine lv_aload_n hx hb dX5_skipBlanks_11 rfl (lv_at hl 0 rfl) ?_
      refine gX17_4 hC hW dX5_skipBlanks_12 ?_
      refine lv_icmp_ge (tgt := 40) hx hb dX5_skipBlanks_15 (by decide) (fun q2 => ?_) (fun q2 => ?_)
      · have h := it_p q2 h
        cases h
        exact kx _ _ _ hW (lv_sub hl [] rfl)
      · have h := it_n q2 h
        refine lv_aload_n hx hb dX5_skipBlanks_18 rfl (lv_at hl 0 rfl) ?_
        obtain ⟨t3, e4, h⟩ := bd h
        refine x_goi (x_rv (rest := []) hC hW (ctX17_sign e4) (cwV_g hC.2.2.2.2 ml_X5_57 mi_X5_sign md_X5_sign ⟨(Nat.le_trans (Nat.le_of_ble_eq_true rfl) hF), (Nat.le_trans (Nat.le_of_ble_eq_true rfl) hL)⟩) (rcX17 hW) rfl hl.1 rfl (Nat.le_of_ble_eq_true rfl) dX5_skipBlanks_19) hW (fun H locs hW => ?_)
        refine lv_bipush (v := 32) hx hb dX5_skipBlanks_22 (by decide) ?_
        refine lv_icmp_ne (tgt := 40) hx hb dX5_skipBlanks_24 (by decide) (fun q5 => ?_) (fun q5 => ?_)
        · have h := it_n q5 h
          cases h
          exact kx _ _ _ hW (lv_sub hl [] rfl)
        · have h := it_p q5 h
          refine lv_aload_n hx hb dX5_skipBlanks_27 rfl (lv_at hl 0 rfl) ?_
          refine lv_dup hx hb dX5_skipBlanks_28 rfl ?_
          refine gX17_5 hC hW dX5_skipBlanks_29 ?_
          refine lv_iconst (v := 1) hx hb dX5_skipBlanks_32 (by decide) ?_
          refine lv_iadd hx hb dX5_skipBlanks_33 ?_
          refine pX17_5 hC hW dX5_skipBlanks_34 (fun H locs hW => ?_)
          obtain ⟨s6, e7, h⟩ := nx_some h
          rw [← e7] at hW
          refine lv_goto (tgt := 0) hx hb dX5_skipBlanks_37 (by decide) ?_
          exact ih _ h _ _ _ hW (lv_sub hl [0] rfl)
def fX17_skipBlanks (N : Nat) (S : St)  : Option (St) :=
  Option.bind (fX17_skipBlanks_L0 N N S) fun t8 =>
  some t8
set_option maxHeartbeats 4000000 in
set_option maxRecDepth 100000 in
theorem wX17_skipBlanks {N : Nat} {S : St}  (hC : CallFix p m c cX5_skipBlanks 1 s args lw_g RX5) (hF : 1 ≤ R.frames) (hL : 20 ≤ R.locals)  {S' : St} (h : fX17_skipBlanks N S = some (S')) (kr : ∀ (H : Heap) (locs : List Loc) (ls : Array Slot) (pc : Nat), decode cX5_skipBlanks pc = .ok (.return_, 1) → wg LX G (S') s H locs → W p l e R s m args below meth c H locs 0 0 Q (F0 m pc ls [])) : ∀ (H : Heap) (locs : List Loc) (ls : Array Slot), wg LX G S s H locs → lv_has ls 1 [(0, .ref (ad G 17))] → W p l e R s m args below meth c H locs 0 0 Q (F0 m 0 ls []) := by
  have hx := hC.1
  have hb := hC.2.1
  intro H locs ls hW hl
  unfold fX17_skipBlanks at h
  obtain ⟨t8, e9, h⟩ := bd h
  refine wX17_skipBlanks_L0 hC hF hL  (fun H locs ls hW hl => ?_) _ _ e9 _ _ _ hW (lv_sub hl [0] rfl)
  cases h
  exact kr _ _ _ _ dX5_skipBlanks_40 hW
theorem ctX17_skipBlanks {N : Nat} {S : St}   {S' : St} (h : fX17_skipBlanks N S = some (S')) : Met l yX5_skipBlanks (wm yX5_skipBlanks cX5_skipBlanks 1 none) (rmx 1 20) (pcm LX G S [.ref (ad G 17)]) (qcV LX G S') 0 0 G.2.2.2 :=
  x_enter (own := RX5) rfl rfl (Nat.le_of_ble_eq_true rfl) (fun p e s m below meth c ls hC hr hk hW hl => wX17_skipBlanks hC (Nat.le_refl _) (Nat.le_refl _)  h (fun H locs ls pc hd hW => x_retv hC hr hk hW hd) _ _ _ hW hl)
def fXs_isCell (S : St) (x0 : Int32) : Option (Int32) :=
  Option.bind (α := Int32) (
    if x0 < 0 then
      some 0
    else
      if 12 ≤ x0 then
        some 0
      else
        some 1
  ) fun t2 =>
  gd (isb t2) <|
  some t2
set_option maxHeartbeats 4000000 in
set_option maxRecDepth 100000 in
theorem wXs_isCell {S : St} {x0 : Int32} (hC : CallFix p m c cX9_isCell 1 s args lw_g RX9) (hF : 0 ≤ R.frames) (hL : 0 ≤ R.locals)  {v : Int32} (h : fXs_isCell S x0 = some v) (kr : ∀ (H : Heap) (locs : List Loc) (ls : Array Slot) (pc : Nat), isb v = true → decode cX9_isCell pc = .ok (.ireturn, 1) → wg LX G S s H locs → W p l e R s m args below meth c H locs 0 0 Q (F0 m pc ls [.int v])) : ∀ (H : Heap) (locs : List Loc) (ls : Array Slot), wg LX G S s H locs → lv_has ls 1 [(0, .int x0)] → W p l e R s m args below meth c H locs 0 0 Q (F0 m 0 ls []) := by
  have hx := hC.1
  have hb := hC.2.1
  intro H locs ls hW hl
  unfold fXs_isCell at h
  refine lv_iload_n hx hb dX9_isCell_0 rfl (lv_at hl 0 rfl) ?_
  obtain ⟨t2, e3, h⟩ := bd h
  have K1 : ∀ (H : Heap) (locs : List Loc) (ls : Array Slot), wg LX G S s H locs → lv_has ls 1 [] → W p l e R s m args below meth c H locs 0 0 Q (F0 m 15 ls [.int t2]) := by
    intro H locs ls hW hl
    obtain ⟨g6, h⟩ := gd_some h
    cases h
    exact kr _ _ _ _ g6 dX9_isCell_15 hW
  clear h
  have h := e3
  clear e3
  refine lv_if_lt (tgt := 14) hx hb dX9_isCell_1 (by decide) (fun q4 => ?_) (fun q4 => ?_)
  · have h := it_p q4 h
    refine lv_iconst (v := 0) hx hb dX9_isCell_14 (by decide) ?_
    cases h
    exact K1 _ _ _ hW (lv_sub hl [] rfl)
  · have h := it_n q4 h
    refine lv_iload_n hx hb dX9_isCell_4 rfl (lv_at hl 0 rfl) ?_
    refine lv_bipush (v := 12) hx hb dX9_isCell_5 (by decide) ?_
    refine lv_icmp_ge (tgt := 14) hx hb dX9_isCell_7 (by decide) (fun q5 => ?_) (fun q5 => ?_)
    · have h := it_p q5 h
      refine lv_iconst (v := 0) hx hb dX9_isCell_14 (by decide) ?_
      cases h
      exact K1 _ _ _ hW (lv_sub hl [] rfl)
    · have h := it_n q5 h
      refine lv_iconst (v := 1) hx hb dX9_isCell_10 (by decide) ?_
      refine lv_goto (tgt := 15) hx hb dX9_isCell_11 (by decide) ?_
      cases h
      exact K1 _ _ _ hW (lv_sub hl [] rfl)
theorem ctXs_isCell {S : St} {x0 : Int32}  {v : Int32} (h : fXs_isCell S x0 = some v) : Met l yX9_isCell (wm yX9_isCell cX9_isCell 1 (some .boolean)) (rmx 0 0) (pcm LX G S [.int x0]) (qcI LX G S v) 0 0 G.2.2.2 :=
  x_enter (own := RX9) rfl rfl (Nat.le_of_ble_eq_true rfl) (fun p e s m below meth c ls hC hr hk hW hl => wXs_isCell hC (Nat.le_refl _) (Nat.le_refl _)  h (fun H locs ls pc hz hd hW => x_retz hC hr hk hW hz hd) _ _ _ hW hl)
def fX17_readLetter (S : St)  : Option (Int32 × St) :=
  Option.bind (fX17_sign S) fun t1 =>
  if (S.1 17 6) = 0 then
    Option.bind (fXs_isCell S (t1 - 97)) fun t6 =>
    if t6 = 0 then
      nx (p1 S 17 6 1) fun s11 =>
      some (0, s11)
    else
      nx (p1 S 17 5 ((S.1 17 5) + 1)) fun s9 =>
      some (t1 - 97, s9)
  else
    nx (p1 S 17 6 1) fun s4 =>
    some (0, s4)
set_option maxHeartbeats 4000000 in
set_option maxRecDepth 100000 in
theorem wX17_readLetter {S : St}  (hC : CallFix p m c cX5_readLetter 2 s args lw_g RX5) (hF : 1 ≤ R.frames) (hL : 20 ≤ R.locals)  {v : Int32} {S' : St} (h : fX17_readLetter S = some (v, S')) (kr : ∀ (H : Heap) (locs : List Loc) (ls : Array Slot) (pc : Nat), decode cX5_readLetter pc = .ok (.ireturn, 1) → wg LX G (S') s H locs → W p l e R s m args below meth c H locs 0 0 Q (F0 m pc ls [.int v])) : ∀ (H : Heap) (locs : List Loc) (ls : Array Slot), wg LX G S s H locs → lv_has ls 2 [(0, .ref (ad G 17))] → W p l e R s m args below meth c H locs 0 0 Q (F0 m 0 ls []) := by
  have hx := hC.1
  have hb := hC.2.1
  intro H locs ls hW hl
  unfold fX17_readLetter at h
  refine lv_aload_n hx hb dX5_readLetter_0 rfl (lv_at hl 0 rfl) ?_
  obtain ⟨t1, e2, h⟩ := bd h
  refine x_goi (x_rv (rest := []) hC hW (ctX17_sign e2) (cwV_g hC.2.2.2.2 ml_X5_57 mi_X5_sign md_X5_sign ⟨(Nat.le_trans (Nat.le_of_ble_eq_true rfl) hF), (Nat.le_trans (Nat.le_of_ble_eq_true rfl) hL)⟩) (rcX17 hW) rfl hl.1 rfl (Nat.le_of_ble_eq_true rfl) dX5_readLetter_1) hW (fun H locs hW => ?_)
  refine lv_bipush (v := 97) hx hb dX5_readLetter_4 (by decide) ?_
  refine lv_isub hx hb dX5_readLetter_6 ?_
  refine lv_istore_n (lv' := [(1, .int (t1 - 97)), (0, .ref (ad G 17))]) hx hb dX5_readLetter_7 rfl hl (by decide) rfl (fun ls hl => ?_)
  refine lv_aload_n hx hb dX5_readLetter_8 rfl (lv_at hl 1 rfl) ?_
  refine gX17_6 hC hW dX5_readLetter_9 ?_
  refine lv_if_ne (tgt := 22) hx hb dX5_readLetter_12 (by decide) (fun q3 => ?_) (fun q3 => ?_)
  · have h := it_n q3 h
    refine lv_aload_n hx hb dX5_readLetter_22 rfl (lv_at hl 1 rfl) ?_
    refine lv_iconst (v := 1) hx hb dX5_readLetter_23 (by decide) ?_
    refine pX17_6 hC hW rfl dX5_readLetter_24 (fun H locs hW => ?_)
    obtain ⟨s4, e5, h⟩ := nx_some h
    rw [← e5] at hW
    refine lv_iconst (v := 0) hx hb dX5_readLetter_27 (by decide) ?_
    cases h
    exact kr _ _ _ _ dX5_readLetter_28 hW
  · have h := it_p q3 h
    refine lv_iload_n hx hb dX5_readLetter_15 rfl (lv_at hl 0 rfl) ?_
    obtain ⟨t6, e7, h⟩ := bd h
    refine x_goi (x_rn (rest := []) hC hW (ctXs_isCell e7) (cwN_g hC.2.2.2.2 hW.2.2.2.2.1 ms_X9_isCell md_X9_isCell ⟨(Nat.le_trans (Nat.le_of_ble_eq_true rfl) hF), (Nat.le_trans (Nat.le_of_ble_eq_true rfl) hL)⟩) rfl hl.1 rfl (Nat.le_of_ble_eq_true rfl) dX5_readLetter_16) hW (fun H locs hW => ?_)
    refine lv_if_ne (tgt := 29) hx hb dX5_readLetter_19 (by decide) (fun q8 => ?_) (fun q8 => ?_)
    · have h := it_n q8 h
      refine lv_aload_n hx hb dX5_readLetter_29 rfl (lv_at hl 1 rfl) ?_
      refine lv_dup hx hb dX5_readLetter_30 rfl ?_
      refine gX17_5 hC hW dX5_readLetter_31 ?_
      refine lv_iconst (v := 1) hx hb dX5_readLetter_34 (by decide) ?_
      refine lv_iadd hx hb dX5_readLetter_35 ?_
      refine pX17_5 hC hW dX5_readLetter_36 (fun H locs hW => ?_)
      obtain ⟨s9, e10, h⟩ := nx_some h
      rw [← e10] at hW
      refine lv_iload_n hx hb dX5_readLetter_39 rfl (lv_at hl 0 rfl) ?_
      cases h
      exact kr _ _ _ _ dX5_readLetter_40 hW
    · have h := it_p q8 h
      refine lv_aload_n hx hb dX5_readLetter_22 rfl (lv_at hl 1 rfl) ?_
      refine lv_iconst (v := 1) hx hb dX5_readLetter_23 (by decide) ?_
      refine pX17_6 hC hW rfl dX5_readLetter_24 (fun H locs hW => ?_)
      obtain ⟨s11, e12, h⟩ := nx_some h
      rw [← e12] at hW
      refine lv_iconst (v := 0) hx hb dX5_readLetter_27 (by decide) ?_
      cases h
      exact kr _ _ _ _ dX5_readLetter_28 hW
theorem ctX17_readLetter {S : St}   {v : Int32} {S' : St} (h : fX17_readLetter S = some (v, S')) : Met l yX5_readLetter (wm yX5_readLetter cX5_readLetter 2 (some .int)) (rmx 1 20) (pcm LX G S [.ref (ad G 17)]) (qcI LX G S' v) 0 0 G.2.2.2 :=
  x_enter (own := RX5) rfl rfl (Nat.le_of_ble_eq_true rfl) (fun p e s m below meth c ls hC hr hk hW hl => wX17_readLetter hC (Nat.le_refl _) (Nat.le_refl _)  h (fun H locs ls pc hd hW => x_reti hC hr hk hW hd) _ _ _ hW hl)
def fX17_note (S : St) (x1 : Int32) (x2 : Int32) (x3 : Int32) (x4 : Int32) : Option (St) :=
  gd (inb x1 12) <|
  nx (p1 S 18 (Int32.toNatClampNeg x1) x2) fun s2 =>
  gd (inb x1 12) <|
  nx (p1 s2 19 (Int32.toNatClampNeg x1) x3) fun s5 =>
  gd (inb x1 12) <|
  nx (p1 s5 20 (Int32.toNatClampNeg x1) x4) fun s8 =>
  some s8
set_option maxHeartbeats 4000000 in
set_option maxRecDepth 100000 in
theorem wX17_note {S : St} {x1 : Int32} {x2 : Int32} {x3 : Int32} {x4 : Int32} (hC : CallFix p m c cX5_note 5 s args lw_g RX5) (hF : 0 ≤ R.frames) (hL : 0 ≤ R.locals)  {S' : St} (h : fX17_note S x1 x2 x3 x4 = some (S')) (kr : ∀ (H : Heap) (locs : List Loc) (ls : Array Slot) (pc : Nat), decode cX5_note pc = .ok (.return_, 1) → wg LX G (S') s H locs → W p l e R s m args below meth c H locs 0 0 Q (F0 m pc ls [])) : ∀ (H : Heap) (locs : List Loc) (ls : Array Slot), wg LX G S s H locs → lv_has ls 5 [(0, .ref (ad G 17)), (1, .int x1), (2, .int x2), (3, .int x3), (4, .int x4)] → W p l e R s m args below meth c H locs 0 0 Q (F0 m 0 ls []) := by
  have hx := hC.1
  have hb := hC.2.1
  intro H locs ls hW hl
  unfold fX17_note at h
  refine lv_aload_n hx hb dX5_note_0 rfl (lv_at hl 0 rfl) ?_
  refine gX17_0 hC hW dX5_note_1 ?_
  refine lv_iload_n hx hb dX5_note_4 rfl (lv_at hl 1 rfl) ?_
  refine lv_iload_n hx hb dX5_note_5 rfl (lv_at hl 2 rfl) ?_
  obtain ⟨g1, h⟩ := gd_some h
  refine x_iast hC hW aX18 g1 dX5_note_6 (fun H locs hW => ?_)
  obtain ⟨s2, e3, h⟩ := nx_some h
  rw [← e3] at hW
  refine lv_aload_n hx hb dX5_note_7 rfl (lv_at hl 0 rfl) ?_
  refine gX17_1 hC hW dX5_note_8 ?_
  refine lv_iload_n hx hb dX5_note_11 rfl (lv_at hl 1 rfl) ?_
  refine lv_iload_n hx hb dX5_note_12 rfl (lv_at hl 3 rfl) ?_
  obtain ⟨g4, h⟩ := gd_some h
  refine x_iast hC hW aX19 g4 dX5_note_13 (fun H locs hW => ?_)
  obtain ⟨s5, e6, h⟩ := nx_some h
  rw [← e6] at hW
  refine lv_aload_n hx hb dX5_note_14 rfl (lv_at hl 0 rfl) ?_
  refine gX17_2 hC hW dX5_note_15 ?_
  refine lv_iload_n hx hb dX5_note_18 rfl (lv_at hl 1 rfl) ?_
  refine lv_iload hx hb dX5_note_19 (lv_at hl 4 rfl) ?_
  obtain ⟨g7, h⟩ := gd_some h
  refine x_iast hC hW aX20 g7 dX5_note_21 (fun H locs hW => ?_)
  obtain ⟨s8, e9, h⟩ := nx_some h
  rw [← e9] at hW
  cases h
  exact kr _ _ _ _ dX5_note_22 hW
theorem ctX17_note {S : St} {x1 : Int32} {x2 : Int32} {x3 : Int32} {x4 : Int32}  {S' : St} (h : fX17_note S x1 x2 x3 x4 = some (S')) : Met l yX5_note (wm yX5_note cX5_note 5 none) (rmx 0 0) (pcm LX G S [.ref (ad G 17), .int x1, .int x2, .int x3, .int x4]) (qcV LX G S') 0 0 G.2.2.2 :=
  x_enter (own := RX5) rfl rfl (Nat.le_of_ble_eq_true rfl) (fun p e s m below meth c ls hC hr hk hW hl => wX17_note hC (Nat.le_refl _) (Nat.le_refl _)  h (fun H locs ls pc hd hW => x_retv hC hr hk hW hd) _ _ _ hW hl)
def fX17_readOther (S : St) (x1 : Int32) : Option (Int32 × St) :=
  Option.bind (fX17_readLetter S) fun t1 =>
  Option.bind (α := St) (
    if t1.1 = x1 then
      nx (p1 t1.2 17 6 1) fun s7 =>
      some s7
    else
      some t1.2
  ) fun t4 =>
  some (t1.1, t4)
set_option maxHeartbeats 4000000 in
set_option maxRecDepth 100000 in
theorem wX17_readOther {S : St} {x1 : Int32} (hC : CallFix p m c cX5_readOther 3 s args lw_g RX5) (hF : 2 ≤ R.frames) (hL : 41 ≤ R.locals)  {v : Int32} {S' : St} (h : fX17_readOther S x1 = some (v, S')) (kr : ∀ (H : Heap) (locs : List Loc) (ls : Array Slot) (pc : Nat), decode cX5_readOther pc = .ok (.ireturn, 1) → wg LX G (S') s H locs → W p l e R s m args below meth c H locs 0 0 Q (F0 m pc ls [.int v])) : ∀ (H : Heap) (locs : List Loc) (ls : Array Slot), wg LX G S s H locs → lv_has ls 3 [(0, .ref (ad G 17)), (1, .int x1)] → W p l e R s m args below meth c H locs 0 0 Q (F0 m 0 ls []) := by
  have hx := hC.1
  have hb := hC.2.1
  intro H locs ls hW hl
  unfold fX17_readOther at h
  refine lv_aload_n hx hb dX5_readOther_0 rfl (lv_at hl 0 rfl) ?_
  obtain ⟨t1, e2, h⟩ := bd h
  refine x_goi (x_rv (rest := []) hC hW (ctX17_readLetter e2) (cwV_g hC.2.2.2.2 ml_X5_61 mi_X5_readLetter md_X5_readLetter ⟨(Nat.le_trans (Nat.le_of_ble_eq_true rfl) hF), (Nat.le_trans (Nat.le_of_ble_eq_true rfl) hL)⟩) (rcX17 hW) rfl hl.1 rfl (Nat.le_of_ble_eq_true rfl) dX5_readOther_1) hW (fun H locs hW => ?_)
  refine lv_istore_n (lv' := [(2, .int t1.1), (0, .ref (ad G 17)), (1, .int x1)]) hx hb dX5_readOther_4 rfl hl (by decide) rfl (fun ls hl => ?_)
  refine lv_iload_n hx hb dX5_readOther_5 rfl (lv_at hl 0 rfl) ?_
  refine lv_iload_n hx hb dX5_readOther_6 rfl (lv_at hl 2 rfl) ?_
  obtain ⟨t4, e5, h⟩ := bd h
  have K3 : ∀ (H : Heap) (locs : List Loc) (ls : Array Slot), wg LX G t4 s H locs → lv_has ls 3 [(2, .int t1.1)] → W p l e R s m args below meth c H locs 0 0 Q (F0 m 15 ls []) := by
    intro H locs ls hW hl
    refine lv_iload_n hx hb dX5_readOther_15 rfl (lv_at hl 0 rfl) ?_
    cases h
    exact kr _ _ _ _ dX5_readOther_16 hW
  clear h
  have h := e5
  clear e5
  refine lv_icmp_ne (tgt := 15) hx hb dX5_readOther_7 (by decide) (fun q6 => ?_) (fun q6 => ?_)
  · have h := it_n q6 h
    cases h
    exact K3 _ _ _ hW (lv_sub hl [0] rfl)
  · have h := it_p q6 h
    refine lv_aload_n hx hb dX5_readOther_10 rfl (lv_at hl 1 rfl) ?_
    refine lv_iconst (v := 1) hx hb dX5_readOther_11 (by decide) ?_
    refine pX17_6 hC hW rfl dX5_readOther_12 (fun H locs hW => ?_)
    obtain ⟨s7, e8, h⟩ := nx_some h
    rw [← e8] at hW
    cases h
    exact K3 _ _ _ hW (lv_sub hl [0] rfl)
theorem ctX17_readOther {S : St} {x1 : Int32}  {v : Int32} {S' : St} (h : fX17_readOther S x1 = some (v, S')) : Met l yX5_readOther (wm yX5_readOther cX5_readOther 3 (some .int)) (rmx 2 41) (pcm LX G S [.ref (ad G 17), .int x1]) (qcI LX G S' v) 0 0 G.2.2.2 :=
  x_enter (own := RX5) rfl rfl (Nat.le_of_ble_eq_true rfl) (fun p e s m below meth c ls hC hr hk hW hl => wX17_readOther hC (Nat.le_refl _) (Nat.le_refl _)  h (fun H locs ls pc hd hW => x_reti hC hr hk hW hd) _ _ _ hW hl)
def fX17_isFigure (S : St)  : Option (Int32) :=
  Option.bind (fX17_sign S) fun t1 =>
  Option.bind (α := Int32) (
    if t1 < 48 then
      some 0
    else
      Option.bind (fX17_sign S) fun t7 =>
      if 57 < t7 then
        some 0
      else
        some 1
  ) fun t4 =>
  gd (isb t4) <|
  some t4
set_option maxHeartbeats 4000000 in
set_option maxRecDepth 100000 in
theorem wX17_isFigure {S : St}  (hC : CallFix p m c cX5_isFigure 1 s args lw_g RX5) (hF : 1 ≤ R.frames) (hL : 20 ≤ R.locals)  {v : Int32} (h : fX17_isFigure S = some v) (kr : ∀ (H : Heap) (locs : List Loc) (ls : Array Slot) (pc : Nat), isb v = true → decode cX5_isFigure pc = .ok (.ireturn, 1) → wg LX G S s H locs → W p l e R s m args below meth c H locs 0 0 Q (F0 m pc ls [.int v])) : ∀ (H : Heap) (locs : List Loc) (ls : Array Slot), wg LX G S s H locs → lv_has ls 1 [(0, .ref (ad G 17))] → W p l e R s m args below meth c H locs 0 0 Q (F0 m 0 ls []) := by
  have hx := hC.1
  have hb := hC.2.1
  intro H locs ls hW hl
  unfold fX17_isFigure at h
  refine lv_aload_n hx hb dX5_isFigure_0 rfl (lv_at hl 0 rfl) ?_
  obtain ⟨t1, e2, h⟩ := bd h
  refine x_goi (x_rv (rest := []) hC hW (ctX17_sign e2) (cwV_g hC.2.2.2.2 ml_X5_57 mi_X5_sign md_X5_sign ⟨(Nat.le_trans (Nat.le_of_ble_eq_true rfl) hF), (Nat.le_trans (Nat.le_of_ble_eq_true rfl) hL)⟩) (rcX17 hW) rfl hl.1 rfl (Nat.le_of_ble_eq_true rfl) dX5_isFigure_1) hW (fun H locs hW => ?_)
  refine lv_bipush (v := 48) hx hb dX5_isFigure_4 (by decide) ?_
  obtain ⟨t4, e5, h⟩ := bd h
  have K3 : ∀ (H : Heap) (locs : List Loc) (ls : Array Slot), wg LX G S s H locs → lv_has ls 1 [] → W p l e R s m args below meth c H locs 0 0 Q (F0 m 23 ls [.int t4]) := by
    intro H locs ls hW hl
    obtain ⟨g10, h⟩ := gd_some h
    cases h
    exact kr _ _ _ _ g10 dX5_isFigure_23 hW
  clear h
  have h := e5
  clear e5
  refine lv_icmp_lt (tgt := 22) hx hb dX5_isFigure_6 (by decide) (fun q6 => ?_) (fun q6 => ?_)
  · have h := it_p q6 h
    refine lv_iconst (v := 0) hx hb dX5_isFigure_22 (by decide) ?_
    cases h
    exact K3 _ _ _ hW (lv_sub hl [] rfl)
  · have h := it_n q6 h
    refine lv_aload_n hx hb dX5_isFigure_9 rfl (lv_at hl 0 rfl) ?_
    obtain ⟨t7, e8, h⟩ := bd h
    refine x_goi (x_rv (rest := []) hC hW (ctX17_sign e8) (cwV_g hC.2.2.2.2 ml_X5_57 mi_X5_sign md_X5_sign ⟨(Nat.le_trans (Nat.le_of_ble_eq_true rfl) hF), (Nat.le_trans (Nat.le_of_ble_eq_true rfl) hL)⟩) (rcX17 hW) rfl hl.1 rfl (Nat.le_of_ble_eq_true rfl) dX5_isFigure_10) hW (fun H locs hW => ?_)
    refine lv_bipush (v := 57) hx hb dX5_isFigure_13 (by decide) ?_
    refine lv_icmp_gt (tgt := 22) hx hb dX5_isFigure_15 (by decide) (fun q9 => ?_) (fun q9 => ?_)
    · have h := it_p q9 h
      refine lv_iconst (v := 0) hx hb dX5_isFigure_22 (by decide) ?_
      cases h
      exact K3 _ _ _ hW (lv_sub hl [] rfl)
    · have h := it_n q9 h
      refine lv_iconst (v := 1) hx hb dX5_isFigure_18 (by decide) ?_
      refine lv_goto (tgt := 23) hx hb dX5_isFigure_19 (by decide) ?_
      cases h
      exact K3 _ _ _ hW (lv_sub hl [] rfl)
theorem ctX17_isFigure {S : St}   {v : Int32} (h : fX17_isFigure S = some v) : Met l yX5_isFigure (wm yX5_isFigure cX5_isFigure 1 (some .boolean)) (rmx 1 20) (pcm LX G S [.ref (ad G 17)]) (qcI LX G S v) 0 0 G.2.2.2 :=
  x_enter (own := RX5) rfl rfl (Nat.le_of_ble_eq_true rfl) (fun p e s m below meth c ls hC hr hk hW hl => wX17_isFigure hC (Nat.le_refl _) (Nat.le_refl _)  h (fun H locs ls pc hz hd hW => x_retz hC hr hk hW hz hd) _ _ _ hW hl)
end GEN
