section GEN
variable {p : Program} {l : Launch} {e : Env} {R : Room} {s : State} {m : MethodId} {args : Array Value} {below : List Frame} {meth : Method} {c : Code} {H : Heap} {locs : List Loc} {Q : State → Prop} {G : GG}
def fXs_isNumber (S : St) (x0 : Int32) : Option (Int32) :=
  Option.bind (α := Int32) (
    if x0 < 0 then
      some 0
    else
      if 100 ≤ x0 then
        some 0
      else
        some 1
  ) fun t2 =>
  gd (isb t2) <|
  some t2
set_option maxHeartbeats 4000000 in
set_option maxRecDepth 100000 in
theorem wXs_isNumber {S : St} {x0 : Int32} (hC : CallFix p m c cX9_isNumber 1 s args lw_g RX9) (hF : 0 ≤ R.frames) (hL : 0 ≤ R.locals)  {v : Int32} (h : fXs_isNumber S x0 = some v) (kr : ∀ (H : Heap) (locs : List Loc) (ls : Array Slot) (pc : Nat), isb v = true → decode cX9_isNumber pc = .ok (.ireturn, 1) → wg LX G S s H locs → W p l e R s m args below meth c H locs 0 0 Q (F0 m pc ls [.int v])) : ∀ (H : Heap) (locs : List Loc) (ls : Array Slot), wg LX G S s H locs → lv_has ls 1 [(0, .int x0)] → W p l e R s m args below meth c H locs 0 0 Q (F0 m 0 ls []) := by
  have hx := hC.1
  have hb := hC.2.1
  intro H locs ls hW hl
  unfold fXs_isNumber at h
  refine lv_iload_n hx hb dX9_isNumber_0 rfl (lv_at hl 0 rfl) ?_
  obtain ⟨t2, e3, h⟩ := bd h
  have K1 : ∀ (H : Heap) (locs : List Loc) (ls : Array Slot), wg LX G S s H locs → lv_has ls 1 [] → W p l e R s m args below meth c H locs 0 0 Q (F0 m 15 ls [.int t2]) := by
    intro H locs ls hW hl
    obtain ⟨g6, h⟩ := gd_some h
    cases h
    exact kr _ _ _ _ g6 dX9_isNumber_15 hW
  clear h
  have h := e3
  clear e3
  refine lv_if_lt (tgt := 14) hx hb dX9_isNumber_1 (by decide) (fun q4 => ?_) (fun q4 => ?_)
  · have h := it_p q4 h
    refine lv_iconst (v := 0) hx hb dX9_isNumber_14 (by decide) ?_
    cases h
    exact K1 _ _ _ hW (lv_sub hl [] rfl)
  · have h := it_n q4 h
    refine lv_iload_n hx hb dX9_isNumber_4 rfl (lv_at hl 0 rfl) ?_
    refine lv_bipush (v := 100) hx hb dX9_isNumber_5 (by decide) ?_
    refine lv_icmp_ge (tgt := 14) hx hb dX9_isNumber_7 (by decide) (fun q5 => ?_) (fun q5 => ?_)
    · have h := it_p q5 h
      refine lv_iconst (v := 0) hx hb dX9_isNumber_14 (by decide) ?_
      cases h
      exact K1 _ _ _ hW (lv_sub hl [] rfl)
    · have h := it_n q5 h
      refine lv_iconst (v := 1) hx hb dX9_isNumber_10 (by decide) ?_
      refine lv_goto (tgt := 15) hx hb dX9_isNumber_11 (by decide) ?_
      cases h
      exact K1 _ _ _ hW (lv_sub hl [] rfl)
theorem ctXs_isNumber {S : St} {x0 : Int32}  {v : Int32} (h : fXs_isNumber S x0 = some v) : Met l yX9_isNumber (wm yX9_isNumber cX9_isNumber 1 (some .boolean)) (rmx 0 0) (pcm LX G S [.int x0]) (qcI LX G S v) 0 0 G.2.2.2 :=
  x_enter (own := RX9) rfl rfl (Nat.le_of_ble_eq_true rfl) (fun p e s m below meth c ls hC hr hk hW hl => wXs_isNumber hC (Nat.le_refl _) (Nat.le_refl _)  h (fun H locs ls pc hz hd hW => x_retz hC hr hk hW hz hd) _ _ _ hW hl)
def fX25_isThere (S : St) (x1 : Int32) : Option (Int32) :=
  gd (inb x1 12) <|
  Option.bind (α := Int32) (
    if (S.1 26 (Int32.toNatClampNeg x1)) = (-1) then
      some 0
    else
      some 1
  ) fun t3 =>
  gd (isb t3) <|
  some t3
set_option maxHeartbeats 4000000 in
set_option maxRecDepth 100000 in
theorem wX25_isThere {S : St} {x1 : Int32} (hC : CallFix p m c cX0_isThere 2 s args lw_g RX0) (hF : 0 ≤ R.frames) (hL : 0 ≤ R.locals)  {v : Int32} (h : fX25_isThere S x1 = some v) (kr : ∀ (H : Heap) (locs : List Loc) (ls : Array Slot) (pc : Nat), isb v = true → decode cX0_isThere pc = .ok (.ireturn, 1) → wg LX G S s H locs → W p l e R s m args below meth c H locs 0 0 Q (F0 m pc ls [.int v])) : ∀ (H : Heap) (locs : List Loc) (ls : Array Slot), wg LX G S s H locs → lv_has ls 2 [(0, .ref (ad G 25)), (1, .int x1)] → W p l e R s m args below meth c H locs 0 0 Q (F0 m 0 ls []) := by
  have hx := hC.1
  have hb := hC.2.1
  intro H locs ls hW hl
  unfold fX25_isThere at h
  refine lv_aload_n hx hb dX0_isThere_0 rfl (lv_at hl 0 rfl) ?_
  refine gX25_1 hC hW dX0_isThere_1 ?_
  refine lv_iload_n hx hb dX0_isThere_4 rfl (lv_at hl 1 rfl) ?_
  obtain ⟨g1, h⟩ := gd_some h
  refine x_iald hC hW aX26 g1 dX0_isThere_5 ?_
  refine lv_iconst (v := (-1)) hx hb dX0_isThere_6 (by decide) ?_
  obtain ⟨t3, e4, h⟩ := bd h
  have K2 : ∀ (H : Heap) (locs : List Loc) (ls : Array Slot), wg LX G S s H locs → lv_has ls 2 [] → W p l e R s m args below meth c H locs 0 0 Q (F0 m 15 ls [.int t3]) := by
    intro H locs ls hW hl
    obtain ⟨g6, h⟩ := gd_some h
    cases h
    exact kr _ _ _ _ g6 dX0_isThere_15 hW
  clear h
  have h := e4
  clear e4
  refine lv_icmp_eq (tgt := 14) hx hb dX0_isThere_7 (by decide) (fun q5 => ?_) (fun q5 => ?_)
  · have h := it_p q5 h
    refine lv_iconst (v := 0) hx hb dX0_isThere_14 (by decide) ?_
    cases h
    exact K2 _ _ _ hW (lv_sub hl [] rfl)
  · have h := it_n q5 h
    refine lv_iconst (v := 1) hx hb dX0_isThere_10 (by decide) ?_
    refine lv_goto (tgt := 15) hx hb dX0_isThere_11 (by decide) ?_
    cases h
    exact K2 _ _ _ hW (lv_sub hl [] rfl)
theorem ctX25_isThere {S : St} {x1 : Int32}  {v : Int32} (h : fX25_isThere S x1 = some v) : Met l yX0_isThere (wm yX0_isThere cX0_isThere 2 (some .boolean)) (rmx 0 0) (pcm LX G S [.ref (ad G 25), .int x1]) (qcI LX G S v) 0 0 G.2.2.2 :=
  x_enter (own := RX0) rfl rfl (Nat.le_of_ble_eq_true rfl) (fun p e s m below meth c ls hC hr hk hW hl => wX25_isThere hC (Nat.le_refl _) (Nat.le_refl _)  h (fun H locs ls pc hz hd hW => x_retz hC hr hk hW hz hd) _ _ _ hW hl)
def fX0_refuseCell (S : St) (x1 : Int32) : Option (Int32 × St) :=
  Option.bind (fXs_isCell S x1) fun t1 =>
  if t1 = 0 then
    some ((-1), S)
  else
    Option.bind (fX25_isThere S x1) fun t4 =>
    Option.bind (α := St × Int32) (
      if t4 = 0 then
        Option.bind (fX0_found S 1) fun t10 =>
        some (t10.2, t10.1)
      else
        some (S, 0)
    ) fun t7 =>
    some (t7.2, t7.1)
set_option maxHeartbeats 4000000 in
set_option maxRecDepth 100000 in
theorem wX0_refuseCell {S : St} {x1 : Int32} (hC : CallFix p m c cX9_refuseCell 2 s args lw_g RX9) (hF : 1 ≤ R.frames) (hL : 21 ≤ R.locals)  {v : Int32} {S' : St} (h : fX0_refuseCell S x1 = some (v, S')) (kr : ∀ (H : Heap) (locs : List Loc) (ls : Array Slot) (pc : Nat), decode cX9_refuseCell pc = .ok (.ireturn, 1) → wg LX G (S') s H locs → W p l e R s m args below meth c H locs 0 0 Q (F0 m pc ls [.int v])) : ∀ (H : Heap) (locs : List Loc) (ls : Array Slot), wg LX G S s H locs → lv_has ls 2 [(0, .ref (ad G 0)), (1, .int x1)] → W p l e R s m args below meth c H locs 0 0 Q (F0 m 0 ls []) := by
  have hx := hC.1
  have hb := hC.2.1
  intro H locs ls hW hl
  unfold fX0_refuseCell at h
  refine lv_iload_n hx hb dX9_refuseCell_0 rfl (lv_at hl 1 rfl) ?_
  obtain ⟨t1, e2, h⟩ := bd h
  refine x_goi (x_rs (rest := []) hC hW (ctXs_isCell e2) (cwS_g hC.2.2.2.2 ml_X9_337 ms_X9_isCell md_X9_isCell ⟨(Nat.le_trans (Nat.le_of_ble_eq_true rfl) hF), (Nat.le_trans (Nat.le_of_ble_eq_true rfl) hL)⟩) rfl hl.1 rfl (Nat.le_of_ble_eq_true rfl) dX9_refuseCell_1) hW (fun H locs hW => ?_)
  refine lv_if_ne (tgt := 9) hx hb dX9_refuseCell_4 (by decide) (fun q3 => ?_) (fun q3 => ?_)
  · have h := it_n q3 h
    refine lv_aload_n hx hb dX9_refuseCell_9 rfl (lv_at hl 0 rfl) ?_
    refine gX0_4 hC hW dX9_refuseCell_10 ?_
    refine lv_iload_n hx hb dX9_refuseCell_13 rfl (lv_at hl 1 rfl) ?_
    obtain ⟨t4, e5, h⟩ := bd h
    refine x_goi (x_rv (rest := []) hC hW (ctX25_isThere e5) (cwV_g hC.2.2.2.2 ml_X9_273 mi_X0_isThere md_X0_isThere ⟨(Nat.le_trans (Nat.le_of_ble_eq_true rfl) hF), (Nat.le_trans (Nat.le_of_ble_eq_true rfl) hL)⟩) (rcX25 hW) rfl hl.1 rfl (Nat.le_of_ble_eq_true rfl) dX9_refuseCell_14) hW (fun H locs hW => ?_)
    obtain ⟨t7, e8, h⟩ := bd h
    have K6 : ∀ (H : Heap) (locs : List Loc) (ls : Array Slot), wg LX G t7.1 s H locs → lv_has ls 2 [] → W p l e R s m args below meth c H locs 0 0 Q (F0 m 29 ls [.int t7.2]) := by
      intro H locs ls hW hl
      cases h
      exact kr _ _ _ _ dX9_refuseCell_29 hW
    clear h
    have h := e8
    clear e8
    refine lv_if_eq (tgt := 24) hx hb dX9_refuseCell_17 (by decide) (fun q9 => ?_) (fun q9 => ?_)
    · have h := it_p q9 h
      refine lv_aload_n hx hb dX9_refuseCell_24 rfl (lv_at hl 0 rfl) ?_
      refine lv_iconst (v := 1) hx hb dX9_refuseCell_25 (by decide) ?_
      obtain ⟨t10, e11, h⟩ := bd h
      refine x_goi (x_rv (rest := []) hC hW (ctX0_found e11) (cwV_g hC.2.2.2.2 ml_X9_109 mi_X9_found md_X9_found ⟨(Nat.le_trans (Nat.le_of_ble_eq_true rfl) hF), (Nat.le_trans (Nat.le_of_ble_eq_true rfl) hL)⟩) (rcX0 hW) rfl hl.1 rfl (Nat.le_of_ble_eq_true rfl) dX9_refuseCell_26) hW (fun H locs hW => ?_)
      cases h
      exact K6 _ _ _ hW (lv_sub hl [] rfl)
    · have h := it_n q9 h
      refine lv_iconst (v := 0) hx hb dX9_refuseCell_20 (by decide) ?_
      refine lv_goto (tgt := 29) hx hb dX9_refuseCell_21 (by decide) ?_
      cases h
      exact K6 _ _ _ hW (lv_sub hl [] rfl)
  · have h := it_p q3 h
    refine lv_iconst (v := (-1)) hx hb dX9_refuseCell_7 (by decide) ?_
    cases h
    exact kr _ _ _ _ dX9_refuseCell_8 hW
theorem ctX0_refuseCell {S : St} {x1 : Int32}  {v : Int32} {S' : St} (h : fX0_refuseCell S x1 = some (v, S')) : Met l yX9_refuseCell (wm yX9_refuseCell cX9_refuseCell 2 (some .int)) (rmx 1 21) (pcm LX G S [.ref (ad G 0), .int x1]) (qcI LX G S' v) 0 0 G.2.2.2 :=
  x_enter (own := RX9) rfl rfl (Nat.le_of_ble_eq_true rfl) (fun p e s m below meth c ls hC hr hk hW hl => wX0_refuseCell hC (Nat.le_refl _) (Nat.le_refl _)  h (fun H locs ls pc hd hW => x_reti hC hr hk hW hd) _ _ _ hW hl)
def fX25_kindOf (S : St) (x1 : Int32) : Option (Int32) :=
  gd (inb x1 12) <|
  some (S.1 26 (Int32.toNatClampNeg x1))
set_option maxHeartbeats 4000000 in
set_option maxRecDepth 100000 in
theorem wX25_kindOf {S : St} {x1 : Int32} (hC : CallFix p m c cX0_kindOf 2 s args lw_g RX0) (hF : 0 ≤ R.frames) (hL : 0 ≤ R.locals)  {v : Int32} (h : fX25_kindOf S x1 = some v) (kr : ∀ (H : Heap) (locs : List Loc) (ls : Array Slot) (pc : Nat), decode cX0_kindOf pc = .ok (.ireturn, 1) → wg LX G S s H locs → W p l e R s m args below meth c H locs 0 0 Q (F0 m pc ls [.int v])) : ∀ (H : Heap) (locs : List Loc) (ls : Array Slot), wg LX G S s H locs → lv_has ls 2 [(0, .ref (ad G 25)), (1, .int x1)] → W p l e R s m args below meth c H locs 0 0 Q (F0 m 0 ls []) := by
  have hx := hC.1
  have hb := hC.2.1
  intro H locs ls hW hl
  unfold fX25_kindOf at h
  refine lv_aload_n hx hb dX0_kindOf_0 rfl (lv_at hl 0 rfl) ?_
  refine gX25_1 hC hW dX0_kindOf_1 ?_
  refine lv_iload_n hx hb dX0_kindOf_4 rfl (lv_at hl 1 rfl) ?_
  obtain ⟨g1, h⟩ := gd_some h
  refine x_iald hC hW aX26 g1 dX0_kindOf_5 ?_
  cases h
  exact kr _ _ _ _ dX0_kindOf_6 hW
theorem ctX25_kindOf {S : St} {x1 : Int32}  {v : Int32} (h : fX25_kindOf S x1 = some v) : Met l yX0_kindOf (wm yX0_kindOf cX0_kindOf 2 (some .int)) (rmx 0 0) (pcm LX G S [.ref (ad G 25), .int x1]) (qcI LX G S v) 0 0 G.2.2.2 :=
  x_enter (own := RX0) rfl rfl (Nat.le_of_ble_eq_true rfl) (fun p e s m below meth c ls hC hr hk hW hl => wX25_kindOf hC (Nat.le_refl _) (Nat.le_refl _)  h (fun H locs ls pc hd hW => x_reti hC hr hk hW hd) _ _ _ hW hl)
def fX0_read (S : St) (x1 : Int32) (x2 : Int32) : Option (Int32 × St) :=
  Option.bind (fXs_isNumber S x2) fun t1 =>
  if t1 = 0 then
    some ((-1), S)
  else
    Option.bind (fX0_refuseCell S x1) fun t4 =>
    if t4.1 = 0 then
      Option.bind (fX25_kindOf t4.2 x1) fun t7 =>
      Option.bind (fX25_write t4.2 x1 0 x2 x2) fun t9 =>
      some (t7, t9)
    else
      some (t4.1, t4.2)
set_option maxHeartbeats 4000000 in
set_option maxRecDepth 100000 in
theorem wX0_read {S : St} {x1 : Int32} {x2 : Int32} (hC : CallFix p m c cX9_read 5 s args lw_g RX9) (hF : 2 ≤ R.frames) (hL : 42 ≤ R.locals)  {v : Int32} {S' : St} (h : fX0_read S x1 x2 = some (v, S')) (kr : ∀ (H : Heap) (locs : List Loc) (ls : Array Slot) (pc : Nat), decode cX9_read pc = .ok (.ireturn, 1) → wg LX G (S') s H locs → W p l e R s m args below meth c H locs 0 0 Q (F0 m pc ls [.int v])) : ∀ (H : Heap) (locs : List Loc) (ls : Array Slot), wg LX G S s H locs → lv_has ls 5 [(0, .ref (ad G 0)), (1, .int x1), (2, .int x2)] → W p l e R s m args below meth c H locs 0 0 Q (F0 m 0 ls []) := by
  have hx := hC.1
  have hb := hC.2.1
  intro H locs ls hW hl
  unfold fX0_read at h
  refine lv_iload_n hx hb dX9_read_0 rfl (lv_at hl 2 rfl) ?_
  obtain ⟨t1, e2, h⟩ := bd h
  refine x_goi (x_rs (rest := []) hC hW (ctXs_isNumber e2) (cwS_g hC.2.2.2.2 ml_X9_196 ms_X9_isNumber md_X9_isNumber ⟨(Nat.le_trans (Nat.le_of_ble_eq_true rfl) hF), (Nat.le_trans (Nat.le_of_ble_eq_true rfl) hL)⟩) rfl hl.1 rfl (Nat.le_of_ble_eq_true rfl) dX9_read_1) hW (fun H locs hW => ?_)
  refine lv_if_ne (tgt := 9) hx hb dX9_read_4 (by decide) (fun q3 => ?_) (fun q3 => ?_)
  · have h := it_n q3 h
    refine lv_aload_n hx hb dX9_read_9 rfl (lv_at hl 0 rfl) ?_
    refine lv_iload_n hx hb dX9_read_10 rfl (lv_at hl 1 rfl) ?_
    obtain ⟨t4, e5, h⟩ := bd h
    refine x_goi (x_rv (rest := []) hC hW (ctX0_refuseCell e5) (cwV_g hC.2.2.2.2 ml_X9_199 mi_X9_refuseCell md_X9_refuseCell ⟨(Nat.le_trans (Nat.le_of_ble_eq_true rfl) hF), (Nat.le_trans (Nat.le_of_ble_eq_true rfl) hL)⟩) (rcX0 hW) rfl hl.1 rfl (Nat.le_of_ble_eq_true rfl) dX9_read_11) hW (fun H locs hW => ?_)
    refine lv_istore_n (lv' := [(3, .int t4.1), (0, .ref (ad G 0)), (1, .int x1), (2, .int x2)]) hx hb dX9_read_14 rfl hl (by decide) rfl (fun ls hl => ?_)
    refine lv_iload_n hx hb dX9_read_15 rfl (lv_at hl 0 rfl) ?_
    refine lv_if_eq (tgt := 21) hx hb dX9_read_16 (by decide) (fun q6 => ?_) (fun q6 => ?_)
    · have h := it_p q6 h
      refine lv_aload_n hx hb dX9_read_21 rfl (lv_at hl 1 rfl) ?_
      refine gX0_4 hC hW dX9_read_22 ?_
      refine lv_iload_n hx hb dX9_read_25 rfl (lv_at hl 2 rfl) ?_
      obtain ⟨t7, e8, h⟩ := bd h
      refine x_goi (x_rv (rest := []) hC hW (ctX25_kindOf e8) (cwV_g hC.2.2.2.2 ml_X9_202 mi_X0_kindOf md_X0_kindOf ⟨(Nat.le_trans (Nat.le_of_ble_eq_true rfl) hF), (Nat.le_trans (Nat.le_of_ble_eq_true rfl) hL)⟩) (rcX25 hW) rfl hl.1 rfl (Nat.le_of_ble_eq_true rfl) dX9_read_26) hW (fun H locs hW => ?_)
      refine lv_istore (lv' := [(4, .int t7), (3, .int t4.1), (0, .ref (ad G 0)), (1, .int x1), (2, .int x2)]) hx hb dX9_read_29 hl (by decide) rfl (fun ls hl => ?_)
      refine lv_aload_n hx hb dX9_read_31 rfl (lv_at hl 2 rfl) ?_
      refine gX0_4 hC hW dX9_read_32 ?_
      refine lv_iload_n hx hb dX9_read_35 rfl (lv_at hl 3 rfl) ?_
      refine lv_iconst (v := 0) hx hb dX9_read_36 (by decide) ?_
      refine lv_iload_n hx hb dX9_read_37 rfl (lv_at hl 4 rfl) ?_
      refine lv_iload_n hx hb dX9_read_38 rfl (lv_at hl 4 rfl) ?_
      obtain ⟨t9, e10, h⟩ := bd h
      refine x_gov (x_rv (rest := []) hC hW (ctX25_write e10) (cwV_g hC.2.2.2.2 ml_X9_205 mi_X0_write md_X0_write ⟨(Nat.le_trans (Nat.le_of_ble_eq_true rfl) hF), (Nat.le_trans (Nat.le_of_ble_eq_true rfl) hL)⟩) (rcX25 hW) rfl hl.1 rfl (Nat.le_of_ble_eq_true rfl) dX9_read_39) hW (fun H locs hW => ?_)
      refine lv_iload hx hb dX9_read_42 (lv_at hl 0 rfl) ?_
      cases h
      exact kr _ _ _ _ dX9_read_44 hW
    · have h := it_n q6 h
      refine lv_iload_n hx hb dX9_read_19 rfl (lv_at hl 0 rfl) ?_
      cases h
      exact kr _ _ _ _ dX9_read_20 hW
  · have h := it_p q3 h
    refine lv_iconst (v := (-1)) hx hb dX9_read_7 (by decide) ?_
    cases h
    exact kr _ _ _ _ dX9_read_8 hW
theorem ctX0_read {S : St} {x1 : Int32} {x2 : Int32}  {v : Int32} {S' : St} (h : fX0_read S x1 x2 = some (v, S')) : Met l yX9_read (wm yX9_read cX9_read 5 (some .int)) (rmx 2 42) (pcm LX G S [.ref (ad G 0), .int x1, .int x2]) (qcI LX G S' v) 0 0 G.2.2.2 :=
  x_enter (own := RX9) rfl rfl (Nat.le_of_ble_eq_true rfl) (fun p e s m below meth c ls hC hr hk hW hl => wX0_read hC (Nat.le_refl _) (Nat.le_refl _)  h (fun H locs ls pc hd hW => x_reti hC hr hk hW hd) _ _ _ hW hl)
def fX0_kind (S : St) (x1 : Int32) : Option (Int32 × St) :=
  Option.bind (fX0_refuseCell S x1) fun t1 =>
  if t1.1 = 0 then
    Option.bind (fX25_kindOf t1.2 x1) fun t4 =>
    some (t4, t1.2)
  else
    some (t1.1, t1.2)
set_option maxHeartbeats 4000000 in
set_option maxRecDepth 100000 in
theorem wX0_kind {S : St} {x1 : Int32} (hC : CallFix p m c cX9_kind 3 s args lw_g RX9) (hF : 2 ≤ R.frames) (hL : 42 ≤ R.locals)  {v : Int32} {S' : St} (h : fX0_kind S x1 = some (v, S')) (kr : ∀ (H : Heap) (locs : List Loc) (ls : Array Slot) (pc : Nat), decode cX9_kind pc = .ok (.ireturn, 1) → wg LX G (S') s H locs → W p l e R s m args below meth c H locs 0 0 Q (F0 m pc ls [.int v])) : ∀ (H : Heap) (locs : List Loc) (ls : Array Slot), wg LX G S s H locs → lv_has ls 3 [(0, .ref (ad G 0)), (1, .int x1)] → W p l e R s m args below meth c H locs 0 0 Q (F0 m 0 ls []) := by
  have hx := hC.1
  have hb := hC.2.1
  intro H locs ls hW hl
  unfold fX0_kind at h
  refine lv_aload_n hx hb dX9_kind_0 rfl (lv_at hl 0 rfl) ?_
  refine lv_iload_n hx hb dX9_kind_1 rfl (lv_at hl 1 rfl) ?_
  obtain ⟨t1, e2, h⟩ := bd h
  refine x_goi (x_rv (rest := []) hC hW (ctX0_refuseCell e2) (cwV_g hC.2.2.2.2 ml_X9_199 mi_X9_refuseCell md_X9_refuseCell ⟨(Nat.le_trans (Nat.le_of_ble_eq_true rfl) hF), (Nat.le_trans (Nat.le_of_ble_eq_true rfl) hL)⟩) (rcX0 hW) rfl hl.1 rfl (Nat.le_of_ble_eq_true rfl) dX9_kind_2) hW (fun H locs hW => ?_)
  refine lv_istore_n (lv' := [(2, .int t1.1), (0, .ref (ad G 0)), (1, .int x1)]) hx hb dX9_kind_5 rfl hl (by decide) rfl (fun ls hl => ?_)
  refine lv_iload_n hx hb dX9_kind_6 rfl (lv_at hl 0 rfl) ?_
  refine lv_if_eq (tgt := 12) hx hb dX9_kind_7 (by decide) (fun q3 => ?_) (fun q3 => ?_)
  · have h := it_p q3 h
    refine lv_aload_n hx hb dX9_kind_12 rfl (lv_at hl 1 rfl) ?_
    refine gX0_4 hC hW dX9_kind_13 ?_
    refine lv_iload_n hx hb dX9_kind_16 rfl (lv_at hl 2 rfl) ?_
    obtain ⟨t4, e5, h⟩ := bd h
    refine x_goi (x_rv (rest := []) hC hW (ctX25_kindOf e5) (cwV_g hC.2.2.2.2 ml_X9_202 mi_X0_kindOf md_X0_kindOf ⟨(Nat.le_trans (Nat.le_of_ble_eq_true rfl) hF), (Nat.le_trans (Nat.le_of_ble_eq_true rfl) hL)⟩) (rcX25 hW) rfl hl.1 rfl (Nat.le_of_ble_eq_true rfl) dX9_kind_17) hW (fun H locs hW => ?_)
    cases h
    exact kr _ _ _ _ dX9_kind_20 hW
  · have h := it_n q3 h
    refine lv_iload_n hx hb dX9_kind_10 rfl (lv_at hl 0 rfl) ?_
    cases h
    exact kr _ _ _ _ dX9_kind_11 hW
theorem ctX0_kind {S : St} {x1 : Int32}  {v : Int32} {S' : St} (h : fX0_kind S x1 = some (v, S')) : Met l yX9_kind (wm yX9_kind cX9_kind 3 (some .int)) (rmx 2 42) (pcm LX G S [.ref (ad G 0), .int x1]) (qcI LX G S' v) 0 0 G.2.2.2 :=
  x_enter (own := RX9) rfl rfl (Nat.le_of_ble_eq_true rfl) (fun p e s m below meth c ls hC hr hk hW hl => wX0_kind hC (Nat.le_refl _) (Nat.le_refl _)  h (fun H locs ls pc hd hW => x_reti hC hr hk hW hd) _ _ _ hW hl)
def fXs_figuresOf (S : St) (x0 : Int32) : Option (Int32) :=
  Option.bind (α := Int32) (
    if x0 = 63 then
      some 10
    else
      if x0 = 120 then
        some 2
      else
        some 1
  ) fun t2 =>
  some t2
set_option maxHeartbeats 4000000 in
set_option maxRecDepth 100000 in
theorem wXs_figuresOf {S : St} {x0 : Int32} (hC : CallFix p m c cX0_figuresOf 1 s args lw_g RX0) (hF : 0 ≤ R.frames) (hL : 0 ≤ R.locals)  {v : Int32} (h : fXs_figuresOf S x0 = some v) (kr : ∀ (H : Heap) (locs : List Loc) (ls : Array Slot) (pc : Nat), decode cX0_figuresOf pc = .ok (.ireturn, 1) → wg LX G S s H locs → W p l e R s m args below meth c H locs 0 0 Q (F0 m pc ls [.int v])) : ∀ (H : Heap) (locs : List Loc) (ls : Array Slot), wg LX G S s H locs → lv_has ls 1 [(0, .int x0)] → W p l e R s m args below meth c H locs 0 0 Q (F0 m 0 ls []) := by
  have hx := hC.1
  have hb := hC.2.1
  intro H locs ls hW hl
  unfold fXs_figuresOf at h
  refine lv_iload_n hx hb dX0_figuresOf_0 rfl (lv_at hl 0 rfl) ?_
  refine lv_bipush (v := 63) hx hb dX0_figuresOf_1 (by decide) ?_
  obtain ⟨t2, e3, h⟩ := bd h
  have K1 : ∀ (H : Heap) (locs : List Loc) (ls : Array Slot), wg LX G S s H locs → lv_has ls 1 [] → W p l e R s m args below meth c H locs 0 0 Q (F0 m 22 ls [.int t2]) := by
    intro H locs ls hW hl
    cases h
    exact kr _ _ _ _ dX0_figuresOf_22 hW
  clear h
  have h := e3
  clear e3
  refine lv_icmp_ne (tgt := 11) hx hb dX0_figuresOf_3 (by decide) (fun q4 => ?_) (fun q4 => ?_)
  · have h := it_n q4 h
    refine lv_iload_n hx hb dX0_figuresOf_11 rfl (lv_at hl 0 rfl) ?_
    refine lv_bipush (v := 120) hx hb dX0_figuresOf_12 (by decide) ?_
    refine lv_icmp_ne (tgt := 21) hx hb dX0_figuresOf_14 (by decide) (fun q5 => ?_) (fun q5 => ?_)
    · have h := it_n q5 h
      refine lv_iconst (v := 1) hx hb dX0_figuresOf_21 (by decide) ?_
      cases h
      exact K1 _ _ _ hW (lv_sub hl [] rfl)
    · have h := it_p q5 h
      refine lv_iconst (v := 2) hx hb dX0_figuresOf_17 (by decide) ?_
      refine lv_goto (tgt := 22) hx hb dX0_figuresOf_18 (by decide) ?_
      cases h
      exact K1 _ _ _ hW (lv_sub hl [] rfl)
  · have h := it_p q4 h
    refine lv_bipush (v := 10) hx hb dX0_figuresOf_6 (by decide) ?_
    refine lv_goto (tgt := 22) hx hb dX0_figuresOf_8 (by decide) ?_
    cases h
    exact K1 _ _ _ hW (lv_sub hl [] rfl)
theorem ctXs_figuresOf {S : St} {x0 : Int32}  {v : Int32} (h : fXs_figuresOf S x0 = some v) : Met l yX0_figuresOf (wm yX0_figuresOf cX0_figuresOf 1 (some .int)) (rmx 0 0) (pcm LX G S [.int x0]) (qcI LX G S v) 0 0 G.2.2.2 :=
  x_enter (own := RX0) rfl rfl (Nat.le_of_ble_eq_true rfl) (fun p e s m below meth c ls hC hr hk hW hl => wXs_figuresOf hC (Nat.le_refl _) (Nat.le_refl _)  h (fun H locs ls pc hd hW => x_reti hC hr hk hW hd) _ _ _ hW hl)
def fX22_howManyUnlike_L4 (N : Nat) (S : St)  : Nat → Int32 → Int32 → Option (Int32)
  | 0, _, _ => none
  | n + 1, x1, x2 =>
    if 100 ≤ x2 then
      some x1
    else
      gd (inb x2 100) <|
      Option.bind (α := Int32) (
        if (S.1 24 (Int32.toNatClampNeg x2)) ≤ 0 then
          some 0
        else
          some 1
      ) fun t4 =>
      fX22_howManyUnlike_L4 N S n (x1 + t4) (x2 + 1)
set_option maxHeartbeats 4000000 in
set_option maxRecDepth 100000 in
theorem wX22_howManyUnlike_L4 {N : Nat} {S : St}  (hC : CallFix p m c cX1_howManyUnlike 3 s args lw_g RX1) (hF : 0 ≤ R.frames) (hL : 0 ≤ R.locals)  {t : Int32} (kx : ∀ (H : Heap) (locs : List Loc) (ls : Array Slot), wg LX G S s H locs → lv_has ls 3 [(1, .int t)] → W p l e R s m args below meth c H locs 0 0 Q (F0 m 33 ls [])) : ∀ (n : Nat) (x1 : Int32) (x2 : Int32), fX22_howManyUnlike_L4 N S  n x1 x2 = some t → ∀ (H : Heap) (locs : List Loc) (ls : Array Slot), wg LX G S s H locs → lv_has ls 3 [(0, .ref (ad G 22)), (1, .int x1), (2, .int x2)] → W p l e R s m args below meth c H locs 0 0 Q (F0 m 4 ls []) := by
  have hx := hC.1
  have hb := hC.2.1
  intro n
  induction n with
  | zero =>
    intro _ _ h
    cases h
  | succ n ih =>
    intro x1 x2 h H locs ls hW hl
    rw [fX22_howManyUnlike_L4] at h
    refine lv_iload_n hx hb dX1_howManyUnlike_4 rfl (lv_at hl 2 rfl) ?_
    refine lv_bipush (v := 100) hx hb dX1_howManyUnlike_5 (by decide) ?_
    refine lv_icmp_ge (tgt := 33) hx hb dX1_howManyUnlike_7 (by decide) (fun q1 => ?_) (fun q1 => ?_)
    · have h := it_p q1 h
      cases h
      exact kx _ _ _ hW (lv_sub hl [1] rfl)
    · have h := it_n q1 h
      refine lv_iload_n hx hb dX1_howManyUnlike_10 rfl (lv_at hl 1 rfl) ?_
      refine lv_aload_n hx hb dX1_howManyUnlike_11 rfl (lv_at hl 0 rfl) ?_
      refine gX22_1 hC hW dX1_howManyUnlike_12 ?_
      refine lv_iload_n hx hb dX1_howManyUnlike_15 rfl (lv_at hl 2 rfl) ?_
      obtain ⟨g2, h⟩ := gd_some h
      refine x_iald hC hW aX24 g2 dX1_howManyUnlike_16 ?_
      obtain ⟨t4, e5, h⟩ := bd h
      have K3 : ∀ (H : Heap) (locs : List Loc) (ls : Array Slot), wg LX G S s H locs → lv_has ls 3 [(0, .ref (ad G 22)), (2, .int x2)] → W p l e R s m args below meth c H locs 0 0 Q (F0 m 25 ls [.int t4, .int x1]) := by
        intro H locs ls hW hl
        refine lv_iadd hx hb dX1_howManyUnlike_25 ?_
        refine lv_istore_n (lv' := [(1, .int (x1 + t4)), (0, .ref (ad G 22)), (2, .int x2)]) hx hb dX1_howManyUnlike_26 rfl hl (by decide) rfl (fun ls hl => ?_)
        refine lv_iinc (v := x2 + 1) (lv' := [(2, .int (x2 + 1)), (1, .int (x1 + t4)), (0, .ref (ad G 22))]) (k := 2) hx hb dX1_howManyUnlike_27 hl rfl rfl (by decide) rfl (fun ls hl => ?_)
        refine lv_goto (tgt := 4) hx hb dX1_howManyUnlike_30 (by decide) ?_
        exact ih _ _ h _ _ _ hW (lv_sub hl [2, 1, 0] rfl)
      clear h
      have h := e5
      clear e5
      refine lv_if_le (tgt := 24) hx hb dX1_howManyUnlike_17 (by decide) (fun q6 => ?_) (fun q6 => ?_)
      · have h := it_p q6 h
        refine lv_iconst (v := 0) hx hb dX1_howManyUnlike_24 (by decide) ?_
        cases h
        exact K3 _ _ _ hW (lv_sub hl [0, 2] rfl)
      · have h := it_n q6 h
        refine lv_iconst (v := 1) hx hb dX1_howManyUnlike_20 (by decide) ?_
        refine lv_goto (tgt := 25) hx hb dX1_howManyUnlike_21 (by decide) ?_
        cases h
        exact K3 _ _ _ hW (lv_sub hl [0, 2] rfl)
def fX22_howManyUnlike (N : Nat) (S : St)  : Option (Int32) :=
  Option.bind (fX22_howManyUnlike_L4 N S N 0 0) fun t7 =>
  some t7
set_option maxHeartbeats 4000000 in
set_option maxRecDepth 100000 in
theorem wX22_howManyUnlike {N : Nat} {S : St}  (hC : CallFix p m c cX1_howManyUnlike 3 s args lw_g RX1) (hF : 0 ≤ R.frames) (hL : 0 ≤ R.locals)  {v : Int32} (h : fX22_howManyUnlike N S = some v) (kr : ∀ (H : Heap) (locs : List Loc) (ls : Array Slot) (pc : Nat), decode cX1_howManyUnlike pc = .ok (.ireturn, 1) → wg LX G S s H locs → W p l e R s m args below meth c H locs 0 0 Q (F0 m pc ls [.int v])) : ∀ (H : Heap) (locs : List Loc) (ls : Array Slot), wg LX G S s H locs → lv_has ls 3 [(0, .ref (ad G 22))] → W p l e R s m args below meth c H locs 0 0 Q (F0 m 0 ls []) := by
  have hx := hC.1
  have hb := hC.2.1
  intro H locs ls hW hl
  unfold fX22_howManyUnlike at h
  refine lv_iconst (v := 0) hx hb dX1_howManyUnlike_0 (by decide) ?_
  refine lv_istore_n (lv' := [(1, .int 0), (0, .ref (ad G 22))]) hx hb dX1_howManyUnlike_1 rfl hl (by decide) rfl (fun ls hl => ?_)
  refine lv_iconst (v := 0) hx hb dX1_howManyUnlike_2 (by decide) ?_
  refine lv_istore_n (lv' := [(2, .int 0), (1, .int 0), (0, .ref (ad G 22))]) hx hb dX1_howManyUnlike_3 rfl hl (by decide) rfl (fun ls hl => ?_)
  obtain ⟨t7, e8, h⟩ := bd h
  refine wX22_howManyUnlike_L4 hC hF hL  (fun H locs ls hW hl => ?_) _ _ _ e8 _ _ _ hW (lv_sub hl [2, 1, 0] rfl)
  refine lv_iload_n hx hb dX1_howManyUnlike_33 rfl (lv_at hl 0 rfl) ?_
  cases h
  exact kr _ _ _ _ dX1_howManyUnlike_34 hW
theorem ctX22_howManyUnlike {N : Nat} {S : St}   {v : Int32} (h : fX22_howManyUnlike N S = some v) : Met l yX1_howManyUnlike (wm yX1_howManyUnlike cX1_howManyUnlike 3 (some .int)) (rmx 0 0) (pcm LX G S [.ref (ad G 22)]) (qcI LX G S v) 0 0 G.2.2.2 :=
  x_enter (own := RX1) rfl rfl (Nat.le_of_ble_eq_true rfl) (fun p e s m below meth c ls hC hr hk hW hl => wX22_howManyUnlike hC (Nat.le_refl _) (Nat.le_refl _)  h (fun H locs ls pc hd hW => x_reti hC hr hk hW hd) _ _ _ hW hl)
def fX25_tells (N : Nat) (S : St) (x1 : Int32) : Option (Int32) :=
  gd (inb x1 12) <|
  if (S.1 26 (Int32.toNatClampNeg x1)) = 1 then
    gd (inb x1 12) <|
    Option.bind (fXs_figuresOf S (S.1 27 (Int32.toNatClampNeg x1))) fun t4 =>
    gd (inb x1 12) <|
    Option.bind (fXs_figuresOf S (S.1 28 (Int32.toNatClampNeg x1))) fun t7 =>
    some (t4 * t7)
  else
  if (S.1 26 (Int32.toNatClampNeg x1)) = 2 then
    gd (inb x1 12) <|
    gd (inb x1 12) <|
    some ((12 * (S.1 27 (Int32.toNatClampNeg x1))) + (S.1 28 (Int32.toNatClampNeg x1)))
  else
  if (S.1 26 (Int32.toNatClampNeg x1)) = 3 then
    Option.bind (fX22_howManyUnlike N S) fun t11 =>
    some t11
  else
  if (S.1 26 (Int32.toNatClampNeg x1)) = 4 then
    gd (inb x1 12) <|
    some (S.1 27 (Int32.toNatClampNeg x1))
  else
  gd (inb x1 12) <|
  gd (inb x1 12) <|
  some ((100 * (S.1 27 (Int32.toNatClampNeg x1))) + (S.1 28 (Int32.toNatClampNeg x1)))
set_option maxHeartbeats 4000000 in
set_option maxRecDepth 100000 in
theorem wX25_tells {N : Nat} {S : St} {x1 : Int32} (hC : CallFix p m c cX0_tells 2 s args lw_g RX0) (hF : 1 ≤ R.frames) (hL : 22 ≤ R.locals)  {v : Int32} (h : fX25_tells N S x1 = some v) (kr : ∀ (H : Heap) (locs : List Loc) (ls : Array Slot) (pc : Nat), decode cX0_tells pc = .ok (.ireturn, 1) → wg LX G S s H locs → W p l e R s m args below meth c H locs 0 0 Q (F0 m pc ls [.int v])) : ∀ (H : Heap) (locs : List Loc) (ls : Array Slot), wg LX G S s H locs → lv_has ls 2 [(0, .ref (ad G 25)), (1, .int x1)] → W p l e R s m args below meth c H locs 0 0 Q (F0 m 0 ls []) := by
  have hx := hC.1
  have hb := hC.2.1
  intro H locs ls hW hl
  unfold fX25_tells at h
  refine lv_aload_n hx hb dX0_tells_0 rfl (lv_at hl 0 rfl) ?_
  refine gX25_1 hC hW dX0_tells_1 ?_
  refine lv_iload_n hx hb dX0_tells_4 rfl (lv_at hl 1 rfl) ?_
  obtain ⟨g1, h⟩ := gd_some h
  refine x_iald hC hW aX26 g1 dX0_tells_5 ?_
  by_cases q2_0 : (S.1 26 (Int32.toNatClampNeg x1)) = 1
  · have h := it_p q2_0 h
    refine lv_tableIn (off := 30) (tgt := 36) hx hb dX0_tells_6 (by rw [q2_0]; decide) (by rw [q2_0]; decide) (by rw [q2_0]; rfl) (by decide) ?_
    refine lv_aload_n hx hb dX0_tells_36 rfl (lv_at hl 0 rfl) ?_
    refine gX25_2 hC hW dX0_tells_37 ?_
    refine lv_iload_n hx hb dX0_tells_40 rfl (lv_at hl 1 rfl) ?_
    obtain ⟨g3, h⟩ := gd_some h
    refine x_iald hC hW aX27 g3 dX0_tells_41 ?_
    obtain ⟨t4, e5, h⟩ := bd h
    refine x_goi (x_rs (rest := []) hC hW (ctXs_figuresOf e5) (cwS_g hC.2.2.2.2 ml_X0_35 ms_X0_figuresOf md_X0_figuresOf ⟨(Nat.le_trans (Nat.le_of_ble_eq_true rfl) hF), (Nat.le_trans (Nat.le_of_ble_eq_true rfl) hL)⟩) rfl hl.1 rfl (Nat.le_of_ble_eq_true rfl) dX0_tells_42) hW (fun H locs hW => ?_)
    refine lv_aload_n hx hb dX0_tells_45 rfl (lv_at hl 0 rfl) ?_
    refine gX25_3 hC hW dX0_tells_46 ?_
    refine lv_iload_n hx hb dX0_tells_49 rfl (lv_at hl 1 rfl) ?_
    obtain ⟨g6, h⟩ := gd_some h
    refine x_iald hC hW aX28 g6 dX0_tells_50 ?_
    obtain ⟨t7, e8, h⟩ := bd h
    refine x_goi (x_rs (rest := [.int t4]) hC hW (ctXs_figuresOf e8) (cwS_g hC.2.2.2.2 ml_X0_35 ms_X0_figuresOf md_X0_figuresOf ⟨(Nat.le_trans (Nat.le_of_ble_eq_true rfl) hF), (Nat.le_trans (Nat.le_of_ble_eq_true rfl) hL)⟩) rfl hl.1 rfl (Nat.le_of_ble_eq_true rfl) dX0_tells_51) hW (fun H locs hW => ?_)
    refine lv_imul hx hb dX0_tells_54 ?_
    cases h
    exact kr _ _ _ _ dX0_tells_55 hW
  have h := it_n q2_0 h
  by_cases q2_1 : (S.1 26 (Int32.toNatClampNeg x1)) = 2
  · have h := it_p q2_1 h
    refine lv_tableIn (off := 50) (tgt := 56) hx hb dX0_tells_6 (by rw [q2_1]; decide) (by rw [q2_1]; decide) (by rw [q2_1]; rfl) (by decide) ?_
    refine lv_bipush (v := 12) hx hb dX0_tells_56 (by decide) ?_
    refine lv_aload_n hx hb dX0_tells_58 rfl (lv_at hl 0 rfl) ?_
    refine gX25_2 hC hW dX0_tells_59 ?_
    refine lv_iload_n hx hb dX0_tells_62 rfl (lv_at hl 1 rfl) ?_
    obtain ⟨g9, h⟩ := gd_some h
    refine x_iald hC hW aX27 g9 dX0_tells_63 ?_
    refine lv_imul hx hb dX0_tells_64 ?_
    refine lv_aload_n hx hb dX0_tells_65 rfl (lv_at hl 0 rfl) ?_
    refine gX25_3 hC hW dX0_tells_66 ?_
    refine lv_iload_n hx hb dX0_tells_69 rfl (lv_at hl 1 rfl) ?_
    obtain ⟨g10, h⟩ := gd_some h
    refine x_iald hC hW aX28 g10 dX0_tells_70 ?_
    refine lv_iadd hx hb dX0_tells_71 ?_
    cases h
    exact kr _ _ _ _ dX0_tells_72 hW
  have h := it_n q2_1 h
  by_cases q2_2 : (S.1 26 (Int32.toNatClampNeg x1)) = 3
  · have h := it_p q2_2 h
    refine lv_tableIn (off := 67) (tgt := 73) hx hb dX0_tells_6 (by rw [q2_2]; decide) (by rw [q2_2]; decide) (by rw [q2_2]; rfl) (by decide) ?_
    refine lv_aload_n hx hb dX0_tells_73 rfl (lv_at hl 0 rfl) ?_
    refine gX25_0 hC hW dX0_tells_74 ?_
    obtain ⟨t11, e12, h⟩ := bd h
    refine x_goi (x_rv (rest := []) hC hW (ctX22_howManyUnlike e12) (cwV_g hC.2.2.2.2 ml_X0_38 mi_X1_howManyUnlike md_X1_howManyUnlike ⟨(Nat.le_trans (Nat.le_of_ble_eq_true rfl) hF), (Nat.le_trans (Nat.le_of_ble_eq_true rfl) hL)⟩) (rcX22 hW) rfl hl.1 rfl (Nat.le_of_ble_eq_true rfl) dX0_tells_77) hW (fun H locs hW => ?_)
    cases h
    exact kr _ _ _ _ dX0_tells_80 hW
  have h := it_n q2_2 h
  by_cases q2_3 : (S.1 26 (Int32.toNatClampNeg x1)) = 4
  · have h := it_p q2_3 h
    refine lv_tableIn (off := 75) (tgt := 81) hx hb dX0_tells_6 (by rw [q2_3]; decide) (by rw [q2_3]; decide) (by rw [q2_3]; rfl) (by decide) ?_
    refine lv_aload_n hx hb dX0_tells_81 rfl (lv_at hl 0 rfl) ?_
    refine gX25_2 hC hW dX0_tells_82 ?_
    refine lv_iload_n hx hb dX0_tells_85 rfl (lv_at hl 1 rfl) ?_
    obtain ⟨g13, h⟩ := gd_some h
    refine x_iald hC hW aX27 g13 dX0_tells_86 ?_
    cases h
    exact kr _ _ _ _ dX0_tells_87 hW
  have h := it_n q2_3 h
  have q2_0i := lv_neT (a := 1) q2_0 (by decide)
  have q2_1i := lv_neT (a := 2) q2_1 (by decide)
  have q2_2i := lv_neT (a := 3) q2_2 (by decide)
  have q2_3i := lv_neT (a := 4) q2_3 (by decide)
  refine lv_tableOut (tgt := 88) hx hb dX0_tells_6 (by omega) (by decide) ?_
  refine lv_bipush (v := 100) hx hb dX0_tells_88 (by decide) ?_
  refine lv_aload_n hx hb dX0_tells_90 rfl (lv_at hl 0 rfl) ?_
  refine gX25_2 hC hW dX0_tells_91 ?_
  refine lv_iload_n hx hb dX0_tells_94 rfl (lv_at hl 1 rfl) ?_
  obtain ⟨g14, h⟩ := gd_some h
  refine x_iald hC hW aX27 g14 dX0_tells_95 ?_
  refine lv_imul hx hb dX0_tells_96 ?_
  refine lv_aload_n hx hb dX0_tells_97 rfl (lv_at hl 0 rfl) ?_
  refine gX25_3 hC hW dX0_tells_98 ?_
  refine lv_iload_n hx hb dX0_tells_101 rfl (lv_at hl 1 rfl) ?_
  obtain ⟨g15, h⟩ := gd_some h
  refine x_iald hC hW aX28 g15 dX0_tells_102 ?_
  refine lv_iadd hx hb dX0_tells_103 ?_
  cases h
  exact kr _ _ _ _ dX0_tells_104 hW
theorem ctX25_tells {N : Nat} {S : St} {x1 : Int32}  {v : Int32} (h : fX25_tells N S x1 = some v) : Met l yX0_tells (wm yX0_tells cX0_tells 2 (some .int)) (rmx 1 22) (pcm LX G S [.ref (ad G 25), .int x1]) (qcI LX G S v) 0 0 G.2.2.2 :=
  x_enter (own := RX0) rfl rfl (Nat.le_of_ble_eq_true rfl) (fun p e s m below meth c ls hC hr hk hW hl => wX25_tells hC (Nat.le_refl _) (Nat.le_refl _)  h (fun H locs ls pc hd hW => x_reti hC hr hk hW hd) _ _ _ hW hl)
def fX0_mark (N : Nat) (S : St) (x1 : Int32) (x2 : Int32) : Option (Int32 × St) :=
  if x2 ≤ 0 then
    some ((-1), S)
  else
    if x2 ≤ 5 then
      Option.bind (fX0_refuseCell S x1) fun t3 =>
      if t3.1 = 0 then
        Option.bind (fX25_kindOf t3.2 x1) fun t6 =>
        if t6 = x2 then
          Option.bind (fX25_tells N t3.2 x1) fun t9 =>
          some (t9, t3.2)
        else
          Option.bind (fX0_found t3.2 3) fun t11 =>
          some (t11.1, t11.2)
      else
        some (t3.1, t3.2)
    else
      some ((-1), S)
set_option maxHeartbeats 4000000 in
set_option maxRecDepth 100000 in
theorem wX0_mark {N : Nat} {S : St} {x1 : Int32} {x2 : Int32} (hC : CallFix p m c cX9_mark 4 s args lw_g RX9) (hF : 2 ≤ R.frames) (hL : 43 ≤ R.locals)  {v : Int32} {S' : St} (h : fX0_mark N S x1 x2 = some (v, S')) (kr : ∀ (H : Heap) (locs : List Loc) (ls : Array Slot) (pc : Nat), decode cX9_mark pc = .ok (.ireturn, 1) → wg LX G (S') s H locs → W p l e R s m args below meth c H locs 0 0 Q (F0 m pc ls [.int v])) : ∀ (H : Heap) (locs : List Loc) (ls : Array Slot), wg LX G S s H locs → lv_has ls 4 [(0, .ref (ad G 0)), (1, .int x1), (2, .int x2)] → W p l e R s m args below meth c H locs 0 0 Q (F0 m 0 ls []) := by
  have hx := hC.1
  have hb := hC.2.1
  intro H locs ls hW hl
  unfold fX0_mark at h
  refine lv_iload_n hx hb dX9_mark_0 rfl (lv_at hl 2 rfl) ?_
  refine lv_if_le (tgt := 9) hx hb dX9_mark_1 (by decide) (fun q1 => ?_) (fun q1 => ?_)
  · have h := it_p q1 h
    refine lv_iconst (v := (-1)) hx hb dX9_mark_9 (by decide) ?_
    cases h
    exact kr _ _ _ _ dX9_mark_10 hW
  · have h := it_n q1 h
    refine lv_iload_n hx hb dX9_mark_4 rfl (lv_at hl 2 rfl) ?_
    refine lv_iconst (v := 5) hx hb dX9_mark_5 (by decide) ?_
    refine lv_icmp_le (tgt := 11) hx hb dX9_mark_6 (by decide) (fun q2 => ?_) (fun q2 => ?_)
    · have h := it_p q2 h
      refine lv_aload_n hx hb dX9_mark_11 rfl (lv_at hl 0 rfl) ?_
      refine lv_iload_n hx hb dX9_mark_12 rfl (lv_at hl 1 rfl) ?_
      obtain ⟨t3, e4, h⟩ := bd h
      refine x_goi (x_rv (rest := []) hC hW (ctX0_refuseCell e4) (cwV_g hC.2.2.2.2 ml_X9_199 mi_X9_refuseCell md_X9_refuseCell ⟨(Nat.le_trans (Nat.le_of_ble_eq_true rfl) hF), (Nat.le_trans (Nat.le_of_ble_eq_true rfl) hL)⟩) (rcX0 hW) rfl hl.1 rfl (Nat.le_of_ble_eq_true rfl) dX9_mark_13) hW (fun H locs hW => ?_)
      refine lv_istore_n (lv' := [(3, .int t3.1), (0, .ref (ad G 0)), (1, .int x1), (2, .int x2)]) hx hb dX9_mark_16 rfl hl (by decide) rfl (fun ls hl => ?_)
      refine lv_iload_n hx hb dX9_mark_17 rfl (lv_at hl 0 rfl) ?_
      refine lv_if_eq (tgt := 23) hx hb dX9_mark_18 (by decide) (fun q5 => ?_) (fun q5 => ?_)
      · have h := it_p q5 h
        refine lv_aload_n hx hb dX9_mark_23 rfl (lv_at hl 1 rfl) ?_
        refine gX0_4 hC hW dX9_mark_24 ?_
        refine lv_iload_n hx hb dX9_mark_27 rfl (lv_at hl 2 rfl) ?_
        obtain ⟨t6, e7, h⟩ := bd h
        refine x_goi (x_rv (rest := []) hC hW (ctX25_kindOf e7) (cwV_g hC.2.2.2.2 ml_X9_202 mi_X0_kindOf md_X0_kindOf ⟨(Nat.le_trans (Nat.le_of_ble_eq_true rfl) hF), (Nat.le_trans (Nat.le_of_ble_eq_true rfl) hL)⟩) (rcX25 hW) rfl hl.1 rfl (Nat.le_of_ble_eq_true rfl) dX9_mark_28) hW (fun H locs hW => ?_)
        refine lv_iload_n hx hb dX9_mark_31 rfl (lv_at hl 3 rfl) ?_
        refine lv_icmp_eq (tgt := 41) hx hb dX9_mark_32 (by decide) (fun q8 => ?_) (fun q8 => ?_)
        · have h := it_p q8 h
          refine lv_aload_n hx hb dX9_mark_41 rfl (lv_at hl 1 rfl) ?_
          refine gX0_4 hC hW dX9_mark_42 ?_
          refine lv_iload_n hx hb dX9_mark_45 rfl (lv_at hl 2 rfl) ?_
          obtain ⟨t9, e10, h⟩ := bd h
          refine x_goi (x_rv (rest := []) hC hW (ctX25_tells e10) (cwV_g hC.2.2.2.2 ml_X9_209 mi_X0_tells md_X0_tells ⟨(Nat.le_trans (Nat.le_of_ble_eq_true rfl) hF), (Nat.le_trans (Nat.le_of_ble_eq_true rfl) hL)⟩) (rcX25 hW) rfl hl.1 rfl (Nat.le_of_ble_eq_true rfl) dX9_mark_46) hW (fun H locs hW => ?_)
          cases h
          exact kr _ _ _ _ dX9_mark_49 hW
        · have h := it_n q8 h
          refine lv_aload_n hx hb dX9_mark_35 rfl (lv_at hl 1 rfl) ?_
          refine lv_iconst (v := 3) hx hb dX9_mark_36 (by decide) ?_
          obtain ⟨t11, e12, h⟩ := bd h
          refine x_goi (x_rv (rest := []) hC hW (ctX0_found e12) (cwV_g hC.2.2.2.2 ml_X9_109 mi_X9_found md_X9_found ⟨(Nat.le_trans (Nat.le_of_ble_eq_true rfl) hF), (Nat.le_trans (Nat.le_of_ble_eq_true rfl) hL)⟩) (rcX0 hW) rfl hl.1 rfl (Nat.le_of_ble_eq_true rfl) dX9_mark_37) hW (fun H locs hW => ?_)
          cases h
          exact kr _ _ _ _ dX9_mark_40 hW
      · have h := it_n q5 h
        refine lv_iload_n hx hb dX9_mark_21 rfl (lv_at hl 0 rfl) ?_
        cases h
        exact kr _ _ _ _ dX9_mark_22 hW
    · have h := it_n q2 h
      refine lv_iconst (v := (-1)) hx hb dX9_mark_9 (by decide) ?_
      cases h
      exact kr _ _ _ _ dX9_mark_10 hW
theorem ctX0_mark {N : Nat} {S : St} {x1 : Int32} {x2 : Int32}  {v : Int32} {S' : St} (h : fX0_mark N S x1 x2 = some (v, S')) : Met l yX9_mark (wm yX9_mark cX9_mark 4 (some .int)) (rmx 2 43) (pcm LX G S [.ref (ad G 0), .int x1, .int x2]) (qcI LX G S' v) 0 0 G.2.2.2 :=
  x_enter (own := RX9) rfl rfl (Nat.le_of_ble_eq_true rfl) (fun p e s m below meth c ls hC hr hk hW hl => wX0_mark hC (Nat.le_refl _) (Nat.le_refl _)  h (fun H locs ls pc hd hW => x_reti hC hr hk hW hd) _ _ _ hW hl)
def fXs_fits (S : St) (x0 : Int32) (x1 : Int32) : Option (Int32) :=
  if x0 = 120 then
    Option.bind (α := Int32) (
      if x1 = 3 then
        some 1
      else
        if x1 = 8 then
          some 1
        else
          some 0
    ) fun t9 =>
    gd (isb t9) <|
    some t9
  else
    Option.bind (α := Int32) (
      if x0 = 63 then
        some 1
      else
        if (x0 - 48) = x1 then
          some 1
        else
          some 0
    ) fun t3 =>
    gd (isb t3) <|
    some t3
set_option maxHeartbeats 4000000 in
set_option maxRecDepth 100000 in
theorem wXs_fits {S : St} {x0 : Int32} {x1 : Int32} (hC : CallFix p m c cX0_fits 2 s args lw_g RX0) (hF : 0 ≤ R.frames) (hL : 0 ≤ R.locals)  {v : Int32} (h : fXs_fits S x0 x1 = some v) (kr : ∀ (H : Heap) (locs : List Loc) (ls : Array Slot) (pc : Nat), isb v = true → decode cX0_fits pc = .ok (.ireturn, 1) → wg LX G S s H locs → W p l e R s m args below meth c H locs 0 0 Q (F0 m pc ls [.int v])) : ∀ (H : Heap) (locs : List Loc) (ls : Array Slot), wg LX G S s H locs → lv_has ls 2 [(0, .int x0), (1, .int x1)] → W p l e R s m args below meth c H locs 0 0 Q (F0 m 0 ls []) := by
  have hx := hC.1
  have hb := hC.2.1
  intro H locs ls hW hl
  unfold fXs_fits at h
  refine lv_iload_n hx hb dX0_fits_0 rfl (lv_at hl 0 rfl) ?_
  refine lv_bipush (v := 120) hx hb dX0_fits_1 (by decide) ?_
  refine lv_icmp_ne (tgt := 23) hx hb dX0_fits_3 (by decide) (fun q1 => ?_) (fun q1 => ?_)
  · have h := it_n q1 h
    refine lv_iload_n hx hb dX0_fits_23 rfl (lv_at hl 0 rfl) ?_
    refine lv_bipush (v := 63) hx hb dX0_fits_24 (by decide) ?_
    obtain ⟨t3, e4, h⟩ := bd h
    have K2 : ∀ (H : Heap) (locs : List Loc) (ls : Array Slot), wg LX G S s H locs → lv_has ls 2 [] → W p l e R s m args below meth c H locs 0 0 Q (F0 m 42 ls [.int t3]) := by
      intro H locs ls hW hl
      obtain ⟨g7, h⟩ := gd_some h
      cases h
      exact kr _ _ _ _ g7 dX0_fits_42 hW
    clear h
    have h := e4
    clear e4
    refine lv_icmp_eq (tgt := 37) hx hb dX0_fits_26 (by decide) (fun q5 => ?_) (fun q5 => ?_)
    · have h := it_p q5 h
      refine lv_iconst (v := 1) hx hb dX0_fits_37 (by decide) ?_
      refine lv_goto (tgt := 42) hx hb dX0_fits_38 (by decide) ?_
      cases h
      exact K2 _ _ _ hW (lv_sub hl [] rfl)
    · have h := it_n q5 h
      refine lv_iload_n hx hb dX0_fits_29 rfl (lv_at hl 0 rfl) ?_
      refine lv_bipush (v := 48) hx hb dX0_fits_30 (by decide) ?_
      refine lv_isub hx hb dX0_fits_32 ?_
      refine lv_iload_n hx hb dX0_fits_33 rfl (lv_at hl 1 rfl) ?_
      refine lv_icmp_ne (tgt := 41) hx hb dX0_fits_34 (by decide) (fun q6 => ?_) (fun q6 => ?_)
      · have h := it_n q6 h
        refine lv_iconst (v := 0) hx hb dX0_fits_41 (by decide) ?_
        cases h
        exact K2 _ _ _ hW (lv_sub hl [] rfl)
      · have h := it_p q6 h
        refine lv_iconst (v := 1) hx hb dX0_fits_37 (by decide) ?_
        refine lv_goto (tgt := 42) hx hb dX0_fits_38 (by decide) ?_
        cases h
        exact K2 _ _ _ hW (lv_sub hl [] rfl)
  · have h := it_p q1 h
    refine lv_iload_n hx hb dX0_fits_6 rfl (lv_at hl 1 rfl) ?_
    refine lv_iconst (v := 3) hx hb dX0_fits_7 (by decide) ?_
    obtain ⟨t9, e10, h⟩ := bd h
    have K8 : ∀ (H : Heap) (locs : List Loc) (ls : Array Slot), wg LX G S s H locs → lv_has ls 2 [] → W p l e R s m args below meth c H locs 0 0 Q (F0 m 22 ls [.int t9]) := by
      intro H locs ls hW hl
      obtain ⟨g13, h⟩ := gd_some h
      cases h
      exact kr _ _ _ _ g13 dX0_fits_22 hW
    clear h
    have h := e10
    clear e10
    refine lv_icmp_eq (tgt := 17) hx hb dX0_fits_8 (by decide) (fun q11 => ?_) (fun q11 => ?_)
    · have h := it_p q11 h
      refine lv_iconst (v := 1) hx hb dX0_fits_17 (by decide) ?_
      refine lv_goto (tgt := 22) hx hb dX0_fits_18 (by decide) ?_
      cases h
      exact K8 _ _ _ hW (lv_sub hl [] rfl)
    · have h := it_n q11 h
      refine lv_iload_n hx hb dX0_fits_11 rfl (lv_at hl 1 rfl) ?_
      refine lv_bipush (v := 8) hx hb dX0_fits_12 (by decide) ?_
      refine lv_icmp_ne (tgt := 21) hx hb dX0_fits_14 (by decide) (fun q12 => ?_) (fun q12 => ?_)
      · have h := it_n q12 h
        refine lv_iconst (v := 0) hx hb dX0_fits_21 (by decide) ?_
        cases h
        exact K8 _ _ _ hW (lv_sub hl [] rfl)
      · have h := it_p q12 h
        refine lv_iconst (v := 1) hx hb dX0_fits_17 (by decide) ?_
        refine lv_goto (tgt := 22) hx hb dX0_fits_18 (by decide) ?_
        cases h
        exact K8 _ _ _ hW (lv_sub hl [] rfl)
theorem ctXs_fits {S : St} {x0 : Int32} {x1 : Int32}  {v : Int32} (h : fXs_fits S x0 x1 = some v) : Met l yX0_fits (wm yX0_fits cX0_fits 2 (some .boolean)) (rmx 0 0) (pcm LX G S [.int x0, .int x1]) (qcI LX G S v) 0 0 G.2.2.2 :=
  x_enter (own := RX0) rfl rfl (Nat.le_of_ble_eq_true rfl) (fun p e s m below meth c ls hC hr hk hW hl => wXs_fits hC (Nat.le_refl _) (Nat.le_refl _)  h (fun H locs ls pc hz hd hW => x_retz hC hr hk hW hz hd) _ _ _ hW hl)
def fX22_howOften (S : St) (x1 : Int32) : Option (Int32) :=
  gd (inb x1 100) <|
  some (S.1 24 (Int32.toNatClampNeg x1))
set_option maxHeartbeats 4000000 in
set_option maxRecDepth 100000 in
theorem wX22_howOften {S : St} {x1 : Int32} (hC : CallFix p m c cX1_howOften 2 s args lw_g RX1) (hF : 0 ≤ R.frames) (hL : 0 ≤ R.locals)  {v : Int32} (h : fX22_howOften S x1 = some v) (kr : ∀ (H : Heap) (locs : List Loc) (ls : Array Slot) (pc : Nat), decode cX1_howOften pc = .ok (.ireturn, 1) → wg LX G S s H locs → W p l e R s m args below meth c H locs 0 0 Q (F0 m pc ls [.int v])) : ∀ (H : Heap) (locs : List Loc) (ls : Array Slot), wg LX G S s H locs → lv_has ls 2 [(0, .ref (ad G 22)), (1, .int x1)] → W p l e R s m args below meth c H locs 0 0 Q (F0 m 0 ls []) := by
  have hx := hC.1
  have hb := hC.2.1
  intro H locs ls hW hl
  unfold fX22_howOften at h
  refine lv_aload_n hx hb dX1_howOften_0 rfl (lv_at hl 0 rfl) ?_
  refine gX22_1 hC hW dX1_howOften_1 ?_
  refine lv_iload_n hx hb dX1_howOften_4 rfl (lv_at hl 1 rfl) ?_
  obtain ⟨g1, h⟩ := gd_some h
  refine x_iald hC hW aX24 g1 dX1_howOften_5 ?_
  cases h
  exact kr _ _ _ _ dX1_howOften_6 hW
theorem ctX22_howOften {S : St} {x1 : Int32}  {v : Int32} (h : fX22_howOften S x1 = some v) : Met l yX1_howOften (wm yX1_howOften cX1_howOften 2 (some .int)) (rmx 0 0) (pcm LX G S [.ref (ad G 22), .int x1]) (qcI LX G S v) 0 0 G.2.2.2 :=
  x_enter (own := RX1) rfl rfl (Nat.le_of_ble_eq_true rfl) (fun p e s m below meth c ls hC hr hk hW hl => wX22_howOften hC (Nat.le_refl _) (Nat.le_refl _)  h (fun H locs ls pc hd hW => x_reti hC hr hk hW hd) _ _ _ hW hl)
def fX25_allows (S : St) (x1 : Int32) (x2 : Int32) : Option (Int32) :=
  gd (inb x1 12) <|
  if (S.1 26 (Int32.toNatClampNeg x1)) = 0 then
    gd (inb x1 12) <|
    Option.bind (α := Int32) (
      if x2 < (S.1 27 (Int32.toNatClampNeg x1)) then
        some 0
      else
        gd (inb x1 12) <|
        if (S.1 28 (Int32.toNatClampNeg x1)) < x2 then
          some 0
        else
          some 1
    ) fun t5 =>
    gd (isb t5) <|
    some t5
  else
  if (S.1 26 (Int32.toNatClampNeg x1)) = 1 then
    gd (inb x1 12) <|
    Option.bind (fXs_fits S (S.1 27 (Int32.toNatClampNeg x1)) (x2 / 10)) fun t12 =>
    Option.bind (α := Int32) (
      if t12 = 0 then
        some 0
      else
        gd (inb x1 12) <|
        Option.bind (fXs_fits S (S.1 28 (Int32.toNatClampNeg x1)) (x2 - x2 / 10 * 10)) fun t19 =>
        if t19 = 0 then
          some 0
        else
          some 1
    ) fun t15 =>
    gd (isb t15) <|
    some t15
  else
  if (S.1 26 (Int32.toNatClampNeg x1)) = 2 then
    gd (inb x1 12) <|
    Option.bind (fX25_isThere S (S.1 27 (Int32.toNatClampNeg x1))) fun t24 =>
    Option.bind (α := Int32) (
      if t24 = 0 then
        some 0
      else
        gd (inb x1 12) <|
        Option.bind (fX25_isThere S (S.1 28 (Int32.toNatClampNeg x1))) fun t31 =>
        if t31 = 0 then
          some 0
        else
          some 1
    ) fun t27 =>
    gd (isb t27) <|
    some t27
  else
  if (S.1 26 (Int32.toNatClampNeg x1)) = 3 then
    Option.bind (fX22_howOften S x2) fun t35 =>
    Option.bind (α := Int32) (
      if t35 ≤ 0 then
        some 0
      else
        some 1
    ) fun t38 =>
    gd (isb t38) <|
    some t38
  else
  if (S.1 26 (Int32.toNatClampNeg x1)) = 4 then
    gd (inb x1 12) <|
    Option.bind (fX25_isThere S (S.1 27 (Int32.toNatClampNeg x1))) fun t43 =>
    gd (isb t43) <|
    some t43
  else
  if (S.1 26 (Int32.toNatClampNeg x1)) = 5 then
    Option.bind (α := Int32) (
      if x2 = 0 then
        some 1
      else
        gd (inb x1 12) <|
        if x2 < (S.1 27 (Int32.toNatClampNeg x1)) then
          some 0
        else
          gd (inb x1 12) <|
          if (S.1 28 (Int32.toNatClampNeg x1)) < x2 then
            some 0
          else
            some 1
    ) fun t47 =>
    gd (isb t47) <|
    some t47
  else
  some 0
set_option maxHeartbeats 4000000 in
set_option maxRecDepth 100000 in
theorem wX25_allows {S : St} {x1 : Int32} {x2 : Int32} (hC : CallFix p m c cX0_allows 3 s args lw_g RX0) (hF : 1 ≤ R.frames) (hL : 21 ≤ R.locals)  {v : Int32} (h : fX25_allows S x1 x2 = some v) (kr : ∀ (H : Heap) (locs : List Loc) (ls : Array Slot) (pc : Nat), isb v = true → decode cX0_allows pc = .ok (.ireturn, 1) → wg LX G S s H locs → W p l e R s m args below meth c H locs 0 0 Q (F0 m pc ls [.int v])) : ∀ (H : Heap) (locs : List Loc) (ls : Array Slot), wg LX G S s H locs → lv_has ls 3 [(0, .ref (ad G 25)), (1, .int x1), (2, .int x2)] → W p l e R s m args below meth c H locs 0 0 Q (F0 m 0 ls []) := by
  have hx := hC.1
  have hb := hC.2.1
  intro H locs ls hW hl
  unfold fX25_allows at h
  refine lv_aload_n hx hb dX0_allows_0 rfl (lv_at hl 0 rfl) ?_
  refine gX25_1 hC hW dX0_allows_1 ?_
  refine lv_iload_n hx hb dX0_allows_4 rfl (lv_at hl 1 rfl) ?_
  obtain ⟨g1, h⟩ := gd_some h
  refine x_iald hC hW aX26 g1 dX0_allows_5 ?_
  by_cases q2_0 : (S.1 26 (Int32.toNatClampNeg x1)) = 0
  · have h := it_p q2_0 h
    refine lv_tableIn (off := 38) (tgt := 44) hx hb dX0_allows_6 (by rw [q2_0]; decide) (by rw [q2_0]; decide) (by rw [q2_0]; rfl) (by decide) ?_
    refine lv_iload_n hx hb dX0_allows_44 rfl (lv_at hl 2 rfl) ?_
    refine lv_aload_n hx hb dX0_allows_45 rfl (lv_at hl 0 rfl) ?_
    refine gX25_2 hC hW dX0_allows_46 ?_
    refine lv_iload_n hx hb dX0_allows_49 rfl (lv_at hl 1 rfl) ?_
    obtain ⟨g3, h⟩ := gd_some h
    refine x_iald hC hW aX27 g3 dX0_allows_50 ?_
    obtain ⟨t5, e6, h⟩ := bd h
    have K4 : ∀ (H : Heap) (locs : List Loc) (ls : Array Slot), wg LX G S s H locs → lv_has ls 3 [] → W p l e R s m args below meth c H locs 0 0 Q (F0 m 69 ls [.int t5]) := by
      intro H locs ls hW hl
      obtain ⟨g10, h⟩ := gd_some h
      cases h
      exact kr _ _ _ _ g10 dX0_allows_69 hW
    clear h
    have h := e6
    clear e6
    refine lv_icmp_lt (tgt := 68) hx hb dX0_allows_51 (by decide) (fun q7 => ?_) (fun q7 => ?_)
    · have h := it_p q7 h
      refine lv_iconst (v := 0) hx hb dX0_allows_68 (by decide) ?_
      cases h
      exact K4 _ _ _ hW (lv_sub hl [] rfl)
    · have h := it_n q7 h
      refine lv_iload_n hx hb dX0_allows_54 rfl (lv_at hl 2 rfl) ?_
      refine lv_aload_n hx hb dX0_allows_55 rfl (lv_at hl 0 rfl) ?_
      refine gX25_3 hC hW dX0_allows_56 ?_
      refine lv_iload_n hx hb dX0_allows_59 rfl (lv_at hl 1 rfl) ?_
      obtain ⟨g8, h⟩ := gd_some h
      refine x_iald hC hW aX28 g8 dX0_allows_60 ?_
      refine lv_icmp_gt (tgt := 68) hx hb dX0_allows_61 (by decide) (fun q9 => ?_) (fun q9 => ?_)
      · have h := it_p q9 h
        refine lv_iconst (v := 0) hx hb dX0_allows_68 (by decide) ?_
        cases h
        exact K4 _ _ _ hW (lv_sub hl [] rfl)
      · have h := it_n q9 h
        refine lv_iconst (v := 1) hx hb dX0_allows_64 (by decide) ?_
        refine lv_goto (tgt := 69) hx hb dX0_allows_65 (by decide) ?_
        cases h
        exact K4 _ _ _ hW (lv_sub hl [] rfl)
  have h := it_n q2_0 h
  by_cases q2_1 : (S.1 26 (Int32.toNatClampNeg x1)) = 1
  · have h := it_p q2_1 h
    refine lv_tableIn (off := 64) (tgt := 70) hx hb dX0_allows_6 (by rw [q2_1]; decide) (by rw [q2_1]; decide) (by rw [q2_1]; rfl) (by decide) ?_
    refine lv_aload_n hx hb dX0_allows_70 rfl (lv_at hl 0 rfl) ?_
    refine gX25_2 hC hW dX0_allows_71 ?_
    refine lv_iload_n hx hb dX0_allows_74 rfl (lv_at hl 1 rfl) ?_
    obtain ⟨g11, h⟩ := gd_some h
    refine x_iald hC hW aX27 g11 dX0_allows_75 ?_
    refine lv_iload_n hx hb dX0_allows_76 rfl (lv_at hl 2 rfl) ?_
    refine lv_bipush (v := 10) hx hb dX0_allows_77 (by decide) ?_
    refine lv_idiv hx hb dX0_allows_79 (by decide) ?_
    obtain ⟨t12, e13, h⟩ := bd h
    refine x_goi (x_rs (rest := []) hC hW (ctXs_fits e13) (cwS_g hC.2.2.2.2 ml_X0_44 ms_X0_fits md_X0_fits ⟨(Nat.le_trans (Nat.le_of_ble_eq_true rfl) hF), (Nat.le_trans (Nat.le_of_ble_eq_true rfl) hL)⟩) rfl hl.1 rfl (Nat.le_of_ble_eq_true rfl) dX0_allows_80) hW (fun H locs hW => ?_)
    obtain ⟨t15, e16, h⟩ := bd h
    have K14 : ∀ (H : Heap) (locs : List Loc) (ls : Array Slot), wg LX G S s H locs → lv_has ls 3 [] → W p l e R s m args below meth c H locs 0 0 Q (F0 m 107 ls [.int t15]) := by
      intro H locs ls hW hl
      obtain ⟨g22, h⟩ := gd_some h
      cases h
      exact kr _ _ _ _ g22 dX0_allows_107 hW
    clear h
    have h := e16
    clear e16
    refine lv_if_eq (tgt := 106) hx hb dX0_allows_83 (by decide) (fun q17 => ?_) (fun q17 => ?_)
    · have h := it_p q17 h
      refine lv_iconst (v := 0) hx hb dX0_allows_106 (by decide) ?_
      cases h
      exact K14 _ _ _ hW (lv_sub hl [] rfl)
    · have h := it_n q17 h
      refine lv_aload_n hx hb dX0_allows_86 rfl (lv_at hl 0 rfl) ?_
      refine gX25_3 hC hW dX0_allows_87 ?_
      refine lv_iload_n hx hb dX0_allows_90 rfl (lv_at hl 1 rfl) ?_
      obtain ⟨g18, h⟩ := gd_some h
      refine x_iald hC hW aX28 g18 dX0_allows_91 ?_
      refine lv_iload_n hx hb dX0_allows_92 rfl (lv_at hl 2 rfl) ?_
      refine lv_bipush (v := 10) hx hb dX0_allows_93 (by decide) ?_
      refine lv_irem hx hb dX0_allows_95 (by decide) ?_
      obtain ⟨t19, e20, h⟩ := bd h
      refine x_goi (x_rs (rest := []) hC hW (ctXs_fits e20) (cwS_g hC.2.2.2.2 ml_X0_44 ms_X0_fits md_X0_fits ⟨(Nat.le_trans (Nat.le_of_ble_eq_true rfl) hF), (Nat.le_trans (Nat.le_of_ble_eq_true rfl) hL)⟩) rfl hl.1 rfl (Nat.le_of_ble_eq_true rfl) dX0_allows_96) hW (fun H locs hW => ?_)
      refine lv_if_eq (tgt := 106) hx hb dX0_allows_99 (by decide) (fun q21 => ?_) (fun q21 => ?_)
      · have h := it_p q21 h
        refine lv_iconst (v := 0) hx hb dX0_allows_106 (by decide) ?_
        cases h
        exact K14 _ _ _ hW (lv_sub hl [] rfl)
      · have h := it_n q21 h
        refine lv_iconst (v := 1) hx hb dX0_allows_102 (by decide) ?_
        refine lv_goto (tgt := 107) hx hb dX0_allows_103 (by decide) ?_
        cases h
        exact K14 _ _ _ hW (lv_sub hl [] rfl)
  have h := it_n q2_1 h
  by_cases q2_2 : (S.1 26 (Int32.toNatClampNeg x1)) = 2
  · have h := it_p q2_2 h
    refine lv_tableIn (off := 102) (tgt := 108) hx hb dX0_allows_6 (by rw [q2_2]; decide) (by rw [q2_2]; decide) (by rw [q2_2]; rfl) (by decide) ?_
    refine lv_aload_n hx hb dX0_allows_108 rfl (lv_at hl 0 rfl) ?_
    refine lv_aload_n hx hb dX0_allows_109 rfl (lv_at hl 0 rfl) ?_
    refine gX25_2 hC hW dX0_allows_110 ?_
    refine lv_iload_n hx hb dX0_allows_113 rfl (lv_at hl 1 rfl) ?_
    obtain ⟨g23, h⟩ := gd_some h
    refine x_iald hC hW aX27 g23 dX0_allows_114 ?_
    obtain ⟨t24, e25, h⟩ := bd h
    refine x_goi (x_rv (rest := []) hC hW (ctX25_isThere e25) (cwV_g hC.2.2.2.2 ml_X0_48 mi_X0_isThere md_X0_isThere ⟨(Nat.le_trans (Nat.le_of_ble_eq_true rfl) hF), (Nat.le_trans (Nat.le_of_ble_eq_true rfl) hL)⟩) (rcX25 hW) rfl hl.1 rfl (Nat.le_of_ble_eq_true rfl) dX0_allows_115) hW (fun H locs hW => ?_)
    obtain ⟨t27, e28, h⟩ := bd h
    have K26 : ∀ (H : Heap) (locs : List Loc) (ls : Array Slot), wg LX G S s H locs → lv_has ls 3 [] → W p l e R s m args below meth c H locs 0 0 Q (F0 m 139 ls [.int t27]) := by
      intro H locs ls hW hl
      obtain ⟨g34, h⟩ := gd_some h
      cases h
      exact kr _ _ _ _ g34 dX0_allows_139 hW
    clear h
    have h := e28
    clear e28
    refine lv_if_eq (tgt := 138) hx hb dX0_allows_118 (by decide) (fun q29 => ?_) (fun q29 => ?_)
    · have h := it_p q29 h
      refine lv_iconst (v := 0) hx hb dX0_allows_138 (by decide) ?_
      cases h
      exact K26 _ _ _ hW (lv_sub hl [] rfl)
    · have h := it_n q29 h
      refine lv_aload_n hx hb dX0_allows_121 rfl (lv_at hl 0 rfl) ?_
      refine lv_aload_n hx hb dX0_allows_122 rfl (lv_at hl 0 rfl) ?_
      refine gX25_3 hC hW dX0_allows_123 ?_
      refine lv_iload_n hx hb dX0_allows_126 rfl (lv_at hl 1 rfl) ?_
      obtain ⟨g30, h⟩ := gd_some h
      refine x_iald hC hW aX28 g30 dX0_allows_127 ?_
      obtain ⟨t31, e32, h⟩ := bd h
      refine x_goi (x_rv (rest := []) hC hW (ctX25_isThere e32) (cwV_g hC.2.2.2.2 ml_X0_48 mi_X0_isThere md_X0_isThere ⟨(Nat.le_trans (Nat.le_of_ble_eq_true rfl) hF), (Nat.le_trans (Nat.le_of_ble_eq_true rfl) hL)⟩) (rcX25 hW) rfl hl.1 rfl (Nat.le_of_ble_eq_true rfl) dX0_allows_128) hW (fun H locs hW => ?_)
      refine lv_if_eq (tgt := 138) hx hb dX0_allows_131 (by decide) (fun q33 => ?_) (fun q33 => ?_)
      · have h := it_p q33 h
        refine lv_iconst (v := 0) hx hb dX0_allows_138 (by decide) ?_
        cases h
        exact K26 _ _ _ hW (lv_sub hl [] rfl)
      · have h := it_n q33 h
        refine lv_iconst (v := 1) hx hb dX0_allows_134 (by decide) ?_
        refine lv_goto (tgt := 139) hx hb dX0_allows_135 (by decide) ?_
        cases h
        exact K26 _ _ _ hW (lv_sub hl [] rfl)
  have h := it_n q2_2 h
  by_cases q2_3 : (S.1 26 (Int32.toNatClampNeg x1)) = 3
  · have h := it_p q2_3 h
    refine lv_tableIn (off := 134) (tgt := 140) hx hb dX0_allows_6 (by rw [q2_3]; decide) (by rw [q2_3]; decide) (by rw [q2_3]; rfl) (by decide) ?_
    refine lv_aload_n hx hb dX0_allows_140 rfl (lv_at hl 0 rfl) ?_
    refine gX25_0 hC hW dX0_allows_141 ?_
    refine lv_iload_n hx hb dX0_allows_144 rfl (lv_at hl 2 rfl) ?_
    obtain ⟨t35, e36, h⟩ := bd h
    refine x_goi (x_rv (rest := []) hC hW (ctX22_howOften e36) (cwV_g hC.2.2.2.2 ml_X0_52 mi_X1_howOften md_X1_howOften ⟨(Nat.le_trans (Nat.le_of_ble_eq_true rfl) hF), (Nat.le_trans (Nat.le_of_ble_eq_true rfl) hL)⟩) (rcX22 hW) rfl hl.1 rfl (Nat.le_of_ble_eq_true rfl) dX0_allows_145) hW (fun H locs hW => ?_)
    obtain ⟨t38, e39, h⟩ := bd h
    have K37 : ∀ (H : Heap) (locs : List Loc) (ls : Array Slot), wg LX G S s H locs → lv_has ls 3 [] → W p l e R s m args below meth c H locs 0 0 Q (F0 m 156 ls [.int t38]) := by
      intro H locs ls hW hl
      obtain ⟨g41, h⟩ := gd_some h
      cases h
      exact kr _ _ _ _ g41 dX0_allows_156 hW
    clear h
    have h := e39
    clear e39
    refine lv_if_le (tgt := 155) hx hb dX0_allows_148 (by decide) (fun q40 => ?_) (fun q40 => ?_)
    · have h := it_p q40 h
      refine lv_iconst (v := 0) hx hb dX0_allows_155 (by decide) ?_
      cases h
      exact K37 _ _ _ hW (lv_sub hl [] rfl)
    · have h := it_n q40 h
      refine lv_iconst (v := 1) hx hb dX0_allows_151 (by decide) ?_
      refine lv_goto (tgt := 156) hx hb dX0_allows_152 (by decide) ?_
      cases h
      exact K37 _ _ _ hW (lv_sub hl [] rfl)
  have h := it_n q2_3 h
  by_cases q2_4 : (S.1 26 (Int32.toNatClampNeg x1)) = 4
  · have h := it_p q2_4 h
    refine lv_tableIn (off := 151) (tgt := 157) hx hb dX0_allows_6 (by rw [q2_4]; decide) (by rw [q2_4]; decide) (by rw [q2_4]; rfl) (by decide) ?_
    refine lv_aload_n hx hb dX0_allows_157 rfl (lv_at hl 0 rfl) ?_
    refine lv_aload_n hx hb dX0_allows_158 rfl (lv_at hl 0 rfl) ?_
    refine gX25_2 hC hW dX0_allows_159 ?_
    refine lv_iload_n hx hb dX0_allows_162 rfl (lv_at hl 1 rfl) ?_
    obtain ⟨g42, h⟩ := gd_some h
    refine x_iald hC hW aX27 g42 dX0_allows_163 ?_
    obtain ⟨t43, e44, h⟩ := bd h
    refine x_goi (x_rv (rest := []) hC hW (ctX25_isThere e44) (cwV_g hC.2.2.2.2 ml_X0_48 mi_X0_isThere md_X0_isThere ⟨(Nat.le_trans (Nat.le_of_ble_eq_true rfl) hF), (Nat.le_trans (Nat.le_of_ble_eq_true rfl) hL)⟩) (rcX25 hW) rfl hl.1 rfl (Nat.le_of_ble_eq_true rfl) dX0_allows_164) hW (fun H locs hW => ?_)
    obtain ⟨g45, h⟩ := gd_some h
    cases h
    exact kr _ _ _ _ g45 dX0_allows_167 hW
  have h := it_n q2_4 h
  by_cases q2_5 : (S.1 26 (Int32.toNatClampNeg x1)) = 5
  · have h := it_p q2_5 h
    refine lv_tableIn (off := 162) (tgt := 168) hx hb dX0_allows_6 (by rw [q2_5]; decide) (by rw [q2_5]; decide) (by rw [q2_5]; rfl) (by decide) ?_
    refine lv_iload_n hx hb dX0_allows_168 rfl (lv_at hl 2 rfl) ?_
    obtain ⟨t47, e48, h⟩ := bd h
    have K46 : ∀ (H : Heap) (locs : List Loc) (ls : Array Slot), wg LX G S s H locs → lv_has ls 3 [] → W p l e R s m args below meth c H locs 0 0 Q (F0 m 197 ls [.int t47]) := by
      intro H locs ls hW hl
      obtain ⟨g54, h⟩ := gd_some h
      cases h
      exact kr _ _ _ _ g54 dX0_allows_197 hW
    clear h
    have h := e48
    clear e48
    refine lv_if_eq (tgt := 192) hx hb dX0_allows_169 (by decide) (fun q49 => ?_) (fun q49 => ?_)
    · have h := it_p q49 h
      refine lv_iconst (v := 1) hx hb dX0_allows_192 (by decide) ?_
      refine lv_goto (tgt := 197) hx hb dX0_allows_193 (by decide) ?_
      cases h
      exact K46 _ _ _ hW (lv_sub hl [] rfl)
    · have h := it_n q49 h
      refine lv_iload_n hx hb dX0_allows_172 rfl (lv_at hl 2 rfl) ?_
      refine lv_aload_n hx hb dX0_allows_173 rfl (lv_at hl 0 rfl) ?_
      refine gX25_2 hC hW dX0_allows_174 ?_
      refine lv_iload_n hx hb dX0_allows_177 rfl (lv_at hl 1 rfl) ?_
      obtain ⟨g50, h⟩ := gd_some h
      refine x_iald hC hW aX27 g50 dX0_allows_178 ?_
      refine lv_icmp_lt (tgt := 196) hx hb dX0_allows_179 (by decide) (fun q51 => ?_) (fun q51 => ?_)
      · have h := it_p q51 h
        refine lv_iconst (v := 0) hx hb dX0_allows_196 (by decide) ?_
        cases h
        exact K46 _ _ _ hW (lv_sub hl [] rfl)
      · have h := it_n q51 h
        refine lv_iload_n hx hb dX0_allows_182 rfl (lv_at hl 2 rfl) ?_
        refine lv_aload_n hx hb dX0_allows_183 rfl (lv_at hl 0 rfl) ?_
        refine gX25_3 hC hW dX0_allows_184 ?_
        refine lv_iload_n hx hb dX0_allows_187 rfl (lv_at hl 1 rfl) ?_
        obtain ⟨g52, h⟩ := gd_some h
        refine x_iald hC hW aX28 g52 dX0_allows_188 ?_
        refine lv_icmp_gt (tgt := 196) hx hb dX0_allows_189 (by decide) (fun q53 => ?_) (fun q53 => ?_)
        · have h := it_p q53 h
          refine lv_iconst (v := 0) hx hb dX0_allows_196 (by decide) ?_
          cases h
          exact K46 _ _ _ hW (lv_sub hl [] rfl)
        · have h := it_n q53 h
          refine lv_iconst (v := 1) hx hb dX0_allows_192 (by decide) ?_
          refine lv_goto (tgt := 197) hx hb dX0_allows_193 (by decide) ?_
          cases h
          exact K46 _ _ _ hW (lv_sub hl [] rfl)
  have h := it_n q2_5 h
  have q2_0i := lv_neT (a := 0) q2_0 (by decide)
  have q2_1i := lv_neT (a := 1) q2_1 (by decide)
  have q2_2i := lv_neT (a := 2) q2_2 (by decide)
  have q2_3i := lv_neT (a := 3) q2_3 (by decide)
  have q2_4i := lv_neT (a := 4) q2_4 (by decide)
  have q2_5i := lv_neT (a := 5) q2_5 (by decide)
  refine lv_tableOut (tgt := 198) hx hb dX0_allows_6 (by omega) (by decide) ?_
  refine lv_iconst (v := 0) hx hb dX0_allows_198 (by decide) ?_
  cases h
  exact kr _ _ _ _ rfl dX0_allows_199 hW
theorem ctX25_allows {S : St} {x1 : Int32} {x2 : Int32}  {v : Int32} (h : fX25_allows S x1 x2 = some v) : Met l yX0_allows (wm yX0_allows cX0_allows 3 (some .boolean)) (rmx 1 21) (pcm LX G S [.ref (ad G 25), .int x1, .int x2]) (qcI LX G S v) 0 0 G.2.2.2 :=
  x_enter (own := RX0) rfl rfl (Nat.le_of_ble_eq_true rfl) (fun p e s m below meth c ls hC hr hk hW hl => wX25_allows hC (Nat.le_refl _) (Nat.le_refl _)  h (fun H locs ls pc hz hd hW => x_retz hC hr hk hW hz hd) _ _ _ hW hl)
def fX33_keep_L16 (N : Nat) (S : St) (x1 : Int32) (x2 : Int32) (x3 : Int32) (x5 : Int32) : Nat → Int32 → Option (Int32)
  | 0, _ => none
  | n + 1, x4 =>
    if x5 < x4 then
      some x4
    else
      if x4 < x2 then
        fX33_keep_L16 N S x1 x2 x3 x5 n (x4 + 1)
      else
        gd (inb ((x1 * 100) + x4) 1200) <|
        if (S.1 34 (Int32.toNatClampNeg ((x1 * 100) + x4))) = 0 then
          fX33_keep_L16 N S x1 x2 x3 x5 n (x4 + 1)
        else
          some x4
set_option maxHeartbeats 4000000 in
set_option maxRecDepth 100000 in
theorem wX33_keep_L16 {N : Nat} {S : St} {x1 : Int32} {x2 : Int32} {x3 : Int32} {x5 : Int32} (hC : CallFix p m c cX2_keep 6 s args lw_g RX2) (hF : 0 ≤ R.frames) (hL : 0 ≤ R.locals)  {t : Int32} (kx : ∀ (H : Heap) (locs : List Loc) (ls : Array Slot), wg LX G S s H locs → lv_has ls 6 [(0, .ref (ad G 33)), (1, .int x1), (3, .int x3), (4, .int t), (5, .int x5)] → W p l e R s m args below meth c H locs 0 0 Q (F0 m 50 ls [])) : ∀ (n : Nat) (x4 : Int32), fX33_keep_L16 N S x1 x2 x3 x5 n x4 = some t → ∀ (H : Heap) (locs : List Loc) (ls : Array Slot), wg LX G S s H locs → lv_has ls 6 [(0, .ref (ad G 33)), (1, .int x1), (2, .int x2), (3, .int x3), (4, .int x4), (5, .int x5)] → W p l e R s m args below meth c H locs 0 0 Q (F0 m 16 ls []) := by
  have hx := hC.1
  have hb := hC.2.1
  intro n
  induction n with
  | zero =>
    intro _ h
    cases h
  | succ n ih =>
    intro x4 h H locs ls hW hl
    rw [fX33_keep_L16] at h
    refine lv_iload hx hb dX2_keep_16 (lv_at hl 4 rfl) ?_
    refine lv_iload hx hb dX2_keep_18 (lv_at hl 5 rfl) ?_
    refine lv_icmp_gt (tgt := 50) hx hb dX2_keep_20 (by decide) (fun q7 => ?_) (fun q7 => ?_)
    · have h := it_p q7 h
      cases h
      exact kx _ _ _ hW (lv_sub hl [0, 1, 3, 4, 5] rfl)
    · have h := it_n q7 h
      refine lv_iload hx hb dX2_keep_23 (lv_at hl 4 rfl) ?_
      refine lv_iload_n hx hb dX2_keep_25 rfl (lv_at hl 2 rfl) ?_
      refine lv_icmp_lt (tgt := 44) hx hb dX2_keep_26 (by decide) (fun q8 => ?_) (fun q8 => ?_)
      · have h := it_p q8 h
        refine lv_iinc (v := x4 + 1) (lv' := [(4, .int (x4 + 1)), (0, .ref (ad G 33)), (1, .int x1), (2, .int x2), (3, .int x3), (5, .int x5)]) (k := 4) hx hb dX2_keep_44 hl rfl rfl (by decide) rfl (fun ls hl => ?_)
        refine lv_goto (tgt := 16) hx hb dX2_keep_47 (by decide) ?_
        exact ih _ h _ _ _ hW (lv_sub hl [1, 2, 3, 4, 0, 5] rfl)
      · have h := it_n q8 h
        refine lv_aload_n hx hb dX2_keep_29 rfl (lv_at hl 0 rfl) ?_
        refine gX33_2 hC hW dX2_keep_30 ?_
        refine lv_iload_n hx hb dX2_keep_33 rfl (lv_at hl 1 rfl) ?_
        refine lv_bipush (v := 100) hx hb dX2_keep_34 (by decide) ?_
        refine lv_imul hx hb dX2_keep_36 ?_
        refine lv_iload hx hb dX2_keep_37 (lv_at hl 4 rfl) ?_
        refine lv_iadd hx hb dX2_keep_39 ?_
        obtain ⟨g9, h⟩ := gd_some h
        refine x_zald hC hW zX34 g9 dX2_keep_40 ?_
        refine lv_if_ne (tgt := 50) hx hb dX2_keep_41 (by decide) (fun q10 => ?_) (fun q10 => ?_)
        · have h := it_n q10 h
          cases h
          exact kx _ _ _ hW (lv_sub hl [0, 1, 3, 4, 5] rfl)
        · have h := it_p q10 h
          refine lv_iinc (v := x4 + 1) (lv' := [(4, .int (x4 + 1)), (0, .ref (ad G 33)), (1, .int x1), (2, .int x2), (3, .int x3), (5, .int x5)]) (k := 4) hx hb dX2_keep_44 hl rfl rfl (by decide) rfl (fun ls hl => ?_)
          refine lv_goto (tgt := 16) hx hb dX2_keep_47 (by decide) ?_
          exact ih _ h _ _ _ hW (lv_sub hl [1, 2, 3, 4, 0, 5] rfl)
def fX33_keep_L50 (N : Nat) (S : St) (x1 : Int32) (x3 : Int32) (x4 : Int32) : Nat → Int32 → Option (Int32)
  | 0, _ => none
  | n + 1, x5 =>
    if x5 < x4 then
      some x5
    else
      if x3 < x5 then
        fX33_keep_L50 N S x1 x3 x4 n (x5 + (-1))
      else
        gd (inb ((x1 * 100) + x5) 1200) <|
        if (S.1 34 (Int32.toNatClampNeg ((x1 * 100) + x5))) = 0 then
          fX33_keep_L50 N S x1 x3 x4 n (x5 + (-1))
        else
          some x5
set_option maxHeartbeats 4000000 in
set_option maxRecDepth 100000 in
theorem wX33_keep_L50 {N : Nat} {S : St} {x1 : Int32} {x3 : Int32} {x4 : Int32} (hC : CallFix p m c cX2_keep 6 s args lw_g RX2) (hF : 0 ≤ R.frames) (hL : 0 ≤ R.locals)  {t : Int32} (kx : ∀ (H : Heap) (locs : List Loc) (ls : Array Slot), wg LX G S s H locs → lv_has ls 6 [(0, .ref (ad G 33)), (1, .int x1), (4, .int x4), (5, .int t)] → W p l e R s m args below meth c H locs 0 0 Q (F0 m 84 ls [])) : ∀ (n : Nat) (x5 : Int32), fX33_keep_L50 N S x1 x3 x4 n x5 = some t → ∀ (H : Heap) (locs : List Loc) (ls : Array Slot), wg LX G S s H locs → lv_has ls 6 [(0, .ref (ad G 33)), (1, .int x1), (3, .int x3), (4, .int x4), (5, .int x5)] → W p l e R s m args below meth c H locs 0 0 Q (F0 m 50 ls []) := by
  have hx := hC.1
  have hb := hC.2.1
  intro n
  induction n with
  | zero =>
    intro _ h
    cases h
  | succ n ih =>
    intro x5 h H locs ls hW hl
    rw [fX33_keep_L50] at h
    refine lv_iload hx hb dX2_keep_50 (lv_at hl 4 rfl) ?_
    refine lv_iload hx hb dX2_keep_52 (lv_at hl 3 rfl) ?_
    refine lv_icmp_lt (tgt := 84) hx hb dX2_keep_54 (by decide) (fun q13 => ?_) (fun q13 => ?_)
    · have h := it_p q13 h
      cases h
      exact kx _ _ _ hW (lv_sub hl [0, 1, 3, 4] rfl)
    · have h := it_n q13 h
      refine lv_iload hx hb dX2_keep_57 (lv_at hl 4 rfl) ?_
      refine lv_iload_n hx hb dX2_keep_59 rfl (lv_at hl 2 rfl) ?_
      refine lv_icmp_gt (tgt := 78) hx hb dX2_keep_60 (by decide) (fun q14 => ?_) (fun q14 => ?_)
      · have h := it_p q14 h
        refine lv_iinc (v := x5 + (-1)) (lv' := [(5, .int (x5 + (-1))), (0, .ref (ad G 33)), (1, .int x1), (3, .int x3), (4, .int x4)]) (k := 4) hx hb dX2_keep_78 hl rfl rfl (by decide) rfl (fun ls hl => ?_)
        refine lv_goto (tgt := 50) hx hb dX2_keep_81 (by decide) ?_
        exact ih _ h _ _ _ hW (lv_sub hl [1, 2, 3, 4, 0] rfl)
      · have h := it_n q14 h
        refine lv_aload_n hx hb dX2_keep_63 rfl (lv_at hl 0 rfl) ?_
        refine gX33_2 hC hW dX2_keep_64 ?_
        refine lv_iload_n hx hb dX2_keep_67 rfl (lv_at hl 1 rfl) ?_
        refine lv_bipush (v := 100) hx hb dX2_keep_68 (by decide) ?_
        refine lv_imul hx hb dX2_keep_70 ?_
        refine lv_iload hx hb dX2_keep_71 (lv_at hl 4 rfl) ?_
        refine lv_iadd hx hb dX2_keep_73 ?_
        obtain ⟨g15, h⟩ := gd_some h
        refine x_zald hC hW zX34 g15 dX2_keep_74 ?_
        refine lv_if_ne (tgt := 84) hx hb dX2_keep_75 (by decide) (fun q16 => ?_) (fun q16 => ?_)
        · have h := it_n q16 h
          cases h
          exact kx _ _ _ hW (lv_sub hl [0, 1, 3, 4] rfl)
        · have h := it_p q16 h
          refine lv_iinc (v := x5 + (-1)) (lv' := [(5, .int (x5 + (-1))), (0, .ref (ad G 33)), (1, .int x1), (3, .int x3), (4, .int x4)]) (k := 4) hx hb dX2_keep_78 hl rfl rfl (by decide) rfl (fun ls hl => ?_)
          refine lv_goto (tgt := 50) hx hb dX2_keep_81 (by decide) ?_
          exact ih _ h _ _ _ hW (lv_sub hl [1, 2, 3, 4, 0] rfl)
def fX33_keep (N : Nat) (S : St) (x1 : Int32) (x2 : Int32) (x3 : Int32) : Option (St) :=
  gd (inb x1 12) <|
  nx (S.1 35 (Int32.toNatClampNeg x1)) fun y2 =>
  gd (inb x1 12) <|
  nx (S.1 36 (Int32.toNatClampNeg x1)) fun y5 =>
  Option.bind (fX33_keep_L16 N S x1 x2 x3 y5 N y2) fun t11 =>
  Option.bind (fX33_keep_L50 N S x1 x3 t11 N y5) fun t17 =>
  gd (inb x1 12) <|
  Option.bind (α := St) (
    if t11 = (S.1 35 (Int32.toNatClampNeg x1)) then
      gd (inb x1 12) <|
      if t17 = (S.1 36 (Int32.toNatClampNeg x1)) then
        some S
      else
        nx (p1 S 33 5 1) fun s34 =>
        gd (inb x1 12) <|
        nx (p1 s34 35 (Int32.toNatClampNeg x1) t11) fun s37 =>
        gd (inb x1 12) <|
        nx (p1 s37 36 (Int32.toNatClampNeg x1) t17) fun s40 =>
        some s40
    else
      nx (p1 S 33 5 1) fun s24 =>
      gd (inb x1 12) <|
      nx (p1 s24 35 (Int32.toNatClampNeg x1) t11) fun s27 =>
      gd (inb x1 12) <|
      nx (p1 s27 36 (Int32.toNatClampNeg x1) t17) fun s30 =>
      some s30
  ) fun t21 =>
  Option.bind (α := St) (
    if t11 ≤ t17 then
      some t21
    else
      nx (p1 t21 33 6 1) fun s46 =>
      some s46
  ) fun t43 =>
  some t43
set_option maxHeartbeats 4000000 in
set_option maxRecDepth 100000 in
theorem wX33_keep {N : Nat} {S : St} {x1 : Int32} {x2 : Int32} {x3 : Int32} (hC : CallFix p m c cX2_keep 6 s args lw_g RX2) (hF : 0 ≤ R.frames) (hL : 0 ≤ R.locals)  {S' : St} (h : fX33_keep N S x1 x2 x3 = some (S')) (kr : ∀ (H : Heap) (locs : List Loc) (ls : Array Slot) (pc : Nat), decode cX2_keep pc = .ok (.return_, 1) → wg LX G (S') s H locs → W p l e R s m args below meth c H locs 0 0 Q (F0 m pc ls [])) : ∀ (H : Heap) (locs : List Loc) (ls : Array Slot), wg LX G S s H locs → lv_has ls 6 [(0, .ref (ad G 33)), (1, .int x1), (2, .int x2), (3, .int x3)] → W p l e R s m args below meth c H locs 0 0 Q (F0 m 0 ls []) := by
  have hx := hC.1
  have hb := hC.2.1
  intro H locs ls hW hl
  unfold fX33_keep at h
  refine lv_aload_n hx hb dX2_keep_0 rfl (lv_at hl 0 rfl) ?_
  refine gX33_3 hC hW dX2_keep_1 ?_
  refine lv_iload_n hx hb dX2_keep_4 rfl (lv_at hl 1 rfl) ?_
  obtain ⟨g1, h⟩ := gd_some h
  refine x_iald hC hW aX35 g1 dX2_keep_5 ?_
  obtain ⟨y2, e3, h⟩ := nx_some h
  refine x_topi e3 ?_
  refine lv_istore (lv' := [(4, .int y2), (0, .ref (ad G 33)), (1, .int x1), (2, .int x2), (3, .int x3)]) hx hb dX2_keep_6 hl (by decide) rfl (fun ls hl => ?_)
  refine lv_aload_n hx hb dX2_keep_8 rfl (lv_at hl 1 rfl) ?_
  refine gX33_4 hC hW dX2_keep_9 ?_
  refine lv_iload_n hx hb dX2_keep_12 rfl (lv_at hl 2 rfl) ?_
  obtain ⟨g4, h⟩ := gd_some h
  refine x_iald hC hW aX36 g4 dX2_keep_13 ?_
  obtain ⟨y5, e6, h⟩ := nx_some h
  refine x_topi e6 ?_
  refine lv_istore (lv' := [(5, .int y5), (4, .int y2), (0, .ref (ad G 33)), (1, .int x1), (2, .int x2), (3, .int x3)]) hx hb dX2_keep_14 hl (by decide) rfl (fun ls hl => ?_)
  obtain ⟨t11, e12, h⟩ := bd h
  refine wX33_keep_L16 hC hF hL  (fun H locs ls hW hl => ?_) _ _ e12 _ _ _ hW (lv_sub hl [2, 3, 4, 5, 1, 0] rfl)
  obtain ⟨t17, e18, h⟩ := bd h
  refine wX33_keep_L50 hC hF hL  (fun H locs ls hW hl => ?_) _ _ e18 _ _ _ hW (lv_sub hl [0, 1, 2, 3, 4] rfl)
  refine lv_iload hx hb dX2_keep_84 (lv_at hl 2 rfl) ?_
  refine lv_aload_n hx hb dX2_keep_86 rfl (lv_at hl 0 rfl) ?_
  refine gX33_3 hC hW dX2_keep_87 ?_
  refine lv_iload_n hx hb dX2_keep_90 rfl (lv_at hl 1 rfl) ?_
  obtain ⟨g19, h⟩ := gd_some h
  refine x_iald hC hW aX35 g19 dX2_keep_91 ?_
  obtain ⟨t21, e22, h⟩ := bd h
  have K20 : ∀ (H : Heap) (locs : List Loc) (ls : Array Slot), wg LX G t21 s H locs → lv_has ls 6 [(0, .ref (ad G 33)), (4, .int t11), (5, .int t17)] → W p l e R s m args below meth c H locs 0 0 Q (F0 m 127 ls []) := by
    intro H locs ls hW hl
    refine lv_iload hx hb dX2_keep_127 (lv_at hl 1 rfl) ?_
    refine lv_iload hx hb dX2_keep_129 (lv_at hl 2 rfl) ?_
    obtain ⟨t43, e44, h⟩ := bd h
    have K42 : ∀ (H : Heap) (locs : List Loc) (ls : Array Slot), wg LX G t43 s H locs → lv_has ls 6 [] → W p l e R s m args below meth c H locs 0 0 Q (F0 m 139 ls []) := by
      intro H locs ls hW hl
      cases h
      exact kr _ _ _ _ dX2_keep_139 hW
    clear h
    have h := e44
    clear e44
    refine lv_icmp_le (tgt := 139) hx hb dX2_keep_131 (by decide) (fun q45 => ?_) (fun q45 => ?_)
    · have h := it_p q45 h
      cases h
      exact K42 _ _ _ hW (lv_sub hl [] rfl)
    · have h := it_n q45 h
      refine lv_aload_n hx hb dX2_keep_134 rfl (lv_at hl 0 rfl) ?_
      refine lv_iconst (v := 1) hx hb dX2_keep_135 (by decide) ?_
      refine pX33_6 hC hW rfl dX2_keep_136 (fun H locs hW => ?_)
      obtain ⟨s46, e47, h⟩ := nx_some h
      rw [← e47] at hW
      cases h
      exact K42 _ _ _ hW (lv_sub hl [] rfl)
  clear h
  have h := e22
  clear e22
  refine lv_icmp_ne (tgt := 106) hx hb dX2_keep_92 (by decide) (fun q23 => ?_) (fun q23 => ?_)
  · have h := it_n q23 h
    refine lv_aload_n hx hb dX2_keep_106 rfl (lv_at hl 0 rfl) ?_
    refine lv_iconst (v := 1) hx hb dX2_keep_107 (by decide) ?_
    refine pX33_5 hC hW rfl dX2_keep_108 (fun H locs hW => ?_)
    obtain ⟨s24, e25, h⟩ := nx_some h
    rw [← e25] at hW
    refine lv_aload_n hx hb dX2_keep_111 rfl (lv_at hl 0 rfl) ?_
    refine gX33_3 hC hW dX2_keep_112 ?_
    refine lv_iload_n hx hb dX2_keep_115 rfl (lv_at hl 1 rfl) ?_
    refine lv_iload hx hb dX2_keep_116 (lv_at hl 2 rfl) ?_
    obtain ⟨g26, h⟩ := gd_some h
    refine x_iast hC hW aX35 g26 dX2_keep_118 (fun H locs hW => ?_)
    obtain ⟨s27, e28, h⟩ := nx_some h
    rw [← e28] at hW
    refine lv_aload_n hx hb dX2_keep_119 rfl (lv_at hl 0 rfl) ?_
    refine gX33_4 hC hW dX2_keep_120 ?_
    refine lv_iload_n hx hb dX2_keep_123 rfl (lv_at hl 1 rfl) ?_
    refine lv_iload hx hb dX2_keep_124 (lv_at hl 3 rfl) ?_
    obtain ⟨g29, h⟩ := gd_some h
    refine x_iast hC hW aX36 g29 dX2_keep_126 (fun H locs hW => ?_)
    obtain ⟨s30, e31, h⟩ := nx_some h
    rw [← e31] at hW
    cases h
    exact K20 _ _ _ hW (lv_sub hl [0, 2, 3] rfl)
  · have h := it_p q23 h
    refine lv_iload hx hb dX2_keep_95 (lv_at hl 3 rfl) ?_
    refine lv_aload_n hx hb dX2_keep_97 rfl (lv_at hl 0 rfl) ?_
    refine gX33_4 hC hW dX2_keep_98 ?_
    refine lv_iload_n hx hb dX2_keep_101 rfl (lv_at hl 1 rfl) ?_
    obtain ⟨g32, h⟩ := gd_some h
    refine x_iald hC hW aX36 g32 dX2_keep_102 ?_
    refine lv_icmp_eq (tgt := 127) hx hb dX2_keep_103 (by decide) (fun q33 => ?_) (fun q33 => ?_)
    · have h := it_p q33 h
      cases h
      exact K20 _ _ _ hW (lv_sub hl [0, 2, 3] rfl)
    · have h := it_n q33 h
      refine lv_aload_n hx hb dX2_keep_106 rfl (lv_at hl 0 rfl) ?_
      refine lv_iconst (v := 1) hx hb dX2_keep_107 (by decide) ?_
      refine pX33_5 hC hW rfl dX2_keep_108 (fun H locs hW => ?_)
      obtain ⟨s34, e35, h⟩ := nx_some h
      rw [← e35] at hW
      refine lv_aload_n hx hb dX2_keep_111 rfl (lv_at hl 0 rfl) ?_
      refine gX33_3 hC hW dX2_keep_112 ?_
      refine lv_iload_n hx hb dX2_keep_115 rfl (lv_at hl 1 rfl) ?_
      refine lv_iload hx hb dX2_keep_116 (lv_at hl 2 rfl) ?_
      obtain ⟨g36, h⟩ := gd_some h
      refine x_iast hC hW aX35 g36 dX2_keep_118 (fun H locs hW => ?_)
      obtain ⟨s37, e38, h⟩ := nx_some h
      rw [← e38] at hW
      refine lv_aload_n hx hb dX2_keep_119 rfl (lv_at hl 0 rfl) ?_
      refine gX33_4 hC hW dX2_keep_120 ?_
      refine lv_iload_n hx hb dX2_keep_123 rfl (lv_at hl 1 rfl) ?_
      refine lv_iload hx hb dX2_keep_124 (lv_at hl 3 rfl) ?_
      obtain ⟨g39, h⟩ := gd_some h
      refine x_iast hC hW aX36 g39 dX2_keep_126 (fun H locs hW => ?_)
      obtain ⟨s40, e41, h⟩ := nx_some h
      rw [← e41] at hW
      cases h
      exact K20 _ _ _ hW (lv_sub hl [0, 2, 3] rfl)
theorem ctX33_keep {N : Nat} {S : St} {x1 : Int32} {x2 : Int32} {x3 : Int32}  {S' : St} (h : fX33_keep N S x1 x2 x3 = some (S')) : Met l yX2_keep (wm yX2_keep cX2_keep 6 none) (rmx 0 0) (pcm LX G S [.ref (ad G 33), .int x1, .int x2, .int x3]) (qcV LX G S') 0 0 G.2.2.2 :=
  x_enter (own := RX2) rfl rfl (Nat.le_of_ble_eq_true rfl) (fun p e s m below meth c ls hC hr hk hW hl => wX33_keep hC (Nat.le_refl _) (Nat.le_refl _)  h (fun H locs ls pc hd hW => x_retv hC hr hk hW hd) _ _ _ hW hl)
def fX33_widen_L7 (N : Nat)  : Nat → St → Int32 → Option (St)
  | 0, _, _ => none
  | n + 1, S, x1 =>
    if 12 ≤ x1 then
      some S
    else
      Option.bind (fX25_isThere S x1) fun t4 =>
      Option.bind (α := St) (
        if t4 = 0 then
          some S
        else
          gd (inb x1 12) <|
          nx (p1 S 35 (Int32.toNatClampNeg x1) 0) fun s11 =>
          gd (inb x1 12) <|
          nx (p1 s11 36 (Int32.toNatClampNeg x1) 99) fun s14 =>
          Option.bind (fX33_keep N s14 x1 0 99) fun t16 =>
          some t16
      ) fun t7 =>
      fX33_widen_L7 N n t7 (x1 + 1)
set_option maxHeartbeats 4000000 in
set_option maxRecDepth 100000 in
theorem wX33_widen_L7 {N : Nat}  (hC : CallFix p m c cX2_widen 2 s args lw_g RX2) (hF : 1 ≤ R.frames) (hL : 25 ≤ R.locals)  {t : St} (kx : ∀ (H : Heap) (locs : List Loc) (ls : Array Slot), wg LX G t s H locs → lv_has ls 2 [] → W p l e R s m args below meth c H locs 0 0 Q (F0 m 53 ls [])) : ∀ (n : Nat) (S : St) (x1 : Int32), fX33_widen_L7 N  n S x1 = some t → ∀ (H : Heap) (locs : List Loc) (ls : Array Slot), wg LX G S s H locs → lv_has ls 2 [(0, .ref (ad G 33)), (1, .int x1)] → W p l e R s m args below meth c H locs 0 0 Q (F0 m 7 ls []) := by
  have hx := hC.1
  have hb := hC.2.1
  intro n
  induction n with
  | zero =>
    intro _ _ h
    cases h
  | succ n ih =>
    intro S x1 h H locs ls hW hl
    rw [fX33_widen_L7] at h
    refine lv_iload_n hx hb dX2_widen_7 rfl (lv_at hl 1 rfl) ?_
    refine lv_bipush (v := 12) hx hb dX2_widen_8 (by decide) ?_
    refine lv_icmp_ge (tgt := 53) hx hb dX2_widen_10 (by decide) (fun q3 => ?_) (fun q3 => ?_)
    · have h := it_p q3 h
      cases h
      exact kx _ _ _ hW (lv_sub hl [] rfl)
    · have h := it_n q3 h
      refine lv_aload_n hx hb dX2_widen_13 rfl (lv_at hl 0 rfl) ?_
      refine gX33_0 hC hW dX2_widen_14 ?_
      refine lv_iload_n hx hb dX2_widen_17 rfl (lv_at hl 1 rfl) ?_
      obtain ⟨t4, e5, h⟩ := bd h
      refine x_goi (x_rv (rest := []) hC hW (ctX25_isThere e5) (cwV_g hC.2.2.2.2 ml_X2_37 mi_X0_isThere md_X0_isThere ⟨(Nat.le_trans (Nat.le_of_ble_eq_true rfl) hF), (Nat.le_trans (Nat.le_of_ble_eq_true rfl) hL)⟩) (rcX25 hW) rfl hl.1 rfl (Nat.le_of_ble_eq_true rfl) dX2_widen_18) hW (fun H locs hW => ?_)
      obtain ⟨t7, e8, h⟩ := bd h
      have K6 : ∀ (H : Heap) (locs : List Loc) (ls : Array Slot), wg LX G t7 s H locs → lv_has ls 2 [(0, .ref (ad G 33)), (1, .int x1)] → W p l e R s m args below meth c H locs 0 0 Q (F0 m 47 ls []) := by
        intro H locs ls hW hl
        refine lv_iinc (v := x1 + 1) (lv' := [(1, .int (x1 + 1)), (0, .ref (ad G 33))]) (k := 1) hx hb dX2_widen_47 hl rfl rfl (by decide) rfl (fun ls hl => ?_)
        refine lv_goto (tgt := 7) hx hb dX2_widen_50 (by decide) ?_
        exact ih _ _ h _ _ _ hW (lv_sub hl [1, 0] rfl)
      clear h
      have h := e8
      clear e8
      refine lv_if_eq (tgt := 47) hx hb dX2_widen_21 (by decide) (fun q9 => ?_) (fun q9 => ?_)
      · have h := it_p q9 h
        cases h
        exact K6 _ _ _ hW (lv_sub hl [0, 1] rfl)
      · have h := it_n q9 h
        refine lv_aload_n hx hb dX2_widen_24 rfl (lv_at hl 0 rfl) ?_
        refine gX33_3 hC hW dX2_widen_25 ?_
        refine lv_iload_n hx hb dX2_widen_28 rfl (lv_at hl 1 rfl) ?_
        refine lv_iconst (v := 0) hx hb dX2_widen_29 (by decide) ?_
        obtain ⟨g10, h⟩ := gd_some h
        refine x_iast hC hW aX35 g10 dX2_widen_30 (fun H locs hW => ?_)
        obtain ⟨s11, e12, h⟩ := nx_some h
        rw [← e12] at hW
        refine lv_aload_n hx hb dX2_widen_31 rfl (lv_at hl 0 rfl) ?_
        refine gX33_4 hC hW dX2_widen_32 ?_
        refine lv_iload_n hx hb dX2_widen_35 rfl (lv_at hl 1 rfl) ?_
        refine lv_bipush (v := 99) hx hb dX2_widen_36 (by decide) ?_
        obtain ⟨g13, h⟩ := gd_some h
        refine x_iast hC hW aX36 g13 dX2_widen_38 (fun H locs hW => ?_)
        obtain ⟨s14, e15, h⟩ := nx_some h
        rw [← e15] at hW
        refine lv_aload_n hx hb dX2_widen_39 rfl (lv_at hl 0 rfl) ?_
        refine lv_iload_n hx hb dX2_widen_40 rfl (lv_at hl 1 rfl) ?_
        refine lv_iconst (v := 0) hx hb dX2_widen_41 (by decide) ?_
        refine lv_bipush (v := 99) hx hb dX2_widen_42 (by decide) ?_
        obtain ⟨t16, e17, h⟩ := bd h
        refine x_gov (x_rv (rest := []) hC hW (ctX33_keep e17) (cwV_g hC.2.2.2.2 ml_X2_50 mi_X2_keep md_X2_keep ⟨(Nat.le_trans (Nat.le_of_ble_eq_true rfl) hF), (Nat.le_trans (Nat.le_of_ble_eq_true rfl) hL)⟩) (rcX33 hW) rfl hl.1 rfl (Nat.le_of_ble_eq_true rfl) dX2_widen_44) hW (fun H locs hW => ?_)
        cases h
        exact K6 _ _ _ hW (lv_sub hl [0, 1] rfl)
def fX33_widen (N : Nat) (S : St)  : Option (St) :=
  nx (p1 S 33 6 0) fun s1 =>
  Option.bind (fX33_widen_L7 N N s1 0) fun t18 =>
  some t18
set_option maxHeartbeats 4000000 in
set_option maxRecDepth 100000 in
theorem wX33_widen {N : Nat} {S : St}  (hC : CallFix p m c cX2_widen 2 s args lw_g RX2) (hF : 1 ≤ R.frames) (hL : 25 ≤ R.locals)  {S' : St} (h : fX33_widen N S = some (S')) (kr : ∀ (H : Heap) (locs : List Loc) (ls : Array Slot) (pc : Nat), decode cX2_widen pc = .ok (.return_, 1) → wg LX G (S') s H locs → W p l e R s m args below meth c H locs 0 0 Q (F0 m pc ls [])) : ∀ (H : Heap) (locs : List Loc) (ls : Array Slot), wg LX G S s H locs → lv_has ls 2 [(0, .ref (ad G 33))] → W p l e R s m args below meth c H locs 0 0 Q (F0 m 0 ls []) := by
  have hx := hC.1
  have hb := hC.2.1
  intro H locs ls hW hl
  unfold fX33_widen at h
  refine lv_aload_n hx hb dX2_widen_0 rfl (lv_at hl 0 rfl) ?_
  refine lv_iconst (v := 0) hx hb dX2_widen_1 (by decide) ?_
  refine pX33_6 hC hW rfl dX2_widen_2 (fun H locs hW => ?_)
  obtain ⟨s1, e2, h⟩ := nx_some h
  rw [← e2] at hW
  refine lv_iconst (v := 0) hx hb dX2_widen_5 (by decide) ?_
  refine lv_istore_n (lv' := [(1, .int 0), (0, .ref (ad G 33))]) hx hb dX2_widen_6 rfl hl (by decide) rfl (fun ls hl => ?_)
  obtain ⟨t18, e19, h⟩ := bd h
  refine wX33_widen_L7 hC hF hL  (fun H locs ls hW hl => ?_) _ _ _ e19 _ _ _ hW (lv_sub hl [1, 0] rfl)
  cases h
  exact kr _ _ _ _ dX2_widen_53 hW
theorem ctX33_widen {N : Nat} {S : St}   {S' : St} (h : fX33_widen N S = some (S')) : Met l yX2_widen (wm yX2_widen cX2_widen 2 none) (rmx 1 25) (pcm LX G S [.ref (ad G 33)]) (qcV LX G S') 0 0 G.2.2.2 :=
  x_enter (own := RX2) rfl rfl (Nat.le_of_ble_eq_true rfl) (fun p e s m below meth c ls hC hr hk hW hl => wX33_widen hC (Nat.le_refl _) (Nat.le_refl _)  h (fun H locs ls pc hd hW => x_retv hC hr hk hW hd) _ _ _ hW hl)
def fX33_lookAtFirst_L10 (N : Nat) (x1 : Int32) : Nat → St → Int32 → Option (St)
  | 0, _, _ => none
  | n + 1, S, x2 =>
    if 100 ≤ x2 then
      some S
    else
      Option.bind (fX25_isThere S x1) fun t3 =>
      if t3 = 0 then
        some S
      else
        Option.bind (fX25_allows S x1 x2) fun t6 =>
        gd (inb ((x1 * 100) + x2) 1200) <|
        gd (isb t6) <|
        nx (p1 S 34 (Int32.toNatClampNeg ((x1 * 100) + x2)) t6) fun s10 =>
        fX33_lookAtFirst_L10 N x1 n s10 (x2 + 1)
set_option maxHeartbeats 4000000 in
set_option maxRecDepth 100000 in
theorem wX33_lookAtFirst_L10 {N : Nat} {x1 : Int32} (hC : CallFix p m c cX2_lookAtFirst 3 s args lw_g RX2) (hF : 2 ≤ R.frames) (hL : 46 ≤ R.locals)  {t : St} (kx : ∀ (H : Heap) (locs : List Loc) (ls : Array Slot), wg LX G t s H locs → lv_has ls 3 [(0, .ref (ad G 33)), (1, .int x1)] → W p l e R s m args below meth c H locs 0 0 Q (F0 m 53 ls [])) : ∀ (n : Nat) (S : St) (x2 : Int32), fX33_lookAtFirst_L10 N x1 n S x2 = some t → ∀ (H : Heap) (locs : List Loc) (ls : Array Slot), wg LX G S s H locs → lv_has ls 3 [(0, .ref (ad G 33)), (1, .int x1), (2, .int x2)] → W p l e R s m args below meth c H locs 0 0 Q (F0 m 10 ls []) := by
  have hx := hC.1
  have hb := hC.2.1
  intro n
  induction n with
  | zero =>
    intro _ _ h
    cases h
  | succ n ih =>
    intro S x2 h H locs ls hW hl
    rw [fX33_lookAtFirst_L10] at h
    refine lv_iload_n hx hb dX2_lookAtFirst_10 rfl (lv_at hl 2 rfl) ?_
    refine lv_bipush (v := 100) hx hb dX2_lookAtFirst_11 (by decide) ?_
    refine lv_icmp_ge (tgt := 53) hx hb dX2_lookAtFirst_13 (by decide) (fun q2 => ?_) (fun q2 => ?_)
    · have h := it_p q2 h
      cases h
      exact kx _ _ _ hW (lv_sub hl [0, 1] rfl)
    · have h := it_n q2 h
      refine lv_aload_n hx hb dX2_lookAtFirst_16 rfl (lv_at hl 0 rfl) ?_
      refine gX33_0 hC hW dX2_lookAtFirst_17 ?_
      refine lv_iload_n hx hb dX2_lookAtFirst_20 rfl (lv_at hl 1 rfl) ?_
      obtain ⟨t3, e4, h⟩ := bd h
      refine x_goi (x_rv (rest := []) hC hW (ctX25_isThere e4) (cwV_g hC.2.2.2.2 ml_X2_37 mi_X0_isThere md_X0_isThere ⟨(Nat.le_trans (Nat.le_of_ble_eq_true rfl) hF), (Nat.le_trans (Nat.le_of_ble_eq_true rfl) hL)⟩) (rcX25 hW) rfl hl.1 rfl (Nat.le_of_ble_eq_true rfl) dX2_lookAtFirst_21) hW (fun H locs hW => ?_)
      refine lv_if_eq (tgt := 53) hx hb dX2_lookAtFirst_24 (by decide) (fun q5 => ?_) (fun q5 => ?_)
      · have h := it_p q5 h
        cases h
        exact kx _ _ _ hW (lv_sub hl [0, 1] rfl)
      · have h := it_n q5 h
        refine lv_aload_n hx hb dX2_lookAtFirst_27 rfl (lv_at hl 0 rfl) ?_
        refine gX33_2 hC hW dX2_lookAtFirst_28 ?_
        refine lv_iload_n hx hb dX2_lookAtFirst_31 rfl (lv_at hl 1 rfl) ?_
        refine lv_bipush (v := 100) hx hb dX2_lookAtFirst_32 (by decide) ?_
        refine lv_imul hx hb dX2_lookAtFirst_34 ?_
        refine lv_iload_n hx hb dX2_lookAtFirst_35 rfl (lv_at hl 2 rfl) ?_
        refine lv_iadd hx hb dX2_lookAtFirst_36 ?_
        refine lv_aload_n hx hb dX2_lookAtFirst_37 rfl (lv_at hl 0 rfl) ?_
        refine gX33_0 hC hW dX2_lookAtFirst_38 ?_
        refine lv_iload_n hx hb dX2_lookAtFirst_41 rfl (lv_at hl 1 rfl) ?_
        refine lv_iload_n hx hb dX2_lookAtFirst_42 rfl (lv_at hl 2 rfl) ?_
        obtain ⟨t6, e7, h⟩ := bd h
        refine x_goi (x_rv (rest := [.int ((x1 * 100) + x2), .ref (ad G 34)]) hC hW (ctX25_allows e7) (cwV_g hC.2.2.2.2 ml_X2_43 mi_X0_allows md_X0_allows ⟨(Nat.le_trans (Nat.le_of_ble_eq_true rfl) hF), (Nat.le_trans (Nat.le_of_ble_eq_true rfl) hL)⟩) (rcX25 hW) rfl hl.1 rfl (Nat.le_of_ble_eq_true rfl) dX2_lookAtFirst_43) hW (fun H locs hW => ?_)
        obtain ⟨g8, h⟩ := gd_some h
        obtain ⟨g9, h⟩ := gd_some h
        refine x_zast hC hW zX34 g8 g9 dX2_lookAtFirst_46 (fun H locs hW => ?_)
        obtain ⟨s10, e11, h⟩ := nx_some h
        rw [← e11] at hW
        refine lv_iinc (v := x2 + 1) (lv' := [(2, .int (x2 + 1)), (0, .ref (ad G 33)), (1, .int x1)]) (k := 2) hx hb dX2_lookAtFirst_47 hl rfl rfl (by decide) rfl (fun ls hl => ?_)
        refine lv_goto (tgt := 10) hx hb dX2_lookAtFirst_50 (by decide) ?_
        exact ih _ _ h _ _ _ hW (lv_sub hl [1, 2, 0] rfl)
def fX33_lookAtFirst_L2 (N : Nat)  : Nat → St → Int32 → Option (St)
  | 0, _, _ => none
  | n + 1, S, x1 =>
    if 12 ≤ x1 then
      some S
    else
      Option.bind (fX33_lookAtFirst_L10 N x1 N S 0) fun t12 =>
      fX33_lookAtFirst_L2 N n t12 (x1 + 1)
set_option maxHeartbeats 4000000 in
set_option maxRecDepth 100000 in
theorem wX33_lookAtFirst_L2 {N : Nat}  (hC : CallFix p m c cX2_lookAtFirst 3 s args lw_g RX2) (hF : 2 ≤ R.frames) (hL : 46 ≤ R.locals)  {t : St} (kx : ∀ (H : Heap) (locs : List Loc) (ls : Array Slot), wg LX G t s H locs → lv_has ls 3 [(0, .ref (ad G 33))] → W p l e R s m args below meth c H locs 0 0 Q (F0 m 59 ls [])) : ∀ (n : Nat) (S : St) (x1 : Int32), fX33_lookAtFirst_L2 N  n S x1 = some t → ∀ (H : Heap) (locs : List Loc) (ls : Array Slot), wg LX G S s H locs → lv_has ls 3 [(0, .ref (ad G 33)), (1, .int x1)] → W p l e R s m args below meth c H locs 0 0 Q (F0 m 2 ls []) := by
  have hx := hC.1
  have hb := hC.2.1
  intro n
  induction n with
  | zero =>
    intro _ _ h
    cases h
  | succ n ih =>
    intro S x1 h H locs ls hW hl
    rw [fX33_lookAtFirst_L2] at h
    refine lv_iload_n hx hb dX2_lookAtFirst_2 rfl (lv_at hl 1 rfl) ?_
    refine lv_bipush (v := 12) hx hb dX2_lookAtFirst_3 (by decide) ?_
    refine lv_icmp_ge (tgt := 59) hx hb dX2_lookAtFirst_5 (by decide) (fun q1 => ?_) (fun q1 => ?_)
    · have h := it_p q1 h
      cases h
      exact kx _ _ _ hW (lv_sub hl [0] rfl)
    · have h := it_n q1 h
      refine lv_iconst (v := 0) hx hb dX2_lookAtFirst_8 (by decide) ?_
      refine lv_istore_n (lv' := [(2, .int 0), (0, .ref (ad G 33)), (1, .int x1)]) hx hb dX2_lookAtFirst_9 rfl hl (by decide) rfl (fun ls hl => ?_)
      obtain ⟨t12, e13, h⟩ := bd h
      refine wX33_lookAtFirst_L10 hC hF hL  (fun H locs ls hW hl => ?_) _ _ _ e13 _ _ _ hW (lv_sub hl [1, 2, 0] rfl)
      refine lv_iinc (v := x1 + 1) (lv' := [(1, .int (x1 + 1)), (0, .ref (ad G 33))]) (k := 1) hx hb dX2_lookAtFirst_53 hl rfl rfl (by decide) rfl (fun ls hl => ?_)
      refine lv_goto (tgt := 2) hx hb dX2_lookAtFirst_56 (by decide) ?_
      exact ih _ _ h _ _ _ hW (lv_sub hl [1, 0] rfl)
def fX33_lookAtFirst (N : Nat) (S : St)  : Option (St) :=
  Option.bind (fX33_lookAtFirst_L2 N N S 0) fun t14 =>
  Option.bind (fX33_widen N t14) fun t16 =>
  some t16
set_option maxHeartbeats 4000000 in
set_option maxRecDepth 100000 in
theorem wX33_lookAtFirst {N : Nat} {S : St}  (hC : CallFix p m c cX2_lookAtFirst 3 s args lw_g RX2) (hF : 2 ≤ R.frames) (hL : 46 ≤ R.locals)  {S' : St} (h : fX33_lookAtFirst N S = some (S')) (kr : ∀ (H : Heap) (locs : List Loc) (ls : Array Slot) (pc : Nat), decode cX2_lookAtFirst pc = .ok (.return_, 1) → wg LX G (S') s H locs → W p l e R s m args below meth c H locs 0 0 Q (F0 m pc ls [])) : ∀ (H : Heap) (locs : List Loc) (ls : Array Slot), wg LX G S s H locs → lv_has ls 3 [(0, .ref (ad G 33))] → W p l e R s m args below meth c H locs 0 0 Q (F0 m 0 ls []) := by
  have hx := hC.1
  have hb := hC.2.1
  intro H locs ls hW hl
  unfold fX33_lookAtFirst at h
  refine lv_iconst (v := 0) hx hb dX2_lookAtFirst_0 (by decide) ?_
  refine lv_istore_n (lv' := [(1, .int 0), (0, .ref (ad G 33))]) hx hb dX2_lookAtFirst_1 rfl hl (by decide) rfl (fun ls hl => ?_)
  obtain ⟨t14, e15, h⟩ := bd h
  refine wX33_lookAtFirst_L2 hC hF hL  (fun H locs ls hW hl => ?_) _ _ _ e15 _ _ _ hW (lv_sub hl [1, 0] rfl)
  refine lv_aload_n hx hb dX2_lookAtFirst_59 rfl (lv_at hl 0 rfl) ?_
  obtain ⟨t16, e17, h⟩ := bd h
  refine x_gov (x_rv (rest := []) hC hW (ctX33_widen e17) (cwV_g hC.2.2.2.2 ml_X2_47 mi_X2_widen md_X2_widen ⟨(Nat.le_trans (Nat.le_of_ble_eq_true rfl) hF), (Nat.le_trans (Nat.le_of_ble_eq_true rfl) hL)⟩) (rcX33 hW) rfl hl.1 rfl (Nat.le_of_ble_eq_true rfl) dX2_lookAtFirst_60) hW (fun H locs hW => ?_)
  cases h
  exact kr _ _ _ _ dX2_lookAtFirst_63 hW
theorem ctX33_lookAtFirst {N : Nat} {S : St}   {S' : St} (h : fX33_lookAtFirst N S = some (S')) : Met l yX2_lookAtFirst (wm yX2_lookAtFirst cX2_lookAtFirst 3 none) (rmx 2 46) (pcm LX G S [.ref (ad G 33)]) (qcV LX G S') 0 0 G.2.2.2 :=
  x_enter (own := RX2) rfl rfl (Nat.le_of_ble_eq_true rfl) (fun p e s m below meth c ls hC hr hk hW hl => wX33_lookAtFirst hC (Nat.le_refl _) (Nat.le_refl _)  h (fun H locs ls pc hd hW => x_retv hC hr hk hW hd) _ _ _ hW hl)
def fX29_signOf (S : St) (x1 : Int32) (x2 : Int32) : Option (Int32) :=
  Option.bind (fX25_isThere S x2) fun t1 =>
  if t1 = 0 then
    some 0
  else
    gd (inb x1 8) <|
    gd (inb x1 8) <|
    some ((((S.1 30 (Int32.toNatClampNeg x1)) >>> (x2 &&& 31)) &&& 1) - (((S.1 31 (Int32.toNatClampNeg x1)) >>> (x2 &&& 31)) &&& 1))
set_option maxHeartbeats 4000000 in
set_option maxRecDepth 100000 in
theorem wX29_signOf {S : St} {x1 : Int32} {x2 : Int32} (hC : CallFix p m c cX7_signOf 3 s args lw_g RX7) (hF : 1 ≤ R.frames) (hL : 21 ≤ R.locals)  {v : Int32} (h : fX29_signOf S x1 x2 = some v) (kr : ∀ (H : Heap) (locs : List Loc) (ls : Array Slot) (pc : Nat), decode cX7_signOf pc = .ok (.ireturn, 1) → wg LX G S s H locs → W p l e R s m args below meth c H locs 0 0 Q (F0 m pc ls [.int v])) : ∀ (H : Heap) (locs : List Loc) (ls : Array Slot), wg LX G S s H locs → lv_has ls 3 [(0, .ref (ad G 29)), (1, .int x1), (2, .int x2)] → W p l e R s m args below meth c H locs 0 0 Q (F0 m 0 ls []) := by
  have hx := hC.1
  have hb := hC.2.1
  intro H locs ls hW hl
  unfold fX29_signOf at h
  refine lv_aload_n hx hb dX7_signOf_0 rfl (lv_at hl 0 rfl) ?_
  refine gX29_0 hC hW dX7_signOf_1 ?_
  refine lv_iload_n hx hb dX7_signOf_4 rfl (lv_at hl 2 rfl) ?_
  obtain ⟨t1, e2, h⟩ := bd h
  refine x_goi (x_rv (rest := []) hC hW (ctX25_isThere e2) (cwV_g hC.2.2.2.2 ml_X7_29 mi_X0_isThere md_X0_isThere ⟨(Nat.le_trans (Nat.le_of_ble_eq_true rfl) hF), (Nat.le_trans (Nat.le_of_ble_eq_true rfl) hL)⟩) (rcX25 hW) rfl hl.1 rfl (Nat.le_of_ble_eq_true rfl) dX7_signOf_5) hW (fun H locs hW => ?_)
  refine lv_if_ne (tgt := 13) hx hb dX7_signOf_8 (by decide) (fun q3 => ?_) (fun q3 => ?_)
  · have h := it_n q3 h
    refine lv_aload_n hx hb dX7_signOf_13 rfl (lv_at hl 0 rfl) ?_
    refine gX29_1 hC hW dX7_signOf_14 ?_
    refine lv_iload_n hx hb dX7_signOf_17 rfl (lv_at hl 1 rfl) ?_
    obtain ⟨g4, h⟩ := gd_some h
    refine x_iald hC hW aX30 g4 dX7_signOf_18 ?_
    refine lv_iload_n hx hb dX7_signOf_19 rfl (lv_at hl 2 rfl) ?_
    refine lv_ishr hx hb dX7_signOf_20 ?_
    refine lv_iconst (v := 1) hx hb dX7_signOf_21 (by decide) ?_
    refine lv_iand hx hb dX7_signOf_22 ?_
    refine lv_aload_n hx hb dX7_signOf_23 rfl (lv_at hl 0 rfl) ?_
    refine gX29_2 hC hW dX7_signOf_24 ?_
    refine lv_iload_n hx hb dX7_signOf_27 rfl (lv_at hl 1 rfl) ?_
    obtain ⟨g5, h⟩ := gd_some h
    refine x_iald hC hW aX31 g5 dX7_signOf_28 ?_
    refine lv_iload_n hx hb dX7_signOf_29 rfl (lv_at hl 2 rfl) ?_
    refine lv_ishr hx hb dX7_signOf_30 ?_
    refine lv_iconst (v := 1) hx hb dX7_signOf_31 (by decide) ?_
    refine lv_iand hx hb dX7_signOf_32 ?_
    refine lv_isub hx hb dX7_signOf_33 ?_
    cases h
    exact kr _ _ _ _ dX7_signOf_34 hW
  · have h := it_p q3 h
    refine lv_iconst (v := 0) hx hb dX7_signOf_11 (by decide) ?_
    cases h
    exact kr _ _ _ _ dX7_signOf_12 hW
theorem ctX29_signOf {S : St} {x1 : Int32} {x2 : Int32}  {v : Int32} (h : fX29_signOf S x1 x2 = some v) : Met l yX7_signOf (wm yX7_signOf cX7_signOf 3 (some .int)) (rmx 1 21) (pcm LX G S [.ref (ad G 29), .int x1, .int x2]) (qcI LX G S v) 0 0 G.2.2.2 :=
  x_enter (own := RX7) rfl rfl (Nat.le_of_ble_eq_true rfl) (fun p e s m below meth c ls hC hr hk hW hl => wX29_signOf hC (Nat.le_refl _) (Nat.le_refl _)  h (fun H locs ls pc hd hW => x_reti hC hr hk hW hd) _ _ _ hW hl)
def fX33_leastOfSum_L4 (N : Nat) (S : St) (x1 : Int32) : Nat → Int32 → Int32 → Option (Int32)
  | 0, _, _ => none
  | n + 1, x2, x3 =>
    if 12 ≤ x3 then
      some x2
    else
      Option.bind (fX29_signOf S x1 x3) fun t2 =>
      Option.bind (α := Int32) (
        if t2 ≤ 0 then
          if 0 ≤ t2 then
            some 0
          else
            gd (inb x3 12) <|
            some (-(S.1 36 (Int32.toNatClampNeg x3)))
        else
          gd (inb x3 12) <|
          some (S.1 35 (Int32.toNatClampNeg x3))
      ) fun t5 =>
      fX33_leastOfSum_L4 N S x1 n (x2 + t5) (x3 + 1)
set_option maxHeartbeats 4000000 in
set_option maxRecDepth 100000 in
theorem wX33_leastOfSum_L4 {N : Nat} {S : St} {x1 : Int32} (hC : CallFix p m c cX2_leastOfSum 5 s args lw_g RX2) (hF : 2 ≤ R.frames) (hL : 43 ≤ R.locals)  {t : Int32} (kx : ∀ (H : Heap) (locs : List Loc) (ls : Array Slot), wg LX G S s H locs → lv_has ls 5 [(2, .int t)] → W p l e R s m args below meth c H locs 0 0 Q (F0 m 60 ls [])) : ∀ (n : Nat) (x2 : Int32) (x3 : Int32), fX33_leastOfSum_L4 N S x1 n x2 x3 = some t → ∀ (H : Heap) (locs : List Loc) (ls : Array Slot), wg LX G S s H locs → lv_has ls 5 [(0, .ref (ad G 33)), (1, .int x1), (2, .int x2), (3, .int x3)] → W p l e R s m args below meth c H locs 0 0 Q (F0 m 4 ls []) := by
  have hx := hC.1
  have hb := hC.2.1
  intro n
  induction n with
  | zero =>
    intro _ _ h
    cases h
  | succ n ih =>
    intro x2 x3 h H locs ls hW hl
    rw [fX33_leastOfSum_L4] at h
    refine lv_iload_n hx hb dX2_leastOfSum_4 rfl (lv_at hl 3 rfl) ?_
    refine lv_bipush (v := 12) hx hb dX2_leastOfSum_5 (by decide) ?_
    refine lv_icmp_ge (tgt := 60) hx hb dX2_leastOfSum_7 (by decide) (fun q1 => ?_) (fun q1 => ?_)
    · have h := it_p q1 h
      cases h
      exact kx _ _ _ hW (lv_sub hl [2] rfl)
    · have h := it_n q1 h
      refine lv_aload_n hx hb dX2_leastOfSum_10 rfl (lv_at hl 0 rfl) ?_
      refine gX33_1 hC hW dX2_leastOfSum_11 ?_
      refine lv_iload_n hx hb dX2_leastOfSum_14 rfl (lv_at hl 1 rfl) ?_
      refine lv_iload_n hx hb dX2_leastOfSum_15 rfl (lv_at hl 3 rfl) ?_
      obtain ⟨t2, e3, h⟩ := bd h
      refine x_goi (x_rv (rest := []) hC hW (ctX29_signOf e3) (cwV_g hC.2.2.2.2 ml_X2_80 mi_X7_signOf md_X7_signOf ⟨(Nat.le_trans (Nat.le_of_ble_eq_true rfl) hF), (Nat.le_trans (Nat.le_of_ble_eq_true rfl) hL)⟩) (rcX29 hW) rfl hl.1 rfl (Nat.le_of_ble_eq_true rfl) dX2_leastOfSum_16) hW (fun H locs hW => ?_)
      refine lv_istore (lv' := [(4, .int t2), (0, .ref (ad G 33)), (1, .int x1), (2, .int x2), (3, .int x3)]) hx hb dX2_leastOfSum_19 hl (by decide) rfl (fun ls hl => ?_)
      refine lv_iload_n hx hb dX2_leastOfSum_21 rfl (lv_at hl 3 rfl) ?_
      refine lv_iload hx hb dX2_leastOfSum_22 (lv_at hl 0 rfl) ?_
      obtain ⟨t5, e6, h⟩ := bd h
      have K4 : ∀ (H : Heap) (locs : List Loc) (ls : Array Slot), wg LX G S s H locs → lv_has ls 5 [(0, .ref (ad G 33)), (1, .int x1), (3, .int x3)] → W p l e R s m args below meth c H locs 0 0 Q (F0 m 52 ls [.int t5, .int x2]) := by
        intro H locs ls hW hl
        refine lv_iadd hx hb dX2_leastOfSum_52 ?_
        refine lv_istore_n (lv' := [(2, .int (x2 + t5)), (0, .ref (ad G 33)), (1, .int x1), (3, .int x3)]) hx hb dX2_leastOfSum_53 rfl hl (by decide) rfl (fun ls hl => ?_)
        refine lv_iinc (v := x3 + 1) (lv' := [(3, .int (x3 + 1)), (2, .int (x2 + t5)), (0, .ref (ad G 33)), (1, .int x1)]) (k := 3) hx hb dX2_leastOfSum_54 hl rfl rfl (by decide) rfl (fun ls hl => ?_)
        refine lv_goto (tgt := 4) hx hb dX2_leastOfSum_57 (by decide) ?_
        exact ih _ _ h _ _ _ hW (lv_sub hl [2, 3, 1, 0] rfl)
      clear h
      have h := e6
      clear e6
      refine lv_if_le (tgt := 36) hx hb dX2_leastOfSum_24 (by decide) (fun q7 => ?_) (fun q7 => ?_)
      · have h := it_p q7 h
        refine lv_iload hx hb dX2_leastOfSum_36 (lv_at hl 0 rfl) ?_
        refine lv_if_ge (tgt := 51) hx hb dX2_leastOfSum_38 (by decide) (fun q8 => ?_) (fun q8 => ?_)
        · have h := it_p q8 h
          refine lv_iconst (v := 0) hx hb dX2_leastOfSum_51 (by decide) ?_
          cases h
          exact K4 _ _ _ hW (lv_sub hl [1, 2, 4] rfl)
        · have h := it_n q8 h
          refine lv_aload_n hx hb dX2_leastOfSum_41 rfl (lv_at hl 1 rfl) ?_
          refine gX33_4 hC hW dX2_leastOfSum_42 ?_
          refine lv_iload_n hx hb dX2_leastOfSum_45 rfl (lv_at hl 4 rfl) ?_
          obtain ⟨g9, h⟩ := gd_some h
          refine x_iald hC hW aX36 g9 dX2_leastOfSum_46 ?_
          refine lv_ineg hx hb dX2_leastOfSum_47 ?_
          refine lv_goto (tgt := 52) hx hb dX2_leastOfSum_48 (by decide) ?_
          cases h
          exact K4 _ _ _ hW (lv_sub hl [1, 2, 4] rfl)
      · have h := it_n q7 h
        refine lv_aload_n hx hb dX2_leastOfSum_27 rfl (lv_at hl 1 rfl) ?_
        refine gX33_3 hC hW dX2_leastOfSum_28 ?_
        refine lv_iload_n hx hb dX2_leastOfSum_31 rfl (lv_at hl 4 rfl) ?_
        obtain ⟨g10, h⟩ := gd_some h
        refine x_iald hC hW aX35 g10 dX2_leastOfSum_32 ?_
        refine lv_goto (tgt := 52) hx hb dX2_leastOfSum_33 (by decide) ?_
        cases h
        exact K4 _ _ _ hW (lv_sub hl [1, 2, 4] rfl)
def fX33_leastOfSum (N : Nat) (S : St) (x1 : Int32) : Option (Int32) :=
  Option.bind (fX33_leastOfSum_L4 N S x1 N 0 0) fun t11 =>
  some t11
set_option maxHeartbeats 4000000 in
set_option maxRecDepth 100000 in
theorem wX33_leastOfSum {N : Nat} {S : St} {x1 : Int32} (hC : CallFix p m c cX2_leastOfSum 5 s args lw_g RX2) (hF : 2 ≤ R.frames) (hL : 43 ≤ R.locals)  {v : Int32} (h : fX33_leastOfSum N S x1 = some v) (kr : ∀ (H : Heap) (locs : List Loc) (ls : Array Slot) (pc : Nat), decode cX2_leastOfSum pc = .ok (.ireturn, 1) → wg LX G S s H locs → W p l e R s m args below meth c H locs 0 0 Q (F0 m pc ls [.int v])) : ∀ (H : Heap) (locs : List Loc) (ls : Array Slot), wg LX G S s H locs → lv_has ls 5 [(0, .ref (ad G 33)), (1, .int x1)] → W p l e R s m args below meth c H locs 0 0 Q (F0 m 0 ls []) := by
  have hx := hC.1
  have hb := hC.2.1
  intro H locs ls hW hl
  unfold fX33_leastOfSum at h
  refine lv_iconst (v := 0) hx hb dX2_leastOfSum_0 (by decide) ?_
  refine lv_istore_n (lv' := [(2, .int 0), (0, .ref (ad G 33)), (1, .int x1)]) hx hb dX2_leastOfSum_1 rfl hl (by decide) rfl (fun ls hl => ?_)
  refine lv_iconst (v := 0) hx hb dX2_leastOfSum_2 (by decide) ?_
  refine lv_istore_n (lv' := [(3, .int 0), (2, .int 0), (0, .ref (ad G 33)), (1, .int x1)]) hx hb dX2_leastOfSum_3 rfl hl (by decide) rfl (fun ls hl => ?_)
  obtain ⟨t11, e12, h⟩ := bd h
  refine wX33_leastOfSum_L4 hC hF hL  (fun H locs ls hW hl => ?_) _ _ _ e12 _ _ _ hW (lv_sub hl [2, 3, 1, 0] rfl)
  refine lv_iload_n hx hb dX2_leastOfSum_60 rfl (lv_at hl 0 rfl) ?_
  cases h
  exact kr _ _ _ _ dX2_leastOfSum_61 hW
theorem ctX33_leastOfSum {N : Nat} {S : St} {x1 : Int32}  {v : Int32} (h : fX33_leastOfSum N S x1 = some v) : Met l yX2_leastOfSum (wm yX2_leastOfSum cX2_leastOfSum 5 (some .int)) (rmx 2 43) (pcm LX G S [.ref (ad G 33), .int x1]) (qcI LX G S v) 0 0 G.2.2.2 :=
  x_enter (own := RX2) rfl rfl (Nat.le_of_ble_eq_true rfl) (fun p e s m below meth c ls hC hr hk hW hl => wX33_leastOfSum hC (Nat.le_refl _) (Nat.le_refl _)  h (fun H locs ls pc hd hW => x_reti hC hr hk hW hd) _ _ _ hW hl)
def fX33_greatestOfSum_L4 (N : Nat) (S : St) (x1 : Int32) : Nat → Int32 → Int32 → Option (Int32)
  | 0, _, _ => none
  | n + 1, x2, x3 =>
    if 12 ≤ x3 then
      some x2
    else
      Option.bind (fX29_signOf S x1 x3) fun t2 =>
      Option.bind (α := Int32) (
        if t2 ≤ 0 then
          if 0 ≤ t2 then
            some 0
          else
            gd (inb x3 12) <|
            some (-(S.1 35 (Int32.toNatClampNeg x3)))
        else
          gd (inb x3 12) <|
          some (S.1 36 (Int32.toNatClampNeg x3))
      ) fun t5 =>
      fX33_greatestOfSum_L4 N S x1 n (x2 + t5) (x3 + 1)
set_option maxHeartbeats 4000000 in
set_option maxRecDepth 100000 in
theorem wX33_greatestOfSum_L4 {N : Nat} {S : St} {x1 : Int32} (hC : CallFix p m c cX2_greatestOfSum 5 s args lw_g RX2) (hF : 2 ≤ R.frames) (hL : 43 ≤ R.locals)  {t : Int32} (kx : ∀ (H : Heap) (locs : List Loc) (ls : Array Slot), wg LX G S s H locs → lv_has ls 5 [(2, .int t)] → W p l e R s m args below meth c H locs 0 0 Q (F0 m 60 ls [])) : ∀ (n : Nat) (x2 : Int32) (x3 : Int32), fX33_greatestOfSum_L4 N S x1 n x2 x3 = some t → ∀ (H : Heap) (locs : List Loc) (ls : Array Slot), wg LX G S s H locs → lv_has ls 5 [(0, .ref (ad G 33)), (1, .int x1), (2, .int x2), (3, .int x3)] → W p l e R s m args below meth c H locs 0 0 Q (F0 m 4 ls []) := by
  have hx := hC.1
  have hb := hC.2.1
  intro n
  induction n with
  | zero =>
    intro _ _ h
    cases h
  | succ n ih =>
    intro x2 x3 h H locs ls hW hl
    rw [fX33_greatestOfSum_L4] at h
    refine lv_iload_n hx hb dX2_greatestOfSum_4 rfl (lv_at hl 3 rfl) ?_
    refine lv_bipush (v := 12) hx hb dX2_greatestOfSum_5 (by decide) ?_
    refine lv_icmp_ge (tgt := 60) hx hb dX2_greatestOfSum_7 (by decide) (fun q1 => ?_) (fun q1 => ?_)
    · have h := it_p q1 h
      cases h
      exact kx _ _ _ hW (lv_sub hl [2] rfl)
    · have h := it_n q1 h
      refine lv_aload_n hx hb dX2_greatestOfSum_10 rfl (lv_at hl 0 rfl) ?_
      refine gX33_1 hC hW dX2_greatestOfSum_11 ?_
      refine lv_iload_n hx hb dX2_greatestOfSum_14 rfl (lv_at hl 1 rfl) ?_
      refine lv_iload_n hx hb dX2_greatestOfSum_15 rfl (lv_at hl 3 rfl) ?_
      obtain ⟨t2, e3, h⟩ := bd h
      refine x_goi (x_rv (rest := []) hC hW (ctX29_signOf e3) (cwV_g hC.2.2.2.2 ml_X2_80 mi_X7_signOf md_X7_signOf ⟨(Nat.le_trans (Nat.le_of_ble_eq_true rfl) hF), (Nat.le_trans (Nat.le_of_ble_eq_true rfl) hL)⟩) (rcX29 hW) rfl hl.1 rfl (Nat.le_of_ble_eq_true rfl) dX2_greatestOfSum_16) hW (fun H locs hW => ?_)
      refine lv_istore (lv' := [(4, .int t2), (0, .ref (ad G 33)), (1, .int x1), (2, .int x2), (3, .int x3)]) hx hb dX2_greatestOfSum_19 hl (by decide) rfl (fun ls hl => ?_)
      refine lv_iload_n hx hb dX2_greatestOfSum_21 rfl (lv_at hl 3 rfl) ?_
      refine lv_iload hx hb dX2_greatestOfSum_22 (lv_at hl 0 rfl) ?_
      obtain ⟨t5, e6, h⟩ := bd h
      have K4 : ∀ (H : Heap) (locs : List Loc) (ls : Array Slot), wg LX G S s H locs → lv_has ls 5 [(0, .ref (ad G 33)), (1, .int x1), (3, .int x3)] → W p l e R s m args below meth c H locs 0 0 Q (F0 m 52 ls [.int t5, .int x2]) := by
        intro H locs ls hW hl
        refine lv_iadd hx hb dX2_greatestOfSum_52 ?_
        refine lv_istore_n (lv' := [(2, .int (x2 + t5)), (0, .ref (ad G 33)), (1, .int x1), (3, .int x3)]) hx hb dX2_greatestOfSum_53 rfl hl (by decide) rfl (fun ls hl => ?_)
        refine lv_iinc (v := x3 + 1) (lv' := [(3, .int (x3 + 1)), (2, .int (x2 + t5)), (0, .ref (ad G 33)), (1, .int x1)]) (k := 3) hx hb dX2_greatestOfSum_54 hl rfl rfl (by decide) rfl (fun ls hl => ?_)
        refine lv_goto (tgt := 4) hx hb dX2_greatestOfSum_57 (by decide) ?_
        exact ih _ _ h _ _ _ hW (lv_sub hl [2, 3, 1, 0] rfl)
      clear h
      have h := e6
      clear e6
      refine lv_if_le (tgt := 36) hx hb dX2_greatestOfSum_24 (by decide) (fun q7 => ?_) (fun q7 => ?_)
      · have h := it_p q7 h
        refine lv_iload hx hb dX2_greatestOfSum_36 (lv_at hl 0 rfl) ?_
        refine lv_if_ge (tgt := 51) hx hb dX2_greatestOfSum_38 (by decide) (fun q8 => ?_) (fun q8 => ?_)
        · have h := it_p q8 h
          refine lv_iconst (v := 0) hx hb dX2_greatestOfSum_51 (by decide) ?_
          cases h
          exact K4 _ _ _ hW (lv_sub hl [1, 2, 4] rfl)
        · have h := it_n q8 h
          refine lv_aload_n hx hb dX2_greatestOfSum_41 rfl (lv_at hl 1 rfl) ?_
          refine gX33_3 hC hW dX2_greatestOfSum_42 ?_
          refine lv_iload_n hx hb dX2_greatestOfSum_45 rfl (lv_at hl 4 rfl) ?_
          obtain ⟨g9, h⟩ := gd_some h
          refine x_iald hC hW aX35 g9 dX2_greatestOfSum_46 ?_
          refine lv_ineg hx hb dX2_greatestOfSum_47 ?_
          refine lv_goto (tgt := 52) hx hb dX2_greatestOfSum_48 (by decide) ?_
          cases h
          exact K4 _ _ _ hW (lv_sub hl [1, 2, 4] rfl)
      · have h := it_n q7 h
        refine lv_aload_n hx hb dX2_greatestOfSum_27 rfl (lv_at hl 1 rfl) ?_
        refine gX33_4 hC hW dX2_greatestOfSum_28 ?_
        refine lv_iload_n hx hb dX2_greatestOfSum_31 rfl (lv_at hl 4 rfl) ?_
        obtain ⟨g10, h⟩ := gd_some h
        refine x_iald hC hW aX36 g10 dX2_greatestOfSum_32 ?_
        refine lv_goto (tgt := 52) hx hb dX2_greatestOfSum_33 (by decide) ?_
        cases h
        exact K4 _ _ _ hW (lv_sub hl [1, 2, 4] rfl)
def fX33_greatestOfSum (N : Nat) (S : St) (x1 : Int32) : Option (Int32) :=
  Option.bind (fX33_greatestOfSum_L4 N S x1 N 0 0) fun t11 =>
  some t11
set_option maxHeartbeats 4000000 in
set_option maxRecDepth 100000 in
theorem wX33_greatestOfSum {N : Nat} {S : St} {x1 : Int32} (hC : CallFix p m c cX2_greatestOfSum 5 s args lw_g RX2) (hF : 2 ≤ R.frames) (hL : 43 ≤ R.locals)  {v : Int32} (h : fX33_greatestOfSum N S x1 = some v) (kr : ∀ (H : Heap) (locs : List Loc) (ls : Array Slot) (pc : Nat), decode cX2_greatestOfSum pc = .ok (.ireturn, 1) → wg LX G S s H locs → W p l e R s m args below meth c H locs 0 0 Q (F0 m pc ls [.int v])) : ∀ (H : Heap) (locs : List Loc) (ls : Array Slot), wg LX G S s H locs → lv_has ls 5 [(0, .ref (ad G 33)), (1, .int x1)] → W p l e R s m args below meth c H locs 0 0 Q (F0 m 0 ls []) := by
  have hx := hC.1
  have hb := hC.2.1
  intro H locs ls hW hl
  unfold fX33_greatestOfSum at h
  refine lv_iconst (v := 0) hx hb dX2_greatestOfSum_0 (by decide) ?_
  refine lv_istore_n (lv' := [(2, .int 0), (0, .ref (ad G 33)), (1, .int x1)]) hx hb dX2_greatestOfSum_1 rfl hl (by decide) rfl (fun ls hl => ?_)
  refine lv_iconst (v := 0) hx hb dX2_greatestOfSum_2 (by decide) ?_
  refine lv_istore_n (lv' := [(3, .int 0), (2, .int 0), (0, .ref (ad G 33)), (1, .int x1)]) hx hb dX2_greatestOfSum_3 rfl hl (by decide) rfl (fun ls hl => ?_)
  obtain ⟨t11, e12, h⟩ := bd h
  refine wX33_greatestOfSum_L4 hC hF hL  (fun H locs ls hW hl => ?_) _ _ _ e12 _ _ _ hW (lv_sub hl [2, 3, 1, 0] rfl)
  refine lv_iload_n hx hb dX2_greatestOfSum_60 rfl (lv_at hl 0 rfl) ?_
  cases h
  exact kr _ _ _ _ dX2_greatestOfSum_61 hW
theorem ctX33_greatestOfSum {N : Nat} {S : St} {x1 : Int32}  {v : Int32} (h : fX33_greatestOfSum N S x1 = some v) : Met l yX2_greatestOfSum (wm yX2_greatestOfSum cX2_greatestOfSum 5 (some .int)) (rmx 2 43) (pcm LX G S [.ref (ad G 33), .int x1]) (qcI LX G S v) 0 0 G.2.2.2 :=
  x_enter (own := RX2) rfl rfl (Nat.le_of_ble_eq_true rfl) (fun p e s m below meth c ls hC hr hk hW hl => wX33_greatestOfSum hC (Nat.le_refl _) (Nat.le_refl _)  h (fun H locs ls pc hd hW => x_reti hC hr hk hW hd) _ _ _ hW hl)
end GEN
