section GEN
variable {p : Program} {l : Launch} {e : Env} {R : Room} {s : State} {m : MethodId} {args : Array Value} {below : List Frame} {meth : Method} {c : Code} {H : Heap} {locs : List Loc} {Q : State → Prop} {G : GG}
def fX37_writeFilling_L10 (N : Nat) (k1 : Nat) (x3 : Int32) : Nat → St → Int32 → Option (St)
  | 0, _, _ => none
  | n + 1, S, x4 =>
    if 12 ≤ x4 then
      some S
    else
      Option.bind (fX25_isThere S x4) fun t4 =>
      Option.bind (α := Int32) (
        if t4 = 0 then
          some (-1)
        else
          gd (inb x4 (lenX k1)) <|
          some (S.1 k1 (Int32.toNatClampNeg x4))
      ) fun t7 =>
      Option.bind (fX1_set S x3 x4 t7) fun t11 =>
      fX37_writeFilling_L10 N k1 x3 n t11 (x4 + 1)
set_option maxHeartbeats 4000000 in
set_option maxRecDepth 100000 in
theorem wX37_writeFilling_L10 {N : Nat} {k1 : Nat} {x3 : Int32} (hC : CallFix p m c cX8_writeFilling 5 s args lw_g RX8) (hF : 1 ≤ R.frames) (hL : 23 ≤ R.locals) (ha1 : isA LX k1 (lenX k1)) {t : St} (kx : ∀ (H : Heap) (locs : List Loc) (ls : Array Slot), wg LX G t s H locs → lv_has ls 5 [] → W p l e R s m args below meth c H locs 0 0 Q (F0 m 50 ls [])) : ∀ (n : Nat) (S : St) (x4 : Int32), fX37_writeFilling_L10 N k1 x3 n S x4 = some t → ∀ (H : Heap) (locs : List Loc) (ls : Array Slot), wg LX G S s H locs → lv_has ls 5 [(0, .ref (ad G 37)), (1, .ref (ad G k1)), (2, .ref (ad G 1)), (3, .int x3), (4, .int x4)] → W p l e R s m args below meth c H locs 0 0 Q (F0 m 10 ls []) := by
  have hx := hC.1
  have hb := hC.2.1
  intro n
  induction n with
  | zero =>
    intro _ _ h
    cases h
  | succ n ih =>
    intro S x4 h H locs ls hW hl
    rw [fX37_writeFilling_L10] at h
    refine lv_iload hx hb dX8_writeFilling_10 (lv_at hl 4 rfl) ?_
    refine lv_bipush (v := 12) hx hb dX8_writeFilling_12 (by decide) ?_
    refine lv_icmp_ge (tgt := 50) hx hb dX8_writeFilling_14 (by decide) (fun q3 => ?_) (fun q3 => ?_)
    · have h := it_p q3 h
      cases h
      exact kx _ _ _ hW (lv_sub hl [] rfl)
    · have h := it_n q3 h
      refine lv_aload_n hx hb dX8_writeFilling_17 rfl (lv_at hl 2 rfl) ?_
      refine lv_iload_n hx hb dX8_writeFilling_18 rfl (lv_at hl 3 rfl) ?_
      refine lv_iload hx hb dX8_writeFilling_19 (lv_at hl 4 rfl) ?_
      refine lv_aload_n hx hb dX8_writeFilling_21 rfl (lv_at hl 0 rfl) ?_
      refine gX37_0 hC hW dX8_writeFilling_22 ?_
      refine lv_iload hx hb dX8_writeFilling_25 (lv_at hl 4 rfl) ?_
      obtain ⟨t4, e5, h⟩ := bd h
      refine x_goi (x_rv (rest := [.int x4, .int x3, .ref (ad G 1)]) hC hW (ctX25_isThere e5) (cwV_g hC.2.2.2.2 ml_X8_101 mi_X0_isThere md_X0_isThere ⟨(Nat.le_trans (Nat.le_of_ble_eq_true rfl) hF), (Nat.le_trans (Nat.le_of_ble_eq_true rfl) hL)⟩) (rcX25 hW) rfl hl.1 rfl (Nat.le_of_ble_eq_true rfl) dX8_writeFilling_27) hW (fun H locs hW => ?_)
      obtain ⟨t7, e8, h⟩ := bd h
      have K6 : ∀ (H : Heap) (locs : List Loc) (ls : Array Slot), wg LX G S s H locs → lv_has ls 5 [(0, .ref (ad G 37)), (1, .ref (ad G k1)), (2, .ref (ad G 1)), (3, .int x3), (4, .int x4)] → W p l e R s m args below meth c H locs 0 0 Q (F0 m 41 ls [.int t7, .int x4, .int x3, .ref (ad G 1)]) := by
        intro H locs ls hW hl
        obtain ⟨t11, e12, h⟩ := bd h
        refine x_gov (x_rv (rest := []) hC hW (ctX1_set e12) (cwV_g hC.2.2.2.2 ml_X8_164 mi_X6_set md_X6_set ⟨(Nat.le_trans (Nat.le_of_ble_eq_true rfl) hF), (Nat.le_trans (Nat.le_of_ble_eq_true rfl) hL)⟩) (rcX1 hW) rfl hl.1 rfl (Nat.le_of_ble_eq_true rfl) dX8_writeFilling_41) hW (fun H locs hW => ?_)
        refine lv_iinc (v := x4 + 1) (lv' := [(4, .int (x4 + 1)), (0, .ref (ad G 37)), (1, .ref (ad G k1)), (2, .ref (ad G 1)), (3, .int x3)]) (k := 4) hx hb dX8_writeFilling_44 hl rfl rfl (by decide) rfl (fun ls hl => ?_)
        refine lv_goto (tgt := 10) hx hb dX8_writeFilling_47 (by decide) ?_
        exact ih _ _ h _ _ _ hW (lv_sub hl [1, 2, 3, 4, 0] rfl)
      clear h
      have h := e8
      clear e8
      refine lv_if_eq (tgt := 40) hx hb dX8_writeFilling_30 (by decide) (fun q9 => ?_) (fun q9 => ?_)
      · have h := it_p q9 h
        refine lv_iconst (v := (-1)) hx hb dX8_writeFilling_40 (by decide) ?_
        cases h
        exact K6 _ _ _ hW (lv_sub hl [0, 1, 2, 3, 4] rfl)
      · have h := it_n q9 h
        refine lv_aload_n hx hb dX8_writeFilling_33 rfl (lv_at hl 1 rfl) ?_
        refine lv_iload hx hb dX8_writeFilling_34 (lv_at hl 4 rfl) ?_
        obtain ⟨g10, h⟩ := gd_some h
        refine x_iald hC hW ha1 g10 dX8_writeFilling_36 ?_
        refine lv_goto (tgt := 41) hx hb dX8_writeFilling_37 (by decide) ?_
        cases h
        exact K6 _ _ _ hW (lv_sub hl [0, 1, 2, 3, 4] rfl)
def fX37_writeFilling (N : Nat) (S : St) (k1 : Nat) (x3 : Int32) : Option (St) :=
  Option.bind (fX1_make N S x3 12) fun t1 =>
  Option.bind (fX37_writeFilling_L10 N k1 x3 N t1 0) fun t13 =>
  some t13
set_option maxHeartbeats 4000000 in
set_option maxRecDepth 100000 in
theorem wX37_writeFilling {N : Nat} {S : St} {k1 : Nat} {x3 : Int32} (hC : CallFix p m c cX8_writeFilling 5 s args lw_g RX8) (hF : 1 ≤ R.frames) (hL : 23 ≤ R.locals) (ha1 : isA LX k1 (lenX k1)) {S' : St} (h : fX37_writeFilling N S k1 x3 = some (S')) (kr : ∀ (H : Heap) (locs : List Loc) (ls : Array Slot) (pc : Nat), decode cX8_writeFilling pc = .ok (.return_, 1) → wg LX G (S') s H locs → W p l e R s m args below meth c H locs 0 0 Q (F0 m pc ls [])) : ∀ (H : Heap) (locs : List Loc) (ls : Array Slot), wg LX G S s H locs → lv_has ls 5 [(0, .ref (ad G 37)), (1, .ref (ad G k1)), (2, .ref (ad G 1)), (3, .int x3)] → W p l e R s m args below meth c H locs 0 0 Q (F0 m 0 ls []) := by
  have hx := hC.1
  have hb := hC.2.1
  intro H locs ls hW hl
  unfold fX37_writeFilling at h
  refine lv_aload_n hx hb dX8_writeFilling_0 rfl (lv_at hl 2 rfl) ?_
  refine lv_iload_n hx hb dX8_writeFilling_1 rfl (lv_at hl 3 rfl) ?_
  refine lv_bipush (v := 12) hx hb dX8_writeFilling_2 (by decide) ?_
  obtain ⟨t1, e2, h⟩ := bd h
  refine x_gov (x_rv (rest := []) hC hW (ctX1_make e2) (cwV_g hC.2.2.2.2 ml_X8_160 mi_X6_make md_X6_make ⟨(Nat.le_trans (Nat.le_of_ble_eq_true rfl) hF), (Nat.le_trans (Nat.le_of_ble_eq_true rfl) hL)⟩) (rcX1 hW) rfl hl.1 rfl (Nat.le_of_ble_eq_true rfl) dX8_writeFilling_4) hW (fun H locs hW => ?_)
  refine lv_iconst (v := 0) hx hb dX8_writeFilling_7 (by decide) ?_
  refine lv_istore (lv' := [(4, .int 0), (0, .ref (ad G 37)), (1, .ref (ad G k1)), (2, .ref (ad G 1)), (3, .int x3)]) hx hb dX8_writeFilling_8 hl (by decide) rfl (fun ls hl => ?_)
  obtain ⟨t13, e14, h⟩ := bd h
  refine wX37_writeFilling_L10 hC hF hL ha1 (fun H locs ls hW hl => ?_) _ _ _ e14 _ _ _ hW (lv_sub hl [1, 2, 3, 4, 0] rfl)
  cases h
  exact kr _ _ _ _ dX8_writeFilling_50 hW
theorem ctX37_writeFilling {N : Nat} {S : St} {k1 : Nat} {x3 : Int32} (ha1 : isA LX k1 (lenX k1)) {S' : St} (h : fX37_writeFilling N S k1 x3 = some (S')) : Met l yX8_writeFilling (wm yX8_writeFilling cX8_writeFilling 5 none) (rmx 1 23) (pcm LX G S [.ref (ad G 37), .ref (ad G k1), .ref (ad G 1), .int x3]) (qcV LX G S') 0 0 G.2.2.2 :=
  x_enter (own := RX8) rfl rfl (Nat.le_of_ble_eq_true rfl) (fun p e s m below meth c ls hC hr hk hW hl => wX37_writeFilling hC (Nat.le_refl _) (Nat.le_refl _) ha1 h (fun H locs ls pc hd hW => x_retv hC hr hk hW hd) _ _ _ hW hl)
def fX37_writeReached (N : Nat) (S : St) (x2 : Int32) : Option (St) :=
  Option.bind (fX37_writeFilling N S 38 x2) fun t1 =>
  some t1
set_option maxHeartbeats 4000000 in
set_option maxRecDepth 100000 in
theorem wX37_writeReached {N : Nat} {S : St} {x2 : Int32} (hC : CallFix p m c cX8_writeReached 3 s args lw_g RX8) (hF : 2 ≤ R.frames) (hL : 47 ≤ R.locals)  {S' : St} (h : fX37_writeReached N S x2 = some (S')) (kr : ∀ (H : Heap) (locs : List Loc) (ls : Array Slot) (pc : Nat), decode cX8_writeReached pc = .ok (.return_, 1) → wg LX G (S') s H locs → W p l e R s m args below meth c H locs 0 0 Q (F0 m pc ls [])) : ∀ (H : Heap) (locs : List Loc) (ls : Array Slot), wg LX G S s H locs → lv_has ls 3 [(0, .ref (ad G 37)), (1, .ref (ad G 1)), (2, .int x2)] → W p l e R s m args below meth c H locs 0 0 Q (F0 m 0 ls []) := by
  have hx := hC.1
  have hb := hC.2.1
  intro H locs ls hW hl
  unfold fX37_writeReached at h
  refine lv_aload_n hx hb dX8_writeReached_0 rfl (lv_at hl 0 rfl) ?_
  refine lv_aload_n hx hb dX8_writeReached_1 rfl (lv_at hl 0 rfl) ?_
  refine gX37_3 hC hW dX8_writeReached_2 ?_
  refine lv_aload_n hx hb dX8_writeReached_5 rfl (lv_at hl 1 rfl) ?_
  refine lv_iload_n hx hb dX8_writeReached_6 rfl (lv_at hl 2 rfl) ?_
  obtain ⟨t1, e2, h⟩ := bd h
  refine x_gov (x_rv (rest := []) hC hW (ctX37_writeFilling aX38 e2) (cwV_g hC.2.2.2.2 ml_X8_156 mi_X8_writeFilling md_X8_writeFilling ⟨(Nat.le_trans (Nat.le_of_ble_eq_true rfl) hF), (Nat.le_trans (Nat.le_of_ble_eq_true rfl) hL)⟩) (rcX37 hW) rfl hl.1 rfl (Nat.le_of_ble_eq_true rfl) dX8_writeReached_7) hW (fun H locs hW => ?_)
  cases h
  exact kr _ _ _ _ dX8_writeReached_10 hW
theorem ctX37_writeReached {N : Nat} {S : St} {x2 : Int32}  {S' : St} (h : fX37_writeReached N S x2 = some (S')) : Met l yX8_writeReached (wm yX8_writeReached cX8_writeReached 3 none) (rmx 2 47) (pcm LX G S [.ref (ad G 37), .ref (ad G 1), .int x2]) (qcV LX G S') 0 0 G.2.2.2 :=
  x_enter (own := RX8) rfl rfl (Nat.le_of_ble_eq_true rfl) (fun p e s m below meth c ls hC hr hk hW hl => wX37_writeReached hC (Nat.le_refl _) (Nat.le_refl _)  h (fun H locs ls pc hd hW => x_retv hC hr hk hW hd) _ _ _ hW hl)
def fX0_fill (N : Nat) (S : St) (x1 : Int32) (x2 : Int32) (x3 : Int32) : Option (Int32 × St) :=
  if x1 < 0 then
    some ((-1), S)
  else
    Option.bind (fXs_isRow S x2) fun t2 =>
    if t2 = 0 then
      some ((-1), S)
    else
      Option.bind (fXs_isTurns S x3) fun t5 =>
      if t5 = 0 then
        some ((-1), S)
      else
        Option.bind (fX0_narrowAll N S) fun t8 =>
        Option.bind (fX37_goTo N t8 x1 x3 0) fun t10 =>
        Option.bind (fX37_isSpent t10) fun t12 =>
        if t12 = 0 then
          Option.bind (fX37_hasReached t10) fun t15 =>
          if t15 = 0 then
            some ((-9), t10)
          else
            Option.bind (fX37_writeReached N t10 x2) fun t18 =>
            some (1, t18)
        else
          some ((-6), t10)
set_option maxHeartbeats 4000000 in
set_option maxRecDepth 100000 in
theorem wX0_fill {N : Nat} {S : St} {x1 : Int32} {x2 : Int32} {x3 : Int32} (hC : CallFix p m c cX9_fill 4 s args lw_g RX9) (hF : 19 ≤ R.frames) (hL : 437 ≤ R.locals)  {v : Int32} {S' : St} (h : fX0_fill N S x1 x2 x3 = some (v, S')) (kr : ∀ (H : Heap) (locs : List Loc) (ls : Array Slot) (pc : Nat), decode cX9_fill pc = .ok (.ireturn, 1) → wg LX G (S') s H locs → W p l e R s m args below meth c H locs 0 0 Q (F0 m pc ls [.int v])) : ∀ (H : Heap) (locs : List Loc) (ls : Array Slot), wg LX G S s H locs → lv_has ls 4 [(0, .ref (ad G 0)), (1, .int x1), (2, .int x2), (3, .int x3)] → W p l e R s m args below meth c H locs 0 0 Q (F0 m 0 ls []) := by
  have hx := hC.1
  have hb := hC.2.1
  intro H locs ls hW hl
  unfold fX0_fill at h
  refine lv_iload_n hx hb dX9_fill_0 rfl (lv_at hl 1 rfl) ?_
  refine lv_if_lt (tgt := 18) hx hb dX9_fill_1 (by decide) (fun q1 => ?_) (fun q1 => ?_)
  · have h := it_p q1 h
    refine lv_iconst (v := (-1)) hx hb dX9_fill_18 (by decide) ?_
    cases h
    exact kr _ _ _ _ dX9_fill_19 hW
  · have h := it_n q1 h
    refine lv_iload_n hx hb dX9_fill_4 rfl (lv_at hl 2 rfl) ?_
    obtain ⟨t2, e3, h⟩ := bd h
    refine x_goi (x_rs (rest := []) hC hW (ctXs_isRow e3) (cwS_g hC.2.2.2.2 ml_X9_105 ms_X9_isRow md_X9_isRow ⟨(Nat.le_trans (Nat.le_of_ble_eq_true rfl) hF), (Nat.le_trans (Nat.le_of_ble_eq_true rfl) hL)⟩) rfl hl.1 rfl (Nat.le_of_ble_eq_true rfl) dX9_fill_5) hW (fun H locs hW => ?_)
    refine lv_if_eq (tgt := 18) hx hb dX9_fill_8 (by decide) (fun q4 => ?_) (fun q4 => ?_)
    · have h := it_p q4 h
      refine lv_iconst (v := (-1)) hx hb dX9_fill_18 (by decide) ?_
      cases h
      exact kr _ _ _ _ dX9_fill_19 hW
    · have h := it_n q4 h
      refine lv_iload_n hx hb dX9_fill_11 rfl (lv_at hl 3 rfl) ?_
      obtain ⟨t5, e6, h⟩ := bd h
      refine x_goi (x_rs (rest := []) hC hW (ctXs_isTurns e6) (cwS_g hC.2.2.2.2 ml_X9_245 ms_X9_isTurns md_X9_isTurns ⟨(Nat.le_trans (Nat.le_of_ble_eq_true rfl) hF), (Nat.le_trans (Nat.le_of_ble_eq_true rfl) hL)⟩) rfl hl.1 rfl (Nat.le_of_ble_eq_true rfl) dX9_fill_12) hW (fun H locs hW => ?_)
      refine lv_if_ne (tgt := 20) hx hb dX9_fill_15 (by decide) (fun q7 => ?_) (fun q7 => ?_)
      · have h := it_n q7 h
        refine lv_aload_n hx hb dX9_fill_20 rfl (lv_at hl 0 rfl) ?_
        obtain ⟨t8, e9, h⟩ := bd h
        refine x_gov (x_rv (rest := []) hC hW (ctX0_narrowAll e9) (cwV_g hC.2.2.2.2 ml_X9_215 mi_X9_narrowAll md_X9_narrowAll ⟨(Nat.le_trans (Nat.le_of_ble_eq_true rfl) hF), (Nat.le_trans (Nat.le_of_ble_eq_true rfl) hL)⟩) (rcX0 hW) rfl hl.1 rfl (Nat.le_of_ble_eq_true rfl) dX9_fill_21) hW (fun H locs hW => ?_)
        refine lv_aload_n hx hb dX9_fill_24 rfl (lv_at hl 0 rfl) ?_
        refine gX0_7 hC hW dX9_fill_25 ?_
        refine lv_iload_n hx hb dX9_fill_28 rfl (lv_at hl 1 rfl) ?_
        refine lv_iload_n hx hb dX9_fill_29 rfl (lv_at hl 3 rfl) ?_
        refine lv_iconst (v := 0) hx hb dX9_fill_30 (by decide) ?_
        obtain ⟨t10, e11, h⟩ := bd h
        refine x_gov (x_rv (rest := []) hC hW (ctX37_goTo e11) (cwV_g hC.2.2.2.2 ml_X9_248 mi_X8_goTo md_X8_goTo ⟨(Nat.le_trans (Nat.le_of_ble_eq_true rfl) hF), (Nat.le_trans (Nat.le_of_ble_eq_true rfl) hL)⟩) (rcX37 hW) rfl hl.1 rfl (Nat.le_of_ble_eq_true rfl) dX9_fill_31) hW (fun H locs hW => ?_)
        refine lv_aload_n hx hb dX9_fill_34 rfl (lv_at hl 0 rfl) ?_
        refine gX0_7 hC hW dX9_fill_35 ?_
        obtain ⟨t12, e13, h⟩ := bd h
        refine x_goi (x_rv (rest := []) hC hW (ctX37_isSpent e13) (cwV_g hC.2.2.2.2 ml_X9_251 mi_X8_isSpent md_X8_isSpent ⟨(Nat.le_trans (Nat.le_of_ble_eq_true rfl) hF), (Nat.le_trans (Nat.le_of_ble_eq_true rfl) hL)⟩) (rcX37 hW) rfl hl.1 rfl (Nat.le_of_ble_eq_true rfl) dX9_fill_38) hW (fun H locs hW => ?_)
        refine lv_if_eq (tgt := 47) hx hb dX9_fill_41 (by decide) (fun q14 => ?_) (fun q14 => ?_)
        · have h := it_p q14 h
          refine lv_aload_n hx hb dX9_fill_47 rfl (lv_at hl 0 rfl) ?_
          refine gX0_7 hC hW dX9_fill_48 ?_
          obtain ⟨t15, e16, h⟩ := bd h
          refine x_goi (x_rv (rest := []) hC hW (ctX37_hasReached e16) (cwV_g hC.2.2.2.2 ml_X9_255 mi_X8_hasReached md_X8_hasReached ⟨(Nat.le_trans (Nat.le_of_ble_eq_true rfl) hF), (Nat.le_trans (Nat.le_of_ble_eq_true rfl) hL)⟩) (rcX37 hW) rfl hl.1 rfl (Nat.le_of_ble_eq_true rfl) dX9_fill_51) hW (fun H locs hW => ?_)
          refine lv_if_ne (tgt := 60) hx hb dX9_fill_54 (by decide) (fun q17 => ?_) (fun q17 => ?_)
          · have h := it_n q17 h
            refine lv_aload_n hx hb dX9_fill_60 rfl (lv_at hl 0 rfl) ?_
            refine gX0_7 hC hW dX9_fill_61 ?_
            refine lv_aload_n hx hb dX9_fill_64 rfl (lv_at hl 0 rfl) ?_
            refine gX0_0 hC hW dX9_fill_65 ?_
            refine lv_iload_n hx hb dX9_fill_68 rfl (lv_at hl 2 rfl) ?_
            obtain ⟨t18, e19, h⟩ := bd h
            refine x_gov (x_rv (rest := []) hC hW (ctX37_writeReached e19) (cwV_g hC.2.2.2.2 ml_X9_258 mi_X8_writeReached md_X8_writeReached ⟨(Nat.le_trans (Nat.le_of_ble_eq_true rfl) hF), (Nat.le_trans (Nat.le_of_ble_eq_true rfl) hL)⟩) (rcX37 hW) rfl hl.1 rfl (Nat.le_of_ble_eq_true rfl) dX9_fill_69) hW (fun H locs hW => ?_)
            refine lv_iconst (v := 1) hx hb dX9_fill_72 (by decide) ?_
            cases h
            exact kr _ _ _ _ dX9_fill_73 hW
          · have h := it_p q17 h
            refine lv_bipush (v := (-9)) hx hb dX9_fill_57 (by decide) ?_
            cases h
            exact kr _ _ _ _ dX9_fill_59 hW
        · have h := it_n q14 h
          refine lv_bipush (v := (-6)) hx hb dX9_fill_44 (by decide) ?_
          cases h
          exact kr _ _ _ _ dX9_fill_46 hW
      · have h := it_p q7 h
        refine lv_iconst (v := (-1)) hx hb dX9_fill_18 (by decide) ?_
        cases h
        exact kr _ _ _ _ dX9_fill_19 hW
theorem ctX0_fill {N : Nat} {S : St} {x1 : Int32} {x2 : Int32} {x3 : Int32}  {v : Int32} {S' : St} (h : fX0_fill N S x1 x2 x3 = some (v, S')) : Met l yX9_fill (wm yX9_fill cX9_fill 4 (some .int)) (rmx 19 437) (pcm LX G S [.ref (ad G 0), .int x1, .int x2, .int x3]) (qcI LX G S' v) 0 0 G.2.2.2 :=
  x_enter (own := RX9) rfl rfl (Nat.le_of_ble_eq_true rfl) (fun p e s m below meth c ls hC hr hk hW hl => wX0_fill hC (Nat.le_refl _) (Nat.le_refl _)  h (fun H locs ls pc hd hW => x_reti hC hr hk hW hd) _ _ _ hW hl)
def fX37_fillingsWith (S : St) (x1 : Int32) (x2 : Int32) : Option (Int32) :=
  gd (inb ((x1 * 100) + x2) 1200) <|
  some (S.1 41 (Int32.toNatClampNeg ((x1 * 100) + x2)))
set_option maxHeartbeats 4000000 in
set_option maxRecDepth 100000 in
theorem wX37_fillingsWith {S : St} {x1 : Int32} {x2 : Int32} (hC : CallFix p m c cX8_fillingsWith 3 s args lw_g RX8) (hF : 0 ≤ R.frames) (hL : 0 ≤ R.locals)  {v : Int32} (h : fX37_fillingsWith S x1 x2 = some v) (kr : ∀ (H : Heap) (locs : List Loc) (ls : Array Slot) (pc : Nat), decode cX8_fillingsWith pc = .ok (.ireturn, 1) → wg LX G S s H locs → W p l e R s m args below meth c H locs 0 0 Q (F0 m pc ls [.int v])) : ∀ (H : Heap) (locs : List Loc) (ls : Array Slot), wg LX G S s H locs → lv_has ls 3 [(0, .ref (ad G 37)), (1, .int x1), (2, .int x2)] → W p l e R s m args below meth c H locs 0 0 Q (F0 m 0 ls []) := by
  have hx := hC.1
  have hb := hC.2.1
  intro H locs ls hW hl
  unfold fX37_fillingsWith at h
  refine lv_aload_n hx hb dX8_fillingsWith_0 rfl (lv_at hl 0 rfl) ?_
  refine gX37_6 hC hW dX8_fillingsWith_1 ?_
  refine lv_iload_n hx hb dX8_fillingsWith_4 rfl (lv_at hl 1 rfl) ?_
  refine lv_bipush (v := 100) hx hb dX8_fillingsWith_5 (by decide) ?_
  refine lv_imul hx hb dX8_fillingsWith_7 ?_
  refine lv_iload_n hx hb dX8_fillingsWith_8 rfl (lv_at hl 2 rfl) ?_
  refine lv_iadd hx hb dX8_fillingsWith_9 ?_
  obtain ⟨g1, h⟩ := gd_some h
  refine x_iald hC hW aX41 g1 dX8_fillingsWith_10 ?_
  cases h
  exact kr _ _ _ _ dX8_fillingsWith_11 hW
theorem ctX37_fillingsWith {S : St} {x1 : Int32} {x2 : Int32}  {v : Int32} (h : fX37_fillingsWith S x1 x2 = some v) : Met l yX8_fillingsWith (wm yX8_fillingsWith cX8_fillingsWith 3 (some .int)) (rmx 0 0) (pcm LX G S [.ref (ad G 37), .int x1, .int x2]) (qcI LX G S v) 0 0 G.2.2.2 :=
  x_enter (own := RX8) rfl rfl (Nat.le_of_ble_eq_true rfl) (fun p e s m below meth c ls hC hr hk hW hl => wX37_fillingsWith hC (Nat.le_refl _) (Nat.le_refl _)  h (fun H locs ls pc hd hW => x_reti hC hr hk hW hd) _ _ _ hW hl)
def fXs_commonDivisor_L2 (N : Nat) (S : St)  : Nat → Int32 → Int32 → Int32 → Option (Int32)
  | 0, _, _, _ => none
  | n + 1, x0, x1, x2 =>
    if 50 ≤ x2 then
      some x0
    else
      if x1 ≤ 0 then
        some x0
      else
        gd (!decide (x1 = 0)) <|
        nx (x0 - x0 / x1 * x1) fun y4 =>
        fXs_commonDivisor_L2 N S n x1 y4 (x2 + 1)
set_option maxHeartbeats 4000000 in
set_option maxRecDepth 100000 in
theorem wXs_commonDivisor_L2 {N : Nat} {S : St}  (hC : CallFix p m c cX9_commonDivisor 4 s args lw_g RX9) (hF : 1 ≤ R.frames) (hL : 21 ≤ R.locals)  {t : Int32} (kx : ∀ (H : Heap) (locs : List Loc) (ls : Array Slot), wg LX G S s H locs → lv_has ls 4 [(0, .int t)] → W p l e R s m args below meth c H locs 0 0 Q (F0 m 26 ls [])) : ∀ (n : Nat) (x0 : Int32) (x1 : Int32) (x2 : Int32), fXs_commonDivisor_L2 N S  n x0 x1 x2 = some t → ∀ (H : Heap) (locs : List Loc) (ls : Array Slot), wg LX G S s H locs → lv_has ls 4 [(0, .int x0), (1, .int x1), (2, .int x2)] → W p l e R s m args below meth c H locs 0 0 Q (F0 m 2 ls []) := by
  have hx := hC.1
  have hb := hC.2.1
  intro n
  induction n with
  | zero =>
    intro _ _ _ h
    cases h
  | succ n ih =>
    intro x0 x1 x2 h H locs ls hW hl
    rw [fXs_commonDivisor_L2] at h
    refine lv_iload_n hx hb dX9_commonDivisor_2 rfl (lv_at hl 2 rfl) ?_
    refine lv_bipush (v := 50) hx hb dX9_commonDivisor_3 (by decide) ?_
    refine lv_icmp_ge (tgt := 26) hx hb dX9_commonDivisor_5 (by decide) (fun q1 => ?_) (fun q1 => ?_)
    · have h := it_p q1 h
      cases h
      exact kx _ _ _ hW (lv_sub hl [0] rfl)
    · have h := it_n q1 h
      refine lv_iload_n hx hb dX9_commonDivisor_8 rfl (lv_at hl 1 rfl) ?_
      refine lv_if_le (tgt := 26) hx hb dX9_commonDivisor_9 (by decide) (fun q2 => ?_) (fun q2 => ?_)
      · have h := it_p q2 h
        cases h
        exact kx _ _ _ hW (lv_sub hl [0] rfl)
      · have h := it_n q2 h
        refine lv_iload_n hx hb dX9_commonDivisor_12 rfl (lv_at hl 0 rfl) ?_
        refine lv_iload_n hx hb dX9_commonDivisor_13 rfl (lv_at hl 1 rfl) ?_
        obtain ⟨g3, h⟩ := gd_some h
        refine lv_irem hx hb dX9_commonDivisor_14 (nd0 g3) ?_
        obtain ⟨y4, e5, h⟩ := nx_some h
        refine x_topi e5 ?_
        refine lv_istore_n (lv' := [(3, .int y4), (0, .int x0), (1, .int x1), (2, .int x2)]) hx hb dX9_commonDivisor_15 rfl hl (by decide) rfl (fun ls hl => ?_)
        refine lv_iload_n hx hb dX9_commonDivisor_16 rfl (lv_at hl 2 rfl) ?_
        refine lv_istore_n (lv' := [(0, .int x1), (3, .int y4), (1, .int x1), (2, .int x2)]) hx hb dX9_commonDivisor_17 rfl hl (by decide) rfl (fun ls hl => ?_)
        refine lv_iload_n hx hb dX9_commonDivisor_18 rfl (lv_at hl 1 rfl) ?_
        refine lv_istore_n (lv' := [(1, .int y4), (0, .int x1), (3, .int y4), (2, .int x2)]) hx hb dX9_commonDivisor_19 rfl hl (by decide) rfl (fun ls hl => ?_)
        refine lv_iinc (v := x2 + 1) (lv' := [(2, .int (x2 + 1)), (1, .int y4), (0, .int x1), (3, .int y4)]) (k := 3) hx hb dX9_commonDivisor_20 hl rfl rfl (by decide) rfl (fun ls hl => ?_)
        refine lv_goto (tgt := 2) hx hb dX9_commonDivisor_23 (by decide) ?_
        exact ih _ _ _ h _ _ _ hW (lv_sub hl [2, 1, 0] rfl)
def fXs_commonDivisor (N : Nat) (S : St) (x0 : Int32) (x1 : Int32) : Option (Int32) :=
  Option.bind (fXs_commonDivisor_L2 N S N x0 x1 0) fun t6 =>
  nx ((if t6 < 1 then 1 else t6)) fun y8 =>
  some y8
set_option maxHeartbeats 4000000 in
set_option maxRecDepth 100000 in
theorem wXs_commonDivisor {N : Nat} {S : St} {x0 : Int32} {x1 : Int32} (hC : CallFix p m c cX9_commonDivisor 4 s args lw_g RX9) (hF : 1 ≤ R.frames) (hL : 21 ≤ R.locals)  {v : Int32} (h : fXs_commonDivisor N S x0 x1 = some v) (kr : ∀ (H : Heap) (locs : List Loc) (ls : Array Slot) (pc : Nat), decode cX9_commonDivisor pc = .ok (.ireturn, 1) → wg LX G S s H locs → W p l e R s m args below meth c H locs 0 0 Q (F0 m pc ls [.int v])) : ∀ (H : Heap) (locs : List Loc) (ls : Array Slot), wg LX G S s H locs → lv_has ls 4 [(0, .int x0), (1, .int x1)] → W p l e R s m args below meth c H locs 0 0 Q (F0 m 0 ls []) := by
  have hx := hC.1
  have hb := hC.2.1
  intro H locs ls hW hl
  unfold fXs_commonDivisor at h
  refine lv_iconst (v := 0) hx hb dX9_commonDivisor_0 (by decide) ?_
  refine lv_istore_n (lv' := [(2, .int 0), (0, .int x0), (1, .int x1)]) hx hb dX9_commonDivisor_1 rfl hl (by decide) rfl (fun ls hl => ?_)
  obtain ⟨t6, e7, h⟩ := bd h
  refine wXs_commonDivisor_L2 hC hF hL  (fun H locs ls hW hl => ?_) _ _ _ _ e7 _ _ _ hW (lv_sub hl [1, 2, 0] rfl)
  refine lv_iload_n hx hb dX9_commonDivisor_26 rfl (lv_at hl 0 rfl) ?_
  refine lv_iconst (v := 1) hx hb dX9_commonDivisor_27 (by decide) ?_
  refine va_mmax hx hb (hC.2.2.1.trans hl.1.symm) hC.2.2.2.1 (hC.2.2.2.2 _ ml_X9_346) (hC.2.2.2.2 _ mw_max.1) (hC.2.2.2.2 _ mw_max.2.1) (hC.2.2.2.2 _ mw_max.2.2) (Nat.le_trans (Nat.le_of_ble_eq_true rfl) hF) (Nat.le_trans (Nat.le_of_ble_eq_true rfl) hL) (Nat.zero_le _) (Nat.zero_le _) dX9_commonDivisor_28 ?_
  obtain ⟨y8, e9, h⟩ := nx_some h
  refine x_topi e9 ?_
  cases h
  exact kr _ _ _ _ dX9_commonDivisor_31 hW
theorem ctXs_commonDivisor {N : Nat} {S : St} {x0 : Int32} {x1 : Int32}  {v : Int32} (h : fXs_commonDivisor N S x0 x1 = some v) : Met l yX9_commonDivisor (wm yX9_commonDivisor cX9_commonDivisor 4 (some .int)) (rmx 1 21) (pcm LX G S [.int x0, .int x1]) (qcI LX G S v) 0 0 G.2.2.2 :=
  x_enter (own := RX9) rfl rfl (Nat.le_of_ble_eq_true rfl) (fun p e s m below meth c ls hC hr hk hW hl => wXs_commonDivisor hC (Nat.le_refl _) (Nat.le_refl _)  h (fun H locs ls pc hd hW => x_reti hC hr hk hW hd) _ _ _ hW hl)
def fX0_tellFraction (N : Nat) (S : St) (x1 : Int32) (x2 : Int32) : Option (St) :=
  if x1 ≤ 0 then
    nx (p2 S 0 13 0) fun s2 =>
    nx (p2 s2 0 14 1) fun s4 =>
    some s4
  else
    if 0 < x2 then
      Option.bind (fXs_commonDivisor N S x1 x2) fun t7 =>
      gd (!decide (t7 = 0)) <|
      nx (p2 S 0 13 (Int32.toInt64 (x1 / t7))) fun s10 =>
      gd (!decide (t7 = 0)) <|
      nx (p2 s10 0 14 (Int32.toInt64 (x2 / t7))) fun s13 =>
      some s13
    else
      nx (p2 S 0 13 0) fun s15 =>
      nx (p2 s15 0 14 1) fun s17 =>
      some s17
set_option maxHeartbeats 4000000 in
set_option maxRecDepth 100000 in
theorem wX0_tellFraction {N : Nat} {S : St} {x1 : Int32} {x2 : Int32} (hC : CallFix p m c cX9_tellFraction 4 s args lw_g RX9) (hF : 2 ≤ R.frames) (hL : 44 ≤ R.locals)  {S' : St} (h : fX0_tellFraction N S x1 x2 = some (S')) (kr : ∀ (H : Heap) (locs : List Loc) (ls : Array Slot) (pc : Nat), decode cX9_tellFraction pc = .ok (.return_, 1) → wg LX G (S') s H locs → W p l e R s m args below meth c H locs 0 0 Q (F0 m pc ls [])) : ∀ (H : Heap) (locs : List Loc) (ls : Array Slot), wg LX G S s H locs → lv_has ls 4 [(0, .ref (ad G 0)), (1, .int x1), (2, .int x2)] → W p l e R s m args below meth c H locs 0 0 Q (F0 m 0 ls []) := by
  have hx := hC.1
  have hb := hC.2.1
  intro H locs ls hW hl
  unfold fX0_tellFraction at h
  refine lv_iload_n hx hb dX9_tellFraction_0 rfl (lv_at hl 1 rfl) ?_
  refine lv_if_le (tgt := 8) hx hb dX9_tellFraction_1 (by decide) (fun q1 => ?_) (fun q1 => ?_)
  · have h := it_p q1 h
    refine lv_aload_n hx hb dX9_tellFraction_8 rfl (lv_at hl 0 rfl) ?_
    refine lv_lconst (v := 0) hx hb dX9_tellFraction_9 rfl ?_
    refine pX0_13 hC hW dX9_tellFraction_10 (fun H locs hW => ?_)
    obtain ⟨s2, e3, h⟩ := nx_some h
    rw [← e3] at hW
    refine lv_aload_n hx hb dX9_tellFraction_13 rfl (lv_at hl 0 rfl) ?_
    refine lv_lconst (v := 1) hx hb dX9_tellFraction_14 rfl ?_
    refine pX0_14 hC hW dX9_tellFraction_15 (fun H locs hW => ?_)
    obtain ⟨s4, e5, h⟩ := nx_some h
    rw [← e5] at hW
    cases h
    exact kr _ _ _ _ dX9_tellFraction_18 hW
  · have h := it_n q1 h
    refine lv_iload_n hx hb dX9_tellFraction_4 rfl (lv_at hl 2 rfl) ?_
    refine lv_if_gt (tgt := 19) hx hb dX9_tellFraction_5 (by decide) (fun q6 => ?_) (fun q6 => ?_)
    · have h := it_p q6 h
      refine lv_iload_n hx hb dX9_tellFraction_19 rfl (lv_at hl 1 rfl) ?_
      refine lv_iload_n hx hb dX9_tellFraction_20 rfl (lv_at hl 2 rfl) ?_
      obtain ⟨t7, e8, h⟩ := bd h
      refine x_goi (x_rs (rest := []) hC hW (ctXs_commonDivisor e8) (cwS_g hC.2.2.2.2 ml_X9_343 ms_X9_commonDivisor md_X9_commonDivisor ⟨(Nat.le_trans (Nat.le_of_ble_eq_true rfl) hF), (Nat.le_trans (Nat.le_of_ble_eq_true rfl) hL)⟩) rfl hl.1 rfl (Nat.le_of_ble_eq_true rfl) dX9_tellFraction_21) hW (fun H locs hW => ?_)
      refine lv_istore_n (lv' := [(3, .int t7), (0, .ref (ad G 0)), (1, .int x1), (2, .int x2)]) hx hb dX9_tellFraction_24 rfl hl (by decide) rfl (fun ls hl => ?_)
      refine lv_aload_n hx hb dX9_tellFraction_25 rfl (lv_at hl 1 rfl) ?_
      refine lv_iload_n hx hb dX9_tellFraction_26 rfl (lv_at hl 2 rfl) ?_
      refine lv_iload_n hx hb dX9_tellFraction_27 rfl (lv_at hl 0 rfl) ?_
      obtain ⟨g9, h⟩ := gd_some h
      refine lv_idiv hx hb dX9_tellFraction_28 (nd0 g9) ?_
      refine lv_i2l (v := Int32.toInt64 (x1 / t7)) hx hb dX9_tellFraction_29 rfl ?_
      refine pX0_13 hC hW dX9_tellFraction_30 (fun H locs hW => ?_)
      obtain ⟨s10, e11, h⟩ := nx_some h
      rw [← e11] at hW
      refine lv_aload_n hx hb dX9_tellFraction_33 rfl (lv_at hl 1 rfl) ?_
      refine lv_iload_n hx hb dX9_tellFraction_34 rfl (lv_at hl 3 rfl) ?_
      refine lv_iload_n hx hb dX9_tellFraction_35 rfl (lv_at hl 0 rfl) ?_
      obtain ⟨g12, h⟩ := gd_some h
      refine lv_idiv hx hb dX9_tellFraction_36 (nd0 g12) ?_
      refine lv_i2l (v := Int32.toInt64 (x2 / t7)) hx hb dX9_tellFraction_37 rfl ?_
      refine pX0_14 hC hW dX9_tellFraction_38 (fun H locs hW => ?_)
      obtain ⟨s13, e14, h⟩ := nx_some h
      rw [← e14] at hW
      cases h
      exact kr _ _ _ _ dX9_tellFraction_41 hW
    · have h := it_n q6 h
      refine lv_aload_n hx hb dX9_tellFraction_8 rfl (lv_at hl 0 rfl) ?_
      refine lv_lconst (v := 0) hx hb dX9_tellFraction_9 rfl ?_
      refine pX0_13 hC hW dX9_tellFraction_10 (fun H locs hW => ?_)
      obtain ⟨s15, e16, h⟩ := nx_some h
      rw [← e16] at hW
      refine lv_aload_n hx hb dX9_tellFraction_13 rfl (lv_at hl 0 rfl) ?_
      refine lv_lconst (v := 1) hx hb dX9_tellFraction_14 rfl ?_
      refine pX0_14 hC hW dX9_tellFraction_15 (fun H locs hW => ?_)
      obtain ⟨s17, e18, h⟩ := nx_some h
      rw [← e18] at hW
      cases h
      exact kr _ _ _ _ dX9_tellFraction_18 hW
theorem ctX0_tellFraction {N : Nat} {S : St} {x1 : Int32} {x2 : Int32}  {S' : St} (h : fX0_tellFraction N S x1 x2 = some (S')) : Met l yX9_tellFraction (wm yX9_tellFraction cX9_tellFraction 4 none) (rmx 2 44) (pcm LX G S [.ref (ad G 0), .int x1, .int x2]) (qcV LX G S') 0 0 G.2.2.2 :=
  x_enter (own := RX9) rfl rfl (Nat.le_of_ble_eq_true rfl) (fun p e s m below meth c ls hC hr hk hW hl => wX0_tellFraction hC (Nat.le_refl _) (Nat.le_refl _)  h (fun H locs ls pc hd hW => x_retv hC hr hk hW hd) _ _ _ hW hl)
def fX0_could (N : Nat) (S : St) (x1 : Int32) (x2 : Int32) (x3 : Int32) : Option (Int32 × St) :=
  Option.bind (fXs_isNumber S x2) fun t1 =>
  if t1 = 0 then
    some ((-1), S)
  else
    Option.bind (fXs_isTurns S x3) fun t4 =>
    if t4 = 0 then
      some ((-1), S)
    else
      Option.bind (fX0_refuseCell S x1) fun t7 =>
      if t7.1 = 0 then
        Option.bind (fX0_goThroughAll N t7.2 x3) fun t10 =>
        if t10.1 = 0 then
          Option.bind (fX37_fillingsWith t10.2 x1 x2) fun t13 =>
          Option.bind (fX37_fillings t10.2) fun t15 =>
          Option.bind (fX0_tellFraction N t10.2 t13 t15) fun t17 =>
          some (t13, t17)
        else
          some (t10.1, t10.2)
      else
        some (t7.1, t7.2)
set_option maxHeartbeats 4000000 in
set_option maxRecDepth 100000 in
theorem wX0_could {N : Nat} {S : St} {x1 : Int32} {x2 : Int32} {x3 : Int32} (hC : CallFix p m c cX9_could 6 s args lw_g RX9) (hF : 20 ≤ R.frames) (hL : 458 ≤ R.locals)  {v : Int32} {S' : St} (h : fX0_could N S x1 x2 x3 = some (v, S')) (kr : ∀ (H : Heap) (locs : List Loc) (ls : Array Slot) (pc : Nat), decode cX9_could pc = .ok (.ireturn, 1) → wg LX G (S') s H locs → W p l e R s m args below meth c H locs 0 0 Q (F0 m pc ls [.int v])) : ∀ (H : Heap) (locs : List Loc) (ls : Array Slot), wg LX G S s H locs → lv_has ls 6 [(0, .ref (ad G 0)), (1, .int x1), (2, .int x2), (3, .int x3)] → W p l e R s m args below meth c H locs 0 0 Q (F0 m 0 ls []) := by
  have hx := hC.1
  have hb := hC.2.1
  intro H locs ls hW hl
  unfold fX0_could at h
  refine lv_iload_n hx hb dX9_could_0 rfl (lv_at hl 2 rfl) ?_
  obtain ⟨t1, e2, h⟩ := bd h
  refine x_goi (x_rs (rest := []) hC hW (ctXs_isNumber e2) (cwS_g hC.2.2.2.2 ml_X9_196 ms_X9_isNumber md_X9_isNumber ⟨(Nat.le_trans (Nat.le_of_ble_eq_true rfl) hF), (Nat.le_trans (Nat.le_of_ble_eq_true rfl) hL)⟩) rfl hl.1 rfl (Nat.le_of_ble_eq_true rfl) dX9_could_1) hW (fun H locs hW => ?_)
  refine lv_if_eq (tgt := 14) hx hb dX9_could_4 (by decide) (fun q3 => ?_) (fun q3 => ?_)
  · have h := it_p q3 h
    refine lv_iconst (v := (-1)) hx hb dX9_could_14 (by decide) ?_
    cases h
    exact kr _ _ _ _ dX9_could_15 hW
  · have h := it_n q3 h
    refine lv_iload_n hx hb dX9_could_7 rfl (lv_at hl 3 rfl) ?_
    obtain ⟨t4, e5, h⟩ := bd h
    refine x_goi (x_rs (rest := []) hC hW (ctXs_isTurns e5) (cwS_g hC.2.2.2.2 ml_X9_245 ms_X9_isTurns md_X9_isTurns ⟨(Nat.le_trans (Nat.le_of_ble_eq_true rfl) hF), (Nat.le_trans (Nat.le_of_ble_eq_true rfl) hL)⟩) rfl hl.1 rfl (Nat.le_of_ble_eq_true rfl) dX9_could_8) hW (fun H locs hW => ?_)
    refine lv_if_ne (tgt := 16) hx hb dX9_could_11 (by decide) (fun q6 => ?_) (fun q6 => ?_)
    · have h := it_n q6 h
      refine lv_aload_n hx hb dX9_could_16 rfl (lv_at hl 0 rfl) ?_
      refine lv_iload_n hx hb dX9_could_17 rfl (lv_at hl 1 rfl) ?_
      obtain ⟨t7, e8, h⟩ := bd h
      refine x_goi (x_rv (rest := []) hC hW (ctX0_refuseCell e8) (cwV_g hC.2.2.2.2 ml_X9_199 mi_X9_refuseCell md_X9_refuseCell ⟨(Nat.le_trans (Nat.le_of_ble_eq_true rfl) hF), (Nat.le_trans (Nat.le_of_ble_eq_true rfl) hL)⟩) (rcX0 hW) rfl hl.1 rfl (Nat.le_of_ble_eq_true rfl) dX9_could_18) hW (fun H locs hW => ?_)
      refine lv_istore (lv' := [(4, .int t7.1), (0, .ref (ad G 0)), (1, .int x1), (2, .int x2), (3, .int x3)]) hx hb dX9_could_21 hl (by decide) rfl (fun ls hl => ?_)
      refine lv_iload hx hb dX9_could_23 (lv_at hl 0 rfl) ?_
      refine lv_if_eq (tgt := 31) hx hb dX9_could_25 (by decide) (fun q9 => ?_) (fun q9 => ?_)
      · have h := it_p q9 h
        refine lv_aload_n hx hb dX9_could_31 rfl (lv_at hl 1 rfl) ?_
        refine lv_iload_n hx hb dX9_could_32 rfl (lv_at hl 4 rfl) ?_
        obtain ⟨t10, e11, h⟩ := bd h
        refine x_goi (x_rv (rest := []) hC hW (ctX0_goThroughAll e11) (cwV_g hC.2.2.2.2 ml_X9_236 mi_X9_goThroughAll md_X9_goThroughAll ⟨(Nat.le_trans (Nat.le_of_ble_eq_true rfl) hF), (Nat.le_trans (Nat.le_of_ble_eq_true rfl) hL)⟩) (rcX0 hW) rfl hl.1 rfl (Nat.le_of_ble_eq_true rfl) dX9_could_33) hW (fun H locs hW => ?_)
        refine lv_istore (lv' := [(4, .int t10.1), (0, .ref (ad G 0)), (1, .int x1), (2, .int x2), (3, .int x3)]) hx hb dX9_could_36 hl (by decide) rfl (fun ls hl => ?_)
        refine lv_iload hx hb dX9_could_38 (lv_at hl 0 rfl) ?_
        refine lv_if_eq (tgt := 46) hx hb dX9_could_40 (by decide) (fun q12 => ?_) (fun q12 => ?_)
        · have h := it_p q12 h
          refine lv_aload_n hx hb dX9_could_46 rfl (lv_at hl 1 rfl) ?_
          refine gX0_7 hC hW dX9_could_47 ?_
          refine lv_iload_n hx hb dX9_could_50 rfl (lv_at hl 2 rfl) ?_
          refine lv_iload_n hx hb dX9_could_51 rfl (lv_at hl 3 rfl) ?_
          obtain ⟨t13, e14, h⟩ := bd h
          refine x_goi (x_rv (rest := []) hC hW (ctX37_fillingsWith e14) (cwV_g hC.2.2.2.2 ml_X9_261 mi_X8_fillingsWith md_X8_fillingsWith ⟨(Nat.le_trans (Nat.le_of_ble_eq_true rfl) hF), (Nat.le_trans (Nat.le_of_ble_eq_true rfl) hL)⟩) (rcX37 hW) rfl hl.1 rfl (Nat.le_of_ble_eq_true rfl) dX9_could_52) hW (fun H locs hW => ?_)
          refine lv_istore (lv' := [(5, .int t13), (4, .int t10.1), (0, .ref (ad G 0)), (1, .int x1), (2, .int x2), (3, .int x3)]) hx hb dX9_could_55 hl (by decide) rfl (fun ls hl => ?_)
          refine lv_aload_n hx hb dX9_could_57 rfl (lv_at hl 2 rfl) ?_
          refine lv_iload hx hb dX9_could_58 (lv_at hl 0 rfl) ?_
          refine lv_aload_n hx hb dX9_could_60 rfl (lv_at hl 2 rfl) ?_
          refine gX0_7 hC hW dX9_could_61 ?_
          obtain ⟨t15, e16, h⟩ := bd h
          refine x_goi (x_rv (rest := [.int t13, .ref (ad G 0)]) hC hW (ctX37_fillings e16) (cwV_g hC.2.2.2.2 ml_X9_242 mi_X8_fillings md_X8_fillings ⟨(Nat.le_trans (Nat.le_of_ble_eq_true rfl) hF), (Nat.le_trans (Nat.le_of_ble_eq_true rfl) hL)⟩) (rcX37 hW) rfl hl.1 rfl (Nat.le_of_ble_eq_true rfl) dX9_could_64) hW (fun H locs hW => ?_)
          obtain ⟨t17, e18, h⟩ := bd h
          refine x_gov (x_rv (rest := []) hC hW (ctX0_tellFraction e18) (cwV_g hC.2.2.2.2 ml_X9_264 mi_X9_tellFraction md_X9_tellFraction ⟨(Nat.le_trans (Nat.le_of_ble_eq_true rfl) hF), (Nat.le_trans (Nat.le_of_ble_eq_true rfl) hL)⟩) (rcX0 hW) rfl hl.1 rfl (Nat.le_of_ble_eq_true rfl) dX9_could_67) hW (fun H locs hW => ?_)
          refine lv_iload hx hb dX9_could_70 (lv_at hl 0 rfl) ?_
          cases h
          exact kr _ _ _ _ dX9_could_72 hW
        · have h := it_n q12 h
          refine lv_iload hx hb dX9_could_43 (lv_at hl 0 rfl) ?_
          cases h
          exact kr _ _ _ _ dX9_could_45 hW
      · have h := it_n q9 h
        refine lv_iload hx hb dX9_could_28 (lv_at hl 0 rfl) ?_
        cases h
        exact kr _ _ _ _ dX9_could_30 hW
    · have h := it_p q6 h
      refine lv_iconst (v := (-1)) hx hb dX9_could_14 (by decide) ?_
      cases h
      exact kr _ _ _ _ dX9_could_15 hW
theorem ctX0_could {N : Nat} {S : St} {x1 : Int32} {x2 : Int32} {x3 : Int32}  {v : Int32} {S' : St} (h : fX0_could N S x1 x2 x3 = some (v, S')) : Met l yX9_could (wm yX9_could cX9_could 6 (some .int)) (rmx 20 458) (pcm LX G S [.ref (ad G 0), .int x1, .int x2, .int x3]) (qcI LX G S' v) 0 0 G.2.2.2 :=
  x_enter (own := RX9) rfl rfl (Nat.le_of_ble_eq_true rfl) (fun p e s m below meth c ls hC hr hk hW hl => wX0_could hC (Nat.le_refl _) (Nat.le_refl _)  h (fun H locs ls pc hd hW => x_reti hC hr hk hW hd) _ _ _ hW hl)
def fX37_greatestOf_L3 (N : Nat) (S : St) (x1 : Int32) : Nat → Int32 → Option (Int32)
  | 0, _ => none
  | n + 1, x2 =>
    if x2 ≤ 0 then
      some x2
    else
      Option.bind (fX37_fillingsWith S x1 x2) fun t2 =>
      if t2 = 0 then
        fX37_greatestOf_L3 N S x1 n (x2 + (-1))
      else
        some x2
set_option maxHeartbeats 4000000 in
set_option maxRecDepth 100000 in
theorem wX37_greatestOf_L3 {N : Nat} {S : St} {x1 : Int32} (hC : CallFix p m c cX8_greatestOf 3 s args lw_g RX8) (hF : 1 ≤ R.frames) (hL : 22 ≤ R.locals)  {t : Int32} (kx : ∀ (H : Heap) (locs : List Loc) (ls : Array Slot), wg LX G S s H locs → lv_has ls 3 [(2, .int t)] → W p l e R s m args below meth c H locs 0 0 Q (F0 m 22 ls [])) : ∀ (n : Nat) (x2 : Int32), fX37_greatestOf_L3 N S x1 n x2 = some t → ∀ (H : Heap) (locs : List Loc) (ls : Array Slot), wg LX G S s H locs → lv_has ls 3 [(0, .ref (ad G 37)), (1, .int x1), (2, .int x2)] → W p l e R s m args below meth c H locs 0 0 Q (F0 m 3 ls []) := by
  have hx := hC.1
  have hb := hC.2.1
  intro n
  induction n with
  | zero =>
    intro _ h
    cases h
  | succ n ih =>
    intro x2 h H locs ls hW hl
    rw [fX37_greatestOf_L3] at h
    refine lv_iload_n hx hb dX8_greatestOf_3 rfl (lv_at hl 2 rfl) ?_
    refine lv_if_le (tgt := 22) hx hb dX8_greatestOf_4 (by decide) (fun q1 => ?_) (fun q1 => ?_)
    · have h := it_p q1 h
      cases h
      exact kx _ _ _ hW (lv_sub hl [2] rfl)
    · have h := it_n q1 h
      refine lv_aload_n hx hb dX8_greatestOf_7 rfl (lv_at hl 0 rfl) ?_
      refine lv_iload_n hx hb dX8_greatestOf_8 rfl (lv_at hl 1 rfl) ?_
      refine lv_iload_n hx hb dX8_greatestOf_9 rfl (lv_at hl 2 rfl) ?_
      obtain ⟨t2, e3, h⟩ := bd h
      refine x_goi (x_rv (rest := []) hC hW (ctX37_fillingsWith e3) (cwV_g hC.2.2.2.2 ml_X8_148 mi_X8_fillingsWith md_X8_fillingsWith ⟨(Nat.le_trans (Nat.le_of_ble_eq_true rfl) hF), (Nat.le_trans (Nat.le_of_ble_eq_true rfl) hL)⟩) (rcX37 hW) rfl hl.1 rfl (Nat.le_of_ble_eq_true rfl) dX8_greatestOf_10) hW (fun H locs hW => ?_)
      refine lv_if_ne (tgt := 22) hx hb dX8_greatestOf_13 (by decide) (fun q4 => ?_) (fun q4 => ?_)
      · have h := it_n q4 h
        cases h
        exact kx _ _ _ hW (lv_sub hl [2] rfl)
      · have h := it_p q4 h
        refine lv_iinc (v := x2 + (-1)) (lv' := [(2, .int (x2 + (-1))), (0, .ref (ad G 37)), (1, .int x1)]) (k := 2) hx hb dX8_greatestOf_16 hl rfl rfl (by decide) rfl (fun ls hl => ?_)
        refine lv_goto (tgt := 3) hx hb dX8_greatestOf_19 (by decide) ?_
        exact ih _ h _ _ _ hW (lv_sub hl [1, 2, 0] rfl)
def fX37_greatestOf (N : Nat) (S : St) (x1 : Int32) : Option (Int32) :=
  Option.bind (fX37_greatestOf_L3 N S x1 N 99) fun t5 =>
  some t5
set_option maxHeartbeats 4000000 in
set_option maxRecDepth 100000 in
theorem wX37_greatestOf {N : Nat} {S : St} {x1 : Int32} (hC : CallFix p m c cX8_greatestOf 3 s args lw_g RX8) (hF : 1 ≤ R.frames) (hL : 22 ≤ R.locals)  {v : Int32} (h : fX37_greatestOf N S x1 = some v) (kr : ∀ (H : Heap) (locs : List Loc) (ls : Array Slot) (pc : Nat), decode cX8_greatestOf pc = .ok (.ireturn, 1) → wg LX G S s H locs → W p l e R s m args below meth c H locs 0 0 Q (F0 m pc ls [.int v])) : ∀ (H : Heap) (locs : List Loc) (ls : Array Slot), wg LX G S s H locs → lv_has ls 3 [(0, .ref (ad G 37)), (1, .int x1)] → W p l e R s m args below meth c H locs 0 0 Q (F0 m 0 ls []) := by
  have hx := hC.1
  have hb := hC.2.1
  intro H locs ls hW hl
  unfold fX37_greatestOf at h
  refine lv_bipush (v := 99) hx hb dX8_greatestOf_0 (by decide) ?_
  refine lv_istore_n (lv' := [(2, .int 99), (0, .ref (ad G 37)), (1, .int x1)]) hx hb dX8_greatestOf_2 rfl hl (by decide) rfl (fun ls hl => ?_)
  obtain ⟨t5, e6, h⟩ := bd h
  refine wX37_greatestOf_L3 hC hF hL  (fun H locs ls hW hl => ?_) _ _ e6 _ _ _ hW (lv_sub hl [1, 2, 0] rfl)
  refine lv_iload_n hx hb dX8_greatestOf_22 rfl (lv_at hl 0 rfl) ?_
  cases h
  exact kr _ _ _ _ dX8_greatestOf_23 hW
theorem ctX37_greatestOf {N : Nat} {S : St} {x1 : Int32}  {v : Int32} (h : fX37_greatestOf N S x1 = some v) : Met l yX8_greatestOf (wm yX8_greatestOf cX8_greatestOf 3 (some .int)) (rmx 1 22) (pcm LX G S [.ref (ad G 37), .int x1]) (qcI LX G S v) 0 0 G.2.2.2 :=
  x_enter (own := RX8) rfl rfl (Nat.le_of_ble_eq_true rfl) (fun p e s m below meth c ls hC hr hk hW hl => wX37_greatestOf hC (Nat.le_refl _) (Nat.le_refl _)  h (fun H locs ls pc hd hW => x_reti hC hr hk hW hd) _ _ _ hW hl)
def fX37_leastOf_L2 (N : Nat) (S : St) (x1 : Int32) : Nat → Int32 → Option (Int32)
  | 0, _ => none
  | n + 1, x2 =>
    if 99 ≤ x2 then
      some x2
    else
      Option.bind (fX37_fillingsWith S x1 x2) fun t2 =>
      if t2 = 0 then
        fX37_leastOf_L2 N S x1 n (x2 + 1)
      else
        some x2
set_option maxHeartbeats 4000000 in
set_option maxRecDepth 100000 in
theorem wX37_leastOf_L2 {N : Nat} {S : St} {x1 : Int32} (hC : CallFix p m c cX8_leastOf 3 s args lw_g RX8) (hF : 1 ≤ R.frames) (hL : 22 ≤ R.locals)  {t : Int32} (kx : ∀ (H : Heap) (locs : List Loc) (ls : Array Slot), wg LX G S s H locs → lv_has ls 3 [(2, .int t)] → W p l e R s m args below meth c H locs 0 0 Q (F0 m 23 ls [])) : ∀ (n : Nat) (x2 : Int32), fX37_leastOf_L2 N S x1 n x2 = some t → ∀ (H : Heap) (locs : List Loc) (ls : Array Slot), wg LX G S s H locs → lv_has ls 3 [(0, .ref (ad G 37)), (1, .int x1), (2, .int x2)] → W p l e R s m args below meth c H locs 0 0 Q (F0 m 2 ls []) := by
  have hx := hC.1
  have hb := hC.2.1
  intro n
  induction n with
  | zero =>
    intro _ h
    cases h
  | succ n ih =>
    intro x2 h H locs ls hW hl
    rw [fX37_leastOf_L2] at h
    refine lv_iload_n hx hb dX8_leastOf_2 rfl (lv_at hl 2 rfl) ?_
    refine lv_bipush (v := 99) hx hb dX8_leastOf_3 (by decide) ?_
    refine lv_icmp_ge (tgt := 23) hx hb dX8_leastOf_5 (by decide) (fun q1 => ?_) (fun q1 => ?_)
    · have h := it_p q1 h
      cases h
      exact kx _ _ _ hW (lv_sub hl [2] rfl)
    · have h := it_n q1 h
      refine lv_aload_n hx hb dX8_leastOf_8 rfl (lv_at hl 0 rfl) ?_
      refine lv_iload_n hx hb dX8_leastOf_9 rfl (lv_at hl 1 rfl) ?_
      refine lv_iload_n hx hb dX8_leastOf_10 rfl (lv_at hl 2 rfl) ?_
      obtain ⟨t2, e3, h⟩ := bd h
      refine x_goi (x_rv (rest := []) hC hW (ctX37_fillingsWith e3) (cwV_g hC.2.2.2.2 ml_X8_148 mi_X8_fillingsWith md_X8_fillingsWith ⟨(Nat.le_trans (Nat.le_of_ble_eq_true rfl) hF), (Nat.le_trans (Nat.le_of_ble_eq_true rfl) hL)⟩) (rcX37 hW) rfl hl.1 rfl (Nat.le_of_ble_eq_true rfl) dX8_leastOf_11) hW (fun H locs hW => ?_)
      refine lv_if_ne (tgt := 23) hx hb dX8_leastOf_14 (by decide) (fun q4 => ?_) (fun q4 => ?_)
      · have h := it_n q4 h
        cases h
        exact kx _ _ _ hW (lv_sub hl [2] rfl)
      · have h := it_p q4 h
        refine lv_iinc (v := x2 + 1) (lv' := [(2, .int (x2 + 1)), (0, .ref (ad G 37)), (1, .int x1)]) (k := 2) hx hb dX8_leastOf_17 hl rfl rfl (by decide) rfl (fun ls hl => ?_)
        refine lv_goto (tgt := 2) hx hb dX8_leastOf_20 (by decide) ?_
        exact ih _ h _ _ _ hW (lv_sub hl [1, 2, 0] rfl)
def fX37_leastOf (N : Nat) (S : St) (x1 : Int32) : Option (Int32) :=
  Option.bind (fX37_leastOf_L2 N S x1 N 0) fun t5 =>
  some t5
set_option maxHeartbeats 4000000 in
set_option maxRecDepth 100000 in
theorem wX37_leastOf {N : Nat} {S : St} {x1 : Int32} (hC : CallFix p m c cX8_leastOf 3 s args lw_g RX8) (hF : 1 ≤ R.frames) (hL : 22 ≤ R.locals)  {v : Int32} (h : fX37_leastOf N S x1 = some v) (kr : ∀ (H : Heap) (locs : List Loc) (ls : Array Slot) (pc : Nat), decode cX8_leastOf pc = .ok (.ireturn, 1) → wg LX G S s H locs → W p l e R s m args below meth c H locs 0 0 Q (F0 m pc ls [.int v])) : ∀ (H : Heap) (locs : List Loc) (ls : Array Slot), wg LX G S s H locs → lv_has ls 3 [(0, .ref (ad G 37)), (1, .int x1)] → W p l e R s m args below meth c H locs 0 0 Q (F0 m 0 ls []) := by
  have hx := hC.1
  have hb := hC.2.1
  intro H locs ls hW hl
  unfold fX37_leastOf at h
  refine lv_iconst (v := 0) hx hb dX8_leastOf_0 (by decide) ?_
  refine lv_istore_n (lv' := [(2, .int 0), (0, .ref (ad G 37)), (1, .int x1)]) hx hb dX8_leastOf_1 rfl hl (by decide) rfl (fun ls hl => ?_)
  obtain ⟨t5, e6, h⟩ := bd h
  refine wX37_leastOf_L2 hC hF hL  (fun H locs ls hW hl => ?_) _ _ e6 _ _ _ hW (lv_sub hl [1, 2, 0] rfl)
  refine lv_iload_n hx hb dX8_leastOf_23 rfl (lv_at hl 0 rfl) ?_
  cases h
  exact kr _ _ _ _ dX8_leastOf_24 hW
theorem ctX37_leastOf {N : Nat} {S : St} {x1 : Int32}  {v : Int32} (h : fX37_leastOf N S x1 = some v) : Met l yX8_leastOf (wm yX8_leastOf cX8_leastOf 3 (some .int)) (rmx 1 22) (pcm LX G S [.ref (ad G 37), .int x1]) (qcI LX G S v) 0 0 G.2.2.2 :=
  x_enter (own := RX8) rfl rfl (Nat.le_of_ble_eq_true rfl) (fun p e s m below meth c ls hC hr hk hW hl => wX37_leastOf hC (Nat.le_refl _) (Nat.le_refl _)  h (fun H locs ls pc hd hW => x_reti hC hr hk hW hd) _ _ _ hW hl)
def fX0_must (N : Nat) (S : St) (x1 : Int32) (x2 : Int32) : Option (Int32 × St) :=
  Option.bind (fXs_isTurns S x2) fun t1 =>
  if t1 = 0 then
    some ((-1), S)
  else
    Option.bind (fX0_refuseCell S x1) fun t4 =>
    if t4.1 = 0 then
      Option.bind (fX0_goThroughAll N t4.2 x2) fun t7 =>
      if t7.1 = 0 then
        Option.bind (fX37_fillings t7.2) fun t10 =>
        if t10 = 0 then
          some ((-9), t7.2)
        else
          Option.bind (fX37_greatestOf N t7.2 x1) fun t13 =>
          nx (p1 t7.2 0 12 t13) fun s15 =>
          Option.bind (fX37_leastOf N s15 x1) fun t17 =>
          some (t17, s15)
      else
        some (t7.1, t7.2)
    else
      some (t4.1, t4.2)
set_option maxHeartbeats 4000000 in
set_option maxRecDepth 100000 in
theorem wX0_must {N : Nat} {S : St} {x1 : Int32} {x2 : Int32} (hC : CallFix p m c cX9_must 4 s args lw_g RX9) (hF : 20 ≤ R.frames) (hL : 458 ≤ R.locals)  {v : Int32} {S' : St} (h : fX0_must N S x1 x2 = some (v, S')) (kr : ∀ (H : Heap) (locs : List Loc) (ls : Array Slot) (pc : Nat), decode cX9_must pc = .ok (.ireturn, 1) → wg LX G (S') s H locs → W p l e R s m args below meth c H locs 0 0 Q (F0 m pc ls [.int v])) : ∀ (H : Heap) (locs : List Loc) (ls : Array Slot), wg LX G S s H locs → lv_has ls 4 [(0, .ref (ad G 0)), (1, .int x1), (2, .int x2)] → W p l e R s m args below meth c H locs 0 0 Q (F0 m 0 ls []) := by
  have hx := hC.1
  have hb := hC.2.1
  intro H locs ls hW hl
  unfold fX0_must at h
  refine lv_iload_n hx hb dX9_must_0 rfl (lv_at hl 2 rfl) ?_
  obtain ⟨t1, e2, h⟩ := bd h
  refine x_goi (x_rs (rest := []) hC hW (ctXs_isTurns e2) (cwS_g hC.2.2.2.2 ml_X9_245 ms_X9_isTurns md_X9_isTurns ⟨(Nat.le_trans (Nat.le_of_ble_eq_true rfl) hF), (Nat.le_trans (Nat.le_of_ble_eq_true rfl) hL)⟩) rfl hl.1 rfl (Nat.le_of_ble_eq_true rfl) dX9_must_1) hW (fun H locs hW => ?_)
  refine lv_if_ne (tgt := 9) hx hb dX9_must_4 (by decide) (fun q3 => ?_) (fun q3 => ?_)
  · have h := it_n q3 h
    refine lv_aload_n hx hb dX9_must_9 rfl (lv_at hl 0 rfl) ?_
    refine lv_iload_n hx hb dX9_must_10 rfl (lv_at hl 1 rfl) ?_
    obtain ⟨t4, e5, h⟩ := bd h
    refine x_goi (x_rv (rest := []) hC hW (ctX0_refuseCell e5) (cwV_g hC.2.2.2.2 ml_X9_199 mi_X9_refuseCell md_X9_refuseCell ⟨(Nat.le_trans (Nat.le_of_ble_eq_true rfl) hF), (Nat.le_trans (Nat.le_of_ble_eq_true rfl) hL)⟩) (rcX0 hW) rfl hl.1 rfl (Nat.le_of_ble_eq_true rfl) dX9_must_11) hW (fun H locs hW => ?_)
    refine lv_istore_n (lv' := [(3, .int t4.1), (0, .ref (ad G 0)), (1, .int x1), (2, .int x2)]) hx hb dX9_must_14 rfl hl (by decide) rfl (fun ls hl => ?_)
    refine lv_iload_n hx hb dX9_must_15 rfl (lv_at hl 0 rfl) ?_
    refine lv_if_eq (tgt := 21) hx hb dX9_must_16 (by decide) (fun q6 => ?_) (fun q6 => ?_)
    · have h := it_p q6 h
      refine lv_aload_n hx hb dX9_must_21 rfl (lv_at hl 1 rfl) ?_
      refine lv_iload_n hx hb dX9_must_22 rfl (lv_at hl 3 rfl) ?_
      obtain ⟨t7, e8, h⟩ := bd h
      refine x_goi (x_rv (rest := []) hC hW (ctX0_goThroughAll e8) (cwV_g hC.2.2.2.2 ml_X9_236 mi_X9_goThroughAll md_X9_goThroughAll ⟨(Nat.le_trans (Nat.le_of_ble_eq_true rfl) hF), (Nat.le_trans (Nat.le_of_ble_eq_true rfl) hL)⟩) (rcX0 hW) rfl hl.1 rfl (Nat.le_of_ble_eq_true rfl) dX9_must_23) hW (fun H locs hW => ?_)
      refine lv_istore_n (lv' := [(3, .int t7.1), (0, .ref (ad G 0)), (1, .int x1), (2, .int x2)]) hx hb dX9_must_26 rfl hl (by decide) rfl (fun ls hl => ?_)
      refine lv_iload_n hx hb dX9_must_27 rfl (lv_at hl 0 rfl) ?_
      refine lv_if_eq (tgt := 33) hx hb dX9_must_28 (by decide) (fun q9 => ?_) (fun q9 => ?_)
      · have h := it_p q9 h
        refine lv_aload_n hx hb dX9_must_33 rfl (lv_at hl 1 rfl) ?_
        refine gX0_7 hC hW dX9_must_34 ?_
        obtain ⟨t10, e11, h⟩ := bd h
        refine x_goi (x_rv (rest := []) hC hW (ctX37_fillings e11) (cwV_g hC.2.2.2.2 ml_X9_242 mi_X8_fillings md_X8_fillings ⟨(Nat.le_trans (Nat.le_of_ble_eq_true rfl) hF), (Nat.le_trans (Nat.le_of_ble_eq_true rfl) hL)⟩) (rcX37 hW) rfl hl.1 rfl (Nat.le_of_ble_eq_true rfl) dX9_must_37) hW (fun H locs hW => ?_)
        refine lv_if_ne (tgt := 46) hx hb dX9_must_40 (by decide) (fun q12 => ?_) (fun q12 => ?_)
        · have h := it_n q12 h
          refine lv_aload_n hx hb dX9_must_46 rfl (lv_at hl 1 rfl) ?_
          refine lv_aload_n hx hb dX9_must_47 rfl (lv_at hl 1 rfl) ?_
          refine gX0_7 hC hW dX9_must_48 ?_
          refine lv_iload_n hx hb dX9_must_51 rfl (lv_at hl 2 rfl) ?_
          obtain ⟨t13, e14, h⟩ := bd h
          refine x_goi (x_rv (rest := [.ref (ad G 0)]) hC hW (ctX37_greatestOf e14) (cwV_g hC.2.2.2.2 ml_X9_267 mi_X8_greatestOf md_X8_greatestOf ⟨(Nat.le_trans (Nat.le_of_ble_eq_true rfl) hF), (Nat.le_trans (Nat.le_of_ble_eq_true rfl) hL)⟩) (rcX37 hW) rfl hl.1 rfl (Nat.le_of_ble_eq_true rfl) dX9_must_52) hW (fun H locs hW => ?_)
          refine pX0_12 hC hW dX9_must_55 (fun H locs hW => ?_)
          obtain ⟨s15, e16, h⟩ := nx_some h
          rw [← e16] at hW
          refine lv_aload_n hx hb dX9_must_58 rfl (lv_at hl 1 rfl) ?_
          refine gX0_7 hC hW dX9_must_59 ?_
          refine lv_iload_n hx hb dX9_must_62 rfl (lv_at hl 2 rfl) ?_
          obtain ⟨t17, e18, h⟩ := bd h
          refine x_goi (x_rv (rest := []) hC hW (ctX37_leastOf e18) (cwV_g hC.2.2.2.2 ml_X9_270 mi_X8_leastOf md_X8_leastOf ⟨(Nat.le_trans (Nat.le_of_ble_eq_true rfl) hF), (Nat.le_trans (Nat.le_of_ble_eq_true rfl) hL)⟩) (rcX37 hW) rfl hl.1 rfl (Nat.le_of_ble_eq_true rfl) dX9_must_63) hW (fun H locs hW => ?_)
          cases h
          exact kr _ _ _ _ dX9_must_66 hW
        · have h := it_p q12 h
          refine lv_bipush (v := (-9)) hx hb dX9_must_43 (by decide) ?_
          cases h
          exact kr _ _ _ _ dX9_must_45 hW
      · have h := it_n q9 h
        refine lv_iload_n hx hb dX9_must_31 rfl (lv_at hl 0 rfl) ?_
        cases h
        exact kr _ _ _ _ dX9_must_32 hW
    · have h := it_n q6 h
      refine lv_iload_n hx hb dX9_must_19 rfl (lv_at hl 0 rfl) ?_
      cases h
      exact kr _ _ _ _ dX9_must_20 hW
  · have h := it_p q3 h
    refine lv_iconst (v := (-1)) hx hb dX9_must_7 (by decide) ?_
    cases h
    exact kr _ _ _ _ dX9_must_8 hW
theorem ctX0_must {N : Nat} {S : St} {x1 : Int32} {x2 : Int32}  {v : Int32} {S' : St} (h : fX0_must N S x1 x2 = some (v, S')) : Met l yX9_must (wm yX9_must cX9_must 4 (some .int)) (rmx 20 458) (pcm LX G S [.ref (ad G 0), .int x1, .int x2]) (qcI LX G S' v) 0 0 G.2.2.2 :=
  x_enter (own := RX9) rfl rfl (Nat.le_of_ble_eq_true rfl) (fun p e s m below meth c ls hC hr hk hW hl => wX0_must hC (Nat.le_refl _) (Nat.le_refl _)  h (fun H locs ls pc hd hW => x_reti hC hr hk hW hd) _ _ _ hW hl)
def fX37_worthOf_L4 (N : Nat) (S : St) (x1 : Int32) : Nat → Int32 → Int32 → Option (Int32)
  | 0, _, _ => none
  | n + 1, x2, x3 =>
    if 100 ≤ x3 then
      some x2
    else
      Option.bind (fX37_fillingsWith S x1 x3) fun t2 =>
      nx ((if x2 < t2 then t2 else x2)) fun y4 =>
      fX37_worthOf_L4 N S x1 n y4 (x3 + 1)
set_option maxHeartbeats 4000000 in
set_option maxRecDepth 100000 in
theorem wX37_worthOf_L4 {N : Nat} {S : St} {x1 : Int32} (hC : CallFix p m c cX8_worthOf 4 s args lw_g RX8) (hF : 1 ≤ R.frames) (hL : 22 ≤ R.locals)  {t : Int32} (kx : ∀ (H : Heap) (locs : List Loc) (ls : Array Slot), wg LX G S s H locs → lv_has ls 4 [(2, .int t)] → W p l e R s m args below meth c H locs 0 0 Q (F0 m 27 ls [])) : ∀ (n : Nat) (x2 : Int32) (x3 : Int32), fX37_worthOf_L4 N S x1 n x2 x3 = some t → ∀ (H : Heap) (locs : List Loc) (ls : Array Slot), wg LX G S s H locs → lv_has ls 4 [(0, .ref (ad G 37)), (1, .int x1), (2, .int x2), (3, .int x3)] → W p l e R s m args below meth c H locs 0 0 Q (F0 m 4 ls []) := by
  have hx := hC.1
  have hb := hC.2.1
  intro n
  induction n with
  | zero =>
    intro _ _ h
    cases h
  | succ n ih =>
    intro x2 x3 h H locs ls hW hl
    rw [fX37_worthOf_L4] at h
    refine lv_iload_n hx hb dX8_worthOf_4 rfl (lv_at hl 3 rfl) ?_
    refine lv_bipush (v := 100) hx hb dX8_worthOf_5 (by decide) ?_
    refine lv_icmp_ge (tgt := 27) hx hb dX8_worthOf_7 (by decide) (fun q1 => ?_) (fun q1 => ?_)
    · have h := it_p q1 h
      cases h
      exact kx _ _ _ hW (lv_sub hl [2] rfl)
    · have h := it_n q1 h
      refine lv_iload_n hx hb dX8_worthOf_10 rfl (lv_at hl 2 rfl) ?_
      refine lv_aload_n hx hb dX8_worthOf_11 rfl (lv_at hl 0 rfl) ?_
      refine lv_iload_n hx hb dX8_worthOf_12 rfl (lv_at hl 1 rfl) ?_
      refine lv_iload_n hx hb dX8_worthOf_13 rfl (lv_at hl 3 rfl) ?_
      obtain ⟨t2, e3, h⟩ := bd h
      refine x_goi (x_rv (rest := [.int x2]) hC hW (ctX37_fillingsWith e3) (cwV_g hC.2.2.2.2 ml_X8_148 mi_X8_fillingsWith md_X8_fillingsWith ⟨(Nat.le_trans (Nat.le_of_ble_eq_true rfl) hF), (Nat.le_trans (Nat.le_of_ble_eq_true rfl) hL)⟩) (rcX37 hW) rfl hl.1 rfl (Nat.le_of_ble_eq_true rfl) dX8_worthOf_14) hW (fun H locs hW => ?_)
      refine va_mmax hx hb (hC.2.2.1.trans hl.1.symm) hC.2.2.2.1 (hC.2.2.2.2 _ ml_X8_151) (hC.2.2.2.2 _ mw_max.1) (hC.2.2.2.2 _ mw_max.2.1) (hC.2.2.2.2 _ mw_max.2.2) (Nat.le_trans (Nat.le_of_ble_eq_true rfl) hF) (Nat.le_trans (Nat.le_of_ble_eq_true rfl) hL) (Nat.zero_le _) (Nat.zero_le _) dX8_worthOf_17 ?_
      obtain ⟨y4, e5, h⟩ := nx_some h
      refine x_topi e5 ?_
      refine lv_istore_n (lv' := [(2, .int y4), (0, .ref (ad G 37)), (1, .int x1), (3, .int x3)]) hx hb dX8_worthOf_20 rfl hl (by decide) rfl (fun ls hl => ?_)
      refine lv_iinc (v := x3 + 1) (lv' := [(3, .int (x3 + 1)), (2, .int y4), (0, .ref (ad G 37)), (1, .int x1)]) (k := 3) hx hb dX8_worthOf_21 hl rfl rfl (by decide) rfl (fun ls hl => ?_)
      refine lv_goto (tgt := 4) hx hb dX8_worthOf_24 (by decide) ?_
      exact ih _ _ h _ _ _ hW (lv_sub hl [2, 3, 1, 0] rfl)
def fX37_worthOf (N : Nat) (S : St) (x1 : Int32) : Option (Int32) :=
  Option.bind (fX37_worthOf_L4 N S x1 N 0 0) fun t6 =>
  some t6
set_option maxHeartbeats 4000000 in
set_option maxRecDepth 100000 in
theorem wX37_worthOf {N : Nat} {S : St} {x1 : Int32} (hC : CallFix p m c cX8_worthOf 4 s args lw_g RX8) (hF : 1 ≤ R.frames) (hL : 22 ≤ R.locals)  {v : Int32} (h : fX37_worthOf N S x1 = some v) (kr : ∀ (H : Heap) (locs : List Loc) (ls : Array Slot) (pc : Nat), decode cX8_worthOf pc = .ok (.ireturn, 1) → wg LX G S s H locs → W p l e R s m args below meth c H locs 0 0 Q (F0 m pc ls [.int v])) : ∀ (H : Heap) (locs : List Loc) (ls : Array Slot), wg LX G S s H locs → lv_has ls 4 [(0, .ref (ad G 37)), (1, .int x1)] → W p l e R s m args below meth c H locs 0 0 Q (F0 m 0 ls []) := by
  have hx := hC.1
  have hb := hC.2.1
  intro H locs ls hW hl
  unfold fX37_worthOf at h
  refine lv_iconst (v := 0) hx hb dX8_worthOf_0 (by decide) ?_
  refine lv_istore_n (lv' := [(2, .int 0), (0, .ref (ad G 37)), (1, .int x1)]) hx hb dX8_worthOf_1 rfl hl (by decide) rfl (fun ls hl => ?_)
  refine lv_iconst (v := 0) hx hb dX8_worthOf_2 (by decide) ?_
  refine lv_istore_n (lv' := [(3, .int 0), (2, .int 0), (0, .ref (ad G 37)), (1, .int x1)]) hx hb dX8_worthOf_3 rfl hl (by decide) rfl (fun ls hl => ?_)
  obtain ⟨t6, e7, h⟩ := bd h
  refine wX37_worthOf_L4 hC hF hL  (fun H locs ls hW hl => ?_) _ _ _ e7 _ _ _ hW (lv_sub hl [2, 3, 1, 0] rfl)
  refine lv_iload_n hx hb dX8_worthOf_27 rfl (lv_at hl 0 rfl) ?_
  cases h
  exact kr _ _ _ _ dX8_worthOf_28 hW
theorem ctX37_worthOf {N : Nat} {S : St} {x1 : Int32}  {v : Int32} (h : fX37_worthOf N S x1 = some v) : Met l yX8_worthOf (wm yX8_worthOf cX8_worthOf 4 (some .int)) (rmx 1 22) (pcm LX G S [.ref (ad G 37), .int x1]) (qcI LX G S v) 0 0 G.2.2.2 :=
  x_enter (own := RX8) rfl rfl (Nat.le_of_ble_eq_true rfl) (fun p e s m below meth c ls hC hr hk hW hl => wX37_worthOf hC (Nat.le_refl _) (Nat.le_refl _)  h (fun H locs ls pc hd hW => x_reti hC hr hk hW hd) _ _ _ hW hl)
def fX0_sure_L29 (N : Nat) (S : St)  : Nat → Int32 → Int32 → Option (Int32)
  | 0, _, _ => none
  | n + 1, x3, x4 =>
    if 12 ≤ x4 then
      some x3
    else
      Option.bind (fX25_isThere S x4) fun t8 =>
      Option.bind (α := Int32) (
        if t8 = 0 then
          some x3
        else
          Option.bind (fX37_worthOf N S x4) fun t14 =>
          Option.bind (fX37_fillings S) fun t16 =>
          if t14 = t16 then
            nx (x3 ||| (1 <<< (x4 &&& 31))) fun y19 =>
            some y19
          else
            some x3
      ) fun t11 =>
      fX0_sure_L29 N S n t11 (x4 + 1)
set_option maxHeartbeats 4000000 in
set_option maxRecDepth 100000 in
theorem wX0_sure_L29 {N : Nat} {S : St}  (hC : CallFix p m c cX9_sure 5 s args lw_g RX9) (hF : 20 ≤ R.frames) (hL : 458 ≤ R.locals)  {t : Int32} (kx : ∀ (H : Heap) (locs : List Loc) (ls : Array Slot), wg LX G S s H locs → lv_has ls 5 [(3, .int t)] → W p l e R s m args below meth c H locs 0 0 Q (F0 m 80 ls [])) : ∀ (n : Nat) (x3 : Int32) (x4 : Int32), fX0_sure_L29 N S  n x3 x4 = some t → ∀ (H : Heap) (locs : List Loc) (ls : Array Slot), wg LX G S s H locs → lv_has ls 5 [(0, .ref (ad G 0)), (3, .int x3), (4, .int x4)] → W p l e R s m args below meth c H locs 0 0 Q (F0 m 29 ls []) := by
  have hx := hC.1
  have hb := hC.2.1
  intro n
  induction n with
  | zero =>
    intro _ _ h
    cases h
  | succ n ih =>
    intro x3 x4 h H locs ls hW hl
    rw [fX0_sure_L29] at h
    refine lv_iload hx hb dX9_sure_29 (lv_at hl 2 rfl) ?_
    refine lv_bipush (v := 12) hx hb dX9_sure_31 (by decide) ?_
    refine lv_icmp_ge (tgt := 80) hx hb dX9_sure_33 (by decide) (fun q7 => ?_) (fun q7 => ?_)
    · have h := it_p q7 h
      cases h
      exact kx _ _ _ hW (lv_sub hl [1] rfl)
    · have h := it_n q7 h
      refine lv_aload_n hx hb dX9_sure_36 rfl (lv_at hl 0 rfl) ?_
      refine gX0_4 hC hW dX9_sure_37 ?_
      refine lv_iload hx hb dX9_sure_40 (lv_at hl 2 rfl) ?_
      obtain ⟨t8, e9, h⟩ := bd h
      refine x_goi (x_rv (rest := []) hC hW (ctX25_isThere e9) (cwV_g hC.2.2.2.2 ml_X9_273 mi_X0_isThere md_X0_isThere ⟨(Nat.le_trans (Nat.le_of_ble_eq_true rfl) hF), (Nat.le_trans (Nat.le_of_ble_eq_true rfl) hL)⟩) (rcX25 hW) rfl hl.1 rfl (Nat.le_of_ble_eq_true rfl) dX9_sure_42) hW (fun H locs hW => ?_)
      obtain ⟨t11, e12, h⟩ := bd h
      have K10 : ∀ (H : Heap) (locs : List Loc) (ls : Array Slot), wg LX G S s H locs → lv_has ls 5 [(0, .ref (ad G 0)), (3, .int t11), (4, .int x4)] → W p l e R s m args below meth c H locs 0 0 Q (F0 m 74 ls []) := by
        intro H locs ls hW hl
        refine lv_iinc (v := x4 + 1) (lv' := [(4, .int (x4 + 1)), (0, .ref (ad G 0)), (3, .int t11)]) (k := 2) hx hb dX9_sure_74 hl rfl rfl (by decide) rfl (fun ls hl => ?_)
        refine lv_goto (tgt := 29) hx hb dX9_sure_77 (by decide) ?_
        exact ih _ _ h _ _ _ hW (lv_sub hl [1, 2, 0] rfl)
      clear h
      have h := e12
      clear e12
      refine lv_if_eq (tgt := 74) hx hb dX9_sure_45 (by decide) (fun q13 => ?_) (fun q13 => ?_)
      · have h := it_p q13 h
        cases h
        exact K10 _ _ _ hW (lv_sub hl [0, 1, 2] rfl)
      · have h := it_n q13 h
        refine lv_aload_n hx hb dX9_sure_48 rfl (lv_at hl 0 rfl) ?_
        refine gX0_7 hC hW dX9_sure_49 ?_
        refine lv_iload hx hb dX9_sure_52 (lv_at hl 2 rfl) ?_
        obtain ⟨t14, e15, h⟩ := bd h
        refine x_goi (x_rv (rest := []) hC hW (ctX37_worthOf e15) (cwV_g hC.2.2.2.2 ml_X9_274 mi_X8_worthOf md_X8_worthOf ⟨(Nat.le_trans (Nat.le_of_ble_eq_true rfl) hF), (Nat.le_trans (Nat.le_of_ble_eq_true rfl) hL)⟩) (rcX37 hW) rfl hl.1 rfl (Nat.le_of_ble_eq_true rfl) dX9_sure_54) hW (fun H locs hW => ?_)
        refine lv_aload_n hx hb dX9_sure_57 rfl (lv_at hl 0 rfl) ?_
        refine gX0_7 hC hW dX9_sure_58 ?_
        obtain ⟨t16, e17, h⟩ := bd h
        refine x_goi (x_rv (rest := [.int t14]) hC hW (ctX37_fillings e17) (cwV_g hC.2.2.2.2 ml_X9_242 mi_X8_fillings md_X8_fillings ⟨(Nat.le_trans (Nat.le_of_ble_eq_true rfl) hF), (Nat.le_trans (Nat.le_of_ble_eq_true rfl) hL)⟩) (rcX37 hW) rfl hl.1 rfl (Nat.le_of_ble_eq_true rfl) dX9_sure_61) hW (fun H locs hW => ?_)
        refine lv_icmp_ne (tgt := 74) hx hb dX9_sure_64 (by decide) (fun q18 => ?_) (fun q18 => ?_)
        · have h := it_n q18 h
          cases h
          exact K10 _ _ _ hW (lv_sub hl [0, 1, 2] rfl)
        · have h := it_p q18 h
          refine lv_iload_n hx hb dX9_sure_67 rfl (lv_at hl 1 rfl) ?_
          refine lv_iconst (v := 1) hx hb dX9_sure_68 (by decide) ?_
          refine lv_iload hx hb dX9_sure_69 (lv_at hl 2 rfl) ?_
          refine lv_ishl hx hb dX9_sure_71 ?_
          refine lv_ior hx hb dX9_sure_72 ?_
          obtain ⟨y19, e20, h⟩ := nx_some h
          refine x_topi e20 ?_
          refine lv_istore_n (lv' := [(3, .int y19), (0, .ref (ad G 0)), (4, .int x4)]) hx hb dX9_sure_73 rfl hl (by decide) rfl (fun ls hl => ?_)
          cases h
          exact K10 _ _ _ hW (lv_sub hl [1, 0, 2] rfl)
def fX0_sure (N : Nat) (S : St) (x1 : Int32) : Option (Int32 × St) :=
  Option.bind (fX0_goThroughAll N S x1) fun t1 =>
  if t1.1 = 0 then
    Option.bind (fX37_fillings t1.2) fun t4 =>
    if t4 = 0 then
      some (0, t1.2)
    else
      Option.bind (fX0_sure_L29 N t1.2 N 0 0) fun t21 =>
      some (t21, t1.2)
  else
    some (t1.1, t1.2)
set_option maxHeartbeats 4000000 in
set_option maxRecDepth 100000 in
theorem wX0_sure {N : Nat} {S : St} {x1 : Int32} (hC : CallFix p m c cX9_sure 5 s args lw_g RX9) (hF : 20 ≤ R.frames) (hL : 458 ≤ R.locals)  {v : Int32} {S' : St} (h : fX0_sure N S x1 = some (v, S')) (kr : ∀ (H : Heap) (locs : List Loc) (ls : Array Slot) (pc : Nat), decode cX9_sure pc = .ok (.ireturn, 1) → wg LX G (S') s H locs → W p l e R s m args below meth c H locs 0 0 Q (F0 m pc ls [.int v])) : ∀ (H : Heap) (locs : List Loc) (ls : Array Slot), wg LX G S s H locs → lv_has ls 5 [(0, .ref (ad G 0)), (1, .int x1)] → W p l e R s m args below meth c H locs 0 0 Q (F0 m 0 ls []) := by
  have hx := hC.1
  have hb := hC.2.1
  intro H locs ls hW hl
  unfold fX0_sure at h
  refine lv_aload_n hx hb dX9_sure_0 rfl (lv_at hl 0 rfl) ?_
  refine lv_iload_n hx hb dX9_sure_1 rfl (lv_at hl 1 rfl) ?_
  obtain ⟨t1, e2, h⟩ := bd h
  refine x_goi (x_rv (rest := []) hC hW (ctX0_goThroughAll e2) (cwV_g hC.2.2.2.2 ml_X9_236 mi_X9_goThroughAll md_X9_goThroughAll ⟨(Nat.le_trans (Nat.le_of_ble_eq_true rfl) hF), (Nat.le_trans (Nat.le_of_ble_eq_true rfl) hL)⟩) (rcX0 hW) rfl hl.1 rfl (Nat.le_of_ble_eq_true rfl) dX9_sure_2) hW (fun H locs hW => ?_)
  refine lv_istore_n (lv' := [(2, .int t1.1), (0, .ref (ad G 0)), (1, .int x1)]) hx hb dX9_sure_5 rfl hl (by decide) rfl (fun ls hl => ?_)
  refine lv_iload_n hx hb dX9_sure_6 rfl (lv_at hl 0 rfl) ?_
  refine lv_if_eq (tgt := 12) hx hb dX9_sure_7 (by decide) (fun q3 => ?_) (fun q3 => ?_)
  · have h := it_p q3 h
    refine lv_aload_n hx hb dX9_sure_12 rfl (lv_at hl 1 rfl) ?_
    refine gX0_7 hC hW dX9_sure_13 ?_
    obtain ⟨t4, e5, h⟩ := bd h
    refine x_goi (x_rv (rest := []) hC hW (ctX37_fillings e5) (cwV_g hC.2.2.2.2 ml_X9_242 mi_X8_fillings md_X8_fillings ⟨(Nat.le_trans (Nat.le_of_ble_eq_true rfl) hF), (Nat.le_trans (Nat.le_of_ble_eq_true rfl) hL)⟩) (rcX37 hW) rfl hl.1 rfl (Nat.le_of_ble_eq_true rfl) dX9_sure_16) hW (fun H locs hW => ?_)
    refine lv_if_ne (tgt := 24) hx hb dX9_sure_19 (by decide) (fun q6 => ?_) (fun q6 => ?_)
    · have h := it_n q6 h
      refine lv_iconst (v := 0) hx hb dX9_sure_24 (by decide) ?_
      refine lv_istore_n (lv' := [(3, .int 0), (2, .int t1.1), (0, .ref (ad G 0)), (1, .int x1)]) hx hb dX9_sure_25 rfl hl (by decide) rfl (fun ls hl => ?_)
      refine lv_iconst (v := 0) hx hb dX9_sure_26 (by decide) ?_
      refine lv_istore (lv' := [(4, .int 0), (3, .int 0), (2, .int t1.1), (0, .ref (ad G 0)), (1, .int x1)]) hx hb dX9_sure_27 hl (by decide) rfl (fun ls hl => ?_)
      obtain ⟨t21, e22, h⟩ := bd h
      refine wX0_sure_L29 hC hF hL  (fun H locs ls hW hl => ?_) _ _ _ e22 _ _ _ hW (lv_sub hl [3, 1, 0] rfl)
      refine lv_iload_n hx hb dX9_sure_80 rfl (lv_at hl 0 rfl) ?_
      cases h
      exact kr _ _ _ _ dX9_sure_81 hW
    · have h := it_p q6 h
      refine lv_iconst (v := 0) hx hb dX9_sure_22 (by decide) ?_
      cases h
      exact kr _ _ _ _ dX9_sure_23 hW
  · have h := it_n q3 h
    refine lv_iload_n hx hb dX9_sure_10 rfl (lv_at hl 0 rfl) ?_
    cases h
    exact kr _ _ _ _ dX9_sure_11 hW
theorem ctX0_sure {N : Nat} {S : St} {x1 : Int32}  {v : Int32} {S' : St} (h : fX0_sure N S x1 = some (v, S')) : Met l yX9_sure (wm yX9_sure cX9_sure 5 (some .int)) (rmx 20 458) (pcm LX G S [.ref (ad G 0), .int x1]) (qcI LX G S' v) 0 0 G.2.2.2 :=
  x_enter (own := RX9) rfl rfl (Nat.le_of_ble_eq_true rfl) (fun p e s m below meth c ls hC hr hk hW hl => wX0_sure hC (Nat.le_refl _) (Nat.le_refl _)  h (fun H locs ls pc hd hW => x_reti hC hr hk hW hd) _ _ _ hW hl)
def fX37_weighBy_L2 (N : Nat) (x2 : Int32) : Nat → St → Int32 → Option (St)
  | 0, _, _ => none
  | n + 1, S, x3 =>
    if 10 ≤ x3 then
      some S
    else
      Option.bind (fX1_get S x2 x3) fun t2 =>
      gd (inb x3 10) <|
      nx (p1 S 40 (Int32.toNatClampNeg x3) t2) fun s5 =>
      fX37_weighBy_L2 N x2 n s5 (x3 + 1)
set_option maxHeartbeats 4000000 in
set_option maxRecDepth 100000 in
theorem wX37_weighBy_L2 {N : Nat} {x2 : Int32} (hC : CallFix p m c cX8_weighBy 4 s args lw_g RX8) (hF : 1 ≤ R.frames) (hL : 22 ≤ R.locals)  {t : St} (kx : ∀ (H : Heap) (locs : List Loc) (ls : Array Slot), wg LX G t s H locs → lv_has ls 4 [] → W p l e R s m args below meth c H locs 0 0 Q (F0 m 26 ls [])) : ∀ (n : Nat) (S : St) (x3 : Int32), fX37_weighBy_L2 N x2 n S x3 = some t → ∀ (H : Heap) (locs : List Loc) (ls : Array Slot), wg LX G S s H locs → lv_has ls 4 [(0, .ref (ad G 37)), (1, .ref (ad G 1)), (2, .int x2), (3, .int x3)] → W p l e R s m args below meth c H locs 0 0 Q (F0 m 2 ls []) := by
  have hx := hC.1
  have hb := hC.2.1
  intro n
  induction n with
  | zero =>
    intro _ _ h
    cases h
  | succ n ih =>
    intro S x3 h H locs ls hW hl
    rw [fX37_weighBy_L2] at h
    refine lv_iload_n hx hb dX8_weighBy_2 rfl (lv_at hl 3 rfl) ?_
    refine lv_bipush (v := 10) hx hb dX8_weighBy_3 (by decide) ?_
    refine lv_icmp_ge (tgt := 26) hx hb dX8_weighBy_5 (by decide) (fun q1 => ?_) (fun q1 => ?_)
    · have h := it_p q1 h
      cases h
      exact kx _ _ _ hW (lv_sub hl [] rfl)
    · have h := it_n q1 h
      refine lv_aload_n hx hb dX8_weighBy_8 rfl (lv_at hl 0 rfl) ?_
      refine gX37_5 hC hW dX8_weighBy_9 ?_
      refine lv_iload_n hx hb dX8_weighBy_12 rfl (lv_at hl 3 rfl) ?_
      refine lv_aload_n hx hb dX8_weighBy_13 rfl (lv_at hl 1 rfl) ?_
      refine lv_iload_n hx hb dX8_weighBy_14 rfl (lv_at hl 2 rfl) ?_
      refine lv_iload_n hx hb dX8_weighBy_15 rfl (lv_at hl 3 rfl) ?_
      obtain ⟨t2, e3, h⟩ := bd h
      refine x_goi (x_rv (rest := [.int x3, .ref (ad G 40)]) hC hW (ctX1_get e3) (cwV_g hC.2.2.2.2 ml_X8_65 mi_X6_get md_X6_get ⟨(Nat.le_trans (Nat.le_of_ble_eq_true rfl) hF), (Nat.le_trans (Nat.le_of_ble_eq_true rfl) hL)⟩) (rcX1 hW) rfl hl.1 rfl (Nat.le_of_ble_eq_true rfl) dX8_weighBy_16) hW (fun H locs hW => ?_)
      obtain ⟨g4, h⟩ := gd_some h
      refine x_iast hC hW aX40 g4 dX8_weighBy_19 (fun H locs hW => ?_)
      obtain ⟨s5, e6, h⟩ := nx_some h
      rw [← e6] at hW
      refine lv_iinc (v := x3 + 1) (lv' := [(3, .int (x3 + 1)), (0, .ref (ad G 37)), (1, .ref (ad G 1)), (2, .int x2)]) (k := 3) hx hb dX8_weighBy_20 hl rfl rfl (by decide) rfl (fun ls hl => ?_)
      refine lv_goto (tgt := 2) hx hb dX8_weighBy_23 (by decide) ?_
      exact ih _ _ h _ _ _ hW (lv_sub hl [1, 2, 3, 0] rfl)
def fX37_weighBy (N : Nat) (S : St) (x2 : Int32) : Option (St) :=
  Option.bind (fX37_weighBy_L2 N x2 N S 0) fun t7 =>
  some t7
set_option maxHeartbeats 4000000 in
set_option maxRecDepth 100000 in
theorem wX37_weighBy {N : Nat} {S : St} {x2 : Int32} (hC : CallFix p m c cX8_weighBy 4 s args lw_g RX8) (hF : 1 ≤ R.frames) (hL : 22 ≤ R.locals)  {S' : St} (h : fX37_weighBy N S x2 = some (S')) (kr : ∀ (H : Heap) (locs : List Loc) (ls : Array Slot) (pc : Nat), decode cX8_weighBy pc = .ok (.return_, 1) → wg LX G (S') s H locs → W p l e R s m args below meth c H locs 0 0 Q (F0 m pc ls [])) : ∀ (H : Heap) (locs : List Loc) (ls : Array Slot), wg LX G S s H locs → lv_has ls 4 [(0, .ref (ad G 37)), (1, .ref (ad G 1)), (2, .int x2)] → W p l e R s m args below meth c H locs 0 0 Q (F0 m 0 ls []) := by
  have hx := hC.1
  have hb := hC.2.1
  intro H locs ls hW hl
  unfold fX37_weighBy at h
  refine lv_iconst (v := 0) hx hb dX8_weighBy_0 (by decide) ?_
  refine lv_istore_n (lv' := [(3, .int 0), (0, .ref (ad G 37)), (1, .ref (ad G 1)), (2, .int x2)]) hx hb dX8_weighBy_1 rfl hl (by decide) rfl (fun ls hl => ?_)
  obtain ⟨t7, e8, h⟩ := bd h
  refine wX37_weighBy_L2 hC hF hL  (fun H locs ls hW hl => ?_) _ _ _ e8 _ _ _ hW (lv_sub hl [1, 2, 3, 0] rfl)
  cases h
  exact kr _ _ _ _ dX8_weighBy_26 hW
theorem ctX37_weighBy {N : Nat} {S : St} {x2 : Int32}  {S' : St} (h : fX37_weighBy N S x2 = some (S')) : Met l yX8_weighBy (wm yX8_weighBy cX8_weighBy 4 none) (rmx 1 22) (pcm LX G S [.ref (ad G 37), .ref (ad G 1), .int x2]) (qcV LX G S') 0 0 G.2.2.2 :=
  x_enter (own := RX8) rfl rfl (Nat.le_of_ble_eq_true rfl) (fun p e s m below meth c ls hC hr hk hW hl => wX37_weighBy hC (Nat.le_refl _) (Nat.le_refl _)  h (fun H locs ls pc hd hW => x_retv hC hr hk hW hd) _ _ _ hW hl)
def fX37_writeLikeliest (N : Nat) (S : St) (x2 : Int32) : Option (St) :=
  Option.bind (fX37_writeFilling N S 39 x2) fun t1 =>
  some t1
set_option maxHeartbeats 4000000 in
set_option maxRecDepth 100000 in
theorem wX37_writeLikeliest {N : Nat} {S : St} {x2 : Int32} (hC : CallFix p m c cX8_writeLikeliest 3 s args lw_g RX8) (hF : 2 ≤ R.frames) (hL : 47 ≤ R.locals)  {S' : St} (h : fX37_writeLikeliest N S x2 = some (S')) (kr : ∀ (H : Heap) (locs : List Loc) (ls : Array Slot) (pc : Nat), decode cX8_writeLikeliest pc = .ok (.return_, 1) → wg LX G (S') s H locs → W p l e R s m args below meth c H locs 0 0 Q (F0 m pc ls [])) : ∀ (H : Heap) (locs : List Loc) (ls : Array Slot), wg LX G S s H locs → lv_has ls 3 [(0, .ref (ad G 37)), (1, .ref (ad G 1)), (2, .int x2)] → W p l e R s m args below meth c H locs 0 0 Q (F0 m 0 ls []) := by
  have hx := hC.1
  have hb := hC.2.1
  intro H locs ls hW hl
  unfold fX37_writeLikeliest at h
  refine lv_aload_n hx hb dX8_writeLikeliest_0 rfl (lv_at hl 0 rfl) ?_
  refine lv_aload_n hx hb dX8_writeLikeliest_1 rfl (lv_at hl 0 rfl) ?_
  refine gX37_4 hC hW dX8_writeLikeliest_2 ?_
  refine lv_aload_n hx hb dX8_writeLikeliest_5 rfl (lv_at hl 1 rfl) ?_
  refine lv_iload_n hx hb dX8_writeLikeliest_6 rfl (lv_at hl 2 rfl) ?_
  obtain ⟨t1, e2, h⟩ := bd h
  refine x_gov (x_rv (rest := []) hC hW (ctX37_writeFilling aX39 e2) (cwV_g hC.2.2.2.2 ml_X8_156 mi_X8_writeFilling md_X8_writeFilling ⟨(Nat.le_trans (Nat.le_of_ble_eq_true rfl) hF), (Nat.le_trans (Nat.le_of_ble_eq_true rfl) hL)⟩) (rcX37 hW) rfl hl.1 rfl (Nat.le_of_ble_eq_true rfl) dX8_writeLikeliest_7) hW (fun H locs hW => ?_)
  cases h
  exact kr _ _ _ _ dX8_writeLikeliest_10 hW
theorem ctX37_writeLikeliest {N : Nat} {S : St} {x2 : Int32}  {S' : St} (h : fX37_writeLikeliest N S x2 = some (S')) : Met l yX8_writeLikeliest (wm yX8_writeLikeliest cX8_writeLikeliest 3 none) (rmx 2 47) (pcm LX G S [.ref (ad G 37), .ref (ad G 1), .int x2]) (qcV LX G S') 0 0 G.2.2.2 :=
  x_enter (own := RX8) rfl rfl (Nat.le_of_ble_eq_true rfl) (fun p e s m below meth c ls hC hr hk hW hl => wX37_writeLikeliest hC (Nat.le_refl _) (Nat.le_refl _)  h (fun H locs ls pc hd hW => x_retv hC hr hk hW hd) _ _ _ hW hl)
def fX37_greatestWeight (S : St)  : Option (Int32) :=
  some (S.1 37 13)
set_option maxHeartbeats 4000000 in
set_option maxRecDepth 100000 in
theorem wX37_greatestWeight {S : St}  (hC : CallFix p m c cX8_greatestWeight 1 s args lw_g RX8) (hF : 0 ≤ R.frames) (hL : 0 ≤ R.locals)  {v : Int32} (h : fX37_greatestWeight S = some v) (kr : ∀ (H : Heap) (locs : List Loc) (ls : Array Slot) (pc : Nat), decode cX8_greatestWeight pc = .ok (.ireturn, 1) → wg LX G S s H locs → W p l e R s m args below meth c H locs 0 0 Q (F0 m pc ls [.int v])) : ∀ (H : Heap) (locs : List Loc) (ls : Array Slot), wg LX G S s H locs → lv_has ls 1 [(0, .ref (ad G 37))] → W p l e R s m args below meth c H locs 0 0 Q (F0 m 0 ls []) := by
  have hx := hC.1
  have hb := hC.2.1
  intro H locs ls hW hl
  unfold fX37_greatestWeight at h
  refine lv_aload_n hx hb dX8_greatestWeight_0 rfl (lv_at hl 0 rfl) ?_
  refine gX37_13 hC hW dX8_greatestWeight_1 ?_
  cases h
  exact kr _ _ _ _ dX8_greatestWeight_4 hW
theorem ctX37_greatestWeight {S : St}   {v : Int32} (h : fX37_greatestWeight S = some v) : Met l yX8_greatestWeight (wm yX8_greatestWeight cX8_greatestWeight 1 (some .int)) (rmx 0 0) (pcm LX G S [.ref (ad G 37)]) (qcI LX G S v) 0 0 G.2.2.2 :=
  x_enter (own := RX8) rfl rfl (Nat.le_of_ble_eq_true rfl) (fun p e s m below meth c ls hC hr hk hW hl => wX37_greatestWeight hC (Nat.le_refl _) (Nat.le_refl _)  h (fun H locs ls pc hd hW => x_reti hC hr hk hW hd) _ _ _ hW hl)
def fX0_like (N : Nat) (S : St) (x1 : Int32) (x2 : Int32) (x3 : Int32) : Option (Int32 × St) :=
  Option.bind (fXs_isRow S x2) fun t1 =>
  if t1 = 0 then
    some ((-1), S)
  else
    Option.bind (fXs_isTurns S x3) fun t4 =>
    if t4 = 0 then
      some ((-1), S)
    else
      Option.bind (fX0_refuseRow S x1) fun t7 =>
      if t7.1 = 0 then
        Option.bind (fX1_sizeOf t7.2 x1) fun t10 =>
        if t10 = 10 then
          Option.bind (fX1_allWithin N t7.2 x1 0 99) fun t13 =>
          if t13 = 0 then
            Option.bind (fX0_found t7.2 3) fun t28 =>
            some (t28.1, t28.2)
          else
            Option.bind (fX37_weighBy N t7.2 x1) fun t16 =>
            Option.bind (fX0_goThroughAll N t16 x3) fun t18 =>
            if t18.1 = 0 then
              Option.bind (fX37_fillings t18.2) fun t21 =>
              if t21 = 0 then
                some ((-9), t18.2)
              else
                Option.bind (fX37_writeLikeliest N t18.2 x2) fun t24 =>
                Option.bind (fX37_greatestWeight t24) fun t26 =>
                some (t26, t24)
            else
              some (t18.1, t18.2)
        else
          Option.bind (fX0_found t7.2 5) fun t30 =>
          some (t30.1, t30.2)
      else
        some (t7.1, t7.2)
set_option maxHeartbeats 4000000 in
set_option maxRecDepth 100000 in
theorem wX0_like {N : Nat} {S : St} {x1 : Int32} {x2 : Int32} {x3 : Int32} (hC : CallFix p m c cX9_like 5 s args lw_g RX9) (hF : 20 ≤ R.frames) (hL : 458 ≤ R.locals)  {v : Int32} {S' : St} (h : fX0_like N S x1 x2 x3 = some (v, S')) (kr : ∀ (H : Heap) (locs : List Loc) (ls : Array Slot) (pc : Nat), decode cX9_like pc = .ok (.ireturn, 1) → wg LX G (S') s H locs → W p l e R s m args below meth c H locs 0 0 Q (F0 m pc ls [.int v])) : ∀ (H : Heap) (locs : List Loc) (ls : Array Slot), wg LX G S s H locs → lv_has ls 5 [(0, .ref (ad G 0)), (1, .int x1), (2, .int x2), (3, .int x3)] → W p l e R s m args below meth c H locs 0 0 Q (F0 m 0 ls []) := by
  have hx := hC.1
  have hb := hC.2.1
  intro H locs ls hW hl
  unfold fX0_like at h
  refine lv_iload_n hx hb dX9_like_0 rfl (lv_at hl 2 rfl) ?_
  obtain ⟨t1, e2, h⟩ := bd h
  refine x_goi (x_rs (rest := []) hC hW (ctXs_isRow e2) (cwS_g hC.2.2.2.2 ml_X9_105 ms_X9_isRow md_X9_isRow ⟨(Nat.le_trans (Nat.le_of_ble_eq_true rfl) hF), (Nat.le_trans (Nat.le_of_ble_eq_true rfl) hL)⟩) rfl hl.1 rfl (Nat.le_of_ble_eq_true rfl) dX9_like_1) hW (fun H locs hW => ?_)
  refine lv_if_eq (tgt := 14) hx hb dX9_like_4 (by decide) (fun q3 => ?_) (fun q3 => ?_)
  · have h := it_p q3 h
    refine lv_iconst (v := (-1)) hx hb dX9_like_14 (by decide) ?_
    cases h
    exact kr _ _ _ _ dX9_like_15 hW
  · have h := it_n q3 h
    refine lv_iload_n hx hb dX9_like_7 rfl (lv_at hl 3 rfl) ?_
    obtain ⟨t4, e5, h⟩ := bd h
    refine x_goi (x_rs (rest := []) hC hW (ctXs_isTurns e5) (cwS_g hC.2.2.2.2 ml_X9_245 ms_X9_isTurns md_X9_isTurns ⟨(Nat.le_trans (Nat.le_of_ble_eq_true rfl) hF), (Nat.le_trans (Nat.le_of_ble_eq_true rfl) hL)⟩) rfl hl.1 rfl (Nat.le_of_ble_eq_true rfl) dX9_like_8) hW (fun H locs hW => ?_)
    refine lv_if_ne (tgt := 16) hx hb dX9_like_11 (by decide) (fun q6 => ?_) (fun q6 => ?_)
    · have h := it_n q6 h
      refine lv_aload_n hx hb dX9_like_16 rfl (lv_at hl 0 rfl) ?_
      refine lv_iload_n hx hb dX9_like_17 rfl (lv_at hl 1 rfl) ?_
      obtain ⟨t7, e8, h⟩ := bd h
      refine x_goi (x_rv (rest := []) hC hW (ctX0_refuseRow e8) (cwV_g hC.2.2.2.2 ml_X9_127 mi_X9_refuseRow md_X9_refuseRow ⟨(Nat.le_trans (Nat.le_of_ble_eq_true rfl) hF), (Nat.le_trans (Nat.le_of_ble_eq_true rfl) hL)⟩) (rcX0 hW) rfl hl.1 rfl (Nat.le_of_ble_eq_true rfl) dX9_like_18) hW (fun H locs hW => ?_)
      refine lv_istore (lv' := [(4, .int t7.1), (0, .ref (ad G 0)), (1, .int x1), (2, .int x2), (3, .int x3)]) hx hb dX9_like_21 hl (by decide) rfl (fun ls hl => ?_)
      refine lv_iload hx hb dX9_like_23 (lv_at hl 0 rfl) ?_
      refine lv_if_eq (tgt := 31) hx hb dX9_like_25 (by decide) (fun q9 => ?_) (fun q9 => ?_)
      · have h := it_p q9 h
        refine lv_aload_n hx hb dX9_like_31 rfl (lv_at hl 1 rfl) ?_
        refine gX0_0 hC hW dX9_like_32 ?_
        refine lv_iload_n hx hb dX9_like_35 rfl (lv_at hl 2 rfl) ?_
        obtain ⟨t10, e11, h⟩ := bd h
        refine x_goi (x_rv (rest := []) hC hW (ctX1_sizeOf e11) (cwV_g hC.2.2.2.2 ml_X9_145 mi_X6_sizeOf md_X6_sizeOf ⟨(Nat.le_trans (Nat.le_of_ble_eq_true rfl) hF), (Nat.le_trans (Nat.le_of_ble_eq_true rfl) hL)⟩) (rcX1 hW) rfl hl.1 rfl (Nat.le_of_ble_eq_true rfl) dX9_like_36) hW (fun H locs hW => ?_)
        refine lv_bipush (v := 10) hx hb dX9_like_39 (by decide) ?_
        refine lv_icmp_eq (tgt := 50) hx hb dX9_like_41 (by decide) (fun q12 => ?_) (fun q12 => ?_)
        · have h := it_p q12 h
          refine lv_aload_n hx hb dX9_like_50 rfl (lv_at hl 1 rfl) ?_
          refine gX0_0 hC hW dX9_like_51 ?_
          refine lv_iload_n hx hb dX9_like_54 rfl (lv_at hl 2 rfl) ?_
          refine lv_iconst (v := 0) hx hb dX9_like_55 (by decide) ?_
          refine lv_bipush (v := 99) hx hb dX9_like_56 (by decide) ?_
          obtain ⟨t13, e14, h⟩ := bd h
          refine x_goi (x_rv (rest := []) hC hW (ctX1_allWithin e14) (cwV_g hC.2.2.2.2 ml_X9_188 mi_X6_allWithin md_X6_allWithin ⟨(Nat.le_trans (Nat.le_of_ble_eq_true rfl) hF), (Nat.le_trans (Nat.le_of_ble_eq_true rfl) hL)⟩) (rcX1 hW) rfl hl.1 rfl (Nat.le_of_ble_eq_true rfl) dX9_like_58) hW (fun H locs hW => ?_)
          refine lv_if_ne (tgt := 70) hx hb dX9_like_61 (by decide) (fun q15 => ?_) (fun q15 => ?_)
          · have h := it_n q15 h
            refine lv_aload_n hx hb dX9_like_70 rfl (lv_at hl 1 rfl) ?_
            refine gX0_7 hC hW dX9_like_71 ?_
            refine lv_aload_n hx hb dX9_like_74 rfl (lv_at hl 1 rfl) ?_
            refine gX0_0 hC hW dX9_like_75 ?_
            refine lv_iload_n hx hb dX9_like_78 rfl (lv_at hl 2 rfl) ?_
            obtain ⟨t16, e17, h⟩ := bd h
            refine x_gov (x_rv (rest := []) hC hW (ctX37_weighBy e17) (cwV_g hC.2.2.2.2 ml_X9_277 mi_X8_weighBy md_X8_weighBy ⟨(Nat.le_trans (Nat.le_of_ble_eq_true rfl) hF), (Nat.le_trans (Nat.le_of_ble_eq_true rfl) hL)⟩) (rcX37 hW) rfl hl.1 rfl (Nat.le_of_ble_eq_true rfl) dX9_like_79) hW (fun H locs hW => ?_)
            refine lv_aload_n hx hb dX9_like_82 rfl (lv_at hl 1 rfl) ?_
            refine lv_iload_n hx hb dX9_like_83 rfl (lv_at hl 4 rfl) ?_
            obtain ⟨t18, e19, h⟩ := bd h
            refine x_goi (x_rv (rest := []) hC hW (ctX0_goThroughAll e19) (cwV_g hC.2.2.2.2 ml_X9_236 mi_X9_goThroughAll md_X9_goThroughAll ⟨(Nat.le_trans (Nat.le_of_ble_eq_true rfl) hF), (Nat.le_trans (Nat.le_of_ble_eq_true rfl) hL)⟩) (rcX0 hW) rfl hl.1 rfl (Nat.le_of_ble_eq_true rfl) dX9_like_84) hW (fun H locs hW => ?_)
            refine lv_istore (lv' := [(4, .int t18.1), (0, .ref (ad G 0)), (1, .int x1), (2, .int x2), (3, .int x3)]) hx hb dX9_like_87 hl (by decide) rfl (fun ls hl => ?_)
            refine lv_iload hx hb dX9_like_89 (lv_at hl 0 rfl) ?_
            refine lv_if_eq (tgt := 97) hx hb dX9_like_91 (by decide) (fun q20 => ?_) (fun q20 => ?_)
            · have h := it_p q20 h
              refine lv_aload_n hx hb dX9_like_97 rfl (lv_at hl 1 rfl) ?_
              refine gX0_7 hC hW dX9_like_98 ?_
              obtain ⟨t21, e22, h⟩ := bd h
              refine x_goi (x_rv (rest := []) hC hW (ctX37_fillings e22) (cwV_g hC.2.2.2.2 ml_X9_242 mi_X8_fillings md_X8_fillings ⟨(Nat.le_trans (Nat.le_of_ble_eq_true rfl) hF), (Nat.le_trans (Nat.le_of_ble_eq_true rfl) hL)⟩) (rcX37 hW) rfl hl.1 rfl (Nat.le_of_ble_eq_true rfl) dX9_like_101) hW (fun H locs hW => ?_)
              refine lv_if_ne (tgt := 110) hx hb dX9_like_104 (by decide) (fun q23 => ?_) (fun q23 => ?_)
              · have h := it_n q23 h
                refine lv_aload_n hx hb dX9_like_110 rfl (lv_at hl 1 rfl) ?_
                refine gX0_7 hC hW dX9_like_111 ?_
                refine lv_aload_n hx hb dX9_like_114 rfl (lv_at hl 1 rfl) ?_
                refine gX0_0 hC hW dX9_like_115 ?_
                refine lv_iload_n hx hb dX9_like_118 rfl (lv_at hl 3 rfl) ?_
                obtain ⟨t24, e25, h⟩ := bd h
                refine x_gov (x_rv (rest := []) hC hW (ctX37_writeLikeliest e25) (cwV_g hC.2.2.2.2 ml_X9_280 mi_X8_writeLikeliest md_X8_writeLikeliest ⟨(Nat.le_trans (Nat.le_of_ble_eq_true rfl) hF), (Nat.le_trans (Nat.le_of_ble_eq_true rfl) hL)⟩) (rcX37 hW) rfl hl.1 rfl (Nat.le_of_ble_eq_true rfl) dX9_like_119) hW (fun H locs hW => ?_)
                refine lv_aload_n hx hb dX9_like_122 rfl (lv_at hl 1 rfl) ?_
                refine gX0_7 hC hW dX9_like_123 ?_
                obtain ⟨t26, e27, h⟩ := bd h
                refine x_goi (x_rv (rest := []) hC hW (ctX37_greatestWeight e27) (cwV_g hC.2.2.2.2 ml_X9_283 mi_X8_greatestWeight md_X8_greatestWeight ⟨(Nat.le_trans (Nat.le_of_ble_eq_true rfl) hF), (Nat.le_trans (Nat.le_of_ble_eq_true rfl) hL)⟩) (rcX37 hW) rfl hl.1 rfl (Nat.le_of_ble_eq_true rfl) dX9_like_126) hW (fun H locs hW => ?_)
                cases h
                exact kr _ _ _ _ dX9_like_129 hW
              · have h := it_p q23 h
                refine lv_bipush (v := (-9)) hx hb dX9_like_107 (by decide) ?_
                cases h
                exact kr _ _ _ _ dX9_like_109 hW
            · have h := it_n q20 h
              refine lv_iload hx hb dX9_like_94 (lv_at hl 0 rfl) ?_
              cases h
              exact kr _ _ _ _ dX9_like_96 hW
          · have h := it_p q15 h
            refine lv_aload_n hx hb dX9_like_64 rfl (lv_at hl 1 rfl) ?_
            refine lv_iconst (v := 3) hx hb dX9_like_65 (by decide) ?_
            obtain ⟨t28, e29, h⟩ := bd h
            refine x_goi (x_rv (rest := []) hC hW (ctX0_found e29) (cwV_g hC.2.2.2.2 ml_X9_109 mi_X9_found md_X9_found ⟨(Nat.le_trans (Nat.le_of_ble_eq_true rfl) hF), (Nat.le_trans (Nat.le_of_ble_eq_true rfl) hL)⟩) (rcX0 hW) rfl hl.1 rfl (Nat.le_of_ble_eq_true rfl) dX9_like_66) hW (fun H locs hW => ?_)
            cases h
            exact kr _ _ _ _ dX9_like_69 hW
        · have h := it_n q12 h
          refine lv_aload_n hx hb dX9_like_44 rfl (lv_at hl 1 rfl) ?_
          refine lv_iconst (v := 5) hx hb dX9_like_45 (by decide) ?_
          obtain ⟨t30, e31, h⟩ := bd h
          refine x_goi (x_rv (rest := []) hC hW (ctX0_found e31) (cwV_g hC.2.2.2.2 ml_X9_109 mi_X9_found md_X9_found ⟨(Nat.le_trans (Nat.le_of_ble_eq_true rfl) hF), (Nat.le_trans (Nat.le_of_ble_eq_true rfl) hL)⟩) (rcX0 hW) rfl hl.1 rfl (Nat.le_of_ble_eq_true rfl) dX9_like_46) hW (fun H locs hW => ?_)
          cases h
          exact kr _ _ _ _ dX9_like_49 hW
      · have h := it_n q9 h
        refine lv_iload hx hb dX9_like_28 (lv_at hl 0 rfl) ?_
        cases h
        exact kr _ _ _ _ dX9_like_30 hW
    · have h := it_p q6 h
      refine lv_iconst (v := (-1)) hx hb dX9_like_14 (by decide) ?_
      cases h
      exact kr _ _ _ _ dX9_like_15 hW
theorem ctX0_like {N : Nat} {S : St} {x1 : Int32} {x2 : Int32} {x3 : Int32}  {v : Int32} {S' : St} (h : fX0_like N S x1 x2 x3 = some (v, S')) : Met l yX9_like (wm yX9_like cX9_like 5 (some .int)) (rmx 20 458) (pcm LX G S [.ref (ad G 0), .int x1, .int x2, .int x3]) (qcI LX G S' v) 0 0 G.2.2.2 :=
  x_enter (own := RX9) rfl rfl (Nat.le_of_ble_eq_true rfl) (fun p e s m below meth c ls hC hr hk hW hl => wX0_like hC (Nat.le_refl _) (Nat.le_refl _)  h (fun H locs ls pc hd hW => x_reti hC hr hk hW hd) _ _ _ hW hl)
def fX0_wrong_L42 (N : Nat) (x1 : Int32) (x2 : Int32) (x3 : Int32) : Nat → St → Int32 → Option ((Int32 × St) ⊕ (St))
  | 0, _, _ => none
  | n + 1, S, x4 =>
    if x2 ≤ x4 then
      some (.inr S)
    else
      Option.bind (fJs_bitCount S x4) fun t14 =>
      if t14 = x3 then
        Option.bind (fX33_narrow N S x4) fun t17 =>
        Option.bind (fX37_goTo N t17 0 x1 x4) fun t19 =>
        Option.bind (fX37_isSpent t19) fun t21 =>
        if t21 = 0 then
          Option.bind (fX37_hasReached t19) fun t24 =>
          if t24 = 0 then
            fX0_wrong_L42 N x1 x2 x3 n t19 (x4 + 1)
          else
            some (.inl (x4, t19))
        else
          some (.inl ((-6), t19))
      else
        fX0_wrong_L42 N x1 x2 x3 n S (x4 + 1)
set_option maxHeartbeats 4000000 in
set_option maxRecDepth 100000 in
theorem wX0_wrong_L42 {N : Nat} {x1 : Int32} {x2 : Int32} {x3 : Int32} (hC : CallFix p m c cX9_wrong 5 s args lw_g RX9) (hF : 19 ≤ R.frames) (hL : 437 ≤ R.locals)  {t : (Int32 × St) ⊕ (St)} (kr : ∀ r, t = .inl r → ∀ (H : Heap) (locs : List Loc) (ls : Array Slot) (pc : Nat), decode cX9_wrong pc = .ok (.ireturn, 1) → wg LX G r.2 s H locs → W p l e R s m args below meth c H locs 0 0 Q (F0 m pc ls [.int r.1])) (kx : ∀ u, t = .inr u → ∀ (H : Heap) (locs : List Loc) (ls : Array Slot), wg LX G u s H locs → lv_has ls 5 [(0, .ref (ad G 0)), (1, .int x1), (2, .int x2), (3, .int x3)] → W p l e R s m args below meth c H locs 0 0 Q (F0 m 112 ls [])) : ∀ (n : Nat) (S : St) (x4 : Int32), fX0_wrong_L42 N x1 x2 x3 n S x4 = some t → ∀ (H : Heap) (locs : List Loc) (ls : Array Slot), wg LX G S s H locs → lv_has ls 5 [(0, .ref (ad G 0)), (1, .int x1), (2, .int x2), (3, .int x3), (4, .int x4)] → W p l e R s m args below meth c H locs 0 0 Q (F0 m 42 ls []) := by
  have hx := hC.1
  have hb := hC.2.1
  intro n
  induction n with
  | zero =>
    intro _ _ h
    cases h
  | succ n ih =>
    intro S x4 h H locs ls hW hl
    rw [fX0_wrong_L42] at h
    refine lv_iload hx hb dX9_wrong_42 (lv_at hl 4 rfl) ?_
    refine lv_iload_n hx hb dX9_wrong_44 rfl (lv_at hl 2 rfl) ?_
    refine lv_icmp_ge (tgt := 112) hx hb dX9_wrong_45 (by decide) (fun q13 => ?_) (fun q13 => ?_)
    · have h := it_p q13 h
      cases h
      exact kx _ rfl _ _ _ hW (lv_sub hl [0, 1, 2, 3] rfl)
    · have h := it_n q13 h
      refine lv_iload hx hb dX9_wrong_48 (lv_at hl 4 rfl) ?_
      obtain ⟨t14, e15, h⟩ := bd h
      refine x_goi (x_rs (rest := []) hC hW (ctJs_bitCount e15) (cwS_g hC.2.2.2.2 ml_X9_286 ms_J6_bitCount_0f7a4 md_J6_bitCount_0f7a4 ⟨(Nat.le_trans (Nat.le_of_ble_eq_true rfl) hF), (Nat.le_trans (Nat.le_of_ble_eq_true rfl) hL)⟩) rfl hl.1 rfl (Nat.le_of_ble_eq_true rfl) dX9_wrong_50) hW (fun H locs hW => ?_)
      refine lv_iload_n hx hb dX9_wrong_53 rfl (lv_at hl 3 rfl) ?_
      refine lv_icmp_eq (tgt := 60) hx hb dX9_wrong_54 (by decide) (fun q16 => ?_) (fun q16 => ?_)
      · have h := it_p q16 h
        refine lv_aload_n hx hb dX9_wrong_60 rfl (lv_at hl 0 rfl) ?_
        refine gX0_6 hC hW dX9_wrong_61 ?_
        refine lv_iload hx hb dX9_wrong_64 (lv_at hl 4 rfl) ?_
        obtain ⟨t17, e18, h⟩ := bd h
        refine x_gov (x_rv (rest := []) hC hW (ctX33_narrow e18) (cwV_g hC.2.2.2.2 ml_X9_291 mi_X2_narrow md_X2_narrow ⟨(Nat.le_trans (Nat.le_of_ble_eq_true rfl) hF), (Nat.le_trans (Nat.le_of_ble_eq_true rfl) hL)⟩) (rcX33 hW) rfl hl.1 rfl (Nat.le_of_ble_eq_true rfl) dX9_wrong_66) hW (fun H locs hW => ?_)
        refine lv_aload_n hx hb dX9_wrong_69 rfl (lv_at hl 0 rfl) ?_
        refine gX0_7 hC hW dX9_wrong_70 ?_
        refine lv_iconst (v := 0) hx hb dX9_wrong_73 (by decide) ?_
        refine lv_iload_n hx hb dX9_wrong_74 rfl (lv_at hl 1 rfl) ?_
        refine lv_iload hx hb dX9_wrong_75 (lv_at hl 4 rfl) ?_
        obtain ⟨t19, e20, h⟩ := bd h
        refine x_gov (x_rv (rest := []) hC hW (ctX37_goTo e20) (cwV_g hC.2.2.2.2 ml_X9_248 mi_X8_goTo md_X8_goTo ⟨(Nat.le_trans (Nat.le_of_ble_eq_true rfl) hF), (Nat.le_trans (Nat.le_of_ble_eq_true rfl) hL)⟩) (rcX37 hW) rfl hl.1 rfl (Nat.le_of_ble_eq_true rfl) dX9_wrong_77) hW (fun H locs hW => ?_)
        refine lv_aload_n hx hb dX9_wrong_80 rfl (lv_at hl 0 rfl) ?_
        refine gX0_7 hC hW dX9_wrong_81 ?_
        obtain ⟨t21, e22, h⟩ := bd h
        refine x_goi (x_rv (rest := []) hC hW (ctX37_isSpent e22) (cwV_g hC.2.2.2.2 ml_X9_251 mi_X8_isSpent md_X8_isSpent ⟨(Nat.le_trans (Nat.le_of_ble_eq_true rfl) hF), (Nat.le_trans (Nat.le_of_ble_eq_true rfl) hL)⟩) (rcX37 hW) rfl hl.1 rfl (Nat.le_of_ble_eq_true rfl) dX9_wrong_84) hW (fun H locs hW => ?_)
        refine lv_if_eq (tgt := 93) hx hb dX9_wrong_87 (by decide) (fun q23 => ?_) (fun q23 => ?_)
        · have h := it_p q23 h
          refine lv_aload_n hx hb dX9_wrong_93 rfl (lv_at hl 0 rfl) ?_
          refine gX0_7 hC hW dX9_wrong_94 ?_
          obtain ⟨t24, e25, h⟩ := bd h
          refine x_goi (x_rv (rest := []) hC hW (ctX37_hasReached e25) (cwV_g hC.2.2.2.2 ml_X9_255 mi_X8_hasReached md_X8_hasReached ⟨(Nat.le_trans (Nat.le_of_ble_eq_true rfl) hF), (Nat.le_trans (Nat.le_of_ble_eq_true rfl) hL)⟩) (rcX37 hW) rfl hl.1 rfl (Nat.le_of_ble_eq_true rfl) dX9_wrong_97) hW (fun H locs hW => ?_)
          refine lv_if_eq (tgt := 106) hx hb dX9_wrong_100 (by decide) (fun q26 => ?_) (fun q26 => ?_)
          · have h := it_p q26 h
            refine lv_iinc (v := x4 + 1) (lv' := [(4, .int (x4 + 1)), (0, .ref (ad G 0)), (1, .int x1), (2, .int x2), (3, .int x3)]) (k := 4) hx hb dX9_wrong_106 hl rfl rfl (by decide) rfl (fun ls hl => ?_)
            refine lv_goto (tgt := 42) hx hb dX9_wrong_109 (by decide) ?_
            exact ih _ _ h _ _ _ hW (lv_sub hl [1, 2, 3, 4, 0] rfl)
          · have h := it_n q26 h
            refine lv_iload hx hb dX9_wrong_103 (lv_at hl 4 rfl) ?_
            cases h
            exact kr _ rfl _ _ _ _ dX9_wrong_105 hW
        · have h := it_n q23 h
          refine lv_bipush (v := (-6)) hx hb dX9_wrong_90 (by decide) ?_
          cases h
          exact kr _ rfl _ _ _ _ dX9_wrong_92 hW
      · have h := it_n q16 h
        refine lv_goto (tgt := 106) hx hb dX9_wrong_57 (by decide) ?_
        refine lv_iinc (v := x4 + 1) (lv' := [(4, .int (x4 + 1)), (0, .ref (ad G 0)), (1, .int x1), (2, .int x2), (3, .int x3)]) (k := 4) hx hb dX9_wrong_106 hl rfl rfl (by decide) rfl (fun ls hl => ?_)
        refine lv_goto (tgt := 42) hx hb dX9_wrong_109 (by decide) ?_
        exact ih _ _ h _ _ _ hW (lv_sub hl [1, 2, 3, 4, 0] rfl)
def fX0_wrong_L28 (N : Nat) (x1 : Int32) (x2 : Int32) : Nat → St → Int32 → Option ((Int32 × St) ⊕ (St))
  | 0, _, _ => none
  | n + 1, S, x3 =>
    Option.bind (fX29_howMany S) fun t10 =>
    if t10 < x3 then
      some (.inr S)
    else
      Option.bind (fX0_wrong_L42 N x1 x2 x3 N S 0) fun t27 => sm2 t27 fun u29 =>
      fX0_wrong_L28 N x1 x2 n u29 (x3 + 1)
set_option maxHeartbeats 4000000 in
set_option maxRecDepth 100000 in
theorem wX0_wrong_L28 {N : Nat} {x1 : Int32} {x2 : Int32} (hC : CallFix p m c cX9_wrong 5 s args lw_g RX9) (hF : 19 ≤ R.frames) (hL : 437 ≤ R.locals)  {t : (Int32 × St) ⊕ (St)} (kr : ∀ r, t = .inl r → ∀ (H : Heap) (locs : List Loc) (ls : Array Slot) (pc : Nat), decode cX9_wrong pc = .ok (.ireturn, 1) → wg LX G r.2 s H locs → W p l e R s m args below meth c H locs 0 0 Q (F0 m pc ls [.int r.1])) (kx : ∀ u, t = .inr u → ∀ (H : Heap) (locs : List Loc) (ls : Array Slot), wg LX G u s H locs → lv_has ls 5 [] → W p l e R s m args below meth c H locs 0 0 Q (F0 m 118 ls [])) : ∀ (n : Nat) (S : St) (x3 : Int32), fX0_wrong_L28 N x1 x2 n S x3 = some t → ∀ (H : Heap) (locs : List Loc) (ls : Array Slot), wg LX G S s H locs → lv_has ls 5 [(0, .ref (ad G 0)), (1, .int x1), (2, .int x2), (3, .int x3)] → W p l e R s m args below meth c H locs 0 0 Q (F0 m 28 ls []) := by
  have hx := hC.1
  have hb := hC.2.1
  intro n
  induction n with
  | zero =>
    intro _ _ h
    cases h
  | succ n ih =>
    intro S x3 h H locs ls hW hl
    rw [fX0_wrong_L28] at h
    refine lv_iload_n hx hb dX9_wrong_28 rfl (lv_at hl 3 rfl) ?_
    refine lv_aload_n hx hb dX9_wrong_29 rfl (lv_at hl 0 rfl) ?_
    refine gX0_5 hC hW dX9_wrong_30 ?_
    obtain ⟨t10, e11, h⟩ := bd h
    refine x_goi (x_rv (rest := [.int x3]) hC hW (ctX29_howMany e11) (cwV_g hC.2.2.2.2 ml_X9_175 mi_X7_howMany md_X7_howMany ⟨(Nat.le_trans (Nat.le_of_ble_eq_true rfl) hF), (Nat.le_trans (Nat.le_of_ble_eq_true rfl) hL)⟩) (rcX29 hW) rfl hl.1 rfl (Nat.le_of_ble_eq_true rfl) dX9_wrong_33) hW (fun H locs hW => ?_)
    refine lv_icmp_gt (tgt := 118) hx hb dX9_wrong_36 (by decide) (fun q12 => ?_) (fun q12 => ?_)
    · have h := it_p q12 h
      cases h
      exact kx _ rfl _ _ _ hW (lv_sub hl [] rfl)
    · have h := it_n q12 h
      refine lv_iconst (v := 0) hx hb dX9_wrong_39 (by decide) ?_
      refine lv_istore (lv' := [(4, .int 0), (0, .ref (ad G 0)), (1, .int x1), (2, .int x2), (3, .int x3)]) hx hb dX9_wrong_40 hl (by decide) rfl (fun ls hl => ?_)
      obtain ⟨t27, e28, h⟩ := bd h
      refine wX0_wrong_L42 hC hF hL  (fun r er H locs ls pc hd hW => ?_) (fun u29 eu H locs ls hW hl => ?_) _ _ _ e28 _ _ _ hW (lv_sub hl [1, 2, 3, 4, 0] rfl)
      · rw [er] at h
        have h := sm2_l h
        cases h
        exact kr _ rfl _ _ _ _ hd hW
      · rw [eu] at h
        have h := sm2_r h
        refine lv_iinc (v := x3 + 1) (lv' := [(3, .int (x3 + 1)), (0, .ref (ad G 0)), (1, .int x1), (2, .int x2)]) (k := 3) hx hb dX9_wrong_112 hl rfl rfl (by decide) rfl (fun ls hl => ?_)
        refine lv_goto (tgt := 28) hx hb dX9_wrong_115 (by decide) ?_
        exact ih _ _ h _ _ _ hW (lv_sub hl [1, 2, 3, 0] rfl)
def fX0_wrong (N : Nat) (S : St) (x1 : Int32) : Option (Int32 × St) :=
  Option.bind (fXs_isTurns S x1) fun t1 =>
  if t1 = 0 then
    some ((-1), S)
  else
    Option.bind (fX33_lookAtFirst N S) fun t4 =>
    Option.bind (fX29_howMany t4) fun t6 =>
    nx (1 <<< (t6 &&& 31)) fun y8 =>
    Option.bind (fX0_wrong_L28 N x1 y8 N t4 0) fun t30 => sm t30 fun u32 =>
    some ((-9), u32)
set_option maxHeartbeats 4000000 in
set_option maxRecDepth 100000 in
theorem wX0_wrong {N : Nat} {S : St} {x1 : Int32} (hC : CallFix p m c cX9_wrong 5 s args lw_g RX9) (hF : 19 ≤ R.frames) (hL : 437 ≤ R.locals)  {v : Int32} {S' : St} (h : fX0_wrong N S x1 = some (v, S')) (kr : ∀ (H : Heap) (locs : List Loc) (ls : Array Slot) (pc : Nat), decode cX9_wrong pc = .ok (.ireturn, 1) → wg LX G (S') s H locs → W p l e R s m args below meth c H locs 0 0 Q (F0 m pc ls [.int v])) : ∀ (H : Heap) (locs : List Loc) (ls : Array Slot), wg LX G S s H locs → lv_has ls 5 [(0, .ref (ad G 0)), (1, .int x1)] → W p l e R s m args below meth c H locs 0 0 Q (F0 m 0 ls []) := by
  have hx := hC.1
  have hb := hC.2.1
  intro H locs ls hW hl
  unfold fX0_wrong at h
  refine lv_iload_n hx hb dX9_wrong_0 rfl (lv_at hl 1 rfl) ?_
  obtain ⟨t1, e2, h⟩ := bd h
  refine x_goi (x_rs (rest := []) hC hW (ctXs_isTurns e2) (cwS_g hC.2.2.2.2 ml_X9_245 ms_X9_isTurns md_X9_isTurns ⟨(Nat.le_trans (Nat.le_of_ble_eq_true rfl) hF), (Nat.le_trans (Nat.le_of_ble_eq_true rfl) hL)⟩) rfl hl.1 rfl (Nat.le_of_ble_eq_true rfl) dX9_wrong_1) hW (fun H locs hW => ?_)
  refine lv_if_ne (tgt := 9) hx hb dX9_wrong_4 (by decide) (fun q3 => ?_) (fun q3 => ?_)
  · have h := it_n q3 h
    refine lv_aload_n hx hb dX9_wrong_9 rfl (lv_at hl 0 rfl) ?_
    refine gX0_6 hC hW dX9_wrong_10 ?_
    obtain ⟨t4, e5, h⟩ := bd h
    refine x_gov (x_rv (rest := []) hC hW (ctX33_lookAtFirst e5) (cwV_g hC.2.2.2.2 ml_X9_212 mi_X2_lookAtFirst md_X2_lookAtFirst ⟨(Nat.le_trans (Nat.le_of_ble_eq_true rfl) hF), (Nat.le_trans (Nat.le_of_ble_eq_true rfl) hL)⟩) (rcX33 hW) rfl hl.1 rfl (Nat.le_of_ble_eq_true rfl) dX9_wrong_13) hW (fun H locs hW => ?_)
    refine lv_iconst (v := 1) hx hb dX9_wrong_16 (by decide) ?_
    refine lv_aload_n hx hb dX9_wrong_17 rfl (lv_at hl 0 rfl) ?_
    refine gX0_5 hC hW dX9_wrong_18 ?_
    obtain ⟨t6, e7, h⟩ := bd h
    refine x_goi (x_rv (rest := [.int 1]) hC hW (ctX29_howMany e7) (cwV_g hC.2.2.2.2 ml_X9_175 mi_X7_howMany md_X7_howMany ⟨(Nat.le_trans (Nat.le_of_ble_eq_true rfl) hF), (Nat.le_trans (Nat.le_of_ble_eq_true rfl) hL)⟩) (rcX29 hW) rfl hl.1 rfl (Nat.le_of_ble_eq_true rfl) dX9_wrong_21) hW (fun H locs hW => ?_)
    refine lv_ishl hx hb dX9_wrong_24 ?_
    obtain ⟨y8, e9, h⟩ := nx_some h
    refine x_topi e9 ?_
    refine lv_istore_n (lv' := [(2, .int y8), (0, .ref (ad G 0)), (1, .int x1)]) hx hb dX9_wrong_25 rfl hl (by decide) rfl (fun ls hl => ?_)
    refine lv_iconst (v := 0) hx hb dX9_wrong_26 (by decide) ?_
    refine lv_istore_n (lv' := [(3, .int 0), (2, .int y8), (0, .ref (ad G 0)), (1, .int x1)]) hx hb dX9_wrong_27 rfl hl (by decide) rfl (fun ls hl => ?_)
    obtain ⟨t30, e31, h⟩ := bd h
    refine wX0_wrong_L28 hC hF hL  (fun r er H locs ls pc hd hW => ?_) (fun u32 eu H locs ls hW hl => ?_) _ _ _ e31 _ _ _ hW (lv_sub hl [2, 3, 1, 0] rfl)
    · rw [er] at h
      have h := sm_l h
      cases h
      exact kr _ _ _ _ hd hW
    · rw [eu] at h
      have h := sm_r h
      refine lv_bipush (v := (-9)) hx hb dX9_wrong_118 (by decide) ?_
      cases h
      exact kr _ _ _ _ dX9_wrong_120 hW
  · have h := it_p q3 h
    refine lv_iconst (v := (-1)) hx hb dX9_wrong_7 (by decide) ?_
    cases h
    exact kr _ _ _ _ dX9_wrong_8 hW
theorem ctX0_wrong {N : Nat} {S : St} {x1 : Int32}  {v : Int32} {S' : St} (h : fX0_wrong N S x1 = some (v, S')) : Met l yX9_wrong (wm yX9_wrong cX9_wrong 5 (some .int)) (rmx 19 437) (pcm LX G S [.ref (ad G 0), .int x1]) (qcI LX G S' v) 0 0 G.2.2.2 :=
  x_enter (own := RX9) rfl rfl (Nat.le_of_ble_eq_true rfl) (fun p e s m below meth c ls hC hr hk hW hl => wX0_wrong hC (Nat.le_refl _) (Nat.le_refl _)  h (fun H locs ls pc hd hW => x_reti hC hr hk hW hd) _ _ _ hW hl)
def fX0_next_L34 (N : Nat) (S : St)  : Nat → Int32 → Int32 → Int32 → Option (Int32 × Int32)
  | 0, _, _, _ => none
  | n + 1, x3, x4, x5 =>
    if 12 ≤ x5 then
      some (x3, x4)
    else
      Option.bind (fX25_isThere S x5) fun t8 =>
      Option.bind (α := Int32 × Int32) (
        if t8 = 0 then
          some (x3, x4)
        else
          if x3 = (-9) then
            Option.bind (fX37_worthOf N S x5) fun t15 =>
            some (x5, t15)
          else
            Option.bind (fX37_worthOf N S x5) fun t17 =>
            if x4 ≤ t17 then
              some (x3, x4)
            else
              Option.bind (fX37_worthOf N S x5) fun t20 =>
              some (x5, t20)
      ) fun t11 =>
      fX0_next_L34 N S n t11.1 t11.2 (x5 + 1)
set_option maxHeartbeats 4000000 in
set_option maxRecDepth 100000 in
theorem wX0_next_L34 {N : Nat} {S : St}  (hC : CallFix p m c cX9_next 6 s args lw_g RX9) (hF : 20 ≤ R.frames) (hL : 458 ≤ R.locals)  {t : Int32 × Int32} (kx : ∀ (H : Heap) (locs : List Loc) (ls : Array Slot), wg LX G S s H locs → lv_has ls 6 [(0, .ref (ad G 0)), (3, .int t.1), (4, .int t.2)] → W p l e R s m args below meth c H locs 0 0 Q (F0 m 93 ls [])) : ∀ (n : Nat) (x3 : Int32) (x4 : Int32) (x5 : Int32), fX0_next_L34 N S  n x3 x4 x5 = some t → ∀ (H : Heap) (locs : List Loc) (ls : Array Slot), wg LX G S s H locs → lv_has ls 6 [(0, .ref (ad G 0)), (3, .int x3), (4, .int x4), (5, .int x5)] → W p l e R s m args below meth c H locs 0 0 Q (F0 m 34 ls []) := by
  have hx := hC.1
  have hb := hC.2.1
  intro n
  induction n with
  | zero =>
    intro _ _ _ h
    cases h
  | succ n ih =>
    intro x3 x4 x5 h H locs ls hW hl
    rw [fX0_next_L34] at h
    refine lv_iload hx hb dX9_next_34 (lv_at hl 3 rfl) ?_
    refine lv_bipush (v := 12) hx hb dX9_next_36 (by decide) ?_
    refine lv_icmp_ge (tgt := 93) hx hb dX9_next_38 (by decide) (fun q7 => ?_) (fun q7 => ?_)
    · have h := it_p q7 h
      cases h
      exact kx _ _ _ hW (lv_sub hl [0, 1, 2] rfl)
    · have h := it_n q7 h
      refine lv_aload_n hx hb dX9_next_41 rfl (lv_at hl 0 rfl) ?_
      refine gX0_4 hC hW dX9_next_42 ?_
      refine lv_iload hx hb dX9_next_45 (lv_at hl 3 rfl) ?_
      obtain ⟨t8, e9, h⟩ := bd h
      refine x_goi (x_rv (rest := []) hC hW (ctX25_isThere e9) (cwV_g hC.2.2.2.2 ml_X9_273 mi_X0_isThere md_X0_isThere ⟨(Nat.le_trans (Nat.le_of_ble_eq_true rfl) hF), (Nat.le_trans (Nat.le_of_ble_eq_true rfl) hL)⟩) (rcX25 hW) rfl hl.1 rfl (Nat.le_of_ble_eq_true rfl) dX9_next_47) hW (fun H locs hW => ?_)
      obtain ⟨t11, e12, h⟩ := bd h
      have K10 : ∀ (H : Heap) (locs : List Loc) (ls : Array Slot), wg LX G S s H locs → lv_has ls 6 [(0, .ref (ad G 0)), (3, .int t11.1), (4, .int t11.2), (5, .int x5)] → W p l e R s m args below meth c H locs 0 0 Q (F0 m 87 ls []) := by
        intro H locs ls hW hl
        refine lv_iinc (v := x5 + 1) (lv' := [(5, .int (x5 + 1)), (0, .ref (ad G 0)), (3, .int t11.1), (4, .int t11.2)]) (k := 3) hx hb dX9_next_87 hl rfl rfl (by decide) rfl (fun ls hl => ?_)
        refine lv_goto (tgt := 34) hx hb dX9_next_90 (by decide) ?_
        exact ih _ _ _ h _ _ _ hW (lv_sub hl [1, 2, 3, 0] rfl)
      clear h
      have h := e12
      clear e12
      refine lv_if_eq (tgt := 87) hx hb dX9_next_50 (by decide) (fun q13 => ?_) (fun q13 => ?_)
      · have h := it_p q13 h
        cases h
        exact K10 _ _ _ hW (lv_sub hl [0, 1, 2, 3] rfl)
      · have h := it_n q13 h
        refine lv_iload_n hx hb dX9_next_53 rfl (lv_at hl 1 rfl) ?_
        refine lv_bipush (v := (-9)) hx hb dX9_next_54 (by decide) ?_
        refine lv_icmp_eq (tgt := 73) hx hb dX9_next_56 (by decide) (fun q14 => ?_) (fun q14 => ?_)
        · have h := it_p q14 h
          refine lv_iload hx hb dX9_next_73 (lv_at hl 3 rfl) ?_
          refine lv_istore_n (lv' := [(3, .int x5), (0, .ref (ad G 0)), (4, .int x4), (5, .int x5)]) hx hb dX9_next_75 rfl hl (by decide) rfl (fun ls hl => ?_)
          refine lv_aload_n hx hb dX9_next_76 rfl (lv_at hl 1 rfl) ?_
          refine gX0_7 hC hW dX9_next_77 ?_
          refine lv_iload hx hb dX9_next_80 (lv_at hl 3 rfl) ?_
          obtain ⟨t15, e16, h⟩ := bd h
          refine x_goi (x_rv (rest := []) hC hW (ctX37_worthOf e16) (cwV_g hC.2.2.2.2 ml_X9_274 mi_X8_worthOf md_X8_worthOf ⟨(Nat.le_trans (Nat.le_of_ble_eq_true rfl) hF), (Nat.le_trans (Nat.le_of_ble_eq_true rfl) hL)⟩) (rcX37 hW) rfl hl.1 rfl (Nat.le_of_ble_eq_true rfl) dX9_next_82) hW (fun H locs hW => ?_)
          refine lv_istore (lv' := [(4, .int t15), (3, .int x5), (0, .ref (ad G 0)), (5, .int x5)]) hx hb dX9_next_85 hl (by decide) rfl (fun ls hl => ?_)
          cases h
          exact K10 _ _ _ hW (lv_sub hl [2, 1, 0, 3] rfl)
        · have h := it_n q14 h
          refine lv_aload_n hx hb dX9_next_59 rfl (lv_at hl 0 rfl) ?_
          refine gX0_7 hC hW dX9_next_60 ?_
          refine lv_iload hx hb dX9_next_63 (lv_at hl 3 rfl) ?_
          obtain ⟨t17, e18, h⟩ := bd h
          refine x_goi (x_rv (rest := []) hC hW (ctX37_worthOf e18) (cwV_g hC.2.2.2.2 ml_X9_274 mi_X8_worthOf md_X8_worthOf ⟨(Nat.le_trans (Nat.le_of_ble_eq_true rfl) hF), (Nat.le_trans (Nat.le_of_ble_eq_true rfl) hL)⟩) (rcX37 hW) rfl hl.1 rfl (Nat.le_of_ble_eq_true rfl) dX9_next_65) hW (fun H locs hW => ?_)
          refine lv_iload hx hb dX9_next_68 (lv_at hl 2 rfl) ?_
          refine lv_icmp_ge (tgt := 87) hx hb dX9_next_70 (by decide) (fun q19 => ?_) (fun q19 => ?_)
          · have h := it_p q19 h
            cases h
            exact K10 _ _ _ hW (lv_sub hl [0, 1, 2, 3] rfl)
          · have h := it_n q19 h
            refine lv_iload hx hb dX9_next_73 (lv_at hl 3 rfl) ?_
            refine lv_istore_n (lv' := [(3, .int x5), (0, .ref (ad G 0)), (4, .int x4), (5, .int x5)]) hx hb dX9_next_75 rfl hl (by decide) rfl (fun ls hl => ?_)
            refine lv_aload_n hx hb dX9_next_76 rfl (lv_at hl 1 rfl) ?_
            refine gX0_7 hC hW dX9_next_77 ?_
            refine lv_iload hx hb dX9_next_80 (lv_at hl 3 rfl) ?_
            obtain ⟨t20, e21, h⟩ := bd h
            refine x_goi (x_rv (rest := []) hC hW (ctX37_worthOf e21) (cwV_g hC.2.2.2.2 ml_X9_274 mi_X8_worthOf md_X8_worthOf ⟨(Nat.le_trans (Nat.le_of_ble_eq_true rfl) hF), (Nat.le_trans (Nat.le_of_ble_eq_true rfl) hL)⟩) (rcX37 hW) rfl hl.1 rfl (Nat.le_of_ble_eq_true rfl) dX9_next_82) hW (fun H locs hW => ?_)
            refine lv_istore (lv' := [(4, .int t20), (3, .int x5), (0, .ref (ad G 0)), (5, .int x5)]) hx hb dX9_next_85 hl (by decide) rfl (fun ls hl => ?_)
            cases h
            exact K10 _ _ _ hW (lv_sub hl [2, 1, 0, 3] rfl)
def fX0_next (N : Nat) (S : St) (x1 : Int32) : Option (Int32 × St) :=
  Option.bind (fX0_goThroughAll N S x1) fun t1 =>
  if t1.1 = 0 then
    Option.bind (fX37_fillings t1.2) fun t4 =>
    if t4 = 0 then
      some ((-9), t1.2)
    else
      Option.bind (fX0_next_L34 N t1.2 N (-9) 0 0) fun t22 =>
      Option.bind (α := St) (
        if t22.1 = (-9) then
          some t1.2
        else
          nx (p1 t1.2 0 12 t22.2) fun s28 =>
          some s28
      ) fun t25 =>
      some (t22.1, t25)
  else
    some (t1.1, t1.2)
set_option maxHeartbeats 4000000 in
set_option maxRecDepth 100000 in
theorem wX0_next {N : Nat} {S : St} {x1 : Int32} (hC : CallFix p m c cX9_next 6 s args lw_g RX9) (hF : 20 ≤ R.frames) (hL : 458 ≤ R.locals)  {v : Int32} {S' : St} (h : fX0_next N S x1 = some (v, S')) (kr : ∀ (H : Heap) (locs : List Loc) (ls : Array Slot) (pc : Nat), decode cX9_next pc = .ok (.ireturn, 1) → wg LX G (S') s H locs → W p l e R s m args below meth c H locs 0 0 Q (F0 m pc ls [.int v])) : ∀ (H : Heap) (locs : List Loc) (ls : Array Slot), wg LX G S s H locs → lv_has ls 6 [(0, .ref (ad G 0)), (1, .int x1)] → W p l e R s m args below meth c H locs 0 0 Q (F0 m 0 ls []) := by
  have hx := hC.1
  have hb := hC.2.1
  intro H locs ls hW hl
  unfold fX0_next at h
  refine lv_aload_n hx hb dX9_next_0 rfl (lv_at hl 0 rfl) ?_
  refine lv_iload_n hx hb dX9_next_1 rfl (lv_at hl 1 rfl) ?_
  obtain ⟨t1, e2, h⟩ := bd h
  refine x_goi (x_rv (rest := []) hC hW (ctX0_goThroughAll e2) (cwV_g hC.2.2.2.2 ml_X9_236 mi_X9_goThroughAll md_X9_goThroughAll ⟨(Nat.le_trans (Nat.le_of_ble_eq_true rfl) hF), (Nat.le_trans (Nat.le_of_ble_eq_true rfl) hL)⟩) (rcX0 hW) rfl hl.1 rfl (Nat.le_of_ble_eq_true rfl) dX9_next_2) hW (fun H locs hW => ?_)
  refine lv_istore_n (lv' := [(2, .int t1.1), (0, .ref (ad G 0)), (1, .int x1)]) hx hb dX9_next_5 rfl hl (by decide) rfl (fun ls hl => ?_)
  refine lv_iload_n hx hb dX9_next_6 rfl (lv_at hl 0 rfl) ?_
  refine lv_if_eq (tgt := 12) hx hb dX9_next_7 (by decide) (fun q3 => ?_) (fun q3 => ?_)
  · have h := it_p q3 h
    refine lv_aload_n hx hb dX9_next_12 rfl (lv_at hl 1 rfl) ?_
    refine gX0_7 hC hW dX9_next_13 ?_
    obtain ⟨t4, e5, h⟩ := bd h
    refine x_goi (x_rv (rest := []) hC hW (ctX37_fillings e5) (cwV_g hC.2.2.2.2 ml_X9_242 mi_X8_fillings md_X8_fillings ⟨(Nat.le_trans (Nat.le_of_ble_eq_true rfl) hF), (Nat.le_trans (Nat.le_of_ble_eq_true rfl) hL)⟩) (rcX37 hW) rfl hl.1 rfl (Nat.le_of_ble_eq_true rfl) dX9_next_16) hW (fun H locs hW => ?_)
    refine lv_if_ne (tgt := 25) hx hb dX9_next_19 (by decide) (fun q6 => ?_) (fun q6 => ?_)
    · have h := it_n q6 h
      refine lv_bipush (v := (-9)) hx hb dX9_next_25 (by decide) ?_
      refine lv_istore_n (lv' := [(3, .int (-9)), (2, .int t1.1), (0, .ref (ad G 0)), (1, .int x1)]) hx hb dX9_next_27 rfl hl (by decide) rfl (fun ls hl => ?_)
      refine lv_iconst (v := 0) hx hb dX9_next_28 (by decide) ?_
      refine lv_istore (lv' := [(4, .int 0), (3, .int (-9)), (2, .int t1.1), (0, .ref (ad G 0)), (1, .int x1)]) hx hb dX9_next_29 hl (by decide) rfl (fun ls hl => ?_)
      refine lv_iconst (v := 0) hx hb dX9_next_31 (by decide) ?_
      refine lv_istore (lv' := [(5, .int 0), (4, .int 0), (3, .int (-9)), (2, .int t1.1), (0, .ref (ad G 0)), (1, .int x1)]) hx hb dX9_next_32 hl (by decide) rfl (fun ls hl => ?_)
      obtain ⟨t22, e23, h⟩ := bd h
      refine wX0_next_L34 hC hF hL  (fun H locs ls hW hl => ?_) _ _ _ _ e23 _ _ _ hW (lv_sub hl [4, 2, 1, 0] rfl)
      refine lv_iload_n hx hb dX9_next_93 rfl (lv_at hl 1 rfl) ?_
      refine lv_bipush (v := (-9)) hx hb dX9_next_94 (by decide) ?_
      obtain ⟨t25, e26, h⟩ := bd h
      have K24 : ∀ (H : Heap) (locs : List Loc) (ls : Array Slot), wg LX G t25 s H locs → lv_has ls 6 [(3, .int t22.1)] → W p l e R s m args below meth c H locs 0 0 Q (F0 m 105 ls []) := by
        intro H locs ls hW hl
        refine lv_iload_n hx hb dX9_next_105 rfl (lv_at hl 0 rfl) ?_
        cases h
        exact kr _ _ _ _ dX9_next_106 hW
      clear h
      have h := e26
      clear e26
      refine lv_icmp_eq (tgt := 105) hx hb dX9_next_96 (by decide) (fun q27 => ?_) (fun q27 => ?_)
      · have h := it_p q27 h
        cases h
        exact K24 _ _ _ hW (lv_sub hl [1] rfl)
      · have h := it_n q27 h
        refine lv_aload_n hx hb dX9_next_99 rfl (lv_at hl 0 rfl) ?_
        refine lv_iload hx hb dX9_next_100 (lv_at hl 2 rfl) ?_
        refine pX0_12 hC hW dX9_next_102 (fun H locs hW => ?_)
        obtain ⟨s28, e29, h⟩ := nx_some h
        rw [← e29] at hW
        cases h
        exact K24 _ _ _ hW (lv_sub hl [1] rfl)
    · have h := it_p q6 h
      refine lv_bipush (v := (-9)) hx hb dX9_next_22 (by decide) ?_
      cases h
      exact kr _ _ _ _ dX9_next_24 hW
  · have h := it_n q3 h
    refine lv_iload_n hx hb dX9_next_10 rfl (lv_at hl 0 rfl) ?_
    cases h
    exact kr _ _ _ _ dX9_next_11 hW
theorem ctX0_next {N : Nat} {S : St} {x1 : Int32}  {v : Int32} {S' : St} (h : fX0_next N S x1 = some (v, S')) : Met l yX9_next (wm yX9_next cX9_next 6 (some .int)) (rmx 20 458) (pcm LX G S [.ref (ad G 0), .int x1]) (qcI LX G S' v) 0 0 G.2.2.2 :=
  x_enter (own := RX9) rfl rfl (Nat.le_of_ble_eq_true rfl) (fun p e s m below meth c ls hC hr hk hW hl => wX0_next hC (Nat.le_refl _) (Nat.le_refl _)  h (fun H locs ls pc hd hW => x_reti hC hr hk hW hd) _ _ _ hW hl)
def fX1_placesOf (S : St) (x1 : Int32) : Option (Nat) :=
  gd (inb x1 6) <|
  some (3 + Int32.toNatClampNeg x1)
set_option maxHeartbeats 4000000 in
set_option maxRecDepth 100000 in
theorem wX1_placesOf {S : St} {x1 : Int32} (hC : CallFix p m c cX6_placesOf 2 s args lw_g RX6) (hF : 0 ≤ R.frames) (hL : 0 ≤ R.locals)  {v : Nat} (h : fX1_placesOf S x1 = some v) (kr : ∀ (H : Heap) (locs : List Loc) (ls : Array Slot) (pc : Nat), decode cX6_placesOf pc = .ok (.areturn, 1) → wg LX G S s H locs → W p l e R s m args below meth c H locs 0 0 Q (F0 m pc ls [.ref (ad G v)])) : ∀ (H : Heap) (locs : List Loc) (ls : Array Slot), wg LX G S s H locs → lv_has ls 2 [(0, .ref (ad G 1)), (1, .int x1)] → W p l e R s m args below meth c H locs 0 0 Q (F0 m 0 ls []) := by
  have hx := hC.1
  have hb := hC.2.1
  intro H locs ls hW hl
  unfold fX1_placesOf at h
  refine lv_aload_n hx hb dX6_placesOf_0 rfl (lv_at hl 0 rfl) ?_
  refine gX1_0 hC hW dX6_placesOf_1 ?_
  refine lv_iload_n hx hb dX6_placesOf_4 rfl (lv_at hl 1 rfl) ?_
  obtain ⟨g1, h⟩ := gd_some h
  refine x_aald hC hW oX2 g1 dX6_placesOf_5 ?_
  cases h
  exact kr _ _ _ _ dX6_placesOf_6 hW
theorem ctX1_placesOf {S : St} {x1 : Int32}  {v : Nat} (h : fX1_placesOf S x1 = some v) : Met l yX6_placesOf (wm yX6_placesOf cX6_placesOf 2 (some (.array .int))) (rmx 0 0) (pcm LX G S [.ref (ad G 1), .int x1]) (qcR LX G S v) 0 0 G.2.2.2 :=
  x_enter (own := RX6) rfl rfl (Nat.le_of_ble_eq_true rfl) (fun p e s m below meth c ls hC hr hk hW hl => wX1_placesOf hC (Nat.le_refl _) (Nat.le_refl _)  h (fun H locs ls pc hd hW => x_reta hC hr hk hW hd) _ _ _ hW hl)
theorem X1_placesOf_isA {S : St} {x1 : Int32} {v : Nat} (h : fX1_placesOf S x1 = some v) : isA LX v (lenX v) := by
  unfold fX1_placesOf at h
  obtain ⟨g, h⟩ := gd_some h
  cases h
  exact aX_rl (inb_lt g)
def fX25_isRightIn (N : Nat) (S : St) (x1 : Int32) (k2 : Nat) : Option (Int32) :=
  Option.bind (fX25_isThere S x1) fun t1 =>
  if t1 = 0 then
    gd (inb x1 (lenX k2)) <|
    Option.bind (α := Int32) (
      if (S.1 k2 (Int32.toNatClampNeg x1)) = (-1) then
        some 1
      else
        some 0
    ) fun t67 =>
    gd (isb t67) <|
    some t67
  else
    gd (inb x1 (lenX k2)) <|
    Option.bind (fXs_isNumber S (S.1 k2 (Int32.toNatClampNeg x1))) fun t5 =>
    if t5 = 0 then
      some 0
    else
      gd (inb x1 (lenX k2)) <|
      Option.bind (fX25_allows S x1 (S.1 k2 (Int32.toNatClampNeg x1))) fun t9 =>
      if t9 = 0 then
        some 0
      else
        gd (inb x1 12) <|
        if (S.1 26 (Int32.toNatClampNeg x1)) = 2 then
          gd (inb x1 12) <|
          gd (inb (S.1 28 (Int32.toNatClampNeg x1)) (lenX k2)) <|
          Option.bind (fXs_isNumber S (S.1 k2 (Int32.toNatClampNeg (S.1 28 (Int32.toNatClampNeg x1))))) fun t39 =>
          if t39 = 0 then
            some 0
          else
            gd (inb x1 12) <|
            if (S.1 26 (Int32.toNatClampNeg x1)) = 2 then
              gd (inb x1 12) <|
              gd (inb (S.1 27 (Int32.toNatClampNeg x1)) (lenX k2)) <|
              Option.bind (fXs_isNumber S (S.1 k2 (Int32.toNatClampNeg (S.1 27 (Int32.toNatClampNeg x1))))) fun t46 =>
              if t46 = 0 then
                some 0
              else
                Option.bind (fX25_holdsAmong N S x1 k2) fun t49 =>
                gd (isb t49) <|
                some t49
            else
              gd (inb x1 12) <|
              if (S.1 26 (Int32.toNatClampNeg x1)) = 4 then
                gd (inb x1 12) <|
                gd (inb (S.1 27 (Int32.toNatClampNeg x1)) (lenX k2)) <|
                Option.bind (fXs_isNumber S (S.1 k2 (Int32.toNatClampNeg (S.1 27 (Int32.toNatClampNeg x1))))) fun t59 =>
                if t59 = 0 then
                  some 0
                else
                  Option.bind (fX25_holdsAmong N S x1 k2) fun t62 =>
                  gd (isb t62) <|
                  some t62
              else
                Option.bind (fX25_holdsAmong N S x1 k2) fun t54 =>
                gd (isb t54) <|
                some t54
        else
          gd (inb x1 12) <|
          if (S.1 26 (Int32.toNatClampNeg x1)) = 2 then
            gd (inb x1 12) <|
            gd (inb (S.1 27 (Int32.toNatClampNeg x1)) (lenX k2)) <|
            Option.bind (fXs_isNumber S (S.1 k2 (Int32.toNatClampNeg (S.1 27 (Int32.toNatClampNeg x1))))) fun t18 =>
            if t18 = 0 then
              some 0
            else
              Option.bind (fX25_holdsAmong N S x1 k2) fun t21 =>
              gd (isb t21) <|
              some t21
          else
            gd (inb x1 12) <|
            if (S.1 26 (Int32.toNatClampNeg x1)) = 4 then
              gd (inb x1 12) <|
              gd (inb (S.1 27 (Int32.toNatClampNeg x1)) (lenX k2)) <|
              Option.bind (fXs_isNumber S (S.1 k2 (Int32.toNatClampNeg (S.1 27 (Int32.toNatClampNeg x1))))) fun t31 =>
              if t31 = 0 then
                some 0
              else
                Option.bind (fX25_holdsAmong N S x1 k2) fun t34 =>
                gd (isb t34) <|
                some t34
            else
              Option.bind (fX25_holdsAmong N S x1 k2) fun t26 =>
              gd (isb t26) <|
              some t26
set_option maxHeartbeats 4000000 in
set_option maxRecDepth 100000 in
theorem wX25_isRightIn {N : Nat} {S : St} {x1 : Int32} {k2 : Nat} (hC : CallFix p m c cX0_isRightIn 3 s args lw_g RX0) (hF : 2 ≤ R.frames) (hL : 46 ≤ R.locals) (ha2 : isA LX k2 (lenX k2)) {v : Int32} (h : fX25_isRightIn N S x1 k2 = some v) (kr : ∀ (H : Heap) (locs : List Loc) (ls : Array Slot) (pc : Nat), isb v = true → decode cX0_isRightIn pc = .ok (.ireturn, 1) → wg LX G S s H locs → W p l e R s m args below meth c H locs 0 0 Q (F0 m pc ls [.int v])) : ∀ (H : Heap) (locs : List Loc) (ls : Array Slot), wg LX G S s H locs → lv_has ls 3 [(0, .ref (ad G 25)), (1, .int x1), (2, .ref (ad G k2))] → W p l e R s m args below meth c H locs 0 0 Q (F0 m 0 ls []) := by
  have hx := hC.1
  have hb := hC.2.1
  intro H locs ls hW hl
  unfold fX25_isRightIn at h
  refine lv_aload_n hx hb dX0_isRightIn_0 rfl (lv_at hl 0 rfl) ?_
  refine lv_iload_n hx hb dX0_isRightIn_1 rfl (lv_at hl 1 rfl) ?_
  obtain ⟨t1, e2, h⟩ := bd h
  refine x_goi (x_rv (rest := []) hC hW (ctX25_isThere e2) (cwV_g hC.2.2.2.2 ml_X0_48 mi_X0_isThere md_X0_isThere ⟨(Nat.le_trans (Nat.le_of_ble_eq_true rfl) hF), (Nat.le_trans (Nat.le_of_ble_eq_true rfl) hL)⟩) (rcX25 hW) rfl hl.1 rfl (Nat.le_of_ble_eq_true rfl) dX0_isRightIn_2) hW (fun H locs hW => ?_)
  refine lv_if_ne (tgt := 21) hx hb dX0_isRightIn_5 (by decide) (fun q3 => ?_) (fun q3 => ?_)
  · have h := it_n q3 h
    refine lv_aload_n hx hb dX0_isRightIn_21 rfl (lv_at hl 2 rfl) ?_
    refine lv_iload_n hx hb dX0_isRightIn_22 rfl (lv_at hl 1 rfl) ?_
    obtain ⟨g4, h⟩ := gd_some h
    refine x_iald hC hW ha2 g4 dX0_isRightIn_23 ?_
    obtain ⟨t5, e6, h⟩ := bd h
    refine x_goi (x_rn (rest := []) hC hW (ctXs_isNumber e6) (cwN_g hC.2.2.2.2 hW.2.2.2.2.2 ms_X9_isNumber md_X9_isNumber ⟨(Nat.le_trans (Nat.le_of_ble_eq_true rfl) hF), (Nat.le_trans (Nat.le_of_ble_eq_true rfl) hL)⟩) rfl hl.1 rfl (Nat.le_of_ble_eq_true rfl) dX0_isRightIn_24) hW (fun H locs hW => ?_)
    refine lv_if_eq (tgt := 41) hx hb dX0_isRightIn_27 (by decide) (fun q7 => ?_) (fun q7 => ?_)
    · have h := it_p q7 h
      refine lv_iconst (v := 0) hx hb dX0_isRightIn_41 (by decide) ?_
      cases h
      exact kr _ _ _ _ rfl dX0_isRightIn_42 hW
    · have h := it_n q7 h
      refine lv_aload_n hx hb dX0_isRightIn_30 rfl (lv_at hl 0 rfl) ?_
      refine lv_iload_n hx hb dX0_isRightIn_31 rfl (lv_at hl 1 rfl) ?_
      refine lv_aload_n hx hb dX0_isRightIn_32 rfl (lv_at hl 2 rfl) ?_
      refine lv_iload_n hx hb dX0_isRightIn_33 rfl (lv_at hl 1 rfl) ?_
      obtain ⟨g8, h⟩ := gd_some h
      refine x_iald hC hW ha2 g8 dX0_isRightIn_34 ?_
      obtain ⟨t9, e10, h⟩ := bd h
      refine x_goi (x_rv (rest := []) hC hW (ctX25_allows e10) (cwV_g hC.2.2.2.2 ml_X0_68 mi_X0_allows md_X0_allows ⟨(Nat.le_trans (Nat.le_of_ble_eq_true rfl) hF), (Nat.le_trans (Nat.le_of_ble_eq_true rfl) hL)⟩) (rcX25 hW) rfl hl.1 rfl (Nat.le_of_ble_eq_true rfl) dX0_isRightIn_35) hW (fun H locs hW => ?_)
      refine lv_if_ne (tgt := 43) hx hb dX0_isRightIn_38 (by decide) (fun q11 => ?_) (fun q11 => ?_)
      · have h := it_n q11 h
        refine lv_aload_n hx hb dX0_isRightIn_43 rfl (lv_at hl 0 rfl) ?_
        refine gX25_1 hC hW dX0_isRightIn_44 ?_
        refine lv_iload_n hx hb dX0_isRightIn_47 rfl (lv_at hl 1 rfl) ?_
        obtain ⟨g12, h⟩ := gd_some h
        refine x_iald hC hW aX26 g12 dX0_isRightIn_48 ?_
        refine lv_iconst (v := 2) hx hb dX0_isRightIn_49 (by decide) ?_
        refine lv_icmp_ne (tgt := 69) hx hb dX0_isRightIn_50 (by decide) (fun q13 => ?_) (fun q13 => ?_)
        · have h := it_n q13 h
          refine lv_aload_n hx hb dX0_isRightIn_69 rfl (lv_at hl 0 rfl) ?_
          refine gX25_1 hC hW dX0_isRightIn_70 ?_
          refine lv_iload_n hx hb dX0_isRightIn_73 rfl (lv_at hl 1 rfl) ?_
          obtain ⟨g14, h⟩ := gd_some h
          refine x_iald hC hW aX26 g14 dX0_isRightIn_74 ?_
          refine lv_iconst (v := 2) hx hb dX0_isRightIn_75 (by decide) ?_
          refine lv_icmp_eq (tgt := 89) hx hb dX0_isRightIn_76 (by decide) (fun q15 => ?_) (fun q15 => ?_)
          · have h := it_p q15 h
            refine lv_aload_n hx hb dX0_isRightIn_89 rfl (lv_at hl 2 rfl) ?_
            refine lv_aload_n hx hb dX0_isRightIn_90 rfl (lv_at hl 0 rfl) ?_
            refine gX25_2 hC hW dX0_isRightIn_91 ?_
            refine lv_iload_n hx hb dX0_isRightIn_94 rfl (lv_at hl 1 rfl) ?_
            obtain ⟨g16, h⟩ := gd_some h
            refine x_iald hC hW aX27 g16 dX0_isRightIn_95 ?_
            obtain ⟨g17, h⟩ := gd_some h
            refine x_iald hC hW ha2 g17 dX0_isRightIn_96 ?_
            obtain ⟨t18, e19, h⟩ := bd h
            refine x_goi (x_rn (rest := []) hC hW (ctXs_isNumber e19) (cwN_g hC.2.2.2.2 hW.2.2.2.2.2 ms_X9_isNumber md_X9_isNumber ⟨(Nat.le_trans (Nat.le_of_ble_eq_true rfl) hF), (Nat.le_trans (Nat.le_of_ble_eq_true rfl) hL)⟩) rfl hl.1 rfl (Nat.le_of_ble_eq_true rfl) dX0_isRightIn_97) hW (fun H locs hW => ?_)
            refine lv_if_ne (tgt := 105) hx hb dX0_isRightIn_100 (by decide) (fun q20 => ?_) (fun q20 => ?_)
            · have h := it_n q20 h
              refine lv_aload_n hx hb dX0_isRightIn_105 rfl (lv_at hl 0 rfl) ?_
              refine lv_iload_n hx hb dX0_isRightIn_106 rfl (lv_at hl 1 rfl) ?_
              refine lv_aload_n hx hb dX0_isRightIn_107 rfl (lv_at hl 2 rfl) ?_
              obtain ⟨t21, e22, h⟩ := bd h
              refine x_goi (x_rv (rest := []) hC hW (ctX25_holdsAmong ha2 e22) (cwV_g hC.2.2.2.2 ml_X0_71 mi_X0_holdsAmong md_X0_holdsAmong ⟨(Nat.le_trans (Nat.le_of_ble_eq_true rfl) hF), (Nat.le_trans (Nat.le_of_ble_eq_true rfl) hL)⟩) (rcX25 hW) rfl hl.1 rfl (Nat.le_of_ble_eq_true rfl) dX0_isRightIn_108) hW (fun H locs hW => ?_)
              obtain ⟨g23, h⟩ := gd_some h
              cases h
              exact kr _ _ _ _ g23 dX0_isRightIn_111 hW
            · have h := it_p q20 h
              refine lv_iconst (v := 0) hx hb dX0_isRightIn_103 (by decide) ?_
              cases h
              exact kr _ _ _ _ rfl dX0_isRightIn_104 hW
          · have h := it_n q15 h
            refine lv_aload_n hx hb dX0_isRightIn_79 rfl (lv_at hl 0 rfl) ?_
            refine gX25_1 hC hW dX0_isRightIn_80 ?_
            refine lv_iload_n hx hb dX0_isRightIn_83 rfl (lv_at hl 1 rfl) ?_
            obtain ⟨g24, h⟩ := gd_some h
            refine x_iald hC hW aX26 g24 dX0_isRightIn_84 ?_
            refine lv_iconst (v := 4) hx hb dX0_isRightIn_85 (by decide) ?_
            refine lv_icmp_ne (tgt := 105) hx hb dX0_isRightIn_86 (by decide) (fun q25 => ?_) (fun q25 => ?_)
            · have h := it_n q25 h
              refine lv_aload_n hx hb dX0_isRightIn_105 rfl (lv_at hl 0 rfl) ?_
              refine lv_iload_n hx hb dX0_isRightIn_106 rfl (lv_at hl 1 rfl) ?_
              refine lv_aload_n hx hb dX0_isRightIn_107 rfl (lv_at hl 2 rfl) ?_
              obtain ⟨t26, e27, h⟩ := bd h
              refine x_goi (x_rv (rest := []) hC hW (ctX25_holdsAmong ha2 e27) (cwV_g hC.2.2.2.2 ml_X0_71 mi_X0_holdsAmong md_X0_holdsAmong ⟨(Nat.le_trans (Nat.le_of_ble_eq_true rfl) hF), (Nat.le_trans (Nat.le_of_ble_eq_true rfl) hL)⟩) (rcX25 hW) rfl hl.1 rfl (Nat.le_of_ble_eq_true rfl) dX0_isRightIn_108) hW (fun H locs hW => ?_)
              obtain ⟨g28, h⟩ := gd_some h
              cases h
              exact kr _ _ _ _ g28 dX0_isRightIn_111 hW
            · have h := it_p q25 h
              refine lv_aload_n hx hb dX0_isRightIn_89 rfl (lv_at hl 2 rfl) ?_
              refine lv_aload_n hx hb dX0_isRightIn_90 rfl (lv_at hl 0 rfl) ?_
              refine gX25_2 hC hW dX0_isRightIn_91 ?_
              refine lv_iload_n hx hb dX0_isRightIn_94 rfl (lv_at hl 1 rfl) ?_
              obtain ⟨g29, h⟩ := gd_some h
              refine x_iald hC hW aX27 g29 dX0_isRightIn_95 ?_
              obtain ⟨g30, h⟩ := gd_some h
              refine x_iald hC hW ha2 g30 dX0_isRightIn_96 ?_
              obtain ⟨t31, e32, h⟩ := bd h
              refine x_goi (x_rn (rest := []) hC hW (ctXs_isNumber e32) (cwN_g hC.2.2.2.2 hW.2.2.2.2.2 ms_X9_isNumber md_X9_isNumber ⟨(Nat.le_trans (Nat.le_of_ble_eq_true rfl) hF), (Nat.le_trans (Nat.le_of_ble_eq_true rfl) hL)⟩) rfl hl.1 rfl (Nat.le_of_ble_eq_true rfl) dX0_isRightIn_97) hW (fun H locs hW => ?_)
              refine lv_if_ne (tgt := 105) hx hb dX0_isRightIn_100 (by decide) (fun q33 => ?_) (fun q33 => ?_)
              · have h := it_n q33 h
                refine lv_aload_n hx hb dX0_isRightIn_105 rfl (lv_at hl 0 rfl) ?_
                refine lv_iload_n hx hb dX0_isRightIn_106 rfl (lv_at hl 1 rfl) ?_
                refine lv_aload_n hx hb dX0_isRightIn_107 rfl (lv_at hl 2 rfl) ?_
                obtain ⟨t34, e35, h⟩ := bd h
                refine x_goi (x_rv (rest := []) hC hW (ctX25_holdsAmong ha2 e35) (cwV_g hC.2.2.2.2 ml_X0_71 mi_X0_holdsAmong md_X0_holdsAmong ⟨(Nat.le_trans (Nat.le_of_ble_eq_true rfl) hF), (Nat.le_trans (Nat.le_of_ble_eq_true rfl) hL)⟩) (rcX25 hW) rfl hl.1 rfl (Nat.le_of_ble_eq_true rfl) dX0_isRightIn_108) hW (fun H locs hW => ?_)
                obtain ⟨g36, h⟩ := gd_some h
                cases h
                exact kr _ _ _ _ g36 dX0_isRightIn_111 hW
              · have h := it_p q33 h
                refine lv_iconst (v := 0) hx hb dX0_isRightIn_103 (by decide) ?_
                cases h
                exact kr _ _ _ _ rfl dX0_isRightIn_104 hW
        · have h := it_p q13 h
          refine lv_aload_n hx hb dX0_isRightIn_53 rfl (lv_at hl 2 rfl) ?_
          refine lv_aload_n hx hb dX0_isRightIn_54 rfl (lv_at hl 0 rfl) ?_
          refine gX25_3 hC hW dX0_isRightIn_55 ?_
          refine lv_iload_n hx hb dX0_isRightIn_58 rfl (lv_at hl 1 rfl) ?_
          obtain ⟨g37, h⟩ := gd_some h
          refine x_iald hC hW aX28 g37 dX0_isRightIn_59 ?_
          obtain ⟨g38, h⟩ := gd_some h
          refine x_iald hC hW ha2 g38 dX0_isRightIn_60 ?_
          obtain ⟨t39, e40, h⟩ := bd h
          refine x_goi (x_rn (rest := []) hC hW (ctXs_isNumber e40) (cwN_g hC.2.2.2.2 hW.2.2.2.2.2 ms_X9_isNumber md_X9_isNumber ⟨(Nat.le_trans (Nat.le_of_ble_eq_true rfl) hF), (Nat.le_trans (Nat.le_of_ble_eq_true rfl) hL)⟩) rfl hl.1 rfl (Nat.le_of_ble_eq_true rfl) dX0_isRightIn_61) hW (fun H locs hW => ?_)
          refine lv_if_ne (tgt := 69) hx hb dX0_isRightIn_64 (by decide) (fun q41 => ?_) (fun q41 => ?_)
          · have h := it_n q41 h
            refine lv_aload_n hx hb dX0_isRightIn_69 rfl (lv_at hl 0 rfl) ?_
            refine gX25_1 hC hW dX0_isRightIn_70 ?_
            refine lv_iload_n hx hb dX0_isRightIn_73 rfl (lv_at hl 1 rfl) ?_
            obtain ⟨g42, h⟩ := gd_some h
            refine x_iald hC hW aX26 g42 dX0_isRightIn_74 ?_
            refine lv_iconst (v := 2) hx hb dX0_isRightIn_75 (by decide) ?_
            refine lv_icmp_eq (tgt := 89) hx hb dX0_isRightIn_76 (by decide) (fun q43 => ?_) (fun q43 => ?_)
            · have h := it_p q43 h
              refine lv_aload_n hx hb dX0_isRightIn_89 rfl (lv_at hl 2 rfl) ?_
              refine lv_aload_n hx hb dX0_isRightIn_90 rfl (lv_at hl 0 rfl) ?_
              refine gX25_2 hC hW dX0_isRightIn_91 ?_
              refine lv_iload_n hx hb dX0_isRightIn_94 rfl (lv_at hl 1 rfl) ?_
              obtain ⟨g44, h⟩ := gd_some h
              refine x_iald hC hW aX27 g44 dX0_isRightIn_95 ?_
              obtain ⟨g45, h⟩ := gd_some h
              refine x_iald hC hW ha2 g45 dX0_isRightIn_96 ?_
              obtain ⟨t46, e47, h⟩ := bd h
              refine x_goi (x_rn (rest := []) hC hW (ctXs_isNumber e47) (cwN_g hC.2.2.2.2 hW.2.2.2.2.2 ms_X9_isNumber md_X9_isNumber ⟨(Nat.le_trans (Nat.le_of_ble_eq_true rfl) hF), (Nat.le_trans (Nat.le_of_ble_eq_true rfl) hL)⟩) rfl hl.1 rfl (Nat.le_of_ble_eq_true rfl) dX0_isRightIn_97) hW (fun H locs hW => ?_)
              refine lv_if_ne (tgt := 105) hx hb dX0_isRightIn_100 (by decide) (fun q48 => ?_) (fun q48 => ?_)
              · have h := it_n q48 h
                refine lv_aload_n hx hb dX0_isRightIn_105 rfl (lv_at hl 0 rfl) ?_
                refine lv_iload_n hx hb dX0_isRightIn_106 rfl (lv_at hl 1 rfl) ?_
                refine lv_aload_n hx hb dX0_isRightIn_107 rfl (lv_at hl 2 rfl) ?_
                obtain ⟨t49, e50, h⟩ := bd h
                refine x_goi (x_rv (rest := []) hC hW (ctX25_holdsAmong ha2 e50) (cwV_g hC.2.2.2.2 ml_X0_71 mi_X0_holdsAmong md_X0_holdsAmong ⟨(Nat.le_trans (Nat.le_of_ble_eq_true rfl) hF), (Nat.le_trans (Nat.le_of_ble_eq_true rfl) hL)⟩) (rcX25 hW) rfl hl.1 rfl (Nat.le_of_ble_eq_true rfl) dX0_isRightIn_108) hW (fun H locs hW => ?_)
                obtain ⟨g51, h⟩ := gd_some h
                cases h
                exact kr _ _ _ _ g51 dX0_isRightIn_111 hW
              · have h := it_p q48 h
                refine lv_iconst (v := 0) hx hb dX0_isRightIn_103 (by decide) ?_
                cases h
                exact kr _ _ _ _ rfl dX0_isRightIn_104 hW
            · have h := it_n q43 h
              refine lv_aload_n hx hb dX0_isRightIn_79 rfl (lv_at hl 0 rfl) ?_
              refine gX25_1 hC hW dX0_isRightIn_80 ?_
              refine lv_iload_n hx hb dX0_isRightIn_83 rfl (lv_at hl 1 rfl) ?_
              obtain ⟨g52, h⟩ := gd_some h
              refine x_iald hC hW aX26 g52 dX0_isRightIn_84 ?_
              refine lv_iconst (v := 4) hx hb dX0_isRightIn_85 (by decide) ?_
              refine lv_icmp_ne (tgt := 105) hx hb dX0_isRightIn_86 (by decide) (fun q53 => ?_) (fun q53 => ?_)
              · have h := it_n q53 h
                refine lv_aload_n hx hb dX0_isRightIn_105 rfl (lv_at hl 0 rfl) ?_
                refine lv_iload_n hx hb dX0_isRightIn_106 rfl (lv_at hl 1 rfl) ?_
                refine lv_aload_n hx hb dX0_isRightIn_107 rfl (lv_at hl 2 rfl) ?_
                obtain ⟨t54, e55, h⟩ := bd h
                refine x_goi (x_rv (rest := []) hC hW (ctX25_holdsAmong ha2 e55) (cwV_g hC.2.2.2.2 ml_X0_71 mi_X0_holdsAmong md_X0_holdsAmong ⟨(Nat.le_trans (Nat.le_of_ble_eq_true rfl) hF), (Nat.le_trans (Nat.le_of_ble_eq_true rfl) hL)⟩) (rcX25 hW) rfl hl.1 rfl (Nat.le_of_ble_eq_true rfl) dX0_isRightIn_108) hW (fun H locs hW => ?_)
                obtain ⟨g56, h⟩ := gd_some h
                cases h
                exact kr _ _ _ _ g56 dX0_isRightIn_111 hW
              · have h := it_p q53 h
                refine lv_aload_n hx hb dX0_isRightIn_89 rfl (lv_at hl 2 rfl) ?_
                refine lv_aload_n hx hb dX0_isRightIn_90 rfl (lv_at hl 0 rfl) ?_
                refine gX25_2 hC hW dX0_isRightIn_91 ?_
                refine lv_iload_n hx hb dX0_isRightIn_94 rfl (lv_at hl 1 rfl) ?_
                obtain ⟨g57, h⟩ := gd_some h
                refine x_iald hC hW aX27 g57 dX0_isRightIn_95 ?_
                obtain ⟨g58, h⟩ := gd_some h
                refine x_iald hC hW ha2 g58 dX0_isRightIn_96 ?_
                obtain ⟨t59, e60, h⟩ := bd h
                refine x_goi (x_rn (rest := []) hC hW (ctXs_isNumber e60) (cwN_g hC.2.2.2.2 hW.2.2.2.2.2 ms_X9_isNumber md_X9_isNumber ⟨(Nat.le_trans (Nat.le_of_ble_eq_true rfl) hF), (Nat.le_trans (Nat.le_of_ble_eq_true rfl) hL)⟩) rfl hl.1 rfl (Nat.le_of_ble_eq_true rfl) dX0_isRightIn_97) hW (fun H locs hW => ?_)
                refine lv_if_ne (tgt := 105) hx hb dX0_isRightIn_100 (by decide) (fun q61 => ?_) (fun q61 => ?_)
                · have h := it_n q61 h
                  refine lv_aload_n hx hb dX0_isRightIn_105 rfl (lv_at hl 0 rfl) ?_
                  refine lv_iload_n hx hb dX0_isRightIn_106 rfl (lv_at hl 1 rfl) ?_
                  refine lv_aload_n hx hb dX0_isRightIn_107 rfl (lv_at hl 2 rfl) ?_
                  obtain ⟨t62, e63, h⟩ := bd h
                  refine x_goi (x_rv (rest := []) hC hW (ctX25_holdsAmong ha2 e63) (cwV_g hC.2.2.2.2 ml_X0_71 mi_X0_holdsAmong md_X0_holdsAmong ⟨(Nat.le_trans (Nat.le_of_ble_eq_true rfl) hF), (Nat.le_trans (Nat.le_of_ble_eq_true rfl) hL)⟩) (rcX25 hW) rfl hl.1 rfl (Nat.le_of_ble_eq_true rfl) dX0_isRightIn_108) hW (fun H locs hW => ?_)
                  obtain ⟨g64, h⟩ := gd_some h
                  cases h
                  exact kr _ _ _ _ g64 dX0_isRightIn_111 hW
                · have h := it_p q61 h
                  refine lv_iconst (v := 0) hx hb dX0_isRightIn_103 (by decide) ?_
                  cases h
                  exact kr _ _ _ _ rfl dX0_isRightIn_104 hW
          · have h := it_p q41 h
            refine lv_iconst (v := 0) hx hb dX0_isRightIn_67 (by decide) ?_
            cases h
            exact kr _ _ _ _ rfl dX0_isRightIn_68 hW
      · have h := it_p q11 h
        refine lv_iconst (v := 0) hx hb dX0_isRightIn_41 (by decide) ?_
        cases h
        exact kr _ _ _ _ rfl dX0_isRightIn_42 hW
  · have h := it_p q3 h
    refine lv_aload_n hx hb dX0_isRightIn_8 rfl (lv_at hl 2 rfl) ?_
    refine lv_iload_n hx hb dX0_isRightIn_9 rfl (lv_at hl 1 rfl) ?_
    obtain ⟨g65, h⟩ := gd_some h
    refine x_iald hC hW ha2 g65 dX0_isRightIn_10 ?_
    refine lv_iconst (v := (-1)) hx hb dX0_isRightIn_11 (by decide) ?_
    obtain ⟨t67, e68, h⟩ := bd h
    have K66 : ∀ (H : Heap) (locs : List Loc) (ls : Array Slot), wg LX G S s H locs → lv_has ls 3 [] → W p l e R s m args below meth c H locs 0 0 Q (F0 m 20 ls [.int t67]) := by
      intro H locs ls hW hl
      obtain ⟨g70, h⟩ := gd_some h
      cases h
      exact kr _ _ _ _ g70 dX0_isRightIn_20 hW
    clear h
    have h := e68
    clear e68
    refine lv_icmp_ne (tgt := 19) hx hb dX0_isRightIn_12 (by decide) (fun q69 => ?_) (fun q69 => ?_)
    · have h := it_n q69 h
      refine lv_iconst (v := 0) hx hb dX0_isRightIn_19 (by decide) ?_
      cases h
      exact K66 _ _ _ hW (lv_sub hl [] rfl)
    · have h := it_p q69 h
      refine lv_iconst (v := 1) hx hb dX0_isRightIn_15 (by decide) ?_
      refine lv_goto (tgt := 20) hx hb dX0_isRightIn_16 (by decide) ?_
      cases h
      exact K66 _ _ _ hW (lv_sub hl [] rfl)
theorem ctX25_isRightIn {N : Nat} {S : St} {x1 : Int32} {k2 : Nat} (ha2 : isA LX k2 (lenX k2)) {v : Int32} (h : fX25_isRightIn N S x1 k2 = some v) : Met l yX0_isRightIn (wm yX0_isRightIn cX0_isRightIn 3 (some .boolean)) (rmx 2 46) (pcm LX G S [.ref (ad G 25), .int x1, .ref (ad G k2)]) (qcI LX G S v) 0 0 G.2.2.2 :=
  x_enter (own := RX0) rfl rfl (Nat.le_of_ble_eq_true rfl) (fun p e s m below meth c ls hC hr hk hW hl => wX25_isRightIn hC (Nat.le_refl _) (Nat.le_refl _) ha2 h (fun H locs ls pc hz hd hW => x_retz hC hr hk hW hz hd) _ _ _ hW hl)
end GEN
