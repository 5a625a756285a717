section GEN
variable {p : Program} {l : Launch} {e : Env} {R : Room} {s : State} {m : MethodId} {args : Array Value} {below : List Frame} {meth : Method} {c : Code} {H : Heap} {locs : List Loc} {Q : State → Prop} {G : GG}
def fX33_narrowBySum_L33 (N : Nat) (x1 : Int32) (x2 : Int32) (x3 : Int32) : Nat → St → Int32 → Option (St)
  | 0, _, _ => none
  | n + 1, S, x4 =>
    if 12 ≤ x4 then
      some S
    else
      if (S.1 33 6) = 0 then
        gd (inb x4 12) <|
        nx (S.1 35 (Int32.toNatClampNeg x4)) fun y12 =>
        gd (inb x4 12) <|
        nx (S.1 36 (Int32.toNatClampNeg x4)) fun y15 =>
        Option.bind (fX29_signOf S x1 x4) fun t17 =>
        Option.bind (α := St) (
          if t17 ≤ 0 then
            Option.bind (fX29_signOf S x1 x4) fun t23 =>
            if 0 ≤ t23 then
              some S
            else
              Option.bind (fX33_keep N S x4 (y15 - x2) (y12 - x3)) fun t26 =>
              some t26
          else
            Option.bind (fX33_keep N S x4 (x3 + y15) (x2 + y12)) fun t28 =>
            some t28
        ) fun t20 =>
        fX33_narrowBySum_L33 N x1 x2 x3 n t20 (x4 + 1)
      else
        some S
set_option maxHeartbeats 4000000 in
set_option maxRecDepth 100000 in
theorem wX33_narrowBySum_L33 {N : Nat} {x1 : Int32} {x2 : Int32} {x3 : Int32} (hC : CallFix p m c cX2_narrowBySum 7 s args lw_g RX2) (hF : 3 ≤ R.frames) (hL : 67 ≤ R.locals)  {t : St} (kx : ∀ (H : Heap) (locs : List Loc) (ls : Array Slot), wg LX G t s H locs → lv_has ls 7 [] → W p l e R s m args below meth c H locs 0 0 Q (F0 m 128 ls [])) : ∀ (n : Nat) (S : St) (x4 : Int32), fX33_narrowBySum_L33 N x1 x2 x3 n S x4 = some t → ∀ (H : Heap) (locs : List Loc) (ls : Array Slot), wg LX G S s H locs → lv_has ls 7 [(0, .ref (ad G 33)), (1, .int x1), (2, .int x2), (3, .int x3), (4, .int x4)] → W p l e R s m args below meth c H locs 0 0 Q (F0 m 33 ls []) := by
  have hx := hC.1
  have hb := hC.2.1
  intro n
  induction n with
  | zero =>
    intro _ _ h
    cases h
  | succ n ih =>
    intro S x4 h H locs ls hW hl
    rw [fX33_narrowBySum_L33] at h
    refine lv_iload hx hb dX2_narrowBySum_33 (lv_at hl 4 rfl) ?_
    refine lv_bipush (v := 12) hx hb dX2_narrowBySum_35 (by decide) ?_
    refine lv_icmp_ge (tgt := 128) hx hb dX2_narrowBySum_37 (by decide) (fun q9 => ?_) (fun q9 => ?_)
    · have h := it_p q9 h
      cases h
      exact kx _ _ _ hW (lv_sub hl [] rfl)
    · have h := it_n q9 h
      refine lv_aload_n hx hb dX2_narrowBySum_40 rfl (lv_at hl 0 rfl) ?_
      refine gX33_6 hC hW dX2_narrowBySum_41 ?_
      refine lv_if_ne (tgt := 128) hx hb dX2_narrowBySum_44 (by decide) (fun q10 => ?_) (fun q10 => ?_)
      · have h := it_n q10 h
        cases h
        exact kx _ _ _ hW (lv_sub hl [] rfl)
      · have h := it_p q10 h
        refine lv_aload_n hx hb dX2_narrowBySum_47 rfl (lv_at hl 0 rfl) ?_
        refine gX33_3 hC hW dX2_narrowBySum_48 ?_
        refine lv_iload hx hb dX2_narrowBySum_51 (lv_at hl 4 rfl) ?_
        obtain ⟨g11, h⟩ := gd_some h
        refine x_iald hC hW aX35 g11 dX2_narrowBySum_53 ?_
        obtain ⟨y12, e13, h⟩ := nx_some h
        refine x_topi e13 ?_
        refine lv_istore (lv' := [(5, .int y12), (0, .ref (ad G 33)), (1, .int x1), (2, .int x2), (3, .int x3), (4, .int x4)]) hx hb dX2_narrowBySum_54 hl (by decide) rfl (fun ls hl => ?_)
        refine lv_aload_n hx hb dX2_narrowBySum_56 rfl (lv_at hl 1 rfl) ?_
        refine gX33_4 hC hW dX2_narrowBySum_57 ?_
        refine lv_iload hx hb dX2_narrowBySum_60 (lv_at hl 5 rfl) ?_
        obtain ⟨g14, h⟩ := gd_some h
        refine x_iald hC hW aX36 g14 dX2_narrowBySum_62 ?_
        obtain ⟨y15, e16, h⟩ := nx_some h
        refine x_topi e16 ?_
        refine lv_istore (lv' := [(6, .int y15), (5, .int y12), (0, .ref (ad G 33)), (1, .int x1), (2, .int x2), (3, .int x3), (4, .int x4)]) hx hb dX2_narrowBySum_63 hl (by decide) rfl (fun ls hl => ?_)
        refine lv_aload_n hx hb dX2_narrowBySum_65 rfl (lv_at hl 2 rfl) ?_
        refine gX33_1 hC hW dX2_narrowBySum_66 ?_
        refine lv_iload_n hx hb dX2_narrowBySum_69 rfl (lv_at hl 3 rfl) ?_
        refine lv_iload hx hb dX2_narrowBySum_70 (lv_at hl 6 rfl) ?_
        obtain ⟨t17, e18, h⟩ := bd h
        refine x_goi (x_rv (rest := []) hC hW (ctX29_signOf e18) (cwV_g hC.2.2.2.2 ml_X2_80 mi_X7_signOf md_X7_signOf ⟨(Nat.le_trans (Nat.le_of_ble_eq_true rfl) hF), (Nat.le_trans (Nat.le_of_ble_eq_true rfl) hL)⟩) (rcX29 hW) rfl hl.1 rfl (Nat.le_of_ble_eq_true rfl) dX2_narrowBySum_72) hW (fun H locs hW => ?_)
        obtain ⟨t20, e21, h⟩ := bd h
        have K19 : ∀ (H : Heap) (locs : List Loc) (ls : Array Slot), wg LX G t20 s H locs → lv_has ls 7 [(0, .ref (ad G 33)), (1, .int x1), (2, .int x2), (3, .int x3), (4, .int x4)] → W p l e R s m args below meth c H locs 0 0 Q (F0 m 122 ls []) := by
          intro H locs ls hW hl
          refine lv_iinc (v := x4 + 1) (lv' := [(4, .int (x4 + 1)), (0, .ref (ad G 33)), (1, .int x1), (2, .int x2), (3, .int x3)]) (k := 4) hx hb dX2_narrowBySum_122 hl rfl rfl (by decide) rfl (fun ls hl => ?_)
          refine lv_goto (tgt := 33) hx hb dX2_narrowBySum_125 (by decide) ?_
          exact ih _ _ h _ _ _ hW (lv_sub hl [1, 2, 3, 4, 0] rfl)
        clear h
        have h := e21
        clear e21
        refine lv_if_le (tgt := 95) hx hb dX2_narrowBySum_75 (by decide) (fun q22 => ?_) (fun q22 => ?_)
        · have h := it_p q22 h
          refine lv_aload_n hx hb dX2_narrowBySum_95 rfl (lv_at hl 2 rfl) ?_
          refine gX33_1 hC hW dX2_narrowBySum_96 ?_
          refine lv_iload_n hx hb dX2_narrowBySum_99 rfl (lv_at hl 3 rfl) ?_
          refine lv_iload hx hb dX2_narrowBySum_100 (lv_at hl 6 rfl) ?_
          obtain ⟨t23, e24, h⟩ := bd h
          refine x_goi (x_rv (rest := []) hC hW (ctX29_signOf e24) (cwV_g hC.2.2.2.2 ml_X2_80 mi_X7_signOf md_X7_signOf ⟨(Nat.le_trans (Nat.le_of_ble_eq_true rfl) hF), (Nat.le_trans (Nat.le_of_ble_eq_true rfl) hL)⟩) (rcX29 hW) rfl hl.1 rfl (Nat.le_of_ble_eq_true rfl) dX2_narrowBySum_102) hW (fun H locs hW => ?_)
          refine lv_if_ge (tgt := 122) hx hb dX2_narrowBySum_105 (by decide) (fun q25 => ?_) (fun q25 => ?_)
          · have h := it_p q25 h
            cases h
            exact K19 _ _ _ hW (lv_sub hl [2, 3, 4, 5, 6] rfl)
          · have h := it_n q25 h
            refine lv_aload_n hx hb dX2_narrowBySum_108 rfl (lv_at hl 2 rfl) ?_
            refine lv_iload hx hb dX2_narrowBySum_109 (lv_at hl 6 rfl) ?_
            refine lv_iload hx hb dX2_narrowBySum_111 (lv_at hl 0 rfl) ?_
            refine lv_iload_n hx hb dX2_narrowBySum_113 rfl (lv_at hl 4 rfl) ?_
            refine lv_isub hx hb dX2_narrowBySum_114 ?_
            refine lv_iload hx hb dX2_narrowBySum_115 (lv_at hl 1 rfl) ?_
            refine lv_iload_n hx hb dX2_narrowBySum_117 rfl (lv_at hl 5 rfl) ?_
            refine lv_isub hx hb dX2_narrowBySum_118 ?_
            obtain ⟨t26, e27, h⟩ := bd h
            refine x_gov (x_rv (rest := []) hC hW (ctX33_keep e27) (cwV_g hC.2.2.2.2 ml_X2_50 mi_X2_keep md_X2_keep ⟨(Nat.le_trans (Nat.le_of_ble_eq_true rfl) hF), (Nat.le_trans (Nat.le_of_ble_eq_true rfl) hL)⟩) (rcX33 hW) rfl hl.1 rfl (Nat.le_of_ble_eq_true rfl) dX2_narrowBySum_119) hW (fun H locs hW => ?_)
            cases h
            exact K19 _ _ _ hW (lv_sub hl [2, 3, 4, 5, 6] rfl)
        · have h := it_n q22 h
          refine lv_aload_n hx hb dX2_narrowBySum_78 rfl (lv_at hl 2 rfl) ?_
          refine lv_iload hx hb dX2_narrowBySum_79 (lv_at hl 6 rfl) ?_
          refine lv_iload_n hx hb dX2_narrowBySum_81 rfl (lv_at hl 5 rfl) ?_
          refine lv_iload hx hb dX2_narrowBySum_82 (lv_at hl 0 rfl) ?_
          refine lv_iadd hx hb dX2_narrowBySum_84 ?_
          refine lv_iload_n hx hb dX2_narrowBySum_85 rfl (lv_at hl 4 rfl) ?_
          refine lv_iload hx hb dX2_narrowBySum_86 (lv_at hl 1 rfl) ?_
          refine lv_iadd hx hb dX2_narrowBySum_88 ?_
          obtain ⟨t28, e29, h⟩ := bd h
          refine x_gov (x_rv (rest := []) hC hW (ctX33_keep e29) (cwV_g hC.2.2.2.2 ml_X2_50 mi_X2_keep md_X2_keep ⟨(Nat.le_trans (Nat.le_of_ble_eq_true rfl) hF), (Nat.le_trans (Nat.le_of_ble_eq_true rfl) hL)⟩) (rcX33 hW) rfl hl.1 rfl (Nat.le_of_ble_eq_true rfl) dX2_narrowBySum_89) hW (fun H locs hW => ?_)
          refine lv_goto (tgt := 122) hx hb dX2_narrowBySum_92 (by decide) ?_
          cases h
          exact K19 _ _ _ hW (lv_sub hl [2, 3, 4, 5, 6] rfl)
def fX33_narrowBySum (N : Nat) (S : St) (x1 : Int32) : Option (St) :=
  Option.bind (fX29_totalOf S x1) fun t1 =>
  Option.bind (fX33_leastOfSum N S x1) fun t3 =>
  Option.bind (fX29_totalOf S x1) fun t5 =>
  Option.bind (fX33_greatestOfSum N S x1) fun t7 =>
  Option.bind (fX33_narrowBySum_L33 N x1 (t1 - t3) (t5 - t7) N S 0) fun t30 =>
  some t30
set_option maxHeartbeats 4000000 in
set_option maxRecDepth 100000 in
theorem wX33_narrowBySum {N : Nat} {S : St} {x1 : Int32} (hC : CallFix p m c cX2_narrowBySum 7 s args lw_g RX2) (hF : 3 ≤ R.frames) (hL : 67 ≤ R.locals)  {S' : St} (h : fX33_narrowBySum N S x1 = some (S')) (kr : ∀ (H : Heap) (locs : List Loc) (ls : Array Slot) (pc : Nat), decode cX2_narrowBySum pc = .ok (.return_, 1) → wg LX G (S') s H locs → W p l e R s m args below meth c H locs 0 0 Q (F0 m pc ls [])) : ∀ (H : Heap) (locs : List Loc) (ls : Array Slot), wg LX G S s H locs → lv_has ls 7 [(0, .ref (ad G 33)), (1, .int x1)] → W p l e R s m args below meth c H locs 0 0 Q (F0 m 0 ls []) := by
  have hx := hC.1
  have hb := hC.2.1
  intro H locs ls hW hl
  unfold fX33_narrowBySum at h
  refine lv_aload_n hx hb dX2_narrowBySum_0 rfl (lv_at hl 0 rfl) ?_
  refine gX33_1 hC hW dX2_narrowBySum_1 ?_
  refine lv_iload_n hx hb dX2_narrowBySum_4 rfl (lv_at hl 1 rfl) ?_
  obtain ⟨t1, e2, h⟩ := bd h
  refine x_goi (x_rv (rest := []) hC hW (ctX29_totalOf e2) (cwV_g hC.2.2.2.2 ml_X2_70 mi_X7_totalOf md_X7_totalOf ⟨(Nat.le_trans (Nat.le_of_ble_eq_true rfl) hF), (Nat.le_trans (Nat.le_of_ble_eq_true rfl) hL)⟩) (rcX29 hW) rfl hl.1 rfl (Nat.le_of_ble_eq_true rfl) dX2_narrowBySum_5) hW (fun H locs hW => ?_)
  refine lv_aload_n hx hb dX2_narrowBySum_8 rfl (lv_at hl 0 rfl) ?_
  refine lv_iload_n hx hb dX2_narrowBySum_9 rfl (lv_at hl 1 rfl) ?_
  obtain ⟨t3, e4, h⟩ := bd h
  refine x_goi (x_rv (rest := [.int t1]) hC hW (ctX33_leastOfSum e4) (cwV_g hC.2.2.2.2 ml_X2_74 mi_X2_leastOfSum md_X2_leastOfSum ⟨(Nat.le_trans (Nat.le_of_ble_eq_true rfl) hF), (Nat.le_trans (Nat.le_of_ble_eq_true rfl) hL)⟩) (rcX33 hW) rfl hl.1 rfl (Nat.le_of_ble_eq_true rfl) dX2_narrowBySum_10) hW (fun H locs hW => ?_)
  refine lv_isub hx hb dX2_narrowBySum_13 ?_
  refine lv_istore_n (lv' := [(2, .int (t1 - t3)), (0, .ref (ad G 33)), (1, .int x1)]) hx hb dX2_narrowBySum_14 rfl hl (by decide) rfl (fun ls hl => ?_)
  refine lv_aload_n hx hb dX2_narrowBySum_15 rfl (lv_at hl 1 rfl) ?_
  refine gX33_1 hC hW dX2_narrowBySum_16 ?_
  refine lv_iload_n hx hb dX2_narrowBySum_19 rfl (lv_at hl 2 rfl) ?_
  obtain ⟨t5, e6, h⟩ := bd h
  refine x_goi (x_rv (rest := []) hC hW (ctX29_totalOf e6) (cwV_g hC.2.2.2.2 ml_X2_70 mi_X7_totalOf md_X7_totalOf ⟨(Nat.le_trans (Nat.le_of_ble_eq_true rfl) hF), (Nat.le_trans (Nat.le_of_ble_eq_true rfl) hL)⟩) (rcX29 hW) rfl hl.1 rfl (Nat.le_of_ble_eq_true rfl) dX2_narrowBySum_20) hW (fun H locs hW => ?_)
  refine lv_aload_n hx hb dX2_narrowBySum_23 rfl (lv_at hl 1 rfl) ?_
  refine lv_iload_n hx hb dX2_narrowBySum_24 rfl (lv_at hl 2 rfl) ?_
  obtain ⟨t7, e8, h⟩ := bd h
  refine x_goi (x_rv (rest := [.int t5]) hC hW (ctX33_greatestOfSum e8) (cwV_g hC.2.2.2.2 ml_X2_77 mi_X2_greatestOfSum md_X2_greatestOfSum ⟨(Nat.le_trans (Nat.le_of_ble_eq_true rfl) hF), (Nat.le_trans (Nat.le_of_ble_eq_true rfl) hL)⟩) (rcX33 hW) rfl hl.1 rfl (Nat.le_of_ble_eq_true rfl) dX2_narrowBySum_25) hW (fun H locs hW => ?_)
  refine lv_isub hx hb dX2_narrowBySum_28 ?_
  refine lv_istore_n (lv' := [(3, .int (t5 - t7)), (2, .int (t1 - t3)), (0, .ref (ad G 33)), (1, .int x1)]) hx hb dX2_narrowBySum_29 rfl hl (by decide) rfl (fun ls hl => ?_)
  refine lv_iconst (v := 0) hx hb dX2_narrowBySum_30 (by decide) ?_
  refine lv_istore (lv' := [(4, .int 0), (3, .int (t5 - t7)), (2, .int (t1 - t3)), (0, .ref (ad G 33)), (1, .int x1)]) hx hb dX2_narrowBySum_31 hl (by decide) rfl (fun ls hl => ?_)
  obtain ⟨t30, e31, h⟩ := bd h
  refine wX33_narrowBySum_L33 hC hF hL  (fun H locs ls hW hl => ?_) _ _ _ e31 _ _ _ hW (lv_sub hl [3, 4, 2, 1, 0] rfl)
  cases h
  exact kr _ _ _ _ dX2_narrowBySum_128 hW
theorem ctX33_narrowBySum {N : Nat} {S : St} {x1 : Int32}  {S' : St} (h : fX33_narrowBySum N S x1 = some (S')) : Met l yX2_narrowBySum (wm yX2_narrowBySum cX2_narrowBySum 7 none) (rmx 3 67) (pcm LX G S [.ref (ad G 33), .int x1]) (qcV LX G S') 0 0 G.2.2.2 :=
  x_enter (own := RX2) rfl rfl (Nat.le_of_ble_eq_true rfl) (fun p e s m below meth c ls hC hr hk hW hl => wX33_narrowBySum hC (Nat.le_refl _) (Nat.le_refl _)  h (fun H locs ls pc hd hW => x_retv hC hr hk hW hd) _ _ _ hW hl)
def fX25_firstOf (S : St) (x1 : Int32) : Option (Int32) :=
  gd (inb x1 12) <|
  some (S.1 27 (Int32.toNatClampNeg x1))
set_option maxHeartbeats 4000000 in
set_option maxRecDepth 100000 in
theorem wX25_firstOf {S : St} {x1 : Int32} (hC : CallFix p m c cX0_firstOf 2 s args lw_g RX0) (hF : 0 ≤ R.frames) (hL : 0 ≤ R.locals)  {v : Int32} (h : fX25_firstOf S x1 = some v) (kr : ∀ (H : Heap) (locs : List Loc) (ls : Array Slot) (pc : Nat), decode cX0_firstOf pc = .ok (.ireturn, 1) → wg LX G S s H locs → W p l e R s m args below meth c H locs 0 0 Q (F0 m pc ls [.int v])) : ∀ (H : Heap) (locs : List Loc) (ls : Array Slot), wg LX G S s H locs → lv_has ls 2 [(0, .ref (ad G 25)), (1, .int x1)] → W p l e R s m args below meth c H locs 0 0 Q (F0 m 0 ls []) := by
  have hx := hC.1
  have hb := hC.2.1
  intro H locs ls hW hl
  unfold fX25_firstOf at h
  refine lv_aload_n hx hb dX0_firstOf_0 rfl (lv_at hl 0 rfl) ?_
  refine gX25_2 hC hW dX0_firstOf_1 ?_
  refine lv_iload_n hx hb dX0_firstOf_4 rfl (lv_at hl 1 rfl) ?_
  obtain ⟨g1, h⟩ := gd_some h
  refine x_iald hC hW aX27 g1 dX0_firstOf_5 ?_
  cases h
  exact kr _ _ _ _ dX0_firstOf_6 hW
theorem ctX25_firstOf {S : St} {x1 : Int32}  {v : Int32} (h : fX25_firstOf S x1 = some v) : Met l yX0_firstOf (wm yX0_firstOf cX0_firstOf 2 (some .int)) (rmx 0 0) (pcm LX G S [.ref (ad G 25), .int x1]) (qcI LX G S v) 0 0 G.2.2.2 :=
  x_enter (own := RX0) rfl rfl (Nat.le_of_ble_eq_true rfl) (fun p e s m below meth c ls hC hr hk hW hl => wX25_firstOf hC (Nat.le_refl _) (Nat.le_refl _)  h (fun H locs ls pc hd hW => x_reti hC hr hk hW hd) _ _ _ hW hl)
def fX33_narrowByOrder (N : Nat) (S : St) (x1 : Int32) (x2 : Int32) : Option (St) :=
  gd (inb x2 12) <|
  Option.bind (fX33_keep N S x1 ((S.1 35 (Int32.toNatClampNeg x2)) + 1) 99) fun t2 =>
  gd (inb x1 12) <|
  Option.bind (fX33_keep N t2 x2 0 ((t2.1 36 (Int32.toNatClampNeg x1)) - 1)) fun t5 =>
  some t5
set_option maxHeartbeats 4000000 in
set_option maxRecDepth 100000 in
theorem wX33_narrowByOrder {N : Nat} {S : St} {x1 : Int32} {x2 : Int32} (hC : CallFix p m c cX2_narrowByOrder 3 s args lw_g RX2) (hF : 1 ≤ R.frames) (hL : 25 ≤ R.locals)  {S' : St} (h : fX33_narrowByOrder N S x1 x2 = some (S')) (kr : ∀ (H : Heap) (locs : List Loc) (ls : Array Slot) (pc : Nat), decode cX2_narrowByOrder pc = .ok (.return_, 1) → wg LX G (S') s H locs → W p l e R s m args below meth c H locs 0 0 Q (F0 m pc ls [])) : ∀ (H : Heap) (locs : List Loc) (ls : Array Slot), wg LX G S s H locs → lv_has ls 3 [(0, .ref (ad G 33)), (1, .int x1), (2, .int x2)] → W p l e R s m args below meth c H locs 0 0 Q (F0 m 0 ls []) := by
  have hx := hC.1
  have hb := hC.2.1
  intro H locs ls hW hl
  unfold fX33_narrowByOrder at h
  refine lv_aload_n hx hb dX2_narrowByOrder_0 rfl (lv_at hl 0 rfl) ?_
  refine lv_iload_n hx hb dX2_narrowByOrder_1 rfl (lv_at hl 1 rfl) ?_
  refine lv_aload_n hx hb dX2_narrowByOrder_2 rfl (lv_at hl 0 rfl) ?_
  refine gX33_3 hC hW dX2_narrowByOrder_3 ?_
  refine lv_iload_n hx hb dX2_narrowByOrder_6 rfl (lv_at hl 2 rfl) ?_
  obtain ⟨g1, h⟩ := gd_some h
  refine x_iald hC hW aX35 g1 dX2_narrowByOrder_7 ?_
  refine lv_iconst (v := 1) hx hb dX2_narrowByOrder_8 (by decide) ?_
  refine lv_iadd hx hb dX2_narrowByOrder_9 ?_
  refine lv_bipush (v := 99) hx hb dX2_narrowByOrder_10 (by decide) ?_
  obtain ⟨t2, e3, h⟩ := bd h
  refine x_gov (x_rv (rest := []) hC hW (ctX33_keep e3) (cwV_g hC.2.2.2.2 ml_X2_50 mi_X2_keep md_X2_keep ⟨(Nat.le_trans (Nat.le_of_ble_eq_true rfl) hF), (Nat.le_trans (Nat.le_of_ble_eq_true rfl) hL)⟩) (rcX33 hW) rfl hl.1 rfl (Nat.le_of_ble_eq_true rfl) dX2_narrowByOrder_12) hW (fun H locs hW => ?_)
  refine lv_aload_n hx hb dX2_narrowByOrder_15 rfl (lv_at hl 0 rfl) ?_
  refine lv_iload_n hx hb dX2_narrowByOrder_16 rfl (lv_at hl 2 rfl) ?_
  refine lv_iconst (v := 0) hx hb dX2_narrowByOrder_17 (by decide) ?_
  refine lv_aload_n hx hb dX2_narrowByOrder_18 rfl (lv_at hl 0 rfl) ?_
  refine gX33_4 hC hW dX2_narrowByOrder_19 ?_
  refine lv_iload_n hx hb dX2_narrowByOrder_22 rfl (lv_at hl 1 rfl) ?_
  obtain ⟨g4, h⟩ := gd_some h
  refine x_iald hC hW aX36 g4 dX2_narrowByOrder_23 ?_
  refine lv_iconst (v := 1) hx hb dX2_narrowByOrder_24 (by decide) ?_
  refine lv_isub hx hb dX2_narrowByOrder_25 ?_
  obtain ⟨t5, e6, h⟩ := bd h
  refine x_gov (x_rv (rest := []) hC hW (ctX33_keep e6) (cwV_g hC.2.2.2.2 ml_X2_50 mi_X2_keep md_X2_keep ⟨(Nat.le_trans (Nat.le_of_ble_eq_true rfl) hF), (Nat.le_trans (Nat.le_of_ble_eq_true rfl) hL)⟩) (rcX33 hW) rfl hl.1 rfl (Nat.le_of_ble_eq_true rfl) dX2_narrowByOrder_26) hW (fun H locs hW => ?_)
  cases h
  exact kr _ _ _ _ dX2_narrowByOrder_29 hW
theorem ctX33_narrowByOrder {N : Nat} {S : St} {x1 : Int32} {x2 : Int32}  {S' : St} (h : fX33_narrowByOrder N S x1 x2 = some (S')) : Met l yX2_narrowByOrder (wm yX2_narrowByOrder cX2_narrowByOrder 3 none) (rmx 1 25) (pcm LX G S [.ref (ad G 33), .int x1, .int x2]) (qcV LX G S') 0 0 G.2.2.2 :=
  x_enter (own := RX2) rfl rfl (Nat.le_of_ble_eq_true rfl) (fun p e s m below meth c ls hC hr hk hW hl => wX33_narrowByOrder hC (Nat.le_refl _) (Nat.le_refl _)  h (fun H locs ls pc hd hW => x_retv hC hr hk hW hd) _ _ _ hW hl)
def fX25_secondOf (S : St) (x1 : Int32) : Option (Int32) :=
  gd (inb x1 12) <|
  some (S.1 28 (Int32.toNatClampNeg x1))
set_option maxHeartbeats 4000000 in
set_option maxRecDepth 100000 in
theorem wX25_secondOf {S : St} {x1 : Int32} (hC : CallFix p m c cX0_secondOf 2 s args lw_g RX0) (hF : 0 ≤ R.frames) (hL : 0 ≤ R.locals)  {v : Int32} (h : fX25_secondOf S x1 = some v) (kr : ∀ (H : Heap) (locs : List Loc) (ls : Array Slot) (pc : Nat), decode cX0_secondOf pc = .ok (.ireturn, 1) → wg LX G S s H locs → W p l e R s m args below meth c H locs 0 0 Q (F0 m pc ls [.int v])) : ∀ (H : Heap) (locs : List Loc) (ls : Array Slot), wg LX G S s H locs → lv_has ls 2 [(0, .ref (ad G 25)), (1, .int x1)] → W p l e R s m args below meth c H locs 0 0 Q (F0 m 0 ls []) := by
  have hx := hC.1
  have hb := hC.2.1
  intro H locs ls hW hl
  unfold fX25_secondOf at h
  refine lv_aload_n hx hb dX0_secondOf_0 rfl (lv_at hl 0 rfl) ?_
  refine gX25_3 hC hW dX0_secondOf_1 ?_
  refine lv_iload_n hx hb dX0_secondOf_4 rfl (lv_at hl 1 rfl) ?_
  obtain ⟨g1, h⟩ := gd_some h
  refine x_iald hC hW aX28 g1 dX0_secondOf_5 ?_
  cases h
  exact kr _ _ _ _ dX0_secondOf_6 hW
theorem ctX25_secondOf {S : St} {x1 : Int32}  {v : Int32} (h : fX25_secondOf S x1 = some v) : Met l yX0_secondOf (wm yX0_secondOf cX0_secondOf 2 (some .int)) (rmx 0 0) (pcm LX G S [.ref (ad G 25), .int x1]) (qcI LX G S v) 0 0 G.2.2.2 :=
  x_enter (own := RX0) rfl rfl (Nat.le_of_ble_eq_true rfl) (fun p e s m below meth c ls hC hr hk hW hl => wX25_secondOf hC (Nat.le_refl _) (Nat.le_refl _)  h (fun H locs ls pc hd hW => x_reti hC hr hk hW hd) _ _ _ hW hl)
def fXs_leastFactor (S : St) (x0 : Int32) (x1 : Int32) : Option (Int32) :=
  if 0 < x1 then
    gd (!decide (x1 = 0)) <|
    some (((x0 + x1) - 1) / x1)
  else
    Option.bind (α := Int32) (
      if x0 ≤ 0 then
        some 0
      else
        some 100
    ) fun t4 =>
    some t4
set_option maxHeartbeats 4000000 in
set_option maxRecDepth 100000 in
theorem wXs_leastFactor {S : St} {x0 : Int32} {x1 : Int32} (hC : CallFix p m c cX2_leastFactor 2 s args lw_g RX2) (hF : 0 ≤ R.frames) (hL : 0 ≤ R.locals)  {v : Int32} (h : fXs_leastFactor S x0 x1 = some v) (kr : ∀ (H : Heap) (locs : List Loc) (ls : Array Slot) (pc : Nat), decode cX2_leastFactor pc = .ok (.ireturn, 1) → wg LX G S s H locs → W p l e R s m args below meth c H locs 0 0 Q (F0 m pc ls [.int v])) : ∀ (H : Heap) (locs : List Loc) (ls : Array Slot), wg LX G S s H locs → lv_has ls 2 [(0, .int x0), (1, .int x1)] → W p l e R s m args below meth c H locs 0 0 Q (F0 m 0 ls []) := by
  have hx := hC.1
  have hb := hC.2.1
  intro H locs ls hW hl
  unfold fXs_leastFactor at h
  refine lv_iload_n hx hb dX2_leastFactor_0 rfl (lv_at hl 1 rfl) ?_
  refine lv_if_gt (tgt := 15) hx hb dX2_leastFactor_1 (by decide) (fun q1 => ?_) (fun q1 => ?_)
  · have h := it_p q1 h
    refine lv_iload_n hx hb dX2_leastFactor_15 rfl (lv_at hl 0 rfl) ?_
    refine lv_iload_n hx hb dX2_leastFactor_16 rfl (lv_at hl 1 rfl) ?_
    refine lv_iadd hx hb dX2_leastFactor_17 ?_
    refine lv_iconst (v := 1) hx hb dX2_leastFactor_18 (by decide) ?_
    refine lv_isub hx hb dX2_leastFactor_19 ?_
    refine lv_iload_n hx hb dX2_leastFactor_20 rfl (lv_at hl 1 rfl) ?_
    obtain ⟨g2, h⟩ := gd_some h
    refine lv_idiv hx hb dX2_leastFactor_21 (nd0 g2) ?_
    cases h
    exact kr _ _ _ _ dX2_leastFactor_22 hW
  · have h := it_n q1 h
    refine lv_iload_n hx hb dX2_leastFactor_4 rfl (lv_at hl 0 rfl) ?_
    obtain ⟨t4, e5, h⟩ := bd h
    have K3 : ∀ (H : Heap) (locs : List Loc) (ls : Array Slot), wg LX G S s H locs → lv_has ls 2 [] → W p l e R s m args below meth c H locs 0 0 Q (F0 m 14 ls [.int t4]) := by
      intro H locs ls hW hl
      cases h
      exact kr _ _ _ _ dX2_leastFactor_14 hW
    clear h
    have h := e5
    clear e5
    refine lv_if_le (tgt := 13) hx hb dX2_leastFactor_5 (by decide) (fun q6 => ?_) (fun q6 => ?_)
    · have h := it_p q6 h
      refine lv_iconst (v := 0) hx hb dX2_leastFactor_13 (by decide) ?_
      cases h
      exact K3 _ _ _ hW (lv_sub hl [] rfl)
    · have h := it_n q6 h
      refine lv_bipush (v := 100) hx hb dX2_leastFactor_8 (by decide) ?_
      refine lv_goto (tgt := 14) hx hb dX2_leastFactor_10 (by decide) ?_
      cases h
      exact K3 _ _ _ hW (lv_sub hl [] rfl)
theorem ctXs_leastFactor {S : St} {x0 : Int32} {x1 : Int32}  {v : Int32} (h : fXs_leastFactor S x0 x1 = some v) : Met l yX2_leastFactor (wm yX2_leastFactor cX2_leastFactor 2 (some .int)) (rmx 0 0) (pcm LX G S [.int x0, .int x1]) (qcI LX G S v) 0 0 G.2.2.2 :=
  x_enter (own := RX2) rfl rfl (Nat.le_of_ble_eq_true rfl) (fun p e s m below meth c ls hC hr hk hW hl => wXs_leastFactor hC (Nat.le_refl _) (Nat.le_refl _)  h (fun H locs ls pc hd hW => x_reti hC hr hk hW hd) _ _ _ hW hl)
def fXs_greatestFactor (S : St) (x0 : Int32) (x1 : Int32) : Option (Int32) :=
  Option.bind (α := Int32) (
    if 0 < x1 then
      gd (!decide (x1 = 0)) <|
      some (x0 / x1)
    else
      some 99
  ) fun t2 =>
  some t2
set_option maxHeartbeats 4000000 in
set_option maxRecDepth 100000 in
theorem wXs_greatestFactor {S : St} {x0 : Int32} {x1 : Int32} (hC : CallFix p m c cX2_greatestFactor 2 s args lw_g RX2) (hF : 0 ≤ R.frames) (hL : 0 ≤ R.locals)  {v : Int32} (h : fXs_greatestFactor S x0 x1 = some v) (kr : ∀ (H : Heap) (locs : List Loc) (ls : Array Slot) (pc : Nat), decode cX2_greatestFactor pc = .ok (.ireturn, 1) → wg LX G S s H locs → W p l e R s m args below meth c H locs 0 0 Q (F0 m pc ls [.int v])) : ∀ (H : Heap) (locs : List Loc) (ls : Array Slot), wg LX G S s H locs → lv_has ls 2 [(0, .int x0), (1, .int x1)] → W p l e R s m args below meth c H locs 0 0 Q (F0 m 0 ls []) := by
  have hx := hC.1
  have hb := hC.2.1
  intro H locs ls hW hl
  unfold fXs_greatestFactor at h
  refine lv_iload_n hx hb dX2_greatestFactor_0 rfl (lv_at hl 1 rfl) ?_
  obtain ⟨t2, e3, h⟩ := bd h
  have K1 : ∀ (H : Heap) (locs : List Loc) (ls : Array Slot), wg LX G S s H locs → lv_has ls 2 [] → W p l e R s m args below meth c H locs 0 0 Q (F0 m 12 ls [.int t2]) := by
    intro H locs ls hW hl
    cases h
    exact kr _ _ _ _ dX2_greatestFactor_12 hW
  clear h
  have h := e3
  clear e3
  refine lv_if_gt (tgt := 9) hx hb dX2_greatestFactor_1 (by decide) (fun q4 => ?_) (fun q4 => ?_)
  · have h := it_p q4 h
    refine lv_iload_n hx hb dX2_greatestFactor_9 rfl (lv_at hl 0 rfl) ?_
    refine lv_iload_n hx hb dX2_greatestFactor_10 rfl (lv_at hl 1 rfl) ?_
    obtain ⟨g5, h⟩ := gd_some h
    refine lv_idiv hx hb dX2_greatestFactor_11 (nd0 g5) ?_
    cases h
    exact K1 _ _ _ hW (lv_sub hl [] rfl)
  · have h := it_n q4 h
    refine lv_bipush (v := 99) hx hb dX2_greatestFactor_4 (by decide) ?_
    refine lv_goto (tgt := 12) hx hb dX2_greatestFactor_6 (by decide) ?_
    cases h
    exact K1 _ _ _ hW (lv_sub hl [] rfl)
theorem ctXs_greatestFactor {S : St} {x0 : Int32} {x1 : Int32}  {v : Int32} (h : fXs_greatestFactor S x0 x1 = some v) : Met l yX2_greatestFactor (wm yX2_greatestFactor cX2_greatestFactor 2 (some .int)) (rmx 0 0) (pcm LX G S [.int x0, .int x1]) (qcI LX G S v) 0 0 G.2.2.2 :=
  x_enter (own := RX2) rfl rfl (Nat.le_of_ble_eq_true rfl) (fun p e s m below meth c ls hC hr hk hW hl => wXs_greatestFactor hC (Nat.le_refl _) (Nat.le_refl _)  h (fun H locs ls pc hd hW => x_reti hC hr hk hW hd) _ _ _ hW hl)
def fX33_narrowFactor (N : Nat) (S : St) (x1 : Int32) (x2 : Int32) (x3 : Int32) : Option (St) :=
  if (S.1 33 6) = 0 then
    gd (inb x1 12) <|
    gd (inb x3 12) <|
    Option.bind (fXs_leastFactor S (S.1 35 (Int32.toNatClampNeg x1)) (S.1 36 (Int32.toNatClampNeg x3))) fun t4 =>
    gd (inb x1 12) <|
    gd (inb x3 12) <|
    Option.bind (fXs_greatestFactor S (S.1 36 (Int32.toNatClampNeg x1)) (S.1 35 (Int32.toNatClampNeg x3))) fun t8 =>
    Option.bind (fX33_keep N S x2 t4 t8) fun t10 =>
    some t10
  else
    some S
set_option maxHeartbeats 4000000 in
set_option maxRecDepth 100000 in
theorem wX33_narrowFactor {N : Nat} {S : St} {x1 : Int32} {x2 : Int32} {x3 : Int32} (hC : CallFix p m c cX2_narrowFactor 6 s args lw_g RX2) (hF : 1 ≤ R.frames) (hL : 25 ≤ R.locals)  {S' : St} (h : fX33_narrowFactor N S x1 x2 x3 = some (S')) (kr : ∀ (H : Heap) (locs : List Loc) (ls : Array Slot) (pc : Nat), decode cX2_narrowFactor pc = .ok (.return_, 1) → wg LX G (S') s H locs → W p l e R s m args below meth c H locs 0 0 Q (F0 m pc ls [])) : ∀ (H : Heap) (locs : List Loc) (ls : Array Slot), wg LX G S s H locs → lv_has ls 6 [(0, .ref (ad G 33)), (1, .int x1), (2, .int x2), (3, .int x3)] → W p l e R s m args below meth c H locs 0 0 Q (F0 m 0 ls []) := by
  have hx := hC.1
  have hb := hC.2.1
  intro H locs ls hW hl
  unfold fX33_narrowFactor at h
  refine lv_aload_n hx hb dX2_narrowFactor_0 rfl (lv_at hl 0 rfl) ?_
  refine gX33_6 hC hW dX2_narrowFactor_1 ?_
  refine lv_if_eq (tgt := 8) hx hb dX2_narrowFactor_4 (by decide) (fun q1 => ?_) (fun q1 => ?_)
  · have h := it_p q1 h
    refine lv_aload_n hx hb dX2_narrowFactor_8 rfl (lv_at hl 0 rfl) ?_
    refine gX33_3 hC hW dX2_narrowFactor_9 ?_
    refine lv_iload_n hx hb dX2_narrowFactor_12 rfl (lv_at hl 1 rfl) ?_
    obtain ⟨g2, h⟩ := gd_some h
    refine x_iald hC hW aX35 g2 dX2_narrowFactor_13 ?_
    refine lv_aload_n hx hb dX2_narrowFactor_14 rfl (lv_at hl 0 rfl) ?_
    refine gX33_4 hC hW dX2_narrowFactor_15 ?_
    refine lv_iload_n hx hb dX2_narrowFactor_18 rfl (lv_at hl 3 rfl) ?_
    obtain ⟨g3, h⟩ := gd_some h
    refine x_iald hC hW aX36 g3 dX2_narrowFactor_19 ?_
    obtain ⟨t4, e5, h⟩ := bd h
    refine x_goi (x_rs (rest := []) hC hW (ctXs_leastFactor e5) (cwS_g hC.2.2.2.2 ml_X2_103 ms_X2_leastFactor md_X2_leastFactor ⟨(Nat.le_trans (Nat.le_of_ble_eq_true rfl) hF), (Nat.le_trans (Nat.le_of_ble_eq_true rfl) hL)⟩) rfl hl.1 rfl (Nat.le_of_ble_eq_true rfl) dX2_narrowFactor_20) hW (fun H locs hW => ?_)
    refine lv_istore (lv' := [(4, .int t4), (0, .ref (ad G 33)), (1, .int x1), (2, .int x2), (3, .int x3)]) hx hb dX2_narrowFactor_23 hl (by decide) rfl (fun ls hl => ?_)
    refine lv_aload_n hx hb dX2_narrowFactor_25 rfl (lv_at hl 1 rfl) ?_
    refine gX33_4 hC hW dX2_narrowFactor_26 ?_
    refine lv_iload_n hx hb dX2_narrowFactor_29 rfl (lv_at hl 2 rfl) ?_
    obtain ⟨g6, h⟩ := gd_some h
    refine x_iald hC hW aX36 g6 dX2_narrowFactor_30 ?_
    refine lv_aload_n hx hb dX2_narrowFactor_31 rfl (lv_at hl 1 rfl) ?_
    refine gX33_3 hC hW dX2_narrowFactor_32 ?_
    refine lv_iload_n hx hb dX2_narrowFactor_35 rfl (lv_at hl 4 rfl) ?_
    obtain ⟨g7, h⟩ := gd_some h
    refine x_iald hC hW aX35 g7 dX2_narrowFactor_36 ?_
    obtain ⟨t8, e9, h⟩ := bd h
    refine x_goi (x_rs (rest := []) hC hW (ctXs_greatestFactor e9) (cwS_g hC.2.2.2.2 ml_X2_106 ms_X2_greatestFactor md_X2_greatestFactor ⟨(Nat.le_trans (Nat.le_of_ble_eq_true rfl) hF), (Nat.le_trans (Nat.le_of_ble_eq_true rfl) hL)⟩) rfl hl.1 rfl (Nat.le_of_ble_eq_true rfl) dX2_narrowFactor_37) hW (fun H locs hW => ?_)
    refine lv_istore (lv' := [(5, .int t8), (4, .int t4), (0, .ref (ad G 33)), (1, .int x1), (2, .int x2), (3, .int x3)]) hx hb dX2_narrowFactor_40 hl (by decide) rfl (fun ls hl => ?_)
    refine lv_aload_n hx hb dX2_narrowFactor_42 rfl (lv_at hl 2 rfl) ?_
    refine lv_iload_n hx hb dX2_narrowFactor_43 rfl (lv_at hl 4 rfl) ?_
    refine lv_iload hx hb dX2_narrowFactor_44 (lv_at hl 1 rfl) ?_
    refine lv_iload hx hb dX2_narrowFactor_46 (lv_at hl 0 rfl) ?_
    obtain ⟨t10, e11, h⟩ := bd h
    refine x_gov (x_rv (rest := []) hC hW (ctX33_keep e11) (cwV_g hC.2.2.2.2 ml_X2_50 mi_X2_keep md_X2_keep ⟨(Nat.le_trans (Nat.le_of_ble_eq_true rfl) hF), (Nat.le_trans (Nat.le_of_ble_eq_true rfl) hL)⟩) (rcX33 hW) rfl hl.1 rfl (Nat.le_of_ble_eq_true rfl) dX2_narrowFactor_48) hW (fun H locs hW => ?_)
    cases h
    exact kr _ _ _ _ dX2_narrowFactor_51 hW
  · have h := it_n q1 h
    cases h
    exact kr _ _ _ _ dX2_narrowFactor_7 hW
theorem ctX33_narrowFactor {N : Nat} {S : St} {x1 : Int32} {x2 : Int32} {x3 : Int32}  {S' : St} (h : fX33_narrowFactor N S x1 x2 x3 = some (S')) : Met l yX2_narrowFactor (wm yX2_narrowFactor cX2_narrowFactor 6 none) (rmx 1 25) (pcm LX G S [.ref (ad G 33), .int x1, .int x2, .int x3]) (qcV LX G S') 0 0 G.2.2.2 :=
  x_enter (own := RX2) rfl rfl (Nat.le_of_ble_eq_true rfl) (fun p e s m below meth c ls hC hr hk hW hl => wX33_narrowFactor hC (Nat.le_refl _) (Nat.le_refl _)  h (fun H locs ls pc hd hW => x_retv hC hr hk hW hd) _ _ _ hW hl)
def fX33_narrowByProduct (N : Nat) (S : St) (x1 : Int32) (x2 : Int32) (x3 : Int32) : Option (St) :=
  gd (inb x2 12) <|
  gd (inb x3 12) <|
  gd (inb x2 12) <|
  gd (inb x3 12) <|
  Option.bind (fX33_keep N S x1 ((S.1 35 (Int32.toNatClampNeg x2)) * (S.1 35 (Int32.toNatClampNeg x3))) ((S.1 36 (Int32.toNatClampNeg x2)) * (S.1 36 (Int32.toNatClampNeg x3)))) fun t5 =>
  Option.bind (fX33_narrowFactor N t5 x1 x2 x3) fun t7 =>
  Option.bind (fX33_narrowFactor N t7 x1 x3 x2) fun t9 =>
  some t9
set_option maxHeartbeats 4000000 in
set_option maxRecDepth 100000 in
theorem wX33_narrowByProduct {N : Nat} {S : St} {x1 : Int32} {x2 : Int32} {x3 : Int32} (hC : CallFix p m c cX2_narrowByProduct 4 s args lw_g RX2) (hF : 2 ≤ R.frames) (hL : 50 ≤ R.locals)  {S' : St} (h : fX33_narrowByProduct N S x1 x2 x3 = some (S')) (kr : ∀ (H : Heap) (locs : List Loc) (ls : Array Slot) (pc : Nat), decode cX2_narrowByProduct pc = .ok (.return_, 1) → wg LX G (S') s H locs → W p l e R s m args below meth c H locs 0 0 Q (F0 m pc ls [])) : ∀ (H : Heap) (locs : List Loc) (ls : Array Slot), wg LX G S s H locs → lv_has ls 4 [(0, .ref (ad G 33)), (1, .int x1), (2, .int x2), (3, .int x3)] → W p l e R s m args below meth c H locs 0 0 Q (F0 m 0 ls []) := by
  have hx := hC.1
  have hb := hC.2.1
  intro H locs ls hW hl
  unfold fX33_narrowByProduct at h
  refine lv_aload_n hx hb dX2_narrowByProduct_0 rfl (lv_at hl 0 rfl) ?_
  refine lv_iload_n hx hb dX2_narrowByProduct_1 rfl (lv_at hl 1 rfl) ?_
  refine lv_aload_n hx hb dX2_narrowByProduct_2 rfl (lv_at hl 0 rfl) ?_
  refine gX33_3 hC hW dX2_narrowByProduct_3 ?_
  refine lv_iload_n hx hb dX2_narrowByProduct_6 rfl (lv_at hl 2 rfl) ?_
  obtain ⟨g1, h⟩ := gd_some h
  refine x_iald hC hW aX35 g1 dX2_narrowByProduct_7 ?_
  refine lv_aload_n hx hb dX2_narrowByProduct_8 rfl (lv_at hl 0 rfl) ?_
  refine gX33_3 hC hW dX2_narrowByProduct_9 ?_
  refine lv_iload_n hx hb dX2_narrowByProduct_12 rfl (lv_at hl 3 rfl) ?_
  obtain ⟨g2, h⟩ := gd_some h
  refine x_iald hC hW aX35 g2 dX2_narrowByProduct_13 ?_
  refine lv_imul hx hb dX2_narrowByProduct_14 ?_
  refine lv_aload_n hx hb dX2_narrowByProduct_15 rfl (lv_at hl 0 rfl) ?_
  refine gX33_4 hC hW dX2_narrowByProduct_16 ?_
  refine lv_iload_n hx hb dX2_narrowByProduct_19 rfl (lv_at hl 2 rfl) ?_
  obtain ⟨g3, h⟩ := gd_some h
  refine x_iald hC hW aX36 g3 dX2_narrowByProduct_20 ?_
  refine lv_aload_n hx hb dX2_narrowByProduct_21 rfl (lv_at hl 0 rfl) ?_
  refine gX33_4 hC hW dX2_narrowByProduct_22 ?_
  refine lv_iload_n hx hb dX2_narrowByProduct_25 rfl (lv_at hl 3 rfl) ?_
  obtain ⟨g4, h⟩ := gd_some h
  refine x_iald hC hW aX36 g4 dX2_narrowByProduct_26 ?_
  refine lv_imul hx hb dX2_narrowByProduct_27 ?_
  obtain ⟨t5, e6, h⟩ := bd h
  refine x_gov (x_rv (rest := []) hC hW (ctX33_keep e6) (cwV_g hC.2.2.2.2 ml_X2_50 mi_X2_keep md_X2_keep ⟨(Nat.le_trans (Nat.le_of_ble_eq_true rfl) hF), (Nat.le_trans (Nat.le_of_ble_eq_true rfl) hL)⟩) (rcX33 hW) rfl hl.1 rfl (Nat.le_of_ble_eq_true rfl) dX2_narrowByProduct_28) hW (fun H locs hW => ?_)
  refine lv_aload_n hx hb dX2_narrowByProduct_31 rfl (lv_at hl 0 rfl) ?_
  refine lv_iload_n hx hb dX2_narrowByProduct_32 rfl (lv_at hl 1 rfl) ?_
  refine lv_iload_n hx hb dX2_narrowByProduct_33 rfl (lv_at hl 2 rfl) ?_
  refine lv_iload_n hx hb dX2_narrowByProduct_34 rfl (lv_at hl 3 rfl) ?_
  obtain ⟨t7, e8, h⟩ := bd h
  refine x_gov (x_rv (rest := []) hC hW (ctX33_narrowFactor e8) (cwV_g hC.2.2.2.2 ml_X2_100 mi_X2_narrowFactor md_X2_narrowFactor ⟨(Nat.le_trans (Nat.le_of_ble_eq_true rfl) hF), (Nat.le_trans (Nat.le_of_ble_eq_true rfl) hL)⟩) (rcX33 hW) rfl hl.1 rfl (Nat.le_of_ble_eq_true rfl) dX2_narrowByProduct_35) hW (fun H locs hW => ?_)
  refine lv_aload_n hx hb dX2_narrowByProduct_38 rfl (lv_at hl 0 rfl) ?_
  refine lv_iload_n hx hb dX2_narrowByProduct_39 rfl (lv_at hl 1 rfl) ?_
  refine lv_iload_n hx hb dX2_narrowByProduct_40 rfl (lv_at hl 3 rfl) ?_
  refine lv_iload_n hx hb dX2_narrowByProduct_41 rfl (lv_at hl 2 rfl) ?_
  obtain ⟨t9, e10, h⟩ := bd h
  refine x_gov (x_rv (rest := []) hC hW (ctX33_narrowFactor e10) (cwV_g hC.2.2.2.2 ml_X2_100 mi_X2_narrowFactor md_X2_narrowFactor ⟨(Nat.le_trans (Nat.le_of_ble_eq_true rfl) hF), (Nat.le_trans (Nat.le_of_ble_eq_true rfl) hL)⟩) (rcX33 hW) rfl hl.1 rfl (Nat.le_of_ble_eq_true rfl) dX2_narrowByProduct_42) hW (fun H locs hW => ?_)
  cases h
  exact kr _ _ _ _ dX2_narrowByProduct_45 hW
theorem ctX33_narrowByProduct {N : Nat} {S : St} {x1 : Int32} {x2 : Int32} {x3 : Int32}  {S' : St} (h : fX33_narrowByProduct N S x1 x2 x3 = some (S')) : Met l yX2_narrowByProduct (wm yX2_narrowByProduct cX2_narrowByProduct 4 none) (rmx 2 50) (pcm LX G S [.ref (ad G 33), .int x1, .int x2, .int x3]) (qcV LX G S') 0 0 G.2.2.2 :=
  x_enter (own := RX2) rfl rfl (Nat.le_of_ble_eq_true rfl) (fun p e s m below meth c ls hC hr hk hW hl => wX33_narrowByProduct hC (Nat.le_refl _) (Nat.le_refl _)  h (fun H locs ls pc hd hW => x_retv hC hr hk hW hd) _ _ _ hW hl)
def fX33_narrowByRules_L2 (N : Nat)  : Nat → St → Int32 → Option (St)
  | 0, _, _ => none
  | n + 1, S, x1 =>
    if 12 ≤ x1 then
      some S
    else
      if (S.1 33 6) = 0 then
        Option.bind (fX25_kindOf S x1) fun t3 =>
        Option.bind (α := St) (
          if t3 = 2 then
            Option.bind (fX25_firstOf S x1) fun t16 =>
            Option.bind (fX25_secondOf S x1) fun t18 =>
            Option.bind (fX33_narrowByProduct N S x1 t16 t18) fun t20 =>
            some t20
          else
            Option.bind (fX25_kindOf S x1) fun t9 =>
            if t9 = 4 then
              Option.bind (fX25_firstOf S x1) fun t12 =>
              Option.bind (fX33_narrowByOrder N S x1 t12) fun t14 =>
              some t14
            else
              some S
        ) fun t6 =>
        fX33_narrowByRules_L2 N n t6 (x1 + 1)
      else
        some S
set_option maxHeartbeats 4000000 in
set_option maxRecDepth 100000 in
theorem wX33_narrowByRules_L2 {N : Nat}  (hC : CallFix p m c cX2_narrowByRules 2 s args lw_g RX2) (hF : 3 ≤ R.frames) (hL : 73 ≤ R.locals)  {t : St} (kx : ∀ (H : Heap) (locs : List Loc) (ls : Array Slot), wg LX G t s H locs → lv_has ls 2 [] → W p l e R s m args below meth c H locs 0 0 Q (F0 m 82 ls [])) : ∀ (n : Nat) (S : St) (x1 : Int32), fX33_narrowByRules_L2 N  n S x1 = some t → ∀ (H : Heap) (locs : List Loc) (ls : Array Slot), wg LX G S s H locs → lv_has ls 2 [(0, .ref (ad G 33)), (1, .int x1)] → W p l e R s m args below meth c H locs 0 0 Q (F0 m 2 ls []) := by
  have hx := hC.1
  have hb := hC.2.1
  intro n
  induction n with
  | zero =>
    intro _ _ h
    cases h
  | succ n ih =>
    intro S x1 h H locs ls hW hl
    rw [fX33_narrowByRules_L2] at h
    refine lv_iload_n hx hb dX2_narrowByRules_2 rfl (lv_at hl 1 rfl) ?_
    refine lv_bipush (v := 12) hx hb dX2_narrowByRules_3 (by decide) ?_
    refine lv_icmp_ge (tgt := 82) hx hb dX2_narrowByRules_5 (by decide) (fun q1 => ?_) (fun q1 => ?_)
    · have h := it_p q1 h
      cases h
      exact kx _ _ _ hW (lv_sub hl [] rfl)
    · have h := it_n q1 h
      refine lv_aload_n hx hb dX2_narrowByRules_8 rfl (lv_at hl 0 rfl) ?_
      refine gX33_6 hC hW dX2_narrowByRules_9 ?_
      refine lv_if_ne (tgt := 82) hx hb dX2_narrowByRules_12 (by decide) (fun q2 => ?_) (fun q2 => ?_)
      · have h := it_n q2 h
        cases h
        exact kx _ _ _ hW (lv_sub hl [] rfl)
      · have h := it_p q2 h
        refine lv_aload_n hx hb dX2_narrowByRules_15 rfl (lv_at hl 0 rfl) ?_
        refine gX33_0 hC hW dX2_narrowByRules_16 ?_
        refine lv_iload_n hx hb dX2_narrowByRules_19 rfl (lv_at hl 1 rfl) ?_
        obtain ⟨t3, e4, h⟩ := bd h
        refine x_goi (x_rv (rest := []) hC hW (ctX25_kindOf e4) (cwV_g hC.2.2.2.2 ml_X2_84 mi_X0_kindOf md_X0_kindOf ⟨(Nat.le_trans (Nat.le_of_ble_eq_true rfl) hF), (Nat.le_trans (Nat.le_of_ble_eq_true rfl) hL)⟩) (rcX25 hW) rfl hl.1 rfl (Nat.le_of_ble_eq_true rfl) dX2_narrowByRules_20) hW (fun H locs hW => ?_)
        refine lv_iconst (v := 2) hx hb dX2_narrowByRules_23 (by decide) ?_
        obtain ⟨t6, e7, h⟩ := bd h
        have K5 : ∀ (H : Heap) (locs : List Loc) (ls : Array Slot), wg LX G t6 s H locs → lv_has ls 2 [(0, .ref (ad G 33)), (1, .int x1)] → W p l e R s m args below meth c H locs 0 0 Q (F0 m 76 ls []) := by
          intro H locs ls hW hl
          refine lv_iinc (v := x1 + 1) (lv' := [(1, .int (x1 + 1)), (0, .ref (ad G 33))]) (k := 1) hx hb dX2_narrowByRules_76 hl rfl rfl (by decide) rfl (fun ls hl => ?_)
          refine lv_goto (tgt := 2) hx hb dX2_narrowByRules_79 (by decide) ?_
          exact ih _ _ h _ _ _ hW (lv_sub hl [1, 0] rfl)
        clear h
        have h := e7
        clear e7
        refine lv_icmp_ne (tgt := 51) hx hb dX2_narrowByRules_24 (by decide) (fun q8 => ?_) (fun q8 => ?_)
        · have h := it_n q8 h
          refine lv_aload_n hx hb dX2_narrowByRules_51 rfl (lv_at hl 0 rfl) ?_
          refine gX33_0 hC hW dX2_narrowByRules_52 ?_
          refine lv_iload_n hx hb dX2_narrowByRules_55 rfl (lv_at hl 1 rfl) ?_
          obtain ⟨t9, e10, h⟩ := bd h
          refine x_goi (x_rv (rest := []) hC hW (ctX25_kindOf e10) (cwV_g hC.2.2.2.2 ml_X2_84 mi_X0_kindOf md_X0_kindOf ⟨(Nat.le_trans (Nat.le_of_ble_eq_true rfl) hF), (Nat.le_trans (Nat.le_of_ble_eq_true rfl) hL)⟩) (rcX25 hW) rfl hl.1 rfl (Nat.le_of_ble_eq_true rfl) dX2_narrowByRules_56) hW (fun H locs hW => ?_)
          refine lv_iconst (v := 4) hx hb dX2_narrowByRules_59 (by decide) ?_
          refine lv_icmp_ne (tgt := 76) hx hb dX2_narrowByRules_60 (by decide) (fun q11 => ?_) (fun q11 => ?_)
          · have h := it_n q11 h
            cases h
            exact K5 _ _ _ hW (lv_sub hl [0, 1] rfl)
          · have h := it_p q11 h
            refine lv_aload_n hx hb dX2_narrowByRules_63 rfl (lv_at hl 0 rfl) ?_
            refine lv_iload_n hx hb dX2_narrowByRules_64 rfl (lv_at hl 1 rfl) ?_
            refine lv_aload_n hx hb dX2_narrowByRules_65 rfl (lv_at hl 0 rfl) ?_
            refine gX33_0 hC hW dX2_narrowByRules_66 ?_
            refine lv_iload_n hx hb dX2_narrowByRules_69 rfl (lv_at hl 1 rfl) ?_
            obtain ⟨t12, e13, h⟩ := bd h
            refine x_goi (x_rv (rest := [.int x1, .ref (ad G 33)]) hC hW (ctX25_firstOf e13) (cwV_g hC.2.2.2.2 ml_X2_87 mi_X0_firstOf md_X0_firstOf ⟨(Nat.le_trans (Nat.le_of_ble_eq_true rfl) hF), (Nat.le_trans (Nat.le_of_ble_eq_true rfl) hL)⟩) (rcX25 hW) rfl hl.1 rfl (Nat.le_of_ble_eq_true rfl) dX2_narrowByRules_70) hW (fun H locs hW => ?_)
            obtain ⟨t14, e15, h⟩ := bd h
            refine x_gov (x_rv (rest := []) hC hW (ctX33_narrowByOrder e15) (cwV_g hC.2.2.2.2 ml_X2_96 mi_X2_narrowByOrder md_X2_narrowByOrder ⟨(Nat.le_trans (Nat.le_of_ble_eq_true rfl) hF), (Nat.le_trans (Nat.le_of_ble_eq_true rfl) hL)⟩) (rcX33 hW) rfl hl.1 rfl (Nat.le_of_ble_eq_true rfl) dX2_narrowByRules_73) hW (fun H locs hW => ?_)
            cases h
            exact K5 _ _ _ hW (lv_sub hl [0, 1] rfl)
        · have h := it_p q8 h
          refine lv_aload_n hx hb dX2_narrowByRules_27 rfl (lv_at hl 0 rfl) ?_
          refine lv_iload_n hx hb dX2_narrowByRules_28 rfl (lv_at hl 1 rfl) ?_
          refine lv_aload_n hx hb dX2_narrowByRules_29 rfl (lv_at hl 0 rfl) ?_
          refine gX33_0 hC hW dX2_narrowByRules_30 ?_
          refine lv_iload_n hx hb dX2_narrowByRules_33 rfl (lv_at hl 1 rfl) ?_
          obtain ⟨t16, e17, h⟩ := bd h
          refine x_goi (x_rv (rest := [.int x1, .ref (ad G 33)]) hC hW (ctX25_firstOf e17) (cwV_g hC.2.2.2.2 ml_X2_87 mi_X0_firstOf md_X0_firstOf ⟨(Nat.le_trans (Nat.le_of_ble_eq_true rfl) hF), (Nat.le_trans (Nat.le_of_ble_eq_true rfl) hL)⟩) (rcX25 hW) rfl hl.1 rfl (Nat.le_of_ble_eq_true rfl) dX2_narrowByRules_34) hW (fun H locs hW => ?_)
          refine lv_aload_n hx hb dX2_narrowByRules_37 rfl (lv_at hl 0 rfl) ?_
          refine gX33_0 hC hW dX2_narrowByRules_38 ?_
          refine lv_iload_n hx hb dX2_narrowByRules_41 rfl (lv_at hl 1 rfl) ?_
          obtain ⟨t18, e19, h⟩ := bd h
          refine x_goi (x_rv (rest := [.int t16, .int x1, .ref (ad G 33)]) hC hW (ctX25_secondOf e19) (cwV_g hC.2.2.2.2 ml_X2_90 mi_X0_secondOf md_X0_secondOf ⟨(Nat.le_trans (Nat.le_of_ble_eq_true rfl) hF), (Nat.le_trans (Nat.le_of_ble_eq_true rfl) hL)⟩) (rcX25 hW) rfl hl.1 rfl (Nat.le_of_ble_eq_true rfl) dX2_narrowByRules_42) hW (fun H locs hW => ?_)
          obtain ⟨t20, e21, h⟩ := bd h
          refine x_gov (x_rv (rest := []) hC hW (ctX33_narrowByProduct e21) (cwV_g hC.2.2.2.2 ml_X2_93 mi_X2_narrowByProduct md_X2_narrowByProduct ⟨(Nat.le_trans (Nat.le_of_ble_eq_true rfl) hF), (Nat.le_trans (Nat.le_of_ble_eq_true rfl) hL)⟩) (rcX33 hW) rfl hl.1 rfl (Nat.le_of_ble_eq_true rfl) dX2_narrowByRules_45) hW (fun H locs hW => ?_)
          refine lv_goto (tgt := 76) hx hb dX2_narrowByRules_48 (by decide) ?_
          cases h
          exact K5 _ _ _ hW (lv_sub hl [0, 1] rfl)
def fX33_narrowByRules (N : Nat) (S : St)  : Option (St) :=
  Option.bind (fX33_narrowByRules_L2 N N S 0) fun t22 =>
  some t22
set_option maxHeartbeats 4000000 in
set_option maxRecDepth 100000 in
theorem wX33_narrowByRules {N : Nat} {S : St}  (hC : CallFix p m c cX2_narrowByRules 2 s args lw_g RX2) (hF : 3 ≤ R.frames) (hL : 73 ≤ R.locals)  {S' : St} (h : fX33_narrowByRules N S = some (S')) (kr : ∀ (H : Heap) (locs : List Loc) (ls : Array Slot) (pc : Nat), decode cX2_narrowByRules pc = .ok (.return_, 1) → wg LX G (S') s H locs → W p l e R s m args below meth c H locs 0 0 Q (F0 m pc ls [])) : ∀ (H : Heap) (locs : List Loc) (ls : Array Slot), wg LX G S s H locs → lv_has ls 2 [(0, .ref (ad G 33))] → W p l e R s m args below meth c H locs 0 0 Q (F0 m 0 ls []) := by
  have hx := hC.1
  have hb := hC.2.1
  intro H locs ls hW hl
  unfold fX33_narrowByRules at h
  refine lv_iconst (v := 0) hx hb dX2_narrowByRules_0 (by decide) ?_
  refine lv_istore_n (lv' := [(1, .int 0), (0, .ref (ad G 33))]) hx hb dX2_narrowByRules_1 rfl hl (by decide) rfl (fun ls hl => ?_)
  obtain ⟨t22, e23, h⟩ := bd h
  refine wX33_narrowByRules_L2 hC hF hL  (fun H locs ls hW hl => ?_) _ _ _ e23 _ _ _ hW (lv_sub hl [1, 0] rfl)
  cases h
  exact kr _ _ _ _ dX2_narrowByRules_82 hW
theorem ctX33_narrowByRules {N : Nat} {S : St}   {S' : St} (h : fX33_narrowByRules N S = some (S')) : Met l yX2_narrowByRules (wm yX2_narrowByRules cX2_narrowByRules 2 none) (rmx 3 73) (pcm LX G S [.ref (ad G 33)]) (qcV LX G S') 0 0 G.2.2.2 :=
  x_enter (own := RX2) rfl rfl (Nat.le_of_ble_eq_true rfl) (fun p e s m below meth c ls hC hr hk hW hl => wX33_narrowByRules hC (Nat.le_refl _) (Nat.le_refl _)  h (fun H locs ls pc hd hW => x_retv hC hr hk hW hd) _ _ _ hW hl)
def fX33_leaveNothing_L2 (N : Nat)  : Nat → St → Int32 → Option (St)
  | 0, _, _ => none
  | n + 1, S, x1 =>
    if 12 ≤ x1 then
      some S
    else
      gd (inb x1 12) <|
      nx (p1 S 35 (Int32.toNatClampNeg x1) 100) fun s3 =>
      gd (inb x1 12) <|
      nx (p1 s3 36 (Int32.toNatClampNeg x1) (-1)) fun s6 =>
      fX33_leaveNothing_L2 N n s6 (x1 + 1)
set_option maxHeartbeats 4000000 in
set_option maxRecDepth 100000 in
theorem wX33_leaveNothing_L2 {N : Nat}  (hC : CallFix p m c cX2_leaveNothing 2 s args lw_g RX2) (hF : 0 ≤ R.frames) (hL : 0 ≤ R.locals)  {t : St} (kx : ∀ (H : Heap) (locs : List Loc) (ls : Array Slot), wg LX G t s H locs → lv_has ls 2 [] → W p l e R s m args below meth c H locs 0 0 Q (F0 m 29 ls [])) : ∀ (n : Nat) (S : St) (x1 : Int32), fX33_leaveNothing_L2 N  n S x1 = some t → ∀ (H : Heap) (locs : List Loc) (ls : Array Slot), wg LX G S s H locs → lv_has ls 2 [(0, .ref (ad G 33)), (1, .int x1)] → W p l e R s m args below meth c H locs 0 0 Q (F0 m 2 ls []) := by
  have hx := hC.1
  have hb := hC.2.1
  intro n
  induction n with
  | zero =>
    intro _ _ h
    cases h
  | succ n ih =>
    intro S x1 h H locs ls hW hl
    rw [fX33_leaveNothing_L2] at h
    refine lv_iload_n hx hb dX2_leaveNothing_2 rfl (lv_at hl 1 rfl) ?_
    refine lv_bipush (v := 12) hx hb dX2_leaveNothing_3 (by decide) ?_
    refine lv_icmp_ge (tgt := 29) hx hb dX2_leaveNothing_5 (by decide) (fun q1 => ?_) (fun q1 => ?_)
    · have h := it_p q1 h
      cases h
      exact kx _ _ _ hW (lv_sub hl [] rfl)
    · have h := it_n q1 h
      refine lv_aload_n hx hb dX2_leaveNothing_8 rfl (lv_at hl 0 rfl) ?_
      refine gX33_3 hC hW dX2_leaveNothing_9 ?_
      refine lv_iload_n hx hb dX2_leaveNothing_12 rfl (lv_at hl 1 rfl) ?_
      refine lv_bipush (v := 100) hx hb dX2_leaveNothing_13 (by decide) ?_
      obtain ⟨g2, h⟩ := gd_some h
      refine x_iast hC hW aX35 g2 dX2_leaveNothing_15 (fun H locs hW => ?_)
      obtain ⟨s3, e4, h⟩ := nx_some h
      rw [← e4] at hW
      refine lv_aload_n hx hb dX2_leaveNothing_16 rfl (lv_at hl 0 rfl) ?_
      refine gX33_4 hC hW dX2_leaveNothing_17 ?_
      refine lv_iload_n hx hb dX2_leaveNothing_20 rfl (lv_at hl 1 rfl) ?_
      refine lv_iconst (v := (-1)) hx hb dX2_leaveNothing_21 (by decide) ?_
      obtain ⟨g5, h⟩ := gd_some h
      refine x_iast hC hW aX36 g5 dX2_leaveNothing_22 (fun H locs hW => ?_)
      obtain ⟨s6, e7, h⟩ := nx_some h
      rw [← e7] at hW
      refine lv_iinc (v := x1 + 1) (lv' := [(1, .int (x1 + 1)), (0, .ref (ad G 33))]) (k := 1) hx hb dX2_leaveNothing_23 hl rfl rfl (by decide) rfl (fun ls hl => ?_)
      refine lv_goto (tgt := 2) hx hb dX2_leaveNothing_26 (by decide) ?_
      exact ih _ _ h _ _ _ hW (lv_sub hl [1, 0] rfl)
def fX33_leaveNothing (N : Nat) (S : St)  : Option (St) :=
  Option.bind (fX33_leaveNothing_L2 N N S 0) fun t8 =>
  some t8
set_option maxHeartbeats 4000000 in
set_option maxRecDepth 100000 in
theorem wX33_leaveNothing {N : Nat} {S : St}  (hC : CallFix p m c cX2_leaveNothing 2 s args lw_g RX2) (hF : 0 ≤ R.frames) (hL : 0 ≤ R.locals)  {S' : St} (h : fX33_leaveNothing N S = some (S')) (kr : ∀ (H : Heap) (locs : List Loc) (ls : Array Slot) (pc : Nat), decode cX2_leaveNothing pc = .ok (.return_, 1) → wg LX G (S') s H locs → W p l e R s m args below meth c H locs 0 0 Q (F0 m pc ls [])) : ∀ (H : Heap) (locs : List Loc) (ls : Array Slot), wg LX G S s H locs → lv_has ls 2 [(0, .ref (ad G 33))] → W p l e R s m args below meth c H locs 0 0 Q (F0 m 0 ls []) := by
  have hx := hC.1
  have hb := hC.2.1
  intro H locs ls hW hl
  unfold fX33_leaveNothing at h
  refine lv_iconst (v := 0) hx hb dX2_leaveNothing_0 (by decide) ?_
  refine lv_istore_n (lv' := [(1, .int 0), (0, .ref (ad G 33))]) hx hb dX2_leaveNothing_1 rfl hl (by decide) rfl (fun ls hl => ?_)
  obtain ⟨t8, e9, h⟩ := bd h
  refine wX33_leaveNothing_L2 hC hF hL  (fun H locs ls hW hl => ?_) _ _ _ e9 _ _ _ hW (lv_sub hl [1, 0] rfl)
  cases h
  exact kr _ _ _ _ dX2_leaveNothing_29 hW
theorem ctX33_leaveNothing {N : Nat} {S : St}   {S' : St} (h : fX33_leaveNothing N S = some (S')) : Met l yX2_leaveNothing (wm yX2_leaveNothing cX2_leaveNothing 2 none) (rmx 0 0) (pcm LX G S [.ref (ad G 33)]) (qcV LX G S') 0 0 G.2.2.2 :=
  x_enter (own := RX2) rfl rfl (Nat.le_of_ble_eq_true rfl) (fun p e s m below meth c ls hC hr hk hW hl => wX33_leaveNothing hC (Nat.le_refl _) (Nat.le_refl _)  h (fun H locs ls pc hd hW => x_retv hC hr hk hW hd) _ _ _ hW hl)
def fX33_narrow_L39 (N : Nat) (x1 : Int32) (x2 : Int32) : Nat → St → Int32 → Option (St)
  | 0, _, _ => none
  | n + 1, S, x3 =>
    Option.bind (fX29_howMany S) fun t10 =>
    if t10 ≤ x3 then
      some S
    else
      Option.bind (α := St) (
        if ((x1 >>> (x3 &&& 31)) &&& 1) = 0 then
          Option.bind (fX33_narrowBySum N S x3) fun t17 =>
          some t17
        else
          some S
      ) fun t14 =>
      fX33_narrow_L39 N x1 x2 n t14 (x3 + 1)
set_option maxHeartbeats 4000000 in
set_option maxRecDepth 100000 in
theorem wX33_narrow_L39 {N : Nat} {x1 : Int32} {x2 : Int32} (hC : CallFix p m c cX2_narrow 4 s args lw_g RX2) (hF : 4 ≤ R.frames) (hL : 94 ≤ R.locals)  {t : St} (kx : ∀ (H : Heap) (locs : List Loc) (ls : Array Slot), wg LX G t s H locs → lv_has ls 4 [(0, .ref (ad G 33)), (1, .int x1), (2, .int x2)] → W p l e R s m args below meth c H locs 0 0 Q (F0 m 69 ls [])) : ∀ (n : Nat) (S : St) (x3 : Int32), fX33_narrow_L39 N x1 x2 n S x3 = some t → ∀ (H : Heap) (locs : List Loc) (ls : Array Slot), wg LX G S s H locs → lv_has ls 4 [(0, .ref (ad G 33)), (1, .int x1), (2, .int x2), (3, .int x3)] → W p l e R s m args below meth c H locs 0 0 Q (F0 m 39 ls []) := by
  have hx := hC.1
  have hb := hC.2.1
  intro n
  induction n with
  | zero =>
    intro _ _ h
    cases h
  | succ n ih =>
    intro S x3 h H locs ls hW hl
    rw [fX33_narrow_L39] at h
    refine lv_iload_n hx hb dX2_narrow_39 rfl (lv_at hl 3 rfl) ?_
    refine lv_aload_n hx hb dX2_narrow_40 rfl (lv_at hl 0 rfl) ?_
    refine gX33_1 hC hW dX2_narrow_41 ?_
    obtain ⟨t10, e11, h⟩ := bd h
    refine x_goi (x_rv (rest := [.int x3]) hC hW (ctX29_howMany e11) (cwV_g hC.2.2.2.2 ml_X2_54 mi_X7_howMany md_X7_howMany ⟨(Nat.le_trans (Nat.le_of_ble_eq_true rfl) hF), (Nat.le_trans (Nat.le_of_ble_eq_true rfl) hL)⟩) (rcX29 hW) rfl hl.1 rfl (Nat.le_of_ble_eq_true rfl) dX2_narrow_44) hW (fun H locs hW => ?_)
    refine lv_icmp_ge (tgt := 69) hx hb dX2_narrow_47 (by decide) (fun q12 => ?_) (fun q12 => ?_)
    · have h := it_p q12 h
      cases h
      exact kx _ _ _ hW (lv_sub hl [0, 1, 2] rfl)
    · have h := it_n q12 h
      refine lv_iload_n hx hb dX2_narrow_50 rfl (lv_at hl 1 rfl) ?_
      refine lv_iload_n hx hb dX2_narrow_51 rfl (lv_at hl 3 rfl) ?_
      refine lv_ishr hx hb dX2_narrow_52 ?_
      refine lv_iconst (v := 1) hx hb dX2_narrow_53 (by decide) ?_
      refine lv_iand hx hb dX2_narrow_54 ?_
      obtain ⟨t14, e15, h⟩ := bd h
      have K13 : ∀ (H : Heap) (locs : List Loc) (ls : Array Slot), wg LX G t14 s H locs → lv_has ls 4 [(0, .ref (ad G 33)), (1, .int x1), (2, .int x2), (3, .int x3)] → W p l e R s m args below meth c H locs 0 0 Q (F0 m 63 ls []) := by
        intro H locs ls hW hl
        refine lv_iinc (v := x3 + 1) (lv' := [(3, .int (x3 + 1)), (0, .ref (ad G 33)), (1, .int x1), (2, .int x2)]) (k := 3) hx hb dX2_narrow_63 hl rfl rfl (by decide) rfl (fun ls hl => ?_)
        refine lv_goto (tgt := 39) hx hb dX2_narrow_66 (by decide) ?_
        exact ih _ _ h _ _ _ hW (lv_sub hl [1, 2, 3, 0] rfl)
      clear h
      have h := e15
      clear e15
      refine lv_if_ne (tgt := 63) hx hb dX2_narrow_55 (by decide) (fun q16 => ?_) (fun q16 => ?_)
      · have h := it_n q16 h
        cases h
        exact K13 _ _ _ hW (lv_sub hl [0, 1, 2, 3] rfl)
      · have h := it_p q16 h
        refine lv_aload_n hx hb dX2_narrow_58 rfl (lv_at hl 0 rfl) ?_
        refine lv_iload_n hx hb dX2_narrow_59 rfl (lv_at hl 3 rfl) ?_
        obtain ⟨t17, e18, h⟩ := bd h
        refine x_gov (x_rv (rest := []) hC hW (ctX33_narrowBySum e18) (cwV_g hC.2.2.2.2 ml_X2_60 mi_X2_narrowBySum md_X2_narrowBySum ⟨(Nat.le_trans (Nat.le_of_ble_eq_true rfl) hF), (Nat.le_trans (Nat.le_of_ble_eq_true rfl) hL)⟩) (rcX33 hW) rfl hl.1 rfl (Nat.le_of_ble_eq_true rfl) dX2_narrow_60) hW (fun H locs hW => ?_)
        cases h
        exact K13 _ _ _ hW (lv_sub hl [0, 1, 2, 3] rfl)
def fX33_narrow_L11 (N : Nat) (x1 : Int32) : Nat → St → Int32 → Option (St)
  | 0, _, _ => none
  | n + 1, S, x2 =>
    if 1201 ≤ x2 then
      some S
    else
      if (S.1 33 5) = 0 then
        some S
      else
        if (S.1 33 6) = 0 then
          nx (p1 S 33 5 0) fun s8 =>
          Option.bind (fX33_narrow_L39 N x1 x2 N s8 0) fun t19 =>
          Option.bind (fX33_narrowByRules N t19) fun t21 =>
          fX33_narrow_L11 N x1 n t21 (x2 + 1)
        else
          some S
set_option maxHeartbeats 4000000 in
set_option maxRecDepth 100000 in
theorem wX33_narrow_L11 {N : Nat} {x1 : Int32} (hC : CallFix p m c cX2_narrow 4 s args lw_g RX2) (hF : 4 ≤ R.frames) (hL : 94 ≤ R.locals)  {t : St} (kx : ∀ (H : Heap) (locs : List Loc) (ls : Array Slot), wg LX G t s H locs → lv_has ls 4 [(0, .ref (ad G 33))] → W p l e R s m args below meth c H locs 0 0 Q (F0 m 79 ls [])) : ∀ (n : Nat) (S : St) (x2 : Int32), fX33_narrow_L11 N x1 n S x2 = some t → ∀ (H : Heap) (locs : List Loc) (ls : Array Slot), wg LX G S s H locs → lv_has ls 4 [(0, .ref (ad G 33)), (1, .int x1), (2, .int x2)] → W p l e R s m args below meth c H locs 0 0 Q (F0 m 11 ls []) := by
  have hx := hC.1
  have hb := hC.2.1
  intro n
  induction n with
  | zero =>
    intro _ _ h
    cases h
  | succ n ih =>
    intro S x2 h H locs ls hW hl
    rw [fX33_narrow_L11] at h
    refine lv_iload_n hx hb dX2_narrow_11 rfl (lv_at hl 2 rfl) ?_
    refine lv_sipush (v := 1201) hx hb dX2_narrow_12 (by decide) ?_
    refine lv_icmp_ge (tgt := 79) hx hb dX2_narrow_15 (by decide) (fun q5 => ?_) (fun q5 => ?_)
    · have h := it_p q5 h
      cases h
      exact kx _ _ _ hW (lv_sub hl [0] rfl)
    · have h := it_n q5 h
      refine lv_aload_n hx hb dX2_narrow_18 rfl (lv_at hl 0 rfl) ?_
      refine gX33_5 hC hW dX2_narrow_19 ?_
      refine lv_if_eq (tgt := 79) hx hb dX2_narrow_22 (by decide) (fun q6 => ?_) (fun q6 => ?_)
      · have h := it_p q6 h
        cases h
        exact kx _ _ _ hW (lv_sub hl [0] rfl)
      · have h := it_n q6 h
        refine lv_aload_n hx hb dX2_narrow_25 rfl (lv_at hl 0 rfl) ?_
        refine gX33_6 hC hW dX2_narrow_26 ?_
        refine lv_if_ne (tgt := 79) hx hb dX2_narrow_29 (by decide) (fun q7 => ?_) (fun q7 => ?_)
        · have h := it_n q7 h
          cases h
          exact kx _ _ _ hW (lv_sub hl [0] rfl)
        · have h := it_p q7 h
          refine lv_aload_n hx hb dX2_narrow_32 rfl (lv_at hl 0 rfl) ?_
          refine lv_iconst (v := 0) hx hb dX2_narrow_33 (by decide) ?_
          refine pX33_5 hC hW rfl dX2_narrow_34 (fun H locs hW => ?_)
          obtain ⟨s8, e9, h⟩ := nx_some h
          rw [← e9] at hW
          refine lv_iconst (v := 0) hx hb dX2_narrow_37 (by decide) ?_
          refine lv_istore_n (lv' := [(3, .int 0), (0, .ref (ad G 33)), (1, .int x1), (2, .int x2)]) hx hb dX2_narrow_38 rfl hl (by decide) rfl (fun ls hl => ?_)
          obtain ⟨t19, e20, h⟩ := bd h
          refine wX33_narrow_L39 hC hF hL  (fun H locs ls hW hl => ?_) _ _ _ e20 _ _ _ hW (lv_sub hl [1, 2, 3, 0] rfl)
          refine lv_aload_n hx hb dX2_narrow_69 rfl (lv_at hl 0 rfl) ?_
          obtain ⟨t21, e22, h⟩ := bd h
          refine x_gov (x_rv (rest := []) hC hW (ctX33_narrowByRules e22) (cwV_g hC.2.2.2.2 ml_X2_64 mi_X2_narrowByRules md_X2_narrowByRules ⟨(Nat.le_trans (Nat.le_of_ble_eq_true rfl) hF), (Nat.le_trans (Nat.le_of_ble_eq_true rfl) hL)⟩) (rcX33 hW) rfl hl.1 rfl (Nat.le_of_ble_eq_true rfl) dX2_narrow_70) hW (fun H locs hW => ?_)
          refine lv_iinc (v := x2 + 1) (lv' := [(2, .int (x2 + 1)), (0, .ref (ad G 33)), (1, .int x1)]) (k := 2) hx hb dX2_narrow_73 hl rfl rfl (by decide) rfl (fun ls hl => ?_)
          refine lv_goto (tgt := 11) hx hb dX2_narrow_76 (by decide) ?_
          exact ih _ _ h _ _ _ hW (lv_sub hl [1, 2, 0] rfl)
def fX33_narrow (N : Nat) (S : St) (x1 : Int32) : Option (St) :=
  Option.bind (fX33_widen N S) fun t1 =>
  nx (p1 t1 33 5 1) fun s3 =>
  Option.bind (fX33_narrow_L11 N x1 N s3 0) fun t23 =>
  Option.bind (α := St) (
    if (t23.1 33 6) = 0 then
      some t23
    else
      Option.bind (fX33_leaveNothing N t23) fun t29 =>
      some t29
  ) fun t26 =>
  some t26
set_option maxHeartbeats 4000000 in
set_option maxRecDepth 100000 in
theorem wX33_narrow {N : Nat} {S : St} {x1 : Int32} (hC : CallFix p m c cX2_narrow 4 s args lw_g RX2) (hF : 4 ≤ R.frames) (hL : 94 ≤ R.locals)  {S' : St} (h : fX33_narrow N S x1 = some (S')) (kr : ∀ (H : Heap) (locs : List Loc) (ls : Array Slot) (pc : Nat), decode cX2_narrow pc = .ok (.return_, 1) → wg LX G (S') s H locs → W p l e R s m args below meth c H locs 0 0 Q (F0 m pc ls [])) : ∀ (H : Heap) (locs : List Loc) (ls : Array Slot), wg LX G S s H locs → lv_has ls 4 [(0, .ref (ad G 33)), (1, .int x1)] → W p l e R s m args below meth c H locs 0 0 Q (F0 m 0 ls []) := by
  have hx := hC.1
  have hb := hC.2.1
  intro H locs ls hW hl
  unfold fX33_narrow at h
  refine lv_aload_n hx hb dX2_narrow_0 rfl (lv_at hl 0 rfl) ?_
  obtain ⟨t1, e2, h⟩ := bd h
  refine x_gov (x_rv (rest := []) hC hW (ctX33_widen e2) (cwV_g hC.2.2.2.2 ml_X2_47 mi_X2_widen md_X2_widen ⟨(Nat.le_trans (Nat.le_of_ble_eq_true rfl) hF), (Nat.le_trans (Nat.le_of_ble_eq_true rfl) hL)⟩) (rcX33 hW) rfl hl.1 rfl (Nat.le_of_ble_eq_true rfl) dX2_narrow_1) hW (fun H locs hW => ?_)
  refine lv_aload_n hx hb dX2_narrow_4 rfl (lv_at hl 0 rfl) ?_
  refine lv_iconst (v := 1) hx hb dX2_narrow_5 (by decide) ?_
  refine pX33_5 hC hW rfl dX2_narrow_6 (fun H locs hW => ?_)
  obtain ⟨s3, e4, h⟩ := nx_some h
  rw [← e4] at hW
  refine lv_iconst (v := 0) hx hb dX2_narrow_9 (by decide) ?_
  refine lv_istore_n (lv' := [(2, .int 0), (0, .ref (ad G 33)), (1, .int x1)]) hx hb dX2_narrow_10 rfl hl (by decide) rfl (fun ls hl => ?_)
  obtain ⟨t23, e24, h⟩ := bd h
  refine wX33_narrow_L11 hC hF hL  (fun H locs ls hW hl => ?_) _ _ _ e24 _ _ _ hW (lv_sub hl [1, 2, 0] rfl)
  refine lv_aload_n hx hb dX2_narrow_79 rfl (lv_at hl 0 rfl) ?_
  refine gX33_6 hC hW dX2_narrow_80 ?_
  obtain ⟨t26, e27, h⟩ := bd h
  have K25 : ∀ (H : Heap) (locs : List Loc) (ls : Array Slot), wg LX G t26 s H locs → lv_has ls 4 [] → W p l e R s m args below meth c H locs 0 0 Q (F0 m 90 ls []) := by
    intro H locs ls hW hl
    cases h
    exact kr _ _ _ _ dX2_narrow_90 hW
  clear h
  have h := e27
  clear e27
  refine lv_if_eq (tgt := 90) hx hb dX2_narrow_83 (by decide) (fun q28 => ?_) (fun q28 => ?_)
  · have h := it_p q28 h
    cases h
    exact K25 _ _ _ hW (lv_sub hl [] rfl)
  · have h := it_n q28 h
    refine lv_aload_n hx hb dX2_narrow_86 rfl (lv_at hl 0 rfl) ?_
    obtain ⟨t29, e30, h⟩ := bd h
    refine x_gov (x_rv (rest := []) hC hW (ctX33_leaveNothing e30) (cwV_g hC.2.2.2.2 ml_X2_67 mi_X2_leaveNothing md_X2_leaveNothing ⟨(Nat.le_trans (Nat.le_of_ble_eq_true rfl) hF), (Nat.le_trans (Nat.le_of_ble_eq_true rfl) hL)⟩) (rcX33 hW) rfl hl.1 rfl (Nat.le_of_ble_eq_true rfl) dX2_narrow_87) hW (fun H locs hW => ?_)
    cases h
    exact K25 _ _ _ hW (lv_sub hl [] rfl)
theorem ctX33_narrow {N : Nat} {S : St} {x1 : Int32}  {S' : St} (h : fX33_narrow N S x1 = some (S')) : Met l yX2_narrow (wm yX2_narrow cX2_narrow 4 none) (rmx 4 94) (pcm LX G S [.ref (ad G 33), .int x1]) (qcV LX G S') 0 0 G.2.2.2 :=
  x_enter (own := RX2) rfl rfl (Nat.le_of_ble_eq_true rfl) (fun p e s m below meth c ls hC hr hk hW hl => wX33_narrow hC (Nat.le_refl _) (Nat.le_refl _)  h (fun H locs ls pc hd hW => x_retv hC hr hk hW hd) _ _ _ hW hl)
def fX0_narrowAll (N : Nat) (S : St)  : Option (St) :=
  Option.bind (fX33_lookAtFirst N S) fun t1 =>
  Option.bind (fX33_narrow N t1 0) fun t3 =>
  some t3
set_option maxHeartbeats 4000000 in
set_option maxRecDepth 100000 in
theorem wX0_narrowAll {N : Nat} {S : St}  (hC : CallFix p m c cX9_narrowAll 1 s args lw_g RX9) (hF : 5 ≤ R.frames) (hL : 117 ≤ R.locals)  {S' : St} (h : fX0_narrowAll N S = some (S')) (kr : ∀ (H : Heap) (locs : List Loc) (ls : Array Slot) (pc : Nat), decode cX9_narrowAll pc = .ok (.return_, 1) → wg LX G (S') s H locs → W p l e R s m args below meth c H locs 0 0 Q (F0 m pc ls [])) : ∀ (H : Heap) (locs : List Loc) (ls : Array Slot), wg LX G S s H locs → lv_has ls 1 [(0, .ref (ad G 0))] → W p l e R s m args below meth c H locs 0 0 Q (F0 m 0 ls []) := by
  have hx := hC.1
  have hb := hC.2.1
  intro H locs ls hW hl
  unfold fX0_narrowAll at h
  refine lv_aload_n hx hb dX9_narrowAll_0 rfl (lv_at hl 0 rfl) ?_
  refine gX0_6 hC hW dX9_narrowAll_1 ?_
  obtain ⟨t1, e2, h⟩ := bd h
  refine x_gov (x_rv (rest := []) hC hW (ctX33_lookAtFirst e2) (cwV_g hC.2.2.2.2 ml_X9_212 mi_X2_lookAtFirst md_X2_lookAtFirst ⟨(Nat.le_trans (Nat.le_of_ble_eq_true rfl) hF), (Nat.le_trans (Nat.le_of_ble_eq_true rfl) hL)⟩) (rcX33 hW) rfl hl.1 rfl (Nat.le_of_ble_eq_true rfl) dX9_narrowAll_4) hW (fun H locs hW => ?_)
  refine lv_aload_n hx hb dX9_narrowAll_7 rfl (lv_at hl 0 rfl) ?_
  refine gX0_6 hC hW dX9_narrowAll_8 ?_
  refine lv_iconst (v := 0) hx hb dX9_narrowAll_11 (by decide) ?_
  obtain ⟨t3, e4, h⟩ := bd h
  refine x_gov (x_rv (rest := []) hC hW (ctX33_narrow e4) (cwV_g hC.2.2.2.2 ml_X9_291 mi_X2_narrow md_X2_narrow ⟨(Nat.le_trans (Nat.le_of_ble_eq_true rfl) hF), (Nat.le_trans (Nat.le_of_ble_eq_true rfl) hL)⟩) (rcX33 hW) rfl hl.1 rfl (Nat.le_of_ble_eq_true rfl) dX9_narrowAll_12) hW (fun H locs hW => ?_)
  cases h
  exact kr _ _ _ _ dX9_narrowAll_15 hW
theorem ctX0_narrowAll {N : Nat} {S : St}   {S' : St} (h : fX0_narrowAll N S = some (S')) : Met l yX9_narrowAll (wm yX9_narrowAll cX9_narrowAll 1 none) (rmx 5 117) (pcm LX G S [.ref (ad G 0)]) (qcV LX G S') 0 0 G.2.2.2 :=
  x_enter (own := RX9) rfl rfl (Nat.le_of_ble_eq_true rfl) (fun p e s m below meth c ls hC hr hk hW hl => wX0_narrowAll hC (Nat.le_refl _) (Nat.le_refl _)  h (fun H locs ls pc hd hW => x_retv hC hr hk hW hd) _ _ _ hW hl)
def fX33_isLeft (S : St) (x1 : Int32) (x2 : Int32) : Option (Int32) :=
  gd (inb x1 12) <|
  Option.bind (α := Int32) (
    if x2 < (S.1 35 (Int32.toNatClampNeg x1)) then
      some 0
    else
      gd (inb x1 12) <|
      if (S.1 36 (Int32.toNatClampNeg x1)) < x2 then
        some 0
      else
        gd (inb ((x1 * 100) + x2) 1200) <|
        if (S.1 34 (Int32.toNatClampNeg ((x1 * 100) + x2))) = 0 then
          some 0
        else
          some 1
  ) fun t3 =>
  gd (isb t3) <|
  some t3
set_option maxHeartbeats 4000000 in
set_option maxRecDepth 100000 in
theorem wX33_isLeft {S : St} {x1 : Int32} {x2 : Int32} (hC : CallFix p m c cX2_isLeft 3 s args lw_g RX2) (hF : 0 ≤ R.frames) (hL : 0 ≤ R.locals)  {v : Int32} (h : fX33_isLeft S x1 x2 = some v) (kr : ∀ (H : Heap) (locs : List Loc) (ls : Array Slot) (pc : Nat), isb v = true → decode cX2_isLeft pc = .ok (.ireturn, 1) → wg LX G S s H locs → W p l e R s m args below meth c H locs 0 0 Q (F0 m pc ls [.int v])) : ∀ (H : Heap) (locs : List Loc) (ls : Array Slot), wg LX G S s H locs → lv_has ls 3 [(0, .ref (ad G 33)), (1, .int x1), (2, .int x2)] → W p l e R s m args below meth c H locs 0 0 Q (F0 m 0 ls []) := by
  have hx := hC.1
  have hb := hC.2.1
  intro H locs ls hW hl
  unfold fX33_isLeft at h
  refine lv_iload_n hx hb dX2_isLeft_0 rfl (lv_at hl 2 rfl) ?_
  refine lv_aload_n hx hb dX2_isLeft_1 rfl (lv_at hl 0 rfl) ?_
  refine gX33_3 hC hW dX2_isLeft_2 ?_
  refine lv_iload_n hx hb dX2_isLeft_5 rfl (lv_at hl 1 rfl) ?_
  obtain ⟨g1, h⟩ := gd_some h
  refine x_iald hC hW aX35 g1 dX2_isLeft_6 ?_
  obtain ⟨t3, e4, h⟩ := bd h
  have K2 : ∀ (H : Heap) (locs : List Loc) (ls : Array Slot), wg LX G S s H locs → lv_has ls 3 [] → W p l e R s m args below meth c H locs 0 0 Q (F0 m 39 ls [.int t3]) := by
    intro H locs ls hW hl
    obtain ⟨g10, h⟩ := gd_some h
    cases h
    exact kr _ _ _ _ g10 dX2_isLeft_39 hW
  clear h
  have h := e4
  clear e4
  refine lv_icmp_lt (tgt := 38) hx hb dX2_isLeft_7 (by decide) (fun q5 => ?_) (fun q5 => ?_)
  · have h := it_p q5 h
    refine lv_iconst (v := 0) hx hb dX2_isLeft_38 (by decide) ?_
    cases h
    exact K2 _ _ _ hW (lv_sub hl [] rfl)
  · have h := it_n q5 h
    refine lv_iload_n hx hb dX2_isLeft_10 rfl (lv_at hl 2 rfl) ?_
    refine lv_aload_n hx hb dX2_isLeft_11 rfl (lv_at hl 0 rfl) ?_
    refine gX33_4 hC hW dX2_isLeft_12 ?_
    refine lv_iload_n hx hb dX2_isLeft_15 rfl (lv_at hl 1 rfl) ?_
    obtain ⟨g6, h⟩ := gd_some h
    refine x_iald hC hW aX36 g6 dX2_isLeft_16 ?_
    refine lv_icmp_gt (tgt := 38) hx hb dX2_isLeft_17 (by decide) (fun q7 => ?_) (fun q7 => ?_)
    · have h := it_p q7 h
      refine lv_iconst (v := 0) hx hb dX2_isLeft_38 (by decide) ?_
      cases h
      exact K2 _ _ _ hW (lv_sub hl [] rfl)
    · have h := it_n q7 h
      refine lv_aload_n hx hb dX2_isLeft_20 rfl (lv_at hl 0 rfl) ?_
      refine gX33_2 hC hW dX2_isLeft_21 ?_
      refine lv_iload_n hx hb dX2_isLeft_24 rfl (lv_at hl 1 rfl) ?_
      refine lv_bipush (v := 100) hx hb dX2_isLeft_25 (by decide) ?_
      refine lv_imul hx hb dX2_isLeft_27 ?_
      refine lv_iload_n hx hb dX2_isLeft_28 rfl (lv_at hl 2 rfl) ?_
      refine lv_iadd hx hb dX2_isLeft_29 ?_
      obtain ⟨g8, h⟩ := gd_some h
      refine x_zald hC hW zX34 g8 dX2_isLeft_30 ?_
      refine lv_if_eq (tgt := 38) hx hb dX2_isLeft_31 (by decide) (fun q9 => ?_) (fun q9 => ?_)
      · have h := it_p q9 h
        refine lv_iconst (v := 0) hx hb dX2_isLeft_38 (by decide) ?_
        cases h
        exact K2 _ _ _ hW (lv_sub hl [] rfl)
      · have h := it_n q9 h
        refine lv_iconst (v := 1) hx hb dX2_isLeft_34 (by decide) ?_
        refine lv_goto (tgt := 39) hx hb dX2_isLeft_35 (by decide) ?_
        cases h
        exact K2 _ _ _ hW (lv_sub hl [] rfl)
theorem ctX33_isLeft {S : St} {x1 : Int32} {x2 : Int32}  {v : Int32} (h : fX33_isLeft S x1 x2 = some v) : Met l yX2_isLeft (wm yX2_isLeft cX2_isLeft 3 (some .boolean)) (rmx 0 0) (pcm LX G S [.ref (ad G 33), .int x1, .int x2]) (qcI LX G S v) 0 0 G.2.2.2 :=
  x_enter (own := RX2) rfl rfl (Nat.le_of_ble_eq_true rfl) (fun p e s m below meth c ls hC hr hk hW hl => wX33_isLeft hC (Nat.le_refl _) (Nat.le_refl _)  h (fun H locs ls pc hz hd hW => x_retz hC hr hk hW hz hd) _ _ _ hW hl)
def fX33_howMany_L9 (N : Nat) (S : St) (x1 : Int32) : Nat → Int32 → Int32 → Option (Int32)
  | 0, _, _ => none
  | n + 1, x2, x3 =>
    gd (inb x1 12) <|
    if (S.1 36 (Int32.toNatClampNeg x1)) < x3 then
      some x2
    else
      Option.bind (fX33_isLeft S x1 x3) fun t6 =>
      Option.bind (α := Int32) (
        if t6 = 0 then
          some 0
        else
          some 1
      ) fun t9 =>
      fX33_howMany_L9 N S x1 n (x2 + t9) (x3 + 1)
set_option maxHeartbeats 4000000 in
set_option maxRecDepth 100000 in
theorem wX33_howMany_L9 {N : Nat} {S : St} {x1 : Int32} (hC : CallFix p m c cX2_howMany 4 s args lw_g RX2) (hF : 1 ≤ R.frames) (hL : 22 ≤ R.locals)  {t : Int32} (kx : ∀ (H : Heap) (locs : List Loc) (ls : Array Slot), wg LX G S s H locs → lv_has ls 4 [(2, .int t)] → W p l e R s m args below meth c H locs 0 0 Q (F0 m 42 ls [])) : ∀ (n : Nat) (x2 : Int32) (x3 : Int32), fX33_howMany_L9 N S x1 n x2 x3 = some t → ∀ (H : Heap) (locs : List Loc) (ls : Array Slot), wg LX G S s H locs → lv_has ls 4 [(0, .ref (ad G 33)), (1, .int x1), (2, .int x2), (3, .int x3)] → W p l e R s m args below meth c H locs 0 0 Q (F0 m 9 ls []) := by
  have hx := hC.1
  have hb := hC.2.1
  intro n
  induction n with
  | zero =>
    intro _ _ h
    cases h
  | succ n ih =>
    intro x2 x3 h H locs ls hW hl
    rw [fX33_howMany_L9] at h
    refine lv_iload_n hx hb dX2_howMany_9 rfl (lv_at hl 3 rfl) ?_
    refine lv_aload_n hx hb dX2_howMany_10 rfl (lv_at hl 0 rfl) ?_
    refine gX33_4 hC hW dX2_howMany_11 ?_
    refine lv_iload_n hx hb dX2_howMany_14 rfl (lv_at hl 1 rfl) ?_
    obtain ⟨g4, h⟩ := gd_some h
    refine x_iald hC hW aX36 g4 dX2_howMany_15 ?_
    refine lv_icmp_gt (tgt := 42) hx hb dX2_howMany_16 (by decide) (fun q5 => ?_) (fun q5 => ?_)
    · have h := it_p q5 h
      cases h
      exact kx _ _ _ hW (lv_sub hl [2] rfl)
    · have h := it_n q5 h
      refine lv_iload_n hx hb dX2_howMany_19 rfl (lv_at hl 2 rfl) ?_
      refine lv_aload_n hx hb dX2_howMany_20 rfl (lv_at hl 0 rfl) ?_
      refine lv_iload_n hx hb dX2_howMany_21 rfl (lv_at hl 1 rfl) ?_
      refine lv_iload_n hx hb dX2_howMany_22 rfl (lv_at hl 3 rfl) ?_
      obtain ⟨t6, e7, h⟩ := bd h
      refine x_goi (x_rv (rest := [.int x2]) hC hW (ctX33_isLeft e7) (cwV_g hC.2.2.2.2 ml_X2_109 mi_X2_isLeft md_X2_isLeft ⟨(Nat.le_trans (Nat.le_of_ble_eq_true rfl) hF), (Nat.le_trans (Nat.le_of_ble_eq_true rfl) hL)⟩) (rcX33 hW) rfl hl.1 rfl (Nat.le_of_ble_eq_true rfl) dX2_howMany_23) hW (fun H locs hW => ?_)
      obtain ⟨t9, e10, h⟩ := bd h
      have K8 : ∀ (H : Heap) (locs : List Loc) (ls : Array Slot), wg LX G S s H locs → lv_has ls 4 [(0, .ref (ad G 33)), (1, .int x1), (3, .int x3)] → W p l e R s m args below meth c H locs 0 0 Q (F0 m 34 ls [.int t9, .int x2]) := by
        intro H locs ls hW hl
        refine lv_iadd hx hb dX2_howMany_34 ?_
        refine lv_istore_n (lv' := [(2, .int (x2 + t9)), (0, .ref (ad G 33)), (1, .int x1), (3, .int x3)]) hx hb dX2_howMany_35 rfl hl (by decide) rfl (fun ls hl => ?_)
        refine lv_iinc (v := x3 + 1) (lv' := [(3, .int (x3 + 1)), (2, .int (x2 + t9)), (0, .ref (ad G 33)), (1, .int x1)]) (k := 3) hx hb dX2_howMany_36 hl rfl rfl (by decide) rfl (fun ls hl => ?_)
        refine lv_goto (tgt := 9) hx hb dX2_howMany_39 (by decide) ?_
        exact ih _ _ h _ _ _ hW (lv_sub hl [2, 3, 1, 0] rfl)
      clear h
      have h := e10
      clear e10
      refine lv_if_eq (tgt := 33) hx hb dX2_howMany_26 (by decide) (fun q11 => ?_) (fun q11 => ?_)
      · have h := it_p q11 h
        refine lv_iconst (v := 0) hx hb dX2_howMany_33 (by decide) ?_
        cases h
        exact K8 _ _ _ hW (lv_sub hl [0, 1, 3] rfl)
      · have h := it_n q11 h
        refine lv_iconst (v := 1) hx hb dX2_howMany_29 (by decide) ?_
        refine lv_goto (tgt := 34) hx hb dX2_howMany_30 (by decide) ?_
        cases h
        exact K8 _ _ _ hW (lv_sub hl [0, 1, 3] rfl)
def fX33_howMany (N : Nat) (S : St) (x1 : Int32) : Option (Int32) :=
  gd (inb x1 12) <|
  nx (S.1 35 (Int32.toNatClampNeg x1)) fun y2 =>
  Option.bind (fX33_howMany_L9 N S x1 N 0 y2) fun t12 =>
  some t12
set_option maxHeartbeats 4000000 in
set_option maxRecDepth 100000 in
theorem wX33_howMany {N : Nat} {S : St} {x1 : Int32} (hC : CallFix p m c cX2_howMany 4 s args lw_g RX2) (hF : 1 ≤ R.frames) (hL : 22 ≤ R.locals)  {v : Int32} (h : fX33_howMany N S x1 = some v) (kr : ∀ (H : Heap) (locs : List Loc) (ls : Array Slot) (pc : Nat), decode cX2_howMany pc = .ok (.ireturn, 1) → wg LX G S s H locs → W p l e R s m args below meth c H locs 0 0 Q (F0 m pc ls [.int v])) : ∀ (H : Heap) (locs : List Loc) (ls : Array Slot), wg LX G S s H locs → lv_has ls 4 [(0, .ref (ad G 33)), (1, .int x1)] → W p l e R s m args below meth c H locs 0 0 Q (F0 m 0 ls []) := by
  have hx := hC.1
  have hb := hC.2.1
  intro H locs ls hW hl
  unfold fX33_howMany at h
  refine lv_iconst (v := 0) hx hb dX2_howMany_0 (by decide) ?_
  refine lv_istore_n (lv' := [(2, .int 0), (0, .ref (ad G 33)), (1, .int x1)]) hx hb dX2_howMany_1 rfl hl (by decide) rfl (fun ls hl => ?_)
  refine lv_aload_n hx hb dX2_howMany_2 rfl (lv_at hl 1 rfl) ?_
  refine gX33_3 hC hW dX2_howMany_3 ?_
  refine lv_iload_n hx hb dX2_howMany_6 rfl (lv_at hl 2 rfl) ?_
  obtain ⟨g1, h⟩ := gd_some h
  refine x_iald hC hW aX35 g1 dX2_howMany_7 ?_
  obtain ⟨y2, e3, h⟩ := nx_some h
  refine x_topi e3 ?_
  refine lv_istore_n (lv' := [(3, .int y2), (2, .int 0), (0, .ref (ad G 33)), (1, .int x1)]) hx hb dX2_howMany_8 rfl hl (by decide) rfl (fun ls hl => ?_)
  obtain ⟨t12, e13, h⟩ := bd h
  refine wX33_howMany_L9 hC hF hL  (fun H locs ls hW hl => ?_) _ _ _ e13 _ _ _ hW (lv_sub hl [2, 3, 1, 0] rfl)
  refine lv_iload_n hx hb dX2_howMany_42 rfl (lv_at hl 0 rfl) ?_
  cases h
  exact kr _ _ _ _ dX2_howMany_43 hW
theorem ctX33_howMany {N : Nat} {S : St} {x1 : Int32}  {v : Int32} (h : fX33_howMany N S x1 = some v) : Met l yX2_howMany (wm yX2_howMany cX2_howMany 4 (some .int)) (rmx 1 22) (pcm LX G S [.ref (ad G 33), .int x1]) (qcI LX G S v) 0 0 G.2.2.2 :=
  x_enter (own := RX2) rfl rfl (Nat.le_of_ble_eq_true rfl) (fun p e s m below meth c ls hC hr hk hW hl => wX33_howMany hC (Nat.le_refl _) (Nat.le_refl _)  h (fun H locs ls pc hd hW => x_reti hC hr hk hW hd) _ _ _ hW hl)
def fX0_left (N : Nat) (S : St) (x1 : Int32) (x2 : Int32) : Option (Int32 × St) :=
  if x2 = 0 then
    Option.bind (fX0_refuseCell S x1) fun t2 =>
    if t2.1 = 0 then
      Option.bind (α := St) (
        if x2 = 0 then
          Option.bind (fX33_lookAtFirst N t2.2) fun t11 =>
          some t11
        else
          Option.bind (fX0_narrowAll N t2.2) fun t9 =>
          some t9
      ) fun t6 =>
      Option.bind (fX33_howMany N t6 x1) fun t13 =>
      some (t13, t6)
    else
      some (t2.1, t2.2)
  else
    if x2 = 1 then
      Option.bind (fX0_refuseCell S x1) fun t16 =>
      if t16.1 = 0 then
        Option.bind (α := St) (
          if x2 = 0 then
            Option.bind (fX33_lookAtFirst N t16.2) fun t25 =>
            some t25
          else
            Option.bind (fX0_narrowAll N t16.2) fun t23 =>
            some t23
        ) fun t20 =>
        Option.bind (fX33_howMany N t20 x1) fun t27 =>
        some (t27, t20)
      else
        some (t16.1, t16.2)
    else
      some ((-1), S)
set_option maxHeartbeats 4000000 in
set_option maxRecDepth 100000 in
theorem wX0_left {N : Nat} {S : St} {x1 : Int32} {x2 : Int32} (hC : CallFix p m c cX9_left 4 s args lw_g RX9) (hF : 6 ≤ R.frames) (hL : 137 ≤ R.locals)  {v : Int32} {S' : St} (h : fX0_left N S x1 x2 = some (v, S')) (kr : ∀ (H : Heap) (locs : List Loc) (ls : Array Slot) (pc : Nat), decode cX9_left pc = .ok (.ireturn, 1) → wg LX G (S') s H locs → W p l e R s m args below meth c H locs 0 0 Q (F0 m pc ls [.int v])) : ∀ (H : Heap) (locs : List Loc) (ls : Array Slot), wg LX G S s H locs → lv_has ls 4 [(0, .ref (ad G 0)), (1, .int x1), (2, .int x2)] → W p l e R s m args below meth c H locs 0 0 Q (F0 m 0 ls []) := by
  have hx := hC.1
  have hb := hC.2.1
  intro H locs ls hW hl
  unfold fX0_left at h
  refine lv_iload_n hx hb dX9_left_0 rfl (lv_at hl 2 rfl) ?_
  refine lv_if_eq (tgt := 11) hx hb dX9_left_1 (by decide) (fun q1 => ?_) (fun q1 => ?_)
  · have h := it_p q1 h
    refine lv_aload_n hx hb dX9_left_11 rfl (lv_at hl 0 rfl) ?_
    refine lv_iload_n hx hb dX9_left_12 rfl (lv_at hl 1 rfl) ?_
    obtain ⟨t2, e3, h⟩ := bd h
    refine x_goi (x_rv (rest := []) hC hW (ctX0_refuseCell e3) (cwV_g hC.2.2.2.2 ml_X9_199 mi_X9_refuseCell md_X9_refuseCell ⟨(Nat.le_trans (Nat.le_of_ble_eq_true rfl) hF), (Nat.le_trans (Nat.le_of_ble_eq_true rfl) hL)⟩) (rcX0 hW) rfl hl.1 rfl (Nat.le_of_ble_eq_true rfl) dX9_left_13) hW (fun H locs hW => ?_)
    refine lv_istore_n (lv' := [(3, .int t2.1), (0, .ref (ad G 0)), (1, .int x1), (2, .int x2)]) hx hb dX9_left_16 rfl hl (by decide) rfl (fun ls hl => ?_)
    refine lv_iload_n hx hb dX9_left_17 rfl (lv_at hl 0 rfl) ?_
    refine lv_if_eq (tgt := 23) hx hb dX9_left_18 (by decide) (fun q4 => ?_) (fun q4 => ?_)
    · have h := it_p q4 h
      refine lv_iload_n hx hb dX9_left_23 rfl (lv_at hl 3 rfl) ?_
      obtain ⟨t6, e7, h⟩ := bd h
      have K5 : ∀ (H : Heap) (locs : List Loc) (ls : Array Slot), wg LX G t6 s H locs → lv_has ls 4 [(0, .ref (ad G 0)), (1, .int x1)] → W p l e R s m args below meth c H locs 0 0 Q (F0 m 41 ls []) := by
        intro H locs ls hW hl
        refine lv_aload_n hx hb dX9_left_41 rfl (lv_at hl 0 rfl) ?_
        refine gX0_6 hC hW dX9_left_42 ?_
        refine lv_iload_n hx hb dX9_left_45 rfl (lv_at hl 1 rfl) ?_
        obtain ⟨t13, e14, h⟩ := bd h
        refine x_goi (x_rv (rest := []) hC hW (ctX33_howMany e14) (cwV_g hC.2.2.2.2 ml_X9_218 mi_X2_howMany md_X2_howMany ⟨(Nat.le_trans (Nat.le_of_ble_eq_true rfl) hF), (Nat.le_trans (Nat.le_of_ble_eq_true rfl) hL)⟩) (rcX33 hW) rfl hl.1 rfl (Nat.le_of_ble_eq_true rfl) dX9_left_46) hW (fun H locs hW => ?_)
        cases h
        exact kr _ _ _ _ dX9_left_49 hW
      clear h
      have h := e7
      clear e7
      refine lv_if_ne (tgt := 37) hx hb dX9_left_24 (by decide) (fun q8 => ?_) (fun q8 => ?_)
      · have h := it_n q8 h
        refine lv_aload_n hx hb dX9_left_37 rfl (lv_at hl 1 rfl) ?_
        obtain ⟨t9, e10, h⟩ := bd h
        refine x_gov (x_rv (rest := []) hC hW (ctX0_narrowAll e10) (cwV_g hC.2.2.2.2 ml_X9_215 mi_X9_narrowAll md_X9_narrowAll ⟨(Nat.le_trans (Nat.le_of_ble_eq_true rfl) hF), (Nat.le_trans (Nat.le_of_ble_eq_true rfl) hL)⟩) (rcX0 hW) rfl hl.1 rfl (Nat.le_of_ble_eq_true rfl) dX9_left_38) hW (fun H locs hW => ?_)
        cases h
        exact K5 _ _ _ hW (lv_sub hl [1, 2] rfl)
      · have h := it_p q8 h
        refine lv_aload_n hx hb dX9_left_27 rfl (lv_at hl 1 rfl) ?_
        refine gX0_6 hC hW dX9_left_28 ?_
        obtain ⟨t11, e12, h⟩ := bd h
        refine x_gov (x_rv (rest := []) hC hW (ctX33_lookAtFirst e12) (cwV_g hC.2.2.2.2 ml_X9_212 mi_X2_lookAtFirst md_X2_lookAtFirst ⟨(Nat.le_trans (Nat.le_of_ble_eq_true rfl) hF), (Nat.le_trans (Nat.le_of_ble_eq_true rfl) hL)⟩) (rcX33 hW) rfl hl.1 rfl (Nat.le_of_ble_eq_true rfl) dX9_left_31) hW (fun H locs hW => ?_)
        refine lv_goto (tgt := 41) hx hb dX9_left_34 (by decide) ?_
        cases h
        exact K5 _ _ _ hW (lv_sub hl [1, 2] rfl)
    · have h := it_n q4 h
      refine lv_iload_n hx hb dX9_left_21 rfl (lv_at hl 0 rfl) ?_
      cases h
      exact kr _ _ _ _ dX9_left_22 hW
  · have h := it_n q1 h
    refine lv_iload_n hx hb dX9_left_4 rfl (lv_at hl 2 rfl) ?_
    refine lv_iconst (v := 1) hx hb dX9_left_5 (by decide) ?_
    refine lv_icmp_eq (tgt := 11) hx hb dX9_left_6 (by decide) (fun q15 => ?_) (fun q15 => ?_)
    · have h := it_p q15 h
      refine lv_aload_n hx hb dX9_left_11 rfl (lv_at hl 0 rfl) ?_
      refine lv_iload_n hx hb dX9_left_12 rfl (lv_at hl 1 rfl) ?_
      obtain ⟨t16, e17, h⟩ := bd h
      refine x_goi (x_rv (rest := []) hC hW (ctX0_refuseCell e17) (cwV_g hC.2.2.2.2 ml_X9_199 mi_X9_refuseCell md_X9_refuseCell ⟨(Nat.le_trans (Nat.le_of_ble_eq_true rfl) hF), (Nat.le_trans (Nat.le_of_ble_eq_true rfl) hL)⟩) (rcX0 hW) rfl hl.1 rfl (Nat.le_of_ble_eq_true rfl) dX9_left_13) hW (fun H locs hW => ?_)
      refine lv_istore_n (lv' := [(3, .int t16.1), (0, .ref (ad G 0)), (1, .int x1), (2, .int x2)]) hx hb dX9_left_16 rfl hl (by decide) rfl (fun ls hl => ?_)
      refine lv_iload_n hx hb dX9_left_17 rfl (lv_at hl 0 rfl) ?_
      refine lv_if_eq (tgt := 23) hx hb dX9_left_18 (by decide) (fun q18 => ?_) (fun q18 => ?_)
      · have h := it_p q18 h
        refine lv_iload_n hx hb dX9_left_23 rfl (lv_at hl 3 rfl) ?_
        obtain ⟨t20, e21, h⟩ := bd h
        have K19 : ∀ (H : Heap) (locs : List Loc) (ls : Array Slot), wg LX G t20 s H locs → lv_has ls 4 [(0, .ref (ad G 0)), (1, .int x1)] → W p l e R s m args below meth c H locs 0 0 Q (F0 m 41 ls []) := by
          intro H locs ls hW hl
          refine lv_aload_n hx hb dX9_left_41 rfl (lv_at hl 0 rfl) ?_
          refine gX0_6 hC hW dX9_left_42 ?_
          refine lv_iload_n hx hb dX9_left_45 rfl (lv_at hl 1 rfl) ?_
          obtain ⟨t27, e28, h⟩ := bd h
          refine x_goi (x_rv (rest := []) hC hW (ctX33_howMany e28) (cwV_g hC.2.2.2.2 ml_X9_218 mi_X2_howMany md_X2_howMany ⟨(Nat.le_trans (Nat.le_of_ble_eq_true rfl) hF), (Nat.le_trans (Nat.le_of_ble_eq_true rfl) hL)⟩) (rcX33 hW) rfl hl.1 rfl (Nat.le_of_ble_eq_true rfl) dX9_left_46) hW (fun H locs hW => ?_)
          cases h
          exact kr _ _ _ _ dX9_left_49 hW
        clear h
        have h := e21
        clear e21
        refine lv_if_ne (tgt := 37) hx hb dX9_left_24 (by decide) (fun q22 => ?_) (fun q22 => ?_)
        · have h := it_n q22 h
          refine lv_aload_n hx hb dX9_left_37 rfl (lv_at hl 1 rfl) ?_
          obtain ⟨t23, e24, h⟩ := bd h
          refine x_gov (x_rv (rest := []) hC hW (ctX0_narrowAll e24) (cwV_g hC.2.2.2.2 ml_X9_215 mi_X9_narrowAll md_X9_narrowAll ⟨(Nat.le_trans (Nat.le_of_ble_eq_true rfl) hF), (Nat.le_trans (Nat.le_of_ble_eq_true rfl) hL)⟩) (rcX0 hW) rfl hl.1 rfl (Nat.le_of_ble_eq_true rfl) dX9_left_38) hW (fun H locs hW => ?_)
          cases h
          exact K19 _ _ _ hW (lv_sub hl [1, 2] rfl)
        · have h := it_p q22 h
          refine lv_aload_n hx hb dX9_left_27 rfl (lv_at hl 1 rfl) ?_
          refine gX0_6 hC hW dX9_left_28 ?_
          obtain ⟨t25, e26, h⟩ := bd h
          refine x_gov (x_rv (rest := []) hC hW (ctX33_lookAtFirst e26) (cwV_g hC.2.2.2.2 ml_X9_212 mi_X2_lookAtFirst md_X2_lookAtFirst ⟨(Nat.le_trans (Nat.le_of_ble_eq_true rfl) hF), (Nat.le_trans (Nat.le_of_ble_eq_true rfl) hL)⟩) (rcX33 hW) rfl hl.1 rfl (Nat.le_of_ble_eq_true rfl) dX9_left_31) hW (fun H locs hW => ?_)
          refine lv_goto (tgt := 41) hx hb dX9_left_34 (by decide) ?_
          cases h
          exact K19 _ _ _ hW (lv_sub hl [1, 2] rfl)
      · have h := it_n q18 h
        refine lv_iload_n hx hb dX9_left_21 rfl (lv_at hl 0 rfl) ?_
        cases h
        exact kr _ _ _ _ dX9_left_22 hW
    · have h := it_n q15 h
      refine lv_iconst (v := (-1)) hx hb dX9_left_9 (by decide) ?_
      cases h
      exact kr _ _ _ _ dX9_left_10 hW
theorem ctX0_left {N : Nat} {S : St} {x1 : Int32} {x2 : Int32}  {v : Int32} {S' : St} (h : fX0_left N S x1 x2 = some (v, S')) : Met l yX9_left (wm yX9_left cX9_left 4 (some .int)) (rmx 6 137) (pcm LX G S [.ref (ad G 0), .int x1, .int x2]) (qcI LX G S' v) 0 0 G.2.2.2 :=
  x_enter (own := RX9) rfl rfl (Nat.le_of_ble_eq_true rfl) (fun p e s m below meth c ls hC hr hk hW hl => wX0_left hC (Nat.le_refl _) (Nat.le_refl _)  h (fun H locs ls pc hd hW => x_reti hC hr hk hW hd) _ _ _ hW hl)
def fX33_hasAny (S : St) (x1 : Int32) : Option (Int32) :=
  gd (inb x1 12) <|
  gd (inb x1 12) <|
  Option.bind (α := Int32) (
    if (S.1 36 (Int32.toNatClampNeg x1)) < (S.1 35 (Int32.toNatClampNeg x1)) then
      some 0
    else
      some 1
  ) fun t4 =>
  gd (isb t4) <|
  some t4
set_option maxHeartbeats 4000000 in
set_option maxRecDepth 100000 in
theorem wX33_hasAny {S : St} {x1 : Int32} (hC : CallFix p m c cX2_hasAny 2 s args lw_g RX2) (hF : 0 ≤ R.frames) (hL : 0 ≤ R.locals)  {v : Int32} (h : fX33_hasAny S x1 = some v) (kr : ∀ (H : Heap) (locs : List Loc) (ls : Array Slot) (pc : Nat), isb v = true → decode cX2_hasAny pc = .ok (.ireturn, 1) → wg LX G S s H locs → W p l e R s m args below meth c H locs 0 0 Q (F0 m pc ls [.int v])) : ∀ (H : Heap) (locs : List Loc) (ls : Array Slot), wg LX G S s H locs → lv_has ls 2 [(0, .ref (ad G 33)), (1, .int x1)] → W p l e R s m args below meth c H locs 0 0 Q (F0 m 0 ls []) := by
  have hx := hC.1
  have hb := hC.2.1
  intro H locs ls hW hl
  unfold fX33_hasAny at h
  refine lv_aload_n hx hb dX2_hasAny_0 rfl (lv_at hl 0 rfl) ?_
  refine gX33_3 hC hW dX2_hasAny_1 ?_
  refine lv_iload_n hx hb dX2_hasAny_4 rfl (lv_at hl 1 rfl) ?_
  obtain ⟨g1, h⟩ := gd_some h
  refine x_iald hC hW aX35 g1 dX2_hasAny_5 ?_
  refine lv_aload_n hx hb dX2_hasAny_6 rfl (lv_at hl 0 rfl) ?_
  refine gX33_4 hC hW dX2_hasAny_7 ?_
  refine lv_iload_n hx hb dX2_hasAny_10 rfl (lv_at hl 1 rfl) ?_
  obtain ⟨g2, h⟩ := gd_some h
  refine x_iald hC hW aX36 g2 dX2_hasAny_11 ?_
  obtain ⟨t4, e5, h⟩ := bd h
  have K3 : ∀ (H : Heap) (locs : List Loc) (ls : Array Slot), wg LX G S s H locs → lv_has ls 2 [] → W p l e R s m args below meth c H locs 0 0 Q (F0 m 20 ls [.int t4]) := by
    intro H locs ls hW hl
    obtain ⟨g7, h⟩ := gd_some h
    cases h
    exact kr _ _ _ _ g7 dX2_hasAny_20 hW
  clear h
  have h := e5
  clear e5
  refine lv_icmp_gt (tgt := 19) hx hb dX2_hasAny_12 (by decide) (fun q6 => ?_) (fun q6 => ?_)
  · have h := it_p q6 h
    refine lv_iconst (v := 0) hx hb dX2_hasAny_19 (by decide) ?_
    cases h
    exact K3 _ _ _ hW (lv_sub hl [] rfl)
  · have h := it_n q6 h
    refine lv_iconst (v := 1) hx hb dX2_hasAny_15 (by decide) ?_
    refine lv_goto (tgt := 20) hx hb dX2_hasAny_16 (by decide) ?_
    cases h
    exact K3 _ _ _ hW (lv_sub hl [] rfl)
theorem ctX33_hasAny {S : St} {x1 : Int32}  {v : Int32} (h : fX33_hasAny S x1 = some v) : Met l yX2_hasAny (wm yX2_hasAny cX2_hasAny 2 (some .boolean)) (rmx 0 0) (pcm LX G S [.ref (ad G 33), .int x1]) (qcI LX G S v) 0 0 G.2.2.2 :=
  x_enter (own := RX2) rfl rfl (Nat.le_of_ble_eq_true rfl) (fun p e s m below meth c ls hC hr hk hW hl => wX33_hasAny hC (Nat.le_refl _) (Nat.le_refl _)  h (fun H locs ls pc hz hd hW => x_retz hC hr hk hW hz hd) _ _ _ hW hl)
def fX33_greatest (S : St) (x1 : Int32) : Option (Int32) :=
  gd (inb x1 12) <|
  some (S.1 36 (Int32.toNatClampNeg x1))
set_option maxHeartbeats 4000000 in
set_option maxRecDepth 100000 in
theorem wX33_greatest {S : St} {x1 : Int32} (hC : CallFix p m c cX2_greatest 2 s args lw_g RX2) (hF : 0 ≤ R.frames) (hL : 0 ≤ R.locals)  {v : Int32} (h : fX33_greatest S x1 = some v) (kr : ∀ (H : Heap) (locs : List Loc) (ls : Array Slot) (pc : Nat), decode cX2_greatest pc = .ok (.ireturn, 1) → wg LX G S s H locs → W p l e R s m args below meth c H locs 0 0 Q (F0 m pc ls [.int v])) : ∀ (H : Heap) (locs : List Loc) (ls : Array Slot), wg LX G S s H locs → lv_has ls 2 [(0, .ref (ad G 33)), (1, .int x1)] → W p l e R s m args below meth c H locs 0 0 Q (F0 m 0 ls []) := by
  have hx := hC.1
  have hb := hC.2.1
  intro H locs ls hW hl
  unfold fX33_greatest at h
  refine lv_aload_n hx hb dX2_greatest_0 rfl (lv_at hl 0 rfl) ?_
  refine gX33_4 hC hW dX2_greatest_1 ?_
  refine lv_iload_n hx hb dX2_greatest_4 rfl (lv_at hl 1 rfl) ?_
  obtain ⟨g1, h⟩ := gd_some h
  refine x_iald hC hW aX36 g1 dX2_greatest_5 ?_
  cases h
  exact kr _ _ _ _ dX2_greatest_6 hW
theorem ctX33_greatest {S : St} {x1 : Int32}  {v : Int32} (h : fX33_greatest S x1 = some v) : Met l yX2_greatest (wm yX2_greatest cX2_greatest 2 (some .int)) (rmx 0 0) (pcm LX G S [.ref (ad G 33), .int x1]) (qcI LX G S v) 0 0 G.2.2.2 :=
  x_enter (own := RX2) rfl rfl (Nat.le_of_ble_eq_true rfl) (fun p e s m below meth c ls hC hr hk hW hl => wX33_greatest hC (Nat.le_refl _) (Nat.le_refl _)  h (fun H locs ls pc hd hW => x_reti hC hr hk hW hd) _ _ _ hW hl)
def fX33_least (S : St) (x1 : Int32) : Option (Int32) :=
  gd (inb x1 12) <|
  some (S.1 35 (Int32.toNatClampNeg x1))
set_option maxHeartbeats 4000000 in
set_option maxRecDepth 100000 in
theorem wX33_least {S : St} {x1 : Int32} (hC : CallFix p m c cX2_least 2 s args lw_g RX2) (hF : 0 ≤ R.frames) (hL : 0 ≤ R.locals)  {v : Int32} (h : fX33_least S x1 = some v) (kr : ∀ (H : Heap) (locs : List Loc) (ls : Array Slot) (pc : Nat), decode cX2_least pc = .ok (.ireturn, 1) → wg LX G S s H locs → W p l e R s m args below meth c H locs 0 0 Q (F0 m pc ls [.int v])) : ∀ (H : Heap) (locs : List Loc) (ls : Array Slot), wg LX G S s H locs → lv_has ls 2 [(0, .ref (ad G 33)), (1, .int x1)] → W p l e R s m args below meth c H locs 0 0 Q (F0 m 0 ls []) := by
  have hx := hC.1
  have hb := hC.2.1
  intro H locs ls hW hl
  unfold fX33_least at h
  refine lv_aload_n hx hb dX2_least_0 rfl (lv_at hl 0 rfl) ?_
  refine gX33_3 hC hW dX2_least_1 ?_
  refine lv_iload_n hx hb dX2_least_4 rfl (lv_at hl 1 rfl) ?_
  obtain ⟨g1, h⟩ := gd_some h
  refine x_iald hC hW aX35 g1 dX2_least_5 ?_
  cases h
  exact kr _ _ _ _ dX2_least_6 hW
theorem ctX33_least {S : St} {x1 : Int32}  {v : Int32} (h : fX33_least S x1 = some v) : Met l yX2_least (wm yX2_least cX2_least 2 (some .int)) (rmx 0 0) (pcm LX G S [.ref (ad G 33), .int x1]) (qcI LX G S v) 0 0 G.2.2.2 :=
  x_enter (own := RX2) rfl rfl (Nat.le_of_ble_eq_true rfl) (fun p e s m below meth c ls hC hr hk hW hl => wX33_least hC (Nat.le_refl _) (Nat.le_refl _)  h (fun H locs ls pc hd hW => x_reti hC hr hk hW hd) _ _ _ hW hl)
def fX0_ends (N : Nat) (S : St) (x1 : Int32) : Option (Int32 × St) :=
  Option.bind (fX0_refuseCell S x1) fun t1 =>
  if t1.1 = 0 then
    Option.bind (fX0_narrowAll N t1.2) fun t4 =>
    Option.bind (fX33_hasAny t4 x1) fun t6 =>
    if t6 = 0 then
      some ((-9), t4)
    else
      Option.bind (fX33_greatest t4 x1) fun t9 =>
      nx (p1 t4 0 12 t9) fun s11 =>
      Option.bind (fX33_least s11 x1) fun t13 =>
      some (t13, s11)
  else
    some (t1.1, t1.2)
set_option maxHeartbeats 4000000 in
set_option maxRecDepth 100000 in
theorem wX0_ends {N : Nat} {S : St} {x1 : Int32} (hC : CallFix p m c cX9_ends 3 s args lw_g RX9) (hF : 6 ≤ R.frames) (hL : 137 ≤ R.locals)  {v : Int32} {S' : St} (h : fX0_ends N S x1 = some (v, S')) (kr : ∀ (H : Heap) (locs : List Loc) (ls : Array Slot) (pc : Nat), decode cX9_ends pc = .ok (.ireturn, 1) → wg LX G (S') s H locs → W p l e R s m args below meth c H locs 0 0 Q (F0 m pc ls [.int v])) : ∀ (H : Heap) (locs : List Loc) (ls : Array Slot), wg LX G S s H locs → lv_has ls 3 [(0, .ref (ad G 0)), (1, .int x1)] → W p l e R s m args below meth c H locs 0 0 Q (F0 m 0 ls []) := by
  have hx := hC.1
  have hb := hC.2.1
  intro H locs ls hW hl
  unfold fX0_ends at h
  refine lv_aload_n hx hb dX9_ends_0 rfl (lv_at hl 0 rfl) ?_
  refine lv_iload_n hx hb dX9_ends_1 rfl (lv_at hl 1 rfl) ?_
  obtain ⟨t1, e2, h⟩ := bd h
  refine x_goi (x_rv (rest := []) hC hW (ctX0_refuseCell e2) (cwV_g hC.2.2.2.2 ml_X9_199 mi_X9_refuseCell md_X9_refuseCell ⟨(Nat.le_trans (Nat.le_of_ble_eq_true rfl) hF), (Nat.le_trans (Nat.le_of_ble_eq_true rfl) hL)⟩) (rcX0 hW) rfl hl.1 rfl (Nat.le_of_ble_eq_true rfl) dX9_ends_2) hW (fun H locs hW => ?_)
  refine lv_istore_n (lv' := [(2, .int t1.1), (0, .ref (ad G 0)), (1, .int x1)]) hx hb dX9_ends_5 rfl hl (by decide) rfl (fun ls hl => ?_)
  refine lv_iload_n hx hb dX9_ends_6 rfl (lv_at hl 0 rfl) ?_
  refine lv_if_eq (tgt := 12) hx hb dX9_ends_7 (by decide) (fun q3 => ?_) (fun q3 => ?_)
  · have h := it_p q3 h
    refine lv_aload_n hx hb dX9_ends_12 rfl (lv_at hl 1 rfl) ?_
    obtain ⟨t4, e5, h⟩ := bd h
    refine x_gov (x_rv (rest := []) hC hW (ctX0_narrowAll e5) (cwV_g hC.2.2.2.2 ml_X9_215 mi_X9_narrowAll md_X9_narrowAll ⟨(Nat.le_trans (Nat.le_of_ble_eq_true rfl) hF), (Nat.le_trans (Nat.le_of_ble_eq_true rfl) hL)⟩) (rcX0 hW) rfl hl.1 rfl (Nat.le_of_ble_eq_true rfl) dX9_ends_13) hW (fun H locs hW => ?_)
    refine lv_aload_n hx hb dX9_ends_16 rfl (lv_at hl 1 rfl) ?_
    refine gX0_6 hC hW dX9_ends_17 ?_
    refine lv_iload_n hx hb dX9_ends_20 rfl (lv_at hl 2 rfl) ?_
    obtain ⟨t6, e7, h⟩ := bd h
    refine x_goi (x_rv (rest := []) hC hW (ctX33_hasAny e7) (cwV_g hC.2.2.2.2 ml_X9_220 mi_X2_hasAny md_X2_hasAny ⟨(Nat.le_trans (Nat.le_of_ble_eq_true rfl) hF), (Nat.le_trans (Nat.le_of_ble_eq_true rfl) hL)⟩) (rcX33 hW) rfl hl.1 rfl (Nat.le_of_ble_eq_true rfl) dX9_ends_21) hW (fun H locs hW => ?_)
    refine lv_if_ne (tgt := 30) hx hb dX9_ends_24 (by decide) (fun q8 => ?_) (fun q8 => ?_)
    · have h := it_n q8 h
      refine lv_aload_n hx hb dX9_ends_30 rfl (lv_at hl 1 rfl) ?_
      refine lv_aload_n hx hb dX9_ends_31 rfl (lv_at hl 1 rfl) ?_
      refine gX0_6 hC hW dX9_ends_32 ?_
      refine lv_iload_n hx hb dX9_ends_35 rfl (lv_at hl 2 rfl) ?_
      obtain ⟨t9, e10, h⟩ := bd h
      refine x_goi (x_rv (rest := [.ref (ad G 0)]) hC hW (ctX33_greatest e10) (cwV_g hC.2.2.2.2 ml_X9_223 mi_X2_greatest md_X2_greatest ⟨(Nat.le_trans (Nat.le_of_ble_eq_true rfl) hF), (Nat.le_trans (Nat.le_of_ble_eq_true rfl) hL)⟩) (rcX33 hW) rfl hl.1 rfl (Nat.le_of_ble_eq_true rfl) dX9_ends_36) hW (fun H locs hW => ?_)
      refine pX0_12 hC hW dX9_ends_39 (fun H locs hW => ?_)
      obtain ⟨s11, e12, h⟩ := nx_some h
      rw [← e12] at hW
      refine lv_aload_n hx hb dX9_ends_42 rfl (lv_at hl 1 rfl) ?_
      refine gX0_6 hC hW dX9_ends_43 ?_
      refine lv_iload_n hx hb dX9_ends_46 rfl (lv_at hl 2 rfl) ?_
      obtain ⟨t13, e14, h⟩ := bd h
      refine x_goi (x_rv (rest := []) hC hW (ctX33_least e14) (cwV_g hC.2.2.2.2 ml_X9_226 mi_X2_least md_X2_least ⟨(Nat.le_trans (Nat.le_of_ble_eq_true rfl) hF), (Nat.le_trans (Nat.le_of_ble_eq_true rfl) hL)⟩) (rcX33 hW) rfl hl.1 rfl (Nat.le_of_ble_eq_true rfl) dX9_ends_47) hW (fun H locs hW => ?_)
      cases h
      exact kr _ _ _ _ dX9_ends_50 hW
    · have h := it_p q8 h
      refine lv_bipush (v := (-9)) hx hb dX9_ends_27 (by decide) ?_
      cases h
      exact kr _ _ _ _ dX9_ends_29 hW
  · have h := it_n q3 h
    refine lv_iload_n hx hb dX9_ends_10 rfl (lv_at hl 0 rfl) ?_
    cases h
    exact kr _ _ _ _ dX9_ends_11 hW
theorem ctX0_ends {N : Nat} {S : St} {x1 : Int32}  {v : Int32} {S' : St} (h : fX0_ends N S x1 = some (v, S')) : Met l yX9_ends (wm yX9_ends cX9_ends 3 (some .int)) (rmx 6 137) (pcm LX G S [.ref (ad G 0), .int x1]) (qcI LX G S' v) 0 0 G.2.2.2 :=
  x_enter (own := RX9) rfl rfl (Nat.le_of_ble_eq_true rfl) (fun p e s m below meth c ls hC hr hk hW hl => wX0_ends hC (Nat.le_refl _) (Nat.le_refl _)  h (fun H locs ls pc hd hW => x_reti hC hr hk hW hd) _ _ _ hW hl)
def fX0_may (N : Nat) (S : St) (x1 : Int32) (x2 : Int32) : Option (Int32 × St) :=
  Option.bind (fXs_isNumber S x2) fun t1 =>
  if t1 = 0 then
    some ((-1), S)
  else
    Option.bind (fX0_refuseCell S x1) fun t4 =>
    if t4.1 = 0 then
      Option.bind (fX0_narrowAll N t4.2) fun t7 =>
      Option.bind (fX33_isLeft t7 x1 x2) fun t9 =>
      Option.bind (α := Int32) (
        if t9 = 0 then
          some 0
        else
          some 1
      ) fun t12 =>
      some (t12, t7)
    else
      some (t4.1, t4.2)
set_option maxHeartbeats 4000000 in
set_option maxRecDepth 100000 in
theorem wX0_may {N : Nat} {S : St} {x1 : Int32} {x2 : Int32} (hC : CallFix p m c cX9_may 4 s args lw_g RX9) (hF : 6 ≤ R.frames) (hL : 137 ≤ R.locals)  {v : Int32} {S' : St} (h : fX0_may N S x1 x2 = some (v, S')) (kr : ∀ (H : Heap) (locs : List Loc) (ls : Array Slot) (pc : Nat), decode cX9_may pc = .ok (.ireturn, 1) → wg LX G (S') s H locs → W p l e R s m args below meth c H locs 0 0 Q (F0 m pc ls [.int v])) : ∀ (H : Heap) (locs : List Loc) (ls : Array Slot), wg LX G S s H locs → lv_has ls 4 [(0, .ref (ad G 0)), (1, .int x1), (2, .int x2)] → W p l e R s m args below meth c H locs 0 0 Q (F0 m 0 ls []) := by
  have hx := hC.1
  have hb := hC.2.1
  intro H locs ls hW hl
  unfold fX0_may at h
  refine lv_iload_n hx hb dX9_may_0 rfl (lv_at hl 2 rfl) ?_
  obtain ⟨t1, e2, h⟩ := bd h
  refine x_goi (x_rs (rest := []) hC hW (ctXs_isNumber e2) (cwS_g hC.2.2.2.2 ml_X9_196 ms_X9_isNumber md_X9_isNumber ⟨(Nat.le_trans (Nat.le_of_ble_eq_true rfl) hF), (Nat.le_trans (Nat.le_of_ble_eq_true rfl) hL)⟩) rfl hl.1 rfl (Nat.le_of_ble_eq_true rfl) dX9_may_1) hW (fun H locs hW => ?_)
  refine lv_if_ne (tgt := 9) hx hb dX9_may_4 (by decide) (fun q3 => ?_) (fun q3 => ?_)
  · have h := it_n q3 h
    refine lv_aload_n hx hb dX9_may_9 rfl (lv_at hl 0 rfl) ?_
    refine lv_iload_n hx hb dX9_may_10 rfl (lv_at hl 1 rfl) ?_
    obtain ⟨t4, e5, h⟩ := bd h
    refine x_goi (x_rv (rest := []) hC hW (ctX0_refuseCell e5) (cwV_g hC.2.2.2.2 ml_X9_199 mi_X9_refuseCell md_X9_refuseCell ⟨(Nat.le_trans (Nat.le_of_ble_eq_true rfl) hF), (Nat.le_trans (Nat.le_of_ble_eq_true rfl) hL)⟩) (rcX0 hW) rfl hl.1 rfl (Nat.le_of_ble_eq_true rfl) dX9_may_11) hW (fun H locs hW => ?_)
    refine lv_istore_n (lv' := [(3, .int t4.1), (0, .ref (ad G 0)), (1, .int x1), (2, .int x2)]) hx hb dX9_may_14 rfl hl (by decide) rfl (fun ls hl => ?_)
    refine lv_iload_n hx hb dX9_may_15 rfl (lv_at hl 0 rfl) ?_
    refine lv_if_eq (tgt := 21) hx hb dX9_may_16 (by decide) (fun q6 => ?_) (fun q6 => ?_)
    · have h := it_p q6 h
      refine lv_aload_n hx hb dX9_may_21 rfl (lv_at hl 1 rfl) ?_
      obtain ⟨t7, e8, h⟩ := bd h
      refine x_gov (x_rv (rest := []) hC hW (ctX0_narrowAll e8) (cwV_g hC.2.2.2.2 ml_X9_215 mi_X9_narrowAll md_X9_narrowAll ⟨(Nat.le_trans (Nat.le_of_ble_eq_true rfl) hF), (Nat.le_trans (Nat.le_of_ble_eq_true rfl) hL)⟩) (rcX0 hW) rfl hl.1 rfl (Nat.le_of_ble_eq_true rfl) dX9_may_22) hW (fun H locs hW => ?_)
      refine lv_aload_n hx hb dX9_may_25 rfl (lv_at hl 1 rfl) ?_
      refine gX0_6 hC hW dX9_may_26 ?_
      refine lv_iload_n hx hb dX9_may_29 rfl (lv_at hl 2 rfl) ?_
      refine lv_iload_n hx hb dX9_may_30 rfl (lv_at hl 3 rfl) ?_
      obtain ⟨t9, e10, h⟩ := bd h
      refine x_goi (x_rv (rest := []) hC hW (ctX33_isLeft e10) (cwV_g hC.2.2.2.2 ml_X9_229 mi_X2_isLeft md_X2_isLeft ⟨(Nat.le_trans (Nat.le_of_ble_eq_true rfl) hF), (Nat.le_trans (Nat.le_of_ble_eq_true rfl) hL)⟩) (rcX33 hW) rfl hl.1 rfl (Nat.le_of_ble_eq_true rfl) dX9_may_31) hW (fun H locs hW => ?_)
      obtain ⟨t12, e13, h⟩ := bd h
      have K11 : ∀ (H : Heap) (locs : List Loc) (ls : Array Slot), wg LX G t7 s H locs → lv_has ls 4 [] → W p l e R s m args below meth c H locs 0 0 Q (F0 m 42 ls [.int t12]) := by
        intro H locs ls hW hl
        cases h
        exact kr _ _ _ _ dX9_may_42 hW
      clear h
      have h := e13
      clear e13
      refine lv_if_eq (tgt := 41) hx hb dX9_may_34 (by decide) (fun q14 => ?_) (fun q14 => ?_)
      · have h := it_p q14 h
        refine lv_iconst (v := 0) hx hb dX9_may_41 (by decide) ?_
        cases h
        exact K11 _ _ _ hW (lv_sub hl [] rfl)
      · have h := it_n q14 h
        refine lv_iconst (v := 1) hx hb dX9_may_37 (by decide) ?_
        refine lv_goto (tgt := 42) hx hb dX9_may_38 (by decide) ?_
        cases h
        exact K11 _ _ _ hW (lv_sub hl [] rfl)
    · have h := it_n q6 h
      refine lv_iload_n hx hb dX9_may_19 rfl (lv_at hl 0 rfl) ?_
      cases h
      exact kr _ _ _ _ dX9_may_20 hW
  · have h := it_p q3 h
    refine lv_iconst (v := (-1)) hx hb dX9_may_7 (by decide) ?_
    cases h
    exact kr _ _ _ _ dX9_may_8 hW
theorem ctX0_may {N : Nat} {S : St} {x1 : Int32} {x2 : Int32}  {v : Int32} {S' : St} (h : fX0_may N S x1 x2 = some (v, S')) : Met l yX9_may (wm yX9_may cX9_may 4 (some .int)) (rmx 6 137) (pcm LX G S [.ref (ad G 0), .int x1, .int x2]) (qcI LX G S' v) 0 0 G.2.2.2 :=
  x_enter (own := RX9) rfl rfl (Nat.le_of_ble_eq_true rfl) (fun p e s m below meth c ls hC hr hk hW hl => wX0_may hC (Nat.le_refl _) (Nat.le_refl _)  h (fun H locs ls pc hd hW => x_reti hC hr hk hW hd) _ _ _ hW hl)
def fX33_canComeOut_L2 (N : Nat) (S : St) (x1 : Int32) : Nat → Int32 → Option ((Int32) ⊕ (Unit))
  | 0, _ => none
  | n + 1, x2 =>
    if 12 ≤ x2 then
      some (.inr ())
    else
      Option.bind (fX29_signOf S x1 x2) fun t2 =>
      if t2 = 0 then
        fX33_canComeOut_L2 N S x1 n (x2 + 1)
      else
        Option.bind (fX33_hasAny S x2) fun t5 =>
        if t5 = 0 then
          some (.inl 0)
        else
          fX33_canComeOut_L2 N S x1 n (x2 + 1)
set_option maxHeartbeats 4000000 in
set_option maxRecDepth 100000 in
theorem wX33_canComeOut_L2 {N : Nat} {S : St} {x1 : Int32} (hC : CallFix p m c cX2_canComeOut 3 s args lw_g RX2) (hF : 3 ≤ R.frames) (hL : 67 ≤ R.locals)  {t : (Int32) ⊕ (Unit)} (kr : ∀ r, t = .inl r → ∀ (H : Heap) (locs : List Loc) (ls : Array Slot) (pc : Nat), isb r = true → decode cX2_canComeOut pc = .ok (.ireturn, 1) → wg LX G S s H locs → W p l e R s m args below meth c H locs 0 0 Q (F0 m pc ls [.int r])) (kx : ∀ u, t = .inr u → ∀ (H : Heap) (locs : List Loc) (ls : Array Slot), wg LX G S s H locs → lv_has ls 3 [(0, .ref (ad G 33)), (1, .int x1)] → W p l e R s m args below meth c H locs 0 0 Q (F0 m 36 ls [])) : ∀ (n : Nat) (x2 : Int32), fX33_canComeOut_L2 N S x1 n x2 = some t → ∀ (H : Heap) (locs : List Loc) (ls : Array Slot), wg LX G S s H locs → lv_has ls 3 [(0, .ref (ad G 33)), (1, .int x1), (2, .int x2)] → W p l e R s m args below meth c H locs 0 0 Q (F0 m 2 ls []) := by
  have hx := hC.1
  have hb := hC.2.1
  intro n
  induction n with
  | zero =>
    intro _ h
    cases h
  | succ n ih =>
    intro x2 h H locs ls hW hl
    rw [fX33_canComeOut_L2] at h
    refine lv_iload_n hx hb dX2_canComeOut_2 rfl (lv_at hl 2 rfl) ?_
    refine lv_bipush (v := 12) hx hb dX2_canComeOut_3 (by decide) ?_
    refine lv_icmp_ge (tgt := 36) hx hb dX2_canComeOut_5 (by decide) (fun q1 => ?_) (fun q1 => ?_)
    · have h := it_p q1 h
      cases h
      exact kx _ rfl _ _ _ hW (lv_sub hl [0, 1] rfl)
    · have h := it_n q1 h
      refine lv_aload_n hx hb dX2_canComeOut_8 rfl (lv_at hl 0 rfl) ?_
      refine gX33_1 hC hW dX2_canComeOut_9 ?_
      refine lv_iload_n hx hb dX2_canComeOut_12 rfl (lv_at hl 1 rfl) ?_
      refine lv_iload_n hx hb dX2_canComeOut_13 rfl (lv_at hl 2 rfl) ?_
      obtain ⟨t2, e3, h⟩ := bd h
      refine x_goi (x_rv (rest := []) hC hW (ctX29_signOf e3) (cwV_g hC.2.2.2.2 ml_X2_80 mi_X7_signOf md_X7_signOf ⟨(Nat.le_trans (Nat.le_of_ble_eq_true rfl) hF), (Nat.le_trans (Nat.le_of_ble_eq_true rfl) hL)⟩) (rcX29 hW) rfl hl.1 rfl (Nat.le_of_ble_eq_true rfl) dX2_canComeOut_14) hW (fun H locs hW => ?_)
      refine lv_if_eq (tgt := 30) hx hb dX2_canComeOut_17 (by decide) (fun q4 => ?_) (fun q4 => ?_)
      · have h := it_p q4 h
        refine lv_iinc (v := x2 + 1) (lv' := [(2, .int (x2 + 1)), (0, .ref (ad G 33)), (1, .int x1)]) (k := 2) hx hb dX2_canComeOut_30 hl rfl rfl (by decide) rfl (fun ls hl => ?_)
        refine lv_goto (tgt := 2) hx hb dX2_canComeOut_33 (by decide) ?_
        exact ih _ h _ _ _ hW (lv_sub hl [1, 2, 0] rfl)
      · have h := it_n q4 h
        refine lv_aload_n hx hb dX2_canComeOut_20 rfl (lv_at hl 0 rfl) ?_
        refine lv_iload_n hx hb dX2_canComeOut_21 rfl (lv_at hl 2 rfl) ?_
        obtain ⟨t5, e6, h⟩ := bd h
        refine x_goi (x_rv (rest := []) hC hW (ctX33_hasAny e6) (cwV_g hC.2.2.2.2 ml_X2_112 mi_X2_hasAny md_X2_hasAny ⟨(Nat.le_trans (Nat.le_of_ble_eq_true rfl) hF), (Nat.le_trans (Nat.le_of_ble_eq_true rfl) hL)⟩) (rcX33 hW) rfl hl.1 rfl (Nat.le_of_ble_eq_true rfl) dX2_canComeOut_22) hW (fun H locs hW => ?_)
        refine lv_if_ne (tgt := 30) hx hb dX2_canComeOut_25 (by decide) (fun q7 => ?_) (fun q7 => ?_)
        · have h := it_n q7 h
          refine lv_iinc (v := x2 + 1) (lv' := [(2, .int (x2 + 1)), (0, .ref (ad G 33)), (1, .int x1)]) (k := 2) hx hb dX2_canComeOut_30 hl rfl rfl (by decide) rfl (fun ls hl => ?_)
          refine lv_goto (tgt := 2) hx hb dX2_canComeOut_33 (by decide) ?_
          exact ih _ h _ _ _ hW (lv_sub hl [1, 2, 0] rfl)
        · have h := it_p q7 h
          refine lv_iconst (v := 0) hx hb dX2_canComeOut_28 (by decide) ?_
          cases h
          exact kr _ rfl _ _ _ _ rfl dX2_canComeOut_29 hW
def fX33_canComeOut (N : Nat) (S : St) (x1 : Int32) : Option (Int32) :=
  Option.bind (fX33_canComeOut_L2 N S x1 N 0) fun t8 => sm t8 fun u10 =>
  Option.bind (fX33_leastOfSum N S x1) fun t11 =>
  Option.bind (fX29_totalOf S x1) fun t13 =>
  Option.bind (α := Int32) (
    if t13 < t11 then
      some 0
    else
      Option.bind (fX29_totalOf S x1) fun t19 =>
      Option.bind (fX33_greatestOfSum N S x1) fun t21 =>
      if t21 < t19 then
        some 0
      else
        some 1
  ) fun t16 =>
  gd (isb t16) <|
  some t16
set_option maxHeartbeats 4000000 in
set_option maxRecDepth 100000 in
theorem wX33_canComeOut {N : Nat} {S : St} {x1 : Int32} (hC : CallFix p m c cX2_canComeOut 3 s args lw_g RX2) (hF : 3 ≤ R.frames) (hL : 67 ≤ R.locals)  {v : Int32} (h : fX33_canComeOut N S x1 = some v) (kr : ∀ (H : Heap) (locs : List Loc) (ls : Array Slot) (pc : Nat), isb v = true → decode cX2_canComeOut pc = .ok (.ireturn, 1) → wg LX G S s H locs → W p l e R s m args below meth c H locs 0 0 Q (F0 m pc ls [.int v])) : ∀ (H : Heap) (locs : List Loc) (ls : Array Slot), wg LX G S s H locs → lv_has ls 3 [(0, .ref (ad G 33)), (1, .int x1)] → W p l e R s m args below meth c H locs 0 0 Q (F0 m 0 ls []) := by
  have hx := hC.1
  have hb := hC.2.1
  intro H locs ls hW hl
  unfold fX33_canComeOut at h
  refine lv_iconst (v := 0) hx hb dX2_canComeOut_0 (by decide) ?_
  refine lv_istore_n (lv' := [(2, .int 0), (0, .ref (ad G 33)), (1, .int x1)]) hx hb dX2_canComeOut_1 rfl hl (by decide) rfl (fun ls hl => ?_)
  obtain ⟨t8, e9, h⟩ := bd h
  refine wX33_canComeOut_L2 hC hF hL  (fun r er H locs ls pc hz hd hW => ?_) (fun u10 eu H locs ls hW hl => ?_) _ _ e9 _ _ _ hW (lv_sub hl [1, 2, 0] rfl)
  · rw [er] at h
    have h := sm_l h
    cases h
    exact kr _ _ _ _ hz hd hW
  · rw [eu] at h
    have h := sm_r h
    refine lv_aload_n hx hb dX2_canComeOut_36 rfl (lv_at hl 0 rfl) ?_
    refine lv_iload_n hx hb dX2_canComeOut_37 rfl (lv_at hl 1 rfl) ?_
    obtain ⟨t11, e12, h⟩ := bd h
    refine x_goi (x_rv (rest := []) hC hW (ctX33_leastOfSum e12) (cwV_g hC.2.2.2.2 ml_X2_74 mi_X2_leastOfSum md_X2_leastOfSum ⟨(Nat.le_trans (Nat.le_of_ble_eq_true rfl) hF), (Nat.le_trans (Nat.le_of_ble_eq_true rfl) hL)⟩) (rcX33 hW) rfl hl.1 rfl (Nat.le_of_ble_eq_true rfl) dX2_canComeOut_38) hW (fun H locs hW => ?_)
    refine lv_aload_n hx hb dX2_canComeOut_41 rfl (lv_at hl 0 rfl) ?_
    refine gX33_1 hC hW dX2_canComeOut_42 ?_
    refine lv_iload_n hx hb dX2_canComeOut_45 rfl (lv_at hl 1 rfl) ?_
    obtain ⟨t13, e14, h⟩ := bd h
    refine x_goi (x_rv (rest := [.int t11]) hC hW (ctX29_totalOf e14) (cwV_g hC.2.2.2.2 ml_X2_70 mi_X7_totalOf md_X7_totalOf ⟨(Nat.le_trans (Nat.le_of_ble_eq_true rfl) hF), (Nat.le_trans (Nat.le_of_ble_eq_true rfl) hL)⟩) (rcX29 hW) rfl hl.1 rfl (Nat.le_of_ble_eq_true rfl) dX2_canComeOut_46) hW (fun H locs hW => ?_)
    obtain ⟨t16, e17, h⟩ := bd h
    have K15 : ∀ (H : Heap) (locs : List Loc) (ls : Array Slot), wg LX G S s H locs → lv_has ls 3 [] → W p l e R s m args below meth c H locs 0 0 Q (F0 m 73 ls [.int t16]) := by
      intro H locs ls hW hl
      obtain ⟨g24, h⟩ := gd_some h
      cases h
      exact kr _ _ _ _ g24 dX2_canComeOut_73 hW
    clear h
    have h := e17
    clear e17
    refine lv_icmp_gt (tgt := 72) hx hb dX2_canComeOut_49 (by decide) (fun q18 => ?_) (fun q18 => ?_)
    · have h := it_p q18 h
      refine lv_iconst (v := 0) hx hb dX2_canComeOut_72 (by decide) ?_
      cases h
      exact K15 _ _ _ hW (lv_sub hl [] rfl)
    · have h := it_n q18 h
      refine lv_aload_n hx hb dX2_canComeOut_52 rfl (lv_at hl 0 rfl) ?_
      refine gX33_1 hC hW dX2_canComeOut_53 ?_
      refine lv_iload_n hx hb dX2_canComeOut_56 rfl (lv_at hl 1 rfl) ?_
      obtain ⟨t19, e20, h⟩ := bd h
      refine x_goi (x_rv (rest := []) hC hW (ctX29_totalOf e20) (cwV_g hC.2.2.2.2 ml_X2_70 mi_X7_totalOf md_X7_totalOf ⟨(Nat.le_trans (Nat.le_of_ble_eq_true rfl) hF), (Nat.le_trans (Nat.le_of_ble_eq_true rfl) hL)⟩) (rcX29 hW) rfl hl.1 rfl (Nat.le_of_ble_eq_true rfl) dX2_canComeOut_57) hW (fun H locs hW => ?_)
      refine lv_aload_n hx hb dX2_canComeOut_60 rfl (lv_at hl 0 rfl) ?_
      refine lv_iload_n hx hb dX2_canComeOut_61 rfl (lv_at hl 1 rfl) ?_
      obtain ⟨t21, e22, h⟩ := bd h
      refine x_goi (x_rv (rest := [.int t19]) hC hW (ctX33_greatestOfSum e22) (cwV_g hC.2.2.2.2 ml_X2_77 mi_X2_greatestOfSum md_X2_greatestOfSum ⟨(Nat.le_trans (Nat.le_of_ble_eq_true rfl) hF), (Nat.le_trans (Nat.le_of_ble_eq_true rfl) hL)⟩) (rcX33 hW) rfl hl.1 rfl (Nat.le_of_ble_eq_true rfl) dX2_canComeOut_62) hW (fun H locs hW => ?_)
      refine lv_icmp_gt (tgt := 72) hx hb dX2_canComeOut_65 (by decide) (fun q23 => ?_) (fun q23 => ?_)
      · have h := it_p q23 h
        refine lv_iconst (v := 0) hx hb dX2_canComeOut_72 (by decide) ?_
        cases h
        exact K15 _ _ _ hW (lv_sub hl [] rfl)
      · have h := it_n q23 h
        refine lv_iconst (v := 1) hx hb dX2_canComeOut_68 (by decide) ?_
        refine lv_goto (tgt := 73) hx hb dX2_canComeOut_69 (by decide) ?_
        cases h
        exact K15 _ _ _ hW (lv_sub hl [] rfl)
theorem ctX33_canComeOut {N : Nat} {S : St} {x1 : Int32}  {v : Int32} (h : fX33_canComeOut N S x1 = some v) : Met l yX2_canComeOut (wm yX2_canComeOut cX2_canComeOut 3 (some .boolean)) (rmx 3 67) (pcm LX G S [.ref (ad G 33), .int x1]) (qcI LX G S v) 0 0 G.2.2.2 :=
  x_enter (own := RX2) rfl rfl (Nat.le_of_ble_eq_true rfl) (fun p e s m below meth c ls hC hr hk hW hl => wX33_canComeOut hC (Nat.le_refl _) (Nat.le_refl _)  h (fun H locs ls pc hz hd hW => x_retz hC hr hk hW hz hd) _ _ _ hW hl)
def fX0_burnt_L9 (N : Nat) (S : St)  : Nat → Int32 → Option ((Int32 × St) ⊕ (Unit))
  | 0, _ => none
  | n + 1, x1 =>
    Option.bind (fX29_howMany S) fun t3 =>
    if t3 ≤ x1 then
      some (.inr ())
    else
      Option.bind (fX33_canComeOut N S x1) fun t6 =>
      if t6 = 0 then
        some (.inl (x1, S))
      else
        fX0_burnt_L9 N S n (x1 + 1)
set_option maxHeartbeats 4000000 in
set_option maxRecDepth 100000 in
theorem wX0_burnt_L9 {N : Nat} {S : St}  (hC : CallFix p m c cX9_burnt 2 s args lw_g RX9) (hF : 4 ≤ R.frames) (hL : 89 ≤ R.locals)  {t : (Int32 × St) ⊕ (Unit)} (kr : ∀ r, t = .inl r → ∀ (H : Heap) (locs : List Loc) (ls : Array Slot) (pc : Nat), decode cX9_burnt pc = .ok (.ireturn, 1) → wg LX G r.2 s H locs → W p l e R s m args below meth c H locs 0 0 Q (F0 m pc ls [.int r.1])) (kx : ∀ u, t = .inr u → ∀ (H : Heap) (locs : List Loc) (ls : Array Slot), wg LX G S s H locs → lv_has ls 2 [] → W p l e R s m args below meth c H locs 0 0 Q (F0 m 39 ls [])) : ∀ (n : Nat) (x1 : Int32), fX0_burnt_L9 N S  n x1 = some t → ∀ (H : Heap) (locs : List Loc) (ls : Array Slot), wg LX G S s H locs → lv_has ls 2 [(0, .ref (ad G 0)), (1, .int x1)] → W p l e R s m args below meth c H locs 0 0 Q (F0 m 9 ls []) := by
  have hx := hC.1
  have hb := hC.2.1
  intro n
  induction n with
  | zero =>
    intro _ h
    cases h
  | succ n ih =>
    intro x1 h H locs ls hW hl
    rw [fX0_burnt_L9] at h
    refine lv_iload_n hx hb dX9_burnt_9 rfl (lv_at hl 1 rfl) ?_
    refine lv_aload_n hx hb dX9_burnt_10 rfl (lv_at hl 0 rfl) ?_
    refine gX0_5 hC hW dX9_burnt_11 ?_
    obtain ⟨t3, e4, h⟩ := bd h
    refine x_goi (x_rv (rest := [.int x1]) hC hW (ctX29_howMany e4) (cwV_g hC.2.2.2.2 ml_X9_175 mi_X7_howMany md_X7_howMany ⟨(Nat.le_trans (Nat.le_of_ble_eq_true rfl) hF), (Nat.le_trans (Nat.le_of_ble_eq_true rfl) hL)⟩) (rcX29 hW) rfl hl.1 rfl (Nat.le_of_ble_eq_true rfl) dX9_burnt_14) hW (fun H locs hW => ?_)
    refine lv_icmp_ge (tgt := 39) hx hb dX9_burnt_17 (by decide) (fun q5 => ?_) (fun q5 => ?_)
    · have h := it_p q5 h
      cases h
      exact kx _ rfl _ _ _ hW (lv_sub hl [] rfl)
    · have h := it_n q5 h
      refine lv_aload_n hx hb dX9_burnt_20 rfl (lv_at hl 0 rfl) ?_
      refine gX0_6 hC hW dX9_burnt_21 ?_
      refine lv_iload_n hx hb dX9_burnt_24 rfl (lv_at hl 1 rfl) ?_
      obtain ⟨t6, e7, h⟩ := bd h
      refine x_goi (x_rv (rest := []) hC hW (ctX33_canComeOut e7) (cwV_g hC.2.2.2.2 ml_X9_233 mi_X2_canComeOut md_X2_canComeOut ⟨(Nat.le_trans (Nat.le_of_ble_eq_true rfl) hF), (Nat.le_trans (Nat.le_of_ble_eq_true rfl) hL)⟩) (rcX33 hW) rfl hl.1 rfl (Nat.le_of_ble_eq_true rfl) dX9_burnt_25) hW (fun H locs hW => ?_)
      refine lv_if_ne (tgt := 33) hx hb dX9_burnt_28 (by decide) (fun q8 => ?_) (fun q8 => ?_)
      · have h := it_n q8 h
        refine lv_iinc (v := x1 + 1) (lv' := [(1, .int (x1 + 1)), (0, .ref (ad G 0))]) (k := 1) hx hb dX9_burnt_33 hl rfl rfl (by decide) rfl (fun ls hl => ?_)
        refine lv_goto (tgt := 9) hx hb dX9_burnt_36 (by decide) ?_
        exact ih _ h _ _ _ hW (lv_sub hl [1, 0] rfl)
      · have h := it_p q8 h
        refine lv_iload_n hx hb dX9_burnt_31 rfl (lv_at hl 1 rfl) ?_
        cases h
        exact kr _ rfl _ _ _ _ dX9_burnt_32 hW
def fX0_burnt (N : Nat) (S : St)  : Option (Int32 × St) :=
  Option.bind (fX33_lookAtFirst N S) fun t1 =>
  Option.bind (fX0_burnt_L9 N t1 N 0) fun t9 => sm t9 fun u11 =>
  some ((-9), t1)
set_option maxHeartbeats 4000000 in
set_option maxRecDepth 100000 in
theorem wX0_burnt {N : Nat} {S : St}  (hC : CallFix p m c cX9_burnt 2 s args lw_g RX9) (hF : 4 ≤ R.frames) (hL : 89 ≤ R.locals)  {v : Int32} {S' : St} (h : fX0_burnt N S = some (v, S')) (kr : ∀ (H : Heap) (locs : List Loc) (ls : Array Slot) (pc : Nat), decode cX9_burnt pc = .ok (.ireturn, 1) → wg LX G (S') s H locs → W p l e R s m args below meth c H locs 0 0 Q (F0 m pc ls [.int v])) : ∀ (H : Heap) (locs : List Loc) (ls : Array Slot), wg LX G S s H locs → lv_has ls 2 [(0, .ref (ad G 0))] → W p l e R s m args below meth c H locs 0 0 Q (F0 m 0 ls []) := by
  have hx := hC.1
  have hb := hC.2.1
  intro H locs ls hW hl
  unfold fX0_burnt at h
  refine lv_aload_n hx hb dX9_burnt_0 rfl (lv_at hl 0 rfl) ?_
  refine gX0_6 hC hW dX9_burnt_1 ?_
  obtain ⟨t1, e2, h⟩ := bd h
  refine x_gov (x_rv (rest := []) hC hW (ctX33_lookAtFirst e2) (cwV_g hC.2.2.2.2 ml_X9_212 mi_X2_lookAtFirst md_X2_lookAtFirst ⟨(Nat.le_trans (Nat.le_of_ble_eq_true rfl) hF), (Nat.le_trans (Nat.le_of_ble_eq_true rfl) hL)⟩) (rcX33 hW) rfl hl.1 rfl (Nat.le_of_ble_eq_true rfl) dX9_burnt_4) hW (fun H locs hW => ?_)
  refine lv_iconst (v := 0) hx hb dX9_burnt_7 (by decide) ?_
  refine lv_istore_n (lv' := [(1, .int 0), (0, .ref (ad G 0))]) hx hb dX9_burnt_8 rfl hl (by decide) rfl (fun ls hl => ?_)
  obtain ⟨t9, e10, h⟩ := bd h
  refine wX0_burnt_L9 hC hF hL  (fun r er H locs ls pc hd hW => ?_) (fun u11 eu H locs ls hW hl => ?_) _ _ e10 _ _ _ hW (lv_sub hl [1, 0] rfl)
  · rw [er] at h
    have h := sm_l h
    cases h
    exact kr _ _ _ _ hd hW
  · rw [eu] at h
    have h := sm_r h
    refine lv_bipush (v := (-9)) hx hb dX9_burnt_39 (by decide) ?_
    cases h
    exact kr _ _ _ _ dX9_burnt_41 hW
theorem ctX0_burnt {N : Nat} {S : St}   {v : Int32} {S' : St} (h : fX0_burnt N S = some (v, S')) : Met l yX9_burnt (wm yX9_burnt cX9_burnt 2 (some .int)) (rmx 4 89) (pcm LX G S [.ref (ad G 0)]) (qcI LX G S' v) 0 0 G.2.2.2 :=
  x_enter (own := RX9) rfl rfl (Nat.le_of_ble_eq_true rfl) (fun p e s m below meth c ls hC hr hk hW hl => wX0_burnt hC (Nat.le_refl _) (Nat.le_refl _)  h (fun H locs ls pc hd hW => x_reti hC hr hk hW hd) _ _ _ hW hl)
def fXs_isTurns (S : St) (x0 : Int32) : Option (Int32) :=
  Option.bind (α := Int32) (
    if x0 < 1 then
      some 0
    else
      if 20000 < x0 then
        some 0
      else
        some 1
  ) fun t2 =>
  gd (isb t2) <|
  some t2
set_option maxHeartbeats 4000000 in
set_option maxRecDepth 100000 in
theorem wXs_isTurns {S : St} {x0 : Int32} (hC : CallFix p m c cX9_isTurns 1 s args lw_g RX9) (hF : 0 ≤ R.frames) (hL : 0 ≤ R.locals)  {v : Int32} (h : fXs_isTurns S x0 = some v) (kr : ∀ (H : Heap) (locs : List Loc) (ls : Array Slot) (pc : Nat), isb v = true → decode cX9_isTurns pc = .ok (.ireturn, 1) → wg LX G S s H locs → W p l e R s m args below meth c H locs 0 0 Q (F0 m pc ls [.int v])) : ∀ (H : Heap) (locs : List Loc) (ls : Array Slot), wg LX G S s H locs → lv_has ls 1 [(0, .int x0)] → W p l e R s m args below meth c H locs 0 0 Q (F0 m 0 ls []) := by
  have hx := hC.1
  have hb := hC.2.1
  intro H locs ls hW hl
  unfold fXs_isTurns at h
  refine lv_iload_n hx hb dX9_isTurns_0 rfl (lv_at hl 0 rfl) ?_
  refine lv_iconst (v := 1) hx hb dX9_isTurns_1 (by decide) ?_
  obtain ⟨t2, e3, h⟩ := bd h
  have K1 : ∀ (H : Heap) (locs : List Loc) (ls : Array Slot), wg LX G S s H locs → lv_has ls 1 [] → W p l e R s m args below meth c H locs 0 0 Q (F0 m 17 ls [.int t2]) := by
    intro H locs ls hW hl
    obtain ⟨g6, h⟩ := gd_some h
    cases h
    exact kr _ _ _ _ g6 dX9_isTurns_17 hW
  clear h
  have h := e3
  clear e3
  refine lv_icmp_lt (tgt := 16) hx hb dX9_isTurns_2 (by decide) (fun q4 => ?_) (fun q4 => ?_)
  · have h := it_p q4 h
    refine lv_iconst (v := 0) hx hb dX9_isTurns_16 (by decide) ?_
    cases h
    exact K1 _ _ _ hW (lv_sub hl [] rfl)
  · have h := it_n q4 h
    refine lv_iload_n hx hb dX9_isTurns_5 rfl (lv_at hl 0 rfl) ?_
    refine lv_sipush (v := 20000) hx hb dX9_isTurns_6 (by decide) ?_
    refine lv_icmp_gt (tgt := 16) hx hb dX9_isTurns_9 (by decide) (fun q5 => ?_) (fun q5 => ?_)
    · have h := it_p q5 h
      refine lv_iconst (v := 0) hx hb dX9_isTurns_16 (by decide) ?_
      cases h
      exact K1 _ _ _ hW (lv_sub hl [] rfl)
    · have h := it_n q5 h
      refine lv_iconst (v := 1) hx hb dX9_isTurns_12 (by decide) ?_
      refine lv_goto (tgt := 17) hx hb dX9_isTurns_13 (by decide) ?_
      cases h
      exact K1 _ _ _ hW (lv_sub hl [] rfl)
theorem ctXs_isTurns {S : St} {x0 : Int32}  {v : Int32} (h : fXs_isTurns S x0 = some v) : Met l yX9_isTurns (wm yX9_isTurns cX9_isTurns 1 (some .boolean)) (rmx 0 0) (pcm LX G S [.int x0]) (qcI LX G S v) 0 0 G.2.2.2 :=
  x_enter (own := RX9) rfl rfl (Nat.le_of_ble_eq_true rfl) (fun p e s m below meth c ls hC hr hk hW hl => wXs_isTurns hC (Nat.le_refl _) (Nat.le_refl _)  h (fun H locs ls pc hz hd hW => x_retz hC hr hk hW hz hd) _ _ _ hW hl)
def fX37_forgetTally_L2 (N : Nat)  : Nat → St → Int32 → Option (St)
  | 0, _, _ => none
  | n + 1, S, x1 =>
    if 1200 ≤ x1 then
      some S
    else
      gd (inb x1 1200) <|
      nx (p1 S 41 (Int32.toNatClampNeg x1) 0) fun s3 =>
      fX37_forgetTally_L2 N n s3 (x1 + 1)
set_option maxHeartbeats 4000000 in
set_option maxRecDepth 100000 in
theorem wX37_forgetTally_L2 {N : Nat}  (hC : CallFix p m c cX8_forgetTally 2 s args lw_g RX8) (hF : 0 ≤ R.frames) (hL : 0 ≤ R.locals)  {t : St} (kx : ∀ (H : Heap) (locs : List Loc) (ls : Array Slot), wg LX G t s H locs → lv_has ls 2 [] → W p l e R s m args below meth c H locs 0 0 Q (F0 m 24 ls [])) : ∀ (n : Nat) (S : St) (x1 : Int32), fX37_forgetTally_L2 N  n S x1 = some t → ∀ (H : Heap) (locs : List Loc) (ls : Array Slot), wg LX G S s H locs → lv_has ls 2 [(0, .ref (ad G 37)), (1, .int x1)] → W p l e R s m args below meth c H locs 0 0 Q (F0 m 2 ls []) := by
  have hx := hC.1
  have hb := hC.2.1
  intro n
  induction n with
  | zero =>
    intro _ _ h
    cases h
  | succ n ih =>
    intro S x1 h H locs ls hW hl
    rw [fX37_forgetTally_L2] at h
    refine lv_iload_n hx hb dX8_forgetTally_2 rfl (lv_at hl 1 rfl) ?_
    refine lv_aload_n hx hb dX8_forgetTally_3 rfl (lv_at hl 0 rfl) ?_
    refine gX37_6 hC hW dX8_forgetTally_4 ?_
    refine x_alen (v := 1200) hC hW aX41 rfl dX8_forgetTally_7 ?_
    refine lv_icmp_ge (tgt := 24) hx hb dX8_forgetTally_8 (by decide) (fun q1 => ?_) (fun q1 => ?_)
    · have h := it_p q1 h
      cases h
      exact kx _ _ _ hW (lv_sub hl [] rfl)
    · have h := it_n q1 h
      refine lv_aload_n hx hb dX8_forgetTally_11 rfl (lv_at hl 0 rfl) ?_
      refine gX37_6 hC hW dX8_forgetTally_12 ?_
      refine lv_iload_n hx hb dX8_forgetTally_15 rfl (lv_at hl 1 rfl) ?_
      refine lv_iconst (v := 0) hx hb dX8_forgetTally_16 (by decide) ?_
      obtain ⟨g2, h⟩ := gd_some h
      refine x_iast hC hW aX41 g2 dX8_forgetTally_17 (fun H locs hW => ?_)
      obtain ⟨s3, e4, h⟩ := nx_some h
      rw [← e4] at hW
      refine lv_iinc (v := x1 + 1) (lv' := [(1, .int (x1 + 1)), (0, .ref (ad G 37))]) (k := 1) hx hb dX8_forgetTally_18 hl rfl rfl (by decide) rfl (fun ls hl => ?_)
      refine lv_goto (tgt := 2) hx hb dX8_forgetTally_21 (by decide) ?_
      exact ih _ _ h _ _ _ hW (lv_sub hl [1, 0] rfl)
def fX37_forgetTally (N : Nat) (S : St)  : Option (St) :=
  Option.bind (fX37_forgetTally_L2 N N S 0) fun t5 =>
  some t5
set_option maxHeartbeats 4000000 in
set_option maxRecDepth 100000 in
theorem wX37_forgetTally {N : Nat} {S : St}  (hC : CallFix p m c cX8_forgetTally 2 s args lw_g RX8) (hF : 0 ≤ R.frames) (hL : 0 ≤ R.locals)  {S' : St} (h : fX37_forgetTally N S = some (S')) (kr : ∀ (H : Heap) (locs : List Loc) (ls : Array Slot) (pc : Nat), decode cX8_forgetTally pc = .ok (.return_, 1) → wg LX G (S') s H locs → W p l e R s m args below meth c H locs 0 0 Q (F0 m pc ls [])) : ∀ (H : Heap) (locs : List Loc) (ls : Array Slot), wg LX G S s H locs → lv_has ls 2 [(0, .ref (ad G 37))] → W p l e R s m args below meth c H locs 0 0 Q (F0 m 0 ls []) := by
  have hx := hC.1
  have hb := hC.2.1
  intro H locs ls hW hl
  unfold fX37_forgetTally at h
  refine lv_iconst (v := 0) hx hb dX8_forgetTally_0 (by decide) ?_
  refine lv_istore_n (lv' := [(1, .int 0), (0, .ref (ad G 37))]) hx hb dX8_forgetTally_1 rfl hl (by decide) rfl (fun ls hl => ?_)
  obtain ⟨t5, e6, h⟩ := bd h
  refine wX37_forgetTally_L2 hC hF hL  (fun H locs ls hW hl => ?_) _ _ _ e6 _ _ _ hW (lv_sub hl [1, 0] rfl)
  cases h
  exact kr _ _ _ _ dX8_forgetTally_24 hW
theorem ctX37_forgetTally {N : Nat} {S : St}   {S' : St} (h : fX37_forgetTally N S = some (S')) : Met l yX8_forgetTally (wm yX8_forgetTally cX8_forgetTally 2 none) (rmx 0 0) (pcm LX G S [.ref (ad G 37)]) (qcV LX G S') 0 0 G.2.2.2 :=
  x_enter (own := RX8) rfl rfl (Nat.le_of_ble_eq_true rfl) (fun p e s m below meth c ls hC hr hk hW hl => wX37_forgetTally hC (Nat.le_refl _) (Nat.le_refl _)  h (fun H locs ls pc hd hW => x_retv hC hr hk hW hd) _ _ _ hW hl)
def fX25_looksAtOthers (S : St) (x1 : Int32) : Option (Int32) :=
  gd (inb x1 12) <|
  Option.bind (α := Int32) (
    if (S.1 26 (Int32.toNatClampNeg x1)) = 2 then
      some 1
    else
      gd (inb x1 12) <|
      if (S.1 26 (Int32.toNatClampNeg x1)) = 3 then
        some 1
      else
        gd (inb x1 12) <|
        if (S.1 26 (Int32.toNatClampNeg x1)) = 4 then
          some 1
        else
          some 0
  ) fun t3 =>
  gd (isb t3) <|
  some t3
set_option maxHeartbeats 4000000 in
set_option maxRecDepth 100000 in
theorem wX25_looksAtOthers {S : St} {x1 : Int32} (hC : CallFix p m c cX0_looksAtOthers 2 s args lw_g RX0) (hF : 0 ≤ R.frames) (hL : 0 ≤ R.locals)  {v : Int32} (h : fX25_looksAtOthers S x1 = some v) (kr : ∀ (H : Heap) (locs : List Loc) (ls : Array Slot) (pc : Nat), isb v = true → decode cX0_looksAtOthers pc = .ok (.ireturn, 1) → wg LX G S s H locs → W p l e R s m args below meth c H locs 0 0 Q (F0 m pc ls [.int v])) : ∀ (H : Heap) (locs : List Loc) (ls : Array Slot), wg LX G S s H locs → lv_has ls 2 [(0, .ref (ad G 25)), (1, .int x1)] → W p l e R s m args below meth c H locs 0 0 Q (F0 m 0 ls []) := by
  have hx := hC.1
  have hb := hC.2.1
  intro H locs ls hW hl
  unfold fX25_looksAtOthers at h
  refine lv_aload_n hx hb dX0_looksAtOthers_0 rfl (lv_at hl 0 rfl) ?_
  refine gX25_1 hC hW dX0_looksAtOthers_1 ?_
  refine lv_iload_n hx hb dX0_looksAtOthers_4 rfl (lv_at hl 1 rfl) ?_
  obtain ⟨g1, h⟩ := gd_some h
  refine x_iald hC hW aX26 g1 dX0_looksAtOthers_5 ?_
  refine lv_iconst (v := 2) hx hb dX0_looksAtOthers_6 (by decide) ?_
  obtain ⟨t3, e4, h⟩ := bd h
  have K2 : ∀ (H : Heap) (locs : List Loc) (ls : Array Slot), wg LX G S s H locs → lv_has ls 2 [] → W p l e R s m args below meth c H locs 0 0 Q (F0 m 35 ls [.int t3]) := by
    intro H locs ls hW hl
    obtain ⟨g10, h⟩ := gd_some h
    cases h
    exact kr _ _ _ _ g10 dX0_looksAtOthers_35 hW
  clear h
  have h := e4
  clear e4
  refine lv_icmp_eq (tgt := 30) hx hb dX0_looksAtOthers_7 (by decide) (fun q5 => ?_) (fun q5 => ?_)
  · have h := it_p q5 h
    refine lv_iconst (v := 1) hx hb dX0_looksAtOthers_30 (by decide) ?_
    refine lv_goto (tgt := 35) hx hb dX0_looksAtOthers_31 (by decide) ?_
    cases h
    exact K2 _ _ _ hW (lv_sub hl [] rfl)
  · have h := it_n q5 h
    refine lv_aload_n hx hb dX0_looksAtOthers_10 rfl (lv_at hl 0 rfl) ?_
    refine gX25_1 hC hW dX0_looksAtOthers_11 ?_
    refine lv_iload_n hx hb dX0_looksAtOthers_14 rfl (lv_at hl 1 rfl) ?_
    obtain ⟨g6, h⟩ := gd_some h
    refine x_iald hC hW aX26 g6 dX0_looksAtOthers_15 ?_
    refine lv_iconst (v := 3) hx hb dX0_looksAtOthers_16 (by decide) ?_
    refine lv_icmp_eq (tgt := 30) hx hb dX0_looksAtOthers_17 (by decide) (fun q7 => ?_) (fun q7 => ?_)
    · have h := it_p q7 h
      refine lv_iconst (v := 1) hx hb dX0_looksAtOthers_30 (by decide) ?_
      refine lv_goto (tgt := 35) hx hb dX0_looksAtOthers_31 (by decide) ?_
      cases h
      exact K2 _ _ _ hW (lv_sub hl [] rfl)
    · have h := it_n q7 h
      refine lv_aload_n hx hb dX0_looksAtOthers_20 rfl (lv_at hl 0 rfl) ?_
      refine gX25_1 hC hW dX0_looksAtOthers_21 ?_
      refine lv_iload_n hx hb dX0_looksAtOthers_24 rfl (lv_at hl 1 rfl) ?_
      obtain ⟨g8, h⟩ := gd_some h
      refine x_iald hC hW aX26 g8 dX0_looksAtOthers_25 ?_
      refine lv_iconst (v := 4) hx hb dX0_looksAtOthers_26 (by decide) ?_
      refine lv_icmp_ne (tgt := 34) hx hb dX0_looksAtOthers_27 (by decide) (fun q9 => ?_) (fun q9 => ?_)
      · have h := it_n q9 h
        refine lv_iconst (v := 0) hx hb dX0_looksAtOthers_34 (by decide) ?_
        cases h
        exact K2 _ _ _ hW (lv_sub hl [] rfl)
      · have h := it_p q9 h
        refine lv_iconst (v := 1) hx hb dX0_looksAtOthers_30 (by decide) ?_
        refine lv_goto (tgt := 35) hx hb dX0_looksAtOthers_31 (by decide) ?_
        cases h
        exact K2 _ _ _ hW (lv_sub hl [] rfl)
theorem ctX25_looksAtOthers {S : St} {x1 : Int32}  {v : Int32} (h : fX25_looksAtOthers S x1 = some v) : Met l yX0_looksAtOthers (wm yX0_looksAtOthers cX0_looksAtOthers 2 (some .boolean)) (rmx 0 0) (pcm LX G S [.ref (ad G 25), .int x1]) (qcI LX G S v) 0 0 G.2.2.2 :=
  x_enter (own := RX0) rfl rfl (Nat.le_of_ble_eq_true rfl) (fun p e s m below meth c ls hC hr hk hW hl => wX25_looksAtOthers hC (Nat.le_refl _) (Nat.le_refl _)  h (fun H locs ls pc hz hd hW => x_retz hC hr hk hW hz hd) _ _ _ hW hl)
def fX25_lastNamed (S : St) (x1 : Int32) : Option (Int32) :=
  gd (inb x1 12) <|
  if (S.1 26 (Int32.toNatClampNeg x1)) = 2 then
    gd (inb x1 12) <|
    gd (inb x1 12) <|
    nx ((if (S.1 27 (Int32.toNatClampNeg x1)) < (S.1 28 (Int32.toNatClampNeg x1)) then (S.1 28 (Int32.toNatClampNeg x1)) else (S.1 27 (Int32.toNatClampNeg x1)))) fun y5 =>
    nx ((if x1 < y5 then y5 else x1)) fun y7 =>
    some y7
  else
  if (S.1 26 (Int32.toNatClampNeg x1)) = 4 then
    gd (inb x1 12) <|
    nx ((if x1 < (S.1 27 (Int32.toNatClampNeg x1)) then (S.1 27 (Int32.toNatClampNeg x1)) else x1)) fun y10 =>
    some y10
  else
  some x1
set_option maxHeartbeats 4000000 in
set_option maxRecDepth 100000 in
theorem wX25_lastNamed {S : St} {x1 : Int32} (hC : CallFix p m c cX0_lastNamed 2 s args lw_g RX0) (hF : 1 ≤ R.frames) (hL : 21 ≤ R.locals)  {v : Int32} (h : fX25_lastNamed S x1 = some v) (kr : ∀ (H : Heap) (locs : List Loc) (ls : Array Slot) (pc : Nat), decode cX0_lastNamed pc = .ok (.ireturn, 1) → wg LX G S s H locs → W p l e R s m args below meth c H locs 0 0 Q (F0 m pc ls [.int v])) : ∀ (H : Heap) (locs : List Loc) (ls : Array Slot), wg LX G S s H locs → lv_has ls 2 [(0, .ref (ad G 25)), (1, .int x1)] → W p l e R s m args below meth c H locs 0 0 Q (F0 m 0 ls []) := by
  have hx := hC.1
  have hb := hC.2.1
  intro H locs ls hW hl
  unfold fX25_lastNamed at h
  refine lv_aload_n hx hb dX0_lastNamed_0 rfl (lv_at hl 0 rfl) ?_
  refine gX25_1 hC hW dX0_lastNamed_1 ?_
  refine lv_iload_n hx hb dX0_lastNamed_4 rfl (lv_at hl 1 rfl) ?_
  obtain ⟨g1, h⟩ := gd_some h
  refine x_iald hC hW aX26 g1 dX0_lastNamed_5 ?_
  by_cases q2_0 : (S.1 26 (Int32.toNatClampNeg x1)) = 2
  · have h := it_p q2_0 h
    refine lv_lookup (off := 26) (tgt := 32) hx hb dX0_lastNamed_6 (by decide) (by rw [q2_0]; rfl) (by decide) ?_
    refine lv_iload_n hx hb dX0_lastNamed_32 rfl (lv_at hl 1 rfl) ?_
    refine lv_aload_n hx hb dX0_lastNamed_33 rfl (lv_at hl 0 rfl) ?_
    refine gX25_2 hC hW dX0_lastNamed_34 ?_
    refine lv_iload_n hx hb dX0_lastNamed_37 rfl (lv_at hl 1 rfl) ?_
    obtain ⟨g3, h⟩ := gd_some h
    refine x_iald hC hW aX27 g3 dX0_lastNamed_38 ?_
    refine lv_aload_n hx hb dX0_lastNamed_39 rfl (lv_at hl 0 rfl) ?_
    refine gX25_3 hC hW dX0_lastNamed_40 ?_
    refine lv_iload_n hx hb dX0_lastNamed_43 rfl (lv_at hl 1 rfl) ?_
    obtain ⟨g4, h⟩ := gd_some h
    refine x_iald hC hW aX28 g4 dX0_lastNamed_44 ?_
    refine va_mmax hx hb (hC.2.2.1.trans hl.1.symm) hC.2.2.2.1 (hC.2.2.2.2 _ ml_X0_59) (hC.2.2.2.2 _ mw_max.1) (hC.2.2.2.2 _ mw_max.2.1) (hC.2.2.2.2 _ mw_max.2.2) (Nat.le_trans (Nat.le_of_ble_eq_true rfl) hF) (Nat.le_trans (Nat.le_of_ble_eq_true rfl) hL) (Nat.zero_le _) (Nat.zero_le _) dX0_lastNamed_45 ?_
    obtain ⟨y5, e6, h⟩ := nx_some h
    refine x_topi e6 ?_
    refine va_mmax hx hb (hC.2.2.1.trans hl.1.symm) hC.2.2.2.1 (hC.2.2.2.2 _ ml_X0_59) (hC.2.2.2.2 _ mw_max.1) (hC.2.2.2.2 _ mw_max.2.1) (hC.2.2.2.2 _ mw_max.2.2) (Nat.le_trans (Nat.le_of_ble_eq_true rfl) hF) (Nat.le_trans (Nat.le_of_ble_eq_true rfl) hL) (Nat.zero_le _) (Nat.zero_le _) dX0_lastNamed_48 ?_
    obtain ⟨y7, e8, h⟩ := nx_some h
    refine x_topi e8 ?_
    cases h
    exact kr _ _ _ _ dX0_lastNamed_51 hW
  have h := it_n q2_0 h
  by_cases q2_1 : (S.1 26 (Int32.toNatClampNeg x1)) = 4
  · have h := it_p q2_1 h
    refine lv_lookup (off := 46) (tgt := 52) hx hb dX0_lastNamed_6 (by decide) (by rw [q2_1]; rfl) (by decide) ?_
    refine lv_iload_n hx hb dX0_lastNamed_52 rfl (lv_at hl 1 rfl) ?_
    refine lv_aload_n hx hb dX0_lastNamed_53 rfl (lv_at hl 0 rfl) ?_
    refine gX25_2 hC hW dX0_lastNamed_54 ?_
    refine lv_iload_n hx hb dX0_lastNamed_57 rfl (lv_at hl 1 rfl) ?_
    obtain ⟨g9, h⟩ := gd_some h
    refine x_iald hC hW aX27 g9 dX0_lastNamed_58 ?_
    refine va_mmax hx hb (hC.2.2.1.trans hl.1.symm) hC.2.2.2.1 (hC.2.2.2.2 _ ml_X0_59) (hC.2.2.2.2 _ mw_max.1) (hC.2.2.2.2 _ mw_max.2.1) (hC.2.2.2.2 _ mw_max.2.2) (Nat.le_trans (Nat.le_of_ble_eq_true rfl) hF) (Nat.le_trans (Nat.le_of_ble_eq_true rfl) hL) (Nat.zero_le _) (Nat.zero_le _) dX0_lastNamed_59 ?_
    obtain ⟨y10, e11, h⟩ := nx_some h
    refine x_topi e11 ?_
    cases h
    exact kr _ _ _ _ dX0_lastNamed_62 hW
  have h := it_n q2_1 h
  have q2_0i := lv_neT (a := 2) q2_0 (by decide)
  have q2_1i := lv_neT (a := 4) q2_1 (by decide)
  refine lv_lookup (off := 57) (tgt := 63) hx hb dX0_lastNamed_6 (by decide) ((lv_osw q2_0 (by decide)).trans ((lv_osw q2_1 (by decide)).trans (rfl))) (by decide) ?_
  refine lv_iload_n hx hb dX0_lastNamed_63 rfl (lv_at hl 1 rfl) ?_
  cases h
  exact kr _ _ _ _ dX0_lastNamed_64 hW
theorem ctX25_lastNamed {S : St} {x1 : Int32}  {v : Int32} (h : fX25_lastNamed S x1 = some v) : Met l yX0_lastNamed (wm yX0_lastNamed cX0_lastNamed 2 (some .int)) (rmx 1 21) (pcm LX G S [.ref (ad G 25), .int x1]) (qcI LX G S v) 0 0 G.2.2.2 :=
  x_enter (own := RX0) rfl rfl (Nat.le_of_ble_eq_true rfl) (fun p e s m below meth c ls hC hr hk hW hl => wX25_lastNamed hC (Nat.le_refl _) (Nat.le_refl _)  h (fun H locs ls pc hd hW => x_reti hC hr hk hW hd) _ _ _ hW hl)
end GEN
