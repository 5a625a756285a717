section GEN
variable {p : Program} {l : Launch} {e : Env} {R : Room} {s : State} {m : MethodId} {args : Array Value} {below : List Frame} {meth : Method} {c : Code} {H : Heap} {locs : List Loc} {Q : State → Prop} {G : GG}
def fX17_isFigureSign (S : St)  : Option (Int32) :=
  Option.bind (fX17_isFigure S) fun t1 =>
  Option.bind (α := Int32) (
    if t1 = 0 then
      Option.bind (fX17_sign S) fun t7 =>
      if t7 = 63 then
        some 1
      else
        Option.bind (fX17_sign S) fun t10 =>
        if t10 = 120 then
          some 1
        else
          some 0
    else
      some 1
  ) fun t4 =>
  gd (isb t4) <|
  some t4
set_option maxHeartbeats 4000000 in
set_option maxRecDepth 100000 in
theorem wX17_isFigureSign {S : St}  (hC : CallFix p m c cX5_isFigureSign 1 s args lw_g RX5) (hF : 2 ≤ R.frames) (hL : 40 ≤ R.locals)  {v : Int32} (h : fX17_isFigureSign S = some v) (kr : ∀ (H : Heap) (locs : List Loc) (ls : Array Slot) (pc : Nat), isb v = true → decode cX5_isFigureSign pc = .ok (.ireturn, 1) → wg LX G S s H locs → W p l e R s m args below meth c H locs 0 0 Q (F0 m pc ls [.int v])) : ∀ (H : Heap) (locs : List Loc) (ls : Array Slot), wg LX G S s H locs → lv_has ls 1 [(0, .ref (ad G 17))] → W p l e R s m args below meth c H locs 0 0 Q (F0 m 0 ls []) := by
  have hx := hC.1
  have hb := hC.2.1
  intro H locs ls hW hl
  unfold fX17_isFigureSign at h
  refine lv_aload_n hx hb dX5_isFigureSign_0 rfl (lv_at hl 0 rfl) ?_
  obtain ⟨t1, e2, h⟩ := bd h
  refine x_goi (x_rv (rest := []) hC hW (ctX17_isFigure e2) (cwV_g hC.2.2.2.2 ml_X5_88 mi_X5_isFigure md_X5_isFigure ⟨(Nat.le_trans (Nat.le_of_ble_eq_true rfl) hF), (Nat.le_trans (Nat.le_of_ble_eq_true rfl) hL)⟩) (rcX17 hW) rfl hl.1 rfl (Nat.le_of_ble_eq_true rfl) dX5_isFigureSign_1) hW (fun H locs hW => ?_)
  obtain ⟨t4, e5, h⟩ := bd h
  have K3 : ∀ (H : Heap) (locs : List Loc) (ls : Array Slot), wg LX G S s H locs → lv_has ls 1 [] → W p l e R s m args below meth c H locs 0 0 Q (F0 m 30 ls [.int t4]) := by
    intro H locs ls hW hl
    obtain ⟨g13, h⟩ := gd_some h
    cases h
    exact kr _ _ _ _ g13 dX5_isFigureSign_30 hW
  clear h
  have h := e5
  clear e5
  refine lv_if_ne (tgt := 25) hx hb dX5_isFigureSign_4 (by decide) (fun q6 => ?_) (fun q6 => ?_)
  · have h := it_n q6 h
    refine lv_iconst (v := 1) hx hb dX5_isFigureSign_25 (by decide) ?_
    refine lv_goto (tgt := 30) hx hb dX5_isFigureSign_26 (by decide) ?_
    cases h
    exact K3 _ _ _ hW (lv_sub hl [] rfl)
  · have h := it_p q6 h
    refine lv_aload_n hx hb dX5_isFigureSign_7 rfl (lv_at hl 0 rfl) ?_
    obtain ⟨t7, e8, h⟩ := bd h
    refine x_goi (x_rv (rest := []) hC hW (ctX17_sign e8) (cwV_g hC.2.2.2.2 ml_X5_57 mi_X5_sign md_X5_sign ⟨(Nat.le_trans (Nat.le_of_ble_eq_true rfl) hF), (Nat.le_trans (Nat.le_of_ble_eq_true rfl) hL)⟩) (rcX17 hW) rfl hl.1 rfl (Nat.le_of_ble_eq_true rfl) dX5_isFigureSign_8) hW (fun H locs hW => ?_)
    refine lv_bipush (v := 63) hx hb dX5_isFigureSign_11 (by decide) ?_
    refine lv_icmp_eq (tgt := 25) hx hb dX5_isFigureSign_13 (by decide) (fun q9 => ?_) (fun q9 => ?_)
    · have h := it_p q9 h
      refine lv_iconst (v := 1) hx hb dX5_isFigureSign_25 (by decide) ?_
      refine lv_goto (tgt := 30) hx hb dX5_isFigureSign_26 (by decide) ?_
      cases h
      exact K3 _ _ _ hW (lv_sub hl [] rfl)
    · have h := it_n q9 h
      refine lv_aload_n hx hb dX5_isFigureSign_16 rfl (lv_at hl 0 rfl) ?_
      obtain ⟨t10, e11, h⟩ := bd h
      refine x_goi (x_rv (rest := []) hC hW (ctX17_sign e11) (cwV_g hC.2.2.2.2 ml_X5_57 mi_X5_sign md_X5_sign ⟨(Nat.le_trans (Nat.le_of_ble_eq_true rfl) hF), (Nat.le_trans (Nat.le_of_ble_eq_true rfl) hL)⟩) (rcX17 hW) rfl hl.1 rfl (Nat.le_of_ble_eq_true rfl) dX5_isFigureSign_17) hW (fun H locs hW => ?_)
      refine lv_bipush (v := 120) hx hb dX5_isFigureSign_20 (by decide) ?_
      refine lv_icmp_ne (tgt := 29) hx hb dX5_isFigureSign_22 (by decide) (fun q12 => ?_) (fun q12 => ?_)
      · have h := it_n q12 h
        refine lv_iconst (v := 0) hx hb dX5_isFigureSign_29 (by decide) ?_
        cases h
        exact K3 _ _ _ hW (lv_sub hl [] rfl)
      · have h := it_p q12 h
        refine lv_iconst (v := 1) hx hb dX5_isFigureSign_25 (by decide) ?_
        refine lv_goto (tgt := 30) hx hb dX5_isFigureSign_26 (by decide) ?_
        cases h
        exact K3 _ _ _ hW (lv_sub hl [] rfl)
theorem ctX17_isFigureSign {S : St}   {v : Int32} (h : fX17_isFigureSign S = some v) : Met l yX5_isFigureSign (wm yX5_isFigureSign cX5_isFigureSign 1 (some .boolean)) (rmx 2 40) (pcm LX G S [.ref (ad G 17)]) (qcI LX G S v) 0 0 G.2.2.2 :=
  x_enter (own := RX5) rfl rfl (Nat.le_of_ble_eq_true rfl) (fun p e s m below meth c ls hC hr hk hW hl => wX17_isFigureSign hC (Nat.le_refl _) (Nat.le_refl _)  h (fun H locs ls pc hz hd hW => x_retz hC hr hk hW hz hd) _ _ _ hW hl)
def fX17_readFigure (S : St) (x1 : Int32) : Option (St) :=
  Option.bind (fX17_isFigureSign S) fun t1 =>
  if t1 = 0 then
    nx (p1 S 17 6 1) fun s20 =>
    some s20
  else
    Option.bind (fX17_sign S) fun t4 =>
    nx (p1 S 17 5 ((S.1 17 5) + 1)) fun s6 =>
    Option.bind (fX17_isFigureSign s6) fun t8 =>
    Option.bind (α := St × Int32 × Int32) (
      if t8 = 0 then
        some (s6, 48, t4)
      else
        Option.bind (fX17_sign s6) fun t14 =>
        nx (p1 s6 17 5 ((s6.1 17 5) + 1)) fun s16 =>
        some (s16, t4, t14)
    ) fun t11 =>
    Option.bind (fX17_note t11.1 x1 1 t11.2.1 t11.2.2) fun t18 =>
    some t18
set_option maxHeartbeats 4000000 in
set_option maxRecDepth 100000 in
theorem wX17_readFigure {S : St} {x1 : Int32} (hC : CallFix p m c cX5_readFigure 4 s args lw_g RX5) (hF : 3 ≤ R.frames) (hL : 60 ≤ R.locals)  {S' : St} (h : fX17_readFigure S x1 = some (S')) (kr : ∀ (H : Heap) (locs : List Loc) (ls : Array Slot) (pc : Nat), decode cX5_readFigure pc = .ok (.return_, 1) → wg LX G (S') s H locs → W p l e R s m args below meth c H locs 0 0 Q (F0 m pc ls [])) : ∀ (H : Heap) (locs : List Loc) (ls : Array Slot), wg LX G S s H locs → lv_has ls 4 [(0, .ref (ad G 17)), (1, .int x1)] → W p l e R s m args below meth c H locs 0 0 Q (F0 m 0 ls []) := by
  have hx := hC.1
  have hb := hC.2.1
  intro H locs ls hW hl
  unfold fX17_readFigure at h
  refine lv_aload_n hx hb dX5_readFigure_0 rfl (lv_at hl 0 rfl) ?_
  obtain ⟨t1, e2, h⟩ := bd h
  refine x_goi (x_rv (rest := []) hC hW (ctX17_isFigureSign e2) (cwV_g hC.2.2.2.2 ml_X5_92 mi_X5_isFigureSign md_X5_isFigureSign ⟨(Nat.le_trans (Nat.le_of_ble_eq_true rfl) hF), (Nat.le_trans (Nat.le_of_ble_eq_true rfl) hL)⟩) (rcX17 hW) rfl hl.1 rfl (Nat.le_of_ble_eq_true rfl) dX5_readFigure_1) hW (fun H locs hW => ?_)
  refine lv_if_ne (tgt := 13) hx hb dX5_readFigure_4 (by decide) (fun q3 => ?_) (fun q3 => ?_)
  · have h := it_n q3 h
    refine lv_bipush (v := 48) hx hb dX5_readFigure_13 (by decide) ?_
    refine lv_istore_n (lv' := [(2, .int 48), (0, .ref (ad G 17)), (1, .int x1)]) hx hb dX5_readFigure_15 rfl hl (by decide) rfl (fun ls hl => ?_)
    refine lv_aload_n hx hb dX5_readFigure_16 rfl (lv_at hl 1 rfl) ?_
    obtain ⟨t4, e5, h⟩ := bd h
    refine x_goi (x_rv (rest := []) hC hW (ctX17_sign e5) (cwV_g hC.2.2.2.2 ml_X5_57 mi_X5_sign md_X5_sign ⟨(Nat.le_trans (Nat.le_of_ble_eq_true rfl) hF), (Nat.le_trans (Nat.le_of_ble_eq_true rfl) hL)⟩) (rcX17 hW) rfl hl.1 rfl (Nat.le_of_ble_eq_true rfl) dX5_readFigure_17) hW (fun H locs hW => ?_)
    refine lv_istore_n (lv' := [(3, .int t4), (2, .int 48), (0, .ref (ad G 17)), (1, .int x1)]) hx hb dX5_readFigure_20 rfl hl (by decide) rfl (fun ls hl => ?_)
    refine lv_aload_n hx hb dX5_readFigure_21 rfl (lv_at hl 2 rfl) ?_
    refine lv_dup hx hb dX5_readFigure_22 rfl ?_
    refine gX17_5 hC hW dX5_readFigure_23 ?_
    refine lv_iconst (v := 1) hx hb dX5_readFigure_26 (by decide) ?_
    refine lv_iadd hx hb dX5_readFigure_27 ?_
    refine pX17_5 hC hW dX5_readFigure_28 (fun H locs hW => ?_)
    obtain ⟨s6, e7, h⟩ := nx_some h
    rw [← e7] at hW
    refine lv_aload_n hx hb dX5_readFigure_31 rfl (lv_at hl 2 rfl) ?_
    obtain ⟨t8, e9, h⟩ := bd h
    refine x_goi (x_rv (rest := []) hC hW (ctX17_isFigureSign e9) (cwV_g hC.2.2.2.2 ml_X5_92 mi_X5_isFigureSign md_X5_isFigureSign ⟨(Nat.le_trans (Nat.le_of_ble_eq_true rfl) hF), (Nat.le_trans (Nat.le_of_ble_eq_true rfl) hL)⟩) (rcX17 hW) rfl hl.1 rfl (Nat.le_of_ble_eq_true rfl) dX5_readFigure_32) hW (fun H locs hW => ?_)
    obtain ⟨t11, e12, h⟩ := bd h
    have K10 : ∀ (H : Heap) (locs : List Loc) (ls : Array Slot), wg LX G t11.1 s H locs → lv_has ls 4 [(0, .ref (ad G 17)), (1, .int x1), (2, .int t11.2.1), (3, .int t11.2.2)] → W p l e R s m args below meth c H locs 0 0 Q (F0 m 55 ls []) := by
      intro H locs ls hW hl
      refine lv_aload_n hx hb dX5_readFigure_55 rfl (lv_at hl 0 rfl) ?_
      refine lv_iload_n hx hb dX5_readFigure_56 rfl (lv_at hl 1 rfl) ?_
      refine lv_iconst (v := 1) hx hb dX5_readFigure_57 (by decide) ?_
      refine lv_iload_n hx hb dX5_readFigure_58 rfl (lv_at hl 2 rfl) ?_
      refine lv_iload_n hx hb dX5_readFigure_59 rfl (lv_at hl 3 rfl) ?_
      obtain ⟨t18, e19, h⟩ := bd h
      refine x_gov (x_rv (rest := []) hC hW (ctX17_note e19) (cwV_g hC.2.2.2.2 ml_X5_78 mi_X5_note md_X5_note ⟨(Nat.le_trans (Nat.le_of_ble_eq_true rfl) hF), (Nat.le_trans (Nat.le_of_ble_eq_true rfl) hL)⟩) (rcX17 hW) rfl hl.1 rfl (Nat.le_of_ble_eq_true rfl) dX5_readFigure_60) hW (fun H locs hW => ?_)
      cases h
      exact kr _ _ _ _ dX5_readFigure_63 hW
    clear h
    have h := e12
    clear e12
    refine lv_if_eq (tgt := 55) hx hb dX5_readFigure_35 (by decide) (fun q13 => ?_) (fun q13 => ?_)
    · have h := it_p q13 h
      cases h
      exact K10 _ _ _ hW (lv_sub hl [2, 3, 1, 0] rfl)
    · have h := it_n q13 h
      refine lv_iload_n hx hb dX5_readFigure_38 rfl (lv_at hl 0 rfl) ?_
      refine lv_istore_n (lv' := [(2, .int t4), (3, .int t4), (0, .ref (ad G 17)), (1, .int x1)]) hx hb dX5_readFigure_39 rfl hl (by decide) rfl (fun ls hl => ?_)
      refine lv_aload_n hx hb dX5_readFigure_40 rfl (lv_at hl 2 rfl) ?_
      obtain ⟨t14, e15, h⟩ := bd h
      refine x_goi (x_rv (rest := []) hC hW (ctX17_sign e15) (cwV_g hC.2.2.2.2 ml_X5_57 mi_X5_sign md_X5_sign ⟨(Nat.le_trans (Nat.le_of_ble_eq_true rfl) hF), (Nat.le_trans (Nat.le_of_ble_eq_true rfl) hL)⟩) (rcX17 hW) rfl hl.1 rfl (Nat.le_of_ble_eq_true rfl) dX5_readFigure_41) hW (fun H locs hW => ?_)
      refine lv_istore_n (lv' := [(3, .int t14), (2, .int t4), (0, .ref (ad G 17)), (1, .int x1)]) hx hb dX5_readFigure_44 rfl hl (by decide) rfl (fun ls hl => ?_)
      refine lv_aload_n hx hb dX5_readFigure_45 rfl (lv_at hl 2 rfl) ?_
      refine lv_dup hx hb dX5_readFigure_46 rfl ?_
      refine gX17_5 hC hW dX5_readFigure_47 ?_
      refine lv_iconst (v := 1) hx hb dX5_readFigure_50 (by decide) ?_
      refine lv_iadd hx hb dX5_readFigure_51 ?_
      refine pX17_5 hC hW dX5_readFigure_52 (fun H locs hW => ?_)
      obtain ⟨s16, e17, h⟩ := nx_some h
      rw [← e17] at hW
      cases h
      exact K10 _ _ _ hW (lv_sub hl [2, 3, 1, 0] rfl)
  · have h := it_p q3 h
    refine lv_aload_n hx hb dX5_readFigure_7 rfl (lv_at hl 0 rfl) ?_
    refine lv_iconst (v := 1) hx hb dX5_readFigure_8 (by decide) ?_
    refine pX17_6 hC hW rfl dX5_readFigure_9 (fun H locs hW => ?_)
    obtain ⟨s20, e21, h⟩ := nx_some h
    rw [← e21] at hW
    cases h
    exact kr _ _ _ _ dX5_readFigure_12 hW
theorem ctX17_readFigure {S : St} {x1 : Int32}  {S' : St} (h : fX17_readFigure S x1 = some (S')) : Met l yX5_readFigure (wm yX5_readFigure cX5_readFigure 4 none) (rmx 3 60) (pcm LX G S [.ref (ad G 17), .int x1]) (qcV LX G S') 0 0 G.2.2.2 :=
  x_enter (own := RX5) rfl rfl (Nat.le_of_ble_eq_true rfl) (fun p e s m below meth c ls hC hr hk hW hl => wX17_readFigure hC (Nat.le_refl _) (Nat.le_refl _)  h (fun H locs ls pc hd hW => x_retv hC hr hk hW hd) _ _ _ hW hl)
def fX17_readNumber (S : St)  : Option (Int32 × St) :=
  if (S.1 17 6) = 0 then
    Option.bind (fX17_isFigure S) fun t4 =>
    if t4 = 0 then
      nx (p1 S 17 6 1) fun s23 =>
      some (0, s23)
    else
      Option.bind (fX17_sign S) fun t7 =>
      nx (p1 S 17 5 ((S.1 17 5) + 1)) fun s9 =>
      Option.bind (fX17_isFigure s9) fun t11 =>
      Option.bind (α := St × Int32) (
        if t11 = 0 then
          some (s9, t7 - 48)
        else
          Option.bind (fX17_sign s9) fun t17 =>
          nx (((10 * (t7 - 48)) + t17) - 48) fun y19 =>
          nx (p1 s9 17 5 ((s9.1 17 5) + 1)) fun s21 =>
          some (s21, y19)
      ) fun t14 =>
      some (t14.2, t14.1)
  else
    nx (p1 S 17 6 1) fun s2 =>
    some (0, s2)
set_option maxHeartbeats 4000000 in
set_option maxRecDepth 100000 in
theorem wX17_readNumber {S : St}  (hC : CallFix p m c cX5_readNumber 2 s args lw_g RX5) (hF : 2 ≤ R.frames) (hL : 40 ≤ R.locals)  {v : Int32} {S' : St} (h : fX17_readNumber S = some (v, S')) (kr : ∀ (H : Heap) (locs : List Loc) (ls : Array Slot) (pc : Nat), decode cX5_readNumber pc = .ok (.ireturn, 1) → wg LX G (S') s H locs → W p l e R s m args below meth c H locs 0 0 Q (F0 m pc ls [.int v])) : ∀ (H : Heap) (locs : List Loc) (ls : Array Slot), wg LX G S s H locs → lv_has ls 2 [(0, .ref (ad G 17))] → W p l e R s m args below meth c H locs 0 0 Q (F0 m 0 ls []) := by
  have hx := hC.1
  have hb := hC.2.1
  intro H locs ls hW hl
  unfold fX17_readNumber at h
  refine lv_aload_n hx hb dX5_readNumber_0 rfl (lv_at hl 0 rfl) ?_
  refine gX17_6 hC hW dX5_readNumber_1 ?_
  refine lv_if_ne (tgt := 14) hx hb dX5_readNumber_4 (by decide) (fun q1 => ?_) (fun q1 => ?_)
  · have h := it_n q1 h
    refine lv_aload_n hx hb dX5_readNumber_14 rfl (lv_at hl 0 rfl) ?_
    refine lv_iconst (v := 1) hx hb dX5_readNumber_15 (by decide) ?_
    refine pX17_6 hC hW rfl dX5_readNumber_16 (fun H locs hW => ?_)
    obtain ⟨s2, e3, h⟩ := nx_some h
    rw [← e3] at hW
    refine lv_iconst (v := 0) hx hb dX5_readNumber_19 (by decide) ?_
    cases h
    exact kr _ _ _ _ dX5_readNumber_20 hW
  · have h := it_p q1 h
    refine lv_aload_n hx hb dX5_readNumber_7 rfl (lv_at hl 0 rfl) ?_
    obtain ⟨t4, e5, h⟩ := bd h
    refine x_goi (x_rv (rest := []) hC hW (ctX17_isFigure e5) (cwV_g hC.2.2.2.2 ml_X5_88 mi_X5_isFigure md_X5_isFigure ⟨(Nat.le_trans (Nat.le_of_ble_eq_true rfl) hF), (Nat.le_trans (Nat.le_of_ble_eq_true rfl) hL)⟩) (rcX17 hW) rfl hl.1 rfl (Nat.le_of_ble_eq_true rfl) dX5_readNumber_8) hW (fun H locs hW => ?_)
    refine lv_if_ne (tgt := 21) hx hb dX5_readNumber_11 (by decide) (fun q6 => ?_) (fun q6 => ?_)
    · have h := it_n q6 h
      refine lv_aload_n hx hb dX5_readNumber_21 rfl (lv_at hl 0 rfl) ?_
      obtain ⟨t7, e8, h⟩ := bd h
      refine x_goi (x_rv (rest := []) hC hW (ctX17_sign e8) (cwV_g hC.2.2.2.2 ml_X5_57 mi_X5_sign md_X5_sign ⟨(Nat.le_trans (Nat.le_of_ble_eq_true rfl) hF), (Nat.le_trans (Nat.le_of_ble_eq_true rfl) hL)⟩) (rcX17 hW) rfl hl.1 rfl (Nat.le_of_ble_eq_true rfl) dX5_readNumber_22) hW (fun H locs hW => ?_)
      refine lv_bipush (v := 48) hx hb dX5_readNumber_25 (by decide) ?_
      refine lv_isub hx hb dX5_readNumber_27 ?_
      refine lv_istore_n (lv' := [(1, .int (t7 - 48)), (0, .ref (ad G 17))]) hx hb dX5_readNumber_28 rfl hl (by decide) rfl (fun ls hl => ?_)
      refine lv_aload_n hx hb dX5_readNumber_29 rfl (lv_at hl 1 rfl) ?_
      refine lv_dup hx hb dX5_readNumber_30 rfl ?_
      refine gX17_5 hC hW dX5_readNumber_31 ?_
      refine lv_iconst (v := 1) hx hb dX5_readNumber_34 (by decide) ?_
      refine lv_iadd hx hb dX5_readNumber_35 ?_
      refine pX17_5 hC hW dX5_readNumber_36 (fun H locs hW => ?_)
      obtain ⟨s9, e10, h⟩ := nx_some h
      rw [← e10] at hW
      refine lv_aload_n hx hb dX5_readNumber_39 rfl (lv_at hl 1 rfl) ?_
      obtain ⟨t11, e12, h⟩ := bd h
      refine x_goi (x_rv (rest := []) hC hW (ctX17_isFigure e12) (cwV_g hC.2.2.2.2 ml_X5_88 mi_X5_isFigure md_X5_isFigure ⟨(Nat.le_trans (Nat.le_of_ble_eq_true rfl) hF), (Nat.le_trans (Nat.le_of_ble_eq_true rfl) hL)⟩) (rcX17 hW) rfl hl.1 rfl (Nat.le_of_ble_eq_true rfl) dX5_readNumber_40) hW (fun H locs hW => ?_)
      obtain ⟨t14, e15, h⟩ := bd h
      have K13 : ∀ (H : Heap) (locs : List Loc) (ls : Array Slot), wg LX G t14.1 s H locs → lv_has ls 2 [(1, .int t14.2)] → W p l e R s m args below meth c H locs 0 0 Q (F0 m 69 ls []) := by
        intro H locs ls hW hl
        refine lv_iload_n hx hb dX5_readNumber_69 rfl (lv_at hl 0 rfl) ?_
        cases h
        exact kr _ _ _ _ dX5_readNumber_70 hW
      clear h
      have h := e15
      clear e15
      refine lv_if_eq (tgt := 69) hx hb dX5_readNumber_43 (by decide) (fun q16 => ?_) (fun q16 => ?_)
      · have h := it_p q16 h
        cases h
        exact K13 _ _ _ hW (lv_sub hl [0] rfl)
      · have h := it_n q16 h
        refine lv_bipush (v := 10) hx hb dX5_readNumber_46 (by decide) ?_
        refine lv_iload_n hx hb dX5_readNumber_48 rfl (lv_at hl 0 rfl) ?_
        refine lv_imul hx hb dX5_readNumber_49 ?_
        refine lv_aload_n hx hb dX5_readNumber_50 rfl (lv_at hl 1 rfl) ?_
        obtain ⟨t17, e18, h⟩ := bd h
        refine x_goi (x_rv (rest := [.int (10 * (t7 - 48))]) hC hW (ctX17_sign e18) (cwV_g hC.2.2.2.2 ml_X5_57 mi_X5_sign md_X5_sign ⟨(Nat.le_trans (Nat.le_of_ble_eq_true rfl) hF), (Nat.le_trans (Nat.le_of_ble_eq_true rfl) hL)⟩) (rcX17 hW) rfl hl.1 rfl (Nat.le_of_ble_eq_true rfl) dX5_readNumber_51) hW (fun H locs hW => ?_)
        refine lv_iadd hx hb dX5_readNumber_54 ?_
        refine lv_bipush (v := 48) hx hb dX5_readNumber_55 (by decide) ?_
        refine lv_isub hx hb dX5_readNumber_57 ?_
        obtain ⟨y19, e20, h⟩ := nx_some h
        refine x_topi e20 ?_
        refine lv_istore_n (lv' := [(1, .int y19), (0, .ref (ad G 17))]) hx hb dX5_readNumber_58 rfl hl (by decide) rfl (fun ls hl => ?_)
        refine lv_aload_n hx hb dX5_readNumber_59 rfl (lv_at hl 1 rfl) ?_
        refine lv_dup hx hb dX5_readNumber_60 rfl ?_
        refine gX17_5 hC hW dX5_readNumber_61 ?_
        refine lv_iconst (v := 1) hx hb dX5_readNumber_64 (by decide) ?_
        refine lv_iadd hx hb dX5_readNumber_65 ?_
        refine pX17_5 hC hW dX5_readNumber_66 (fun H locs hW => ?_)
        obtain ⟨s21, e22, h⟩ := nx_some h
        rw [← e22] at hW
        cases h
        exact K13 _ _ _ hW (lv_sub hl [0] rfl)
    · have h := it_p q6 h
      refine lv_aload_n hx hb dX5_readNumber_14 rfl (lv_at hl 0 rfl) ?_
      refine lv_iconst (v := 1) hx hb dX5_readNumber_15 (by decide) ?_
      refine pX17_6 hC hW rfl dX5_readNumber_16 (fun H locs hW => ?_)
      obtain ⟨s23, e24, h⟩ := nx_some h
      rw [← e24] at hW
      refine lv_iconst (v := 0) hx hb dX5_readNumber_19 (by decide) ?_
      cases h
      exact kr _ _ _ _ dX5_readNumber_20 hW
theorem ctX17_readNumber {S : St}   {v : Int32} {S' : St} (h : fX17_readNumber S = some (v, S')) : Met l yX5_readNumber (wm yX5_readNumber cX5_readNumber 2 (some .int)) (rmx 2 40) (pcm LX G S [.ref (ad G 17)]) (qcI LX G S' v) 0 0 G.2.2.2 :=
  x_enter (own := RX5) rfl rfl (Nat.le_of_ble_eq_true rfl) (fun p e s m below meth c ls hC hr hk hW hl => wX17_readNumber hC (Nat.le_refl _) (Nat.le_refl _)  h (fun H locs ls pc hd hW => x_reti hC hr hk hW hd) _ _ _ hW hl)
def fX17_expect (S : St) (x1 : Int32) : Option (St) :=
  if (S.1 17 6) = 0 then
    Option.bind (fX17_sign S) fun t4 =>
    if t4 = x1 then
      nx (p1 S 17 5 ((S.1 17 5) + 1)) fun s7 =>
      some s7
    else
      nx (p1 S 17 6 1) fun s9 =>
      some s9
  else
    nx (p1 S 17 6 1) fun s2 =>
    some s2
set_option maxHeartbeats 4000000 in
set_option maxRecDepth 100000 in
theorem wX17_expect {S : St} {x1 : Int32} (hC : CallFix p m c cX5_expect 2 s args lw_g RX5) (hF : 1 ≤ R.frames) (hL : 20 ≤ R.locals)  {S' : St} (h : fX17_expect S x1 = some (S')) (kr : ∀ (H : Heap) (locs : List Loc) (ls : Array Slot) (pc : Nat), decode cX5_expect pc = .ok (.return_, 1) → wg LX G (S') s H locs → W p l e R s m args below meth c H locs 0 0 Q (F0 m pc ls [])) : ∀ (H : Heap) (locs : List Loc) (ls : Array Slot), wg LX G S s H locs → lv_has ls 2 [(0, .ref (ad G 17)), (1, .int x1)] → W p l e R s m args below meth c H locs 0 0 Q (F0 m 0 ls []) := by
  have hx := hC.1
  have hb := hC.2.1
  intro H locs ls hW hl
  unfold fX17_expect at h
  refine lv_aload_n hx hb dX5_expect_0 rfl (lv_at hl 0 rfl) ?_
  refine gX17_6 hC hW dX5_expect_1 ?_
  refine lv_if_ne (tgt := 15) hx hb dX5_expect_4 (by decide) (fun q1 => ?_) (fun q1 => ?_)
  · have h := it_n q1 h
    refine lv_aload_n hx hb dX5_expect_15 rfl (lv_at hl 0 rfl) ?_
    refine lv_iconst (v := 1) hx hb dX5_expect_16 (by decide) ?_
    refine pX17_6 hC hW rfl dX5_expect_17 (fun H locs hW => ?_)
    obtain ⟨s2, e3, h⟩ := nx_some h
    rw [← e3] at hW
    cases h
    exact kr _ _ _ _ dX5_expect_20 hW
  · have h := it_p q1 h
    refine lv_aload_n hx hb dX5_expect_7 rfl (lv_at hl 0 rfl) ?_
    obtain ⟨t4, e5, h⟩ := bd h
    refine x_goi (x_rv (rest := []) hC hW (ctX17_sign e5) (cwV_g hC.2.2.2.2 ml_X5_57 mi_X5_sign md_X5_sign ⟨(Nat.le_trans (Nat.le_of_ble_eq_true rfl) hF), (Nat.le_trans (Nat.le_of_ble_eq_true rfl) hL)⟩) (rcX17 hW) rfl hl.1 rfl (Nat.le_of_ble_eq_true rfl) dX5_expect_8) hW (fun H locs hW => ?_)
    refine lv_iload_n hx hb dX5_expect_11 rfl (lv_at hl 1 rfl) ?_
    refine lv_icmp_eq (tgt := 21) hx hb dX5_expect_12 (by decide) (fun q6 => ?_) (fun q6 => ?_)
    · have h := it_p q6 h
      refine lv_aload_n hx hb dX5_expect_21 rfl (lv_at hl 0 rfl) ?_
      refine lv_dup hx hb dX5_expect_22 rfl ?_
      refine gX17_5 hC hW dX5_expect_23 ?_
      refine lv_iconst (v := 1) hx hb dX5_expect_26 (by decide) ?_
      refine lv_iadd hx hb dX5_expect_27 ?_
      refine pX17_5 hC hW dX5_expect_28 (fun H locs hW => ?_)
      obtain ⟨s7, e8, h⟩ := nx_some h
      rw [← e8] at hW
      cases h
      exact kr _ _ _ _ dX5_expect_31 hW
    · have h := it_n q6 h
      refine lv_aload_n hx hb dX5_expect_15 rfl (lv_at hl 0 rfl) ?_
      refine lv_iconst (v := 1) hx hb dX5_expect_16 (by decide) ?_
      refine pX17_6 hC hW rfl dX5_expect_17 (fun H locs hW => ?_)
      obtain ⟨s9, e10, h⟩ := nx_some h
      rw [← e10] at hW
      cases h
      exact kr _ _ _ _ dX5_expect_20 hW
theorem ctX17_expect {S : St} {x1 : Int32}  {S' : St} (h : fX17_expect S x1 = some (S')) : Met l yX5_expect (wm yX5_expect cX5_expect 2 none) (rmx 1 20) (pcm LX G S [.ref (ad G 17), .int x1]) (qcV LX G S') 0 0 G.2.2.2 :=
  x_enter (own := RX5) rfl rfl (Nat.le_of_ble_eq_true rfl) (fun p e s m below meth c ls hC hr hk hW hl => wX17_expect hC (Nat.le_refl _) (Nat.le_refl _)  h (fun H locs ls pc hd hW => x_retv hC hr hk hW hd) _ _ _ hW hl)
def fX17_readSpan (S : St) (x1 : Int32) (x2 : Int32) : Option (St) :=
  Option.bind (fX17_readNumber S) fun t1 =>
  Option.bind (fX17_expect t1.2 44) fun t3 =>
  Option.bind (fX17_readNumber t3) fun t5 =>
  Option.bind (α := St) (
    if t1.1 ≤ t5.1 then
      some t5.2
    else
      nx (p1 t5.2 17 6 1) fun s11 =>
      some s11
  ) fun t8 =>
  Option.bind (fX17_note t8 x1 x2 t1.1 t5.1) fun t13 =>
  some t13
set_option maxHeartbeats 4000000 in
set_option maxRecDepth 100000 in
theorem wX17_readSpan {S : St} {x1 : Int32} {x2 : Int32} (hC : CallFix p m c cX5_readSpan 5 s args lw_g RX5) (hF : 3 ≤ R.frames) (hL : 61 ≤ R.locals)  {S' : St} (h : fX17_readSpan S x1 x2 = some (S')) (kr : ∀ (H : Heap) (locs : List Loc) (ls : Array Slot) (pc : Nat), decode cX5_readSpan pc = .ok (.return_, 1) → wg LX G (S') s H locs → W p l e R s m args below meth c H locs 0 0 Q (F0 m pc ls [])) : ∀ (H : Heap) (locs : List Loc) (ls : Array Slot), wg LX G S s H locs → lv_has ls 5 [(0, .ref (ad G 17)), (1, .int x1), (2, .int x2)] → W p l e R s m args below meth c H locs 0 0 Q (F0 m 0 ls []) := by
  have hx := hC.1
  have hb := hC.2.1
  intro H locs ls hW hl
  unfold fX17_readSpan at h
  refine lv_aload_n hx hb dX5_readSpan_0 rfl (lv_at hl 0 rfl) ?_
  obtain ⟨t1, e2, h⟩ := bd h
  refine x_goi (x_rv (rest := []) hC hW (ctX17_readNumber e2) (cwV_g hC.2.2.2.2 ml_X5_85 mi_X5_readNumber md_X5_readNumber ⟨(Nat.le_trans (Nat.le_of_ble_eq_true rfl) hF), (Nat.le_trans (Nat.le_of_ble_eq_true rfl) hL)⟩) (rcX17 hW) rfl hl.1 rfl (Nat.le_of_ble_eq_true rfl) dX5_readSpan_1) hW (fun H locs hW => ?_)
  refine lv_istore_n (lv' := [(3, .int t1.1), (0, .ref (ad G 17)), (1, .int x1), (2, .int x2)]) hx hb dX5_readSpan_4 rfl hl (by decide) rfl (fun ls hl => ?_)
  refine lv_aload_n hx hb dX5_readSpan_5 rfl (lv_at hl 1 rfl) ?_
  refine lv_bipush (v := 44) hx hb dX5_readSpan_6 (by decide) ?_
  obtain ⟨t3, e4, h⟩ := bd h
  refine x_gov (x_rv (rest := []) hC hW (ctX17_expect e4) (cwV_g hC.2.2.2.2 ml_X5_68 mi_X5_expect md_X5_expect ⟨(Nat.le_trans (Nat.le_of_ble_eq_true rfl) hF), (Nat.le_trans (Nat.le_of_ble_eq_true rfl) hL)⟩) (rcX17 hW) rfl hl.1 rfl (Nat.le_of_ble_eq_true rfl) dX5_readSpan_8) hW (fun H locs hW => ?_)
  refine lv_aload_n hx hb dX5_readSpan_11 rfl (lv_at hl 1 rfl) ?_
  obtain ⟨t5, e6, h⟩ := bd h
  refine x_goi (x_rv (rest := []) hC hW (ctX17_readNumber e6) (cwV_g hC.2.2.2.2 ml_X5_85 mi_X5_readNumber md_X5_readNumber ⟨(Nat.le_trans (Nat.le_of_ble_eq_true rfl) hF), (Nat.le_trans (Nat.le_of_ble_eq_true rfl) hL)⟩) (rcX17 hW) rfl hl.1 rfl (Nat.le_of_ble_eq_true rfl) dX5_readSpan_12) hW (fun H locs hW => ?_)
  refine lv_istore (lv' := [(4, .int t5.1), (3, .int t1.1), (0, .ref (ad G 17)), (1, .int x1), (2, .int x2)]) hx hb dX5_readSpan_15 hl (by decide) rfl (fun ls hl => ?_)
  refine lv_iload_n hx hb dX5_readSpan_17 rfl (lv_at hl 1 rfl) ?_
  refine lv_iload hx hb dX5_readSpan_18 (lv_at hl 0 rfl) ?_
  obtain ⟨t8, e9, h⟩ := bd h
  have K7 : ∀ (H : Heap) (locs : List Loc) (ls : Array Slot), wg LX G t8 s H locs → lv_has ls 5 [(0, .ref (ad G 17)), (1, .int x1), (2, .int x2), (3, .int t1.1), (4, .int t5.1)] → W p l e R s m args below meth c H locs 0 0 Q (F0 m 28 ls []) := by
    intro H locs ls hW hl
    refine lv_aload_n hx hb dX5_readSpan_28 rfl (lv_at hl 0 rfl) ?_
    refine lv_iload_n hx hb dX5_readSpan_29 rfl (lv_at hl 1 rfl) ?_
    refine lv_iload_n hx hb dX5_readSpan_30 rfl (lv_at hl 2 rfl) ?_
    refine lv_iload_n hx hb dX5_readSpan_31 rfl (lv_at hl 3 rfl) ?_
    refine lv_iload hx hb dX5_readSpan_32 (lv_at hl 4 rfl) ?_
    obtain ⟨t13, e14, h⟩ := bd h
    refine x_gov (x_rv (rest := []) hC hW (ctX17_note e14) (cwV_g hC.2.2.2.2 ml_X5_78 mi_X5_note md_X5_note ⟨(Nat.le_trans (Nat.le_of_ble_eq_true rfl) hF), (Nat.le_trans (Nat.le_of_ble_eq_true rfl) hL)⟩) (rcX17 hW) rfl hl.1 rfl (Nat.le_of_ble_eq_true rfl) dX5_readSpan_34) hW (fun H locs hW => ?_)
    cases h
    exact kr _ _ _ _ dX5_readSpan_37 hW
  clear h
  have h := e9
  clear e9
  refine lv_icmp_le (tgt := 28) hx hb dX5_readSpan_20 (by decide) (fun q10 => ?_) (fun q10 => ?_)
  · have h := it_p q10 h
    cases h
    exact K7 _ _ _ hW (lv_sub hl [2, 3, 4, 1, 0] rfl)
  · have h := it_n q10 h
    refine lv_aload_n hx hb dX5_readSpan_23 rfl (lv_at hl 2 rfl) ?_
    refine lv_iconst (v := 1) hx hb dX5_readSpan_24 (by decide) ?_
    refine pX17_6 hC hW rfl dX5_readSpan_25 (fun H locs hW => ?_)
    obtain ⟨s11, e12, h⟩ := nx_some h
    rw [← e12] at hW
    cases h
    exact K7 _ _ _ hW (lv_sub hl [2, 3, 4, 1, 0] rfl)
theorem ctX17_readSpan {S : St} {x1 : Int32} {x2 : Int32}  {S' : St} (h : fX17_readSpan S x1 x2 = some (S')) : Met l yX5_readSpan (wm yX5_readSpan cX5_readSpan 5 none) (rmx 3 61) (pcm LX G S [.ref (ad G 17), .int x1, .int x2]) (qcV LX G S') 0 0 G.2.2.2 :=
  x_enter (own := RX5) rfl rfl (Nat.le_of_ble_eq_true rfl) (fun p e s m below meth c ls hC hr hk hW hl => wX17_readSpan hC (Nat.le_refl _) (Nat.le_refl _)  h (fun H locs ls pc hd hW => x_retv hC hr hk hW hd) _ _ _ hW hl)
def fX17_readItem (S : St)  : Option (St) :=
  Option.bind (fX17_readLetter S) fun t1 =>
  if (t1.2.1 17 6) = 0 then
    Option.bind (fX17_sign t1.2) fun t4 =>
    nx (p1 t1.2 17 5 ((t1.2.1 17 5) + 1)) fun s6 =>
    Option.bind (α := St) (
      if t4 = 35 then
        Option.bind (fX17_note s6 t1.1 3 0 0) fun t12 =>
        some t12
      else
      if t4 = 42 then
        Option.bind (fX17_readOther s6 t1.1) fun t14 =>
        Option.bind (fX17_readOther t14.2 t1.1) fun t16 =>
        Option.bind (fX17_note t16.2 t1.1 2 t14.1 t16.1) fun t18 =>
        some t18
      else
      if t4 = 61 then
        Option.bind (fX17_readFigure s6 t1.1) fun t20 =>
        some t20
      else
      if t4 = 62 then
        Option.bind (fX17_readOther s6 t1.1) fun t22 =>
        Option.bind (fX17_note t22.2 t1.1 4 t22.1 0) fun t24 =>
        some t24
      else
      if t4 = 91 then
        Option.bind (fX17_readSpan s6 t1.1 0) fun t26 =>
        Option.bind (fX17_expect t26 93) fun t28 =>
        some t28
      else
      if t4 = 126 then
        Option.bind (fX17_readSpan s6 t1.1 5) fun t30 =>
        some t30
      else
      nx (p1 s6 17 5 ((s6.1 17 5) - 1)) fun s32 =>
      nx (p1 s32 17 6 1) fun s34 =>
      some s34
    ) fun t9 =>
    some t9
  else
    some t1.2
set_option maxHeartbeats 4000000 in
set_option maxRecDepth 100000 in
theorem wX17_readItem {S : St}  (hC : CallFix p m c cX5_readItem 3 s args lw_g RX5) (hF : 4 ≤ R.frames) (hL : 85 ≤ R.locals)  {S' : St} (h : fX17_readItem S = some (S')) (kr : ∀ (H : Heap) (locs : List Loc) (ls : Array Slot) (pc : Nat), decode cX5_readItem pc = .ok (.return_, 1) → wg LX G (S') s H locs → W p l e R s m args below meth c H locs 0 0 Q (F0 m pc ls [])) : ∀ (H : Heap) (locs : List Loc) (ls : Array Slot), wg LX G S s H locs → lv_has ls 3 [(0, .ref (ad G 17))] → W p l e R s m args below meth c H locs 0 0 Q (F0 m 0 ls []) := by
  have hx := hC.1
  have hb := hC.2.1
  intro H locs ls hW hl
  unfold fX17_readItem at h
  refine lv_aload_n hx hb dX5_readItem_0 rfl (lv_at hl 0 rfl) ?_
  obtain ⟨t1, e2, h⟩ := bd h
  refine x_goi (x_rv (rest := []) hC hW (ctX17_readLetter e2) (cwV_g hC.2.2.2.2 ml_X5_61 mi_X5_readLetter md_X5_readLetter ⟨(Nat.le_trans (Nat.le_of_ble_eq_true rfl) hF), (Nat.le_trans (Nat.le_of_ble_eq_true rfl) hL)⟩) (rcX17 hW) rfl hl.1 rfl (Nat.le_of_ble_eq_true rfl) dX5_readItem_1) hW (fun H locs hW => ?_)
  refine lv_istore_n (lv' := [(1, .int t1.1), (0, .ref (ad G 17))]) hx hb dX5_readItem_4 rfl hl (by decide) rfl (fun ls hl => ?_)
  refine lv_aload_n hx hb dX5_readItem_5 rfl (lv_at hl 1 rfl) ?_
  refine gX17_6 hC hW dX5_readItem_6 ?_
  refine lv_if_eq (tgt := 13) hx hb dX5_readItem_9 (by decide) (fun q3 => ?_) (fun q3 => ?_)
  · have h := it_p q3 h
    refine lv_aload_n hx hb dX5_readItem_13 rfl (lv_at hl 1 rfl) ?_
    obtain ⟨t4, e5, h⟩ := bd h
    refine x_goi (x_rv (rest := []) hC hW (ctX17_sign e5) (cwV_g hC.2.2.2.2 ml_X5_57 mi_X5_sign md_X5_sign ⟨(Nat.le_trans (Nat.le_of_ble_eq_true rfl) hF), (Nat.le_trans (Nat.le_of_ble_eq_true rfl) hL)⟩) (rcX17 hW) rfl hl.1 rfl (Nat.le_of_ble_eq_true rfl) dX5_readItem_14) hW (fun H locs hW => ?_)
    refine lv_istore_n (lv' := [(2, .int t4), (1, .int t1.1), (0, .ref (ad G 17))]) hx hb dX5_readItem_17 rfl hl (by decide) rfl (fun ls hl => ?_)
    refine lv_aload_n hx hb dX5_readItem_18 rfl (lv_at hl 2 rfl) ?_
    refine lv_dup hx hb dX5_readItem_19 rfl ?_
    refine gX17_5 hC hW dX5_readItem_20 ?_
    refine lv_iconst (v := 1) hx hb dX5_readItem_23 (by decide) ?_
    refine lv_iadd hx hb dX5_readItem_24 ?_
    refine pX17_5 hC hW dX5_readItem_25 (fun H locs hW => ?_)
    obtain ⟨s6, e7, h⟩ := nx_some h
    rw [← e7] at hW
    refine lv_iload_n hx hb dX5_readItem_28 rfl (lv_at hl 0 rfl) ?_
    obtain ⟨t9, e10, h⟩ := bd h
    have K8 : ∀ (H : Heap) (locs : List Loc) (ls : Array Slot), wg LX G t9 s H locs → lv_has ls 3 [] → W p l e R s m args below meth c H locs 0 0 Q (F0 m 180 ls []) := by
      intro H locs ls hW hl
      cases h
      exact kr _ _ _ _ dX5_readItem_180 hW
    clear h
    have h := e10
    clear e10
    by_cases q11_0 : t4 = 35
    · have h := it_p q11_0 h
      refine lv_lookup (off := 101) (tgt := 130) hx hb dX5_readItem_29 (by decide) (by rw [q11_0]; rfl) (by decide) ?_
      refine lv_aload_n hx hb dX5_readItem_130 rfl (lv_at hl 2 rfl) ?_
      refine lv_iload_n hx hb dX5_readItem_131 rfl (lv_at hl 1 rfl) ?_
      refine lv_iconst (v := 3) hx hb dX5_readItem_132 (by decide) ?_
      refine lv_iconst (v := 0) hx hb dX5_readItem_133 (by decide) ?_
      refine lv_iconst (v := 0) hx hb dX5_readItem_134 (by decide) ?_
      obtain ⟨t12, e13, h⟩ := bd h
      refine x_gov (x_rv (rest := []) hC hW (ctX17_note e13) (cwV_g hC.2.2.2.2 ml_X5_78 mi_X5_note md_X5_note ⟨(Nat.le_trans (Nat.le_of_ble_eq_true rfl) hF), (Nat.le_trans (Nat.le_of_ble_eq_true rfl) hL)⟩) (rcX17 hW) rfl hl.1 rfl (Nat.le_of_ble_eq_true rfl) dX5_readItem_135) hW (fun H locs hW => ?_)
      refine lv_goto (tgt := 180) hx hb dX5_readItem_138 (by decide) ?_
      cases h
      exact K8 _ _ _ hW (lv_sub hl [] rfl)
    have h := it_n q11_0 h
    by_cases q11_1 : t4 = 42
    · have h := it_p q11_1 h
      refine lv_lookup (off := 82) (tgt := 111) hx hb dX5_readItem_29 (by decide) (by rw [q11_1]; rfl) (by decide) ?_
      refine lv_aload_n hx hb dX5_readItem_111 rfl (lv_at hl 2 rfl) ?_
      refine lv_iload_n hx hb dX5_readItem_112 rfl (lv_at hl 1 rfl) ?_
      refine lv_iconst (v := 2) hx hb dX5_readItem_113 (by decide) ?_
      refine lv_aload_n hx hb dX5_readItem_114 rfl (lv_at hl 2 rfl) ?_
      refine lv_iload_n hx hb dX5_readItem_115 rfl (lv_at hl 1 rfl) ?_
      obtain ⟨t14, e15, h⟩ := bd h
      refine x_goi (x_rv (rest := [.int 2, .int t1.1, .ref (ad G 17)]) hC hW (ctX17_readOther e15) (cwV_g hC.2.2.2.2 ml_X5_75 mi_X5_readOther md_X5_readOther ⟨(Nat.le_trans (Nat.le_of_ble_eq_true rfl) hF), (Nat.le_trans (Nat.le_of_ble_eq_true rfl) hL)⟩) (rcX17 hW) rfl hl.1 rfl (Nat.le_of_ble_eq_true rfl) dX5_readItem_116) hW (fun H locs hW => ?_)
      refine lv_aload_n hx hb dX5_readItem_119 rfl (lv_at hl 2 rfl) ?_
      refine lv_iload_n hx hb dX5_readItem_120 rfl (lv_at hl 1 rfl) ?_
      obtain ⟨t16, e17, h⟩ := bd h
      refine x_goi (x_rv (rest := [.int t14.1, .int 2, .int t1.1, .ref (ad G 17)]) hC hW (ctX17_readOther e17) (cwV_g hC.2.2.2.2 ml_X5_75 mi_X5_readOther md_X5_readOther ⟨(Nat.le_trans (Nat.le_of_ble_eq_true rfl) hF), (Nat.le_trans (Nat.le_of_ble_eq_true rfl) hL)⟩) (rcX17 hW) rfl hl.1 rfl (Nat.le_of_ble_eq_true rfl) dX5_readItem_121) hW (fun H locs hW => ?_)
      obtain ⟨t18, e19, h⟩ := bd h
      refine x_gov (x_rv (rest := []) hC hW (ctX17_note e19) (cwV_g hC.2.2.2.2 ml_X5_78 mi_X5_note md_X5_note ⟨(Nat.le_trans (Nat.le_of_ble_eq_true rfl) hF), (Nat.le_trans (Nat.le_of_ble_eq_true rfl) hL)⟩) (rcX17 hW) rfl hl.1 rfl (Nat.le_of_ble_eq_true rfl) dX5_readItem_124) hW (fun H locs hW => ?_)
      refine lv_goto (tgt := 180) hx hb dX5_readItem_127 (by decide) ?_
      cases h
      exact K8 _ _ _ hW (lv_sub hl [] rfl)
    have h := it_n q11_1 h
    by_cases q11_2 : t4 = 61
    · have h := it_p q11_2 h
      refine lv_lookup (off := 74) (tgt := 103) hx hb dX5_readItem_29 (by decide) (by rw [q11_2]; rfl) (by decide) ?_
      refine lv_aload_n hx hb dX5_readItem_103 rfl (lv_at hl 2 rfl) ?_
      refine lv_iload_n hx hb dX5_readItem_104 rfl (lv_at hl 1 rfl) ?_
      obtain ⟨t20, e21, h⟩ := bd h
      refine x_gov (x_rv (rest := []) hC hW (ctX17_readFigure e21) (cwV_g hC.2.2.2.2 ml_X5_72 mi_X5_readFigure md_X5_readFigure ⟨(Nat.le_trans (Nat.le_of_ble_eq_true rfl) hF), (Nat.le_trans (Nat.le_of_ble_eq_true rfl) hL)⟩) (rcX17 hW) rfl hl.1 rfl (Nat.le_of_ble_eq_true rfl) dX5_readItem_105) hW (fun H locs hW => ?_)
      refine lv_goto (tgt := 180) hx hb dX5_readItem_108 (by decide) ?_
      cases h
      exact K8 _ _ _ hW (lv_sub hl [] rfl)
    have h := it_n q11_2 h
    by_cases q11_3 : t4 = 62
    · have h := it_p q11_3 h
      refine lv_lookup (off := 112) (tgt := 141) hx hb dX5_readItem_29 (by decide) (by rw [q11_3]; rfl) (by decide) ?_
      refine lv_aload_n hx hb dX5_readItem_141 rfl (lv_at hl 2 rfl) ?_
      refine lv_iload_n hx hb dX5_readItem_142 rfl (lv_at hl 1 rfl) ?_
      refine lv_iconst (v := 4) hx hb dX5_readItem_143 (by decide) ?_
      refine lv_aload_n hx hb dX5_readItem_144 rfl (lv_at hl 2 rfl) ?_
      refine lv_iload_n hx hb dX5_readItem_145 rfl (lv_at hl 1 rfl) ?_
      obtain ⟨t22, e23, h⟩ := bd h
      refine x_goi (x_rv (rest := [.int 4, .int t1.1, .ref (ad G 17)]) hC hW (ctX17_readOther e23) (cwV_g hC.2.2.2.2 ml_X5_75 mi_X5_readOther md_X5_readOther ⟨(Nat.le_trans (Nat.le_of_ble_eq_true rfl) hF), (Nat.le_trans (Nat.le_of_ble_eq_true rfl) hL)⟩) (rcX17 hW) rfl hl.1 rfl (Nat.le_of_ble_eq_true rfl) dX5_readItem_146) hW (fun H locs hW => ?_)
      refine lv_iconst (v := 0) hx hb dX5_readItem_149 (by decide) ?_
      obtain ⟨t24, e25, h⟩ := bd h
      refine x_gov (x_rv (rest := []) hC hW (ctX17_note e25) (cwV_g hC.2.2.2.2 ml_X5_78 mi_X5_note md_X5_note ⟨(Nat.le_trans (Nat.le_of_ble_eq_true rfl) hF), (Nat.le_trans (Nat.le_of_ble_eq_true rfl) hL)⟩) (rcX17 hW) rfl hl.1 rfl (Nat.le_of_ble_eq_true rfl) dX5_readItem_150) hW (fun H locs hW => ?_)
      refine lv_goto (tgt := 180) hx hb dX5_readItem_153 (by decide) ?_
      cases h
      exact K8 _ _ _ hW (lv_sub hl [] rfl)
    have h := it_n q11_3 h
    by_cases q11_4 : t4 = 91
    · have h := it_p q11_4 h
      refine lv_lookup (off := 59) (tgt := 88) hx hb dX5_readItem_29 (by decide) (by rw [q11_4]; rfl) (by decide) ?_
      refine lv_aload_n hx hb dX5_readItem_88 rfl (lv_at hl 2 rfl) ?_
      refine lv_iload_n hx hb dX5_readItem_89 rfl (lv_at hl 1 rfl) ?_
      refine lv_iconst (v := 0) hx hb dX5_readItem_90 (by decide) ?_
      obtain ⟨t26, e27, h⟩ := bd h
      refine x_gov (x_rv (rest := []) hC hW (ctX17_readSpan e27) (cwV_g hC.2.2.2.2 ml_X5_64 mi_X5_readSpan md_X5_readSpan ⟨(Nat.le_trans (Nat.le_of_ble_eq_true rfl) hF), (Nat.le_trans (Nat.le_of_ble_eq_true rfl) hL)⟩) (rcX17 hW) rfl hl.1 rfl (Nat.le_of_ble_eq_true rfl) dX5_readItem_91) hW (fun H locs hW => ?_)
      refine lv_aload_n hx hb dX5_readItem_94 rfl (lv_at hl 2 rfl) ?_
      refine lv_bipush (v := 93) hx hb dX5_readItem_95 (by decide) ?_
      obtain ⟨t28, e29, h⟩ := bd h
      refine x_gov (x_rv (rest := []) hC hW (ctX17_expect e29) (cwV_g hC.2.2.2.2 ml_X5_68 mi_X5_expect md_X5_expect ⟨(Nat.le_trans (Nat.le_of_ble_eq_true rfl) hF), (Nat.le_trans (Nat.le_of_ble_eq_true rfl) hL)⟩) (rcX17 hW) rfl hl.1 rfl (Nat.le_of_ble_eq_true rfl) dX5_readItem_97) hW (fun H locs hW => ?_)
      refine lv_goto (tgt := 180) hx hb dX5_readItem_100 (by decide) ?_
      cases h
      exact K8 _ _ _ hW (lv_sub hl [] rfl)
    have h := it_n q11_4 h
    by_cases q11_5 : t4 = 126
    · have h := it_p q11_5 h
      refine lv_lookup (off := 127) (tgt := 156) hx hb dX5_readItem_29 (by decide) (by rw [q11_5]; rfl) (by decide) ?_
      refine lv_aload_n hx hb dX5_readItem_156 rfl (lv_at hl 2 rfl) ?_
      refine lv_iload_n hx hb dX5_readItem_157 rfl (lv_at hl 1 rfl) ?_
      refine lv_iconst (v := 5) hx hb dX5_readItem_158 (by decide) ?_
      obtain ⟨t30, e31, h⟩ := bd h
      refine x_gov (x_rv (rest := []) hC hW (ctX17_readSpan e31) (cwV_g hC.2.2.2.2 ml_X5_64 mi_X5_readSpan md_X5_readSpan ⟨(Nat.le_trans (Nat.le_of_ble_eq_true rfl) hF), (Nat.le_trans (Nat.le_of_ble_eq_true rfl) hL)⟩) (rcX17 hW) rfl hl.1 rfl (Nat.le_of_ble_eq_true rfl) dX5_readItem_159) hW (fun H locs hW => ?_)
      refine lv_goto (tgt := 180) hx hb dX5_readItem_162 (by decide) ?_
      cases h
      exact K8 _ _ _ hW (lv_sub hl [] rfl)
    have h := it_n q11_5 h
    have q11_0i := lv_neT (a := 35) q11_0 (by decide)
    have q11_1i := lv_neT (a := 42) q11_1 (by decide)
    have q11_2i := lv_neT (a := 61) q11_2 (by decide)
    have q11_3i := lv_neT (a := 62) q11_3 (by decide)
    have q11_4i := lv_neT (a := 91) q11_4 (by decide)
    have q11_5i := lv_neT (a := 126) q11_5 (by decide)
    refine lv_lookup (off := 136) (tgt := 165) hx hb dX5_readItem_29 (by decide) ((lv_osw q11_0 (by decide)).trans ((lv_osw q11_1 (by decide)).trans ((lv_osw q11_2 (by decide)).trans ((lv_osw q11_3 (by decide)).trans ((lv_osw q11_4 (by decide)).trans ((lv_osw q11_5 (by decide)).trans (rfl))))))) (by decide) ?_
    refine lv_aload_n hx hb dX5_readItem_165 rfl (lv_at hl 2 rfl) ?_
    refine lv_dup hx hb dX5_readItem_166 rfl ?_
    refine gX17_5 hC hW dX5_readItem_167 ?_
    refine lv_iconst (v := 1) hx hb dX5_readItem_170 (by decide) ?_
    refine lv_isub hx hb dX5_readItem_171 ?_
    refine pX17_5 hC hW dX5_readItem_172 (fun H locs hW => ?_)
    obtain ⟨s32, e33, h⟩ := nx_some h
    rw [← e33] at hW
    refine lv_aload_n hx hb dX5_readItem_175 rfl (lv_at hl 2 rfl) ?_
    refine lv_iconst (v := 1) hx hb dX5_readItem_176 (by decide) ?_
    refine pX17_6 hC hW rfl dX5_readItem_177 (fun H locs hW => ?_)
    obtain ⟨s34, e35, h⟩ := nx_some h
    rw [← e35] at hW
    cases h
    exact K8 _ _ _ hW (lv_sub hl [] rfl)
  · have h := it_n q3 h
    cases h
    exact kr _ _ _ _ dX5_readItem_12 hW
theorem ctX17_readItem {S : St}   {S' : St} (h : fX17_readItem S = some (S')) : Met l yX5_readItem (wm yX5_readItem cX5_readItem 3 none) (rmx 4 85) (pcm LX G S [.ref (ad G 17)]) (qcV LX G S') 0 0 G.2.2.2 :=
  x_enter (own := RX5) rfl rfl (Nat.le_of_ble_eq_true rfl) (fun p e s m below meth c ls hC hr hk hW hl => wX17_readItem hC (Nat.le_refl _) (Nat.le_refl _)  h (fun H locs ls pc hd hW => x_retv hC hr hk hW hd) _ _ _ hW hl)
def fX17_findFault_L30 (N : Nat)  : Nat → St → Int32 → Option (St)
  | 0, _, _ => none
  | n + 1, S, x3 =>
    if 12 ≤ x3 then
      some S
    else
      gd (inb x3 12) <|
      nx (p1 S 18 (Int32.toNatClampNeg x3) (-1)) fun s15 =>
      fX17_findFault_L30 N n s15 (x3 + 1)
set_option maxHeartbeats 4000000 in
set_option maxRecDepth 100000 in
theorem wX17_findFault_L30 {N : Nat}  (hC : CallFix p m c cX5_findFault 4 s args lw_g RX5) (hF : 5 ≤ R.frames) (hL : 107 ≤ R.locals)  {t : St} (kx : ∀ (H : Heap) (locs : List Loc) (ls : Array Slot), wg LX G t s H locs → lv_has ls 4 [(0, .ref (ad G 17))] → W p l e R s m args below meth c H locs 0 0 Q (F0 m 49 ls [])) : ∀ (n : Nat) (S : St) (x3 : Int32), fX17_findFault_L30 N  n S x3 = some t → ∀ (H : Heap) (locs : List Loc) (ls : Array Slot), wg LX G S s H locs → lv_has ls 4 [(0, .ref (ad G 17)), (3, .int x3)] → W p l e R s m args below meth c H locs 0 0 Q (F0 m 30 ls []) := by
  have hx := hC.1
  have hb := hC.2.1
  intro n
  induction n with
  | zero =>
    intro _ _ h
    cases h
  | succ n ih =>
    intro S x3 h H locs ls hW hl
    rw [fX17_findFault_L30] at h
    refine lv_iload_n hx hb dX5_findFault_30 rfl (lv_at hl 1 rfl) ?_
    refine lv_bipush (v := 12) hx hb dX5_findFault_31 (by decide) ?_
    refine lv_icmp_ge (tgt := 49) hx hb dX5_findFault_33 (by decide) (fun q13 => ?_) (fun q13 => ?_)
    · have h := it_p q13 h
      cases h
      exact kx _ _ _ hW (lv_sub hl [0] rfl)
    · have h := it_n q13 h
      refine lv_aload_n hx hb dX5_findFault_36 rfl (lv_at hl 0 rfl) ?_
      refine gX17_0 hC hW dX5_findFault_37 ?_
      refine lv_iload_n hx hb dX5_findFault_40 rfl (lv_at hl 1 rfl) ?_
      refine lv_iconst (v := (-1)) hx hb dX5_findFault_41 (by decide) ?_
      obtain ⟨g14, h⟩ := gd_some h
      refine x_iast hC hW aX18 g14 dX5_findFault_42 (fun H locs hW => ?_)
      obtain ⟨s15, e16, h⟩ := nx_some h
      rw [← e16] at hW
      refine lv_iinc (v := x3 + 1) (lv' := [(3, .int (x3 + 1)), (0, .ref (ad G 17))]) (k := 1) hx hb dX5_findFault_43 hl rfl rfl (by decide) rfl (fun ls hl => ?_)
      refine lv_goto (tgt := 30) hx hb dX5_findFault_46 (by decide) ?_
      exact ih _ _ h _ _ _ hW (lv_sub hl [1, 0] rfl)
def fX17_findFault_L55 (N : Nat)  : Nat → St → Int32 → Option (St)
  | 0, _, _ => none
  | n + 1, S, x3 =>
    if 60 ≤ x3 then
      some S
    else
      if (S.1 17 6) = 0 then
        if (S.1 17 4) ≤ (S.1 17 5) then
          some S
        else
          Option.bind (fX17_readItem S) fun t24 =>
          Option.bind (fX17_skipBlanks N t24) fun t26 =>
          fX17_findFault_L55 N n t26 (x3 + 1)
      else
        some S
set_option maxHeartbeats 4000000 in
set_option maxRecDepth 100000 in
theorem wX17_findFault_L55 {N : Nat}  (hC : CallFix p m c cX5_findFault 4 s args lw_g RX5) (hF : 5 ≤ R.frames) (hL : 107 ≤ R.locals)  {t : St} (kx : ∀ (H : Heap) (locs : List Loc) (ls : Array Slot), wg LX G t s H locs → lv_has ls 4 [(0, .ref (ad G 17))] → W p l e R s m args below meth c H locs 0 0 Q (F0 m 93 ls [])) : ∀ (n : Nat) (S : St) (x3 : Int32), fX17_findFault_L55 N  n S x3 = some t → ∀ (H : Heap) (locs : List Loc) (ls : Array Slot), wg LX G S s H locs → lv_has ls 4 [(0, .ref (ad G 17)), (3, .int x3)] → W p l e R s m args below meth c H locs 0 0 Q (F0 m 55 ls []) := by
  have hx := hC.1
  have hb := hC.2.1
  intro n
  induction n with
  | zero =>
    intro _ _ h
    cases h
  | succ n ih =>
    intro S x3 h H locs ls hW hl
    rw [fX17_findFault_L55] at h
    refine lv_iload_n hx hb dX5_findFault_55 rfl (lv_at hl 1 rfl) ?_
    refine lv_bipush (v := 60) hx hb dX5_findFault_56 (by decide) ?_
    refine lv_icmp_ge (tgt := 93) hx hb dX5_findFault_58 (by decide) (fun q21 => ?_) (fun q21 => ?_)
    · have h := it_p q21 h
      cases h
      exact kx _ _ _ hW (lv_sub hl [0] rfl)
    · have h := it_n q21 h
      refine lv_aload_n hx hb dX5_findFault_61 rfl (lv_at hl 0 rfl) ?_
      refine gX17_6 hC hW dX5_findFault_62 ?_
      refine lv_if_ne (tgt := 93) hx hb dX5_findFault_65 (by decide) (fun q22 => ?_) (fun q22 => ?_)
      · have h := it_n q22 h
        cases h
        exact kx _ _ _ hW (lv_sub hl [0] rfl)
      · have h := it_p q22 h
        refine lv_aload_n hx hb dX5_findFault_68 rfl (lv_at hl 0 rfl) ?_
        refine gX17_5 hC hW dX5_findFault_69 ?_
        refine lv_aload_n hx hb dX5_findFault_72 rfl (lv_at hl 0 rfl) ?_
        refine gX17_4 hC hW dX5_findFault_73 ?_
        refine lv_icmp_ge (tgt := 93) hx hb dX5_findFault_76 (by decide) (fun q23 => ?_) (fun q23 => ?_)
        · have h := it_p q23 h
          cases h
          exact kx _ _ _ hW (lv_sub hl [0] rfl)
        · have h := it_n q23 h
          refine lv_aload_n hx hb dX5_findFault_79 rfl (lv_at hl 0 rfl) ?_
          obtain ⟨t24, e25, h⟩ := bd h
          refine x_gov (x_rv (rest := []) hC hW (ctX17_readItem e25) (cwV_g hC.2.2.2.2 ml_X5_48 mi_X5_readItem md_X5_readItem ⟨(Nat.le_trans (Nat.le_of_ble_eq_true rfl) hF), (Nat.le_trans (Nat.le_of_ble_eq_true rfl) hL)⟩) (rcX17 hW) rfl hl.1 rfl (Nat.le_of_ble_eq_true rfl) dX5_findFault_80) hW (fun H locs hW => ?_)
          refine lv_aload_n hx hb dX5_findFault_83 rfl (lv_at hl 0 rfl) ?_
          obtain ⟨t26, e27, h⟩ := bd h
          refine x_gov (x_rv (rest := []) hC hW (ctX17_skipBlanks e27) (cwV_g hC.2.2.2.2 ml_X5_45 mi_X5_skipBlanks md_X5_skipBlanks ⟨(Nat.le_trans (Nat.le_of_ble_eq_true rfl) hF), (Nat.le_trans (Nat.le_of_ble_eq_true rfl) hL)⟩) (rcX17 hW) rfl hl.1 rfl (Nat.le_of_ble_eq_true rfl) dX5_findFault_84) hW (fun H locs hW => ?_)
          refine lv_iinc (v := x3 + 1) (lv' := [(3, .int (x3 + 1)), (0, .ref (ad G 17))]) (k := 1) hx hb dX5_findFault_87 hl rfl rfl (by decide) rfl (fun ls hl => ?_)
          refine lv_goto (tgt := 55) hx hb dX5_findFault_90 (by decide) ?_
          exact ih _ _ h _ _ _ hW (lv_sub hl [1, 0] rfl)
def fX17_findFault (N : Nat) (S : St) (x2 : Int32) : Option (Int32 × St) :=
  Option.bind (fX10_placesOf S x2) fun t1 =>
  nx (p1 S 17 3 (nI t1)) fun s3 =>
  Option.bind (fX10_sizeOf s3 x2) fun t5 =>
  nx (p1 s3 17 4 t5) fun s7 =>
  nx (p1 s7 17 5 0) fun s9 =>
  nx (p1 s9 17 6 0) fun s11 =>
  Option.bind (fX17_findFault_L30 N N s11 0) fun t17 =>
  Option.bind (fX17_skipBlanks N t17) fun t19 =>
  Option.bind (fX17_findFault_L55 N N t19 0) fun t28 =>
  Option.bind (α := Int32) (
    if (t28.1 17 6) = 0 then
      some (-9)
    else
      some (t28.1 17 5)
  ) fun t31 =>
  some (t31, t28)
set_option maxHeartbeats 4000000 in
set_option maxRecDepth 100000 in
theorem wX17_findFault {N : Nat} {S : St} {x2 : Int32} (hC : CallFix p m c cX5_findFault 4 s args lw_g RX5) (hF : 5 ≤ R.frames) (hL : 107 ≤ R.locals)  {v : Int32} {S' : St} (h : fX17_findFault N S x2 = some (v, S')) (kr : ∀ (H : Heap) (locs : List Loc) (ls : Array Slot) (pc : Nat), decode cX5_findFault pc = .ok (.ireturn, 1) → wg LX G (S') s H locs → W p l e R s m args below meth c H locs 0 0 Q (F0 m pc ls [.int v])) : ∀ (H : Heap) (locs : List Loc) (ls : Array Slot), wg LX G S s H locs → lv_has ls 4 [(0, .ref (ad G 17)), (1, .ref (ad G 10)), (2, .int x2)] → W p l e R s m args below meth c H locs 0 0 Q (F0 m 0 ls []) := by
  have hx := hC.1
  have hb := hC.2.1
  intro H locs ls hW hl
  unfold fX17_findFault at h
  refine lv_aload_n hx hb dX5_findFault_0 rfl (lv_at hl 0 rfl) ?_
  refine lv_aload_n hx hb dX5_findFault_1 rfl (lv_at hl 1 rfl) ?_
  refine lv_iload_n hx hb dX5_findFault_2 rfl (lv_at hl 2 rfl) ?_
  obtain ⟨t1, e2, h⟩ := bd h
  refine x_gor (x_rv (rest := [.ref (ad G 17)]) hC hW (ctX10_placesOf e2) (cwV_g hC.2.2.2.2 ml_X5_35 mi_X6_placesOf md_X6_placesOf ⟨(Nat.le_trans (Nat.le_of_ble_eq_true rfl) hF), (Nat.le_trans (Nat.le_of_ble_eq_true rfl) hL)⟩) (rcX10 hW) rfl hl.1 rfl (Nat.le_of_ble_eq_true rfl) dX5_findFault_3) hW (fun H locs hW => ?_)
  refine pX17_3 hC hW ((X10_placesOf_isA e2)).1 dX5_findFault_6 (fun H locs hW => ?_)
  obtain ⟨s3, e4, h⟩ := nx_some h
  rw [← e4] at hW
  refine lv_aload_n hx hb dX5_findFault_9 rfl (lv_at hl 0 rfl) ?_
  refine lv_aload_n hx hb dX5_findFault_10 rfl (lv_at hl 1 rfl) ?_
  refine lv_iload_n hx hb dX5_findFault_11 rfl (lv_at hl 2 rfl) ?_
  obtain ⟨t5, e6, h⟩ := bd h
  refine x_goi (x_rv (rest := [.ref (ad G 17)]) hC hW (ctX10_sizeOf e6) (cwV_g hC.2.2.2.2 ml_X5_41 mi_X6_sizeOf md_X6_sizeOf ⟨(Nat.le_trans (Nat.le_of_ble_eq_true rfl) hF), (Nat.le_trans (Nat.le_of_ble_eq_true rfl) hL)⟩) (rcX10 hW) rfl hl.1 rfl (Nat.le_of_ble_eq_true rfl) dX5_findFault_12) hW (fun H locs hW => ?_)
  refine pX17_4 hC hW dX5_findFault_15 (fun H locs hW => ?_)
  obtain ⟨s7, e8, h⟩ := nx_some h
  rw [← e8] at hW
  refine lv_aload_n hx hb dX5_findFault_18 rfl (lv_at hl 0 rfl) ?_
  refine lv_iconst (v := 0) hx hb dX5_findFault_19 (by decide) ?_
  refine pX17_5 hC hW dX5_findFault_20 (fun H locs hW => ?_)
  obtain ⟨s9, e10, h⟩ := nx_some h
  rw [← e10] at hW
  refine lv_aload_n hx hb dX5_findFault_23 rfl (lv_at hl 0 rfl) ?_
  refine lv_iconst (v := 0) hx hb dX5_findFault_24 (by decide) ?_
  refine pX17_6 hC hW rfl dX5_findFault_25 (fun H locs hW => ?_)
  obtain ⟨s11, e12, h⟩ := nx_some h
  rw [← e12] at hW
  refine lv_iconst (v := 0) hx hb dX5_findFault_28 (by decide) ?_
  refine lv_istore_n (lv' := [(3, .int 0), (0, .ref (ad G 17)), (1, .ref (ad G 10)), (2, .int x2)]) hx hb dX5_findFault_29 rfl hl (by decide) rfl (fun ls hl => ?_)
  obtain ⟨t17, e18, h⟩ := bd h
  refine wX17_findFault_L30 hC hF hL  (fun H locs ls hW hl => ?_) _ _ _ e18 _ _ _ hW (lv_sub hl [1, 0] rfl)
  refine lv_aload_n hx hb dX5_findFault_49 rfl (lv_at hl 0 rfl) ?_
  obtain ⟨t19, e20, h⟩ := bd h
  refine x_gov (x_rv (rest := []) hC hW (ctX17_skipBlanks e20) (cwV_g hC.2.2.2.2 ml_X5_45 mi_X5_skipBlanks md_X5_skipBlanks ⟨(Nat.le_trans (Nat.le_of_ble_eq_true rfl) hF), (Nat.le_trans (Nat.le_of_ble_eq_true rfl) hL)⟩) (rcX17 hW) rfl hl.1 rfl (Nat.le_of_ble_eq_true rfl) dX5_findFault_50) hW (fun H locs hW => ?_)
  refine lv_iconst (v := 0) hx hb dX5_findFault_53 (by decide) ?_
  refine lv_istore_n (lv' := [(3, .int 0), (0, .ref (ad G 17))]) hx hb dX5_findFault_54 rfl hl (by decide) rfl (fun ls hl => ?_)
  obtain ⟨t28, e29, h⟩ := bd h
  refine wX17_findFault_L55 hC hF hL  (fun H locs ls hW hl => ?_) _ _ _ e29 _ _ _ hW (lv_sub hl [1, 0] rfl)
  refine lv_aload_n hx hb dX5_findFault_93 rfl (lv_at hl 0 rfl) ?_
  refine gX17_6 hC hW dX5_findFault_94 ?_
  obtain ⟨t31, e32, h⟩ := bd h
  have K30 : ∀ (H : Heap) (locs : List Loc) (ls : Array Slot), wg LX G t28 s H locs → lv_has ls 4 [] → W p l e R s m args below meth c H locs 0 0 Q (F0 m 109 ls [.int t31]) := by
    intro H locs ls hW hl
    cases h
    exact kr _ _ _ _ dX5_findFault_109 hW
  clear h
  have h := e32
  clear e32
  refine lv_if_eq (tgt := 107) hx hb dX5_findFault_97 (by decide) (fun q33 => ?_) (fun q33 => ?_)
  · have h := it_p q33 h
    refine lv_bipush (v := (-9)) hx hb dX5_findFault_107 (by decide) ?_
    cases h
    exact K30 _ _ _ hW (lv_sub hl [] rfl)
  · have h := it_n q33 h
    refine lv_aload_n hx hb dX5_findFault_100 rfl (lv_at hl 0 rfl) ?_
    refine gX17_5 hC hW dX5_findFault_101 ?_
    refine lv_goto (tgt := 109) hx hb dX5_findFault_104 (by decide) ?_
    cases h
    exact K30 _ _ _ hW (lv_sub hl [] rfl)
theorem ctX17_findFault {N : Nat} {S : St} {x2 : Int32}  {v : Int32} {S' : St} (h : fX17_findFault N S x2 = some (v, S')) : Met l yX5_findFault (wm yX5_findFault cX5_findFault 4 (some .int)) (rmx 5 107) (pcm LX G S [.ref (ad G 17), .ref (ad G 10), .int x2]) (qcI LX G S' v) 0 0 G.2.2.2 :=
  x_enter (own := RX5) rfl rfl (Nat.le_of_ble_eq_true rfl) (fun p e s m below meth c ls hC hr hk hW hl => wX17_findFault hC (Nat.le_refl _) (Nat.le_refl _)  h (fun H locs ls pc hd hW => x_reti hC hr hk hW hd) _ _ _ hW hl)
def fX0_fault (N : Nat) (S : St) (x1 : Int32) : Option (Int32 × St) :=
  Option.bind (fX0_refuseText S x1) fun t1 =>
  if t1.1 = 0 then
    Option.bind (fX17_findFault N t1.2 x1) fun t4 =>
    some (t4.1, t4.2)
  else
    some (t1.1, t1.2)
set_option maxHeartbeats 4000000 in
set_option maxRecDepth 100000 in
theorem wX0_fault {N : Nat} {S : St} {x1 : Int32} (hC : CallFix p m c cX9_fault 3 s args lw_g RX9) (hF : 6 ≤ R.frames) (hL : 130 ≤ R.locals)  {v : Int32} {S' : St} (h : fX0_fault N S x1 = some (v, S')) (kr : ∀ (H : Heap) (locs : List Loc) (ls : Array Slot) (pc : Nat), decode cX9_fault pc = .ok (.ireturn, 1) → wg LX G (S') s H locs → W p l e R s m args below meth c H locs 0 0 Q (F0 m pc ls [.int v])) : ∀ (H : Heap) (locs : List Loc) (ls : Array Slot), wg LX G S s H locs → lv_has ls 3 [(0, .ref (ad G 0)), (1, .int x1)] → W p l e R s m args below meth c H locs 0 0 Q (F0 m 0 ls []) := by
  have hx := hC.1
  have hb := hC.2.1
  intro H locs ls hW hl
  unfold fX0_fault at h
  refine lv_aload_n hx hb dX9_fault_0 rfl (lv_at hl 0 rfl) ?_
  refine lv_iload_n hx hb dX9_fault_1 rfl (lv_at hl 1 rfl) ?_
  obtain ⟨t1, e2, h⟩ := bd h
  refine x_goi (x_rv (rest := []) hC hW (ctX0_refuseText e2) (cwV_g hC.2.2.2.2 ml_X9_155 mi_X9_refuseText md_X9_refuseText ⟨(Nat.le_trans (Nat.le_of_ble_eq_true rfl) hF), (Nat.le_trans (Nat.le_of_ble_eq_true rfl) hL)⟩) (rcX0 hW) rfl hl.1 rfl (Nat.le_of_ble_eq_true rfl) dX9_fault_2) hW (fun H locs hW => ?_)
  refine lv_istore_n (lv' := [(2, .int t1.1), (0, .ref (ad G 0)), (1, .int x1)]) hx hb dX9_fault_5 rfl hl (by decide) rfl (fun ls hl => ?_)
  refine lv_iload_n hx hb dX9_fault_6 rfl (lv_at hl 0 rfl) ?_
  refine lv_if_eq (tgt := 12) hx hb dX9_fault_7 (by decide) (fun q3 => ?_) (fun q3 => ?_)
  · have h := it_p q3 h
    refine lv_aload_n hx hb dX9_fault_12 rfl (lv_at hl 1 rfl) ?_
    refine gX0_2 hC hW dX9_fault_13 ?_
    refine lv_aload_n hx hb dX9_fault_16 rfl (lv_at hl 1 rfl) ?_
    refine gX0_1 hC hW dX9_fault_17 ?_
    refine lv_iload_n hx hb dX9_fault_20 rfl (lv_at hl 2 rfl) ?_
    obtain ⟨t4, e5, h⟩ := bd h
    refine x_goi (x_rv (rest := []) hC hW (ctX17_findFault e5) (cwV_g hC.2.2.2.2 ml_X9_158 mi_X5_findFault md_X5_findFault ⟨(Nat.le_trans (Nat.le_of_ble_eq_true rfl) hF), (Nat.le_trans (Nat.le_of_ble_eq_true rfl) hL)⟩) (rcX17 hW) rfl hl.1 rfl (Nat.le_of_ble_eq_true rfl) dX9_fault_21) hW (fun H locs hW => ?_)
    cases h
    exact kr _ _ _ _ dX9_fault_24 hW
  · have h := it_n q3 h
    refine lv_iload_n hx hb dX9_fault_10 rfl (lv_at hl 0 rfl) ?_
    cases h
    exact kr _ _ _ _ dX9_fault_11 hW
theorem ctX0_fault {N : Nat} {S : St} {x1 : Int32}  {v : Int32} {S' : St} (h : fX0_fault N S x1 = some (v, S')) : Met l yX9_fault (wm yX9_fault cX9_fault 3 (some .int)) (rmx 6 130) (pcm LX G S [.ref (ad G 0), .int x1]) (qcI LX G S' v) 0 0 G.2.2.2 :=
  x_enter (own := RX9) rfl rfl (Nat.le_of_ble_eq_true rfl) (fun p e s m below meth c ls hC hr hk hW hl => wX0_fault hC (Nat.le_refl _) (Nat.le_refl _)  h (fun H locs ls pc hd hW => x_reti hC hr hk hW hd) _ _ _ hW hl)
def fX25_write (S : St) (x1 : Int32) (x2 : Int32) (x3 : Int32) (x4 : Int32) : Option (St) :=
  gd (inb x1 12) <|
  nx (p1 S 26 (Int32.toNatClampNeg x1) x2) fun s2 =>
  gd (inb x1 12) <|
  nx (p1 s2 27 (Int32.toNatClampNeg x1) x3) fun s5 =>
  gd (inb x1 12) <|
  nx (p1 s5 28 (Int32.toNatClampNeg x1) x4) fun s8 =>
  Option.bind (α := Int32) (
    if x2 = (-1) then
      some ((s8.1 25 4) &&& ((1 <<< (x1 &&& 31)) ^^^ (-1)))
    else
      some ((s8.1 25 4) ||| (1 <<< (x1 &&& 31)))
  ) fun t11 =>
  nx (p1 s8 25 4 t11) fun s14 =>
  some s14
set_option maxHeartbeats 4000000 in
set_option maxRecDepth 100000 in
theorem wX25_write {S : St} {x1 : Int32} {x2 : Int32} {x3 : Int32} {x4 : Int32} (hC : CallFix p m c cX0_write 5 s args lw_g RX0) (hF : 0 ≤ R.frames) (hL : 0 ≤ R.locals)  {S' : St} (h : fX25_write S x1 x2 x3 x4 = some (S')) (kr : ∀ (H : Heap) (locs : List Loc) (ls : Array Slot) (pc : Nat), decode cX0_write pc = .ok (.return_, 1) → wg LX G (S') s H locs → W p l e R s m args below meth c H locs 0 0 Q (F0 m pc ls [])) : ∀ (H : Heap) (locs : List Loc) (ls : Array Slot), wg LX G S s H locs → lv_has ls 5 [(0, .ref (ad G 25)), (1, .int x1), (2, .int x2), (3, .int x3), (4, .int x4)] → W p l e R s m args below meth c H locs 0 0 Q (F0 m 0 ls []) := by
  have hx := hC.1
  have hb := hC.2.1
  intro H locs ls hW hl
  unfold fX25_write at h
  refine lv_aload_n hx hb dX0_write_0 rfl (lv_at hl 0 rfl) ?_
  refine gX25_1 hC hW dX0_write_1 ?_
  refine lv_iload_n hx hb dX0_write_4 rfl (lv_at hl 1 rfl) ?_
  refine lv_iload_n hx hb dX0_write_5 rfl (lv_at hl 2 rfl) ?_
  obtain ⟨g1, h⟩ := gd_some h
  refine x_iast hC hW aX26 g1 dX0_write_6 (fun H locs hW => ?_)
  obtain ⟨s2, e3, h⟩ := nx_some h
  rw [← e3] at hW
  refine lv_aload_n hx hb dX0_write_7 rfl (lv_at hl 0 rfl) ?_
  refine gX25_2 hC hW dX0_write_8 ?_
  refine lv_iload_n hx hb dX0_write_11 rfl (lv_at hl 1 rfl) ?_
  refine lv_iload_n hx hb dX0_write_12 rfl (lv_at hl 3 rfl) ?_
  obtain ⟨g4, h⟩ := gd_some h
  refine x_iast hC hW aX27 g4 dX0_write_13 (fun H locs hW => ?_)
  obtain ⟨s5, e6, h⟩ := nx_some h
  rw [← e6] at hW
  refine lv_aload_n hx hb dX0_write_14 rfl (lv_at hl 0 rfl) ?_
  refine gX25_3 hC hW dX0_write_15 ?_
  refine lv_iload_n hx hb dX0_write_18 rfl (lv_at hl 1 rfl) ?_
  refine lv_iload hx hb dX0_write_19 (lv_at hl 4 rfl) ?_
  obtain ⟨g7, h⟩ := gd_some h
  refine x_iast hC hW aX28 g7 dX0_write_21 (fun H locs hW => ?_)
  obtain ⟨s8, e9, h⟩ := nx_some h
  rw [← e9] at hW
  refine lv_aload_n hx hb dX0_write_22 rfl (lv_at hl 0 rfl) ?_
  refine lv_iload_n hx hb dX0_write_23 rfl (lv_at hl 2 rfl) ?_
  refine lv_iconst (v := (-1)) hx hb dX0_write_24 (by decide) ?_
  obtain ⟨t11, e12, h⟩ := bd h
  have K10 : ∀ (H : Heap) (locs : List Loc) (ls : Array Slot), wg LX G s8 s H locs → lv_has ls 5 [] → W p l e R s m args below meth c H locs 0 0 Q (F0 m 49 ls [.int t11, .ref (ad G 25)]) := by
    intro H locs ls hW hl
    refine pX25_4 hC hW dX0_write_49 (fun H locs hW => ?_)
    obtain ⟨s14, e15, h⟩ := nx_some h
    rw [← e15] at hW
    cases h
    exact kr _ _ _ _ dX0_write_52 hW
  clear h
  have h := e12
  clear e12
  refine lv_icmp_ne (tgt := 41) hx hb dX0_write_25 (by decide) (fun q13 => ?_) (fun q13 => ?_)
  · have h := it_n q13 h
    refine lv_aload_n hx hb dX0_write_41 rfl (lv_at hl 0 rfl) ?_
    refine gX25_4 hC hW dX0_write_42 ?_
    refine lv_iconst (v := 1) hx hb dX0_write_45 (by decide) ?_
    refine lv_iload_n hx hb dX0_write_46 rfl (lv_at hl 1 rfl) ?_
    refine lv_ishl hx hb dX0_write_47 ?_
    refine lv_ior hx hb dX0_write_48 ?_
    cases h
    exact K10 _ _ _ hW (lv_sub hl [] rfl)
  · have h := it_p q13 h
    refine lv_aload_n hx hb dX0_write_28 rfl (lv_at hl 0 rfl) ?_
    refine gX25_4 hC hW dX0_write_29 ?_
    refine lv_iconst (v := 1) hx hb dX0_write_32 (by decide) ?_
    refine lv_iload_n hx hb dX0_write_33 rfl (lv_at hl 1 rfl) ?_
    refine lv_ishl hx hb dX0_write_34 ?_
    refine lv_iconst (v := (-1)) hx hb dX0_write_35 (by decide) ?_
    refine lv_ixor hx hb dX0_write_36 ?_
    refine lv_iand hx hb dX0_write_37 ?_
    refine lv_goto (tgt := 49) hx hb dX0_write_38 (by decide) ?_
    cases h
    exact K10 _ _ _ hW (lv_sub hl [] rfl)
theorem ctX25_write {S : St} {x1 : Int32} {x2 : Int32} {x3 : Int32} {x4 : Int32}  {S' : St} (h : fX25_write S x1 x2 x3 x4 = some (S')) : Met l yX0_write (wm yX0_write cX0_write 5 none) (rmx 0 0) (pcm LX G S [.ref (ad G 25), .int x1, .int x2, .int x3, .int x4]) (qcV LX G S') 0 0 G.2.2.2 :=
  x_enter (own := RX0) rfl rfl (Nat.le_of_ble_eq_true rfl) (fun p e s m below meth c ls hC hr hk hW hl => wX25_write hC (Nat.le_refl _) (Nat.le_refl _)  h (fun H locs ls pc hd hW => x_retv hC hr hk hW hd) _ _ _ hW hl)
def fX17_writeTo_L2 (N : Nat)  : Nat → St → Int32 → Option (St)
  | 0, _, _ => none
  | n + 1, S, x2 =>
    if 12 ≤ x2 then
      some S
    else
      gd (inb x2 12) <|
      gd (inb x2 12) <|
      gd (inb x2 12) <|
      Option.bind (fX25_write S x2 (S.1 18 (Int32.toNatClampNeg x2)) (S.1 19 (Int32.toNatClampNeg x2)) (S.1 20 (Int32.toNatClampNeg x2))) fun t5 =>
      fX17_writeTo_L2 N n t5 (x2 + 1)
set_option maxHeartbeats 4000000 in
set_option maxRecDepth 100000 in
theorem wX17_writeTo_L2 {N : Nat}  (hC : CallFix p m c cX5_writeTo 3 s args lw_g RX5) (hF : 1 ≤ R.frames) (hL : 24 ≤ R.locals)  {t : St} (kx : ∀ (H : Heap) (locs : List Loc) (ls : Array Slot), wg LX G t s H locs → lv_has ls 3 [] → W p l e R s m args below meth c H locs 0 0 Q (F0 m 37 ls [])) : ∀ (n : Nat) (S : St) (x2 : Int32), fX17_writeTo_L2 N  n S x2 = some t → ∀ (H : Heap) (locs : List Loc) (ls : Array Slot), wg LX G S s H locs → lv_has ls 3 [(0, .ref (ad G 17)), (1, .ref (ad G 25)), (2, .int x2)] → W p l e R s m args below meth c H locs 0 0 Q (F0 m 2 ls []) := by
  have hx := hC.1
  have hb := hC.2.1
  intro n
  induction n with
  | zero =>
    intro _ _ h
    cases h
  | succ n ih =>
    intro S x2 h H locs ls hW hl
    rw [fX17_writeTo_L2] at h
    refine lv_iload_n hx hb dX5_writeTo_2 rfl (lv_at hl 2 rfl) ?_
    refine lv_bipush (v := 12) hx hb dX5_writeTo_3 (by decide) ?_
    refine lv_icmp_ge (tgt := 37) hx hb dX5_writeTo_5 (by decide) (fun q1 => ?_) (fun q1 => ?_)
    · have h := it_p q1 h
      cases h
      exact kx _ _ _ hW (lv_sub hl [] rfl)
    · have h := it_n q1 h
      refine lv_aload_n hx hb dX5_writeTo_8 rfl (lv_at hl 1 rfl) ?_
      refine lv_iload_n hx hb dX5_writeTo_9 rfl (lv_at hl 2 rfl) ?_
      refine lv_aload_n hx hb dX5_writeTo_10 rfl (lv_at hl 0 rfl) ?_
      refine gX17_0 hC hW dX5_writeTo_11 ?_
      refine lv_iload_n hx hb dX5_writeTo_14 rfl (lv_at hl 2 rfl) ?_
      obtain ⟨g2, h⟩ := gd_some h
      refine x_iald hC hW aX18 g2 dX5_writeTo_15 ?_
      refine lv_aload_n hx hb dX5_writeTo_16 rfl (lv_at hl 0 rfl) ?_
      refine gX17_1 hC hW dX5_writeTo_17 ?_
      refine lv_iload_n hx hb dX5_writeTo_20 rfl (lv_at hl 2 rfl) ?_
      obtain ⟨g3, h⟩ := gd_some h
      refine x_iald hC hW aX19 g3 dX5_writeTo_21 ?_
      refine lv_aload_n hx hb dX5_writeTo_22 rfl (lv_at hl 0 rfl) ?_
      refine gX17_2 hC hW dX5_writeTo_23 ?_
      refine lv_iload_n hx hb dX5_writeTo_26 rfl (lv_at hl 2 rfl) ?_
      obtain ⟨g4, h⟩ := gd_some h
      refine x_iald hC hW aX20 g4 dX5_writeTo_27 ?_
      obtain ⟨t5, e6, h⟩ := bd h
      refine x_gov (x_rv (rest := []) hC hW (ctX25_write e6) (cwV_g hC.2.2.2.2 ml_X5_51 mi_X0_write md_X0_write ⟨(Nat.le_trans (Nat.le_of_ble_eq_true rfl) hF), (Nat.le_trans (Nat.le_of_ble_eq_true rfl) hL)⟩) (rcX25 hW) rfl hl.1 rfl (Nat.le_of_ble_eq_true rfl) dX5_writeTo_28) hW (fun H locs hW => ?_)
      refine lv_iinc (v := x2 + 1) (lv' := [(2, .int (x2 + 1)), (0, .ref (ad G 17)), (1, .ref (ad G 25))]) (k := 2) hx hb dX5_writeTo_31 hl rfl rfl (by decide) rfl (fun ls hl => ?_)
      refine lv_goto (tgt := 2) hx hb dX5_writeTo_34 (by decide) ?_
      exact ih _ _ h _ _ _ hW (lv_sub hl [1, 2, 0] rfl)
def fX17_writeTo (N : Nat) (S : St)  : Option (St) :=
  Option.bind (fX17_writeTo_L2 N N S 0) fun t7 =>
  some t7
set_option maxHeartbeats 4000000 in
set_option maxRecDepth 100000 in
theorem wX17_writeTo {N : Nat} {S : St}  (hC : CallFix p m c cX5_writeTo 3 s args lw_g RX5) (hF : 1 ≤ R.frames) (hL : 24 ≤ R.locals)  {S' : St} (h : fX17_writeTo N S = some (S')) (kr : ∀ (H : Heap) (locs : List Loc) (ls : Array Slot) (pc : Nat), decode cX5_writeTo pc = .ok (.return_, 1) → wg LX G (S') s H locs → W p l e R s m args below meth c H locs 0 0 Q (F0 m pc ls [])) : ∀ (H : Heap) (locs : List Loc) (ls : Array Slot), wg LX G S s H locs → lv_has ls 3 [(0, .ref (ad G 17)), (1, .ref (ad G 25))] → W p l e R s m args below meth c H locs 0 0 Q (F0 m 0 ls []) := by
  have hx := hC.1
  have hb := hC.2.1
  intro H locs ls hW hl
  unfold fX17_writeTo at h
  refine lv_iconst (v := 0) hx hb dX5_writeTo_0 (by decide) ?_
  refine lv_istore_n (lv' := [(2, .int 0), (0, .ref (ad G 17)), (1, .ref (ad G 25))]) hx hb dX5_writeTo_1 rfl hl (by decide) rfl (fun ls hl => ?_)
  obtain ⟨t7, e8, h⟩ := bd h
  refine wX17_writeTo_L2 hC hF hL  (fun H locs ls hW hl => ?_) _ _ _ e8 _ _ _ hW (lv_sub hl [1, 2, 0] rfl)
  cases h
  exact kr _ _ _ _ dX5_writeTo_37 hW
theorem ctX17_writeTo {N : Nat} {S : St}   {S' : St} (h : fX17_writeTo N S = some (S')) : Met l yX5_writeTo (wm yX5_writeTo cX5_writeTo 3 none) (rmx 1 24) (pcm LX G S [.ref (ad G 17), .ref (ad G 25)]) (qcV LX G S') 0 0 G.2.2.2 :=
  x_enter (own := RX5) rfl rfl (Nat.le_of_ble_eq_true rfl) (fun p e s m below meth c ls hC hr hk hW hl => wX17_writeTo hC (Nat.le_refl _) (Nat.le_refl _)  h (fun H locs ls pc hd hW => x_retv hC hr hk hW hd) _ _ _ hW hl)
def fJs_bitCount (S : St) (x0 : Int32) : Option (Int32) :=
  nx (x0 - (((Int32.toUInt32 x0 >>> (Int32.toUInt32 1 &&& Int32.toUInt32 31)).toInt32) &&& 1431655765)) fun y1 =>
  nx ((y1 &&& 858993459) + (((Int32.toUInt32 y1 >>> (Int32.toUInt32 2 &&& Int32.toUInt32 31)).toInt32) &&& 858993459)) fun y3 =>
  nx ((y3 + ((Int32.toUInt32 y3 >>> (Int32.toUInt32 4 &&& Int32.toUInt32 31)).toInt32)) &&& 252645135) fun y5 =>
  nx (y5 + ((Int32.toUInt32 y5 >>> (Int32.toUInt32 8 &&& Int32.toUInt32 31)).toInt32)) fun y7 =>
  nx (y7 + ((Int32.toUInt32 y7 >>> (Int32.toUInt32 16 &&& Int32.toUInt32 31)).toInt32)) fun y9 =>
  some (y9 &&& 63)
set_option maxHeartbeats 4000000 in
set_option maxRecDepth 100000 in
theorem wJs_bitCount {S : St} {x0 : Int32} (hC : CallFix p m c cJ6_bitCount_0f7a4 1 s args lw_g RJ6) (hF : 0 ≤ R.frames) (hL : 0 ≤ R.locals)  {v : Int32} (h : fJs_bitCount S x0 = some v) (kr : ∀ (H : Heap) (locs : List Loc) (ls : Array Slot) (pc : Nat), decode cJ6_bitCount_0f7a4 pc = .ok (.ireturn, 1) → wg LX G S s H locs → W p l e R s m args below meth c H locs 0 0 Q (F0 m pc ls [.int v])) : ∀ (H : Heap) (locs : List Loc) (ls : Array Slot), wg LX G S s H locs → lv_has ls 1 [(0, .int x0)] → W p l e R s m args below meth c H locs 0 0 Q (F0 m 0 ls []) := by
  have hx := hC.1
  have hb := hC.2.1
  intro H locs ls hW hl
  unfold fJs_bitCount at h
  refine lv_iload_n hx hb dJ6_bitCount_0f7a4_0 rfl (lv_at hl 0 rfl) ?_
  refine lv_iload_n hx hb dJ6_bitCount_0f7a4_1 rfl (lv_at hl 0 rfl) ?_
  refine lv_iconst (v := 1) hx hb dJ6_bitCount_0f7a4_2 (by decide) ?_
  refine lv_iushr (v := (Int32.toUInt32 x0 >>> (Int32.toUInt32 1 &&& Int32.toUInt32 31)).toInt32) hx hb dJ6_bitCount_0f7a4_3 rfl ?_
  refine lv_ldcw (v := 1431655765) hx hb hC.2.2.2.1 (hC.2.2.2.2 _ kl_J6_265) dJ6_bitCount_0f7a4_4 ?_
  refine lv_iand hx hb dJ6_bitCount_0f7a4_7 ?_
  refine lv_isub hx hb dJ6_bitCount_0f7a4_8 ?_
  obtain ⟨y1, e2, h⟩ := nx_some h
  refine x_topi e2 ?_
  refine lv_istore_n (lv' := [(0, .int y1)]) hx hb dJ6_bitCount_0f7a4_9 rfl hl (by decide) rfl (fun ls hl => ?_)
  refine lv_iload_n hx hb dJ6_bitCount_0f7a4_10 rfl (lv_at hl 0 rfl) ?_
  refine lv_ldcw (v := 858993459) hx hb hC.2.2.2.1 (hC.2.2.2.2 _ kl_J6_266) dJ6_bitCount_0f7a4_11 ?_
  refine lv_iand hx hb dJ6_bitCount_0f7a4_14 ?_
  refine lv_iload_n hx hb dJ6_bitCount_0f7a4_15 rfl (lv_at hl 0 rfl) ?_
  refine lv_iconst (v := 2) hx hb dJ6_bitCount_0f7a4_16 (by decide) ?_
  refine lv_iushr (v := (Int32.toUInt32 y1 >>> (Int32.toUInt32 2 &&& Int32.toUInt32 31)).toInt32) hx hb dJ6_bitCount_0f7a4_17 rfl ?_
  refine lv_ldcw (v := 858993459) hx hb hC.2.2.2.1 (hC.2.2.2.2 _ kl_J6_266) dJ6_bitCount_0f7a4_18 ?_
  refine lv_iand hx hb dJ6_bitCount_0f7a4_21 ?_
  refine lv_iadd hx hb dJ6_bitCount_0f7a4_22 ?_
  obtain ⟨y3, e4, h⟩ := nx_some h
  refine x_topi e4 ?_
  refine lv_istore_n (lv' := [(0, .int y3)]) hx hb dJ6_bitCount_0f7a4_23 rfl hl (by decide) rfl (fun ls hl => ?_)
  refine lv_iload_n hx hb dJ6_bitCount_0f7a4_24 rfl (lv_at hl 0 rfl) ?_
  refine lv_iload_n hx hb dJ6_bitCount_0f7a4_25 rfl (lv_at hl 0 rfl) ?_
  refine lv_iconst (v := 4) hx hb dJ6_bitCount_0f7a4_26 (by decide) ?_
  refine lv_iushr (v := (Int32.toUInt32 y3 >>> (Int32.toUInt32 4 &&& Int32.toUInt32 31)).toInt32) hx hb dJ6_bitCount_0f7a4_27 rfl ?_
  refine lv_iadd hx hb dJ6_bitCount_0f7a4_28 ?_
  refine lv_ldcw (v := 252645135) hx hb hC.2.2.2.1 (hC.2.2.2.2 _ kl_J6_267) dJ6_bitCount_0f7a4_29 ?_
  refine lv_iand hx hb dJ6_bitCount_0f7a4_32 ?_
  obtain ⟨y5, e6, h⟩ := nx_some h
  refine x_topi e6 ?_
  refine lv_istore_n (lv' := [(0, .int y5)]) hx hb dJ6_bitCount_0f7a4_33 rfl hl (by decide) rfl (fun ls hl => ?_)
  refine lv_iload_n hx hb dJ6_bitCount_0f7a4_34 rfl (lv_at hl 0 rfl) ?_
  refine lv_iload_n hx hb dJ6_bitCount_0f7a4_35 rfl (lv_at hl 0 rfl) ?_
  refine lv_bipush (v := 8) hx hb dJ6_bitCount_0f7a4_36 (by decide) ?_
  refine lv_iushr (v := (Int32.toUInt32 y5 >>> (Int32.toUInt32 8 &&& Int32.toUInt32 31)).toInt32) hx hb dJ6_bitCount_0f7a4_38 rfl ?_
  refine lv_iadd hx hb dJ6_bitCount_0f7a4_39 ?_
  obtain ⟨y7, e8, h⟩ := nx_some h
  refine x_topi e8 ?_
  refine lv_istore_n (lv' := [(0, .int y7)]) hx hb dJ6_bitCount_0f7a4_40 rfl hl (by decide) rfl (fun ls hl => ?_)
  refine lv_iload_n hx hb dJ6_bitCount_0f7a4_41 rfl (lv_at hl 0 rfl) ?_
  refine lv_iload_n hx hb dJ6_bitCount_0f7a4_42 rfl (lv_at hl 0 rfl) ?_
  refine lv_bipush (v := 16) hx hb dJ6_bitCount_0f7a4_43 (by decide) ?_
  refine lv_iushr (v := (Int32.toUInt32 y7 >>> (Int32.toUInt32 16 &&& Int32.toUInt32 31)).toInt32) hx hb dJ6_bitCount_0f7a4_45 rfl ?_
  refine lv_iadd hx hb dJ6_bitCount_0f7a4_46 ?_
  obtain ⟨y9, e10, h⟩ := nx_some h
  refine x_topi e10 ?_
  refine lv_istore_n (lv' := [(0, .int y9)]) hx hb dJ6_bitCount_0f7a4_47 rfl hl (by decide) rfl (fun ls hl => ?_)
  refine lv_iload_n hx hb dJ6_bitCount_0f7a4_48 rfl (lv_at hl 0 rfl) ?_
  refine lv_bipush (v := 63) hx hb dJ6_bitCount_0f7a4_49 (by decide) ?_
  refine lv_iand hx hb dJ6_bitCount_0f7a4_51 ?_
  cases h
  exact kr _ _ _ _ dJ6_bitCount_0f7a4_52 hW
theorem ctJs_bitCount {S : St} {x0 : Int32}  {v : Int32} (h : fJs_bitCount S x0 = some v) : Met l yJ6_bitCount_0f7a4 (wm yJ6_bitCount_0f7a4 cJ6_bitCount_0f7a4 1 (some .int)) (rmx 0 0) (pcm LX G S [.int x0]) (qcI LX G S v) 0 0 G.2.2.2 :=
  x_enter (own := RJ6) rfl rfl (Nat.le_of_ble_eq_true rfl) (fun p e s m below meth c ls hC hr hk hW hl => wJs_bitCount hC (Nat.le_refl _) (Nat.le_refl _)  h (fun H locs ls pc hd hW => x_reti hC hr hk hW hd) _ _ _ hW hl)
def fX25_howMany (S : St)  : Option (Int32) :=
  Option.bind (fJs_bitCount S (S.1 25 4)) fun t1 =>
  some t1
set_option maxHeartbeats 4000000 in
set_option maxRecDepth 100000 in
theorem wX25_howMany {S : St}  (hC : CallFix p m c cX0_howMany 1 s args lw_g RX0) (hF : 1 ≤ R.frames) (hL : 20 ≤ R.locals)  {v : Int32} (h : fX25_howMany S = some v) (kr : ∀ (H : Heap) (locs : List Loc) (ls : Array Slot) (pc : Nat), decode cX0_howMany pc = .ok (.ireturn, 1) → wg LX G S s H locs → W p l e R s m args below meth c H locs 0 0 Q (F0 m pc ls [.int v])) : ∀ (H : Heap) (locs : List Loc) (ls : Array Slot), wg LX G S s H locs → lv_has ls 1 [(0, .ref (ad G 25))] → W p l e R s m args below meth c H locs 0 0 Q (F0 m 0 ls []) := by
  have hx := hC.1
  have hb := hC.2.1
  intro H locs ls hW hl
  unfold fX25_howMany at h
  refine lv_aload_n hx hb dX0_howMany_0 rfl (lv_at hl 0 rfl) ?_
  refine gX25_4 hC hW dX0_howMany_1 ?_
  obtain ⟨t1, e2, h⟩ := bd h
  refine x_goi (x_rs (rest := []) hC hW (ctJs_bitCount e2) (cwS_g hC.2.2.2.2 ml_X0_29 ms_J6_bitCount_0f7a4 md_J6_bitCount_0f7a4 ⟨(Nat.le_trans (Nat.le_of_ble_eq_true rfl) hF), (Nat.le_trans (Nat.le_of_ble_eq_true rfl) hL)⟩) rfl hl.1 rfl (Nat.le_of_ble_eq_true rfl) dX0_howMany_4) hW (fun H locs hW => ?_)
  cases h
  exact kr _ _ _ _ dX0_howMany_7 hW
theorem ctX25_howMany {S : St}   {v : Int32} (h : fX25_howMany S = some v) : Met l yX0_howMany (wm yX0_howMany cX0_howMany 1 (some .int)) (rmx 1 20) (pcm LX G S [.ref (ad G 25)]) (qcI LX G S v) 0 0 G.2.2.2 :=
  x_enter (own := RX0) rfl rfl (Nat.le_of_ble_eq_true rfl) (fun p e s m below meth c ls hC hr hk hW hl => wX25_howMany hC (Nat.le_refl _) (Nat.le_refl _)  h (fun H locs ls pc hd hW => x_reti hC hr hk hW hd) _ _ _ hW hl)
def fX0_book (N : Nat) (S : St) (x1 : Int32) : Option (Int32 × St) :=
  Option.bind (fX0_refuseText S x1) fun t1 =>
  if t1.1 = 0 then
    Option.bind (fX17_findFault N t1.2 x1) fun t4 =>
    if t4.1 = (-9) then
      Option.bind (fX17_writeTo N t4.2) fun t7 =>
      Option.bind (fX25_howMany t7) fun t9 =>
      some (t9, t7)
    else
      some ((-4), t4.2)
  else
    some (t1.1, t1.2)
set_option maxHeartbeats 4000000 in
set_option maxRecDepth 100000 in
theorem wX0_book {N : Nat} {S : St} {x1 : Int32} (hC : CallFix p m c cX9_book 3 s args lw_g RX9) (hF : 6 ≤ R.frames) (hL : 130 ≤ R.locals)  {v : Int32} {S' : St} (h : fX0_book N S x1 = some (v, S')) (kr : ∀ (H : Heap) (locs : List Loc) (ls : Array Slot) (pc : Nat), decode cX9_book pc = .ok (.ireturn, 1) → wg LX G (S') s H locs → W p l e R s m args below meth c H locs 0 0 Q (F0 m pc ls [.int v])) : ∀ (H : Heap) (locs : List Loc) (ls : Array Slot), wg LX G S s H locs → lv_has ls 3 [(0, .ref (ad G 0)), (1, .int x1)] → W p l e R s m args below meth c H locs 0 0 Q (F0 m 0 ls []) := by
  have hx := hC.1
  have hb := hC.2.1
  intro H locs ls hW hl
  unfold fX0_book at h
  refine lv_aload_n hx hb dX9_book_0 rfl (lv_at hl 0 rfl) ?_
  refine lv_iload_n hx hb dX9_book_1 rfl (lv_at hl 1 rfl) ?_
  obtain ⟨t1, e2, h⟩ := bd h
  refine x_goi (x_rv (rest := []) hC hW (ctX0_refuseText e2) (cwV_g hC.2.2.2.2 ml_X9_155 mi_X9_refuseText md_X9_refuseText ⟨(Nat.le_trans (Nat.le_of_ble_eq_true rfl) hF), (Nat.le_trans (Nat.le_of_ble_eq_true rfl) hL)⟩) (rcX0 hW) rfl hl.1 rfl (Nat.le_of_ble_eq_true rfl) dX9_book_2) hW (fun H locs hW => ?_)
  refine lv_istore_n (lv' := [(2, .int t1.1), (0, .ref (ad G 0)), (1, .int x1)]) hx hb dX9_book_5 rfl hl (by decide) rfl (fun ls hl => ?_)
  refine lv_iload_n hx hb dX9_book_6 rfl (lv_at hl 0 rfl) ?_
  refine lv_if_eq (tgt := 12) hx hb dX9_book_7 (by decide) (fun q3 => ?_) (fun q3 => ?_)
  · have h := it_p q3 h
    refine lv_aload_n hx hb dX9_book_12 rfl (lv_at hl 1 rfl) ?_
    refine gX0_2 hC hW dX9_book_13 ?_
    refine lv_aload_n hx hb dX9_book_16 rfl (lv_at hl 1 rfl) ?_
    refine gX0_1 hC hW dX9_book_17 ?_
    refine lv_iload_n hx hb dX9_book_20 rfl (lv_at hl 2 rfl) ?_
    obtain ⟨t4, e5, h⟩ := bd h
    refine x_goi (x_rv (rest := []) hC hW (ctX17_findFault e5) (cwV_g hC.2.2.2.2 ml_X9_158 mi_X5_findFault md_X5_findFault ⟨(Nat.le_trans (Nat.le_of_ble_eq_true rfl) hF), (Nat.le_trans (Nat.le_of_ble_eq_true rfl) hL)⟩) (rcX17 hW) rfl hl.1 rfl (Nat.le_of_ble_eq_true rfl) dX9_book_21) hW (fun H locs hW => ?_)
    refine lv_bipush (v := (-9)) hx hb dX9_book_24 (by decide) ?_
    refine lv_icmp_eq (tgt := 32) hx hb dX9_book_26 (by decide) (fun q6 => ?_) (fun q6 => ?_)
    · have h := it_p q6 h
      refine lv_aload_n hx hb dX9_book_32 rfl (lv_at hl 1 rfl) ?_
      refine gX0_2 hC hW dX9_book_33 ?_
      refine lv_aload_n hx hb dX9_book_36 rfl (lv_at hl 1 rfl) ?_
      refine gX0_4 hC hW dX9_book_37 ?_
      obtain ⟨t7, e8, h⟩ := bd h
      refine x_gov (x_rv (rest := []) hC hW (ctX17_writeTo e8) (cwV_g hC.2.2.2.2 ml_X9_162 mi_X5_writeTo md_X5_writeTo ⟨(Nat.le_trans (Nat.le_of_ble_eq_true rfl) hF), (Nat.le_trans (Nat.le_of_ble_eq_true rfl) hL)⟩) (rcX17 hW) rfl hl.1 rfl (Nat.le_of_ble_eq_true rfl) dX9_book_40) hW (fun H locs hW => ?_)
      refine lv_aload_n hx hb dX9_book_43 rfl (lv_at hl 1 rfl) ?_
      refine gX0_4 hC hW dX9_book_44 ?_
      obtain ⟨t9, e10, h⟩ := bd h
      refine x_goi (x_rv (rest := []) hC hW (ctX25_howMany e10) (cwV_g hC.2.2.2.2 ml_X9_165 mi_X0_howMany md_X0_howMany ⟨(Nat.le_trans (Nat.le_of_ble_eq_true rfl) hF), (Nat.le_trans (Nat.le_of_ble_eq_true rfl) hL)⟩) (rcX25 hW) rfl hl.1 rfl (Nat.le_of_ble_eq_true rfl) dX9_book_47) hW (fun H locs hW => ?_)
      cases h
      exact kr _ _ _ _ dX9_book_50 hW
    · have h := it_n q6 h
      refine lv_bipush (v := (-4)) hx hb dX9_book_29 (by decide) ?_
      cases h
      exact kr _ _ _ _ dX9_book_31 hW
  · have h := it_n q3 h
    refine lv_iload_n hx hb dX9_book_10 rfl (lv_at hl 0 rfl) ?_
    cases h
    exact kr _ _ _ _ dX9_book_11 hW
theorem ctX0_book {N : Nat} {S : St} {x1 : Int32}  {v : Int32} {S' : St} (h : fX0_book N S x1 = some (v, S')) : Met l yX9_book (wm yX9_book cX9_book 3 (some .int)) (rmx 6 130) (pcm LX G S [.ref (ad G 0), .int x1]) (qcI LX G S' v) 0 0 G.2.2.2 :=
  x_enter (own := RX9) rfl rfl (Nat.le_of_ble_eq_true rfl) (fun p e s m below meth c ls hC hr hk hW hl => wX0_book hC (Nat.le_refl _) (Nat.le_refl _)  h (fun H locs ls pc hd hW => x_reti hC hr hk hW hd) _ _ _ hW hl)
def fXs_isCellBits (S : St) (x0 : Int32) : Option (Int32) :=
  Option.bind (α := Int32) (
    if x0 < 0 then
      some 0
    else
      if 4096 ≤ x0 then
        some 0
      else
        some 1
  ) fun t2 =>
  gd (isb t2) <|
  some t2
set_option maxHeartbeats 4000000 in
set_option maxRecDepth 100000 in
theorem wXs_isCellBits {S : St} {x0 : Int32} (hC : CallFix p m c cX9_isCellBits 1 s args lw_g RX9) (hF : 0 ≤ R.frames) (hL : 0 ≤ R.locals)  {v : Int32} (h : fXs_isCellBits S x0 = some v) (kr : ∀ (H : Heap) (locs : List Loc) (ls : Array Slot) (pc : Nat), isb v = true → decode cX9_isCellBits pc = .ok (.ireturn, 1) → wg LX G S s H locs → W p l e R s m args below meth c H locs 0 0 Q (F0 m pc ls [.int v])) : ∀ (H : Heap) (locs : List Loc) (ls : Array Slot), wg LX G S s H locs → lv_has ls 1 [(0, .int x0)] → W p l e R s m args below meth c H locs 0 0 Q (F0 m 0 ls []) := by
  have hx := hC.1
  have hb := hC.2.1
  intro H locs ls hW hl
  unfold fXs_isCellBits at h
  refine lv_iload_n hx hb dX9_isCellBits_0 rfl (lv_at hl 0 rfl) ?_
  obtain ⟨t2, e3, h⟩ := bd h
  have K1 : ∀ (H : Heap) (locs : List Loc) (ls : Array Slot), wg LX G S s H locs → lv_has ls 1 [] → W p l e R s m args below meth c H locs 0 0 Q (F0 m 16 ls [.int t2]) := by
    intro H locs ls hW hl
    obtain ⟨g6, h⟩ := gd_some h
    cases h
    exact kr _ _ _ _ g6 dX9_isCellBits_16 hW
  clear h
  have h := e3
  clear e3
  refine lv_if_lt (tgt := 15) hx hb dX9_isCellBits_1 (by decide) (fun q4 => ?_) (fun q4 => ?_)
  · have h := it_p q4 h
    refine lv_iconst (v := 0) hx hb dX9_isCellBits_15 (by decide) ?_
    cases h
    exact K1 _ _ _ hW (lv_sub hl [] rfl)
  · have h := it_n q4 h
    refine lv_iload_n hx hb dX9_isCellBits_4 rfl (lv_at hl 0 rfl) ?_
    refine lv_sipush (v := 4096) hx hb dX9_isCellBits_5 (by decide) ?_
    refine lv_icmp_ge (tgt := 15) hx hb dX9_isCellBits_8 (by decide) (fun q5 => ?_) (fun q5 => ?_)
    · have h := it_p q5 h
      refine lv_iconst (v := 0) hx hb dX9_isCellBits_15 (by decide) ?_
      cases h
      exact K1 _ _ _ hW (lv_sub hl [] rfl)
    · have h := it_n q5 h
      refine lv_iconst (v := 1) hx hb dX9_isCellBits_11 (by decide) ?_
      refine lv_goto (tgt := 16) hx hb dX9_isCellBits_12 (by decide) ?_
      cases h
      exact K1 _ _ _ hW (lv_sub hl [] rfl)
theorem ctXs_isCellBits {S : St} {x0 : Int32}  {v : Int32} (h : fXs_isCellBits S x0 = some v) : Met l yX9_isCellBits (wm yX9_isCellBits cX9_isCellBits 1 (some .boolean)) (rmx 0 0) (pcm LX G S [.int x0]) (qcI LX G S v) 0 0 G.2.2.2 :=
  x_enter (own := RX9) rfl rfl (Nat.le_of_ble_eq_true rfl) (fun p e s m below meth c ls hC hr hk hW hl => wXs_isCellBits hC (Nat.le_refl _) (Nat.le_refl _)  h (fun H locs ls pc hz hd hW => x_retz hC hr hk hW hz hd) _ _ _ hW hl)
def fXs_isTotal (S : St) (x0 : Int32) : Option (Int32) :=
  Option.bind (α := Int32) (
    if x0 < (-999) then
      some 0
    else
      if 9999 < x0 then
        some 0
      else
        some 1
  ) fun t2 =>
  gd (isb t2) <|
  some t2
set_option maxHeartbeats 4000000 in
set_option maxRecDepth 100000 in
theorem wXs_isTotal {S : St} {x0 : Int32} (hC : CallFix p m c cX9_isTotal 1 s args lw_g RX9) (hF : 0 ≤ R.frames) (hL : 0 ≤ R.locals)  {v : Int32} (h : fXs_isTotal S x0 = some v) (kr : ∀ (H : Heap) (locs : List Loc) (ls : Array Slot) (pc : Nat), isb v = true → decode cX9_isTotal pc = .ok (.ireturn, 1) → wg LX G S s H locs → W p l e R s m args below meth c H locs 0 0 Q (F0 m pc ls [.int v])) : ∀ (H : Heap) (locs : List Loc) (ls : Array Slot), wg LX G S s H locs → lv_has ls 1 [(0, .int x0)] → W p l e R s m args below meth c H locs 0 0 Q (F0 m 0 ls []) := by
  have hx := hC.1
  have hb := hC.2.1
  intro H locs ls hW hl
  unfold fXs_isTotal at h
  refine lv_iload_n hx hb dX9_isTotal_0 rfl (lv_at hl 0 rfl) ?_
  refine lv_sipush (v := (-999)) hx hb dX9_isTotal_1 (by decide) ?_
  obtain ⟨t2, e3, h⟩ := bd h
  have K1 : ∀ (H : Heap) (locs : List Loc) (ls : Array Slot), wg LX G S s H locs → lv_has ls 1 [] → W p l e R s m args below meth c H locs 0 0 Q (F0 m 19 ls [.int t2]) := by
    intro H locs ls hW hl
    obtain ⟨g6, h⟩ := gd_some h
    cases h
    exact kr _ _ _ _ g6 dX9_isTotal_19 hW
  clear h
  have h := e3
  clear e3
  refine lv_icmp_lt (tgt := 18) hx hb dX9_isTotal_4 (by decide) (fun q4 => ?_) (fun q4 => ?_)
  · have h := it_p q4 h
    refine lv_iconst (v := 0) hx hb dX9_isTotal_18 (by decide) ?_
    cases h
    exact K1 _ _ _ hW (lv_sub hl [] rfl)
  · have h := it_n q4 h
    refine lv_iload_n hx hb dX9_isTotal_7 rfl (lv_at hl 0 rfl) ?_
    refine lv_sipush (v := 9999) hx hb dX9_isTotal_8 (by decide) ?_
    refine lv_icmp_gt (tgt := 18) hx hb dX9_isTotal_11 (by decide) (fun q5 => ?_) (fun q5 => ?_)
    · have h := it_p q5 h
      refine lv_iconst (v := 0) hx hb dX9_isTotal_18 (by decide) ?_
      cases h
      exact K1 _ _ _ hW (lv_sub hl [] rfl)
    · have h := it_n q5 h
      refine lv_iconst (v := 1) hx hb dX9_isTotal_14 (by decide) ?_
      refine lv_goto (tgt := 19) hx hb dX9_isTotal_15 (by decide) ?_
      cases h
      exact K1 _ _ _ hW (lv_sub hl [] rfl)
theorem ctXs_isTotal {S : St} {x0 : Int32}  {v : Int32} (h : fXs_isTotal S x0 = some v) : Met l yX9_isTotal (wm yX9_isTotal cX9_isTotal 1 (some .boolean)) (rmx 0 0) (pcm LX G S [.int x0]) (qcI LX G S v) 0 0 G.2.2.2 :=
  x_enter (own := RX9) rfl rfl (Nat.le_of_ble_eq_true rfl) (fun p e s m below meth c ls hC hr hk hW hl => wXs_isTotal hC (Nat.le_refl _) (Nat.le_refl _)  h (fun H locs ls pc hz hd hW => x_retz hC hr hk hW hz hd) _ _ _ hW hl)
def fX29_howMany (S : St)  : Option (Int32) :=
  some (S.1 29 4)
set_option maxHeartbeats 4000000 in
set_option maxRecDepth 100000 in
theorem wX29_howMany {S : St}  (hC : CallFix p m c cX7_howMany 1 s args lw_g RX7) (hF : 0 ≤ R.frames) (hL : 0 ≤ R.locals)  {v : Int32} (h : fX29_howMany S = some v) (kr : ∀ (H : Heap) (locs : List Loc) (ls : Array Slot) (pc : Nat), decode cX7_howMany pc = .ok (.ireturn, 1) → wg LX G S s H locs → W p l e R s m args below meth c H locs 0 0 Q (F0 m pc ls [.int v])) : ∀ (H : Heap) (locs : List Loc) (ls : Array Slot), wg LX G S s H locs → lv_has ls 1 [(0, .ref (ad G 29))] → W p l e R s m args below meth c H locs 0 0 Q (F0 m 0 ls []) := by
  have hx := hC.1
  have hb := hC.2.1
  intro H locs ls hW hl
  unfold fX29_howMany at h
  refine lv_aload_n hx hb dX7_howMany_0 rfl (lv_at hl 0 rfl) ?_
  refine gX29_4 hC hW dX7_howMany_1 ?_
  cases h
  exact kr _ _ _ _ dX7_howMany_4 hW
theorem ctX29_howMany {S : St}   {v : Int32} (h : fX29_howMany S = some v) : Met l yX7_howMany (wm yX7_howMany cX7_howMany 1 (some .int)) (rmx 0 0) (pcm LX G S [.ref (ad G 29)]) (qcI LX G S v) 0 0 G.2.2.2 :=
  x_enter (own := RX7) rfl rfl (Nat.le_of_ble_eq_true rfl) (fun p e s m below meth c ls hC hr hk hW hl => wX29_howMany hC (Nat.le_refl _) (Nat.le_refl _)  h (fun H locs ls pc hd hW => x_reti hC hr hk hW hd) _ _ _ hW hl)
def fX29_append (S : St) (x1 : Int32) (x2 : Int32) (x3 : Int32) : Option (St) :=
  gd (inb (S.1 29 4) 8) <|
  nx (p1 S 30 (Int32.toNatClampNeg (S.1 29 4)) x1) fun s2 =>
  gd (inb (s2.1 29 4) 8) <|
  nx (p1 s2 31 (Int32.toNatClampNeg (s2.1 29 4)) x2) fun s5 =>
  gd (inb (s5.1 29 4) 8) <|
  nx (p1 s5 32 (Int32.toNatClampNeg (s5.1 29 4)) x3) fun s8 =>
  nx (p1 s8 29 4 ((s8.1 29 4) + 1)) fun s10 =>
  some s10
set_option maxHeartbeats 4000000 in
set_option maxRecDepth 100000 in
theorem wX29_append {S : St} {x1 : Int32} {x2 : Int32} {x3 : Int32} (hC : CallFix p m c cX7_append 4 s args lw_g RX7) (hF : 0 ≤ R.frames) (hL : 0 ≤ R.locals)  {S' : St} (h : fX29_append S x1 x2 x3 = some (S')) (kr : ∀ (H : Heap) (locs : List Loc) (ls : Array Slot) (pc : Nat), decode cX7_append pc = .ok (.return_, 1) → wg LX G (S') s H locs → W p l e R s m args below meth c H locs 0 0 Q (F0 m pc ls [])) : ∀ (H : Heap) (locs : List Loc) (ls : Array Slot), wg LX G S s H locs → lv_has ls 4 [(0, .ref (ad G 29)), (1, .int x1), (2, .int x2), (3, .int x3)] → W p l e R s m args below meth c H locs 0 0 Q (F0 m 0 ls []) := by
  have hx := hC.1
  have hb := hC.2.1
  intro H locs ls hW hl
  unfold fX29_append at h
  refine lv_aload_n hx hb dX7_append_0 rfl (lv_at hl 0 rfl) ?_
  refine gX29_1 hC hW dX7_append_1 ?_
  refine lv_aload_n hx hb dX7_append_4 rfl (lv_at hl 0 rfl) ?_
  refine gX29_4 hC hW dX7_append_5 ?_
  refine lv_iload_n hx hb dX7_append_8 rfl (lv_at hl 1 rfl) ?_
  obtain ⟨g1, h⟩ := gd_some h
  refine x_iast hC hW aX30 g1 dX7_append_9 (fun H locs hW => ?_)
  obtain ⟨s2, e3, h⟩ := nx_some h
  rw [← e3] at hW
  refine lv_aload_n hx hb dX7_append_10 rfl (lv_at hl 0 rfl) ?_
  refine gX29_2 hC hW dX7_append_11 ?_
  refine lv_aload_n hx hb dX7_append_14 rfl (lv_at hl 0 rfl) ?_
  refine gX29_4 hC hW dX7_append_15 ?_
  refine lv_iload_n hx hb dX7_append_18 rfl (lv_at hl 2 rfl) ?_
  obtain ⟨g4, h⟩ := gd_some h
  refine x_iast hC hW aX31 g4 dX7_append_19 (fun H locs hW => ?_)
  obtain ⟨s5, e6, h⟩ := nx_some h
  rw [← e6] at hW
  refine lv_aload_n hx hb dX7_append_20 rfl (lv_at hl 0 rfl) ?_
  refine gX29_3 hC hW dX7_append_21 ?_
  refine lv_aload_n hx hb dX7_append_24 rfl (lv_at hl 0 rfl) ?_
  refine gX29_4 hC hW dX7_append_25 ?_
  refine lv_iload_n hx hb dX7_append_28 rfl (lv_at hl 3 rfl) ?_
  obtain ⟨g7, h⟩ := gd_some h
  refine x_iast hC hW aX32 g7 dX7_append_29 (fun H locs hW => ?_)
  obtain ⟨s8, e9, h⟩ := nx_some h
  rw [← e9] at hW
  refine lv_aload_n hx hb dX7_append_30 rfl (lv_at hl 0 rfl) ?_
  refine lv_dup hx hb dX7_append_31 rfl ?_
  refine gX29_4 hC hW dX7_append_32 ?_
  refine lv_iconst (v := 1) hx hb dX7_append_35 (by decide) ?_
  refine lv_iadd hx hb dX7_append_36 ?_
  refine pX29_4 hC hW dX7_append_37 (fun H locs hW => ?_)
  obtain ⟨s10, e11, h⟩ := nx_some h
  rw [← e11] at hW
  cases h
  exact kr _ _ _ _ dX7_append_40 hW
theorem ctX29_append {S : St} {x1 : Int32} {x2 : Int32} {x3 : Int32}  {S' : St} (h : fX29_append S x1 x2 x3 = some (S')) : Met l yX7_append (wm yX7_append cX7_append 4 none) (rmx 0 0) (pcm LX G S [.ref (ad G 29), .int x1, .int x2, .int x3]) (qcV LX G S') 0 0 G.2.2.2 :=
  x_enter (own := RX7) rfl rfl (Nat.le_of_ble_eq_true rfl) (fun p e s m below meth c ls hC hr hk hW hl => wX29_append hC (Nat.le_refl _) (Nat.le_refl _)  h (fun H locs ls pc hd hW => x_retv hC hr hk hW hd) _ _ _ hW hl)
def fX0_sum (S : St) (x1 : Int32) (x2 : Int32) (x3 : Int32) : Option (Int32 × St) :=
  Option.bind (fXs_isCellBits S x1) fun t1 =>
  if t1 = 0 then
    some ((-1), S)
  else
    Option.bind (fXs_isCellBits S x2) fun t4 =>
    if t4 = 0 then
      some ((-1), S)
    else
      if (x1 ||| x2) = 0 then
        some ((-1), S)
      else
        if (x1 &&& x2) = 0 then
          Option.bind (fXs_isTotal S x3) fun t9 =>
          if t9 = 0 then
            some ((-1), S)
          else
            Option.bind (fX29_howMany S) fun t12 =>
            if t12 < 8 then
              Option.bind (fX29_append S x1 x2 x3) fun t15 =>
              Option.bind (fX29_howMany t15) fun t17 =>
              some (t17, t15)
            else
              some ((-2), S)
        else
          some ((-1), S)
set_option maxHeartbeats 4000000 in
set_option maxRecDepth 100000 in
theorem wX0_sum {S : St} {x1 : Int32} {x2 : Int32} {x3 : Int32} (hC : CallFix p m c cX9_sum 4 s args lw_g RX9) (hF : 1 ≤ R.frames) (hL : 23 ≤ R.locals)  {v : Int32} {S' : St} (h : fX0_sum S x1 x2 x3 = some (v, S')) (kr : ∀ (H : Heap) (locs : List Loc) (ls : Array Slot) (pc : Nat), decode cX9_sum pc = .ok (.ireturn, 1) → wg LX G (S') s H locs → W p l e R s m args below meth c H locs 0 0 Q (F0 m pc ls [.int v])) : ∀ (H : Heap) (locs : List Loc) (ls : Array Slot), wg LX G S s H locs → lv_has ls 4 [(0, .ref (ad G 0)), (1, .int x1), (2, .int x2), (3, .int x3)] → W p l e R s m args below meth c H locs 0 0 Q (F0 m 0 ls []) := by
  have hx := hC.1
  have hb := hC.2.1
  intro H locs ls hW hl
  unfold fX0_sum at h
  refine lv_iload_n hx hb dX9_sum_0 rfl (lv_at hl 1 rfl) ?_
  obtain ⟨t1, e2, h⟩ := bd h
  refine x_goi (x_rs (rest := []) hC hW (ctXs_isCellBits e2) (cwS_g hC.2.2.2.2 ml_X9_169 ms_X9_isCellBits md_X9_isCellBits ⟨(Nat.le_trans (Nat.le_of_ble_eq_true rfl) hF), (Nat.le_trans (Nat.le_of_ble_eq_true rfl) hL)⟩) rfl hl.1 rfl (Nat.le_of_ble_eq_true rfl) dX9_sum_1) hW (fun H locs hW => ?_)
  refine lv_if_eq (tgt := 26) hx hb dX9_sum_4 (by decide) (fun q3 => ?_) (fun q3 => ?_)
  · have h := it_p q3 h
    refine lv_iconst (v := (-1)) hx hb dX9_sum_26 (by decide) ?_
    cases h
    exact kr _ _ _ _ dX9_sum_27 hW
  · have h := it_n q3 h
    refine lv_iload_n hx hb dX9_sum_7 rfl (lv_at hl 2 rfl) ?_
    obtain ⟨t4, e5, h⟩ := bd h
    refine x_goi (x_rs (rest := []) hC hW (ctXs_isCellBits e5) (cwS_g hC.2.2.2.2 ml_X9_169 ms_X9_isCellBits md_X9_isCellBits ⟨(Nat.le_trans (Nat.le_of_ble_eq_true rfl) hF), (Nat.le_trans (Nat.le_of_ble_eq_true rfl) hL)⟩) rfl hl.1 rfl (Nat.le_of_ble_eq_true rfl) dX9_sum_8) hW (fun H locs hW => ?_)
    refine lv_if_eq (tgt := 26) hx hb dX9_sum_11 (by decide) (fun q6 => ?_) (fun q6 => ?_)
    · have h := it_p q6 h
      refine lv_iconst (v := (-1)) hx hb dX9_sum_26 (by decide) ?_
      cases h
      exact kr _ _ _ _ dX9_sum_27 hW
    · have h := it_n q6 h
      refine lv_iload_n hx hb dX9_sum_14 rfl (lv_at hl 1 rfl) ?_
      refine lv_iload_n hx hb dX9_sum_15 rfl (lv_at hl 2 rfl) ?_
      refine lv_ior hx hb dX9_sum_16 ?_
      refine lv_if_eq (tgt := 26) hx hb dX9_sum_17 (by decide) (fun q7 => ?_) (fun q7 => ?_)
      · have h := it_p q7 h
        refine lv_iconst (v := (-1)) hx hb dX9_sum_26 (by decide) ?_
        cases h
        exact kr _ _ _ _ dX9_sum_27 hW
      · have h := it_n q7 h
        refine lv_iload_n hx hb dX9_sum_20 rfl (lv_at hl 1 rfl) ?_
        refine lv_iload_n hx hb dX9_sum_21 rfl (lv_at hl 2 rfl) ?_
        refine lv_iand hx hb dX9_sum_22 ?_
        refine lv_if_eq (tgt := 28) hx hb dX9_sum_23 (by decide) (fun q8 => ?_) (fun q8 => ?_)
        · have h := it_p q8 h
          refine lv_iload_n hx hb dX9_sum_28 rfl (lv_at hl 3 rfl) ?_
          obtain ⟨t9, e10, h⟩ := bd h
          refine x_goi (x_rs (rest := []) hC hW (ctXs_isTotal e10) (cwS_g hC.2.2.2.2 ml_X9_172 ms_X9_isTotal md_X9_isTotal ⟨(Nat.le_trans (Nat.le_of_ble_eq_true rfl) hF), (Nat.le_trans (Nat.le_of_ble_eq_true rfl) hL)⟩) rfl hl.1 rfl (Nat.le_of_ble_eq_true rfl) dX9_sum_29) hW (fun H locs hW => ?_)
          refine lv_if_ne (tgt := 37) hx hb dX9_sum_32 (by decide) (fun q11 => ?_) (fun q11 => ?_)
          · have h := it_n q11 h
            refine lv_aload_n hx hb dX9_sum_37 rfl (lv_at hl 0 rfl) ?_
            refine gX0_5 hC hW dX9_sum_38 ?_
            obtain ⟨t12, e13, h⟩ := bd h
            refine x_goi (x_rv (rest := []) hC hW (ctX29_howMany e13) (cwV_g hC.2.2.2.2 ml_X9_175 mi_X7_howMany md_X7_howMany ⟨(Nat.le_trans (Nat.le_of_ble_eq_true rfl) hF), (Nat.le_trans (Nat.le_of_ble_eq_true rfl) hL)⟩) (rcX29 hW) rfl hl.1 rfl (Nat.le_of_ble_eq_true rfl) dX9_sum_41) hW (fun H locs hW => ?_)
            refine lv_bipush (v := 8) hx hb dX9_sum_44 (by decide) ?_
            refine lv_icmp_lt (tgt := 52) hx hb dX9_sum_46 (by decide) (fun q14 => ?_) (fun q14 => ?_)
            · have h := it_p q14 h
              refine lv_aload_n hx hb dX9_sum_52 rfl (lv_at hl 0 rfl) ?_
              refine gX0_5 hC hW dX9_sum_53 ?_
              refine lv_iload_n hx hb dX9_sum_56 rfl (lv_at hl 1 rfl) ?_
              refine lv_iload_n hx hb dX9_sum_57 rfl (lv_at hl 2 rfl) ?_
              refine lv_iload_n hx hb dX9_sum_58 rfl (lv_at hl 3 rfl) ?_
              obtain ⟨t15, e16, h⟩ := bd h
              refine x_gov (x_rv (rest := []) hC hW (ctX29_append e16) (cwV_g hC.2.2.2.2 ml_X9_176 mi_X7_append md_X7_append ⟨(Nat.le_trans (Nat.le_of_ble_eq_true rfl) hF), (Nat.le_trans (Nat.le_of_ble_eq_true rfl) hL)⟩) (rcX29 hW) rfl hl.1 rfl (Nat.le_of_ble_eq_true rfl) dX9_sum_59) hW (fun H locs hW => ?_)
              refine lv_aload_n hx hb dX9_sum_62 rfl (lv_at hl 0 rfl) ?_
              refine gX0_5 hC hW dX9_sum_63 ?_
              obtain ⟨t17, e18, h⟩ := bd h
              refine x_goi (x_rv (rest := []) hC hW (ctX29_howMany e18) (cwV_g hC.2.2.2.2 ml_X9_175 mi_X7_howMany md_X7_howMany ⟨(Nat.le_trans (Nat.le_of_ble_eq_true rfl) hF), (Nat.le_trans (Nat.le_of_ble_eq_true rfl) hL)⟩) (rcX29 hW) rfl hl.1 rfl (Nat.le_of_ble_eq_true rfl) dX9_sum_66) hW (fun H locs hW => ?_)
              cases h
              exact kr _ _ _ _ dX9_sum_69 hW
            · have h := it_n q14 h
              refine lv_bipush (v := (-2)) hx hb dX9_sum_49 (by decide) ?_
              cases h
              exact kr _ _ _ _ dX9_sum_51 hW
          · have h := it_p q11 h
            refine lv_iconst (v := (-1)) hx hb dX9_sum_35 (by decide) ?_
            cases h
            exact kr _ _ _ _ dX9_sum_36 hW
        · have h := it_n q8 h
          refine lv_iconst (v := (-1)) hx hb dX9_sum_26 (by decide) ?_
          cases h
          exact kr _ _ _ _ dX9_sum_27 hW
theorem ctX0_sum {S : St} {x1 : Int32} {x2 : Int32} {x3 : Int32}  {v : Int32} {S' : St} (h : fX0_sum S x1 x2 x3 = some (v, S')) : Met l yX9_sum (wm yX9_sum cX9_sum 4 (some .int)) (rmx 1 23) (pcm LX G S [.ref (ad G 0), .int x1, .int x2, .int x3]) (qcI LX G S' v) 0 0 G.2.2.2 :=
  x_enter (own := RX9) rfl rfl (Nat.le_of_ble_eq_true rfl) (fun p e s m below meth c ls hC hr hk hW hl => wX0_sum hC (Nat.le_refl _) (Nat.le_refl _)  h (fun H locs ls pc hd hW => x_reti hC hr hk hW hd) _ _ _ hW hl)
def fX29_totalOf (S : St) (x1 : Int32) : Option (Int32) :=
  gd (inb x1 8) <|
  some (S.1 32 (Int32.toNatClampNeg x1))
set_option maxHeartbeats 4000000 in
set_option maxRecDepth 100000 in
theorem wX29_totalOf {S : St} {x1 : Int32} (hC : CallFix p m c cX7_totalOf 2 s args lw_g RX7) (hF : 0 ≤ R.frames) (hL : 0 ≤ R.locals)  {v : Int32} (h : fX29_totalOf S x1 = some v) (kr : ∀ (H : Heap) (locs : List Loc) (ls : Array Slot) (pc : Nat), decode cX7_totalOf pc = .ok (.ireturn, 1) → wg LX G S s H locs → W p l e R s m args below meth c H locs 0 0 Q (F0 m pc ls [.int v])) : ∀ (H : Heap) (locs : List Loc) (ls : Array Slot), wg LX G S s H locs → lv_has ls 2 [(0, .ref (ad G 29)), (1, .int x1)] → W p l e R s m args below meth c H locs 0 0 Q (F0 m 0 ls []) := by
  have hx := hC.1
  have hb := hC.2.1
  intro H locs ls hW hl
  unfold fX29_totalOf at h
  refine lv_aload_n hx hb dX7_totalOf_0 rfl (lv_at hl 0 rfl) ?_
  refine gX29_3 hC hW dX7_totalOf_1 ?_
  refine lv_iload_n hx hb dX7_totalOf_4 rfl (lv_at hl 1 rfl) ?_
  obtain ⟨g1, h⟩ := gd_some h
  refine x_iald hC hW aX32 g1 dX7_totalOf_5 ?_
  cases h
  exact kr _ _ _ _ dX7_totalOf_6 hW
theorem ctX29_totalOf {S : St} {x1 : Int32}  {v : Int32} (h : fX29_totalOf S x1 = some v) : Met l yX7_totalOf (wm yX7_totalOf cX7_totalOf 2 (some .int)) (rmx 0 0) (pcm LX G S [.ref (ad G 29), .int x1]) (qcI LX G S v) 0 0 G.2.2.2 :=
  x_enter (own := RX7) rfl rfl (Nat.le_of_ble_eq_true rfl) (fun p e s m below meth c ls hC hr hk hW hl => wX29_totalOf hC (Nat.le_refl _) (Nat.le_refl _)  h (fun H locs ls pc hd hW => x_reti hC hr hk hW hd) _ _ _ hW hl)
def fX29_setTotal (S : St) (x1 : Int32) (x2 : Int32) : Option (St) :=
  gd (inb x1 8) <|
  nx (p1 S 32 (Int32.toNatClampNeg x1) x2) fun s2 =>
  some s2
set_option maxHeartbeats 4000000 in
set_option maxRecDepth 100000 in
theorem wX29_setTotal {S : St} {x1 : Int32} {x2 : Int32} (hC : CallFix p m c cX7_setTotal 3 s args lw_g RX7) (hF : 0 ≤ R.frames) (hL : 0 ≤ R.locals)  {S' : St} (h : fX29_setTotal S x1 x2 = some (S')) (kr : ∀ (H : Heap) (locs : List Loc) (ls : Array Slot) (pc : Nat), decode cX7_setTotal pc = .ok (.return_, 1) → wg LX G (S') s H locs → W p l e R s m args below meth c H locs 0 0 Q (F0 m pc ls [])) : ∀ (H : Heap) (locs : List Loc) (ls : Array Slot), wg LX G S s H locs → lv_has ls 3 [(0, .ref (ad G 29)), (1, .int x1), (2, .int x2)] → W p l e R s m args below meth c H locs 0 0 Q (F0 m 0 ls []) := by
  have hx := hC.1
  have hb := hC.2.1
  intro H locs ls hW hl
  unfold fX29_setTotal at h
  refine lv_aload_n hx hb dX7_setTotal_0 rfl (lv_at hl 0 rfl) ?_
  refine gX29_3 hC hW dX7_setTotal_1 ?_
  refine lv_iload_n hx hb dX7_setTotal_4 rfl (lv_at hl 1 rfl) ?_
  refine lv_iload_n hx hb dX7_setTotal_5 rfl (lv_at hl 2 rfl) ?_
  obtain ⟨g1, h⟩ := gd_some h
  refine x_iast hC hW aX32 g1 dX7_setTotal_6 (fun H locs hW => ?_)
  obtain ⟨s2, e3, h⟩ := nx_some h
  rw [← e3] at hW
  cases h
  exact kr _ _ _ _ dX7_setTotal_7 hW
theorem ctX29_setTotal {S : St} {x1 : Int32} {x2 : Int32}  {S' : St} (h : fX29_setTotal S x1 x2 = some (S')) : Met l yX7_setTotal (wm yX7_setTotal cX7_setTotal 3 none) (rmx 0 0) (pcm LX G S [.ref (ad G 29), .int x1, .int x2]) (qcV LX G S') 0 0 G.2.2.2 :=
  x_enter (own := RX7) rfl rfl (Nat.le_of_ble_eq_true rfl) (fun p e s m below meth c ls hC hr hk hW hl => wX29_setTotal hC (Nat.le_refl _) (Nat.le_refl _)  h (fun H locs ls pc hd hW => x_retv hC hr hk hW hd) _ _ _ hW hl)
def fX0_total (S : St) (x1 : Int32) (x2 : Int32) : Option (Int32 × St) :=
  if x1 < 0 then
    some ((-1), S)
  else
    Option.bind (fX29_howMany S) fun t2 =>
    if t2 ≤ x1 then
      some ((-1), S)
    else
      Option.bind (fXs_isTotal S x2) fun t5 =>
      if t5 = 0 then
        some ((-1), S)
      else
        Option.bind (fX29_totalOf S x1) fun t8 =>
        Option.bind (fX29_setTotal S x1 x2) fun t10 =>
        some (t8, t10)
set_option maxHeartbeats 4000000 in
set_option maxRecDepth 100000 in
theorem wX0_total {S : St} {x1 : Int32} {x2 : Int32} (hC : CallFix p m c cX9_total 4 s args lw_g RX9) (hF : 1 ≤ R.frames) (hL : 22 ≤ R.locals)  {v : Int32} {S' : St} (h : fX0_total S x1 x2 = some (v, S')) (kr : ∀ (H : Heap) (locs : List Loc) (ls : Array Slot) (pc : Nat), decode cX9_total pc = .ok (.ireturn, 1) → wg LX G (S') s H locs → W p l e R s m args below meth c H locs 0 0 Q (F0 m pc ls [.int v])) : ∀ (H : Heap) (locs : List Loc) (ls : Array Slot), wg LX G S s H locs → lv_has ls 4 [(0, .ref (ad G 0)), (1, .int x1), (2, .int x2)] → W p l e R s m args below meth c H locs 0 0 Q (F0 m 0 ls []) := by
  have hx := hC.1
  have hb := hC.2.1
  intro H locs ls hW hl
  unfold fX0_total at h
  refine lv_iload_n hx hb dX9_total_0 rfl (lv_at hl 1 rfl) ?_
  refine lv_if_lt (tgt := 22) hx hb dX9_total_1 (by decide) (fun q1 => ?_) (fun q1 => ?_)
  · have h := it_p q1 h
    refine lv_iconst (v := (-1)) hx hb dX9_total_22 (by decide) ?_
    cases h
    exact kr _ _ _ _ dX9_total_23 hW
  · have h := it_n q1 h
    refine lv_iload_n hx hb dX9_total_4 rfl (lv_at hl 1 rfl) ?_
    refine lv_aload_n hx hb dX9_total_5 rfl (lv_at hl 0 rfl) ?_
    refine gX0_5 hC hW dX9_total_6 ?_
    obtain ⟨t2, e3, h⟩ := bd h
    refine x_goi (x_rv (rest := [.int x1]) hC hW (ctX29_howMany e3) (cwV_g hC.2.2.2.2 ml_X9_175 mi_X7_howMany md_X7_howMany ⟨(Nat.le_trans (Nat.le_of_ble_eq_true rfl) hF), (Nat.le_trans (Nat.le_of_ble_eq_true rfl) hL)⟩) (rcX29 hW) rfl hl.1 rfl (Nat.le_of_ble_eq_true rfl) dX9_total_9) hW (fun H locs hW => ?_)
    refine lv_icmp_ge (tgt := 22) hx hb dX9_total_12 (by decide) (fun q4 => ?_) (fun q4 => ?_)
    · have h := it_p q4 h
      refine lv_iconst (v := (-1)) hx hb dX9_total_22 (by decide) ?_
      cases h
      exact kr _ _ _ _ dX9_total_23 hW
    · have h := it_n q4 h
      refine lv_iload_n hx hb dX9_total_15 rfl (lv_at hl 2 rfl) ?_
      obtain ⟨t5, e6, h⟩ := bd h
      refine x_goi (x_rs (rest := []) hC hW (ctXs_isTotal e6) (cwS_g hC.2.2.2.2 ml_X9_172 ms_X9_isTotal md_X9_isTotal ⟨(Nat.le_trans (Nat.le_of_ble_eq_true rfl) hF), (Nat.le_trans (Nat.le_of_ble_eq_true rfl) hL)⟩) rfl hl.1 rfl (Nat.le_of_ble_eq_true rfl) dX9_total_16) hW (fun H locs hW => ?_)
      refine lv_if_ne (tgt := 24) hx hb dX9_total_19 (by decide) (fun q7 => ?_) (fun q7 => ?_)
      · have h := it_n q7 h
        refine lv_aload_n hx hb dX9_total_24 rfl (lv_at hl 0 rfl) ?_
        refine gX0_5 hC hW dX9_total_25 ?_
        refine lv_iload_n hx hb dX9_total_28 rfl (lv_at hl 1 rfl) ?_
        obtain ⟨t8, e9, h⟩ := bd h
        refine x_goi (x_rv (rest := []) hC hW (ctX29_totalOf e9) (cwV_g hC.2.2.2.2 ml_X9_179 mi_X7_totalOf md_X7_totalOf ⟨(Nat.le_trans (Nat.le_of_ble_eq_true rfl) hF), (Nat.le_trans (Nat.le_of_ble_eq_true rfl) hL)⟩) (rcX29 hW) rfl hl.1 rfl (Nat.le_of_ble_eq_true rfl) dX9_total_29) hW (fun H locs hW => ?_)
        refine lv_istore_n (lv' := [(3, .int t8), (0, .ref (ad G 0)), (1, .int x1), (2, .int x2)]) hx hb dX9_total_32 rfl hl (by decide) rfl (fun ls hl => ?_)
        refine lv_aload_n hx hb dX9_total_33 rfl (lv_at hl 1 rfl) ?_
        refine gX0_5 hC hW dX9_total_34 ?_
        refine lv_iload_n hx hb dX9_total_37 rfl (lv_at hl 2 rfl) ?_
        refine lv_iload_n hx hb dX9_total_38 rfl (lv_at hl 3 rfl) ?_
        obtain ⟨t10, e11, h⟩ := bd h
        refine x_gov (x_rv (rest := []) hC hW (ctX29_setTotal e11) (cwV_g hC.2.2.2.2 ml_X9_182 mi_X7_setTotal md_X7_setTotal ⟨(Nat.le_trans (Nat.le_of_ble_eq_true rfl) hF), (Nat.le_trans (Nat.le_of_ble_eq_true rfl) hL)⟩) (rcX29 hW) rfl hl.1 rfl (Nat.le_of_ble_eq_true rfl) dX9_total_39) hW (fun H locs hW => ?_)
        refine lv_iload_n hx hb dX9_total_42 rfl (lv_at hl 0 rfl) ?_
        cases h
        exact kr _ _ _ _ dX9_total_43 hW
      · have h := it_p q7 h
        refine lv_iconst (v := (-1)) hx hb dX9_total_22 (by decide) ?_
        cases h
        exact kr _ _ _ _ dX9_total_23 hW
theorem ctX0_total {S : St} {x1 : Int32} {x2 : Int32}  {v : Int32} {S' : St} (h : fX0_total S x1 x2 = some (v, S')) : Met l yX9_total (wm yX9_total cX9_total 4 (some .int)) (rmx 1 22) (pcm LX G S [.ref (ad G 0), .int x1, .int x2]) (qcI LX G S' v) 0 0 G.2.2.2 :=
  x_enter (own := RX9) rfl rfl (Nat.le_of_ble_eq_true rfl) (fun p e s m below meth c ls hC hr hk hW hl => wX0_total hC (Nat.le_refl _) (Nat.le_refl _)  h (fun H locs ls pc hd hW => x_reti hC hr hk hW hd) _ _ _ hW hl)
def fX29_removeAll (S : St)  : Option (St) :=
  nx (p1 S 29 4 0) fun s1 =>
  some s1
set_option maxHeartbeats 4000000 in
set_option maxRecDepth 100000 in
theorem wX29_removeAll {S : St}  (hC : CallFix p m c cX7_removeAll 1 s args lw_g RX7) (hF : 0 ≤ R.frames) (hL : 0 ≤ R.locals)  {S' : St} (h : fX29_removeAll S = some (S')) (kr : ∀ (H : Heap) (locs : List Loc) (ls : Array Slot) (pc : Nat), decode cX7_removeAll pc = .ok (.return_, 1) → wg LX G (S') s H locs → W p l e R s m args below meth c H locs 0 0 Q (F0 m pc ls [])) : ∀ (H : Heap) (locs : List Loc) (ls : Array Slot), wg LX G S s H locs → lv_has ls 1 [(0, .ref (ad G 29))] → W p l e R s m args below meth c H locs 0 0 Q (F0 m 0 ls []) := by
  have hx := hC.1
  have hb := hC.2.1
  intro H locs ls hW hl
  unfold fX29_removeAll at h
  refine lv_aload_n hx hb dX7_removeAll_0 rfl (lv_at hl 0 rfl) ?_
  refine lv_iconst (v := 0) hx hb dX7_removeAll_1 (by decide) ?_
  refine pX29_4 hC hW dX7_removeAll_2 (fun H locs hW => ?_)
  obtain ⟨s1, e2, h⟩ := nx_some h
  rw [← e2] at hW
  cases h
  exact kr _ _ _ _ dX7_removeAll_5 hW
theorem ctX29_removeAll {S : St}   {S' : St} (h : fX29_removeAll S = some (S')) : Met l yX7_removeAll (wm yX7_removeAll cX7_removeAll 1 none) (rmx 0 0) (pcm LX G S [.ref (ad G 29)]) (qcV LX G S') 0 0 G.2.2.2 :=
  x_enter (own := RX7) rfl rfl (Nat.le_of_ble_eq_true rfl) (fun p e s m below meth c ls hC hr hk hW hl => wX29_removeAll hC (Nat.le_refl _) (Nat.le_refl _)  h (fun H locs ls pc hd hW => x_retv hC hr hk hW hd) _ _ _ hW hl)
def fX0_clear (S : St)  : Option (Int32 × St) :=
  Option.bind (fX29_howMany S) fun t1 =>
  Option.bind (fX29_removeAll S) fun t3 =>
  some (t1, t3)
set_option maxHeartbeats 4000000 in
set_option maxRecDepth 100000 in
theorem wX0_clear {S : St}  (hC : CallFix p m c cX9_clear 2 s args lw_g RX9) (hF : 1 ≤ R.frames) (hL : 20 ≤ R.locals)  {v : Int32} {S' : St} (h : fX0_clear S = some (v, S')) (kr : ∀ (H : Heap) (locs : List Loc) (ls : Array Slot) (pc : Nat), decode cX9_clear pc = .ok (.ireturn, 1) → wg LX G (S') s H locs → W p l e R s m args below meth c H locs 0 0 Q (F0 m pc ls [.int v])) : ∀ (H : Heap) (locs : List Loc) (ls : Array Slot), wg LX G S s H locs → lv_has ls 2 [(0, .ref (ad G 0))] → W p l e R s m args below meth c H locs 0 0 Q (F0 m 0 ls []) := by
  have hx := hC.1
  have hb := hC.2.1
  intro H locs ls hW hl
  unfold fX0_clear at h
  refine lv_aload_n hx hb dX9_clear_0 rfl (lv_at hl 0 rfl) ?_
  refine gX0_5 hC hW dX9_clear_1 ?_
  obtain ⟨t1, e2, h⟩ := bd h
  refine x_goi (x_rv (rest := []) hC hW (ctX29_howMany e2) (cwV_g hC.2.2.2.2 ml_X9_175 mi_X7_howMany md_X7_howMany ⟨(Nat.le_trans (Nat.le_of_ble_eq_true rfl) hF), (Nat.le_trans (Nat.le_of_ble_eq_true rfl) hL)⟩) (rcX29 hW) rfl hl.1 rfl (Nat.le_of_ble_eq_true rfl) dX9_clear_4) hW (fun H locs hW => ?_)
  refine lv_istore_n (lv' := [(1, .int t1), (0, .ref (ad G 0))]) hx hb dX9_clear_7 rfl hl (by decide) rfl (fun ls hl => ?_)
  refine lv_aload_n hx hb dX9_clear_8 rfl (lv_at hl 1 rfl) ?_
  refine gX0_5 hC hW dX9_clear_9 ?_
  obtain ⟨t3, e4, h⟩ := bd h
  refine x_gov (x_rv (rest := []) hC hW (ctX29_removeAll e4) (cwV_g hC.2.2.2.2 ml_X9_185 mi_X7_removeAll md_X7_removeAll ⟨(Nat.le_trans (Nat.le_of_ble_eq_true rfl) hF), (Nat.le_trans (Nat.le_of_ble_eq_true rfl) hL)⟩) (rcX29 hW) rfl hl.1 rfl (Nat.le_of_ble_eq_true rfl) dX9_clear_12) hW (fun H locs hW => ?_)
  refine lv_iload_n hx hb dX9_clear_15 rfl (lv_at hl 0 rfl) ?_
  cases h
  exact kr _ _ _ _ dX9_clear_16 hW
theorem ctX0_clear {S : St}   {v : Int32} {S' : St} (h : fX0_clear S = some (v, S')) : Met l yX9_clear (wm yX9_clear cX9_clear 2 (some .int)) (rmx 1 20) (pcm LX G S [.ref (ad G 0)]) (qcI LX G S' v) 0 0 G.2.2.2 :=
  x_enter (own := RX9) rfl rfl (Nat.le_of_ble_eq_true rfl) (fun p e s m below meth c ls hC hr hk hW hl => wX0_clear hC (Nat.le_refl _) (Nat.le_refl _)  h (fun H locs ls pc hd hW => x_reti hC hr hk hW hd) _ _ _ hW hl)
def fX1_allWithin_L3 (N : Nat) (S : St) (x1 : Int32) (x2 : Int32) (x3 : Int32) : Nat → Int32 → Option ((Int32) ⊕ (Unit))
  | 0, _ => none
  | n + 1, x4 =>
    gd (inb x1 6) <|
    if (S.1 9 (Int32.toNatClampNeg x1)) ≤ x4 then
      some (.inr ())
    else
      gd (inb x1 6) <|
      gd (inb x4 40) <|
      if (S.1 (3 + Int32.toNatClampNeg x1) (Int32.toNatClampNeg x4)) < x2 then
        some (.inl 0)
      else
        gd (inb x1 6) <|
        gd (inb x4 40) <|
        if (S.1 (3 + Int32.toNatClampNeg x1) (Int32.toNatClampNeg x4)) ≤ x3 then
          fX1_allWithin_L3 N S x1 x2 x3 n (x4 + 1)
        else
          some (.inl 0)
set_option maxHeartbeats 4000000 in
set_option maxRecDepth 100000 in
theorem wX1_allWithin_L3 {N : Nat} {S : St} {x1 : Int32} {x2 : Int32} {x3 : Int32} (hC : CallFix p m c cX6_allWithin 5 s args lw_g RX6) (hF : 0 ≤ R.frames) (hL : 0 ≤ R.locals)  {t : (Int32) ⊕ (Unit)} (kr : ∀ r, t = .inl r → ∀ (H : Heap) (locs : List Loc) (ls : Array Slot) (pc : Nat), isb r = true → decode cX6_allWithin pc = .ok (.ireturn, 1) → wg LX G S s H locs → W p l e R s m args below meth c H locs 0 0 Q (F0 m pc ls [.int r])) (kx : ∀ u, t = .inr u → ∀ (H : Heap) (locs : List Loc) (ls : Array Slot), wg LX G S s H locs → lv_has ls 5 [] → W p l e R s m args below meth c H locs 0 0 Q (F0 m 48 ls [])) : ∀ (n : Nat) (x4 : Int32), fX1_allWithin_L3 N S x1 x2 x3 n x4 = some t → ∀ (H : Heap) (locs : List Loc) (ls : Array Slot), wg LX G S s H locs → lv_has ls 5 [(0, .ref (ad G 1)), (1, .int x1), (2, .int x2), (3, .int x3), (4, .int x4)] → W p l e R s m args below meth c H locs 0 0 Q (F0 m 3 ls []) := by
  have hx := hC.1
  have hb := hC.2.1
  intro n
  induction n with
  | zero =>
    intro _ h
    cases h
  | succ n ih =>
    intro x4 h H locs ls hW hl
    rw [fX1_allWithin_L3] at h
    refine lv_iload hx hb dX6_allWithin_3 (lv_at hl 4 rfl) ?_
    refine lv_aload_n hx hb dX6_allWithin_5 rfl (lv_at hl 0 rfl) ?_
    refine gX1_1 hC hW dX6_allWithin_6 ?_
    refine lv_iload_n hx hb dX6_allWithin_9 rfl (lv_at hl 1 rfl) ?_
    obtain ⟨g1, h⟩ := gd_some h
    refine x_iald hC hW aX9 g1 dX6_allWithin_10 ?_
    refine lv_icmp_ge (tgt := 48) hx hb dX6_allWithin_11 (by decide) (fun q2 => ?_) (fun q2 => ?_)
    · have h := it_p q2 h
      cases h
      exact kx _ rfl _ _ _ hW (lv_sub hl [] rfl)
    · have h := it_n q2 h
      refine lv_aload_n hx hb dX6_allWithin_14 rfl (lv_at hl 0 rfl) ?_
      refine gX1_0 hC hW dX6_allWithin_15 ?_
      refine lv_iload_n hx hb dX6_allWithin_18 rfl (lv_at hl 1 rfl) ?_
      obtain ⟨g3, h⟩ := gd_some h
      refine x_aald hC hW oX2 g3 dX6_allWithin_19 ?_
      refine lv_iload hx hb dX6_allWithin_20 (lv_at hl 4 rfl) ?_
      obtain ⟨g4, h⟩ := gd_some h
      refine x_iald hC hW (aX_r (inb_lt g3)) g4 dX6_allWithin_22 ?_
      refine lv_iload_n hx hb dX6_allWithin_23 rfl (lv_at hl 2 rfl) ?_
      refine lv_icmp_lt (tgt := 40) hx hb dX6_allWithin_24 (by decide) (fun q5 => ?_) (fun q5 => ?_)
      · have h := it_p q5 h
        refine lv_iconst (v := 0) hx hb dX6_allWithin_40 (by decide) ?_
        cases h
        exact kr _ rfl _ _ _ _ rfl dX6_allWithin_41 hW
      · have h := it_n q5 h
        refine lv_aload_n hx hb dX6_allWithin_27 rfl (lv_at hl 0 rfl) ?_
        refine gX1_0 hC hW dX6_allWithin_28 ?_
        refine lv_iload_n hx hb dX6_allWithin_31 rfl (lv_at hl 1 rfl) ?_
        obtain ⟨g6, h⟩ := gd_some h
        refine x_aald hC hW oX2 g6 dX6_allWithin_32 ?_
        refine lv_iload hx hb dX6_allWithin_33 (lv_at hl 4 rfl) ?_
        obtain ⟨g7, h⟩ := gd_some h
        refine x_iald hC hW (aX_r (inb_lt g6)) g7 dX6_allWithin_35 ?_
        refine lv_iload_n hx hb dX6_allWithin_36 rfl (lv_at hl 3 rfl) ?_
        refine lv_icmp_le (tgt := 42) hx hb dX6_allWithin_37 (by decide) (fun q8 => ?_) (fun q8 => ?_)
        · have h := it_p q8 h
          refine lv_iinc (v := x4 + 1) (lv' := [(4, .int (x4 + 1)), (0, .ref (ad G 1)), (1, .int x1), (2, .int x2), (3, .int x3)]) (k := 4) hx hb dX6_allWithin_42 hl rfl rfl (by decide) rfl (fun ls hl => ?_)
          refine lv_goto (tgt := 3) hx hb dX6_allWithin_45 (by decide) ?_
          exact ih _ h _ _ _ hW (lv_sub hl [1, 2, 3, 4, 0] rfl)
        · have h := it_n q8 h
          refine lv_iconst (v := 0) hx hb dX6_allWithin_40 (by decide) ?_
          cases h
          exact kr _ rfl _ _ _ _ rfl dX6_allWithin_41 hW
def fX1_allWithin (N : Nat) (S : St) (x1 : Int32) (x2 : Int32) (x3 : Int32) : Option (Int32) :=
  Option.bind (fX1_allWithin_L3 N S x1 x2 x3 N 0) fun t9 => sm t9 fun u11 =>
  some 1
set_option maxHeartbeats 4000000 in
set_option maxRecDepth 100000 in
theorem wX1_allWithin {N : Nat} {S : St} {x1 : Int32} {x2 : Int32} {x3 : Int32} (hC : CallFix p m c cX6_allWithin 5 s args lw_g RX6) (hF : 0 ≤ R.frames) (hL : 0 ≤ R.locals)  {v : Int32} (h : fX1_allWithin N S x1 x2 x3 = some v) (kr : ∀ (H : Heap) (locs : List Loc) (ls : Array Slot) (pc : Nat), isb v = true → decode cX6_allWithin pc = .ok (.ireturn, 1) → wg LX G S s H locs → W p l e R s m args below meth c H locs 0 0 Q (F0 m pc ls [.int v])) : ∀ (H : Heap) (locs : List Loc) (ls : Array Slot), wg LX G S s H locs → lv_has ls 5 [(0, .ref (ad G 1)), (1, .int x1), (2, .int x2), (3, .int x3)] → W p l e R s m args below meth c H locs 0 0 Q (F0 m 0 ls []) := by
  have hx := hC.1
  have hb := hC.2.1
  intro H locs ls hW hl
  unfold fX1_allWithin at h
  refine lv_iconst (v := 0) hx hb dX6_allWithin_0 (by decide) ?_
  refine lv_istore (lv' := [(4, .int 0), (0, .ref (ad G 1)), (1, .int x1), (2, .int x2), (3, .int x3)]) hx hb dX6_allWithin_1 hl (by decide) rfl (fun ls hl => ?_)
  obtain ⟨t9, e10, h⟩ := bd h
  refine wX1_allWithin_L3 hC hF hL  (fun r er H locs ls pc hz hd hW => ?_) (fun u11 eu H locs ls hW hl => ?_) _ _ e10 _ _ _ hW (lv_sub hl [1, 2, 3, 4, 0] rfl)
  · rw [er] at h
    have h := sm_l h
    cases h
    exact kr _ _ _ _ hz hd hW
  · rw [eu] at h
    have h := sm_r h
    refine lv_iconst (v := 1) hx hb dX6_allWithin_48 (by decide) ?_
    cases h
    exact kr _ _ _ _ rfl dX6_allWithin_49 hW
theorem ctX1_allWithin {N : Nat} {S : St} {x1 : Int32} {x2 : Int32} {x3 : Int32}  {v : Int32} (h : fX1_allWithin N S x1 x2 x3 = some v) : Met l yX6_allWithin (wm yX6_allWithin cX6_allWithin 5 (some .boolean)) (rmx 0 0) (pcm LX G S [.ref (ad G 1), .int x1, .int x2, .int x3]) (qcI LX G S v) 0 0 G.2.2.2 :=
  x_enter (own := RX6) rfl rfl (Nat.le_of_ble_eq_true rfl) (fun p e s m below meth c ls hC hr hk hW hl => wX1_allWithin hC (Nat.le_refl _) (Nat.le_refl _)  h (fun H locs ls pc hz hd hW => x_retz hC hr hk hW hz hd) _ _ _ hW hl)
def fX22_take_L2 (N : Nat) (x2 : Int32) : Nat → St → Int32 → Option (St)
  | 0, _, _ => none
  | n + 1, S, x3 =>
    if 100 ≤ x3 then
      some S
    else
      gd (inb x3 100) <|
      nx (p1 S 24 (Int32.toNatClampNeg x3) 0) fun s3 =>
      fX22_take_L2 N x2 n s3 (x3 + 1)
set_option maxHeartbeats 4000000 in
set_option maxRecDepth 100000 in
theorem wX22_take_L2 {N : Nat} {x2 : Int32} (hC : CallFix p m c cX1_take 4 s args lw_g RX1) (hF : 1 ≤ R.frames) (hL : 22 ≤ R.locals)  {t : St} (kx : ∀ (H : Heap) (locs : List Loc) (ls : Array Slot), wg LX G t s H locs → lv_has ls 4 [(0, .ref (ad G 22)), (1, .ref (ad G 1)), (2, .int x2)] → W p l e R s m args below meth c H locs 0 0 Q (F0 m 21 ls [])) : ∀ (n : Nat) (S : St) (x3 : Int32), fX22_take_L2 N x2 n S x3 = some t → ∀ (H : Heap) (locs : List Loc) (ls : Array Slot), wg LX G S s H locs → lv_has ls 4 [(0, .ref (ad G 22)), (1, .ref (ad G 1)), (2, .int x2), (3, .int x3)] → W p l e R s m args below meth c H locs 0 0 Q (F0 m 2 ls []) := by
  have hx := hC.1
  have hb := hC.2.1
  intro n
  induction n with
  | zero =>
    intro _ _ h
    cases h
  | succ n ih =>
    intro S x3 h H locs ls hW hl
    rw [fX22_take_L2] at h
    refine lv_iload_n hx hb dX1_take_2 rfl (lv_at hl 3 rfl) ?_
    refine lv_bipush (v := 100) hx hb dX1_take_3 (by decide) ?_
    refine lv_icmp_ge (tgt := 21) hx hb dX1_take_5 (by decide) (fun q1 => ?_) (fun q1 => ?_)
    · have h := it_p q1 h
      cases h
      exact kx _ _ _ hW (lv_sub hl [0, 1, 2] rfl)
    · have h := it_n q1 h
      refine lv_aload_n hx hb dX1_take_8 rfl (lv_at hl 0 rfl) ?_
      refine gX22_1 hC hW dX1_take_9 ?_
      refine lv_iload_n hx hb dX1_take_12 rfl (lv_at hl 3 rfl) ?_
      refine lv_iconst (v := 0) hx hb dX1_take_13 (by decide) ?_
      obtain ⟨g2, h⟩ := gd_some h
      refine x_iast hC hW aX24 g2 dX1_take_14 (fun H locs hW => ?_)
      obtain ⟨s3, e4, h⟩ := nx_some h
      rw [← e4] at hW
      refine lv_iinc (v := x3 + 1) (lv' := [(3, .int (x3 + 1)), (0, .ref (ad G 22)), (1, .ref (ad G 1)), (2, .int x2)]) (k := 3) hx hb dX1_take_15 hl rfl rfl (by decide) rfl (fun ls hl => ?_)
      refine lv_goto (tgt := 2) hx hb dX1_take_18 (by decide) ?_
      exact ih _ _ h _ _ _ hW (lv_sub hl [1, 2, 3, 0] rfl)
def fX22_take_L37 (N : Nat) (x2 : Int32) : Nat → St → Int32 → Option (St)
  | 0, _, _ => none
  | n + 1, S, x3 =>
    if (S.1 22 2) ≤ x3 then
      some S
    else
      Option.bind (fX1_get S x2 x3) fun t14 =>
      gd (inb x3 12) <|
      nx (p1 S 23 (Int32.toNatClampNeg x3) t14) fun s17 =>
      gd (inb x3 12) <|
      gd (inb (s17.1 23 (Int32.toNatClampNeg x3)) 100) <|
      gd (inb (s17.1 23 (Int32.toNatClampNeg x3)) 100) <|
      nx (p1 s17 24 (Int32.toNatClampNeg (s17.1 23 (Int32.toNatClampNeg x3))) ((s17.1 24 (Int32.toNatClampNeg (s17.1 23 (Int32.toNatClampNeg x3)))) + 1)) fun s22 =>
      fX22_take_L37 N x2 n s22 (x3 + 1)
set_option maxHeartbeats 4000000 in
set_option maxRecDepth 100000 in
theorem wX22_take_L37 {N : Nat} {x2 : Int32} (hC : CallFix p m c cX1_take 4 s args lw_g RX1) (hF : 1 ≤ R.frames) (hL : 22 ≤ R.locals)  {t : St} (kx : ∀ (H : Heap) (locs : List Loc) (ls : Array Slot), wg LX G t s H locs → lv_has ls 4 [] → W p l e R s m args below meth c H locs 0 0 Q (F0 m 78 ls [])) : ∀ (n : Nat) (S : St) (x3 : Int32), fX22_take_L37 N x2 n S x3 = some t → ∀ (H : Heap) (locs : List Loc) (ls : Array Slot), wg LX G S s H locs → lv_has ls 4 [(0, .ref (ad G 22)), (1, .ref (ad G 1)), (2, .int x2), (3, .int x3)] → W p l e R s m args below meth c H locs 0 0 Q (F0 m 37 ls []) := by
  have hx := hC.1
  have hb := hC.2.1
  intro n
  induction n with
  | zero =>
    intro _ _ h
    cases h
  | succ n ih =>
    intro S x3 h H locs ls hW hl
    rw [fX22_take_L37] at h
    refine lv_iload_n hx hb dX1_take_37 rfl (lv_at hl 3 rfl) ?_
    refine lv_aload_n hx hb dX1_take_38 rfl (lv_at hl 0 rfl) ?_
    refine gX22_2 hC hW dX1_take_39 ?_
    refine lv_icmp_ge (tgt := 78) hx hb dX1_take_42 (by decide) (fun q13 => ?_) (fun q13 => ?_)
    · have h := it_p q13 h
      cases h
      exact kx _ _ _ hW (lv_sub hl [] rfl)
    · have h := it_n q13 h
      refine lv_aload_n hx hb dX1_take_45 rfl (lv_at hl 0 rfl) ?_
      refine gX22_0 hC hW dX1_take_46 ?_
      refine lv_iload_n hx hb dX1_take_49 rfl (lv_at hl 3 rfl) ?_
      refine lv_aload_n hx hb dX1_take_50 rfl (lv_at hl 1 rfl) ?_
      refine lv_iload_n hx hb dX1_take_51 rfl (lv_at hl 2 rfl) ?_
      refine lv_iload_n hx hb dX1_take_52 rfl (lv_at hl 3 rfl) ?_
      obtain ⟨t14, e15, h⟩ := bd h
      refine x_goi (x_rv (rest := [.int x3, .ref (ad G 23)]) hC hW (ctX1_get e15) (cwV_g hC.2.2.2.2 ml_X1_34 mi_X6_get md_X6_get ⟨(Nat.le_trans (Nat.le_of_ble_eq_true rfl) hF), (Nat.le_trans (Nat.le_of_ble_eq_true rfl) hL)⟩) (rcX1 hW) rfl hl.1 rfl (Nat.le_of_ble_eq_true rfl) dX1_take_53) hW (fun H locs hW => ?_)
      obtain ⟨g16, h⟩ := gd_some h
      refine x_iast hC hW aX23 g16 dX1_take_56 (fun H locs hW => ?_)
      obtain ⟨s17, e18, h⟩ := nx_some h
      rw [← e18] at hW
      refine lv_aload_n hx hb dX1_take_57 rfl (lv_at hl 0 rfl) ?_
      refine gX22_1 hC hW dX1_take_58 ?_
      refine lv_aload_n hx hb dX1_take_61 rfl (lv_at hl 0 rfl) ?_
      refine gX22_0 hC hW dX1_take_62 ?_
      refine lv_iload_n hx hb dX1_take_65 rfl (lv_at hl 3 rfl) ?_
      obtain ⟨g19, h⟩ := gd_some h
      refine x_iald hC hW aX23 g19 dX1_take_66 ?_
      refine lv_dup2_11 hx hb dX1_take_67 rfl rfl ?_
      obtain ⟨g20, h⟩ := gd_some h
      refine x_iald hC hW aX24 g20 dX1_take_68 ?_
      refine lv_iconst (v := 1) hx hb dX1_take_69 (by decide) ?_
      refine lv_iadd hx hb dX1_take_70 ?_
      obtain ⟨g21, h⟩ := gd_some h
      refine x_iast hC hW aX24 g21 dX1_take_71 (fun H locs hW => ?_)
      obtain ⟨s22, e23, h⟩ := nx_some h
      rw [← e23] at hW
      refine lv_iinc (v := x3 + 1) (lv' := [(3, .int (x3 + 1)), (0, .ref (ad G 22)), (1, .ref (ad G 1)), (2, .int x2)]) (k := 3) hx hb dX1_take_72 hl rfl rfl (by decide) rfl (fun ls hl => ?_)
      refine lv_goto (tgt := 37) hx hb dX1_take_75 (by decide) ?_
      exact ih _ _ h _ _ _ hW (lv_sub hl [1, 2, 3, 0] rfl)
def fX22_take (N : Nat) (S : St) (x2 : Int32) : Option (St) :=
  Option.bind (fX22_take_L2 N x2 N S 0) fun t5 =>
  Option.bind (fX1_sizeOf t5 x2) fun t7 =>
  nx ((if 12 < t7 then 12 else t7)) fun y9 =>
  nx (p1 t5 22 2 y9) fun s11 =>
  Option.bind (fX22_take_L37 N x2 N s11 0) fun t24 =>
  some t24
set_option maxHeartbeats 4000000 in
set_option maxRecDepth 100000 in
theorem wX22_take {N : Nat} {S : St} {x2 : Int32} (hC : CallFix p m c cX1_take 4 s args lw_g RX1) (hF : 1 ≤ R.frames) (hL : 22 ≤ R.locals)  {S' : St} (h : fX22_take N S x2 = some (S')) (kr : ∀ (H : Heap) (locs : List Loc) (ls : Array Slot) (pc : Nat), decode cX1_take pc = .ok (.return_, 1) → wg LX G (S') s H locs → W p l e R s m args below meth c H locs 0 0 Q (F0 m pc ls [])) : ∀ (H : Heap) (locs : List Loc) (ls : Array Slot), wg LX G S s H locs → lv_has ls 4 [(0, .ref (ad G 22)), (1, .ref (ad G 1)), (2, .int x2)] → W p l e R s m args below meth c H locs 0 0 Q (F0 m 0 ls []) := by
  have hx := hC.1
  have hb := hC.2.1
  intro H locs ls hW hl
  unfold fX22_take at h
  refine lv_iconst (v := 0) hx hb dX1_take_0 (by decide) ?_
  refine lv_istore_n (lv' := [(3, .int 0), (0, .ref (ad G 22)), (1, .ref (ad G 1)), (2, .int x2)]) hx hb dX1_take_1 rfl hl (by decide) rfl (fun ls hl => ?_)
  obtain ⟨t5, e6, h⟩ := bd h
  refine wX22_take_L2 hC hF hL  (fun H locs ls hW hl => ?_) _ _ _ e6 _ _ _ hW (lv_sub hl [1, 2, 3, 0] rfl)
  refine lv_aload_n hx hb dX1_take_21 rfl (lv_at hl 0 rfl) ?_
  refine lv_aload_n hx hb dX1_take_22 rfl (lv_at hl 1 rfl) ?_
  refine lv_iload_n hx hb dX1_take_23 rfl (lv_at hl 2 rfl) ?_
  obtain ⟨t7, e8, h⟩ := bd h
  refine x_goi (x_rv (rest := [.ref (ad G 22)]) hC hW (ctX1_sizeOf e8) (cwV_g hC.2.2.2.2 ml_X1_22 mi_X6_sizeOf md_X6_sizeOf ⟨(Nat.le_trans (Nat.le_of_ble_eq_true rfl) hF), (Nat.le_trans (Nat.le_of_ble_eq_true rfl) hL)⟩) (rcX1 hW) rfl hl.1 rfl (Nat.le_of_ble_eq_true rfl) dX1_take_24) hW (fun H locs hW => ?_)
  refine lv_bipush (v := 12) hx hb dX1_take_27 (by decide) ?_
  refine va_mmin hx hb (hC.2.2.1.trans hl.1.symm) hC.2.2.2.1 (hC.2.2.2.2 _ ml_X1_28) (hC.2.2.2.2 _ mw_min.1) (hC.2.2.2.2 _ mw_min.2.1) (hC.2.2.2.2 _ mw_min.2.2) (Nat.le_trans (Nat.le_of_ble_eq_true rfl) hF) (Nat.le_trans (Nat.le_of_ble_eq_true rfl) hL) (Nat.zero_le _) (Nat.zero_le _) dX1_take_29 ?_
  obtain ⟨y9, e10, h⟩ := nx_some h
  refine x_topi e10 ?_
  refine pX22_2 hC hW dX1_take_32 (fun H locs hW => ?_)
  obtain ⟨s11, e12, h⟩ := nx_some h
  rw [← e12] at hW
  refine lv_iconst (v := 0) hx hb dX1_take_35 (by decide) ?_
  refine lv_istore_n (lv' := [(3, .int 0), (0, .ref (ad G 22)), (1, .ref (ad G 1)), (2, .int x2)]) hx hb dX1_take_36 rfl hl (by decide) rfl (fun ls hl => ?_)
  obtain ⟨t24, e25, h⟩ := bd h
  refine wX22_take_L37 hC hF hL  (fun H locs ls hW hl => ?_) _ _ _ e25 _ _ _ hW (lv_sub hl [1, 2, 3, 0] rfl)
  cases h
  exact kr _ _ _ _ dX1_take_78 hW
theorem ctX22_take {N : Nat} {S : St} {x2 : Int32}  {S' : St} (h : fX22_take N S x2 = some (S')) : Met l yX1_take (wm yX1_take cX1_take 4 none) (rmx 1 22) (pcm LX G S [.ref (ad G 22), .ref (ad G 1), .int x2]) (qcV LX G S') 0 0 G.2.2.2 :=
  x_enter (own := RX1) rfl rfl (Nat.le_of_ble_eq_true rfl) (fun p e s m below meth c ls hC hr hk hW hl => wX22_take hC (Nat.le_refl _) (Nat.le_refl _)  h (fun H locs ls pc hd hW => x_retv hC hr hk hW hd) _ _ _ hW hl)
def fX22_howMany (S : St)  : Option (Int32) :=
  some (S.1 22 2)
set_option maxHeartbeats 4000000 in
set_option maxRecDepth 100000 in
theorem wX22_howMany {S : St}  (hC : CallFix p m c cX1_howMany 1 s args lw_g RX1) (hF : 0 ≤ R.frames) (hL : 0 ≤ R.locals)  {v : Int32} (h : fX22_howMany S = some v) (kr : ∀ (H : Heap) (locs : List Loc) (ls : Array Slot) (pc : Nat), decode cX1_howMany pc = .ok (.ireturn, 1) → wg LX G S s H locs → W p l e R s m args below meth c H locs 0 0 Q (F0 m pc ls [.int v])) : ∀ (H : Heap) (locs : List Loc) (ls : Array Slot), wg LX G S s H locs → lv_has ls 1 [(0, .ref (ad G 22))] → W p l e R s m args below meth c H locs 0 0 Q (F0 m 0 ls []) := by
  have hx := hC.1
  have hb := hC.2.1
  intro H locs ls hW hl
  unfold fX22_howMany at h
  refine lv_aload_n hx hb dX1_howMany_0 rfl (lv_at hl 0 rfl) ?_
  refine gX22_2 hC hW dX1_howMany_1 ?_
  cases h
  exact kr _ _ _ _ dX1_howMany_4 hW
theorem ctX22_howMany {S : St}   {v : Int32} (h : fX22_howMany S = some v) : Met l yX1_howMany (wm yX1_howMany cX1_howMany 1 (some .int)) (rmx 0 0) (pcm LX G S [.ref (ad G 22)]) (qcI LX G S v) 0 0 G.2.2.2 :=
  x_enter (own := RX1) rfl rfl (Nat.le_of_ble_eq_true rfl) (fun p e s m below meth c ls hC hr hk hW hl => wX22_howMany hC (Nat.le_refl _) (Nat.le_refl _)  h (fun H locs ls pc hd hW => x_reti hC hr hk hW hd) _ _ _ hW hl)
def fX0_heap (N : Nat) (S : St) (x1 : Int32) : Option (Int32 × St) :=
  Option.bind (fX0_refuseRow S x1) fun t1 =>
  if t1.1 = 0 then
    Option.bind (fX1_sizeOf t1.2 x1) fun t4 =>
    if t4 ≤ 12 then
      Option.bind (fX1_allWithin N t1.2 x1 0 99) fun t7 =>
      if t7 = 0 then
        Option.bind (fX0_found t1.2 3) fun t14 =>
        some (t14.1, t14.2)
      else
        Option.bind (fX22_take N t1.2 x1) fun t10 =>
        Option.bind (fX22_howMany t10) fun t12 =>
        some (t12, t10)
    else
      Option.bind (fX0_found t1.2 5) fun t16 =>
      some (t16.1, t16.2)
  else
    some (t1.1, t1.2)
set_option maxHeartbeats 4000000 in
set_option maxRecDepth 100000 in
theorem wX0_heap {N : Nat} {S : St} {x1 : Int32} (hC : CallFix p m c cX9_heap 3 s args lw_g RX9) (hF : 2 ≤ R.frames) (hL : 45 ≤ R.locals)  {v : Int32} {S' : St} (h : fX0_heap N S x1 = some (v, S')) (kr : ∀ (H : Heap) (locs : List Loc) (ls : Array Slot) (pc : Nat), decode cX9_heap pc = .ok (.ireturn, 1) → wg LX G (S') s H locs → W p l e R s m args below meth c H locs 0 0 Q (F0 m pc ls [.int v])) : ∀ (H : Heap) (locs : List Loc) (ls : Array Slot), wg LX G S s H locs → lv_has ls 3 [(0, .ref (ad G 0)), (1, .int x1)] → W p l e R s m args below meth c H locs 0 0 Q (F0 m 0 ls []) := by
  have hx := hC.1
  have hb := hC.2.1
  intro H locs ls hW hl
  unfold fX0_heap at h
  refine lv_aload_n hx hb dX9_heap_0 rfl (lv_at hl 0 rfl) ?_
  refine lv_iload_n hx hb dX9_heap_1 rfl (lv_at hl 1 rfl) ?_
  obtain ⟨t1, e2, h⟩ := bd h
  refine x_goi (x_rv (rest := []) hC hW (ctX0_refuseRow e2) (cwV_g hC.2.2.2.2 ml_X9_127 mi_X9_refuseRow md_X9_refuseRow ⟨(Nat.le_trans (Nat.le_of_ble_eq_true rfl) hF), (Nat.le_trans (Nat.le_of_ble_eq_true rfl) hL)⟩) (rcX0 hW) rfl hl.1 rfl (Nat.le_of_ble_eq_true rfl) dX9_heap_2) hW (fun H locs hW => ?_)
  refine lv_istore_n (lv' := [(2, .int t1.1), (0, .ref (ad G 0)), (1, .int x1)]) hx hb dX9_heap_5 rfl hl (by decide) rfl (fun ls hl => ?_)
  refine lv_iload_n hx hb dX9_heap_6 rfl (lv_at hl 0 rfl) ?_
  refine lv_if_eq (tgt := 12) hx hb dX9_heap_7 (by decide) (fun q3 => ?_) (fun q3 => ?_)
  · have h := it_p q3 h
    refine lv_aload_n hx hb dX9_heap_12 rfl (lv_at hl 1 rfl) ?_
    refine gX0_0 hC hW dX9_heap_13 ?_
    refine lv_iload_n hx hb dX9_heap_16 rfl (lv_at hl 2 rfl) ?_
    obtain ⟨t4, e5, h⟩ := bd h
    refine x_goi (x_rv (rest := []) hC hW (ctX1_sizeOf e5) (cwV_g hC.2.2.2.2 ml_X9_145 mi_X6_sizeOf md_X6_sizeOf ⟨(Nat.le_trans (Nat.le_of_ble_eq_true rfl) hF), (Nat.le_trans (Nat.le_of_ble_eq_true rfl) hL)⟩) (rcX1 hW) rfl hl.1 rfl (Nat.le_of_ble_eq_true rfl) dX9_heap_17) hW (fun H locs hW => ?_)
    refine lv_bipush (v := 12) hx hb dX9_heap_20 (by decide) ?_
    refine lv_icmp_le (tgt := 31) hx hb dX9_heap_22 (by decide) (fun q6 => ?_) (fun q6 => ?_)
    · have h := it_p q6 h
      refine lv_aload_n hx hb dX9_heap_31 rfl (lv_at hl 1 rfl) ?_
      refine gX0_0 hC hW dX9_heap_32 ?_
      refine lv_iload_n hx hb dX9_heap_35 rfl (lv_at hl 2 rfl) ?_
      refine lv_iconst (v := 0) hx hb dX9_heap_36 (by decide) ?_
      refine lv_bipush (v := 99) hx hb dX9_heap_37 (by decide) ?_
      obtain ⟨t7, e8, h⟩ := bd h
      refine x_goi (x_rv (rest := []) hC hW (ctX1_allWithin e8) (cwV_g hC.2.2.2.2 ml_X9_188 mi_X6_allWithin md_X6_allWithin ⟨(Nat.le_trans (Nat.le_of_ble_eq_true rfl) hF), (Nat.le_trans (Nat.le_of_ble_eq_true rfl) hL)⟩) (rcX1 hW) rfl hl.1 rfl (Nat.le_of_ble_eq_true rfl) dX9_heap_39) hW (fun H locs hW => ?_)
      refine lv_if_ne (tgt := 51) hx hb dX9_heap_42 (by decide) (fun q9 => ?_) (fun q9 => ?_)
      · have h := it_n q9 h
        refine lv_aload_n hx hb dX9_heap_51 rfl (lv_at hl 1 rfl) ?_
        refine gX0_3 hC hW dX9_heap_52 ?_
        refine lv_aload_n hx hb dX9_heap_55 rfl (lv_at hl 1 rfl) ?_
        refine gX0_0 hC hW dX9_heap_56 ?_
        refine lv_iload_n hx hb dX9_heap_59 rfl (lv_at hl 2 rfl) ?_
        obtain ⟨t10, e11, h⟩ := bd h
        refine x_gov (x_rv (rest := []) hC hW (ctX22_take e11) (cwV_g hC.2.2.2.2 ml_X9_191 mi_X1_take md_X1_take ⟨(Nat.le_trans (Nat.le_of_ble_eq_true rfl) hF), (Nat.le_trans (Nat.le_of_ble_eq_true rfl) hL)⟩) (rcX22 hW) rfl hl.1 rfl (Nat.le_of_ble_eq_true rfl) dX9_heap_60) hW (fun H locs hW => ?_)
        refine lv_aload_n hx hb dX9_heap_63 rfl (lv_at hl 1 rfl) ?_
        refine gX0_3 hC hW dX9_heap_64 ?_
        obtain ⟨t12, e13, h⟩ := bd h
        refine x_goi (x_rv (rest := []) hC hW (ctX22_howMany e13) (cwV_g hC.2.2.2.2 ml_X9_195 mi_X1_howMany md_X1_howMany ⟨(Nat.le_trans (Nat.le_of_ble_eq_true rfl) hF), (Nat.le_trans (Nat.le_of_ble_eq_true rfl) hL)⟩) (rcX22 hW) rfl hl.1 rfl (Nat.le_of_ble_eq_true rfl) dX9_heap_67) hW (fun H locs hW => ?_)
        cases h
        exact kr _ _ _ _ dX9_heap_70 hW
      · have h := it_p q9 h
        refine lv_aload_n hx hb dX9_heap_45 rfl (lv_at hl 1 rfl) ?_
        refine lv_iconst (v := 3) hx hb dX9_heap_46 (by decide) ?_
        obtain ⟨t14, e15, h⟩ := bd h
        refine x_goi (x_rv (rest := []) hC hW (ctX0_found e15) (cwV_g hC.2.2.2.2 ml_X9_109 mi_X9_found md_X9_found ⟨(Nat.le_trans (Nat.le_of_ble_eq_true rfl) hF), (Nat.le_trans (Nat.le_of_ble_eq_true rfl) hL)⟩) (rcX0 hW) rfl hl.1 rfl (Nat.le_of_ble_eq_true rfl) dX9_heap_47) hW (fun H locs hW => ?_)
        cases h
        exact kr _ _ _ _ dX9_heap_50 hW
    · have h := it_n q6 h
      refine lv_aload_n hx hb dX9_heap_25 rfl (lv_at hl 1 rfl) ?_
      refine lv_iconst (v := 5) hx hb dX9_heap_26 (by decide) ?_
      obtain ⟨t16, e17, h⟩ := bd h
      refine x_goi (x_rv (rest := []) hC hW (ctX0_found e17) (cwV_g hC.2.2.2.2 ml_X9_109 mi_X9_found md_X9_found ⟨(Nat.le_trans (Nat.le_of_ble_eq_true rfl) hF), (Nat.le_trans (Nat.le_of_ble_eq_true rfl) hL)⟩) (rcX0 hW) rfl hl.1 rfl (Nat.le_of_ble_eq_true rfl) dX9_heap_27) hW (fun H locs hW => ?_)
      cases h
      exact kr _ _ _ _ dX9_heap_30 hW
  · have h := it_n q3 h
    refine lv_iload_n hx hb dX9_heap_10 rfl (lv_at hl 0 rfl) ?_
    cases h
    exact kr _ _ _ _ dX9_heap_11 hW
theorem ctX0_heap {N : Nat} {S : St} {x1 : Int32}  {v : Int32} {S' : St} (h : fX0_heap N S x1 = some (v, S')) : Met l yX9_heap (wm yX9_heap cX9_heap 3 (some .int)) (rmx 2 45) (pcm LX G S [.ref (ad G 0), .int x1]) (qcI LX G S' v) 0 0 G.2.2.2 :=
  x_enter (own := RX9) rfl rfl (Nat.le_of_ble_eq_true rfl) (fun p e s m below meth c ls hC hr hk hW hl => wX0_heap hC (Nat.le_refl _) (Nat.le_refl _)  h (fun H locs ls pc hd hW => x_reti hC hr hk hW hd) _ _ _ hW hl)
end GEN
