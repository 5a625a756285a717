section GEN
variable {p : Program} {l : Launch} {e : Env} {R : Room} {s : State} {m : MethodId} {args : Array Value} {below : List Frame} {meth : Method} {c : Code} {H : Heap} {locs : List Loc} {Q : State → Prop} {G : GG}
def fX0_judge_L43 (N : Nat) (S : St) (k3 : Nat) : Nat → Int32 → Option ((Int32 × St) ⊕ (Unit))
  | 0, _ => none
  | n + 1, x4 =>
    if 12 ≤ x4 then
      some (.inr ())
    else
      Option.bind (fX25_isRightIn N S x4 k3) fun t10 =>
      if t10 = 0 then
        some (.inl (100 + x4, S))
      else
        fX0_judge_L43 N S k3 n (x4 + 1)
set_option maxHeartbeats 4000000 in
set_option maxRecDepth 100000 in
theorem wX0_judge_L43 {N : Nat} {S : St} {k3 : Nat} (hC : CallFix p m c cX9_judge 5 s args lw_g RX9) (hF : 3 ≤ R.frames) (hL : 68 ≤ R.locals) (ha3 : isA LX k3 (lenX k3)) {t : (Int32 × St) ⊕ (Unit)} (kr : ∀ r, t = .inl r → ∀ (H : Heap) (locs : List Loc) (ls : Array Slot) (pc : Nat), decode cX9_judge pc = .ok (.ireturn, 1) → wg LX G r.2 s H locs → W p l e R s m args below meth c H locs 0 0 Q (F0 m pc ls [.int r.1])) (kx : ∀ u, t = .inr u → ∀ (H : Heap) (locs : List Loc) (ls : Array Slot), wg LX G S s H locs → lv_has ls 5 [(0, .ref (ad G 0)), (3, .ref (ad G k3))] → W p l e R s m args below meth c H locs 0 0 Q (F0 m 75 ls [])) : ∀ (n : Nat) (x4 : Int32), fX0_judge_L43 N S k3 n x4 = some t → ∀ (H : Heap) (locs : List Loc) (ls : Array Slot), wg LX G S s H locs → lv_has ls 5 [(0, .ref (ad G 0)), (3, .ref (ad G k3)), (4, .int x4)] → W p l e R s m args below meth c H locs 0 0 Q (F0 m 43 ls []) := by
  have hx := hC.1
  have hb := hC.2.1
  intro n
  induction n with
  | zero =>
    intro _ h
    cases h
  | succ n ih =>
    intro x4 h H locs ls hW hl
    rw [fX0_judge_L43] at h
    refine lv_iload hx hb dX9_judge_43 (lv_at hl 2 rfl) ?_
    refine lv_bipush (v := 12) hx hb dX9_judge_45 (by decide) ?_
    refine lv_icmp_ge (tgt := 75) hx hb dX9_judge_47 (by decide) (fun q9 => ?_) (fun q9 => ?_)
    · have h := it_p q9 h
      cases h
      exact kx _ rfl _ _ _ hW (lv_sub hl [0, 1] rfl)
    · have h := it_n q9 h
      refine lv_aload_n hx hb dX9_judge_50 rfl (lv_at hl 0 rfl) ?_
      refine gX0_4 hC hW dX9_judge_51 ?_
      refine lv_iload hx hb dX9_judge_54 (lv_at hl 2 rfl) ?_
      refine lv_aload_n hx hb dX9_judge_56 rfl (lv_at hl 1 rfl) ?_
      obtain ⟨t10, e11, h⟩ := bd h
      refine x_goi (x_rv (rest := []) hC hW (ctX25_isRightIn ha3 e11) (cwV_g hC.2.2.2.2 ml_X9_298 mi_X0_isRightIn md_X0_isRightIn ⟨(Nat.le_trans (Nat.le_of_ble_eq_true rfl) hF), (Nat.le_trans (Nat.le_of_ble_eq_true rfl) hL)⟩) (rcX25 hW) rfl hl.1 rfl (Nat.le_of_ble_eq_true rfl) dX9_judge_57) hW (fun H locs hW => ?_)
      refine lv_if_ne (tgt := 69) hx hb dX9_judge_60 (by decide) (fun q12 => ?_) (fun q12 => ?_)
      · have h := it_n q12 h
        refine lv_iinc (v := x4 + 1) (lv' := [(4, .int (x4 + 1)), (0, .ref (ad G 0)), (3, .ref (ad G k3))]) (k := 2) hx hb dX9_judge_69 hl rfl rfl (by decide) rfl (fun ls hl => ?_)
        refine lv_goto (tgt := 43) hx hb dX9_judge_72 (by decide) ?_
        exact ih _ h _ _ _ hW (lv_sub hl [1, 2, 0] rfl)
      · have h := it_p q12 h
        refine lv_bipush (v := 100) hx hb dX9_judge_63 (by decide) ?_
        refine lv_iload hx hb dX9_judge_65 (lv_at hl 2 rfl) ?_
        refine lv_iadd hx hb dX9_judge_67 ?_
        cases h
        exact kr _ rfl _ _ _ _ dX9_judge_68 hW
def fX0_judge_L78 (N : Nat) (S : St) (k3 : Nat) : Nat → Int32 → Option ((Int32 × St) ⊕ (Unit))
  | 0, _ => none
  | n + 1, x4 =>
    Option.bind (fX29_howMany S) fun t16 =>
    if t16 ≤ x4 then
      some (.inr ())
    else
      Option.bind (fX29_comesOut N S x4 k3) fun t19 =>
      if t19 = 0 then
        some (.inl (200 + x4, S))
      else
        fX0_judge_L78 N S k3 n (x4 + 1)
set_option maxHeartbeats 4000000 in
set_option maxRecDepth 100000 in
theorem wX0_judge_L78 {N : Nat} {S : St} {k3 : Nat} (hC : CallFix p m c cX9_judge 5 s args lw_g RX9) (hF : 3 ≤ R.frames) (hL : 68 ≤ R.locals) (ha3 : isA LX k3 (lenX k3)) {t : (Int32 × St) ⊕ (Unit)} (kr : ∀ r, t = .inl r → ∀ (H : Heap) (locs : List Loc) (ls : Array Slot) (pc : Nat), decode cX9_judge pc = .ok (.ireturn, 1) → wg LX G r.2 s H locs → W p l e R s m args below meth c H locs 0 0 Q (F0 m pc ls [.int r.1])) (kx : ∀ u, t = .inr u → ∀ (H : Heap) (locs : List Loc) (ls : Array Slot), wg LX G S s H locs → lv_has ls 5 [] → W p l e R s m args below meth c H locs 0 0 Q (F0 m 116 ls [])) : ∀ (n : Nat) (x4 : Int32), fX0_judge_L78 N S k3 n x4 = some t → ∀ (H : Heap) (locs : List Loc) (ls : Array Slot), wg LX G S s H locs → lv_has ls 5 [(0, .ref (ad G 0)), (3, .ref (ad G k3)), (4, .int x4)] → W p l e R s m args below meth c H locs 0 0 Q (F0 m 78 ls []) := by
  have hx := hC.1
  have hb := hC.2.1
  intro n
  induction n with
  | zero =>
    intro _ h
    cases h
  | succ n ih =>
    intro x4 h H locs ls hW hl
    rw [fX0_judge_L78] at h
    refine lv_iload hx hb dX9_judge_78 (lv_at hl 2 rfl) ?_
    refine lv_aload_n hx hb dX9_judge_80 rfl (lv_at hl 0 rfl) ?_
    refine gX0_5 hC hW dX9_judge_81 ?_
    obtain ⟨t16, e17, h⟩ := bd h
    refine x_goi (x_rv (rest := [.int x4]) hC hW (ctX29_howMany e17) (cwV_g hC.2.2.2.2 ml_X9_175 mi_X7_howMany md_X7_howMany ⟨(Nat.le_trans (Nat.le_of_ble_eq_true rfl) hF), (Nat.le_trans (Nat.le_of_ble_eq_true rfl) hL)⟩) (rcX29 hW) rfl hl.1 rfl (Nat.le_of_ble_eq_true rfl) dX9_judge_84) hW (fun H locs hW => ?_)
    refine lv_icmp_ge (tgt := 116) hx hb dX9_judge_87 (by decide) (fun q18 => ?_) (fun q18 => ?_)
    · have h := it_p q18 h
      cases h
      exact kx _ rfl _ _ _ hW (lv_sub hl [] rfl)
    · have h := it_n q18 h
      refine lv_aload_n hx hb dX9_judge_90 rfl (lv_at hl 0 rfl) ?_
      refine gX0_5 hC hW dX9_judge_91 ?_
      refine lv_iload hx hb dX9_judge_94 (lv_at hl 2 rfl) ?_
      refine lv_aload_n hx hb dX9_judge_96 rfl (lv_at hl 1 rfl) ?_
      obtain ⟨t19, e20, h⟩ := bd h
      refine x_goi (x_rv (rest := []) hC hW (ctX29_comesOut ha3 e20) (cwV_g hC.2.2.2.2 ml_X9_302 mi_X7_comesOut md_X7_comesOut ⟨(Nat.le_trans (Nat.le_of_ble_eq_true rfl) hF), (Nat.le_trans (Nat.le_of_ble_eq_true rfl) hL)⟩) (rcX29 hW) rfl hl.1 rfl (Nat.le_of_ble_eq_true rfl) dX9_judge_97) hW (fun H locs hW => ?_)
      refine lv_if_ne (tgt := 110) hx hb dX9_judge_100 (by decide) (fun q21 => ?_) (fun q21 => ?_)
      · have h := it_n q21 h
        refine lv_iinc (v := x4 + 1) (lv' := [(4, .int (x4 + 1)), (0, .ref (ad G 0)), (3, .ref (ad G k3))]) (k := 2) hx hb dX9_judge_110 hl rfl rfl (by decide) rfl (fun ls hl => ?_)
        refine lv_goto (tgt := 78) hx hb dX9_judge_113 (by decide) ?_
        exact ih _ h _ _ _ hW (lv_sub hl [1, 2, 0] rfl)
      · have h := it_p q21 h
        refine lv_sipush (v := 200) hx hb dX9_judge_103 (by decide) ?_
        refine lv_iload hx hb dX9_judge_106 (lv_at hl 2 rfl) ?_
        refine lv_iadd hx hb dX9_judge_108 ?_
        cases h
        exact kr _ rfl _ _ _ _ dX9_judge_109 hW
def fX0_judge (N : Nat) (S : St) (x1 : Int32) : Option (Int32 × St) :=
  Option.bind (fX0_refuseRow S x1) fun t1 =>
  if t1.1 = 0 then
    Option.bind (fX1_sizeOf t1.2 x1) fun t4 =>
    if t4 = 12 then
      Option.bind (fX1_placesOf t1.2 x1) fun t7 =>
      Option.bind (fX0_judge_L43 N t1.2 t7 N 0) fun t13 => sm t13 fun u15 =>
      Option.bind (fX0_judge_L78 N t1.2 t7 N 0) fun t22 => sm t22 fun u24 =>
      some ((-9), t1.2)
    else
      Option.bind (fX0_found t1.2 5) fun t25 =>
      some (t25.1, t25.2)
  else
    some (t1.1, t1.2)
set_option maxHeartbeats 4000000 in
set_option maxRecDepth 100000 in
theorem wX0_judge {N : Nat} {S : St} {x1 : Int32} (hC : CallFix p m c cX9_judge 5 s args lw_g RX9) (hF : 3 ≤ R.frames) (hL : 68 ≤ R.locals)  {v : Int32} {S' : St} (h : fX0_judge N S x1 = some (v, S')) (kr : ∀ (H : Heap) (locs : List Loc) (ls : Array Slot) (pc : Nat), decode cX9_judge pc = .ok (.ireturn, 1) → wg LX G (S') s H locs → W p l e R s m args below meth c H locs 0 0 Q (F0 m pc ls [.int v])) : ∀ (H : Heap) (locs : List Loc) (ls : Array Slot), wg LX G S s H locs → lv_has ls 5 [(0, .ref (ad G 0)), (1, .int x1)] → W p l e R s m args below meth c H locs 0 0 Q (F0 m 0 ls []) := by
  have hx := hC.1
  have hb := hC.2.1
  intro H locs ls hW hl
  unfold fX0_judge at h
  refine lv_aload_n hx hb dX9_judge_0 rfl (lv_at hl 0 rfl) ?_
  refine lv_iload_n hx hb dX9_judge_1 rfl (lv_at hl 1 rfl) ?_
  obtain ⟨t1, e2, h⟩ := bd h
  refine x_goi (x_rv (rest := []) hC hW (ctX0_refuseRow e2) (cwV_g hC.2.2.2.2 ml_X9_127 mi_X9_refuseRow md_X9_refuseRow ⟨(Nat.le_trans (Nat.le_of_ble_eq_true rfl) hF), (Nat.le_trans (Nat.le_of_ble_eq_true rfl) hL)⟩) (rcX0 hW) rfl hl.1 rfl (Nat.le_of_ble_eq_true rfl) dX9_judge_2) hW (fun H locs hW => ?_)
  refine lv_istore_n (lv' := [(2, .int t1.1), (0, .ref (ad G 0)), (1, .int x1)]) hx hb dX9_judge_5 rfl hl (by decide) rfl (fun ls hl => ?_)
  refine lv_iload_n hx hb dX9_judge_6 rfl (lv_at hl 0 rfl) ?_
  refine lv_if_eq (tgt := 12) hx hb dX9_judge_7 (by decide) (fun q3 => ?_) (fun q3 => ?_)
  · have h := it_p q3 h
    refine lv_aload_n hx hb dX9_judge_12 rfl (lv_at hl 1 rfl) ?_
    refine gX0_0 hC hW dX9_judge_13 ?_
    refine lv_iload_n hx hb dX9_judge_16 rfl (lv_at hl 2 rfl) ?_
    obtain ⟨t4, e5, h⟩ := bd h
    refine x_goi (x_rv (rest := []) hC hW (ctX1_sizeOf e5) (cwV_g hC.2.2.2.2 ml_X9_145 mi_X6_sizeOf md_X6_sizeOf ⟨(Nat.le_trans (Nat.le_of_ble_eq_true rfl) hF), (Nat.le_trans (Nat.le_of_ble_eq_true rfl) hL)⟩) (rcX1 hW) rfl hl.1 rfl (Nat.le_of_ble_eq_true rfl) dX9_judge_17) hW (fun H locs hW => ?_)
    refine lv_bipush (v := 12) hx hb dX9_judge_20 (by decide) ?_
    refine lv_icmp_eq (tgt := 31) hx hb dX9_judge_22 (by decide) (fun q6 => ?_) (fun q6 => ?_)
    · have h := it_p q6 h
      refine lv_aload_n hx hb dX9_judge_31 rfl (lv_at hl 1 rfl) ?_
      refine gX0_0 hC hW dX9_judge_32 ?_
      refine lv_iload_n hx hb dX9_judge_35 rfl (lv_at hl 2 rfl) ?_
      obtain ⟨t7, e8, h⟩ := bd h
      refine x_gor (x_rv (rest := []) hC hW (ctX1_placesOf e8) (cwV_g hC.2.2.2.2 ml_X9_294 mi_X6_placesOf md_X6_placesOf ⟨(Nat.le_trans (Nat.le_of_ble_eq_true rfl) hF), (Nat.le_trans (Nat.le_of_ble_eq_true rfl) hL)⟩) (rcX1 hW) rfl hl.1 rfl (Nat.le_of_ble_eq_true rfl) dX9_judge_36) hW (fun H locs hW => ?_)
      refine lv_astore_n (lv' := [(3, .ref (ad G t7)), (2, .int t1.1), (0, .ref (ad G 0)), (1, .int x1)]) hx hb dX9_judge_39 rfl hl (by decide) rfl (fun ls hl => ?_)
      refine lv_iconst (v := 0) hx hb dX9_judge_40 (by decide) ?_
      refine lv_istore (lv' := [(4, .int 0), (3, .ref (ad G t7)), (2, .int t1.1), (0, .ref (ad G 0)), (1, .int x1)]) hx hb dX9_judge_41 hl (by decide) rfl (fun ls hl => ?_)
      obtain ⟨t13, e14, h⟩ := bd h
      refine wX0_judge_L43 hC hF hL (X1_placesOf_isA e8) (fun r er H locs ls pc hd hW => ?_) (fun u15 eu H locs ls hW hl => ?_) _ _ e14 _ _ _ hW (lv_sub hl [3, 1, 0] rfl)
      · rw [er] at h
        have h := sm_l h
        cases h
        exact kr _ _ _ _ hd hW
      · rw [eu] at h
        have h := sm_r h
        refine lv_iconst (v := 0) hx hb dX9_judge_75 (by decide) ?_
        refine lv_istore (lv' := [(4, .int 0), (0, .ref (ad G 0)), (3, .ref (ad G t7))]) hx hb dX9_judge_76 hl (by decide) rfl (fun ls hl => ?_)
        obtain ⟨t22, e23, h⟩ := bd h
        refine wX0_judge_L78 hC hF hL (X1_placesOf_isA e8) (fun r er H locs ls pc hd hW => ?_) (fun u24 eu H locs ls hW hl => ?_) _ _ e23 _ _ _ hW (lv_sub hl [1, 2, 0] rfl)
        · rw [er] at h
          have h := sm_l h
          cases h
          exact kr _ _ _ _ hd hW
        · rw [eu] at h
          have h := sm_r h
          refine lv_bipush (v := (-9)) hx hb dX9_judge_116 (by decide) ?_
          cases h
          exact kr _ _ _ _ dX9_judge_118 hW
    · have h := it_n q6 h
      refine lv_aload_n hx hb dX9_judge_25 rfl (lv_at hl 1 rfl) ?_
      refine lv_iconst (v := 5) hx hb dX9_judge_26 (by decide) ?_
      obtain ⟨t25, e26, h⟩ := bd h
      refine x_goi (x_rv (rest := []) hC hW (ctX0_found e26) (cwV_g hC.2.2.2.2 ml_X9_109 mi_X9_found md_X9_found ⟨(Nat.le_trans (Nat.le_of_ble_eq_true rfl) hF), (Nat.le_trans (Nat.le_of_ble_eq_true rfl) hL)⟩) (rcX0 hW) rfl hl.1 rfl (Nat.le_of_ble_eq_true rfl) dX9_judge_27) hW (fun H locs hW => ?_)
      cases h
      exact kr _ _ _ _ dX9_judge_30 hW
  · have h := it_n q3 h
    refine lv_iload_n hx hb dX9_judge_10 rfl (lv_at hl 0 rfl) ?_
    cases h
    exact kr _ _ _ _ dX9_judge_11 hW
theorem ctX0_judge {N : Nat} {S : St} {x1 : Int32}  {v : Int32} {S' : St} (h : fX0_judge N S x1 = some (v, S')) : Met l yX9_judge (wm yX9_judge cX9_judge 5 (some .int)) (rmx 3 68) (pcm LX G S [.ref (ad G 0), .int x1]) (qcI LX G S' v) 0 0 G.2.2.2 :=
  x_enter (own := RX9) rfl rfl (Nat.le_of_ble_eq_true rfl) (fun p e s m below meth c ls hC hr hk hW hl => wX0_judge hC (Nat.le_refl _) (Nat.le_refl _)  h (fun H locs ls pc hd hW => x_reti hC hr hk hW hd) _ _ _ hW hl)
def fXs_runsOn (S : St) (x0 : Int32) (x1 : Int32) : Option (Int32) :=
  Option.bind (α := Int32) (
    if x0 = x1 then
      some 1
    else
      if x0 = (-9) then
        some 1
      else
        if x1 = (-9) then
          some 1
        else
          some 0
  ) fun t2 =>
  gd (isb t2) <|
  some t2
set_option maxHeartbeats 4000000 in
set_option maxRecDepth 100000 in
theorem wXs_runsOn {S : St} {x0 : Int32} {x1 : Int32} (hC : CallFix p m c cX3_runsOn 2 s args lw_g RX3) (hF : 0 ≤ R.frames) (hL : 0 ≤ R.locals)  {v : Int32} (h : fXs_runsOn S x0 x1 = some v) (kr : ∀ (H : Heap) (locs : List Loc) (ls : Array Slot) (pc : Nat), isb v = true → decode cX3_runsOn pc = .ok (.ireturn, 1) → wg LX G S s H locs → W p l e R s m args below meth c H locs 0 0 Q (F0 m pc ls [.int v])) : ∀ (H : Heap) (locs : List Loc) (ls : Array Slot), wg LX G S s H locs → lv_has ls 2 [(0, .int x0), (1, .int x1)] → W p l e R s m args below meth c H locs 0 0 Q (F0 m 0 ls []) := by
  have hx := hC.1
  have hb := hC.2.1
  intro H locs ls hW hl
  unfold fXs_runsOn at h
  refine lv_iload_n hx hb dX3_runsOn_0 rfl (lv_at hl 0 rfl) ?_
  refine lv_iload_n hx hb dX3_runsOn_1 rfl (lv_at hl 1 rfl) ?_
  obtain ⟨t2, e3, h⟩ := bd h
  have K1 : ∀ (H : Heap) (locs : List Loc) (ls : Array Slot), wg LX G S s H locs → lv_has ls 2 [] → W p l e R s m args below meth c H locs 0 0 Q (F0 m 22 ls [.int t2]) := by
    intro H locs ls hW hl
    obtain ⟨g7, h⟩ := gd_some h
    cases h
    exact kr _ _ _ _ g7 dX3_runsOn_22 hW
  clear h
  have h := e3
  clear e3
  refine lv_icmp_eq (tgt := 17) hx hb dX3_runsOn_2 (by decide) (fun q4 => ?_) (fun q4 => ?_)
  · have h := it_p q4 h
    refine lv_iconst (v := 1) hx hb dX3_runsOn_17 (by decide) ?_
    refine lv_goto (tgt := 22) hx hb dX3_runsOn_18 (by decide) ?_
    cases h
    exact K1 _ _ _ hW (lv_sub hl [] rfl)
  · have h := it_n q4 h
    refine lv_iload_n hx hb dX3_runsOn_5 rfl (lv_at hl 0 rfl) ?_
    refine lv_bipush (v := (-9)) hx hb dX3_runsOn_6 (by decide) ?_
    refine lv_icmp_eq (tgt := 17) hx hb dX3_runsOn_8 (by decide) (fun q5 => ?_) (fun q5 => ?_)
    · have h := it_p q5 h
      refine lv_iconst (v := 1) hx hb dX3_runsOn_17 (by decide) ?_
      refine lv_goto (tgt := 22) hx hb dX3_runsOn_18 (by decide) ?_
      cases h
      exact K1 _ _ _ hW (lv_sub hl [] rfl)
    · have h := it_n q5 h
      refine lv_iload_n hx hb dX3_runsOn_11 rfl (lv_at hl 1 rfl) ?_
      refine lv_bipush (v := (-9)) hx hb dX3_runsOn_12 (by decide) ?_
      refine lv_icmp_ne (tgt := 21) hx hb dX3_runsOn_14 (by decide) (fun q6 => ?_) (fun q6 => ?_)
      · have h := it_n q6 h
        refine lv_iconst (v := 0) hx hb dX3_runsOn_21 (by decide) ?_
        cases h
        exact K1 _ _ _ hW (lv_sub hl [] rfl)
      · have h := it_p q6 h
        refine lv_iconst (v := 1) hx hb dX3_runsOn_17 (by decide) ?_
        refine lv_goto (tgt := 22) hx hb dX3_runsOn_18 (by decide) ?_
        cases h
        exact K1 _ _ _ hW (lv_sub hl [] rfl)
theorem ctXs_runsOn {S : St} {x0 : Int32} {x1 : Int32}  {v : Int32} (h : fXs_runsOn S x0 x1 = some v) : Met l yX3_runsOn (wm yX3_runsOn cX3_runsOn 2 (some .boolean)) (rmx 0 0) (pcm LX G S [.int x0, .int x1]) (qcI LX G S v) 0 0 G.2.2.2 :=
  x_enter (own := RX3) rfl rfl (Nat.le_of_ble_eq_true rfl) (fun p e s m below meth c ls hC hr hk hW hl => wXs_runsOn hC (Nat.le_refl _) (Nat.le_refl _)  h (fun H locs ls pc hz hd hW => x_retz hC hr hk hW hz hd) _ _ _ hW hl)
def fX44_place_L35 (rec : St → Int32 → Int32 → Int32 → Int32 → Option St) (N : Nat) (x1 : Int32) (x2 : Int32) (x3 : Int32) (x4 : Int32) : Nat → St → Int32 → Option (St)
  | 0, _, _ => none
  | n + 1, S, x5 =>
    if (S.1 44 2) ≤ x5 then
      some S
    else
      Option.bind (α := St) (
        if ((x2 >>> (x5 &&& 31)) &&& 1) = 0 then
          gd (inb x5 6) <|
          Option.bind (fXs_runsOn S x3 (S.1 45 (Int32.toNatClampNeg x5))) fun t8 =>
          if t8 = 0 then
            some S
          else
            gd (inb x5 6) <|
            Option.bind (rec S (x1 + 1) (x2 ||| (1 <<< (x5 &&& 31))) (S.1 46 (Int32.toNatClampNeg x5)) (((10 * x4) + x5) + 1)) fun t12 =>
            some t12
        else
          some S
      ) fun t4 =>
      fX44_place_L35 rec N x1 x2 x3 x4 n t4 (x5 + 1)
set_option maxHeartbeats 4000000 in
set_option maxRecDepth 100000 in
theorem wX44_place_L35 {rec : St → Int32 → Int32 → Int32 → Int32 → Option St} {N : Nat} {x1 : Int32} {x2 : Int32} {x3 : Int32} {x4 : Int32} (hC : CallFix p m c cX3_place 6 s args lw_g RX3) (hF : 1 ≤ R.frames) (hL : 21 ≤ R.locals) {Fr Lr : Nat} (hrec : ∀ (S1 S2 : St) (y1 y2 y3 y4 : Int32), rec S1 y1 y2 y3 y4 = some S2 → Met l yX3_place (wm yX3_place cX3_place 6 none) (rmx Fr Lr) (pcm LX G S1 [.ref (ad G 44), .int y1, .int y2, .int y3, .int y4]) (qcV LX G S2) 0 0 G.2.2.2) (hFr : Fr + 1 ≤ R.frames) (hLr : 8 + (6 + 11) + Lr ≤ R.locals)  {t : St} (kx : ∀ (H : Heap) (locs : List Loc) (ls : Array Slot), wg LX G t s H locs → lv_has ls 6 [] → W p l e R s m args below meth c H locs 0 0 Q (F0 m 103 ls [])) : ∀ (n : Nat) (S : St) (x5 : Int32), fX44_place_L35 rec N x1 x2 x3 x4 n S x5 = some t → ∀ (H : Heap) (locs : List Loc) (ls : Array Slot), wg LX G S s H locs → lv_has ls 6 [(0, .ref (ad G 44)), (1, .int x1), (2, .int x2), (3, .int x3), (4, .int x4), (5, .int x5)] → W p l e R s m args below meth c H locs 0 0 Q (F0 m 35 ls []) := by
  have hx := hC.1
  have hb := hC.2.1
  intro n
  induction n with
  | zero =>
    intro _ _ h
    cases h
  | succ n ih =>
    intro S x5 h H locs ls hW hl
    rw [fX44_place_L35] at h
    refine lv_iload hx hb dX3_place_35 (lv_at hl 5 rfl) ?_
    refine lv_aload_n hx hb dX3_place_37 rfl (lv_at hl 0 rfl) ?_
    refine gX44_2 hC hW dX3_place_38 ?_
    refine lv_icmp_ge (tgt := 103) hx hb dX3_place_41 (by decide) (fun q2 => ?_) (fun q2 => ?_)
    · have h := it_p q2 h
      cases h
      exact kx _ _ _ hW (lv_sub hl [] rfl)
    · have h := it_n q2 h
      refine lv_iload_n hx hb dX3_place_44 rfl (lv_at hl 2 rfl) ?_
      refine lv_iload hx hb dX3_place_45 (lv_at hl 5 rfl) ?_
      refine lv_ishr hx hb dX3_place_47 ?_
      refine lv_iconst (v := 1) hx hb dX3_place_48 (by decide) ?_
      refine lv_iand hx hb dX3_place_49 ?_
      obtain ⟨t4, e5, h⟩ := bd h
      have K3 : ∀ (H : Heap) (locs : List Loc) (ls : Array Slot), wg LX G t4 s H locs → lv_has ls 6 [(0, .ref (ad G 44)), (1, .int x1), (2, .int x2), (3, .int x3), (4, .int x4), (5, .int x5)] → W p l e R s m args below meth c H locs 0 0 Q (F0 m 97 ls []) := by
        intro H locs ls hW hl
        refine lv_iinc (v := x5 + 1) (lv' := [(5, .int (x5 + 1)), (0, .ref (ad G 44)), (1, .int x1), (2, .int x2), (3, .int x3), (4, .int x4)]) (k := 5) hx hb dX3_place_97 hl rfl rfl (by decide) rfl (fun ls hl => ?_)
        refine lv_goto (tgt := 35) hx hb dX3_place_100 (by decide) ?_
        exact ih _ _ h _ _ _ hW (lv_sub hl [1, 2, 3, 4, 5, 0] rfl)
      clear h
      have h := e5
      clear e5
      refine lv_if_ne (tgt := 97) hx hb dX3_place_50 (by decide) (fun q6 => ?_) (fun q6 => ?_)
      · have h := it_n q6 h
        cases h
        exact K3 _ _ _ hW (lv_sub hl [0, 1, 2, 3, 4, 5] rfl)
      · have h := it_p q6 h
        refine lv_iload_n hx hb dX3_place_53 rfl (lv_at hl 3 rfl) ?_
        refine lv_aload_n hx hb dX3_place_54 rfl (lv_at hl 0 rfl) ?_
        refine gX44_0 hC hW dX3_place_55 ?_
        refine lv_iload hx hb dX3_place_58 (lv_at hl 5 rfl) ?_
        obtain ⟨g7, h⟩ := gd_some h
        refine x_iald hC hW aX45 g7 dX3_place_60 ?_
        obtain ⟨t8, e9, h⟩ := bd h
        refine x_goi (x_rs (rest := []) hC hW (ctXs_runsOn e9) (cwS_g hC.2.2.2.2 ml_X3_47 ms_X3_runsOn md_X3_runsOn ⟨(Nat.le_trans (Nat.le_of_ble_eq_true rfl) hF), (Nat.le_trans (Nat.le_of_ble_eq_true rfl) hL)⟩) rfl hl.1 rfl (Nat.le_of_ble_eq_true rfl) dX3_place_61) hW (fun H locs hW => ?_)
        refine lv_if_eq (tgt := 97) hx hb dX3_place_64 (by decide) (fun q10 => ?_) (fun q10 => ?_)
        · have h := it_p q10 h
          cases h
          exact K3 _ _ _ hW (lv_sub hl [0, 1, 2, 3, 4, 5] rfl)
        · have h := it_n q10 h
          refine lv_aload_n hx hb dX3_place_67 rfl (lv_at hl 0 rfl) ?_
          refine lv_iload_n hx hb dX3_place_68 rfl (lv_at hl 1 rfl) ?_
          refine lv_iconst (v := 1) hx hb dX3_place_69 (by decide) ?_
          refine lv_iadd hx hb dX3_place_70 ?_
          refine lv_iload_n hx hb dX3_place_71 rfl (lv_at hl 2 rfl) ?_
          refine lv_iconst (v := 1) hx hb dX3_place_72 (by decide) ?_
          refine lv_iload hx hb dX3_place_73 (lv_at hl 5 rfl) ?_
          refine lv_ishl hx hb dX3_place_75 ?_
          refine lv_ior hx hb dX3_place_76 ?_
          refine lv_aload_n hx hb dX3_place_77 rfl (lv_at hl 0 rfl) ?_
          refine gX44_1 hC hW dX3_place_78 ?_
          refine lv_iload hx hb dX3_place_81 (lv_at hl 5 rfl) ?_
          obtain ⟨g11, h⟩ := gd_some h
          refine x_iald hC hW aX46 g11 dX3_place_83 ?_
          refine lv_bipush (v := 10) hx hb dX3_place_84 (by decide) ?_
          refine lv_iload hx hb dX3_place_86 (lv_at hl 4 rfl) ?_
          refine lv_imul hx hb dX3_place_88 ?_
          refine lv_iload hx hb dX3_place_89 (lv_at hl 5 rfl) ?_
          refine lv_iadd hx hb dX3_place_91 ?_
          refine lv_iconst (v := 1) hx hb dX3_place_92 (by decide) ?_
          refine lv_iadd hx hb dX3_place_93 ?_
          obtain ⟨t12, e13, h⟩ := bd h
          refine x_gov (x_rv (rest := []) hC hW (hrec _ _ _ _ _ _ e13) (cwV_g hC.2.2.2.2 ml_X3_43 mi_X3_place md_X3_place ⟨hFr, hLr⟩) (rcX44 hW) rfl hl.1 rfl (Nat.le_of_ble_eq_true rfl) dX3_place_94) hW (fun H locs hW => ?_)
          cases h
          exact K3 _ _ _ hW (lv_sub hl [0, 1, 2, 3, 4, 5] rfl)
def fX44_place_B (rec : St → Int32 → Int32 → Int32 → Int32 → Option St) (N : Nat) (S : St) (x1 : Int32) (x2 : Int32) (x3 : Int32) (x4 : Int32) : Option (St) :=
  if x1 < (S.1 44 2) then
    Option.bind (fX44_place_L35 rec N x1 x2 x3 x4 N S 0) fun t14 =>
    some t14
  else
    Option.bind (α := St) (
      if (S.1 44 3) = 0 then
        nx (p1 S 44 4 x4) fun s20 =>
        some s20
      else
        some S
    ) fun t17 =>
    nx (p1 t17 44 3 ((t17.1 44 3) + 1)) fun s22 =>
    some s22
set_option maxHeartbeats 4000000 in
set_option maxRecDepth 100000 in
theorem wX44_place {rec : St → Int32 → Int32 → Int32 → Int32 → Option St} {N : Nat} {S : St} {x1 : Int32} {x2 : Int32} {x3 : Int32} {x4 : Int32} (hC : CallFix p m c cX3_place 6 s args lw_g RX3) (hF : 1 ≤ R.frames) (hL : 21 ≤ R.locals) {Fr Lr : Nat} (hrec : ∀ (S1 S2 : St) (y1 y2 y3 y4 : Int32), rec S1 y1 y2 y3 y4 = some S2 → Met l yX3_place (wm yX3_place cX3_place 6 none) (rmx Fr Lr) (pcm LX G S1 [.ref (ad G 44), .int y1, .int y2, .int y3, .int y4]) (qcV LX G S2) 0 0 G.2.2.2) (hFr : Fr + 1 ≤ R.frames) (hLr : 8 + (6 + 11) + Lr ≤ R.locals)  {S' : St} (h : fX44_place_B rec N S x1 x2 x3 x4 = some (S')) (kr : ∀ (H : Heap) (locs : List Loc) (ls : Array Slot) (pc : Nat), decode cX3_place pc = .ok (.return_, 1) → wg LX G (S') s H locs → W p l e R s m args below meth c H locs 0 0 Q (F0 m pc ls [])) : ∀ (H : Heap) (locs : List Loc) (ls : Array Slot), wg LX G S s H locs → lv_has ls 6 [(0, .ref (ad G 44)), (1, .int x1), (2, .int x2), (3, .int x3), (4, .int x4)] → W p l e R s m args below meth c H locs 0 0 Q (F0 m 0 ls []) := by
  have hx := hC.1
  have hb := hC.2.1
  intro H locs ls hW hl
  unfold fX44_place_B at h
  refine lv_iload_n hx hb dX3_place_0 rfl (lv_at hl 1 rfl) ?_
  refine lv_aload_n hx hb dX3_place_1 rfl (lv_at hl 0 rfl) ?_
  refine gX44_2 hC hW dX3_place_2 ?_
  refine lv_icmp_lt (tgt := 32) hx hb dX3_place_5 (by decide) (fun q1 => ?_) (fun q1 => ?_)
  · have h := it_p q1 h
    refine lv_iconst (v := 0) hx hb dX3_place_32 (by decide) ?_
    refine lv_istore (lv' := [(5, .int 0), (0, .ref (ad G 44)), (1, .int x1), (2, .int x2), (3, .int x3), (4, .int x4)]) hx hb dX3_place_33 hl (by decide) rfl (fun ls hl => ?_)
    obtain ⟨t14, e15, h⟩ := bd h
    refine wX44_place_L35 hC hF hL hrec hFr hLr  (fun H locs ls hW hl => ?_) _ _ _ e15 _ _ _ hW (lv_sub hl [1, 2, 3, 4, 5, 0] rfl)
    cases h
    exact kr _ _ _ _ dX3_place_103 hW
  · have h := it_n q1 h
    refine lv_aload_n hx hb dX3_place_8 rfl (lv_at hl 0 rfl) ?_
    refine gX44_3 hC hW dX3_place_9 ?_
    obtain ⟨t17, e18, h⟩ := bd h
    have K16 : ∀ (H : Heap) (locs : List Loc) (ls : Array Slot), wg LX G t17 s H locs → lv_has ls 6 [(0, .ref (ad G 44))] → W p l e R s m args below meth c H locs 0 0 Q (F0 m 21 ls []) := by
      intro H locs ls hW hl
      refine lv_aload_n hx hb dX3_place_21 rfl (lv_at hl 0 rfl) ?_
      refine lv_dup hx hb dX3_place_22 rfl ?_
      refine gX44_3 hC hW dX3_place_23 ?_
      refine lv_iconst (v := 1) hx hb dX3_place_26 (by decide) ?_
      refine lv_iadd hx hb dX3_place_27 ?_
      refine pX44_3 hC hW dX3_place_28 (fun H locs hW => ?_)
      obtain ⟨s22, e23, h⟩ := nx_some h
      rw [← e23] at hW
      cases h
      exact kr _ _ _ _ dX3_place_31 hW
    clear h
    have h := e18
    clear e18
    refine lv_if_ne (tgt := 21) hx hb dX3_place_12 (by decide) (fun q19 => ?_) (fun q19 => ?_)
    · have h := it_n q19 h
      cases h
      exact K16 _ _ _ hW (lv_sub hl [0] rfl)
    · have h := it_p q19 h
      refine lv_aload_n hx hb dX3_place_15 rfl (lv_at hl 0 rfl) ?_
      refine lv_iload hx hb dX3_place_16 (lv_at hl 4 rfl) ?_
      refine pX44_4 hC hW dX3_place_18 (fun H locs hW => ?_)
      obtain ⟨s20, e21, h⟩ := nx_some h
      rw [← e21] at hW
      cases h
      exact K16 _ _ _ hW (lv_sub hl [0] rfl)
def fX44_place (N : Nat) : Nat → St → Int32 → Int32 → Int32 → Int32 → Option St
  | 0, _, _, _, _, _ => none
  | d + 1, S, x1, x2, x3, x4 => fX44_place_B (fX44_place N d) N S x1 x2 x3 x4
theorem ctX44_place_d {N : Nat} : ∀ (d : Nat) (S S' : St) (x1 x2 x3 x4 : Int32), fX44_place N d S x1 x2 x3 x4 = some S' → Met l yX3_place (wm yX3_place cX3_place 6 none) (rmx (1 + d) (21 + d * 25)) (pcm LX G S [.ref (ad G 44), .int x1, .int x2, .int x3, .int x4]) (qcV LX G S') 0 0 G.2.2.2
  | 0, _, _, _, _, _, _, h => by cases h
  | d + 1, S, S', x1, x2, x3, x4, h => by
    rw [fX44_place] at h
    exact x_enter (own := RX3) rfl rfl (Nat.le_of_ble_eq_true rfl) (fun p e s m below meth c ls hC hr hk hW hl => wX44_place hC (show 1 ≤ 1 + (d + 1) by omega) (show 21 ≤ 21 + (d + 1) * 25 by omega) (ctX44_place_d d) (show 1 + d + 1 ≤ 1 + (d + 1) by omega) (show 8 + (6 + 11) + (21 + d * 25) ≤ 21 + (d + 1) * 25 by omega) h (fun H locs ls pc hd hW => x_retv hC hr hk hW hd) _ _ _ hW hl)
theorem ctX44_place {N : Nat} {S S' : St} {x1 x2 x3 x4 : Int32} (h : fX44_place N 7 S x1 x2 x3 x4 = some S') : Met l yX3_place (wm yX3_place cX3_place 6 none) (rmx 8 196) (pcm LX G S [.ref (ad G 44), .int x1, .int x2, .int x3, .int x4]) (qcV LX G S') 0 0 G.2.2.2 := ctX44_place_d 7 S S' x1 x2 x3 x4 h
def fX44_arrange_L18 (N : Nat) (x2 : Int32) : Nat → St → Int32 → Option (St)
  | 0, _, _ => none
  | n + 1, S, x3 =>
    if (S.1 44 2) ≤ x3 then
      some S
    else
      Option.bind (fX1_get S x2 (2 * x3)) fun t8 =>
      gd (inb x3 6) <|
      nx (p1 S 45 (Int32.toNatClampNeg x3) t8) fun s11 =>
      Option.bind (fX1_get s11 x2 ((2 * x3) + 1)) fun t13 =>
      gd (inb x3 6) <|
      nx (p1 s11 46 (Int32.toNatClampNeg x3) t13) fun s16 =>
      fX44_arrange_L18 N x2 n s16 (x3 + 1)
set_option maxHeartbeats 4000000 in
set_option maxRecDepth 100000 in
theorem wX44_arrange_L18 {N : Nat} {x2 : Int32} (hC : CallFix p m c cX3_arrange 4 s args lw_g RX3) (hF : 9 ≤ R.frames) (hL : 221 ≤ R.locals)  {t : St} (kx : ∀ (H : Heap) (locs : List Loc) (ls : Array Slot), wg LX G t s H locs → lv_has ls 4 [(0, .ref (ad G 44))] → W p l e R s m args below meth c H locs 0 0 Q (F0 m 62 ls [])) : ∀ (n : Nat) (S : St) (x3 : Int32), fX44_arrange_L18 N x2 n S x3 = some t → ∀ (H : Heap) (locs : List Loc) (ls : Array Slot), wg LX G S s H locs → lv_has ls 4 [(0, .ref (ad G 44)), (1, .ref (ad G 1)), (2, .int x2), (3, .int x3)] → W p l e R s m args below meth c H locs 0 0 Q (F0 m 18 ls []) := by
  have hx := hC.1
  have hb := hC.2.1
  intro n
  induction n with
  | zero =>
    intro _ _ h
    cases h
  | succ n ih =>
    intro S x3 h H locs ls hW hl
    rw [fX44_arrange_L18] at h
    refine lv_iload_n hx hb dX3_arrange_18 rfl (lv_at hl 3 rfl) ?_
    refine lv_aload_n hx hb dX3_arrange_19 rfl (lv_at hl 0 rfl) ?_
    refine gX44_2 hC hW dX3_arrange_20 ?_
    refine lv_icmp_ge (tgt := 62) hx hb dX3_arrange_23 (by decide) (fun q7 => ?_) (fun q7 => ?_)
    · have h := it_p q7 h
      cases h
      exact kx _ _ _ hW (lv_sub hl [0] rfl)
    · have h := it_n q7 h
      refine lv_aload_n hx hb dX3_arrange_26 rfl (lv_at hl 0 rfl) ?_
      refine gX44_0 hC hW dX3_arrange_27 ?_
      refine lv_iload_n hx hb dX3_arrange_30 rfl (lv_at hl 3 rfl) ?_
      refine lv_aload_n hx hb dX3_arrange_31 rfl (lv_at hl 1 rfl) ?_
      refine lv_iload_n hx hb dX3_arrange_32 rfl (lv_at hl 2 rfl) ?_
      refine lv_iconst (v := 2) hx hb dX3_arrange_33 (by decide) ?_
      refine lv_iload_n hx hb dX3_arrange_34 rfl (lv_at hl 3 rfl) ?_
      refine lv_imul hx hb dX3_arrange_35 ?_
      obtain ⟨t8, e9, h⟩ := bd h
      refine x_goi (x_rv (rest := [.int x3, .ref (ad G 45)]) hC hW (ctX1_get e9) (cwV_g hC.2.2.2.2 ml_X3_40 mi_X6_get md_X6_get ⟨(Nat.le_trans (Nat.le_of_ble_eq_true rfl) hF), (Nat.le_trans (Nat.le_of_ble_eq_true rfl) hL)⟩) (rcX1 hW) rfl hl.1 rfl (Nat.le_of_ble_eq_true rfl) dX3_arrange_36) hW (fun H locs hW => ?_)
      obtain ⟨g10, h⟩ := gd_some h
      refine x_iast hC hW aX45 g10 dX3_arrange_39 (fun H locs hW => ?_)
      obtain ⟨s11, e12, h⟩ := nx_some h
      rw [← e12] at hW
      refine lv_aload_n hx hb dX3_arrange_40 rfl (lv_at hl 0 rfl) ?_
      refine gX44_1 hC hW dX3_arrange_41 ?_
      refine lv_iload_n hx hb dX3_arrange_44 rfl (lv_at hl 3 rfl) ?_
      refine lv_aload_n hx hb dX3_arrange_45 rfl (lv_at hl 1 rfl) ?_
      refine lv_iload_n hx hb dX3_arrange_46 rfl (lv_at hl 2 rfl) ?_
      refine lv_iconst (v := 2) hx hb dX3_arrange_47 (by decide) ?_
      refine lv_iload_n hx hb dX3_arrange_48 rfl (lv_at hl 3 rfl) ?_
      refine lv_imul hx hb dX3_arrange_49 ?_
      refine lv_iconst (v := 1) hx hb dX3_arrange_50 (by decide) ?_
      refine lv_iadd hx hb dX3_arrange_51 ?_
      obtain ⟨t13, e14, h⟩ := bd h
      refine x_goi (x_rv (rest := [.int x3, .ref (ad G 46)]) hC hW (ctX1_get e14) (cwV_g hC.2.2.2.2 ml_X3_40 mi_X6_get md_X6_get ⟨(Nat.le_trans (Nat.le_of_ble_eq_true rfl) hF), (Nat.le_trans (Nat.le_of_ble_eq_true rfl) hL)⟩) (rcX1 hW) rfl hl.1 rfl (Nat.le_of_ble_eq_true rfl) dX3_arrange_52) hW (fun H locs hW => ?_)
      obtain ⟨g15, h⟩ := gd_some h
      refine x_iast hC hW aX46 g15 dX3_arrange_55 (fun H locs hW => ?_)
      obtain ⟨s16, e17, h⟩ := nx_some h
      rw [← e17] at hW
      refine lv_iinc (v := x3 + 1) (lv' := [(3, .int (x3 + 1)), (0, .ref (ad G 44)), (1, .ref (ad G 1)), (2, .int x2)]) (k := 3) hx hb dX3_arrange_56 hl rfl rfl (by decide) rfl (fun ls hl => ?_)
      refine lv_goto (tgt := 18) hx hb dX3_arrange_59 (by decide) ?_
      exact ih _ _ h _ _ _ hW (lv_sub hl [1, 2, 3, 0] rfl)
def fX44_arrange (N : Nat) (S : St) (x2 : Int32) : Option (St) :=
  Option.bind (fX1_sizeOf S x2) fun t1 =>
  nx ((if 6 < (t1 / 2) then 6 else (t1 / 2))) fun y3 =>
  nx (p1 S 44 2 y3) fun s5 =>
  Option.bind (fX44_arrange_L18 N x2 N s5 0) fun t18 =>
  nx (p1 t18 44 3 0) fun s20 =>
  nx (p1 s20 44 4 0) fun s22 =>
  Option.bind (fX44_place N 7 s22 0 0 (-9) 0) fun t24 =>
  some t24
set_option maxHeartbeats 4000000 in
set_option maxRecDepth 100000 in
theorem wX44_arrange {N : Nat} {S : St} {x2 : Int32} (hC : CallFix p m c cX3_arrange 4 s args lw_g RX3) (hF : 9 ≤ R.frames) (hL : 221 ≤ R.locals)  {S' : St} (h : fX44_arrange N S x2 = some (S')) (kr : ∀ (H : Heap) (locs : List Loc) (ls : Array Slot) (pc : Nat), decode cX3_arrange pc = .ok (.return_, 1) → wg LX G (S') s H locs → W p l e R s m args below meth c H locs 0 0 Q (F0 m pc ls [])) : ∀ (H : Heap) (locs : List Loc) (ls : Array Slot), wg LX G S s H locs → lv_has ls 4 [(0, .ref (ad G 44)), (1, .ref (ad G 1)), (2, .int x2)] → W p l e R s m args below meth c H locs 0 0 Q (F0 m 0 ls []) := by
  have hx := hC.1
  have hb := hC.2.1
  intro H locs ls hW hl
  unfold fX44_arrange at h
  refine lv_aload_n hx hb dX3_arrange_0 rfl (lv_at hl 0 rfl) ?_
  refine lv_aload_n hx hb dX3_arrange_1 rfl (lv_at hl 1 rfl) ?_
  refine lv_iload_n hx hb dX3_arrange_2 rfl (lv_at hl 2 rfl) ?_
  obtain ⟨t1, e2, h⟩ := bd h
  refine x_goi (x_rv (rest := [.ref (ad G 44)]) hC hW (ctX1_sizeOf e2) (cwV_g hC.2.2.2.2 ml_X3_28 mi_X6_sizeOf md_X6_sizeOf ⟨(Nat.le_trans (Nat.le_of_ble_eq_true rfl) hF), (Nat.le_trans (Nat.le_of_ble_eq_true rfl) hL)⟩) (rcX1 hW) rfl hl.1 rfl (Nat.le_of_ble_eq_true rfl) dX3_arrange_3) hW (fun H locs hW => ?_)
  refine lv_iconst (v := 2) hx hb dX3_arrange_6 (by decide) ?_
  refine lv_idiv hx hb dX3_arrange_7 (by decide) ?_
  refine lv_bipush (v := 6) hx hb dX3_arrange_8 (by decide) ?_
  refine va_mmin hx hb (hC.2.2.1.trans hl.1.symm) hC.2.2.2.1 (hC.2.2.2.2 _ ml_X3_34) (hC.2.2.2.2 _ mw_min.1) (hC.2.2.2.2 _ mw_min.2.1) (hC.2.2.2.2 _ mw_min.2.2) (Nat.le_trans (Nat.le_of_ble_eq_true rfl) hF) (Nat.le_trans (Nat.le_of_ble_eq_true rfl) hL) (Nat.zero_le _) (Nat.zero_le _) dX3_arrange_10 ?_
  obtain ⟨y3, e4, h⟩ := nx_some h
  refine x_topi e4 ?_
  refine pX44_2 hC hW dX3_arrange_13 (fun H locs hW => ?_)
  obtain ⟨s5, e6, h⟩ := nx_some h
  rw [← e6] at hW
  refine lv_iconst (v := 0) hx hb dX3_arrange_16 (by decide) ?_
  refine lv_istore_n (lv' := [(3, .int 0), (0, .ref (ad G 44)), (1, .ref (ad G 1)), (2, .int x2)]) hx hb dX3_arrange_17 rfl hl (by decide) rfl (fun ls hl => ?_)
  obtain ⟨t18, e19, h⟩ := bd h
  refine wX44_arrange_L18 hC hF hL  (fun H locs ls hW hl => ?_) _ _ _ e19 _ _ _ hW (lv_sub hl [1, 2, 3, 0] rfl)
  refine lv_aload_n hx hb dX3_arrange_62 rfl (lv_at hl 0 rfl) ?_
  refine lv_iconst (v := 0) hx hb dX3_arrange_63 (by decide) ?_
  refine pX44_3 hC hW dX3_arrange_64 (fun H locs hW => ?_)
  obtain ⟨s20, e21, h⟩ := nx_some h
  rw [← e21] at hW
  refine lv_aload_n hx hb dX3_arrange_67 rfl (lv_at hl 0 rfl) ?_
  refine lv_iconst (v := 0) hx hb dX3_arrange_68 (by decide) ?_
  refine pX44_4 hC hW dX3_arrange_69 (fun H locs hW => ?_)
  obtain ⟨s22, e23, h⟩ := nx_some h
  rw [← e23] at hW
  refine lv_aload_n hx hb dX3_arrange_72 rfl (lv_at hl 0 rfl) ?_
  refine lv_iconst (v := 0) hx hb dX3_arrange_73 (by decide) ?_
  refine lv_iconst (v := 0) hx hb dX3_arrange_74 (by decide) ?_
  refine lv_bipush (v := (-9)) hx hb dX3_arrange_75 (by decide) ?_
  refine lv_iconst (v := 0) hx hb dX3_arrange_77 (by decide) ?_
  obtain ⟨t24, e25, h⟩ := bd h
  refine x_gov (x_rv (rest := []) hC hW (ctX44_place e25) (cwV_g hC.2.2.2.2 ml_X3_43 mi_X3_place md_X3_place ⟨(Nat.le_trans (Nat.le_of_ble_eq_true rfl) hF), (Nat.le_trans (Nat.le_of_ble_eq_true rfl) hL)⟩) (rcX44 hW) rfl hl.1 rfl (Nat.le_of_ble_eq_true rfl) dX3_arrange_78) hW (fun H locs hW => ?_)
  cases h
  exact kr _ _ _ _ dX3_arrange_81 hW
theorem ctX44_arrange {N : Nat} {S : St} {x2 : Int32}  {S' : St} (h : fX44_arrange N S x2 = some (S')) : Met l yX3_arrange (wm yX3_arrange cX3_arrange 4 none) (rmx 9 221) (pcm LX G S [.ref (ad G 44), .ref (ad G 1), .int x2]) (qcV LX G S') 0 0 G.2.2.2 :=
  x_enter (own := RX3) rfl rfl (Nat.le_of_ble_eq_true rfl) (fun p e s m below meth c ls hC hr hk hW hl => wX44_arrange hC (Nat.le_refl _) (Nat.le_refl _)  h (fun H locs ls pc hd hW => x_retv hC hr hk hW hd) _ _ _ hW hl)
def fX44_firstOrder (S : St)  : Option (Int32) :=
  some (S.1 44 4)
set_option maxHeartbeats 4000000 in
set_option maxRecDepth 100000 in
theorem wX44_firstOrder {S : St}  (hC : CallFix p m c cX3_firstOrder 1 s args lw_g RX3) (hF : 0 ≤ R.frames) (hL : 0 ≤ R.locals)  {v : Int32} (h : fX44_firstOrder S = some v) (kr : ∀ (H : Heap) (locs : List Loc) (ls : Array Slot) (pc : Nat), decode cX3_firstOrder pc = .ok (.ireturn, 1) → wg LX G S s H locs → W p l e R s m args below meth c H locs 0 0 Q (F0 m pc ls [.int v])) : ∀ (H : Heap) (locs : List Loc) (ls : Array Slot), wg LX G S s H locs → lv_has ls 1 [(0, .ref (ad G 44))] → W p l e R s m args below meth c H locs 0 0 Q (F0 m 0 ls []) := by
  have hx := hC.1
  have hb := hC.2.1
  intro H locs ls hW hl
  unfold fX44_firstOrder at h
  refine lv_aload_n hx hb dX3_firstOrder_0 rfl (lv_at hl 0 rfl) ?_
  refine gX44_4 hC hW dX3_firstOrder_1 ?_
  cases h
  exact kr _ _ _ _ dX3_firstOrder_4 hW
theorem ctX44_firstOrder {S : St}   {v : Int32} (h : fX44_firstOrder S = some v) : Met l yX3_firstOrder (wm yX3_firstOrder cX3_firstOrder 1 (some .int)) (rmx 0 0) (pcm LX G S [.ref (ad G 44)]) (qcI LX G S v) 0 0 G.2.2.2 :=
  x_enter (own := RX3) rfl rfl (Nat.le_of_ble_eq_true rfl) (fun p e s m below meth c ls hC hr hk hW hl => wX44_firstOrder hC (Nat.le_refl _) (Nat.le_refl _)  h (fun H locs ls pc hd hW => x_reti hC hr hk hW hd) _ _ _ hW hl)
def fX44_howManyOrders (S : St)  : Option (Int32) :=
  some (S.1 44 3)
set_option maxHeartbeats 4000000 in
set_option maxRecDepth 100000 in
theorem wX44_howManyOrders {S : St}  (hC : CallFix p m c cX3_howManyOrders 1 s args lw_g RX3) (hF : 0 ≤ R.frames) (hL : 0 ≤ R.locals)  {v : Int32} (h : fX44_howManyOrders S = some v) (kr : ∀ (H : Heap) (locs : List Loc) (ls : Array Slot) (pc : Nat), decode cX3_howManyOrders pc = .ok (.ireturn, 1) → wg LX G S s H locs → W p l e R s m args below meth c H locs 0 0 Q (F0 m pc ls [.int v])) : ∀ (H : Heap) (locs : List Loc) (ls : Array Slot), wg LX G S s H locs → lv_has ls 1 [(0, .ref (ad G 44))] → W p l e R s m args below meth c H locs 0 0 Q (F0 m 0 ls []) := by
  have hx := hC.1
  have hb := hC.2.1
  intro H locs ls hW hl
  unfold fX44_howManyOrders at h
  refine lv_aload_n hx hb dX3_howManyOrders_0 rfl (lv_at hl 0 rfl) ?_
  refine gX44_3 hC hW dX3_howManyOrders_1 ?_
  cases h
  exact kr _ _ _ _ dX3_howManyOrders_4 hW
theorem ctX44_howManyOrders {S : St}   {v : Int32} (h : fX44_howManyOrders S = some v) : Met l yX3_howManyOrders (wm yX3_howManyOrders cX3_howManyOrders 1 (some .int)) (rmx 0 0) (pcm LX G S [.ref (ad G 44)]) (qcI LX G S v) 0 0 G.2.2.2 :=
  x_enter (own := RX3) rfl rfl (Nat.le_of_ble_eq_true rfl) (fun p e s m below meth c ls hC hr hk hW hl => wX44_howManyOrders hC (Nat.le_refl _) (Nat.le_refl _)  h (fun H locs ls pc hd hW => x_reti hC hr hk hW hd) _ _ _ hW hl)
def fX0_orders_L47 (N : Nat) (S : St) (x1 : Int32) (x3 : Int32) : Nat → Int32 → Option ((Int32 × St) ⊕ (Unit))
  | 0, _ => none
  | n + 1, x4 =>
    if x3 ≤ x4 then
      some (.inr ())
    else
      Option.bind (fX1_get S x1 x4) fun t14 =>
      if t14 = (-9) then
        fX0_orders_L47 N S x1 x3 n (x4 + 1)
      else
        if t14 < 0 then
          Option.bind (fX0_found S 3) fun t18 =>
          some (.inl (t18.1, t18.2))
        else
          if t14 ≤ 9999 then
            fX0_orders_L47 N S x1 x3 n (x4 + 1)
          else
            Option.bind (fX0_found S 3) fun t21 =>
            some (.inl (t21.1, t21.2))
set_option maxHeartbeats 4000000 in
set_option maxRecDepth 100000 in
theorem wX0_orders_L47 {N : Nat} {S : St} {x1 : Int32} {x3 : Int32} (hC : CallFix p m c cX9_orders 6 s args lw_g RX9) (hF : 10 ≤ R.frames) (hL : 244 ≤ R.locals)  {t : (Int32 × St) ⊕ (Unit)} (kr : ∀ r, t = .inl r → ∀ (H : Heap) (locs : List Loc) (ls : Array Slot) (pc : Nat), decode cX9_orders pc = .ok (.ireturn, 1) → wg LX G r.2 s H locs → W p l e R s m args below meth c H locs 0 0 Q (F0 m pc ls [.int r.1])) (kx : ∀ u, t = .inr u → ∀ (H : Heap) (locs : List Loc) (ls : Array Slot), wg LX G S s H locs → lv_has ls 6 [(0, .ref (ad G 0)), (1, .int x1)] → W p l e R s m args below meth c H locs 0 0 Q (F0 m 97 ls [])) : ∀ (n : Nat) (x4 : Int32), fX0_orders_L47 N S x1 x3 n x4 = some t → ∀ (H : Heap) (locs : List Loc) (ls : Array Slot), wg LX G S s H locs → lv_has ls 6 [(0, .ref (ad G 0)), (1, .int x1), (3, .int x3), (4, .int x4)] → W p l e R s m args below meth c H locs 0 0 Q (F0 m 47 ls []) := by
  have hx := hC.1
  have hb := hC.2.1
  intro n
  induction n with
  | zero =>
    intro _ h
    cases h
  | succ n ih =>
    intro x4 h H locs ls hW hl
    rw [fX0_orders_L47] at h
    refine lv_iload hx hb dX9_orders_47 (lv_at hl 3 rfl) ?_
    refine lv_iload_n hx hb dX9_orders_49 rfl (lv_at hl 2 rfl) ?_
    refine lv_icmp_ge (tgt := 97) hx hb dX9_orders_50 (by decide) (fun q13 => ?_) (fun q13 => ?_)
    · have h := it_p q13 h
      cases h
      exact kx _ rfl _ _ _ hW (lv_sub hl [0, 1] rfl)
    · have h := it_n q13 h
      refine lv_aload_n hx hb dX9_orders_53 rfl (lv_at hl 0 rfl) ?_
      refine gX0_0 hC hW dX9_orders_54 ?_
      refine lv_iload_n hx hb dX9_orders_57 rfl (lv_at hl 1 rfl) ?_
      refine lv_iload hx hb dX9_orders_58 (lv_at hl 3 rfl) ?_
      obtain ⟨t14, e15, h⟩ := bd h
      refine x_goi (x_rv (rest := []) hC hW (ctX1_get e15) (cwV_g hC.2.2.2.2 ml_X9_121 mi_X6_get md_X6_get ⟨(Nat.le_trans (Nat.le_of_ble_eq_true rfl) hF), (Nat.le_trans (Nat.le_of_ble_eq_true rfl) hL)⟩) (rcX1 hW) rfl hl.1 rfl (Nat.le_of_ble_eq_true rfl) dX9_orders_60) hW (fun H locs hW => ?_)
      refine lv_istore (lv' := [(5, .int t14), (0, .ref (ad G 0)), (1, .int x1), (3, .int x3), (4, .int x4)]) hx hb dX9_orders_63 hl (by decide) rfl (fun ls hl => ?_)
      refine lv_iload hx hb dX9_orders_65 (lv_at hl 0 rfl) ?_
      refine lv_bipush (v := (-9)) hx hb dX9_orders_67 (by decide) ?_
      refine lv_icmp_eq (tgt := 91) hx hb dX9_orders_69 (by decide) (fun q16 => ?_) (fun q16 => ?_)
      · have h := it_p q16 h
        refine lv_iinc (v := x4 + 1) (lv' := [(4, .int (x4 + 1)), (5, .int t14), (0, .ref (ad G 0)), (1, .int x1), (3, .int x3)]) (k := 4) hx hb dX9_orders_91 hl rfl rfl (by decide) rfl (fun ls hl => ?_)
        refine lv_goto (tgt := 47) hx hb dX9_orders_94 (by decide) ?_
        exact ih _ h _ _ _ hW (lv_sub hl [2, 3, 4, 0] rfl)
      · have h := it_n q16 h
        refine lv_iload hx hb dX9_orders_72 (lv_at hl 0 rfl) ?_
        refine lv_if_lt (tgt := 85) hx hb dX9_orders_74 (by decide) (fun q17 => ?_) (fun q17 => ?_)
        · have h := it_p q17 h
          refine lv_aload_n hx hb dX9_orders_85 rfl (lv_at hl 1 rfl) ?_
          refine lv_iconst (v := 3) hx hb dX9_orders_86 (by decide) ?_
          obtain ⟨t18, e19, h⟩ := bd h
          refine x_goi (x_rv (rest := []) hC hW (ctX0_found e19) (cwV_g hC.2.2.2.2 ml_X9_109 mi_X9_found md_X9_found ⟨(Nat.le_trans (Nat.le_of_ble_eq_true rfl) hF), (Nat.le_trans (Nat.le_of_ble_eq_true rfl) hL)⟩) (rcX0 hW) rfl hl.1 rfl (Nat.le_of_ble_eq_true rfl) dX9_orders_87) hW (fun H locs hW => ?_)
          cases h
          exact kr _ rfl _ _ _ _ dX9_orders_90 hW
        · have h := it_n q17 h
          refine lv_iload hx hb dX9_orders_77 (lv_at hl 0 rfl) ?_
          refine lv_sipush (v := 9999) hx hb dX9_orders_79 (by decide) ?_
          refine lv_icmp_le (tgt := 91) hx hb dX9_orders_82 (by decide) (fun q20 => ?_) (fun q20 => ?_)
          · have h := it_p q20 h
            refine lv_iinc (v := x4 + 1) (lv' := [(4, .int (x4 + 1)), (5, .int t14), (0, .ref (ad G 0)), (1, .int x1), (3, .int x3)]) (k := 4) hx hb dX9_orders_91 hl rfl rfl (by decide) rfl (fun ls hl => ?_)
            refine lv_goto (tgt := 47) hx hb dX9_orders_94 (by decide) ?_
            exact ih _ h _ _ _ hW (lv_sub hl [2, 3, 4, 0] rfl)
          · have h := it_n q20 h
            refine lv_aload_n hx hb dX9_orders_85 rfl (lv_at hl 1 rfl) ?_
            refine lv_iconst (v := 3) hx hb dX9_orders_86 (by decide) ?_
            obtain ⟨t21, e22, h⟩ := bd h
            refine x_goi (x_rv (rest := []) hC hW (ctX0_found e22) (cwV_g hC.2.2.2.2 ml_X9_109 mi_X9_found md_X9_found ⟨(Nat.le_trans (Nat.le_of_ble_eq_true rfl) hF), (Nat.le_trans (Nat.le_of_ble_eq_true rfl) hL)⟩) (rcX0 hW) rfl hl.1 rfl (Nat.le_of_ble_eq_true rfl) dX9_orders_87) hW (fun H locs hW => ?_)
            cases h
            exact kr _ rfl _ _ _ _ dX9_orders_90 hW
def fX0_orders (N : Nat) (S : St) (x1 : Int32) : Option (Int32 × St) :=
  Option.bind (fX0_refuseRow S x1) fun t1 =>
  if t1.1 = 0 then
    Option.bind (fX1_sizeOf t1.2 x1) fun t4 =>
    if t4 < 2 then
      Option.bind (fX0_found t1.2 5) fun t7 =>
      some (t7.1, t7.2)
    else
      if 12 < t4 then
        Option.bind (fX0_found t1.2 5) fun t10 =>
        some (t10.1, t10.2)
      else
        if (t4 - t4 / 2 * 2) = 0 then
          Option.bind (fX0_orders_L47 N t1.2 x1 t4 N 0) fun t23 => sm t23 fun u25 =>
          Option.bind (fX44_arrange N t1.2 x1) fun t26 =>
          Option.bind (fX44_firstOrder t26) fun t28 =>
          nx (p1 t26 0 12 t28) fun s30 =>
          Option.bind (fX44_howManyOrders s30) fun t32 =>
          some (t32, s30)
        else
          Option.bind (fX0_found t1.2 5) fun t34 =>
          some (t34.1, t34.2)
  else
    some (t1.1, t1.2)
set_option maxHeartbeats 4000000 in
set_option maxRecDepth 100000 in
theorem wX0_orders {N : Nat} {S : St} {x1 : Int32} (hC : CallFix p m c cX9_orders 6 s args lw_g RX9) (hF : 10 ≤ R.frames) (hL : 244 ≤ R.locals)  {v : Int32} {S' : St} (h : fX0_orders N S x1 = some (v, S')) (kr : ∀ (H : Heap) (locs : List Loc) (ls : Array Slot) (pc : Nat), decode cX9_orders pc = .ok (.ireturn, 1) → wg LX G (S') s H locs → W p l e R s m args below meth c H locs 0 0 Q (F0 m pc ls [.int v])) : ∀ (H : Heap) (locs : List Loc) (ls : Array Slot), wg LX G S s H locs → lv_has ls 6 [(0, .ref (ad G 0)), (1, .int x1)] → W p l e R s m args below meth c H locs 0 0 Q (F0 m 0 ls []) := by
  have hx := hC.1
  have hb := hC.2.1
  intro H locs ls hW hl
  unfold fX0_orders at h
  refine lv_aload_n hx hb dX9_orders_0 rfl (lv_at hl 0 rfl) ?_
  refine lv_iload_n hx hb dX9_orders_1 rfl (lv_at hl 1 rfl) ?_
  obtain ⟨t1, e2, h⟩ := bd h
  refine x_goi (x_rv (rest := []) hC hW (ctX0_refuseRow e2) (cwV_g hC.2.2.2.2 ml_X9_127 mi_X9_refuseRow md_X9_refuseRow ⟨(Nat.le_trans (Nat.le_of_ble_eq_true rfl) hF), (Nat.le_trans (Nat.le_of_ble_eq_true rfl) hL)⟩) (rcX0 hW) rfl hl.1 rfl (Nat.le_of_ble_eq_true rfl) dX9_orders_2) hW (fun H locs hW => ?_)
  refine lv_istore_n (lv' := [(2, .int t1.1), (0, .ref (ad G 0)), (1, .int x1)]) hx hb dX9_orders_5 rfl hl (by decide) rfl (fun ls hl => ?_)
  refine lv_iload_n hx hb dX9_orders_6 rfl (lv_at hl 0 rfl) ?_
  refine lv_if_eq (tgt := 12) hx hb dX9_orders_7 (by decide) (fun q3 => ?_) (fun q3 => ?_)
  · have h := it_p q3 h
    refine lv_aload_n hx hb dX9_orders_12 rfl (lv_at hl 1 rfl) ?_
    refine gX0_0 hC hW dX9_orders_13 ?_
    refine lv_iload_n hx hb dX9_orders_16 rfl (lv_at hl 2 rfl) ?_
    obtain ⟨t4, e5, h⟩ := bd h
    refine x_goi (x_rv (rest := []) hC hW (ctX1_sizeOf e5) (cwV_g hC.2.2.2.2 ml_X9_145 mi_X6_sizeOf md_X6_sizeOf ⟨(Nat.le_trans (Nat.le_of_ble_eq_true rfl) hF), (Nat.le_trans (Nat.le_of_ble_eq_true rfl) hL)⟩) (rcX1 hW) rfl hl.1 rfl (Nat.le_of_ble_eq_true rfl) dX9_orders_17) hW (fun H locs hW => ?_)
    refine lv_istore_n (lv' := [(3, .int t4), (2, .int t1.1), (0, .ref (ad G 0)), (1, .int x1)]) hx hb dX9_orders_20 rfl hl (by decide) rfl (fun ls hl => ?_)
    refine lv_iload_n hx hb dX9_orders_21 rfl (lv_at hl 0 rfl) ?_
    refine lv_iconst (v := 2) hx hb dX9_orders_22 (by decide) ?_
    refine lv_icmp_lt (tgt := 38) hx hb dX9_orders_23 (by decide) (fun q6 => ?_) (fun q6 => ?_)
    · have h := it_p q6 h
      refine lv_aload_n hx hb dX9_orders_38 rfl (lv_at hl 2 rfl) ?_
      refine lv_iconst (v := 5) hx hb dX9_orders_39 (by decide) ?_
      obtain ⟨t7, e8, h⟩ := bd h
      refine x_goi (x_rv (rest := []) hC hW (ctX0_found e8) (cwV_g hC.2.2.2.2 ml_X9_109 mi_X9_found md_X9_found ⟨(Nat.le_trans (Nat.le_of_ble_eq_true rfl) hF), (Nat.le_trans (Nat.le_of_ble_eq_true rfl) hL)⟩) (rcX0 hW) rfl hl.1 rfl (Nat.le_of_ble_eq_true rfl) dX9_orders_40) hW (fun H locs hW => ?_)
      cases h
      exact kr _ _ _ _ dX9_orders_43 hW
    · have h := it_n q6 h
      refine lv_iload_n hx hb dX9_orders_26 rfl (lv_at hl 0 rfl) ?_
      refine lv_bipush (v := 12) hx hb dX9_orders_27 (by decide) ?_
      refine lv_icmp_gt (tgt := 38) hx hb dX9_orders_29 (by decide) (fun q9 => ?_) (fun q9 => ?_)
      · have h := it_p q9 h
        refine lv_aload_n hx hb dX9_orders_38 rfl (lv_at hl 2 rfl) ?_
        refine lv_iconst (v := 5) hx hb dX9_orders_39 (by decide) ?_
        obtain ⟨t10, e11, h⟩ := bd h
        refine x_goi (x_rv (rest := []) hC hW (ctX0_found e11) (cwV_g hC.2.2.2.2 ml_X9_109 mi_X9_found md_X9_found ⟨(Nat.le_trans (Nat.le_of_ble_eq_true rfl) hF), (Nat.le_trans (Nat.le_of_ble_eq_true rfl) hL)⟩) (rcX0 hW) rfl hl.1 rfl (Nat.le_of_ble_eq_true rfl) dX9_orders_40) hW (fun H locs hW => ?_)
        cases h
        exact kr _ _ _ _ dX9_orders_43 hW
      · have h := it_n q9 h
        refine lv_iload_n hx hb dX9_orders_32 rfl (lv_at hl 0 rfl) ?_
        refine lv_iconst (v := 2) hx hb dX9_orders_33 (by decide) ?_
        refine lv_irem hx hb dX9_orders_34 (by decide) ?_
        refine lv_if_eq (tgt := 44) hx hb dX9_orders_35 (by decide) (fun q12 => ?_) (fun q12 => ?_)
        · have h := it_p q12 h
          refine lv_iconst (v := 0) hx hb dX9_orders_44 (by decide) ?_
          refine lv_istore (lv' := [(4, .int 0), (3, .int t4), (2, .int t1.1), (0, .ref (ad G 0)), (1, .int x1)]) hx hb dX9_orders_45 hl (by decide) rfl (fun ls hl => ?_)
          obtain ⟨t23, e24, h⟩ := bd h
          refine wX0_orders_L47 hC hF hL  (fun r er H locs ls pc hd hW => ?_) (fun u25 eu H locs ls hW hl => ?_) _ _ e24 _ _ _ hW (lv_sub hl [3, 4, 1, 0] rfl)
          · rw [er] at h
            have h := sm_l h
            cases h
            exact kr _ _ _ _ hd hW
          · rw [eu] at h
            have h := sm_r h
            refine lv_aload_n hx hb dX9_orders_97 rfl (lv_at hl 0 rfl) ?_
            refine gX0_8 hC hW dX9_orders_98 ?_
            refine lv_aload_n hx hb dX9_orders_101 rfl (lv_at hl 0 rfl) ?_
            refine gX0_0 hC hW dX9_orders_102 ?_
            refine lv_iload_n hx hb dX9_orders_105 rfl (lv_at hl 1 rfl) ?_
            obtain ⟨t26, e27, h⟩ := bd h
            refine x_gov (x_rv (rest := []) hC hW (ctX44_arrange e27) (cwV_g hC.2.2.2.2 ml_X9_305 mi_X3_arrange md_X3_arrange ⟨(Nat.le_trans (Nat.le_of_ble_eq_true rfl) hF), (Nat.le_trans (Nat.le_of_ble_eq_true rfl) hL)⟩) (rcX44 hW) rfl hl.1 rfl (Nat.le_of_ble_eq_true rfl) dX9_orders_106) hW (fun H locs hW => ?_)
            refine lv_aload_n hx hb dX9_orders_109 rfl (lv_at hl 0 rfl) ?_
            refine lv_aload_n hx hb dX9_orders_110 rfl (lv_at hl 0 rfl) ?_
            refine gX0_8 hC hW dX9_orders_111 ?_
            obtain ⟨t28, e29, h⟩ := bd h
            refine x_goi (x_rv (rest := [.ref (ad G 0)]) hC hW (ctX44_firstOrder e29) (cwV_g hC.2.2.2.2 ml_X9_308 mi_X3_firstOrder md_X3_firstOrder ⟨(Nat.le_trans (Nat.le_of_ble_eq_true rfl) hF), (Nat.le_trans (Nat.le_of_ble_eq_true rfl) hL)⟩) (rcX44 hW) rfl hl.1 rfl (Nat.le_of_ble_eq_true rfl) dX9_orders_114) hW (fun H locs hW => ?_)
            refine pX0_12 hC hW dX9_orders_117 (fun H locs hW => ?_)
            obtain ⟨s30, e31, h⟩ := nx_some h
            rw [← e31] at hW
            refine lv_aload_n hx hb dX9_orders_120 rfl (lv_at hl 0 rfl) ?_
            refine gX0_8 hC hW dX9_orders_121 ?_
            obtain ⟨t32, e33, h⟩ := bd h
            refine x_goi (x_rv (rest := []) hC hW (ctX44_howManyOrders e33) (cwV_g hC.2.2.2.2 ml_X9_311 mi_X3_howManyOrders md_X3_howManyOrders ⟨(Nat.le_trans (Nat.le_of_ble_eq_true rfl) hF), (Nat.le_trans (Nat.le_of_ble_eq_true rfl) hL)⟩) (rcX44 hW) rfl hl.1 rfl (Nat.le_of_ble_eq_true rfl) dX9_orders_124) hW (fun H locs hW => ?_)
            cases h
            exact kr _ _ _ _ dX9_orders_127 hW
        · have h := it_n q12 h
          refine lv_aload_n hx hb dX9_orders_38 rfl (lv_at hl 2 rfl) ?_
          refine lv_iconst (v := 5) hx hb dX9_orders_39 (by decide) ?_
          obtain ⟨t34, e35, h⟩ := bd h
          refine x_goi (x_rv (rest := []) hC hW (ctX0_found e35) (cwV_g hC.2.2.2.2 ml_X9_109 mi_X9_found md_X9_found ⟨(Nat.le_trans (Nat.le_of_ble_eq_true rfl) hF), (Nat.le_trans (Nat.le_of_ble_eq_true rfl) hL)⟩) (rcX0 hW) rfl hl.1 rfl (Nat.le_of_ble_eq_true rfl) dX9_orders_40) hW (fun H locs hW => ?_)
          cases h
          exact kr _ _ _ _ dX9_orders_43 hW
  · have h := it_n q3 h
    refine lv_iload_n hx hb dX9_orders_10 rfl (lv_at hl 0 rfl) ?_
    cases h
    exact kr _ _ _ _ dX9_orders_11 hW
theorem ctX0_orders {N : Nat} {S : St} {x1 : Int32}  {v : Int32} {S' : St} (h : fX0_orders N S x1 = some (v, S')) : Met l yX9_orders (wm yX9_orders cX9_orders 6 (some .int)) (rmx 10 244) (pcm LX G S [.ref (ad G 0), .int x1]) (qcI LX G S' v) 0 0 G.2.2.2 :=
  x_enter (own := RX9) rfl rfl (Nat.le_of_ble_eq_true rfl) (fun p e s m below meth c ls hC hr hk hW hl => wX0_orders hC (Nat.le_refl _) (Nat.le_refl _)  h (fun H locs ls pc hd hW => x_reti hC hr hk hW hd) _ _ _ hW hl)
def fX22_numberAt (S : St) (x1 : Int32) : Option (Int32) :=
  gd (inb x1 12) <|
  some (S.1 23 (Int32.toNatClampNeg x1))
set_option maxHeartbeats 4000000 in
set_option maxRecDepth 100000 in
theorem wX22_numberAt {S : St} {x1 : Int32} (hC : CallFix p m c cX1_numberAt 2 s args lw_g RX1) (hF : 0 ≤ R.frames) (hL : 0 ≤ R.locals)  {v : Int32} (h : fX22_numberAt S x1 = some v) (kr : ∀ (H : Heap) (locs : List Loc) (ls : Array Slot) (pc : Nat), decode cX1_numberAt pc = .ok (.ireturn, 1) → wg LX G S s H locs → W p l e R s m args below meth c H locs 0 0 Q (F0 m pc ls [.int v])) : ∀ (H : Heap) (locs : List Loc) (ls : Array Slot), wg LX G S s H locs → lv_has ls 2 [(0, .ref (ad G 22)), (1, .int x1)] → W p l e R s m args below meth c H locs 0 0 Q (F0 m 0 ls []) := by
  have hx := hC.1
  have hb := hC.2.1
  intro H locs ls hW hl
  unfold fX22_numberAt at h
  refine lv_aload_n hx hb dX1_numberAt_0 rfl (lv_at hl 0 rfl) ?_
  refine gX22_0 hC hW dX1_numberAt_1 ?_
  refine lv_iload_n hx hb dX1_numberAt_4 rfl (lv_at hl 1 rfl) ?_
  obtain ⟨g1, h⟩ := gd_some h
  refine x_iald hC hW aX23 g1 dX1_numberAt_5 ?_
  cases h
  exact kr _ _ _ _ dX1_numberAt_6 hW
theorem ctX22_numberAt {S : St} {x1 : Int32}  {v : Int32} (h : fX22_numberAt S x1 = some v) : Met l yX1_numberAt (wm yX1_numberAt cX1_numberAt 2 (some .int)) (rmx 0 0) (pcm LX G S [.ref (ad G 22), .int x1]) (qcI LX G S v) 0 0 G.2.2.2 :=
  x_enter (own := RX1) rfl rfl (Nat.le_of_ble_eq_true rfl) (fun p e s m below meth c ls hC hr hk hW hl => wX22_numberAt hC (Nat.le_refl _) (Nat.le_refl _)  h (fun H locs ls pc hd hW => x_reti hC hr hk hW hd) _ _ _ hW hl)
def fX47_findOpenPlaces_L50 (N : Nat) (x1 : Int32) : Nat → St → Int32 → Option (St)
  | 0, _, _ => none
  | n + 1, S, x2 =>
    Option.bind (fX22_howMany S) fun t16 =>
    if t16 ≤ x2 then
      some S
    else
      Option.bind (fX22_numberAt S x2) fun t19 =>
      Option.bind (fX33_isLeft S x1 t19) fun t21 =>
      Option.bind (α := St) (
        if t21 = 0 then
          some S
        else
          gd (inb (S.1 47 8) 12) <|
          gd (inb (S.1 47 8) 12) <|
          nx (p1 S 49 (Int32.toNatClampNeg (S.1 47 8)) ((S.1 49 (Int32.toNatClampNeg (S.1 47 8))) ||| (1 <<< (x2 &&& 31)))) fun s29 =>
          some s29
      ) fun t24 =>
      fX47_findOpenPlaces_L50 N x1 n t24 (x2 + 1)
set_option maxHeartbeats 4000000 in
set_option maxRecDepth 100000 in
theorem wX47_findOpenPlaces_L50 {N : Nat} {x1 : Int32} (hC : CallFix p m c cX4_findOpenPlaces 3 s args lw_g RX4) (hF : 1 ≤ R.frames) (hL : 22 ≤ R.locals)  {t : St} (kx : ∀ (H : Heap) (locs : List Loc) (ls : Array Slot), wg LX G t s H locs → lv_has ls 3 [(0, .ref (ad G 47)), (1, .int x1)] → W p l e R s m args below meth c H locs 0 0 Q (F0 m 101 ls [])) : ∀ (n : Nat) (S : St) (x2 : Int32), fX47_findOpenPlaces_L50 N x1 n S x2 = some t → ∀ (H : Heap) (locs : List Loc) (ls : Array Slot), wg LX G S s H locs → lv_has ls 3 [(0, .ref (ad G 47)), (1, .int x1), (2, .int x2)] → W p l e R s m args below meth c H locs 0 0 Q (F0 m 50 ls []) := by
  have hx := hC.1
  have hb := hC.2.1
  intro n
  induction n with
  | zero =>
    intro _ _ h
    cases h
  | succ n ih =>
    intro S x2 h H locs ls hW hl
    rw [fX47_findOpenPlaces_L50] at h
    refine lv_iload_n hx hb dX4_findOpenPlaces_50 rfl (lv_at hl 2 rfl) ?_
    refine lv_aload_n hx hb dX4_findOpenPlaces_51 rfl (lv_at hl 0 rfl) ?_
    refine gX47_1 hC hW dX4_findOpenPlaces_52 ?_
    obtain ⟨t16, e17, h⟩ := bd h
    refine x_goi (x_rv (rest := [.int x2]) hC hW (ctX22_howMany e17) (cwV_g hC.2.2.2.2 ml_X4_62 mi_X1_howMany md_X1_howMany ⟨(Nat.le_trans (Nat.le_of_ble_eq_true rfl) hF), (Nat.le_trans (Nat.le_of_ble_eq_true rfl) hL)⟩) (rcX22 hW) rfl hl.1 rfl (Nat.le_of_ble_eq_true rfl) dX4_findOpenPlaces_55) hW (fun H locs hW => ?_)
    refine lv_icmp_ge (tgt := 101) hx hb dX4_findOpenPlaces_58 (by decide) (fun q18 => ?_) (fun q18 => ?_)
    · have h := it_p q18 h
      cases h
      exact kx _ _ _ hW (lv_sub hl [0, 1] rfl)
    · have h := it_n q18 h
      refine lv_aload_n hx hb dX4_findOpenPlaces_61 rfl (lv_at hl 0 rfl) ?_
      refine gX47_2 hC hW dX4_findOpenPlaces_62 ?_
      refine lv_iload_n hx hb dX4_findOpenPlaces_65 rfl (lv_at hl 1 rfl) ?_
      refine lv_aload_n hx hb dX4_findOpenPlaces_66 rfl (lv_at hl 0 rfl) ?_
      refine gX47_1 hC hW dX4_findOpenPlaces_67 ?_
      refine lv_iload_n hx hb dX4_findOpenPlaces_70 rfl (lv_at hl 2 rfl) ?_
      obtain ⟨t19, e20, h⟩ := bd h
      refine x_goi (x_rv (rest := [.int x1, .ref (ad G 33)]) hC hW (ctX22_numberAt e20) (cwV_g hC.2.2.2.2 ml_X4_68 mi_X1_numberAt md_X1_numberAt ⟨(Nat.le_trans (Nat.le_of_ble_eq_true rfl) hF), (Nat.le_trans (Nat.le_of_ble_eq_true rfl) hL)⟩) (rcX22 hW) rfl hl.1 rfl (Nat.le_of_ble_eq_true rfl) dX4_findOpenPlaces_71) hW (fun H locs hW => ?_)
      obtain ⟨t21, e22, h⟩ := bd h
      refine x_goi (x_rv (rest := []) hC hW (ctX33_isLeft e22) (cwV_g hC.2.2.2.2 ml_X4_71 mi_X2_isLeft md_X2_isLeft ⟨(Nat.le_trans (Nat.le_of_ble_eq_true rfl) hF), (Nat.le_trans (Nat.le_of_ble_eq_true rfl) hL)⟩) (rcX33 hW) rfl hl.1 rfl (Nat.le_of_ble_eq_true rfl) dX4_findOpenPlaces_74) hW (fun H locs hW => ?_)
      obtain ⟨t24, e25, h⟩ := bd h
      have K23 : ∀ (H : Heap) (locs : List Loc) (ls : Array Slot), wg LX G t24 s H locs → lv_has ls 3 [(0, .ref (ad G 47)), (1, .int x1), (2, .int x2)] → W p l e R s m args below meth c H locs 0 0 Q (F0 m 95 ls []) := by
        intro H locs ls hW hl
        refine lv_iinc (v := x2 + 1) (lv' := [(2, .int (x2 + 1)), (0, .ref (ad G 47)), (1, .int x1)]) (k := 2) hx hb dX4_findOpenPlaces_95 hl rfl rfl (by decide) rfl (fun ls hl => ?_)
        refine lv_goto (tgt := 50) hx hb dX4_findOpenPlaces_98 (by decide) ?_
        exact ih _ _ h _ _ _ hW (lv_sub hl [1, 2, 0] rfl)
      clear h
      have h := e25
      clear e25
      refine lv_if_eq (tgt := 95) hx hb dX4_findOpenPlaces_77 (by decide) (fun q26 => ?_) (fun q26 => ?_)
      · have h := it_p q26 h
        cases h
        exact K23 _ _ _ hW (lv_sub hl [0, 1, 2] rfl)
      · have h := it_n q26 h
        refine lv_aload_n hx hb dX4_findOpenPlaces_80 rfl (lv_at hl 0 rfl) ?_
        refine gX47_4 hC hW dX4_findOpenPlaces_81 ?_
        refine lv_aload_n hx hb dX4_findOpenPlaces_84 rfl (lv_at hl 0 rfl) ?_
        refine gX47_8 hC hW dX4_findOpenPlaces_85 ?_
        refine lv_dup2_11 hx hb dX4_findOpenPlaces_88 rfl rfl ?_
        obtain ⟨g27, h⟩ := gd_some h
        refine x_iald hC hW aX49 g27 dX4_findOpenPlaces_89 ?_
        refine lv_iconst (v := 1) hx hb dX4_findOpenPlaces_90 (by decide) ?_
        refine lv_iload_n hx hb dX4_findOpenPlaces_91 rfl (lv_at hl 2 rfl) ?_
        refine lv_ishl hx hb dX4_findOpenPlaces_92 ?_
        refine lv_ior hx hb dX4_findOpenPlaces_93 ?_
        obtain ⟨g28, h⟩ := gd_some h
        refine x_iast hC hW aX49 g28 dX4_findOpenPlaces_94 (fun H locs hW => ?_)
        obtain ⟨s29, e30, h⟩ := nx_some h
        rw [← e30] at hW
        cases h
        exact K23 _ _ _ hW (lv_sub hl [0, 1, 2] rfl)
def fX47_findOpenPlaces_L7 (N : Nat)  : Nat → St → Int32 → Option (St)
  | 0, _, _ => none
  | n + 1, S, x1 =>
    if 12 ≤ x1 then
      some S
    else
      Option.bind (fX25_kindOf S x1) fun t4 =>
      Option.bind (α := St) (
        if t4 = 3 then
          gd (inb (S.1 47 8) 12) <|
          nx (p1 S 48 (Int32.toNatClampNeg (S.1 47 8)) x1) fun s11 =>
          gd (inb (s11.1 47 8) 12) <|
          nx (p1 s11 49 (Int32.toNatClampNeg (s11.1 47 8)) 0) fun s14 =>
          Option.bind (fX47_findOpenPlaces_L50 N x1 N s14 0) fun t31 =>
          nx (p1 t31 47 8 ((t31.1 47 8) + 1)) fun s33 =>
          some s33
        else
          some S
      ) fun t7 =>
      fX47_findOpenPlaces_L7 N n t7 (x1 + 1)
set_option maxHeartbeats 4000000 in
set_option maxRecDepth 100000 in
theorem wX47_findOpenPlaces_L7 {N : Nat}  (hC : CallFix p m c cX4_findOpenPlaces 3 s args lw_g RX4) (hF : 1 ≤ R.frames) (hL : 22 ≤ R.locals)  {t : St} (kx : ∀ (H : Heap) (locs : List Loc) (ls : Array Slot), wg LX G t s H locs → lv_has ls 3 [] → W p l e R s m args below meth c H locs 0 0 Q (F0 m 117 ls [])) : ∀ (n : Nat) (S : St) (x1 : Int32), fX47_findOpenPlaces_L7 N  n S x1 = some t → ∀ (H : Heap) (locs : List Loc) (ls : Array Slot), wg LX G S s H locs → lv_has ls 3 [(0, .ref (ad G 47)), (1, .int x1)] → W p l e R s m args below meth c H locs 0 0 Q (F0 m 7 ls []) := by
  have hx := hC.1
  have hb := hC.2.1
  intro n
  induction n with
  | zero =>
    intro _ _ h
    cases h
  | succ n ih =>
    intro S x1 h H locs ls hW hl
    rw [fX47_findOpenPlaces_L7] at h
    refine lv_iload_n hx hb dX4_findOpenPlaces_7 rfl (lv_at hl 1 rfl) ?_
    refine lv_bipush (v := 12) hx hb dX4_findOpenPlaces_8 (by decide) ?_
    refine lv_icmp_ge (tgt := 117) hx hb dX4_findOpenPlaces_10 (by decide) (fun q3 => ?_) (fun q3 => ?_)
    · have h := it_p q3 h
      cases h
      exact kx _ _ _ hW (lv_sub hl [] rfl)
    · have h := it_n q3 h
      refine lv_aload_n hx hb dX4_findOpenPlaces_13 rfl (lv_at hl 0 rfl) ?_
      refine gX47_0 hC hW dX4_findOpenPlaces_14 ?_
      refine lv_iload_n hx hb dX4_findOpenPlaces_17 rfl (lv_at hl 1 rfl) ?_
      obtain ⟨t4, e5, h⟩ := bd h
      refine x_goi (x_rv (rest := []) hC hW (ctX25_kindOf e5) (cwV_g hC.2.2.2.2 ml_X4_57 mi_X0_kindOf md_X0_kindOf ⟨(Nat.le_trans (Nat.le_of_ble_eq_true rfl) hF), (Nat.le_trans (Nat.le_of_ble_eq_true rfl) hL)⟩) (rcX25 hW) rfl hl.1 rfl (Nat.le_of_ble_eq_true rfl) dX4_findOpenPlaces_18) hW (fun H locs hW => ?_)
      refine lv_iconst (v := 3) hx hb dX4_findOpenPlaces_21 (by decide) ?_
      obtain ⟨t7, e8, h⟩ := bd h
      have K6 : ∀ (H : Heap) (locs : List Loc) (ls : Array Slot), wg LX G t7 s H locs → lv_has ls 3 [(0, .ref (ad G 47)), (1, .int x1)] → W p l e R s m args below meth c H locs 0 0 Q (F0 m 111 ls []) := by
        intro H locs ls hW hl
        refine lv_iinc (v := x1 + 1) (lv' := [(1, .int (x1 + 1)), (0, .ref (ad G 47))]) (k := 1) hx hb dX4_findOpenPlaces_111 hl rfl rfl (by decide) rfl (fun ls hl => ?_)
        refine lv_goto (tgt := 7) hx hb dX4_findOpenPlaces_114 (by decide) ?_
        exact ih _ _ h _ _ _ hW (lv_sub hl [1, 0] rfl)
      clear h
      have h := e8
      clear e8
      refine lv_icmp_eq (tgt := 28) hx hb dX4_findOpenPlaces_22 (by decide) (fun q9 => ?_) (fun q9 => ?_)
      · have h := it_p q9 h
        refine lv_aload_n hx hb dX4_findOpenPlaces_28 rfl (lv_at hl 0 rfl) ?_
        refine gX47_3 hC hW dX4_findOpenPlaces_29 ?_
        refine lv_aload_n hx hb dX4_findOpenPlaces_32 rfl (lv_at hl 0 rfl) ?_
        refine gX47_8 hC hW dX4_findOpenPlaces_33 ?_
        refine lv_iload_n hx hb dX4_findOpenPlaces_36 rfl (lv_at hl 1 rfl) ?_
        obtain ⟨g10, h⟩ := gd_some h
        refine x_iast hC hW aX48 g10 dX4_findOpenPlaces_37 (fun H locs hW => ?_)
        obtain ⟨s11, e12, h⟩ := nx_some h
        rw [← e12] at hW
        refine lv_aload_n hx hb dX4_findOpenPlaces_38 rfl (lv_at hl 0 rfl) ?_
        refine gX47_4 hC hW dX4_findOpenPlaces_39 ?_
        refine lv_aload_n hx hb dX4_findOpenPlaces_42 rfl (lv_at hl 0 rfl) ?_
        refine gX47_8 hC hW dX4_findOpenPlaces_43 ?_
        refine lv_iconst (v := 0) hx hb dX4_findOpenPlaces_46 (by decide) ?_
        obtain ⟨g13, h⟩ := gd_some h
        refine x_iast hC hW aX49 g13 dX4_findOpenPlaces_47 (fun H locs hW => ?_)
        obtain ⟨s14, e15, h⟩ := nx_some h
        rw [← e15] at hW
        refine lv_iconst (v := 0) hx hb dX4_findOpenPlaces_48 (by decide) ?_
        refine lv_istore_n (lv' := [(2, .int 0), (0, .ref (ad G 47)), (1, .int x1)]) hx hb dX4_findOpenPlaces_49 rfl hl (by decide) rfl (fun ls hl => ?_)
        obtain ⟨t31, e32, h⟩ := bd h
        refine wX47_findOpenPlaces_L50 hC hF hL  (fun H locs ls hW hl => ?_) _ _ _ e32 _ _ _ hW (lv_sub hl [1, 2, 0] rfl)
        refine lv_aload_n hx hb dX4_findOpenPlaces_101 rfl (lv_at hl 0 rfl) ?_
        refine lv_dup hx hb dX4_findOpenPlaces_102 rfl ?_
        refine gX47_8 hC hW dX4_findOpenPlaces_103 ?_
        refine lv_iconst (v := 1) hx hb dX4_findOpenPlaces_106 (by decide) ?_
        refine lv_iadd hx hb dX4_findOpenPlaces_107 ?_
        refine pX47_8 hC hW dX4_findOpenPlaces_108 (fun H locs hW => ?_)
        obtain ⟨s33, e34, h⟩ := nx_some h
        rw [← e34] at hW
        cases h
        exact K6 _ _ _ hW (lv_sub hl [0, 1] rfl)
      · have h := it_n q9 h
        refine lv_goto (tgt := 111) hx hb dX4_findOpenPlaces_25 (by decide) ?_
        cases h
        exact K6 _ _ _ hW (lv_sub hl [0, 1] rfl)
def fX47_findOpenPlaces (N : Nat) (S : St)  : Option (St) :=
  nx (p1 S 47 8 0) fun s1 =>
  Option.bind (fX47_findOpenPlaces_L7 N N s1 0) fun t35 =>
  some t35
set_option maxHeartbeats 4000000 in
set_option maxRecDepth 100000 in
theorem wX47_findOpenPlaces {N : Nat} {S : St}  (hC : CallFix p m c cX4_findOpenPlaces 3 s args lw_g RX4) (hF : 1 ≤ R.frames) (hL : 22 ≤ R.locals)  {S' : St} (h : fX47_findOpenPlaces N S = some (S')) (kr : ∀ (H : Heap) (locs : List Loc) (ls : Array Slot) (pc : Nat), decode cX4_findOpenPlaces pc = .ok (.return_, 1) → wg LX G (S') s H locs → W p l e R s m args below meth c H locs 0 0 Q (F0 m pc ls [])) : ∀ (H : Heap) (locs : List Loc) (ls : Array Slot), wg LX G S s H locs → lv_has ls 3 [(0, .ref (ad G 47))] → W p l e R s m args below meth c H locs 0 0 Q (F0 m 0 ls []) := by
  have hx := hC.1
  have hb := hC.2.1
  intro H locs ls hW hl
  unfold fX47_findOpenPlaces at h
  refine lv_aload_n hx hb dX4_findOpenPlaces_0 rfl (lv_at hl 0 rfl) ?_
  refine lv_iconst (v := 0) hx hb dX4_findOpenPlaces_1 (by decide) ?_
  refine pX47_8 hC hW dX4_findOpenPlaces_2 (fun H locs hW => ?_)
  obtain ⟨s1, e2, h⟩ := nx_some h
  rw [← e2] at hW
  refine lv_iconst (v := 0) hx hb dX4_findOpenPlaces_5 (by decide) ?_
  refine lv_istore_n (lv' := [(1, .int 0), (0, .ref (ad G 47))]) hx hb dX4_findOpenPlaces_6 rfl hl (by decide) rfl (fun ls hl => ?_)
  obtain ⟨t35, e36, h⟩ := bd h
  refine wX47_findOpenPlaces_L7 hC hF hL  (fun H locs ls hW hl => ?_) _ _ _ e36 _ _ _ hW (lv_sub hl [1, 0] rfl)
  cases h
  exact kr _ _ _ _ dX4_findOpenPlaces_117 hW
theorem ctX47_findOpenPlaces {N : Nat} {S : St}   {S' : St} (h : fX47_findOpenPlaces N S = some (S')) : Met l yX4_findOpenPlaces (wm yX4_findOpenPlaces cX4_findOpenPlaces 3 none) (rmx 1 22) (pcm LX G S [.ref (ad G 47)]) (qcV LX G S') 0 0 G.2.2.2 :=
  x_enter (own := RX4) rfl rfl (Nat.le_of_ble_eq_true rfl) (fun p e s m below meth c ls hC hr hk hW hl => wX47_findOpenPlaces hC (Nat.le_refl _) (Nat.le_refl _)  h (fun H locs ls pc hd hW => x_retv hC hr hk hW hd) _ _ _ hW hl)
def fX47_sets (S : St)  : Option (Int32) :=
  Option.bind (fX22_howMany S) fun t1 =>
  some (1 <<< (t1 &&& 31))
set_option maxHeartbeats 4000000 in
set_option maxRecDepth 100000 in
theorem wX47_sets {S : St}  (hC : CallFix p m c cX4_sets 1 s args lw_g RX4) (hF : 1 ≤ R.frames) (hL : 20 ≤ R.locals)  {v : Int32} (h : fX47_sets S = some v) (kr : ∀ (H : Heap) (locs : List Loc) (ls : Array Slot) (pc : Nat), decode cX4_sets pc = .ok (.ireturn, 1) → wg LX G S s H locs → W p l e R s m args below meth c H locs 0 0 Q (F0 m pc ls [.int v])) : ∀ (H : Heap) (locs : List Loc) (ls : Array Slot), wg LX G S s H locs → lv_has ls 1 [(0, .ref (ad G 47))] → W p l e R s m args below meth c H locs 0 0 Q (F0 m 0 ls []) := by
  have hx := hC.1
  have hb := hC.2.1
  intro H locs ls hW hl
  unfold fX47_sets at h
  refine lv_iconst (v := 1) hx hb dX4_sets_0 (by decide) ?_
  refine lv_aload_n hx hb dX4_sets_1 rfl (lv_at hl 0 rfl) ?_
  refine gX47_1 hC hW dX4_sets_2 ?_
  obtain ⟨t1, e2, h⟩ := bd h
  refine x_goi (x_rv (rest := [.int 1]) hC hW (ctX22_howMany e2) (cwV_g hC.2.2.2.2 ml_X4_62 mi_X1_howMany md_X1_howMany ⟨(Nat.le_trans (Nat.le_of_ble_eq_true rfl) hF), (Nat.le_trans (Nat.le_of_ble_eq_true rfl) hL)⟩) (rcX22 hW) rfl hl.1 rfl (Nat.le_of_ble_eq_true rfl) dX4_sets_5) hW (fun H locs hW => ?_)
  refine lv_ishl hx hb dX4_sets_8 ?_
  cases h
  exact kr _ _ _ _ dX4_sets_9 hW
theorem ctX47_sets {S : St}   {v : Int32} (h : fX47_sets S = some v) : Met l yX4_sets (wm yX4_sets cX4_sets 1 (some .int)) (rmx 1 20) (pcm LX G S [.ref (ad G 47)]) (qcI LX G S v) 0 0 G.2.2.2 :=
  x_enter (own := RX4) rfl rfl (Nat.le_of_ble_eq_true rfl) (fun p e s m below meth c ls hC hr hk hW hl => wX47_sets hC (Nat.le_refl _) (Nat.le_refl _)  h (fun H locs ls pc hd hW => x_reti hC hr hk hW hd) _ _ _ hW hl)
def fX47_openBehind (S : St) (x1 : Int32) : Option (Int32) :=
  Option.bind (fJs_bitCount S x1) fun t1 =>
  Option.bind (α := Int32) (
    if (S.1 47 8) ≤ t1 then
      some 0
    else
      gd (inb t1 12) <|
      some ((S.1 49 (Int32.toNatClampNeg t1)) &&& (x1 ^^^ (-1)))
  ) fun t4 =>
  some t4
set_option maxHeartbeats 4000000 in
set_option maxRecDepth 100000 in
theorem wX47_openBehind {S : St} {x1 : Int32} (hC : CallFix p m c cX4_openBehind 3 s args lw_g RX4) (hF : 1 ≤ R.frames) (hL : 20 ≤ R.locals)  {v : Int32} (h : fX47_openBehind S x1 = some v) (kr : ∀ (H : Heap) (locs : List Loc) (ls : Array Slot) (pc : Nat), decode cX4_openBehind pc = .ok (.ireturn, 1) → wg LX G S s H locs → W p l e R s m args below meth c H locs 0 0 Q (F0 m pc ls [.int v])) : ∀ (H : Heap) (locs : List Loc) (ls : Array Slot), wg LX G S s H locs → lv_has ls 3 [(0, .ref (ad G 47)), (1, .int x1)] → W p l e R s m args below meth c H locs 0 0 Q (F0 m 0 ls []) := by
  have hx := hC.1
  have hb := hC.2.1
  intro H locs ls hW hl
  unfold fX47_openBehind at h
  refine lv_iload_n hx hb dX4_openBehind_0 rfl (lv_at hl 1 rfl) ?_
  obtain ⟨t1, e2, h⟩ := bd h
  refine x_goi (x_rs (rest := []) hC hW (ctJs_bitCount e2) (cwS_g hC.2.2.2.2 ml_X4_77 ms_J6_bitCount_0f7a4 md_J6_bitCount_0f7a4 ⟨(Nat.le_trans (Nat.le_of_ble_eq_true rfl) hF), (Nat.le_trans (Nat.le_of_ble_eq_true rfl) hL)⟩) rfl hl.1 rfl (Nat.le_of_ble_eq_true rfl) dX4_openBehind_1) hW (fun H locs hW => ?_)
  refine lv_istore_n (lv' := [(2, .int t1), (0, .ref (ad G 47)), (1, .int x1)]) hx hb dX4_openBehind_4 rfl hl (by decide) rfl (fun ls hl => ?_)
  refine lv_iload_n hx hb dX4_openBehind_5 rfl (lv_at hl 0 rfl) ?_
  refine lv_aload_n hx hb dX4_openBehind_6 rfl (lv_at hl 1 rfl) ?_
  refine gX47_8 hC hW dX4_openBehind_7 ?_
  obtain ⟨t4, e5, h⟩ := bd h
  have K3 : ∀ (H : Heap) (locs : List Loc) (ls : Array Slot), wg LX G S s H locs → lv_has ls 3 [] → W p l e R s m args below meth c H locs 0 0 Q (F0 m 27 ls [.int t4]) := by
    intro H locs ls hW hl
    cases h
    exact kr _ _ _ _ dX4_openBehind_27 hW
  clear h
  have h := e5
  clear e5
  refine lv_icmp_ge (tgt := 26) hx hb dX4_openBehind_10 (by decide) (fun q6 => ?_) (fun q6 => ?_)
  · have h := it_p q6 h
    refine lv_iconst (v := 0) hx hb dX4_openBehind_26 (by decide) ?_
    cases h
    exact K3 _ _ _ hW (lv_sub hl [] rfl)
  · have h := it_n q6 h
    refine lv_aload_n hx hb dX4_openBehind_13 rfl (lv_at hl 1 rfl) ?_
    refine gX47_4 hC hW dX4_openBehind_14 ?_
    refine lv_iload_n hx hb dX4_openBehind_17 rfl (lv_at hl 0 rfl) ?_
    obtain ⟨g7, h⟩ := gd_some h
    refine x_iald hC hW aX49 g7 dX4_openBehind_18 ?_
    refine lv_iload_n hx hb dX4_openBehind_19 rfl (lv_at hl 2 rfl) ?_
    refine lv_iconst (v := (-1)) hx hb dX4_openBehind_20 (by decide) ?_
    refine lv_ixor hx hb dX4_openBehind_21 ?_
    refine lv_iand hx hb dX4_openBehind_22 ?_
    refine lv_goto (tgt := 27) hx hb dX4_openBehind_23 (by decide) ?_
    cases h
    exact K3 _ _ _ hW (lv_sub hl [] rfl)
theorem ctX47_openBehind {S : St} {x1 : Int32}  {v : Int32} (h : fX47_openBehind S x1 = some v) : Met l yX4_openBehind (wm yX4_openBehind cX4_openBehind 3 (some .int)) (rmx 1 20) (pcm LX G S [.ref (ad G 47), .int x1]) (qcI LX G S v) 0 0 G.2.2.2 :=
  x_enter (own := RX4) rfl rfl (Nat.le_of_ble_eq_true rfl) (fun p e s m below meth c ls hC hr hk hW hl => wX47_openBehind hC (Nat.le_refl _) (Nat.le_refl _)  h (fun H locs ls pc hd hW => x_reti hC hr hk hW hd) _ _ _ hW hl)
def fX47_findReached_L2 (N : Nat)  : Nat → St → Int32 → Option (St)
  | 0, _, _ => none
  | n + 1, S, x1 =>
    Option.bind (fX47_sets S) fun t1 =>
    if t1 ≤ x1 then
      some S
    else
      Option.bind (α := Int32) (
        if x1 = 0 then
          some 1
        else
          some 0
      ) fun t5 =>
      gd (inb x1 4096) <|
      gd (isb t5) <|
      nx (p1 S 51 (Int32.toNatClampNeg x1) t5) fun s10 =>
      fX47_findReached_L2 N n s10 (x1 + 1)
set_option maxHeartbeats 4000000 in
set_option maxRecDepth 100000 in
theorem wX47_findReached_L2 {N : Nat}  (hC : CallFix p m c cX4_findReached 4 s args lw_g RX4) (hF : 2 ≤ R.frames) (hL : 42 ≤ R.locals)  {t : St} (kx : ∀ (H : Heap) (locs : List Loc) (ls : Array Slot), wg LX G t s H locs → lv_has ls 4 [(0, .ref (ad G 47))] → W p l e R s m args below meth c H locs 0 0 Q (F0 m 31 ls [])) : ∀ (n : Nat) (S : St) (x1 : Int32), fX47_findReached_L2 N  n S x1 = some t → ∀ (H : Heap) (locs : List Loc) (ls : Array Slot), wg LX G S s H locs → lv_has ls 4 [(0, .ref (ad G 47)), (1, .int x1)] → W p l e R s m args below meth c H locs 0 0 Q (F0 m 2 ls []) := by
  have hx := hC.1
  have hb := hC.2.1
  intro n
  induction n with
  | zero =>
    intro _ _ h
    cases h
  | succ n ih =>
    intro S x1 h H locs ls hW hl
    rw [fX47_findReached_L2] at h
    refine lv_iload_n hx hb dX4_findReached_2 rfl (lv_at hl 1 rfl) ?_
    refine lv_aload_n hx hb dX4_findReached_3 rfl (lv_at hl 0 rfl) ?_
    obtain ⟨t1, e2, h⟩ := bd h
    refine x_goi (x_rv (rest := [.int x1]) hC hW (ctX47_sets e2) (cwV_g hC.2.2.2.2 ml_X4_82 mi_X4_sets md_X4_sets ⟨(Nat.le_trans (Nat.le_of_ble_eq_true rfl) hF), (Nat.le_trans (Nat.le_of_ble_eq_true rfl) hL)⟩) (rcX47 hW) rfl hl.1 rfl (Nat.le_of_ble_eq_true rfl) dX4_findReached_4) hW (fun H locs hW => ?_)
    refine lv_icmp_ge (tgt := 31) hx hb dX4_findReached_7 (by decide) (fun q3 => ?_) (fun q3 => ?_)
    · have h := it_p q3 h
      cases h
      exact kx _ _ _ hW (lv_sub hl [0] rfl)
    · have h := it_n q3 h
      refine lv_aload_n hx hb dX4_findReached_10 rfl (lv_at hl 0 rfl) ?_
      refine gX47_6 hC hW dX4_findReached_11 ?_
      refine lv_iload_n hx hb dX4_findReached_14 rfl (lv_at hl 1 rfl) ?_
      refine lv_iload_n hx hb dX4_findReached_15 rfl (lv_at hl 1 rfl) ?_
      obtain ⟨t5, e6, h⟩ := bd h
      have K4 : ∀ (H : Heap) (locs : List Loc) (ls : Array Slot), wg LX G S s H locs → lv_has ls 4 [(0, .ref (ad G 47)), (1, .int x1)] → W p l e R s m args below meth c H locs 0 0 Q (F0 m 24 ls [.int t5, .int x1, .ref (ad G 51)]) := by
        intro H locs ls hW hl
        obtain ⟨g8, h⟩ := gd_some h
        obtain ⟨g9, h⟩ := gd_some h
        refine x_zast hC hW zX51 g8 g9 dX4_findReached_24 (fun H locs hW => ?_)
        obtain ⟨s10, e11, h⟩ := nx_some h
        rw [← e11] at hW
        refine lv_iinc (v := x1 + 1) (lv' := [(1, .int (x1 + 1)), (0, .ref (ad G 47))]) (k := 1) hx hb dX4_findReached_25 hl rfl rfl (by decide) rfl (fun ls hl => ?_)
        refine lv_goto (tgt := 2) hx hb dX4_findReached_28 (by decide) ?_
        exact ih _ _ h _ _ _ hW (lv_sub hl [1, 0] rfl)
      clear h
      have h := e6
      clear e6
      refine lv_if_ne (tgt := 23) hx hb dX4_findReached_16 (by decide) (fun q7 => ?_) (fun q7 => ?_)
      · have h := it_n q7 h
        refine lv_iconst (v := 0) hx hb dX4_findReached_23 (by decide) ?_
        cases h
        exact K4 _ _ _ hW (lv_sub hl [0, 1] rfl)
      · have h := it_p q7 h
        refine lv_iconst (v := 1) hx hb dX4_findReached_19 (by decide) ?_
        refine lv_goto (tgt := 24) hx hb dX4_findReached_20 (by decide) ?_
        cases h
        exact K4 _ _ _ hW (lv_sub hl [0, 1] rfl)
def fX47_findReached_L62 (N : Nat) (x1 : Int32) (x2 : Int32) : Nat → St → Int32 → Option (St)
  | 0, _, _ => none
  | n + 1, S, x3 =>
    if 12 ≤ x3 then
      some S
    else
      if (x2 >>> (x3 &&& 31)) = 0 then
        some S
      else
        Option.bind (α := St) (
          if ((x2 >>> (x3 &&& 31)) &&& 1) = 0 then
            some S
          else
            gd (inb (x1 ||| (1 <<< (x3 &&& 31))) 4096) <|
            nx (p1 S 51 (Int32.toNatClampNeg (x1 ||| (1 <<< (x3 &&& 31)))) 1) fun s31 =>
            some s31
        ) fun t27 =>
        fX47_findReached_L62 N x1 x2 n t27 (x3 + 1)
set_option maxHeartbeats 4000000 in
set_option maxRecDepth 100000 in
theorem wX47_findReached_L62 {N : Nat} {x1 : Int32} {x2 : Int32} (hC : CallFix p m c cX4_findReached 4 s args lw_g RX4) (hF : 2 ≤ R.frames) (hL : 42 ≤ R.locals)  {t : St} (kx : ∀ (H : Heap) (locs : List Loc) (ls : Array Slot), wg LX G t s H locs → lv_has ls 4 [(0, .ref (ad G 47)), (1, .int x1)] → W p l e R s m args below meth c H locs 0 0 Q (F0 m 99 ls [])) : ∀ (n : Nat) (S : St) (x3 : Int32), fX47_findReached_L62 N x1 x2 n S x3 = some t → ∀ (H : Heap) (locs : List Loc) (ls : Array Slot), wg LX G S s H locs → lv_has ls 4 [(0, .ref (ad G 47)), (1, .int x1), (2, .int x2), (3, .int x3)] → W p l e R s m args below meth c H locs 0 0 Q (F0 m 62 ls []) := by
  have hx := hC.1
  have hb := hC.2.1
  intro n
  induction n with
  | zero =>
    intro _ _ h
    cases h
  | succ n ih =>
    intro S x3 h H locs ls hW hl
    rw [fX47_findReached_L62] at h
    refine lv_iload_n hx hb dX4_findReached_62 rfl (lv_at hl 3 rfl) ?_
    refine lv_bipush (v := 12) hx hb dX4_findReached_63 (by decide) ?_
    refine lv_icmp_ge (tgt := 99) hx hb dX4_findReached_65 (by decide) (fun q24 => ?_) (fun q24 => ?_)
    · have h := it_p q24 h
      cases h
      exact kx _ _ _ hW (lv_sub hl [0, 1] rfl)
    · have h := it_n q24 h
      refine lv_iload_n hx hb dX4_findReached_68 rfl (lv_at hl 2 rfl) ?_
      refine lv_iload_n hx hb dX4_findReached_69 rfl (lv_at hl 3 rfl) ?_
      refine lv_ishr hx hb dX4_findReached_70 ?_
      refine lv_if_eq (tgt := 99) hx hb dX4_findReached_71 (by decide) (fun q25 => ?_) (fun q25 => ?_)
      · have h := it_p q25 h
        cases h
        exact kx _ _ _ hW (lv_sub hl [0, 1] rfl)
      · have h := it_n q25 h
        refine lv_iload_n hx hb dX4_findReached_74 rfl (lv_at hl 2 rfl) ?_
        refine lv_iload_n hx hb dX4_findReached_75 rfl (lv_at hl 3 rfl) ?_
        refine lv_ishr hx hb dX4_findReached_76 ?_
        refine lv_iconst (v := 1) hx hb dX4_findReached_77 (by decide) ?_
        refine lv_iand hx hb dX4_findReached_78 ?_
        obtain ⟨t27, e28, h⟩ := bd h
        have K26 : ∀ (H : Heap) (locs : List Loc) (ls : Array Slot), wg LX G t27 s H locs → lv_has ls 4 [(0, .ref (ad G 47)), (1, .int x1), (2, .int x2), (3, .int x3)] → W p l e R s m args below meth c H locs 0 0 Q (F0 m 93 ls []) := by
          intro H locs ls hW hl
          refine lv_iinc (v := x3 + 1) (lv' := [(3, .int (x3 + 1)), (0, .ref (ad G 47)), (1, .int x1), (2, .int x2)]) (k := 3) hx hb dX4_findReached_93 hl rfl rfl (by decide) rfl (fun ls hl => ?_)
          refine lv_goto (tgt := 62) hx hb dX4_findReached_96 (by decide) ?_
          exact ih _ _ h _ _ _ hW (lv_sub hl [1, 2, 3, 0] rfl)
        clear h
        have h := e28
        clear e28
        refine lv_if_eq (tgt := 93) hx hb dX4_findReached_79 (by decide) (fun q29 => ?_) (fun q29 => ?_)
        · have h := it_p q29 h
          cases h
          exact K26 _ _ _ hW (lv_sub hl [0, 1, 2, 3] rfl)
        · have h := it_n q29 h
          refine lv_aload_n hx hb dX4_findReached_82 rfl (lv_at hl 0 rfl) ?_
          refine gX47_6 hC hW dX4_findReached_83 ?_
          refine lv_iload_n hx hb dX4_findReached_86 rfl (lv_at hl 1 rfl) ?_
          refine lv_iconst (v := 1) hx hb dX4_findReached_87 (by decide) ?_
          refine lv_iload_n hx hb dX4_findReached_88 rfl (lv_at hl 3 rfl) ?_
          refine lv_ishl hx hb dX4_findReached_89 ?_
          refine lv_ior hx hb dX4_findReached_90 ?_
          refine lv_iconst (v := 1) hx hb dX4_findReached_91 (by decide) ?_
          obtain ⟨g30, h⟩ := gd_some h
          refine x_zast hC hW zX51 g30 rfl dX4_findReached_92 (fun H locs hW => ?_)
          obtain ⟨s31, e32, h⟩ := nx_some h
          rw [← e32] at hW
          cases h
          exact K26 _ _ _ hW (lv_sub hl [0, 1, 2, 3] rfl)
def fX47_findReached_L33 (N : Nat)  : Nat → St → Int32 → Option (St)
  | 0, _, _ => none
  | n + 1, S, x1 =>
    Option.bind (fX47_sets S) fun t14 =>
    if t14 ≤ x1 then
      some S
    else
      gd (inb x1 4096) <|
      Option.bind (α := Int32) (
        if (S.1 51 (Int32.toNatClampNeg x1)) = 0 then
          some 0
        else
          Option.bind (fX47_openBehind S x1) fun t22 =>
          some t22
      ) fun t19 =>
      Option.bind (fX47_findReached_L62 N x1 t19 N S 0) fun t33 =>
      fX47_findReached_L33 N n t33 (x1 + 1)
set_option maxHeartbeats 4000000 in
set_option maxRecDepth 100000 in
theorem wX47_findReached_L33 {N : Nat}  (hC : CallFix p m c cX4_findReached 4 s args lw_g RX4) (hF : 2 ≤ R.frames) (hL : 42 ≤ R.locals)  {t : St} (kx : ∀ (H : Heap) (locs : List Loc) (ls : Array Slot), wg LX G t s H locs → lv_has ls 4 [] → W p l e R s m args below meth c H locs 0 0 Q (F0 m 105 ls [])) : ∀ (n : Nat) (S : St) (x1 : Int32), fX47_findReached_L33 N  n S x1 = some t → ∀ (H : Heap) (locs : List Loc) (ls : Array Slot), wg LX G S s H locs → lv_has ls 4 [(0, .ref (ad G 47)), (1, .int x1)] → W p l e R s m args below meth c H locs 0 0 Q (F0 m 33 ls []) := by
  have hx := hC.1
  have hb := hC.2.1
  intro n
  induction n with
  | zero =>
    intro _ _ h
    cases h
  | succ n ih =>
    intro S x1 h H locs ls hW hl
    rw [fX47_findReached_L33] at h
    refine lv_iload_n hx hb dX4_findReached_33 rfl (lv_at hl 1 rfl) ?_
    refine lv_aload_n hx hb dX4_findReached_34 rfl (lv_at hl 0 rfl) ?_
    obtain ⟨t14, e15, h⟩ := bd h
    refine x_goi (x_rv (rest := [.int x1]) hC hW (ctX47_sets e15) (cwV_g hC.2.2.2.2 ml_X4_82 mi_X4_sets md_X4_sets ⟨(Nat.le_trans (Nat.le_of_ble_eq_true rfl) hF), (Nat.le_trans (Nat.le_of_ble_eq_true rfl) hL)⟩) (rcX47 hW) rfl hl.1 rfl (Nat.le_of_ble_eq_true rfl) dX4_findReached_35) hW (fun H locs hW => ?_)
    refine lv_icmp_ge (tgt := 105) hx hb dX4_findReached_38 (by decide) (fun q16 => ?_) (fun q16 => ?_)
    · have h := it_p q16 h
      cases h
      exact kx _ _ _ hW (lv_sub hl [] rfl)
    · have h := it_n q16 h
      refine lv_aload_n hx hb dX4_findReached_41 rfl (lv_at hl 0 rfl) ?_
      refine gX47_6 hC hW dX4_findReached_42 ?_
      refine lv_iload_n hx hb dX4_findReached_45 rfl (lv_at hl 1 rfl) ?_
      obtain ⟨g17, h⟩ := gd_some h
      refine x_zald hC hW zX51 g17 dX4_findReached_46 ?_
      obtain ⟨t19, e20, h⟩ := bd h
      have K18 : ∀ (H : Heap) (locs : List Loc) (ls : Array Slot), wg LX G S s H locs → lv_has ls 4 [(0, .ref (ad G 47)), (1, .int x1)] → W p l e R s m args below meth c H locs 0 0 Q (F0 m 59 ls [.int t19]) := by
        intro H locs ls hW hl
        refine lv_istore_n (lv' := [(2, .int t19), (0, .ref (ad G 47)), (1, .int x1)]) hx hb dX4_findReached_59 rfl hl (by decide) rfl (fun ls hl => ?_)
        refine lv_iconst (v := 0) hx hb dX4_findReached_60 (by decide) ?_
        refine lv_istore_n (lv' := [(3, .int 0), (2, .int t19), (0, .ref (ad G 47)), (1, .int x1)]) hx hb dX4_findReached_61 rfl hl (by decide) rfl (fun ls hl => ?_)
        obtain ⟨t33, e34, h⟩ := bd h
        refine wX47_findReached_L62 hC hF hL  (fun H locs ls hW hl => ?_) _ _ _ e34 _ _ _ hW (lv_sub hl [2, 3, 1, 0] rfl)
        refine lv_iinc (v := x1 + 1) (lv' := [(1, .int (x1 + 1)), (0, .ref (ad G 47))]) (k := 1) hx hb dX4_findReached_99 hl rfl rfl (by decide) rfl (fun ls hl => ?_)
        refine lv_goto (tgt := 33) hx hb dX4_findReached_102 (by decide) ?_
        exact ih _ _ h _ _ _ hW (lv_sub hl [1, 0] rfl)
      clear h
      have h := e20
      clear e20
      refine lv_if_eq (tgt := 58) hx hb dX4_findReached_47 (by decide) (fun q21 => ?_) (fun q21 => ?_)
      · have h := it_p q21 h
        refine lv_iconst (v := 0) hx hb dX4_findReached_58 (by decide) ?_
        cases h
        exact K18 _ _ _ hW (lv_sub hl [0, 1] rfl)
      · have h := it_n q21 h
        refine lv_aload_n hx hb dX4_findReached_50 rfl (lv_at hl 0 rfl) ?_
        refine lv_iload_n hx hb dX4_findReached_51 rfl (lv_at hl 1 rfl) ?_
        obtain ⟨t22, e23, h⟩ := bd h
        refine x_goi (x_rv (rest := []) hC hW (ctX47_openBehind e23) (cwV_g hC.2.2.2.2 ml_X4_85 mi_X4_openBehind md_X4_openBehind ⟨(Nat.le_trans (Nat.le_of_ble_eq_true rfl) hF), (Nat.le_trans (Nat.le_of_ble_eq_true rfl) hL)⟩) (rcX47 hW) rfl hl.1 rfl (Nat.le_of_ble_eq_true rfl) dX4_findReached_52) hW (fun H locs hW => ?_)
        refine lv_goto (tgt := 59) hx hb dX4_findReached_55 (by decide) ?_
        cases h
        exact K18 _ _ _ hW (lv_sub hl [0, 1] rfl)
def fX47_findReached (N : Nat) (S : St)  : Option (St) :=
  Option.bind (fX47_findReached_L2 N N S 0) fun t12 =>
  Option.bind (fX47_findReached_L33 N N t12 0) fun t35 =>
  some t35
set_option maxHeartbeats 4000000 in
set_option maxRecDepth 100000 in
theorem wX47_findReached {N : Nat} {S : St}  (hC : CallFix p m c cX4_findReached 4 s args lw_g RX4) (hF : 2 ≤ R.frames) (hL : 42 ≤ R.locals)  {S' : St} (h : fX47_findReached N S = some (S')) (kr : ∀ (H : Heap) (locs : List Loc) (ls : Array Slot) (pc : Nat), decode cX4_findReached pc = .ok (.return_, 1) → wg LX G (S') s H locs → W p l e R s m args below meth c H locs 0 0 Q (F0 m pc ls [])) : ∀ (H : Heap) (locs : List Loc) (ls : Array Slot), wg LX G S s H locs → lv_has ls 4 [(0, .ref (ad G 47))] → W p l e R s m args below meth c H locs 0 0 Q (F0 m 0 ls []) := by
  have hx := hC.1
  have hb := hC.2.1
  intro H locs ls hW hl
  unfold fX47_findReached at h
  refine lv_iconst (v := 0) hx hb dX4_findReached_0 (by decide) ?_
  refine lv_istore_n (lv' := [(1, .int 0), (0, .ref (ad G 47))]) hx hb dX4_findReached_1 rfl hl (by decide) rfl (fun ls hl => ?_)
  obtain ⟨t12, e13, h⟩ := bd h
  refine wX47_findReached_L2 hC hF hL  (fun H locs ls hW hl => ?_) _ _ _ e13 _ _ _ hW (lv_sub hl [1, 0] rfl)
  refine lv_iconst (v := 0) hx hb dX4_findReached_31 (by decide) ?_
  refine lv_istore_n (lv' := [(1, .int 0), (0, .ref (ad G 47))]) hx hb dX4_findReached_32 rfl hl (by decide) rfl (fun ls hl => ?_)
  obtain ⟨t35, e36, h⟩ := bd h
  refine wX47_findReached_L33 hC hF hL  (fun H locs ls hW hl => ?_) _ _ _ e36 _ _ _ hW (lv_sub hl [1, 0] rfl)
  cases h
  exact kr _ _ _ _ dX4_findReached_105 hW
theorem ctX47_findReached {N : Nat} {S : St}   {S' : St} (h : fX47_findReached N S = some (S')) : Met l yX4_findReached (wm yX4_findReached cX4_findReached 4 none) (rmx 2 42) (pcm LX G S [.ref (ad G 47)]) (qcV LX G S') 0 0 G.2.2.2 :=
  x_enter (own := RX4) rfl rfl (Nat.le_of_ble_eq_true rfl) (fun p e s m below meth c ls hC hr hk hW hl => wX47_findReached hC (Nat.le_refl _) (Nat.le_refl _)  h (fun H locs ls pc hd hW => x_retv hC hr hk hW hd) _ _ _ hW hl)
def fX47_countBehind_L41 (N : Nat) (x1 : Int32) (x2 : Int32) : Nat → St → Int32 → Option (St)
  | 0, _, _ => none
  | n + 1, S, x3 =>
    if 12 ≤ x3 then
      some S
    else
      if (x2 >>> (x3 &&& 31)) = 0 then
        some S
      else
        Option.bind (α := St) (
          if ((x2 >>> (x3 &&& 31)) &&& 1) = 0 then
            some S
          else
            gd (inb x1 4096) <|
            gd (inb (x1 ||| (1 <<< (x3 &&& 31))) 4096) <|
            gd (inb x1 4096) <|
            nx (p1 S 52 (Int32.toNatClampNeg x1) ((S.1 52 (Int32.toNatClampNeg x1)) + (S.1 52 (Int32.toNatClampNeg (x1 ||| (1 <<< (x3 &&& 31))))))) fun s24 =>
            some s24
        ) fun t18 =>
        fX47_countBehind_L41 N x1 x2 n t18 (x3 + 1)
set_option maxHeartbeats 4000000 in
set_option maxRecDepth 100000 in
theorem wX47_countBehind_L41 {N : Nat} {x1 : Int32} {x2 : Int32} (hC : CallFix p m c cX4_countBehind 4 s args lw_g RX4) (hF : 2 ≤ R.frames) (hL : 42 ≤ R.locals)  {t : St} (kx : ∀ (H : Heap) (locs : List Loc) (ls : Array Slot), wg LX G t s H locs → lv_has ls 4 [(0, .ref (ad G 47)), (1, .int x1)] → W p l e R s m args below meth c H locs 0 0 Q (F0 m 86 ls [])) : ∀ (n : Nat) (S : St) (x3 : Int32), fX47_countBehind_L41 N x1 x2 n S x3 = some t → ∀ (H : Heap) (locs : List Loc) (ls : Array Slot), wg LX G S s H locs → lv_has ls 4 [(0, .ref (ad G 47)), (1, .int x1), (2, .int x2), (3, .int x3)] → W p l e R s m args below meth c H locs 0 0 Q (F0 m 41 ls []) := by
  have hx := hC.1
  have hb := hC.2.1
  intro n
  induction n with
  | zero =>
    intro _ _ h
    cases h
  | succ n ih =>
    intro S x3 h H locs ls hW hl
    rw [fX47_countBehind_L41] at h
    refine lv_iload_n hx hb dX4_countBehind_41 rfl (lv_at hl 3 rfl) ?_
    refine lv_bipush (v := 12) hx hb dX4_countBehind_42 (by decide) ?_
    refine lv_icmp_ge (tgt := 86) hx hb dX4_countBehind_44 (by decide) (fun q15 => ?_) (fun q15 => ?_)
    · have h := it_p q15 h
      cases h
      exact kx _ _ _ hW (lv_sub hl [0, 1] rfl)
    · have h := it_n q15 h
      refine lv_iload_n hx hb dX4_countBehind_47 rfl (lv_at hl 2 rfl) ?_
      refine lv_iload_n hx hb dX4_countBehind_48 rfl (lv_at hl 3 rfl) ?_
      refine lv_ishr hx hb dX4_countBehind_49 ?_
      refine lv_if_eq (tgt := 86) hx hb dX4_countBehind_50 (by decide) (fun q16 => ?_) (fun q16 => ?_)
      · have h := it_p q16 h
        cases h
        exact kx _ _ _ hW (lv_sub hl [0, 1] rfl)
      · have h := it_n q16 h
        refine lv_iload_n hx hb dX4_countBehind_53 rfl (lv_at hl 2 rfl) ?_
        refine lv_iload_n hx hb dX4_countBehind_54 rfl (lv_at hl 3 rfl) ?_
        refine lv_ishr hx hb dX4_countBehind_55 ?_
        refine lv_iconst (v := 1) hx hb dX4_countBehind_56 (by decide) ?_
        refine lv_iand hx hb dX4_countBehind_57 ?_
        obtain ⟨t18, e19, h⟩ := bd h
        have K17 : ∀ (H : Heap) (locs : List Loc) (ls : Array Slot), wg LX G t18 s H locs → lv_has ls 4 [(0, .ref (ad G 47)), (1, .int x1), (2, .int x2), (3, .int x3)] → W p l e R s m args below meth c H locs 0 0 Q (F0 m 80 ls []) := by
          intro H locs ls hW hl
          refine lv_iinc (v := x3 + 1) (lv' := [(3, .int (x3 + 1)), (0, .ref (ad G 47)), (1, .int x1), (2, .int x2)]) (k := 3) hx hb dX4_countBehind_80 hl rfl rfl (by decide) rfl (fun ls hl => ?_)
          refine lv_goto (tgt := 41) hx hb dX4_countBehind_83 (by decide) ?_
          exact ih _ _ h _ _ _ hW (lv_sub hl [1, 2, 3, 0] rfl)
        clear h
        have h := e19
        clear e19
        refine lv_if_eq (tgt := 80) hx hb dX4_countBehind_58 (by decide) (fun q20 => ?_) (fun q20 => ?_)
        · have h := it_p q20 h
          cases h
          exact K17 _ _ _ hW (lv_sub hl [0, 1, 2, 3] rfl)
        · have h := it_n q20 h
          refine lv_aload_n hx hb dX4_countBehind_61 rfl (lv_at hl 0 rfl) ?_
          refine gX47_7 hC hW dX4_countBehind_62 ?_
          refine lv_iload_n hx hb dX4_countBehind_65 rfl (lv_at hl 1 rfl) ?_
          refine lv_dup2_11 hx hb dX4_countBehind_66 rfl rfl ?_
          obtain ⟨g21, h⟩ := gd_some h
          refine x_iald hC hW aX52 g21 dX4_countBehind_67 ?_
          refine lv_aload_n hx hb dX4_countBehind_68 rfl (lv_at hl 0 rfl) ?_
          refine gX47_7 hC hW dX4_countBehind_69 ?_
          refine lv_iload_n hx hb dX4_countBehind_72 rfl (lv_at hl 1 rfl) ?_
          refine lv_iconst (v := 1) hx hb dX4_countBehind_73 (by decide) ?_
          refine lv_iload_n hx hb dX4_countBehind_74 rfl (lv_at hl 3 rfl) ?_
          refine lv_ishl hx hb dX4_countBehind_75 ?_
          refine lv_ior hx hb dX4_countBehind_76 ?_
          obtain ⟨g22, h⟩ := gd_some h
          refine x_iald hC hW aX52 g22 dX4_countBehind_77 ?_
          refine lv_iadd hx hb dX4_countBehind_78 ?_
          obtain ⟨g23, h⟩ := gd_some h
          refine x_iast hC hW aX52 g23 dX4_countBehind_79 (fun H locs hW => ?_)
          obtain ⟨s24, e25, h⟩ := nx_some h
          rw [← e25] at hW
          cases h
          exact K17 _ _ _ hW (lv_sub hl [0, 1, 2, 3] rfl)
def fX47_countBehind_L7 (N : Nat)  : Nat → St → Int32 → Option (St)
  | 0, _, _ => none
  | n + 1, S, x1 =>
    if x1 < 0 then
      some S
    else
      Option.bind (fJs_bitCount S x1) fun t4 =>
      Option.bind (α := Int32) (
        if t4 = (S.1 47 8) then
          some 1
        else
          some 0
      ) fun t7 =>
      gd (inb x1 4096) <|
      nx (p1 S 52 (Int32.toNatClampNeg x1) t7) fun s11 =>
      Option.bind (fX47_openBehind s11 x1) fun t13 =>
      Option.bind (fX47_countBehind_L41 N x1 t13 N s11 0) fun t26 =>
      fX47_countBehind_L7 N n t26 (x1 + (-1))
set_option maxHeartbeats 4000000 in
set_option maxRecDepth 100000 in
theorem wX47_countBehind_L7 {N : Nat}  (hC : CallFix p m c cX4_countBehind 4 s args lw_g RX4) (hF : 2 ≤ R.frames) (hL : 42 ≤ R.locals)  {t : St} (kx : ∀ (H : Heap) (locs : List Loc) (ls : Array Slot), wg LX G t s H locs → lv_has ls 4 [] → W p l e R s m args below meth c H locs 0 0 Q (F0 m 92 ls [])) : ∀ (n : Nat) (S : St) (x1 : Int32), fX47_countBehind_L7 N  n S x1 = some t → ∀ (H : Heap) (locs : List Loc) (ls : Array Slot), wg LX G S s H locs → lv_has ls 4 [(0, .ref (ad G 47)), (1, .int x1)] → W p l e R s m args below meth c H locs 0 0 Q (F0 m 7 ls []) := by
  have hx := hC.1
  have hb := hC.2.1
  intro n
  induction n with
  | zero =>
    intro _ _ h
    cases h
  | succ n ih =>
    intro S x1 h H locs ls hW hl
    rw [fX47_countBehind_L7] at h
    refine lv_iload_n hx hb dX4_countBehind_7 rfl (lv_at hl 1 rfl) ?_
    refine lv_if_lt (tgt := 92) hx hb dX4_countBehind_8 (by decide) (fun q3 => ?_) (fun q3 => ?_)
    · have h := it_p q3 h
      cases h
      exact kx _ _ _ hW (lv_sub hl [] rfl)
    · have h := it_n q3 h
      refine lv_aload_n hx hb dX4_countBehind_11 rfl (lv_at hl 0 rfl) ?_
      refine gX47_7 hC hW dX4_countBehind_12 ?_
      refine lv_iload_n hx hb dX4_countBehind_15 rfl (lv_at hl 1 rfl) ?_
      refine lv_iload_n hx hb dX4_countBehind_16 rfl (lv_at hl 1 rfl) ?_
      obtain ⟨t4, e5, h⟩ := bd h
      refine x_goi (x_rs (rest := [.int x1, .ref (ad G 52)]) hC hW (ctJs_bitCount e5) (cwS_g hC.2.2.2.2 ml_X4_77 ms_J6_bitCount_0f7a4 md_J6_bitCount_0f7a4 ⟨(Nat.le_trans (Nat.le_of_ble_eq_true rfl) hF), (Nat.le_trans (Nat.le_of_ble_eq_true rfl) hL)⟩) rfl hl.1 rfl (Nat.le_of_ble_eq_true rfl) dX4_countBehind_17) hW (fun H locs hW => ?_)
      refine lv_aload_n hx hb dX4_countBehind_20 rfl (lv_at hl 0 rfl) ?_
      refine gX47_8 hC hW dX4_countBehind_21 ?_
      obtain ⟨t7, e8, h⟩ := bd h
      have K6 : ∀ (H : Heap) (locs : List Loc) (ls : Array Slot), wg LX G S s H locs → lv_has ls 4 [(0, .ref (ad G 47)), (1, .int x1)] → W p l e R s m args below meth c H locs 0 0 Q (F0 m 32 ls [.int t7, .int x1, .ref (ad G 52)]) := by
        intro H locs ls hW hl
        obtain ⟨g10, h⟩ := gd_some h
        refine x_iast hC hW aX52 g10 dX4_countBehind_32 (fun H locs hW => ?_)
        obtain ⟨s11, e12, h⟩ := nx_some h
        rw [← e12] at hW
        refine lv_aload_n hx hb dX4_countBehind_33 rfl (lv_at hl 0 rfl) ?_
        refine lv_iload_n hx hb dX4_countBehind_34 rfl (lv_at hl 1 rfl) ?_
        obtain ⟨t13, e14, h⟩ := bd h
        refine x_goi (x_rv (rest := []) hC hW (ctX47_openBehind e14) (cwV_g hC.2.2.2.2 ml_X4_85 mi_X4_openBehind md_X4_openBehind ⟨(Nat.le_trans (Nat.le_of_ble_eq_true rfl) hF), (Nat.le_trans (Nat.le_of_ble_eq_true rfl) hL)⟩) (rcX47 hW) rfl hl.1 rfl (Nat.le_of_ble_eq_true rfl) dX4_countBehind_35) hW (fun H locs hW => ?_)
        refine lv_istore_n (lv' := [(2, .int t13), (0, .ref (ad G 47)), (1, .int x1)]) hx hb dX4_countBehind_38 rfl hl (by decide) rfl (fun ls hl => ?_)
        refine lv_iconst (v := 0) hx hb dX4_countBehind_39 (by decide) ?_
        refine lv_istore_n (lv' := [(3, .int 0), (2, .int t13), (0, .ref (ad G 47)), (1, .int x1)]) hx hb dX4_countBehind_40 rfl hl (by decide) rfl (fun ls hl => ?_)
        obtain ⟨t26, e27, h⟩ := bd h
        refine wX47_countBehind_L41 hC hF hL  (fun H locs ls hW hl => ?_) _ _ _ e27 _ _ _ hW (lv_sub hl [2, 3, 1, 0] rfl)
        refine lv_iinc (v := x1 + (-1)) (lv' := [(1, .int (x1 + (-1))), (0, .ref (ad G 47))]) (k := 1) hx hb dX4_countBehind_86 hl rfl rfl (by decide) rfl (fun ls hl => ?_)
        refine lv_goto (tgt := 7) hx hb dX4_countBehind_89 (by decide) ?_
        exact ih _ _ h _ _ _ hW (lv_sub hl [1, 0] rfl)
      clear h
      have h := e8
      clear e8
      refine lv_icmp_ne (tgt := 31) hx hb dX4_countBehind_24 (by decide) (fun q9 => ?_) (fun q9 => ?_)
      · have h := it_n q9 h
        refine lv_iconst (v := 0) hx hb dX4_countBehind_31 (by decide) ?_
        cases h
        exact K6 _ _ _ hW (lv_sub hl [0, 1] rfl)
      · have h := it_p q9 h
        refine lv_iconst (v := 1) hx hb dX4_countBehind_27 (by decide) ?_
        refine lv_goto (tgt := 32) hx hb dX4_countBehind_28 (by decide) ?_
        cases h
        exact K6 _ _ _ hW (lv_sub hl [0, 1] rfl)
def fX47_countBehind (N : Nat) (S : St)  : Option (St) :=
  Option.bind (fX47_sets S) fun t1 =>
  Option.bind (fX47_countBehind_L7 N N S (t1 - 1)) fun t28 =>
  some t28
set_option maxHeartbeats 4000000 in
set_option maxRecDepth 100000 in
theorem wX47_countBehind {N : Nat} {S : St}  (hC : CallFix p m c cX4_countBehind 4 s args lw_g RX4) (hF : 2 ≤ R.frames) (hL : 42 ≤ R.locals)  {S' : St} (h : fX47_countBehind N S = some (S')) (kr : ∀ (H : Heap) (locs : List Loc) (ls : Array Slot) (pc : Nat), decode cX4_countBehind pc = .ok (.return_, 1) → wg LX G (S') s H locs → W p l e R s m args below meth c H locs 0 0 Q (F0 m pc ls [])) : ∀ (H : Heap) (locs : List Loc) (ls : Array Slot), wg LX G S s H locs → lv_has ls 4 [(0, .ref (ad G 47))] → W p l e R s m args below meth c H locs 0 0 Q (F0 m 0 ls []) := by
  have hx := hC.1
  have hb := hC.2.1
  intro H locs ls hW hl
  unfold fX47_countBehind at h
  refine lv_aload_n hx hb dX4_countBehind_0 rfl (lv_at hl 0 rfl) ?_
  obtain ⟨t1, e2, h⟩ := bd h
  refine x_goi (x_rv (rest := []) hC hW (ctX47_sets e2) (cwV_g hC.2.2.2.2 ml_X4_82 mi_X4_sets md_X4_sets ⟨(Nat.le_trans (Nat.le_of_ble_eq_true rfl) hF), (Nat.le_trans (Nat.le_of_ble_eq_true rfl) hL)⟩) (rcX47 hW) rfl hl.1 rfl (Nat.le_of_ble_eq_true rfl) dX4_countBehind_1) hW (fun H locs hW => ?_)
  refine lv_iconst (v := 1) hx hb dX4_countBehind_4 (by decide) ?_
  refine lv_isub hx hb dX4_countBehind_5 ?_
  refine lv_istore_n (lv' := [(1, .int (t1 - 1)), (0, .ref (ad G 47))]) hx hb dX4_countBehind_6 rfl hl (by decide) rfl (fun ls hl => ?_)
  obtain ⟨t28, e29, h⟩ := bd h
  refine wX47_countBehind_L7 hC hF hL  (fun H locs ls hW hl => ?_) _ _ _ e29 _ _ _ hW (lv_sub hl [1, 0] rfl)
  cases h
  exact kr _ _ _ _ dX4_countBehind_92 hW
theorem ctX47_countBehind {N : Nat} {S : St}   {S' : St} (h : fX47_countBehind N S = some (S')) : Met l yX4_countBehind (wm yX4_countBehind cX4_countBehind 4 none) (rmx 2 42) (pcm LX G S [.ref (ad G 47)]) (qcV LX G S') 0 0 G.2.2.2 :=
  x_enter (own := RX4) rfl rfl (Nat.le_of_ble_eq_true rfl) (fun p e s m below meth c ls hC hr hk hW hl => wX47_countBehind hC (Nat.le_refl _) (Nat.le_refl _)  h (fun H locs ls pc hd hW => x_retv hC hr hk hW hd) _ _ _ hW hl)
def fX47_usedPlaces_L42 (N : Nat) (S : St) (x1 : Int32) (x3 : Int32) (x4 : Int32) : Nat → Int32 → Int32 → Option (Int32)
  | 0, _, _ => none
  | n + 1, x2, x5 =>
    if 12 ≤ x5 then
      some x2
    else
      if (x4 >>> (x5 &&& 31)) = 0 then
        some x2
      else
        Option.bind (α := Int32) (
          if ((x4 >>> (x5 &&& 31)) &&& 1) = 0 then
            some x2
          else
            gd (inb (x3 ||| (1 <<< (x5 &&& 31))) 4096) <|
            if (S.1 52 (Int32.toNatClampNeg (x3 ||| (1 <<< (x5 &&& 31))))) ≤ 0 then
              some x2
            else
              nx (x2 ||| (1 <<< (x5 &&& 31))) fun y22 =>
              some y22
        ) fun t17 =>
        fX47_usedPlaces_L42 N S x1 x3 x4 n t17 (x5 + 1)
set_option maxHeartbeats 4000000 in
set_option maxRecDepth 100000 in
theorem wX47_usedPlaces_L42 {N : Nat} {S : St} {x1 : Int32} {x3 : Int32} {x4 : Int32} (hC : CallFix p m c cX4_usedPlaces 6 s args lw_g RX4) (hF : 2 ≤ R.frames) (hL : 42 ≤ R.locals)  {t : Int32} (kx : ∀ (H : Heap) (locs : List Loc) (ls : Array Slot), wg LX G S s H locs → lv_has ls 6 [(0, .ref (ad G 47)), (1, .int x1), (2, .int t), (3, .int x3)] → W p l e R s m args below meth c H locs 0 0 Q (F0 m 94 ls [])) : ∀ (n : Nat) (x2 : Int32) (x5 : Int32), fX47_usedPlaces_L42 N S x1 x3 x4 n x2 x5 = some t → ∀ (H : Heap) (locs : List Loc) (ls : Array Slot), wg LX G S s H locs → lv_has ls 6 [(0, .ref (ad G 47)), (1, .int x1), (2, .int x2), (3, .int x3), (4, .int x4), (5, .int x5)] → W p l e R s m args below meth c H locs 0 0 Q (F0 m 42 ls []) := by
  have hx := hC.1
  have hb := hC.2.1
  intro n
  induction n with
  | zero =>
    intro _ _ h
    cases h
  | succ n ih =>
    intro x2 x5 h H locs ls hW hl
    rw [fX47_usedPlaces_L42] at h
    refine lv_iload hx hb dX4_usedPlaces_42 (lv_at hl 5 rfl) ?_
    refine lv_bipush (v := 12) hx hb dX4_usedPlaces_44 (by decide) ?_
    refine lv_icmp_ge (tgt := 94) hx hb dX4_usedPlaces_46 (by decide) (fun q14 => ?_) (fun q14 => ?_)
    · have h := it_p q14 h
      cases h
      exact kx _ _ _ hW (lv_sub hl [0, 1, 2, 3] rfl)
    · have h := it_n q14 h
      refine lv_iload hx hb dX4_usedPlaces_49 (lv_at hl 4 rfl) ?_
      refine lv_iload hx hb dX4_usedPlaces_51 (lv_at hl 5 rfl) ?_
      refine lv_ishr hx hb dX4_usedPlaces_53 ?_
      refine lv_if_eq (tgt := 94) hx hb dX4_usedPlaces_54 (by decide) (fun q15 => ?_) (fun q15 => ?_)
      · have h := it_p q15 h
        cases h
        exact kx _ _ _ hW (lv_sub hl [0, 1, 2, 3] rfl)
      · have h := it_n q15 h
        refine lv_iload hx hb dX4_usedPlaces_57 (lv_at hl 4 rfl) ?_
        refine lv_iload hx hb dX4_usedPlaces_59 (lv_at hl 5 rfl) ?_
        refine lv_ishr hx hb dX4_usedPlaces_61 ?_
        refine lv_iconst (v := 1) hx hb dX4_usedPlaces_62 (by decide) ?_
        refine lv_iand hx hb dX4_usedPlaces_63 ?_
        obtain ⟨t17, e18, h⟩ := bd h
        have K16 : ∀ (H : Heap) (locs : List Loc) (ls : Array Slot), wg LX G S s H locs → lv_has ls 6 [(0, .ref (ad G 47)), (1, .int x1), (2, .int t17), (3, .int x3), (4, .int x4), (5, .int x5)] → W p l e R s m args below meth c H locs 0 0 Q (F0 m 88 ls []) := by
          intro H locs ls hW hl
          refine lv_iinc (v := x5 + 1) (lv' := [(5, .int (x5 + 1)), (0, .ref (ad G 47)), (1, .int x1), (2, .int t17), (3, .int x3), (4, .int x4)]) (k := 5) hx hb dX4_usedPlaces_88 hl rfl rfl (by decide) rfl (fun ls hl => ?_)
          refine lv_goto (tgt := 42) hx hb dX4_usedPlaces_91 (by decide) ?_
          exact ih _ _ h _ _ _ hW (lv_sub hl [1, 2, 3, 4, 5, 0] rfl)
        clear h
        have h := e18
        clear e18
        refine lv_if_eq (tgt := 88) hx hb dX4_usedPlaces_64 (by decide) (fun q19 => ?_) (fun q19 => ?_)
        · have h := it_p q19 h
          cases h
          exact K16 _ _ _ hW (lv_sub hl [0, 1, 2, 3, 4, 5] rfl)
        · have h := it_n q19 h
          refine lv_aload_n hx hb dX4_usedPlaces_67 rfl (lv_at hl 0 rfl) ?_
          refine gX47_7 hC hW dX4_usedPlaces_68 ?_
          refine lv_iload_n hx hb dX4_usedPlaces_71 rfl (lv_at hl 3 rfl) ?_
          refine lv_iconst (v := 1) hx hb dX4_usedPlaces_72 (by decide) ?_
          refine lv_iload hx hb dX4_usedPlaces_73 (lv_at hl 5 rfl) ?_
          refine lv_ishl hx hb dX4_usedPlaces_75 ?_
          refine lv_ior hx hb dX4_usedPlaces_76 ?_
          obtain ⟨g20, h⟩ := gd_some h
          refine x_iald hC hW aX52 g20 dX4_usedPlaces_77 ?_
          refine lv_if_le (tgt := 88) hx hb dX4_usedPlaces_78 (by decide) (fun q21 => ?_) (fun q21 => ?_)
          · have h := it_p q21 h
            cases h
            exact K16 _ _ _ hW (lv_sub hl [0, 1, 2, 3, 4, 5] rfl)
          · have h := it_n q21 h
            refine lv_iload_n hx hb dX4_usedPlaces_81 rfl (lv_at hl 2 rfl) ?_
            refine lv_iconst (v := 1) hx hb dX4_usedPlaces_82 (by decide) ?_
            refine lv_iload hx hb dX4_usedPlaces_83 (lv_at hl 5 rfl) ?_
            refine lv_ishl hx hb dX4_usedPlaces_85 ?_
            refine lv_ior hx hb dX4_usedPlaces_86 ?_
            obtain ⟨y22, e23, h⟩ := nx_some h
            refine x_topi e23 ?_
            refine lv_istore_n (lv' := [(2, .int y22), (0, .ref (ad G 47)), (1, .int x1), (3, .int x3), (4, .int x4), (5, .int x5)]) hx hb dX4_usedPlaces_87 rfl hl (by decide) rfl (fun ls hl => ?_)
            cases h
            exact K16 _ _ _ hW (lv_sub hl [1, 2, 0, 3, 4, 5] rfl)
def fX47_usedPlaces_L4 (N : Nat) (S : St) (x1 : Int32) : Nat → Int32 → Int32 → Option (Int32)
  | 0, _, _ => none
  | n + 1, x2, x3 =>
    Option.bind (fX47_sets S) fun t1 =>
    if t1 ≤ x3 then
      some x2
    else
      Option.bind (fJs_bitCount S x3) fun t4 =>
      Option.bind (α := Int32) (
        if t4 = x1 then
          gd (inb x3 4096) <|
          if (S.1 51 (Int32.toNatClampNeg x3)) = 0 then
            some x2
          else
            Option.bind (fX47_openBehind S x3) fun t12 =>
            Option.bind (fX47_usedPlaces_L42 N S x1 x3 t12 N x2 0) fun t24 =>
            some t24
        else
          some x2
      ) fun t7 =>
      fX47_usedPlaces_L4 N S x1 n t7 (x3 + 1)
set_option maxHeartbeats 4000000 in
set_option maxRecDepth 100000 in
theorem wX47_usedPlaces_L4 {N : Nat} {S : St} {x1 : Int32} (hC : CallFix p m c cX4_usedPlaces 6 s args lw_g RX4) (hF : 2 ≤ R.frames) (hL : 42 ≤ R.locals)  {t : Int32} (kx : ∀ (H : Heap) (locs : List Loc) (ls : Array Slot), wg LX G S s H locs → lv_has ls 6 [(2, .int t)] → W p l e R s m args below meth c H locs 0 0 Q (F0 m 100 ls [])) : ∀ (n : Nat) (x2 : Int32) (x3 : Int32), fX47_usedPlaces_L4 N S x1 n x2 x3 = some t → ∀ (H : Heap) (locs : List Loc) (ls : Array Slot), wg LX G S s H locs → lv_has ls 6 [(0, .ref (ad G 47)), (1, .int x1), (2, .int x2), (3, .int x3)] → W p l e R s m args below meth c H locs 0 0 Q (F0 m 4 ls []) := by
  have hx := hC.1
  have hb := hC.2.1
  intro n
  induction n with
  | zero =>
    intro _ _ h
    cases h
  | succ n ih =>
    intro x2 x3 h H locs ls hW hl
    rw [fX47_usedPlaces_L4] at h
    refine lv_iload_n hx hb dX4_usedPlaces_4 rfl (lv_at hl 3 rfl) ?_
    refine lv_aload_n hx hb dX4_usedPlaces_5 rfl (lv_at hl 0 rfl) ?_
    obtain ⟨t1, e2, h⟩ := bd h
    refine x_goi (x_rv (rest := [.int x3]) hC hW (ctX47_sets e2) (cwV_g hC.2.2.2.2 ml_X4_82 mi_X4_sets md_X4_sets ⟨(Nat.le_trans (Nat.le_of_ble_eq_true rfl) hF), (Nat.le_trans (Nat.le_of_ble_eq_true rfl) hL)⟩) (rcX47 hW) rfl hl.1 rfl (Nat.le_of_ble_eq_true rfl) dX4_usedPlaces_6) hW (fun H locs hW => ?_)
    refine lv_icmp_ge (tgt := 100) hx hb dX4_usedPlaces_9 (by decide) (fun q3 => ?_) (fun q3 => ?_)
    · have h := it_p q3 h
      cases h
      exact kx _ _ _ hW (lv_sub hl [2] rfl)
    · have h := it_n q3 h
      refine lv_iload_n hx hb dX4_usedPlaces_12 rfl (lv_at hl 3 rfl) ?_
      obtain ⟨t4, e5, h⟩ := bd h
      refine x_goi (x_rs (rest := []) hC hW (ctJs_bitCount e5) (cwS_g hC.2.2.2.2 ml_X4_77 ms_J6_bitCount_0f7a4 md_J6_bitCount_0f7a4 ⟨(Nat.le_trans (Nat.le_of_ble_eq_true rfl) hF), (Nat.le_trans (Nat.le_of_ble_eq_true rfl) hL)⟩) rfl hl.1 rfl (Nat.le_of_ble_eq_true rfl) dX4_usedPlaces_13) hW (fun H locs hW => ?_)
      refine lv_iload_n hx hb dX4_usedPlaces_16 rfl (lv_at hl 1 rfl) ?_
      obtain ⟨t7, e8, h⟩ := bd h
      have K6 : ∀ (H : Heap) (locs : List Loc) (ls : Array Slot), wg LX G S s H locs → lv_has ls 6 [(0, .ref (ad G 47)), (1, .int x1), (2, .int t7), (3, .int x3)] → W p l e R s m args below meth c H locs 0 0 Q (F0 m 94 ls []) := by
        intro H locs ls hW hl
        refine lv_iinc (v := x3 + 1) (lv' := [(3, .int (x3 + 1)), (0, .ref (ad G 47)), (1, .int x1), (2, .int t7)]) (k := 3) hx hb dX4_usedPlaces_94 hl rfl rfl (by decide) rfl (fun ls hl => ?_)
        refine lv_goto (tgt := 4) hx hb dX4_usedPlaces_97 (by decide) ?_
        exact ih _ _ h _ _ _ hW (lv_sub hl [1, 2, 3, 0] rfl)
      clear h
      have h := e8
      clear e8
      refine lv_icmp_ne (tgt := 94) hx hb dX4_usedPlaces_17 (by decide) (fun q9 => ?_) (fun q9 => ?_)
      · have h := it_n q9 h
        cases h
        exact K6 _ _ _ hW (lv_sub hl [0, 1, 2, 3] rfl)
      · have h := it_p q9 h
        refine lv_aload_n hx hb dX4_usedPlaces_20 rfl (lv_at hl 0 rfl) ?_
        refine gX47_6 hC hW dX4_usedPlaces_21 ?_
        refine lv_iload_n hx hb dX4_usedPlaces_24 rfl (lv_at hl 3 rfl) ?_
        obtain ⟨g10, h⟩ := gd_some h
        refine x_zald hC hW zX51 g10 dX4_usedPlaces_25 ?_
        refine lv_if_ne (tgt := 32) hx hb dX4_usedPlaces_26 (by decide) (fun q11 => ?_) (fun q11 => ?_)
        · have h := it_n q11 h
          refine lv_aload_n hx hb dX4_usedPlaces_32 rfl (lv_at hl 0 rfl) ?_
          refine lv_iload_n hx hb dX4_usedPlaces_33 rfl (lv_at hl 3 rfl) ?_
          obtain ⟨t12, e13, h⟩ := bd h
          refine x_goi (x_rv (rest := []) hC hW (ctX47_openBehind e13) (cwV_g hC.2.2.2.2 ml_X4_85 mi_X4_openBehind md_X4_openBehind ⟨(Nat.le_trans (Nat.le_of_ble_eq_true rfl) hF), (Nat.le_trans (Nat.le_of_ble_eq_true rfl) hL)⟩) (rcX47 hW) rfl hl.1 rfl (Nat.le_of_ble_eq_true rfl) dX4_usedPlaces_34) hW (fun H locs hW => ?_)
          refine lv_istore (lv' := [(4, .int t12), (0, .ref (ad G 47)), (1, .int x1), (2, .int x2), (3, .int x3)]) hx hb dX4_usedPlaces_37 hl (by decide) rfl (fun ls hl => ?_)
          refine lv_iconst (v := 0) hx hb dX4_usedPlaces_39 (by decide) ?_
          refine lv_istore (lv' := [(5, .int 0), (4, .int t12), (0, .ref (ad G 47)), (1, .int x1), (2, .int x2), (3, .int x3)]) hx hb dX4_usedPlaces_40 hl (by decide) rfl (fun ls hl => ?_)
          obtain ⟨t24, e25, h⟩ := bd h
          refine wX47_usedPlaces_L42 hC hF hL  (fun H locs ls hW hl => ?_) _ _ _ e25 _ _ _ hW (lv_sub hl [2, 3, 4, 5, 1, 0] rfl)
          cases h
          exact K6 _ _ _ hW (lv_sub hl [0, 1, 2, 3] rfl)
        · have h := it_p q11 h
          refine lv_goto (tgt := 94) hx hb dX4_usedPlaces_29 (by decide) ?_
          cases h
          exact K6 _ _ _ hW (lv_sub hl [0, 1, 2, 3] rfl)
def fX47_usedPlaces (N : Nat) (S : St) (x1 : Int32) : Option (Int32) :=
  Option.bind (fX47_usedPlaces_L4 N S x1 N 0 0) fun t26 =>
  some t26
set_option maxHeartbeats 4000000 in
set_option maxRecDepth 100000 in
theorem wX47_usedPlaces {N : Nat} {S : St} {x1 : Int32} (hC : CallFix p m c cX4_usedPlaces 6 s args lw_g RX4) (hF : 2 ≤ R.frames) (hL : 42 ≤ R.locals)  {v : Int32} (h : fX47_usedPlaces N S x1 = some v) (kr : ∀ (H : Heap) (locs : List Loc) (ls : Array Slot) (pc : Nat), decode cX4_usedPlaces pc = .ok (.ireturn, 1) → wg LX G S s H locs → W p l e R s m args below meth c H locs 0 0 Q (F0 m pc ls [.int v])) : ∀ (H : Heap) (locs : List Loc) (ls : Array Slot), wg LX G S s H locs → lv_has ls 6 [(0, .ref (ad G 47)), (1, .int x1)] → W p l e R s m args below meth c H locs 0 0 Q (F0 m 0 ls []) := by
  have hx := hC.1
  have hb := hC.2.1
  intro H locs ls hW hl
  unfold fX47_usedPlaces at h
  refine lv_iconst (v := 0) hx hb dX4_usedPlaces_0 (by decide) ?_
  refine lv_istore_n (lv' := [(2, .int 0), (0, .ref (ad G 47)), (1, .int x1)]) hx hb dX4_usedPlaces_1 rfl hl (by decide) rfl (fun ls hl => ?_)
  refine lv_iconst (v := 0) hx hb dX4_usedPlaces_2 (by decide) ?_
  refine lv_istore_n (lv' := [(3, .int 0), (2, .int 0), (0, .ref (ad G 47)), (1, .int x1)]) hx hb dX4_usedPlaces_3 rfl hl (by decide) rfl (fun ls hl => ?_)
  obtain ⟨t26, e27, h⟩ := bd h
  refine wX47_usedPlaces_L4 hC hF hL  (fun H locs ls hW hl => ?_) _ _ _ e27 _ _ _ hW (lv_sub hl [2, 3, 1, 0] rfl)
  refine lv_iload_n hx hb dX4_usedPlaces_100 rfl (lv_at hl 0 rfl) ?_
  cases h
  exact kr _ _ _ _ dX4_usedPlaces_101 hW
theorem ctX47_usedPlaces {N : Nat} {S : St} {x1 : Int32}  {v : Int32} (h : fX47_usedPlaces N S x1 = some v) : Met l yX4_usedPlaces (wm yX4_usedPlaces cX4_usedPlaces 6 (some .int)) (rmx 2 42) (pcm LX G S [.ref (ad G 47), .int x1]) (qcI LX G S v) 0 0 G.2.2.2 :=
  x_enter (own := RX4) rfl rfl (Nat.le_of_ble_eq_true rfl) (fun p e s m below meth c ls hC hr hk hW hl => wX47_usedPlaces hC (Nat.le_refl _) (Nat.le_refl _)  h (fun H locs ls pc hd hW => x_reti hC hr hk hW hd) _ _ _ hW hl)
def fX47_match_L14 (N : Nat)  : Nat → St → Int32 → Option (St)
  | 0, _, _ => none
  | n + 1, S, x1 =>
    if (S.1 47 8) ≤ x1 then
      some S
    else
      Option.bind (fX47_usedPlaces N S x1) fun t8 =>
      gd (inb x1 12) <|
      nx (p1 S 50 (Int32.toNatClampNeg x1) t8) fun s11 =>
      fX47_match_L14 N n s11 (x1 + 1)
set_option maxHeartbeats 4000000 in
set_option maxRecDepth 100000 in
theorem wX47_match_L14 {N : Nat}  (hC : CallFix p m c cX4_match 2 s args lw_g RX4) (hF : 3 ≤ R.frames) (hL : 67 ≤ R.locals)  {t : St} (kx : ∀ (H : Heap) (locs : List Loc) (ls : Array Slot), wg LX G t s H locs → lv_has ls 2 [] → W p l e R s m args below meth c H locs 0 0 Q (F0 m 39 ls [])) : ∀ (n : Nat) (S : St) (x1 : Int32), fX47_match_L14 N  n S x1 = some t → ∀ (H : Heap) (locs : List Loc) (ls : Array Slot), wg LX G S s H locs → lv_has ls 2 [(0, .ref (ad G 47)), (1, .int x1)] → W p l e R s m args below meth c H locs 0 0 Q (F0 m 14 ls []) := by
  have hx := hC.1
  have hb := hC.2.1
  intro n
  induction n with
  | zero =>
    intro _ _ h
    cases h
  | succ n ih =>
    intro S x1 h H locs ls hW hl
    rw [fX47_match_L14] at h
    refine lv_iload_n hx hb dX4_match_14 rfl (lv_at hl 1 rfl) ?_
    refine lv_aload_n hx hb dX4_match_15 rfl (lv_at hl 0 rfl) ?_
    refine gX47_8 hC hW dX4_match_16 ?_
    refine lv_icmp_ge (tgt := 39) hx hb dX4_match_19 (by decide) (fun q7 => ?_) (fun q7 => ?_)
    · have h := it_p q7 h
      cases h
      exact kx _ _ _ hW (lv_sub hl [] rfl)
    · have h := it_n q7 h
      refine lv_aload_n hx hb dX4_match_22 rfl (lv_at hl 0 rfl) ?_
      refine gX47_5 hC hW dX4_match_23 ?_
      refine lv_iload_n hx hb dX4_match_26 rfl (lv_at hl 1 rfl) ?_
      refine lv_aload_n hx hb dX4_match_27 rfl (lv_at hl 0 rfl) ?_
      refine lv_iload_n hx hb dX4_match_28 rfl (lv_at hl 1 rfl) ?_
      obtain ⟨t8, e9, h⟩ := bd h
      refine x_goi (x_rv (rest := [.int x1, .ref (ad G 50)]) hC hW (ctX47_usedPlaces e9) (cwV_g hC.2.2.2.2 ml_X4_53 mi_X4_usedPlaces md_X4_usedPlaces ⟨(Nat.le_trans (Nat.le_of_ble_eq_true rfl) hF), (Nat.le_trans (Nat.le_of_ble_eq_true rfl) hL)⟩) (rcX47 hW) rfl hl.1 rfl (Nat.le_of_ble_eq_true rfl) dX4_match_29) hW (fun H locs hW => ?_)
      obtain ⟨g10, h⟩ := gd_some h
      refine x_iast hC hW aX50 g10 dX4_match_32 (fun H locs hW => ?_)
      obtain ⟨s11, e12, h⟩ := nx_some h
      rw [← e12] at hW
      refine lv_iinc (v := x1 + 1) (lv' := [(1, .int (x1 + 1)), (0, .ref (ad G 47))]) (k := 1) hx hb dX4_match_33 hl rfl rfl (by decide) rfl (fun ls hl => ?_)
      refine lv_goto (tgt := 14) hx hb dX4_match_36 (by decide) ?_
      exact ih _ _ h _ _ _ hW (lv_sub hl [1, 0] rfl)
def fX47_match (N : Nat) (S : St)  : Option (St) :=
  Option.bind (fX47_findOpenPlaces N S) fun t1 =>
  Option.bind (fX47_findReached N t1) fun t3 =>
  Option.bind (fX47_countBehind N t3) fun t5 =>
  Option.bind (fX47_match_L14 N N t5 0) fun t13 =>
  some t13
set_option maxHeartbeats 4000000 in
set_option maxRecDepth 100000 in
theorem wX47_match {N : Nat} {S : St}  (hC : CallFix p m c cX4_match 2 s args lw_g RX4) (hF : 3 ≤ R.frames) (hL : 67 ≤ R.locals)  {S' : St} (h : fX47_match N S = some (S')) (kr : ∀ (H : Heap) (locs : List Loc) (ls : Array Slot) (pc : Nat), decode cX4_match pc = .ok (.return_, 1) → wg LX G (S') s H locs → W p l e R s m args below meth c H locs 0 0 Q (F0 m pc ls [])) : ∀ (H : Heap) (locs : List Loc) (ls : Array Slot), wg LX G S s H locs → lv_has ls 2 [(0, .ref (ad G 47))] → W p l e R s m args below meth c H locs 0 0 Q (F0 m 0 ls []) := by
  have hx := hC.1
  have hb := hC.2.1
  intro H locs ls hW hl
  unfold fX47_match at h
  refine lv_aload_n hx hb dX4_match_0 rfl (lv_at hl 0 rfl) ?_
  obtain ⟨t1, e2, h⟩ := bd h
  refine x_gov (x_rv (rest := []) hC hW (ctX47_findOpenPlaces e2) (cwV_g hC.2.2.2.2 ml_X4_44 mi_X4_findOpenPlaces md_X4_findOpenPlaces ⟨(Nat.le_trans (Nat.le_of_ble_eq_true rfl) hF), (Nat.le_trans (Nat.le_of_ble_eq_true rfl) hL)⟩) (rcX47 hW) rfl hl.1 rfl (Nat.le_of_ble_eq_true rfl) dX4_match_1) hW (fun H locs hW => ?_)
  refine lv_aload_n hx hb dX4_match_4 rfl (lv_at hl 0 rfl) ?_
  obtain ⟨t3, e4, h⟩ := bd h
  refine x_gov (x_rv (rest := []) hC hW (ctX47_findReached e4) (cwV_g hC.2.2.2.2 ml_X4_47 mi_X4_findReached md_X4_findReached ⟨(Nat.le_trans (Nat.le_of_ble_eq_true rfl) hF), (Nat.le_trans (Nat.le_of_ble_eq_true rfl) hL)⟩) (rcX47 hW) rfl hl.1 rfl (Nat.le_of_ble_eq_true rfl) dX4_match_5) hW (fun H locs hW => ?_)
  refine lv_aload_n hx hb dX4_match_8 rfl (lv_at hl 0 rfl) ?_
  obtain ⟨t5, e6, h⟩ := bd h
  refine x_gov (x_rv (rest := []) hC hW (ctX47_countBehind e6) (cwV_g hC.2.2.2.2 ml_X4_50 mi_X4_countBehind md_X4_countBehind ⟨(Nat.le_trans (Nat.le_of_ble_eq_true rfl) hF), (Nat.le_trans (Nat.le_of_ble_eq_true rfl) hL)⟩) (rcX47 hW) rfl hl.1 rfl (Nat.le_of_ble_eq_true rfl) dX4_match_9) hW (fun H locs hW => ?_)
  refine lv_iconst (v := 0) hx hb dX4_match_12 (by decide) ?_
  refine lv_istore_n (lv' := [(1, .int 0), (0, .ref (ad G 47))]) hx hb dX4_match_13 rfl hl (by decide) rfl (fun ls hl => ?_)
  obtain ⟨t13, e14, h⟩ := bd h
  refine wX47_match_L14 hC hF hL  (fun H locs ls hW hl => ?_) _ _ _ e14 _ _ _ hW (lv_sub hl [1, 0] rfl)
  cases h
  exact kr _ _ _ _ dX4_match_39 hW
theorem ctX47_match {N : Nat} {S : St}   {S' : St} (h : fX47_match N S = some (S')) : Met l yX4_match (wm yX4_match cX4_match 2 none) (rmx 3 67) (pcm LX G S [.ref (ad G 47)]) (qcV LX G S') 0 0 G.2.2.2 :=
  x_enter (own := RX4) rfl rfl (Nat.le_of_ble_eq_true rfl) (fun p e s m below meth c ls hC hr hk hW hl => wX47_match hC (Nat.le_refl _) (Nat.le_refl _)  h (fun H locs ls pc hd hW => x_retv hC hr hk hW hd) _ _ _ hW hl)
def fX47_haveOneNumber_L5 (N : Nat) (S : St) (x1 : Int32) : Nat → Int32 → Int32 → Option ((Int32) ⊕ (Int32))
  | 0, _, _ => none
  | n + 1, x2, x3 =>
    Option.bind (fX22_howMany S) fun t1 =>
    if t1 ≤ x3 then
      some (.inr x2)
    else
      if ((x1 >>> (x3 &&& 31)) &&& 1) = 0 then
        fX47_haveOneNumber_L5 N S x1 n x2 (x3 + 1)
      else
        if x2 = (-9) then
          Option.bind (fX22_numberAt S x3) fun t6 =>
          fX47_haveOneNumber_L5 N S x1 n t6 (x3 + 1)
        else
          Option.bind (fX22_numberAt S x3) fun t8 =>
          if x2 = t8 then
            Option.bind (fX22_numberAt S x3) fun t11 =>
            fX47_haveOneNumber_L5 N S x1 n t11 (x3 + 1)
          else
            some (.inl 0)
set_option maxHeartbeats 4000000 in
set_option maxRecDepth 100000 in
theorem wX47_haveOneNumber_L5 {N : Nat} {S : St} {x1 : Int32} (hC : CallFix p m c cX4_haveOneNumber 4 s args lw_g RX4) (hF : 1 ≤ R.frames) (hL : 21 ≤ R.locals)  {t : (Int32) ⊕ (Int32)} (kr : ∀ r, t = .inl r → ∀ (H : Heap) (locs : List Loc) (ls : Array Slot) (pc : Nat), isb r = true → decode cX4_haveOneNumber pc = .ok (.ireturn, 1) → wg LX G S s H locs → W p l e R s m args below meth c H locs 0 0 Q (F0 m pc ls [.int r])) (kx : ∀ u, t = .inr u → ∀ (H : Heap) (locs : List Loc) (ls : Array Slot), wg LX G S s H locs → lv_has ls 4 [(2, .int u)] → W p l e R s m args below meth c H locs 0 0 Q (F0 m 62 ls [])) : ∀ (n : Nat) (x2 : Int32) (x3 : Int32), fX47_haveOneNumber_L5 N S x1 n x2 x3 = some t → ∀ (H : Heap) (locs : List Loc) (ls : Array Slot), wg LX G S s H locs → lv_has ls 4 [(0, .ref (ad G 47)), (1, .int x1), (2, .int x2), (3, .int x3)] → W p l e R s m args below meth c H locs 0 0 Q (F0 m 5 ls []) := by
  have hx := hC.1
  have hb := hC.2.1
  intro n
  induction n with
  | zero =>
    intro _ _ h
    cases h
  | succ n ih =>
    intro x2 x3 h H locs ls hW hl
    rw [fX47_haveOneNumber_L5] at h
    refine lv_iload_n hx hb dX4_haveOneNumber_5 rfl (lv_at hl 3 rfl) ?_
    refine lv_aload_n hx hb dX4_haveOneNumber_6 rfl (lv_at hl 0 rfl) ?_
    refine gX47_1 hC hW dX4_haveOneNumber_7 ?_
    obtain ⟨t1, e2, h⟩ := bd h
    refine x_goi (x_rv (rest := [.int x3]) hC hW (ctX22_howMany e2) (cwV_g hC.2.2.2.2 ml_X4_62 mi_X1_howMany md_X1_howMany ⟨(Nat.le_trans (Nat.le_of_ble_eq_true rfl) hF), (Nat.le_trans (Nat.le_of_ble_eq_true rfl) hL)⟩) (rcX22 hW) rfl hl.1 rfl (Nat.le_of_ble_eq_true rfl) dX4_haveOneNumber_10) hW (fun H locs hW => ?_)
    refine lv_icmp_ge (tgt := 62) hx hb dX4_haveOneNumber_13 (by decide) (fun q3 => ?_) (fun q3 => ?_)
    · have h := it_p q3 h
      cases h
      exact kx _ rfl _ _ _ hW (lv_sub hl [2] rfl)
    · have h := it_n q3 h
      refine lv_iload_n hx hb dX4_haveOneNumber_16 rfl (lv_at hl 1 rfl) ?_
      refine lv_iload_n hx hb dX4_haveOneNumber_17 rfl (lv_at hl 3 rfl) ?_
      refine lv_ishr hx hb dX4_haveOneNumber_18 ?_
      refine lv_iconst (v := 1) hx hb dX4_haveOneNumber_19 (by decide) ?_
      refine lv_iand hx hb dX4_haveOneNumber_20 ?_
      refine lv_if_ne (tgt := 27) hx hb dX4_haveOneNumber_21 (by decide) (fun q4 => ?_) (fun q4 => ?_)
      · have h := it_n q4 h
        refine lv_iload_n hx hb dX4_haveOneNumber_27 rfl (lv_at hl 2 rfl) ?_
        refine lv_bipush (v := (-9)) hx hb dX4_haveOneNumber_28 (by decide) ?_
        refine lv_icmp_eq (tgt := 47) hx hb dX4_haveOneNumber_30 (by decide) (fun q5 => ?_) (fun q5 => ?_)
        · have h := it_p q5 h
          refine lv_aload_n hx hb dX4_haveOneNumber_47 rfl (lv_at hl 0 rfl) ?_
          refine gX47_1 hC hW dX4_haveOneNumber_48 ?_
          refine lv_iload_n hx hb dX4_haveOneNumber_51 rfl (lv_at hl 3 rfl) ?_
          obtain ⟨t6, e7, h⟩ := bd h
          refine x_goi (x_rv (rest := []) hC hW (ctX22_numberAt e7) (cwV_g hC.2.2.2.2 ml_X4_68 mi_X1_numberAt md_X1_numberAt ⟨(Nat.le_trans (Nat.le_of_ble_eq_true rfl) hF), (Nat.le_trans (Nat.le_of_ble_eq_true rfl) hL)⟩) (rcX22 hW) rfl hl.1 rfl (Nat.le_of_ble_eq_true rfl) dX4_haveOneNumber_52) hW (fun H locs hW => ?_)
          refine lv_istore_n (lv' := [(2, .int t6), (0, .ref (ad G 47)), (1, .int x1), (3, .int x3)]) hx hb dX4_haveOneNumber_55 rfl hl (by decide) rfl (fun ls hl => ?_)
          refine lv_iinc (v := x3 + 1) (lv' := [(3, .int (x3 + 1)), (2, .int t6), (0, .ref (ad G 47)), (1, .int x1)]) (k := 3) hx hb dX4_haveOneNumber_56 hl rfl rfl (by decide) rfl (fun ls hl => ?_)
          refine lv_goto (tgt := 5) hx hb dX4_haveOneNumber_59 (by decide) ?_
          exact ih _ _ h _ _ _ hW (lv_sub hl [2, 3, 1, 0] rfl)
        · have h := it_n q5 h
          refine lv_iload_n hx hb dX4_haveOneNumber_33 rfl (lv_at hl 2 rfl) ?_
          refine lv_aload_n hx hb dX4_haveOneNumber_34 rfl (lv_at hl 0 rfl) ?_
          refine gX47_1 hC hW dX4_haveOneNumber_35 ?_
          refine lv_iload_n hx hb dX4_haveOneNumber_38 rfl (lv_at hl 3 rfl) ?_
          obtain ⟨t8, e9, h⟩ := bd h
          refine x_goi (x_rv (rest := [.int x2]) hC hW (ctX22_numberAt e9) (cwV_g hC.2.2.2.2 ml_X4_68 mi_X1_numberAt md_X1_numberAt ⟨(Nat.le_trans (Nat.le_of_ble_eq_true rfl) hF), (Nat.le_trans (Nat.le_of_ble_eq_true rfl) hL)⟩) (rcX22 hW) rfl hl.1 rfl (Nat.le_of_ble_eq_true rfl) dX4_haveOneNumber_39) hW (fun H locs hW => ?_)
          refine lv_icmp_eq (tgt := 47) hx hb dX4_haveOneNumber_42 (by decide) (fun q10 => ?_) (fun q10 => ?_)
          · have h := it_p q10 h
            refine lv_aload_n hx hb dX4_haveOneNumber_47 rfl (lv_at hl 0 rfl) ?_
            refine gX47_1 hC hW dX4_haveOneNumber_48 ?_
            refine lv_iload_n hx hb dX4_haveOneNumber_51 rfl (lv_at hl 3 rfl) ?_
            obtain ⟨t11, e12, h⟩ := bd h
            refine x_goi (x_rv (rest := []) hC hW (ctX22_numberAt e12) (cwV_g hC.2.2.2.2 ml_X4_68 mi_X1_numberAt md_X1_numberAt ⟨(Nat.le_trans (Nat.le_of_ble_eq_true rfl) hF), (Nat.le_trans (Nat.le_of_ble_eq_true rfl) hL)⟩) (rcX22 hW) rfl hl.1 rfl (Nat.le_of_ble_eq_true rfl) dX4_haveOneNumber_52) hW (fun H locs hW => ?_)
            refine lv_istore_n (lv' := [(2, .int t11), (0, .ref (ad G 47)), (1, .int x1), (3, .int x3)]) hx hb dX4_haveOneNumber_55 rfl hl (by decide) rfl (fun ls hl => ?_)
            refine lv_iinc (v := x3 + 1) (lv' := [(3, .int (x3 + 1)), (2, .int t11), (0, .ref (ad G 47)), (1, .int x1)]) (k := 3) hx hb dX4_haveOneNumber_56 hl rfl rfl (by decide) rfl (fun ls hl => ?_)
            refine lv_goto (tgt := 5) hx hb dX4_haveOneNumber_59 (by decide) ?_
            exact ih _ _ h _ _ _ hW (lv_sub hl [2, 3, 1, 0] rfl)
          · have h := it_n q10 h
            refine lv_iconst (v := 0) hx hb dX4_haveOneNumber_45 (by decide) ?_
            cases h
            exact kr _ rfl _ _ _ _ rfl dX4_haveOneNumber_46 hW
      · have h := it_p q4 h
        refine lv_goto (tgt := 56) hx hb dX4_haveOneNumber_24 (by decide) ?_
        refine lv_iinc (v := x3 + 1) (lv' := [(3, .int (x3 + 1)), (0, .ref (ad G 47)), (1, .int x1), (2, .int x2)]) (k := 3) hx hb dX4_haveOneNumber_56 hl rfl rfl (by decide) rfl (fun ls hl => ?_)
        refine lv_goto (tgt := 5) hx hb dX4_haveOneNumber_59 (by decide) ?_
        exact ih _ _ h _ _ _ hW (lv_sub hl [1, 2, 3, 0] rfl)
def fX47_haveOneNumber (N : Nat) (S : St) (x1 : Int32) : Option (Int32) :=
  Option.bind (fX47_haveOneNumber_L5 N S x1 N (-9) 0) fun t13 => sm t13 fun u15 =>
  Option.bind (α := Int32) (
    if u15 = (-9) then
      some 0
    else
      some 1
  ) fun t17 =>
  gd (isb t17) <|
  some t17
set_option maxHeartbeats 4000000 in
set_option maxRecDepth 100000 in
theorem wX47_haveOneNumber {N : Nat} {S : St} {x1 : Int32} (hC : CallFix p m c cX4_haveOneNumber 4 s args lw_g RX4) (hF : 1 ≤ R.frames) (hL : 21 ≤ R.locals)  {v : Int32} (h : fX47_haveOneNumber N S x1 = some v) (kr : ∀ (H : Heap) (locs : List Loc) (ls : Array Slot) (pc : Nat), isb v = true → decode cX4_haveOneNumber pc = .ok (.ireturn, 1) → wg LX G S s H locs → W p l e R s m args below meth c H locs 0 0 Q (F0 m pc ls [.int v])) : ∀ (H : Heap) (locs : List Loc) (ls : Array Slot), wg LX G S s H locs → lv_has ls 4 [(0, .ref (ad G 47)), (1, .int x1)] → W p l e R s m args below meth c H locs 0 0 Q (F0 m 0 ls []) := by
  have hx := hC.1
  have hb := hC.2.1
  intro H locs ls hW hl
  unfold fX47_haveOneNumber at h
  refine lv_bipush (v := (-9)) hx hb dX4_haveOneNumber_0 (by decide) ?_
  refine lv_istore_n (lv' := [(2, .int (-9)), (0, .ref (ad G 47)), (1, .int x1)]) hx hb dX4_haveOneNumber_2 rfl hl (by decide) rfl (fun ls hl => ?_)
  refine lv_iconst (v := 0) hx hb dX4_haveOneNumber_3 (by decide) ?_
  refine lv_istore_n (lv' := [(3, .int 0), (2, .int (-9)), (0, .ref (ad G 47)), (1, .int x1)]) hx hb dX4_haveOneNumber_4 rfl hl (by decide) rfl (fun ls hl => ?_)
  obtain ⟨t13, e14, h⟩ := bd h
  refine wX47_haveOneNumber_L5 hC hF hL  (fun r er H locs ls pc hz hd hW => ?_) (fun u15 eu H locs ls hW hl => ?_) _ _ _ e14 _ _ _ hW (lv_sub hl [2, 3, 1, 0] rfl)
  · rw [er] at h
    have h := sm_l h
    cases h
    exact kr _ _ _ _ hz hd hW
  · rw [eu] at h
    have h := sm_r h
    refine lv_iload_n hx hb dX4_haveOneNumber_62 rfl (lv_at hl 0 rfl) ?_
    refine lv_bipush (v := (-9)) hx hb dX4_haveOneNumber_63 (by decide) ?_
    obtain ⟨t17, e18, h⟩ := bd h
    have K16 : ∀ (H : Heap) (locs : List Loc) (ls : Array Slot), wg LX G S s H locs → lv_has ls 4 [] → W p l e R s m args below meth c H locs 0 0 Q (F0 m 73 ls [.int t17]) := by
      intro H locs ls hW hl
      obtain ⟨g20, h⟩ := gd_some h
      cases h
      exact kr _ _ _ _ g20 dX4_haveOneNumber_73 hW
    clear h
    have h := e18
    clear e18
    refine lv_icmp_eq (tgt := 72) hx hb dX4_haveOneNumber_65 (by decide) (fun q19 => ?_) (fun q19 => ?_)
    · have h := it_p q19 h
      refine lv_iconst (v := 0) hx hb dX4_haveOneNumber_72 (by decide) ?_
      cases h
      exact K16 _ _ _ hW (lv_sub hl [] rfl)
    · have h := it_n q19 h
      refine lv_iconst (v := 1) hx hb dX4_haveOneNumber_68 (by decide) ?_
      refine lv_goto (tgt := 73) hx hb dX4_haveOneNumber_69 (by decide) ?_
      cases h
      exact K16 _ _ _ hW (lv_sub hl [] rfl)
theorem ctX47_haveOneNumber {N : Nat} {S : St} {x1 : Int32}  {v : Int32} (h : fX47_haveOneNumber N S x1 = some v) : Met l yX4_haveOneNumber (wm yX4_haveOneNumber cX4_haveOneNumber 4 (some .boolean)) (rmx 1 21) (pcm LX G S [.ref (ad G 47), .int x1]) (qcI LX G S v) 0 0 G.2.2.2 :=
  x_enter (own := RX4) rfl rfl (Nat.le_of_ble_eq_true rfl) (fun p e s m below meth c ls hC hr hk hW hl => wX47_haveOneNumber hC (Nat.le_refl _) (Nat.le_refl _)  h (fun H locs ls pc hz hd hW => x_retz hC hr hk hW hz hd) _ _ _ hW hl)
end GEN
