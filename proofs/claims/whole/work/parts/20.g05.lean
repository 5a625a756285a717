section GEN
variable {p : Program} {l : Launch} {e : Env} {R : Room} {s : State} {m : MethodId} {args : Array Value} {below : List Frame} {meth : Method} {c : Code} {H : Heap} {locs : List Loc} {Q : State → Prop} {G : GG}
def fX29_lastNamed_L3 (N : Nat) (S : St) (x1 : Int32) : Nat → Int32 → Option ((Int32) ⊕ (Unit))
  | 0, _ => none
  | n + 1, x2 =>
    if x2 < 0 then
      some (.inr ())
    else
      Option.bind (fX29_signOf S x1 x2) fun t2 =>
      if t2 = 0 then
        fX29_lastNamed_L3 N S x1 n (x2 + (-1))
      else
        some (.inl x2)
set_option maxHeartbeats 4000000 in
set_option maxRecDepth 100000 in
theorem wX29_lastNamed_L3 {N : Nat} {S : St} {x1 : Int32} (hC : CallFix p m c cX7_lastNamed 3 s args lw_g RX7) (hF : 2 ≤ R.frames) (hL : 43 ≤ R.locals)  {t : (Int32) ⊕ (Unit)} (kr : ∀ r, t = .inl r → ∀ (H : Heap) (locs : List Loc) (ls : Array Slot) (pc : Nat), decode cX7_lastNamed pc = .ok (.ireturn, 1) → wg LX G S s H locs → W p l e R s m args below meth c H locs 0 0 Q (F0 m pc ls [.int r])) (kx : ∀ u, t = .inr u → ∀ (H : Heap) (locs : List Loc) (ls : Array Slot), wg LX G S s H locs → lv_has ls 3 [] → W p l e R s m args below meth c H locs 0 0 Q (F0 m 24 ls [])) : ∀ (n : Nat) (x2 : Int32), fX29_lastNamed_L3 N S x1 n x2 = some t → ∀ (H : Heap) (locs : List Loc) (ls : Array Slot), wg LX G S s H locs → lv_has ls 3 [(0, .ref (ad G 29)), (1, .int x1), (2, .int x2)] → W p l e R s m args below meth c H locs 0 0 Q (F0 m 3 ls []) := by
  have hx := hC.1
  have hb := hC.2.1
  intro n
  induction n with
  | zero =>
    intro _ h
    cases h
  | succ n ih =>
    intro x2 h H locs ls hW hl
    rw [fX29_lastNamed_L3] at h
    refine lv_iload_n hx hb dX7_lastNamed_3 rfl (lv_at hl 2 rfl) ?_
    refine lv_if_lt (tgt := 24) hx hb dX7_lastNamed_4 (by decide) (fun q1 => ?_) (fun q1 => ?_)
    · have h := it_p q1 h
      cases h
      exact kx _ rfl _ _ _ hW (lv_sub hl [] rfl)
    · have h := it_n q1 h
      refine lv_aload_n hx hb dX7_lastNamed_7 rfl (lv_at hl 0 rfl) ?_
      refine lv_iload_n hx hb dX7_lastNamed_8 rfl (lv_at hl 1 rfl) ?_
      refine lv_iload_n hx hb dX7_lastNamed_9 rfl (lv_at hl 2 rfl) ?_
      obtain ⟨t2, e3, h⟩ := bd h
      refine x_goi (x_rv (rest := []) hC hW (ctX29_signOf e3) (cwV_g hC.2.2.2.2 ml_X7_39 mi_X7_signOf md_X7_signOf ⟨(Nat.le_trans (Nat.le_of_ble_eq_true rfl) hF), (Nat.le_trans (Nat.le_of_ble_eq_true rfl) hL)⟩) (rcX29 hW) rfl hl.1 rfl (Nat.le_of_ble_eq_true rfl) dX7_lastNamed_10) hW (fun H locs hW => ?_)
      refine lv_if_eq (tgt := 18) hx hb dX7_lastNamed_13 (by decide) (fun q4 => ?_) (fun q4 => ?_)
      · have h := it_p q4 h
        refine lv_iinc (v := x2 + (-1)) (lv' := [(2, .int (x2 + (-1))), (0, .ref (ad G 29)), (1, .int x1)]) (k := 2) hx hb dX7_lastNamed_18 hl rfl rfl (by decide) rfl (fun ls hl => ?_)
        refine lv_goto (tgt := 3) hx hb dX7_lastNamed_21 (by decide) ?_
        exact ih _ h _ _ _ hW (lv_sub hl [1, 2, 0] rfl)
      · have h := it_n q4 h
        refine lv_iload_n hx hb dX7_lastNamed_16 rfl (lv_at hl 2 rfl) ?_
        cases h
        exact kr _ rfl _ _ _ _ dX7_lastNamed_17 hW
def fX29_lastNamed (N : Nat) (S : St) (x1 : Int32) : Option (Int32) :=
  Option.bind (fX29_lastNamed_L3 N S x1 N 11) fun t5 => sm t5 fun u7 =>
  some (-1)
set_option maxHeartbeats 4000000 in
set_option maxRecDepth 100000 in
theorem wX29_lastNamed {N : Nat} {S : St} {x1 : Int32} (hC : CallFix p m c cX7_lastNamed 3 s args lw_g RX7) (hF : 2 ≤ R.frames) (hL : 43 ≤ R.locals)  {v : Int32} (h : fX29_lastNamed N S x1 = some v) (kr : ∀ (H : Heap) (locs : List Loc) (ls : Array Slot) (pc : Nat), decode cX7_lastNamed pc = .ok (.ireturn, 1) → wg LX G S s H locs → W p l e R s m args below meth c H locs 0 0 Q (F0 m pc ls [.int v])) : ∀ (H : Heap) (locs : List Loc) (ls : Array Slot), wg LX G S s H locs → lv_has ls 3 [(0, .ref (ad G 29)), (1, .int x1)] → W p l e R s m args below meth c H locs 0 0 Q (F0 m 0 ls []) := by
  have hx := hC.1
  have hb := hC.2.1
  intro H locs ls hW hl
  unfold fX29_lastNamed at h
  refine lv_bipush (v := 11) hx hb dX7_lastNamed_0 (by decide) ?_
  refine lv_istore_n (lv' := [(2, .int 11), (0, .ref (ad G 29)), (1, .int x1)]) hx hb dX7_lastNamed_2 rfl hl (by decide) rfl (fun ls hl => ?_)
  obtain ⟨t5, e6, h⟩ := bd h
  refine wX29_lastNamed_L3 hC hF hL  (fun r er H locs ls pc hd hW => ?_) (fun u7 eu H locs ls hW hl => ?_) _ _ e6 _ _ _ hW (lv_sub hl [1, 2, 0] rfl)
  · rw [er] at h
    have h := sm_l h
    cases h
    exact kr _ _ _ _ hd hW
  · rw [eu] at h
    have h := sm_r h
    refine lv_iconst (v := (-1)) hx hb dX7_lastNamed_24 (by decide) ?_
    cases h
    exact kr _ _ _ _ dX7_lastNamed_25 hW
theorem ctX29_lastNamed {N : Nat} {S : St} {x1 : Int32}  {v : Int32} (h : fX29_lastNamed N S x1 = some v) : Met l yX7_lastNamed (wm yX7_lastNamed cX7_lastNamed 3 (some .int)) (rmx 2 43) (pcm LX G S [.ref (ad G 29), .int x1]) (qcI LX G S v) 0 0 G.2.2.2 :=
  x_enter (own := RX7) rfl rfl (Nat.le_of_ble_eq_true rfl) (fun p e s m below meth c ls hC hr hk hW hl => wX29_lastNamed hC (Nat.le_refl _) (Nat.le_refl _)  h (fun H locs ls pc hd hW => x_reti hC hr hk hW hd) _ _ _ hW hl)
def fX37_setChecks_L2 (N : Nat) (x1 : Int32) : Nat → St → Int32 → Option (St)
  | 0, _, _ => none
  | n + 1, S, x2 =>
    if 12 ≤ x2 then
      some S
    else
      gd (inb x2 12) <|
      nx (p1 S 42 (Int32.toNatClampNeg x2) 0) fun s3 =>
      gd (inb x2 12) <|
      nx (p1 s3 43 (Int32.toNatClampNeg x2) 0) fun s6 =>
      fX37_setChecks_L2 N x1 n s6 (x2 + 1)
set_option maxHeartbeats 4000000 in
set_option maxRecDepth 100000 in
theorem wX37_setChecks_L2 {N : Nat} {x1 : Int32} (hC : CallFix p m c cX8_setChecks 4 s args lw_g RX8) (hF : 3 ≤ R.frames) (hL : 65 ≤ R.locals)  {t : St} (kx : ∀ (H : Heap) (locs : List Loc) (ls : Array Slot), wg LX G t s H locs → lv_has ls 4 [(0, .ref (ad G 37)), (1, .int x1)] → W p l e R s m args below meth c H locs 0 0 Q (F0 m 28 ls [])) : ∀ (n : Nat) (S : St) (x2 : Int32), fX37_setChecks_L2 N x1 n S x2 = some t → ∀ (H : Heap) (locs : List Loc) (ls : Array Slot), wg LX G S s H locs → lv_has ls 4 [(0, .ref (ad G 37)), (1, .int x1), (2, .int x2)] → W p l e R s m args below meth c H locs 0 0 Q (F0 m 2 ls []) := by
  have hx := hC.1
  have hb := hC.2.1
  intro n
  induction n with
  | zero =>
    intro _ _ h
    cases h
  | succ n ih =>
    intro S x2 h H locs ls hW hl
    rw [fX37_setChecks_L2] at h
    refine lv_iload_n hx hb dX8_setChecks_2 rfl (lv_at hl 2 rfl) ?_
    refine lv_bipush (v := 12) hx hb dX8_setChecks_3 (by decide) ?_
    refine lv_icmp_ge (tgt := 28) hx hb dX8_setChecks_5 (by decide) (fun q1 => ?_) (fun q1 => ?_)
    · have h := it_p q1 h
      cases h
      exact kx _ _ _ hW (lv_sub hl [0, 1] rfl)
    · have h := it_n q1 h
      refine lv_aload_n hx hb dX8_setChecks_8 rfl (lv_at hl 0 rfl) ?_
      refine gX37_7 hC hW dX8_setChecks_9 ?_
      refine lv_iload_n hx hb dX8_setChecks_12 rfl (lv_at hl 2 rfl) ?_
      refine lv_iconst (v := 0) hx hb dX8_setChecks_13 (by decide) ?_
      obtain ⟨g2, h⟩ := gd_some h
      refine x_iast hC hW aX42 g2 dX8_setChecks_14 (fun H locs hW => ?_)
      obtain ⟨s3, e4, h⟩ := nx_some h
      rw [← e4] at hW
      refine lv_aload_n hx hb dX8_setChecks_15 rfl (lv_at hl 0 rfl) ?_
      refine gX37_8 hC hW dX8_setChecks_16 ?_
      refine lv_iload_n hx hb dX8_setChecks_19 rfl (lv_at hl 2 rfl) ?_
      refine lv_iconst (v := 0) hx hb dX8_setChecks_20 (by decide) ?_
      obtain ⟨g5, h⟩ := gd_some h
      refine x_iast hC hW aX43 g5 dX8_setChecks_21 (fun H locs hW => ?_)
      obtain ⟨s6, e7, h⟩ := nx_some h
      rw [← e7] at hW
      refine lv_iinc (v := x2 + 1) (lv' := [(2, .int (x2 + 1)), (0, .ref (ad G 37)), (1, .int x1)]) (k := 2) hx hb dX8_setChecks_22 hl rfl rfl (by decide) rfl (fun ls hl => ?_)
      refine lv_goto (tgt := 2) hx hb dX8_setChecks_25 (by decide) ?_
      exact ih _ _ h _ _ _ hW (lv_sub hl [1, 2, 0] rfl)
def fX37_setChecks_L30 (N : Nat) (x1 : Int32) : Nat → St → Int32 → Option (St)
  | 0, _, _ => none
  | n + 1, S, x2 =>
    if 12 ≤ x2 then
      some S
    else
      Option.bind (fX25_looksAtOthers S x2) fun t11 =>
      Option.bind (α := St) (
        if t11 = 0 then
          some S
        else
          Option.bind (fX25_lastNamed S x2) fun t17 =>
          gd (inb t17 12) <|
          gd (inb t17 12) <|
          nx (p1 S 42 (Int32.toNatClampNeg t17) ((S.1 42 (Int32.toNatClampNeg t17)) ||| (1 <<< (x2 &&& 31)))) fun s21 =>
          some s21
      ) fun t14 =>
      fX37_setChecks_L30 N x1 n t14 (x2 + 1)
set_option maxHeartbeats 4000000 in
set_option maxRecDepth 100000 in
theorem wX37_setChecks_L30 {N : Nat} {x1 : Int32} (hC : CallFix p m c cX8_setChecks 4 s args lw_g RX8) (hF : 3 ≤ R.frames) (hL : 65 ≤ R.locals)  {t : St} (kx : ∀ (H : Heap) (locs : List Loc) (ls : Array Slot), wg LX G t s H locs → lv_has ls 4 [(0, .ref (ad G 37)), (1, .int x1)] → W p l e R s m args below meth c H locs 0 0 Q (F0 m 72 ls [])) : ∀ (n : Nat) (S : St) (x2 : Int32), fX37_setChecks_L30 N x1 n S x2 = some t → ∀ (H : Heap) (locs : List Loc) (ls : Array Slot), wg LX G S s H locs → lv_has ls 4 [(0, .ref (ad G 37)), (1, .int x1), (2, .int x2)] → W p l e R s m args below meth c H locs 0 0 Q (F0 m 30 ls []) := by
  have hx := hC.1
  have hb := hC.2.1
  intro n
  induction n with
  | zero =>
    intro _ _ h
    cases h
  | succ n ih =>
    intro S x2 h H locs ls hW hl
    rw [fX37_setChecks_L30] at h
    refine lv_iload_n hx hb dX8_setChecks_30 rfl (lv_at hl 2 rfl) ?_
    refine lv_bipush (v := 12) hx hb dX8_setChecks_31 (by decide) ?_
    refine lv_icmp_ge (tgt := 72) hx hb dX8_setChecks_33 (by decide) (fun q10 => ?_) (fun q10 => ?_)
    · have h := it_p q10 h
      cases h
      exact kx _ _ _ hW (lv_sub hl [0, 1] rfl)
    · have h := it_n q10 h
      refine lv_aload_n hx hb dX8_setChecks_36 rfl (lv_at hl 0 rfl) ?_
      refine gX37_0 hC hW dX8_setChecks_37 ?_
      refine lv_iload_n hx hb dX8_setChecks_40 rfl (lv_at hl 2 rfl) ?_
      obtain ⟨t11, e12, h⟩ := bd h
      refine x_goi (x_rv (rest := []) hC hW (ctX25_looksAtOthers e12) (cwV_g hC.2.2.2.2 ml_X8_79 mi_X0_looksAtOthers md_X0_looksAtOthers ⟨(Nat.le_trans (Nat.le_of_ble_eq_true rfl) hF), (Nat.le_trans (Nat.le_of_ble_eq_true rfl) hL)⟩) (rcX25 hW) rfl hl.1 rfl (Nat.le_of_ble_eq_true rfl) dX8_setChecks_41) hW (fun H locs hW => ?_)
      obtain ⟨t14, e15, h⟩ := bd h
      have K13 : ∀ (H : Heap) (locs : List Loc) (ls : Array Slot), wg LX G t14 s H locs → lv_has ls 4 [(0, .ref (ad G 37)), (1, .int x1), (2, .int x2)] → W p l e R s m args below meth c H locs 0 0 Q (F0 m 66 ls []) := by
        intro H locs ls hW hl
        refine lv_iinc (v := x2 + 1) (lv' := [(2, .int (x2 + 1)), (0, .ref (ad G 37)), (1, .int x1)]) (k := 2) hx hb dX8_setChecks_66 hl rfl rfl (by decide) rfl (fun ls hl => ?_)
        refine lv_goto (tgt := 30) hx hb dX8_setChecks_69 (by decide) ?_
        exact ih _ _ h _ _ _ hW (lv_sub hl [1, 2, 0] rfl)
      clear h
      have h := e15
      clear e15
      refine lv_if_eq (tgt := 66) hx hb dX8_setChecks_44 (by decide) (fun q16 => ?_) (fun q16 => ?_)
      · have h := it_p q16 h
        cases h
        exact K13 _ _ _ hW (lv_sub hl [0, 1, 2] rfl)
      · have h := it_n q16 h
        refine lv_aload_n hx hb dX8_setChecks_47 rfl (lv_at hl 0 rfl) ?_
        refine gX37_7 hC hW dX8_setChecks_48 ?_
        refine lv_aload_n hx hb dX8_setChecks_51 rfl (lv_at hl 0 rfl) ?_
        refine gX37_0 hC hW dX8_setChecks_52 ?_
        refine lv_iload_n hx hb dX8_setChecks_55 rfl (lv_at hl 2 rfl) ?_
        obtain ⟨t17, e18, h⟩ := bd h
        refine x_goi (x_rv (rest := [.ref (ad G 42)]) hC hW (ctX25_lastNamed e18) (cwV_g hC.2.2.2.2 ml_X8_84 mi_X0_lastNamed md_X0_lastNamed ⟨(Nat.le_trans (Nat.le_of_ble_eq_true rfl) hF), (Nat.le_trans (Nat.le_of_ble_eq_true rfl) hL)⟩) (rcX25 hW) rfl hl.1 rfl (Nat.le_of_ble_eq_true rfl) dX8_setChecks_56) hW (fun H locs hW => ?_)
        refine lv_dup2_11 hx hb dX8_setChecks_59 rfl rfl ?_
        obtain ⟨g19, h⟩ := gd_some h
        refine x_iald hC hW aX42 g19 dX8_setChecks_60 ?_
        refine lv_iconst (v := 1) hx hb dX8_setChecks_61 (by decide) ?_
        refine lv_iload_n hx hb dX8_setChecks_62 rfl (lv_at hl 2 rfl) ?_
        refine lv_ishl hx hb dX8_setChecks_63 ?_
        refine lv_ior hx hb dX8_setChecks_64 ?_
        obtain ⟨g20, h⟩ := gd_some h
        refine x_iast hC hW aX42 g20 dX8_setChecks_65 (fun H locs hW => ?_)
        obtain ⟨s21, e22, h⟩ := nx_some h
        rw [← e22] at hW
        cases h
        exact K13 _ _ _ hW (lv_sub hl [0, 1, 2] rfl)
def fX37_setChecks_L74 (N : Nat) (x1 : Int32) : Nat → St → Int32 → Option ((Int32 × St) ⊕ (St))
  | 0, _, _ => none
  | n + 1, S, x2 =>
    Option.bind (fX29_howMany S) fun t25 =>
    if t25 ≤ x2 then
      some (.inr S)
    else
      Option.bind (fX29_lastNamed N S x2) fun t28 =>
      if ((x1 >>> (x2 &&& 31)) &&& 1) = 0 then
        if t28 < 0 then
          Option.bind (fX29_totalOf S x2) fun t32 =>
          if t32 = 0 then
            fX37_setChecks_L74 N x1 n S (x2 + 1)
          else
            some (.inl (0, S))
        else
          gd (inb t28 12) <|
          gd (inb t28 12) <|
          nx (p1 S 43 (Int32.toNatClampNeg t28) ((S.1 43 (Int32.toNatClampNeg t28)) ||| (1 <<< (x2 &&& 31)))) fun s37 =>
          fX37_setChecks_L74 N x1 n s37 (x2 + 1)
      else
        fX37_setChecks_L74 N x1 n S (x2 + 1)
set_option maxHeartbeats 4000000 in
set_option maxRecDepth 100000 in
theorem wX37_setChecks_L74 {N : Nat} {x1 : Int32} (hC : CallFix p m c cX8_setChecks 4 s args lw_g RX8) (hF : 3 ≤ R.frames) (hL : 65 ≤ R.locals)  {t : (Int32 × St) ⊕ (St)} (kr : ∀ r, t = .inl r → ∀ (H : Heap) (locs : List Loc) (ls : Array Slot) (pc : Nat), isb r.1 = true → decode cX8_setChecks pc = .ok (.ireturn, 1) → wg LX G r.2 s H locs → W p l e R s m args below meth c H locs 0 0 Q (F0 m pc ls [.int r.1])) (kx : ∀ u, t = .inr u → ∀ (H : Heap) (locs : List Loc) (ls : Array Slot), wg LX G u s H locs → lv_has ls 4 [] → W p l e R s m args below meth c H locs 0 0 Q (F0 m 143 ls [])) : ∀ (n : Nat) (S : St) (x2 : Int32), fX37_setChecks_L74 N x1 n S x2 = some t → ∀ (H : Heap) (locs : List Loc) (ls : Array Slot), wg LX G S s H locs → lv_has ls 4 [(0, .ref (ad G 37)), (1, .int x1), (2, .int x2)] → W p l e R s m args below meth c H locs 0 0 Q (F0 m 74 ls []) := by
  have hx := hC.1
  have hb := hC.2.1
  intro n
  induction n with
  | zero =>
    intro _ _ h
    cases h
  | succ n ih =>
    intro S x2 h H locs ls hW hl
    rw [fX37_setChecks_L74] at h
    refine lv_iload_n hx hb dX8_setChecks_74 rfl (lv_at hl 2 rfl) ?_
    refine lv_aload_n hx hb dX8_setChecks_75 rfl (lv_at hl 0 rfl) ?_
    refine gX37_1 hC hW dX8_setChecks_76 ?_
    obtain ⟨t25, e26, h⟩ := bd h
    refine x_goi (x_rv (rest := [.int x2]) hC hW (ctX29_howMany e26) (cwV_g hC.2.2.2.2 ml_X8_88 mi_X7_howMany md_X7_howMany ⟨(Nat.le_trans (Nat.le_of_ble_eq_true rfl) hF), (Nat.le_trans (Nat.le_of_ble_eq_true rfl) hL)⟩) (rcX29 hW) rfl hl.1 rfl (Nat.le_of_ble_eq_true rfl) dX8_setChecks_79) hW (fun H locs hW => ?_)
    refine lv_icmp_ge (tgt := 143) hx hb dX8_setChecks_82 (by decide) (fun q27 => ?_) (fun q27 => ?_)
    · have h := it_p q27 h
      cases h
      exact kx _ rfl _ _ _ hW (lv_sub hl [] rfl)
    · have h := it_n q27 h
      refine lv_aload_n hx hb dX8_setChecks_85 rfl (lv_at hl 0 rfl) ?_
      refine gX37_1 hC hW dX8_setChecks_86 ?_
      refine lv_iload_n hx hb dX8_setChecks_89 rfl (lv_at hl 2 rfl) ?_
      obtain ⟨t28, e29, h⟩ := bd h
      refine x_goi (x_rv (rest := []) hC hW (ctX29_lastNamed e29) (cwV_g hC.2.2.2.2 ml_X8_94 mi_X7_lastNamed md_X7_lastNamed ⟨(Nat.le_trans (Nat.le_of_ble_eq_true rfl) hF), (Nat.le_trans (Nat.le_of_ble_eq_true rfl) hL)⟩) (rcX29 hW) rfl hl.1 rfl (Nat.le_of_ble_eq_true rfl) dX8_setChecks_90) hW (fun H locs hW => ?_)
      refine lv_istore_n (lv' := [(3, .int t28), (0, .ref (ad G 37)), (1, .int x1), (2, .int x2)]) hx hb dX8_setChecks_93 rfl hl (by decide) rfl (fun ls hl => ?_)
      refine lv_iload_n hx hb dX8_setChecks_94 rfl (lv_at hl 2 rfl) ?_
      refine lv_iload_n hx hb dX8_setChecks_95 rfl (lv_at hl 3 rfl) ?_
      refine lv_ishr hx hb dX8_setChecks_96 ?_
      refine lv_iconst (v := 1) hx hb dX8_setChecks_97 (by decide) ?_
      refine lv_iand hx hb dX8_setChecks_98 ?_
      refine lv_if_eq (tgt := 105) hx hb dX8_setChecks_99 (by decide) (fun q30 => ?_) (fun q30 => ?_)
      · have h := it_p q30 h
        refine lv_iload_n hx hb dX8_setChecks_105 rfl (lv_at hl 0 rfl) ?_
        refine lv_if_lt (tgt := 124) hx hb dX8_setChecks_106 (by decide) (fun q31 => ?_) (fun q31 => ?_)
        · have h := it_p q31 h
          refine lv_aload_n hx hb dX8_setChecks_124 rfl (lv_at hl 1 rfl) ?_
          refine gX37_1 hC hW dX8_setChecks_125 ?_
          refine lv_iload_n hx hb dX8_setChecks_128 rfl (lv_at hl 3 rfl) ?_
          obtain ⟨t32, e33, h⟩ := bd h
          refine x_goi (x_rv (rest := []) hC hW (ctX29_totalOf e33) (cwV_g hC.2.2.2.2 ml_X8_95 mi_X7_totalOf md_X7_totalOf ⟨(Nat.le_trans (Nat.le_of_ble_eq_true rfl) hF), (Nat.le_trans (Nat.le_of_ble_eq_true rfl) hL)⟩) (rcX29 hW) rfl hl.1 rfl (Nat.le_of_ble_eq_true rfl) dX8_setChecks_129) hW (fun H locs hW => ?_)
          refine lv_if_eq (tgt := 137) hx hb dX8_setChecks_132 (by decide) (fun q34 => ?_) (fun q34 => ?_)
          · have h := it_p q34 h
            refine lv_iinc (v := x2 + 1) (lv' := [(2, .int (x2 + 1)), (3, .int t28), (0, .ref (ad G 37)), (1, .int x1)]) (k := 3) hx hb dX8_setChecks_137 hl rfl rfl (by decide) rfl (fun ls hl => ?_)
            refine lv_goto (tgt := 74) hx hb dX8_setChecks_140 (by decide) ?_
            exact ih _ _ h _ _ _ hW (lv_sub hl [2, 3, 0] rfl)
          · have h := it_n q34 h
            refine lv_iconst (v := 0) hx hb dX8_setChecks_135 (by decide) ?_
            cases h
            exact kr _ rfl _ _ _ _ rfl dX8_setChecks_136 hW
        · have h := it_n q31 h
          refine lv_aload_n hx hb dX8_setChecks_109 rfl (lv_at hl 1 rfl) ?_
          refine gX37_8 hC hW dX8_setChecks_110 ?_
          refine lv_iload_n hx hb dX8_setChecks_113 rfl (lv_at hl 0 rfl) ?_
          refine lv_dup2_11 hx hb dX8_setChecks_114 rfl rfl ?_
          obtain ⟨g35, h⟩ := gd_some h
          refine x_iald hC hW aX43 g35 dX8_setChecks_115 ?_
          refine lv_iconst (v := 1) hx hb dX8_setChecks_116 (by decide) ?_
          refine lv_iload_n hx hb dX8_setChecks_117 rfl (lv_at hl 3 rfl) ?_
          refine lv_ishl hx hb dX8_setChecks_118 ?_
          refine lv_ior hx hb dX8_setChecks_119 ?_
          obtain ⟨g36, h⟩ := gd_some h
          refine x_iast hC hW aX43 g36 dX8_setChecks_120 (fun H locs hW => ?_)
          obtain ⟨s37, e38, h⟩ := nx_some h
          rw [← e38] at hW
          refine lv_goto (tgt := 137) hx hb dX8_setChecks_121 (by decide) ?_
          refine lv_iinc (v := x2 + 1) (lv' := [(2, .int (x2 + 1)), (3, .int t28), (0, .ref (ad G 37)), (1, .int x1)]) (k := 3) hx hb dX8_setChecks_137 hl rfl rfl (by decide) rfl (fun ls hl => ?_)
          refine lv_goto (tgt := 74) hx hb dX8_setChecks_140 (by decide) ?_
          exact ih _ _ h _ _ _ hW (lv_sub hl [2, 3, 0] rfl)
      · have h := it_n q30 h
        refine lv_goto (tgt := 137) hx hb dX8_setChecks_102 (by decide) ?_
        refine lv_iinc (v := x2 + 1) (lv' := [(2, .int (x2 + 1)), (3, .int t28), (0, .ref (ad G 37)), (1, .int x1)]) (k := 3) hx hb dX8_setChecks_137 hl rfl rfl (by decide) rfl (fun ls hl => ?_)
        refine lv_goto (tgt := 74) hx hb dX8_setChecks_140 (by decide) ?_
        exact ih _ _ h _ _ _ hW (lv_sub hl [2, 3, 0] rfl)
def fX37_setChecks (N : Nat) (S : St) (x1 : Int32) : Option (Int32 × St) :=
  Option.bind (fX37_setChecks_L2 N x1 N S 0) fun t8 =>
  Option.bind (fX37_setChecks_L30 N x1 N t8 0) fun t23 =>
  Option.bind (fX37_setChecks_L74 N x1 N t23 0) fun t39 => sm t39 fun u41 =>
  some (1, u41)
set_option maxHeartbeats 4000000 in
set_option maxRecDepth 100000 in
theorem wX37_setChecks {N : Nat} {S : St} {x1 : Int32} (hC : CallFix p m c cX8_setChecks 4 s args lw_g RX8) (hF : 3 ≤ R.frames) (hL : 65 ≤ R.locals)  {v : Int32} {S' : St} (h : fX37_setChecks N S x1 = some (v, S')) (kr : ∀ (H : Heap) (locs : List Loc) (ls : Array Slot) (pc : Nat), isb v = true → decode cX8_setChecks pc = .ok (.ireturn, 1) → wg LX G (S') s H locs → W p l e R s m args below meth c H locs 0 0 Q (F0 m pc ls [.int v])) : ∀ (H : Heap) (locs : List Loc) (ls : Array Slot), wg LX G S s H locs → lv_has ls 4 [(0, .ref (ad G 37)), (1, .int x1)] → W p l e R s m args below meth c H locs 0 0 Q (F0 m 0 ls []) := by
  have hx := hC.1
  have hb := hC.2.1
  intro H locs ls hW hl
  unfold fX37_setChecks at h
  refine lv_iconst (v := 0) hx hb dX8_setChecks_0 (by decide) ?_
  refine lv_istore_n (lv' := [(2, .int 0), (0, .ref (ad G 37)), (1, .int x1)]) hx hb dX8_setChecks_1 rfl hl (by decide) rfl (fun ls hl => ?_)
  obtain ⟨t8, e9, h⟩ := bd h
  refine wX37_setChecks_L2 hC hF hL  (fun H locs ls hW hl => ?_) _ _ _ e9 _ _ _ hW (lv_sub hl [1, 2, 0] rfl)
  refine lv_iconst (v := 0) hx hb dX8_setChecks_28 (by decide) ?_
  refine lv_istore_n (lv' := [(2, .int 0), (0, .ref (ad G 37)), (1, .int x1)]) hx hb dX8_setChecks_29 rfl hl (by decide) rfl (fun ls hl => ?_)
  obtain ⟨t23, e24, h⟩ := bd h
  refine wX37_setChecks_L30 hC hF hL  (fun H locs ls hW hl => ?_) _ _ _ e24 _ _ _ hW (lv_sub hl [1, 2, 0] rfl)
  refine lv_iconst (v := 0) hx hb dX8_setChecks_72 (by decide) ?_
  refine lv_istore_n (lv' := [(2, .int 0), (0, .ref (ad G 37)), (1, .int x1)]) hx hb dX8_setChecks_73 rfl hl (by decide) rfl (fun ls hl => ?_)
  obtain ⟨t39, e40, h⟩ := bd h
  refine wX37_setChecks_L74 hC hF hL  (fun r er H locs ls pc hz hd hW => ?_) (fun u41 eu H locs ls hW hl => ?_) _ _ _ e40 _ _ _ hW (lv_sub hl [1, 2, 0] rfl)
  · rw [er] at h
    have h := sm_l h
    cases h
    exact kr _ _ _ _ hz hd hW
  · rw [eu] at h
    have h := sm_r h
    refine lv_iconst (v := 1) hx hb dX8_setChecks_143 (by decide) ?_
    cases h
    exact kr _ _ _ _ rfl dX8_setChecks_144 hW
theorem ctX37_setChecks {N : Nat} {S : St} {x1 : Int32}  {v : Int32} {S' : St} (h : fX37_setChecks N S x1 = some (v, S')) : Met l yX8_setChecks (wm yX8_setChecks cX8_setChecks 4 (some .boolean)) (rmx 3 65) (pcm LX G S [.ref (ad G 37), .int x1]) (qcI LX G S' v) 0 0 G.2.2.2 :=
  x_enter (own := RX8) rfl rfl (Nat.le_of_ble_eq_true rfl) (fun p e s m below meth c ls hC hr hk hW hl => wX37_setChecks hC (Nat.le_refl _) (Nat.le_refl _)  h (fun H locs ls pc hz hd hW => x_retz hC hr hk hW hz hd) _ _ _ hW hl)
def fX37_isEnded (S : St)  : Option (Int32) :=
  Option.bind (α := Int32) (
    if (S.1 37 14) = 0 then
      if (S.1 37 15) = 0 then
        some 0
      else
        some 1
    else
      some 1
  ) fun t2 =>
  gd (isb t2) <|
  some t2
set_option maxHeartbeats 4000000 in
set_option maxRecDepth 100000 in
theorem wX37_isEnded {S : St}  (hC : CallFix p m c cX8_isEnded 1 s args lw_g RX8) (hF : 0 ≤ R.frames) (hL : 0 ≤ R.locals)  {v : Int32} (h : fX37_isEnded S = some v) (kr : ∀ (H : Heap) (locs : List Loc) (ls : Array Slot) (pc : Nat), isb v = true → decode cX8_isEnded pc = .ok (.ireturn, 1) → wg LX G S s H locs → W p l e R s m args below meth c H locs 0 0 Q (F0 m pc ls [.int v])) : ∀ (H : Heap) (locs : List Loc) (ls : Array Slot), wg LX G S s H locs → lv_has ls 1 [(0, .ref (ad G 37))] → W p l e R s m args below meth c H locs 0 0 Q (F0 m 0 ls []) := by
  have hx := hC.1
  have hb := hC.2.1
  intro H locs ls hW hl
  unfold fX37_isEnded at h
  refine lv_aload_n hx hb dX8_isEnded_0 rfl (lv_at hl 0 rfl) ?_
  refine gX37_14 hC hW dX8_isEnded_1 ?_
  obtain ⟨t2, e3, h⟩ := bd h
  have K1 : ∀ (H : Heap) (locs : List Loc) (ls : Array Slot), wg LX G S s H locs → lv_has ls 1 [] → W p l e R s m args below meth c H locs 0 0 Q (F0 m 19 ls [.int t2]) := by
    intro H locs ls hW hl
    obtain ⟨g6, h⟩ := gd_some h
    cases h
    exact kr _ _ _ _ g6 dX8_isEnded_19 hW
  clear h
  have h := e3
  clear e3
  refine lv_if_ne (tgt := 14) hx hb dX8_isEnded_4 (by decide) (fun q4 => ?_) (fun q4 => ?_)
  · have h := it_n q4 h
    refine lv_iconst (v := 1) hx hb dX8_isEnded_14 (by decide) ?_
    refine lv_goto (tgt := 19) hx hb dX8_isEnded_15 (by decide) ?_
    cases h
    exact K1 _ _ _ hW (lv_sub hl [] rfl)
  · have h := it_p q4 h
    refine lv_aload_n hx hb dX8_isEnded_7 rfl (lv_at hl 0 rfl) ?_
    refine gX37_15 hC hW dX8_isEnded_8 ?_
    refine lv_if_eq (tgt := 18) hx hb dX8_isEnded_11 (by decide) (fun q5 => ?_) (fun q5 => ?_)
    · have h := it_p q5 h
      refine lv_iconst (v := 0) hx hb dX8_isEnded_18 (by decide) ?_
      cases h
      exact K1 _ _ _ hW (lv_sub hl [] rfl)
    · have h := it_n q5 h
      refine lv_iconst (v := 1) hx hb dX8_isEnded_14 (by decide) ?_
      refine lv_goto (tgt := 19) hx hb dX8_isEnded_15 (by decide) ?_
      cases h
      exact K1 _ _ _ hW (lv_sub hl [] rfl)
theorem ctX37_isEnded {S : St}   {v : Int32} (h : fX37_isEnded S = some v) : Met l yX8_isEnded (wm yX8_isEnded cX8_isEnded 1 (some .boolean)) (rmx 0 0) (pcm LX G S [.ref (ad G 37)]) (qcI LX G S v) 0 0 G.2.2.2 :=
  x_enter (own := RX8) rfl rfl (Nat.le_of_ble_eq_true rfl) (fun p e s m below meth c ls hC hr hk hW hl => wX37_isEnded hC (Nat.le_refl _) (Nat.le_refl _)  h (fun H locs ls pc hz hd hW => x_retz hC hr hk hW hz hd) _ _ _ hW hl)
def fX25_sameUpTo_L5 (N : Nat) (S : St) (x1 : Int32) (k2 : Nat) : Nat → Int32 → Int32 → Option (Int32)
  | 0, _, _ => none
  | n + 1, x3, x4 =>
    if x1 < x4 then
      some x3
    else
      gd (inb x4 12) <|
      Option.bind (α := Int32) (
        if (S.1 26 (Int32.toNatClampNeg x4)) = 3 then
          gd (inb x4 (lenX k2)) <|
          gd (inb x1 (lenX k2)) <|
          if (S.1 k2 (Int32.toNatClampNeg x4)) = (S.1 k2 (Int32.toNatClampNeg x1)) then
            some (x3 + 1)
          else
            some x3
        else
          some x3
      ) fun t4 =>
      fX25_sameUpTo_L5 N S x1 k2 n t4 (x4 + 1)
set_option maxHeartbeats 4000000 in
set_option maxRecDepth 100000 in
theorem wX25_sameUpTo_L5 {N : Nat} {S : St} {x1 : Int32} {k2 : Nat} (hC : CallFix p m c cX0_sameUpTo 5 s args lw_g RX0) (hF : 0 ≤ R.frames) (hL : 0 ≤ R.locals) (ha2 : isA LX k2 (lenX k2)) {t : Int32} (kx : ∀ (H : Heap) (locs : List Loc) (ls : Array Slot), wg LX G S s H locs → lv_has ls 5 [(3, .int t)] → W p l e R s m args below meth c H locs 0 0 Q (F0 m 41 ls [])) : ∀ (n : Nat) (x3 : Int32) (x4 : Int32), fX25_sameUpTo_L5 N S x1 k2 n x3 x4 = some t → ∀ (H : Heap) (locs : List Loc) (ls : Array Slot), wg LX G S s H locs → lv_has ls 5 [(0, .ref (ad G 25)), (1, .int x1), (2, .ref (ad G k2)), (3, .int x3), (4, .int x4)] → W p l e R s m args below meth c H locs 0 0 Q (F0 m 5 ls []) := by
  have hx := hC.1
  have hb := hC.2.1
  intro n
  induction n with
  | zero =>
    intro _ _ h
    cases h
  | succ n ih =>
    intro x3 x4 h H locs ls hW hl
    rw [fX25_sameUpTo_L5] at h
    refine lv_iload hx hb dX0_sameUpTo_5 (lv_at hl 4 rfl) ?_
    refine lv_iload_n hx hb dX0_sameUpTo_7 rfl (lv_at hl 1 rfl) ?_
    refine lv_icmp_gt (tgt := 41) hx hb dX0_sameUpTo_8 (by decide) (fun q1 => ?_) (fun q1 => ?_)
    · have h := it_p q1 h
      cases h
      exact kx _ _ _ hW (lv_sub hl [3] rfl)
    · have h := it_n q1 h
      refine lv_aload_n hx hb dX0_sameUpTo_11 rfl (lv_at hl 0 rfl) ?_
      refine gX25_1 hC hW dX0_sameUpTo_12 ?_
      refine lv_iload hx hb dX0_sameUpTo_15 (lv_at hl 4 rfl) ?_
      obtain ⟨g2, h⟩ := gd_some h
      refine x_iald hC hW aX26 g2 dX0_sameUpTo_17 ?_
      refine lv_iconst (v := 3) hx hb dX0_sameUpTo_18 (by decide) ?_
      obtain ⟨t4, e5, h⟩ := bd h
      have K3 : ∀ (H : Heap) (locs : List Loc) (ls : Array Slot), wg LX G S s H locs → lv_has ls 5 [(0, .ref (ad G 25)), (1, .int x1), (2, .ref (ad G k2)), (3, .int t4), (4, .int x4)] → W p l e R s m args below meth c H locs 0 0 Q (F0 m 35 ls []) := by
        intro H locs ls hW hl
        refine lv_iinc (v := x4 + 1) (lv' := [(4, .int (x4 + 1)), (0, .ref (ad G 25)), (1, .int x1), (2, .ref (ad G k2)), (3, .int t4)]) (k := 4) hx hb dX0_sameUpTo_35 hl rfl rfl (by decide) rfl (fun ls hl => ?_)
        refine lv_goto (tgt := 5) hx hb dX0_sameUpTo_38 (by decide) ?_
        exact ih _ _ h _ _ _ hW (lv_sub hl [1, 2, 3, 4, 0] rfl)
      clear h
      have h := e5
      clear e5
      refine lv_icmp_ne (tgt := 35) hx hb dX0_sameUpTo_19 (by decide) (fun q6 => ?_) (fun q6 => ?_)
      · have h := it_n q6 h
        cases h
        exact K3 _ _ _ hW (lv_sub hl [0, 1, 2, 3, 4] rfl)
      · have h := it_p q6 h
        refine lv_aload_n hx hb dX0_sameUpTo_22 rfl (lv_at hl 2 rfl) ?_
        refine lv_iload hx hb dX0_sameUpTo_23 (lv_at hl 4 rfl) ?_
        obtain ⟨g7, h⟩ := gd_some h
        refine x_iald hC hW ha2 g7 dX0_sameUpTo_25 ?_
        refine lv_aload_n hx hb dX0_sameUpTo_26 rfl (lv_at hl 2 rfl) ?_
        refine lv_iload_n hx hb dX0_sameUpTo_27 rfl (lv_at hl 1 rfl) ?_
        obtain ⟨g8, h⟩ := gd_some h
        refine x_iald hC hW ha2 g8 dX0_sameUpTo_28 ?_
        refine lv_icmp_ne (tgt := 35) hx hb dX0_sameUpTo_29 (by decide) (fun q9 => ?_) (fun q9 => ?_)
        · have h := it_n q9 h
          cases h
          exact K3 _ _ _ hW (lv_sub hl [0, 1, 2, 3, 4] rfl)
        · have h := it_p q9 h
          refine lv_iinc (v := x3 + 1) (lv' := [(3, .int (x3 + 1)), (0, .ref (ad G 25)), (1, .int x1), (2, .ref (ad G k2)), (4, .int x4)]) (k := 3) hx hb dX0_sameUpTo_32 hl rfl rfl (by decide) rfl (fun ls hl => ?_)
          cases h
          exact K3 _ _ _ hW (lv_sub hl [1, 2, 3, 0, 4] rfl)
def fX25_sameUpTo (N : Nat) (S : St) (x1 : Int32) (k2 : Nat) : Option (Int32) :=
  Option.bind (fX25_sameUpTo_L5 N S x1 k2 N 0 0) fun t10 =>
  some t10
set_option maxHeartbeats 4000000 in
set_option maxRecDepth 100000 in
theorem wX25_sameUpTo {N : Nat} {S : St} {x1 : Int32} {k2 : Nat} (hC : CallFix p m c cX0_sameUpTo 5 s args lw_g RX0) (hF : 0 ≤ R.frames) (hL : 0 ≤ R.locals) (ha2 : isA LX k2 (lenX k2)) {v : Int32} (h : fX25_sameUpTo N S x1 k2 = some v) (kr : ∀ (H : Heap) (locs : List Loc) (ls : Array Slot) (pc : Nat), decode cX0_sameUpTo pc = .ok (.ireturn, 1) → wg LX G S s H locs → W p l e R s m args below meth c H locs 0 0 Q (F0 m pc ls [.int v])) : ∀ (H : Heap) (locs : List Loc) (ls : Array Slot), wg LX G S s H locs → lv_has ls 5 [(0, .ref (ad G 25)), (1, .int x1), (2, .ref (ad G k2))] → W p l e R s m args below meth c H locs 0 0 Q (F0 m 0 ls []) := by
  have hx := hC.1
  have hb := hC.2.1
  intro H locs ls hW hl
  unfold fX25_sameUpTo at h
  refine lv_iconst (v := 0) hx hb dX0_sameUpTo_0 (by decide) ?_
  refine lv_istore_n (lv' := [(3, .int 0), (0, .ref (ad G 25)), (1, .int x1), (2, .ref (ad G k2))]) hx hb dX0_sameUpTo_1 rfl hl (by decide) rfl (fun ls hl => ?_)
  refine lv_iconst (v := 0) hx hb dX0_sameUpTo_2 (by decide) ?_
  refine lv_istore (lv' := [(4, .int 0), (3, .int 0), (0, .ref (ad G 25)), (1, .int x1), (2, .ref (ad G k2))]) hx hb dX0_sameUpTo_3 hl (by decide) rfl (fun ls hl => ?_)
  obtain ⟨t10, e11, h⟩ := bd h
  refine wX25_sameUpTo_L5 hC hF hL ha2 (fun H locs ls hW hl => ?_) _ _ _ e11 _ _ _ hW (lv_sub hl [2, 3, 4, 1, 0] rfl)
  refine lv_iload_n hx hb dX0_sameUpTo_41 rfl (lv_at hl 0 rfl) ?_
  cases h
  exact kr _ _ _ _ dX0_sameUpTo_42 hW
theorem ctX25_sameUpTo {N : Nat} {S : St} {x1 : Int32} {k2 : Nat} (ha2 : isA LX k2 (lenX k2)) {v : Int32} (h : fX25_sameUpTo N S x1 k2 = some v) : Met l yX0_sameUpTo (wm yX0_sameUpTo cX0_sameUpTo 5 (some .int)) (rmx 0 0) (pcm LX G S [.ref (ad G 25), .int x1, .ref (ad G k2)]) (qcI LX G S v) 0 0 G.2.2.2 :=
  x_enter (own := RX0) rfl rfl (Nat.le_of_ble_eq_true rfl) (fun p e s m below meth c ls hC hr hk hW hl => wX25_sameUpTo hC (Nat.le_refl _) (Nat.le_refl _) ha2 h (fun H locs ls pc hd hW => x_reti hC hr hk hW hd) _ _ _ hW hl)
def fX25_holdsAmong (N : Nat) (S : St) (x1 : Int32) (k2 : Nat) : Option (Int32) :=
  gd (inb x1 12) <|
  if (S.1 26 (Int32.toNatClampNeg x1)) = 2 then
    gd (inb x1 (lenX k2)) <|
    gd (inb x1 12) <|
    gd (inb (S.1 27 (Int32.toNatClampNeg x1)) (lenX k2)) <|
    gd (inb x1 12) <|
    gd (inb (S.1 28 (Int32.toNatClampNeg x1)) (lenX k2)) <|
    Option.bind (α := Int32) (
      if (S.1 k2 (Int32.toNatClampNeg x1)) = ((S.1 k2 (Int32.toNatClampNeg (S.1 27 (Int32.toNatClampNeg x1)))) * (S.1 k2 (Int32.toNatClampNeg (S.1 28 (Int32.toNatClampNeg x1))))) then
        some 1
      else
        some 0
    ) fun t9 =>
    gd (isb t9) <|
    some t9
  else
  if (S.1 26 (Int32.toNatClampNeg x1)) = 3 then
    gd (inb x1 (lenX k2)) <|
    Option.bind (fX22_howOften S (S.1 k2 (Int32.toNatClampNeg x1))) fun t14 =>
    Option.bind (fX25_sameUpTo N S x1 k2) fun t16 =>
    Option.bind (α := Int32) (
      if t14 < t16 then
        some 0
      else
        some 1
    ) fun t19 =>
    gd (isb t19) <|
    some t19
  else
  if (S.1 26 (Int32.toNatClampNeg x1)) = 4 then
    gd (inb x1 (lenX k2)) <|
    gd (inb x1 12) <|
    gd (inb (S.1 27 (Int32.toNatClampNeg x1)) (lenX k2)) <|
    Option.bind (α := Int32) (
      if (S.1 k2 (Int32.toNatClampNeg x1)) ≤ (S.1 k2 (Int32.toNatClampNeg (S.1 27 (Int32.toNatClampNeg x1)))) then
        some 0
      else
        some 1
    ) fun t27 =>
    gd (isb t27) <|
    some t27
  else
  some 1
set_option maxHeartbeats 4000000 in
set_option maxRecDepth 100000 in
theorem wX25_holdsAmong {N : Nat} {S : St} {x1 : Int32} {k2 : Nat} (hC : CallFix p m c cX0_holdsAmong 3 s args lw_g RX0) (hF : 1 ≤ R.frames) (hL : 24 ≤ R.locals) (ha2 : isA LX k2 (lenX k2)) {v : Int32} (h : fX25_holdsAmong N S x1 k2 = some v) (kr : ∀ (H : Heap) (locs : List Loc) (ls : Array Slot) (pc : Nat), isb v = true → decode cX0_holdsAmong pc = .ok (.ireturn, 1) → wg LX G S s H locs → W p l e R s m args below meth c H locs 0 0 Q (F0 m pc ls [.int v])) : ∀ (H : Heap) (locs : List Loc) (ls : Array Slot), wg LX G S s H locs → lv_has ls 3 [(0, .ref (ad G 25)), (1, .int x1), (2, .ref (ad G k2))] → W p l e R s m args below meth c H locs 0 0 Q (F0 m 0 ls []) := by
  have hx := hC.1
  have hb := hC.2.1
  intro H locs ls hW hl
  unfold fX25_holdsAmong at h
  refine lv_aload_n hx hb dX0_holdsAmong_0 rfl (lv_at hl 0 rfl) ?_
  refine gX25_1 hC hW dX0_holdsAmong_1 ?_
  refine lv_iload_n hx hb dX0_holdsAmong_4 rfl (lv_at hl 1 rfl) ?_
  obtain ⟨g1, h⟩ := gd_some h
  refine x_iald hC hW aX26 g1 dX0_holdsAmong_5 ?_
  by_cases q2_0 : (S.1 26 (Int32.toNatClampNeg x1)) = 2
  · have h := it_p q2_0 h
    refine lv_tableIn (off := 26) (tgt := 32) hx hb dX0_holdsAmong_6 (by rw [q2_0]; decide) (by rw [q2_0]; decide) (by rw [q2_0]; rfl) (by decide) ?_
    refine lv_aload_n hx hb dX0_holdsAmong_32 rfl (lv_at hl 2 rfl) ?_
    refine lv_iload_n hx hb dX0_holdsAmong_33 rfl (lv_at hl 1 rfl) ?_
    obtain ⟨g3, h⟩ := gd_some h
    refine x_iald hC hW ha2 g3 dX0_holdsAmong_34 ?_
    refine lv_aload_n hx hb dX0_holdsAmong_35 rfl (lv_at hl 2 rfl) ?_
    refine lv_aload_n hx hb dX0_holdsAmong_36 rfl (lv_at hl 0 rfl) ?_
    refine gX25_2 hC hW dX0_holdsAmong_37 ?_
    refine lv_iload_n hx hb dX0_holdsAmong_40 rfl (lv_at hl 1 rfl) ?_
    obtain ⟨g4, h⟩ := gd_some h
    refine x_iald hC hW aX27 g4 dX0_holdsAmong_41 ?_
    obtain ⟨g5, h⟩ := gd_some h
    refine x_iald hC hW ha2 g5 dX0_holdsAmong_42 ?_
    refine lv_aload_n hx hb dX0_holdsAmong_43 rfl (lv_at hl 2 rfl) ?_
    refine lv_aload_n hx hb dX0_holdsAmong_44 rfl (lv_at hl 0 rfl) ?_
    refine gX25_3 hC hW dX0_holdsAmong_45 ?_
    refine lv_iload_n hx hb dX0_holdsAmong_48 rfl (lv_at hl 1 rfl) ?_
    obtain ⟨g6, h⟩ := gd_some h
    refine x_iald hC hW aX28 g6 dX0_holdsAmong_49 ?_
    obtain ⟨g7, h⟩ := gd_some h
    refine x_iald hC hW ha2 g7 dX0_holdsAmong_50 ?_
    refine lv_imul hx hb dX0_holdsAmong_51 ?_
    obtain ⟨t9, e10, h⟩ := bd h
    have K8 : ∀ (H : Heap) (locs : List Loc) (ls : Array Slot), wg LX G S s H locs → lv_has ls 3 [] → W p l e R s m args below meth c H locs 0 0 Q (F0 m 60 ls [.int t9]) := by
      intro H locs ls hW hl
      obtain ⟨g12, h⟩ := gd_some h
      cases h
      exact kr _ _ _ _ g12 dX0_holdsAmong_60 hW
    clear h
    have h := e10
    clear e10
    refine lv_icmp_ne (tgt := 59) hx hb dX0_holdsAmong_52 (by decide) (fun q11 => ?_) (fun q11 => ?_)
    · have h := it_n q11 h
      refine lv_iconst (v := 0) hx hb dX0_holdsAmong_59 (by decide) ?_
      cases h
      exact K8 _ _ _ hW (lv_sub hl [] rfl)
    · have h := it_p q11 h
      refine lv_iconst (v := 1) hx hb dX0_holdsAmong_55 (by decide) ?_
      refine lv_goto (tgt := 60) hx hb dX0_holdsAmong_56 (by decide) ?_
      cases h
      exact K8 _ _ _ hW (lv_sub hl [] rfl)
  have h := it_n q2_0 h
  by_cases q2_1 : (S.1 26 (Int32.toNatClampNeg x1)) = 3
  · have h := it_p q2_1 h
    refine lv_tableIn (off := 55) (tgt := 61) hx hb dX0_holdsAmong_6 (by rw [q2_1]; decide) (by rw [q2_1]; decide) (by rw [q2_1]; rfl) (by decide) ?_
    refine lv_aload_n hx hb dX0_holdsAmong_61 rfl (lv_at hl 0 rfl) ?_
    refine gX25_0 hC hW dX0_holdsAmong_62 ?_
    refine lv_aload_n hx hb dX0_holdsAmong_65 rfl (lv_at hl 2 rfl) ?_
    refine lv_iload_n hx hb dX0_holdsAmong_66 rfl (lv_at hl 1 rfl) ?_
    obtain ⟨g13, h⟩ := gd_some h
    refine x_iald hC hW ha2 g13 dX0_holdsAmong_67 ?_
    obtain ⟨t14, e15, h⟩ := bd h
    refine x_goi (x_rv (rest := []) hC hW (ctX22_howOften e15) (cwV_g hC.2.2.2.2 ml_X0_52 mi_X1_howOften md_X1_howOften ⟨(Nat.le_trans (Nat.le_of_ble_eq_true rfl) hF), (Nat.le_trans (Nat.le_of_ble_eq_true rfl) hL)⟩) (rcX22 hW) rfl hl.1 rfl (Nat.le_of_ble_eq_true rfl) dX0_holdsAmong_68) hW (fun H locs hW => ?_)
    refine lv_aload_n hx hb dX0_holdsAmong_71 rfl (lv_at hl 0 rfl) ?_
    refine lv_iload_n hx hb dX0_holdsAmong_72 rfl (lv_at hl 1 rfl) ?_
    refine lv_aload_n hx hb dX0_holdsAmong_73 rfl (lv_at hl 2 rfl) ?_
    obtain ⟨t16, e17, h⟩ := bd h
    refine x_goi (x_rv (rest := [.int t14]) hC hW (ctX25_sameUpTo ha2 e17) (cwV_g hC.2.2.2.2 ml_X0_55 mi_X0_sameUpTo md_X0_sameUpTo ⟨(Nat.le_trans (Nat.le_of_ble_eq_true rfl) hF), (Nat.le_trans (Nat.le_of_ble_eq_true rfl) hL)⟩) (rcX25 hW) rfl hl.1 rfl (Nat.le_of_ble_eq_true rfl) dX0_holdsAmong_74) hW (fun H locs hW => ?_)
    obtain ⟨t19, e20, h⟩ := bd h
    have K18 : ∀ (H : Heap) (locs : List Loc) (ls : Array Slot), wg LX G S s H locs → lv_has ls 3 [] → W p l e R s m args below meth c H locs 0 0 Q (F0 m 85 ls [.int t19]) := by
      intro H locs ls hW hl
      obtain ⟨g22, h⟩ := gd_some h
      cases h
      exact kr _ _ _ _ g22 dX0_holdsAmong_85 hW
    clear h
    have h := e20
    clear e20
    refine lv_icmp_lt (tgt := 84) hx hb dX0_holdsAmong_77 (by decide) (fun q21 => ?_) (fun q21 => ?_)
    · have h := it_p q21 h
      refine lv_iconst (v := 0) hx hb dX0_holdsAmong_84 (by decide) ?_
      cases h
      exact K18 _ _ _ hW (lv_sub hl [] rfl)
    · have h := it_n q21 h
      refine lv_iconst (v := 1) hx hb dX0_holdsAmong_80 (by decide) ?_
      refine lv_goto (tgt := 85) hx hb dX0_holdsAmong_81 (by decide) ?_
      cases h
      exact K18 _ _ _ hW (lv_sub hl [] rfl)
  have h := it_n q2_1 h
  by_cases q2_2 : (S.1 26 (Int32.toNatClampNeg x1)) = 4
  · have h := it_p q2_2 h
    refine lv_tableIn (off := 80) (tgt := 86) hx hb dX0_holdsAmong_6 (by rw [q2_2]; decide) (by rw [q2_2]; decide) (by rw [q2_2]; rfl) (by decide) ?_
    refine lv_aload_n hx hb dX0_holdsAmong_86 rfl (lv_at hl 2 rfl) ?_
    refine lv_iload_n hx hb dX0_holdsAmong_87 rfl (lv_at hl 1 rfl) ?_
    obtain ⟨g23, h⟩ := gd_some h
    refine x_iald hC hW ha2 g23 dX0_holdsAmong_88 ?_
    refine lv_aload_n hx hb dX0_holdsAmong_89 rfl (lv_at hl 2 rfl) ?_
    refine lv_aload_n hx hb dX0_holdsAmong_90 rfl (lv_at hl 0 rfl) ?_
    refine gX25_2 hC hW dX0_holdsAmong_91 ?_
    refine lv_iload_n hx hb dX0_holdsAmong_94 rfl (lv_at hl 1 rfl) ?_
    obtain ⟨g24, h⟩ := gd_some h
    refine x_iald hC hW aX27 g24 dX0_holdsAmong_95 ?_
    obtain ⟨g25, h⟩ := gd_some h
    refine x_iald hC hW ha2 g25 dX0_holdsAmong_96 ?_
    obtain ⟨t27, e28, h⟩ := bd h
    have K26 : ∀ (H : Heap) (locs : List Loc) (ls : Array Slot), wg LX G S s H locs → lv_has ls 3 [] → W p l e R s m args below meth c H locs 0 0 Q (F0 m 105 ls [.int t27]) := by
      intro H locs ls hW hl
      obtain ⟨g30, h⟩ := gd_some h
      cases h
      exact kr _ _ _ _ g30 dX0_holdsAmong_105 hW
    clear h
    have h := e28
    clear e28
    refine lv_icmp_le (tgt := 104) hx hb dX0_holdsAmong_97 (by decide) (fun q29 => ?_) (fun q29 => ?_)
    · have h := it_p q29 h
      refine lv_iconst (v := 0) hx hb dX0_holdsAmong_104 (by decide) ?_
      cases h
      exact K26 _ _ _ hW (lv_sub hl [] rfl)
    · have h := it_n q29 h
      refine lv_iconst (v := 1) hx hb dX0_holdsAmong_100 (by decide) ?_
      refine lv_goto (tgt := 105) hx hb dX0_holdsAmong_101 (by decide) ?_
      cases h
      exact K26 _ _ _ hW (lv_sub hl [] rfl)
  have h := it_n q2_2 h
  have q2_0i := lv_neT (a := 2) q2_0 (by decide)
  have q2_1i := lv_neT (a := 3) q2_1 (by decide)
  have q2_2i := lv_neT (a := 4) q2_2 (by decide)
  refine lv_tableOut (tgt := 106) hx hb dX0_holdsAmong_6 (by omega) (by decide) ?_
  refine lv_iconst (v := 1) hx hb dX0_holdsAmong_106 (by decide) ?_
  cases h
  exact kr _ _ _ _ rfl dX0_holdsAmong_107 hW
theorem ctX25_holdsAmong {N : Nat} {S : St} {x1 : Int32} {k2 : Nat} (ha2 : isA LX k2 (lenX k2)) {v : Int32} (h : fX25_holdsAmong N S x1 k2 = some v) : Met l yX0_holdsAmong (wm yX0_holdsAmong cX0_holdsAmong 3 (some .boolean)) (rmx 1 24) (pcm LX G S [.ref (ad G 25), .int x1, .ref (ad G k2)]) (qcI LX G S v) 0 0 G.2.2.2 :=
  x_enter (own := RX0) rfl rfl (Nat.le_of_ble_eq_true rfl) (fun p e s m below meth c ls hC hr hk hW hl => wX25_holdsAmong hC (Nat.le_refl _) (Nat.le_refl _) ha2 h (fun H locs ls pc hz hd hW => x_retz hC hr hk hW hz hd) _ _ _ hW hl)
def fX37_rulesHold_L2 (N : Nat) (S : St) (x1 : Int32) : Nat → Int32 → Option ((Int32) ⊕ (Unit))
  | 0, _ => none
  | n + 1, x2 =>
    if 12 ≤ x2 then
      some (.inr ())
    else
      if (x1 >>> (x2 &&& 31)) = 0 then
        some (.inr ())
      else
        if ((x1 >>> (x2 &&& 31)) &&& 1) = 0 then
          fX37_rulesHold_L2 N S x1 n (x2 + 1)
        else
          Option.bind (fX25_holdsAmong N S x2 38) fun t4 =>
          if t4 = 0 then
            some (.inl 0)
          else
            fX37_rulesHold_L2 N S x1 n (x2 + 1)
set_option maxHeartbeats 4000000 in
set_option maxRecDepth 100000 in
theorem wX37_rulesHold_L2 {N : Nat} {S : St} {x1 : Int32} (hC : CallFix p m c cX8_rulesHold 3 s args lw_g RX8) (hF : 2 ≤ R.frames) (hL : 46 ≤ R.locals)  {t : (Int32) ⊕ (Unit)} (kr : ∀ r, t = .inl r → ∀ (H : Heap) (locs : List Loc) (ls : Array Slot) (pc : Nat), isb r = true → decode cX8_rulesHold pc = .ok (.ireturn, 1) → wg LX G S s H locs → W p l e R s m args below meth c H locs 0 0 Q (F0 m pc ls [.int r])) (kx : ∀ u, t = .inr u → ∀ (H : Heap) (locs : List Loc) (ls : Array Slot), wg LX G S s H locs → lv_has ls 3 [] → W p l e R s m args below meth c H locs 0 0 Q (F0 m 45 ls [])) : ∀ (n : Nat) (x2 : Int32), fX37_rulesHold_L2 N S x1 n x2 = some t → ∀ (H : Heap) (locs : List Loc) (ls : Array Slot), wg LX G S s H locs → lv_has ls 3 [(0, .ref (ad G 37)), (1, .int x1), (2, .int x2)] → W p l e R s m args below meth c H locs 0 0 Q (F0 m 2 ls []) := by
  have hx := hC.1
  have hb := hC.2.1
  intro n
  induction n with
  | zero =>
    intro _ h
    cases h
  | succ n ih =>
    intro x2 h H locs ls hW hl
    rw [fX37_rulesHold_L2] at h
    refine lv_iload_n hx hb dX8_rulesHold_2 rfl (lv_at hl 2 rfl) ?_
    refine lv_bipush (v := 12) hx hb dX8_rulesHold_3 (by decide) ?_
    refine lv_icmp_ge (tgt := 45) hx hb dX8_rulesHold_5 (by decide) (fun q1 => ?_) (fun q1 => ?_)
    · have h := it_p q1 h
      cases h
      exact kx _ rfl _ _ _ hW (lv_sub hl [] rfl)
    · have h := it_n q1 h
      refine lv_iload_n hx hb dX8_rulesHold_8 rfl (lv_at hl 1 rfl) ?_
      refine lv_iload_n hx hb dX8_rulesHold_9 rfl (lv_at hl 2 rfl) ?_
      refine lv_ishr hx hb dX8_rulesHold_10 ?_
      refine lv_if_eq (tgt := 45) hx hb dX8_rulesHold_11 (by decide) (fun q2 => ?_) (fun q2 => ?_)
      · have h := it_p q2 h
        cases h
        exact kx _ rfl _ _ _ hW (lv_sub hl [] rfl)
      · have h := it_n q2 h
        refine lv_iload_n hx hb dX8_rulesHold_14 rfl (lv_at hl 1 rfl) ?_
        refine lv_iload_n hx hb dX8_rulesHold_15 rfl (lv_at hl 2 rfl) ?_
        refine lv_ishr hx hb dX8_rulesHold_16 ?_
        refine lv_iconst (v := 1) hx hb dX8_rulesHold_17 (by decide) ?_
        refine lv_iand hx hb dX8_rulesHold_18 ?_
        refine lv_if_eq (tgt := 39) hx hb dX8_rulesHold_19 (by decide) (fun q3 => ?_) (fun q3 => ?_)
        · have h := it_p q3 h
          refine lv_iinc (v := x2 + 1) (lv' := [(2, .int (x2 + 1)), (0, .ref (ad G 37)), (1, .int x1)]) (k := 2) hx hb dX8_rulesHold_39 hl rfl rfl (by decide) rfl (fun ls hl => ?_)
          refine lv_goto (tgt := 2) hx hb dX8_rulesHold_42 (by decide) ?_
          exact ih _ h _ _ _ hW (lv_sub hl [1, 2, 0] rfl)
        · have h := it_n q3 h
          refine lv_aload_n hx hb dX8_rulesHold_22 rfl (lv_at hl 0 rfl) ?_
          refine gX37_0 hC hW dX8_rulesHold_23 ?_
          refine lv_iload_n hx hb dX8_rulesHold_26 rfl (lv_at hl 2 rfl) ?_
          refine lv_aload_n hx hb dX8_rulesHold_27 rfl (lv_at hl 0 rfl) ?_
          refine gX37_3 hC hW dX8_rulesHold_28 ?_
          obtain ⟨t4, e5, h⟩ := bd h
          refine x_goi (x_rv (rest := []) hC hW (ctX25_holdsAmong aX38 e5) (cwV_g hC.2.2.2.2 ml_X8_129 mi_X0_holdsAmong md_X0_holdsAmong ⟨(Nat.le_trans (Nat.le_of_ble_eq_true rfl) hF), (Nat.le_trans (Nat.le_of_ble_eq_true rfl) hL)⟩) (rcX25 hW) rfl hl.1 rfl (Nat.le_of_ble_eq_true rfl) dX8_rulesHold_31) hW (fun H locs hW => ?_)
          refine lv_if_ne (tgt := 39) hx hb dX8_rulesHold_34 (by decide) (fun q6 => ?_) (fun q6 => ?_)
          · have h := it_n q6 h
            refine lv_iinc (v := x2 + 1) (lv' := [(2, .int (x2 + 1)), (0, .ref (ad G 37)), (1, .int x1)]) (k := 2) hx hb dX8_rulesHold_39 hl rfl rfl (by decide) rfl (fun ls hl => ?_)
            refine lv_goto (tgt := 2) hx hb dX8_rulesHold_42 (by decide) ?_
            exact ih _ h _ _ _ hW (lv_sub hl [1, 2, 0] rfl)
          · have h := it_p q6 h
            refine lv_iconst (v := 0) hx hb dX8_rulesHold_37 (by decide) ?_
            cases h
            exact kr _ rfl _ _ _ _ rfl dX8_rulesHold_38 hW
def fX37_rulesHold (N : Nat) (S : St) (x1 : Int32) : Option (Int32) :=
  Option.bind (fX37_rulesHold_L2 N S x1 N 0) fun t7 => sm t7 fun u9 =>
  some 1
set_option maxHeartbeats 4000000 in
set_option maxRecDepth 100000 in
theorem wX37_rulesHold {N : Nat} {S : St} {x1 : Int32} (hC : CallFix p m c cX8_rulesHold 3 s args lw_g RX8) (hF : 2 ≤ R.frames) (hL : 46 ≤ R.locals)  {v : Int32} (h : fX37_rulesHold N S x1 = some v) (kr : ∀ (H : Heap) (locs : List Loc) (ls : Array Slot) (pc : Nat), isb v = true → decode cX8_rulesHold pc = .ok (.ireturn, 1) → wg LX G S s H locs → W p l e R s m args below meth c H locs 0 0 Q (F0 m pc ls [.int v])) : ∀ (H : Heap) (locs : List Loc) (ls : Array Slot), wg LX G S s H locs → lv_has ls 3 [(0, .ref (ad G 37)), (1, .int x1)] → W p l e R s m args below meth c H locs 0 0 Q (F0 m 0 ls []) := by
  have hx := hC.1
  have hb := hC.2.1
  intro H locs ls hW hl
  unfold fX37_rulesHold at h
  refine lv_iconst (v := 0) hx hb dX8_rulesHold_0 (by decide) ?_
  refine lv_istore_n (lv' := [(2, .int 0), (0, .ref (ad G 37)), (1, .int x1)]) hx hb dX8_rulesHold_1 rfl hl (by decide) rfl (fun ls hl => ?_)
  obtain ⟨t7, e8, h⟩ := bd h
  refine wX37_rulesHold_L2 hC hF hL  (fun r er H locs ls pc hz hd hW => ?_) (fun u9 eu H locs ls hW hl => ?_) _ _ e8 _ _ _ hW (lv_sub hl [1, 2, 0] rfl)
  · rw [er] at h
    have h := sm_l h
    cases h
    exact kr _ _ _ _ hz hd hW
  · rw [eu] at h
    have h := sm_r h
    refine lv_iconst (v := 1) hx hb dX8_rulesHold_45 (by decide) ?_
    cases h
    exact kr _ _ _ _ rfl dX8_rulesHold_46 hW
theorem ctX37_rulesHold {N : Nat} {S : St} {x1 : Int32}  {v : Int32} (h : fX37_rulesHold N S x1 = some v) : Met l yX8_rulesHold (wm yX8_rulesHold cX8_rulesHold 3 (some .boolean)) (rmx 2 46) (pcm LX G S [.ref (ad G 37), .int x1]) (qcI LX G S v) 0 0 G.2.2.2 :=
  x_enter (own := RX8) rfl rfl (Nat.le_of_ble_eq_true rfl) (fun p e s m below meth c ls hC hr hk hW hl => wX37_rulesHold hC (Nat.le_refl _) (Nat.le_refl _)  h (fun H locs ls pc hz hd hW => x_retz hC hr hk hW hz hd) _ _ _ hW hl)
def fX25_thereBits (S : St)  : Option (Int32) :=
  some (S.1 25 4)
set_option maxHeartbeats 4000000 in
set_option maxRecDepth 100000 in
theorem wX25_thereBits {S : St}  (hC : CallFix p m c cX0_thereBits 1 s args lw_g RX0) (hF : 0 ≤ R.frames) (hL : 0 ≤ R.locals)  {v : Int32} (h : fX25_thereBits S = some v) (kr : ∀ (H : Heap) (locs : List Loc) (ls : Array Slot) (pc : Nat), decode cX0_thereBits pc = .ok (.ireturn, 1) → wg LX G S s H locs → W p l e R s m args below meth c H locs 0 0 Q (F0 m pc ls [.int v])) : ∀ (H : Heap) (locs : List Loc) (ls : Array Slot), wg LX G S s H locs → lv_has ls 1 [(0, .ref (ad G 25))] → W p l e R s m args below meth c H locs 0 0 Q (F0 m 0 ls []) := by
  have hx := hC.1
  have hb := hC.2.1
  intro H locs ls hW hl
  unfold fX25_thereBits at h
  refine lv_aload_n hx hb dX0_thereBits_0 rfl (lv_at hl 0 rfl) ?_
  refine gX25_4 hC hW dX0_thereBits_1 ?_
  cases h
  exact kr _ _ _ _ dX0_thereBits_4 hW
theorem ctX25_thereBits {S : St}   {v : Int32} (h : fX25_thereBits S = some v) : Met l yX0_thereBits (wm yX0_thereBits cX0_thereBits 1 (some .int)) (rmx 0 0) (pcm LX G S [.ref (ad G 25)]) (qcI LX G S v) 0 0 G.2.2.2 :=
  x_enter (own := RX0) rfl rfl (Nat.le_of_ble_eq_true rfl) (fun p e s m below meth c ls hC hr hk hW hl => wX25_thereBits hC (Nat.le_refl _) (Nat.le_refl _)  h (fun H locs ls pc hd hW => x_reti hC hr hk hW hd) _ _ _ hW hl)
def fX29_comesOut_L42 (N : Nat) (S : St) (k2 : Nat) (x3 : Int32) (x4 : Int32) : Nat → Int32 → Int32 → Option (Int32)
  | 0, _, _ => none
  | n + 1, x5, x6 =>
    if 12 ≤ x6 then
      some x5
    else
      gd (inb x6 (lenX k2)) <|
      nx (x5 - ((((x3 >>> (x6 &&& 31)) &&& 1) - ((x4 >>> (x6 &&& 31)) &&& 1)) * (S.1 k2 (Int32.toNatClampNeg x6)))) fun y16 =>
      fX29_comesOut_L42 N S k2 x3 x4 n y16 (x6 + 1)
set_option maxHeartbeats 4000000 in
set_option maxRecDepth 100000 in
theorem wX29_comesOut_L42 {N : Nat} {S : St} {k2 : Nat} {x3 : Int32} {x4 : Int32} (hC : CallFix p m c cX7_comesOut 7 s args lw_g RX7) (hF : 1 ≤ R.frames) (hL : 20 ≤ R.locals) (ha2 : isA LX k2 (lenX k2)) {t : Int32} (kx : ∀ (H : Heap) (locs : List Loc) (ls : Array Slot), wg LX G S s H locs → lv_has ls 7 [(5, .int t)] → W p l e R s m args below meth c H locs 0 0 Q (F0 m 79 ls [])) : ∀ (n : Nat) (x5 : Int32) (x6 : Int32), fX29_comesOut_L42 N S k2 x3 x4 n x5 x6 = some t → ∀ (H : Heap) (locs : List Loc) (ls : Array Slot), wg LX G S s H locs → lv_has ls 7 [(2, .ref (ad G k2)), (3, .int x3), (4, .int x4), (5, .int x5), (6, .int x6)] → W p l e R s m args below meth c H locs 0 0 Q (F0 m 42 ls []) := by
  have hx := hC.1
  have hb := hC.2.1
  intro n
  induction n with
  | zero =>
    intro _ _ h
    cases h
  | succ n ih =>
    intro x5 x6 h H locs ls hW hl
    rw [fX29_comesOut_L42] at h
    refine lv_iload hx hb dX7_comesOut_42 (lv_at hl 4 rfl) ?_
    refine lv_bipush (v := 12) hx hb dX7_comesOut_44 (by decide) ?_
    refine lv_icmp_ge (tgt := 79) hx hb dX7_comesOut_46 (by decide) (fun q14 => ?_) (fun q14 => ?_)
    · have h := it_p q14 h
      cases h
      exact kx _ _ _ hW (lv_sub hl [3] rfl)
    · have h := it_n q14 h
      refine lv_iload hx hb dX7_comesOut_49 (lv_at hl 3 rfl) ?_
      refine lv_iload_n hx hb dX7_comesOut_51 rfl (lv_at hl 1 rfl) ?_
      refine lv_iload hx hb dX7_comesOut_52 (lv_at hl 4 rfl) ?_
      refine lv_ishr hx hb dX7_comesOut_54 ?_
      refine lv_iconst (v := 1) hx hb dX7_comesOut_55 (by decide) ?_
      refine lv_iand hx hb dX7_comesOut_56 ?_
      refine lv_iload hx hb dX7_comesOut_57 (lv_at hl 2 rfl) ?_
      refine lv_iload hx hb dX7_comesOut_59 (lv_at hl 4 rfl) ?_
      refine lv_ishr hx hb dX7_comesOut_61 ?_
      refine lv_iconst (v := 1) hx hb dX7_comesOut_62 (by decide) ?_
      refine lv_iand hx hb dX7_comesOut_63 ?_
      refine lv_isub hx hb dX7_comesOut_64 ?_
      refine lv_aload_n hx hb dX7_comesOut_65 rfl (lv_at hl 0 rfl) ?_
      refine lv_iload hx hb dX7_comesOut_66 (lv_at hl 4 rfl) ?_
      obtain ⟨g15, h⟩ := gd_some h
      refine x_iald hC hW ha2 g15 dX7_comesOut_68 ?_
      refine lv_imul hx hb dX7_comesOut_69 ?_
      refine lv_isub hx hb dX7_comesOut_70 ?_
      obtain ⟨y16, e17, h⟩ := nx_some h
      refine x_topi e17 ?_
      refine lv_istore (lv' := [(5, .int y16), (2, .ref (ad G k2)), (3, .int x3), (4, .int x4), (6, .int x6)]) hx hb dX7_comesOut_71 hl (by decide) rfl (fun ls hl => ?_)
      refine lv_iinc (v := x6 + 1) (lv' := [(6, .int (x6 + 1)), (5, .int y16), (2, .ref (ad G k2)), (3, .int x3), (4, .int x4)]) (k := 4) hx hb dX7_comesOut_73 hl rfl rfl (by decide) rfl (fun ls hl => ?_)
      refine lv_goto (tgt := 42) hx hb dX7_comesOut_76 (by decide) ?_
      exact ih _ _ h _ _ _ hW (lv_sub hl [2, 3, 4, 1, 0] rfl)
def fX29_comesOut (N : Nat) (S : St) (x1 : Int32) (k2 : Nat) : Option (Int32) :=
  gd (inb x1 8) <|
  Option.bind (fX25_thereBits S) fun t2 =>
  nx ((S.1 30 (Int32.toNatClampNeg x1)) &&& t2) fun y4 =>
  gd (inb x1 8) <|
  Option.bind (fX25_thereBits S) fun t7 =>
  nx ((S.1 31 (Int32.toNatClampNeg x1)) &&& t7) fun y9 =>
  gd (inb x1 8) <|
  nx (S.1 32 (Int32.toNatClampNeg x1)) fun y12 =>
  Option.bind (fX29_comesOut_L42 N S k2 y4 y9 N y12 0) fun t18 =>
  Option.bind (α := Int32) (
    if t18 = 0 then
      some 1
    else
      some 0
  ) fun t21 =>
  gd (isb t21) <|
  some t21
set_option maxHeartbeats 4000000 in
set_option maxRecDepth 100000 in
theorem wX29_comesOut {N : Nat} {S : St} {x1 : Int32} {k2 : Nat} (hC : CallFix p m c cX7_comesOut 7 s args lw_g RX7) (hF : 1 ≤ R.frames) (hL : 20 ≤ R.locals) (ha2 : isA LX k2 (lenX k2)) {v : Int32} (h : fX29_comesOut N S x1 k2 = some v) (kr : ∀ (H : Heap) (locs : List Loc) (ls : Array Slot) (pc : Nat), isb v = true → decode cX7_comesOut pc = .ok (.ireturn, 1) → wg LX G S s H locs → W p l e R s m args below meth c H locs 0 0 Q (F0 m pc ls [.int v])) : ∀ (H : Heap) (locs : List Loc) (ls : Array Slot), wg LX G S s H locs → lv_has ls 7 [(0, .ref (ad G 29)), (1, .int x1), (2, .ref (ad G k2))] → W p l e R s m args below meth c H locs 0 0 Q (F0 m 0 ls []) := by
  have hx := hC.1
  have hb := hC.2.1
  intro H locs ls hW hl
  unfold fX29_comesOut at h
  refine lv_aload_n hx hb dX7_comesOut_0 rfl (lv_at hl 0 rfl) ?_
  refine gX29_1 hC hW dX7_comesOut_1 ?_
  refine lv_iload_n hx hb dX7_comesOut_4 rfl (lv_at hl 1 rfl) ?_
  obtain ⟨g1, h⟩ := gd_some h
  refine x_iald hC hW aX30 g1 dX7_comesOut_5 ?_
  refine lv_aload_n hx hb dX7_comesOut_6 rfl (lv_at hl 0 rfl) ?_
  refine gX29_0 hC hW dX7_comesOut_7 ?_
  obtain ⟨t2, e3, h⟩ := bd h
  refine x_goi (x_rv (rest := [.int (S.1 30 (Int32.toNatClampNeg x1))]) hC hW (ctX25_thereBits e3) (cwV_g hC.2.2.2.2 ml_X7_35 mi_X0_thereBits md_X0_thereBits ⟨(Nat.le_trans (Nat.le_of_ble_eq_true rfl) hF), (Nat.le_trans (Nat.le_of_ble_eq_true rfl) hL)⟩) (rcX25 hW) rfl hl.1 rfl (Nat.le_of_ble_eq_true rfl) dX7_comesOut_10) hW (fun H locs hW => ?_)
  refine lv_iand hx hb dX7_comesOut_13 ?_
  obtain ⟨y4, e5, h⟩ := nx_some h
  refine x_topi e5 ?_
  refine lv_istore_n (lv' := [(3, .int y4), (0, .ref (ad G 29)), (1, .int x1), (2, .ref (ad G k2))]) hx hb dX7_comesOut_14 rfl hl (by decide) rfl (fun ls hl => ?_)
  refine lv_aload_n hx hb dX7_comesOut_15 rfl (lv_at hl 1 rfl) ?_
  refine gX29_2 hC hW dX7_comesOut_16 ?_
  refine lv_iload_n hx hb dX7_comesOut_19 rfl (lv_at hl 2 rfl) ?_
  obtain ⟨g6, h⟩ := gd_some h
  refine x_iald hC hW aX31 g6 dX7_comesOut_20 ?_
  refine lv_aload_n hx hb dX7_comesOut_21 rfl (lv_at hl 1 rfl) ?_
  refine gX29_0 hC hW dX7_comesOut_22 ?_
  obtain ⟨t7, e8, h⟩ := bd h
  refine x_goi (x_rv (rest := [.int (S.1 31 (Int32.toNatClampNeg x1))]) hC hW (ctX25_thereBits e8) (cwV_g hC.2.2.2.2 ml_X7_35 mi_X0_thereBits md_X0_thereBits ⟨(Nat.le_trans (Nat.le_of_ble_eq_true rfl) hF), (Nat.le_trans (Nat.le_of_ble_eq_true rfl) hL)⟩) (rcX25 hW) rfl hl.1 rfl (Nat.le_of_ble_eq_true rfl) dX7_comesOut_25) hW (fun H locs hW => ?_)
  refine lv_iand hx hb dX7_comesOut_28 ?_
  obtain ⟨y9, e10, h⟩ := nx_some h
  refine x_topi e10 ?_
  refine lv_istore (lv' := [(4, .int y9), (3, .int y4), (0, .ref (ad G 29)), (1, .int x1), (2, .ref (ad G k2))]) hx hb dX7_comesOut_29 hl (by decide) rfl (fun ls hl => ?_)
  refine lv_aload_n hx hb dX7_comesOut_31 rfl (lv_at hl 2 rfl) ?_
  refine gX29_3 hC hW dX7_comesOut_32 ?_
  refine lv_iload_n hx hb dX7_comesOut_35 rfl (lv_at hl 3 rfl) ?_
  obtain ⟨g11, h⟩ := gd_some h
  refine x_iald hC hW aX32 g11 dX7_comesOut_36 ?_
  obtain ⟨y12, e13, h⟩ := nx_some h
  refine x_topi e13 ?_
  refine lv_istore (lv' := [(5, .int y12), (4, .int y9), (3, .int y4), (0, .ref (ad G 29)), (1, .int x1), (2, .ref (ad G k2))]) hx hb dX7_comesOut_37 hl (by decide) rfl (fun ls hl => ?_)
  refine lv_iconst (v := 0) hx hb dX7_comesOut_39 (by decide) ?_
  refine lv_istore (lv' := [(6, .int 0), (5, .int y12), (4, .int y9), (3, .int y4), (0, .ref (ad G 29)), (1, .int x1), (2, .ref (ad G k2))]) hx hb dX7_comesOut_40 hl (by decide) rfl (fun ls hl => ?_)
  obtain ⟨t18, e19, h⟩ := bd h
  refine wX29_comesOut_L42 hC hF hL ha2 (fun H locs ls hW hl => ?_) _ _ _ e19 _ _ _ hW (lv_sub hl [6, 3, 2, 1, 0] rfl)
  refine lv_iload hx hb dX7_comesOut_79 (lv_at hl 0 rfl) ?_
  obtain ⟨t21, e22, h⟩ := bd h
  have K20 : ∀ (H : Heap) (locs : List Loc) (ls : Array Slot), wg LX G S s H locs → lv_has ls 7 [] → W p l e R s m args below meth c H locs 0 0 Q (F0 m 89 ls [.int t21]) := by
    intro H locs ls hW hl
    obtain ⟨g24, h⟩ := gd_some h
    cases h
    exact kr _ _ _ _ g24 dX7_comesOut_89 hW
  clear h
  have h := e22
  clear e22
  refine lv_if_ne (tgt := 88) hx hb dX7_comesOut_81 (by decide) (fun q23 => ?_) (fun q23 => ?_)
  · have h := it_n q23 h
    refine lv_iconst (v := 0) hx hb dX7_comesOut_88 (by decide) ?_
    cases h
    exact K20 _ _ _ hW (lv_sub hl [] rfl)
  · have h := it_p q23 h
    refine lv_iconst (v := 1) hx hb dX7_comesOut_84 (by decide) ?_
    refine lv_goto (tgt := 89) hx hb dX7_comesOut_85 (by decide) ?_
    cases h
    exact K20 _ _ _ hW (lv_sub hl [] rfl)
theorem ctX29_comesOut {N : Nat} {S : St} {x1 : Int32} {k2 : Nat} (ha2 : isA LX k2 (lenX k2)) {v : Int32} (h : fX29_comesOut N S x1 k2 = some v) : Met l yX7_comesOut (wm yX7_comesOut cX7_comesOut 7 (some .boolean)) (rmx 1 20) (pcm LX G S [.ref (ad G 29), .int x1, .ref (ad G k2)]) (qcI LX G S v) 0 0 G.2.2.2 :=
  x_enter (own := RX7) rfl rfl (Nat.le_of_ble_eq_true rfl) (fun p e s m below meth c ls hC hr hk hW hl => wX29_comesOut hC (Nat.le_refl _) (Nat.le_refl _) ha2 h (fun H locs ls pc hz hd hW => x_retz hC hr hk hW hz hd) _ _ _ hW hl)
def fX37_sumsComeOut_L2 (N : Nat) (S : St) (x1 : Int32) : Nat → Int32 → Option ((Int32) ⊕ (Unit))
  | 0, _ => none
  | n + 1, x2 =>
    if 8 ≤ x2 then
      some (.inr ())
    else
      if (x1 >>> (x2 &&& 31)) = 0 then
        some (.inr ())
      else
        if ((x1 >>> (x2 &&& 31)) &&& 1) = 0 then
          fX37_sumsComeOut_L2 N S x1 n (x2 + 1)
        else
          Option.bind (fX29_comesOut N S x2 38) fun t4 =>
          if t4 = 0 then
            some (.inl 0)
          else
            fX37_sumsComeOut_L2 N S x1 n (x2 + 1)
set_option maxHeartbeats 4000000 in
set_option maxRecDepth 100000 in
theorem wX37_sumsComeOut_L2 {N : Nat} {S : St} {x1 : Int32} (hC : CallFix p m c cX8_sumsComeOut 3 s args lw_g RX8) (hF : 2 ≤ R.frames) (hL : 46 ≤ R.locals)  {t : (Int32) ⊕ (Unit)} (kr : ∀ r, t = .inl r → ∀ (H : Heap) (locs : List Loc) (ls : Array Slot) (pc : Nat), isb r = true → decode cX8_sumsComeOut pc = .ok (.ireturn, 1) → wg LX G S s H locs → W p l e R s m args below meth c H locs 0 0 Q (F0 m pc ls [.int r])) (kx : ∀ u, t = .inr u → ∀ (H : Heap) (locs : List Loc) (ls : Array Slot), wg LX G S s H locs → lv_has ls 3 [] → W p l e R s m args below meth c H locs 0 0 Q (F0 m 45 ls [])) : ∀ (n : Nat) (x2 : Int32), fX37_sumsComeOut_L2 N S x1 n x2 = some t → ∀ (H : Heap) (locs : List Loc) (ls : Array Slot), wg LX G S s H locs → lv_has ls 3 [(0, .ref (ad G 37)), (1, .int x1), (2, .int x2)] → W p l e R s m args below meth c H locs 0 0 Q (F0 m 2 ls []) := by
  have hx := hC.1
  have hb := hC.2.1
  intro n
  induction n with
  | zero =>
    intro _ h
    cases h
  | succ n ih =>
    intro x2 h H locs ls hW hl
    rw [fX37_sumsComeOut_L2] at h
    refine lv_iload_n hx hb dX8_sumsComeOut_2 rfl (lv_at hl 2 rfl) ?_
    refine lv_bipush (v := 8) hx hb dX8_sumsComeOut_3 (by decide) ?_
    refine lv_icmp_ge (tgt := 45) hx hb dX8_sumsComeOut_5 (by decide) (fun q1 => ?_) (fun q1 => ?_)
    · have h := it_p q1 h
      cases h
      exact kx _ rfl _ _ _ hW (lv_sub hl [] rfl)
    · have h := it_n q1 h
      refine lv_iload_n hx hb dX8_sumsComeOut_8 rfl (lv_at hl 1 rfl) ?_
      refine lv_iload_n hx hb dX8_sumsComeOut_9 rfl (lv_at hl 2 rfl) ?_
      refine lv_ishr hx hb dX8_sumsComeOut_10 ?_
      refine lv_if_eq (tgt := 45) hx hb dX8_sumsComeOut_11 (by decide) (fun q2 => ?_) (fun q2 => ?_)
      · have h := it_p q2 h
        cases h
        exact kx _ rfl _ _ _ hW (lv_sub hl [] rfl)
      · have h := it_n q2 h
        refine lv_iload_n hx hb dX8_sumsComeOut_14 rfl (lv_at hl 1 rfl) ?_
        refine lv_iload_n hx hb dX8_sumsComeOut_15 rfl (lv_at hl 2 rfl) ?_
        refine lv_ishr hx hb dX8_sumsComeOut_16 ?_
        refine lv_iconst (v := 1) hx hb dX8_sumsComeOut_17 (by decide) ?_
        refine lv_iand hx hb dX8_sumsComeOut_18 ?_
        refine lv_if_eq (tgt := 39) hx hb dX8_sumsComeOut_19 (by decide) (fun q3 => ?_) (fun q3 => ?_)
        · have h := it_p q3 h
          refine lv_iinc (v := x2 + 1) (lv' := [(2, .int (x2 + 1)), (0, .ref (ad G 37)), (1, .int x1)]) (k := 2) hx hb dX8_sumsComeOut_39 hl rfl rfl (by decide) rfl (fun ls hl => ?_)
          refine lv_goto (tgt := 2) hx hb dX8_sumsComeOut_42 (by decide) ?_
          exact ih _ h _ _ _ hW (lv_sub hl [1, 2, 0] rfl)
        · have h := it_n q3 h
          refine lv_aload_n hx hb dX8_sumsComeOut_22 rfl (lv_at hl 0 rfl) ?_
          refine gX37_1 hC hW dX8_sumsComeOut_23 ?_
          refine lv_iload_n hx hb dX8_sumsComeOut_26 rfl (lv_at hl 2 rfl) ?_
          refine lv_aload_n hx hb dX8_sumsComeOut_27 rfl (lv_at hl 0 rfl) ?_
          refine gX37_3 hC hW dX8_sumsComeOut_28 ?_
          obtain ⟨t4, e5, h⟩ := bd h
          refine x_goi (x_rv (rest := []) hC hW (ctX29_comesOut aX38 e5) (cwV_g hC.2.2.2.2 ml_X8_133 mi_X7_comesOut md_X7_comesOut ⟨(Nat.le_trans (Nat.le_of_ble_eq_true rfl) hF), (Nat.le_trans (Nat.le_of_ble_eq_true rfl) hL)⟩) (rcX29 hW) rfl hl.1 rfl (Nat.le_of_ble_eq_true rfl) dX8_sumsComeOut_31) hW (fun H locs hW => ?_)
          refine lv_if_ne (tgt := 39) hx hb dX8_sumsComeOut_34 (by decide) (fun q6 => ?_) (fun q6 => ?_)
          · have h := it_n q6 h
            refine lv_iinc (v := x2 + 1) (lv' := [(2, .int (x2 + 1)), (0, .ref (ad G 37)), (1, .int x1)]) (k := 2) hx hb dX8_sumsComeOut_39 hl rfl rfl (by decide) rfl (fun ls hl => ?_)
            refine lv_goto (tgt := 2) hx hb dX8_sumsComeOut_42 (by decide) ?_
            exact ih _ h _ _ _ hW (lv_sub hl [1, 2, 0] rfl)
          · have h := it_p q6 h
            refine lv_iconst (v := 0) hx hb dX8_sumsComeOut_37 (by decide) ?_
            cases h
            exact kr _ rfl _ _ _ _ rfl dX8_sumsComeOut_38 hW
def fX37_sumsComeOut (N : Nat) (S : St) (x1 : Int32) : Option (Int32) :=
  Option.bind (fX37_sumsComeOut_L2 N S x1 N 0) fun t7 => sm t7 fun u9 =>
  some 1
set_option maxHeartbeats 4000000 in
set_option maxRecDepth 100000 in
theorem wX37_sumsComeOut {N : Nat} {S : St} {x1 : Int32} (hC : CallFix p m c cX8_sumsComeOut 3 s args lw_g RX8) (hF : 2 ≤ R.frames) (hL : 46 ≤ R.locals)  {v : Int32} (h : fX37_sumsComeOut N S x1 = some v) (kr : ∀ (H : Heap) (locs : List Loc) (ls : Array Slot) (pc : Nat), isb v = true → decode cX8_sumsComeOut pc = .ok (.ireturn, 1) → wg LX G S s H locs → W p l e R s m args below meth c H locs 0 0 Q (F0 m pc ls [.int v])) : ∀ (H : Heap) (locs : List Loc) (ls : Array Slot), wg LX G S s H locs → lv_has ls 3 [(0, .ref (ad G 37)), (1, .int x1)] → W p l e R s m args below meth c H locs 0 0 Q (F0 m 0 ls []) := by
  have hx := hC.1
  have hb := hC.2.1
  intro H locs ls hW hl
  unfold fX37_sumsComeOut at h
  refine lv_iconst (v := 0) hx hb dX8_sumsComeOut_0 (by decide) ?_
  refine lv_istore_n (lv' := [(2, .int 0), (0, .ref (ad G 37)), (1, .int x1)]) hx hb dX8_sumsComeOut_1 rfl hl (by decide) rfl (fun ls hl => ?_)
  obtain ⟨t7, e8, h⟩ := bd h
  refine wX37_sumsComeOut_L2 hC hF hL  (fun r er H locs ls pc hz hd hW => ?_) (fun u9 eu H locs ls hW hl => ?_) _ _ e8 _ _ _ hW (lv_sub hl [1, 2, 0] rfl)
  · rw [er] at h
    have h := sm_l h
    cases h
    exact kr _ _ _ _ hz hd hW
  · rw [eu] at h
    have h := sm_r h
    refine lv_iconst (v := 1) hx hb dX8_sumsComeOut_45 (by decide) ?_
    cases h
    exact kr _ _ _ _ rfl dX8_sumsComeOut_46 hW
theorem ctX37_sumsComeOut {N : Nat} {S : St} {x1 : Int32}  {v : Int32} (h : fX37_sumsComeOut N S x1 = some v) : Met l yX8_sumsComeOut (wm yX8_sumsComeOut cX8_sumsComeOut 3 (some .boolean)) (rmx 2 46) (pcm LX G S [.ref (ad G 37), .int x1]) (qcI LX G S v) 0 0 G.2.2.2 :=
  x_enter (own := RX8) rfl rfl (Nat.le_of_ble_eq_true rfl) (fun p e s m below meth c ls hC hr hk hW hl => wX37_sumsComeOut hC (Nat.le_refl _) (Nat.le_refl _)  h (fun H locs ls pc hz hd hW => x_retz hC hr hk hW hz hd) _ _ _ hW hl)
def fX37_tryNumber (N : Nat) (S : St) (x1 : Int32) (x2 : Int32) : Option (Int32 × St) :=
  if (S.1 37 11) < (S.1 37 10) then
    nx (p1 S 37 11 ((S.1 37 11) + 1)) fun s2 =>
    gd (inb x1 12) <|
    nx (p1 s2 38 (Int32.toNatClampNeg x1) x2) fun s5 =>
    gd (inb x1 12) <|
    Option.bind (fX37_rulesHold N s5 (s5.1 42 (Int32.toNatClampNeg x1))) fun t8 =>
    Option.bind (α := Int32) (
      if t8 = 0 then
        some 0
      else
        gd (inb x1 12) <|
        Option.bind (fX37_sumsComeOut N s5 (s5.1 43 (Int32.toNatClampNeg x1))) fun t15 =>
        if t15 = 0 then
          some 0
        else
          some 1
    ) fun t11 =>
    gd (isb t11) <|
    some (t11, s5)
  else
    nx (p1 S 37 14 1) fun s19 =>
    some (0, s19)
set_option maxHeartbeats 4000000 in
set_option maxRecDepth 100000 in
theorem wX37_tryNumber {N : Nat} {S : St} {x1 : Int32} {x2 : Int32} (hC : CallFix p m c cX8_tryNumber 3 s args lw_g RX8) (hF : 3 ≤ R.frames) (hL : 68 ≤ R.locals)  {v : Int32} {S' : St} (h : fX37_tryNumber N S x1 x2 = some (v, S')) (kr : ∀ (H : Heap) (locs : List Loc) (ls : Array Slot) (pc : Nat), isb v = true → decode cX8_tryNumber pc = .ok (.ireturn, 1) → wg LX G (S') s H locs → W p l e R s m args below meth c H locs 0 0 Q (F0 m pc ls [.int v])) : ∀ (H : Heap) (locs : List Loc) (ls : Array Slot), wg LX G S s H locs → lv_has ls 3 [(0, .ref (ad G 37)), (1, .int x1), (2, .int x2)] → W p l e R s m args below meth c H locs 0 0 Q (F0 m 0 ls []) := by
  have hx := hC.1
  have hb := hC.2.1
  intro H locs ls hW hl
  unfold fX37_tryNumber at h
  refine lv_aload_n hx hb dX8_tryNumber_0 rfl (lv_at hl 0 rfl) ?_
  refine gX37_11 hC hW dX8_tryNumber_1 ?_
  refine lv_aload_n hx hb dX8_tryNumber_4 rfl (lv_at hl 0 rfl) ?_
  refine gX37_10 hC hW dX8_tryNumber_5 ?_
  refine lv_icmp_lt (tgt := 18) hx hb dX8_tryNumber_8 (by decide) (fun q1 => ?_) (fun q1 => ?_)
  · have h := it_p q1 h
    refine lv_aload_n hx hb dX8_tryNumber_18 rfl (lv_at hl 0 rfl) ?_
    refine lv_dup hx hb dX8_tryNumber_19 rfl ?_
    refine gX37_11 hC hW dX8_tryNumber_20 ?_
    refine lv_iconst (v := 1) hx hb dX8_tryNumber_23 (by decide) ?_
    refine lv_iadd hx hb dX8_tryNumber_24 ?_
    refine pX37_11 hC hW dX8_tryNumber_25 (fun H locs hW => ?_)
    obtain ⟨s2, e3, h⟩ := nx_some h
    rw [← e3] at hW
    refine lv_aload_n hx hb dX8_tryNumber_28 rfl (lv_at hl 0 rfl) ?_
    refine gX37_3 hC hW dX8_tryNumber_29 ?_
    refine lv_iload_n hx hb dX8_tryNumber_32 rfl (lv_at hl 1 rfl) ?_
    refine lv_iload_n hx hb dX8_tryNumber_33 rfl (lv_at hl 2 rfl) ?_
    obtain ⟨g4, h⟩ := gd_some h
    refine x_iast hC hW aX38 g4 dX8_tryNumber_34 (fun H locs hW => ?_)
    obtain ⟨s5, e6, h⟩ := nx_some h
    rw [← e6] at hW
    refine lv_aload_n hx hb dX8_tryNumber_35 rfl (lv_at hl 0 rfl) ?_
    refine lv_aload_n hx hb dX8_tryNumber_36 rfl (lv_at hl 0 rfl) ?_
    refine gX37_7 hC hW dX8_tryNumber_37 ?_
    refine lv_iload_n hx hb dX8_tryNumber_40 rfl (lv_at hl 1 rfl) ?_
    obtain ⟨g7, h⟩ := gd_some h
    refine x_iald hC hW aX42 g7 dX8_tryNumber_41 ?_
    obtain ⟨t8, e9, h⟩ := bd h
    refine x_goi (x_rv (rest := []) hC hW (ctX37_rulesHold e9) (cwV_g hC.2.2.2.2 ml_X8_123 mi_X8_rulesHold md_X8_rulesHold ⟨(Nat.le_trans (Nat.le_of_ble_eq_true rfl) hF), (Nat.le_trans (Nat.le_of_ble_eq_true rfl) hL)⟩) (rcX37 hW) rfl hl.1 rfl (Nat.le_of_ble_eq_true rfl) dX8_tryNumber_42) hW (fun H locs hW => ?_)
    obtain ⟨t11, e12, h⟩ := bd h
    have K10 : ∀ (H : Heap) (locs : List Loc) (ls : Array Slot), wg LX G s5 s H locs → lv_has ls 3 [] → W p l e R s m args below meth c H locs 0 0 Q (F0 m 66 ls [.int t11]) := by
      intro H locs ls hW hl
      obtain ⟨g18, h⟩ := gd_some h
      cases h
      exact kr _ _ _ _ g18 dX8_tryNumber_66 hW
    clear h
    have h := e12
    clear e12
    refine lv_if_eq (tgt := 65) hx hb dX8_tryNumber_45 (by decide) (fun q13 => ?_) (fun q13 => ?_)
    · have h := it_p q13 h
      refine lv_iconst (v := 0) hx hb dX8_tryNumber_65 (by decide) ?_
      cases h
      exact K10 _ _ _ hW (lv_sub hl [] rfl)
    · have h := it_n q13 h
      refine lv_aload_n hx hb dX8_tryNumber_48 rfl (lv_at hl 0 rfl) ?_
      refine lv_aload_n hx hb dX8_tryNumber_49 rfl (lv_at hl 0 rfl) ?_
      refine gX37_8 hC hW dX8_tryNumber_50 ?_
      refine lv_iload_n hx hb dX8_tryNumber_53 rfl (lv_at hl 1 rfl) ?_
      obtain ⟨g14, h⟩ := gd_some h
      refine x_iald hC hW aX43 g14 dX8_tryNumber_54 ?_
      obtain ⟨t15, e16, h⟩ := bd h
      refine x_goi (x_rv (rest := []) hC hW (ctX37_sumsComeOut e16) (cwV_g hC.2.2.2.2 ml_X8_126 mi_X8_sumsComeOut md_X8_sumsComeOut ⟨(Nat.le_trans (Nat.le_of_ble_eq_true rfl) hF), (Nat.le_trans (Nat.le_of_ble_eq_true rfl) hL)⟩) (rcX37 hW) rfl hl.1 rfl (Nat.le_of_ble_eq_true rfl) dX8_tryNumber_55) hW (fun H locs hW => ?_)
      refine lv_if_eq (tgt := 65) hx hb dX8_tryNumber_58 (by decide) (fun q17 => ?_) (fun q17 => ?_)
      · have h := it_p q17 h
        refine lv_iconst (v := 0) hx hb dX8_tryNumber_65 (by decide) ?_
        cases h
        exact K10 _ _ _ hW (lv_sub hl [] rfl)
      · have h := it_n q17 h
        refine lv_iconst (v := 1) hx hb dX8_tryNumber_61 (by decide) ?_
        refine lv_goto (tgt := 66) hx hb dX8_tryNumber_62 (by decide) ?_
        cases h
        exact K10 _ _ _ hW (lv_sub hl [] rfl)
  · have h := it_n q1 h
    refine lv_aload_n hx hb dX8_tryNumber_11 rfl (lv_at hl 0 rfl) ?_
    refine lv_iconst (v := 1) hx hb dX8_tryNumber_12 (by decide) ?_
    refine pX37_14 hC hW rfl dX8_tryNumber_13 (fun H locs hW => ?_)
    obtain ⟨s19, e20, h⟩ := nx_some h
    rw [← e20] at hW
    refine lv_iconst (v := 0) hx hb dX8_tryNumber_16 (by decide) ?_
    cases h
    exact kr _ _ _ _ rfl dX8_tryNumber_17 hW
theorem ctX37_tryNumber {N : Nat} {S : St} {x1 : Int32} {x2 : Int32}  {v : Int32} {S' : St} (h : fX37_tryNumber N S x1 x2 = some (v, S')) : Met l yX8_tryNumber (wm yX8_tryNumber cX8_tryNumber 3 (some .boolean)) (rmx 3 68) (pcm LX G S [.ref (ad G 37), .int x1, .int x2]) (qcI LX G S' v) 0 0 G.2.2.2 :=
  x_enter (own := RX8) rfl rfl (Nat.le_of_ble_eq_true rfl) (fun p e s m below meth c ls hC hr hk hW hl => wX37_tryNumber hC (Nat.le_refl _) (Nat.le_refl _)  h (fun H locs ls pc hz hd hW => x_retz hC hr hk hW hz hd) _ _ _ hW hl)
def fX37_tallyFilling_L2 (N : Nat)  : Nat → St → Int32 → Option (St)
  | 0, _, _ => none
  | n + 1, S, x1 =>
    if 12 ≤ x1 then
      some S
    else
      Option.bind (fX25_isThere S x1) fun t2 =>
      Option.bind (α := St) (
        if t2 = 0 then
          some S
        else
          gd (inb x1 12) <|
          gd (inb ((x1 * 100) + (S.1 38 (Int32.toNatClampNeg x1))) 1200) <|
          gd (inb ((x1 * 100) + (S.1 38 (Int32.toNatClampNeg x1))) 1200) <|
          nx (p1 S 41 (Int32.toNatClampNeg ((x1 * 100) + (S.1 38 (Int32.toNatClampNeg x1)))) ((S.1 41 (Int32.toNatClampNeg ((x1 * 100) + (S.1 38 (Int32.toNatClampNeg x1))))) + 1)) fun s11 =>
          some s11
      ) fun t5 =>
      fX37_tallyFilling_L2 N n t5 (x1 + 1)
set_option maxHeartbeats 4000000 in
set_option maxRecDepth 100000 in
theorem wX37_tallyFilling_L2 {N : Nat}  (hC : CallFix p m c cX8_tallyFilling 2 s args lw_g RX8) (hF : 1 ≤ R.frames) (hL : 21 ≤ R.locals)  {t : St} (kx : ∀ (H : Heap) (locs : List Loc) (ls : Array Slot), wg LX G t s H locs → lv_has ls 2 [] → W p l e R s m args below meth c H locs 0 0 Q (F0 m 45 ls [])) : ∀ (n : Nat) (S : St) (x1 : Int32), fX37_tallyFilling_L2 N  n S x1 = some t → ∀ (H : Heap) (locs : List Loc) (ls : Array Slot), wg LX G S s H locs → lv_has ls 2 [(0, .ref (ad G 37)), (1, .int x1)] → W p l e R s m args below meth c H locs 0 0 Q (F0 m 2 ls []) := by
  have hx := hC.1
  have hb := hC.2.1
  intro n
  induction n with
  | zero =>
    intro _ _ h
    cases h
  | succ n ih =>
    intro S x1 h H locs ls hW hl
    rw [fX37_tallyFilling_L2] at h
    refine lv_iload_n hx hb dX8_tallyFilling_2 rfl (lv_at hl 1 rfl) ?_
    refine lv_bipush (v := 12) hx hb dX8_tallyFilling_3 (by decide) ?_
    refine lv_icmp_ge (tgt := 45) hx hb dX8_tallyFilling_5 (by decide) (fun q1 => ?_) (fun q1 => ?_)
    · have h := it_p q1 h
      cases h
      exact kx _ _ _ hW (lv_sub hl [] rfl)
    · have h := it_n q1 h
      refine lv_aload_n hx hb dX8_tallyFilling_8 rfl (lv_at hl 0 rfl) ?_
      refine gX37_0 hC hW dX8_tallyFilling_9 ?_
      refine lv_iload_n hx hb dX8_tallyFilling_12 rfl (lv_at hl 1 rfl) ?_
      obtain ⟨t2, e3, h⟩ := bd h
      refine x_goi (x_rv (rest := []) hC hW (ctX25_isThere e3) (cwV_g hC.2.2.2.2 ml_X8_101 mi_X0_isThere md_X0_isThere ⟨(Nat.le_trans (Nat.le_of_ble_eq_true rfl) hF), (Nat.le_trans (Nat.le_of_ble_eq_true rfl) hL)⟩) (rcX25 hW) rfl hl.1 rfl (Nat.le_of_ble_eq_true rfl) dX8_tallyFilling_13) hW (fun H locs hW => ?_)
      obtain ⟨t5, e6, h⟩ := bd h
      have K4 : ∀ (H : Heap) (locs : List Loc) (ls : Array Slot), wg LX G t5 s H locs → lv_has ls 2 [(0, .ref (ad G 37)), (1, .int x1)] → W p l e R s m args below meth c H locs 0 0 Q (F0 m 39 ls []) := by
        intro H locs ls hW hl
        refine lv_iinc (v := x1 + 1) (lv' := [(1, .int (x1 + 1)), (0, .ref (ad G 37))]) (k := 1) hx hb dX8_tallyFilling_39 hl rfl rfl (by decide) rfl (fun ls hl => ?_)
        refine lv_goto (tgt := 2) hx hb dX8_tallyFilling_42 (by decide) ?_
        exact ih _ _ h _ _ _ hW (lv_sub hl [1, 0] rfl)
      clear h
      have h := e6
      clear e6
      refine lv_if_eq (tgt := 39) hx hb dX8_tallyFilling_16 (by decide) (fun q7 => ?_) (fun q7 => ?_)
      · have h := it_p q7 h
        cases h
        exact K4 _ _ _ hW (lv_sub hl [0, 1] rfl)
      · have h := it_n q7 h
        refine lv_aload_n hx hb dX8_tallyFilling_19 rfl (lv_at hl 0 rfl) ?_
        refine gX37_6 hC hW dX8_tallyFilling_20 ?_
        refine lv_iload_n hx hb dX8_tallyFilling_23 rfl (lv_at hl 1 rfl) ?_
        refine lv_bipush (v := 100) hx hb dX8_tallyFilling_24 (by decide) ?_
        refine lv_imul hx hb dX8_tallyFilling_26 ?_
        refine lv_aload_n hx hb dX8_tallyFilling_27 rfl (lv_at hl 0 rfl) ?_
        refine gX37_3 hC hW dX8_tallyFilling_28 ?_
        refine lv_iload_n hx hb dX8_tallyFilling_31 rfl (lv_at hl 1 rfl) ?_
        obtain ⟨g8, h⟩ := gd_some h
        refine x_iald hC hW aX38 g8 dX8_tallyFilling_32 ?_
        refine lv_iadd hx hb dX8_tallyFilling_33 ?_
        refine lv_dup2_11 hx hb dX8_tallyFilling_34 rfl rfl ?_
        obtain ⟨g9, h⟩ := gd_some h
        refine x_iald hC hW aX41 g9 dX8_tallyFilling_35 ?_
        refine lv_iconst (v := 1) hx hb dX8_tallyFilling_36 (by decide) ?_
        refine lv_iadd hx hb dX8_tallyFilling_37 ?_
        obtain ⟨g10, h⟩ := gd_some h
        refine x_iast hC hW aX41 g10 dX8_tallyFilling_38 (fun H locs hW => ?_)
        obtain ⟨s11, e12, h⟩ := nx_some h
        rw [← e12] at hW
        cases h
        exact K4 _ _ _ hW (lv_sub hl [0, 1] rfl)
def fX37_tallyFilling (N : Nat) (S : St)  : Option (St) :=
  Option.bind (fX37_tallyFilling_L2 N N S 0) fun t13 =>
  some t13
set_option maxHeartbeats 4000000 in
set_option maxRecDepth 100000 in
theorem wX37_tallyFilling {N : Nat} {S : St}  (hC : CallFix p m c cX8_tallyFilling 2 s args lw_g RX8) (hF : 1 ≤ R.frames) (hL : 21 ≤ R.locals)  {S' : St} (h : fX37_tallyFilling N S = some (S')) (kr : ∀ (H : Heap) (locs : List Loc) (ls : Array Slot) (pc : Nat), decode cX8_tallyFilling pc = .ok (.return_, 1) → wg LX G (S') s H locs → W p l e R s m args below meth c H locs 0 0 Q (F0 m pc ls [])) : ∀ (H : Heap) (locs : List Loc) (ls : Array Slot), wg LX G S s H locs → lv_has ls 2 [(0, .ref (ad G 37))] → W p l e R s m args below meth c H locs 0 0 Q (F0 m 0 ls []) := by
  have hx := hC.1
  have hb := hC.2.1
  intro H locs ls hW hl
  unfold fX37_tallyFilling at h
  refine lv_iconst (v := 0) hx hb dX8_tallyFilling_0 (by decide) ?_
  refine lv_istore_n (lv' := [(1, .int 0), (0, .ref (ad G 37))]) hx hb dX8_tallyFilling_1 rfl hl (by decide) rfl (fun ls hl => ?_)
  obtain ⟨t13, e14, h⟩ := bd h
  refine wX37_tallyFilling_L2 hC hF hL  (fun H locs ls hW hl => ?_) _ _ _ e14 _ _ _ hW (lv_sub hl [1, 0] rfl)
  cases h
  exact kr _ _ _ _ dX8_tallyFilling_45 hW
theorem ctX37_tallyFilling {N : Nat} {S : St}   {S' : St} (h : fX37_tallyFilling N S = some (S')) : Met l yX8_tallyFilling (wm yX8_tallyFilling cX8_tallyFilling 2 none) (rmx 1 21) (pcm LX G S [.ref (ad G 37)]) (qcV LX G S') 0 0 G.2.2.2 :=
  x_enter (own := RX8) rfl rfl (Nat.le_of_ble_eq_true rfl) (fun p e s m below meth c ls hC hr hk hW hl => wX37_tallyFilling hC (Nat.le_refl _) (Nat.le_refl _)  h (fun H locs ls pc hd hW => x_retv hC hr hk hW hd) _ _ _ hW hl)
def fX37_weighFilling_L4 (N : Nat) (S : St)  : Nat → Int32 → Int32 → Option (Int32)
  | 0, _, _ => none
  | n + 1, x1, x2 =>
    if 12 ≤ x2 then
      some x1
    else
      Option.bind (fX25_isThere S x2) fun t2 =>
      Option.bind (α := Int32) (
        if t2 = 0 then
          some 0
        else
          gd (inb x2 12) <|
          gd (inb ((S.1 38 (Int32.toNatClampNeg x2)) - (S.1 38 (Int32.toNatClampNeg x2)) / 10 * 10) 10) <|
          some (S.1 40 (Int32.toNatClampNeg ((S.1 38 (Int32.toNatClampNeg x2)) - (S.1 38 (Int32.toNatClampNeg x2)) / 10 * 10)))
      ) fun t5 =>
      fX37_weighFilling_L4 N S n (x1 + t5) (x2 + 1)
set_option maxHeartbeats 4000000 in
set_option maxRecDepth 100000 in
theorem wX37_weighFilling_L4 {N : Nat} {S : St}  (hC : CallFix p m c cX8_weighFilling 3 s args lw_g RX8) (hF : 1 ≤ R.frames) (hL : 64 ≤ R.locals)  {t : Int32} (kx : ∀ (H : Heap) (locs : List Loc) (ls : Array Slot), wg LX G S s H locs → lv_has ls 3 [(0, .ref (ad G 37)), (1, .int t)] → W p l e R s m args below meth c H locs 0 0 Q (F0 m 48 ls [])) : ∀ (n : Nat) (x1 : Int32) (x2 : Int32), fX37_weighFilling_L4 N S  n x1 x2 = some t → ∀ (H : Heap) (locs : List Loc) (ls : Array Slot), wg LX G S s H locs → lv_has ls 3 [(0, .ref (ad G 37)), (1, .int x1), (2, .int x2)] → W p l e R s m args below meth c H locs 0 0 Q (F0 m 4 ls []) := by
  have hx := hC.1
  have hb := hC.2.1
  intro n
  induction n with
  | zero =>
    intro _ _ h
    cases h
  | succ n ih =>
    intro x1 x2 h H locs ls hW hl
    rw [fX37_weighFilling_L4] at h
    refine lv_iload_n hx hb dX8_weighFilling_4 rfl (lv_at hl 2 rfl) ?_
    refine lv_bipush (v := 12) hx hb dX8_weighFilling_5 (by decide) ?_
    refine lv_icmp_ge (tgt := 48) hx hb dX8_weighFilling_7 (by decide) (fun q1 => ?_) (fun q1 => ?_)
    · have h := it_p q1 h
      cases h
      exact kx _ _ _ hW (lv_sub hl [0, 1] rfl)
    · have h := it_n q1 h
      refine lv_iload_n hx hb dX8_weighFilling_10 rfl (lv_at hl 1 rfl) ?_
      refine lv_aload_n hx hb dX8_weighFilling_11 rfl (lv_at hl 0 rfl) ?_
      refine gX37_0 hC hW dX8_weighFilling_12 ?_
      refine lv_iload_n hx hb dX8_weighFilling_15 rfl (lv_at hl 2 rfl) ?_
      obtain ⟨t2, e3, h⟩ := bd h
      refine x_goi (x_rv (rest := [.int x1]) hC hW (ctX25_isThere e3) (cwV_g hC.2.2.2.2 ml_X8_101 mi_X0_isThere md_X0_isThere ⟨(Nat.le_trans (Nat.le_of_ble_eq_true rfl) hF), (Nat.le_trans (Nat.le_of_ble_eq_true rfl) hL)⟩) (rcX25 hW) rfl hl.1 rfl (Nat.le_of_ble_eq_true rfl) dX8_weighFilling_16) hW (fun H locs hW => ?_)
      obtain ⟨t5, e6, h⟩ := bd h
      have K4 : ∀ (H : Heap) (locs : List Loc) (ls : Array Slot), wg LX G S s H locs → lv_has ls 3 [(0, .ref (ad G 37)), (2, .int x2)] → W p l e R s m args below meth c H locs 0 0 Q (F0 m 40 ls [.int t5, .int x1]) := by
        intro H locs ls hW hl
        refine lv_iadd hx hb dX8_weighFilling_40 ?_
        refine lv_istore_n (lv' := [(1, .int (x1 + t5)), (0, .ref (ad G 37)), (2, .int x2)]) hx hb dX8_weighFilling_41 rfl hl (by decide) rfl (fun ls hl => ?_)
        refine lv_iinc (v := x2 + 1) (lv' := [(2, .int (x2 + 1)), (1, .int (x1 + t5)), (0, .ref (ad G 37))]) (k := 2) hx hb dX8_weighFilling_42 hl rfl rfl (by decide) rfl (fun ls hl => ?_)
        refine lv_goto (tgt := 4) hx hb dX8_weighFilling_45 (by decide) ?_
        exact ih _ _ h _ _ _ hW (lv_sub hl [2, 1, 0] rfl)
      clear h
      have h := e6
      clear e6
      refine lv_if_eq (tgt := 39) hx hb dX8_weighFilling_19 (by decide) (fun q7 => ?_) (fun q7 => ?_)
      · have h := it_p q7 h
        refine lv_iconst (v := 0) hx hb dX8_weighFilling_39 (by decide) ?_
        cases h
        exact K4 _ _ _ hW (lv_sub hl [0, 2] rfl)
      · have h := it_n q7 h
        refine lv_aload_n hx hb dX8_weighFilling_22 rfl (lv_at hl 0 rfl) ?_
        refine gX37_5 hC hW dX8_weighFilling_23 ?_
        refine lv_aload_n hx hb dX8_weighFilling_26 rfl (lv_at hl 0 rfl) ?_
        refine gX37_3 hC hW dX8_weighFilling_27 ?_
        refine lv_iload_n hx hb dX8_weighFilling_30 rfl (lv_at hl 2 rfl) ?_
        obtain ⟨g8, h⟩ := gd_some h
        refine x_iald hC hW aX38 g8 dX8_weighFilling_31 ?_
        refine lv_bipush (v := 10) hx hb dX8_weighFilling_32 (by decide) ?_
        refine lv_irem hx hb dX8_weighFilling_34 (by decide) ?_
        obtain ⟨g9, h⟩ := gd_some h
        refine x_iald hC hW aX40 g9 dX8_weighFilling_35 ?_
        refine lv_goto (tgt := 40) hx hb dX8_weighFilling_36 (by decide) ?_
        cases h
        exact K4 _ _ _ hW (lv_sub hl [0, 2] rfl)
def fX37_weighFilling (N : Nat) (S : St)  : Option (St) :=
  Option.bind (fX37_weighFilling_L4 N S N 0 0) fun t10 =>
  Option.bind (α := St) (
    if t10 ≤ (S.1 37 13) then
      some S
    else
      nx (p1 S 37 13 t10) fun s16 =>
      gd (cpb 0 0 12 12 12) <|
      nx (pcp s16 38 39 (Int32.toNatClampNeg 0) (Int32.toNatClampNeg 0) (Int32.toNatClampNeg 12)) fun s19 =>
      some s19
  ) fun t13 =>
  some t13
set_option maxHeartbeats 4000000 in
set_option maxRecDepth 100000 in
theorem wX37_weighFilling {N : Nat} {S : St}  (hC : CallFix p m c cX8_weighFilling 3 s args lw_g RX8) (hF : 1 ≤ R.frames) (hL : 64 ≤ R.locals)  {S' : St} (h : fX37_weighFilling N S = some (S')) (kr : ∀ (H : Heap) (locs : List Loc) (ls : Array Slot) (pc : Nat), decode cX8_weighFilling pc = .ok (.return_, 1) → wg LX G (S') s H locs → W p l e R s m args below meth c H locs 0 0 Q (F0 m pc ls [])) : ∀ (H : Heap) (locs : List Loc) (ls : Array Slot), wg LX G S s H locs → lv_has ls 3 [(0, .ref (ad G 37))] → W p l e R s m args below meth c H locs 0 0 Q (F0 m 0 ls []) := by
  have hx := hC.1
  have hb := hC.2.1
  intro H locs ls hW hl
  unfold fX37_weighFilling at h
  refine lv_iconst (v := 0) hx hb dX8_weighFilling_0 (by decide) ?_
  refine lv_istore_n (lv' := [(1, .int 0), (0, .ref (ad G 37))]) hx hb dX8_weighFilling_1 rfl hl (by decide) rfl (fun ls hl => ?_)
  refine lv_iconst (v := 0) hx hb dX8_weighFilling_2 (by decide) ?_
  refine lv_istore_n (lv' := [(2, .int 0), (1, .int 0), (0, .ref (ad G 37))]) hx hb dX8_weighFilling_3 rfl hl (by decide) rfl (fun ls hl => ?_)
  obtain ⟨t10, e11, h⟩ := bd h
  refine wX37_weighFilling_L4 hC hF hL  (fun H locs ls hW hl => ?_) _ _ _ e11 _ _ _ hW (lv_sub hl [2, 1, 0] rfl)
  refine lv_iload_n hx hb dX8_weighFilling_48 rfl (lv_at hl 1 rfl) ?_
  refine lv_aload_n hx hb dX8_weighFilling_49 rfl (lv_at hl 0 rfl) ?_
  refine gX37_13 hC hW dX8_weighFilling_50 ?_
  obtain ⟨t13, e14, h⟩ := bd h
  have K12 : ∀ (H : Heap) (locs : List Loc) (ls : Array Slot), wg LX G t13 s H locs → lv_has ls 3 [] → W p l e R s m args below meth c H locs 0 0 Q (F0 m 76 ls []) := by
    intro H locs ls hW hl
    cases h
    exact kr _ _ _ _ dX8_weighFilling_76 hW
  clear h
  have h := e14
  clear e14
  refine lv_icmp_le (tgt := 76) hx hb dX8_weighFilling_53 (by decide) (fun q15 => ?_) (fun q15 => ?_)
  · have h := it_p q15 h
    cases h
    exact K12 _ _ _ hW (lv_sub hl [] rfl)
  · have h := it_n q15 h
    refine lv_aload_n hx hb dX8_weighFilling_56 rfl (lv_at hl 0 rfl) ?_
    refine lv_iload_n hx hb dX8_weighFilling_57 rfl (lv_at hl 1 rfl) ?_
    refine pX37_13 hC hW dX8_weighFilling_58 (fun H locs hW => ?_)
    obtain ⟨s16, e17, h⟩ := nx_some h
    rw [← e17] at hW
    refine lv_aload_n hx hb dX8_weighFilling_61 rfl (lv_at hl 0 rfl) ?_
    refine gX37_3 hC hW dX8_weighFilling_62 ?_
    refine lv_iconst (v := 0) hx hb dX8_weighFilling_65 (by decide) ?_
    refine lv_aload_n hx hb dX8_weighFilling_66 rfl (lv_at hl 0 rfl) ?_
    refine gX37_4 hC hW dX8_weighFilling_67 ?_
    refine lv_iconst (v := 0) hx hb dX8_weighFilling_70 (by decide) ?_
    refine lv_bipush (v := 12) hx hb dX8_weighFilling_71 (by decide) ?_
    obtain ⟨g18, h⟩ := gd_some h
    refine x_copy hC hW aX38 aX39 g18 ml_X8_142 mac (Nat.le_trans (Nat.le_of_ble_eq_true rfl) hF) (Nat.le_trans (Nat.le_of_ble_eq_true rfl) hL) hl.1 dX8_weighFilling_73 (fun H locs hW => ?_)
    obtain ⟨s19, e20, h⟩ := nx_some h
    rw [← e20] at hW
    cases h
    exact K12 _ _ _ hW (lv_sub hl [] rfl)
theorem ctX37_weighFilling {N : Nat} {S : St}   {S' : St} (h : fX37_weighFilling N S = some (S')) : Met l yX8_weighFilling (wm yX8_weighFilling cX8_weighFilling 3 none) (rmx 1 64) (pcm LX G S [.ref (ad G 37)]) (qcV LX G S') 0 0 G.2.2.2 :=
  x_enter (own := RX8) rfl rfl (Nat.le_of_ble_eq_true rfl) (fun p e s m below meth c ls hC hr hk hW hl => wX37_weighFilling hC (Nat.le_refl _) (Nat.le_refl _)  h (fun H locs ls pc hd hW => x_retv hC hr hk hW hd) _ _ _ hW hl)
def fX37_takeFilling (N : Nat) (S : St)  : Option (St) :=
  Option.bind (α := St) (
    if (S.1 37 9) = (-1) then
      Option.bind (fX37_tallyFilling N S) fun t5 =>
      Option.bind (fX37_weighFilling N t5) fun t7 =>
      some t7
    else
      some S
  ) fun t2 =>
  Option.bind (α := Int32) (
    if (t2.1 37 12) = (t2.1 37 9) then
      some 1
    else
      some 0
  ) fun t10 =>
  gd (isb t10) <|
  nx (p1 t2 37 15 t10) fun s14 =>
  nx (p1 s14 37 12 ((s14.1 37 12) + 1)) fun s16 =>
  some s16
set_option maxHeartbeats 4000000 in
set_option maxRecDepth 100000 in
theorem wX37_takeFilling {N : Nat} {S : St}  (hC : CallFix p m c cX8_takeFilling 1 s args lw_g RX8) (hF : 2 ≤ R.frames) (hL : 86 ≤ R.locals)  {S' : St} (h : fX37_takeFilling N S = some (S')) (kr : ∀ (H : Heap) (locs : List Loc) (ls : Array Slot) (pc : Nat), decode cX8_takeFilling pc = .ok (.return_, 1) → wg LX G (S') s H locs → W p l e R s m args below meth c H locs 0 0 Q (F0 m pc ls [])) : ∀ (H : Heap) (locs : List Loc) (ls : Array Slot), wg LX G S s H locs → lv_has ls 1 [(0, .ref (ad G 37))] → W p l e R s m args below meth c H locs 0 0 Q (F0 m 0 ls []) := by
  have hx := hC.1
  have hb := hC.2.1
  intro H locs ls hW hl
  unfold fX37_takeFilling at h
  refine lv_aload_n hx hb dX8_takeFilling_0 rfl (lv_at hl 0 rfl) ?_
  refine gX37_9 hC hW dX8_takeFilling_1 ?_
  refine lv_iconst (v := (-1)) hx hb dX8_takeFilling_4 (by decide) ?_
  obtain ⟨t2, e3, h⟩ := bd h
  have K1 : ∀ (H : Heap) (locs : List Loc) (ls : Array Slot), wg LX G t2 s H locs → lv_has ls 1 [(0, .ref (ad G 37))] → W p l e R s m args below meth c H locs 0 0 Q (F0 m 16 ls []) := by
    intro H locs ls hW hl
    refine lv_aload_n hx hb dX8_takeFilling_16 rfl (lv_at hl 0 rfl) ?_
    refine lv_aload_n hx hb dX8_takeFilling_17 rfl (lv_at hl 0 rfl) ?_
    refine gX37_12 hC hW dX8_takeFilling_18 ?_
    refine lv_aload_n hx hb dX8_takeFilling_21 rfl (lv_at hl 0 rfl) ?_
    refine gX37_9 hC hW dX8_takeFilling_22 ?_
    obtain ⟨t10, e11, h⟩ := bd h
    have K9 : ∀ (H : Heap) (locs : List Loc) (ls : Array Slot), wg LX G t2 s H locs → lv_has ls 1 [(0, .ref (ad G 37))] → W p l e R s m args below meth c H locs 0 0 Q (F0 m 33 ls [.int t10, .ref (ad G 37)]) := by
      intro H locs ls hW hl
      obtain ⟨g13, h⟩ := gd_some h
      refine pX37_15 hC hW g13 dX8_takeFilling_33 (fun H locs hW => ?_)
      obtain ⟨s14, e15, h⟩ := nx_some h
      rw [← e15] at hW
      refine lv_aload_n hx hb dX8_takeFilling_36 rfl (lv_at hl 0 rfl) ?_
      refine lv_dup hx hb dX8_takeFilling_37 rfl ?_
      refine gX37_12 hC hW dX8_takeFilling_38 ?_
      refine lv_iconst (v := 1) hx hb dX8_takeFilling_41 (by decide) ?_
      refine lv_iadd hx hb dX8_takeFilling_42 ?_
      refine pX37_12 hC hW dX8_takeFilling_43 (fun H locs hW => ?_)
      obtain ⟨s16, e17, h⟩ := nx_some h
      rw [← e17] at hW
      cases h
      exact kr _ _ _ _ dX8_takeFilling_46 hW
    clear h
    have h := e11
    clear e11
    refine lv_icmp_ne (tgt := 32) hx hb dX8_takeFilling_25 (by decide) (fun q12 => ?_) (fun q12 => ?_)
    · have h := it_n q12 h
      refine lv_iconst (v := 0) hx hb dX8_takeFilling_32 (by decide) ?_
      cases h
      exact K9 _ _ _ hW (lv_sub hl [0] rfl)
    · have h := it_p q12 h
      refine lv_iconst (v := 1) hx hb dX8_takeFilling_28 (by decide) ?_
      refine lv_goto (tgt := 33) hx hb dX8_takeFilling_29 (by decide) ?_
      cases h
      exact K9 _ _ _ hW (lv_sub hl [0] rfl)
  clear h
  have h := e3
  clear e3
  refine lv_icmp_ne (tgt := 16) hx hb dX8_takeFilling_5 (by decide) (fun q4 => ?_) (fun q4 => ?_)
  · have h := it_n q4 h
    cases h
    exact K1 _ _ _ hW (lv_sub hl [0] rfl)
  · have h := it_p q4 h
    refine lv_aload_n hx hb dX8_takeFilling_8 rfl (lv_at hl 0 rfl) ?_
    obtain ⟨t5, e6, h⟩ := bd h
    refine x_gov (x_rv (rest := []) hC hW (ctX37_tallyFilling e6) (cwV_g hC.2.2.2.2 ml_X8_136 mi_X8_tallyFilling md_X8_tallyFilling ⟨(Nat.le_trans (Nat.le_of_ble_eq_true rfl) hF), (Nat.le_trans (Nat.le_of_ble_eq_true rfl) hL)⟩) (rcX37 hW) rfl hl.1 rfl (Nat.le_of_ble_eq_true rfl) dX8_takeFilling_9) hW (fun H locs hW => ?_)
    refine lv_aload_n hx hb dX8_takeFilling_12 rfl (lv_at hl 0 rfl) ?_
    obtain ⟨t7, e8, h⟩ := bd h
    refine x_gov (x_rv (rest := []) hC hW (ctX37_weighFilling e8) (cwV_g hC.2.2.2.2 ml_X8_139 mi_X8_weighFilling md_X8_weighFilling ⟨(Nat.le_trans (Nat.le_of_ble_eq_true rfl) hF), (Nat.le_trans (Nat.le_of_ble_eq_true rfl) hL)⟩) (rcX37 hW) rfl hl.1 rfl (Nat.le_of_ble_eq_true rfl) dX8_takeFilling_13) hW (fun H locs hW => ?_)
    cases h
    exact K1 _ _ _ hW (lv_sub hl [0] rfl)
theorem ctX37_takeFilling {N : Nat} {S : St}   {S' : St} (h : fX37_takeFilling N S = some (S')) : Met l yX8_takeFilling (wm yX8_takeFilling cX8_takeFilling 1 none) (rmx 2 86) (pcm LX G S [.ref (ad G 37)]) (qcV LX G S') 0 0 G.2.2.2 :=
  x_enter (own := RX8) rfl rfl (Nat.le_of_ble_eq_true rfl) (fun p e s m below meth c ls hC hr hk hW hl => wX37_takeFilling hC (Nat.le_refl _) (Nat.le_refl _)  h (fun H locs ls pc hd hW => x_retv hC hr hk hW hd) _ _ _ hW hl)
def fX37_tell_L39 (rec : St → Int32 → Option St) (N : Nat) (x1 : Int32) : Nat → St → Int32 → Option (St)
  | 0, _, _ => none
  | n + 1, S, x2 =>
    Option.bind (fX33_greatest S x1) fun t7 =>
    if t7 < x2 then
      some S
    else
      Option.bind (fX37_isEnded S) fun t10 =>
      if t10 = 0 then
        Option.bind (fX33_isLeft S x1 x2) fun t13 =>
        Option.bind (α := St) (
          if t13 = 0 then
            some S
          else
            Option.bind (fX37_tryNumber N S x1 x2) fun t19 =>
            if t19.1 = 0 then
              some t19.2
            else
              Option.bind (rec t19.2 (x1 + 1)) fun t22 =>
              some t22
        ) fun t16 =>
        fX37_tell_L39 rec N x1 n t16 (x2 + 1)
      else
        some S
set_option maxHeartbeats 4000000 in
set_option maxRecDepth 100000 in
theorem wX37_tell_L39 {rec : St → Int32 → Option St} {N : Nat} {x1 : Int32} (hC : CallFix p m c cX8_tell 3 s args lw_g RX8) (hF : 4 ≤ R.frames) (hL : 106 ≤ R.locals) {Fr Lr : Nat} (hrec : ∀ (S1 S2 : St) (y1 : Int32), rec S1 y1 = some S2 → Met l yX8_tell (wm yX8_tell cX8_tell 3 none) (rmx Fr Lr) (pcm LX G S1 [.ref (ad G 37), .int y1]) (qcV LX G S2) 0 0 G.2.2.2) (hFr : Fr + 1 ≤ R.frames) (hLr : 8 + (3 + 11) + Lr ≤ R.locals)  {t : St} (kx : ∀ (H : Heap) (locs : List Loc) (ls : Array Slot), wg LX G t s H locs → lv_has ls 3 [] → W p l e R s m args below meth c H locs 0 0 Q (F0 m 92 ls [])) : ∀ (n : Nat) (S : St) (x2 : Int32), fX37_tell_L39 rec N x1 n S x2 = some t → ∀ (H : Heap) (locs : List Loc) (ls : Array Slot), wg LX G S s H locs → lv_has ls 3 [(0, .ref (ad G 37)), (1, .int x1), (2, .int x2)] → W p l e R s m args below meth c H locs 0 0 Q (F0 m 39 ls []) := by
  have hx := hC.1
  have hb := hC.2.1
  intro n
  induction n with
  | zero =>
    intro _ _ h
    cases h
  | succ n ih =>
    intro S x2 h H locs ls hW hl
    rw [fX37_tell_L39] at h
    refine lv_iload_n hx hb dX8_tell_39 rfl (lv_at hl 2 rfl) ?_
    refine lv_aload_n hx hb dX8_tell_40 rfl (lv_at hl 0 rfl) ?_
    refine gX37_2 hC hW dX8_tell_41 ?_
    refine lv_iload_n hx hb dX8_tell_44 rfl (lv_at hl 1 rfl) ?_
    obtain ⟨t7, e8, h⟩ := bd h
    refine x_goi (x_rv (rest := [.int x2]) hC hW (ctX33_greatest e8) (cwV_g hC.2.2.2.2 ml_X8_109 mi_X2_greatest md_X2_greatest ⟨(Nat.le_trans (Nat.le_of_ble_eq_true rfl) hF), (Nat.le_trans (Nat.le_of_ble_eq_true rfl) hL)⟩) (rcX33 hW) rfl hl.1 rfl (Nat.le_of_ble_eq_true rfl) dX8_tell_45) hW (fun H locs hW => ?_)
    refine lv_icmp_gt (tgt := 92) hx hb dX8_tell_48 (by decide) (fun q9 => ?_) (fun q9 => ?_)
    · have h := it_p q9 h
      cases h
      exact kx _ _ _ hW (lv_sub hl [] rfl)
    · have h := it_n q9 h
      refine lv_aload_n hx hb dX8_tell_51 rfl (lv_at hl 0 rfl) ?_
      obtain ⟨t10, e11, h⟩ := bd h
      refine x_goi (x_rv (rest := []) hC hW (ctX37_isEnded e11) (cwV_g hC.2.2.2.2 ml_X8_112 mi_X8_isEnded md_X8_isEnded ⟨(Nat.le_trans (Nat.le_of_ble_eq_true rfl) hF), (Nat.le_trans (Nat.le_of_ble_eq_true rfl) hL)⟩) (rcX37 hW) rfl hl.1 rfl (Nat.le_of_ble_eq_true rfl) dX8_tell_52) hW (fun H locs hW => ?_)
      refine lv_if_ne (tgt := 92) hx hb dX8_tell_55 (by decide) (fun q12 => ?_) (fun q12 => ?_)
      · have h := it_n q12 h
        cases h
        exact kx _ _ _ hW (lv_sub hl [] rfl)
      · have h := it_p q12 h
        refine lv_aload_n hx hb dX8_tell_58 rfl (lv_at hl 0 rfl) ?_
        refine gX37_2 hC hW dX8_tell_59 ?_
        refine lv_iload_n hx hb dX8_tell_62 rfl (lv_at hl 1 rfl) ?_
        refine lv_iload_n hx hb dX8_tell_63 rfl (lv_at hl 2 rfl) ?_
        obtain ⟨t13, e14, h⟩ := bd h
        refine x_goi (x_rv (rest := []) hC hW (ctX33_isLeft e14) (cwV_g hC.2.2.2.2 ml_X8_116 mi_X2_isLeft md_X2_isLeft ⟨(Nat.le_trans (Nat.le_of_ble_eq_true rfl) hF), (Nat.le_trans (Nat.le_of_ble_eq_true rfl) hL)⟩) (rcX33 hW) rfl hl.1 rfl (Nat.le_of_ble_eq_true rfl) dX8_tell_64) hW (fun H locs hW => ?_)
        obtain ⟨t16, e17, h⟩ := bd h
        have K15 : ∀ (H : Heap) (locs : List Loc) (ls : Array Slot), wg LX G t16 s H locs → lv_has ls 3 [(0, .ref (ad G 37)), (1, .int x1), (2, .int x2)] → W p l e R s m args below meth c H locs 0 0 Q (F0 m 86 ls []) := by
          intro H locs ls hW hl
          refine lv_iinc (v := x2 + 1) (lv' := [(2, .int (x2 + 1)), (0, .ref (ad G 37)), (1, .int x1)]) (k := 2) hx hb dX8_tell_86 hl rfl rfl (by decide) rfl (fun ls hl => ?_)
          refine lv_goto (tgt := 39) hx hb dX8_tell_89 (by decide) ?_
          exact ih _ _ h _ _ _ hW (lv_sub hl [1, 2, 0] rfl)
        clear h
        have h := e17
        clear e17
        refine lv_if_eq (tgt := 86) hx hb dX8_tell_67 (by decide) (fun q18 => ?_) (fun q18 => ?_)
        · have h := it_p q18 h
          cases h
          exact K15 _ _ _ hW (lv_sub hl [0, 1, 2] rfl)
        · have h := it_n q18 h
          refine lv_aload_n hx hb dX8_tell_70 rfl (lv_at hl 0 rfl) ?_
          refine lv_iload_n hx hb dX8_tell_71 rfl (lv_at hl 1 rfl) ?_
          refine lv_iload_n hx hb dX8_tell_72 rfl (lv_at hl 2 rfl) ?_
          obtain ⟨t19, e20, h⟩ := bd h
          refine x_goi (x_rv (rest := []) hC hW (ctX37_tryNumber e20) (cwV_g hC.2.2.2.2 ml_X8_120 mi_X8_tryNumber md_X8_tryNumber ⟨(Nat.le_trans (Nat.le_of_ble_eq_true rfl) hF), (Nat.le_trans (Nat.le_of_ble_eq_true rfl) hL)⟩) (rcX37 hW) rfl hl.1 rfl (Nat.le_of_ble_eq_true rfl) dX8_tell_73) hW (fun H locs hW => ?_)
          refine lv_if_eq (tgt := 86) hx hb dX8_tell_76 (by decide) (fun q21 => ?_) (fun q21 => ?_)
          · have h := it_p q21 h
            cases h
            exact K15 _ _ _ hW (lv_sub hl [0, 1, 2] rfl)
          · have h := it_n q21 h
            refine lv_aload_n hx hb dX8_tell_79 rfl (lv_at hl 0 rfl) ?_
            refine lv_iload_n hx hb dX8_tell_80 rfl (lv_at hl 1 rfl) ?_
            refine lv_iconst (v := 1) hx hb dX8_tell_81 (by decide) ?_
            refine lv_iadd hx hb dX8_tell_82 ?_
            obtain ⟨t22, e23, h⟩ := bd h
            refine x_gov (x_rv (rest := []) hC hW (hrec _ _ _ e23) (cwV_g hC.2.2.2.2 ml_X8_75 mi_X8_tell md_X8_tell ⟨hFr, hLr⟩) (rcX37 hW) rfl hl.1 rfl (Nat.le_of_ble_eq_true rfl) dX8_tell_83) hW (fun H locs hW => ?_)
            cases h
            exact K15 _ _ _ hW (lv_sub hl [0, 1, 2] rfl)
def fX37_tell_B (rec : St → Int32 → Option St) (N : Nat) (S : St) (x1 : Int32) : Option (St) :=
  if x1 < 12 then
    Option.bind (fX25_isThere S x1) fun t2 =>
    if t2 = 0 then
      Option.bind (rec S (x1 + 1)) fun t26 =>
      some t26
    else
      Option.bind (fX33_least S x1) fun t5 =>
      Option.bind (fX37_tell_L39 rec N x1 N S t5) fun t24 =>
      some t24
  else
    Option.bind (fX37_takeFilling N S) fun t28 =>
    some t28
set_option maxHeartbeats 4000000 in
set_option maxRecDepth 100000 in
theorem wX37_tell {rec : St → Int32 → Option St} {N : Nat} {S : St} {x1 : Int32} (hC : CallFix p m c cX8_tell 3 s args lw_g RX8) (hF : 4 ≤ R.frames) (hL : 106 ≤ R.locals) {Fr Lr : Nat} (hrec : ∀ (S1 S2 : St) (y1 : Int32), rec S1 y1 = some S2 → Met l yX8_tell (wm yX8_tell cX8_tell 3 none) (rmx Fr Lr) (pcm LX G S1 [.ref (ad G 37), .int y1]) (qcV LX G S2) 0 0 G.2.2.2) (hFr : Fr + 1 ≤ R.frames) (hLr : 8 + (3 + 11) + Lr ≤ R.locals)  {S' : St} (h : fX37_tell_B rec N S x1 = some (S')) (kr : ∀ (H : Heap) (locs : List Loc) (ls : Array Slot) (pc : Nat), decode cX8_tell pc = .ok (.return_, 1) → wg LX G (S') s H locs → W p l e R s m args below meth c H locs 0 0 Q (F0 m pc ls [])) : ∀ (H : Heap) (locs : List Loc) (ls : Array Slot), wg LX G S s H locs → lv_has ls 3 [(0, .ref (ad G 37)), (1, .int x1)] → W p l e R s m args below meth c H locs 0 0 Q (F0 m 0 ls []) := by
  have hx := hC.1
  have hb := hC.2.1
  intro H locs ls hW hl
  unfold fX37_tell_B at h
  refine lv_iload_n hx hb dX8_tell_0 rfl (lv_at hl 1 rfl) ?_
  refine lv_bipush (v := 12) hx hb dX8_tell_1 (by decide) ?_
  refine lv_icmp_lt (tgt := 11) hx hb dX8_tell_3 (by decide) (fun q1 => ?_) (fun q1 => ?_)
  · have h := it_p q1 h
    refine lv_aload_n hx hb dX8_tell_11 rfl (lv_at hl 0 rfl) ?_
    refine gX37_0 hC hW dX8_tell_12 ?_
    refine lv_iload_n hx hb dX8_tell_15 rfl (lv_at hl 1 rfl) ?_
    obtain ⟨t2, e3, h⟩ := bd h
    refine x_goi (x_rv (rest := []) hC hW (ctX25_isThere e3) (cwV_g hC.2.2.2.2 ml_X8_101 mi_X0_isThere md_X0_isThere ⟨(Nat.le_trans (Nat.le_of_ble_eq_true rfl) hF), (Nat.le_trans (Nat.le_of_ble_eq_true rfl) hL)⟩) (rcX25 hW) rfl hl.1 rfl (Nat.le_of_ble_eq_true rfl) dX8_tell_16) hW (fun H locs hW => ?_)
    refine lv_if_ne (tgt := 30) hx hb dX8_tell_19 (by decide) (fun q4 => ?_) (fun q4 => ?_)
    · have h := it_n q4 h
      refine lv_aload_n hx hb dX8_tell_30 rfl (lv_at hl 0 rfl) ?_
      refine gX37_2 hC hW dX8_tell_31 ?_
      refine lv_iload_n hx hb dX8_tell_34 rfl (lv_at hl 1 rfl) ?_
      obtain ⟨t5, e6, h⟩ := bd h
      refine x_goi (x_rv (rest := []) hC hW (ctX33_least e6) (cwV_g hC.2.2.2.2 ml_X8_104 mi_X2_least md_X2_least ⟨(Nat.le_trans (Nat.le_of_ble_eq_true rfl) hF), (Nat.le_trans (Nat.le_of_ble_eq_true rfl) hL)⟩) (rcX33 hW) rfl hl.1 rfl (Nat.le_of_ble_eq_true rfl) dX8_tell_35) hW (fun H locs hW => ?_)
      refine lv_istore_n (lv' := [(2, .int t5), (0, .ref (ad G 37)), (1, .int x1)]) hx hb dX8_tell_38 rfl hl (by decide) rfl (fun ls hl => ?_)
      obtain ⟨t24, e25, h⟩ := bd h
      refine wX37_tell_L39 hC hF hL hrec hFr hLr  (fun H locs ls hW hl => ?_) _ _ _ e25 _ _ _ hW (lv_sub hl [1, 2, 0] rfl)
      cases h
      exact kr _ _ _ _ dX8_tell_92 hW
    · have h := it_p q4 h
      refine lv_aload_n hx hb dX8_tell_22 rfl (lv_at hl 0 rfl) ?_
      refine lv_iload_n hx hb dX8_tell_23 rfl (lv_at hl 1 rfl) ?_
      refine lv_iconst (v := 1) hx hb dX8_tell_24 (by decide) ?_
      refine lv_iadd hx hb dX8_tell_25 ?_
      obtain ⟨t26, e27, h⟩ := bd h
      refine x_gov (x_rv (rest := []) hC hW (hrec _ _ _ e27) (cwV_g hC.2.2.2.2 ml_X8_75 mi_X8_tell md_X8_tell ⟨hFr, hLr⟩) (rcX37 hW) rfl hl.1 rfl (Nat.le_of_ble_eq_true rfl) dX8_tell_26) hW (fun H locs hW => ?_)
      cases h
      exact kr _ _ _ _ dX8_tell_29 hW
  · have h := it_n q1 h
    refine lv_aload_n hx hb dX8_tell_6 rfl (lv_at hl 0 rfl) ?_
    obtain ⟨t28, e29, h⟩ := bd h
    refine x_gov (x_rv (rest := []) hC hW (ctX37_takeFilling e29) (cwV_g hC.2.2.2.2 ml_X8_98 mi_X8_takeFilling md_X8_takeFilling ⟨(Nat.le_trans (Nat.le_of_ble_eq_true rfl) hF), (Nat.le_trans (Nat.le_of_ble_eq_true rfl) hL)⟩) (rcX37 hW) rfl hl.1 rfl (Nat.le_of_ble_eq_true rfl) dX8_tell_7) hW (fun H locs hW => ?_)
    cases h
    exact kr _ _ _ _ dX8_tell_10 hW
def fX37_tell (N : Nat) : Nat → St → Int32 → Option St
  | 0, _, _ => none
  | d + 1, S, x1 => fX37_tell_B (fX37_tell N d) N S x1
theorem ctX37_tell_d {N : Nat} : ∀ (d : Nat) (S S' : St) (x1 : Int32), fX37_tell N d S x1 = some S' → Met l yX8_tell (wm yX8_tell cX8_tell 3 none) (rmx (4 + d) (106 + d * 22)) (pcm LX G S [.ref (ad G 37), .int x1]) (qcV LX G S') 0 0 G.2.2.2
  | 0, _, _, _, h => by cases h
  | d + 1, S, S', x1, h => by
    rw [fX37_tell] at h
    exact x_enter (own := RX8) rfl rfl (Nat.le_of_ble_eq_true rfl) (fun p e s m below meth c ls hC hr hk hW hl => wX37_tell hC (show 4 ≤ 4 + (d + 1) by omega) (show 106 ≤ 106 + (d + 1) * 22 by omega) (ctX37_tell_d d) (show 4 + d + 1 ≤ 4 + (d + 1) by omega) (show 8 + (3 + 11) + (106 + d * 22) ≤ 106 + (d + 1) * 22 by omega) h (fun H locs ls pc hd hW => x_retv hC hr hk hW hd) _ _ _ hW hl)
theorem ctX37_tell {N : Nat} {S S' : St} {x1 : Int32} (h : fX37_tell N 13 S x1 = some S') : Met l yX8_tell (wm yX8_tell cX8_tell 3 none) (rmx 17 392) (pcm LX G S [.ref (ad G 37), .int x1]) (qcV LX G S') 0 0 G.2.2.2 := ctX37_tell_d 13 S S' x1 h
def fX37_goTo (N : Nat) (S : St) (x1 : Int32) (x2 : Int32) (x3 : Int32) : Option (St) :=
  nx (p1 S 37 9 x1) fun s1 =>
  nx (p1 s1 37 10 x2) fun s3 =>
  nx (p1 s3 37 11 0) fun s5 =>
  nx (p1 s5 37 12 0) fun s7 =>
  nx (p1 s7 37 13 (-1)) fun s9 =>
  nx (p1 s9 37 14 0) fun s11 =>
  nx (p1 s11 37 15 0) fun s13 =>
  Option.bind (fX37_setChecks N s13 x3) fun t15 =>
  Option.bind (α := St) (
    if t15.1 = 0 then
      some t15.2
    else
      Option.bind (fX37_tell N 13 t15.2 0) fun t21 =>
      some t21
  ) fun t18 =>
  some t18
set_option maxHeartbeats 4000000 in
set_option maxRecDepth 100000 in
theorem wX37_goTo {N : Nat} {S : St} {x1 : Int32} {x2 : Int32} {x3 : Int32} (hC : CallFix p m c cX8_goTo 4 s args lw_g RX8) (hF : 18 ≤ R.frames) (hL : 414 ≤ R.locals)  {S' : St} (h : fX37_goTo N S x1 x2 x3 = some (S')) (kr : ∀ (H : Heap) (locs : List Loc) (ls : Array Slot) (pc : Nat), decode cX8_goTo pc = .ok (.return_, 1) → wg LX G (S') s H locs → W p l e R s m args below meth c H locs 0 0 Q (F0 m pc ls [])) : ∀ (H : Heap) (locs : List Loc) (ls : Array Slot), wg LX G S s H locs → lv_has ls 4 [(0, .ref (ad G 37)), (1, .int x1), (2, .int x2), (3, .int x3)] → W p l e R s m args below meth c H locs 0 0 Q (F0 m 0 ls []) := by
  have hx := hC.1
  have hb := hC.2.1
  intro H locs ls hW hl
  unfold fX37_goTo at h
  refine lv_aload_n hx hb dX8_goTo_0 rfl (lv_at hl 0 rfl) ?_
  refine lv_iload_n hx hb dX8_goTo_1 rfl (lv_at hl 1 rfl) ?_
  refine pX37_9 hC hW dX8_goTo_2 (fun H locs hW => ?_)
  obtain ⟨s1, e2, h⟩ := nx_some h
  rw [← e2] at hW
  refine lv_aload_n hx hb dX8_goTo_5 rfl (lv_at hl 0 rfl) ?_
  refine lv_iload_n hx hb dX8_goTo_6 rfl (lv_at hl 2 rfl) ?_
  refine pX37_10 hC hW dX8_goTo_7 (fun H locs hW => ?_)
  obtain ⟨s3, e4, h⟩ := nx_some h
  rw [← e4] at hW
  refine lv_aload_n hx hb dX8_goTo_10 rfl (lv_at hl 0 rfl) ?_
  refine lv_iconst (v := 0) hx hb dX8_goTo_11 (by decide) ?_
  refine pX37_11 hC hW dX8_goTo_12 (fun H locs hW => ?_)
  obtain ⟨s5, e6, h⟩ := nx_some h
  rw [← e6] at hW
  refine lv_aload_n hx hb dX8_goTo_15 rfl (lv_at hl 0 rfl) ?_
  refine lv_iconst (v := 0) hx hb dX8_goTo_16 (by decide) ?_
  refine pX37_12 hC hW dX8_goTo_17 (fun H locs hW => ?_)
  obtain ⟨s7, e8, h⟩ := nx_some h
  rw [← e8] at hW
  refine lv_aload_n hx hb dX8_goTo_20 rfl (lv_at hl 0 rfl) ?_
  refine lv_iconst (v := (-1)) hx hb dX8_goTo_21 (by decide) ?_
  refine pX37_13 hC hW dX8_goTo_22 (fun H locs hW => ?_)
  obtain ⟨s9, e10, h⟩ := nx_some h
  rw [← e10] at hW
  refine lv_aload_n hx hb dX8_goTo_25 rfl (lv_at hl 0 rfl) ?_
  refine lv_iconst (v := 0) hx hb dX8_goTo_26 (by decide) ?_
  refine pX37_14 hC hW rfl dX8_goTo_27 (fun H locs hW => ?_)
  obtain ⟨s11, e12, h⟩ := nx_some h
  rw [← e12] at hW
  refine lv_aload_n hx hb dX8_goTo_30 rfl (lv_at hl 0 rfl) ?_
  refine lv_iconst (v := 0) hx hb dX8_goTo_31 (by decide) ?_
  refine pX37_15 hC hW rfl dX8_goTo_32 (fun H locs hW => ?_)
  obtain ⟨s13, e14, h⟩ := nx_some h
  rw [← e14] at hW
  refine lv_aload_n hx hb dX8_goTo_35 rfl (lv_at hl 0 rfl) ?_
  refine lv_iload_n hx hb dX8_goTo_36 rfl (lv_at hl 3 rfl) ?_
  obtain ⟨t15, e16, h⟩ := bd h
  refine x_goi (x_rv (rest := []) hC hW (ctX37_setChecks e16) (cwV_g hC.2.2.2.2 ml_X8_71 mi_X8_setChecks md_X8_setChecks ⟨(Nat.le_trans (Nat.le_of_ble_eq_true rfl) hF), (Nat.le_trans (Nat.le_of_ble_eq_true rfl) hL)⟩) (rcX37 hW) rfl hl.1 rfl (Nat.le_of_ble_eq_true rfl) dX8_goTo_37) hW (fun H locs hW => ?_)
  obtain ⟨t18, e19, h⟩ := bd h
  have K17 : ∀ (H : Heap) (locs : List Loc) (ls : Array Slot), wg LX G t18 s H locs → lv_has ls 4 [] → W p l e R s m args below meth c H locs 0 0 Q (F0 m 48 ls []) := by
    intro H locs ls hW hl
    cases h
    exact kr _ _ _ _ dX8_goTo_48 hW
  clear h
  have h := e19
  clear e19
  refine lv_if_eq (tgt := 48) hx hb dX8_goTo_40 (by decide) (fun q20 => ?_) (fun q20 => ?_)
  · have h := it_p q20 h
    cases h
    exact K17 _ _ _ hW (lv_sub hl [] rfl)
  · have h := it_n q20 h
    refine lv_aload_n hx hb dX8_goTo_43 rfl (lv_at hl 0 rfl) ?_
    refine lv_iconst (v := 0) hx hb dX8_goTo_44 (by decide) ?_
    obtain ⟨t21, e22, h⟩ := bd h
    refine x_gov (x_rv (rest := []) hC hW (ctX37_tell e22) (cwV_g hC.2.2.2.2 ml_X8_75 mi_X8_tell md_X8_tell ⟨(Nat.le_trans (Nat.le_of_ble_eq_true rfl) hF), (Nat.le_trans (Nat.le_of_ble_eq_true rfl) hL)⟩) (rcX37 hW) rfl hl.1 rfl (Nat.le_of_ble_eq_true rfl) dX8_goTo_45) hW (fun H locs hW => ?_)
    cases h
    exact K17 _ _ _ hW (lv_sub hl [] rfl)
theorem ctX37_goTo {N : Nat} {S : St} {x1 : Int32} {x2 : Int32} {x3 : Int32}  {S' : St} (h : fX37_goTo N S x1 x2 x3 = some (S')) : Met l yX8_goTo (wm yX8_goTo cX8_goTo 4 none) (rmx 18 414) (pcm LX G S [.ref (ad G 37), .int x1, .int x2, .int x3]) (qcV LX G S') 0 0 G.2.2.2 :=
  x_enter (own := RX8) rfl rfl (Nat.le_of_ble_eq_true rfl) (fun p e s m below meth c ls hC hr hk hW hl => wX37_goTo hC (Nat.le_refl _) (Nat.le_refl _)  h (fun H locs ls pc hd hW => x_retv hC hr hk hW hd) _ _ _ hW hl)
def fX37_isSpent (S : St)  : Option (Int32) :=
  gd (isb (S.1 37 14)) <|
  some (S.1 37 14)
set_option maxHeartbeats 4000000 in
set_option maxRecDepth 100000 in
theorem wX37_isSpent {S : St}  (hC : CallFix p m c cX8_isSpent 1 s args lw_g RX8) (hF : 0 ≤ R.frames) (hL : 0 ≤ R.locals)  {v : Int32} (h : fX37_isSpent S = some v) (kr : ∀ (H : Heap) (locs : List Loc) (ls : Array Slot) (pc : Nat), isb v = true → decode cX8_isSpent pc = .ok (.ireturn, 1) → wg LX G S s H locs → W p l e R s m args below meth c H locs 0 0 Q (F0 m pc ls [.int v])) : ∀ (H : Heap) (locs : List Loc) (ls : Array Slot), wg LX G S s H locs → lv_has ls 1 [(0, .ref (ad G 37))] → W p l e R s m args below meth c H locs 0 0 Q (F0 m 0 ls []) := by
  have hx := hC.1
  have hb := hC.2.1
  intro H locs ls hW hl
  unfold fX37_isSpent at h
  refine lv_aload_n hx hb dX8_isSpent_0 rfl (lv_at hl 0 rfl) ?_
  refine gX37_14 hC hW dX8_isSpent_1 ?_
  obtain ⟨g1, h⟩ := gd_some h
  cases h
  exact kr _ _ _ _ g1 dX8_isSpent_4 hW
theorem ctX37_isSpent {S : St}   {v : Int32} (h : fX37_isSpent S = some v) : Met l yX8_isSpent (wm yX8_isSpent cX8_isSpent 1 (some .boolean)) (rmx 0 0) (pcm LX G S [.ref (ad G 37)]) (qcI LX G S v) 0 0 G.2.2.2 :=
  x_enter (own := RX8) rfl rfl (Nat.le_of_ble_eq_true rfl) (fun p e s m below meth c ls hC hr hk hW hl => wX37_isSpent hC (Nat.le_refl _) (Nat.le_refl _)  h (fun H locs ls pc hz hd hW => x_retz hC hr hk hW hz hd) _ _ _ hW hl)
def fX0_goThroughAll (N : Nat) (S : St) (x1 : Int32) : Option (Int32 × St) :=
  Option.bind (fXs_isTurns S x1) fun t1 =>
  if t1 = 0 then
    some ((-1), S)
  else
    Option.bind (fX0_narrowAll N S) fun t4 =>
    Option.bind (fX37_forgetTally N t4) fun t6 =>
    Option.bind (fX37_goTo N t6 (-1) x1 0) fun t8 =>
    Option.bind (fX37_isSpent t8) fun t10 =>
    Option.bind (α := Int32) (
      if t10 = 0 then
        some 0
      else
        some (-6)
    ) fun t13 =>
    some (t13, t8)
set_option maxHeartbeats 4000000 in
set_option maxRecDepth 100000 in
theorem wX0_goThroughAll {N : Nat} {S : St} {x1 : Int32} (hC : CallFix p m c cX9_goThroughAll 2 s args lw_g RX9) (hF : 19 ≤ R.frames) (hL : 437 ≤ R.locals)  {v : Int32} {S' : St} (h : fX0_goThroughAll N S x1 = some (v, S')) (kr : ∀ (H : Heap) (locs : List Loc) (ls : Array Slot) (pc : Nat), decode cX9_goThroughAll pc = .ok (.ireturn, 1) → wg LX G (S') s H locs → W p l e R s m args below meth c H locs 0 0 Q (F0 m pc ls [.int v])) : ∀ (H : Heap) (locs : List Loc) (ls : Array Slot), wg LX G S s H locs → lv_has ls 2 [(0, .ref (ad G 0)), (1, .int x1)] → W p l e R s m args below meth c H locs 0 0 Q (F0 m 0 ls []) := by
  have hx := hC.1
  have hb := hC.2.1
  intro H locs ls hW hl
  unfold fX0_goThroughAll at h
  refine lv_iload_n hx hb dX9_goThroughAll_0 rfl (lv_at hl 1 rfl) ?_
  obtain ⟨t1, e2, h⟩ := bd h
  refine x_goi (x_rs (rest := []) hC hW (ctXs_isTurns e2) (cwS_g hC.2.2.2.2 ml_X9_245 ms_X9_isTurns md_X9_isTurns ⟨(Nat.le_trans (Nat.le_of_ble_eq_true rfl) hF), (Nat.le_trans (Nat.le_of_ble_eq_true rfl) hL)⟩) rfl hl.1 rfl (Nat.le_of_ble_eq_true rfl) dX9_goThroughAll_1) hW (fun H locs hW => ?_)
  refine lv_if_ne (tgt := 9) hx hb dX9_goThroughAll_4 (by decide) (fun q3 => ?_) (fun q3 => ?_)
  · have h := it_n q3 h
    refine lv_aload_n hx hb dX9_goThroughAll_9 rfl (lv_at hl 0 rfl) ?_
    obtain ⟨t4, e5, h⟩ := bd h
    refine x_gov (x_rv (rest := []) hC hW (ctX0_narrowAll e5) (cwV_g hC.2.2.2.2 ml_X9_215 mi_X9_narrowAll md_X9_narrowAll ⟨(Nat.le_trans (Nat.le_of_ble_eq_true rfl) hF), (Nat.le_trans (Nat.le_of_ble_eq_true rfl) hL)⟩) (rcX0 hW) rfl hl.1 rfl (Nat.le_of_ble_eq_true rfl) dX9_goThroughAll_10) hW (fun H locs hW => ?_)
    refine lv_aload_n hx hb dX9_goThroughAll_13 rfl (lv_at hl 0 rfl) ?_
    refine gX0_7 hC hW dX9_goThroughAll_14 ?_
    obtain ⟨t6, e7, h⟩ := bd h
    refine x_gov (x_rv (rest := []) hC hW (ctX37_forgetTally e7) (cwV_g hC.2.2.2.2 ml_X9_340 mi_X8_forgetTally md_X8_forgetTally ⟨(Nat.le_trans (Nat.le_of_ble_eq_true rfl) hF), (Nat.le_trans (Nat.le_of_ble_eq_true rfl) hL)⟩) (rcX37 hW) rfl hl.1 rfl (Nat.le_of_ble_eq_true rfl) dX9_goThroughAll_17) hW (fun H locs hW => ?_)
    refine lv_aload_n hx hb dX9_goThroughAll_20 rfl (lv_at hl 0 rfl) ?_
    refine gX0_7 hC hW dX9_goThroughAll_21 ?_
    refine lv_iconst (v := (-1)) hx hb dX9_goThroughAll_24 (by decide) ?_
    refine lv_iload_n hx hb dX9_goThroughAll_25 rfl (lv_at hl 1 rfl) ?_
    refine lv_iconst (v := 0) hx hb dX9_goThroughAll_26 (by decide) ?_
    obtain ⟨t8, e9, h⟩ := bd h
    refine x_gov (x_rv (rest := []) hC hW (ctX37_goTo e9) (cwV_g hC.2.2.2.2 ml_X9_248 mi_X8_goTo md_X8_goTo ⟨(Nat.le_trans (Nat.le_of_ble_eq_true rfl) hF), (Nat.le_trans (Nat.le_of_ble_eq_true rfl) hL)⟩) (rcX37 hW) rfl hl.1 rfl (Nat.le_of_ble_eq_true rfl) dX9_goThroughAll_27) hW (fun H locs hW => ?_)
    refine lv_aload_n hx hb dX9_goThroughAll_30 rfl (lv_at hl 0 rfl) ?_
    refine gX0_7 hC hW dX9_goThroughAll_31 ?_
    obtain ⟨t10, e11, h⟩ := bd h
    refine x_goi (x_rv (rest := []) hC hW (ctX37_isSpent e11) (cwV_g hC.2.2.2.2 ml_X9_251 mi_X8_isSpent md_X8_isSpent ⟨(Nat.le_trans (Nat.le_of_ble_eq_true rfl) hF), (Nat.le_trans (Nat.le_of_ble_eq_true rfl) hL)⟩) (rcX37 hW) rfl hl.1 rfl (Nat.le_of_ble_eq_true rfl) dX9_goThroughAll_34) hW (fun H locs hW => ?_)
    obtain ⟨t13, e14, h⟩ := bd h
    have K12 : ∀ (H : Heap) (locs : List Loc) (ls : Array Slot), wg LX G t8 s H locs → lv_has ls 2 [] → W p l e R s m args below meth c H locs 0 0 Q (F0 m 46 ls [.int t13]) := by
      intro H locs ls hW hl
      cases h
      exact kr _ _ _ _ dX9_goThroughAll_46 hW
    clear h
    have h := e14
    clear e14
    refine lv_if_eq (tgt := 45) hx hb dX9_goThroughAll_37 (by decide) (fun q15 => ?_) (fun q15 => ?_)
    · have h := it_p q15 h
      refine lv_iconst (v := 0) hx hb dX9_goThroughAll_45 (by decide) ?_
      cases h
      exact K12 _ _ _ hW (lv_sub hl [] rfl)
    · have h := it_n q15 h
      refine lv_bipush (v := (-6)) hx hb dX9_goThroughAll_40 (by decide) ?_
      refine lv_goto (tgt := 46) hx hb dX9_goThroughAll_42 (by decide) ?_
      cases h
      exact K12 _ _ _ hW (lv_sub hl [] rfl)
  · have h := it_p q3 h
    refine lv_iconst (v := (-1)) hx hb dX9_goThroughAll_7 (by decide) ?_
    cases h
    exact kr _ _ _ _ dX9_goThroughAll_8 hW
theorem ctX0_goThroughAll {N : Nat} {S : St} {x1 : Int32}  {v : Int32} {S' : St} (h : fX0_goThroughAll N S x1 = some (v, S')) : Met l yX9_goThroughAll (wm yX9_goThroughAll cX9_goThroughAll 2 (some .int)) (rmx 19 437) (pcm LX G S [.ref (ad G 0), .int x1]) (qcI LX G S' v) 0 0 G.2.2.2 :=
  x_enter (own := RX9) rfl rfl (Nat.le_of_ble_eq_true rfl) (fun p e s m below meth c ls hC hr hk hW hl => wX0_goThroughAll hC (Nat.le_refl _) (Nat.le_refl _)  h (fun H locs ls pc hd hW => x_reti hC hr hk hW hd) _ _ _ hW hl)
def fX37_stepsTaken (S : St)  : Option (Int32) :=
  some (S.1 37 11)
set_option maxHeartbeats 4000000 in
set_option maxRecDepth 100000 in
theorem wX37_stepsTaken {S : St}  (hC : CallFix p m c cX8_stepsTaken 1 s args lw_g RX8) (hF : 0 ≤ R.frames) (hL : 0 ≤ R.locals)  {v : Int32} (h : fX37_stepsTaken S = some v) (kr : ∀ (H : Heap) (locs : List Loc) (ls : Array Slot) (pc : Nat), decode cX8_stepsTaken pc = .ok (.ireturn, 1) → wg LX G S s H locs → W p l e R s m args below meth c H locs 0 0 Q (F0 m pc ls [.int v])) : ∀ (H : Heap) (locs : List Loc) (ls : Array Slot), wg LX G S s H locs → lv_has ls 1 [(0, .ref (ad G 37))] → W p l e R s m args below meth c H locs 0 0 Q (F0 m 0 ls []) := by
  have hx := hC.1
  have hb := hC.2.1
  intro H locs ls hW hl
  unfold fX37_stepsTaken at h
  refine lv_aload_n hx hb dX8_stepsTaken_0 rfl (lv_at hl 0 rfl) ?_
  refine gX37_11 hC hW dX8_stepsTaken_1 ?_
  cases h
  exact kr _ _ _ _ dX8_stepsTaken_4 hW
theorem ctX37_stepsTaken {S : St}   {v : Int32} (h : fX37_stepsTaken S = some v) : Met l yX8_stepsTaken (wm yX8_stepsTaken cX8_stepsTaken 1 (some .int)) (rmx 0 0) (pcm LX G S [.ref (ad G 37)]) (qcI LX G S v) 0 0 G.2.2.2 :=
  x_enter (own := RX8) rfl rfl (Nat.le_of_ble_eq_true rfl) (fun p e s m below meth c ls hC hr hk hW hl => wX37_stepsTaken hC (Nat.le_refl _) (Nat.le_refl _)  h (fun H locs ls pc hd hW => x_reti hC hr hk hW hd) _ _ _ hW hl)
def fX37_fillings (S : St)  : Option (Int32) :=
  some (S.1 37 12)
set_option maxHeartbeats 4000000 in
set_option maxRecDepth 100000 in
theorem wX37_fillings {S : St}  (hC : CallFix p m c cX8_fillings 1 s args lw_g RX8) (hF : 0 ≤ R.frames) (hL : 0 ≤ R.locals)  {v : Int32} (h : fX37_fillings S = some v) (kr : ∀ (H : Heap) (locs : List Loc) (ls : Array Slot) (pc : Nat), decode cX8_fillings pc = .ok (.ireturn, 1) → wg LX G S s H locs → W p l e R s m args below meth c H locs 0 0 Q (F0 m pc ls [.int v])) : ∀ (H : Heap) (locs : List Loc) (ls : Array Slot), wg LX G S s H locs → lv_has ls 1 [(0, .ref (ad G 37))] → W p l e R s m args below meth c H locs 0 0 Q (F0 m 0 ls []) := by
  have hx := hC.1
  have hb := hC.2.1
  intro H locs ls hW hl
  unfold fX37_fillings at h
  refine lv_aload_n hx hb dX8_fillings_0 rfl (lv_at hl 0 rfl) ?_
  refine gX37_12 hC hW dX8_fillings_1 ?_
  cases h
  exact kr _ _ _ _ dX8_fillings_4 hW
theorem ctX37_fillings {S : St}   {v : Int32} (h : fX37_fillings S = some v) : Met l yX8_fillings (wm yX8_fillings cX8_fillings 1 (some .int)) (rmx 0 0) (pcm LX G S [.ref (ad G 37)]) (qcI LX G S v) 0 0 G.2.2.2 :=
  x_enter (own := RX8) rfl rfl (Nat.le_of_ble_eq_true rfl) (fun p e s m below meth c ls hC hr hk hW hl => wX37_fillings hC (Nat.le_refl _) (Nat.le_refl _)  h (fun H locs ls pc hd hW => x_reti hC hr hk hW hd) _ _ _ hW hl)
def fX0_count (N : Nat) (S : St) (x1 : Int32) : Option (Int32 × St) :=
  Option.bind (fX0_goThroughAll N S x1) fun t1 =>
  if t1.1 = 0 then
    Option.bind (fX37_stepsTaken t1.2) fun t4 =>
    nx (p1 t1.2 0 12 t4) fun s6 =>
    Option.bind (fX37_fillings s6) fun t8 =>
    some (t8, s6)
  else
    some (t1.1, t1.2)
set_option maxHeartbeats 4000000 in
set_option maxRecDepth 100000 in
theorem wX0_count {N : Nat} {S : St} {x1 : Int32} (hC : CallFix p m c cX9_count 3 s args lw_g RX9) (hF : 20 ≤ R.frames) (hL : 458 ≤ R.locals)  {v : Int32} {S' : St} (h : fX0_count N S x1 = some (v, S')) (kr : ∀ (H : Heap) (locs : List Loc) (ls : Array Slot) (pc : Nat), decode cX9_count pc = .ok (.ireturn, 1) → wg LX G (S') s H locs → W p l e R s m args below meth c H locs 0 0 Q (F0 m pc ls [.int v])) : ∀ (H : Heap) (locs : List Loc) (ls : Array Slot), wg LX G S s H locs → lv_has ls 3 [(0, .ref (ad G 0)), (1, .int x1)] → W p l e R s m args below meth c H locs 0 0 Q (F0 m 0 ls []) := by
  have hx := hC.1
  have hb := hC.2.1
  intro H locs ls hW hl
  unfold fX0_count at h
  refine lv_aload_n hx hb dX9_count_0 rfl (lv_at hl 0 rfl) ?_
  refine lv_iload_n hx hb dX9_count_1 rfl (lv_at hl 1 rfl) ?_
  obtain ⟨t1, e2, h⟩ := bd h
  refine x_goi (x_rv (rest := []) hC hW (ctX0_goThroughAll e2) (cwV_g hC.2.2.2.2 ml_X9_236 mi_X9_goThroughAll md_X9_goThroughAll ⟨(Nat.le_trans (Nat.le_of_ble_eq_true rfl) hF), (Nat.le_trans (Nat.le_of_ble_eq_true rfl) hL)⟩) (rcX0 hW) rfl hl.1 rfl (Nat.le_of_ble_eq_true rfl) dX9_count_2) hW (fun H locs hW => ?_)
  refine lv_istore_n (lv' := [(2, .int t1.1), (0, .ref (ad G 0)), (1, .int x1)]) hx hb dX9_count_5 rfl hl (by decide) rfl (fun ls hl => ?_)
  refine lv_iload_n hx hb dX9_count_6 rfl (lv_at hl 0 rfl) ?_
  refine lv_if_eq (tgt := 12) hx hb dX9_count_7 (by decide) (fun q3 => ?_) (fun q3 => ?_)
  · have h := it_p q3 h
    refine lv_aload_n hx hb dX9_count_12 rfl (lv_at hl 1 rfl) ?_
    refine lv_aload_n hx hb dX9_count_13 rfl (lv_at hl 1 rfl) ?_
    refine gX0_7 hC hW dX9_count_14 ?_
    obtain ⟨t4, e5, h⟩ := bd h
    refine x_goi (x_rv (rest := [.ref (ad G 0)]) hC hW (ctX37_stepsTaken e5) (cwV_g hC.2.2.2.2 ml_X9_239 mi_X8_stepsTaken md_X8_stepsTaken ⟨(Nat.le_trans (Nat.le_of_ble_eq_true rfl) hF), (Nat.le_trans (Nat.le_of_ble_eq_true rfl) hL)⟩) (rcX37 hW) rfl hl.1 rfl (Nat.le_of_ble_eq_true rfl) dX9_count_17) hW (fun H locs hW => ?_)
    refine pX0_12 hC hW dX9_count_20 (fun H locs hW => ?_)
    obtain ⟨s6, e7, h⟩ := nx_some h
    rw [← e7] at hW
    refine lv_aload_n hx hb dX9_count_23 rfl (lv_at hl 1 rfl) ?_
    refine gX0_7 hC hW dX9_count_24 ?_
    obtain ⟨t8, e9, h⟩ := bd h
    refine x_goi (x_rv (rest := []) hC hW (ctX37_fillings e9) (cwV_g hC.2.2.2.2 ml_X9_242 mi_X8_fillings md_X8_fillings ⟨(Nat.le_trans (Nat.le_of_ble_eq_true rfl) hF), (Nat.le_trans (Nat.le_of_ble_eq_true rfl) hL)⟩) (rcX37 hW) rfl hl.1 rfl (Nat.le_of_ble_eq_true rfl) dX9_count_27) hW (fun H locs hW => ?_)
    cases h
    exact kr _ _ _ _ dX9_count_30 hW
  · have h := it_n q3 h
    refine lv_iload_n hx hb dX9_count_10 rfl (lv_at hl 0 rfl) ?_
    cases h
    exact kr _ _ _ _ dX9_count_11 hW
theorem ctX0_count {N : Nat} {S : St} {x1 : Int32}  {v : Int32} {S' : St} (h : fX0_count N S x1 = some (v, S')) : Met l yX9_count (wm yX9_count cX9_count 3 (some .int)) (rmx 20 458) (pcm LX G S [.ref (ad G 0), .int x1]) (qcI LX G S' v) 0 0 G.2.2.2 :=
  x_enter (own := RX9) rfl rfl (Nat.le_of_ble_eq_true rfl) (fun p e s m below meth c ls hC hr hk hW hl => wX0_count hC (Nat.le_refl _) (Nat.le_refl _)  h (fun H locs ls pc hd hW => x_reti hC hr hk hW hd) _ _ _ hW hl)
def fX37_hasReached (S : St)  : Option (Int32) :=
  gd (isb (S.1 37 15)) <|
  some (S.1 37 15)
set_option maxHeartbeats 4000000 in
set_option maxRecDepth 100000 in
theorem wX37_hasReached {S : St}  (hC : CallFix p m c cX8_hasReached 1 s args lw_g RX8) (hF : 0 ≤ R.frames) (hL : 0 ≤ R.locals)  {v : Int32} (h : fX37_hasReached S = some v) (kr : ∀ (H : Heap) (locs : List Loc) (ls : Array Slot) (pc : Nat), isb v = true → decode cX8_hasReached pc = .ok (.ireturn, 1) → wg LX G S s H locs → W p l e R s m args below meth c H locs 0 0 Q (F0 m pc ls [.int v])) : ∀ (H : Heap) (locs : List Loc) (ls : Array Slot), wg LX G S s H locs → lv_has ls 1 [(0, .ref (ad G 37))] → W p l e R s m args below meth c H locs 0 0 Q (F0 m 0 ls []) := by
  have hx := hC.1
  have hb := hC.2.1
  intro H locs ls hW hl
  unfold fX37_hasReached at h
  refine lv_aload_n hx hb dX8_hasReached_0 rfl (lv_at hl 0 rfl) ?_
  refine gX37_15 hC hW dX8_hasReached_1 ?_
  obtain ⟨g1, h⟩ := gd_some h
  cases h
  exact kr _ _ _ _ g1 dX8_hasReached_4 hW
theorem ctX37_hasReached {S : St}   {v : Int32} (h : fX37_hasReached S = some v) : Met l yX8_hasReached (wm yX8_hasReached cX8_hasReached 1 (some .boolean)) (rmx 0 0) (pcm LX G S [.ref (ad G 37)]) (qcI LX G S v) 0 0 G.2.2.2 :=
  x_enter (own := RX8) rfl rfl (Nat.le_of_ble_eq_true rfl) (fun p e s m below meth c ls hC hr hk hW hl => wX37_hasReached hC (Nat.le_refl _) (Nat.le_refl _)  h (fun H locs ls pc hz hd hW => x_retz hC hr hk hW hz hd) _ _ _ hW hl)
end GEN
