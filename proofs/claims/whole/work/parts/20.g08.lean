section GEN
variable {p : Program} {l : Launch} {e : Env} {R : Room} {s : State} {m : MethodId} {args : Array Value} {below : List Frame} {meth : Method} {c : Code} {H : Heap} {locs : List Loc} {Q : State → Prop} {G : GG}
def fX47_forced_L4 (N : Nat) (S : St)  : Nat → Int32 → Int32 → Option (Int32)
  | 0, _, _ => none
  | n + 1, x1, x2 =>
    if (S.1 47 8) ≤ x2 then
      some x1
    else
      gd (inb x2 12) <|
      Option.bind (fX47_haveOneNumber N S (S.1 50 (Int32.toNatClampNeg x2))) fun t3 =>
      Option.bind (α := Int32) (
        if t3 = 0 then
          some 0
        else
          gd (inb x2 12) <|
          some (1 <<< ((S.1 48 (Int32.toNatClampNeg x2)) &&& 31))
      ) fun t6 =>
      fX47_forced_L4 N S n (x1 ||| t6) (x2 + 1)
set_option maxHeartbeats 4000000 in
set_option maxRecDepth 100000 in
theorem wX47_forced_L4 {N : Nat} {S : St}  (hC : CallFix p m c cX4_forced 3 s args lw_g RX4) (hF : 2 ≤ R.frames) (hL : 44 ≤ R.locals)  {t : Int32} (kx : ∀ (H : Heap) (locs : List Loc) (ls : Array Slot), wg LX G S s H locs → lv_has ls 3 [(1, .int t)] → W p l e R s m args below meth c H locs 0 0 Q (F0 m 46 ls [])) : ∀ (n : Nat) (x1 : Int32) (x2 : Int32), fX47_forced_L4 N S  n x1 x2 = some t → ∀ (H : Heap) (locs : List Loc) (ls : Array Slot), wg LX G S s H locs → lv_has ls 3 [(0, .ref (ad G 47)), (1, .int x1), (2, .int x2)] → W p l e R s m args below meth c H locs 0 0 Q (F0 m 4 ls []) := by
  have hx := hC.1
  have hb := hC.2.1
  intro n
  induction n with
  | zero =>
    intro _ _ h
    cases h
  | succ n ih =>
    intro x1 x2 h H locs ls hW hl
    rw [fX47_forced_L4] at h
    refine lv_iload_n hx hb dX4_forced_4 rfl (lv_at hl 2 rfl) ?_
    refine lv_aload_n hx hb dX4_forced_5 rfl (lv_at hl 0 rfl) ?_
    refine gX47_8 hC hW dX4_forced_6 ?_
    refine lv_icmp_ge (tgt := 46) hx hb dX4_forced_9 (by decide) (fun q1 => ?_) (fun q1 => ?_)
    · have h := it_p q1 h
      cases h
      exact kx _ _ _ hW (lv_sub hl [1] rfl)
    · have h := it_n q1 h
      refine lv_iload_n hx hb dX4_forced_12 rfl (lv_at hl 1 rfl) ?_
      refine lv_aload_n hx hb dX4_forced_13 rfl (lv_at hl 0 rfl) ?_
      refine lv_aload_n hx hb dX4_forced_14 rfl (lv_at hl 0 rfl) ?_
      refine gX47_5 hC hW dX4_forced_15 ?_
      refine lv_iload_n hx hb dX4_forced_18 rfl (lv_at hl 2 rfl) ?_
      obtain ⟨g2, h⟩ := gd_some h
      refine x_iald hC hW aX50 g2 dX4_forced_19 ?_
      obtain ⟨t3, e4, h⟩ := bd h
      refine x_goi (x_rv (rest := [.int x1]) hC hW (ctX47_haveOneNumber e4) (cwV_g hC.2.2.2.2 ml_X4_88 mi_X4_haveOneNumber md_X4_haveOneNumber ⟨(Nat.le_trans (Nat.le_of_ble_eq_true rfl) hF), (Nat.le_trans (Nat.le_of_ble_eq_true rfl) hL)⟩) (rcX47 hW) rfl hl.1 rfl (Nat.le_of_ble_eq_true rfl) dX4_forced_20) hW (fun H locs hW => ?_)
      obtain ⟨t6, e7, h⟩ := bd h
      have K5 : ∀ (H : Heap) (locs : List Loc) (ls : Array Slot), wg LX G S s H locs → lv_has ls 3 [(0, .ref (ad G 47)), (2, .int x2)] → W p l e R s m args below meth c H locs 0 0 Q (F0 m 38 ls [.int t6, .int x1]) := by
        intro H locs ls hW hl
        refine lv_ior hx hb dX4_forced_38 ?_
        refine lv_istore_n (lv' := [(1, .int (x1 ||| t6)), (0, .ref (ad G 47)), (2, .int x2)]) hx hb dX4_forced_39 rfl hl (by decide) rfl (fun ls hl => ?_)
        refine lv_iinc (v := x2 + 1) (lv' := [(2, .int (x2 + 1)), (1, .int (x1 ||| t6)), (0, .ref (ad G 47))]) (k := 2) hx hb dX4_forced_40 hl rfl rfl (by decide) rfl (fun ls hl => ?_)
        refine lv_goto (tgt := 4) hx hb dX4_forced_43 (by decide) ?_
        exact ih _ _ h _ _ _ hW (lv_sub hl [2, 1, 0] rfl)
      clear h
      have h := e7
      clear e7
      refine lv_if_eq (tgt := 37) hx hb dX4_forced_23 (by decide) (fun q8 => ?_) (fun q8 => ?_)
      · have h := it_p q8 h
        refine lv_iconst (v := 0) hx hb dX4_forced_37 (by decide) ?_
        cases h
        exact K5 _ _ _ hW (lv_sub hl [0, 2] rfl)
      · have h := it_n q8 h
        refine lv_iconst (v := 1) hx hb dX4_forced_26 (by decide) ?_
        refine lv_aload_n hx hb dX4_forced_27 rfl (lv_at hl 0 rfl) ?_
        refine gX47_3 hC hW dX4_forced_28 ?_
        refine lv_iload_n hx hb dX4_forced_31 rfl (lv_at hl 2 rfl) ?_
        obtain ⟨g9, h⟩ := gd_some h
        refine x_iald hC hW aX48 g9 dX4_forced_32 ?_
        refine lv_ishl hx hb dX4_forced_33 ?_
        refine lv_goto (tgt := 38) hx hb dX4_forced_34 (by decide) ?_
        cases h
        exact K5 _ _ _ hW (lv_sub hl [0, 2] rfl)
def fX47_forced (N : Nat) (S : St)  : Option (Int32) :=
  Option.bind (fX47_forced_L4 N S N 0 0) fun t10 =>
  some t10
set_option maxHeartbeats 4000000 in
set_option maxRecDepth 100000 in
theorem wX47_forced {N : Nat} {S : St}  (hC : CallFix p m c cX4_forced 3 s args lw_g RX4) (hF : 2 ≤ R.frames) (hL : 44 ≤ R.locals)  {v : Int32} (h : fX47_forced N S = some v) (kr : ∀ (H : Heap) (locs : List Loc) (ls : Array Slot) (pc : Nat), decode cX4_forced pc = .ok (.ireturn, 1) → wg LX G S s H locs → W p l e R s m args below meth c H locs 0 0 Q (F0 m pc ls [.int v])) : ∀ (H : Heap) (locs : List Loc) (ls : Array Slot), wg LX G S s H locs → lv_has ls 3 [(0, .ref (ad G 47))] → W p l e R s m args below meth c H locs 0 0 Q (F0 m 0 ls []) := by
  have hx := hC.1
  have hb := hC.2.1
  intro H locs ls hW hl
  unfold fX47_forced at h
  refine lv_iconst (v := 0) hx hb dX4_forced_0 (by decide) ?_
  refine lv_istore_n (lv' := [(1, .int 0), (0, .ref (ad G 47))]) hx hb dX4_forced_1 rfl hl (by decide) rfl (fun ls hl => ?_)
  refine lv_iconst (v := 0) hx hb dX4_forced_2 (by decide) ?_
  refine lv_istore_n (lv' := [(2, .int 0), (1, .int 0), (0, .ref (ad G 47))]) hx hb dX4_forced_3 rfl hl (by decide) rfl (fun ls hl => ?_)
  obtain ⟨t10, e11, h⟩ := bd h
  refine wX47_forced_L4 hC hF hL  (fun H locs ls hW hl => ?_) _ _ _ e11 _ _ _ hW (lv_sub hl [2, 1, 0] rfl)
  refine lv_iload_n hx hb dX4_forced_46 rfl (lv_at hl 0 rfl) ?_
  cases h
  exact kr _ _ _ _ dX4_forced_47 hW
theorem ctX47_forced {N : Nat} {S : St}   {v : Int32} (h : fX47_forced N S = some v) : Met l yX4_forced (wm yX4_forced cX4_forced 3 (some .int)) (rmx 2 44) (pcm LX G S [.ref (ad G 47)]) (qcI LX G S v) 0 0 G.2.2.2 :=
  x_enter (own := RX4) rfl rfl (Nat.le_of_ble_eq_true rfl) (fun p e s m below meth c ls hC hr hk hW hl => wX47_forced hC (Nat.le_refl _) (Nat.le_refl _)  h (fun H locs ls pc hd hW => x_reti hC hr hk hW hd) _ _ _ hW hl)
def fX47_ways (S : St)  : Option (Int32) :=
  gd (inb 0 4096) <|
  some (S.1 52 (Int32.toNatClampNeg 0))
set_option maxHeartbeats 4000000 in
set_option maxRecDepth 100000 in
theorem wX47_ways {S : St}  (hC : CallFix p m c cX4_ways 1 s args lw_g RX4) (hF : 0 ≤ R.frames) (hL : 0 ≤ R.locals)  {v : Int32} (h : fX47_ways S = some v) (kr : ∀ (H : Heap) (locs : List Loc) (ls : Array Slot) (pc : Nat), decode cX4_ways pc = .ok (.ireturn, 1) → wg LX G S s H locs → W p l e R s m args below meth c H locs 0 0 Q (F0 m pc ls [.int v])) : ∀ (H : Heap) (locs : List Loc) (ls : Array Slot), wg LX G S s H locs → lv_has ls 1 [(0, .ref (ad G 47))] → W p l e R s m args below meth c H locs 0 0 Q (F0 m 0 ls []) := by
  have hx := hC.1
  have hb := hC.2.1
  intro H locs ls hW hl
  unfold fX47_ways at h
  refine lv_aload_n hx hb dX4_ways_0 rfl (lv_at hl 0 rfl) ?_
  refine gX47_7 hC hW dX4_ways_1 ?_
  refine lv_iconst (v := 0) hx hb dX4_ways_4 (by decide) ?_
  obtain ⟨g1, h⟩ := gd_some h
  refine x_iald hC hW aX52 g1 dX4_ways_5 ?_
  cases h
  exact kr _ _ _ _ dX4_ways_6 hW
theorem ctX47_ways {S : St}   {v : Int32} (h : fX47_ways S = some v) : Met l yX4_ways (wm yX4_ways cX4_ways 1 (some .int)) (rmx 0 0) (pcm LX G S [.ref (ad G 47)]) (qcI LX G S v) 0 0 G.2.2.2 :=
  x_enter (own := RX4) rfl rfl (Nat.le_of_ble_eq_true rfl) (fun p e s m below meth c ls hC hr hk hW hl => wX47_ways hC (Nat.le_refl _) (Nat.le_refl _)  h (fun H locs ls pc hd hW => x_reti hC hr hk hW hd) _ _ _ hW hl)
def fX0_matches (N : Nat) (S : St)  : Option (Int32 × St) :=
  Option.bind (fX0_narrowAll N S) fun t1 =>
  Option.bind (fX47_match N t1) fun t3 =>
  Option.bind (fX47_forced N t3) fun t5 =>
  nx (p1 t3 0 12 t5) fun s7 =>
  Option.bind (fX47_ways s7) fun t9 =>
  some (t9, s7)
set_option maxHeartbeats 4000000 in
set_option maxRecDepth 100000 in
theorem wX0_matches {N : Nat} {S : St}  (hC : CallFix p m c cX9_matches 1 s args lw_g RX9) (hF : 6 ≤ R.frames) (hL : 137 ≤ R.locals)  {v : Int32} {S' : St} (h : fX0_matches N S = some (v, S')) (kr : ∀ (H : Heap) (locs : List Loc) (ls : Array Slot) (pc : Nat), decode cX9_matches pc = .ok (.ireturn, 1) → wg LX G (S') s H locs → W p l e R s m args below meth c H locs 0 0 Q (F0 m pc ls [.int v])) : ∀ (H : Heap) (locs : List Loc) (ls : Array Slot), wg LX G S s H locs → lv_has ls 1 [(0, .ref (ad G 0))] → W p l e R s m args below meth c H locs 0 0 Q (F0 m 0 ls []) := by
  have hx := hC.1
  have hb := hC.2.1
  intro H locs ls hW hl
  unfold fX0_matches at h
  refine lv_aload_n hx hb dX9_matches_0 rfl (lv_at hl 0 rfl) ?_
  obtain ⟨t1, e2, h⟩ := bd h
  refine x_gov (x_rv (rest := []) hC hW (ctX0_narrowAll e2) (cwV_g hC.2.2.2.2 ml_X9_215 mi_X9_narrowAll md_X9_narrowAll ⟨(Nat.le_trans (Nat.le_of_ble_eq_true rfl) hF), (Nat.le_trans (Nat.le_of_ble_eq_true rfl) hL)⟩) (rcX0 hW) rfl hl.1 rfl (Nat.le_of_ble_eq_true rfl) dX9_matches_1) hW (fun H locs hW => ?_)
  refine lv_aload_n hx hb dX9_matches_4 rfl (lv_at hl 0 rfl) ?_
  refine gX0_9 hC hW dX9_matches_5 ?_
  obtain ⟨t3, e4, h⟩ := bd h
  refine x_gov (x_rv (rest := []) hC hW (ctX47_match e4) (cwV_g hC.2.2.2.2 ml_X9_314 mi_X4_match md_X4_match ⟨(Nat.le_trans (Nat.le_of_ble_eq_true rfl) hF), (Nat.le_trans (Nat.le_of_ble_eq_true rfl) hL)⟩) (rcX47 hW) rfl hl.1 rfl (Nat.le_of_ble_eq_true rfl) dX9_matches_8) hW (fun H locs hW => ?_)
  refine lv_aload_n hx hb dX9_matches_11 rfl (lv_at hl 0 rfl) ?_
  refine lv_aload_n hx hb dX9_matches_12 rfl (lv_at hl 0 rfl) ?_
  refine gX0_9 hC hW dX9_matches_13 ?_
  obtain ⟨t5, e6, h⟩ := bd h
  refine x_goi (x_rv (rest := [.ref (ad G 0)]) hC hW (ctX47_forced e6) (cwV_g hC.2.2.2.2 ml_X9_317 mi_X4_forced md_X4_forced ⟨(Nat.le_trans (Nat.le_of_ble_eq_true rfl) hF), (Nat.le_trans (Nat.le_of_ble_eq_true rfl) hL)⟩) (rcX47 hW) rfl hl.1 rfl (Nat.le_of_ble_eq_true rfl) dX9_matches_16) hW (fun H locs hW => ?_)
  refine pX0_12 hC hW dX9_matches_19 (fun H locs hW => ?_)
  obtain ⟨s7, e8, h⟩ := nx_some h
  rw [← e8] at hW
  refine lv_aload_n hx hb dX9_matches_22 rfl (lv_at hl 0 rfl) ?_
  refine gX0_9 hC hW dX9_matches_23 ?_
  obtain ⟨t9, e10, h⟩ := bd h
  refine x_goi (x_rv (rest := []) hC hW (ctX47_ways e10) (cwV_g hC.2.2.2.2 ml_X9_320 mi_X4_ways md_X4_ways ⟨(Nat.le_trans (Nat.le_of_ble_eq_true rfl) hF), (Nat.le_trans (Nat.le_of_ble_eq_true rfl) hL)⟩) (rcX47 hW) rfl hl.1 rfl (Nat.le_of_ble_eq_true rfl) dX9_matches_26) hW (fun H locs hW => ?_)
  cases h
  exact kr _ _ _ _ dX9_matches_29 hW
theorem ctX0_matches {N : Nat} {S : St}   {v : Int32} {S' : St} (h : fX0_matches N S = some (v, S')) : Met l yX9_matches (wm yX9_matches cX9_matches 1 (some .int)) (rmx 6 137) (pcm LX G S [.ref (ad G 0)]) (qcI LX G S' v) 0 0 G.2.2.2 :=
  x_enter (own := RX9) rfl rfl (Nat.le_of_ble_eq_true rfl) (fun p e s m below meth c ls hC hr hk hW hl => wX0_matches hC (Nat.le_refl _) (Nat.le_refl _)  h (fun H locs ls pc hd hW => x_reti hC hr hk hW hd) _ _ _ hW hl)
def fX0_asked (S : St)  : Option (Int32) :=
  some (S.1 0 12)
set_option maxHeartbeats 4000000 in
set_option maxRecDepth 100000 in
theorem wX0_asked {S : St}  (hC : CallFix p m c cX9_asked 1 s args lw_g RX9) (hF : 0 ≤ R.frames) (hL : 0 ≤ R.locals)  {v : Int32} (h : fX0_asked S = some v) (kr : ∀ (H : Heap) (locs : List Loc) (ls : Array Slot) (pc : Nat), decode cX9_asked pc = .ok (.ireturn, 1) → wg LX G S s H locs → W p l e R s m args below meth c H locs 0 0 Q (F0 m pc ls [.int v])) : ∀ (H : Heap) (locs : List Loc) (ls : Array Slot), wg LX G S s H locs → lv_has ls 1 [(0, .ref (ad G 0))] → W p l e R s m args below meth c H locs 0 0 Q (F0 m 0 ls []) := by
  have hx := hC.1
  have hb := hC.2.1
  intro H locs ls hW hl
  unfold fX0_asked at h
  refine lv_aload_n hx hb dX9_asked_0 rfl (lv_at hl 0 rfl) ?_
  refine gX0_12 hC hW dX9_asked_1 ?_
  cases h
  exact kr _ _ _ _ dX9_asked_4 hW
theorem ctX0_asked {S : St}   {v : Int32} (h : fX0_asked S = some v) : Met l yX9_asked (wm yX9_asked cX9_asked 1 (some .int)) (rmx 0 0) (pcm LX G S [.ref (ad G 0)]) (qcI LX G S v) 0 0 G.2.2.2 :=
  x_enter (own := RX9) rfl rfl (Nat.le_of_ble_eq_true rfl) (fun p e s m below meth c ls hC hr hk hW hl => wX0_asked hC (Nat.le_refl _) (Nat.le_refl _)  h (fun H locs ls pc hd hW => x_reti hC hr hk hW hd) _ _ _ hW hl)
def fX0_upper (S : St)  : Option (Int64) :=
  some (S.2 0 13)
set_option maxHeartbeats 4000000 in
set_option maxRecDepth 100000 in
theorem wX0_upper {S : St}  (hC : CallFix p m c cX9_upper 1 s args lw_g RX9) (hF : 0 ≤ R.frames) (hL : 0 ≤ R.locals)  {v : Int64} (h : fX0_upper S = some v) (kr : ∀ (H : Heap) (locs : List Loc) (ls : Array Slot) (pc : Nat), decode cX9_upper pc = .ok (.lreturn, 1) → wg LX G S s H locs → W p l e R s m args below meth c H locs 0 0 Q (F0 m pc ls [.long v])) : ∀ (H : Heap) (locs : List Loc) (ls : Array Slot), wg LX G S s H locs → lv_has ls 1 [(0, .ref (ad G 0))] → W p l e R s m args below meth c H locs 0 0 Q (F0 m 0 ls []) := by
  have hx := hC.1
  have hb := hC.2.1
  intro H locs ls hW hl
  unfold fX0_upper at h
  refine lv_aload_n hx hb dX9_upper_0 rfl (lv_at hl 0 rfl) ?_
  refine gX0_13 hC hW dX9_upper_1 ?_
  cases h
  exact kr _ _ _ _ dX9_upper_4 hW
theorem ctX0_upper {S : St}   {v : Int64} (h : fX0_upper S = some v) : Met l yX9_upper (wm yX9_upper cX9_upper 1 (some .long)) (rmx 0 0) (pcm LX G S [.ref (ad G 0)]) (qcL LX G S v) 0 0 G.2.2.2 :=
  x_enter (own := RX9) rfl rfl (Nat.le_of_ble_eq_true rfl) (fun p e s m below meth c ls hC hr hk hW hl => wX0_upper hC (Nat.le_refl _) (Nat.le_refl _)  h (fun H locs ls pc hd hW => x_retl hC hr hk hW hd) _ _ _ hW hl)
def fX0_lower (S : St)  : Option (Int64) :=
  some (S.2 0 14)
set_option maxHeartbeats 4000000 in
set_option maxRecDepth 100000 in
theorem wX0_lower {S : St}  (hC : CallFix p m c cX9_lower 1 s args lw_g RX9) (hF : 0 ≤ R.frames) (hL : 0 ≤ R.locals)  {v : Int64} (h : fX0_lower S = some v) (kr : ∀ (H : Heap) (locs : List Loc) (ls : Array Slot) (pc : Nat), decode cX9_lower pc = .ok (.lreturn, 1) → wg LX G S s H locs → W p l e R s m args below meth c H locs 0 0 Q (F0 m pc ls [.long v])) : ∀ (H : Heap) (locs : List Loc) (ls : Array Slot), wg LX G S s H locs → lv_has ls 1 [(0, .ref (ad G 0))] → W p l e R s m args below meth c H locs 0 0 Q (F0 m 0 ls []) := by
  have hx := hC.1
  have hb := hC.2.1
  intro H locs ls hW hl
  unfold fX0_lower at h
  refine lv_aload_n hx hb dX9_lower_0 rfl (lv_at hl 0 rfl) ?_
  refine gX0_14 hC hW dX9_lower_1 ?_
  cases h
  exact kr _ _ _ _ dX9_lower_4 hW
theorem ctX0_lower {S : St}   {v : Int64} (h : fX0_lower S = some v) : Met l yX9_lower (wm yX9_lower cX9_lower 1 (some .long)) (rmx 0 0) (pcm LX G S [.ref (ad G 0)]) (qcL LX G S v) 0 0 G.2.2.2 :=
  x_enter (own := RX9) rfl rfl (Nat.le_of_ble_eq_true rfl) (fun p e s m below meth c ls hC hr hk hW hl => wX0_lower hC (Nat.le_refl _) (Nat.le_refl _)  h (fun H locs ls pc hd hW => x_retl hC hr hk hW hd) _ _ _ hW hl)
def fX1_howMany_L4 (N : Nat) (S : St)  : Nat → Int32 → Int32 → Option (Int32)
  | 0, _, _ => none
  | n + 1, x1, x2 =>
    if 6 ≤ x2 then
      some x1
    else
      Option.bind (fX1_isThere S x2) fun t2 =>
      Option.bind (α := Int32) (
        if t2 = 0 then
          some 0
        else
          some 1
      ) fun t5 =>
      fX1_howMany_L4 N S n (x1 + t5) (x2 + 1)
set_option maxHeartbeats 4000000 in
set_option maxRecDepth 100000 in
theorem wX1_howMany_L4 {N : Nat} {S : St}  (hC : CallFix p m c cX6_howMany 3 s args lw_g RX6) (hF : 1 ≤ R.frames) (hL : 21 ≤ R.locals)  {t : Int32} (kx : ∀ (H : Heap) (locs : List Loc) (ls : Array Slot), wg LX G S s H locs → lv_has ls 3 [(1, .int t)] → W p l e R s m args below meth c H locs 0 0 Q (F0 m 35 ls [])) : ∀ (n : Nat) (x1 : Int32) (x2 : Int32), fX1_howMany_L4 N S  n x1 x2 = some t → ∀ (H : Heap) (locs : List Loc) (ls : Array Slot), wg LX G S s H locs → lv_has ls 3 [(0, .ref (ad G 1)), (1, .int x1), (2, .int x2)] → W p l e R s m args below meth c H locs 0 0 Q (F0 m 4 ls []) := by
  have hx := hC.1
  have hb := hC.2.1
  intro n
  induction n with
  | zero =>
    intro _ _ h
    cases h
  | succ n ih =>
    intro x1 x2 h H locs ls hW hl
    rw [fX1_howMany_L4] at h
    refine lv_iload_n hx hb dX6_howMany_4 rfl (lv_at hl 2 rfl) ?_
    refine lv_aload_n hx hb dX6_howMany_5 rfl (lv_at hl 0 rfl) ?_
    refine gX1_1 hC hW dX6_howMany_6 ?_
    refine x_alen (v := 6) hC hW aX9 rfl dX6_howMany_9 ?_
    refine lv_icmp_ge (tgt := 35) hx hb dX6_howMany_10 (by decide) (fun q1 => ?_) (fun q1 => ?_)
    · have h := it_p q1 h
      cases h
      exact kx _ _ _ hW (lv_sub hl [1] rfl)
    · have h := it_n q1 h
      refine lv_iload_n hx hb dX6_howMany_13 rfl (lv_at hl 1 rfl) ?_
      refine lv_aload_n hx hb dX6_howMany_14 rfl (lv_at hl 0 rfl) ?_
      refine lv_iload_n hx hb dX6_howMany_15 rfl (lv_at hl 2 rfl) ?_
      obtain ⟨t2, e3, h⟩ := bd h
      refine x_goi (x_rv (rest := [.int x1]) hC hW (ctX1_isThere e3) (cwV_g hC.2.2.2.2 ml_X6_30 mi_X6_isThere md_X6_isThere ⟨(Nat.le_trans (Nat.le_of_ble_eq_true rfl) hF), (Nat.le_trans (Nat.le_of_ble_eq_true rfl) hL)⟩) (rcX1 hW) rfl hl.1 rfl (Nat.le_of_ble_eq_true rfl) dX6_howMany_16) hW (fun H locs hW => ?_)
      obtain ⟨t5, e6, h⟩ := bd h
      have K4 : ∀ (H : Heap) (locs : List Loc) (ls : Array Slot), wg LX G S s H locs → lv_has ls 3 [(0, .ref (ad G 1)), (2, .int x2)] → W p l e R s m args below meth c H locs 0 0 Q (F0 m 27 ls [.int t5, .int x1]) := by
        intro H locs ls hW hl
        refine lv_iadd hx hb dX6_howMany_27 ?_
        refine lv_istore_n (lv' := [(1, .int (x1 + t5)), (0, .ref (ad G 1)), (2, .int x2)]) hx hb dX6_howMany_28 rfl hl (by decide) rfl (fun ls hl => ?_)
        refine lv_iinc (v := x2 + 1) (lv' := [(2, .int (x2 + 1)), (1, .int (x1 + t5)), (0, .ref (ad G 1))]) (k := 2) hx hb dX6_howMany_29 hl rfl rfl (by decide) rfl (fun ls hl => ?_)
        refine lv_goto (tgt := 4) hx hb dX6_howMany_32 (by decide) ?_
        exact ih _ _ h _ _ _ hW (lv_sub hl [2, 1, 0] rfl)
      clear h
      have h := e6
      clear e6
      refine lv_if_eq (tgt := 26) hx hb dX6_howMany_19 (by decide) (fun q7 => ?_) (fun q7 => ?_)
      · have h := it_p q7 h
        refine lv_iconst (v := 0) hx hb dX6_howMany_26 (by decide) ?_
        cases h
        exact K4 _ _ _ hW (lv_sub hl [0, 2] rfl)
      · have h := it_n q7 h
        refine lv_iconst (v := 1) hx hb dX6_howMany_22 (by decide) ?_
        refine lv_goto (tgt := 27) hx hb dX6_howMany_23 (by decide) ?_
        cases h
        exact K4 _ _ _ hW (lv_sub hl [0, 2] rfl)
def fX1_howMany (N : Nat) (S : St)  : Option (Int32) :=
  Option.bind (fX1_howMany_L4 N S N 0 0) fun t8 =>
  some t8
set_option maxHeartbeats 4000000 in
set_option maxRecDepth 100000 in
theorem wX1_howMany {N : Nat} {S : St}  (hC : CallFix p m c cX6_howMany 3 s args lw_g RX6) (hF : 1 ≤ R.frames) (hL : 21 ≤ R.locals)  {v : Int32} (h : fX1_howMany N S = some v) (kr : ∀ (H : Heap) (locs : List Loc) (ls : Array Slot) (pc : Nat), decode cX6_howMany pc = .ok (.ireturn, 1) → wg LX G S s H locs → W p l e R s m args below meth c H locs 0 0 Q (F0 m pc ls [.int v])) : ∀ (H : Heap) (locs : List Loc) (ls : Array Slot), wg LX G S s H locs → lv_has ls 3 [(0, .ref (ad G 1))] → W p l e R s m args below meth c H locs 0 0 Q (F0 m 0 ls []) := by
  have hx := hC.1
  have hb := hC.2.1
  intro H locs ls hW hl
  unfold fX1_howMany at h
  refine lv_iconst (v := 0) hx hb dX6_howMany_0 (by decide) ?_
  refine lv_istore_n (lv' := [(1, .int 0), (0, .ref (ad G 1))]) hx hb dX6_howMany_1 rfl hl (by decide) rfl (fun ls hl => ?_)
  refine lv_iconst (v := 0) hx hb dX6_howMany_2 (by decide) ?_
  refine lv_istore_n (lv' := [(2, .int 0), (1, .int 0), (0, .ref (ad G 1))]) hx hb dX6_howMany_3 rfl hl (by decide) rfl (fun ls hl => ?_)
  obtain ⟨t8, e9, h⟩ := bd h
  refine wX1_howMany_L4 hC hF hL  (fun H locs ls hW hl => ?_) _ _ _ e9 _ _ _ hW (lv_sub hl [2, 1, 0] rfl)
  refine lv_iload_n hx hb dX6_howMany_35 rfl (lv_at hl 0 rfl) ?_
  cases h
  exact kr _ _ _ _ dX6_howMany_36 hW
theorem ctX1_howMany {N : Nat} {S : St}   {v : Int32} (h : fX1_howMany N S = some v) : Met l yX6_howMany (wm yX6_howMany cX6_howMany 3 (some .int)) (rmx 1 21) (pcm LX G S [.ref (ad G 1)]) (qcI LX G S v) 0 0 G.2.2.2 :=
  x_enter (own := RX6) rfl rfl (Nat.le_of_ble_eq_true rfl) (fun p e s m below meth c ls hC hr hk hW hl => wX1_howMany hC (Nat.le_refl _) (Nat.le_refl _)  h (fun H locs ls pc hd hW => x_reti hC hr hk hW hd) _ _ _ hW hl)
def fX10_howMany_L4 (N : Nat) (S : St)  : Nat → Int32 → Int32 → Option (Int32)
  | 0, _, _ => none
  | n + 1, x1, x2 =>
    if 4 ≤ x2 then
      some x1
    else
      Option.bind (fX10_isThere S x2) fun t2 =>
      Option.bind (α := Int32) (
        if t2 = 0 then
          some 0
        else
          some 1
      ) fun t5 =>
      fX10_howMany_L4 N S n (x1 + t5) (x2 + 1)
set_option maxHeartbeats 4000000 in
set_option maxRecDepth 100000 in
theorem wX10_howMany_L4 {N : Nat} {S : St}  (hC : CallFix p m c cX6_howMany 3 s args lw_g RX6) (hF : 1 ≤ R.frames) (hL : 21 ≤ R.locals)  {t : Int32} (kx : ∀ (H : Heap) (locs : List Loc) (ls : Array Slot), wg LX G S s H locs → lv_has ls 3 [(1, .int t)] → W p l e R s m args below meth c H locs 0 0 Q (F0 m 35 ls [])) : ∀ (n : Nat) (x1 : Int32) (x2 : Int32), fX10_howMany_L4 N S  n x1 x2 = some t → ∀ (H : Heap) (locs : List Loc) (ls : Array Slot), wg LX G S s H locs → lv_has ls 3 [(0, .ref (ad G 10)), (1, .int x1), (2, .int x2)] → W p l e R s m args below meth c H locs 0 0 Q (F0 m 4 ls []) := by
  have hx := hC.1
  have hb := hC.2.1
  intro n
  induction n with
  | zero =>
    intro _ _ h
    cases h
  | succ n ih =>
    intro x1 x2 h H locs ls hW hl
    rw [fX10_howMany_L4] at h
    refine lv_iload_n hx hb dX6_howMany_4 rfl (lv_at hl 2 rfl) ?_
    refine lv_aload_n hx hb dX6_howMany_5 rfl (lv_at hl 0 rfl) ?_
    refine gX10_1 hC hW dX6_howMany_6 ?_
    refine x_alen (v := 4) hC hW aX16 rfl dX6_howMany_9 ?_
    refine lv_icmp_ge (tgt := 35) hx hb dX6_howMany_10 (by decide) (fun q1 => ?_) (fun q1 => ?_)
    · have h := it_p q1 h
      cases h
      exact kx _ _ _ hW (lv_sub hl [1] rfl)
    · have h := it_n q1 h
      refine lv_iload_n hx hb dX6_howMany_13 rfl (lv_at hl 1 rfl) ?_
      refine lv_aload_n hx hb dX6_howMany_14 rfl (lv_at hl 0 rfl) ?_
      refine lv_iload_n hx hb dX6_howMany_15 rfl (lv_at hl 2 rfl) ?_
      obtain ⟨t2, e3, h⟩ := bd h
      refine x_goi (x_rv (rest := [.int x1]) hC hW (ctX10_isThere e3) (cwV_g hC.2.2.2.2 ml_X6_30 mi_X6_isThere md_X6_isThere ⟨(Nat.le_trans (Nat.le_of_ble_eq_true rfl) hF), (Nat.le_trans (Nat.le_of_ble_eq_true rfl) hL)⟩) (rcX10 hW) rfl hl.1 rfl (Nat.le_of_ble_eq_true rfl) dX6_howMany_16) hW (fun H locs hW => ?_)
      obtain ⟨t5, e6, h⟩ := bd h
      have K4 : ∀ (H : Heap) (locs : List Loc) (ls : Array Slot), wg LX G S s H locs → lv_has ls 3 [(0, .ref (ad G 10)), (2, .int x2)] → W p l e R s m args below meth c H locs 0 0 Q (F0 m 27 ls [.int t5, .int x1]) := by
        intro H locs ls hW hl
        refine lv_iadd hx hb dX6_howMany_27 ?_
        refine lv_istore_n (lv' := [(1, .int (x1 + t5)), (0, .ref (ad G 10)), (2, .int x2)]) hx hb dX6_howMany_28 rfl hl (by decide) rfl (fun ls hl => ?_)
        refine lv_iinc (v := x2 + 1) (lv' := [(2, .int (x2 + 1)), (1, .int (x1 + t5)), (0, .ref (ad G 10))]) (k := 2) hx hb dX6_howMany_29 hl rfl rfl (by decide) rfl (fun ls hl => ?_)
        refine lv_goto (tgt := 4) hx hb dX6_howMany_32 (by decide) ?_
        exact ih _ _ h _ _ _ hW (lv_sub hl [2, 1, 0] rfl)
      clear h
      have h := e6
      clear e6
      refine lv_if_eq (tgt := 26) hx hb dX6_howMany_19 (by decide) (fun q7 => ?_) (fun q7 => ?_)
      · have h := it_p q7 h
        refine lv_iconst (v := 0) hx hb dX6_howMany_26 (by decide) ?_
        cases h
        exact K4 _ _ _ hW (lv_sub hl [0, 2] rfl)
      · have h := it_n q7 h
        refine lv_iconst (v := 1) hx hb dX6_howMany_22 (by decide) ?_
        refine lv_goto (tgt := 27) hx hb dX6_howMany_23 (by decide) ?_
        cases h
        exact K4 _ _ _ hW (lv_sub hl [0, 2] rfl)
def fX10_howMany (N : Nat) (S : St)  : Option (Int32) :=
  Option.bind (fX10_howMany_L4 N S N 0 0) fun t8 =>
  some t8
set_option maxHeartbeats 4000000 in
set_option maxRecDepth 100000 in
theorem wX10_howMany {N : Nat} {S : St}  (hC : CallFix p m c cX6_howMany 3 s args lw_g RX6) (hF : 1 ≤ R.frames) (hL : 21 ≤ R.locals)  {v : Int32} (h : fX10_howMany N S = some v) (kr : ∀ (H : Heap) (locs : List Loc) (ls : Array Slot) (pc : Nat), decode cX6_howMany pc = .ok (.ireturn, 1) → wg LX G S s H locs → W p l e R s m args below meth c H locs 0 0 Q (F0 m pc ls [.int v])) : ∀ (H : Heap) (locs : List Loc) (ls : Array Slot), wg LX G S s H locs → lv_has ls 3 [(0, .ref (ad G 10))] → W p l e R s m args below meth c H locs 0 0 Q (F0 m 0 ls []) := by
  have hx := hC.1
  have hb := hC.2.1
  intro H locs ls hW hl
  unfold fX10_howMany at h
  refine lv_iconst (v := 0) hx hb dX6_howMany_0 (by decide) ?_
  refine lv_istore_n (lv' := [(1, .int 0), (0, .ref (ad G 10))]) hx hb dX6_howMany_1 rfl hl (by decide) rfl (fun ls hl => ?_)
  refine lv_iconst (v := 0) hx hb dX6_howMany_2 (by decide) ?_
  refine lv_istore_n (lv' := [(2, .int 0), (1, .int 0), (0, .ref (ad G 10))]) hx hb dX6_howMany_3 rfl hl (by decide) rfl (fun ls hl => ?_)
  obtain ⟨t8, e9, h⟩ := bd h
  refine wX10_howMany_L4 hC hF hL  (fun H locs ls hW hl => ?_) _ _ _ e9 _ _ _ hW (lv_sub hl [2, 1, 0] rfl)
  refine lv_iload_n hx hb dX6_howMany_35 rfl (lv_at hl 0 rfl) ?_
  cases h
  exact kr _ _ _ _ dX6_howMany_36 hW
theorem ctX10_howMany {N : Nat} {S : St}   {v : Int32} (h : fX10_howMany N S = some v) : Met l yX6_howMany (wm yX6_howMany cX6_howMany 3 (some .int)) (rmx 1 21) (pcm LX G S [.ref (ad G 10)]) (qcI LX G S v) 0 0 G.2.2.2 :=
  x_enter (own := RX6) rfl rfl (Nat.le_of_ble_eq_true rfl) (fun p e s m below meth c ls hC hr hk hW hl => wX10_howMany hC (Nat.le_refl _) (Nat.le_refl _)  h (fun H locs ls pc hd hW => x_reti hC hr hk hW hd) _ _ _ hW hl)
def fX0_there (N : Nat) (S : St) (x1 : Int32) : Option (Int32) :=
  if x1 = 0 then
    Option.bind (fX25_howMany S) fun t2 =>
    some t2
  else
  if x1 = 1 then
    Option.bind (fX29_howMany S) fun t4 =>
    some t4
  else
  if x1 = 2 then
    Option.bind (fX22_howMany S) fun t6 =>
    some t6
  else
  if x1 = 3 then
    Option.bind (fX1_howMany N S) fun t8 =>
    some t8
  else
  if x1 = 4 then
    Option.bind (fX10_howMany N S) fun t10 =>
    some t10
  else
  some (-1)
set_option maxHeartbeats 4000000 in
set_option maxRecDepth 100000 in
theorem wX0_there {N : Nat} {S : St} {x1 : Int32} (hC : CallFix p m c cX9_there 2 s args lw_g RX9) (hF : 2 ≤ R.frames) (hL : 43 ≤ R.locals)  {v : Int32} (h : fX0_there N S x1 = some v) (kr : ∀ (H : Heap) (locs : List Loc) (ls : Array Slot) (pc : Nat), decode cX9_there pc = .ok (.ireturn, 1) → wg LX G S s H locs → W p l e R s m args below meth c H locs 0 0 Q (F0 m pc ls [.int v])) : ∀ (H : Heap) (locs : List Loc) (ls : Array Slot), wg LX G S s H locs → lv_has ls 2 [(0, .ref (ad G 0)), (1, .int x1)] → W p l e R s m args below meth c H locs 0 0 Q (F0 m 0 ls []) := by
  have hx := hC.1
  have hb := hC.2.1
  intro H locs ls hW hl
  unfold fX0_there at h
  refine lv_iload_n hx hb dX9_there_0 rfl (lv_at hl 1 rfl) ?_
  by_cases q1_0 : x1 = 0
  · have h := it_p q1_0 h
    refine lv_tableIn (off := 35) (tgt := 36) hx hb dX9_there_1 (by rw [q1_0]; decide) (by rw [q1_0]; decide) (by rw [q1_0]; rfl) (by decide) ?_
    refine lv_aload_n hx hb dX9_there_36 rfl (lv_at hl 0 rfl) ?_
    refine gX0_4 hC hW dX9_there_37 ?_
    obtain ⟨t2, e3, h⟩ := bd h
    refine x_goi (x_rv (rest := []) hC hW (ctX25_howMany e3) (cwV_g hC.2.2.2.2 ml_X9_165 mi_X0_howMany md_X0_howMany ⟨(Nat.le_trans (Nat.le_of_ble_eq_true rfl) hF), (Nat.le_trans (Nat.le_of_ble_eq_true rfl) hL)⟩) (rcX25 hW) rfl hl.1 rfl (Nat.le_of_ble_eq_true rfl) dX9_there_40) hW (fun H locs hW => ?_)
    cases h
    exact kr _ _ _ _ dX9_there_43 hW
  have h := it_n q1_0 h
  by_cases q1_1 : x1 = 1
  · have h := it_p q1_1 h
    refine lv_tableIn (off := 43) (tgt := 44) hx hb dX9_there_1 (by rw [q1_1]; decide) (by rw [q1_1]; decide) (by rw [q1_1]; rfl) (by decide) ?_
    refine lv_aload_n hx hb dX9_there_44 rfl (lv_at hl 0 rfl) ?_
    refine gX0_5 hC hW dX9_there_45 ?_
    obtain ⟨t4, e5, h⟩ := bd h
    refine x_goi (x_rv (rest := []) hC hW (ctX29_howMany e5) (cwV_g hC.2.2.2.2 ml_X9_175 mi_X7_howMany md_X7_howMany ⟨(Nat.le_trans (Nat.le_of_ble_eq_true rfl) hF), (Nat.le_trans (Nat.le_of_ble_eq_true rfl) hL)⟩) (rcX29 hW) rfl hl.1 rfl (Nat.le_of_ble_eq_true rfl) dX9_there_48) hW (fun H locs hW => ?_)
    cases h
    exact kr _ _ _ _ dX9_there_51 hW
  have h := it_n q1_1 h
  by_cases q1_2 : x1 = 2
  · have h := it_p q1_2 h
    refine lv_tableIn (off := 51) (tgt := 52) hx hb dX9_there_1 (by rw [q1_2]; decide) (by rw [q1_2]; decide) (by rw [q1_2]; rfl) (by decide) ?_
    refine lv_aload_n hx hb dX9_there_52 rfl (lv_at hl 0 rfl) ?_
    refine gX0_3 hC hW dX9_there_53 ?_
    obtain ⟨t6, e7, h⟩ := bd h
    refine x_goi (x_rv (rest := []) hC hW (ctX22_howMany e7) (cwV_g hC.2.2.2.2 ml_X9_195 mi_X1_howMany md_X1_howMany ⟨(Nat.le_trans (Nat.le_of_ble_eq_true rfl) hF), (Nat.le_trans (Nat.le_of_ble_eq_true rfl) hL)⟩) (rcX22 hW) rfl hl.1 rfl (Nat.le_of_ble_eq_true rfl) dX9_there_56) hW (fun H locs hW => ?_)
    cases h
    exact kr _ _ _ _ dX9_there_59 hW
  have h := it_n q1_2 h
  by_cases q1_3 : x1 = 3
  · have h := it_p q1_3 h
    refine lv_tableIn (off := 59) (tgt := 60) hx hb dX9_there_1 (by rw [q1_3]; decide) (by rw [q1_3]; decide) (by rw [q1_3]; rfl) (by decide) ?_
    refine lv_aload_n hx hb dX9_there_60 rfl (lv_at hl 0 rfl) ?_
    refine gX0_0 hC hW dX9_there_61 ?_
    obtain ⟨t8, e9, h⟩ := bd h
    refine x_goi (x_rv (rest := []) hC hW (ctX1_howMany e9) (cwV_g hC.2.2.2.2 ml_X9_323 mi_X6_howMany md_X6_howMany ⟨(Nat.le_trans (Nat.le_of_ble_eq_true rfl) hF), (Nat.le_trans (Nat.le_of_ble_eq_true rfl) hL)⟩) (rcX1 hW) rfl hl.1 rfl (Nat.le_of_ble_eq_true rfl) dX9_there_64) hW (fun H locs hW => ?_)
    cases h
    exact kr _ _ _ _ dX9_there_67 hW
  have h := it_n q1_3 h
  by_cases q1_4 : x1 = 4
  · have h := it_p q1_4 h
    refine lv_tableIn (off := 67) (tgt := 68) hx hb dX9_there_1 (by rw [q1_4]; decide) (by rw [q1_4]; decide) (by rw [q1_4]; rfl) (by decide) ?_
    refine lv_aload_n hx hb dX9_there_68 rfl (lv_at hl 0 rfl) ?_
    refine gX0_1 hC hW dX9_there_69 ?_
    obtain ⟨t10, e11, h⟩ := bd h
    refine x_goi (x_rv (rest := []) hC hW (ctX10_howMany e11) (cwV_g hC.2.2.2.2 ml_X9_323 mi_X6_howMany md_X6_howMany ⟨(Nat.le_trans (Nat.le_of_ble_eq_true rfl) hF), (Nat.le_trans (Nat.le_of_ble_eq_true rfl) hL)⟩) (rcX10 hW) rfl hl.1 rfl (Nat.le_of_ble_eq_true rfl) dX9_there_72) hW (fun H locs hW => ?_)
    cases h
    exact kr _ _ _ _ dX9_there_75 hW
  have h := it_n q1_4 h
  have q1_0i := lv_neT (a := 0) q1_0 (by decide)
  have q1_1i := lv_neT (a := 1) q1_1 (by decide)
  have q1_2i := lv_neT (a := 2) q1_2 (by decide)
  have q1_3i := lv_neT (a := 3) q1_3 (by decide)
  have q1_4i := lv_neT (a := 4) q1_4 (by decide)
  refine lv_tableOut (tgt := 76) hx hb dX9_there_1 (by omega) (by decide) ?_
  refine lv_iconst (v := (-1)) hx hb dX9_there_76 (by decide) ?_
  cases h
  exact kr _ _ _ _ dX9_there_77 hW
theorem ctX0_there {N : Nat} {S : St} {x1 : Int32}  {v : Int32} (h : fX0_there N S x1 = some v) : Met l yX9_there (wm yX9_there cX9_there 2 (some .int)) (rmx 2 43) (pcm LX G S [.ref (ad G 0), .int x1]) (qcI LX G S v) 0 0 G.2.2.2 :=
  x_enter (own := RX9) rfl rfl (Nat.le_of_ble_eq_true rfl) (fun p e s m below meth c ls hC hr hk hW hl => wX0_there hC (Nat.le_refl _) (Nat.le_refl _)  h (fun H locs ls pc hd hW => x_reti hC hr hk hW hd) _ _ _ hW hl)
def fX0_finding (S : St)  : Option (Int32) :=
  some (S.1 0 11)
set_option maxHeartbeats 4000000 in
set_option maxRecDepth 100000 in
theorem wX0_finding {S : St}  (hC : CallFix p m c cX9_finding 1 s args lw_g RX9) (hF : 0 ≤ R.frames) (hL : 0 ≤ R.locals)  {v : Int32} (h : fX0_finding S = some v) (kr : ∀ (H : Heap) (locs : List Loc) (ls : Array Slot) (pc : Nat), decode cX9_finding pc = .ok (.ireturn, 1) → wg LX G S s H locs → W p l e R s m args below meth c H locs 0 0 Q (F0 m pc ls [.int v])) : ∀ (H : Heap) (locs : List Loc) (ls : Array Slot), wg LX G S s H locs → lv_has ls 1 [(0, .ref (ad G 0))] → W p l e R s m args below meth c H locs 0 0 Q (F0 m 0 ls []) := by
  have hx := hC.1
  have hb := hC.2.1
  intro H locs ls hW hl
  unfold fX0_finding at h
  refine lv_aload_n hx hb dX9_finding_0 rfl (lv_at hl 0 rfl) ?_
  refine gX0_11 hC hW dX9_finding_1 ?_
  cases h
  exact kr _ _ _ _ dX9_finding_4 hW
theorem ctX0_finding {S : St}   {v : Int32} (h : fX0_finding S = some v) : Met l yX9_finding (wm yX9_finding cX9_finding 1 (some .int)) (rmx 0 0) (pcm LX G S [.ref (ad G 0)]) (qcI LX G S v) 0 0 G.2.2.2 :=
  x_enter (own := RX9) rfl rfl (Nat.le_of_ble_eq_true rfl) (fun p e s m below meth c ls hC hr hk hW hl => wX0_finding hC (Nat.le_refl _) (Nat.le_refl _)  h (fun H locs ls pc hd hW => x_reti hC hr hk hW hd) _ _ _ hW hl)
def fX0_findings (S : St) (x1 : Int32) : Option (Int32) :=
  if x1 < 1 then
    some (-1)
  else
    if x1 ≤ 5 then
      gd (inb x1 6) <|
      some (S.1 53 (Int32.toNatClampNeg x1))
    else
      some (-1)
set_option maxHeartbeats 4000000 in
set_option maxRecDepth 100000 in
theorem wX0_findings {S : St} {x1 : Int32} (hC : CallFix p m c cX9_findings 2 s args lw_g RX9) (hF : 0 ≤ R.frames) (hL : 0 ≤ R.locals)  {v : Int32} (h : fX0_findings S x1 = some v) (kr : ∀ (H : Heap) (locs : List Loc) (ls : Array Slot) (pc : Nat), decode cX9_findings pc = .ok (.ireturn, 1) → wg LX G S s H locs → W p l e R s m args below meth c H locs 0 0 Q (F0 m pc ls [.int v])) : ∀ (H : Heap) (locs : List Loc) (ls : Array Slot), wg LX G S s H locs → lv_has ls 2 [(0, .ref (ad G 0)), (1, .int x1)] → W p l e R s m args below meth c H locs 0 0 Q (F0 m 0 ls []) := by
  have hx := hC.1
  have hb := hC.2.1
  intro H locs ls hW hl
  unfold fX0_findings at h
  refine lv_iload_n hx hb dX9_findings_0 rfl (lv_at hl 1 rfl) ?_
  refine lv_iconst (v := 1) hx hb dX9_findings_1 (by decide) ?_
  refine lv_icmp_lt (tgt := 10) hx hb dX9_findings_2 (by decide) (fun q1 => ?_) (fun q1 => ?_)
  · have h := it_p q1 h
    refine lv_iconst (v := (-1)) hx hb dX9_findings_10 (by decide) ?_
    cases h
    exact kr _ _ _ _ dX9_findings_11 hW
  · have h := it_n q1 h
    refine lv_iload_n hx hb dX9_findings_5 rfl (lv_at hl 1 rfl) ?_
    refine lv_iconst (v := 5) hx hb dX9_findings_6 (by decide) ?_
    refine lv_icmp_le (tgt := 12) hx hb dX9_findings_7 (by decide) (fun q2 => ?_) (fun q2 => ?_)
    · have h := it_p q2 h
      refine lv_aload_n hx hb dX9_findings_12 rfl (lv_at hl 0 rfl) ?_
      refine gX0_10 hC hW dX9_findings_13 ?_
      refine lv_iload_n hx hb dX9_findings_16 rfl (lv_at hl 1 rfl) ?_
      obtain ⟨g3, h⟩ := gd_some h
      refine x_iald hC hW aX53 g3 dX9_findings_17 ?_
      cases h
      exact kr _ _ _ _ dX9_findings_18 hW
    · have h := it_n q2 h
      refine lv_iconst (v := (-1)) hx hb dX9_findings_10 (by decide) ?_
      cases h
      exact kr _ _ _ _ dX9_findings_11 hW
theorem ctX0_findings {S : St} {x1 : Int32}  {v : Int32} (h : fX0_findings S x1 = some v) : Met l yX9_findings (wm yX9_findings cX9_findings 2 (some .int)) (rmx 0 0) (pcm LX G S [.ref (ad G 0), .int x1]) (qcI LX G S v) 0 0 G.2.2.2 :=
  x_enter (own := RX9) rfl rfl (Nat.le_of_ble_eq_true rfl) (fun p e s m below meth c ls hC hr hk hW hl => wX0_findings hC (Nat.le_refl _) (Nat.le_refl _)  h (fun H locs ls pc hd hW => x_reti hC hr hk hW hd) _ _ _ hW hl)
def fX29_mixInto_L2 (N : Nat) (S : St)  : Nat → Int64 → Int32 → Option (Int64)
  | 0, _, _ => none
  | n + 1, l1, x3 =>
    if (S.1 29 4) ≤ x3 then
      some l1
    else
      gd (inb x3 8) <|
      nx ((31 * l1) + (Int32.toInt64 (S.1 30 (Int32.toNatClampNeg x3)))) fun y3 =>
      gd (inb x3 8) <|
      nx ((31 * y3) + (Int32.toInt64 (S.1 31 (Int32.toNatClampNeg x3)))) fun y6 =>
      gd (inb x3 8) <|
      nx ((31 * y6) + (Int32.toInt64 (S.1 32 (Int32.toNatClampNeg x3)))) fun y9 =>
      fX29_mixInto_L2 N S n y9 (x3 + 1)
set_option maxHeartbeats 4000000 in
set_option maxRecDepth 100000 in
theorem wX29_mixInto_L2 {N : Nat} {S : St}  (hC : CallFix p m c cX7_mixInto 4 s args lw_g RX7) (hF : 0 ≤ R.frames) (hL : 0 ≤ R.locals)  {t : Int64} (kx : ∀ (H : Heap) (locs : List Loc) (ls : Array Slot), wg LX G S s H locs → lv_has ls 4 [(1, .long t)] → W p l e R s m args below meth c H locs 0 0 Q (F0 m 58 ls [])) : ∀ (n : Nat) (l1 : Int64) (x3 : Int32), fX29_mixInto_L2 N S  n l1 x3 = some t → ∀ (H : Heap) (locs : List Loc) (ls : Array Slot), wg LX G S s H locs → lv_has ls 4 [(0, .ref (ad G 29)), (1, .long l1), (3, .int x3)] → W p l e R s m args below meth c H locs 0 0 Q (F0 m 2 ls []) := by
  have hx := hC.1
  have hb := hC.2.1
  intro n
  induction n with
  | zero =>
    intro _ _ h
    cases h
  | succ n ih =>
    intro l1 x3 h H locs ls hW hl
    rw [fX29_mixInto_L2] at h
    refine lv_iload_n hx hb dX7_mixInto_2 rfl (lv_at hl 2 rfl) ?_
    refine lv_aload_n hx hb dX7_mixInto_3 rfl (lv_at hl 0 rfl) ?_
    refine gX29_4 hC hW dX7_mixInto_4 ?_
    refine lv_icmp_ge (tgt := 58) hx hb dX7_mixInto_7 (by decide) (fun q1 => ?_) (fun q1 => ?_)
    · have h := it_p q1 h
      cases h
      exact kx _ _ _ hW (lv_sub hl [1] rfl)
    · have h := it_n q1 h
      refine lv_ldc2 (v := 31) hx hb hC.2.2.2.1 (hC.2.2.2.2 _ kl_X7_43) dX7_mixInto_10 ?_
      refine lv_lload_n hx hb dX7_mixInto_13 rfl (lv_at hl 1 rfl) ?_
      refine lv_lmul hx hb dX7_mixInto_14 ?_
      refine lv_aload_n hx hb dX7_mixInto_15 rfl (lv_at hl 0 rfl) ?_
      refine gX29_1 hC hW dX7_mixInto_16 ?_
      refine lv_iload_n hx hb dX7_mixInto_19 rfl (lv_at hl 2 rfl) ?_
      obtain ⟨g2, h⟩ := gd_some h
      refine x_iald hC hW aX30 g2 dX7_mixInto_20 ?_
      refine lv_i2l (v := Int32.toInt64 (S.1 30 (Int32.toNatClampNeg x3))) hx hb dX7_mixInto_21 rfl ?_
      refine lv_ladd hx hb dX7_mixInto_22 ?_
      obtain ⟨y3, e4, h⟩ := nx_some h
      refine x_topl e4 ?_
      refine lv_lstore_n (lv' := [(1, .long y3), (0, .ref (ad G 29)), (3, .int x3)]) hx hb dX7_mixInto_23 rfl hl (by decide) rfl (fun ls hl => ?_)
      refine lv_ldc2 (v := 31) hx hb hC.2.2.2.1 (hC.2.2.2.2 _ kl_X7_43) dX7_mixInto_24 ?_
      refine lv_lload_n hx hb dX7_mixInto_27 rfl (lv_at hl 0 rfl) ?_
      refine lv_lmul hx hb dX7_mixInto_28 ?_
      refine lv_aload_n hx hb dX7_mixInto_29 rfl (lv_at hl 1 rfl) ?_
      refine gX29_2 hC hW dX7_mixInto_30 ?_
      refine lv_iload_n hx hb dX7_mixInto_33 rfl (lv_at hl 2 rfl) ?_
      obtain ⟨g5, h⟩ := gd_some h
      refine x_iald hC hW aX31 g5 dX7_mixInto_34 ?_
      refine lv_i2l (v := Int32.toInt64 (S.1 31 (Int32.toNatClampNeg x3))) hx hb dX7_mixInto_35 rfl ?_
      refine lv_ladd hx hb dX7_mixInto_36 ?_
      obtain ⟨y6, e7, h⟩ := nx_some h
      refine x_topl e7 ?_
      refine lv_lstore_n (lv' := [(1, .long y6), (0, .ref (ad G 29)), (3, .int x3)]) hx hb dX7_mixInto_37 rfl hl (by decide) rfl (fun ls hl => ?_)
      refine lv_ldc2 (v := 31) hx hb hC.2.2.2.1 (hC.2.2.2.2 _ kl_X7_43) dX7_mixInto_38 ?_
      refine lv_lload_n hx hb dX7_mixInto_41 rfl (lv_at hl 0 rfl) ?_
      refine lv_lmul hx hb dX7_mixInto_42 ?_
      refine lv_aload_n hx hb dX7_mixInto_43 rfl (lv_at hl 1 rfl) ?_
      refine gX29_3 hC hW dX7_mixInto_44 ?_
      refine lv_iload_n hx hb dX7_mixInto_47 rfl (lv_at hl 2 rfl) ?_
      obtain ⟨g8, h⟩ := gd_some h
      refine x_iald hC hW aX32 g8 dX7_mixInto_48 ?_
      refine lv_i2l (v := Int32.toInt64 (S.1 32 (Int32.toNatClampNeg x3))) hx hb dX7_mixInto_49 rfl ?_
      refine lv_ladd hx hb dX7_mixInto_50 ?_
      obtain ⟨y9, e10, h⟩ := nx_some h
      refine x_topl e10 ?_
      refine lv_lstore_n (lv' := [(1, .long y9), (0, .ref (ad G 29)), (3, .int x3)]) hx hb dX7_mixInto_51 rfl hl (by decide) rfl (fun ls hl => ?_)
      refine lv_iinc (v := x3 + 1) (lv' := [(3, .int (x3 + 1)), (1, .long y9), (0, .ref (ad G 29))]) (k := 2) hx hb dX7_mixInto_52 hl rfl rfl (by decide) rfl (fun ls hl => ?_)
      refine lv_goto (tgt := 2) hx hb dX7_mixInto_55 (by decide) ?_
      exact ih _ _ h _ _ _ hW (lv_sub hl [2, 1, 0] rfl)
def fX29_mixInto (N : Nat) (S : St) (l1 : Int64) : Option (Int64) :=
  Option.bind (fX29_mixInto_L2 N S N l1 0) fun t11 =>
  some t11
set_option maxHeartbeats 4000000 in
set_option maxRecDepth 100000 in
theorem wX29_mixInto {N : Nat} {S : St} {l1 : Int64} (hC : CallFix p m c cX7_mixInto 4 s args lw_g RX7) (hF : 0 ≤ R.frames) (hL : 0 ≤ R.locals)  {v : Int64} (h : fX29_mixInto N S l1 = some v) (kr : ∀ (H : Heap) (locs : List Loc) (ls : Array Slot) (pc : Nat), decode cX7_mixInto pc = .ok (.lreturn, 1) → wg LX G S s H locs → W p l e R s m args below meth c H locs 0 0 Q (F0 m pc ls [.long v])) : ∀ (H : Heap) (locs : List Loc) (ls : Array Slot), wg LX G S s H locs → lv_has ls 4 [(0, .ref (ad G 29)), (1, .long l1)] → W p l e R s m args below meth c H locs 0 0 Q (F0 m 0 ls []) := by
  have hx := hC.1
  have hb := hC.2.1
  intro H locs ls hW hl
  unfold fX29_mixInto at h
  refine lv_iconst (v := 0) hx hb dX7_mixInto_0 (by decide) ?_
  refine lv_istore_n (lv' := [(3, .int 0), (0, .ref (ad G 29)), (1, .long l1)]) hx hb dX7_mixInto_1 rfl hl (by decide) rfl (fun ls hl => ?_)
  obtain ⟨t11, e12, h⟩ := bd h
  refine wX29_mixInto_L2 hC hF hL  (fun H locs ls hW hl => ?_) _ _ _ e12 _ _ _ hW (lv_sub hl [1, 2, 0] rfl)
  refine lv_lload_n hx hb dX7_mixInto_58 rfl (lv_at hl 0 rfl) ?_
  cases h
  exact kr _ _ _ _ dX7_mixInto_59 hW
theorem ctX29_mixInto {N : Nat} {S : St} {l1 : Int64}  {v : Int64} (h : fX29_mixInto N S l1 = some v) : Met l yX7_mixInto (wm yX7_mixInto cX7_mixInto 4 (some .long)) (rmx 0 0) (pcm LX G S [.ref (ad G 29), .long l1]) (qcL LX G S v) 0 0 G.2.2.2 :=
  x_enter (own := RX7) rfl rfl (Nat.le_of_ble_eq_true rfl) (fun p e s m below meth c ls hC hr hk hW hl => wX29_mixInto hC (Nat.le_refl _) (Nat.le_refl _)  h (fun H locs ls pc hd hW => x_retl hC hr hk hW hd) _ _ _ hW hl)
def fX22_mixInto_L2 (N : Nat) (S : St)  : Nat → Int64 → Int32 → Option (Int64)
  | 0, _, _ => none
  | n + 1, l1, x3 =>
    if (S.1 22 2) ≤ x3 then
      some l1
    else
      gd (inb x3 12) <|
      nx ((31 * l1) + (Int32.toInt64 (S.1 23 (Int32.toNatClampNeg x3)))) fun y3 =>
      fX22_mixInto_L2 N S n y3 (x3 + 1)
set_option maxHeartbeats 4000000 in
set_option maxRecDepth 100000 in
theorem wX22_mixInto_L2 {N : Nat} {S : St}  (hC : CallFix p m c cX1_mixInto 4 s args lw_g RX1) (hF : 0 ≤ R.frames) (hL : 0 ≤ R.locals)  {t : Int64} (kx : ∀ (H : Heap) (locs : List Loc) (ls : Array Slot), wg LX G S s H locs → lv_has ls 4 [(1, .long t)] → W p l e R s m args below meth c H locs 0 0 Q (F0 m 30 ls [])) : ∀ (n : Nat) (l1 : Int64) (x3 : Int32), fX22_mixInto_L2 N S  n l1 x3 = some t → ∀ (H : Heap) (locs : List Loc) (ls : Array Slot), wg LX G S s H locs → lv_has ls 4 [(0, .ref (ad G 22)), (1, .long l1), (3, .int x3)] → W p l e R s m args below meth c H locs 0 0 Q (F0 m 2 ls []) := by
  have hx := hC.1
  have hb := hC.2.1
  intro n
  induction n with
  | zero =>
    intro _ _ h
    cases h
  | succ n ih =>
    intro l1 x3 h H locs ls hW hl
    rw [fX22_mixInto_L2] at h
    refine lv_iload_n hx hb dX1_mixInto_2 rfl (lv_at hl 2 rfl) ?_
    refine lv_aload_n hx hb dX1_mixInto_3 rfl (lv_at hl 0 rfl) ?_
    refine gX22_2 hC hW dX1_mixInto_4 ?_
    refine lv_icmp_ge (tgt := 30) hx hb dX1_mixInto_7 (by decide) (fun q1 => ?_) (fun q1 => ?_)
    · have h := it_p q1 h
      cases h
      exact kx _ _ _ hW (lv_sub hl [1] rfl)
    · have h := it_n q1 h
      refine lv_ldc2 (v := 31) hx hb hC.2.2.2.1 (hC.2.2.2.2 _ kl_X1_37) dX1_mixInto_10 ?_
      refine lv_lload_n hx hb dX1_mixInto_13 rfl (lv_at hl 1 rfl) ?_
      refine lv_lmul hx hb dX1_mixInto_14 ?_
      refine lv_aload_n hx hb dX1_mixInto_15 rfl (lv_at hl 0 rfl) ?_
      refine gX22_0 hC hW dX1_mixInto_16 ?_
      refine lv_iload_n hx hb dX1_mixInto_19 rfl (lv_at hl 2 rfl) ?_
      obtain ⟨g2, h⟩ := gd_some h
      refine x_iald hC hW aX23 g2 dX1_mixInto_20 ?_
      refine lv_i2l (v := Int32.toInt64 (S.1 23 (Int32.toNatClampNeg x3))) hx hb dX1_mixInto_21 rfl ?_
      refine lv_ladd hx hb dX1_mixInto_22 ?_
      obtain ⟨y3, e4, h⟩ := nx_some h
      refine x_topl e4 ?_
      refine lv_lstore_n (lv' := [(1, .long y3), (0, .ref (ad G 22)), (3, .int x3)]) hx hb dX1_mixInto_23 rfl hl (by decide) rfl (fun ls hl => ?_)
      refine lv_iinc (v := x3 + 1) (lv' := [(3, .int (x3 + 1)), (1, .long y3), (0, .ref (ad G 22))]) (k := 2) hx hb dX1_mixInto_24 hl rfl rfl (by decide) rfl (fun ls hl => ?_)
      refine lv_goto (tgt := 2) hx hb dX1_mixInto_27 (by decide) ?_
      exact ih _ _ h _ _ _ hW (lv_sub hl [2, 1, 0] rfl)
def fX22_mixInto (N : Nat) (S : St) (l1 : Int64) : Option (Int64) :=
  Option.bind (fX22_mixInto_L2 N S N l1 0) fun t5 =>
  some t5
set_option maxHeartbeats 4000000 in
set_option maxRecDepth 100000 in
theorem wX22_mixInto {N : Nat} {S : St} {l1 : Int64} (hC : CallFix p m c cX1_mixInto 4 s args lw_g RX1) (hF : 0 ≤ R.frames) (hL : 0 ≤ R.locals)  {v : Int64} (h : fX22_mixInto N S l1 = some v) (kr : ∀ (H : Heap) (locs : List Loc) (ls : Array Slot) (pc : Nat), decode cX1_mixInto pc = .ok (.lreturn, 1) → wg LX G S s H locs → W p l e R s m args below meth c H locs 0 0 Q (F0 m pc ls [.long v])) : ∀ (H : Heap) (locs : List Loc) (ls : Array Slot), wg LX G S s H locs → lv_has ls 4 [(0, .ref (ad G 22)), (1, .long l1)] → W p l e R s m args below meth c H locs 0 0 Q (F0 m 0 ls []) := by
  have hx := hC.1
  have hb := hC.2.1
  intro H locs ls hW hl
  unfold fX22_mixInto at h
  refine lv_iconst (v := 0) hx hb dX1_mixInto_0 (by decide) ?_
  refine lv_istore_n (lv' := [(3, .int 0), (0, .ref (ad G 22)), (1, .long l1)]) hx hb dX1_mixInto_1 rfl hl (by decide) rfl (fun ls hl => ?_)
  obtain ⟨t5, e6, h⟩ := bd h
  refine wX22_mixInto_L2 hC hF hL  (fun H locs ls hW hl => ?_) _ _ _ e6 _ _ _ hW (lv_sub hl [1, 2, 0] rfl)
  refine lv_lload_n hx hb dX1_mixInto_30 rfl (lv_at hl 0 rfl) ?_
  cases h
  exact kr _ _ _ _ dX1_mixInto_31 hW
theorem ctX22_mixInto {N : Nat} {S : St} {l1 : Int64}  {v : Int64} (h : fX22_mixInto N S l1 = some v) : Met l yX1_mixInto (wm yX1_mixInto cX1_mixInto 4 (some .long)) (rmx 0 0) (pcm LX G S [.ref (ad G 22), .long l1]) (qcL LX G S v) 0 0 G.2.2.2 :=
  x_enter (own := RX1) rfl rfl (Nat.le_of_ble_eq_true rfl) (fun p e s m below meth c ls hC hr hk hW hl => wX22_mixInto hC (Nat.le_refl _) (Nat.le_refl _)  h (fun H locs ls pc hd hW => x_retl hC hr hk hW hd) _ _ _ hW hl)
def fX1_mixInto_L28 (N : Nat) (S : St) (x3 : Int32) : Nat → Int64 → Int32 → Option (Int64)
  | 0, _, _ => none
  | n + 1, l1, x4 =>
    gd (inb x3 6) <|
    if (S.1 9 (Int32.toNatClampNeg x3)) ≤ x4 then
      some l1
    else
      gd (inb x3 6) <|
      gd (inb x4 40) <|
      nx ((31 * l1) + (Int32.toInt64 (S.1 (3 + Int32.toNatClampNeg x3) (Int32.toNatClampNeg x4)))) fun y9 =>
      fX1_mixInto_L28 N S x3 n y9 (x4 + 1)
set_option maxHeartbeats 4000000 in
set_option maxRecDepth 100000 in
theorem wX1_mixInto_L28 {N : Nat} {S : St} {x3 : Int32} (hC : CallFix p m c cX6_mixInto 5 s args lw_g RX6) (hF : 0 ≤ R.frames) (hL : 0 ≤ R.locals)  {t : Int64} (kx : ∀ (H : Heap) (locs : List Loc) (ls : Array Slot), wg LX G S s H locs → lv_has ls 5 [(0, .ref (ad G 1)), (1, .long t), (3, .int x3)] → W p l e R s m args below meth c H locs 0 0 Q (F0 m 62 ls [])) : ∀ (n : Nat) (l1 : Int64) (x4 : Int32), fX1_mixInto_L28 N S x3 n l1 x4 = some t → ∀ (H : Heap) (locs : List Loc) (ls : Array Slot), wg LX G S s H locs → lv_has ls 5 [(0, .ref (ad G 1)), (1, .long l1), (3, .int x3), (4, .int x4)] → W p l e R s m args below meth c H locs 0 0 Q (F0 m 28 ls []) := by
  have hx := hC.1
  have hb := hC.2.1
  intro n
  induction n with
  | zero =>
    intro _ _ h
    cases h
  | succ n ih =>
    intro l1 x4 h H locs ls hW hl
    rw [fX1_mixInto_L28] at h
    refine lv_iload hx hb dX6_mixInto_28 (lv_at hl 3 rfl) ?_
    refine lv_aload_n hx hb dX6_mixInto_30 rfl (lv_at hl 0 rfl) ?_
    refine gX1_1 hC hW dX6_mixInto_31 ?_
    refine lv_iload_n hx hb dX6_mixInto_34 rfl (lv_at hl 2 rfl) ?_
    obtain ⟨g5, h⟩ := gd_some h
    refine x_iald hC hW aX9 g5 dX6_mixInto_35 ?_
    refine lv_icmp_ge (tgt := 62) hx hb dX6_mixInto_36 (by decide) (fun q6 => ?_) (fun q6 => ?_)
    · have h := it_p q6 h
      cases h
      exact kx _ _ _ hW (lv_sub hl [0, 1, 2] rfl)
    · have h := it_n q6 h
      refine lv_ldc2 (v := 31) hx hb hC.2.2.2.1 (hC.2.2.2.2 _ kl_X6_34) dX6_mixInto_39 ?_
      refine lv_lload_n hx hb dX6_mixInto_42 rfl (lv_at hl 1 rfl) ?_
      refine lv_lmul hx hb dX6_mixInto_43 ?_
      refine lv_aload_n hx hb dX6_mixInto_44 rfl (lv_at hl 0 rfl) ?_
      refine gX1_0 hC hW dX6_mixInto_45 ?_
      refine lv_iload_n hx hb dX6_mixInto_48 rfl (lv_at hl 2 rfl) ?_
      obtain ⟨g7, h⟩ := gd_some h
      refine x_aald hC hW oX2 g7 dX6_mixInto_49 ?_
      refine lv_iload hx hb dX6_mixInto_50 (lv_at hl 3 rfl) ?_
      obtain ⟨g8, h⟩ := gd_some h
      refine x_iald hC hW (aX_r (inb_lt g7)) g8 dX6_mixInto_52 ?_
      refine lv_i2l (v := Int32.toInt64 (S.1 (3 + Int32.toNatClampNeg x3) (Int32.toNatClampNeg x4))) hx hb dX6_mixInto_53 rfl ?_
      refine lv_ladd hx hb dX6_mixInto_54 ?_
      obtain ⟨y9, e10, h⟩ := nx_some h
      refine x_topl e10 ?_
      refine lv_lstore_n (lv' := [(1, .long y9), (0, .ref (ad G 1)), (3, .int x3), (4, .int x4)]) hx hb dX6_mixInto_55 rfl hl (by decide) rfl (fun ls hl => ?_)
      refine lv_iinc (v := x4 + 1) (lv' := [(4, .int (x4 + 1)), (1, .long y9), (0, .ref (ad G 1)), (3, .int x3)]) (k := 3) hx hb dX6_mixInto_56 hl rfl rfl (by decide) rfl (fun ls hl => ?_)
      refine lv_goto (tgt := 28) hx hb dX6_mixInto_59 (by decide) ?_
      exact ih _ _ h _ _ _ hW (lv_sub hl [2, 1, 3, 0] rfl)
def fX1_mixInto_L2 (N : Nat) (S : St)  : Nat → Int64 → Int32 → Option (Int64)
  | 0, _, _ => none
  | n + 1, l1, x3 =>
    if 6 ≤ x3 then
      some l1
    else
      gd (inb x3 6) <|
      nx ((31 * l1) + (Int32.toInt64 (S.1 9 (Int32.toNatClampNeg x3)))) fun y3 =>
      Option.bind (fX1_mixInto_L28 N S x3 N y3 0) fun t11 =>
      fX1_mixInto_L2 N S n t11 (x3 + 1)
set_option maxHeartbeats 4000000 in
set_option maxRecDepth 100000 in
theorem wX1_mixInto_L2 {N : Nat} {S : St}  (hC : CallFix p m c cX6_mixInto 5 s args lw_g RX6) (hF : 0 ≤ R.frames) (hL : 0 ≤ R.locals)  {t : Int64} (kx : ∀ (H : Heap) (locs : List Loc) (ls : Array Slot), wg LX G S s H locs → lv_has ls 5 [(1, .long t)] → W p l e R s m args below meth c H locs 0 0 Q (F0 m 68 ls [])) : ∀ (n : Nat) (l1 : Int64) (x3 : Int32), fX1_mixInto_L2 N S  n l1 x3 = some t → ∀ (H : Heap) (locs : List Loc) (ls : Array Slot), wg LX G S s H locs → lv_has ls 5 [(0, .ref (ad G 1)), (1, .long l1), (3, .int x3)] → W p l e R s m args below meth c H locs 0 0 Q (F0 m 2 ls []) := by
  have hx := hC.1
  have hb := hC.2.1
  intro n
  induction n with
  | zero =>
    intro _ _ h
    cases h
  | succ n ih =>
    intro l1 x3 h H locs ls hW hl
    rw [fX1_mixInto_L2] at h
    refine lv_iload_n hx hb dX6_mixInto_2 rfl (lv_at hl 2 rfl) ?_
    refine lv_aload_n hx hb dX6_mixInto_3 rfl (lv_at hl 0 rfl) ?_
    refine gX1_1 hC hW dX6_mixInto_4 ?_
    refine x_alen (v := 6) hC hW aX9 rfl dX6_mixInto_7 ?_
    refine lv_icmp_ge (tgt := 68) hx hb dX6_mixInto_8 (by decide) (fun q1 => ?_) (fun q1 => ?_)
    · have h := it_p q1 h
      cases h
      exact kx _ _ _ hW (lv_sub hl [1] rfl)
    · have h := it_n q1 h
      refine lv_ldc2 (v := 31) hx hb hC.2.2.2.1 (hC.2.2.2.2 _ kl_X6_34) dX6_mixInto_11 ?_
      refine lv_lload_n hx hb dX6_mixInto_14 rfl (lv_at hl 1 rfl) ?_
      refine lv_lmul hx hb dX6_mixInto_15 ?_
      refine lv_aload_n hx hb dX6_mixInto_16 rfl (lv_at hl 0 rfl) ?_
      refine gX1_1 hC hW dX6_mixInto_17 ?_
      refine lv_iload_n hx hb dX6_mixInto_20 rfl (lv_at hl 2 rfl) ?_
      obtain ⟨g2, h⟩ := gd_some h
      refine x_iald hC hW aX9 g2 dX6_mixInto_21 ?_
      refine lv_i2l (v := Int32.toInt64 (S.1 9 (Int32.toNatClampNeg x3))) hx hb dX6_mixInto_22 rfl ?_
      refine lv_ladd hx hb dX6_mixInto_23 ?_
      obtain ⟨y3, e4, h⟩ := nx_some h
      refine x_topl e4 ?_
      refine lv_lstore_n (lv' := [(1, .long y3), (0, .ref (ad G 1)), (3, .int x3)]) hx hb dX6_mixInto_24 rfl hl (by decide) rfl (fun ls hl => ?_)
      refine lv_iconst (v := 0) hx hb dX6_mixInto_25 (by decide) ?_
      refine lv_istore (lv' := [(4, .int 0), (1, .long y3), (0, .ref (ad G 1)), (3, .int x3)]) hx hb dX6_mixInto_26 hl (by decide) rfl (fun ls hl => ?_)
      obtain ⟨t11, e12, h⟩ := bd h
      refine wX1_mixInto_L28 hC hF hL  (fun H locs ls hW hl => ?_) _ _ _ e12 _ _ _ hW (lv_sub hl [2, 1, 3, 0] rfl)
      refine lv_iinc (v := x3 + 1) (lv' := [(3, .int (x3 + 1)), (0, .ref (ad G 1)), (1, .long t11)]) (k := 2) hx hb dX6_mixInto_62 hl rfl rfl (by decide) rfl (fun ls hl => ?_)
      refine lv_goto (tgt := 2) hx hb dX6_mixInto_65 (by decide) ?_
      exact ih _ _ h _ _ _ hW (lv_sub hl [1, 2, 0] rfl)
def fX1_mixInto (N : Nat) (S : St) (l1 : Int64) : Option (Int64) :=
  Option.bind (fX1_mixInto_L2 N S N l1 0) fun t13 =>
  some t13
set_option maxHeartbeats 4000000 in
set_option maxRecDepth 100000 in
theorem wX1_mixInto {N : Nat} {S : St} {l1 : Int64} (hC : CallFix p m c cX6_mixInto 5 s args lw_g RX6) (hF : 0 ≤ R.frames) (hL : 0 ≤ R.locals)  {v : Int64} (h : fX1_mixInto N S l1 = some v) (kr : ∀ (H : Heap) (locs : List Loc) (ls : Array Slot) (pc : Nat), decode cX6_mixInto pc = .ok (.lreturn, 1) → wg LX G S s H locs → W p l e R s m args below meth c H locs 0 0 Q (F0 m pc ls [.long v])) : ∀ (H : Heap) (locs : List Loc) (ls : Array Slot), wg LX G S s H locs → lv_has ls 5 [(0, .ref (ad G 1)), (1, .long l1)] → W p l e R s m args below meth c H locs 0 0 Q (F0 m 0 ls []) := by
  have hx := hC.1
  have hb := hC.2.1
  intro H locs ls hW hl
  unfold fX1_mixInto at h
  refine lv_iconst (v := 0) hx hb dX6_mixInto_0 (by decide) ?_
  refine lv_istore_n (lv' := [(3, .int 0), (0, .ref (ad G 1)), (1, .long l1)]) hx hb dX6_mixInto_1 rfl hl (by decide) rfl (fun ls hl => ?_)
  obtain ⟨t13, e14, h⟩ := bd h
  refine wX1_mixInto_L2 hC hF hL  (fun H locs ls hW hl => ?_) _ _ _ e14 _ _ _ hW (lv_sub hl [1, 2, 0] rfl)
  refine lv_lload_n hx hb dX6_mixInto_68 rfl (lv_at hl 0 rfl) ?_
  cases h
  exact kr _ _ _ _ dX6_mixInto_69 hW
theorem ctX1_mixInto {N : Nat} {S : St} {l1 : Int64}  {v : Int64} (h : fX1_mixInto N S l1 = some v) : Met l yX6_mixInto (wm yX6_mixInto cX6_mixInto 5 (some .long)) (rmx 0 0) (pcm LX G S [.ref (ad G 1), .long l1]) (qcL LX G S v) 0 0 G.2.2.2 :=
  x_enter (own := RX6) rfl rfl (Nat.le_of_ble_eq_true rfl) (fun p e s m below meth c ls hC hr hk hW hl => wX1_mixInto hC (Nat.le_refl _) (Nat.le_refl _)  h (fun H locs ls pc hd hW => x_retl hC hr hk hW hd) _ _ _ hW hl)
def fX10_mixInto_L28 (N : Nat) (S : St) (x3 : Int32) : Nat → Int64 → Int32 → Option (Int64)
  | 0, _, _ => none
  | n + 1, l1, x4 =>
    gd (inb x3 4) <|
    if (S.1 16 (Int32.toNatClampNeg x3)) ≤ x4 then
      some l1
    else
      gd (inb x3 4) <|
      gd (inb x4 60) <|
      nx ((31 * l1) + (Int32.toInt64 (S.1 (12 + Int32.toNatClampNeg x3) (Int32.toNatClampNeg x4)))) fun y9 =>
      fX10_mixInto_L28 N S x3 n y9 (x4 + 1)
set_option maxHeartbeats 4000000 in
set_option maxRecDepth 100000 in
theorem wX10_mixInto_L28 {N : Nat} {S : St} {x3 : Int32} (hC : CallFix p m c cX6_mixInto 5 s args lw_g RX6) (hF : 0 ≤ R.frames) (hL : 0 ≤ R.locals)  {t : Int64} (kx : ∀ (H : Heap) (locs : List Loc) (ls : Array Slot), wg LX G S s H locs → lv_has ls 5 [(0, .ref (ad G 10)), (1, .long t), (3, .int x3)] → W p l e R s m args below meth c H locs 0 0 Q (F0 m 62 ls [])) : ∀ (n : Nat) (l1 : Int64) (x4 : Int32), fX10_mixInto_L28 N S x3 n l1 x4 = some t → ∀ (H : Heap) (locs : List Loc) (ls : Array Slot), wg LX G S s H locs → lv_has ls 5 [(0, .ref (ad G 10)), (1, .long l1), (3, .int x3), (4, .int x4)] → W p l e R s m args below meth c H locs 0 0 Q (F0 m 28 ls []) := by
  have hx := hC.1
  have hb := hC.2.1
  intro n
  induction n with
  | zero =>
    intro _ _ h
    cases h
  | succ n ih =>
    intro l1 x4 h H locs ls hW hl
    rw [fX10_mixInto_L28] at h
    refine lv_iload hx hb dX6_mixInto_28 (lv_at hl 3 rfl) ?_
    refine lv_aload_n hx hb dX6_mixInto_30 rfl (lv_at hl 0 rfl) ?_
    refine gX10_1 hC hW dX6_mixInto_31 ?_
    refine lv_iload_n hx hb dX6_mixInto_34 rfl (lv_at hl 2 rfl) ?_
    obtain ⟨g5, h⟩ := gd_some h
    refine x_iald hC hW aX16 g5 dX6_mixInto_35 ?_
    refine lv_icmp_ge (tgt := 62) hx hb dX6_mixInto_36 (by decide) (fun q6 => ?_) (fun q6 => ?_)
    · have h := it_p q6 h
      cases h
      exact kx _ _ _ hW (lv_sub hl [0, 1, 2] rfl)
    · have h := it_n q6 h
      refine lv_ldc2 (v := 31) hx hb hC.2.2.2.1 (hC.2.2.2.2 _ kl_X6_34) dX6_mixInto_39 ?_
      refine lv_lload_n hx hb dX6_mixInto_42 rfl (lv_at hl 1 rfl) ?_
      refine lv_lmul hx hb dX6_mixInto_43 ?_
      refine lv_aload_n hx hb dX6_mixInto_44 rfl (lv_at hl 0 rfl) ?_
      refine gX10_0 hC hW dX6_mixInto_45 ?_
      refine lv_iload_n hx hb dX6_mixInto_48 rfl (lv_at hl 2 rfl) ?_
      obtain ⟨g7, h⟩ := gd_some h
      refine x_aald hC hW oX11 g7 dX6_mixInto_49 ?_
      refine lv_iload hx hb dX6_mixInto_50 (lv_at hl 3 rfl) ?_
      obtain ⟨g8, h⟩ := gd_some h
      refine x_iald hC hW (aX_t (inb_lt g7)) g8 dX6_mixInto_52 ?_
      refine lv_i2l (v := Int32.toInt64 (S.1 (12 + Int32.toNatClampNeg x3) (Int32.toNatClampNeg x4))) hx hb dX6_mixInto_53 rfl ?_
      refine lv_ladd hx hb dX6_mixInto_54 ?_
      obtain ⟨y9, e10, h⟩ := nx_some h
      refine x_topl e10 ?_
      refine lv_lstore_n (lv' := [(1, .long y9), (0, .ref (ad G 10)), (3, .int x3), (4, .int x4)]) hx hb dX6_mixInto_55 rfl hl (by decide) rfl (fun ls hl => ?_)
      refine lv_iinc (v := x4 + 1) (lv' := [(4, .int (x4 + 1)), (1, .long y9), (0, .ref (ad G 10)), (3, .int x3)]) (k := 3) hx hb dX6_mixInto_56 hl rfl rfl (by decide) rfl (fun ls hl => ?_)
      refine lv_goto (tgt := 28) hx hb dX6_mixInto_59 (by decide) ?_
      exact ih _ _ h _ _ _ hW (lv_sub hl [2, 1, 3, 0] rfl)
def fX10_mixInto_L2 (N : Nat) (S : St)  : Nat → Int64 → Int32 → Option (Int64)
  | 0, _, _ => none
  | n + 1, l1, x3 =>
    if 4 ≤ x3 then
      some l1
    else
      gd (inb x3 4) <|
      nx ((31 * l1) + (Int32.toInt64 (S.1 16 (Int32.toNatClampNeg x3)))) fun y3 =>
      Option.bind (fX10_mixInto_L28 N S x3 N y3 0) fun t11 =>
      fX10_mixInto_L2 N S n t11 (x3 + 1)
set_option maxHeartbeats 4000000 in
set_option maxRecDepth 100000 in
theorem wX10_mixInto_L2 {N : Nat} {S : St}  (hC : CallFix p m c cX6_mixInto 5 s args lw_g RX6) (hF : 0 ≤ R.frames) (hL : 0 ≤ R.locals)  {t : Int64} (kx : ∀ (H : Heap) (locs : List Loc) (ls : Array Slot), wg LX G S s H locs → lv_has ls 5 [(1, .long t)] → W p l e R s m args below meth c H locs 0 0 Q (F0 m 68 ls [])) : ∀ (n : Nat) (l1 : Int64) (x3 : Int32), fX10_mixInto_L2 N S  n l1 x3 = some t → ∀ (H : Heap) (locs : List Loc) (ls : Array Slot), wg LX G S s H locs → lv_has ls 5 [(0, .ref (ad G 10)), (1, .long l1), (3, .int x3)] → W p l e R s m args below meth c H locs 0 0 Q (F0 m 2 ls []) := by
  have hx := hC.1
  have hb := hC.2.1
  intro n
  induction n with
  | zero =>
    intro _ _ h
    cases h
  | succ n ih =>
    intro l1 x3 h H locs ls hW hl
    rw [fX10_mixInto_L2] at h
    refine lv_iload_n hx hb dX6_mixInto_2 rfl (lv_at hl 2 rfl) ?_
    refine lv_aload_n hx hb dX6_mixInto_3 rfl (lv_at hl 0 rfl) ?_
    refine gX10_1 hC hW dX6_mixInto_4 ?_
    refine x_alen (v := 4) hC hW aX16 rfl dX6_mixInto_7 ?_
    refine lv_icmp_ge (tgt := 68) hx hb dX6_mixInto_8 (by decide) (fun q1 => ?_) (fun q1 => ?_)
    · have h := it_p q1 h
      cases h
      exact kx _ _ _ hW (lv_sub hl [1] rfl)
    · have h := it_n q1 h
      refine lv_ldc2 (v := 31) hx hb hC.2.2.2.1 (hC.2.2.2.2 _ kl_X6_34) dX6_mixInto_11 ?_
      refine lv_lload_n hx hb dX6_mixInto_14 rfl (lv_at hl 1 rfl) ?_
      refine lv_lmul hx hb dX6_mixInto_15 ?_
      refine lv_aload_n hx hb dX6_mixInto_16 rfl (lv_at hl 0 rfl) ?_
      refine gX10_1 hC hW dX6_mixInto_17 ?_
      refine lv_iload_n hx hb dX6_mixInto_20 rfl (lv_at hl 2 rfl) ?_
      obtain ⟨g2, h⟩ := gd_some h
      refine x_iald hC hW aX16 g2 dX6_mixInto_21 ?_
      refine lv_i2l (v := Int32.toInt64 (S.1 16 (Int32.toNatClampNeg x3))) hx hb dX6_mixInto_22 rfl ?_
      refine lv_ladd hx hb dX6_mixInto_23 ?_
      obtain ⟨y3, e4, h⟩ := nx_some h
      refine x_topl e4 ?_
      refine lv_lstore_n (lv' := [(1, .long y3), (0, .ref (ad G 10)), (3, .int x3)]) hx hb dX6_mixInto_24 rfl hl (by decide) rfl (fun ls hl => ?_)
      refine lv_iconst (v := 0) hx hb dX6_mixInto_25 (by decide) ?_
      refine lv_istore (lv' := [(4, .int 0), (1, .long y3), (0, .ref (ad G 10)), (3, .int x3)]) hx hb dX6_mixInto_26 hl (by decide) rfl (fun ls hl => ?_)
      obtain ⟨t11, e12, h⟩ := bd h
      refine wX10_mixInto_L28 hC hF hL  (fun H locs ls hW hl => ?_) _ _ _ e12 _ _ _ hW (lv_sub hl [2, 1, 3, 0] rfl)
      refine lv_iinc (v := x3 + 1) (lv' := [(3, .int (x3 + 1)), (0, .ref (ad G 10)), (1, .long t11)]) (k := 2) hx hb dX6_mixInto_62 hl rfl rfl (by decide) rfl (fun ls hl => ?_)
      refine lv_goto (tgt := 2) hx hb dX6_mixInto_65 (by decide) ?_
      exact ih _ _ h _ _ _ hW (lv_sub hl [1, 2, 0] rfl)
def fX10_mixInto (N : Nat) (S : St) (l1 : Int64) : Option (Int64) :=
  Option.bind (fX10_mixInto_L2 N S N l1 0) fun t13 =>
  some t13
set_option maxHeartbeats 4000000 in
set_option maxRecDepth 100000 in
theorem wX10_mixInto {N : Nat} {S : St} {l1 : Int64} (hC : CallFix p m c cX6_mixInto 5 s args lw_g RX6) (hF : 0 ≤ R.frames) (hL : 0 ≤ R.locals)  {v : Int64} (h : fX10_mixInto N S l1 = some v) (kr : ∀ (H : Heap) (locs : List Loc) (ls : Array Slot) (pc : Nat), decode cX6_mixInto pc = .ok (.lreturn, 1) → wg LX G S s H locs → W p l e R s m args below meth c H locs 0 0 Q (F0 m pc ls [.long v])) : ∀ (H : Heap) (locs : List Loc) (ls : Array Slot), wg LX G S s H locs → lv_has ls 5 [(0, .ref (ad G 10)), (1, .long l1)] → W p l e R s m args below meth c H locs 0 0 Q (F0 m 0 ls []) := by
  have hx := hC.1
  have hb := hC.2.1
  intro H locs ls hW hl
  unfold fX10_mixInto at h
  refine lv_iconst (v := 0) hx hb dX6_mixInto_0 (by decide) ?_
  refine lv_istore_n (lv' := [(3, .int 0), (0, .ref (ad G 10)), (1, .long l1)]) hx hb dX6_mixInto_1 rfl hl (by decide) rfl (fun ls hl => ?_)
  obtain ⟨t13, e14, h⟩ := bd h
  refine wX10_mixInto_L2 hC hF hL  (fun H locs ls hW hl => ?_) _ _ _ e14 _ _ _ hW (lv_sub hl [1, 2, 0] rfl)
  refine lv_lload_n hx hb dX6_mixInto_68 rfl (lv_at hl 0 rfl) ?_
  cases h
  exact kr _ _ _ _ dX6_mixInto_69 hW
theorem ctX10_mixInto {N : Nat} {S : St} {l1 : Int64}  {v : Int64} (h : fX10_mixInto N S l1 = some v) : Met l yX6_mixInto (wm yX6_mixInto cX6_mixInto 5 (some .long)) (rmx 0 0) (pcm LX G S [.ref (ad G 10), .long l1]) (qcL LX G S v) 0 0 G.2.2.2 :=
  x_enter (own := RX6) rfl rfl (Nat.le_of_ble_eq_true rfl) (fun p e s m below meth c ls hC hr hk hW hl => wX10_mixInto hC (Nat.le_refl _) (Nat.le_refl _)  h (fun H locs ls pc hd hW => x_retl hC hr hk hW hd) _ _ _ hW hl)
def fX0_digest_L6 (N : Nat) (S : St)  : Nat → Int64 → Int32 → Option (Int64)
  | 0, _, _ => none
  | n + 1, l1, x3 =>
    if 4 < x3 then
      some l1
    else
      Option.bind (fX0_there N S x3) fun t2 =>
      nx ((31 * l1) + (Int32.toInt64 t2)) fun y4 =>
      fX0_digest_L6 N S n y4 (x3 + 1)
set_option maxHeartbeats 4000000 in
set_option maxRecDepth 100000 in
theorem wX0_digest_L6 {N : Nat} {S : St}  (hC : CallFix p m c cX9_digest 4 s args lw_g RX9) (hF : 3 ≤ R.frames) (hL : 68 ≤ R.locals)  {t : Int64} (kx : ∀ (H : Heap) (locs : List Loc) (ls : Array Slot), wg LX G S s H locs → lv_has ls 4 [(0, .ref (ad G 0)), (1, .long t)] → W p l e R s m args below meth c H locs 0 0 Q (F0 m 30 ls [])) : ∀ (n : Nat) (l1 : Int64) (x3 : Int32), fX0_digest_L6 N S  n l1 x3 = some t → ∀ (H : Heap) (locs : List Loc) (ls : Array Slot), wg LX G S s H locs → lv_has ls 4 [(0, .ref (ad G 0)), (1, .long l1), (3, .int x3)] → W p l e R s m args below meth c H locs 0 0 Q (F0 m 6 ls []) := by
  have hx := hC.1
  have hb := hC.2.1
  intro n
  induction n with
  | zero =>
    intro _ _ h
    cases h
  | succ n ih =>
    intro l1 x3 h H locs ls hW hl
    rw [fX0_digest_L6] at h
    refine lv_iload_n hx hb dX9_digest_6 rfl (lv_at hl 2 rfl) ?_
    refine lv_iconst (v := 4) hx hb dX9_digest_7 (by decide) ?_
    refine lv_icmp_gt (tgt := 30) hx hb dX9_digest_8 (by decide) (fun q1 => ?_) (fun q1 => ?_)
    · have h := it_p q1 h
      cases h
      exact kx _ _ _ hW (lv_sub hl [0, 1] rfl)
    · have h := it_n q1 h
      refine lv_ldc2 (v := 31) hx hb hC.2.2.2.1 (hC.2.2.2.2 _ kl_X9_326) dX9_digest_11 ?_
      refine lv_lload_n hx hb dX9_digest_14 rfl (lv_at hl 1 rfl) ?_
      refine lv_lmul hx hb dX9_digest_15 ?_
      refine lv_aload_n hx hb dX9_digest_16 rfl (lv_at hl 0 rfl) ?_
      refine lv_iload_n hx hb dX9_digest_17 rfl (lv_at hl 2 rfl) ?_
      obtain ⟨t2, e3, h⟩ := bd h
      refine x_goi (x_rv (rest := [.long (31 * l1)]) hC hW (ctX0_there e3) (cwV_g hC.2.2.2.2 ml_X9_328 mi_X9_there md_X9_there ⟨(Nat.le_trans (Nat.le_of_ble_eq_true rfl) hF), (Nat.le_trans (Nat.le_of_ble_eq_true rfl) hL)⟩) (rcX0 hW) rfl hl.1 rfl (Nat.le_of_ble_eq_true rfl) dX9_digest_18) hW (fun H locs hW => ?_)
      refine lv_i2l (v := Int32.toInt64 t2) hx hb dX9_digest_21 rfl ?_
      refine lv_ladd hx hb dX9_digest_22 ?_
      obtain ⟨y4, e5, h⟩ := nx_some h
      refine x_topl e5 ?_
      refine lv_lstore_n (lv' := [(1, .long y4), (0, .ref (ad G 0)), (3, .int x3)]) hx hb dX9_digest_23 rfl hl (by decide) rfl (fun ls hl => ?_)
      refine lv_iinc (v := x3 + 1) (lv' := [(3, .int (x3 + 1)), (1, .long y4), (0, .ref (ad G 0))]) (k := 2) hx hb dX9_digest_24 hl rfl rfl (by decide) rfl (fun ls hl => ?_)
      refine lv_goto (tgt := 6) hx hb dX9_digest_27 (by decide) ?_
      exact ih _ _ h _ _ _ hW (lv_sub hl [2, 1, 0] rfl)
def fX0_digest_L39 (N : Nat) (S : St)  : Nat → Int64 → Int32 → Option (Int64)
  | 0, _, _ => none
  | n + 1, l1, x3 =>
    if 12 ≤ x3 then
      some l1
    else
      Option.bind (fX25_kindOf S x3) fun t11 =>
      nx ((31 * l1) + (Int32.toInt64 t11)) fun y13 =>
      Option.bind (fX25_isThere S x3) fun t15 =>
      Option.bind (α := Int64) (
        if t15 = 0 then
          some y13
        else
          Option.bind (fX25_tells N S x3) fun t21 =>
          nx ((31 * y13) + (Int32.toInt64 t21)) fun y23 =>
          Option.bind (fX33_howMany N S x3) fun t25 =>
          nx ((31 * y23) + (Int32.toInt64 t25)) fun y27 =>
          some y27
      ) fun t18 =>
      fX0_digest_L39 N S n t18 (x3 + 1)
set_option maxHeartbeats 4000000 in
set_option maxRecDepth 100000 in
theorem wX0_digest_L39 {N : Nat} {S : St}  (hC : CallFix p m c cX9_digest 4 s args lw_g RX9) (hF : 3 ≤ R.frames) (hL : 68 ≤ R.locals)  {t : Int64} (kx : ∀ (H : Heap) (locs : List Loc) (ls : Array Slot), wg LX G S s H locs → lv_has ls 4 [(0, .ref (ad G 0)), (1, .long t)] → W p l e R s m args below meth c H locs 0 0 Q (F0 m 110 ls [])) : ∀ (n : Nat) (l1 : Int64) (x3 : Int32), fX0_digest_L39 N S  n l1 x3 = some t → ∀ (H : Heap) (locs : List Loc) (ls : Array Slot), wg LX G S s H locs → lv_has ls 4 [(0, .ref (ad G 0)), (1, .long l1), (3, .int x3)] → W p l e R s m args below meth c H locs 0 0 Q (F0 m 39 ls []) := by
  have hx := hC.1
  have hb := hC.2.1
  intro n
  induction n with
  | zero =>
    intro _ _ h
    cases h
  | succ n ih =>
    intro l1 x3 h H locs ls hW hl
    rw [fX0_digest_L39] at h
    refine lv_iload_n hx hb dX9_digest_39 rfl (lv_at hl 2 rfl) ?_
    refine lv_bipush (v := 12) hx hb dX9_digest_40 (by decide) ?_
    refine lv_icmp_ge (tgt := 110) hx hb dX9_digest_42 (by decide) (fun q10 => ?_) (fun q10 => ?_)
    · have h := it_p q10 h
      cases h
      exact kx _ _ _ hW (lv_sub hl [0, 1] rfl)
    · have h := it_n q10 h
      refine lv_ldc2 (v := 31) hx hb hC.2.2.2.1 (hC.2.2.2.2 _ kl_X9_326) dX9_digest_45 ?_
      refine lv_lload_n hx hb dX9_digest_48 rfl (lv_at hl 1 rfl) ?_
      refine lv_lmul hx hb dX9_digest_49 ?_
      refine lv_aload_n hx hb dX9_digest_50 rfl (lv_at hl 0 rfl) ?_
      refine gX0_4 hC hW dX9_digest_51 ?_
      refine lv_iload_n hx hb dX9_digest_54 rfl (lv_at hl 2 rfl) ?_
      obtain ⟨t11, e12, h⟩ := bd h
      refine x_goi (x_rv (rest := [.long (31 * l1)]) hC hW (ctX25_kindOf e12) (cwV_g hC.2.2.2.2 ml_X9_202 mi_X0_kindOf md_X0_kindOf ⟨(Nat.le_trans (Nat.le_of_ble_eq_true rfl) hF), (Nat.le_trans (Nat.le_of_ble_eq_true rfl) hL)⟩) (rcX25 hW) rfl hl.1 rfl (Nat.le_of_ble_eq_true rfl) dX9_digest_55) hW (fun H locs hW => ?_)
      refine lv_i2l (v := Int32.toInt64 t11) hx hb dX9_digest_58 rfl ?_
      refine lv_ladd hx hb dX9_digest_59 ?_
      obtain ⟨y13, e14, h⟩ := nx_some h
      refine x_topl e14 ?_
      refine lv_lstore_n (lv' := [(1, .long y13), (0, .ref (ad G 0)), (3, .int x3)]) hx hb dX9_digest_60 rfl hl (by decide) rfl (fun ls hl => ?_)
      refine lv_aload_n hx hb dX9_digest_61 rfl (lv_at hl 1 rfl) ?_
      refine gX0_4 hC hW dX9_digest_62 ?_
      refine lv_iload_n hx hb dX9_digest_65 rfl (lv_at hl 2 rfl) ?_
      obtain ⟨t15, e16, h⟩ := bd h
      refine x_goi (x_rv (rest := []) hC hW (ctX25_isThere e16) (cwV_g hC.2.2.2.2 ml_X9_273 mi_X0_isThere md_X0_isThere ⟨(Nat.le_trans (Nat.le_of_ble_eq_true rfl) hF), (Nat.le_trans (Nat.le_of_ble_eq_true rfl) hL)⟩) (rcX25 hW) rfl hl.1 rfl (Nat.le_of_ble_eq_true rfl) dX9_digest_66) hW (fun H locs hW => ?_)
      obtain ⟨t18, e19, h⟩ := bd h
      have K17 : ∀ (H : Heap) (locs : List Loc) (ls : Array Slot), wg LX G S s H locs → lv_has ls 4 [(0, .ref (ad G 0)), (1, .long t18), (3, .int x3)] → W p l e R s m args below meth c H locs 0 0 Q (F0 m 104 ls []) := by
        intro H locs ls hW hl
        refine lv_iinc (v := x3 + 1) (lv' := [(3, .int (x3 + 1)), (0, .ref (ad G 0)), (1, .long t18)]) (k := 2) hx hb dX9_digest_104 hl rfl rfl (by decide) rfl (fun ls hl => ?_)
        refine lv_goto (tgt := 39) hx hb dX9_digest_107 (by decide) ?_
        exact ih _ _ h _ _ _ hW (lv_sub hl [1, 2, 0] rfl)
      clear h
      have h := e19
      clear e19
      refine lv_if_eq (tgt := 104) hx hb dX9_digest_69 (by decide) (fun q20 => ?_) (fun q20 => ?_)
      · have h := it_p q20 h
        cases h
        exact K17 _ _ _ hW (lv_sub hl [1, 0, 2] rfl)
      · have h := it_n q20 h
        refine lv_ldc2 (v := 31) hx hb hC.2.2.2.1 (hC.2.2.2.2 _ kl_X9_326) dX9_digest_72 ?_
        refine lv_lload_n hx hb dX9_digest_75 rfl (lv_at hl 0 rfl) ?_
        refine lv_lmul hx hb dX9_digest_76 ?_
        refine lv_aload_n hx hb dX9_digest_77 rfl (lv_at hl 1 rfl) ?_
        refine gX0_4 hC hW dX9_digest_78 ?_
        refine lv_iload_n hx hb dX9_digest_81 rfl (lv_at hl 2 rfl) ?_
        obtain ⟨t21, e22, h⟩ := bd h
        refine x_goi (x_rv (rest := [.long (31 * y13)]) hC hW (ctX25_tells e22) (cwV_g hC.2.2.2.2 ml_X9_209 mi_X0_tells md_X0_tells ⟨(Nat.le_trans (Nat.le_of_ble_eq_true rfl) hF), (Nat.le_trans (Nat.le_of_ble_eq_true rfl) hL)⟩) (rcX25 hW) rfl hl.1 rfl (Nat.le_of_ble_eq_true rfl) dX9_digest_82) hW (fun H locs hW => ?_)
        refine lv_i2l (v := Int32.toInt64 t21) hx hb dX9_digest_85 rfl ?_
        refine lv_ladd hx hb dX9_digest_86 ?_
        obtain ⟨y23, e24, h⟩ := nx_some h
        refine x_topl e24 ?_
        refine lv_lstore_n (lv' := [(1, .long y23), (0, .ref (ad G 0)), (3, .int x3)]) hx hb dX9_digest_87 rfl hl (by decide) rfl (fun ls hl => ?_)
        refine lv_ldc2 (v := 31) hx hb hC.2.2.2.1 (hC.2.2.2.2 _ kl_X9_326) dX9_digest_88 ?_
        refine lv_lload_n hx hb dX9_digest_91 rfl (lv_at hl 0 rfl) ?_
        refine lv_lmul hx hb dX9_digest_92 ?_
        refine lv_aload_n hx hb dX9_digest_93 rfl (lv_at hl 1 rfl) ?_
        refine gX0_6 hC hW dX9_digest_94 ?_
        refine lv_iload_n hx hb dX9_digest_97 rfl (lv_at hl 2 rfl) ?_
        obtain ⟨t25, e26, h⟩ := bd h
        refine x_goi (x_rv (rest := [.long (31 * y23)]) hC hW (ctX33_howMany e26) (cwV_g hC.2.2.2.2 ml_X9_218 mi_X2_howMany md_X2_howMany ⟨(Nat.le_trans (Nat.le_of_ble_eq_true rfl) hF), (Nat.le_trans (Nat.le_of_ble_eq_true rfl) hL)⟩) (rcX33 hW) rfl hl.1 rfl (Nat.le_of_ble_eq_true rfl) dX9_digest_98) hW (fun H locs hW => ?_)
        refine lv_i2l (v := Int32.toInt64 t25) hx hb dX9_digest_101 rfl ?_
        refine lv_ladd hx hb dX9_digest_102 ?_
        obtain ⟨y27, e28, h⟩ := nx_some h
        refine x_topl e28 ?_
        refine lv_lstore_n (lv' := [(1, .long y27), (0, .ref (ad G 0)), (3, .int x3)]) hx hb dX9_digest_103 rfl hl (by decide) rfl (fun ls hl => ?_)
        cases h
        exact K17 _ _ _ hW (lv_sub hl [1, 0, 2] rfl)
def fX0_digest (N : Nat) (S : St)  : Option (Int64 × St) :=
  Option.bind (fX0_digest_L6 N S N 17 0) fun t6 =>
  Option.bind (fX33_lookAtFirst N S) fun t8 =>
  Option.bind (fX0_digest_L39 N t8 N t6 0) fun t29 =>
  Option.bind (fX29_mixInto N t8 t29) fun t31 =>
  Option.bind (fX22_mixInto N t8 t31) fun t33 =>
  Option.bind (fX1_mixInto N t8 t33) fun t35 =>
  Option.bind (fX10_mixInto N t8 t35) fun t37 =>
  some (t37, t8)
set_option maxHeartbeats 4000000 in
set_option maxRecDepth 100000 in
theorem wX0_digest {N : Nat} {S : St}  (hC : CallFix p m c cX9_digest 4 s args lw_g RX9) (hF : 3 ≤ R.frames) (hL : 68 ≤ R.locals)  {v : Int64} {S' : St} (h : fX0_digest N S = some (v, S')) (kr : ∀ (H : Heap) (locs : List Loc) (ls : Array Slot) (pc : Nat), decode cX9_digest pc = .ok (.lreturn, 1) → wg LX G (S') s H locs → W p l e R s m args below meth c H locs 0 0 Q (F0 m pc ls [.long v])) : ∀ (H : Heap) (locs : List Loc) (ls : Array Slot), wg LX G S s H locs → lv_has ls 4 [(0, .ref (ad G 0))] → W p l e R s m args below meth c H locs 0 0 Q (F0 m 0 ls []) := by
  have hx := hC.1
  have hb := hC.2.1
  intro H locs ls hW hl
  unfold fX0_digest at h
  refine lv_ldc2 (v := 17) hx hb hC.2.2.2.1 (hC.2.2.2.2 _ kl_X9_324) dX9_digest_0 ?_
  refine lv_lstore_n (lv' := [(1, .long 17), (0, .ref (ad G 0))]) hx hb dX9_digest_3 rfl hl (by decide) rfl (fun ls hl => ?_)
  refine lv_iconst (v := 0) hx hb dX9_digest_4 (by decide) ?_
  refine lv_istore_n (lv' := [(3, .int 0), (1, .long 17), (0, .ref (ad G 0))]) hx hb dX9_digest_5 rfl hl (by decide) rfl (fun ls hl => ?_)
  obtain ⟨t6, e7, h⟩ := bd h
  refine wX0_digest_L6 hC hF hL  (fun H locs ls hW hl => ?_) _ _ _ e7 _ _ _ hW (lv_sub hl [2, 1, 0] rfl)
  refine lv_aload_n hx hb dX9_digest_30 rfl (lv_at hl 0 rfl) ?_
  refine gX0_6 hC hW dX9_digest_31 ?_
  obtain ⟨t8, e9, h⟩ := bd h
  refine x_gov (x_rv (rest := []) hC hW (ctX33_lookAtFirst e9) (cwV_g hC.2.2.2.2 ml_X9_212 mi_X2_lookAtFirst md_X2_lookAtFirst ⟨(Nat.le_trans (Nat.le_of_ble_eq_true rfl) hF), (Nat.le_trans (Nat.le_of_ble_eq_true rfl) hL)⟩) (rcX33 hW) rfl hl.1 rfl (Nat.le_of_ble_eq_true rfl) dX9_digest_34) hW (fun H locs hW => ?_)
  refine lv_iconst (v := 0) hx hb dX9_digest_37 (by decide) ?_
  refine lv_istore_n (lv' := [(3, .int 0), (0, .ref (ad G 0)), (1, .long t6)]) hx hb dX9_digest_38 rfl hl (by decide) rfl (fun ls hl => ?_)
  obtain ⟨t29, e30, h⟩ := bd h
  refine wX0_digest_L39 hC hF hL  (fun H locs ls hW hl => ?_) _ _ _ e30 _ _ _ hW (lv_sub hl [1, 2, 0] rfl)
  refine lv_aload_n hx hb dX9_digest_110 rfl (lv_at hl 0 rfl) ?_
  refine gX0_5 hC hW dX9_digest_111 ?_
  refine lv_lload_n hx hb dX9_digest_114 rfl (lv_at hl 1 rfl) ?_
  obtain ⟨t31, e32, h⟩ := bd h
  refine x_gol (x_rv (rest := []) hC hW (ctX29_mixInto e32) (cwV_g hC.2.2.2.2 ml_X9_331 mi_X7_mixInto md_X7_mixInto ⟨(Nat.le_trans (Nat.le_of_ble_eq_true rfl) hF), (Nat.le_trans (Nat.le_of_ble_eq_true rfl) hL)⟩) (rcX29 hW) rfl hl.1 rfl (Nat.le_of_ble_eq_true rfl) dX9_digest_115) hW (fun H locs hW => ?_)
  refine lv_lstore_n (lv' := [(1, .long t31), (0, .ref (ad G 0))]) hx hb dX9_digest_118 rfl hl (by decide) rfl (fun ls hl => ?_)
  refine lv_aload_n hx hb dX9_digest_119 rfl (lv_at hl 1 rfl) ?_
  refine gX0_3 hC hW dX9_digest_120 ?_
  refine lv_lload_n hx hb dX9_digest_123 rfl (lv_at hl 0 rfl) ?_
  obtain ⟨t33, e34, h⟩ := bd h
  refine x_gol (x_rv (rest := []) hC hW (ctX22_mixInto e34) (cwV_g hC.2.2.2.2 ml_X9_335 mi_X1_mixInto md_X1_mixInto ⟨(Nat.le_trans (Nat.le_of_ble_eq_true rfl) hF), (Nat.le_trans (Nat.le_of_ble_eq_true rfl) hL)⟩) (rcX22 hW) rfl hl.1 rfl (Nat.le_of_ble_eq_true rfl) dX9_digest_124) hW (fun H locs hW => ?_)
  refine lv_lstore_n (lv' := [(1, .long t33), (0, .ref (ad G 0))]) hx hb dX9_digest_127 rfl hl (by decide) rfl (fun ls hl => ?_)
  refine lv_aload_n hx hb dX9_digest_128 rfl (lv_at hl 1 rfl) ?_
  refine gX0_0 hC hW dX9_digest_129 ?_
  refine lv_lload_n hx hb dX9_digest_132 rfl (lv_at hl 0 rfl) ?_
  obtain ⟨t35, e36, h⟩ := bd h
  refine x_gol (x_rv (rest := []) hC hW (ctX1_mixInto e36) (cwV_g hC.2.2.2.2 ml_X9_336 mi_X6_mixInto md_X6_mixInto ⟨(Nat.le_trans (Nat.le_of_ble_eq_true rfl) hF), (Nat.le_trans (Nat.le_of_ble_eq_true rfl) hL)⟩) (rcX1 hW) rfl hl.1 rfl (Nat.le_of_ble_eq_true rfl) dX9_digest_133) hW (fun H locs hW => ?_)
  refine lv_lstore_n (lv' := [(1, .long t35), (0, .ref (ad G 0))]) hx hb dX9_digest_136 rfl hl (by decide) rfl (fun ls hl => ?_)
  refine lv_aload_n hx hb dX9_digest_137 rfl (lv_at hl 1 rfl) ?_
  refine gX0_1 hC hW dX9_digest_138 ?_
  refine lv_lload_n hx hb dX9_digest_141 rfl (lv_at hl 0 rfl) ?_
  obtain ⟨t37, e38, h⟩ := bd h
  refine x_gol (x_rv (rest := []) hC hW (ctX10_mixInto e38) (cwV_g hC.2.2.2.2 ml_X9_336 mi_X6_mixInto md_X6_mixInto ⟨(Nat.le_trans (Nat.le_of_ble_eq_true rfl) hF), (Nat.le_trans (Nat.le_of_ble_eq_true rfl) hL)⟩) (rcX10 hW) rfl hl.1 rfl (Nat.le_of_ble_eq_true rfl) dX9_digest_142) hW (fun H locs hW => ?_)
  cases h
  exact kr _ _ _ _ dX9_digest_145 hW
theorem ctX0_digest {N : Nat} {S : St}   {v : Int64} {S' : St} (h : fX0_digest N S = some (v, S')) : Met l yX9_digest (wm yX9_digest cX9_digest 4 (some .long)) (rmx 3 68) (pcm LX G S [.ref (ad G 0)]) (qcL LX G S' v) 0 0 G.2.2.2 :=
  x_enter (own := RX9) rfl rfl (Nat.le_of_ble_eq_true rfl) (fun p e s m below meth c ls hC hr hk hW hl => wX0_digest hC (Nat.le_refl _) (Nat.le_refl _)  h (fun H locs ls pc hd hW => x_retl hC hr hk hW hd) _ _ _ hW hl)
def fY0_meets (S : St) (x1 : Int32) : Option (Int32 × St) :=
  nx (p1 S 0 0 x1) fun s1 =>
  gd (inb x1 6) <|
  gd (inb x1 6) <|
  nx (p1 s1 1 (Int32.toNatClampNeg x1) ((s1.1 1 (Int32.toNatClampNeg x1)) + 1)) fun s5 =>
  some ((-3), s5)
set_option maxHeartbeats 4000000 in
set_option maxRecDepth 100000 in
theorem wY0_meets {S : St} {x1 : Int32} (hC : CallFix p m c cX10_meets 2 s args lw_g RX10) (hF : 0 ≤ R.frames) (hL : 0 ≤ R.locals)  {v : Int32} {S' : St} (h : fY0_meets S x1 = some (v, S')) (kr : ∀ (H : Heap) (locs : List Loc) (ls : Array Slot) (pc : Nat), decode cX10_meets pc = .ok (.ireturn, 1) → wg LY G (S') s H locs → W p l e R s m args below meth c H locs 0 0 Q (F0 m pc ls [.int v])) : ∀ (H : Heap) (locs : List Loc) (ls : Array Slot), wg LY G S s H locs → lv_has ls 2 [(0, .ref (ad G 0)), (1, .int x1)] → W p l e R s m args below meth c H locs 0 0 Q (F0 m 0 ls []) := by
  have hx := hC.1
  have hb := hC.2.1
  intro H locs ls hW hl
  unfold fY0_meets at h
  refine lv_aload_n hx hb dX10_meets_0 rfl (lv_at hl 0 rfl) ?_
  refine lv_iload_n hx hb dX10_meets_1 rfl (lv_at hl 1 rfl) ?_
  refine pY0_0 hC hW dX10_meets_2 (fun H locs hW => ?_)
  obtain ⟨s1, e2, h⟩ := nx_some h
  rw [← e2] at hW
  refine lv_aload_n hx hb dX10_meets_5 rfl (lv_at hl 0 rfl) ?_
  refine gY0_1 hC hW dX10_meets_6 ?_
  refine lv_iload_n hx hb dX10_meets_9 rfl (lv_at hl 1 rfl) ?_
  refine lv_dup2_11 hx hb dX10_meets_10 rfl rfl ?_
  obtain ⟨g3, h⟩ := gd_some h
  refine x_iald hC hW aY1 g3 dX10_meets_11 ?_
  refine lv_iconst (v := 1) hx hb dX10_meets_12 (by decide) ?_
  refine lv_iadd hx hb dX10_meets_13 ?_
  obtain ⟨g4, h⟩ := gd_some h
  refine x_iast hC hW aY1 g4 dX10_meets_14 (fun H locs hW => ?_)
  obtain ⟨s5, e6, h⟩ := nx_some h
  rw [← e6] at hW
  refine lv_bipush (v := (-3)) hx hb dX10_meets_15 (by decide) ?_
  cases h
  exact kr _ _ _ _ dX10_meets_17 hW
theorem ctY0_meets {S : St} {x1 : Int32}  {v : Int32} {S' : St} (h : fY0_meets S x1 = some (v, S')) : Met l yX10_meets (wm yX10_meets cX10_meets 2 (some .int)) (rmx 0 0) (pcm LY G S [.ref (ad G 0), .int x1]) (qcI LY G S' v) 0 0 G.2.2.2 :=
  x_enter (own := RX10) rfl rfl (Nat.le_of_ble_eq_true rfl) (fun p e s m below meth c ls hC hr hk hW hl => wY0_meets hC (Nat.le_refl _) (Nat.le_refl _)  h (fun H locs ls pc hd hW => x_reti hC hr hk hW hd) _ _ _ hW hl)
def fY0_ask (S : St) (x1 : Int32) (x2 : Int32) : Option (Int32 × St) :=
  nx (p1 S 0 2 x1) fun s1 =>
  some (x2, s1)
set_option maxHeartbeats 4000000 in
set_option maxRecDepth 100000 in
theorem wY0_ask {S : St} {x1 : Int32} {x2 : Int32} (hC : CallFix p m c cX10_ask 3 s args lw_g RX10) (hF : 0 ≤ R.frames) (hL : 0 ≤ R.locals)  {v : Int32} {S' : St} (h : fY0_ask S x1 x2 = some (v, S')) (kr : ∀ (H : Heap) (locs : List Loc) (ls : Array Slot) (pc : Nat), decode cX10_ask pc = .ok (.ireturn, 1) → wg LY G (S') s H locs → W p l e R s m args below meth c H locs 0 0 Q (F0 m pc ls [.int v])) : ∀ (H : Heap) (locs : List Loc) (ls : Array Slot), wg LY G S s H locs → lv_has ls 3 [(0, .ref (ad G 0)), (1, .int x1), (2, .int x2)] → W p l e R s m args below meth c H locs 0 0 Q (F0 m 0 ls []) := by
  have hx := hC.1
  have hb := hC.2.1
  intro H locs ls hW hl
  unfold fY0_ask at h
  refine lv_aload_n hx hb dX10_ask_0 rfl (lv_at hl 0 rfl) ?_
  refine lv_iload_n hx hb dX10_ask_1 rfl (lv_at hl 1 rfl) ?_
  refine pY0_2 hC hW dX10_ask_2 (fun H locs hW => ?_)
  obtain ⟨s1, e2, h⟩ := nx_some h
  rw [← e2] at hW
  refine lv_iload_n hx hb dX10_ask_5 rfl (lv_at hl 2 rfl) ?_
  cases h
  exact kr _ _ _ _ dX10_ask_6 hW
theorem ctY0_ask {S : St} {x1 : Int32} {x2 : Int32}  {v : Int32} {S' : St} (h : fY0_ask S x1 x2 = some (v, S')) : Met l yX10_ask (wm yX10_ask cX10_ask 3 (some .int)) (rmx 0 0) (pcm LY G S [.ref (ad G 0), .int x1, .int x2]) (qcI LY G S' v) 0 0 G.2.2.2 :=
  x_enter (own := RX10) rfl rfl (Nat.le_of_ble_eq_true rfl) (fun p e s m below meth c ls hC hr hk hW hl => wY0_ask hC (Nat.le_refl _) (Nat.le_refl _)  h (fun H locs ls pc hd hW => x_reti hC hr hk hW hd) _ _ _ hW hl)
def fYs_in (S : St) (x0 : Int32) (x1 : Int32) (x2 : Int32) : Option (Int32) :=
  Option.bind (α := Int32) (
    if x0 < x1 then
      some 0
    else
      if x2 < x0 then
        some 0
      else
        some 1
  ) fun t2 =>
  gd (isb t2) <|
  some t2
set_option maxHeartbeats 4000000 in
set_option maxRecDepth 100000 in
theorem wYs_in {S : St} {x0 : Int32} {x1 : Int32} {x2 : Int32} (hC : CallFix p m c cX10_in 3 s args lw_g RX10) (hF : 0 ≤ R.frames) (hL : 0 ≤ R.locals)  {v : Int32} (h : fYs_in S x0 x1 x2 = some v) (kr : ∀ (H : Heap) (locs : List Loc) (ls : Array Slot) (pc : Nat), isb v = true → decode cX10_in pc = .ok (.ireturn, 1) → wg LY G S s H locs → W p l e R s m args below meth c H locs 0 0 Q (F0 m pc ls [.int v])) : ∀ (H : Heap) (locs : List Loc) (ls : Array Slot), wg LY G S s H locs → lv_has ls 3 [(0, .int x0), (1, .int x1), (2, .int x2)] → W p l e R s m args below meth c H locs 0 0 Q (F0 m 0 ls []) := by
  have hx := hC.1
  have hb := hC.2.1
  intro H locs ls hW hl
  unfold fYs_in at h
  refine lv_iload_n hx hb dX10_in_0 rfl (lv_at hl 0 rfl) ?_
  refine lv_iload_n hx hb dX10_in_1 rfl (lv_at hl 1 rfl) ?_
  obtain ⟨t2, e3, h⟩ := bd h
  have K1 : ∀ (H : Heap) (locs : List Loc) (ls : Array Slot), wg LY G S s H locs → lv_has ls 3 [] → W p l e R s m args below meth c H locs 0 0 Q (F0 m 15 ls [.int t2]) := by
    intro H locs ls hW hl
    obtain ⟨g6, h⟩ := gd_some h
    cases h
    exact kr _ _ _ _ g6 dX10_in_15 hW
  clear h
  have h := e3
  clear e3
  refine lv_icmp_lt (tgt := 14) hx hb dX10_in_2 (by decide) (fun q4 => ?_) (fun q4 => ?_)
  · have h := it_p q4 h
    refine lv_iconst (v := 0) hx hb dX10_in_14 (by decide) ?_
    cases h
    exact K1 _ _ _ hW (lv_sub hl [] rfl)
  · have h := it_n q4 h
    refine lv_iload_n hx hb dX10_in_5 rfl (lv_at hl 0 rfl) ?_
    refine lv_iload_n hx hb dX10_in_6 rfl (lv_at hl 2 rfl) ?_
    refine lv_icmp_gt (tgt := 14) hx hb dX10_in_7 (by decide) (fun q5 => ?_) (fun q5 => ?_)
    · have h := it_p q5 h
      refine lv_iconst (v := 0) hx hb dX10_in_14 (by decide) ?_
      cases h
      exact K1 _ _ _ hW (lv_sub hl [] rfl)
    · have h := it_n q5 h
      refine lv_iconst (v := 1) hx hb dX10_in_10 (by decide) ?_
      refine lv_goto (tgt := 15) hx hb dX10_in_11 (by decide) ?_
      cases h
      exact K1 _ _ _ hW (lv_sub hl [] rfl)
theorem ctYs_in {S : St} {x0 : Int32} {x1 : Int32} {x2 : Int32}  {v : Int32} (h : fYs_in S x0 x1 x2 = some v) : Met l yX10_in (wm yX10_in cX10_in 3 (some .boolean)) (rmx 0 0) (pcm LY G S [.int x0, .int x1, .int x2]) (qcI LY G S v) 0 0 G.2.2.2 :=
  x_enter (own := RX10) rfl rfl (Nat.le_of_ble_eq_true rfl) (fun p e s m below meth c ls hC hr hk hW hl => wYs_in hC (Nat.le_refl _) (Nat.le_refl _)  h (fun H locs ls pc hz hd hW => x_retz hC hr hk hW hz hd) _ _ _ hW hl)
def fYs_isRow (S : St) (x0 : Int32) : Option (Int32) :=
  Option.bind (fYs_in S x0 0 5) fun t1 =>
  gd (isb t1) <|
  some t1
set_option maxHeartbeats 4000000 in
set_option maxRecDepth 100000 in
theorem wYs_isRow {S : St} {x0 : Int32} (hC : CallFix p m c cX10_isRow 1 s args lw_g RX10) (hF : 1 ≤ R.frames) (hL : 22 ≤ R.locals)  {v : Int32} (h : fYs_isRow S x0 = some v) (kr : ∀ (H : Heap) (locs : List Loc) (ls : Array Slot) (pc : Nat), isb v = true → decode cX10_isRow pc = .ok (.ireturn, 1) → wg LY G S s H locs → W p l e R s m args below meth c H locs 0 0 Q (F0 m pc ls [.int v])) : ∀ (H : Heap) (locs : List Loc) (ls : Array Slot), wg LY G S s H locs → lv_has ls 1 [(0, .int x0)] → W p l e R s m args below meth c H locs 0 0 Q (F0 m 0 ls []) := by
  have hx := hC.1
  have hb := hC.2.1
  intro H locs ls hW hl
  unfold fYs_isRow at h
  refine lv_iload_n hx hb dX10_isRow_0 rfl (lv_at hl 0 rfl) ?_
  refine lv_iconst (v := 0) hx hb dX10_isRow_1 (by decide) ?_
  refine lv_iconst (v := 5) hx hb dX10_isRow_2 (by decide) ?_
  obtain ⟨t1, e2, h⟩ := bd h
  refine x_goi (x_rs (rest := []) hC hW (ctYs_in e2) (cwS_g hC.2.2.2.2 ml_X10_103 ms_X10_in md_X10_in ⟨(Nat.le_trans (Nat.le_of_ble_eq_true rfl) hF), (Nat.le_trans (Nat.le_of_ble_eq_true rfl) hL)⟩) rfl hl.1 rfl (Nat.le_of_ble_eq_true rfl) dX10_isRow_3) hW (fun H locs hW => ?_)
  obtain ⟨g3, h⟩ := gd_some h
  cases h
  exact kr _ _ _ _ g3 dX10_isRow_6 hW
theorem ctYs_isRow {S : St} {x0 : Int32}  {v : Int32} (h : fYs_isRow S x0 = some v) : Met l yX10_isRow (wm yX10_isRow cX10_isRow 1 (some .boolean)) (rmx 1 22) (pcm LY G S [.int x0]) (qcI LY G S v) 0 0 G.2.2.2 :=
  x_enter (own := RX10) rfl rfl (Nat.le_of_ble_eq_true rfl) (fun p e s m below meth c ls hC hr hk hW hl => wYs_isRow hC (Nat.le_refl _) (Nat.le_refl _)  h (fun H locs ls pc hz hd hW => x_retz hC hr hk hW hz hd) _ _ _ hW hl)
def fY0_askedRow (S : St) (x1 : Int32) : Option (Int32 × St) :=
  Option.bind (fYs_isRow S x1) fun t1 =>
  Option.bind (α := St × Int32) (
    if t1 = 0 then
      some (S, (-1))
    else
      gd (inb x1 6) <|
      if 0 ≤ (S.1 2 (Int32.toNatClampNeg x1)) then
        some (S, 0)
      else
        Option.bind (fY0_meets S 1) fun t9 =>
        some (t9.2, t9.1)
  ) fun t4 =>
  some (t4.2, t4.1)
set_option maxHeartbeats 4000000 in
set_option maxRecDepth 100000 in
theorem wY0_askedRow {S : St} {x1 : Int32} (hC : CallFix p m c cX10_askedRow 2 s args lw_g RX10) (hF : 2 ≤ R.frames) (hL : 42 ≤ R.locals)  {v : Int32} {S' : St} (h : fY0_askedRow S x1 = some (v, S')) (kr : ∀ (H : Heap) (locs : List Loc) (ls : Array Slot) (pc : Nat), decode cX10_askedRow pc = .ok (.ireturn, 1) → wg LY G (S') s H locs → W p l e R s m args below meth c H locs 0 0 Q (F0 m pc ls [.int v])) : ∀ (H : Heap) (locs : List Loc) (ls : Array Slot), wg LY G S s H locs → lv_has ls 2 [(0, .ref (ad G 0)), (1, .int x1)] → W p l e R s m args below meth c H locs 0 0 Q (F0 m 0 ls []) := by
  have hx := hC.1
  have hb := hC.2.1
  intro H locs ls hW hl
  unfold fY0_askedRow at h
  refine lv_iload_n hx hb dX10_askedRow_0 rfl (lv_at hl 1 rfl) ?_
  obtain ⟨t1, e2, h⟩ := bd h
  refine x_goi (x_rs (rest := []) hC hW (ctYs_isRow e2) (cwS_g hC.2.2.2.2 ml_X10_107 ms_X10_isRow md_X10_isRow ⟨(Nat.le_trans (Nat.le_of_ble_eq_true rfl) hF), (Nat.le_trans (Nat.le_of_ble_eq_true rfl) hL)⟩) rfl hl.1 rfl (Nat.le_of_ble_eq_true rfl) dX10_askedRow_1) hW (fun H locs hW => ?_)
  obtain ⟨t4, e5, h⟩ := bd h
  have K3 : ∀ (H : Heap) (locs : List Loc) (ls : Array Slot), wg LY G t4.1 s H locs → lv_has ls 2 [] → W p l e R s m args below meth c H locs 0 0 Q (F0 m 29 ls [.int t4.2]) := by
    intro H locs ls hW hl
    cases h
    exact kr _ _ _ _ dX10_askedRow_29 hW
  clear h
  have h := e5
  clear e5
  refine lv_if_ne (tgt := 11) hx hb dX10_askedRow_4 (by decide) (fun q6 => ?_) (fun q6 => ?_)
  · have h := it_n q6 h
    refine lv_aload_n hx hb dX10_askedRow_11 rfl (lv_at hl 0 rfl) ?_
    refine gY0_5 hC hW dX10_askedRow_12 ?_
    refine lv_iload_n hx hb dX10_askedRow_15 rfl (lv_at hl 1 rfl) ?_
    obtain ⟨g7, h⟩ := gd_some h
    refine x_iald hC hW aY2 g7 dX10_askedRow_16 ?_
    refine lv_if_ge (tgt := 28) hx hb dX10_askedRow_17 (by decide) (fun q8 => ?_) (fun q8 => ?_)
    · have h := it_p q8 h
      refine lv_iconst (v := 0) hx hb dX10_askedRow_28 (by decide) ?_
      cases h
      exact K3 _ _ _ hW (lv_sub hl [] rfl)
    · have h := it_n q8 h
      refine lv_aload_n hx hb dX10_askedRow_20 rfl (lv_at hl 0 rfl) ?_
      refine lv_iconst (v := 1) hx hb dX10_askedRow_21 (by decide) ?_
      obtain ⟨t9, e10, h⟩ := bd h
      refine x_goi (x_rv (rest := []) hC hW (ctY0_meets e10) (cwV_g hC.2.2.2.2 ml_X10_111 mi_X10_meets md_X10_meets ⟨(Nat.le_trans (Nat.le_of_ble_eq_true rfl) hF), (Nat.le_trans (Nat.le_of_ble_eq_true rfl) hL)⟩) (rcY0 hW) rfl hl.1 rfl (Nat.le_of_ble_eq_true rfl) dX10_askedRow_22) hW (fun H locs hW => ?_)
      refine lv_goto (tgt := 29) hx hb dX10_askedRow_25 (by decide) ?_
      cases h
      exact K3 _ _ _ hW (lv_sub hl [] rfl)
  · have h := it_p q6 h
    refine lv_iconst (v := (-1)) hx hb dX10_askedRow_7 (by decide) ?_
    refine lv_goto (tgt := 29) hx hb dX10_askedRow_8 (by decide) ?_
    cases h
    exact K3 _ _ _ hW (lv_sub hl [] rfl)
theorem ctY0_askedRow {S : St} {x1 : Int32}  {v : Int32} {S' : St} (h : fY0_askedRow S x1 = some (v, S')) : Met l yX10_askedRow (wm yX10_askedRow cX10_askedRow 2 (some .int)) (rmx 2 42) (pcm LY G S [.ref (ad G 0), .int x1]) (qcI LY G S' v) 0 0 G.2.2.2 :=
  x_enter (own := RX10) rfl rfl (Nat.le_of_ble_eq_true rfl) (fun p e s m below meth c ls hC hr hk hW hl => wY0_askedRow hC (Nat.le_refl _) (Nat.le_refl _)  h (fun H locs ls pc hd hW => x_reti hC hr hk hW hd) _ _ _ hW hl)
def fYs_isText (S : St) (x0 : Int32) : Option (Int32) :=
  Option.bind (fYs_in S x0 0 3) fun t1 =>
  gd (isb t1) <|
  some t1
set_option maxHeartbeats 4000000 in
set_option maxRecDepth 100000 in
theorem wYs_isText {S : St} {x0 : Int32} (hC : CallFix p m c cX10_isText 1 s args lw_g RX10) (hF : 1 ≤ R.frames) (hL : 22 ≤ R.locals)  {v : Int32} (h : fYs_isText S x0 = some v) (kr : ∀ (H : Heap) (locs : List Loc) (ls : Array Slot) (pc : Nat), isb v = true → decode cX10_isText pc = .ok (.ireturn, 1) → wg LY G S s H locs → W p l e R s m args below meth c H locs 0 0 Q (F0 m pc ls [.int v])) : ∀ (H : Heap) (locs : List Loc) (ls : Array Slot), wg LY G S s H locs → lv_has ls 1 [(0, .int x0)] → W p l e R s m args below meth c H locs 0 0 Q (F0 m 0 ls []) := by
  have hx := hC.1
  have hb := hC.2.1
  intro H locs ls hW hl
  unfold fYs_isText at h
  refine lv_iload_n hx hb dX10_isText_0 rfl (lv_at hl 0 rfl) ?_
  refine lv_iconst (v := 0) hx hb dX10_isText_1 (by decide) ?_
  refine lv_iconst (v := 3) hx hb dX10_isText_2 (by decide) ?_
  obtain ⟨t1, e2, h⟩ := bd h
  refine x_goi (x_rs (rest := []) hC hW (ctYs_in e2) (cwS_g hC.2.2.2.2 ml_X10_103 ms_X10_in md_X10_in ⟨(Nat.le_trans (Nat.le_of_ble_eq_true rfl) hF), (Nat.le_trans (Nat.le_of_ble_eq_true rfl) hL)⟩) rfl hl.1 rfl (Nat.le_of_ble_eq_true rfl) dX10_isText_3) hW (fun H locs hW => ?_)
  obtain ⟨g3, h⟩ := gd_some h
  cases h
  exact kr _ _ _ _ g3 dX10_isText_6 hW
theorem ctYs_isText {S : St} {x0 : Int32}  {v : Int32} (h : fYs_isText S x0 = some v) : Met l yX10_isText (wm yX10_isText cX10_isText 1 (some .boolean)) (rmx 1 22) (pcm LY G S [.int x0]) (qcI LY G S v) 0 0 G.2.2.2 :=
  x_enter (own := RX10) rfl rfl (Nat.le_of_ble_eq_true rfl) (fun p e s m below meth c ls hC hr hk hW hl => wYs_isText hC (Nat.le_refl _) (Nat.le_refl _)  h (fun H locs ls pc hz hd hW => x_retz hC hr hk hW hz hd) _ _ _ hW hl)
def fY0_askedText (S : St) (x1 : Int32) : Option (Int32 × St) :=
  Option.bind (fYs_isText S x1) fun t1 =>
  Option.bind (α := St × Int32) (
    if t1 = 0 then
      some (S, (-1))
    else
      gd (inb x1 4) <|
      if 0 ≤ (S.1 5 (Int32.toNatClampNeg x1)) then
        some (S, 0)
      else
        Option.bind (fY0_meets S 1) fun t9 =>
        some (t9.2, t9.1)
  ) fun t4 =>
  some (t4.2, t4.1)
set_option maxHeartbeats 4000000 in
set_option maxRecDepth 100000 in
theorem wY0_askedText {S : St} {x1 : Int32} (hC : CallFix p m c cX10_askedText 2 s args lw_g RX10) (hF : 2 ≤ R.frames) (hL : 42 ≤ R.locals)  {v : Int32} {S' : St} (h : fY0_askedText S x1 = some (v, S')) (kr : ∀ (H : Heap) (locs : List Loc) (ls : Array Slot) (pc : Nat), decode cX10_askedText pc = .ok (.ireturn, 1) → wg LY G (S') s H locs → W p l e R s m args below meth c H locs 0 0 Q (F0 m pc ls [.int v])) : ∀ (H : Heap) (locs : List Loc) (ls : Array Slot), wg LY G S s H locs → lv_has ls 2 [(0, .ref (ad G 0)), (1, .int x1)] → W p l e R s m args below meth c H locs 0 0 Q (F0 m 0 ls []) := by
  have hx := hC.1
  have hb := hC.2.1
  intro H locs ls hW hl
  unfold fY0_askedText at h
  refine lv_iload_n hx hb dX10_askedText_0 rfl (lv_at hl 1 rfl) ?_
  obtain ⟨t1, e2, h⟩ := bd h
  refine x_goi (x_rs (rest := []) hC hW (ctYs_isText e2) (cwS_g hC.2.2.2.2 ml_X10_115 ms_X10_isText md_X10_isText ⟨(Nat.le_trans (Nat.le_of_ble_eq_true rfl) hF), (Nat.le_trans (Nat.le_of_ble_eq_true rfl) hL)⟩) rfl hl.1 rfl (Nat.le_of_ble_eq_true rfl) dX10_askedText_1) hW (fun H locs hW => ?_)
  obtain ⟨t4, e5, h⟩ := bd h
  have K3 : ∀ (H : Heap) (locs : List Loc) (ls : Array Slot), wg LY G t4.1 s H locs → lv_has ls 2 [] → W p l e R s m args below meth c H locs 0 0 Q (F0 m 29 ls [.int t4.2]) := by
    intro H locs ls hW hl
    cases h
    exact kr _ _ _ _ dX10_askedText_29 hW
  clear h
  have h := e5
  clear e5
  refine lv_if_ne (tgt := 11) hx hb dX10_askedText_4 (by decide) (fun q6 => ?_) (fun q6 => ?_)
  · have h := it_n q6 h
    refine lv_aload_n hx hb dX10_askedText_11 rfl (lv_at hl 0 rfl) ?_
    refine gY0_8 hC hW dX10_askedText_12 ?_
    refine lv_iload_n hx hb dX10_askedText_15 rfl (lv_at hl 1 rfl) ?_
    obtain ⟨g7, h⟩ := gd_some h
    refine x_iald hC hW aY5 g7 dX10_askedText_16 ?_
    refine lv_if_ge (tgt := 28) hx hb dX10_askedText_17 (by decide) (fun q8 => ?_) (fun q8 => ?_)
    · have h := it_p q8 h
      refine lv_iconst (v := 0) hx hb dX10_askedText_28 (by decide) ?_
      cases h
      exact K3 _ _ _ hW (lv_sub hl [] rfl)
    · have h := it_n q8 h
      refine lv_aload_n hx hb dX10_askedText_20 rfl (lv_at hl 0 rfl) ?_
      refine lv_iconst (v := 1) hx hb dX10_askedText_21 (by decide) ?_
      obtain ⟨t9, e10, h⟩ := bd h
      refine x_goi (x_rv (rest := []) hC hW (ctY0_meets e10) (cwV_g hC.2.2.2.2 ml_X10_111 mi_X10_meets md_X10_meets ⟨(Nat.le_trans (Nat.le_of_ble_eq_true rfl) hF), (Nat.le_trans (Nat.le_of_ble_eq_true rfl) hL)⟩) (rcY0 hW) rfl hl.1 rfl (Nat.le_of_ble_eq_true rfl) dX10_askedText_22) hW (fun H locs hW => ?_)
      refine lv_goto (tgt := 29) hx hb dX10_askedText_25 (by decide) ?_
      cases h
      exact K3 _ _ _ hW (lv_sub hl [] rfl)
  · have h := it_p q6 h
    refine lv_iconst (v := (-1)) hx hb dX10_askedText_7 (by decide) ?_
    refine lv_goto (tgt := 29) hx hb dX10_askedText_8 (by decide) ?_
    cases h
    exact K3 _ _ _ hW (lv_sub hl [] rfl)
theorem ctY0_askedText {S : St} {x1 : Int32}  {v : Int32} {S' : St} (h : fY0_askedText S x1 = some (v, S')) : Met l yX10_askedText (wm yX10_askedText cX10_askedText 2 (some .int)) (rmx 2 42) (pcm LY G S [.ref (ad G 0), .int x1]) (qcI LY G S' v) 0 0 G.2.2.2 :=
  x_enter (own := RX10) rfl rfl (Nat.le_of_ble_eq_true rfl) (fun p e s m below meth c ls hC hr hk hW hl => wY0_askedText hC (Nat.le_refl _) (Nat.le_refl _)  h (fun H locs ls pc hd hW => x_reti hC hr hk hW hd) _ _ _ hW hl)
def fY0_rowAt (S : St) (x1 : Int32) (x2 : Int32) : Option (Int32) :=
  gd (inb ((40 * x1) + x2) 240) <|
  some (S.1 3 (Int32.toNatClampNeg ((40 * x1) + x2)))
set_option maxHeartbeats 4000000 in
set_option maxRecDepth 100000 in
theorem wY0_rowAt {S : St} {x1 : Int32} {x2 : Int32} (hC : CallFix p m c cX10_rowAt 3 s args lw_g RX10) (hF : 0 ≤ R.frames) (hL : 0 ≤ R.locals)  {v : Int32} (h : fY0_rowAt S x1 x2 = some v) (kr : ∀ (H : Heap) (locs : List Loc) (ls : Array Slot) (pc : Nat), decode cX10_rowAt pc = .ok (.ireturn, 1) → wg LY G S s H locs → W p l e R s m args below meth c H locs 0 0 Q (F0 m pc ls [.int v])) : ∀ (H : Heap) (locs : List Loc) (ls : Array Slot), wg LY G S s H locs → lv_has ls 3 [(0, .ref (ad G 0)), (1, .int x1), (2, .int x2)] → W p l e R s m args below meth c H locs 0 0 Q (F0 m 0 ls []) := by
  have hx := hC.1
  have hb := hC.2.1
  intro H locs ls hW hl
  unfold fY0_rowAt at h
  refine lv_aload_n hx hb dX10_rowAt_0 rfl (lv_at hl 0 rfl) ?_
  refine gY0_6 hC hW dX10_rowAt_1 ?_
  refine lv_bipush (v := 40) hx hb dX10_rowAt_4 (by decide) ?_
  refine lv_iload_n hx hb dX10_rowAt_6 rfl (lv_at hl 1 rfl) ?_
  refine lv_imul hx hb dX10_rowAt_7 ?_
  refine lv_iload_n hx hb dX10_rowAt_8 rfl (lv_at hl 2 rfl) ?_
  refine lv_iadd hx hb dX10_rowAt_9 ?_
  obtain ⟨g1, h⟩ := gd_some h
  refine x_iald hC hW aY3 g1 dX10_rowAt_10 ?_
  cases h
  exact kr _ _ _ _ dX10_rowAt_11 hW
theorem ctY0_rowAt {S : St} {x1 : Int32} {x2 : Int32}  {v : Int32} (h : fY0_rowAt S x1 x2 = some v) : Met l yX10_rowAt (wm yX10_rowAt cX10_rowAt 3 (some .int)) (rmx 0 0) (pcm LY G S [.ref (ad G 0), .int x1, .int x2]) (qcI LY G S v) 0 0 G.2.2.2 :=
  x_enter (own := RX10) rfl rfl (Nat.le_of_ble_eq_true rfl) (fun p e s m below meth c ls hC hr hk hW hl => wY0_rowAt hC (Nat.le_refl _) (Nat.le_refl _)  h (fun H locs ls pc hd hW => x_reti hC hr hk hW hd) _ _ _ hW hl)
def fY0_row_L34 (N : Nat) (x1 : Int32) (x2 : Int32) : Nat → St → Int32 → Option (St)
  | 0, _, _ => none
  | n + 1, S, x3 =>
    if 40 ≤ x3 then
      some S
    else
      gd (inb ((40 * x1) + x3) 240) <|
      nx (p1 S 3 (Int32.toNatClampNeg ((40 * x1) + x3)) 0) fun s11 =>
      fY0_row_L34 N x1 x2 n s11 (x3 + 1)
set_option maxHeartbeats 4000000 in
set_option maxRecDepth 100000 in
theorem wY0_row_L34 {N : Nat} {x1 : Int32} {x2 : Int32} (hC : CallFix p m c cX10_row 4 s args lw_g RX10) (hF : 2 ≤ R.frames) (hL : 42 ≤ R.locals)  {t : St} (kx : ∀ (H : Heap) (locs : List Loc) (ls : Array Slot), wg LY G t s H locs → lv_has ls 4 [(2, .int x2)] → W p l e R s m args below meth c H locs 0 0 Q (F0 m 58 ls [])) : ∀ (n : Nat) (S : St) (x3 : Int32), fY0_row_L34 N x1 x2 n S x3 = some t → ∀ (H : Heap) (locs : List Loc) (ls : Array Slot), wg LY G S s H locs → lv_has ls 4 [(0, .ref (ad G 0)), (1, .int x1), (2, .int x2), (3, .int x3)] → W p l e R s m args below meth c H locs 0 0 Q (F0 m 34 ls []) := by
  have hx := hC.1
  have hb := hC.2.1
  intro n
  induction n with
  | zero =>
    intro _ _ h
    cases h
  | succ n ih =>
    intro S x3 h H locs ls hW hl
    rw [fY0_row_L34] at h
    refine lv_iload_n hx hb dX10_row_34 rfl (lv_at hl 3 rfl) ?_
    refine lv_bipush (v := 40) hx hb dX10_row_35 (by decide) ?_
    refine lv_icmp_ge (tgt := 58) hx hb dX10_row_37 (by decide) (fun q9 => ?_) (fun q9 => ?_)
    · have h := it_p q9 h
      cases h
      exact kx _ _ _ hW (lv_sub hl [2] rfl)
    · have h := it_n q9 h
      refine lv_aload_n hx hb dX10_row_40 rfl (lv_at hl 0 rfl) ?_
      refine gY0_6 hC hW dX10_row_41 ?_
      refine lv_bipush (v := 40) hx hb dX10_row_44 (by decide) ?_
      refine lv_iload_n hx hb dX10_row_46 rfl (lv_at hl 1 rfl) ?_
      refine lv_imul hx hb dX10_row_47 ?_
      refine lv_iload_n hx hb dX10_row_48 rfl (lv_at hl 3 rfl) ?_
      refine lv_iadd hx hb dX10_row_49 ?_
      refine lv_iconst (v := 0) hx hb dX10_row_50 (by decide) ?_
      obtain ⟨g10, h⟩ := gd_some h
      refine x_iast hC hW aY3 g10 dX10_row_51 (fun H locs hW => ?_)
      obtain ⟨s11, e12, h⟩ := nx_some h
      rw [← e12] at hW
      refine lv_iinc (v := x3 + 1) (lv' := [(3, .int (x3 + 1)), (0, .ref (ad G 0)), (1, .int x1), (2, .int x2)]) (k := 3) hx hb dX10_row_52 hl rfl rfl (by decide) rfl (fun ls hl => ?_)
      refine lv_goto (tgt := 34) hx hb dX10_row_55 (by decide) ?_
      exact ih _ _ h _ _ _ hW (lv_sub hl [1, 2, 3, 0] rfl)
def fY0_row (N : Nat) (S : St) (x1 : Int32) (x2 : Int32) : Option (Int32 × St) :=
  Option.bind (fYs_isRow S x1) fun t1 =>
  if t1 = 0 then
    some ((-1), S)
  else
    if x2 ≤ 40 then
      if 0 ≤ x2 then
        gd (inb x1 6) <|
        nx (p1 S 2 (Int32.toNatClampNeg x1) x2) fun s7 =>
        Option.bind (fY0_row_L34 N x1 x2 N s7 0) fun t13 =>
        some (x2, t13)
      else
        Option.bind (fY0_meets S 5) fun t15 =>
        some (t15.1, t15.2)
    else
      some ((-1), S)
set_option maxHeartbeats 4000000 in
set_option maxRecDepth 100000 in
theorem wY0_row {N : Nat} {S : St} {x1 : Int32} {x2 : Int32} (hC : CallFix p m c cX10_row 4 s args lw_g RX10) (hF : 2 ≤ R.frames) (hL : 42 ≤ R.locals)  {v : Int32} {S' : St} (h : fY0_row N S x1 x2 = some (v, S')) (kr : ∀ (H : Heap) (locs : List Loc) (ls : Array Slot) (pc : Nat), decode cX10_row pc = .ok (.ireturn, 1) → wg LY G (S') s H locs → W p l e R s m args below meth c H locs 0 0 Q (F0 m pc ls [.int v])) : ∀ (H : Heap) (locs : List Loc) (ls : Array Slot), wg LY G S s H locs → lv_has ls 4 [(0, .ref (ad G 0)), (1, .int x1), (2, .int x2)] → W p l e R s m args below meth c H locs 0 0 Q (F0 m 0 ls []) := by
  have hx := hC.1
  have hb := hC.2.1
  intro H locs ls hW hl
  unfold fY0_row at h
  refine lv_iload_n hx hb dX10_row_0 rfl (lv_at hl 1 rfl) ?_
  obtain ⟨t1, e2, h⟩ := bd h
  refine x_goi (x_rs (rest := []) hC hW (ctYs_isRow e2) (cwS_g hC.2.2.2.2 ml_X10_107 ms_X10_isRow md_X10_isRow ⟨(Nat.le_trans (Nat.le_of_ble_eq_true rfl) hF), (Nat.le_trans (Nat.le_of_ble_eq_true rfl) hL)⟩) rfl hl.1 rfl (Nat.le_of_ble_eq_true rfl) dX10_row_1) hW (fun H locs hW => ?_)
  refine lv_if_eq (tgt := 13) hx hb dX10_row_4 (by decide) (fun q3 => ?_) (fun q3 => ?_)
  · have h := it_p q3 h
    refine lv_iconst (v := (-1)) hx hb dX10_row_13 (by decide) ?_
    cases h
    exact kr _ _ _ _ dX10_row_14 hW
  · have h := it_n q3 h
    refine lv_iload_n hx hb dX10_row_7 rfl (lv_at hl 2 rfl) ?_
    refine lv_bipush (v := 40) hx hb dX10_row_8 (by decide) ?_
    refine lv_icmp_le (tgt := 15) hx hb dX10_row_10 (by decide) (fun q4 => ?_) (fun q4 => ?_)
    · have h := it_p q4 h
      refine lv_iload_n hx hb dX10_row_15 rfl (lv_at hl 2 rfl) ?_
      refine lv_if_ge (tgt := 25) hx hb dX10_row_16 (by decide) (fun q5 => ?_) (fun q5 => ?_)
      · have h := it_p q5 h
        refine lv_aload_n hx hb dX10_row_25 rfl (lv_at hl 0 rfl) ?_
        refine gY0_5 hC hW dX10_row_26 ?_
        refine lv_iload_n hx hb dX10_row_29 rfl (lv_at hl 1 rfl) ?_
        refine lv_iload_n hx hb dX10_row_30 rfl (lv_at hl 2 rfl) ?_
        obtain ⟨g6, h⟩ := gd_some h
        refine x_iast hC hW aY2 g6 dX10_row_31 (fun H locs hW => ?_)
        obtain ⟨s7, e8, h⟩ := nx_some h
        rw [← e8] at hW
        refine lv_iconst (v := 0) hx hb dX10_row_32 (by decide) ?_
        refine lv_istore_n (lv' := [(3, .int 0), (0, .ref (ad G 0)), (1, .int x1), (2, .int x2)]) hx hb dX10_row_33 rfl hl (by decide) rfl (fun ls hl => ?_)
        obtain ⟨t13, e14, h⟩ := bd h
        refine wY0_row_L34 hC hF hL  (fun H locs ls hW hl => ?_) _ _ _ e14 _ _ _ hW (lv_sub hl [1, 2, 3, 0] rfl)
        refine lv_iload_n hx hb dX10_row_58 rfl (lv_at hl 0 rfl) ?_
        cases h
        exact kr _ _ _ _ dX10_row_59 hW
      · have h := it_n q5 h
        refine lv_aload_n hx hb dX10_row_19 rfl (lv_at hl 0 rfl) ?_
        refine lv_iconst (v := 5) hx hb dX10_row_20 (by decide) ?_
        obtain ⟨t15, e16, h⟩ := bd h
        refine x_goi (x_rv (rest := []) hC hW (ctY0_meets e16) (cwV_g hC.2.2.2.2 ml_X10_111 mi_X10_meets md_X10_meets ⟨(Nat.le_trans (Nat.le_of_ble_eq_true rfl) hF), (Nat.le_trans (Nat.le_of_ble_eq_true rfl) hL)⟩) (rcY0 hW) rfl hl.1 rfl (Nat.le_of_ble_eq_true rfl) dX10_row_21) hW (fun H locs hW => ?_)
        cases h
        exact kr _ _ _ _ dX10_row_24 hW
    · have h := it_n q4 h
      refine lv_iconst (v := (-1)) hx hb dX10_row_13 (by decide) ?_
      cases h
      exact kr _ _ _ _ dX10_row_14 hW
theorem ctY0_row {N : Nat} {S : St} {x1 : Int32} {x2 : Int32}  {v : Int32} {S' : St} (h : fY0_row N S x1 x2 = some (v, S')) : Met l yX10_row (wm yX10_row cX10_row 4 (some .int)) (rmx 2 42) (pcm LY G S [.ref (ad G 0), .int x1, .int x2]) (qcI LY G S' v) 0 0 G.2.2.2 :=
  x_enter (own := RX10) rfl rfl (Nat.le_of_ble_eq_true rfl) (fun p e s m below meth c ls hC hr hk hW hl => wY0_row hC (Nat.le_refl _) (Nat.le_refl _)  h (fun H locs ls pc hd hW => x_reti hC hr hk hW hd) _ _ _ hW hl)
def fY0_at (S : St) (x1 : Int32) (x2 : Int32) : Option (Int32 × St) :=
  Option.bind (fY0_askedRow S x1) fun t1 =>
  if 0 ≤ t1.1 then
    gd (inb x1 6) <|
    Option.bind (fYs_in t1.2 x2 0 ((t1.2.1 2 (Int32.toNatClampNeg x1)) - 1)) fun t5 =>
    Option.bind (α := St × Int32) (
      if t5 = 0 then
        Option.bind (fY0_meets t1.2 2) fun t11 =>
        some (t11.2, t11.1)
      else
        Option.bind (fY0_rowAt t1.2 x1 x2) fun t13 =>
        Option.bind (fY0_ask t1.2 t13 1) fun t15 =>
        some (t15.2, t15.1)
    ) fun t8 =>
    some (t8.2, t8.1)
  else
    some (t1.1, t1.2)
set_option maxHeartbeats 4000000 in
set_option maxRecDepth 100000 in
theorem wY0_at {S : St} {x1 : Int32} {x2 : Int32} (hC : CallFix p m c cX10_at 4 s args lw_g RX10) (hF : 3 ≤ R.frames) (hL : 63 ≤ R.locals)  {v : Int32} {S' : St} (h : fY0_at S x1 x2 = some (v, S')) (kr : ∀ (H : Heap) (locs : List Loc) (ls : Array Slot) (pc : Nat), decode cX10_at pc = .ok (.ireturn, 1) → wg LY G (S') s H locs → W p l e R s m args below meth c H locs 0 0 Q (F0 m pc ls [.int v])) : ∀ (H : Heap) (locs : List Loc) (ls : Array Slot), wg LY G S s H locs → lv_has ls 4 [(0, .ref (ad G 0)), (1, .int x1), (2, .int x2)] → W p l e R s m args below meth c H locs 0 0 Q (F0 m 0 ls []) := by
  have hx := hC.1
  have hb := hC.2.1
  intro H locs ls hW hl
  unfold fY0_at at h
  refine lv_aload_n hx hb dX10_at_0 rfl (lv_at hl 0 rfl) ?_
  refine lv_iload_n hx hb dX10_at_1 rfl (lv_at hl 1 rfl) ?_
  obtain ⟨t1, e2, h⟩ := bd h
  refine x_goi (x_rv (rest := []) hC hW (ctY0_askedRow e2) (cwV_g hC.2.2.2.2 ml_X10_118 mi_X10_askedRow md_X10_askedRow ⟨(Nat.le_trans (Nat.le_of_ble_eq_true rfl) hF), (Nat.le_trans (Nat.le_of_ble_eq_true rfl) hL)⟩) (rcY0 hW) rfl hl.1 rfl (Nat.le_of_ble_eq_true rfl) dX10_at_2) hW (fun H locs hW => ?_)
  refine lv_istore_n (lv' := [(3, .int t1.1), (0, .ref (ad G 0)), (1, .int x1), (2, .int x2)]) hx hb dX10_at_5 rfl hl (by decide) rfl (fun ls hl => ?_)
  refine lv_iload_n hx hb dX10_at_6 rfl (lv_at hl 0 rfl) ?_
  refine lv_if_ge (tgt := 12) hx hb dX10_at_7 (by decide) (fun q3 => ?_) (fun q3 => ?_)
  · have h := it_p q3 h
    refine lv_iload_n hx hb dX10_at_12 rfl (lv_at hl 3 rfl) ?_
    refine lv_iconst (v := 0) hx hb dX10_at_13 (by decide) ?_
    refine lv_aload_n hx hb dX10_at_14 rfl (lv_at hl 1 rfl) ?_
    refine gY0_5 hC hW dX10_at_15 ?_
    refine lv_iload_n hx hb dX10_at_18 rfl (lv_at hl 2 rfl) ?_
    obtain ⟨g4, h⟩ := gd_some h
    refine x_iald hC hW aY2 g4 dX10_at_19 ?_
    refine lv_iconst (v := 1) hx hb dX10_at_20 (by decide) ?_
    refine lv_isub hx hb dX10_at_21 ?_
    obtain ⟨t5, e6, h⟩ := bd h
    refine x_goi (x_rs (rest := []) hC hW (ctYs_in e6) (cwS_g hC.2.2.2.2 ml_X10_103 ms_X10_in md_X10_in ⟨(Nat.le_trans (Nat.le_of_ble_eq_true rfl) hF), (Nat.le_trans (Nat.le_of_ble_eq_true rfl) hL)⟩) rfl hl.1 rfl (Nat.le_of_ble_eq_true rfl) dX10_at_22) hW (fun H locs hW => ?_)
    obtain ⟨t8, e9, h⟩ := bd h
    have K7 : ∀ (H : Heap) (locs : List Loc) (ls : Array Slot), wg LY G t8.1 s H locs → lv_has ls 4 [] → W p l e R s m args below meth c H locs 0 0 Q (F0 m 47 ls [.int t8.2]) := by
      intro H locs ls hW hl
      cases h
      exact kr _ _ _ _ dX10_at_47 hW
    clear h
    have h := e9
    clear e9
    refine lv_if_eq (tgt := 42) hx hb dX10_at_25 (by decide) (fun q10 => ?_) (fun q10 => ?_)
    · have h := it_p q10 h
      refine lv_aload_n hx hb dX10_at_42 rfl (lv_at hl 1 rfl) ?_
      refine lv_iconst (v := 2) hx hb dX10_at_43 (by decide) ?_
      obtain ⟨t11, e12, h⟩ := bd h
      refine x_goi (x_rv (rest := []) hC hW (ctY0_meets e12) (cwV_g hC.2.2.2.2 ml_X10_111 mi_X10_meets md_X10_meets ⟨(Nat.le_trans (Nat.le_of_ble_eq_true rfl) hF), (Nat.le_trans (Nat.le_of_ble_eq_true rfl) hL)⟩) (rcY0 hW) rfl hl.1 rfl (Nat.le_of_ble_eq_true rfl) dX10_at_44) hW (fun H locs hW => ?_)
      cases h
      exact K7 _ _ _ hW (lv_sub hl [] rfl)
    · have h := it_n q10 h
      refine lv_aload_n hx hb dX10_at_28 rfl (lv_at hl 1 rfl) ?_
      refine lv_aload_n hx hb dX10_at_29 rfl (lv_at hl 1 rfl) ?_
      refine lv_iload_n hx hb dX10_at_30 rfl (lv_at hl 2 rfl) ?_
      refine lv_iload_n hx hb dX10_at_31 rfl (lv_at hl 3 rfl) ?_
      obtain ⟨t13, e14, h⟩ := bd h
      refine x_goi (x_rv (rest := [.ref (ad G 0)]) hC hW (ctY0_rowAt e14) (cwV_g hC.2.2.2.2 ml_X10_121 mi_X10_rowAt md_X10_rowAt ⟨(Nat.le_trans (Nat.le_of_ble_eq_true rfl) hF), (Nat.le_trans (Nat.le_of_ble_eq_true rfl) hL)⟩) (rcY0 hW) rfl hl.1 rfl (Nat.le_of_ble_eq_true rfl) dX10_at_32) hW (fun H locs hW => ?_)
      refine lv_iconst (v := 1) hx hb dX10_at_35 (by decide) ?_
      obtain ⟨t15, e16, h⟩ := bd h
      refine x_goi (x_rv (rest := []) hC hW (ctY0_ask e16) (cwV_g hC.2.2.2.2 ml_X10_125 mi_X10_ask md_X10_ask ⟨(Nat.le_trans (Nat.le_of_ble_eq_true rfl) hF), (Nat.le_trans (Nat.le_of_ble_eq_true rfl) hL)⟩) (rcY0 hW) rfl hl.1 rfl (Nat.le_of_ble_eq_true rfl) dX10_at_36) hW (fun H locs hW => ?_)
      refine lv_goto (tgt := 47) hx hb dX10_at_39 (by decide) ?_
      cases h
      exact K7 _ _ _ hW (lv_sub hl [] rfl)
  · have h := it_n q3 h
    refine lv_iload_n hx hb dX10_at_10 rfl (lv_at hl 0 rfl) ?_
    cases h
    exact kr _ _ _ _ dX10_at_11 hW
theorem ctY0_at {S : St} {x1 : Int32} {x2 : Int32}  {v : Int32} {S' : St} (h : fY0_at S x1 x2 = some (v, S')) : Met l yX10_at (wm yX10_at cX10_at 4 (some .int)) (rmx 3 63) (pcm LY G S [.ref (ad G 0), .int x1, .int x2]) (qcI LY G S' v) 0 0 G.2.2.2 :=
  x_enter (own := RX10) rfl rfl (Nat.le_of_ble_eq_true rfl) (fun p e s m below meth c ls hC hr hk hW hl => wY0_at hC (Nat.le_refl _) (Nat.le_refl _)  h (fun H locs ls pc hd hW => x_reti hC hr hk hW hd) _ _ _ hW hl)
def fY0_lay (S : St) (x1 : Int32) (x2 : Int32) (x3 : Int32) : Option (Int32 × St) :=
  Option.bind (fY0_at S x1 x2) fun t1 =>
  if 0 ≤ t1.1 then
    gd (inb ((40 * x1) + x2) 240) <|
    nx (p1 t1.2 3 (Int32.toNatClampNeg ((40 * x1) + x2)) x3) fun s5 =>
    some (1, s5)
  else
    some (t1.1, t1.2)
set_option maxHeartbeats 4000000 in
set_option maxRecDepth 100000 in
theorem wY0_lay {S : St} {x1 : Int32} {x2 : Int32} {x3 : Int32} (hC : CallFix p m c cX10_lay 5 s args lw_g RX10) (hF : 4 ≤ R.frames) (hL : 86 ≤ R.locals)  {v : Int32} {S' : St} (h : fY0_lay S x1 x2 x3 = some (v, S')) (kr : ∀ (H : Heap) (locs : List Loc) (ls : Array Slot) (pc : Nat), decode cX10_lay pc = .ok (.ireturn, 1) → wg LY G (S') s H locs → W p l e R s m args below meth c H locs 0 0 Q (F0 m pc ls [.int v])) : ∀ (H : Heap) (locs : List Loc) (ls : Array Slot), wg LY G S s H locs → lv_has ls 5 [(0, .ref (ad G 0)), (1, .int x1), (2, .int x2), (3, .int x3)] → W p l e R s m args below meth c H locs 0 0 Q (F0 m 0 ls []) := by
  have hx := hC.1
  have hb := hC.2.1
  intro H locs ls hW hl
  unfold fY0_lay at h
  refine lv_aload_n hx hb dX10_lay_0 rfl (lv_at hl 0 rfl) ?_
  refine lv_iload_n hx hb dX10_lay_1 rfl (lv_at hl 1 rfl) ?_
  refine lv_iload_n hx hb dX10_lay_2 rfl (lv_at hl 2 rfl) ?_
  obtain ⟨t1, e2, h⟩ := bd h
  refine x_goi (x_rv (rest := []) hC hW (ctY0_at e2) (cwV_g hC.2.2.2.2 ml_X10_128 mi_X10_at md_X10_at ⟨(Nat.le_trans (Nat.le_of_ble_eq_true rfl) hF), (Nat.le_trans (Nat.le_of_ble_eq_true rfl) hL)⟩) (rcY0 hW) rfl hl.1 rfl (Nat.le_of_ble_eq_true rfl) dX10_lay_3) hW (fun H locs hW => ?_)
  refine lv_istore (lv' := [(4, .int t1.1), (0, .ref (ad G 0)), (1, .int x1), (2, .int x2), (3, .int x3)]) hx hb dX10_lay_6 hl (by decide) rfl (fun ls hl => ?_)
  refine lv_iload hx hb dX10_lay_8 (lv_at hl 0 rfl) ?_
  refine lv_if_ge (tgt := 16) hx hb dX10_lay_10 (by decide) (fun q3 => ?_) (fun q3 => ?_)
  · have h := it_p q3 h
    refine lv_aload_n hx hb dX10_lay_16 rfl (lv_at hl 1 rfl) ?_
    refine gY0_6 hC hW dX10_lay_17 ?_
    refine lv_bipush (v := 40) hx hb dX10_lay_20 (by decide) ?_
    refine lv_iload_n hx hb dX10_lay_22 rfl (lv_at hl 2 rfl) ?_
    refine lv_imul hx hb dX10_lay_23 ?_
    refine lv_iload_n hx hb dX10_lay_24 rfl (lv_at hl 3 rfl) ?_
    refine lv_iadd hx hb dX10_lay_25 ?_
    refine lv_iload_n hx hb dX10_lay_26 rfl (lv_at hl 4 rfl) ?_
    obtain ⟨g4, h⟩ := gd_some h
    refine x_iast hC hW aY3 g4 dX10_lay_27 (fun H locs hW => ?_)
    obtain ⟨s5, e6, h⟩ := nx_some h
    rw [← e6] at hW
    refine lv_iconst (v := 1) hx hb dX10_lay_28 (by decide) ?_
    cases h
    exact kr _ _ _ _ dX10_lay_29 hW
  · have h := it_n q3 h
    refine lv_iload hx hb dX10_lay_13 (lv_at hl 0 rfl) ?_
    cases h
    exact kr _ _ _ _ dX10_lay_15 hW
theorem ctY0_lay {S : St} {x1 : Int32} {x2 : Int32} {x3 : Int32}  {v : Int32} {S' : St} (h : fY0_lay S x1 x2 x3 = some (v, S')) : Met l yX10_lay (wm yX10_lay cX10_lay 5 (some .int)) (rmx 4 86) (pcm LY G S [.ref (ad G 0), .int x1, .int x2, .int x3]) (qcI LY G S' v) 0 0 G.2.2.2 :=
  x_enter (own := RX10) rfl rfl (Nat.le_of_ble_eq_true rfl) (fun p e s m below meth c ls hC hr hk hW hl => wY0_lay hC (Nat.le_refl _) (Nat.le_refl _)  h (fun H locs ls pc hd hW => x_reti hC hr hk hW hd) _ _ _ hW hl)
def fY0_tear (S : St) (x1 : Int32) : Option (Int32 × St) :=
  Option.bind (fY0_askedRow S x1) fun t1 =>
  if 0 ≤ t1.1 then
    gd (inb x1 6) <|
    nx (p1 t1.2 2 (Int32.toNatClampNeg x1) (-9)) fun s5 =>
    some (1, s5)
  else
    some (t1.1, t1.2)
set_option maxHeartbeats 4000000 in
set_option maxRecDepth 100000 in
theorem wY0_tear {S : St} {x1 : Int32} (hC : CallFix p m c cX10_tear 3 s args lw_g RX10) (hF : 3 ≤ R.frames) (hL : 63 ≤ R.locals)  {v : Int32} {S' : St} (h : fY0_tear S x1 = some (v, S')) (kr : ∀ (H : Heap) (locs : List Loc) (ls : Array Slot) (pc : Nat), decode cX10_tear pc = .ok (.ireturn, 1) → wg LY G (S') s H locs → W p l e R s m args below meth c H locs 0 0 Q (F0 m pc ls [.int v])) : ∀ (H : Heap) (locs : List Loc) (ls : Array Slot), wg LY G S s H locs → lv_has ls 3 [(0, .ref (ad G 0)), (1, .int x1)] → W p l e R s m args below meth c H locs 0 0 Q (F0 m 0 ls []) := by
  have hx := hC.1
  have hb := hC.2.1
  intro H locs ls hW hl
  unfold fY0_tear at h
  refine lv_aload_n hx hb dX10_tear_0 rfl (lv_at hl 0 rfl) ?_
  refine lv_iload_n hx hb dX10_tear_1 rfl (lv_at hl 1 rfl) ?_
  obtain ⟨t1, e2, h⟩ := bd h
  refine x_goi (x_rv (rest := []) hC hW (ctY0_askedRow e2) (cwV_g hC.2.2.2.2 ml_X10_118 mi_X10_askedRow md_X10_askedRow ⟨(Nat.le_trans (Nat.le_of_ble_eq_true rfl) hF), (Nat.le_trans (Nat.le_of_ble_eq_true rfl) hL)⟩) (rcY0 hW) rfl hl.1 rfl (Nat.le_of_ble_eq_true rfl) dX10_tear_2) hW (fun H locs hW => ?_)
  refine lv_istore_n (lv' := [(2, .int t1.1), (0, .ref (ad G 0)), (1, .int x1)]) hx hb dX10_tear_5 rfl hl (by decide) rfl (fun ls hl => ?_)
  refine lv_iload_n hx hb dX10_tear_6 rfl (lv_at hl 0 rfl) ?_
  refine lv_if_ge (tgt := 12) hx hb dX10_tear_7 (by decide) (fun q3 => ?_) (fun q3 => ?_)
  · have h := it_p q3 h
    refine lv_aload_n hx hb dX10_tear_12 rfl (lv_at hl 1 rfl) ?_
    refine gY0_5 hC hW dX10_tear_13 ?_
    refine lv_iload_n hx hb dX10_tear_16 rfl (lv_at hl 2 rfl) ?_
    refine lv_bipush (v := (-9)) hx hb dX10_tear_17 (by decide) ?_
    obtain ⟨g4, h⟩ := gd_some h
    refine x_iast hC hW aY2 g4 dX10_tear_19 (fun H locs hW => ?_)
    obtain ⟨s5, e6, h⟩ := nx_some h
    rw [← e6] at hW
    refine lv_iconst (v := 1) hx hb dX10_tear_20 (by decide) ?_
    cases h
    exact kr _ _ _ _ dX10_tear_21 hW
  · have h := it_n q3 h
    refine lv_iload_n hx hb dX10_tear_10 rfl (lv_at hl 0 rfl) ?_
    cases h
    exact kr _ _ _ _ dX10_tear_11 hW
theorem ctY0_tear {S : St} {x1 : Int32}  {v : Int32} {S' : St} (h : fY0_tear S x1 = some (v, S')) : Met l yX10_tear (wm yX10_tear cX10_tear 3 (some .int)) (rmx 3 63) (pcm LY G S [.ref (ad G 0), .int x1]) (qcI LY G S' v) 0 0 G.2.2.2 :=
  x_enter (own := RX10) rfl rfl (Nat.le_of_ble_eq_true rfl) (fun p e s m below meth c ls hC hr hk hW hl => wY0_tear hC (Nat.le_refl _) (Nat.le_refl _)  h (fun H locs ls pc hd hW => x_reti hC hr hk hW hd) _ _ _ hW hl)
end GEN
