section GEN
variable {p : Program} {l : Launch} {e : Env} {R : Room} {s : State} {m : MethodId} {args : Array Value} {below : List Frame} {meth : Method} {c : Code} {H : Heap} {locs : List Loc} {Q : State → Prop} {G : GG}
def fY0_goThrough_L13 (N : Nat)  : Nat → St → Int32 → Option (St)
  | 0, _, _ => none
  | n + 1, S, x2 =>
    if 1200 ≤ x2 then
      some S
    else
      gd (inb x2 1200) <|
      nx (p1 S 23 (Int32.toNatClampNeg x2) 0) fun s7 =>
      fY0_goThrough_L13 N n s7 (x2 + 1)
set_option maxHeartbeats 4000000 in
set_option maxRecDepth 100000 in
theorem wY0_goThrough_L13 {N : Nat}  (hC : CallFix p m c cX10_goThrough 3 s args lw_g RX10) (hF : 6 ≤ R.frames) (hL : 143 ≤ R.locals)  {t : St} (kx : ∀ (H : Heap) (locs : List Loc) (ls : Array Slot), wg LY G t s H locs → lv_has ls 3 [(0, .ref (ad G 0))] → W p l e R s m args below meth c H locs 0 0 Q (F0 m 33 ls [])) : ∀ (n : Nat) (S : St) (x2 : Int32), fY0_goThrough_L13 N  n S x2 = some t → ∀ (H : Heap) (locs : List Loc) (ls : Array Slot), wg LY G S s H locs → lv_has ls 3 [(0, .ref (ad G 0)), (2, .int x2)] → W p l e R s m args below meth c H locs 0 0 Q (F0 m 13 ls []) := by
  have hx := hC.1
  have hb := hC.2.1
  intro n
  induction n with
  | zero =>
    intro _ _ h
    cases h
  | succ n ih =>
    intro S x2 h H locs ls hW hl
    rw [fY0_goThrough_L13] at h
    refine lv_iload_n hx hb dX10_goThrough_13 rfl (lv_at hl 1 rfl) ?_
    refine lv_sipush (v := 1200) hx hb dX10_goThrough_14 (by decide) ?_
    refine lv_icmp_ge (tgt := 33) hx hb dX10_goThrough_17 (by decide) (fun q5 => ?_) (fun q5 => ?_)
    · have h := it_p q5 h
      cases h
      exact kx _ _ _ hW (lv_sub hl [0] rfl)
    · have h := it_n q5 h
      refine lv_aload_n hx hb dX10_goThrough_20 rfl (lv_at hl 0 rfl) ?_
      refine gY0_38 hC hW dX10_goThrough_21 ?_
      refine lv_iload_n hx hb dX10_goThrough_24 rfl (lv_at hl 1 rfl) ?_
      refine lv_iconst (v := 0) hx hb dX10_goThrough_25 (by decide) ?_
      obtain ⟨g6, h⟩ := gd_some h
      refine x_iast hC hW aY23 g6 dX10_goThrough_26 (fun H locs hW => ?_)
      obtain ⟨s7, e8, h⟩ := nx_some h
      rw [← e8] at hW
      refine lv_iinc (v := x2 + 1) (lv' := [(2, .int (x2 + 1)), (0, .ref (ad G 0))]) (k := 1) hx hb dX10_goThrough_27 hl rfl rfl (by decide) rfl (fun ls hl => ?_)
      refine lv_goto (tgt := 13) hx hb dX10_goThrough_30 (by decide) ?_
      exact ih _ _ h _ _ _ hW (lv_sub hl [1, 0] rfl)
def fY0_goThrough_L52 (N : Nat)  : Nat → St → Int32 → Option (St)
  | 0, _, _ => none
  | n + 1, S, x2 =>
    if (S.1 0 27) ≤ x2 then
      some S
    else
      gd (inb x2 12) <|
      gd (inb x2 12) <|
      gd (inb (S.1 20 (Int32.toNatClampNeg x2)) 12) <|
      gd (inb ((100 * (S.1 20 (Int32.toNatClampNeg x2))) + (S.1 22 (Int32.toNatClampNeg (S.1 20 (Int32.toNatClampNeg x2))))) 1200) <|
      gd (inb ((100 * (S.1 20 (Int32.toNatClampNeg x2))) + (S.1 22 (Int32.toNatClampNeg (S.1 20 (Int32.toNatClampNeg x2))))) 1200) <|
      nx (p1 S 23 (Int32.toNatClampNeg ((100 * (S.1 20 (Int32.toNatClampNeg x2))) + (S.1 22 (Int32.toNatClampNeg (S.1 20 (Int32.toNatClampNeg x2)))))) ((S.1 23 (Int32.toNatClampNeg ((100 * (S.1 20 (Int32.toNatClampNeg x2))) + (S.1 22 (Int32.toNatClampNeg (S.1 20 (Int32.toNatClampNeg x2))))))) + 1)) fun s22 =>
      fY0_goThrough_L52 N n s22 (x2 + 1)
set_option maxHeartbeats 4000000 in
set_option maxRecDepth 100000 in
theorem wY0_goThrough_L52 {N : Nat}  (hC : CallFix p m c cX10_goThrough 3 s args lw_g RX10) (hF : 6 ≤ R.frames) (hL : 143 ≤ R.locals)  {t : St} (kx : ∀ (H : Heap) (locs : List Loc) (ls : Array Slot), wg LY G t s H locs → lv_has ls 3 [(0, .ref (ad G 0))] → W p l e R s m args below meth c H locs 0 0 Q (F0 m 96 ls [])) : ∀ (n : Nat) (S : St) (x2 : Int32), fY0_goThrough_L52 N  n S x2 = some t → ∀ (H : Heap) (locs : List Loc) (ls : Array Slot), wg LY G S s H locs → lv_has ls 3 [(0, .ref (ad G 0)), (2, .int x2)] → W p l e R s m args below meth c H locs 0 0 Q (F0 m 52 ls []) := by
  have hx := hC.1
  have hb := hC.2.1
  intro n
  induction n with
  | zero =>
    intro _ _ h
    cases h
  | succ n ih =>
    intro S x2 h H locs ls hW hl
    rw [fY0_goThrough_L52] at h
    refine lv_iload_n hx hb dX10_goThrough_52 rfl (lv_at hl 1 rfl) ?_
    refine lv_aload_n hx hb dX10_goThrough_53 rfl (lv_at hl 0 rfl) ?_
    refine gY0_27 hC hW dX10_goThrough_54 ?_
    refine lv_icmp_ge (tgt := 96) hx hb dX10_goThrough_57 (by decide) (fun q16 => ?_) (fun q16 => ?_)
    · have h := it_p q16 h
      cases h
      exact kx _ _ _ hW (lv_sub hl [0] rfl)
    · have h := it_n q16 h
      refine lv_aload_n hx hb dX10_goThrough_60 rfl (lv_at hl 0 rfl) ?_
      refine gY0_38 hC hW dX10_goThrough_61 ?_
      refine lv_bipush (v := 100) hx hb dX10_goThrough_64 (by decide) ?_
      refine lv_aload_n hx hb dX10_goThrough_66 rfl (lv_at hl 0 rfl) ?_
      refine gY0_28 hC hW dX10_goThrough_67 ?_
      refine lv_iload_n hx hb dX10_goThrough_70 rfl (lv_at hl 1 rfl) ?_
      obtain ⟨g17, h⟩ := gd_some h
      refine x_iald hC hW aY20 g17 dX10_goThrough_71 ?_
      refine lv_imul hx hb dX10_goThrough_72 ?_
      refine lv_aload_n hx hb dX10_goThrough_73 rfl (lv_at hl 0 rfl) ?_
      refine gY0_30 hC hW dX10_goThrough_74 ?_
      refine lv_aload_n hx hb dX10_goThrough_77 rfl (lv_at hl 0 rfl) ?_
      refine gY0_28 hC hW dX10_goThrough_78 ?_
      refine lv_iload_n hx hb dX10_goThrough_81 rfl (lv_at hl 1 rfl) ?_
      obtain ⟨g18, h⟩ := gd_some h
      refine x_iald hC hW aY20 g18 dX10_goThrough_82 ?_
      obtain ⟨g19, h⟩ := gd_some h
      refine x_iald hC hW aY22 g19 dX10_goThrough_83 ?_
      refine lv_iadd hx hb dX10_goThrough_84 ?_
      refine lv_dup2_11 hx hb dX10_goThrough_85 rfl rfl ?_
      obtain ⟨g20, h⟩ := gd_some h
      refine x_iald hC hW aY23 g20 dX10_goThrough_86 ?_
      refine lv_iconst (v := 1) hx hb dX10_goThrough_87 (by decide) ?_
      refine lv_iadd hx hb dX10_goThrough_88 ?_
      obtain ⟨g21, h⟩ := gd_some h
      refine x_iast hC hW aY23 g21 dX10_goThrough_89 (fun H locs hW => ?_)
      obtain ⟨s22, e23, h⟩ := nx_some h
      rw [← e23] at hW
      refine lv_iinc (v := x2 + 1) (lv' := [(2, .int (x2 + 1)), (0, .ref (ad G 0))]) (k := 1) hx hb dX10_goThrough_90 hl rfl rfl (by decide) rfl (fun ls hl => ?_)
      refine lv_goto (tgt := 52) hx hb dX10_goThrough_93 (by decide) ?_
      exact ih _ _ h _ _ _ hW (lv_sub hl [1, 0] rfl)
def fY0_goThrough_L33 (N : Nat)  : Nat → St → Option (St)
  | 0, _ => none
  | n + 1, S =>
    Option.bind (fY0_nextFilling N S) fun t11 =>
    if t11.1 = 0 then
      some t11.2
    else
      nx (p1 t11.2 0 37 ((t11.2.1 0 37) + 1)) fun s14 =>
      Option.bind (fY0_goThrough_L52 N N s14 0) fun t24 =>
      fY0_goThrough_L33 N n t24
set_option maxHeartbeats 4000000 in
set_option maxRecDepth 100000 in
theorem wY0_goThrough_L33 {N : Nat}  (hC : CallFix p m c cX10_goThrough 3 s args lw_g RX10) (hF : 6 ≤ R.frames) (hL : 143 ≤ R.locals)  {t : St} (kx : ∀ (H : Heap) (locs : List Loc) (ls : Array Slot), wg LY G t s H locs → lv_has ls 3 [(0, .ref (ad G 0))] → W p l e R s m args below meth c H locs 0 0 Q (F0 m 99 ls [])) : ∀ (n : Nat) (S : St), fY0_goThrough_L33 N  n S = some t → ∀ (H : Heap) (locs : List Loc) (ls : Array Slot), wg LY G S s H locs → lv_has ls 3 [(0, .ref (ad G 0))] → W p l e R s m args below meth c H locs 0 0 Q (F0 m 33 ls []) := by
  have hx := hC.1
  have hb := hC.2.1
  intro n
  induction n with
  | zero =>
    intro _ h
    cases h
  | succ n ih =>
    intro S h H locs ls hW hl
    rw [fY0_goThrough_L33] at h
    refine lv_aload_n hx hb dX10_goThrough_33 rfl (lv_at hl 0 rfl) ?_
    obtain ⟨t11, e12, h⟩ := bd h
    refine x_goi (x_rv (rest := []) hC hW (ctY0_nextFilling e12) (cwV_g hC.2.2.2.2 ml_X10_269 mi_X10_nextFilling md_X10_nextFilling ⟨(Nat.le_trans (Nat.le_of_ble_eq_true rfl) hF), (Nat.le_trans (Nat.le_of_ble_eq_true rfl) hL)⟩) (rcY0 hW) rfl hl.1 rfl (Nat.le_of_ble_eq_true rfl) dX10_goThrough_34) hW (fun H locs hW => ?_)
    refine lv_if_eq (tgt := 99) hx hb dX10_goThrough_37 (by decide) (fun q13 => ?_) (fun q13 => ?_)
    · have h := it_p q13 h
      cases h
      exact kx _ _ _ hW (lv_sub hl [0] rfl)
    · have h := it_n q13 h
      refine lv_aload_n hx hb dX10_goThrough_40 rfl (lv_at hl 0 rfl) ?_
      refine lv_dup hx hb dX10_goThrough_41 rfl ?_
      refine gY0_37 hC hW dX10_goThrough_42 ?_
      refine lv_iconst (v := 1) hx hb dX10_goThrough_45 (by decide) ?_
      refine lv_iadd hx hb dX10_goThrough_46 ?_
      refine pY0_37 hC hW dX10_goThrough_47 (fun H locs hW => ?_)
      obtain ⟨s14, e15, h⟩ := nx_some h
      rw [← e15] at hW
      refine lv_iconst (v := 0) hx hb dX10_goThrough_50 (by decide) ?_
      refine lv_istore_n (lv' := [(2, .int 0), (0, .ref (ad G 0))]) hx hb dX10_goThrough_51 rfl hl (by decide) rfl (fun ls hl => ?_)
      obtain ⟨t24, e25, h⟩ := bd h
      refine wY0_goThrough_L52 hC hF hL  (fun H locs ls hW hl => ?_) _ _ _ e25 _ _ _ hW (lv_sub hl [1, 0] rfl)
      refine lv_goto (tgt := 33) hx hb dX10_goThrough_96 (by decide) ?_
      exact ih _ h _ _ _ hW (lv_sub hl [0] rfl)
def fY0_goThrough (N : Nat) (S : St) (x1 : Int32) : Option (Int32 × St) :=
  Option.bind (fY0_begin N S x1 0) fun t1 =>
  nx (p1 t1 0 37 0) fun s3 =>
  Option.bind (fY0_goThrough_L13 N N s3 0) fun t9 =>
  Option.bind (fY0_goThrough_L33 N N t9) fun t26 =>
  Option.bind (α := Int32) (
    if (t26.1 0 36) = 0 then
      some 1
    else
      some 0
  ) fun t29 =>
  gd (isb t29) <|
  some (t29, t26)
set_option maxHeartbeats 4000000 in
set_option maxRecDepth 100000 in
theorem wY0_goThrough {N : Nat} {S : St} {x1 : Int32} (hC : CallFix p m c cX10_goThrough 3 s args lw_g RX10) (hF : 6 ≤ R.frames) (hL : 143 ≤ R.locals)  {v : Int32} {S' : St} (h : fY0_goThrough N S x1 = some (v, S')) (kr : ∀ (H : Heap) (locs : List Loc) (ls : Array Slot) (pc : Nat), isb v = true → decode cX10_goThrough pc = .ok (.ireturn, 1) → wg LY G (S') s H locs → W p l e R s m args below meth c H locs 0 0 Q (F0 m pc ls [.int v])) : ∀ (H : Heap) (locs : List Loc) (ls : Array Slot), wg LY G S s H locs → lv_has ls 3 [(0, .ref (ad G 0)), (1, .int x1)] → W p l e R s m args below meth c H locs 0 0 Q (F0 m 0 ls []) := by
  have hx := hC.1
  have hb := hC.2.1
  intro H locs ls hW hl
  unfold fY0_goThrough at h
  refine lv_aload_n hx hb dX10_goThrough_0 rfl (lv_at hl 0 rfl) ?_
  refine lv_iload_n hx hb dX10_goThrough_1 rfl (lv_at hl 1 rfl) ?_
  refine lv_iconst (v := 0) hx hb dX10_goThrough_2 (by decide) ?_
  obtain ⟨t1, e2, h⟩ := bd h
  refine x_gov (x_rv (rest := []) hC hW (ctY0_begin e2) (cwV_g hC.2.2.2.2 ml_X10_262 mi_X10_begin md_X10_begin ⟨(Nat.le_trans (Nat.le_of_ble_eq_true rfl) hF), (Nat.le_trans (Nat.le_of_ble_eq_true rfl) hL)⟩) (rcY0 hW) rfl hl.1 rfl (Nat.le_of_ble_eq_true rfl) dX10_goThrough_3) hW (fun H locs hW => ?_)
  refine lv_aload_n hx hb dX10_goThrough_6 rfl (lv_at hl 0 rfl) ?_
  refine lv_iconst (v := 0) hx hb dX10_goThrough_7 (by decide) ?_
  refine pY0_37 hC hW dX10_goThrough_8 (fun H locs hW => ?_)
  obtain ⟨s3, e4, h⟩ := nx_some h
  rw [← e4] at hW
  refine lv_iconst (v := 0) hx hb dX10_goThrough_11 (by decide) ?_
  refine lv_istore_n (lv' := [(2, .int 0), (0, .ref (ad G 0)), (1, .int x1)]) hx hb dX10_goThrough_12 rfl hl (by decide) rfl (fun ls hl => ?_)
  obtain ⟨t9, e10, h⟩ := bd h
  refine wY0_goThrough_L13 hC hF hL  (fun H locs ls hW hl => ?_) _ _ _ e10 _ _ _ hW (lv_sub hl [1, 0] rfl)
  obtain ⟨t26, e27, h⟩ := bd h
  refine wY0_goThrough_L33 hC hF hL  (fun H locs ls hW hl => ?_) _ _ e27 _ _ _ hW (lv_sub hl [0] rfl)
  refine lv_aload_n hx hb dX10_goThrough_99 rfl (lv_at hl 0 rfl) ?_
  refine gY0_36 hC hW dX10_goThrough_100 ?_
  obtain ⟨t29, e30, h⟩ := bd h
  have K28 : ∀ (H : Heap) (locs : List Loc) (ls : Array Slot), wg LY G t26 s H locs → lv_has ls 3 [] → W p l e R s m args below meth c H locs 0 0 Q (F0 m 111 ls [.int t29]) := by
    intro H locs ls hW hl
    obtain ⟨g32, h⟩ := gd_some h
    cases h
    exact kr _ _ _ _ g32 dX10_goThrough_111 hW
  clear h
  have h := e30
  clear e30
  refine lv_if_ne (tgt := 110) hx hb dX10_goThrough_103 (by decide) (fun q31 => ?_) (fun q31 => ?_)
  · have h := it_n q31 h
    refine lv_iconst (v := 0) hx hb dX10_goThrough_110 (by decide) ?_
    cases h
    exact K28 _ _ _ hW (lv_sub hl [] rfl)
  · have h := it_p q31 h
    refine lv_iconst (v := 1) hx hb dX10_goThrough_106 (by decide) ?_
    refine lv_goto (tgt := 111) hx hb dX10_goThrough_107 (by decide) ?_
    cases h
    exact K28 _ _ _ hW (lv_sub hl [] rfl)
theorem ctY0_goThrough {N : Nat} {S : St} {x1 : Int32}  {v : Int32} {S' : St} (h : fY0_goThrough N S x1 = some (v, S')) : Met l yX10_goThrough (wm yX10_goThrough cX10_goThrough 3 (some .boolean)) (rmx 6 143) (pcm LY G S [.ref (ad G 0), .int x1]) (qcI LY G S' v) 0 0 G.2.2.2 :=
  x_enter (own := RX10) rfl rfl (Nat.le_of_ble_eq_true rfl) (fun p e s m below meth c ls hC hr hk hW hl => wY0_goThrough hC (Nat.le_refl _) (Nat.le_refl _)  h (fun H locs ls pc hz hd hW => x_retz hC hr hk hW hz hd) _ _ _ hW hl)
def fYs_areTurns (S : St) (x0 : Int32) : Option (Int32) :=
  Option.bind (fYs_in S x0 1 20000) fun t1 =>
  gd (isb t1) <|
  some t1
set_option maxHeartbeats 4000000 in
set_option maxRecDepth 100000 in
theorem wYs_areTurns {S : St} {x0 : Int32} (hC : CallFix p m c cX10_areTurns 1 s args lw_g RX10) (hF : 1 ≤ R.frames) (hL : 22 ≤ R.locals)  {v : Int32} (h : fYs_areTurns S x0 = some v) (kr : ∀ (H : Heap) (locs : List Loc) (ls : Array Slot) (pc : Nat), isb v = true → decode cX10_areTurns pc = .ok (.ireturn, 1) → wg LY G S s H locs → W p l e R s m args below meth c H locs 0 0 Q (F0 m pc ls [.int v])) : ∀ (H : Heap) (locs : List Loc) (ls : Array Slot), wg LY G S s H locs → lv_has ls 1 [(0, .int x0)] → W p l e R s m args below meth c H locs 0 0 Q (F0 m 0 ls []) := by
  have hx := hC.1
  have hb := hC.2.1
  intro H locs ls hW hl
  unfold fYs_areTurns at h
  refine lv_iload_n hx hb dX10_areTurns_0 rfl (lv_at hl 0 rfl) ?_
  refine lv_iconst (v := 1) hx hb dX10_areTurns_1 (by decide) ?_
  refine lv_sipush (v := 20000) hx hb dX10_areTurns_2 (by decide) ?_
  obtain ⟨t1, e2, h⟩ := bd h
  refine x_goi (x_rs (rest := []) hC hW (ctYs_in e2) (cwS_g hC.2.2.2.2 ml_X10_103 ms_X10_in md_X10_in ⟨(Nat.le_trans (Nat.le_of_ble_eq_true rfl) hF), (Nat.le_trans (Nat.le_of_ble_eq_true rfl) hL)⟩) rfl hl.1 rfl (Nat.le_of_ble_eq_true rfl) dX10_areTurns_5) hW (fun H locs hW => ?_)
  obtain ⟨g3, h⟩ := gd_some h
  cases h
  exact kr _ _ _ _ g3 dX10_areTurns_8 hW
theorem ctYs_areTurns {S : St} {x0 : Int32}  {v : Int32} (h : fYs_areTurns S x0 = some v) : Met l yX10_areTurns (wm yX10_areTurns cX10_areTurns 1 (some .boolean)) (rmx 1 22) (pcm LY G S [.int x0]) (qcI LY G S v) 0 0 G.2.2.2 :=
  x_enter (own := RX10) rfl rfl (Nat.le_of_ble_eq_true rfl) (fun p e s m below meth c ls hC hr hk hW hl => wYs_areTurns hC (Nat.le_refl _) (Nat.le_refl _)  h (fun H locs ls pc hz hd hW => x_retz hC hr hk hW hz hd) _ _ _ hW hl)
def fY0_count (N : Nat) (S : St) (x1 : Int32) : Option (Int32 × St) :=
  Option.bind (fYs_areTurns S x1) fun t1 =>
  if t1 = 0 then
    some ((-1), S)
  else
    Option.bind (fY0_goThrough N S x1) fun t4 =>
    Option.bind (α := St × Int32) (
      if t4.1 = 0 then
        some (t4.2, (-6))
      else
        Option.bind (fY0_ask t4.2 (t4.2.1 0 32) (t4.2.1 0 37)) fun t10 =>
        some (t10.2, t10.1)
    ) fun t7 =>
    some (t7.2, t7.1)
set_option maxHeartbeats 4000000 in
set_option maxRecDepth 100000 in
theorem wY0_count {N : Nat} {S : St} {x1 : Int32} (hC : CallFix p m c cX10_count 2 s args lw_g RX10) (hF : 7 ≤ R.frames) (hL : 165 ≤ R.locals)  {v : Int32} {S' : St} (h : fY0_count N S x1 = some (v, S')) (kr : ∀ (H : Heap) (locs : List Loc) (ls : Array Slot) (pc : Nat), decode cX10_count pc = .ok (.ireturn, 1) → wg LY G (S') s H locs → W p l e R s m args below meth c H locs 0 0 Q (F0 m pc ls [.int v])) : ∀ (H : Heap) (locs : List Loc) (ls : Array Slot), wg LY G S s H locs → lv_has ls 2 [(0, .ref (ad G 0)), (1, .int x1)] → W p l e R s m args below meth c H locs 0 0 Q (F0 m 0 ls []) := by
  have hx := hC.1
  have hb := hC.2.1
  intro H locs ls hW hl
  unfold fY0_count at h
  refine lv_iload_n hx hb dX10_count_0 rfl (lv_at hl 1 rfl) ?_
  obtain ⟨t1, e2, h⟩ := bd h
  refine x_goi (x_rs (rest := []) hC hW (ctYs_areTurns e2) (cwS_g hC.2.2.2.2 ml_X10_273 ms_X10_areTurns md_X10_areTurns ⟨(Nat.le_trans (Nat.le_of_ble_eq_true rfl) hF), (Nat.le_trans (Nat.le_of_ble_eq_true rfl) hL)⟩) rfl hl.1 rfl (Nat.le_of_ble_eq_true rfl) dX10_count_1) hW (fun H locs hW => ?_)
  refine lv_if_ne (tgt := 9) hx hb dX10_count_4 (by decide) (fun q3 => ?_) (fun q3 => ?_)
  · have h := it_n q3 h
    refine lv_aload_n hx hb dX10_count_9 rfl (lv_at hl 0 rfl) ?_
    refine lv_iload_n hx hb dX10_count_10 rfl (lv_at hl 1 rfl) ?_
    obtain ⟨t4, e5, h⟩ := bd h
    refine x_goi (x_rv (rest := []) hC hW (ctY0_goThrough e5) (cwV_g hC.2.2.2.2 ml_X10_276 mi_X10_goThrough md_X10_goThrough ⟨(Nat.le_trans (Nat.le_of_ble_eq_true rfl) hF), (Nat.le_trans (Nat.le_of_ble_eq_true rfl) hL)⟩) (rcY0 hW) rfl hl.1 rfl (Nat.le_of_ble_eq_true rfl) dX10_count_11) hW (fun H locs hW => ?_)
    obtain ⟨t7, e8, h⟩ := bd h
    have K6 : ∀ (H : Heap) (locs : List Loc) (ls : Array Slot), wg LY G t7.1 s H locs → lv_has ls 2 [] → W p l e R s m args below meth c H locs 0 0 Q (F0 m 34 ls [.int t7.2]) := by
      intro H locs ls hW hl
      cases h
      exact kr _ _ _ _ dX10_count_34 hW
    clear h
    have h := e8
    clear e8
    refine lv_if_eq (tgt := 32) hx hb dX10_count_14 (by decide) (fun q9 => ?_) (fun q9 => ?_)
    · have h := it_p q9 h
      refine lv_bipush (v := (-6)) hx hb dX10_count_32 (by decide) ?_
      cases h
      exact K6 _ _ _ hW (lv_sub hl [] rfl)
    · have h := it_n q9 h
      refine lv_aload_n hx hb dX10_count_17 rfl (lv_at hl 0 rfl) ?_
      refine lv_aload_n hx hb dX10_count_18 rfl (lv_at hl 0 rfl) ?_
      refine gY0_32 hC hW dX10_count_19 ?_
      refine lv_aload_n hx hb dX10_count_22 rfl (lv_at hl 0 rfl) ?_
      refine gY0_37 hC hW dX10_count_23 ?_
      obtain ⟨t10, e11, h⟩ := bd h
      refine x_goi (x_rv (rest := []) hC hW (ctY0_ask e11) (cwV_g hC.2.2.2.2 ml_X10_125 mi_X10_ask md_X10_ask ⟨(Nat.le_trans (Nat.le_of_ble_eq_true rfl) hF), (Nat.le_trans (Nat.le_of_ble_eq_true rfl) hL)⟩) (rcY0 hW) rfl hl.1 rfl (Nat.le_of_ble_eq_true rfl) dX10_count_26) hW (fun H locs hW => ?_)
      refine lv_goto (tgt := 34) hx hb dX10_count_29 (by decide) ?_
      cases h
      exact K6 _ _ _ hW (lv_sub hl [] rfl)
  · have h := it_p q3 h
    refine lv_iconst (v := (-1)) hx hb dX10_count_7 (by decide) ?_
    cases h
    exact kr _ _ _ _ dX10_count_8 hW
theorem ctY0_count {N : Nat} {S : St} {x1 : Int32}  {v : Int32} {S' : St} (h : fY0_count N S x1 = some (v, S')) : Met l yX10_count (wm yX10_count cX10_count 2 (some .int)) (rmx 7 165) (pcm LY G S [.ref (ad G 0), .int x1]) (qcI LY G S' v) 0 0 G.2.2.2 :=
  x_enter (own := RX10) rfl rfl (Nat.le_of_ble_eq_true rfl) (fun p e s m below meth c ls hC hr hk hW hl => wY0_count hC (Nat.le_refl _) (Nat.le_refl _)  h (fun H locs ls pc hd hW => x_reti hC hr hk hW hd) _ _ _ hW hl)
def fY0_comeTo_L10 (N : Nat) (x1 : Int32) : Nat → St → Int32 → Option (St)
  | 0, _, _ => none
  | n + 1, S, x2 =>
    if 12 ≤ x2 then
      some S
    else
      Option.bind (fY0_isThere S x2) fun t4 =>
      Option.bind (α := Int32) (
        if t4 = 0 then
          some (-1)
        else
          gd (inb x2 12) <|
          some (S.1 22 (Int32.toNatClampNeg x2))
      ) fun t7 =>
      gd (inb ((40 * x1) + x2) 240) <|
      nx (p1 S 3 (Int32.toNatClampNeg ((40 * x1) + x2)) t7) fun s12 =>
      fY0_comeTo_L10 N x1 n s12 (x2 + 1)
set_option maxHeartbeats 4000000 in
set_option maxRecDepth 100000 in
theorem wY0_comeTo_L10 {N : Nat} {x1 : Int32} (hC : CallFix p m c cX10_comeTo 3 s args lw_g RX10) (hF : 3 ≤ R.frames) (hL : 65 ≤ R.locals)  {t : St} (kx : ∀ (H : Heap) (locs : List Loc) (ls : Array Slot), wg LY G t s H locs → lv_has ls 3 [] → W p l e R s m args below meth c H locs 0 0 Q (F0 m 51 ls [])) : ∀ (n : Nat) (S : St) (x2 : Int32), fY0_comeTo_L10 N x1 n S x2 = some t → ∀ (H : Heap) (locs : List Loc) (ls : Array Slot), wg LY G S s H locs → lv_has ls 3 [(0, .ref (ad G 0)), (1, .int x1), (2, .int x2)] → W p l e R s m args below meth c H locs 0 0 Q (F0 m 10 ls []) := by
  have hx := hC.1
  have hb := hC.2.1
  intro n
  induction n with
  | zero =>
    intro _ _ h
    cases h
  | succ n ih =>
    intro S x2 h H locs ls hW hl
    rw [fY0_comeTo_L10] at h
    refine lv_iload_n hx hb dX10_comeTo_10 rfl (lv_at hl 2 rfl) ?_
    refine lv_bipush (v := 12) hx hb dX10_comeTo_11 (by decide) ?_
    refine lv_icmp_ge (tgt := 51) hx hb dX10_comeTo_13 (by decide) (fun q3 => ?_) (fun q3 => ?_)
    · have h := it_p q3 h
      cases h
      exact kx _ _ _ hW (lv_sub hl [] rfl)
    · have h := it_n q3 h
      refine lv_aload_n hx hb dX10_comeTo_16 rfl (lv_at hl 0 rfl) ?_
      refine gY0_6 hC hW dX10_comeTo_17 ?_
      refine lv_bipush (v := 40) hx hb dX10_comeTo_20 (by decide) ?_
      refine lv_iload_n hx hb dX10_comeTo_22 rfl (lv_at hl 1 rfl) ?_
      refine lv_imul hx hb dX10_comeTo_23 ?_
      refine lv_iload_n hx hb dX10_comeTo_24 rfl (lv_at hl 2 rfl) ?_
      refine lv_iadd hx hb dX10_comeTo_25 ?_
      refine lv_aload_n hx hb dX10_comeTo_26 rfl (lv_at hl 0 rfl) ?_
      refine lv_iload_n hx hb dX10_comeTo_27 rfl (lv_at hl 2 rfl) ?_
      obtain ⟨t4, e5, h⟩ := bd h
      refine x_goi (x_rv (rest := [.int ((40 * x1) + x2), .ref (ad G 3)]) hC hW (ctY0_isThere e5) (cwV_g hC.2.2.2.2 ml_X10_193 mi_X10_isThere md_X10_isThere ⟨(Nat.le_trans (Nat.le_of_ble_eq_true rfl) hF), (Nat.le_trans (Nat.le_of_ble_eq_true rfl) hL)⟩) (rcY0 hW) rfl hl.1 rfl (Nat.le_of_ble_eq_true rfl) dX10_comeTo_28) hW (fun H locs hW => ?_)
      obtain ⟨t7, e8, h⟩ := bd h
      have K6 : ∀ (H : Heap) (locs : List Loc) (ls : Array Slot), wg LY G S s H locs → lv_has ls 3 [(0, .ref (ad G 0)), (1, .int x1), (2, .int x2)] → W p l e R s m args below meth c H locs 0 0 Q (F0 m 44 ls [.int t7, .int ((40 * x1) + x2), .ref (ad G 3)]) := by
        intro H locs ls hW hl
        obtain ⟨g11, h⟩ := gd_some h
        refine x_iast hC hW aY3 g11 dX10_comeTo_44 (fun H locs hW => ?_)
        obtain ⟨s12, e13, h⟩ := nx_some h
        rw [← e13] at hW
        refine lv_iinc (v := x2 + 1) (lv' := [(2, .int (x2 + 1)), (0, .ref (ad G 0)), (1, .int x1)]) (k := 2) hx hb dX10_comeTo_45 hl rfl rfl (by decide) rfl (fun ls hl => ?_)
        refine lv_goto (tgt := 10) hx hb dX10_comeTo_48 (by decide) ?_
        exact ih _ _ h _ _ _ hW (lv_sub hl [1, 2, 0] rfl)
      clear h
      have h := e8
      clear e8
      refine lv_if_eq (tgt := 43) hx hb dX10_comeTo_31 (by decide) (fun q9 => ?_) (fun q9 => ?_)
      · have h := it_p q9 h
        refine lv_iconst (v := (-1)) hx hb dX10_comeTo_43 (by decide) ?_
        cases h
        exact K6 _ _ _ hW (lv_sub hl [0, 1, 2] rfl)
      · have h := it_n q9 h
        refine lv_aload_n hx hb dX10_comeTo_34 rfl (lv_at hl 0 rfl) ?_
        refine gY0_30 hC hW dX10_comeTo_35 ?_
        refine lv_iload_n hx hb dX10_comeTo_38 rfl (lv_at hl 2 rfl) ?_
        obtain ⟨g10, h⟩ := gd_some h
        refine x_iald hC hW aY22 g10 dX10_comeTo_39 ?_
        refine lv_goto (tgt := 44) hx hb dX10_comeTo_40 (by decide) ?_
        cases h
        exact K6 _ _ _ hW (lv_sub hl [0, 1, 2] rfl)
def fY0_comeTo (N : Nat) (S : St) (x1 : Int32) : Option (St) :=
  Option.bind (fY0_row N S x1 12) fun t1 =>
  Option.bind (fY0_comeTo_L10 N x1 N t1.2 0) fun t14 =>
  some t14
set_option maxHeartbeats 4000000 in
set_option maxRecDepth 100000 in
theorem wY0_comeTo {N : Nat} {S : St} {x1 : Int32} (hC : CallFix p m c cX10_comeTo 3 s args lw_g RX10) (hF : 3 ≤ R.frames) (hL : 65 ≤ R.locals)  {S' : St} (h : fY0_comeTo N S x1 = some (S')) (kr : ∀ (H : Heap) (locs : List Loc) (ls : Array Slot) (pc : Nat), decode cX10_comeTo pc = .ok (.return_, 1) → wg LY G (S') s H locs → W p l e R s m args below meth c H locs 0 0 Q (F0 m pc ls [])) : ∀ (H : Heap) (locs : List Loc) (ls : Array Slot), wg LY G S s H locs → lv_has ls 3 [(0, .ref (ad G 0)), (1, .int x1)] → W p l e R s m args below meth c H locs 0 0 Q (F0 m 0 ls []) := by
  have hx := hC.1
  have hb := hC.2.1
  intro H locs ls hW hl
  unfold fY0_comeTo at h
  refine lv_aload_n hx hb dX10_comeTo_0 rfl (lv_at hl 0 rfl) ?_
  refine lv_iload_n hx hb dX10_comeTo_1 rfl (lv_at hl 1 rfl) ?_
  refine lv_bipush (v := 12) hx hb dX10_comeTo_2 (by decide) ?_
  obtain ⟨t1, e2, h⟩ := bd h
  refine x_goi (x_rv (rest := []) hC hW (ctY0_row e2) (cwV_g hC.2.2.2.2 ml_X10_279 mi_X10_row md_X10_row ⟨(Nat.le_trans (Nat.le_of_ble_eq_true rfl) hF), (Nat.le_trans (Nat.le_of_ble_eq_true rfl) hL)⟩) (rcY0 hW) rfl hl.1 rfl (Nat.le_of_ble_eq_true rfl) dX10_comeTo_4) hW (fun H locs hW => ?_)
  refine lv_pop hx hb dX10_comeTo_7 rfl ?_
  refine lv_iconst (v := 0) hx hb dX10_comeTo_8 (by decide) ?_
  refine lv_istore_n (lv' := [(2, .int 0), (0, .ref (ad G 0)), (1, .int x1)]) hx hb dX10_comeTo_9 rfl hl (by decide) rfl (fun ls hl => ?_)
  obtain ⟨t14, e15, h⟩ := bd h
  refine wY0_comeTo_L10 hC hF hL  (fun H locs ls hW hl => ?_) _ _ _ e15 _ _ _ hW (lv_sub hl [1, 2, 0] rfl)
  cases h
  exact kr _ _ _ _ dX10_comeTo_51 hW
theorem ctY0_comeTo {N : Nat} {S : St} {x1 : Int32}  {S' : St} (h : fY0_comeTo N S x1 = some (S')) : Met l yX10_comeTo (wm yX10_comeTo cX10_comeTo 3 none) (rmx 3 65) (pcm LY G S [.ref (ad G 0), .int x1]) (qcV LY G S') 0 0 G.2.2.2 :=
  x_enter (own := RX10) rfl rfl (Nat.le_of_ble_eq_true rfl) (fun p e s m below meth c ls hC hr hk hW hl => wY0_comeTo hC (Nat.le_refl _) (Nat.le_refl _)  h (fun H locs ls pc hd hW => x_retv hC hr hk hW hd) _ _ _ hW hl)
def fY0_fill_L29 (N : Nat) (x1 : Int32) (x2 : Int32) : Nat → St → Int32 → Option (St × Int32)
  | 0, _, _ => none
  | n + 1, S, x4 =>
    if x1 < x4 then
      some (S, x4)
    else
      Option.bind (fY0_nextFilling N S) fun t11 =>
      if t11.1 = 0 then
        some (t11.2, x4)
      else
        fY0_fill_L29 N x1 x2 n t11.2 (x4 + 1)
set_option maxHeartbeats 4000000 in
set_option maxRecDepth 100000 in
theorem wY0_fill_L29 {N : Nat} {x1 : Int32} {x2 : Int32} (hC : CallFix p m c cX10_fill 5 s args lw_g RX10) (hF : 6 ≤ R.frames) (hL : 143 ≤ R.locals)  {t : St × Int32} (kx : ∀ (H : Heap) (locs : List Loc) (ls : Array Slot), wg LY G t.1 s H locs → lv_has ls 5 [(0, .ref (ad G 0)), (1, .int x1), (2, .int x2), (4, .int t.2)] → W p l e R s m args below meth c H locs 0 0 Q (F0 m 48 ls [])) : ∀ (n : Nat) (S : St) (x4 : Int32), fY0_fill_L29 N x1 x2 n S x4 = some t → ∀ (H : Heap) (locs : List Loc) (ls : Array Slot), wg LY G S s H locs → lv_has ls 5 [(0, .ref (ad G 0)), (1, .int x1), (2, .int x2), (4, .int x4)] → W p l e R s m args below meth c H locs 0 0 Q (F0 m 29 ls []) := by
  have hx := hC.1
  have hb := hC.2.1
  intro n
  induction n with
  | zero =>
    intro _ _ h
    cases h
  | succ n ih =>
    intro S x4 h H locs ls hW hl
    rw [fY0_fill_L29] at h
    refine lv_iload hx hb dX10_fill_29 (lv_at hl 3 rfl) ?_
    refine lv_iload_n hx hb dX10_fill_31 rfl (lv_at hl 1 rfl) ?_
    refine lv_icmp_gt (tgt := 48) hx hb dX10_fill_32 (by decide) (fun q10 => ?_) (fun q10 => ?_)
    · have h := it_p q10 h
      cases h
      exact kx _ _ _ hW (lv_sub hl [0, 1, 2, 3] rfl)
    · have h := it_n q10 h
      refine lv_aload_n hx hb dX10_fill_35 rfl (lv_at hl 0 rfl) ?_
      obtain ⟨t11, e12, h⟩ := bd h
      refine x_goi (x_rv (rest := []) hC hW (ctY0_nextFilling e12) (cwV_g hC.2.2.2.2 ml_X10_269 mi_X10_nextFilling md_X10_nextFilling ⟨(Nat.le_trans (Nat.le_of_ble_eq_true rfl) hF), (Nat.le_trans (Nat.le_of_ble_eq_true rfl) hL)⟩) (rcY0 hW) rfl hl.1 rfl (Nat.le_of_ble_eq_true rfl) dX10_fill_36) hW (fun H locs hW => ?_)
      refine lv_if_eq (tgt := 48) hx hb dX10_fill_39 (by decide) (fun q13 => ?_) (fun q13 => ?_)
      · have h := it_p q13 h
        cases h
        exact kx _ _ _ hW (lv_sub hl [0, 1, 2, 3] rfl)
      · have h := it_n q13 h
        refine lv_iinc (v := x4 + 1) (lv' := [(4, .int (x4 + 1)), (0, .ref (ad G 0)), (1, .int x1), (2, .int x2)]) (k := 3) hx hb dX10_fill_42 hl rfl rfl (by decide) rfl (fun ls hl => ?_)
        refine lv_goto (tgt := 29) hx hb dX10_fill_45 (by decide) ?_
        exact ih _ _ h _ _ _ hW (lv_sub hl [1, 2, 3, 0] rfl)
def fY0_fill (N : Nat) (S : St) (x1 : Int32) (x2 : Int32) (x3 : Int32) : Option (Int32 × St) :=
  if x1 < 0 then
    some ((-1), S)
  else
    Option.bind (fYs_isRow S x2) fun t2 =>
    if t2 = 0 then
      some ((-1), S)
    else
      Option.bind (fYs_areTurns S x3) fun t5 =>
      if t5 = 0 then
        some ((-1), S)
      else
        Option.bind (fY0_begin N S x3 0) fun t8 =>
        Option.bind (fY0_fill_L29 N x1 x2 N t8 0) fun t14 =>
        if (t14.1.1 0 36) = 0 then
          if x1 < t14.2 then
            Option.bind (fY0_comeTo N t14.1 x2) fun t18 =>
            some (1, t18)
          else
            some ((-9), t14.1)
        else
          some ((-6), t14.1)
set_option maxHeartbeats 4000000 in
set_option maxRecDepth 100000 in
theorem wY0_fill {N : Nat} {S : St} {x1 : Int32} {x2 : Int32} {x3 : Int32} (hC : CallFix p m c cX10_fill 5 s args lw_g RX10) (hF : 6 ≤ R.frames) (hL : 143 ≤ R.locals)  {v : Int32} {S' : St} (h : fY0_fill N S x1 x2 x3 = some (v, S')) (kr : ∀ (H : Heap) (locs : List Loc) (ls : Array Slot) (pc : Nat), decode cX10_fill pc = .ok (.ireturn, 1) → wg LY G (S') s H locs → W p l e R s m args below meth c H locs 0 0 Q (F0 m pc ls [.int v])) : ∀ (H : Heap) (locs : List Loc) (ls : Array Slot), wg LY G S s H locs → lv_has ls 5 [(0, .ref (ad G 0)), (1, .int x1), (2, .int x2), (3, .int x3)] → W p l e R s m args below meth c H locs 0 0 Q (F0 m 0 ls []) := by
  have hx := hC.1
  have hb := hC.2.1
  intro H locs ls hW hl
  unfold fY0_fill at h
  refine lv_iload_n hx hb dX10_fill_0 rfl (lv_at hl 1 rfl) ?_
  refine lv_if_lt (tgt := 18) hx hb dX10_fill_1 (by decide) (fun q1 => ?_) (fun q1 => ?_)
  · have h := it_p q1 h
    refine lv_iconst (v := (-1)) hx hb dX10_fill_18 (by decide) ?_
    cases h
    exact kr _ _ _ _ dX10_fill_19 hW
  · have h := it_n q1 h
    refine lv_iload_n hx hb dX10_fill_4 rfl (lv_at hl 2 rfl) ?_
    obtain ⟨t2, e3, h⟩ := bd h
    refine x_goi (x_rs (rest := []) hC hW (ctYs_isRow e3) (cwS_g hC.2.2.2.2 ml_X10_107 ms_X10_isRow md_X10_isRow ⟨(Nat.le_trans (Nat.le_of_ble_eq_true rfl) hF), (Nat.le_trans (Nat.le_of_ble_eq_true rfl) hL)⟩) rfl hl.1 rfl (Nat.le_of_ble_eq_true rfl) dX10_fill_5) hW (fun H locs hW => ?_)
    refine lv_if_eq (tgt := 18) hx hb dX10_fill_8 (by decide) (fun q4 => ?_) (fun q4 => ?_)
    · have h := it_p q4 h
      refine lv_iconst (v := (-1)) hx hb dX10_fill_18 (by decide) ?_
      cases h
      exact kr _ _ _ _ dX10_fill_19 hW
    · have h := it_n q4 h
      refine lv_iload_n hx hb dX10_fill_11 rfl (lv_at hl 3 rfl) ?_
      obtain ⟨t5, e6, h⟩ := bd h
      refine x_goi (x_rs (rest := []) hC hW (ctYs_areTurns e6) (cwS_g hC.2.2.2.2 ml_X10_273 ms_X10_areTurns md_X10_areTurns ⟨(Nat.le_trans (Nat.le_of_ble_eq_true rfl) hF), (Nat.le_trans (Nat.le_of_ble_eq_true rfl) hL)⟩) rfl hl.1 rfl (Nat.le_of_ble_eq_true rfl) dX10_fill_12) hW (fun H locs hW => ?_)
      refine lv_if_ne (tgt := 20) hx hb dX10_fill_15 (by decide) (fun q7 => ?_) (fun q7 => ?_)
      · have h := it_n q7 h
        refine lv_aload_n hx hb dX10_fill_20 rfl (lv_at hl 0 rfl) ?_
        refine lv_iload_n hx hb dX10_fill_21 rfl (lv_at hl 3 rfl) ?_
        refine lv_iconst (v := 0) hx hb dX10_fill_22 (by decide) ?_
        obtain ⟨t8, e9, h⟩ := bd h
        refine x_gov (x_rv (rest := []) hC hW (ctY0_begin e9) (cwV_g hC.2.2.2.2 ml_X10_262 mi_X10_begin md_X10_begin ⟨(Nat.le_trans (Nat.le_of_ble_eq_true rfl) hF), (Nat.le_trans (Nat.le_of_ble_eq_true rfl) hL)⟩) (rcY0 hW) rfl hl.1 rfl (Nat.le_of_ble_eq_true rfl) dX10_fill_23) hW (fun H locs hW => ?_)
        refine lv_iconst (v := 0) hx hb dX10_fill_26 (by decide) ?_
        refine lv_istore (lv' := [(4, .int 0), (0, .ref (ad G 0)), (1, .int x1), (2, .int x2), (3, .int x3)]) hx hb dX10_fill_27 hl (by decide) rfl (fun ls hl => ?_)
        obtain ⟨t14, e15, h⟩ := bd h
        refine wY0_fill_L29 hC hF hL  (fun H locs ls hW hl => ?_) _ _ _ e15 _ _ _ hW (lv_sub hl [1, 2, 3, 0] rfl)
        refine lv_aload_n hx hb dX10_fill_48 rfl (lv_at hl 0 rfl) ?_
        refine gY0_36 hC hW dX10_fill_49 ?_
        refine lv_if_eq (tgt := 58) hx hb dX10_fill_52 (by decide) (fun q16 => ?_) (fun q16 => ?_)
        · have h := it_p q16 h
          refine lv_iload hx hb dX10_fill_58 (lv_at hl 3 rfl) ?_
          refine lv_iload_n hx hb dX10_fill_60 rfl (lv_at hl 1 rfl) ?_
          refine lv_icmp_gt (tgt := 67) hx hb dX10_fill_61 (by decide) (fun q17 => ?_) (fun q17 => ?_)
          · have h := it_p q17 h
            refine lv_aload_n hx hb dX10_fill_67 rfl (lv_at hl 0 rfl) ?_
            refine lv_iload_n hx hb dX10_fill_68 rfl (lv_at hl 2 rfl) ?_
            obtain ⟨t18, e19, h⟩ := bd h
            refine x_gov (x_rv (rest := []) hC hW (ctY0_comeTo e19) (cwV_g hC.2.2.2.2 ml_X10_282 mi_X10_comeTo md_X10_comeTo ⟨(Nat.le_trans (Nat.le_of_ble_eq_true rfl) hF), (Nat.le_trans (Nat.le_of_ble_eq_true rfl) hL)⟩) (rcY0 hW) rfl hl.1 rfl (Nat.le_of_ble_eq_true rfl) dX10_fill_69) hW (fun H locs hW => ?_)
            refine lv_iconst (v := 1) hx hb dX10_fill_72 (by decide) ?_
            cases h
            exact kr _ _ _ _ dX10_fill_73 hW
          · have h := it_n q17 h
            refine lv_bipush (v := (-9)) hx hb dX10_fill_64 (by decide) ?_
            cases h
            exact kr _ _ _ _ dX10_fill_66 hW
        · have h := it_n q16 h
          refine lv_bipush (v := (-6)) hx hb dX10_fill_55 (by decide) ?_
          cases h
          exact kr _ _ _ _ dX10_fill_57 hW
      · have h := it_p q7 h
        refine lv_iconst (v := (-1)) hx hb dX10_fill_18 (by decide) ?_
        cases h
        exact kr _ _ _ _ dX10_fill_19 hW
theorem ctY0_fill {N : Nat} {S : St} {x1 : Int32} {x2 : Int32} {x3 : Int32}  {v : Int32} {S' : St} (h : fY0_fill N S x1 x2 x3 = some (v, S')) : Met l yX10_fill (wm yX10_fill cX10_fill 5 (some .int)) (rmx 6 143) (pcm LY G S [.ref (ad G 0), .int x1, .int x2, .int x3]) (qcI LY G S' v) 0 0 G.2.2.2 :=
  x_enter (own := RX10) rfl rfl (Nat.le_of_ble_eq_true rfl) (fun p e s m below meth c ls hC hr hk hW hl => wY0_fill hC (Nat.le_refl _) (Nat.le_refl _)  h (fun H locs ls pc hd hW => x_reti hC hr hk hW hd) _ _ _ hW hl)
def fY0_could_L65 (N : Nat) (S : St) (x5 : Int32) : Nat → Int32 → Int32 → Option (Int32)
  | 0, _, _ => none
  | n + 1, x6, x7 =>
    if x7 = 0 then
      some x6
    else
      gd (!decide (x7 = 0)) <|
      nx (x6 - x6 / x7 * x7) fun y18 =>
      fY0_could_L65 N S x5 n x7 y18
set_option maxHeartbeats 4000000 in
set_option maxRecDepth 100000 in
theorem wY0_could_L65 {N : Nat} {S : St} {x5 : Int32} (hC : CallFix p m c cX10_could 9 s args lw_g RX10) (hF : 7 ≤ R.frames) (hL : 165 ≤ R.locals)  {t : Int32} (kx : ∀ (H : Heap) (locs : List Loc) (ls : Array Slot), wg LY G S s H locs → lv_has ls 9 [(0, .ref (ad G 0)), (5, .int x5), (6, .int t)] → W p l e R s m args below meth c H locs 0 0 Q (F0 m 88 ls [])) : ∀ (n : Nat) (x6 : Int32) (x7 : Int32), fY0_could_L65 N S x5 n x6 x7 = some t → ∀ (H : Heap) (locs : List Loc) (ls : Array Slot), wg LY G S s H locs → lv_has ls 9 [(0, .ref (ad G 0)), (5, .int x5), (6, .int x6), (7, .int x7)] → W p l e R s m args below meth c H locs 0 0 Q (F0 m 65 ls []) := by
  have hx := hC.1
  have hb := hC.2.1
  intro n
  induction n with
  | zero =>
    intro _ _ h
    cases h
  | succ n ih =>
    intro x6 x7 h H locs ls hW hl
    rw [fY0_could_L65] at h
    refine lv_iload hx hb dX10_could_65 (lv_at hl 3 rfl) ?_
    refine lv_if_eq (tgt := 88) hx hb dX10_could_67 (by decide) (fun q16 => ?_) (fun q16 => ?_)
    · have h := it_p q16 h
      cases h
      exact kx _ _ _ hW (lv_sub hl [0, 1, 2] rfl)
    · have h := it_n q16 h
      refine lv_iload hx hb dX10_could_70 (lv_at hl 2 rfl) ?_
      refine lv_iload hx hb dX10_could_72 (lv_at hl 3 rfl) ?_
      obtain ⟨g17, h⟩ := gd_some h
      refine lv_irem hx hb dX10_could_74 (nd0 g17) ?_
      obtain ⟨y18, e19, h⟩ := nx_some h
      refine x_topi e19 ?_
      refine lv_istore (lv' := [(8, .int y18), (0, .ref (ad G 0)), (5, .int x5), (6, .int x6), (7, .int x7)]) hx hb dX10_could_75 hl (by decide) rfl (fun ls hl => ?_)
      refine lv_iload hx hb dX10_could_77 (lv_at hl 4 rfl) ?_
      refine lv_istore (lv' := [(6, .int x7), (8, .int y18), (0, .ref (ad G 0)), (5, .int x5), (7, .int x7)]) hx hb dX10_could_79 hl (by decide) rfl (fun ls hl => ?_)
      refine lv_iload hx hb dX10_could_81 (lv_at hl 1 rfl) ?_
      refine lv_istore (lv' := [(7, .int y18), (6, .int x7), (8, .int y18), (0, .ref (ad G 0)), (5, .int x5)]) hx hb dX10_could_83 hl (by decide) rfl (fun ls hl => ?_)
      refine lv_goto (tgt := 65) hx hb dX10_could_85 (by decide) ?_
      exact ih _ _ h _ _ _ hW (lv_sub hl [3, 4, 1, 0] rfl)
def fY0_could (N : Nat) (S : St) (x1 : Int32) (x2 : Int32) (x3 : Int32) : Option (Int32 × St) :=
  Option.bind (fYs_isNumber S x2) fun t1 =>
  if t1 = 0 then
    some ((-1), S)
  else
    Option.bind (fYs_areTurns S x3) fun t4 =>
    if t4 = 0 then
      some ((-1), S)
    else
      Option.bind (fY0_askedCell S x1) fun t7 =>
      if 0 ≤ t7.1 then
        Option.bind (fY0_goThrough N t7.2 x3) fun t10 =>
        if t10.1 = 0 then
          some ((-6), t10.2)
        else
          gd (inb ((100 * x1) + x2) 1200) <|
          nx (t10.2.1 23 (Int32.toNatClampNeg ((100 * x1) + x2))) fun y14 =>
          Option.bind (fY0_could_L65 N t10.2 y14 N y14 (t10.2.1 0 37)) fun t20 =>
          Option.bind (α := Int64) (
            if t20 = 0 then
              some 0
            else
              gd (!decide (t20 = 0)) <|
              some (Int32.toInt64 (y14 / t20))
          ) fun t23 =>
          nx (p2 t10.2 0 3 t23) fun s27 =>
          Option.bind (α := Int64) (
            if t20 = 0 then
              some 1
            else
              gd (!decide (t20 = 0)) <|
              some (Int32.toInt64 ((s27.1 0 37) / t20))
          ) fun t30 =>
          nx (p2 s27 0 4 t30) fun s34 =>
          some (y14, s34)
      else
        some (t7.1, t7.2)
set_option maxHeartbeats 4000000 in
set_option maxRecDepth 100000 in
theorem wY0_could {N : Nat} {S : St} {x1 : Int32} {x2 : Int32} {x3 : Int32} (hC : CallFix p m c cX10_could 9 s args lw_g RX10) (hF : 7 ≤ R.frames) (hL : 165 ≤ R.locals)  {v : Int32} {S' : St} (h : fY0_could N S x1 x2 x3 = some (v, S')) (kr : ∀ (H : Heap) (locs : List Loc) (ls : Array Slot) (pc : Nat), decode cX10_could pc = .ok (.ireturn, 1) → wg LY G (S') s H locs → W p l e R s m args below meth c H locs 0 0 Q (F0 m pc ls [.int v])) : ∀ (H : Heap) (locs : List Loc) (ls : Array Slot), wg LY G S s H locs → lv_has ls 9 [(0, .ref (ad G 0)), (1, .int x1), (2, .int x2), (3, .int x3)] → W p l e R s m args below meth c H locs 0 0 Q (F0 m 0 ls []) := by
  have hx := hC.1
  have hb := hC.2.1
  intro H locs ls hW hl
  unfold fY0_could at h
  refine lv_iload_n hx hb dX10_could_0 rfl (lv_at hl 2 rfl) ?_
  obtain ⟨t1, e2, h⟩ := bd h
  refine x_goi (x_rs (rest := []) hC hW (ctYs_isNumber e2) (cwS_g hC.2.2.2.2 ml_X10_175 ms_X10_isNumber md_X10_isNumber ⟨(Nat.le_trans (Nat.le_of_ble_eq_true rfl) hF), (Nat.le_trans (Nat.le_of_ble_eq_true rfl) hL)⟩) rfl hl.1 rfl (Nat.le_of_ble_eq_true rfl) dX10_could_1) hW (fun H locs hW => ?_)
  refine lv_if_eq (tgt := 14) hx hb dX10_could_4 (by decide) (fun q3 => ?_) (fun q3 => ?_)
  · have h := it_p q3 h
    refine lv_iconst (v := (-1)) hx hb dX10_could_14 (by decide) ?_
    cases h
    exact kr _ _ _ _ dX10_could_15 hW
  · have h := it_n q3 h
    refine lv_iload_n hx hb dX10_could_7 rfl (lv_at hl 3 rfl) ?_
    obtain ⟨t4, e5, h⟩ := bd h
    refine x_goi (x_rs (rest := []) hC hW (ctYs_areTurns e5) (cwS_g hC.2.2.2.2 ml_X10_273 ms_X10_areTurns md_X10_areTurns ⟨(Nat.le_trans (Nat.le_of_ble_eq_true rfl) hF), (Nat.le_trans (Nat.le_of_ble_eq_true rfl) hL)⟩) rfl hl.1 rfl (Nat.le_of_ble_eq_true rfl) dX10_could_8) hW (fun H locs hW => ?_)
    refine lv_if_ne (tgt := 16) hx hb dX10_could_11 (by decide) (fun q6 => ?_) (fun q6 => ?_)
    · have h := it_n q6 h
      refine lv_aload_n hx hb dX10_could_16 rfl (lv_at hl 0 rfl) ?_
      refine lv_iload_n hx hb dX10_could_17 rfl (lv_at hl 1 rfl) ?_
      obtain ⟨t7, e8, h⟩ := bd h
      refine x_goi (x_rv (rest := []) hC hW (ctY0_askedCell e8) (cwV_g hC.2.2.2.2 ml_X10_184 mi_X10_askedCell md_X10_askedCell ⟨(Nat.le_trans (Nat.le_of_ble_eq_true rfl) hF), (Nat.le_trans (Nat.le_of_ble_eq_true rfl) hL)⟩) (rcY0 hW) rfl hl.1 rfl (Nat.le_of_ble_eq_true rfl) dX10_could_18) hW (fun H locs hW => ?_)
      refine lv_istore (lv' := [(4, .int t7.1), (0, .ref (ad G 0)), (1, .int x1), (2, .int x2), (3, .int x3)]) hx hb dX10_could_21 hl (by decide) rfl (fun ls hl => ?_)
      refine lv_iload hx hb dX10_could_23 (lv_at hl 0 rfl) ?_
      refine lv_if_ge (tgt := 31) hx hb dX10_could_25 (by decide) (fun q9 => ?_) (fun q9 => ?_)
      · have h := it_p q9 h
        refine lv_aload_n hx hb dX10_could_31 rfl (lv_at hl 1 rfl) ?_
        refine lv_iload_n hx hb dX10_could_32 rfl (lv_at hl 4 rfl) ?_
        obtain ⟨t10, e11, h⟩ := bd h
        refine x_goi (x_rv (rest := []) hC hW (ctY0_goThrough e11) (cwV_g hC.2.2.2.2 ml_X10_276 mi_X10_goThrough md_X10_goThrough ⟨(Nat.le_trans (Nat.le_of_ble_eq_true rfl) hF), (Nat.le_trans (Nat.le_of_ble_eq_true rfl) hL)⟩) (rcY0 hW) rfl hl.1 rfl (Nat.le_of_ble_eq_true rfl) dX10_could_33) hW (fun H locs hW => ?_)
        refine lv_if_ne (tgt := 42) hx hb dX10_could_36 (by decide) (fun q12 => ?_) (fun q12 => ?_)
        · have h := it_n q12 h
          refine lv_aload_n hx hb dX10_could_42 rfl (lv_at hl 1 rfl) ?_
          refine gY0_38 hC hW dX10_could_43 ?_
          refine lv_bipush (v := 100) hx hb dX10_could_46 (by decide) ?_
          refine lv_iload_n hx hb dX10_could_48 rfl (lv_at hl 2 rfl) ?_
          refine lv_imul hx hb dX10_could_49 ?_
          refine lv_iload_n hx hb dX10_could_50 rfl (lv_at hl 3 rfl) ?_
          refine lv_iadd hx hb dX10_could_51 ?_
          obtain ⟨g13, h⟩ := gd_some h
          refine x_iald hC hW aY23 g13 dX10_could_52 ?_
          obtain ⟨y14, e15, h⟩ := nx_some h
          refine x_topi e15 ?_
          refine lv_istore (lv' := [(5, .int y14), (4, .int t7.1), (0, .ref (ad G 0)), (1, .int x1), (2, .int x2), (3, .int x3)]) hx hb dX10_could_53 hl (by decide) rfl (fun ls hl => ?_)
          refine lv_iload hx hb dX10_could_55 (lv_at hl 0 rfl) ?_
          refine lv_istore (lv' := [(6, .int y14), (5, .int y14), (4, .int t7.1), (0, .ref (ad G 0)), (1, .int x1), (2, .int x2), (3, .int x3)]) hx hb dX10_could_57 hl (by decide) rfl (fun ls hl => ?_)
          refine lv_aload_n hx hb dX10_could_59 rfl (lv_at hl 3 rfl) ?_
          refine gY0_37 hC hW dX10_could_60 ?_
          refine lv_istore (lv' := [(7, .int (t10.2.1 0 37)), (6, .int y14), (5, .int y14), (4, .int t7.1), (0, .ref (ad G 0)), (1, .int x1), (2, .int x2), (3, .int x3)]) hx hb dX10_could_63 hl (by decide) rfl (fun ls hl => ?_)
          obtain ⟨t20, e21, h⟩ := bd h
          refine wY0_could_L65 hC hF hL  (fun H locs ls hW hl => ?_) _ _ _ e21 _ _ _ hW (lv_sub hl [4, 2, 1, 0] rfl)
          refine lv_aload_n hx hb dX10_could_88 rfl (lv_at hl 0 rfl) ?_
          refine lv_iload hx hb dX10_could_89 (lv_at hl 2 rfl) ?_
          obtain ⟨t23, e24, h⟩ := bd h
          have K22 : ∀ (H : Heap) (locs : List Loc) (ls : Array Slot), wg LY G t10.2 s H locs → lv_has ls 9 [(0, .ref (ad G 0)), (5, .int y14), (6, .int t20)] → W p l e R s m args below meth c H locs 0 0 Q (F0 m 104 ls [.long t23, .ref (ad G 0)]) := by
            intro H locs ls hW hl
            refine pY0_3 hC hW dX10_could_104 (fun H locs hW => ?_)
            obtain ⟨s27, e28, h⟩ := nx_some h
            rw [← e28] at hW
            refine lv_aload_n hx hb dX10_could_107 rfl (lv_at hl 0 rfl) ?_
            refine lv_iload hx hb dX10_could_108 (lv_at hl 2 rfl) ?_
            obtain ⟨t30, e31, h⟩ := bd h
            have K29 : ∀ (H : Heap) (locs : List Loc) (ls : Array Slot), wg LY G s27 s H locs → lv_has ls 9 [(5, .int y14)] → W p l e R s m args below meth c H locs 0 0 Q (F0 m 125 ls [.long t30, .ref (ad G 0)]) := by
              intro H locs ls hW hl
              refine pY0_4 hC hW dX10_could_125 (fun H locs hW => ?_)
              obtain ⟨s34, e35, h⟩ := nx_some h
              rw [← e35] at hW
              refine lv_iload hx hb dX10_could_128 (lv_at hl 0 rfl) ?_
              cases h
              exact kr _ _ _ _ dX10_could_130 hW
            clear h
            have h := e31
            clear e31
            refine lv_if_ne (tgt := 117) hx hb dX10_could_110 (by decide) (fun q32 => ?_) (fun q32 => ?_)
            · have h := it_n q32 h
              refine lv_aload_n hx hb dX10_could_117 rfl (lv_at hl 0 rfl) ?_
              refine gY0_37 hC hW dX10_could_118 ?_
              refine lv_iload hx hb dX10_could_121 (lv_at hl 2 rfl) ?_
              obtain ⟨g33, h⟩ := gd_some h
              refine lv_idiv hx hb dX10_could_123 (nd0 g33) ?_
              refine lv_i2l (v := Int32.toInt64 ((s27.1 0 37) / t20)) hx hb dX10_could_124 rfl ?_
              cases h
              exact K29 _ _ _ hW (lv_sub hl [1] rfl)
            · have h := it_p q32 h
              refine lv_lconst (v := 1) hx hb dX10_could_113 rfl ?_
              refine lv_goto (tgt := 125) hx hb dX10_could_114 (by decide) ?_
              cases h
              exact K29 _ _ _ hW (lv_sub hl [1] rfl)
          clear h
          have h := e24
          clear e24
          refine lv_if_ne (tgt := 98) hx hb dX10_could_91 (by decide) (fun q25 => ?_) (fun q25 => ?_)
          · have h := it_n q25 h
            refine lv_iload hx hb dX10_could_98 (lv_at hl 1 rfl) ?_
            refine lv_iload hx hb dX10_could_100 (lv_at hl 2 rfl) ?_
            obtain ⟨g26, h⟩ := gd_some h
            refine lv_idiv hx hb dX10_could_102 (nd0 g26) ?_
            refine lv_i2l (v := Int32.toInt64 (y14 / t20)) hx hb dX10_could_103 rfl ?_
            cases h
            exact K22 _ _ _ hW (lv_sub hl [0, 1, 2] rfl)
          · have h := it_p q25 h
            refine lv_lconst (v := 0) hx hb dX10_could_94 rfl ?_
            refine lv_goto (tgt := 104) hx hb dX10_could_95 (by decide) ?_
            cases h
            exact K22 _ _ _ hW (lv_sub hl [0, 1, 2] rfl)
        · have h := it_p q12 h
          refine lv_bipush (v := (-6)) hx hb dX10_could_39 (by decide) ?_
          cases h
          exact kr _ _ _ _ dX10_could_41 hW
      · have h := it_n q9 h
        refine lv_iload hx hb dX10_could_28 (lv_at hl 0 rfl) ?_
        cases h
        exact kr _ _ _ _ dX10_could_30 hW
    · have h := it_p q6 h
      refine lv_iconst (v := (-1)) hx hb dX10_could_14 (by decide) ?_
      cases h
      exact kr _ _ _ _ dX10_could_15 hW
theorem ctY0_could {N : Nat} {S : St} {x1 : Int32} {x2 : Int32} {x3 : Int32}  {v : Int32} {S' : St} (h : fY0_could N S x1 x2 x3 = some (v, S')) : Met l yX10_could (wm yX10_could cX10_could 9 (some .int)) (rmx 7 165) (pcm LY G S [.ref (ad G 0), .int x1, .int x2, .int x3]) (qcI LY G S' v) 0 0 G.2.2.2 :=
  x_enter (own := RX10) rfl rfl (Nat.le_of_ble_eq_true rfl) (fun p e s m below meth c ls hC hr hk hW hl => wY0_could hC (Nat.le_refl _) (Nat.le_refl _)  h (fun H locs ls pc hd hW => x_reti hC hr hk hW hd) _ _ _ hW hl)
def fY0_must_L43 (N : Nat) (S : St) (x1 : Int32) : Nat → Int32 → Int32 → Int32 → Option (Int32 × Int32)
  | 0, _, _, _ => none
  | n + 1, x4, x5, x6 =>
    if 100 ≤ x6 then
      some (x4, x5)
    else
      gd (inb ((100 * x1) + x6) 1200) <|
      Option.bind (α := Int32 × Int32) (
        if (S.1 23 (Int32.toNatClampNeg ((100 * x1) + x6))) ≤ 0 then
          some (x4, x5)
        else
          Option.bind (α := Int32) (
            if 0 ≤ x4 then
              some x4
            else
              some x6
          ) fun t17 =>
          some (t17, x6)
      ) fun t13 =>
      fY0_must_L43 N S x1 n t13.1 t13.2 (x6 + 1)
set_option maxHeartbeats 4000000 in
set_option maxRecDepth 100000 in
theorem wY0_must_L43 {N : Nat} {S : St} {x1 : Int32} (hC : CallFix p m c cX10_must 7 s args lw_g RX10) (hF : 7 ≤ R.frames) (hL : 165 ≤ R.locals)  {t : Int32 × Int32} (kx : ∀ (H : Heap) (locs : List Loc) (ls : Array Slot), wg LY G S s H locs → lv_has ls 7 [(0, .ref (ad G 0)), (4, .int t.1), (5, .int t.2)] → W p l e R s m args below meth c H locs 0 0 Q (F0 m 89 ls [])) : ∀ (n : Nat) (x4 : Int32) (x5 : Int32) (x6 : Int32), fY0_must_L43 N S x1 n x4 x5 x6 = some t → ∀ (H : Heap) (locs : List Loc) (ls : Array Slot), wg LY G S s H locs → lv_has ls 7 [(0, .ref (ad G 0)), (1, .int x1), (4, .int x4), (5, .int x5), (6, .int x6)] → W p l e R s m args below meth c H locs 0 0 Q (F0 m 43 ls []) := by
  have hx := hC.1
  have hb := hC.2.1
  intro n
  induction n with
  | zero =>
    intro _ _ _ h
    cases h
  | succ n ih =>
    intro x4 x5 x6 h H locs ls hW hl
    rw [fY0_must_L43] at h
    refine lv_iload hx hb dX10_must_43 (lv_at hl 4 rfl) ?_
    refine lv_bipush (v := 100) hx hb dX10_must_45 (by decide) ?_
    refine lv_icmp_ge (tgt := 89) hx hb dX10_must_47 (by decide) (fun q10 => ?_) (fun q10 => ?_)
    · have h := it_p q10 h
      cases h
      exact kx _ _ _ hW (lv_sub hl [0, 2, 3] rfl)
    · have h := it_n q10 h
      refine lv_aload_n hx hb dX10_must_50 rfl (lv_at hl 0 rfl) ?_
      refine gY0_38 hC hW dX10_must_51 ?_
      refine lv_bipush (v := 100) hx hb dX10_must_54 (by decide) ?_
      refine lv_iload_n hx hb dX10_must_56 rfl (lv_at hl 1 rfl) ?_
      refine lv_imul hx hb dX10_must_57 ?_
      refine lv_iload hx hb dX10_must_58 (lv_at hl 4 rfl) ?_
      refine lv_iadd hx hb dX10_must_60 ?_
      obtain ⟨g11, h⟩ := gd_some h
      refine x_iald hC hW aY23 g11 dX10_must_61 ?_
      obtain ⟨t13, e14, h⟩ := bd h
      have K12 : ∀ (H : Heap) (locs : List Loc) (ls : Array Slot), wg LY G S s H locs → lv_has ls 7 [(0, .ref (ad G 0)), (1, .int x1), (4, .int t13.1), (5, .int t13.2), (6, .int x6)] → W p l e R s m args below meth c H locs 0 0 Q (F0 m 83 ls []) := by
        intro H locs ls hW hl
        refine lv_iinc (v := x6 + 1) (lv' := [(6, .int (x6 + 1)), (0, .ref (ad G 0)), (1, .int x1), (4, .int t13.1), (5, .int t13.2)]) (k := 4) hx hb dX10_must_83 hl rfl rfl (by decide) rfl (fun ls hl => ?_)
        refine lv_goto (tgt := 43) hx hb dX10_must_86 (by decide) ?_
        exact ih _ _ _ h _ _ _ hW (lv_sub hl [1, 2, 3, 4, 0] rfl)
      clear h
      have h := e14
      clear e14
      refine lv_if_le (tgt := 83) hx hb dX10_must_62 (by decide) (fun q15 => ?_) (fun q15 => ?_)
      · have h := it_p q15 h
        cases h
        exact K12 _ _ _ hW (lv_sub hl [0, 1, 2, 3, 4] rfl)
      · have h := it_n q15 h
        refine lv_iload hx hb dX10_must_65 (lv_at hl 2 rfl) ?_
        obtain ⟨t17, e18, h⟩ := bd h
        have K16 : ∀ (H : Heap) (locs : List Loc) (ls : Array Slot), wg LY G S s H locs → lv_has ls 7 [(0, .ref (ad G 0)), (1, .int x1), (6, .int x6)] → W p l e R s m args below meth c H locs 0 0 Q (F0 m 77 ls [.int t17]) := by
          intro H locs ls hW hl
          refine lv_istore (lv' := [(4, .int t17), (0, .ref (ad G 0)), (1, .int x1), (6, .int x6)]) hx hb dX10_must_77 hl (by decide) rfl (fun ls hl => ?_)
          refine lv_iload hx hb dX10_must_79 (lv_at hl 3 rfl) ?_
          refine lv_istore (lv' := [(5, .int x6), (4, .int t17), (0, .ref (ad G 0)), (1, .int x1), (6, .int x6)]) hx hb dX10_must_81 hl (by decide) rfl (fun ls hl => ?_)
          cases h
          exact K12 _ _ _ hW (lv_sub hl [2, 3, 1, 0, 4] rfl)
        clear h
        have h := e18
        clear e18
        refine lv_if_ge (tgt := 75) hx hb dX10_must_67 (by decide) (fun q19 => ?_) (fun q19 => ?_)
        · have h := it_p q19 h
          refine lv_iload hx hb dX10_must_75 (lv_at hl 2 rfl) ?_
          cases h
          exact K16 _ _ _ hW (lv_sub hl [0, 1, 4] rfl)
        · have h := it_n q19 h
          refine lv_iload hx hb dX10_must_70 (lv_at hl 4 rfl) ?_
          refine lv_goto (tgt := 77) hx hb dX10_must_72 (by decide) ?_
          cases h
          exact K16 _ _ _ hW (lv_sub hl [0, 1, 4] rfl)
def fY0_must (N : Nat) (S : St) (x1 : Int32) (x2 : Int32) : Option (Int32 × St) :=
  Option.bind (fYs_areTurns S x2) fun t1 =>
  if t1 = 0 then
    some ((-1), S)
  else
    Option.bind (fY0_askedCell S x1) fun t4 =>
    if 0 ≤ t4.1 then
      Option.bind (fY0_goThrough N t4.2 x2) fun t7 =>
      if t7.1 = 0 then
        some ((-6), t7.2)
      else
        Option.bind (fY0_must_L43 N t7.2 x1 N (-9) (-9) 0) fun t20 =>
        Option.bind (α := St × Int32) (
          if (t7.2.1 0 37) = 0 then
            some (t7.2, (-9))
          else
            Option.bind (fY0_ask t7.2 t20.2 t20.1) fun t26 =>
            some (t26.2, t26.1)
        ) fun t23 =>
        some (t23.2, t23.1)
    else
      some (t4.1, t4.2)
set_option maxHeartbeats 4000000 in
set_option maxRecDepth 100000 in
theorem wY0_must {N : Nat} {S : St} {x1 : Int32} {x2 : Int32} (hC : CallFix p m c cX10_must 7 s args lw_g RX10) (hF : 7 ≤ R.frames) (hL : 165 ≤ R.locals)  {v : Int32} {S' : St} (h : fY0_must N S x1 x2 = some (v, S')) (kr : ∀ (H : Heap) (locs : List Loc) (ls : Array Slot) (pc : Nat), decode cX10_must pc = .ok (.ireturn, 1) → wg LY G (S') s H locs → W p l e R s m args below meth c H locs 0 0 Q (F0 m pc ls [.int v])) : ∀ (H : Heap) (locs : List Loc) (ls : Array Slot), wg LY G S s H locs → lv_has ls 7 [(0, .ref (ad G 0)), (1, .int x1), (2, .int x2)] → W p l e R s m args below meth c H locs 0 0 Q (F0 m 0 ls []) := by
  have hx := hC.1
  have hb := hC.2.1
  intro H locs ls hW hl
  unfold fY0_must at h
  refine lv_iload_n hx hb dX10_must_0 rfl (lv_at hl 2 rfl) ?_
  obtain ⟨t1, e2, h⟩ := bd h
  refine x_goi (x_rs (rest := []) hC hW (ctYs_areTurns e2) (cwS_g hC.2.2.2.2 ml_X10_273 ms_X10_areTurns md_X10_areTurns ⟨(Nat.le_trans (Nat.le_of_ble_eq_true rfl) hF), (Nat.le_trans (Nat.le_of_ble_eq_true rfl) hL)⟩) rfl hl.1 rfl (Nat.le_of_ble_eq_true rfl) dX10_must_1) hW (fun H locs hW => ?_)
  refine lv_if_ne (tgt := 9) hx hb dX10_must_4 (by decide) (fun q3 => ?_) (fun q3 => ?_)
  · have h := it_n q3 h
    refine lv_aload_n hx hb dX10_must_9 rfl (lv_at hl 0 rfl) ?_
    refine lv_iload_n hx hb dX10_must_10 rfl (lv_at hl 1 rfl) ?_
    obtain ⟨t4, e5, h⟩ := bd h
    refine x_goi (x_rv (rest := []) hC hW (ctY0_askedCell e5) (cwV_g hC.2.2.2.2 ml_X10_184 mi_X10_askedCell md_X10_askedCell ⟨(Nat.le_trans (Nat.le_of_ble_eq_true rfl) hF), (Nat.le_trans (Nat.le_of_ble_eq_true rfl) hL)⟩) (rcY0 hW) rfl hl.1 rfl (Nat.le_of_ble_eq_true rfl) dX10_must_11) hW (fun H locs hW => ?_)
    refine lv_istore_n (lv' := [(3, .int t4.1), (0, .ref (ad G 0)), (1, .int x1), (2, .int x2)]) hx hb dX10_must_14 rfl hl (by decide) rfl (fun ls hl => ?_)
    refine lv_iload_n hx hb dX10_must_15 rfl (lv_at hl 0 rfl) ?_
    refine lv_if_ge (tgt := 21) hx hb dX10_must_16 (by decide) (fun q6 => ?_) (fun q6 => ?_)
    · have h := it_p q6 h
      refine lv_aload_n hx hb dX10_must_21 rfl (lv_at hl 1 rfl) ?_
      refine lv_iload_n hx hb dX10_must_22 rfl (lv_at hl 3 rfl) ?_
      obtain ⟨t7, e8, h⟩ := bd h
      refine x_goi (x_rv (rest := []) hC hW (ctY0_goThrough e8) (cwV_g hC.2.2.2.2 ml_X10_276 mi_X10_goThrough md_X10_goThrough ⟨(Nat.le_trans (Nat.le_of_ble_eq_true rfl) hF), (Nat.le_trans (Nat.le_of_ble_eq_true rfl) hL)⟩) (rcY0 hW) rfl hl.1 rfl (Nat.le_of_ble_eq_true rfl) dX10_must_23) hW (fun H locs hW => ?_)
      refine lv_if_ne (tgt := 32) hx hb dX10_must_26 (by decide) (fun q9 => ?_) (fun q9 => ?_)
      · have h := it_n q9 h
        refine lv_bipush (v := (-9)) hx hb dX10_must_32 (by decide) ?_
        refine lv_istore (lv' := [(4, .int (-9)), (3, .int t4.1), (0, .ref (ad G 0)), (1, .int x1), (2, .int x2)]) hx hb dX10_must_34 hl (by decide) rfl (fun ls hl => ?_)
        refine lv_bipush (v := (-9)) hx hb dX10_must_36 (by decide) ?_
        refine lv_istore (lv' := [(5, .int (-9)), (4, .int (-9)), (3, .int t4.1), (0, .ref (ad G 0)), (1, .int x1), (2, .int x2)]) hx hb dX10_must_38 hl (by decide) rfl (fun ls hl => ?_)
        refine lv_iconst (v := 0) hx hb dX10_must_40 (by decide) ?_
        refine lv_istore (lv' := [(6, .int 0), (5, .int (-9)), (4, .int (-9)), (3, .int t4.1), (0, .ref (ad G 0)), (1, .int x1), (2, .int x2)]) hx hb dX10_must_41 hl (by decide) rfl (fun ls hl => ?_)
        obtain ⟨t20, e21, h⟩ := bd h
        refine wY0_must_L43 hC hF hL  (fun H locs ls hW hl => ?_) _ _ _ _ e21 _ _ _ hW (lv_sub hl [4, 5, 2, 1, 0] rfl)
        refine lv_aload_n hx hb dX10_must_89 rfl (lv_at hl 0 rfl) ?_
        refine gY0_37 hC hW dX10_must_90 ?_
        obtain ⟨t23, e24, h⟩ := bd h
        have K22 : ∀ (H : Heap) (locs : List Loc) (ls : Array Slot), wg LY G t23.1 s H locs → lv_has ls 7 [] → W p l e R s m args below meth c H locs 0 0 Q (F0 m 109 ls [.int t23.2]) := by
          intro H locs ls hW hl
          cases h
          exact kr _ _ _ _ dX10_must_109 hW
        clear h
        have h := e24
        clear e24
        refine lv_if_ne (tgt := 101) hx hb dX10_must_93 (by decide) (fun q25 => ?_) (fun q25 => ?_)
        · have h := it_n q25 h
          refine lv_aload_n hx hb dX10_must_101 rfl (lv_at hl 0 rfl) ?_
          refine lv_iload hx hb dX10_must_102 (lv_at hl 2 rfl) ?_
          refine lv_iload hx hb dX10_must_104 (lv_at hl 1 rfl) ?_
          obtain ⟨t26, e27, h⟩ := bd h
          refine x_goi (x_rv (rest := []) hC hW (ctY0_ask e27) (cwV_g hC.2.2.2.2 ml_X10_125 mi_X10_ask md_X10_ask ⟨(Nat.le_trans (Nat.le_of_ble_eq_true rfl) hF), (Nat.le_trans (Nat.le_of_ble_eq_true rfl) hL)⟩) (rcY0 hW) rfl hl.1 rfl (Nat.le_of_ble_eq_true rfl) dX10_must_106) hW (fun H locs hW => ?_)
          cases h
          exact K22 _ _ _ hW (lv_sub hl [] rfl)
        · have h := it_p q25 h
          refine lv_bipush (v := (-9)) hx hb dX10_must_96 (by decide) ?_
          refine lv_goto (tgt := 109) hx hb dX10_must_98 (by decide) ?_
          cases h
          exact K22 _ _ _ hW (lv_sub hl [] rfl)
      · have h := it_p q9 h
        refine lv_bipush (v := (-6)) hx hb dX10_must_29 (by decide) ?_
        cases h
        exact kr _ _ _ _ dX10_must_31 hW
    · have h := it_n q6 h
      refine lv_iload_n hx hb dX10_must_19 rfl (lv_at hl 0 rfl) ?_
      cases h
      exact kr _ _ _ _ dX10_must_20 hW
  · have h := it_p q3 h
    refine lv_iconst (v := (-1)) hx hb dX10_must_7 (by decide) ?_
    cases h
    exact kr _ _ _ _ dX10_must_8 hW
theorem ctY0_must {N : Nat} {S : St} {x1 : Int32} {x2 : Int32}  {v : Int32} {S' : St} (h : fY0_must N S x1 x2 = some (v, S')) : Met l yX10_must (wm yX10_must cX10_must 7 (some .int)) (rmx 7 165) (pcm LY G S [.ref (ad G 0), .int x1, .int x2]) (qcI LY G S' v) 0 0 G.2.2.2 :=
  x_enter (own := RX10) rfl rfl (Nat.le_of_ble_eq_true rfl) (fun p e s m below meth c ls hC hr hk hW hl => wY0_must hC (Nat.le_refl _) (Nat.le_refl _)  h (fun H locs ls pc hd hW => x_reti hC hr hk hW hd) _ _ _ hW hl)
def fY0_worthOf_L4 (N : Nat) (S : St) (x1 : Int32) : Nat → Int32 → Int32 → Option (Int32)
  | 0, _, _ => none
  | n + 1, x2, x3 =>
    if 100 ≤ x3 then
      some x2
    else
      gd (inb ((100 * x1) + x3) 1200) <|
      Option.bind (α := Int32) (
        if (S.1 23 (Int32.toNatClampNeg ((100 * x1) + x3))) ≤ x2 then
          some x2
        else
          gd (inb ((100 * x1) + x3) 1200) <|
          some (S.1 23 (Int32.toNatClampNeg ((100 * x1) + x3)))
      ) fun t4 =>
      fY0_worthOf_L4 N S x1 n t4 (x3 + 1)
set_option maxHeartbeats 4000000 in
set_option maxRecDepth 100000 in
theorem wY0_worthOf_L4 {N : Nat} {S : St} {x1 : Int32} (hC : CallFix p m c cX10_worthOf 4 s args lw_g RX10) (hF : 0 ≤ R.frames) (hL : 0 ≤ R.locals)  {t : Int32} (kx : ∀ (H : Heap) (locs : List Loc) (ls : Array Slot), wg LY G S s H locs → lv_has ls 4 [(2, .int t)] → W p l e R s m args below meth c H locs 0 0 Q (F0 m 47 ls [])) : ∀ (n : Nat) (x2 : Int32) (x3 : Int32), fY0_worthOf_L4 N S x1 n x2 x3 = some t → ∀ (H : Heap) (locs : List Loc) (ls : Array Slot), wg LY G S s H locs → lv_has ls 4 [(0, .ref (ad G 0)), (1, .int x1), (2, .int x2), (3, .int x3)] → W p l e R s m args below meth c H locs 0 0 Q (F0 m 4 ls []) := by
  have hx := hC.1
  have hb := hC.2.1
  intro n
  induction n with
  | zero =>
    intro _ _ h
    cases h
  | succ n ih =>
    intro x2 x3 h H locs ls hW hl
    rw [fY0_worthOf_L4] at h
    refine lv_iload_n hx hb dX10_worthOf_4 rfl (lv_at hl 3 rfl) ?_
    refine lv_bipush (v := 100) hx hb dX10_worthOf_5 (by decide) ?_
    refine lv_icmp_ge (tgt := 47) hx hb dX10_worthOf_7 (by decide) (fun q1 => ?_) (fun q1 => ?_)
    · have h := it_p q1 h
      cases h
      exact kx _ _ _ hW (lv_sub hl [2] rfl)
    · have h := it_n q1 h
      refine lv_aload_n hx hb dX10_worthOf_10 rfl (lv_at hl 0 rfl) ?_
      refine gY0_38 hC hW dX10_worthOf_11 ?_
      refine lv_bipush (v := 100) hx hb dX10_worthOf_14 (by decide) ?_
      refine lv_iload_n hx hb dX10_worthOf_16 rfl (lv_at hl 1 rfl) ?_
      refine lv_imul hx hb dX10_worthOf_17 ?_
      refine lv_iload_n hx hb dX10_worthOf_18 rfl (lv_at hl 3 rfl) ?_
      refine lv_iadd hx hb dX10_worthOf_19 ?_
      obtain ⟨g2, h⟩ := gd_some h
      refine x_iald hC hW aY23 g2 dX10_worthOf_20 ?_
      refine lv_iload_n hx hb dX10_worthOf_21 rfl (lv_at hl 2 rfl) ?_
      obtain ⟨t4, e5, h⟩ := bd h
      have K3 : ∀ (H : Heap) (locs : List Loc) (ls : Array Slot), wg LY G S s H locs → lv_has ls 4 [(0, .ref (ad G 0)), (1, .int x1), (3, .int x3)] → W p l e R s m args below meth c H locs 0 0 Q (F0 m 40 ls [.int t4]) := by
        intro H locs ls hW hl
        refine lv_istore_n (lv' := [(2, .int t4), (0, .ref (ad G 0)), (1, .int x1), (3, .int x3)]) hx hb dX10_worthOf_40 rfl hl (by decide) rfl (fun ls hl => ?_)
        refine lv_iinc (v := x3 + 1) (lv' := [(3, .int (x3 + 1)), (2, .int t4), (0, .ref (ad G 0)), (1, .int x1)]) (k := 3) hx hb dX10_worthOf_41 hl rfl rfl (by decide) rfl (fun ls hl => ?_)
        refine lv_goto (tgt := 4) hx hb dX10_worthOf_44 (by decide) ?_
        exact ih _ _ h _ _ _ hW (lv_sub hl [2, 3, 1, 0] rfl)
      clear h
      have h := e5
      clear e5
      refine lv_icmp_le (tgt := 39) hx hb dX10_worthOf_22 (by decide) (fun q6 => ?_) (fun q6 => ?_)
      · have h := it_p q6 h
        refine lv_iload_n hx hb dX10_worthOf_39 rfl (lv_at hl 2 rfl) ?_
        cases h
        exact K3 _ _ _ hW (lv_sub hl [0, 1, 3] rfl)
      · have h := it_n q6 h
        refine lv_aload_n hx hb dX10_worthOf_25 rfl (lv_at hl 0 rfl) ?_
        refine gY0_38 hC hW dX10_worthOf_26 ?_
        refine lv_bipush (v := 100) hx hb dX10_worthOf_29 (by decide) ?_
        refine lv_iload_n hx hb dX10_worthOf_31 rfl (lv_at hl 1 rfl) ?_
        refine lv_imul hx hb dX10_worthOf_32 ?_
        refine lv_iload_n hx hb dX10_worthOf_33 rfl (lv_at hl 3 rfl) ?_
        refine lv_iadd hx hb dX10_worthOf_34 ?_
        obtain ⟨g7, h⟩ := gd_some h
        refine x_iald hC hW aY23 g7 dX10_worthOf_35 ?_
        refine lv_goto (tgt := 40) hx hb dX10_worthOf_36 (by decide) ?_
        cases h
        exact K3 _ _ _ hW (lv_sub hl [0, 1, 3] rfl)
def fY0_worthOf (N : Nat) (S : St) (x1 : Int32) : Option (Int32) :=
  Option.bind (fY0_worthOf_L4 N S x1 N 0 0) fun t8 =>
  some t8
set_option maxHeartbeats 4000000 in
set_option maxRecDepth 100000 in
theorem wY0_worthOf {N : Nat} {S : St} {x1 : Int32} (hC : CallFix p m c cX10_worthOf 4 s args lw_g RX10) (hF : 0 ≤ R.frames) (hL : 0 ≤ R.locals)  {v : Int32} (h : fY0_worthOf N S x1 = some v) (kr : ∀ (H : Heap) (locs : List Loc) (ls : Array Slot) (pc : Nat), decode cX10_worthOf pc = .ok (.ireturn, 1) → wg LY G S s H locs → W p l e R s m args below meth c H locs 0 0 Q (F0 m pc ls [.int v])) : ∀ (H : Heap) (locs : List Loc) (ls : Array Slot), wg LY G S s H locs → lv_has ls 4 [(0, .ref (ad G 0)), (1, .int x1)] → W p l e R s m args below meth c H locs 0 0 Q (F0 m 0 ls []) := by
  have hx := hC.1
  have hb := hC.2.1
  intro H locs ls hW hl
  unfold fY0_worthOf at h
  refine lv_iconst (v := 0) hx hb dX10_worthOf_0 (by decide) ?_
  refine lv_istore_n (lv' := [(2, .int 0), (0, .ref (ad G 0)), (1, .int x1)]) hx hb dX10_worthOf_1 rfl hl (by decide) rfl (fun ls hl => ?_)
  refine lv_iconst (v := 0) hx hb dX10_worthOf_2 (by decide) ?_
  refine lv_istore_n (lv' := [(3, .int 0), (2, .int 0), (0, .ref (ad G 0)), (1, .int x1)]) hx hb dX10_worthOf_3 rfl hl (by decide) rfl (fun ls hl => ?_)
  obtain ⟨t8, e9, h⟩ := bd h
  refine wY0_worthOf_L4 hC hF hL  (fun H locs ls hW hl => ?_) _ _ _ e9 _ _ _ hW (lv_sub hl [2, 3, 1, 0] rfl)
  refine lv_iload_n hx hb dX10_worthOf_47 rfl (lv_at hl 0 rfl) ?_
  cases h
  exact kr _ _ _ _ dX10_worthOf_48 hW
theorem ctY0_worthOf {N : Nat} {S : St} {x1 : Int32}  {v : Int32} (h : fY0_worthOf N S x1 = some v) : Met l yX10_worthOf (wm yX10_worthOf cX10_worthOf 4 (some .int)) (rmx 0 0) (pcm LY G S [.ref (ad G 0), .int x1]) (qcI LY G S v) 0 0 G.2.2.2 :=
  x_enter (own := RX10) rfl rfl (Nat.le_of_ble_eq_true rfl) (fun p e s m below meth c ls hC hr hk hW hl => wY0_worthOf hC (Nat.le_refl _) (Nat.le_refl _)  h (fun H locs ls pc hd hW => x_reti hC hr hk hW hd) _ _ _ hW hl)
def fY0_sure_L24 (N : Nat) (S : St)  : Nat → Int32 → Int32 → Option (Int32)
  | 0, _, _ => none
  | n + 1, x2, x3 =>
    if (S.1 0 27) ≤ x3 then
      some x2
    else
      if (S.1 0 37) ≤ 0 then
        some x2
      else
        gd (inb x3 12) <|
        Option.bind (fY0_worthOf N S (S.1 20 (Int32.toNatClampNeg x3))) fun t10 =>
        Option.bind (α := Int32) (
          if t10 = (S.1 0 37) then
            gd (inb x3 12) <|
            some (1 <<< ((S.1 20 (Int32.toNatClampNeg x3)) &&& 31))
          else
            some 0
        ) fun t13 =>
        fY0_sure_L24 N S n (x2 ||| t13) (x3 + 1)
set_option maxHeartbeats 4000000 in
set_option maxRecDepth 100000 in
theorem wY0_sure_L24 {N : Nat} {S : St}  (hC : CallFix p m c cX10_sure 4 s args lw_g RX10) (hF : 7 ≤ R.frames) (hL : 165 ≤ R.locals)  {t : Int32} (kx : ∀ (H : Heap) (locs : List Loc) (ls : Array Slot), wg LY G S s H locs → lv_has ls 4 [(2, .int t)] → W p l e R s m args below meth c H locs 0 0 Q (F0 m 77 ls [])) : ∀ (n : Nat) (x2 : Int32) (x3 : Int32), fY0_sure_L24 N S  n x2 x3 = some t → ∀ (H : Heap) (locs : List Loc) (ls : Array Slot), wg LY G S s H locs → lv_has ls 4 [(0, .ref (ad G 0)), (2, .int x2), (3, .int x3)] → W p l e R s m args below meth c H locs 0 0 Q (F0 m 24 ls []) := by
  have hx := hC.1
  have hb := hC.2.1
  intro n
  induction n with
  | zero =>
    intro _ _ h
    cases h
  | succ n ih =>
    intro x2 x3 h H locs ls hW hl
    rw [fY0_sure_L24] at h
    refine lv_iload_n hx hb dX10_sure_24 rfl (lv_at hl 2 rfl) ?_
    refine lv_aload_n hx hb dX10_sure_25 rfl (lv_at hl 0 rfl) ?_
    refine gY0_27 hC hW dX10_sure_26 ?_
    refine lv_icmp_ge (tgt := 77) hx hb dX10_sure_29 (by decide) (fun q7 => ?_) (fun q7 => ?_)
    · have h := it_p q7 h
      cases h
      exact kx _ _ _ hW (lv_sub hl [1] rfl)
    · have h := it_n q7 h
      refine lv_aload_n hx hb dX10_sure_32 rfl (lv_at hl 0 rfl) ?_
      refine gY0_37 hC hW dX10_sure_33 ?_
      refine lv_if_le (tgt := 77) hx hb dX10_sure_36 (by decide) (fun q8 => ?_) (fun q8 => ?_)
      · have h := it_p q8 h
        cases h
        exact kx _ _ _ hW (lv_sub hl [1] rfl)
      · have h := it_n q8 h
        refine lv_iload_n hx hb dX10_sure_39 rfl (lv_at hl 1 rfl) ?_
        refine lv_aload_n hx hb dX10_sure_40 rfl (lv_at hl 0 rfl) ?_
        refine lv_aload_n hx hb dX10_sure_41 rfl (lv_at hl 0 rfl) ?_
        refine gY0_28 hC hW dX10_sure_42 ?_
        refine lv_iload_n hx hb dX10_sure_45 rfl (lv_at hl 2 rfl) ?_
        obtain ⟨g9, h⟩ := gd_some h
        refine x_iald hC hW aY20 g9 dX10_sure_46 ?_
        obtain ⟨t10, e11, h⟩ := bd h
        refine x_goi (x_rv (rest := [.int x2]) hC hW (ctY0_worthOf e11) (cwV_g hC.2.2.2.2 ml_X10_288 mi_X10_worthOf md_X10_worthOf ⟨(Nat.le_trans (Nat.le_of_ble_eq_true rfl) hF), (Nat.le_trans (Nat.le_of_ble_eq_true rfl) hL)⟩) (rcY0 hW) rfl hl.1 rfl (Nat.le_of_ble_eq_true rfl) dX10_sure_47) hW (fun H locs hW => ?_)
        refine lv_aload_n hx hb dX10_sure_50 rfl (lv_at hl 0 rfl) ?_
        refine gY0_37 hC hW dX10_sure_51 ?_
        obtain ⟨t13, e14, h⟩ := bd h
        have K12 : ∀ (H : Heap) (locs : List Loc) (ls : Array Slot), wg LY G S s H locs → lv_has ls 4 [(0, .ref (ad G 0)), (3, .int x3)] → W p l e R s m args below meth c H locs 0 0 Q (F0 m 69 ls [.int t13, .int x2]) := by
          intro H locs ls hW hl
          refine lv_ior hx hb dX10_sure_69 ?_
          refine lv_istore_n (lv' := [(2, .int (x2 ||| t13)), (0, .ref (ad G 0)), (3, .int x3)]) hx hb dX10_sure_70 rfl hl (by decide) rfl (fun ls hl => ?_)
          refine lv_iinc (v := x3 + 1) (lv' := [(3, .int (x3 + 1)), (2, .int (x2 ||| t13)), (0, .ref (ad G 0))]) (k := 2) hx hb dX10_sure_71 hl rfl rfl (by decide) rfl (fun ls hl => ?_)
          refine lv_goto (tgt := 24) hx hb dX10_sure_74 (by decide) ?_
          exact ih _ _ h _ _ _ hW (lv_sub hl [2, 1, 0] rfl)
        clear h
        have h := e14
        clear e14
        refine lv_icmp_ne (tgt := 68) hx hb dX10_sure_54 (by decide) (fun q15 => ?_) (fun q15 => ?_)
        · have h := it_n q15 h
          refine lv_iconst (v := 0) hx hb dX10_sure_68 (by decide) ?_
          cases h
          exact K12 _ _ _ hW (lv_sub hl [0, 2] rfl)
        · have h := it_p q15 h
          refine lv_iconst (v := 1) hx hb dX10_sure_57 (by decide) ?_
          refine lv_aload_n hx hb dX10_sure_58 rfl (lv_at hl 0 rfl) ?_
          refine gY0_28 hC hW dX10_sure_59 ?_
          refine lv_iload_n hx hb dX10_sure_62 rfl (lv_at hl 2 rfl) ?_
          obtain ⟨g16, h⟩ := gd_some h
          refine x_iald hC hW aY20 g16 dX10_sure_63 ?_
          refine lv_ishl hx hb dX10_sure_64 ?_
          refine lv_goto (tgt := 69) hx hb dX10_sure_65 (by decide) ?_
          cases h
          exact K12 _ _ _ hW (lv_sub hl [0, 2] rfl)
def fY0_sure (N : Nat) (S : St) (x1 : Int32) : Option (Int32 × St) :=
  Option.bind (fYs_areTurns S x1) fun t1 =>
  if t1 = 0 then
    some ((-1), S)
  else
    Option.bind (fY0_goThrough N S x1) fun t4 =>
    if t4.1 = 0 then
      some ((-6), t4.2)
    else
      Option.bind (fY0_sure_L24 N t4.2 N 0 0) fun t17 =>
      some (t17, t4.2)
set_option maxHeartbeats 4000000 in
set_option maxRecDepth 100000 in
theorem wY0_sure {N : Nat} {S : St} {x1 : Int32} (hC : CallFix p m c cX10_sure 4 s args lw_g RX10) (hF : 7 ≤ R.frames) (hL : 165 ≤ R.locals)  {v : Int32} {S' : St} (h : fY0_sure N S x1 = some (v, S')) (kr : ∀ (H : Heap) (locs : List Loc) (ls : Array Slot) (pc : Nat), decode cX10_sure pc = .ok (.ireturn, 1) → wg LY G (S') s H locs → W p l e R s m args below meth c H locs 0 0 Q (F0 m pc ls [.int v])) : ∀ (H : Heap) (locs : List Loc) (ls : Array Slot), wg LY G S s H locs → lv_has ls 4 [(0, .ref (ad G 0)), (1, .int x1)] → W p l e R s m args below meth c H locs 0 0 Q (F0 m 0 ls []) := by
  have hx := hC.1
  have hb := hC.2.1
  intro H locs ls hW hl
  unfold fY0_sure at h
  refine lv_iload_n hx hb dX10_sure_0 rfl (lv_at hl 1 rfl) ?_
  obtain ⟨t1, e2, h⟩ := bd h
  refine x_goi (x_rs (rest := []) hC hW (ctYs_areTurns e2) (cwS_g hC.2.2.2.2 ml_X10_273 ms_X10_areTurns md_X10_areTurns ⟨(Nat.le_trans (Nat.le_of_ble_eq_true rfl) hF), (Nat.le_trans (Nat.le_of_ble_eq_true rfl) hL)⟩) rfl hl.1 rfl (Nat.le_of_ble_eq_true rfl) dX10_sure_1) hW (fun H locs hW => ?_)
  refine lv_if_ne (tgt := 9) hx hb dX10_sure_4 (by decide) (fun q3 => ?_) (fun q3 => ?_)
  · have h := it_n q3 h
    refine lv_aload_n hx hb dX10_sure_9 rfl (lv_at hl 0 rfl) ?_
    refine lv_iload_n hx hb dX10_sure_10 rfl (lv_at hl 1 rfl) ?_
    obtain ⟨t4, e5, h⟩ := bd h
    refine x_goi (x_rv (rest := []) hC hW (ctY0_goThrough e5) (cwV_g hC.2.2.2.2 ml_X10_276 mi_X10_goThrough md_X10_goThrough ⟨(Nat.le_trans (Nat.le_of_ble_eq_true rfl) hF), (Nat.le_trans (Nat.le_of_ble_eq_true rfl) hL)⟩) (rcY0 hW) rfl hl.1 rfl (Nat.le_of_ble_eq_true rfl) dX10_sure_11) hW (fun H locs hW => ?_)
    refine lv_if_ne (tgt := 20) hx hb dX10_sure_14 (by decide) (fun q6 => ?_) (fun q6 => ?_)
    · have h := it_n q6 h
      refine lv_iconst (v := 0) hx hb dX10_sure_20 (by decide) ?_
      refine lv_istore_n (lv' := [(2, .int 0), (0, .ref (ad G 0)), (1, .int x1)]) hx hb dX10_sure_21 rfl hl (by decide) rfl (fun ls hl => ?_)
      refine lv_iconst (v := 0) hx hb dX10_sure_22 (by decide) ?_
      refine lv_istore_n (lv' := [(3, .int 0), (2, .int 0), (0, .ref (ad G 0)), (1, .int x1)]) hx hb dX10_sure_23 rfl hl (by decide) rfl (fun ls hl => ?_)
      obtain ⟨t17, e18, h⟩ := bd h
      refine wY0_sure_L24 hC hF hL  (fun H locs ls hW hl => ?_) _ _ _ e18 _ _ _ hW (lv_sub hl [2, 1, 0] rfl)
      refine lv_iload_n hx hb dX10_sure_77 rfl (lv_at hl 0 rfl) ?_
      cases h
      exact kr _ _ _ _ dX10_sure_78 hW
    · have h := it_p q6 h
      refine lv_bipush (v := (-6)) hx hb dX10_sure_17 (by decide) ?_
      cases h
      exact kr _ _ _ _ dX10_sure_19 hW
  · have h := it_p q3 h
    refine lv_iconst (v := (-1)) hx hb dX10_sure_7 (by decide) ?_
    cases h
    exact kr _ _ _ _ dX10_sure_8 hW
theorem ctY0_sure {N : Nat} {S : St} {x1 : Int32}  {v : Int32} {S' : St} (h : fY0_sure N S x1 = some (v, S')) : Met l yX10_sure (wm yX10_sure cX10_sure 4 (some .int)) (rmx 7 165) (pcm LY G S [.ref (ad G 0), .int x1]) (qcI LY G S' v) 0 0 G.2.2.2 :=
  x_enter (own := RX10) rfl rfl (Nat.le_of_ble_eq_true rfl) (fun p e s m below meth c ls hC hr hk hW hl => wY0_sure hC (Nat.le_refl _) (Nat.le_refl _)  h (fun H locs ls pc hd hW => x_reti hC hr hk hW hd) _ _ _ hW hl)
def fY0_next_L28 (N : Nat) (S : St)  : Nat → Int32 → Int32 → Int32 → Option (Int32 × Int32)
  | 0, _, _, _ => none
  | n + 1, x2, x3, x4 =>
    if (S.1 0 27) ≤ x4 then
      some (x2, x3)
    else
      if (S.1 0 37) ≤ 0 then
        some (x2, x3)
      else
        gd (inb x4 12) <|
        Option.bind (fY0_worthOf N S (S.1 20 (Int32.toNatClampNeg x4))) fun t10 =>
        Option.bind (α := Int32 × Int32) (
          if x2 < 0 then
            gd (inb x4 12) <|
            nx (S.1 20 (Int32.toNatClampNeg x4)) fun y17 =>
            some (y17, t10)
          else
            if x3 ≤ t10 then
              some (x2, x3)
            else
              gd (inb x4 12) <|
              nx (S.1 20 (Int32.toNatClampNeg x4)) fun y21 =>
              some (y21, t10)
        ) fun t13 =>
        fY0_next_L28 N S n t13.1 t13.2 (x4 + 1)
set_option maxHeartbeats 4000000 in
set_option maxRecDepth 100000 in
theorem wY0_next_L28 {N : Nat} {S : St}  (hC : CallFix p m c cX10_next 6 s args lw_g RX10) (hF : 7 ≤ R.frames) (hL : 165 ≤ R.locals)  {t : Int32 × Int32} (kx : ∀ (H : Heap) (locs : List Loc) (ls : Array Slot), wg LY G S s H locs → lv_has ls 6 [(0, .ref (ad G 0)), (2, .int t.1), (3, .int t.2)] → W p l e R s m args below meth c H locs 0 0 Q (F0 m 84 ls [])) : ∀ (n : Nat) (x2 : Int32) (x3 : Int32) (x4 : Int32), fY0_next_L28 N S  n x2 x3 x4 = some t → ∀ (H : Heap) (locs : List Loc) (ls : Array Slot), wg LY G S s H locs → lv_has ls 6 [(0, .ref (ad G 0)), (2, .int x2), (3, .int x3), (4, .int x4)] → W p l e R s m args below meth c H locs 0 0 Q (F0 m 28 ls []) := by
  have hx := hC.1
  have hb := hC.2.1
  intro n
  induction n with
  | zero =>
    intro _ _ _ h
    cases h
  | succ n ih =>
    intro x2 x3 x4 h H locs ls hW hl
    rw [fY0_next_L28] at h
    refine lv_iload hx hb dX10_next_28 (lv_at hl 3 rfl) ?_
    refine lv_aload_n hx hb dX10_next_30 rfl (lv_at hl 0 rfl) ?_
    refine gY0_27 hC hW dX10_next_31 ?_
    refine lv_icmp_ge (tgt := 84) hx hb dX10_next_34 (by decide) (fun q7 => ?_) (fun q7 => ?_)
    · have h := it_p q7 h
      cases h
      exact kx _ _ _ hW (lv_sub hl [0, 1, 2] rfl)
    · have h := it_n q7 h
      refine lv_aload_n hx hb dX10_next_37 rfl (lv_at hl 0 rfl) ?_
      refine gY0_37 hC hW dX10_next_38 ?_
      refine lv_if_le (tgt := 84) hx hb dX10_next_41 (by decide) (fun q8 => ?_) (fun q8 => ?_)
      · have h := it_p q8 h
        cases h
        exact kx _ _ _ hW (lv_sub hl [0, 1, 2] rfl)
      · have h := it_n q8 h
        refine lv_aload_n hx hb dX10_next_44 rfl (lv_at hl 0 rfl) ?_
        refine lv_aload_n hx hb dX10_next_45 rfl (lv_at hl 0 rfl) ?_
        refine gY0_28 hC hW dX10_next_46 ?_
        refine lv_iload hx hb dX10_next_49 (lv_at hl 3 rfl) ?_
        obtain ⟨g9, h⟩ := gd_some h
        refine x_iald hC hW aY20 g9 dX10_next_51 ?_
        obtain ⟨t10, e11, h⟩ := bd h
        refine x_goi (x_rv (rest := []) hC hW (ctY0_worthOf e11) (cwV_g hC.2.2.2.2 ml_X10_288 mi_X10_worthOf md_X10_worthOf ⟨(Nat.le_trans (Nat.le_of_ble_eq_true rfl) hF), (Nat.le_trans (Nat.le_of_ble_eq_true rfl) hL)⟩) (rcY0 hW) rfl hl.1 rfl (Nat.le_of_ble_eq_true rfl) dX10_next_52) hW (fun H locs hW => ?_)
        refine lv_istore (lv' := [(5, .int t10), (0, .ref (ad G 0)), (2, .int x2), (3, .int x3), (4, .int x4)]) hx hb dX10_next_55 hl (by decide) rfl (fun ls hl => ?_)
        refine lv_iload_n hx hb dX10_next_57 rfl (lv_at hl 2 rfl) ?_
        obtain ⟨t13, e14, h⟩ := bd h
        have K12 : ∀ (H : Heap) (locs : List Loc) (ls : Array Slot), wg LY G S s H locs → lv_has ls 6 [(0, .ref (ad G 0)), (2, .int t13.1), (3, .int t13.2), (4, .int x4)] → W p l e R s m args below meth c H locs 0 0 Q (F0 m 78 ls []) := by
          intro H locs ls hW hl
          refine lv_iinc (v := x4 + 1) (lv' := [(4, .int (x4 + 1)), (0, .ref (ad G 0)), (2, .int t13.1), (3, .int t13.2)]) (k := 3) hx hb dX10_next_78 hl rfl rfl (by decide) rfl (fun ls hl => ?_)
          refine lv_goto (tgt := 28) hx hb dX10_next_81 (by decide) ?_
          exact ih _ _ _ h _ _ _ hW (lv_sub hl [1, 2, 3, 0] rfl)
        clear h
        have h := e14
        clear e14
        refine lv_if_lt (tgt := 67) hx hb dX10_next_58 (by decide) (fun q15 => ?_) (fun q15 => ?_)
        · have h := it_p q15 h
          refine lv_aload_n hx hb dX10_next_67 rfl (lv_at hl 1 rfl) ?_
          refine gY0_28 hC hW dX10_next_68 ?_
          refine lv_iload hx hb dX10_next_71 (lv_at hl 4 rfl) ?_
          obtain ⟨g16, h⟩ := gd_some h
          refine x_iald hC hW aY20 g16 dX10_next_73 ?_
          obtain ⟨y17, e18, h⟩ := nx_some h
          refine x_topi e18 ?_
          refine lv_istore_n (lv' := [(2, .int y17), (5, .int t10), (0, .ref (ad G 0)), (3, .int x3), (4, .int x4)]) hx hb dX10_next_74 rfl hl (by decide) rfl (fun ls hl => ?_)
          refine lv_iload hx hb dX10_next_75 (lv_at hl 1 rfl) ?_
          refine lv_istore_n (lv' := [(3, .int t10), (2, .int y17), (5, .int t10), (0, .ref (ad G 0)), (4, .int x4)]) hx hb dX10_next_77 rfl hl (by decide) rfl (fun ls hl => ?_)
          cases h
          exact K12 _ _ _ hW (lv_sub hl [3, 1, 0, 4] rfl)
        · have h := it_n q15 h
          refine lv_iload hx hb dX10_next_61 (lv_at hl 0 rfl) ?_
          refine lv_iload_n hx hb dX10_next_63 rfl (lv_at hl 3 rfl) ?_
          refine lv_icmp_ge (tgt := 78) hx hb dX10_next_64 (by decide) (fun q19 => ?_) (fun q19 => ?_)
          · have h := it_p q19 h
            cases h
            exact K12 _ _ _ hW (lv_sub hl [1, 2, 3, 4] rfl)
          · have h := it_n q19 h
            refine lv_aload_n hx hb dX10_next_67 rfl (lv_at hl 1 rfl) ?_
            refine gY0_28 hC hW dX10_next_68 ?_
            refine lv_iload hx hb dX10_next_71 (lv_at hl 4 rfl) ?_
            obtain ⟨g20, h⟩ := gd_some h
            refine x_iald hC hW aY20 g20 dX10_next_73 ?_
            obtain ⟨y21, e22, h⟩ := nx_some h
            refine x_topi e22 ?_
            refine lv_istore_n (lv' := [(2, .int y21), (5, .int t10), (0, .ref (ad G 0)), (3, .int x3), (4, .int x4)]) hx hb dX10_next_74 rfl hl (by decide) rfl (fun ls hl => ?_)
            refine lv_iload hx hb dX10_next_75 (lv_at hl 1 rfl) ?_
            refine lv_istore_n (lv' := [(3, .int t10), (2, .int y21), (5, .int t10), (0, .ref (ad G 0)), (4, .int x4)]) hx hb dX10_next_77 rfl hl (by decide) rfl (fun ls hl => ?_)
            cases h
            exact K12 _ _ _ hW (lv_sub hl [3, 1, 0, 4] rfl)
def fY0_next (N : Nat) (S : St) (x1 : Int32) : Option (Int32 × St) :=
  Option.bind (fYs_areTurns S x1) fun t1 =>
  if t1 = 0 then
    some ((-1), S)
  else
    Option.bind (fY0_goThrough N S x1) fun t4 =>
    if t4.1 = 0 then
      some ((-6), t4.2)
    else
      Option.bind (fY0_next_L28 N t4.2 N (-9) 0 0) fun t23 =>
      Option.bind (α := St × Int32) (
        if 0 ≤ t23.1 then
          Option.bind (fY0_ask t4.2 t23.2 t23.1) fun t29 =>
          some (t29.2, t29.1)
        else
          some (t4.2, (-9))
      ) fun t26 =>
      some (t26.2, t26.1)
set_option maxHeartbeats 4000000 in
set_option maxRecDepth 100000 in
theorem wY0_next {N : Nat} {S : St} {x1 : Int32} (hC : CallFix p m c cX10_next 6 s args lw_g RX10) (hF : 7 ≤ R.frames) (hL : 165 ≤ R.locals)  {v : Int32} {S' : St} (h : fY0_next N S x1 = some (v, S')) (kr : ∀ (H : Heap) (locs : List Loc) (ls : Array Slot) (pc : Nat), decode cX10_next pc = .ok (.ireturn, 1) → wg LY G (S') s H locs → W p l e R s m args below meth c H locs 0 0 Q (F0 m pc ls [.int v])) : ∀ (H : Heap) (locs : List Loc) (ls : Array Slot), wg LY G S s H locs → lv_has ls 6 [(0, .ref (ad G 0)), (1, .int x1)] → W p l e R s m args below meth c H locs 0 0 Q (F0 m 0 ls []) := by
  have hx := hC.1
  have hb := hC.2.1
  intro H locs ls hW hl
  unfold fY0_next at h
  refine lv_iload_n hx hb dX10_next_0 rfl (lv_at hl 1 rfl) ?_
  obtain ⟨t1, e2, h⟩ := bd h
  refine x_goi (x_rs (rest := []) hC hW (ctYs_areTurns e2) (cwS_g hC.2.2.2.2 ml_X10_273 ms_X10_areTurns md_X10_areTurns ⟨(Nat.le_trans (Nat.le_of_ble_eq_true rfl) hF), (Nat.le_trans (Nat.le_of_ble_eq_true rfl) hL)⟩) rfl hl.1 rfl (Nat.le_of_ble_eq_true rfl) dX10_next_1) hW (fun H locs hW => ?_)
  refine lv_if_ne (tgt := 9) hx hb dX10_next_4 (by decide) (fun q3 => ?_) (fun q3 => ?_)
  · have h := it_n q3 h
    refine lv_aload_n hx hb dX10_next_9 rfl (lv_at hl 0 rfl) ?_
    refine lv_iload_n hx hb dX10_next_10 rfl (lv_at hl 1 rfl) ?_
    obtain ⟨t4, e5, h⟩ := bd h
    refine x_goi (x_rv (rest := []) hC hW (ctY0_goThrough e5) (cwV_g hC.2.2.2.2 ml_X10_276 mi_X10_goThrough md_X10_goThrough ⟨(Nat.le_trans (Nat.le_of_ble_eq_true rfl) hF), (Nat.le_trans (Nat.le_of_ble_eq_true rfl) hL)⟩) (rcY0 hW) rfl hl.1 rfl (Nat.le_of_ble_eq_true rfl) dX10_next_11) hW (fun H locs hW => ?_)
    refine lv_if_ne (tgt := 20) hx hb dX10_next_14 (by decide) (fun q6 => ?_) (fun q6 => ?_)
    · have h := it_n q6 h
      refine lv_bipush (v := (-9)) hx hb dX10_next_20 (by decide) ?_
      refine lv_istore_n (lv' := [(2, .int (-9)), (0, .ref (ad G 0)), (1, .int x1)]) hx hb dX10_next_22 rfl hl (by decide) rfl (fun ls hl => ?_)
      refine lv_iconst (v := 0) hx hb dX10_next_23 (by decide) ?_
      refine lv_istore_n (lv' := [(3, .int 0), (2, .int (-9)), (0, .ref (ad G 0)), (1, .int x1)]) hx hb dX10_next_24 rfl hl (by decide) rfl (fun ls hl => ?_)
      refine lv_iconst (v := 0) hx hb dX10_next_25 (by decide) ?_
      refine lv_istore (lv' := [(4, .int 0), (3, .int 0), (2, .int (-9)), (0, .ref (ad G 0)), (1, .int x1)]) hx hb dX10_next_26 hl (by decide) rfl (fun ls hl => ?_)
      obtain ⟨t23, e24, h⟩ := bd h
      refine wY0_next_L28 hC hF hL  (fun H locs ls hW hl => ?_) _ _ _ _ e24 _ _ _ hW (lv_sub hl [3, 2, 1, 0] rfl)
      refine lv_iload_n hx hb dX10_next_84 rfl (lv_at hl 1 rfl) ?_
      obtain ⟨t26, e27, h⟩ := bd h
      have K25 : ∀ (H : Heap) (locs : List Loc) (ls : Array Slot), wg LY G t26.1 s H locs → lv_has ls 6 [] → W p l e R s m args below meth c H locs 0 0 Q (F0 m 99 ls [.int t26.2]) := by
        intro H locs ls hW hl
        cases h
        exact kr _ _ _ _ dX10_next_99 hW
      clear h
      have h := e27
      clear e27
      refine lv_if_ge (tgt := 93) hx hb dX10_next_85 (by decide) (fun q28 => ?_) (fun q28 => ?_)
      · have h := it_p q28 h
        refine lv_aload_n hx hb dX10_next_93 rfl (lv_at hl 0 rfl) ?_
        refine lv_iload_n hx hb dX10_next_94 rfl (lv_at hl 2 rfl) ?_
        refine lv_iload_n hx hb dX10_next_95 rfl (lv_at hl 1 rfl) ?_
        obtain ⟨t29, e30, h⟩ := bd h
        refine x_goi (x_rv (rest := []) hC hW (ctY0_ask e30) (cwV_g hC.2.2.2.2 ml_X10_125 mi_X10_ask md_X10_ask ⟨(Nat.le_trans (Nat.le_of_ble_eq_true rfl) hF), (Nat.le_trans (Nat.le_of_ble_eq_true rfl) hL)⟩) (rcY0 hW) rfl hl.1 rfl (Nat.le_of_ble_eq_true rfl) dX10_next_96) hW (fun H locs hW => ?_)
        cases h
        exact K25 _ _ _ hW (lv_sub hl [] rfl)
      · have h := it_n q28 h
        refine lv_bipush (v := (-9)) hx hb dX10_next_88 (by decide) ?_
        refine lv_goto (tgt := 99) hx hb dX10_next_90 (by decide) ?_
        cases h
        exact K25 _ _ _ hW (lv_sub hl [] rfl)
    · have h := it_p q6 h
      refine lv_bipush (v := (-6)) hx hb dX10_next_17 (by decide) ?_
      cases h
      exact kr _ _ _ _ dX10_next_19 hW
  · have h := it_p q3 h
    refine lv_iconst (v := (-1)) hx hb dX10_next_7 (by decide) ?_
    cases h
    exact kr _ _ _ _ dX10_next_8 hW
theorem ctY0_next {N : Nat} {S : St} {x1 : Int32}  {v : Int32} {S' : St} (h : fY0_next N S x1 = some (v, S')) : Met l yX10_next (wm yX10_next cX10_next 6 (some .int)) (rmx 7 165) (pcm LY G S [.ref (ad G 0), .int x1]) (qcI LY G S' v) 0 0 G.2.2.2 :=
  x_enter (own := RX10) rfl rfl (Nat.le_of_ble_eq_true rfl) (fun p e s m below meth c ls hC hr hk hW hl => wY0_next hC (Nat.le_refl _) (Nat.le_refl _)  h (fun H locs ls pc hd hW => x_reti hC hr hk hW hd) _ _ _ hW hl)
def fY0_like_L58 (N : Nat) (x1 : Int32) (x2 : Int32) (x3 : Int32) : Nat → St → Int32 → Option ((Int32 × St) ⊕ (St))
  | 0, _, _ => none
  | n + 1, S, x5 =>
    if 10 ≤ x5 then
      some (.inr S)
    else
      Option.bind (fY0_rowAt S x1 x5) fun t16 =>
      gd (inb x5 10) <|
      nx (p1 S 24 (Int32.toNatClampNeg x5) t16) fun s19 =>
      gd (inb x5 10) <|
      Option.bind (fYs_isNumber s19 (s19.1 24 (Int32.toNatClampNeg x5))) fun t22 =>
      if t22 = 0 then
        Option.bind (fY0_meets s19 3) fun t25 =>
        some (.inl (t25.1, t25.2))
      else
        fY0_like_L58 N x1 x2 x3 n s19 (x5 + 1)
set_option maxHeartbeats 4000000 in
set_option maxRecDepth 100000 in
theorem wY0_like_L58 {N : Nat} {x1 : Int32} {x2 : Int32} {x3 : Int32} (hC : CallFix p m c cX10_like 8 s args lw_g RX10) (hF : 6 ≤ R.frames) (hL : 143 ≤ R.locals)  {t : (Int32 × St) ⊕ (St)} (kr : ∀ r, t = .inl r → ∀ (H : Heap) (locs : List Loc) (ls : Array Slot) (pc : Nat), decode cX10_like pc = .ok (.ireturn, 1) → wg LY G r.2 s H locs → W p l e R s m args below meth c H locs 0 0 Q (F0 m pc ls [.int r.1])) (kx : ∀ u, t = .inr u → ∀ (H : Heap) (locs : List Loc) (ls : Array Slot), wg LY G u s H locs → lv_has ls 8 [(0, .ref (ad G 0)), (2, .int x2), (3, .int x3)] → W p l e R s m args below meth c H locs 0 0 Q (F0 m 104 ls [])) : ∀ (n : Nat) (S : St) (x5 : Int32), fY0_like_L58 N x1 x2 x3 n S x5 = some t → ∀ (H : Heap) (locs : List Loc) (ls : Array Slot), wg LY G S s H locs → lv_has ls 8 [(0, .ref (ad G 0)), (1, .int x1), (2, .int x2), (3, .int x3), (5, .int x5)] → W p l e R s m args below meth c H locs 0 0 Q (F0 m 58 ls []) := by
  have hx := hC.1
  have hb := hC.2.1
  intro n
  induction n with
  | zero =>
    intro _ _ h
    cases h
  | succ n ih =>
    intro S x5 h H locs ls hW hl
    rw [fY0_like_L58] at h
    refine lv_iload hx hb dX10_like_58 (lv_at hl 4 rfl) ?_
    refine lv_bipush (v := 10) hx hb dX10_like_60 (by decide) ?_
    refine lv_icmp_ge (tgt := 104) hx hb dX10_like_62 (by decide) (fun q15 => ?_) (fun q15 => ?_)
    · have h := it_p q15 h
      cases h
      exact kx _ rfl _ _ _ hW (lv_sub hl [0, 2, 3] rfl)
    · have h := it_n q15 h
      refine lv_aload_n hx hb dX10_like_65 rfl (lv_at hl 0 rfl) ?_
      refine gY0_39 hC hW dX10_like_66 ?_
      refine lv_iload hx hb dX10_like_69 (lv_at hl 4 rfl) ?_
      refine lv_aload_n hx hb dX10_like_71 rfl (lv_at hl 0 rfl) ?_
      refine lv_iload_n hx hb dX10_like_72 rfl (lv_at hl 1 rfl) ?_
      refine lv_iload hx hb dX10_like_73 (lv_at hl 4 rfl) ?_
      obtain ⟨t16, e17, h⟩ := bd h
      refine x_goi (x_rv (rest := [.int x5, .ref (ad G 24)]) hC hW (ctY0_rowAt e17) (cwV_g hC.2.2.2.2 ml_X10_121 mi_X10_rowAt md_X10_rowAt ⟨(Nat.le_trans (Nat.le_of_ble_eq_true rfl) hF), (Nat.le_trans (Nat.le_of_ble_eq_true rfl) hL)⟩) (rcY0 hW) rfl hl.1 rfl (Nat.le_of_ble_eq_true rfl) dX10_like_75) hW (fun H locs hW => ?_)
      obtain ⟨g18, h⟩ := gd_some h
      refine x_iast hC hW aY24 g18 dX10_like_78 (fun H locs hW => ?_)
      obtain ⟨s19, e20, h⟩ := nx_some h
      rw [← e20] at hW
      refine lv_aload_n hx hb dX10_like_79 rfl (lv_at hl 0 rfl) ?_
      refine gY0_39 hC hW dX10_like_80 ?_
      refine lv_iload hx hb dX10_like_83 (lv_at hl 4 rfl) ?_
      obtain ⟨g21, h⟩ := gd_some h
      refine x_iald hC hW aY24 g21 dX10_like_85 ?_
      obtain ⟨t22, e23, h⟩ := bd h
      refine x_goi (x_rs (rest := []) hC hW (ctYs_isNumber e23) (cwS_g hC.2.2.2.2 ml_X10_175 ms_X10_isNumber md_X10_isNumber ⟨(Nat.le_trans (Nat.le_of_ble_eq_true rfl) hF), (Nat.le_trans (Nat.le_of_ble_eq_true rfl) hL)⟩) rfl hl.1 rfl (Nat.le_of_ble_eq_true rfl) dX10_like_86) hW (fun H locs hW => ?_)
      refine lv_if_ne (tgt := 98) hx hb dX10_like_89 (by decide) (fun q24 => ?_) (fun q24 => ?_)
      · have h := it_n q24 h
        refine lv_iinc (v := x5 + 1) (lv' := [(5, .int (x5 + 1)), (0, .ref (ad G 0)), (1, .int x1), (2, .int x2), (3, .int x3)]) (k := 4) hx hb dX10_like_98 hl rfl rfl (by decide) rfl (fun ls hl => ?_)
        refine lv_goto (tgt := 58) hx hb dX10_like_101 (by decide) ?_
        exact ih _ _ h _ _ _ hW (lv_sub hl [1, 2, 3, 4, 0] rfl)
      · have h := it_p q24 h
        refine lv_aload_n hx hb dX10_like_92 rfl (lv_at hl 0 rfl) ?_
        refine lv_iconst (v := 3) hx hb dX10_like_93 (by decide) ?_
        obtain ⟨t25, e26, h⟩ := bd h
        refine x_goi (x_rv (rest := []) hC hW (ctY0_meets e26) (cwV_g hC.2.2.2.2 ml_X10_111 mi_X10_meets md_X10_meets ⟨(Nat.le_trans (Nat.le_of_ble_eq_true rfl) hF), (Nat.le_trans (Nat.le_of_ble_eq_true rfl) hL)⟩) (rcY0 hW) rfl hl.1 rfl (Nat.le_of_ble_eq_true rfl) dX10_like_94) hW (fun H locs hW => ?_)
        cases h
        exact kr _ rfl _ _ _ _ dX10_like_97 hW
def fY0_like_L127 (N : Nat) (S : St) (x2 : Int32) (x5 : Int32) : Nat → Int32 → Int32 → Option (Int32)
  | 0, _, _ => none
  | n + 1, x6, x7 =>
    if (S.1 0 27) ≤ x7 then
      some x6
    else
      gd (inb x7 12) <|
      gd (inb (S.1 20 (Int32.toNatClampNeg x7)) 12) <|
      gd (inb ((S.1 22 (Int32.toNatClampNeg (S.1 20 (Int32.toNatClampNeg x7)))) - (S.1 22 (Int32.toNatClampNeg (S.1 20 (Int32.toNatClampNeg x7)))) / 10 * 10) 10) <|
      nx (x6 + (S.1 24 (Int32.toNatClampNeg ((S.1 22 (Int32.toNatClampNeg (S.1 20 (Int32.toNatClampNeg x7)))) - (S.1 22 (Int32.toNatClampNeg (S.1 20 (Int32.toNatClampNeg x7)))) / 10 * 10)))) fun y39 =>
      fY0_like_L127 N S x2 x5 n y39 (x7 + 1)
set_option maxHeartbeats 4000000 in
set_option maxRecDepth 100000 in
theorem wY0_like_L127 {N : Nat} {S : St} {x2 : Int32} {x5 : Int32} (hC : CallFix p m c cX10_like 8 s args lw_g RX10) (hF : 6 ≤ R.frames) (hL : 143 ≤ R.locals)  {t : Int32} (kx : ∀ (H : Heap) (locs : List Loc) (ls : Array Slot), wg LY G S s H locs → lv_has ls 8 [(0, .ref (ad G 0)), (2, .int x2), (5, .int x5), (6, .int t)] → W p l e R s m args below meth c H locs 0 0 Q (F0 m 167 ls [])) : ∀ (n : Nat) (x6 : Int32) (x7 : Int32), fY0_like_L127 N S x2 x5 n x6 x7 = some t → ∀ (H : Heap) (locs : List Loc) (ls : Array Slot), wg LY G S s H locs → lv_has ls 8 [(0, .ref (ad G 0)), (2, .int x2), (5, .int x5), (6, .int x6), (7, .int x7)] → W p l e R s m args below meth c H locs 0 0 Q (F0 m 127 ls []) := by
  have hx := hC.1
  have hb := hC.2.1
  intro n
  induction n with
  | zero =>
    intro _ _ h
    cases h
  | succ n ih =>
    intro x6 x7 h H locs ls hW hl
    rw [fY0_like_L127] at h
    refine lv_iload hx hb dX10_like_127 (lv_at hl 4 rfl) ?_
    refine lv_aload_n hx hb dX10_like_129 rfl (lv_at hl 0 rfl) ?_
    refine gY0_27 hC hW dX10_like_130 ?_
    refine lv_icmp_ge (tgt := 167) hx hb dX10_like_133 (by decide) (fun q35 => ?_) (fun q35 => ?_)
    · have h := it_p q35 h
      cases h
      exact kx _ _ _ hW (lv_sub hl [0, 1, 2, 3] rfl)
    · have h := it_n q35 h
      refine lv_iload hx hb dX10_like_136 (lv_at hl 3 rfl) ?_
      refine lv_aload_n hx hb dX10_like_138 rfl (lv_at hl 0 rfl) ?_
      refine gY0_39 hC hW dX10_like_139 ?_
      refine lv_aload_n hx hb dX10_like_142 rfl (lv_at hl 0 rfl) ?_
      refine gY0_30 hC hW dX10_like_143 ?_
      refine lv_aload_n hx hb dX10_like_146 rfl (lv_at hl 0 rfl) ?_
      refine gY0_28 hC hW dX10_like_147 ?_
      refine lv_iload hx hb dX10_like_150 (lv_at hl 4 rfl) ?_
      obtain ⟨g36, h⟩ := gd_some h
      refine x_iald hC hW aY20 g36 dX10_like_152 ?_
      obtain ⟨g37, h⟩ := gd_some h
      refine x_iald hC hW aY22 g37 dX10_like_153 ?_
      refine lv_bipush (v := 10) hx hb dX10_like_154 (by decide) ?_
      refine lv_irem hx hb dX10_like_156 (by decide) ?_
      obtain ⟨g38, h⟩ := gd_some h
      refine x_iald hC hW aY24 g38 dX10_like_157 ?_
      refine lv_iadd hx hb dX10_like_158 ?_
      obtain ⟨y39, e40, h⟩ := nx_some h
      refine x_topi e40 ?_
      refine lv_istore (lv' := [(6, .int y39), (0, .ref (ad G 0)), (2, .int x2), (5, .int x5), (7, .int x7)]) hx hb dX10_like_159 hl (by decide) rfl (fun ls hl => ?_)
      refine lv_iinc (v := x7 + 1) (lv' := [(7, .int (x7 + 1)), (6, .int y39), (0, .ref (ad G 0)), (2, .int x2), (5, .int x5)]) (k := 4) hx hb dX10_like_161 hl rfl rfl (by decide) rfl (fun ls hl => ?_)
      refine lv_goto (tgt := 127) hx hb dX10_like_164 (by decide) ?_
      exact ih _ _ h _ _ _ hW (lv_sub hl [2, 3, 4, 1, 0] rfl)
def fY0_like_L181 (N : Nat) (x2 : Int32) (x5 : Int32) : Nat → St → Int32 → Option (St)
  | 0, _, _ => none
  | n + 1, S, x7 =>
    if 12 ≤ x7 then
      some S
    else
      gd (inb x7 12) <|
      gd (inb x7 12) <|
      nx (p1 S 25 (Int32.toNatClampNeg x7) (S.1 22 (Int32.toNatClampNeg x7))) fun s50 =>
      fY0_like_L181 N x2 x5 n s50 (x7 + 1)
set_option maxHeartbeats 4000000 in
set_option maxRecDepth 100000 in
theorem wY0_like_L181 {N : Nat} {x2 : Int32} {x5 : Int32} (hC : CallFix p m c cX10_like 8 s args lw_g RX10) (hF : 6 ≤ R.frames) (hL : 143 ≤ R.locals)  {t : St} (kx : ∀ (H : Heap) (locs : List Loc) (ls : Array Slot), wg LY G t s H locs → lv_has ls 8 [(0, .ref (ad G 0)), (2, .int x2), (5, .int x5)] → W p l e R s m args below meth c H locs 0 0 Q (F0 m 208 ls [])) : ∀ (n : Nat) (S : St) (x7 : Int32), fY0_like_L181 N x2 x5 n S x7 = some t → ∀ (H : Heap) (locs : List Loc) (ls : Array Slot), wg LY G S s H locs → lv_has ls 8 [(0, .ref (ad G 0)), (2, .int x2), (5, .int x5), (7, .int x7)] → W p l e R s m args below meth c H locs 0 0 Q (F0 m 181 ls []) := by
  have hx := hC.1
  have hb := hC.2.1
  intro n
  induction n with
  | zero =>
    intro _ _ h
    cases h
  | succ n ih =>
    intro S x7 h H locs ls hW hl
    rw [fY0_like_L181] at h
    refine lv_iload hx hb dX10_like_181 (lv_at hl 3 rfl) ?_
    refine lv_bipush (v := 12) hx hb dX10_like_183 (by decide) ?_
    refine lv_icmp_ge (tgt := 208) hx hb dX10_like_185 (by decide) (fun q47 => ?_) (fun q47 => ?_)
    · have h := it_p q47 h
      cases h
      exact kx _ _ _ hW (lv_sub hl [0, 1, 2] rfl)
    · have h := it_n q47 h
      refine lv_aload_n hx hb dX10_like_188 rfl (lv_at hl 0 rfl) ?_
      refine gY0_40 hC hW dX10_like_189 ?_
      refine lv_iload hx hb dX10_like_192 (lv_at hl 3 rfl) ?_
      refine lv_aload_n hx hb dX10_like_194 rfl (lv_at hl 0 rfl) ?_
      refine gY0_30 hC hW dX10_like_195 ?_
      refine lv_iload hx hb dX10_like_198 (lv_at hl 3 rfl) ?_
      obtain ⟨g48, h⟩ := gd_some h
      refine x_iald hC hW aY22 g48 dX10_like_200 ?_
      obtain ⟨g49, h⟩ := gd_some h
      refine x_iast hC hW aY25 g49 dX10_like_201 (fun H locs hW => ?_)
      obtain ⟨s50, e51, h⟩ := nx_some h
      rw [← e51] at hW
      refine lv_iinc (v := x7 + 1) (lv' := [(7, .int (x7 + 1)), (0, .ref (ad G 0)), (2, .int x2), (5, .int x5)]) (k := 3) hx hb dX10_like_202 hl rfl rfl (by decide) rfl (fun ls hl => ?_)
      refine lv_goto (tgt := 181) hx hb dX10_like_205 (by decide) ?_
      exact ih _ _ h _ _ _ hW (lv_sub hl [1, 2, 3, 0] rfl)
def fY0_like_L114 (N : Nat) (x2 : Int32) : Nat → St → Int32 → Option (St × Int32)
  | 0, _, _ => none
  | n + 1, S, x5 =>
    Option.bind (fY0_nextFilling N S) fun t32 =>
    if t32.1 = 0 then
      some (t32.2, x5)
    else
      Option.bind (fY0_like_L127 N t32.2 x2 x5 N 0 0) fun t41 =>
      Option.bind (α := St × Int32) (
        if t41 ≤ x5 then
          some (t32.2, x5)
        else
          Option.bind (fY0_like_L181 N x2 t41 N t32.2 0) fun t52 =>
          some (t52, t41)
      ) fun t44 =>
      fY0_like_L114 N x2 n t44.1 t44.2
set_option maxHeartbeats 4000000 in
set_option maxRecDepth 100000 in
theorem wY0_like_L114 {N : Nat} {x2 : Int32} (hC : CallFix p m c cX10_like 8 s args lw_g RX10) (hF : 6 ≤ R.frames) (hL : 143 ≤ R.locals)  {t : St × Int32} (kx : ∀ (H : Heap) (locs : List Loc) (ls : Array Slot), wg LY G t.1 s H locs → lv_has ls 8 [(0, .ref (ad G 0)), (2, .int x2), (5, .int t.2)] → W p l e R s m args below meth c H locs 0 0 Q (F0 m 211 ls [])) : ∀ (n : Nat) (S : St) (x5 : Int32), fY0_like_L114 N x2 n S x5 = some t → ∀ (H : Heap) (locs : List Loc) (ls : Array Slot), wg LY G S s H locs → lv_has ls 8 [(0, .ref (ad G 0)), (2, .int x2), (5, .int x5)] → W p l e R s m args below meth c H locs 0 0 Q (F0 m 114 ls []) := by
  have hx := hC.1
  have hb := hC.2.1
  intro n
  induction n with
  | zero =>
    intro _ _ h
    cases h
  | succ n ih =>
    intro S x5 h H locs ls hW hl
    rw [fY0_like_L114] at h
    refine lv_aload_n hx hb dX10_like_114 rfl (lv_at hl 0 rfl) ?_
    obtain ⟨t32, e33, h⟩ := bd h
    refine x_goi (x_rv (rest := []) hC hW (ctY0_nextFilling e33) (cwV_g hC.2.2.2.2 ml_X10_269 mi_X10_nextFilling md_X10_nextFilling ⟨(Nat.le_trans (Nat.le_of_ble_eq_true rfl) hF), (Nat.le_trans (Nat.le_of_ble_eq_true rfl) hL)⟩) (rcY0 hW) rfl hl.1 rfl (Nat.le_of_ble_eq_true rfl) dX10_like_115) hW (fun H locs hW => ?_)
    refine lv_if_eq (tgt := 211) hx hb dX10_like_118 (by decide) (fun q34 => ?_) (fun q34 => ?_)
    · have h := it_p q34 h
      cases h
      exact kx _ _ _ hW (lv_sub hl [0, 1, 2] rfl)
    · have h := it_n q34 h
      refine lv_iconst (v := 0) hx hb dX10_like_121 (by decide) ?_
      refine lv_istore (lv' := [(6, .int 0), (0, .ref (ad G 0)), (2, .int x2), (5, .int x5)]) hx hb dX10_like_122 hl (by decide) rfl (fun ls hl => ?_)
      refine lv_iconst (v := 0) hx hb dX10_like_124 (by decide) ?_
      refine lv_istore (lv' := [(7, .int 0), (6, .int 0), (0, .ref (ad G 0)), (2, .int x2), (5, .int x5)]) hx hb dX10_like_125 hl (by decide) rfl (fun ls hl => ?_)
      obtain ⟨t41, e42, h⟩ := bd h
      refine wY0_like_L127 hC hF hL  (fun H locs ls hW hl => ?_) _ _ _ e42 _ _ _ hW (lv_sub hl [2, 3, 4, 1, 0] rfl)
      refine lv_iload hx hb dX10_like_167 (lv_at hl 3 rfl) ?_
      refine lv_iload hx hb dX10_like_169 (lv_at hl 2 rfl) ?_
      obtain ⟨t44, e45, h⟩ := bd h
      have K43 : ∀ (H : Heap) (locs : List Loc) (ls : Array Slot), wg LY G t44.1 s H locs → lv_has ls 8 [(0, .ref (ad G 0)), (2, .int x2), (5, .int t44.2)] → W p l e R s m args below meth c H locs 0 0 Q (F0 m 208 ls []) := by
        intro H locs ls hW hl
        refine lv_goto (tgt := 114) hx hb dX10_like_208 (by decide) ?_
        exact ih _ _ h _ _ _ hW (lv_sub hl [0, 1, 2] rfl)
      clear h
      have h := e45
      clear e45
      refine lv_icmp_le (tgt := 208) hx hb dX10_like_171 (by decide) (fun q46 => ?_) (fun q46 => ?_)
      · have h := it_p q46 h
        cases h
        exact K43 _ _ _ hW (lv_sub hl [0, 1, 2] rfl)
      · have h := it_n q46 h
        refine lv_iload hx hb dX10_like_174 (lv_at hl 3 rfl) ?_
        refine lv_istore (lv' := [(5, .int t41), (0, .ref (ad G 0)), (2, .int x2), (6, .int t41)]) hx hb dX10_like_176 hl (by decide) rfl (fun ls hl => ?_)
        refine lv_iconst (v := 0) hx hb dX10_like_178 (by decide) ?_
        refine lv_istore (lv' := [(7, .int 0), (5, .int t41), (0, .ref (ad G 0)), (2, .int x2), (6, .int t41)]) hx hb dX10_like_179 hl (by decide) rfl (fun ls hl => ?_)
        obtain ⟨t52, e53, h⟩ := bd h
        refine wY0_like_L181 hC hF hL  (fun H locs ls hW hl => ?_) _ _ _ e53 _ _ _ hW (lv_sub hl [2, 3, 1, 0] rfl)
        cases h
        exact K43 _ _ _ hW (lv_sub hl [0, 1, 2] rfl)
def fY0_like_L232 (N : Nat) (x2 : Int32) (x5 : Int32) : Nat → St → Int32 → Option (St)
  | 0, _, _ => none
  | n + 1, S, x6 =>
    if 12 ≤ x6 then
      some S
    else
      gd (inb x6 12) <|
      gd (inb x6 12) <|
      nx (p1 S 22 (Int32.toNatClampNeg x6) (S.1 25 (Int32.toNatClampNeg x6))) fun s61 =>
      fY0_like_L232 N x2 x5 n s61 (x6 + 1)
set_option maxHeartbeats 4000000 in
set_option maxRecDepth 100000 in
theorem wY0_like_L232 {N : Nat} {x2 : Int32} {x5 : Int32} (hC : CallFix p m c cX10_like 8 s args lw_g RX10) (hF : 6 ≤ R.frames) (hL : 143 ≤ R.locals)  {t : St} (kx : ∀ (H : Heap) (locs : List Loc) (ls : Array Slot), wg LY G t s H locs → lv_has ls 8 [(0, .ref (ad G 0)), (2, .int x2), (5, .int x5)] → W p l e R s m args below meth c H locs 0 0 Q (F0 m 259 ls [])) : ∀ (n : Nat) (S : St) (x6 : Int32), fY0_like_L232 N x2 x5 n S x6 = some t → ∀ (H : Heap) (locs : List Loc) (ls : Array Slot), wg LY G S s H locs → lv_has ls 8 [(0, .ref (ad G 0)), (2, .int x2), (5, .int x5), (6, .int x6)] → W p l e R s m args below meth c H locs 0 0 Q (F0 m 232 ls []) := by
  have hx := hC.1
  have hb := hC.2.1
  intro n
  induction n with
  | zero =>
    intro _ _ h
    cases h
  | succ n ih =>
    intro S x6 h H locs ls hW hl
    rw [fY0_like_L232] at h
    refine lv_iload hx hb dX10_like_232 (lv_at hl 3 rfl) ?_
    refine lv_bipush (v := 12) hx hb dX10_like_234 (by decide) ?_
    refine lv_icmp_ge (tgt := 259) hx hb dX10_like_236 (by decide) (fun q58 => ?_) (fun q58 => ?_)
    · have h := it_p q58 h
      cases h
      exact kx _ _ _ hW (lv_sub hl [0, 1, 2] rfl)
    · have h := it_n q58 h
      refine lv_aload_n hx hb dX10_like_239 rfl (lv_at hl 0 rfl) ?_
      refine gY0_30 hC hW dX10_like_240 ?_
      refine lv_iload hx hb dX10_like_243 (lv_at hl 3 rfl) ?_
      refine lv_aload_n hx hb dX10_like_245 rfl (lv_at hl 0 rfl) ?_
      refine gY0_40 hC hW dX10_like_246 ?_
      refine lv_iload hx hb dX10_like_249 (lv_at hl 3 rfl) ?_
      obtain ⟨g59, h⟩ := gd_some h
      refine x_iald hC hW aY25 g59 dX10_like_251 ?_
      obtain ⟨g60, h⟩ := gd_some h
      refine x_iast hC hW aY22 g60 dX10_like_252 (fun H locs hW => ?_)
      obtain ⟨s61, e62, h⟩ := nx_some h
      rw [← e62] at hW
      refine lv_iinc (v := x6 + 1) (lv' := [(6, .int (x6 + 1)), (0, .ref (ad G 0)), (2, .int x2), (5, .int x5)]) (k := 3) hx hb dX10_like_253 hl rfl rfl (by decide) rfl (fun ls hl => ?_)
      refine lv_goto (tgt := 232) hx hb dX10_like_256 (by decide) ?_
      exact ih _ _ h _ _ _ hW (lv_sub hl [1, 2, 3, 0] rfl)
def fY0_like (N : Nat) (S : St) (x1 : Int32) (x2 : Int32) (x3 : Int32) : Option (Int32 × St) :=
  Option.bind (fYs_isRow S x1) fun t1 =>
  if t1 = 0 then
    some ((-1), S)
  else
    Option.bind (fYs_isRow S x2) fun t4 =>
    if t4 = 0 then
      some ((-1), S)
    else
      Option.bind (fYs_areTurns S x3) fun t7 =>
      if t7 = 0 then
        some ((-1), S)
      else
        Option.bind (fY0_askedRow S x1) fun t10 =>
        if 0 ≤ t10.1 then
          gd (inb x1 6) <|
          if (t10.2.1 2 (Int32.toNatClampNeg x1)) = 10 then
            Option.bind (fY0_like_L58 N x1 x2 x3 N t10.2 0) fun t27 => sm t27 fun u29 =>
            Option.bind (fY0_begin N u29 x3 0) fun t30 =>
            Option.bind (fY0_like_L114 N x2 N t30 (-9)) fun t54 =>
            if (t54.1.1 0 36) = 0 then
              if 0 ≤ t54.2 then
                Option.bind (fY0_like_L232 N x2 t54.2 N t54.1 0) fun t63 =>
                Option.bind (fY0_comeTo N t63 x2) fun t65 =>
                some (t54.2, t65)
              else
                some ((-9), t54.1)
            else
              some ((-6), t54.1)
          else
            Option.bind (fY0_meets t10.2 5) fun t67 =>
            some (t67.1, t67.2)
        else
          some (t10.1, t10.2)
set_option maxHeartbeats 4000000 in
set_option maxRecDepth 100000 in
theorem wY0_like {N : Nat} {S : St} {x1 : Int32} {x2 : Int32} {x3 : Int32} (hC : CallFix p m c cX10_like 8 s args lw_g RX10) (hF : 6 ≤ R.frames) (hL : 143 ≤ R.locals)  {v : Int32} {S' : St} (h : fY0_like N S x1 x2 x3 = some (v, S')) (kr : ∀ (H : Heap) (locs : List Loc) (ls : Array Slot) (pc : Nat), decode cX10_like pc = .ok (.ireturn, 1) → wg LY G (S') s H locs → W p l e R s m args below meth c H locs 0 0 Q (F0 m pc ls [.int v])) : ∀ (H : Heap) (locs : List Loc) (ls : Array Slot), wg LY G S s H locs → lv_has ls 8 [(0, .ref (ad G 0)), (1, .int x1), (2, .int x2), (3, .int x3)] → W p l e R s m args below meth c H locs 0 0 Q (F0 m 0 ls []) := by
  have hx := hC.1
  have hb := hC.2.1
  intro H locs ls hW hl
  unfold fY0_like at h
  refine lv_iload_n hx hb dX10_like_0 rfl (lv_at hl 1 rfl) ?_
  obtain ⟨t1, e2, h⟩ := bd h
  refine x_goi (x_rs (rest := []) hC hW (ctYs_isRow e2) (cwS_g hC.2.2.2.2 ml_X10_107 ms_X10_isRow md_X10_isRow ⟨(Nat.le_trans (Nat.le_of_ble_eq_true rfl) hF), (Nat.le_trans (Nat.le_of_ble_eq_true rfl) hL)⟩) rfl hl.1 rfl (Nat.le_of_ble_eq_true rfl) dX10_like_1) hW (fun H locs hW => ?_)
  refine lv_if_eq (tgt := 21) hx hb dX10_like_4 (by decide) (fun q3 => ?_) (fun q3 => ?_)
  · have h := it_p q3 h
    refine lv_iconst (v := (-1)) hx hb dX10_like_21 (by decide) ?_
    cases h
    exact kr _ _ _ _ dX10_like_22 hW
  · have h := it_n q3 h
    refine lv_iload_n hx hb dX10_like_7 rfl (lv_at hl 2 rfl) ?_
    obtain ⟨t4, e5, h⟩ := bd h
    refine x_goi (x_rs (rest := []) hC hW (ctYs_isRow e5) (cwS_g hC.2.2.2.2 ml_X10_107 ms_X10_isRow md_X10_isRow ⟨(Nat.le_trans (Nat.le_of_ble_eq_true rfl) hF), (Nat.le_trans (Nat.le_of_ble_eq_true rfl) hL)⟩) rfl hl.1 rfl (Nat.le_of_ble_eq_true rfl) dX10_like_8) hW (fun H locs hW => ?_)
    refine lv_if_eq (tgt := 21) hx hb dX10_like_11 (by decide) (fun q6 => ?_) (fun q6 => ?_)
    · have h := it_p q6 h
      refine lv_iconst (v := (-1)) hx hb dX10_like_21 (by decide) ?_
      cases h
      exact kr _ _ _ _ dX10_like_22 hW
    · have h := it_n q6 h
      refine lv_iload_n hx hb dX10_like_14 rfl (lv_at hl 3 rfl) ?_
      obtain ⟨t7, e8, h⟩ := bd h
      refine x_goi (x_rs (rest := []) hC hW (ctYs_areTurns e8) (cwS_g hC.2.2.2.2 ml_X10_273 ms_X10_areTurns md_X10_areTurns ⟨(Nat.le_trans (Nat.le_of_ble_eq_true rfl) hF), (Nat.le_trans (Nat.le_of_ble_eq_true rfl) hL)⟩) rfl hl.1 rfl (Nat.le_of_ble_eq_true rfl) dX10_like_15) hW (fun H locs hW => ?_)
      refine lv_if_ne (tgt := 23) hx hb dX10_like_18 (by decide) (fun q9 => ?_) (fun q9 => ?_)
      · have h := it_n q9 h
        refine lv_aload_n hx hb dX10_like_23 rfl (lv_at hl 0 rfl) ?_
        refine lv_iload_n hx hb dX10_like_24 rfl (lv_at hl 1 rfl) ?_
        obtain ⟨t10, e11, h⟩ := bd h
        refine x_goi (x_rv (rest := []) hC hW (ctY0_askedRow e11) (cwV_g hC.2.2.2.2 ml_X10_118 mi_X10_askedRow md_X10_askedRow ⟨(Nat.le_trans (Nat.le_of_ble_eq_true rfl) hF), (Nat.le_trans (Nat.le_of_ble_eq_true rfl) hL)⟩) (rcY0 hW) rfl hl.1 rfl (Nat.le_of_ble_eq_true rfl) dX10_like_25) hW (fun H locs hW => ?_)
        refine lv_istore (lv' := [(4, .int t10.1), (0, .ref (ad G 0)), (1, .int x1), (2, .int x2), (3, .int x3)]) hx hb dX10_like_28 hl (by decide) rfl (fun ls hl => ?_)
        refine lv_iload hx hb dX10_like_30 (lv_at hl 0 rfl) ?_
        refine lv_if_ge (tgt := 38) hx hb dX10_like_32 (by decide) (fun q12 => ?_) (fun q12 => ?_)
        · have h := it_p q12 h
          refine lv_aload_n hx hb dX10_like_38 rfl (lv_at hl 1 rfl) ?_
          refine gY0_5 hC hW dX10_like_39 ?_
          refine lv_iload_n hx hb dX10_like_42 rfl (lv_at hl 2 rfl) ?_
          obtain ⟨g13, h⟩ := gd_some h
          refine x_iald hC hW aY2 g13 dX10_like_43 ?_
          refine lv_bipush (v := 10) hx hb dX10_like_44 (by decide) ?_
          refine lv_icmp_eq (tgt := 55) hx hb dX10_like_46 (by decide) (fun q14 => ?_) (fun q14 => ?_)
          · have h := it_p q14 h
            refine lv_iconst (v := 0) hx hb dX10_like_55 (by decide) ?_
            refine lv_istore (lv' := [(5, .int 0), (4, .int t10.1), (0, .ref (ad G 0)), (1, .int x1), (2, .int x2), (3, .int x3)]) hx hb dX10_like_56 hl (by decide) rfl (fun ls hl => ?_)
            obtain ⟨t27, e28, h⟩ := bd h
            refine wY0_like_L58 hC hF hL  (fun r er H locs ls pc hd hW => ?_) (fun u29 eu H locs ls hW hl => ?_) _ _ _ e28 _ _ _ hW (lv_sub hl [2, 3, 4, 5, 0] rfl)
            · rw [er] at h
              have h := sm_l h
              cases h
              exact kr _ _ _ _ hd hW
            · rw [eu] at h
              have h := sm_r h
              refine lv_aload_n hx hb dX10_like_104 rfl (lv_at hl 0 rfl) ?_
              refine lv_iload_n hx hb dX10_like_105 rfl (lv_at hl 2 rfl) ?_
              refine lv_iconst (v := 0) hx hb dX10_like_106 (by decide) ?_
              obtain ⟨t30, e31, h⟩ := bd h
              refine x_gov (x_rv (rest := []) hC hW (ctY0_begin e31) (cwV_g hC.2.2.2.2 ml_X10_262 mi_X10_begin md_X10_begin ⟨(Nat.le_trans (Nat.le_of_ble_eq_true rfl) hF), (Nat.le_trans (Nat.le_of_ble_eq_true rfl) hL)⟩) (rcY0 hW) rfl hl.1 rfl (Nat.le_of_ble_eq_true rfl) dX10_like_107) hW (fun H locs hW => ?_)
              refine lv_bipush (v := (-9)) hx hb dX10_like_110 (by decide) ?_
              refine lv_istore (lv' := [(5, .int (-9)), (0, .ref (ad G 0)), (2, .int x2), (3, .int x3)]) hx hb dX10_like_112 hl (by decide) rfl (fun ls hl => ?_)
              obtain ⟨t54, e55, h⟩ := bd h
              refine wY0_like_L114 hC hF hL  (fun H locs ls hW hl => ?_) _ _ _ e55 _ _ _ hW (lv_sub hl [1, 2, 0] rfl)
              refine lv_aload_n hx hb dX10_like_211 rfl (lv_at hl 0 rfl) ?_
              refine gY0_36 hC hW dX10_like_212 ?_
              refine lv_if_eq (tgt := 221) hx hb dX10_like_215 (by decide) (fun q56 => ?_) (fun q56 => ?_)
              · have h := it_p q56 h
                refine lv_iload hx hb dX10_like_221 (lv_at hl 2 rfl) ?_
                refine lv_if_ge (tgt := 229) hx hb dX10_like_223 (by decide) (fun q57 => ?_) (fun q57 => ?_)
                · have h := it_p q57 h
                  refine lv_iconst (v := 0) hx hb dX10_like_229 (by decide) ?_
                  refine lv_istore (lv' := [(6, .int 0), (0, .ref (ad G 0)), (2, .int x2), (5, .int t54.2)]) hx hb dX10_like_230 hl (by decide) rfl (fun ls hl => ?_)
                  obtain ⟨t63, e64, h⟩ := bd h
                  refine wY0_like_L232 hC hF hL  (fun H locs ls hW hl => ?_) _ _ _ e64 _ _ _ hW (lv_sub hl [1, 2, 3, 0] rfl)
                  refine lv_aload_n hx hb dX10_like_259 rfl (lv_at hl 0 rfl) ?_
                  refine lv_iload_n hx hb dX10_like_260 rfl (lv_at hl 1 rfl) ?_
                  obtain ⟨t65, e66, h⟩ := bd h
                  refine x_gov (x_rv (rest := []) hC hW (ctY0_comeTo e66) (cwV_g hC.2.2.2.2 ml_X10_282 mi_X10_comeTo md_X10_comeTo ⟨(Nat.le_trans (Nat.le_of_ble_eq_true rfl) hF), (Nat.le_trans (Nat.le_of_ble_eq_true rfl) hL)⟩) (rcY0 hW) rfl hl.1 rfl (Nat.le_of_ble_eq_true rfl) dX10_like_261) hW (fun H locs hW => ?_)
                  refine lv_iload hx hb dX10_like_264 (lv_at hl 2 rfl) ?_
                  cases h
                  exact kr _ _ _ _ dX10_like_266 hW
                · have h := it_n q57 h
                  refine lv_bipush (v := (-9)) hx hb dX10_like_226 (by decide) ?_
                  cases h
                  exact kr _ _ _ _ dX10_like_228 hW
              · have h := it_n q56 h
                refine lv_bipush (v := (-6)) hx hb dX10_like_218 (by decide) ?_
                cases h
                exact kr _ _ _ _ dX10_like_220 hW
          · have h := it_n q14 h
            refine lv_aload_n hx hb dX10_like_49 rfl (lv_at hl 1 rfl) ?_
            refine lv_iconst (v := 5) hx hb dX10_like_50 (by decide) ?_
            obtain ⟨t67, e68, h⟩ := bd h
            refine x_goi (x_rv (rest := []) hC hW (ctY0_meets e68) (cwV_g hC.2.2.2.2 ml_X10_111 mi_X10_meets md_X10_meets ⟨(Nat.le_trans (Nat.le_of_ble_eq_true rfl) hF), (Nat.le_trans (Nat.le_of_ble_eq_true rfl) hL)⟩) (rcY0 hW) rfl hl.1 rfl (Nat.le_of_ble_eq_true rfl) dX10_like_51) hW (fun H locs hW => ?_)
            cases h
            exact kr _ _ _ _ dX10_like_54 hW
        · have h := it_n q12 h
          refine lv_iload hx hb dX10_like_35 (lv_at hl 0 rfl) ?_
          cases h
          exact kr _ _ _ _ dX10_like_37 hW
      · have h := it_p q9 h
        refine lv_iconst (v := (-1)) hx hb dX10_like_21 (by decide) ?_
        cases h
        exact kr _ _ _ _ dX10_like_22 hW
theorem ctY0_like {N : Nat} {S : St} {x1 : Int32} {x2 : Int32} {x3 : Int32}  {v : Int32} {S' : St} (h : fY0_like N S x1 x2 x3 = some (v, S')) : Met l yX10_like (wm yX10_like cX10_like 8 (some .int)) (rmx 6 143) (pcm LY G S [.ref (ad G 0), .int x1, .int x2, .int x3]) (qcI LY G S' v) 0 0 G.2.2.2 :=
  x_enter (own := RX10) rfl rfl (Nat.le_of_ble_eq_true rfl) (fun p e s m below meth c ls hC hr hk hW hl => wY0_like hC (Nat.le_refl _) (Nat.le_refl _)  h (fun H locs ls pc hd hW => x_reti hC hr hk hW hd) _ _ _ hW hl)
def fYs_bits_L4 (N : Nat) (S : St) (x0 : Int32) : Nat → Int32 → Int32 → Option (Int32)
  | 0, _, _ => none
  | n + 1, x1, x2 =>
    if 12 ≤ x2 then
      some x1
    else
      nx (x1 + ((x0 >>> (x2 &&& 31)) &&& 1)) fun y2 =>
      fYs_bits_L4 N S x0 n y2 (x2 + 1)
set_option maxHeartbeats 4000000 in
set_option maxRecDepth 100000 in
theorem wYs_bits_L4 {N : Nat} {S : St} {x0 : Int32} (hC : CallFix p m c cX10_bits 3 s args lw_g RX10) (hF : 0 ≤ R.frames) (hL : 0 ≤ R.locals)  {t : Int32} (kx : ∀ (H : Heap) (locs : List Loc) (ls : Array Slot), wg LY G S s H locs → lv_has ls 3 [(1, .int t)] → W p l e R s m args below meth c H locs 0 0 Q (F0 m 24 ls [])) : ∀ (n : Nat) (x1 : Int32) (x2 : Int32), fYs_bits_L4 N S x0 n x1 x2 = some t → ∀ (H : Heap) (locs : List Loc) (ls : Array Slot), wg LY G S s H locs → lv_has ls 3 [(0, .int x0), (1, .int x1), (2, .int x2)] → W p l e R s m args below meth c H locs 0 0 Q (F0 m 4 ls []) := by
  have hx := hC.1
  have hb := hC.2.1
  intro n
  induction n with
  | zero =>
    intro _ _ h
    cases h
  | succ n ih =>
    intro x1 x2 h H locs ls hW hl
    rw [fYs_bits_L4] at h
    refine lv_iload_n hx hb dX10_bits_4 rfl (lv_at hl 2 rfl) ?_
    refine lv_bipush (v := 12) hx hb dX10_bits_5 (by decide) ?_
    refine lv_icmp_ge (tgt := 24) hx hb dX10_bits_7 (by decide) (fun q1 => ?_) (fun q1 => ?_)
    · have h := it_p q1 h
      cases h
      exact kx _ _ _ hW (lv_sub hl [1] rfl)
    · have h := it_n q1 h
      refine lv_iload_n hx hb dX10_bits_10 rfl (lv_at hl 1 rfl) ?_
      refine lv_iload_n hx hb dX10_bits_11 rfl (lv_at hl 0 rfl) ?_
      refine lv_iload_n hx hb dX10_bits_12 rfl (lv_at hl 2 rfl) ?_
      refine lv_ishr hx hb dX10_bits_13 ?_
      refine lv_iconst (v := 1) hx hb dX10_bits_14 (by decide) ?_
      refine lv_iand hx hb dX10_bits_15 ?_
      refine lv_iadd hx hb dX10_bits_16 ?_
      obtain ⟨y2, e3, h⟩ := nx_some h
      refine x_topi e3 ?_
      refine lv_istore_n (lv' := [(1, .int y2), (0, .int x0), (2, .int x2)]) hx hb dX10_bits_17 rfl hl (by decide) rfl (fun ls hl => ?_)
      refine lv_iinc (v := x2 + 1) (lv' := [(2, .int (x2 + 1)), (1, .int y2), (0, .int x0)]) (k := 2) hx hb dX10_bits_18 hl rfl rfl (by decide) rfl (fun ls hl => ?_)
      refine lv_goto (tgt := 4) hx hb dX10_bits_21 (by decide) ?_
      exact ih _ _ h _ _ _ hW (lv_sub hl [2, 1, 0] rfl)
def fYs_bits (N : Nat) (S : St) (x0 : Int32) : Option (Int32) :=
  Option.bind (fYs_bits_L4 N S x0 N 0 0) fun t4 =>
  some t4
set_option maxHeartbeats 4000000 in
set_option maxRecDepth 100000 in
theorem wYs_bits {N : Nat} {S : St} {x0 : Int32} (hC : CallFix p m c cX10_bits 3 s args lw_g RX10) (hF : 0 ≤ R.frames) (hL : 0 ≤ R.locals)  {v : Int32} (h : fYs_bits N S x0 = some v) (kr : ∀ (H : Heap) (locs : List Loc) (ls : Array Slot) (pc : Nat), decode cX10_bits pc = .ok (.ireturn, 1) → wg LY G S s H locs → W p l e R s m args below meth c H locs 0 0 Q (F0 m pc ls [.int v])) : ∀ (H : Heap) (locs : List Loc) (ls : Array Slot), wg LY G S s H locs → lv_has ls 3 [(0, .int x0)] → W p l e R s m args below meth c H locs 0 0 Q (F0 m 0 ls []) := by
  have hx := hC.1
  have hb := hC.2.1
  intro H locs ls hW hl
  unfold fYs_bits at h
  refine lv_iconst (v := 0) hx hb dX10_bits_0 (by decide) ?_
  refine lv_istore_n (lv' := [(1, .int 0), (0, .int x0)]) hx hb dX10_bits_1 rfl hl (by decide) rfl (fun ls hl => ?_)
  refine lv_iconst (v := 0) hx hb dX10_bits_2 (by decide) ?_
  refine lv_istore_n (lv' := [(2, .int 0), (1, .int 0), (0, .int x0)]) hx hb dX10_bits_3 rfl hl (by decide) rfl (fun ls hl => ?_)
  obtain ⟨t4, e5, h⟩ := bd h
  refine wYs_bits_L4 hC hF hL  (fun H locs ls hW hl => ?_) _ _ _ e5 _ _ _ hW (lv_sub hl [2, 1, 0] rfl)
  refine lv_iload_n hx hb dX10_bits_24 rfl (lv_at hl 0 rfl) ?_
  cases h
  exact kr _ _ _ _ dX10_bits_25 hW
theorem ctYs_bits {N : Nat} {S : St} {x0 : Int32}  {v : Int32} (h : fYs_bits N S x0 = some v) : Met l yX10_bits (wm yX10_bits cX10_bits 3 (some .int)) (rmx 0 0) (pcm LY G S [.int x0]) (qcI LY G S v) 0 0 G.2.2.2 :=
  x_enter (own := RX10) rfl rfl (Nat.le_of_ble_eq_true rfl) (fun p e s m below meth c ls hC hr hk hW hl => wYs_bits hC (Nat.le_refl _) (Nat.le_refl _)  h (fun H locs ls pc hd hW => x_reti hC hr hk hW hd) _ _ _ hW hl)
end GEN
