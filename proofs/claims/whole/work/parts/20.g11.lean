section GEN
variable {p : Program} {l : Launch} {e : Env} {R : Room} {s : State} {m : MethodId} {args : Array Value} {below : List Frame} {meth : Method} {c : Code} {H : Heap} {locs : List Loc} {Q : State → Prop} {G : GG}
def fY0_setFirst_L10 (N : Nat) (x1 : Int32) : Nat → St → Int32 → Option (St)
  | 0, _, _ => none
  | n + 1, S, x2 =>
    if 100 ≤ x2 then
      some S
    else
      Option.bind (fY0_isThere S x1) fun t3 =>
      Option.bind (α := Int32) (
        if t3 = 0 then
          some 0
        else
          Option.bind (fY0_isFirst N S x1 x2) fun t9 =>
          if t9 = 0 then
            some 0
          else
            some 1
      ) fun t6 =>
      gd (inb ((100 * x1) + x2) 1200) <|
      gd (isb t6) <|
      nx (p1 S 17 (Int32.toNatClampNeg ((100 * x1) + x2)) t6) fun s14 =>
      fY0_setFirst_L10 N x1 n s14 (x2 + 1)
set_option maxHeartbeats 4000000 in
set_option maxRecDepth 100000 in
theorem wY0_setFirst_L10 {N : Nat} {x1 : Int32} (hC : CallFix p m c cX10_setFirst 3 s args lw_g RX10) (hF : 2 ≤ R.frames) (hL : 45 ≤ R.locals)  {t : St} (kx : ∀ (H : Heap) (locs : List Loc) (ls : Array Slot), wg LY G t s H locs → lv_has ls 3 [(0, .ref (ad G 0)), (1, .int x1)] → W p l e R s m args below meth c H locs 0 0 Q (F0 m 55 ls [])) : ∀ (n : Nat) (S : St) (x2 : Int32), fY0_setFirst_L10 N x1 n S x2 = some t → ∀ (H : Heap) (locs : List Loc) (ls : Array Slot), wg LY G S s H locs → lv_has ls 3 [(0, .ref (ad G 0)), (1, .int x1), (2, .int x2)] → W p l e R s m args below meth c H locs 0 0 Q (F0 m 10 ls []) := by
  have hx := hC.1
  have hb := hC.2.1
  intro n
  induction n with
  | zero =>
    intro _ _ h
    cases h
  | succ n ih =>
    intro S x2 h H locs ls hW hl
    rw [fY0_setFirst_L10] at h
    refine lv_iload_n hx hb dX10_setFirst_10 rfl (lv_at hl 2 rfl) ?_
    refine lv_bipush (v := 100) hx hb dX10_setFirst_11 (by decide) ?_
    refine lv_icmp_ge (tgt := 55) hx hb dX10_setFirst_13 (by decide) (fun q2 => ?_) (fun q2 => ?_)
    · have h := it_p q2 h
      cases h
      exact kx _ _ _ hW (lv_sub hl [0, 1] rfl)
    · have h := it_n q2 h
      refine lv_aload_n hx hb dX10_setFirst_16 rfl (lv_at hl 0 rfl) ?_
      refine gY0_24 hC hW dX10_setFirst_17 ?_
      refine lv_bipush (v := 100) hx hb dX10_setFirst_20 (by decide) ?_
      refine lv_iload_n hx hb dX10_setFirst_22 rfl (lv_at hl 1 rfl) ?_
      refine lv_imul hx hb dX10_setFirst_23 ?_
      refine lv_iload_n hx hb dX10_setFirst_24 rfl (lv_at hl 2 rfl) ?_
      refine lv_iadd hx hb dX10_setFirst_25 ?_
      refine lv_aload_n hx hb dX10_setFirst_26 rfl (lv_at hl 0 rfl) ?_
      refine lv_iload_n hx hb dX10_setFirst_27 rfl (lv_at hl 1 rfl) ?_
      obtain ⟨t3, e4, h⟩ := bd h
      refine x_goi (x_rv (rest := [.int ((100 * x1) + x2), .ref (ad G 17)]) hC hW (ctY0_isThere e4) (cwV_g hC.2.2.2.2 ml_X10_193 mi_X10_isThere md_X10_isThere ⟨(Nat.le_trans (Nat.le_of_ble_eq_true rfl) hF), (Nat.le_trans (Nat.le_of_ble_eq_true rfl) hL)⟩) (rcY0 hW) rfl hl.1 rfl (Nat.le_of_ble_eq_true rfl) dX10_setFirst_28) hW (fun H locs hW => ?_)
      obtain ⟨t6, e7, h⟩ := bd h
      have K5 : ∀ (H : Heap) (locs : List Loc) (ls : Array Slot), wg LY G S s H locs → lv_has ls 3 [(0, .ref (ad G 0)), (1, .int x1), (2, .int x2)] → W p l e R s m args below meth c H locs 0 0 Q (F0 m 48 ls [.int t6, .int ((100 * x1) + x2), .ref (ad G 17)]) := by
        intro H locs ls hW hl
        obtain ⟨g12, h⟩ := gd_some h
        obtain ⟨g13, h⟩ := gd_some h
        refine x_zast hC hW zY17 g12 g13 dX10_setFirst_48 (fun H locs hW => ?_)
        obtain ⟨s14, e15, h⟩ := nx_some h
        rw [← e15] at hW
        refine lv_iinc (v := x2 + 1) (lv' := [(2, .int (x2 + 1)), (0, .ref (ad G 0)), (1, .int x1)]) (k := 2) hx hb dX10_setFirst_49 hl rfl rfl (by decide) rfl (fun ls hl => ?_)
        refine lv_goto (tgt := 10) hx hb dX10_setFirst_52 (by decide) ?_
        exact ih _ _ h _ _ _ hW (lv_sub hl [1, 2, 0] rfl)
      clear h
      have h := e7
      clear e7
      refine lv_if_eq (tgt := 47) hx hb dX10_setFirst_31 (by decide) (fun q8 => ?_) (fun q8 => ?_)
      · have h := it_p q8 h
        refine lv_iconst (v := 0) hx hb dX10_setFirst_47 (by decide) ?_
        cases h
        exact K5 _ _ _ hW (lv_sub hl [0, 1, 2] rfl)
      · have h := it_n q8 h
        refine lv_aload_n hx hb dX10_setFirst_34 rfl (lv_at hl 0 rfl) ?_
        refine lv_iload_n hx hb dX10_setFirst_35 rfl (lv_at hl 1 rfl) ?_
        refine lv_iload_n hx hb dX10_setFirst_36 rfl (lv_at hl 2 rfl) ?_
        obtain ⟨t9, e10, h⟩ := bd h
        refine x_goi (x_rv (rest := [.int ((100 * x1) + x2), .ref (ad G 17)]) hC hW (ctY0_isFirst e10) (cwV_g hC.2.2.2.2 ml_X10_196 mi_X10_isFirst md_X10_isFirst ⟨(Nat.le_trans (Nat.le_of_ble_eq_true rfl) hF), (Nat.le_trans (Nat.le_of_ble_eq_true rfl) hL)⟩) (rcY0 hW) rfl hl.1 rfl (Nat.le_of_ble_eq_true rfl) dX10_setFirst_37) hW (fun H locs hW => ?_)
        refine lv_if_eq (tgt := 47) hx hb dX10_setFirst_40 (by decide) (fun q11 => ?_) (fun q11 => ?_)
        · have h := it_p q11 h
          refine lv_iconst (v := 0) hx hb dX10_setFirst_47 (by decide) ?_
          cases h
          exact K5 _ _ _ hW (lv_sub hl [0, 1, 2] rfl)
        · have h := it_n q11 h
          refine lv_iconst (v := 1) hx hb dX10_setFirst_43 (by decide) ?_
          refine lv_goto (tgt := 48) hx hb dX10_setFirst_44 (by decide) ?_
          cases h
          exact K5 _ _ _ hW (lv_sub hl [0, 1, 2] rfl)
def fY0_setFirst_L2 (N : Nat)  : Nat → St → Int32 → Option (St)
  | 0, _, _ => none
  | n + 1, S, x1 =>
    if 12 ≤ x1 then
      some S
    else
      Option.bind (fY0_setFirst_L10 N x1 N S 0) fun t16 =>
      Option.bind (fY0_setEnds N t16 x1) fun t18 =>
      fY0_setFirst_L2 N n t18.2 (x1 + 1)
set_option maxHeartbeats 4000000 in
set_option maxRecDepth 100000 in
theorem wY0_setFirst_L2 {N : Nat}  (hC : CallFix p m c cX10_setFirst 3 s args lw_g RX10) (hF : 2 ≤ R.frames) (hL : 45 ≤ R.locals)  {t : St} (kx : ∀ (H : Heap) (locs : List Loc) (ls : Array Slot), wg LY G t s H locs → lv_has ls 3 [] → W p l e R s m args below meth c H locs 0 0 Q (F0 m 67 ls [])) : ∀ (n : Nat) (S : St) (x1 : Int32), fY0_setFirst_L2 N  n S x1 = some t → ∀ (H : Heap) (locs : List Loc) (ls : Array Slot), wg LY G S s H locs → lv_has ls 3 [(0, .ref (ad G 0)), (1, .int x1)] → W p l e R s m args below meth c H locs 0 0 Q (F0 m 2 ls []) := by
  have hx := hC.1
  have hb := hC.2.1
  intro n
  induction n with
  | zero =>
    intro _ _ h
    cases h
  | succ n ih =>
    intro S x1 h H locs ls hW hl
    rw [fY0_setFirst_L2] at h
    refine lv_iload_n hx hb dX10_setFirst_2 rfl (lv_at hl 1 rfl) ?_
    refine lv_bipush (v := 12) hx hb dX10_setFirst_3 (by decide) ?_
    refine lv_icmp_ge (tgt := 67) hx hb dX10_setFirst_5 (by decide) (fun q1 => ?_) (fun q1 => ?_)
    · have h := it_p q1 h
      cases h
      exact kx _ _ _ hW (lv_sub hl [] rfl)
    · have h := it_n q1 h
      refine lv_iconst (v := 0) hx hb dX10_setFirst_8 (by decide) ?_
      refine lv_istore_n (lv' := [(2, .int 0), (0, .ref (ad G 0)), (1, .int x1)]) hx hb dX10_setFirst_9 rfl hl (by decide) rfl (fun ls hl => ?_)
      obtain ⟨t16, e17, h⟩ := bd h
      refine wY0_setFirst_L10 hC hF hL  (fun H locs ls hW hl => ?_) _ _ _ e17 _ _ _ hW (lv_sub hl [1, 2, 0] rfl)
      refine lv_aload_n hx hb dX10_setFirst_55 rfl (lv_at hl 0 rfl) ?_
      refine lv_iload_n hx hb dX10_setFirst_56 rfl (lv_at hl 1 rfl) ?_
      obtain ⟨t18, e19, h⟩ := bd h
      refine x_goi (x_rv (rest := []) hC hW (ctY0_setEnds e19) (cwV_g hC.2.2.2.2 ml_X10_205 mi_X10_setEnds md_X10_setEnds ⟨(Nat.le_trans (Nat.le_of_ble_eq_true rfl) hF), (Nat.le_trans (Nat.le_of_ble_eq_true rfl) hL)⟩) (rcY0 hW) rfl hl.1 rfl (Nat.le_of_ble_eq_true rfl) dX10_setFirst_57) hW (fun H locs hW => ?_)
      refine lv_pop hx hb dX10_setFirst_60 rfl ?_
      refine lv_iinc (v := x1 + 1) (lv' := [(1, .int (x1 + 1)), (0, .ref (ad G 0))]) (k := 1) hx hb dX10_setFirst_61 hl rfl rfl (by decide) rfl (fun ls hl => ?_)
      refine lv_goto (tgt := 2) hx hb dX10_setFirst_64 (by decide) ?_
      exact ih _ _ h _ _ _ hW (lv_sub hl [1, 0] rfl)
def fY0_setFirst (N : Nat) (S : St)  : Option (St) :=
  Option.bind (fY0_setFirst_L2 N N S 0) fun t20 =>
  some t20
set_option maxHeartbeats 4000000 in
set_option maxRecDepth 100000 in
theorem wY0_setFirst {N : Nat} {S : St}  (hC : CallFix p m c cX10_setFirst 3 s args lw_g RX10) (hF : 2 ≤ R.frames) (hL : 45 ≤ R.locals)  {S' : St} (h : fY0_setFirst N S = some (S')) (kr : ∀ (H : Heap) (locs : List Loc) (ls : Array Slot) (pc : Nat), decode cX10_setFirst pc = .ok (.return_, 1) → wg LY G (S') s H locs → W p l e R s m args below meth c H locs 0 0 Q (F0 m pc ls [])) : ∀ (H : Heap) (locs : List Loc) (ls : Array Slot), wg LY G S s H locs → lv_has ls 3 [(0, .ref (ad G 0))] → W p l e R s m args below meth c H locs 0 0 Q (F0 m 0 ls []) := by
  have hx := hC.1
  have hb := hC.2.1
  intro H locs ls hW hl
  unfold fY0_setFirst at h
  refine lv_iconst (v := 0) hx hb dX10_setFirst_0 (by decide) ?_
  refine lv_istore_n (lv' := [(1, .int 0), (0, .ref (ad G 0))]) hx hb dX10_setFirst_1 rfl hl (by decide) rfl (fun ls hl => ?_)
  obtain ⟨t20, e21, h⟩ := bd h
  refine wY0_setFirst_L2 hC hF hL  (fun H locs ls hW hl => ?_) _ _ _ e21 _ _ _ hW (lv_sub hl [1, 0] rfl)
  cases h
  exact kr _ _ _ _ dX10_setFirst_67 hW
theorem ctY0_setFirst {N : Nat} {S : St}   {S' : St} (h : fY0_setFirst N S = some (S')) : Met l yX10_setFirst (wm yX10_setFirst cX10_setFirst 3 none) (rmx 2 45) (pcm LY G S [.ref (ad G 0)]) (qcV LY G S') 0 0 G.2.2.2 :=
  x_enter (own := RX10) rfl rfl (Nat.le_of_ble_eq_true rfl) (fun p e s m below meth c ls hC hr hk hW hl => wY0_setFirst hC (Nat.le_refl _) (Nat.le_refl _)  h (fun H locs ls pc hd hW => x_retv hC hr hk hW hd) _ _ _ hW hl)
def fYs_has (S : St) (x0 : Int32) (x1 : Int32) : Option (Int32) :=
  Option.bind (α := Int32) (
    if ((x0 >>> (x1 &&& 31)) &&& 1) = 1 then
      some 1
    else
      some 0
  ) fun t2 =>
  gd (isb t2) <|
  some t2
set_option maxHeartbeats 4000000 in
set_option maxRecDepth 100000 in
theorem wYs_has {S : St} {x0 : Int32} {x1 : Int32} (hC : CallFix p m c cX10_has 2 s args lw_g RX10) (hF : 0 ≤ R.frames) (hL : 0 ≤ R.locals)  {v : Int32} (h : fYs_has S x0 x1 = some v) (kr : ∀ (H : Heap) (locs : List Loc) (ls : Array Slot) (pc : Nat), isb v = true → decode cX10_has pc = .ok (.ireturn, 1) → wg LY G S s H locs → W p l e R s m args below meth c H locs 0 0 Q (F0 m pc ls [.int v])) : ∀ (H : Heap) (locs : List Loc) (ls : Array Slot), wg LY G S s H locs → lv_has ls 2 [(0, .int x0), (1, .int x1)] → W p l e R s m args below meth c H locs 0 0 Q (F0 m 0 ls []) := by
  have hx := hC.1
  have hb := hC.2.1
  intro H locs ls hW hl
  unfold fYs_has at h
  refine lv_iload_n hx hb dX10_has_0 rfl (lv_at hl 0 rfl) ?_
  refine lv_iload_n hx hb dX10_has_1 rfl (lv_at hl 1 rfl) ?_
  refine lv_ishr hx hb dX10_has_2 ?_
  refine lv_iconst (v := 1) hx hb dX10_has_3 (by decide) ?_
  refine lv_iand hx hb dX10_has_4 ?_
  refine lv_iconst (v := 1) hx hb dX10_has_5 (by decide) ?_
  obtain ⟨t2, e3, h⟩ := bd h
  have K1 : ∀ (H : Heap) (locs : List Loc) (ls : Array Slot), wg LY G S s H locs → lv_has ls 2 [] → W p l e R s m args below meth c H locs 0 0 Q (F0 m 14 ls [.int t2]) := by
    intro H locs ls hW hl
    obtain ⟨g5, h⟩ := gd_some h
    cases h
    exact kr _ _ _ _ g5 dX10_has_14 hW
  clear h
  have h := e3
  clear e3
  refine lv_icmp_ne (tgt := 13) hx hb dX10_has_6 (by decide) (fun q4 => ?_) (fun q4 => ?_)
  · have h := it_n q4 h
    refine lv_iconst (v := 0) hx hb dX10_has_13 (by decide) ?_
    cases h
    exact K1 _ _ _ hW (lv_sub hl [] rfl)
  · have h := it_p q4 h
    refine lv_iconst (v := 1) hx hb dX10_has_9 (by decide) ?_
    refine lv_goto (tgt := 14) hx hb dX10_has_10 (by decide) ?_
    cases h
    exact K1 _ _ _ hW (lv_sub hl [] rfl)
theorem ctYs_has {S : St} {x0 : Int32} {x1 : Int32}  {v : Int32} (h : fYs_has S x0 x1 = some v) : Met l yX10_has (wm yX10_has cX10_has 2 (some .boolean)) (rmx 0 0) (pcm LY G S [.int x0, .int x1]) (qcI LY G S v) 0 0 G.2.2.2 :=
  x_enter (own := RX10) rfl rfl (Nat.le_of_ble_eq_true rfl) (fun p e s m below meth c ls hC hr hk hW hl => wYs_has hC (Nat.le_refl _) (Nat.le_refl _)  h (fun H locs ls pc hz hd hW => x_retz hC hr hk hW hz hd) _ _ _ hW hl)
def fY0_makes_L6 (N : Nat) (S : St) (x1 : Int32) (x2 : Int32) (x3 : Int32) : Nat → Int32 → Int32 → Option (Int32)
  | 0, _, _ => none
  | n + 1, x4, x5 =>
    if 12 ≤ x5 then
      some x4
    else
      Option.bind (α := Int32) (
        if x5 = x2 then
          some x4
        else
          gd (inb x1 8) <|
          Option.bind (fYs_has S (S.1 13 (Int32.toNatClampNeg x1)) x5) fun t7 =>
          Option.bind (α := Int32) (
            if t7 = 0 then
              some 0
            else
              if x3 = 0 then
                gd (inb x5 12) <|
                some (S.1 18 (Int32.toNatClampNeg x5))
              else
                gd (inb x5 12) <|
                some (S.1 19 (Int32.toNatClampNeg x5))
          ) fun t10 =>
          gd (inb x1 8) <|
          Option.bind (fYs_has S (S.1 14 (Int32.toNatClampNeg x1)) x5) fun t17 =>
          Option.bind (α := Int32) (
            if t17 = 0 then
              some 0
            else
              if x3 = 0 then
                gd (inb x5 12) <|
                some (S.1 19 (Int32.toNatClampNeg x5))
              else
                gd (inb x5 12) <|
                some (S.1 18 (Int32.toNatClampNeg x5))
          ) fun t20 =>
          nx ((x4 + t10) - t20) fun y26 =>
          some y26
      ) fun t3 =>
      fY0_makes_L6 N S x1 x2 x3 n t3 (x5 + 1)
set_option maxHeartbeats 4000000 in
set_option maxRecDepth 100000 in
theorem wY0_makes_L6 {N : Nat} {S : St} {x1 : Int32} {x2 : Int32} {x3 : Int32} (hC : CallFix p m c cX10_makes 6 s args lw_g RX10) (hF : 1 ≤ R.frames) (hL : 21 ≤ R.locals)  {t : Int32} (kx : ∀ (H : Heap) (locs : List Loc) (ls : Array Slot), wg LY G S s H locs → lv_has ls 6 [(4, .int t)] → W p l e R s m args below meth c H locs 0 0 Q (F0 m 113 ls [])) : ∀ (n : Nat) (x4 : Int32) (x5 : Int32), fY0_makes_L6 N S x1 x2 x3 n x4 x5 = some t → ∀ (H : Heap) (locs : List Loc) (ls : Array Slot), wg LY G S s H locs → lv_has ls 6 [(0, .ref (ad G 0)), (1, .int x1), (2, .int x2), (3, .int x3), (4, .int x4), (5, .int x5)] → W p l e R s m args below meth c H locs 0 0 Q (F0 m 6 ls []) := by
  have hx := hC.1
  have hb := hC.2.1
  intro n
  induction n with
  | zero =>
    intro _ _ h
    cases h
  | succ n ih =>
    intro x4 x5 h H locs ls hW hl
    rw [fY0_makes_L6] at h
    refine lv_iload hx hb dX10_makes_6 (lv_at hl 5 rfl) ?_
    refine lv_bipush (v := 12) hx hb dX10_makes_8 (by decide) ?_
    refine lv_icmp_ge (tgt := 113) hx hb dX10_makes_10 (by decide) (fun q1 => ?_) (fun q1 => ?_)
    · have h := it_p q1 h
      cases h
      exact kx _ _ _ hW (lv_sub hl [4] rfl)
    · have h := it_n q1 h
      refine lv_iload hx hb dX10_makes_13 (lv_at hl 5 rfl) ?_
      refine lv_iload_n hx hb dX10_makes_15 rfl (lv_at hl 2 rfl) ?_
      obtain ⟨t3, e4, h⟩ := bd h
      have K2 : ∀ (H : Heap) (locs : List Loc) (ls : Array Slot), wg LY G S s H locs → lv_has ls 6 [(0, .ref (ad G 0)), (1, .int x1), (2, .int x2), (3, .int x3), (4, .int t3), (5, .int x5)] → W p l e R s m args below meth c H locs 0 0 Q (F0 m 107 ls []) := by
        intro H locs ls hW hl
        refine lv_iinc (v := x5 + 1) (lv' := [(5, .int (x5 + 1)), (0, .ref (ad G 0)), (1, .int x1), (2, .int x2), (3, .int x3), (4, .int t3)]) (k := 5) hx hb dX10_makes_107 hl rfl rfl (by decide) rfl (fun ls hl => ?_)
        refine lv_goto (tgt := 6) hx hb dX10_makes_110 (by decide) ?_
        exact ih _ _ h _ _ _ hW (lv_sub hl [1, 2, 3, 4, 5, 0] rfl)
      clear h
      have h := e4
      clear e4
      refine lv_icmp_eq (tgt := 107) hx hb dX10_makes_16 (by decide) (fun q5 => ?_) (fun q5 => ?_)
      · have h := it_p q5 h
        cases h
        exact K2 _ _ _ hW (lv_sub hl [0, 1, 2, 3, 4, 5] rfl)
      · have h := it_n q5 h
        refine lv_iload hx hb dX10_makes_19 (lv_at hl 4 rfl) ?_
        refine lv_aload_n hx hb dX10_makes_21 rfl (lv_at hl 0 rfl) ?_
        refine gY0_19 hC hW dX10_makes_22 ?_
        refine lv_iload_n hx hb dX10_makes_25 rfl (lv_at hl 1 rfl) ?_
        obtain ⟨g6, h⟩ := gd_some h
        refine x_iald hC hW aY13 g6 dX10_makes_26 ?_
        refine lv_iload hx hb dX10_makes_27 (lv_at hl 5 rfl) ?_
        obtain ⟨t7, e8, h⟩ := bd h
        refine x_goi (x_rs (rest := [.int x4]) hC hW (ctYs_has e8) (cwS_g hC.2.2.2.2 ml_X10_208 ms_X10_has md_X10_has ⟨(Nat.le_trans (Nat.le_of_ble_eq_true rfl) hF), (Nat.le_trans (Nat.le_of_ble_eq_true rfl) hL)⟩) rfl hl.1 rfl (Nat.le_of_ble_eq_true rfl) dX10_makes_29) hW (fun H locs hW => ?_)
        obtain ⟨t10, e11, h⟩ := bd h
        have K9 : ∀ (H : Heap) (locs : List Loc) (ls : Array Slot), wg LY G S s H locs → lv_has ls 6 [(0, .ref (ad G 0)), (1, .int x1), (2, .int x2), (3, .int x3), (5, .int x5)] → W p l e R s m args below meth c H locs 0 0 Q (F0 m 60 ls [.int t10, .int x4]) := by
          intro H locs ls hW hl
          refine lv_iadd hx hb dX10_makes_60 ?_
          refine lv_istore (lv' := [(4, .int (x4 + t10)), (0, .ref (ad G 0)), (1, .int x1), (2, .int x2), (3, .int x3), (5, .int x5)]) hx hb dX10_makes_61 hl (by decide) rfl (fun ls hl => ?_)
          refine lv_iload hx hb dX10_makes_63 (lv_at hl 0 rfl) ?_
          refine lv_aload_n hx hb dX10_makes_65 rfl (lv_at hl 1 rfl) ?_
          refine gY0_20 hC hW dX10_makes_66 ?_
          refine lv_iload_n hx hb dX10_makes_69 rfl (lv_at hl 2 rfl) ?_
          obtain ⟨g16, h⟩ := gd_some h
          refine x_iald hC hW aY14 g16 dX10_makes_70 ?_
          refine lv_iload hx hb dX10_makes_71 (lv_at hl 5 rfl) ?_
          obtain ⟨t17, e18, h⟩ := bd h
          refine x_goi (x_rs (rest := [.int (x4 + t10)]) hC hW (ctYs_has e18) (cwS_g hC.2.2.2.2 ml_X10_208 ms_X10_has md_X10_has ⟨(Nat.le_trans (Nat.le_of_ble_eq_true rfl) hF), (Nat.le_trans (Nat.le_of_ble_eq_true rfl) hL)⟩) rfl hl.1 rfl (Nat.le_of_ble_eq_true rfl) dX10_makes_73) hW (fun H locs hW => ?_)
          obtain ⟨t20, e21, h⟩ := bd h
          have K19 : ∀ (H : Heap) (locs : List Loc) (ls : Array Slot), wg LY G S s H locs → lv_has ls 6 [(0, .ref (ad G 0)), (1, .int x1), (2, .int x2), (3, .int x3), (5, .int x5)] → W p l e R s m args below meth c H locs 0 0 Q (F0 m 104 ls [.int t20, .int (x4 + t10)]) := by
            intro H locs ls hW hl
            refine lv_isub hx hb dX10_makes_104 ?_
            obtain ⟨y26, e27, h⟩ := nx_some h
            refine x_topi e27 ?_
            refine lv_istore (lv' := [(4, .int y26), (0, .ref (ad G 0)), (1, .int x1), (2, .int x2), (3, .int x3), (5, .int x5)]) hx hb dX10_makes_105 hl (by decide) rfl (fun ls hl => ?_)
            cases h
            exact K2 _ _ _ hW (lv_sub hl [1, 2, 3, 4, 0, 5] rfl)
          clear h
          have h := e21
          clear e21
          refine lv_if_eq (tgt := 103) hx hb dX10_makes_76 (by decide) (fun q22 => ?_) (fun q22 => ?_)
          · have h := it_p q22 h
            refine lv_iconst (v := 0) hx hb dX10_makes_103 (by decide) ?_
            cases h
            exact K19 _ _ _ hW (lv_sub hl [1, 2, 3, 4, 5] rfl)
          · have h := it_n q22 h
            refine lv_iload_n hx hb dX10_makes_79 rfl (lv_at hl 4 rfl) ?_
            refine lv_if_eq (tgt := 93) hx hb dX10_makes_80 (by decide) (fun q23 => ?_) (fun q23 => ?_)
            · have h := it_p q23 h
              refine lv_aload_n hx hb dX10_makes_93 rfl (lv_at hl 1 rfl) ?_
              refine gY0_26 hC hW dX10_makes_94 ?_
              refine lv_iload hx hb dX10_makes_97 (lv_at hl 5 rfl) ?_
              obtain ⟨g24, h⟩ := gd_some h
              refine x_iald hC hW aY19 g24 dX10_makes_99 ?_
              refine lv_goto (tgt := 104) hx hb dX10_makes_100 (by decide) ?_
              cases h
              exact K19 _ _ _ hW (lv_sub hl [1, 2, 3, 4, 5] rfl)
            · have h := it_n q23 h
              refine lv_aload_n hx hb dX10_makes_83 rfl (lv_at hl 1 rfl) ?_
              refine gY0_25 hC hW dX10_makes_84 ?_
              refine lv_iload hx hb dX10_makes_87 (lv_at hl 5 rfl) ?_
              obtain ⟨g25, h⟩ := gd_some h
              refine x_iald hC hW aY18 g25 dX10_makes_89 ?_
              refine lv_goto (tgt := 104) hx hb dX10_makes_90 (by decide) ?_
              cases h
              exact K19 _ _ _ hW (lv_sub hl [1, 2, 3, 4, 5] rfl)
        clear h
        have h := e11
        clear e11
        refine lv_if_eq (tgt := 59) hx hb dX10_makes_32 (by decide) (fun q12 => ?_) (fun q12 => ?_)
        · have h := it_p q12 h
          refine lv_iconst (v := 0) hx hb dX10_makes_59 (by decide) ?_
          cases h
          exact K9 _ _ _ hW (lv_sub hl [0, 1, 2, 3, 5] rfl)
        · have h := it_n q12 h
          refine lv_iload_n hx hb dX10_makes_35 rfl (lv_at hl 3 rfl) ?_
          refine lv_if_eq (tgt := 49) hx hb dX10_makes_36 (by decide) (fun q13 => ?_) (fun q13 => ?_)
          · have h := it_p q13 h
            refine lv_aload_n hx hb dX10_makes_49 rfl (lv_at hl 0 rfl) ?_
            refine gY0_25 hC hW dX10_makes_50 ?_
            refine lv_iload hx hb dX10_makes_53 (lv_at hl 5 rfl) ?_
            obtain ⟨g14, h⟩ := gd_some h
            refine x_iald hC hW aY18 g14 dX10_makes_55 ?_
            refine lv_goto (tgt := 60) hx hb dX10_makes_56 (by decide) ?_
            cases h
            exact K9 _ _ _ hW (lv_sub hl [0, 1, 2, 3, 5] rfl)
          · have h := it_n q13 h
            refine lv_aload_n hx hb dX10_makes_39 rfl (lv_at hl 0 rfl) ?_
            refine gY0_26 hC hW dX10_makes_40 ?_
            refine lv_iload hx hb dX10_makes_43 (lv_at hl 5 rfl) ?_
            obtain ⟨g15, h⟩ := gd_some h
            refine x_iald hC hW aY19 g15 dX10_makes_45 ?_
            refine lv_goto (tgt := 60) hx hb dX10_makes_46 (by decide) ?_
            cases h
            exact K9 _ _ _ hW (lv_sub hl [0, 1, 2, 3, 5] rfl)
def fY0_makes (N : Nat) (S : St) (x1 : Int32) (x2 : Int32) (x3 : Int32) : Option (Int32) :=
  Option.bind (fY0_makes_L6 N S x1 x2 x3 N 0 0) fun t28 =>
  some t28
set_option maxHeartbeats 4000000 in
set_option maxRecDepth 100000 in
theorem wY0_makes {N : Nat} {S : St} {x1 : Int32} {x2 : Int32} {x3 : Int32} (hC : CallFix p m c cX10_makes 6 s args lw_g RX10) (hF : 1 ≤ R.frames) (hL : 21 ≤ R.locals)  {v : Int32} (h : fY0_makes N S x1 x2 x3 = some v) (kr : ∀ (H : Heap) (locs : List Loc) (ls : Array Slot) (pc : Nat), decode cX10_makes pc = .ok (.ireturn, 1) → wg LY G S s H locs → W p l e R s m args below meth c H locs 0 0 Q (F0 m pc ls [.int v])) : ∀ (H : Heap) (locs : List Loc) (ls : Array Slot), wg LY G S s H locs → lv_has ls 6 [(0, .ref (ad G 0)), (1, .int x1), (2, .int x2), (3, .int x3)] → W p l e R s m args below meth c H locs 0 0 Q (F0 m 0 ls []) := by
  have hx := hC.1
  have hb := hC.2.1
  intro H locs ls hW hl
  unfold fY0_makes at h
  refine lv_iconst (v := 0) hx hb dX10_makes_0 (by decide) ?_
  refine lv_istore (lv' := [(4, .int 0), (0, .ref (ad G 0)), (1, .int x1), (2, .int x2), (3, .int x3)]) hx hb dX10_makes_1 hl (by decide) rfl (fun ls hl => ?_)
  refine lv_iconst (v := 0) hx hb dX10_makes_3 (by decide) ?_
  refine lv_istore (lv' := [(5, .int 0), (4, .int 0), (0, .ref (ad G 0)), (1, .int x1), (2, .int x2), (3, .int x3)]) hx hb dX10_makes_4 hl (by decide) rfl (fun ls hl => ?_)
  obtain ⟨t28, e29, h⟩ := bd h
  refine wY0_makes_L6 hC hF hL  (fun H locs ls hW hl => ?_) _ _ _ e29 _ _ _ hW (lv_sub hl [2, 3, 4, 5, 1, 0] rfl)
  refine lv_iload hx hb dX10_makes_113 (lv_at hl 0 rfl) ?_
  cases h
  exact kr _ _ _ _ dX10_makes_115 hW
theorem ctY0_makes {N : Nat} {S : St} {x1 : Int32} {x2 : Int32} {x3 : Int32}  {v : Int32} (h : fY0_makes N S x1 x2 x3 = some v) : Met l yX10_makes (wm yX10_makes cX10_makes 6 (some .int)) (rmx 1 21) (pcm LY G S [.ref (ad G 0), .int x1, .int x2, .int x3]) (qcI LY G S v) 0 0 G.2.2.2 :=
  x_enter (own := RX10) rfl rfl (Nat.le_of_ble_eq_true rfl) (fun p e s m below meth c ls hC hr hk hW hl => wY0_makes hC (Nat.le_refl _) (Nat.le_refl _)  h (fun H locs ls pc hd hW => x_reti hC hr hk hW hd) _ _ _ hW hl)
def fY0_canSum (N : Nat) (S : St) (x1 : Int32) (x2 : Int32) (x3 : Int32) : Option (Int32) :=
  gd (inb x1 8) <|
  gd (inb x1 8) <|
  Option.bind (fYs_has S (S.1 13 (Int32.toNatClampNeg x1)) x2) fun t3 =>
  Option.bind (α := Int32) (
    if t3 = 0 then
      some (-x3)
    else
      some x3
  ) fun t6 =>
  nx ((S.1 15 (Int32.toNatClampNeg x1)) - t6) fun y9 =>
  Option.bind (fY0_makes N S x1 x2 0) fun t11 =>
  Option.bind (fY0_makes N S x1 x2 1) fun t13 =>
  Option.bind (fYs_in S y9 t11 t13) fun t15 =>
  gd (isb t15) <|
  some t15
set_option maxHeartbeats 4000000 in
set_option maxRecDepth 100000 in
theorem wY0_canSum {N : Nat} {S : St} {x1 : Int32} {x2 : Int32} {x3 : Int32} (hC : CallFix p m c cX10_canSum 5 s args lw_g RX10) (hF : 2 ≤ R.frames) (hL : 46 ≤ R.locals)  {v : Int32} (h : fY0_canSum N S x1 x2 x3 = some v) (kr : ∀ (H : Heap) (locs : List Loc) (ls : Array Slot) (pc : Nat), isb v = true → decode cX10_canSum pc = .ok (.ireturn, 1) → wg LY G S s H locs → W p l e R s m args below meth c H locs 0 0 Q (F0 m pc ls [.int v])) : ∀ (H : Heap) (locs : List Loc) (ls : Array Slot), wg LY G S s H locs → lv_has ls 5 [(0, .ref (ad G 0)), (1, .int x1), (2, .int x2), (3, .int x3)] → W p l e R s m args below meth c H locs 0 0 Q (F0 m 0 ls []) := by
  have hx := hC.1
  have hb := hC.2.1
  intro H locs ls hW hl
  unfold fY0_canSum at h
  refine lv_aload_n hx hb dX10_canSum_0 rfl (lv_at hl 0 rfl) ?_
  refine gY0_21 hC hW dX10_canSum_1 ?_
  refine lv_iload_n hx hb dX10_canSum_4 rfl (lv_at hl 1 rfl) ?_
  obtain ⟨g1, h⟩ := gd_some h
  refine x_iald hC hW aY15 g1 dX10_canSum_5 ?_
  refine lv_aload_n hx hb dX10_canSum_6 rfl (lv_at hl 0 rfl) ?_
  refine gY0_19 hC hW dX10_canSum_7 ?_
  refine lv_iload_n hx hb dX10_canSum_10 rfl (lv_at hl 1 rfl) ?_
  obtain ⟨g2, h⟩ := gd_some h
  refine x_iald hC hW aY13 g2 dX10_canSum_11 ?_
  refine lv_iload_n hx hb dX10_canSum_12 rfl (lv_at hl 2 rfl) ?_
  obtain ⟨t3, e4, h⟩ := bd h
  refine x_goi (x_rs (rest := [.int (S.1 15 (Int32.toNatClampNeg x1))]) hC hW (ctYs_has e4) (cwS_g hC.2.2.2.2 ml_X10_208 ms_X10_has md_X10_has ⟨(Nat.le_trans (Nat.le_of_ble_eq_true rfl) hF), (Nat.le_trans (Nat.le_of_ble_eq_true rfl) hL)⟩) rfl hl.1 rfl (Nat.le_of_ble_eq_true rfl) dX10_canSum_13) hW (fun H locs hW => ?_)
  obtain ⟨t6, e7, h⟩ := bd h
  have K5 : ∀ (H : Heap) (locs : List Loc) (ls : Array Slot), wg LY G S s H locs → lv_has ls 5 [(0, .ref (ad G 0)), (1, .int x1), (2, .int x2)] → W p l e R s m args below meth c H locs 0 0 Q (F0 m 25 ls [.int t6, .int (S.1 15 (Int32.toNatClampNeg x1))]) := by
    intro H locs ls hW hl
    refine lv_isub hx hb dX10_canSum_25 ?_
    obtain ⟨y9, e10, h⟩ := nx_some h
    refine x_topi e10 ?_
    refine lv_istore (lv' := [(4, .int y9), (0, .ref (ad G 0)), (1, .int x1), (2, .int x2)]) hx hb dX10_canSum_26 hl (by decide) rfl (fun ls hl => ?_)
    refine lv_iload hx hb dX10_canSum_28 (lv_at hl 0 rfl) ?_
    refine lv_aload_n hx hb dX10_canSum_30 rfl (lv_at hl 1 rfl) ?_
    refine lv_iload_n hx hb dX10_canSum_31 rfl (lv_at hl 2 rfl) ?_
    refine lv_iload_n hx hb dX10_canSum_32 rfl (lv_at hl 3 rfl) ?_
    refine lv_iconst (v := 0) hx hb dX10_canSum_33 (by decide) ?_
    obtain ⟨t11, e12, h⟩ := bd h
    refine x_goi (x_rv (rest := [.int y9]) hC hW (ctY0_makes e12) (cwV_g hC.2.2.2.2 ml_X10_211 mi_X10_makes md_X10_makes ⟨(Nat.le_trans (Nat.le_of_ble_eq_true rfl) hF), (Nat.le_trans (Nat.le_of_ble_eq_true rfl) hL)⟩) (rcY0 hW) rfl hl.1 rfl (Nat.le_of_ble_eq_true rfl) dX10_canSum_34) hW (fun H locs hW => ?_)
    refine lv_aload_n hx hb dX10_canSum_37 rfl (lv_at hl 1 rfl) ?_
    refine lv_iload_n hx hb dX10_canSum_38 rfl (lv_at hl 2 rfl) ?_
    refine lv_iload_n hx hb dX10_canSum_39 rfl (lv_at hl 3 rfl) ?_
    refine lv_iconst (v := 1) hx hb dX10_canSum_40 (by decide) ?_
    obtain ⟨t13, e14, h⟩ := bd h
    refine x_goi (x_rv (rest := [.int t11, .int y9]) hC hW (ctY0_makes e14) (cwV_g hC.2.2.2.2 ml_X10_211 mi_X10_makes md_X10_makes ⟨(Nat.le_trans (Nat.le_of_ble_eq_true rfl) hF), (Nat.le_trans (Nat.le_of_ble_eq_true rfl) hL)⟩) (rcY0 hW) rfl hl.1 rfl (Nat.le_of_ble_eq_true rfl) dX10_canSum_41) hW (fun H locs hW => ?_)
    obtain ⟨t15, e16, h⟩ := bd h
    refine x_goi (x_rs (rest := []) hC hW (ctYs_in e16) (cwS_g hC.2.2.2.2 ml_X10_103 ms_X10_in md_X10_in ⟨(Nat.le_trans (Nat.le_of_ble_eq_true rfl) hF), (Nat.le_trans (Nat.le_of_ble_eq_true rfl) hL)⟩) rfl hl.1 rfl (Nat.le_of_ble_eq_true rfl) dX10_canSum_44) hW (fun H locs hW => ?_)
    obtain ⟨g17, h⟩ := gd_some h
    cases h
    exact kr _ _ _ _ g17 dX10_canSum_47 hW
  clear h
  have h := e7
  clear e7
  refine lv_if_eq (tgt := 23) hx hb dX10_canSum_16 (by decide) (fun q8 => ?_) (fun q8 => ?_)
  · have h := it_p q8 h
    refine lv_iload_n hx hb dX10_canSum_23 rfl (lv_at hl 3 rfl) ?_
    refine lv_ineg hx hb dX10_canSum_24 ?_
    cases h
    exact K5 _ _ _ hW (lv_sub hl [0, 1, 2] rfl)
  · have h := it_n q8 h
    refine lv_iload_n hx hb dX10_canSum_19 rfl (lv_at hl 3 rfl) ?_
    refine lv_goto (tgt := 25) hx hb dX10_canSum_20 (by decide) ?_
    cases h
    exact K5 _ _ _ hW (lv_sub hl [0, 1, 2] rfl)
theorem ctY0_canSum {N : Nat} {S : St} {x1 : Int32} {x2 : Int32} {x3 : Int32}  {v : Int32} (h : fY0_canSum N S x1 x2 x3 = some v) : Met l yX10_canSum (wm yX10_canSum cX10_canSum 5 (some .boolean)) (rmx 2 46) (pcm LY G S [.ref (ad G 0), .int x1, .int x2, .int x3]) (qcI LY G S v) 0 0 G.2.2.2 :=
  x_enter (own := RX10) rfl rfl (Nat.le_of_ble_eq_true rfl) (fun p e s m below meth c ls hC hr hk hW hl => wY0_canSum hC (Nat.le_refl _) (Nat.le_refl _)  h (fun H locs ls pc hz hd hW => x_retz hC hr hk hW hz hd) _ _ _ hW hl)
def fY0_can_L6 (N : Nat) (S : St) (x1 : Int32) (x2 : Int32) (x3 : Int32) : Nat → Int32 → Int32 → Option (Int32)
  | 0, _, _ => none
  | n + 1, x4, x5 =>
    if (S.1 0 18) ≤ x5 then
      some x4
    else
      if x4 = 0 then
        some x4
      else
        Option.bind (fYs_has S x3 x5) fun t3 =>
        Option.bind (α := Int32) (
          if t3 = 0 then
            gd (inb x5 8) <|
            gd (inb x5 8) <|
            Option.bind (fYs_has S ((S.1 13 (Int32.toNatClampNeg x5)) ||| (S.1 14 (Int32.toNatClampNeg x5))) x1) fun t11 =>
            if t11 = 0 then
              some 1
            else
              Option.bind (fY0_canSum N S x5 x1 x2) fun t14 =>
              if t14 = 0 then
                some 0
              else
                some 1
          else
            some 1
        ) fun t6 =>
        fY0_can_L6 N S x1 x2 x3 n t6 (x5 + 1)
set_option maxHeartbeats 4000000 in
set_option maxRecDepth 100000 in
theorem wY0_can_L6 {N : Nat} {S : St} {x1 : Int32} {x2 : Int32} {x3 : Int32} (hC : CallFix p m c cX10_can 6 s args lw_g RX10) (hF : 3 ≤ R.frames) (hL : 70 ≤ R.locals)  {t : Int32} (kx : ∀ (H : Heap) (locs : List Loc) (ls : Array Slot), wg LY G S s H locs → lv_has ls 6 [(0, .ref (ad G 0)), (1, .int x1), (2, .int x2), (4, .int t)] → W p l e R s m args below meth c H locs 0 0 Q (F0 m 75 ls [])) : ∀ (n : Nat) (x4 : Int32) (x5 : Int32), fY0_can_L6 N S x1 x2 x3 n x4 x5 = some t → ∀ (H : Heap) (locs : List Loc) (ls : Array Slot), wg LY G S s H locs → lv_has ls 6 [(0, .ref (ad G 0)), (1, .int x1), (2, .int x2), (3, .int x3), (4, .int x4), (5, .int x5)] → W p l e R s m args below meth c H locs 0 0 Q (F0 m 6 ls []) := by
  have hx := hC.1
  have hb := hC.2.1
  intro n
  induction n with
  | zero =>
    intro _ _ h
    cases h
  | succ n ih =>
    intro x4 x5 h H locs ls hW hl
    rw [fY0_can_L6] at h
    refine lv_iload hx hb dX10_can_6 (lv_at hl 5 rfl) ?_
    refine lv_aload_n hx hb dX10_can_8 rfl (lv_at hl 0 rfl) ?_
    refine gY0_18 hC hW dX10_can_9 ?_
    refine lv_icmp_ge (tgt := 75) hx hb dX10_can_12 (by decide) (fun q1 => ?_) (fun q1 => ?_)
    · have h := it_p q1 h
      cases h
      exact kx _ _ _ hW (lv_sub hl [0, 1, 2, 4] rfl)
    · have h := it_n q1 h
      refine lv_iload hx hb dX10_can_15 (lv_at hl 4 rfl) ?_
      refine lv_if_eq (tgt := 75) hx hb dX10_can_17 (by decide) (fun q2 => ?_) (fun q2 => ?_)
      · have h := it_p q2 h
        cases h
        exact kx _ _ _ hW (lv_sub hl [0, 1, 2, 4] rfl)
      · have h := it_n q2 h
        refine lv_iload_n hx hb dX10_can_20 rfl (lv_at hl 3 rfl) ?_
        refine lv_iload hx hb dX10_can_21 (lv_at hl 5 rfl) ?_
        obtain ⟨t3, e4, h⟩ := bd h
        refine x_goi (x_rs (rest := []) hC hW (ctYs_has e4) (cwS_g hC.2.2.2.2 ml_X10_208 ms_X10_has md_X10_has ⟨(Nat.le_trans (Nat.le_of_ble_eq_true rfl) hF), (Nat.le_trans (Nat.le_of_ble_eq_true rfl) hL)⟩) rfl hl.1 rfl (Nat.le_of_ble_eq_true rfl) dX10_can_23) hW (fun H locs hW => ?_)
        obtain ⟨t6, e7, h⟩ := bd h
        have K5 : ∀ (H : Heap) (locs : List Loc) (ls : Array Slot), wg LY G S s H locs → lv_has ls 6 [(0, .ref (ad G 0)), (1, .int x1), (2, .int x2), (3, .int x3), (5, .int x5)] → W p l e R s m args below meth c H locs 0 0 Q (F0 m 67 ls [.int t6]) := by
          intro H locs ls hW hl
          refine lv_istore (lv' := [(4, .int t6), (0, .ref (ad G 0)), (1, .int x1), (2, .int x2), (3, .int x3), (5, .int x5)]) hx hb dX10_can_67 hl (by decide) rfl (fun ls hl => ?_)
          refine lv_iinc (v := x5 + 1) (lv' := [(5, .int (x5 + 1)), (4, .int t6), (0, .ref (ad G 0)), (1, .int x1), (2, .int x2), (3, .int x3)]) (k := 5) hx hb dX10_can_69 hl rfl rfl (by decide) rfl (fun ls hl => ?_)
          refine lv_goto (tgt := 6) hx hb dX10_can_72 (by decide) ?_
          exact ih _ _ h _ _ _ hW (lv_sub hl [2, 3, 4, 5, 1, 0] rfl)
        clear h
        have h := e7
        clear e7
        refine lv_if_ne (tgt := 62) hx hb dX10_can_26 (by decide) (fun q8 => ?_) (fun q8 => ?_)
        · have h := it_n q8 h
          refine lv_iconst (v := 1) hx hb dX10_can_62 (by decide) ?_
          refine lv_goto (tgt := 67) hx hb dX10_can_63 (by decide) ?_
          cases h
          exact K5 _ _ _ hW (lv_sub hl [0, 1, 2, 3, 5] rfl)
        · have h := it_p q8 h
          refine lv_aload_n hx hb dX10_can_29 rfl (lv_at hl 0 rfl) ?_
          refine gY0_19 hC hW dX10_can_30 ?_
          refine lv_iload hx hb dX10_can_33 (lv_at hl 5 rfl) ?_
          obtain ⟨g9, h⟩ := gd_some h
          refine x_iald hC hW aY13 g9 dX10_can_35 ?_
          refine lv_aload_n hx hb dX10_can_36 rfl (lv_at hl 0 rfl) ?_
          refine gY0_20 hC hW dX10_can_37 ?_
          refine lv_iload hx hb dX10_can_40 (lv_at hl 5 rfl) ?_
          obtain ⟨g10, h⟩ := gd_some h
          refine x_iald hC hW aY14 g10 dX10_can_42 ?_
          refine lv_ior hx hb dX10_can_43 ?_
          refine lv_iload_n hx hb dX10_can_44 rfl (lv_at hl 1 rfl) ?_
          obtain ⟨t11, e12, h⟩ := bd h
          refine x_goi (x_rs (rest := []) hC hW (ctYs_has e12) (cwS_g hC.2.2.2.2 ml_X10_208 ms_X10_has md_X10_has ⟨(Nat.le_trans (Nat.le_of_ble_eq_true rfl) hF), (Nat.le_trans (Nat.le_of_ble_eq_true rfl) hL)⟩) rfl hl.1 rfl (Nat.le_of_ble_eq_true rfl) dX10_can_45) hW (fun H locs hW => ?_)
          refine lv_if_eq (tgt := 62) hx hb dX10_can_48 (by decide) (fun q13 => ?_) (fun q13 => ?_)
          · have h := it_p q13 h
            refine lv_iconst (v := 1) hx hb dX10_can_62 (by decide) ?_
            refine lv_goto (tgt := 67) hx hb dX10_can_63 (by decide) ?_
            cases h
            exact K5 _ _ _ hW (lv_sub hl [0, 1, 2, 3, 5] rfl)
          · have h := it_n q13 h
            refine lv_aload_n hx hb dX10_can_51 rfl (lv_at hl 0 rfl) ?_
            refine lv_iload hx hb dX10_can_52 (lv_at hl 5 rfl) ?_
            refine lv_iload_n hx hb dX10_can_54 rfl (lv_at hl 1 rfl) ?_
            refine lv_iload_n hx hb dX10_can_55 rfl (lv_at hl 2 rfl) ?_
            obtain ⟨t14, e15, h⟩ := bd h
            refine x_goi (x_rv (rest := []) hC hW (ctY0_canSum e15) (cwV_g hC.2.2.2.2 ml_X10_215 mi_X10_canSum md_X10_canSum ⟨(Nat.le_trans (Nat.le_of_ble_eq_true rfl) hF), (Nat.le_trans (Nat.le_of_ble_eq_true rfl) hL)⟩) (rcY0 hW) rfl hl.1 rfl (Nat.le_of_ble_eq_true rfl) dX10_can_56) hW (fun H locs hW => ?_)
            refine lv_if_eq (tgt := 66) hx hb dX10_can_59 (by decide) (fun q16 => ?_) (fun q16 => ?_)
            · have h := it_p q16 h
              refine lv_iconst (v := 0) hx hb dX10_can_66 (by decide) ?_
              cases h
              exact K5 _ _ _ hW (lv_sub hl [0, 1, 2, 3, 5] rfl)
            · have h := it_n q16 h
              refine lv_iconst (v := 1) hx hb dX10_can_62 (by decide) ?_
              refine lv_goto (tgt := 67) hx hb dX10_can_63 (by decide) ?_
              cases h
              exact K5 _ _ _ hW (lv_sub hl [0, 1, 2, 3, 5] rfl)
def fY0_can_L190 (N : Nat) (S : St) (x1 : Int32) (x2 : Int32) : Nat → Int32 → Int32 → Option (Int32)
  | 0, _, _ => none
  | n + 1, x4, x5 =>
    if 12 ≤ x5 then
      some x4
    else
      if x4 = 0 then
        some x4
      else
        gd (inb x5 12) <|
        Option.bind (α := Int32) (
          if (S.1 10 (Int32.toNatClampNeg x5)) = 2 then
            gd (inb x5 12) <|
            if (S.1 11 (Int32.toNatClampNeg x5)) = x1 then
              gd (inb x5 12) <|
              gd (inb (S.1 12 (Int32.toNatClampNeg x5)) 12) <|
              gd (inb x5 12) <|
              Option.bind (α := Int32) (
                if (S.1 19 (Int32.toNatClampNeg x5)) < (x2 * (S.1 18 (Int32.toNatClampNeg (S.1 12 (Int32.toNatClampNeg x5))))) then
                  some 0
                else
                  gd (inb x5 12) <|
                  gd (inb (S.1 12 (Int32.toNatClampNeg x5)) 12) <|
                  gd (inb x5 12) <|
                  if (x2 * (S.1 19 (Int32.toNatClampNeg (S.1 12 (Int32.toNatClampNeg x5))))) < (S.1 18 (Int32.toNatClampNeg x5)) then
                    some 0
                  else
                    some 1
              ) fun t64 =>
              some t64
            else
              some x4
          else
            some x4
        ) fun t55 =>
        gd (inb x5 12) <|
        Option.bind (α := Int32) (
          if (S.1 10 (Int32.toNatClampNeg x5)) = 2 then
            gd (inb x5 12) <|
            if (S.1 12 (Int32.toNatClampNeg x5)) = x1 then
              Option.bind (α := Int32) (
                if t55 = 0 then
                  some 0
                else
                  gd (inb x5 12) <|
                  gd (inb (S.1 11 (Int32.toNatClampNeg x5)) 12) <|
                  gd (inb x5 12) <|
                  if (S.1 19 (Int32.toNatClampNeg x5)) < (x2 * (S.1 18 (Int32.toNatClampNeg (S.1 11 (Int32.toNatClampNeg x5))))) then
                    some 0
                  else
                    gd (inb x5 12) <|
                    gd (inb (S.1 11 (Int32.toNatClampNeg x5)) 12) <|
                    gd (inb x5 12) <|
                    if (x2 * (S.1 19 (Int32.toNatClampNeg (S.1 11 (Int32.toNatClampNeg x5))))) < (S.1 18 (Int32.toNatClampNeg x5)) then
                      some 0
                    else
                      some 1
              ) fun t79 =>
              some t79
            else
              some t55
          else
            some t55
        ) fun t73 =>
        gd (inb x5 12) <|
        Option.bind (α := Int32) (
          if (S.1 10 (Int32.toNatClampNeg x5)) = 4 then
            gd (inb x5 12) <|
            if (S.1 11 (Int32.toNatClampNeg x5)) = x1 then
              Option.bind (α := Int32) (
                if t73 = 0 then
                  some 0
                else
                  gd (inb x5 12) <|
                  if (S.1 19 (Int32.toNatClampNeg x5)) ≤ x2 then
                    some 0
                  else
                    some 1
              ) fun t98 =>
              some t98
            else
              some t73
          else
            some t73
        ) fun t92 =>
        fY0_can_L190 N S x1 x2 n t92 (x5 + 1)
set_option maxHeartbeats 4000000 in
set_option maxRecDepth 100000 in
theorem wY0_can_L190 {N : Nat} {S : St} {x1 : Int32} {x2 : Int32} (hC : CallFix p m c cX10_can 6 s args lw_g RX10) (hF : 3 ≤ R.frames) (hL : 70 ≤ R.locals)  {t : Int32} (kx : ∀ (H : Heap) (locs : List Loc) (ls : Array Slot), wg LY G S s H locs → lv_has ls 6 [(4, .int t)] → W p l e R s m args below meth c H locs 0 0 Q (F0 m 412 ls [])) : ∀ (n : Nat) (x4 : Int32) (x5 : Int32), fY0_can_L190 N S x1 x2 n x4 x5 = some t → ∀ (H : Heap) (locs : List Loc) (ls : Array Slot), wg LY G S s H locs → lv_has ls 6 [(0, .ref (ad G 0)), (1, .int x1), (2, .int x2), (4, .int x4), (5, .int x5)] → W p l e R s m args below meth c H locs 0 0 Q (F0 m 190 ls []) := by
  have hx := hC.1
  have hb := hC.2.1
  intro n
  induction n with
  | zero =>
    intro _ _ h
    cases h
  | succ n ih =>
    intro x4 x5 h H locs ls hW hl
    rw [fY0_can_L190] at h
    refine lv_iload hx hb dX10_can_190 (lv_at hl 4 rfl) ?_
    refine lv_bipush (v := 12) hx hb dX10_can_192 (by decide) ?_
    refine lv_icmp_ge (tgt := 412) hx hb dX10_can_194 (by decide) (fun q51 => ?_) (fun q51 => ?_)
    · have h := it_p q51 h
      cases h
      exact kx _ _ _ hW (lv_sub hl [3] rfl)
    · have h := it_n q51 h
      refine lv_iload hx hb dX10_can_197 (lv_at hl 3 rfl) ?_
      refine lv_if_eq (tgt := 412) hx hb dX10_can_199 (by decide) (fun q52 => ?_) (fun q52 => ?_)
      · have h := it_p q52 h
        cases h
        exact kx _ _ _ hW (lv_sub hl [3] rfl)
      · have h := it_n q52 h
        refine lv_aload_n hx hb dX10_can_202 rfl (lv_at hl 0 rfl) ?_
        refine gY0_15 hC hW dX10_can_203 ?_
        refine lv_iload hx hb dX10_can_206 (lv_at hl 4 rfl) ?_
        obtain ⟨g53, h⟩ := gd_some h
        refine x_iald hC hW aY10 g53 dX10_can_208 ?_
        refine lv_iconst (v := 2) hx hb dX10_can_209 (by decide) ?_
        obtain ⟨t55, e56, h⟩ := bd h
        have K54 : ∀ (H : Heap) (locs : List Loc) (ls : Array Slot), wg LY G S s H locs → lv_has ls 6 [(0, .ref (ad G 0)), (1, .int x1), (2, .int x2), (4, .int t55), (5, .int x5)] → W p l e R s m args below meth c H locs 0 0 Q (F0 m 279 ls []) := by
          intro H locs ls hW hl
          refine lv_aload_n hx hb dX10_can_279 rfl (lv_at hl 0 rfl) ?_
          refine gY0_15 hC hW dX10_can_280 ?_
          refine lv_iload hx hb dX10_can_283 (lv_at hl 4 rfl) ?_
          obtain ⟨g71, h⟩ := gd_some h
          refine x_iald hC hW aY10 g71 dX10_can_285 ?_
          refine lv_iconst (v := 2) hx hb dX10_can_286 (by decide) ?_
          obtain ⟨t73, e74, h⟩ := bd h
          have K72 : ∀ (H : Heap) (locs : List Loc) (ls : Array Slot), wg LY G S s H locs → lv_has ls 6 [(0, .ref (ad G 0)), (1, .int x1), (2, .int x2), (4, .int t73), (5, .int x5)] → W p l e R s m args below meth c H locs 0 0 Q (F0 m 361 ls []) := by
            intro H locs ls hW hl
            refine lv_aload_n hx hb dX10_can_361 rfl (lv_at hl 0 rfl) ?_
            refine gY0_15 hC hW dX10_can_362 ?_
            refine lv_iload hx hb dX10_can_365 (lv_at hl 4 rfl) ?_
            obtain ⟨g90, h⟩ := gd_some h
            refine x_iald hC hW aY10 g90 dX10_can_367 ?_
            refine lv_iconst (v := 4) hx hb dX10_can_368 (by decide) ?_
            obtain ⟨t92, e93, h⟩ := bd h
            have K91 : ∀ (H : Heap) (locs : List Loc) (ls : Array Slot), wg LY G S s H locs → lv_has ls 6 [(0, .ref (ad G 0)), (1, .int x1), (2, .int x2), (4, .int t92), (5, .int x5)] → W p l e R s m args below meth c H locs 0 0 Q (F0 m 406 ls []) := by
              intro H locs ls hW hl
              refine lv_iinc (v := x5 + 1) (lv' := [(5, .int (x5 + 1)), (0, .ref (ad G 0)), (1, .int x1), (2, .int x2), (4, .int t92)]) (k := 4) hx hb dX10_can_406 hl rfl rfl (by decide) rfl (fun ls hl => ?_)
              refine lv_goto (tgt := 190) hx hb dX10_can_409 (by decide) ?_
              exact ih _ _ h _ _ _ hW (lv_sub hl [1, 2, 3, 4, 0] rfl)
            clear h
            have h := e93
            clear e93
            refine lv_icmp_ne (tgt := 406) hx hb dX10_can_369 (by decide) (fun q94 => ?_) (fun q94 => ?_)
            · have h := it_n q94 h
              cases h
              exact K91 _ _ _ hW (lv_sub hl [0, 1, 2, 3, 4] rfl)
            · have h := it_p q94 h
              refine lv_aload_n hx hb dX10_can_372 rfl (lv_at hl 0 rfl) ?_
              refine gY0_16 hC hW dX10_can_373 ?_
              refine lv_iload hx hb dX10_can_376 (lv_at hl 4 rfl) ?_
              obtain ⟨g95, h⟩ := gd_some h
              refine x_iald hC hW aY11 g95 dX10_can_378 ?_
              refine lv_iload_n hx hb dX10_can_379 rfl (lv_at hl 1 rfl) ?_
              refine lv_icmp_ne (tgt := 406) hx hb dX10_can_380 (by decide) (fun q96 => ?_) (fun q96 => ?_)
              · have h := it_n q96 h
                cases h
                exact K91 _ _ _ hW (lv_sub hl [0, 1, 2, 3, 4] rfl)
              · have h := it_p q96 h
                refine lv_iload hx hb dX10_can_383 (lv_at hl 3 rfl) ?_
                obtain ⟨t98, e99, h⟩ := bd h
                have K97 : ∀ (H : Heap) (locs : List Loc) (ls : Array Slot), wg LY G S s H locs → lv_has ls 6 [(0, .ref (ad G 0)), (1, .int x1), (2, .int x2), (5, .int x5)] → W p l e R s m args below meth c H locs 0 0 Q (F0 m 404 ls [.int t98]) := by
                  intro H locs ls hW hl
                  refine lv_istore (lv' := [(4, .int t98), (0, .ref (ad G 0)), (1, .int x1), (2, .int x2), (5, .int x5)]) hx hb dX10_can_404 hl (by decide) rfl (fun ls hl => ?_)
                  cases h
                  exact K91 _ _ _ hW (lv_sub hl [1, 2, 3, 0, 4] rfl)
                clear h
                have h := e99
                clear e99
                refine lv_if_eq (tgt := 403) hx hb dX10_can_385 (by decide) (fun q100 => ?_) (fun q100 => ?_)
                · have h := it_p q100 h
                  refine lv_iconst (v := 0) hx hb dX10_can_403 (by decide) ?_
                  cases h
                  exact K97 _ _ _ hW (lv_sub hl [0, 1, 2, 4] rfl)
                · have h := it_n q100 h
                  refine lv_iload_n hx hb dX10_can_388 rfl (lv_at hl 2 rfl) ?_
                  refine lv_aload_n hx hb dX10_can_389 rfl (lv_at hl 0 rfl) ?_
                  refine gY0_26 hC hW dX10_can_390 ?_
                  refine lv_iload hx hb dX10_can_393 (lv_at hl 4 rfl) ?_
                  obtain ⟨g101, h⟩ := gd_some h
                  refine x_iald hC hW aY19 g101 dX10_can_395 ?_
                  refine lv_icmp_ge (tgt := 403) hx hb dX10_can_396 (by decide) (fun q102 => ?_) (fun q102 => ?_)
                  · have h := it_p q102 h
                    refine lv_iconst (v := 0) hx hb dX10_can_403 (by decide) ?_
                    cases h
                    exact K97 _ _ _ hW (lv_sub hl [0, 1, 2, 4] rfl)
                  · have h := it_n q102 h
                    refine lv_iconst (v := 1) hx hb dX10_can_399 (by decide) ?_
                    refine lv_goto (tgt := 404) hx hb dX10_can_400 (by decide) ?_
                    cases h
                    exact K97 _ _ _ hW (lv_sub hl [0, 1, 2, 4] rfl)
          clear h
          have h := e74
          clear e74
          refine lv_icmp_ne (tgt := 361) hx hb dX10_can_287 (by decide) (fun q75 => ?_) (fun q75 => ?_)
          · have h := it_n q75 h
            cases h
            exact K72 _ _ _ hW (lv_sub hl [0, 1, 2, 3, 4] rfl)
          · have h := it_p q75 h
            refine lv_aload_n hx hb dX10_can_290 rfl (lv_at hl 0 rfl) ?_
            refine gY0_17 hC hW dX10_can_291 ?_
            refine lv_iload hx hb dX10_can_294 (lv_at hl 4 rfl) ?_
            obtain ⟨g76, h⟩ := gd_some h
            refine x_iald hC hW aY12 g76 dX10_can_296 ?_
            refine lv_iload_n hx hb dX10_can_297 rfl (lv_at hl 1 rfl) ?_
            refine lv_icmp_ne (tgt := 361) hx hb dX10_can_298 (by decide) (fun q77 => ?_) (fun q77 => ?_)
            · have h := it_n q77 h
              cases h
              exact K72 _ _ _ hW (lv_sub hl [0, 1, 2, 3, 4] rfl)
            · have h := it_p q77 h
              refine lv_iload hx hb dX10_can_301 (lv_at hl 3 rfl) ?_
              obtain ⟨t79, e80, h⟩ := bd h
              have K78 : ∀ (H : Heap) (locs : List Loc) (ls : Array Slot), wg LY G S s H locs → lv_has ls 6 [(0, .ref (ad G 0)), (1, .int x1), (2, .int x2), (5, .int x5)] → W p l e R s m args below meth c H locs 0 0 Q (F0 m 359 ls [.int t79]) := by
                intro H locs ls hW hl
                refine lv_istore (lv' := [(4, .int t79), (0, .ref (ad G 0)), (1, .int x1), (2, .int x2), (5, .int x5)]) hx hb dX10_can_359 hl (by decide) rfl (fun ls hl => ?_)
                cases h
                exact K72 _ _ _ hW (lv_sub hl [1, 2, 3, 0, 4] rfl)
              clear h
              have h := e80
              clear e80
              refine lv_if_eq (tgt := 358) hx hb dX10_can_303 (by decide) (fun q81 => ?_) (fun q81 => ?_)
              · have h := it_p q81 h
                refine lv_iconst (v := 0) hx hb dX10_can_358 (by decide) ?_
                cases h
                exact K78 _ _ _ hW (lv_sub hl [0, 1, 2, 4] rfl)
              · have h := it_n q81 h
                refine lv_iload_n hx hb dX10_can_306 rfl (lv_at hl 2 rfl) ?_
                refine lv_aload_n hx hb dX10_can_307 rfl (lv_at hl 0 rfl) ?_
                refine gY0_25 hC hW dX10_can_308 ?_
                refine lv_aload_n hx hb dX10_can_311 rfl (lv_at hl 0 rfl) ?_
                refine gY0_16 hC hW dX10_can_312 ?_
                refine lv_iload hx hb dX10_can_315 (lv_at hl 4 rfl) ?_
                obtain ⟨g82, h⟩ := gd_some h
                refine x_iald hC hW aY11 g82 dX10_can_317 ?_
                obtain ⟨g83, h⟩ := gd_some h
                refine x_iald hC hW aY18 g83 dX10_can_318 ?_
                refine lv_imul hx hb dX10_can_319 ?_
                refine lv_aload_n hx hb dX10_can_320 rfl (lv_at hl 0 rfl) ?_
                refine gY0_26 hC hW dX10_can_321 ?_
                refine lv_iload hx hb dX10_can_324 (lv_at hl 4 rfl) ?_
                obtain ⟨g84, h⟩ := gd_some h
                refine x_iald hC hW aY19 g84 dX10_can_326 ?_
                refine lv_icmp_gt (tgt := 358) hx hb dX10_can_327 (by decide) (fun q85 => ?_) (fun q85 => ?_)
                · have h := it_p q85 h
                  refine lv_iconst (v := 0) hx hb dX10_can_358 (by decide) ?_
                  cases h
                  exact K78 _ _ _ hW (lv_sub hl [0, 1, 2, 4] rfl)
                · have h := it_n q85 h
                  refine lv_iload_n hx hb dX10_can_330 rfl (lv_at hl 2 rfl) ?_
                  refine lv_aload_n hx hb dX10_can_331 rfl (lv_at hl 0 rfl) ?_
                  refine gY0_26 hC hW dX10_can_332 ?_
                  refine lv_aload_n hx hb dX10_can_335 rfl (lv_at hl 0 rfl) ?_
                  refine gY0_16 hC hW dX10_can_336 ?_
                  refine lv_iload hx hb dX10_can_339 (lv_at hl 4 rfl) ?_
                  obtain ⟨g86, h⟩ := gd_some h
                  refine x_iald hC hW aY11 g86 dX10_can_341 ?_
                  obtain ⟨g87, h⟩ := gd_some h
                  refine x_iald hC hW aY19 g87 dX10_can_342 ?_
                  refine lv_imul hx hb dX10_can_343 ?_
                  refine lv_aload_n hx hb dX10_can_344 rfl (lv_at hl 0 rfl) ?_
                  refine gY0_25 hC hW dX10_can_345 ?_
                  refine lv_iload hx hb dX10_can_348 (lv_at hl 4 rfl) ?_
                  obtain ⟨g88, h⟩ := gd_some h
                  refine x_iald hC hW aY18 g88 dX10_can_350 ?_
                  refine lv_icmp_lt (tgt := 358) hx hb dX10_can_351 (by decide) (fun q89 => ?_) (fun q89 => ?_)
                  · have h := it_p q89 h
                    refine lv_iconst (v := 0) hx hb dX10_can_358 (by decide) ?_
                    cases h
                    exact K78 _ _ _ hW (lv_sub hl [0, 1, 2, 4] rfl)
                  · have h := it_n q89 h
                    refine lv_iconst (v := 1) hx hb dX10_can_354 (by decide) ?_
                    refine lv_goto (tgt := 359) hx hb dX10_can_355 (by decide) ?_
                    cases h
                    exact K78 _ _ _ hW (lv_sub hl [0, 1, 2, 4] rfl)
        clear h
        have h := e56
        clear e56
        refine lv_icmp_ne (tgt := 279) hx hb dX10_can_210 (by decide) (fun q57 => ?_) (fun q57 => ?_)
        · have h := it_n q57 h
          cases h
          exact K54 _ _ _ hW (lv_sub hl [0, 1, 2, 3, 4] rfl)
        · have h := it_p q57 h
          refine lv_aload_n hx hb dX10_can_213 rfl (lv_at hl 0 rfl) ?_
          refine gY0_16 hC hW dX10_can_214 ?_
          refine lv_iload hx hb dX10_can_217 (lv_at hl 4 rfl) ?_
          obtain ⟨g58, h⟩ := gd_some h
          refine x_iald hC hW aY11 g58 dX10_can_219 ?_
          refine lv_iload_n hx hb dX10_can_220 rfl (lv_at hl 1 rfl) ?_
          refine lv_icmp_ne (tgt := 279) hx hb dX10_can_221 (by decide) (fun q59 => ?_) (fun q59 => ?_)
          · have h := it_n q59 h
            cases h
            exact K54 _ _ _ hW (lv_sub hl [0, 1, 2, 3, 4] rfl)
          · have h := it_p q59 h
            refine lv_iload_n hx hb dX10_can_224 rfl (lv_at hl 2 rfl) ?_
            refine lv_aload_n hx hb dX10_can_225 rfl (lv_at hl 0 rfl) ?_
            refine gY0_25 hC hW dX10_can_226 ?_
            refine lv_aload_n hx hb dX10_can_229 rfl (lv_at hl 0 rfl) ?_
            refine gY0_17 hC hW dX10_can_230 ?_
            refine lv_iload hx hb dX10_can_233 (lv_at hl 4 rfl) ?_
            obtain ⟨g60, h⟩ := gd_some h
            refine x_iald hC hW aY12 g60 dX10_can_235 ?_
            obtain ⟨g61, h⟩ := gd_some h
            refine x_iald hC hW aY18 g61 dX10_can_236 ?_
            refine lv_imul hx hb dX10_can_237 ?_
            refine lv_aload_n hx hb dX10_can_238 rfl (lv_at hl 0 rfl) ?_
            refine gY0_26 hC hW dX10_can_239 ?_
            refine lv_iload hx hb dX10_can_242 (lv_at hl 4 rfl) ?_
            obtain ⟨g62, h⟩ := gd_some h
            refine x_iald hC hW aY19 g62 dX10_can_244 ?_
            obtain ⟨t64, e65, h⟩ := bd h
            have K63 : ∀ (H : Heap) (locs : List Loc) (ls : Array Slot), wg LY G S s H locs → lv_has ls 6 [(0, .ref (ad G 0)), (1, .int x1), (2, .int x2), (5, .int x5)] → W p l e R s m args below meth c H locs 0 0 Q (F0 m 277 ls [.int t64]) := by
              intro H locs ls hW hl
              refine lv_istore (lv' := [(4, .int t64), (0, .ref (ad G 0)), (1, .int x1), (2, .int x2), (5, .int x5)]) hx hb dX10_can_277 hl (by decide) rfl (fun ls hl => ?_)
              cases h
              exact K54 _ _ _ hW (lv_sub hl [1, 2, 3, 0, 4] rfl)
            clear h
            have h := e65
            clear e65
            refine lv_icmp_gt (tgt := 276) hx hb dX10_can_245 (by decide) (fun q66 => ?_) (fun q66 => ?_)
            · have h := it_p q66 h
              refine lv_iconst (v := 0) hx hb dX10_can_276 (by decide) ?_
              cases h
              exact K63 _ _ _ hW (lv_sub hl [0, 1, 2, 4] rfl)
            · have h := it_n q66 h
              refine lv_iload_n hx hb dX10_can_248 rfl (lv_at hl 2 rfl) ?_
              refine lv_aload_n hx hb dX10_can_249 rfl (lv_at hl 0 rfl) ?_
              refine gY0_26 hC hW dX10_can_250 ?_
              refine lv_aload_n hx hb dX10_can_253 rfl (lv_at hl 0 rfl) ?_
              refine gY0_17 hC hW dX10_can_254 ?_
              refine lv_iload hx hb dX10_can_257 (lv_at hl 4 rfl) ?_
              obtain ⟨g67, h⟩ := gd_some h
              refine x_iald hC hW aY12 g67 dX10_can_259 ?_
              obtain ⟨g68, h⟩ := gd_some h
              refine x_iald hC hW aY19 g68 dX10_can_260 ?_
              refine lv_imul hx hb dX10_can_261 ?_
              refine lv_aload_n hx hb dX10_can_262 rfl (lv_at hl 0 rfl) ?_
              refine gY0_25 hC hW dX10_can_263 ?_
              refine lv_iload hx hb dX10_can_266 (lv_at hl 4 rfl) ?_
              obtain ⟨g69, h⟩ := gd_some h
              refine x_iald hC hW aY18 g69 dX10_can_268 ?_
              refine lv_icmp_lt (tgt := 276) hx hb dX10_can_269 (by decide) (fun q70 => ?_) (fun q70 => ?_)
              · have h := it_p q70 h
                refine lv_iconst (v := 0) hx hb dX10_can_276 (by decide) ?_
                cases h
                exact K63 _ _ _ hW (lv_sub hl [0, 1, 2, 4] rfl)
              · have h := it_n q70 h
                refine lv_iconst (v := 1) hx hb dX10_can_272 (by decide) ?_
                refine lv_goto (tgt := 277) hx hb dX10_can_273 (by decide) ?_
                cases h
                exact K63 _ _ _ hW (lv_sub hl [0, 1, 2, 4] rfl)
def fY0_can (N : Nat) (S : St) (x1 : Int32) (x2 : Int32) (x3 : Int32) : Option (Int32) :=
  Option.bind (fY0_can_L6 N S x1 x2 x3 N 1 0) fun t17 =>
  gd (inb x1 12) <|
  Option.bind (α := Int32) (
    if (S.1 10 (Int32.toNatClampNeg x1)) = 2 then
      Option.bind (α := Int32) (
        if t17 = 0 then
          some 0
        else
          gd (inb x1 12) <|
          gd (inb (S.1 11 (Int32.toNatClampNeg x1)) 12) <|
          gd (inb x1 12) <|
          gd (inb (S.1 12 (Int32.toNatClampNeg x1)) 12) <|
          gd (inb x1 12) <|
          gd (inb (S.1 11 (Int32.toNatClampNeg x1)) 12) <|
          gd (inb x1 12) <|
          gd (inb (S.1 12 (Int32.toNatClampNeg x1)) 12) <|
          Option.bind (fYs_in S x2 ((S.1 18 (Int32.toNatClampNeg (S.1 11 (Int32.toNatClampNeg x1)))) * (S.1 18 (Int32.toNatClampNeg (S.1 12 (Int32.toNatClampNeg x1))))) ((S.1 19 (Int32.toNatClampNeg (S.1 11 (Int32.toNatClampNeg x1)))) * (S.1 19 (Int32.toNatClampNeg (S.1 12 (Int32.toNatClampNeg x1)))))) fun t36 =>
          if t36 = 0 then
            some 0
          else
            some 1
      ) fun t25 =>
      some t25
    else
      some t17
  ) fun t21 =>
  gd (inb x1 12) <|
  Option.bind (α := Int32) (
    if (S.1 10 (Int32.toNatClampNeg x1)) = 4 then
      Option.bind (α := Int32) (
        if t21 = 0 then
          some 0
        else
          gd (inb x1 12) <|
          gd (inb (S.1 11 (Int32.toNatClampNeg x1)) 12) <|
          if x2 ≤ (S.1 18 (Int32.toNatClampNeg (S.1 11 (Int32.toNatClampNeg x1)))) then
            some 0
          else
            some 1
      ) fun t45 =>
      some t45
    else
      some t21
  ) fun t41 =>
  Option.bind (fY0_can_L190 N S x1 x2 N t41 0) fun t103 =>
  gd (isb t103) <|
  some t103
set_option maxHeartbeats 4000000 in
set_option maxRecDepth 100000 in
theorem wY0_can {N : Nat} {S : St} {x1 : Int32} {x2 : Int32} {x3 : Int32} (hC : CallFix p m c cX10_can 6 s args lw_g RX10) (hF : 3 ≤ R.frames) (hL : 70 ≤ R.locals)  {v : Int32} (h : fY0_can N S x1 x2 x3 = some v) (kr : ∀ (H : Heap) (locs : List Loc) (ls : Array Slot) (pc : Nat), isb v = true → decode cX10_can pc = .ok (.ireturn, 1) → wg LY G S s H locs → W p l e R s m args below meth c H locs 0 0 Q (F0 m pc ls [.int v])) : ∀ (H : Heap) (locs : List Loc) (ls : Array Slot), wg LY G S s H locs → lv_has ls 6 [(0, .ref (ad G 0)), (1, .int x1), (2, .int x2), (3, .int x3)] → W p l e R s m args below meth c H locs 0 0 Q (F0 m 0 ls []) := by
  have hx := hC.1
  have hb := hC.2.1
  intro H locs ls hW hl
  unfold fY0_can at h
  refine lv_iconst (v := 1) hx hb dX10_can_0 (by decide) ?_
  refine lv_istore (lv' := [(4, .int 1), (0, .ref (ad G 0)), (1, .int x1), (2, .int x2), (3, .int x3)]) hx hb dX10_can_1 hl (by decide) rfl (fun ls hl => ?_)
  refine lv_iconst (v := 0) hx hb dX10_can_3 (by decide) ?_
  refine lv_istore (lv' := [(5, .int 0), (4, .int 1), (0, .ref (ad G 0)), (1, .int x1), (2, .int x2), (3, .int x3)]) hx hb dX10_can_4 hl (by decide) rfl (fun ls hl => ?_)
  obtain ⟨t17, e18, h⟩ := bd h
  refine wY0_can_L6 hC hF hL  (fun H locs ls hW hl => ?_) _ _ _ e18 _ _ _ hW (lv_sub hl [2, 3, 4, 5, 1, 0] rfl)
  refine lv_aload_n hx hb dX10_can_75 rfl (lv_at hl 0 rfl) ?_
  refine gY0_15 hC hW dX10_can_76 ?_
  refine lv_iload_n hx hb dX10_can_79 rfl (lv_at hl 1 rfl) ?_
  obtain ⟨g19, h⟩ := gd_some h
  refine x_iald hC hW aY10 g19 dX10_can_80 ?_
  refine lv_iconst (v := 2) hx hb dX10_can_81 (by decide) ?_
  obtain ⟨t21, e22, h⟩ := bd h
  have K20 : ∀ (H : Heap) (locs : List Loc) (ls : Array Slot), wg LY G S s H locs → lv_has ls 6 [(0, .ref (ad G 0)), (1, .int x1), (2, .int x2), (4, .int t21)] → W p l e R s m args below meth c H locs 0 0 Q (F0 m 150 ls []) := by
    intro H locs ls hW hl
    refine lv_aload_n hx hb dX10_can_150 rfl (lv_at hl 0 rfl) ?_
    refine gY0_15 hC hW dX10_can_151 ?_
    refine lv_iload_n hx hb dX10_can_154 rfl (lv_at hl 1 rfl) ?_
    obtain ⟨g39, h⟩ := gd_some h
    refine x_iald hC hW aY10 g39 dX10_can_155 ?_
    refine lv_iconst (v := 4) hx hb dX10_can_156 (by decide) ?_
    obtain ⟨t41, e42, h⟩ := bd h
    have K40 : ∀ (H : Heap) (locs : List Loc) (ls : Array Slot), wg LY G S s H locs → lv_has ls 6 [(0, .ref (ad G 0)), (1, .int x1), (2, .int x2), (4, .int t41)] → W p l e R s m args below meth c H locs 0 0 Q (F0 m 187 ls []) := by
      intro H locs ls hW hl
      refine lv_iconst (v := 0) hx hb dX10_can_187 (by decide) ?_
      refine lv_istore (lv' := [(5, .int 0), (0, .ref (ad G 0)), (1, .int x1), (2, .int x2), (4, .int t41)]) hx hb dX10_can_188 hl (by decide) rfl (fun ls hl => ?_)
      obtain ⟨t103, e104, h⟩ := bd h
      refine wY0_can_L190 hC hF hL  (fun H locs ls hW hl => ?_) _ _ _ e104 _ _ _ hW (lv_sub hl [1, 2, 3, 4, 0] rfl)
      refine lv_iload hx hb dX10_can_412 (lv_at hl 0 rfl) ?_
      obtain ⟨g105, h⟩ := gd_some h
      cases h
      exact kr _ _ _ _ g105 dX10_can_414 hW
    clear h
    have h := e42
    clear e42
    refine lv_icmp_ne (tgt := 187) hx hb dX10_can_157 (by decide) (fun q43 => ?_) (fun q43 => ?_)
    · have h := it_n q43 h
      cases h
      exact K40 _ _ _ hW (lv_sub hl [0, 1, 2, 3] rfl)
    · have h := it_p q43 h
      refine lv_iload hx hb dX10_can_160 (lv_at hl 3 rfl) ?_
      obtain ⟨t45, e46, h⟩ := bd h
      have K44 : ∀ (H : Heap) (locs : List Loc) (ls : Array Slot), wg LY G S s H locs → lv_has ls 6 [(0, .ref (ad G 0)), (1, .int x1), (2, .int x2)] → W p l e R s m args below meth c H locs 0 0 Q (F0 m 185 ls [.int t45]) := by
        intro H locs ls hW hl
        refine lv_istore (lv' := [(4, .int t45), (0, .ref (ad G 0)), (1, .int x1), (2, .int x2)]) hx hb dX10_can_185 hl (by decide) rfl (fun ls hl => ?_)
        cases h
        exact K40 _ _ _ hW (lv_sub hl [1, 2, 3, 0] rfl)
      clear h
      have h := e46
      clear e46
      refine lv_if_eq (tgt := 184) hx hb dX10_can_162 (by decide) (fun q47 => ?_) (fun q47 => ?_)
      · have h := it_p q47 h
        refine lv_iconst (v := 0) hx hb dX10_can_184 (by decide) ?_
        cases h
        exact K44 _ _ _ hW (lv_sub hl [0, 1, 2] rfl)
      · have h := it_n q47 h
        refine lv_iload_n hx hb dX10_can_165 rfl (lv_at hl 2 rfl) ?_
        refine lv_aload_n hx hb dX10_can_166 rfl (lv_at hl 0 rfl) ?_
        refine gY0_25 hC hW dX10_can_167 ?_
        refine lv_aload_n hx hb dX10_can_170 rfl (lv_at hl 0 rfl) ?_
        refine gY0_16 hC hW dX10_can_171 ?_
        refine lv_iload_n hx hb dX10_can_174 rfl (lv_at hl 1 rfl) ?_
        obtain ⟨g48, h⟩ := gd_some h
        refine x_iald hC hW aY11 g48 dX10_can_175 ?_
        obtain ⟨g49, h⟩ := gd_some h
        refine x_iald hC hW aY18 g49 dX10_can_176 ?_
        refine lv_icmp_le (tgt := 184) hx hb dX10_can_177 (by decide) (fun q50 => ?_) (fun q50 => ?_)
        · have h := it_p q50 h
          refine lv_iconst (v := 0) hx hb dX10_can_184 (by decide) ?_
          cases h
          exact K44 _ _ _ hW (lv_sub hl [0, 1, 2] rfl)
        · have h := it_n q50 h
          refine lv_iconst (v := 1) hx hb dX10_can_180 (by decide) ?_
          refine lv_goto (tgt := 185) hx hb dX10_can_181 (by decide) ?_
          cases h
          exact K44 _ _ _ hW (lv_sub hl [0, 1, 2] rfl)
  clear h
  have h := e22
  clear e22
  refine lv_icmp_ne (tgt := 150) hx hb dX10_can_82 (by decide) (fun q23 => ?_) (fun q23 => ?_)
  · have h := it_n q23 h
    cases h
    exact K20 _ _ _ hW (lv_sub hl [0, 1, 2, 3] rfl)
  · have h := it_p q23 h
    refine lv_iload hx hb dX10_can_85 (lv_at hl 3 rfl) ?_
    obtain ⟨t25, e26, h⟩ := bd h
    have K24 : ∀ (H : Heap) (locs : List Loc) (ls : Array Slot), wg LY G S s H locs → lv_has ls 6 [(0, .ref (ad G 0)), (1, .int x1), (2, .int x2)] → W p l e R s m args below meth c H locs 0 0 Q (F0 m 148 ls [.int t25]) := by
      intro H locs ls hW hl
      refine lv_istore (lv' := [(4, .int t25), (0, .ref (ad G 0)), (1, .int x1), (2, .int x2)]) hx hb dX10_can_148 hl (by decide) rfl (fun ls hl => ?_)
      cases h
      exact K20 _ _ _ hW (lv_sub hl [1, 2, 3, 0] rfl)
    clear h
    have h := e26
    clear e26
    refine lv_if_eq (tgt := 147) hx hb dX10_can_87 (by decide) (fun q27 => ?_) (fun q27 => ?_)
    · have h := it_p q27 h
      refine lv_iconst (v := 0) hx hb dX10_can_147 (by decide) ?_
      cases h
      exact K24 _ _ _ hW (lv_sub hl [0, 1, 2] rfl)
    · have h := it_n q27 h
      refine lv_iload_n hx hb dX10_can_90 rfl (lv_at hl 2 rfl) ?_
      refine lv_aload_n hx hb dX10_can_91 rfl (lv_at hl 0 rfl) ?_
      refine gY0_25 hC hW dX10_can_92 ?_
      refine lv_aload_n hx hb dX10_can_95 rfl (lv_at hl 0 rfl) ?_
      refine gY0_16 hC hW dX10_can_96 ?_
      refine lv_iload_n hx hb dX10_can_99 rfl (lv_at hl 1 rfl) ?_
      obtain ⟨g28, h⟩ := gd_some h
      refine x_iald hC hW aY11 g28 dX10_can_100 ?_
      obtain ⟨g29, h⟩ := gd_some h
      refine x_iald hC hW aY18 g29 dX10_can_101 ?_
      refine lv_aload_n hx hb dX10_can_102 rfl (lv_at hl 0 rfl) ?_
      refine gY0_25 hC hW dX10_can_103 ?_
      refine lv_aload_n hx hb dX10_can_106 rfl (lv_at hl 0 rfl) ?_
      refine gY0_17 hC hW dX10_can_107 ?_
      refine lv_iload_n hx hb dX10_can_110 rfl (lv_at hl 1 rfl) ?_
      obtain ⟨g30, h⟩ := gd_some h
      refine x_iald hC hW aY12 g30 dX10_can_111 ?_
      obtain ⟨g31, h⟩ := gd_some h
      refine x_iald hC hW aY18 g31 dX10_can_112 ?_
      refine lv_imul hx hb dX10_can_113 ?_
      refine lv_aload_n hx hb dX10_can_114 rfl (lv_at hl 0 rfl) ?_
      refine gY0_26 hC hW dX10_can_115 ?_
      refine lv_aload_n hx hb dX10_can_118 rfl (lv_at hl 0 rfl) ?_
      refine gY0_16 hC hW dX10_can_119 ?_
      refine lv_iload_n hx hb dX10_can_122 rfl (lv_at hl 1 rfl) ?_
      obtain ⟨g32, h⟩ := gd_some h
      refine x_iald hC hW aY11 g32 dX10_can_123 ?_
      obtain ⟨g33, h⟩ := gd_some h
      refine x_iald hC hW aY19 g33 dX10_can_124 ?_
      refine lv_aload_n hx hb dX10_can_125 rfl (lv_at hl 0 rfl) ?_
      refine gY0_26 hC hW dX10_can_126 ?_
      refine lv_aload_n hx hb dX10_can_129 rfl (lv_at hl 0 rfl) ?_
      refine gY0_17 hC hW dX10_can_130 ?_
      refine lv_iload_n hx hb dX10_can_133 rfl (lv_at hl 1 rfl) ?_
      obtain ⟨g34, h⟩ := gd_some h
      refine x_iald hC hW aY12 g34 dX10_can_134 ?_
      obtain ⟨g35, h⟩ := gd_some h
      refine x_iald hC hW aY19 g35 dX10_can_135 ?_
      refine lv_imul hx hb dX10_can_136 ?_
      obtain ⟨t36, e37, h⟩ := bd h
      refine x_goi (x_rs (rest := []) hC hW (ctYs_in e37) (cwS_g hC.2.2.2.2 ml_X10_103 ms_X10_in md_X10_in ⟨(Nat.le_trans (Nat.le_of_ble_eq_true rfl) hF), (Nat.le_trans (Nat.le_of_ble_eq_true rfl) hL)⟩) rfl hl.1 rfl (Nat.le_of_ble_eq_true rfl) dX10_can_137) hW (fun H locs hW => ?_)
      refine lv_if_eq (tgt := 147) hx hb dX10_can_140 (by decide) (fun q38 => ?_) (fun q38 => ?_)
      · have h := it_p q38 h
        refine lv_iconst (v := 0) hx hb dX10_can_147 (by decide) ?_
        cases h
        exact K24 _ _ _ hW (lv_sub hl [0, 1, 2] rfl)
      · have h := it_n q38 h
        refine lv_iconst (v := 1) hx hb dX10_can_143 (by decide) ?_
        refine lv_goto (tgt := 148) hx hb dX10_can_144 (by decide) ?_
        cases h
        exact K24 _ _ _ hW (lv_sub hl [0, 1, 2] rfl)
theorem ctY0_can {N : Nat} {S : St} {x1 : Int32} {x2 : Int32} {x3 : Int32}  {v : Int32} (h : fY0_can N S x1 x2 x3 = some v) : Met l yX10_can (wm yX10_can cX10_can 6 (some .boolean)) (rmx 3 70) (pcm LY G S [.ref (ad G 0), .int x1, .int x2, .int x3]) (qcI LY G S v) 0 0 G.2.2.2 :=
  x_enter (own := RX10) rfl rfl (Nat.le_of_ble_eq_true rfl) (fun p e s m below meth c ls hC hr hk hW hl => wY0_can hC (Nat.le_refl _) (Nat.le_refl _)  h (fun H locs ls pc hz hd hW => x_retz hC hr hk hW hz hd) _ _ _ hW hl)
def fY0_narrow_L8 (N : Nat) (x1 : Int32) : Nat → St → Int32 → Int32 → Option (St × Int32)
  | 0, _, _, _ => none
  | n + 1, S, x2, x3 =>
    if 12 ≤ x3 then
      some (S, x2)
    else
      Option.bind (α := St × Int32) (
        if x2 = 0 then
          some (S, 0)
        else
          Option.bind (fY0_setEnds N S x3) fun t8 =>
          if t8.1 = 0 then
            some (t8.2, 0)
          else
            some (t8.2, 1)
      ) fun t5 =>
      fY0_narrow_L8 N x1 n t5.1 t5.2 (x3 + 1)
set_option maxHeartbeats 4000000 in
set_option maxRecDepth 100000 in
theorem wY0_narrow_L8 {N : Nat} {x1 : Int32} (hC : CallFix p m c cX10_narrow 6 s args lw_g RX10) (hF : 4 ≤ R.frames) (hL : 95 ≤ R.locals)  {t : St × Int32} (kx : ∀ (H : Heap) (locs : List Loc) (ls : Array Slot), wg LY G t.1 s H locs → lv_has ls 6 [(0, .ref (ad G 0)), (1, .int x1), (2, .int t.2)] → W p l e R s m args below meth c H locs 0 0 Q (F0 m 38 ls [])) : ∀ (n : Nat) (S : St) (x2 : Int32) (x3 : Int32), fY0_narrow_L8 N x1 n S x2 x3 = some t → ∀ (H : Heap) (locs : List Loc) (ls : Array Slot), wg LY G S s H locs → lv_has ls 6 [(0, .ref (ad G 0)), (1, .int x1), (2, .int x2), (3, .int x3)] → W p l e R s m args below meth c H locs 0 0 Q (F0 m 8 ls []) := by
  have hx := hC.1
  have hb := hC.2.1
  intro n
  induction n with
  | zero =>
    intro _ _ _ h
    cases h
  | succ n ih =>
    intro S x2 x3 h H locs ls hW hl
    rw [fY0_narrow_L8] at h
    refine lv_iload_n hx hb dX10_narrow_8 rfl (lv_at hl 3 rfl) ?_
    refine lv_bipush (v := 12) hx hb dX10_narrow_9 (by decide) ?_
    refine lv_icmp_ge (tgt := 38) hx hb dX10_narrow_11 (by decide) (fun q3 => ?_) (fun q3 => ?_)
    · have h := it_p q3 h
      cases h
      exact kx _ _ _ hW (lv_sub hl [0, 1, 2] rfl)
    · have h := it_n q3 h
      refine lv_iload_n hx hb dX10_narrow_14 rfl (lv_at hl 2 rfl) ?_
      obtain ⟨t5, e6, h⟩ := bd h
      have K4 : ∀ (H : Heap) (locs : List Loc) (ls : Array Slot), wg LY G t5.1 s H locs → lv_has ls 6 [(0, .ref (ad G 0)), (1, .int x1), (3, .int x3)] → W p l e R s m args below meth c H locs 0 0 Q (F0 m 31 ls [.int t5.2]) := by
        intro H locs ls hW hl
        refine lv_istore_n (lv' := [(2, .int t5.2), (0, .ref (ad G 0)), (1, .int x1), (3, .int x3)]) hx hb dX10_narrow_31 rfl hl (by decide) rfl (fun ls hl => ?_)
        refine lv_iinc (v := x3 + 1) (lv' := [(3, .int (x3 + 1)), (2, .int t5.2), (0, .ref (ad G 0)), (1, .int x1)]) (k := 3) hx hb dX10_narrow_32 hl rfl rfl (by decide) rfl (fun ls hl => ?_)
        refine lv_goto (tgt := 8) hx hb dX10_narrow_35 (by decide) ?_
        exact ih _ _ _ h _ _ _ hW (lv_sub hl [2, 3, 1, 0] rfl)
      clear h
      have h := e6
      clear e6
      refine lv_if_eq (tgt := 30) hx hb dX10_narrow_15 (by decide) (fun q7 => ?_) (fun q7 => ?_)
      · have h := it_p q7 h
        refine lv_iconst (v := 0) hx hb dX10_narrow_30 (by decide) ?_
        cases h
        exact K4 _ _ _ hW (lv_sub hl [0, 1, 3] rfl)
      · have h := it_n q7 h
        refine lv_aload_n hx hb dX10_narrow_18 rfl (lv_at hl 0 rfl) ?_
        refine lv_iload_n hx hb dX10_narrow_19 rfl (lv_at hl 3 rfl) ?_
        obtain ⟨t8, e9, h⟩ := bd h
        refine x_goi (x_rv (rest := []) hC hW (ctY0_setEnds e9) (cwV_g hC.2.2.2.2 ml_X10_205 mi_X10_setEnds md_X10_setEnds ⟨(Nat.le_trans (Nat.le_of_ble_eq_true rfl) hF), (Nat.le_trans (Nat.le_of_ble_eq_true rfl) hL)⟩) (rcY0 hW) rfl hl.1 rfl (Nat.le_of_ble_eq_true rfl) dX10_narrow_20) hW (fun H locs hW => ?_)
        refine lv_if_eq (tgt := 30) hx hb dX10_narrow_23 (by decide) (fun q10 => ?_) (fun q10 => ?_)
        · have h := it_p q10 h
          refine lv_iconst (v := 0) hx hb dX10_narrow_30 (by decide) ?_
          cases h
          exact K4 _ _ _ hW (lv_sub hl [0, 1, 3] rfl)
        · have h := it_n q10 h
          refine lv_iconst (v := 1) hx hb dX10_narrow_26 (by decide) ?_
          refine lv_goto (tgt := 31) hx hb dX10_narrow_27 (by decide) ?_
          cases h
          exact K4 _ _ _ hW (lv_sub hl [0, 1, 3] rfl)
def fY0_narrow_L63 (N : Nat) (x1 : Int32) (x4 : Int32) : Nat → St → Int32 → Int32 → Int32 → Option (St × Int32 × Int32)
  | 0, _, _, _, _ => none
  | n + 1, S, x2, x3, x5 =>
    if 100 ≤ x5 then
      some (S, x2, x3)
    else
      Option.bind (fY0_isThere S x4) fun t17 =>
      if t17 = 0 then
        some (S, x2, x3)
      else
        if x2 = 0 then
          some (S, x2, x3)
        else
          gd (inb ((100 * x4) + x5) 1200) <|
          Option.bind (α := St × Int32 × Int32) (
            if (S.1 17 (Int32.toNatClampNeg ((100 * x4) + x5))) = 0 then
              some (S, x2, x3)
            else
              Option.bind (fY0_can N S x4 x5 x1) fun t26 =>
              if t26 = 0 then
                gd (inb ((100 * x4) + x5) 1200) <|
                nx (p1 S 17 (Int32.toNatClampNeg ((100 * x4) + x5)) 0) fun s30 =>
                Option.bind (fY0_setEnds N s30 x4) fun t32 =>
                some (t32.2, t32.1, t32.1)
              else
                some (S, x2, x3)
          ) fun t23 =>
          fY0_narrow_L63 N x1 x4 n t23.1 t23.2.1 t23.2.2 (x5 + 1)
set_option maxHeartbeats 4000000 in
set_option maxRecDepth 100000 in
theorem wY0_narrow_L63 {N : Nat} {x1 : Int32} {x4 : Int32} (hC : CallFix p m c cX10_narrow 6 s args lw_g RX10) (hF : 4 ≤ R.frames) (hL : 95 ≤ R.locals)  {t : St × Int32 × Int32} (kx : ∀ (H : Heap) (locs : List Loc) (ls : Array Slot), wg LY G t.1 s H locs → lv_has ls 6 [(0, .ref (ad G 0)), (1, .int x1), (2, .int t.2.1), (3, .int t.2.2), (4, .int x4)] → W p l e R s m args below meth c H locs 0 0 Q (F0 m 140 ls [])) : ∀ (n : Nat) (S : St) (x2 : Int32) (x3 : Int32) (x5 : Int32), fY0_narrow_L63 N x1 x4 n S x2 x3 x5 = some t → ∀ (H : Heap) (locs : List Loc) (ls : Array Slot), wg LY G S s H locs → lv_has ls 6 [(0, .ref (ad G 0)), (1, .int x1), (2, .int x2), (3, .int x3), (4, .int x4), (5, .int x5)] → W p l e R s m args below meth c H locs 0 0 Q (F0 m 63 ls []) := by
  have hx := hC.1
  have hb := hC.2.1
  intro n
  induction n with
  | zero =>
    intro _ _ _ _ h
    cases h
  | succ n ih =>
    intro S x2 x3 x5 h H locs ls hW hl
    rw [fY0_narrow_L63] at h
    refine lv_iload hx hb dX10_narrow_63 (lv_at hl 5 rfl) ?_
    refine lv_bipush (v := 100) hx hb dX10_narrow_65 (by decide) ?_
    refine lv_icmp_ge (tgt := 140) hx hb dX10_narrow_67 (by decide) (fun q16 => ?_) (fun q16 => ?_)
    · have h := it_p q16 h
      cases h
      exact kx _ _ _ hW (lv_sub hl [0, 1, 2, 3, 4] rfl)
    · have h := it_n q16 h
      refine lv_aload_n hx hb dX10_narrow_70 rfl (lv_at hl 0 rfl) ?_
      refine lv_iload hx hb dX10_narrow_71 (lv_at hl 4 rfl) ?_
      obtain ⟨t17, e18, h⟩ := bd h
      refine x_goi (x_rv (rest := []) hC hW (ctY0_isThere e18) (cwV_g hC.2.2.2.2 ml_X10_193 mi_X10_isThere md_X10_isThere ⟨(Nat.le_trans (Nat.le_of_ble_eq_true rfl) hF), (Nat.le_trans (Nat.le_of_ble_eq_true rfl) hL)⟩) (rcY0 hW) rfl hl.1 rfl (Nat.le_of_ble_eq_true rfl) dX10_narrow_73) hW (fun H locs hW => ?_)
      refine lv_if_eq (tgt := 140) hx hb dX10_narrow_76 (by decide) (fun q19 => ?_) (fun q19 => ?_)
      · have h := it_p q19 h
        cases h
        exact kx _ _ _ hW (lv_sub hl [0, 1, 2, 3, 4] rfl)
      · have h := it_n q19 h
        refine lv_iload_n hx hb dX10_narrow_79 rfl (lv_at hl 2 rfl) ?_
        refine lv_if_eq (tgt := 140) hx hb dX10_narrow_80 (by decide) (fun q20 => ?_) (fun q20 => ?_)
        · have h := it_p q20 h
          cases h
          exact kx _ _ _ hW (lv_sub hl [0, 1, 2, 3, 4] rfl)
        · have h := it_n q20 h
          refine lv_aload_n hx hb dX10_narrow_83 rfl (lv_at hl 0 rfl) ?_
          refine gY0_24 hC hW dX10_narrow_84 ?_
          refine lv_bipush (v := 100) hx hb dX10_narrow_87 (by decide) ?_
          refine lv_iload hx hb dX10_narrow_89 (lv_at hl 4 rfl) ?_
          refine lv_imul hx hb dX10_narrow_91 ?_
          refine lv_iload hx hb dX10_narrow_92 (lv_at hl 5 rfl) ?_
          refine lv_iadd hx hb dX10_narrow_94 ?_
          obtain ⟨g21, h⟩ := gd_some h
          refine x_zald hC hW zY17 g21 dX10_narrow_95 ?_
          obtain ⟨t23, e24, h⟩ := bd h
          have K22 : ∀ (H : Heap) (locs : List Loc) (ls : Array Slot), wg LY G t23.1 s H locs → lv_has ls 6 [(0, .ref (ad G 0)), (1, .int x1), (2, .int t23.2.1), (3, .int t23.2.2), (4, .int x4), (5, .int x5)] → W p l e R s m args below meth c H locs 0 0 Q (F0 m 134 ls []) := by
            intro H locs ls hW hl
            refine lv_iinc (v := x5 + 1) (lv' := [(5, .int (x5 + 1)), (0, .ref (ad G 0)), (1, .int x1), (2, .int t23.2.1), (3, .int t23.2.2), (4, .int x4)]) (k := 5) hx hb dX10_narrow_134 hl rfl rfl (by decide) rfl (fun ls hl => ?_)
            refine lv_goto (tgt := 63) hx hb dX10_narrow_137 (by decide) ?_
            exact ih _ _ _ _ h _ _ _ hW (lv_sub hl [1, 2, 3, 4, 5, 0] rfl)
          clear h
          have h := e24
          clear e24
          refine lv_if_eq (tgt := 134) hx hb dX10_narrow_96 (by decide) (fun q25 => ?_) (fun q25 => ?_)
          · have h := it_p q25 h
            cases h
            exact K22 _ _ _ hW (lv_sub hl [0, 1, 2, 3, 4, 5] rfl)
          · have h := it_n q25 h
            refine lv_aload_n hx hb dX10_narrow_99 rfl (lv_at hl 0 rfl) ?_
            refine lv_iload hx hb dX10_narrow_100 (lv_at hl 4 rfl) ?_
            refine lv_iload hx hb dX10_narrow_102 (lv_at hl 5 rfl) ?_
            refine lv_iload_n hx hb dX10_narrow_104 rfl (lv_at hl 1 rfl) ?_
            obtain ⟨t26, e27, h⟩ := bd h
            refine x_goi (x_rv (rest := []) hC hW (ctY0_can e27) (cwV_g hC.2.2.2.2 ml_X10_221 mi_X10_can md_X10_can ⟨(Nat.le_trans (Nat.le_of_ble_eq_true rfl) hF), (Nat.le_trans (Nat.le_of_ble_eq_true rfl) hL)⟩) (rcY0 hW) rfl hl.1 rfl (Nat.le_of_ble_eq_true rfl) dX10_narrow_105) hW (fun H locs hW => ?_)
            refine lv_if_ne (tgt := 134) hx hb dX10_narrow_108 (by decide) (fun q28 => ?_) (fun q28 => ?_)
            · have h := it_n q28 h
              cases h
              exact K22 _ _ _ hW (lv_sub hl [0, 1, 2, 3, 4, 5] rfl)
            · have h := it_p q28 h
              refine lv_aload_n hx hb dX10_narrow_111 rfl (lv_at hl 0 rfl) ?_
              refine gY0_24 hC hW dX10_narrow_112 ?_
              refine lv_bipush (v := 100) hx hb dX10_narrow_115 (by decide) ?_
              refine lv_iload hx hb dX10_narrow_117 (lv_at hl 4 rfl) ?_
              refine lv_imul hx hb dX10_narrow_119 ?_
              refine lv_iload hx hb dX10_narrow_120 (lv_at hl 5 rfl) ?_
              refine lv_iadd hx hb dX10_narrow_122 ?_
              refine lv_iconst (v := 0) hx hb dX10_narrow_123 (by decide) ?_
              obtain ⟨g29, h⟩ := gd_some h
              refine x_zast hC hW zY17 g29 rfl dX10_narrow_124 (fun H locs hW => ?_)
              obtain ⟨s30, e31, h⟩ := nx_some h
              rw [← e31] at hW
              refine lv_aload_n hx hb dX10_narrow_125 rfl (lv_at hl 0 rfl) ?_
              refine lv_iload hx hb dX10_narrow_126 (lv_at hl 4 rfl) ?_
              obtain ⟨t32, e33, h⟩ := bd h
              refine x_goi (x_rv (rest := []) hC hW (ctY0_setEnds e33) (cwV_g hC.2.2.2.2 ml_X10_205 mi_X10_setEnds md_X10_setEnds ⟨(Nat.le_trans (Nat.le_of_ble_eq_true rfl) hF), (Nat.le_trans (Nat.le_of_ble_eq_true rfl) hL)⟩) (rcY0 hW) rfl hl.1 rfl (Nat.le_of_ble_eq_true rfl) dX10_narrow_128) hW (fun H locs hW => ?_)
              refine lv_istore_n (lv' := [(2, .int t32.1), (0, .ref (ad G 0)), (1, .int x1), (3, .int x3), (4, .int x4), (5, .int x5)]) hx hb dX10_narrow_131 rfl hl (by decide) rfl (fun ls hl => ?_)
              refine lv_iload_n hx hb dX10_narrow_132 rfl (lv_at hl 0 rfl) ?_
              refine lv_istore_n (lv' := [(3, .int t32.1), (2, .int t32.1), (0, .ref (ad G 0)), (1, .int x1), (4, .int x4), (5, .int x5)]) hx hb dX10_narrow_133 rfl hl (by decide) rfl (fun ls hl => ?_)
              cases h
              exact K22 _ _ _ hW (lv_sub hl [2, 3, 1, 0, 4, 5] rfl)
def fY0_narrow_L49 (N : Nat) (x1 : Int32) : Nat → St → Int32 → Int32 → Int32 → Option (St × Int32 × Int32)
  | 0, _, _, _, _ => none
  | n + 1, S, x2, x3, x4 =>
    if 12 ≤ x4 then
      some (S, x2, x3)
    else
      if x2 = 0 then
        some (S, x2, x3)
      else
        Option.bind (fY0_narrow_L63 N x1 x4 N S x2 x3 0) fun t34 =>
        fY0_narrow_L49 N x1 n t34.1 t34.2.1 t34.2.2 (x4 + 1)
set_option maxHeartbeats 4000000 in
set_option maxRecDepth 100000 in
theorem wY0_narrow_L49 {N : Nat} {x1 : Int32} (hC : CallFix p m c cX10_narrow 6 s args lw_g RX10) (hF : 4 ≤ R.frames) (hL : 95 ≤ R.locals)  {t : St × Int32 × Int32} (kx : ∀ (H : Heap) (locs : List Loc) (ls : Array Slot), wg LY G t.1 s H locs → lv_has ls 6 [(0, .ref (ad G 0)), (1, .int x1), (2, .int t.2.1), (3, .int t.2.2)] → W p l e R s m args below meth c H locs 0 0 Q (F0 m 146 ls [])) : ∀ (n : Nat) (S : St) (x2 : Int32) (x3 : Int32) (x4 : Int32), fY0_narrow_L49 N x1 n S x2 x3 x4 = some t → ∀ (H : Heap) (locs : List Loc) (ls : Array Slot), wg LY G S s H locs → lv_has ls 6 [(0, .ref (ad G 0)), (1, .int x1), (2, .int x2), (3, .int x3), (4, .int x4)] → W p l e R s m args below meth c H locs 0 0 Q (F0 m 49 ls []) := by
  have hx := hC.1
  have hb := hC.2.1
  intro n
  induction n with
  | zero =>
    intro _ _ _ _ h
    cases h
  | succ n ih =>
    intro S x2 x3 x4 h H locs ls hW hl
    rw [fY0_narrow_L49] at h
    refine lv_iload hx hb dX10_narrow_49 (lv_at hl 4 rfl) ?_
    refine lv_bipush (v := 12) hx hb dX10_narrow_51 (by decide) ?_
    refine lv_icmp_ge (tgt := 146) hx hb dX10_narrow_53 (by decide) (fun q14 => ?_) (fun q14 => ?_)
    · have h := it_p q14 h
      cases h
      exact kx _ _ _ hW (lv_sub hl [0, 1, 2, 3] rfl)
    · have h := it_n q14 h
      refine lv_iload_n hx hb dX10_narrow_56 rfl (lv_at hl 2 rfl) ?_
      refine lv_if_eq (tgt := 146) hx hb dX10_narrow_57 (by decide) (fun q15 => ?_) (fun q15 => ?_)
      · have h := it_p q15 h
        cases h
        exact kx _ _ _ hW (lv_sub hl [0, 1, 2, 3] rfl)
      · have h := it_n q15 h
        refine lv_iconst (v := 0) hx hb dX10_narrow_60 (by decide) ?_
        refine lv_istore (lv' := [(5, .int 0), (0, .ref (ad G 0)), (1, .int x1), (2, .int x2), (3, .int x3), (4, .int x4)]) hx hb dX10_narrow_61 hl (by decide) rfl (fun ls hl => ?_)
        obtain ⟨t34, e35, h⟩ := bd h
        refine wY0_narrow_L63 hC hF hL  (fun H locs ls hW hl => ?_) _ _ _ _ _ e35 _ _ _ hW (lv_sub hl [1, 2, 3, 4, 5, 0] rfl)
        refine lv_iinc (v := x4 + 1) (lv' := [(4, .int (x4 + 1)), (0, .ref (ad G 0)), (1, .int x1), (2, .int t34.2.1), (3, .int t34.2.2)]) (k := 4) hx hb dX10_narrow_140 hl rfl rfl (by decide) rfl (fun ls hl => ?_)
        refine lv_goto (tgt := 49) hx hb dX10_narrow_143 (by decide) ?_
        exact ih _ _ _ _ h _ _ _ hW (lv_sub hl [1, 2, 3, 4, 0] rfl)
def fY0_narrow_L40 (N : Nat) (x1 : Int32) : Nat → St → Int32 → Int32 → Option (St × Int32)
  | 0, _, _, _ => none
  | n + 1, S, x2, x3 =>
    if x3 = 0 then
      some (S, x2)
    else
      Option.bind (fY0_narrow_L49 N x1 N S x2 0 0) fun t36 =>
      fY0_narrow_L40 N x1 n t36.1 t36.2.1 t36.2.2
set_option maxHeartbeats 4000000 in
set_option maxRecDepth 100000 in
theorem wY0_narrow_L40 {N : Nat} {x1 : Int32} (hC : CallFix p m c cX10_narrow 6 s args lw_g RX10) (hF : 4 ≤ R.frames) (hL : 95 ≤ R.locals)  {t : St × Int32} (kx : ∀ (H : Heap) (locs : List Loc) (ls : Array Slot), wg LY G t.1 s H locs → lv_has ls 6 [(0, .ref (ad G 0)), (2, .int t.2)] → W p l e R s m args below meth c H locs 0 0 Q (F0 m 149 ls [])) : ∀ (n : Nat) (S : St) (x2 : Int32) (x3 : Int32), fY0_narrow_L40 N x1 n S x2 x3 = some t → ∀ (H : Heap) (locs : List Loc) (ls : Array Slot), wg LY G S s H locs → lv_has ls 6 [(0, .ref (ad G 0)), (1, .int x1), (2, .int x2), (3, .int x3)] → W p l e R s m args below meth c H locs 0 0 Q (F0 m 40 ls []) := by
  have hx := hC.1
  have hb := hC.2.1
  intro n
  induction n with
  | zero =>
    intro _ _ _ h
    cases h
  | succ n ih =>
    intro S x2 x3 h H locs ls hW hl
    rw [fY0_narrow_L40] at h
    refine lv_iload_n hx hb dX10_narrow_40 rfl (lv_at hl 3 rfl) ?_
    refine lv_if_eq (tgt := 149) hx hb dX10_narrow_41 (by decide) (fun q13 => ?_) (fun q13 => ?_)
    · have h := it_p q13 h
      cases h
      exact kx _ _ _ hW (lv_sub hl [0, 2] rfl)
    · have h := it_n q13 h
      refine lv_iconst (v := 0) hx hb dX10_narrow_44 (by decide) ?_
      refine lv_istore_n (lv' := [(3, .int 0), (0, .ref (ad G 0)), (1, .int x1), (2, .int x2)]) hx hb dX10_narrow_45 rfl hl (by decide) rfl (fun ls hl => ?_)
      refine lv_iconst (v := 0) hx hb dX10_narrow_46 (by decide) ?_
      refine lv_istore (lv' := [(4, .int 0), (3, .int 0), (0, .ref (ad G 0)), (1, .int x1), (2, .int x2)]) hx hb dX10_narrow_47 hl (by decide) rfl (fun ls hl => ?_)
      obtain ⟨t36, e37, h⟩ := bd h
      refine wY0_narrow_L49 hC hF hL  (fun H locs ls hW hl => ?_) _ _ _ _ _ e37 _ _ _ hW (lv_sub hl [2, 3, 4, 1, 0] rfl)
      refine lv_goto (tgt := 40) hx hb dX10_narrow_146 (by decide) ?_
      exact ih _ _ _ h _ _ _ hW (lv_sub hl [0, 1, 2, 3] rfl)
def fY0_narrow_L152 (N : Nat) (x2 : Int32) : Nat → St → Int32 → Option (St)
  | 0, _, _ => none
  | n + 1, S, x4 =>
    if 1200 ≤ x4 then
      some S
    else
      if x2 = 0 then
        gd (inb x4 1200) <|
        nx (p1 S 17 (Int32.toNatClampNeg x4) 0) fun s43 =>
        fY0_narrow_L152 N x2 n s43 (x4 + 1)
      else
        some S
set_option maxHeartbeats 4000000 in
set_option maxRecDepth 100000 in
theorem wY0_narrow_L152 {N : Nat} {x2 : Int32} (hC : CallFix p m c cX10_narrow 6 s args lw_g RX10) (hF : 4 ≤ R.frames) (hL : 95 ≤ R.locals)  {t : St} (kx : ∀ (H : Heap) (locs : List Loc) (ls : Array Slot), wg LY G t s H locs → lv_has ls 6 [(0, .ref (ad G 0)), (2, .int x2)] → W p l e R s m args below meth c H locs 0 0 Q (F0 m 178 ls [])) : ∀ (n : Nat) (S : St) (x4 : Int32), fY0_narrow_L152 N x2 n S x4 = some t → ∀ (H : Heap) (locs : List Loc) (ls : Array Slot), wg LY G S s H locs → lv_has ls 6 [(0, .ref (ad G 0)), (2, .int x2), (4, .int x4)] → W p l e R s m args below meth c H locs 0 0 Q (F0 m 152 ls []) := by
  have hx := hC.1
  have hb := hC.2.1
  intro n
  induction n with
  | zero =>
    intro _ _ h
    cases h
  | succ n ih =>
    intro S x4 h H locs ls hW hl
    rw [fY0_narrow_L152] at h
    refine lv_iload hx hb dX10_narrow_152 (lv_at hl 2 rfl) ?_
    refine lv_sipush (v := 1200) hx hb dX10_narrow_154 (by decide) ?_
    refine lv_icmp_ge (tgt := 178) hx hb dX10_narrow_157 (by decide) (fun q40 => ?_) (fun q40 => ?_)
    · have h := it_p q40 h
      cases h
      exact kx _ _ _ hW (lv_sub hl [0, 1] rfl)
    · have h := it_n q40 h
      refine lv_iload_n hx hb dX10_narrow_160 rfl (lv_at hl 1 rfl) ?_
      refine lv_if_ne (tgt := 178) hx hb dX10_narrow_161 (by decide) (fun q41 => ?_) (fun q41 => ?_)
      · have h := it_n q41 h
        cases h
        exact kx _ _ _ hW (lv_sub hl [0, 1] rfl)
      · have h := it_p q41 h
        refine lv_aload_n hx hb dX10_narrow_164 rfl (lv_at hl 0 rfl) ?_
        refine gY0_24 hC hW dX10_narrow_165 ?_
        refine lv_iload hx hb dX10_narrow_168 (lv_at hl 2 rfl) ?_
        refine lv_iconst (v := 0) hx hb dX10_narrow_170 (by decide) ?_
        obtain ⟨g42, h⟩ := gd_some h
        refine x_zast hC hW zY17 g42 rfl dX10_narrow_171 (fun H locs hW => ?_)
        obtain ⟨s43, e44, h⟩ := nx_some h
        rw [← e44] at hW
        refine lv_iinc (v := x4 + 1) (lv' := [(4, .int (x4 + 1)), (0, .ref (ad G 0)), (2, .int x2)]) (k := 2) hx hb dX10_narrow_172 hl rfl rfl (by decide) rfl (fun ls hl => ?_)
        refine lv_goto (tgt := 152) hx hb dX10_narrow_175 (by decide) ?_
        exact ih _ _ h _ _ _ hW (lv_sub hl [1, 2, 0] rfl)
def fY0_narrow_L181 (N : Nat)  : Nat → St → Int32 → Int32 → Option (St)
  | 0, _, _, _ => none
  | n + 1, S, x2, x4 =>
    if 12 ≤ x4 then
      some S
    else
      if x2 = 0 then
        Option.bind (fY0_setEnds N S x4) fun t49 =>
        Option.bind (α := Int32) (
          if t49.1 = 0 then
            some 0
          else
            if x2 = 0 then
              some 0
            else
              some 1
        ) fun t52 =>
        fY0_narrow_L181 N n t49.2 t52 (x4 + 1)
      else
        some S
set_option maxHeartbeats 4000000 in
set_option maxRecDepth 100000 in
theorem wY0_narrow_L181 {N : Nat}  (hC : CallFix p m c cX10_narrow 6 s args lw_g RX10) (hF : 4 ≤ R.frames) (hL : 95 ≤ R.locals)  {t : St} (kx : ∀ (H : Heap) (locs : List Loc) (ls : Array Slot), wg LY G t s H locs → lv_has ls 6 [] → W p l e R s m args below meth c H locs 0 0 Q (F0 m 217 ls [])) : ∀ (n : Nat) (S : St) (x2 : Int32) (x4 : Int32), fY0_narrow_L181 N  n S x2 x4 = some t → ∀ (H : Heap) (locs : List Loc) (ls : Array Slot), wg LY G S s H locs → lv_has ls 6 [(0, .ref (ad G 0)), (2, .int x2), (4, .int x4)] → W p l e R s m args below meth c H locs 0 0 Q (F0 m 181 ls []) := by
  have hx := hC.1
  have hb := hC.2.1
  intro n
  induction n with
  | zero =>
    intro _ _ _ h
    cases h
  | succ n ih =>
    intro S x2 x4 h H locs ls hW hl
    rw [fY0_narrow_L181] at h
    refine lv_iload hx hb dX10_narrow_181 (lv_at hl 2 rfl) ?_
    refine lv_bipush (v := 12) hx hb dX10_narrow_183 (by decide) ?_
    refine lv_icmp_ge (tgt := 217) hx hb dX10_narrow_185 (by decide) (fun q47 => ?_) (fun q47 => ?_)
    · have h := it_p q47 h
      cases h
      exact kx _ _ _ hW (lv_sub hl [] rfl)
    · have h := it_n q47 h
      refine lv_iload_n hx hb dX10_narrow_188 rfl (lv_at hl 1 rfl) ?_
      refine lv_if_ne (tgt := 217) hx hb dX10_narrow_189 (by decide) (fun q48 => ?_) (fun q48 => ?_)
      · have h := it_n q48 h
        cases h
        exact kx _ _ _ hW (lv_sub hl [] rfl)
      · have h := it_p q48 h
        refine lv_aload_n hx hb dX10_narrow_192 rfl (lv_at hl 0 rfl) ?_
        refine lv_iload hx hb dX10_narrow_193 (lv_at hl 2 rfl) ?_
        obtain ⟨t49, e50, h⟩ := bd h
        refine x_goi (x_rv (rest := []) hC hW (ctY0_setEnds e50) (cwV_g hC.2.2.2.2 ml_X10_205 mi_X10_setEnds md_X10_setEnds ⟨(Nat.le_trans (Nat.le_of_ble_eq_true rfl) hF), (Nat.le_trans (Nat.le_of_ble_eq_true rfl) hL)⟩) (rcY0 hW) rfl hl.1 rfl (Nat.le_of_ble_eq_true rfl) dX10_narrow_195) hW (fun H locs hW => ?_)
        obtain ⟨t52, e53, h⟩ := bd h
        have K51 : ∀ (H : Heap) (locs : List Loc) (ls : Array Slot), wg LY G t49.2 s H locs → lv_has ls 6 [(0, .ref (ad G 0)), (4, .int x4)] → W p l e R s m args below meth c H locs 0 0 Q (F0 m 210 ls [.int t52]) := by
          intro H locs ls hW hl
          refine lv_istore_n (lv' := [(2, .int t52), (0, .ref (ad G 0)), (4, .int x4)]) hx hb dX10_narrow_210 rfl hl (by decide) rfl (fun ls hl => ?_)
          refine lv_iinc (v := x4 + 1) (lv' := [(4, .int (x4 + 1)), (2, .int t52), (0, .ref (ad G 0))]) (k := 2) hx hb dX10_narrow_211 hl rfl rfl (by decide) rfl (fun ls hl => ?_)
          refine lv_goto (tgt := 181) hx hb dX10_narrow_214 (by decide) ?_
          exact ih _ _ _ h _ _ _ hW (lv_sub hl [2, 1, 0] rfl)
        clear h
        have h := e53
        clear e53
        refine lv_if_eq (tgt := 209) hx hb dX10_narrow_198 (by decide) (fun q54 => ?_) (fun q54 => ?_)
        · have h := it_p q54 h
          refine lv_iconst (v := 0) hx hb dX10_narrow_209 (by decide) ?_
          cases h
          exact K51 _ _ _ hW (lv_sub hl [0, 2] rfl)
        · have h := it_n q54 h
          refine lv_iload_n hx hb dX10_narrow_201 rfl (lv_at hl 1 rfl) ?_
          refine lv_if_eq (tgt := 209) hx hb dX10_narrow_202 (by decide) (fun q55 => ?_) (fun q55 => ?_)
          · have h := it_p q55 h
            refine lv_iconst (v := 0) hx hb dX10_narrow_209 (by decide) ?_
            cases h
            exact K51 _ _ _ hW (lv_sub hl [0, 2] rfl)
          · have h := it_n q55 h
            refine lv_iconst (v := 1) hx hb dX10_narrow_205 (by decide) ?_
            refine lv_goto (tgt := 210) hx hb dX10_narrow_206 (by decide) ?_
            cases h
            exact K51 _ _ _ hW (lv_sub hl [0, 2] rfl)
def fY0_narrow (N : Nat) (S : St) (x1 : Int32) : Option (St) :=
  Option.bind (fY0_setFirst N S) fun t1 =>
  Option.bind (fY0_narrow_L8 N x1 N t1 1 0) fun t11 =>
  Option.bind (fY0_narrow_L40 N x1 N t11.1 t11.2 t11.2) fun t38 =>
  Option.bind (fY0_narrow_L152 N t38.2 N t38.1 0) fun t45 =>
  Option.bind (fY0_narrow_L181 N N t45 t38.2 0) fun t56 =>
  some t56
set_option maxHeartbeats 4000000 in
set_option maxRecDepth 100000 in
theorem wY0_narrow {N : Nat} {S : St} {x1 : Int32} (hC : CallFix p m c cX10_narrow 6 s args lw_g RX10) (hF : 4 ≤ R.frames) (hL : 95 ≤ R.locals)  {S' : St} (h : fY0_narrow N S x1 = some (S')) (kr : ∀ (H : Heap) (locs : List Loc) (ls : Array Slot) (pc : Nat), decode cX10_narrow pc = .ok (.return_, 1) → wg LY G (S') s H locs → W p l e R s m args below meth c H locs 0 0 Q (F0 m pc ls [])) : ∀ (H : Heap) (locs : List Loc) (ls : Array Slot), wg LY G S s H locs → lv_has ls 6 [(0, .ref (ad G 0)), (1, .int x1)] → W p l e R s m args below meth c H locs 0 0 Q (F0 m 0 ls []) := by
  have hx := hC.1
  have hb := hC.2.1
  intro H locs ls hW hl
  unfold fY0_narrow at h
  refine lv_aload_n hx hb dX10_narrow_0 rfl (lv_at hl 0 rfl) ?_
  obtain ⟨t1, e2, h⟩ := bd h
  refine x_gov (x_rv (rest := []) hC hW (ctY0_setFirst e2) (cwV_g hC.2.2.2.2 ml_X10_218 mi_X10_setFirst md_X10_setFirst ⟨(Nat.le_trans (Nat.le_of_ble_eq_true rfl) hF), (Nat.le_trans (Nat.le_of_ble_eq_true rfl) hL)⟩) (rcY0 hW) rfl hl.1 rfl (Nat.le_of_ble_eq_true rfl) dX10_narrow_1) hW (fun H locs hW => ?_)
  refine lv_iconst (v := 1) hx hb dX10_narrow_4 (by decide) ?_
  refine lv_istore_n (lv' := [(2, .int 1), (0, .ref (ad G 0)), (1, .int x1)]) hx hb dX10_narrow_5 rfl hl (by decide) rfl (fun ls hl => ?_)
  refine lv_iconst (v := 0) hx hb dX10_narrow_6 (by decide) ?_
  refine lv_istore_n (lv' := [(3, .int 0), (2, .int 1), (0, .ref (ad G 0)), (1, .int x1)]) hx hb dX10_narrow_7 rfl hl (by decide) rfl (fun ls hl => ?_)
  obtain ⟨t11, e12, h⟩ := bd h
  refine wY0_narrow_L8 hC hF hL  (fun H locs ls hW hl => ?_) _ _ _ _ e12 _ _ _ hW (lv_sub hl [2, 3, 1, 0] rfl)
  refine lv_iload_n hx hb dX10_narrow_38 rfl (lv_at hl 2 rfl) ?_
  refine lv_istore_n (lv' := [(3, .int t11.2), (0, .ref (ad G 0)), (1, .int x1), (2, .int t11.2)]) hx hb dX10_narrow_39 rfl hl (by decide) rfl (fun ls hl => ?_)
  obtain ⟨t38, e39, h⟩ := bd h
  refine wY0_narrow_L40 hC hF hL  (fun H locs ls hW hl => ?_) _ _ _ _ e39 _ _ _ hW (lv_sub hl [1, 2, 3, 0] rfl)
  refine lv_iconst (v := 0) hx hb dX10_narrow_149 (by decide) ?_
  refine lv_istore (lv' := [(4, .int 0), (0, .ref (ad G 0)), (2, .int t38.2)]) hx hb dX10_narrow_150 hl (by decide) rfl (fun ls hl => ?_)
  obtain ⟨t45, e46, h⟩ := bd h
  refine wY0_narrow_L152 hC hF hL  (fun H locs ls hW hl => ?_) _ _ _ e46 _ _ _ hW (lv_sub hl [1, 2, 0] rfl)
  refine lv_iconst (v := 0) hx hb dX10_narrow_178 (by decide) ?_
  refine lv_istore (lv' := [(4, .int 0), (0, .ref (ad G 0)), (2, .int t38.2)]) hx hb dX10_narrow_179 hl (by decide) rfl (fun ls hl => ?_)
  obtain ⟨t56, e57, h⟩ := bd h
  refine wY0_narrow_L181 hC hF hL  (fun H locs ls hW hl => ?_) _ _ _ _ e57 _ _ _ hW (lv_sub hl [1, 2, 0] rfl)
  cases h
  exact kr _ _ _ _ dX10_narrow_217 hW
theorem ctY0_narrow {N : Nat} {S : St} {x1 : Int32}  {S' : St} (h : fY0_narrow N S x1 = some (S')) : Met l yX10_narrow (wm yX10_narrow cX10_narrow 6 none) (rmx 4 95) (pcm LY G S [.ref (ad G 0), .int x1]) (qcV LY G S') 0 0 G.2.2.2 :=
  x_enter (own := RX10) rfl rfl (Nat.le_of_ble_eq_true rfl) (fun p e s m below meth c ls hC hr hk hW hl => wY0_narrow hC (Nat.le_refl _) (Nat.le_refl _)  h (fun H locs ls pc hd hW => x_retv hC hr hk hW hd) _ _ _ hW hl)
def fY0_leftMany_L4 (N : Nat) (S : St) (x1 : Int32) : Nat → Int32 → Int32 → Option (Int32)
  | 0, _, _ => none
  | n + 1, x2, x3 =>
    if 100 ≤ x3 then
      some x2
    else
      gd (inb ((100 * x1) + x3) 1200) <|
      Option.bind (α := Int32) (
        if (S.1 17 (Int32.toNatClampNeg ((100 * x1) + x3))) = 0 then
          some 0
        else
          some 1
      ) fun t4 =>
      fY0_leftMany_L4 N S x1 n (x2 + t4) (x3 + 1)
set_option maxHeartbeats 4000000 in
set_option maxRecDepth 100000 in
theorem wY0_leftMany_L4 {N : Nat} {S : St} {x1 : Int32} (hC : CallFix p m c cX10_leftMany 4 s args lw_g RX10) (hF : 0 ≤ R.frames) (hL : 0 ≤ R.locals)  {t : Int32} (kx : ∀ (H : Heap) (locs : List Loc) (ls : Array Slot), wg LY G S s H locs → lv_has ls 4 [(2, .int t)] → W p l e R s m args below meth c H locs 0 0 Q (F0 m 38 ls [])) : ∀ (n : Nat) (x2 : Int32) (x3 : Int32), fY0_leftMany_L4 N S x1 n x2 x3 = some t → ∀ (H : Heap) (locs : List Loc) (ls : Array Slot), wg LY G S s H locs → lv_has ls 4 [(0, .ref (ad G 0)), (1, .int x1), (2, .int x2), (3, .int x3)] → W p l e R s m args below meth c H locs 0 0 Q (F0 m 4 ls []) := by
  have hx := hC.1
  have hb := hC.2.1
  intro n
  induction n with
  | zero =>
    intro _ _ h
    cases h
  | succ n ih =>
    intro x2 x3 h H locs ls hW hl
    rw [fY0_leftMany_L4] at h
    refine lv_iload_n hx hb dX10_leftMany_4 rfl (lv_at hl 3 rfl) ?_
    refine lv_bipush (v := 100) hx hb dX10_leftMany_5 (by decide) ?_
    refine lv_icmp_ge (tgt := 38) hx hb dX10_leftMany_7 (by decide) (fun q1 => ?_) (fun q1 => ?_)
    · have h := it_p q1 h
      cases h
      exact kx _ _ _ hW (lv_sub hl [2] rfl)
    · have h := it_n q1 h
      refine lv_iload_n hx hb dX10_leftMany_10 rfl (lv_at hl 2 rfl) ?_
      refine lv_aload_n hx hb dX10_leftMany_11 rfl (lv_at hl 0 rfl) ?_
      refine gY0_24 hC hW dX10_leftMany_12 ?_
      refine lv_bipush (v := 100) hx hb dX10_leftMany_15 (by decide) ?_
      refine lv_iload_n hx hb dX10_leftMany_17 rfl (lv_at hl 1 rfl) ?_
      refine lv_imul hx hb dX10_leftMany_18 ?_
      refine lv_iload_n hx hb dX10_leftMany_19 rfl (lv_at hl 3 rfl) ?_
      refine lv_iadd hx hb dX10_leftMany_20 ?_
      obtain ⟨g2, h⟩ := gd_some h
      refine x_zald hC hW zY17 g2 dX10_leftMany_21 ?_
      obtain ⟨t4, e5, h⟩ := bd h
      have K3 : ∀ (H : Heap) (locs : List Loc) (ls : Array Slot), wg LY G S s H locs → lv_has ls 4 [(0, .ref (ad G 0)), (1, .int x1), (3, .int x3)] → W p l e R s m args below meth c H locs 0 0 Q (F0 m 30 ls [.int t4, .int x2]) := by
        intro H locs ls hW hl
        refine lv_iadd hx hb dX10_leftMany_30 ?_
        refine lv_istore_n (lv' := [(2, .int (x2 + t4)), (0, .ref (ad G 0)), (1, .int x1), (3, .int x3)]) hx hb dX10_leftMany_31 rfl hl (by decide) rfl (fun ls hl => ?_)
        refine lv_iinc (v := x3 + 1) (lv' := [(3, .int (x3 + 1)), (2, .int (x2 + t4)), (0, .ref (ad G 0)), (1, .int x1)]) (k := 3) hx hb dX10_leftMany_32 hl rfl rfl (by decide) rfl (fun ls hl => ?_)
        refine lv_goto (tgt := 4) hx hb dX10_leftMany_35 (by decide) ?_
        exact ih _ _ h _ _ _ hW (lv_sub hl [2, 3, 1, 0] rfl)
      clear h
      have h := e5
      clear e5
      refine lv_if_eq (tgt := 29) hx hb dX10_leftMany_22 (by decide) (fun q6 => ?_) (fun q6 => ?_)
      · have h := it_p q6 h
        refine lv_iconst (v := 0) hx hb dX10_leftMany_29 (by decide) ?_
        cases h
        exact K3 _ _ _ hW (lv_sub hl [0, 1, 3] rfl)
      · have h := it_n q6 h
        refine lv_iconst (v := 1) hx hb dX10_leftMany_25 (by decide) ?_
        refine lv_goto (tgt := 30) hx hb dX10_leftMany_26 (by decide) ?_
        cases h
        exact K3 _ _ _ hW (lv_sub hl [0, 1, 3] rfl)
def fY0_leftMany (N : Nat) (S : St) (x1 : Int32) : Option (Int32) :=
  Option.bind (fY0_leftMany_L4 N S x1 N 0 0) fun t7 =>
  some t7
set_option maxHeartbeats 4000000 in
set_option maxRecDepth 100000 in
theorem wY0_leftMany {N : Nat} {S : St} {x1 : Int32} (hC : CallFix p m c cX10_leftMany 4 s args lw_g RX10) (hF : 0 ≤ R.frames) (hL : 0 ≤ R.locals)  {v : Int32} (h : fY0_leftMany N S x1 = some v) (kr : ∀ (H : Heap) (locs : List Loc) (ls : Array Slot) (pc : Nat), decode cX10_leftMany pc = .ok (.ireturn, 1) → wg LY G S s H locs → W p l e R s m args below meth c H locs 0 0 Q (F0 m pc ls [.int v])) : ∀ (H : Heap) (locs : List Loc) (ls : Array Slot), wg LY G S s H locs → lv_has ls 4 [(0, .ref (ad G 0)), (1, .int x1)] → W p l e R s m args below meth c H locs 0 0 Q (F0 m 0 ls []) := by
  have hx := hC.1
  have hb := hC.2.1
  intro H locs ls hW hl
  unfold fY0_leftMany at h
  refine lv_iconst (v := 0) hx hb dX10_leftMany_0 (by decide) ?_
  refine lv_istore_n (lv' := [(2, .int 0), (0, .ref (ad G 0)), (1, .int x1)]) hx hb dX10_leftMany_1 rfl hl (by decide) rfl (fun ls hl => ?_)
  refine lv_iconst (v := 0) hx hb dX10_leftMany_2 (by decide) ?_
  refine lv_istore_n (lv' := [(3, .int 0), (2, .int 0), (0, .ref (ad G 0)), (1, .int x1)]) hx hb dX10_leftMany_3 rfl hl (by decide) rfl (fun ls hl => ?_)
  obtain ⟨t7, e8, h⟩ := bd h
  refine wY0_leftMany_L4 hC hF hL  (fun H locs ls hW hl => ?_) _ _ _ e8 _ _ _ hW (lv_sub hl [2, 3, 1, 0] rfl)
  refine lv_iload_n hx hb dX10_leftMany_38 rfl (lv_at hl 0 rfl) ?_
  cases h
  exact kr _ _ _ _ dX10_leftMany_39 hW
theorem ctY0_leftMany {N : Nat} {S : St} {x1 : Int32}  {v : Int32} (h : fY0_leftMany N S x1 = some v) : Met l yX10_leftMany (wm yX10_leftMany cX10_leftMany 4 (some .int)) (rmx 0 0) (pcm LY G S [.ref (ad G 0), .int x1]) (qcI LY G S v) 0 0 G.2.2.2 :=
  x_enter (own := RX10) rfl rfl (Nat.le_of_ble_eq_true rfl) (fun p e s m below meth c ls hC hr hk hW hl => wY0_leftMany hC (Nat.le_refl _) (Nat.le_refl _)  h (fun H locs ls pc hd hW => x_reti hC hr hk hW hd) _ _ _ hW hl)
def fY0_left (N : Nat) (S : St) (x1 : Int32) (x2 : Int32) : Option (Int32 × St) :=
  Option.bind (fYs_in S x2 0 1) fun t1 =>
  if t1 = 0 then
    some ((-1), S)
  else
    Option.bind (fY0_askedCell S x1) fun t4 =>
    if 0 ≤ t4.1 then
      if x2 = 0 then
        Option.bind (fY0_firstMany N t4.2 x1) fun t12 =>
        some (t12, t4.2)
      else
        Option.bind (fY0_narrow N t4.2 0) fun t8 =>
        Option.bind (fY0_leftMany N t8 x1) fun t10 =>
        some (t10, t8)
    else
      some (t4.1, t4.2)
set_option maxHeartbeats 4000000 in
set_option maxRecDepth 100000 in
theorem wY0_left {N : Nat} {S : St} {x1 : Int32} {x2 : Int32} (hC : CallFix p m c cX10_left 4 s args lw_g RX10) (hF : 5 ≤ R.frames) (hL : 120 ≤ R.locals)  {v : Int32} {S' : St} (h : fY0_left N S x1 x2 = some (v, S')) (kr : ∀ (H : Heap) (locs : List Loc) (ls : Array Slot) (pc : Nat), decode cX10_left pc = .ok (.ireturn, 1) → wg LY G (S') s H locs → W p l e R s m args below meth c H locs 0 0 Q (F0 m pc ls [.int v])) : ∀ (H : Heap) (locs : List Loc) (ls : Array Slot), wg LY G S s H locs → lv_has ls 4 [(0, .ref (ad G 0)), (1, .int x1), (2, .int x2)] → W p l e R s m args below meth c H locs 0 0 Q (F0 m 0 ls []) := by
  have hx := hC.1
  have hb := hC.2.1
  intro H locs ls hW hl
  unfold fY0_left at h
  refine lv_iload_n hx hb dX10_left_0 rfl (lv_at hl 2 rfl) ?_
  refine lv_iconst (v := 0) hx hb dX10_left_1 (by decide) ?_
  refine lv_iconst (v := 1) hx hb dX10_left_2 (by decide) ?_
  obtain ⟨t1, e2, h⟩ := bd h
  refine x_goi (x_rs (rest := []) hC hW (ctYs_in e2) (cwS_g hC.2.2.2.2 ml_X10_103 ms_X10_in md_X10_in ⟨(Nat.le_trans (Nat.le_of_ble_eq_true rfl) hF), (Nat.le_trans (Nat.le_of_ble_eq_true rfl) hL)⟩) rfl hl.1 rfl (Nat.le_of_ble_eq_true rfl) dX10_left_3) hW (fun H locs hW => ?_)
  refine lv_if_ne (tgt := 11) hx hb dX10_left_6 (by decide) (fun q3 => ?_) (fun q3 => ?_)
  · have h := it_n q3 h
    refine lv_aload_n hx hb dX10_left_11 rfl (lv_at hl 0 rfl) ?_
    refine lv_iload_n hx hb dX10_left_12 rfl (lv_at hl 1 rfl) ?_
    obtain ⟨t4, e5, h⟩ := bd h
    refine x_goi (x_rv (rest := []) hC hW (ctY0_askedCell e5) (cwV_g hC.2.2.2.2 ml_X10_184 mi_X10_askedCell md_X10_askedCell ⟨(Nat.le_trans (Nat.le_of_ble_eq_true rfl) hF), (Nat.le_trans (Nat.le_of_ble_eq_true rfl) hL)⟩) (rcY0 hW) rfl hl.1 rfl (Nat.le_of_ble_eq_true rfl) dX10_left_13) hW (fun H locs hW => ?_)
    refine lv_istore_n (lv' := [(3, .int t4.1), (0, .ref (ad G 0)), (1, .int x1), (2, .int x2)]) hx hb dX10_left_16 rfl hl (by decide) rfl (fun ls hl => ?_)
    refine lv_iload_n hx hb dX10_left_17 rfl (lv_at hl 0 rfl) ?_
    refine lv_if_ge (tgt := 23) hx hb dX10_left_18 (by decide) (fun q6 => ?_) (fun q6 => ?_)
    · have h := it_p q6 h
      refine lv_iload_n hx hb dX10_left_23 rfl (lv_at hl 3 rfl) ?_
      refine lv_if_ne (tgt := 33) hx hb dX10_left_24 (by decide) (fun q7 => ?_) (fun q7 => ?_)
      · have h := it_n q7 h
        refine lv_aload_n hx hb dX10_left_33 rfl (lv_at hl 1 rfl) ?_
        refine lv_iconst (v := 0) hx hb dX10_left_34 (by decide) ?_
        obtain ⟨t8, e9, h⟩ := bd h
        refine x_gov (x_rv (rest := []) hC hW (ctY0_narrow e9) (cwV_g hC.2.2.2.2 ml_X10_224 mi_X10_narrow md_X10_narrow ⟨(Nat.le_trans (Nat.le_of_ble_eq_true rfl) hF), (Nat.le_trans (Nat.le_of_ble_eq_true rfl) hL)⟩) (rcY0 hW) rfl hl.1 rfl (Nat.le_of_ble_eq_true rfl) dX10_left_35) hW (fun H locs hW => ?_)
        refine lv_aload_n hx hb dX10_left_38 rfl (lv_at hl 1 rfl) ?_
        refine lv_iload_n hx hb dX10_left_39 rfl (lv_at hl 2 rfl) ?_
        obtain ⟨t10, e11, h⟩ := bd h
        refine x_goi (x_rv (rest := []) hC hW (ctY0_leftMany e11) (cwV_g hC.2.2.2.2 ml_X10_228 mi_X10_leftMany md_X10_leftMany ⟨(Nat.le_trans (Nat.le_of_ble_eq_true rfl) hF), (Nat.le_trans (Nat.le_of_ble_eq_true rfl) hL)⟩) (rcY0 hW) rfl hl.1 rfl (Nat.le_of_ble_eq_true rfl) dX10_left_40) hW (fun H locs hW => ?_)
        cases h
        exact kr _ _ _ _ dX10_left_43 hW
      · have h := it_p q7 h
        refine lv_aload_n hx hb dX10_left_27 rfl (lv_at hl 1 rfl) ?_
        refine lv_iload_n hx hb dX10_left_28 rfl (lv_at hl 2 rfl) ?_
        obtain ⟨t12, e13, h⟩ := bd h
        refine x_goi (x_rv (rest := []) hC hW (ctY0_firstMany e13) (cwV_g hC.2.2.2.2 ml_X10_199 mi_X10_firstMany md_X10_firstMany ⟨(Nat.le_trans (Nat.le_of_ble_eq_true rfl) hF), (Nat.le_trans (Nat.le_of_ble_eq_true rfl) hL)⟩) (rcY0 hW) rfl hl.1 rfl (Nat.le_of_ble_eq_true rfl) dX10_left_29) hW (fun H locs hW => ?_)
        cases h
        exact kr _ _ _ _ dX10_left_32 hW
    · have h := it_n q6 h
      refine lv_iload_n hx hb dX10_left_21 rfl (lv_at hl 0 rfl) ?_
      cases h
      exact kr _ _ _ _ dX10_left_22 hW
  · have h := it_p q3 h
    refine lv_iconst (v := (-1)) hx hb dX10_left_9 (by decide) ?_
    cases h
    exact kr _ _ _ _ dX10_left_10 hW
theorem ctY0_left {N : Nat} {S : St} {x1 : Int32} {x2 : Int32}  {v : Int32} {S' : St} (h : fY0_left N S x1 x2 = some (v, S')) : Met l yX10_left (wm yX10_left cX10_left 4 (some .int)) (rmx 5 120) (pcm LY G S [.ref (ad G 0), .int x1, .int x2]) (qcI LY G S' v) 0 0 G.2.2.2 :=
  x_enter (own := RX10) rfl rfl (Nat.le_of_ble_eq_true rfl) (fun p e s m below meth c ls hC hr hk hW hl => wY0_left hC (Nat.le_refl _) (Nat.le_refl _)  h (fun H locs ls pc hd hW => x_reti hC hr hk hW hd) _ _ _ hW hl)
def fY0_ends (N : Nat) (S : St) (x1 : Int32) : Option (Int32 × St) :=
  Option.bind (fY0_askedCell S x1) fun t1 =>
  if 0 ≤ t1.1 then
    Option.bind (fY0_narrow N t1.2 0) fun t4 =>
    Option.bind (fY0_leftMany N t4 x1) fun t6 =>
    Option.bind (α := St × Int32) (
      if t6 = 0 then
        some (t4, (-9))
      else
        gd (inb x1 12) <|
        gd (inb x1 12) <|
        Option.bind (fY0_ask t4 (t4.1 19 (Int32.toNatClampNeg x1)) (t4.1 18 (Int32.toNatClampNeg x1))) fun t14 =>
        some (t14.2, t14.1)
    ) fun t9 =>
    some (t9.2, t9.1)
  else
    some (t1.1, t1.2)
set_option maxHeartbeats 4000000 in
set_option maxRecDepth 100000 in
theorem wY0_ends {N : Nat} {S : St} {x1 : Int32} (hC : CallFix p m c cX10_ends 3 s args lw_g RX10) (hF : 5 ≤ R.frames) (hL : 120 ≤ R.locals)  {v : Int32} {S' : St} (h : fY0_ends N S x1 = some (v, S')) (kr : ∀ (H : Heap) (locs : List Loc) (ls : Array Slot) (pc : Nat), decode cX10_ends pc = .ok (.ireturn, 1) → wg LY G (S') s H locs → W p l e R s m args below meth c H locs 0 0 Q (F0 m pc ls [.int v])) : ∀ (H : Heap) (locs : List Loc) (ls : Array Slot), wg LY G S s H locs → lv_has ls 3 [(0, .ref (ad G 0)), (1, .int x1)] → W p l e R s m args below meth c H locs 0 0 Q (F0 m 0 ls []) := by
  have hx := hC.1
  have hb := hC.2.1
  intro H locs ls hW hl
  unfold fY0_ends at h
  refine lv_aload_n hx hb dX10_ends_0 rfl (lv_at hl 0 rfl) ?_
  refine lv_iload_n hx hb dX10_ends_1 rfl (lv_at hl 1 rfl) ?_
  obtain ⟨t1, e2, h⟩ := bd h
  refine x_goi (x_rv (rest := []) hC hW (ctY0_askedCell e2) (cwV_g hC.2.2.2.2 ml_X10_184 mi_X10_askedCell md_X10_askedCell ⟨(Nat.le_trans (Nat.le_of_ble_eq_true rfl) hF), (Nat.le_trans (Nat.le_of_ble_eq_true rfl) hL)⟩) (rcY0 hW) rfl hl.1 rfl (Nat.le_of_ble_eq_true rfl) dX10_ends_2) hW (fun H locs hW => ?_)
  refine lv_istore_n (lv' := [(2, .int t1.1), (0, .ref (ad G 0)), (1, .int x1)]) hx hb dX10_ends_5 rfl hl (by decide) rfl (fun ls hl => ?_)
  refine lv_iload_n hx hb dX10_ends_6 rfl (lv_at hl 0 rfl) ?_
  refine lv_if_ge (tgt := 12) hx hb dX10_ends_7 (by decide) (fun q3 => ?_) (fun q3 => ?_)
  · have h := it_p q3 h
    refine lv_aload_n hx hb dX10_ends_12 rfl (lv_at hl 1 rfl) ?_
    refine lv_iconst (v := 0) hx hb dX10_ends_13 (by decide) ?_
    obtain ⟨t4, e5, h⟩ := bd h
    refine x_gov (x_rv (rest := []) hC hW (ctY0_narrow e5) (cwV_g hC.2.2.2.2 ml_X10_224 mi_X10_narrow md_X10_narrow ⟨(Nat.le_trans (Nat.le_of_ble_eq_true rfl) hF), (Nat.le_trans (Nat.le_of_ble_eq_true rfl) hL)⟩) (rcY0 hW) rfl hl.1 rfl (Nat.le_of_ble_eq_true rfl) dX10_ends_14) hW (fun H locs hW => ?_)
    refine lv_aload_n hx hb dX10_ends_17 rfl (lv_at hl 1 rfl) ?_
    refine lv_iload_n hx hb dX10_ends_18 rfl (lv_at hl 2 rfl) ?_
    obtain ⟨t6, e7, h⟩ := bd h
    refine x_goi (x_rv (rest := []) hC hW (ctY0_leftMany e7) (cwV_g hC.2.2.2.2 ml_X10_228 mi_X10_leftMany md_X10_leftMany ⟨(Nat.le_trans (Nat.le_of_ble_eq_true rfl) hF), (Nat.le_trans (Nat.le_of_ble_eq_true rfl) hL)⟩) (rcY0 hW) rfl hl.1 rfl (Nat.le_of_ble_eq_true rfl) dX10_ends_19) hW (fun H locs hW => ?_)
    obtain ⟨t9, e10, h⟩ := bd h
    have K8 : ∀ (H : Heap) (locs : List Loc) (ls : Array Slot), wg LY G t9.1 s H locs → lv_has ls 3 [] → W p l e R s m args below meth c H locs 0 0 Q (F0 m 46 ls [.int t9.2]) := by
      intro H locs ls hW hl
      cases h
      exact kr _ _ _ _ dX10_ends_46 hW
    clear h
    have h := e10
    clear e10
    refine lv_if_ne (tgt := 30) hx hb dX10_ends_22 (by decide) (fun q11 => ?_) (fun q11 => ?_)
    · have h := it_n q11 h
      refine lv_aload_n hx hb dX10_ends_30 rfl (lv_at hl 1 rfl) ?_
      refine lv_aload_n hx hb dX10_ends_31 rfl (lv_at hl 1 rfl) ?_
      refine gY0_26 hC hW dX10_ends_32 ?_
      refine lv_iload_n hx hb dX10_ends_35 rfl (lv_at hl 2 rfl) ?_
      obtain ⟨g12, h⟩ := gd_some h
      refine x_iald hC hW aY19 g12 dX10_ends_36 ?_
      refine lv_aload_n hx hb dX10_ends_37 rfl (lv_at hl 1 rfl) ?_
      refine gY0_25 hC hW dX10_ends_38 ?_
      refine lv_iload_n hx hb dX10_ends_41 rfl (lv_at hl 2 rfl) ?_
      obtain ⟨g13, h⟩ := gd_some h
      refine x_iald hC hW aY18 g13 dX10_ends_42 ?_
      obtain ⟨t14, e15, h⟩ := bd h
      refine x_goi (x_rv (rest := []) hC hW (ctY0_ask e15) (cwV_g hC.2.2.2.2 ml_X10_125 mi_X10_ask md_X10_ask ⟨(Nat.le_trans (Nat.le_of_ble_eq_true rfl) hF), (Nat.le_trans (Nat.le_of_ble_eq_true rfl) hL)⟩) (rcY0 hW) rfl hl.1 rfl (Nat.le_of_ble_eq_true rfl) dX10_ends_43) hW (fun H locs hW => ?_)
      cases h
      exact K8 _ _ _ hW (lv_sub hl [] rfl)
    · have h := it_p q11 h
      refine lv_bipush (v := (-9)) hx hb dX10_ends_25 (by decide) ?_
      refine lv_goto (tgt := 46) hx hb dX10_ends_27 (by decide) ?_
      cases h
      exact K8 _ _ _ hW (lv_sub hl [] rfl)
  · have h := it_n q3 h
    refine lv_iload_n hx hb dX10_ends_10 rfl (lv_at hl 0 rfl) ?_
    cases h
    exact kr _ _ _ _ dX10_ends_11 hW
theorem ctY0_ends {N : Nat} {S : St} {x1 : Int32}  {v : Int32} {S' : St} (h : fY0_ends N S x1 = some (v, S')) : Met l yX10_ends (wm yX10_ends cX10_ends 3 (some .int)) (rmx 5 120) (pcm LY G S [.ref (ad G 0), .int x1]) (qcI LY G S' v) 0 0 G.2.2.2 :=
  x_enter (own := RX10) rfl rfl (Nat.le_of_ble_eq_true rfl) (fun p e s m below meth c ls hC hr hk hW hl => wY0_ends hC (Nat.le_refl _) (Nat.le_refl _)  h (fun H locs ls pc hd hW => x_reti hC hr hk hW hd) _ _ _ hW hl)
def fY0_may (N : Nat) (S : St) (x1 : Int32) (x2 : Int32) : Option (Int32 × St) :=
  Option.bind (fYs_isNumber S x2) fun t1 =>
  if t1 = 0 then
    some ((-1), S)
  else
    Option.bind (fY0_askedCell S x1) fun t4 =>
    if 0 ≤ t4.1 then
      Option.bind (fY0_narrow N t4.2 0) fun t7 =>
      gd (inb ((100 * x1) + x2) 1200) <|
      Option.bind (α := Int32) (
        if (t7.1 17 (Int32.toNatClampNeg ((100 * x1) + x2))) = 0 then
          some 0
        else
          some 1
      ) fun t11 =>
      some (t11, t7)
    else
      some (t4.1, t4.2)
set_option maxHeartbeats 4000000 in
set_option maxRecDepth 100000 in
theorem wY0_may {N : Nat} {S : St} {x1 : Int32} {x2 : Int32} (hC : CallFix p m c cX10_may 4 s args lw_g RX10) (hF : 5 ≤ R.frames) (hL : 120 ≤ R.locals)  {v : Int32} {S' : St} (h : fY0_may N S x1 x2 = some (v, S')) (kr : ∀ (H : Heap) (locs : List Loc) (ls : Array Slot) (pc : Nat), decode cX10_may pc = .ok (.ireturn, 1) → wg LY G (S') s H locs → W p l e R s m args below meth c H locs 0 0 Q (F0 m pc ls [.int v])) : ∀ (H : Heap) (locs : List Loc) (ls : Array Slot), wg LY G S s H locs → lv_has ls 4 [(0, .ref (ad G 0)), (1, .int x1), (2, .int x2)] → W p l e R s m args below meth c H locs 0 0 Q (F0 m 0 ls []) := by
  have hx := hC.1
  have hb := hC.2.1
  intro H locs ls hW hl
  unfold fY0_may at h
  refine lv_iload_n hx hb dX10_may_0 rfl (lv_at hl 2 rfl) ?_
  obtain ⟨t1, e2, h⟩ := bd h
  refine x_goi (x_rs (rest := []) hC hW (ctYs_isNumber e2) (cwS_g hC.2.2.2.2 ml_X10_175 ms_X10_isNumber md_X10_isNumber ⟨(Nat.le_trans (Nat.le_of_ble_eq_true rfl) hF), (Nat.le_trans (Nat.le_of_ble_eq_true rfl) hL)⟩) rfl hl.1 rfl (Nat.le_of_ble_eq_true rfl) dX10_may_1) hW (fun H locs hW => ?_)
  refine lv_if_ne (tgt := 9) hx hb dX10_may_4 (by decide) (fun q3 => ?_) (fun q3 => ?_)
  · have h := it_n q3 h
    refine lv_aload_n hx hb dX10_may_9 rfl (lv_at hl 0 rfl) ?_
    refine lv_iload_n hx hb dX10_may_10 rfl (lv_at hl 1 rfl) ?_
    obtain ⟨t4, e5, h⟩ := bd h
    refine x_goi (x_rv (rest := []) hC hW (ctY0_askedCell e5) (cwV_g hC.2.2.2.2 ml_X10_184 mi_X10_askedCell md_X10_askedCell ⟨(Nat.le_trans (Nat.le_of_ble_eq_true rfl) hF), (Nat.le_trans (Nat.le_of_ble_eq_true rfl) hL)⟩) (rcY0 hW) rfl hl.1 rfl (Nat.le_of_ble_eq_true rfl) dX10_may_11) hW (fun H locs hW => ?_)
    refine lv_istore_n (lv' := [(3, .int t4.1), (0, .ref (ad G 0)), (1, .int x1), (2, .int x2)]) hx hb dX10_may_14 rfl hl (by decide) rfl (fun ls hl => ?_)
    refine lv_iload_n hx hb dX10_may_15 rfl (lv_at hl 0 rfl) ?_
    refine lv_if_ge (tgt := 21) hx hb dX10_may_16 (by decide) (fun q6 => ?_) (fun q6 => ?_)
    · have h := it_p q6 h
      refine lv_aload_n hx hb dX10_may_21 rfl (lv_at hl 1 rfl) ?_
      refine lv_iconst (v := 0) hx hb dX10_may_22 (by decide) ?_
      obtain ⟨t7, e8, h⟩ := bd h
      refine x_gov (x_rv (rest := []) hC hW (ctY0_narrow e8) (cwV_g hC.2.2.2.2 ml_X10_224 mi_X10_narrow md_X10_narrow ⟨(Nat.le_trans (Nat.le_of_ble_eq_true rfl) hF), (Nat.le_trans (Nat.le_of_ble_eq_true rfl) hL)⟩) (rcY0 hW) rfl hl.1 rfl (Nat.le_of_ble_eq_true rfl) dX10_may_23) hW (fun H locs hW => ?_)
      refine lv_aload_n hx hb dX10_may_26 rfl (lv_at hl 1 rfl) ?_
      refine gY0_24 hC hW dX10_may_27 ?_
      refine lv_bipush (v := 100) hx hb dX10_may_30 (by decide) ?_
      refine lv_iload_n hx hb dX10_may_32 rfl (lv_at hl 2 rfl) ?_
      refine lv_imul hx hb dX10_may_33 ?_
      refine lv_iload_n hx hb dX10_may_34 rfl (lv_at hl 3 rfl) ?_
      refine lv_iadd hx hb dX10_may_35 ?_
      obtain ⟨g9, h⟩ := gd_some h
      refine x_zald hC hW zY17 g9 dX10_may_36 ?_
      obtain ⟨t11, e12, h⟩ := bd h
      have K10 : ∀ (H : Heap) (locs : List Loc) (ls : Array Slot), wg LY G t7 s H locs → lv_has ls 4 [] → W p l e R s m args below meth c H locs 0 0 Q (F0 m 45 ls [.int t11]) := by
        intro H locs ls hW hl
        cases h
        exact kr _ _ _ _ dX10_may_45 hW
      clear h
      have h := e12
      clear e12
      refine lv_if_eq (tgt := 44) hx hb dX10_may_37 (by decide) (fun q13 => ?_) (fun q13 => ?_)
      · have h := it_p q13 h
        refine lv_iconst (v := 0) hx hb dX10_may_44 (by decide) ?_
        cases h
        exact K10 _ _ _ hW (lv_sub hl [] rfl)
      · have h := it_n q13 h
        refine lv_iconst (v := 1) hx hb dX10_may_40 (by decide) ?_
        refine lv_goto (tgt := 45) hx hb dX10_may_41 (by decide) ?_
        cases h
        exact K10 _ _ _ hW (lv_sub hl [] rfl)
    · have h := it_n q6 h
      refine lv_iload_n hx hb dX10_may_19 rfl (lv_at hl 0 rfl) ?_
      cases h
      exact kr _ _ _ _ dX10_may_20 hW
  · have h := it_p q3 h
    refine lv_iconst (v := (-1)) hx hb dX10_may_7 (by decide) ?_
    cases h
    exact kr _ _ _ _ dX10_may_8 hW
theorem ctY0_may {N : Nat} {S : St} {x1 : Int32} {x2 : Int32}  {v : Int32} {S' : St} (h : fY0_may N S x1 x2 = some (v, S')) : Met l yX10_may (wm yX10_may cX10_may 4 (some .int)) (rmx 5 120) (pcm LY G S [.ref (ad G 0), .int x1, .int x2]) (qcI LY G S' v) 0 0 G.2.2.2 :=
  x_enter (own := RX10) rfl rfl (Nat.le_of_ble_eq_true rfl) (fun p e s m below meth c ls hC hr hk hW hl => wY0_may hC (Nat.le_refl _) (Nat.le_refl _)  h (fun H locs ls pc hd hW => x_reti hC hr hk hW hd) _ _ _ hW hl)
end GEN
