section GEN
variable {p : Program} {l : Launch} {e : Env} {R : Room} {s : State} {m : MethodId} {args : Array Value} {below : List Frame} {meth : Method} {c : Code} {H : Heap} {locs : List Loc} {Q : State → Prop} {G : GG}
def fY0_book_L27 (N : Nat)  : Nat → St → Int32 → Option (St)
  | 0, _, _ => none
  | n + 1, S, x3 =>
    if 12 ≤ x3 then
      some S
    else
      gd (inb x3 12) <|
      gd (inb x3 12) <|
      nx (p1 S 10 (Int32.toNatClampNeg x3) (S.1 7 (Int32.toNatClampNeg x3))) fun s10 =>
      gd (inb x3 12) <|
      gd (inb x3 12) <|
      nx (p1 s10 11 (Int32.toNatClampNeg x3) (s10.1 8 (Int32.toNatClampNeg x3))) fun s14 =>
      gd (inb x3 12) <|
      gd (inb x3 12) <|
      nx (p1 s14 12 (Int32.toNatClampNeg x3) (s14.1 9 (Int32.toNatClampNeg x3))) fun s18 =>
      fY0_book_L27 N n s18 (x3 + 1)
set_option maxHeartbeats 4000000 in
set_option maxRecDepth 100000 in
theorem wY0_book_L27 {N : Nat}  (hC : CallFix p m c cX10_book 4 s args lw_g RX10) (hF : 5 ≤ R.frames) (hL : 111 ≤ R.locals)  {t : St} (kx : ∀ (H : Heap) (locs : List Loc) (ls : Array Slot), wg LY G t s H locs → lv_has ls 4 [(0, .ref (ad G 0))] → W p l e R s m args below meth c H locs 0 0 Q (F0 m 75 ls [])) : ∀ (n : Nat) (S : St) (x3 : Int32), fY0_book_L27 N  n S x3 = some t → ∀ (H : Heap) (locs : List Loc) (ls : Array Slot), wg LY G S s H locs → lv_has ls 4 [(0, .ref (ad G 0)), (3, .int x3)] → W p l e R s m args below meth c H locs 0 0 Q (F0 m 27 ls []) := by
  have hx := hC.1
  have hb := hC.2.1
  intro n
  induction n with
  | zero =>
    intro _ _ h
    cases h
  | succ n ih =>
    intro S x3 h H locs ls hW hl
    rw [fY0_book_L27] at h
    refine lv_iload_n hx hb dX10_book_27 rfl (lv_at hl 1 rfl) ?_
    refine lv_bipush (v := 12) hx hb dX10_book_28 (by decide) ?_
    refine lv_icmp_ge (tgt := 75) hx hb dX10_book_30 (by decide) (fun q7 => ?_) (fun q7 => ?_)
    · have h := it_p q7 h
      cases h
      exact kx _ _ _ hW (lv_sub hl [0] rfl)
    · have h := it_n q7 h
      refine lv_aload_n hx hb dX10_book_33 rfl (lv_at hl 0 rfl) ?_
      refine gY0_15 hC hW dX10_book_34 ?_
      refine lv_iload_n hx hb dX10_book_37 rfl (lv_at hl 1 rfl) ?_
      refine lv_aload_n hx hb dX10_book_38 rfl (lv_at hl 0 rfl) ?_
      refine gY0_10 hC hW dX10_book_39 ?_
      refine lv_iload_n hx hb dX10_book_42 rfl (lv_at hl 1 rfl) ?_
      obtain ⟨g8, h⟩ := gd_some h
      refine x_iald hC hW aY7 g8 dX10_book_43 ?_
      obtain ⟨g9, h⟩ := gd_some h
      refine x_iast hC hW aY10 g9 dX10_book_44 (fun H locs hW => ?_)
      obtain ⟨s10, e11, h⟩ := nx_some h
      rw [← e11] at hW
      refine lv_aload_n hx hb dX10_book_45 rfl (lv_at hl 0 rfl) ?_
      refine gY0_16 hC hW dX10_book_46 ?_
      refine lv_iload_n hx hb dX10_book_49 rfl (lv_at hl 1 rfl) ?_
      refine lv_aload_n hx hb dX10_book_50 rfl (lv_at hl 0 rfl) ?_
      refine gY0_11 hC hW dX10_book_51 ?_
      refine lv_iload_n hx hb dX10_book_54 rfl (lv_at hl 1 rfl) ?_
      obtain ⟨g12, h⟩ := gd_some h
      refine x_iald hC hW aY8 g12 dX10_book_55 ?_
      obtain ⟨g13, h⟩ := gd_some h
      refine x_iast hC hW aY11 g13 dX10_book_56 (fun H locs hW => ?_)
      obtain ⟨s14, e15, h⟩ := nx_some h
      rw [← e15] at hW
      refine lv_aload_n hx hb dX10_book_57 rfl (lv_at hl 0 rfl) ?_
      refine gY0_17 hC hW dX10_book_58 ?_
      refine lv_iload_n hx hb dX10_book_61 rfl (lv_at hl 1 rfl) ?_
      refine lv_aload_n hx hb dX10_book_62 rfl (lv_at hl 0 rfl) ?_
      refine gY0_12 hC hW dX10_book_63 ?_
      refine lv_iload_n hx hb dX10_book_66 rfl (lv_at hl 1 rfl) ?_
      obtain ⟨g16, h⟩ := gd_some h
      refine x_iald hC hW aY9 g16 dX10_book_67 ?_
      obtain ⟨g17, h⟩ := gd_some h
      refine x_iast hC hW aY12 g17 dX10_book_68 (fun H locs hW => ?_)
      obtain ⟨s18, e19, h⟩ := nx_some h
      rw [← e19] at hW
      refine lv_iinc (v := x3 + 1) (lv' := [(3, .int (x3 + 1)), (0, .ref (ad G 0))]) (k := 1) hx hb dX10_book_69 hl rfl rfl (by decide) rfl (fun ls hl => ?_)
      refine lv_goto (tgt := 27) hx hb dX10_book_72 (by decide) ?_
      exact ih _ _ h _ _ _ hW (lv_sub hl [1, 0] rfl)
def fY0_book (N : Nat) (S : St) (x1 : Int32) : Option (Int32 × St) :=
  Option.bind (fY0_askedText S x1) fun t1 =>
  if 0 ≤ t1.1 then
    Option.bind (fY0_reads N t1.2 x1) fun t4 =>
    if t4.1 = (-9) then
      Option.bind (fY0_book_L27 N N t4.2 0) fun t20 =>
      Option.bind (fY0_cells N t20) fun t22 =>
      some (t22, t20)
    else
      some ((-4), t4.2)
  else
    some (t1.1, t1.2)
set_option maxHeartbeats 4000000 in
set_option maxRecDepth 100000 in
theorem wY0_book {N : Nat} {S : St} {x1 : Int32} (hC : CallFix p m c cX10_book 4 s args lw_g RX10) (hF : 5 ≤ R.frames) (hL : 111 ≤ R.locals)  {v : Int32} {S' : St} (h : fY0_book N S x1 = some (v, S')) (kr : ∀ (H : Heap) (locs : List Loc) (ls : Array Slot) (pc : Nat), decode cX10_book pc = .ok (.ireturn, 1) → wg LY G (S') s H locs → W p l e R s m args below meth c H locs 0 0 Q (F0 m pc ls [.int v])) : ∀ (H : Heap) (locs : List Loc) (ls : Array Slot), wg LY G S s H locs → lv_has ls 4 [(0, .ref (ad G 0)), (1, .int x1)] → W p l e R s m args below meth c H locs 0 0 Q (F0 m 0 ls []) := by
  have hx := hC.1
  have hb := hC.2.1
  intro H locs ls hW hl
  unfold fY0_book at h
  refine lv_aload_n hx hb dX10_book_0 rfl (lv_at hl 0 rfl) ?_
  refine lv_iload_n hx hb dX10_book_1 rfl (lv_at hl 1 rfl) ?_
  obtain ⟨t1, e2, h⟩ := bd h
  refine x_goi (x_rv (rest := []) hC hW (ctY0_askedText e2) (cwV_g hC.2.2.2.2 ml_X10_131 mi_X10_askedText md_X10_askedText ⟨(Nat.le_trans (Nat.le_of_ble_eq_true rfl) hF), (Nat.le_trans (Nat.le_of_ble_eq_true rfl) hL)⟩) (rcY0 hW) rfl hl.1 rfl (Nat.le_of_ble_eq_true rfl) dX10_book_2) hW (fun H locs hW => ?_)
  refine lv_istore_n (lv' := [(2, .int t1.1), (0, .ref (ad G 0)), (1, .int x1)]) hx hb dX10_book_5 rfl hl (by decide) rfl (fun ls hl => ?_)
  refine lv_iload_n hx hb dX10_book_6 rfl (lv_at hl 0 rfl) ?_
  refine lv_if_ge (tgt := 12) hx hb dX10_book_7 (by decide) (fun q3 => ?_) (fun q3 => ?_)
  · have h := it_p q3 h
    refine lv_aload_n hx hb dX10_book_12 rfl (lv_at hl 1 rfl) ?_
    refine lv_iload_n hx hb dX10_book_13 rfl (lv_at hl 2 rfl) ?_
    obtain ⟨t4, e5, h⟩ := bd h
    refine x_goi (x_rv (rest := []) hC hW (ctY0_reads e5) (cwV_g hC.2.2.2.2 ml_X10_162 mi_X10_reads md_X10_reads ⟨(Nat.le_trans (Nat.le_of_ble_eq_true rfl) hF), (Nat.le_trans (Nat.le_of_ble_eq_true rfl) hL)⟩) (rcY0 hW) rfl hl.1 rfl (Nat.le_of_ble_eq_true rfl) dX10_book_14) hW (fun H locs hW => ?_)
    refine lv_bipush (v := (-9)) hx hb dX10_book_17 (by decide) ?_
    refine lv_icmp_eq (tgt := 25) hx hb dX10_book_19 (by decide) (fun q6 => ?_) (fun q6 => ?_)
    · have h := it_p q6 h
      refine lv_iconst (v := 0) hx hb dX10_book_25 (by decide) ?_
      refine lv_istore_n (lv' := [(3, .int 0), (2, .int t1.1), (0, .ref (ad G 0)), (1, .int x1)]) hx hb dX10_book_26 rfl hl (by decide) rfl (fun ls hl => ?_)
      obtain ⟨t20, e21, h⟩ := bd h
      refine wY0_book_L27 hC hF hL  (fun H locs ls hW hl => ?_) _ _ _ e21 _ _ _ hW (lv_sub hl [2, 0] rfl)
      refine lv_aload_n hx hb dX10_book_75 rfl (lv_at hl 0 rfl) ?_
      obtain ⟨t22, e23, h⟩ := bd h
      refine x_goi (x_rv (rest := []) hC hW (ctY0_cells e23) (cwV_g hC.2.2.2.2 ml_X10_165 mi_X10_cells md_X10_cells ⟨(Nat.le_trans (Nat.le_of_ble_eq_true rfl) hF), (Nat.le_trans (Nat.le_of_ble_eq_true rfl) hL)⟩) (rcY0 hW) rfl hl.1 rfl (Nat.le_of_ble_eq_true rfl) dX10_book_76) hW (fun H locs hW => ?_)
      cases h
      exact kr _ _ _ _ dX10_book_79 hW
    · have h := it_n q6 h
      refine lv_bipush (v := (-4)) hx hb dX10_book_22 (by decide) ?_
      cases h
      exact kr _ _ _ _ dX10_book_24 hW
  · have h := it_n q3 h
    refine lv_iload_n hx hb dX10_book_10 rfl (lv_at hl 0 rfl) ?_
    cases h
    exact kr _ _ _ _ dX10_book_11 hW
theorem ctY0_book {N : Nat} {S : St} {x1 : Int32}  {v : Int32} {S' : St} (h : fY0_book N S x1 = some (v, S')) : Met l yX10_book (wm yX10_book cX10_book 4 (some .int)) (rmx 5 111) (pcm LY G S [.ref (ad G 0), .int x1]) (qcI LY G S' v) 0 0 G.2.2.2 :=
  x_enter (own := RX10) rfl rfl (Nat.le_of_ble_eq_true rfl) (fun p e s m below meth c ls hC hr hk hW hl => wY0_book hC (Nat.le_refl _) (Nat.le_refl _)  h (fun H locs ls pc hd hW => x_reti hC hr hk hW hd) _ _ _ hW hl)
def fYs_isTotal (S : St) (x0 : Int32) : Option (Int32) :=
  Option.bind (fYs_in S x0 (-999) 9999) fun t1 =>
  gd (isb t1) <|
  some t1
set_option maxHeartbeats 4000000 in
set_option maxRecDepth 100000 in
theorem wYs_isTotal {S : St} {x0 : Int32} (hC : CallFix p m c cX10_isTotal 1 s args lw_g RX10) (hF : 1 ≤ R.frames) (hL : 22 ≤ R.locals)  {v : Int32} (h : fYs_isTotal S x0 = some v) (kr : ∀ (H : Heap) (locs : List Loc) (ls : Array Slot) (pc : Nat), isb v = true → decode cX10_isTotal pc = .ok (.ireturn, 1) → wg LY G S s H locs → W p l e R s m args below meth c H locs 0 0 Q (F0 m pc ls [.int v])) : ∀ (H : Heap) (locs : List Loc) (ls : Array Slot), wg LY G S s H locs → lv_has ls 1 [(0, .int x0)] → W p l e R s m args below meth c H locs 0 0 Q (F0 m 0 ls []) := by
  have hx := hC.1
  have hb := hC.2.1
  intro H locs ls hW hl
  unfold fYs_isTotal at h
  refine lv_iload_n hx hb dX10_isTotal_0 rfl (lv_at hl 0 rfl) ?_
  refine lv_sipush (v := (-999)) hx hb dX10_isTotal_1 (by decide) ?_
  refine lv_sipush (v := 9999) hx hb dX10_isTotal_4 (by decide) ?_
  obtain ⟨t1, e2, h⟩ := bd h
  refine x_goi (x_rs (rest := []) hC hW (ctYs_in e2) (cwS_g hC.2.2.2.2 ml_X10_103 ms_X10_in md_X10_in ⟨(Nat.le_trans (Nat.le_of_ble_eq_true rfl) hF), (Nat.le_trans (Nat.le_of_ble_eq_true rfl) hL)⟩) rfl hl.1 rfl (Nat.le_of_ble_eq_true rfl) dX10_isTotal_7) hW (fun H locs hW => ?_)
  obtain ⟨g3, h⟩ := gd_some h
  cases h
  exact kr _ _ _ _ g3 dX10_isTotal_10 hW
theorem ctYs_isTotal {S : St} {x0 : Int32}  {v : Int32} (h : fYs_isTotal S x0 = some v) : Met l yX10_isTotal (wm yX10_isTotal cX10_isTotal 1 (some .boolean)) (rmx 1 22) (pcm LY G S [.int x0]) (qcI LY G S v) 0 0 G.2.2.2 :=
  x_enter (own := RX10) rfl rfl (Nat.le_of_ble_eq_true rfl) (fun p e s m below meth c ls hC hr hk hW hl => wYs_isTotal hC (Nat.le_refl _) (Nat.le_refl _)  h (fun H locs ls pc hz hd hW => x_retz hC hr hk hW hz hd) _ _ _ hW hl)
def fY0_sum (S : St) (x1 : Int32) (x2 : Int32) (x3 : Int32) : Option (Int32 × St) :=
  Option.bind (fYs_in S x1 0 4095) fun t1 =>
  if t1 = 0 then
    some ((-1), S)
  else
    Option.bind (fYs_in S x2 0 4095) fun t4 =>
    if t4 = 0 then
      some ((-1), S)
    else
      if (x1 ||| x2) = 0 then
        some ((-1), S)
      else
        if (x1 &&& x2) = 0 then
          Option.bind (fYs_isTotal S x3) fun t9 =>
          if t9 = 0 then
            some ((-1), S)
          else
            if (S.1 0 18) = 8 then
              some ((-2), S)
            else
              gd (inb (S.1 0 18) 8) <|
              nx (p1 S 13 (Int32.toNatClampNeg (S.1 0 18)) x1) fun s14 =>
              gd (inb (s14.1 0 18) 8) <|
              nx (p1 s14 14 (Int32.toNatClampNeg (s14.1 0 18)) x2) fun s17 =>
              gd (inb (s17.1 0 18) 8) <|
              nx (p1 s17 15 (Int32.toNatClampNeg (s17.1 0 18)) x3) fun s20 =>
              nx (p1 s20 0 18 ((s20.1 0 18) + 1)) fun s22 =>
              some (s22.1 0 18, s22)
        else
          some ((-1), S)
set_option maxHeartbeats 4000000 in
set_option maxRecDepth 100000 in
theorem wY0_sum {S : St} {x1 : Int32} {x2 : Int32} {x3 : Int32} (hC : CallFix p m c cX10_sum 4 s args lw_g RX10) (hF : 2 ≤ R.frames) (hL : 42 ≤ R.locals)  {v : Int32} {S' : St} (h : fY0_sum S x1 x2 x3 = some (v, S')) (kr : ∀ (H : Heap) (locs : List Loc) (ls : Array Slot) (pc : Nat), decode cX10_sum pc = .ok (.ireturn, 1) → wg LY G (S') s H locs → W p l e R s m args below meth c H locs 0 0 Q (F0 m pc ls [.int v])) : ∀ (H : Heap) (locs : List Loc) (ls : Array Slot), wg LY G S s H locs → lv_has ls 4 [(0, .ref (ad G 0)), (1, .int x1), (2, .int x2), (3, .int x3)] → W p l e R s m args below meth c H locs 0 0 Q (F0 m 0 ls []) := by
  have hx := hC.1
  have hb := hC.2.1
  intro H locs ls hW hl
  unfold fY0_sum at h
  refine lv_iload_n hx hb dX10_sum_0 rfl (lv_at hl 1 rfl) ?_
  refine lv_iconst (v := 0) hx hb dX10_sum_1 (by decide) ?_
  refine lv_sipush (v := 4095) hx hb dX10_sum_2 (by decide) ?_
  obtain ⟨t1, e2, h⟩ := bd h
  refine x_goi (x_rs (rest := []) hC hW (ctYs_in e2) (cwS_g hC.2.2.2.2 ml_X10_103 ms_X10_in md_X10_in ⟨(Nat.le_trans (Nat.le_of_ble_eq_true rfl) hF), (Nat.le_trans (Nat.le_of_ble_eq_true rfl) hL)⟩) rfl hl.1 rfl (Nat.le_of_ble_eq_true rfl) dX10_sum_5) hW (fun H locs hW => ?_)
  refine lv_if_eq (tgt := 41) hx hb dX10_sum_8 (by decide) (fun q3 => ?_) (fun q3 => ?_)
  · have h := it_p q3 h
    refine lv_iconst (v := (-1)) hx hb dX10_sum_41 (by decide) ?_
    cases h
    exact kr _ _ _ _ dX10_sum_42 hW
  · have h := it_n q3 h
    refine lv_iload_n hx hb dX10_sum_11 rfl (lv_at hl 2 rfl) ?_
    refine lv_iconst (v := 0) hx hb dX10_sum_12 (by decide) ?_
    refine lv_sipush (v := 4095) hx hb dX10_sum_13 (by decide) ?_
    obtain ⟨t4, e5, h⟩ := bd h
    refine x_goi (x_rs (rest := []) hC hW (ctYs_in e5) (cwS_g hC.2.2.2.2 ml_X10_103 ms_X10_in md_X10_in ⟨(Nat.le_trans (Nat.le_of_ble_eq_true rfl) hF), (Nat.le_trans (Nat.le_of_ble_eq_true rfl) hL)⟩) rfl hl.1 rfl (Nat.le_of_ble_eq_true rfl) dX10_sum_16) hW (fun H locs hW => ?_)
    refine lv_if_eq (tgt := 41) hx hb dX10_sum_19 (by decide) (fun q6 => ?_) (fun q6 => ?_)
    · have h := it_p q6 h
      refine lv_iconst (v := (-1)) hx hb dX10_sum_41 (by decide) ?_
      cases h
      exact kr _ _ _ _ dX10_sum_42 hW
    · have h := it_n q6 h
      refine lv_iload_n hx hb dX10_sum_22 rfl (lv_at hl 1 rfl) ?_
      refine lv_iload_n hx hb dX10_sum_23 rfl (lv_at hl 2 rfl) ?_
      refine lv_ior hx hb dX10_sum_24 ?_
      refine lv_if_eq (tgt := 41) hx hb dX10_sum_25 (by decide) (fun q7 => ?_) (fun q7 => ?_)
      · have h := it_p q7 h
        refine lv_iconst (v := (-1)) hx hb dX10_sum_41 (by decide) ?_
        cases h
        exact kr _ _ _ _ dX10_sum_42 hW
      · have h := it_n q7 h
        refine lv_iload_n hx hb dX10_sum_28 rfl (lv_at hl 1 rfl) ?_
        refine lv_iload_n hx hb dX10_sum_29 rfl (lv_at hl 2 rfl) ?_
        refine lv_iand hx hb dX10_sum_30 ?_
        refine lv_if_ne (tgt := 41) hx hb dX10_sum_31 (by decide) (fun q8 => ?_) (fun q8 => ?_)
        · have h := it_n q8 h
          refine lv_iconst (v := (-1)) hx hb dX10_sum_41 (by decide) ?_
          cases h
          exact kr _ _ _ _ dX10_sum_42 hW
        · have h := it_p q8 h
          refine lv_iload_n hx hb dX10_sum_34 rfl (lv_at hl 3 rfl) ?_
          obtain ⟨t9, e10, h⟩ := bd h
          refine x_goi (x_rs (rest := []) hC hW (ctYs_isTotal e10) (cwS_g hC.2.2.2.2 ml_X10_169 ms_X10_isTotal md_X10_isTotal ⟨(Nat.le_trans (Nat.le_of_ble_eq_true rfl) hF), (Nat.le_trans (Nat.le_of_ble_eq_true rfl) hL)⟩) rfl hl.1 rfl (Nat.le_of_ble_eq_true rfl) dX10_sum_35) hW (fun H locs hW => ?_)
          refine lv_if_ne (tgt := 43) hx hb dX10_sum_38 (by decide) (fun q11 => ?_) (fun q11 => ?_)
          · have h := it_n q11 h
            refine lv_aload_n hx hb dX10_sum_43 rfl (lv_at hl 0 rfl) ?_
            refine gY0_18 hC hW dX10_sum_44 ?_
            refine lv_bipush (v := 8) hx hb dX10_sum_47 (by decide) ?_
            refine lv_icmp_ne (tgt := 55) hx hb dX10_sum_49 (by decide) (fun q12 => ?_) (fun q12 => ?_)
            · have h := it_n q12 h
              refine lv_aload_n hx hb dX10_sum_55 rfl (lv_at hl 0 rfl) ?_
              refine gY0_19 hC hW dX10_sum_56 ?_
              refine lv_aload_n hx hb dX10_sum_59 rfl (lv_at hl 0 rfl) ?_
              refine gY0_18 hC hW dX10_sum_60 ?_
              refine lv_iload_n hx hb dX10_sum_63 rfl (lv_at hl 1 rfl) ?_
              obtain ⟨g13, h⟩ := gd_some h
              refine x_iast hC hW aY13 g13 dX10_sum_64 (fun H locs hW => ?_)
              obtain ⟨s14, e15, h⟩ := nx_some h
              rw [← e15] at hW
              refine lv_aload_n hx hb dX10_sum_65 rfl (lv_at hl 0 rfl) ?_
              refine gY0_20 hC hW dX10_sum_66 ?_
              refine lv_aload_n hx hb dX10_sum_69 rfl (lv_at hl 0 rfl) ?_
              refine gY0_18 hC hW dX10_sum_70 ?_
              refine lv_iload_n hx hb dX10_sum_73 rfl (lv_at hl 2 rfl) ?_
              obtain ⟨g16, h⟩ := gd_some h
              refine x_iast hC hW aY14 g16 dX10_sum_74 (fun H locs hW => ?_)
              obtain ⟨s17, e18, h⟩ := nx_some h
              rw [← e18] at hW
              refine lv_aload_n hx hb dX10_sum_75 rfl (lv_at hl 0 rfl) ?_
              refine gY0_21 hC hW dX10_sum_76 ?_
              refine lv_aload_n hx hb dX10_sum_79 rfl (lv_at hl 0 rfl) ?_
              refine gY0_18 hC hW dX10_sum_80 ?_
              refine lv_iload_n hx hb dX10_sum_83 rfl (lv_at hl 3 rfl) ?_
              obtain ⟨g19, h⟩ := gd_some h
              refine x_iast hC hW aY15 g19 dX10_sum_84 (fun H locs hW => ?_)
              obtain ⟨s20, e21, h⟩ := nx_some h
              rw [← e21] at hW
              refine lv_aload_n hx hb dX10_sum_85 rfl (lv_at hl 0 rfl) ?_
              refine lv_dup hx hb dX10_sum_86 rfl ?_
              refine gY0_18 hC hW dX10_sum_87 ?_
              refine lv_iconst (v := 1) hx hb dX10_sum_90 (by decide) ?_
              refine lv_iadd hx hb dX10_sum_91 ?_
              refine pY0_18 hC hW dX10_sum_92 (fun H locs hW => ?_)
              obtain ⟨s22, e23, h⟩ := nx_some h
              rw [← e23] at hW
              refine lv_aload_n hx hb dX10_sum_95 rfl (lv_at hl 0 rfl) ?_
              refine gY0_18 hC hW dX10_sum_96 ?_
              cases h
              exact kr _ _ _ _ dX10_sum_99 hW
            · have h := it_p q12 h
              refine lv_bipush (v := (-2)) hx hb dX10_sum_52 (by decide) ?_
              cases h
              exact kr _ _ _ _ dX10_sum_54 hW
          · have h := it_p q11 h
            refine lv_iconst (v := (-1)) hx hb dX10_sum_41 (by decide) ?_
            cases h
            exact kr _ _ _ _ dX10_sum_42 hW
theorem ctY0_sum {S : St} {x1 : Int32} {x2 : Int32} {x3 : Int32}  {v : Int32} {S' : St} (h : fY0_sum S x1 x2 x3 = some (v, S')) : Met l yX10_sum (wm yX10_sum cX10_sum 4 (some .int)) (rmx 2 42) (pcm LY G S [.ref (ad G 0), .int x1, .int x2, .int x3]) (qcI LY G S' v) 0 0 G.2.2.2 :=
  x_enter (own := RX10) rfl rfl (Nat.le_of_ble_eq_true rfl) (fun p e s m below meth c ls hC hr hk hW hl => wY0_sum hC (Nat.le_refl _) (Nat.le_refl _)  h (fun H locs ls pc hd hW => x_reti hC hr hk hW hd) _ _ _ hW hl)
def fY0_total (S : St) (x1 : Int32) (x2 : Int32) : Option (Int32 × St) :=
  Option.bind (fYs_in S x1 0 ((S.1 0 18) - 1)) fun t1 =>
  if t1 = 0 then
    some ((-1), S)
  else
    Option.bind (fYs_isTotal S x2) fun t4 =>
    if t4 = 0 then
      some ((-1), S)
    else
      gd (inb x1 8) <|
      nx (S.1 15 (Int32.toNatClampNeg x1)) fun y8 =>
      gd (inb x1 8) <|
      nx (p1 S 15 (Int32.toNatClampNeg x1) x2) fun s11 =>
      some (y8, s11)
set_option maxHeartbeats 4000000 in
set_option maxRecDepth 100000 in
theorem wY0_total {S : St} {x1 : Int32} {x2 : Int32} (hC : CallFix p m c cX10_total 4 s args lw_g RX10) (hF : 2 ≤ R.frames) (hL : 42 ≤ R.locals)  {v : Int32} {S' : St} (h : fY0_total S x1 x2 = some (v, S')) (kr : ∀ (H : Heap) (locs : List Loc) (ls : Array Slot) (pc : Nat), decode cX10_total pc = .ok (.ireturn, 1) → wg LY G (S') s H locs → W p l e R s m args below meth c H locs 0 0 Q (F0 m pc ls [.int v])) : ∀ (H : Heap) (locs : List Loc) (ls : Array Slot), wg LY G S s H locs → lv_has ls 4 [(0, .ref (ad G 0)), (1, .int x1), (2, .int x2)] → W p l e R s m args below meth c H locs 0 0 Q (F0 m 0 ls []) := by
  have hx := hC.1
  have hb := hC.2.1
  intro H locs ls hW hl
  unfold fY0_total at h
  refine lv_iload_n hx hb dX10_total_0 rfl (lv_at hl 1 rfl) ?_
  refine lv_iconst (v := 0) hx hb dX10_total_1 (by decide) ?_
  refine lv_aload_n hx hb dX10_total_2 rfl (lv_at hl 0 rfl) ?_
  refine gY0_18 hC hW dX10_total_3 ?_
  refine lv_iconst (v := 1) hx hb dX10_total_6 (by decide) ?_
  refine lv_isub hx hb dX10_total_7 ?_
  obtain ⟨t1, e2, h⟩ := bd h
  refine x_goi (x_rs (rest := []) hC hW (ctYs_in e2) (cwS_g hC.2.2.2.2 ml_X10_103 ms_X10_in md_X10_in ⟨(Nat.le_trans (Nat.le_of_ble_eq_true rfl) hF), (Nat.le_trans (Nat.le_of_ble_eq_true rfl) hL)⟩) rfl hl.1 rfl (Nat.le_of_ble_eq_true rfl) dX10_total_8) hW (fun H locs hW => ?_)
  refine lv_if_eq (tgt := 21) hx hb dX10_total_11 (by decide) (fun q3 => ?_) (fun q3 => ?_)
  · have h := it_p q3 h
    refine lv_iconst (v := (-1)) hx hb dX10_total_21 (by decide) ?_
    cases h
    exact kr _ _ _ _ dX10_total_22 hW
  · have h := it_n q3 h
    refine lv_iload_n hx hb dX10_total_14 rfl (lv_at hl 2 rfl) ?_
    obtain ⟨t4, e5, h⟩ := bd h
    refine x_goi (x_rs (rest := []) hC hW (ctYs_isTotal e5) (cwS_g hC.2.2.2.2 ml_X10_169 ms_X10_isTotal md_X10_isTotal ⟨(Nat.le_trans (Nat.le_of_ble_eq_true rfl) hF), (Nat.le_trans (Nat.le_of_ble_eq_true rfl) hL)⟩) rfl hl.1 rfl (Nat.le_of_ble_eq_true rfl) dX10_total_15) hW (fun H locs hW => ?_)
    refine lv_if_ne (tgt := 23) hx hb dX10_total_18 (by decide) (fun q6 => ?_) (fun q6 => ?_)
    · have h := it_n q6 h
      refine lv_aload_n hx hb dX10_total_23 rfl (lv_at hl 0 rfl) ?_
      refine gY0_21 hC hW dX10_total_24 ?_
      refine lv_iload_n hx hb dX10_total_27 rfl (lv_at hl 1 rfl) ?_
      obtain ⟨g7, h⟩ := gd_some h
      refine x_iald hC hW aY15 g7 dX10_total_28 ?_
      obtain ⟨y8, e9, h⟩ := nx_some h
      refine x_topi e9 ?_
      refine lv_istore_n (lv' := [(3, .int y8), (0, .ref (ad G 0)), (1, .int x1), (2, .int x2)]) hx hb dX10_total_29 rfl hl (by decide) rfl (fun ls hl => ?_)
      refine lv_aload_n hx hb dX10_total_30 rfl (lv_at hl 1 rfl) ?_
      refine gY0_21 hC hW dX10_total_31 ?_
      refine lv_iload_n hx hb dX10_total_34 rfl (lv_at hl 2 rfl) ?_
      refine lv_iload_n hx hb dX10_total_35 rfl (lv_at hl 3 rfl) ?_
      obtain ⟨g10, h⟩ := gd_some h
      refine x_iast hC hW aY15 g10 dX10_total_36 (fun H locs hW => ?_)
      obtain ⟨s11, e12, h⟩ := nx_some h
      rw [← e12] at hW
      refine lv_iload_n hx hb dX10_total_37 rfl (lv_at hl 0 rfl) ?_
      cases h
      exact kr _ _ _ _ dX10_total_38 hW
    · have h := it_p q6 h
      refine lv_iconst (v := (-1)) hx hb dX10_total_21 (by decide) ?_
      cases h
      exact kr _ _ _ _ dX10_total_22 hW
theorem ctY0_total {S : St} {x1 : Int32} {x2 : Int32}  {v : Int32} {S' : St} (h : fY0_total S x1 x2 = some (v, S')) : Met l yX10_total (wm yX10_total cX10_total 4 (some .int)) (rmx 2 42) (pcm LY G S [.ref (ad G 0), .int x1, .int x2]) (qcI LY G S' v) 0 0 G.2.2.2 :=
  x_enter (own := RX10) rfl rfl (Nat.le_of_ble_eq_true rfl) (fun p e s m below meth c ls hC hr hk hW hl => wY0_total hC (Nat.le_refl _) (Nat.le_refl _)  h (fun H locs ls pc hd hW => x_reti hC hr hk hW hd) _ _ _ hW hl)
def fY0_clear (S : St)  : Option (Int32 × St) :=
  nx (p1 S 0 18 0) fun s1 =>
  some (S.1 0 18, s1)
set_option maxHeartbeats 4000000 in
set_option maxRecDepth 100000 in
theorem wY0_clear {S : St}  (hC : CallFix p m c cX10_clear 2 s args lw_g RX10) (hF : 0 ≤ R.frames) (hL : 0 ≤ R.locals)  {v : Int32} {S' : St} (h : fY0_clear S = some (v, S')) (kr : ∀ (H : Heap) (locs : List Loc) (ls : Array Slot) (pc : Nat), decode cX10_clear pc = .ok (.ireturn, 1) → wg LY G (S') s H locs → W p l e R s m args below meth c H locs 0 0 Q (F0 m pc ls [.int v])) : ∀ (H : Heap) (locs : List Loc) (ls : Array Slot), wg LY G S s H locs → lv_has ls 2 [(0, .ref (ad G 0))] → W p l e R s m args below meth c H locs 0 0 Q (F0 m 0 ls []) := by
  have hx := hC.1
  have hb := hC.2.1
  intro H locs ls hW hl
  unfold fY0_clear at h
  refine lv_aload_n hx hb dX10_clear_0 rfl (lv_at hl 0 rfl) ?_
  refine gY0_18 hC hW dX10_clear_1 ?_
  refine lv_istore_n (lv' := [(1, .int (S.1 0 18)), (0, .ref (ad G 0))]) hx hb dX10_clear_4 rfl hl (by decide) rfl (fun ls hl => ?_)
  refine lv_aload_n hx hb dX10_clear_5 rfl (lv_at hl 1 rfl) ?_
  refine lv_iconst (v := 0) hx hb dX10_clear_6 (by decide) ?_
  refine pY0_18 hC hW dX10_clear_7 (fun H locs hW => ?_)
  obtain ⟨s1, e2, h⟩ := nx_some h
  rw [← e2] at hW
  refine lv_iload_n hx hb dX10_clear_10 rfl (lv_at hl 0 rfl) ?_
  cases h
  exact kr _ _ _ _ dX10_clear_11 hW
theorem ctY0_clear {S : St}   {v : Int32} {S' : St} (h : fY0_clear S = some (v, S')) : Met l yX10_clear (wm yX10_clear cX10_clear 2 (some .int)) (rmx 0 0) (pcm LY G S [.ref (ad G 0)]) (qcI LY G S' v) 0 0 G.2.2.2 :=
  x_enter (own := RX10) rfl rfl (Nat.le_of_ble_eq_true rfl) (fun p e s m below meth c ls hC hr hk hW hl => wY0_clear hC (Nat.le_refl _) (Nat.le_refl _)  h (fun H locs ls pc hd hW => x_reti hC hr hk hW hd) _ _ _ hW hl)
def fYs_isNumber (S : St) (x0 : Int32) : Option (Int32) :=
  Option.bind (fYs_in S x0 0 99) fun t1 =>
  gd (isb t1) <|
  some t1
set_option maxHeartbeats 4000000 in
set_option maxRecDepth 100000 in
theorem wYs_isNumber {S : St} {x0 : Int32} (hC : CallFix p m c cX10_isNumber 1 s args lw_g RX10) (hF : 1 ≤ R.frames) (hL : 22 ≤ R.locals)  {v : Int32} (h : fYs_isNumber S x0 = some v) (kr : ∀ (H : Heap) (locs : List Loc) (ls : Array Slot) (pc : Nat), isb v = true → decode cX10_isNumber pc = .ok (.ireturn, 1) → wg LY G S s H locs → W p l e R s m args below meth c H locs 0 0 Q (F0 m pc ls [.int v])) : ∀ (H : Heap) (locs : List Loc) (ls : Array Slot), wg LY G S s H locs → lv_has ls 1 [(0, .int x0)] → W p l e R s m args below meth c H locs 0 0 Q (F0 m 0 ls []) := by
  have hx := hC.1
  have hb := hC.2.1
  intro H locs ls hW hl
  unfold fYs_isNumber at h
  refine lv_iload_n hx hb dX10_isNumber_0 rfl (lv_at hl 0 rfl) ?_
  refine lv_iconst (v := 0) hx hb dX10_isNumber_1 (by decide) ?_
  refine lv_bipush (v := 99) hx hb dX10_isNumber_2 (by decide) ?_
  obtain ⟨t1, e2, h⟩ := bd h
  refine x_goi (x_rs (rest := []) hC hW (ctYs_in e2) (cwS_g hC.2.2.2.2 ml_X10_103 ms_X10_in md_X10_in ⟨(Nat.le_trans (Nat.le_of_ble_eq_true rfl) hF), (Nat.le_trans (Nat.le_of_ble_eq_true rfl) hL)⟩) rfl hl.1 rfl (Nat.le_of_ble_eq_true rfl) dX10_isNumber_4) hW (fun H locs hW => ?_)
  obtain ⟨g3, h⟩ := gd_some h
  cases h
  exact kr _ _ _ _ g3 dX10_isNumber_7 hW
theorem ctYs_isNumber {S : St} {x0 : Int32}  {v : Int32} (h : fYs_isNumber S x0 = some v) : Met l yX10_isNumber (wm yX10_isNumber cX10_isNumber 1 (some .boolean)) (rmx 1 22) (pcm LY G S [.int x0]) (qcI LY G S v) 0 0 G.2.2.2 :=
  x_enter (own := RX10) rfl rfl (Nat.le_of_ble_eq_true rfl) (fun p e s m below meth c ls hC hr hk hW hl => wYs_isNumber hC (Nat.le_refl _) (Nat.le_refl _)  h (fun H locs ls pc hz hd hW => x_retz hC hr hk hW hz hd) _ _ _ hW hl)
def fY0_heap_L34 (N : Nat) (S : St) (x1 : Int32) : Nat → Int32 → Int32 → Option (Int32)
  | 0, _, _ => none
  | n + 1, x3, x4 =>
    gd (inb x1 6) <|
    if (S.1 2 (Int32.toNatClampNeg x1)) ≤ x4 then
      some x3
    else
      Option.bind (α := Int32) (
        if x3 = 0 then
          some 0
        else
          Option.bind (fY0_rowAt S x1 x4) fun t12 =>
          Option.bind (fYs_isNumber S t12) fun t14 =>
          if t14 = 0 then
            some 0
          else
            some 1
      ) fun t9 =>
      fY0_heap_L34 N S x1 n t9 (x4 + 1)
set_option maxHeartbeats 4000000 in
set_option maxRecDepth 100000 in
theorem wY0_heap_L34 {N : Nat} {S : St} {x1 : Int32} (hC : CallFix p m c cX10_heap 5 s args lw_g RX10) (hF : 3 ≤ R.frames) (hL : 63 ≤ R.locals)  {t : Int32} (kx : ∀ (H : Heap) (locs : List Loc) (ls : Array Slot), wg LY G S s H locs → lv_has ls 5 [(0, .ref (ad G 0)), (1, .int x1), (3, .int t)] → W p l e R s m args below meth c H locs 0 0 Q (F0 m 74 ls [])) : ∀ (n : Nat) (x3 : Int32) (x4 : Int32), fY0_heap_L34 N S x1 n x3 x4 = some t → ∀ (H : Heap) (locs : List Loc) (ls : Array Slot), wg LY G S s H locs → lv_has ls 5 [(0, .ref (ad G 0)), (1, .int x1), (3, .int x3), (4, .int x4)] → W p l e R s m args below meth c H locs 0 0 Q (F0 m 34 ls []) := by
  have hx := hC.1
  have hb := hC.2.1
  intro n
  induction n with
  | zero =>
    intro _ _ h
    cases h
  | succ n ih =>
    intro x3 x4 h H locs ls hW hl
    rw [fY0_heap_L34] at h
    refine lv_iload hx hb dX10_heap_34 (lv_at hl 3 rfl) ?_
    refine lv_aload_n hx hb dX10_heap_36 rfl (lv_at hl 0 rfl) ?_
    refine gY0_5 hC hW dX10_heap_37 ?_
    refine lv_iload_n hx hb dX10_heap_40 rfl (lv_at hl 1 rfl) ?_
    obtain ⟨g6, h⟩ := gd_some h
    refine x_iald hC hW aY2 g6 dX10_heap_41 ?_
    refine lv_icmp_ge (tgt := 74) hx hb dX10_heap_42 (by decide) (fun q7 => ?_) (fun q7 => ?_)
    · have h := it_p q7 h
      cases h
      exact kx _ _ _ hW (lv_sub hl [0, 1, 2] rfl)
    · have h := it_n q7 h
      refine lv_iload_n hx hb dX10_heap_45 rfl (lv_at hl 2 rfl) ?_
      obtain ⟨t9, e10, h⟩ := bd h
      have K8 : ∀ (H : Heap) (locs : List Loc) (ls : Array Slot), wg LY G S s H locs → lv_has ls 5 [(0, .ref (ad G 0)), (1, .int x1), (4, .int x4)] → W p l e R s m args below meth c H locs 0 0 Q (F0 m 67 ls [.int t9]) := by
        intro H locs ls hW hl
        refine lv_istore_n (lv' := [(3, .int t9), (0, .ref (ad G 0)), (1, .int x1), (4, .int x4)]) hx hb dX10_heap_67 rfl hl (by decide) rfl (fun ls hl => ?_)
        refine lv_iinc (v := x4 + 1) (lv' := [(4, .int (x4 + 1)), (3, .int t9), (0, .ref (ad G 0)), (1, .int x1)]) (k := 3) hx hb dX10_heap_68 hl rfl rfl (by decide) rfl (fun ls hl => ?_)
        refine lv_goto (tgt := 34) hx hb dX10_heap_71 (by decide) ?_
        exact ih _ _ h _ _ _ hW (lv_sub hl [2, 3, 1, 0] rfl)
      clear h
      have h := e10
      clear e10
      refine lv_if_eq (tgt := 66) hx hb dX10_heap_46 (by decide) (fun q11 => ?_) (fun q11 => ?_)
      · have h := it_p q11 h
        refine lv_iconst (v := 0) hx hb dX10_heap_66 (by decide) ?_
        cases h
        exact K8 _ _ _ hW (lv_sub hl [0, 1, 3] rfl)
      · have h := it_n q11 h
        refine lv_aload_n hx hb dX10_heap_49 rfl (lv_at hl 0 rfl) ?_
        refine lv_iload_n hx hb dX10_heap_50 rfl (lv_at hl 1 rfl) ?_
        refine lv_iload hx hb dX10_heap_51 (lv_at hl 3 rfl) ?_
        obtain ⟨t12, e13, h⟩ := bd h
        refine x_goi (x_rv (rest := []) hC hW (ctY0_rowAt e13) (cwV_g hC.2.2.2.2 ml_X10_121 mi_X10_rowAt md_X10_rowAt ⟨(Nat.le_trans (Nat.le_of_ble_eq_true rfl) hF), (Nat.le_trans (Nat.le_of_ble_eq_true rfl) hL)⟩) (rcY0 hW) rfl hl.1 rfl (Nat.le_of_ble_eq_true rfl) dX10_heap_53) hW (fun H locs hW => ?_)
        obtain ⟨t14, e15, h⟩ := bd h
        refine x_goi (x_rs (rest := []) hC hW (ctYs_isNumber e15) (cwS_g hC.2.2.2.2 ml_X10_175 ms_X10_isNumber md_X10_isNumber ⟨(Nat.le_trans (Nat.le_of_ble_eq_true rfl) hF), (Nat.le_trans (Nat.le_of_ble_eq_true rfl) hL)⟩) rfl hl.1 rfl (Nat.le_of_ble_eq_true rfl) dX10_heap_56) hW (fun H locs hW => ?_)
        refine lv_if_eq (tgt := 66) hx hb dX10_heap_59 (by decide) (fun q16 => ?_) (fun q16 => ?_)
        · have h := it_p q16 h
          refine lv_iconst (v := 0) hx hb dX10_heap_66 (by decide) ?_
          cases h
          exact K8 _ _ _ hW (lv_sub hl [0, 1, 3] rfl)
        · have h := it_n q16 h
          refine lv_iconst (v := 1) hx hb dX10_heap_62 (by decide) ?_
          refine lv_goto (tgt := 67) hx hb dX10_heap_63 (by decide) ?_
          cases h
          exact K8 _ _ _ hW (lv_sub hl [0, 1, 3] rfl)
def fY0_heap_L97 (N : Nat) (x1 : Int32) : Nat → St → Int32 → Option (St)
  | 0, _, _ => none
  | n + 1, S, x4 =>
    if (S.1 0 22) ≤ x4 then
      some S
    else
      Option.bind (fY0_rowAt S x1 x4) fun t24 =>
      gd (inb x4 12) <|
      nx (p1 S 16 (Int32.toNatClampNeg x4) t24) fun s27 =>
      fY0_heap_L97 N x1 n s27 (x4 + 1)
set_option maxHeartbeats 4000000 in
set_option maxRecDepth 100000 in
theorem wY0_heap_L97 {N : Nat} {x1 : Int32} (hC : CallFix p m c cX10_heap 5 s args lw_g RX10) (hF : 3 ≤ R.frames) (hL : 63 ≤ R.locals)  {t : St} (kx : ∀ (H : Heap) (locs : List Loc) (ls : Array Slot), wg LY G t s H locs → lv_has ls 5 [(0, .ref (ad G 0))] → W p l e R s m args below meth c H locs 0 0 Q (F0 m 126 ls [])) : ∀ (n : Nat) (S : St) (x4 : Int32), fY0_heap_L97 N x1 n S x4 = some t → ∀ (H : Heap) (locs : List Loc) (ls : Array Slot), wg LY G S s H locs → lv_has ls 5 [(0, .ref (ad G 0)), (1, .int x1), (4, .int x4)] → W p l e R s m args below meth c H locs 0 0 Q (F0 m 97 ls []) := by
  have hx := hC.1
  have hb := hC.2.1
  intro n
  induction n with
  | zero =>
    intro _ _ h
    cases h
  | succ n ih =>
    intro S x4 h H locs ls hW hl
    rw [fY0_heap_L97] at h
    refine lv_iload hx hb dX10_heap_97 (lv_at hl 2 rfl) ?_
    refine lv_aload_n hx hb dX10_heap_99 rfl (lv_at hl 0 rfl) ?_
    refine gY0_22 hC hW dX10_heap_100 ?_
    refine lv_icmp_ge (tgt := 126) hx hb dX10_heap_103 (by decide) (fun q23 => ?_) (fun q23 => ?_)
    · have h := it_p q23 h
      cases h
      exact kx _ _ _ hW (lv_sub hl [0] rfl)
    · have h := it_n q23 h
      refine lv_aload_n hx hb dX10_heap_106 rfl (lv_at hl 0 rfl) ?_
      refine gY0_23 hC hW dX10_heap_107 ?_
      refine lv_iload hx hb dX10_heap_110 (lv_at hl 2 rfl) ?_
      refine lv_aload_n hx hb dX10_heap_112 rfl (lv_at hl 0 rfl) ?_
      refine lv_iload_n hx hb dX10_heap_113 rfl (lv_at hl 1 rfl) ?_
      refine lv_iload hx hb dX10_heap_114 (lv_at hl 2 rfl) ?_
      obtain ⟨t24, e25, h⟩ := bd h
      refine x_goi (x_rv (rest := [.int x4, .ref (ad G 16)]) hC hW (ctY0_rowAt e25) (cwV_g hC.2.2.2.2 ml_X10_121 mi_X10_rowAt md_X10_rowAt ⟨(Nat.le_trans (Nat.le_of_ble_eq_true rfl) hF), (Nat.le_trans (Nat.le_of_ble_eq_true rfl) hL)⟩) (rcY0 hW) rfl hl.1 rfl (Nat.le_of_ble_eq_true rfl) dX10_heap_116) hW (fun H locs hW => ?_)
      obtain ⟨g26, h⟩ := gd_some h
      refine x_iast hC hW aY16 g26 dX10_heap_119 (fun H locs hW => ?_)
      obtain ⟨s27, e28, h⟩ := nx_some h
      rw [← e28] at hW
      refine lv_iinc (v := x4 + 1) (lv' := [(4, .int (x4 + 1)), (0, .ref (ad G 0)), (1, .int x1)]) (k := 2) hx hb dX10_heap_120 hl rfl rfl (by decide) rfl (fun ls hl => ?_)
      refine lv_goto (tgt := 97) hx hb dX10_heap_123 (by decide) ?_
      exact ih _ _ h _ _ _ hW (lv_sub hl [1, 2, 0] rfl)
def fY0_heap (N : Nat) (S : St) (x1 : Int32) : Option (Int32 × St) :=
  Option.bind (fY0_askedRow S x1) fun t1 =>
  if 0 ≤ t1.1 then
    gd (inb x1 6) <|
    if (t1.2.1 2 (Int32.toNatClampNeg x1)) ≤ 12 then
      Option.bind (fY0_heap_L34 N t1.2 x1 N 1 0) fun t17 =>
      if t17 = 0 then
        Option.bind (fY0_meets t1.2 3) fun t31 =>
        some (t31.1, t31.2)
      else
        gd (inb x1 6) <|
        nx (p1 t1.2 0 22 (t1.2.1 2 (Int32.toNatClampNeg x1))) fun s21 =>
        Option.bind (fY0_heap_L97 N x1 N s21 0) fun t29 =>
        some (t29.1 0 22, t29)
    else
      Option.bind (fY0_meets t1.2 5) fun t33 =>
      some (t33.1, t33.2)
  else
    some (t1.1, t1.2)
set_option maxHeartbeats 4000000 in
set_option maxRecDepth 100000 in
theorem wY0_heap {N : Nat} {S : St} {x1 : Int32} (hC : CallFix p m c cX10_heap 5 s args lw_g RX10) (hF : 3 ≤ R.frames) (hL : 63 ≤ R.locals)  {v : Int32} {S' : St} (h : fY0_heap N S x1 = some (v, S')) (kr : ∀ (H : Heap) (locs : List Loc) (ls : Array Slot) (pc : Nat), decode cX10_heap pc = .ok (.ireturn, 1) → wg LY G (S') s H locs → W p l e R s m args below meth c H locs 0 0 Q (F0 m pc ls [.int v])) : ∀ (H : Heap) (locs : List Loc) (ls : Array Slot), wg LY G S s H locs → lv_has ls 5 [(0, .ref (ad G 0)), (1, .int x1)] → W p l e R s m args below meth c H locs 0 0 Q (F0 m 0 ls []) := by
  have hx := hC.1
  have hb := hC.2.1
  intro H locs ls hW hl
  unfold fY0_heap at h
  refine lv_aload_n hx hb dX10_heap_0 rfl (lv_at hl 0 rfl) ?_
  refine lv_iload_n hx hb dX10_heap_1 rfl (lv_at hl 1 rfl) ?_
  obtain ⟨t1, e2, h⟩ := bd h
  refine x_goi (x_rv (rest := []) hC hW (ctY0_askedRow e2) (cwV_g hC.2.2.2.2 ml_X10_118 mi_X10_askedRow md_X10_askedRow ⟨(Nat.le_trans (Nat.le_of_ble_eq_true rfl) hF), (Nat.le_trans (Nat.le_of_ble_eq_true rfl) hL)⟩) (rcY0 hW) rfl hl.1 rfl (Nat.le_of_ble_eq_true rfl) dX10_heap_2) hW (fun H locs hW => ?_)
  refine lv_istore_n (lv' := [(2, .int t1.1), (0, .ref (ad G 0)), (1, .int x1)]) hx hb dX10_heap_5 rfl hl (by decide) rfl (fun ls hl => ?_)
  refine lv_iload_n hx hb dX10_heap_6 rfl (lv_at hl 0 rfl) ?_
  refine lv_if_ge (tgt := 12) hx hb dX10_heap_7 (by decide) (fun q3 => ?_) (fun q3 => ?_)
  · have h := it_p q3 h
    refine lv_aload_n hx hb dX10_heap_12 rfl (lv_at hl 1 rfl) ?_
    refine gY0_5 hC hW dX10_heap_13 ?_
    refine lv_iload_n hx hb dX10_heap_16 rfl (lv_at hl 2 rfl) ?_
    obtain ⟨g4, h⟩ := gd_some h
    refine x_iald hC hW aY2 g4 dX10_heap_17 ?_
    refine lv_bipush (v := 12) hx hb dX10_heap_18 (by decide) ?_
    refine lv_icmp_le (tgt := 29) hx hb dX10_heap_20 (by decide) (fun q5 => ?_) (fun q5 => ?_)
    · have h := it_p q5 h
      refine lv_iconst (v := 1) hx hb dX10_heap_29 (by decide) ?_
      refine lv_istore_n (lv' := [(3, .int 1), (2, .int t1.1), (0, .ref (ad G 0)), (1, .int x1)]) hx hb dX10_heap_30 rfl hl (by decide) rfl (fun ls hl => ?_)
      refine lv_iconst (v := 0) hx hb dX10_heap_31 (by decide) ?_
      refine lv_istore (lv' := [(4, .int 0), (3, .int 1), (2, .int t1.1), (0, .ref (ad G 0)), (1, .int x1)]) hx hb dX10_heap_32 hl (by decide) rfl (fun ls hl => ?_)
      obtain ⟨t17, e18, h⟩ := bd h
      refine wY0_heap_L34 hC hF hL  (fun H locs ls hW hl => ?_) _ _ _ e18 _ _ _ hW (lv_sub hl [3, 4, 1, 0] rfl)
      refine lv_iload_n hx hb dX10_heap_74 rfl (lv_at hl 2 rfl) ?_
      refine lv_if_ne (tgt := 84) hx hb dX10_heap_75 (by decide) (fun q19 => ?_) (fun q19 => ?_)
      · have h := it_n q19 h
        refine lv_aload_n hx hb dX10_heap_84 rfl (lv_at hl 0 rfl) ?_
        refine lv_aload_n hx hb dX10_heap_85 rfl (lv_at hl 0 rfl) ?_
        refine gY0_5 hC hW dX10_heap_86 ?_
        refine lv_iload_n hx hb dX10_heap_89 rfl (lv_at hl 1 rfl) ?_
        obtain ⟨g20, h⟩ := gd_some h
        refine x_iald hC hW aY2 g20 dX10_heap_90 ?_
        refine pY0_22 hC hW dX10_heap_91 (fun H locs hW => ?_)
        obtain ⟨s21, e22, h⟩ := nx_some h
        rw [← e22] at hW
        refine lv_iconst (v := 0) hx hb dX10_heap_94 (by decide) ?_
        refine lv_istore (lv' := [(4, .int 0), (0, .ref (ad G 0)), (1, .int x1), (3, .int t17)]) hx hb dX10_heap_95 hl (by decide) rfl (fun ls hl => ?_)
        obtain ⟨t29, e30, h⟩ := bd h
        refine wY0_heap_L97 hC hF hL  (fun H locs ls hW hl => ?_) _ _ _ e30 _ _ _ hW (lv_sub hl [1, 2, 0] rfl)
        refine lv_aload_n hx hb dX10_heap_126 rfl (lv_at hl 0 rfl) ?_
        refine gY0_22 hC hW dX10_heap_127 ?_
        cases h
        exact kr _ _ _ _ dX10_heap_130 hW
      · have h := it_p q19 h
        refine lv_aload_n hx hb dX10_heap_78 rfl (lv_at hl 0 rfl) ?_
        refine lv_iconst (v := 3) hx hb dX10_heap_79 (by decide) ?_
        obtain ⟨t31, e32, h⟩ := bd h
        refine x_goi (x_rv (rest := []) hC hW (ctY0_meets e32) (cwV_g hC.2.2.2.2 ml_X10_111 mi_X10_meets md_X10_meets ⟨(Nat.le_trans (Nat.le_of_ble_eq_true rfl) hF), (Nat.le_trans (Nat.le_of_ble_eq_true rfl) hL)⟩) (rcY0 hW) rfl hl.1 rfl (Nat.le_of_ble_eq_true rfl) dX10_heap_80) hW (fun H locs hW => ?_)
        cases h
        exact kr _ _ _ _ dX10_heap_83 hW
    · have h := it_n q5 h
      refine lv_aload_n hx hb dX10_heap_23 rfl (lv_at hl 1 rfl) ?_
      refine lv_iconst (v := 5) hx hb dX10_heap_24 (by decide) ?_
      obtain ⟨t33, e34, h⟩ := bd h
      refine x_goi (x_rv (rest := []) hC hW (ctY0_meets e34) (cwV_g hC.2.2.2.2 ml_X10_111 mi_X10_meets md_X10_meets ⟨(Nat.le_trans (Nat.le_of_ble_eq_true rfl) hF), (Nat.le_trans (Nat.le_of_ble_eq_true rfl) hL)⟩) (rcY0 hW) rfl hl.1 rfl (Nat.le_of_ble_eq_true rfl) dX10_heap_25) hW (fun H locs hW => ?_)
      cases h
      exact kr _ _ _ _ dX10_heap_28 hW
  · have h := it_n q3 h
    refine lv_iload_n hx hb dX10_heap_10 rfl (lv_at hl 0 rfl) ?_
    cases h
    exact kr _ _ _ _ dX10_heap_11 hW
theorem ctY0_heap {N : Nat} {S : St} {x1 : Int32}  {v : Int32} {S' : St} (h : fY0_heap N S x1 = some (v, S')) : Met l yX10_heap (wm yX10_heap cX10_heap 5 (some .int)) (rmx 3 63) (pcm LY G S [.ref (ad G 0), .int x1]) (qcI LY G S' v) 0 0 G.2.2.2 :=
  x_enter (own := RX10) rfl rfl (Nat.le_of_ble_eq_true rfl) (fun p e s m below meth c ls hC hr hk hW hl => wY0_heap hC (Nat.le_refl _) (Nat.le_refl _)  h (fun H locs ls pc hd hW => x_reti hC hr hk hW hd) _ _ _ hW hl)
def fYs_isCell (S : St) (x0 : Int32) : Option (Int32) :=
  Option.bind (fYs_in S x0 0 11) fun t1 =>
  gd (isb t1) <|
  some t1
set_option maxHeartbeats 4000000 in
set_option maxRecDepth 100000 in
theorem wYs_isCell {S : St} {x0 : Int32} (hC : CallFix p m c cX10_isCell 1 s args lw_g RX10) (hF : 1 ≤ R.frames) (hL : 22 ≤ R.locals)  {v : Int32} (h : fYs_isCell S x0 = some v) (kr : ∀ (H : Heap) (locs : List Loc) (ls : Array Slot) (pc : Nat), isb v = true → decode cX10_isCell pc = .ok (.ireturn, 1) → wg LY G S s H locs → W p l e R s m args below meth c H locs 0 0 Q (F0 m pc ls [.int v])) : ∀ (H : Heap) (locs : List Loc) (ls : Array Slot), wg LY G S s H locs → lv_has ls 1 [(0, .int x0)] → W p l e R s m args below meth c H locs 0 0 Q (F0 m 0 ls []) := by
  have hx := hC.1
  have hb := hC.2.1
  intro H locs ls hW hl
  unfold fYs_isCell at h
  refine lv_iload_n hx hb dX10_isCell_0 rfl (lv_at hl 0 rfl) ?_
  refine lv_iconst (v := 0) hx hb dX10_isCell_1 (by decide) ?_
  refine lv_bipush (v := 11) hx hb dX10_isCell_2 (by decide) ?_
  obtain ⟨t1, e2, h⟩ := bd h
  refine x_goi (x_rs (rest := []) hC hW (ctYs_in e2) (cwS_g hC.2.2.2.2 ml_X10_103 ms_X10_in md_X10_in ⟨(Nat.le_trans (Nat.le_of_ble_eq_true rfl) hF), (Nat.le_trans (Nat.le_of_ble_eq_true rfl) hL)⟩) rfl hl.1 rfl (Nat.le_of_ble_eq_true rfl) dX10_isCell_4) hW (fun H locs hW => ?_)
  obtain ⟨g3, h⟩ := gd_some h
  cases h
  exact kr _ _ _ _ g3 dX10_isCell_7 hW
theorem ctYs_isCell {S : St} {x0 : Int32}  {v : Int32} (h : fYs_isCell S x0 = some v) : Met l yX10_isCell (wm yX10_isCell cX10_isCell 1 (some .boolean)) (rmx 1 22) (pcm LY G S [.int x0]) (qcI LY G S v) 0 0 G.2.2.2 :=
  x_enter (own := RX10) rfl rfl (Nat.le_of_ble_eq_true rfl) (fun p e s m below meth c ls hC hr hk hW hl => wYs_isCell hC (Nat.le_refl _) (Nat.le_refl _)  h (fun H locs ls pc hz hd hW => x_retz hC hr hk hW hz hd) _ _ _ hW hl)
def fY0_askedCell (S : St) (x1 : Int32) : Option (Int32 × St) :=
  Option.bind (fYs_isCell S x1) fun t1 =>
  Option.bind (α := St × Int32) (
    if t1 = 0 then
      some (S, (-1))
    else
      gd (inb x1 12) <|
      if 0 ≤ (S.1 10 (Int32.toNatClampNeg x1)) then
        some (S, 0)
      else
        Option.bind (fY0_meets S 1) fun t9 =>
        some (t9.2, t9.1)
  ) fun t4 =>
  some (t4.2, t4.1)
set_option maxHeartbeats 4000000 in
set_option maxRecDepth 100000 in
theorem wY0_askedCell {S : St} {x1 : Int32} (hC : CallFix p m c cX10_askedCell 2 s args lw_g RX10) (hF : 2 ≤ R.frames) (hL : 42 ≤ R.locals)  {v : Int32} {S' : St} (h : fY0_askedCell S x1 = some (v, S')) (kr : ∀ (H : Heap) (locs : List Loc) (ls : Array Slot) (pc : Nat), decode cX10_askedCell pc = .ok (.ireturn, 1) → wg LY G (S') s H locs → W p l e R s m args below meth c H locs 0 0 Q (F0 m pc ls [.int v])) : ∀ (H : Heap) (locs : List Loc) (ls : Array Slot), wg LY G S s H locs → lv_has ls 2 [(0, .ref (ad G 0)), (1, .int x1)] → W p l e R s m args below meth c H locs 0 0 Q (F0 m 0 ls []) := by
  have hx := hC.1
  have hb := hC.2.1
  intro H locs ls hW hl
  unfold fY0_askedCell at h
  refine lv_iload_n hx hb dX10_askedCell_0 rfl (lv_at hl 1 rfl) ?_
  obtain ⟨t1, e2, h⟩ := bd h
  refine x_goi (x_rs (rest := []) hC hW (ctYs_isCell e2) (cwS_g hC.2.2.2.2 ml_X10_181 ms_X10_isCell md_X10_isCell ⟨(Nat.le_trans (Nat.le_of_ble_eq_true rfl) hF), (Nat.le_trans (Nat.le_of_ble_eq_true rfl) hL)⟩) rfl hl.1 rfl (Nat.le_of_ble_eq_true rfl) dX10_askedCell_1) hW (fun H locs hW => ?_)
  obtain ⟨t4, e5, h⟩ := bd h
  have K3 : ∀ (H : Heap) (locs : List Loc) (ls : Array Slot), wg LY G t4.1 s H locs → lv_has ls 2 [] → W p l e R s m args below meth c H locs 0 0 Q (F0 m 29 ls [.int t4.2]) := by
    intro H locs ls hW hl
    cases h
    exact kr _ _ _ _ dX10_askedCell_29 hW
  clear h
  have h := e5
  clear e5
  refine lv_if_ne (tgt := 11) hx hb dX10_askedCell_4 (by decide) (fun q6 => ?_) (fun q6 => ?_)
  · have h := it_n q6 h
    refine lv_aload_n hx hb dX10_askedCell_11 rfl (lv_at hl 0 rfl) ?_
    refine gY0_15 hC hW dX10_askedCell_12 ?_
    refine lv_iload_n hx hb dX10_askedCell_15 rfl (lv_at hl 1 rfl) ?_
    obtain ⟨g7, h⟩ := gd_some h
    refine x_iald hC hW aY10 g7 dX10_askedCell_16 ?_
    refine lv_if_ge (tgt := 28) hx hb dX10_askedCell_17 (by decide) (fun q8 => ?_) (fun q8 => ?_)
    · have h := it_p q8 h
      refine lv_iconst (v := 0) hx hb dX10_askedCell_28 (by decide) ?_
      cases h
      exact K3 _ _ _ hW (lv_sub hl [] rfl)
    · have h := it_n q8 h
      refine lv_aload_n hx hb dX10_askedCell_20 rfl (lv_at hl 0 rfl) ?_
      refine lv_iconst (v := 1) hx hb dX10_askedCell_21 (by decide) ?_
      obtain ⟨t9, e10, h⟩ := bd h
      refine x_goi (x_rv (rest := []) hC hW (ctY0_meets e10) (cwV_g hC.2.2.2.2 ml_X10_111 mi_X10_meets md_X10_meets ⟨(Nat.le_trans (Nat.le_of_ble_eq_true rfl) hF), (Nat.le_trans (Nat.le_of_ble_eq_true rfl) hL)⟩) (rcY0 hW) rfl hl.1 rfl (Nat.le_of_ble_eq_true rfl) dX10_askedCell_22) hW (fun H locs hW => ?_)
      refine lv_goto (tgt := 29) hx hb dX10_askedCell_25 (by decide) ?_
      cases h
      exact K3 _ _ _ hW (lv_sub hl [] rfl)
  · have h := it_p q6 h
    refine lv_iconst (v := (-1)) hx hb dX10_askedCell_7 (by decide) ?_
    refine lv_goto (tgt := 29) hx hb dX10_askedCell_8 (by decide) ?_
    cases h
    exact K3 _ _ _ hW (lv_sub hl [] rfl)
theorem ctY0_askedCell {S : St} {x1 : Int32}  {v : Int32} {S' : St} (h : fY0_askedCell S x1 = some (v, S')) : Met l yX10_askedCell (wm yX10_askedCell cX10_askedCell 2 (some .int)) (rmx 2 42) (pcm LY G S [.ref (ad G 0), .int x1]) (qcI LY G S' v) 0 0 G.2.2.2 :=
  x_enter (own := RX10) rfl rfl (Nat.le_of_ble_eq_true rfl) (fun p e s m below meth c ls hC hr hk hW hl => wY0_askedCell hC (Nat.le_refl _) (Nat.le_refl _)  h (fun H locs ls pc hd hW => x_reti hC hr hk hW hd) _ _ _ hW hl)
def fY0_read (S : St) (x1 : Int32) (x2 : Int32) : Option (Int32 × St) :=
  Option.bind (fYs_isNumber S x2) fun t1 =>
  if t1 = 0 then
    some ((-1), S)
  else
    Option.bind (fY0_askedCell S x1) fun t4 =>
    if 0 ≤ t4.1 then
      gd (inb x1 12) <|
      nx (t4.2.1 10 (Int32.toNatClampNeg x1)) fun y8 =>
      gd (inb x1 12) <|
      nx (p1 t4.2 10 (Int32.toNatClampNeg x1) 0) fun s11 =>
      gd (inb x1 12) <|
      nx (p1 s11 11 (Int32.toNatClampNeg x1) x2) fun s14 =>
      gd (inb x1 12) <|
      nx (p1 s14 12 (Int32.toNatClampNeg x1) x2) fun s17 =>
      some (y8, s17)
    else
      some (t4.1, t4.2)
set_option maxHeartbeats 4000000 in
set_option maxRecDepth 100000 in
theorem wY0_read {S : St} {x1 : Int32} {x2 : Int32} (hC : CallFix p m c cX10_read 5 s args lw_g RX10) (hF : 3 ≤ R.frames) (hL : 63 ≤ R.locals)  {v : Int32} {S' : St} (h : fY0_read S x1 x2 = some (v, S')) (kr : ∀ (H : Heap) (locs : List Loc) (ls : Array Slot) (pc : Nat), decode cX10_read pc = .ok (.ireturn, 1) → wg LY G (S') s H locs → W p l e R s m args below meth c H locs 0 0 Q (F0 m pc ls [.int v])) : ∀ (H : Heap) (locs : List Loc) (ls : Array Slot), wg LY G S s H locs → lv_has ls 5 [(0, .ref (ad G 0)), (1, .int x1), (2, .int x2)] → W p l e R s m args below meth c H locs 0 0 Q (F0 m 0 ls []) := by
  have hx := hC.1
  have hb := hC.2.1
  intro H locs ls hW hl
  unfold fY0_read at h
  refine lv_iload_n hx hb dX10_read_0 rfl (lv_at hl 2 rfl) ?_
  obtain ⟨t1, e2, h⟩ := bd h
  refine x_goi (x_rs (rest := []) hC hW (ctYs_isNumber e2) (cwS_g hC.2.2.2.2 ml_X10_175 ms_X10_isNumber md_X10_isNumber ⟨(Nat.le_trans (Nat.le_of_ble_eq_true rfl) hF), (Nat.le_trans (Nat.le_of_ble_eq_true rfl) hL)⟩) rfl hl.1 rfl (Nat.le_of_ble_eq_true rfl) dX10_read_1) hW (fun H locs hW => ?_)
  refine lv_if_ne (tgt := 9) hx hb dX10_read_4 (by decide) (fun q3 => ?_) (fun q3 => ?_)
  · have h := it_n q3 h
    refine lv_aload_n hx hb dX10_read_9 rfl (lv_at hl 0 rfl) ?_
    refine lv_iload_n hx hb dX10_read_10 rfl (lv_at hl 1 rfl) ?_
    obtain ⟨t4, e5, h⟩ := bd h
    refine x_goi (x_rv (rest := []) hC hW (ctY0_askedCell e5) (cwV_g hC.2.2.2.2 ml_X10_184 mi_X10_askedCell md_X10_askedCell ⟨(Nat.le_trans (Nat.le_of_ble_eq_true rfl) hF), (Nat.le_trans (Nat.le_of_ble_eq_true rfl) hL)⟩) (rcY0 hW) rfl hl.1 rfl (Nat.le_of_ble_eq_true rfl) dX10_read_11) hW (fun H locs hW => ?_)
    refine lv_istore_n (lv' := [(3, .int t4.1), (0, .ref (ad G 0)), (1, .int x1), (2, .int x2)]) hx hb dX10_read_14 rfl hl (by decide) rfl (fun ls hl => ?_)
    refine lv_iload_n hx hb dX10_read_15 rfl (lv_at hl 0 rfl) ?_
    refine lv_if_ge (tgt := 21) hx hb dX10_read_16 (by decide) (fun q6 => ?_) (fun q6 => ?_)
    · have h := it_p q6 h
      refine lv_aload_n hx hb dX10_read_21 rfl (lv_at hl 1 rfl) ?_
      refine gY0_15 hC hW dX10_read_22 ?_
      refine lv_iload_n hx hb dX10_read_25 rfl (lv_at hl 2 rfl) ?_
      obtain ⟨g7, h⟩ := gd_some h
      refine x_iald hC hW aY10 g7 dX10_read_26 ?_
      obtain ⟨y8, e9, h⟩ := nx_some h
      refine x_topi e9 ?_
      refine lv_istore (lv' := [(4, .int y8), (3, .int t4.1), (0, .ref (ad G 0)), (1, .int x1), (2, .int x2)]) hx hb dX10_read_27 hl (by decide) rfl (fun ls hl => ?_)
      refine lv_aload_n hx hb dX10_read_29 rfl (lv_at hl 2 rfl) ?_
      refine gY0_15 hC hW dX10_read_30 ?_
      refine lv_iload_n hx hb dX10_read_33 rfl (lv_at hl 3 rfl) ?_
      refine lv_iconst (v := 0) hx hb dX10_read_34 (by decide) ?_
      obtain ⟨g10, h⟩ := gd_some h
      refine x_iast hC hW aY10 g10 dX10_read_35 (fun H locs hW => ?_)
      obtain ⟨s11, e12, h⟩ := nx_some h
      rw [← e12] at hW
      refine lv_aload_n hx hb dX10_read_36 rfl (lv_at hl 2 rfl) ?_
      refine gY0_16 hC hW dX10_read_37 ?_
      refine lv_iload_n hx hb dX10_read_40 rfl (lv_at hl 3 rfl) ?_
      refine lv_iload_n hx hb dX10_read_41 rfl (lv_at hl 4 rfl) ?_
      obtain ⟨g13, h⟩ := gd_some h
      refine x_iast hC hW aY11 g13 dX10_read_42 (fun H locs hW => ?_)
      obtain ⟨s14, e15, h⟩ := nx_some h
      rw [← e15] at hW
      refine lv_aload_n hx hb dX10_read_43 rfl (lv_at hl 2 rfl) ?_
      refine gY0_17 hC hW dX10_read_44 ?_
      refine lv_iload_n hx hb dX10_read_47 rfl (lv_at hl 3 rfl) ?_
      refine lv_iload_n hx hb dX10_read_48 rfl (lv_at hl 4 rfl) ?_
      obtain ⟨g16, h⟩ := gd_some h
      refine x_iast hC hW aY12 g16 dX10_read_49 (fun H locs hW => ?_)
      obtain ⟨s17, e18, h⟩ := nx_some h
      rw [← e18] at hW
      refine lv_iload hx hb dX10_read_50 (lv_at hl 0 rfl) ?_
      cases h
      exact kr _ _ _ _ dX10_read_52 hW
    · have h := it_n q6 h
      refine lv_iload_n hx hb dX10_read_19 rfl (lv_at hl 0 rfl) ?_
      cases h
      exact kr _ _ _ _ dX10_read_20 hW
  · have h := it_p q3 h
    refine lv_iconst (v := (-1)) hx hb dX10_read_7 (by decide) ?_
    cases h
    exact kr _ _ _ _ dX10_read_8 hW
theorem ctY0_read {S : St} {x1 : Int32} {x2 : Int32}  {v : Int32} {S' : St} (h : fY0_read S x1 x2 = some (v, S')) : Met l yX10_read (wm yX10_read cX10_read 5 (some .int)) (rmx 3 63) (pcm LY G S [.ref (ad G 0), .int x1, .int x2]) (qcI LY G S' v) 0 0 G.2.2.2 :=
  x_enter (own := RX10) rfl rfl (Nat.le_of_ble_eq_true rfl) (fun p e s m below meth c ls hC hr hk hW hl => wY0_read hC (Nat.le_refl _) (Nat.le_refl _)  h (fun H locs ls pc hd hW => x_reti hC hr hk hW hd) _ _ _ hW hl)
def fY0_kind (S : St) (x1 : Int32) : Option (Int32 × St) :=
  Option.bind (fY0_askedCell S x1) fun t1 =>
  Option.bind (α := Int32) (
    if 0 ≤ t1.1 then
      gd (inb x1 12) <|
      some (t1.2.1 10 (Int32.toNatClampNeg x1))
    else
      some t1.1
  ) fun t4 =>
  some (t4, t1.2)
set_option maxHeartbeats 4000000 in
set_option maxRecDepth 100000 in
theorem wY0_kind {S : St} {x1 : Int32} (hC : CallFix p m c cX10_kind 3 s args lw_g RX10) (hF : 3 ≤ R.frames) (hL : 63 ≤ R.locals)  {v : Int32} {S' : St} (h : fY0_kind S x1 = some (v, S')) (kr : ∀ (H : Heap) (locs : List Loc) (ls : Array Slot) (pc : Nat), decode cX10_kind pc = .ok (.ireturn, 1) → wg LY G (S') s H locs → W p l e R s m args below meth c H locs 0 0 Q (F0 m pc ls [.int v])) : ∀ (H : Heap) (locs : List Loc) (ls : Array Slot), wg LY G S s H locs → lv_has ls 3 [(0, .ref (ad G 0)), (1, .int x1)] → W p l e R s m args below meth c H locs 0 0 Q (F0 m 0 ls []) := by
  have hx := hC.1
  have hb := hC.2.1
  intro H locs ls hW hl
  unfold fY0_kind at h
  refine lv_aload_n hx hb dX10_kind_0 rfl (lv_at hl 0 rfl) ?_
  refine lv_iload_n hx hb dX10_kind_1 rfl (lv_at hl 1 rfl) ?_
  obtain ⟨t1, e2, h⟩ := bd h
  refine x_goi (x_rv (rest := []) hC hW (ctY0_askedCell e2) (cwV_g hC.2.2.2.2 ml_X10_184 mi_X10_askedCell md_X10_askedCell ⟨(Nat.le_trans (Nat.le_of_ble_eq_true rfl) hF), (Nat.le_trans (Nat.le_of_ble_eq_true rfl) hL)⟩) (rcY0 hW) rfl hl.1 rfl (Nat.le_of_ble_eq_true rfl) dX10_kind_2) hW (fun H locs hW => ?_)
  refine lv_istore_n (lv' := [(2, .int t1.1), (0, .ref (ad G 0)), (1, .int x1)]) hx hb dX10_kind_5 rfl hl (by decide) rfl (fun ls hl => ?_)
  refine lv_iload_n hx hb dX10_kind_6 rfl (lv_at hl 0 rfl) ?_
  obtain ⟨t4, e5, h⟩ := bd h
  have K3 : ∀ (H : Heap) (locs : List Loc) (ls : Array Slot), wg LY G t1.2 s H locs → lv_has ls 3 [] → W p l e R s m args below meth c H locs 0 0 Q (F0 m 20 ls [.int t4]) := by
    intro H locs ls hW hl
    cases h
    exact kr _ _ _ _ dX10_kind_20 hW
  clear h
  have h := e5
  clear e5
  refine lv_if_ge (tgt := 14) hx hb dX10_kind_7 (by decide) (fun q6 => ?_) (fun q6 => ?_)
  · have h := it_p q6 h
    refine lv_aload_n hx hb dX10_kind_14 rfl (lv_at hl 1 rfl) ?_
    refine gY0_15 hC hW dX10_kind_15 ?_
    refine lv_iload_n hx hb dX10_kind_18 rfl (lv_at hl 2 rfl) ?_
    obtain ⟨g7, h⟩ := gd_some h
    refine x_iald hC hW aY10 g7 dX10_kind_19 ?_
    cases h
    exact K3 _ _ _ hW (lv_sub hl [] rfl)
  · have h := it_n q6 h
    refine lv_iload_n hx hb dX10_kind_10 rfl (lv_at hl 0 rfl) ?_
    refine lv_goto (tgt := 20) hx hb dX10_kind_11 (by decide) ?_
    cases h
    exact K3 _ _ _ hW (lv_sub hl [] rfl)
theorem ctY0_kind {S : St} {x1 : Int32}  {v : Int32} {S' : St} (h : fY0_kind S x1 = some (v, S')) : Met l yX10_kind (wm yX10_kind cX10_kind 3 (some .int)) (rmx 3 63) (pcm LY G S [.ref (ad G 0), .int x1]) (qcI LY G S' v) 0 0 G.2.2.2 :=
  x_enter (own := RX10) rfl rfl (Nat.le_of_ble_eq_true rfl) (fun p e s m below meth c ls hC hr hk hW hl => wY0_kind hC (Nat.le_refl _) (Nat.le_refl _)  h (fun H locs ls pc hd hW => x_reti hC hr hk hW hd) _ _ _ hW hl)
def fY0_inHeap_L4 (N : Nat) (S : St) (x1 : Int32) : Nat → Int32 → Int32 → Option (Int32)
  | 0, _, _ => none
  | n + 1, x2, x3 =>
    if (S.1 0 22) ≤ x3 then
      some x2
    else
      gd (inb x3 12) <|
      Option.bind (α := Int32) (
        if (S.1 16 (Int32.toNatClampNeg x3)) = x1 then
          some 1
        else
          some 0
      ) fun t4 =>
      fY0_inHeap_L4 N S x1 n (x2 + t4) (x3 + 1)
set_option maxHeartbeats 4000000 in
set_option maxRecDepth 100000 in
theorem wY0_inHeap_L4 {N : Nat} {S : St} {x1 : Int32} (hC : CallFix p m c cX10_inHeap 4 s args lw_g RX10) (hF : 0 ≤ R.frames) (hL : 0 ≤ R.locals)  {t : Int32} (kx : ∀ (H : Heap) (locs : List Loc) (ls : Array Slot), wg LY G S s H locs → lv_has ls 4 [(2, .int t)] → W p l e R s m args below meth c H locs 0 0 Q (F0 m 36 ls [])) : ∀ (n : Nat) (x2 : Int32) (x3 : Int32), fY0_inHeap_L4 N S x1 n x2 x3 = some t → ∀ (H : Heap) (locs : List Loc) (ls : Array Slot), wg LY G S s H locs → lv_has ls 4 [(0, .ref (ad G 0)), (1, .int x1), (2, .int x2), (3, .int x3)] → W p l e R s m args below meth c H locs 0 0 Q (F0 m 4 ls []) := by
  have hx := hC.1
  have hb := hC.2.1
  intro n
  induction n with
  | zero =>
    intro _ _ h
    cases h
  | succ n ih =>
    intro x2 x3 h H locs ls hW hl
    rw [fY0_inHeap_L4] at h
    refine lv_iload_n hx hb dX10_inHeap_4 rfl (lv_at hl 3 rfl) ?_
    refine lv_aload_n hx hb dX10_inHeap_5 rfl (lv_at hl 0 rfl) ?_
    refine gY0_22 hC hW dX10_inHeap_6 ?_
    refine lv_icmp_ge (tgt := 36) hx hb dX10_inHeap_9 (by decide) (fun q1 => ?_) (fun q1 => ?_)
    · have h := it_p q1 h
      cases h
      exact kx _ _ _ hW (lv_sub hl [2] rfl)
    · have h := it_n q1 h
      refine lv_iload_n hx hb dX10_inHeap_12 rfl (lv_at hl 2 rfl) ?_
      refine lv_aload_n hx hb dX10_inHeap_13 rfl (lv_at hl 0 rfl) ?_
      refine gY0_23 hC hW dX10_inHeap_14 ?_
      refine lv_iload_n hx hb dX10_inHeap_17 rfl (lv_at hl 3 rfl) ?_
      obtain ⟨g2, h⟩ := gd_some h
      refine x_iald hC hW aY16 g2 dX10_inHeap_18 ?_
      refine lv_iload_n hx hb dX10_inHeap_19 rfl (lv_at hl 1 rfl) ?_
      obtain ⟨t4, e5, h⟩ := bd h
      have K3 : ∀ (H : Heap) (locs : List Loc) (ls : Array Slot), wg LY G S s H locs → lv_has ls 4 [(0, .ref (ad G 0)), (1, .int x1), (3, .int x3)] → W p l e R s m args below meth c H locs 0 0 Q (F0 m 28 ls [.int t4, .int x2]) := by
        intro H locs ls hW hl
        refine lv_iadd hx hb dX10_inHeap_28 ?_
        refine lv_istore_n (lv' := [(2, .int (x2 + t4)), (0, .ref (ad G 0)), (1, .int x1), (3, .int x3)]) hx hb dX10_inHeap_29 rfl hl (by decide) rfl (fun ls hl => ?_)
        refine lv_iinc (v := x3 + 1) (lv' := [(3, .int (x3 + 1)), (2, .int (x2 + t4)), (0, .ref (ad G 0)), (1, .int x1)]) (k := 3) hx hb dX10_inHeap_30 hl rfl rfl (by decide) rfl (fun ls hl => ?_)
        refine lv_goto (tgt := 4) hx hb dX10_inHeap_33 (by decide) ?_
        exact ih _ _ h _ _ _ hW (lv_sub hl [2, 3, 1, 0] rfl)
      clear h
      have h := e5
      clear e5
      refine lv_icmp_ne (tgt := 27) hx hb dX10_inHeap_20 (by decide) (fun q6 => ?_) (fun q6 => ?_)
      · have h := it_n q6 h
        refine lv_iconst (v := 0) hx hb dX10_inHeap_27 (by decide) ?_
        cases h
        exact K3 _ _ _ hW (lv_sub hl [0, 1, 3] rfl)
      · have h := it_p q6 h
        refine lv_iconst (v := 1) hx hb dX10_inHeap_23 (by decide) ?_
        refine lv_goto (tgt := 28) hx hb dX10_inHeap_24 (by decide) ?_
        cases h
        exact K3 _ _ _ hW (lv_sub hl [0, 1, 3] rfl)
def fY0_inHeap (N : Nat) (S : St) (x1 : Int32) : Option (Int32) :=
  Option.bind (fY0_inHeap_L4 N S x1 N 0 0) fun t7 =>
  some t7
set_option maxHeartbeats 4000000 in
set_option maxRecDepth 100000 in
theorem wY0_inHeap {N : Nat} {S : St} {x1 : Int32} (hC : CallFix p m c cX10_inHeap 4 s args lw_g RX10) (hF : 0 ≤ R.frames) (hL : 0 ≤ R.locals)  {v : Int32} (h : fY0_inHeap N S x1 = some v) (kr : ∀ (H : Heap) (locs : List Loc) (ls : Array Slot) (pc : Nat), decode cX10_inHeap pc = .ok (.ireturn, 1) → wg LY G S s H locs → W p l e R s m args below meth c H locs 0 0 Q (F0 m pc ls [.int v])) : ∀ (H : Heap) (locs : List Loc) (ls : Array Slot), wg LY G S s H locs → lv_has ls 4 [(0, .ref (ad G 0)), (1, .int x1)] → W p l e R s m args below meth c H locs 0 0 Q (F0 m 0 ls []) := by
  have hx := hC.1
  have hb := hC.2.1
  intro H locs ls hW hl
  unfold fY0_inHeap at h
  refine lv_iconst (v := 0) hx hb dX10_inHeap_0 (by decide) ?_
  refine lv_istore_n (lv' := [(2, .int 0), (0, .ref (ad G 0)), (1, .int x1)]) hx hb dX10_inHeap_1 rfl hl (by decide) rfl (fun ls hl => ?_)
  refine lv_iconst (v := 0) hx hb dX10_inHeap_2 (by decide) ?_
  refine lv_istore_n (lv' := [(3, .int 0), (2, .int 0), (0, .ref (ad G 0)), (1, .int x1)]) hx hb dX10_inHeap_3 rfl hl (by decide) rfl (fun ls hl => ?_)
  obtain ⟨t7, e8, h⟩ := bd h
  refine wY0_inHeap_L4 hC hF hL  (fun H locs ls hW hl => ?_) _ _ _ e8 _ _ _ hW (lv_sub hl [2, 3, 1, 0] rfl)
  refine lv_iload_n hx hb dX10_inHeap_36 rfl (lv_at hl 0 rfl) ?_
  cases h
  exact kr _ _ _ _ dX10_inHeap_37 hW
theorem ctY0_inHeap {N : Nat} {S : St} {x1 : Int32}  {v : Int32} (h : fY0_inHeap N S x1 = some v) : Met l yX10_inHeap (wm yX10_inHeap cX10_inHeap 4 (some .int)) (rmx 0 0) (pcm LY G S [.ref (ad G 0), .int x1]) (qcI LY G S v) 0 0 G.2.2.2 :=
  x_enter (own := RX10) rfl rfl (Nat.le_of_ble_eq_true rfl) (fun p e s m below meth c ls hC hr hk hW hl => wY0_inHeap hC (Nat.le_refl _) (Nat.le_refl _)  h (fun H locs ls pc hd hW => x_reti hC hr hk hW hd) _ _ _ hW hl)
def fY0_isThere (S : St) (x1 : Int32) : Option (Int32) :=
  gd (inb x1 12) <|
  Option.bind (α := Int32) (
    if (S.1 10 (Int32.toNatClampNeg x1)) < 0 then
      some 0
    else
      some 1
  ) fun t3 =>
  gd (isb t3) <|
  some t3
set_option maxHeartbeats 4000000 in
set_option maxRecDepth 100000 in
theorem wY0_isThere {S : St} {x1 : Int32} (hC : CallFix p m c cX10_isThere 2 s args lw_g RX10) (hF : 0 ≤ R.frames) (hL : 0 ≤ R.locals)  {v : Int32} (h : fY0_isThere S x1 = some v) (kr : ∀ (H : Heap) (locs : List Loc) (ls : Array Slot) (pc : Nat), isb v = true → decode cX10_isThere pc = .ok (.ireturn, 1) → wg LY G S s H locs → W p l e R s m args below meth c H locs 0 0 Q (F0 m pc ls [.int v])) : ∀ (H : Heap) (locs : List Loc) (ls : Array Slot), wg LY G S s H locs → lv_has ls 2 [(0, .ref (ad G 0)), (1, .int x1)] → W p l e R s m args below meth c H locs 0 0 Q (F0 m 0 ls []) := by
  have hx := hC.1
  have hb := hC.2.1
  intro H locs ls hW hl
  unfold fY0_isThere at h
  refine lv_aload_n hx hb dX10_isThere_0 rfl (lv_at hl 0 rfl) ?_
  refine gY0_15 hC hW dX10_isThere_1 ?_
  refine lv_iload_n hx hb dX10_isThere_4 rfl (lv_at hl 1 rfl) ?_
  obtain ⟨g1, h⟩ := gd_some h
  refine x_iald hC hW aY10 g1 dX10_isThere_5 ?_
  obtain ⟨t3, e4, h⟩ := bd h
  have K2 : ∀ (H : Heap) (locs : List Loc) (ls : Array Slot), wg LY G S s H locs → lv_has ls 2 [] → W p l e R s m args below meth c H locs 0 0 Q (F0 m 14 ls [.int t3]) := by
    intro H locs ls hW hl
    obtain ⟨g6, h⟩ := gd_some h
    cases h
    exact kr _ _ _ _ g6 dX10_isThere_14 hW
  clear h
  have h := e4
  clear e4
  refine lv_if_lt (tgt := 13) hx hb dX10_isThere_6 (by decide) (fun q5 => ?_) (fun q5 => ?_)
  · have h := it_p q5 h
    refine lv_iconst (v := 0) hx hb dX10_isThere_13 (by decide) ?_
    cases h
    exact K2 _ _ _ hW (lv_sub hl [] rfl)
  · have h := it_n q5 h
    refine lv_iconst (v := 1) hx hb dX10_isThere_9 (by decide) ?_
    refine lv_goto (tgt := 14) hx hb dX10_isThere_10 (by decide) ?_
    cases h
    exact K2 _ _ _ hW (lv_sub hl [] rfl)
theorem ctY0_isThere {S : St} {x1 : Int32}  {v : Int32} (h : fY0_isThere S x1 = some v) : Met l yX10_isThere (wm yX10_isThere cX10_isThere 2 (some .boolean)) (rmx 0 0) (pcm LY G S [.ref (ad G 0), .int x1]) (qcI LY G S v) 0 0 G.2.2.2 :=
  x_enter (own := RX10) rfl rfl (Nat.le_of_ble_eq_true rfl) (fun p e s m below meth c ls hC hr hk hW hl => wY0_isThere hC (Nat.le_refl _) (Nat.le_refl _)  h (fun H locs ls pc hz hd hW => x_retz hC hr hk hW hz hd) _ _ _ hW hl)
def fYs_isBy (S : St) (x0 : Int32) (x1 : Int32) : Option (Int32) :=
  Option.bind (α := Int32) (
    if x0 = 63 then
      some 1
    else
      if x0 = (x1 + 48) then
        some 1
      else
        if x0 = 120 then
          if x1 = 3 then
            some 1
          else
            if x1 = 8 then
              some 1
            else
              some 0
        else
          some 0
  ) fun t2 =>
  gd (isb t2) <|
  some t2
set_option maxHeartbeats 4000000 in
set_option maxRecDepth 100000 in
theorem wYs_isBy {S : St} {x0 : Int32} {x1 : Int32} (hC : CallFix p m c cX10_isBy 2 s args lw_g RX10) (hF : 0 ≤ R.frames) (hL : 0 ≤ R.locals)  {v : Int32} (h : fYs_isBy S x0 x1 = some v) (kr : ∀ (H : Heap) (locs : List Loc) (ls : Array Slot) (pc : Nat), isb v = true → decode cX10_isBy pc = .ok (.ireturn, 1) → wg LY G S s H locs → W p l e R s m args below meth c H locs 0 0 Q (F0 m pc ls [.int v])) : ∀ (H : Heap) (locs : List Loc) (ls : Array Slot), wg LY G S s H locs → lv_has ls 2 [(0, .int x0), (1, .int x1)] → W p l e R s m args below meth c H locs 0 0 Q (F0 m 0 ls []) := by
  have hx := hC.1
  have hb := hC.2.1
  intro H locs ls hW hl
  unfold fYs_isBy at h
  refine lv_iload_n hx hb dX10_isBy_0 rfl (lv_at hl 0 rfl) ?_
  refine lv_bipush (v := 63) hx hb dX10_isBy_1 (by decide) ?_
  obtain ⟨t2, e3, h⟩ := bd h
  have K1 : ∀ (H : Heap) (locs : List Loc) (ls : Array Slot), wg LY G S s H locs → lv_has ls 2 [] → W p l e R s m args below meth c H locs 0 0 Q (F0 m 36 ls [.int t2]) := by
    intro H locs ls hW hl
    obtain ⟨g9, h⟩ := gd_some h
    cases h
    exact kr _ _ _ _ g9 dX10_isBy_36 hW
  clear h
  have h := e3
  clear e3
  refine lv_icmp_eq (tgt := 31) hx hb dX10_isBy_3 (by decide) (fun q4 => ?_) (fun q4 => ?_)
  · have h := it_p q4 h
    refine lv_iconst (v := 1) hx hb dX10_isBy_31 (by decide) ?_
    refine lv_goto (tgt := 36) hx hb dX10_isBy_32 (by decide) ?_
    cases h
    exact K1 _ _ _ hW (lv_sub hl [] rfl)
  · have h := it_n q4 h
    refine lv_iload_n hx hb dX10_isBy_6 rfl (lv_at hl 0 rfl) ?_
    refine lv_iload_n hx hb dX10_isBy_7 rfl (lv_at hl 1 rfl) ?_
    refine lv_bipush (v := 48) hx hb dX10_isBy_8 (by decide) ?_
    refine lv_iadd hx hb dX10_isBy_10 ?_
    refine lv_icmp_eq (tgt := 31) hx hb dX10_isBy_11 (by decide) (fun q5 => ?_) (fun q5 => ?_)
    · have h := it_p q5 h
      refine lv_iconst (v := 1) hx hb dX10_isBy_31 (by decide) ?_
      refine lv_goto (tgt := 36) hx hb dX10_isBy_32 (by decide) ?_
      cases h
      exact K1 _ _ _ hW (lv_sub hl [] rfl)
    · have h := it_n q5 h
      refine lv_iload_n hx hb dX10_isBy_14 rfl (lv_at hl 0 rfl) ?_
      refine lv_bipush (v := 120) hx hb dX10_isBy_15 (by decide) ?_
      refine lv_icmp_ne (tgt := 35) hx hb dX10_isBy_17 (by decide) (fun q6 => ?_) (fun q6 => ?_)
      · have h := it_n q6 h
        refine lv_iconst (v := 0) hx hb dX10_isBy_35 (by decide) ?_
        cases h
        exact K1 _ _ _ hW (lv_sub hl [] rfl)
      · have h := it_p q6 h
        refine lv_iload_n hx hb dX10_isBy_20 rfl (lv_at hl 1 rfl) ?_
        refine lv_iconst (v := 3) hx hb dX10_isBy_21 (by decide) ?_
        refine lv_icmp_eq (tgt := 31) hx hb dX10_isBy_22 (by decide) (fun q7 => ?_) (fun q7 => ?_)
        · have h := it_p q7 h
          refine lv_iconst (v := 1) hx hb dX10_isBy_31 (by decide) ?_
          refine lv_goto (tgt := 36) hx hb dX10_isBy_32 (by decide) ?_
          cases h
          exact K1 _ _ _ hW (lv_sub hl [] rfl)
        · have h := it_n q7 h
          refine lv_iload_n hx hb dX10_isBy_25 rfl (lv_at hl 1 rfl) ?_
          refine lv_bipush (v := 8) hx hb dX10_isBy_26 (by decide) ?_
          refine lv_icmp_ne (tgt := 35) hx hb dX10_isBy_28 (by decide) (fun q8 => ?_) (fun q8 => ?_)
          · have h := it_n q8 h
            refine lv_iconst (v := 0) hx hb dX10_isBy_35 (by decide) ?_
            cases h
            exact K1 _ _ _ hW (lv_sub hl [] rfl)
          · have h := it_p q8 h
            refine lv_iconst (v := 1) hx hb dX10_isBy_31 (by decide) ?_
            refine lv_goto (tgt := 36) hx hb dX10_isBy_32 (by decide) ?_
            cases h
            exact K1 _ _ _ hW (lv_sub hl [] rfl)
theorem ctYs_isBy {S : St} {x0 : Int32} {x1 : Int32}  {v : Int32} (h : fYs_isBy S x0 x1 = some v) : Met l yX10_isBy (wm yX10_isBy cX10_isBy 2 (some .boolean)) (rmx 0 0) (pcm LY G S [.int x0, .int x1]) (qcI LY G S v) 0 0 G.2.2.2 :=
  x_enter (own := RX10) rfl rfl (Nat.le_of_ble_eq_true rfl) (fun p e s m below meth c ls hC hr hk hW hl => wYs_isBy hC (Nat.le_refl _) (Nat.le_refl _)  h (fun H locs ls pc hz hd hW => x_retz hC hr hk hW hz hd) _ _ _ hW hl)
def fY0_isFirst (N : Nat) (S : St) (x1 : Int32) (x2 : Int32) : Option (Int32) :=
  gd (inb x1 12) <|
  if (S.1 10 (Int32.toNatClampNeg x1)) = 0 then
    gd (inb x1 12) <|
    gd (inb x1 12) <|
    Option.bind (fYs_in S x2 (S.1 11 (Int32.toNatClampNeg x1)) (S.1 12 (Int32.toNatClampNeg x1))) fun t5 =>
    gd (isb t5) <|
    some t5
  else
  if (S.1 10 (Int32.toNatClampNeg x1)) = 1 then
    gd (inb x1 12) <|
    Option.bind (α := Int32) (
      if 0 ≤ (S.1 11 (Int32.toNatClampNeg x1)) then
        gd (inb x1 12) <|
        Option.bind (fYs_isBy S (S.1 11 (Int32.toNatClampNeg x1)) (x2 / 10)) fun t14 =>
        if t14 = 0 then
          some 0
        else
          gd (inb x1 12) <|
          Option.bind (fYs_isBy S (S.1 12 (Int32.toNatClampNeg x1)) (x2 - x2 / 10 * 10)) fun t18 =>
          if t18 = 0 then
            some 0
          else
            some 1
      else
        if 10 ≤ x2 then
          some 0
        else
          gd (inb x1 12) <|
          Option.bind (fYs_isBy S (S.1 12 (Int32.toNatClampNeg x1)) (x2 - x2 / 10 * 10)) fun t23 =>
          if t23 = 0 then
            some 0
          else
            some 1
    ) fun t10 =>
    gd (isb t10) <|
    some t10
  else
  if (S.1 10 (Int32.toNatClampNeg x1)) = 2 then
    gd (inb x1 12) <|
    Option.bind (fY0_isThere S (S.1 11 (Int32.toNatClampNeg x1))) fun t28 =>
    Option.bind (α := Int32) (
      if t28 = 0 then
        some 0
      else
        gd (inb x1 12) <|
        Option.bind (fY0_isThere S (S.1 12 (Int32.toNatClampNeg x1))) fun t35 =>
        if t35 = 0 then
          some 0
        else
          some 1
    ) fun t31 =>
    gd (isb t31) <|
    some t31
  else
  if (S.1 10 (Int32.toNatClampNeg x1)) = 3 then
    Option.bind (fY0_inHeap N S x2) fun t39 =>
    Option.bind (α := Int32) (
      if t39 ≤ 0 then
        some 0
      else
        some 1
    ) fun t42 =>
    gd (isb t42) <|
    some t42
  else
  if (S.1 10 (Int32.toNatClampNeg x1)) = 4 then
    gd (inb x1 12) <|
    Option.bind (fY0_isThere S (S.1 11 (Int32.toNatClampNeg x1))) fun t47 =>
    gd (isb t47) <|
    some t47
  else
  if (S.1 10 (Int32.toNatClampNeg x1)) = 5 then
    Option.bind (α := Int32) (
      if x2 = 0 then
        some 1
      else
        gd (inb x1 12) <|
        gd (inb x1 12) <|
        Option.bind (fYs_in S x2 (S.1 11 (Int32.toNatClampNeg x1)) (S.1 12 (Int32.toNatClampNeg x1))) fun t56 =>
        if t56 = 0 then
          some 0
        else
          some 1
    ) fun t51 =>
    gd (isb t51) <|
    some t51
  else
  gd (inb x1 12) <|
  Option.bind (fY0_isThere S (S.1 11 (Int32.toNatClampNeg x1))) fun t61 =>
  gd (isb t61) <|
  some t61
set_option maxHeartbeats 4000000 in
set_option maxRecDepth 100000 in
theorem wY0_isFirst {N : Nat} {S : St} {x1 : Int32} {x2 : Int32} (hC : CallFix p m c cX10_isFirst 3 s args lw_g RX10) (hF : 1 ≤ R.frames) (hL : 23 ≤ R.locals)  {v : Int32} (h : fY0_isFirst N S x1 x2 = some v) (kr : ∀ (H : Heap) (locs : List Loc) (ls : Array Slot) (pc : Nat), isb v = true → decode cX10_isFirst pc = .ok (.ireturn, 1) → wg LY G S s H locs → W p l e R s m args below meth c H locs 0 0 Q (F0 m pc ls [.int v])) : ∀ (H : Heap) (locs : List Loc) (ls : Array Slot), wg LY G S s H locs → lv_has ls 3 [(0, .ref (ad G 0)), (1, .int x1), (2, .int x2)] → W p l e R s m args below meth c H locs 0 0 Q (F0 m 0 ls []) := by
  have hx := hC.1
  have hb := hC.2.1
  intro H locs ls hW hl
  unfold fY0_isFirst at h
  refine lv_aload_n hx hb dX10_isFirst_0 rfl (lv_at hl 0 rfl) ?_
  refine gY0_15 hC hW dX10_isFirst_1 ?_
  refine lv_iload_n hx hb dX10_isFirst_4 rfl (lv_at hl 1 rfl) ?_
  obtain ⟨g1, h⟩ := gd_some h
  refine x_iald hC hW aY10 g1 dX10_isFirst_5 ?_
  by_cases q2_0 : (S.1 10 (Int32.toNatClampNeg x1)) = 0
  · have h := it_p q2_0 h
    refine lv_tableIn (off := 38) (tgt := 44) hx hb dX10_isFirst_6 (by rw [q2_0]; decide) (by rw [q2_0]; decide) (by rw [q2_0]; rfl) (by decide) ?_
    refine lv_iload_n hx hb dX10_isFirst_44 rfl (lv_at hl 2 rfl) ?_
    refine lv_aload_n hx hb dX10_isFirst_45 rfl (lv_at hl 0 rfl) ?_
    refine gY0_16 hC hW dX10_isFirst_46 ?_
    refine lv_iload_n hx hb dX10_isFirst_49 rfl (lv_at hl 1 rfl) ?_
    obtain ⟨g3, h⟩ := gd_some h
    refine x_iald hC hW aY11 g3 dX10_isFirst_50 ?_
    refine lv_aload_n hx hb dX10_isFirst_51 rfl (lv_at hl 0 rfl) ?_
    refine gY0_17 hC hW dX10_isFirst_52 ?_
    refine lv_iload_n hx hb dX10_isFirst_55 rfl (lv_at hl 1 rfl) ?_
    obtain ⟨g4, h⟩ := gd_some h
    refine x_iald hC hW aY12 g4 dX10_isFirst_56 ?_
    obtain ⟨t5, e6, h⟩ := bd h
    refine x_goi (x_rs (rest := []) hC hW (ctYs_in e6) (cwS_g hC.2.2.2.2 ml_X10_103 ms_X10_in md_X10_in ⟨(Nat.le_trans (Nat.le_of_ble_eq_true rfl) hF), (Nat.le_trans (Nat.le_of_ble_eq_true rfl) hL)⟩) rfl hl.1 rfl (Nat.le_of_ble_eq_true rfl) dX10_isFirst_57) hW (fun H locs hW => ?_)
    obtain ⟨g7, h⟩ := gd_some h
    cases h
    exact kr _ _ _ _ g7 dX10_isFirst_60 hW
  have h := it_n q2_0 h
  by_cases q2_1 : (S.1 10 (Int32.toNatClampNeg x1)) = 1
  · have h := it_p q2_1 h
    refine lv_tableIn (off := 84) (tgt := 90) hx hb dX10_isFirst_6 (by rw [q2_1]; decide) (by rw [q2_1]; decide) (by rw [q2_1]; rfl) (by decide) ?_
    refine lv_aload_n hx hb dX10_isFirst_90 rfl (lv_at hl 0 rfl) ?_
    refine gY0_16 hC hW dX10_isFirst_91 ?_
    refine lv_iload_n hx hb dX10_isFirst_94 rfl (lv_at hl 1 rfl) ?_
    obtain ⟨g8, h⟩ := gd_some h
    refine x_iald hC hW aY11 g8 dX10_isFirst_95 ?_
    obtain ⟨t10, e11, h⟩ := bd h
    have K9 : ∀ (H : Heap) (locs : List Loc) (ls : Array Slot), wg LY G S s H locs → lv_has ls 3 [] → W p l e R s m args below meth c H locs 0 0 Q (F0 m 145 ls [.int t10]) := by
      intro H locs ls hW hl
      obtain ⟨g26, h⟩ := gd_some h
      cases h
      exact kr _ _ _ _ g26 dX10_isFirst_145 hW
    clear h
    have h := e11
    clear e11
    refine lv_if_ge (tgt := 108) hx hb dX10_isFirst_96 (by decide) (fun q12 => ?_) (fun q12 => ?_)
    · have h := it_p q12 h
      refine lv_aload_n hx hb dX10_isFirst_108 rfl (lv_at hl 0 rfl) ?_
      refine gY0_16 hC hW dX10_isFirst_109 ?_
      refine lv_iload_n hx hb dX10_isFirst_112 rfl (lv_at hl 1 rfl) ?_
      obtain ⟨g13, h⟩ := gd_some h
      refine x_iald hC hW aY11 g13 dX10_isFirst_113 ?_
      refine lv_iload_n hx hb dX10_isFirst_114 rfl (lv_at hl 2 rfl) ?_
      refine lv_bipush (v := 10) hx hb dX10_isFirst_115 (by decide) ?_
      refine lv_idiv hx hb dX10_isFirst_117 (by decide) ?_
      obtain ⟨t14, e15, h⟩ := bd h
      refine x_goi (x_rs (rest := []) hC hW (ctYs_isBy e15) (cwS_g hC.2.2.2.2 ml_X10_187 ms_X10_isBy md_X10_isBy ⟨(Nat.le_trans (Nat.le_of_ble_eq_true rfl) hF), (Nat.le_trans (Nat.le_of_ble_eq_true rfl) hL)⟩) rfl hl.1 rfl (Nat.le_of_ble_eq_true rfl) dX10_isFirst_118) hW (fun H locs hW => ?_)
      refine lv_if_eq (tgt := 144) hx hb dX10_isFirst_121 (by decide) (fun q16 => ?_) (fun q16 => ?_)
      · have h := it_p q16 h
        refine lv_iconst (v := 0) hx hb dX10_isFirst_144 (by decide) ?_
        cases h
        exact K9 _ _ _ hW (lv_sub hl [] rfl)
      · have h := it_n q16 h
        refine lv_aload_n hx hb dX10_isFirst_124 rfl (lv_at hl 0 rfl) ?_
        refine gY0_17 hC hW dX10_isFirst_125 ?_
        refine lv_iload_n hx hb dX10_isFirst_128 rfl (lv_at hl 1 rfl) ?_
        obtain ⟨g17, h⟩ := gd_some h
        refine x_iald hC hW aY12 g17 dX10_isFirst_129 ?_
        refine lv_iload_n hx hb dX10_isFirst_130 rfl (lv_at hl 2 rfl) ?_
        refine lv_bipush (v := 10) hx hb dX10_isFirst_131 (by decide) ?_
        refine lv_irem hx hb dX10_isFirst_133 (by decide) ?_
        obtain ⟨t18, e19, h⟩ := bd h
        refine x_goi (x_rs (rest := []) hC hW (ctYs_isBy e19) (cwS_g hC.2.2.2.2 ml_X10_187 ms_X10_isBy md_X10_isBy ⟨(Nat.le_trans (Nat.le_of_ble_eq_true rfl) hF), (Nat.le_trans (Nat.le_of_ble_eq_true rfl) hL)⟩) rfl hl.1 rfl (Nat.le_of_ble_eq_true rfl) dX10_isFirst_134) hW (fun H locs hW => ?_)
        refine lv_if_eq (tgt := 144) hx hb dX10_isFirst_137 (by decide) (fun q20 => ?_) (fun q20 => ?_)
        · have h := it_p q20 h
          refine lv_iconst (v := 0) hx hb dX10_isFirst_144 (by decide) ?_
          cases h
          exact K9 _ _ _ hW (lv_sub hl [] rfl)
        · have h := it_n q20 h
          refine lv_iconst (v := 1) hx hb dX10_isFirst_140 (by decide) ?_
          refine lv_goto (tgt := 145) hx hb dX10_isFirst_141 (by decide) ?_
          cases h
          exact K9 _ _ _ hW (lv_sub hl [] rfl)
    · have h := it_n q12 h
      refine lv_iload_n hx hb dX10_isFirst_99 rfl (lv_at hl 2 rfl) ?_
      refine lv_bipush (v := 10) hx hb dX10_isFirst_100 (by decide) ?_
      refine lv_icmp_ge (tgt := 144) hx hb dX10_isFirst_102 (by decide) (fun q21 => ?_) (fun q21 => ?_)
      · have h := it_p q21 h
        refine lv_iconst (v := 0) hx hb dX10_isFirst_144 (by decide) ?_
        cases h
        exact K9 _ _ _ hW (lv_sub hl [] rfl)
      · have h := it_n q21 h
        refine lv_goto (tgt := 124) hx hb dX10_isFirst_105 (by decide) ?_
        refine lv_aload_n hx hb dX10_isFirst_124 rfl (lv_at hl 0 rfl) ?_
        refine gY0_17 hC hW dX10_isFirst_125 ?_
        refine lv_iload_n hx hb dX10_isFirst_128 rfl (lv_at hl 1 rfl) ?_
        obtain ⟨g22, h⟩ := gd_some h
        refine x_iald hC hW aY12 g22 dX10_isFirst_129 ?_
        refine lv_iload_n hx hb dX10_isFirst_130 rfl (lv_at hl 2 rfl) ?_
        refine lv_bipush (v := 10) hx hb dX10_isFirst_131 (by decide) ?_
        refine lv_irem hx hb dX10_isFirst_133 (by decide) ?_
        obtain ⟨t23, e24, h⟩ := bd h
        refine x_goi (x_rs (rest := []) hC hW (ctYs_isBy e24) (cwS_g hC.2.2.2.2 ml_X10_187 ms_X10_isBy md_X10_isBy ⟨(Nat.le_trans (Nat.le_of_ble_eq_true rfl) hF), (Nat.le_trans (Nat.le_of_ble_eq_true rfl) hL)⟩) rfl hl.1 rfl (Nat.le_of_ble_eq_true rfl) dX10_isFirst_134) hW (fun H locs hW => ?_)
        refine lv_if_eq (tgt := 144) hx hb dX10_isFirst_137 (by decide) (fun q25 => ?_) (fun q25 => ?_)
        · have h := it_p q25 h
          refine lv_iconst (v := 0) hx hb dX10_isFirst_144 (by decide) ?_
          cases h
          exact K9 _ _ _ hW (lv_sub hl [] rfl)
        · have h := it_n q25 h
          refine lv_iconst (v := 1) hx hb dX10_isFirst_140 (by decide) ?_
          refine lv_goto (tgt := 145) hx hb dX10_isFirst_141 (by decide) ?_
          cases h
          exact K9 _ _ _ hW (lv_sub hl [] rfl)
  have h := it_n q2_1 h
  by_cases q2_2 : (S.1 10 (Int32.toNatClampNeg x1)) = 2
  · have h := it_p q2_2 h
    refine lv_tableIn (off := 154) (tgt := 160) hx hb dX10_isFirst_6 (by rw [q2_2]; decide) (by rw [q2_2]; decide) (by rw [q2_2]; rfl) (by decide) ?_
    refine lv_aload_n hx hb dX10_isFirst_160 rfl (lv_at hl 0 rfl) ?_
    refine lv_aload_n hx hb dX10_isFirst_161 rfl (lv_at hl 0 rfl) ?_
    refine gY0_16 hC hW dX10_isFirst_162 ?_
    refine lv_iload_n hx hb dX10_isFirst_165 rfl (lv_at hl 1 rfl) ?_
    obtain ⟨g27, h⟩ := gd_some h
    refine x_iald hC hW aY11 g27 dX10_isFirst_166 ?_
    obtain ⟨t28, e29, h⟩ := bd h
    refine x_goi (x_rv (rest := []) hC hW (ctY0_isThere e29) (cwV_g hC.2.2.2.2 ml_X10_193 mi_X10_isThere md_X10_isThere ⟨(Nat.le_trans (Nat.le_of_ble_eq_true rfl) hF), (Nat.le_trans (Nat.le_of_ble_eq_true rfl) hL)⟩) (rcY0 hW) rfl hl.1 rfl (Nat.le_of_ble_eq_true rfl) dX10_isFirst_167) hW (fun H locs hW => ?_)
    obtain ⟨t31, e32, h⟩ := bd h
    have K30 : ∀ (H : Heap) (locs : List Loc) (ls : Array Slot), wg LY G S s H locs → lv_has ls 3 [] → W p l e R s m args below meth c H locs 0 0 Q (F0 m 191 ls [.int t31]) := by
      intro H locs ls hW hl
      obtain ⟨g38, h⟩ := gd_some h
      cases h
      exact kr _ _ _ _ g38 dX10_isFirst_191 hW
    clear h
    have h := e32
    clear e32
    refine lv_if_eq (tgt := 190) hx hb dX10_isFirst_170 (by decide) (fun q33 => ?_) (fun q33 => ?_)
    · have h := it_p q33 h
      refine lv_iconst (v := 0) hx hb dX10_isFirst_190 (by decide) ?_
      cases h
      exact K30 _ _ _ hW (lv_sub hl [] rfl)
    · have h := it_n q33 h
      refine lv_aload_n hx hb dX10_isFirst_173 rfl (lv_at hl 0 rfl) ?_
      refine lv_aload_n hx hb dX10_isFirst_174 rfl (lv_at hl 0 rfl) ?_
      refine gY0_17 hC hW dX10_isFirst_175 ?_
      refine lv_iload_n hx hb dX10_isFirst_178 rfl (lv_at hl 1 rfl) ?_
      obtain ⟨g34, h⟩ := gd_some h
      refine x_iald hC hW aY12 g34 dX10_isFirst_179 ?_
      obtain ⟨t35, e36, h⟩ := bd h
      refine x_goi (x_rv (rest := []) hC hW (ctY0_isThere e36) (cwV_g hC.2.2.2.2 ml_X10_193 mi_X10_isThere md_X10_isThere ⟨(Nat.le_trans (Nat.le_of_ble_eq_true rfl) hF), (Nat.le_trans (Nat.le_of_ble_eq_true rfl) hL)⟩) (rcY0 hW) rfl hl.1 rfl (Nat.le_of_ble_eq_true rfl) dX10_isFirst_180) hW (fun H locs hW => ?_)
      refine lv_if_eq (tgt := 190) hx hb dX10_isFirst_183 (by decide) (fun q37 => ?_) (fun q37 => ?_)
      · have h := it_p q37 h
        refine lv_iconst (v := 0) hx hb dX10_isFirst_190 (by decide) ?_
        cases h
        exact K30 _ _ _ hW (lv_sub hl [] rfl)
      · have h := it_n q37 h
        refine lv_iconst (v := 1) hx hb dX10_isFirst_186 (by decide) ?_
        refine lv_goto (tgt := 191) hx hb dX10_isFirst_187 (by decide) ?_
        cases h
        exact K30 _ _ _ hW (lv_sub hl [] rfl)
  have h := it_n q2_2 h
  by_cases q2_3 : (S.1 10 (Int32.toNatClampNeg x1)) = 3
  · have h := it_p q2_3 h
    refine lv_tableIn (off := 140) (tgt := 146) hx hb dX10_isFirst_6 (by rw [q2_3]; decide) (by rw [q2_3]; decide) (by rw [q2_3]; rfl) (by decide) ?_
    refine lv_aload_n hx hb dX10_isFirst_146 rfl (lv_at hl 0 rfl) ?_
    refine lv_iload_n hx hb dX10_isFirst_147 rfl (lv_at hl 2 rfl) ?_
    obtain ⟨t39, e40, h⟩ := bd h
    refine x_goi (x_rv (rest := []) hC hW (ctY0_inHeap e40) (cwV_g hC.2.2.2.2 ml_X10_190 mi_X10_inHeap md_X10_inHeap ⟨(Nat.le_trans (Nat.le_of_ble_eq_true rfl) hF), (Nat.le_trans (Nat.le_of_ble_eq_true rfl) hL)⟩) (rcY0 hW) rfl hl.1 rfl (Nat.le_of_ble_eq_true rfl) dX10_isFirst_148) hW (fun H locs hW => ?_)
    obtain ⟨t42, e43, h⟩ := bd h
    have K41 : ∀ (H : Heap) (locs : List Loc) (ls : Array Slot), wg LY G S s H locs → lv_has ls 3 [] → W p l e R s m args below meth c H locs 0 0 Q (F0 m 159 ls [.int t42]) := by
      intro H locs ls hW hl
      obtain ⟨g45, h⟩ := gd_some h
      cases h
      exact kr _ _ _ _ g45 dX10_isFirst_159 hW
    clear h
    have h := e43
    clear e43
    refine lv_if_le (tgt := 158) hx hb dX10_isFirst_151 (by decide) (fun q44 => ?_) (fun q44 => ?_)
    · have h := it_p q44 h
      refine lv_iconst (v := 0) hx hb dX10_isFirst_158 (by decide) ?_
      cases h
      exact K41 _ _ _ hW (lv_sub hl [] rfl)
    · have h := it_n q44 h
      refine lv_iconst (v := 1) hx hb dX10_isFirst_154 (by decide) ?_
      refine lv_goto (tgt := 159) hx hb dX10_isFirst_155 (by decide) ?_
      cases h
      exact K41 _ _ _ hW (lv_sub hl [] rfl)
  have h := it_n q2_3 h
  by_cases q2_4 : (S.1 10 (Int32.toNatClampNeg x1)) = 4
  · have h := it_p q2_4 h
    refine lv_tableIn (off := 186) (tgt := 192) hx hb dX10_isFirst_6 (by rw [q2_4]; decide) (by rw [q2_4]; decide) (by rw [q2_4]; rfl) (by decide) ?_
    refine lv_aload_n hx hb dX10_isFirst_192 rfl (lv_at hl 0 rfl) ?_
    refine lv_aload_n hx hb dX10_isFirst_193 rfl (lv_at hl 0 rfl) ?_
    refine gY0_16 hC hW dX10_isFirst_194 ?_
    refine lv_iload_n hx hb dX10_isFirst_197 rfl (lv_at hl 1 rfl) ?_
    obtain ⟨g46, h⟩ := gd_some h
    refine x_iald hC hW aY11 g46 dX10_isFirst_198 ?_
    obtain ⟨t47, e48, h⟩ := bd h
    refine x_goi (x_rv (rest := []) hC hW (ctY0_isThere e48) (cwV_g hC.2.2.2.2 ml_X10_193 mi_X10_isThere md_X10_isThere ⟨(Nat.le_trans (Nat.le_of_ble_eq_true rfl) hF), (Nat.le_trans (Nat.le_of_ble_eq_true rfl) hL)⟩) (rcY0 hW) rfl hl.1 rfl (Nat.le_of_ble_eq_true rfl) dX10_isFirst_199) hW (fun H locs hW => ?_)
    obtain ⟨g49, h⟩ := gd_some h
    cases h
    exact kr _ _ _ _ g49 dX10_isFirst_202 hW
  have h := it_n q2_4 h
  by_cases q2_5 : (S.1 10 (Int32.toNatClampNeg x1)) = 5
  · have h := it_p q2_5 h
    refine lv_tableIn (off := 55) (tgt := 61) hx hb dX10_isFirst_6 (by rw [q2_5]; decide) (by rw [q2_5]; decide) (by rw [q2_5]; rfl) (by decide) ?_
    refine lv_iload_n hx hb dX10_isFirst_61 rfl (lv_at hl 2 rfl) ?_
    obtain ⟨t51, e52, h⟩ := bd h
    have K50 : ∀ (H : Heap) (locs : List Loc) (ls : Array Slot), wg LY G S s H locs → lv_has ls 3 [] → W p l e R s m args below meth c H locs 0 0 Q (F0 m 89 ls [.int t51]) := by
      intro H locs ls hW hl
      obtain ⟨g59, h⟩ := gd_some h
      cases h
      exact kr _ _ _ _ g59 dX10_isFirst_89 hW
    clear h
    have h := e52
    clear e52
    refine lv_if_eq (tgt := 84) hx hb dX10_isFirst_62 (by decide) (fun q53 => ?_) (fun q53 => ?_)
    · have h := it_p q53 h
      refine lv_iconst (v := 1) hx hb dX10_isFirst_84 (by decide) ?_
      refine lv_goto (tgt := 89) hx hb dX10_isFirst_85 (by decide) ?_
      cases h
      exact K50 _ _ _ hW (lv_sub hl [] rfl)
    · have h := it_n q53 h
      refine lv_iload_n hx hb dX10_isFirst_65 rfl (lv_at hl 2 rfl) ?_
      refine lv_aload_n hx hb dX10_isFirst_66 rfl (lv_at hl 0 rfl) ?_
      refine gY0_16 hC hW dX10_isFirst_67 ?_
      refine lv_iload_n hx hb dX10_isFirst_70 rfl (lv_at hl 1 rfl) ?_
      obtain ⟨g54, h⟩ := gd_some h
      refine x_iald hC hW aY11 g54 dX10_isFirst_71 ?_
      refine lv_aload_n hx hb dX10_isFirst_72 rfl (lv_at hl 0 rfl) ?_
      refine gY0_17 hC hW dX10_isFirst_73 ?_
      refine lv_iload_n hx hb dX10_isFirst_76 rfl (lv_at hl 1 rfl) ?_
      obtain ⟨g55, h⟩ := gd_some h
      refine x_iald hC hW aY12 g55 dX10_isFirst_77 ?_
      obtain ⟨t56, e57, h⟩ := bd h
      refine x_goi (x_rs (rest := []) hC hW (ctYs_in e57) (cwS_g hC.2.2.2.2 ml_X10_103 ms_X10_in md_X10_in ⟨(Nat.le_trans (Nat.le_of_ble_eq_true rfl) hF), (Nat.le_trans (Nat.le_of_ble_eq_true rfl) hL)⟩) rfl hl.1 rfl (Nat.le_of_ble_eq_true rfl) dX10_isFirst_78) hW (fun H locs hW => ?_)
      refine lv_if_eq (tgt := 88) hx hb dX10_isFirst_81 (by decide) (fun q58 => ?_) (fun q58 => ?_)
      · have h := it_p q58 h
        refine lv_iconst (v := 0) hx hb dX10_isFirst_88 (by decide) ?_
        cases h
        exact K50 _ _ _ hW (lv_sub hl [] rfl)
      · have h := it_n q58 h
        refine lv_iconst (v := 1) hx hb dX10_isFirst_84 (by decide) ?_
        refine lv_goto (tgt := 89) hx hb dX10_isFirst_85 (by decide) ?_
        cases h
        exact K50 _ _ _ hW (lv_sub hl [] rfl)
  have h := it_n q2_5 h
  have q2_0i := lv_neT (a := 0) q2_0 (by decide)
  have q2_1i := lv_neT (a := 1) q2_1 (by decide)
  have q2_2i := lv_neT (a := 2) q2_2 (by decide)
  have q2_3i := lv_neT (a := 3) q2_3 (by decide)
  have q2_4i := lv_neT (a := 4) q2_4 (by decide)
  have q2_5i := lv_neT (a := 5) q2_5 (by decide)
  refine lv_tableOut (tgt := 192) hx hb dX10_isFirst_6 (by omega) (by decide) ?_
  refine lv_aload_n hx hb dX10_isFirst_192 rfl (lv_at hl 0 rfl) ?_
  refine lv_aload_n hx hb dX10_isFirst_193 rfl (lv_at hl 0 rfl) ?_
  refine gY0_16 hC hW dX10_isFirst_194 ?_
  refine lv_iload_n hx hb dX10_isFirst_197 rfl (lv_at hl 1 rfl) ?_
  obtain ⟨g60, h⟩ := gd_some h
  refine x_iald hC hW aY11 g60 dX10_isFirst_198 ?_
  obtain ⟨t61, e62, h⟩ := bd h
  refine x_goi (x_rv (rest := []) hC hW (ctY0_isThere e62) (cwV_g hC.2.2.2.2 ml_X10_193 mi_X10_isThere md_X10_isThere ⟨(Nat.le_trans (Nat.le_of_ble_eq_true rfl) hF), (Nat.le_trans (Nat.le_of_ble_eq_true rfl) hL)⟩) (rcY0 hW) rfl hl.1 rfl (Nat.le_of_ble_eq_true rfl) dX10_isFirst_199) hW (fun H locs hW => ?_)
  obtain ⟨g63, h⟩ := gd_some h
  cases h
  exact kr _ _ _ _ g63 dX10_isFirst_202 hW
theorem ctY0_isFirst {N : Nat} {S : St} {x1 : Int32} {x2 : Int32}  {v : Int32} (h : fY0_isFirst N S x1 x2 = some v) : Met l yX10_isFirst (wm yX10_isFirst cX10_isFirst 3 (some .boolean)) (rmx 1 23) (pcm LY G S [.ref (ad G 0), .int x1, .int x2]) (qcI LY G S v) 0 0 G.2.2.2 :=
  x_enter (own := RX10) rfl rfl (Nat.le_of_ble_eq_true rfl) (fun p e s m below meth c ls hC hr hk hW hl => wY0_isFirst hC (Nat.le_refl _) (Nat.le_refl _)  h (fun H locs ls pc hz hd hW => x_retz hC hr hk hW hz hd) _ _ _ hW hl)
def fY0_firstMany_L4 (N : Nat) (S : St) (x1 : Int32) : Nat → Int32 → Int32 → Option (Int32)
  | 0, _, _ => none
  | n + 1, x2, x3 =>
    if 100 ≤ x3 then
      some x2
    else
      Option.bind (fY0_isFirst N S x1 x3) fun t2 =>
      Option.bind (α := Int32) (
        if t2 = 0 then
          some 0
        else
          some 1
      ) fun t5 =>
      fY0_firstMany_L4 N S x1 n (x2 + t5) (x3 + 1)
set_option maxHeartbeats 4000000 in
set_option maxRecDepth 100000 in
theorem wY0_firstMany_L4 {N : Nat} {S : St} {x1 : Int32} (hC : CallFix p m c cX10_firstMany 4 s args lw_g RX10) (hF : 2 ≤ R.frames) (hL : 45 ≤ R.locals)  {t : Int32} (kx : ∀ (H : Heap) (locs : List Loc) (ls : Array Slot), wg LY G S s H locs → lv_has ls 4 [(2, .int t)] → W p l e R s m args below meth c H locs 0 0 Q (F0 m 33 ls [])) : ∀ (n : Nat) (x2 : Int32) (x3 : Int32), fY0_firstMany_L4 N S x1 n x2 x3 = some t → ∀ (H : Heap) (locs : List Loc) (ls : Array Slot), wg LY G S s H locs → lv_has ls 4 [(0, .ref (ad G 0)), (1, .int x1), (2, .int x2), (3, .int x3)] → W p l e R s m args below meth c H locs 0 0 Q (F0 m 4 ls []) := by
  have hx := hC.1
  have hb := hC.2.1
  intro n
  induction n with
  | zero =>
    intro _ _ h
    cases h
  | succ n ih =>
    intro x2 x3 h H locs ls hW hl
    rw [fY0_firstMany_L4] at h
    refine lv_iload_n hx hb dX10_firstMany_4 rfl (lv_at hl 3 rfl) ?_
    refine lv_bipush (v := 100) hx hb dX10_firstMany_5 (by decide) ?_
    refine lv_icmp_ge (tgt := 33) hx hb dX10_firstMany_7 (by decide) (fun q1 => ?_) (fun q1 => ?_)
    · have h := it_p q1 h
      cases h
      exact kx _ _ _ hW (lv_sub hl [2] rfl)
    · have h := it_n q1 h
      refine lv_iload_n hx hb dX10_firstMany_10 rfl (lv_at hl 2 rfl) ?_
      refine lv_aload_n hx hb dX10_firstMany_11 rfl (lv_at hl 0 rfl) ?_
      refine lv_iload_n hx hb dX10_firstMany_12 rfl (lv_at hl 1 rfl) ?_
      refine lv_iload_n hx hb dX10_firstMany_13 rfl (lv_at hl 3 rfl) ?_
      obtain ⟨t2, e3, h⟩ := bd h
      refine x_goi (x_rv (rest := [.int x2]) hC hW (ctY0_isFirst e3) (cwV_g hC.2.2.2.2 ml_X10_196 mi_X10_isFirst md_X10_isFirst ⟨(Nat.le_trans (Nat.le_of_ble_eq_true rfl) hF), (Nat.le_trans (Nat.le_of_ble_eq_true rfl) hL)⟩) (rcY0 hW) rfl hl.1 rfl (Nat.le_of_ble_eq_true rfl) dX10_firstMany_14) hW (fun H locs hW => ?_)
      obtain ⟨t5, e6, h⟩ := bd h
      have K4 : ∀ (H : Heap) (locs : List Loc) (ls : Array Slot), wg LY G S s H locs → lv_has ls 4 [(0, .ref (ad G 0)), (1, .int x1), (3, .int x3)] → W p l e R s m args below meth c H locs 0 0 Q (F0 m 25 ls [.int t5, .int x2]) := by
        intro H locs ls hW hl
        refine lv_iadd hx hb dX10_firstMany_25 ?_
        refine lv_istore_n (lv' := [(2, .int (x2 + t5)), (0, .ref (ad G 0)), (1, .int x1), (3, .int x3)]) hx hb dX10_firstMany_26 rfl hl (by decide) rfl (fun ls hl => ?_)
        refine lv_iinc (v := x3 + 1) (lv' := [(3, .int (x3 + 1)), (2, .int (x2 + t5)), (0, .ref (ad G 0)), (1, .int x1)]) (k := 3) hx hb dX10_firstMany_27 hl rfl rfl (by decide) rfl (fun ls hl => ?_)
        refine lv_goto (tgt := 4) hx hb dX10_firstMany_30 (by decide) ?_
        exact ih _ _ h _ _ _ hW (lv_sub hl [2, 3, 1, 0] rfl)
      clear h
      have h := e6
      clear e6
      refine lv_if_eq (tgt := 24) hx hb dX10_firstMany_17 (by decide) (fun q7 => ?_) (fun q7 => ?_)
      · have h := it_p q7 h
        refine lv_iconst (v := 0) hx hb dX10_firstMany_24 (by decide) ?_
        cases h
        exact K4 _ _ _ hW (lv_sub hl [0, 1, 3] rfl)
      · have h := it_n q7 h
        refine lv_iconst (v := 1) hx hb dX10_firstMany_20 (by decide) ?_
        refine lv_goto (tgt := 25) hx hb dX10_firstMany_21 (by decide) ?_
        cases h
        exact K4 _ _ _ hW (lv_sub hl [0, 1, 3] rfl)
def fY0_firstMany (N : Nat) (S : St) (x1 : Int32) : Option (Int32) :=
  Option.bind (fY0_firstMany_L4 N S x1 N 0 0) fun t8 =>
  some t8
set_option maxHeartbeats 4000000 in
set_option maxRecDepth 100000 in
theorem wY0_firstMany {N : Nat} {S : St} {x1 : Int32} (hC : CallFix p m c cX10_firstMany 4 s args lw_g RX10) (hF : 2 ≤ R.frames) (hL : 45 ≤ R.locals)  {v : Int32} (h : fY0_firstMany N S x1 = some v) (kr : ∀ (H : Heap) (locs : List Loc) (ls : Array Slot) (pc : Nat), decode cX10_firstMany pc = .ok (.ireturn, 1) → wg LY G S s H locs → W p l e R s m args below meth c H locs 0 0 Q (F0 m pc ls [.int v])) : ∀ (H : Heap) (locs : List Loc) (ls : Array Slot), wg LY G S s H locs → lv_has ls 4 [(0, .ref (ad G 0)), (1, .int x1)] → W p l e R s m args below meth c H locs 0 0 Q (F0 m 0 ls []) := by
  have hx := hC.1
  have hb := hC.2.1
  intro H locs ls hW hl
  unfold fY0_firstMany at h
  refine lv_iconst (v := 0) hx hb dX10_firstMany_0 (by decide) ?_
  refine lv_istore_n (lv' := [(2, .int 0), (0, .ref (ad G 0)), (1, .int x1)]) hx hb dX10_firstMany_1 rfl hl (by decide) rfl (fun ls hl => ?_)
  refine lv_iconst (v := 0) hx hb dX10_firstMany_2 (by decide) ?_
  refine lv_istore_n (lv' := [(3, .int 0), (2, .int 0), (0, .ref (ad G 0)), (1, .int x1)]) hx hb dX10_firstMany_3 rfl hl (by decide) rfl (fun ls hl => ?_)
  obtain ⟨t8, e9, h⟩ := bd h
  refine wY0_firstMany_L4 hC hF hL  (fun H locs ls hW hl => ?_) _ _ _ e9 _ _ _ hW (lv_sub hl [2, 3, 1, 0] rfl)
  refine lv_iload_n hx hb dX10_firstMany_33 rfl (lv_at hl 0 rfl) ?_
  cases h
  exact kr _ _ _ _ dX10_firstMany_34 hW
theorem ctY0_firstMany {N : Nat} {S : St} {x1 : Int32}  {v : Int32} (h : fY0_firstMany N S x1 = some v) : Met l yX10_firstMany (wm yX10_firstMany cX10_firstMany 4 (some .int)) (rmx 2 45) (pcm LY G S [.ref (ad G 0), .int x1]) (qcI LY G S v) 0 0 G.2.2.2 :=
  x_enter (own := RX10) rfl rfl (Nat.le_of_ble_eq_true rfl) (fun p e s m below meth c ls hC hr hk hW hl => wY0_firstMany hC (Nat.le_refl _) (Nat.le_refl _)  h (fun H locs ls pc hd hW => x_reti hC hr hk hW hd) _ _ _ hW hl)
def fY0_tells (N : Nat) (S : St) (x1 : Int32) : Option (Int32) :=
  gd (inb x1 12) <|
  if (S.1 10 (Int32.toNatClampNeg x1)) = 1 then
    Option.bind (fY0_firstMany N S x1) fun t3 =>
    some t3
  else
  if (S.1 10 (Int32.toNatClampNeg x1)) = 2 then
    gd (inb x1 12) <|
    gd (inb x1 12) <|
    some ((12 * (S.1 11 (Int32.toNatClampNeg x1))) + (S.1 12 (Int32.toNatClampNeg x1)))
  else
  if (S.1 10 (Int32.toNatClampNeg x1)) = 3 then
    Option.bind (fY0_firstMany N S x1) fun t7 =>
    some t7
  else
  if (S.1 10 (Int32.toNatClampNeg x1)) = 4 then
    gd (inb x1 12) <|
    some (S.1 11 (Int32.toNatClampNeg x1))
  else
  gd (inb x1 12) <|
  gd (inb x1 12) <|
  some ((100 * (S.1 11 (Int32.toNatClampNeg x1))) + (S.1 12 (Int32.toNatClampNeg x1)))
set_option maxHeartbeats 4000000 in
set_option maxRecDepth 100000 in
theorem wY0_tells {N : Nat} {S : St} {x1 : Int32} (hC : CallFix p m c cX10_tells 2 s args lw_g RX10) (hF : 3 ≤ R.frames) (hL : 68 ≤ R.locals)  {v : Int32} (h : fY0_tells N S x1 = some v) (kr : ∀ (H : Heap) (locs : List Loc) (ls : Array Slot) (pc : Nat), decode cX10_tells pc = .ok (.ireturn, 1) → wg LY G S s H locs → W p l e R s m args below meth c H locs 0 0 Q (F0 m pc ls [.int v])) : ∀ (H : Heap) (locs : List Loc) (ls : Array Slot), wg LY G S s H locs → lv_has ls 2 [(0, .ref (ad G 0)), (1, .int x1)] → W p l e R s m args below meth c H locs 0 0 Q (F0 m 0 ls []) := by
  have hx := hC.1
  have hb := hC.2.1
  intro H locs ls hW hl
  unfold fY0_tells at h
  refine lv_aload_n hx hb dX10_tells_0 rfl (lv_at hl 0 rfl) ?_
  refine gY0_15 hC hW dX10_tells_1 ?_
  refine lv_iload_n hx hb dX10_tells_4 rfl (lv_at hl 1 rfl) ?_
  obtain ⟨g1, h⟩ := gd_some h
  refine x_iald hC hW aY10 g1 dX10_tells_5 ?_
  by_cases q2_0 : (S.1 10 (Int32.toNatClampNeg x1)) = 1
  · have h := it_p q2_0 h
    refine lv_tableIn (off := 30) (tgt := 36) hx hb dX10_tells_6 (by rw [q2_0]; decide) (by rw [q2_0]; decide) (by rw [q2_0]; rfl) (by decide) ?_
    refine lv_aload_n hx hb dX10_tells_36 rfl (lv_at hl 0 rfl) ?_
    refine lv_iload_n hx hb dX10_tells_37 rfl (lv_at hl 1 rfl) ?_
    obtain ⟨t3, e4, h⟩ := bd h
    refine x_goi (x_rv (rest := []) hC hW (ctY0_firstMany e4) (cwV_g hC.2.2.2.2 ml_X10_199 mi_X10_firstMany md_X10_firstMany ⟨(Nat.le_trans (Nat.le_of_ble_eq_true rfl) hF), (Nat.le_trans (Nat.le_of_ble_eq_true rfl) hL)⟩) (rcY0 hW) rfl hl.1 rfl (Nat.le_of_ble_eq_true rfl) dX10_tells_38) hW (fun H locs hW => ?_)
    cases h
    exact kr _ _ _ _ dX10_tells_41 hW
  have h := it_n q2_0 h
  by_cases q2_1 : (S.1 10 (Int32.toNatClampNeg x1)) = 2
  · have h := it_p q2_1 h
    refine lv_tableIn (off := 36) (tgt := 42) hx hb dX10_tells_6 (by rw [q2_1]; decide) (by rw [q2_1]; decide) (by rw [q2_1]; rfl) (by decide) ?_
    refine lv_bipush (v := 12) hx hb dX10_tells_42 (by decide) ?_
    refine lv_aload_n hx hb dX10_tells_44 rfl (lv_at hl 0 rfl) ?_
    refine gY0_16 hC hW dX10_tells_45 ?_
    refine lv_iload_n hx hb dX10_tells_48 rfl (lv_at hl 1 rfl) ?_
    obtain ⟨g5, h⟩ := gd_some h
    refine x_iald hC hW aY11 g5 dX10_tells_49 ?_
    refine lv_imul hx hb dX10_tells_50 ?_
    refine lv_aload_n hx hb dX10_tells_51 rfl (lv_at hl 0 rfl) ?_
    refine gY0_17 hC hW dX10_tells_52 ?_
    refine lv_iload_n hx hb dX10_tells_55 rfl (lv_at hl 1 rfl) ?_
    obtain ⟨g6, h⟩ := gd_some h
    refine x_iald hC hW aY12 g6 dX10_tells_56 ?_
    refine lv_iadd hx hb dX10_tells_57 ?_
    cases h
    exact kr _ _ _ _ dX10_tells_58 hW
  have h := it_n q2_1 h
  by_cases q2_2 : (S.1 10 (Int32.toNatClampNeg x1)) = 3
  · have h := it_p q2_2 h
    refine lv_tableIn (off := 30) (tgt := 36) hx hb dX10_tells_6 (by rw [q2_2]; decide) (by rw [q2_2]; decide) (by rw [q2_2]; rfl) (by decide) ?_
    refine lv_aload_n hx hb dX10_tells_36 rfl (lv_at hl 0 rfl) ?_
    refine lv_iload_n hx hb dX10_tells_37 rfl (lv_at hl 1 rfl) ?_
    obtain ⟨t7, e8, h⟩ := bd h
    refine x_goi (x_rv (rest := []) hC hW (ctY0_firstMany e8) (cwV_g hC.2.2.2.2 ml_X10_199 mi_X10_firstMany md_X10_firstMany ⟨(Nat.le_trans (Nat.le_of_ble_eq_true rfl) hF), (Nat.le_trans (Nat.le_of_ble_eq_true rfl) hL)⟩) (rcY0 hW) rfl hl.1 rfl (Nat.le_of_ble_eq_true rfl) dX10_tells_38) hW (fun H locs hW => ?_)
    cases h
    exact kr _ _ _ _ dX10_tells_41 hW
  have h := it_n q2_2 h
  by_cases q2_3 : (S.1 10 (Int32.toNatClampNeg x1)) = 4
  · have h := it_p q2_3 h
    refine lv_tableIn (off := 53) (tgt := 59) hx hb dX10_tells_6 (by rw [q2_3]; decide) (by rw [q2_3]; decide) (by rw [q2_3]; rfl) (by decide) ?_
    refine lv_aload_n hx hb dX10_tells_59 rfl (lv_at hl 0 rfl) ?_
    refine gY0_16 hC hW dX10_tells_60 ?_
    refine lv_iload_n hx hb dX10_tells_63 rfl (lv_at hl 1 rfl) ?_
    obtain ⟨g9, h⟩ := gd_some h
    refine x_iald hC hW aY11 g9 dX10_tells_64 ?_
    cases h
    exact kr _ _ _ _ dX10_tells_65 hW
  have h := it_n q2_3 h
  have q2_0i := lv_neT (a := 1) q2_0 (by decide)
  have q2_1i := lv_neT (a := 2) q2_1 (by decide)
  have q2_2i := lv_neT (a := 3) q2_2 (by decide)
  have q2_3i := lv_neT (a := 4) q2_3 (by decide)
  refine lv_tableOut (tgt := 66) hx hb dX10_tells_6 (by omega) (by decide) ?_
  refine lv_bipush (v := 100) hx hb dX10_tells_66 (by decide) ?_
  refine lv_aload_n hx hb dX10_tells_68 rfl (lv_at hl 0 rfl) ?_
  refine gY0_16 hC hW dX10_tells_69 ?_
  refine lv_iload_n hx hb dX10_tells_72 rfl (lv_at hl 1 rfl) ?_
  obtain ⟨g10, h⟩ := gd_some h
  refine x_iald hC hW aY11 g10 dX10_tells_73 ?_
  refine lv_imul hx hb dX10_tells_74 ?_
  refine lv_aload_n hx hb dX10_tells_75 rfl (lv_at hl 0 rfl) ?_
  refine gY0_17 hC hW dX10_tells_76 ?_
  refine lv_iload_n hx hb dX10_tells_79 rfl (lv_at hl 1 rfl) ?_
  obtain ⟨g11, h⟩ := gd_some h
  refine x_iald hC hW aY12 g11 dX10_tells_80 ?_
  refine lv_iadd hx hb dX10_tells_81 ?_
  cases h
  exact kr _ _ _ _ dX10_tells_82 hW
theorem ctY0_tells {N : Nat} {S : St} {x1 : Int32}  {v : Int32} (h : fY0_tells N S x1 = some v) : Met l yX10_tells (wm yX10_tells cX10_tells 2 (some .int)) (rmx 3 68) (pcm LY G S [.ref (ad G 0), .int x1]) (qcI LY G S v) 0 0 G.2.2.2 :=
  x_enter (own := RX10) rfl rfl (Nat.le_of_ble_eq_true rfl) (fun p e s m below meth c ls hC hr hk hW hl => wY0_tells hC (Nat.le_refl _) (Nat.le_refl _)  h (fun H locs ls pc hd hW => x_reti hC hr hk hW hd) _ _ _ hW hl)
def fY0_mark (N : Nat) (S : St) (x1 : Int32) (x2 : Int32) : Option (Int32 × St) :=
  Option.bind (fYs_in S x2 1 5) fun t1 =>
  if t1 = 0 then
    some ((-1), S)
  else
    Option.bind (fY0_askedCell S x1) fun t4 =>
    Option.bind (α := St × Int32) (
      if 0 ≤ t4.1 then
        gd (inb x1 12) <|
        if (t4.2.1 10 (Int32.toNatClampNeg x1)) = x2 then
          Option.bind (fY0_tells N t4.2 x1) fun t12 =>
          some (t4.2, t12)
        else
          Option.bind (fY0_meets t4.2 3) fun t14 =>
          some (t14.2, t14.1)
      else
        some (t4.2, t4.1)
    ) fun t7 =>
    some (t7.2, t7.1)
set_option maxHeartbeats 4000000 in
set_option maxRecDepth 100000 in
theorem wY0_mark {N : Nat} {S : St} {x1 : Int32} {x2 : Int32} (hC : CallFix p m c cX10_mark 4 s args lw_g RX10) (hF : 4 ≤ R.frames) (hL : 89 ≤ R.locals)  {v : Int32} {S' : St} (h : fY0_mark N S x1 x2 = some (v, S')) (kr : ∀ (H : Heap) (locs : List Loc) (ls : Array Slot) (pc : Nat), decode cX10_mark pc = .ok (.ireturn, 1) → wg LY G (S') s H locs → W p l e R s m args below meth c H locs 0 0 Q (F0 m pc ls [.int v])) : ∀ (H : Heap) (locs : List Loc) (ls : Array Slot), wg LY G S s H locs → lv_has ls 4 [(0, .ref (ad G 0)), (1, .int x1), (2, .int x2)] → W p l e R s m args below meth c H locs 0 0 Q (F0 m 0 ls []) := by
  have hx := hC.1
  have hb := hC.2.1
  intro H locs ls hW hl
  unfold fY0_mark at h
  refine lv_iload_n hx hb dX10_mark_0 rfl (lv_at hl 2 rfl) ?_
  refine lv_iconst (v := 1) hx hb dX10_mark_1 (by decide) ?_
  refine lv_iconst (v := 5) hx hb dX10_mark_2 (by decide) ?_
  obtain ⟨t1, e2, h⟩ := bd h
  refine x_goi (x_rs (rest := []) hC hW (ctYs_in e2) (cwS_g hC.2.2.2.2 ml_X10_103 ms_X10_in md_X10_in ⟨(Nat.le_trans (Nat.le_of_ble_eq_true rfl) hF), (Nat.le_trans (Nat.le_of_ble_eq_true rfl) hL)⟩) rfl hl.1 rfl (Nat.le_of_ble_eq_true rfl) dX10_mark_3) hW (fun H locs hW => ?_)
  refine lv_if_ne (tgt := 11) hx hb dX10_mark_6 (by decide) (fun q3 => ?_) (fun q3 => ?_)
  · have h := it_n q3 h
    refine lv_aload_n hx hb dX10_mark_11 rfl (lv_at hl 0 rfl) ?_
    refine lv_iload_n hx hb dX10_mark_12 rfl (lv_at hl 1 rfl) ?_
    obtain ⟨t4, e5, h⟩ := bd h
    refine x_goi (x_rv (rest := []) hC hW (ctY0_askedCell e5) (cwV_g hC.2.2.2.2 ml_X10_184 mi_X10_askedCell md_X10_askedCell ⟨(Nat.le_trans (Nat.le_of_ble_eq_true rfl) hF), (Nat.le_trans (Nat.le_of_ble_eq_true rfl) hL)⟩) (rcY0 hW) rfl hl.1 rfl (Nat.le_of_ble_eq_true rfl) dX10_mark_13) hW (fun H locs hW => ?_)
    refine lv_istore_n (lv' := [(3, .int t4.1), (0, .ref (ad G 0)), (1, .int x1), (2, .int x2)]) hx hb dX10_mark_16 rfl hl (by decide) rfl (fun ls hl => ?_)
    refine lv_iload_n hx hb dX10_mark_17 rfl (lv_at hl 0 rfl) ?_
    obtain ⟨t7, e8, h⟩ := bd h
    have K6 : ∀ (H : Heap) (locs : List Loc) (ls : Array Slot), wg LY G t7.1 s H locs → lv_has ls 4 [] → W p l e R s m args below meth c H locs 0 0 Q (F0 m 48 ls [.int t7.2]) := by
      intro H locs ls hW hl
      cases h
      exact kr _ _ _ _ dX10_mark_48 hW
    clear h
    have h := e8
    clear e8
    refine lv_if_ge (tgt := 25) hx hb dX10_mark_18 (by decide) (fun q9 => ?_) (fun q9 => ?_)
    · have h := it_p q9 h
      refine lv_aload_n hx hb dX10_mark_25 rfl (lv_at hl 1 rfl) ?_
      refine gY0_15 hC hW dX10_mark_26 ?_
      refine lv_iload_n hx hb dX10_mark_29 rfl (lv_at hl 2 rfl) ?_
      obtain ⟨g10, h⟩ := gd_some h
      refine x_iald hC hW aY10 g10 dX10_mark_30 ?_
      refine lv_iload_n hx hb dX10_mark_31 rfl (lv_at hl 3 rfl) ?_
      refine lv_icmp_eq (tgt := 43) hx hb dX10_mark_32 (by decide) (fun q11 => ?_) (fun q11 => ?_)
      · have h := it_p q11 h
        refine lv_aload_n hx hb dX10_mark_43 rfl (lv_at hl 1 rfl) ?_
        refine lv_iload_n hx hb dX10_mark_44 rfl (lv_at hl 2 rfl) ?_
        obtain ⟨t12, e13, h⟩ := bd h
        refine x_goi (x_rv (rest := []) hC hW (ctY0_tells e13) (cwV_g hC.2.2.2.2 ml_X10_202 mi_X10_tells md_X10_tells ⟨(Nat.le_trans (Nat.le_of_ble_eq_true rfl) hF), (Nat.le_trans (Nat.le_of_ble_eq_true rfl) hL)⟩) (rcY0 hW) rfl hl.1 rfl (Nat.le_of_ble_eq_true rfl) dX10_mark_45) hW (fun H locs hW => ?_)
        cases h
        exact K6 _ _ _ hW (lv_sub hl [] rfl)
      · have h := it_n q11 h
        refine lv_aload_n hx hb dX10_mark_35 rfl (lv_at hl 1 rfl) ?_
        refine lv_iconst (v := 3) hx hb dX10_mark_36 (by decide) ?_
        obtain ⟨t14, e15, h⟩ := bd h
        refine x_goi (x_rv (rest := []) hC hW (ctY0_meets e15) (cwV_g hC.2.2.2.2 ml_X10_111 mi_X10_meets md_X10_meets ⟨(Nat.le_trans (Nat.le_of_ble_eq_true rfl) hF), (Nat.le_trans (Nat.le_of_ble_eq_true rfl) hL)⟩) (rcY0 hW) rfl hl.1 rfl (Nat.le_of_ble_eq_true rfl) dX10_mark_37) hW (fun H locs hW => ?_)
        refine lv_goto (tgt := 48) hx hb dX10_mark_40 (by decide) ?_
        cases h
        exact K6 _ _ _ hW (lv_sub hl [] rfl)
    · have h := it_n q9 h
      refine lv_iload_n hx hb dX10_mark_21 rfl (lv_at hl 0 rfl) ?_
      refine lv_goto (tgt := 48) hx hb dX10_mark_22 (by decide) ?_
      cases h
      exact K6 _ _ _ hW (lv_sub hl [] rfl)
  · have h := it_p q3 h
    refine lv_iconst (v := (-1)) hx hb dX10_mark_9 (by decide) ?_
    cases h
    exact kr _ _ _ _ dX10_mark_10 hW
theorem ctY0_mark {N : Nat} {S : St} {x1 : Int32} {x2 : Int32}  {v : Int32} {S' : St} (h : fY0_mark N S x1 x2 = some (v, S')) : Met l yX10_mark (wm yX10_mark cX10_mark 4 (some .int)) (rmx 4 89) (pcm LY G S [.ref (ad G 0), .int x1, .int x2]) (qcI LY G S' v) 0 0 G.2.2.2 :=
  x_enter (own := RX10) rfl rfl (Nat.le_of_ble_eq_true rfl) (fun p e s m below meth c ls hC hr hk hW hl => wY0_mark hC (Nat.le_refl _) (Nat.le_refl _)  h (fun H locs ls pc hd hW => x_reti hC hr hk hW hd) _ _ _ hW hl)
def fY0_setEnds_L9 (N : Nat) (S : St) (x1 : Int32) : Nat → Int32 → Int32 → Int32 → Option (Int32 × Int32)
  | 0, _, _, _ => none
  | n + 1, x2, x3, x4 =>
    if 100 ≤ x4 then
      some (x2, x3)
    else
      gd (inb ((100 * x1) + x4) 1200) <|
      Option.bind (α := Int32 × Int32) (
        if (S.1 17 (Int32.toNatClampNeg ((100 * x1) + x4))) = 0 then
          some (x2, x3)
        else
          Option.bind (α := Int32) (
            if x2 ≤ x4 then
              some x2
            else
              some x4
          ) fun t8 =>
          some (t8, x4)
      ) fun t4 =>
      fY0_setEnds_L9 N S x1 n t4.1 t4.2 (x4 + 1)
set_option maxHeartbeats 4000000 in
set_option maxRecDepth 100000 in
theorem wY0_setEnds_L9 {N : Nat} {S : St} {x1 : Int32} (hC : CallFix p m c cX10_setEnds 5 s args lw_g RX10) (hF : 1 ≤ R.frames) (hL : 21 ≤ R.locals)  {t : Int32 × Int32} (kx : ∀ (H : Heap) (locs : List Loc) (ls : Array Slot), wg LY G S s H locs → lv_has ls 5 [(0, .ref (ad G 0)), (1, .int x1), (2, .int t.1), (3, .int t.2)] → W p l e R s m args below meth c H locs 0 0 Q (F0 m 53 ls [])) : ∀ (n : Nat) (x2 : Int32) (x3 : Int32) (x4 : Int32), fY0_setEnds_L9 N S x1 n x2 x3 x4 = some t → ∀ (H : Heap) (locs : List Loc) (ls : Array Slot), wg LY G S s H locs → lv_has ls 5 [(0, .ref (ad G 0)), (1, .int x1), (2, .int x2), (3, .int x3), (4, .int x4)] → W p l e R s m args below meth c H locs 0 0 Q (F0 m 9 ls []) := by
  have hx := hC.1
  have hb := hC.2.1
  intro n
  induction n with
  | zero =>
    intro _ _ _ h
    cases h
  | succ n ih =>
    intro x2 x3 x4 h H locs ls hW hl
    rw [fY0_setEnds_L9] at h
    refine lv_iload hx hb dX10_setEnds_9 (lv_at hl 4 rfl) ?_
    refine lv_bipush (v := 100) hx hb dX10_setEnds_11 (by decide) ?_
    refine lv_icmp_ge (tgt := 53) hx hb dX10_setEnds_13 (by decide) (fun q1 => ?_) (fun q1 => ?_)
    · have h := it_p q1 h
      cases h
      exact kx _ _ _ hW (lv_sub hl [0, 1, 2, 3] rfl)
    · have h := it_n q1 h
      refine lv_aload_n hx hb dX10_setEnds_16 rfl (lv_at hl 0 rfl) ?_
      refine gY0_24 hC hW dX10_setEnds_17 ?_
      refine lv_bipush (v := 100) hx hb dX10_setEnds_20 (by decide) ?_
      refine lv_iload_n hx hb dX10_setEnds_22 rfl (lv_at hl 1 rfl) ?_
      refine lv_imul hx hb dX10_setEnds_23 ?_
      refine lv_iload hx hb dX10_setEnds_24 (lv_at hl 4 rfl) ?_
      refine lv_iadd hx hb dX10_setEnds_26 ?_
      obtain ⟨g2, h⟩ := gd_some h
      refine x_zald hC hW zY17 g2 dX10_setEnds_27 ?_
      obtain ⟨t4, e5, h⟩ := bd h
      have K3 : ∀ (H : Heap) (locs : List Loc) (ls : Array Slot), wg LY G S s H locs → lv_has ls 5 [(0, .ref (ad G 0)), (1, .int x1), (2, .int t4.1), (3, .int t4.2), (4, .int x4)] → W p l e R s m args below meth c H locs 0 0 Q (F0 m 47 ls []) := by
        intro H locs ls hW hl
        refine lv_iinc (v := x4 + 1) (lv' := [(4, .int (x4 + 1)), (0, .ref (ad G 0)), (1, .int x1), (2, .int t4.1), (3, .int t4.2)]) (k := 4) hx hb dX10_setEnds_47 hl rfl rfl (by decide) rfl (fun ls hl => ?_)
        refine lv_goto (tgt := 9) hx hb dX10_setEnds_50 (by decide) ?_
        exact ih _ _ _ h _ _ _ hW (lv_sub hl [1, 2, 3, 4, 0] rfl)
      clear h
      have h := e5
      clear e5
      refine lv_if_eq (tgt := 47) hx hb dX10_setEnds_28 (by decide) (fun q6 => ?_) (fun q6 => ?_)
      · have h := it_p q6 h
        cases h
        exact K3 _ _ _ hW (lv_sub hl [0, 1, 2, 3, 4] rfl)
      · have h := it_n q6 h
        refine lv_iload hx hb dX10_setEnds_31 (lv_at hl 4 rfl) ?_
        refine lv_iload_n hx hb dX10_setEnds_33 rfl (lv_at hl 2 rfl) ?_
        obtain ⟨t8, e9, h⟩ := bd h
        have K7 : ∀ (H : Heap) (locs : List Loc) (ls : Array Slot), wg LY G S s H locs → lv_has ls 5 [(0, .ref (ad G 0)), (1, .int x1), (4, .int x4)] → W p l e R s m args below meth c H locs 0 0 Q (F0 m 43 ls [.int t8]) := by
          intro H locs ls hW hl
          refine lv_istore_n (lv' := [(2, .int t8), (0, .ref (ad G 0)), (1, .int x1), (4, .int x4)]) hx hb dX10_setEnds_43 rfl hl (by decide) rfl (fun ls hl => ?_)
          refine lv_iload hx hb dX10_setEnds_44 (lv_at hl 3 rfl) ?_
          refine lv_istore_n (lv' := [(3, .int x4), (2, .int t8), (0, .ref (ad G 0)), (1, .int x1), (4, .int x4)]) hx hb dX10_setEnds_46 rfl hl (by decide) rfl (fun ls hl => ?_)
          cases h
          exact K3 _ _ _ hW (lv_sub hl [2, 3, 1, 0, 4] rfl)
        clear h
        have h := e9
        clear e9
        refine lv_icmp_ge (tgt := 42) hx hb dX10_setEnds_34 (by decide) (fun q10 => ?_) (fun q10 => ?_)
        · have h := it_p q10 h
          refine lv_iload_n hx hb dX10_setEnds_42 rfl (lv_at hl 2 rfl) ?_
          cases h
          exact K7 _ _ _ hW (lv_sub hl [0, 1, 4] rfl)
        · have h := it_n q10 h
          refine lv_iload hx hb dX10_setEnds_37 (lv_at hl 4 rfl) ?_
          refine lv_goto (tgt := 43) hx hb dX10_setEnds_39 (by decide) ?_
          cases h
          exact K7 _ _ _ hW (lv_sub hl [0, 1, 4] rfl)
def fY0_setEnds (N : Nat) (S : St) (x1 : Int32) : Option (Int32 × St) :=
  Option.bind (fY0_setEnds_L9 N S x1 N 100 (-9) 0) fun t11 =>
  Option.bind (fY0_isThere S x1) fun t13 =>
  Option.bind (α := Int32) (
    if t13 = 0 then
      some 0
    else
      some t11.1
  ) fun t16 =>
  gd (inb x1 12) <|
  nx (p1 S 18 (Int32.toNatClampNeg x1) t16) fun s20 =>
  Option.bind (fY0_isThere s20 x1) fun t22 =>
  Option.bind (α := Int32) (
    if t22 = 0 then
      some 0
    else
      some t11.2
  ) fun t25 =>
  gd (inb x1 12) <|
  nx (p1 s20 19 (Int32.toNatClampNeg x1) t25) fun s29 =>
  Option.bind (fY0_isThere s29 x1) fun t31 =>
  Option.bind (α := Int32) (
    if t31 = 0 then
      some 1
    else
      if t11.2 < 0 then
        some 0
      else
        some 1
  ) fun t34 =>
  gd (isb t34) <|
  some (t34, s29)
set_option maxHeartbeats 4000000 in
set_option maxRecDepth 100000 in
theorem wY0_setEnds {N : Nat} {S : St} {x1 : Int32} (hC : CallFix p m c cX10_setEnds 5 s args lw_g RX10) (hF : 1 ≤ R.frames) (hL : 21 ≤ R.locals)  {v : Int32} {S' : St} (h : fY0_setEnds N S x1 = some (v, S')) (kr : ∀ (H : Heap) (locs : List Loc) (ls : Array Slot) (pc : Nat), isb v = true → decode cX10_setEnds pc = .ok (.ireturn, 1) → wg LY G (S') s H locs → W p l e R s m args below meth c H locs 0 0 Q (F0 m pc ls [.int v])) : ∀ (H : Heap) (locs : List Loc) (ls : Array Slot), wg LY G S s H locs → lv_has ls 5 [(0, .ref (ad G 0)), (1, .int x1)] → W p l e R s m args below meth c H locs 0 0 Q (F0 m 0 ls []) := by
  have hx := hC.1
  have hb := hC.2.1
  intro H locs ls hW hl
  unfold fY0_setEnds at h
  refine lv_bipush (v := 100) hx hb dX10_setEnds_0 (by decide) ?_
  refine lv_istore_n (lv' := [(2, .int 100), (0, .ref (ad G 0)), (1, .int x1)]) hx hb dX10_setEnds_2 rfl hl (by decide) rfl (fun ls hl => ?_)
  refine lv_bipush (v := (-9)) hx hb dX10_setEnds_3 (by decide) ?_
  refine lv_istore_n (lv' := [(3, .int (-9)), (2, .int 100), (0, .ref (ad G 0)), (1, .int x1)]) hx hb dX10_setEnds_5 rfl hl (by decide) rfl (fun ls hl => ?_)
  refine lv_iconst (v := 0) hx hb dX10_setEnds_6 (by decide) ?_
  refine lv_istore (lv' := [(4, .int 0), (3, .int (-9)), (2, .int 100), (0, .ref (ad G 0)), (1, .int x1)]) hx hb dX10_setEnds_7 hl (by decide) rfl (fun ls hl => ?_)
  obtain ⟨t11, e12, h⟩ := bd h
  refine wY0_setEnds_L9 hC hF hL  (fun H locs ls hW hl => ?_) _ _ _ _ e12 _ _ _ hW (lv_sub hl [3, 4, 2, 1, 0] rfl)
  refine lv_aload_n hx hb dX10_setEnds_53 rfl (lv_at hl 0 rfl) ?_
  refine gY0_25 hC hW dX10_setEnds_54 ?_
  refine lv_iload_n hx hb dX10_setEnds_57 rfl (lv_at hl 1 rfl) ?_
  refine lv_aload_n hx hb dX10_setEnds_58 rfl (lv_at hl 0 rfl) ?_
  refine lv_iload_n hx hb dX10_setEnds_59 rfl (lv_at hl 1 rfl) ?_
  obtain ⟨t13, e14, h⟩ := bd h
  refine x_goi (x_rv (rest := [.int x1, .ref (ad G 18)]) hC hW (ctY0_isThere e14) (cwV_g hC.2.2.2.2 ml_X10_193 mi_X10_isThere md_X10_isThere ⟨(Nat.le_trans (Nat.le_of_ble_eq_true rfl) hF), (Nat.le_trans (Nat.le_of_ble_eq_true rfl) hL)⟩) (rcY0 hW) rfl hl.1 rfl (Nat.le_of_ble_eq_true rfl) dX10_setEnds_60) hW (fun H locs hW => ?_)
  obtain ⟨t16, e17, h⟩ := bd h
  have K15 : ∀ (H : Heap) (locs : List Loc) (ls : Array Slot), wg LY G S s H locs → lv_has ls 5 [(0, .ref (ad G 0)), (1, .int x1), (3, .int t11.2)] → W p l e R s m args below meth c H locs 0 0 Q (F0 m 71 ls [.int t16, .int x1, .ref (ad G 18)]) := by
    intro H locs ls hW hl
    obtain ⟨g19, h⟩ := gd_some h
    refine x_iast hC hW aY18 g19 dX10_setEnds_71 (fun H locs hW => ?_)
    obtain ⟨s20, e21, h⟩ := nx_some h
    rw [← e21] at hW
    refine lv_aload_n hx hb dX10_setEnds_72 rfl (lv_at hl 0 rfl) ?_
    refine gY0_26 hC hW dX10_setEnds_73 ?_
    refine lv_iload_n hx hb dX10_setEnds_76 rfl (lv_at hl 1 rfl) ?_
    refine lv_aload_n hx hb dX10_setEnds_77 rfl (lv_at hl 0 rfl) ?_
    refine lv_iload_n hx hb dX10_setEnds_78 rfl (lv_at hl 1 rfl) ?_
    obtain ⟨t22, e23, h⟩ := bd h
    refine x_goi (x_rv (rest := [.int x1, .ref (ad G 19)]) hC hW (ctY0_isThere e23) (cwV_g hC.2.2.2.2 ml_X10_193 mi_X10_isThere md_X10_isThere ⟨(Nat.le_trans (Nat.le_of_ble_eq_true rfl) hF), (Nat.le_trans (Nat.le_of_ble_eq_true rfl) hL)⟩) (rcY0 hW) rfl hl.1 rfl (Nat.le_of_ble_eq_true rfl) dX10_setEnds_79) hW (fun H locs hW => ?_)
    obtain ⟨t25, e26, h⟩ := bd h
    have K24 : ∀ (H : Heap) (locs : List Loc) (ls : Array Slot), wg LY G s20 s H locs → lv_has ls 5 [(0, .ref (ad G 0)), (1, .int x1), (3, .int t11.2)] → W p l e R s m args below meth c H locs 0 0 Q (F0 m 90 ls [.int t25, .int x1, .ref (ad G 19)]) := by
      intro H locs ls hW hl
      obtain ⟨g28, h⟩ := gd_some h
      refine x_iast hC hW aY19 g28 dX10_setEnds_90 (fun H locs hW => ?_)
      obtain ⟨s29, e30, h⟩ := nx_some h
      rw [← e30] at hW
      refine lv_aload_n hx hb dX10_setEnds_91 rfl (lv_at hl 0 rfl) ?_
      refine lv_iload_n hx hb dX10_setEnds_92 rfl (lv_at hl 1 rfl) ?_
      obtain ⟨t31, e32, h⟩ := bd h
      refine x_goi (x_rv (rest := []) hC hW (ctY0_isThere e32) (cwV_g hC.2.2.2.2 ml_X10_193 mi_X10_isThere md_X10_isThere ⟨(Nat.le_trans (Nat.le_of_ble_eq_true rfl) hF), (Nat.le_trans (Nat.le_of_ble_eq_true rfl) hL)⟩) (rcY0 hW) rfl hl.1 rfl (Nat.le_of_ble_eq_true rfl) dX10_setEnds_93) hW (fun H locs hW => ?_)
      obtain ⟨t34, e35, h⟩ := bd h
      have K33 : ∀ (H : Heap) (locs : List Loc) (ls : Array Slot), wg LY G s29 s H locs → lv_has ls 5 [] → W p l e R s m args below meth c H locs 0 0 Q (F0 m 108 ls [.int t34]) := by
        intro H locs ls hW hl
        obtain ⟨g38, h⟩ := gd_some h
        cases h
        exact kr _ _ _ _ g38 dX10_setEnds_108 hW
      clear h
      have h := e35
      clear e35
      refine lv_if_eq (tgt := 103) hx hb dX10_setEnds_96 (by decide) (fun q36 => ?_) (fun q36 => ?_)
      · have h := it_p q36 h
        refine lv_iconst (v := 1) hx hb dX10_setEnds_103 (by decide) ?_
        refine lv_goto (tgt := 108) hx hb dX10_setEnds_104 (by decide) ?_
        cases h
        exact K33 _ _ _ hW (lv_sub hl [] rfl)
      · have h := it_n q36 h
        refine lv_iload_n hx hb dX10_setEnds_99 rfl (lv_at hl 2 rfl) ?_
        refine lv_if_lt (tgt := 107) hx hb dX10_setEnds_100 (by decide) (fun q37 => ?_) (fun q37 => ?_)
        · have h := it_p q37 h
          refine lv_iconst (v := 0) hx hb dX10_setEnds_107 (by decide) ?_
          cases h
          exact K33 _ _ _ hW (lv_sub hl [] rfl)
        · have h := it_n q37 h
          refine lv_iconst (v := 1) hx hb dX10_setEnds_103 (by decide) ?_
          refine lv_goto (tgt := 108) hx hb dX10_setEnds_104 (by decide) ?_
          cases h
          exact K33 _ _ _ hW (lv_sub hl [] rfl)
    clear h
    have h := e26
    clear e26
    refine lv_if_eq (tgt := 89) hx hb dX10_setEnds_82 (by decide) (fun q27 => ?_) (fun q27 => ?_)
    · have h := it_p q27 h
      refine lv_iconst (v := 0) hx hb dX10_setEnds_89 (by decide) ?_
      cases h
      exact K24 _ _ _ hW (lv_sub hl [0, 1, 2] rfl)
    · have h := it_n q27 h
      refine lv_iload_n hx hb dX10_setEnds_85 rfl (lv_at hl 2 rfl) ?_
      refine lv_goto (tgt := 90) hx hb dX10_setEnds_86 (by decide) ?_
      cases h
      exact K24 _ _ _ hW (lv_sub hl [0, 1, 2] rfl)
  clear h
  have h := e17
  clear e17
  refine lv_if_eq (tgt := 70) hx hb dX10_setEnds_63 (by decide) (fun q18 => ?_) (fun q18 => ?_)
  · have h := it_p q18 h
    refine lv_iconst (v := 0) hx hb dX10_setEnds_70 (by decide) ?_
    cases h
    exact K15 _ _ _ hW (lv_sub hl [0, 1, 3] rfl)
  · have h := it_n q18 h
    refine lv_iload_n hx hb dX10_setEnds_66 rfl (lv_at hl 2 rfl) ?_
    refine lv_goto (tgt := 71) hx hb dX10_setEnds_67 (by decide) ?_
    cases h
    exact K15 _ _ _ hW (lv_sub hl [0, 1, 3] rfl)
theorem ctY0_setEnds {N : Nat} {S : St} {x1 : Int32}  {v : Int32} {S' : St} (h : fY0_setEnds N S x1 = some (v, S')) : Met l yX10_setEnds (wm yX10_setEnds cX10_setEnds 5 (some .boolean)) (rmx 1 21) (pcm LY G S [.ref (ad G 0), .int x1]) (qcI LY G S' v) 0 0 G.2.2.2 :=
  x_enter (own := RX10) rfl rfl (Nat.le_of_ble_eq_true rfl) (fun p e s m below meth c ls hC hr hk hW hl => wY0_setEnds hC (Nat.le_refl _) (Nat.le_refl _)  h (fun H locs ls pc hz hd hW => x_retz hC hr hk hW hz hd) _ _ _ hW hl)
end GEN
